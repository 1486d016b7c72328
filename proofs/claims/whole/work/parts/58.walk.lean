/-! CONSTRUCTORS: Walk -/
abbrev S18 : List Nat := [4, 5, 6, 7, 8, 9, 10, 11, 12, 13, 14, 15, 16, 17, 18, 19, 20, 21]
theorem S18_cell {ad ad0 : Nat → Nat} {cs : Nat → ClassId} {M M1 : xm} (hu : ∀ k, k < 22 → ad k = ad0 k) (hk : ∀ a, a < 22 → M1.1 a = M.1 a) {k : Nat} (h : k ∈ S18) : xcell ad cs M1 k = xcell ad0 cs M k := by
  simp only [List.mem_cons, List.not_mem_nil, or_false] at h
  have o : ∀ r, r = 4 ∨ r = 13 → xcell ad cs M1 r = xcell ad0 cs M r := by
    intro r hr
    have hy : xlay r = (0, 1) := by rcases hr with rfl | rfl <;> rfl
    unfold xcell
    rw [hk r (by omega), hy]
    show Sum.inr (1, [_, Value.ref (ad (r + 1)), Value.ref (ad (r + 2)), Value.ref (ad (r + 3)), Value.ref (ad (r + 4)), _, _, Value.ref (ad (r + 5)), Value.ref (ad (r + 6)), Value.ref (ad (r + 7)), Value.ref (ad (r + 8)), _, _]) = _
    rw [hu (r + 1) (by omega), hu (r + 2) (by omega), hu (r + 3) (by omega), hu (r + 4) (by omega), hu (r + 5) (by omega), hu (r + 6) (by omega), hu (r + 7) (by omega), hu (r + 8) (by omega)]
    rfl
  have a : ∀ r n, xlay r = (1, n) → r < 22 → xcell ad cs M1 r = xcell ad0 cs M r := by
    intro r n hy hr
    unfold xcell
    rw [hk r hr, hy]
    rfl
  rcases h with rfl | rfl | rfl | rfl | rfl | rfl | rfl | rfl | rfl | rfl | rfl | rfl | rfl | rfl | rfl | rfl | rfl | rfl
  · exact o 4 (Or.inl rfl)
  · exact a 5 _ rfl (by decide)
  · exact a 6 _ rfl (by decide)
  · exact a 7 _ rfl (by decide)
  · exact a 8 _ rfl (by decide)
  · exact a 9 _ rfl (by decide)
  · exact a 10 _ rfl (by decide)
  · exact a 11 _ rfl (by decide)
  · exact a 12 _ rfl (by decide)
  · exact o 13 (Or.inr rfl)
  · exact a 14 _ rfl (by decide)
  · exact a 15 _ rfl (by decide)
  · exact a 16 _ rfl (by decide)
  · exact a 17 _ rfl (by decide)
  · exact a 18 _ rfl (by decide)
  · exact a 19 _ rfl (by decide)
  · exact a 20 _ rfl (by decide)
  · exact a 21 _ rfl (by decide)
theorem S18_cong {ad ad0 : Nat → Nat} {cs : Nat → ClassId} {M M1 : xm} (hu : ∀ k, k < 22 → ad k = ad0 k) (hk : ∀ a, a < 22 → M1.1 a = M.1 a) : S18.map (fun k => (ad k, xcell ad cs M1 k)) = S18.map (fun k => (ad0 k, xcell ad0 cs M k)) := by
  refine List.map_congr_left (fun k h => ?_)
  have : k < 22 := by simp only [List.mem_cons, List.not_mem_nil, or_false] at h; omega
  rw [hu k this, S18_cell hu hk h]
theorem dX4_init_0 : decode cX4_init 0 = .ok (.aload_n 0, 1) := by decide +kernel
theorem dX4_init_1 : decode cX4_init 1 = .ok (.invokespecial 3, 3) := by decide +kernel
theorem dX4_init_4 : decode cX4_init 4 = .ok (.aload_n 0, 1) := by decide +kernel
theorem dX4_init_5 : decode cX4_init 5 = .ok (.bipush 8, 2) := by decide +kernel
theorem dX4_init_7 : decode cX4_init 7 = .ok (.newarray .int, 2) := by decide +kernel
theorem dX4_init_9 : decode cX4_init 9 = .ok (.putfield 9, 3) := by decide +kernel
theorem dX4_init_12 : decode cX4_init 12 = .ok (.aload_n 0, 1) := by decide +kernel
theorem dX4_init_13 : decode cX4_init 13 = .ok (.iconst 4, 1) := by decide +kernel
theorem dX4_init_14 : decode cX4_init 14 = .ok (.newarray .int, 2) := by decide +kernel
theorem dX4_init_16 : decode cX4_init 16 = .ok (.putfield 15, 3) := by decide +kernel
theorem dX4_init_19 : decode cX4_init 19 = .ok (.aload_n 0, 1) := by decide +kernel
theorem dX4_init_20 : decode cX4_init 20 = .ok (.iconst 4, 1) := by decide +kernel
theorem dX4_init_21 : decode cX4_init 21 = .ok (.newarray .int, 2) := by decide +kernel
theorem dX4_init_23 : decode cX4_init 23 = .ok (.putfield 18, 3) := by decide +kernel
theorem dX4_init_26 : decode cX4_init 26 = .ok (.aload_n 0, 1) := by decide +kernel
theorem dX4_init_27 : decode cX4_init 27 = .ok (.iconst 4, 1) := by decide +kernel
theorem dX4_init_28 : decode cX4_init 28 = .ok (.newarray .int, 2) := by decide +kernel
theorem dX4_init_30 : decode cX4_init 30 = .ok (.putfield 21, 3) := by decide +kernel
theorem dX4_init_33 : decode cX4_init 33 = .ok (.aload_n 0, 1) := by decide +kernel
theorem dX4_init_34 : decode cX4_init 34 = .ok (.aload_n 1, 1) := by decide +kernel
theorem dX4_init_35 : decode cX4_init 35 = .ok (.invokevirtual 24, 3) := by decide +kernel
theorem dX4_init_38 : decode cX4_init 38 = .ok (.return_, 1) := by decide +kernel
abbrev eX4 : va_E := .inr (4, [.null, .null, .null, .null, .null, .int 0])
def rmX4_init : Room := { frames := 2, cells := 4, slots := 20, locals := 45 }
set_option maxRecDepth 20000 in
theorem kX4_init_22 (l : Launch) (D : va_G) (cs : Nat → ClassId) (ad0 : Nat → Nat) (M : xm) {R : tR} (hR : laidR R) (hrd : rdX M 4 R) (h0 sz : Nat) : Met l yX4_init [Cond.code yX4_init cX4_init 2 none] rmX4_init (XN D cs [.ref h0, .ref (ad0 4)] ((h0, eX4) :: xw S18 ad0 cs M) sz) (XE D (fun u : (Nat → Nat) × xm => u.1 22 = h0 ∧ (∀ k, k < 22 → u.1 k = ad0 k) ∧ (∀ a, a < 22 → u.2.1 a = M.1 a) ∧ encX u.2 22 (laidS R) ∧ u.2.2 22 = false) (fun u => xw S18 ad0 cs M ++ xw [22, 23, 24, 25, 26] u.1 cs u.2) (va_A ((h0, eX4) :: xw S18 ad0 cs M) sz)) 4 20 (va_A ((h0, eX4) :: xw S18 ad0 cs M) sz) := by
  refine xi_of (own := RX4) (lv := [(0, .ref h0), (1, .ref (ad0 4))]) (by decide +kernel) rfl rfl rfl (Nat.le_of_ble_eq_true rfl) (fun p e s m args below meth c A ls Z hA hP hD hl => ?_)
  have hS : va_S A s.heap s.heap [] := va_S.rf
  obtain ⟨X, hX⟩ : ∃ X, X = xw S18 ad0 cs M := ⟨_, rfl⟩
  rw [← hX] at hP hD
  have hP : va_P D classes ((h0, eX4) :: (X ++ [])) s.heap := by rw [List.append_nil]; exact hP
  have hD : va_D A ((h0, eX4) :: (X ++ [])) := by rw [List.append_nil]; exact hD
  refine lv_aload_n Z.1 Z.2.1 dX4_init_0 rfl (lv_at hl 0 rfl) ?_
  refine xi_obj Z xb_202 hl ⟨Nat.le_of_ble_eq_true rfl, Nat.le_of_ble_eq_true rfl⟩ dX4_init_1 ?_
  refine lv_aload_n Z.1 Z.2.1 dX4_init_4 rfl (lv_at hl 0 rfl) ?_
  refine lv_bipush (v := 8) Z.1 Z.2.1 dX4_init_5 (by decide) ?_
  refine xi_newi (N := 8) Z hP hD hS hA (by decide) rfl (by decide) ⟨Nat.le_of_ble_eq_true rfl, Nat.le_of_ble_eq_true rfl⟩ dX4_init_7 (fun q7 H hP hD hS => ?_)
  have hP : va_P D classes ((h0, .inr (4, [.null, .null, .null, .null, .null, .int 0])) :: (X ++ [(q7, .inl (cs 0, 8, .inl (fun _ => 0)))])) H := by first | exact hP | simpa only [List.cons_append, List.append_assoc, List.append_nil, List.nil_append] using hP
  have hD : va_D A ((h0, .inr (4, [.null, .null, .null, .null, .null, .int 0])) :: (X ++ [(q7, .inl (cs 0, 8, .inl (fun _ => 0)))])) := by first | exact hD | simpa only [List.cons_append, List.append_assoc, List.append_nil, List.nil_append] using hD
  refine W.widen (k := 1) (n := 8) (by decide) (by decide) ?_
  refine xi_putF Z hP hD hS 1 rfl rfl iX4 tyX4_ok nmX4 (by decide) xb_15 rfl rfl rfl rfl (Nat.le_of_ble_eq_true rfl) dX4_init_9 (fun H locs hP hD hS => ?_)
  have hP : va_P D classes ((h0, .inr (4, [.null, .ref q7, .null, .null, .null, .int 0])) :: (X ++ [(q7, .inl (cs 0, 8, .inl (fun _ => 0)))])) H := by first | exact hP | simpa only [List.cons_append, List.append_assoc, List.append_nil, List.nil_append] using hP
  have hD : va_D A ((h0, .inr (4, [.null, .ref q7, .null, .null, .null, .int 0])) :: (X ++ [(q7, .inl (cs 0, 8, .inl (fun _ => 0)))])) := by first | exact hD | simpa only [List.cons_append, List.append_assoc, List.append_nil, List.nil_append] using hD
  refine lv_aload_n Z.1 Z.2.1 dX4_init_12 rfl (lv_at hl 0 rfl) ?_
  refine lv_iconst (v := 4) Z.1 Z.2.1 dX4_init_13 (by decide) ?_
  refine xi_newi (N := 4) Z hP hD hS hA (by decide) rfl (by decide) ⟨Nat.le_of_ble_eq_true rfl, Nat.le_of_ble_eq_true rfl⟩ dX4_init_14 (fun q14 H hP hD hS => ?_)
  have hP : va_P D classes ((h0, .inr (4, [.null, .ref q7, .null, .null, .null, .int 0])) :: (X ++ [(q7, .inl (cs 0, 8, .inl (fun _ => 0))), (q14, .inl (cs 0, 4, .inl (fun _ => 0)))])) H := by first | exact hP | simpa only [List.cons_append, List.append_assoc, List.append_nil, List.nil_append] using hP
  have hD : va_D A ((h0, .inr (4, [.null, .ref q7, .null, .null, .null, .int 0])) :: (X ++ [(q7, .inl (cs 0, 8, .inl (fun _ => 0))), (q14, .inl (cs 0, 4, .inl (fun _ => 0)))])) := by first | exact hD | simpa only [List.cons_append, List.append_assoc, List.append_nil, List.nil_append] using hD
  refine W.widen (k := 2) (n := 12) (by decide) (by decide) ?_
  refine xi_putF Z hP hD hS 2 rfl rfl iX4 tyX4_ok nmX4 (by decide) xb_47 rfl rfl rfl rfl (Nat.le_of_ble_eq_true rfl) dX4_init_16 (fun H locs hP hD hS => ?_)
  have hP : va_P D classes ((h0, .inr (4, [.null, .ref q7, .ref q14, .null, .null, .int 0])) :: (X ++ [(q7, .inl (cs 0, 8, .inl (fun _ => 0))), (q14, .inl (cs 0, 4, .inl (fun _ => 0)))])) H := by first | exact hP | simpa only [List.cons_append, List.append_assoc, List.append_nil, List.nil_append] using hP
  have hD : va_D A ((h0, .inr (4, [.null, .ref q7, .ref q14, .null, .null, .int 0])) :: (X ++ [(q7, .inl (cs 0, 8, .inl (fun _ => 0))), (q14, .inl (cs 0, 4, .inl (fun _ => 0)))])) := by first | exact hD | simpa only [List.cons_append, List.append_assoc, List.append_nil, List.nil_append] using hD
  refine lv_aload_n Z.1 Z.2.1 dX4_init_19 rfl (lv_at hl 0 rfl) ?_
  refine lv_iconst (v := 4) Z.1 Z.2.1 dX4_init_20 (by decide) ?_
  refine xi_newi (N := 4) Z hP hD hS hA (by decide) rfl (by decide) ⟨Nat.le_of_ble_eq_true rfl, Nat.le_of_ble_eq_true rfl⟩ dX4_init_21 (fun q21 H hP hD hS => ?_)
  have hP : va_P D classes ((h0, .inr (4, [.null, .ref q7, .ref q14, .null, .null, .int 0])) :: (X ++ [(q7, .inl (cs 0, 8, .inl (fun _ => 0))), (q14, .inl (cs 0, 4, .inl (fun _ => 0))), (q21, .inl (cs 0, 4, .inl (fun _ => 0)))])) H := by first | exact hP | simpa only [List.cons_append, List.append_assoc, List.append_nil, List.nil_append] using hP
  have hD : va_D A ((h0, .inr (4, [.null, .ref q7, .ref q14, .null, .null, .int 0])) :: (X ++ [(q7, .inl (cs 0, 8, .inl (fun _ => 0))), (q14, .inl (cs 0, 4, .inl (fun _ => 0))), (q21, .inl (cs 0, 4, .inl (fun _ => 0)))])) := by first | exact hD | simpa only [List.cons_append, List.append_assoc, List.append_nil, List.nil_append] using hD
  refine W.widen (k := 3) (n := 16) (by decide) (by decide) ?_
  refine xi_putF Z hP hD hS 3 rfl rfl iX4 tyX4_ok nmX4 (by decide) xb_196 rfl rfl rfl rfl (Nat.le_of_ble_eq_true rfl) dX4_init_23 (fun H locs hP hD hS => ?_)
  have hP : va_P D classes ((h0, .inr (4, [.null, .ref q7, .ref q14, .ref q21, .null, .int 0])) :: (X ++ [(q7, .inl (cs 0, 8, .inl (fun _ => 0))), (q14, .inl (cs 0, 4, .inl (fun _ => 0))), (q21, .inl (cs 0, 4, .inl (fun _ => 0)))])) H := by first | exact hP | simpa only [List.cons_append, List.append_assoc, List.append_nil, List.nil_append] using hP
  have hD : va_D A ((h0, .inr (4, [.null, .ref q7, .ref q14, .ref q21, .null, .int 0])) :: (X ++ [(q7, .inl (cs 0, 8, .inl (fun _ => 0))), (q14, .inl (cs 0, 4, .inl (fun _ => 0))), (q21, .inl (cs 0, 4, .inl (fun _ => 0)))])) := by first | exact hD | simpa only [List.cons_append, List.append_assoc, List.append_nil, List.nil_append] using hD
  refine lv_aload_n Z.1 Z.2.1 dX4_init_26 rfl (lv_at hl 0 rfl) ?_
  refine lv_iconst (v := 4) Z.1 Z.2.1 dX4_init_27 (by decide) ?_
  refine xi_newi (N := 4) Z hP hD hS hA (by decide) rfl (by decide) ⟨Nat.le_of_ble_eq_true rfl, Nat.le_of_ble_eq_true rfl⟩ dX4_init_28 (fun q28 H hP hD hS => ?_)
  have hP : va_P D classes ((h0, .inr (4, [.null, .ref q7, .ref q14, .ref q21, .null, .int 0])) :: (X ++ [(q7, .inl (cs 0, 8, .inl (fun _ => 0))), (q14, .inl (cs 0, 4, .inl (fun _ => 0))), (q21, .inl (cs 0, 4, .inl (fun _ => 0))), (q28, .inl (cs 0, 4, .inl (fun _ => 0)))])) H := by first | exact hP | simpa only [List.cons_append, List.append_assoc, List.append_nil, List.nil_append] using hP
  have hD : va_D A ((h0, .inr (4, [.null, .ref q7, .ref q14, .ref q21, .null, .int 0])) :: (X ++ [(q7, .inl (cs 0, 8, .inl (fun _ => 0))), (q14, .inl (cs 0, 4, .inl (fun _ => 0))), (q21, .inl (cs 0, 4, .inl (fun _ => 0))), (q28, .inl (cs 0, 4, .inl (fun _ => 0)))])) := by first | exact hD | simpa only [List.cons_append, List.append_assoc, List.append_nil, List.nil_append] using hD
  refine W.widen (k := 4) (n := 20) (by decide) (by decide) ?_
  refine xi_putF Z hP hD hS 4 rfl rfl iX4 tyX4_ok nmX4 (by decide) xb_197 rfl rfl rfl rfl (Nat.le_of_ble_eq_true rfl) dX4_init_30 (fun H locs hP hD hS => ?_)
  have hP : va_P D classes ((h0, .inr (4, [.null, .ref q7, .ref q14, .ref q21, .ref q28, .int 0])) :: (X ++ [(q7, .inl (cs 0, 8, .inl (fun _ => 0))), (q14, .inl (cs 0, 4, .inl (fun _ => 0))), (q21, .inl (cs 0, 4, .inl (fun _ => 0))), (q28, .inl (cs 0, 4, .inl (fun _ => 0)))])) H := by first | exact hP | simpa only [List.cons_append, List.append_assoc, List.append_nil, List.nil_append] using hP
  have hD : va_D A ((h0, .inr (4, [.null, .ref q7, .ref q14, .ref q21, .ref q28, .int 0])) :: (X ++ [(q7, .inl (cs 0, 8, .inl (fun _ => 0))), (q14, .inl (cs 0, 4, .inl (fun _ => 0))), (q21, .inl (cs 0, 4, .inl (fun _ => 0))), (q28, .inl (cs 0, 4, .inl (fun _ => 0)))])) := by first | exact hD | simpa only [List.cons_append, List.append_assoc, List.append_nil, List.nil_append] using hD
  refine lv_aload_n Z.1 Z.2.1 dX4_init_33 rfl (lv_at hl 0 rfl) ?_
  refine lv_aload_n Z.1 Z.2.1 dX4_init_34 rfl (lv_at hl 1 rfl) ?_
  subst hX
  have hw : xWalk (22 :: (S18 ++ [23, 24, 25, 26])) 22 := ⟨Or.inl rfl, by decide, fun b => by cases b <;> exact ⟨by decide, by decide⟩⟩
  obtain ⟨u, hu⟩ : ∃ u, u = (fun k => if k < 22 then ad0 k else [h0, q7, q14, q21, q28].getD (k - 22) 0) := ⟨_, rfl⟩
  obtain ⟨Mb, hMb⟩ : ∃ Mb, Mb = ((fun a => if a < 22 then M.1 a else fun _ => 0, fun _ => false) : xm) := ⟨_, rfl⟩
  have e0 : (xw (22 :: (S18 ++ [23, 24, 25, 26])) u cs Mb).set 0 (u 22, .inr (4, [.null, .ref (u (22 + 1)), .ref (u (22 + 2)), .ref (u (22 + 3)), .ref (u (22 + 4)), .int (Mb.1 22 5)])) = (h0, .inr (4, [.null, .ref q7, .ref q14, .ref q21, .ref q28, .int 0])) :: (xw S18 ad0 cs M ++ [(q7, .inl (cs 0, 8, .inl (fun _ => 0))), (q14, .inl (cs 0, 4, .inl (fun _ => 0))), (q21, .inl (cs 0, 4, .inl (fun _ => 0))), (q28, .inl (cs 0, 4, .inl (fun _ => 0)))]) := by rw [hu, hMb]; rfl
  have hu0 : u 22 = h0 := by rw [hu]; rfl
  have hu4 : u 4 = ad0 4 := by rw [hu]; rfl
  have huk : ∀ k, k < 22 → u k = ad0 k := fun k hk => by rw [hu]; exact if_pos hk
  have hMk : ∀ a, a < 22 → Mb.1 a = M.1 a := fun a ha => by rw [hMb]; exact if_pos ha
  have hb : rdX Mb 4 R := hrd.same (fun a _ h => hMk a (by omega))
  obtain ⟨M1, x1, x2, x3, x4⟩ := X_begin (M := Mb) (w := 22) (r := 4) (by unfold isW; omega) (Or.inl rfl) hR hb
  rw [← e0] at hP hD
  have hDx : va_D A (xw (22 :: (S18 ++ [23, 24, 25, 26])) u cs Mb) := by
    have := hD.set (p := 0) (a := u 22) (e := xcell u cs Mb 22) (by rw [List.getElem?_set_self (by show 0 < _ + 1; omega)])
    rw [List.set_set] at this
    exact this
  refine xi_callG (w1 := []) (wd := xw (22 :: (S18 ++ [23, 24, 25, 26])) u cs M1) (o := u 22) (As := [.ref (u 4)]) (rest := []) (n := 1) (q0 := 0) (T := TX4) (N := 6) Z (kX4_begin0 l D cs _ u (xw_dist hDx (by decide)) hw ⟨Or.inl rfl, by decide⟩ Mb (q0 := 0) rfl M1 x1) (fun q h => ?_) ?_ hP hD hS hA (xq_5 xb_203 xb_204 xb_205 xb_24 xb_195) (by rw [List.getElem?_set_self (by show 0 < _ + 1; omega)]) rfl ⟨rfl, by decide +kernel, by decide +kernel, by decide +kernel⟩ rfl ⟨rfl, rfl⟩ ⟨Nat.le_of_ble_eq_true rfl, Nat.le_of_ble_eq_true rfl⟩ hl (by rw [hu0, hu4]; rfl) (Nat.le_of_ble_eq_true rfl) ⟨Nat.le_of_ble_eq_true rfl, Nat.le_of_ble_eq_true rfl⟩ dX4_init_35 (fun H locs hP hD hS => ?_)
  · obtain ⟨k, hk, rfl⟩ := h
    obtain ⟨i, hi⟩ := List.getElem?_of_mem hk
    by_cases hi0 : i = 0
    · subst hi0; cases hi; exact Or.inl ⟨0, _, by rw [List.getElem?_set_self (by show 0 < _ + 1; omega)]⟩
    · exact Or.inl ⟨i, xcell u cs Mb k, by rw [List.getElem?_set_ne (Ne.symm hi0)]; unfold xw; rw [List.getElem?_map, hi]; rfl⟩
  · have := (hD.self (sz := H.size)).set (p := 0) (a := u 22) (e := xcell u cs Mb 22) (by rw [List.getElem?_set_self (by show 0 < _ + 1; omega)])
    rw [List.set_set] at this
    exact xw_m this
  have hk1 : ∀ a, a < 22 → M1.1 a = M.1 a := fun a ha => (x3 a (by omega)).trans (hMk a ha)
  have e2 : xw (S18 ++ [22, 23, 24, 25, 26]) u cs M1 = xw S18 ad0 cs M ++ xw [22, 23, 24, 25, 26] u cs M1 := by
    unfold xw
    rw [List.map_append]
    congr 1
    exact S18_cong huk hk1
  have hP2 : va_P D classes (xw (S18 ++ [22, 23, 24, 25, 26]) u cs M1) H := hP.sub [1, 2, 3, 4, 5, 6, 7, 8, 9, 10, 11, 12, 13, 14, 15, 16, 17, 18, 0, 19, 20, 21, 22] rfl
  have hD2 : va_D A (xw (S18 ++ [22, 23, 24, 25, 26]) u cs M1) := hD.sub [1, 2, 3, 4, 5, 6, 7, 8, 9, 10, 11, 12, 13, 14, 15, 16, 17, 18, 0, 19, 20, 21, 22] (by decide) rfl
  rw [e2] at hP2 hD2
  exact xi_ret Z (u, M1) ⟨hu0, huk, hk1, x2.2.2.2.1, by rw [x4]; exact upr_same⟩ hP2 hD2 hS dX4_init_38
set_option maxRecDepth 20000 in
theorem kX4_init_27 (l : Launch) (D : va_G) (cs : Nat → ClassId) (ad0 : Nat → Nat) (M : xm) {R : tR} (hR : laidR R) (hrd : rdX M 4 R) (h0 sz : Nat) : Met l yX4_init [Cond.code yX4_init cX4_init 2 none] rmX4_init (XN D cs [.ref h0, .ref (ad0 4)] ((h0, eX4) :: xw S18 ad0 cs M) sz) (XE D (fun u : (Nat → Nat) × xm => u.1 27 = h0 ∧ (∀ k, k < 22 → u.1 k = ad0 k) ∧ (∀ a, a < 22 → u.2.1 a = M.1 a) ∧ encX u.2 27 (laidS R) ∧ u.2.2 27 = false) (fun u => xw S18 ad0 cs M ++ xw [27, 28, 29, 30, 31] u.1 cs u.2) (va_A ((h0, eX4) :: xw S18 ad0 cs M) sz)) 4 20 (va_A ((h0, eX4) :: xw S18 ad0 cs M) sz) := by
  refine xi_of (own := RX4) (lv := [(0, .ref h0), (1, .ref (ad0 4))]) (by decide +kernel) rfl rfl rfl (Nat.le_of_ble_eq_true rfl) (fun p e s m args below meth c A ls Z hA hP hD hl => ?_)
  have hS : va_S A s.heap s.heap [] := va_S.rf
  obtain ⟨X, hX⟩ : ∃ X, X = xw S18 ad0 cs M := ⟨_, rfl⟩
  rw [← hX] at hP hD
  have hP : va_P D classes ((h0, eX4) :: (X ++ [])) s.heap := by rw [List.append_nil]; exact hP
  have hD : va_D A ((h0, eX4) :: (X ++ [])) := by rw [List.append_nil]; exact hD
  refine lv_aload_n Z.1 Z.2.1 dX4_init_0 rfl (lv_at hl 0 rfl) ?_
  refine xi_obj Z xb_202 hl ⟨Nat.le_of_ble_eq_true rfl, Nat.le_of_ble_eq_true rfl⟩ dX4_init_1 ?_
  refine lv_aload_n Z.1 Z.2.1 dX4_init_4 rfl (lv_at hl 0 rfl) ?_
  refine lv_bipush (v := 8) Z.1 Z.2.1 dX4_init_5 (by decide) ?_
  refine xi_newi (N := 8) Z hP hD hS hA (by decide) rfl (by decide) ⟨Nat.le_of_ble_eq_true rfl, Nat.le_of_ble_eq_true rfl⟩ dX4_init_7 (fun q7 H hP hD hS => ?_)
  have hP : va_P D classes ((h0, .inr (4, [.null, .null, .null, .null, .null, .int 0])) :: (X ++ [(q7, .inl (cs 0, 8, .inl (fun _ => 0)))])) H := by first | exact hP | simpa only [List.cons_append, List.append_assoc, List.append_nil, List.nil_append] using hP
  have hD : va_D A ((h0, .inr (4, [.null, .null, .null, .null, .null, .int 0])) :: (X ++ [(q7, .inl (cs 0, 8, .inl (fun _ => 0)))])) := by first | exact hD | simpa only [List.cons_append, List.append_assoc, List.append_nil, List.nil_append] using hD
  refine W.widen (k := 1) (n := 8) (by decide) (by decide) ?_
  refine xi_putF Z hP hD hS 1 rfl rfl iX4 tyX4_ok nmX4 (by decide) xb_15 rfl rfl rfl rfl (Nat.le_of_ble_eq_true rfl) dX4_init_9 (fun H locs hP hD hS => ?_)
  have hP : va_P D classes ((h0, .inr (4, [.null, .ref q7, .null, .null, .null, .int 0])) :: (X ++ [(q7, .inl (cs 0, 8, .inl (fun _ => 0)))])) H := by first | exact hP | simpa only [List.cons_append, List.append_assoc, List.append_nil, List.nil_append] using hP
  have hD : va_D A ((h0, .inr (4, [.null, .ref q7, .null, .null, .null, .int 0])) :: (X ++ [(q7, .inl (cs 0, 8, .inl (fun _ => 0)))])) := by first | exact hD | simpa only [List.cons_append, List.append_assoc, List.append_nil, List.nil_append] using hD
  refine lv_aload_n Z.1 Z.2.1 dX4_init_12 rfl (lv_at hl 0 rfl) ?_
  refine lv_iconst (v := 4) Z.1 Z.2.1 dX4_init_13 (by decide) ?_
  refine xi_newi (N := 4) Z hP hD hS hA (by decide) rfl (by decide) ⟨Nat.le_of_ble_eq_true rfl, Nat.le_of_ble_eq_true rfl⟩ dX4_init_14 (fun q14 H hP hD hS => ?_)
  have hP : va_P D classes ((h0, .inr (4, [.null, .ref q7, .null, .null, .null, .int 0])) :: (X ++ [(q7, .inl (cs 0, 8, .inl (fun _ => 0))), (q14, .inl (cs 0, 4, .inl (fun _ => 0)))])) H := by first | exact hP | simpa only [List.cons_append, List.append_assoc, List.append_nil, List.nil_append] using hP
  have hD : va_D A ((h0, .inr (4, [.null, .ref q7, .null, .null, .null, .int 0])) :: (X ++ [(q7, .inl (cs 0, 8, .inl (fun _ => 0))), (q14, .inl (cs 0, 4, .inl (fun _ => 0)))])) := by first | exact hD | simpa only [List.cons_append, List.append_assoc, List.append_nil, List.nil_append] using hD
  refine W.widen (k := 2) (n := 12) (by decide) (by decide) ?_
  refine xi_putF Z hP hD hS 2 rfl rfl iX4 tyX4_ok nmX4 (by decide) xb_47 rfl rfl rfl rfl (Nat.le_of_ble_eq_true rfl) dX4_init_16 (fun H locs hP hD hS => ?_)
  have hP : va_P D classes ((h0, .inr (4, [.null, .ref q7, .ref q14, .null, .null, .int 0])) :: (X ++ [(q7, .inl (cs 0, 8, .inl (fun _ => 0))), (q14, .inl (cs 0, 4, .inl (fun _ => 0)))])) H := by first | exact hP | simpa only [List.cons_append, List.append_assoc, List.append_nil, List.nil_append] using hP
  have hD : va_D A ((h0, .inr (4, [.null, .ref q7, .ref q14, .null, .null, .int 0])) :: (X ++ [(q7, .inl (cs 0, 8, .inl (fun _ => 0))), (q14, .inl (cs 0, 4, .inl (fun _ => 0)))])) := by first | exact hD | simpa only [List.cons_append, List.append_assoc, List.append_nil, List.nil_append] using hD
  refine lv_aload_n Z.1 Z.2.1 dX4_init_19 rfl (lv_at hl 0 rfl) ?_
  refine lv_iconst (v := 4) Z.1 Z.2.1 dX4_init_20 (by decide) ?_
  refine xi_newi (N := 4) Z hP hD hS hA (by decide) rfl (by decide) ⟨Nat.le_of_ble_eq_true rfl, Nat.le_of_ble_eq_true rfl⟩ dX4_init_21 (fun q21 H hP hD hS => ?_)
  have hP : va_P D classes ((h0, .inr (4, [.null, .ref q7, .ref q14, .null, .null, .int 0])) :: (X ++ [(q7, .inl (cs 0, 8, .inl (fun _ => 0))), (q14, .inl (cs 0, 4, .inl (fun _ => 0))), (q21, .inl (cs 0, 4, .inl (fun _ => 0)))])) H := by first | exact hP | simpa only [List.cons_append, List.append_assoc, List.append_nil, List.nil_append] using hP
  have hD : va_D A ((h0, .inr (4, [.null, .ref q7, .ref q14, .null, .null, .int 0])) :: (X ++ [(q7, .inl (cs 0, 8, .inl (fun _ => 0))), (q14, .inl (cs 0, 4, .inl (fun _ => 0))), (q21, .inl (cs 0, 4, .inl (fun _ => 0)))])) := by first | exact hD | simpa only [List.cons_append, List.append_assoc, List.append_nil, List.nil_append] using hD
  refine W.widen (k := 3) (n := 16) (by decide) (by decide) ?_
  refine xi_putF Z hP hD hS 3 rfl rfl iX4 tyX4_ok nmX4 (by decide) xb_196 rfl rfl rfl rfl (Nat.le_of_ble_eq_true rfl) dX4_init_23 (fun H locs hP hD hS => ?_)
  have hP : va_P D classes ((h0, .inr (4, [.null, .ref q7, .ref q14, .ref q21, .null, .int 0])) :: (X ++ [(q7, .inl (cs 0, 8, .inl (fun _ => 0))), (q14, .inl (cs 0, 4, .inl (fun _ => 0))), (q21, .inl (cs 0, 4, .inl (fun _ => 0)))])) H := by first | exact hP | simpa only [List.cons_append, List.append_assoc, List.append_nil, List.nil_append] using hP
  have hD : va_D A ((h0, .inr (4, [.null, .ref q7, .ref q14, .ref q21, .null, .int 0])) :: (X ++ [(q7, .inl (cs 0, 8, .inl (fun _ => 0))), (q14, .inl (cs 0, 4, .inl (fun _ => 0))), (q21, .inl (cs 0, 4, .inl (fun _ => 0)))])) := by first | exact hD | simpa only [List.cons_append, List.append_assoc, List.append_nil, List.nil_append] using hD
  refine lv_aload_n Z.1 Z.2.1 dX4_init_26 rfl (lv_at hl 0 rfl) ?_
  refine lv_iconst (v := 4) Z.1 Z.2.1 dX4_init_27 (by decide) ?_
  refine xi_newi (N := 4) Z hP hD hS hA (by decide) rfl (by decide) ⟨Nat.le_of_ble_eq_true rfl, Nat.le_of_ble_eq_true rfl⟩ dX4_init_28 (fun q28 H hP hD hS => ?_)
  have hP : va_P D classes ((h0, .inr (4, [.null, .ref q7, .ref q14, .ref q21, .null, .int 0])) :: (X ++ [(q7, .inl (cs 0, 8, .inl (fun _ => 0))), (q14, .inl (cs 0, 4, .inl (fun _ => 0))), (q21, .inl (cs 0, 4, .inl (fun _ => 0))), (q28, .inl (cs 0, 4, .inl (fun _ => 0)))])) H := by first | exact hP | simpa only [List.cons_append, List.append_assoc, List.append_nil, List.nil_append] using hP
  have hD : va_D A ((h0, .inr (4, [.null, .ref q7, .ref q14, .ref q21, .null, .int 0])) :: (X ++ [(q7, .inl (cs 0, 8, .inl (fun _ => 0))), (q14, .inl (cs 0, 4, .inl (fun _ => 0))), (q21, .inl (cs 0, 4, .inl (fun _ => 0))), (q28, .inl (cs 0, 4, .inl (fun _ => 0)))])) := by first | exact hD | simpa only [List.cons_append, List.append_assoc, List.append_nil, List.nil_append] using hD
  refine W.widen (k := 4) (n := 20) (by decide) (by decide) ?_
  refine xi_putF Z hP hD hS 4 rfl rfl iX4 tyX4_ok nmX4 (by decide) xb_197 rfl rfl rfl rfl (Nat.le_of_ble_eq_true rfl) dX4_init_30 (fun H locs hP hD hS => ?_)
  have hP : va_P D classes ((h0, .inr (4, [.null, .ref q7, .ref q14, .ref q21, .ref q28, .int 0])) :: (X ++ [(q7, .inl (cs 0, 8, .inl (fun _ => 0))), (q14, .inl (cs 0, 4, .inl (fun _ => 0))), (q21, .inl (cs 0, 4, .inl (fun _ => 0))), (q28, .inl (cs 0, 4, .inl (fun _ => 0)))])) H := by first | exact hP | simpa only [List.cons_append, List.append_assoc, List.append_nil, List.nil_append] using hP
  have hD : va_D A ((h0, .inr (4, [.null, .ref q7, .ref q14, .ref q21, .ref q28, .int 0])) :: (X ++ [(q7, .inl (cs 0, 8, .inl (fun _ => 0))), (q14, .inl (cs 0, 4, .inl (fun _ => 0))), (q21, .inl (cs 0, 4, .inl (fun _ => 0))), (q28, .inl (cs 0, 4, .inl (fun _ => 0)))])) := by first | exact hD | simpa only [List.cons_append, List.append_assoc, List.append_nil, List.nil_append] using hD
  refine lv_aload_n Z.1 Z.2.1 dX4_init_33 rfl (lv_at hl 0 rfl) ?_
  refine lv_aload_n Z.1 Z.2.1 dX4_init_34 rfl (lv_at hl 1 rfl) ?_
  subst hX
  have hw : xWalk (27 :: (S18 ++ [28, 29, 30, 31])) 27 := ⟨Or.inr (Or.inl rfl), by decide, fun b => by cases b <;> exact ⟨by decide, by decide⟩⟩
  obtain ⟨u, hu⟩ : ∃ u, u = (fun k => if k < 22 then ad0 k else [h0, q7, q14, q21, q28].getD (k - 27) 0) := ⟨_, rfl⟩
  obtain ⟨Mb, hMb⟩ : ∃ Mb, Mb = ((fun a => if a < 22 then M.1 a else fun _ => 0, fun _ => false) : xm) := ⟨_, rfl⟩
  have e0 : (xw (27 :: (S18 ++ [28, 29, 30, 31])) u cs Mb).set 0 (u 27, .inr (4, [.null, .ref (u (27 + 1)), .ref (u (27 + 2)), .ref (u (27 + 3)), .ref (u (27 + 4)), .int (Mb.1 27 5)])) = (h0, .inr (4, [.null, .ref q7, .ref q14, .ref q21, .ref q28, .int 0])) :: (xw S18 ad0 cs M ++ [(q7, .inl (cs 0, 8, .inl (fun _ => 0))), (q14, .inl (cs 0, 4, .inl (fun _ => 0))), (q21, .inl (cs 0, 4, .inl (fun _ => 0))), (q28, .inl (cs 0, 4, .inl (fun _ => 0)))]) := by rw [hu, hMb]; rfl
  have hu0 : u 27 = h0 := by rw [hu]; rfl
  have hu4 : u 4 = ad0 4 := by rw [hu]; rfl
  have huk : ∀ k, k < 22 → u k = ad0 k := fun k hk => by rw [hu]; exact if_pos hk
  have hMk : ∀ a, a < 22 → Mb.1 a = M.1 a := fun a ha => by rw [hMb]; exact if_pos ha
  have hb : rdX Mb 4 R := hrd.same (fun a _ h => hMk a (by omega))
  obtain ⟨M1, x1, x2, x3, x4⟩ := X_begin (M := Mb) (w := 27) (r := 4) (by unfold isW; omega) (Or.inl rfl) hR hb
  rw [← e0] at hP hD
  have hDx : va_D A (xw (27 :: (S18 ++ [28, 29, 30, 31])) u cs Mb) := by
    have := hD.set (p := 0) (a := u 27) (e := xcell u cs Mb 27) (by rw [List.getElem?_set_self (by show 0 < _ + 1; omega)])
    rw [List.set_set] at this
    exact this
  refine xi_callG (w1 := []) (wd := xw (27 :: (S18 ++ [28, 29, 30, 31])) u cs M1) (o := u 27) (As := [.ref (u 4)]) (rest := []) (n := 1) (q0 := 0) (T := TX4) (N := 6) Z (kX4_begin0 l D cs _ u (xw_dist hDx (by decide)) hw ⟨Or.inl rfl, by decide⟩ Mb (q0 := 0) rfl M1 x1) (fun q h => ?_) ?_ hP hD hS hA (xq_5 xb_203 xb_204 xb_205 xb_24 xb_195) (by rw [List.getElem?_set_self (by show 0 < _ + 1; omega)]) rfl ⟨rfl, by decide +kernel, by decide +kernel, by decide +kernel⟩ rfl ⟨rfl, rfl⟩ ⟨Nat.le_of_ble_eq_true rfl, Nat.le_of_ble_eq_true rfl⟩ hl (by rw [hu0, hu4]; rfl) (Nat.le_of_ble_eq_true rfl) ⟨Nat.le_of_ble_eq_true rfl, Nat.le_of_ble_eq_true rfl⟩ dX4_init_35 (fun H locs hP hD hS => ?_)
  · obtain ⟨k, hk, rfl⟩ := h
    obtain ⟨i, hi⟩ := List.getElem?_of_mem hk
    by_cases hi0 : i = 0
    · subst hi0; cases hi; exact Or.inl ⟨0, _, by rw [List.getElem?_set_self (by show 0 < _ + 1; omega)]⟩
    · exact Or.inl ⟨i, xcell u cs Mb k, by rw [List.getElem?_set_ne (Ne.symm hi0)]; unfold xw; rw [List.getElem?_map, hi]; rfl⟩
  · have := (hD.self (sz := H.size)).set (p := 0) (a := u 27) (e := xcell u cs Mb 27) (by rw [List.getElem?_set_self (by show 0 < _ + 1; omega)])
    rw [List.set_set] at this
    exact xw_m this
  have hk1 : ∀ a, a < 22 → M1.1 a = M.1 a := fun a ha => (x3 a (by omega)).trans (hMk a ha)
  have e2 : xw (S18 ++ [27, 28, 29, 30, 31]) u cs M1 = xw S18 ad0 cs M ++ xw [27, 28, 29, 30, 31] u cs M1 := by
    unfold xw
    rw [List.map_append]
    congr 1
    exact S18_cong huk hk1
  have hP2 : va_P D classes (xw (S18 ++ [27, 28, 29, 30, 31]) u cs M1) H := hP.sub [1, 2, 3, 4, 5, 6, 7, 8, 9, 10, 11, 12, 13, 14, 15, 16, 17, 18, 0, 19, 20, 21, 22] rfl
  have hD2 : va_D A (xw (S18 ++ [27, 28, 29, 30, 31]) u cs M1) := hD.sub [1, 2, 3, 4, 5, 6, 7, 8, 9, 10, 11, 12, 13, 14, 15, 16, 17, 18, 0, 19, 20, 21, 22] (by decide) rfl
  rw [e2] at hP2 hD2
  exact xi_ret Z (u, M1) ⟨hu0, huk, hk1, x2.2.2.2.1, by rw [x4]; exact upr_same⟩ hP2 hD2 hS dX4_init_38
set_option maxRecDepth 20000 in
theorem kX4_init_33 (l : Launch) (D : va_G) (cs : Nat → ClassId) (ad0 : Nat → Nat) (M : xm) {R : tR} (hR : laidR R) (hrd : rdX M 4 R) (h0 sz : Nat) : Met l yX4_init [Cond.code yX4_init cX4_init 2 none] rmX4_init (XN D cs [.ref h0, .ref (ad0 4)] ((h0, eX4) :: xw S18 ad0 cs M) sz) (XE D (fun u : (Nat → Nat) × xm => u.1 33 = h0 ∧ (∀ k, k < 22 → u.1 k = ad0 k) ∧ (∀ a, a < 22 → u.2.1 a = M.1 a) ∧ encX u.2 33 (laidS R) ∧ u.2.2 33 = false) (fun u => xw S18 ad0 cs M ++ xw [33, 34, 35, 36, 37] u.1 cs u.2) (va_A ((h0, eX4) :: xw S18 ad0 cs M) sz)) 4 20 (va_A ((h0, eX4) :: xw S18 ad0 cs M) sz) := by
  refine xi_of (own := RX4) (lv := [(0, .ref h0), (1, .ref (ad0 4))]) (by decide +kernel) rfl rfl rfl (Nat.le_of_ble_eq_true rfl) (fun p e s m args below meth c A ls Z hA hP hD hl => ?_)
  have hS : va_S A s.heap s.heap [] := va_S.rf
  obtain ⟨X, hX⟩ : ∃ X, X = xw S18 ad0 cs M := ⟨_, rfl⟩
  rw [← hX] at hP hD
  have hP : va_P D classes ((h0, eX4) :: (X ++ [])) s.heap := by rw [List.append_nil]; exact hP
  have hD : va_D A ((h0, eX4) :: (X ++ [])) := by rw [List.append_nil]; exact hD
  refine lv_aload_n Z.1 Z.2.1 dX4_init_0 rfl (lv_at hl 0 rfl) ?_
  refine xi_obj Z xb_202 hl ⟨Nat.le_of_ble_eq_true rfl, Nat.le_of_ble_eq_true rfl⟩ dX4_init_1 ?_
  refine lv_aload_n Z.1 Z.2.1 dX4_init_4 rfl (lv_at hl 0 rfl) ?_
  refine lv_bipush (v := 8) Z.1 Z.2.1 dX4_init_5 (by decide) ?_
  refine xi_newi (N := 8) Z hP hD hS hA (by decide) rfl (by decide) ⟨Nat.le_of_ble_eq_true rfl, Nat.le_of_ble_eq_true rfl⟩ dX4_init_7 (fun q7 H hP hD hS => ?_)
  have hP : va_P D classes ((h0, .inr (4, [.null, .null, .null, .null, .null, .int 0])) :: (X ++ [(q7, .inl (cs 0, 8, .inl (fun _ => 0)))])) H := by first | exact hP | simpa only [List.cons_append, List.append_assoc, List.append_nil, List.nil_append] using hP
  have hD : va_D A ((h0, .inr (4, [.null, .null, .null, .null, .null, .int 0])) :: (X ++ [(q7, .inl (cs 0, 8, .inl (fun _ => 0)))])) := by first | exact hD | simpa only [List.cons_append, List.append_assoc, List.append_nil, List.nil_append] using hD
  refine W.widen (k := 1) (n := 8) (by decide) (by decide) ?_
  refine xi_putF Z hP hD hS 1 rfl rfl iX4 tyX4_ok nmX4 (by decide) xb_15 rfl rfl rfl rfl (Nat.le_of_ble_eq_true rfl) dX4_init_9 (fun H locs hP hD hS => ?_)
  have hP : va_P D classes ((h0, .inr (4, [.null, .ref q7, .null, .null, .null, .int 0])) :: (X ++ [(q7, .inl (cs 0, 8, .inl (fun _ => 0)))])) H := by first | exact hP | simpa only [List.cons_append, List.append_assoc, List.append_nil, List.nil_append] using hP
  have hD : va_D A ((h0, .inr (4, [.null, .ref q7, .null, .null, .null, .int 0])) :: (X ++ [(q7, .inl (cs 0, 8, .inl (fun _ => 0)))])) := by first | exact hD | simpa only [List.cons_append, List.append_assoc, List.append_nil, List.nil_append] using hD
  refine lv_aload_n Z.1 Z.2.1 dX4_init_12 rfl (lv_at hl 0 rfl) ?_
  refine lv_iconst (v := 4) Z.1 Z.2.1 dX4_init_13 (by decide) ?_
  refine xi_newi (N := 4) Z hP hD hS hA (by decide) rfl (by decide) ⟨Nat.le_of_ble_eq_true rfl, Nat.le_of_ble_eq_true rfl⟩ dX4_init_14 (fun q14 H hP hD hS => ?_)
  have hP : va_P D classes ((h0, .inr (4, [.null, .ref q7, .null, .null, .null, .int 0])) :: (X ++ [(q7, .inl (cs 0, 8, .inl (fun _ => 0))), (q14, .inl (cs 0, 4, .inl (fun _ => 0)))])) H := by first | exact hP | simpa only [List.cons_append, List.append_assoc, List.append_nil, List.nil_append] using hP
  have hD : va_D A ((h0, .inr (4, [.null, .ref q7, .null, .null, .null, .int 0])) :: (X ++ [(q7, .inl (cs 0, 8, .inl (fun _ => 0))), (q14, .inl (cs 0, 4, .inl (fun _ => 0)))])) := by first | exact hD | simpa only [List.cons_append, List.append_assoc, List.append_nil, List.nil_append] using hD
  refine W.widen (k := 2) (n := 12) (by decide) (by decide) ?_
  refine xi_putF Z hP hD hS 2 rfl rfl iX4 tyX4_ok nmX4 (by decide) xb_47 rfl rfl rfl rfl (Nat.le_of_ble_eq_true rfl) dX4_init_16 (fun H locs hP hD hS => ?_)
  have hP : va_P D classes ((h0, .inr (4, [.null, .ref q7, .ref q14, .null, .null, .int 0])) :: (X ++ [(q7, .inl (cs 0, 8, .inl (fun _ => 0))), (q14, .inl (cs 0, 4, .inl (fun _ => 0)))])) H := by first | exact hP | simpa only [List.cons_append, List.append_assoc, List.append_nil, List.nil_append] using hP
  have hD : va_D A ((h0, .inr (4, [.null, .ref q7, .ref q14, .null, .null, .int 0])) :: (X ++ [(q7, .inl (cs 0, 8, .inl (fun _ => 0))), (q14, .inl (cs 0, 4, .inl (fun _ => 0)))])) := by first | exact hD | simpa only [List.cons_append, List.append_assoc, List.append_nil, List.nil_append] using hD
  refine lv_aload_n Z.1 Z.2.1 dX4_init_19 rfl (lv_at hl 0 rfl) ?_
  refine lv_iconst (v := 4) Z.1 Z.2.1 dX4_init_20 (by decide) ?_
  refine xi_newi (N := 4) Z hP hD hS hA (by decide) rfl (by decide) ⟨Nat.le_of_ble_eq_true rfl, Nat.le_of_ble_eq_true rfl⟩ dX4_init_21 (fun q21 H hP hD hS => ?_)
  have hP : va_P D classes ((h0, .inr (4, [.null, .ref q7, .ref q14, .null, .null, .int 0])) :: (X ++ [(q7, .inl (cs 0, 8, .inl (fun _ => 0))), (q14, .inl (cs 0, 4, .inl (fun _ => 0))), (q21, .inl (cs 0, 4, .inl (fun _ => 0)))])) H := by first | exact hP | simpa only [List.cons_append, List.append_assoc, List.append_nil, List.nil_append] using hP
  have hD : va_D A ((h0, .inr (4, [.null, .ref q7, .ref q14, .null, .null, .int 0])) :: (X ++ [(q7, .inl (cs 0, 8, .inl (fun _ => 0))), (q14, .inl (cs 0, 4, .inl (fun _ => 0))), (q21, .inl (cs 0, 4, .inl (fun _ => 0)))])) := by first | exact hD | simpa only [List.cons_append, List.append_assoc, List.append_nil, List.nil_append] using hD
  refine W.widen (k := 3) (n := 16) (by decide) (by decide) ?_
  refine xi_putF Z hP hD hS 3 rfl rfl iX4 tyX4_ok nmX4 (by decide) xb_196 rfl rfl rfl rfl (Nat.le_of_ble_eq_true rfl) dX4_init_23 (fun H locs hP hD hS => ?_)
  have hP : va_P D classes ((h0, .inr (4, [.null, .ref q7, .ref q14, .ref q21, .null, .int 0])) :: (X ++ [(q7, .inl (cs 0, 8, .inl (fun _ => 0))), (q14, .inl (cs 0, 4, .inl (fun _ => 0))), (q21, .inl (cs 0, 4, .inl (fun _ => 0)))])) H := by first | exact hP | simpa only [List.cons_append, List.append_assoc, List.append_nil, List.nil_append] using hP
  have hD : va_D A ((h0, .inr (4, [.null, .ref q7, .ref q14, .ref q21, .null, .int 0])) :: (X ++ [(q7, .inl (cs 0, 8, .inl (fun _ => 0))), (q14, .inl (cs 0, 4, .inl (fun _ => 0))), (q21, .inl (cs 0, 4, .inl (fun _ => 0)))])) := by first | exact hD | simpa only [List.cons_append, List.append_assoc, List.append_nil, List.nil_append] using hD
  refine lv_aload_n Z.1 Z.2.1 dX4_init_26 rfl (lv_at hl 0 rfl) ?_
  refine lv_iconst (v := 4) Z.1 Z.2.1 dX4_init_27 (by decide) ?_
  refine xi_newi (N := 4) Z hP hD hS hA (by decide) rfl (by decide) ⟨Nat.le_of_ble_eq_true rfl, Nat.le_of_ble_eq_true rfl⟩ dX4_init_28 (fun q28 H hP hD hS => ?_)
  have hP : va_P D classes ((h0, .inr (4, [.null, .ref q7, .ref q14, .ref q21, .null, .int 0])) :: (X ++ [(q7, .inl (cs 0, 8, .inl (fun _ => 0))), (q14, .inl (cs 0, 4, .inl (fun _ => 0))), (q21, .inl (cs 0, 4, .inl (fun _ => 0))), (q28, .inl (cs 0, 4, .inl (fun _ => 0)))])) H := by first | exact hP | simpa only [List.cons_append, List.append_assoc, List.append_nil, List.nil_append] using hP
  have hD : va_D A ((h0, .inr (4, [.null, .ref q7, .ref q14, .ref q21, .null, .int 0])) :: (X ++ [(q7, .inl (cs 0, 8, .inl (fun _ => 0))), (q14, .inl (cs 0, 4, .inl (fun _ => 0))), (q21, .inl (cs 0, 4, .inl (fun _ => 0))), (q28, .inl (cs 0, 4, .inl (fun _ => 0)))])) := by first | exact hD | simpa only [List.cons_append, List.append_assoc, List.append_nil, List.nil_append] using hD
  refine W.widen (k := 4) (n := 20) (by decide) (by decide) ?_
  refine xi_putF Z hP hD hS 4 rfl rfl iX4 tyX4_ok nmX4 (by decide) xb_197 rfl rfl rfl rfl (Nat.le_of_ble_eq_true rfl) dX4_init_30 (fun H locs hP hD hS => ?_)
  have hP : va_P D classes ((h0, .inr (4, [.null, .ref q7, .ref q14, .ref q21, .ref q28, .int 0])) :: (X ++ [(q7, .inl (cs 0, 8, .inl (fun _ => 0))), (q14, .inl (cs 0, 4, .inl (fun _ => 0))), (q21, .inl (cs 0, 4, .inl (fun _ => 0))), (q28, .inl (cs 0, 4, .inl (fun _ => 0)))])) H := by first | exact hP | simpa only [List.cons_append, List.append_assoc, List.append_nil, List.nil_append] using hP
  have hD : va_D A ((h0, .inr (4, [.null, .ref q7, .ref q14, .ref q21, .ref q28, .int 0])) :: (X ++ [(q7, .inl (cs 0, 8, .inl (fun _ => 0))), (q14, .inl (cs 0, 4, .inl (fun _ => 0))), (q21, .inl (cs 0, 4, .inl (fun _ => 0))), (q28, .inl (cs 0, 4, .inl (fun _ => 0)))])) := by first | exact hD | simpa only [List.cons_append, List.append_assoc, List.append_nil, List.nil_append] using hD
  refine lv_aload_n Z.1 Z.2.1 dX4_init_33 rfl (lv_at hl 0 rfl) ?_
  refine lv_aload_n Z.1 Z.2.1 dX4_init_34 rfl (lv_at hl 1 rfl) ?_
  subst hX
  have hw : xWalk (33 :: (S18 ++ [34, 35, 36, 37])) 33 := ⟨Or.inr (Or.inr (Or.inl rfl)), by decide, fun b => by cases b <;> exact ⟨by decide, by decide⟩⟩
  obtain ⟨u, hu⟩ : ∃ u, u = (fun k => if k < 22 then ad0 k else [h0, q7, q14, q21, q28].getD (k - 33) 0) := ⟨_, rfl⟩
  obtain ⟨Mb, hMb⟩ : ∃ Mb, Mb = ((fun a => if a < 22 then M.1 a else fun _ => 0, fun _ => false) : xm) := ⟨_, rfl⟩
  have e0 : (xw (33 :: (S18 ++ [34, 35, 36, 37])) u cs Mb).set 0 (u 33, .inr (4, [.null, .ref (u (33 + 1)), .ref (u (33 + 2)), .ref (u (33 + 3)), .ref (u (33 + 4)), .int (Mb.1 33 5)])) = (h0, .inr (4, [.null, .ref q7, .ref q14, .ref q21, .ref q28, .int 0])) :: (xw S18 ad0 cs M ++ [(q7, .inl (cs 0, 8, .inl (fun _ => 0))), (q14, .inl (cs 0, 4, .inl (fun _ => 0))), (q21, .inl (cs 0, 4, .inl (fun _ => 0))), (q28, .inl (cs 0, 4, .inl (fun _ => 0)))]) := by rw [hu, hMb]; rfl
  have hu0 : u 33 = h0 := by rw [hu]; rfl
  have hu4 : u 4 = ad0 4 := by rw [hu]; rfl
  have huk : ∀ k, k < 22 → u k = ad0 k := fun k hk => by rw [hu]; exact if_pos hk
  have hMk : ∀ a, a < 22 → Mb.1 a = M.1 a := fun a ha => by rw [hMb]; exact if_pos ha
  have hb : rdX Mb 4 R := hrd.same (fun a _ h => hMk a (by omega))
  obtain ⟨M1, x1, x2, x3, x4⟩ := X_begin (M := Mb) (w := 33) (r := 4) (by unfold isW; omega) (Or.inl rfl) hR hb
  rw [← e0] at hP hD
  have hDx : va_D A (xw (33 :: (S18 ++ [34, 35, 36, 37])) u cs Mb) := by
    have := hD.set (p := 0) (a := u 33) (e := xcell u cs Mb 33) (by rw [List.getElem?_set_self (by show 0 < _ + 1; omega)])
    rw [List.set_set] at this
    exact this
  refine xi_callG (w1 := []) (wd := xw (33 :: (S18 ++ [34, 35, 36, 37])) u cs M1) (o := u 33) (As := [.ref (u 4)]) (rest := []) (n := 1) (q0 := 0) (T := TX4) (N := 6) Z (kX4_begin0 l D cs _ u (xw_dist hDx (by decide)) hw ⟨Or.inl rfl, by decide⟩ Mb (q0 := 0) rfl M1 x1) (fun q h => ?_) ?_ hP hD hS hA (xq_5 xb_203 xb_204 xb_205 xb_24 xb_195) (by rw [List.getElem?_set_self (by show 0 < _ + 1; omega)]) rfl ⟨rfl, by decide +kernel, by decide +kernel, by decide +kernel⟩ rfl ⟨rfl, rfl⟩ ⟨Nat.le_of_ble_eq_true rfl, Nat.le_of_ble_eq_true rfl⟩ hl (by rw [hu0, hu4]; rfl) (Nat.le_of_ble_eq_true rfl) ⟨Nat.le_of_ble_eq_true rfl, Nat.le_of_ble_eq_true rfl⟩ dX4_init_35 (fun H locs hP hD hS => ?_)
  · obtain ⟨k, hk, rfl⟩ := h
    obtain ⟨i, hi⟩ := List.getElem?_of_mem hk
    by_cases hi0 : i = 0
    · subst hi0; cases hi; exact Or.inl ⟨0, _, by rw [List.getElem?_set_self (by show 0 < _ + 1; omega)]⟩
    · exact Or.inl ⟨i, xcell u cs Mb k, by rw [List.getElem?_set_ne (Ne.symm hi0)]; unfold xw; rw [List.getElem?_map, hi]; rfl⟩
  · have := (hD.self (sz := H.size)).set (p := 0) (a := u 33) (e := xcell u cs Mb 33) (by rw [List.getElem?_set_self (by show 0 < _ + 1; omega)])
    rw [List.set_set] at this
    exact xw_m this
  have hk1 : ∀ a, a < 22 → M1.1 a = M.1 a := fun a ha => (x3 a (by omega)).trans (hMk a ha)
  have e2 : xw (S18 ++ [33, 34, 35, 36, 37]) u cs M1 = xw S18 ad0 cs M ++ xw [33, 34, 35, 36, 37] u cs M1 := by
    unfold xw
    rw [List.map_append]
    congr 1
    exact S18_cong huk hk1
  have hP2 : va_P D classes (xw (S18 ++ [33, 34, 35, 36, 37]) u cs M1) H := hP.sub [1, 2, 3, 4, 5, 6, 7, 8, 9, 10, 11, 12, 13, 14, 15, 16, 17, 18, 0, 19, 20, 21, 22] rfl
  have hD2 : va_D A (xw (S18 ++ [33, 34, 35, 36, 37]) u cs M1) := hD.sub [1, 2, 3, 4, 5, 6, 7, 8, 9, 10, 11, 12, 13, 14, 15, 16, 17, 18, 0, 19, 20, 21, 22] (by decide) rfl
  rw [e2] at hP2 hD2
  exact xi_ret Z (u, M1) ⟨hu0, huk, hk1, x2.2.2.2.1, by rw [x4]; exact upr_same⟩ hP2 hD2 hS dX4_init_38
set_option maxRecDepth 20000 in
theorem kX4_init_38 (l : Launch) (D : va_G) (cs : Nat → ClassId) (ad0 : Nat → Nat) (M : xm) {R : tR} (hR : laidR R) (hrd : rdX M 4 R) (h0 sz : Nat) : Met l yX4_init [Cond.code yX4_init cX4_init 2 none] rmX4_init (XN D cs [.ref h0, .ref (ad0 4)] ((h0, eX4) :: xw S18 ad0 cs M) sz) (XE D (fun u : (Nat → Nat) × xm => u.1 38 = h0 ∧ (∀ k, k < 22 → u.1 k = ad0 k) ∧ (∀ a, a < 22 → u.2.1 a = M.1 a) ∧ encX u.2 38 (laidS R) ∧ u.2.2 38 = false) (fun u => xw S18 ad0 cs M ++ xw [38, 39, 40, 41, 42] u.1 cs u.2) (va_A ((h0, eX4) :: xw S18 ad0 cs M) sz)) 4 20 (va_A ((h0, eX4) :: xw S18 ad0 cs M) sz) := by
  refine xi_of (own := RX4) (lv := [(0, .ref h0), (1, .ref (ad0 4))]) (by decide +kernel) rfl rfl rfl (Nat.le_of_ble_eq_true rfl) (fun p e s m args below meth c A ls Z hA hP hD hl => ?_)
  have hS : va_S A s.heap s.heap [] := va_S.rf
  obtain ⟨X, hX⟩ : ∃ X, X = xw S18 ad0 cs M := ⟨_, rfl⟩
  rw [← hX] at hP hD
  have hP : va_P D classes ((h0, eX4) :: (X ++ [])) s.heap := by rw [List.append_nil]; exact hP
  have hD : va_D A ((h0, eX4) :: (X ++ [])) := by rw [List.append_nil]; exact hD
  refine lv_aload_n Z.1 Z.2.1 dX4_init_0 rfl (lv_at hl 0 rfl) ?_
  refine xi_obj Z xb_202 hl ⟨Nat.le_of_ble_eq_true rfl, Nat.le_of_ble_eq_true rfl⟩ dX4_init_1 ?_
  refine lv_aload_n Z.1 Z.2.1 dX4_init_4 rfl (lv_at hl 0 rfl) ?_
  refine lv_bipush (v := 8) Z.1 Z.2.1 dX4_init_5 (by decide) ?_
  refine xi_newi (N := 8) Z hP hD hS hA (by decide) rfl (by decide) ⟨Nat.le_of_ble_eq_true rfl, Nat.le_of_ble_eq_true rfl⟩ dX4_init_7 (fun q7 H hP hD hS => ?_)
  have hP : va_P D classes ((h0, .inr (4, [.null, .null, .null, .null, .null, .int 0])) :: (X ++ [(q7, .inl (cs 0, 8, .inl (fun _ => 0)))])) H := by first | exact hP | simpa only [List.cons_append, List.append_assoc, List.append_nil, List.nil_append] using hP
  have hD : va_D A ((h0, .inr (4, [.null, .null, .null, .null, .null, .int 0])) :: (X ++ [(q7, .inl (cs 0, 8, .inl (fun _ => 0)))])) := by first | exact hD | simpa only [List.cons_append, List.append_assoc, List.append_nil, List.nil_append] using hD
  refine W.widen (k := 1) (n := 8) (by decide) (by decide) ?_
  refine xi_putF Z hP hD hS 1 rfl rfl iX4 tyX4_ok nmX4 (by decide) xb_15 rfl rfl rfl rfl (Nat.le_of_ble_eq_true rfl) dX4_init_9 (fun H locs hP hD hS => ?_)
  have hP : va_P D classes ((h0, .inr (4, [.null, .ref q7, .null, .null, .null, .int 0])) :: (X ++ [(q7, .inl (cs 0, 8, .inl (fun _ => 0)))])) H := by first | exact hP | simpa only [List.cons_append, List.append_assoc, List.append_nil, List.nil_append] using hP
  have hD : va_D A ((h0, .inr (4, [.null, .ref q7, .null, .null, .null, .int 0])) :: (X ++ [(q7, .inl (cs 0, 8, .inl (fun _ => 0)))])) := by first | exact hD | simpa only [List.cons_append, List.append_assoc, List.append_nil, List.nil_append] using hD
  refine lv_aload_n Z.1 Z.2.1 dX4_init_12 rfl (lv_at hl 0 rfl) ?_
  refine lv_iconst (v := 4) Z.1 Z.2.1 dX4_init_13 (by decide) ?_
  refine xi_newi (N := 4) Z hP hD hS hA (by decide) rfl (by decide) ⟨Nat.le_of_ble_eq_true rfl, Nat.le_of_ble_eq_true rfl⟩ dX4_init_14 (fun q14 H hP hD hS => ?_)
  have hP : va_P D classes ((h0, .inr (4, [.null, .ref q7, .null, .null, .null, .int 0])) :: (X ++ [(q7, .inl (cs 0, 8, .inl (fun _ => 0))), (q14, .inl (cs 0, 4, .inl (fun _ => 0)))])) H := by first | exact hP | simpa only [List.cons_append, List.append_assoc, List.append_nil, List.nil_append] using hP
  have hD : va_D A ((h0, .inr (4, [.null, .ref q7, .null, .null, .null, .int 0])) :: (X ++ [(q7, .inl (cs 0, 8, .inl (fun _ => 0))), (q14, .inl (cs 0, 4, .inl (fun _ => 0)))])) := by first | exact hD | simpa only [List.cons_append, List.append_assoc, List.append_nil, List.nil_append] using hD
  refine W.widen (k := 2) (n := 12) (by decide) (by decide) ?_
  refine xi_putF Z hP hD hS 2 rfl rfl iX4 tyX4_ok nmX4 (by decide) xb_47 rfl rfl rfl rfl (Nat.le_of_ble_eq_true rfl) dX4_init_16 (fun H locs hP hD hS => ?_)
  have hP : va_P D classes ((h0, .inr (4, [.null, .ref q7, .ref q14, .null, .null, .int 0])) :: (X ++ [(q7, .inl (cs 0, 8, .inl (fun _ => 0))), (q14, .inl (cs 0, 4, .inl (fun _ => 0)))])) H := by first | exact hP | simpa only [List.cons_append, List.append_assoc, List.append_nil, List.nil_append] using hP
  have hD : va_D A ((h0, .inr (4, [.null, .ref q7, .ref q14, .null, .null, .int 0])) :: (X ++ [(q7, .inl (cs 0, 8, .inl (fun _ => 0))), (q14, .inl (cs 0, 4, .inl (fun _ => 0)))])) := by first | exact hD | simpa only [List.cons_append, List.append_assoc, List.append_nil, List.nil_append] using hD
  refine lv_aload_n Z.1 Z.2.1 dX4_init_19 rfl (lv_at hl 0 rfl) ?_
  refine lv_iconst (v := 4) Z.1 Z.2.1 dX4_init_20 (by decide) ?_
  refine xi_newi (N := 4) Z hP hD hS hA (by decide) rfl (by decide) ⟨Nat.le_of_ble_eq_true rfl, Nat.le_of_ble_eq_true rfl⟩ dX4_init_21 (fun q21 H hP hD hS => ?_)
  have hP : va_P D classes ((h0, .inr (4, [.null, .ref q7, .ref q14, .null, .null, .int 0])) :: (X ++ [(q7, .inl (cs 0, 8, .inl (fun _ => 0))), (q14, .inl (cs 0, 4, .inl (fun _ => 0))), (q21, .inl (cs 0, 4, .inl (fun _ => 0)))])) H := by first | exact hP | simpa only [List.cons_append, List.append_assoc, List.append_nil, List.nil_append] using hP
  have hD : va_D A ((h0, .inr (4, [.null, .ref q7, .ref q14, .null, .null, .int 0])) :: (X ++ [(q7, .inl (cs 0, 8, .inl (fun _ => 0))), (q14, .inl (cs 0, 4, .inl (fun _ => 0))), (q21, .inl (cs 0, 4, .inl (fun _ => 0)))])) := by first | exact hD | simpa only [List.cons_append, List.append_assoc, List.append_nil, List.nil_append] using hD
  refine W.widen (k := 3) (n := 16) (by decide) (by decide) ?_
  refine xi_putF Z hP hD hS 3 rfl rfl iX4 tyX4_ok nmX4 (by decide) xb_196 rfl rfl rfl rfl (Nat.le_of_ble_eq_true rfl) dX4_init_23 (fun H locs hP hD hS => ?_)
  have hP : va_P D classes ((h0, .inr (4, [.null, .ref q7, .ref q14, .ref q21, .null, .int 0])) :: (X ++ [(q7, .inl (cs 0, 8, .inl (fun _ => 0))), (q14, .inl (cs 0, 4, .inl (fun _ => 0))), (q21, .inl (cs 0, 4, .inl (fun _ => 0)))])) H := by first | exact hP | simpa only [List.cons_append, List.append_assoc, List.append_nil, List.nil_append] using hP
  have hD : va_D A ((h0, .inr (4, [.null, .ref q7, .ref q14, .ref q21, .null, .int 0])) :: (X ++ [(q7, .inl (cs 0, 8, .inl (fun _ => 0))), (q14, .inl (cs 0, 4, .inl (fun _ => 0))), (q21, .inl (cs 0, 4, .inl (fun _ => 0)))])) := by first | exact hD | simpa only [List.cons_append, List.append_assoc, List.append_nil, List.nil_append] using hD
  refine lv_aload_n Z.1 Z.2.1 dX4_init_26 rfl (lv_at hl 0 rfl) ?_
  refine lv_iconst (v := 4) Z.1 Z.2.1 dX4_init_27 (by decide) ?_
  refine xi_newi (N := 4) Z hP hD hS hA (by decide) rfl (by decide) ⟨Nat.le_of_ble_eq_true rfl, Nat.le_of_ble_eq_true rfl⟩ dX4_init_28 (fun q28 H hP hD hS => ?_)
  have hP : va_P D classes ((h0, .inr (4, [.null, .ref q7, .ref q14, .ref q21, .null, .int 0])) :: (X ++ [(q7, .inl (cs 0, 8, .inl (fun _ => 0))), (q14, .inl (cs 0, 4, .inl (fun _ => 0))), (q21, .inl (cs 0, 4, .inl (fun _ => 0))), (q28, .inl (cs 0, 4, .inl (fun _ => 0)))])) H := by first | exact hP | simpa only [List.cons_append, List.append_assoc, List.append_nil, List.nil_append] using hP
  have hD : va_D A ((h0, .inr (4, [.null, .ref q7, .ref q14, .ref q21, .null, .int 0])) :: (X ++ [(q7, .inl (cs 0, 8, .inl (fun _ => 0))), (q14, .inl (cs 0, 4, .inl (fun _ => 0))), (q21, .inl (cs 0, 4, .inl (fun _ => 0))), (q28, .inl (cs 0, 4, .inl (fun _ => 0)))])) := by first | exact hD | simpa only [List.cons_append, List.append_assoc, List.append_nil, List.nil_append] using hD
  refine W.widen (k := 4) (n := 20) (by decide) (by decide) ?_
  refine xi_putF Z hP hD hS 4 rfl rfl iX4 tyX4_ok nmX4 (by decide) xb_197 rfl rfl rfl rfl (Nat.le_of_ble_eq_true rfl) dX4_init_30 (fun H locs hP hD hS => ?_)
  have hP : va_P D classes ((h0, .inr (4, [.null, .ref q7, .ref q14, .ref q21, .ref q28, .int 0])) :: (X ++ [(q7, .inl (cs 0, 8, .inl (fun _ => 0))), (q14, .inl (cs 0, 4, .inl (fun _ => 0))), (q21, .inl (cs 0, 4, .inl (fun _ => 0))), (q28, .inl (cs 0, 4, .inl (fun _ => 0)))])) H := by first | exact hP | simpa only [List.cons_append, List.append_assoc, List.append_nil, List.nil_append] using hP
  have hD : va_D A ((h0, .inr (4, [.null, .ref q7, .ref q14, .ref q21, .ref q28, .int 0])) :: (X ++ [(q7, .inl (cs 0, 8, .inl (fun _ => 0))), (q14, .inl (cs 0, 4, .inl (fun _ => 0))), (q21, .inl (cs 0, 4, .inl (fun _ => 0))), (q28, .inl (cs 0, 4, .inl (fun _ => 0)))])) := by first | exact hD | simpa only [List.cons_append, List.append_assoc, List.append_nil, List.nil_append] using hD
  refine lv_aload_n Z.1 Z.2.1 dX4_init_33 rfl (lv_at hl 0 rfl) ?_
  refine lv_aload_n Z.1 Z.2.1 dX4_init_34 rfl (lv_at hl 1 rfl) ?_
  subst hX
  have hw : xWalk (38 :: (S18 ++ [39, 40, 41, 42])) 38 := ⟨Or.inr (Or.inr (Or.inr rfl)), by decide, fun b => by cases b <;> exact ⟨by decide, by decide⟩⟩
  obtain ⟨u, hu⟩ : ∃ u, u = (fun k => if k < 22 then ad0 k else [h0, q7, q14, q21, q28].getD (k - 38) 0) := ⟨_, rfl⟩
  obtain ⟨Mb, hMb⟩ : ∃ Mb, Mb = ((fun a => if a < 22 then M.1 a else fun _ => 0, fun _ => false) : xm) := ⟨_, rfl⟩
  have e0 : (xw (38 :: (S18 ++ [39, 40, 41, 42])) u cs Mb).set 0 (u 38, .inr (4, [.null, .ref (u (38 + 1)), .ref (u (38 + 2)), .ref (u (38 + 3)), .ref (u (38 + 4)), .int (Mb.1 38 5)])) = (h0, .inr (4, [.null, .ref q7, .ref q14, .ref q21, .ref q28, .int 0])) :: (xw S18 ad0 cs M ++ [(q7, .inl (cs 0, 8, .inl (fun _ => 0))), (q14, .inl (cs 0, 4, .inl (fun _ => 0))), (q21, .inl (cs 0, 4, .inl (fun _ => 0))), (q28, .inl (cs 0, 4, .inl (fun _ => 0)))]) := by rw [hu, hMb]; rfl
  have hu0 : u 38 = h0 := by rw [hu]; rfl
  have hu4 : u 4 = ad0 4 := by rw [hu]; rfl
  have huk : ∀ k, k < 22 → u k = ad0 k := fun k hk => by rw [hu]; exact if_pos hk
  have hMk : ∀ a, a < 22 → Mb.1 a = M.1 a := fun a ha => by rw [hMb]; exact if_pos ha
  have hb : rdX Mb 4 R := hrd.same (fun a _ h => hMk a (by omega))
  obtain ⟨M1, x1, x2, x3, x4⟩ := X_begin (M := Mb) (w := 38) (r := 4) (by unfold isW; omega) (Or.inl rfl) hR hb
  rw [← e0] at hP hD
  have hDx : va_D A (xw (38 :: (S18 ++ [39, 40, 41, 42])) u cs Mb) := by
    have := hD.set (p := 0) (a := u 38) (e := xcell u cs Mb 38) (by rw [List.getElem?_set_self (by show 0 < _ + 1; omega)])
    rw [List.set_set] at this
    exact this
  refine xi_callG (w1 := []) (wd := xw (38 :: (S18 ++ [39, 40, 41, 42])) u cs M1) (o := u 38) (As := [.ref (u 4)]) (rest := []) (n := 1) (q0 := 0) (T := TX4) (N := 6) Z (kX4_begin0 l D cs _ u (xw_dist hDx (by decide)) hw ⟨Or.inl rfl, by decide⟩ Mb (q0 := 0) rfl M1 x1) (fun q h => ?_) ?_ hP hD hS hA (xq_5 xb_203 xb_204 xb_205 xb_24 xb_195) (by rw [List.getElem?_set_self (by show 0 < _ + 1; omega)]) rfl ⟨rfl, by decide +kernel, by decide +kernel, by decide +kernel⟩ rfl ⟨rfl, rfl⟩ ⟨Nat.le_of_ble_eq_true rfl, Nat.le_of_ble_eq_true rfl⟩ hl (by rw [hu0, hu4]; rfl) (Nat.le_of_ble_eq_true rfl) ⟨Nat.le_of_ble_eq_true rfl, Nat.le_of_ble_eq_true rfl⟩ dX4_init_35 (fun H locs hP hD hS => ?_)
  · obtain ⟨k, hk, rfl⟩ := h
    obtain ⟨i, hi⟩ := List.getElem?_of_mem hk
    by_cases hi0 : i = 0
    · subst hi0; cases hi; exact Or.inl ⟨0, _, by rw [List.getElem?_set_self (by show 0 < _ + 1; omega)]⟩
    · exact Or.inl ⟨i, xcell u cs Mb k, by rw [List.getElem?_set_ne (Ne.symm hi0)]; unfold xw; rw [List.getElem?_map, hi]; rfl⟩
  · have := (hD.self (sz := H.size)).set (p := 0) (a := u 38) (e := xcell u cs Mb 38) (by rw [List.getElem?_set_self (by show 0 < _ + 1; omega)])
    rw [List.set_set] at this
    exact xw_m this
  have hk1 : ∀ a, a < 22 → M1.1 a = M.1 a := fun a ha => (x3 a (by omega)).trans (hMk a ha)
  have e2 : xw (S18 ++ [38, 39, 40, 41, 42]) u cs M1 = xw S18 ad0 cs M ++ xw [38, 39, 40, 41, 42] u cs M1 := by
    unfold xw
    rw [List.map_append]
    congr 1
    exact S18_cong huk hk1
  have hP2 : va_P D classes (xw (S18 ++ [38, 39, 40, 41, 42]) u cs M1) H := hP.sub [1, 2, 3, 4, 5, 6, 7, 8, 9, 10, 11, 12, 13, 14, 15, 16, 17, 18, 0, 19, 20, 21, 22] rfl
  have hD2 : va_D A (xw (S18 ++ [38, 39, 40, 41, 42]) u cs M1) := hD.sub [1, 2, 3, 4, 5, 6, 7, 8, 9, 10, 11, 12, 13, 14, 15, 16, 17, 18, 0, 19, 20, 21, 22] (by decide) rfl
  rw [e2] at hP2 hD2
  exact xi_ret Z (u, M1) ⟨hu0, huk, hk1, x2.2.2.2.1, by rw [x4]; exact upr_same⟩ hP2 hD2 hS dX4_init_38
