/-! CONSTRUCTORS: the class, walked -/
theorem dX5_init_0 : decode cX5_init 0 = .ok (.aload_n 0, 1) := by decide +kernel
theorem dX5_init_1 : decode cX5_init 1 = .ok (.invokespecial 1, 3) := by decide +kernel
theorem dX5_init_4 : decode cX5_init 4 = .ok (.aload_n 0, 1) := by decide +kernel
theorem dX5_init_5 : decode cX5_init 5 = .ok (.new 7, 3) := by decide +kernel
theorem dX5_init_8 : decode cX5_init 8 = .ok (.dup, 1) := by decide +kernel
theorem dX5_init_9 : decode cX5_init 9 = .ok (.invokespecial 9, 3) := by decide +kernel
theorem dX5_init_12 : decode cX5_init 12 = .ok (.putfield 10, 3) := by decide +kernel
theorem dX5_init_15 : decode cX5_init 15 = .ok (.aload_n 0, 1) := by decide +kernel
theorem dX5_init_16 : decode cX5_init 16 = .ok (.new 16, 3) := by decide +kernel
theorem dX5_init_19 : decode cX5_init 19 = .ok (.dup, 1) := by decide +kernel
theorem dX5_init_20 : decode cX5_init 20 = .ok (.invokespecial 18, 3) := by decide +kernel
theorem dX5_init_23 : decode cX5_init 23 = .ok (.putfield 19, 3) := by decide +kernel
theorem dX5_init_26 : decode cX5_init 26 = .ok (.aload_n 0, 1) := by decide +kernel
theorem dX5_init_27 : decode cX5_init 27 = .ok (.new 16, 3) := by decide +kernel
theorem dX5_init_30 : decode cX5_init 30 = .ok (.dup, 1) := by decide +kernel
theorem dX5_init_31 : decode cX5_init 31 = .ok (.invokespecial 18, 3) := by decide +kernel
theorem dX5_init_34 : decode cX5_init 34 = .ok (.putfield 23, 3) := by decide +kernel
theorem dX5_init_37 : decode cX5_init 37 = .ok (.aload_n 0, 1) := by decide +kernel
theorem dX5_init_38 : decode cX5_init 38 = .ok (.getfield 19, 3) := by decide +kernel
theorem dX5_init_41 : decode cX5_init 41 = .ok (.bipush 9, 2) := by decide +kernel
theorem dX5_init_43 : decode cX5_init 43 = .ok (.iconst 0, 1) := by decide +kernel
theorem dX5_init_44 : decode cX5_init 44 = .ok (.bipush 9, 2) := by decide +kernel
theorem dX5_init_46 : decode cX5_init 46 = .ok (.invokevirtual 26, 3) := by decide +kernel
theorem dX5_init_49 : decode cX5_init 49 = .ok (.pop, 1) := by decide +kernel
theorem dX5_init_50 : decode cX5_init 50 = .ok (.aload_n 0, 1) := by decide +kernel
theorem dX5_init_51 : decode cX5_init 51 = .ok (.getfield 19, 3) := by decide +kernel
theorem dX5_init_54 : decode cX5_init 54 = .ok (.iconst 0, 1) := by decide +kernel
theorem dX5_init_55 : decode cX5_init 55 = .ok (.iconst 3, 1) := by decide +kernel
theorem dX5_init_56 : decode cX5_init 56 = .ok (.bipush 15, 2) := by decide +kernel
theorem dX5_init_58 : decode cX5_init 58 = .ok (.invokevirtual 30, 3) := by decide +kernel
theorem dX5_init_61 : decode cX5_init 61 = .ok (.pop, 1) := by decide +kernel
theorem dX5_init_62 : decode cX5_init 62 = .ok (.aload_n 0, 1) := by decide +kernel
theorem dX5_init_63 : decode cX5_init 63 = .ok (.new 33, 3) := by decide +kernel
theorem dX5_init_66 : decode cX5_init 66 = .ok (.dup, 1) := by decide +kernel
theorem dX5_init_67 : decode cX5_init 67 = .ok (.aload_n 0, 1) := by decide +kernel
theorem dX5_init_68 : decode cX5_init 68 = .ok (.getfield 19, 3) := by decide +kernel
theorem dX5_init_71 : decode cX5_init 71 = .ok (.invokespecial 35, 3) := by decide +kernel
theorem dX5_init_74 : decode cX5_init 74 = .ok (.putfield 38, 3) := by decide +kernel
theorem dX5_init_77 : decode cX5_init 77 = .ok (.aload_n 0, 1) := by decide +kernel
theorem dX5_init_78 : decode cX5_init 78 = .ok (.new 33, 3) := by decide +kernel
theorem dX5_init_81 : decode cX5_init 81 = .ok (.dup, 1) := by decide +kernel
theorem dX5_init_82 : decode cX5_init 82 = .ok (.aload_n 0, 1) := by decide +kernel
theorem dX5_init_83 : decode cX5_init 83 = .ok (.getfield 19, 3) := by decide +kernel
theorem dX5_init_86 : decode cX5_init 86 = .ok (.invokespecial 35, 3) := by decide +kernel
theorem dX5_init_89 : decode cX5_init 89 = .ok (.putfield 42, 3) := by decide +kernel
theorem dX5_init_92 : decode cX5_init 92 = .ok (.aload_n 0, 1) := by decide +kernel
theorem dX5_init_93 : decode cX5_init 93 = .ok (.iconst 2, 1) := by decide +kernel
theorem dX5_init_94 : decode cX5_init 94 = .ok (.anewarray 33, 3) := by decide +kernel
theorem dX5_init_97 : decode cX5_init 97 = .ok (.putfield 45, 3) := by decide +kernel
theorem dX5_init_100 : decode cX5_init 100 = .ok (.iconst 0, 1) := by decide +kernel
theorem dX5_init_101 : decode cX5_init 101 = .ok (.istore_n 1, 1) := by decide +kernel
theorem dX5_init_102 : decode cX5_init 102 = .ok (.iload_n 1, 1) := by decide +kernel
theorem dX5_init_103 : decode cX5_init 103 = .ok (.iconst 2, 1) := by decide +kernel
theorem dX5_init_104 : decode cX5_init 104 = .ok (.if_icmp .ge 26, 3) := by decide +kernel
theorem dX5_init_107 : decode cX5_init 107 = .ok (.aload_n 0, 1) := by decide +kernel
theorem dX5_init_108 : decode cX5_init 108 = .ok (.getfield 45, 3) := by decide +kernel
theorem dX5_init_111 : decode cX5_init 111 = .ok (.iload_n 1, 1) := by decide +kernel
theorem dX5_init_112 : decode cX5_init 112 = .ok (.new 33, 3) := by decide +kernel
theorem dX5_init_115 : decode cX5_init 115 = .ok (.dup, 1) := by decide +kernel
theorem dX5_init_116 : decode cX5_init 116 = .ok (.aload_n 0, 1) := by decide +kernel
theorem dX5_init_117 : decode cX5_init 117 = .ok (.getfield 19, 3) := by decide +kernel
theorem dX5_init_120 : decode cX5_init 120 = .ok (.invokespecial 35, 3) := by decide +kernel
theorem dX5_init_123 : decode cX5_init 123 = .ok (.aastore, 1) := by decide +kernel
theorem dX5_init_124 : decode cX5_init 124 = .ok (.iinc 1 1, 3) := by decide +kernel
theorem dX5_init_127 : decode cX5_init 127 = .ok (.goto (-25), 3) := by decide +kernel
theorem dX5_init_130 : decode cX5_init 130 = .ok (.aload_n 0, 1) := by decide +kernel
theorem dX5_init_131 : decode cX5_init 131 = .ok (.iconst 0, 1) := by decide +kernel
theorem dX5_init_132 : decode cX5_init 132 = .ok (.putfield 49, 3) := by decide +kernel
theorem dX5_init_135 : decode cX5_init 135 = .ok (.aload_n 0, 1) := by decide +kernel
theorem dX5_init_136 : decode cX5_init 136 = .ok (.new 53, 3) := by decide +kernel
theorem dX5_init_139 : decode cX5_init 139 = .ok (.dup, 1) := by decide +kernel
theorem dX5_init_140 : decode cX5_init 140 = .ok (.invokespecial 55, 3) := by decide +kernel
theorem dX5_init_143 : decode cX5_init 143 = .ok (.putfield 56, 3) := by decide +kernel
theorem dX5_init_146 : decode cX5_init 146 = .ok (.aload_n 0, 1) := by decide +kernel
theorem dX5_init_147 : decode cX5_init 147 = .ok (.new 60, 3) := by decide +kernel
theorem dX5_init_150 : decode cX5_init 150 = .ok (.dup, 1) := by decide +kernel
theorem dX5_init_151 : decode cX5_init 151 = .ok (.invokespecial 62, 3) := by decide +kernel
theorem dX5_init_154 : decode cX5_init 154 = .ok (.putfield 63, 3) := by decide +kernel
theorem dX5_init_157 : decode cX5_init 157 = .ok (.return_, 1) := by decide +kernel
set_option maxRecDepth 40000 in
set_option maxHeartbeats 4000000 in
theorem kX5_init (l : Launch) (D : va_G) (cs : Nat → ClassId) (h0 sz : Nat) : Met l yX5_init [Cond.code yX5_init cX5_init 2 none] rmX5_init (XN D cs [.ref h0] [(h0, eX5)] sz) (XE D (fun u : (Nat → Nat) × xm => u.1 0 = h0 ∧ AX1 u.2) (fun u => xw S56 u.1 cs u.2) (va_A [(h0, eX5)] sz)) 55 654 (va_A [(h0, eX5)] sz) := by
  refine xi_of (own := RX5) (lv := [(0, .ref h0)]) (by decide +kernel) rfl rfl rfl (Nat.le_of_ble_eq_true rfl) (fun p e s m args below meth c A ls Z hA hP hD hl => ?_)
  have hS : va_S A s.heap s.heap [] := va_S.rf
  refine lv_aload_n Z.1 Z.2.1 dX5_init_0 rfl (lv_at hl 0 rfl) ?_
  refine xi_obj Z xb_225 hl ⟨Nat.le_of_ble_eq_true rfl, Nat.le_of_ble_eq_true rfl⟩ dX5_init_1 ?_
  refine lv_aload_n Z.1 Z.2.1 dX5_init_4 rfl (lv_at hl 0 rfl) ?_
  refine xi_new (ci := 3) Z hP hD hS hA iX3 tyX3_ok xb_226 xb_227 xb_162 rfl dfX3 ⟨Nat.le_of_ble_eq_true rfl, Nat.le_of_ble_eq_true rfl⟩ dX5_init_5 (fun q5 H hP hD hS => ?_)
  refine W.widen (k := 1) (n := 3) (by decide) (by decide) ?_
  refine lv_dup Z.1 Z.2.1 dX5_init_8 rfl ?_
  refine xi_callN (As := []) (rest := [.ref q5, .ref h0]) (n := 0) (host := "WalkingLaw") Z (kX3_init l D cs q5 _) hP hD hS hA xb_150 xb_162 (by decide +kernel) xb_245 rfl ⟨by decide +kernel, by decide +kernel, by decide +kernel⟩ rfl ⟨rfl, rfl⟩ ⟨Nat.le_of_ble_eq_true rfl, Nat.le_of_ble_eq_true rfl⟩ hl rfl (Nat.le_of_ble_eq_true rfl) ⟨Nat.le_of_ble_eq_true rfl, Nat.le_of_ble_eq_true rfl⟩ dX5_init_9 (fun u H locs hu hP hD hS => ?_)
  refine W.widen (k := 3) (n := 306) (by decide) (by decide) ?_
  obtain ⟨u3, hu3⟩ : ∃ u3, u3 = u := ⟨_, rfl⟩
  rw [← hu3] at hP hD hu
  have hu : u3 1 = q5 := hu
  rw [← hu]
  have hP : va_P D classes ((h0, .inr (5, [.null, .null, .null, .null, .null, .null, .int 0, .null, .null])) :: xw [1, 2, 3] u3 cs xm0) H := hP
  have hD : va_D A ((h0, .inr (5, [.null, .null, .null, .null, .null, .null, .int 0, .null, .null])) :: xw [1, 2, 3] u3 cs xm0) := hD
  refine xi_putF Z hP hD hS 0 rfl rfl iX5 tyX5_ok nmX5 (by decide) xb_228 rfl rfl rfl rfl (Nat.le_of_ble_eq_true rfl) dX5_init_12 (fun H locs hP hD hS => ?_)
  have hP : va_P D classes ((h0, .inr (5, [.ref (u3 1), .null, .null, .null, .null, .null, .int 0, .null, .null])) :: xw [1, 2, 3] u3 cs xm0) H := hP
  have hD : va_D A ((h0, .inr (5, [.ref (u3 1), .null, .null, .null, .null, .null, .int 0, .null, .null])) :: xw [1, 2, 3] u3 cs xm0) := hD
  refine lv_aload_n Z.1 Z.2.1 dX5_init_15 rfl (lv_at hl 0 rfl) ?_
  refine xi_new (ci := 1) Z hP hD hS hA iX1 tyX1_ok xb_229 xb_230 xb_19 rfl dfX1 ⟨Nat.le_of_ble_eq_true rfl, Nat.le_of_ble_eq_true rfl⟩ dX5_init_16 (fun q16 H hP hD hS => ?_)
  refine W.widen (k := 4) (n := 319) (by decide) (by decide) ?_
  refine lv_dup Z.1 Z.2.1 dX5_init_19 rfl ?_
  refine xi_callI (As := []) (rest := [.ref q16, .ref h0]) (n := 0) Z (kX1_init_4 l D cs q16 _) hP hD hS hA xb_92 xb_19 xb_246 xb_247 rfl ⟨by decide +kernel, by decide +kernel, by decide +kernel⟩ rfl ⟨rfl, rfl⟩ ⟨Nat.le_of_ble_eq_true rfl, Nat.le_of_ble_eq_true rfl⟩ hl rfl (Nat.le_of_ble_eq_true rfl) ⟨Nat.le_of_ble_eq_true rfl, Nat.le_of_ble_eq_true rfl⟩ dX5_init_20 (fun u H locs hu hP hD hS => ?_)
  refine W.widen (k := 12) (n := 373) (by decide) (by decide) ?_
  obtain ⟨⟨u4, M4⟩, hu4⟩ : ∃ u4, u4 = u := ⟨_, rfl⟩
  rw [← hu4] at hP hD hu
  obtain ⟨hu, hr4⟩ : u4 4 = q16 ∧ rdX M4 4 D0 := hu
  rw [← hu]
  have hP : va_P D classes ((h0, .inr (5, [.ref (u3 1), .null, .null, .null, .null, .null, .int 0, .null, .null])) :: (xw [1, 2, 3] u3 cs xm0 ++ xw [4, 5, 6, 7, 8, 9, 10, 11, 12] u4 cs M4)) H := hP
  have hD : va_D A ((h0, .inr (5, [.ref (u3 1), .null, .null, .null, .null, .null, .int 0, .null, .null])) :: (xw [1, 2, 3] u3 cs xm0 ++ xw [4, 5, 6, 7, 8, 9, 10, 11, 12] u4 cs M4)) := hD
  refine xi_put0 Z hP hD hS 1 rfl rfl iX5 tyX5_ok nmX5 (by decide) xb_231 rfl rfl rfl rfl (Nat.le_of_ble_eq_true rfl) dX5_init_23 (fun H locs hP hD hS => ?_)
  have hP : va_P D classes ((h0, .inr (5, [.ref (u3 1), .ref (u4 4), .null, .null, .null, .null, .int 0, .null, .null])) :: (xw [1, 2, 3] u3 cs xm0 ++ xw [4, 5, 6, 7, 8, 9, 10, 11, 12] u4 cs M4)) H := hP
  have hD : va_D A ((h0, .inr (5, [.ref (u3 1), .ref (u4 4), .null, .null, .null, .null, .int 0, .null, .null])) :: (xw [1, 2, 3] u3 cs xm0 ++ xw [4, 5, 6, 7, 8, 9, 10, 11, 12] u4 cs M4)) := hD
  refine lv_aload_n Z.1 Z.2.1 dX5_init_26 rfl (lv_at hl 0 rfl) ?_
  refine xi_new (ci := 1) Z hP hD hS hA iX1 tyX1_ok xb_229 xb_230 xb_19 rfl dfX1 ⟨Nat.le_of_ble_eq_true rfl, Nat.le_of_ble_eq_true rfl⟩ dX5_init_27 (fun q27 H hP hD hS => ?_)
  refine W.widen (k := 13) (n := 386) (by decide) (by decide) ?_
  refine lv_dup Z.1 Z.2.1 dX5_init_30 rfl ?_
  refine xi_callI (As := []) (rest := [.ref q27, .ref h0]) (n := 0) Z (kX1_init_13 l D cs q27 _) hP hD hS hA xb_92 xb_19 xb_246 xb_247 rfl ⟨by decide +kernel, by decide +kernel, by decide +kernel⟩ rfl ⟨rfl, rfl⟩ ⟨Nat.le_of_ble_eq_true rfl, Nat.le_of_ble_eq_true rfl⟩ hl rfl (Nat.le_of_ble_eq_true rfl) ⟨Nat.le_of_ble_eq_true rfl, Nat.le_of_ble_eq_true rfl⟩ dX5_init_31 (fun u H locs hu hP hD hS => ?_)
  refine W.widen (k := 21) (n := 440) (by decide) (by decide) ?_
  obtain ⟨⟨u13, M13⟩, hu13⟩ : ∃ u13, u13 = u := ⟨_, rfl⟩
  rw [← hu13] at hP hD hu
  obtain ⟨hu, -⟩ : u13 13 = q27 ∧ rdX M13 13 D0 := hu
  rw [← hu]
  have hP : va_P D classes ((h0, .inr (5, [.ref (u3 1), .ref (u4 4), .null, .null, .null, .null, .int 0, .null, .null])) :: ((xw [1, 2, 3] u3 cs xm0 ++ xw [4, 5, 6, 7, 8, 9, 10, 11, 12] u4 cs M4) ++ xw [13, 14, 15, 16, 17, 18, 19, 20, 21] u13 cs M13)) H := hP
  have hD : va_D A ((h0, .inr (5, [.ref (u3 1), .ref (u4 4), .null, .null, .null, .null, .int 0, .null, .null])) :: ((xw [1, 2, 3] u3 cs xm0 ++ xw [4, 5, 6, 7, 8, 9, 10, 11, 12] u4 cs M4) ++ xw [13, 14, 15, 16, 17, 18, 19, 20, 21] u13 cs M13)) := hD
  refine xi_put0 Z hP hD hS 2 rfl rfl iX5 tyX5_ok nmX5 (by decide) xb_232 rfl rfl rfl rfl (Nat.le_of_ble_eq_true rfl) dX5_init_34 (fun H locs hP hD hS => ?_)
  have hP : va_P D classes ((h0, .inr (5, [.ref (u3 1), .ref (u4 4), .ref (u13 13), .null, .null, .null, .int 0, .null, .null])) :: ((xw [1, 2, 3] u3 cs xm0 ++ xw [4, 5, 6, 7, 8, 9, 10, 11, 12] u4 cs M4) ++ xw [13, 14, 15, 16, 17, 18, 19, 20, 21] u13 cs M13)) H := hP
  have hD : va_D A ((h0, .inr (5, [.ref (u3 1), .ref (u4 4), .ref (u13 13), .null, .null, .null, .int 0, .null, .null])) :: ((xw [1, 2, 3] u3 cs xm0 ++ xw [4, 5, 6, 7, 8, 9, 10, 11, 12] u4 cs M4) ++ xw [13, 14, 15, 16, 17, 18, 19, 20, 21] u13 cs M13)) := hD
  obtain ⟨ad, had⟩ : ∃ ad : Nat → Nat, ad = fun k => if k < 13 then u4 k else u13 k := ⟨_, rfl⟩
  obtain ⟨M0, hM0⟩ : ∃ M0 : xm, M0 = (fun a => if a < 13 then M4.1 a else M13.1 a, fun _ => false) := ⟨_, rfl⟩
  have g18 : xw [4, 5, 6, 7, 8, 9, 10, 11, 12] u4 cs M4 ++ xw [13, 14, 15, 16, 17, 18, 19, 20, 21] u13 cs M13 = xw S18 ad cs M0 := by rw [had, hM0]; rfl
  have a4 : u4 4 = ad 4 := by rw [had]; rfl
  have a13 : u13 13 = ad 13 := by rw [had]; rfl
  have hr0 : rdX M0 4 D0 := hr4.same (fun a _ h => by rw [hM0]; exact if_pos (by omega))
  rw [List.append_assoc, g18, a4, a13] at hP hD
  have hP : va_P D classes ((h0, .inr (5, [.ref (u3 1), .ref (ad 4), .ref (ad 13), .null, .null, .null, .int 0, .null, .null])) :: (xw [1, 2, 3] u3 cs xm0 ++ xw S18 ad cs M0)) H := hP
  have hD : va_D A ((h0, .inr (5, [.ref (u3 1), .ref (ad 4), .ref (ad 13), .null, .null, .null, .int 0, .null, .null])) :: (xw [1, 2, 3] u3 cs xm0 ++ xw S18 ad cs M0)) := hD
  obtain ⟨M1, b1, b2, b3⟩ := X_addP hr0 D0_ok (a := 9) (b := 0) (c := 9) (by decide) (by decide) (by decide) (by decide) (by decide)
  obtain ⟨M2, c1, c2, c3⟩ := X_addM b2 (addP_ok D0_ok (by decide) (by decide) (by decide) (by decide) (by decide)) (a := 0) (b := 3) (c := 15) (by decide) (by decide) (by decide) (by decide) (by decide)
  have hr2 : rdX M2 4 R1 := c2
  refine lv_aload_n Z.1 Z.2.1 dX5_init_37 rfl (lv_at hl 0 rfl) ?_
  refine xi_get0 Z hP 1 rfl rfl iX5 (by decide) xb_231 rfl rfl dX5_init_38 ?_
  refine lv_bipush (v := 9) Z.1 Z.2.1 dX5_init_41 (by decide) ?_
  refine lv_iconst (v := 0) Z.1 Z.2.1 dX5_init_43 (by decide) ?_
  refine lv_bipush (v := 9) Z.1 Z.2.1 dX5_init_44 (by decide) ?_
  refine xi_callVi (w1 := ((h0, .inr (5, [.ref (u3 1), .ref (ad 4), .ref (ad 13), .null, .null, .null, .int 0, .null, .null])) :: xw [1, 2, 3] u3 cs xm0)) (S := S18) (ad := ad) (M := M0) (M' := M1) (v := 1) (As := [.int 9, .int 0, .int 9]) (rest := []) (k := 4) (n := 3) (T := TX1) (N := 13) Z (fun hd => kX1_addParish l D cs S18 ad hd ⟨Or.inl rfl, by decide⟩ 9 0 9 M0 (1, M1) b1) (by decide) hP hD hS hA (xq_5 xb_248 xb_168 xb_169 xb_19 xb_100) (by decide) rfl rfl ⟨rfl, by decide +kernel, by decide +kernel, by decide +kernel⟩ rfl ⟨rfl, rfl⟩ ⟨Nat.le_of_ble_eq_true rfl, Nat.le_of_ble_eq_true rfl⟩ hl rfl (Nat.le_of_ble_eq_true rfl) ⟨Nat.le_of_ble_eq_true rfl, Nat.le_of_ble_eq_true rfl⟩ dX5_init_46 (fun H locs hP hD hS => ?_)
  refine lv_pop Z.1 Z.2.1 dX5_init_49 rfl ?_
  have hP : va_P D classes ((h0, .inr (5, [.ref (u3 1), .ref (ad 4), .ref (ad 13), .null, .null, .null, .int 0, .null, .null])) :: (xw [1, 2, 3] u3 cs xm0 ++ xw S18 ad cs M1)) H := hP
  have hD : va_D A ((h0, .inr (5, [.ref (u3 1), .ref (ad 4), .ref (ad 13), .null, .null, .null, .int 0, .null, .null])) :: (xw [1, 2, 3] u3 cs xm0 ++ xw S18 ad cs M1)) := hD
  refine lv_aload_n Z.1 Z.2.1 dX5_init_50 rfl (lv_at hl 0 rfl) ?_
  refine xi_get0 Z hP 1 rfl rfl iX5 (by decide) xb_231 rfl rfl dX5_init_51 ?_
  refine lv_iconst (v := 0) Z.1 Z.2.1 dX5_init_54 (by decide) ?_
  refine lv_iconst (v := 3) Z.1 Z.2.1 dX5_init_55 (by decide) ?_
  refine lv_bipush (v := 15) Z.1 Z.2.1 dX5_init_56 (by decide) ?_
  refine xi_callVi (w1 := ((h0, .inr (5, [.ref (u3 1), .ref (ad 4), .ref (ad 13), .null, .null, .null, .int 0, .null, .null])) :: xw [1, 2, 3] u3 cs xm0)) (S := S18) (ad := ad) (M := M1) (M' := M2) (v := 1) (As := [.int 0, .int 3, .int 15]) (rest := []) (k := 4) (n := 3) (T := TX1) (N := 13) Z (fun hd => kX1_addMember l D cs S18 ad hd ⟨Or.inl rfl, by decide⟩ 0 3 15 M1 (1, M2) c1) (by decide) hP hD hS hA (xq_5 xb_249 xb_171 xb_172 xb_19 xb_101) (by decide) rfl rfl ⟨rfl, by decide +kernel, by decide +kernel, by decide +kernel⟩ rfl ⟨rfl, rfl⟩ ⟨Nat.le_of_ble_eq_true rfl, Nat.le_of_ble_eq_true rfl⟩ hl rfl (Nat.le_of_ble_eq_true rfl) ⟨Nat.le_of_ble_eq_true rfl, Nat.le_of_ble_eq_true rfl⟩ dX5_init_58 (fun H locs hP hD hS => ?_)
  refine lv_pop Z.1 Z.2.1 dX5_init_61 rfl ?_
  have hP : va_P D classes ((h0, .inr (5, [.ref (u3 1), .ref (ad 4), .ref (ad 13), .null, .null, .null, .int 0, .null, .null])) :: (xw [1, 2, 3] u3 cs xm0 ++ xw S18 ad cs M2)) H := hP
  have hD : va_D A ((h0, .inr (5, [.ref (u3 1), .ref (ad 4), .ref (ad 13), .null, .null, .null, .int 0, .null, .null])) :: (xw [1, 2, 3] u3 cs xm0 ++ xw S18 ad cs M2)) := hD
  refine lv_aload_n Z.1 Z.2.1 dX5_init_62 rfl (lv_at hl 0 rfl) ?_
  refine xi_new (ci := 4) Z hP hD hS hA iX4 tyX4_ok xb_233 xb_234 xb_24 rfl dfX4 ⟨Nat.le_of_ble_eq_true rfl, Nat.le_of_ble_eq_true rfl⟩ dX5_init_63 (fun q22 H hP hD hS => ?_)
  refine W.widen (k := 22) (n := 446) (by decide) (by decide) ?_
  refine lv_dup Z.1 Z.2.1 dX5_init_66 rfl ?_
  have hP := vP_sw (w1 := ((h0, .inr (5, [.ref (u3 1), .ref (ad 4), .ref (ad 13), .null, .null, .null, .int 0, .null, .null])) :: xw [1, 2, 3] u3 cs xm0)) (w2 := xw S18 ad cs M2) hP
  have hD := vD_sw (w1 := ((h0, .inr (5, [.ref (u3 1), .ref (ad 4), .ref (ad 13), .null, .null, .null, .int 0, .null, .null])) :: xw [1, 2, 3] u3 cs xm0)) (w2 := xw S18 ad cs M2) hD
  refine lv_aload_n Z.1 Z.2.1 dX5_init_67 rfl (lv_at hl 0 rfl) ?_
  refine xi_get0 Z hP 1 rfl rfl iX5 (by decide) xb_231 rfl rfl dX5_init_68 ?_
  refine xi_callI (As := [.ref (ad 4)]) (rest := [.ref q22, .ref h0]) (n := 1) Z (kX4_init_22 l D cs ad M2 R1_laid hr2 q22 _) hP hD hS hA xb_201 xb_24 xb_250 xb_251 rfl ⟨by decide +kernel, by decide +kernel, by decide +kernel⟩ rfl ⟨rfl, rfl⟩ ⟨Nat.le_of_ble_eq_true rfl, Nat.le_of_ble_eq_true rfl⟩ hl rfl (Nat.le_of_ble_eq_true rfl) ⟨Nat.le_of_ble_eq_true rfl, Nat.le_of_ble_eq_true rfl⟩ dX5_init_71 (fun u H locs hu hP hD hS => ?_)
  refine W.widen (k := 26) (n := 466) (by decide) (by decide) ?_
  obtain ⟨⟨u22, M22⟩, hv⟩ : ∃ v, v = u := ⟨_, rfl⟩
  rw [← hv] at hP hD hu
  clear hv
  obtain ⟨hu, hk22, hm22, he22, hf22⟩ : u22 22 = q22 ∧ (∀ k, k < 22 → u22 k = ad k) ∧ (∀ a, a < 22 → M22.1 a = M2.1 a) ∧ encX M22 22 (laidS R1) ∧ M22.2 22 = false := hu
  rw [← hu]
  have hP : va_P D classes ((h0, .inr (5, [.ref (u3 1), .ref (ad 4), .ref (ad 13), .null, .null, .null, .int 0, .null, .null])) :: (xw [1, 2, 3] u3 cs xm0 ++ (xw S18 ad cs M2 ++ xw [22, 23, 24, 25, 26] u22 cs M22))) H := hP
  have hD : va_D A ((h0, .inr (5, [.ref (u3 1), .ref (ad 4), .ref (ad 13), .null, .null, .null, .int 0, .null, .null])) :: (xw [1, 2, 3] u3 cs xm0 ++ (xw S18 ad cs M2 ++ xw [22, 23, 24, 25, 26] u22 cs M22))) := hD
  have hP := vP_sx (w1 := ((h0, .inr (5, [.ref (u3 1), .ref (ad 4), .ref (ad 13), .null, .null, .null, .int 0, .null, .null])) :: xw [1, 2, 3] u3 cs xm0)) (a := xw S18 ad cs M2) (b := xw [22, 23, 24, 25, 26] u22 cs M22) hP
  have hD := vD_sx (w1 := ((h0, .inr (5, [.ref (u3 1), .ref (ad 4), .ref (ad 13), .null, .null, .null, .int 0, .null, .null])) :: xw [1, 2, 3] u3 cs xm0)) (a := xw S18 ad cs M2) (b := xw [22, 23, 24, 25, 26] u22 cs M22) hD
  have hP : va_P D classes ((h0, .inr (5, [.ref (u3 1), .ref (ad 4), .ref (ad 13), .null, .null, .null, .int 0, .null, .null])) :: ((xw [1, 2, 3] u3 cs xm0 ++ xw [22, 23, 24, 25, 26] u22 cs M22) ++ xw S18 ad cs M2)) H := hP
  have hD : va_D A ((h0, .inr (5, [.ref (u3 1), .ref (ad 4), .ref (ad 13), .null, .null, .null, .int 0, .null, .null])) :: ((xw [1, 2, 3] u3 cs xm0 ++ xw [22, 23, 24, 25, 26] u22 cs M22) ++ xw S18 ad cs M2)) := hD
  refine xi_putF Z hP hD hS 3 rfl rfl iX5 tyX5_ok nmX5 (by decide) xb_235 rfl rfl rfl rfl (Nat.le_of_ble_eq_true rfl) dX5_init_74 (fun H locs hP hD hS => ?_)
  have hP : va_P D classes ((h0, .inr (5, [.ref (u3 1), .ref (ad 4), .ref (ad 13), .ref (u22 22), .null, .null, .int 0, .null, .null])) :: ((xw [1, 2, 3] u3 cs xm0 ++ xw [22, 23, 24, 25, 26] u22 cs M22) ++ xw S18 ad cs M2)) H := hP
  have hD : va_D A ((h0, .inr (5, [.ref (u3 1), .ref (ad 4), .ref (ad 13), .ref (u22 22), .null, .null, .int 0, .null, .null])) :: ((xw [1, 2, 3] u3 cs xm0 ++ xw [22, 23, 24, 25, 26] u22 cs M22) ++ xw S18 ad cs M2)) := hD
  refine lv_aload_n Z.1 Z.2.1 dX5_init_77 rfl (lv_at hl 0 rfl) ?_
  refine xi_new (ci := 4) Z hP hD hS hA iX4 tyX4_ok xb_233 xb_234 xb_24 rfl dfX4 ⟨Nat.le_of_ble_eq_true rfl, Nat.le_of_ble_eq_true rfl⟩ dX5_init_78 (fun q27 H hP hD hS => ?_)
  refine W.widen (k := 27) (n := 472) (by decide) (by decide) ?_
  refine lv_dup Z.1 Z.2.1 dX5_init_81 rfl ?_
  have hP := vP_sw (w1 := ((h0, .inr (5, [.ref (u3 1), .ref (ad 4), .ref (ad 13), .ref (u22 22), .null, .null, .int 0, .null, .null])) :: (xw [1, 2, 3] u3 cs xm0 ++ xw [22, 23, 24, 25, 26] u22 cs M22))) (w2 := xw S18 ad cs M2) hP
  have hD := vD_sw (w1 := ((h0, .inr (5, [.ref (u3 1), .ref (ad 4), .ref (ad 13), .ref (u22 22), .null, .null, .int 0, .null, .null])) :: (xw [1, 2, 3] u3 cs xm0 ++ xw [22, 23, 24, 25, 26] u22 cs M22))) (w2 := xw S18 ad cs M2) hD
  refine lv_aload_n Z.1 Z.2.1 dX5_init_82 rfl (lv_at hl 0 rfl) ?_
  refine xi_get0 Z hP 1 rfl rfl iX5 (by decide) xb_231 rfl rfl dX5_init_83 ?_
  refine xi_callI (As := [.ref (ad 4)]) (rest := [.ref q27, .ref h0]) (n := 1) Z (kX4_init_27 l D cs ad M2 R1_laid hr2 q27 _) hP hD hS hA xb_201 xb_24 xb_250 xb_251 rfl ⟨by decide +kernel, by decide +kernel, by decide +kernel⟩ rfl ⟨rfl, rfl⟩ ⟨Nat.le_of_ble_eq_true rfl, Nat.le_of_ble_eq_true rfl⟩ hl rfl (Nat.le_of_ble_eq_true rfl) ⟨Nat.le_of_ble_eq_true rfl, Nat.le_of_ble_eq_true rfl⟩ dX5_init_86 (fun u H locs hu hP hD hS => ?_)
  refine W.widen (k := 31) (n := 492) (by decide) (by decide) ?_
  obtain ⟨⟨u27, M27⟩, hv⟩ : ∃ v, v = u := ⟨_, rfl⟩
  rw [← hv] at hP hD hu
  clear hv
  obtain ⟨hu, hk27, hm27, he27, hf27⟩ : u27 27 = q27 ∧ (∀ k, k < 22 → u27 k = ad k) ∧ (∀ a, a < 22 → M27.1 a = M2.1 a) ∧ encX M27 27 (laidS R1) ∧ M27.2 27 = false := hu
  rw [← hu]
  have hP : va_P D classes ((h0, .inr (5, [.ref (u3 1), .ref (ad 4), .ref (ad 13), .ref (u22 22), .null, .null, .int 0, .null, .null])) :: ((xw [1, 2, 3] u3 cs xm0 ++ xw [22, 23, 24, 25, 26] u22 cs M22) ++ (xw S18 ad cs M2 ++ xw [27, 28, 29, 30, 31] u27 cs M27))) H := hP
  have hD : va_D A ((h0, .inr (5, [.ref (u3 1), .ref (ad 4), .ref (ad 13), .ref (u22 22), .null, .null, .int 0, .null, .null])) :: ((xw [1, 2, 3] u3 cs xm0 ++ xw [22, 23, 24, 25, 26] u22 cs M22) ++ (xw S18 ad cs M2 ++ xw [27, 28, 29, 30, 31] u27 cs M27))) := hD
  have hP := vP_sx (w1 := ((h0, .inr (5, [.ref (u3 1), .ref (ad 4), .ref (ad 13), .ref (u22 22), .null, .null, .int 0, .null, .null])) :: (xw [1, 2, 3] u3 cs xm0 ++ xw [22, 23, 24, 25, 26] u22 cs M22))) (a := xw S18 ad cs M2) (b := xw [27, 28, 29, 30, 31] u27 cs M27) hP
  have hD := vD_sx (w1 := ((h0, .inr (5, [.ref (u3 1), .ref (ad 4), .ref (ad 13), .ref (u22 22), .null, .null, .int 0, .null, .null])) :: (xw [1, 2, 3] u3 cs xm0 ++ xw [22, 23, 24, 25, 26] u22 cs M22))) (a := xw S18 ad cs M2) (b := xw [27, 28, 29, 30, 31] u27 cs M27) hD
  have hP : va_P D classes ((h0, .inr (5, [.ref (u3 1), .ref (ad 4), .ref (ad 13), .ref (u22 22), .null, .null, .int 0, .null, .null])) :: (((xw [1, 2, 3] u3 cs xm0 ++ xw [22, 23, 24, 25, 26] u22 cs M22) ++ xw [27, 28, 29, 30, 31] u27 cs M27) ++ xw S18 ad cs M2)) H := hP
  have hD : va_D A ((h0, .inr (5, [.ref (u3 1), .ref (ad 4), .ref (ad 13), .ref (u22 22), .null, .null, .int 0, .null, .null])) :: (((xw [1, 2, 3] u3 cs xm0 ++ xw [22, 23, 24, 25, 26] u22 cs M22) ++ xw [27, 28, 29, 30, 31] u27 cs M27) ++ xw S18 ad cs M2)) := hD
  refine xi_putF Z hP hD hS 4 rfl rfl iX5 tyX5_ok nmX5 (by decide) xb_236 rfl rfl rfl rfl (Nat.le_of_ble_eq_true rfl) dX5_init_89 (fun H locs hP hD hS => ?_)
  have hP : va_P D classes ((h0, .inr (5, [.ref (u3 1), .ref (ad 4), .ref (ad 13), .ref (u22 22), .ref (u27 27), .null, .int 0, .null, .null])) :: (((xw [1, 2, 3] u3 cs xm0 ++ xw [22, 23, 24, 25, 26] u22 cs M22) ++ xw [27, 28, 29, 30, 31] u27 cs M27) ++ xw S18 ad cs M2)) H := hP
  have hD : va_D A ((h0, .inr (5, [.ref (u3 1), .ref (ad 4), .ref (ad 13), .ref (u22 22), .ref (u27 27), .null, .int 0, .null, .null])) :: (((xw [1, 2, 3] u3 cs xm0 ++ xw [22, 23, 24, 25, 26] u22 cs M22) ++ xw [27, 28, 29, 30, 31] u27 cs M27) ++ xw S18 ad cs M2)) := hD
  refine lv_aload_n Z.1 Z.2.1 dX5_init_92 rfl (lv_at hl 0 rfl) ?_
  refine lv_iconst (v := 2) Z.1 Z.2.1 dX5_init_93 (by decide) ?_
  refine xi_newq (N' := 2) Z hP hD hS hA xb_233 (by decide) rfl (by decide) ⟨Nat.le_of_ble_eq_true rfl, Nat.le_of_ble_eq_true rfl⟩ dX5_init_94 (fun q94 H hP hD hS => ?_)
  refine W.widen (k := 32) (n := 494) (by decide) (by decide) ?_
  have hP := vP_sw (w1 := [(h0, .inr (5, [.ref (u3 1), .ref (ad 4), .ref (ad 13), .ref (u22 22), .ref (u27 27), .null, .int 0, .null, .null]))]) (w2 := (((xw [1, 2, 3] u3 cs xm0 ++ xw [22, 23, 24, 25, 26] u22 cs M22) ++ xw [27, 28, 29, 30, 31] u27 cs M27) ++ xw S18 ad cs M2)) hP
  have hD := vD_sw (w1 := [(h0, .inr (5, [.ref (u3 1), .ref (ad 4), .ref (ad 13), .ref (u22 22), .ref (u27 27), .null, .int 0, .null, .null]))]) (w2 := (((xw [1, 2, 3] u3 cs xm0 ++ xw [22, 23, 24, 25, 26] u22 cs M22) ++ xw [27, 28, 29, 30, 31] u27 cs M27) ++ xw S18 ad cs M2)) hD
  have hP : va_P D classes ((h0, .inr (5, [.ref (u3 1), .ref (ad 4), .ref (ad 13), .ref (u22 22), .ref (u27 27), .null, .int 0, .null, .null])) :: (q94, .inl (cs 3, 2, .inr (.inr (.inr (.inr (fun _ => none)))))) :: (((xw [1, 2, 3] u3 cs xm0 ++ xw [22, 23, 24, 25, 26] u22 cs M22) ++ xw [27, 28, 29, 30, 31] u27 cs M27) ++ xw S18 ad cs M2)) H := hP
  have hD : va_D A ((h0, .inr (5, [.ref (u3 1), .ref (ad 4), .ref (ad 13), .ref (u22 22), .ref (u27 27), .null, .int 0, .null, .null])) :: (q94, .inl (cs 3, 2, .inr (.inr (.inr (.inr (fun _ => none)))))) :: (((xw [1, 2, 3] u3 cs xm0 ++ xw [22, 23, 24, 25, 26] u22 cs M22) ++ xw [27, 28, 29, 30, 31] u27 cs M27) ++ xw S18 ad cs M2)) := hD
  refine xi_putF Z hP hD hS 5 rfl rfl iX5 tyX5_ok nmX5 (by decide) xb_237 rfl rfl rfl rfl (Nat.le_of_ble_eq_true rfl) dX5_init_97 (fun H locs hP hD hS => ?_)
  have hP : va_P D classes ((h0, .inr (5, [.ref (u3 1), .ref (ad 4), .ref (ad 13), .ref (u22 22), .ref (u27 27), .ref q94, .int 0, .null, .null])) :: (q94, .inl (cs 3, 2, .inr (.inr (.inr (.inr (fun _ => none)))))) :: (((xw [1, 2, 3] u3 cs xm0 ++ xw [22, 23, 24, 25, 26] u22 cs M22) ++ xw [27, 28, 29, 30, 31] u27 cs M27) ++ xw S18 ad cs M2)) H := hP
  have hD : va_D A ((h0, .inr (5, [.ref (u3 1), .ref (ad 4), .ref (ad 13), .ref (u22 22), .ref (u27 27), .ref q94, .int 0, .null, .null])) :: (q94, .inl (cs 3, 2, .inr (.inr (.inr (.inr (fun _ => none)))))) :: (((xw [1, 2, 3] u3 cs xm0 ++ xw [22, 23, 24, 25, 26] u22 cs M22) ++ xw [27, 28, 29, 30, 31] u27 cs M27) ++ xw S18 ad cs M2)) := hD
  refine lv_iconst (v := 0) Z.1 Z.2.1 dX5_init_100 (by decide) ?_
  refine lv_istore_n (lv' := [(1, .int 0), (0, .ref h0)]) Z.1 Z.2.1 dX5_init_101 rfl hl (by decide) rfl (fun ls hl => ?_)
  refine lv_iload_n Z.1 Z.2.1 dX5_init_102 rfl (lv_at hl 0 rfl) ?_
  refine lv_iconst (v := 2) Z.1 Z.2.1 dX5_init_103 (by decide) ?_
  refine lv_icmp_ge (tgt := 130) Z.1 Z.2.1 dX5_init_104 (by decide) (fun h => absurd h (by decide)) (fun _ => ?_)
  refine lv_aload_n Z.1 Z.2.1 dX5_init_107 rfl (lv_at hl 1 rfl) ?_
  refine xi_get0 Z hP 5 rfl rfl iX5 (by decide) xb_237 rfl rfl dX5_init_108 ?_
  refine lv_iload_n Z.1 Z.2.1 dX5_init_111 rfl (lv_at hl 0 rfl) ?_
  refine xi_new (ci := 4) Z hP hD hS hA iX4 tyX4_ok xb_233 xb_234 xb_24 rfl dfX4 ⟨Nat.le_of_ble_eq_true rfl, Nat.le_of_ble_eq_true rfl⟩ dX5_init_112 (fun q33 H hP hD hS => ?_)
  refine W.widen (k := 33) (n := 500) (by decide) (by decide) ?_
  refine lv_dup Z.1 Z.2.1 dX5_init_115 rfl ?_
  have hP := vP_sw (w1 := ((h0, .inr (5, [.ref (u3 1), .ref (ad 4), .ref (ad 13), .ref (u22 22), .ref (u27 27), .ref q94, .int 0, .null, .null])) :: (q94, .inl (cs 3, 2, .inr (.inr (.inr (.inr (fun _ => none)))))) :: ((xw [1, 2, 3] u3 cs xm0 ++ xw [22, 23, 24, 25, 26] u22 cs M22) ++ xw [27, 28, 29, 30, 31] u27 cs M27))) (w2 := xw S18 ad cs M2) hP
  have hD := vD_sw (w1 := ((h0, .inr (5, [.ref (u3 1), .ref (ad 4), .ref (ad 13), .ref (u22 22), .ref (u27 27), .ref q94, .int 0, .null, .null])) :: (q94, .inl (cs 3, 2, .inr (.inr (.inr (.inr (fun _ => none)))))) :: ((xw [1, 2, 3] u3 cs xm0 ++ xw [22, 23, 24, 25, 26] u22 cs M22) ++ xw [27, 28, 29, 30, 31] u27 cs M27))) (w2 := xw S18 ad cs M2) hD
  refine lv_aload_n Z.1 Z.2.1 dX5_init_116 rfl (lv_at hl 1 rfl) ?_
  refine xi_get0 Z hP 1 rfl rfl iX5 (by decide) xb_231 rfl rfl dX5_init_117 ?_
  refine xi_callI (As := [.ref (ad 4)]) (rest := [.ref q33, .int 0, .ref q94]) (n := 1) Z (kX4_init_33 l D cs ad M2 R1_laid hr2 q33 _) hP hD hS hA xb_201 xb_24 xb_250 xb_251 rfl ⟨by decide +kernel, by decide +kernel, by decide +kernel⟩ rfl ⟨rfl, rfl⟩ ⟨Nat.le_of_ble_eq_true rfl, Nat.le_of_ble_eq_true rfl⟩ hl rfl (Nat.le_of_ble_eq_true rfl) ⟨Nat.le_of_ble_eq_true rfl, Nat.le_of_ble_eq_true rfl⟩ dX5_init_120 (fun u H locs hu hP hD hS => ?_)
  refine W.widen (k := 37) (n := 520) (by decide) (by decide) ?_
  obtain ⟨⟨u33, M33⟩, hv⟩ : ∃ v, v = u := ⟨_, rfl⟩
  rw [← hv] at hP hD hu
  clear hv
  obtain ⟨hu, hk33, hm33, he33, hf33⟩ : u33 33 = q33 ∧ (∀ k, k < 22 → u33 k = ad k) ∧ (∀ a, a < 22 → M33.1 a = M2.1 a) ∧ encX M33 33 (laidS R1) ∧ M33.2 33 = false := hu
  rw [← hu]
  have hP : va_P D classes ((h0, .inr (5, [.ref (u3 1), .ref (ad 4), .ref (ad 13), .ref (u22 22), .ref (u27 27), .ref q94, .int 0, .null, .null])) :: (q94, .inl (cs 3, 2, .inr (.inr (.inr (.inr (fun _ => none)))))) :: (((xw [1, 2, 3] u3 cs xm0 ++ xw [22, 23, 24, 25, 26] u22 cs M22) ++ xw [27, 28, 29, 30, 31] u27 cs M27) ++ (xw S18 ad cs M2 ++ xw [33, 34, 35, 36, 37] u33 cs M33))) H := hP
  have hD : va_D A ((h0, .inr (5, [.ref (u3 1), .ref (ad 4), .ref (ad 13), .ref (u22 22), .ref (u27 27), .ref q94, .int 0, .null, .null])) :: (q94, .inl (cs 3, 2, .inr (.inr (.inr (.inr (fun _ => none)))))) :: (((xw [1, 2, 3] u3 cs xm0 ++ xw [22, 23, 24, 25, 26] u22 cs M22) ++ xw [27, 28, 29, 30, 31] u27 cs M27) ++ (xw S18 ad cs M2 ++ xw [33, 34, 35, 36, 37] u33 cs M33))) := hD
  refine xi_aast Z hP hD hS 1 33 rfl rfl (by unfold vp_in; decide) dX5_init_123 (fun H locs hP hD hS => ?_)
  have hP : va_P D classes ((h0, .inr (5, [.ref (u3 1), .ref (ad 4), .ref (ad 13), .ref (u22 22), .ref (u27 27), .ref q94, .int 0, .null, .null])) :: (q94, .inl (cs 3, 2, .inr (.inr (.inr (.inr (va_up (fun _ => none) 0 (some (u33 33)))))))) :: (((xw [1, 2, 3] u3 cs xm0 ++ xw [22, 23, 24, 25, 26] u22 cs M22) ++ xw [27, 28, 29, 30, 31] u27 cs M27) ++ (xw S18 ad cs M2 ++ xw [33, 34, 35, 36, 37] u33 cs M33))) H := hP
  have hD : va_D A ((h0, .inr (5, [.ref (u3 1), .ref (ad 4), .ref (ad 13), .ref (u22 22), .ref (u27 27), .ref q94, .int 0, .null, .null])) :: (q94, .inl (cs 3, 2, .inr (.inr (.inr (.inr (va_up (fun _ => none) 0 (some (u33 33)))))))) :: (((xw [1, 2, 3] u3 cs xm0 ++ xw [22, 23, 24, 25, 26] u22 cs M22) ++ xw [27, 28, 29, 30, 31] u27 cs M27) ++ (xw S18 ad cs M2 ++ xw [33, 34, 35, 36, 37] u33 cs M33))) := hD
  have hP := vP_sx (w1 := ((h0, .inr (5, [.ref (u3 1), .ref (ad 4), .ref (ad 13), .ref (u22 22), .ref (u27 27), .ref q94, .int 0, .null, .null])) :: (q94, .inl (cs 3, 2, .inr (.inr (.inr (.inr (va_up (fun _ => none) 0 (some (u33 33)))))))) :: ((xw [1, 2, 3] u3 cs xm0 ++ xw [22, 23, 24, 25, 26] u22 cs M22) ++ xw [27, 28, 29, 30, 31] u27 cs M27))) (a := xw S18 ad cs M2) (b := xw [33, 34, 35, 36, 37] u33 cs M33) hP
  have hD := vD_sx (w1 := ((h0, .inr (5, [.ref (u3 1), .ref (ad 4), .ref (ad 13), .ref (u22 22), .ref (u27 27), .ref q94, .int 0, .null, .null])) :: (q94, .inl (cs 3, 2, .inr (.inr (.inr (.inr (va_up (fun _ => none) 0 (some (u33 33)))))))) :: ((xw [1, 2, 3] u3 cs xm0 ++ xw [22, 23, 24, 25, 26] u22 cs M22) ++ xw [27, 28, 29, 30, 31] u27 cs M27))) (a := xw S18 ad cs M2) (b := xw [33, 34, 35, 36, 37] u33 cs M33) hD
  have hP : va_P D classes ((h0, .inr (5, [.ref (u3 1), .ref (ad 4), .ref (ad 13), .ref (u22 22), .ref (u27 27), .ref q94, .int 0, .null, .null])) :: (q94, .inl (cs 3, 2, .inr (.inr (.inr (.inr (va_up (fun _ => none) 0 (some (u33 33)))))))) :: ((((xw [1, 2, 3] u3 cs xm0 ++ xw [22, 23, 24, 25, 26] u22 cs M22) ++ xw [27, 28, 29, 30, 31] u27 cs M27) ++ xw [33, 34, 35, 36, 37] u33 cs M33) ++ xw S18 ad cs M2)) H := hP
  have hD : va_D A ((h0, .inr (5, [.ref (u3 1), .ref (ad 4), .ref (ad 13), .ref (u22 22), .ref (u27 27), .ref q94, .int 0, .null, .null])) :: (q94, .inl (cs 3, 2, .inr (.inr (.inr (.inr (va_up (fun _ => none) 0 (some (u33 33)))))))) :: ((((xw [1, 2, 3] u3 cs xm0 ++ xw [22, 23, 24, 25, 26] u22 cs M22) ++ xw [27, 28, 29, 30, 31] u27 cs M27) ++ xw [33, 34, 35, 36, 37] u33 cs M33) ++ xw S18 ad cs M2)) := hD
  refine lv_iinc (k := 0) (v := 1) (lv' := [(1, .int 1), (0, .ref h0)]) Z.1 Z.2.1 dX5_init_124 hl rfl (by decide) (by decide) rfl (fun ls hl => ?_)
  refine lv_goto (tgt := 102) Z.1 Z.2.1 dX5_init_127 (by decide) ?_
  refine lv_iload_n Z.1 Z.2.1 dX5_init_102 rfl (lv_at hl 0 rfl) ?_
  refine lv_iconst (v := 2) Z.1 Z.2.1 dX5_init_103 (by decide) ?_
  refine lv_icmp_ge (tgt := 130) Z.1 Z.2.1 dX5_init_104 (by decide) (fun h => absurd h (by decide)) (fun _ => ?_)
  refine lv_aload_n Z.1 Z.2.1 dX5_init_107 rfl (lv_at hl 1 rfl) ?_
  refine xi_get0 Z hP 5 rfl rfl iX5 (by decide) xb_237 rfl rfl dX5_init_108 ?_
  refine lv_iload_n Z.1 Z.2.1 dX5_init_111 rfl (lv_at hl 0 rfl) ?_
  refine xi_new (ci := 4) Z hP hD hS hA iX4 tyX4_ok xb_233 xb_234 xb_24 rfl dfX4 ⟨Nat.le_of_ble_eq_true rfl, Nat.le_of_ble_eq_true rfl⟩ dX5_init_112 (fun q38 H hP hD hS => ?_)
  refine W.widen (k := 38) (n := 526) (by decide) (by decide) ?_
  refine lv_dup Z.1 Z.2.1 dX5_init_115 rfl ?_
  have hP := vP_sw (w1 := ((h0, .inr (5, [.ref (u3 1), .ref (ad 4), .ref (ad 13), .ref (u22 22), .ref (u27 27), .ref q94, .int 0, .null, .null])) :: (q94, .inl (cs 3, 2, .inr (.inr (.inr (.inr (va_up (fun _ => none) 0 (some (u33 33)))))))) :: (((xw [1, 2, 3] u3 cs xm0 ++ xw [22, 23, 24, 25, 26] u22 cs M22) ++ xw [27, 28, 29, 30, 31] u27 cs M27) ++ xw [33, 34, 35, 36, 37] u33 cs M33))) (w2 := xw S18 ad cs M2) hP
  have hD := vD_sw (w1 := ((h0, .inr (5, [.ref (u3 1), .ref (ad 4), .ref (ad 13), .ref (u22 22), .ref (u27 27), .ref q94, .int 0, .null, .null])) :: (q94, .inl (cs 3, 2, .inr (.inr (.inr (.inr (va_up (fun _ => none) 0 (some (u33 33)))))))) :: (((xw [1, 2, 3] u3 cs xm0 ++ xw [22, 23, 24, 25, 26] u22 cs M22) ++ xw [27, 28, 29, 30, 31] u27 cs M27) ++ xw [33, 34, 35, 36, 37] u33 cs M33))) (w2 := xw S18 ad cs M2) hD
  refine lv_aload_n Z.1 Z.2.1 dX5_init_116 rfl (lv_at hl 1 rfl) ?_
  refine xi_get0 Z hP 1 rfl rfl iX5 (by decide) xb_231 rfl rfl dX5_init_117 ?_
  refine xi_callI (As := [.ref (ad 4)]) (rest := [.ref q38, .int 1, .ref q94]) (n := 1) Z (kX4_init_38 l D cs ad M2 R1_laid hr2 q38 _) hP hD hS hA xb_201 xb_24 xb_250 xb_251 rfl ⟨by decide +kernel, by decide +kernel, by decide +kernel⟩ rfl ⟨rfl, rfl⟩ ⟨Nat.le_of_ble_eq_true rfl, Nat.le_of_ble_eq_true rfl⟩ hl rfl (Nat.le_of_ble_eq_true rfl) ⟨Nat.le_of_ble_eq_true rfl, Nat.le_of_ble_eq_true rfl⟩ dX5_init_120 (fun u H locs hu hP hD hS => ?_)
  refine W.widen (k := 42) (n := 546) (by decide) (by decide) ?_
  obtain ⟨⟨u38, M38⟩, hv⟩ : ∃ v, v = u := ⟨_, rfl⟩
  rw [← hv] at hP hD hu
  clear hv
  obtain ⟨hu, hk38, hm38, he38, hf38⟩ : u38 38 = q38 ∧ (∀ k, k < 22 → u38 k = ad k) ∧ (∀ a, a < 22 → M38.1 a = M2.1 a) ∧ encX M38 38 (laidS R1) ∧ M38.2 38 = false := hu
  rw [← hu]
  have hP : va_P D classes ((h0, .inr (5, [.ref (u3 1), .ref (ad 4), .ref (ad 13), .ref (u22 22), .ref (u27 27), .ref q94, .int 0, .null, .null])) :: (q94, .inl (cs 3, 2, .inr (.inr (.inr (.inr (va_up (fun _ => none) 0 (some (u33 33)))))))) :: ((((xw [1, 2, 3] u3 cs xm0 ++ xw [22, 23, 24, 25, 26] u22 cs M22) ++ xw [27, 28, 29, 30, 31] u27 cs M27) ++ xw [33, 34, 35, 36, 37] u33 cs M33) ++ (xw S18 ad cs M2 ++ xw [38, 39, 40, 41, 42] u38 cs M38))) H := hP
  have hD : va_D A ((h0, .inr (5, [.ref (u3 1), .ref (ad 4), .ref (ad 13), .ref (u22 22), .ref (u27 27), .ref q94, .int 0, .null, .null])) :: (q94, .inl (cs 3, 2, .inr (.inr (.inr (.inr (va_up (fun _ => none) 0 (some (u33 33)))))))) :: ((((xw [1, 2, 3] u3 cs xm0 ++ xw [22, 23, 24, 25, 26] u22 cs M22) ++ xw [27, 28, 29, 30, 31] u27 cs M27) ++ xw [33, 34, 35, 36, 37] u33 cs M33) ++ (xw S18 ad cs M2 ++ xw [38, 39, 40, 41, 42] u38 cs M38))) := hD
  refine xi_aast Z hP hD hS 1 38 rfl rfl (by unfold vp_in; decide) dX5_init_123 (fun H locs hP hD hS => ?_)
  have hP : va_P D classes ((h0, .inr (5, [.ref (u3 1), .ref (ad 4), .ref (ad 13), .ref (u22 22), .ref (u27 27), .ref q94, .int 0, .null, .null])) :: (q94, .inl (cs 3, 2, .inr (.inr (.inr (.inr (va_up (va_up (fun _ => none) 0 (some (u33 33))) 1 (some (u38 38)))))))) :: ((((xw [1, 2, 3] u3 cs xm0 ++ xw [22, 23, 24, 25, 26] u22 cs M22) ++ xw [27, 28, 29, 30, 31] u27 cs M27) ++ xw [33, 34, 35, 36, 37] u33 cs M33) ++ (xw S18 ad cs M2 ++ xw [38, 39, 40, 41, 42] u38 cs M38))) H := hP
  have hD : va_D A ((h0, .inr (5, [.ref (u3 1), .ref (ad 4), .ref (ad 13), .ref (u22 22), .ref (u27 27), .ref q94, .int 0, .null, .null])) :: (q94, .inl (cs 3, 2, .inr (.inr (.inr (.inr (va_up (va_up (fun _ => none) 0 (some (u33 33))) 1 (some (u38 38)))))))) :: ((((xw [1, 2, 3] u3 cs xm0 ++ xw [22, 23, 24, 25, 26] u22 cs M22) ++ xw [27, 28, 29, 30, 31] u27 cs M27) ++ xw [33, 34, 35, 36, 37] u33 cs M33) ++ (xw S18 ad cs M2 ++ xw [38, 39, 40, 41, 42] u38 cs M38))) := hD
  have hP := vP_sx (w1 := ((h0, .inr (5, [.ref (u3 1), .ref (ad 4), .ref (ad 13), .ref (u22 22), .ref (u27 27), .ref q94, .int 0, .null, .null])) :: (q94, .inl (cs 3, 2, .inr (.inr (.inr (.inr (va_up (va_up (fun _ => none) 0 (some (u33 33))) 1 (some (u38 38)))))))) :: (((xw [1, 2, 3] u3 cs xm0 ++ xw [22, 23, 24, 25, 26] u22 cs M22) ++ xw [27, 28, 29, 30, 31] u27 cs M27) ++ xw [33, 34, 35, 36, 37] u33 cs M33))) (a := xw S18 ad cs M2) (b := xw [38, 39, 40, 41, 42] u38 cs M38) hP
  have hD := vD_sx (w1 := ((h0, .inr (5, [.ref (u3 1), .ref (ad 4), .ref (ad 13), .ref (u22 22), .ref (u27 27), .ref q94, .int 0, .null, .null])) :: (q94, .inl (cs 3, 2, .inr (.inr (.inr (.inr (va_up (va_up (fun _ => none) 0 (some (u33 33))) 1 (some (u38 38)))))))) :: (((xw [1, 2, 3] u3 cs xm0 ++ xw [22, 23, 24, 25, 26] u22 cs M22) ++ xw [27, 28, 29, 30, 31] u27 cs M27) ++ xw [33, 34, 35, 36, 37] u33 cs M33))) (a := xw S18 ad cs M2) (b := xw [38, 39, 40, 41, 42] u38 cs M38) hD
  have hP : va_P D classes ((h0, .inr (5, [.ref (u3 1), .ref (ad 4), .ref (ad 13), .ref (u22 22), .ref (u27 27), .ref q94, .int 0, .null, .null])) :: (q94, .inl (cs 3, 2, .inr (.inr (.inr (.inr (va_up (va_up (fun _ => none) 0 (some (u33 33))) 1 (some (u38 38)))))))) :: (((((xw [1, 2, 3] u3 cs xm0 ++ xw [22, 23, 24, 25, 26] u22 cs M22) ++ xw [27, 28, 29, 30, 31] u27 cs M27) ++ xw [33, 34, 35, 36, 37] u33 cs M33) ++ xw [38, 39, 40, 41, 42] u38 cs M38) ++ xw S18 ad cs M2)) H := hP
  have hD : va_D A ((h0, .inr (5, [.ref (u3 1), .ref (ad 4), .ref (ad 13), .ref (u22 22), .ref (u27 27), .ref q94, .int 0, .null, .null])) :: (q94, .inl (cs 3, 2, .inr (.inr (.inr (.inr (va_up (va_up (fun _ => none) 0 (some (u33 33))) 1 (some (u38 38)))))))) :: (((((xw [1, 2, 3] u3 cs xm0 ++ xw [22, 23, 24, 25, 26] u22 cs M22) ++ xw [27, 28, 29, 30, 31] u27 cs M27) ++ xw [33, 34, 35, 36, 37] u33 cs M33) ++ xw [38, 39, 40, 41, 42] u38 cs M38) ++ xw S18 ad cs M2)) := hD
  refine lv_iinc (k := 0) (v := 2) (lv' := [(1, .int 2), (0, .ref h0)]) Z.1 Z.2.1 dX5_init_124 hl rfl (by decide) (by decide) rfl (fun ls hl => ?_)
  refine lv_goto (tgt := 102) Z.1 Z.2.1 dX5_init_127 (by decide) ?_
  refine lv_iload_n Z.1 Z.2.1 dX5_init_102 rfl (lv_at hl 0 rfl) ?_
  refine lv_iconst (v := 2) Z.1 Z.2.1 dX5_init_103 (by decide) ?_
  refine lv_icmp_ge (tgt := 130) Z.1 Z.2.1 dX5_init_104 (by decide) (fun _ => ?_) (fun h => absurd (by decide) h)
  refine lv_aload_n Z.1 Z.2.1 dX5_init_130 rfl (lv_at hl 1 rfl) ?_
  refine lv_iconst (v := 0) Z.1 Z.2.1 dX5_init_131 (by decide) ?_
  refine xi_put0 Z hP hD hS 6 rfl rfl iX5 tyX5_ok nmX5 (by decide) xb_238 rfl rfl rfl rfl (Nat.le_of_ble_eq_true rfl) dX5_init_132 (fun H locs hP hD hS => ?_)
  have hP : va_P D classes ((h0, .inr (5, [.ref (u3 1), .ref (ad 4), .ref (ad 13), .ref (u22 22), .ref (u27 27), .ref q94, .int 0, .null, .null])) :: (q94, .inl (cs 3, 2, .inr (.inr (.inr (.inr (va_up (va_up (fun _ => none) 0 (some (u33 33))) 1 (some (u38 38)))))))) :: (((((xw [1, 2, 3] u3 cs xm0 ++ xw [22, 23, 24, 25, 26] u22 cs M22) ++ xw [27, 28, 29, 30, 31] u27 cs M27) ++ xw [33, 34, 35, 36, 37] u33 cs M33) ++ xw [38, 39, 40, 41, 42] u38 cs M38) ++ xw S18 ad cs M2)) H := hP
  have hD : va_D A ((h0, .inr (5, [.ref (u3 1), .ref (ad 4), .ref (ad 13), .ref (u22 22), .ref (u27 27), .ref q94, .int 0, .null, .null])) :: (q94, .inl (cs 3, 2, .inr (.inr (.inr (.inr (va_up (va_up (fun _ => none) 0 (some (u33 33))) 1 (some (u38 38)))))))) :: (((((xw [1, 2, 3] u3 cs xm0 ++ xw [22, 23, 24, 25, 26] u22 cs M22) ++ xw [27, 28, 29, 30, 31] u27 cs M27) ++ xw [33, 34, 35, 36, 37] u33 cs M33) ++ xw [38, 39, 40, 41, 42] u38 cs M38) ++ xw S18 ad cs M2)) := hD
  refine lv_aload_n Z.1 Z.2.1 dX5_init_135 rfl (lv_at hl 1 rfl) ?_
  refine xi_new (ci := 0) Z hP hD hS hA iX0 tyX0_ok xb_239 xb_240 xb_68 rfl dfX0 ⟨Nat.le_of_ble_eq_true rfl, Nat.le_of_ble_eq_true rfl⟩ dX5_init_136 (fun q136 H hP hD hS => ?_)
  refine W.widen (k := 43) (n := 551) (by decide) (by decide) ?_
  refine lv_dup Z.1 Z.2.1 dX5_init_139 rfl ?_
  refine xi_callN (As := []) (rest := [.ref q136, .ref h0]) (n := 0) (host := "WalkingLaw") Z (kX0_init l D cs q136 _) hP hD hS hA xb_0 xb_68 (by decide +kernel) xb_252 rfl ⟨by decide +kernel, by decide +kernel, by decide +kernel⟩ rfl ⟨rfl, rfl⟩ ⟨Nat.le_of_ble_eq_true rfl, Nat.le_of_ble_eq_true rfl⟩ hl rfl (Nat.le_of_ble_eq_true rfl) ⟨Nat.le_of_ble_eq_true rfl, Nat.le_of_ble_eq_true rfl⟩ dX5_init_140 (fun u H locs hu hP hD hS => ?_)
  refine W.widen (k := 47) (n := 622) (by decide) (by decide) ?_
  obtain ⟨u43, hv⟩ : ∃ v, v = u := ⟨_, rfl⟩
  rw [← hv] at hP hD hu
  clear hv
  have hu : u43 43 = q136 := hu
  rw [← hu]
  have hP : va_P D classes ((h0, .inr (5, [.ref (u3 1), .ref (ad 4), .ref (ad 13), .ref (u22 22), .ref (u27 27), .ref q94, .int 0, .null, .null])) :: (q94, .inl (cs 3, 2, .inr (.inr (.inr (.inr (va_up (va_up (fun _ => none) 0 (some (u33 33))) 1 (some (u38 38)))))))) :: ((((((xw [1, 2, 3] u3 cs xm0 ++ xw [22, 23, 24, 25, 26] u22 cs M22) ++ xw [27, 28, 29, 30, 31] u27 cs M27) ++ xw [33, 34, 35, 36, 37] u33 cs M33) ++ xw [38, 39, 40, 41, 42] u38 cs M38) ++ xw S18 ad cs M2) ++ xw [43, 44, 45, 46, 47] u43 cs xm0)) H := hP
  have hD : va_D A ((h0, .inr (5, [.ref (u3 1), .ref (ad 4), .ref (ad 13), .ref (u22 22), .ref (u27 27), .ref q94, .int 0, .null, .null])) :: (q94, .inl (cs 3, 2, .inr (.inr (.inr (.inr (va_up (va_up (fun _ => none) 0 (some (u33 33))) 1 (some (u38 38)))))))) :: ((((((xw [1, 2, 3] u3 cs xm0 ++ xw [22, 23, 24, 25, 26] u22 cs M22) ++ xw [27, 28, 29, 30, 31] u27 cs M27) ++ xw [33, 34, 35, 36, 37] u33 cs M33) ++ xw [38, 39, 40, 41, 42] u38 cs M38) ++ xw S18 ad cs M2) ++ xw [43, 44, 45, 46, 47] u43 cs xm0)) := hD
  refine xi_putF Z hP hD hS 7 rfl rfl iX5 tyX5_ok nmX5 (by decide) xb_241 rfl rfl rfl rfl (Nat.le_of_ble_eq_true rfl) dX5_init_143 (fun H locs hP hD hS => ?_)
  have hP : va_P D classes ((h0, .inr (5, [.ref (u3 1), .ref (ad 4), .ref (ad 13), .ref (u22 22), .ref (u27 27), .ref q94, .int 0, .ref (u43 43), .null])) :: (q94, .inl (cs 3, 2, .inr (.inr (.inr (.inr (va_up (va_up (fun _ => none) 0 (some (u33 33))) 1 (some (u38 38)))))))) :: ((((((xw [1, 2, 3] u3 cs xm0 ++ xw [22, 23, 24, 25, 26] u22 cs M22) ++ xw [27, 28, 29, 30, 31] u27 cs M27) ++ xw [33, 34, 35, 36, 37] u33 cs M33) ++ xw [38, 39, 40, 41, 42] u38 cs M38) ++ xw S18 ad cs M2) ++ xw [43, 44, 45, 46, 47] u43 cs xm0)) H := hP
  have hD : va_D A ((h0, .inr (5, [.ref (u3 1), .ref (ad 4), .ref (ad 13), .ref (u22 22), .ref (u27 27), .ref q94, .int 0, .ref (u43 43), .null])) :: (q94, .inl (cs 3, 2, .inr (.inr (.inr (.inr (va_up (va_up (fun _ => none) 0 (some (u33 33))) 1 (some (u38 38)))))))) :: ((((((xw [1, 2, 3] u3 cs xm0 ++ xw [22, 23, 24, 25, 26] u22 cs M22) ++ xw [27, 28, 29, 30, 31] u27 cs M27) ++ xw [33, 34, 35, 36, 37] u33 cs M33) ++ xw [38, 39, 40, 41, 42] u38 cs M38) ++ xw S18 ad cs M2) ++ xw [43, 44, 45, 46, 47] u43 cs xm0)) := hD
  refine lv_aload_n Z.1 Z.2.1 dX5_init_146 rfl (lv_at hl 1 rfl) ?_
  refine xi_new (ci := 2) Z hP hD hS hA iX2 tyX2_ok xb_242 xb_243 xb_134 rfl dfX2 ⟨Nat.le_of_ble_eq_true rfl, Nat.le_of_ble_eq_true rfl⟩ dX5_init_147 (fun q147 H hP hD hS => ?_)
  refine W.widen (k := 48) (n := 626) (by decide) (by decide) ?_
  refine lv_dup Z.1 Z.2.1 dX5_init_150 rfl ?_
  refine xi_callN (As := []) (rest := [.ref q147, .ref h0]) (n := 0) (host := "WalkingLaw") Z (kX2_init l D cs q147 _) hP hD hS hA xb_108 xb_134 (by decide +kernel) xb_253 rfl ⟨by decide +kernel, by decide +kernel, by decide +kernel⟩ rfl ⟨rfl, rfl⟩ ⟨Nat.le_of_ble_eq_true rfl, Nat.le_of_ble_eq_true rfl⟩ hl rfl (Nat.le_of_ble_eq_true rfl) ⟨Nat.le_of_ble_eq_true rfl, Nat.le_of_ble_eq_true rfl⟩ dX5_init_151 (fun u H locs hu hP hD hS => ?_)
  refine W.widen (k := 55) (n := 654) (by decide) (by decide) ?_
  obtain ⟨u48, hv⟩ : ∃ v, v = u := ⟨_, rfl⟩
  rw [← hv] at hP hD hu
  clear hv
  have hu : u48 48 = q147 := hu
  rw [← hu]
  have hP : va_P D classes ((h0, .inr (5, [.ref (u3 1), .ref (ad 4), .ref (ad 13), .ref (u22 22), .ref (u27 27), .ref q94, .int 0, .ref (u43 43), .null])) :: (q94, .inl (cs 3, 2, .inr (.inr (.inr (.inr (va_up (va_up (fun _ => none) 0 (some (u33 33))) 1 (some (u38 38)))))))) :: (((((((xw [1, 2, 3] u3 cs xm0 ++ xw [22, 23, 24, 25, 26] u22 cs M22) ++ xw [27, 28, 29, 30, 31] u27 cs M27) ++ xw [33, 34, 35, 36, 37] u33 cs M33) ++ xw [38, 39, 40, 41, 42] u38 cs M38) ++ xw S18 ad cs M2) ++ xw [43, 44, 45, 46, 47] u43 cs xm0) ++ xw [48, 49, 50, 51, 52, 53, 54, 55] u48 cs xm0)) H := hP
  have hD : va_D A ((h0, .inr (5, [.ref (u3 1), .ref (ad 4), .ref (ad 13), .ref (u22 22), .ref (u27 27), .ref q94, .int 0, .ref (u43 43), .null])) :: (q94, .inl (cs 3, 2, .inr (.inr (.inr (.inr (va_up (va_up (fun _ => none) 0 (some (u33 33))) 1 (some (u38 38)))))))) :: (((((((xw [1, 2, 3] u3 cs xm0 ++ xw [22, 23, 24, 25, 26] u22 cs M22) ++ xw [27, 28, 29, 30, 31] u27 cs M27) ++ xw [33, 34, 35, 36, 37] u33 cs M33) ++ xw [38, 39, 40, 41, 42] u38 cs M38) ++ xw S18 ad cs M2) ++ xw [43, 44, 45, 46, 47] u43 cs xm0) ++ xw [48, 49, 50, 51, 52, 53, 54, 55] u48 cs xm0)) := hD
  refine xi_putF Z hP hD hS 8 rfl rfl iX5 tyX5_ok nmX5 (by decide) xb_244 rfl rfl rfl rfl (Nat.le_of_ble_eq_true rfl) dX5_init_154 (fun H locs hP hD hS => ?_)
  have hP : va_P D classes ((h0, .inr (5, [.ref (u3 1), .ref (ad 4), .ref (ad 13), .ref (u22 22), .ref (u27 27), .ref q94, .int 0, .ref (u43 43), .ref (u48 48)])) :: (q94, .inl (cs 3, 2, .inr (.inr (.inr (.inr (va_up (va_up (fun _ => none) 0 (some (u33 33))) 1 (some (u38 38)))))))) :: (((((((xw [1, 2, 3] u3 cs xm0 ++ xw [22, 23, 24, 25, 26] u22 cs M22) ++ xw [27, 28, 29, 30, 31] u27 cs M27) ++ xw [33, 34, 35, 36, 37] u33 cs M33) ++ xw [38, 39, 40, 41, 42] u38 cs M38) ++ xw S18 ad cs M2) ++ xw [43, 44, 45, 46, 47] u43 cs xm0) ++ xw [48, 49, 50, 51, 52, 53, 54, 55] u48 cs xm0)) H := hP
  have hD : va_D A ((h0, .inr (5, [.ref (u3 1), .ref (ad 4), .ref (ad 13), .ref (u22 22), .ref (u27 27), .ref q94, .int 0, .ref (u43 43), .ref (u48 48)])) :: (q94, .inl (cs 3, 2, .inr (.inr (.inr (.inr (va_up (va_up (fun _ => none) 0 (some (u33 33))) 1 (some (u38 38)))))))) :: (((((((xw [1, 2, 3] u3 cs xm0 ++ xw [22, 23, 24, 25, 26] u22 cs M22) ++ xw [27, 28, 29, 30, 31] u27 cs M27) ++ xw [33, 34, 35, 36, 37] u33 cs M33) ++ xw [38, 39, 40, 41, 42] u38 cs M38) ++ xw S18 ad cs M2) ++ xw [43, 44, 45, 46, 47] u43 cs xm0) ++ xw [48, 49, 50, 51, 52, 53, 54, 55] u48 cs xm0)) := hD
  exact xi5_end Z hP hD hS hk22 hk27 hk33 hk38 he22 hf22 hf27 hf33 hf38 hr2 dX5_init_157
