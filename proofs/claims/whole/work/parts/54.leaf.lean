/-! CONSTRUCTORS: Diary, Text, Rows -/
def xm0 : xm := (fun _ _ => 0, fun _ => false)
theorem dX0_init_0 : decode cX0_init 0 = .ok (.aload_n 0, 1) := by decide +kernel
theorem dX0_init_1 : decode cX0_init 1 = .ok (.invokespecial 3, 3) := by decide +kernel
theorem dX0_init_4 : decode cX0_init 4 = .ok (.aload_n 0, 1) := by decide +kernel
theorem dX0_init_5 : decode cX0_init 5 = .ok (.bipush 10, 2) := by decide +kernel
theorem dX0_init_7 : decode cX0_init 7 = .ok (.newarray .int, 2) := by decide +kernel
theorem dX0_init_9 : decode cX0_init 9 = .ok (.putfield 9, 3) := by decide +kernel
theorem dX0_init_12 : decode cX0_init 12 = .ok (.aload_n 0, 1) := by decide +kernel
theorem dX0_init_13 : decode cX0_init 13 = .ok (.bipush 10, 2) := by decide +kernel
theorem dX0_init_15 : decode cX0_init 15 = .ok (.newarray .int, 2) := by decide +kernel
theorem dX0_init_17 : decode cX0_init 17 = .ok (.putfield 15, 3) := by decide +kernel
theorem dX0_init_20 : decode cX0_init 20 = .ok (.aload_n 0, 1) := by decide +kernel
theorem dX0_init_21 : decode cX0_init 21 = .ok (.bipush 10, 2) := by decide +kernel
theorem dX0_init_23 : decode cX0_init 23 = .ok (.newarray .int, 2) := by decide +kernel
theorem dX0_init_25 : decode cX0_init 25 = .ok (.putfield 18, 3) := by decide +kernel
theorem dX0_init_28 : decode cX0_init 28 = .ok (.aload_n 0, 1) := by decide +kernel
theorem dX0_init_29 : decode cX0_init 29 = .ok (.bipush 41, 2) := by decide +kernel
theorem dX0_init_31 : decode cX0_init 31 = .ok (.newarray .int, 2) := by decide +kernel
theorem dX0_init_33 : decode cX0_init 33 = .ok (.putfield 21, 3) := by decide +kernel
theorem dX0_init_36 : decode cX0_init 36 = .ok (.return_, 1) := by decide +kernel
abbrev eX0 : va_E := .inr (0, [.null, .null, .null, .int 0, .null])
def rmX0_init : Room := { frames := 1, cells := 4, slots := 71, locals := 12 }
set_option maxRecDepth 20000 in
theorem kX0_init (l : Launch) (D : va_G) (cs : Nat → ClassId) (h0 sz : Nat) : Met l yX0_init [Cond.code yX0_init cX0_init 1 none] rmX0_init (XN D cs [.ref h0] [(h0, eX0)] sz) (XE D (fun u : Nat → Nat => u 43 = h0) (fun u => xw [43, 44, 45, 46, 47] u cs xm0) (va_A [(h0, eX0)] sz)) 4 71 (va_A [(h0, eX0)] sz) := by
  refine xi_of (own := RX0) (lv := [(0, .ref h0)]) (by decide +kernel) rfl rfl rfl (Nat.le_of_ble_eq_true rfl) (fun p e s m args below meth c A ls Z hA hP hD hl => ?_)
  have hS : va_S A s.heap s.heap [] := va_S.rf
  refine lv_aload_n Z.1 Z.2.1 dX0_init_0 rfl (lv_at hl 0 rfl) ?_
  refine xi_obj Z xb_1 hl ⟨Nat.le_of_ble_eq_true rfl, Nat.le_of_ble_eq_true rfl⟩ dX0_init_1 ?_
  refine lv_aload_n Z.1 Z.2.1 dX0_init_4 rfl (lv_at hl 0 rfl) ?_
  refine lv_bipush (v := 10) Z.1 Z.2.1 dX0_init_5 (by decide) ?_
  refine xi_newi (N := 10) Z hP hD hS hA (by decide) rfl (by decide) ⟨Nat.le_of_ble_eq_true rfl, Nat.le_of_ble_eq_true rfl⟩ dX0_init_7 (fun q7 H hP hD hS => ?_)
  have hP : va_P D classes [(h0, .inr (0, [.null, .null, .null, .int 0, .null])), (q7, .inl (cs 0, 10, .inl (fun _ => 0)))] H := hP
  have hD : va_D A [(h0, .inr (0, [.null, .null, .null, .int 0, .null])), (q7, .inl (cs 0, 10, .inl (fun _ => 0)))] := hD
  refine W.widen (k := 1) (n := 10) (by decide) (by decide) ?_
  refine xi_putF Z hP hD hS 0 rfl rfl iX0 tyX0_ok nmX0 (by decide) xb_4 rfl rfl rfl rfl (Nat.le_of_ble_eq_true rfl) dX0_init_9 (fun H locs hP hD hS => ?_)
  have hP : va_P D classes [(h0, .inr (0, [.ref q7, .null, .null, .int 0, .null])), (q7, .inl (cs 0, 10, .inl (fun _ => 0)))] H := hP
  have hD : va_D A [(h0, .inr (0, [.ref q7, .null, .null, .int 0, .null])), (q7, .inl (cs 0, 10, .inl (fun _ => 0)))] := hD
  refine lv_aload_n Z.1 Z.2.1 dX0_init_12 rfl (lv_at hl 0 rfl) ?_
  refine lv_bipush (v := 10) Z.1 Z.2.1 dX0_init_13 (by decide) ?_
  refine xi_newi (N := 10) Z hP hD hS hA (by decide) rfl (by decide) ⟨Nat.le_of_ble_eq_true rfl, Nat.le_of_ble_eq_true rfl⟩ dX0_init_15 (fun q15 H hP hD hS => ?_)
  have hP : va_P D classes [(h0, .inr (0, [.ref q7, .null, .null, .int 0, .null])), (q7, .inl (cs 0, 10, .inl (fun _ => 0))), (q15, .inl (cs 0, 10, .inl (fun _ => 0)))] H := hP
  have hD : va_D A [(h0, .inr (0, [.ref q7, .null, .null, .int 0, .null])), (q7, .inl (cs 0, 10, .inl (fun _ => 0))), (q15, .inl (cs 0, 10, .inl (fun _ => 0)))] := hD
  refine W.widen (k := 2) (n := 20) (by decide) (by decide) ?_
  refine xi_putF Z hP hD hS 1 rfl rfl iX0 tyX0_ok nmX0 (by decide) xb_5 rfl rfl rfl rfl (Nat.le_of_ble_eq_true rfl) dX0_init_17 (fun H locs hP hD hS => ?_)
  have hP : va_P D classes [(h0, .inr (0, [.ref q7, .ref q15, .null, .int 0, .null])), (q7, .inl (cs 0, 10, .inl (fun _ => 0))), (q15, .inl (cs 0, 10, .inl (fun _ => 0)))] H := hP
  have hD : va_D A [(h0, .inr (0, [.ref q7, .ref q15, .null, .int 0, .null])), (q7, .inl (cs 0, 10, .inl (fun _ => 0))), (q15, .inl (cs 0, 10, .inl (fun _ => 0)))] := hD
  refine lv_aload_n Z.1 Z.2.1 dX0_init_20 rfl (lv_at hl 0 rfl) ?_
  refine lv_bipush (v := 10) Z.1 Z.2.1 dX0_init_21 (by decide) ?_
  refine xi_newi (N := 10) Z hP hD hS hA (by decide) rfl (by decide) ⟨Nat.le_of_ble_eq_true rfl, Nat.le_of_ble_eq_true rfl⟩ dX0_init_23 (fun q23 H hP hD hS => ?_)
  have hP : va_P D classes [(h0, .inr (0, [.ref q7, .ref q15, .null, .int 0, .null])), (q7, .inl (cs 0, 10, .inl (fun _ => 0))), (q15, .inl (cs 0, 10, .inl (fun _ => 0))), (q23, .inl (cs 0, 10, .inl (fun _ => 0)))] H := hP
  have hD : va_D A [(h0, .inr (0, [.ref q7, .ref q15, .null, .int 0, .null])), (q7, .inl (cs 0, 10, .inl (fun _ => 0))), (q15, .inl (cs 0, 10, .inl (fun _ => 0))), (q23, .inl (cs 0, 10, .inl (fun _ => 0)))] := hD
  refine W.widen (k := 3) (n := 30) (by decide) (by decide) ?_
  refine xi_putF Z hP hD hS 2 rfl rfl iX0 tyX0_ok nmX0 (by decide) xb_6 rfl rfl rfl rfl (Nat.le_of_ble_eq_true rfl) dX0_init_25 (fun H locs hP hD hS => ?_)
  have hP : va_P D classes [(h0, .inr (0, [.ref q7, .ref q15, .ref q23, .int 0, .null])), (q7, .inl (cs 0, 10, .inl (fun _ => 0))), (q15, .inl (cs 0, 10, .inl (fun _ => 0))), (q23, .inl (cs 0, 10, .inl (fun _ => 0)))] H := hP
  have hD : va_D A [(h0, .inr (0, [.ref q7, .ref q15, .ref q23, .int 0, .null])), (q7, .inl (cs 0, 10, .inl (fun _ => 0))), (q15, .inl (cs 0, 10, .inl (fun _ => 0))), (q23, .inl (cs 0, 10, .inl (fun _ => 0)))] := hD
  refine lv_aload_n Z.1 Z.2.1 dX0_init_28 rfl (lv_at hl 0 rfl) ?_
  refine lv_bipush (v := 41) Z.1 Z.2.1 dX0_init_29 (by decide) ?_
  refine xi_newi (N := 41) Z hP hD hS hA (by decide) rfl (by decide) ⟨Nat.le_of_ble_eq_true rfl, Nat.le_of_ble_eq_true rfl⟩ dX0_init_31 (fun q31 H hP hD hS => ?_)
  have hP : va_P D classes [(h0, .inr (0, [.ref q7, .ref q15, .ref q23, .int 0, .null])), (q7, .inl (cs 0, 10, .inl (fun _ => 0))), (q15, .inl (cs 0, 10, .inl (fun _ => 0))), (q23, .inl (cs 0, 10, .inl (fun _ => 0))), (q31, .inl (cs 0, 41, .inl (fun _ => 0)))] H := hP
  have hD : va_D A [(h0, .inr (0, [.ref q7, .ref q15, .ref q23, .int 0, .null])), (q7, .inl (cs 0, 10, .inl (fun _ => 0))), (q15, .inl (cs 0, 10, .inl (fun _ => 0))), (q23, .inl (cs 0, 10, .inl (fun _ => 0))), (q31, .inl (cs 0, 41, .inl (fun _ => 0)))] := hD
  refine W.widen (k := 4) (n := 71) (by decide) (by decide) ?_
  refine xi_putF Z hP hD hS 4 rfl rfl iX0 tyX0_ok nmX0 (by decide) xb_7 rfl rfl rfl rfl (Nat.le_of_ble_eq_true rfl) dX0_init_33 (fun H locs hP hD hS => ?_)
  have hP : va_P D classes [(h0, .inr (0, [.ref q7, .ref q15, .ref q23, .int 0, .ref q31])), (q7, .inl (cs 0, 10, .inl (fun _ => 0))), (q15, .inl (cs 0, 10, .inl (fun _ => 0))), (q23, .inl (cs 0, 10, .inl (fun _ => 0))), (q31, .inl (cs 0, 41, .inl (fun _ => 0)))] H := hP
  have hD : va_D A [(h0, .inr (0, [.ref q7, .ref q15, .ref q23, .int 0, .ref q31])), (q7, .inl (cs 0, 10, .inl (fun _ => 0))), (q15, .inl (cs 0, 10, .inl (fun _ => 0))), (q23, .inl (cs 0, 10, .inl (fun _ => 0))), (q31, .inl (cs 0, 41, .inl (fun _ => 0)))] := hD
  have e : xw [43, 44, 45, 46, 47] (fun k => [h0, q7, q15, q23, q31].getD (k - 43) 0) cs xm0 = [(h0, .inr (0, [.ref q7, .ref q15, .ref q23, .int 0, .ref q31])), (q7, .inl (cs 0, 10, .inl (fun _ => 0))), (q15, .inl (cs 0, 10, .inl (fun _ => 0))), (q23, .inl (cs 0, 10, .inl (fun _ => 0))), (q31, .inl (cs 0, 41, .inl (fun _ => 0)))] := rfl
  exact xi_ret Z (fun k => [h0, q7, q15, q23, q31].getD (k - 43) 0) rfl (by rw [e]; exact hP) (by rw [e]; exact hD) hS dX0_init_36
theorem dX3_init_0 : decode cX3_init 0 = .ok (.aload_n 0, 1) := by decide +kernel
theorem dX3_init_1 : decode cX3_init 1 = .ok (.invokespecial 3, 3) := by decide +kernel
theorem dX3_init_4 : decode cX3_init 4 = .ok (.aload_n 0, 1) := by decide +kernel
theorem dX3_init_5 : decode cX3_init 5 = .ok (.sipush 300, 3) := by decide +kernel
theorem dX3_init_8 : decode cX3_init 8 = .ok (.newarray .byte, 2) := by decide +kernel
theorem dX3_init_10 : decode cX3_init 10 = .ok (.putfield 9, 3) := by decide +kernel
theorem dX3_init_13 : decode cX3_init 13 = .ok (.aload_n 0, 1) := by decide +kernel
theorem dX3_init_14 : decode cX3_init 14 = .ok (.iconst 3, 1) := by decide +kernel
theorem dX3_init_15 : decode cX3_init 15 = .ok (.newarray .int, 2) := by decide +kernel
theorem dX3_init_17 : decode cX3_init 17 = .ok (.putfield 15, 3) := by decide +kernel
theorem dX3_init_20 : decode cX3_init 20 = .ok (.return_, 1) := by decide +kernel
abbrev eX3 : va_E := .inr (3, [.null, .null, .int 0])
def rmX3_init : Room := { frames := 1, cells := 2, slots := 303, locals := 12 }
set_option maxRecDepth 20000 in
theorem kX3_init (l : Launch) (D : va_G) (cs : Nat → ClassId) (h0 sz : Nat) : Met l yX3_init [Cond.code yX3_init cX3_init 1 none] rmX3_init (XN D cs [.ref h0] [(h0, eX3)] sz) (XE D (fun u : Nat → Nat => u 1 = h0) (fun u => xw [1, 2, 3] u cs xm0) (va_A [(h0, eX3)] sz)) 2 303 (va_A [(h0, eX3)] sz) := by
  refine xi_of (own := RX3) (lv := [(0, .ref h0)]) (by decide +kernel) rfl rfl rfl (Nat.le_of_ble_eq_true rfl) (fun p e s m args below meth c A ls Z hA hP hD hl => ?_)
  have hS : va_S A s.heap s.heap [] := va_S.rf
  refine lv_aload_n Z.1 Z.2.1 dX3_init_0 rfl (lv_at hl 0 rfl) ?_
  refine xi_obj Z xb_151 hl ⟨Nat.le_of_ble_eq_true rfl, Nat.le_of_ble_eq_true rfl⟩ dX3_init_1 ?_
  refine lv_aload_n Z.1 Z.2.1 dX3_init_4 rfl (lv_at hl 0 rfl) ?_
  refine lv_sipush (v := 300) Z.1 Z.2.1 dX3_init_5 (by decide) ?_
  refine xi_newb (N := 300) Z hP hD hS hA (by decide) rfl (by decide) ⟨Nat.le_of_ble_eq_true rfl, Nat.le_of_ble_eq_true rfl⟩ dX3_init_8 (fun q8 H hP hD hS => ?_)
  have hP : va_P D classes [(h0, .inr (3, [.null, .null, .int 0])), (q8, .inl (cs 1, 300, .inl (fun _ => 0)))] H := hP
  have hD : va_D A [(h0, .inr (3, [.null, .null, .int 0])), (q8, .inl (cs 1, 300, .inl (fun _ => 0)))] := hD
  refine W.widen (k := 1) (n := 300) (by decide) (by decide) ?_
  refine xi_putF Z hP hD hS 0 rfl rfl iX3 tyX3_ok nmX3 (by decide) xb_152 rfl rfl rfl rfl (Nat.le_of_ble_eq_true rfl) dX3_init_10 (fun H locs hP hD hS => ?_)
  have hP : va_P D classes [(h0, .inr (3, [.ref q8, .null, .int 0])), (q8, .inl (cs 1, 300, .inl (fun _ => 0)))] H := hP
  have hD : va_D A [(h0, .inr (3, [.ref q8, .null, .int 0])), (q8, .inl (cs 1, 300, .inl (fun _ => 0)))] := hD
  refine lv_aload_n Z.1 Z.2.1 dX3_init_13 rfl (lv_at hl 0 rfl) ?_
  refine lv_iconst (v := 3) Z.1 Z.2.1 dX3_init_14 (by decide) ?_
  refine xi_newi (N := 3) Z hP hD hS hA (by decide) rfl (by decide) ⟨Nat.le_of_ble_eq_true rfl, Nat.le_of_ble_eq_true rfl⟩ dX3_init_15 (fun q15 H hP hD hS => ?_)
  have hP : va_P D classes [(h0, .inr (3, [.ref q8, .null, .int 0])), (q8, .inl (cs 1, 300, .inl (fun _ => 0))), (q15, .inl (cs 0, 3, .inl (fun _ => 0)))] H := hP
  have hD : va_D A [(h0, .inr (3, [.ref q8, .null, .int 0])), (q8, .inl (cs 1, 300, .inl (fun _ => 0))), (q15, .inl (cs 0, 3, .inl (fun _ => 0)))] := hD
  refine W.widen (k := 2) (n := 303) (by decide) (by decide) ?_
  refine xi_putF Z hP hD hS 1 rfl rfl iX3 tyX3_ok nmX3 (by decide) xb_153 rfl rfl rfl rfl (Nat.le_of_ble_eq_true rfl) dX3_init_17 (fun H locs hP hD hS => ?_)
  have hP : va_P D classes [(h0, .inr (3, [.ref q8, .ref q15, .int 0])), (q8, .inl (cs 1, 300, .inl (fun _ => 0))), (q15, .inl (cs 0, 3, .inl (fun _ => 0)))] H := hP
  have hD : va_D A [(h0, .inr (3, [.ref q8, .ref q15, .int 0])), (q8, .inl (cs 1, 300, .inl (fun _ => 0))), (q15, .inl (cs 0, 3, .inl (fun _ => 0)))] := hD
  have e : xw [1, 2, 3] (fun k => [h0, q8, q15].getD (k - 1) 0) cs xm0 = [(h0, .inr (3, [.ref q8, .ref q15, .int 0])), (q8, .inl (cs 1, 300, .inl (fun _ => 0))), (q15, .inl (cs 0, 3, .inl (fun _ => 0)))] := rfl
  exact xi_ret Z (fun k => [h0, q8, q15].getD (k - 1) 0) rfl (by rw [e]; exact hP) (by rw [e]; exact hD) hS dX3_init_20
