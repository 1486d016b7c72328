/-! CONSTRUCTORS: Rows, Road -/
theorem dX2_init_0 : decode cX2_init 0 = .ok (.aload_n 0, 1) := by decide +kernel
theorem dX2_init_1 : decode cX2_init 1 = .ok (.invokespecial 3, 3) := by decide +kernel
theorem dX2_init_4 : decode cX2_init 4 = .ok (.aload_n 0, 1) := by decide +kernel
theorem dX2_init_5 : decode cX2_init 5 = .ok (.iconst 4, 1) := by decide +kernel
theorem dX2_init_6 : decode cX2_init 6 = .ok (.iconst 4, 1) := by decide +kernel
theorem dX2_init_7 : decode cX2_init 7 = .ok (.multianewarray 9 2, 4) := by decide +kernel
theorem dX2_init_11 : decode cX2_init 11 = .ok (.putfield 11, 3) := by decide +kernel
theorem dX2_init_14 : decode cX2_init 14 = .ok (.aload_n 0, 1) := by decide +kernel
theorem dX2_init_15 : decode cX2_init 15 = .ok (.iconst 4, 1) := by decide +kernel
theorem dX2_init_16 : decode cX2_init 16 = .ok (.newarray .int, 2) := by decide +kernel
theorem dX2_init_18 : decode cX2_init 18 = .ok (.putfield 16, 3) := by decide +kernel
theorem dX2_init_21 : decode cX2_init 21 = .ok (.aload_n 0, 1) := by decide +kernel
theorem dX2_init_22 : decode cX2_init 22 = .ok (.iconst 4, 1) := by decide +kernel
theorem dX2_init_23 : decode cX2_init 23 = .ok (.newarray .int, 2) := by decide +kernel
theorem dX2_init_25 : decode cX2_init 25 = .ok (.putfield 20, 3) := by decide +kernel
theorem dX2_init_28 : decode cX2_init 28 = .ok (.return_, 1) := by decide +kernel
abbrev eX2 : va_E := .inr (2, [.null, .null, .null, .int 0])
def rmX2_init : Room := { frames := 1, cells := 7, slots := 28, locals := 12 }
set_option maxRecDepth 20000 in
theorem kX2_init (l : Launch) (D : va_G) (cs : Nat → ClassId) (h0 sz : Nat) : Met l yX2_init [Cond.code yX2_init cX2_init 1 none] rmX2_init (XN D cs [.ref h0] [(h0, eX2)] sz) (XE D (fun u : Nat → Nat => u 48 = h0) (fun u => xw [48, 49, 50, 51, 52, 53, 54, 55] u cs xm0) (va_A [(h0, eX2)] sz)) 7 28 (va_A [(h0, eX2)] sz) := by
  refine xi_of (own := RX2) (lv := [(0, .ref h0)]) (by decide +kernel) rfl rfl rfl (Nat.le_of_ble_eq_true rfl) (fun p e s m args below meth c A ls Z hA hP hD hl => ?_)
  have hS : va_S A s.heap s.heap [] := va_S.rf
  refine lv_aload_n Z.1 Z.2.1 dX2_init_0 rfl (lv_at hl 0 rfl) ?_
  refine xi_obj Z xb_109 hl ⟨Nat.le_of_ble_eq_true rfl, Nat.le_of_ble_eq_true rfl⟩ dX2_init_1 ?_
  refine lv_aload_n Z.1 Z.2.1 dX2_init_4 rfl (lv_at hl 0 rfl) ?_
  refine lv_iconst (v := 4) Z.1 Z.2.1 dX2_init_5 (by decide) ?_
  refine lv_iconst (v := 4) Z.1 Z.2.1 dX2_init_6 (by decide) ?_
  refine xi_multi Z hP hD hS hA xb_110 ⟨Nat.le_of_ble_eq_true rfl, Nat.le_of_ble_eq_true rfl⟩ dX2_init_7 (fun q7 H locs hP hD hS => ?_)
  have hP : va_P D classes [(h0, .inr (2, [.null, .null, .null, .int 0])), (q7, .inl (cs 2, 4, .inr (.inr (.inr (.inr (fun j => some (q7 + 1 + j))))))), (q7 + 1, .inl (cs 0, 4, .inl (fun _ => 0))), (q7 + 2, .inl (cs 0, 4, .inl (fun _ => 0))), (q7 + 3, .inl (cs 0, 4, .inl (fun _ => 0))), (q7 + 4, .inl (cs 0, 4, .inl (fun _ => 0)))] H := hP
  have hD : va_D A [(h0, .inr (2, [.null, .null, .null, .int 0])), (q7, .inl (cs 2, 4, .inr (.inr (.inr (.inr (fun j => some (q7 + 1 + j))))))), (q7 + 1, .inl (cs 0, 4, .inl (fun _ => 0))), (q7 + 2, .inl (cs 0, 4, .inl (fun _ => 0))), (q7 + 3, .inl (cs 0, 4, .inl (fun _ => 0))), (q7 + 4, .inl (cs 0, 4, .inl (fun _ => 0)))] := hD
  refine W.widen (k := 5) (n := 20) (by decide) (by decide) ?_
  refine xi_putF Z hP hD hS 0 rfl rfl iX2 tyX2_ok nmX2 (by decide) xb_111 rfl rfl rfl rfl (Nat.le_of_ble_eq_true rfl) dX2_init_11 (fun H locs hP hD hS => ?_)
  have hP : va_P D classes [(h0, .inr (2, [.ref q7, .null, .null, .int 0])), (q7, .inl (cs 2, 4, .inr (.inr (.inr (.inr (fun j => some (q7 + 1 + j))))))), (q7 + 1, .inl (cs 0, 4, .inl (fun _ => 0))), (q7 + 2, .inl (cs 0, 4, .inl (fun _ => 0))), (q7 + 3, .inl (cs 0, 4, .inl (fun _ => 0))), (q7 + 4, .inl (cs 0, 4, .inl (fun _ => 0)))] H := hP
  have hD : va_D A [(h0, .inr (2, [.ref q7, .null, .null, .int 0])), (q7, .inl (cs 2, 4, .inr (.inr (.inr (.inr (fun j => some (q7 + 1 + j))))))), (q7 + 1, .inl (cs 0, 4, .inl (fun _ => 0))), (q7 + 2, .inl (cs 0, 4, .inl (fun _ => 0))), (q7 + 3, .inl (cs 0, 4, .inl (fun _ => 0))), (q7 + 4, .inl (cs 0, 4, .inl (fun _ => 0)))] := hD
  refine lv_aload_n Z.1 Z.2.1 dX2_init_14 rfl (lv_at hl 0 rfl) ?_
  refine lv_iconst (v := 4) Z.1 Z.2.1 dX2_init_15 (by decide) ?_
  refine xi_newi (N := 4) Z hP hD hS hA (by decide) rfl (by decide) ⟨Nat.le_of_ble_eq_true rfl, Nat.le_of_ble_eq_true rfl⟩ dX2_init_16 (fun q16 H hP hD hS => ?_)
  have hP : va_P D classes [(h0, .inr (2, [.ref q7, .null, .null, .int 0])), (q7, .inl (cs 2, 4, .inr (.inr (.inr (.inr (fun j => some (q7 + 1 + j))))))), (q7 + 1, .inl (cs 0, 4, .inl (fun _ => 0))), (q7 + 2, .inl (cs 0, 4, .inl (fun _ => 0))), (q7 + 3, .inl (cs 0, 4, .inl (fun _ => 0))), (q7 + 4, .inl (cs 0, 4, .inl (fun _ => 0))), (q16, .inl (cs 0, 4, .inl (fun _ => 0)))] H := hP
  have hD : va_D A [(h0, .inr (2, [.ref q7, .null, .null, .int 0])), (q7, .inl (cs 2, 4, .inr (.inr (.inr (.inr (fun j => some (q7 + 1 + j))))))), (q7 + 1, .inl (cs 0, 4, .inl (fun _ => 0))), (q7 + 2, .inl (cs 0, 4, .inl (fun _ => 0))), (q7 + 3, .inl (cs 0, 4, .inl (fun _ => 0))), (q7 + 4, .inl (cs 0, 4, .inl (fun _ => 0))), (q16, .inl (cs 0, 4, .inl (fun _ => 0)))] := hD
  refine W.widen (k := 6) (n := 24) (by decide) (by decide) ?_
  refine xi_putF Z hP hD hS 1 rfl rfl iX2 tyX2_ok nmX2 (by decide) xb_112 rfl rfl rfl rfl (Nat.le_of_ble_eq_true rfl) dX2_init_18 (fun H locs hP hD hS => ?_)
  have hP : va_P D classes [(h0, .inr (2, [.ref q7, .ref q16, .null, .int 0])), (q7, .inl (cs 2, 4, .inr (.inr (.inr (.inr (fun j => some (q7 + 1 + j))))))), (q7 + 1, .inl (cs 0, 4, .inl (fun _ => 0))), (q7 + 2, .inl (cs 0, 4, .inl (fun _ => 0))), (q7 + 3, .inl (cs 0, 4, .inl (fun _ => 0))), (q7 + 4, .inl (cs 0, 4, .inl (fun _ => 0))), (q16, .inl (cs 0, 4, .inl (fun _ => 0)))] H := hP
  have hD : va_D A [(h0, .inr (2, [.ref q7, .ref q16, .null, .int 0])), (q7, .inl (cs 2, 4, .inr (.inr (.inr (.inr (fun j => some (q7 + 1 + j))))))), (q7 + 1, .inl (cs 0, 4, .inl (fun _ => 0))), (q7 + 2, .inl (cs 0, 4, .inl (fun _ => 0))), (q7 + 3, .inl (cs 0, 4, .inl (fun _ => 0))), (q7 + 4, .inl (cs 0, 4, .inl (fun _ => 0))), (q16, .inl (cs 0, 4, .inl (fun _ => 0)))] := hD
  refine lv_aload_n Z.1 Z.2.1 dX2_init_21 rfl (lv_at hl 0 rfl) ?_
  refine lv_iconst (v := 4) Z.1 Z.2.1 dX2_init_22 (by decide) ?_
  refine xi_newi (N := 4) Z hP hD hS hA (by decide) rfl (by decide) ⟨Nat.le_of_ble_eq_true rfl, Nat.le_of_ble_eq_true rfl⟩ dX2_init_23 (fun q23 H hP hD hS => ?_)
  have hP : va_P D classes [(h0, .inr (2, [.ref q7, .ref q16, .null, .int 0])), (q7, .inl (cs 2, 4, .inr (.inr (.inr (.inr (fun j => some (q7 + 1 + j))))))), (q7 + 1, .inl (cs 0, 4, .inl (fun _ => 0))), (q7 + 2, .inl (cs 0, 4, .inl (fun _ => 0))), (q7 + 3, .inl (cs 0, 4, .inl (fun _ => 0))), (q7 + 4, .inl (cs 0, 4, .inl (fun _ => 0))), (q16, .inl (cs 0, 4, .inl (fun _ => 0))), (q23, .inl (cs 0, 4, .inl (fun _ => 0)))] H := hP
  have hD : va_D A [(h0, .inr (2, [.ref q7, .ref q16, .null, .int 0])), (q7, .inl (cs 2, 4, .inr (.inr (.inr (.inr (fun j => some (q7 + 1 + j))))))), (q7 + 1, .inl (cs 0, 4, .inl (fun _ => 0))), (q7 + 2, .inl (cs 0, 4, .inl (fun _ => 0))), (q7 + 3, .inl (cs 0, 4, .inl (fun _ => 0))), (q7 + 4, .inl (cs 0, 4, .inl (fun _ => 0))), (q16, .inl (cs 0, 4, .inl (fun _ => 0))), (q23, .inl (cs 0, 4, .inl (fun _ => 0)))] := hD
  refine W.widen (k := 7) (n := 28) (by decide) (by decide) ?_
  refine xi_putF Z hP hD hS 2 rfl rfl iX2 tyX2_ok nmX2 (by decide) xb_113 rfl rfl rfl rfl (Nat.le_of_ble_eq_true rfl) dX2_init_25 (fun H locs hP hD hS => ?_)
  have hP : va_P D classes [(h0, .inr (2, [.ref q7, .ref q16, .ref q23, .int 0])), (q7, .inl (cs 2, 4, .inr (.inr (.inr (.inr (fun j => some (q7 + 1 + j))))))), (q7 + 1, .inl (cs 0, 4, .inl (fun _ => 0))), (q7 + 2, .inl (cs 0, 4, .inl (fun _ => 0))), (q7 + 3, .inl (cs 0, 4, .inl (fun _ => 0))), (q7 + 4, .inl (cs 0, 4, .inl (fun _ => 0))), (q16, .inl (cs 0, 4, .inl (fun _ => 0))), (q23, .inl (cs 0, 4, .inl (fun _ => 0)))] H := hP
  have hD : va_D A [(h0, .inr (2, [.ref q7, .ref q16, .ref q23, .int 0])), (q7, .inl (cs 2, 4, .inr (.inr (.inr (.inr (fun j => some (q7 + 1 + j))))))), (q7 + 1, .inl (cs 0, 4, .inl (fun _ => 0))), (q7 + 2, .inl (cs 0, 4, .inl (fun _ => 0))), (q7 + 3, .inl (cs 0, 4, .inl (fun _ => 0))), (q7 + 4, .inl (cs 0, 4, .inl (fun _ => 0))), (q16, .inl (cs 0, 4, .inl (fun _ => 0))), (q23, .inl (cs 0, 4, .inl (fun _ => 0)))] := hD
  have e : xw [48, 49, 50, 51, 52, 53, 54, 55] (fun k => [h0, q7, q7 + 1, q7 + 2, q7 + 3, q7 + 4, q16, q23].getD (k - 48) 0) cs xm0 = [(h0, .inr (2, [.ref q7, .ref q16, .ref q23, .int 0])), (q7, .inl (cs 2, 4, .inr (.inr (.inr (.inr (fun j => some ((fun k => [h0, q7, q7 + 1, q7 + 2, q7 + 3, q7 + 4, q16, q23].getD (k - 48) 0) (50 + j)))))))), (q7 + 1, .inl (cs 0, 4, .inl (fun _ => 0))), (q7 + 2, .inl (cs 0, 4, .inl (fun _ => 0))), (q7 + 3, .inl (cs 0, 4, .inl (fun _ => 0))), (q7 + 4, .inl (cs 0, 4, .inl (fun _ => 0))), (q16, .inl (cs 0, 4, .inl (fun _ => 0))), (q23, .inl (cs 0, 4, .inl (fun _ => 0)))] := rfl
  have hP := hP.refs hD (p := 1) (g := fun j => some ((fun k => [h0, q7, q7 + 1, q7 + 2, q7 + 3, q7 + 4, q16, q23].getD (k - 48) 0) (50 + j))) rfl (fun j hj => by rcases (show j = 0 ∨ j = 1 ∨ j = 2 ∨ j = 3 by omega) with rfl | rfl | rfl | rfl <;> rfl)
  have hD := hD.set (p := 1) (e := .inl (cs 2, 4, .inr (.inr (.inr (.inr (fun j => some ((fun k => [h0, q7, q7 + 1, q7 + 2, q7 + 3, q7 + 4, q16, q23].getD (k - 48) 0) (50 + j)))))))) rfl
  exact xi_ret Z (fun k => [h0, q7, q7 + 1, q7 + 2, q7 + 3, q7 + 4, q16, q23].getD (k - 48) 0) rfl (by rw [e]; exact hP) (by rw [e]; exact hD) hS dX2_init_28
theorem dX1_init_0 : decode cX1_init 0 = .ok (.aload_n 0, 1) := by decide +kernel
theorem dX1_init_1 : decode cX1_init 1 = .ok (.invokespecial 3, 3) := by decide +kernel
theorem dX1_init_4 : decode cX1_init 4 = .ok (.aload_n 0, 1) := by decide +kernel
theorem dX1_init_5 : decode cX1_init 5 = .ok (.bipush 6, 2) := by decide +kernel
theorem dX1_init_7 : decode cX1_init 7 = .ok (.newarray .int, 2) := by decide +kernel
theorem dX1_init_9 : decode cX1_init 9 = .ok (.putfield 9, 3) := by decide +kernel
theorem dX1_init_12 : decode cX1_init 12 = .ok (.aload_n 0, 1) := by decide +kernel
theorem dX1_init_13 : decode cX1_init 13 = .ok (.bipush 6, 2) := by decide +kernel
theorem dX1_init_15 : decode cX1_init 15 = .ok (.newarray .int, 2) := by decide +kernel
theorem dX1_init_17 : decode cX1_init 17 = .ok (.putfield 15, 3) := by decide +kernel
theorem dX1_init_20 : decode cX1_init 20 = .ok (.aload_n 0, 1) := by decide +kernel
theorem dX1_init_21 : decode cX1_init 21 = .ok (.bipush 6, 2) := by decide +kernel
theorem dX1_init_23 : decode cX1_init 23 = .ok (.newarray .int, 2) := by decide +kernel
theorem dX1_init_25 : decode cX1_init 25 = .ok (.putfield 18, 3) := by decide +kernel
theorem dX1_init_28 : decode cX1_init 28 = .ok (.aload_n 0, 1) := by decide +kernel
theorem dX1_init_29 : decode cX1_init 29 = .ok (.bipush 6, 2) := by decide +kernel
theorem dX1_init_31 : decode cX1_init 31 = .ok (.newarray .int, 2) := by decide +kernel
theorem dX1_init_33 : decode cX1_init 33 = .ok (.putfield 21, 3) := by decide +kernel
theorem dX1_init_36 : decode cX1_init 36 = .ok (.aload_n 0, 1) := by decide +kernel
theorem dX1_init_37 : decode cX1_init 37 = .ok (.bipush 8, 2) := by decide +kernel
theorem dX1_init_39 : decode cX1_init 39 = .ok (.newarray .int, 2) := by decide +kernel
theorem dX1_init_41 : decode cX1_init 41 = .ok (.putfield 24, 3) := by decide +kernel
theorem dX1_init_44 : decode cX1_init 44 = .ok (.aload_n 0, 1) := by decide +kernel
theorem dX1_init_45 : decode cX1_init 45 = .ok (.bipush 8, 2) := by decide +kernel
theorem dX1_init_47 : decode cX1_init 47 = .ok (.newarray .int, 2) := by decide +kernel
theorem dX1_init_49 : decode cX1_init 49 = .ok (.putfield 27, 3) := by decide +kernel
theorem dX1_init_52 : decode cX1_init 52 = .ok (.aload_n 0, 1) := by decide +kernel
theorem dX1_init_53 : decode cX1_init 53 = .ok (.bipush 8, 2) := by decide +kernel
theorem dX1_init_55 : decode cX1_init 55 = .ok (.newarray .int, 2) := by decide +kernel
theorem dX1_init_57 : decode cX1_init 57 = .ok (.putfield 30, 3) := by decide +kernel
theorem dX1_init_60 : decode cX1_init 60 = .ok (.aload_n 0, 1) := by decide +kernel
theorem dX1_init_61 : decode cX1_init 61 = .ok (.bipush 6, 2) := by decide +kernel
theorem dX1_init_63 : decode cX1_init 63 = .ok (.newarray .int, 2) := by decide +kernel
theorem dX1_init_65 : decode cX1_init 65 = .ok (.putfield 33, 3) := by decide +kernel
theorem dX1_init_68 : decode cX1_init 68 = .ok (.aload_n 0, 1) := by decide +kernel
theorem dX1_init_69 : decode cX1_init 69 = .ok (.invokevirtual 36, 3) := by decide +kernel
theorem dX1_init_72 : decode cX1_init 72 = .ok (.return_, 1) := by decide +kernel
abbrev eX1 : va_E := .inr (1, [.int 0, .null, .null, .null, .null, .int 0, .int 0, .null, .null, .null, .null, .int 0, .int 0])
def rmX1_init : Room := { frames := 1, cells := 8, slots := 54, locals := 21 }
set_option maxRecDepth 20000 in
theorem kX1_init_4 (l : Launch) (D : va_G) (cs : Nat → ClassId) (h0 sz : Nat) : Met l yX1_init [Cond.code yX1_init cX1_init 1 none] rmX1_init (XN D cs [.ref h0] [(h0, eX1)] sz) (XE D (fun u : (Nat → Nat) × xm => u.1 4 = h0 ∧ rdX u.2 4 D0) (fun u => xw [4, 5, 6, 7, 8, 9, 10, 11, 12] u.1 cs u.2) (va_A [(h0, eX1)] sz)) 8 54 (va_A [(h0, eX1)] sz) := by
  refine xi_of (own := RX1) (lv := [(0, .ref h0)]) (by decide +kernel) rfl rfl rfl (Nat.le_of_ble_eq_true rfl) (fun p e s m args below meth c A ls Z hA hP hD hl => ?_)
  have hS : va_S A s.heap s.heap [] := va_S.rf
  refine lv_aload_n Z.1 Z.2.1 dX1_init_0 rfl (lv_at hl 0 rfl) ?_
  refine xi_obj Z xb_93 hl ⟨Nat.le_of_ble_eq_true rfl, Nat.le_of_ble_eq_true rfl⟩ dX1_init_1 ?_
  refine lv_aload_n Z.1 Z.2.1 dX1_init_4 rfl (lv_at hl 0 rfl) ?_
  refine lv_bipush (v := 6) Z.1 Z.2.1 dX1_init_5 (by decide) ?_
  refine xi_newi (N := 6) Z hP hD hS hA (by decide) rfl (by decide) ⟨Nat.le_of_ble_eq_true rfl, Nat.le_of_ble_eq_true rfl⟩ dX1_init_7 (fun q7 H hP hD hS => ?_)
  have hP : va_P D classes [(h0, .inr (1, [.int 0, .null, .null, .null, .null, .int 0, .int 0, .null, .null, .null, .null, .int 0, .int 0])), (q7, .inl (cs 0, 6, .inl (fun _ => 0)))] H := hP
  have hD : va_D A [(h0, .inr (1, [.int 0, .null, .null, .null, .null, .int 0, .int 0, .null, .null, .null, .null, .int 0, .int 0])), (q7, .inl (cs 0, 6, .inl (fun _ => 0)))] := hD
  refine W.widen (k := 1) (n := 6) (by decide) (by decide) ?_
  refine xi_putF Z hP hD hS 1 rfl rfl iX1 tyX1_ok nmX1 (by decide) xb_94 rfl rfl rfl rfl (Nat.le_of_ble_eq_true rfl) dX1_init_9 (fun H locs hP hD hS => ?_)
  have hP : va_P D classes [(h0, .inr (1, [.int 0, .ref q7, .null, .null, .null, .int 0, .int 0, .null, .null, .null, .null, .int 0, .int 0])), (q7, .inl (cs 0, 6, .inl (fun _ => 0)))] H := hP
  have hD : va_D A [(h0, .inr (1, [.int 0, .ref q7, .null, .null, .null, .int 0, .int 0, .null, .null, .null, .null, .int 0, .int 0])), (q7, .inl (cs 0, 6, .inl (fun _ => 0)))] := hD
  refine lv_aload_n Z.1 Z.2.1 dX1_init_12 rfl (lv_at hl 0 rfl) ?_
  refine lv_bipush (v := 6) Z.1 Z.2.1 dX1_init_13 (by decide) ?_
  refine xi_newi (N := 6) Z hP hD hS hA (by decide) rfl (by decide) ⟨Nat.le_of_ble_eq_true rfl, Nat.le_of_ble_eq_true rfl⟩ dX1_init_15 (fun q15 H hP hD hS => ?_)
  have hP : va_P D classes [(h0, .inr (1, [.int 0, .ref q7, .null, .null, .null, .int 0, .int 0, .null, .null, .null, .null, .int 0, .int 0])), (q7, .inl (cs 0, 6, .inl (fun _ => 0))), (q15, .inl (cs 0, 6, .inl (fun _ => 0)))] H := hP
  have hD : va_D A [(h0, .inr (1, [.int 0, .ref q7, .null, .null, .null, .int 0, .int 0, .null, .null, .null, .null, .int 0, .int 0])), (q7, .inl (cs 0, 6, .inl (fun _ => 0))), (q15, .inl (cs 0, 6, .inl (fun _ => 0)))] := hD
  refine W.widen (k := 2) (n := 12) (by decide) (by decide) ?_
  refine xi_putF Z hP hD hS 2 rfl rfl iX1 tyX1_ok nmX1 (by decide) xb_27 rfl rfl rfl rfl (Nat.le_of_ble_eq_true rfl) dX1_init_17 (fun H locs hP hD hS => ?_)
  have hP : va_P D classes [(h0, .inr (1, [.int 0, .ref q7, .ref q15, .null, .null, .int 0, .int 0, .null, .null, .null, .null, .int 0, .int 0])), (q7, .inl (cs 0, 6, .inl (fun _ => 0))), (q15, .inl (cs 0, 6, .inl (fun _ => 0)))] H := hP
  have hD : va_D A [(h0, .inr (1, [.int 0, .ref q7, .ref q15, .null, .null, .int 0, .int 0, .null, .null, .null, .null, .int 0, .int 0])), (q7, .inl (cs 0, 6, .inl (fun _ => 0))), (q15, .inl (cs 0, 6, .inl (fun _ => 0)))] := hD
  refine lv_aload_n Z.1 Z.2.1 dX1_init_20 rfl (lv_at hl 0 rfl) ?_
  refine lv_bipush (v := 6) Z.1 Z.2.1 dX1_init_21 (by decide) ?_
  refine xi_newi (N := 6) Z hP hD hS hA (by decide) rfl (by decide) ⟨Nat.le_of_ble_eq_true rfl, Nat.le_of_ble_eq_true rfl⟩ dX1_init_23 (fun q23 H hP hD hS => ?_)
  have hP : va_P D classes [(h0, .inr (1, [.int 0, .ref q7, .ref q15, .null, .null, .int 0, .int 0, .null, .null, .null, .null, .int 0, .int 0])), (q7, .inl (cs 0, 6, .inl (fun _ => 0))), (q15, .inl (cs 0, 6, .inl (fun _ => 0))), (q23, .inl (cs 0, 6, .inl (fun _ => 0)))] H := hP
  have hD : va_D A [(h0, .inr (1, [.int 0, .ref q7, .ref q15, .null, .null, .int 0, .int 0, .null, .null, .null, .null, .int 0, .int 0])), (q7, .inl (cs 0, 6, .inl (fun _ => 0))), (q15, .inl (cs 0, 6, .inl (fun _ => 0))), (q23, .inl (cs 0, 6, .inl (fun _ => 0)))] := hD
  refine W.widen (k := 3) (n := 18) (by decide) (by decide) ?_
  refine xi_putF Z hP hD hS 3 rfl rfl iX1 tyX1_ok nmX1 (by decide) xb_95 rfl rfl rfl rfl (Nat.le_of_ble_eq_true rfl) dX1_init_25 (fun H locs hP hD hS => ?_)
  have hP : va_P D classes [(h0, .inr (1, [.int 0, .ref q7, .ref q15, .ref q23, .null, .int 0, .int 0, .null, .null, .null, .null, .int 0, .int 0])), (q7, .inl (cs 0, 6, .inl (fun _ => 0))), (q15, .inl (cs 0, 6, .inl (fun _ => 0))), (q23, .inl (cs 0, 6, .inl (fun _ => 0)))] H := hP
  have hD : va_D A [(h0, .inr (1, [.int 0, .ref q7, .ref q15, .ref q23, .null, .int 0, .int 0, .null, .null, .null, .null, .int 0, .int 0])), (q7, .inl (cs 0, 6, .inl (fun _ => 0))), (q15, .inl (cs 0, 6, .inl (fun _ => 0))), (q23, .inl (cs 0, 6, .inl (fun _ => 0)))] := hD
  refine lv_aload_n Z.1 Z.2.1 dX1_init_28 rfl (lv_at hl 0 rfl) ?_
  refine lv_bipush (v := 6) Z.1 Z.2.1 dX1_init_29 (by decide) ?_
  refine xi_newi (N := 6) Z hP hD hS hA (by decide) rfl (by decide) ⟨Nat.le_of_ble_eq_true rfl, Nat.le_of_ble_eq_true rfl⟩ dX1_init_31 (fun q31 H hP hD hS => ?_)
  have hP : va_P D classes [(h0, .inr (1, [.int 0, .ref q7, .ref q15, .ref q23, .null, .int 0, .int 0, .null, .null, .null, .null, .int 0, .int 0])), (q7, .inl (cs 0, 6, .inl (fun _ => 0))), (q15, .inl (cs 0, 6, .inl (fun _ => 0))), (q23, .inl (cs 0, 6, .inl (fun _ => 0))), (q31, .inl (cs 0, 6, .inl (fun _ => 0)))] H := hP
  have hD : va_D A [(h0, .inr (1, [.int 0, .ref q7, .ref q15, .ref q23, .null, .int 0, .int 0, .null, .null, .null, .null, .int 0, .int 0])), (q7, .inl (cs 0, 6, .inl (fun _ => 0))), (q15, .inl (cs 0, 6, .inl (fun _ => 0))), (q23, .inl (cs 0, 6, .inl (fun _ => 0))), (q31, .inl (cs 0, 6, .inl (fun _ => 0)))] := hD
  refine W.widen (k := 4) (n := 24) (by decide) (by decide) ?_
  refine xi_putF Z hP hD hS 4 rfl rfl iX1 tyX1_ok nmX1 (by decide) xb_12 rfl rfl rfl rfl (Nat.le_of_ble_eq_true rfl) dX1_init_33 (fun H locs hP hD hS => ?_)
  have hP : va_P D classes [(h0, .inr (1, [.int 0, .ref q7, .ref q15, .ref q23, .ref q31, .int 0, .int 0, .null, .null, .null, .null, .int 0, .int 0])), (q7, .inl (cs 0, 6, .inl (fun _ => 0))), (q15, .inl (cs 0, 6, .inl (fun _ => 0))), (q23, .inl (cs 0, 6, .inl (fun _ => 0))), (q31, .inl (cs 0, 6, .inl (fun _ => 0)))] H := hP
  have hD : va_D A [(h0, .inr (1, [.int 0, .ref q7, .ref q15, .ref q23, .ref q31, .int 0, .int 0, .null, .null, .null, .null, .int 0, .int 0])), (q7, .inl (cs 0, 6, .inl (fun _ => 0))), (q15, .inl (cs 0, 6, .inl (fun _ => 0))), (q23, .inl (cs 0, 6, .inl (fun _ => 0))), (q31, .inl (cs 0, 6, .inl (fun _ => 0)))] := hD
  refine lv_aload_n Z.1 Z.2.1 dX1_init_36 rfl (lv_at hl 0 rfl) ?_
  refine lv_bipush (v := 8) Z.1 Z.2.1 dX1_init_37 (by decide) ?_
  refine xi_newi (N := 8) Z hP hD hS hA (by decide) rfl (by decide) ⟨Nat.le_of_ble_eq_true rfl, Nat.le_of_ble_eq_true rfl⟩ dX1_init_39 (fun q39 H hP hD hS => ?_)
  have hP : va_P D classes [(h0, .inr (1, [.int 0, .ref q7, .ref q15, .ref q23, .ref q31, .int 0, .int 0, .null, .null, .null, .null, .int 0, .int 0])), (q7, .inl (cs 0, 6, .inl (fun _ => 0))), (q15, .inl (cs 0, 6, .inl (fun _ => 0))), (q23, .inl (cs 0, 6, .inl (fun _ => 0))), (q31, .inl (cs 0, 6, .inl (fun _ => 0))), (q39, .inl (cs 0, 8, .inl (fun _ => 0)))] H := hP
  have hD : va_D A [(h0, .inr (1, [.int 0, .ref q7, .ref q15, .ref q23, .ref q31, .int 0, .int 0, .null, .null, .null, .null, .int 0, .int 0])), (q7, .inl (cs 0, 6, .inl (fun _ => 0))), (q15, .inl (cs 0, 6, .inl (fun _ => 0))), (q23, .inl (cs 0, 6, .inl (fun _ => 0))), (q31, .inl (cs 0, 6, .inl (fun _ => 0))), (q39, .inl (cs 0, 8, .inl (fun _ => 0)))] := hD
  refine W.widen (k := 5) (n := 32) (by decide) (by decide) ?_
  refine xi_putF Z hP hD hS 7 rfl rfl iX1 tyX1_ok nmX1 (by decide) xb_26 rfl rfl rfl rfl (Nat.le_of_ble_eq_true rfl) dX1_init_41 (fun H locs hP hD hS => ?_)
  have hP : va_P D classes [(h0, .inr (1, [.int 0, .ref q7, .ref q15, .ref q23, .ref q31, .int 0, .int 0, .ref q39, .null, .null, .null, .int 0, .int 0])), (q7, .inl (cs 0, 6, .inl (fun _ => 0))), (q15, .inl (cs 0, 6, .inl (fun _ => 0))), (q23, .inl (cs 0, 6, .inl (fun _ => 0))), (q31, .inl (cs 0, 6, .inl (fun _ => 0))), (q39, .inl (cs 0, 8, .inl (fun _ => 0)))] H := hP
  have hD : va_D A [(h0, .inr (1, [.int 0, .ref q7, .ref q15, .ref q23, .ref q31, .int 0, .int 0, .ref q39, .null, .null, .null, .int 0, .int 0])), (q7, .inl (cs 0, 6, .inl (fun _ => 0))), (q15, .inl (cs 0, 6, .inl (fun _ => 0))), (q23, .inl (cs 0, 6, .inl (fun _ => 0))), (q31, .inl (cs 0, 6, .inl (fun _ => 0))), (q39, .inl (cs 0, 8, .inl (fun _ => 0)))] := hD
  refine lv_aload_n Z.1 Z.2.1 dX1_init_44 rfl (lv_at hl 0 rfl) ?_
  refine lv_bipush (v := 8) Z.1 Z.2.1 dX1_init_45 (by decide) ?_
  refine xi_newi (N := 8) Z hP hD hS hA (by decide) rfl (by decide) ⟨Nat.le_of_ble_eq_true rfl, Nat.le_of_ble_eq_true rfl⟩ dX1_init_47 (fun q47 H hP hD hS => ?_)
  have hP : va_P D classes [(h0, .inr (1, [.int 0, .ref q7, .ref q15, .ref q23, .ref q31, .int 0, .int 0, .ref q39, .null, .null, .null, .int 0, .int 0])), (q7, .inl (cs 0, 6, .inl (fun _ => 0))), (q15, .inl (cs 0, 6, .inl (fun _ => 0))), (q23, .inl (cs 0, 6, .inl (fun _ => 0))), (q31, .inl (cs 0, 6, .inl (fun _ => 0))), (q39, .inl (cs 0, 8, .inl (fun _ => 0))), (q47, .inl (cs 0, 8, .inl (fun _ => 0)))] H := hP
  have hD : va_D A [(h0, .inr (1, [.int 0, .ref q7, .ref q15, .ref q23, .ref q31, .int 0, .int 0, .ref q39, .null, .null, .null, .int 0, .int 0])), (q7, .inl (cs 0, 6, .inl (fun _ => 0))), (q15, .inl (cs 0, 6, .inl (fun _ => 0))), (q23, .inl (cs 0, 6, .inl (fun _ => 0))), (q31, .inl (cs 0, 6, .inl (fun _ => 0))), (q39, .inl (cs 0, 8, .inl (fun _ => 0))), (q47, .inl (cs 0, 8, .inl (fun _ => 0)))] := hD
  refine W.widen (k := 6) (n := 40) (by decide) (by decide) ?_
  refine xi_putF Z hP hD hS 8 rfl rfl iX1 tyX1_ok nmX1 (by decide) xb_28 rfl rfl rfl rfl (Nat.le_of_ble_eq_true rfl) dX1_init_49 (fun H locs hP hD hS => ?_)
  have hP : va_P D classes [(h0, .inr (1, [.int 0, .ref q7, .ref q15, .ref q23, .ref q31, .int 0, .int 0, .ref q39, .ref q47, .null, .null, .int 0, .int 0])), (q7, .inl (cs 0, 6, .inl (fun _ => 0))), (q15, .inl (cs 0, 6, .inl (fun _ => 0))), (q23, .inl (cs 0, 6, .inl (fun _ => 0))), (q31, .inl (cs 0, 6, .inl (fun _ => 0))), (q39, .inl (cs 0, 8, .inl (fun _ => 0))), (q47, .inl (cs 0, 8, .inl (fun _ => 0)))] H := hP
  have hD : va_D A [(h0, .inr (1, [.int 0, .ref q7, .ref q15, .ref q23, .ref q31, .int 0, .int 0, .ref q39, .ref q47, .null, .null, .int 0, .int 0])), (q7, .inl (cs 0, 6, .inl (fun _ => 0))), (q15, .inl (cs 0, 6, .inl (fun _ => 0))), (q23, .inl (cs 0, 6, .inl (fun _ => 0))), (q31, .inl (cs 0, 6, .inl (fun _ => 0))), (q39, .inl (cs 0, 8, .inl (fun _ => 0))), (q47, .inl (cs 0, 8, .inl (fun _ => 0)))] := hD
  refine lv_aload_n Z.1 Z.2.1 dX1_init_52 rfl (lv_at hl 0 rfl) ?_
  refine lv_bipush (v := 8) Z.1 Z.2.1 dX1_init_53 (by decide) ?_
  refine xi_newi (N := 8) Z hP hD hS hA (by decide) rfl (by decide) ⟨Nat.le_of_ble_eq_true rfl, Nat.le_of_ble_eq_true rfl⟩ dX1_init_55 (fun q55 H hP hD hS => ?_)
  have hP : va_P D classes [(h0, .inr (1, [.int 0, .ref q7, .ref q15, .ref q23, .ref q31, .int 0, .int 0, .ref q39, .ref q47, .null, .null, .int 0, .int 0])), (q7, .inl (cs 0, 6, .inl (fun _ => 0))), (q15, .inl (cs 0, 6, .inl (fun _ => 0))), (q23, .inl (cs 0, 6, .inl (fun _ => 0))), (q31, .inl (cs 0, 6, .inl (fun _ => 0))), (q39, .inl (cs 0, 8, .inl (fun _ => 0))), (q47, .inl (cs 0, 8, .inl (fun _ => 0))), (q55, .inl (cs 0, 8, .inl (fun _ => 0)))] H := hP
  have hD : va_D A [(h0, .inr (1, [.int 0, .ref q7, .ref q15, .ref q23, .ref q31, .int 0, .int 0, .ref q39, .ref q47, .null, .null, .int 0, .int 0])), (q7, .inl (cs 0, 6, .inl (fun _ => 0))), (q15, .inl (cs 0, 6, .inl (fun _ => 0))), (q23, .inl (cs 0, 6, .inl (fun _ => 0))), (q31, .inl (cs 0, 6, .inl (fun _ => 0))), (q39, .inl (cs 0, 8, .inl (fun _ => 0))), (q47, .inl (cs 0, 8, .inl (fun _ => 0))), (q55, .inl (cs 0, 8, .inl (fun _ => 0)))] := hD
  refine W.widen (k := 7) (n := 48) (by decide) (by decide) ?_
  refine xi_putF Z hP hD hS 9 rfl rfl iX1 tyX1_ok nmX1 (by decide) xb_96 rfl rfl rfl rfl (Nat.le_of_ble_eq_true rfl) dX1_init_57 (fun H locs hP hD hS => ?_)
  have hP : va_P D classes [(h0, .inr (1, [.int 0, .ref q7, .ref q15, .ref q23, .ref q31, .int 0, .int 0, .ref q39, .ref q47, .ref q55, .null, .int 0, .int 0])), (q7, .inl (cs 0, 6, .inl (fun _ => 0))), (q15, .inl (cs 0, 6, .inl (fun _ => 0))), (q23, .inl (cs 0, 6, .inl (fun _ => 0))), (q31, .inl (cs 0, 6, .inl (fun _ => 0))), (q39, .inl (cs 0, 8, .inl (fun _ => 0))), (q47, .inl (cs 0, 8, .inl (fun _ => 0))), (q55, .inl (cs 0, 8, .inl (fun _ => 0)))] H := hP
  have hD : va_D A [(h0, .inr (1, [.int 0, .ref q7, .ref q15, .ref q23, .ref q31, .int 0, .int 0, .ref q39, .ref q47, .ref q55, .null, .int 0, .int 0])), (q7, .inl (cs 0, 6, .inl (fun _ => 0))), (q15, .inl (cs 0, 6, .inl (fun _ => 0))), (q23, .inl (cs 0, 6, .inl (fun _ => 0))), (q31, .inl (cs 0, 6, .inl (fun _ => 0))), (q39, .inl (cs 0, 8, .inl (fun _ => 0))), (q47, .inl (cs 0, 8, .inl (fun _ => 0))), (q55, .inl (cs 0, 8, .inl (fun _ => 0)))] := hD
  refine lv_aload_n Z.1 Z.2.1 dX1_init_60 rfl (lv_at hl 0 rfl) ?_
  refine lv_bipush (v := 6) Z.1 Z.2.1 dX1_init_61 (by decide) ?_
  refine xi_newi (N := 6) Z hP hD hS hA (by decide) rfl (by decide) ⟨Nat.le_of_ble_eq_true rfl, Nat.le_of_ble_eq_true rfl⟩ dX1_init_63 (fun q63 H hP hD hS => ?_)
  have hP : va_P D classes [(h0, .inr (1, [.int 0, .ref q7, .ref q15, .ref q23, .ref q31, .int 0, .int 0, .ref q39, .ref q47, .ref q55, .null, .int 0, .int 0])), (q7, .inl (cs 0, 6, .inl (fun _ => 0))), (q15, .inl (cs 0, 6, .inl (fun _ => 0))), (q23, .inl (cs 0, 6, .inl (fun _ => 0))), (q31, .inl (cs 0, 6, .inl (fun _ => 0))), (q39, .inl (cs 0, 8, .inl (fun _ => 0))), (q47, .inl (cs 0, 8, .inl (fun _ => 0))), (q55, .inl (cs 0, 8, .inl (fun _ => 0))), (q63, .inl (cs 0, 6, .inl (fun _ => 0)))] H := hP
  have hD : va_D A [(h0, .inr (1, [.int 0, .ref q7, .ref q15, .ref q23, .ref q31, .int 0, .int 0, .ref q39, .ref q47, .ref q55, .null, .int 0, .int 0])), (q7, .inl (cs 0, 6, .inl (fun _ => 0))), (q15, .inl (cs 0, 6, .inl (fun _ => 0))), (q23, .inl (cs 0, 6, .inl (fun _ => 0))), (q31, .inl (cs 0, 6, .inl (fun _ => 0))), (q39, .inl (cs 0, 8, .inl (fun _ => 0))), (q47, .inl (cs 0, 8, .inl (fun _ => 0))), (q55, .inl (cs 0, 8, .inl (fun _ => 0))), (q63, .inl (cs 0, 6, .inl (fun _ => 0)))] := hD
  refine W.widen (k := 8) (n := 54) (by decide) (by decide) ?_
  refine xi_putF Z hP hD hS 10 rfl rfl iX1 tyX1_ok nmX1 (by decide) xb_89 rfl rfl rfl rfl (Nat.le_of_ble_eq_true rfl) dX1_init_65 (fun H locs hP hD hS => ?_)
  have hP : va_P D classes [(h0, .inr (1, [.int 0, .ref q7, .ref q15, .ref q23, .ref q31, .int 0, .int 0, .ref q39, .ref q47, .ref q55, .ref q63, .int 0, .int 0])), (q7, .inl (cs 0, 6, .inl (fun _ => 0))), (q15, .inl (cs 0, 6, .inl (fun _ => 0))), (q23, .inl (cs 0, 6, .inl (fun _ => 0))), (q31, .inl (cs 0, 6, .inl (fun _ => 0))), (q39, .inl (cs 0, 8, .inl (fun _ => 0))), (q47, .inl (cs 0, 8, .inl (fun _ => 0))), (q55, .inl (cs 0, 8, .inl (fun _ => 0))), (q63, .inl (cs 0, 6, .inl (fun _ => 0)))] H := hP
  have hD : va_D A [(h0, .inr (1, [.int 0, .ref q7, .ref q15, .ref q23, .ref q31, .int 0, .int 0, .ref q39, .ref q47, .ref q55, .ref q63, .int 0, .int 0])), (q7, .inl (cs 0, 6, .inl (fun _ => 0))), (q15, .inl (cs 0, 6, .inl (fun _ => 0))), (q23, .inl (cs 0, 6, .inl (fun _ => 0))), (q31, .inl (cs 0, 6, .inl (fun _ => 0))), (q39, .inl (cs 0, 8, .inl (fun _ => 0))), (q47, .inl (cs 0, 8, .inl (fun _ => 0))), (q55, .inl (cs 0, 8, .inl (fun _ => 0))), (q63, .inl (cs 0, 6, .inl (fun _ => 0)))] := hD
  refine lv_aload_n Z.1 Z.2.1 dX1_init_68 rfl (lv_at hl 0 rfl) ?_
  have e : xw [4, 5, 6, 7, 8, 9, 10, 11, 12] (fun k => [h0, q7, q15, q23, q31, q39, q47, q55, q63].getD (k - 4) 0) cs xm0 = [(h0, .inr (1, [.int 0, .ref q7, .ref q15, .ref q23, .ref q31, .int 0, .int 0, .ref q39, .ref q47, .ref q55, .ref q63, .int 0, .int 0])), (q7, .inl (cs 0, 6, .inl (fun _ => 0))), (q15, .inl (cs 0, 6, .inl (fun _ => 0))), (q23, .inl (cs 0, 6, .inl (fun _ => 0))), (q31, .inl (cs 0, 6, .inl (fun _ => 0))), (q39, .inl (cs 0, 8, .inl (fun _ => 0))), (q47, .inl (cs 0, 8, .inl (fun _ => 0))), (q55, .inl (cs 0, 8, .inl (fun _ => 0))), (q63, .inl (cs 0, 6, .inl (fun _ => 0)))] := rfl
  rw [← e] at hP hD
  generalize hu : (fun k => [h0, q7, q15, q23, q31, q39, q47, q55, q63].getD (k - 4) 0) = u at hP hD
  have hu0 : h0 = u 4 := by rw [← hu]; rfl
  obtain ⟨M1, g1, g2, g3⟩ := X_clear 4 xm0
  refine xi_callVm (w1 := []) (S := [4, 5, 6, 7, 8, 9, 10, 11, 12]) (ad := u) (M := xm0) (M' := M1) (As := []) (rest := []) (k := 4) (n := 0) (T := TX1) (N := 13) Z (fun hd => kX1_clear l D cs _ u hd ⟨Or.inl rfl, by decide⟩ xm0 M1 g1) (by decide) hP hD hS hA (xq_5 xb_97 xb_98 xb_99 xb_19 xb_86) (by decide) rfl rfl ⟨rfl, by decide +kernel, by decide +kernel, by decide +kernel⟩ rfl ⟨rfl, rfl⟩ ⟨Nat.le_of_ble_eq_true rfl, Nat.le_of_ble_eq_true rfl⟩ hl (by rw [hu0]; rfl) (Nat.le_of_ble_eq_true rfl) ⟨Nat.le_of_ble_eq_true rfl, Nat.le_of_ble_eq_true rfl⟩ dX1_init_69 (fun H locs hP hD hS => ?_)
  exact xi_ret Z (u, M1) ⟨hu0.symm, g2⟩ hP hD hS dX1_init_72
set_option maxRecDepth 20000 in
theorem kX1_init_13 (l : Launch) (D : va_G) (cs : Nat → ClassId) (h0 sz : Nat) : Met l yX1_init [Cond.code yX1_init cX1_init 1 none] rmX1_init (XN D cs [.ref h0] [(h0, eX1)] sz) (XE D (fun u : (Nat → Nat) × xm => u.1 13 = h0 ∧ rdX u.2 13 D0) (fun u => xw [13, 14, 15, 16, 17, 18, 19, 20, 21] u.1 cs u.2) (va_A [(h0, eX1)] sz)) 8 54 (va_A [(h0, eX1)] sz) := by
  refine xi_of (own := RX1) (lv := [(0, .ref h0)]) (by decide +kernel) rfl rfl rfl (Nat.le_of_ble_eq_true rfl) (fun p e s m args below meth c A ls Z hA hP hD hl => ?_)
  have hS : va_S A s.heap s.heap [] := va_S.rf
  refine lv_aload_n Z.1 Z.2.1 dX1_init_0 rfl (lv_at hl 0 rfl) ?_
  refine xi_obj Z xb_93 hl ⟨Nat.le_of_ble_eq_true rfl, Nat.le_of_ble_eq_true rfl⟩ dX1_init_1 ?_
  refine lv_aload_n Z.1 Z.2.1 dX1_init_4 rfl (lv_at hl 0 rfl) ?_
  refine lv_bipush (v := 6) Z.1 Z.2.1 dX1_init_5 (by decide) ?_
  refine xi_newi (N := 6) Z hP hD hS hA (by decide) rfl (by decide) ⟨Nat.le_of_ble_eq_true rfl, Nat.le_of_ble_eq_true rfl⟩ dX1_init_7 (fun q7 H hP hD hS => ?_)
  have hP : va_P D classes [(h0, .inr (1, [.int 0, .null, .null, .null, .null, .int 0, .int 0, .null, .null, .null, .null, .int 0, .int 0])), (q7, .inl (cs 0, 6, .inl (fun _ => 0)))] H := hP
  have hD : va_D A [(h0, .inr (1, [.int 0, .null, .null, .null, .null, .int 0, .int 0, .null, .null, .null, .null, .int 0, .int 0])), (q7, .inl (cs 0, 6, .inl (fun _ => 0)))] := hD
  refine W.widen (k := 1) (n := 6) (by decide) (by decide) ?_
  refine xi_putF Z hP hD hS 1 rfl rfl iX1 tyX1_ok nmX1 (by decide) xb_94 rfl rfl rfl rfl (Nat.le_of_ble_eq_true rfl) dX1_init_9 (fun H locs hP hD hS => ?_)
  have hP : va_P D classes [(h0, .inr (1, [.int 0, .ref q7, .null, .null, .null, .int 0, .int 0, .null, .null, .null, .null, .int 0, .int 0])), (q7, .inl (cs 0, 6, .inl (fun _ => 0)))] H := hP
  have hD : va_D A [(h0, .inr (1, [.int 0, .ref q7, .null, .null, .null, .int 0, .int 0, .null, .null, .null, .null, .int 0, .int 0])), (q7, .inl (cs 0, 6, .inl (fun _ => 0)))] := hD
  refine lv_aload_n Z.1 Z.2.1 dX1_init_12 rfl (lv_at hl 0 rfl) ?_
  refine lv_bipush (v := 6) Z.1 Z.2.1 dX1_init_13 (by decide) ?_
  refine xi_newi (N := 6) Z hP hD hS hA (by decide) rfl (by decide) ⟨Nat.le_of_ble_eq_true rfl, Nat.le_of_ble_eq_true rfl⟩ dX1_init_15 (fun q15 H hP hD hS => ?_)
  have hP : va_P D classes [(h0, .inr (1, [.int 0, .ref q7, .null, .null, .null, .int 0, .int 0, .null, .null, .null, .null, .int 0, .int 0])), (q7, .inl (cs 0, 6, .inl (fun _ => 0))), (q15, .inl (cs 0, 6, .inl (fun _ => 0)))] H := hP
  have hD : va_D A [(h0, .inr (1, [.int 0, .ref q7, .null, .null, .null, .int 0, .int 0, .null, .null, .null, .null, .int 0, .int 0])), (q7, .inl (cs 0, 6, .inl (fun _ => 0))), (q15, .inl (cs 0, 6, .inl (fun _ => 0)))] := hD
  refine W.widen (k := 2) (n := 12) (by decide) (by decide) ?_
  refine xi_putF Z hP hD hS 2 rfl rfl iX1 tyX1_ok nmX1 (by decide) xb_27 rfl rfl rfl rfl (Nat.le_of_ble_eq_true rfl) dX1_init_17 (fun H locs hP hD hS => ?_)
  have hP : va_P D classes [(h0, .inr (1, [.int 0, .ref q7, .ref q15, .null, .null, .int 0, .int 0, .null, .null, .null, .null, .int 0, .int 0])), (q7, .inl (cs 0, 6, .inl (fun _ => 0))), (q15, .inl (cs 0, 6, .inl (fun _ => 0)))] H := hP
  have hD : va_D A [(h0, .inr (1, [.int 0, .ref q7, .ref q15, .null, .null, .int 0, .int 0, .null, .null, .null, .null, .int 0, .int 0])), (q7, .inl (cs 0, 6, .inl (fun _ => 0))), (q15, .inl (cs 0, 6, .inl (fun _ => 0)))] := hD
  refine lv_aload_n Z.1 Z.2.1 dX1_init_20 rfl (lv_at hl 0 rfl) ?_
  refine lv_bipush (v := 6) Z.1 Z.2.1 dX1_init_21 (by decide) ?_
  refine xi_newi (N := 6) Z hP hD hS hA (by decide) rfl (by decide) ⟨Nat.le_of_ble_eq_true rfl, Nat.le_of_ble_eq_true rfl⟩ dX1_init_23 (fun q23 H hP hD hS => ?_)
  have hP : va_P D classes [(h0, .inr (1, [.int 0, .ref q7, .ref q15, .null, .null, .int 0, .int 0, .null, .null, .null, .null, .int 0, .int 0])), (q7, .inl (cs 0, 6, .inl (fun _ => 0))), (q15, .inl (cs 0, 6, .inl (fun _ => 0))), (q23, .inl (cs 0, 6, .inl (fun _ => 0)))] H := hP
  have hD : va_D A [(h0, .inr (1, [.int 0, .ref q7, .ref q15, .null, .null, .int 0, .int 0, .null, .null, .null, .null, .int 0, .int 0])), (q7, .inl (cs 0, 6, .inl (fun _ => 0))), (q15, .inl (cs 0, 6, .inl (fun _ => 0))), (q23, .inl (cs 0, 6, .inl (fun _ => 0)))] := hD
  refine W.widen (k := 3) (n := 18) (by decide) (by decide) ?_
  refine xi_putF Z hP hD hS 3 rfl rfl iX1 tyX1_ok nmX1 (by decide) xb_95 rfl rfl rfl rfl (Nat.le_of_ble_eq_true rfl) dX1_init_25 (fun H locs hP hD hS => ?_)
  have hP : va_P D classes [(h0, .inr (1, [.int 0, .ref q7, .ref q15, .ref q23, .null, .int 0, .int 0, .null, .null, .null, .null, .int 0, .int 0])), (q7, .inl (cs 0, 6, .inl (fun _ => 0))), (q15, .inl (cs 0, 6, .inl (fun _ => 0))), (q23, .inl (cs 0, 6, .inl (fun _ => 0)))] H := hP
  have hD : va_D A [(h0, .inr (1, [.int 0, .ref q7, .ref q15, .ref q23, .null, .int 0, .int 0, .null, .null, .null, .null, .int 0, .int 0])), (q7, .inl (cs 0, 6, .inl (fun _ => 0))), (q15, .inl (cs 0, 6, .inl (fun _ => 0))), (q23, .inl (cs 0, 6, .inl (fun _ => 0)))] := hD
  refine lv_aload_n Z.1 Z.2.1 dX1_init_28 rfl (lv_at hl 0 rfl) ?_
  refine lv_bipush (v := 6) Z.1 Z.2.1 dX1_init_29 (by decide) ?_
  refine xi_newi (N := 6) Z hP hD hS hA (by decide) rfl (by decide) ⟨Nat.le_of_ble_eq_true rfl, Nat.le_of_ble_eq_true rfl⟩ dX1_init_31 (fun q31 H hP hD hS => ?_)
  have hP : va_P D classes [(h0, .inr (1, [.int 0, .ref q7, .ref q15, .ref q23, .null, .int 0, .int 0, .null, .null, .null, .null, .int 0, .int 0])), (q7, .inl (cs 0, 6, .inl (fun _ => 0))), (q15, .inl (cs 0, 6, .inl (fun _ => 0))), (q23, .inl (cs 0, 6, .inl (fun _ => 0))), (q31, .inl (cs 0, 6, .inl (fun _ => 0)))] H := hP
  have hD : va_D A [(h0, .inr (1, [.int 0, .ref q7, .ref q15, .ref q23, .null, .int 0, .int 0, .null, .null, .null, .null, .int 0, .int 0])), (q7, .inl (cs 0, 6, .inl (fun _ => 0))), (q15, .inl (cs 0, 6, .inl (fun _ => 0))), (q23, .inl (cs 0, 6, .inl (fun _ => 0))), (q31, .inl (cs 0, 6, .inl (fun _ => 0)))] := hD
  refine W.widen (k := 4) (n := 24) (by decide) (by decide) ?_
  refine xi_putF Z hP hD hS 4 rfl rfl iX1 tyX1_ok nmX1 (by decide) xb_12 rfl rfl rfl rfl (Nat.le_of_ble_eq_true rfl) dX1_init_33 (fun H locs hP hD hS => ?_)
  have hP : va_P D classes [(h0, .inr (1, [.int 0, .ref q7, .ref q15, .ref q23, .ref q31, .int 0, .int 0, .null, .null, .null, .null, .int 0, .int 0])), (q7, .inl (cs 0, 6, .inl (fun _ => 0))), (q15, .inl (cs 0, 6, .inl (fun _ => 0))), (q23, .inl (cs 0, 6, .inl (fun _ => 0))), (q31, .inl (cs 0, 6, .inl (fun _ => 0)))] H := hP
  have hD : va_D A [(h0, .inr (1, [.int 0, .ref q7, .ref q15, .ref q23, .ref q31, .int 0, .int 0, .null, .null, .null, .null, .int 0, .int 0])), (q7, .inl (cs 0, 6, .inl (fun _ => 0))), (q15, .inl (cs 0, 6, .inl (fun _ => 0))), (q23, .inl (cs 0, 6, .inl (fun _ => 0))), (q31, .inl (cs 0, 6, .inl (fun _ => 0)))] := hD
  refine lv_aload_n Z.1 Z.2.1 dX1_init_36 rfl (lv_at hl 0 rfl) ?_
  refine lv_bipush (v := 8) Z.1 Z.2.1 dX1_init_37 (by decide) ?_
  refine xi_newi (N := 8) Z hP hD hS hA (by decide) rfl (by decide) ⟨Nat.le_of_ble_eq_true rfl, Nat.le_of_ble_eq_true rfl⟩ dX1_init_39 (fun q39 H hP hD hS => ?_)
  have hP : va_P D classes [(h0, .inr (1, [.int 0, .ref q7, .ref q15, .ref q23, .ref q31, .int 0, .int 0, .null, .null, .null, .null, .int 0, .int 0])), (q7, .inl (cs 0, 6, .inl (fun _ => 0))), (q15, .inl (cs 0, 6, .inl (fun _ => 0))), (q23, .inl (cs 0, 6, .inl (fun _ => 0))), (q31, .inl (cs 0, 6, .inl (fun _ => 0))), (q39, .inl (cs 0, 8, .inl (fun _ => 0)))] H := hP
  have hD : va_D A [(h0, .inr (1, [.int 0, .ref q7, .ref q15, .ref q23, .ref q31, .int 0, .int 0, .null, .null, .null, .null, .int 0, .int 0])), (q7, .inl (cs 0, 6, .inl (fun _ => 0))), (q15, .inl (cs 0, 6, .inl (fun _ => 0))), (q23, .inl (cs 0, 6, .inl (fun _ => 0))), (q31, .inl (cs 0, 6, .inl (fun _ => 0))), (q39, .inl (cs 0, 8, .inl (fun _ => 0)))] := hD
  refine W.widen (k := 5) (n := 32) (by decide) (by decide) ?_
  refine xi_putF Z hP hD hS 7 rfl rfl iX1 tyX1_ok nmX1 (by decide) xb_26 rfl rfl rfl rfl (Nat.le_of_ble_eq_true rfl) dX1_init_41 (fun H locs hP hD hS => ?_)
  have hP : va_P D classes [(h0, .inr (1, [.int 0, .ref q7, .ref q15, .ref q23, .ref q31, .int 0, .int 0, .ref q39, .null, .null, .null, .int 0, .int 0])), (q7, .inl (cs 0, 6, .inl (fun _ => 0))), (q15, .inl (cs 0, 6, .inl (fun _ => 0))), (q23, .inl (cs 0, 6, .inl (fun _ => 0))), (q31, .inl (cs 0, 6, .inl (fun _ => 0))), (q39, .inl (cs 0, 8, .inl (fun _ => 0)))] H := hP
  have hD : va_D A [(h0, .inr (1, [.int 0, .ref q7, .ref q15, .ref q23, .ref q31, .int 0, .int 0, .ref q39, .null, .null, .null, .int 0, .int 0])), (q7, .inl (cs 0, 6, .inl (fun _ => 0))), (q15, .inl (cs 0, 6, .inl (fun _ => 0))), (q23, .inl (cs 0, 6, .inl (fun _ => 0))), (q31, .inl (cs 0, 6, .inl (fun _ => 0))), (q39, .inl (cs 0, 8, .inl (fun _ => 0)))] := hD
  refine lv_aload_n Z.1 Z.2.1 dX1_init_44 rfl (lv_at hl 0 rfl) ?_
  refine lv_bipush (v := 8) Z.1 Z.2.1 dX1_init_45 (by decide) ?_
  refine xi_newi (N := 8) Z hP hD hS hA (by decide) rfl (by decide) ⟨Nat.le_of_ble_eq_true rfl, Nat.le_of_ble_eq_true rfl⟩ dX1_init_47 (fun q47 H hP hD hS => ?_)
  have hP : va_P D classes [(h0, .inr (1, [.int 0, .ref q7, .ref q15, .ref q23, .ref q31, .int 0, .int 0, .ref q39, .null, .null, .null, .int 0, .int 0])), (q7, .inl (cs 0, 6, .inl (fun _ => 0))), (q15, .inl (cs 0, 6, .inl (fun _ => 0))), (q23, .inl (cs 0, 6, .inl (fun _ => 0))), (q31, .inl (cs 0, 6, .inl (fun _ => 0))), (q39, .inl (cs 0, 8, .inl (fun _ => 0))), (q47, .inl (cs 0, 8, .inl (fun _ => 0)))] H := hP
  have hD : va_D A [(h0, .inr (1, [.int 0, .ref q7, .ref q15, .ref q23, .ref q31, .int 0, .int 0, .ref q39, .null, .null, .null, .int 0, .int 0])), (q7, .inl (cs 0, 6, .inl (fun _ => 0))), (q15, .inl (cs 0, 6, .inl (fun _ => 0))), (q23, .inl (cs 0, 6, .inl (fun _ => 0))), (q31, .inl (cs 0, 6, .inl (fun _ => 0))), (q39, .inl (cs 0, 8, .inl (fun _ => 0))), (q47, .inl (cs 0, 8, .inl (fun _ => 0)))] := hD
  refine W.widen (k := 6) (n := 40) (by decide) (by decide) ?_
  refine xi_putF Z hP hD hS 8 rfl rfl iX1 tyX1_ok nmX1 (by decide) xb_28 rfl rfl rfl rfl (Nat.le_of_ble_eq_true rfl) dX1_init_49 (fun H locs hP hD hS => ?_)
  have hP : va_P D classes [(h0, .inr (1, [.int 0, .ref q7, .ref q15, .ref q23, .ref q31, .int 0, .int 0, .ref q39, .ref q47, .null, .null, .int 0, .int 0])), (q7, .inl (cs 0, 6, .inl (fun _ => 0))), (q15, .inl (cs 0, 6, .inl (fun _ => 0))), (q23, .inl (cs 0, 6, .inl (fun _ => 0))), (q31, .inl (cs 0, 6, .inl (fun _ => 0))), (q39, .inl (cs 0, 8, .inl (fun _ => 0))), (q47, .inl (cs 0, 8, .inl (fun _ => 0)))] H := hP
  have hD : va_D A [(h0, .inr (1, [.int 0, .ref q7, .ref q15, .ref q23, .ref q31, .int 0, .int 0, .ref q39, .ref q47, .null, .null, .int 0, .int 0])), (q7, .inl (cs 0, 6, .inl (fun _ => 0))), (q15, .inl (cs 0, 6, .inl (fun _ => 0))), (q23, .inl (cs 0, 6, .inl (fun _ => 0))), (q31, .inl (cs 0, 6, .inl (fun _ => 0))), (q39, .inl (cs 0, 8, .inl (fun _ => 0))), (q47, .inl (cs 0, 8, .inl (fun _ => 0)))] := hD
  refine lv_aload_n Z.1 Z.2.1 dX1_init_52 rfl (lv_at hl 0 rfl) ?_
  refine lv_bipush (v := 8) Z.1 Z.2.1 dX1_init_53 (by decide) ?_
  refine xi_newi (N := 8) Z hP hD hS hA (by decide) rfl (by decide) ⟨Nat.le_of_ble_eq_true rfl, Nat.le_of_ble_eq_true rfl⟩ dX1_init_55 (fun q55 H hP hD hS => ?_)
  have hP : va_P D classes [(h0, .inr (1, [.int 0, .ref q7, .ref q15, .ref q23, .ref q31, .int 0, .int 0, .ref q39, .ref q47, .null, .null, .int 0, .int 0])), (q7, .inl (cs 0, 6, .inl (fun _ => 0))), (q15, .inl (cs 0, 6, .inl (fun _ => 0))), (q23, .inl (cs 0, 6, .inl (fun _ => 0))), (q31, .inl (cs 0, 6, .inl (fun _ => 0))), (q39, .inl (cs 0, 8, .inl (fun _ => 0))), (q47, .inl (cs 0, 8, .inl (fun _ => 0))), (q55, .inl (cs 0, 8, .inl (fun _ => 0)))] H := hP
  have hD : va_D A [(h0, .inr (1, [.int 0, .ref q7, .ref q15, .ref q23, .ref q31, .int 0, .int 0, .ref q39, .ref q47, .null, .null, .int 0, .int 0])), (q7, .inl (cs 0, 6, .inl (fun _ => 0))), (q15, .inl (cs 0, 6, .inl (fun _ => 0))), (q23, .inl (cs 0, 6, .inl (fun _ => 0))), (q31, .inl (cs 0, 6, .inl (fun _ => 0))), (q39, .inl (cs 0, 8, .inl (fun _ => 0))), (q47, .inl (cs 0, 8, .inl (fun _ => 0))), (q55, .inl (cs 0, 8, .inl (fun _ => 0)))] := hD
  refine W.widen (k := 7) (n := 48) (by decide) (by decide) ?_
  refine xi_putF Z hP hD hS 9 rfl rfl iX1 tyX1_ok nmX1 (by decide) xb_96 rfl rfl rfl rfl (Nat.le_of_ble_eq_true rfl) dX1_init_57 (fun H locs hP hD hS => ?_)
  have hP : va_P D classes [(h0, .inr (1, [.int 0, .ref q7, .ref q15, .ref q23, .ref q31, .int 0, .int 0, .ref q39, .ref q47, .ref q55, .null, .int 0, .int 0])), (q7, .inl (cs 0, 6, .inl (fun _ => 0))), (q15, .inl (cs 0, 6, .inl (fun _ => 0))), (q23, .inl (cs 0, 6, .inl (fun _ => 0))), (q31, .inl (cs 0, 6, .inl (fun _ => 0))), (q39, .inl (cs 0, 8, .inl (fun _ => 0))), (q47, .inl (cs 0, 8, .inl (fun _ => 0))), (q55, .inl (cs 0, 8, .inl (fun _ => 0)))] H := hP
  have hD : va_D A [(h0, .inr (1, [.int 0, .ref q7, .ref q15, .ref q23, .ref q31, .int 0, .int 0, .ref q39, .ref q47, .ref q55, .null, .int 0, .int 0])), (q7, .inl (cs 0, 6, .inl (fun _ => 0))), (q15, .inl (cs 0, 6, .inl (fun _ => 0))), (q23, .inl (cs 0, 6, .inl (fun _ => 0))), (q31, .inl (cs 0, 6, .inl (fun _ => 0))), (q39, .inl (cs 0, 8, .inl (fun _ => 0))), (q47, .inl (cs 0, 8, .inl (fun _ => 0))), (q55, .inl (cs 0, 8, .inl (fun _ => 0)))] := hD
  refine lv_aload_n Z.1 Z.2.1 dX1_init_60 rfl (lv_at hl 0 rfl) ?_
  refine lv_bipush (v := 6) Z.1 Z.2.1 dX1_init_61 (by decide) ?_
  refine xi_newi (N := 6) Z hP hD hS hA (by decide) rfl (by decide) ⟨Nat.le_of_ble_eq_true rfl, Nat.le_of_ble_eq_true rfl⟩ dX1_init_63 (fun q63 H hP hD hS => ?_)
  have hP : va_P D classes [(h0, .inr (1, [.int 0, .ref q7, .ref q15, .ref q23, .ref q31, .int 0, .int 0, .ref q39, .ref q47, .ref q55, .null, .int 0, .int 0])), (q7, .inl (cs 0, 6, .inl (fun _ => 0))), (q15, .inl (cs 0, 6, .inl (fun _ => 0))), (q23, .inl (cs 0, 6, .inl (fun _ => 0))), (q31, .inl (cs 0, 6, .inl (fun _ => 0))), (q39, .inl (cs 0, 8, .inl (fun _ => 0))), (q47, .inl (cs 0, 8, .inl (fun _ => 0))), (q55, .inl (cs 0, 8, .inl (fun _ => 0))), (q63, .inl (cs 0, 6, .inl (fun _ => 0)))] H := hP
  have hD : va_D A [(h0, .inr (1, [.int 0, .ref q7, .ref q15, .ref q23, .ref q31, .int 0, .int 0, .ref q39, .ref q47, .ref q55, .null, .int 0, .int 0])), (q7, .inl (cs 0, 6, .inl (fun _ => 0))), (q15, .inl (cs 0, 6, .inl (fun _ => 0))), (q23, .inl (cs 0, 6, .inl (fun _ => 0))), (q31, .inl (cs 0, 6, .inl (fun _ => 0))), (q39, .inl (cs 0, 8, .inl (fun _ => 0))), (q47, .inl (cs 0, 8, .inl (fun _ => 0))), (q55, .inl (cs 0, 8, .inl (fun _ => 0))), (q63, .inl (cs 0, 6, .inl (fun _ => 0)))] := hD
  refine W.widen (k := 8) (n := 54) (by decide) (by decide) ?_
  refine xi_putF Z hP hD hS 10 rfl rfl iX1 tyX1_ok nmX1 (by decide) xb_89 rfl rfl rfl rfl (Nat.le_of_ble_eq_true rfl) dX1_init_65 (fun H locs hP hD hS => ?_)
  have hP : va_P D classes [(h0, .inr (1, [.int 0, .ref q7, .ref q15, .ref q23, .ref q31, .int 0, .int 0, .ref q39, .ref q47, .ref q55, .ref q63, .int 0, .int 0])), (q7, .inl (cs 0, 6, .inl (fun _ => 0))), (q15, .inl (cs 0, 6, .inl (fun _ => 0))), (q23, .inl (cs 0, 6, .inl (fun _ => 0))), (q31, .inl (cs 0, 6, .inl (fun _ => 0))), (q39, .inl (cs 0, 8, .inl (fun _ => 0))), (q47, .inl (cs 0, 8, .inl (fun _ => 0))), (q55, .inl (cs 0, 8, .inl (fun _ => 0))), (q63, .inl (cs 0, 6, .inl (fun _ => 0)))] H := hP
  have hD : va_D A [(h0, .inr (1, [.int 0, .ref q7, .ref q15, .ref q23, .ref q31, .int 0, .int 0, .ref q39, .ref q47, .ref q55, .ref q63, .int 0, .int 0])), (q7, .inl (cs 0, 6, .inl (fun _ => 0))), (q15, .inl (cs 0, 6, .inl (fun _ => 0))), (q23, .inl (cs 0, 6, .inl (fun _ => 0))), (q31, .inl (cs 0, 6, .inl (fun _ => 0))), (q39, .inl (cs 0, 8, .inl (fun _ => 0))), (q47, .inl (cs 0, 8, .inl (fun _ => 0))), (q55, .inl (cs 0, 8, .inl (fun _ => 0))), (q63, .inl (cs 0, 6, .inl (fun _ => 0)))] := hD
  refine lv_aload_n Z.1 Z.2.1 dX1_init_68 rfl (lv_at hl 0 rfl) ?_
  have e : xw [13, 14, 15, 16, 17, 18, 19, 20, 21] (fun k => [h0, q7, q15, q23, q31, q39, q47, q55, q63].getD (k - 13) 0) cs xm0 = [(h0, .inr (1, [.int 0, .ref q7, .ref q15, .ref q23, .ref q31, .int 0, .int 0, .ref q39, .ref q47, .ref q55, .ref q63, .int 0, .int 0])), (q7, .inl (cs 0, 6, .inl (fun _ => 0))), (q15, .inl (cs 0, 6, .inl (fun _ => 0))), (q23, .inl (cs 0, 6, .inl (fun _ => 0))), (q31, .inl (cs 0, 6, .inl (fun _ => 0))), (q39, .inl (cs 0, 8, .inl (fun _ => 0))), (q47, .inl (cs 0, 8, .inl (fun _ => 0))), (q55, .inl (cs 0, 8, .inl (fun _ => 0))), (q63, .inl (cs 0, 6, .inl (fun _ => 0)))] := rfl
  rw [← e] at hP hD
  generalize hu : (fun k => [h0, q7, q15, q23, q31, q39, q47, q55, q63].getD (k - 13) 0) = u at hP hD
  have hu0 : h0 = u 13 := by rw [← hu]; rfl
  obtain ⟨M1, g1, g2, g3⟩ := X_clear 13 xm0
  refine xi_callVm (w1 := []) (S := [13, 14, 15, 16, 17, 18, 19, 20, 21]) (ad := u) (M := xm0) (M' := M1) (As := []) (rest := []) (k := 13) (n := 0) (T := TX1) (N := 13) Z (fun hd => kX1_clear l D cs _ u hd ⟨Or.inr rfl, by decide⟩ xm0 M1 g1) (by decide) hP hD hS hA (xq_5 xb_97 xb_98 xb_99 xb_19 xb_86) (by decide) rfl rfl ⟨rfl, by decide +kernel, by decide +kernel, by decide +kernel⟩ rfl ⟨rfl, rfl⟩ ⟨Nat.le_of_ble_eq_true rfl, Nat.le_of_ble_eq_true rfl⟩ hl (by rw [hu0]; rfl) (Nat.le_of_ble_eq_true rfl) ⟨Nat.le_of_ble_eq_true rfl, Nat.le_of_ble_eq_true rfl⟩ dX1_init_69 (fun H locs hP hD hS => ?_)
  exact xi_ret Z (u, M1) ⟨hu0.symm, g2⟩ hP hD hS dX1_init_72
