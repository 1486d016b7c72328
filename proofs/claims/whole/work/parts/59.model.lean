/-! CONSTRUCTORS: the reference -/
/-- the road at first -/
def R1 : tR := addM (addP D0 9 0 9) 0 3 15
theorem R1_ok : okR R1 := addM_ok (addP_ok D0_ok (by decide) (by decide) (by decide) (by decide) (by decide)) (by decide) (by decide) (by decide) (by decide) (by decide)
theorem R1_laid : laidR R1 := ⟨R1_ok, by decide, by decide⟩
theorem DM_first {N : xm} (h : DM N D0) : DM (up (up (up (up (up (up (up (up N 63 1 1) 64 18 9) 64 19 0) 64 20 9) 65 1 1) 66 24 0) 66 25 3) 66 26 15) R1 := by
  obtain ⟨g1, g2, g3, g4, g5, g6⟩ := h
  refine ⟨?_, ?_, ?_, ?_, fun p hp => ?_, fun i hi => ?_⟩
  · simp [up_at]; rfl
  · simp [up_at]; rfl
  · simp [up_at, g3]; rfl
  · simp [up_at, g4]; rfl
  · obtain rfl : p = 0 := by have hp : p < 1 := hp; omega
    simp [up_at]; exact ⟨rfl, rfl, rfl⟩
  · obtain rfl : i = 0 := by have hi : i < 1 := hi; omega
    simp [up_at]; exact ⟨rfl, rfl, rfl⟩
theorem dX6_init_0 : decode cX6_init 0 = .ok (.aload_n 0, 1) := by decide +kernel
theorem dX6_init_1 : decode cX6_init 1 = .ok (.invokespecial 1, 3) := by decide +kernel
theorem dX6_init_4 : decode cX6_init 4 = .ok (.aload_n 0, 1) := by decide +kernel
theorem dX6_init_5 : decode cX6_init 5 = .ok (.sipush 300, 3) := by decide +kernel
theorem dX6_init_8 : decode cX6_init 8 = .ok (.newarray .byte, 2) := by decide +kernel
theorem dX6_init_10 : decode cX6_init 10 = .ok (.putfield 7, 3) := by decide +kernel
theorem dX6_init_13 : decode cX6_init 13 = .ok (.aload_n 0, 1) := by decide +kernel
theorem dX6_init_14 : decode cX6_init 14 = .ok (.iconst 4, 1) := by decide +kernel
theorem dX6_init_15 : decode cX6_init 15 = .ok (.newarray .int, 2) := by decide +kernel
theorem dX6_init_17 : decode cX6_init 17 = .ok (.putfield 13, 3) := by decide +kernel
theorem dX6_init_20 : decode cX6_init 20 = .ok (.aload_n 0, 1) := by decide +kernel
theorem dX6_init_21 : decode cX6_init 21 = .ok (.iconst 2, 1) := by decide +kernel
theorem dX6_init_22 : decode cX6_init 22 = .ok (.newarray .int, 2) := by decide +kernel
theorem dX6_init_24 : decode cX6_init 24 = .ok (.putfield 17, 3) := by decide +kernel
theorem dX6_init_27 : decode cX6_init 27 = .ok (.aload_n 0, 1) := by decide +kernel
theorem dX6_init_28 : decode cX6_init 28 = .ok (.bipush 36, 2) := by decide +kernel
theorem dX6_init_30 : decode cX6_init 30 = .ok (.newarray .int, 2) := by decide +kernel
theorem dX6_init_32 : decode cX6_init 32 = .ok (.putfield 20, 3) := by decide +kernel
theorem dX6_init_35 : decode cX6_init 35 = .ok (.aload_n 0, 1) := by decide +kernel
theorem dX6_init_36 : decode cX6_init 36 = .ok (.iconst 2, 1) := by decide +kernel
theorem dX6_init_37 : decode cX6_init 37 = .ok (.newarray .int, 2) := by decide +kernel
theorem dX6_init_39 : decode cX6_init 39 = .ok (.putfield 23, 3) := by decide +kernel
theorem dX6_init_42 : decode cX6_init 42 = .ok (.aload_n 0, 1) := by decide +kernel
theorem dX6_init_43 : decode cX6_init 43 = .ok (.bipush 48, 2) := by decide +kernel
theorem dX6_init_45 : decode cX6_init 45 = .ok (.newarray .int, 2) := by decide +kernel
theorem dX6_init_47 : decode cX6_init 47 = .ok (.putfield 26, 3) := by decide +kernel
theorem dX6_init_50 : decode cX6_init 50 = .ok (.aload_n 0, 1) := by decide +kernel
theorem dX6_init_51 : decode cX6_init 51 = .ok (.bipush 100, 2) := by decide +kernel
theorem dX6_init_53 : decode cX6_init 53 = .ok (.newarray .int, 2) := by decide +kernel
theorem dX6_init_55 : decode cX6_init 55 = .ok (.putfield 29, 3) := by decide +kernel
theorem dX6_init_58 : decode cX6_init 58 = .ok (.aload_n 0, 1) := by decide +kernel
theorem dX6_init_59 : decode cX6_init 59 = .ok (.bipush 30, 2) := by decide +kernel
theorem dX6_init_61 : decode cX6_init 61 = .ok (.newarray .int, 2) := by decide +kernel
theorem dX6_init_63 : decode cX6_init 63 = .ok (.putfield 32, 3) := by decide +kernel
theorem dX6_init_66 : decode cX6_init 66 = .ok (.aload_n 0, 1) := by decide +kernel
theorem dX6_init_67 : decode cX6_init 67 = .ok (.sipush 4210, 3) := by decide +kernel
theorem dX6_init_70 : decode cX6_init 70 = .ok (.newarray .boolean, 2) := by decide +kernel
theorem dX6_init_72 : decode cX6_init 72 = .ok (.putfield 35, 3) := by decide +kernel
theorem dX6_init_75 : decode cX6_init 75 = .ok (.aload_n 0, 1) := by decide +kernel
theorem dX6_init_76 : decode cX6_init 76 = .ok (.iconst 4, 1) := by decide +kernel
theorem dX6_init_77 : decode cX6_init 77 = .ok (.newarray .int, 2) := by decide +kernel
theorem dX6_init_79 : decode cX6_init 79 = .ok (.putfield 39, 3) := by decide +kernel
theorem dX6_init_82 : decode cX6_init 82 = .ok (.aload_n 0, 1) := by decide +kernel
theorem dX6_init_83 : decode cX6_init 83 = .ok (.iconst 4, 1) := by decide +kernel
theorem dX6_init_84 : decode cX6_init 84 = .ok (.newarray .int, 2) := by decide +kernel
theorem dX6_init_86 : decode cX6_init 86 = .ok (.putfield 42, 3) := by decide +kernel
theorem dX6_init_89 : decode cX6_init 89 = .ok (.aload_n 0, 1) := by decide +kernel
theorem dX6_init_90 : decode cX6_init 90 = .ok (.iconst 3, 1) := by decide +kernel
theorem dX6_init_91 : decode cX6_init 91 = .ok (.newarray .int, 2) := by decide +kernel
theorem dX6_init_93 : decode cX6_init 93 = .ok (.putfield 45, 3) := by decide +kernel
theorem dX6_init_96 : decode cX6_init 96 = .ok (.aload_n 0, 1) := by decide +kernel
theorem dX6_init_97 : decode cX6_init 97 = .ok (.invokevirtual 48, 3) := by decide +kernel
theorem dX6_init_100 : decode cX6_init 100 = .ok (.aload_n 0, 1) := by decide +kernel
theorem dX6_init_101 : decode cX6_init 101 = .ok (.getfield 17, 3) := by decide +kernel
theorem dX6_init_104 : decode cX6_init 104 = .ok (.iconst 1, 1) := by decide +kernel
theorem dX6_init_105 : decode cX6_init 105 = .ok (.iconst 1, 1) := by decide +kernel
theorem dX6_init_106 : decode cX6_init 106 = .ok (.iastore, 1) := by decide +kernel
theorem dX6_init_107 : decode cX6_init 107 = .ok (.aload_n 0, 1) := by decide +kernel
theorem dX6_init_108 : decode cX6_init 108 = .ok (.getfield 20, 3) := by decide +kernel
theorem dX6_init_111 : decode cX6_init 111 = .ok (.bipush 18, 2) := by decide +kernel
theorem dX6_init_113 : decode cX6_init 113 = .ok (.bipush 9, 2) := by decide +kernel
theorem dX6_init_115 : decode cX6_init 115 = .ok (.iastore, 1) := by decide +kernel
theorem dX6_init_116 : decode cX6_init 116 = .ok (.aload_n 0, 1) := by decide +kernel
theorem dX6_init_117 : decode cX6_init 117 = .ok (.getfield 20, 3) := by decide +kernel
theorem dX6_init_120 : decode cX6_init 120 = .ok (.bipush 19, 2) := by decide +kernel
theorem dX6_init_122 : decode cX6_init 122 = .ok (.iconst 0, 1) := by decide +kernel
theorem dX6_init_123 : decode cX6_init 123 = .ok (.iastore, 1) := by decide +kernel
theorem dX6_init_124 : decode cX6_init 124 = .ok (.aload_n 0, 1) := by decide +kernel
theorem dX6_init_125 : decode cX6_init 125 = .ok (.getfield 20, 3) := by decide +kernel
theorem dX6_init_128 : decode cX6_init 128 = .ok (.bipush 20, 2) := by decide +kernel
theorem dX6_init_130 : decode cX6_init 130 = .ok (.bipush 9, 2) := by decide +kernel
theorem dX6_init_132 : decode cX6_init 132 = .ok (.iastore, 1) := by decide +kernel
theorem dX6_init_133 : decode cX6_init 133 = .ok (.aload_n 0, 1) := by decide +kernel
theorem dX6_init_134 : decode cX6_init 134 = .ok (.getfield 23, 3) := by decide +kernel
theorem dX6_init_137 : decode cX6_init 137 = .ok (.iconst 1, 1) := by decide +kernel
theorem dX6_init_138 : decode cX6_init 138 = .ok (.iconst 1, 1) := by decide +kernel
theorem dX6_init_139 : decode cX6_init 139 = .ok (.iastore, 1) := by decide +kernel
theorem dX6_init_140 : decode cX6_init 140 = .ok (.aload_n 0, 1) := by decide +kernel
theorem dX6_init_141 : decode cX6_init 141 = .ok (.getfield 26, 3) := by decide +kernel
theorem dX6_init_144 : decode cX6_init 144 = .ok (.bipush 24, 2) := by decide +kernel
theorem dX6_init_146 : decode cX6_init 146 = .ok (.iconst 0, 1) := by decide +kernel
theorem dX6_init_147 : decode cX6_init 147 = .ok (.iastore, 1) := by decide +kernel
theorem dX6_init_148 : decode cX6_init 148 = .ok (.aload_n 0, 1) := by decide +kernel
theorem dX6_init_149 : decode cX6_init 149 = .ok (.getfield 26, 3) := by decide +kernel
theorem dX6_init_152 : decode cX6_init 152 = .ok (.bipush 25, 2) := by decide +kernel
theorem dX6_init_154 : decode cX6_init 154 = .ok (.iconst 3, 1) := by decide +kernel
theorem dX6_init_155 : decode cX6_init 155 = .ok (.iastore, 1) := by decide +kernel
theorem dX6_init_156 : decode cX6_init 156 = .ok (.aload_n 0, 1) := by decide +kernel
theorem dX6_init_157 : decode cX6_init 157 = .ok (.getfield 26, 3) := by decide +kernel
theorem dX6_init_160 : decode cX6_init 160 = .ok (.bipush 26, 2) := by decide +kernel
theorem dX6_init_162 : decode cX6_init 162 = .ok (.bipush 15, 2) := by decide +kernel
theorem dX6_init_164 : decode cX6_init 164 = .ok (.iastore, 1) := by decide +kernel
theorem dX6_init_165 : decode cX6_init 165 = .ok (.aload_n 0, 1) := by decide +kernel
theorem dX6_init_166 : decode cX6_init 166 = .ok (.invokevirtual 51, 3) := by decide +kernel
theorem dX6_init_169 : decode cX6_init 169 = .ok (.return_, 1) := by decide +kernel
abbrev S60 : List Nat := [60, 61, 62, 63, 64, 65, 66, 67, 68, 69, 70, 71, 72]
abbrev eX6 : va_E := .inr (6, [.int 0, .null, .int 0, .null, .null, .null, .null, .null, .null, .int 0, .int 0, .null, .null, .null, .null, .int 0, .null, .int 0, .int 0])
def rmX6_init : Room := { frames := 2, cells := 12, slots := 4743, locals := 43 }
set_option maxRecDepth 20000 in
theorem kX6_init (l : Launch) (D : va_G) (cs : Nat → ClassId) (h0 sz : Nat) : Met l yX6_init [Cond.code yX6_init cX6_init 1 none] rmX6_init (XN D cs [.ref h0] [(h0, eX6)] sz) (XE D (fun u : (Nat → Nat) × xm => u.1 60 = h0 ∧ MX u.2 0 R1 (laidS R1) ∧ u.2.1 60 9 = nI 0 ∧ u.2.1 60 10 = nI 0 ∧ u.2.1 60 0 = nI 0) (fun u => xw S60 u.1 cs u.2) (va_A [(h0, eX6)] sz)) 12 4743 (va_A [(h0, eX6)] sz) := by
  refine xi_of (own := RX6) (lv := [(0, .ref h0)]) (by decide +kernel) rfl rfl rfl (Nat.le_of_ble_eq_true rfl) (fun p e s m args below meth c A ls Z hA hP hD hl => ?_)
  have hS : va_S A s.heap s.heap [] := va_S.rf
  refine lv_aload_n Z.1 Z.2.1 dX6_init_0 rfl (lv_at hl 0 rfl) ?_
  refine xi_obj Z xb_395 hl ⟨Nat.le_of_ble_eq_true rfl, Nat.le_of_ble_eq_true rfl⟩ dX6_init_1 ?_
  refine lv_aload_n Z.1 Z.2.1 dX6_init_4 rfl (lv_at hl 0 rfl) ?_
  refine lv_sipush (v := 300) Z.1 Z.2.1 dX6_init_5 (by decide) ?_
  refine xi_newb (N := 300) Z hP hD hS hA (by decide) rfl (by decide) ⟨Nat.le_of_ble_eq_true rfl, Nat.le_of_ble_eq_true rfl⟩ dX6_init_8 (fun q8 H hP hD hS => ?_)
  have hP : va_P D classes [(h0, .inr (6, [.int 0, .null, .int 0, .null, .null, .null, .null, .null, .null, .int 0, .int 0, .null, .null, .null, .null, .int 0, .null, .int 0, .int 0])), (q8, .inl (cs 1, 300, .inl (fun _ => 0)))] H := hP
  have hD : va_D A [(h0, .inr (6, [.int 0, .null, .int 0, .null, .null, .null, .null, .null, .null, .int 0, .int 0, .null, .null, .null, .null, .int 0, .null, .int 0, .int 0])), (q8, .inl (cs 1, 300, .inl (fun _ => 0)))] := hD
  refine W.widen (k := 1) (n := 300) (by decide) (by decide) ?_
  refine xi_putF Z hP hD hS 1 rfl rfl iX6 tyX6_ok nmX6 (by decide) xb_396 rfl rfl rfl rfl (Nat.le_of_ble_eq_true rfl) dX6_init_10 (fun H locs hP hD hS => ?_)
  have hP : va_P D classes [(h0, .inr (6, [.int 0, .ref q8, .int 0, .null, .null, .null, .null, .null, .null, .int 0, .int 0, .null, .null, .null, .null, .int 0, .null, .int 0, .int 0])), (q8, .inl (cs 1, 300, .inl (fun _ => 0)))] H := hP
  have hD : va_D A [(h0, .inr (6, [.int 0, .ref q8, .int 0, .null, .null, .null, .null, .null, .null, .int 0, .int 0, .null, .null, .null, .null, .int 0, .null, .int 0, .int 0])), (q8, .inl (cs 1, 300, .inl (fun _ => 0)))] := hD
  refine lv_aload_n Z.1 Z.2.1 dX6_init_13 rfl (lv_at hl 0 rfl) ?_
  refine lv_iconst (v := 4) Z.1 Z.2.1 dX6_init_14 (by decide) ?_
  refine xi_newi (N := 4) Z hP hD hS hA (by decide) rfl (by decide) ⟨Nat.le_of_ble_eq_true rfl, Nat.le_of_ble_eq_true rfl⟩ dX6_init_15 (fun q15 H hP hD hS => ?_)
  have hP : va_P D classes [(h0, .inr (6, [.int 0, .ref q8, .int 0, .null, .null, .null, .null, .null, .null, .int 0, .int 0, .null, .null, .null, .null, .int 0, .null, .int 0, .int 0])), (q8, .inl (cs 1, 300, .inl (fun _ => 0))), (q15, .inl (cs 0, 4, .inl (fun _ => 0)))] H := hP
  have hD : va_D A [(h0, .inr (6, [.int 0, .ref q8, .int 0, .null, .null, .null, .null, .null, .null, .int 0, .int 0, .null, .null, .null, .null, .int 0, .null, .int 0, .int 0])), (q8, .inl (cs 1, 300, .inl (fun _ => 0))), (q15, .inl (cs 0, 4, .inl (fun _ => 0)))] := hD
  refine W.widen (k := 2) (n := 304) (by decide) (by decide) ?_
  refine xi_putF Z hP hD hS 3 rfl rfl iX6 tyX6_ok nmX6 (by decide) xb_383 rfl rfl rfl rfl (Nat.le_of_ble_eq_true rfl) dX6_init_17 (fun H locs hP hD hS => ?_)
  have hP : va_P D classes [(h0, .inr (6, [.int 0, .ref q8, .int 0, .ref q15, .null, .null, .null, .null, .null, .int 0, .int 0, .null, .null, .null, .null, .int 0, .null, .int 0, .int 0])), (q8, .inl (cs 1, 300, .inl (fun _ => 0))), (q15, .inl (cs 0, 4, .inl (fun _ => 0)))] H := hP
  have hD : va_D A [(h0, .inr (6, [.int 0, .ref q8, .int 0, .ref q15, .null, .null, .null, .null, .null, .int 0, .int 0, .null, .null, .null, .null, .int 0, .null, .int 0, .int 0])), (q8, .inl (cs 1, 300, .inl (fun _ => 0))), (q15, .inl (cs 0, 4, .inl (fun _ => 0)))] := hD
  refine lv_aload_n Z.1 Z.2.1 dX6_init_20 rfl (lv_at hl 0 rfl) ?_
  refine lv_iconst (v := 2) Z.1 Z.2.1 dX6_init_21 (by decide) ?_
  refine xi_newi (N := 2) Z hP hD hS hA (by decide) rfl (by decide) ⟨Nat.le_of_ble_eq_true rfl, Nat.le_of_ble_eq_true rfl⟩ dX6_init_22 (fun q22 H hP hD hS => ?_)
  have hP : va_P D classes [(h0, .inr (6, [.int 0, .ref q8, .int 0, .ref q15, .null, .null, .null, .null, .null, .int 0, .int 0, .null, .null, .null, .null, .int 0, .null, .int 0, .int 0])), (q8, .inl (cs 1, 300, .inl (fun _ => 0))), (q15, .inl (cs 0, 4, .inl (fun _ => 0))), (q22, .inl (cs 0, 2, .inl (fun _ => 0)))] H := hP
  have hD : va_D A [(h0, .inr (6, [.int 0, .ref q8, .int 0, .ref q15, .null, .null, .null, .null, .null, .int 0, .int 0, .null, .null, .null, .null, .int 0, .null, .int 0, .int 0])), (q8, .inl (cs 1, 300, .inl (fun _ => 0))), (q15, .inl (cs 0, 4, .inl (fun _ => 0))), (q22, .inl (cs 0, 2, .inl (fun _ => 0)))] := hD
  refine W.widen (k := 3) (n := 306) (by decide) (by decide) ?_
  refine xi_putF Z hP hD hS 4 rfl rfl iX6 tyX6_ok nmX6 (by decide) xb_381 rfl rfl rfl rfl (Nat.le_of_ble_eq_true rfl) dX6_init_24 (fun H locs hP hD hS => ?_)
  have hP : va_P D classes [(h0, .inr (6, [.int 0, .ref q8, .int 0, .ref q15, .ref q22, .null, .null, .null, .null, .int 0, .int 0, .null, .null, .null, .null, .int 0, .null, .int 0, .int 0])), (q8, .inl (cs 1, 300, .inl (fun _ => 0))), (q15, .inl (cs 0, 4, .inl (fun _ => 0))), (q22, .inl (cs 0, 2, .inl (fun _ => 0)))] H := hP
  have hD : va_D A [(h0, .inr (6, [.int 0, .ref q8, .int 0, .ref q15, .ref q22, .null, .null, .null, .null, .int 0, .int 0, .null, .null, .null, .null, .int 0, .null, .int 0, .int 0])), (q8, .inl (cs 1, 300, .inl (fun _ => 0))), (q15, .inl (cs 0, 4, .inl (fun _ => 0))), (q22, .inl (cs 0, 2, .inl (fun _ => 0)))] := hD
  refine lv_aload_n Z.1 Z.2.1 dX6_init_27 rfl (lv_at hl 0 rfl) ?_
  refine lv_bipush (v := 36) Z.1 Z.2.1 dX6_init_28 (by decide) ?_
  refine xi_newi (N := 36) Z hP hD hS hA (by decide) rfl (by decide) ⟨Nat.le_of_ble_eq_true rfl, Nat.le_of_ble_eq_true rfl⟩ dX6_init_30 (fun q30 H hP hD hS => ?_)
  have hP : va_P D classes [(h0, .inr (6, [.int 0, .ref q8, .int 0, .ref q15, .ref q22, .null, .null, .null, .null, .int 0, .int 0, .null, .null, .null, .null, .int 0, .null, .int 0, .int 0])), (q8, .inl (cs 1, 300, .inl (fun _ => 0))), (q15, .inl (cs 0, 4, .inl (fun _ => 0))), (q22, .inl (cs 0, 2, .inl (fun _ => 0))), (q30, .inl (cs 0, 36, .inl (fun _ => 0)))] H := hP
  have hD : va_D A [(h0, .inr (6, [.int 0, .ref q8, .int 0, .ref q15, .ref q22, .null, .null, .null, .null, .int 0, .int 0, .null, .null, .null, .null, .int 0, .null, .int 0, .int 0])), (q8, .inl (cs 1, 300, .inl (fun _ => 0))), (q15, .inl (cs 0, 4, .inl (fun _ => 0))), (q22, .inl (cs 0, 2, .inl (fun _ => 0))), (q30, .inl (cs 0, 36, .inl (fun _ => 0)))] := hD
  refine W.widen (k := 4) (n := 342) (by decide) (by decide) ?_
  refine xi_putF Z hP hD hS 5 rfl rfl iX6 tyX6_ok nmX6 (by decide) xb_388 rfl rfl rfl rfl (Nat.le_of_ble_eq_true rfl) dX6_init_32 (fun H locs hP hD hS => ?_)
  have hP : va_P D classes [(h0, .inr (6, [.int 0, .ref q8, .int 0, .ref q15, .ref q22, .ref q30, .null, .null, .null, .int 0, .int 0, .null, .null, .null, .null, .int 0, .null, .int 0, .int 0])), (q8, .inl (cs 1, 300, .inl (fun _ => 0))), (q15, .inl (cs 0, 4, .inl (fun _ => 0))), (q22, .inl (cs 0, 2, .inl (fun _ => 0))), (q30, .inl (cs 0, 36, .inl (fun _ => 0)))] H := hP
  have hD : va_D A [(h0, .inr (6, [.int 0, .ref q8, .int 0, .ref q15, .ref q22, .ref q30, .null, .null, .null, .int 0, .int 0, .null, .null, .null, .null, .int 0, .null, .int 0, .int 0])), (q8, .inl (cs 1, 300, .inl (fun _ => 0))), (q15, .inl (cs 0, 4, .inl (fun _ => 0))), (q22, .inl (cs 0, 2, .inl (fun _ => 0))), (q30, .inl (cs 0, 36, .inl (fun _ => 0)))] := hD
  refine lv_aload_n Z.1 Z.2.1 dX6_init_35 rfl (lv_at hl 0 rfl) ?_
  refine lv_iconst (v := 2) Z.1 Z.2.1 dX6_init_36 (by decide) ?_
  refine xi_newi (N := 2) Z hP hD hS hA (by decide) rfl (by decide) ⟨Nat.le_of_ble_eq_true rfl, Nat.le_of_ble_eq_true rfl⟩ dX6_init_37 (fun q37 H hP hD hS => ?_)
  have hP : va_P D classes [(h0, .inr (6, [.int 0, .ref q8, .int 0, .ref q15, .ref q22, .ref q30, .null, .null, .null, .int 0, .int 0, .null, .null, .null, .null, .int 0, .null, .int 0, .int 0])), (q8, .inl (cs 1, 300, .inl (fun _ => 0))), (q15, .inl (cs 0, 4, .inl (fun _ => 0))), (q22, .inl (cs 0, 2, .inl (fun _ => 0))), (q30, .inl (cs 0, 36, .inl (fun _ => 0))), (q37, .inl (cs 0, 2, .inl (fun _ => 0)))] H := hP
  have hD : va_D A [(h0, .inr (6, [.int 0, .ref q8, .int 0, .ref q15, .ref q22, .ref q30, .null, .null, .null, .int 0, .int 0, .null, .null, .null, .null, .int 0, .null, .int 0, .int 0])), (q8, .inl (cs 1, 300, .inl (fun _ => 0))), (q15, .inl (cs 0, 4, .inl (fun _ => 0))), (q22, .inl (cs 0, 2, .inl (fun _ => 0))), (q30, .inl (cs 0, 36, .inl (fun _ => 0))), (q37, .inl (cs 0, 2, .inl (fun _ => 0)))] := hD
  refine W.widen (k := 5) (n := 344) (by decide) (by decide) ?_
  refine xi_putF Z hP hD hS 6 rfl rfl iX6 tyX6_ok nmX6 (by decide) xb_382 rfl rfl rfl rfl (Nat.le_of_ble_eq_true rfl) dX6_init_39 (fun H locs hP hD hS => ?_)
  have hP : va_P D classes [(h0, .inr (6, [.int 0, .ref q8, .int 0, .ref q15, .ref q22, .ref q30, .ref q37, .null, .null, .int 0, .int 0, .null, .null, .null, .null, .int 0, .null, .int 0, .int 0])), (q8, .inl (cs 1, 300, .inl (fun _ => 0))), (q15, .inl (cs 0, 4, .inl (fun _ => 0))), (q22, .inl (cs 0, 2, .inl (fun _ => 0))), (q30, .inl (cs 0, 36, .inl (fun _ => 0))), (q37, .inl (cs 0, 2, .inl (fun _ => 0)))] H := hP
  have hD : va_D A [(h0, .inr (6, [.int 0, .ref q8, .int 0, .ref q15, .ref q22, .ref q30, .ref q37, .null, .null, .int 0, .int 0, .null, .null, .null, .null, .int 0, .null, .int 0, .int 0])), (q8, .inl (cs 1, 300, .inl (fun _ => 0))), (q15, .inl (cs 0, 4, .inl (fun _ => 0))), (q22, .inl (cs 0, 2, .inl (fun _ => 0))), (q30, .inl (cs 0, 36, .inl (fun _ => 0))), (q37, .inl (cs 0, 2, .inl (fun _ => 0)))] := hD
  refine lv_aload_n Z.1 Z.2.1 dX6_init_42 rfl (lv_at hl 0 rfl) ?_
  refine lv_bipush (v := 48) Z.1 Z.2.1 dX6_init_43 (by decide) ?_
  refine xi_newi (N := 48) Z hP hD hS hA (by decide) rfl (by decide) ⟨Nat.le_of_ble_eq_true rfl, Nat.le_of_ble_eq_true rfl⟩ dX6_init_45 (fun q45 H hP hD hS => ?_)
  have hP : va_P D classes [(h0, .inr (6, [.int 0, .ref q8, .int 0, .ref q15, .ref q22, .ref q30, .ref q37, .null, .null, .int 0, .int 0, .null, .null, .null, .null, .int 0, .null, .int 0, .int 0])), (q8, .inl (cs 1, 300, .inl (fun _ => 0))), (q15, .inl (cs 0, 4, .inl (fun _ => 0))), (q22, .inl (cs 0, 2, .inl (fun _ => 0))), (q30, .inl (cs 0, 36, .inl (fun _ => 0))), (q37, .inl (cs 0, 2, .inl (fun _ => 0))), (q45, .inl (cs 0, 48, .inl (fun _ => 0)))] H := hP
  have hD : va_D A [(h0, .inr (6, [.int 0, .ref q8, .int 0, .ref q15, .ref q22, .ref q30, .ref q37, .null, .null, .int 0, .int 0, .null, .null, .null, .null, .int 0, .null, .int 0, .int 0])), (q8, .inl (cs 1, 300, .inl (fun _ => 0))), (q15, .inl (cs 0, 4, .inl (fun _ => 0))), (q22, .inl (cs 0, 2, .inl (fun _ => 0))), (q30, .inl (cs 0, 36, .inl (fun _ => 0))), (q37, .inl (cs 0, 2, .inl (fun _ => 0))), (q45, .inl (cs 0, 48, .inl (fun _ => 0)))] := hD
  refine W.widen (k := 6) (n := 392) (by decide) (by decide) ?_
  refine xi_putF Z hP hD hS 7 rfl rfl iX6 tyX6_ok nmX6 (by decide) xb_386 rfl rfl rfl rfl (Nat.le_of_ble_eq_true rfl) dX6_init_47 (fun H locs hP hD hS => ?_)
  have hP : va_P D classes [(h0, .inr (6, [.int 0, .ref q8, .int 0, .ref q15, .ref q22, .ref q30, .ref q37, .ref q45, .null, .int 0, .int 0, .null, .null, .null, .null, .int 0, .null, .int 0, .int 0])), (q8, .inl (cs 1, 300, .inl (fun _ => 0))), (q15, .inl (cs 0, 4, .inl (fun _ => 0))), (q22, .inl (cs 0, 2, .inl (fun _ => 0))), (q30, .inl (cs 0, 36, .inl (fun _ => 0))), (q37, .inl (cs 0, 2, .inl (fun _ => 0))), (q45, .inl (cs 0, 48, .inl (fun _ => 0)))] H := hP
  have hD : va_D A [(h0, .inr (6, [.int 0, .ref q8, .int 0, .ref q15, .ref q22, .ref q30, .ref q37, .ref q45, .null, .int 0, .int 0, .null, .null, .null, .null, .int 0, .null, .int 0, .int 0])), (q8, .inl (cs 1, 300, .inl (fun _ => 0))), (q15, .inl (cs 0, 4, .inl (fun _ => 0))), (q22, .inl (cs 0, 2, .inl (fun _ => 0))), (q30, .inl (cs 0, 36, .inl (fun _ => 0))), (q37, .inl (cs 0, 2, .inl (fun _ => 0))), (q45, .inl (cs 0, 48, .inl (fun _ => 0)))] := hD
  refine lv_aload_n Z.1 Z.2.1 dX6_init_50 rfl (lv_at hl 0 rfl) ?_
  refine lv_bipush (v := 100) Z.1 Z.2.1 dX6_init_51 (by decide) ?_
  refine xi_newi (N := 100) Z hP hD hS hA (by decide) rfl (by decide) ⟨Nat.le_of_ble_eq_true rfl, Nat.le_of_ble_eq_true rfl⟩ dX6_init_53 (fun q53 H hP hD hS => ?_)
  have hP : va_P D classes [(h0, .inr (6, [.int 0, .ref q8, .int 0, .ref q15, .ref q22, .ref q30, .ref q37, .ref q45, .null, .int 0, .int 0, .null, .null, .null, .null, .int 0, .null, .int 0, .int 0])), (q8, .inl (cs 1, 300, .inl (fun _ => 0))), (q15, .inl (cs 0, 4, .inl (fun _ => 0))), (q22, .inl (cs 0, 2, .inl (fun _ => 0))), (q30, .inl (cs 0, 36, .inl (fun _ => 0))), (q37, .inl (cs 0, 2, .inl (fun _ => 0))), (q45, .inl (cs 0, 48, .inl (fun _ => 0))), (q53, .inl (cs 0, 100, .inl (fun _ => 0)))] H := hP
  have hD : va_D A [(h0, .inr (6, [.int 0, .ref q8, .int 0, .ref q15, .ref q22, .ref q30, .ref q37, .ref q45, .null, .int 0, .int 0, .null, .null, .null, .null, .int 0, .null, .int 0, .int 0])), (q8, .inl (cs 1, 300, .inl (fun _ => 0))), (q15, .inl (cs 0, 4, .inl (fun _ => 0))), (q22, .inl (cs 0, 2, .inl (fun _ => 0))), (q30, .inl (cs 0, 36, .inl (fun _ => 0))), (q37, .inl (cs 0, 2, .inl (fun _ => 0))), (q45, .inl (cs 0, 48, .inl (fun _ => 0))), (q53, .inl (cs 0, 100, .inl (fun _ => 0)))] := hD
  refine W.widen (k := 7) (n := 492) (by decide) (by decide) ?_
  refine xi_putF Z hP hD hS 8 rfl rfl iX6 tyX6_ok nmX6 (by decide) xb_385 rfl rfl rfl rfl (Nat.le_of_ble_eq_true rfl) dX6_init_55 (fun H locs hP hD hS => ?_)
  have hP : va_P D classes [(h0, .inr (6, [.int 0, .ref q8, .int 0, .ref q15, .ref q22, .ref q30, .ref q37, .ref q45, .ref q53, .int 0, .int 0, .null, .null, .null, .null, .int 0, .null, .int 0, .int 0])), (q8, .inl (cs 1, 300, .inl (fun _ => 0))), (q15, .inl (cs 0, 4, .inl (fun _ => 0))), (q22, .inl (cs 0, 2, .inl (fun _ => 0))), (q30, .inl (cs 0, 36, .inl (fun _ => 0))), (q37, .inl (cs 0, 2, .inl (fun _ => 0))), (q45, .inl (cs 0, 48, .inl (fun _ => 0))), (q53, .inl (cs 0, 100, .inl (fun _ => 0)))] H := hP
  have hD : va_D A [(h0, .inr (6, [.int 0, .ref q8, .int 0, .ref q15, .ref q22, .ref q30, .ref q37, .ref q45, .ref q53, .int 0, .int 0, .null, .null, .null, .null, .int 0, .null, .int 0, .int 0])), (q8, .inl (cs 1, 300, .inl (fun _ => 0))), (q15, .inl (cs 0, 4, .inl (fun _ => 0))), (q22, .inl (cs 0, 2, .inl (fun _ => 0))), (q30, .inl (cs 0, 36, .inl (fun _ => 0))), (q37, .inl (cs 0, 2, .inl (fun _ => 0))), (q45, .inl (cs 0, 48, .inl (fun _ => 0))), (q53, .inl (cs 0, 100, .inl (fun _ => 0)))] := hD
  refine lv_aload_n Z.1 Z.2.1 dX6_init_58 rfl (lv_at hl 0 rfl) ?_
  refine lv_bipush (v := 30) Z.1 Z.2.1 dX6_init_59 (by decide) ?_
  refine xi_newi (N := 30) Z hP hD hS hA (by decide) rfl (by decide) ⟨Nat.le_of_ble_eq_true rfl, Nat.le_of_ble_eq_true rfl⟩ dX6_init_61 (fun q61 H hP hD hS => ?_)
  have hP : va_P D classes [(h0, .inr (6, [.int 0, .ref q8, .int 0, .ref q15, .ref q22, .ref q30, .ref q37, .ref q45, .ref q53, .int 0, .int 0, .null, .null, .null, .null, .int 0, .null, .int 0, .int 0])), (q8, .inl (cs 1, 300, .inl (fun _ => 0))), (q15, .inl (cs 0, 4, .inl (fun _ => 0))), (q22, .inl (cs 0, 2, .inl (fun _ => 0))), (q30, .inl (cs 0, 36, .inl (fun _ => 0))), (q37, .inl (cs 0, 2, .inl (fun _ => 0))), (q45, .inl (cs 0, 48, .inl (fun _ => 0))), (q53, .inl (cs 0, 100, .inl (fun _ => 0))), (q61, .inl (cs 0, 30, .inl (fun _ => 0)))] H := hP
  have hD : va_D A [(h0, .inr (6, [.int 0, .ref q8, .int 0, .ref q15, .ref q22, .ref q30, .ref q37, .ref q45, .ref q53, .int 0, .int 0, .null, .null, .null, .null, .int 0, .null, .int 0, .int 0])), (q8, .inl (cs 1, 300, .inl (fun _ => 0))), (q15, .inl (cs 0, 4, .inl (fun _ => 0))), (q22, .inl (cs 0, 2, .inl (fun _ => 0))), (q30, .inl (cs 0, 36, .inl (fun _ => 0))), (q37, .inl (cs 0, 2, .inl (fun _ => 0))), (q45, .inl (cs 0, 48, .inl (fun _ => 0))), (q53, .inl (cs 0, 100, .inl (fun _ => 0))), (q61, .inl (cs 0, 30, .inl (fun _ => 0)))] := hD
  refine W.widen (k := 8) (n := 522) (by decide) (by decide) ?_
  refine xi_putF Z hP hD hS 11 rfl rfl iX6 tyX6_ok nmX6 (by decide) xb_397 rfl rfl rfl rfl (Nat.le_of_ble_eq_true rfl) dX6_init_63 (fun H locs hP hD hS => ?_)
  have hP : va_P D classes [(h0, .inr (6, [.int 0, .ref q8, .int 0, .ref q15, .ref q22, .ref q30, .ref q37, .ref q45, .ref q53, .int 0, .int 0, .ref q61, .null, .null, .null, .int 0, .null, .int 0, .int 0])), (q8, .inl (cs 1, 300, .inl (fun _ => 0))), (q15, .inl (cs 0, 4, .inl (fun _ => 0))), (q22, .inl (cs 0, 2, .inl (fun _ => 0))), (q30, .inl (cs 0, 36, .inl (fun _ => 0))), (q37, .inl (cs 0, 2, .inl (fun _ => 0))), (q45, .inl (cs 0, 48, .inl (fun _ => 0))), (q53, .inl (cs 0, 100, .inl (fun _ => 0))), (q61, .inl (cs 0, 30, .inl (fun _ => 0)))] H := hP
  have hD : va_D A [(h0, .inr (6, [.int 0, .ref q8, .int 0, .ref q15, .ref q22, .ref q30, .ref q37, .ref q45, .ref q53, .int 0, .int 0, .ref q61, .null, .null, .null, .int 0, .null, .int 0, .int 0])), (q8, .inl (cs 1, 300, .inl (fun _ => 0))), (q15, .inl (cs 0, 4, .inl (fun _ => 0))), (q22, .inl (cs 0, 2, .inl (fun _ => 0))), (q30, .inl (cs 0, 36, .inl (fun _ => 0))), (q37, .inl (cs 0, 2, .inl (fun _ => 0))), (q45, .inl (cs 0, 48, .inl (fun _ => 0))), (q53, .inl (cs 0, 100, .inl (fun _ => 0))), (q61, .inl (cs 0, 30, .inl (fun _ => 0)))] := hD
  refine lv_aload_n Z.1 Z.2.1 dX6_init_66 rfl (lv_at hl 0 rfl) ?_
  refine lv_sipush (v := 4210) Z.1 Z.2.1 dX6_init_67 (by decide) ?_
  refine xi_newz (N := 4210) Z hP hD hS hA (by decide) rfl (by decide) ⟨Nat.le_of_ble_eq_true rfl, Nat.le_of_ble_eq_true rfl⟩ dX6_init_70 (fun q70 H hP hD hS => ?_)
  have hP : va_P D classes [(h0, .inr (6, [.int 0, .ref q8, .int 0, .ref q15, .ref q22, .ref q30, .ref q37, .ref q45, .ref q53, .int 0, .int 0, .ref q61, .null, .null, .null, .int 0, .null, .int 0, .int 0])), (q8, .inl (cs 1, 300, .inl (fun _ => 0))), (q15, .inl (cs 0, 4, .inl (fun _ => 0))), (q22, .inl (cs 0, 2, .inl (fun _ => 0))), (q30, .inl (cs 0, 36, .inl (fun _ => 0))), (q37, .inl (cs 0, 2, .inl (fun _ => 0))), (q45, .inl (cs 0, 48, .inl (fun _ => 0))), (q53, .inl (cs 0, 100, .inl (fun _ => 0))), (q61, .inl (cs 0, 30, .inl (fun _ => 0))), (q70, .inl (cs 4, 4210, .inl (fun _ => 0)))] H := hP
  have hD : va_D A [(h0, .inr (6, [.int 0, .ref q8, .int 0, .ref q15, .ref q22, .ref q30, .ref q37, .ref q45, .ref q53, .int 0, .int 0, .ref q61, .null, .null, .null, .int 0, .null, .int 0, .int 0])), (q8, .inl (cs 1, 300, .inl (fun _ => 0))), (q15, .inl (cs 0, 4, .inl (fun _ => 0))), (q22, .inl (cs 0, 2, .inl (fun _ => 0))), (q30, .inl (cs 0, 36, .inl (fun _ => 0))), (q37, .inl (cs 0, 2, .inl (fun _ => 0))), (q45, .inl (cs 0, 48, .inl (fun _ => 0))), (q53, .inl (cs 0, 100, .inl (fun _ => 0))), (q61, .inl (cs 0, 30, .inl (fun _ => 0))), (q70, .inl (cs 4, 4210, .inl (fun _ => 0)))] := hD
  refine W.widen (k := 9) (n := 4732) (by decide) (by decide) ?_
  refine xi_putF Z hP hD hS 12 rfl rfl iX6 tyX6_ok nmX6 (by decide) xb_398 rfl rfl rfl rfl (Nat.le_of_ble_eq_true rfl) dX6_init_72 (fun H locs hP hD hS => ?_)
  have hP : va_P D classes [(h0, .inr (6, [.int 0, .ref q8, .int 0, .ref q15, .ref q22, .ref q30, .ref q37, .ref q45, .ref q53, .int 0, .int 0, .ref q61, .ref q70, .null, .null, .int 0, .null, .int 0, .int 0])), (q8, .inl (cs 1, 300, .inl (fun _ => 0))), (q15, .inl (cs 0, 4, .inl (fun _ => 0))), (q22, .inl (cs 0, 2, .inl (fun _ => 0))), (q30, .inl (cs 0, 36, .inl (fun _ => 0))), (q37, .inl (cs 0, 2, .inl (fun _ => 0))), (q45, .inl (cs 0, 48, .inl (fun _ => 0))), (q53, .inl (cs 0, 100, .inl (fun _ => 0))), (q61, .inl (cs 0, 30, .inl (fun _ => 0))), (q70, .inl (cs 4, 4210, .inl (fun _ => 0)))] H := hP
  have hD : va_D A [(h0, .inr (6, [.int 0, .ref q8, .int 0, .ref q15, .ref q22, .ref q30, .ref q37, .ref q45, .ref q53, .int 0, .int 0, .ref q61, .ref q70, .null, .null, .int 0, .null, .int 0, .int 0])), (q8, .inl (cs 1, 300, .inl (fun _ => 0))), (q15, .inl (cs 0, 4, .inl (fun _ => 0))), (q22, .inl (cs 0, 2, .inl (fun _ => 0))), (q30, .inl (cs 0, 36, .inl (fun _ => 0))), (q37, .inl (cs 0, 2, .inl (fun _ => 0))), (q45, .inl (cs 0, 48, .inl (fun _ => 0))), (q53, .inl (cs 0, 100, .inl (fun _ => 0))), (q61, .inl (cs 0, 30, .inl (fun _ => 0))), (q70, .inl (cs 4, 4210, .inl (fun _ => 0)))] := hD
  refine lv_aload_n Z.1 Z.2.1 dX6_init_75 rfl (lv_at hl 0 rfl) ?_
  refine lv_iconst (v := 4) Z.1 Z.2.1 dX6_init_76 (by decide) ?_
  refine xi_newi (N := 4) Z hP hD hS hA (by decide) rfl (by decide) ⟨Nat.le_of_ble_eq_true rfl, Nat.le_of_ble_eq_true rfl⟩ dX6_init_77 (fun q77 H hP hD hS => ?_)
  have hP : va_P D classes [(h0, .inr (6, [.int 0, .ref q8, .int 0, .ref q15, .ref q22, .ref q30, .ref q37, .ref q45, .ref q53, .int 0, .int 0, .ref q61, .ref q70, .null, .null, .int 0, .null, .int 0, .int 0])), (q8, .inl (cs 1, 300, .inl (fun _ => 0))), (q15, .inl (cs 0, 4, .inl (fun _ => 0))), (q22, .inl (cs 0, 2, .inl (fun _ => 0))), (q30, .inl (cs 0, 36, .inl (fun _ => 0))), (q37, .inl (cs 0, 2, .inl (fun _ => 0))), (q45, .inl (cs 0, 48, .inl (fun _ => 0))), (q53, .inl (cs 0, 100, .inl (fun _ => 0))), (q61, .inl (cs 0, 30, .inl (fun _ => 0))), (q70, .inl (cs 4, 4210, .inl (fun _ => 0))), (q77, .inl (cs 0, 4, .inl (fun _ => 0)))] H := hP
  have hD : va_D A [(h0, .inr (6, [.int 0, .ref q8, .int 0, .ref q15, .ref q22, .ref q30, .ref q37, .ref q45, .ref q53, .int 0, .int 0, .ref q61, .ref q70, .null, .null, .int 0, .null, .int 0, .int 0])), (q8, .inl (cs 1, 300, .inl (fun _ => 0))), (q15, .inl (cs 0, 4, .inl (fun _ => 0))), (q22, .inl (cs 0, 2, .inl (fun _ => 0))), (q30, .inl (cs 0, 36, .inl (fun _ => 0))), (q37, .inl (cs 0, 2, .inl (fun _ => 0))), (q45, .inl (cs 0, 48, .inl (fun _ => 0))), (q53, .inl (cs 0, 100, .inl (fun _ => 0))), (q61, .inl (cs 0, 30, .inl (fun _ => 0))), (q70, .inl (cs 4, 4210, .inl (fun _ => 0))), (q77, .inl (cs 0, 4, .inl (fun _ => 0)))] := hD
  refine W.widen (k := 10) (n := 4736) (by decide) (by decide) ?_
  refine xi_putF Z hP hD hS 13 rfl rfl iX6 tyX6_ok nmX6 (by decide) xb_399 rfl rfl rfl rfl (Nat.le_of_ble_eq_true rfl) dX6_init_79 (fun H locs hP hD hS => ?_)
  have hP : va_P D classes [(h0, .inr (6, [.int 0, .ref q8, .int 0, .ref q15, .ref q22, .ref q30, .ref q37, .ref q45, .ref q53, .int 0, .int 0, .ref q61, .ref q70, .ref q77, .null, .int 0, .null, .int 0, .int 0])), (q8, .inl (cs 1, 300, .inl (fun _ => 0))), (q15, .inl (cs 0, 4, .inl (fun _ => 0))), (q22, .inl (cs 0, 2, .inl (fun _ => 0))), (q30, .inl (cs 0, 36, .inl (fun _ => 0))), (q37, .inl (cs 0, 2, .inl (fun _ => 0))), (q45, .inl (cs 0, 48, .inl (fun _ => 0))), (q53, .inl (cs 0, 100, .inl (fun _ => 0))), (q61, .inl (cs 0, 30, .inl (fun _ => 0))), (q70, .inl (cs 4, 4210, .inl (fun _ => 0))), (q77, .inl (cs 0, 4, .inl (fun _ => 0)))] H := hP
  have hD : va_D A [(h0, .inr (6, [.int 0, .ref q8, .int 0, .ref q15, .ref q22, .ref q30, .ref q37, .ref q45, .ref q53, .int 0, .int 0, .ref q61, .ref q70, .ref q77, .null, .int 0, .null, .int 0, .int 0])), (q8, .inl (cs 1, 300, .inl (fun _ => 0))), (q15, .inl (cs 0, 4, .inl (fun _ => 0))), (q22, .inl (cs 0, 2, .inl (fun _ => 0))), (q30, .inl (cs 0, 36, .inl (fun _ => 0))), (q37, .inl (cs 0, 2, .inl (fun _ => 0))), (q45, .inl (cs 0, 48, .inl (fun _ => 0))), (q53, .inl (cs 0, 100, .inl (fun _ => 0))), (q61, .inl (cs 0, 30, .inl (fun _ => 0))), (q70, .inl (cs 4, 4210, .inl (fun _ => 0))), (q77, .inl (cs 0, 4, .inl (fun _ => 0)))] := hD
  refine lv_aload_n Z.1 Z.2.1 dX6_init_82 rfl (lv_at hl 0 rfl) ?_
  refine lv_iconst (v := 4) Z.1 Z.2.1 dX6_init_83 (by decide) ?_
  refine xi_newi (N := 4) Z hP hD hS hA (by decide) rfl (by decide) ⟨Nat.le_of_ble_eq_true rfl, Nat.le_of_ble_eq_true rfl⟩ dX6_init_84 (fun q84 H hP hD hS => ?_)
  have hP : va_P D classes [(h0, .inr (6, [.int 0, .ref q8, .int 0, .ref q15, .ref q22, .ref q30, .ref q37, .ref q45, .ref q53, .int 0, .int 0, .ref q61, .ref q70, .ref q77, .null, .int 0, .null, .int 0, .int 0])), (q8, .inl (cs 1, 300, .inl (fun _ => 0))), (q15, .inl (cs 0, 4, .inl (fun _ => 0))), (q22, .inl (cs 0, 2, .inl (fun _ => 0))), (q30, .inl (cs 0, 36, .inl (fun _ => 0))), (q37, .inl (cs 0, 2, .inl (fun _ => 0))), (q45, .inl (cs 0, 48, .inl (fun _ => 0))), (q53, .inl (cs 0, 100, .inl (fun _ => 0))), (q61, .inl (cs 0, 30, .inl (fun _ => 0))), (q70, .inl (cs 4, 4210, .inl (fun _ => 0))), (q77, .inl (cs 0, 4, .inl (fun _ => 0))), (q84, .inl (cs 0, 4, .inl (fun _ => 0)))] H := hP
  have hD : va_D A [(h0, .inr (6, [.int 0, .ref q8, .int 0, .ref q15, .ref q22, .ref q30, .ref q37, .ref q45, .ref q53, .int 0, .int 0, .ref q61, .ref q70, .ref q77, .null, .int 0, .null, .int 0, .int 0])), (q8, .inl (cs 1, 300, .inl (fun _ => 0))), (q15, .inl (cs 0, 4, .inl (fun _ => 0))), (q22, .inl (cs 0, 2, .inl (fun _ => 0))), (q30, .inl (cs 0, 36, .inl (fun _ => 0))), (q37, .inl (cs 0, 2, .inl (fun _ => 0))), (q45, .inl (cs 0, 48, .inl (fun _ => 0))), (q53, .inl (cs 0, 100, .inl (fun _ => 0))), (q61, .inl (cs 0, 30, .inl (fun _ => 0))), (q70, .inl (cs 4, 4210, .inl (fun _ => 0))), (q77, .inl (cs 0, 4, .inl (fun _ => 0))), (q84, .inl (cs 0, 4, .inl (fun _ => 0)))] := hD
  refine W.widen (k := 11) (n := 4740) (by decide) (by decide) ?_
  refine xi_putF Z hP hD hS 14 rfl rfl iX6 tyX6_ok nmX6 (by decide) xb_400 rfl rfl rfl rfl (Nat.le_of_ble_eq_true rfl) dX6_init_86 (fun H locs hP hD hS => ?_)
  have hP : va_P D classes [(h0, .inr (6, [.int 0, .ref q8, .int 0, .ref q15, .ref q22, .ref q30, .ref q37, .ref q45, .ref q53, .int 0, .int 0, .ref q61, .ref q70, .ref q77, .ref q84, .int 0, .null, .int 0, .int 0])), (q8, .inl (cs 1, 300, .inl (fun _ => 0))), (q15, .inl (cs 0, 4, .inl (fun _ => 0))), (q22, .inl (cs 0, 2, .inl (fun _ => 0))), (q30, .inl (cs 0, 36, .inl (fun _ => 0))), (q37, .inl (cs 0, 2, .inl (fun _ => 0))), (q45, .inl (cs 0, 48, .inl (fun _ => 0))), (q53, .inl (cs 0, 100, .inl (fun _ => 0))), (q61, .inl (cs 0, 30, .inl (fun _ => 0))), (q70, .inl (cs 4, 4210, .inl (fun _ => 0))), (q77, .inl (cs 0, 4, .inl (fun _ => 0))), (q84, .inl (cs 0, 4, .inl (fun _ => 0)))] H := hP
  have hD : va_D A [(h0, .inr (6, [.int 0, .ref q8, .int 0, .ref q15, .ref q22, .ref q30, .ref q37, .ref q45, .ref q53, .int 0, .int 0, .ref q61, .ref q70, .ref q77, .ref q84, .int 0, .null, .int 0, .int 0])), (q8, .inl (cs 1, 300, .inl (fun _ => 0))), (q15, .inl (cs 0, 4, .inl (fun _ => 0))), (q22, .inl (cs 0, 2, .inl (fun _ => 0))), (q30, .inl (cs 0, 36, .inl (fun _ => 0))), (q37, .inl (cs 0, 2, .inl (fun _ => 0))), (q45, .inl (cs 0, 48, .inl (fun _ => 0))), (q53, .inl (cs 0, 100, .inl (fun _ => 0))), (q61, .inl (cs 0, 30, .inl (fun _ => 0))), (q70, .inl (cs 4, 4210, .inl (fun _ => 0))), (q77, .inl (cs 0, 4, .inl (fun _ => 0))), (q84, .inl (cs 0, 4, .inl (fun _ => 0)))] := hD
  refine lv_aload_n Z.1 Z.2.1 dX6_init_89 rfl (lv_at hl 0 rfl) ?_
  refine lv_iconst (v := 3) Z.1 Z.2.1 dX6_init_90 (by decide) ?_
  refine xi_newi (N := 3) Z hP hD hS hA (by decide) rfl (by decide) ⟨Nat.le_of_ble_eq_true rfl, Nat.le_of_ble_eq_true rfl⟩ dX6_init_91 (fun q91 H hP hD hS => ?_)
  have hP : va_P D classes [(h0, .inr (6, [.int 0, .ref q8, .int 0, .ref q15, .ref q22, .ref q30, .ref q37, .ref q45, .ref q53, .int 0, .int 0, .ref q61, .ref q70, .ref q77, .ref q84, .int 0, .null, .int 0, .int 0])), (q8, .inl (cs 1, 300, .inl (fun _ => 0))), (q15, .inl (cs 0, 4, .inl (fun _ => 0))), (q22, .inl (cs 0, 2, .inl (fun _ => 0))), (q30, .inl (cs 0, 36, .inl (fun _ => 0))), (q37, .inl (cs 0, 2, .inl (fun _ => 0))), (q45, .inl (cs 0, 48, .inl (fun _ => 0))), (q53, .inl (cs 0, 100, .inl (fun _ => 0))), (q61, .inl (cs 0, 30, .inl (fun _ => 0))), (q70, .inl (cs 4, 4210, .inl (fun _ => 0))), (q77, .inl (cs 0, 4, .inl (fun _ => 0))), (q84, .inl (cs 0, 4, .inl (fun _ => 0))), (q91, .inl (cs 0, 3, .inl (fun _ => 0)))] H := hP
  have hD : va_D A [(h0, .inr (6, [.int 0, .ref q8, .int 0, .ref q15, .ref q22, .ref q30, .ref q37, .ref q45, .ref q53, .int 0, .int 0, .ref q61, .ref q70, .ref q77, .ref q84, .int 0, .null, .int 0, .int 0])), (q8, .inl (cs 1, 300, .inl (fun _ => 0))), (q15, .inl (cs 0, 4, .inl (fun _ => 0))), (q22, .inl (cs 0, 2, .inl (fun _ => 0))), (q30, .inl (cs 0, 36, .inl (fun _ => 0))), (q37, .inl (cs 0, 2, .inl (fun _ => 0))), (q45, .inl (cs 0, 48, .inl (fun _ => 0))), (q53, .inl (cs 0, 100, .inl (fun _ => 0))), (q61, .inl (cs 0, 30, .inl (fun _ => 0))), (q70, .inl (cs 4, 4210, .inl (fun _ => 0))), (q77, .inl (cs 0, 4, .inl (fun _ => 0))), (q84, .inl (cs 0, 4, .inl (fun _ => 0))), (q91, .inl (cs 0, 3, .inl (fun _ => 0)))] := hD
  refine W.widen (k := 12) (n := 4743) (by decide) (by decide) ?_
  refine xi_putF Z hP hD hS 16 rfl rfl iX6 tyX6_ok nmX6 (by decide) xb_401 rfl rfl rfl rfl (Nat.le_of_ble_eq_true rfl) dX6_init_93 (fun H locs hP hD hS => ?_)
  have hP : va_P D classes [(h0, .inr (6, [.int 0, .ref q8, .int 0, .ref q15, .ref q22, .ref q30, .ref q37, .ref q45, .ref q53, .int 0, .int 0, .ref q61, .ref q70, .ref q77, .ref q84, .int 0, .ref q91, .int 0, .int 0])), (q8, .inl (cs 1, 300, .inl (fun _ => 0))), (q15, .inl (cs 0, 4, .inl (fun _ => 0))), (q22, .inl (cs 0, 2, .inl (fun _ => 0))), (q30, .inl (cs 0, 36, .inl (fun _ => 0))), (q37, .inl (cs 0, 2, .inl (fun _ => 0))), (q45, .inl (cs 0, 48, .inl (fun _ => 0))), (q53, .inl (cs 0, 100, .inl (fun _ => 0))), (q61, .inl (cs 0, 30, .inl (fun _ => 0))), (q70, .inl (cs 4, 4210, .inl (fun _ => 0))), (q77, .inl (cs 0, 4, .inl (fun _ => 0))), (q84, .inl (cs 0, 4, .inl (fun _ => 0))), (q91, .inl (cs 0, 3, .inl (fun _ => 0)))] H := hP
  have hD : va_D A [(h0, .inr (6, [.int 0, .ref q8, .int 0, .ref q15, .ref q22, .ref q30, .ref q37, .ref q45, .ref q53, .int 0, .int 0, .ref q61, .ref q70, .ref q77, .ref q84, .int 0, .ref q91, .int 0, .int 0])), (q8, .inl (cs 1, 300, .inl (fun _ => 0))), (q15, .inl (cs 0, 4, .inl (fun _ => 0))), (q22, .inl (cs 0, 2, .inl (fun _ => 0))), (q30, .inl (cs 0, 36, .inl (fun _ => 0))), (q37, .inl (cs 0, 2, .inl (fun _ => 0))), (q45, .inl (cs 0, 48, .inl (fun _ => 0))), (q53, .inl (cs 0, 100, .inl (fun _ => 0))), (q61, .inl (cs 0, 30, .inl (fun _ => 0))), (q70, .inl (cs 4, 4210, .inl (fun _ => 0))), (q77, .inl (cs 0, 4, .inl (fun _ => 0))), (q84, .inl (cs 0, 4, .inl (fun _ => 0))), (q91, .inl (cs 0, 3, .inl (fun _ => 0)))] := hD
  refine lv_aload_n Z.1 Z.2.1 dX6_init_96 rfl (lv_at hl 0 rfl) ?_
  have e : xw S60 (fun k => [h0, q8, q15, q22, q30, q37, q45, q53, q61, q70, q77, q84, q91].getD (k - 60) 0) cs xm0 = [(h0, .inr (6, [.int 0, .ref q8, .int 0, .ref q15, .ref q22, .ref q30, .ref q37, .ref q45, .ref q53, .int 0, .int 0, .ref q61, .ref q70, .ref q77, .ref q84, .int 0, .ref q91, .int 0, .int 0])), (q8, .inl (cs 1, 300, .inl (fun _ => 0))), (q15, .inl (cs 0, 4, .inl (fun _ => 0))), (q22, .inl (cs 0, 2, .inl (fun _ => 0))), (q30, .inl (cs 0, 36, .inl (fun _ => 0))), (q37, .inl (cs 0, 2, .inl (fun _ => 0))), (q45, .inl (cs 0, 48, .inl (fun _ => 0))), (q53, .inl (cs 0, 100, .inl (fun _ => 0))), (q61, .inl (cs 0, 30, .inl (fun _ => 0))), (q70, .inl (cs 4, 4210, .inl (fun _ => 0))), (q77, .inl (cs 0, 4, .inl (fun _ => 0))), (q84, .inl (cs 0, 4, .inl (fun _ => 0))), (q91, .inl (cs 0, 3, .inl (fun _ => 0)))] := rfl
  rw [← e] at hP hD
  obtain ⟨u, hu⟩ : ∃ u, u = (fun k => [h0, q8, q15, q22, q30, q37, q45, q53, q61, q70, q77, q84, q91].getD (k - 60) 0) := ⟨_, rfl⟩
  rw [← hu] at hP hD
  have hu0 : h0 = u 60 := by rw [hu]; rfl
  have hm : xalm S60 := fun k h1 h2 => by simp only [List.mem_cons, List.not_mem_nil, or_false]; omega
  obtain ⟨N1, g1, g2, g3⟩ := M_begins xm0
  refine xi_callVm (w1 := []) (S := S60) (ad := u) (M := xm0) (M' := N1) (As := []) (rest := []) (k := 60) (n := 0) (T := TX6) (N := 19) Z (fun hd => kX6_begins l D cs S60 u hd hm xm0 N1 g1) (by decide) hP hD hS hA (xq_5 xb_402 xb_403 xb_404 xb_394 xb_380) (by decide) rfl rfl ⟨rfl, by decide +kernel, by decide +kernel, by decide +kernel⟩ rfl ⟨rfl, rfl⟩ ⟨Nat.le_of_ble_eq_true rfl, Nat.le_of_ble_eq_true rfl⟩ hl (by rw [hu0]; rfl) (Nat.le_of_ble_eq_true rfl) ⟨Nat.le_of_ble_eq_true rfl, Nat.le_of_ble_eq_true rfl⟩ dX6_init_97 (fun H locs hP hD hS => ?_)
  rw [List.nil_append] at hP hD
  rw [hu0] at hl
  refine lv_aload_n Z.1 Z.2.1 dX6_init_100 rfl (lv_at hl 0 rfl) ?_
  refine xi_get (w1 := []) (v := .ref (u 63)) Z 4 (show 60 ∈ S60 by decide) rfl rfl iX6 (by decide) rfl xb_381 rfl hP dX6_init_101 ?_
  refine lv_iconst (v := 1) Z.1 Z.2.1 dX6_init_104 (by decide) ?_
  refine lv_iconst (v := 1) Z.1 Z.2.1 dX6_init_105 (by decide) ?_
  refine xi_iast (k := 63) (n := 2) Z (show 63 ∈ S60 by decide) (by decide) rfl (by unfold vp_in; decide) hP hD hS dX6_init_106 (fun H locs hP hD hS => ?_)
  have hP : va_P D classes (xw S60 u cs (up N1 63 1 1)) H := hP
  have hD : va_D A (xw S60 u cs (up N1 63 1 1)) := hD
  refine lv_aload_n Z.1 Z.2.1 dX6_init_107 rfl (lv_at hl 0 rfl) ?_
  refine xi_get (w1 := []) (v := .ref (u 64)) Z 5 (show 60 ∈ S60 by decide) rfl rfl iX6 (by decide) rfl xb_388 rfl hP dX6_init_108 ?_
  refine lv_bipush (v := 18) Z.1 Z.2.1 dX6_init_111 (by decide) ?_
  refine lv_bipush (v := 9) Z.1 Z.2.1 dX6_init_113 (by decide) ?_
  refine xi_iast (k := 64) (n := 36) Z (show 64 ∈ S60 by decide) (by decide) rfl (by unfold vp_in; decide) hP hD hS dX6_init_115 (fun H locs hP hD hS => ?_)
  have hP : va_P D classes (xw S60 u cs (up (up N1 63 1 1) 64 18 9)) H := hP
  have hD : va_D A (xw S60 u cs (up (up N1 63 1 1) 64 18 9)) := hD
  refine lv_aload_n Z.1 Z.2.1 dX6_init_116 rfl (lv_at hl 0 rfl) ?_
  refine xi_get (w1 := []) (v := .ref (u 64)) Z 5 (show 60 ∈ S60 by decide) rfl rfl iX6 (by decide) rfl xb_388 rfl hP dX6_init_117 ?_
  refine lv_bipush (v := 19) Z.1 Z.2.1 dX6_init_120 (by decide) ?_
  refine lv_iconst (v := 0) Z.1 Z.2.1 dX6_init_122 (by decide) ?_
  refine xi_iast (k := 64) (n := 36) Z (show 64 ∈ S60 by decide) (by decide) rfl (by unfold vp_in; decide) hP hD hS dX6_init_123 (fun H locs hP hD hS => ?_)
  have hP : va_P D classes (xw S60 u cs (up (up (up N1 63 1 1) 64 18 9) 64 19 0)) H := hP
  have hD : va_D A (xw S60 u cs (up (up (up N1 63 1 1) 64 18 9) 64 19 0)) := hD
  refine lv_aload_n Z.1 Z.2.1 dX6_init_124 rfl (lv_at hl 0 rfl) ?_
  refine xi_get (w1 := []) (v := .ref (u 64)) Z 5 (show 60 ∈ S60 by decide) rfl rfl iX6 (by decide) rfl xb_388 rfl hP dX6_init_125 ?_
  refine lv_bipush (v := 20) Z.1 Z.2.1 dX6_init_128 (by decide) ?_
  refine lv_bipush (v := 9) Z.1 Z.2.1 dX6_init_130 (by decide) ?_
  refine xi_iast (k := 64) (n := 36) Z (show 64 ∈ S60 by decide) (by decide) rfl (by unfold vp_in; decide) hP hD hS dX6_init_132 (fun H locs hP hD hS => ?_)
  have hP : va_P D classes (xw S60 u cs (up (up (up (up N1 63 1 1) 64 18 9) 64 19 0) 64 20 9)) H := hP
  have hD : va_D A (xw S60 u cs (up (up (up (up N1 63 1 1) 64 18 9) 64 19 0) 64 20 9)) := hD
  refine lv_aload_n Z.1 Z.2.1 dX6_init_133 rfl (lv_at hl 0 rfl) ?_
  refine xi_get (w1 := []) (v := .ref (u 65)) Z 6 (show 60 ∈ S60 by decide) rfl rfl iX6 (by decide) rfl xb_382 rfl hP dX6_init_134 ?_
  refine lv_iconst (v := 1) Z.1 Z.2.1 dX6_init_137 (by decide) ?_
  refine lv_iconst (v := 1) Z.1 Z.2.1 dX6_init_138 (by decide) ?_
  refine xi_iast (k := 65) (n := 2) Z (show 65 ∈ S60 by decide) (by decide) rfl (by unfold vp_in; decide) hP hD hS dX6_init_139 (fun H locs hP hD hS => ?_)
  have hP : va_P D classes (xw S60 u cs (up (up (up (up (up N1 63 1 1) 64 18 9) 64 19 0) 64 20 9) 65 1 1)) H := hP
  have hD : va_D A (xw S60 u cs (up (up (up (up (up N1 63 1 1) 64 18 9) 64 19 0) 64 20 9) 65 1 1)) := hD
  refine lv_aload_n Z.1 Z.2.1 dX6_init_140 rfl (lv_at hl 0 rfl) ?_
  refine xi_get (w1 := []) (v := .ref (u 66)) Z 7 (show 60 ∈ S60 by decide) rfl rfl iX6 (by decide) rfl xb_386 rfl hP dX6_init_141 ?_
  refine lv_bipush (v := 24) Z.1 Z.2.1 dX6_init_144 (by decide) ?_
  refine lv_iconst (v := 0) Z.1 Z.2.1 dX6_init_146 (by decide) ?_
  refine xi_iast (k := 66) (n := 48) Z (show 66 ∈ S60 by decide) (by decide) rfl (by unfold vp_in; decide) hP hD hS dX6_init_147 (fun H locs hP hD hS => ?_)
  have hP : va_P D classes (xw S60 u cs (up (up (up (up (up (up N1 63 1 1) 64 18 9) 64 19 0) 64 20 9) 65 1 1) 66 24 0)) H := hP
  have hD : va_D A (xw S60 u cs (up (up (up (up (up (up N1 63 1 1) 64 18 9) 64 19 0) 64 20 9) 65 1 1) 66 24 0)) := hD
  refine lv_aload_n Z.1 Z.2.1 dX6_init_148 rfl (lv_at hl 0 rfl) ?_
  refine xi_get (w1 := []) (v := .ref (u 66)) Z 7 (show 60 ∈ S60 by decide) rfl rfl iX6 (by decide) rfl xb_386 rfl hP dX6_init_149 ?_
  refine lv_bipush (v := 25) Z.1 Z.2.1 dX6_init_152 (by decide) ?_
  refine lv_iconst (v := 3) Z.1 Z.2.1 dX6_init_154 (by decide) ?_
  refine xi_iast (k := 66) (n := 48) Z (show 66 ∈ S60 by decide) (by decide) rfl (by unfold vp_in; decide) hP hD hS dX6_init_155 (fun H locs hP hD hS => ?_)
  have hP : va_P D classes (xw S60 u cs (up (up (up (up (up (up (up N1 63 1 1) 64 18 9) 64 19 0) 64 20 9) 65 1 1) 66 24 0) 66 25 3)) H := hP
  have hD : va_D A (xw S60 u cs (up (up (up (up (up (up (up N1 63 1 1) 64 18 9) 64 19 0) 64 20 9) 65 1 1) 66 24 0) 66 25 3)) := hD
  refine lv_aload_n Z.1 Z.2.1 dX6_init_156 rfl (lv_at hl 0 rfl) ?_
  refine xi_get (w1 := []) (v := .ref (u 66)) Z 7 (show 60 ∈ S60 by decide) rfl rfl iX6 (by decide) rfl xb_386 rfl hP dX6_init_157 ?_
  refine lv_bipush (v := 26) Z.1 Z.2.1 dX6_init_160 (by decide) ?_
  refine lv_bipush (v := 15) Z.1 Z.2.1 dX6_init_162 (by decide) ?_
  refine xi_iast (k := 66) (n := 48) Z (show 66 ∈ S60 by decide) (by decide) rfl (by unfold vp_in; decide) hP hD hS dX6_init_164 (fun H locs hP hD hS => ?_)
  have hP : va_P D classes (xw S60 u cs (up (up (up (up (up (up (up (up N1 63 1 1) 64 18 9) 64 19 0) 64 20 9) 65 1 1) 66 24 0) 66 25 3) 66 26 15)) H := hP
  have hD : va_D A (xw S60 u cs (up (up (up (up (up (up (up (up N1 63 1 1) 64 18 9) 64 19 0) 64 20 9) 65 1 1) 66 24 0) 66 25 3) 66 26 15)) := hD
  refine lv_aload_n Z.1 Z.2.1 dX6_init_165 rfl (lv_at hl 0 rfl) ?_
  obtain ⟨N2, t1, t2, t3, t4, t5, -⟩ := M_takes R1_laid (DM_first g2)
  refine xi_callVm (w1 := []) (S := S60) (ad := u) (M := (up (up (up (up (up (up (up (up N1 63 1 1) 64 18 9) 64 19 0) 64 20 9) 65 1 1) 66 24 0) 66 25 3) 66 26 15)) (M' := N2) (As := []) (rest := []) (k := 60) (n := 0) (T := TX6) (N := 19) Z (fun hd => kX6_takes l D cs S60 u hd hm _ N2 t1) (by decide) hP hD hS hA (xq_5 xb_405 xb_406 xb_407 xb_394 xb_387) (by decide) rfl rfl ⟨rfl, by decide +kernel, by decide +kernel, by decide +kernel⟩ rfl ⟨rfl, rfl⟩ ⟨Nat.le_of_ble_eq_true rfl, Nat.le_of_ble_eq_true rfl⟩ hl rfl (Nat.le_of_ble_eq_true rfl) ⟨Nat.le_of_ble_eq_true rfl, Nat.le_of_ble_eq_true rfl⟩ dX6_init_166 (fun H locs hP hD hS => ?_)
  have e60 : N2.1 60 0 = nI 0 := by
    rw [t5, up_ne (by omega), up_ne (by omega), up_ne (by omega), up_ne (by omega), up_ne (by omega), up_ne (by omega), up_ne (by omega), up_ne (by omega), g3 60 0 (by omega) (by omega) (by omega) (by omega) (by omega)]
    rfl
  exact xi_ret Z (u, N2) ⟨hu0.symm, t2, t3, t4, e60⟩ hP hD hS dX6_init_169
