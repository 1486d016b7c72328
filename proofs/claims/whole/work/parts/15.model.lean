/-! WalkingLawModel.begins()V -/
theorem dX6_begins_0 : decode cX6_begins 0 = .ok (.aload_n 0, 1) := by decide +kernel
theorem dX6_begins_1 : decode cX6_begins 1 = .ok (.getfield 17, 3) := by decide +kernel
theorem dX6_begins_4 : decode cX6_begins 4 = .ok (.iconst 1, 1) := by decide +kernel
theorem dX6_begins_5 : decode cX6_begins 5 = .ok (.iconst 0, 1) := by decide +kernel
theorem dX6_begins_6 : decode cX6_begins 6 = .ok (.iastore, 1) := by decide +kernel
theorem dX6_begins_7 : decode cX6_begins 7 = .ok (.aload_n 0, 1) := by decide +kernel
theorem dX6_begins_8 : decode cX6_begins 8 = .ok (.getfield 23, 3) := by decide +kernel
theorem dX6_begins_11 : decode cX6_begins 11 = .ok (.iconst 1, 1) := by decide +kernel
theorem dX6_begins_12 : decode cX6_begins 12 = .ok (.iconst 0, 1) := by decide +kernel
theorem dX6_begins_13 : decode cX6_begins 13 = .ok (.iastore, 1) := by decide +kernel
theorem dX6_begins_14 : decode cX6_begins 14 = .ok (.aload_n 0, 1) := by decide +kernel
theorem dX6_begins_15 : decode cX6_begins 15 = .ok (.getfield 13, 3) := by decide +kernel
theorem dX6_begins_18 : decode cX6_begins 18 = .ok (.iconst 2, 1) := by decide +kernel
theorem dX6_begins_19 : decode cX6_begins 19 = .ok (.iconst 1, 1) := by decide +kernel
theorem dX6_begins_20 : decode cX6_begins 20 = .ok (.iastore, 1) := by decide +kernel
theorem dX6_begins_21 : decode cX6_begins 21 = .ok (.aload_n 0, 1) := by decide +kernel
theorem dX6_begins_22 : decode cX6_begins 22 = .ok (.getfield 13, 3) := by decide +kernel
theorem dX6_begins_25 : decode cX6_begins 25 = .ok (.iconst 3, 1) := by decide +kernel
theorem dX6_begins_26 : decode cX6_begins 26 = .ok (.iconst 4, 1) := by decide +kernel
theorem dX6_begins_27 : decode cX6_begins 27 = .ok (.iastore, 1) := by decide +kernel
theorem dX6_begins_28 : decode cX6_begins 28 = .ok (.return_, 1) := by decide +kernel
def rmX6_begins : Room := { frames := 0, cells := 0, slots := 0, locals := 0 }
def fX6_begins (M : xm) : Option (xm) := xchk 1 2 (xl (up M 63 (1 : Int32).toNatClampNeg 0) (fun M1 => xchk 1 2 (xl (up M1 65 (1 : Int32).toNatClampNeg 0) (fun M2 => xchk 2 4 (xl (up M2 62 (2 : Int32).toNatClampNeg 1) (fun M3 => xchk 3 4 (xl (up M3 62 (3 : Int32).toNatClampNeg 4) (fun M4 => (some M4)))))))))
section
variable {p : Program} {l : Launch} {e : Env} {s : State} {m : MethodId} {args : Array Value} {below : List Frame} {meth : Method} {c : Code} {D : va_G} {cs : Nat → ClassId} {S : List Nat} {ad : Nat → Nat}
end
theorem kX6_begins (l : Launch) (D : va_G) (cs : Nat → ClassId) (S : List Nat) (ad : Nat → Nat) (hd : xdist S ad) (hS : xalm S) (M : xm) : ∀ r, fX6_begins M = some r → Met l yX6_begins [Cond.code yX6_begins cX6_begins 1 none] rmX6_begins (XPc D cs S ad [.ref (ad 60)] M) (XQv D cs S ad r) 0 0 (xA S ad) := by
  refine xm_m (own := RX6) (lv := [(0, .ref (ad 60))]) (by decide +kernel) rfl rfl (Nat.le_of_ble_eq_true rfl) hd (fun p e s m args below meth c Z => ?_)
  unfold fX6_begins
  refine xj_aload_n Z 0 dX6_begins_0 rfl rfl ?_
  refine xg_X6_17 Z (hS 60 (by decide) (by decide)) dX6_begins_1 ?_
  refine xj_iconst Z 1 dX6_begins_4 (by decide) ?_
  refine xj_iconst Z 0 dX6_begins_5 (by decide) ?_
  refine xj_iast Z (hS 63 (by decide) (by decide)) rfl dX6_begins_6 (fun M1 _ => ?_)
  refine xj_aload_n Z 0 dX6_begins_7 rfl rfl ?_
  refine xg_X6_23 Z (hS 60 (by decide) (by decide)) dX6_begins_8 ?_
  refine xj_iconst Z 1 dX6_begins_11 (by decide) ?_
  refine xj_iconst Z 0 dX6_begins_12 (by decide) ?_
  refine xj_iast Z (hS 65 (by decide) (by decide)) rfl dX6_begins_13 (fun M2 _ => ?_)
  refine xj_aload_n Z 0 dX6_begins_14 rfl rfl ?_
  refine xg_X6_13 Z (hS 60 (by decide) (by decide)) dX6_begins_15 ?_
  refine xj_iconst Z 2 dX6_begins_18 (by decide) ?_
  refine xj_iconst Z 1 dX6_begins_19 (by decide) ?_
  refine xj_iast Z (hS 62 (by decide) (by decide)) rfl dX6_begins_20 (fun M3 _ => ?_)
  refine xj_aload_n Z 0 dX6_begins_21 rfl rfl ?_
  refine xg_X6_13 Z (hS 60 (by decide) (by decide)) dX6_begins_22 ?_
  refine xj_iconst Z 3 dX6_begins_25 (by decide) ?_
  refine xj_iconst Z 4 dX6_begins_26 (by decide) ?_
  refine xj_iast Z (hS 62 (by decide) (by decide)) rfl dX6_begins_27 (fun M4 _ => ?_)
  exact xj_vret Z dX6_begins_28
/-! WalkingLawModel.laid(I)V -/
theorem dX6_laid_0 : decode cX6_laid 0 = .ok (.iconst 0, 1) := by decide +kernel
theorem dX6_laid_1 : decode cX6_laid 1 = .ok (.istore_n 2, 1) := by decide +kernel
theorem dX6_laid_2 : decode cX6_laid 2 = .ok (.iload_n 2, 1) := by decide +kernel
theorem dX6_laid_3 : decode cX6_laid 3 = .ok (.bipush 8, 2) := by decide +kernel
theorem dX6_laid_5 : decode cX6_laid 5 = .ok (.if_icmp .ge 59, 3) := by decide +kernel
theorem dX6_laid_8 : decode cX6_laid 8 = .ok (.aload_n 0, 1) := by decide +kernel
theorem dX6_laid_9 : decode cX6_laid 9 = .ok (.getfield 29, 3) := by decide +kernel
theorem dX6_laid_12 : decode cX6_laid 12 = .ok (.bipush 25, 2) := by decide +kernel
theorem dX6_laid_14 : decode cX6_laid 14 = .ok (.iload_n 1, 1) := by decide +kernel
theorem dX6_laid_15 : decode cX6_laid 15 = .ok (.imul, 1) := by decide +kernel
theorem dX6_laid_16 : decode cX6_laid 16 = .ok (.iload_n 2, 1) := by decide +kernel
theorem dX6_laid_17 : decode cX6_laid 17 = .ok (.iadd, 1) := by decide +kernel
theorem dX6_laid_18 : decode cX6_laid 18 = .ok (.iconst 0, 1) := by decide +kernel
theorem dX6_laid_19 : decode cX6_laid 19 = .ok (.iastore, 1) := by decide +kernel
theorem dX6_laid_20 : decode cX6_laid 20 = .ok (.aload_n 0, 1) := by decide +kernel
theorem dX6_laid_21 : decode cX6_laid 21 = .ok (.getfield 29, 3) := by decide +kernel
theorem dX6_laid_24 : decode cX6_laid 24 = .ok (.bipush 25, 2) := by decide +kernel
theorem dX6_laid_26 : decode cX6_laid 26 = .ok (.iload_n 1, 1) := by decide +kernel
theorem dX6_laid_27 : decode cX6_laid 27 = .ok (.imul, 1) := by decide +kernel
theorem dX6_laid_28 : decode cX6_laid 28 = .ok (.bipush 8, 2) := by decide +kernel
theorem dX6_laid_30 : decode cX6_laid 30 = .ok (.iadd, 1) := by decide +kernel
theorem dX6_laid_31 : decode cX6_laid 31 = .ok (.iload_n 2, 1) := by decide +kernel
theorem dX6_laid_32 : decode cX6_laid 32 = .ok (.iadd, 1) := by decide +kernel
theorem dX6_laid_33 : decode cX6_laid 33 = .ok (.iload_n 2, 1) := by decide +kernel
theorem dX6_laid_34 : decode cX6_laid 34 = .ok (.aload_n 0, 1) := by decide +kernel
theorem dX6_laid_35 : decode cX6_laid 35 = .ok (.getfield 23, 3) := by decide +kernel
theorem dX6_laid_38 : decode cX6_laid 38 = .ok (.iconst 0, 1) := by decide +kernel
theorem dX6_laid_39 : decode cX6_laid 39 = .ok (.iaload, 1) := by decide +kernel
theorem dX6_laid_40 : decode cX6_laid 40 = .ok (.if_icmp .ge 16, 3) := by decide +kernel
theorem dX6_laid_43 : decode cX6_laid 43 = .ok (.aload_n 0, 1) := by decide +kernel
theorem dX6_laid_44 : decode cX6_laid 44 = .ok (.getfield 26, 3) := by decide +kernel
theorem dX6_laid_47 : decode cX6_laid 47 = .ok (.iconst 3, 1) := by decide +kernel
theorem dX6_laid_48 : decode cX6_laid 48 = .ok (.iload_n 2, 1) := by decide +kernel
theorem dX6_laid_49 : decode cX6_laid 49 = .ok (.imul, 1) := by decide +kernel
theorem dX6_laid_50 : decode cX6_laid 50 = .ok (.iconst 2, 1) := by decide +kernel
theorem dX6_laid_51 : decode cX6_laid 51 = .ok (.iadd, 1) := by decide +kernel
theorem dX6_laid_52 : decode cX6_laid 52 = .ok (.iaload, 1) := by decide +kernel
theorem dX6_laid_53 : decode cX6_laid 53 = .ok (.goto 4, 3) := by decide +kernel
theorem dX6_laid_56 : decode cX6_laid 56 = .ok (.iconst 0, 1) := by decide +kernel
theorem dX6_laid_57 : decode cX6_laid 57 = .ok (.iastore, 1) := by decide +kernel
theorem dX6_laid_58 : decode cX6_laid 58 = .ok (.iinc 2 1, 3) := by decide +kernel
theorem dX6_laid_61 : decode cX6_laid 61 = .ok (.goto (-59), 3) := by decide +kernel
theorem dX6_laid_64 : decode cX6_laid 64 = .ok (.iconst 0, 1) := by decide +kernel
theorem dX6_laid_65 : decode cX6_laid 65 = .ok (.istore_n 2, 1) := by decide +kernel
theorem dX6_laid_66 : decode cX6_laid 66 = .ok (.iload_n 2, 1) := by decide +kernel
theorem dX6_laid_67 : decode cX6_laid 67 = .ok (.iconst 4, 1) := by decide +kernel
theorem dX6_laid_68 : decode cX6_laid 68 = .ok (.if_icmp .ge 40, 3) := by decide +kernel
theorem dX6_laid_71 : decode cX6_laid 71 = .ok (.aload_n 0, 1) := by decide +kernel
theorem dX6_laid_72 : decode cX6_laid 72 = .ok (.getfield 29, 3) := by decide +kernel
theorem dX6_laid_75 : decode cX6_laid 75 = .ok (.bipush 25, 2) := by decide +kernel
theorem dX6_laid_77 : decode cX6_laid 77 = .ok (.iload_n 1, 1) := by decide +kernel
theorem dX6_laid_78 : decode cX6_laid 78 = .ok (.imul, 1) := by decide +kernel
theorem dX6_laid_79 : decode cX6_laid 79 = .ok (.bipush 16, 2) := by decide +kernel
theorem dX6_laid_81 : decode cX6_laid 81 = .ok (.iadd, 1) := by decide +kernel
theorem dX6_laid_82 : decode cX6_laid 82 = .ok (.iload_n 2, 1) := by decide +kernel
theorem dX6_laid_83 : decode cX6_laid 83 = .ok (.iadd, 1) := by decide +kernel
theorem dX6_laid_84 : decode cX6_laid 84 = .ok (.iconst 0, 1) := by decide +kernel
theorem dX6_laid_85 : decode cX6_laid 85 = .ok (.iastore, 1) := by decide +kernel
theorem dX6_laid_86 : decode cX6_laid 86 = .ok (.aload_n 0, 1) := by decide +kernel
theorem dX6_laid_87 : decode cX6_laid 87 = .ok (.getfield 29, 3) := by decide +kernel
theorem dX6_laid_90 : decode cX6_laid 90 = .ok (.bipush 25, 2) := by decide +kernel
theorem dX6_laid_92 : decode cX6_laid 92 = .ok (.iload_n 1, 1) := by decide +kernel
theorem dX6_laid_93 : decode cX6_laid 93 = .ok (.imul, 1) := by decide +kernel
theorem dX6_laid_94 : decode cX6_laid 94 = .ok (.bipush 20, 2) := by decide +kernel
theorem dX6_laid_96 : decode cX6_laid 96 = .ok (.iadd, 1) := by decide +kernel
theorem dX6_laid_97 : decode cX6_laid 97 = .ok (.iload_n 2, 1) := by decide +kernel
theorem dX6_laid_98 : decode cX6_laid 98 = .ok (.iadd, 1) := by decide +kernel
theorem dX6_laid_99 : decode cX6_laid 99 = .ok (.bipush (-4), 2) := by decide +kernel
theorem dX6_laid_101 : decode cX6_laid 101 = .ok (.iastore, 1) := by decide +kernel
theorem dX6_laid_102 : decode cX6_laid 102 = .ok (.iinc 2 1, 3) := by decide +kernel
theorem dX6_laid_105 : decode cX6_laid 105 = .ok (.goto (-39), 3) := by decide +kernel
theorem dX6_laid_108 : decode cX6_laid 108 = .ok (.aload_n 0, 1) := by decide +kernel
theorem dX6_laid_109 : decode cX6_laid 109 = .ok (.getfield 29, 3) := by decide +kernel
theorem dX6_laid_112 : decode cX6_laid 112 = .ok (.bipush 25, 2) := by decide +kernel
theorem dX6_laid_114 : decode cX6_laid 114 = .ok (.iload_n 1, 1) := by decide +kernel
theorem dX6_laid_115 : decode cX6_laid 115 = .ok (.imul, 1) := by decide +kernel
theorem dX6_laid_116 : decode cX6_laid 116 = .ok (.bipush 24, 2) := by decide +kernel
theorem dX6_laid_118 : decode cX6_laid 118 = .ok (.iadd, 1) := by decide +kernel
theorem dX6_laid_119 : decode cX6_laid 119 = .ok (.iconst 0, 1) := by decide +kernel
theorem dX6_laid_120 : decode cX6_laid 120 = .ok (.iastore, 1) := by decide +kernel
theorem dX6_laid_121 : decode cX6_laid 121 = .ok (.return_, 1) := by decide +kernel
def rmX6_laid : Room := { frames := 0, cells := 0, slots := 0, locals := 0 }
def fX6_laid_57 (k2 : Int32 → xm → Option (xm)) (x1 : Int32) (x2 : Int32) (t1 : Int32) (t2 : Int32) (M : xm) : Option (xm) := xchk t1 100 (xl (up M 67 (t1 : Int32).toNatClampNeg t2) (fun M1 => (k2 (x2 + 1) M1)))
def fX6_laid_66 (x1 : Int32) : Nat → Int32 → xm → Option (xm)
  | 0, _, _ => none
  | n + 1, x2, M => (if (4 : Int32) ≤ x2 then xchk ((25 * x1) + 24) 100 (xl (up M 67 (((25 * x1) + 24) : Int32).toNatClampNeg 0) (fun M2 => (some M2))) else xchk (((25 * x1) + 16) + x2) 100 (xl (up M 67 ((((25 * x1) + 16) + x2) : Int32).toNatClampNeg 0) (fun M3 => xchk (((25 * x1) + 20) + x2) 100 (xl (up M3 67 ((((25 * x1) + 20) + x2) : Int32).toNatClampNeg (-4)) (fun M4 => (fX6_laid_66 x1 n (x2 + 1) M4))))))
def fX6_laid_2 (x1 : Int32) : Nat → Int32 → xm → Option (xm)
  | 0, _, _ => none
  | n + 1, x2, M => (if (8 : Int32) ≤ x2 then (fX6_laid_66 x1 xfuel 0 M) else xchk ((25 * x1) + x2) 100 (xl (up M 67 (((25 * x1) + x2) : Int32).toNatClampNeg 0) (fun M5 => xchk 0 2 ((if (M5.1 65 (0 : Int32).toNatClampNeg) ≤ x2 then (fX6_laid_57 (fun z0 z1 => fX6_laid_2 x1 n z0 z1) x1 x2 (((25 * x1) + 8) + x2) 0 M5) else xchk ((3 * x2) + 2) 48 ((fX6_laid_57 (fun z0 z1 => fX6_laid_2 x1 n z0 z1) x1 x2 (((25 * x1) + 8) + x2) (M5.1 66 (((3 * x2) + 2)).toNatClampNeg) M5)))))))
def fX6_laid (x1 : Int32) (M : xm) : Option (xm) := (fX6_laid_2 x1 xfuel 0 M)
section
variable {p : Program} {l : Launch} {e : Env} {s : State} {m : MethodId} {args : Array Value} {below : List Frame} {meth : Method} {c : Code} {D : va_G} {cs : Nat → ClassId} {S : List Nat} {ad : Nat → Nat}
theorem bX6_laid_57 (Z : CX p s m args meth c cX6_laid 3 RX6 none D cs (xA S ad) S ad) (hS : xalm S) {k2 : Int32 → xm → Option (xm)} (x1 : Int32) (x2 : Int32) (t1 : Int32) (t2 : Int32) (M : xm) (hk2 : ∀ (x2 : Int32) (M : xm), XJ p l e rmX6_laid s m args below meth c D cs (xA S ad) S ad 3 (XRm below args s D cs S ad) 2 [(0, .ref (ad 60)), (1, .int x1), (2, .int x2)] [] M (k2 x2 M)) : XJ p l e rmX6_laid s m args below meth c D cs (xA S ad) S ad 3 (XRm below args s D cs S ad) 57 [(0, .ref (ad 60)), (1, .int x1), (2, .int x2)] [.int t2, .int t1, .ref (ad 67)] M (fX6_laid_57 k2 x1 x2 t1 t2 M) := by
  unfold fX6_laid_57
  refine xj_iast Z (hS 67 (by decide) (by decide)) rfl dX6_laid_57 (fun M1 _ => ?_)
  refine xj_iinc Z 2 (x2 + 1) (lv' := [(2, .int (x2 + 1)), (0, .ref (ad 60)), (1, .int x1)]) dX6_laid_58 rfl rfl (by decide) rfl ?_
  refine xj_goto Z 2 dX6_laid_61 (by decide) ?_
  refine xj_sub [1, 2, 0] (lv' := [(0, .ref (ad 60)), (1, .int x1), (2, .int (x2 + 1))]) rfl ?_
  exact hk2 (x2 + 1) M1
theorem bX6_laid_66 (Z : CX p s m args meth c cX6_laid 3 RX6 none D cs (xA S ad) S ad) (hS : xalm S) (x1 : Int32) : ∀ (n : Nat) (x2 : Int32) (M : xm), XJ p l e rmX6_laid s m args below meth c D cs (xA S ad) S ad 3 (XRm below args s D cs S ad) 66 [(0, .ref (ad 60)), (1, .int x1), (2, .int x2)] [] M (fX6_laid_66 x1 n x2 M) := by
  intro n
  induction n with
  | zero => intros; exact xj_none
  | succ n ih =>
    intro x2 M
    rw [fX6_laid_66]
    refine xj_iload_n Z 2 dX6_laid_66 rfl rfl ?_
    refine xj_iconst Z 4 dX6_laid_67 (by decide) ?_
    refine xj_icmp_ge Z 108 dX6_laid_68 (by decide) (fun _ => ?_) (fun _ => ?_)
    · refine xj_aload_n Z 0 dX6_laid_108 rfl rfl ?_
      refine xg_X6_29 Z (hS 60 (by decide) (by decide)) dX6_laid_109 ?_
      refine xj_bipush Z 25 dX6_laid_112 (by decide) ?_
      refine xj_iload_n Z 1 dX6_laid_114 rfl rfl ?_
      refine xj_imul Z dX6_laid_115 ?_
      refine xj_bipush Z 24 dX6_laid_116 (by decide) ?_
      refine xj_iadd Z dX6_laid_118 ?_
      refine xj_iconst Z 0 dX6_laid_119 (by decide) ?_
      refine xj_iast Z (hS 67 (by decide) (by decide)) rfl dX6_laid_120 (fun M2 _ => ?_)
      exact xj_vret Z dX6_laid_121
    · refine xj_aload_n Z 0 dX6_laid_71 rfl rfl ?_
      refine xg_X6_29 Z (hS 60 (by decide) (by decide)) dX6_laid_72 ?_
      refine xj_bipush Z 25 dX6_laid_75 (by decide) ?_
      refine xj_iload_n Z 1 dX6_laid_77 rfl rfl ?_
      refine xj_imul Z dX6_laid_78 ?_
      refine xj_bipush Z 16 dX6_laid_79 (by decide) ?_
      refine xj_iadd Z dX6_laid_81 ?_
      refine xj_iload_n Z 2 dX6_laid_82 rfl rfl ?_
      refine xj_iadd Z dX6_laid_83 ?_
      refine xj_iconst Z 0 dX6_laid_84 (by decide) ?_
      refine xj_iast Z (hS 67 (by decide) (by decide)) rfl dX6_laid_85 (fun M3 _ => ?_)
      refine xj_aload_n Z 0 dX6_laid_86 rfl rfl ?_
      refine xg_X6_29 Z (hS 60 (by decide) (by decide)) dX6_laid_87 ?_
      refine xj_bipush Z 25 dX6_laid_90 (by decide) ?_
      refine xj_iload_n Z 1 dX6_laid_92 rfl rfl ?_
      refine xj_imul Z dX6_laid_93 ?_
      refine xj_bipush Z 20 dX6_laid_94 (by decide) ?_
      refine xj_iadd Z dX6_laid_96 ?_
      refine xj_iload_n Z 2 dX6_laid_97 rfl rfl ?_
      refine xj_iadd Z dX6_laid_98 ?_
      refine xj_bipush Z (-4) dX6_laid_99 (by decide) ?_
      refine xj_iast Z (hS 67 (by decide) (by decide)) rfl dX6_laid_101 (fun M4 _ => ?_)
      refine xj_iinc Z 2 (x2 + 1) (lv' := [(2, .int (x2 + 1)), (0, .ref (ad 60)), (1, .int x1)]) dX6_laid_102 rfl rfl (by decide) rfl ?_
      refine xj_goto Z 66 dX6_laid_105 (by decide) ?_
      refine xj_sub [1, 2, 0] (lv' := [(0, .ref (ad 60)), (1, .int x1), (2, .int (x2 + 1))]) rfl ?_
      exact ih (x2 + 1) M4
theorem bX6_laid_2 (Z : CX p s m args meth c cX6_laid 3 RX6 none D cs (xA S ad) S ad) (hS : xalm S) (x1 : Int32) : ∀ (n : Nat) (x2 : Int32) (M : xm), XJ p l e rmX6_laid s m args below meth c D cs (xA S ad) S ad 3 (XRm below args s D cs S ad) 2 [(0, .ref (ad 60)), (1, .int x1), (2, .int x2)] [] M (fX6_laid_2 x1 n x2 M) := by
  intro n
  induction n with
  | zero => intros; exact xj_none
  | succ n ih =>
    intro x2 M
    rw [fX6_laid_2]
    refine xj_iload_n Z 2 dX6_laid_2 rfl rfl ?_
    refine xj_bipush Z 8 dX6_laid_3 (by decide) ?_
    refine xj_icmp_ge Z 64 dX6_laid_5 (by decide) (fun _ => ?_) (fun _ => ?_)
    · refine xj_iconst Z 0 dX6_laid_64 (by decide) ?_
      refine xj_istore_n Z (lv' := [(2, .int 0), (0, .ref (ad 60)), (1, .int x1)]) dX6_laid_65 rfl (by decide) rfl ?_
      refine xj_sub [1, 2, 0] (lv' := [(0, .ref (ad 60)), (1, .int x1), (2, .int 0)]) rfl ?_
      exact bX6_laid_66 Z hS x1 xfuel 0 M
    · refine xj_aload_n Z 0 dX6_laid_8 rfl rfl ?_
      refine xg_X6_29 Z (hS 60 (by decide) (by decide)) dX6_laid_9 ?_
      refine xj_bipush Z 25 dX6_laid_12 (by decide) ?_
      refine xj_iload_n Z 1 dX6_laid_14 rfl rfl ?_
      refine xj_imul Z dX6_laid_15 ?_
      refine xj_iload_n Z 2 dX6_laid_16 rfl rfl ?_
      refine xj_iadd Z dX6_laid_17 ?_
      refine xj_iconst Z 0 dX6_laid_18 (by decide) ?_
      refine xj_iast Z (hS 67 (by decide) (by decide)) rfl dX6_laid_19 (fun M5 _ => ?_)
      refine xj_aload_n Z 0 dX6_laid_20 rfl rfl ?_
      refine xg_X6_29 Z (hS 60 (by decide) (by decide)) dX6_laid_21 ?_
      refine xj_bipush Z 25 dX6_laid_24 (by decide) ?_
      refine xj_iload_n Z 1 dX6_laid_26 rfl rfl ?_
      refine xj_imul Z dX6_laid_27 ?_
      refine xj_bipush Z 8 dX6_laid_28 (by decide) ?_
      refine xj_iadd Z dX6_laid_30 ?_
      refine xj_iload_n Z 2 dX6_laid_31 rfl rfl ?_
      refine xj_iadd Z dX6_laid_32 ?_
      refine xj_iload_n Z 2 dX6_laid_33 rfl rfl ?_
      refine xj_aload_n Z 0 dX6_laid_34 rfl rfl ?_
      refine xg_X6_23 Z (hS 60 (by decide) (by decide)) dX6_laid_35 ?_
      refine xj_iconst Z 0 dX6_laid_38 (by decide) ?_
      refine xj_iald Z (hS 65 (by decide) (by decide)) rfl dX6_laid_39 (fun _ => ?_)
      refine xj_icmp_ge Z 56 dX6_laid_40 (by decide) (fun _ => ?_) (fun _ => ?_)
      · refine xj_iconst Z 0 dX6_laid_56 (by decide) ?_
        exact bX6_laid_57 Z hS x1 x2 (((25 * x1) + 8) + x2) 0 M5 ih
      · refine xj_aload_n Z 0 dX6_laid_43 rfl rfl ?_
        refine xg_X6_26 Z (hS 60 (by decide) (by decide)) dX6_laid_44 ?_
        refine xj_iconst Z 3 dX6_laid_47 (by decide) ?_
        refine xj_iload_n Z 2 dX6_laid_48 rfl rfl ?_
        refine xj_imul Z dX6_laid_49 ?_
        refine xj_iconst Z 2 dX6_laid_50 (by decide) ?_
        refine xj_iadd Z dX6_laid_51 ?_
        refine xj_iald Z (hS 66 (by decide) (by decide)) rfl dX6_laid_52 (fun _ => ?_)
        refine xj_goto Z 57 dX6_laid_53 (by decide) ?_
        exact bX6_laid_57 Z hS x1 x2 (((25 * x1) + 8) + x2) (M5.1 66 (((3 * x2) + 2)).toNatClampNeg) M5 ih
end
theorem kX6_laid (l : Launch) (D : va_G) (cs : Nat → ClassId) (S : List Nat) (ad : Nat → Nat) (hd : xdist S ad) (hS : xalm S) (x1 : Int32) (M : xm) : ∀ r, fX6_laid x1 M = some r → Met l yX6_laid [Cond.code yX6_laid cX6_laid 3 none] rmX6_laid (XPc D cs S ad [.ref (ad 60), .int x1] M) (XQv D cs S ad r) 0 0 (xA S ad) := by
  refine xm_m (own := RX6) (lv := [(0, .ref (ad 60)), (1, .int x1)]) (by decide +kernel) rfl rfl (Nat.le_of_ble_eq_true rfl) hd (fun p e s m args below meth c Z => ?_)
  unfold fX6_laid
  refine xj_iconst Z 0 dX6_laid_0 (by decide) ?_
  refine xj_istore_n Z (lv' := [(2, .int 0), (0, .ref (ad 60)), (1, .int x1)]) dX6_laid_1 rfl (by decide) rfl ?_
  refine xj_sub [1, 2, 0] (lv' := [(0, .ref (ad 60)), (1, .int x1), (2, .int 0)]) rfl ?_
  exact bX6_laid_2 Z hS x1 xfuel 0 M
/-! WalkingLawModel.takes()V -/
theorem dX6_takes_0 : decode cX6_takes 0 = .ok (.aload_n 0, 1) := by decide +kernel
theorem dX6_takes_1 : decode cX6_takes 1 = .ok (.getfield 17, 3) := by decide +kernel
theorem dX6_takes_4 : decode cX6_takes 4 = .ok (.iconst 0, 1) := by decide +kernel
theorem dX6_takes_5 : decode cX6_takes 5 = .ok (.aload_n 0, 1) := by decide +kernel
theorem dX6_takes_6 : decode cX6_takes 6 = .ok (.getfield 17, 3) := by decide +kernel
theorem dX6_takes_9 : decode cX6_takes 9 = .ok (.iconst 1, 1) := by decide +kernel
theorem dX6_takes_10 : decode cX6_takes 10 = .ok (.iaload, 1) := by decide +kernel
theorem dX6_takes_11 : decode cX6_takes 11 = .ok (.iastore, 1) := by decide +kernel
theorem dX6_takes_12 : decode cX6_takes 12 = .ok (.aload_n 0, 1) := by decide +kernel
theorem dX6_takes_13 : decode cX6_takes 13 = .ok (.getfield 23, 3) := by decide +kernel
theorem dX6_takes_16 : decode cX6_takes 16 = .ok (.iconst 0, 1) := by decide +kernel
theorem dX6_takes_17 : decode cX6_takes 17 = .ok (.aload_n 0, 1) := by decide +kernel
theorem dX6_takes_18 : decode cX6_takes 18 = .ok (.getfield 23, 3) := by decide +kernel
theorem dX6_takes_21 : decode cX6_takes 21 = .ok (.iconst 1, 1) := by decide +kernel
theorem dX6_takes_22 : decode cX6_takes 22 = .ok (.iaload, 1) := by decide +kernel
theorem dX6_takes_23 : decode cX6_takes 23 = .ok (.iastore, 1) := by decide +kernel
theorem dX6_takes_24 : decode cX6_takes 24 = .ok (.aload_n 0, 1) := by decide +kernel
theorem dX6_takes_25 : decode cX6_takes 25 = .ok (.getfield 13, 3) := by decide +kernel
theorem dX6_takes_28 : decode cX6_takes 28 = .ok (.iconst 0, 1) := by decide +kernel
theorem dX6_takes_29 : decode cX6_takes 29 = .ok (.aload_n 0, 1) := by decide +kernel
theorem dX6_takes_30 : decode cX6_takes 30 = .ok (.getfield 13, 3) := by decide +kernel
theorem dX6_takes_33 : decode cX6_takes 33 = .ok (.iconst 2, 1) := by decide +kernel
theorem dX6_takes_34 : decode cX6_takes 34 = .ok (.iaload, 1) := by decide +kernel
theorem dX6_takes_35 : decode cX6_takes 35 = .ok (.iastore, 1) := by decide +kernel
theorem dX6_takes_36 : decode cX6_takes 36 = .ok (.aload_n 0, 1) := by decide +kernel
theorem dX6_takes_37 : decode cX6_takes 37 = .ok (.getfield 13, 3) := by decide +kernel
theorem dX6_takes_40 : decode cX6_takes 40 = .ok (.iconst 1, 1) := by decide +kernel
theorem dX6_takes_41 : decode cX6_takes 41 = .ok (.aload_n 0, 1) := by decide +kernel
theorem dX6_takes_42 : decode cX6_takes 42 = .ok (.getfield 13, 3) := by decide +kernel
theorem dX6_takes_45 : decode cX6_takes 45 = .ok (.iconst 3, 1) := by decide +kernel
theorem dX6_takes_46 : decode cX6_takes 46 = .ok (.iaload, 1) := by decide +kernel
theorem dX6_takes_47 : decode cX6_takes 47 = .ok (.iastore, 1) := by decide +kernel
theorem dX6_takes_48 : decode cX6_takes 48 = .ok (.iconst 0, 1) := by decide +kernel
theorem dX6_takes_49 : decode cX6_takes 49 = .ok (.istore_n 1, 1) := by decide +kernel
theorem dX6_takes_50 : decode cX6_takes 50 = .ok (.iload_n 1, 1) := by decide +kernel
theorem dX6_takes_51 : decode cX6_takes 51 = .ok (.bipush 24, 2) := by decide +kernel
theorem dX6_takes_53 : decode cX6_takes 53 = .ok (.if_icmp .ge 45, 3) := by decide +kernel
theorem dX6_takes_56 : decode cX6_takes 56 = .ok (.aload_n 0, 1) := by decide +kernel
theorem dX6_takes_57 : decode cX6_takes 57 = .ok (.getfield 26, 3) := by decide +kernel
theorem dX6_takes_60 : decode cX6_takes 60 = .ok (.iload_n 1, 1) := by decide +kernel
theorem dX6_takes_61 : decode cX6_takes 61 = .ok (.aload_n 0, 1) := by decide +kernel
theorem dX6_takes_62 : decode cX6_takes 62 = .ok (.getfield 26, 3) := by decide +kernel
theorem dX6_takes_65 : decode cX6_takes 65 = .ok (.bipush 24, 2) := by decide +kernel
theorem dX6_takes_67 : decode cX6_takes 67 = .ok (.iload_n 1, 1) := by decide +kernel
theorem dX6_takes_68 : decode cX6_takes 68 = .ok (.iadd, 1) := by decide +kernel
theorem dX6_takes_69 : decode cX6_takes 69 = .ok (.iaload, 1) := by decide +kernel
theorem dX6_takes_70 : decode cX6_takes 70 = .ok (.iastore, 1) := by decide +kernel
theorem dX6_takes_71 : decode cX6_takes 71 = .ok (.iload_n 1, 1) := by decide +kernel
theorem dX6_takes_72 : decode cX6_takes 72 = .ok (.bipush 18, 2) := by decide +kernel
theorem dX6_takes_74 : decode cX6_takes 74 = .ok (.if_icmp .ge 18, 3) := by decide +kernel
theorem dX6_takes_77 : decode cX6_takes 77 = .ok (.aload_n 0, 1) := by decide +kernel
theorem dX6_takes_78 : decode cX6_takes 78 = .ok (.getfield 20, 3) := by decide +kernel
theorem dX6_takes_81 : decode cX6_takes 81 = .ok (.iload_n 1, 1) := by decide +kernel
theorem dX6_takes_82 : decode cX6_takes 82 = .ok (.aload_n 0, 1) := by decide +kernel
theorem dX6_takes_83 : decode cX6_takes 83 = .ok (.getfield 20, 3) := by decide +kernel
theorem dX6_takes_86 : decode cX6_takes 86 = .ok (.bipush 18, 2) := by decide +kernel
theorem dX6_takes_88 : decode cX6_takes 88 = .ok (.iload_n 1, 1) := by decide +kernel
theorem dX6_takes_89 : decode cX6_takes 89 = .ok (.iadd, 1) := by decide +kernel
theorem dX6_takes_90 : decode cX6_takes 90 = .ok (.iaload, 1) := by decide +kernel
theorem dX6_takes_91 : decode cX6_takes 91 = .ok (.iastore, 1) := by decide +kernel
theorem dX6_takes_92 : decode cX6_takes 92 = .ok (.iinc 1 1, 3) := by decide +kernel
theorem dX6_takes_95 : decode cX6_takes 95 = .ok (.goto (-45), 3) := by decide +kernel
theorem dX6_takes_98 : decode cX6_takes 98 = .ok (.aload_n 0, 1) := by decide +kernel
theorem dX6_takes_99 : decode cX6_takes 99 = .ok (.iconst 0, 1) := by decide +kernel
theorem dX6_takes_100 : decode cX6_takes 100 = .ok (.invokevirtual 85, 3) := by decide +kernel
theorem dX6_takes_103 : decode cX6_takes 103 = .ok (.aload_n 0, 1) := by decide +kernel
theorem dX6_takes_104 : decode cX6_takes 104 = .ok (.iconst 0, 1) := by decide +kernel
theorem dX6_takes_105 : decode cX6_takes 105 = .ok (.putfield 89, 3) := by decide +kernel
theorem dX6_takes_108 : decode cX6_takes 108 = .ok (.aload_n 0, 1) := by decide +kernel
theorem dX6_takes_109 : decode cX6_takes 109 = .ok (.iconst 0, 1) := by decide +kernel
theorem dX6_takes_110 : decode cX6_takes 110 = .ok (.putfield 92, 3) := by decide +kernel
theorem dX6_takes_113 : decode cX6_takes 113 = .ok (.return_, 1) := by decide +kernel
def rmX6_takes : Room := { frames := 1, cells := 0, slots := 0, locals := 22 }
def fX6_takes_92 (k50 : Int32 → xm → Option (xm)) (x1 : Int32) (M : xm) : Option (xm) := (k50 (x1 + 1) M)
def fX6_takes_50 : Nat → Int32 → xm → Option (xm)
  | 0, _, _ => none
  | n + 1, x1, M => (if (24 : Int32) ≤ x1 then (fX6_laid 0 M).bind (fun M1 => xl (up M1 60 10 0) (fun M2 => xl (up M2 60 9 0) (fun M3 => (some M3)))) else xchk (24 + x1) 48 (xchk x1 48 (xl (up M 66 (x1 : Int32).toNatClampNeg (M.1 66 ((24 + x1)).toNatClampNeg)) (fun M4 => (if (18 : Int32) ≤ x1 then (fX6_takes_92 (fun z0 z1 => fX6_takes_50 n z0 z1) x1 M4) else xchk (18 + x1) 36 (xchk x1 36 (xl (up M4 64 (x1 : Int32).toNatClampNeg (M4.1 64 ((18 + x1)).toNatClampNeg)) (fun M5 => (fX6_takes_92 (fun z0 z1 => fX6_takes_50 n z0 z1) x1 M5)))))))))
def fX6_takes (M : xm) : Option (xm) := xchk 1 2 (xchk 0 2 (xl (up M 63 (0 : Int32).toNatClampNeg (M.1 63 (1 : Int32).toNatClampNeg)) (fun M6 => xchk 1 2 (xchk 0 2 (xl (up M6 65 (0 : Int32).toNatClampNeg (M6.1 65 (1 : Int32).toNatClampNeg)) (fun M7 => xchk 2 4 (xchk 0 4 (xl (up M7 62 (0 : Int32).toNatClampNeg (M7.1 62 (2 : Int32).toNatClampNeg)) (fun M8 => xchk 3 4 (xchk 1 4 (xl (up M8 62 (1 : Int32).toNatClampNeg (M8.1 62 (3 : Int32).toNatClampNeg)) (fun M9 => (fX6_takes_50 xfuel 0 M9)))))))))))))
section
variable {p : Program} {l : Launch} {e : Env} {s : State} {m : MethodId} {args : Array Value} {below : List Frame} {meth : Method} {c : Code} {D : va_G} {cs : Nat → ClassId} {S : List Nat} {ad : Nat → Nat}
theorem bX6_takes_92 (Z : CX p s m args meth c cX6_takes 2 RX6 none D cs (xA S ad) S ad) (hS : xalm S) {k50 : Int32 → xm → Option (xm)} (x1 : Int32) (M : xm) (hk50 : ∀ (x1 : Int32) (M : xm), XJ p l e rmX6_takes s m args below meth c D cs (xA S ad) S ad 2 (XRm below args s D cs S ad) 50 [(0, .ref (ad 60)), (1, .int x1)] [] M (k50 x1 M)) : XJ p l e rmX6_takes s m args below meth c D cs (xA S ad) S ad 2 (XRm below args s D cs S ad) 92 [(0, .ref (ad 60)), (1, .int x1)] [] M (fX6_takes_92 k50 x1 M) := by
  unfold fX6_takes_92
  refine xj_iinc Z 1 (x1 + 1) (lv' := [(1, .int (x1 + 1)), (0, .ref (ad 60))]) dX6_takes_92 rfl rfl (by decide) rfl ?_
  refine xj_goto Z 50 dX6_takes_95 (by decide) ?_
  refine xj_sub [1, 0] (lv' := [(0, .ref (ad 60)), (1, .int (x1 + 1))]) rfl ?_
  exact hk50 (x1 + 1) M
theorem bX6_takes_50 (Z : CX p s m args meth c cX6_takes 2 RX6 none D cs (xA S ad) S ad) (hS : xalm S) : ∀ (n : Nat) (x1 : Int32) (M : xm), XJ p l e rmX6_takes s m args below meth c D cs (xA S ad) S ad 2 (XRm below args s D cs S ad) 50 [(0, .ref (ad 60)), (1, .int x1)] [] M (fX6_takes_50 n x1 M) := by
  intro n
  induction n with
  | zero => intros; exact xj_none
  | succ n ih =>
    intro x1 M
    rw [fX6_takes_50]
    refine xj_iload_n Z 1 dX6_takes_50 rfl rfl ?_
    refine xj_bipush Z 24 dX6_takes_51 (by decide) ?_
    refine xj_icmp_ge Z 98 dX6_takes_53 (by decide) (fun _ => ?_) (fun _ => ?_)
    · refine xj_aload_n Z 0 dX6_takes_98 rfl rfl ?_
      refine xj_iconst Z 0 dX6_takes_99 (by decide) ?_
      refine xj_callVm Z (As := [.int 0]) (kX6_laid l D cs S ad Z.2.2.2.2.2.1.dist hS 0 M) gw_X6_85 (hS 60 (by decide) (by decide)) rfl rfl (n := 1) (by decide +kernel) rfl ⟨rfl, rfl⟩ (by decide) rfl (Nat.le_of_ble_eq_true rfl) dX6_takes_100 (fun M1 => ?_)
      refine xj_aload_n Z 0 dX6_takes_103 rfl rfl ?_
      refine xj_iconst Z 0 dX6_takes_104 (by decide) ?_
      refine xp_X6_89 Z (hS 60 (by decide) (by decide)) dX6_takes_105 (fun M2 _ => ?_)
      refine xj_aload_n Z 0 dX6_takes_108 rfl rfl ?_
      refine xj_iconst Z 0 dX6_takes_109 (by decide) ?_
      refine xp_X6_92 Z (hS 60 (by decide) (by decide)) dX6_takes_110 (fun M3 _ => ?_)
      exact xj_vret Z dX6_takes_113
    · refine xj_aload_n Z 0 dX6_takes_56 rfl rfl ?_
      refine xg_X6_26 Z (hS 60 (by decide) (by decide)) dX6_takes_57 ?_
      refine xj_iload_n Z 1 dX6_takes_60 rfl rfl ?_
      refine xj_aload_n Z 0 dX6_takes_61 rfl rfl ?_
      refine xg_X6_26 Z (hS 60 (by decide) (by decide)) dX6_takes_62 ?_
      refine xj_bipush Z 24 dX6_takes_65 (by decide) ?_
      refine xj_iload_n Z 1 dX6_takes_67 rfl rfl ?_
      refine xj_iadd Z dX6_takes_68 ?_
      refine xj_iald Z (hS 66 (by decide) (by decide)) rfl dX6_takes_69 (fun _ => ?_)
      refine xj_iast Z (hS 66 (by decide) (by decide)) rfl dX6_takes_70 (fun M4 _ => ?_)
      refine xj_iload_n Z 1 dX6_takes_71 rfl rfl ?_
      refine xj_bipush Z 18 dX6_takes_72 (by decide) ?_
      refine xj_icmp_ge Z 92 dX6_takes_74 (by decide) (fun _ => ?_) (fun _ => ?_)
      · exact bX6_takes_92 Z hS x1 M4 ih
      · refine xj_aload_n Z 0 dX6_takes_77 rfl rfl ?_
        refine xg_X6_20 Z (hS 60 (by decide) (by decide)) dX6_takes_78 ?_
        refine xj_iload_n Z 1 dX6_takes_81 rfl rfl ?_
        refine xj_aload_n Z 0 dX6_takes_82 rfl rfl ?_
        refine xg_X6_20 Z (hS 60 (by decide) (by decide)) dX6_takes_83 ?_
        refine xj_bipush Z 18 dX6_takes_86 (by decide) ?_
        refine xj_iload_n Z 1 dX6_takes_88 rfl rfl ?_
        refine xj_iadd Z dX6_takes_89 ?_
        refine xj_iald Z (hS 64 (by decide) (by decide)) rfl dX6_takes_90 (fun _ => ?_)
        refine xj_iast Z (hS 64 (by decide) (by decide)) rfl dX6_takes_91 (fun M5 _ => ?_)
        exact bX6_takes_92 Z hS x1 M5 ih
end
theorem kX6_takes (l : Launch) (D : va_G) (cs : Nat → ClassId) (S : List Nat) (ad : Nat → Nat) (hd : xdist S ad) (hS : xalm S) (M : xm) : ∀ r, fX6_takes M = some r → Met l yX6_takes [Cond.code yX6_takes cX6_takes 2 none] rmX6_takes (XPc D cs S ad [.ref (ad 60)] M) (XQv D cs S ad r) 0 0 (xA S ad) := by
  refine xm_m (own := RX6) (lv := [(0, .ref (ad 60))]) (by decide +kernel) rfl rfl (Nat.le_of_ble_eq_true rfl) hd (fun p e s m args below meth c Z => ?_)
  unfold fX6_takes
  refine xj_aload_n Z 0 dX6_takes_0 rfl rfl ?_
  refine xg_X6_17 Z (hS 60 (by decide) (by decide)) dX6_takes_1 ?_
  refine xj_iconst Z 0 dX6_takes_4 (by decide) ?_
  refine xj_aload_n Z 0 dX6_takes_5 rfl rfl ?_
  refine xg_X6_17 Z (hS 60 (by decide) (by decide)) dX6_takes_6 ?_
  refine xj_iconst Z 1 dX6_takes_9 (by decide) ?_
  refine xj_iald Z (hS 63 (by decide) (by decide)) rfl dX6_takes_10 (fun _ => ?_)
  refine xj_iast Z (hS 63 (by decide) (by decide)) rfl dX6_takes_11 (fun M6 _ => ?_)
  refine xj_aload_n Z 0 dX6_takes_12 rfl rfl ?_
  refine xg_X6_23 Z (hS 60 (by decide) (by decide)) dX6_takes_13 ?_
  refine xj_iconst Z 0 dX6_takes_16 (by decide) ?_
  refine xj_aload_n Z 0 dX6_takes_17 rfl rfl ?_
  refine xg_X6_23 Z (hS 60 (by decide) (by decide)) dX6_takes_18 ?_
  refine xj_iconst Z 1 dX6_takes_21 (by decide) ?_
  refine xj_iald Z (hS 65 (by decide) (by decide)) rfl dX6_takes_22 (fun _ => ?_)
  refine xj_iast Z (hS 65 (by decide) (by decide)) rfl dX6_takes_23 (fun M7 _ => ?_)
  refine xj_aload_n Z 0 dX6_takes_24 rfl rfl ?_
  refine xg_X6_13 Z (hS 60 (by decide) (by decide)) dX6_takes_25 ?_
  refine xj_iconst Z 0 dX6_takes_28 (by decide) ?_
  refine xj_aload_n Z 0 dX6_takes_29 rfl rfl ?_
  refine xg_X6_13 Z (hS 60 (by decide) (by decide)) dX6_takes_30 ?_
  refine xj_iconst Z 2 dX6_takes_33 (by decide) ?_
  refine xj_iald Z (hS 62 (by decide) (by decide)) rfl dX6_takes_34 (fun _ => ?_)
  refine xj_iast Z (hS 62 (by decide) (by decide)) rfl dX6_takes_35 (fun M8 _ => ?_)
  refine xj_aload_n Z 0 dX6_takes_36 rfl rfl ?_
  refine xg_X6_13 Z (hS 60 (by decide) (by decide)) dX6_takes_37 ?_
  refine xj_iconst Z 1 dX6_takes_40 (by decide) ?_
  refine xj_aload_n Z 0 dX6_takes_41 rfl rfl ?_
  refine xg_X6_13 Z (hS 60 (by decide) (by decide)) dX6_takes_42 ?_
  refine xj_iconst Z 3 dX6_takes_45 (by decide) ?_
  refine xj_iald Z (hS 62 (by decide) (by decide)) rfl dX6_takes_46 (fun _ => ?_)
  refine xj_iast Z (hS 62 (by decide) (by decide)) rfl dX6_takes_47 (fun M9 _ => ?_)
  refine xj_iconst Z 0 dX6_takes_48 (by decide) ?_
  refine xj_istore_n Z (lv' := [(1, .int 0), (0, .ref (ad 60))]) dX6_takes_49 rfl (by decide) rfl ?_
  refine xj_sub [1, 0] (lv' := [(0, .ref (ad 60)), (1, .int 0)]) rfl ?_
  exact bX6_takes_50 Z hS xfuel 0 M9
/-! WalkingLawModel.in(JJJ)Z -/
theorem dX6_in_0 : decode cX6_in 0 = .ok (.lload_n 0, 1) := by decide +kernel
theorem dX6_in_1 : decode cX6_in 1 = .ok (.lload_n 2, 1) := by decide +kernel
theorem dX6_in_2 : decode cX6_in 2 = .ok (.lcmp, 1) := by decide +kernel
theorem dX6_in_3 : decode cX6_in 3 = .ok (.ifCond .lt 14, 3) := by decide +kernel
theorem dX6_in_6 : decode cX6_in 6 = .ok (.lload_n 0, 1) := by decide +kernel
theorem dX6_in_7 : decode cX6_in 7 = .ok (.lload 4, 2) := by decide +kernel
theorem dX6_in_9 : decode cX6_in 9 = .ok (.lcmp, 1) := by decide +kernel
theorem dX6_in_10 : decode cX6_in 10 = .ok (.ifCond .gt 7, 3) := by decide +kernel
theorem dX6_in_13 : decode cX6_in 13 = .ok (.iconst 1, 1) := by decide +kernel
theorem dX6_in_14 : decode cX6_in 14 = .ok (.goto 4, 3) := by decide +kernel
theorem dX6_in_17 : decode cX6_in 17 = .ok (.iconst 0, 1) := by decide +kernel
theorem dX6_in_18 : decode cX6_in 18 = .ok (.ireturn, 1) := by decide +kernel
def rmX6_in : Room := { frames := 0, cells := 0, slots := 0, locals := 0 }
def fX6_in_18 (t0 : Int32) (M : xm) : Option (Int32) := (xbo t0 (some t0))
def fX6_in_17 (M : xm) : Option (Int32) := (fX6_in_18 0 M)
def fX6_in (y0 : Int64) (y2 : Int64) (y4 : Int64) (M : xm) : Option (Int32) := (if (lg_cmp y0 y2) < 0 then (fX6_in_17 M) else (if (0 : Int32) < (lg_cmp y0 y4) then (fX6_in_17 M) else (fX6_in_18 1 M)))
section
variable {p : Program} {l : Launch} {e : Env} {s : State} {m : MethodId} {args : Array Value} {below : List Frame} {meth : Method} {c : Code} {D : va_G} {cs : Nat → ClassId} {S : List Nat} {ad : Nat → Nat}
theorem bX6_in_18 (Z : CX p s m args meth c cX6_in 6 RX6 (some .boolean) D cs (xA S ad) S ad) (t0 : Int32) (M : xm) : XJ p l e rmX6_in s m args below meth c D cs (xA S ad) S ad 6 (XRr below args s D cs S ad M) 18 [] [.int t0] M (fX6_in_18 t0 M) := by
  unfold fX6_in_18
  exact xj_zret_r Z dX6_in_18
theorem bX6_in_17 (Z : CX p s m args meth c cX6_in 6 RX6 (some .boolean) D cs (xA S ad) S ad) (M : xm) : XJ p l e rmX6_in s m args below meth c D cs (xA S ad) S ad 6 (XRr below args s D cs S ad M) 17 [] [] M (fX6_in_17 M) := by
  unfold fX6_in_17
  refine xj_iconst Z 0 dX6_in_17 (by decide) ?_
  exact bX6_in_18 Z 0 M
end
theorem kX6_in (l : Launch) (D : va_G) (cs : Nat → ClassId) (S : List Nat) (ad : Nat → Nat) (hd : xdist S ad) (y0 : Int64) (y2 : Int64) (y4 : Int64) (M : xm) : ∀ r, fX6_in y0 y2 y4 M = some r → Met l yX6_in [Cond.code yX6_in cX6_in 6 (some .boolean)] rmX6_in (XPc D cs S ad [.long y0, .long y2, .long y4] M) (XQi D cs S ad r M) 0 0 (xA S ad) := by
  refine xm_r (own := RX6) (lv := [(0, .long y0), (2, .long y2), (4, .long y4)]) (by decide +kernel) rfl rfl (Nat.le_of_ble_eq_true rfl) hd (fun p e s m args below meth c Z => ?_)
  unfold fX6_in
  refine xj_lload_n Z 0 dX6_in_0 rfl rfl ?_
  refine xj_lload_n Z 1 dX6_in_1 rfl rfl ?_
  refine xj_lcmp Z dX6_in_2 ?_
  refine xj_if_lt Z 17 dX6_in_3 (by decide) (fun _ => ?_) (fun _ => ?_)
  · refine xj_sub [] (lv' := []) rfl ?_
    exact bX6_in_17 Z M
  · refine xj_lload_n Z 0 dX6_in_6 rfl rfl ?_
    refine xj_lload Z 2 dX6_in_7 rfl ?_
    refine xj_lcmp Z dX6_in_9 ?_
    refine xj_if_gt Z 17 dX6_in_10 (by decide) (fun _ => ?_) (fun _ => ?_)
    · refine xj_sub [] (lv' := []) rfl ?_
      exact bX6_in_17 Z M
    · refine xj_iconst Z 1 dX6_in_13 (by decide) ?_
      refine xj_goto Z 18 dX6_in_14 (by decide) ?_
      refine xj_sub [] (lv' := []) rfl ?_
      exact bX6_in_18 Z 1 M
/-! WalkingLawModel.write(IJ)I -/
theorem dX6_write_0 : decode cX6_write 0 = .ok (.iload_n 1, 1) := by decide +kernel
theorem dX6_write_1 : decode cX6_write 1 = .ok (.i2l, 1) := by decide +kernel
theorem dX6_write_2 : decode cX6_write 2 = .ok (.lconst 1, 1) := by decide +kernel
theorem dX6_write_3 : decode cX6_write 3 = .ok (.ldc2_w 54, 3) := by decide +kernel
theorem dX6_write_6 : decode cX6_write 6 = .ok (.invokestatic 56, 3) := by decide +kernel
theorem dX6_write_9 : decode cX6_write 9 = .ok (.ifCond .ne 5, 3) := by decide +kernel
theorem dX6_write_12 : decode cX6_write 12 = .ok (.iconst (-1), 1) := by decide +kernel
theorem dX6_write_13 : decode cX6_write 13 = .ok (.ireturn, 1) := by decide +kernel
theorem dX6_write_14 : decode cX6_write 14 = .ok (.aload_n 0, 1) := by decide +kernel
theorem dX6_write_15 : decode cX6_write 15 = .ok (.getfield 60, 3) := by decide +kernel
theorem dX6_write_18 : decode cX6_write 18 = .ok (.iload_n 1, 1) := by decide +kernel
theorem dX6_write_19 : decode cX6_write 19 = .ok (.iadd, 1) := by decide +kernel
theorem dX6_write_20 : decode cX6_write 20 = .ok (.sipush 300, 3) := by decide +kernel
theorem dX6_write_23 : decode cX6_write 23 = .ok (.if_icmp .le 6, 3) := by decide +kernel
theorem dX6_write_26 : decode cX6_write 26 = .ok (.bipush (-3), 2) := by decide +kernel
theorem dX6_write_28 : decode cX6_write 28 = .ok (.ireturn, 1) := by decide +kernel
theorem dX6_write_29 : decode cX6_write 29 = .ok (.iload_n 1, 1) := by decide +kernel
theorem dX6_write_30 : decode cX6_write 30 = .ok (.iconst 1, 1) := by decide +kernel
theorem dX6_write_31 : decode cX6_write 31 = .ok (.isub, 1) := by decide +kernel
theorem dX6_write_32 : decode cX6_write 32 = .ok (.istore 4, 2) := by decide +kernel
theorem dX6_write_34 : decode cX6_write 34 = .ok (.iload 4, 2) := by decide +kernel
theorem dX6_write_36 : decode cX6_write 36 = .ok (.ifCond .lt 37, 3) := by decide +kernel
theorem dX6_write_39 : decode cX6_write 39 = .ok (.aload_n 0, 1) := by decide +kernel
theorem dX6_write_40 : decode cX6_write 40 = .ok (.getfield 7, 3) := by decide +kernel
theorem dX6_write_43 : decode cX6_write 43 = .ok (.aload_n 0, 1) := by decide +kernel
theorem dX6_write_44 : decode cX6_write 44 = .ok (.getfield 60, 3) := by decide +kernel
theorem dX6_write_47 : decode cX6_write 47 = .ok (.lload_n 2, 1) := by decide +kernel
theorem dX6_write_48 : decode cX6_write 48 = .ok (.bipush 8, 2) := by decide +kernel
theorem dX6_write_50 : decode cX6_write 50 = .ok (.iload 4, 2) := by decide +kernel
theorem dX6_write_52 : decode cX6_write 52 = .ok (.imul, 1) := by decide +kernel
theorem dX6_write_53 : decode cX6_write 53 = .ok (.lshr, 1) := by decide +kernel
theorem dX6_write_54 : decode cX6_write 54 = .ok (.l2i, 1) := by decide +kernel
theorem dX6_write_55 : decode cX6_write 55 = .ok (.i2b, 1) := by decide +kernel
theorem dX6_write_56 : decode cX6_write 56 = .ok (.bastore, 1) := by decide +kernel
theorem dX6_write_57 : decode cX6_write 57 = .ok (.aload_n 0, 1) := by decide +kernel
theorem dX6_write_58 : decode cX6_write 58 = .ok (.dup, 1) := by decide +kernel
theorem dX6_write_59 : decode cX6_write 59 = .ok (.getfield 60, 3) := by decide +kernel
theorem dX6_write_62 : decode cX6_write 62 = .ok (.iconst 1, 1) := by decide +kernel
theorem dX6_write_63 : decode cX6_write 63 = .ok (.iadd, 1) := by decide +kernel
theorem dX6_write_64 : decode cX6_write 64 = .ok (.putfield 60, 3) := by decide +kernel
theorem dX6_write_67 : decode cX6_write 67 = .ok (.iinc 4 (-1), 3) := by decide +kernel
theorem dX6_write_70 : decode cX6_write 70 = .ok (.goto (-36), 3) := by decide +kernel
theorem dX6_write_73 : decode cX6_write 73 = .ok (.aload_n 0, 1) := by decide +kernel
theorem dX6_write_74 : decode cX6_write 74 = .ok (.getfield 60, 3) := by decide +kernel
theorem dX6_write_77 : decode cX6_write 77 = .ok (.ireturn, 1) := by decide +kernel
def rmX6_write : Room := { frames := 1, cells := 0, slots := 0, locals := 25 }
def fX6_write_34 (y2 : Int64) : Nat → Int32 → xm → Option (Int32 × xm)
  | 0, _, _ => none
  | n + 1, x4, M => (if x4 < 0 then (some ((M.1 60 0), M)) else xchk (M.1 60 0) 300 (xl (up M 61 ((M.1 60 0) : Int32).toNatClampNeg (vp_nar .byte (Int8.toInt32 (Int32.toInt8 (Int64.toInt32 (y2 >>> (Int32.toInt64 (8 * x4) &&& 63))))))) (fun M1 => xl (up M1 60 0 ((M1.1 60 0) + 1)) (fun M2 => (fX6_write_34 y2 n (x4 + (-1)) M2)))))
def fX6_write (x1 : Int32) (y2 : Int64) (M : xm) : Option (Int32 × xm) := (fX6_in (Int32.toInt64 x1) 1 8 M).bind (fun v3 => (if v3 = 0 then (some ((-1), M)) else (if ((M.1 60 0) + x1) ≤ 300 then xl (x1 - 1) (fun v4 => (fX6_write_34 y2 xfuel v4 M)) else (some ((-3), M)))))
section
variable {p : Program} {l : Launch} {e : Env} {s : State} {m : MethodId} {args : Array Value} {below : List Frame} {meth : Method} {c : Code} {D : va_G} {cs : Nat → ClassId} {S : List Nat} {ad : Nat → Nat}
theorem bX6_write_34 (Z : CX p s m args meth c cX6_write 5 RX6 (some .int) D cs (xA S ad) S ad) (hS : xalm S) (y2 : Int64) : ∀ (n : Nat) (x4 : Int32) (M : xm), XJ p l e rmX6_write s m args below meth c D cs (xA S ad) S ad 5 (XRb below args s D cs S ad) 34 [(0, .ref (ad 60)), (2, .long y2), (4, .int x4)] [] M (fX6_write_34 y2 n x4 M) := by
  intro n
  induction n with
  | zero => intros; exact xj_none
  | succ n ih =>
    intro x4 M
    rw [fX6_write_34]
    refine xj_iload Z 2 dX6_write_34 rfl ?_
    refine xj_if_lt Z 73 dX6_write_36 (by decide) (fun _ => ?_) (fun _ => ?_)
    · refine xj_aload_n Z 0 dX6_write_73 rfl rfl ?_
      refine xg_X6_60 Z (hS 60 (by decide) (by decide)) dX6_write_74 ?_
      exact xj_ret_b Z dX6_write_77
    · refine xj_aload_n Z 0 dX6_write_39 rfl rfl ?_
      refine xg_X6_7 Z (hS 60 (by decide) (by decide)) dX6_write_40 ?_
      refine xj_aload_n Z 0 dX6_write_43 rfl rfl ?_
      refine xg_X6_60 Z (hS 60 (by decide) (by decide)) dX6_write_44 ?_
      refine xj_lload_n Z 1 dX6_write_47 rfl rfl ?_
      refine xj_bipush Z 8 dX6_write_48 (by decide) ?_
      refine xj_iload Z 2 dX6_write_50 rfl ?_
      refine xj_imul Z dX6_write_52 ?_
      refine xj_lshr Z dX6_write_53 ?_
      refine xj_l2i Z dX6_write_54 ?_
      refine xj_i2b Z dX6_write_55 ?_
      refine xj_bast Z (hS 61 (by decide) (by decide)) rfl dX6_write_56 (fun M1 _ => ?_)
      refine xj_aload_n Z 0 dX6_write_57 rfl rfl ?_
      refine xj_dup Z dX6_write_58 rfl ?_
      refine xg_X6_60 Z (hS 60 (by decide) (by decide)) dX6_write_59 ?_
      refine xj_iconst Z 1 dX6_write_62 (by decide) ?_
      refine xj_iadd Z dX6_write_63 ?_
      refine xp_X6_60 Z (hS 60 (by decide) (by decide)) dX6_write_64 (fun M2 _ => ?_)
      refine xj_iinc Z 2 (x4 + (-1)) (lv' := [(4, .int (x4 + (-1))), (0, .ref (ad 60)), (2, .long y2)]) dX6_write_67 rfl rfl (by decide) rfl ?_
      refine xj_goto Z 34 dX6_write_70 (by decide) ?_
      refine xj_sub [1, 2, 0] (lv' := [(0, .ref (ad 60)), (2, .long y2), (4, .int (x4 + (-1)))]) rfl ?_
      exact ih (x4 + (-1)) M2
end
theorem kX6_write (l : Launch) (D : va_G) (cs : Nat → ClassId) (S : List Nat) (ad : Nat → Nat) (hd : xdist S ad) (hS : xalm S) (x1 : Int32) (y2 : Int64) (M : xm) : ∀ r, fX6_write x1 y2 M = some r → Met l yX6_write [Cond.code yX6_write cX6_write 5 (some .int)] rmX6_write (XPc D cs S ad [.ref (ad 60), .int x1, .long y2] M) (XQi D cs S ad r.1 r.2) 0 0 (xA S ad) := by
  refine xm_b (own := RX6) (lv := [(0, .ref (ad 60)), (1, .int x1), (2, .long y2)]) (by decide +kernel) rfl rfl (Nat.le_of_ble_eq_true rfl) hd (fun p e s m args below meth c Z => ?_)
  unfold fX6_write
  refine xj_iload_n Z 1 dX6_write_0 rfl rfl ?_
  refine xj_i2l Z dX6_write_1 ?_
  refine xj_lconst Z 1 dX6_write_2 (by decide) ?_
  refine xj_ldc2 Z dX6_write_3 xb_411 ?_
  refine xj_callSr Z (As := [.long (Int32.toInt64 x1), .long 1, .long 8]) (kX6_in l D cs S ad Z.2.2.2.2.2.1.dist (Int32.toInt64 x1) 1 8 M) gw_X6_56 (n := 3) (by decide +kernel) rfl ⟨rfl, rfl⟩ (by decide) rfl (Nat.le_of_ble_eq_true rfl) dX6_write_6 (fun v3 => ?_)
  refine xj_if_ne Z 14 dX6_write_9 (by decide) (fun _ => ?_) (fun _ => ?_)
  · refine xj_aload_n Z 0 dX6_write_14 rfl rfl ?_
    refine xg_X6_60 Z (hS 60 (by decide) (by decide)) dX6_write_15 ?_
    refine xj_iload_n Z 1 dX6_write_18 rfl rfl ?_
    refine xj_iadd Z dX6_write_19 ?_
    refine xj_sipush Z 300 dX6_write_20 (by decide) ?_
    refine xj_icmp_le Z 29 dX6_write_23 (by decide) (fun _ => ?_) (fun _ => ?_)
    · refine xj_iload_n Z 1 dX6_write_29 rfl rfl ?_
      refine xj_iconst Z 1 dX6_write_30 (by decide) ?_
      refine xj_isub Z dX6_write_31 ?_
      refine xj_top (fun v4 => ?_)
      refine xj_istore Z (lv' := [(4, .int v4), (0, .ref (ad 60)), (1, .int x1), (2, .long y2)]) dX6_write_32 (by decide) rfl ?_
      refine xj_sub [1, 3, 0] (lv' := [(0, .ref (ad 60)), (2, .long y2), (4, .int v4)]) rfl ?_
      exact bX6_write_34 Z hS y2 xfuel v4 M
    · refine xj_bipush Z (-3) dX6_write_26 (by decide) ?_
      exact xj_ret_b Z dX6_write_28
  · refine xj_iconst Z (-1) dX6_write_12 (by decide) ?_
    exact xj_ret_b Z dX6_write_13
/-! WalkingLawModel.wipe()I -/
theorem dX6_wipe_0 : decode cX6_wipe 0 = .ok (.aload_n 0, 1) := by decide +kernel
theorem dX6_wipe_1 : decode cX6_wipe 1 = .ok (.getfield 60, 3) := by decide +kernel
theorem dX6_wipe_4 : decode cX6_wipe 4 = .ok (.istore_n 1, 1) := by decide +kernel
theorem dX6_wipe_5 : decode cX6_wipe 5 = .ok (.aload_n 0, 1) := by decide +kernel
theorem dX6_wipe_6 : decode cX6_wipe 6 = .ok (.iconst 0, 1) := by decide +kernel
theorem dX6_wipe_7 : decode cX6_wipe 7 = .ok (.putfield 60, 3) := by decide +kernel
theorem dX6_wipe_10 : decode cX6_wipe 10 = .ok (.iload_n 1, 1) := by decide +kernel
theorem dX6_wipe_11 : decode cX6_wipe 11 = .ok (.ireturn, 1) := by decide +kernel
def rmX6_wipe : Room := { frames := 0, cells := 0, slots := 0, locals := 0 }
def fX6_wipe (M : xm) : Option (Int32 × xm) := xl (M.1 60 0) (fun v1 => xl (up M 60 0 0) (fun M2 => (some (v1, M2))))
section
variable {p : Program} {l : Launch} {e : Env} {s : State} {m : MethodId} {args : Array Value} {below : List Frame} {meth : Method} {c : Code} {D : va_G} {cs : Nat → ClassId} {S : List Nat} {ad : Nat → Nat}
end
theorem kX6_wipe (l : Launch) (D : va_G) (cs : Nat → ClassId) (S : List Nat) (ad : Nat → Nat) (hd : xdist S ad) (hS : xalm S) (M : xm) : ∀ r, fX6_wipe M = some r → Met l yX6_wipe [Cond.code yX6_wipe cX6_wipe 2 (some .int)] rmX6_wipe (XPc D cs S ad [.ref (ad 60)] M) (XQi D cs S ad r.1 r.2) 0 0 (xA S ad) := by
  refine xm_b (own := RX6) (lv := [(0, .ref (ad 60))]) (by decide +kernel) rfl rfl (Nat.le_of_ble_eq_true rfl) hd (fun p e s m args below meth c Z => ?_)
  unfold fX6_wipe
  refine xj_aload_n Z 0 dX6_wipe_0 rfl rfl ?_
  refine xg_X6_60 Z (hS 60 (by decide) (by decide)) dX6_wipe_1 ?_
  refine xj_top (fun v1 => ?_)
  refine xj_istore_n Z (lv' := [(1, .int v1), (0, .ref (ad 60))]) dX6_wipe_4 rfl (by decide) rfl ?_
  refine xj_aload_n Z 1 dX6_wipe_5 rfl rfl ?_
  refine xj_iconst Z 0 dX6_wipe_6 (by decide) ?_
  refine xp_X6_60 Z (hS 60 (by decide) (by decide)) dX6_wipe_7 (fun M2 _ => ?_)
  refine xj_iload_n Z 0 dX6_wipe_10 rfl rfl ?_
  exact xj_ret_b Z dX6_wipe_11
/-! WalkingLawModel.number()I -/
theorem dX6_number_0 : decode cX6_number 0 = .ok (.iconst 0, 1) := by decide +kernel
theorem dX6_number_1 : decode cX6_number 1 = .ok (.istore_n 1, 1) := by decide +kernel
theorem dX6_number_2 : decode cX6_number 2 = .ok (.iconst 0, 1) := by decide +kernel
theorem dX6_number_3 : decode cX6_number 3 = .ok (.istore_n 2, 1) := by decide +kernel
theorem dX6_number_4 : decode cX6_number 4 = .ok (.aload_n 0, 1) := by decide +kernel
theorem dX6_number_5 : decode cX6_number 5 = .ok (.getfield 64, 3) := by decide +kernel
theorem dX6_number_8 : decode cX6_number 8 = .ok (.aload_n 0, 1) := by decide +kernel
theorem dX6_number_9 : decode cX6_number 9 = .ok (.getfield 60, 3) := by decide +kernel
theorem dX6_number_12 : decode cX6_number 12 = .ok (.if_icmp .ge 68, 3) := by decide +kernel
theorem dX6_number_15 : decode cX6_number 15 = .ok (.aload_n 0, 1) := by decide +kernel
theorem dX6_number_16 : decode cX6_number 16 = .ok (.getfield 7, 3) := by decide +kernel
theorem dX6_number_19 : decode cX6_number 19 = .ok (.aload_n 0, 1) := by decide +kernel
theorem dX6_number_20 : decode cX6_number 20 = .ok (.getfield 64, 3) := by decide +kernel
theorem dX6_number_23 : decode cX6_number 23 = .ok (.baload, 1) := by decide +kernel
theorem dX6_number_24 : decode cX6_number 24 = .ok (.i2l, 1) := by decide +kernel
theorem dX6_number_25 : decode cX6_number 25 = .ok (.ldc2_w 67, 3) := by decide +kernel
theorem dX6_number_28 : decode cX6_number 28 = .ok (.ldc2_w 69, 3) := by decide +kernel
theorem dX6_number_31 : decode cX6_number 31 = .ok (.invokestatic 56, 3) := by decide +kernel
theorem dX6_number_34 : decode cX6_number 34 = .ok (.ifCond .eq 46, 3) := by decide +kernel
theorem dX6_number_37 : decode cX6_number 37 = .ok (.iload_n 2, 1) := by decide +kernel
theorem dX6_number_38 : decode cX6_number 38 = .ok (.iconst 2, 1) := by decide +kernel
theorem dX6_number_39 : decode cX6_number 39 = .ok (.if_icmp .ge 23, 3) := by decide +kernel
theorem dX6_number_42 : decode cX6_number 42 = .ok (.bipush 10, 2) := by decide +kernel
theorem dX6_number_44 : decode cX6_number 44 = .ok (.iload_n 1, 1) := by decide +kernel
theorem dX6_number_45 : decode cX6_number 45 = .ok (.imul, 1) := by decide +kernel
theorem dX6_number_46 : decode cX6_number 46 = .ok (.aload_n 0, 1) := by decide +kernel
theorem dX6_number_47 : decode cX6_number 47 = .ok (.getfield 7, 3) := by decide +kernel
theorem dX6_number_50 : decode cX6_number 50 = .ok (.aload_n 0, 1) := by decide +kernel
theorem dX6_number_51 : decode cX6_number 51 = .ok (.getfield 64, 3) := by decide +kernel
theorem dX6_number_54 : decode cX6_number 54 = .ok (.baload, 1) := by decide +kernel
theorem dX6_number_55 : decode cX6_number 55 = .ok (.iadd, 1) := by decide +kernel
theorem dX6_number_56 : decode cX6_number 56 = .ok (.bipush 48, 2) := by decide +kernel
theorem dX6_number_58 : decode cX6_number 58 = .ok (.isub, 1) := by decide +kernel
theorem dX6_number_59 : decode cX6_number 59 = .ok (.goto 4, 3) := by decide +kernel
theorem dX6_number_62 : decode cX6_number 62 = .ok (.iload_n 1, 1) := by decide +kernel
theorem dX6_number_63 : decode cX6_number 63 = .ok (.istore_n 1, 1) := by decide +kernel
theorem dX6_number_64 : decode cX6_number 64 = .ok (.iinc 2 1, 3) := by decide +kernel
theorem dX6_number_67 : decode cX6_number 67 = .ok (.aload_n 0, 1) := by decide +kernel
theorem dX6_number_68 : decode cX6_number 68 = .ok (.dup, 1) := by decide +kernel
theorem dX6_number_69 : decode cX6_number 69 = .ok (.getfield 64, 3) := by decide +kernel
theorem dX6_number_72 : decode cX6_number 72 = .ok (.iconst 1, 1) := by decide +kernel
theorem dX6_number_73 : decode cX6_number 73 = .ok (.iadd, 1) := by decide +kernel
theorem dX6_number_74 : decode cX6_number 74 = .ok (.putfield 64, 3) := by decide +kernel
theorem dX6_number_77 : decode cX6_number 77 = .ok (.goto (-73), 3) := by decide +kernel
theorem dX6_number_80 : decode cX6_number 80 = .ok (.iload_n 2, 1) := by decide +kernel
theorem dX6_number_81 : decode cX6_number 81 = .ok (.i2l, 1) := by decide +kernel
theorem dX6_number_82 : decode cX6_number 82 = .ok (.lconst 1, 1) := by decide +kernel
theorem dX6_number_83 : decode cX6_number 83 = .ok (.ldc2_w 71, 3) := by decide +kernel
theorem dX6_number_86 : decode cX6_number 86 = .ok (.invokestatic 56, 3) := by decide +kernel
theorem dX6_number_89 : decode cX6_number 89 = .ok (.ifCond .eq 7, 3) := by decide +kernel
theorem dX6_number_92 : decode cX6_number 92 = .ok (.iload_n 1, 1) := by decide +kernel
theorem dX6_number_93 : decode cX6_number 93 = .ok (.goto 4, 3) := by decide +kernel
theorem dX6_number_96 : decode cX6_number 96 = .ok (.iconst (-1), 1) := by decide +kernel
theorem dX6_number_97 : decode cX6_number 97 = .ok (.ireturn, 1) := by decide +kernel
def rmX6_number : Room := { frames := 1, cells := 0, slots := 0, locals := 25 }
def fX6_number_63 (k4 : Int32 → Int32 → xm → Option (Int32 × xm)) (x2 : Int32) (t0 : Int32) (M : xm) : Option (Int32 × xm) := xl (up M 60 2 ((M.1 60 2) + 1)) (fun M1 => (k4 t0 (x2 + 1) M1))
def fX6_number_97 (t0 : Int32) (M : xm) : Option (Int32 × xm) := (some (t0, M))
def fX6_number_80 (x1 : Int32) (x2 : Int32) (M : xm) : Option (Int32 × xm) := (fX6_in (Int32.toInt64 x2) 1 2 M).bind (fun v2 => (if v2 = 0 then (fX6_number_97 (-1) M) else (fX6_number_97 x1 M)))
def fX6_number_4 : Nat → Int32 → Int32 → xm → Option (Int32 × xm)
  | 0, _, _, _ => none
  | n + 1, x1, x2, M => (if (M.1 60 0) ≤ (M.1 60 2) then (fX6_number_80 x1 x2 M) else xchk (M.1 60 2) 300 ((fX6_in (Int32.toInt64 (M.1 61 ((M.1 60 2)).toNatClampNeg)) 48 57 M).bind (fun v3 => (if v3 = 0 then (fX6_number_80 x1 x2 M) else (if (2 : Int32) ≤ x2 then (fX6_number_63 (fun z0 z1 z2 => fX6_number_4 n z0 z1 z2) x2 x1 M) else xchk (M.1 60 2) 300 ((fX6_number_63 (fun z0 z1 z2 => fX6_number_4 n z0 z1 z2) x2 (((10 * x1) + (M.1 61 ((M.1 60 2)).toNatClampNeg)) - 48) M)))))))
def fX6_number (M : xm) : Option (Int32 × xm) := (fX6_number_4 xfuel 0 0 M)
section
variable {p : Program} {l : Launch} {e : Env} {s : State} {m : MethodId} {args : Array Value} {below : List Frame} {meth : Method} {c : Code} {D : va_G} {cs : Nat → ClassId} {S : List Nat} {ad : Nat → Nat}
theorem bX6_number_63 (Z : CX p s m args meth c cX6_number 3 RX6 (some .int) D cs (xA S ad) S ad) (hS : xalm S) {k4 : Int32 → Int32 → xm → Option (Int32 × xm)} (x2 : Int32) (t0 : Int32) (M : xm) (hk4 : ∀ (x1 : Int32) (x2 : Int32) (M : xm), XJ p l e rmX6_number s m args below meth c D cs (xA S ad) S ad 3 (XRb below args s D cs S ad) 4 [(0, .ref (ad 60)), (1, .int x1), (2, .int x2)] [] M (k4 x1 x2 M)) : XJ p l e rmX6_number s m args below meth c D cs (xA S ad) S ad 3 (XRb below args s D cs S ad) 63 [(0, .ref (ad 60)), (2, .int x2)] [.int t0] M (fX6_number_63 k4 x2 t0 M) := by
  unfold fX6_number_63
  refine xj_istore_n Z (lv' := [(1, .int t0), (0, .ref (ad 60)), (2, .int x2)]) dX6_number_63 rfl (by decide) rfl ?_
  refine xj_iinc Z 2 (x2 + 1) (lv' := [(2, .int (x2 + 1)), (1, .int t0), (0, .ref (ad 60))]) dX6_number_64 rfl rfl (by decide) rfl ?_
  refine xj_aload_n Z 2 dX6_number_67 rfl rfl ?_
  refine xj_dup Z dX6_number_68 rfl ?_
  refine xg_X6_64 Z (hS 60 (by decide) (by decide)) dX6_number_69 ?_
  refine xj_iconst Z 1 dX6_number_72 (by decide) ?_
  refine xj_iadd Z dX6_number_73 ?_
  refine xp_X6_64 Z (hS 60 (by decide) (by decide)) dX6_number_74 (fun M1 _ => ?_)
  refine xj_goto Z 4 dX6_number_77 (by decide) ?_
  refine xj_sub [2, 1, 0] (lv' := [(0, .ref (ad 60)), (1, .int t0), (2, .int (x2 + 1))]) rfl ?_
  exact hk4 t0 (x2 + 1) M1
theorem bX6_number_97 (Z : CX p s m args meth c cX6_number 3 RX6 (some .int) D cs (xA S ad) S ad) (hS : xalm S) (t0 : Int32) (M : xm) : XJ p l e rmX6_number s m args below meth c D cs (xA S ad) S ad 3 (XRb below args s D cs S ad) 97 [] [.int t0] M (fX6_number_97 t0 M) := by
  unfold fX6_number_97
  exact xj_ret_b Z dX6_number_97
theorem bX6_number_80 (Z : CX p s m args meth c cX6_number 3 RX6 (some .int) D cs (xA S ad) S ad) (hS : xalm S) (x1 : Int32) (x2 : Int32) (M : xm) : XJ p l e rmX6_number s m args below meth c D cs (xA S ad) S ad 3 (XRb below args s D cs S ad) 80 [(1, .int x1), (2, .int x2)] [] M (fX6_number_80 x1 x2 M) := by
  unfold fX6_number_80
  refine xj_iload_n Z 1 dX6_number_80 rfl rfl ?_
  refine xj_i2l Z dX6_number_81 ?_
  refine xj_lconst Z 1 dX6_number_82 (by decide) ?_
  refine xj_ldc2 Z dX6_number_83 xb_420 ?_
  refine xj_callSr Z (As := [.long (Int32.toInt64 x2), .long 1, .long 2]) (kX6_in l D cs S ad Z.2.2.2.2.2.1.dist (Int32.toInt64 x2) 1 2 M) gw_X6_56 (n := 3) (by decide +kernel) rfl ⟨rfl, rfl⟩ (by decide) rfl (Nat.le_of_ble_eq_true rfl) dX6_number_86 (fun v2 => ?_)
  refine xj_if_eq Z 96 dX6_number_89 (by decide) (fun _ => ?_) (fun _ => ?_)
  · refine xj_iconst Z (-1) dX6_number_96 (by decide) ?_
    refine xj_sub [] (lv' := []) rfl ?_
    exact bX6_number_97 Z hS (-1) M
  · refine xj_iload_n Z 0 dX6_number_92 rfl rfl ?_
    refine xj_goto Z 97 dX6_number_93 (by decide) ?_
    refine xj_sub [] (lv' := []) rfl ?_
    exact bX6_number_97 Z hS x1 M
theorem bX6_number_4 (Z : CX p s m args meth c cX6_number 3 RX6 (some .int) D cs (xA S ad) S ad) (hS : xalm S) : ∀ (n : Nat) (x1 : Int32) (x2 : Int32) (M : xm), XJ p l e rmX6_number s m args below meth c D cs (xA S ad) S ad 3 (XRb below args s D cs S ad) 4 [(0, .ref (ad 60)), (1, .int x1), (2, .int x2)] [] M (fX6_number_4 n x1 x2 M) := by
  intro n
  induction n with
  | zero => intros; exact xj_none
  | succ n ih =>
    intro x1 x2 M
    rw [fX6_number_4]
    refine xj_aload_n Z 0 dX6_number_4 rfl rfl ?_
    refine xg_X6_64 Z (hS 60 (by decide) (by decide)) dX6_number_5 ?_
    refine xj_aload_n Z 0 dX6_number_8 rfl rfl ?_
    refine xg_X6_60 Z (hS 60 (by decide) (by decide)) dX6_number_9 ?_
    refine xj_icmp_ge Z 80 dX6_number_12 (by decide) (fun _ => ?_) (fun _ => ?_)
    · refine xj_sub [1, 2] (lv' := [(1, .int x1), (2, .int x2)]) rfl ?_
      exact bX6_number_80 Z hS x1 x2 M
    · refine xj_aload_n Z 0 dX6_number_15 rfl rfl ?_
      refine xg_X6_7 Z (hS 60 (by decide) (by decide)) dX6_number_16 ?_
      refine xj_aload_n Z 0 dX6_number_19 rfl rfl ?_
      refine xg_X6_64 Z (hS 60 (by decide) (by decide)) dX6_number_20 ?_
      refine xj_bald Z (hS 61 (by decide) (by decide)) rfl dX6_number_23 (fun _ => ?_)
      refine xj_i2l Z dX6_number_24 ?_
      refine xj_ldc2 Z dX6_number_25 xb_418 ?_
      refine xj_ldc2 Z dX6_number_28 xb_419 ?_
      refine xj_callSr Z (As := [.long (Int32.toInt64 (M.1 61 ((M.1 60 2)).toNatClampNeg)), .long 48, .long 57]) (kX6_in l D cs S ad Z.2.2.2.2.2.1.dist (Int32.toInt64 (M.1 61 ((M.1 60 2)).toNatClampNeg)) 48 57 M) gw_X6_56 (n := 3) (by decide +kernel) rfl ⟨rfl, rfl⟩ (by decide) rfl (Nat.le_of_ble_eq_true rfl) dX6_number_31 (fun v3 => ?_)
      refine xj_if_eq Z 80 dX6_number_34 (by decide) (fun _ => ?_) (fun _ => ?_)
      · refine xj_sub [1, 2] (lv' := [(1, .int x1), (2, .int x2)]) rfl ?_
        exact bX6_number_80 Z hS x1 x2 M
      · refine xj_iload_n Z 2 dX6_number_37 rfl rfl ?_
        refine xj_iconst Z 2 dX6_number_38 (by decide) ?_
        refine xj_icmp_ge Z 62 dX6_number_39 (by decide) (fun _ => ?_) (fun _ => ?_)
        · refine xj_iload_n Z 1 dX6_number_62 rfl rfl ?_
          refine xj_sub [0, 2] (lv' := [(0, .ref (ad 60)), (2, .int x2)]) rfl ?_
          exact bX6_number_63 Z hS x2 x1 M ih
        · refine xj_bipush Z 10 dX6_number_42 (by decide) ?_
          refine xj_iload_n Z 1 dX6_number_44 rfl rfl ?_
          refine xj_imul Z dX6_number_45 ?_
          refine xj_aload_n Z 0 dX6_number_46 rfl rfl ?_
          refine xg_X6_7 Z (hS 60 (by decide) (by decide)) dX6_number_47 ?_
          refine xj_aload_n Z 0 dX6_number_50 rfl rfl ?_
          refine xg_X6_64 Z (hS 60 (by decide) (by decide)) dX6_number_51 ?_
          refine xj_bald Z (hS 61 (by decide) (by decide)) rfl dX6_number_54 (fun _ => ?_)
          refine xj_iadd Z dX6_number_55 ?_
          refine xj_bipush Z 48 dX6_number_56 (by decide) ?_
          refine xj_isub Z dX6_number_58 ?_
          refine xj_goto Z 63 dX6_number_59 (by decide) ?_
          refine xj_sub [0, 2] (lv' := [(0, .ref (ad 60)), (2, .int x2)]) rfl ?_
          exact bX6_number_63 Z hS x2 (((10 * x1) + (M.1 61 ((M.1 60 2)).toNatClampNeg)) - 48) M ih
end
theorem kX6_number (l : Launch) (D : va_G) (cs : Nat → ClassId) (S : List Nat) (ad : Nat → Nat) (hd : xdist S ad) (hS : xalm S) (M : xm) : ∀ r, fX6_number M = some r → Met l yX6_number [Cond.code yX6_number cX6_number 3 (some .int)] rmX6_number (XPc D cs S ad [.ref (ad 60)] M) (XQi D cs S ad r.1 r.2) 0 0 (xA S ad) := by
  refine xm_b (own := RX6) (lv := [(0, .ref (ad 60))]) (by decide +kernel) rfl rfl (Nat.le_of_ble_eq_true rfl) hd (fun p e s m args below meth c Z => ?_)
  unfold fX6_number
  refine xj_iconst Z 0 dX6_number_0 (by decide) ?_
  refine xj_istore_n Z (lv' := [(1, .int 0), (0, .ref (ad 60))]) dX6_number_1 rfl (by decide) rfl ?_
  refine xj_iconst Z 0 dX6_number_2 (by decide) ?_
  refine xj_istore_n Z (lv' := [(2, .int 0), (1, .int 0), (0, .ref (ad 60))]) dX6_number_3 rfl (by decide) rfl ?_
  refine xj_sub [2, 1, 0] (lv' := [(0, .ref (ad 60)), (1, .int 0), (2, .int 0)]) rfl ?_
  exact bX6_number_4 Z hS xfuel 0 0 M
/-! WalkingLawModel.isIn(III)Z -/
theorem dX6_isIn_0 : decode cX6_isIn 0 = .ok (.aload_n 0, 1) := by decide +kernel
theorem dX6_isIn_1 : decode cX6_isIn 1 = .ok (.getfield 45, 3) := by decide +kernel
theorem dX6_isIn_4 : decode cX6_isIn 4 = .ok (.iload_n 1, 1) := by decide +kernel
theorem dX6_isIn_5 : decode cX6_isIn 5 = .ok (.iaload, 1) := by decide +kernel
theorem dX6_isIn_6 : decode cX6_isIn 6 = .ok (.i2l, 1) := by decide +kernel
theorem dX6_isIn_7 : decode cX6_isIn 7 = .ok (.iload_n 2, 1) := by decide +kernel
theorem dX6_isIn_8 : decode cX6_isIn 8 = .ok (.i2l, 1) := by decide +kernel
theorem dX6_isIn_9 : decode cX6_isIn 9 = .ok (.iload_n 3, 1) := by decide +kernel
theorem dX6_isIn_10 : decode cX6_isIn 10 = .ok (.i2l, 1) := by decide +kernel
theorem dX6_isIn_11 : decode cX6_isIn 11 = .ok (.invokestatic 56, 3) := by decide +kernel
theorem dX6_isIn_14 : decode cX6_isIn 14 = .ok (.ireturn, 1) := by decide +kernel
def rmX6_isIn : Room := { frames := 1, cells := 0, slots := 0, locals := 25 }
def fX6_isIn (x1 : Int32) (x2 : Int32) (x3 : Int32) (M : xm) : Option (Int32) := xchk x1 3 ((fX6_in (Int32.toInt64 (M.1 72 x1.toNatClampNeg)) (Int32.toInt64 x2) (Int32.toInt64 x3) M).bind (fun v1 => (xbo v1 (some v1))))
section
variable {p : Program} {l : Launch} {e : Env} {s : State} {m : MethodId} {args : Array Value} {below : List Frame} {meth : Method} {c : Code} {D : va_G} {cs : Nat → ClassId} {S : List Nat} {ad : Nat → Nat}
end
theorem kX6_isIn (l : Launch) (D : va_G) (cs : Nat → ClassId) (S : List Nat) (ad : Nat → Nat) (hd : xdist S ad) (hS : xalm S) (x1 : Int32) (x2 : Int32) (x3 : Int32) (M : xm) : ∀ r, fX6_isIn x1 x2 x3 M = some r → Met l yX6_isIn [Cond.code yX6_isIn cX6_isIn 4 (some .boolean)] rmX6_isIn (XPc D cs S ad [.ref (ad 60), .int x1, .int x2, .int x3] M) (XQi D cs S ad r M) 0 0 (xA S ad) := by
  refine xm_r (own := RX6) (lv := [(0, .ref (ad 60)), (1, .int x1), (2, .int x2), (3, .int x3)]) (by decide +kernel) rfl rfl (Nat.le_of_ble_eq_true rfl) hd (fun p e s m args below meth c Z => ?_)
  unfold fX6_isIn
  refine xj_aload_n Z 0 dX6_isIn_0 rfl rfl ?_
  refine xg_X6_45 Z (hS 60 (by decide) (by decide)) dX6_isIn_1 ?_
  refine xj_iload_n Z 1 dX6_isIn_4 rfl rfl ?_
  refine xj_iald Z (hS 72 (by decide) (by decide)) rfl dX6_isIn_5 (fun _ => ?_)
  refine xj_i2l Z dX6_isIn_6 ?_
  refine xj_iload_n Z 2 dX6_isIn_7 rfl rfl ?_
  refine xj_i2l Z dX6_isIn_8 ?_
  refine xj_iload_n Z 3 dX6_isIn_9 rfl rfl ?_
  refine xj_i2l Z dX6_isIn_10 ?_
  refine xj_callSr Z (As := [.long (Int32.toInt64 (M.1 72 x1.toNatClampNeg)), .long (Int32.toInt64 x2), .long (Int32.toInt64 x3)]) (kX6_in l D cs S ad Z.2.2.2.2.2.1.dist (Int32.toInt64 (M.1 72 x1.toNatClampNeg)) (Int32.toInt64 x2) (Int32.toInt64 x3) M) gw_X6_56 (n := 3) (by decide +kernel) rfl ⟨rfl, rfl⟩ (by decide) rfl (Nat.le_of_ble_eq_true rfl) dX6_isIn_11 (fun v1 => ?_)
  exact xj_zret_r Z dX6_isIn_14
/-! WalkingLawModel.isGood(I)Z -/
theorem dX6_isGood_0 : decode cX6_isGood 0 = .ok (.iload_n 1, 1) := by decide +kernel
theorem dX6_isGood_1 : decode cX6_isGood 1 = .ok (.bipush 112, 2) := by decide +kernel
theorem dX6_isGood_3 : decode cX6_isGood 3 = .ok (.if_icmp .ne 113, 3) := by decide +kernel
theorem dX6_isGood_6 : decode cX6_isGood 6 = .ok (.aload_n 0, 1) := by decide +kernel
theorem dX6_isGood_7 : decode cX6_isGood 7 = .ok (.iconst 0, 1) := by decide +kernel
theorem dX6_isGood_8 : decode cX6_isGood 8 = .ok (.iconst 1, 1) := by decide +kernel
theorem dX6_isGood_9 : decode cX6_isGood 9 = .ok (.bipush 30, 2) := by decide +kernel
theorem dX6_isGood_11 : decode cX6_isGood 11 = .ok (.invokevirtual 81, 3) := by decide +kernel
theorem dX6_isGood_14 : decode cX6_isGood 14 = .ok (.ifCond .eq 39, 3) := by decide +kernel
theorem dX6_isGood_17 : decode cX6_isGood 17 = .ok (.aload_n 0, 1) := by decide +kernel
theorem dX6_isGood_18 : decode cX6_isGood 18 = .ok (.iconst 1, 1) := by decide +kernel
theorem dX6_isGood_19 : decode cX6_isGood 19 = .ok (.iconst 0, 1) := by decide +kernel
theorem dX6_isGood_20 : decode cX6_isGood 20 = .ok (.iconst 1, 1) := by decide +kernel
theorem dX6_isGood_21 : decode cX6_isGood 21 = .ok (.invokevirtual 81, 3) := by decide +kernel
theorem dX6_isGood_24 : decode cX6_isGood 24 = .ok (.ifCond .eq 29, 3) := by decide +kernel
theorem dX6_isGood_27 : decode cX6_isGood 27 = .ok (.aload_n 0, 1) := by decide +kernel
theorem dX6_isGood_28 : decode cX6_isGood 28 = .ok (.iconst 2, 1) := by decide +kernel
theorem dX6_isGood_29 : decode cX6_isGood 29 = .ok (.iconst 0, 1) := by decide +kernel
theorem dX6_isGood_30 : decode cX6_isGood 30 = .ok (.bipush 40, 2) := by decide +kernel
theorem dX6_isGood_32 : decode cX6_isGood 32 = .ok (.invokevirtual 81, 3) := by decide +kernel
theorem dX6_isGood_35 : decode cX6_isGood 35 = .ok (.ifCond .eq 18, 3) := by decide +kernel
theorem dX6_isGood_38 : decode cX6_isGood 38 = .ok (.aload_n 0, 1) := by decide +kernel
theorem dX6_isGood_39 : decode cX6_isGood 39 = .ok (.getfield 17, 3) := by decide +kernel
theorem dX6_isGood_42 : decode cX6_isGood 42 = .ok (.iconst 1, 1) := by decide +kernel
theorem dX6_isGood_43 : decode cX6_isGood 43 = .ok (.iaload, 1) := by decide +kernel
theorem dX6_isGood_44 : decode cX6_isGood 44 = .ok (.bipush 6, 2) := by decide +kernel
theorem dX6_isGood_46 : decode cX6_isGood 46 = .ok (.if_icmp .ge 7, 3) := by decide +kernel
theorem dX6_isGood_49 : decode cX6_isGood 49 = .ok (.iconst 1, 1) := by decide +kernel
theorem dX6_isGood_50 : decode cX6_isGood 50 = .ok (.goto 4, 3) := by decide +kernel
theorem dX6_isGood_53 : decode cX6_isGood 53 = .ok (.iconst 0, 1) := by decide +kernel
theorem dX6_isGood_54 : decode cX6_isGood 54 = .ok (.istore_n 2, 1) := by decide +kernel
theorem dX6_isGood_55 : decode cX6_isGood 55 = .ok (.iconst 0, 1) := by decide +kernel
theorem dX6_isGood_56 : decode cX6_isGood 56 = .ok (.istore_n 3, 1) := by decide +kernel
theorem dX6_isGood_57 : decode cX6_isGood 57 = .ok (.iload_n 3, 1) := by decide +kernel
theorem dX6_isGood_58 : decode cX6_isGood 58 = .ok (.iconst 3, 1) := by decide +kernel
theorem dX6_isGood_59 : decode cX6_isGood 59 = .ok (.if_icmp .ge 37, 3) := by decide +kernel
theorem dX6_isGood_62 : decode cX6_isGood 62 = .ok (.iload_n 2, 1) := by decide +kernel
theorem dX6_isGood_63 : decode cX6_isGood 63 = .ok (.ifCond .eq 33, 3) := by decide +kernel
theorem dX6_isGood_66 : decode cX6_isGood 66 = .ok (.aload_n 0, 1) := by decide +kernel
theorem dX6_isGood_67 : decode cX6_isGood 67 = .ok (.getfield 20, 3) := by decide +kernel
theorem dX6_isGood_70 : decode cX6_isGood 70 = .ok (.bipush 18, 2) := by decide +kernel
theorem dX6_isGood_72 : decode cX6_isGood 72 = .ok (.iconst 3, 1) := by decide +kernel
theorem dX6_isGood_73 : decode cX6_isGood 73 = .ok (.aload_n 0, 1) := by decide +kernel
theorem dX6_isGood_74 : decode cX6_isGood 74 = .ok (.getfield 17, 3) := by decide +kernel
theorem dX6_isGood_77 : decode cX6_isGood 77 = .ok (.iconst 1, 1) := by decide +kernel
theorem dX6_isGood_78 : decode cX6_isGood 78 = .ok (.iaload, 1) := by decide +kernel
theorem dX6_isGood_79 : decode cX6_isGood 79 = .ok (.imul, 1) := by decide +kernel
theorem dX6_isGood_80 : decode cX6_isGood 80 = .ok (.iadd, 1) := by decide +kernel
theorem dX6_isGood_81 : decode cX6_isGood 81 = .ok (.iload_n 3, 1) := by decide +kernel
theorem dX6_isGood_82 : decode cX6_isGood 82 = .ok (.iadd, 1) := by decide +kernel
theorem dX6_isGood_83 : decode cX6_isGood 83 = .ok (.aload_n 0, 1) := by decide +kernel
theorem dX6_isGood_84 : decode cX6_isGood 84 = .ok (.getfield 45, 3) := by decide +kernel
theorem dX6_isGood_87 : decode cX6_isGood 87 = .ok (.iload_n 3, 1) := by decide +kernel
theorem dX6_isGood_88 : decode cX6_isGood 88 = .ok (.iaload, 1) := by decide +kernel
theorem dX6_isGood_89 : decode cX6_isGood 89 = .ok (.iastore, 1) := by decide +kernel
theorem dX6_isGood_90 : decode cX6_isGood 90 = .ok (.iinc 3 1, 3) := by decide +kernel
theorem dX6_isGood_93 : decode cX6_isGood 93 = .ok (.goto (-36), 3) := by decide +kernel
theorem dX6_isGood_96 : decode cX6_isGood 96 = .ok (.aload_n 0, 1) := by decide +kernel
theorem dX6_isGood_97 : decode cX6_isGood 97 = .ok (.getfield 17, 3) := by decide +kernel
theorem dX6_isGood_100 : decode cX6_isGood 100 = .ok (.iconst 1, 1) := by decide +kernel
theorem dX6_isGood_101 : decode cX6_isGood 101 = .ok (.dup2, 1) := by decide +kernel
theorem dX6_isGood_102 : decode cX6_isGood 102 = .ok (.iaload, 1) := by decide +kernel
theorem dX6_isGood_103 : decode cX6_isGood 103 = .ok (.iload_n 2, 1) := by decide +kernel
theorem dX6_isGood_104 : decode cX6_isGood 104 = .ok (.ifCond .eq 7, 3) := by decide +kernel
theorem dX6_isGood_107 : decode cX6_isGood 107 = .ok (.iconst 1, 1) := by decide +kernel
theorem dX6_isGood_108 : decode cX6_isGood 108 = .ok (.goto 4, 3) := by decide +kernel
theorem dX6_isGood_111 : decode cX6_isGood 111 = .ok (.iconst 0, 1) := by decide +kernel
theorem dX6_isGood_112 : decode cX6_isGood 112 = .ok (.iadd, 1) := by decide +kernel
theorem dX6_isGood_113 : decode cX6_isGood 113 = .ok (.iastore, 1) := by decide +kernel
theorem dX6_isGood_114 : decode cX6_isGood 114 = .ok (.iload_n 2, 1) := by decide +kernel
theorem dX6_isGood_115 : decode cX6_isGood 115 = .ok (.ireturn, 1) := by decide +kernel
theorem dX6_isGood_116 : decode cX6_isGood 116 = .ok (.iload_n 1, 1) := by decide +kernel
theorem dX6_isGood_117 : decode cX6_isGood 117 = .ok (.bipush 109, 2) := by decide +kernel
theorem dX6_isGood_119 : decode cX6_isGood 119 = .ok (.if_icmp .ne 113, 3) := by decide +kernel
theorem dX6_isGood_122 : decode cX6_isGood 122 = .ok (.aload_n 0, 1) := by decide +kernel
theorem dX6_isGood_123 : decode cX6_isGood 123 = .ok (.iconst 0, 1) := by decide +kernel
theorem dX6_isGood_124 : decode cX6_isGood 124 = .ok (.iconst 0, 1) := by decide +kernel
theorem dX6_isGood_125 : decode cX6_isGood 125 = .ok (.iconst 5, 1) := by decide +kernel
theorem dX6_isGood_126 : decode cX6_isGood 126 = .ok (.invokevirtual 81, 3) := by decide +kernel
theorem dX6_isGood_129 : decode cX6_isGood 129 = .ok (.ifCond .eq 40, 3) := by decide +kernel
theorem dX6_isGood_132 : decode cX6_isGood 132 = .ok (.aload_n 0, 1) := by decide +kernel
theorem dX6_isGood_133 : decode cX6_isGood 133 = .ok (.iconst 1, 1) := by decide +kernel
theorem dX6_isGood_134 : decode cX6_isGood 134 = .ok (.iconst 1, 1) := by decide +kernel
theorem dX6_isGood_135 : decode cX6_isGood 135 = .ok (.bipush 9, 2) := by decide +kernel
theorem dX6_isGood_137 : decode cX6_isGood 137 = .ok (.invokevirtual 81, 3) := by decide +kernel
theorem dX6_isGood_140 : decode cX6_isGood 140 = .ok (.ifCond .eq 29, 3) := by decide +kernel
theorem dX6_isGood_143 : decode cX6_isGood 143 = .ok (.aload_n 0, 1) := by decide +kernel
theorem dX6_isGood_144 : decode cX6_isGood 144 = .ok (.iconst 2, 1) := by decide +kernel
theorem dX6_isGood_145 : decode cX6_isGood 145 = .ok (.iconst 0, 1) := by decide +kernel
theorem dX6_isGood_146 : decode cX6_isGood 146 = .ok (.bipush 15, 2) := by decide +kernel
theorem dX6_isGood_148 : decode cX6_isGood 148 = .ok (.invokevirtual 81, 3) := by decide +kernel
theorem dX6_isGood_151 : decode cX6_isGood 151 = .ok (.ifCond .eq 18, 3) := by decide +kernel
theorem dX6_isGood_154 : decode cX6_isGood 154 = .ok (.aload_n 0, 1) := by decide +kernel
theorem dX6_isGood_155 : decode cX6_isGood 155 = .ok (.getfield 23, 3) := by decide +kernel
theorem dX6_isGood_158 : decode cX6_isGood 158 = .ok (.iconst 1, 1) := by decide +kernel
theorem dX6_isGood_159 : decode cX6_isGood 159 = .ok (.iaload, 1) := by decide +kernel
theorem dX6_isGood_160 : decode cX6_isGood 160 = .ok (.bipush 8, 2) := by decide +kernel
theorem dX6_isGood_162 : decode cX6_isGood 162 = .ok (.if_icmp .ge 7, 3) := by decide +kernel
theorem dX6_isGood_165 : decode cX6_isGood 165 = .ok (.iconst 1, 1) := by decide +kernel
theorem dX6_isGood_166 : decode cX6_isGood 166 = .ok (.goto 4, 3) := by decide +kernel
theorem dX6_isGood_169 : decode cX6_isGood 169 = .ok (.iconst 0, 1) := by decide +kernel
theorem dX6_isGood_170 : decode cX6_isGood 170 = .ok (.istore_n 2, 1) := by decide +kernel
theorem dX6_isGood_171 : decode cX6_isGood 171 = .ok (.iconst 0, 1) := by decide +kernel
theorem dX6_isGood_172 : decode cX6_isGood 172 = .ok (.istore_n 3, 1) := by decide +kernel
theorem dX6_isGood_173 : decode cX6_isGood 173 = .ok (.iload_n 3, 1) := by decide +kernel
theorem dX6_isGood_174 : decode cX6_isGood 174 = .ok (.iconst 3, 1) := by decide +kernel
theorem dX6_isGood_175 : decode cX6_isGood 175 = .ok (.if_icmp .ge 37, 3) := by decide +kernel
theorem dX6_isGood_178 : decode cX6_isGood 178 = .ok (.iload_n 2, 1) := by decide +kernel
theorem dX6_isGood_179 : decode cX6_isGood 179 = .ok (.ifCond .eq 33, 3) := by decide +kernel
theorem dX6_isGood_182 : decode cX6_isGood 182 = .ok (.aload_n 0, 1) := by decide +kernel
theorem dX6_isGood_183 : decode cX6_isGood 183 = .ok (.getfield 26, 3) := by decide +kernel
theorem dX6_isGood_186 : decode cX6_isGood 186 = .ok (.bipush 24, 2) := by decide +kernel
theorem dX6_isGood_188 : decode cX6_isGood 188 = .ok (.iconst 3, 1) := by decide +kernel
theorem dX6_isGood_189 : decode cX6_isGood 189 = .ok (.aload_n 0, 1) := by decide +kernel
theorem dX6_isGood_190 : decode cX6_isGood 190 = .ok (.getfield 23, 3) := by decide +kernel
theorem dX6_isGood_193 : decode cX6_isGood 193 = .ok (.iconst 1, 1) := by decide +kernel
theorem dX6_isGood_194 : decode cX6_isGood 194 = .ok (.iaload, 1) := by decide +kernel
theorem dX6_isGood_195 : decode cX6_isGood 195 = .ok (.imul, 1) := by decide +kernel
theorem dX6_isGood_196 : decode cX6_isGood 196 = .ok (.iadd, 1) := by decide +kernel
theorem dX6_isGood_197 : decode cX6_isGood 197 = .ok (.iload_n 3, 1) := by decide +kernel
theorem dX6_isGood_198 : decode cX6_isGood 198 = .ok (.iadd, 1) := by decide +kernel
theorem dX6_isGood_199 : decode cX6_isGood 199 = .ok (.aload_n 0, 1) := by decide +kernel
theorem dX6_isGood_200 : decode cX6_isGood 200 = .ok (.getfield 45, 3) := by decide +kernel
theorem dX6_isGood_203 : decode cX6_isGood 203 = .ok (.iload_n 3, 1) := by decide +kernel
theorem dX6_isGood_204 : decode cX6_isGood 204 = .ok (.iaload, 1) := by decide +kernel
theorem dX6_isGood_205 : decode cX6_isGood 205 = .ok (.iastore, 1) := by decide +kernel
theorem dX6_isGood_206 : decode cX6_isGood 206 = .ok (.iinc 3 1, 3) := by decide +kernel
theorem dX6_isGood_209 : decode cX6_isGood 209 = .ok (.goto (-36), 3) := by decide +kernel
theorem dX6_isGood_212 : decode cX6_isGood 212 = .ok (.aload_n 0, 1) := by decide +kernel
theorem dX6_isGood_213 : decode cX6_isGood 213 = .ok (.getfield 23, 3) := by decide +kernel
theorem dX6_isGood_216 : decode cX6_isGood 216 = .ok (.iconst 1, 1) := by decide +kernel
theorem dX6_isGood_217 : decode cX6_isGood 217 = .ok (.dup2, 1) := by decide +kernel
theorem dX6_isGood_218 : decode cX6_isGood 218 = .ok (.iaload, 1) := by decide +kernel
theorem dX6_isGood_219 : decode cX6_isGood 219 = .ok (.iload_n 2, 1) := by decide +kernel
theorem dX6_isGood_220 : decode cX6_isGood 220 = .ok (.ifCond .eq 7, 3) := by decide +kernel
theorem dX6_isGood_223 : decode cX6_isGood 223 = .ok (.iconst 1, 1) := by decide +kernel
theorem dX6_isGood_224 : decode cX6_isGood 224 = .ok (.goto 4, 3) := by decide +kernel
theorem dX6_isGood_227 : decode cX6_isGood 227 = .ok (.iconst 0, 1) := by decide +kernel
theorem dX6_isGood_228 : decode cX6_isGood 228 = .ok (.iadd, 1) := by decide +kernel
theorem dX6_isGood_229 : decode cX6_isGood 229 = .ok (.iastore, 1) := by decide +kernel
theorem dX6_isGood_230 : decode cX6_isGood 230 = .ok (.iload_n 2, 1) := by decide +kernel
theorem dX6_isGood_231 : decode cX6_isGood 231 = .ok (.ireturn, 1) := by decide +kernel
theorem dX6_isGood_232 : decode cX6_isGood 232 = .ok (.aload_n 0, 1) := by decide +kernel
theorem dX6_isGood_233 : decode cX6_isGood 233 = .ok (.getfield 13, 3) := by decide +kernel
theorem dX6_isGood_236 : decode cX6_isGood 236 = .ok (.iload_n 1, 1) := by decide +kernel
theorem dX6_isGood_237 : decode cX6_isGood 237 = .ok (.bipush 113, 2) := by decide +kernel
theorem dX6_isGood_239 : decode cX6_isGood 239 = .ok (.if_icmp .ne 7, 3) := by decide +kernel
theorem dX6_isGood_242 : decode cX6_isGood 242 = .ok (.iconst 2, 1) := by decide +kernel
theorem dX6_isGood_243 : decode cX6_isGood 243 = .ok (.goto 4, 3) := by decide +kernel
theorem dX6_isGood_246 : decode cX6_isGood 246 = .ok (.iconst 3, 1) := by decide +kernel
theorem dX6_isGood_247 : decode cX6_isGood 247 = .ok (.aload_n 0, 1) := by decide +kernel
theorem dX6_isGood_248 : decode cX6_isGood 248 = .ok (.getfield 45, 3) := by decide +kernel
theorem dX6_isGood_251 : decode cX6_isGood 251 = .ok (.iconst 0, 1) := by decide +kernel
theorem dX6_isGood_252 : decode cX6_isGood 252 = .ok (.iaload, 1) := by decide +kernel
theorem dX6_isGood_253 : decode cX6_isGood 253 = .ok (.iastore, 1) := by decide +kernel
theorem dX6_isGood_254 : decode cX6_isGood 254 = .ok (.iload_n 1, 1) := by decide +kernel
theorem dX6_isGood_255 : decode cX6_isGood 255 = .ok (.bipush 113, 2) := by decide +kernel
theorem dX6_isGood_257 : decode cX6_isGood 257 = .ok (.if_icmp .ne 14, 3) := by decide +kernel
theorem dX6_isGood_260 : decode cX6_isGood 260 = .ok (.aload_n 0, 1) := by decide +kernel
theorem dX6_isGood_261 : decode cX6_isGood 261 = .ok (.iconst 0, 1) := by decide +kernel
theorem dX6_isGood_262 : decode cX6_isGood 262 = .ok (.iconst 1, 1) := by decide +kernel
theorem dX6_isGood_263 : decode cX6_isGood 263 = .ok (.bipush 8, 2) := by decide +kernel
theorem dX6_isGood_265 : decode cX6_isGood 265 = .ok (.invokevirtual 81, 3) := by decide +kernel
theorem dX6_isGood_268 : decode cX6_isGood 268 = .ok (.goto 10, 3) := by decide +kernel
theorem dX6_isGood_271 : decode cX6_isGood 271 = .ok (.aload_n 0, 1) := by decide +kernel
theorem dX6_isGood_272 : decode cX6_isGood 272 = .ok (.iconst 0, 1) := by decide +kernel
theorem dX6_isGood_273 : decode cX6_isGood 273 = .ok (.iconst 1, 1) := by decide +kernel
theorem dX6_isGood_274 : decode cX6_isGood 274 = .ok (.iconst 4, 1) := by decide +kernel
theorem dX6_isGood_275 : decode cX6_isGood 275 = .ok (.invokevirtual 81, 3) := by decide +kernel
theorem dX6_isGood_278 : decode cX6_isGood 278 = .ok (.ireturn, 1) := by decide +kernel
def rmX6_isGood : Room := { frames := 2, cells := 0, slots := 0, locals := 48 }
def fX6_isGood_112 (x2 : Int32) (t1 : Int32) (t2 : Int32) (t3 : Int32) (M : xm) : Option (Int32 × xm) := xchk t1 2 (xl (up M 63 (t1 : Int32).toNatClampNeg (t2 + t3)) (fun M1 => (xbo x2 (some (x2, M1)))))
def fX6_isGood_96 (x2 : Int32) (M : xm) : Option (Int32 × xm) := xchk 1 2 ((if x2 = 0 then (fX6_isGood_112 x2 1 (M.1 63 (1 : Int32).toNatClampNeg) 0 M) else (fX6_isGood_112 x2 1 (M.1 63 (1 : Int32).toNatClampNeg) 1 M)))
def fX6_isGood_57 (x2 : Int32) : Nat → Int32 → xm → Option (Int32 × xm)
  | 0, _, _ => none
  | n + 1, x3, M => (if (3 : Int32) ≤ x3 then (fX6_isGood_96 x2 M) else (if x2 = 0 then (fX6_isGood_96 x2 M) else xchk 1 2 (xchk x3 3 (xchk ((18 + (3 * (M.1 63 (1 : Int32).toNatClampNeg))) + x3) 36 (xl (up M 64 (((18 + (3 * (M.1 63 (1 : Int32).toNatClampNeg))) + x3) : Int32).toNatClampNeg (M.1 72 x3.toNatClampNeg)) (fun M2 => (fX6_isGood_57 x2 n (x3 + 1) M2)))))))
def fX6_isGood_54 (t0 : Int32) (M : xm) : Option (Int32 × xm) := (fX6_isGood_57 t0 xfuel 0 M)
def fX6_isGood_53 (M : xm) : Option (Int32 × xm) := (fX6_isGood_54 0 M)
def fX6_isGood_228 (x2 : Int32) (t1 : Int32) (t2 : Int32) (t3 : Int32) (M : xm) : Option (Int32 × xm) := xchk t1 2 (xl (up M 65 (t1 : Int32).toNatClampNeg (t2 + t3)) (fun M3 => (xbo x2 (some (x2, M3)))))
def fX6_isGood_212 (x2 : Int32) (M : xm) : Option (Int32 × xm) := xchk 1 2 ((if x2 = 0 then (fX6_isGood_228 x2 1 (M.1 65 (1 : Int32).toNatClampNeg) 0 M) else (fX6_isGood_228 x2 1 (M.1 65 (1 : Int32).toNatClampNeg) 1 M)))
def fX6_isGood_173 (x2 : Int32) : Nat → Int32 → xm → Option (Int32 × xm)
  | 0, _, _ => none
  | n + 1, x3, M => (if (3 : Int32) ≤ x3 then (fX6_isGood_212 x2 M) else (if x2 = 0 then (fX6_isGood_212 x2 M) else xchk 1 2 (xchk x3 3 (xchk ((24 + (3 * (M.1 65 (1 : Int32).toNatClampNeg))) + x3) 48 (xl (up M 66 (((24 + (3 * (M.1 65 (1 : Int32).toNatClampNeg))) + x3) : Int32).toNatClampNeg (M.1 72 x3.toNatClampNeg)) (fun M4 => (fX6_isGood_173 x2 n (x3 + 1) M4)))))))
def fX6_isGood_170 (t0 : Int32) (M : xm) : Option (Int32 × xm) := (fX6_isGood_173 t0 xfuel 0 M)
def fX6_isGood_169 (M : xm) : Option (Int32 × xm) := (fX6_isGood_170 0 M)
def fX6_isGood_278 (t0 : Int32) (M : xm) : Option (Int32 × xm) := (xbo t0 (some (t0, M)))
def fX6_isGood_247 (x1 : Int32) (t1 : Int32) (M : xm) : Option (Int32 × xm) := xchk 0 3 (xchk t1 4 (xl (up M 62 (t1 : Int32).toNatClampNeg (M.1 72 (0 : Int32).toNatClampNeg)) (fun M5 => (if x1 = 113 then (fX6_isIn 0 1 8 M5).bind (fun v7 => (fX6_isGood_278 v7 M5)) else (fX6_isIn 0 1 4 M5).bind (fun v6 => (fX6_isGood_278 v6 M5))))))
def fX6_isGood (x1 : Int32) (M : xm) : Option (Int32 × xm) := (if x1 = 112 then (fX6_isIn 0 1 30 M).bind (fun v11 => (if v11 = 0 then (fX6_isGood_53 M) else (fX6_isIn 1 0 1 M).bind (fun v12 => (if v12 = 0 then (fX6_isGood_53 M) else (fX6_isIn 2 0 40 M).bind (fun v13 => (if v13 = 0 then (fX6_isGood_53 M) else xchk 1 2 ((if (6 : Int32) ≤ (M.1 63 (1 : Int32).toNatClampNeg) then (fX6_isGood_53 M) else (fX6_isGood_54 1 M))))))))) else (if x1 = 109 then (fX6_isIn 0 0 5 M).bind (fun v8 => (if v8 = 0 then (fX6_isGood_169 M) else (fX6_isIn 1 1 9 M).bind (fun v9 => (if v9 = 0 then (fX6_isGood_169 M) else (fX6_isIn 2 0 15 M).bind (fun v10 => (if v10 = 0 then (fX6_isGood_169 M) else xchk 1 2 ((if (8 : Int32) ≤ (M.1 65 (1 : Int32).toNatClampNeg) then (fX6_isGood_169 M) else (fX6_isGood_170 1 M))))))))) else (if x1 = 113 then (fX6_isGood_247 x1 2 M) else (fX6_isGood_247 x1 3 M))))
section
variable {p : Program} {l : Launch} {e : Env} {s : State} {m : MethodId} {args : Array Value} {below : List Frame} {meth : Method} {c : Code} {D : va_G} {cs : Nat → ClassId} {S : List Nat} {ad : Nat → Nat}
theorem bX6_isGood_112 (Z : CX p s m args meth c cX6_isGood 4 RX6 (some .boolean) D cs (xA S ad) S ad) (hS : xalm S) (x2 : Int32) (t1 : Int32) (t2 : Int32) (t3 : Int32) (M : xm) : XJ p l e rmX6_isGood s m args below meth c D cs (xA S ad) S ad 4 (XRb below args s D cs S ad) 112 [(2, .int x2)] [.int t3, .int t2, .int t1, .ref (ad 63)] M (fX6_isGood_112 x2 t1 t2 t3 M) := by
  unfold fX6_isGood_112
  refine xj_iadd Z dX6_isGood_112 ?_
  refine xj_iast Z (hS 63 (by decide) (by decide)) rfl dX6_isGood_113 (fun M1 _ => ?_)
  refine xj_iload_n Z 0 dX6_isGood_114 rfl rfl ?_
  exact xj_zret_b Z dX6_isGood_115
theorem bX6_isGood_96 (Z : CX p s m args meth c cX6_isGood 4 RX6 (some .boolean) D cs (xA S ad) S ad) (hS : xalm S) (x2 : Int32) (M : xm) : XJ p l e rmX6_isGood s m args below meth c D cs (xA S ad) S ad 4 (XRb below args s D cs S ad) 96 [(0, .ref (ad 60)), (2, .int x2)] [] M (fX6_isGood_96 x2 M) := by
  unfold fX6_isGood_96
  refine xj_aload_n Z 0 dX6_isGood_96 rfl rfl ?_
  refine xg_X6_17 Z (hS 60 (by decide) (by decide)) dX6_isGood_97 ?_
  refine xj_iconst Z 1 dX6_isGood_100 (by decide) ?_
  refine xj_dup2 Z dX6_isGood_101 rfl rfl ?_
  refine xj_iald Z (hS 63 (by decide) (by decide)) rfl dX6_isGood_102 (fun _ => ?_)
  refine xj_iload_n Z 1 dX6_isGood_103 rfl rfl ?_
  refine xj_if_eq Z 111 dX6_isGood_104 (by decide) (fun _ => ?_) (fun _ => ?_)
  · refine xj_iconst Z 0 dX6_isGood_111 (by decide) ?_
    refine xj_sub [1] (lv' := [(2, .int x2)]) rfl ?_
    exact bX6_isGood_112 Z hS x2 1 (M.1 63 (1 : Int32).toNatClampNeg) 0 M
  · refine xj_iconst Z 1 dX6_isGood_107 (by decide) ?_
    refine xj_goto Z 112 dX6_isGood_108 (by decide) ?_
    refine xj_sub [1] (lv' := [(2, .int x2)]) rfl ?_
    exact bX6_isGood_112 Z hS x2 1 (M.1 63 (1 : Int32).toNatClampNeg) 1 M
theorem bX6_isGood_57 (Z : CX p s m args meth c cX6_isGood 4 RX6 (some .boolean) D cs (xA S ad) S ad) (hS : xalm S) (x2 : Int32) : ∀ (n : Nat) (x3 : Int32) (M : xm), XJ p l e rmX6_isGood s m args below meth c D cs (xA S ad) S ad 4 (XRb below args s D cs S ad) 57 [(0, .ref (ad 60)), (2, .int x2), (3, .int x3)] [] M (fX6_isGood_57 x2 n x3 M) := by
  intro n
  induction n with
  | zero => intros; exact xj_none
  | succ n ih =>
    intro x3 M
    rw [fX6_isGood_57]
    refine xj_iload_n Z 2 dX6_isGood_57 rfl rfl ?_
    refine xj_iconst Z 3 dX6_isGood_58 (by decide) ?_
    refine xj_icmp_ge Z 96 dX6_isGood_59 (by decide) (fun _ => ?_) (fun _ => ?_)
    · refine xj_sub [0, 1] (lv' := [(0, .ref (ad 60)), (2, .int x2)]) rfl ?_
      exact bX6_isGood_96 Z hS x2 M
    · refine xj_iload_n Z 1 dX6_isGood_62 rfl rfl ?_
      refine xj_if_eq Z 96 dX6_isGood_63 (by decide) (fun _ => ?_) (fun _ => ?_)
      · refine xj_sub [0, 1] (lv' := [(0, .ref (ad 60)), (2, .int x2)]) rfl ?_
        exact bX6_isGood_96 Z hS x2 M
      · refine xj_aload_n Z 0 dX6_isGood_66 rfl rfl ?_
        refine xg_X6_20 Z (hS 60 (by decide) (by decide)) dX6_isGood_67 ?_
        refine xj_bipush Z 18 dX6_isGood_70 (by decide) ?_
        refine xj_iconst Z 3 dX6_isGood_72 (by decide) ?_
        refine xj_aload_n Z 0 dX6_isGood_73 rfl rfl ?_
        refine xg_X6_17 Z (hS 60 (by decide) (by decide)) dX6_isGood_74 ?_
        refine xj_iconst Z 1 dX6_isGood_77 (by decide) ?_
        refine xj_iald Z (hS 63 (by decide) (by decide)) rfl dX6_isGood_78 (fun _ => ?_)
        refine xj_imul Z dX6_isGood_79 ?_
        refine xj_iadd Z dX6_isGood_80 ?_
        refine xj_iload_n Z 2 dX6_isGood_81 rfl rfl ?_
        refine xj_iadd Z dX6_isGood_82 ?_
        refine xj_aload_n Z 0 dX6_isGood_83 rfl rfl ?_
        refine xg_X6_45 Z (hS 60 (by decide) (by decide)) dX6_isGood_84 ?_
        refine xj_iload_n Z 2 dX6_isGood_87 rfl rfl ?_
        refine xj_iald Z (hS 72 (by decide) (by decide)) rfl dX6_isGood_88 (fun _ => ?_)
        refine xj_iast Z (hS 64 (by decide) (by decide)) rfl dX6_isGood_89 (fun M2 _ => ?_)
        refine xj_iinc Z 2 (x3 + 1) (lv' := [(3, .int (x3 + 1)), (0, .ref (ad 60)), (2, .int x2)]) dX6_isGood_90 rfl rfl (by decide) rfl ?_
        refine xj_goto Z 57 dX6_isGood_93 (by decide) ?_
        refine xj_sub [1, 2, 0] (lv' := [(0, .ref (ad 60)), (2, .int x2), (3, .int (x3 + 1))]) rfl ?_
        exact ih (x3 + 1) M2
theorem bX6_isGood_54 (Z : CX p s m args meth c cX6_isGood 4 RX6 (some .boolean) D cs (xA S ad) S ad) (hS : xalm S) (t0 : Int32) (M : xm) : XJ p l e rmX6_isGood s m args below meth c D cs (xA S ad) S ad 4 (XRb below args s D cs S ad) 54 [(0, .ref (ad 60))] [.int t0] M (fX6_isGood_54 t0 M) := by
  unfold fX6_isGood_54
  refine xj_istore_n Z (lv' := [(2, .int t0), (0, .ref (ad 60))]) dX6_isGood_54 rfl (by decide) rfl ?_
  refine xj_iconst Z 0 dX6_isGood_55 (by decide) ?_
  refine xj_istore_n Z (lv' := [(3, .int 0), (2, .int t0), (0, .ref (ad 60))]) dX6_isGood_56 rfl (by decide) rfl ?_
  refine xj_sub [2, 1, 0] (lv' := [(0, .ref (ad 60)), (2, .int t0), (3, .int 0)]) rfl ?_
  exact bX6_isGood_57 Z hS t0 xfuel 0 M
theorem bX6_isGood_53 (Z : CX p s m args meth c cX6_isGood 4 RX6 (some .boolean) D cs (xA S ad) S ad) (hS : xalm S) (M : xm) : XJ p l e rmX6_isGood s m args below meth c D cs (xA S ad) S ad 4 (XRb below args s D cs S ad) 53 [(0, .ref (ad 60))] [] M (fX6_isGood_53 M) := by
  unfold fX6_isGood_53
  refine xj_iconst Z 0 dX6_isGood_53 (by decide) ?_
  exact bX6_isGood_54 Z hS 0 M
theorem bX6_isGood_228 (Z : CX p s m args meth c cX6_isGood 4 RX6 (some .boolean) D cs (xA S ad) S ad) (hS : xalm S) (x2 : Int32) (t1 : Int32) (t2 : Int32) (t3 : Int32) (M : xm) : XJ p l e rmX6_isGood s m args below meth c D cs (xA S ad) S ad 4 (XRb below args s D cs S ad) 228 [(2, .int x2)] [.int t3, .int t2, .int t1, .ref (ad 65)] M (fX6_isGood_228 x2 t1 t2 t3 M) := by
  unfold fX6_isGood_228
  refine xj_iadd Z dX6_isGood_228 ?_
  refine xj_iast Z (hS 65 (by decide) (by decide)) rfl dX6_isGood_229 (fun M3 _ => ?_)
  refine xj_iload_n Z 0 dX6_isGood_230 rfl rfl ?_
  exact xj_zret_b Z dX6_isGood_231
theorem bX6_isGood_212 (Z : CX p s m args meth c cX6_isGood 4 RX6 (some .boolean) D cs (xA S ad) S ad) (hS : xalm S) (x2 : Int32) (M : xm) : XJ p l e rmX6_isGood s m args below meth c D cs (xA S ad) S ad 4 (XRb below args s D cs S ad) 212 [(0, .ref (ad 60)), (2, .int x2)] [] M (fX6_isGood_212 x2 M) := by
  unfold fX6_isGood_212
  refine xj_aload_n Z 0 dX6_isGood_212 rfl rfl ?_
  refine xg_X6_23 Z (hS 60 (by decide) (by decide)) dX6_isGood_213 ?_
  refine xj_iconst Z 1 dX6_isGood_216 (by decide) ?_
  refine xj_dup2 Z dX6_isGood_217 rfl rfl ?_
  refine xj_iald Z (hS 65 (by decide) (by decide)) rfl dX6_isGood_218 (fun _ => ?_)
  refine xj_iload_n Z 1 dX6_isGood_219 rfl rfl ?_
  refine xj_if_eq Z 227 dX6_isGood_220 (by decide) (fun _ => ?_) (fun _ => ?_)
  · refine xj_iconst Z 0 dX6_isGood_227 (by decide) ?_
    refine xj_sub [1] (lv' := [(2, .int x2)]) rfl ?_
    exact bX6_isGood_228 Z hS x2 1 (M.1 65 (1 : Int32).toNatClampNeg) 0 M
  · refine xj_iconst Z 1 dX6_isGood_223 (by decide) ?_
    refine xj_goto Z 228 dX6_isGood_224 (by decide) ?_
    refine xj_sub [1] (lv' := [(2, .int x2)]) rfl ?_
    exact bX6_isGood_228 Z hS x2 1 (M.1 65 (1 : Int32).toNatClampNeg) 1 M
theorem bX6_isGood_173 (Z : CX p s m args meth c cX6_isGood 4 RX6 (some .boolean) D cs (xA S ad) S ad) (hS : xalm S) (x2 : Int32) : ∀ (n : Nat) (x3 : Int32) (M : xm), XJ p l e rmX6_isGood s m args below meth c D cs (xA S ad) S ad 4 (XRb below args s D cs S ad) 173 [(0, .ref (ad 60)), (2, .int x2), (3, .int x3)] [] M (fX6_isGood_173 x2 n x3 M) := by
  intro n
  induction n with
  | zero => intros; exact xj_none
  | succ n ih =>
    intro x3 M
    rw [fX6_isGood_173]
    refine xj_iload_n Z 2 dX6_isGood_173 rfl rfl ?_
    refine xj_iconst Z 3 dX6_isGood_174 (by decide) ?_
    refine xj_icmp_ge Z 212 dX6_isGood_175 (by decide) (fun _ => ?_) (fun _ => ?_)
    · refine xj_sub [0, 1] (lv' := [(0, .ref (ad 60)), (2, .int x2)]) rfl ?_
      exact bX6_isGood_212 Z hS x2 M
    · refine xj_iload_n Z 1 dX6_isGood_178 rfl rfl ?_
      refine xj_if_eq Z 212 dX6_isGood_179 (by decide) (fun _ => ?_) (fun _ => ?_)
      · refine xj_sub [0, 1] (lv' := [(0, .ref (ad 60)), (2, .int x2)]) rfl ?_
        exact bX6_isGood_212 Z hS x2 M
      · refine xj_aload_n Z 0 dX6_isGood_182 rfl rfl ?_
        refine xg_X6_26 Z (hS 60 (by decide) (by decide)) dX6_isGood_183 ?_
        refine xj_bipush Z 24 dX6_isGood_186 (by decide) ?_
        refine xj_iconst Z 3 dX6_isGood_188 (by decide) ?_
        refine xj_aload_n Z 0 dX6_isGood_189 rfl rfl ?_
        refine xg_X6_23 Z (hS 60 (by decide) (by decide)) dX6_isGood_190 ?_
        refine xj_iconst Z 1 dX6_isGood_193 (by decide) ?_
        refine xj_iald Z (hS 65 (by decide) (by decide)) rfl dX6_isGood_194 (fun _ => ?_)
        refine xj_imul Z dX6_isGood_195 ?_
        refine xj_iadd Z dX6_isGood_196 ?_
        refine xj_iload_n Z 2 dX6_isGood_197 rfl rfl ?_
        refine xj_iadd Z dX6_isGood_198 ?_
        refine xj_aload_n Z 0 dX6_isGood_199 rfl rfl ?_
        refine xg_X6_45 Z (hS 60 (by decide) (by decide)) dX6_isGood_200 ?_
        refine xj_iload_n Z 2 dX6_isGood_203 rfl rfl ?_
        refine xj_iald Z (hS 72 (by decide) (by decide)) rfl dX6_isGood_204 (fun _ => ?_)
        refine xj_iast Z (hS 66 (by decide) (by decide)) rfl dX6_isGood_205 (fun M4 _ => ?_)
        refine xj_iinc Z 2 (x3 + 1) (lv' := [(3, .int (x3 + 1)), (0, .ref (ad 60)), (2, .int x2)]) dX6_isGood_206 rfl rfl (by decide) rfl ?_
        refine xj_goto Z 173 dX6_isGood_209 (by decide) ?_
        refine xj_sub [1, 2, 0] (lv' := [(0, .ref (ad 60)), (2, .int x2), (3, .int (x3 + 1))]) rfl ?_
        exact ih (x3 + 1) M4
theorem bX6_isGood_170 (Z : CX p s m args meth c cX6_isGood 4 RX6 (some .boolean) D cs (xA S ad) S ad) (hS : xalm S) (t0 : Int32) (M : xm) : XJ p l e rmX6_isGood s m args below meth c D cs (xA S ad) S ad 4 (XRb below args s D cs S ad) 170 [(0, .ref (ad 60))] [.int t0] M (fX6_isGood_170 t0 M) := by
  unfold fX6_isGood_170
  refine xj_istore_n Z (lv' := [(2, .int t0), (0, .ref (ad 60))]) dX6_isGood_170 rfl (by decide) rfl ?_
  refine xj_iconst Z 0 dX6_isGood_171 (by decide) ?_
  refine xj_istore_n Z (lv' := [(3, .int 0), (2, .int t0), (0, .ref (ad 60))]) dX6_isGood_172 rfl (by decide) rfl ?_
  refine xj_sub [2, 1, 0] (lv' := [(0, .ref (ad 60)), (2, .int t0), (3, .int 0)]) rfl ?_
  exact bX6_isGood_173 Z hS t0 xfuel 0 M
theorem bX6_isGood_169 (Z : CX p s m args meth c cX6_isGood 4 RX6 (some .boolean) D cs (xA S ad) S ad) (hS : xalm S) (M : xm) : XJ p l e rmX6_isGood s m args below meth c D cs (xA S ad) S ad 4 (XRb below args s D cs S ad) 169 [(0, .ref (ad 60))] [] M (fX6_isGood_169 M) := by
  unfold fX6_isGood_169
  refine xj_iconst Z 0 dX6_isGood_169 (by decide) ?_
  exact bX6_isGood_170 Z hS 0 M
theorem bX6_isGood_278 (Z : CX p s m args meth c cX6_isGood 4 RX6 (some .boolean) D cs (xA S ad) S ad) (hS : xalm S) (t0 : Int32) (M : xm) : XJ p l e rmX6_isGood s m args below meth c D cs (xA S ad) S ad 4 (XRb below args s D cs S ad) 278 [] [.int t0] M (fX6_isGood_278 t0 M) := by
  unfold fX6_isGood_278
  exact xj_zret_b Z dX6_isGood_278
theorem bX6_isGood_247 (Z : CX p s m args meth c cX6_isGood 4 RX6 (some .boolean) D cs (xA S ad) S ad) (hS : xalm S) (x1 : Int32) (t1 : Int32) (M : xm) : XJ p l e rmX6_isGood s m args below meth c D cs (xA S ad) S ad 4 (XRb below args s D cs S ad) 247 [(0, .ref (ad 60)), (1, .int x1)] [.int t1, .ref (ad 62)] M (fX6_isGood_247 x1 t1 M) := by
  unfold fX6_isGood_247
  refine xj_aload_n Z 0 dX6_isGood_247 rfl rfl ?_
  refine xg_X6_45 Z (hS 60 (by decide) (by decide)) dX6_isGood_248 ?_
  refine xj_iconst Z 0 dX6_isGood_251 (by decide) ?_
  refine xj_iald Z (hS 72 (by decide) (by decide)) rfl dX6_isGood_252 (fun _ => ?_)
  refine xj_iast Z (hS 62 (by decide) (by decide)) rfl dX6_isGood_253 (fun M5 _ => ?_)
  refine xj_iload_n Z 1 dX6_isGood_254 rfl rfl ?_
  refine xj_bipush Z 113 dX6_isGood_255 (by decide) ?_
  refine xj_icmp_ne Z 271 dX6_isGood_257 (by decide) (fun _ => ?_) (fun _ => ?_)
  · refine xj_aload_n Z 0 dX6_isGood_271 rfl rfl ?_
    refine xj_iconst Z 0 dX6_isGood_272 (by decide) ?_
    refine xj_iconst Z 1 dX6_isGood_273 (by decide) ?_
    refine xj_iconst Z 4 dX6_isGood_274 (by decide) ?_
    refine xj_callVr Z (As := [.int 0, .int 1, .int 4]) (kX6_isIn l D cs S ad Z.2.2.2.2.2.1.dist hS 0 1 4 M5) gw_X6_81 (hS 60 (by decide) (by decide)) rfl rfl (n := 3) (by decide +kernel) rfl ⟨rfl, rfl⟩ (by decide) rfl (Nat.le_of_ble_eq_true rfl) dX6_isGood_275 (fun v6 => ?_)
    refine xj_sub [] (lv' := []) rfl ?_
    exact bX6_isGood_278 Z hS v6 M5
  · refine xj_aload_n Z 0 dX6_isGood_260 rfl rfl ?_
    refine xj_iconst Z 0 dX6_isGood_261 (by decide) ?_
    refine xj_iconst Z 1 dX6_isGood_262 (by decide) ?_
    refine xj_bipush Z 8 dX6_isGood_263 (by decide) ?_
    refine xj_callVr Z (As := [.int 0, .int 1, .int 8]) (kX6_isIn l D cs S ad Z.2.2.2.2.2.1.dist hS 0 1 8 M5) gw_X6_81 (hS 60 (by decide) (by decide)) rfl rfl (n := 3) (by decide +kernel) rfl ⟨rfl, rfl⟩ (by decide) rfl (Nat.le_of_ble_eq_true rfl) dX6_isGood_265 (fun v7 => ?_)
    refine xj_goto Z 278 dX6_isGood_268 (by decide) ?_
    refine xj_sub [] (lv' := []) rfl ?_
    exact bX6_isGood_278 Z hS v7 M5
end
theorem kX6_isGood (l : Launch) (D : va_G) (cs : Nat → ClassId) (S : List Nat) (ad : Nat → Nat) (hd : xdist S ad) (hS : xalm S) (x1 : Int32) (M : xm) : ∀ r, fX6_isGood x1 M = some r → Met l yX6_isGood [Cond.code yX6_isGood cX6_isGood 4 (some .boolean)] rmX6_isGood (XPc D cs S ad [.ref (ad 60), .int x1] M) (XQi D cs S ad r.1 r.2) 0 0 (xA S ad) := by
  refine xm_b (own := RX6) (lv := [(0, .ref (ad 60)), (1, .int x1)]) (by decide +kernel) rfl rfl (Nat.le_of_ble_eq_true rfl) hd (fun p e s m args below meth c Z => ?_)
  unfold fX6_isGood
  refine xj_iload_n Z 1 dX6_isGood_0 rfl rfl ?_
  refine xj_bipush Z 112 dX6_isGood_1 (by decide) ?_
  refine xj_icmp_ne Z 116 dX6_isGood_3 (by decide) (fun _ => ?_) (fun _ => ?_)
  · refine xj_iload_n Z 1 dX6_isGood_116 rfl rfl ?_
    refine xj_bipush Z 109 dX6_isGood_117 (by decide) ?_
    refine xj_icmp_ne Z 232 dX6_isGood_119 (by decide) (fun _ => ?_) (fun _ => ?_)
    · refine xj_aload_n Z 0 dX6_isGood_232 rfl rfl ?_
      refine xg_X6_13 Z (hS 60 (by decide) (by decide)) dX6_isGood_233 ?_
      refine xj_iload_n Z 1 dX6_isGood_236 rfl rfl ?_
      refine xj_bipush Z 113 dX6_isGood_237 (by decide) ?_
      refine xj_icmp_ne Z 246 dX6_isGood_239 (by decide) (fun _ => ?_) (fun _ => ?_)
      · refine xj_iconst Z 3 dX6_isGood_246 (by decide) ?_
        exact bX6_isGood_247 Z hS x1 3 M
      · refine xj_iconst Z 2 dX6_isGood_242 (by decide) ?_
        refine xj_goto Z 247 dX6_isGood_243 (by decide) ?_
        exact bX6_isGood_247 Z hS x1 2 M
    · refine xj_aload_n Z 0 dX6_isGood_122 rfl rfl ?_
      refine xj_iconst Z 0 dX6_isGood_123 (by decide) ?_
      refine xj_iconst Z 0 dX6_isGood_124 (by decide) ?_
      refine xj_iconst Z 5 dX6_isGood_125 (by decide) ?_
      refine xj_callVr Z (As := [.int 0, .int 0, .int 5]) (kX6_isIn l D cs S ad Z.2.2.2.2.2.1.dist hS 0 0 5 M) gw_X6_81 (hS 60 (by decide) (by decide)) rfl rfl (n := 3) (by decide +kernel) rfl ⟨rfl, rfl⟩ (by decide) rfl (Nat.le_of_ble_eq_true rfl) dX6_isGood_126 (fun v8 => ?_)
      refine xj_if_eq Z 169 dX6_isGood_129 (by decide) (fun _ => ?_) (fun _ => ?_)
      · refine xj_sub [0] (lv' := [(0, .ref (ad 60))]) rfl ?_
        exact bX6_isGood_169 Z hS M
      · refine xj_aload_n Z 0 dX6_isGood_132 rfl rfl ?_
        refine xj_iconst Z 1 dX6_isGood_133 (by decide) ?_
        refine xj_iconst Z 1 dX6_isGood_134 (by decide) ?_
        refine xj_bipush Z 9 dX6_isGood_135 (by decide) ?_
        refine xj_callVr Z (As := [.int 1, .int 1, .int 9]) (kX6_isIn l D cs S ad Z.2.2.2.2.2.1.dist hS 1 1 9 M) gw_X6_81 (hS 60 (by decide) (by decide)) rfl rfl (n := 3) (by decide +kernel) rfl ⟨rfl, rfl⟩ (by decide) rfl (Nat.le_of_ble_eq_true rfl) dX6_isGood_137 (fun v9 => ?_)
        refine xj_if_eq Z 169 dX6_isGood_140 (by decide) (fun _ => ?_) (fun _ => ?_)
        · refine xj_sub [0] (lv' := [(0, .ref (ad 60))]) rfl ?_
          exact bX6_isGood_169 Z hS M
        · refine xj_aload_n Z 0 dX6_isGood_143 rfl rfl ?_
          refine xj_iconst Z 2 dX6_isGood_144 (by decide) ?_
          refine xj_iconst Z 0 dX6_isGood_145 (by decide) ?_
          refine xj_bipush Z 15 dX6_isGood_146 (by decide) ?_
          refine xj_callVr Z (As := [.int 2, .int 0, .int 15]) (kX6_isIn l D cs S ad Z.2.2.2.2.2.1.dist hS 2 0 15 M) gw_X6_81 (hS 60 (by decide) (by decide)) rfl rfl (n := 3) (by decide +kernel) rfl ⟨rfl, rfl⟩ (by decide) rfl (Nat.le_of_ble_eq_true rfl) dX6_isGood_148 (fun v10 => ?_)
          refine xj_if_eq Z 169 dX6_isGood_151 (by decide) (fun _ => ?_) (fun _ => ?_)
          · refine xj_sub [0] (lv' := [(0, .ref (ad 60))]) rfl ?_
            exact bX6_isGood_169 Z hS M
          · refine xj_aload_n Z 0 dX6_isGood_154 rfl rfl ?_
            refine xg_X6_23 Z (hS 60 (by decide) (by decide)) dX6_isGood_155 ?_
            refine xj_iconst Z 1 dX6_isGood_158 (by decide) ?_
            refine xj_iald Z (hS 65 (by decide) (by decide)) rfl dX6_isGood_159 (fun _ => ?_)
            refine xj_bipush Z 8 dX6_isGood_160 (by decide) ?_
            refine xj_icmp_ge Z 169 dX6_isGood_162 (by decide) (fun _ => ?_) (fun _ => ?_)
            · refine xj_sub [0] (lv' := [(0, .ref (ad 60))]) rfl ?_
              exact bX6_isGood_169 Z hS M
            · refine xj_iconst Z 1 dX6_isGood_165 (by decide) ?_
              refine xj_goto Z 170 dX6_isGood_166 (by decide) ?_
              refine xj_sub [0] (lv' := [(0, .ref (ad 60))]) rfl ?_
              exact bX6_isGood_170 Z hS 1 M
  · refine xj_aload_n Z 0 dX6_isGood_6 rfl rfl ?_
    refine xj_iconst Z 0 dX6_isGood_7 (by decide) ?_
    refine xj_iconst Z 1 dX6_isGood_8 (by decide) ?_
    refine xj_bipush Z 30 dX6_isGood_9 (by decide) ?_
    refine xj_callVr Z (As := [.int 0, .int 1, .int 30]) (kX6_isIn l D cs S ad Z.2.2.2.2.2.1.dist hS 0 1 30 M) gw_X6_81 (hS 60 (by decide) (by decide)) rfl rfl (n := 3) (by decide +kernel) rfl ⟨rfl, rfl⟩ (by decide) rfl (Nat.le_of_ble_eq_true rfl) dX6_isGood_11 (fun v11 => ?_)
    refine xj_if_eq Z 53 dX6_isGood_14 (by decide) (fun _ => ?_) (fun _ => ?_)
    · refine xj_sub [0] (lv' := [(0, .ref (ad 60))]) rfl ?_
      exact bX6_isGood_53 Z hS M
    · refine xj_aload_n Z 0 dX6_isGood_17 rfl rfl ?_
      refine xj_iconst Z 1 dX6_isGood_18 (by decide) ?_
      refine xj_iconst Z 0 dX6_isGood_19 (by decide) ?_
      refine xj_iconst Z 1 dX6_isGood_20 (by decide) ?_
      refine xj_callVr Z (As := [.int 1, .int 0, .int 1]) (kX6_isIn l D cs S ad Z.2.2.2.2.2.1.dist hS 1 0 1 M) gw_X6_81 (hS 60 (by decide) (by decide)) rfl rfl (n := 3) (by decide +kernel) rfl ⟨rfl, rfl⟩ (by decide) rfl (Nat.le_of_ble_eq_true rfl) dX6_isGood_21 (fun v12 => ?_)
      refine xj_if_eq Z 53 dX6_isGood_24 (by decide) (fun _ => ?_) (fun _ => ?_)
      · refine xj_sub [0] (lv' := [(0, .ref (ad 60))]) rfl ?_
        exact bX6_isGood_53 Z hS M
      · refine xj_aload_n Z 0 dX6_isGood_27 rfl rfl ?_
        refine xj_iconst Z 2 dX6_isGood_28 (by decide) ?_
        refine xj_iconst Z 0 dX6_isGood_29 (by decide) ?_
        refine xj_bipush Z 40 dX6_isGood_30 (by decide) ?_
        refine xj_callVr Z (As := [.int 2, .int 0, .int 40]) (kX6_isIn l D cs S ad Z.2.2.2.2.2.1.dist hS 2 0 40 M) gw_X6_81 (hS 60 (by decide) (by decide)) rfl rfl (n := 3) (by decide +kernel) rfl ⟨rfl, rfl⟩ (by decide) rfl (Nat.le_of_ble_eq_true rfl) dX6_isGood_32 (fun v13 => ?_)
        refine xj_if_eq Z 53 dX6_isGood_35 (by decide) (fun _ => ?_) (fun _ => ?_)
        · refine xj_sub [0] (lv' := [(0, .ref (ad 60))]) rfl ?_
          exact bX6_isGood_53 Z hS M
        · refine xj_aload_n Z 0 dX6_isGood_38 rfl rfl ?_
          refine xg_X6_17 Z (hS 60 (by decide) (by decide)) dX6_isGood_39 ?_
          refine xj_iconst Z 1 dX6_isGood_42 (by decide) ?_
          refine xj_iald Z (hS 63 (by decide) (by decide)) rfl dX6_isGood_43 (fun _ => ?_)
          refine xj_bipush Z 6 dX6_isGood_44 (by decide) ?_
          refine xj_icmp_ge Z 53 dX6_isGood_46 (by decide) (fun _ => ?_) (fun _ => ?_)
          · refine xj_sub [0] (lv' := [(0, .ref (ad 60))]) rfl ?_
            exact bX6_isGood_53 Z hS M
          · refine xj_iconst Z 1 dX6_isGood_49 (by decide) ?_
            refine xj_goto Z 54 dX6_isGood_50 (by decide) ?_
            refine xj_sub [0] (lv' := [(0, .ref (ad 60))]) rfl ?_
            exact bX6_isGood_54 Z hS 1 M
/-! WalkingLawModel.isItem()Z -/
theorem dX6_isItem_0 : decode cX6_isItem 0 = .ok (.aload_n 0, 1) := by decide +kernel
theorem dX6_isItem_1 : decode cX6_isItem 1 = .ok (.getfield 7, 3) := by decide +kernel
theorem dX6_isItem_4 : decode cX6_isItem 4 = .ok (.aload_n 0, 1) := by decide +kernel
theorem dX6_isItem_5 : decode cX6_isItem 5 = .ok (.getfield 64, 3) := by decide +kernel
theorem dX6_isItem_8 : decode cX6_isItem 8 = .ok (.baload, 1) := by decide +kernel
theorem dX6_isItem_9 : decode cX6_isItem 9 = .ok (.istore_n 1, 1) := by decide +kernel
theorem dX6_isItem_10 : decode cX6_isItem 10 = .ok (.aload_n 0, 1) := by decide +kernel
theorem dX6_isItem_11 : decode cX6_isItem 11 = .ok (.dup, 1) := by decide +kernel
theorem dX6_isItem_12 : decode cX6_isItem 12 = .ok (.getfield 64, 3) := by decide +kernel
theorem dX6_isItem_15 : decode cX6_isItem 15 = .ok (.iconst 1, 1) := by decide +kernel
theorem dX6_isItem_16 : decode cX6_isItem 16 = .ok (.iadd, 1) := by decide +kernel
theorem dX6_isItem_17 : decode cX6_isItem 17 = .ok (.putfield 64, 3) := by decide +kernel
theorem dX6_isItem_20 : decode cX6_isItem 20 = .ok (.iload_n 1, 1) := by decide +kernel
theorem dX6_isItem_21 : decode cX6_isItem 21 = .ok (.bipush 112, 2) := by decide +kernel
theorem dX6_isItem_23 : decode cX6_isItem 23 = .ok (.if_icmp .eq 9, 3) := by decide +kernel
theorem dX6_isItem_26 : decode cX6_isItem 26 = .ok (.iload_n 1, 1) := by decide +kernel
theorem dX6_isItem_27 : decode cX6_isItem 27 = .ok (.bipush 109, 2) := by decide +kernel
theorem dX6_isItem_29 : decode cX6_isItem 29 = .ok (.if_icmp .ne 7, 3) := by decide +kernel
theorem dX6_isItem_32 : decode cX6_isItem 32 = .ok (.iconst 3, 1) := by decide +kernel
theorem dX6_isItem_33 : decode cX6_isItem 33 = .ok (.goto 20, 3) := by decide +kernel
theorem dX6_isItem_36 : decode cX6_isItem 36 = .ok (.iload_n 1, 1) := by decide +kernel
theorem dX6_isItem_37 : decode cX6_isItem 37 = .ok (.bipush 113, 2) := by decide +kernel
theorem dX6_isItem_39 : decode cX6_isItem 39 = .ok (.if_icmp .eq 9, 3) := by decide +kernel
theorem dX6_isItem_42 : decode cX6_isItem 42 = .ok (.iload_n 1, 1) := by decide +kernel
theorem dX6_isItem_43 : decode cX6_isItem 43 = .ok (.bipush 98, 2) := by decide +kernel
theorem dX6_isItem_45 : decode cX6_isItem 45 = .ok (.if_icmp .ne 7, 3) := by decide +kernel
theorem dX6_isItem_48 : decode cX6_isItem 48 = .ok (.iconst 1, 1) := by decide +kernel
theorem dX6_isItem_49 : decode cX6_isItem 49 = .ok (.goto 4, 3) := by decide +kernel
theorem dX6_isItem_52 : decode cX6_isItem 52 = .ok (.iconst 0, 1) := by decide +kernel
theorem dX6_isItem_53 : decode cX6_isItem 53 = .ok (.istore_n 2, 1) := by decide +kernel
theorem dX6_isItem_54 : decode cX6_isItem 54 = .ok (.iload_n 2, 1) := by decide +kernel
theorem dX6_isItem_55 : decode cX6_isItem 55 = .ok (.ifCond .le 7, 3) := by decide +kernel
theorem dX6_isItem_58 : decode cX6_isItem 58 = .ok (.iconst 1, 1) := by decide +kernel
theorem dX6_isItem_59 : decode cX6_isItem 59 = .ok (.goto 4, 3) := by decide +kernel
theorem dX6_isItem_62 : decode cX6_isItem 62 = .ok (.iconst 0, 1) := by decide +kernel
theorem dX6_isItem_63 : decode cX6_isItem 63 = .ok (.istore_n 3, 1) := by decide +kernel
theorem dX6_isItem_64 : decode cX6_isItem 64 = .ok (.iconst 0, 1) := by decide +kernel
theorem dX6_isItem_65 : decode cX6_isItem 65 = .ok (.istore 4, 2) := by decide +kernel
theorem dX6_isItem_67 : decode cX6_isItem 67 = .ok (.iload 4, 2) := by decide +kernel
theorem dX6_isItem_69 : decode cX6_isItem 69 = .ok (.iload_n 2, 1) := by decide +kernel
theorem dX6_isItem_70 : decode cX6_isItem 70 = .ok (.if_icmp .ge 103, 3) := by decide +kernel
theorem dX6_isItem_73 : decode cX6_isItem 73 = .ok (.iload_n 3, 1) := by decide +kernel
theorem dX6_isItem_74 : decode cX6_isItem 74 = .ok (.ifCond .eq 99, 3) := by decide +kernel
theorem dX6_isItem_77 : decode cX6_isItem 77 = .ok (.iload 4, 2) := by decide +kernel
theorem dX6_isItem_79 : decode cX6_isItem 79 = .ok (.ifCond .eq 28, 3) := by decide +kernel
theorem dX6_isItem_82 : decode cX6_isItem 82 = .ok (.aload_n 0, 1) := by decide +kernel
theorem dX6_isItem_83 : decode cX6_isItem 83 = .ok (.getfield 64, 3) := by decide +kernel
theorem dX6_isItem_86 : decode cX6_isItem 86 = .ok (.aload_n 0, 1) := by decide +kernel
theorem dX6_isItem_87 : decode cX6_isItem 87 = .ok (.getfield 60, 3) := by decide +kernel
theorem dX6_isItem_90 : decode cX6_isItem 90 = .ok (.if_icmp .ge 21, 3) := by decide +kernel
theorem dX6_isItem_93 : decode cX6_isItem 93 = .ok (.aload_n 0, 1) := by decide +kernel
theorem dX6_isItem_94 : decode cX6_isItem 94 = .ok (.getfield 7, 3) := by decide +kernel
theorem dX6_isItem_97 : decode cX6_isItem 97 = .ok (.aload_n 0, 1) := by decide +kernel
theorem dX6_isItem_98 : decode cX6_isItem 98 = .ok (.getfield 64, 3) := by decide +kernel
theorem dX6_isItem_101 : decode cX6_isItem 101 = .ok (.baload, 1) := by decide +kernel
theorem dX6_isItem_102 : decode cX6_isItem 102 = .ok (.bipush 44, 2) := by decide +kernel
theorem dX6_isItem_104 : decode cX6_isItem 104 = .ok (.if_icmp .ne 7, 3) := by decide +kernel
theorem dX6_isItem_107 : decode cX6_isItem 107 = .ok (.iconst 1, 1) := by decide +kernel
theorem dX6_isItem_108 : decode cX6_isItem 108 = .ok (.goto 4, 3) := by decide +kernel
theorem dX6_isItem_111 : decode cX6_isItem 111 = .ok (.iconst 0, 1) := by decide +kernel
theorem dX6_isItem_112 : decode cX6_isItem 112 = .ok (.istore_n 3, 1) := by decide +kernel
theorem dX6_isItem_113 : decode cX6_isItem 113 = .ok (.aload_n 0, 1) := by decide +kernel
theorem dX6_isItem_114 : decode cX6_isItem 114 = .ok (.dup, 1) := by decide +kernel
theorem dX6_isItem_115 : decode cX6_isItem 115 = .ok (.getfield 64, 3) := by decide +kernel
theorem dX6_isItem_118 : decode cX6_isItem 118 = .ok (.iload 4, 2) := by decide +kernel
theorem dX6_isItem_120 : decode cX6_isItem 120 = .ok (.ifCond .ne 7, 3) := by decide +kernel
theorem dX6_isItem_123 : decode cX6_isItem 123 = .ok (.iconst 0, 1) := by decide +kernel
theorem dX6_isItem_124 : decode cX6_isItem 124 = .ok (.goto 4, 3) := by decide +kernel
theorem dX6_isItem_127 : decode cX6_isItem 127 = .ok (.iconst 1, 1) := by decide +kernel
theorem dX6_isItem_128 : decode cX6_isItem 128 = .ok (.iadd, 1) := by decide +kernel
theorem dX6_isItem_129 : decode cX6_isItem 129 = .ok (.putfield 64, 3) := by decide +kernel
theorem dX6_isItem_132 : decode cX6_isItem 132 = .ok (.aload_n 0, 1) := by decide +kernel
theorem dX6_isItem_133 : decode cX6_isItem 133 = .ok (.getfield 45, 3) := by decide +kernel
theorem dX6_isItem_136 : decode cX6_isItem 136 = .ok (.iload 4, 2) := by decide +kernel
theorem dX6_isItem_138 : decode cX6_isItem 138 = .ok (.iload_n 3, 1) := by decide +kernel
theorem dX6_isItem_139 : decode cX6_isItem 139 = .ok (.ifCond .eq 10, 3) := by decide +kernel
theorem dX6_isItem_142 : decode cX6_isItem 142 = .ok (.aload_n 0, 1) := by decide +kernel
theorem dX6_isItem_143 : decode cX6_isItem 143 = .ok (.invokevirtual 73, 3) := by decide +kernel
theorem dX6_isItem_146 : decode cX6_isItem 146 = .ok (.goto 4, 3) := by decide +kernel
theorem dX6_isItem_149 : decode cX6_isItem 149 = .ok (.iconst (-1), 1) := by decide +kernel
theorem dX6_isItem_150 : decode cX6_isItem 150 = .ok (.iastore, 1) := by decide +kernel
theorem dX6_isItem_151 : decode cX6_isItem 151 = .ok (.aload_n 0, 1) := by decide +kernel
theorem dX6_isItem_152 : decode cX6_isItem 152 = .ok (.getfield 45, 3) := by decide +kernel
theorem dX6_isItem_155 : decode cX6_isItem 155 = .ok (.iload 4, 2) := by decide +kernel
theorem dX6_isItem_157 : decode cX6_isItem 157 = .ok (.iaload, 1) := by decide +kernel
theorem dX6_isItem_158 : decode cX6_isItem 158 = .ok (.ifCond .lt 7, 3) := by decide +kernel
theorem dX6_isItem_161 : decode cX6_isItem 161 = .ok (.iconst 1, 1) := by decide +kernel
theorem dX6_isItem_162 : decode cX6_isItem 162 = .ok (.goto 4, 3) := by decide +kernel
theorem dX6_isItem_165 : decode cX6_isItem 165 = .ok (.iconst 0, 1) := by decide +kernel
theorem dX6_isItem_166 : decode cX6_isItem 166 = .ok (.istore_n 3, 1) := by decide +kernel
theorem dX6_isItem_167 : decode cX6_isItem 167 = .ok (.iinc 4 1, 3) := by decide +kernel
theorem dX6_isItem_170 : decode cX6_isItem 170 = .ok (.goto (-103), 3) := by decide +kernel
theorem dX6_isItem_173 : decode cX6_isItem 173 = .ok (.iload_n 3, 1) := by decide +kernel
theorem dX6_isItem_174 : decode cX6_isItem 174 = .ok (.ifCond .eq 32, 3) := by decide +kernel
theorem dX6_isItem_177 : decode cX6_isItem 177 = .ok (.aload_n 0, 1) := by decide +kernel
theorem dX6_isItem_178 : decode cX6_isItem 178 = .ok (.getfield 64, 3) := by decide +kernel
theorem dX6_isItem_181 : decode cX6_isItem 181 = .ok (.aload_n 0, 1) := by decide +kernel
theorem dX6_isItem_182 : decode cX6_isItem 182 = .ok (.getfield 60, 3) := by decide +kernel
theorem dX6_isItem_185 : decode cX6_isItem 185 = .ok (.if_icmp .ge 21, 3) := by decide +kernel
theorem dX6_isItem_188 : decode cX6_isItem 188 = .ok (.aload_n 0, 1) := by decide +kernel
theorem dX6_isItem_189 : decode cX6_isItem 189 = .ok (.getfield 7, 3) := by decide +kernel
theorem dX6_isItem_192 : decode cX6_isItem 192 = .ok (.aload_n 0, 1) := by decide +kernel
theorem dX6_isItem_193 : decode cX6_isItem 193 = .ok (.getfield 64, 3) := by decide +kernel
theorem dX6_isItem_196 : decode cX6_isItem 196 = .ok (.baload, 1) := by decide +kernel
theorem dX6_isItem_197 : decode cX6_isItem 197 = .ok (.bipush 59, 2) := by decide +kernel
theorem dX6_isItem_199 : decode cX6_isItem 199 = .ok (.if_icmp .ne 7, 3) := by decide +kernel
theorem dX6_isItem_202 : decode cX6_isItem 202 = .ok (.iconst 1, 1) := by decide +kernel
theorem dX6_isItem_203 : decode cX6_isItem 203 = .ok (.goto 4, 3) := by decide +kernel
theorem dX6_isItem_206 : decode cX6_isItem 206 = .ok (.iconst 0, 1) := by decide +kernel
theorem dX6_isItem_207 : decode cX6_isItem 207 = .ok (.istore_n 3, 1) := by decide +kernel
theorem dX6_isItem_208 : decode cX6_isItem 208 = .ok (.aload_n 0, 1) := by decide +kernel
theorem dX6_isItem_209 : decode cX6_isItem 209 = .ok (.dup, 1) := by decide +kernel
theorem dX6_isItem_210 : decode cX6_isItem 210 = .ok (.getfield 64, 3) := by decide +kernel
theorem dX6_isItem_213 : decode cX6_isItem 213 = .ok (.iconst 1, 1) := by decide +kernel
theorem dX6_isItem_214 : decode cX6_isItem 214 = .ok (.iadd, 1) := by decide +kernel
theorem dX6_isItem_215 : decode cX6_isItem 215 = .ok (.putfield 64, 3) := by decide +kernel
theorem dX6_isItem_218 : decode cX6_isItem 218 = .ok (.iload_n 3, 1) := by decide +kernel
theorem dX6_isItem_219 : decode cX6_isItem 219 = .ok (.ifCond .eq 15, 3) := by decide +kernel
theorem dX6_isItem_222 : decode cX6_isItem 222 = .ok (.aload_n 0, 1) := by decide +kernel
theorem dX6_isItem_223 : decode cX6_isItem 223 = .ok (.iload_n 1, 1) := by decide +kernel
theorem dX6_isItem_224 : decode cX6_isItem 224 = .ok (.invokevirtual 77, 3) := by decide +kernel
theorem dX6_isItem_227 : decode cX6_isItem 227 = .ok (.ifCond .eq 7, 3) := by decide +kernel
theorem dX6_isItem_230 : decode cX6_isItem 230 = .ok (.iconst 1, 1) := by decide +kernel
theorem dX6_isItem_231 : decode cX6_isItem 231 = .ok (.goto 4, 3) := by decide +kernel
theorem dX6_isItem_234 : decode cX6_isItem 234 = .ok (.iconst 0, 1) := by decide +kernel
theorem dX6_isItem_235 : decode cX6_isItem 235 = .ok (.ireturn, 1) := by decide +kernel
def rmX6_isItem : Room := { frames := 3, cells := 0, slots := 0, locals := 71 }
def fX6_isItem_166 (k67 : Int32 → Int32 → xm → Option (Int32 × xm)) (x1 : Int32) (x2 : Int32) (x4 : Int32) (t0 : Int32) (M : xm) : Option (Int32 × xm) := (k67 t0 (x4 + 1) M)
def fX6_isItem_150 (k67 : Int32 → Int32 → xm → Option (Int32 × xm)) (x1 : Int32) (x2 : Int32) (x4 : Int32) (t1 : Int32) (t2 : Int32) (M : xm) : Option (Int32 × xm) := xchk t1 3 (xl (up M 72 (t1 : Int32).toNatClampNeg t2) (fun M1 => xchk x4 3 ((if (M1.1 72 x4.toNatClampNeg) < 0 then (fX6_isItem_166 (k67) x1 x2 x4 0 M1) else (fX6_isItem_166 (k67) x1 x2 x4 1 M1)))))
def fX6_isItem_128 (k67 : Int32 → Int32 → xm → Option (Int32 × xm)) (x1 : Int32) (x2 : Int32) (x3 : Int32) (x4 : Int32) (t1 : Int32) (t2 : Int32) (M : xm) : Option (Int32 × xm) := xl (up M 60 2 (t1 + t2)) (fun M2 => (if x3 = 0 then (fX6_isItem_150 (k67) x1 x2 x4 x4 (-1) M2) else (fX6_number M2).bind (fun q3 => (fX6_isItem_150 (k67) x1 x2 x4 x4 q3.1 q3.2))))
def fX6_isItem_112 (k67 : Int32 → Int32 → xm → Option (Int32 × xm)) (x1 : Int32) (x2 : Int32) (x4 : Int32) (t0 : Int32) (M : xm) : Option (Int32 × xm) := (if x4 = 0 then (fX6_isItem_128 (k67) x1 x2 t0 x4 (M.1 60 2) 0 M) else (fX6_isItem_128 (k67) x1 x2 t0 x4 (M.1 60 2) 1 M))
def fX6_isItem_107 (k67 : Int32 → Int32 → xm → Option (Int32 × xm)) (x1 : Int32) (x2 : Int32) (x4 : Int32) (M : xm) : Option (Int32 × xm) := (fX6_isItem_112 (k67) x1 x2 x4 1 M)
def fX6_isItem_111 (k67 : Int32 → Int32 → xm → Option (Int32 × xm)) (x1 : Int32) (x2 : Int32) (x4 : Int32) (M : xm) : Option (Int32 × xm) := (fX6_isItem_112 (k67) x1 x2 x4 0 M)
def fX6_isItem_235 (t0 : Int32) (M : xm) : Option (Int32 × xm) := (xbo t0 (some (t0, M)))
def fX6_isItem_234 (M : xm) : Option (Int32 × xm) := (fX6_isItem_235 0 M)
def fX6_isItem_207 (x1 : Int32) (t0 : Int32) (M : xm) : Option (Int32 × xm) := xl (up M 60 2 ((M.1 60 2) + 1)) (fun M4 => (if t0 = 0 then (fX6_isItem_234 M4) else (fX6_isGood x1 M4).bind (fun q5 => (if q5.1 = 0 then (fX6_isItem_234 q5.2) else (fX6_isItem_235 1 q5.2)))))
def fX6_isItem_206 (x1 : Int32) (M : xm) : Option (Int32 × xm) := (fX6_isItem_207 x1 0 M)
def fX6_isItem_173 (x1 : Int32) (x3 : Int32) (M : xm) : Option (Int32 × xm) := (if x3 = 0 then (fX6_isItem_206 x1 M) else (if (M.1 60 0) ≤ (M.1 60 2) then (fX6_isItem_206 x1 M) else xchk (M.1 60 2) 300 ((if (M.1 61 ((M.1 60 2)).toNatClampNeg) = 59 then (fX6_isItem_207 x1 1 M) else (fX6_isItem_206 x1 M)))))
def fX6_isItem_67 (x1 : Int32) (x2 : Int32) : Nat → Int32 → Int32 → xm → Option (Int32 × xm)
  | 0, _, _, _ => none
  | n + 1, x3, x4, M => (if x2 ≤ x4 then (fX6_isItem_173 x1 x3 M) else (if x3 = 0 then (fX6_isItem_173 x1 x3 M) else (if x4 = 0 then (fX6_isItem_107 (fun z0 z1 z2 => fX6_isItem_67 x1 x2 n z0 z1 z2) x1 x2 x4 M) else (if (M.1 60 0) ≤ (M.1 60 2) then (fX6_isItem_111 (fun z0 z1 z2 => fX6_isItem_67 x1 x2 n z0 z1 z2) x1 x2 x4 M) else xchk (M.1 60 2) 300 ((if (M.1 61 ((M.1 60 2)).toNatClampNeg) = 44 then (fX6_isItem_107 (fun z0 z1 z2 => fX6_isItem_67 x1 x2 n z0 z1 z2) x1 x2 x4 M) else (fX6_isItem_111 (fun z0 z1 z2 => fX6_isItem_67 x1 x2 n z0 z1 z2) x1 x2 x4 M)))))))
def fX6_isItem_63 (x1 : Int32) (x2 : Int32) (t0 : Int32) (M : xm) : Option (Int32 × xm) := (fX6_isItem_67 x1 x2 xfuel t0 0 M)
def fX6_isItem_53 (x1 : Int32) (t0 : Int32) (M : xm) : Option (Int32 × xm) := (if t0 ≤ 0 then (fX6_isItem_63 x1 t0 0 M) else (fX6_isItem_63 x1 t0 1 M))
def fX6_isItem_32 (x1 : Int32) (M : xm) : Option (Int32 × xm) := (fX6_isItem_53 x1 3 M)
def fX6_isItem_48 (x1 : Int32) (M : xm) : Option (Int32 × xm) := (fX6_isItem_53 x1 1 M)
def fX6_isItem (M : xm) : Option (Int32 × xm) := xchk (M.1 60 2) 300 (xl (M.1 61 ((M.1 60 2)).toNatClampNeg) (fun v6 => xl (up M 60 2 ((M.1 60 2) + 1)) (fun M7 => (if v6 = 112 then (fX6_isItem_32 v6 M7) else (if v6 = 109 then (fX6_isItem_32 v6 M7) else (if v6 = 113 then (fX6_isItem_48 v6 M7) else (if v6 = 98 then (fX6_isItem_48 v6 M7) else (fX6_isItem_53 v6 0 M7))))))))
section
variable {p : Program} {l : Launch} {e : Env} {s : State} {m : MethodId} {args : Array Value} {below : List Frame} {meth : Method} {c : Code} {D : va_G} {cs : Nat → ClassId} {S : List Nat} {ad : Nat → Nat}
theorem bX6_isItem_166 (Z : CX p s m args meth c cX6_isItem 5 RX6 (some .boolean) D cs (xA S ad) S ad) (hS : xalm S) {k67 : Int32 → Int32 → xm → Option (Int32 × xm)} (x1 : Int32) (x2 : Int32) (x4 : Int32) (t0 : Int32) (M : xm) (hk67 : ∀ (x3 : Int32) (x4 : Int32) (M : xm), XJ p l e rmX6_isItem s m args below meth c D cs (xA S ad) S ad 5 (XRb below args s D cs S ad) 67 [(0, .ref (ad 60)), (1, .int x1), (2, .int x2), (3, .int x3), (4, .int x4)] [] M (k67 x3 x4 M)) : XJ p l e rmX6_isItem s m args below meth c D cs (xA S ad) S ad 5 (XRb below args s D cs S ad) 166 [(0, .ref (ad 60)), (1, .int x1), (2, .int x2), (4, .int x4)] [.int t0] M (fX6_isItem_166 k67 x1 x2 x4 t0 M) := by
  unfold fX6_isItem_166
  refine xj_istore_n Z (lv' := [(3, .int t0), (0, .ref (ad 60)), (1, .int x1), (2, .int x2), (4, .int x4)]) dX6_isItem_166 rfl (by decide) rfl ?_
  refine xj_iinc Z 4 (x4 + 1) (lv' := [(4, .int (x4 + 1)), (3, .int t0), (0, .ref (ad 60)), (1, .int x1), (2, .int x2)]) dX6_isItem_167 rfl rfl (by decide) rfl ?_
  refine xj_goto Z 67 dX6_isItem_170 (by decide) ?_
  refine xj_sub [2, 3, 4, 1, 0] (lv' := [(0, .ref (ad 60)), (1, .int x1), (2, .int x2), (3, .int t0), (4, .int (x4 + 1))]) rfl ?_
  exact hk67 t0 (x4 + 1) M
theorem bX6_isItem_150 (Z : CX p s m args meth c cX6_isItem 5 RX6 (some .boolean) D cs (xA S ad) S ad) (hS : xalm S) {k67 : Int32 → Int32 → xm → Option (Int32 × xm)} (x1 : Int32) (x2 : Int32) (x4 : Int32) (t1 : Int32) (t2 : Int32) (M : xm) (hk67 : ∀ (x3 : Int32) (x4 : Int32) (M : xm), XJ p l e rmX6_isItem s m args below meth c D cs (xA S ad) S ad 5 (XRb below args s D cs S ad) 67 [(0, .ref (ad 60)), (1, .int x1), (2, .int x2), (3, .int x3), (4, .int x4)] [] M (k67 x3 x4 M)) : XJ p l e rmX6_isItem s m args below meth c D cs (xA S ad) S ad 5 (XRb below args s D cs S ad) 150 [(0, .ref (ad 60)), (1, .int x1), (2, .int x2), (4, .int x4)] [.int t2, .int t1, .ref (ad 72)] M (fX6_isItem_150 k67 x1 x2 x4 t1 t2 M) := by
  unfold fX6_isItem_150
  refine xj_iast Z (hS 72 (by decide) (by decide)) rfl dX6_isItem_150 (fun M1 _ => ?_)
  refine xj_aload_n Z 0 dX6_isItem_151 rfl rfl ?_
  refine xg_X6_45 Z (hS 60 (by decide) (by decide)) dX6_isItem_152 ?_
  refine xj_iload Z 3 dX6_isItem_155 rfl ?_
  refine xj_iald Z (hS 72 (by decide) (by decide)) rfl dX6_isItem_157 (fun _ => ?_)
  refine xj_if_lt Z 165 dX6_isItem_158 (by decide) (fun _ => ?_) (fun _ => ?_)
  · refine xj_iconst Z 0 dX6_isItem_165 (by decide) ?_
    exact bX6_isItem_166 Z hS x1 x2 x4 0 M1 hk67
  · refine xj_iconst Z 1 dX6_isItem_161 (by decide) ?_
    refine xj_goto Z 166 dX6_isItem_162 (by decide) ?_
    exact bX6_isItem_166 Z hS x1 x2 x4 1 M1 hk67
theorem bX6_isItem_128 (Z : CX p s m args meth c cX6_isItem 5 RX6 (some .boolean) D cs (xA S ad) S ad) (hS : xalm S) {k67 : Int32 → Int32 → xm → Option (Int32 × xm)} (x1 : Int32) (x2 : Int32) (x3 : Int32) (x4 : Int32) (t1 : Int32) (t2 : Int32) (M : xm) (hk67 : ∀ (x3 : Int32) (x4 : Int32) (M : xm), XJ p l e rmX6_isItem s m args below meth c D cs (xA S ad) S ad 5 (XRb below args s D cs S ad) 67 [(0, .ref (ad 60)), (1, .int x1), (2, .int x2), (3, .int x3), (4, .int x4)] [] M (k67 x3 x4 M)) : XJ p l e rmX6_isItem s m args below meth c D cs (xA S ad) S ad 5 (XRb below args s D cs S ad) 128 [(0, .ref (ad 60)), (1, .int x1), (2, .int x2), (3, .int x3), (4, .int x4)] [.int t2, .int t1, .ref (ad 60)] M (fX6_isItem_128 k67 x1 x2 x3 x4 t1 t2 M) := by
  unfold fX6_isItem_128
  refine xj_iadd Z dX6_isItem_128 ?_
  refine xp_X6_64 Z (hS 60 (by decide) (by decide)) dX6_isItem_129 (fun M2 _ => ?_)
  refine xj_aload_n Z 0 dX6_isItem_132 rfl rfl ?_
  refine xg_X6_45 Z (hS 60 (by decide) (by decide)) dX6_isItem_133 ?_
  refine xj_iload Z 4 dX6_isItem_136 rfl ?_
  refine xj_iload_n Z 3 dX6_isItem_138 rfl rfl ?_
  refine xj_if_eq Z 149 dX6_isItem_139 (by decide) (fun _ => ?_) (fun _ => ?_)
  · refine xj_iconst Z (-1) dX6_isItem_149 (by decide) ?_
    refine xj_sub [0, 1, 2, 4] (lv' := [(0, .ref (ad 60)), (1, .int x1), (2, .int x2), (4, .int x4)]) rfl ?_
    exact bX6_isItem_150 Z hS x1 x2 x4 x4 (-1) M2 hk67
  · refine xj_aload_n Z 0 dX6_isItem_142 rfl rfl ?_
    refine xj_callVb Z (As := []) (kX6_number l D cs S ad Z.2.2.2.2.2.1.dist hS M2) gw_X6_73 (hS 60 (by decide) (by decide)) rfl rfl (n := 0) (by decide +kernel) rfl ⟨rfl, rfl⟩ (by decide) rfl (Nat.le_of_ble_eq_true rfl) dX6_isItem_143 (fun q3 => ?_)
    refine xj_goto Z 150 dX6_isItem_146 (by decide) ?_
    refine xj_sub [0, 1, 2, 4] (lv' := [(0, .ref (ad 60)), (1, .int x1), (2, .int x2), (4, .int x4)]) rfl ?_
    exact bX6_isItem_150 Z hS x1 x2 x4 x4 q3.1 q3.2 hk67
theorem bX6_isItem_112 (Z : CX p s m args meth c cX6_isItem 5 RX6 (some .boolean) D cs (xA S ad) S ad) (hS : xalm S) {k67 : Int32 → Int32 → xm → Option (Int32 × xm)} (x1 : Int32) (x2 : Int32) (x4 : Int32) (t0 : Int32) (M : xm) (hk67 : ∀ (x3 : Int32) (x4 : Int32) (M : xm), XJ p l e rmX6_isItem s m args below meth c D cs (xA S ad) S ad 5 (XRb below args s D cs S ad) 67 [(0, .ref (ad 60)), (1, .int x1), (2, .int x2), (3, .int x3), (4, .int x4)] [] M (k67 x3 x4 M)) : XJ p l e rmX6_isItem s m args below meth c D cs (xA S ad) S ad 5 (XRb below args s D cs S ad) 112 [(0, .ref (ad 60)), (1, .int x1), (2, .int x2), (4, .int x4)] [.int t0] M (fX6_isItem_112 k67 x1 x2 x4 t0 M) := by
  unfold fX6_isItem_112
  refine xj_istore_n Z (lv' := [(3, .int t0), (0, .ref (ad 60)), (1, .int x1), (2, .int x2), (4, .int x4)]) dX6_isItem_112 rfl (by decide) rfl ?_
  refine xj_aload_n Z 1 dX6_isItem_113 rfl rfl ?_
  refine xj_dup Z dX6_isItem_114 rfl ?_
  refine xg_X6_64 Z (hS 60 (by decide) (by decide)) dX6_isItem_115 ?_
  refine xj_iload Z 4 dX6_isItem_118 rfl ?_
  refine xj_if_ne Z 127 dX6_isItem_120 (by decide) (fun _ => ?_) (fun _ => ?_)
  · refine xj_iconst Z 1 dX6_isItem_127 (by decide) ?_
    refine xj_sub [1, 2, 3, 0, 4] (lv' := [(0, .ref (ad 60)), (1, .int x1), (2, .int x2), (3, .int t0), (4, .int x4)]) rfl ?_
    exact bX6_isItem_128 Z hS x1 x2 t0 x4 (M.1 60 2) 1 M hk67
  · refine xj_iconst Z 0 dX6_isItem_123 (by decide) ?_
    refine xj_goto Z 128 dX6_isItem_124 (by decide) ?_
    refine xj_sub [1, 2, 3, 0, 4] (lv' := [(0, .ref (ad 60)), (1, .int x1), (2, .int x2), (3, .int t0), (4, .int x4)]) rfl ?_
    exact bX6_isItem_128 Z hS x1 x2 t0 x4 (M.1 60 2) 0 M hk67
theorem bX6_isItem_107 (Z : CX p s m args meth c cX6_isItem 5 RX6 (some .boolean) D cs (xA S ad) S ad) (hS : xalm S) {k67 : Int32 → Int32 → xm → Option (Int32 × xm)} (x1 : Int32) (x2 : Int32) (x4 : Int32) (M : xm) (hk67 : ∀ (x3 : Int32) (x4 : Int32) (M : xm), XJ p l e rmX6_isItem s m args below meth c D cs (xA S ad) S ad 5 (XRb below args s D cs S ad) 67 [(0, .ref (ad 60)), (1, .int x1), (2, .int x2), (3, .int x3), (4, .int x4)] [] M (k67 x3 x4 M)) : XJ p l e rmX6_isItem s m args below meth c D cs (xA S ad) S ad 5 (XRb below args s D cs S ad) 107 [(0, .ref (ad 60)), (1, .int x1), (2, .int x2), (4, .int x4)] [] M (fX6_isItem_107 k67 x1 x2 x4 M) := by
  unfold fX6_isItem_107
  refine xj_iconst Z 1 dX6_isItem_107 (by decide) ?_
  refine xj_goto Z 112 dX6_isItem_108 (by decide) ?_
  exact bX6_isItem_112 Z hS x1 x2 x4 1 M hk67
theorem bX6_isItem_111 (Z : CX p s m args meth c cX6_isItem 5 RX6 (some .boolean) D cs (xA S ad) S ad) (hS : xalm S) {k67 : Int32 → Int32 → xm → Option (Int32 × xm)} (x1 : Int32) (x2 : Int32) (x4 : Int32) (M : xm) (hk67 : ∀ (x3 : Int32) (x4 : Int32) (M : xm), XJ p l e rmX6_isItem s m args below meth c D cs (xA S ad) S ad 5 (XRb below args s D cs S ad) 67 [(0, .ref (ad 60)), (1, .int x1), (2, .int x2), (3, .int x3), (4, .int x4)] [] M (k67 x3 x4 M)) : XJ p l e rmX6_isItem s m args below meth c D cs (xA S ad) S ad 5 (XRb below args s D cs S ad) 111 [(0, .ref (ad 60)), (1, .int x1), (2, .int x2), (4, .int x4)] [] M (fX6_isItem_111 k67 x1 x2 x4 M) := by
  unfold fX6_isItem_111
  refine xj_iconst Z 0 dX6_isItem_111 (by decide) ?_
  exact bX6_isItem_112 Z hS x1 x2 x4 0 M hk67
theorem bX6_isItem_235 (Z : CX p s m args meth c cX6_isItem 5 RX6 (some .boolean) D cs (xA S ad) S ad) (hS : xalm S) (t0 : Int32) (M : xm) : XJ p l e rmX6_isItem s m args below meth c D cs (xA S ad) S ad 5 (XRb below args s D cs S ad) 235 [] [.int t0] M (fX6_isItem_235 t0 M) := by
  unfold fX6_isItem_235
  exact xj_zret_b Z dX6_isItem_235
theorem bX6_isItem_234 (Z : CX p s m args meth c cX6_isItem 5 RX6 (some .boolean) D cs (xA S ad) S ad) (hS : xalm S) (M : xm) : XJ p l e rmX6_isItem s m args below meth c D cs (xA S ad) S ad 5 (XRb below args s D cs S ad) 234 [] [] M (fX6_isItem_234 M) := by
  unfold fX6_isItem_234
  refine xj_iconst Z 0 dX6_isItem_234 (by decide) ?_
  exact bX6_isItem_235 Z hS 0 M
theorem bX6_isItem_207 (Z : CX p s m args meth c cX6_isItem 5 RX6 (some .boolean) D cs (xA S ad) S ad) (hS : xalm S) (x1 : Int32) (t0 : Int32) (M : xm) : XJ p l e rmX6_isItem s m args below meth c D cs (xA S ad) S ad 5 (XRb below args s D cs S ad) 207 [(0, .ref (ad 60)), (1, .int x1)] [.int t0] M (fX6_isItem_207 x1 t0 M) := by
  unfold fX6_isItem_207
  refine xj_istore_n Z (lv' := [(3, .int t0), (0, .ref (ad 60)), (1, .int x1)]) dX6_isItem_207 rfl (by decide) rfl ?_
  refine xj_aload_n Z 1 dX6_isItem_208 rfl rfl ?_
  refine xj_dup Z dX6_isItem_209 rfl ?_
  refine xg_X6_64 Z (hS 60 (by decide) (by decide)) dX6_isItem_210 ?_
  refine xj_iconst Z 1 dX6_isItem_213 (by decide) ?_
  refine xj_iadd Z dX6_isItem_214 ?_
  refine xp_X6_64 Z (hS 60 (by decide) (by decide)) dX6_isItem_215 (fun M4 _ => ?_)
  refine xj_iload_n Z 0 dX6_isItem_218 rfl rfl ?_
  refine xj_if_eq Z 234 dX6_isItem_219 (by decide) (fun _ => ?_) (fun _ => ?_)
  · refine xj_sub [] (lv' := []) rfl ?_
    exact bX6_isItem_234 Z hS M4
  · refine xj_aload_n Z 1 dX6_isItem_222 rfl rfl ?_
    refine xj_iload_n Z 2 dX6_isItem_223 rfl rfl ?_
    refine xj_callVb Z (As := [.int x1]) (kX6_isGood l D cs S ad Z.2.2.2.2.2.1.dist hS x1 M4) gw_X6_77 (hS 60 (by decide) (by decide)) rfl rfl (n := 1) (by decide +kernel) rfl ⟨rfl, rfl⟩ (by decide) rfl (Nat.le_of_ble_eq_true rfl) dX6_isItem_224 (fun q5 => ?_)
    refine xj_if_eq Z 234 dX6_isItem_227 (by decide) (fun _ => ?_) (fun _ => ?_)
    · refine xj_sub [] (lv' := []) rfl ?_
      exact bX6_isItem_234 Z hS q5.2
    · refine xj_iconst Z 1 dX6_isItem_230 (by decide) ?_
      refine xj_goto Z 235 dX6_isItem_231 (by decide) ?_
      refine xj_sub [] (lv' := []) rfl ?_
      exact bX6_isItem_235 Z hS 1 q5.2
theorem bX6_isItem_206 (Z : CX p s m args meth c cX6_isItem 5 RX6 (some .boolean) D cs (xA S ad) S ad) (hS : xalm S) (x1 : Int32) (M : xm) : XJ p l e rmX6_isItem s m args below meth c D cs (xA S ad) S ad 5 (XRb below args s D cs S ad) 206 [(0, .ref (ad 60)), (1, .int x1)] [] M (fX6_isItem_206 x1 M) := by
  unfold fX6_isItem_206
  refine xj_iconst Z 0 dX6_isItem_206 (by decide) ?_
  exact bX6_isItem_207 Z hS x1 0 M
theorem bX6_isItem_173 (Z : CX p s m args meth c cX6_isItem 5 RX6 (some .boolean) D cs (xA S ad) S ad) (hS : xalm S) (x1 : Int32) (x3 : Int32) (M : xm) : XJ p l e rmX6_isItem s m args below meth c D cs (xA S ad) S ad 5 (XRb below args s D cs S ad) 173 [(0, .ref (ad 60)), (1, .int x1), (3, .int x3)] [] M (fX6_isItem_173 x1 x3 M) := by
  unfold fX6_isItem_173
  refine xj_iload_n Z 2 dX6_isItem_173 rfl rfl ?_
  refine xj_if_eq Z 206 dX6_isItem_174 (by decide) (fun _ => ?_) (fun _ => ?_)
  · refine xj_sub [0, 1] (lv' := [(0, .ref (ad 60)), (1, .int x1)]) rfl ?_
    exact bX6_isItem_206 Z hS x1 M
  · refine xj_aload_n Z 0 dX6_isItem_177 rfl rfl ?_
    refine xg_X6_64 Z (hS 60 (by decide) (by decide)) dX6_isItem_178 ?_
    refine xj_aload_n Z 0 dX6_isItem_181 rfl rfl ?_
    refine xg_X6_60 Z (hS 60 (by decide) (by decide)) dX6_isItem_182 ?_
    refine xj_icmp_ge Z 206 dX6_isItem_185 (by decide) (fun _ => ?_) (fun _ => ?_)
    · refine xj_sub [0, 1] (lv' := [(0, .ref (ad 60)), (1, .int x1)]) rfl ?_
      exact bX6_isItem_206 Z hS x1 M
    · refine xj_aload_n Z 0 dX6_isItem_188 rfl rfl ?_
      refine xg_X6_7 Z (hS 60 (by decide) (by decide)) dX6_isItem_189 ?_
      refine xj_aload_n Z 0 dX6_isItem_192 rfl rfl ?_
      refine xg_X6_64 Z (hS 60 (by decide) (by decide)) dX6_isItem_193 ?_
      refine xj_bald Z (hS 61 (by decide) (by decide)) rfl dX6_isItem_196 (fun _ => ?_)
      refine xj_bipush Z 59 dX6_isItem_197 (by decide) ?_
      refine xj_icmp_ne Z 206 dX6_isItem_199 (by decide) (fun _ => ?_) (fun _ => ?_)
      · refine xj_sub [0, 1] (lv' := [(0, .ref (ad 60)), (1, .int x1)]) rfl ?_
        exact bX6_isItem_206 Z hS x1 M
      · refine xj_iconst Z 1 dX6_isItem_202 (by decide) ?_
        refine xj_goto Z 207 dX6_isItem_203 (by decide) ?_
        refine xj_sub [0, 1] (lv' := [(0, .ref (ad 60)), (1, .int x1)]) rfl ?_
        exact bX6_isItem_207 Z hS x1 1 M
theorem bX6_isItem_67 (Z : CX p s m args meth c cX6_isItem 5 RX6 (some .boolean) D cs (xA S ad) S ad) (hS : xalm S) (x1 : Int32) (x2 : Int32) : ∀ (n : Nat) (x3 : Int32) (x4 : Int32) (M : xm), XJ p l e rmX6_isItem s m args below meth c D cs (xA S ad) S ad 5 (XRb below args s D cs S ad) 67 [(0, .ref (ad 60)), (1, .int x1), (2, .int x2), (3, .int x3), (4, .int x4)] [] M (fX6_isItem_67 x1 x2 n x3 x4 M) := by
  intro n
  induction n with
  | zero => intros; exact xj_none
  | succ n ih =>
    intro x3 x4 M
    rw [fX6_isItem_67]
    refine xj_iload Z 4 dX6_isItem_67 rfl ?_
    refine xj_iload_n Z 2 dX6_isItem_69 rfl rfl ?_
    refine xj_icmp_ge Z 173 dX6_isItem_70 (by decide) (fun _ => ?_) (fun _ => ?_)
    · refine xj_sub [0, 1, 3] (lv' := [(0, .ref (ad 60)), (1, .int x1), (3, .int x3)]) rfl ?_
      exact bX6_isItem_173 Z hS x1 x3 M
    · refine xj_iload_n Z 3 dX6_isItem_73 rfl rfl ?_
      refine xj_if_eq Z 173 dX6_isItem_74 (by decide) (fun _ => ?_) (fun _ => ?_)
      · refine xj_sub [0, 1, 3] (lv' := [(0, .ref (ad 60)), (1, .int x1), (3, .int x3)]) rfl ?_
        exact bX6_isItem_173 Z hS x1 x3 M
      · refine xj_iload Z 4 dX6_isItem_77 rfl ?_
        refine xj_if_eq Z 107 dX6_isItem_79 (by decide) (fun _ => ?_) (fun _ => ?_)
        · refine xj_sub [0, 1, 2, 4] (lv' := [(0, .ref (ad 60)), (1, .int x1), (2, .int x2), (4, .int x4)]) rfl ?_
          exact bX6_isItem_107 Z hS x1 x2 x4 M ih
        · refine xj_aload_n Z 0 dX6_isItem_82 rfl rfl ?_
          refine xg_X6_64 Z (hS 60 (by decide) (by decide)) dX6_isItem_83 ?_
          refine xj_aload_n Z 0 dX6_isItem_86 rfl rfl ?_
          refine xg_X6_60 Z (hS 60 (by decide) (by decide)) dX6_isItem_87 ?_
          refine xj_icmp_ge Z 111 dX6_isItem_90 (by decide) (fun _ => ?_) (fun _ => ?_)
          · refine xj_sub [0, 1, 2, 4] (lv' := [(0, .ref (ad 60)), (1, .int x1), (2, .int x2), (4, .int x4)]) rfl ?_
            exact bX6_isItem_111 Z hS x1 x2 x4 M ih
          · refine xj_aload_n Z 0 dX6_isItem_93 rfl rfl ?_
            refine xg_X6_7 Z (hS 60 (by decide) (by decide)) dX6_isItem_94 ?_
            refine xj_aload_n Z 0 dX6_isItem_97 rfl rfl ?_
            refine xg_X6_64 Z (hS 60 (by decide) (by decide)) dX6_isItem_98 ?_
            refine xj_bald Z (hS 61 (by decide) (by decide)) rfl dX6_isItem_101 (fun _ => ?_)
            refine xj_bipush Z 44 dX6_isItem_102 (by decide) ?_
            refine xj_icmp_ne Z 111 dX6_isItem_104 (by decide) (fun _ => ?_) (fun _ => ?_)
            · refine xj_sub [0, 1, 2, 4] (lv' := [(0, .ref (ad 60)), (1, .int x1), (2, .int x2), (4, .int x4)]) rfl ?_
              exact bX6_isItem_111 Z hS x1 x2 x4 M ih
            · refine xj_sub [0, 1, 2, 4] (lv' := [(0, .ref (ad 60)), (1, .int x1), (2, .int x2), (4, .int x4)]) rfl ?_
              exact bX6_isItem_107 Z hS x1 x2 x4 M ih
theorem bX6_isItem_63 (Z : CX p s m args meth c cX6_isItem 5 RX6 (some .boolean) D cs (xA S ad) S ad) (hS : xalm S) (x1 : Int32) (x2 : Int32) (t0 : Int32) (M : xm) : XJ p l e rmX6_isItem s m args below meth c D cs (xA S ad) S ad 5 (XRb below args s D cs S ad) 63 [(0, .ref (ad 60)), (1, .int x1), (2, .int x2)] [.int t0] M (fX6_isItem_63 x1 x2 t0 M) := by
  unfold fX6_isItem_63
  refine xj_istore_n Z (lv' := [(3, .int t0), (0, .ref (ad 60)), (1, .int x1), (2, .int x2)]) dX6_isItem_63 rfl (by decide) rfl ?_
  refine xj_iconst Z 0 dX6_isItem_64 (by decide) ?_
  refine xj_istore Z (lv' := [(4, .int 0), (3, .int t0), (0, .ref (ad 60)), (1, .int x1), (2, .int x2)]) dX6_isItem_65 (by decide) rfl ?_
  refine xj_sub [2, 3, 4, 1, 0] (lv' := [(0, .ref (ad 60)), (1, .int x1), (2, .int x2), (3, .int t0), (4, .int 0)]) rfl ?_
  exact bX6_isItem_67 Z hS x1 x2 xfuel t0 0 M
theorem bX6_isItem_53 (Z : CX p s m args meth c cX6_isItem 5 RX6 (some .boolean) D cs (xA S ad) S ad) (hS : xalm S) (x1 : Int32) (t0 : Int32) (M : xm) : XJ p l e rmX6_isItem s m args below meth c D cs (xA S ad) S ad 5 (XRb below args s D cs S ad) 53 [(0, .ref (ad 60)), (1, .int x1)] [.int t0] M (fX6_isItem_53 x1 t0 M) := by
  unfold fX6_isItem_53
  refine xj_istore_n Z (lv' := [(2, .int t0), (0, .ref (ad 60)), (1, .int x1)]) dX6_isItem_53 rfl (by decide) rfl ?_
  refine xj_iload_n Z 0 dX6_isItem_54 rfl rfl ?_
  refine xj_if_le Z 62 dX6_isItem_55 (by decide) (fun _ => ?_) (fun _ => ?_)
  · refine xj_iconst Z 0 dX6_isItem_62 (by decide) ?_
    refine xj_sub [1, 2, 0] (lv' := [(0, .ref (ad 60)), (1, .int x1), (2, .int t0)]) rfl ?_
    exact bX6_isItem_63 Z hS x1 t0 0 M
  · refine xj_iconst Z 1 dX6_isItem_58 (by decide) ?_
    refine xj_goto Z 63 dX6_isItem_59 (by decide) ?_
    refine xj_sub [1, 2, 0] (lv' := [(0, .ref (ad 60)), (1, .int x1), (2, .int t0)]) rfl ?_
    exact bX6_isItem_63 Z hS x1 t0 1 M
theorem bX6_isItem_32 (Z : CX p s m args meth c cX6_isItem 5 RX6 (some .boolean) D cs (xA S ad) S ad) (hS : xalm S) (x1 : Int32) (M : xm) : XJ p l e rmX6_isItem s m args below meth c D cs (xA S ad) S ad 5 (XRb below args s D cs S ad) 32 [(0, .ref (ad 60)), (1, .int x1)] [] M (fX6_isItem_32 x1 M) := by
  unfold fX6_isItem_32
  refine xj_iconst Z 3 dX6_isItem_32 (by decide) ?_
  refine xj_goto Z 53 dX6_isItem_33 (by decide) ?_
  exact bX6_isItem_53 Z hS x1 3 M
theorem bX6_isItem_48 (Z : CX p s m args meth c cX6_isItem 5 RX6 (some .boolean) D cs (xA S ad) S ad) (hS : xalm S) (x1 : Int32) (M : xm) : XJ p l e rmX6_isItem s m args below meth c D cs (xA S ad) S ad 5 (XRb below args s D cs S ad) 48 [(0, .ref (ad 60)), (1, .int x1)] [] M (fX6_isItem_48 x1 M) := by
  unfold fX6_isItem_48
  refine xj_iconst Z 1 dX6_isItem_48 (by decide) ?_
  refine xj_goto Z 53 dX6_isItem_49 (by decide) ?_
  exact bX6_isItem_53 Z hS x1 1 M
end
theorem kX6_isItem (l : Launch) (D : va_G) (cs : Nat → ClassId) (S : List Nat) (ad : Nat → Nat) (hd : xdist S ad) (hS : xalm S) (M : xm) : ∀ r, fX6_isItem M = some r → Met l yX6_isItem [Cond.code yX6_isItem cX6_isItem 5 (some .boolean)] rmX6_isItem (XPc D cs S ad [.ref (ad 60)] M) (XQi D cs S ad r.1 r.2) 0 0 (xA S ad) := by
  refine xm_b (own := RX6) (lv := [(0, .ref (ad 60))]) (by decide +kernel) rfl rfl (Nat.le_of_ble_eq_true rfl) hd (fun p e s m args below meth c Z => ?_)
  unfold fX6_isItem
  refine xj_aload_n Z 0 dX6_isItem_0 rfl rfl ?_
  refine xg_X6_7 Z (hS 60 (by decide) (by decide)) dX6_isItem_1 ?_
  refine xj_aload_n Z 0 dX6_isItem_4 rfl rfl ?_
  refine xg_X6_64 Z (hS 60 (by decide) (by decide)) dX6_isItem_5 ?_
  refine xj_bald Z (hS 61 (by decide) (by decide)) rfl dX6_isItem_8 (fun _ => ?_)
  refine xj_top (fun v6 => ?_)
  refine xj_istore_n Z (lv' := [(1, .int v6), (0, .ref (ad 60))]) dX6_isItem_9 rfl (by decide) rfl ?_
  refine xj_aload_n Z 1 dX6_isItem_10 rfl rfl ?_
  refine xj_dup Z dX6_isItem_11 rfl ?_
  refine xg_X6_64 Z (hS 60 (by decide) (by decide)) dX6_isItem_12 ?_
  refine xj_iconst Z 1 dX6_isItem_15 (by decide) ?_
  refine xj_iadd Z dX6_isItem_16 ?_
  refine xp_X6_64 Z (hS 60 (by decide) (by decide)) dX6_isItem_17 (fun M7 _ => ?_)
  refine xj_iload_n Z 0 dX6_isItem_20 rfl rfl ?_
  refine xj_bipush Z 112 dX6_isItem_21 (by decide) ?_
  refine xj_icmp_eq Z 32 dX6_isItem_23 (by decide) (fun _ => ?_) (fun _ => ?_)
  · refine xj_sub [1, 0] (lv' := [(0, .ref (ad 60)), (1, .int v6)]) rfl ?_
    exact bX6_isItem_32 Z hS v6 M7
  · refine xj_iload_n Z 0 dX6_isItem_26 rfl rfl ?_
    refine xj_bipush Z 109 dX6_isItem_27 (by decide) ?_
    refine xj_icmp_ne Z 36 dX6_isItem_29 (by decide) (fun _ => ?_) (fun _ => ?_)
    · refine xj_iload_n Z 0 dX6_isItem_36 rfl rfl ?_
      refine xj_bipush Z 113 dX6_isItem_37 (by decide) ?_
      refine xj_icmp_eq Z 48 dX6_isItem_39 (by decide) (fun _ => ?_) (fun _ => ?_)
      · refine xj_sub [1, 0] (lv' := [(0, .ref (ad 60)), (1, .int v6)]) rfl ?_
        exact bX6_isItem_48 Z hS v6 M7
      · refine xj_iload_n Z 0 dX6_isItem_42 rfl rfl ?_
        refine xj_bipush Z 98 dX6_isItem_43 (by decide) ?_
        refine xj_icmp_ne Z 52 dX6_isItem_45 (by decide) (fun _ => ?_) (fun _ => ?_)
        · refine xj_iconst Z 0 dX6_isItem_52 (by decide) ?_
          refine xj_sub [1, 0] (lv' := [(0, .ref (ad 60)), (1, .int v6)]) rfl ?_
          exact bX6_isItem_53 Z hS v6 0 M7
        · refine xj_sub [1, 0] (lv' := [(0, .ref (ad 60)), (1, .int v6)]) rfl ?_
          exact bX6_isItem_48 Z hS v6 M7
    · refine xj_sub [1, 0] (lv' := [(0, .ref (ad 60)), (1, .int v6)]) rfl ?_
      exact bX6_isItem_32 Z hS v6 M7
/-! WalkingLawModel.fault()I -/
theorem dX6_fault_0 : decode cX6_fault 0 = .ok (.aload_n 0, 1) := by decide +kernel
theorem dX6_fault_1 : decode cX6_fault 1 = .ok (.iconst 0, 1) := by decide +kernel
theorem dX6_fault_2 : decode cX6_fault 2 = .ok (.putfield 64, 3) := by decide +kernel
theorem dX6_fault_5 : decode cX6_fault 5 = .ok (.aload_n 0, 1) := by decide +kernel
theorem dX6_fault_6 : decode cX6_fault 6 = .ok (.invokevirtual 48, 3) := by decide +kernel
theorem dX6_fault_9 : decode cX6_fault 9 = .ok (.aload_n 0, 1) := by decide +kernel
theorem dX6_fault_10 : decode cX6_fault 10 = .ok (.getfield 64, 3) := by decide +kernel
theorem dX6_fault_13 : decode cX6_fault 13 = .ok (.aload_n 0, 1) := by decide +kernel
theorem dX6_fault_14 : decode cX6_fault 14 = .ok (.getfield 60, 3) := by decide +kernel
theorem dX6_fault_17 : decode cX6_fault 17 = .ok (.if_icmp .ge 20, 3) := by decide +kernel
theorem dX6_fault_20 : decode cX6_fault 20 = .ok (.aload_n 0, 1) := by decide +kernel
theorem dX6_fault_21 : decode cX6_fault 21 = .ok (.getfield 64, 3) := by decide +kernel
theorem dX6_fault_24 : decode cX6_fault 24 = .ok (.istore_n 1, 1) := by decide +kernel
theorem dX6_fault_25 : decode cX6_fault 25 = .ok (.aload_n 0, 1) := by decide +kernel
theorem dX6_fault_26 : decode cX6_fault 26 = .ok (.invokevirtual 95, 3) := by decide +kernel
theorem dX6_fault_29 : decode cX6_fault 29 = .ok (.ifCond .ne 5, 3) := by decide +kernel
theorem dX6_fault_32 : decode cX6_fault 32 = .ok (.iload_n 1, 1) := by decide +kernel
theorem dX6_fault_33 : decode cX6_fault 33 = .ok (.ireturn, 1) := by decide +kernel
theorem dX6_fault_34 : decode cX6_fault 34 = .ok (.goto (-25), 3) := by decide +kernel
theorem dX6_fault_37 : decode cX6_fault 37 = .ok (.bipush (-4), 2) := by decide +kernel
theorem dX6_fault_39 : decode cX6_fault 39 = .ok (.ireturn, 1) := by decide +kernel
def rmX6_fault : Room := { frames := 4, cells := 0, slots := 0, locals := 95 }
def fX6_fault_9 : Nat → xm → Option (Int32 × xm)
  | 0, _ => none
  | n + 1, M => (if (M.1 60 0) ≤ (M.1 60 2) then (some ((-4), M)) else xl (M.1 60 2) (fun v1 => (fX6_isItem M).bind (fun q2 => (if q2.1 = 0 then (some (v1, q2.2)) else (fX6_fault_9 n q2.2)))))
def fX6_fault (M : xm) : Option (Int32 × xm) := xl (up M 60 2 0) (fun M3 => (fX6_begins M3).bind (fun M4 => (fX6_fault_9 xfuel M4)))
section
variable {p : Program} {l : Launch} {e : Env} {s : State} {m : MethodId} {args : Array Value} {below : List Frame} {meth : Method} {c : Code} {D : va_G} {cs : Nat → ClassId} {S : List Nat} {ad : Nat → Nat}
theorem bX6_fault_9 (Z : CX p s m args meth c cX6_fault 2 RX6 (some .int) D cs (xA S ad) S ad) (hS : xalm S) : ∀ (n : Nat) (M : xm), XJ p l e rmX6_fault s m args below meth c D cs (xA S ad) S ad 2 (XRb below args s D cs S ad) 9 [(0, .ref (ad 60))] [] M (fX6_fault_9 n M) := by
  intro n
  induction n with
  | zero => intros; exact xj_none
  | succ n ih =>
    intro M
    rw [fX6_fault_9]
    refine xj_aload_n Z 0 dX6_fault_9 rfl rfl ?_
    refine xg_X6_64 Z (hS 60 (by decide) (by decide)) dX6_fault_10 ?_
    refine xj_aload_n Z 0 dX6_fault_13 rfl rfl ?_
    refine xg_X6_60 Z (hS 60 (by decide) (by decide)) dX6_fault_14 ?_
    refine xj_icmp_ge Z 37 dX6_fault_17 (by decide) (fun _ => ?_) (fun _ => ?_)
    · refine xj_bipush Z (-4) dX6_fault_37 (by decide) ?_
      exact xj_ret_b Z dX6_fault_39
    · refine xj_aload_n Z 0 dX6_fault_20 rfl rfl ?_
      refine xg_X6_64 Z (hS 60 (by decide) (by decide)) dX6_fault_21 ?_
      refine xj_top (fun v1 => ?_)
      refine xj_istore_n Z (lv' := [(1, .int v1), (0, .ref (ad 60))]) dX6_fault_24 rfl (by decide) rfl ?_
      refine xj_aload_n Z 1 dX6_fault_25 rfl rfl ?_
      refine xj_callVb Z (As := []) (kX6_isItem l D cs S ad Z.2.2.2.2.2.1.dist hS M) gw_X6_95 (hS 60 (by decide) (by decide)) rfl rfl (n := 0) (by decide +kernel) rfl ⟨rfl, rfl⟩ (by decide) rfl (Nat.le_of_ble_eq_true rfl) dX6_fault_26 (fun q2 => ?_)
      refine xj_if_ne Z 34 dX6_fault_29 (by decide) (fun _ => ?_) (fun _ => ?_)
      · refine xj_goto Z 9 dX6_fault_34 (by decide) ?_
        refine xj_sub [1] (lv' := [(0, .ref (ad 60))]) rfl ?_
        exact ih q2.2
      · refine xj_iload_n Z 0 dX6_fault_32 rfl rfl ?_
        exact xj_ret_b Z dX6_fault_33
end
theorem kX6_fault (l : Launch) (D : va_G) (cs : Nat → ClassId) (S : List Nat) (ad : Nat → Nat) (hd : xdist S ad) (hS : xalm S) (M : xm) : ∀ r, fX6_fault M = some r → Met l yX6_fault [Cond.code yX6_fault cX6_fault 2 (some .int)] rmX6_fault (XPc D cs S ad [.ref (ad 60)] M) (XQi D cs S ad r.1 r.2) 0 0 (xA S ad) := by
  refine xm_b (own := RX6) (lv := [(0, .ref (ad 60))]) (by decide +kernel) rfl rfl (Nat.le_of_ble_eq_true rfl) hd (fun p e s m args below meth c Z => ?_)
  unfold fX6_fault
  refine xj_aload_n Z 0 dX6_fault_0 rfl rfl ?_
  refine xj_iconst Z 0 dX6_fault_1 (by decide) ?_
  refine xp_X6_64 Z (hS 60 (by decide) (by decide)) dX6_fault_2 (fun M3 _ => ?_)
  refine xj_aload_n Z 0 dX6_fault_5 rfl rfl ?_
  refine xj_callVm Z (As := []) (kX6_begins l D cs S ad Z.2.2.2.2.2.1.dist hS M3) gw_X6_48 (hS 60 (by decide) (by decide)) rfl rfl (n := 0) (by decide +kernel) rfl ⟨rfl, rfl⟩ (by decide) rfl (Nat.le_of_ble_eq_true rfl) dX6_fault_6 (fun M4 => ?_)
  exact bX6_fault_9 Z hS xfuel M4
/-! WalkingLawModel.lay()I -/
theorem dX6_lay_0 : decode cX6_lay 0 = .ok (.aload_n 0, 1) := by decide +kernel
theorem dX6_lay_1 : decode cX6_lay 1 = .ok (.invokevirtual 99, 3) := by decide +kernel
theorem dX6_lay_4 : decode cX6_lay 4 = .ok (.bipush (-4), 2) := by decide +kernel
theorem dX6_lay_6 : decode cX6_lay 6 = .ok (.if_icmp .ne 21, 3) := by decide +kernel
theorem dX6_lay_9 : decode cX6_lay 9 = .ok (.aload_n 0, 1) := by decide +kernel
theorem dX6_lay_10 : decode cX6_lay 10 = .ok (.getfield 17, 3) := by decide +kernel
theorem dX6_lay_13 : decode cX6_lay 13 = .ok (.iconst 1, 1) := by decide +kernel
theorem dX6_lay_14 : decode cX6_lay 14 = .ok (.iaload, 1) := by decide +kernel
theorem dX6_lay_15 : decode cX6_lay 15 = .ok (.ifCond .eq 12, 3) := by decide +kernel
theorem dX6_lay_18 : decode cX6_lay 18 = .ok (.aload_n 0, 1) := by decide +kernel
theorem dX6_lay_19 : decode cX6_lay 19 = .ok (.getfield 23, 3) := by decide +kernel
theorem dX6_lay_22 : decode cX6_lay 22 = .ok (.iconst 1, 1) := by decide +kernel
theorem dX6_lay_23 : decode cX6_lay 23 = .ok (.iaload, 1) := by decide +kernel
theorem dX6_lay_24 : decode cX6_lay 24 = .ok (.ifCond .ne 6, 3) := by decide +kernel
theorem dX6_lay_27 : decode cX6_lay 27 = .ok (.bipush (-2), 2) := by decide +kernel
theorem dX6_lay_29 : decode cX6_lay 29 = .ok (.ireturn, 1) := by decide +kernel
theorem dX6_lay_30 : decode cX6_lay 30 = .ok (.aload_n 0, 1) := by decide +kernel
theorem dX6_lay_31 : decode cX6_lay 31 = .ok (.invokevirtual 51, 3) := by decide +kernel
theorem dX6_lay_34 : decode cX6_lay 34 = .ok (.aload_n 0, 1) := by decide +kernel
theorem dX6_lay_35 : decode cX6_lay 35 = .ok (.getfield 23, 3) := by decide +kernel
theorem dX6_lay_38 : decode cX6_lay 38 = .ok (.iconst 0, 1) := by decide +kernel
theorem dX6_lay_39 : decode cX6_lay 39 = .ok (.iaload, 1) := by decide +kernel
theorem dX6_lay_40 : decode cX6_lay 40 = .ok (.ireturn, 1) := by decide +kernel
def rmX6_lay : Room := { frames := 5, cells := 0, slots := 0, locals := 116 }
def fX6_lay_27 (M : xm) : Option (Int32 × xm) := (some ((-2), M))
def fX6_lay (M : xm) : Option (Int32 × xm) := (fX6_fault M).bind (fun q1 => (if q1.1 = (-4) then xchk 1 2 ((if (q1.2.1 63 (1 : Int32).toNatClampNeg) = 0 then (fX6_lay_27 q1.2) else xchk 1 2 ((if (q1.2.1 65 (1 : Int32).toNatClampNeg) = 0 then (fX6_lay_27 q1.2) else (fX6_takes q1.2).bind (fun M2 => xchk 0 2 ((some ((M2.1 65 (0 : Int32).toNatClampNeg), M2)))))))) else (fX6_lay_27 q1.2)))
section
variable {p : Program} {l : Launch} {e : Env} {s : State} {m : MethodId} {args : Array Value} {below : List Frame} {meth : Method} {c : Code} {D : va_G} {cs : Nat → ClassId} {S : List Nat} {ad : Nat → Nat}
theorem bX6_lay_27 (Z : CX p s m args meth c cX6_lay 1 RX6 (some .int) D cs (xA S ad) S ad) (hS : xalm S) (M : xm) : XJ p l e rmX6_lay s m args below meth c D cs (xA S ad) S ad 1 (XRb below args s D cs S ad) 27 [] [] M (fX6_lay_27 M) := by
  unfold fX6_lay_27
  refine xj_bipush Z (-2) dX6_lay_27 (by decide) ?_
  exact xj_ret_b Z dX6_lay_29
end
theorem kX6_lay (l : Launch) (D : va_G) (cs : Nat → ClassId) (S : List Nat) (ad : Nat → Nat) (hd : xdist S ad) (hS : xalm S) (M : xm) : ∀ r, fX6_lay M = some r → Met l yX6_lay [Cond.code yX6_lay cX6_lay 1 (some .int)] rmX6_lay (XPc D cs S ad [.ref (ad 60)] M) (XQi D cs S ad r.1 r.2) 0 0 (xA S ad) := by
  refine xm_b (own := RX6) (lv := [(0, .ref (ad 60))]) (by decide +kernel) rfl rfl (Nat.le_of_ble_eq_true rfl) hd (fun p e s m args below meth c Z => ?_)
  unfold fX6_lay
  refine xj_aload_n Z 0 dX6_lay_0 rfl rfl ?_
  refine xj_callVb Z (As := []) (kX6_fault l D cs S ad Z.2.2.2.2.2.1.dist hS M) gw_X6_99 (hS 60 (by decide) (by decide)) rfl rfl (n := 0) (by decide +kernel) rfl ⟨rfl, rfl⟩ (by decide) rfl (Nat.le_of_ble_eq_true rfl) dX6_lay_1 (fun q1 => ?_)
  refine xj_bipush Z (-4) dX6_lay_4 (by decide) ?_
  refine xj_icmp_ne Z 27 dX6_lay_6 (by decide) (fun _ => ?_) (fun _ => ?_)
  · refine xj_sub [] (lv' := []) rfl ?_
    exact bX6_lay_27 Z hS q1.2
  · refine xj_aload_n Z 0 dX6_lay_9 rfl rfl ?_
    refine xg_X6_17 Z (hS 60 (by decide) (by decide)) dX6_lay_10 ?_
    refine xj_iconst Z 1 dX6_lay_13 (by decide) ?_
    refine xj_iald Z (hS 63 (by decide) (by decide)) rfl dX6_lay_14 (fun _ => ?_)
    refine xj_if_eq Z 27 dX6_lay_15 (by decide) (fun _ => ?_) (fun _ => ?_)
    · refine xj_sub [] (lv' := []) rfl ?_
      exact bX6_lay_27 Z hS q1.2
    · refine xj_aload_n Z 0 dX6_lay_18 rfl rfl ?_
      refine xg_X6_23 Z (hS 60 (by decide) (by decide)) dX6_lay_19 ?_
      refine xj_iconst Z 1 dX6_lay_22 (by decide) ?_
      refine xj_iald Z (hS 65 (by decide) (by decide)) rfl dX6_lay_23 (fun _ => ?_)
      refine xj_if_ne Z 30 dX6_lay_24 (by decide) (fun _ => ?_) (fun _ => ?_)
      · refine xj_aload_n Z 0 dX6_lay_30 rfl rfl ?_
        refine xj_callVm Z (As := []) (kX6_takes l D cs S ad Z.2.2.2.2.2.1.dist hS q1.2) gw_X6_51 (hS 60 (by decide) (by decide)) rfl rfl (n := 0) (by decide +kernel) rfl ⟨rfl, rfl⟩ (by decide) rfl (Nat.le_of_ble_eq_true rfl) dX6_lay_31 (fun M2 => ?_)
        refine xj_aload_n Z 0 dX6_lay_34 rfl rfl ?_
        refine xg_X6_23 Z (hS 60 (by decide) (by decide)) dX6_lay_35 ?_
        refine xj_iconst Z 0 dX6_lay_38 (by decide) ?_
        refine xj_iald Z (hS 65 (by decide) (by decide)) rfl dX6_lay_39 (fun _ => ?_)
        exact xj_ret_b Z dX6_lay_40
      · refine xj_sub [] (lv' := []) rfl ?_
        exact bX6_lay_27 Z hS q1.2
/-! WalkingLawModel.isParish(I)Z -/
theorem dX6_isParish_0 : decode cX6_isParish 0 = .ok (.iload_n 1, 1) := by decide +kernel
theorem dX6_isParish_1 : decode cX6_isParish 1 = .ok (.i2l, 1) := by decide +kernel
theorem dX6_isParish_2 : decode cX6_isParish 2 = .ok (.lconst 0, 1) := by decide +kernel
theorem dX6_isParish_3 : decode cX6_isParish 3 = .ok (.aload_n 0, 1) := by decide +kernel
theorem dX6_isParish_4 : decode cX6_isParish 4 = .ok (.getfield 17, 3) := by decide +kernel
theorem dX6_isParish_7 : decode cX6_isParish 7 = .ok (.iconst 0, 1) := by decide +kernel
theorem dX6_isParish_8 : decode cX6_isParish 8 = .ok (.iaload, 1) := by decide +kernel
theorem dX6_isParish_9 : decode cX6_isParish 9 = .ok (.iconst 1, 1) := by decide +kernel
theorem dX6_isParish_10 : decode cX6_isParish 10 = .ok (.isub, 1) := by decide +kernel
theorem dX6_isParish_11 : decode cX6_isParish 11 = .ok (.i2l, 1) := by decide +kernel
theorem dX6_isParish_12 : decode cX6_isParish 12 = .ok (.invokestatic 56, 3) := by decide +kernel
theorem dX6_isParish_15 : decode cX6_isParish 15 = .ok (.ireturn, 1) := by decide +kernel
def rmX6_isParish : Room := { frames := 1, cells := 0, slots := 0, locals := 25 }
def fX6_isParish (x1 : Int32) (M : xm) : Option (Int32) := xchk 0 2 ((fX6_in (Int32.toInt64 x1) 0 (Int32.toInt64 ((M.1 63 (0 : Int32).toNatClampNeg) - 1)) M).bind (fun v1 => (xbo v1 (some v1))))
section
variable {p : Program} {l : Launch} {e : Env} {s : State} {m : MethodId} {args : Array Value} {below : List Frame} {meth : Method} {c : Code} {D : va_G} {cs : Nat → ClassId} {S : List Nat} {ad : Nat → Nat}
end
theorem kX6_isParish (l : Launch) (D : va_G) (cs : Nat → ClassId) (S : List Nat) (ad : Nat → Nat) (hd : xdist S ad) (hS : xalm S) (x1 : Int32) (M : xm) : ∀ r, fX6_isParish x1 M = some r → Met l yX6_isParish [Cond.code yX6_isParish cX6_isParish 2 (some .boolean)] rmX6_isParish (XPc D cs S ad [.ref (ad 60), .int x1] M) (XQi D cs S ad r M) 0 0 (xA S ad) := by
  refine xm_r (own := RX6) (lv := [(0, .ref (ad 60)), (1, .int x1)]) (by decide +kernel) rfl rfl (Nat.le_of_ble_eq_true rfl) hd (fun p e s m args below meth c Z => ?_)
  unfold fX6_isParish
  refine xj_iload_n Z 1 dX6_isParish_0 rfl rfl ?_
  refine xj_i2l Z dX6_isParish_1 ?_
  refine xj_lconst Z 0 dX6_isParish_2 (by decide) ?_
  refine xj_aload_n Z 0 dX6_isParish_3 rfl rfl ?_
  refine xg_X6_17 Z (hS 60 (by decide) (by decide)) dX6_isParish_4 ?_
  refine xj_iconst Z 0 dX6_isParish_7 (by decide) ?_
  refine xj_iald Z (hS 63 (by decide) (by decide)) rfl dX6_isParish_8 (fun _ => ?_)
  refine xj_iconst Z 1 dX6_isParish_9 (by decide) ?_
  refine xj_isub Z dX6_isParish_10 ?_
  refine xj_i2l Z dX6_isParish_11 ?_
  refine xj_callSr Z (As := [.long (Int32.toInt64 x1), .long 0, .long (Int32.toInt64 ((M.1 63 (0 : Int32).toNatClampNeg) - 1))]) (kX6_in l D cs S ad Z.2.2.2.2.2.1.dist (Int32.toInt64 x1) 0 (Int32.toInt64 ((M.1 63 (0 : Int32).toNatClampNeg) - 1)) M) gw_X6_56 (n := 3) (by decide +kernel) rfl ⟨rfl, rfl⟩ (by decide) rfl (Nat.le_of_ble_eq_true rfl) dX6_isParish_12 (fun v1 => ?_)
  exact xj_zret_r Z dX6_isParish_15
/-! WalkingLawModel.isMember(I)Z -/
theorem dX6_isMember_0 : decode cX6_isMember 0 = .ok (.iload_n 1, 1) := by decide +kernel
theorem dX6_isMember_1 : decode cX6_isMember 1 = .ok (.i2l, 1) := by decide +kernel
theorem dX6_isMember_2 : decode cX6_isMember 2 = .ok (.lconst 0, 1) := by decide +kernel
theorem dX6_isMember_3 : decode cX6_isMember 3 = .ok (.aload_n 0, 1) := by decide +kernel
theorem dX6_isMember_4 : decode cX6_isMember 4 = .ok (.getfield 23, 3) := by decide +kernel
theorem dX6_isMember_7 : decode cX6_isMember 7 = .ok (.iconst 0, 1) := by decide +kernel
theorem dX6_isMember_8 : decode cX6_isMember 8 = .ok (.iaload, 1) := by decide +kernel
theorem dX6_isMember_9 : decode cX6_isMember 9 = .ok (.iconst 1, 1) := by decide +kernel
theorem dX6_isMember_10 : decode cX6_isMember 10 = .ok (.isub, 1) := by decide +kernel
theorem dX6_isMember_11 : decode cX6_isMember 11 = .ok (.i2l, 1) := by decide +kernel
theorem dX6_isMember_12 : decode cX6_isMember 12 = .ok (.invokestatic 56, 3) := by decide +kernel
theorem dX6_isMember_15 : decode cX6_isMember 15 = .ok (.ireturn, 1) := by decide +kernel
def rmX6_isMember : Room := { frames := 1, cells := 0, slots := 0, locals := 25 }
def fX6_isMember (x1 : Int32) (M : xm) : Option (Int32) := xchk 0 2 ((fX6_in (Int32.toInt64 x1) 0 (Int32.toInt64 ((M.1 65 (0 : Int32).toNatClampNeg) - 1)) M).bind (fun v1 => (xbo v1 (some v1))))
section
variable {p : Program} {l : Launch} {e : Env} {s : State} {m : MethodId} {args : Array Value} {below : List Frame} {meth : Method} {c : Code} {D : va_G} {cs : Nat → ClassId} {S : List Nat} {ad : Nat → Nat}
end
theorem kX6_isMember (l : Launch) (D : va_G) (cs : Nat → ClassId) (S : List Nat) (ad : Nat → Nat) (hd : xdist S ad) (hS : xalm S) (x1 : Int32) (M : xm) : ∀ r, fX6_isMember x1 M = some r → Met l yX6_isMember [Cond.code yX6_isMember cX6_isMember 2 (some .boolean)] rmX6_isMember (XPc D cs S ad [.ref (ad 60), .int x1] M) (XQi D cs S ad r M) 0 0 (xA S ad) := by
  refine xm_r (own := RX6) (lv := [(0, .ref (ad 60)), (1, .int x1)]) (by decide +kernel) rfl rfl (Nat.le_of_ble_eq_true rfl) hd (fun p e s m args below meth c Z => ?_)
  unfold fX6_isMember
  refine xj_iload_n Z 1 dX6_isMember_0 rfl rfl ?_
  refine xj_i2l Z dX6_isMember_1 ?_
  refine xj_lconst Z 0 dX6_isMember_2 (by decide) ?_
  refine xj_aload_n Z 0 dX6_isMember_3 rfl rfl ?_
  refine xg_X6_23 Z (hS 60 (by decide) (by decide)) dX6_isMember_4 ?_
  refine xj_iconst Z 0 dX6_isMember_7 (by decide) ?_
  refine xj_iald Z (hS 65 (by decide) (by decide)) rfl dX6_isMember_8 (fun _ => ?_)
  refine xj_iconst Z 1 dX6_isMember_9 (by decide) ?_
  refine xj_isub Z dX6_isMember_10 ?_
  refine xj_i2l Z dX6_isMember_11 ?_
  refine xj_callSr Z (As := [.long (Int32.toInt64 x1), .long 0, .long (Int32.toInt64 ((M.1 65 (0 : Int32).toNatClampNeg) - 1))]) (kX6_in l D cs S ad Z.2.2.2.2.2.1.dist (Int32.toInt64 x1) 0 (Int32.toInt64 ((M.1 65 (0 : Int32).toNatClampNeg) - 1)) M) gw_X6_56 (n := 3) (by decide +kernel) rfl ⟨rfl, rfl⟩ (by decide) rfl (Nat.le_of_ble_eq_true rfl) dX6_isMember_12 (fun v1 => ?_)
  exact xj_zret_r Z dX6_isMember_15
/-! WalkingLawModel.isBill(I)Z -/
theorem dX6_isBill_0 : decode cX6_isBill 0 = .ok (.iload_n 1, 1) := by decide +kernel
theorem dX6_isBill_1 : decode cX6_isBill 1 = .ok (.i2l, 1) := by decide +kernel
theorem dX6_isBill_2 : decode cX6_isBill 2 = .ok (.lconst 0, 1) := by decide +kernel
theorem dX6_isBill_3 : decode cX6_isBill 3 = .ok (.aload_n 0, 1) := by decide +kernel
theorem dX6_isBill_4 : decode cX6_isBill 4 = .ok (.getfield 13, 3) := by decide +kernel
theorem dX6_isBill_7 : decode cX6_isBill 7 = .ok (.iconst 1, 1) := by decide +kernel
theorem dX6_isBill_8 : decode cX6_isBill 8 = .ok (.iaload, 1) := by decide +kernel
theorem dX6_isBill_9 : decode cX6_isBill 9 = .ok (.iconst 1, 1) := by decide +kernel
theorem dX6_isBill_10 : decode cX6_isBill 10 = .ok (.isub, 1) := by decide +kernel
theorem dX6_isBill_11 : decode cX6_isBill 11 = .ok (.i2l, 1) := by decide +kernel
theorem dX6_isBill_12 : decode cX6_isBill 12 = .ok (.invokestatic 56, 3) := by decide +kernel
theorem dX6_isBill_15 : decode cX6_isBill 15 = .ok (.ireturn, 1) := by decide +kernel
def rmX6_isBill : Room := { frames := 1, cells := 0, slots := 0, locals := 25 }
def fX6_isBill (x1 : Int32) (M : xm) : Option (Int32) := xchk 1 4 ((fX6_in (Int32.toInt64 x1) 0 (Int32.toInt64 ((M.1 62 (1 : Int32).toNatClampNeg) - 1)) M).bind (fun v1 => (xbo v1 (some v1))))
section
variable {p : Program} {l : Launch} {e : Env} {s : State} {m : MethodId} {args : Array Value} {below : List Frame} {meth : Method} {c : Code} {D : va_G} {cs : Nat → ClassId} {S : List Nat} {ad : Nat → Nat}
end
theorem kX6_isBill (l : Launch) (D : va_G) (cs : Nat → ClassId) (S : List Nat) (ad : Nat → Nat) (hd : xdist S ad) (hS : xalm S) (x1 : Int32) (M : xm) : ∀ r, fX6_isBill x1 M = some r → Met l yX6_isBill [Cond.code yX6_isBill cX6_isBill 2 (some .boolean)] rmX6_isBill (XPc D cs S ad [.ref (ad 60), .int x1] M) (XQi D cs S ad r M) 0 0 (xA S ad) := by
  refine xm_r (own := RX6) (lv := [(0, .ref (ad 60)), (1, .int x1)]) (by decide +kernel) rfl rfl (Nat.le_of_ble_eq_true rfl) hd (fun p e s m args below meth c Z => ?_)
  unfold fX6_isBill
  refine xj_iload_n Z 1 dX6_isBill_0 rfl rfl ?_
  refine xj_i2l Z dX6_isBill_1 ?_
  refine xj_lconst Z 0 dX6_isBill_2 (by decide) ?_
  refine xj_aload_n Z 0 dX6_isBill_3 rfl rfl ?_
  refine xg_X6_13 Z (hS 60 (by decide) (by decide)) dX6_isBill_4 ?_
  refine xj_iconst Z 1 dX6_isBill_7 (by decide) ?_
  refine xj_iald Z (hS 62 (by decide) (by decide)) rfl dX6_isBill_8 (fun _ => ?_)
  refine xj_iconst Z 1 dX6_isBill_9 (by decide) ?_
  refine xj_isub Z dX6_isBill_10 ?_
  refine xj_i2l Z dX6_isBill_11 ?_
  refine xj_callSr Z (As := [.long (Int32.toInt64 x1), .long 0, .long (Int32.toInt64 ((M.1 62 (1 : Int32).toNatClampNeg) - 1))]) (kX6_in l D cs S ad Z.2.2.2.2.2.1.dist (Int32.toInt64 x1) 0 (Int32.toInt64 ((M.1 62 (1 : Int32).toNatClampNeg) - 1)) M) gw_X6_56 (n := 3) (by decide +kernel) rfl ⟨rfl, rfl⟩ (by decide) rfl (Nat.le_of_ble_eq_true rfl) dX6_isBill_12 (fun v1 => ?_)
  exact xj_zret_r Z dX6_isBill_15
/-! WalkingLawModel.begin(I)I -/
theorem dX6_begin_0 : decode cX6_begin 0 = .ok (.iconst 0, 1) := by decide +kernel
theorem dX6_begin_1 : decode cX6_begin 1 = .ok (.istore_n 2, 1) := by decide +kernel
theorem dX6_begin_2 : decode cX6_begin 2 = .ok (.iconst 0, 1) := by decide +kernel
theorem dX6_begin_3 : decode cX6_begin 3 = .ok (.istore_n 3, 1) := by decide +kernel
theorem dX6_begin_4 : decode cX6_begin 4 = .ok (.iload_n 3, 1) := by decide +kernel
theorem dX6_begin_5 : decode cX6_begin 5 = .ok (.iload_n 1, 1) := by decide +kernel
theorem dX6_begin_6 : decode cX6_begin 6 = .ok (.if_icmp .ge 22, 3) := by decide +kernel
theorem dX6_begin_9 : decode cX6_begin 9 = .ok (.iload_n 2, 1) := by decide +kernel
theorem dX6_begin_10 : decode cX6_begin 10 = .ok (.aload_n 0, 1) := by decide +kernel
theorem dX6_begin_11 : decode cX6_begin 11 = .ok (.getfield 20, 3) := by decide +kernel
theorem dX6_begin_14 : decode cX6_begin 14 = .ok (.iconst 3, 1) := by decide +kernel
theorem dX6_begin_15 : decode cX6_begin 15 = .ok (.iload_n 3, 1) := by decide +kernel
theorem dX6_begin_16 : decode cX6_begin 16 = .ok (.imul, 1) := by decide +kernel
theorem dX6_begin_17 : decode cX6_begin 17 = .ok (.iconst 0, 1) := by decide +kernel
theorem dX6_begin_18 : decode cX6_begin 18 = .ok (.iadd, 1) := by decide +kernel
theorem dX6_begin_19 : decode cX6_begin 19 = .ok (.iaload, 1) := by decide +kernel
theorem dX6_begin_20 : decode cX6_begin 20 = .ok (.iadd, 1) := by decide +kernel
theorem dX6_begin_21 : decode cX6_begin 21 = .ok (.istore_n 2, 1) := by decide +kernel
theorem dX6_begin_22 : decode cX6_begin 22 = .ok (.iinc 3 1, 3) := by decide +kernel
theorem dX6_begin_25 : decode cX6_begin 25 = .ok (.goto (-21), 3) := by decide +kernel
theorem dX6_begin_28 : decode cX6_begin 28 = .ok (.iload_n 2, 1) := by decide +kernel
theorem dX6_begin_29 : decode cX6_begin 29 = .ok (.ireturn, 1) := by decide +kernel
def rmX6_begin : Room := { frames := 0, cells := 0, slots := 0, locals := 0 }
def fX6_begin_4 (x1 : Int32) (M : xm) : Nat → Int32 → Int32 → Option (Int32)
  | 0, _, _ => none
  | n + 1, x2, x3 => (if x1 ≤ x3 then (some x2) else xchk ((3 * x3) + 0) 36 (xl (x2 + (M.1 64 (((3 * x3) + 0)).toNatClampNeg)) (fun v1 => (fX6_begin_4 x1 M n v1 (x3 + 1)))))
def fX6_begin (x1 : Int32) (M : xm) : Option (Int32) := (fX6_begin_4 x1 M xfuel 0 0)
section
variable {p : Program} {l : Launch} {e : Env} {s : State} {m : MethodId} {args : Array Value} {below : List Frame} {meth : Method} {c : Code} {D : va_G} {cs : Nat → ClassId} {S : List Nat} {ad : Nat → Nat}
theorem bX6_begin_4 (Z : CX p s m args meth c cX6_begin 4 RX6 (some .int) D cs (xA S ad) S ad) (hS : xalm S) (x1 : Int32) (M : xm) : ∀ (n : Nat) (x2 : Int32) (x3 : Int32), XJ p l e rmX6_begin s m args below meth c D cs (xA S ad) S ad 4 (XRr below args s D cs S ad M) 4 [(0, .ref (ad 60)), (1, .int x1), (2, .int x2), (3, .int x3)] [] M (fX6_begin_4 x1 M n x2 x3) := by
  intro n
  induction n with
  | zero => intros; exact xj_none
  | succ n ih =>
    intro x2 x3
    rw [fX6_begin_4]
    refine xj_iload_n Z 3 dX6_begin_4 rfl rfl ?_
    refine xj_iload_n Z 1 dX6_begin_5 rfl rfl ?_
    refine xj_icmp_ge Z 28 dX6_begin_6 (by decide) (fun _ => ?_) (fun _ => ?_)
    · refine xj_iload_n Z 2 dX6_begin_28 rfl rfl ?_
      exact xj_ret_r Z dX6_begin_29
    · refine xj_iload_n Z 2 dX6_begin_9 rfl rfl ?_
      refine xj_aload_n Z 0 dX6_begin_10 rfl rfl ?_
      refine xg_X6_20 Z (hS 60 (by decide) (by decide)) dX6_begin_11 ?_
      refine xj_iconst Z 3 dX6_begin_14 (by decide) ?_
      refine xj_iload_n Z 3 dX6_begin_15 rfl rfl ?_
      refine xj_imul Z dX6_begin_16 ?_
      refine xj_iconst Z 0 dX6_begin_17 (by decide) ?_
      refine xj_iadd Z dX6_begin_18 ?_
      refine xj_iald Z (hS 64 (by decide) (by decide)) rfl dX6_begin_19 (fun _ => ?_)
      refine xj_iadd Z dX6_begin_20 ?_
      refine xj_top (fun v1 => ?_)
      refine xj_istore_n Z (lv' := [(2, .int v1), (0, .ref (ad 60)), (1, .int x1), (3, .int x3)]) dX6_begin_21 rfl (by decide) rfl ?_
      refine xj_iinc Z 3 (x3 + 1) (lv' := [(3, .int (x3 + 1)), (2, .int v1), (0, .ref (ad 60)), (1, .int x1)]) dX6_begin_22 rfl rfl (by decide) rfl ?_
      refine xj_goto Z 4 dX6_begin_25 (by decide) ?_
      refine xj_sub [2, 3, 1, 0] (lv' := [(0, .ref (ad 60)), (1, .int x1), (2, .int v1), (3, .int (x3 + 1))]) rfl ?_
      exact ih v1 (x3 + 1)
end
theorem kX6_begin (l : Launch) (D : va_G) (cs : Nat → ClassId) (S : List Nat) (ad : Nat → Nat) (hd : xdist S ad) (hS : xalm S) (x1 : Int32) (M : xm) : ∀ r, fX6_begin x1 M = some r → Met l yX6_begin [Cond.code yX6_begin cX6_begin 4 (some .int)] rmX6_begin (XPc D cs S ad [.ref (ad 60), .int x1] M) (XQi D cs S ad r M) 0 0 (xA S ad) := by
  refine xm_r (own := RX6) (lv := [(0, .ref (ad 60)), (1, .int x1)]) (by decide +kernel) rfl rfl (Nat.le_of_ble_eq_true rfl) hd (fun p e s m args below meth c Z => ?_)
  unfold fX6_begin
  refine xj_iconst Z 0 dX6_begin_0 (by decide) ?_
  refine xj_istore_n Z (lv' := [(2, .int 0), (0, .ref (ad 60)), (1, .int x1)]) dX6_begin_1 rfl (by decide) rfl ?_
  refine xj_iconst Z 0 dX6_begin_2 (by decide) ?_
  refine xj_istore_n Z (lv' := [(3, .int 0), (2, .int 0), (0, .ref (ad 60)), (1, .int x1)]) dX6_begin_3 rfl (by decide) rfl ?_
  refine xj_sub [2, 3, 1, 0] (lv' := [(0, .ref (ad 60)), (1, .int x1), (2, .int 0), (3, .int 0)]) rfl ?_
  exact bX6_begin_4 Z hS x1 M xfuel 0 0
/-! WalkingLawModel.end()I -/
theorem dX6_end_0 : decode cX6_end 0 = .ok (.aload_n 0, 1) := by decide +kernel
theorem dX6_end_1 : decode cX6_end 1 = .ok (.aload_n 0, 1) := by decide +kernel
theorem dX6_end_2 : decode cX6_end 2 = .ok (.getfield 17, 3) := by decide +kernel
theorem dX6_end_5 : decode cX6_end 5 = .ok (.iconst 0, 1) := by decide +kernel
theorem dX6_end_6 : decode cX6_end 6 = .ok (.iaload, 1) := by decide +kernel
theorem dX6_end_7 : decode cX6_end 7 = .ok (.invokevirtual 102, 3) := by decide +kernel
theorem dX6_end_10 : decode cX6_end 10 = .ok (.ireturn, 1) := by decide +kernel
def rmX6_end : Room := { frames := 1, cells := 0, slots := 0, locals := 23 }
def fX6_end (M : xm) : Option (Int32) := xchk 0 2 ((fX6_begin (M.1 63 (0 : Int32).toNatClampNeg) M).bind (fun v1 => (some v1)))
section
variable {p : Program} {l : Launch} {e : Env} {s : State} {m : MethodId} {args : Array Value} {below : List Frame} {meth : Method} {c : Code} {D : va_G} {cs : Nat → ClassId} {S : List Nat} {ad : Nat → Nat}
end
theorem kX6_end (l : Launch) (D : va_G) (cs : Nat → ClassId) (S : List Nat) (ad : Nat → Nat) (hd : xdist S ad) (hS : xalm S) (M : xm) : ∀ r, fX6_end M = some r → Met l yX6_end [Cond.code yX6_end cX6_end 1 (some .int)] rmX6_end (XPc D cs S ad [.ref (ad 60)] M) (XQi D cs S ad r M) 0 0 (xA S ad) := by
  refine xm_r (own := RX6) (lv := [(0, .ref (ad 60))]) (by decide +kernel) rfl rfl (Nat.le_of_ble_eq_true rfl) hd (fun p e s m args below meth c Z => ?_)
  unfold fX6_end
  refine xj_aload_n Z 0 dX6_end_0 rfl rfl ?_
  refine xj_aload_n Z 0 dX6_end_1 rfl rfl ?_
  refine xg_X6_17 Z (hS 60 (by decide) (by decide)) dX6_end_2 ?_
  refine xj_iconst Z 0 dX6_end_5 (by decide) ?_
  refine xj_iald Z (hS 63 (by decide) (by decide)) rfl dX6_end_6 (fun _ => ?_)
  refine xj_callVr Z (As := [.int (M.1 63 (0 : Int32).toNatClampNeg)]) (kX6_begin l D cs S ad Z.2.2.2.2.2.1.dist hS (M.1 63 (0 : Int32).toNatClampNeg) M) gw_X6_102 (hS 60 (by decide) (by decide)) rfl rfl (n := 1) (by decide +kernel) rfl ⟨rfl, rfl⟩ (by decide) rfl (Nat.le_of_ble_eq_true rfl) dX6_end_7 (fun v1 => ?_)
  exact xj_ret_r Z dX6_end_10
/-! WalkingLawModel.parishOf(I)I -/
theorem dX6_parishOf_0 : decode cX6_parishOf 0 = .ok (.iconst 0, 1) := by decide +kernel
theorem dX6_parishOf_1 : decode cX6_parishOf 1 = .ok (.istore_n 2, 1) := by decide +kernel
theorem dX6_parishOf_2 : decode cX6_parishOf 2 = .ok (.iload_n 2, 1) := by decide +kernel
theorem dX6_parishOf_3 : decode cX6_parishOf 3 = .ok (.iconst 1, 1) := by decide +kernel
theorem dX6_parishOf_4 : decode cX6_parishOf 4 = .ok (.iadd, 1) := by decide +kernel
theorem dX6_parishOf_5 : decode cX6_parishOf 5 = .ok (.aload_n 0, 1) := by decide +kernel
theorem dX6_parishOf_6 : decode cX6_parishOf 6 = .ok (.getfield 17, 3) := by decide +kernel
theorem dX6_parishOf_9 : decode cX6_parishOf 9 = .ok (.iconst 0, 1) := by decide +kernel
theorem dX6_parishOf_10 : decode cX6_parishOf 10 = .ok (.iaload, 1) := by decide +kernel
theorem dX6_parishOf_11 : decode cX6_parishOf 11 = .ok (.if_icmp .ge 20, 3) := by decide +kernel
theorem dX6_parishOf_14 : decode cX6_parishOf 14 = .ok (.iload_n 1, 1) := by decide +kernel
theorem dX6_parishOf_15 : decode cX6_parishOf 15 = .ok (.aload_n 0, 1) := by decide +kernel
theorem dX6_parishOf_16 : decode cX6_parishOf 16 = .ok (.iload_n 2, 1) := by decide +kernel
theorem dX6_parishOf_17 : decode cX6_parishOf 17 = .ok (.iconst 1, 1) := by decide +kernel
theorem dX6_parishOf_18 : decode cX6_parishOf 18 = .ok (.iadd, 1) := by decide +kernel
theorem dX6_parishOf_19 : decode cX6_parishOf 19 = .ok (.invokevirtual 102, 3) := by decide +kernel
theorem dX6_parishOf_22 : decode cX6_parishOf 22 = .ok (.if_icmp .lt 9, 3) := by decide +kernel
theorem dX6_parishOf_25 : decode cX6_parishOf 25 = .ok (.iinc 2 1, 3) := by decide +kernel
theorem dX6_parishOf_28 : decode cX6_parishOf 28 = .ok (.goto (-26), 3) := by decide +kernel
theorem dX6_parishOf_31 : decode cX6_parishOf 31 = .ok (.iload_n 2, 1) := by decide +kernel
theorem dX6_parishOf_32 : decode cX6_parishOf 32 = .ok (.ireturn, 1) := by decide +kernel
def rmX6_parishOf : Room := { frames := 1, cells := 0, slots := 0, locals := 23 }
def fX6_parishOf_31 (x2 : Int32) (M : xm) : Option (Int32) := (some x2)
def fX6_parishOf_2 (x1 : Int32) (M : xm) : Nat → Int32 → Option (Int32)
  | 0, _ => none
  | n + 1, x2 => xchk 0 2 ((if (M.1 63 (0 : Int32).toNatClampNeg) ≤ (x2 + 1) then (fX6_parishOf_31 x2 M) else (fX6_begin (x2 + 1) M).bind (fun v1 => (if x1 < v1 then (fX6_parishOf_31 x2 M) else (fX6_parishOf_2 x1 M n (x2 + 1))))))
def fX6_parishOf (x1 : Int32) (M : xm) : Option (Int32) := (fX6_parishOf_2 x1 M xfuel 0)
section
variable {p : Program} {l : Launch} {e : Env} {s : State} {m : MethodId} {args : Array Value} {below : List Frame} {meth : Method} {c : Code} {D : va_G} {cs : Nat → ClassId} {S : List Nat} {ad : Nat → Nat}
theorem bX6_parishOf_31 (Z : CX p s m args meth c cX6_parishOf 3 RX6 (some .int) D cs (xA S ad) S ad) (hS : xalm S) (x2 : Int32) (M : xm) : XJ p l e rmX6_parishOf s m args below meth c D cs (xA S ad) S ad 3 (XRr below args s D cs S ad M) 31 [(2, .int x2)] [] M (fX6_parishOf_31 x2 M) := by
  unfold fX6_parishOf_31
  refine xj_iload_n Z 0 dX6_parishOf_31 rfl rfl ?_
  exact xj_ret_r Z dX6_parishOf_32
theorem bX6_parishOf_2 (Z : CX p s m args meth c cX6_parishOf 3 RX6 (some .int) D cs (xA S ad) S ad) (hS : xalm S) (x1 : Int32) (M : xm) : ∀ (n : Nat) (x2 : Int32), XJ p l e rmX6_parishOf s m args below meth c D cs (xA S ad) S ad 3 (XRr below args s D cs S ad M) 2 [(0, .ref (ad 60)), (1, .int x1), (2, .int x2)] [] M (fX6_parishOf_2 x1 M n x2) := by
  intro n
  induction n with
  | zero => intros; exact xj_none
  | succ n ih =>
    intro x2
    rw [fX6_parishOf_2]
    refine xj_iload_n Z 2 dX6_parishOf_2 rfl rfl ?_
    refine xj_iconst Z 1 dX6_parishOf_3 (by decide) ?_
    refine xj_iadd Z dX6_parishOf_4 ?_
    refine xj_aload_n Z 0 dX6_parishOf_5 rfl rfl ?_
    refine xg_X6_17 Z (hS 60 (by decide) (by decide)) dX6_parishOf_6 ?_
    refine xj_iconst Z 0 dX6_parishOf_9 (by decide) ?_
    refine xj_iald Z (hS 63 (by decide) (by decide)) rfl dX6_parishOf_10 (fun _ => ?_)
    refine xj_icmp_ge Z 31 dX6_parishOf_11 (by decide) (fun _ => ?_) (fun _ => ?_)
    · refine xj_sub [2] (lv' := [(2, .int x2)]) rfl ?_
      exact bX6_parishOf_31 Z hS x2 M
    · refine xj_iload_n Z 1 dX6_parishOf_14 rfl rfl ?_
      refine xj_aload_n Z 0 dX6_parishOf_15 rfl rfl ?_
      refine xj_iload_n Z 2 dX6_parishOf_16 rfl rfl ?_
      refine xj_iconst Z 1 dX6_parishOf_17 (by decide) ?_
      refine xj_iadd Z dX6_parishOf_18 ?_
      refine xj_callVr Z (As := [.int (x2 + 1)]) (kX6_begin l D cs S ad Z.2.2.2.2.2.1.dist hS (x2 + 1) M) gw_X6_102 (hS 60 (by decide) (by decide)) rfl rfl (n := 1) (by decide +kernel) rfl ⟨rfl, rfl⟩ (by decide) rfl (Nat.le_of_ble_eq_true rfl) dX6_parishOf_19 (fun v1 => ?_)
      refine xj_icmp_lt Z 31 dX6_parishOf_22 (by decide) (fun _ => ?_) (fun _ => ?_)
      · refine xj_sub [2] (lv' := [(2, .int x2)]) rfl ?_
        exact bX6_parishOf_31 Z hS x2 M
      · refine xj_iinc Z 2 (x2 + 1) (lv' := [(2, .int (x2 + 1)), (0, .ref (ad 60)), (1, .int x1)]) dX6_parishOf_25 rfl rfl (by decide) rfl ?_
        refine xj_goto Z 2 dX6_parishOf_28 (by decide) ?_
        refine xj_sub [1, 2, 0] (lv' := [(0, .ref (ad 60)), (1, .int x1), (2, .int (x2 + 1))]) rfl ?_
        exact ih (x2 + 1)
end
theorem kX6_parishOf (l : Launch) (D : va_G) (cs : Nat → ClassId) (S : List Nat) (ad : Nat → Nat) (hd : xdist S ad) (hS : xalm S) (x1 : Int32) (M : xm) : ∀ r, fX6_parishOf x1 M = some r → Met l yX6_parishOf [Cond.code yX6_parishOf cX6_parishOf 3 (some .int)] rmX6_parishOf (XPc D cs S ad [.ref (ad 60), .int x1] M) (XQi D cs S ad r M) 0 0 (xA S ad) := by
  refine xm_r (own := RX6) (lv := [(0, .ref (ad 60)), (1, .int x1)]) (by decide +kernel) rfl rfl (Nat.le_of_ble_eq_true rfl) hd (fun p e s m args below meth c Z => ?_)
  unfold fX6_parishOf
  refine xj_iconst Z 0 dX6_parishOf_0 (by decide) ?_
  refine xj_istore_n Z (lv' := [(2, .int 0), (0, .ref (ad 60)), (1, .int x1)]) dX6_parishOf_1 rfl (by decide) rfl ?_
  refine xj_sub [1, 2, 0] (lv' := [(0, .ref (ad 60)), (1, .int x1), (2, .int 0)]) rfl ?_
  exact bX6_parishOf_2 Z hS x1 M xfuel 0
/-! WalkingLawModel.there(II)I -/
theorem dX6_there_0 : decode cX6_there 0 = .ok (.iconst 0, 1) := by decide +kernel
theorem dX6_there_1 : decode cX6_there 1 = .ok (.istore_n 3, 1) := by decide +kernel
theorem dX6_there_2 : decode cX6_there 2 = .ok (.iconst 0, 1) := by decide +kernel
theorem dX6_there_3 : decode cX6_there 3 = .ok (.istore 4, 2) := by decide +kernel
theorem dX6_there_5 : decode cX6_there 5 = .ok (.iload 4, 2) := by decide +kernel
theorem dX6_there_7 : decode cX6_there 7 = .ok (.aload_n 0, 1) := by decide +kernel
theorem dX6_there_8 : decode cX6_there 8 = .ok (.getfield 23, 3) := by decide +kernel
theorem dX6_there_11 : decode cX6_there 11 = .ok (.iconst 0, 1) := by decide +kernel
theorem dX6_there_12 : decode cX6_there 12 = .ok (.iaload, 1) := by decide +kernel
theorem dX6_there_13 : decode cX6_there 13 = .ok (.if_icmp .ge 40, 3) := by decide +kernel
theorem dX6_there_16 : decode cX6_there 16 = .ok (.iload_n 3, 1) := by decide +kernel
theorem dX6_there_17 : decode cX6_there 17 = .ok (.aload_n 0, 1) := by decide +kernel
theorem dX6_there_18 : decode cX6_there 18 = .ok (.aload_n 0, 1) := by decide +kernel
theorem dX6_there_19 : decode cX6_there 19 = .ok (.getfield 29, 3) := by decide +kernel
theorem dX6_there_22 : decode cX6_there 22 = .ok (.bipush 25, 2) := by decide +kernel
theorem dX6_there_24 : decode cX6_there 24 = .ok (.iload_n 1, 1) := by decide +kernel
theorem dX6_there_25 : decode cX6_there 25 = .ok (.imul, 1) := by decide +kernel
theorem dX6_there_26 : decode cX6_there 26 = .ok (.iload 4, 2) := by decide +kernel
theorem dX6_there_28 : decode cX6_there 28 = .ok (.iadd, 1) := by decide +kernel
theorem dX6_there_29 : decode cX6_there 29 = .ok (.iaload, 1) := by decide +kernel
theorem dX6_there_30 : decode cX6_there 30 = .ok (.invokevirtual 106, 3) := by decide +kernel
theorem dX6_there_33 : decode cX6_there 33 = .ok (.iload_n 2, 1) := by decide +kernel
theorem dX6_there_34 : decode cX6_there 34 = .ok (.if_icmp .ne 10, 3) := by decide +kernel
theorem dX6_there_37 : decode cX6_there 37 = .ok (.iconst 1, 1) := by decide +kernel
theorem dX6_there_38 : decode cX6_there 38 = .ok (.iload 4, 2) := by decide +kernel
theorem dX6_there_40 : decode cX6_there 40 = .ok (.ishl, 1) := by decide +kernel
theorem dX6_there_41 : decode cX6_there 41 = .ok (.goto 4, 3) := by decide +kernel
theorem dX6_there_44 : decode cX6_there 44 = .ok (.iconst 0, 1) := by decide +kernel
theorem dX6_there_45 : decode cX6_there 45 = .ok (.ior, 1) := by decide +kernel
theorem dX6_there_46 : decode cX6_there 46 = .ok (.istore_n 3, 1) := by decide +kernel
theorem dX6_there_47 : decode cX6_there 47 = .ok (.iinc 4 1, 3) := by decide +kernel
theorem dX6_there_50 : decode cX6_there 50 = .ok (.goto (-45), 3) := by decide +kernel
theorem dX6_there_53 : decode cX6_there 53 = .ok (.iload_n 3, 1) := by decide +kernel
theorem dX6_there_54 : decode cX6_there 54 = .ok (.ireturn, 1) := by decide +kernel
def rmX6_there : Room := { frames := 2, cells := 0, slots := 0, locals := 45 }
def fX6_there_45 (k5 : Int32 → Int32 → Option (Int32)) (x1 : Int32) (x2 : Int32) (x4 : Int32) (t0 : Int32) (t1 : Int32) (M : xm) : Option (Int32) := xl (t0 ||| t1) (fun v1 => (k5 v1 (x4 + 1)))
def fX6_there_5 (x1 : Int32) (x2 : Int32) (M : xm) : Nat → Int32 → Int32 → Option (Int32)
  | 0, _, _ => none
  | n + 1, x3, x4 => xchk 0 2 ((if (M.1 65 (0 : Int32).toNatClampNeg) ≤ x4 then (some x3) else xchk ((25 * x1) + x4) 100 ((fX6_parishOf (M.1 67 (((25 * x1) + x4)).toNatClampNeg) M).bind (fun v2 => (if v2 = x2 then (fX6_there_45 (fun z0 z1 => fX6_there_5 x1 x2 M n z0 z1) x1 x2 x4 x3 (1 <<< (x4 &&& 31)) M) else (fX6_there_45 (fun z0 z1 => fX6_there_5 x1 x2 M n z0 z1) x1 x2 x4 x3 0 M))))))
def fX6_there (x1 : Int32) (x2 : Int32) (M : xm) : Option (Int32) := (fX6_there_5 x1 x2 M xfuel 0 0)
section
variable {p : Program} {l : Launch} {e : Env} {s : State} {m : MethodId} {args : Array Value} {below : List Frame} {meth : Method} {c : Code} {D : va_G} {cs : Nat → ClassId} {S : List Nat} {ad : Nat → Nat}
theorem bX6_there_45 (Z : CX p s m args meth c cX6_there 5 RX6 (some .int) D cs (xA S ad) S ad) (hS : xalm S) {k5 : Int32 → Int32 → Option (Int32)} (x1 : Int32) (x2 : Int32) (x4 : Int32) (t0 : Int32) (t1 : Int32) (M : xm) (hk5 : ∀ (x3 : Int32) (x4 : Int32), XJ p l e rmX6_there s m args below meth c D cs (xA S ad) S ad 5 (XRr below args s D cs S ad M) 5 [(0, .ref (ad 60)), (1, .int x1), (2, .int x2), (3, .int x3), (4, .int x4)] [] M (k5 x3 x4)) : XJ p l e rmX6_there s m args below meth c D cs (xA S ad) S ad 5 (XRr below args s D cs S ad M) 45 [(0, .ref (ad 60)), (1, .int x1), (2, .int x2), (4, .int x4)] [.int t1, .int t0] M (fX6_there_45 k5 x1 x2 x4 t0 t1 M) := by
  unfold fX6_there_45
  refine xj_ior Z dX6_there_45 ?_
  refine xj_top (fun v1 => ?_)
  refine xj_istore_n Z (lv' := [(3, .int v1), (0, .ref (ad 60)), (1, .int x1), (2, .int x2), (4, .int x4)]) dX6_there_46 rfl (by decide) rfl ?_
  refine xj_iinc Z 4 (x4 + 1) (lv' := [(4, .int (x4 + 1)), (3, .int v1), (0, .ref (ad 60)), (1, .int x1), (2, .int x2)]) dX6_there_47 rfl rfl (by decide) rfl ?_
  refine xj_goto Z 5 dX6_there_50 (by decide) ?_
  refine xj_sub [2, 3, 4, 1, 0] (lv' := [(0, .ref (ad 60)), (1, .int x1), (2, .int x2), (3, .int v1), (4, .int (x4 + 1))]) rfl ?_
  exact hk5 v1 (x4 + 1)
theorem bX6_there_5 (Z : CX p s m args meth c cX6_there 5 RX6 (some .int) D cs (xA S ad) S ad) (hS : xalm S) (x1 : Int32) (x2 : Int32) (M : xm) : ∀ (n : Nat) (x3 : Int32) (x4 : Int32), XJ p l e rmX6_there s m args below meth c D cs (xA S ad) S ad 5 (XRr below args s D cs S ad M) 5 [(0, .ref (ad 60)), (1, .int x1), (2, .int x2), (3, .int x3), (4, .int x4)] [] M (fX6_there_5 x1 x2 M n x3 x4) := by
  intro n
  induction n with
  | zero => intros; exact xj_none
  | succ n ih =>
    intro x3 x4
    rw [fX6_there_5]
    refine xj_iload Z 4 dX6_there_5 rfl ?_
    refine xj_aload_n Z 0 dX6_there_7 rfl rfl ?_
    refine xg_X6_23 Z (hS 60 (by decide) (by decide)) dX6_there_8 ?_
    refine xj_iconst Z 0 dX6_there_11 (by decide) ?_
    refine xj_iald Z (hS 65 (by decide) (by decide)) rfl dX6_there_12 (fun _ => ?_)
    refine xj_icmp_ge Z 53 dX6_there_13 (by decide) (fun _ => ?_) (fun _ => ?_)
    · refine xj_iload_n Z 3 dX6_there_53 rfl rfl ?_
      exact xj_ret_r Z dX6_there_54
    · refine xj_iload_n Z 3 dX6_there_16 rfl rfl ?_
      refine xj_aload_n Z 0 dX6_there_17 rfl rfl ?_
      refine xj_aload_n Z 0 dX6_there_18 rfl rfl ?_
      refine xg_X6_29 Z (hS 60 (by decide) (by decide)) dX6_there_19 ?_
      refine xj_bipush Z 25 dX6_there_22 (by decide) ?_
      refine xj_iload_n Z 1 dX6_there_24 rfl rfl ?_
      refine xj_imul Z dX6_there_25 ?_
      refine xj_iload Z 4 dX6_there_26 rfl ?_
      refine xj_iadd Z dX6_there_28 ?_
      refine xj_iald Z (hS 67 (by decide) (by decide)) rfl dX6_there_29 (fun _ => ?_)
      refine xj_callVr Z (As := [.int (M.1 67 (((25 * x1) + x4)).toNatClampNeg)]) (kX6_parishOf l D cs S ad Z.2.2.2.2.2.1.dist hS (M.1 67 (((25 * x1) + x4)).toNatClampNeg) M) gw_X6_106 (hS 60 (by decide) (by decide)) rfl rfl (n := 1) (by decide +kernel) rfl ⟨rfl, rfl⟩ (by decide) rfl (Nat.le_of_ble_eq_true rfl) dX6_there_30 (fun v2 => ?_)
      refine xj_iload_n Z 2 dX6_there_33 rfl rfl ?_
      refine xj_icmp_ne Z 44 dX6_there_34 (by decide) (fun _ => ?_) (fun _ => ?_)
      · refine xj_iconst Z 0 dX6_there_44 (by decide) ?_
        refine xj_sub [0, 1, 2, 4] (lv' := [(0, .ref (ad 60)), (1, .int x1), (2, .int x2), (4, .int x4)]) rfl ?_
        exact bX6_there_45 Z hS x1 x2 x4 x3 0 M ih
      · refine xj_iconst Z 1 dX6_there_37 (by decide) ?_
        refine xj_iload Z 4 dX6_there_38 rfl ?_
        refine xj_ishl Z dX6_there_40 ?_
        refine xj_goto Z 45 dX6_there_41 (by decide) ?_
        refine xj_sub [0, 1, 2, 4] (lv' := [(0, .ref (ad 60)), (1, .int x1), (2, .int x2), (4, .int x4)]) rfl ?_
        exact bX6_there_45 Z hS x1 x2 x4 x3 (1 <<< (x4 &&& 31)) M ih
end
theorem kX6_there (l : Launch) (D : va_G) (cs : Nat → ClassId) (S : List Nat) (ad : Nat → Nat) (hd : xdist S ad) (hS : xalm S) (x1 : Int32) (x2 : Int32) (M : xm) : ∀ r, fX6_there x1 x2 M = some r → Met l yX6_there [Cond.code yX6_there cX6_there 5 (some .int)] rmX6_there (XPc D cs S ad [.ref (ad 60), .int x1, .int x2] M) (XQi D cs S ad r M) 0 0 (xA S ad) := by
  refine xm_r (own := RX6) (lv := [(0, .ref (ad 60)), (1, .int x1), (2, .int x2)]) (by decide +kernel) rfl rfl (Nat.le_of_ble_eq_true rfl) hd (fun p e s m args below meth c Z => ?_)
  unfold fX6_there
  refine xj_iconst Z 0 dX6_there_0 (by decide) ?_
  refine xj_istore_n Z (lv' := [(3, .int 0), (0, .ref (ad 60)), (1, .int x1), (2, .int x2)]) dX6_there_1 rfl (by decide) rfl ?_
  refine xj_iconst Z 0 dX6_there_2 (by decide) ?_
  refine xj_istore Z (lv' := [(4, .int 0), (3, .int 0), (0, .ref (ad 60)), (1, .int x1), (2, .int x2)]) dX6_there_3 (by decide) rfl ?_
  refine xj_sub [2, 3, 4, 1, 0] (lv' := [(0, .ref (ad 60)), (1, .int x1), (2, .int x2), (3, .int 0), (4, .int 0)]) rfl ?_
  exact bX6_there_5 Z hS x1 x2 M xfuel 0 0
/-! WalkingLawModel.many(I)I -/
theorem dX6_many_0 : decode cX6_many 0 = .ok (.iconst 0, 1) := by decide +kernel
theorem dX6_many_1 : decode cX6_many 1 = .ok (.istore_n 1, 1) := by decide +kernel
theorem dX6_many_2 : decode cX6_many 2 = .ok (.iconst 0, 1) := by decide +kernel
theorem dX6_many_3 : decode cX6_many 3 = .ok (.istore_n 2, 1) := by decide +kernel
theorem dX6_many_4 : decode cX6_many 4 = .ok (.iload_n 2, 1) := by decide +kernel
theorem dX6_many_5 : decode cX6_many 5 = .ok (.bipush 30, 2) := by decide +kernel
theorem dX6_many_7 : decode cX6_many 7 = .ok (.if_icmp .ge 17, 3) := by decide +kernel
theorem dX6_many_10 : decode cX6_many 10 = .ok (.iload_n 1, 1) := by decide +kernel
theorem dX6_many_11 : decode cX6_many 11 = .ok (.iload_n 0, 1) := by decide +kernel
theorem dX6_many_12 : decode cX6_many 12 = .ok (.iload_n 2, 1) := by decide +kernel
theorem dX6_many_13 : decode cX6_many 13 = .ok (.ishr, 1) := by decide +kernel
theorem dX6_many_14 : decode cX6_many 14 = .ok (.iconst 1, 1) := by decide +kernel
theorem dX6_many_15 : decode cX6_many 15 = .ok (.iand, 1) := by decide +kernel
theorem dX6_many_16 : decode cX6_many 16 = .ok (.iadd, 1) := by decide +kernel
theorem dX6_many_17 : decode cX6_many 17 = .ok (.istore_n 1, 1) := by decide +kernel
theorem dX6_many_18 : decode cX6_many 18 = .ok (.iinc 2 1, 3) := by decide +kernel
theorem dX6_many_21 : decode cX6_many 21 = .ok (.goto (-17), 3) := by decide +kernel
theorem dX6_many_24 : decode cX6_many 24 = .ok (.iload_n 1, 1) := by decide +kernel
theorem dX6_many_25 : decode cX6_many 25 = .ok (.ireturn, 1) := by decide +kernel
def rmX6_many : Room := { frames := 0, cells := 0, slots := 0, locals := 0 }
def fX6_many_4 (x0 : Int32) (M : xm) : Nat → Int32 → Int32 → Option (Int32)
  | 0, _, _ => none
  | n + 1, x1, x2 => (if (30 : Int32) ≤ x2 then (some x1) else xl (x1 + ((x0 >>> (x2 &&& 31)) &&& 1)) (fun v1 => (fX6_many_4 x0 M n v1 (x2 + 1))))
def fX6_many (x0 : Int32) (M : xm) : Option (Int32) := (fX6_many_4 x0 M xfuel 0 0)
section
variable {p : Program} {l : Launch} {e : Env} {s : State} {m : MethodId} {args : Array Value} {below : List Frame} {meth : Method} {c : Code} {D : va_G} {cs : Nat → ClassId} {S : List Nat} {ad : Nat → Nat}
theorem bX6_many_4 (Z : CX p s m args meth c cX6_many 3 RX6 (some .int) D cs (xA S ad) S ad) (x0 : Int32) (M : xm) : ∀ (n : Nat) (x1 : Int32) (x2 : Int32), XJ p l e rmX6_many s m args below meth c D cs (xA S ad) S ad 3 (XRr below args s D cs S ad M) 4 [(0, .int x0), (1, .int x1), (2, .int x2)] [] M (fX6_many_4 x0 M n x1 x2) := by
  intro n
  induction n with
  | zero => intros; exact xj_none
  | succ n ih =>
    intro x1 x2
    rw [fX6_many_4]
    refine xj_iload_n Z 2 dX6_many_4 rfl rfl ?_
    refine xj_bipush Z 30 dX6_many_5 (by decide) ?_
    refine xj_icmp_ge Z 24 dX6_many_7 (by decide) (fun _ => ?_) (fun _ => ?_)
    · refine xj_iload_n Z 1 dX6_many_24 rfl rfl ?_
      exact xj_ret_r Z dX6_many_25
    · refine xj_iload_n Z 1 dX6_many_10 rfl rfl ?_
      refine xj_iload_n Z 0 dX6_many_11 rfl rfl ?_
      refine xj_iload_n Z 2 dX6_many_12 rfl rfl ?_
      refine xj_ishr Z dX6_many_13 ?_
      refine xj_iconst Z 1 dX6_many_14 (by decide) ?_
      refine xj_iand Z dX6_many_15 ?_
      refine xj_iadd Z dX6_many_16 ?_
      refine xj_top (fun v1 => ?_)
      refine xj_istore_n Z (lv' := [(1, .int v1), (0, .int x0), (2, .int x2)]) dX6_many_17 rfl (by decide) rfl ?_
      refine xj_iinc Z 2 (x2 + 1) (lv' := [(2, .int (x2 + 1)), (1, .int v1), (0, .int x0)]) dX6_many_18 rfl rfl (by decide) rfl ?_
      refine xj_goto Z 4 dX6_many_21 (by decide) ?_
      refine xj_sub [2, 1, 0] (lv' := [(0, .int x0), (1, .int v1), (2, .int (x2 + 1))]) rfl ?_
      exact ih v1 (x2 + 1)
end
theorem kX6_many (l : Launch) (D : va_G) (cs : Nat → ClassId) (S : List Nat) (ad : Nat → Nat) (hd : xdist S ad) (x0 : Int32) (M : xm) : ∀ r, fX6_many x0 M = some r → Met l yX6_many [Cond.code yX6_many cX6_many 3 (some .int)] rmX6_many (XPc D cs S ad [.int x0] M) (XQi D cs S ad r M) 0 0 (xA S ad) := by
  refine xm_r (own := RX6) (lv := [(0, .int x0)]) (by decide +kernel) rfl rfl (Nat.le_of_ble_eq_true rfl) hd (fun p e s m args below meth c Z => ?_)
  unfold fX6_many
  refine xj_iconst Z 0 dX6_many_0 (by decide) ?_
  refine xj_istore_n Z (lv' := [(1, .int 0), (0, .int x0)]) dX6_many_1 rfl (by decide) rfl ?_
  refine xj_iconst Z 0 dX6_many_2 (by decide) ?_
  refine xj_istore_n Z (lv' := [(2, .int 0), (1, .int 0), (0, .int x0)]) dX6_many_3 rfl (by decide) rfl ?_
  refine xj_sub [2, 1, 0] (lv' := [(0, .int x0), (1, .int 0), (2, .int 0)]) rfl ?_
  exact bX6_many_4 Z x0 M xfuel 0 0
/-! WalkingLawModel.parish(II)I -/
theorem dX6_parish_0 : decode cX6_parish 0 = .ok (.aload_n 0, 1) := by decide +kernel
theorem dX6_parish_1 : decode cX6_parish 1 = .ok (.iload_n 1, 1) := by decide +kernel
theorem dX6_parish_2 : decode cX6_parish 2 = .ok (.invokevirtual 109, 3) := by decide +kernel
theorem dX6_parish_5 : decode cX6_parish 5 = .ok (.ifCond .eq 15, 3) := by decide +kernel
theorem dX6_parish_8 : decode cX6_parish 8 = .ok (.iload_n 2, 1) := by decide +kernel
theorem dX6_parish_9 : decode cX6_parish 9 = .ok (.i2l, 1) := by decide +kernel
theorem dX6_parish_10 : decode cX6_parish 10 = .ok (.lconst 0, 1) := by decide +kernel
theorem dX6_parish_11 : decode cX6_parish 11 = .ok (.ldc2_w 112, 3) := by decide +kernel
theorem dX6_parish_14 : decode cX6_parish 14 = .ok (.invokestatic 56, 3) := by decide +kernel
theorem dX6_parish_17 : decode cX6_parish 17 = .ok (.ifCond .ne 7, 3) := by decide +kernel
theorem dX6_parish_20 : decode cX6_parish 20 = .ok (.iconst (-1), 1) := by decide +kernel
theorem dX6_parish_21 : decode cX6_parish 21 = .ok (.goto 27, 3) := by decide +kernel
theorem dX6_parish_24 : decode cX6_parish 24 = .ok (.iload_n 2, 1) := by decide +kernel
theorem dX6_parish_25 : decode cX6_parish 25 = .ok (.iconst 3, 1) := by decide +kernel
theorem dX6_parish_26 : decode cX6_parish 26 = .ok (.if_icmp .ge 16, 3) := by decide +kernel
theorem dX6_parish_29 : decode cX6_parish 29 = .ok (.aload_n 0, 1) := by decide +kernel
theorem dX6_parish_30 : decode cX6_parish 30 = .ok (.getfield 20, 3) := by decide +kernel
theorem dX6_parish_33 : decode cX6_parish 33 = .ok (.iconst 3, 1) := by decide +kernel
theorem dX6_parish_34 : decode cX6_parish 34 = .ok (.iload_n 1, 1) := by decide +kernel
theorem dX6_parish_35 : decode cX6_parish 35 = .ok (.imul, 1) := by decide +kernel
theorem dX6_parish_36 : decode cX6_parish 36 = .ok (.iload_n 2, 1) := by decide +kernel
theorem dX6_parish_37 : decode cX6_parish 37 = .ok (.iadd, 1) := by decide +kernel
theorem dX6_parish_38 : decode cX6_parish 38 = .ok (.iaload, 1) := by decide +kernel
theorem dX6_parish_39 : decode cX6_parish 39 = .ok (.goto 9, 3) := by decide +kernel
theorem dX6_parish_42 : decode cX6_parish 42 = .ok (.aload_n 0, 1) := by decide +kernel
theorem dX6_parish_43 : decode cX6_parish 43 = .ok (.iconst 0, 1) := by decide +kernel
theorem dX6_parish_44 : decode cX6_parish 44 = .ok (.iload_n 1, 1) := by decide +kernel
theorem dX6_parish_45 : decode cX6_parish 45 = .ok (.invokevirtual 114, 3) := by decide +kernel
theorem dX6_parish_48 : decode cX6_parish 48 = .ok (.ireturn, 1) := by decide +kernel
def rmX6_parish : Room := { frames := 3, cells := 0, slots := 0, locals := 69 }
def fX6_parish_48 (t0 : Int32) (M : xm) : Option (Int32) := (some t0)
def fX6_parish_20 (M : xm) : Option (Int32) := (fX6_parish_48 (-1) M)
def fX6_parish (x1 : Int32) (x2 : Int32) (M : xm) : Option (Int32) := (fX6_isParish x1 M).bind (fun v1 => (if v1 = 0 then (fX6_parish_20 M) else (fX6_in (Int32.toInt64 x2) 0 3 M).bind (fun v2 => (if v2 = 0 then (fX6_parish_20 M) else (if (3 : Int32) ≤ x2 then (fX6_there 0 x1 M).bind (fun v3 => (fX6_parish_48 v3 M)) else xchk ((3 * x1) + x2) 36 ((fX6_parish_48 (M.1 64 (((3 * x1) + x2)).toNatClampNeg) M)))))))
section
variable {p : Program} {l : Launch} {e : Env} {s : State} {m : MethodId} {args : Array Value} {below : List Frame} {meth : Method} {c : Code} {D : va_G} {cs : Nat → ClassId} {S : List Nat} {ad : Nat → Nat}
theorem bX6_parish_48 (Z : CX p s m args meth c cX6_parish 3 RX6 (some .int) D cs (xA S ad) S ad) (hS : xalm S) (t0 : Int32) (M : xm) : XJ p l e rmX6_parish s m args below meth c D cs (xA S ad) S ad 3 (XRr below args s D cs S ad M) 48 [] [.int t0] M (fX6_parish_48 t0 M) := by
  unfold fX6_parish_48
  exact xj_ret_r Z dX6_parish_48
theorem bX6_parish_20 (Z : CX p s m args meth c cX6_parish 3 RX6 (some .int) D cs (xA S ad) S ad) (hS : xalm S) (M : xm) : XJ p l e rmX6_parish s m args below meth c D cs (xA S ad) S ad 3 (XRr below args s D cs S ad M) 20 [] [] M (fX6_parish_20 M) := by
  unfold fX6_parish_20
  refine xj_iconst Z (-1) dX6_parish_20 (by decide) ?_
  refine xj_goto Z 48 dX6_parish_21 (by decide) ?_
  exact bX6_parish_48 Z hS (-1) M
end
theorem kX6_parish (l : Launch) (D : va_G) (cs : Nat → ClassId) (S : List Nat) (ad : Nat → Nat) (hd : xdist S ad) (hS : xalm S) (x1 : Int32) (x2 : Int32) (M : xm) : ∀ r, fX6_parish x1 x2 M = some r → Met l yX6_parish [Cond.code yX6_parish cX6_parish 3 (some .int)] rmX6_parish (XPc D cs S ad [.ref (ad 60), .int x1, .int x2] M) (XQi D cs S ad r M) 0 0 (xA S ad) := by
  refine xm_r (own := RX6) (lv := [(0, .ref (ad 60)), (1, .int x1), (2, .int x2)]) (by decide +kernel) rfl rfl (Nat.le_of_ble_eq_true rfl) hd (fun p e s m args below meth c Z => ?_)
  unfold fX6_parish
  refine xj_aload_n Z 0 dX6_parish_0 rfl rfl ?_
  refine xj_iload_n Z 1 dX6_parish_1 rfl rfl ?_
  refine xj_callVr Z (As := [.int x1]) (kX6_isParish l D cs S ad Z.2.2.2.2.2.1.dist hS x1 M) gw_X6_109 (hS 60 (by decide) (by decide)) rfl rfl (n := 1) (by decide +kernel) rfl ⟨rfl, rfl⟩ (by decide) rfl (Nat.le_of_ble_eq_true rfl) dX6_parish_2 (fun v1 => ?_)
  refine xj_if_eq Z 20 dX6_parish_5 (by decide) (fun _ => ?_) (fun _ => ?_)
  · refine xj_sub [] (lv' := []) rfl ?_
    exact bX6_parish_20 Z hS M
  · refine xj_iload_n Z 2 dX6_parish_8 rfl rfl ?_
    refine xj_i2l Z dX6_parish_9 ?_
    refine xj_lconst Z 0 dX6_parish_10 (by decide) ?_
    refine xj_ldc2 Z dX6_parish_11 xb_455 ?_
    refine xj_callSr Z (As := [.long (Int32.toInt64 x2), .long 0, .long 3]) (kX6_in l D cs S ad Z.2.2.2.2.2.1.dist (Int32.toInt64 x2) 0 3 M) gw_X6_56 (n := 3) (by decide +kernel) rfl ⟨rfl, rfl⟩ (by decide) rfl (Nat.le_of_ble_eq_true rfl) dX6_parish_14 (fun v2 => ?_)
    refine xj_if_ne Z 24 dX6_parish_17 (by decide) (fun _ => ?_) (fun _ => ?_)
    · refine xj_iload_n Z 2 dX6_parish_24 rfl rfl ?_
      refine xj_iconst Z 3 dX6_parish_25 (by decide) ?_
      refine xj_icmp_ge Z 42 dX6_parish_26 (by decide) (fun _ => ?_) (fun _ => ?_)
      · refine xj_aload_n Z 0 dX6_parish_42 rfl rfl ?_
        refine xj_iconst Z 0 dX6_parish_43 (by decide) ?_
        refine xj_iload_n Z 1 dX6_parish_44 rfl rfl ?_
        refine xj_callVr Z (As := [.int 0, .int x1]) (kX6_there l D cs S ad Z.2.2.2.2.2.1.dist hS 0 x1 M) gw_X6_114 (hS 60 (by decide) (by decide)) rfl rfl (n := 2) (by decide +kernel) rfl ⟨rfl, rfl⟩ (by decide) rfl (Nat.le_of_ble_eq_true rfl) dX6_parish_45 (fun v3 => ?_)
        refine xj_sub [] (lv' := []) rfl ?_
        exact bX6_parish_48 Z hS v3 M
      · refine xj_aload_n Z 0 dX6_parish_29 rfl rfl ?_
        refine xg_X6_20 Z (hS 60 (by decide) (by decide)) dX6_parish_30 ?_
        refine xj_iconst Z 3 dX6_parish_33 (by decide) ?_
        refine xj_iload_n Z 1 dX6_parish_34 rfl rfl ?_
        refine xj_imul Z dX6_parish_35 ?_
        refine xj_iload_n Z 2 dX6_parish_36 rfl rfl ?_
        refine xj_iadd Z dX6_parish_37 ?_
        refine xj_iald Z (hS 64 (by decide) (by decide)) rfl dX6_parish_38 (fun _ => ?_)
        refine xj_goto Z 48 dX6_parish_39 (by decide) ?_
        refine xj_sub [] (lv' := []) rfl ?_
        exact bX6_parish_48 Z hS (M.1 64 (((3 * x1) + x2)).toNatClampNeg) M
    · refine xj_sub [] (lv' := []) rfl ?_
      exact bX6_parish_20 Z hS M
/-! WalkingLawModel.member(II)I -/
theorem dX6_member_0 : decode cX6_member 0 = .ok (.aload_n 0, 1) := by decide +kernel
theorem dX6_member_1 : decode cX6_member 1 = .ok (.iload_n 1, 1) := by decide +kernel
theorem dX6_member_2 : decode cX6_member 2 = .ok (.invokevirtual 118, 3) := by decide +kernel
theorem dX6_member_5 : decode cX6_member 5 = .ok (.ifCond .eq 15, 3) := by decide +kernel
theorem dX6_member_8 : decode cX6_member 8 = .ok (.iload_n 2, 1) := by decide +kernel
theorem dX6_member_9 : decode cX6_member 9 = .ok (.i2l, 1) := by decide +kernel
theorem dX6_member_10 : decode cX6_member 10 = .ok (.lconst 0, 1) := by decide +kernel
theorem dX6_member_11 : decode cX6_member 11 = .ok (.ldc2_w 121, 3) := by decide +kernel
theorem dX6_member_14 : decode cX6_member 14 = .ok (.invokestatic 56, 3) := by decide +kernel
theorem dX6_member_17 : decode cX6_member 17 = .ok (.ifCond .ne 5, 3) := by decide +kernel
theorem dX6_member_20 : decode cX6_member 20 = .ok (.iconst (-1), 1) := by decide +kernel
theorem dX6_member_21 : decode cX6_member 21 = .ok (.ireturn, 1) := by decide +kernel
theorem dX6_member_22 : decode cX6_member 22 = .ok (.iload_n 2, 1) := by decide +kernel
theorem dX6_member_23 : decode cX6_member 23 = .ok (.iconst 2, 1) := by decide +kernel
theorem dX6_member_24 : decode cX6_member 24 = .ok (.if_icmp .ge 16, 3) := by decide +kernel
theorem dX6_member_27 : decode cX6_member 27 = .ok (.aload_n 0, 1) := by decide +kernel
theorem dX6_member_28 : decode cX6_member 28 = .ok (.getfield 26, 3) := by decide +kernel
theorem dX6_member_31 : decode cX6_member 31 = .ok (.iconst 3, 1) := by decide +kernel
theorem dX6_member_32 : decode cX6_member 32 = .ok (.iload_n 1, 1) := by decide +kernel
theorem dX6_member_33 : decode cX6_member 33 = .ok (.imul, 1) := by decide +kernel
theorem dX6_member_34 : decode cX6_member 34 = .ok (.iload_n 2, 1) := by decide +kernel
theorem dX6_member_35 : decode cX6_member 35 = .ok (.iadd, 1) := by decide +kernel
theorem dX6_member_36 : decode cX6_member 36 = .ok (.iaload, 1) := by decide +kernel
theorem dX6_member_37 : decode cX6_member 37 = .ok (.goto 44, 3) := by decide +kernel
theorem dX6_member_40 : decode cX6_member 40 = .ok (.iload_n 2, 1) := by decide +kernel
theorem dX6_member_41 : decode cX6_member 41 = .ok (.iconst 2, 1) := by decide +kernel
theorem dX6_member_42 : decode cX6_member 42 = .ok (.if_icmp .ne 15, 3) := by decide +kernel
theorem dX6_member_45 : decode cX6_member 45 = .ok (.aload_n 0, 1) := by decide +kernel
theorem dX6_member_46 : decode cX6_member 46 = .ok (.getfield 29, 3) := by decide +kernel
theorem dX6_member_49 : decode cX6_member 49 = .ok (.bipush 8, 2) := by decide +kernel
theorem dX6_member_51 : decode cX6_member 51 = .ok (.iload_n 1, 1) := by decide +kernel
theorem dX6_member_52 : decode cX6_member 52 = .ok (.iadd, 1) := by decide +kernel
theorem dX6_member_53 : decode cX6_member 53 = .ok (.iaload, 1) := by decide +kernel
theorem dX6_member_54 : decode cX6_member 54 = .ok (.goto 27, 3) := by decide +kernel
theorem dX6_member_57 : decode cX6_member 57 = .ok (.iload_n 2, 1) := by decide +kernel
theorem dX6_member_58 : decode cX6_member 58 = .ok (.iconst 3, 1) := by decide +kernel
theorem dX6_member_59 : decode cX6_member 59 = .ok (.if_icmp .ne 12, 3) := by decide +kernel
theorem dX6_member_62 : decode cX6_member 62 = .ok (.aload_n 0, 1) := by decide +kernel
theorem dX6_member_63 : decode cX6_member 63 = .ok (.getfield 29, 3) := by decide +kernel
theorem dX6_member_66 : decode cX6_member 66 = .ok (.iload_n 1, 1) := by decide +kernel
theorem dX6_member_67 : decode cX6_member 67 = .ok (.iaload, 1) := by decide +kernel
theorem dX6_member_68 : decode cX6_member 68 = .ok (.goto 13, 3) := by decide +kernel
theorem dX6_member_71 : decode cX6_member 71 = .ok (.aload_n 0, 1) := by decide +kernel
theorem dX6_member_72 : decode cX6_member 72 = .ok (.aload_n 0, 1) := by decide +kernel
theorem dX6_member_73 : decode cX6_member 73 = .ok (.getfield 29, 3) := by decide +kernel
theorem dX6_member_76 : decode cX6_member 76 = .ok (.iload_n 1, 1) := by decide +kernel
theorem dX6_member_77 : decode cX6_member 77 = .ok (.iaload, 1) := by decide +kernel
theorem dX6_member_78 : decode cX6_member 78 = .ok (.invokevirtual 106, 3) := by decide +kernel
theorem dX6_member_81 : decode cX6_member 81 = .ok (.ireturn, 1) := by decide +kernel
def rmX6_member : Room := { frames := 2, cells := 0, slots := 0, locals := 46 }
def fX6_member_20 (M : xm) : Option (Int32) := (some (-1))
def fX6_member_81 (t0 : Int32) (M : xm) : Option (Int32) := (some t0)
def fX6_member (x1 : Int32) (x2 : Int32) (M : xm) : Option (Int32) := (fX6_isMember x1 M).bind (fun v1 => (if v1 = 0 then (fX6_member_20 M) else (fX6_in (Int32.toInt64 x2) 0 4 M).bind (fun v2 => (if v2 = 0 then (fX6_member_20 M) else (if (2 : Int32) ≤ x2 then (if x2 = 2 then xchk (8 + x1) 100 ((fX6_member_81 (M.1 67 ((8 + x1)).toNatClampNeg) M)) else (if x2 = 3 then xchk x1 100 ((fX6_member_81 (M.1 67 x1.toNatClampNeg) M)) else xchk x1 100 ((fX6_parishOf (M.1 67 x1.toNatClampNeg) M).bind (fun v3 => (fX6_member_81 v3 M))))) else xchk ((3 * x1) + x2) 48 ((fX6_member_81 (M.1 66 (((3 * x1) + x2)).toNatClampNeg) M)))))))
section
variable {p : Program} {l : Launch} {e : Env} {s : State} {m : MethodId} {args : Array Value} {below : List Frame} {meth : Method} {c : Code} {D : va_G} {cs : Nat → ClassId} {S : List Nat} {ad : Nat → Nat}
theorem bX6_member_20 (Z : CX p s m args meth c cX6_member 3 RX6 (some .int) D cs (xA S ad) S ad) (hS : xalm S) (M : xm) : XJ p l e rmX6_member s m args below meth c D cs (xA S ad) S ad 3 (XRr below args s D cs S ad M) 20 [] [] M (fX6_member_20 M) := by
  unfold fX6_member_20
  refine xj_iconst Z (-1) dX6_member_20 (by decide) ?_
  exact xj_ret_r Z dX6_member_21
theorem bX6_member_81 (Z : CX p s m args meth c cX6_member 3 RX6 (some .int) D cs (xA S ad) S ad) (hS : xalm S) (t0 : Int32) (M : xm) : XJ p l e rmX6_member s m args below meth c D cs (xA S ad) S ad 3 (XRr below args s D cs S ad M) 81 [] [.int t0] M (fX6_member_81 t0 M) := by
  unfold fX6_member_81
  exact xj_ret_r Z dX6_member_81
end
theorem kX6_member (l : Launch) (D : va_G) (cs : Nat → ClassId) (S : List Nat) (ad : Nat → Nat) (hd : xdist S ad) (hS : xalm S) (x1 : Int32) (x2 : Int32) (M : xm) : ∀ r, fX6_member x1 x2 M = some r → Met l yX6_member [Cond.code yX6_member cX6_member 3 (some .int)] rmX6_member (XPc D cs S ad [.ref (ad 60), .int x1, .int x2] M) (XQi D cs S ad r M) 0 0 (xA S ad) := by
  refine xm_r (own := RX6) (lv := [(0, .ref (ad 60)), (1, .int x1), (2, .int x2)]) (by decide +kernel) rfl rfl (Nat.le_of_ble_eq_true rfl) hd (fun p e s m args below meth c Z => ?_)
  unfold fX6_member
  refine xj_aload_n Z 0 dX6_member_0 rfl rfl ?_
  refine xj_iload_n Z 1 dX6_member_1 rfl rfl ?_
  refine xj_callVr Z (As := [.int x1]) (kX6_isMember l D cs S ad Z.2.2.2.2.2.1.dist hS x1 M) gw_X6_118 (hS 60 (by decide) (by decide)) rfl rfl (n := 1) (by decide +kernel) rfl ⟨rfl, rfl⟩ (by decide) rfl (Nat.le_of_ble_eq_true rfl) dX6_member_2 (fun v1 => ?_)
  refine xj_if_eq Z 20 dX6_member_5 (by decide) (fun _ => ?_) (fun _ => ?_)
  · refine xj_sub [] (lv' := []) rfl ?_
    exact bX6_member_20 Z hS M
  · refine xj_iload_n Z 2 dX6_member_8 rfl rfl ?_
    refine xj_i2l Z dX6_member_9 ?_
    refine xj_lconst Z 0 dX6_member_10 (by decide) ?_
    refine xj_ldc2 Z dX6_member_11 xb_464 ?_
    refine xj_callSr Z (As := [.long (Int32.toInt64 x2), .long 0, .long 4]) (kX6_in l D cs S ad Z.2.2.2.2.2.1.dist (Int32.toInt64 x2) 0 4 M) gw_X6_56 (n := 3) (by decide +kernel) rfl ⟨rfl, rfl⟩ (by decide) rfl (Nat.le_of_ble_eq_true rfl) dX6_member_14 (fun v2 => ?_)
    refine xj_if_ne Z 22 dX6_member_17 (by decide) (fun _ => ?_) (fun _ => ?_)
    · refine xj_iload_n Z 2 dX6_member_22 rfl rfl ?_
      refine xj_iconst Z 2 dX6_member_23 (by decide) ?_
      refine xj_icmp_ge Z 40 dX6_member_24 (by decide) (fun _ => ?_) (fun _ => ?_)
      · refine xj_iload_n Z 2 dX6_member_40 rfl rfl ?_
        refine xj_iconst Z 2 dX6_member_41 (by decide) ?_
        refine xj_icmp_ne Z 57 dX6_member_42 (by decide) (fun _ => ?_) (fun _ => ?_)
        · refine xj_iload_n Z 2 dX6_member_57 rfl rfl ?_
          refine xj_iconst Z 3 dX6_member_58 (by decide) ?_
          refine xj_icmp_ne Z 71 dX6_member_59 (by decide) (fun _ => ?_) (fun _ => ?_)
          · refine xj_aload_n Z 0 dX6_member_71 rfl rfl ?_
            refine xj_aload_n Z 0 dX6_member_72 rfl rfl ?_
            refine xg_X6_29 Z (hS 60 (by decide) (by decide)) dX6_member_73 ?_
            refine xj_iload_n Z 1 dX6_member_76 rfl rfl ?_
            refine xj_iald Z (hS 67 (by decide) (by decide)) rfl dX6_member_77 (fun _ => ?_)
            refine xj_callVr Z (As := [.int (M.1 67 x1.toNatClampNeg)]) (kX6_parishOf l D cs S ad Z.2.2.2.2.2.1.dist hS (M.1 67 x1.toNatClampNeg) M) gw_X6_106 (hS 60 (by decide) (by decide)) rfl rfl (n := 1) (by decide +kernel) rfl ⟨rfl, rfl⟩ (by decide) rfl (Nat.le_of_ble_eq_true rfl) dX6_member_78 (fun v3 => ?_)
            refine xj_sub [] (lv' := []) rfl ?_
            exact bX6_member_81 Z hS v3 M
          · refine xj_aload_n Z 0 dX6_member_62 rfl rfl ?_
            refine xg_X6_29 Z (hS 60 (by decide) (by decide)) dX6_member_63 ?_
            refine xj_iload_n Z 1 dX6_member_66 rfl rfl ?_
            refine xj_iald Z (hS 67 (by decide) (by decide)) rfl dX6_member_67 (fun _ => ?_)
            refine xj_goto Z 81 dX6_member_68 (by decide) ?_
            refine xj_sub [] (lv' := []) rfl ?_
            exact bX6_member_81 Z hS (M.1 67 x1.toNatClampNeg) M
        · refine xj_aload_n Z 0 dX6_member_45 rfl rfl ?_
          refine xg_X6_29 Z (hS 60 (by decide) (by decide)) dX6_member_46 ?_
          refine xj_bipush Z 8 dX6_member_49 (by decide) ?_
          refine xj_iload_n Z 1 dX6_member_51 rfl rfl ?_
          refine xj_iadd Z dX6_member_52 ?_
          refine xj_iald Z (hS 67 (by decide) (by decide)) rfl dX6_member_53 (fun _ => ?_)
          refine xj_goto Z 81 dX6_member_54 (by decide) ?_
          refine xj_sub [] (lv' := []) rfl ?_
          exact bX6_member_81 Z hS (M.1 67 ((8 + x1)).toNatClampNeg) M
      · refine xj_aload_n Z 0 dX6_member_27 rfl rfl ?_
        refine xg_X6_26 Z (hS 60 (by decide) (by decide)) dX6_member_28 ?_
        refine xj_iconst Z 3 dX6_member_31 (by decide) ?_
        refine xj_iload_n Z 1 dX6_member_32 rfl rfl ?_
        refine xj_imul Z dX6_member_33 ?_
        refine xj_iload_n Z 2 dX6_member_34 rfl rfl ?_
        refine xj_iadd Z dX6_member_35 ?_
        refine xj_iald Z (hS 66 (by decide) (by decide)) rfl dX6_member_36 (fun _ => ?_)
        refine xj_goto Z 81 dX6_member_37 (by decide) ?_
        refine xj_sub [] (lv' := []) rfl ?_
        exact bX6_member_81 Z hS (M.1 66 (((3 * x1) + x2)).toNatClampNeg) M
    · refine xj_sub [] (lv' := []) rfl ?_
      exact bX6_member_20 Z hS M
/-! WalkingLawModel.pace(II)I -/
theorem dX6_pace_0 : decode cX6_pace 0 = .ok (.aload_n 0, 1) := by decide +kernel
theorem dX6_pace_1 : decode cX6_pace 1 = .ok (.getfield 26, 3) := by decide +kernel
theorem dX6_pace_4 : decode cX6_pace 4 = .ok (.iconst 3, 1) := by decide +kernel
theorem dX6_pace_5 : decode cX6_pace 5 = .ok (.iload_n 2, 1) := by decide +kernel
theorem dX6_pace_6 : decode cX6_pace 6 = .ok (.imul, 1) := by decide +kernel
theorem dX6_pace_7 : decode cX6_pace 7 = .ok (.iconst 0, 1) := by decide +kernel
theorem dX6_pace_8 : decode cX6_pace 8 = .ok (.iadd, 1) := by decide +kernel
theorem dX6_pace_9 : decode cX6_pace 9 = .ok (.iaload, 1) := by decide +kernel
theorem dX6_pace_10 : decode cX6_pace 10 = .ok (.istore_n 3, 1) := by decide +kernel
theorem dX6_pace_11 : decode cX6_pace 11 = .ok (.aload_n 0, 1) := by decide +kernel
theorem dX6_pace_12 : decode cX6_pace 12 = .ok (.getfield 26, 3) := by decide +kernel
theorem dX6_pace_15 : decode cX6_pace 15 = .ok (.iconst 3, 1) := by decide +kernel
theorem dX6_pace_16 : decode cX6_pace 16 = .ok (.iload_n 2, 1) := by decide +kernel
theorem dX6_pace_17 : decode cX6_pace 17 = .ok (.imul, 1) := by decide +kernel
theorem dX6_pace_18 : decode cX6_pace 18 = .ok (.iconst 1, 1) := by decide +kernel
theorem dX6_pace_19 : decode cX6_pace 19 = .ok (.iadd, 1) := by decide +kernel
theorem dX6_pace_20 : decode cX6_pace 20 = .ok (.iaload, 1) := by decide +kernel
theorem dX6_pace_21 : decode cX6_pace 21 = .ok (.istore 4, 2) := by decide +kernel
theorem dX6_pace_23 : decode cX6_pace 23 = .ok (.aload_n 0, 1) := by decide +kernel
theorem dX6_pace_24 : decode cX6_pace 24 = .ok (.getfield 20, 3) := by decide +kernel
theorem dX6_pace_27 : decode cX6_pace 27 = .ok (.iconst 3, 1) := by decide +kernel
theorem dX6_pace_28 : decode cX6_pace 28 = .ok (.aload_n 0, 1) := by decide +kernel
theorem dX6_pace_29 : decode cX6_pace 29 = .ok (.aload_n 0, 1) := by decide +kernel
theorem dX6_pace_30 : decode cX6_pace 30 = .ok (.getfield 29, 3) := by decide +kernel
theorem dX6_pace_33 : decode cX6_pace 33 = .ok (.bipush 25, 2) := by decide +kernel
theorem dX6_pace_35 : decode cX6_pace 35 = .ok (.iload_n 1, 1) := by decide +kernel
theorem dX6_pace_36 : decode cX6_pace 36 = .ok (.imul, 1) := by decide +kernel
theorem dX6_pace_37 : decode cX6_pace 37 = .ok (.iload_n 2, 1) := by decide +kernel
theorem dX6_pace_38 : decode cX6_pace 38 = .ok (.iadd, 1) := by decide +kernel
theorem dX6_pace_39 : decode cX6_pace 39 = .ok (.iaload, 1) := by decide +kernel
theorem dX6_pace_40 : decode cX6_pace 40 = .ok (.invokevirtual 106, 3) := by decide +kernel
theorem dX6_pace_43 : decode cX6_pace 43 = .ok (.imul, 1) := by decide +kernel
theorem dX6_pace_44 : decode cX6_pace 44 = .ok (.iconst 1, 1) := by decide +kernel
theorem dX6_pace_45 : decode cX6_pace 45 = .ok (.iadd, 1) := by decide +kernel
theorem dX6_pace_46 : decode cX6_pace 46 = .ok (.iaload, 1) := by decide +kernel
theorem dX6_pace_47 : decode cX6_pace 47 = .ok (.iconst 1, 1) := by decide +kernel
theorem dX6_pace_48 : decode cX6_pace 48 = .ok (.if_icmp .ne 7, 3) := by decide +kernel
theorem dX6_pace_51 : decode cX6_pace 51 = .ok (.iconst 1, 1) := by decide +kernel
theorem dX6_pace_52 : decode cX6_pace 52 = .ok (.goto 4, 3) := by decide +kernel
theorem dX6_pace_55 : decode cX6_pace 55 = .ok (.iconst 0, 1) := by decide +kernel
theorem dX6_pace_56 : decode cX6_pace 56 = .ok (.istore 5, 2) := by decide +kernel
theorem dX6_pace_58 : decode cX6_pace 58 = .ok (.iload_n 3, 1) := by decide +kernel
theorem dX6_pace_59 : decode cX6_pace 59 = .ok (.iconst 1, 1) := by decide +kernel
theorem dX6_pace_60 : decode cX6_pace 60 = .ok (.if_icmp .ne 7, 3) := by decide +kernel
theorem dX6_pace_63 : decode cX6_pace 63 = .ok (.iconst 4, 1) := by decide +kernel
theorem dX6_pace_64 : decode cX6_pace 64 = .ok (.goto 22, 3) := by decide +kernel
theorem dX6_pace_67 : decode cX6_pace 67 = .ok (.iload_n 3, 1) := by decide +kernel
theorem dX6_pace_68 : decode cX6_pace 68 = .ok (.iconst 2, 1) := by decide +kernel
theorem dX6_pace_69 : decode cX6_pace 69 = .ok (.if_icmp .ne 15, 3) := by decide +kernel
theorem dX6_pace_72 : decode cX6_pace 72 = .ok (.iload 5, 2) := by decide +kernel
theorem dX6_pace_74 : decode cX6_pace 74 = .ok (.ifCond .eq 10, 3) := by decide +kernel
theorem dX6_pace_77 : decode cX6_pace 77 = .ok (.iload 4, 2) := by decide +kernel
theorem dX6_pace_79 : decode cX6_pace 79 = .ok (.iconst 2, 1) := by decide +kernel
theorem dX6_pace_80 : decode cX6_pace 80 = .ok (.idiv, 1) := by decide +kernel
theorem dX6_pace_81 : decode cX6_pace 81 = .ok (.goto 5, 3) := by decide +kernel
theorem dX6_pace_84 : decode cX6_pace 84 = .ok (.iload 4, 2) := by decide +kernel
theorem dX6_pace_86 : decode cX6_pace 86 = .ok (.ireturn, 1) := by decide +kernel
def rmX6_pace : Room := { frames := 2, cells := 0, slots := 0, locals := 45 }
def fX6_pace_86 (t0 : Int32) (M : xm) : Option (Int32) := (some t0)
def fX6_pace_84 (x4 : Int32) (M : xm) : Option (Int32) := (fX6_pace_86 x4 M)
def fX6_pace_56 (x3 : Int32) (x4 : Int32) (t0 : Int32) (M : xm) : Option (Int32) := (if x3 = 1 then (fX6_pace_86 4 M) else (if x3 = 2 then (if t0 = 0 then (fX6_pace_84 x4 M) else (fX6_pace_86 (x4 / 2) M)) else (fX6_pace_84 x4 M)))
def fX6_pace (x1 : Int32) (x2 : Int32) (M : xm) : Option (Int32) := xchk ((3 * x2) + 0) 48 (xl (M.1 66 (((3 * x2) + 0)).toNatClampNeg) (fun v1 => xchk ((3 * x2) + 1) 48 (xl (M.1 66 (((3 * x2) + 1)).toNatClampNeg) (fun v2 => xchk ((25 * x1) + x2) 100 ((fX6_parishOf (M.1 67 (((25 * x1) + x2)).toNatClampNeg) M).bind (fun v3 => xchk ((3 * v3) + 1) 36 ((if (M.1 64 (((3 * v3) + 1)).toNatClampNeg) = 1 then (fX6_pace_56 v1 v2 1 M) else (fX6_pace_56 v1 v2 0 M)))))))))
section
variable {p : Program} {l : Launch} {e : Env} {s : State} {m : MethodId} {args : Array Value} {below : List Frame} {meth : Method} {c : Code} {D : va_G} {cs : Nat → ClassId} {S : List Nat} {ad : Nat → Nat}
theorem bX6_pace_86 (Z : CX p s m args meth c cX6_pace 6 RX6 (some .int) D cs (xA S ad) S ad) (hS : xalm S) (t0 : Int32) (M : xm) : XJ p l e rmX6_pace s m args below meth c D cs (xA S ad) S ad 6 (XRr below args s D cs S ad M) 86 [] [.int t0] M (fX6_pace_86 t0 M) := by
  unfold fX6_pace_86
  exact xj_ret_r Z dX6_pace_86
theorem bX6_pace_84 (Z : CX p s m args meth c cX6_pace 6 RX6 (some .int) D cs (xA S ad) S ad) (hS : xalm S) (x4 : Int32) (M : xm) : XJ p l e rmX6_pace s m args below meth c D cs (xA S ad) S ad 6 (XRr below args s D cs S ad M) 84 [(4, .int x4)] [] M (fX6_pace_84 x4 M) := by
  unfold fX6_pace_84
  refine xj_iload Z 0 dX6_pace_84 rfl ?_
  refine xj_sub [] (lv' := []) rfl ?_
  exact bX6_pace_86 Z hS x4 M
theorem bX6_pace_56 (Z : CX p s m args meth c cX6_pace 6 RX6 (some .int) D cs (xA S ad) S ad) (hS : xalm S) (x3 : Int32) (x4 : Int32) (t0 : Int32) (M : xm) : XJ p l e rmX6_pace s m args below meth c D cs (xA S ad) S ad 6 (XRr below args s D cs S ad M) 56 [(3, .int x3), (4, .int x4)] [.int t0] M (fX6_pace_56 x3 x4 t0 M) := by
  unfold fX6_pace_56
  refine xj_istore Z (lv' := [(5, .int t0), (3, .int x3), (4, .int x4)]) dX6_pace_56 (by decide) rfl ?_
  refine xj_iload_n Z 1 dX6_pace_58 rfl rfl ?_
  refine xj_iconst Z 1 dX6_pace_59 (by decide) ?_
  refine xj_icmp_ne Z 67 dX6_pace_60 (by decide) (fun _ => ?_) (fun _ => ?_)
  · refine xj_iload_n Z 1 dX6_pace_67 rfl rfl ?_
    refine xj_iconst Z 2 dX6_pace_68 (by decide) ?_
    refine xj_icmp_ne Z 84 dX6_pace_69 (by decide) (fun _ => ?_) (fun _ => ?_)
    · refine xj_sub [2] (lv' := [(4, .int x4)]) rfl ?_
      exact bX6_pace_84 Z hS x4 M
    · refine xj_iload Z 0 dX6_pace_72 rfl ?_
      refine xj_if_eq Z 84 dX6_pace_74 (by decide) (fun _ => ?_) (fun _ => ?_)
      · refine xj_sub [2] (lv' := [(4, .int x4)]) rfl ?_
        exact bX6_pace_84 Z hS x4 M
      · refine xj_iload Z 2 dX6_pace_77 rfl ?_
        refine xj_iconst Z 2 dX6_pace_79 (by decide) ?_
        refine xj_idiv Z dX6_pace_80 (by decide) ?_
        refine xj_goto Z 86 dX6_pace_81 (by decide) ?_
        refine xj_sub [] (lv' := []) rfl ?_
        exact bX6_pace_86 Z hS (x4 / 2) M
  · refine xj_iconst Z 4 dX6_pace_63 (by decide) ?_
    refine xj_goto Z 86 dX6_pace_64 (by decide) ?_
    refine xj_sub [] (lv' := []) rfl ?_
    exact bX6_pace_86 Z hS 4 M
end
theorem kX6_pace (l : Launch) (D : va_G) (cs : Nat → ClassId) (S : List Nat) (ad : Nat → Nat) (hd : xdist S ad) (hS : xalm S) (x1 : Int32) (x2 : Int32) (M : xm) : ∀ r, fX6_pace x1 x2 M = some r → Met l yX6_pace [Cond.code yX6_pace cX6_pace 6 (some .int)] rmX6_pace (XPc D cs S ad [.ref (ad 60), .int x1, .int x2] M) (XQi D cs S ad r M) 0 0 (xA S ad) := by
  refine xm_r (own := RX6) (lv := [(0, .ref (ad 60)), (1, .int x1), (2, .int x2)]) (by decide +kernel) rfl rfl (Nat.le_of_ble_eq_true rfl) hd (fun p e s m args below meth c Z => ?_)
  unfold fX6_pace
  refine xj_aload_n Z 0 dX6_pace_0 rfl rfl ?_
  refine xg_X6_26 Z (hS 60 (by decide) (by decide)) dX6_pace_1 ?_
  refine xj_iconst Z 3 dX6_pace_4 (by decide) ?_
  refine xj_iload_n Z 2 dX6_pace_5 rfl rfl ?_
  refine xj_imul Z dX6_pace_6 ?_
  refine xj_iconst Z 0 dX6_pace_7 (by decide) ?_
  refine xj_iadd Z dX6_pace_8 ?_
  refine xj_iald Z (hS 66 (by decide) (by decide)) rfl dX6_pace_9 (fun _ => ?_)
  refine xj_top (fun v1 => ?_)
  refine xj_istore_n Z (lv' := [(3, .int v1), (0, .ref (ad 60)), (1, .int x1), (2, .int x2)]) dX6_pace_10 rfl (by decide) rfl ?_
  refine xj_aload_n Z 1 dX6_pace_11 rfl rfl ?_
  refine xg_X6_26 Z (hS 60 (by decide) (by decide)) dX6_pace_12 ?_
  refine xj_iconst Z 3 dX6_pace_15 (by decide) ?_
  refine xj_iload_n Z 3 dX6_pace_16 rfl rfl ?_
  refine xj_imul Z dX6_pace_17 ?_
  refine xj_iconst Z 1 dX6_pace_18 (by decide) ?_
  refine xj_iadd Z dX6_pace_19 ?_
  refine xj_iald Z (hS 66 (by decide) (by decide)) rfl dX6_pace_20 (fun _ => ?_)
  refine xj_top (fun v2 => ?_)
  refine xj_istore Z (lv' := [(4, .int v2), (3, .int v1), (0, .ref (ad 60)), (1, .int x1), (2, .int x2)]) dX6_pace_21 (by decide) rfl ?_
  refine xj_aload_n Z 2 dX6_pace_23 rfl rfl ?_
  refine xg_X6_20 Z (hS 60 (by decide) (by decide)) dX6_pace_24 ?_
  refine xj_iconst Z 3 dX6_pace_27 (by decide) ?_
  refine xj_aload_n Z 2 dX6_pace_28 rfl rfl ?_
  refine xj_aload_n Z 2 dX6_pace_29 rfl rfl ?_
  refine xg_X6_29 Z (hS 60 (by decide) (by decide)) dX6_pace_30 ?_
  refine xj_bipush Z 25 dX6_pace_33 (by decide) ?_
  refine xj_iload_n Z 3 dX6_pace_35 rfl rfl ?_
  refine xj_imul Z dX6_pace_36 ?_
  refine xj_iload_n Z 4 dX6_pace_37 rfl rfl ?_
  refine xj_iadd Z dX6_pace_38 ?_
  refine xj_iald Z (hS 67 (by decide) (by decide)) rfl dX6_pace_39 (fun _ => ?_)
  refine xj_callVr Z (As := [.int (M.1 67 (((25 * x1) + x2)).toNatClampNeg)]) (kX6_parishOf l D cs S ad Z.2.2.2.2.2.1.dist hS (M.1 67 (((25 * x1) + x2)).toNatClampNeg) M) gw_X6_106 (hS 60 (by decide) (by decide)) rfl rfl (n := 1) (by decide +kernel) rfl ⟨rfl, rfl⟩ (by decide) rfl (Nat.le_of_ble_eq_true rfl) dX6_pace_40 (fun v3 => ?_)
  refine xj_imul Z dX6_pace_43 ?_
  refine xj_iconst Z 1 dX6_pace_44 (by decide) ?_
  refine xj_iadd Z dX6_pace_45 ?_
  refine xj_iald Z (hS 64 (by decide) (by decide)) rfl dX6_pace_46 (fun _ => ?_)
  refine xj_iconst Z 1 dX6_pace_47 (by decide) ?_
  refine xj_icmp_ne Z 55 dX6_pace_48 (by decide) (fun _ => ?_) (fun _ => ?_)
  · refine xj_iconst Z 0 dX6_pace_55 (by decide) ?_
    refine xj_sub [1, 0] (lv' := [(3, .int v1), (4, .int v2)]) rfl ?_
    exact bX6_pace_56 Z hS v1 v2 0 M
  · refine xj_iconst Z 1 dX6_pace_51 (by decide) ?_
    refine xj_goto Z 56 dX6_pace_52 (by decide) ?_
    refine xj_sub [1, 0] (lv' := [(3, .int v1), (4, .int v2)]) rfl ?_
    exact bX6_pace_56 Z hS v1 v2 1 M
/-! WalkingLawModel.beds(I)V -/
theorem dX6_beds_0 : decode cX6_beds 0 = .ok (.aload_n 0, 1) := by decide +kernel
theorem dX6_beds_1 : decode cX6_beds 1 = .ok (.getfield 17, 3) := by decide +kernel
theorem dX6_beds_4 : decode cX6_beds 4 = .ok (.iconst 0, 1) := by decide +kernel
theorem dX6_beds_5 : decode cX6_beds 5 = .ok (.iaload, 1) := by decide +kernel
theorem dX6_beds_6 : decode cX6_beds 6 = .ok (.iconst 1, 1) := by decide +kernel
theorem dX6_beds_7 : decode cX6_beds 7 = .ok (.isub, 1) := by decide +kernel
theorem dX6_beds_8 : decode cX6_beds 8 = .ok (.istore_n 2, 1) := by decide +kernel
theorem dX6_beds_9 : decode cX6_beds 9 = .ok (.iload_n 2, 1) := by decide +kernel
theorem dX6_beds_10 : decode cX6_beds 10 = .ok (.ifCond .le 91, 3) := by decide +kernel
theorem dX6_beds_13 : decode cX6_beds 13 = .ok (.aload_n 0, 1) := by decide +kernel
theorem dX6_beds_14 : decode cX6_beds 14 = .ok (.iload_n 1, 1) := by decide +kernel
theorem dX6_beds_15 : decode cX6_beds 15 = .ok (.iload_n 2, 1) := by decide +kernel
theorem dX6_beds_16 : decode cX6_beds 16 = .ok (.invokevirtual 114, 3) := by decide +kernel
theorem dX6_beds_19 : decode cX6_beds 19 = .ok (.istore_n 3, 1) := by decide +kernel
theorem dX6_beds_20 : decode cX6_beds 20 = .ok (.iload_n 3, 1) := by decide +kernel
theorem dX6_beds_21 : decode cX6_beds 21 = .ok (.invokestatic 135, 3) := by decide +kernel
theorem dX6_beds_24 : decode cX6_beds 24 = .ok (.aload_n 0, 1) := by decide +kernel
theorem dX6_beds_25 : decode cX6_beds 25 = .ok (.getfield 20, 3) := by decide +kernel
theorem dX6_beds_28 : decode cX6_beds 28 = .ok (.iconst 3, 1) := by decide +kernel
theorem dX6_beds_29 : decode cX6_beds 29 = .ok (.iload_n 2, 1) := by decide +kernel
theorem dX6_beds_30 : decode cX6_beds 30 = .ok (.imul, 1) := by decide +kernel
theorem dX6_beds_31 : decode cX6_beds 31 = .ok (.iconst 2, 1) := by decide +kernel
theorem dX6_beds_32 : decode cX6_beds 32 = .ok (.iadd, 1) := by decide +kernel
theorem dX6_beds_33 : decode cX6_beds 33 = .ok (.iaload, 1) := by decide +kernel
theorem dX6_beds_34 : decode cX6_beds 34 = .ok (.isub, 1) := by decide +kernel
theorem dX6_beds_35 : decode cX6_beds 35 = .ok (.istore 4, 2) := by decide +kernel
theorem dX6_beds_37 : decode cX6_beds 37 = .ok (.aload_n 0, 1) := by decide +kernel
theorem dX6_beds_38 : decode cX6_beds 38 = .ok (.getfield 23, 3) := by decide +kernel
theorem dX6_beds_41 : decode cX6_beds 41 = .ok (.iconst 0, 1) := by decide +kernel
theorem dX6_beds_42 : decode cX6_beds 42 = .ok (.iaload, 1) := by decide +kernel
theorem dX6_beds_43 : decode cX6_beds 43 = .ok (.iconst 1, 1) := by decide +kernel
theorem dX6_beds_44 : decode cX6_beds 44 = .ok (.isub, 1) := by decide +kernel
theorem dX6_beds_45 : decode cX6_beds 45 = .ok (.istore 5, 2) := by decide +kernel
theorem dX6_beds_47 : decode cX6_beds 47 = .ok (.iload 5, 2) := by decide +kernel
theorem dX6_beds_49 : decode cX6_beds 49 = .ok (.ifCond .lt 46, 3) := by decide +kernel
theorem dX6_beds_52 : decode cX6_beds 52 = .ok (.iload 4, 2) := by decide +kernel
theorem dX6_beds_54 : decode cX6_beds 54 = .ok (.ifCond .le 41, 3) := by decide +kernel
theorem dX6_beds_57 : decode cX6_beds 57 = .ok (.iload_n 3, 1) := by decide +kernel
theorem dX6_beds_58 : decode cX6_beds 58 = .ok (.iload 5, 2) := by decide +kernel
theorem dX6_beds_60 : decode cX6_beds 60 = .ok (.ishr, 1) := by decide +kernel
theorem dX6_beds_61 : decode cX6_beds 61 = .ok (.iconst 1, 1) := by decide +kernel
theorem dX6_beds_62 : decode cX6_beds 62 = .ok (.iand, 1) := by decide +kernel
theorem dX6_beds_63 : decode cX6_beds 63 = .ok (.iconst 1, 1) := by decide +kernel
theorem dX6_beds_64 : decode cX6_beds 64 = .ok (.if_icmp .ne 25, 3) := by decide +kernel
theorem dX6_beds_67 : decode cX6_beds 67 = .ok (.aload_n 0, 1) := by decide +kernel
theorem dX6_beds_68 : decode cX6_beds 68 = .ok (.getfield 29, 3) := by decide +kernel
theorem dX6_beds_71 : decode cX6_beds 71 = .ok (.bipush 25, 2) := by decide +kernel
theorem dX6_beds_73 : decode cX6_beds 73 = .ok (.iload_n 1, 1) := by decide +kernel
theorem dX6_beds_74 : decode cX6_beds 74 = .ok (.imul, 1) := by decide +kernel
theorem dX6_beds_75 : decode cX6_beds 75 = .ok (.iload 5, 2) := by decide +kernel
theorem dX6_beds_77 : decode cX6_beds 77 = .ok (.iadd, 1) := by decide +kernel
theorem dX6_beds_78 : decode cX6_beds 78 = .ok (.aload_n 0, 1) := by decide +kernel
theorem dX6_beds_79 : decode cX6_beds 79 = .ok (.iload_n 2, 1) := by decide +kernel
theorem dX6_beds_80 : decode cX6_beds 80 = .ok (.invokevirtual 102, 3) := by decide +kernel
theorem dX6_beds_83 : decode cX6_beds 83 = .ok (.iconst 1, 1) := by decide +kernel
theorem dX6_beds_84 : decode cX6_beds 84 = .ok (.isub, 1) := by decide +kernel
theorem dX6_beds_85 : decode cX6_beds 85 = .ok (.iastore, 1) := by decide +kernel
theorem dX6_beds_86 : decode cX6_beds 86 = .ok (.iinc 4 (-1), 3) := by decide +kernel
theorem dX6_beds_89 : decode cX6_beds 89 = .ok (.iinc 5 (-1), 3) := by decide +kernel
theorem dX6_beds_92 : decode cX6_beds 92 = .ok (.goto (-45), 3) := by decide +kernel
theorem dX6_beds_95 : decode cX6_beds 95 = .ok (.iinc 2 (-1), 3) := by decide +kernel
theorem dX6_beds_98 : decode cX6_beds 98 = .ok (.goto (-89), 3) := by decide +kernel
theorem dX6_beds_101 : decode cX6_beds 101 = .ok (.return_, 1) := by decide +kernel
def rmX6_beds : Room := { frames := 3, cells := 0, slots := 0, locals := 69 }
def fX6_beds_89 (k9 : Int32 → xm → Option (xm)) (k47 : Int32 → Int32 → xm → Option (xm)) (x1 : Int32) (x2 : Int32) (x3 : Int32) (x4 : Int32) (x5 : Int32) (M : xm) : Option (xm) := (k47 x4 (x5 + (-1)) M)
def fX6_beds_95 (k9 : Int32 → xm → Option (xm)) (x1 : Int32) (x2 : Int32) (M : xm) : Option (xm) := (k9 (x2 + (-1)) M)
def fX6_beds_47 (k9 : Int32 → xm → Option (xm)) (x1 : Int32) (x2 : Int32) (x3 : Int32) : Nat → Int32 → Int32 → xm → Option (xm)
  | 0, _, _, _ => none
  | n + 1, x4, x5, M => (if x5 < 0 then (fX6_beds_95 (k9) x1 x2 M) else (if x4 ≤ 0 then (fX6_beds_95 (k9) x1 x2 M) else (if ((x3 >>> (x5 &&& 31)) &&& 1) = 1 then (fX6_begin x2 M).bind (fun v1 => xchk ((25 * x1) + x5) 100 (xl (up M 67 (((25 * x1) + x5) : Int32).toNatClampNeg (v1 - 1)) (fun M2 => (fX6_beds_89 (k9) (fun z0 z1 z2 => fX6_beds_47 k9 x1 x2 x3 n z0 z1 z2) x1 x2 x3 (x4 + (-1)) x5 M2)))) else (fX6_beds_89 (k9) (fun z0 z1 z2 => fX6_beds_47 k9 x1 x2 x3 n z0 z1 z2) x1 x2 x3 x4 x5 M))))
def fX6_beds_9 (x1 : Int32) : Nat → Int32 → xm → Option (xm)
  | 0, _, _ => none
  | n + 1, x2, M => (if x2 ≤ 0 then (some M) else (fX6_there x1 x2 M).bind (fun v3 => (fX6_many v3 M).bind (fun v4 => xchk ((3 * x2) + 2) 36 (xl (v4 - (M.1 64 (((3 * x2) + 2)).toNatClampNeg)) (fun v5 => xchk 0 2 (xl ((M.1 65 (0 : Int32).toNatClampNeg) - 1) (fun v6 => (fX6_beds_47 (fun z0 z1 => fX6_beds_9 x1 n z0 z1) x1 x2 v3 xfuel v5 v6 M))))))))
def fX6_beds (x1 : Int32) (M : xm) : Option (xm) := xchk 0 2 (xl ((M.1 63 (0 : Int32).toNatClampNeg) - 1) (fun v7 => (fX6_beds_9 x1 xfuel v7 M)))
section
variable {p : Program} {l : Launch} {e : Env} {s : State} {m : MethodId} {args : Array Value} {below : List Frame} {meth : Method} {c : Code} {D : va_G} {cs : Nat → ClassId} {S : List Nat} {ad : Nat → Nat}
theorem bX6_beds_89 (Z : CX p s m args meth c cX6_beds 6 RX6 none D cs (xA S ad) S ad) (hS : xalm S) {k9 : Int32 → xm → Option (xm)} {k47 : Int32 → Int32 → xm → Option (xm)} (x1 : Int32) (x2 : Int32) (x3 : Int32) (x4 : Int32) (x5 : Int32) (M : xm) (hk9 : ∀ (x2 : Int32) (M : xm), XJ p l e rmX6_beds s m args below meth c D cs (xA S ad) S ad 6 (XRm below args s D cs S ad) 9 [(0, .ref (ad 60)), (1, .int x1), (2, .int x2)] [] M (k9 x2 M)) (hk47 : ∀ (x4 : Int32) (x5 : Int32) (M : xm), XJ p l e rmX6_beds s m args below meth c D cs (xA S ad) S ad 6 (XRm below args s D cs S ad) 47 [(0, .ref (ad 60)), (1, .int x1), (2, .int x2), (3, .int x3), (4, .int x4), (5, .int x5)] [] M (k47 x4 x5 M)) : XJ p l e rmX6_beds s m args below meth c D cs (xA S ad) S ad 6 (XRm below args s D cs S ad) 89 [(0, .ref (ad 60)), (1, .int x1), (2, .int x2), (3, .int x3), (4, .int x4), (5, .int x5)] [] M (fX6_beds_89 k9 k47 x1 x2 x3 x4 x5 M) := by
  unfold fX6_beds_89
  refine xj_iinc Z 5 (x5 + (-1)) (lv' := [(5, .int (x5 + (-1))), (0, .ref (ad 60)), (1, .int x1), (2, .int x2), (3, .int x3), (4, .int x4)]) dX6_beds_89 rfl rfl (by decide) rfl ?_
  refine xj_goto Z 47 dX6_beds_92 (by decide) ?_
  refine xj_sub [1, 2, 3, 4, 5, 0] (lv' := [(0, .ref (ad 60)), (1, .int x1), (2, .int x2), (3, .int x3), (4, .int x4), (5, .int (x5 + (-1)))]) rfl ?_
  exact hk47 x4 (x5 + (-1)) M
theorem bX6_beds_95 (Z : CX p s m args meth c cX6_beds 6 RX6 none D cs (xA S ad) S ad) (hS : xalm S) {k9 : Int32 → xm → Option (xm)} (x1 : Int32) (x2 : Int32) (M : xm) (hk9 : ∀ (x2 : Int32) (M : xm), XJ p l e rmX6_beds s m args below meth c D cs (xA S ad) S ad 6 (XRm below args s D cs S ad) 9 [(0, .ref (ad 60)), (1, .int x1), (2, .int x2)] [] M (k9 x2 M)) : XJ p l e rmX6_beds s m args below meth c D cs (xA S ad) S ad 6 (XRm below args s D cs S ad) 95 [(0, .ref (ad 60)), (1, .int x1), (2, .int x2)] [] M (fX6_beds_95 k9 x1 x2 M) := by
  unfold fX6_beds_95
  refine xj_iinc Z 2 (x2 + (-1)) (lv' := [(2, .int (x2 + (-1))), (0, .ref (ad 60)), (1, .int x1)]) dX6_beds_95 rfl rfl (by decide) rfl ?_
  refine xj_goto Z 9 dX6_beds_98 (by decide) ?_
  refine xj_sub [1, 2, 0] (lv' := [(0, .ref (ad 60)), (1, .int x1), (2, .int (x2 + (-1)))]) rfl ?_
  exact hk9 (x2 + (-1)) M
theorem bX6_beds_47 (Z : CX p s m args meth c cX6_beds 6 RX6 none D cs (xA S ad) S ad) (hS : xalm S) {k9 : Int32 → xm → Option (xm)} (x1 : Int32) (x2 : Int32) (x3 : Int32) (hk9 : ∀ (x2 : Int32) (M : xm), XJ p l e rmX6_beds s m args below meth c D cs (xA S ad) S ad 6 (XRm below args s D cs S ad) 9 [(0, .ref (ad 60)), (1, .int x1), (2, .int x2)] [] M (k9 x2 M)) : ∀ (n : Nat) (x4 : Int32) (x5 : Int32) (M : xm), XJ p l e rmX6_beds s m args below meth c D cs (xA S ad) S ad 6 (XRm below args s D cs S ad) 47 [(0, .ref (ad 60)), (1, .int x1), (2, .int x2), (3, .int x3), (4, .int x4), (5, .int x5)] [] M (fX6_beds_47 k9 x1 x2 x3 n x4 x5 M) := by
  intro n
  induction n with
  | zero => intros; exact xj_none
  | succ n ih =>
    intro x4 x5 M
    rw [fX6_beds_47]
    refine xj_iload Z 5 dX6_beds_47 rfl ?_
    refine xj_if_lt Z 95 dX6_beds_49 (by decide) (fun _ => ?_) (fun _ => ?_)
    · refine xj_sub [0, 1, 2] (lv' := [(0, .ref (ad 60)), (1, .int x1), (2, .int x2)]) rfl ?_
      exact bX6_beds_95 Z hS x1 x2 M hk9
    · refine xj_iload Z 4 dX6_beds_52 rfl ?_
      refine xj_if_le Z 95 dX6_beds_54 (by decide) (fun _ => ?_) (fun _ => ?_)
      · refine xj_sub [0, 1, 2] (lv' := [(0, .ref (ad 60)), (1, .int x1), (2, .int x2)]) rfl ?_
        exact bX6_beds_95 Z hS x1 x2 M hk9
      · refine xj_iload_n Z 3 dX6_beds_57 rfl rfl ?_
        refine xj_iload Z 5 dX6_beds_58 rfl ?_
        refine xj_ishr Z dX6_beds_60 ?_
        refine xj_iconst Z 1 dX6_beds_61 (by decide) ?_
        refine xj_iand Z dX6_beds_62 ?_
        refine xj_iconst Z 1 dX6_beds_63 (by decide) ?_
        refine xj_icmp_ne Z 89 dX6_beds_64 (by decide) (fun _ => ?_) (fun _ => ?_)
        · exact bX6_beds_89 Z hS x1 x2 x3 x4 x5 M hk9 ih
        · refine xj_aload_n Z 0 dX6_beds_67 rfl rfl ?_
          refine xg_X6_29 Z (hS 60 (by decide) (by decide)) dX6_beds_68 ?_
          refine xj_bipush Z 25 dX6_beds_71 (by decide) ?_
          refine xj_iload_n Z 1 dX6_beds_73 rfl rfl ?_
          refine xj_imul Z dX6_beds_74 ?_
          refine xj_iload Z 5 dX6_beds_75 rfl ?_
          refine xj_iadd Z dX6_beds_77 ?_
          refine xj_aload_n Z 0 dX6_beds_78 rfl rfl ?_
          refine xj_iload_n Z 2 dX6_beds_79 rfl rfl ?_
          refine xj_callVr Z (As := [.int x2]) (kX6_begin l D cs S ad Z.2.2.2.2.2.1.dist hS x2 M) gw_X6_102 (hS 60 (by decide) (by decide)) rfl rfl (n := 1) (by decide +kernel) rfl ⟨rfl, rfl⟩ (by decide) rfl (Nat.le_of_ble_eq_true rfl) dX6_beds_80 (fun v1 => ?_)
          refine xj_iconst Z 1 dX6_beds_83 (by decide) ?_
          refine xj_isub Z dX6_beds_84 ?_
          refine xj_iast Z (hS 67 (by decide) (by decide)) rfl dX6_beds_85 (fun M2 _ => ?_)
          refine xj_iinc Z 4 (x4 + (-1)) (lv' := [(4, .int (x4 + (-1))), (0, .ref (ad 60)), (1, .int x1), (2, .int x2), (3, .int x3), (5, .int x5)]) dX6_beds_86 rfl rfl (by decide) rfl ?_
          refine xj_sub [1, 2, 3, 4, 0, 5] (lv' := [(0, .ref (ad 60)), (1, .int x1), (2, .int x2), (3, .int x3), (4, .int (x4 + (-1))), (5, .int x5)]) rfl ?_
          exact bX6_beds_89 Z hS x1 x2 x3 (x4 + (-1)) x5 M2 hk9 ih
theorem bX6_beds_9 (Z : CX p s m args meth c cX6_beds 6 RX6 none D cs (xA S ad) S ad) (hS : xalm S) (x1 : Int32) : ∀ (n : Nat) (x2 : Int32) (M : xm), XJ p l e rmX6_beds s m args below meth c D cs (xA S ad) S ad 6 (XRm below args s D cs S ad) 9 [(0, .ref (ad 60)), (1, .int x1), (2, .int x2)] [] M (fX6_beds_9 x1 n x2 M) := by
  intro n
  induction n with
  | zero => intros; exact xj_none
  | succ n ih =>
    intro x2 M
    rw [fX6_beds_9]
    refine xj_iload_n Z 2 dX6_beds_9 rfl rfl ?_
    refine xj_if_le Z 101 dX6_beds_10 (by decide) (fun _ => ?_) (fun _ => ?_)
    · exact xj_vret Z dX6_beds_101
    · refine xj_aload_n Z 0 dX6_beds_13 rfl rfl ?_
      refine xj_iload_n Z 1 dX6_beds_14 rfl rfl ?_
      refine xj_iload_n Z 2 dX6_beds_15 rfl rfl ?_
      refine xj_callVr Z (As := [.int x1, .int x2]) (kX6_there l D cs S ad Z.2.2.2.2.2.1.dist hS x1 x2 M) gw_X6_114 (hS 60 (by decide) (by decide)) rfl rfl (n := 2) (by decide +kernel) rfl ⟨rfl, rfl⟩ (by decide) rfl (Nat.le_of_ble_eq_true rfl) dX6_beds_16 (fun v3 => ?_)
      refine xj_istore_n Z (lv' := [(3, .int v3), (0, .ref (ad 60)), (1, .int x1), (2, .int x2)]) dX6_beds_19 rfl (by decide) rfl ?_
      refine xj_iload_n Z 0 dX6_beds_20 rfl rfl ?_
      refine xj_callSr Z (As := [.int v3]) (kX6_many l D cs S ad Z.2.2.2.2.2.1.dist v3 M) gw_X6_135 (n := 1) (by decide +kernel) rfl ⟨rfl, rfl⟩ (by decide) rfl (Nat.le_of_ble_eq_true rfl) dX6_beds_21 (fun v4 => ?_)
      refine xj_aload_n Z 1 dX6_beds_24 rfl rfl ?_
      refine xg_X6_20 Z (hS 60 (by decide) (by decide)) dX6_beds_25 ?_
      refine xj_iconst Z 3 dX6_beds_28 (by decide) ?_
      refine xj_iload_n Z 3 dX6_beds_29 rfl rfl ?_
      refine xj_imul Z dX6_beds_30 ?_
      refine xj_iconst Z 2 dX6_beds_31 (by decide) ?_
      refine xj_iadd Z dX6_beds_32 ?_
      refine xj_iald Z (hS 64 (by decide) (by decide)) rfl dX6_beds_33 (fun _ => ?_)
      refine xj_isub Z dX6_beds_34 ?_
      refine xj_top (fun v5 => ?_)
      refine xj_istore Z (lv' := [(4, .int v5), (3, .int v3), (0, .ref (ad 60)), (1, .int x1), (2, .int x2)]) dX6_beds_35 (by decide) rfl ?_
      refine xj_aload_n Z 2 dX6_beds_37 rfl rfl ?_
      refine xg_X6_23 Z (hS 60 (by decide) (by decide)) dX6_beds_38 ?_
      refine xj_iconst Z 0 dX6_beds_41 (by decide) ?_
      refine xj_iald Z (hS 65 (by decide) (by decide)) rfl dX6_beds_42 (fun _ => ?_)
      refine xj_iconst Z 1 dX6_beds_43 (by decide) ?_
      refine xj_isub Z dX6_beds_44 ?_
      refine xj_top (fun v6 => ?_)
      refine xj_istore Z (lv' := [(5, .int v6), (4, .int v5), (3, .int v3), (0, .ref (ad 60)), (1, .int x1), (2, .int x2)]) dX6_beds_45 (by decide) rfl ?_
      refine xj_sub [3, 4, 5, 2, 1, 0] (lv' := [(0, .ref (ad 60)), (1, .int x1), (2, .int x2), (3, .int v3), (4, .int v5), (5, .int v6)]) rfl ?_
      exact bX6_beds_47 Z hS x1 x2 v3 ih xfuel v5 v6 M
end
theorem kX6_beds (l : Launch) (D : va_G) (cs : Nat → ClassId) (S : List Nat) (ad : Nat → Nat) (hd : xdist S ad) (hS : xalm S) (x1 : Int32) (M : xm) : ∀ r, fX6_beds x1 M = some r → Met l yX6_beds [Cond.code yX6_beds cX6_beds 6 none] rmX6_beds (XPc D cs S ad [.ref (ad 60), .int x1] M) (XQv D cs S ad r) 0 0 (xA S ad) := by
  refine xm_m (own := RX6) (lv := [(0, .ref (ad 60)), (1, .int x1)]) (by decide +kernel) rfl rfl (Nat.le_of_ble_eq_true rfl) hd (fun p e s m args below meth c Z => ?_)
  unfold fX6_beds
  refine xj_aload_n Z 0 dX6_beds_0 rfl rfl ?_
  refine xg_X6_17 Z (hS 60 (by decide) (by decide)) dX6_beds_1 ?_
  refine xj_iconst Z 0 dX6_beds_4 (by decide) ?_
  refine xj_iald Z (hS 63 (by decide) (by decide)) rfl dX6_beds_5 (fun _ => ?_)
  refine xj_iconst Z 1 dX6_beds_6 (by decide) ?_
  refine xj_isub Z dX6_beds_7 ?_
  refine xj_top (fun v7 => ?_)
  refine xj_istore_n Z (lv' := [(2, .int v7), (0, .ref (ad 60)), (1, .int x1)]) dX6_beds_8 rfl (by decide) rfl ?_
  refine xj_sub [1, 2, 0] (lv' := [(0, .ref (ad 60)), (1, .int x1), (2, .int v7)]) rfl ?_
  exact bX6_beds_9 Z hS x1 xfuel v7 M
/-! WalkingLawModel.minds(I)V -/
theorem dX6_minds_0 : decode cX6_minds 0 = .ok (.iconst 0, 1) := by decide +kernel
theorem dX6_minds_1 : decode cX6_minds 1 = .ok (.istore_n 2, 1) := by decide +kernel
theorem dX6_minds_2 : decode cX6_minds 2 = .ok (.iload_n 2, 1) := by decide +kernel
theorem dX6_minds_3 : decode cX6_minds 3 = .ok (.aload_n 0, 1) := by decide +kernel
theorem dX6_minds_4 : decode cX6_minds 4 = .ok (.getfield 17, 3) := by decide +kernel
theorem dX6_minds_7 : decode cX6_minds 7 = .ok (.iconst 0, 1) := by decide +kernel
theorem dX6_minds_8 : decode cX6_minds 8 = .ok (.iaload, 1) := by decide +kernel
theorem dX6_minds_9 : decode cX6_minds 9 = .ok (.if_icmp .ge 218, 3) := by decide +kernel
theorem dX6_minds_12 : decode cX6_minds 12 = .ok (.aload_n 0, 1) := by decide +kernel
theorem dX6_minds_13 : decode cX6_minds 13 = .ok (.iload_n 1, 1) := by decide +kernel
theorem dX6_minds_14 : decode cX6_minds 14 = .ok (.iload_n 2, 1) := by decide +kernel
theorem dX6_minds_15 : decode cX6_minds 15 = .ok (.invokevirtual 114, 3) := by decide +kernel
theorem dX6_minds_18 : decode cX6_minds 18 = .ok (.istore_n 3, 1) := by decide +kernel
theorem dX6_minds_19 : decode cX6_minds 19 = .ok (.iconst 0, 1) := by decide +kernel
theorem dX6_minds_20 : decode cX6_minds 20 = .ok (.istore 4, 2) := by decide +kernel
theorem dX6_minds_22 : decode cX6_minds 22 = .ok (.iload 4, 2) := by decide +kernel
theorem dX6_minds_24 : decode cX6_minds 24 = .ok (.aload_n 0, 1) := by decide +kernel
theorem dX6_minds_25 : decode cX6_minds 25 = .ok (.getfield 13, 3) := by decide +kernel
theorem dX6_minds_28 : decode cX6_minds 28 = .ok (.iconst 1, 1) := by decide +kernel
theorem dX6_minds_29 : decode cX6_minds 29 = .ok (.iaload, 1) := by decide +kernel
theorem dX6_minds_30 : decode cX6_minds 30 = .ok (.if_icmp .ge 191, 3) := by decide +kernel
theorem dX6_minds_33 : decode cX6_minds 33 = .ok (.iconst 0, 1) := by decide +kernel
theorem dX6_minds_34 : decode cX6_minds 34 = .ok (.istore 5, 2) := by decide +kernel
theorem dX6_minds_36 : decode cX6_minds 36 = .ok (.iconst 0, 1) := by decide +kernel
theorem dX6_minds_37 : decode cX6_minds 37 = .ok (.istore 6, 2) := by decide +kernel
theorem dX6_minds_39 : decode cX6_minds 39 = .ok (.iload 6, 2) := by decide +kernel
theorem dX6_minds_41 : decode cX6_minds 41 = .ok (.aload_n 0, 1) := by decide +kernel
theorem dX6_minds_42 : decode cX6_minds 42 = .ok (.getfield 23, 3) := by decide +kernel
theorem dX6_minds_45 : decode cX6_minds 45 = .ok (.iconst 0, 1) := by decide +kernel
theorem dX6_minds_46 : decode cX6_minds 46 = .ok (.iaload, 1) := by decide +kernel
theorem dX6_minds_47 : decode cX6_minds 47 = .ok (.if_icmp .ge 56, 3) := by decide +kernel
theorem dX6_minds_50 : decode cX6_minds 50 = .ok (.iload 5, 2) := by decide +kernel
theorem dX6_minds_52 : decode cX6_minds 52 = .ok (.iload_n 3, 1) := by decide +kernel
theorem dX6_minds_53 : decode cX6_minds 53 = .ok (.iload 6, 2) := by decide +kernel
theorem dX6_minds_55 : decode cX6_minds 55 = .ok (.ishr, 1) := by decide +kernel
theorem dX6_minds_56 : decode cX6_minds 56 = .ok (.iconst 1, 1) := by decide +kernel
theorem dX6_minds_57 : decode cX6_minds 57 = .ok (.iand, 1) := by decide +kernel
theorem dX6_minds_58 : decode cX6_minds 58 = .ok (.iconst 1, 1) := by decide +kernel
theorem dX6_minds_59 : decode cX6_minds 59 = .ok (.if_icmp .ne 34, 3) := by decide +kernel
theorem dX6_minds_62 : decode cX6_minds 62 = .ok (.aload_n 0, 1) := by decide +kernel
theorem dX6_minds_63 : decode cX6_minds 63 = .ok (.getfield 29, 3) := by decide +kernel
theorem dX6_minds_66 : decode cX6_minds 66 = .ok (.bipush 25, 2) := by decide +kernel
theorem dX6_minds_68 : decode cX6_minds 68 = .ok (.iload_n 1, 1) := by decide +kernel
theorem dX6_minds_69 : decode cX6_minds 69 = .ok (.imul, 1) := by decide +kernel
theorem dX6_minds_70 : decode cX6_minds 70 = .ok (.bipush 8, 2) := by decide +kernel
theorem dX6_minds_72 : decode cX6_minds 72 = .ok (.iadd, 1) := by decide +kernel
theorem dX6_minds_73 : decode cX6_minds 73 = .ok (.iload 6, 2) := by decide +kernel
theorem dX6_minds_75 : decode cX6_minds 75 = .ok (.iadd, 1) := by decide +kernel
theorem dX6_minds_76 : decode cX6_minds 76 = .ok (.iaload, 1) := by decide +kernel
theorem dX6_minds_77 : decode cX6_minds 77 = .ok (.iload 4, 2) := by decide +kernel
theorem dX6_minds_79 : decode cX6_minds 79 = .ok (.ishr, 1) := by decide +kernel
theorem dX6_minds_80 : decode cX6_minds 80 = .ok (.iconst 1, 1) := by decide +kernel
theorem dX6_minds_81 : decode cX6_minds 81 = .ok (.iand, 1) := by decide +kernel
theorem dX6_minds_82 : decode cX6_minds 82 = .ok (.iconst 1, 1) := by decide +kernel
theorem dX6_minds_83 : decode cX6_minds 83 = .ok (.if_icmp .ne 10, 3) := by decide +kernel
theorem dX6_minds_86 : decode cX6_minds 86 = .ok (.iconst 1, 1) := by decide +kernel
theorem dX6_minds_87 : decode cX6_minds 87 = .ok (.iload 6, 2) := by decide +kernel
theorem dX6_minds_89 : decode cX6_minds 89 = .ok (.ishl, 1) := by decide +kernel
theorem dX6_minds_90 : decode cX6_minds 90 = .ok (.goto 4, 3) := by decide +kernel
theorem dX6_minds_93 : decode cX6_minds 93 = .ok (.iconst 0, 1) := by decide +kernel
theorem dX6_minds_94 : decode cX6_minds 94 = .ok (.ior, 1) := by decide +kernel
theorem dX6_minds_95 : decode cX6_minds 95 = .ok (.istore 5, 2) := by decide +kernel
theorem dX6_minds_97 : decode cX6_minds 97 = .ok (.iinc 6 1, 3) := by decide +kernel
theorem dX6_minds_100 : decode cX6_minds 100 = .ok (.goto (-61), 3) := by decide +kernel
theorem dX6_minds_103 : decode cX6_minds 103 = .ok (.iload_n 3, 1) := by decide +kernel
theorem dX6_minds_104 : decode cX6_minds 104 = .ok (.iload 5, 2) := by decide +kernel
theorem dX6_minds_106 : decode cX6_minds 106 = .ok (.iconst (-1), 1) := by decide +kernel
theorem dX6_minds_107 : decode cX6_minds 107 = .ok (.ixor, 1) := by decide +kernel
theorem dX6_minds_108 : decode cX6_minds 108 = .ok (.iand, 1) := by decide +kernel
theorem dX6_minds_109 : decode cX6_minds 109 = .ok (.istore 6, 2) := by decide +kernel
theorem dX6_minds_111 : decode cX6_minds 111 = .ok (.iload 5, 2) := by decide +kernel
theorem dX6_minds_113 : decode cX6_minds 113 = .ok (.invokestatic 135, 3) := by decide +kernel
theorem dX6_minds_116 : decode cX6_minds 116 = .ok (.iload 6, 2) := by decide +kernel
theorem dX6_minds_118 : decode cX6_minds 118 = .ok (.invokestatic 135, 3) := by decide +kernel
theorem dX6_minds_121 : decode cX6_minds 121 = .ok (.if_icmp .le 12, 3) := by decide +kernel
theorem dX6_minds_124 : decode cX6_minds 124 = .ok (.iload 6, 2) := by decide +kernel
theorem dX6_minds_126 : decode cX6_minds 126 = .ok (.iload 6, 2) := by decide +kernel
theorem dX6_minds_128 : decode cX6_minds 128 = .ok (.ineg, 1) := by decide +kernel
theorem dX6_minds_129 : decode cX6_minds 129 = .ok (.iand, 1) := by decide +kernel
theorem dX6_minds_130 : decode cX6_minds 130 = .ok (.goto 26, 3) := by decide +kernel
theorem dX6_minds_133 : decode cX6_minds 133 = .ok (.iload 5, 2) := by decide +kernel
theorem dX6_minds_135 : decode cX6_minds 135 = .ok (.invokestatic 135, 3) := by decide +kernel
theorem dX6_minds_138 : decode cX6_minds 138 = .ok (.iload 6, 2) := by decide +kernel
theorem dX6_minds_140 : decode cX6_minds 140 = .ok (.invokestatic 135, 3) := by decide +kernel
theorem dX6_minds_143 : decode cX6_minds 143 = .ok (.if_icmp .ge 12, 3) := by decide +kernel
theorem dX6_minds_146 : decode cX6_minds 146 = .ok (.iload 5, 2) := by decide +kernel
theorem dX6_minds_148 : decode cX6_minds 148 = .ok (.iload 5, 2) := by decide +kernel
theorem dX6_minds_150 : decode cX6_minds 150 = .ok (.ineg, 1) := by decide +kernel
theorem dX6_minds_151 : decode cX6_minds 151 = .ok (.iand, 1) := by decide +kernel
theorem dX6_minds_152 : decode cX6_minds 152 = .ok (.goto 4, 3) := by decide +kernel
theorem dX6_minds_155 : decode cX6_minds 155 = .ok (.iconst 0, 1) := by decide +kernel
theorem dX6_minds_156 : decode cX6_minds 156 = .ok (.istore 7, 2) := by decide +kernel
theorem dX6_minds_158 : decode cX6_minds 158 = .ok (.iconst 0, 1) := by decide +kernel
theorem dX6_minds_159 : decode cX6_minds 159 = .ok (.istore 8, 2) := by decide +kernel
theorem dX6_minds_161 : decode cX6_minds 161 = .ok (.iload 8, 2) := by decide +kernel
theorem dX6_minds_163 : decode cX6_minds 163 = .ok (.aload_n 0, 1) := by decide +kernel
theorem dX6_minds_164 : decode cX6_minds 164 = .ok (.getfield 23, 3) := by decide +kernel
theorem dX6_minds_167 : decode cX6_minds 167 = .ok (.iconst 0, 1) := by decide +kernel
theorem dX6_minds_168 : decode cX6_minds 168 = .ok (.iaload, 1) := by decide +kernel
theorem dX6_minds_169 : decode cX6_minds 169 = .ok (.if_icmp .ge 46, 3) := by decide +kernel
theorem dX6_minds_172 : decode cX6_minds 172 = .ok (.aload_n 0, 1) := by decide +kernel
theorem dX6_minds_173 : decode cX6_minds 173 = .ok (.getfield 29, 3) := by decide +kernel
theorem dX6_minds_176 : decode cX6_minds 176 = .ok (.bipush 25, 2) := by decide +kernel
theorem dX6_minds_178 : decode cX6_minds 178 = .ok (.iload_n 1, 1) := by decide +kernel
theorem dX6_minds_179 : decode cX6_minds 179 = .ok (.imul, 1) := by decide +kernel
theorem dX6_minds_180 : decode cX6_minds 180 = .ok (.bipush 8, 2) := by decide +kernel
theorem dX6_minds_182 : decode cX6_minds 182 = .ok (.iadd, 1) := by decide +kernel
theorem dX6_minds_183 : decode cX6_minds 183 = .ok (.iload 8, 2) := by decide +kernel
theorem dX6_minds_185 : decode cX6_minds 185 = .ok (.iadd, 1) := by decide +kernel
theorem dX6_minds_186 : decode cX6_minds 186 = .ok (.dup2, 1) := by decide +kernel
theorem dX6_minds_187 : decode cX6_minds 187 = .ok (.iaload, 1) := by decide +kernel
theorem dX6_minds_188 : decode cX6_minds 188 = .ok (.iload 7, 2) := by decide +kernel
theorem dX6_minds_190 : decode cX6_minds 190 = .ok (.iload 8, 2) := by decide +kernel
theorem dX6_minds_192 : decode cX6_minds 192 = .ok (.ishr, 1) := by decide +kernel
theorem dX6_minds_193 : decode cX6_minds 193 = .ok (.iconst 1, 1) := by decide +kernel
theorem dX6_minds_194 : decode cX6_minds 194 = .ok (.iand, 1) := by decide +kernel
theorem dX6_minds_195 : decode cX6_minds 195 = .ok (.iconst 1, 1) := by decide +kernel
theorem dX6_minds_196 : decode cX6_minds 196 = .ok (.if_icmp .ne 10, 3) := by decide +kernel
theorem dX6_minds_199 : decode cX6_minds 199 = .ok (.iconst 1, 1) := by decide +kernel
theorem dX6_minds_200 : decode cX6_minds 200 = .ok (.iload 4, 2) := by decide +kernel
theorem dX6_minds_202 : decode cX6_minds 202 = .ok (.ishl, 1) := by decide +kernel
theorem dX6_minds_203 : decode cX6_minds 203 = .ok (.goto 4, 3) := by decide +kernel
theorem dX6_minds_206 : decode cX6_minds 206 = .ok (.iconst 0, 1) := by decide +kernel
theorem dX6_minds_207 : decode cX6_minds 207 = .ok (.ixor, 1) := by decide +kernel
theorem dX6_minds_208 : decode cX6_minds 208 = .ok (.iastore, 1) := by decide +kernel
theorem dX6_minds_209 : decode cX6_minds 209 = .ok (.iinc 8 1, 3) := by decide +kernel
theorem dX6_minds_212 : decode cX6_minds 212 = .ok (.goto (-51), 3) := by decide +kernel
theorem dX6_minds_215 : decode cX6_minds 215 = .ok (.iinc 4 1, 3) := by decide +kernel
theorem dX6_minds_218 : decode cX6_minds 218 = .ok (.goto (-196), 3) := by decide +kernel
theorem dX6_minds_221 : decode cX6_minds 221 = .ok (.iinc 2 1, 3) := by decide +kernel
theorem dX6_minds_224 : decode cX6_minds 224 = .ok (.goto (-222), 3) := by decide +kernel
theorem dX6_minds_227 : decode cX6_minds 227 = .ok (.return_, 1) := by decide +kernel
def rmX6_minds : Room := { frames := 3, cells := 0, slots := 0, locals := 69 }
def fX6_minds_94 (k2 : Int32 → xm → Option (xm)) (k22 : Int32 → xm → Option (xm)) (k39 : Int32 → Int32 → Option (xm)) (x1 : Int32) (x2 : Int32) (x3 : Int32) (x4 : Int32) (x6 : Int32) (t0 : Int32) (t1 : Int32) (M : xm) : Option (xm) := xl (t0 ||| t1) (fun v1 => (k39 v1 (x6 + 1)))
def fX6_minds_93 (k2 : Int32 → xm → Option (xm)) (k22 : Int32 → xm → Option (xm)) (k39 : Int32 → Int32 → Option (xm)) (x1 : Int32) (x2 : Int32) (x3 : Int32) (x4 : Int32) (x6 : Int32) (t0 : Int32) (M : xm) : Option (xm) := (fX6_minds_94 (k2) (k22) (k39) x1 x2 x3 x4 x6 t0 0 M)
def fX6_minds_207 (k2 : Int32 → xm → Option (xm)) (k22 : Int32 → xm → Option (xm)) (k161 : Int32 → xm → Option (xm)) (x1 : Int32) (x2 : Int32) (x3 : Int32) (x4 : Int32) (x7 : Int32) (x8 : Int32) (t1 : Int32) (t2 : Int32) (t3 : Int32) (M : xm) : Option (xm) := xchk t1 100 (xl (up M 67 (t1 : Int32).toNatClampNeg (t2 ^^^ t3)) (fun M2 => (k161 (x8 + 1) M2)))
def fX6_minds_161 (k2 : Int32 → xm → Option (xm)) (k22 : Int32 → xm → Option (xm)) (x1 : Int32) (x2 : Int32) (x3 : Int32) (x4 : Int32) (x7 : Int32) : Nat → Int32 → xm → Option (xm)
  | 0, _, _ => none
  | n + 1, x8, M => xchk 0 2 ((if (M.1 65 (0 : Int32).toNatClampNeg) ≤ x8 then (k22 (x4 + 1) M) else xl (((25 * x1) + 8) + x8) (fun v3 => xchk v3 100 ((if ((x7 >>> (x8 &&& 31)) &&& 1) = 1 then (fX6_minds_207 (k2) (k22) (fun z0 z1 => fX6_minds_161 k2 k22 x1 x2 x3 x4 x7 n z0 z1) x1 x2 x3 x4 x7 x8 v3 (M.1 67 v3.toNatClampNeg) (1 <<< (x4 &&& 31)) M) else (fX6_minds_207 (k2) (k22) (fun z0 z1 => fX6_minds_161 k2 k22 x1 x2 x3 x4 x7 n z0 z1) x1 x2 x3 x4 x7 x8 v3 (M.1 67 v3.toNatClampNeg) 0 M))))))
def fX6_minds_156 (k2 : Int32 → xm → Option (xm)) (k22 : Int32 → xm → Option (xm)) (x1 : Int32) (x2 : Int32) (x3 : Int32) (x4 : Int32) (t0 : Int32) (M : xm) : Option (xm) := (fX6_minds_161 (k2) (k22) x1 x2 x3 x4 t0 xfuel 0 M)
def fX6_minds_39 (k2 : Int32 → xm → Option (xm)) (k22 : Int32 → xm → Option (xm)) (x1 : Int32) (x2 : Int32) (x3 : Int32) (x4 : Int32) (M : xm) : Nat → Int32 → Int32 → Option (xm)
  | 0, _, _ => none
  | n + 1, x5, x6 => xchk 0 2 ((if (M.1 65 (0 : Int32).toNatClampNeg) ≤ x6 then xl (x3 &&& (x5 ^^^ (-1))) (fun v4 => (fX6_many x5 M).bind (fun v5 => (fX6_many v4 M).bind (fun v6 => (if v5 ≤ v6 then (fX6_many x5 M).bind (fun v7 => (fX6_many v4 M).bind (fun v8 => (if v8 ≤ v7 then (fX6_minds_156 (k2) (k22) x1 x2 x3 x4 0 M) else (fX6_minds_156 (k2) (k22) x1 x2 x3 x4 (x5 &&& (-x5)) M)))) else (fX6_minds_156 (k2) (k22) x1 x2 x3 x4 (v4 &&& (-v4)) M))))) else (if ((x3 >>> (x6 &&& 31)) &&& 1) = 1 then xchk (((25 * x1) + 8) + x6) 100 ((if (((M.1 67 ((((25 * x1) + 8) + x6)).toNatClampNeg) >>> (x4 &&& 31)) &&& 1) = 1 then (fX6_minds_94 (k2) (k22) (fun z0 z1 => fX6_minds_39 k2 k22 x1 x2 x3 x4 M n z0 z1) x1 x2 x3 x4 x6 x5 (1 <<< (x6 &&& 31)) M) else (fX6_minds_93 (k2) (k22) (fun z0 z1 => fX6_minds_39 k2 k22 x1 x2 x3 x4 M n z0 z1) x1 x2 x3 x4 x6 x5 M))) else (fX6_minds_93 (k2) (k22) (fun z0 z1 => fX6_minds_39 k2 k22 x1 x2 x3 x4 M n z0 z1) x1 x2 x3 x4 x6 x5 M))))
def fX6_minds_22 (k2 : Int32 → xm → Option (xm)) (x1 : Int32) (x2 : Int32) (x3 : Int32) : Nat → Int32 → xm → Option (xm)
  | 0, _, _ => none
  | n + 1, x4, M => xchk 1 4 ((if (M.1 62 (1 : Int32).toNatClampNeg) ≤ x4 then (k2 (x2 + 1) M) else (fX6_minds_39 (k2) (fun z0 z1 => fX6_minds_22 k2 x1 x2 x3 n z0 z1) x1 x2 x3 x4 M xfuel 0 0)))
def fX6_minds_2 (x1 : Int32) : Nat → Int32 → xm → Option (xm)
  | 0, _, _ => none
  | n + 1, x2, M => xchk 0 2 ((if (M.1 63 (0 : Int32).toNatClampNeg) ≤ x2 then (some M) else (fX6_there x1 x2 M).bind (fun v9 => (fX6_minds_22 (fun z0 z1 => fX6_minds_2 x1 n z0 z1) x1 x2 v9 xfuel 0 M))))
def fX6_minds (x1 : Int32) (M : xm) : Option (xm) := (fX6_minds_2 x1 xfuel 0 M)
section
variable {p : Program} {l : Launch} {e : Env} {s : State} {m : MethodId} {args : Array Value} {below : List Frame} {meth : Method} {c : Code} {D : va_G} {cs : Nat → ClassId} {S : List Nat} {ad : Nat → Nat}
theorem bX6_minds_94 (Z : CX p s m args meth c cX6_minds 9 RX6 none D cs (xA S ad) S ad) (hS : xalm S) {k2 : Int32 → xm → Option (xm)} {k22 : Int32 → xm → Option (xm)} {k39 : Int32 → Int32 → Option (xm)} (x1 : Int32) (x2 : Int32) (x3 : Int32) (x4 : Int32) (x6 : Int32) (t0 : Int32) (t1 : Int32) (M : xm) (hk2 : ∀ (x2 : Int32) (M : xm), XJ p l e rmX6_minds s m args below meth c D cs (xA S ad) S ad 9 (XRm below args s D cs S ad) 2 [(0, .ref (ad 60)), (1, .int x1), (2, .int x2)] [] M (k2 x2 M)) (hk22 : ∀ (x4 : Int32) (M : xm), XJ p l e rmX6_minds s m args below meth c D cs (xA S ad) S ad 9 (XRm below args s D cs S ad) 22 [(0, .ref (ad 60)), (1, .int x1), (2, .int x2), (3, .int x3), (4, .int x4)] [] M (k22 x4 M)) (hk39 : ∀ (x5 : Int32) (x6 : Int32), XJ p l e rmX6_minds s m args below meth c D cs (xA S ad) S ad 9 (XRm below args s D cs S ad) 39 [(0, .ref (ad 60)), (1, .int x1), (2, .int x2), (3, .int x3), (4, .int x4), (5, .int x5), (6, .int x6)] [] M (k39 x5 x6)) : XJ p l e rmX6_minds s m args below meth c D cs (xA S ad) S ad 9 (XRm below args s D cs S ad) 94 [(0, .ref (ad 60)), (1, .int x1), (2, .int x2), (3, .int x3), (4, .int x4), (6, .int x6)] [.int t1, .int t0] M (fX6_minds_94 k2 k22 k39 x1 x2 x3 x4 x6 t0 t1 M) := by
  unfold fX6_minds_94
  refine xj_ior Z dX6_minds_94 ?_
  refine xj_top (fun v1 => ?_)
  refine xj_istore Z (lv' := [(5, .int v1), (0, .ref (ad 60)), (1, .int x1), (2, .int x2), (3, .int x3), (4, .int x4), (6, .int x6)]) dX6_minds_95 (by decide) rfl ?_
  refine xj_iinc Z 6 (x6 + 1) (lv' := [(6, .int (x6 + 1)), (5, .int v1), (0, .ref (ad 60)), (1, .int x1), (2, .int x2), (3, .int x3), (4, .int x4)]) dX6_minds_97 rfl rfl (by decide) rfl ?_
  refine xj_goto Z 39 dX6_minds_100 (by decide) ?_
  refine xj_sub [2, 3, 4, 5, 6, 1, 0] (lv' := [(0, .ref (ad 60)), (1, .int x1), (2, .int x2), (3, .int x3), (4, .int x4), (5, .int v1), (6, .int (x6 + 1))]) rfl ?_
  exact hk39 v1 (x6 + 1)
theorem bX6_minds_93 (Z : CX p s m args meth c cX6_minds 9 RX6 none D cs (xA S ad) S ad) (hS : xalm S) {k2 : Int32 → xm → Option (xm)} {k22 : Int32 → xm → Option (xm)} {k39 : Int32 → Int32 → Option (xm)} (x1 : Int32) (x2 : Int32) (x3 : Int32) (x4 : Int32) (x6 : Int32) (t0 : Int32) (M : xm) (hk2 : ∀ (x2 : Int32) (M : xm), XJ p l e rmX6_minds s m args below meth c D cs (xA S ad) S ad 9 (XRm below args s D cs S ad) 2 [(0, .ref (ad 60)), (1, .int x1), (2, .int x2)] [] M (k2 x2 M)) (hk22 : ∀ (x4 : Int32) (M : xm), XJ p l e rmX6_minds s m args below meth c D cs (xA S ad) S ad 9 (XRm below args s D cs S ad) 22 [(0, .ref (ad 60)), (1, .int x1), (2, .int x2), (3, .int x3), (4, .int x4)] [] M (k22 x4 M)) (hk39 : ∀ (x5 : Int32) (x6 : Int32), XJ p l e rmX6_minds s m args below meth c D cs (xA S ad) S ad 9 (XRm below args s D cs S ad) 39 [(0, .ref (ad 60)), (1, .int x1), (2, .int x2), (3, .int x3), (4, .int x4), (5, .int x5), (6, .int x6)] [] M (k39 x5 x6)) : XJ p l e rmX6_minds s m args below meth c D cs (xA S ad) S ad 9 (XRm below args s D cs S ad) 93 [(0, .ref (ad 60)), (1, .int x1), (2, .int x2), (3, .int x3), (4, .int x4), (6, .int x6)] [.int t0] M (fX6_minds_93 k2 k22 k39 x1 x2 x3 x4 x6 t0 M) := by
  unfold fX6_minds_93
  refine xj_iconst Z 0 dX6_minds_93 (by decide) ?_
  exact bX6_minds_94 Z hS x1 x2 x3 x4 x6 t0 0 M hk2 hk22 hk39
theorem bX6_minds_207 (Z : CX p s m args meth c cX6_minds 9 RX6 none D cs (xA S ad) S ad) (hS : xalm S) {k2 : Int32 → xm → Option (xm)} {k22 : Int32 → xm → Option (xm)} {k161 : Int32 → xm → Option (xm)} (x1 : Int32) (x2 : Int32) (x3 : Int32) (x4 : Int32) (x7 : Int32) (x8 : Int32) (t1 : Int32) (t2 : Int32) (t3 : Int32) (M : xm) (hk2 : ∀ (x2 : Int32) (M : xm), XJ p l e rmX6_minds s m args below meth c D cs (xA S ad) S ad 9 (XRm below args s D cs S ad) 2 [(0, .ref (ad 60)), (1, .int x1), (2, .int x2)] [] M (k2 x2 M)) (hk22 : ∀ (x4 : Int32) (M : xm), XJ p l e rmX6_minds s m args below meth c D cs (xA S ad) S ad 9 (XRm below args s D cs S ad) 22 [(0, .ref (ad 60)), (1, .int x1), (2, .int x2), (3, .int x3), (4, .int x4)] [] M (k22 x4 M)) (hk161 : ∀ (x8 : Int32) (M : xm), XJ p l e rmX6_minds s m args below meth c D cs (xA S ad) S ad 9 (XRm below args s D cs S ad) 161 [(0, .ref (ad 60)), (1, .int x1), (2, .int x2), (3, .int x3), (4, .int x4), (7, .int x7), (8, .int x8)] [] M (k161 x8 M)) : XJ p l e rmX6_minds s m args below meth c D cs (xA S ad) S ad 9 (XRm below args s D cs S ad) 207 [(0, .ref (ad 60)), (1, .int x1), (2, .int x2), (3, .int x3), (4, .int x4), (7, .int x7), (8, .int x8)] [.int t3, .int t2, .int t1, .ref (ad 67)] M (fX6_minds_207 k2 k22 k161 x1 x2 x3 x4 x7 x8 t1 t2 t3 M) := by
  unfold fX6_minds_207
  refine xj_ixor Z dX6_minds_207 ?_
  refine xj_iast Z (hS 67 (by decide) (by decide)) rfl dX6_minds_208 (fun M2 _ => ?_)
  refine xj_iinc Z 6 (x8 + 1) (lv' := [(8, .int (x8 + 1)), (0, .ref (ad 60)), (1, .int x1), (2, .int x2), (3, .int x3), (4, .int x4), (7, .int x7)]) dX6_minds_209 rfl rfl (by decide) rfl ?_
  refine xj_goto Z 161 dX6_minds_212 (by decide) ?_
  refine xj_sub [1, 2, 3, 4, 5, 6, 0] (lv' := [(0, .ref (ad 60)), (1, .int x1), (2, .int x2), (3, .int x3), (4, .int x4), (7, .int x7), (8, .int (x8 + 1))]) rfl ?_
  exact hk161 (x8 + 1) M2
theorem bX6_minds_161 (Z : CX p s m args meth c cX6_minds 9 RX6 none D cs (xA S ad) S ad) (hS : xalm S) {k2 : Int32 → xm → Option (xm)} {k22 : Int32 → xm → Option (xm)} (x1 : Int32) (x2 : Int32) (x3 : Int32) (x4 : Int32) (x7 : Int32) (hk2 : ∀ (x2 : Int32) (M : xm), XJ p l e rmX6_minds s m args below meth c D cs (xA S ad) S ad 9 (XRm below args s D cs S ad) 2 [(0, .ref (ad 60)), (1, .int x1), (2, .int x2)] [] M (k2 x2 M)) (hk22 : ∀ (x4 : Int32) (M : xm), XJ p l e rmX6_minds s m args below meth c D cs (xA S ad) S ad 9 (XRm below args s D cs S ad) 22 [(0, .ref (ad 60)), (1, .int x1), (2, .int x2), (3, .int x3), (4, .int x4)] [] M (k22 x4 M)) : ∀ (n : Nat) (x8 : Int32) (M : xm), XJ p l e rmX6_minds s m args below meth c D cs (xA S ad) S ad 9 (XRm below args s D cs S ad) 161 [(0, .ref (ad 60)), (1, .int x1), (2, .int x2), (3, .int x3), (4, .int x4), (7, .int x7), (8, .int x8)] [] M (fX6_minds_161 k2 k22 x1 x2 x3 x4 x7 n x8 M) := by
  intro n
  induction n with
  | zero => intros; exact xj_none
  | succ n ih =>
    intro x8 M
    rw [fX6_minds_161]
    refine xj_iload Z 6 dX6_minds_161 rfl ?_
    refine xj_aload_n Z 0 dX6_minds_163 rfl rfl ?_
    refine xg_X6_23 Z (hS 60 (by decide) (by decide)) dX6_minds_164 ?_
    refine xj_iconst Z 0 dX6_minds_167 (by decide) ?_
    refine xj_iald Z (hS 65 (by decide) (by decide)) rfl dX6_minds_168 (fun _ => ?_)
    refine xj_icmp_ge Z 215 dX6_minds_169 (by decide) (fun _ => ?_) (fun _ => ?_)
    · refine xj_iinc Z 4 (x4 + 1) (lv' := [(4, .int (x4 + 1)), (0, .ref (ad 60)), (1, .int x1), (2, .int x2), (3, .int x3), (7, .int x7), (8, .int x8)]) dX6_minds_215 rfl rfl (by decide) rfl ?_
      refine xj_goto Z 22 dX6_minds_218 (by decide) ?_
      refine xj_sub [1, 2, 3, 4, 0] (lv' := [(0, .ref (ad 60)), (1, .int x1), (2, .int x2), (3, .int x3), (4, .int (x4 + 1))]) rfl ?_
      exact hk22 (x4 + 1) M
    · refine xj_aload_n Z 0 dX6_minds_172 rfl rfl ?_
      refine xg_X6_29 Z (hS 60 (by decide) (by decide)) dX6_minds_173 ?_
      refine xj_bipush Z 25 dX6_minds_176 (by decide) ?_
      refine xj_iload_n Z 1 dX6_minds_178 rfl rfl ?_
      refine xj_imul Z dX6_minds_179 ?_
      refine xj_bipush Z 8 dX6_minds_180 (by decide) ?_
      refine xj_iadd Z dX6_minds_182 ?_
      refine xj_iload Z 6 dX6_minds_183 rfl ?_
      refine xj_iadd Z dX6_minds_185 ?_
      refine xj_top (fun v3 => ?_)
      refine xj_dup2 Z dX6_minds_186 rfl rfl ?_
      refine xj_iald Z (hS 67 (by decide) (by decide)) rfl dX6_minds_187 (fun _ => ?_)
      refine xj_iload Z 5 dX6_minds_188 rfl ?_
      refine xj_iload Z 6 dX6_minds_190 rfl ?_
      refine xj_ishr Z dX6_minds_192 ?_
      refine xj_iconst Z 1 dX6_minds_193 (by decide) ?_
      refine xj_iand Z dX6_minds_194 ?_
      refine xj_iconst Z 1 dX6_minds_195 (by decide) ?_
      refine xj_icmp_ne Z 206 dX6_minds_196 (by decide) (fun _ => ?_) (fun _ => ?_)
      · refine xj_iconst Z 0 dX6_minds_206 (by decide) ?_
        exact bX6_minds_207 Z hS x1 x2 x3 x4 x7 x8 v3 (M.1 67 v3.toNatClampNeg) 0 M hk2 hk22 ih
      · refine xj_iconst Z 1 dX6_minds_199 (by decide) ?_
        refine xj_iload Z 4 dX6_minds_200 rfl ?_
        refine xj_ishl Z dX6_minds_202 ?_
        refine xj_goto Z 207 dX6_minds_203 (by decide) ?_
        exact bX6_minds_207 Z hS x1 x2 x3 x4 x7 x8 v3 (M.1 67 v3.toNatClampNeg) (1 <<< (x4 &&& 31)) M hk2 hk22 ih
theorem bX6_minds_156 (Z : CX p s m args meth c cX6_minds 9 RX6 none D cs (xA S ad) S ad) (hS : xalm S) {k2 : Int32 → xm → Option (xm)} {k22 : Int32 → xm → Option (xm)} (x1 : Int32) (x2 : Int32) (x3 : Int32) (x4 : Int32) (t0 : Int32) (M : xm) (hk2 : ∀ (x2 : Int32) (M : xm), XJ p l e rmX6_minds s m args below meth c D cs (xA S ad) S ad 9 (XRm below args s D cs S ad) 2 [(0, .ref (ad 60)), (1, .int x1), (2, .int x2)] [] M (k2 x2 M)) (hk22 : ∀ (x4 : Int32) (M : xm), XJ p l e rmX6_minds s m args below meth c D cs (xA S ad) S ad 9 (XRm below args s D cs S ad) 22 [(0, .ref (ad 60)), (1, .int x1), (2, .int x2), (3, .int x3), (4, .int x4)] [] M (k22 x4 M)) : XJ p l e rmX6_minds s m args below meth c D cs (xA S ad) S ad 9 (XRm below args s D cs S ad) 156 [(0, .ref (ad 60)), (1, .int x1), (2, .int x2), (3, .int x3), (4, .int x4)] [.int t0] M (fX6_minds_156 k2 k22 x1 x2 x3 x4 t0 M) := by
  unfold fX6_minds_156
  refine xj_istore Z (lv' := [(7, .int t0), (0, .ref (ad 60)), (1, .int x1), (2, .int x2), (3, .int x3), (4, .int x4)]) dX6_minds_156 (by decide) rfl ?_
  refine xj_iconst Z 0 dX6_minds_158 (by decide) ?_
  refine xj_istore Z (lv' := [(8, .int 0), (7, .int t0), (0, .ref (ad 60)), (1, .int x1), (2, .int x2), (3, .int x3), (4, .int x4)]) dX6_minds_159 (by decide) rfl ?_
  refine xj_sub [2, 3, 4, 5, 6, 1, 0] (lv' := [(0, .ref (ad 60)), (1, .int x1), (2, .int x2), (3, .int x3), (4, .int x4), (7, .int t0), (8, .int 0)]) rfl ?_
  exact bX6_minds_161 Z hS x1 x2 x3 x4 t0 hk2 hk22 xfuel 0 M
theorem bX6_minds_39 (Z : CX p s m args meth c cX6_minds 9 RX6 none D cs (xA S ad) S ad) (hS : xalm S) {k2 : Int32 → xm → Option (xm)} {k22 : Int32 → xm → Option (xm)} (x1 : Int32) (x2 : Int32) (x3 : Int32) (x4 : Int32) (M : xm) (hk2 : ∀ (x2 : Int32) (M : xm), XJ p l e rmX6_minds s m args below meth c D cs (xA S ad) S ad 9 (XRm below args s D cs S ad) 2 [(0, .ref (ad 60)), (1, .int x1), (2, .int x2)] [] M (k2 x2 M)) (hk22 : ∀ (x4 : Int32) (M : xm), XJ p l e rmX6_minds s m args below meth c D cs (xA S ad) S ad 9 (XRm below args s D cs S ad) 22 [(0, .ref (ad 60)), (1, .int x1), (2, .int x2), (3, .int x3), (4, .int x4)] [] M (k22 x4 M)) : ∀ (n : Nat) (x5 : Int32) (x6 : Int32), XJ p l e rmX6_minds s m args below meth c D cs (xA S ad) S ad 9 (XRm below args s D cs S ad) 39 [(0, .ref (ad 60)), (1, .int x1), (2, .int x2), (3, .int x3), (4, .int x4), (5, .int x5), (6, .int x6)] [] M (fX6_minds_39 k2 k22 x1 x2 x3 x4 M n x5 x6) := by
  intro n
  induction n with
  | zero => intros; exact xj_none
  | succ n ih =>
    intro x5 x6
    rw [fX6_minds_39]
    refine xj_iload Z 6 dX6_minds_39 rfl ?_
    refine xj_aload_n Z 0 dX6_minds_41 rfl rfl ?_
    refine xg_X6_23 Z (hS 60 (by decide) (by decide)) dX6_minds_42 ?_
    refine xj_iconst Z 0 dX6_minds_45 (by decide) ?_
    refine xj_iald Z (hS 65 (by decide) (by decide)) rfl dX6_minds_46 (fun _ => ?_)
    refine xj_icmp_ge Z 103 dX6_minds_47 (by decide) (fun _ => ?_) (fun _ => ?_)
    · refine xj_iload_n Z 3 dX6_minds_103 rfl rfl ?_
      refine xj_iload Z 5 dX6_minds_104 rfl ?_
      refine xj_iconst Z (-1) dX6_minds_106 (by decide) ?_
      refine xj_ixor Z dX6_minds_107 ?_
      refine xj_iand Z dX6_minds_108 ?_
      refine xj_top (fun v4 => ?_)
      refine xj_istore Z (lv' := [(6, .int v4), (0, .ref (ad 60)), (1, .int x1), (2, .int x2), (3, .int x3), (4, .int x4), (5, .int x5)]) dX6_minds_109 (by decide) rfl ?_
      refine xj_iload Z 6 dX6_minds_111 rfl ?_
      refine xj_callSr Z (As := [.int x5]) (kX6_many l D cs S ad Z.2.2.2.2.2.1.dist x5 M) gw_X6_135 (n := 1) (by decide +kernel) rfl ⟨rfl, rfl⟩ (by decide) rfl (Nat.le_of_ble_eq_true rfl) dX6_minds_113 (fun v5 => ?_)
      refine xj_iload Z 0 dX6_minds_116 rfl ?_
      refine xj_callSr Z (As := [.int v4]) (kX6_many l D cs S ad Z.2.2.2.2.2.1.dist v4 M) gw_X6_135 (n := 1) (by decide +kernel) rfl ⟨rfl, rfl⟩ (by decide) rfl (Nat.le_of_ble_eq_true rfl) dX6_minds_118 (fun v6 => ?_)
      refine xj_icmp_le Z 133 dX6_minds_121 (by decide) (fun _ => ?_) (fun _ => ?_)
      · refine xj_iload Z 6 dX6_minds_133 rfl ?_
        refine xj_callSr Z (As := [.int x5]) (kX6_many l D cs S ad Z.2.2.2.2.2.1.dist x5 M) gw_X6_135 (n := 1) (by decide +kernel) rfl ⟨rfl, rfl⟩ (by decide) rfl (Nat.le_of_ble_eq_true rfl) dX6_minds_135 (fun v7 => ?_)
        refine xj_iload Z 0 dX6_minds_138 rfl ?_
        refine xj_callSr Z (As := [.int v4]) (kX6_many l D cs S ad Z.2.2.2.2.2.1.dist v4 M) gw_X6_135 (n := 1) (by decide +kernel) rfl ⟨rfl, rfl⟩ (by decide) rfl (Nat.le_of_ble_eq_true rfl) dX6_minds_140 (fun v8 => ?_)
        refine xj_icmp_ge Z 155 dX6_minds_143 (by decide) (fun _ => ?_) (fun _ => ?_)
        · refine xj_iconst Z 0 dX6_minds_155 (by decide) ?_
          refine xj_sub [1, 2, 3, 4, 5] (lv' := [(0, .ref (ad 60)), (1, .int x1), (2, .int x2), (3, .int x3), (4, .int x4)]) rfl ?_
          exact bX6_minds_156 Z hS x1 x2 x3 x4 0 M hk2 hk22
        · refine xj_iload Z 6 dX6_minds_146 rfl ?_
          refine xj_iload Z 6 dX6_minds_148 rfl ?_
          refine xj_ineg Z dX6_minds_150 ?_
          refine xj_iand Z dX6_minds_151 ?_
          refine xj_goto Z 156 dX6_minds_152 (by decide) ?_
          refine xj_sub [1, 2, 3, 4, 5] (lv' := [(0, .ref (ad 60)), (1, .int x1), (2, .int x2), (3, .int x3), (4, .int x4)]) rfl ?_
          exact bX6_minds_156 Z hS x1 x2 x3 x4 (x5 &&& (-x5)) M hk2 hk22
      · refine xj_iload Z 0 dX6_minds_124 rfl ?_
        refine xj_iload Z 0 dX6_minds_126 rfl ?_
        refine xj_ineg Z dX6_minds_128 ?_
        refine xj_iand Z dX6_minds_129 ?_
        refine xj_goto Z 156 dX6_minds_130 (by decide) ?_
        refine xj_sub [1, 2, 3, 4, 5] (lv' := [(0, .ref (ad 60)), (1, .int x1), (2, .int x2), (3, .int x3), (4, .int x4)]) rfl ?_
        exact bX6_minds_156 Z hS x1 x2 x3 x4 (v4 &&& (-v4)) M hk2 hk22
    · refine xj_iload Z 5 dX6_minds_50 rfl ?_
      refine xj_iload_n Z 3 dX6_minds_52 rfl rfl ?_
      refine xj_iload Z 6 dX6_minds_53 rfl ?_
      refine xj_ishr Z dX6_minds_55 ?_
      refine xj_iconst Z 1 dX6_minds_56 (by decide) ?_
      refine xj_iand Z dX6_minds_57 ?_
      refine xj_iconst Z 1 dX6_minds_58 (by decide) ?_
      refine xj_icmp_ne Z 93 dX6_minds_59 (by decide) (fun _ => ?_) (fun _ => ?_)
      · refine xj_sub [0, 1, 2, 3, 4, 6] (lv' := [(0, .ref (ad 60)), (1, .int x1), (2, .int x2), (3, .int x3), (4, .int x4), (6, .int x6)]) rfl ?_
        exact bX6_minds_93 Z hS x1 x2 x3 x4 x6 x5 M hk2 hk22 ih
      · refine xj_aload_n Z 0 dX6_minds_62 rfl rfl ?_
        refine xg_X6_29 Z (hS 60 (by decide) (by decide)) dX6_minds_63 ?_
        refine xj_bipush Z 25 dX6_minds_66 (by decide) ?_
        refine xj_iload_n Z 1 dX6_minds_68 rfl rfl ?_
        refine xj_imul Z dX6_minds_69 ?_
        refine xj_bipush Z 8 dX6_minds_70 (by decide) ?_
        refine xj_iadd Z dX6_minds_72 ?_
        refine xj_iload Z 6 dX6_minds_73 rfl ?_
        refine xj_iadd Z dX6_minds_75 ?_
        refine xj_iald Z (hS 67 (by decide) (by decide)) rfl dX6_minds_76 (fun _ => ?_)
        refine xj_iload Z 4 dX6_minds_77 rfl ?_
        refine xj_ishr Z dX6_minds_79 ?_
        refine xj_iconst Z 1 dX6_minds_80 (by decide) ?_
        refine xj_iand Z dX6_minds_81 ?_
        refine xj_iconst Z 1 dX6_minds_82 (by decide) ?_
        refine xj_icmp_ne Z 93 dX6_minds_83 (by decide) (fun _ => ?_) (fun _ => ?_)
        · refine xj_sub [0, 1, 2, 3, 4, 6] (lv' := [(0, .ref (ad 60)), (1, .int x1), (2, .int x2), (3, .int x3), (4, .int x4), (6, .int x6)]) rfl ?_
          exact bX6_minds_93 Z hS x1 x2 x3 x4 x6 x5 M hk2 hk22 ih
        · refine xj_iconst Z 1 dX6_minds_86 (by decide) ?_
          refine xj_iload Z 6 dX6_minds_87 rfl ?_
          refine xj_ishl Z dX6_minds_89 ?_
          refine xj_goto Z 94 dX6_minds_90 (by decide) ?_
          refine xj_sub [0, 1, 2, 3, 4, 6] (lv' := [(0, .ref (ad 60)), (1, .int x1), (2, .int x2), (3, .int x3), (4, .int x4), (6, .int x6)]) rfl ?_
          exact bX6_minds_94 Z hS x1 x2 x3 x4 x6 x5 (1 <<< (x6 &&& 31)) M hk2 hk22 ih
theorem bX6_minds_22 (Z : CX p s m args meth c cX6_minds 9 RX6 none D cs (xA S ad) S ad) (hS : xalm S) {k2 : Int32 → xm → Option (xm)} (x1 : Int32) (x2 : Int32) (x3 : Int32) (hk2 : ∀ (x2 : Int32) (M : xm), XJ p l e rmX6_minds s m args below meth c D cs (xA S ad) S ad 9 (XRm below args s D cs S ad) 2 [(0, .ref (ad 60)), (1, .int x1), (2, .int x2)] [] M (k2 x2 M)) : ∀ (n : Nat) (x4 : Int32) (M : xm), XJ p l e rmX6_minds s m args below meth c D cs (xA S ad) S ad 9 (XRm below args s D cs S ad) 22 [(0, .ref (ad 60)), (1, .int x1), (2, .int x2), (3, .int x3), (4, .int x4)] [] M (fX6_minds_22 k2 x1 x2 x3 n x4 M) := by
  intro n
  induction n with
  | zero => intros; exact xj_none
  | succ n ih =>
    intro x4 M
    rw [fX6_minds_22]
    refine xj_iload Z 4 dX6_minds_22 rfl ?_
    refine xj_aload_n Z 0 dX6_minds_24 rfl rfl ?_
    refine xg_X6_13 Z (hS 60 (by decide) (by decide)) dX6_minds_25 ?_
    refine xj_iconst Z 1 dX6_minds_28 (by decide) ?_
    refine xj_iald Z (hS 62 (by decide) (by decide)) rfl dX6_minds_29 (fun _ => ?_)
    refine xj_icmp_ge Z 221 dX6_minds_30 (by decide) (fun _ => ?_) (fun _ => ?_)
    · refine xj_iinc Z 2 (x2 + 1) (lv' := [(2, .int (x2 + 1)), (0, .ref (ad 60)), (1, .int x1), (3, .int x3), (4, .int x4)]) dX6_minds_221 rfl rfl (by decide) rfl ?_
      refine xj_goto Z 2 dX6_minds_224 (by decide) ?_
      refine xj_sub [1, 2, 0] (lv' := [(0, .ref (ad 60)), (1, .int x1), (2, .int (x2 + 1))]) rfl ?_
      exact hk2 (x2 + 1) M
    · refine xj_iconst Z 0 dX6_minds_33 (by decide) ?_
      refine xj_istore Z (lv' := [(5, .int 0), (0, .ref (ad 60)), (1, .int x1), (2, .int x2), (3, .int x3), (4, .int x4)]) dX6_minds_34 (by decide) rfl ?_
      refine xj_iconst Z 0 dX6_minds_36 (by decide) ?_
      refine xj_istore Z (lv' := [(6, .int 0), (5, .int 0), (0, .ref (ad 60)), (1, .int x1), (2, .int x2), (3, .int x3), (4, .int x4)]) dX6_minds_37 (by decide) rfl ?_
      refine xj_sub [2, 3, 4, 5, 6, 1, 0] (lv' := [(0, .ref (ad 60)), (1, .int x1), (2, .int x2), (3, .int x3), (4, .int x4), (5, .int 0), (6, .int 0)]) rfl ?_
      exact bX6_minds_39 Z hS x1 x2 x3 x4 M hk2 ih xfuel 0 0
theorem bX6_minds_2 (Z : CX p s m args meth c cX6_minds 9 RX6 none D cs (xA S ad) S ad) (hS : xalm S) (x1 : Int32) : ∀ (n : Nat) (x2 : Int32) (M : xm), XJ p l e rmX6_minds s m args below meth c D cs (xA S ad) S ad 9 (XRm below args s D cs S ad) 2 [(0, .ref (ad 60)), (1, .int x1), (2, .int x2)] [] M (fX6_minds_2 x1 n x2 M) := by
  intro n
  induction n with
  | zero => intros; exact xj_none
  | succ n ih =>
    intro x2 M
    rw [fX6_minds_2]
    refine xj_iload_n Z 2 dX6_minds_2 rfl rfl ?_
    refine xj_aload_n Z 0 dX6_minds_3 rfl rfl ?_
    refine xg_X6_17 Z (hS 60 (by decide) (by decide)) dX6_minds_4 ?_
    refine xj_iconst Z 0 dX6_minds_7 (by decide) ?_
    refine xj_iald Z (hS 63 (by decide) (by decide)) rfl dX6_minds_8 (fun _ => ?_)
    refine xj_icmp_ge Z 227 dX6_minds_9 (by decide) (fun _ => ?_) (fun _ => ?_)
    · exact xj_vret Z dX6_minds_227
    · refine xj_aload_n Z 0 dX6_minds_12 rfl rfl ?_
      refine xj_iload_n Z 1 dX6_minds_13 rfl rfl ?_
      refine xj_iload_n Z 2 dX6_minds_14 rfl rfl ?_
      refine xj_callVr Z (As := [.int x1, .int x2]) (kX6_there l D cs S ad Z.2.2.2.2.2.1.dist hS x1 x2 M) gw_X6_114 (hS 60 (by decide) (by decide)) rfl rfl (n := 2) (by decide +kernel) rfl ⟨rfl, rfl⟩ (by decide) rfl (Nat.le_of_ble_eq_true rfl) dX6_minds_15 (fun v9 => ?_)
      refine xj_istore_n Z (lv' := [(3, .int v9), (0, .ref (ad 60)), (1, .int x1), (2, .int x2)]) dX6_minds_18 rfl (by decide) rfl ?_
      refine xj_iconst Z 0 dX6_minds_19 (by decide) ?_
      refine xj_istore Z (lv' := [(4, .int 0), (3, .int v9), (0, .ref (ad 60)), (1, .int x1), (2, .int x2)]) dX6_minds_20 (by decide) rfl ?_
      refine xj_sub [2, 3, 4, 1, 0] (lv' := [(0, .ref (ad 60)), (1, .int x1), (2, .int x2), (3, .int v9), (4, .int 0)]) rfl ?_
      exact bX6_minds_22 Z hS x1 x2 v9 ih xfuel 0 M
end
theorem kX6_minds (l : Launch) (D : va_G) (cs : Nat → ClassId) (S : List Nat) (ad : Nat → Nat) (hd : xdist S ad) (hS : xalm S) (x1 : Int32) (M : xm) : ∀ r, fX6_minds x1 M = some r → Met l yX6_minds [Cond.code yX6_minds cX6_minds 9 none] rmX6_minds (XPc D cs S ad [.ref (ad 60), .int x1] M) (XQv D cs S ad r) 0 0 (xA S ad) := by
  refine xm_m (own := RX6) (lv := [(0, .ref (ad 60)), (1, .int x1)]) (by decide +kernel) rfl rfl (Nat.le_of_ble_eq_true rfl) hd (fun p e s m args below meth c Z => ?_)
  unfold fX6_minds
  refine xj_iconst Z 0 dX6_minds_0 (by decide) ?_
  refine xj_istore_n Z (lv' := [(2, .int 0), (0, .ref (ad 60)), (1, .int x1)]) dX6_minds_1 rfl (by decide) rfl ?_
  refine xj_sub [1, 2, 0] (lv' := [(0, .ref (ad 60)), (1, .int x1), (2, .int 0)]) rfl ?_
  exact bX6_minds_2 Z hS x1 xfuel 0 M
/-! WalkingLawModel.hour(II)V -/
theorem dX6_hour_0 : decode cX6_hour 0 = .ok (.aload_n 0, 1) := by decide +kernel
theorem dX6_hour_1 : decode cX6_hour 1 = .ok (.invokevirtual 123, 3) := by decide +kernel
theorem dX6_hour_4 : decode cX6_hour 4 = .ok (.istore_n 3, 1) := by decide +kernel
theorem dX6_hour_5 : decode cX6_hour 5 = .ok (.iconst 0, 1) := by decide +kernel
theorem dX6_hour_6 : decode cX6_hour 6 = .ok (.istore 4, 2) := by decide +kernel
theorem dX6_hour_8 : decode cX6_hour 8 = .ok (.iload 4, 2) := by decide +kernel
theorem dX6_hour_10 : decode cX6_hour 10 = .ok (.aload_n 0, 1) := by decide +kernel
theorem dX6_hour_11 : decode cX6_hour 11 = .ok (.getfield 23, 3) := by decide +kernel
theorem dX6_hour_14 : decode cX6_hour 14 = .ok (.iconst 0, 1) := by decide +kernel
theorem dX6_hour_15 : decode cX6_hour 15 = .ok (.iaload, 1) := by decide +kernel
theorem dX6_hour_16 : decode cX6_hour 16 = .ok (.if_icmp .ge 65, 3) := by decide +kernel
theorem dX6_hour_19 : decode cX6_hour 19 = .ok (.aload_n 0, 1) := by decide +kernel
theorem dX6_hour_20 : decode cX6_hour 20 = .ok (.getfield 29, 3) := by decide +kernel
theorem dX6_hour_23 : decode cX6_hour 23 = .ok (.bipush 25, 2) := by decide +kernel
theorem dX6_hour_25 : decode cX6_hour 25 = .ok (.iload_n 1, 1) := by decide +kernel
theorem dX6_hour_26 : decode cX6_hour 26 = .ok (.imul, 1) := by decide +kernel
theorem dX6_hour_27 : decode cX6_hour 27 = .ok (.iload 4, 2) := by decide +kernel
theorem dX6_hour_29 : decode cX6_hour 29 = .ok (.iadd, 1) := by decide +kernel
theorem dX6_hour_30 : decode cX6_hour 30 = .ok (.iaload, 1) := by decide +kernel
theorem dX6_hour_31 : decode cX6_hour 31 = .ok (.iload 4, 2) := by decide +kernel
theorem dX6_hour_33 : decode cX6_hour 33 = .ok (.iload_n 2, 1) := by decide +kernel
theorem dX6_hour_34 : decode cX6_hour 34 = .ok (.if_icmp .ne 7, 3) := by decide +kernel
theorem dX6_hour_37 : decode cX6_hour 37 = .ok (.iconst 0, 1) := by decide +kernel
theorem dX6_hour_38 : decode cX6_hour 38 = .ok (.goto 10, 3) := by decide +kernel
theorem dX6_hour_41 : decode cX6_hour 41 = .ok (.aload_n 0, 1) := by decide +kernel
theorem dX6_hour_42 : decode cX6_hour 42 = .ok (.iload_n 1, 1) := by decide +kernel
theorem dX6_hour_43 : decode cX6_hour 43 = .ok (.iload 4, 2) := by decide +kernel
theorem dX6_hour_45 : decode cX6_hour 45 = .ok (.invokevirtual 126, 3) := by decide +kernel
theorem dX6_hour_48 : decode cX6_hour 48 = .ok (.iadd, 1) := by decide +kernel
theorem dX6_hour_49 : decode cX6_hour 49 = .ok (.istore 5, 2) := by decide +kernel
theorem dX6_hour_51 : decode cX6_hour 51 = .ok (.aload_n 0, 1) := by decide +kernel
theorem dX6_hour_52 : decode cX6_hour 52 = .ok (.getfield 29, 3) := by decide +kernel
theorem dX6_hour_55 : decode cX6_hour 55 = .ok (.bipush 25, 2) := by decide +kernel
theorem dX6_hour_57 : decode cX6_hour 57 = .ok (.iload_n 1, 1) := by decide +kernel
theorem dX6_hour_58 : decode cX6_hour 58 = .ok (.imul, 1) := by decide +kernel
theorem dX6_hour_59 : decode cX6_hour 59 = .ok (.iload 4, 2) := by decide +kernel
theorem dX6_hour_61 : decode cX6_hour 61 = .ok (.iadd, 1) := by decide +kernel
theorem dX6_hour_62 : decode cX6_hour 62 = .ok (.iload 5, 2) := by decide +kernel
theorem dX6_hour_64 : decode cX6_hour 64 = .ok (.iload_n 3, 1) := by decide +kernel
theorem dX6_hour_65 : decode cX6_hour 65 = .ok (.if_icmp .le 7, 3) := by decide +kernel
theorem dX6_hour_68 : decode cX6_hour 68 = .ok (.iload_n 3, 1) := by decide +kernel
theorem dX6_hour_69 : decode cX6_hour 69 = .ok (.goto 5, 3) := by decide +kernel
theorem dX6_hour_72 : decode cX6_hour 72 = .ok (.iload 5, 2) := by decide +kernel
theorem dX6_hour_74 : decode cX6_hour 74 = .ok (.iastore, 1) := by decide +kernel
theorem dX6_hour_75 : decode cX6_hour 75 = .ok (.iinc 4 1, 3) := by decide +kernel
theorem dX6_hour_78 : decode cX6_hour 78 = .ok (.goto (-70), 3) := by decide +kernel
theorem dX6_hour_81 : decode cX6_hour 81 = .ok (.aload_n 0, 1) := by decide +kernel
theorem dX6_hour_82 : decode cX6_hour 82 = .ok (.getfield 29, 3) := by decide +kernel
theorem dX6_hour_85 : decode cX6_hour 85 = .ok (.bipush 25, 2) := by decide +kernel
theorem dX6_hour_87 : decode cX6_hour 87 = .ok (.iload_n 1, 1) := by decide +kernel
theorem dX6_hour_88 : decode cX6_hour 88 = .ok (.imul, 1) := by decide +kernel
theorem dX6_hour_89 : decode cX6_hour 89 = .ok (.bipush 24, 2) := by decide +kernel
theorem dX6_hour_91 : decode cX6_hour 91 = .ok (.iadd, 1) := by decide +kernel
theorem dX6_hour_92 : decode cX6_hour 92 = .ok (.dup2, 1) := by decide +kernel
theorem dX6_hour_93 : decode cX6_hour 93 = .ok (.iaload, 1) := by decide +kernel
theorem dX6_hour_94 : decode cX6_hour 94 = .ok (.iconst 1, 1) := by decide +kernel
theorem dX6_hour_95 : decode cX6_hour 95 = .ok (.iadd, 1) := by decide +kernel
theorem dX6_hour_96 : decode cX6_hour 96 = .ok (.iastore, 1) := by decide +kernel
theorem dX6_hour_97 : decode cX6_hour 97 = .ok (.aload_n 0, 1) := by decide +kernel
theorem dX6_hour_98 : decode cX6_hour 98 = .ok (.getfield 29, 3) := by decide +kernel
theorem dX6_hour_101 : decode cX6_hour 101 = .ok (.bipush 25, 2) := by decide +kernel
theorem dX6_hour_103 : decode cX6_hour 103 = .ok (.iload_n 1, 1) := by decide +kernel
theorem dX6_hour_104 : decode cX6_hour 104 = .ok (.imul, 1) := by decide +kernel
theorem dX6_hour_105 : decode cX6_hour 105 = .ok (.bipush 24, 2) := by decide +kernel
theorem dX6_hour_107 : decode cX6_hour 107 = .ok (.iadd, 1) := by decide +kernel
theorem dX6_hour_108 : decode cX6_hour 108 = .ok (.iaload, 1) := by decide +kernel
theorem dX6_hour_109 : decode cX6_hour 109 = .ok (.bipush 8, 2) := by decide +kernel
theorem dX6_hour_111 : decode cX6_hour 111 = .ok (.irem, 1) := by decide +kernel
theorem dX6_hour_112 : decode cX6_hour 112 = .ok (.ifCond .ne 13, 3) := by decide +kernel
theorem dX6_hour_115 : decode cX6_hour 115 = .ok (.aload_n 0, 1) := by decide +kernel
theorem dX6_hour_116 : decode cX6_hour 116 = .ok (.iload_n 1, 1) := by decide +kernel
theorem dX6_hour_117 : decode cX6_hour 117 = .ok (.invokevirtual 129, 3) := by decide +kernel
theorem dX6_hour_120 : decode cX6_hour 120 = .ok (.aload_n 0, 1) := by decide +kernel
theorem dX6_hour_121 : decode cX6_hour 121 = .ok (.iload_n 1, 1) := by decide +kernel
theorem dX6_hour_122 : decode cX6_hour 122 = .ok (.invokevirtual 132, 3) := by decide +kernel
theorem dX6_hour_125 : decode cX6_hour 125 = .ok (.return_, 1) := by decide +kernel
def rmX6_hour : Room := { frames := 4, cells := 0, slots := 0, locals := 97 }
def fX6_hour_74 (k8 : Int32 → xm → Option (xm)) (x1 : Int32) (x2 : Int32) (x3 : Int32) (x4 : Int32) (t1 : Int32) (t2 : Int32) (M : xm) : Option (xm) := xchk t1 100 (xl (up M 67 (t1 : Int32).toNatClampNeg t2) (fun M1 => (k8 (x4 + 1) M1)))
def fX6_hour_48 (k8 : Int32 → xm → Option (xm)) (x1 : Int32) (x2 : Int32) (x3 : Int32) (x4 : Int32) (t0 : Int32) (t1 : Int32) (M : xm) : Option (xm) := xl (t0 + t1) (fun v2 => (if v2 ≤ x3 then (fX6_hour_74 (k8) x1 x2 x3 x4 ((25 * x1) + x4) v2 M) else (fX6_hour_74 (k8) x1 x2 x3 x4 ((25 * x1) + x4) x3 M)))
def fX6_hour_125 (M : xm) : Option (xm) := (some M)
def fX6_hour_8 (x1 : Int32) (x2 : Int32) (x3 : Int32) : Nat → Int32 → xm → Option (xm)
  | 0, _, _ => none
  | n + 1, x4, M => xchk 0 2 ((if (M.1 65 (0 : Int32).toNatClampNeg) ≤ x4 then xl ((25 * x1) + 24) (fun v3 => xchk v3 100 (xchk v3 100 (xl (up M 67 (v3 : Int32).toNatClampNeg ((M.1 67 v3.toNatClampNeg) + 1)) (fun M4 => xchk ((25 * x1) + 24) 100 ((if ((M4.1 67 (((25 * x1) + 24)).toNatClampNeg) - (M4.1 67 (((25 * x1) + 24)).toNatClampNeg) / 8 * 8) = 0 then (fX6_beds x1 M4).bind (fun M5 => (fX6_minds x1 M5).bind (fun M6 => (fX6_hour_125 M6))) else (fX6_hour_125 M4))))))) else xchk ((25 * x1) + x4) 100 ((if x4 = x2 then (fX6_hour_48 (fun z0 z1 => fX6_hour_8 x1 x2 x3 n z0 z1) x1 x2 x3 x4 (M.1 67 (((25 * x1) + x4)).toNatClampNeg) 0 M) else (fX6_pace x1 x4 M).bind (fun v7 => (fX6_hour_48 (fun z0 z1 => fX6_hour_8 x1 x2 x3 n z0 z1) x1 x2 x3 x4 (M.1 67 (((25 * x1) + x4)).toNatClampNeg) v7 M))))))
def fX6_hour (x1 : Int32) (x2 : Int32) (M : xm) : Option (xm) := (fX6_end M).bind (fun v8 => (fX6_hour_8 x1 x2 v8 xfuel 0 M))
section
variable {p : Program} {l : Launch} {e : Env} {s : State} {m : MethodId} {args : Array Value} {below : List Frame} {meth : Method} {c : Code} {D : va_G} {cs : Nat → ClassId} {S : List Nat} {ad : Nat → Nat}
theorem bX6_hour_74 (Z : CX p s m args meth c cX6_hour 6 RX6 none D cs (xA S ad) S ad) (hS : xalm S) {k8 : Int32 → xm → Option (xm)} (x1 : Int32) (x2 : Int32) (x3 : Int32) (x4 : Int32) (t1 : Int32) (t2 : Int32) (M : xm) (hk8 : ∀ (x4 : Int32) (M : xm), XJ p l e rmX6_hour s m args below meth c D cs (xA S ad) S ad 6 (XRm below args s D cs S ad) 8 [(0, .ref (ad 60)), (1, .int x1), (2, .int x2), (3, .int x3), (4, .int x4)] [] M (k8 x4 M)) : XJ p l e rmX6_hour s m args below meth c D cs (xA S ad) S ad 6 (XRm below args s D cs S ad) 74 [(0, .ref (ad 60)), (1, .int x1), (2, .int x2), (3, .int x3), (4, .int x4)] [.int t2, .int t1, .ref (ad 67)] M (fX6_hour_74 k8 x1 x2 x3 x4 t1 t2 M) := by
  unfold fX6_hour_74
  refine xj_iast Z (hS 67 (by decide) (by decide)) rfl dX6_hour_74 (fun M1 _ => ?_)
  refine xj_iinc Z 4 (x4 + 1) (lv' := [(4, .int (x4 + 1)), (0, .ref (ad 60)), (1, .int x1), (2, .int x2), (3, .int x3)]) dX6_hour_75 rfl rfl (by decide) rfl ?_
  refine xj_goto Z 8 dX6_hour_78 (by decide) ?_
  refine xj_sub [1, 2, 3, 4, 0] (lv' := [(0, .ref (ad 60)), (1, .int x1), (2, .int x2), (3, .int x3), (4, .int (x4 + 1))]) rfl ?_
  exact hk8 (x4 + 1) M1
theorem bX6_hour_48 (Z : CX p s m args meth c cX6_hour 6 RX6 none D cs (xA S ad) S ad) (hS : xalm S) {k8 : Int32 → xm → Option (xm)} (x1 : Int32) (x2 : Int32) (x3 : Int32) (x4 : Int32) (t0 : Int32) (t1 : Int32) (M : xm) (hk8 : ∀ (x4 : Int32) (M : xm), XJ p l e rmX6_hour s m args below meth c D cs (xA S ad) S ad 6 (XRm below args s D cs S ad) 8 [(0, .ref (ad 60)), (1, .int x1), (2, .int x2), (3, .int x3), (4, .int x4)] [] M (k8 x4 M)) : XJ p l e rmX6_hour s m args below meth c D cs (xA S ad) S ad 6 (XRm below args s D cs S ad) 48 [(0, .ref (ad 60)), (1, .int x1), (2, .int x2), (3, .int x3), (4, .int x4)] [.int t1, .int t0] M (fX6_hour_48 k8 x1 x2 x3 x4 t0 t1 M) := by
  unfold fX6_hour_48
  refine xj_iadd Z dX6_hour_48 ?_
  refine xj_top (fun v2 => ?_)
  refine xj_istore Z (lv' := [(5, .int v2), (0, .ref (ad 60)), (1, .int x1), (2, .int x2), (3, .int x3), (4, .int x4)]) dX6_hour_49 (by decide) rfl ?_
  refine xj_aload_n Z 1 dX6_hour_51 rfl rfl ?_
  refine xg_X6_29 Z (hS 60 (by decide) (by decide)) dX6_hour_52 ?_
  refine xj_bipush Z 25 dX6_hour_55 (by decide) ?_
  refine xj_iload_n Z 2 dX6_hour_57 rfl rfl ?_
  refine xj_imul Z dX6_hour_58 ?_
  refine xj_iload Z 5 dX6_hour_59 rfl ?_
  refine xj_iadd Z dX6_hour_61 ?_
  refine xj_iload Z 0 dX6_hour_62 rfl ?_
  refine xj_iload_n Z 4 dX6_hour_64 rfl rfl ?_
  refine xj_icmp_le Z 72 dX6_hour_65 (by decide) (fun _ => ?_) (fun _ => ?_)
  · refine xj_iload Z 0 dX6_hour_72 rfl ?_
    refine xj_sub [1, 2, 3, 4, 5] (lv' := [(0, .ref (ad 60)), (1, .int x1), (2, .int x2), (3, .int x3), (4, .int x4)]) rfl ?_
    exact bX6_hour_74 Z hS x1 x2 x3 x4 ((25 * x1) + x4) v2 M hk8
  · refine xj_iload_n Z 4 dX6_hour_68 rfl rfl ?_
    refine xj_goto Z 74 dX6_hour_69 (by decide) ?_
    refine xj_sub [1, 2, 3, 4, 5] (lv' := [(0, .ref (ad 60)), (1, .int x1), (2, .int x2), (3, .int x3), (4, .int x4)]) rfl ?_
    exact bX6_hour_74 Z hS x1 x2 x3 x4 ((25 * x1) + x4) x3 M hk8
theorem bX6_hour_125 (Z : CX p s m args meth c cX6_hour 6 RX6 none D cs (xA S ad) S ad) (hS : xalm S) (M : xm) : XJ p l e rmX6_hour s m args below meth c D cs (xA S ad) S ad 6 (XRm below args s D cs S ad) 125 [] [] M (fX6_hour_125 M) := by
  unfold fX6_hour_125
  exact xj_vret Z dX6_hour_125
theorem bX6_hour_8 (Z : CX p s m args meth c cX6_hour 6 RX6 none D cs (xA S ad) S ad) (hS : xalm S) (x1 : Int32) (x2 : Int32) (x3 : Int32) : ∀ (n : Nat) (x4 : Int32) (M : xm), XJ p l e rmX6_hour s m args below meth c D cs (xA S ad) S ad 6 (XRm below args s D cs S ad) 8 [(0, .ref (ad 60)), (1, .int x1), (2, .int x2), (3, .int x3), (4, .int x4)] [] M (fX6_hour_8 x1 x2 x3 n x4 M) := by
  intro n
  induction n with
  | zero => intros; exact xj_none
  | succ n ih =>
    intro x4 M
    rw [fX6_hour_8]
    refine xj_iload Z 4 dX6_hour_8 rfl ?_
    refine xj_aload_n Z 0 dX6_hour_10 rfl rfl ?_
    refine xg_X6_23 Z (hS 60 (by decide) (by decide)) dX6_hour_11 ?_
    refine xj_iconst Z 0 dX6_hour_14 (by decide) ?_
    refine xj_iald Z (hS 65 (by decide) (by decide)) rfl dX6_hour_15 (fun _ => ?_)
    refine xj_icmp_ge Z 81 dX6_hour_16 (by decide) (fun _ => ?_) (fun _ => ?_)
    · refine xj_aload_n Z 0 dX6_hour_81 rfl rfl ?_
      refine xg_X6_29 Z (hS 60 (by decide) (by decide)) dX6_hour_82 ?_
      refine xj_bipush Z 25 dX6_hour_85 (by decide) ?_
      refine xj_iload_n Z 1 dX6_hour_87 rfl rfl ?_
      refine xj_imul Z dX6_hour_88 ?_
      refine xj_bipush Z 24 dX6_hour_89 (by decide) ?_
      refine xj_iadd Z dX6_hour_91 ?_
      refine xj_top (fun v3 => ?_)
      refine xj_dup2 Z dX6_hour_92 rfl rfl ?_
      refine xj_iald Z (hS 67 (by decide) (by decide)) rfl dX6_hour_93 (fun _ => ?_)
      refine xj_iconst Z 1 dX6_hour_94 (by decide) ?_
      refine xj_iadd Z dX6_hour_95 ?_
      refine xj_iast Z (hS 67 (by decide) (by decide)) rfl dX6_hour_96 (fun M4 _ => ?_)
      refine xj_aload_n Z 0 dX6_hour_97 rfl rfl ?_
      refine xg_X6_29 Z (hS 60 (by decide) (by decide)) dX6_hour_98 ?_
      refine xj_bipush Z 25 dX6_hour_101 (by decide) ?_
      refine xj_iload_n Z 1 dX6_hour_103 rfl rfl ?_
      refine xj_imul Z dX6_hour_104 ?_
      refine xj_bipush Z 24 dX6_hour_105 (by decide) ?_
      refine xj_iadd Z dX6_hour_107 ?_
      refine xj_iald Z (hS 67 (by decide) (by decide)) rfl dX6_hour_108 (fun _ => ?_)
      refine xj_bipush Z 8 dX6_hour_109 (by decide) ?_
      refine xj_irem Z dX6_hour_111 (by decide) ?_
      refine xj_if_ne Z 125 dX6_hour_112 (by decide) (fun _ => ?_) (fun _ => ?_)
      · refine xj_sub [] (lv' := []) rfl ?_
        exact bX6_hour_125 Z hS M4
      · refine xj_aload_n Z 0 dX6_hour_115 rfl rfl ?_
        refine xj_iload_n Z 1 dX6_hour_116 rfl rfl ?_
        refine xj_callVm Z (As := [.int x1]) (kX6_beds l D cs S ad Z.2.2.2.2.2.1.dist hS x1 M4) gw_X6_129 (hS 60 (by decide) (by decide)) rfl rfl (n := 1) (by decide +kernel) rfl ⟨rfl, rfl⟩ (by decide) rfl (Nat.le_of_ble_eq_true rfl) dX6_hour_117 (fun M5 => ?_)
        refine xj_aload_n Z 0 dX6_hour_120 rfl rfl ?_
        refine xj_iload_n Z 1 dX6_hour_121 rfl rfl ?_
        refine xj_callVm Z (As := [.int x1]) (kX6_minds l D cs S ad Z.2.2.2.2.2.1.dist hS x1 M5) gw_X6_132 (hS 60 (by decide) (by decide)) rfl rfl (n := 1) (by decide +kernel) rfl ⟨rfl, rfl⟩ (by decide) rfl (Nat.le_of_ble_eq_true rfl) dX6_hour_122 (fun M6 => ?_)
        refine xj_sub [] (lv' := []) rfl ?_
        exact bX6_hour_125 Z hS M6
    · refine xj_aload_n Z 0 dX6_hour_19 rfl rfl ?_
      refine xg_X6_29 Z (hS 60 (by decide) (by decide)) dX6_hour_20 ?_
      refine xj_bipush Z 25 dX6_hour_23 (by decide) ?_
      refine xj_iload_n Z 1 dX6_hour_25 rfl rfl ?_
      refine xj_imul Z dX6_hour_26 ?_
      refine xj_iload Z 4 dX6_hour_27 rfl ?_
      refine xj_iadd Z dX6_hour_29 ?_
      refine xj_iald Z (hS 67 (by decide) (by decide)) rfl dX6_hour_30 (fun _ => ?_)
      refine xj_iload Z 4 dX6_hour_31 rfl ?_
      refine xj_iload_n Z 2 dX6_hour_33 rfl rfl ?_
      refine xj_icmp_ne Z 41 dX6_hour_34 (by decide) (fun _ => ?_) (fun _ => ?_)
      · refine xj_aload_n Z 0 dX6_hour_41 rfl rfl ?_
        refine xj_iload_n Z 1 dX6_hour_42 rfl rfl ?_
        refine xj_iload Z 4 dX6_hour_43 rfl ?_
        refine xj_callVr Z (As := [.int x1, .int x4]) (kX6_pace l D cs S ad Z.2.2.2.2.2.1.dist hS x1 x4 M) gw_X6_126 (hS 60 (by decide) (by decide)) rfl rfl (n := 2) (by decide +kernel) rfl ⟨rfl, rfl⟩ (by decide) rfl (Nat.le_of_ble_eq_true rfl) dX6_hour_45 (fun v7 => ?_)
        exact bX6_hour_48 Z hS x1 x2 x3 x4 (M.1 67 (((25 * x1) + x4)).toNatClampNeg) v7 M ih
      · refine xj_iconst Z 0 dX6_hour_37 (by decide) ?_
        refine xj_goto Z 48 dX6_hour_38 (by decide) ?_
        exact bX6_hour_48 Z hS x1 x2 x3 x4 (M.1 67 (((25 * x1) + x4)).toNatClampNeg) 0 M ih
end
theorem kX6_hour (l : Launch) (D : va_G) (cs : Nat → ClassId) (S : List Nat) (ad : Nat → Nat) (hd : xdist S ad) (hS : xalm S) (x1 : Int32) (x2 : Int32) (M : xm) : ∀ r, fX6_hour x1 x2 M = some r → Met l yX6_hour [Cond.code yX6_hour cX6_hour 6 none] rmX6_hour (XPc D cs S ad [.ref (ad 60), .int x1, .int x2] M) (XQv D cs S ad r) 0 0 (xA S ad) := by
  refine xm_m (own := RX6) (lv := [(0, .ref (ad 60)), (1, .int x1), (2, .int x2)]) (by decide +kernel) rfl rfl (Nat.le_of_ble_eq_true rfl) hd (fun p e s m args below meth c Z => ?_)
  unfold fX6_hour
  refine xj_aload_n Z 0 dX6_hour_0 rfl rfl ?_
  refine xj_callVr Z (As := []) (kX6_end l D cs S ad Z.2.2.2.2.2.1.dist hS M) gw_X6_123 (hS 60 (by decide) (by decide)) rfl rfl (n := 0) (by decide +kernel) rfl ⟨rfl, rfl⟩ (by decide) rfl (Nat.le_of_ble_eq_true rfl) dX6_hour_1 (fun v8 => ?_)
  refine xj_istore_n Z (lv' := [(3, .int v8), (0, .ref (ad 60)), (1, .int x1), (2, .int x2)]) dX6_hour_4 rfl (by decide) rfl ?_
  refine xj_iconst Z 0 dX6_hour_5 (by decide) ?_
  refine xj_istore Z (lv' := [(4, .int 0), (3, .int v8), (0, .ref (ad 60)), (1, .int x1), (2, .int x2)]) dX6_hour_6 (by decide) rfl ?_
  refine xj_sub [2, 3, 4, 1, 0] (lv' := [(0, .ref (ad 60)), (1, .int x1), (2, .int x2), (3, .int v8), (4, .int 0)]) rfl ?_
  exact bX6_hour_8 Z hS x1 x2 v8 xfuel 0 M
/-! WalkingLawModel.atEnd(I)I -/
theorem dX6_atEnd_0 : decode cX6_atEnd 0 = .ok (.iconst 0, 1) := by decide +kernel
theorem dX6_atEnd_1 : decode cX6_atEnd 1 = .ok (.istore_n 2, 1) := by decide +kernel
theorem dX6_atEnd_2 : decode cX6_atEnd 2 = .ok (.iconst 0, 1) := by decide +kernel
theorem dX6_atEnd_3 : decode cX6_atEnd 3 = .ok (.istore_n 3, 1) := by decide +kernel
theorem dX6_atEnd_4 : decode cX6_atEnd 4 = .ok (.iload_n 3, 1) := by decide +kernel
theorem dX6_atEnd_5 : decode cX6_atEnd 5 = .ok (.aload_n 0, 1) := by decide +kernel
theorem dX6_atEnd_6 : decode cX6_atEnd 6 = .ok (.getfield 23, 3) := by decide +kernel
theorem dX6_atEnd_9 : decode cX6_atEnd 9 = .ok (.iconst 0, 1) := by decide +kernel
theorem dX6_atEnd_10 : decode cX6_atEnd 10 = .ok (.iaload, 1) := by decide +kernel
theorem dX6_atEnd_11 : decode cX6_atEnd 11 = .ok (.if_icmp .ge 35, 3) := by decide +kernel
theorem dX6_atEnd_14 : decode cX6_atEnd 14 = .ok (.iload_n 2, 1) := by decide +kernel
theorem dX6_atEnd_15 : decode cX6_atEnd 15 = .ok (.aload_n 0, 1) := by decide +kernel
theorem dX6_atEnd_16 : decode cX6_atEnd 16 = .ok (.getfield 29, 3) := by decide +kernel
theorem dX6_atEnd_19 : decode cX6_atEnd 19 = .ok (.bipush 25, 2) := by decide +kernel
theorem dX6_atEnd_21 : decode cX6_atEnd 21 = .ok (.iload_n 1, 1) := by decide +kernel
theorem dX6_atEnd_22 : decode cX6_atEnd 22 = .ok (.imul, 1) := by decide +kernel
theorem dX6_atEnd_23 : decode cX6_atEnd 23 = .ok (.iload_n 3, 1) := by decide +kernel
theorem dX6_atEnd_24 : decode cX6_atEnd 24 = .ok (.iadd, 1) := by decide +kernel
theorem dX6_atEnd_25 : decode cX6_atEnd 25 = .ok (.iaload, 1) := by decide +kernel
theorem dX6_atEnd_26 : decode cX6_atEnd 26 = .ok (.aload_n 0, 1) := by decide +kernel
theorem dX6_atEnd_27 : decode cX6_atEnd 27 = .ok (.invokevirtual 123, 3) := by decide +kernel
theorem dX6_atEnd_30 : decode cX6_atEnd 30 = .ok (.if_icmp .ne 7, 3) := by decide +kernel
theorem dX6_atEnd_33 : decode cX6_atEnd 33 = .ok (.iconst 1, 1) := by decide +kernel
theorem dX6_atEnd_34 : decode cX6_atEnd 34 = .ok (.goto 4, 3) := by decide +kernel
theorem dX6_atEnd_37 : decode cX6_atEnd 37 = .ok (.iconst 0, 1) := by decide +kernel
theorem dX6_atEnd_38 : decode cX6_atEnd 38 = .ok (.iadd, 1) := by decide +kernel
theorem dX6_atEnd_39 : decode cX6_atEnd 39 = .ok (.istore_n 2, 1) := by decide +kernel
theorem dX6_atEnd_40 : decode cX6_atEnd 40 = .ok (.iinc 3 1, 3) := by decide +kernel
theorem dX6_atEnd_43 : decode cX6_atEnd 43 = .ok (.goto (-39), 3) := by decide +kernel
theorem dX6_atEnd_46 : decode cX6_atEnd 46 = .ok (.iload_n 2, 1) := by decide +kernel
theorem dX6_atEnd_47 : decode cX6_atEnd 47 = .ok (.ireturn, 1) := by decide +kernel
def rmX6_atEnd : Room := { frames := 2, cells := 0, slots := 0, locals := 43 }
def fX6_atEnd_38 (k4 : Int32 → Int32 → Option (Int32)) (x1 : Int32) (x3 : Int32) (t0 : Int32) (t1 : Int32) (M : xm) : Option (Int32) := xl (t0 + t1) (fun v1 => (k4 v1 (x3 + 1)))
def fX6_atEnd_4 (x1 : Int32) (M : xm) : Nat → Int32 → Int32 → Option (Int32)
  | 0, _, _ => none
  | n + 1, x2, x3 => xchk 0 2 ((if (M.1 65 (0 : Int32).toNatClampNeg) ≤ x3 then (some x2) else xchk ((25 * x1) + x3) 100 ((fX6_end M).bind (fun v2 => (if (M.1 67 (((25 * x1) + x3)).toNatClampNeg) = v2 then (fX6_atEnd_38 (fun z0 z1 => fX6_atEnd_4 x1 M n z0 z1) x1 x3 x2 1 M) else (fX6_atEnd_38 (fun z0 z1 => fX6_atEnd_4 x1 M n z0 z1) x1 x3 x2 0 M))))))
def fX6_atEnd (x1 : Int32) (M : xm) : Option (Int32) := (fX6_atEnd_4 x1 M xfuel 0 0)
section
variable {p : Program} {l : Launch} {e : Env} {s : State} {m : MethodId} {args : Array Value} {below : List Frame} {meth : Method} {c : Code} {D : va_G} {cs : Nat → ClassId} {S : List Nat} {ad : Nat → Nat}
theorem bX6_atEnd_38 (Z : CX p s m args meth c cX6_atEnd 4 RX6 (some .int) D cs (xA S ad) S ad) (hS : xalm S) {k4 : Int32 → Int32 → Option (Int32)} (x1 : Int32) (x3 : Int32) (t0 : Int32) (t1 : Int32) (M : xm) (hk4 : ∀ (x2 : Int32) (x3 : Int32), XJ p l e rmX6_atEnd s m args below meth c D cs (xA S ad) S ad 4 (XRr below args s D cs S ad M) 4 [(0, .ref (ad 60)), (1, .int x1), (2, .int x2), (3, .int x3)] [] M (k4 x2 x3)) : XJ p l e rmX6_atEnd s m args below meth c D cs (xA S ad) S ad 4 (XRr below args s D cs S ad M) 38 [(0, .ref (ad 60)), (1, .int x1), (3, .int x3)] [.int t1, .int t0] M (fX6_atEnd_38 k4 x1 x3 t0 t1 M) := by
  unfold fX6_atEnd_38
  refine xj_iadd Z dX6_atEnd_38 ?_
  refine xj_top (fun v1 => ?_)
  refine xj_istore_n Z (lv' := [(2, .int v1), (0, .ref (ad 60)), (1, .int x1), (3, .int x3)]) dX6_atEnd_39 rfl (by decide) rfl ?_
  refine xj_iinc Z 3 (x3 + 1) (lv' := [(3, .int (x3 + 1)), (2, .int v1), (0, .ref (ad 60)), (1, .int x1)]) dX6_atEnd_40 rfl rfl (by decide) rfl ?_
  refine xj_goto Z 4 dX6_atEnd_43 (by decide) ?_
  refine xj_sub [2, 3, 1, 0] (lv' := [(0, .ref (ad 60)), (1, .int x1), (2, .int v1), (3, .int (x3 + 1))]) rfl ?_
  exact hk4 v1 (x3 + 1)
theorem bX6_atEnd_4 (Z : CX p s m args meth c cX6_atEnd 4 RX6 (some .int) D cs (xA S ad) S ad) (hS : xalm S) (x1 : Int32) (M : xm) : ∀ (n : Nat) (x2 : Int32) (x3 : Int32), XJ p l e rmX6_atEnd s m args below meth c D cs (xA S ad) S ad 4 (XRr below args s D cs S ad M) 4 [(0, .ref (ad 60)), (1, .int x1), (2, .int x2), (3, .int x3)] [] M (fX6_atEnd_4 x1 M n x2 x3) := by
  intro n
  induction n with
  | zero => intros; exact xj_none
  | succ n ih =>
    intro x2 x3
    rw [fX6_atEnd_4]
    refine xj_iload_n Z 3 dX6_atEnd_4 rfl rfl ?_
    refine xj_aload_n Z 0 dX6_atEnd_5 rfl rfl ?_
    refine xg_X6_23 Z (hS 60 (by decide) (by decide)) dX6_atEnd_6 ?_
    refine xj_iconst Z 0 dX6_atEnd_9 (by decide) ?_
    refine xj_iald Z (hS 65 (by decide) (by decide)) rfl dX6_atEnd_10 (fun _ => ?_)
    refine xj_icmp_ge Z 46 dX6_atEnd_11 (by decide) (fun _ => ?_) (fun _ => ?_)
    · refine xj_iload_n Z 2 dX6_atEnd_46 rfl rfl ?_
      exact xj_ret_r Z dX6_atEnd_47
    · refine xj_iload_n Z 2 dX6_atEnd_14 rfl rfl ?_
      refine xj_aload_n Z 0 dX6_atEnd_15 rfl rfl ?_
      refine xg_X6_29 Z (hS 60 (by decide) (by decide)) dX6_atEnd_16 ?_
      refine xj_bipush Z 25 dX6_atEnd_19 (by decide) ?_
      refine xj_iload_n Z 1 dX6_atEnd_21 rfl rfl ?_
      refine xj_imul Z dX6_atEnd_22 ?_
      refine xj_iload_n Z 3 dX6_atEnd_23 rfl rfl ?_
      refine xj_iadd Z dX6_atEnd_24 ?_
      refine xj_iald Z (hS 67 (by decide) (by decide)) rfl dX6_atEnd_25 (fun _ => ?_)
      refine xj_aload_n Z 0 dX6_atEnd_26 rfl rfl ?_
      refine xj_callVr Z (As := []) (kX6_end l D cs S ad Z.2.2.2.2.2.1.dist hS M) gw_X6_123 (hS 60 (by decide) (by decide)) rfl rfl (n := 0) (by decide +kernel) rfl ⟨rfl, rfl⟩ (by decide) rfl (Nat.le_of_ble_eq_true rfl) dX6_atEnd_27 (fun v2 => ?_)
      refine xj_icmp_ne Z 37 dX6_atEnd_30 (by decide) (fun _ => ?_) (fun _ => ?_)
      · refine xj_iconst Z 0 dX6_atEnd_37 (by decide) ?_
        refine xj_sub [0, 1, 3] (lv' := [(0, .ref (ad 60)), (1, .int x1), (3, .int x3)]) rfl ?_
        exact bX6_atEnd_38 Z hS x1 x3 x2 0 M ih
      · refine xj_iconst Z 1 dX6_atEnd_33 (by decide) ?_
        refine xj_goto Z 38 dX6_atEnd_34 (by decide) ?_
        refine xj_sub [0, 1, 3] (lv' := [(0, .ref (ad 60)), (1, .int x1), (3, .int x3)]) rfl ?_
        exact bX6_atEnd_38 Z hS x1 x3 x2 1 M ih
end
theorem kX6_atEnd (l : Launch) (D : va_G) (cs : Nat → ClassId) (S : List Nat) (ad : Nat → Nat) (hd : xdist S ad) (hS : xalm S) (x1 : Int32) (M : xm) : ∀ r, fX6_atEnd x1 M = some r → Met l yX6_atEnd [Cond.code yX6_atEnd cX6_atEnd 4 (some .int)] rmX6_atEnd (XPc D cs S ad [.ref (ad 60), .int x1] M) (XQi D cs S ad r M) 0 0 (xA S ad) := by
  refine xm_r (own := RX6) (lv := [(0, .ref (ad 60)), (1, .int x1)]) (by decide +kernel) rfl rfl (Nat.le_of_ble_eq_true rfl) hd (fun p e s m args below meth c Z => ?_)
  unfold fX6_atEnd
  refine xj_iconst Z 0 dX6_atEnd_0 (by decide) ?_
  refine xj_istore_n Z (lv' := [(2, .int 0), (0, .ref (ad 60)), (1, .int x1)]) dX6_atEnd_1 rfl (by decide) rfl ?_
  refine xj_iconst Z 0 dX6_atEnd_2 (by decide) ?_
  refine xj_istore_n Z (lv' := [(3, .int 0), (2, .int 0), (0, .ref (ad 60)), (1, .int x1)]) dX6_atEnd_3 rfl (by decide) rfl ?_
  refine xj_sub [2, 3, 1, 0] (lv' := [(0, .ref (ad 60)), (1, .int x1), (2, .int 0), (3, .int 0)]) rfl ?_
  exact bX6_atEnd_4 Z hS x1 M xfuel 0 0
/-! WalkingLawModel.hours(I)I -/
theorem dX6_hours_0 : decode cX6_hours 0 = .ok (.iload_n 1, 1) := by decide +kernel
theorem dX6_hours_1 : decode cX6_hours 1 = .ok (.i2l, 1) := by decide +kernel
theorem dX6_hours_2 : decode cX6_hours 2 = .ok (.lconst 1, 1) := by decide +kernel
theorem dX6_hours_3 : decode cX6_hours 3 = .ok (.ldc2_w 138, 3) := by decide +kernel
theorem dX6_hours_6 : decode cX6_hours 6 = .ok (.invokestatic 56, 3) := by decide +kernel
theorem dX6_hours_9 : decode cX6_hours 9 = .ok (.ifCond .ne 5, 3) := by decide +kernel
theorem dX6_hours_12 : decode cX6_hours 12 = .ok (.iconst (-1), 1) := by decide +kernel
theorem dX6_hours_13 : decode cX6_hours 13 = .ok (.ireturn, 1) := by decide +kernel
theorem dX6_hours_14 : decode cX6_hours 14 = .ok (.aload_n 0, 1) := by decide +kernel
theorem dX6_hours_15 : decode cX6_hours 15 = .ok (.getfield 29, 3) := by decide +kernel
theorem dX6_hours_18 : decode cX6_hours 18 = .ok (.bipush 24, 2) := by decide +kernel
theorem dX6_hours_20 : decode cX6_hours 20 = .ok (.iaload, 1) := by decide +kernel
theorem dX6_hours_21 : decode cX6_hours 21 = .ok (.iload_n 1, 1) := by decide +kernel
theorem dX6_hours_22 : decode cX6_hours 22 = .ok (.iadd, 1) := by decide +kernel
theorem dX6_hours_23 : decode cX6_hours 23 = .ok (.sipush 9999, 3) := by decide +kernel
theorem dX6_hours_26 : decode cX6_hours 26 = .ok (.if_icmp .le 6, 3) := by decide +kernel
theorem dX6_hours_29 : decode cX6_hours 29 = .ok (.bipush (-2), 2) := by decide +kernel
theorem dX6_hours_31 : decode cX6_hours 31 = .ok (.ireturn, 1) := by decide +kernel
theorem dX6_hours_32 : decode cX6_hours 32 = .ok (.iconst 0, 1) := by decide +kernel
theorem dX6_hours_33 : decode cX6_hours 33 = .ok (.istore_n 2, 1) := by decide +kernel
theorem dX6_hours_34 : decode cX6_hours 34 = .ok (.iload_n 2, 1) := by decide +kernel
theorem dX6_hours_35 : decode cX6_hours 35 = .ok (.iload_n 1, 1) := by decide +kernel
theorem dX6_hours_36 : decode cX6_hours 36 = .ok (.if_icmp .ge 15, 3) := by decide +kernel
theorem dX6_hours_39 : decode cX6_hours 39 = .ok (.aload_n 0, 1) := by decide +kernel
theorem dX6_hours_40 : decode cX6_hours 40 = .ok (.iconst 0, 1) := by decide +kernel
theorem dX6_hours_41 : decode cX6_hours 41 = .ok (.iconst (-1), 1) := by decide +kernel
theorem dX6_hours_42 : decode cX6_hours 42 = .ok (.invokevirtual 140, 3) := by decide +kernel
theorem dX6_hours_45 : decode cX6_hours 45 = .ok (.iinc 2 1, 3) := by decide +kernel
theorem dX6_hours_48 : decode cX6_hours 48 = .ok (.goto (-14), 3) := by decide +kernel
theorem dX6_hours_51 : decode cX6_hours 51 = .ok (.aload_n 0, 1) := by decide +kernel
theorem dX6_hours_52 : decode cX6_hours 52 = .ok (.iconst 0, 1) := by decide +kernel
theorem dX6_hours_53 : decode cX6_hours 53 = .ok (.invokevirtual 144, 3) := by decide +kernel
theorem dX6_hours_56 : decode cX6_hours 56 = .ok (.ireturn, 1) := by decide +kernel
def rmX6_hours : Room := { frames := 5, cells := 0, slots := 0, locals := 122 }
def fX6_hours_34 (x1 : Int32) : Nat → Int32 → xm → Option (Int32 × xm)
  | 0, _, _ => none
  | n + 1, x2, M => (if x1 ≤ x2 then (fX6_atEnd 0 M).bind (fun v1 => (some (v1, M))) else (fX6_hour 0 (-1) M).bind (fun M2 => (fX6_hours_34 x1 n (x2 + 1) M2)))
def fX6_hours (x1 : Int32) (M : xm) : Option (Int32 × xm) := (fX6_in (Int32.toInt64 x1) 1 99 M).bind (fun v3 => (if v3 = 0 then (some ((-1), M)) else xchk 24 100 ((if ((M.1 67 (24 : Int32).toNatClampNeg) + x1) ≤ 9999 then (fX6_hours_34 x1 xfuel 0 M) else (some ((-2), M))))))
section
variable {p : Program} {l : Launch} {e : Env} {s : State} {m : MethodId} {args : Array Value} {below : List Frame} {meth : Method} {c : Code} {D : va_G} {cs : Nat → ClassId} {S : List Nat} {ad : Nat → Nat}
theorem bX6_hours_34 (Z : CX p s m args meth c cX6_hours 3 RX6 (some .int) D cs (xA S ad) S ad) (hS : xalm S) (x1 : Int32) : ∀ (n : Nat) (x2 : Int32) (M : xm), XJ p l e rmX6_hours s m args below meth c D cs (xA S ad) S ad 3 (XRb below args s D cs S ad) 34 [(0, .ref (ad 60)), (1, .int x1), (2, .int x2)] [] M (fX6_hours_34 x1 n x2 M) := by
  intro n
  induction n with
  | zero => intros; exact xj_none
  | succ n ih =>
    intro x2 M
    rw [fX6_hours_34]
    refine xj_iload_n Z 2 dX6_hours_34 rfl rfl ?_
    refine xj_iload_n Z 1 dX6_hours_35 rfl rfl ?_
    refine xj_icmp_ge Z 51 dX6_hours_36 (by decide) (fun _ => ?_) (fun _ => ?_)
    · refine xj_aload_n Z 0 dX6_hours_51 rfl rfl ?_
      refine xj_iconst Z 0 dX6_hours_52 (by decide) ?_
      refine xj_callVr Z (As := [.int 0]) (kX6_atEnd l D cs S ad Z.2.2.2.2.2.1.dist hS 0 M) gw_X6_144 (hS 60 (by decide) (by decide)) rfl rfl (n := 1) (by decide +kernel) rfl ⟨rfl, rfl⟩ (by decide) rfl (Nat.le_of_ble_eq_true rfl) dX6_hours_53 (fun v1 => ?_)
      exact xj_ret_b Z dX6_hours_56
    · refine xj_aload_n Z 0 dX6_hours_39 rfl rfl ?_
      refine xj_iconst Z 0 dX6_hours_40 (by decide) ?_
      refine xj_iconst Z (-1) dX6_hours_41 (by decide) ?_
      refine xj_callVm Z (As := [.int 0, .int (-1)]) (kX6_hour l D cs S ad Z.2.2.2.2.2.1.dist hS 0 (-1) M) gw_X6_140 (hS 60 (by decide) (by decide)) rfl rfl (n := 2) (by decide +kernel) rfl ⟨rfl, rfl⟩ (by decide) rfl (Nat.le_of_ble_eq_true rfl) dX6_hours_42 (fun M2 => ?_)
      refine xj_iinc Z 2 (x2 + 1) (lv' := [(2, .int (x2 + 1)), (0, .ref (ad 60)), (1, .int x1)]) dX6_hours_45 rfl rfl (by decide) rfl ?_
      refine xj_goto Z 34 dX6_hours_48 (by decide) ?_
      refine xj_sub [1, 2, 0] (lv' := [(0, .ref (ad 60)), (1, .int x1), (2, .int (x2 + 1))]) rfl ?_
      exact ih (x2 + 1) M2
end
theorem kX6_hours (l : Launch) (D : va_G) (cs : Nat → ClassId) (S : List Nat) (ad : Nat → Nat) (hd : xdist S ad) (hS : xalm S) (x1 : Int32) (M : xm) : ∀ r, fX6_hours x1 M = some r → Met l yX6_hours [Cond.code yX6_hours cX6_hours 3 (some .int)] rmX6_hours (XPc D cs S ad [.ref (ad 60), .int x1] M) (XQi D cs S ad r.1 r.2) 0 0 (xA S ad) := by
  refine xm_b (own := RX6) (lv := [(0, .ref (ad 60)), (1, .int x1)]) (by decide +kernel) rfl rfl (Nat.le_of_ble_eq_true rfl) hd (fun p e s m args below meth c Z => ?_)
  unfold fX6_hours
  refine xj_iload_n Z 1 dX6_hours_0 rfl rfl ?_
  refine xj_i2l Z dX6_hours_1 ?_
  refine xj_lconst Z 1 dX6_hours_2 (by decide) ?_
  refine xj_ldc2 Z dX6_hours_3 xb_487 ?_
  refine xj_callSr Z (As := [.long (Int32.toInt64 x1), .long 1, .long 99]) (kX6_in l D cs S ad Z.2.2.2.2.2.1.dist (Int32.toInt64 x1) 1 99 M) gw_X6_56 (n := 3) (by decide +kernel) rfl ⟨rfl, rfl⟩ (by decide) rfl (Nat.le_of_ble_eq_true rfl) dX6_hours_6 (fun v3 => ?_)
  refine xj_if_ne Z 14 dX6_hours_9 (by decide) (fun _ => ?_) (fun _ => ?_)
  · refine xj_aload_n Z 0 dX6_hours_14 rfl rfl ?_
    refine xg_X6_29 Z (hS 60 (by decide) (by decide)) dX6_hours_15 ?_
    refine xj_bipush Z 24 dX6_hours_18 (by decide) ?_
    refine xj_iald Z (hS 67 (by decide) (by decide)) rfl dX6_hours_20 (fun _ => ?_)
    refine xj_iload_n Z 1 dX6_hours_21 rfl rfl ?_
    refine xj_iadd Z dX6_hours_22 ?_
    refine xj_sipush Z 9999 dX6_hours_23 (by decide) ?_
    refine xj_icmp_le Z 32 dX6_hours_26 (by decide) (fun _ => ?_) (fun _ => ?_)
    · refine xj_iconst Z 0 dX6_hours_32 (by decide) ?_
      refine xj_istore_n Z (lv' := [(2, .int 0), (0, .ref (ad 60)), (1, .int x1)]) dX6_hours_33 rfl (by decide) rfl ?_
      refine xj_sub [1, 2, 0] (lv' := [(0, .ref (ad 60)), (1, .int x1), (2, .int 0)]) rfl ?_
      exact bX6_hours_34 Z hS x1 xfuel 0 M
    · refine xj_bipush Z (-2) dX6_hours_29 (by decide) ?_
      exact xj_ret_b Z dX6_hours_31
  · refine xj_iconst Z (-1) dX6_hours_12 (by decide) ?_
    exact xj_ret_b Z dX6_hours_13
/-! WalkingLawModel.passes(IIII)Z -/
theorem dX6_passes_0 : decode cX6_passes 0 = .ok (.aload_n 0, 1) := by decide +kernel
theorem dX6_passes_1 : decode cX6_passes 1 = .ok (.iload_n 1, 1) := by decide +kernel
theorem dX6_passes_2 : decode cX6_passes 2 = .ok (.iload_n 2, 1) := by decide +kernel
theorem dX6_passes_3 : decode cX6_passes 3 = .ok (.invokevirtual 114, 3) := by decide +kernel
theorem dX6_passes_6 : decode cX6_passes 6 = .ok (.istore 5, 2) := by decide +kernel
theorem dX6_passes_8 : decode cX6_passes 8 = .ok (.aload_n 0, 1) := by decide +kernel
theorem dX6_passes_9 : decode cX6_passes 9 = .ok (.iload 4, 2) := by decide +kernel
theorem dX6_passes_11 : decode cX6_passes 11 = .ok (.putfield 147, 3) := by decide +kernel
theorem dX6_passes_14 : decode cX6_passes 14 = .ok (.aload_n 0, 1) := by decide +kernel
theorem dX6_passes_15 : decode cX6_passes 15 = .ok (.iconst 0, 1) := by decide +kernel
theorem dX6_passes_16 : decode cX6_passes 16 = .ok (.putfield 150, 3) := by decide +kernel
theorem dX6_passes_19 : decode cX6_passes 19 = .ok (.iconst (-1), 1) := by decide +kernel
theorem dX6_passes_20 : decode cX6_passes 20 = .ok (.istore 6, 2) := by decide +kernel
theorem dX6_passes_22 : decode cX6_passes 22 = .ok (.iconst 0, 1) := by decide +kernel
theorem dX6_passes_23 : decode cX6_passes 23 = .ok (.istore 7, 2) := by decide +kernel
theorem dX6_passes_25 : decode cX6_passes 25 = .ok (.iload 7, 2) := by decide +kernel
theorem dX6_passes_27 : decode cX6_passes 27 = .ok (.aload_n 0, 1) := by decide +kernel
theorem dX6_passes_28 : decode cX6_passes 28 = .ok (.getfield 23, 3) := by decide +kernel
theorem dX6_passes_31 : decode cX6_passes 31 = .ok (.iconst 0, 1) := by decide +kernel
theorem dX6_passes_32 : decode cX6_passes 32 = .ok (.iaload, 1) := by decide +kernel
theorem dX6_passes_33 : decode cX6_passes 33 = .ok (.if_icmp .ge 49, 3) := by decide +kernel
theorem dX6_passes_36 : decode cX6_passes 36 = .ok (.iload 6, 2) := by decide +kernel
theorem dX6_passes_38 : decode cX6_passes 38 = .ok (.ifCond .ge 34, 3) := by decide +kernel
theorem dX6_passes_41 : decode cX6_passes 41 = .ok (.iload 5, 2) := by decide +kernel
theorem dX6_passes_43 : decode cX6_passes 43 = .ok (.iload 7, 2) := by decide +kernel
theorem dX6_passes_45 : decode cX6_passes 45 = .ok (.ishr, 1) := by decide +kernel
theorem dX6_passes_46 : decode cX6_passes 46 = .ok (.iconst 1, 1) := by decide +kernel
theorem dX6_passes_47 : decode cX6_passes 47 = .ok (.iand, 1) := by decide +kernel
theorem dX6_passes_48 : decode cX6_passes 48 = .ok (.iconst 1, 1) := by decide +kernel
theorem dX6_passes_49 : decode cX6_passes 49 = .ok (.if_icmp .ne 23, 3) := by decide +kernel
theorem dX6_passes_52 : decode cX6_passes 52 = .ok (.aload_n 0, 1) := by decide +kernel
theorem dX6_passes_53 : decode cX6_passes 53 = .ok (.getfield 26, 3) := by decide +kernel
theorem dX6_passes_56 : decode cX6_passes 56 = .ok (.iconst 3, 1) := by decide +kernel
theorem dX6_passes_57 : decode cX6_passes 57 = .ok (.iload 7, 2) := by decide +kernel
theorem dX6_passes_59 : decode cX6_passes 59 = .ok (.imul, 1) := by decide +kernel
theorem dX6_passes_60 : decode cX6_passes 60 = .ok (.iconst 0, 1) := by decide +kernel
theorem dX6_passes_61 : decode cX6_passes 61 = .ok (.iadd, 1) := by decide +kernel
theorem dX6_passes_62 : decode cX6_passes 62 = .ok (.iaload, 1) := by decide +kernel
theorem dX6_passes_63 : decode cX6_passes 63 = .ok (.iconst 4, 1) := by decide +kernel
theorem dX6_passes_64 : decode cX6_passes 64 = .ok (.if_icmp .eq 8, 3) := by decide +kernel
theorem dX6_passes_67 : decode cX6_passes 67 = .ok (.iload 7, 2) := by decide +kernel
theorem dX6_passes_69 : decode cX6_passes 69 = .ok (.goto 5, 3) := by decide +kernel
theorem dX6_passes_72 : decode cX6_passes 72 = .ok (.iload 6, 2) := by decide +kernel
theorem dX6_passes_74 : decode cX6_passes 74 = .ok (.istore 6, 2) := by decide +kernel
theorem dX6_passes_76 : decode cX6_passes 76 = .ok (.iinc 7 1, 3) := by decide +kernel
theorem dX6_passes_79 : decode cX6_passes 79 = .ok (.goto (-54), 3) := by decide +kernel
theorem dX6_passes_82 : decode cX6_passes 82 = .ok (.iconst 0, 1) := by decide +kernel
theorem dX6_passes_83 : decode cX6_passes 83 = .ok (.istore 7, 2) := by decide +kernel
theorem dX6_passes_85 : decode cX6_passes 85 = .ok (.iload 7, 2) := by decide +kernel
theorem dX6_passes_87 : decode cX6_passes 87 = .ok (.aload_n 0, 1) := by decide +kernel
theorem dX6_passes_88 : decode cX6_passes 88 = .ok (.getfield 23, 3) := by decide +kernel
theorem dX6_passes_91 : decode cX6_passes 91 = .ok (.iconst 0, 1) := by decide +kernel
theorem dX6_passes_92 : decode cX6_passes 92 = .ok (.iaload, 1) := by decide +kernel
theorem dX6_passes_93 : decode cX6_passes 93 = .ok (.if_icmp .ge 167, 3) := by decide +kernel
theorem dX6_passes_96 : decode cX6_passes 96 = .ok (.aload_n 0, 1) := by decide +kernel
theorem dX6_passes_97 : decode cX6_passes 97 = .ok (.getfield 26, 3) := by decide +kernel
theorem dX6_passes_100 : decode cX6_passes 100 = .ok (.iconst 3, 1) := by decide +kernel
theorem dX6_passes_101 : decode cX6_passes 101 = .ok (.iload 7, 2) := by decide +kernel
theorem dX6_passes_103 : decode cX6_passes 103 = .ok (.imul, 1) := by decide +kernel
theorem dX6_passes_104 : decode cX6_passes 104 = .ok (.iconst 0, 1) := by decide +kernel
theorem dX6_passes_105 : decode cX6_passes 105 = .ok (.iadd, 1) := by decide +kernel
theorem dX6_passes_106 : decode cX6_passes 106 = .ok (.iaload, 1) := by decide +kernel
theorem dX6_passes_107 : decode cX6_passes 107 = .ok (.istore 8, 2) := by decide +kernel
theorem dX6_passes_109 : decode cX6_passes 109 = .ok (.iload 5, 2) := by decide +kernel
theorem dX6_passes_111 : decode cX6_passes 111 = .ok (.iload 7, 2) := by decide +kernel
theorem dX6_passes_113 : decode cX6_passes 113 = .ok (.ishr, 1) := by decide +kernel
theorem dX6_passes_114 : decode cX6_passes 114 = .ok (.iconst 1, 1) := by decide +kernel
theorem dX6_passes_115 : decode cX6_passes 115 = .ok (.iand, 1) := by decide +kernel
theorem dX6_passes_116 : decode cX6_passes 116 = .ok (.ifCond .eq 138, 3) := by decide +kernel
theorem dX6_passes_119 : decode cX6_passes 119 = .ok (.iload 8, 2) := by decide +kernel
theorem dX6_passes_121 : decode cX6_passes 121 = .ok (.iconst 5, 1) := by decide +kernel
theorem dX6_passes_122 : decode cX6_passes 122 = .ok (.if_icmp .eq 132, 3) := by decide +kernel
theorem dX6_passes_125 : decode cX6_passes 125 = .ok (.iload 8, 2) := by decide +kernel
theorem dX6_passes_127 : decode cX6_passes 127 = .ok (.iconst 4, 1) := by decide +kernel
theorem dX6_passes_128 : decode cX6_passes 128 = .ok (.if_icmp .ne 16, 3) := by decide +kernel
theorem dX6_passes_131 : decode cX6_passes 131 = .ok (.iload 6, 2) := by decide +kernel
theorem dX6_passes_133 : decode cX6_passes 133 = .ok (.ifCond .ge 11, 3) := by decide +kernel
theorem dX6_passes_136 : decode cX6_passes 136 = .ok (.iload 4, 2) := by decide +kernel
theorem dX6_passes_138 : decode cX6_passes 138 = .ok (.ifCond .ne 6, 3) := by decide +kernel
theorem dX6_passes_141 : decode cX6_passes 141 = .ok (.goto 113, 3) := by decide +kernel
theorem dX6_passes_144 : decode cX6_passes 144 = .ok (.iload 8, 2) := by decide +kernel
theorem dX6_passes_146 : decode cX6_passes 146 = .ok (.iconst 3, 1) := by decide +kernel
theorem dX6_passes_147 : decode cX6_passes 147 = .ok (.if_icmp .ne 17, 3) := by decide +kernel
theorem dX6_passes_150 : decode cX6_passes 150 = .ok (.iload_n 2, 1) := by decide +kernel
theorem dX6_passes_151 : decode cX6_passes 151 = .ok (.iconst 2, 1) := by decide +kernel
theorem dX6_passes_152 : decode cX6_passes 152 = .ok (.irem, 1) := by decide +kernel
theorem dX6_passes_153 : decode cX6_passes 153 = .ok (.ifCond .ne 7, 3) := by decide +kernel
theorem dX6_passes_156 : decode cX6_passes 156 = .ok (.iconst 1, 1) := by decide +kernel
theorem dX6_passes_157 : decode cX6_passes 157 = .ok (.goto 57, 3) := by decide +kernel
theorem dX6_passes_160 : decode cX6_passes 160 = .ok (.iconst 0, 1) := by decide +kernel
theorem dX6_passes_161 : decode cX6_passes 161 = .ok (.goto 53, 3) := by decide +kernel
theorem dX6_passes_164 : decode cX6_passes 164 = .ok (.iload 8, 2) := by decide +kernel
theorem dX6_passes_166 : decode cX6_passes 166 = .ok (.iconst 4, 1) := by decide +kernel
theorem dX6_passes_167 : decode cX6_passes 167 = .ok (.if_icmp .ne 8, 3) := by decide +kernel
theorem dX6_passes_170 : decode cX6_passes 170 = .ok (.iload 6, 2) := by decide +kernel
theorem dX6_passes_172 : decode cX6_passes 172 = .ok (.ifCond .lt 37, 3) := by decide +kernel
theorem dX6_passes_175 : decode cX6_passes 175 = .ok (.aload_n 0, 1) := by decide +kernel
theorem dX6_passes_176 : decode cX6_passes 176 = .ok (.getfield 29, 3) := by decide +kernel
theorem dX6_passes_179 : decode cX6_passes 179 = .ok (.bipush 25, 2) := by decide +kernel
theorem dX6_passes_181 : decode cX6_passes 181 = .ok (.iload_n 1, 1) := by decide +kernel
theorem dX6_passes_182 : decode cX6_passes 182 = .ok (.imul, 1) := by decide +kernel
theorem dX6_passes_183 : decode cX6_passes 183 = .ok (.bipush 8, 2) := by decide +kernel
theorem dX6_passes_185 : decode cX6_passes 185 = .ok (.iadd, 1) := by decide +kernel
theorem dX6_passes_186 : decode cX6_passes 186 = .ok (.iload 8, 2) := by decide +kernel
theorem dX6_passes_188 : decode cX6_passes 188 = .ok (.iconst 4, 1) := by decide +kernel
theorem dX6_passes_189 : decode cX6_passes 189 = .ok (.if_icmp .ne 8, 3) := by decide +kernel
theorem dX6_passes_192 : decode cX6_passes 192 = .ok (.iload 6, 2) := by decide +kernel
theorem dX6_passes_194 : decode cX6_passes 194 = .ok (.goto 5, 3) := by decide +kernel
theorem dX6_passes_197 : decode cX6_passes 197 = .ok (.iload 7, 2) := by decide +kernel
theorem dX6_passes_199 : decode cX6_passes 199 = .ok (.iadd, 1) := by decide +kernel
theorem dX6_passes_200 : decode cX6_passes 200 = .ok (.iaload, 1) := by decide +kernel
theorem dX6_passes_201 : decode cX6_passes 201 = .ok (.iload_n 3, 1) := by decide +kernel
theorem dX6_passes_202 : decode cX6_passes 202 = .ok (.ishr, 1) := by decide +kernel
theorem dX6_passes_203 : decode cX6_passes 203 = .ok (.iconst 1, 1) := by decide +kernel
theorem dX6_passes_204 : decode cX6_passes 204 = .ok (.iand, 1) := by decide +kernel
theorem dX6_passes_205 : decode cX6_passes 205 = .ok (.iconst 1, 1) := by decide +kernel
theorem dX6_passes_206 : decode cX6_passes 206 = .ok (.if_icmp .ne 7, 3) := by decide +kernel
theorem dX6_passes_209 : decode cX6_passes 209 = .ok (.iconst 1, 1) := by decide +kernel
theorem dX6_passes_210 : decode cX6_passes 210 = .ok (.goto 4, 3) := by decide +kernel
theorem dX6_passes_213 : decode cX6_passes 213 = .ok (.iconst 0, 1) := by decide +kernel
theorem dX6_passes_214 : decode cX6_passes 214 = .ok (.istore 9, 2) := by decide +kernel
theorem dX6_passes_216 : decode cX6_passes 216 = .ok (.aload_n 0, 1) := by decide +kernel
theorem dX6_passes_217 : decode cX6_passes 217 = .ok (.dup, 1) := by decide +kernel
theorem dX6_passes_218 : decode cX6_passes 218 = .ok (.getfield 147, 3) := by decide +kernel
theorem dX6_passes_221 : decode cX6_passes 221 = .ok (.iload 9, 2) := by decide +kernel
theorem dX6_passes_223 : decode cX6_passes 223 = .ok (.ifCond .eq 7, 3) := by decide +kernel
theorem dX6_passes_226 : decode cX6_passes 226 = .ok (.iconst 1, 1) := by decide +kernel
theorem dX6_passes_227 : decode cX6_passes 227 = .ok (.goto 4, 3) := by decide +kernel
theorem dX6_passes_230 : decode cX6_passes 230 = .ok (.iconst 0, 1) := by decide +kernel
theorem dX6_passes_231 : decode cX6_passes 231 = .ok (.iadd, 1) := by decide +kernel
theorem dX6_passes_232 : decode cX6_passes 232 = .ok (.putfield 147, 3) := by decide +kernel
theorem dX6_passes_235 : decode cX6_passes 235 = .ok (.aload_n 0, 1) := by decide +kernel
theorem dX6_passes_236 : decode cX6_passes 236 = .ok (.dup, 1) := by decide +kernel
theorem dX6_passes_237 : decode cX6_passes 237 = .ok (.getfield 150, 3) := by decide +kernel
theorem dX6_passes_240 : decode cX6_passes 240 = .ok (.iload 9, 2) := by decide +kernel
theorem dX6_passes_242 : decode cX6_passes 242 = .ok (.ifCond .eq 7, 3) := by decide +kernel
theorem dX6_passes_245 : decode cX6_passes 245 = .ok (.iconst 0, 1) := by decide +kernel
theorem dX6_passes_246 : decode cX6_passes 246 = .ok (.goto 4, 3) := by decide +kernel
theorem dX6_passes_249 : decode cX6_passes 249 = .ok (.iconst 1, 1) := by decide +kernel
theorem dX6_passes_250 : decode cX6_passes 250 = .ok (.iadd, 1) := by decide +kernel
theorem dX6_passes_251 : decode cX6_passes 251 = .ok (.putfield 150, 3) := by decide +kernel
theorem dX6_passes_254 : decode cX6_passes 254 = .ok (.iinc 7 1, 3) := by decide +kernel
theorem dX6_passes_257 : decode cX6_passes 257 = .ok (.goto (-172), 3) := by decide +kernel
theorem dX6_passes_260 : decode cX6_passes 260 = .ok (.aload_n 0, 1) := by decide +kernel
theorem dX6_passes_261 : decode cX6_passes 261 = .ok (.getfield 147, 3) := by decide +kernel
theorem dX6_passes_264 : decode cX6_passes 264 = .ok (.aload_n 0, 1) := by decide +kernel
theorem dX6_passes_265 : decode cX6_passes 265 = .ok (.getfield 150, 3) := by decide +kernel
theorem dX6_passes_268 : decode cX6_passes 268 = .ok (.if_icmp .le 24, 3) := by decide +kernel
theorem dX6_passes_271 : decode cX6_passes 271 = .ok (.iload 5, 2) := by decide +kernel
theorem dX6_passes_273 : decode cX6_passes 273 = .ok (.invokestatic 135, 3) := by decide +kernel
theorem dX6_passes_276 : decode cX6_passes 276 = .ok (.iload 4, 2) := by decide +kernel
theorem dX6_passes_278 : decode cX6_passes 278 = .ok (.iadd, 1) := by decide +kernel
theorem dX6_passes_279 : decode cX6_passes 279 = .ok (.aload_n 0, 1) := by decide +kernel
theorem dX6_passes_280 : decode cX6_passes 280 = .ok (.getfield 13, 3) := by decide +kernel
theorem dX6_passes_283 : decode cX6_passes 283 = .ok (.iconst 0, 1) := by decide +kernel
theorem dX6_passes_284 : decode cX6_passes 284 = .ok (.iaload, 1) := by decide +kernel
theorem dX6_passes_285 : decode cX6_passes 285 = .ok (.if_icmp .lt 7, 3) := by decide +kernel
theorem dX6_passes_288 : decode cX6_passes 288 = .ok (.iconst 1, 1) := by decide +kernel
theorem dX6_passes_289 : decode cX6_passes 289 = .ok (.goto 4, 3) := by decide +kernel
theorem dX6_passes_292 : decode cX6_passes 292 = .ok (.iconst 0, 1) := by decide +kernel
theorem dX6_passes_293 : decode cX6_passes 293 = .ok (.ireturn, 1) := by decide +kernel
def rmX6_passes : Room := { frames := 3, cells := 0, slots := 0, locals := 69 }
def fX6_passes_74 (k25 : Int32 → Int32 → Option (Int32 × xm)) (x1 : Int32) (x2 : Int32) (x3 : Int32) (x4 : Int32) (x5 : Int32) (x7 : Int32) (t0 : Int32) (M : xm) : Option (Int32 × xm) := (k25 t0 (x7 + 1))
def fX6_passes_72 (k25 : Int32 → Int32 → Option (Int32 × xm)) (x1 : Int32) (x2 : Int32) (x3 : Int32) (x4 : Int32) (x5 : Int32) (x6 : Int32) (x7 : Int32) (M : xm) : Option (Int32 × xm) := (fX6_passes_74 (k25) x1 x2 x3 x4 x5 x7 x6 M)
def fX6_passes_254 (k85 : Int32 → xm → Option (Int32 × xm)) (x1 : Int32) (x2 : Int32) (x3 : Int32) (x4 : Int32) (x5 : Int32) (x6 : Int32) (x7 : Int32) (M : xm) : Option (Int32 × xm) := (k85 (x7 + 1) M)
def fX6_passes_250 (k85 : Int32 → xm → Option (Int32 × xm)) (x1 : Int32) (x2 : Int32) (x3 : Int32) (x4 : Int32) (x5 : Int32) (x6 : Int32) (x7 : Int32) (t1 : Int32) (t2 : Int32) (M : xm) : Option (Int32 × xm) := xl (up M 60 18 (t1 + t2)) (fun M1 => (fX6_passes_254 (k85) x1 x2 x3 x4 x5 x6 x7 M1))
def fX6_passes_231 (k85 : Int32 → xm → Option (Int32 × xm)) (x1 : Int32) (x2 : Int32) (x3 : Int32) (x4 : Int32) (x5 : Int32) (x6 : Int32) (x7 : Int32) (x9 : Int32) (t1 : Int32) (t2 : Int32) (M : xm) : Option (Int32 × xm) := xl (up M 60 17 (t1 + t2)) (fun M2 => (if x9 = 0 then (fX6_passes_250 (k85) x1 x2 x3 x4 x5 x6 x7 (M2.1 60 18) 1 M2) else (fX6_passes_250 (k85) x1 x2 x3 x4 x5 x6 x7 (M2.1 60 18) 0 M2)))
def fX6_passes_214 (k85 : Int32 → xm → Option (Int32 × xm)) (x1 : Int32) (x2 : Int32) (x3 : Int32) (x4 : Int32) (x5 : Int32) (x6 : Int32) (x7 : Int32) (t0 : Int32) (M : xm) : Option (Int32 × xm) := (if t0 = 0 then (fX6_passes_231 (k85) x1 x2 x3 x4 x5 x6 x7 t0 (M.1 60 17) 0 M) else (fX6_passes_231 (k85) x1 x2 x3 x4 x5 x6 x7 t0 (M.1 60 17) 1 M))
def fX6_passes_209 (k85 : Int32 → xm → Option (Int32 × xm)) (x1 : Int32) (x2 : Int32) (x3 : Int32) (x4 : Int32) (x5 : Int32) (x6 : Int32) (x7 : Int32) (M : xm) : Option (Int32 × xm) := (fX6_passes_214 (k85) x1 x2 x3 x4 x5 x6 x7 1 M)
def fX6_passes_199 (k85 : Int32 → xm → Option (Int32 × xm)) (x1 : Int32) (x2 : Int32) (x3 : Int32) (x4 : Int32) (x5 : Int32) (x6 : Int32) (x7 : Int32) (t1 : Int32) (t2 : Int32) (M : xm) : Option (Int32 × xm) := xchk (t1 + t2) 100 ((if (((M.1 67 ((t1 + t2)).toNatClampNeg) >>> (x3 &&& 31)) &&& 1) = 1 then (fX6_passes_209 (k85) x1 x2 x3 x4 x5 x6 x7 M) else (fX6_passes_214 (k85) x1 x2 x3 x4 x5 x6 x7 0 M)))
def fX6_passes_175 (k85 : Int32 → xm → Option (Int32 × xm)) (x1 : Int32) (x2 : Int32) (x3 : Int32) (x4 : Int32) (x5 : Int32) (x6 : Int32) (x7 : Int32) (x8 : Int32) (M : xm) : Option (Int32 × xm) := (if x8 = 4 then (fX6_passes_199 (k85) x1 x2 x3 x4 x5 x6 x7 ((25 * x1) + 8) x6 M) else (fX6_passes_199 (k85) x1 x2 x3 x4 x5 x6 x7 ((25 * x1) + 8) x7 M))
def fX6_passes_144 (k85 : Int32 → xm → Option (Int32 × xm)) (x1 : Int32) (x2 : Int32) (x3 : Int32) (x4 : Int32) (x5 : Int32) (x6 : Int32) (x7 : Int32) (x8 : Int32) (M : xm) : Option (Int32 × xm) := (if x8 = 3 then (if (x2 - x2 / 2 * 2) = 0 then (fX6_passes_214 (k85) x1 x2 x3 x4 x5 x6 x7 1 M) else (fX6_passes_214 (k85) x1 x2 x3 x4 x5 x6 x7 0 M)) else (if x8 = 4 then (if x6 < 0 then (fX6_passes_209 (k85) x1 x2 x3 x4 x5 x6 x7 M) else (fX6_passes_175 (k85) x1 x2 x3 x4 x5 x6 x7 x8 M)) else (fX6_passes_175 (k85) x1 x2 x3 x4 x5 x6 x7 x8 M)))
def fX6_passes_293 (t0 : Int32) (M : xm) : Option (Int32 × xm) := (xbo t0 (some (t0, M)))
def fX6_passes_292 (M : xm) : Option (Int32 × xm) := (fX6_passes_293 0 M)
def fX6_passes_85 (x1 : Int32) (x2 : Int32) (x3 : Int32) (x4 : Int32) (x5 : Int32) (x6 : Int32) : Nat → Int32 → xm → Option (Int32 × xm)
  | 0, _, _ => none
  | n + 1, x7, M => xchk 0 2 ((if (M.1 65 (0 : Int32).toNatClampNeg) ≤ x7 then (if (M.1 60 17) ≤ (M.1 60 18) then (fX6_passes_292 M) else (fX6_many x5 M).bind (fun v3 => xchk 0 4 ((if (v3 + x4) < (M.1 62 (0 : Int32).toNatClampNeg) then (fX6_passes_292 M) else (fX6_passes_293 1 M))))) else xchk ((3 * x7) + 0) 48 (xl (M.1 66 (((3 * x7) + 0)).toNatClampNeg) (fun v4 => (if ((x5 >>> (x7 &&& 31)) &&& 1) = 0 then (fX6_passes_254 (fun z0 z1 => fX6_passes_85 x1 x2 x3 x4 x5 x6 n z0 z1) x1 x2 x3 x4 x5 x6 x7 M) else (if v4 = 5 then (fX6_passes_254 (fun z0 z1 => fX6_passes_85 x1 x2 x3 x4 x5 x6 n z0 z1) x1 x2 x3 x4 x5 x6 x7 M) else (if v4 = 4 then (if (0 : Int32) ≤ x6 then (fX6_passes_144 (fun z0 z1 => fX6_passes_85 x1 x2 x3 x4 x5 x6 n z0 z1) x1 x2 x3 x4 x5 x6 x7 v4 M) else (if x4 = 0 then (fX6_passes_254 (fun z0 z1 => fX6_passes_85 x1 x2 x3 x4 x5 x6 n z0 z1) x1 x2 x3 x4 x5 x6 x7 M) else (fX6_passes_144 (fun z0 z1 => fX6_passes_85 x1 x2 x3 x4 x5 x6 n z0 z1) x1 x2 x3 x4 x5 x6 x7 v4 M))) else (fX6_passes_144 (fun z0 z1 => fX6_passes_85 x1 x2 x3 x4 x5 x6 n z0 z1) x1 x2 x3 x4 x5 x6 x7 v4 M))))))))
def fX6_passes_25 (x1 : Int32) (x2 : Int32) (x3 : Int32) (x4 : Int32) (x5 : Int32) (M : xm) : Nat → Int32 → Int32 → Option (Int32 × xm)
  | 0, _, _ => none
  | n + 1, x6, x7 => xchk 0 2 ((if (M.1 65 (0 : Int32).toNatClampNeg) ≤ x7 then (fX6_passes_85 x1 x2 x3 x4 x5 x6 xfuel 0 M) else (if (0 : Int32) ≤ x6 then (fX6_passes_72 (fun z0 z1 => fX6_passes_25 x1 x2 x3 x4 x5 M n z0 z1) x1 x2 x3 x4 x5 x6 x7 M) else (if ((x5 >>> (x7 &&& 31)) &&& 1) = 1 then xchk ((3 * x7) + 0) 48 ((if (M.1 66 (((3 * x7) + 0)).toNatClampNeg) = 4 then (fX6_passes_72 (fun z0 z1 => fX6_passes_25 x1 x2 x3 x4 x5 M n z0 z1) x1 x2 x3 x4 x5 x6 x7 M) else (fX6_passes_74 (fun z0 z1 => fX6_passes_25 x1 x2 x3 x4 x5 M n z0 z1) x1 x2 x3 x4 x5 x7 x7 M))) else (fX6_passes_72 (fun z0 z1 => fX6_passes_25 x1 x2 x3 x4 x5 M n z0 z1) x1 x2 x3 x4 x5 x6 x7 M)))))
def fX6_passes (x1 : Int32) (x2 : Int32) (x3 : Int32) (x4 : Int32) (M : xm) : Option (Int32 × xm) := (fX6_there x1 x2 M).bind (fun v5 => xl (up M 60 17 x4) (fun M6 => xl (up M6 60 18 0) (fun M7 => (fX6_passes_25 x1 x2 x3 x4 v5 M7 xfuel (-1) 0))))
section
variable {p : Program} {l : Launch} {e : Env} {s : State} {m : MethodId} {args : Array Value} {below : List Frame} {meth : Method} {c : Code} {D : va_G} {cs : Nat → ClassId} {S : List Nat} {ad : Nat → Nat}
theorem bX6_passes_74 (Z : CX p s m args meth c cX6_passes 10 RX6 (some .boolean) D cs (xA S ad) S ad) (hS : xalm S) {k25 : Int32 → Int32 → Option (Int32 × xm)} (x1 : Int32) (x2 : Int32) (x3 : Int32) (x4 : Int32) (x5 : Int32) (x7 : Int32) (t0 : Int32) (M : xm) (hk25 : ∀ (x6 : Int32) (x7 : Int32), XJ p l e rmX6_passes s m args below meth c D cs (xA S ad) S ad 10 (XRb below args s D cs S ad) 25 [(0, .ref (ad 60)), (1, .int x1), (2, .int x2), (3, .int x3), (4, .int x4), (5, .int x5), (6, .int x6), (7, .int x7)] [] M (k25 x6 x7)) : XJ p l e rmX6_passes s m args below meth c D cs (xA S ad) S ad 10 (XRb below args s D cs S ad) 74 [(0, .ref (ad 60)), (1, .int x1), (2, .int x2), (3, .int x3), (4, .int x4), (5, .int x5), (7, .int x7)] [.int t0] M (fX6_passes_74 k25 x1 x2 x3 x4 x5 x7 t0 M) := by
  unfold fX6_passes_74
  refine xj_istore Z (lv' := [(6, .int t0), (0, .ref (ad 60)), (1, .int x1), (2, .int x2), (3, .int x3), (4, .int x4), (5, .int x5), (7, .int x7)]) dX6_passes_74 (by decide) rfl ?_
  refine xj_iinc Z 7 (x7 + 1) (lv' := [(7, .int (x7 + 1)), (6, .int t0), (0, .ref (ad 60)), (1, .int x1), (2, .int x2), (3, .int x3), (4, .int x4), (5, .int x5)]) dX6_passes_76 rfl rfl (by decide) rfl ?_
  refine xj_goto Z 25 dX6_passes_79 (by decide) ?_
  refine xj_sub [2, 3, 4, 5, 6, 7, 1, 0] (lv' := [(0, .ref (ad 60)), (1, .int x1), (2, .int x2), (3, .int x3), (4, .int x4), (5, .int x5), (6, .int t0), (7, .int (x7 + 1))]) rfl ?_
  exact hk25 t0 (x7 + 1)
theorem bX6_passes_72 (Z : CX p s m args meth c cX6_passes 10 RX6 (some .boolean) D cs (xA S ad) S ad) (hS : xalm S) {k25 : Int32 → Int32 → Option (Int32 × xm)} (x1 : Int32) (x2 : Int32) (x3 : Int32) (x4 : Int32) (x5 : Int32) (x6 : Int32) (x7 : Int32) (M : xm) (hk25 : ∀ (x6 : Int32) (x7 : Int32), XJ p l e rmX6_passes s m args below meth c D cs (xA S ad) S ad 10 (XRb below args s D cs S ad) 25 [(0, .ref (ad 60)), (1, .int x1), (2, .int x2), (3, .int x3), (4, .int x4), (5, .int x5), (6, .int x6), (7, .int x7)] [] M (k25 x6 x7)) : XJ p l e rmX6_passes s m args below meth c D cs (xA S ad) S ad 10 (XRb below args s D cs S ad) 72 [(0, .ref (ad 60)), (1, .int x1), (2, .int x2), (3, .int x3), (4, .int x4), (5, .int x5), (6, .int x6), (7, .int x7)] [] M (fX6_passes_72 k25 x1 x2 x3 x4 x5 x6 x7 M) := by
  unfold fX6_passes_72
  refine xj_iload Z 6 dX6_passes_72 rfl ?_
  refine xj_sub [0, 1, 2, 3, 4, 5, 7] (lv' := [(0, .ref (ad 60)), (1, .int x1), (2, .int x2), (3, .int x3), (4, .int x4), (5, .int x5), (7, .int x7)]) rfl ?_
  exact bX6_passes_74 Z hS x1 x2 x3 x4 x5 x7 x6 M hk25
theorem bX6_passes_254 (Z : CX p s m args meth c cX6_passes 10 RX6 (some .boolean) D cs (xA S ad) S ad) (hS : xalm S) {k85 : Int32 → xm → Option (Int32 × xm)} (x1 : Int32) (x2 : Int32) (x3 : Int32) (x4 : Int32) (x5 : Int32) (x6 : Int32) (x7 : Int32) (M : xm) (hk85 : ∀ (x7 : Int32) (M : xm), XJ p l e rmX6_passes s m args below meth c D cs (xA S ad) S ad 10 (XRb below args s D cs S ad) 85 [(0, .ref (ad 60)), (1, .int x1), (2, .int x2), (3, .int x3), (4, .int x4), (5, .int x5), (6, .int x6), (7, .int x7)] [] M (k85 x7 M)) : XJ p l e rmX6_passes s m args below meth c D cs (xA S ad) S ad 10 (XRb below args s D cs S ad) 254 [(0, .ref (ad 60)), (1, .int x1), (2, .int x2), (3, .int x3), (4, .int x4), (5, .int x5), (6, .int x6), (7, .int x7)] [] M (fX6_passes_254 k85 x1 x2 x3 x4 x5 x6 x7 M) := by
  unfold fX6_passes_254
  refine xj_iinc Z 7 (x7 + 1) (lv' := [(7, .int (x7 + 1)), (0, .ref (ad 60)), (1, .int x1), (2, .int x2), (3, .int x3), (4, .int x4), (5, .int x5), (6, .int x6)]) dX6_passes_254 rfl rfl (by decide) rfl ?_
  refine xj_goto Z 85 dX6_passes_257 (by decide) ?_
  refine xj_sub [1, 2, 3, 4, 5, 6, 7, 0] (lv' := [(0, .ref (ad 60)), (1, .int x1), (2, .int x2), (3, .int x3), (4, .int x4), (5, .int x5), (6, .int x6), (7, .int (x7 + 1))]) rfl ?_
  exact hk85 (x7 + 1) M
theorem bX6_passes_250 (Z : CX p s m args meth c cX6_passes 10 RX6 (some .boolean) D cs (xA S ad) S ad) (hS : xalm S) {k85 : Int32 → xm → Option (Int32 × xm)} (x1 : Int32) (x2 : Int32) (x3 : Int32) (x4 : Int32) (x5 : Int32) (x6 : Int32) (x7 : Int32) (t1 : Int32) (t2 : Int32) (M : xm) (hk85 : ∀ (x7 : Int32) (M : xm), XJ p l e rmX6_passes s m args below meth c D cs (xA S ad) S ad 10 (XRb below args s D cs S ad) 85 [(0, .ref (ad 60)), (1, .int x1), (2, .int x2), (3, .int x3), (4, .int x4), (5, .int x5), (6, .int x6), (7, .int x7)] [] M (k85 x7 M)) : XJ p l e rmX6_passes s m args below meth c D cs (xA S ad) S ad 10 (XRb below args s D cs S ad) 250 [(0, .ref (ad 60)), (1, .int x1), (2, .int x2), (3, .int x3), (4, .int x4), (5, .int x5), (6, .int x6), (7, .int x7)] [.int t2, .int t1, .ref (ad 60)] M (fX6_passes_250 k85 x1 x2 x3 x4 x5 x6 x7 t1 t2 M) := by
  unfold fX6_passes_250
  refine xj_iadd Z dX6_passes_250 ?_
  refine xp_X6_150 Z (hS 60 (by decide) (by decide)) dX6_passes_251 (fun M1 _ => ?_)
  exact bX6_passes_254 Z hS x1 x2 x3 x4 x5 x6 x7 M1 hk85
theorem bX6_passes_231 (Z : CX p s m args meth c cX6_passes 10 RX6 (some .boolean) D cs (xA S ad) S ad) (hS : xalm S) {k85 : Int32 → xm → Option (Int32 × xm)} (x1 : Int32) (x2 : Int32) (x3 : Int32) (x4 : Int32) (x5 : Int32) (x6 : Int32) (x7 : Int32) (x9 : Int32) (t1 : Int32) (t2 : Int32) (M : xm) (hk85 : ∀ (x7 : Int32) (M : xm), XJ p l e rmX6_passes s m args below meth c D cs (xA S ad) S ad 10 (XRb below args s D cs S ad) 85 [(0, .ref (ad 60)), (1, .int x1), (2, .int x2), (3, .int x3), (4, .int x4), (5, .int x5), (6, .int x6), (7, .int x7)] [] M (k85 x7 M)) : XJ p l e rmX6_passes s m args below meth c D cs (xA S ad) S ad 10 (XRb below args s D cs S ad) 231 [(0, .ref (ad 60)), (1, .int x1), (2, .int x2), (3, .int x3), (4, .int x4), (5, .int x5), (6, .int x6), (7, .int x7), (9, .int x9)] [.int t2, .int t1, .ref (ad 60)] M (fX6_passes_231 k85 x1 x2 x3 x4 x5 x6 x7 x9 t1 t2 M) := by
  unfold fX6_passes_231
  refine xj_iadd Z dX6_passes_231 ?_
  refine xp_X6_147 Z (hS 60 (by decide) (by decide)) dX6_passes_232 (fun M2 _ => ?_)
  refine xj_aload_n Z 0 dX6_passes_235 rfl rfl ?_
  refine xj_dup Z dX6_passes_236 rfl ?_
  refine xg_X6_150 Z (hS 60 (by decide) (by decide)) dX6_passes_237 ?_
  refine xj_iload Z 8 dX6_passes_240 rfl ?_
  refine xj_if_eq Z 249 dX6_passes_242 (by decide) (fun _ => ?_) (fun _ => ?_)
  · refine xj_iconst Z 1 dX6_passes_249 (by decide) ?_
    refine xj_sub [0, 1, 2, 3, 4, 5, 6, 7] (lv' := [(0, .ref (ad 60)), (1, .int x1), (2, .int x2), (3, .int x3), (4, .int x4), (5, .int x5), (6, .int x6), (7, .int x7)]) rfl ?_
    exact bX6_passes_250 Z hS x1 x2 x3 x4 x5 x6 x7 (M2.1 60 18) 1 M2 hk85
  · refine xj_iconst Z 0 dX6_passes_245 (by decide) ?_
    refine xj_goto Z 250 dX6_passes_246 (by decide) ?_
    refine xj_sub [0, 1, 2, 3, 4, 5, 6, 7] (lv' := [(0, .ref (ad 60)), (1, .int x1), (2, .int x2), (3, .int x3), (4, .int x4), (5, .int x5), (6, .int x6), (7, .int x7)]) rfl ?_
    exact bX6_passes_250 Z hS x1 x2 x3 x4 x5 x6 x7 (M2.1 60 18) 0 M2 hk85
theorem bX6_passes_214 (Z : CX p s m args meth c cX6_passes 10 RX6 (some .boolean) D cs (xA S ad) S ad) (hS : xalm S) {k85 : Int32 → xm → Option (Int32 × xm)} (x1 : Int32) (x2 : Int32) (x3 : Int32) (x4 : Int32) (x5 : Int32) (x6 : Int32) (x7 : Int32) (t0 : Int32) (M : xm) (hk85 : ∀ (x7 : Int32) (M : xm), XJ p l e rmX6_passes s m args below meth c D cs (xA S ad) S ad 10 (XRb below args s D cs S ad) 85 [(0, .ref (ad 60)), (1, .int x1), (2, .int x2), (3, .int x3), (4, .int x4), (5, .int x5), (6, .int x6), (7, .int x7)] [] M (k85 x7 M)) : XJ p l e rmX6_passes s m args below meth c D cs (xA S ad) S ad 10 (XRb below args s D cs S ad) 214 [(0, .ref (ad 60)), (1, .int x1), (2, .int x2), (3, .int x3), (4, .int x4), (5, .int x5), (6, .int x6), (7, .int x7)] [.int t0] M (fX6_passes_214 k85 x1 x2 x3 x4 x5 x6 x7 t0 M) := by
  unfold fX6_passes_214
  refine xj_istore Z (lv' := [(9, .int t0), (0, .ref (ad 60)), (1, .int x1), (2, .int x2), (3, .int x3), (4, .int x4), (5, .int x5), (6, .int x6), (7, .int x7)]) dX6_passes_214 (by decide) rfl ?_
  refine xj_aload_n Z 1 dX6_passes_216 rfl rfl ?_
  refine xj_dup Z dX6_passes_217 rfl ?_
  refine xg_X6_147 Z (hS 60 (by decide) (by decide)) dX6_passes_218 ?_
  refine xj_iload Z 0 dX6_passes_221 rfl ?_
  refine xj_if_eq Z 230 dX6_passes_223 (by decide) (fun _ => ?_) (fun _ => ?_)
  · refine xj_iconst Z 0 dX6_passes_230 (by decide) ?_
    refine xj_sub [1, 2, 3, 4, 5, 6, 7, 8, 0] (lv' := [(0, .ref (ad 60)), (1, .int x1), (2, .int x2), (3, .int x3), (4, .int x4), (5, .int x5), (6, .int x6), (7, .int x7), (9, .int t0)]) rfl ?_
    exact bX6_passes_231 Z hS x1 x2 x3 x4 x5 x6 x7 t0 (M.1 60 17) 0 M hk85
  · refine xj_iconst Z 1 dX6_passes_226 (by decide) ?_
    refine xj_goto Z 231 dX6_passes_227 (by decide) ?_
    refine xj_sub [1, 2, 3, 4, 5, 6, 7, 8, 0] (lv' := [(0, .ref (ad 60)), (1, .int x1), (2, .int x2), (3, .int x3), (4, .int x4), (5, .int x5), (6, .int x6), (7, .int x7), (9, .int t0)]) rfl ?_
    exact bX6_passes_231 Z hS x1 x2 x3 x4 x5 x6 x7 t0 (M.1 60 17) 1 M hk85
theorem bX6_passes_209 (Z : CX p s m args meth c cX6_passes 10 RX6 (some .boolean) D cs (xA S ad) S ad) (hS : xalm S) {k85 : Int32 → xm → Option (Int32 × xm)} (x1 : Int32) (x2 : Int32) (x3 : Int32) (x4 : Int32) (x5 : Int32) (x6 : Int32) (x7 : Int32) (M : xm) (hk85 : ∀ (x7 : Int32) (M : xm), XJ p l e rmX6_passes s m args below meth c D cs (xA S ad) S ad 10 (XRb below args s D cs S ad) 85 [(0, .ref (ad 60)), (1, .int x1), (2, .int x2), (3, .int x3), (4, .int x4), (5, .int x5), (6, .int x6), (7, .int x7)] [] M (k85 x7 M)) : XJ p l e rmX6_passes s m args below meth c D cs (xA S ad) S ad 10 (XRb below args s D cs S ad) 209 [(0, .ref (ad 60)), (1, .int x1), (2, .int x2), (3, .int x3), (4, .int x4), (5, .int x5), (6, .int x6), (7, .int x7)] [] M (fX6_passes_209 k85 x1 x2 x3 x4 x5 x6 x7 M) := by
  unfold fX6_passes_209
  refine xj_iconst Z 1 dX6_passes_209 (by decide) ?_
  refine xj_goto Z 214 dX6_passes_210 (by decide) ?_
  exact bX6_passes_214 Z hS x1 x2 x3 x4 x5 x6 x7 1 M hk85
theorem bX6_passes_199 (Z : CX p s m args meth c cX6_passes 10 RX6 (some .boolean) D cs (xA S ad) S ad) (hS : xalm S) {k85 : Int32 → xm → Option (Int32 × xm)} (x1 : Int32) (x2 : Int32) (x3 : Int32) (x4 : Int32) (x5 : Int32) (x6 : Int32) (x7 : Int32) (t1 : Int32) (t2 : Int32) (M : xm) (hk85 : ∀ (x7 : Int32) (M : xm), XJ p l e rmX6_passes s m args below meth c D cs (xA S ad) S ad 10 (XRb below args s D cs S ad) 85 [(0, .ref (ad 60)), (1, .int x1), (2, .int x2), (3, .int x3), (4, .int x4), (5, .int x5), (6, .int x6), (7, .int x7)] [] M (k85 x7 M)) : XJ p l e rmX6_passes s m args below meth c D cs (xA S ad) S ad 10 (XRb below args s D cs S ad) 199 [(0, .ref (ad 60)), (1, .int x1), (2, .int x2), (3, .int x3), (4, .int x4), (5, .int x5), (6, .int x6), (7, .int x7)] [.int t2, .int t1, .ref (ad 67)] M (fX6_passes_199 k85 x1 x2 x3 x4 x5 x6 x7 t1 t2 M) := by
  unfold fX6_passes_199
  refine xj_iadd Z dX6_passes_199 ?_
  refine xj_iald Z (hS 67 (by decide) (by decide)) rfl dX6_passes_200 (fun _ => ?_)
  refine xj_iload_n Z 3 dX6_passes_201 rfl rfl ?_
  refine xj_ishr Z dX6_passes_202 ?_
  refine xj_iconst Z 1 dX6_passes_203 (by decide) ?_
  refine xj_iand Z dX6_passes_204 ?_
  refine xj_iconst Z 1 dX6_passes_205 (by decide) ?_
  refine xj_icmp_ne Z 213 dX6_passes_206 (by decide) (fun _ => ?_) (fun _ => ?_)
  · refine xj_iconst Z 0 dX6_passes_213 (by decide) ?_
    exact bX6_passes_214 Z hS x1 x2 x3 x4 x5 x6 x7 0 M hk85
  · exact bX6_passes_209 Z hS x1 x2 x3 x4 x5 x6 x7 M hk85
theorem bX6_passes_175 (Z : CX p s m args meth c cX6_passes 10 RX6 (some .boolean) D cs (xA S ad) S ad) (hS : xalm S) {k85 : Int32 → xm → Option (Int32 × xm)} (x1 : Int32) (x2 : Int32) (x3 : Int32) (x4 : Int32) (x5 : Int32) (x6 : Int32) (x7 : Int32) (x8 : Int32) (M : xm) (hk85 : ∀ (x7 : Int32) (M : xm), XJ p l e rmX6_passes s m args below meth c D cs (xA S ad) S ad 10 (XRb below args s D cs S ad) 85 [(0, .ref (ad 60)), (1, .int x1), (2, .int x2), (3, .int x3), (4, .int x4), (5, .int x5), (6, .int x6), (7, .int x7)] [] M (k85 x7 M)) : XJ p l e rmX6_passes s m args below meth c D cs (xA S ad) S ad 10 (XRb below args s D cs S ad) 175 [(0, .ref (ad 60)), (1, .int x1), (2, .int x2), (3, .int x3), (4, .int x4), (5, .int x5), (6, .int x6), (7, .int x7), (8, .int x8)] [] M (fX6_passes_175 k85 x1 x2 x3 x4 x5 x6 x7 x8 M) := by
  unfold fX6_passes_175
  refine xj_aload_n Z 0 dX6_passes_175 rfl rfl ?_
  refine xg_X6_29 Z (hS 60 (by decide) (by decide)) dX6_passes_176 ?_
  refine xj_bipush Z 25 dX6_passes_179 (by decide) ?_
  refine xj_iload_n Z 1 dX6_passes_181 rfl rfl ?_
  refine xj_imul Z dX6_passes_182 ?_
  refine xj_bipush Z 8 dX6_passes_183 (by decide) ?_
  refine xj_iadd Z dX6_passes_185 ?_
  refine xj_iload Z 8 dX6_passes_186 rfl ?_
  refine xj_iconst Z 4 dX6_passes_188 (by decide) ?_
  refine xj_icmp_ne Z 197 dX6_passes_189 (by decide) (fun _ => ?_) (fun _ => ?_)
  · refine xj_iload Z 7 dX6_passes_197 rfl ?_
    refine xj_sub [0, 1, 2, 3, 4, 5, 6, 7] (lv' := [(0, .ref (ad 60)), (1, .int x1), (2, .int x2), (3, .int x3), (4, .int x4), (5, .int x5), (6, .int x6), (7, .int x7)]) rfl ?_
    exact bX6_passes_199 Z hS x1 x2 x3 x4 x5 x6 x7 ((25 * x1) + 8) x7 M hk85
  · refine xj_iload Z 6 dX6_passes_192 rfl ?_
    refine xj_goto Z 199 dX6_passes_194 (by decide) ?_
    refine xj_sub [0, 1, 2, 3, 4, 5, 6, 7] (lv' := [(0, .ref (ad 60)), (1, .int x1), (2, .int x2), (3, .int x3), (4, .int x4), (5, .int x5), (6, .int x6), (7, .int x7)]) rfl ?_
    exact bX6_passes_199 Z hS x1 x2 x3 x4 x5 x6 x7 ((25 * x1) + 8) x6 M hk85
theorem bX6_passes_144 (Z : CX p s m args meth c cX6_passes 10 RX6 (some .boolean) D cs (xA S ad) S ad) (hS : xalm S) {k85 : Int32 → xm → Option (Int32 × xm)} (x1 : Int32) (x2 : Int32) (x3 : Int32) (x4 : Int32) (x5 : Int32) (x6 : Int32) (x7 : Int32) (x8 : Int32) (M : xm) (hk85 : ∀ (x7 : Int32) (M : xm), XJ p l e rmX6_passes s m args below meth c D cs (xA S ad) S ad 10 (XRb below args s D cs S ad) 85 [(0, .ref (ad 60)), (1, .int x1), (2, .int x2), (3, .int x3), (4, .int x4), (5, .int x5), (6, .int x6), (7, .int x7)] [] M (k85 x7 M)) : XJ p l e rmX6_passes s m args below meth c D cs (xA S ad) S ad 10 (XRb below args s D cs S ad) 144 [(0, .ref (ad 60)), (1, .int x1), (2, .int x2), (3, .int x3), (4, .int x4), (5, .int x5), (6, .int x6), (7, .int x7), (8, .int x8)] [] M (fX6_passes_144 k85 x1 x2 x3 x4 x5 x6 x7 x8 M) := by
  unfold fX6_passes_144
  refine xj_iload Z 8 dX6_passes_144 rfl ?_
  refine xj_iconst Z 3 dX6_passes_146 (by decide) ?_
  refine xj_icmp_ne Z 164 dX6_passes_147 (by decide) (fun _ => ?_) (fun _ => ?_)
  · refine xj_iload Z 8 dX6_passes_164 rfl ?_
    refine xj_iconst Z 4 dX6_passes_166 (by decide) ?_
    refine xj_icmp_ne Z 175 dX6_passes_167 (by decide) (fun _ => ?_) (fun _ => ?_)
    · exact bX6_passes_175 Z hS x1 x2 x3 x4 x5 x6 x7 x8 M hk85
    · refine xj_iload Z 6 dX6_passes_170 rfl ?_
      refine xj_if_lt Z 209 dX6_passes_172 (by decide) (fun _ => ?_) (fun _ => ?_)
      · refine xj_sub [0, 1, 2, 3, 4, 5, 6, 7] (lv' := [(0, .ref (ad 60)), (1, .int x1), (2, .int x2), (3, .int x3), (4, .int x4), (5, .int x5), (6, .int x6), (7, .int x7)]) rfl ?_
        exact bX6_passes_209 Z hS x1 x2 x3 x4 x5 x6 x7 M hk85
      · exact bX6_passes_175 Z hS x1 x2 x3 x4 x5 x6 x7 x8 M hk85
  · refine xj_iload_n Z 2 dX6_passes_150 rfl rfl ?_
    refine xj_iconst Z 2 dX6_passes_151 (by decide) ?_
    refine xj_irem Z dX6_passes_152 (by decide) ?_
    refine xj_if_ne Z 160 dX6_passes_153 (by decide) (fun _ => ?_) (fun _ => ?_)
    · refine xj_iconst Z 0 dX6_passes_160 (by decide) ?_
      refine xj_goto Z 214 dX6_passes_161 (by decide) ?_
      refine xj_sub [0, 1, 2, 3, 4, 5, 6, 7] (lv' := [(0, .ref (ad 60)), (1, .int x1), (2, .int x2), (3, .int x3), (4, .int x4), (5, .int x5), (6, .int x6), (7, .int x7)]) rfl ?_
      exact bX6_passes_214 Z hS x1 x2 x3 x4 x5 x6 x7 0 M hk85
    · refine xj_iconst Z 1 dX6_passes_156 (by decide) ?_
      refine xj_goto Z 214 dX6_passes_157 (by decide) ?_
      refine xj_sub [0, 1, 2, 3, 4, 5, 6, 7] (lv' := [(0, .ref (ad 60)), (1, .int x1), (2, .int x2), (3, .int x3), (4, .int x4), (5, .int x5), (6, .int x6), (7, .int x7)]) rfl ?_
      exact bX6_passes_214 Z hS x1 x2 x3 x4 x5 x6 x7 1 M hk85
theorem bX6_passes_293 (Z : CX p s m args meth c cX6_passes 10 RX6 (some .boolean) D cs (xA S ad) S ad) (hS : xalm S) (t0 : Int32) (M : xm) : XJ p l e rmX6_passes s m args below meth c D cs (xA S ad) S ad 10 (XRb below args s D cs S ad) 293 [] [.int t0] M (fX6_passes_293 t0 M) := by
  unfold fX6_passes_293
  exact xj_zret_b Z dX6_passes_293
theorem bX6_passes_292 (Z : CX p s m args meth c cX6_passes 10 RX6 (some .boolean) D cs (xA S ad) S ad) (hS : xalm S) (M : xm) : XJ p l e rmX6_passes s m args below meth c D cs (xA S ad) S ad 10 (XRb below args s D cs S ad) 292 [] [] M (fX6_passes_292 M) := by
  unfold fX6_passes_292
  refine xj_iconst Z 0 dX6_passes_292 (by decide) ?_
  exact bX6_passes_293 Z hS 0 M
theorem bX6_passes_85 (Z : CX p s m args meth c cX6_passes 10 RX6 (some .boolean) D cs (xA S ad) S ad) (hS : xalm S) (x1 : Int32) (x2 : Int32) (x3 : Int32) (x4 : Int32) (x5 : Int32) (x6 : Int32) : ∀ (n : Nat) (x7 : Int32) (M : xm), XJ p l e rmX6_passes s m args below meth c D cs (xA S ad) S ad 10 (XRb below args s D cs S ad) 85 [(0, .ref (ad 60)), (1, .int x1), (2, .int x2), (3, .int x3), (4, .int x4), (5, .int x5), (6, .int x6), (7, .int x7)] [] M (fX6_passes_85 x1 x2 x3 x4 x5 x6 n x7 M) := by
  intro n
  induction n with
  | zero => intros; exact xj_none
  | succ n ih =>
    intro x7 M
    rw [fX6_passes_85]
    refine xj_iload Z 7 dX6_passes_85 rfl ?_
    refine xj_aload_n Z 0 dX6_passes_87 rfl rfl ?_
    refine xg_X6_23 Z (hS 60 (by decide) (by decide)) dX6_passes_88 ?_
    refine xj_iconst Z 0 dX6_passes_91 (by decide) ?_
    refine xj_iald Z (hS 65 (by decide) (by decide)) rfl dX6_passes_92 (fun _ => ?_)
    refine xj_icmp_ge Z 260 dX6_passes_93 (by decide) (fun _ => ?_) (fun _ => ?_)
    · refine xj_aload_n Z 0 dX6_passes_260 rfl rfl ?_
      refine xg_X6_147 Z (hS 60 (by decide) (by decide)) dX6_passes_261 ?_
      refine xj_aload_n Z 0 dX6_passes_264 rfl rfl ?_
      refine xg_X6_150 Z (hS 60 (by decide) (by decide)) dX6_passes_265 ?_
      refine xj_icmp_le Z 292 dX6_passes_268 (by decide) (fun _ => ?_) (fun _ => ?_)
      · refine xj_sub [] (lv' := []) rfl ?_
        exact bX6_passes_292 Z hS M
      · refine xj_iload Z 5 dX6_passes_271 rfl ?_
        refine xj_callSr Z (As := [.int x5]) (kX6_many l D cs S ad Z.2.2.2.2.2.1.dist x5 M) gw_X6_135 (n := 1) (by decide +kernel) rfl ⟨rfl, rfl⟩ (by decide) rfl (Nat.le_of_ble_eq_true rfl) dX6_passes_273 (fun v3 => ?_)
        refine xj_iload Z 4 dX6_passes_276 rfl ?_
        refine xj_iadd Z dX6_passes_278 ?_
        refine xj_aload_n Z 0 dX6_passes_279 rfl rfl ?_
        refine xg_X6_13 Z (hS 60 (by decide) (by decide)) dX6_passes_280 ?_
        refine xj_iconst Z 0 dX6_passes_283 (by decide) ?_
        refine xj_iald Z (hS 62 (by decide) (by decide)) rfl dX6_passes_284 (fun _ => ?_)
        refine xj_icmp_lt Z 292 dX6_passes_285 (by decide) (fun _ => ?_) (fun _ => ?_)
        · refine xj_sub [] (lv' := []) rfl ?_
          exact bX6_passes_292 Z hS M
        · refine xj_iconst Z 1 dX6_passes_288 (by decide) ?_
          refine xj_goto Z 293 dX6_passes_289 (by decide) ?_
          refine xj_sub [] (lv' := []) rfl ?_
          exact bX6_passes_293 Z hS 1 M
    · refine xj_aload_n Z 0 dX6_passes_96 rfl rfl ?_
      refine xg_X6_26 Z (hS 60 (by decide) (by decide)) dX6_passes_97 ?_
      refine xj_iconst Z 3 dX6_passes_100 (by decide) ?_
      refine xj_iload Z 7 dX6_passes_101 rfl ?_
      refine xj_imul Z dX6_passes_103 ?_
      refine xj_iconst Z 0 dX6_passes_104 (by decide) ?_
      refine xj_iadd Z dX6_passes_105 ?_
      refine xj_iald Z (hS 66 (by decide) (by decide)) rfl dX6_passes_106 (fun _ => ?_)
      refine xj_top (fun v4 => ?_)
      refine xj_istore Z (lv' := [(8, .int v4), (0, .ref (ad 60)), (1, .int x1), (2, .int x2), (3, .int x3), (4, .int x4), (5, .int x5), (6, .int x6), (7, .int x7)]) dX6_passes_107 (by decide) rfl ?_
      refine xj_iload Z 6 dX6_passes_109 rfl ?_
      refine xj_iload Z 8 dX6_passes_111 rfl ?_
      refine xj_ishr Z dX6_passes_113 ?_
      refine xj_iconst Z 1 dX6_passes_114 (by decide) ?_
      refine xj_iand Z dX6_passes_115 ?_
      refine xj_if_eq Z 254 dX6_passes_116 (by decide) (fun _ => ?_) (fun _ => ?_)
      · refine xj_sub [1, 2, 3, 4, 5, 6, 7, 8] (lv' := [(0, .ref (ad 60)), (1, .int x1), (2, .int x2), (3, .int x3), (4, .int x4), (5, .int x5), (6, .int x6), (7, .int x7)]) rfl ?_
        exact bX6_passes_254 Z hS x1 x2 x3 x4 x5 x6 x7 M ih
      · refine xj_iload Z 0 dX6_passes_119 rfl ?_
        refine xj_iconst Z 5 dX6_passes_121 (by decide) ?_
        refine xj_icmp_eq Z 254 dX6_passes_122 (by decide) (fun _ => ?_) (fun _ => ?_)
        · refine xj_sub [1, 2, 3, 4, 5, 6, 7, 8] (lv' := [(0, .ref (ad 60)), (1, .int x1), (2, .int x2), (3, .int x3), (4, .int x4), (5, .int x5), (6, .int x6), (7, .int x7)]) rfl ?_
          exact bX6_passes_254 Z hS x1 x2 x3 x4 x5 x6 x7 M ih
        · refine xj_iload Z 0 dX6_passes_125 rfl ?_
          refine xj_iconst Z 4 dX6_passes_127 (by decide) ?_
          refine xj_icmp_ne Z 144 dX6_passes_128 (by decide) (fun _ => ?_) (fun _ => ?_)
          · refine xj_sub [1, 2, 3, 4, 5, 6, 7, 8, 0] (lv' := [(0, .ref (ad 60)), (1, .int x1), (2, .int x2), (3, .int x3), (4, .int x4), (5, .int x5), (6, .int x6), (7, .int x7), (8, .int v4)]) rfl ?_
            exact bX6_passes_144 Z hS x1 x2 x3 x4 x5 x6 x7 v4 M ih
          · refine xj_iload Z 7 dX6_passes_131 rfl ?_
            refine xj_if_ge Z 144 dX6_passes_133 (by decide) (fun _ => ?_) (fun _ => ?_)
            · refine xj_sub [1, 2, 3, 4, 5, 6, 7, 8, 0] (lv' := [(0, .ref (ad 60)), (1, .int x1), (2, .int x2), (3, .int x3), (4, .int x4), (5, .int x5), (6, .int x6), (7, .int x7), (8, .int v4)]) rfl ?_
              exact bX6_passes_144 Z hS x1 x2 x3 x4 x5 x6 x7 v4 M ih
            · refine xj_iload Z 5 dX6_passes_136 rfl ?_
              refine xj_if_ne Z 144 dX6_passes_138 (by decide) (fun _ => ?_) (fun _ => ?_)
              · refine xj_sub [1, 2, 3, 4, 5, 6, 7, 8, 0] (lv' := [(0, .ref (ad 60)), (1, .int x1), (2, .int x2), (3, .int x3), (4, .int x4), (5, .int x5), (6, .int x6), (7, .int x7), (8, .int v4)]) rfl ?_
                exact bX6_passes_144 Z hS x1 x2 x3 x4 x5 x6 x7 v4 M ih
              · refine xj_goto Z 254 dX6_passes_141 (by decide) ?_
                refine xj_sub [1, 2, 3, 4, 5, 6, 7, 8] (lv' := [(0, .ref (ad 60)), (1, .int x1), (2, .int x2), (3, .int x3), (4, .int x4), (5, .int x5), (6, .int x6), (7, .int x7)]) rfl ?_
                exact bX6_passes_254 Z hS x1 x2 x3 x4 x5 x6 x7 M ih
theorem bX6_passes_25 (Z : CX p s m args meth c cX6_passes 10 RX6 (some .boolean) D cs (xA S ad) S ad) (hS : xalm S) (x1 : Int32) (x2 : Int32) (x3 : Int32) (x4 : Int32) (x5 : Int32) (M : xm) : ∀ (n : Nat) (x6 : Int32) (x7 : Int32), XJ p l e rmX6_passes s m args below meth c D cs (xA S ad) S ad 10 (XRb below args s D cs S ad) 25 [(0, .ref (ad 60)), (1, .int x1), (2, .int x2), (3, .int x3), (4, .int x4), (5, .int x5), (6, .int x6), (7, .int x7)] [] M (fX6_passes_25 x1 x2 x3 x4 x5 M n x6 x7) := by
  intro n
  induction n with
  | zero => intros; exact xj_none
  | succ n ih =>
    intro x6 x7
    rw [fX6_passes_25]
    refine xj_iload Z 7 dX6_passes_25 rfl ?_
    refine xj_aload_n Z 0 dX6_passes_27 rfl rfl ?_
    refine xg_X6_23 Z (hS 60 (by decide) (by decide)) dX6_passes_28 ?_
    refine xj_iconst Z 0 dX6_passes_31 (by decide) ?_
    refine xj_iald Z (hS 65 (by decide) (by decide)) rfl dX6_passes_32 (fun _ => ?_)
    refine xj_icmp_ge Z 82 dX6_passes_33 (by decide) (fun _ => ?_) (fun _ => ?_)
    · refine xj_iconst Z 0 dX6_passes_82 (by decide) ?_
      refine xj_istore Z (lv' := [(7, .int 0), (0, .ref (ad 60)), (1, .int x1), (2, .int x2), (3, .int x3), (4, .int x4), (5, .int x5), (6, .int x6)]) dX6_passes_83 (by decide) rfl ?_
      refine xj_sub [1, 2, 3, 4, 5, 6, 7, 0] (lv' := [(0, .ref (ad 60)), (1, .int x1), (2, .int x2), (3, .int x3), (4, .int x4), (5, .int x5), (6, .int x6), (7, .int 0)]) rfl ?_
      exact bX6_passes_85 Z hS x1 x2 x3 x4 x5 x6 xfuel 0 M
    · refine xj_iload Z 6 dX6_passes_36 rfl ?_
      refine xj_if_ge Z 72 dX6_passes_38 (by decide) (fun _ => ?_) (fun _ => ?_)
      · exact bX6_passes_72 Z hS x1 x2 x3 x4 x5 x6 x7 M ih
      · refine xj_iload Z 5 dX6_passes_41 rfl ?_
        refine xj_iload Z 7 dX6_passes_43 rfl ?_
        refine xj_ishr Z dX6_passes_45 ?_
        refine xj_iconst Z 1 dX6_passes_46 (by decide) ?_
        refine xj_iand Z dX6_passes_47 ?_
        refine xj_iconst Z 1 dX6_passes_48 (by decide) ?_
        refine xj_icmp_ne Z 72 dX6_passes_49 (by decide) (fun _ => ?_) (fun _ => ?_)
        · exact bX6_passes_72 Z hS x1 x2 x3 x4 x5 x6 x7 M ih
        · refine xj_aload_n Z 0 dX6_passes_52 rfl rfl ?_
          refine xg_X6_26 Z (hS 60 (by decide) (by decide)) dX6_passes_53 ?_
          refine xj_iconst Z 3 dX6_passes_56 (by decide) ?_
          refine xj_iload Z 7 dX6_passes_57 rfl ?_
          refine xj_imul Z dX6_passes_59 ?_
          refine xj_iconst Z 0 dX6_passes_60 (by decide) ?_
          refine xj_iadd Z dX6_passes_61 ?_
          refine xj_iald Z (hS 66 (by decide) (by decide)) rfl dX6_passes_62 (fun _ => ?_)
          refine xj_iconst Z 4 dX6_passes_63 (by decide) ?_
          refine xj_icmp_eq Z 72 dX6_passes_64 (by decide) (fun _ => ?_) (fun _ => ?_)
          · exact bX6_passes_72 Z hS x1 x2 x3 x4 x5 x6 x7 M ih
          · refine xj_iload Z 7 dX6_passes_67 rfl ?_
            refine xj_goto Z 74 dX6_passes_69 (by decide) ?_
            refine xj_sub [0, 1, 2, 3, 4, 5, 7] (lv' := [(0, .ref (ad 60)), (1, .int x1), (2, .int x2), (3, .int x3), (4, .int x4), (5, .int x5), (7, .int x7)]) rfl ?_
            exact bX6_passes_74 Z hS x1 x2 x3 x4 x5 x7 x7 M ih
end
theorem kX6_passes (l : Launch) (D : va_G) (cs : Nat → ClassId) (S : List Nat) (ad : Nat → Nat) (hd : xdist S ad) (hS : xalm S) (x1 : Int32) (x2 : Int32) (x3 : Int32) (x4 : Int32) (M : xm) : ∀ r, fX6_passes x1 x2 x3 x4 M = some r → Met l yX6_passes [Cond.code yX6_passes cX6_passes 10 (some .boolean)] rmX6_passes (XPc D cs S ad [.ref (ad 60), .int x1, .int x2, .int x3, .int x4] M) (XQi D cs S ad r.1 r.2) 0 0 (xA S ad) := by
  refine xm_b (own := RX6) (lv := [(0, .ref (ad 60)), (1, .int x1), (2, .int x2), (3, .int x3), (4, .int x4)]) (by decide +kernel) rfl rfl (Nat.le_of_ble_eq_true rfl) hd (fun p e s m args below meth c Z => ?_)
  unfold fX6_passes
  refine xj_aload_n Z 0 dX6_passes_0 rfl rfl ?_
  refine xj_iload_n Z 1 dX6_passes_1 rfl rfl ?_
  refine xj_iload_n Z 2 dX6_passes_2 rfl rfl ?_
  refine xj_callVr Z (As := [.int x1, .int x2]) (kX6_there l D cs S ad Z.2.2.2.2.2.1.dist hS x1 x2 M) gw_X6_114 (hS 60 (by decide) (by decide)) rfl rfl (n := 2) (by decide +kernel) rfl ⟨rfl, rfl⟩ (by decide) rfl (Nat.le_of_ble_eq_true rfl) dX6_passes_3 (fun v5 => ?_)
  refine xj_istore Z (lv' := [(5, .int v5), (0, .ref (ad 60)), (1, .int x1), (2, .int x2), (3, .int x3), (4, .int x4)]) dX6_passes_6 (by decide) rfl ?_
  refine xj_aload_n Z 1 dX6_passes_8 rfl rfl ?_
  refine xj_iload Z 5 dX6_passes_9 rfl ?_
  refine xp_X6_147 Z (hS 60 (by decide) (by decide)) dX6_passes_11 (fun M6 _ => ?_)
  refine xj_aload_n Z 1 dX6_passes_14 rfl rfl ?_
  refine xj_iconst Z 0 dX6_passes_15 (by decide) ?_
  refine xp_X6_150 Z (hS 60 (by decide) (by decide)) dX6_passes_16 (fun M7 _ => ?_)
  refine xj_iconst Z (-1) dX6_passes_19 (by decide) ?_
  refine xj_istore Z (lv' := [(6, .int (-1)), (5, .int v5), (0, .ref (ad 60)), (1, .int x1), (2, .int x2), (3, .int x3), (4, .int x4)]) dX6_passes_20 (by decide) rfl ?_
  refine xj_iconst Z 0 dX6_passes_22 (by decide) ?_
  refine xj_istore Z (lv' := [(7, .int 0), (6, .int (-1)), (5, .int v5), (0, .ref (ad 60)), (1, .int x1), (2, .int x2), (3, .int x3), (4, .int x4)]) dX6_passes_23 (by decide) rfl ?_
  refine xj_sub [3, 4, 5, 6, 7, 2, 1, 0] (lv' := [(0, .ref (ad 60)), (1, .int x1), (2, .int x2), (3, .int x3), (4, .int x4), (5, .int v5), (6, .int (-1)), (7, .int 0)]) rfl ?_
  exact bX6_passes_25 Z hS x1 x2 x3 x4 v5 M7 xfuel (-1) 0
/-! WalkingLawModel.voices(III)I -/
theorem dX6_voices_0 : decode cX6_voices 0 = .ok (.aload_n 0, 1) := by decide +kernel
theorem dX6_voices_1 : decode cX6_voices 1 = .ok (.iload_n 1, 1) := by decide +kernel
theorem dX6_voices_2 : decode cX6_voices 2 = .ok (.invokevirtual 109, 3) := by decide +kernel
theorem dX6_voices_5 : decode cX6_voices 5 = .ok (.ifCond .eq 23, 3) := by decide +kernel
theorem dX6_voices_8 : decode cX6_voices 8 = .ok (.aload_n 0, 1) := by decide +kernel
theorem dX6_voices_9 : decode cX6_voices 9 = .ok (.iload_n 2, 1) := by decide +kernel
theorem dX6_voices_10 : decode cX6_voices 10 = .ok (.invokevirtual 153, 3) := by decide +kernel
theorem dX6_voices_13 : decode cX6_voices 13 = .ok (.ifCond .eq 15, 3) := by decide +kernel
theorem dX6_voices_16 : decode cX6_voices 16 = .ok (.iload_n 3, 1) := by decide +kernel
theorem dX6_voices_17 : decode cX6_voices 17 = .ok (.i2l, 1) := by decide +kernel
theorem dX6_voices_18 : decode cX6_voices 18 = .ok (.lconst 0, 1) := by decide +kernel
theorem dX6_voices_19 : decode cX6_voices 19 = .ok (.ldc2_w 71, 3) := by decide +kernel
theorem dX6_voices_22 : decode cX6_voices 22 = .ok (.invokestatic 56, 3) := by decide +kernel
theorem dX6_voices_25 : decode cX6_voices 25 = .ok (.ifCond .ne 5, 3) := by decide +kernel
theorem dX6_voices_28 : decode cX6_voices 28 = .ok (.iconst (-1), 1) := by decide +kernel
theorem dX6_voices_29 : decode cX6_voices 29 = .ok (.ireturn, 1) := by decide +kernel
theorem dX6_voices_30 : decode cX6_voices 30 = .ok (.aload_n 0, 1) := by decide +kernel
theorem dX6_voices_31 : decode cX6_voices 31 = .ok (.iconst 0, 1) := by decide +kernel
theorem dX6_voices_32 : decode cX6_voices 32 = .ok (.iload_n 1, 1) := by decide +kernel
theorem dX6_voices_33 : decode cX6_voices 33 = .ok (.iload_n 2, 1) := by decide +kernel
theorem dX6_voices_34 : decode cX6_voices 34 = .ok (.iconst 0, 1) := by decide +kernel
theorem dX6_voices_35 : decode cX6_voices 35 = .ok (.invokevirtual 156, 3) := by decide +kernel
theorem dX6_voices_38 : decode cX6_voices 38 = .ok (.istore 4, 2) := by decide +kernel
theorem dX6_voices_40 : decode cX6_voices 40 = .ok (.iload_n 3, 1) := by decide +kernel
theorem dX6_voices_41 : decode cX6_voices 41 = .ok (.ifCond .ne 10, 3) := by decide +kernel
theorem dX6_voices_44 : decode cX6_voices 44 = .ok (.aload_n 0, 1) := by decide +kernel
theorem dX6_voices_45 : decode cX6_voices 45 = .ok (.getfield 147, 3) := by decide +kernel
theorem dX6_voices_48 : decode cX6_voices 48 = .ok (.goto 25, 3) := by decide +kernel
theorem dX6_voices_51 : decode cX6_voices 51 = .ok (.iload_n 3, 1) := by decide +kernel
theorem dX6_voices_52 : decode cX6_voices 52 = .ok (.iconst 1, 1) := by decide +kernel
theorem dX6_voices_53 : decode cX6_voices 53 = .ok (.if_icmp .ne 10, 3) := by decide +kernel
theorem dX6_voices_56 : decode cX6_voices 56 = .ok (.aload_n 0, 1) := by decide +kernel
theorem dX6_voices_57 : decode cX6_voices 57 = .ok (.getfield 150, 3) := by decide +kernel
theorem dX6_voices_60 : decode cX6_voices 60 = .ok (.goto 13, 3) := by decide +kernel
theorem dX6_voices_63 : decode cX6_voices 63 = .ok (.iload 4, 2) := by decide +kernel
theorem dX6_voices_65 : decode cX6_voices 65 = .ok (.ifCond .eq 7, 3) := by decide +kernel
theorem dX6_voices_68 : decode cX6_voices 68 = .ok (.iconst 1, 1) := by decide +kernel
theorem dX6_voices_69 : decode cX6_voices 69 = .ok (.goto 4, 3) := by decide +kernel
theorem dX6_voices_72 : decode cX6_voices 72 = .ok (.iconst 0, 1) := by decide +kernel
theorem dX6_voices_73 : decode cX6_voices 73 = .ok (.ireturn, 1) := by decide +kernel
def rmX6_voices : Room := { frames := 4, cells := 0, slots := 0, locals := 98 }
def fX6_voices_28 (M : xm) : Option (Int32 × xm) := (some ((-1), M))
def fX6_voices_73 (t0 : Int32) (M : xm) : Option (Int32 × xm) := (some (t0, M))
def fX6_voices (x1 : Int32) (x2 : Int32) (x3 : Int32) (M : xm) : Option (Int32 × xm) := (fX6_isParish x1 M).bind (fun v1 => (if v1 = 0 then (fX6_voices_28 M) else (fX6_isBill x2 M).bind (fun v2 => (if v2 = 0 then (fX6_voices_28 M) else (fX6_in (Int32.toInt64 x3) 0 2 M).bind (fun v3 => (if v3 = 0 then (fX6_voices_28 M) else (fX6_passes 0 x1 x2 0 M).bind (fun q4 => (if x3 = 0 then (fX6_voices_73 (q4.2.1 60 17) q4.2) else (if x3 = 1 then (fX6_voices_73 (q4.2.1 60 18) q4.2) else (if q4.1 = 0 then (fX6_voices_73 0 q4.2) else (fX6_voices_73 1 q4.2)))))))))))
section
variable {p : Program} {l : Launch} {e : Env} {s : State} {m : MethodId} {args : Array Value} {below : List Frame} {meth : Method} {c : Code} {D : va_G} {cs : Nat → ClassId} {S : List Nat} {ad : Nat → Nat}
theorem bX6_voices_28 (Z : CX p s m args meth c cX6_voices 5 RX6 (some .int) D cs (xA S ad) S ad) (hS : xalm S) (M : xm) : XJ p l e rmX6_voices s m args below meth c D cs (xA S ad) S ad 5 (XRb below args s D cs S ad) 28 [] [] M (fX6_voices_28 M) := by
  unfold fX6_voices_28
  refine xj_iconst Z (-1) dX6_voices_28 (by decide) ?_
  exact xj_ret_b Z dX6_voices_29
theorem bX6_voices_73 (Z : CX p s m args meth c cX6_voices 5 RX6 (some .int) D cs (xA S ad) S ad) (hS : xalm S) (t0 : Int32) (M : xm) : XJ p l e rmX6_voices s m args below meth c D cs (xA S ad) S ad 5 (XRb below args s D cs S ad) 73 [] [.int t0] M (fX6_voices_73 t0 M) := by
  unfold fX6_voices_73
  exact xj_ret_b Z dX6_voices_73
end
theorem kX6_voices (l : Launch) (D : va_G) (cs : Nat → ClassId) (S : List Nat) (ad : Nat → Nat) (hd : xdist S ad) (hS : xalm S) (x1 : Int32) (x2 : Int32) (x3 : Int32) (M : xm) : ∀ r, fX6_voices x1 x2 x3 M = some r → Met l yX6_voices [Cond.code yX6_voices cX6_voices 5 (some .int)] rmX6_voices (XPc D cs S ad [.ref (ad 60), .int x1, .int x2, .int x3] M) (XQi D cs S ad r.1 r.2) 0 0 (xA S ad) := by
  refine xm_b (own := RX6) (lv := [(0, .ref (ad 60)), (1, .int x1), (2, .int x2), (3, .int x3)]) (by decide +kernel) rfl rfl (Nat.le_of_ble_eq_true rfl) hd (fun p e s m args below meth c Z => ?_)
  unfold fX6_voices
  refine xj_aload_n Z 0 dX6_voices_0 rfl rfl ?_
  refine xj_iload_n Z 1 dX6_voices_1 rfl rfl ?_
  refine xj_callVr Z (As := [.int x1]) (kX6_isParish l D cs S ad Z.2.2.2.2.2.1.dist hS x1 M) gw_X6_109 (hS 60 (by decide) (by decide)) rfl rfl (n := 1) (by decide +kernel) rfl ⟨rfl, rfl⟩ (by decide) rfl (Nat.le_of_ble_eq_true rfl) dX6_voices_2 (fun v1 => ?_)
  refine xj_if_eq Z 28 dX6_voices_5 (by decide) (fun _ => ?_) (fun _ => ?_)
  · refine xj_sub [] (lv' := []) rfl ?_
    exact bX6_voices_28 Z hS M
  · refine xj_aload_n Z 0 dX6_voices_8 rfl rfl ?_
    refine xj_iload_n Z 2 dX6_voices_9 rfl rfl ?_
    refine xj_callVr Z (As := [.int x2]) (kX6_isBill l D cs S ad Z.2.2.2.2.2.1.dist hS x2 M) gw_X6_153 (hS 60 (by decide) (by decide)) rfl rfl (n := 1) (by decide +kernel) rfl ⟨rfl, rfl⟩ (by decide) rfl (Nat.le_of_ble_eq_true rfl) dX6_voices_10 (fun v2 => ?_)
    refine xj_if_eq Z 28 dX6_voices_13 (by decide) (fun _ => ?_) (fun _ => ?_)
    · refine xj_sub [] (lv' := []) rfl ?_
      exact bX6_voices_28 Z hS M
    · refine xj_iload_n Z 3 dX6_voices_16 rfl rfl ?_
      refine xj_i2l Z dX6_voices_17 ?_
      refine xj_lconst Z 0 dX6_voices_18 (by decide) ?_
      refine xj_ldc2 Z dX6_voices_19 xb_420 ?_
      refine xj_callSr Z (As := [.long (Int32.toInt64 x3), .long 0, .long 2]) (kX6_in l D cs S ad Z.2.2.2.2.2.1.dist (Int32.toInt64 x3) 0 2 M) gw_X6_56 (n := 3) (by decide +kernel) rfl ⟨rfl, rfl⟩ (by decide) rfl (Nat.le_of_ble_eq_true rfl) dX6_voices_22 (fun v3 => ?_)
      refine xj_if_ne Z 30 dX6_voices_25 (by decide) (fun _ => ?_) (fun _ => ?_)
      · refine xj_aload_n Z 0 dX6_voices_30 rfl rfl ?_
        refine xj_iconst Z 0 dX6_voices_31 (by decide) ?_
        refine xj_iload_n Z 1 dX6_voices_32 rfl rfl ?_
        refine xj_iload_n Z 2 dX6_voices_33 rfl rfl ?_
        refine xj_iconst Z 0 dX6_voices_34 (by decide) ?_
        refine xj_callVb Z (As := [.int 0, .int x1, .int x2, .int 0]) (kX6_passes l D cs S ad Z.2.2.2.2.2.1.dist hS 0 x1 x2 0 M) gw_X6_156 (hS 60 (by decide) (by decide)) rfl rfl (n := 4) (by decide +kernel) rfl ⟨rfl, rfl⟩ (by decide) rfl (Nat.le_of_ble_eq_true rfl) dX6_voices_35 (fun q4 => ?_)
        refine xj_istore Z (lv' := [(4, .int q4.1), (0, .ref (ad 60)), (1, .int x1), (2, .int x2), (3, .int x3)]) dX6_voices_38 (by decide) rfl ?_
        refine xj_iload_n Z 4 dX6_voices_40 rfl rfl ?_
        refine xj_if_ne Z 51 dX6_voices_41 (by decide) (fun _ => ?_) (fun _ => ?_)
        · refine xj_iload_n Z 4 dX6_voices_51 rfl rfl ?_
          refine xj_iconst Z 1 dX6_voices_52 (by decide) ?_
          refine xj_icmp_ne Z 63 dX6_voices_53 (by decide) (fun _ => ?_) (fun _ => ?_)
          · refine xj_iload Z 0 dX6_voices_63 rfl ?_
            refine xj_if_eq Z 72 dX6_voices_65 (by decide) (fun _ => ?_) (fun _ => ?_)
            · refine xj_iconst Z 0 dX6_voices_72 (by decide) ?_
              refine xj_sub [] (lv' := []) rfl ?_
              exact bX6_voices_73 Z hS 0 q4.2
            · refine xj_iconst Z 1 dX6_voices_68 (by decide) ?_
              refine xj_goto Z 73 dX6_voices_69 (by decide) ?_
              refine xj_sub [] (lv' := []) rfl ?_
              exact bX6_voices_73 Z hS 1 q4.2
          · refine xj_aload_n Z 1 dX6_voices_56 rfl rfl ?_
            refine xg_X6_150 Z (hS 60 (by decide) (by decide)) dX6_voices_57 ?_
            refine xj_goto Z 73 dX6_voices_60 (by decide) ?_
            refine xj_sub [] (lv' := []) rfl ?_
            exact bX6_voices_73 Z hS (q4.2.1 60 18) q4.2
        · refine xj_aload_n Z 1 dX6_voices_44 rfl rfl ?_
          refine xg_X6_147 Z (hS 60 (by decide) (by decide)) dX6_voices_45 ?_
          refine xj_goto Z 73 dX6_voices_48 (by decide) ?_
          refine xj_sub [] (lv' := []) rfl ?_
          exact bX6_voices_73 Z hS (q4.2.1 60 17) q4.2
      · refine xj_sub [] (lv' := []) rfl ?_
        exact bX6_voices_28 Z hS M
/-! WalkingLawModel.isRead(II)Z -/
theorem dX6_isRead_0 : decode cX6_isRead 0 = .ok (.aload_n 0, 1) := by decide +kernel
theorem dX6_isRead_1 : decode cX6_isRead 1 = .ok (.aload_n 0, 1) := by decide +kernel
theorem dX6_isRead_2 : decode cX6_isRead 2 = .ok (.getfield 29, 3) := by decide +kernel
theorem dX6_isRead_5 : decode cX6_isRead 5 = .ok (.bipush 25, 2) := by decide +kernel
theorem dX6_isRead_7 : decode cX6_isRead 7 = .ok (.iload_n 1, 1) := by decide +kernel
theorem dX6_isRead_8 : decode cX6_isRead 8 = .ok (.imul, 1) := by decide +kernel
theorem dX6_isRead_9 : decode cX6_isRead 9 = .ok (.iaload, 1) := by decide +kernel
theorem dX6_isRead_10 : decode cX6_isRead 10 = .ok (.invokevirtual 106, 3) := by decide +kernel
theorem dX6_isRead_13 : decode cX6_isRead 13 = .ok (.istore_n 3, 1) := by decide +kernel
theorem dX6_isRead_14 : decode cX6_isRead 14 = .ok (.aload_n 0, 1) := by decide +kernel
theorem dX6_isRead_15 : decode cX6_isRead 15 = .ok (.iload_n 1, 1) := by decide +kernel
theorem dX6_isRead_16 : decode cX6_isRead 16 = .ok (.iload_n 3, 1) := by decide +kernel
theorem dX6_isRead_17 : decode cX6_isRead 17 = .ok (.iload_n 2, 1) := by decide +kernel
theorem dX6_isRead_18 : decode cX6_isRead 18 = .ok (.iconst 0, 1) := by decide +kernel
theorem dX6_isRead_19 : decode cX6_isRead 19 = .ok (.invokevirtual 156, 3) := by decide +kernel
theorem dX6_isRead_22 : decode cX6_isRead 22 = .ok (.ifCond .ne 5, 3) := by decide +kernel
theorem dX6_isRead_25 : decode cX6_isRead 25 = .ok (.iconst 0, 1) := by decide +kernel
theorem dX6_isRead_26 : decode cX6_isRead 26 = .ok (.ireturn, 1) := by decide +kernel
theorem dX6_isRead_27 : decode cX6_isRead 27 = .ok (.aload_n 0, 1) := by decide +kernel
theorem dX6_isRead_28 : decode cX6_isRead 28 = .ok (.getfield 29, 3) := by decide +kernel
theorem dX6_isRead_31 : decode cX6_isRead 31 = .ok (.bipush 25, 2) := by decide +kernel
theorem dX6_isRead_33 : decode cX6_isRead 33 = .ok (.iload_n 1, 1) := by decide +kernel
theorem dX6_isRead_34 : decode cX6_isRead 34 = .ok (.imul, 1) := by decide +kernel
theorem dX6_isRead_35 : decode cX6_isRead 35 = .ok (.bipush 16, 2) := by decide +kernel
theorem dX6_isRead_37 : decode cX6_isRead 37 = .ok (.iadd, 1) := by decide +kernel
theorem dX6_isRead_38 : decode cX6_isRead 38 = .ok (.iload_n 2, 1) := by decide +kernel
theorem dX6_isRead_39 : decode cX6_isRead 39 = .ok (.iadd, 1) := by decide +kernel
theorem dX6_isRead_40 : decode cX6_isRead 40 = .ok (.dup2, 1) := by decide +kernel
theorem dX6_isRead_41 : decode cX6_isRead 41 = .ok (.iaload, 1) := by decide +kernel
theorem dX6_isRead_42 : decode cX6_isRead 42 = .ok (.iconst 1, 1) := by decide +kernel
theorem dX6_isRead_43 : decode cX6_isRead 43 = .ok (.iload_n 3, 1) := by decide +kernel
theorem dX6_isRead_44 : decode cX6_isRead 44 = .ok (.ishl, 1) := by decide +kernel
theorem dX6_isRead_45 : decode cX6_isRead 45 = .ok (.ior, 1) := by decide +kernel
theorem dX6_isRead_46 : decode cX6_isRead 46 = .ok (.iastore, 1) := by decide +kernel
theorem dX6_isRead_47 : decode cX6_isRead 47 = .ok (.aload_n 0, 1) := by decide +kernel
theorem dX6_isRead_48 : decode cX6_isRead 48 = .ok (.getfield 29, 3) := by decide +kernel
theorem dX6_isRead_51 : decode cX6_isRead 51 = .ok (.bipush 25, 2) := by decide +kernel
theorem dX6_isRead_53 : decode cX6_isRead 53 = .ok (.iload_n 1, 1) := by decide +kernel
theorem dX6_isRead_54 : decode cX6_isRead 54 = .ok (.imul, 1) := by decide +kernel
theorem dX6_isRead_55 : decode cX6_isRead 55 = .ok (.bipush 20, 2) := by decide +kernel
theorem dX6_isRead_57 : decode cX6_isRead 57 = .ok (.iadd, 1) := by decide +kernel
theorem dX6_isRead_58 : decode cX6_isRead 58 = .ok (.iload_n 2, 1) := by decide +kernel
theorem dX6_isRead_59 : decode cX6_isRead 59 = .ok (.iadd, 1) := by decide +kernel
theorem dX6_isRead_60 : decode cX6_isRead 60 = .ok (.aload_n 0, 1) := by decide +kernel
theorem dX6_isRead_61 : decode cX6_isRead 61 = .ok (.getfield 29, 3) := by decide +kernel
theorem dX6_isRead_64 : decode cX6_isRead 64 = .ok (.bipush 25, 2) := by decide +kernel
theorem dX6_isRead_66 : decode cX6_isRead 66 = .ok (.iload_n 1, 1) := by decide +kernel
theorem dX6_isRead_67 : decode cX6_isRead 67 = .ok (.imul, 1) := by decide +kernel
theorem dX6_isRead_68 : decode cX6_isRead 68 = .ok (.bipush 20, 2) := by decide +kernel
theorem dX6_isRead_70 : decode cX6_isRead 70 = .ok (.iadd, 1) := by decide +kernel
theorem dX6_isRead_71 : decode cX6_isRead 71 = .ok (.iload_n 2, 1) := by decide +kernel
theorem dX6_isRead_72 : decode cX6_isRead 72 = .ok (.iadd, 1) := by decide +kernel
theorem dX6_isRead_73 : decode cX6_isRead 73 = .ok (.iaload, 1) := by decide +kernel
theorem dX6_isRead_74 : decode cX6_isRead 74 = .ok (.bipush (-4), 2) := by decide +kernel
theorem dX6_isRead_76 : decode cX6_isRead 76 = .ok (.if_icmp .ne 7, 3) := by decide +kernel
theorem dX6_isRead_79 : decode cX6_isRead 79 = .ok (.iload_n 3, 1) := by decide +kernel
theorem dX6_isRead_80 : decode cX6_isRead 80 = .ok (.goto 17, 3) := by decide +kernel
theorem dX6_isRead_83 : decode cX6_isRead 83 = .ok (.aload_n 0, 1) := by decide +kernel
theorem dX6_isRead_84 : decode cX6_isRead 84 = .ok (.getfield 29, 3) := by decide +kernel
theorem dX6_isRead_87 : decode cX6_isRead 87 = .ok (.bipush 25, 2) := by decide +kernel
theorem dX6_isRead_89 : decode cX6_isRead 89 = .ok (.iload_n 1, 1) := by decide +kernel
theorem dX6_isRead_90 : decode cX6_isRead 90 = .ok (.imul, 1) := by decide +kernel
theorem dX6_isRead_91 : decode cX6_isRead 91 = .ok (.bipush 20, 2) := by decide +kernel
theorem dX6_isRead_93 : decode cX6_isRead 93 = .ok (.iadd, 1) := by decide +kernel
theorem dX6_isRead_94 : decode cX6_isRead 94 = .ok (.iload_n 2, 1) := by decide +kernel
theorem dX6_isRead_95 : decode cX6_isRead 95 = .ok (.iadd, 1) := by decide +kernel
theorem dX6_isRead_96 : decode cX6_isRead 96 = .ok (.iaload, 1) := by decide +kernel
theorem dX6_isRead_97 : decode cX6_isRead 97 = .ok (.iastore, 1) := by decide +kernel
theorem dX6_isRead_98 : decode cX6_isRead 98 = .ok (.iconst 1, 1) := by decide +kernel
theorem dX6_isRead_99 : decode cX6_isRead 99 = .ok (.ireturn, 1) := by decide +kernel
def rmX6_isRead : Room := { frames := 4, cells := 0, slots := 0, locals := 98 }
def fX6_isRead_97 (t1 : Int32) (t2 : Int32) (M : xm) : Option (Int32 × xm) := xchk t1 100 (xl (up M 67 (t1 : Int32).toNatClampNeg t2) (fun M1 => (xbo 1 (some (1, M1)))))
def fX6_isRead (x1 : Int32) (x2 : Int32) (M : xm) : Option (Int32 × xm) := xchk (25 * x1) 100 ((fX6_parishOf (M.1 67 ((25 * x1)).toNatClampNeg) M).bind (fun v2 => (fX6_passes x1 v2 x2 0 M).bind (fun q3 => (if q3.1 = 0 then (xbo 0 (some (0, q3.2))) else xl (((25 * x1) + 16) + x2) (fun v4 => xchk v4 100 (xchk v4 100 (xl (up q3.2 67 (v4 : Int32).toNatClampNeg ((q3.2.1 67 v4.toNatClampNeg) ||| (1 <<< (v2 &&& 31)))) (fun M5 => xchk (((25 * x1) + 20) + x2) 100 ((if (M5.1 67 ((((25 * x1) + 20) + x2)).toNatClampNeg) = (-4) then (fX6_isRead_97 (((25 * x1) + 20) + x2) v2 M5) else xchk (((25 * x1) + 20) + x2) 100 ((fX6_isRead_97 (((25 * x1) + 20) + x2) (M5.1 67 ((((25 * x1) + 20) + x2)).toNatClampNeg) M5))))))))))))
section
variable {p : Program} {l : Launch} {e : Env} {s : State} {m : MethodId} {args : Array Value} {below : List Frame} {meth : Method} {c : Code} {D : va_G} {cs : Nat → ClassId} {S : List Nat} {ad : Nat → Nat}
theorem bX6_isRead_97 (Z : CX p s m args meth c cX6_isRead 4 RX6 (some .boolean) D cs (xA S ad) S ad) (hS : xalm S) (t1 : Int32) (t2 : Int32) (M : xm) : XJ p l e rmX6_isRead s m args below meth c D cs (xA S ad) S ad 4 (XRb below args s D cs S ad) 97 [] [.int t2, .int t1, .ref (ad 67)] M (fX6_isRead_97 t1 t2 M) := by
  unfold fX6_isRead_97
  refine xj_iast Z (hS 67 (by decide) (by decide)) rfl dX6_isRead_97 (fun M1 _ => ?_)
  refine xj_iconst Z 1 dX6_isRead_98 (by decide) ?_
  exact xj_zret_b Z dX6_isRead_99
end
theorem kX6_isRead (l : Launch) (D : va_G) (cs : Nat → ClassId) (S : List Nat) (ad : Nat → Nat) (hd : xdist S ad) (hS : xalm S) (x1 : Int32) (x2 : Int32) (M : xm) : ∀ r, fX6_isRead x1 x2 M = some r → Met l yX6_isRead [Cond.code yX6_isRead cX6_isRead 4 (some .boolean)] rmX6_isRead (XPc D cs S ad [.ref (ad 60), .int x1, .int x2] M) (XQi D cs S ad r.1 r.2) 0 0 (xA S ad) := by
  refine xm_b (own := RX6) (lv := [(0, .ref (ad 60)), (1, .int x1), (2, .int x2)]) (by decide +kernel) rfl rfl (Nat.le_of_ble_eq_true rfl) hd (fun p e s m args below meth c Z => ?_)
  unfold fX6_isRead
  refine xj_aload_n Z 0 dX6_isRead_0 rfl rfl ?_
  refine xj_aload_n Z 0 dX6_isRead_1 rfl rfl ?_
  refine xg_X6_29 Z (hS 60 (by decide) (by decide)) dX6_isRead_2 ?_
  refine xj_bipush Z 25 dX6_isRead_5 (by decide) ?_
  refine xj_iload_n Z 1 dX6_isRead_7 rfl rfl ?_
  refine xj_imul Z dX6_isRead_8 ?_
  refine xj_iald Z (hS 67 (by decide) (by decide)) rfl dX6_isRead_9 (fun _ => ?_)
  refine xj_callVr Z (As := [.int (M.1 67 ((25 * x1)).toNatClampNeg)]) (kX6_parishOf l D cs S ad Z.2.2.2.2.2.1.dist hS (M.1 67 ((25 * x1)).toNatClampNeg) M) gw_X6_106 (hS 60 (by decide) (by decide)) rfl rfl (n := 1) (by decide +kernel) rfl ⟨rfl, rfl⟩ (by decide) rfl (Nat.le_of_ble_eq_true rfl) dX6_isRead_10 (fun v2 => ?_)
  refine xj_istore_n Z (lv' := [(3, .int v2), (0, .ref (ad 60)), (1, .int x1), (2, .int x2)]) dX6_isRead_13 rfl (by decide) rfl ?_
  refine xj_aload_n Z 1 dX6_isRead_14 rfl rfl ?_
  refine xj_iload_n Z 2 dX6_isRead_15 rfl rfl ?_
  refine xj_iload_n Z 0 dX6_isRead_16 rfl rfl ?_
  refine xj_iload_n Z 3 dX6_isRead_17 rfl rfl ?_
  refine xj_iconst Z 0 dX6_isRead_18 (by decide) ?_
  refine xj_callVb Z (As := [.int x1, .int v2, .int x2, .int 0]) (kX6_passes l D cs S ad Z.2.2.2.2.2.1.dist hS x1 v2 x2 0 M) gw_X6_156 (hS 60 (by decide) (by decide)) rfl rfl (n := 4) (by decide +kernel) rfl ⟨rfl, rfl⟩ (by decide) rfl (Nat.le_of_ble_eq_true rfl) dX6_isRead_19 (fun q3 => ?_)
  refine xj_if_ne Z 27 dX6_isRead_22 (by decide) (fun _ => ?_) (fun _ => ?_)
  · refine xj_aload_n Z 1 dX6_isRead_27 rfl rfl ?_
    refine xg_X6_29 Z (hS 60 (by decide) (by decide)) dX6_isRead_28 ?_
    refine xj_bipush Z 25 dX6_isRead_31 (by decide) ?_
    refine xj_iload_n Z 2 dX6_isRead_33 rfl rfl ?_
    refine xj_imul Z dX6_isRead_34 ?_
    refine xj_bipush Z 16 dX6_isRead_35 (by decide) ?_
    refine xj_iadd Z dX6_isRead_37 ?_
    refine xj_iload_n Z 3 dX6_isRead_38 rfl rfl ?_
    refine xj_iadd Z dX6_isRead_39 ?_
    refine xj_top (fun v4 => ?_)
    refine xj_dup2 Z dX6_isRead_40 rfl rfl ?_
    refine xj_iald Z (hS 67 (by decide) (by decide)) rfl dX6_isRead_41 (fun _ => ?_)
    refine xj_iconst Z 1 dX6_isRead_42 (by decide) ?_
    refine xj_iload_n Z 0 dX6_isRead_43 rfl rfl ?_
    refine xj_ishl Z dX6_isRead_44 ?_
    refine xj_ior Z dX6_isRead_45 ?_
    refine xj_iast Z (hS 67 (by decide) (by decide)) rfl dX6_isRead_46 (fun M5 _ => ?_)
    refine xj_aload_n Z 1 dX6_isRead_47 rfl rfl ?_
    refine xg_X6_29 Z (hS 60 (by decide) (by decide)) dX6_isRead_48 ?_
    refine xj_bipush Z 25 dX6_isRead_51 (by decide) ?_
    refine xj_iload_n Z 2 dX6_isRead_53 rfl rfl ?_
    refine xj_imul Z dX6_isRead_54 ?_
    refine xj_bipush Z 20 dX6_isRead_55 (by decide) ?_
    refine xj_iadd Z dX6_isRead_57 ?_
    refine xj_iload_n Z 3 dX6_isRead_58 rfl rfl ?_
    refine xj_iadd Z dX6_isRead_59 ?_
    refine xj_aload_n Z 1 dX6_isRead_60 rfl rfl ?_
    refine xg_X6_29 Z (hS 60 (by decide) (by decide)) dX6_isRead_61 ?_
    refine xj_bipush Z 25 dX6_isRead_64 (by decide) ?_
    refine xj_iload_n Z 2 dX6_isRead_66 rfl rfl ?_
    refine xj_imul Z dX6_isRead_67 ?_
    refine xj_bipush Z 20 dX6_isRead_68 (by decide) ?_
    refine xj_iadd Z dX6_isRead_70 ?_
    refine xj_iload_n Z 3 dX6_isRead_71 rfl rfl ?_
    refine xj_iadd Z dX6_isRead_72 ?_
    refine xj_iald Z (hS 67 (by decide) (by decide)) rfl dX6_isRead_73 (fun _ => ?_)
    refine xj_bipush Z (-4) dX6_isRead_74 (by decide) ?_
    refine xj_icmp_ne Z 83 dX6_isRead_76 (by decide) (fun _ => ?_) (fun _ => ?_)
    · refine xj_aload_n Z 1 dX6_isRead_83 rfl rfl ?_
      refine xg_X6_29 Z (hS 60 (by decide) (by decide)) dX6_isRead_84 ?_
      refine xj_bipush Z 25 dX6_isRead_87 (by decide) ?_
      refine xj_iload_n Z 2 dX6_isRead_89 rfl rfl ?_
      refine xj_imul Z dX6_isRead_90 ?_
      refine xj_bipush Z 20 dX6_isRead_91 (by decide) ?_
      refine xj_iadd Z dX6_isRead_93 ?_
      refine xj_iload_n Z 3 dX6_isRead_94 rfl rfl ?_
      refine xj_iadd Z dX6_isRead_95 ?_
      refine xj_iald Z (hS 67 (by decide) (by decide)) rfl dX6_isRead_96 (fun _ => ?_)
      refine xj_sub [] (lv' := []) rfl ?_
      exact bX6_isRead_97 Z hS (((25 * x1) + 20) + x2) (M5.1 67 ((((25 * x1) + 20) + x2)).toNatClampNeg) M5
    · refine xj_iload_n Z 0 dX6_isRead_79 rfl rfl ?_
      refine xj_goto Z 97 dX6_isRead_80 (by decide) ?_
      refine xj_sub [] (lv' := []) rfl ?_
      exact bX6_isRead_97 Z hS (((25 * x1) + 20) + x2) v2 M5
  · refine xj_iconst Z 0 dX6_isRead_25 (by decide) ?_
    exact xj_zret_b Z dX6_isRead_26
