/-! WalkingLawModel.isHeld(II)Z -/
theorem dX6_isHeld_0 : decode cX6_isHeld 0 = .ok (.aload_n 0, 1) := by decide +kernel
theorem dX6_isHeld_1 : decode cX6_isHeld 1 = .ok (.getfield 29, 3) := by decide +kernel
theorem dX6_isHeld_4 : decode cX6_isHeld 4 = .ok (.bipush 25, 2) := by decide +kernel
theorem dX6_isHeld_6 : decode cX6_isHeld 6 = .ok (.iload_n 1, 1) := by decide +kernel
theorem dX6_isHeld_7 : decode cX6_isHeld 7 = .ok (.imul, 1) := by decide +kernel
theorem dX6_isHeld_8 : decode cX6_isHeld 8 = .ok (.bipush 16, 2) := by decide +kernel
theorem dX6_isHeld_10 : decode cX6_isHeld 10 = .ok (.iadd, 1) := by decide +kernel
theorem dX6_isHeld_11 : decode cX6_isHeld 11 = .ok (.iload_n 2, 1) := by decide +kernel
theorem dX6_isHeld_12 : decode cX6_isHeld 12 = .ok (.iadd, 1) := by decide +kernel
theorem dX6_isHeld_13 : decode cX6_isHeld 13 = .ok (.iaload, 1) := by decide +kernel
theorem dX6_isHeld_14 : decode cX6_isHeld 14 = .ok (.iconst 1, 1) := by decide +kernel
theorem dX6_isHeld_15 : decode cX6_isHeld 15 = .ok (.aload_n 0, 1) := by decide +kernel
theorem dX6_isHeld_16 : decode cX6_isHeld 16 = .ok (.getfield 17, 3) := by decide +kernel
theorem dX6_isHeld_19 : decode cX6_isHeld 19 = .ok (.iconst 0, 1) := by decide +kernel
theorem dX6_isHeld_20 : decode cX6_isHeld 20 = .ok (.iaload, 1) := by decide +kernel
theorem dX6_isHeld_21 : decode cX6_isHeld 21 = .ok (.ishl, 1) := by decide +kernel
theorem dX6_isHeld_22 : decode cX6_isHeld 22 = .ok (.iconst 1, 1) := by decide +kernel
theorem dX6_isHeld_23 : decode cX6_isHeld 23 = .ok (.isub, 1) := by decide +kernel
theorem dX6_isHeld_24 : decode cX6_isHeld 24 = .ok (.if_icmp .ne 7, 3) := by decide +kernel
theorem dX6_isHeld_27 : decode cX6_isHeld 27 = .ok (.iconst 1, 1) := by decide +kernel
theorem dX6_isHeld_28 : decode cX6_isHeld 28 = .ok (.goto 4, 3) := by decide +kernel
theorem dX6_isHeld_31 : decode cX6_isHeld 31 = .ok (.iconst 0, 1) := by decide +kernel
theorem dX6_isHeld_32 : decode cX6_isHeld 32 = .ok (.ireturn, 1) := by decide +kernel
def rmX6_isHeld : Room := { frames := 0, cells := 0, slots := 0, locals := 0 }
def fX6_isHeld_32 (t0 : Int32) (M : xm) : Option (Int32) := (xbo t0 (some t0))
def fX6_isHeld (x1 : Int32) (x2 : Int32) (M : xm) : Option (Int32) := xchk (((25 * x1) + 16) + x2) 100 (xchk 0 2 ((if (M.1 67 ((((25 * x1) + 16) + x2)).toNatClampNeg) = ((1 <<< ((M.1 63 (0 : Int32).toNatClampNeg) &&& 31)) - 1) then (fX6_isHeld_32 1 M) else (fX6_isHeld_32 0 M))))
section
variable {p : Program} {l : Launch} {e : Env} {s : State} {m : MethodId} {args : Array Value} {below : List Frame} {meth : Method} {c : Code} {D : va_G} {cs : Nat → ClassId} {S : List Nat} {ad : Nat → Nat}
theorem bX6_isHeld_32 (Z : CX p s m args meth c cX6_isHeld 3 RX6 (some .boolean) D cs (xA S ad) S ad) (hS : xalm S) (t0 : Int32) (M : xm) : XJ p l e rmX6_isHeld s m args below meth c D cs (xA S ad) S ad 3 (XRr below args s D cs S ad M) 32 [] [.int t0] M (fX6_isHeld_32 t0 M) := by
  unfold fX6_isHeld_32
  exact xj_zret_r Z dX6_isHeld_32
end
theorem kX6_isHeld (l : Launch) (D : va_G) (cs : Nat → ClassId) (S : List Nat) (ad : Nat → Nat) (hd : xdist S ad) (hS : xalm S) (x1 : Int32) (x2 : Int32) (M : xm) : ∀ r, fX6_isHeld x1 x2 M = some r → Met l yX6_isHeld [Cond.code yX6_isHeld cX6_isHeld 3 (some .boolean)] rmX6_isHeld (XPc D cs S ad [.ref (ad 60), .int x1, .int x2] M) (XQi D cs S ad r M) 0 0 (xA S ad) := by
  refine xm_r (own := RX6) (lv := [(0, .ref (ad 60)), (1, .int x1), (2, .int x2)]) (by decide +kernel) rfl rfl (Nat.le_of_ble_eq_true rfl) hd (fun p e s m args below meth c Z => ?_)
  unfold fX6_isHeld
  refine xj_aload_n Z 0 dX6_isHeld_0 rfl rfl ?_
  refine xg_X6_29 Z (hS 60 (by decide) (by decide)) dX6_isHeld_1 ?_
  refine xj_bipush Z 25 dX6_isHeld_4 (by decide) ?_
  refine xj_iload_n Z 1 dX6_isHeld_6 rfl rfl ?_
  refine xj_imul Z dX6_isHeld_7 ?_
  refine xj_bipush Z 16 dX6_isHeld_8 (by decide) ?_
  refine xj_iadd Z dX6_isHeld_10 ?_
  refine xj_iload_n Z 2 dX6_isHeld_11 rfl rfl ?_
  refine xj_iadd Z dX6_isHeld_12 ?_
  refine xj_iald Z (hS 67 (by decide) (by decide)) rfl dX6_isHeld_13 (fun _ => ?_)
  refine xj_iconst Z 1 dX6_isHeld_14 (by decide) ?_
  refine xj_aload_n Z 0 dX6_isHeld_15 rfl rfl ?_
  refine xg_X6_17 Z (hS 60 (by decide) (by decide)) dX6_isHeld_16 ?_
  refine xj_iconst Z 0 dX6_isHeld_19 (by decide) ?_
  refine xj_iald Z (hS 63 (by decide) (by decide)) rfl dX6_isHeld_20 (fun _ => ?_)
  refine xj_ishl Z dX6_isHeld_21 ?_
  refine xj_iconst Z 1 dX6_isHeld_22 (by decide) ?_
  refine xj_isub Z dX6_isHeld_23 ?_
  refine xj_icmp_ne Z 31 dX6_isHeld_24 (by decide) (fun _ => ?_) (fun _ => ?_)
  · refine xj_iconst Z 0 dX6_isHeld_31 (by decide) ?_
    refine xj_sub [] (lv' := []) rfl ?_
    exact bX6_isHeld_32 Z hS 0 M
  · refine xj_iconst Z 1 dX6_isHeld_27 (by decide) ?_
    refine xj_goto Z 32 dX6_isHeld_28 (by decide) ?_
    refine xj_sub [] (lv' := []) rfl ?_
    exact bX6_isHeld_32 Z hS 1 M
/-! WalkingLawModel.read(I)I -/
theorem dX6_read_0 : decode cX6_read 0 = .ok (.aload_n 0, 1) := by decide +kernel
theorem dX6_read_1 : decode cX6_read 1 = .ok (.iload_n 1, 1) := by decide +kernel
theorem dX6_read_2 : decode cX6_read 2 = .ok (.invokevirtual 153, 3) := by decide +kernel
theorem dX6_read_5 : decode cX6_read 5 = .ok (.ifCond .ne 7, 3) := by decide +kernel
theorem dX6_read_8 : decode cX6_read 8 = .ok (.iconst (-1), 1) := by decide +kernel
theorem dX6_read_9 : decode cX6_read 9 = .ok (.goto 17, 3) := by decide +kernel
theorem dX6_read_12 : decode cX6_read 12 = .ok (.aload_n 0, 1) := by decide +kernel
theorem dX6_read_13 : decode cX6_read 13 = .ok (.iconst 0, 1) := by decide +kernel
theorem dX6_read_14 : decode cX6_read 14 = .ok (.iload_n 1, 1) := by decide +kernel
theorem dX6_read_15 : decode cX6_read 15 = .ok (.invokevirtual 160, 3) := by decide +kernel
theorem dX6_read_18 : decode cX6_read 18 = .ok (.ifCond .eq 7, 3) := by decide +kernel
theorem dX6_read_21 : decode cX6_read 21 = .ok (.iconst 1, 1) := by decide +kernel
theorem dX6_read_22 : decode cX6_read 22 = .ok (.goto 4, 3) := by decide +kernel
theorem dX6_read_25 : decode cX6_read 25 = .ok (.iconst 0, 1) := by decide +kernel
theorem dX6_read_26 : decode cX6_read 26 = .ok (.ireturn, 1) := by decide +kernel
def rmX6_read : Room := { frames := 5, cells := 0, slots := 0, locals := 121 }
def fX6_read_26 (t0 : Int32) (M : xm) : Option (Int32 × xm) := (some (t0, M))
def fX6_read (x1 : Int32) (M : xm) : Option (Int32 × xm) := (fX6_isBill x1 M).bind (fun v1 => (if v1 = 0 then (fX6_read_26 (-1) M) else (fX6_isRead 0 x1 M).bind (fun q2 => (if q2.1 = 0 then (fX6_read_26 0 q2.2) else (fX6_read_26 1 q2.2)))))
section
variable {p : Program} {l : Launch} {e : Env} {s : State} {m : MethodId} {args : Array Value} {below : List Frame} {meth : Method} {c : Code} {D : va_G} {cs : Nat → ClassId} {S : List Nat} {ad : Nat → Nat}
theorem bX6_read_26 (Z : CX p s m args meth c cX6_read 2 RX6 (some .int) D cs (xA S ad) S ad) (hS : xalm S) (t0 : Int32) (M : xm) : XJ p l e rmX6_read s m args below meth c D cs (xA S ad) S ad 2 (XRb below args s D cs S ad) 26 [] [.int t0] M (fX6_read_26 t0 M) := by
  unfold fX6_read_26
  exact xj_ret_b Z dX6_read_26
end
theorem kX6_read (l : Launch) (D : va_G) (cs : Nat → ClassId) (S : List Nat) (ad : Nat → Nat) (hd : xdist S ad) (hS : xalm S) (x1 : Int32) (M : xm) : ∀ r, fX6_read x1 M = some r → Met l yX6_read [Cond.code yX6_read cX6_read 2 (some .int)] rmX6_read (XPc D cs S ad [.ref (ad 60), .int x1] M) (XQi D cs S ad r.1 r.2) 0 0 (xA S ad) := by
  refine xm_b (own := RX6) (lv := [(0, .ref (ad 60)), (1, .int x1)]) (by decide +kernel) rfl rfl (Nat.le_of_ble_eq_true rfl) hd (fun p e s m args below meth c Z => ?_)
  unfold fX6_read
  refine xj_aload_n Z 0 dX6_read_0 rfl rfl ?_
  refine xj_iload_n Z 1 dX6_read_1 rfl rfl ?_
  refine xj_callVr Z (As := [.int x1]) (kX6_isBill l D cs S ad Z.2.2.2.2.2.1.dist hS x1 M) gw_X6_153 (hS 60 (by decide) (by decide)) rfl rfl (n := 1) (by decide +kernel) rfl ⟨rfl, rfl⟩ (by decide) rfl (Nat.le_of_ble_eq_true rfl) dX6_read_2 (fun v1 => ?_)
  refine xj_if_ne Z 12 dX6_read_5 (by decide) (fun _ => ?_) (fun _ => ?_)
  · refine xj_aload_n Z 0 dX6_read_12 rfl rfl ?_
    refine xj_iconst Z 0 dX6_read_13 (by decide) ?_
    refine xj_iload_n Z 1 dX6_read_14 rfl rfl ?_
    refine xj_callVb Z (As := [.int 0, .int x1]) (kX6_isRead l D cs S ad Z.2.2.2.2.2.1.dist hS 0 x1 M) gw_X6_160 (hS 60 (by decide) (by decide)) rfl rfl (n := 2) (by decide +kernel) rfl ⟨rfl, rfl⟩ (by decide) rfl (Nat.le_of_ble_eq_true rfl) dX6_read_15 (fun q2 => ?_)
    refine xj_if_eq Z 25 dX6_read_18 (by decide) (fun _ => ?_) (fun _ => ?_)
    · refine xj_iconst Z 0 dX6_read_25 (by decide) ?_
      refine xj_sub [] (lv' := []) rfl ?_
      exact bX6_read_26 Z hS 0 q2.2
    · refine xj_iconst Z 1 dX6_read_21 (by decide) ?_
      refine xj_goto Z 26 dX6_read_22 (by decide) ?_
      refine xj_sub [] (lv' := []) rfl ?_
      exact bX6_read_26 Z hS 1 q2.2
  · refine xj_iconst Z (-1) dX6_read_8 (by decide) ?_
    refine xj_goto Z 26 dX6_read_9 (by decide) ?_
    refine xj_sub [] (lv' := []) rfl ?_
    exact bX6_read_26 Z hS (-1) M
/-! WalkingLawModel.bill(II)I -/
theorem dX6_bill_0 : decode cX6_bill 0 = .ok (.aload_n 0, 1) := by decide +kernel
theorem dX6_bill_1 : decode cX6_bill 1 = .ok (.iload_n 1, 1) := by decide +kernel
theorem dX6_bill_2 : decode cX6_bill 2 = .ok (.invokevirtual 153, 3) := by decide +kernel
theorem dX6_bill_5 : decode cX6_bill 5 = .ok (.ifCond .eq 15, 3) := by decide +kernel
theorem dX6_bill_8 : decode cX6_bill 8 = .ok (.iload_n 2, 1) := by decide +kernel
theorem dX6_bill_9 : decode cX6_bill 9 = .ok (.i2l, 1) := by decide +kernel
theorem dX6_bill_10 : decode cX6_bill 10 = .ok (.lconst 0, 1) := by decide +kernel
theorem dX6_bill_11 : decode cX6_bill 11 = .ok (.ldc2_w 71, 3) := by decide +kernel
theorem dX6_bill_14 : decode cX6_bill 14 = .ok (.invokestatic 56, 3) := by decide +kernel
theorem dX6_bill_17 : decode cX6_bill 17 = .ok (.ifCond .ne 7, 3) := by decide +kernel
theorem dX6_bill_20 : decode cX6_bill 20 = .ok (.iconst (-1), 1) := by decide +kernel
theorem dX6_bill_21 : decode cX6_bill 21 = .ok (.goto 50, 3) := by decide +kernel
theorem dX6_bill_24 : decode cX6_bill 24 = .ok (.iload_n 2, 1) := by decide +kernel
theorem dX6_bill_25 : decode cX6_bill 25 = .ok (.ifCond .ne 15, 3) := by decide +kernel
theorem dX6_bill_28 : decode cX6_bill 28 = .ok (.aload_n 0, 1) := by decide +kernel
theorem dX6_bill_29 : decode cX6_bill 29 = .ok (.getfield 29, 3) := by decide +kernel
theorem dX6_bill_32 : decode cX6_bill 32 = .ok (.bipush 16, 2) := by decide +kernel
theorem dX6_bill_34 : decode cX6_bill 34 = .ok (.iload_n 1, 1) := by decide +kernel
theorem dX6_bill_35 : decode cX6_bill 35 = .ok (.iadd, 1) := by decide +kernel
theorem dX6_bill_36 : decode cX6_bill 36 = .ok (.iaload, 1) := by decide +kernel
theorem dX6_bill_37 : decode cX6_bill 37 = .ok (.goto 34, 3) := by decide +kernel
theorem dX6_bill_40 : decode cX6_bill 40 = .ok (.iload_n 2, 1) := by decide +kernel
theorem dX6_bill_41 : decode cX6_bill 41 = .ok (.iconst 1, 1) := by decide +kernel
theorem dX6_bill_42 : decode cX6_bill 42 = .ok (.if_icmp .ne 20, 3) := by decide +kernel
theorem dX6_bill_45 : decode cX6_bill 45 = .ok (.aload_n 0, 1) := by decide +kernel
theorem dX6_bill_46 : decode cX6_bill 46 = .ok (.iconst 0, 1) := by decide +kernel
theorem dX6_bill_47 : decode cX6_bill 47 = .ok (.iload_n 1, 1) := by decide +kernel
theorem dX6_bill_48 : decode cX6_bill 48 = .ok (.invokevirtual 164, 3) := by decide +kernel
theorem dX6_bill_51 : decode cX6_bill 51 = .ok (.ifCond .eq 7, 3) := by decide +kernel
theorem dX6_bill_54 : decode cX6_bill 54 = .ok (.iconst 1, 1) := by decide +kernel
theorem dX6_bill_55 : decode cX6_bill 55 = .ok (.goto 16, 3) := by decide +kernel
theorem dX6_bill_58 : decode cX6_bill 58 = .ok (.iconst 0, 1) := by decide +kernel
theorem dX6_bill_59 : decode cX6_bill 59 = .ok (.goto 12, 3) := by decide +kernel
theorem dX6_bill_62 : decode cX6_bill 62 = .ok (.aload_n 0, 1) := by decide +kernel
theorem dX6_bill_63 : decode cX6_bill 63 = .ok (.getfield 29, 3) := by decide +kernel
theorem dX6_bill_66 : decode cX6_bill 66 = .ok (.bipush 20, 2) := by decide +kernel
theorem dX6_bill_68 : decode cX6_bill 68 = .ok (.iload_n 1, 1) := by decide +kernel
theorem dX6_bill_69 : decode cX6_bill 69 = .ok (.iadd, 1) := by decide +kernel
theorem dX6_bill_70 : decode cX6_bill 70 = .ok (.iaload, 1) := by decide +kernel
theorem dX6_bill_71 : decode cX6_bill 71 = .ok (.ireturn, 1) := by decide +kernel
def rmX6_bill : Room := { frames := 2, cells := 0, slots := 0, locals := 46 }
def fX6_bill_71 (t0 : Int32) (M : xm) : Option (Int32) := (some t0)
def fX6_bill_20 (M : xm) : Option (Int32) := (fX6_bill_71 (-1) M)
def fX6_bill (x1 : Int32) (x2 : Int32) (M : xm) : Option (Int32) := (fX6_isBill x1 M).bind (fun v1 => (if v1 = 0 then (fX6_bill_20 M) else (fX6_in (Int32.toInt64 x2) 0 2 M).bind (fun v2 => (if v2 = 0 then (fX6_bill_20 M) else (if x2 = 0 then xchk (16 + x1) 100 ((fX6_bill_71 (M.1 67 ((16 + x1)).toNatClampNeg) M)) else (if x2 = 1 then (fX6_isHeld 0 x1 M).bind (fun v3 => (if v3 = 0 then (fX6_bill_71 0 M) else (fX6_bill_71 1 M))) else xchk (20 + x1) 100 ((fX6_bill_71 (M.1 67 ((20 + x1)).toNatClampNeg) M))))))))
section
variable {p : Program} {l : Launch} {e : Env} {s : State} {m : MethodId} {args : Array Value} {below : List Frame} {meth : Method} {c : Code} {D : va_G} {cs : Nat → ClassId} {S : List Nat} {ad : Nat → Nat}
theorem bX6_bill_71 (Z : CX p s m args meth c cX6_bill 3 RX6 (some .int) D cs (xA S ad) S ad) (hS : xalm S) (t0 : Int32) (M : xm) : XJ p l e rmX6_bill s m args below meth c D cs (xA S ad) S ad 3 (XRr below args s D cs S ad M) 71 [] [.int t0] M (fX6_bill_71 t0 M) := by
  unfold fX6_bill_71
  exact xj_ret_r Z dX6_bill_71
theorem bX6_bill_20 (Z : CX p s m args meth c cX6_bill 3 RX6 (some .int) D cs (xA S ad) S ad) (hS : xalm S) (M : xm) : XJ p l e rmX6_bill s m args below meth c D cs (xA S ad) S ad 3 (XRr below args s D cs S ad M) 20 [] [] M (fX6_bill_20 M) := by
  unfold fX6_bill_20
  refine xj_iconst Z (-1) dX6_bill_20 (by decide) ?_
  refine xj_goto Z 71 dX6_bill_21 (by decide) ?_
  exact bX6_bill_71 Z hS (-1) M
end
theorem kX6_bill (l : Launch) (D : va_G) (cs : Nat → ClassId) (S : List Nat) (ad : Nat → Nat) (hd : xdist S ad) (hS : xalm S) (x1 : Int32) (x2 : Int32) (M : xm) : ∀ r, fX6_bill x1 x2 M = some r → Met l yX6_bill [Cond.code yX6_bill cX6_bill 3 (some .int)] rmX6_bill (XPc D cs S ad [.ref (ad 60), .int x1, .int x2] M) (XQi D cs S ad r M) 0 0 (xA S ad) := by
  refine xm_r (own := RX6) (lv := [(0, .ref (ad 60)), (1, .int x1), (2, .int x2)]) (by decide +kernel) rfl rfl (Nat.le_of_ble_eq_true rfl) hd (fun p e s m args below meth c Z => ?_)
  unfold fX6_bill
  refine xj_aload_n Z 0 dX6_bill_0 rfl rfl ?_
  refine xj_iload_n Z 1 dX6_bill_1 rfl rfl ?_
  refine xj_callVr Z (As := [.int x1]) (kX6_isBill l D cs S ad Z.2.2.2.2.2.1.dist hS x1 M) gw_X6_153 (hS 60 (by decide) (by decide)) rfl rfl (n := 1) (by decide +kernel) rfl ⟨rfl, rfl⟩ (by decide) rfl (Nat.le_of_ble_eq_true rfl) dX6_bill_2 (fun v1 => ?_)
  refine xj_if_eq Z 20 dX6_bill_5 (by decide) (fun _ => ?_) (fun _ => ?_)
  · refine xj_sub [] (lv' := []) rfl ?_
    exact bX6_bill_20 Z hS M
  · refine xj_iload_n Z 2 dX6_bill_8 rfl rfl ?_
    refine xj_i2l Z dX6_bill_9 ?_
    refine xj_lconst Z 0 dX6_bill_10 (by decide) ?_
    refine xj_ldc2 Z dX6_bill_11 xb_420 ?_
    refine xj_callSr Z (As := [.long (Int32.toInt64 x2), .long 0, .long 2]) (kX6_in l D cs S ad Z.2.2.2.2.2.1.dist (Int32.toInt64 x2) 0 2 M) gw_X6_56 (n := 3) (by decide +kernel) rfl ⟨rfl, rfl⟩ (by decide) rfl (Nat.le_of_ble_eq_true rfl) dX6_bill_14 (fun v2 => ?_)
    refine xj_if_ne Z 24 dX6_bill_17 (by decide) (fun _ => ?_) (fun _ => ?_)
    · refine xj_iload_n Z 2 dX6_bill_24 rfl rfl ?_
      refine xj_if_ne Z 40 dX6_bill_25 (by decide) (fun _ => ?_) (fun _ => ?_)
      · refine xj_iload_n Z 2 dX6_bill_40 rfl rfl ?_
        refine xj_iconst Z 1 dX6_bill_41 (by decide) ?_
        refine xj_icmp_ne Z 62 dX6_bill_42 (by decide) (fun _ => ?_) (fun _ => ?_)
        · refine xj_aload_n Z 0 dX6_bill_62 rfl rfl ?_
          refine xg_X6_29 Z (hS 60 (by decide) (by decide)) dX6_bill_63 ?_
          refine xj_bipush Z 20 dX6_bill_66 (by decide) ?_
          refine xj_iload_n Z 1 dX6_bill_68 rfl rfl ?_
          refine xj_iadd Z dX6_bill_69 ?_
          refine xj_iald Z (hS 67 (by decide) (by decide)) rfl dX6_bill_70 (fun _ => ?_)
          refine xj_sub [] (lv' := []) rfl ?_
          exact bX6_bill_71 Z hS (M.1 67 ((20 + x1)).toNatClampNeg) M
        · refine xj_aload_n Z 0 dX6_bill_45 rfl rfl ?_
          refine xj_iconst Z 0 dX6_bill_46 (by decide) ?_
          refine xj_iload_n Z 1 dX6_bill_47 rfl rfl ?_
          refine xj_callVr Z (As := [.int 0, .int x1]) (kX6_isHeld l D cs S ad Z.2.2.2.2.2.1.dist hS 0 x1 M) gw_X6_164 (hS 60 (by decide) (by decide)) rfl rfl (n := 2) (by decide +kernel) rfl ⟨rfl, rfl⟩ (by decide) rfl (Nat.le_of_ble_eq_true rfl) dX6_bill_48 (fun v3 => ?_)
          refine xj_if_eq Z 58 dX6_bill_51 (by decide) (fun _ => ?_) (fun _ => ?_)
          · refine xj_iconst Z 0 dX6_bill_58 (by decide) ?_
            refine xj_goto Z 71 dX6_bill_59 (by decide) ?_
            refine xj_sub [] (lv' := []) rfl ?_
            exact bX6_bill_71 Z hS 0 M
          · refine xj_iconst Z 1 dX6_bill_54 (by decide) ?_
            refine xj_goto Z 71 dX6_bill_55 (by decide) ?_
            refine xj_sub [] (lv' := []) rfl ?_
            exact bX6_bill_71 Z hS 1 M
      · refine xj_aload_n Z 0 dX6_bill_28 rfl rfl ?_
        refine xg_X6_29 Z (hS 60 (by decide) (by decide)) dX6_bill_29 ?_
        refine xj_bipush Z 16 dX6_bill_32 (by decide) ?_
        refine xj_iload_n Z 1 dX6_bill_34 rfl rfl ?_
        refine xj_iadd Z dX6_bill_35 ?_
        refine xj_iald Z (hS 67 (by decide) (by decide)) rfl dX6_bill_36 (fun _ => ?_)
        refine xj_goto Z 71 dX6_bill_37 (by decide) ?_
        refine xj_sub [] (lv' := []) rfl ?_
        exact bX6_bill_71 Z hS (M.1 67 ((16 + x1)).toNatClampNeg) M
    · refine xj_sub [] (lv' := []) rfl ?_
      exact bX6_bill_20 Z hS M
/-! WalkingLawModel.copies(II)V -/
theorem dX6_copies_0 : decode cX6_copies 0 = .ok (.iconst 0, 1) := by decide +kernel
theorem dX6_copies_1 : decode cX6_copies 1 = .ok (.istore_n 3, 1) := by decide +kernel
theorem dX6_copies_2 : decode cX6_copies 2 = .ok (.iload_n 3, 1) := by decide +kernel
theorem dX6_copies_3 : decode cX6_copies 3 = .ok (.bipush 25, 2) := by decide +kernel
theorem dX6_copies_5 : decode cX6_copies 5 = .ok (.if_icmp .ge 31, 3) := by decide +kernel
theorem dX6_copies_8 : decode cX6_copies 8 = .ok (.aload_n 0, 1) := by decide +kernel
theorem dX6_copies_9 : decode cX6_copies 9 = .ok (.getfield 29, 3) := by decide +kernel
theorem dX6_copies_12 : decode cX6_copies 12 = .ok (.bipush 25, 2) := by decide +kernel
theorem dX6_copies_14 : decode cX6_copies 14 = .ok (.iload_n 2, 1) := by decide +kernel
theorem dX6_copies_15 : decode cX6_copies 15 = .ok (.imul, 1) := by decide +kernel
theorem dX6_copies_16 : decode cX6_copies 16 = .ok (.iload_n 3, 1) := by decide +kernel
theorem dX6_copies_17 : decode cX6_copies 17 = .ok (.iadd, 1) := by decide +kernel
theorem dX6_copies_18 : decode cX6_copies 18 = .ok (.aload_n 0, 1) := by decide +kernel
theorem dX6_copies_19 : decode cX6_copies 19 = .ok (.getfield 29, 3) := by decide +kernel
theorem dX6_copies_22 : decode cX6_copies 22 = .ok (.bipush 25, 2) := by decide +kernel
theorem dX6_copies_24 : decode cX6_copies 24 = .ok (.iload_n 1, 1) := by decide +kernel
theorem dX6_copies_25 : decode cX6_copies 25 = .ok (.imul, 1) := by decide +kernel
theorem dX6_copies_26 : decode cX6_copies 26 = .ok (.iload_n 3, 1) := by decide +kernel
theorem dX6_copies_27 : decode cX6_copies 27 = .ok (.iadd, 1) := by decide +kernel
theorem dX6_copies_28 : decode cX6_copies 28 = .ok (.iaload, 1) := by decide +kernel
theorem dX6_copies_29 : decode cX6_copies 29 = .ok (.iastore, 1) := by decide +kernel
theorem dX6_copies_30 : decode cX6_copies 30 = .ok (.iinc 3 1, 3) := by decide +kernel
theorem dX6_copies_33 : decode cX6_copies 33 = .ok (.goto (-31), 3) := by decide +kernel
theorem dX6_copies_36 : decode cX6_copies 36 = .ok (.return_, 1) := by decide +kernel
def rmX6_copies : Room := { frames := 0, cells := 0, slots := 0, locals := 0 }
def fX6_copies_2 (x1 : Int32) (x2 : Int32) : Nat → Int32 → xm → Option (xm)
  | 0, _, _ => none
  | n + 1, x3, M => (if (25 : Int32) ≤ x3 then (some M) else xchk ((25 * x1) + x3) 100 (xchk ((25 * x2) + x3) 100 (xl (up M 67 (((25 * x2) + x3) : Int32).toNatClampNeg (M.1 67 (((25 * x1) + x3)).toNatClampNeg)) (fun M1 => (fX6_copies_2 x1 x2 n (x3 + 1) M1)))))
def fX6_copies (x1 : Int32) (x2 : Int32) (M : xm) : Option (xm) := (fX6_copies_2 x1 x2 xfuel 0 M)
section
variable {p : Program} {l : Launch} {e : Env} {s : State} {m : MethodId} {args : Array Value} {below : List Frame} {meth : Method} {c : Code} {D : va_G} {cs : Nat → ClassId} {S : List Nat} {ad : Nat → Nat}
theorem bX6_copies_2 (Z : CX p s m args meth c cX6_copies 4 RX6 none D cs (xA S ad) S ad) (hS : xalm S) (x1 : Int32) (x2 : Int32) : ∀ (n : Nat) (x3 : Int32) (M : xm), XJ p l e rmX6_copies s m args below meth c D cs (xA S ad) S ad 4 (XRm below args s D cs S ad) 2 [(0, .ref (ad 60)), (1, .int x1), (2, .int x2), (3, .int x3)] [] M (fX6_copies_2 x1 x2 n x3 M) := by
  intro n
  induction n with
  | zero => intros; exact xj_none
  | succ n ih =>
    intro x3 M
    rw [fX6_copies_2]
    refine xj_iload_n Z 3 dX6_copies_2 rfl rfl ?_
    refine xj_bipush Z 25 dX6_copies_3 (by decide) ?_
    refine xj_icmp_ge Z 36 dX6_copies_5 (by decide) (fun _ => ?_) (fun _ => ?_)
    · exact xj_vret Z dX6_copies_36
    · refine xj_aload_n Z 0 dX6_copies_8 rfl rfl ?_
      refine xg_X6_29 Z (hS 60 (by decide) (by decide)) dX6_copies_9 ?_
      refine xj_bipush Z 25 dX6_copies_12 (by decide) ?_
      refine xj_iload_n Z 2 dX6_copies_14 rfl rfl ?_
      refine xj_imul Z dX6_copies_15 ?_
      refine xj_iload_n Z 3 dX6_copies_16 rfl rfl ?_
      refine xj_iadd Z dX6_copies_17 ?_
      refine xj_aload_n Z 0 dX6_copies_18 rfl rfl ?_
      refine xg_X6_29 Z (hS 60 (by decide) (by decide)) dX6_copies_19 ?_
      refine xj_bipush Z 25 dX6_copies_22 (by decide) ?_
      refine xj_iload_n Z 1 dX6_copies_24 rfl rfl ?_
      refine xj_imul Z dX6_copies_25 ?_
      refine xj_iload_n Z 3 dX6_copies_26 rfl rfl ?_
      refine xj_iadd Z dX6_copies_27 ?_
      refine xj_iald Z (hS 67 (by decide) (by decide)) rfl dX6_copies_28 (fun _ => ?_)
      refine xj_iast Z (hS 67 (by decide) (by decide)) rfl dX6_copies_29 (fun M1 _ => ?_)
      refine xj_iinc Z 3 (x3 + 1) (lv' := [(3, .int (x3 + 1)), (0, .ref (ad 60)), (1, .int x1), (2, .int x2)]) dX6_copies_30 rfl rfl (by decide) rfl ?_
      refine xj_goto Z 2 dX6_copies_33 (by decide) ?_
      refine xj_sub [1, 2, 3, 0] (lv' := [(0, .ref (ad 60)), (1, .int x1), (2, .int x2), (3, .int (x3 + 1))]) rfl ?_
      exact ih (x3 + 1) M1
end
theorem kX6_copies (l : Launch) (D : va_G) (cs : Nat → ClassId) (S : List Nat) (ad : Nat → Nat) (hd : xdist S ad) (hS : xalm S) (x1 : Int32) (x2 : Int32) (M : xm) : ∀ r, fX6_copies x1 x2 M = some r → Met l yX6_copies [Cond.code yX6_copies cX6_copies 4 none] rmX6_copies (XPc D cs S ad [.ref (ad 60), .int x1, .int x2] M) (XQv D cs S ad r) 0 0 (xA S ad) := by
  refine xm_m (own := RX6) (lv := [(0, .ref (ad 60)), (1, .int x1), (2, .int x2)]) (by decide +kernel) rfl rfl (Nat.le_of_ble_eq_true rfl) hd (fun p e s m args below meth c Z => ?_)
  unfold fX6_copies
  refine xj_iconst Z 0 dX6_copies_0 (by decide) ?_
  refine xj_istore_n Z (lv' := [(3, .int 0), (0, .ref (ad 60)), (1, .int x1), (2, .int x2)]) dX6_copies_1 rfl (by decide) rfl ?_
  refine xj_sub [1, 2, 3, 0] (lv' := [(0, .ref (ad 60)), (1, .int x1), (2, .int x2), (3, .int 0)]) rfl ?_
  exact bX6_copies_2 Z hS x1 x2 xfuel 0 M
/-! WalkingLawModel.tries(I)V -/
theorem dX6_tries_0 : decode cX6_tries 0 = .ok (.aload_n 0, 1) := by decide +kernel
theorem dX6_tries_1 : decode cX6_tries 1 = .ok (.iconst 0, 1) := by decide +kernel
theorem dX6_tries_2 : decode cX6_tries 2 = .ok (.iconst 3, 1) := by decide +kernel
theorem dX6_tries_3 : decode cX6_tries 3 = .ok (.invokevirtual 167, 3) := by decide +kernel
theorem dX6_tries_6 : decode cX6_tries 6 = .ok (.iconst 0, 1) := by decide +kernel
theorem dX6_tries_7 : decode cX6_tries 7 = .ok (.istore_n 2, 1) := by decide +kernel
theorem dX6_tries_8 : decode cX6_tries 8 = .ok (.iload_n 2, 1) := by decide +kernel
theorem dX6_tries_9 : decode cX6_tries 9 = .ok (.iload_n 1, 1) := by decide +kernel
theorem dX6_tries_10 : decode cX6_tries 10 = .ok (.if_icmp .ge 15, 3) := by decide +kernel
theorem dX6_tries_13 : decode cX6_tries 13 = .ok (.aload_n 0, 1) := by decide +kernel
theorem dX6_tries_14 : decode cX6_tries 14 = .ok (.iconst 3, 1) := by decide +kernel
theorem dX6_tries_15 : decode cX6_tries 15 = .ok (.iconst (-1), 1) := by decide +kernel
theorem dX6_tries_16 : decode cX6_tries 16 = .ok (.invokevirtual 140, 3) := by decide +kernel
theorem dX6_tries_19 : decode cX6_tries 19 = .ok (.iinc 2 1, 3) := by decide +kernel
theorem dX6_tries_22 : decode cX6_tries 22 = .ok (.goto (-14), 3) := by decide +kernel
theorem dX6_tries_25 : decode cX6_tries 25 = .ok (.return_, 1) := by decide +kernel
def rmX6_tries : Room := { frames := 5, cells := 0, slots := 0, locals := 122 }
def fX6_tries_8 (x1 : Int32) : Nat → Int32 → xm → Option (xm)
  | 0, _, _ => none
  | n + 1, x2, M => (if x1 ≤ x2 then (some M) else (fX6_hour 3 (-1) M).bind (fun M1 => (fX6_tries_8 x1 n (x2 + 1) M1)))
def fX6_tries (x1 : Int32) (M : xm) : Option (xm) := (fX6_copies 0 3 M).bind (fun M2 => (fX6_tries_8 x1 xfuel 0 M2))
section
variable {p : Program} {l : Launch} {e : Env} {s : State} {m : MethodId} {args : Array Value} {below : List Frame} {meth : Method} {c : Code} {D : va_G} {cs : Nat → ClassId} {S : List Nat} {ad : Nat → Nat}
theorem bX6_tries_8 (Z : CX p s m args meth c cX6_tries 3 RX6 none D cs (xA S ad) S ad) (hS : xalm S) (x1 : Int32) : ∀ (n : Nat) (x2 : Int32) (M : xm), XJ p l e rmX6_tries s m args below meth c D cs (xA S ad) S ad 3 (XRm below args s D cs S ad) 8 [(0, .ref (ad 60)), (1, .int x1), (2, .int x2)] [] M (fX6_tries_8 x1 n x2 M) := by
  intro n
  induction n with
  | zero => intros; exact xj_none
  | succ n ih =>
    intro x2 M
    rw [fX6_tries_8]
    refine xj_iload_n Z 2 dX6_tries_8 rfl rfl ?_
    refine xj_iload_n Z 1 dX6_tries_9 rfl rfl ?_
    refine xj_icmp_ge Z 25 dX6_tries_10 (by decide) (fun _ => ?_) (fun _ => ?_)
    · exact xj_vret Z dX6_tries_25
    · refine xj_aload_n Z 0 dX6_tries_13 rfl rfl ?_
      refine xj_iconst Z 3 dX6_tries_14 (by decide) ?_
      refine xj_iconst Z (-1) dX6_tries_15 (by decide) ?_
      refine xj_callVm Z (As := [.int 3, .int (-1)]) (kX6_hour l D cs S ad Z.2.2.2.2.2.1.dist hS 3 (-1) M) gw_X6_140 (hS 60 (by decide) (by decide)) rfl rfl (n := 2) (by decide +kernel) rfl ⟨rfl, rfl⟩ (by decide) rfl (Nat.le_of_ble_eq_true rfl) dX6_tries_16 (fun M1 => ?_)
      refine xj_iinc Z 2 (x2 + 1) (lv' := [(2, .int (x2 + 1)), (0, .ref (ad 60)), (1, .int x1)]) dX6_tries_19 rfl rfl (by decide) rfl ?_
      refine xj_goto Z 8 dX6_tries_22 (by decide) ?_
      refine xj_sub [1, 2, 0] (lv' := [(0, .ref (ad 60)), (1, .int x1), (2, .int (x2 + 1))]) rfl ?_
      exact ih (x2 + 1) M1
end
theorem kX6_tries (l : Launch) (D : va_G) (cs : Nat → ClassId) (S : List Nat) (ad : Nat → Nat) (hd : xdist S ad) (hS : xalm S) (x1 : Int32) (M : xm) : ∀ r, fX6_tries x1 M = some r → Met l yX6_tries [Cond.code yX6_tries cX6_tries 3 none] rmX6_tries (XPc D cs S ad [.ref (ad 60), .int x1] M) (XQv D cs S ad r) 0 0 (xA S ad) := by
  refine xm_m (own := RX6) (lv := [(0, .ref (ad 60)), (1, .int x1)]) (by decide +kernel) rfl rfl (Nat.le_of_ble_eq_true rfl) hd (fun p e s m args below meth c Z => ?_)
  unfold fX6_tries
  refine xj_aload_n Z 0 dX6_tries_0 rfl rfl ?_
  refine xj_iconst Z 0 dX6_tries_1 (by decide) ?_
  refine xj_iconst Z 3 dX6_tries_2 (by decide) ?_
  refine xj_callVm Z (As := [.int 0, .int 3]) (kX6_copies l D cs S ad Z.2.2.2.2.2.1.dist hS 0 3 M) gw_X6_167 (hS 60 (by decide) (by decide)) rfl rfl (n := 2) (by decide +kernel) rfl ⟨rfl, rfl⟩ (by decide) rfl (Nat.le_of_ble_eq_true rfl) dX6_tries_3 (fun M2 => ?_)
  refine xj_iconst Z 0 dX6_tries_6 (by decide) ?_
  refine xj_istore_n Z (lv' := [(2, .int 0), (0, .ref (ad 60)), (1, .int x1)]) dX6_tries_7 rfl (by decide) rfl ?_
  refine xj_sub [1, 2, 0] (lv' := [(0, .ref (ad 60)), (1, .int x1), (2, .int 0)]) rfl ?_
  exact bX6_tries_8 Z hS x1 xfuel 0 M2
/-! WalkingLawModel.isAhead(I)Z -/
theorem dX6_isAhead_0 : decode cX6_isAhead 0 = .ok (.iload_n 0, 1) := by decide +kernel
theorem dX6_isAhead_1 : decode cX6_isAhead 1 = .ok (.i2l, 1) := by decide +kernel
theorem dX6_isAhead_2 : decode cX6_isAhead 2 = .ok (.lconst 0, 1) := by decide +kernel
theorem dX6_isAhead_3 : decode cX6_isAhead 3 = .ok (.ldc2_w 170, 3) := by decide +kernel
theorem dX6_isAhead_6 : decode cX6_isAhead 6 = .ok (.invokestatic 56, 3) := by decide +kernel
theorem dX6_isAhead_9 : decode cX6_isAhead 9 = .ok (.ireturn, 1) := by decide +kernel
def rmX6_isAhead : Room := { frames := 1, cells := 0, slots := 0, locals := 25 }
def fX6_isAhead (x0 : Int32) (M : xm) : Option (Int32) := (fX6_in (Int32.toInt64 x0) 0 400 M).bind (fun v1 => (xbo v1 (some v1)))
section
variable {p : Program} {l : Launch} {e : Env} {s : State} {m : MethodId} {args : Array Value} {below : List Frame} {meth : Method} {c : Code} {D : va_G} {cs : Nat → ClassId} {S : List Nat} {ad : Nat → Nat}
end
theorem kX6_isAhead (l : Launch) (D : va_G) (cs : Nat → ClassId) (S : List Nat) (ad : Nat → Nat) (hd : xdist S ad) (x0 : Int32) (M : xm) : ∀ r, fX6_isAhead x0 M = some r → Met l yX6_isAhead [Cond.code yX6_isAhead cX6_isAhead 1 (some .boolean)] rmX6_isAhead (XPc D cs S ad [.int x0] M) (XQi D cs S ad r M) 0 0 (xA S ad) := by
  refine xm_r (own := RX6) (lv := [(0, .int x0)]) (by decide +kernel) rfl rfl (Nat.le_of_ble_eq_true rfl) hd (fun p e s m args below meth c Z => ?_)
  unfold fX6_isAhead
  refine xj_iload_n Z 0 dX6_isAhead_0 rfl rfl ?_
  refine xj_i2l Z dX6_isAhead_1 ?_
  refine xj_lconst Z 0 dX6_isAhead_2 (by decide) ?_
  refine xj_ldc2 Z dX6_isAhead_3 xb_521 ?_
  refine xj_callSr Z (As := [.long (Int32.toInt64 x0), .long 0, .long 400]) (kX6_in l D cs S ad Z.2.2.2.2.2.1.dist (Int32.toInt64 x0) 0 400 M) gw_X6_56 (n := 3) (by decide +kernel) rfl ⟨rfl, rfl⟩ (by decide) rfl (Nat.le_of_ble_eq_true rfl) dX6_isAhead_6 (fun v1 => ?_)
  exact xj_zret_r Z dX6_isAhead_9
/-! WalkingLawModel.mile(II)I -/
theorem dX6_mile_0 : decode cX6_mile 0 = .ok (.iload_n 1, 1) := by decide +kernel
theorem dX6_mile_1 : decode cX6_mile 1 = .ok (.invokestatic 172, 3) := by decide +kernel
theorem dX6_mile_4 : decode cX6_mile 4 = .ok (.ifCond .eq 11, 3) := by decide +kernel
theorem dX6_mile_7 : decode cX6_mile 7 = .ok (.aload_n 0, 1) := by decide +kernel
theorem dX6_mile_8 : decode cX6_mile 8 = .ok (.iload_n 2, 1) := by decide +kernel
theorem dX6_mile_9 : decode cX6_mile 9 = .ok (.invokevirtual 118, 3) := by decide +kernel
theorem dX6_mile_12 : decode cX6_mile 12 = .ok (.ifCond .ne 5, 3) := by decide +kernel
theorem dX6_mile_15 : decode cX6_mile 15 = .ok (.iconst (-1), 1) := by decide +kernel
theorem dX6_mile_16 : decode cX6_mile 16 = .ok (.ireturn, 1) := by decide +kernel
theorem dX6_mile_17 : decode cX6_mile 17 = .ok (.aload_n 0, 1) := by decide +kernel
theorem dX6_mile_18 : decode cX6_mile 18 = .ok (.iload_n 1, 1) := by decide +kernel
theorem dX6_mile_19 : decode cX6_mile 19 = .ok (.invokevirtual 175, 3) := by decide +kernel
theorem dX6_mile_22 : decode cX6_mile 22 = .ok (.aload_n 0, 1) := by decide +kernel
theorem dX6_mile_23 : decode cX6_mile 23 = .ok (.getfield 29, 3) := by decide +kernel
theorem dX6_mile_26 : decode cX6_mile 26 = .ok (.bipush 75, 2) := by decide +kernel
theorem dX6_mile_28 : decode cX6_mile 28 = .ok (.iload_n 2, 1) := by decide +kernel
theorem dX6_mile_29 : decode cX6_mile 29 = .ok (.iadd, 1) := by decide +kernel
theorem dX6_mile_30 : decode cX6_mile 30 = .ok (.iaload, 1) := by decide +kernel
theorem dX6_mile_31 : decode cX6_mile 31 = .ok (.ireturn, 1) := by decide +kernel
def rmX6_mile : Room := { frames := 6, cells := 0, slots := 0, locals := 144 }
def fX6_mile_15 (M : xm) : Option (Int32 × xm) := (some ((-1), M))
def fX6_mile (x1 : Int32) (x2 : Int32) (M : xm) : Option (Int32 × xm) := (fX6_isAhead x1 M).bind (fun v1 => (if v1 = 0 then (fX6_mile_15 M) else (fX6_isMember x2 M).bind (fun v2 => (if v2 = 0 then (fX6_mile_15 M) else (fX6_tries x1 M).bind (fun M3 => xchk (75 + x2) 100 ((some ((M3.1 67 ((75 + x2)).toNatClampNeg), M3))))))))
section
variable {p : Program} {l : Launch} {e : Env} {s : State} {m : MethodId} {args : Array Value} {below : List Frame} {meth : Method} {c : Code} {D : va_G} {cs : Nat → ClassId} {S : List Nat} {ad : Nat → Nat}
theorem bX6_mile_15 (Z : CX p s m args meth c cX6_mile 3 RX6 (some .int) D cs (xA S ad) S ad) (hS : xalm S) (M : xm) : XJ p l e rmX6_mile s m args below meth c D cs (xA S ad) S ad 3 (XRb below args s D cs S ad) 15 [] [] M (fX6_mile_15 M) := by
  unfold fX6_mile_15
  refine xj_iconst Z (-1) dX6_mile_15 (by decide) ?_
  exact xj_ret_b Z dX6_mile_16
end
theorem kX6_mile (l : Launch) (D : va_G) (cs : Nat → ClassId) (S : List Nat) (ad : Nat → Nat) (hd : xdist S ad) (hS : xalm S) (x1 : Int32) (x2 : Int32) (M : xm) : ∀ r, fX6_mile x1 x2 M = some r → Met l yX6_mile [Cond.code yX6_mile cX6_mile 3 (some .int)] rmX6_mile (XPc D cs S ad [.ref (ad 60), .int x1, .int x2] M) (XQi D cs S ad r.1 r.2) 0 0 (xA S ad) := by
  refine xm_b (own := RX6) (lv := [(0, .ref (ad 60)), (1, .int x1), (2, .int x2)]) (by decide +kernel) rfl rfl (Nat.le_of_ble_eq_true rfl) hd (fun p e s m args below meth c Z => ?_)
  unfold fX6_mile
  refine xj_iload_n Z 1 dX6_mile_0 rfl rfl ?_
  refine xj_callSr Z (As := [.int x1]) (kX6_isAhead l D cs S ad Z.2.2.2.2.2.1.dist x1 M) gw_X6_172 (n := 1) (by decide +kernel) rfl ⟨rfl, rfl⟩ (by decide) rfl (Nat.le_of_ble_eq_true rfl) dX6_mile_1 (fun v1 => ?_)
  refine xj_if_eq Z 15 dX6_mile_4 (by decide) (fun _ => ?_) (fun _ => ?_)
  · refine xj_sub [] (lv' := []) rfl ?_
    exact bX6_mile_15 Z hS M
  · refine xj_aload_n Z 0 dX6_mile_7 rfl rfl ?_
    refine xj_iload_n Z 2 dX6_mile_8 rfl rfl ?_
    refine xj_callVr Z (As := [.int x2]) (kX6_isMember l D cs S ad Z.2.2.2.2.2.1.dist hS x2 M) gw_X6_118 (hS 60 (by decide) (by decide)) rfl rfl (n := 1) (by decide +kernel) rfl ⟨rfl, rfl⟩ (by decide) rfl (Nat.le_of_ble_eq_true rfl) dX6_mile_9 (fun v2 => ?_)
    refine xj_if_ne Z 17 dX6_mile_12 (by decide) (fun _ => ?_) (fun _ => ?_)
    · refine xj_aload_n Z 0 dX6_mile_17 rfl rfl ?_
      refine xj_iload_n Z 1 dX6_mile_18 rfl rfl ?_
      refine xj_callVm Z (As := [.int x1]) (kX6_tries l D cs S ad Z.2.2.2.2.2.1.dist hS x1 M) gw_X6_175 (hS 60 (by decide) (by decide)) rfl rfl (n := 1) (by decide +kernel) rfl ⟨rfl, rfl⟩ (by decide) rfl (Nat.le_of_ble_eq_true rfl) dX6_mile_19 (fun M3 => ?_)
      refine xj_aload_n Z 0 dX6_mile_22 rfl rfl ?_
      refine xg_X6_29 Z (hS 60 (by decide) (by decide)) dX6_mile_23 ?_
      refine xj_bipush Z 75 dX6_mile_26 (by decide) ?_
      refine xj_iload_n Z 2 dX6_mile_28 rfl rfl ?_
      refine xj_iadd Z dX6_mile_29 ?_
      refine xj_iald Z (hS 67 (by decide) (by decide)) rfl dX6_mile_30 (fun _ => ?_)
      exact xj_ret_b Z dX6_mile_31
    · refine xj_sub [] (lv' := []) rfl ?_
      exact bX6_mile_15 Z hS M
/-! WalkingLawModel.who(II)I -/
theorem dX6_who_0 : decode cX6_who 0 = .ok (.iload_n 1, 1) := by decide +kernel
theorem dX6_who_1 : decode cX6_who 1 = .ok (.invokestatic 172, 3) := by decide +kernel
theorem dX6_who_4 : decode cX6_who 4 = .ok (.ifCond .eq 11, 3) := by decide +kernel
theorem dX6_who_7 : decode cX6_who 7 = .ok (.aload_n 0, 1) := by decide +kernel
theorem dX6_who_8 : decode cX6_who 8 = .ok (.iload_n 2, 1) := by decide +kernel
theorem dX6_who_9 : decode cX6_who 9 = .ok (.invokevirtual 109, 3) := by decide +kernel
theorem dX6_who_12 : decode cX6_who 12 = .ok (.ifCond .ne 5, 3) := by decide +kernel
theorem dX6_who_15 : decode cX6_who 15 = .ok (.iconst (-1), 1) := by decide +kernel
theorem dX6_who_16 : decode cX6_who 16 = .ok (.ireturn, 1) := by decide +kernel
theorem dX6_who_17 : decode cX6_who 17 = .ok (.aload_n 0, 1) := by decide +kernel
theorem dX6_who_18 : decode cX6_who 18 = .ok (.iload_n 1, 1) := by decide +kernel
theorem dX6_who_19 : decode cX6_who 19 = .ok (.invokevirtual 175, 3) := by decide +kernel
theorem dX6_who_22 : decode cX6_who 22 = .ok (.aload_n 0, 1) := by decide +kernel
theorem dX6_who_23 : decode cX6_who 23 = .ok (.iconst 3, 1) := by decide +kernel
theorem dX6_who_24 : decode cX6_who 24 = .ok (.iload_n 2, 1) := by decide +kernel
theorem dX6_who_25 : decode cX6_who 25 = .ok (.invokevirtual 114, 3) := by decide +kernel
theorem dX6_who_28 : decode cX6_who 28 = .ok (.ireturn, 1) := by decide +kernel
def rmX6_who : Room := { frames := 6, cells := 0, slots := 0, locals := 144 }
def fX6_who_15 (M : xm) : Option (Int32 × xm) := (some ((-1), M))
def fX6_who (x1 : Int32) (x2 : Int32) (M : xm) : Option (Int32 × xm) := (fX6_isAhead x1 M).bind (fun v1 => (if v1 = 0 then (fX6_who_15 M) else (fX6_isParish x2 M).bind (fun v2 => (if v2 = 0 then (fX6_who_15 M) else (fX6_tries x1 M).bind (fun M3 => (fX6_there 3 x2 M3).bind (fun v4 => (some (v4, M3))))))))
section
variable {p : Program} {l : Launch} {e : Env} {s : State} {m : MethodId} {args : Array Value} {below : List Frame} {meth : Method} {c : Code} {D : va_G} {cs : Nat → ClassId} {S : List Nat} {ad : Nat → Nat}
theorem bX6_who_15 (Z : CX p s m args meth c cX6_who 3 RX6 (some .int) D cs (xA S ad) S ad) (hS : xalm S) (M : xm) : XJ p l e rmX6_who s m args below meth c D cs (xA S ad) S ad 3 (XRb below args s D cs S ad) 15 [] [] M (fX6_who_15 M) := by
  unfold fX6_who_15
  refine xj_iconst Z (-1) dX6_who_15 (by decide) ?_
  exact xj_ret_b Z dX6_who_16
end
theorem kX6_who (l : Launch) (D : va_G) (cs : Nat → ClassId) (S : List Nat) (ad : Nat → Nat) (hd : xdist S ad) (hS : xalm S) (x1 : Int32) (x2 : Int32) (M : xm) : ∀ r, fX6_who x1 x2 M = some r → Met l yX6_who [Cond.code yX6_who cX6_who 3 (some .int)] rmX6_who (XPc D cs S ad [.ref (ad 60), .int x1, .int x2] M) (XQi D cs S ad r.1 r.2) 0 0 (xA S ad) := by
  refine xm_b (own := RX6) (lv := [(0, .ref (ad 60)), (1, .int x1), (2, .int x2)]) (by decide +kernel) rfl rfl (Nat.le_of_ble_eq_true rfl) hd (fun p e s m args below meth c Z => ?_)
  unfold fX6_who
  refine xj_iload_n Z 1 dX6_who_0 rfl rfl ?_
  refine xj_callSr Z (As := [.int x1]) (kX6_isAhead l D cs S ad Z.2.2.2.2.2.1.dist x1 M) gw_X6_172 (n := 1) (by decide +kernel) rfl ⟨rfl, rfl⟩ (by decide) rfl (Nat.le_of_ble_eq_true rfl) dX6_who_1 (fun v1 => ?_)
  refine xj_if_eq Z 15 dX6_who_4 (by decide) (fun _ => ?_) (fun _ => ?_)
  · refine xj_sub [] (lv' := []) rfl ?_
    exact bX6_who_15 Z hS M
  · refine xj_aload_n Z 0 dX6_who_7 rfl rfl ?_
    refine xj_iload_n Z 2 dX6_who_8 rfl rfl ?_
    refine xj_callVr Z (As := [.int x2]) (kX6_isParish l D cs S ad Z.2.2.2.2.2.1.dist hS x2 M) gw_X6_109 (hS 60 (by decide) (by decide)) rfl rfl (n := 1) (by decide +kernel) rfl ⟨rfl, rfl⟩ (by decide) rfl (Nat.le_of_ble_eq_true rfl) dX6_who_9 (fun v2 => ?_)
    refine xj_if_ne Z 17 dX6_who_12 (by decide) (fun _ => ?_) (fun _ => ?_)
    · refine xj_aload_n Z 0 dX6_who_17 rfl rfl ?_
      refine xj_iload_n Z 1 dX6_who_18 rfl rfl ?_
      refine xj_callVm Z (As := [.int x1]) (kX6_tries l D cs S ad Z.2.2.2.2.2.1.dist hS x1 M) gw_X6_175 (hS 60 (by decide) (by decide)) rfl rfl (n := 1) (by decide +kernel) rfl ⟨rfl, rfl⟩ (by decide) rfl (Nat.le_of_ble_eq_true rfl) dX6_who_19 (fun M3 => ?_)
      refine xj_aload_n Z 0 dX6_who_22 rfl rfl ?_
      refine xj_iconst Z 3 dX6_who_23 (by decide) ?_
      refine xj_iload_n Z 2 dX6_who_24 rfl rfl ?_
      refine xj_callVr Z (As := [.int 3, .int x2]) (kX6_there l D cs S ad Z.2.2.2.2.2.1.dist hS 3 x2 M3) gw_X6_114 (hS 60 (by decide) (by decide)) rfl rfl (n := 2) (by decide +kernel) rfl ⟨rfl, rfl⟩ (by decide) rfl (Nat.le_of_ble_eq_true rfl) dX6_who_25 (fun v4 => ?_)
      exact xj_ret_b Z dX6_who_28
    · refine xj_sub [] (lv' := []) rfl ?_
      exact bX6_who_15 Z hS M
/-! WalkingLawModel.arrives()I -/
theorem dX6_arrives_0 : decode cX6_arrives 0 = .ok (.aload_n 0, 1) := by decide +kernel
theorem dX6_arrives_1 : decode cX6_arrives 1 = .ok (.iconst 0, 1) := by decide +kernel
theorem dX6_arrives_2 : decode cX6_arrives 2 = .ok (.iconst 3, 1) := by decide +kernel
theorem dX6_arrives_3 : decode cX6_arrives 3 = .ok (.invokevirtual 167, 3) := by decide +kernel
theorem dX6_arrives_6 : decode cX6_arrives 6 = .ok (.iconst 0, 1) := by decide +kernel
theorem dX6_arrives_7 : decode cX6_arrives 7 = .ok (.istore_n 1, 1) := by decide +kernel
theorem dX6_arrives_8 : decode cX6_arrives 8 = .ok (.iload_n 1, 1) := by decide +kernel
theorem dX6_arrives_9 : decode cX6_arrives 9 = .ok (.sipush 400, 3) := by decide +kernel
theorem dX6_arrives_12 : decode cX6_arrives 12 = .ok (.if_icmp .gt 31, 3) := by decide +kernel
theorem dX6_arrives_15 : decode cX6_arrives 15 = .ok (.aload_n 0, 1) := by decide +kernel
theorem dX6_arrives_16 : decode cX6_arrives 16 = .ok (.iconst 3, 1) := by decide +kernel
theorem dX6_arrives_17 : decode cX6_arrives 17 = .ok (.invokevirtual 144, 3) := by decide +kernel
theorem dX6_arrives_20 : decode cX6_arrives 20 = .ok (.aload_n 0, 1) := by decide +kernel
theorem dX6_arrives_21 : decode cX6_arrives 21 = .ok (.getfield 23, 3) := by decide +kernel
theorem dX6_arrives_24 : decode cX6_arrives 24 = .ok (.iconst 0, 1) := by decide +kernel
theorem dX6_arrives_25 : decode cX6_arrives 25 = .ok (.iaload, 1) := by decide +kernel
theorem dX6_arrives_26 : decode cX6_arrives 26 = .ok (.if_icmp .ne 5, 3) := by decide +kernel
theorem dX6_arrives_29 : decode cX6_arrives 29 = .ok (.iload_n 1, 1) := by decide +kernel
theorem dX6_arrives_30 : decode cX6_arrives 30 = .ok (.ireturn, 1) := by decide +kernel
theorem dX6_arrives_31 : decode cX6_arrives 31 = .ok (.aload_n 0, 1) := by decide +kernel
theorem dX6_arrives_32 : decode cX6_arrives 32 = .ok (.iconst 3, 1) := by decide +kernel
theorem dX6_arrives_33 : decode cX6_arrives 33 = .ok (.iconst (-1), 1) := by decide +kernel
theorem dX6_arrives_34 : decode cX6_arrives 34 = .ok (.invokevirtual 140, 3) := by decide +kernel
theorem dX6_arrives_37 : decode cX6_arrives 37 = .ok (.iinc 1 1, 3) := by decide +kernel
theorem dX6_arrives_40 : decode cX6_arrives 40 = .ok (.goto (-32), 3) := by decide +kernel
theorem dX6_arrives_43 : decode cX6_arrives 43 = .ok (.bipush (-4), 2) := by decide +kernel
theorem dX6_arrives_45 : decode cX6_arrives 45 = .ok (.ireturn, 1) := by decide +kernel
def rmX6_arrives : Room := { frames := 5, cells := 0, slots := 0, locals := 122 }
def fX6_arrives_8 : Nat → Int32 → xm → Option (Int32 × xm)
  | 0, _, _ => none
  | n + 1, x1, M => (if (400 : Int32) < x1 then (some ((-4), M)) else (fX6_atEnd 3 M).bind (fun v1 => xchk 0 2 ((if v1 = (M.1 65 (0 : Int32).toNatClampNeg) then (some (x1, M)) else (fX6_hour 3 (-1) M).bind (fun M2 => (fX6_arrives_8 n (x1 + 1) M2))))))
def fX6_arrives (M : xm) : Option (Int32 × xm) := (fX6_copies 0 3 M).bind (fun M3 => (fX6_arrives_8 xfuel 0 M3))
section
variable {p : Program} {l : Launch} {e : Env} {s : State} {m : MethodId} {args : Array Value} {below : List Frame} {meth : Method} {c : Code} {D : va_G} {cs : Nat → ClassId} {S : List Nat} {ad : Nat → Nat}
theorem bX6_arrives_8 (Z : CX p s m args meth c cX6_arrives 2 RX6 (some .int) D cs (xA S ad) S ad) (hS : xalm S) : ∀ (n : Nat) (x1 : Int32) (M : xm), XJ p l e rmX6_arrives s m args below meth c D cs (xA S ad) S ad 2 (XRb below args s D cs S ad) 8 [(0, .ref (ad 60)), (1, .int x1)] [] M (fX6_arrives_8 n x1 M) := by
  intro n
  induction n with
  | zero => intros; exact xj_none
  | succ n ih =>
    intro x1 M
    rw [fX6_arrives_8]
    refine xj_iload_n Z 1 dX6_arrives_8 rfl rfl ?_
    refine xj_sipush Z 400 dX6_arrives_9 (by decide) ?_
    refine xj_icmp_gt Z 43 dX6_arrives_12 (by decide) (fun _ => ?_) (fun _ => ?_)
    · refine xj_bipush Z (-4) dX6_arrives_43 (by decide) ?_
      exact xj_ret_b Z dX6_arrives_45
    · refine xj_aload_n Z 0 dX6_arrives_15 rfl rfl ?_
      refine xj_iconst Z 3 dX6_arrives_16 (by decide) ?_
      refine xj_callVr Z (As := [.int 3]) (kX6_atEnd l D cs S ad Z.2.2.2.2.2.1.dist hS 3 M) gw_X6_144 (hS 60 (by decide) (by decide)) rfl rfl (n := 1) (by decide +kernel) rfl ⟨rfl, rfl⟩ (by decide) rfl (Nat.le_of_ble_eq_true rfl) dX6_arrives_17 (fun v1 => ?_)
      refine xj_aload_n Z 0 dX6_arrives_20 rfl rfl ?_
      refine xg_X6_23 Z (hS 60 (by decide) (by decide)) dX6_arrives_21 ?_
      refine xj_iconst Z 0 dX6_arrives_24 (by decide) ?_
      refine xj_iald Z (hS 65 (by decide) (by decide)) rfl dX6_arrives_25 (fun _ => ?_)
      refine xj_icmp_ne Z 31 dX6_arrives_26 (by decide) (fun _ => ?_) (fun _ => ?_)
      · refine xj_aload_n Z 0 dX6_arrives_31 rfl rfl ?_
        refine xj_iconst Z 3 dX6_arrives_32 (by decide) ?_
        refine xj_iconst Z (-1) dX6_arrives_33 (by decide) ?_
        refine xj_callVm Z (As := [.int 3, .int (-1)]) (kX6_hour l D cs S ad Z.2.2.2.2.2.1.dist hS 3 (-1) M) gw_X6_140 (hS 60 (by decide) (by decide)) rfl rfl (n := 2) (by decide +kernel) rfl ⟨rfl, rfl⟩ (by decide) rfl (Nat.le_of_ble_eq_true rfl) dX6_arrives_34 (fun M2 => ?_)
        refine xj_iinc Z 1 (x1 + 1) (lv' := [(1, .int (x1 + 1)), (0, .ref (ad 60))]) dX6_arrives_37 rfl rfl (by decide) rfl ?_
        refine xj_goto Z 8 dX6_arrives_40 (by decide) ?_
        refine xj_sub [1, 0] (lv' := [(0, .ref (ad 60)), (1, .int (x1 + 1))]) rfl ?_
        exact ih (x1 + 1) M2
      · refine xj_iload_n Z 1 dX6_arrives_29 rfl rfl ?_
        exact xj_ret_b Z dX6_arrives_30
end
theorem kX6_arrives (l : Launch) (D : va_G) (cs : Nat → ClassId) (S : List Nat) (ad : Nat → Nat) (hd : xdist S ad) (hS : xalm S) (M : xm) : ∀ r, fX6_arrives M = some r → Met l yX6_arrives [Cond.code yX6_arrives cX6_arrives 2 (some .int)] rmX6_arrives (XPc D cs S ad [.ref (ad 60)] M) (XQi D cs S ad r.1 r.2) 0 0 (xA S ad) := by
  refine xm_b (own := RX6) (lv := [(0, .ref (ad 60))]) (by decide +kernel) rfl rfl (Nat.le_of_ble_eq_true rfl) hd (fun p e s m args below meth c Z => ?_)
  unfold fX6_arrives
  refine xj_aload_n Z 0 dX6_arrives_0 rfl rfl ?_
  refine xj_iconst Z 0 dX6_arrives_1 (by decide) ?_
  refine xj_iconst Z 3 dX6_arrives_2 (by decide) ?_
  refine xj_callVm Z (As := [.int 0, .int 3]) (kX6_copies l D cs S ad Z.2.2.2.2.2.1.dist hS 0 3 M) gw_X6_167 (hS 60 (by decide) (by decide)) rfl rfl (n := 2) (by decide +kernel) rfl ⟨rfl, rfl⟩ (by decide) rfl (Nat.le_of_ble_eq_true rfl) dX6_arrives_3 (fun M3 => ?_)
  refine xj_iconst Z 0 dX6_arrives_6 (by decide) ?_
  refine xj_istore_n Z (lv' := [(1, .int 0), (0, .ref (ad 60))]) dX6_arrives_7 rfl (by decide) rfl ?_
  refine xj_sub [1, 0] (lv' := [(0, .ref (ad 60)), (1, .int 0)]) rfl ?_
  exact bX6_arrives_8 Z hS xfuel 0 M3
/-! WalkingLawModel.would(I)I -/
theorem dX6_would_0 : decode cX6_would 0 = .ok (.aload_n 0, 1) := by decide +kernel
theorem dX6_would_1 : decode cX6_would 1 = .ok (.iload_n 1, 1) := by decide +kernel
theorem dX6_would_2 : decode cX6_would 2 = .ok (.invokevirtual 153, 3) := by decide +kernel
theorem dX6_would_5 : decode cX6_would 5 = .ok (.ifCond .ne 5, 3) := by decide +kernel
theorem dX6_would_8 : decode cX6_would 8 = .ok (.iconst (-1), 1) := by decide +kernel
theorem dX6_would_9 : decode cX6_would 9 = .ok (.ireturn, 1) := by decide +kernel
theorem dX6_would_10 : decode cX6_would 10 = .ok (.aload_n 0, 1) := by decide +kernel
theorem dX6_would_11 : decode cX6_would 11 = .ok (.iconst 0, 1) := by decide +kernel
theorem dX6_would_12 : decode cX6_would 12 = .ok (.iconst 3, 1) := by decide +kernel
theorem dX6_would_13 : decode cX6_would 13 = .ok (.invokevirtual 167, 3) := by decide +kernel
theorem dX6_would_16 : decode cX6_would 16 = .ok (.aload_n 0, 1) := by decide +kernel
theorem dX6_would_17 : decode cX6_would 17 = .ok (.iconst 3, 1) := by decide +kernel
theorem dX6_would_18 : decode cX6_would 18 = .ok (.iload_n 1, 1) := by decide +kernel
theorem dX6_would_19 : decode cX6_would 19 = .ok (.invokevirtual 160, 3) := by decide +kernel
theorem dX6_would_22 : decode cX6_would 22 = .ok (.pop, 1) := by decide +kernel
theorem dX6_would_23 : decode cX6_would 23 = .ok (.iconst 0, 1) := by decide +kernel
theorem dX6_would_24 : decode cX6_would 24 = .ok (.istore_n 2, 1) := by decide +kernel
theorem dX6_would_25 : decode cX6_would 25 = .ok (.iload_n 2, 1) := by decide +kernel
theorem dX6_would_26 : decode cX6_would 26 = .ok (.sipush 200, 3) := by decide +kernel
theorem dX6_would_29 : decode cX6_would 29 = .ok (.if_icmp .ge 22, 3) := by decide +kernel
theorem dX6_would_32 : decode cX6_would 32 = .ok (.aload_n 0, 1) := by decide +kernel
theorem dX6_would_33 : decode cX6_would 33 = .ok (.iconst 3, 1) := by decide +kernel
theorem dX6_would_34 : decode cX6_would 34 = .ok (.iconst (-1), 1) := by decide +kernel
theorem dX6_would_35 : decode cX6_would 35 = .ok (.invokevirtual 140, 3) := by decide +kernel
theorem dX6_would_38 : decode cX6_would 38 = .ok (.aload_n 0, 1) := by decide +kernel
theorem dX6_would_39 : decode cX6_would 39 = .ok (.iconst 3, 1) := by decide +kernel
theorem dX6_would_40 : decode cX6_would 40 = .ok (.iload_n 1, 1) := by decide +kernel
theorem dX6_would_41 : decode cX6_would 41 = .ok (.invokevirtual 160, 3) := by decide +kernel
theorem dX6_would_44 : decode cX6_would 44 = .ok (.pop, 1) := by decide +kernel
theorem dX6_would_45 : decode cX6_would 45 = .ok (.iinc 2 1, 3) := by decide +kernel
theorem dX6_would_48 : decode cX6_would 48 = .ok (.goto (-23), 3) := by decide +kernel
theorem dX6_would_51 : decode cX6_would 51 = .ok (.aload_n 0, 1) := by decide +kernel
theorem dX6_would_52 : decode cX6_would 52 = .ok (.getfield 29, 3) := by decide +kernel
theorem dX6_would_55 : decode cX6_would 55 = .ok (.bipush 91, 2) := by decide +kernel
theorem dX6_would_57 : decode cX6_would 57 = .ok (.iload_n 1, 1) := by decide +kernel
theorem dX6_would_58 : decode cX6_would 58 = .ok (.iadd, 1) := by decide +kernel
theorem dX6_would_59 : decode cX6_would 59 = .ok (.iaload, 1) := by decide +kernel
theorem dX6_would_60 : decode cX6_would 60 = .ok (.ireturn, 1) := by decide +kernel
def rmX6_would : Room := { frames := 5, cells := 0, slots := 0, locals := 122 }
def fX6_would_25 (x1 : Int32) : Nat → Int32 → xm → Option (Int32 × xm)
  | 0, _, _ => none
  | n + 1, x2, M => (if (200 : Int32) ≤ x2 then xchk (91 + x1) 100 ((some ((M.1 67 ((91 + x1)).toNatClampNeg), M))) else (fX6_hour 3 (-1) M).bind (fun M1 => (fX6_isRead 3 x1 M1).bind (fun q2 => (fX6_would_25 x1 n (x2 + 1) q2.2))))
def fX6_would (x1 : Int32) (M : xm) : Option (Int32 × xm) := (fX6_isBill x1 M).bind (fun v3 => (if v3 = 0 then (some ((-1), M)) else (fX6_copies 0 3 M).bind (fun M4 => (fX6_isRead 3 x1 M4).bind (fun q5 => (fX6_would_25 x1 xfuel 0 q5.2)))))
section
variable {p : Program} {l : Launch} {e : Env} {s : State} {m : MethodId} {args : Array Value} {below : List Frame} {meth : Method} {c : Code} {D : va_G} {cs : Nat → ClassId} {S : List Nat} {ad : Nat → Nat}
theorem bX6_would_25 (Z : CX p s m args meth c cX6_would 3 RX6 (some .int) D cs (xA S ad) S ad) (hS : xalm S) (x1 : Int32) : ∀ (n : Nat) (x2 : Int32) (M : xm), XJ p l e rmX6_would s m args below meth c D cs (xA S ad) S ad 3 (XRb below args s D cs S ad) 25 [(0, .ref (ad 60)), (1, .int x1), (2, .int x2)] [] M (fX6_would_25 x1 n x2 M) := by
  intro n
  induction n with
  | zero => intros; exact xj_none
  | succ n ih =>
    intro x2 M
    rw [fX6_would_25]
    refine xj_iload_n Z 2 dX6_would_25 rfl rfl ?_
    refine xj_sipush Z 200 dX6_would_26 (by decide) ?_
    refine xj_icmp_ge Z 51 dX6_would_29 (by decide) (fun _ => ?_) (fun _ => ?_)
    · refine xj_aload_n Z 0 dX6_would_51 rfl rfl ?_
      refine xg_X6_29 Z (hS 60 (by decide) (by decide)) dX6_would_52 ?_
      refine xj_bipush Z 91 dX6_would_55 (by decide) ?_
      refine xj_iload_n Z 1 dX6_would_57 rfl rfl ?_
      refine xj_iadd Z dX6_would_58 ?_
      refine xj_iald Z (hS 67 (by decide) (by decide)) rfl dX6_would_59 (fun _ => ?_)
      exact xj_ret_b Z dX6_would_60
    · refine xj_aload_n Z 0 dX6_would_32 rfl rfl ?_
      refine xj_iconst Z 3 dX6_would_33 (by decide) ?_
      refine xj_iconst Z (-1) dX6_would_34 (by decide) ?_
      refine xj_callVm Z (As := [.int 3, .int (-1)]) (kX6_hour l D cs S ad Z.2.2.2.2.2.1.dist hS 3 (-1) M) gw_X6_140 (hS 60 (by decide) (by decide)) rfl rfl (n := 2) (by decide +kernel) rfl ⟨rfl, rfl⟩ (by decide) rfl (Nat.le_of_ble_eq_true rfl) dX6_would_35 (fun M1 => ?_)
      refine xj_aload_n Z 0 dX6_would_38 rfl rfl ?_
      refine xj_iconst Z 3 dX6_would_39 (by decide) ?_
      refine xj_iload_n Z 1 dX6_would_40 rfl rfl ?_
      refine xj_callVb Z (As := [.int 3, .int x1]) (kX6_isRead l D cs S ad Z.2.2.2.2.2.1.dist hS 3 x1 M1) gw_X6_160 (hS 60 (by decide) (by decide)) rfl rfl (n := 2) (by decide +kernel) rfl ⟨rfl, rfl⟩ (by decide) rfl (Nat.le_of_ble_eq_true rfl) dX6_would_41 (fun q2 => ?_)
      refine xj_pop Z dX6_would_44 rfl ?_
      refine xj_iinc Z 2 (x2 + 1) (lv' := [(2, .int (x2 + 1)), (0, .ref (ad 60)), (1, .int x1)]) dX6_would_45 rfl rfl (by decide) rfl ?_
      refine xj_goto Z 25 dX6_would_48 (by decide) ?_
      refine xj_sub [1, 2, 0] (lv' := [(0, .ref (ad 60)), (1, .int x1), (2, .int (x2 + 1))]) rfl ?_
      exact ih (x2 + 1) q2.2
end
theorem kX6_would (l : Launch) (D : va_G) (cs : Nat → ClassId) (S : List Nat) (ad : Nat → Nat) (hd : xdist S ad) (hS : xalm S) (x1 : Int32) (M : xm) : ∀ r, fX6_would x1 M = some r → Met l yX6_would [Cond.code yX6_would cX6_would 3 (some .int)] rmX6_would (XPc D cs S ad [.ref (ad 60), .int x1] M) (XQi D cs S ad r.1 r.2) 0 0 (xA S ad) := by
  refine xm_b (own := RX6) (lv := [(0, .ref (ad 60)), (1, .int x1)]) (by decide +kernel) rfl rfl (Nat.le_of_ble_eq_true rfl) hd (fun p e s m args below meth c Z => ?_)
  unfold fX6_would
  refine xj_aload_n Z 0 dX6_would_0 rfl rfl ?_
  refine xj_iload_n Z 1 dX6_would_1 rfl rfl ?_
  refine xj_callVr Z (As := [.int x1]) (kX6_isBill l D cs S ad Z.2.2.2.2.2.1.dist hS x1 M) gw_X6_153 (hS 60 (by decide) (by decide)) rfl rfl (n := 1) (by decide +kernel) rfl ⟨rfl, rfl⟩ (by decide) rfl (Nat.le_of_ble_eq_true rfl) dX6_would_2 (fun v3 => ?_)
  refine xj_if_ne Z 10 dX6_would_5 (by decide) (fun _ => ?_) (fun _ => ?_)
  · refine xj_aload_n Z 0 dX6_would_10 rfl rfl ?_
    refine xj_iconst Z 0 dX6_would_11 (by decide) ?_
    refine xj_iconst Z 3 dX6_would_12 (by decide) ?_
    refine xj_callVm Z (As := [.int 0, .int 3]) (kX6_copies l D cs S ad Z.2.2.2.2.2.1.dist hS 0 3 M) gw_X6_167 (hS 60 (by decide) (by decide)) rfl rfl (n := 2) (by decide +kernel) rfl ⟨rfl, rfl⟩ (by decide) rfl (Nat.le_of_ble_eq_true rfl) dX6_would_13 (fun M4 => ?_)
    refine xj_aload_n Z 0 dX6_would_16 rfl rfl ?_
    refine xj_iconst Z 3 dX6_would_17 (by decide) ?_
    refine xj_iload_n Z 1 dX6_would_18 rfl rfl ?_
    refine xj_callVb Z (As := [.int 3, .int x1]) (kX6_isRead l D cs S ad Z.2.2.2.2.2.1.dist hS 3 x1 M4) gw_X6_160 (hS 60 (by decide) (by decide)) rfl rfl (n := 2) (by decide +kernel) rfl ⟨rfl, rfl⟩ (by decide) rfl (Nat.le_of_ble_eq_true rfl) dX6_would_19 (fun q5 => ?_)
    refine xj_pop Z dX6_would_22 rfl ?_
    refine xj_iconst Z 0 dX6_would_23 (by decide) ?_
    refine xj_istore_n Z (lv' := [(2, .int 0), (0, .ref (ad 60)), (1, .int x1)]) dX6_would_24 rfl (by decide) rfl ?_
    refine xj_sub [1, 2, 0] (lv' := [(0, .ref (ad 60)), (1, .int x1), (2, .int 0)]) rfl ?_
    exact bX6_would_25 Z hS x1 xfuel 0 q5.2
  · refine xj_iconst Z (-1) dX6_would_8 (by decide) ?_
    exact xj_ret_b Z dX6_would_9
/-! WalkingLawModel.holds()I -/
theorem dX6_holds_0 : decode cX6_holds 0 = .ok (.aload_n 0, 1) := by decide +kernel
theorem dX6_holds_1 : decode cX6_holds 1 = .ok (.getfield 13, 3) := by decide +kernel
theorem dX6_holds_4 : decode cX6_holds 4 = .ok (.iconst 1, 1) := by decide +kernel
theorem dX6_holds_5 : decode cX6_holds 5 = .ok (.iaload, 1) := by decide +kernel
theorem dX6_holds_6 : decode cX6_holds 6 = .ok (.istore_n 1, 1) := by decide +kernel
theorem dX6_holds_7 : decode cX6_holds 7 = .ok (.aload_n 0, 1) := by decide +kernel
theorem dX6_holds_8 : decode cX6_holds 8 = .ok (.iconst 0, 1) := by decide +kernel
theorem dX6_holds_9 : decode cX6_holds 9 = .ok (.iconst 3, 1) := by decide +kernel
theorem dX6_holds_10 : decode cX6_holds 10 = .ok (.invokevirtual 167, 3) := by decide +kernel
theorem dX6_holds_13 : decode cX6_holds 13 = .ok (.iconst 0, 1) := by decide +kernel
theorem dX6_holds_14 : decode cX6_holds 14 = .ok (.istore_n 2, 1) := by decide +kernel
theorem dX6_holds_15 : decode cX6_holds 15 = .ok (.iload_n 2, 1) := by decide +kernel
theorem dX6_holds_16 : decode cX6_holds 16 = .ok (.sipush 200, 3) := by decide +kernel
theorem dX6_holds_19 : decode cX6_holds 19 = .ok (.if_icmp .gt 33, 3) := by decide +kernel
theorem dX6_holds_22 : decode cX6_holds 22 = .ok (.iload_n 2, 1) := by decide +kernel
theorem dX6_holds_23 : decode cX6_holds 23 = .ok (.ifCond .le 9, 3) := by decide +kernel
theorem dX6_holds_26 : decode cX6_holds 26 = .ok (.aload_n 0, 1) := by decide +kernel
theorem dX6_holds_27 : decode cX6_holds 27 = .ok (.iconst 3, 1) := by decide +kernel
theorem dX6_holds_28 : decode cX6_holds 28 = .ok (.iconst (-1), 1) := by decide +kernel
theorem dX6_holds_29 : decode cX6_holds 29 = .ok (.invokevirtual 140, 3) := by decide +kernel
theorem dX6_holds_32 : decode cX6_holds 32 = .ok (.aload_n 0, 1) := by decide +kernel
theorem dX6_holds_33 : decode cX6_holds 33 = .ok (.iconst 3, 1) := by decide +kernel
theorem dX6_holds_34 : decode cX6_holds 34 = .ok (.aload_n 0, 1) := by decide +kernel
theorem dX6_holds_35 : decode cX6_holds 35 = .ok (.getfield 39, 3) := by decide +kernel
theorem dX6_holds_38 : decode cX6_holds 38 = .ok (.iload_n 2, 1) := by decide +kernel
theorem dX6_holds_39 : decode cX6_holds 39 = .ok (.iload_n 1, 1) := by decide +kernel
theorem dX6_holds_40 : decode cX6_holds 40 = .ok (.irem, 1) := by decide +kernel
theorem dX6_holds_41 : decode cX6_holds 41 = .ok (.iaload, 1) := by decide +kernel
theorem dX6_holds_42 : decode cX6_holds 42 = .ok (.invokevirtual 160, 3) := by decide +kernel
theorem dX6_holds_45 : decode cX6_holds 45 = .ok (.pop, 1) := by decide +kernel
theorem dX6_holds_46 : decode cX6_holds 46 = .ok (.iinc 2 1, 3) := by decide +kernel
theorem dX6_holds_49 : decode cX6_holds 49 = .ok (.goto (-34), 3) := by decide +kernel
theorem dX6_holds_52 : decode cX6_holds 52 = .ok (.iconst 0, 1) := by decide +kernel
theorem dX6_holds_53 : decode cX6_holds 53 = .ok (.istore_n 2, 1) := by decide +kernel
theorem dX6_holds_54 : decode cX6_holds 54 = .ok (.iconst 0, 1) := by decide +kernel
theorem dX6_holds_55 : decode cX6_holds 55 = .ok (.istore_n 3, 1) := by decide +kernel
theorem dX6_holds_56 : decode cX6_holds 56 = .ok (.iload_n 3, 1) := by decide +kernel
theorem dX6_holds_57 : decode cX6_holds 57 = .ok (.iload_n 1, 1) := by decide +kernel
theorem dX6_holds_58 : decode cX6_holds 58 = .ok (.if_icmp .ge 26, 3) := by decide +kernel
theorem dX6_holds_61 : decode cX6_holds 61 = .ok (.iload_n 2, 1) := by decide +kernel
theorem dX6_holds_62 : decode cX6_holds 62 = .ok (.aload_n 0, 1) := by decide +kernel
theorem dX6_holds_63 : decode cX6_holds 63 = .ok (.iconst 3, 1) := by decide +kernel
theorem dX6_holds_64 : decode cX6_holds 64 = .ok (.iload_n 3, 1) := by decide +kernel
theorem dX6_holds_65 : decode cX6_holds 65 = .ok (.invokevirtual 164, 3) := by decide +kernel
theorem dX6_holds_68 : decode cX6_holds 68 = .ok (.ifCond .eq 7, 3) := by decide +kernel
theorem dX6_holds_71 : decode cX6_holds 71 = .ok (.iconst 1, 1) := by decide +kernel
theorem dX6_holds_72 : decode cX6_holds 72 = .ok (.goto 4, 3) := by decide +kernel
theorem dX6_holds_75 : decode cX6_holds 75 = .ok (.iconst 0, 1) := by decide +kernel
theorem dX6_holds_76 : decode cX6_holds 76 = .ok (.iadd, 1) := by decide +kernel
theorem dX6_holds_77 : decode cX6_holds 77 = .ok (.istore_n 2, 1) := by decide +kernel
theorem dX6_holds_78 : decode cX6_holds 78 = .ok (.iinc 3 1, 3) := by decide +kernel
theorem dX6_holds_81 : decode cX6_holds 81 = .ok (.goto (-25), 3) := by decide +kernel
theorem dX6_holds_84 : decode cX6_holds 84 = .ok (.iload_n 2, 1) := by decide +kernel
theorem dX6_holds_85 : decode cX6_holds 85 = .ok (.ireturn, 1) := by decide +kernel
def rmX6_holds : Room := { frames := 5, cells := 0, slots := 0, locals := 122 }
def fX6_holds_32 (k15 : Int32 → xm → Option (Int32 × xm)) (x1 : Int32) (x2 : Int32) (M : xm) : Option (Int32 × xm) := xnz x1 (xchk (x2 - x2 / x1 * x1) 4 ((fX6_isRead 3 (M.1 70 ((x2 - x2 / x1 * x1)).toNatClampNeg) M).bind (fun q1 => (k15 (x2 + 1) q1.2))))
def fX6_holds_76 (k56 : Int32 → Int32 → Option (Int32 × xm)) (x1 : Int32) (x3 : Int32) (t0 : Int32) (t1 : Int32) (M : xm) : Option (Int32 × xm) := xl (t0 + t1) (fun v2 => (k56 v2 (x3 + 1)))
def fX6_holds_56 (x1 : Int32) (M : xm) : Nat → Int32 → Int32 → Option (Int32 × xm)
  | 0, _, _ => none
  | n + 1, x2, x3 => (if x1 ≤ x3 then (some (x2, M)) else (fX6_isHeld 3 x3 M).bind (fun v3 => (if v3 = 0 then (fX6_holds_76 (fun z0 z1 => fX6_holds_56 x1 M n z0 z1) x1 x3 x2 0 M) else (fX6_holds_76 (fun z0 z1 => fX6_holds_56 x1 M n z0 z1) x1 x3 x2 1 M))))
def fX6_holds_15 (x1 : Int32) : Nat → Int32 → xm → Option (Int32 × xm)
  | 0, _, _ => none
  | n + 1, x2, M => (if (200 : Int32) < x2 then (fX6_holds_56 x1 M xfuel 0 0) else (if x2 ≤ 0 then (fX6_holds_32 (fun z0 z1 => fX6_holds_15 x1 n z0 z1) x1 x2 M) else (fX6_hour 3 (-1) M).bind (fun M4 => (fX6_holds_32 (fun z0 z1 => fX6_holds_15 x1 n z0 z1) x1 x2 M4))))
def fX6_holds (M : xm) : Option (Int32 × xm) := xchk 1 4 (xl (M.1 62 (1 : Int32).toNatClampNeg) (fun v5 => (fX6_copies 0 3 M).bind (fun M6 => (fX6_holds_15 v5 xfuel 0 M6))))
section
variable {p : Program} {l : Launch} {e : Env} {s : State} {m : MethodId} {args : Array Value} {below : List Frame} {meth : Method} {c : Code} {D : va_G} {cs : Nat → ClassId} {S : List Nat} {ad : Nat → Nat}
theorem bX6_holds_32 (Z : CX p s m args meth c cX6_holds 4 RX6 (some .int) D cs (xA S ad) S ad) (hS : xalm S) {k15 : Int32 → xm → Option (Int32 × xm)} (x1 : Int32) (x2 : Int32) (M : xm) (hk15 : ∀ (x2 : Int32) (M : xm), XJ p l e rmX6_holds s m args below meth c D cs (xA S ad) S ad 4 (XRb below args s D cs S ad) 15 [(0, .ref (ad 60)), (1, .int x1), (2, .int x2)] [] M (k15 x2 M)) : XJ p l e rmX6_holds s m args below meth c D cs (xA S ad) S ad 4 (XRb below args s D cs S ad) 32 [(0, .ref (ad 60)), (1, .int x1), (2, .int x2)] [] M (fX6_holds_32 k15 x1 x2 M) := by
  unfold fX6_holds_32
  refine xj_aload_n Z 0 dX6_holds_32 rfl rfl ?_
  refine xj_iconst Z 3 dX6_holds_33 (by decide) ?_
  refine xj_aload_n Z 0 dX6_holds_34 rfl rfl ?_
  refine xg_X6_39 Z (hS 60 (by decide) (by decide)) dX6_holds_35 ?_
  refine xj_iload_n Z 2 dX6_holds_38 rfl rfl ?_
  refine xj_iload_n Z 1 dX6_holds_39 rfl rfl ?_
  refine xj_iremz Z dX6_holds_40 ?_
  refine xj_iald Z (hS 70 (by decide) (by decide)) rfl dX6_holds_41 (fun _ => ?_)
  refine xj_callVb Z (As := [.int 3, .int (M.1 70 ((x2 - x2 / x1 * x1)).toNatClampNeg)]) (kX6_isRead l D cs S ad Z.2.2.2.2.2.1.dist hS 3 (M.1 70 ((x2 - x2 / x1 * x1)).toNatClampNeg) M) gw_X6_160 (hS 60 (by decide) (by decide)) rfl rfl (n := 2) (by decide +kernel) rfl ⟨rfl, rfl⟩ (by decide) rfl (Nat.le_of_ble_eq_true rfl) dX6_holds_42 (fun q1 => ?_)
  refine xj_pop Z dX6_holds_45 rfl ?_
  refine xj_iinc Z 2 (x2 + 1) (lv' := [(2, .int (x2 + 1)), (0, .ref (ad 60)), (1, .int x1)]) dX6_holds_46 rfl rfl (by decide) rfl ?_
  refine xj_goto Z 15 dX6_holds_49 (by decide) ?_
  refine xj_sub [1, 2, 0] (lv' := [(0, .ref (ad 60)), (1, .int x1), (2, .int (x2 + 1))]) rfl ?_
  exact hk15 (x2 + 1) q1.2
theorem bX6_holds_76 (Z : CX p s m args meth c cX6_holds 4 RX6 (some .int) D cs (xA S ad) S ad) (hS : xalm S) {k56 : Int32 → Int32 → Option (Int32 × xm)} (x1 : Int32) (x3 : Int32) (t0 : Int32) (t1 : Int32) (M : xm) (hk56 : ∀ (x2 : Int32) (x3 : Int32), XJ p l e rmX6_holds s m args below meth c D cs (xA S ad) S ad 4 (XRb below args s D cs S ad) 56 [(0, .ref (ad 60)), (1, .int x1), (2, .int x2), (3, .int x3)] [] M (k56 x2 x3)) : XJ p l e rmX6_holds s m args below meth c D cs (xA S ad) S ad 4 (XRb below args s D cs S ad) 76 [(0, .ref (ad 60)), (1, .int x1), (3, .int x3)] [.int t1, .int t0] M (fX6_holds_76 k56 x1 x3 t0 t1 M) := by
  unfold fX6_holds_76
  refine xj_iadd Z dX6_holds_76 ?_
  refine xj_top (fun v2 => ?_)
  refine xj_istore_n Z (lv' := [(2, .int v2), (0, .ref (ad 60)), (1, .int x1), (3, .int x3)]) dX6_holds_77 rfl (by decide) rfl ?_
  refine xj_iinc Z 3 (x3 + 1) (lv' := [(3, .int (x3 + 1)), (2, .int v2), (0, .ref (ad 60)), (1, .int x1)]) dX6_holds_78 rfl rfl (by decide) rfl ?_
  refine xj_goto Z 56 dX6_holds_81 (by decide) ?_
  refine xj_sub [2, 3, 1, 0] (lv' := [(0, .ref (ad 60)), (1, .int x1), (2, .int v2), (3, .int (x3 + 1))]) rfl ?_
  exact hk56 v2 (x3 + 1)
theorem bX6_holds_56 (Z : CX p s m args meth c cX6_holds 4 RX6 (some .int) D cs (xA S ad) S ad) (hS : xalm S) (x1 : Int32) (M : xm) : ∀ (n : Nat) (x2 : Int32) (x3 : Int32), XJ p l e rmX6_holds s m args below meth c D cs (xA S ad) S ad 4 (XRb below args s D cs S ad) 56 [(0, .ref (ad 60)), (1, .int x1), (2, .int x2), (3, .int x3)] [] M (fX6_holds_56 x1 M n x2 x3) := by
  intro n
  induction n with
  | zero => intros; exact xj_none
  | succ n ih =>
    intro x2 x3
    rw [fX6_holds_56]
    refine xj_iload_n Z 3 dX6_holds_56 rfl rfl ?_
    refine xj_iload_n Z 1 dX6_holds_57 rfl rfl ?_
    refine xj_icmp_ge Z 84 dX6_holds_58 (by decide) (fun _ => ?_) (fun _ => ?_)
    · refine xj_iload_n Z 2 dX6_holds_84 rfl rfl ?_
      exact xj_ret_b Z dX6_holds_85
    · refine xj_iload_n Z 2 dX6_holds_61 rfl rfl ?_
      refine xj_aload_n Z 0 dX6_holds_62 rfl rfl ?_
      refine xj_iconst Z 3 dX6_holds_63 (by decide) ?_
      refine xj_iload_n Z 3 dX6_holds_64 rfl rfl ?_
      refine xj_callVr Z (As := [.int 3, .int x3]) (kX6_isHeld l D cs S ad Z.2.2.2.2.2.1.dist hS 3 x3 M) gw_X6_164 (hS 60 (by decide) (by decide)) rfl rfl (n := 2) (by decide +kernel) rfl ⟨rfl, rfl⟩ (by decide) rfl (Nat.le_of_ble_eq_true rfl) dX6_holds_65 (fun v3 => ?_)
      refine xj_if_eq Z 75 dX6_holds_68 (by decide) (fun _ => ?_) (fun _ => ?_)
      · refine xj_iconst Z 0 dX6_holds_75 (by decide) ?_
        refine xj_sub [0, 1, 3] (lv' := [(0, .ref (ad 60)), (1, .int x1), (3, .int x3)]) rfl ?_
        exact bX6_holds_76 Z hS x1 x3 x2 0 M ih
      · refine xj_iconst Z 1 dX6_holds_71 (by decide) ?_
        refine xj_goto Z 76 dX6_holds_72 (by decide) ?_
        refine xj_sub [0, 1, 3] (lv' := [(0, .ref (ad 60)), (1, .int x1), (3, .int x3)]) rfl ?_
        exact bX6_holds_76 Z hS x1 x3 x2 1 M ih
theorem bX6_holds_15 (Z : CX p s m args meth c cX6_holds 4 RX6 (some .int) D cs (xA S ad) S ad) (hS : xalm S) (x1 : Int32) : ∀ (n : Nat) (x2 : Int32) (M : xm), XJ p l e rmX6_holds s m args below meth c D cs (xA S ad) S ad 4 (XRb below args s D cs S ad) 15 [(0, .ref (ad 60)), (1, .int x1), (2, .int x2)] [] M (fX6_holds_15 x1 n x2 M) := by
  intro n
  induction n with
  | zero => intros; exact xj_none
  | succ n ih =>
    intro x2 M
    rw [fX6_holds_15]
    refine xj_iload_n Z 2 dX6_holds_15 rfl rfl ?_
    refine xj_sipush Z 200 dX6_holds_16 (by decide) ?_
    refine xj_icmp_gt Z 52 dX6_holds_19 (by decide) (fun _ => ?_) (fun _ => ?_)
    · refine xj_iconst Z 0 dX6_holds_52 (by decide) ?_
      refine xj_istore_n Z (lv' := [(2, .int 0), (0, .ref (ad 60)), (1, .int x1)]) dX6_holds_53 rfl (by decide) rfl ?_
      refine xj_iconst Z 0 dX6_holds_54 (by decide) ?_
      refine xj_istore_n Z (lv' := [(3, .int 0), (2, .int 0), (0, .ref (ad 60)), (1, .int x1)]) dX6_holds_55 rfl (by decide) rfl ?_
      refine xj_sub [2, 3, 1, 0] (lv' := [(0, .ref (ad 60)), (1, .int x1), (2, .int 0), (3, .int 0)]) rfl ?_
      exact bX6_holds_56 Z hS x1 M xfuel 0 0
    · refine xj_iload_n Z 2 dX6_holds_22 rfl rfl ?_
      refine xj_if_le Z 32 dX6_holds_23 (by decide) (fun _ => ?_) (fun _ => ?_)
      · exact bX6_holds_32 Z hS x1 x2 M ih
      · refine xj_aload_n Z 0 dX6_holds_26 rfl rfl ?_
        refine xj_iconst Z 3 dX6_holds_27 (by decide) ?_
        refine xj_iconst Z (-1) dX6_holds_28 (by decide) ?_
        refine xj_callVm Z (As := [.int 3, .int (-1)]) (kX6_hour l D cs S ad Z.2.2.2.2.2.1.dist hS 3 (-1) M) gw_X6_140 (hS 60 (by decide) (by decide)) rfl rfl (n := 2) (by decide +kernel) rfl ⟨rfl, rfl⟩ (by decide) rfl (Nat.le_of_ble_eq_true rfl) dX6_holds_29 (fun M4 => ?_)
        exact bX6_holds_32 Z hS x1 x2 M4 ih
end
theorem kX6_holds (l : Launch) (D : va_G) (cs : Nat → ClassId) (S : List Nat) (ad : Nat → Nat) (hd : xdist S ad) (hS : xalm S) (M : xm) : ∀ r, fX6_holds M = some r → Met l yX6_holds [Cond.code yX6_holds cX6_holds 4 (some .int)] rmX6_holds (XPc D cs S ad [.ref (ad 60)] M) (XQi D cs S ad r.1 r.2) 0 0 (xA S ad) := by
  refine xm_b (own := RX6) (lv := [(0, .ref (ad 60))]) (by decide +kernel) rfl rfl (Nat.le_of_ble_eq_true rfl) hd (fun p e s m args below meth c Z => ?_)
  unfold fX6_holds
  refine xj_aload_n Z 0 dX6_holds_0 rfl rfl ?_
  refine xg_X6_13 Z (hS 60 (by decide) (by decide)) dX6_holds_1 ?_
  refine xj_iconst Z 1 dX6_holds_4 (by decide) ?_
  refine xj_iald Z (hS 62 (by decide) (by decide)) rfl dX6_holds_5 (fun _ => ?_)
  refine xj_top (fun v5 => ?_)
  refine xj_istore_n Z (lv' := [(1, .int v5), (0, .ref (ad 60))]) dX6_holds_6 rfl (by decide) rfl ?_
  refine xj_aload_n Z 1 dX6_holds_7 rfl rfl ?_
  refine xj_iconst Z 0 dX6_holds_8 (by decide) ?_
  refine xj_iconst Z 3 dX6_holds_9 (by decide) ?_
  refine xj_callVm Z (As := [.int 0, .int 3]) (kX6_copies l D cs S ad Z.2.2.2.2.2.1.dist hS 0 3 M) gw_X6_167 (hS 60 (by decide) (by decide)) rfl rfl (n := 2) (by decide +kernel) rfl ⟨rfl, rfl⟩ (by decide) rfl (Nat.le_of_ble_eq_true rfl) dX6_holds_10 (fun M6 => ?_)
  refine xj_iconst Z 0 dX6_holds_13 (by decide) ?_
  refine xj_istore_n Z (lv' := [(2, .int 0), (1, .int v5), (0, .ref (ad 60))]) dX6_holds_14 rfl (by decide) rfl ?_
  refine xj_sub [2, 1, 0] (lv' := [(0, .ref (ad 60)), (1, .int v5), (2, .int 0)]) rfl ?_
  exact bX6_holds_15 Z hS v5 xfuel 0 M6
/-! WalkingLawModel.order(I)I -/
theorem dX6_order_0 : decode cX6_order 0 = .ok (.aload_n 0, 1) := by decide +kernel
theorem dX6_order_1 : decode cX6_order 1 = .ok (.getfield 13, 3) := by decide +kernel
theorem dX6_order_4 : decode cX6_order 4 = .ok (.iconst 1, 1) := by decide +kernel
theorem dX6_order_5 : decode cX6_order 5 = .ok (.iaload, 1) := by decide +kernel
theorem dX6_order_6 : decode cX6_order 6 = .ok (.istore_n 2, 1) := by decide +kernel
theorem dX6_order_7 : decode cX6_order 7 = .ok (.iload_n 1, 1) := by decide +kernel
theorem dX6_order_8 : decode cX6_order 8 = .ok (.i2l, 1) := by decide +kernel
theorem dX6_order_9 : decode cX6_order 9 = .ok (.ldc2_w 178, 3) := by decide +kernel
theorem dX6_order_12 : decode cX6_order 12 = .ok (.iload_n 2, 1) := by decide +kernel
theorem dX6_order_13 : decode cX6_order 13 = .ok (.iconst 1, 1) := by decide +kernel
theorem dX6_order_14 : decode cX6_order 14 = .ok (.isub, 1) := by decide +kernel
theorem dX6_order_15 : decode cX6_order 15 = .ok (.i2l, 1) := by decide +kernel
theorem dX6_order_16 : decode cX6_order 16 = .ok (.invokestatic 56, 3) := by decide +kernel
theorem dX6_order_19 : decode cX6_order 19 = .ok (.ifCond .ne 5, 3) := by decide +kernel
theorem dX6_order_22 : decode cX6_order 22 = .ok (.iconst (-1), 1) := by decide +kernel
theorem dX6_order_23 : decode cX6_order 23 = .ok (.ireturn, 1) := by decide +kernel
theorem dX6_order_24 : decode cX6_order 24 = .ok (.iconst (-1), 1) := by decide +kernel
theorem dX6_order_25 : decode cX6_order 25 = .ok (.istore_n 3, 1) := by decide +kernel
theorem dX6_order_26 : decode cX6_order 26 = .ok (.iconst 0, 1) := by decide +kernel
theorem dX6_order_27 : decode cX6_order 27 = .ok (.istore 4, 2) := by decide +kernel
theorem dX6_order_29 : decode cX6_order 29 = .ok (.iload 4, 2) := by decide +kernel
theorem dX6_order_31 : decode cX6_order 31 = .ok (.sipush 256, 3) := by decide +kernel
theorem dX6_order_34 : decode cX6_order 34 = .ok (.if_icmp .ge 134, 3) := by decide +kernel
theorem dX6_order_37 : decode cX6_order 37 = .ok (.iconst 0, 1) := by decide +kernel
theorem dX6_order_38 : decode cX6_order 38 = .ok (.istore 5, 2) := by decide +kernel
theorem dX6_order_40 : decode cX6_order 40 = .ok (.iconst 0, 1) := by decide +kernel
theorem dX6_order_41 : decode cX6_order 41 = .ok (.istore 6, 2) := by decide +kernel
theorem dX6_order_43 : decode cX6_order 43 = .ok (.iload 6, 2) := by decide +kernel
theorem dX6_order_45 : decode cX6_order 45 = .ok (.iload_n 2, 1) := by decide +kernel
theorem dX6_order_46 : decode cX6_order 46 = .ok (.if_icmp .ge 43, 3) := by decide +kernel
theorem dX6_order_49 : decode cX6_order 49 = .ok (.aload_n 0, 1) := by decide +kernel
theorem dX6_order_50 : decode cX6_order 50 = .ok (.getfield 39, 3) := by decide +kernel
theorem dX6_order_53 : decode cX6_order 53 = .ok (.iload 6, 2) := by decide +kernel
theorem dX6_order_55 : decode cX6_order 55 = .ok (.iload 4, 2) := by decide +kernel
theorem dX6_order_57 : decode cX6_order 57 = .ok (.iconst 2, 1) := by decide +kernel
theorem dX6_order_58 : decode cX6_order 58 = .ok (.iload_n 2, 1) := by decide +kernel
theorem dX6_order_59 : decode cX6_order 59 = .ok (.iconst 1, 1) := by decide +kernel
theorem dX6_order_60 : decode cX6_order 60 = .ok (.isub, 1) := by decide +kernel
theorem dX6_order_61 : decode cX6_order 61 = .ok (.iload 6, 2) := by decide +kernel
theorem dX6_order_63 : decode cX6_order 63 = .ok (.isub, 1) := by decide +kernel
theorem dX6_order_64 : decode cX6_order 64 = .ok (.imul, 1) := by decide +kernel
theorem dX6_order_65 : decode cX6_order 65 = .ok (.ishr, 1) := by decide +kernel
theorem dX6_order_66 : decode cX6_order 66 = .ok (.iconst 3, 1) := by decide +kernel
theorem dX6_order_67 : decode cX6_order 67 = .ok (.iand, 1) := by decide +kernel
theorem dX6_order_68 : decode cX6_order 68 = .ok (.iastore, 1) := by decide +kernel
theorem dX6_order_69 : decode cX6_order 69 = .ok (.iload 5, 2) := by decide +kernel
theorem dX6_order_71 : decode cX6_order 71 = .ok (.iconst 1, 1) := by decide +kernel
theorem dX6_order_72 : decode cX6_order 72 = .ok (.aload_n 0, 1) := by decide +kernel
theorem dX6_order_73 : decode cX6_order 73 = .ok (.getfield 39, 3) := by decide +kernel
theorem dX6_order_76 : decode cX6_order 76 = .ok (.iload 6, 2) := by decide +kernel
theorem dX6_order_78 : decode cX6_order 78 = .ok (.iaload, 1) := by decide +kernel
theorem dX6_order_79 : decode cX6_order 79 = .ok (.ishl, 1) := by decide +kernel
theorem dX6_order_80 : decode cX6_order 80 = .ok (.ior, 1) := by decide +kernel
theorem dX6_order_81 : decode cX6_order 81 = .ok (.istore 5, 2) := by decide +kernel
theorem dX6_order_83 : decode cX6_order 83 = .ok (.iinc 6 1, 3) := by decide +kernel
theorem dX6_order_86 : decode cX6_order 86 = .ok (.goto (-43), 3) := by decide +kernel
theorem dX6_order_89 : decode cX6_order 89 = .ok (.iload 4, 2) := by decide +kernel
theorem dX6_order_91 : decode cX6_order 91 = .ok (.iconst 2, 1) := by decide +kernel
theorem dX6_order_92 : decode cX6_order 92 = .ok (.iload_n 2, 1) := by decide +kernel
theorem dX6_order_93 : decode cX6_order 93 = .ok (.imul, 1) := by decide +kernel
theorem dX6_order_94 : decode cX6_order 94 = .ok (.ishr, 1) := by decide +kernel
theorem dX6_order_95 : decode cX6_order 95 = .ok (.ifCond .ne 67, 3) := by decide +kernel
theorem dX6_order_98 : decode cX6_order 98 = .ok (.iload 5, 2) := by decide +kernel
theorem dX6_order_100 : decode cX6_order 100 = .ok (.iconst 1, 1) := by decide +kernel
theorem dX6_order_101 : decode cX6_order 101 = .ok (.iload_n 2, 1) := by decide +kernel
theorem dX6_order_102 : decode cX6_order 102 = .ok (.ishl, 1) := by decide +kernel
theorem dX6_order_103 : decode cX6_order 103 = .ok (.iconst 1, 1) := by decide +kernel
theorem dX6_order_104 : decode cX6_order 104 = .ok (.isub, 1) := by decide +kernel
theorem dX6_order_105 : decode cX6_order 105 = .ok (.if_icmp .ne 57, 3) := by decide +kernel
theorem dX6_order_108 : decode cX6_order 108 = .ok (.aload_n 0, 1) := by decide +kernel
theorem dX6_order_109 : decode cX6_order 109 = .ok (.invokevirtual 180, 3) := by decide +kernel
theorem dX6_order_112 : decode cX6_order 112 = .ok (.istore 6, 2) := by decide +kernel
theorem dX6_order_114 : decode cX6_order 114 = .ok (.iconst 0, 1) := by decide +kernel
theorem dX6_order_115 : decode cX6_order 115 = .ok (.istore 7, 2) := by decide +kernel
theorem dX6_order_117 : decode cX6_order 117 = .ok (.iload 7, 2) := by decide +kernel
theorem dX6_order_119 : decode cX6_order 119 = .ok (.iload_n 2, 1) := by decide +kernel
theorem dX6_order_120 : decode cX6_order 120 = .ok (.if_icmp .ge 29, 3) := by decide +kernel
theorem dX6_order_123 : decode cX6_order 123 = .ok (.iload 6, 2) := by decide +kernel
theorem dX6_order_125 : decode cX6_order 125 = .ok (.iload_n 3, 1) := by decide +kernel
theorem dX6_order_126 : decode cX6_order 126 = .ok (.if_icmp .le 23, 3) := by decide +kernel
theorem dX6_order_129 : decode cX6_order 129 = .ok (.aload_n 0, 1) := by decide +kernel
theorem dX6_order_130 : decode cX6_order 130 = .ok (.getfield 42, 3) := by decide +kernel
theorem dX6_order_133 : decode cX6_order 133 = .ok (.iload 7, 2) := by decide +kernel
theorem dX6_order_135 : decode cX6_order 135 = .ok (.aload_n 0, 1) := by decide +kernel
theorem dX6_order_136 : decode cX6_order 136 = .ok (.getfield 39, 3) := by decide +kernel
theorem dX6_order_139 : decode cX6_order 139 = .ok (.iload 7, 2) := by decide +kernel
theorem dX6_order_141 : decode cX6_order 141 = .ok (.iaload, 1) := by decide +kernel
theorem dX6_order_142 : decode cX6_order 142 = .ok (.iastore, 1) := by decide +kernel
theorem dX6_order_143 : decode cX6_order 143 = .ok (.iinc 7 1, 3) := by decide +kernel
theorem dX6_order_146 : decode cX6_order 146 = .ok (.goto (-29), 3) := by decide +kernel
theorem dX6_order_149 : decode cX6_order 149 = .ok (.iload 6, 2) := by decide +kernel
theorem dX6_order_151 : decode cX6_order 151 = .ok (.iload_n 3, 1) := by decide +kernel
theorem dX6_order_152 : decode cX6_order 152 = .ok (.if_icmp .le 8, 3) := by decide +kernel
theorem dX6_order_155 : decode cX6_order 155 = .ok (.iload 6, 2) := by decide +kernel
theorem dX6_order_157 : decode cX6_order 157 = .ok (.goto 4, 3) := by decide +kernel
theorem dX6_order_160 : decode cX6_order 160 = .ok (.iload_n 3, 1) := by decide +kernel
theorem dX6_order_161 : decode cX6_order 161 = .ok (.istore_n 3, 1) := by decide +kernel
theorem dX6_order_162 : decode cX6_order 162 = .ok (.iinc 4 1, 3) := by decide +kernel
theorem dX6_order_165 : decode cX6_order 165 = .ok (.goto (-136), 3) := by decide +kernel
theorem dX6_order_168 : decode cX6_order 168 = .ok (.iload_n 1, 1) := by decide +kernel
theorem dX6_order_169 : decode cX6_order 169 = .ok (.ifCond .ge 7, 3) := by decide +kernel
theorem dX6_order_172 : decode cX6_order 172 = .ok (.iload_n 3, 1) := by decide +kernel
theorem dX6_order_173 : decode cX6_order 173 = .ok (.goto 9, 3) := by decide +kernel
theorem dX6_order_176 : decode cX6_order 176 = .ok (.aload_n 0, 1) := by decide +kernel
theorem dX6_order_177 : decode cX6_order 177 = .ok (.getfield 42, 3) := by decide +kernel
theorem dX6_order_180 : decode cX6_order 180 = .ok (.iload_n 1, 1) := by decide +kernel
theorem dX6_order_181 : decode cX6_order 181 = .ok (.iaload, 1) := by decide +kernel
theorem dX6_order_182 : decode cX6_order 182 = .ok (.ireturn, 1) := by decide +kernel
def rmX6_order : Room := { frames := 6, cells := 0, slots := 0, locals := 145 }
def fX6_order_162 (k29 : Int32 → Int32 → xm → Option (Int32 × xm)) (x1 : Int32) (x2 : Int32) (x3 : Int32) (x4 : Int32) (M : xm) : Option (Int32 × xm) := (k29 x3 (x4 + 1) M)
def fX6_order_161 (k29 : Int32 → Int32 → xm → Option (Int32 × xm)) (x1 : Int32) (x2 : Int32) (x4 : Int32) (t0 : Int32) (M : xm) : Option (Int32 × xm) := (fX6_order_162 (k29) x1 x2 t0 x4 M)
def fX6_order_149 (k29 : Int32 → Int32 → xm → Option (Int32 × xm)) (x1 : Int32) (x2 : Int32) (x3 : Int32) (x4 : Int32) (x6 : Int32) (M : xm) : Option (Int32 × xm) := (if x6 ≤ x3 then (fX6_order_161 (k29) x1 x2 x4 x3 M) else (fX6_order_161 (k29) x1 x2 x4 x6 M))
def fX6_order_117 (k29 : Int32 → Int32 → xm → Option (Int32 × xm)) (x1 : Int32) (x2 : Int32) (x3 : Int32) (x4 : Int32) (x6 : Int32) : Nat → Int32 → xm → Option (Int32 × xm)
  | 0, _, _ => none
  | n + 1, x7, M => (if x2 ≤ x7 then (fX6_order_149 (k29) x1 x2 x3 x4 x6 M) else (if x6 ≤ x3 then (fX6_order_149 (k29) x1 x2 x3 x4 x6 M) else xchk x7 4 (xchk x7 4 (xl (up M 71 (x7 : Int32).toNatClampNeg (M.1 70 x7.toNatClampNeg)) (fun M1 => (fX6_order_117 k29 x1 x2 x3 x4 x6 n (x7 + 1) M1))))))
def fX6_order_43 (k29 : Int32 → Int32 → xm → Option (Int32 × xm)) (x1 : Int32) (x2 : Int32) (x3 : Int32) (x4 : Int32) : Nat → Int32 → Int32 → xm → Option (Int32 × xm)
  | 0, _, _, _ => none
  | n + 1, x5, x6, M => (if x2 ≤ x6 then (if (x4 >>> ((2 * x2) &&& 31)) = 0 then (if x5 = ((1 <<< (x2 &&& 31)) - 1) then (fX6_holds M).bind (fun q2 => (fX6_order_117 (k29) x1 x2 x3 x4 q2.1 xfuel 0 q2.2)) else (fX6_order_162 (k29) x1 x2 x3 x4 M)) else (fX6_order_162 (k29) x1 x2 x3 x4 M)) else xchk x6 4 (xl (up M 70 (x6 : Int32).toNatClampNeg ((x4 >>> ((2 * ((x2 - 1) - x6)) &&& 31)) &&& 3)) (fun M3 => xchk x6 4 (xl (x5 ||| (1 <<< ((M3.1 70 x6.toNatClampNeg) &&& 31))) (fun v4 => (fX6_order_43 k29 x1 x2 x3 x4 n v4 (x6 + 1) M3))))))
def fX6_order_182 (t0 : Int32) (M : xm) : Option (Int32 × xm) := (some (t0, M))
def fX6_order_29 (x1 : Int32) (x2 : Int32) : Nat → Int32 → Int32 → xm → Option (Int32 × xm)
  | 0, _, _, _ => none
  | n + 1, x3, x4, M => (if (256 : Int32) ≤ x4 then (if (0 : Int32) ≤ x1 then xchk x1 4 ((fX6_order_182 (M.1 71 x1.toNatClampNeg) M)) else (fX6_order_182 x3 M)) else (fX6_order_43 (fun z0 z1 z2 => fX6_order_29 x1 x2 n z0 z1 z2) x1 x2 x3 x4 xfuel 0 0 M))
def fX6_order (x1 : Int32) (M : xm) : Option (Int32 × xm) := xchk 1 4 (xl (M.1 62 (1 : Int32).toNatClampNeg) (fun v5 => (fX6_in (Int32.toInt64 x1) (-1) (Int32.toInt64 (v5 - 1)) M).bind (fun v6 => (if v6 = 0 then (some ((-1), M)) else (fX6_order_29 x1 v5 xfuel (-1) 0 M)))))
section
variable {p : Program} {l : Launch} {e : Env} {s : State} {m : MethodId} {args : Array Value} {below : List Frame} {meth : Method} {c : Code} {D : va_G} {cs : Nat → ClassId} {S : List Nat} {ad : Nat → Nat}
theorem bX6_order_162 (Z : CX p s m args meth c cX6_order 8 RX6 (some .int) D cs (xA S ad) S ad) (hS : xalm S) {k29 : Int32 → Int32 → xm → Option (Int32 × xm)} (x1 : Int32) (x2 : Int32) (x3 : Int32) (x4 : Int32) (M : xm) (hk29 : ∀ (x3 : Int32) (x4 : Int32) (M : xm), XJ p l e rmX6_order s m args below meth c D cs (xA S ad) S ad 8 (XRb below args s D cs S ad) 29 [(0, .ref (ad 60)), (1, .int x1), (2, .int x2), (3, .int x3), (4, .int x4)] [] M (k29 x3 x4 M)) : XJ p l e rmX6_order s m args below meth c D cs (xA S ad) S ad 8 (XRb below args s D cs S ad) 162 [(0, .ref (ad 60)), (1, .int x1), (2, .int x2), (3, .int x3), (4, .int x4)] [] M (fX6_order_162 k29 x1 x2 x3 x4 M) := by
  unfold fX6_order_162
  refine xj_iinc Z 4 (x4 + 1) (lv' := [(4, .int (x4 + 1)), (0, .ref (ad 60)), (1, .int x1), (2, .int x2), (3, .int x3)]) dX6_order_162 rfl rfl (by decide) rfl ?_
  refine xj_goto Z 29 dX6_order_165 (by decide) ?_
  refine xj_sub [1, 2, 3, 4, 0] (lv' := [(0, .ref (ad 60)), (1, .int x1), (2, .int x2), (3, .int x3), (4, .int (x4 + 1))]) rfl ?_
  exact hk29 x3 (x4 + 1) M
theorem bX6_order_161 (Z : CX p s m args meth c cX6_order 8 RX6 (some .int) D cs (xA S ad) S ad) (hS : xalm S) {k29 : Int32 → Int32 → xm → Option (Int32 × xm)} (x1 : Int32) (x2 : Int32) (x4 : Int32) (t0 : Int32) (M : xm) (hk29 : ∀ (x3 : Int32) (x4 : Int32) (M : xm), XJ p l e rmX6_order s m args below meth c D cs (xA S ad) S ad 8 (XRb below args s D cs S ad) 29 [(0, .ref (ad 60)), (1, .int x1), (2, .int x2), (3, .int x3), (4, .int x4)] [] M (k29 x3 x4 M)) : XJ p l e rmX6_order s m args below meth c D cs (xA S ad) S ad 8 (XRb below args s D cs S ad) 161 [(0, .ref (ad 60)), (1, .int x1), (2, .int x2), (4, .int x4)] [.int t0] M (fX6_order_161 k29 x1 x2 x4 t0 M) := by
  unfold fX6_order_161
  refine xj_istore_n Z (lv' := [(3, .int t0), (0, .ref (ad 60)), (1, .int x1), (2, .int x2), (4, .int x4)]) dX6_order_161 rfl (by decide) rfl ?_
  refine xj_sub [1, 2, 3, 0, 4] (lv' := [(0, .ref (ad 60)), (1, .int x1), (2, .int x2), (3, .int t0), (4, .int x4)]) rfl ?_
  exact bX6_order_162 Z hS x1 x2 t0 x4 M hk29
theorem bX6_order_149 (Z : CX p s m args meth c cX6_order 8 RX6 (some .int) D cs (xA S ad) S ad) (hS : xalm S) {k29 : Int32 → Int32 → xm → Option (Int32 × xm)} (x1 : Int32) (x2 : Int32) (x3 : Int32) (x4 : Int32) (x6 : Int32) (M : xm) (hk29 : ∀ (x3 : Int32) (x4 : Int32) (M : xm), XJ p l e rmX6_order s m args below meth c D cs (xA S ad) S ad 8 (XRb below args s D cs S ad) 29 [(0, .ref (ad 60)), (1, .int x1), (2, .int x2), (3, .int x3), (4, .int x4)] [] M (k29 x3 x4 M)) : XJ p l e rmX6_order s m args below meth c D cs (xA S ad) S ad 8 (XRb below args s D cs S ad) 149 [(0, .ref (ad 60)), (1, .int x1), (2, .int x2), (3, .int x3), (4, .int x4), (6, .int x6)] [] M (fX6_order_149 k29 x1 x2 x3 x4 x6 M) := by
  unfold fX6_order_149
  refine xj_iload Z 5 dX6_order_149 rfl ?_
  refine xj_iload_n Z 3 dX6_order_151 rfl rfl ?_
  refine xj_icmp_le Z 160 dX6_order_152 (by decide) (fun _ => ?_) (fun _ => ?_)
  · refine xj_iload_n Z 3 dX6_order_160 rfl rfl ?_
    refine xj_sub [0, 1, 2, 4] (lv' := [(0, .ref (ad 60)), (1, .int x1), (2, .int x2), (4, .int x4)]) rfl ?_
    exact bX6_order_161 Z hS x1 x2 x4 x3 M hk29
  · refine xj_iload Z 5 dX6_order_155 rfl ?_
    refine xj_goto Z 161 dX6_order_157 (by decide) ?_
    refine xj_sub [0, 1, 2, 4] (lv' := [(0, .ref (ad 60)), (1, .int x1), (2, .int x2), (4, .int x4)]) rfl ?_
    exact bX6_order_161 Z hS x1 x2 x4 x6 M hk29
theorem bX6_order_117 (Z : CX p s m args meth c cX6_order 8 RX6 (some .int) D cs (xA S ad) S ad) (hS : xalm S) {k29 : Int32 → Int32 → xm → Option (Int32 × xm)} (x1 : Int32) (x2 : Int32) (x3 : Int32) (x4 : Int32) (x6 : Int32) (hk29 : ∀ (x3 : Int32) (x4 : Int32) (M : xm), XJ p l e rmX6_order s m args below meth c D cs (xA S ad) S ad 8 (XRb below args s D cs S ad) 29 [(0, .ref (ad 60)), (1, .int x1), (2, .int x2), (3, .int x3), (4, .int x4)] [] M (k29 x3 x4 M)) : ∀ (n : Nat) (x7 : Int32) (M : xm), XJ p l e rmX6_order s m args below meth c D cs (xA S ad) S ad 8 (XRb below args s D cs S ad) 117 [(0, .ref (ad 60)), (1, .int x1), (2, .int x2), (3, .int x3), (4, .int x4), (6, .int x6), (7, .int x7)] [] M (fX6_order_117 k29 x1 x2 x3 x4 x6 n x7 M) := by
  intro n
  induction n with
  | zero => intros; exact xj_none
  | succ n ih =>
    intro x7 M
    rw [fX6_order_117]
    refine xj_iload Z 6 dX6_order_117 rfl ?_
    refine xj_iload_n Z 2 dX6_order_119 rfl rfl ?_
    refine xj_icmp_ge Z 149 dX6_order_120 (by decide) (fun _ => ?_) (fun _ => ?_)
    · refine xj_sub [0, 1, 2, 3, 4, 5] (lv' := [(0, .ref (ad 60)), (1, .int x1), (2, .int x2), (3, .int x3), (4, .int x4), (6, .int x6)]) rfl ?_
      exact bX6_order_149 Z hS x1 x2 x3 x4 x6 M hk29
    · refine xj_iload Z 5 dX6_order_123 rfl ?_
      refine xj_iload_n Z 3 dX6_order_125 rfl rfl ?_
      refine xj_icmp_le Z 149 dX6_order_126 (by decide) (fun _ => ?_) (fun _ => ?_)
      · refine xj_sub [0, 1, 2, 3, 4, 5] (lv' := [(0, .ref (ad 60)), (1, .int x1), (2, .int x2), (3, .int x3), (4, .int x4), (6, .int x6)]) rfl ?_
        exact bX6_order_149 Z hS x1 x2 x3 x4 x6 M hk29
      · refine xj_aload_n Z 0 dX6_order_129 rfl rfl ?_
        refine xg_X6_42 Z (hS 60 (by decide) (by decide)) dX6_order_130 ?_
        refine xj_iload Z 6 dX6_order_133 rfl ?_
        refine xj_aload_n Z 0 dX6_order_135 rfl rfl ?_
        refine xg_X6_39 Z (hS 60 (by decide) (by decide)) dX6_order_136 ?_
        refine xj_iload Z 6 dX6_order_139 rfl ?_
        refine xj_iald Z (hS 70 (by decide) (by decide)) rfl dX6_order_141 (fun _ => ?_)
        refine xj_iast Z (hS 71 (by decide) (by decide)) rfl dX6_order_142 (fun M1 _ => ?_)
        refine xj_iinc Z 6 (x7 + 1) (lv' := [(7, .int (x7 + 1)), (0, .ref (ad 60)), (1, .int x1), (2, .int x2), (3, .int x3), (4, .int x4), (6, .int x6)]) dX6_order_143 rfl rfl (by decide) rfl ?_
        refine xj_goto Z 117 dX6_order_146 (by decide) ?_
        refine xj_sub [1, 2, 3, 4, 5, 6, 0] (lv' := [(0, .ref (ad 60)), (1, .int x1), (2, .int x2), (3, .int x3), (4, .int x4), (6, .int x6), (7, .int (x7 + 1))]) rfl ?_
        exact ih (x7 + 1) M1
theorem bX6_order_43 (Z : CX p s m args meth c cX6_order 8 RX6 (some .int) D cs (xA S ad) S ad) (hS : xalm S) {k29 : Int32 → Int32 → xm → Option (Int32 × xm)} (x1 : Int32) (x2 : Int32) (x3 : Int32) (x4 : Int32) (hk29 : ∀ (x3 : Int32) (x4 : Int32) (M : xm), XJ p l e rmX6_order s m args below meth c D cs (xA S ad) S ad 8 (XRb below args s D cs S ad) 29 [(0, .ref (ad 60)), (1, .int x1), (2, .int x2), (3, .int x3), (4, .int x4)] [] M (k29 x3 x4 M)) : ∀ (n : Nat) (x5 : Int32) (x6 : Int32) (M : xm), XJ p l e rmX6_order s m args below meth c D cs (xA S ad) S ad 8 (XRb below args s D cs S ad) 43 [(0, .ref (ad 60)), (1, .int x1), (2, .int x2), (3, .int x3), (4, .int x4), (5, .int x5), (6, .int x6)] [] M (fX6_order_43 k29 x1 x2 x3 x4 n x5 x6 M) := by
  intro n
  induction n with
  | zero => intros; exact xj_none
  | succ n ih =>
    intro x5 x6 M
    rw [fX6_order_43]
    refine xj_iload Z 6 dX6_order_43 rfl ?_
    refine xj_iload_n Z 2 dX6_order_45 rfl rfl ?_
    refine xj_icmp_ge Z 89 dX6_order_46 (by decide) (fun _ => ?_) (fun _ => ?_)
    · refine xj_iload Z 4 dX6_order_89 rfl ?_
      refine xj_iconst Z 2 dX6_order_91 (by decide) ?_
      refine xj_iload_n Z 2 dX6_order_92 rfl rfl ?_
      refine xj_imul Z dX6_order_93 ?_
      refine xj_ishr Z dX6_order_94 ?_
      refine xj_if_ne Z 162 dX6_order_95 (by decide) (fun _ => ?_) (fun _ => ?_)
      · refine xj_sub [0, 1, 2, 3, 4] (lv' := [(0, .ref (ad 60)), (1, .int x1), (2, .int x2), (3, .int x3), (4, .int x4)]) rfl ?_
        exact bX6_order_162 Z hS x1 x2 x3 x4 M hk29
      · refine xj_iload Z 5 dX6_order_98 rfl ?_
        refine xj_iconst Z 1 dX6_order_100 (by decide) ?_
        refine xj_iload_n Z 2 dX6_order_101 rfl rfl ?_
        refine xj_ishl Z dX6_order_102 ?_
        refine xj_iconst Z 1 dX6_order_103 (by decide) ?_
        refine xj_isub Z dX6_order_104 ?_
        refine xj_icmp_ne Z 162 dX6_order_105 (by decide) (fun _ => ?_) (fun _ => ?_)
        · refine xj_sub [0, 1, 2, 3, 4] (lv' := [(0, .ref (ad 60)), (1, .int x1), (2, .int x2), (3, .int x3), (4, .int x4)]) rfl ?_
          exact bX6_order_162 Z hS x1 x2 x3 x4 M hk29
        · refine xj_aload_n Z 0 dX6_order_108 rfl rfl ?_
          refine xj_callVb Z (As := []) (kX6_holds l D cs S ad Z.2.2.2.2.2.1.dist hS M) gw_X6_180 (hS 60 (by decide) (by decide)) rfl rfl (n := 0) (by decide +kernel) rfl ⟨rfl, rfl⟩ (by decide) rfl (Nat.le_of_ble_eq_true rfl) dX6_order_109 (fun q2 => ?_)
          refine xj_istore Z (lv' := [(6, .int q2.1), (0, .ref (ad 60)), (1, .int x1), (2, .int x2), (3, .int x3), (4, .int x4), (5, .int x5)]) dX6_order_112 (by decide) rfl ?_
          refine xj_iconst Z 0 dX6_order_114 (by decide) ?_
          refine xj_istore Z (lv' := [(7, .int 0), (6, .int q2.1), (0, .ref (ad 60)), (1, .int x1), (2, .int x2), (3, .int x3), (4, .int x4), (5, .int x5)]) dX6_order_115 (by decide) rfl ?_
          refine xj_sub [2, 3, 4, 5, 6, 1, 0] (lv' := [(0, .ref (ad 60)), (1, .int x1), (2, .int x2), (3, .int x3), (4, .int x4), (6, .int q2.1), (7, .int 0)]) rfl ?_
          exact bX6_order_117 Z hS x1 x2 x3 x4 q2.1 hk29 xfuel 0 q2.2
    · refine xj_aload_n Z 0 dX6_order_49 rfl rfl ?_
      refine xg_X6_39 Z (hS 60 (by decide) (by decide)) dX6_order_50 ?_
      refine xj_iload Z 6 dX6_order_53 rfl ?_
      refine xj_iload Z 4 dX6_order_55 rfl ?_
      refine xj_iconst Z 2 dX6_order_57 (by decide) ?_
      refine xj_iload_n Z 2 dX6_order_58 rfl rfl ?_
      refine xj_iconst Z 1 dX6_order_59 (by decide) ?_
      refine xj_isub Z dX6_order_60 ?_
      refine xj_iload Z 6 dX6_order_61 rfl ?_
      refine xj_isub Z dX6_order_63 ?_
      refine xj_imul Z dX6_order_64 ?_
      refine xj_ishr Z dX6_order_65 ?_
      refine xj_iconst Z 3 dX6_order_66 (by decide) ?_
      refine xj_iand Z dX6_order_67 ?_
      refine xj_iast Z (hS 70 (by decide) (by decide)) rfl dX6_order_68 (fun M3 _ => ?_)
      refine xj_iload Z 5 dX6_order_69 rfl ?_
      refine xj_iconst Z 1 dX6_order_71 (by decide) ?_
      refine xj_aload_n Z 0 dX6_order_72 rfl rfl ?_
      refine xg_X6_39 Z (hS 60 (by decide) (by decide)) dX6_order_73 ?_
      refine xj_iload Z 6 dX6_order_76 rfl ?_
      refine xj_iald Z (hS 70 (by decide) (by decide)) rfl dX6_order_78 (fun _ => ?_)
      refine xj_ishl Z dX6_order_79 ?_
      refine xj_ior Z dX6_order_80 ?_
      refine xj_top (fun v4 => ?_)
      refine xj_istore Z (lv' := [(5, .int v4), (0, .ref (ad 60)), (1, .int x1), (2, .int x2), (3, .int x3), (4, .int x4), (6, .int x6)]) dX6_order_81 (by decide) rfl ?_
      refine xj_iinc Z 6 (x6 + 1) (lv' := [(6, .int (x6 + 1)), (5, .int v4), (0, .ref (ad 60)), (1, .int x1), (2, .int x2), (3, .int x3), (4, .int x4)]) dX6_order_83 rfl rfl (by decide) rfl ?_
      refine xj_goto Z 43 dX6_order_86 (by decide) ?_
      refine xj_sub [2, 3, 4, 5, 6, 1, 0] (lv' := [(0, .ref (ad 60)), (1, .int x1), (2, .int x2), (3, .int x3), (4, .int x4), (5, .int v4), (6, .int (x6 + 1))]) rfl ?_
      exact ih v4 (x6 + 1) M3
theorem bX6_order_182 (Z : CX p s m args meth c cX6_order 8 RX6 (some .int) D cs (xA S ad) S ad) (hS : xalm S) (t0 : Int32) (M : xm) : XJ p l e rmX6_order s m args below meth c D cs (xA S ad) S ad 8 (XRb below args s D cs S ad) 182 [] [.int t0] M (fX6_order_182 t0 M) := by
  unfold fX6_order_182
  exact xj_ret_b Z dX6_order_182
theorem bX6_order_29 (Z : CX p s m args meth c cX6_order 8 RX6 (some .int) D cs (xA S ad) S ad) (hS : xalm S) (x1 : Int32) (x2 : Int32) : ∀ (n : Nat) (x3 : Int32) (x4 : Int32) (M : xm), XJ p l e rmX6_order s m args below meth c D cs (xA S ad) S ad 8 (XRb below args s D cs S ad) 29 [(0, .ref (ad 60)), (1, .int x1), (2, .int x2), (3, .int x3), (4, .int x4)] [] M (fX6_order_29 x1 x2 n x3 x4 M) := by
  intro n
  induction n with
  | zero => intros; exact xj_none
  | succ n ih =>
    intro x3 x4 M
    rw [fX6_order_29]
    refine xj_iload Z 4 dX6_order_29 rfl ?_
    refine xj_sipush Z 256 dX6_order_31 (by decide) ?_
    refine xj_icmp_ge Z 168 dX6_order_34 (by decide) (fun _ => ?_) (fun _ => ?_)
    · refine xj_iload_n Z 1 dX6_order_168 rfl rfl ?_
      refine xj_if_ge Z 176 dX6_order_169 (by decide) (fun _ => ?_) (fun _ => ?_)
      · refine xj_aload_n Z 0 dX6_order_176 rfl rfl ?_
        refine xg_X6_42 Z (hS 60 (by decide) (by decide)) dX6_order_177 ?_
        refine xj_iload_n Z 1 dX6_order_180 rfl rfl ?_
        refine xj_iald Z (hS 71 (by decide) (by decide)) rfl dX6_order_181 (fun _ => ?_)
        refine xj_sub [] (lv' := []) rfl ?_
        exact bX6_order_182 Z hS (M.1 71 x1.toNatClampNeg) M
      · refine xj_iload_n Z 3 dX6_order_172 rfl rfl ?_
        refine xj_goto Z 182 dX6_order_173 (by decide) ?_
        refine xj_sub [] (lv' := []) rfl ?_
        exact bX6_order_182 Z hS x3 M
    · refine xj_iconst Z 0 dX6_order_37 (by decide) ?_
      refine xj_istore Z (lv' := [(5, .int 0), (0, .ref (ad 60)), (1, .int x1), (2, .int x2), (3, .int x3), (4, .int x4)]) dX6_order_38 (by decide) rfl ?_
      refine xj_iconst Z 0 dX6_order_40 (by decide) ?_
      refine xj_istore Z (lv' := [(6, .int 0), (5, .int 0), (0, .ref (ad 60)), (1, .int x1), (2, .int x2), (3, .int x3), (4, .int x4)]) dX6_order_41 (by decide) rfl ?_
      refine xj_sub [2, 3, 4, 5, 6, 1, 0] (lv' := [(0, .ref (ad 60)), (1, .int x1), (2, .int x2), (3, .int x3), (4, .int x4), (5, .int 0), (6, .int 0)]) rfl ?_
      exact bX6_order_43 Z hS x1 x2 x3 x4 ih xfuel 0 0 M
end
theorem kX6_order (l : Launch) (D : va_G) (cs : Nat → ClassId) (S : List Nat) (ad : Nat → Nat) (hd : xdist S ad) (hS : xalm S) (x1 : Int32) (M : xm) : ∀ r, fX6_order x1 M = some r → Met l yX6_order [Cond.code yX6_order cX6_order 8 (some .int)] rmX6_order (XPc D cs S ad [.ref (ad 60), .int x1] M) (XQi D cs S ad r.1 r.2) 0 0 (xA S ad) := by
  refine xm_b (own := RX6) (lv := [(0, .ref (ad 60)), (1, .int x1)]) (by decide +kernel) rfl rfl (Nat.le_of_ble_eq_true rfl) hd (fun p e s m args below meth c Z => ?_)
  unfold fX6_order
  refine xj_aload_n Z 0 dX6_order_0 rfl rfl ?_
  refine xg_X6_13 Z (hS 60 (by decide) (by decide)) dX6_order_1 ?_
  refine xj_iconst Z 1 dX6_order_4 (by decide) ?_
  refine xj_iald Z (hS 62 (by decide) (by decide)) rfl dX6_order_5 (fun _ => ?_)
  refine xj_top (fun v5 => ?_)
  refine xj_istore_n Z (lv' := [(2, .int v5), (0, .ref (ad 60)), (1, .int x1)]) dX6_order_6 rfl (by decide) rfl ?_
  refine xj_iload_n Z 2 dX6_order_7 rfl rfl ?_
  refine xj_i2l Z dX6_order_8 ?_
  refine xj_ldc2 Z dX6_order_9 xb_532 ?_
  refine xj_iload_n Z 0 dX6_order_12 rfl rfl ?_
  refine xj_iconst Z 1 dX6_order_13 (by decide) ?_
  refine xj_isub Z dX6_order_14 ?_
  refine xj_i2l Z dX6_order_15 ?_
  refine xj_callSr Z (As := [.long (Int32.toInt64 x1), .long (-1), .long (Int32.toInt64 (v5 - 1))]) (kX6_in l D cs S ad Z.2.2.2.2.2.1.dist (Int32.toInt64 x1) (-1) (Int32.toInt64 (v5 - 1)) M) gw_X6_56 (n := 3) (by decide +kernel) rfl ⟨rfl, rfl⟩ (by decide) rfl (Nat.le_of_ble_eq_true rfl) dX6_order_16 (fun v6 => ?_)
  refine xj_if_ne Z 24 dX6_order_19 (by decide) (fun _ => ?_) (fun _ => ?_)
  · refine xj_iconst Z (-1) dX6_order_24 (by decide) ?_
    refine xj_istore_n Z (lv' := [(3, .int (-1)), (2, .int v5), (0, .ref (ad 60)), (1, .int x1)]) dX6_order_25 rfl (by decide) rfl ?_
    refine xj_iconst Z 0 dX6_order_26 (by decide) ?_
    refine xj_istore Z (lv' := [(4, .int 0), (3, .int (-1)), (2, .int v5), (0, .ref (ad 60)), (1, .int x1)]) dX6_order_27 (by decide) rfl ?_
    refine xj_sub [3, 4, 2, 1, 0] (lv' := [(0, .ref (ad 60)), (1, .int x1), (2, .int v5), (3, .int (-1)), (4, .int 0)]) rfl ?_
    exact bX6_order_29 Z hS x1 v5 xfuel (-1) 0 M
  · refine xj_iconst Z (-1) dX6_order_22 (by decide) ?_
    exact xj_ret_b Z dX6_order_23
/-! WalkingLawModel.readAll()I -/
theorem dX6_readAll_0 : decode cX6_readAll 0 = .ok (.iconst 0, 1) := by decide +kernel
theorem dX6_readAll_1 : decode cX6_readAll 1 = .ok (.istore_n 1, 1) := by decide +kernel
theorem dX6_readAll_2 : decode cX6_readAll 2 = .ok (.iconst 0, 1) := by decide +kernel
theorem dX6_readAll_3 : decode cX6_readAll 3 = .ok (.istore_n 2, 1) := by decide +kernel
theorem dX6_readAll_4 : decode cX6_readAll 4 = .ok (.iload_n 2, 1) := by decide +kernel
theorem dX6_readAll_5 : decode cX6_readAll 5 = .ok (.aload_n 0, 1) := by decide +kernel
theorem dX6_readAll_6 : decode cX6_readAll 6 = .ok (.getfield 13, 3) := by decide +kernel
theorem dX6_readAll_9 : decode cX6_readAll 9 = .ok (.iconst 1, 1) := by decide +kernel
theorem dX6_readAll_10 : decode cX6_readAll 10 = .ok (.iaload, 1) := by decide +kernel
theorem dX6_readAll_11 : decode cX6_readAll 11 = .ok (.if_icmp .ge 35, 3) := by decide +kernel
theorem dX6_readAll_14 : decode cX6_readAll 14 = .ok (.aload_n 0, 1) := by decide +kernel
theorem dX6_readAll_15 : decode cX6_readAll 15 = .ok (.iconst 3, 1) := by decide +kernel
theorem dX6_readAll_16 : decode cX6_readAll 16 = .ok (.iload_n 2, 1) := by decide +kernel
theorem dX6_readAll_17 : decode cX6_readAll 17 = .ok (.invokevirtual 160, 3) := by decide +kernel
theorem dX6_readAll_20 : decode cX6_readAll 20 = .ok (.pop, 1) := by decide +kernel
theorem dX6_readAll_21 : decode cX6_readAll 21 = .ok (.iload_n 1, 1) := by decide +kernel
theorem dX6_readAll_22 : decode cX6_readAll 22 = .ok (.aload_n 0, 1) := by decide +kernel
theorem dX6_readAll_23 : decode cX6_readAll 23 = .ok (.iconst 3, 1) := by decide +kernel
theorem dX6_readAll_24 : decode cX6_readAll 24 = .ok (.iload_n 2, 1) := by decide +kernel
theorem dX6_readAll_25 : decode cX6_readAll 25 = .ok (.invokevirtual 164, 3) := by decide +kernel
theorem dX6_readAll_28 : decode cX6_readAll 28 = .ok (.ifCond .eq 9, 3) := by decide +kernel
theorem dX6_readAll_31 : decode cX6_readAll 31 = .ok (.iconst 1, 1) := by decide +kernel
theorem dX6_readAll_32 : decode cX6_readAll 32 = .ok (.iload_n 2, 1) := by decide +kernel
theorem dX6_readAll_33 : decode cX6_readAll 33 = .ok (.ishl, 1) := by decide +kernel
theorem dX6_readAll_34 : decode cX6_readAll 34 = .ok (.goto 4, 3) := by decide +kernel
theorem dX6_readAll_37 : decode cX6_readAll 37 = .ok (.iconst 0, 1) := by decide +kernel
theorem dX6_readAll_38 : decode cX6_readAll 38 = .ok (.ior, 1) := by decide +kernel
theorem dX6_readAll_39 : decode cX6_readAll 39 = .ok (.istore_n 1, 1) := by decide +kernel
theorem dX6_readAll_40 : decode cX6_readAll 40 = .ok (.iinc 2 1, 3) := by decide +kernel
theorem dX6_readAll_43 : decode cX6_readAll 43 = .ok (.goto (-39), 3) := by decide +kernel
theorem dX6_readAll_46 : decode cX6_readAll 46 = .ok (.iload_n 1, 1) := by decide +kernel
theorem dX6_readAll_47 : decode cX6_readAll 47 = .ok (.ireturn, 1) := by decide +kernel
def rmX6_readAll : Room := { frames := 5, cells := 0, slots := 0, locals := 121 }
def fX6_readAll_38 (k4 : Int32 → Int32 → xm → Option (Int32 × xm)) (x2 : Int32) (t0 : Int32) (t1 : Int32) (M : xm) : Option (Int32 × xm) := xl (t0 ||| t1) (fun v1 => (k4 v1 (x2 + 1) M))
def fX6_readAll_4 : Nat → Int32 → Int32 → xm → Option (Int32 × xm)
  | 0, _, _, _ => none
  | n + 1, x1, x2, M => xchk 1 4 ((if (M.1 62 (1 : Int32).toNatClampNeg) ≤ x2 then (some (x1, M)) else (fX6_isRead 3 x2 M).bind (fun q2 => (fX6_isHeld 3 x2 q2.2).bind (fun v3 => (if v3 = 0 then (fX6_readAll_38 (fun z0 z1 z2 => fX6_readAll_4 n z0 z1 z2) x2 x1 0 q2.2) else (fX6_readAll_38 (fun z0 z1 z2 => fX6_readAll_4 n z0 z1 z2) x2 x1 (1 <<< (x2 &&& 31)) q2.2))))))
def fX6_readAll (M : xm) : Option (Int32 × xm) := (fX6_readAll_4 xfuel 0 0 M)
section
variable {p : Program} {l : Launch} {e : Env} {s : State} {m : MethodId} {args : Array Value} {below : List Frame} {meth : Method} {c : Code} {D : va_G} {cs : Nat → ClassId} {S : List Nat} {ad : Nat → Nat}
theorem bX6_readAll_38 (Z : CX p s m args meth c cX6_readAll 3 RX6 (some .int) D cs (xA S ad) S ad) (hS : xalm S) {k4 : Int32 → Int32 → xm → Option (Int32 × xm)} (x2 : Int32) (t0 : Int32) (t1 : Int32) (M : xm) (hk4 : ∀ (x1 : Int32) (x2 : Int32) (M : xm), XJ p l e rmX6_readAll s m args below meth c D cs (xA S ad) S ad 3 (XRb below args s D cs S ad) 4 [(0, .ref (ad 60)), (1, .int x1), (2, .int x2)] [] M (k4 x1 x2 M)) : XJ p l e rmX6_readAll s m args below meth c D cs (xA S ad) S ad 3 (XRb below args s D cs S ad) 38 [(0, .ref (ad 60)), (2, .int x2)] [.int t1, .int t0] M (fX6_readAll_38 k4 x2 t0 t1 M) := by
  unfold fX6_readAll_38
  refine xj_ior Z dX6_readAll_38 ?_
  refine xj_top (fun v1 => ?_)
  refine xj_istore_n Z (lv' := [(1, .int v1), (0, .ref (ad 60)), (2, .int x2)]) dX6_readAll_39 rfl (by decide) rfl ?_
  refine xj_iinc Z 2 (x2 + 1) (lv' := [(2, .int (x2 + 1)), (1, .int v1), (0, .ref (ad 60))]) dX6_readAll_40 rfl rfl (by decide) rfl ?_
  refine xj_goto Z 4 dX6_readAll_43 (by decide) ?_
  refine xj_sub [2, 1, 0] (lv' := [(0, .ref (ad 60)), (1, .int v1), (2, .int (x2 + 1))]) rfl ?_
  exact hk4 v1 (x2 + 1) M
theorem bX6_readAll_4 (Z : CX p s m args meth c cX6_readAll 3 RX6 (some .int) D cs (xA S ad) S ad) (hS : xalm S) : ∀ (n : Nat) (x1 : Int32) (x2 : Int32) (M : xm), XJ p l e rmX6_readAll s m args below meth c D cs (xA S ad) S ad 3 (XRb below args s D cs S ad) 4 [(0, .ref (ad 60)), (1, .int x1), (2, .int x2)] [] M (fX6_readAll_4 n x1 x2 M) := by
  intro n
  induction n with
  | zero => intros; exact xj_none
  | succ n ih =>
    intro x1 x2 M
    rw [fX6_readAll_4]
    refine xj_iload_n Z 2 dX6_readAll_4 rfl rfl ?_
    refine xj_aload_n Z 0 dX6_readAll_5 rfl rfl ?_
    refine xg_X6_13 Z (hS 60 (by decide) (by decide)) dX6_readAll_6 ?_
    refine xj_iconst Z 1 dX6_readAll_9 (by decide) ?_
    refine xj_iald Z (hS 62 (by decide) (by decide)) rfl dX6_readAll_10 (fun _ => ?_)
    refine xj_icmp_ge Z 46 dX6_readAll_11 (by decide) (fun _ => ?_) (fun _ => ?_)
    · refine xj_iload_n Z 1 dX6_readAll_46 rfl rfl ?_
      exact xj_ret_b Z dX6_readAll_47
    · refine xj_aload_n Z 0 dX6_readAll_14 rfl rfl ?_
      refine xj_iconst Z 3 dX6_readAll_15 (by decide) ?_
      refine xj_iload_n Z 2 dX6_readAll_16 rfl rfl ?_
      refine xj_callVb Z (As := [.int 3, .int x2]) (kX6_isRead l D cs S ad Z.2.2.2.2.2.1.dist hS 3 x2 M) gw_X6_160 (hS 60 (by decide) (by decide)) rfl rfl (n := 2) (by decide +kernel) rfl ⟨rfl, rfl⟩ (by decide) rfl (Nat.le_of_ble_eq_true rfl) dX6_readAll_17 (fun q2 => ?_)
      refine xj_pop Z dX6_readAll_20 rfl ?_
      refine xj_iload_n Z 1 dX6_readAll_21 rfl rfl ?_
      refine xj_aload_n Z 0 dX6_readAll_22 rfl rfl ?_
      refine xj_iconst Z 3 dX6_readAll_23 (by decide) ?_
      refine xj_iload_n Z 2 dX6_readAll_24 rfl rfl ?_
      refine xj_callVr Z (As := [.int 3, .int x2]) (kX6_isHeld l D cs S ad Z.2.2.2.2.2.1.dist hS 3 x2 q2.2) gw_X6_164 (hS 60 (by decide) (by decide)) rfl rfl (n := 2) (by decide +kernel) rfl ⟨rfl, rfl⟩ (by decide) rfl (Nat.le_of_ble_eq_true rfl) dX6_readAll_25 (fun v3 => ?_)
      refine xj_if_eq Z 37 dX6_readAll_28 (by decide) (fun _ => ?_) (fun _ => ?_)
      · refine xj_iconst Z 0 dX6_readAll_37 (by decide) ?_
        refine xj_sub [0, 2] (lv' := [(0, .ref (ad 60)), (2, .int x2)]) rfl ?_
        exact bX6_readAll_38 Z hS x2 x1 0 q2.2 ih
      · refine xj_iconst Z 1 dX6_readAll_31 (by decide) ?_
        refine xj_iload_n Z 2 dX6_readAll_32 rfl rfl ?_
        refine xj_ishl Z dX6_readAll_33 ?_
        refine xj_goto Z 38 dX6_readAll_34 (by decide) ?_
        refine xj_sub [0, 2] (lv' := [(0, .ref (ad 60)), (2, .int x2)]) rfl ?_
        exact bX6_readAll_38 Z hS x2 x1 (1 <<< (x2 &&& 31)) q2.2 ih
end
theorem kX6_readAll (l : Launch) (D : va_G) (cs : Nat → ClassId) (S : List Nat) (ad : Nat → Nat) (hd : xdist S ad) (hS : xalm S) (M : xm) : ∀ r, fX6_readAll M = some r → Met l yX6_readAll [Cond.code yX6_readAll cX6_readAll 3 (some .int)] rmX6_readAll (XPc D cs S ad [.ref (ad 60)] M) (XQi D cs S ad r.1 r.2) 0 0 (xA S ad) := by
  refine xm_b (own := RX6) (lv := [(0, .ref (ad 60))]) (by decide +kernel) rfl rfl (Nat.le_of_ble_eq_true rfl) hd (fun p e s m args below meth c Z => ?_)
  unfold fX6_readAll
  refine xj_iconst Z 0 dX6_readAll_0 (by decide) ?_
  refine xj_istore_n Z (lv' := [(1, .int 0), (0, .ref (ad 60))]) dX6_readAll_1 rfl (by decide) rfl ?_
  refine xj_iconst Z 0 dX6_readAll_2 (by decide) ?_
  refine xj_istore_n Z (lv' := [(2, .int 0), (1, .int 0), (0, .ref (ad 60))]) dX6_readAll_3 rfl (by decide) rfl ?_
  refine xj_sub [2, 1, 0] (lv' := [(0, .ref (ad 60)), (1, .int 0), (2, .int 0)]) rfl ?_
  exact bX6_readAll_4 Z hS xfuel 0 0 M
/-! WalkingLawModel.held(I)I -/
theorem dX6_held_0 : decode cX6_held 0 = .ok (.aload_n 0, 1) := by decide +kernel
theorem dX6_held_1 : decode cX6_held 1 = .ok (.iconst 0, 1) := by decide +kernel
theorem dX6_held_2 : decode cX6_held 2 = .ok (.iconst 3, 1) := by decide +kernel
theorem dX6_held_3 : decode cX6_held 3 = .ok (.invokevirtual 167, 3) := by decide +kernel
theorem dX6_held_6 : decode cX6_held 6 = .ok (.iconst 0, 1) := by decide +kernel
theorem dX6_held_7 : decode cX6_held 7 = .ok (.istore_n 2, 1) := by decide +kernel
theorem dX6_held_8 : decode cX6_held 8 = .ok (.iconst 0, 1) := by decide +kernel
theorem dX6_held_9 : decode cX6_held 9 = .ok (.istore_n 3, 1) := by decide +kernel
theorem dX6_held_10 : decode cX6_held 10 = .ok (.iload_n 3, 1) := by decide +kernel
theorem dX6_held_11 : decode cX6_held 11 = .ok (.sipush 200, 3) := by decide +kernel
theorem dX6_held_14 : decode cX6_held 14 = .ok (.if_icmp .ge 28, 3) := by decide +kernel
theorem dX6_held_17 : decode cX6_held 17 = .ok (.aload_n 0, 1) := by decide +kernel
theorem dX6_held_18 : decode cX6_held 18 = .ok (.iconst 3, 1) := by decide +kernel
theorem dX6_held_19 : decode cX6_held 19 = .ok (.iload_n 3, 1) := by decide +kernel
theorem dX6_held_20 : decode cX6_held 20 = .ok (.ifCond .ne 7, 3) := by decide +kernel
theorem dX6_held_23 : decode cX6_held 23 = .ok (.iload_n 1, 1) := by decide +kernel
theorem dX6_held_24 : decode cX6_held 24 = .ok (.goto 4, 3) := by decide +kernel
theorem dX6_held_27 : decode cX6_held 27 = .ok (.iconst (-1), 1) := by decide +kernel
theorem dX6_held_28 : decode cX6_held 28 = .ok (.invokevirtual 140, 3) := by decide +kernel
theorem dX6_held_31 : decode cX6_held 31 = .ok (.aload_n 0, 1) := by decide +kernel
theorem dX6_held_32 : decode cX6_held 32 = .ok (.invokevirtual 183, 3) := by decide +kernel
theorem dX6_held_35 : decode cX6_held 35 = .ok (.istore_n 2, 1) := by decide +kernel
theorem dX6_held_36 : decode cX6_held 36 = .ok (.iinc 3 1, 3) := by decide +kernel
theorem dX6_held_39 : decode cX6_held 39 = .ok (.goto (-29), 3) := by decide +kernel
theorem dX6_held_42 : decode cX6_held 42 = .ok (.iload_n 2, 1) := by decide +kernel
theorem dX6_held_43 : decode cX6_held 43 = .ok (.ireturn, 1) := by decide +kernel
def rmX6_held : Room := { frames := 6, cells := 0, slots := 0, locals := 143 }
def fX6_held_28 (k10 : Int32 → Int32 → xm → Option (Int32 × xm)) (x1 : Int32) (x3 : Int32) (t1 : Int32) (t2 : Int32) (M : xm) : Option (Int32 × xm) := (fX6_hour t1 t2 M).bind (fun M1 => (fX6_readAll M1).bind (fun q2 => (k10 q2.1 (x3 + 1) q2.2)))
def fX6_held_10 (x1 : Int32) : Nat → Int32 → Int32 → xm → Option (Int32 × xm)
  | 0, _, _, _ => none
  | n + 1, x2, x3, M => (if (200 : Int32) ≤ x3 then (some (x2, M)) else (if x3 = 0 then (fX6_held_28 (fun z0 z1 z2 => fX6_held_10 x1 n z0 z1 z2) x1 x3 3 x1 M) else (fX6_held_28 (fun z0 z1 z2 => fX6_held_10 x1 n z0 z1 z2) x1 x3 3 (-1) M)))
def fX6_held (x1 : Int32) (M : xm) : Option (Int32 × xm) := (fX6_copies 0 3 M).bind (fun M3 => (fX6_held_10 x1 xfuel 0 0 M3))
section
variable {p : Program} {l : Launch} {e : Env} {s : State} {m : MethodId} {args : Array Value} {below : List Frame} {meth : Method} {c : Code} {D : va_G} {cs : Nat → ClassId} {S : List Nat} {ad : Nat → Nat}
theorem bX6_held_28 (Z : CX p s m args meth c cX6_held 4 RX6 (some .int) D cs (xA S ad) S ad) (hS : xalm S) {k10 : Int32 → Int32 → xm → Option (Int32 × xm)} (x1 : Int32) (x3 : Int32) (t1 : Int32) (t2 : Int32) (M : xm) (hk10 : ∀ (x2 : Int32) (x3 : Int32) (M : xm), XJ p l e rmX6_held s m args below meth c D cs (xA S ad) S ad 4 (XRb below args s D cs S ad) 10 [(0, .ref (ad 60)), (1, .int x1), (2, .int x2), (3, .int x3)] [] M (k10 x2 x3 M)) : XJ p l e rmX6_held s m args below meth c D cs (xA S ad) S ad 4 (XRb below args s D cs S ad) 28 [(0, .ref (ad 60)), (1, .int x1), (3, .int x3)] [.int t2, .int t1, .ref (ad 60)] M (fX6_held_28 k10 x1 x3 t1 t2 M) := by
  unfold fX6_held_28
  refine xj_callVm Z (As := [.int t1, .int t2]) (kX6_hour l D cs S ad Z.2.2.2.2.2.1.dist hS t1 t2 M) gw_X6_140 (hS 60 (by decide) (by decide)) rfl rfl (n := 2) (by decide +kernel) rfl ⟨rfl, rfl⟩ (by decide) rfl (Nat.le_of_ble_eq_true rfl) dX6_held_28 (fun M1 => ?_)
  refine xj_aload_n Z 0 dX6_held_31 rfl rfl ?_
  refine xj_callVb Z (As := []) (kX6_readAll l D cs S ad Z.2.2.2.2.2.1.dist hS M1) gw_X6_183 (hS 60 (by decide) (by decide)) rfl rfl (n := 0) (by decide +kernel) rfl ⟨rfl, rfl⟩ (by decide) rfl (Nat.le_of_ble_eq_true rfl) dX6_held_32 (fun q2 => ?_)
  refine xj_istore_n Z (lv' := [(2, .int q2.1), (0, .ref (ad 60)), (1, .int x1), (3, .int x3)]) dX6_held_35 rfl (by decide) rfl ?_
  refine xj_iinc Z 3 (x3 + 1) (lv' := [(3, .int (x3 + 1)), (2, .int q2.1), (0, .ref (ad 60)), (1, .int x1)]) dX6_held_36 rfl rfl (by decide) rfl ?_
  refine xj_goto Z 10 dX6_held_39 (by decide) ?_
  refine xj_sub [2, 3, 1, 0] (lv' := [(0, .ref (ad 60)), (1, .int x1), (2, .int q2.1), (3, .int (x3 + 1))]) rfl ?_
  exact hk10 q2.1 (x3 + 1) q2.2
theorem bX6_held_10 (Z : CX p s m args meth c cX6_held 4 RX6 (some .int) D cs (xA S ad) S ad) (hS : xalm S) (x1 : Int32) : ∀ (n : Nat) (x2 : Int32) (x3 : Int32) (M : xm), XJ p l e rmX6_held s m args below meth c D cs (xA S ad) S ad 4 (XRb below args s D cs S ad) 10 [(0, .ref (ad 60)), (1, .int x1), (2, .int x2), (3, .int x3)] [] M (fX6_held_10 x1 n x2 x3 M) := by
  intro n
  induction n with
  | zero => intros; exact xj_none
  | succ n ih =>
    intro x2 x3 M
    rw [fX6_held_10]
    refine xj_iload_n Z 3 dX6_held_10 rfl rfl ?_
    refine xj_sipush Z 200 dX6_held_11 (by decide) ?_
    refine xj_icmp_ge Z 42 dX6_held_14 (by decide) (fun _ => ?_) (fun _ => ?_)
    · refine xj_iload_n Z 2 dX6_held_42 rfl rfl ?_
      exact xj_ret_b Z dX6_held_43
    · refine xj_aload_n Z 0 dX6_held_17 rfl rfl ?_
      refine xj_iconst Z 3 dX6_held_18 (by decide) ?_
      refine xj_iload_n Z 3 dX6_held_19 rfl rfl ?_
      refine xj_if_ne Z 27 dX6_held_20 (by decide) (fun _ => ?_) (fun _ => ?_)
      · refine xj_iconst Z (-1) dX6_held_27 (by decide) ?_
        refine xj_sub [0, 1, 3] (lv' := [(0, .ref (ad 60)), (1, .int x1), (3, .int x3)]) rfl ?_
        exact bX6_held_28 Z hS x1 x3 3 (-1) M ih
      · refine xj_iload_n Z 1 dX6_held_23 rfl rfl ?_
        refine xj_goto Z 28 dX6_held_24 (by decide) ?_
        refine xj_sub [0, 1, 3] (lv' := [(0, .ref (ad 60)), (1, .int x1), (3, .int x3)]) rfl ?_
        exact bX6_held_28 Z hS x1 x3 3 x1 M ih
end
theorem kX6_held (l : Launch) (D : va_G) (cs : Nat → ClassId) (S : List Nat) (ad : Nat → Nat) (hd : xdist S ad) (hS : xalm S) (x1 : Int32) (M : xm) : ∀ r, fX6_held x1 M = some r → Met l yX6_held [Cond.code yX6_held cX6_held 4 (some .int)] rmX6_held (XPc D cs S ad [.ref (ad 60), .int x1] M) (XQi D cs S ad r.1 r.2) 0 0 (xA S ad) := by
  refine xm_b (own := RX6) (lv := [(0, .ref (ad 60)), (1, .int x1)]) (by decide +kernel) rfl rfl (Nat.le_of_ble_eq_true rfl) hd (fun p e s m args below meth c Z => ?_)
  unfold fX6_held
  refine xj_aload_n Z 0 dX6_held_0 rfl rfl ?_
  refine xj_iconst Z 0 dX6_held_1 (by decide) ?_
  refine xj_iconst Z 3 dX6_held_2 (by decide) ?_
  refine xj_callVm Z (As := [.int 0, .int 3]) (kX6_copies l D cs S ad Z.2.2.2.2.2.1.dist hS 0 3 M) gw_X6_167 (hS 60 (by decide) (by decide)) rfl rfl (n := 2) (by decide +kernel) rfl ⟨rfl, rfl⟩ (by decide) rfl (Nat.le_of_ble_eq_true rfl) dX6_held_3 (fun M3 => ?_)
  refine xj_iconst Z 0 dX6_held_6 (by decide) ?_
  refine xj_istore_n Z (lv' := [(2, .int 0), (0, .ref (ad 60)), (1, .int x1)]) dX6_held_7 rfl (by decide) rfl ?_
  refine xj_iconst Z 0 dX6_held_8 (by decide) ?_
  refine xj_istore_n Z (lv' := [(3, .int 0), (2, .int 0), (0, .ref (ad 60)), (1, .int x1)]) dX6_held_9 rfl (by decide) rfl ?_
  refine xj_sub [2, 3, 1, 0] (lv' := [(0, .ref (ad 60)), (1, .int x1), (2, .int 0), (3, .int 0)]) rfl ?_
  exact bX6_held_10 Z hS x1 xfuel 0 0 M3
/-! WalkingLawModel.back(I)I -/
theorem dX6_back_0 : decode cX6_back 0 = .ok (.aload_n 0, 1) := by decide +kernel
theorem dX6_back_1 : decode cX6_back 1 = .ok (.iload_n 1, 1) := by decide +kernel
theorem dX6_back_2 : decode cX6_back 2 = .ok (.invokevirtual 118, 3) := by decide +kernel
theorem dX6_back_5 : decode cX6_back 5 = .ok (.ifCond .ne 5, 3) := by decide +kernel
theorem dX6_back_8 : decode cX6_back 8 = .ok (.iconst (-1), 1) := by decide +kernel
theorem dX6_back_9 : decode cX6_back 9 = .ok (.ireturn, 1) := by decide +kernel
theorem dX6_back_10 : decode cX6_back 10 = .ok (.aload_n 0, 1) := by decide +kernel
theorem dX6_back_11 : decode cX6_back 11 = .ok (.getfield 29, 3) := by decide +kernel
theorem dX6_back_14 : decode cX6_back 14 = .ok (.bipush 8, 2) := by decide +kernel
theorem dX6_back_16 : decode cX6_back 16 = .ok (.iload_n 1, 1) := by decide +kernel
theorem dX6_back_17 : decode cX6_back 17 = .ok (.iadd, 1) := by decide +kernel
theorem dX6_back_18 : decode cX6_back 18 = .ok (.iaload, 1) := by decide +kernel
theorem dX6_back_19 : decode cX6_back 19 = .ok (.istore_n 2, 1) := by decide +kernel
theorem dX6_back_20 : decode cX6_back 20 = .ok (.aload_n 0, 1) := by decide +kernel
theorem dX6_back_21 : decode cX6_back 21 = .ok (.iload_n 1, 1) := by decide +kernel
theorem dX6_back_22 : decode cX6_back 22 = .ok (.invokevirtual 186, 3) := by decide +kernel
theorem dX6_back_25 : decode cX6_back 25 = .ok (.iload_n 2, 1) := by decide +kernel
theorem dX6_back_26 : decode cX6_back 26 = .ok (.iand, 1) := by decide +kernel
theorem dX6_back_27 : decode cX6_back 27 = .ok (.invokestatic 135, 3) := by decide +kernel
theorem dX6_back_30 : decode cX6_back 30 = .ok (.aload_n 0, 1) := by decide +kernel
theorem dX6_back_31 : decode cX6_back 31 = .ok (.iconst (-1), 1) := by decide +kernel
theorem dX6_back_32 : decode cX6_back 32 = .ok (.invokevirtual 186, 3) := by decide +kernel
theorem dX6_back_35 : decode cX6_back 35 = .ok (.iload_n 2, 1) := by decide +kernel
theorem dX6_back_36 : decode cX6_back 36 = .ok (.iand, 1) := by decide +kernel
theorem dX6_back_37 : decode cX6_back 37 = .ok (.invokestatic 135, 3) := by decide +kernel
theorem dX6_back_40 : decode cX6_back 40 = .ok (.isub, 1) := by decide +kernel
theorem dX6_back_41 : decode cX6_back 41 = .ok (.bipush 100, 2) := by decide +kernel
theorem dX6_back_43 : decode cX6_back 43 = .ok (.iadd, 1) := by decide +kernel
theorem dX6_back_44 : decode cX6_back 44 = .ok (.ireturn, 1) := by decide +kernel
def rmX6_back : Room := { frames := 7, cells := 0, slots := 0, locals := 166 }
def fX6_back (x1 : Int32) (M : xm) : Option (Int32 × xm) := (fX6_isMember x1 M).bind (fun v1 => (if v1 = 0 then (some ((-1), M)) else xchk (8 + x1) 100 (xl (M.1 67 ((8 + x1)).toNatClampNeg) (fun v2 => (fX6_held x1 M).bind (fun q3 => (fX6_many (q3.1 &&& v2) q3.2).bind (fun v4 => (fX6_held (-1) q3.2).bind (fun q5 => (fX6_many (q5.1 &&& v2) q5.2).bind (fun v6 => (some (((v4 - v6) + 100), q5.2))))))))))
section
variable {p : Program} {l : Launch} {e : Env} {s : State} {m : MethodId} {args : Array Value} {below : List Frame} {meth : Method} {c : Code} {D : va_G} {cs : Nat → ClassId} {S : List Nat} {ad : Nat → Nat}
end
theorem kX6_back (l : Launch) (D : va_G) (cs : Nat → ClassId) (S : List Nat) (ad : Nat → Nat) (hd : xdist S ad) (hS : xalm S) (x1 : Int32) (M : xm) : ∀ r, fX6_back x1 M = some r → Met l yX6_back [Cond.code yX6_back cX6_back 3 (some .int)] rmX6_back (XPc D cs S ad [.ref (ad 60), .int x1] M) (XQi D cs S ad r.1 r.2) 0 0 (xA S ad) := by
  refine xm_b (own := RX6) (lv := [(0, .ref (ad 60)), (1, .int x1)]) (by decide +kernel) rfl rfl (Nat.le_of_ble_eq_true rfl) hd (fun p e s m args below meth c Z => ?_)
  unfold fX6_back
  refine xj_aload_n Z 0 dX6_back_0 rfl rfl ?_
  refine xj_iload_n Z 1 dX6_back_1 rfl rfl ?_
  refine xj_callVr Z (As := [.int x1]) (kX6_isMember l D cs S ad Z.2.2.2.2.2.1.dist hS x1 M) gw_X6_118 (hS 60 (by decide) (by decide)) rfl rfl (n := 1) (by decide +kernel) rfl ⟨rfl, rfl⟩ (by decide) rfl (Nat.le_of_ble_eq_true rfl) dX6_back_2 (fun v1 => ?_)
  refine xj_if_ne Z 10 dX6_back_5 (by decide) (fun _ => ?_) (fun _ => ?_)
  · refine xj_aload_n Z 0 dX6_back_10 rfl rfl ?_
    refine xg_X6_29 Z (hS 60 (by decide) (by decide)) dX6_back_11 ?_
    refine xj_bipush Z 8 dX6_back_14 (by decide) ?_
    refine xj_iload_n Z 1 dX6_back_16 rfl rfl ?_
    refine xj_iadd Z dX6_back_17 ?_
    refine xj_iald Z (hS 67 (by decide) (by decide)) rfl dX6_back_18 (fun _ => ?_)
    refine xj_top (fun v2 => ?_)
    refine xj_istore_n Z (lv' := [(2, .int v2), (0, .ref (ad 60)), (1, .int x1)]) dX6_back_19 rfl (by decide) rfl ?_
    refine xj_aload_n Z 1 dX6_back_20 rfl rfl ?_
    refine xj_iload_n Z 2 dX6_back_21 rfl rfl ?_
    refine xj_callVb Z (As := [.int x1]) (kX6_held l D cs S ad Z.2.2.2.2.2.1.dist hS x1 M) gw_X6_186 (hS 60 (by decide) (by decide)) rfl rfl (n := 1) (by decide +kernel) rfl ⟨rfl, rfl⟩ (by decide) rfl (Nat.le_of_ble_eq_true rfl) dX6_back_22 (fun q3 => ?_)
    refine xj_iload_n Z 0 dX6_back_25 rfl rfl ?_
    refine xj_iand Z dX6_back_26 ?_
    refine xj_callSr Z (As := [.int (q3.1 &&& v2)]) (kX6_many l D cs S ad Z.2.2.2.2.2.1.dist (q3.1 &&& v2) q3.2) gw_X6_135 (n := 1) (by decide +kernel) rfl ⟨rfl, rfl⟩ (by decide) rfl (Nat.le_of_ble_eq_true rfl) dX6_back_27 (fun v4 => ?_)
    refine xj_aload_n Z 1 dX6_back_30 rfl rfl ?_
    refine xj_iconst Z (-1) dX6_back_31 (by decide) ?_
    refine xj_callVb Z (As := [.int (-1)]) (kX6_held l D cs S ad Z.2.2.2.2.2.1.dist hS (-1) q3.2) gw_X6_186 (hS 60 (by decide) (by decide)) rfl rfl (n := 1) (by decide +kernel) rfl ⟨rfl, rfl⟩ (by decide) rfl (Nat.le_of_ble_eq_true rfl) dX6_back_32 (fun q5 => ?_)
    refine xj_iload_n Z 0 dX6_back_35 rfl rfl ?_
    refine xj_iand Z dX6_back_36 ?_
    refine xj_callSr Z (As := [.int (q5.1 &&& v2)]) (kX6_many l D cs S ad Z.2.2.2.2.2.1.dist (q5.1 &&& v2) q5.2) gw_X6_135 (n := 1) (by decide +kernel) rfl ⟨rfl, rfl⟩ (by decide) rfl (Nat.le_of_ble_eq_true rfl) dX6_back_37 (fun v6 => ?_)
    refine xj_isub Z dX6_back_40 ?_
    refine xj_bipush Z 100 dX6_back_41 (by decide) ?_
    refine xj_iadd Z dX6_back_43 ?_
    exact xj_ret_b Z dX6_back_44
  · refine xj_iconst Z (-1) dX6_back_8 (by decide) ?_
    exact xj_ret_b Z dX6_back_9
/-! WalkingLawModel.paces(I)I -/
theorem dX6_paces_0 : decode cX6_paces 0 = .ok (.iconst 0, 1) := by decide +kernel
theorem dX6_paces_1 : decode cX6_paces 1 = .ok (.istore_n 2, 1) := by decide +kernel
theorem dX6_paces_2 : decode cX6_paces 2 = .ok (.iconst 0, 1) := by decide +kernel
theorem dX6_paces_3 : decode cX6_paces 3 = .ok (.istore_n 3, 1) := by decide +kernel
theorem dX6_paces_4 : decode cX6_paces 4 = .ok (.iload_n 3, 1) := by decide +kernel
theorem dX6_paces_5 : decode cX6_paces 5 = .ok (.aload_n 0, 1) := by decide +kernel
theorem dX6_paces_6 : decode cX6_paces 6 = .ok (.getfield 23, 3) := by decide +kernel
theorem dX6_paces_9 : decode cX6_paces 9 = .ok (.iconst 0, 1) := by decide +kernel
theorem dX6_paces_10 : decode cX6_paces 10 = .ok (.iaload, 1) := by decide +kernel
theorem dX6_paces_11 : decode cX6_paces 11 = .ok (.if_icmp .ge 28, 3) := by decide +kernel
theorem dX6_paces_14 : decode cX6_paces 14 = .ok (.iload_n 2, 1) := by decide +kernel
theorem dX6_paces_15 : decode cX6_paces 15 = .ok (.iload_n 1, 1) := by decide +kernel
theorem dX6_paces_16 : decode cX6_paces 16 = .ok (.iload_n 3, 1) := by decide +kernel
theorem dX6_paces_17 : decode cX6_paces 17 = .ok (.ishr, 1) := by decide +kernel
theorem dX6_paces_18 : decode cX6_paces 18 = .ok (.iconst 1, 1) := by decide +kernel
theorem dX6_paces_19 : decode cX6_paces 19 = .ok (.iand, 1) := by decide +kernel
theorem dX6_paces_20 : decode cX6_paces 20 = .ok (.aload_n 0, 1) := by decide +kernel
theorem dX6_paces_21 : decode cX6_paces 21 = .ok (.getfield 26, 3) := by decide +kernel
theorem dX6_paces_24 : decode cX6_paces 24 = .ok (.iconst 3, 1) := by decide +kernel
theorem dX6_paces_25 : decode cX6_paces 25 = .ok (.iload_n 3, 1) := by decide +kernel
theorem dX6_paces_26 : decode cX6_paces 26 = .ok (.imul, 1) := by decide +kernel
theorem dX6_paces_27 : decode cX6_paces 27 = .ok (.iconst 1, 1) := by decide +kernel
theorem dX6_paces_28 : decode cX6_paces 28 = .ok (.iadd, 1) := by decide +kernel
theorem dX6_paces_29 : decode cX6_paces 29 = .ok (.iaload, 1) := by decide +kernel
theorem dX6_paces_30 : decode cX6_paces 30 = .ok (.imul, 1) := by decide +kernel
theorem dX6_paces_31 : decode cX6_paces 31 = .ok (.iadd, 1) := by decide +kernel
theorem dX6_paces_32 : decode cX6_paces 32 = .ok (.istore_n 2, 1) := by decide +kernel
theorem dX6_paces_33 : decode cX6_paces 33 = .ok (.iinc 3 1, 3) := by decide +kernel
theorem dX6_paces_36 : decode cX6_paces 36 = .ok (.goto (-32), 3) := by decide +kernel
theorem dX6_paces_39 : decode cX6_paces 39 = .ok (.iload_n 2, 1) := by decide +kernel
theorem dX6_paces_40 : decode cX6_paces 40 = .ok (.ireturn, 1) := by decide +kernel
def rmX6_paces : Room := { frames := 0, cells := 0, slots := 0, locals := 0 }
def fX6_paces_4 (x1 : Int32) (M : xm) : Nat → Int32 → Int32 → Option (Int32)
  | 0, _, _ => none
  | n + 1, x2, x3 => xchk 0 2 ((if (M.1 65 (0 : Int32).toNatClampNeg) ≤ x3 then (some x2) else xchk ((3 * x3) + 1) 48 (xl (x2 + (((x1 >>> (x3 &&& 31)) &&& 1) * (M.1 66 (((3 * x3) + 1)).toNatClampNeg))) (fun v1 => (fX6_paces_4 x1 M n v1 (x3 + 1))))))
def fX6_paces (x1 : Int32) (M : xm) : Option (Int32) := (fX6_paces_4 x1 M xfuel 0 0)
section
variable {p : Program} {l : Launch} {e : Env} {s : State} {m : MethodId} {args : Array Value} {below : List Frame} {meth : Method} {c : Code} {D : va_G} {cs : Nat → ClassId} {S : List Nat} {ad : Nat → Nat}
theorem bX6_paces_4 (Z : CX p s m args meth c cX6_paces 4 RX6 (some .int) D cs (xA S ad) S ad) (hS : xalm S) (x1 : Int32) (M : xm) : ∀ (n : Nat) (x2 : Int32) (x3 : Int32), XJ p l e rmX6_paces s m args below meth c D cs (xA S ad) S ad 4 (XRr below args s D cs S ad M) 4 [(0, .ref (ad 60)), (1, .int x1), (2, .int x2), (3, .int x3)] [] M (fX6_paces_4 x1 M n x2 x3) := by
  intro n
  induction n with
  | zero => intros; exact xj_none
  | succ n ih =>
    intro x2 x3
    rw [fX6_paces_4]
    refine xj_iload_n Z 3 dX6_paces_4 rfl rfl ?_
    refine xj_aload_n Z 0 dX6_paces_5 rfl rfl ?_
    refine xg_X6_23 Z (hS 60 (by decide) (by decide)) dX6_paces_6 ?_
    refine xj_iconst Z 0 dX6_paces_9 (by decide) ?_
    refine xj_iald Z (hS 65 (by decide) (by decide)) rfl dX6_paces_10 (fun _ => ?_)
    refine xj_icmp_ge Z 39 dX6_paces_11 (by decide) (fun _ => ?_) (fun _ => ?_)
    · refine xj_iload_n Z 2 dX6_paces_39 rfl rfl ?_
      exact xj_ret_r Z dX6_paces_40
    · refine xj_iload_n Z 2 dX6_paces_14 rfl rfl ?_
      refine xj_iload_n Z 1 dX6_paces_15 rfl rfl ?_
      refine xj_iload_n Z 3 dX6_paces_16 rfl rfl ?_
      refine xj_ishr Z dX6_paces_17 ?_
      refine xj_iconst Z 1 dX6_paces_18 (by decide) ?_
      refine xj_iand Z dX6_paces_19 ?_
      refine xj_aload_n Z 0 dX6_paces_20 rfl rfl ?_
      refine xg_X6_26 Z (hS 60 (by decide) (by decide)) dX6_paces_21 ?_
      refine xj_iconst Z 3 dX6_paces_24 (by decide) ?_
      refine xj_iload_n Z 3 dX6_paces_25 rfl rfl ?_
      refine xj_imul Z dX6_paces_26 ?_
      refine xj_iconst Z 1 dX6_paces_27 (by decide) ?_
      refine xj_iadd Z dX6_paces_28 ?_
      refine xj_iald Z (hS 66 (by decide) (by decide)) rfl dX6_paces_29 (fun _ => ?_)
      refine xj_imul Z dX6_paces_30 ?_
      refine xj_iadd Z dX6_paces_31 ?_
      refine xj_top (fun v1 => ?_)
      refine xj_istore_n Z (lv' := [(2, .int v1), (0, .ref (ad 60)), (1, .int x1), (3, .int x3)]) dX6_paces_32 rfl (by decide) rfl ?_
      refine xj_iinc Z 3 (x3 + 1) (lv' := [(3, .int (x3 + 1)), (2, .int v1), (0, .ref (ad 60)), (1, .int x1)]) dX6_paces_33 rfl rfl (by decide) rfl ?_
      refine xj_goto Z 4 dX6_paces_36 (by decide) ?_
      refine xj_sub [2, 3, 1, 0] (lv' := [(0, .ref (ad 60)), (1, .int x1), (2, .int v1), (3, .int (x3 + 1))]) rfl ?_
      exact ih v1 (x3 + 1)
end
theorem kX6_paces (l : Launch) (D : va_G) (cs : Nat → ClassId) (S : List Nat) (ad : Nat → Nat) (hd : xdist S ad) (hS : xalm S) (x1 : Int32) (M : xm) : ∀ r, fX6_paces x1 M = some r → Met l yX6_paces [Cond.code yX6_paces cX6_paces 4 (some .int)] rmX6_paces (XPc D cs S ad [.ref (ad 60), .int x1] M) (XQi D cs S ad r M) 0 0 (xA S ad) := by
  refine xm_r (own := RX6) (lv := [(0, .ref (ad 60)), (1, .int x1)]) (by decide +kernel) rfl rfl (Nat.le_of_ble_eq_true rfl) hd (fun p e s m args below meth c Z => ?_)
  unfold fX6_paces
  refine xj_iconst Z 0 dX6_paces_0 (by decide) ?_
  refine xj_istore_n Z (lv' := [(2, .int 0), (0, .ref (ad 60)), (1, .int x1)]) dX6_paces_1 rfl (by decide) rfl ?_
  refine xj_iconst Z 0 dX6_paces_2 (by decide) ?_
  refine xj_istore_n Z (lv' := [(3, .int 0), (2, .int 0), (0, .ref (ad 60)), (1, .int x1)]) dX6_paces_3 rfl (by decide) rfl ?_
  refine xj_sub [2, 3, 1, 0] (lv' := [(0, .ref (ad 60)), (1, .int x1), (2, .int 0), (3, .int 0)]) rfl ?_
  exact bX6_paces_4 Z hS x1 M xfuel 0 0
/-! WalkingLawModel.isParty(II)Z -/
theorem dX6_isParty_0 : decode cX6_isParty 0 = .ok (.iconst 2, 1) := by decide +kernel
theorem dX6_isParty_1 : decode cX6_isParty 1 = .ok (.aload_n 0, 1) := by decide +kernel
theorem dX6_isParty_2 : decode cX6_isParty 2 = .ok (.iload_n 1, 1) := by decide +kernel
theorem dX6_isParty_3 : decode cX6_isParty 3 = .ok (.invokevirtual 189, 3) := by decide +kernel
theorem dX6_isParty_6 : decode cX6_isParty 6 = .ok (.imul, 1) := by decide +kernel
theorem dX6_isParty_7 : decode cX6_isParty 7 = .ok (.iload_n 2, 1) := by decide +kernel
theorem dX6_isParty_8 : decode cX6_isParty 8 = .ok (.if_icmp .le 7, 3) := by decide +kernel
theorem dX6_isParty_11 : decode cX6_isParty 11 = .ok (.iconst 1, 1) := by decide +kernel
theorem dX6_isParty_12 : decode cX6_isParty 12 = .ok (.goto 4, 3) := by decide +kernel
theorem dX6_isParty_15 : decode cX6_isParty 15 = .ok (.iconst 0, 1) := by decide +kernel
theorem dX6_isParty_16 : decode cX6_isParty 16 = .ok (.istore_n 3, 1) := by decide +kernel
theorem dX6_isParty_17 : decode cX6_isParty 17 = .ok (.iconst 0, 1) := by decide +kernel
theorem dX6_isParty_18 : decode cX6_isParty 18 = .ok (.istore 4, 2) := by decide +kernel
theorem dX6_isParty_20 : decode cX6_isParty 20 = .ok (.iload 4, 2) := by decide +kernel
theorem dX6_isParty_22 : decode cX6_isParty 22 = .ok (.aload_n 0, 1) := by decide +kernel
theorem dX6_isParty_23 : decode cX6_isParty 23 = .ok (.getfield 23, 3) := by decide +kernel
theorem dX6_isParty_26 : decode cX6_isParty 26 = .ok (.iconst 0, 1) := by decide +kernel
theorem dX6_isParty_27 : decode cX6_isParty 27 = .ok (.iaload, 1) := by decide +kernel
theorem dX6_isParty_28 : decode cX6_isParty 28 = .ok (.if_icmp .ge 46, 3) := by decide +kernel
theorem dX6_isParty_31 : decode cX6_isParty 31 = .ok (.iload_n 3, 1) := by decide +kernel
theorem dX6_isParty_32 : decode cX6_isParty 32 = .ok (.ifCond .eq 42, 3) := by decide +kernel
theorem dX6_isParty_35 : decode cX6_isParty 35 = .ok (.iload_n 1, 1) := by decide +kernel
theorem dX6_isParty_36 : decode cX6_isParty 36 = .ok (.iload 4, 2) := by decide +kernel
theorem dX6_isParty_38 : decode cX6_isParty 38 = .ok (.ishr, 1) := by decide +kernel
theorem dX6_isParty_39 : decode cX6_isParty 39 = .ok (.iconst 1, 1) := by decide +kernel
theorem dX6_isParty_40 : decode cX6_isParty 40 = .ok (.iand, 1) := by decide +kernel
theorem dX6_isParty_41 : decode cX6_isParty 41 = .ok (.ifCond .eq 21, 3) := by decide +kernel
theorem dX6_isParty_44 : decode cX6_isParty 44 = .ok (.iconst 2, 1) := by decide +kernel
theorem dX6_isParty_45 : decode cX6_isParty 45 = .ok (.aload_n 0, 1) := by decide +kernel
theorem dX6_isParty_46 : decode cX6_isParty 46 = .ok (.iload_n 1, 1) := by decide +kernel
theorem dX6_isParty_47 : decode cX6_isParty 47 = .ok (.iconst 1, 1) := by decide +kernel
theorem dX6_isParty_48 : decode cX6_isParty 48 = .ok (.iload 4, 2) := by decide +kernel
theorem dX6_isParty_50 : decode cX6_isParty 50 = .ok (.ishl, 1) := by decide +kernel
theorem dX6_isParty_51 : decode cX6_isParty 51 = .ok (.iconst (-1), 1) := by decide +kernel
theorem dX6_isParty_52 : decode cX6_isParty 52 = .ok (.ixor, 1) := by decide +kernel
theorem dX6_isParty_53 : decode cX6_isParty 53 = .ok (.iand, 1) := by decide +kernel
theorem dX6_isParty_54 : decode cX6_isParty 54 = .ok (.invokevirtual 189, 3) := by decide +kernel
theorem dX6_isParty_57 : decode cX6_isParty 57 = .ok (.imul, 1) := by decide +kernel
theorem dX6_isParty_58 : decode cX6_isParty 58 = .ok (.iload_n 2, 1) := by decide +kernel
theorem dX6_isParty_59 : decode cX6_isParty 59 = .ok (.if_icmp .gt 7, 3) := by decide +kernel
theorem dX6_isParty_62 : decode cX6_isParty 62 = .ok (.iconst 1, 1) := by decide +kernel
theorem dX6_isParty_63 : decode cX6_isParty 63 = .ok (.goto 4, 3) := by decide +kernel
theorem dX6_isParty_66 : decode cX6_isParty 66 = .ok (.iconst 0, 1) := by decide +kernel
theorem dX6_isParty_67 : decode cX6_isParty 67 = .ok (.istore_n 3, 1) := by decide +kernel
theorem dX6_isParty_68 : decode cX6_isParty 68 = .ok (.iinc 4 1, 3) := by decide +kernel
theorem dX6_isParty_71 : decode cX6_isParty 71 = .ok (.goto (-51), 3) := by decide +kernel
theorem dX6_isParty_74 : decode cX6_isParty 74 = .ok (.iload_n 3, 1) := by decide +kernel
theorem dX6_isParty_75 : decode cX6_isParty 75 = .ok (.ireturn, 1) := by decide +kernel
def rmX6_isParty : Room := { frames := 1, cells := 0, slots := 0, locals := 23 }
def fX6_isParty_67 (k20 : Int32 → Int32 → Option (Int32)) (x1 : Int32) (x2 : Int32) (x4 : Int32) (t0 : Int32) (M : xm) : Option (Int32) := (k20 t0 (x4 + 1))
def fX6_isParty_62 (k20 : Int32 → Int32 → Option (Int32)) (x1 : Int32) (x2 : Int32) (x4 : Int32) (M : xm) : Option (Int32) := (fX6_isParty_67 (k20) x1 x2 x4 1 M)
def fX6_isParty_74 (x3 : Int32) (M : xm) : Option (Int32) := (xbo x3 (some x3))
def fX6_isParty_20 (x1 : Int32) (x2 : Int32) (M : xm) : Nat → Int32 → Int32 → Option (Int32)
  | 0, _, _ => none
  | n + 1, x3, x4 => xchk 0 2 ((if (M.1 65 (0 : Int32).toNatClampNeg) ≤ x4 then (fX6_isParty_74 x3 M) else (if x3 = 0 then (fX6_isParty_74 x3 M) else (if ((x1 >>> (x4 &&& 31)) &&& 1) = 0 then (fX6_isParty_62 (fun z0 z1 => fX6_isParty_20 x1 x2 M n z0 z1) x1 x2 x4 M) else (fX6_paces (x1 &&& ((1 <<< (x4 &&& 31)) ^^^ (-1))) M).bind (fun v1 => (if x2 < (2 * v1) then (fX6_isParty_67 (fun z0 z1 => fX6_isParty_20 x1 x2 M n z0 z1) x1 x2 x4 0 M) else (fX6_isParty_62 (fun z0 z1 => fX6_isParty_20 x1 x2 M n z0 z1) x1 x2 x4 M)))))))
def fX6_isParty_16 (x1 : Int32) (x2 : Int32) (t0 : Int32) (M : xm) : Option (Int32) := (fX6_isParty_20 x1 x2 M xfuel t0 0)
def fX6_isParty (x1 : Int32) (x2 : Int32) (M : xm) : Option (Int32) := (fX6_paces x1 M).bind (fun v2 => (if ((2 : Int32) * v2) ≤ x2 then (fX6_isParty_16 x1 x2 0 M) else (fX6_isParty_16 x1 x2 1 M)))
section
variable {p : Program} {l : Launch} {e : Env} {s : State} {m : MethodId} {args : Array Value} {below : List Frame} {meth : Method} {c : Code} {D : va_G} {cs : Nat → ClassId} {S : List Nat} {ad : Nat → Nat}
theorem bX6_isParty_67 (Z : CX p s m args meth c cX6_isParty 5 RX6 (some .boolean) D cs (xA S ad) S ad) (hS : xalm S) {k20 : Int32 → Int32 → Option (Int32)} (x1 : Int32) (x2 : Int32) (x4 : Int32) (t0 : Int32) (M : xm) (hk20 : ∀ (x3 : Int32) (x4 : Int32), XJ p l e rmX6_isParty s m args below meth c D cs (xA S ad) S ad 5 (XRr below args s D cs S ad M) 20 [(0, .ref (ad 60)), (1, .int x1), (2, .int x2), (3, .int x3), (4, .int x4)] [] M (k20 x3 x4)) : XJ p l e rmX6_isParty s m args below meth c D cs (xA S ad) S ad 5 (XRr below args s D cs S ad M) 67 [(0, .ref (ad 60)), (1, .int x1), (2, .int x2), (4, .int x4)] [.int t0] M (fX6_isParty_67 k20 x1 x2 x4 t0 M) := by
  unfold fX6_isParty_67
  refine xj_istore_n Z (lv' := [(3, .int t0), (0, .ref (ad 60)), (1, .int x1), (2, .int x2), (4, .int x4)]) dX6_isParty_67 rfl (by decide) rfl ?_
  refine xj_iinc Z 4 (x4 + 1) (lv' := [(4, .int (x4 + 1)), (3, .int t0), (0, .ref (ad 60)), (1, .int x1), (2, .int x2)]) dX6_isParty_68 rfl rfl (by decide) rfl ?_
  refine xj_goto Z 20 dX6_isParty_71 (by decide) ?_
  refine xj_sub [2, 3, 4, 1, 0] (lv' := [(0, .ref (ad 60)), (1, .int x1), (2, .int x2), (3, .int t0), (4, .int (x4 + 1))]) rfl ?_
  exact hk20 t0 (x4 + 1)
theorem bX6_isParty_62 (Z : CX p s m args meth c cX6_isParty 5 RX6 (some .boolean) D cs (xA S ad) S ad) (hS : xalm S) {k20 : Int32 → Int32 → Option (Int32)} (x1 : Int32) (x2 : Int32) (x4 : Int32) (M : xm) (hk20 : ∀ (x3 : Int32) (x4 : Int32), XJ p l e rmX6_isParty s m args below meth c D cs (xA S ad) S ad 5 (XRr below args s D cs S ad M) 20 [(0, .ref (ad 60)), (1, .int x1), (2, .int x2), (3, .int x3), (4, .int x4)] [] M (k20 x3 x4)) : XJ p l e rmX6_isParty s m args below meth c D cs (xA S ad) S ad 5 (XRr below args s D cs S ad M) 62 [(0, .ref (ad 60)), (1, .int x1), (2, .int x2), (4, .int x4)] [] M (fX6_isParty_62 k20 x1 x2 x4 M) := by
  unfold fX6_isParty_62
  refine xj_iconst Z 1 dX6_isParty_62 (by decide) ?_
  refine xj_goto Z 67 dX6_isParty_63 (by decide) ?_
  exact bX6_isParty_67 Z hS x1 x2 x4 1 M hk20
theorem bX6_isParty_74 (Z : CX p s m args meth c cX6_isParty 5 RX6 (some .boolean) D cs (xA S ad) S ad) (hS : xalm S) (x3 : Int32) (M : xm) : XJ p l e rmX6_isParty s m args below meth c D cs (xA S ad) S ad 5 (XRr below args s D cs S ad M) 74 [(3, .int x3)] [] M (fX6_isParty_74 x3 M) := by
  unfold fX6_isParty_74
  refine xj_iload_n Z 0 dX6_isParty_74 rfl rfl ?_
  exact xj_zret_r Z dX6_isParty_75
theorem bX6_isParty_20 (Z : CX p s m args meth c cX6_isParty 5 RX6 (some .boolean) D cs (xA S ad) S ad) (hS : xalm S) (x1 : Int32) (x2 : Int32) (M : xm) : ∀ (n : Nat) (x3 : Int32) (x4 : Int32), XJ p l e rmX6_isParty s m args below meth c D cs (xA S ad) S ad 5 (XRr below args s D cs S ad M) 20 [(0, .ref (ad 60)), (1, .int x1), (2, .int x2), (3, .int x3), (4, .int x4)] [] M (fX6_isParty_20 x1 x2 M n x3 x4) := by
  intro n
  induction n with
  | zero => intros; exact xj_none
  | succ n ih =>
    intro x3 x4
    rw [fX6_isParty_20]
    refine xj_iload Z 4 dX6_isParty_20 rfl ?_
    refine xj_aload_n Z 0 dX6_isParty_22 rfl rfl ?_
    refine xg_X6_23 Z (hS 60 (by decide) (by decide)) dX6_isParty_23 ?_
    refine xj_iconst Z 0 dX6_isParty_26 (by decide) ?_
    refine xj_iald Z (hS 65 (by decide) (by decide)) rfl dX6_isParty_27 (fun _ => ?_)
    refine xj_icmp_ge Z 74 dX6_isParty_28 (by decide) (fun _ => ?_) (fun _ => ?_)
    · refine xj_sub [3] (lv' := [(3, .int x3)]) rfl ?_
      exact bX6_isParty_74 Z hS x3 M
    · refine xj_iload_n Z 3 dX6_isParty_31 rfl rfl ?_
      refine xj_if_eq Z 74 dX6_isParty_32 (by decide) (fun _ => ?_) (fun _ => ?_)
      · refine xj_sub [3] (lv' := [(3, .int x3)]) rfl ?_
        exact bX6_isParty_74 Z hS x3 M
      · refine xj_iload_n Z 1 dX6_isParty_35 rfl rfl ?_
        refine xj_iload Z 4 dX6_isParty_36 rfl ?_
        refine xj_ishr Z dX6_isParty_38 ?_
        refine xj_iconst Z 1 dX6_isParty_39 (by decide) ?_
        refine xj_iand Z dX6_isParty_40 ?_
        refine xj_if_eq Z 62 dX6_isParty_41 (by decide) (fun _ => ?_) (fun _ => ?_)
        · refine xj_sub [0, 1, 2, 4] (lv' := [(0, .ref (ad 60)), (1, .int x1), (2, .int x2), (4, .int x4)]) rfl ?_
          exact bX6_isParty_62 Z hS x1 x2 x4 M ih
        · refine xj_iconst Z 2 dX6_isParty_44 (by decide) ?_
          refine xj_aload_n Z 0 dX6_isParty_45 rfl rfl ?_
          refine xj_iload_n Z 1 dX6_isParty_46 rfl rfl ?_
          refine xj_iconst Z 1 dX6_isParty_47 (by decide) ?_
          refine xj_iload Z 4 dX6_isParty_48 rfl ?_
          refine xj_ishl Z dX6_isParty_50 ?_
          refine xj_iconst Z (-1) dX6_isParty_51 (by decide) ?_
          refine xj_ixor Z dX6_isParty_52 ?_
          refine xj_iand Z dX6_isParty_53 ?_
          refine xj_callVr Z (As := [.int (x1 &&& ((1 <<< (x4 &&& 31)) ^^^ (-1)))]) (kX6_paces l D cs S ad Z.2.2.2.2.2.1.dist hS (x1 &&& ((1 <<< (x4 &&& 31)) ^^^ (-1))) M) gw_X6_189 (hS 60 (by decide) (by decide)) rfl rfl (n := 1) (by decide +kernel) rfl ⟨rfl, rfl⟩ (by decide) rfl (Nat.le_of_ble_eq_true rfl) dX6_isParty_54 (fun v1 => ?_)
          refine xj_imul Z dX6_isParty_57 ?_
          refine xj_iload_n Z 2 dX6_isParty_58 rfl rfl ?_
          refine xj_icmp_gt Z 66 dX6_isParty_59 (by decide) (fun _ => ?_) (fun _ => ?_)
          · refine xj_iconst Z 0 dX6_isParty_66 (by decide) ?_
            refine xj_sub [0, 1, 2, 4] (lv' := [(0, .ref (ad 60)), (1, .int x1), (2, .int x2), (4, .int x4)]) rfl ?_
            exact bX6_isParty_67 Z hS x1 x2 x4 0 M ih
          · refine xj_sub [0, 1, 2, 4] (lv' := [(0, .ref (ad 60)), (1, .int x1), (2, .int x2), (4, .int x4)]) rfl ?_
            exact bX6_isParty_62 Z hS x1 x2 x4 M ih
theorem bX6_isParty_16 (Z : CX p s m args meth c cX6_isParty 5 RX6 (some .boolean) D cs (xA S ad) S ad) (hS : xalm S) (x1 : Int32) (x2 : Int32) (t0 : Int32) (M : xm) : XJ p l e rmX6_isParty s m args below meth c D cs (xA S ad) S ad 5 (XRr below args s D cs S ad M) 16 [(0, .ref (ad 60)), (1, .int x1), (2, .int x2)] [.int t0] M (fX6_isParty_16 x1 x2 t0 M) := by
  unfold fX6_isParty_16
  refine xj_istore_n Z (lv' := [(3, .int t0), (0, .ref (ad 60)), (1, .int x1), (2, .int x2)]) dX6_isParty_16 rfl (by decide) rfl ?_
  refine xj_iconst Z 0 dX6_isParty_17 (by decide) ?_
  refine xj_istore Z (lv' := [(4, .int 0), (3, .int t0), (0, .ref (ad 60)), (1, .int x1), (2, .int x2)]) dX6_isParty_18 (by decide) rfl ?_
  refine xj_sub [2, 3, 4, 1, 0] (lv' := [(0, .ref (ad 60)), (1, .int x1), (2, .int x2), (3, .int t0), (4, .int 0)]) rfl ?_
  exact bX6_isParty_20 Z hS x1 x2 M xfuel t0 0
end
theorem kX6_isParty (l : Launch) (D : va_G) (cs : Nat → ClassId) (S : List Nat) (ad : Nat → Nat) (hd : xdist S ad) (hS : xalm S) (x1 : Int32) (x2 : Int32) (M : xm) : ∀ r, fX6_isParty x1 x2 M = some r → Met l yX6_isParty [Cond.code yX6_isParty cX6_isParty 5 (some .boolean)] rmX6_isParty (XPc D cs S ad [.ref (ad 60), .int x1, .int x2] M) (XQi D cs S ad r M) 0 0 (xA S ad) := by
  refine xm_r (own := RX6) (lv := [(0, .ref (ad 60)), (1, .int x1), (2, .int x2)]) (by decide +kernel) rfl rfl (Nat.le_of_ble_eq_true rfl) hd (fun p e s m args below meth c Z => ?_)
  unfold fX6_isParty
  refine xj_iconst Z 2 dX6_isParty_0 (by decide) ?_
  refine xj_aload_n Z 0 dX6_isParty_1 rfl rfl ?_
  refine xj_iload_n Z 1 dX6_isParty_2 rfl rfl ?_
  refine xj_callVr Z (As := [.int x1]) (kX6_paces l D cs S ad Z.2.2.2.2.2.1.dist hS x1 M) gw_X6_189 (hS 60 (by decide) (by decide)) rfl rfl (n := 1) (by decide +kernel) rfl ⟨rfl, rfl⟩ (by decide) rfl (Nat.le_of_ble_eq_true rfl) dX6_isParty_3 (fun v2 => ?_)
  refine xj_imul Z dX6_isParty_6 ?_
  refine xj_iload_n Z 2 dX6_isParty_7 rfl rfl ?_
  refine xj_icmp_le Z 15 dX6_isParty_8 (by decide) (fun _ => ?_) (fun _ => ?_)
  · refine xj_iconst Z 0 dX6_isParty_15 (by decide) ?_
    exact bX6_isParty_16 Z hS x1 x2 0 M
  · refine xj_iconst Z 1 dX6_isParty_11 (by decide) ?_
    refine xj_goto Z 16 dX6_isParty_12 (by decide) ?_
    exact bX6_isParty_16 Z hS x1 x2 1 M
/-! WalkingLawModel.parties(II)I -/
theorem dX6_parties_0 : decode cX6_parties 0 = .ok (.aload_n 0, 1) := by decide +kernel
theorem dX6_parties_1 : decode cX6_parties 1 = .ok (.iload_n 1, 1) := by decide +kernel
theorem dX6_parties_2 : decode cX6_parties 2 = .ok (.invokevirtual 109, 3) := by decide +kernel
theorem dX6_parties_5 : decode cX6_parties 5 = .ok (.ifCond .eq 23, 3) := by decide +kernel
theorem dX6_parties_8 : decode cX6_parties 8 = .ok (.iload_n 2, 1) := by decide +kernel
theorem dX6_parties_9 : decode cX6_parties 9 = .ok (.i2l, 1) := by decide +kernel
theorem dX6_parties_10 : decode cX6_parties 10 = .ok (.ldc2_w 178, 3) := by decide +kernel
theorem dX6_parties_13 : decode cX6_parties 13 = .ok (.aload_n 0, 1) := by decide +kernel
theorem dX6_parties_14 : decode cX6_parties 14 = .ok (.getfield 23, 3) := by decide +kernel
theorem dX6_parties_17 : decode cX6_parties 17 = .ok (.iconst 0, 1) := by decide +kernel
theorem dX6_parties_18 : decode cX6_parties 18 = .ok (.iaload, 1) := by decide +kernel
theorem dX6_parties_19 : decode cX6_parties 19 = .ok (.iconst 1, 1) := by decide +kernel
theorem dX6_parties_20 : decode cX6_parties 20 = .ok (.isub, 1) := by decide +kernel
theorem dX6_parties_21 : decode cX6_parties 21 = .ok (.i2l, 1) := by decide +kernel
theorem dX6_parties_22 : decode cX6_parties 22 = .ok (.invokestatic 56, 3) := by decide +kernel
theorem dX6_parties_25 : decode cX6_parties 25 = .ok (.ifCond .ne 5, 3) := by decide +kernel
theorem dX6_parties_28 : decode cX6_parties 28 = .ok (.iconst (-1), 1) := by decide +kernel
theorem dX6_parties_29 : decode cX6_parties 29 = .ok (.ireturn, 1) := by decide +kernel
theorem dX6_parties_30 : decode cX6_parties 30 = .ok (.aload_n 0, 1) := by decide +kernel
theorem dX6_parties_31 : decode cX6_parties 31 = .ok (.iconst 0, 1) := by decide +kernel
theorem dX6_parties_32 : decode cX6_parties 32 = .ok (.iload_n 1, 1) := by decide +kernel
theorem dX6_parties_33 : decode cX6_parties 33 = .ok (.invokevirtual 114, 3) := by decide +kernel
theorem dX6_parties_36 : decode cX6_parties 36 = .ok (.istore_n 3, 1) := by decide +kernel
theorem dX6_parties_37 : decode cX6_parties 37 = .ok (.aload_n 0, 1) := by decide +kernel
theorem dX6_parties_38 : decode cX6_parties 38 = .ok (.iload_n 3, 1) := by decide +kernel
theorem dX6_parties_39 : decode cX6_parties 39 = .ok (.invokevirtual 189, 3) := by decide +kernel
theorem dX6_parties_42 : decode cX6_parties 42 = .ok (.istore 4, 2) := by decide +kernel
theorem dX6_parties_44 : decode cX6_parties 44 = .ok (.iconst 0, 1) := by decide +kernel
theorem dX6_parties_45 : decode cX6_parties 45 = .ok (.istore 5, 2) := by decide +kernel
theorem dX6_parties_47 : decode cX6_parties 47 = .ok (.iconst 0, 1) := by decide +kernel
theorem dX6_parties_48 : decode cX6_parties 48 = .ok (.istore 6, 2) := by decide +kernel
theorem dX6_parties_50 : decode cX6_parties 50 = .ok (.iload 6, 2) := by decide +kernel
theorem dX6_parties_52 : decode cX6_parties 52 = .ok (.iconst 1, 1) := by decide +kernel
theorem dX6_parties_53 : decode cX6_parties 53 = .ok (.aload_n 0, 1) := by decide +kernel
theorem dX6_parties_54 : decode cX6_parties 54 = .ok (.getfield 23, 3) := by decide +kernel
theorem dX6_parties_57 : decode cX6_parties 57 = .ok (.iconst 0, 1) := by decide +kernel
theorem dX6_parties_58 : decode cX6_parties 58 = .ok (.iaload, 1) := by decide +kernel
theorem dX6_parties_59 : decode cX6_parties 59 = .ok (.ishl, 1) := by decide +kernel
theorem dX6_parties_60 : decode cX6_parties 60 = .ok (.if_icmp .ge 53, 3) := by decide +kernel
theorem dX6_parties_63 : decode cX6_parties 63 = .ok (.iload 5, 2) := by decide +kernel
theorem dX6_parties_65 : decode cX6_parties 65 = .ok (.iload 6, 2) := by decide +kernel
theorem dX6_parties_67 : decode cX6_parties 67 = .ok (.iload_n 3, 1) := by decide +kernel
theorem dX6_parties_68 : decode cX6_parties 68 = .ok (.iconst (-1), 1) := by decide +kernel
theorem dX6_parties_69 : decode cX6_parties 69 = .ok (.ixor, 1) := by decide +kernel
theorem dX6_parties_70 : decode cX6_parties 70 = .ok (.iand, 1) := by decide +kernel
theorem dX6_parties_71 : decode cX6_parties 71 = .ok (.ifCond .ne 32, 3) := by decide +kernel
theorem dX6_parties_74 : decode cX6_parties 74 = .ok (.aload_n 0, 1) := by decide +kernel
theorem dX6_parties_75 : decode cX6_parties 75 = .ok (.iload 6, 2) := by decide +kernel
theorem dX6_parties_77 : decode cX6_parties 77 = .ok (.iload 4, 2) := by decide +kernel
theorem dX6_parties_79 : decode cX6_parties 79 = .ok (.invokevirtual 192, 3) := by decide +kernel
theorem dX6_parties_82 : decode cX6_parties 82 = .ok (.ifCond .eq 21, 3) := by decide +kernel
theorem dX6_parties_85 : decode cX6_parties 85 = .ok (.iload_n 2, 1) := by decide +kernel
theorem dX6_parties_86 : decode cX6_parties 86 = .ok (.ifCond .lt 13, 3) := by decide +kernel
theorem dX6_parties_89 : decode cX6_parties 89 = .ok (.iload 6, 2) := by decide +kernel
theorem dX6_parties_91 : decode cX6_parties 91 = .ok (.iload_n 2, 1) := by decide +kernel
theorem dX6_parties_92 : decode cX6_parties 92 = .ok (.ishr, 1) := by decide +kernel
theorem dX6_parties_93 : decode cX6_parties 93 = .ok (.iconst 1, 1) := by decide +kernel
theorem dX6_parties_94 : decode cX6_parties 94 = .ok (.iand, 1) := by decide +kernel
theorem dX6_parties_95 : decode cX6_parties 95 = .ok (.iconst 1, 1) := by decide +kernel
theorem dX6_parties_96 : decode cX6_parties 96 = .ok (.if_icmp .ne 7, 3) := by decide +kernel
theorem dX6_parties_99 : decode cX6_parties 99 = .ok (.iconst 1, 1) := by decide +kernel
theorem dX6_parties_100 : decode cX6_parties 100 = .ok (.goto 4, 3) := by decide +kernel
theorem dX6_parties_103 : decode cX6_parties 103 = .ok (.iconst 0, 1) := by decide +kernel
theorem dX6_parties_104 : decode cX6_parties 104 = .ok (.iadd, 1) := by decide +kernel
theorem dX6_parties_105 : decode cX6_parties 105 = .ok (.istore 5, 2) := by decide +kernel
theorem dX6_parties_107 : decode cX6_parties 107 = .ok (.iinc 6 1, 3) := by decide +kernel
theorem dX6_parties_110 : decode cX6_parties 110 = .ok (.goto (-60), 3) := by decide +kernel
theorem dX6_parties_113 : decode cX6_parties 113 = .ok (.iload 5, 2) := by decide +kernel
theorem dX6_parties_115 : decode cX6_parties 115 = .ok (.ireturn, 1) := by decide +kernel
def rmX6_parties : Room := { frames := 3, cells := 0, slots := 0, locals := 69 }
def fX6_parties_28 (M : xm) : Option (Int32) := (some (-1))
def fX6_parties_104 (k50 : Int32 → Int32 → Option (Int32)) (x2 : Int32) (x3 : Int32) (x4 : Int32) (x6 : Int32) (t0 : Int32) (t1 : Int32) (M : xm) : Option (Int32) := xl (t0 + t1) (fun v1 => (k50 v1 (x6 + 1)))
def fX6_parties_99 (k50 : Int32 → Int32 → Option (Int32)) (x2 : Int32) (x3 : Int32) (x4 : Int32) (x6 : Int32) (t0 : Int32) (M : xm) : Option (Int32) := (fX6_parties_104 (k50) x2 x3 x4 x6 t0 1 M)
def fX6_parties_103 (k50 : Int32 → Int32 → Option (Int32)) (x2 : Int32) (x3 : Int32) (x4 : Int32) (x6 : Int32) (t0 : Int32) (M : xm) : Option (Int32) := (fX6_parties_104 (k50) x2 x3 x4 x6 t0 0 M)
def fX6_parties_50 (x2 : Int32) (x3 : Int32) (x4 : Int32) (M : xm) : Nat → Int32 → Int32 → Option (Int32)
  | 0, _, _ => none
  | n + 1, x5, x6 => xchk 0 2 ((if ((1 : Int32) <<< ((M.1 65 (0 : Int32).toNatClampNeg) &&& 31)) ≤ x6 then (some x5) else (if (x6 &&& (x3 ^^^ (-1))) = 0 then (fX6_isParty x6 x4 M).bind (fun v2 => (if v2 = 0 then (fX6_parties_103 (fun z0 z1 => fX6_parties_50 x2 x3 x4 M n z0 z1) x2 x3 x4 x6 x5 M) else (if x2 < 0 then (fX6_parties_99 (fun z0 z1 => fX6_parties_50 x2 x3 x4 M n z0 z1) x2 x3 x4 x6 x5 M) else (if ((x6 >>> (x2 &&& 31)) &&& 1) = 1 then (fX6_parties_99 (fun z0 z1 => fX6_parties_50 x2 x3 x4 M n z0 z1) x2 x3 x4 x6 x5 M) else (fX6_parties_103 (fun z0 z1 => fX6_parties_50 x2 x3 x4 M n z0 z1) x2 x3 x4 x6 x5 M))))) else (fX6_parties_103 (fun z0 z1 => fX6_parties_50 x2 x3 x4 M n z0 z1) x2 x3 x4 x6 x5 M))))
def fX6_parties (x1 : Int32) (x2 : Int32) (M : xm) : Option (Int32) := (fX6_isParish x1 M).bind (fun v3 => (if v3 = 0 then (fX6_parties_28 M) else xchk 0 2 ((fX6_in (Int32.toInt64 x2) (-1) (Int32.toInt64 ((M.1 65 (0 : Int32).toNatClampNeg) - 1)) M).bind (fun v4 => (if v4 = 0 then (fX6_parties_28 M) else (fX6_there 0 x1 M).bind (fun v5 => (fX6_paces v5 M).bind (fun v6 => (fX6_parties_50 x2 v5 v6 M xfuel 0 0))))))))
section
variable {p : Program} {l : Launch} {e : Env} {s : State} {m : MethodId} {args : Array Value} {below : List Frame} {meth : Method} {c : Code} {D : va_G} {cs : Nat → ClassId} {S : List Nat} {ad : Nat → Nat}
theorem bX6_parties_28 (Z : CX p s m args meth c cX6_parties 7 RX6 (some .int) D cs (xA S ad) S ad) (hS : xalm S) (M : xm) : XJ p l e rmX6_parties s m args below meth c D cs (xA S ad) S ad 7 (XRr below args s D cs S ad M) 28 [] [] M (fX6_parties_28 M) := by
  unfold fX6_parties_28
  refine xj_iconst Z (-1) dX6_parties_28 (by decide) ?_
  exact xj_ret_r Z dX6_parties_29
theorem bX6_parties_104 (Z : CX p s m args meth c cX6_parties 7 RX6 (some .int) D cs (xA S ad) S ad) (hS : xalm S) {k50 : Int32 → Int32 → Option (Int32)} (x2 : Int32) (x3 : Int32) (x4 : Int32) (x6 : Int32) (t0 : Int32) (t1 : Int32) (M : xm) (hk50 : ∀ (x5 : Int32) (x6 : Int32), XJ p l e rmX6_parties s m args below meth c D cs (xA S ad) S ad 7 (XRr below args s D cs S ad M) 50 [(0, .ref (ad 60)), (2, .int x2), (3, .int x3), (4, .int x4), (5, .int x5), (6, .int x6)] [] M (k50 x5 x6)) : XJ p l e rmX6_parties s m args below meth c D cs (xA S ad) S ad 7 (XRr below args s D cs S ad M) 104 [(0, .ref (ad 60)), (2, .int x2), (3, .int x3), (4, .int x4), (6, .int x6)] [.int t1, .int t0] M (fX6_parties_104 k50 x2 x3 x4 x6 t0 t1 M) := by
  unfold fX6_parties_104
  refine xj_iadd Z dX6_parties_104 ?_
  refine xj_top (fun v1 => ?_)
  refine xj_istore Z (lv' := [(5, .int v1), (0, .ref (ad 60)), (2, .int x2), (3, .int x3), (4, .int x4), (6, .int x6)]) dX6_parties_105 (by decide) rfl ?_
  refine xj_iinc Z 5 (x6 + 1) (lv' := [(6, .int (x6 + 1)), (5, .int v1), (0, .ref (ad 60)), (2, .int x2), (3, .int x3), (4, .int x4)]) dX6_parties_107 rfl rfl (by decide) rfl ?_
  refine xj_goto Z 50 dX6_parties_110 (by decide) ?_
  refine xj_sub [2, 3, 4, 5, 1, 0] (lv' := [(0, .ref (ad 60)), (2, .int x2), (3, .int x3), (4, .int x4), (5, .int v1), (6, .int (x6 + 1))]) rfl ?_
  exact hk50 v1 (x6 + 1)
theorem bX6_parties_99 (Z : CX p s m args meth c cX6_parties 7 RX6 (some .int) D cs (xA S ad) S ad) (hS : xalm S) {k50 : Int32 → Int32 → Option (Int32)} (x2 : Int32) (x3 : Int32) (x4 : Int32) (x6 : Int32) (t0 : Int32) (M : xm) (hk50 : ∀ (x5 : Int32) (x6 : Int32), XJ p l e rmX6_parties s m args below meth c D cs (xA S ad) S ad 7 (XRr below args s D cs S ad M) 50 [(0, .ref (ad 60)), (2, .int x2), (3, .int x3), (4, .int x4), (5, .int x5), (6, .int x6)] [] M (k50 x5 x6)) : XJ p l e rmX6_parties s m args below meth c D cs (xA S ad) S ad 7 (XRr below args s D cs S ad M) 99 [(0, .ref (ad 60)), (2, .int x2), (3, .int x3), (4, .int x4), (6, .int x6)] [.int t0] M (fX6_parties_99 k50 x2 x3 x4 x6 t0 M) := by
  unfold fX6_parties_99
  refine xj_iconst Z 1 dX6_parties_99 (by decide) ?_
  refine xj_goto Z 104 dX6_parties_100 (by decide) ?_
  exact bX6_parties_104 Z hS x2 x3 x4 x6 t0 1 M hk50
theorem bX6_parties_103 (Z : CX p s m args meth c cX6_parties 7 RX6 (some .int) D cs (xA S ad) S ad) (hS : xalm S) {k50 : Int32 → Int32 → Option (Int32)} (x2 : Int32) (x3 : Int32) (x4 : Int32) (x6 : Int32) (t0 : Int32) (M : xm) (hk50 : ∀ (x5 : Int32) (x6 : Int32), XJ p l e rmX6_parties s m args below meth c D cs (xA S ad) S ad 7 (XRr below args s D cs S ad M) 50 [(0, .ref (ad 60)), (2, .int x2), (3, .int x3), (4, .int x4), (5, .int x5), (6, .int x6)] [] M (k50 x5 x6)) : XJ p l e rmX6_parties s m args below meth c D cs (xA S ad) S ad 7 (XRr below args s D cs S ad M) 103 [(0, .ref (ad 60)), (2, .int x2), (3, .int x3), (4, .int x4), (6, .int x6)] [.int t0] M (fX6_parties_103 k50 x2 x3 x4 x6 t0 M) := by
  unfold fX6_parties_103
  refine xj_iconst Z 0 dX6_parties_103 (by decide) ?_
  exact bX6_parties_104 Z hS x2 x3 x4 x6 t0 0 M hk50
theorem bX6_parties_50 (Z : CX p s m args meth c cX6_parties 7 RX6 (some .int) D cs (xA S ad) S ad) (hS : xalm S) (x2 : Int32) (x3 : Int32) (x4 : Int32) (M : xm) : ∀ (n : Nat) (x5 : Int32) (x6 : Int32), XJ p l e rmX6_parties s m args below meth c D cs (xA S ad) S ad 7 (XRr below args s D cs S ad M) 50 [(0, .ref (ad 60)), (2, .int x2), (3, .int x3), (4, .int x4), (5, .int x5), (6, .int x6)] [] M (fX6_parties_50 x2 x3 x4 M n x5 x6) := by
  intro n
  induction n with
  | zero => intros; exact xj_none
  | succ n ih =>
    intro x5 x6
    rw [fX6_parties_50]
    refine xj_iload Z 5 dX6_parties_50 rfl ?_
    refine xj_iconst Z 1 dX6_parties_52 (by decide) ?_
    refine xj_aload_n Z 0 dX6_parties_53 rfl rfl ?_
    refine xg_X6_23 Z (hS 60 (by decide) (by decide)) dX6_parties_54 ?_
    refine xj_iconst Z 0 dX6_parties_57 (by decide) ?_
    refine xj_iald Z (hS 65 (by decide) (by decide)) rfl dX6_parties_58 (fun _ => ?_)
    refine xj_ishl Z dX6_parties_59 ?_
    refine xj_icmp_ge Z 113 dX6_parties_60 (by decide) (fun _ => ?_) (fun _ => ?_)
    · refine xj_iload Z 4 dX6_parties_113 rfl ?_
      exact xj_ret_r Z dX6_parties_115
    · refine xj_iload Z 4 dX6_parties_63 rfl ?_
      refine xj_iload Z 5 dX6_parties_65 rfl ?_
      refine xj_iload_n Z 2 dX6_parties_67 rfl rfl ?_
      refine xj_iconst Z (-1) dX6_parties_68 (by decide) ?_
      refine xj_ixor Z dX6_parties_69 ?_
      refine xj_iand Z dX6_parties_70 ?_
      refine xj_if_ne Z 103 dX6_parties_71 (by decide) (fun _ => ?_) (fun _ => ?_)
      · refine xj_sub [0, 1, 2, 3, 5] (lv' := [(0, .ref (ad 60)), (2, .int x2), (3, .int x3), (4, .int x4), (6, .int x6)]) rfl ?_
        exact bX6_parties_103 Z hS x2 x3 x4 x6 x5 M ih
      · refine xj_aload_n Z 0 dX6_parties_74 rfl rfl ?_
        refine xj_iload Z 5 dX6_parties_75 rfl ?_
        refine xj_iload Z 3 dX6_parties_77 rfl ?_
        refine xj_callVr Z (As := [.int x6, .int x4]) (kX6_isParty l D cs S ad Z.2.2.2.2.2.1.dist hS x6 x4 M) gw_X6_192 (hS 60 (by decide) (by decide)) rfl rfl (n := 2) (by decide +kernel) rfl ⟨rfl, rfl⟩ (by decide) rfl (Nat.le_of_ble_eq_true rfl) dX6_parties_79 (fun v2 => ?_)
        refine xj_if_eq Z 103 dX6_parties_82 (by decide) (fun _ => ?_) (fun _ => ?_)
        · refine xj_sub [0, 1, 2, 3, 5] (lv' := [(0, .ref (ad 60)), (2, .int x2), (3, .int x3), (4, .int x4), (6, .int x6)]) rfl ?_
          exact bX6_parties_103 Z hS x2 x3 x4 x6 x5 M ih
        · refine xj_iload_n Z 1 dX6_parties_85 rfl rfl ?_
          refine xj_if_lt Z 99 dX6_parties_86 (by decide) (fun _ => ?_) (fun _ => ?_)
          · refine xj_sub [0, 1, 2, 3, 5] (lv' := [(0, .ref (ad 60)), (2, .int x2), (3, .int x3), (4, .int x4), (6, .int x6)]) rfl ?_
            exact bX6_parties_99 Z hS x2 x3 x4 x6 x5 M ih
          · refine xj_iload Z 5 dX6_parties_89 rfl ?_
            refine xj_iload_n Z 1 dX6_parties_91 rfl rfl ?_
            refine xj_ishr Z dX6_parties_92 ?_
            refine xj_iconst Z 1 dX6_parties_93 (by decide) ?_
            refine xj_iand Z dX6_parties_94 ?_
            refine xj_iconst Z 1 dX6_parties_95 (by decide) ?_
            refine xj_icmp_ne Z 103 dX6_parties_96 (by decide) (fun _ => ?_) (fun _ => ?_)
            · refine xj_sub [0, 1, 2, 3, 5] (lv' := [(0, .ref (ad 60)), (2, .int x2), (3, .int x3), (4, .int x4), (6, .int x6)]) rfl ?_
              exact bX6_parties_103 Z hS x2 x3 x4 x6 x5 M ih
            · refine xj_sub [0, 1, 2, 3, 5] (lv' := [(0, .ref (ad 60)), (2, .int x2), (3, .int x3), (4, .int x4), (6, .int x6)]) rfl ?_
              exact bX6_parties_99 Z hS x2 x3 x4 x6 x5 M ih
end
theorem kX6_parties (l : Launch) (D : va_G) (cs : Nat → ClassId) (S : List Nat) (ad : Nat → Nat) (hd : xdist S ad) (hS : xalm S) (x1 : Int32) (x2 : Int32) (M : xm) : ∀ r, fX6_parties x1 x2 M = some r → Met l yX6_parties [Cond.code yX6_parties cX6_parties 7 (some .int)] rmX6_parties (XPc D cs S ad [.ref (ad 60), .int x1, .int x2] M) (XQi D cs S ad r M) 0 0 (xA S ad) := by
  refine xm_r (own := RX6) (lv := [(0, .ref (ad 60)), (1, .int x1), (2, .int x2)]) (by decide +kernel) rfl rfl (Nat.le_of_ble_eq_true rfl) hd (fun p e s m args below meth c Z => ?_)
  unfold fX6_parties
  refine xj_aload_n Z 0 dX6_parties_0 rfl rfl ?_
  refine xj_iload_n Z 1 dX6_parties_1 rfl rfl ?_
  refine xj_callVr Z (As := [.int x1]) (kX6_isParish l D cs S ad Z.2.2.2.2.2.1.dist hS x1 M) gw_X6_109 (hS 60 (by decide) (by decide)) rfl rfl (n := 1) (by decide +kernel) rfl ⟨rfl, rfl⟩ (by decide) rfl (Nat.le_of_ble_eq_true rfl) dX6_parties_2 (fun v3 => ?_)
  refine xj_if_eq Z 28 dX6_parties_5 (by decide) (fun _ => ?_) (fun _ => ?_)
  · refine xj_sub [] (lv' := []) rfl ?_
    exact bX6_parties_28 Z hS M
  · refine xj_iload_n Z 2 dX6_parties_8 rfl rfl ?_
    refine xj_i2l Z dX6_parties_9 ?_
    refine xj_ldc2 Z dX6_parties_10 xb_532 ?_
    refine xj_aload_n Z 0 dX6_parties_13 rfl rfl ?_
    refine xg_X6_23 Z (hS 60 (by decide) (by decide)) dX6_parties_14 ?_
    refine xj_iconst Z 0 dX6_parties_17 (by decide) ?_
    refine xj_iald Z (hS 65 (by decide) (by decide)) rfl dX6_parties_18 (fun _ => ?_)
    refine xj_iconst Z 1 dX6_parties_19 (by decide) ?_
    refine xj_isub Z dX6_parties_20 ?_
    refine xj_i2l Z dX6_parties_21 ?_
    refine xj_callSr Z (As := [.long (Int32.toInt64 x2), .long (-1), .long (Int32.toInt64 ((M.1 65 (0 : Int32).toNatClampNeg) - 1))]) (kX6_in l D cs S ad Z.2.2.2.2.2.1.dist (Int32.toInt64 x2) (-1) (Int32.toInt64 ((M.1 65 (0 : Int32).toNatClampNeg) - 1)) M) gw_X6_56 (n := 3) (by decide +kernel) rfl ⟨rfl, rfl⟩ (by decide) rfl (Nat.le_of_ble_eq_true rfl) dX6_parties_22 (fun v4 => ?_)
    refine xj_if_ne Z 30 dX6_parties_25 (by decide) (fun _ => ?_) (fun _ => ?_)
    · refine xj_aload_n Z 0 dX6_parties_30 rfl rfl ?_
      refine xj_iconst Z 0 dX6_parties_31 (by decide) ?_
      refine xj_iload_n Z 1 dX6_parties_32 rfl rfl ?_
      refine xj_callVr Z (As := [.int 0, .int x1]) (kX6_there l D cs S ad Z.2.2.2.2.2.1.dist hS 0 x1 M) gw_X6_114 (hS 60 (by decide) (by decide)) rfl rfl (n := 2) (by decide +kernel) rfl ⟨rfl, rfl⟩ (by decide) rfl (Nat.le_of_ble_eq_true rfl) dX6_parties_33 (fun v5 => ?_)
      refine xj_istore_n Z (lv' := [(3, .int v5), (0, .ref (ad 60)), (1, .int x1), (2, .int x2)]) dX6_parties_36 rfl (by decide) rfl ?_
      refine xj_aload_n Z 1 dX6_parties_37 rfl rfl ?_
      refine xj_iload_n Z 0 dX6_parties_38 rfl rfl ?_
      refine xj_callVr Z (As := [.int v5]) (kX6_paces l D cs S ad Z.2.2.2.2.2.1.dist hS v5 M) gw_X6_189 (hS 60 (by decide) (by decide)) rfl rfl (n := 1) (by decide +kernel) rfl ⟨rfl, rfl⟩ (by decide) rfl (Nat.le_of_ble_eq_true rfl) dX6_parties_39 (fun v6 => ?_)
      refine xj_istore Z (lv' := [(4, .int v6), (3, .int v5), (0, .ref (ad 60)), (1, .int x1), (2, .int x2)]) dX6_parties_42 (by decide) rfl ?_
      refine xj_iconst Z 0 dX6_parties_44 (by decide) ?_
      refine xj_istore Z (lv' := [(5, .int 0), (4, .int v6), (3, .int v5), (0, .ref (ad 60)), (1, .int x1), (2, .int x2)]) dX6_parties_45 (by decide) rfl ?_
      refine xj_iconst Z 0 dX6_parties_47 (by decide) ?_
      refine xj_istore Z (lv' := [(6, .int 0), (5, .int 0), (4, .int v6), (3, .int v5), (0, .ref (ad 60)), (1, .int x1), (2, .int x2)]) dX6_parties_48 (by decide) rfl ?_
      refine xj_sub [4, 6, 3, 2, 1, 0] (lv' := [(0, .ref (ad 60)), (2, .int x2), (3, .int v5), (4, .int v6), (5, .int 0), (6, .int 0)]) rfl ?_
      exact bX6_parties_50 Z hS x2 v5 v6 M xfuel 0 0
    · refine xj_sub [] (lv' := []) rfl ?_
      exact bX6_parties_28 Z hS M
/-! WalkingLawModel.join(II)I -/
theorem dX6_join_0 : decode cX6_join 0 = .ok (.aload_n 0, 1) := by decide +kernel
theorem dX6_join_1 : decode cX6_join 1 = .ok (.iload_n 1, 1) := by decide +kernel
theorem dX6_join_2 : decode cX6_join 2 = .ok (.invokevirtual 109, 3) := by decide +kernel
theorem dX6_join_5 : decode cX6_join 5 = .ok (.ifCond .eq 11, 3) := by decide +kernel
theorem dX6_join_8 : decode cX6_join 8 = .ok (.aload_n 0, 1) := by decide +kernel
theorem dX6_join_9 : decode cX6_join 9 = .ok (.iload_n 2, 1) := by decide +kernel
theorem dX6_join_10 : decode cX6_join 10 = .ok (.invokevirtual 153, 3) := by decide +kernel
theorem dX6_join_13 : decode cX6_join 13 = .ok (.ifCond .ne 5, 3) := by decide +kernel
theorem dX6_join_16 : decode cX6_join 16 = .ok (.iconst (-1), 1) := by decide +kernel
theorem dX6_join_17 : decode cX6_join 17 = .ok (.ireturn, 1) := by decide +kernel
theorem dX6_join_18 : decode cX6_join 18 = .ok (.aload_n 0, 1) := by decide +kernel
theorem dX6_join_19 : decode cX6_join 19 = .ok (.iconst 0, 1) := by decide +kernel
theorem dX6_join_20 : decode cX6_join 20 = .ok (.putfield 195, 3) := by decide +kernel
theorem dX6_join_23 : decode cX6_join 23 = .ok (.aload_n 0, 1) := by decide +kernel
theorem dX6_join_24 : decode cX6_join 24 = .ok (.iconst 0, 1) := by decide +kernel
theorem dX6_join_25 : decode cX6_join 25 = .ok (.iload_n 1, 1) := by decide +kernel
theorem dX6_join_26 : decode cX6_join 26 = .ok (.iload_n 2, 1) := by decide +kernel
theorem dX6_join_27 : decode cX6_join 27 = .ok (.aload_n 0, 1) := by decide +kernel
theorem dX6_join_28 : decode cX6_join 28 = .ok (.getfield 195, 3) := by decide +kernel
theorem dX6_join_31 : decode cX6_join 31 = .ok (.invokevirtual 156, 3) := by decide +kernel
theorem dX6_join_34 : decode cX6_join 34 = .ok (.ifCond .ne 16, 3) := by decide +kernel
theorem dX6_join_37 : decode cX6_join 37 = .ok (.aload_n 0, 1) := by decide +kernel
theorem dX6_join_38 : decode cX6_join 38 = .ok (.dup, 1) := by decide +kernel
theorem dX6_join_39 : decode cX6_join 39 = .ok (.getfield 195, 3) := by decide +kernel
theorem dX6_join_42 : decode cX6_join 42 = .ok (.iconst 1, 1) := by decide +kernel
theorem dX6_join_43 : decode cX6_join 43 = .ok (.iadd, 1) := by decide +kernel
theorem dX6_join_44 : decode cX6_join 44 = .ok (.putfield 195, 3) := by decide +kernel
theorem dX6_join_47 : decode cX6_join 47 = .ok (.goto (-24), 3) := by decide +kernel
theorem dX6_join_50 : decode cX6_join 50 = .ok (.aload_n 0, 1) := by decide +kernel
theorem dX6_join_51 : decode cX6_join 51 = .ok (.getfield 195, 3) := by decide +kernel
theorem dX6_join_54 : decode cX6_join 54 = .ok (.ireturn, 1) := by decide +kernel
def rmX6_join : Room := { frames := 4, cells := 0, slots := 0, locals := 98 }
def fX6_join_16 (M : xm) : Option (Int32 × xm) := (some ((-1), M))
def fX6_join_23 (x1 : Int32) (x2 : Int32) : Nat → xm → Option (Int32 × xm)
  | 0, _ => none
  | n + 1, M => (fX6_passes 0 x1 x2 (M.1 60 15) M).bind (fun q1 => (if q1.1 = 0 then xl (up q1.2 60 15 ((q1.2.1 60 15) + 1)) (fun M2 => (fX6_join_23 x1 x2 n M2)) else (some ((q1.2.1 60 15), q1.2))))
def fX6_join (x1 : Int32) (x2 : Int32) (M : xm) : Option (Int32 × xm) := (fX6_isParish x1 M).bind (fun v3 => (if v3 = 0 then (fX6_join_16 M) else (fX6_isBill x2 M).bind (fun v4 => (if v4 = 0 then (fX6_join_16 M) else xl (up M 60 15 0) (fun M5 => (fX6_join_23 x1 x2 xfuel M5))))))
section
variable {p : Program} {l : Launch} {e : Env} {s : State} {m : MethodId} {args : Array Value} {below : List Frame} {meth : Method} {c : Code} {D : va_G} {cs : Nat → ClassId} {S : List Nat} {ad : Nat → Nat}
theorem bX6_join_16 (Z : CX p s m args meth c cX6_join 3 RX6 (some .int) D cs (xA S ad) S ad) (hS : xalm S) (M : xm) : XJ p l e rmX6_join s m args below meth c D cs (xA S ad) S ad 3 (XRb below args s D cs S ad) 16 [] [] M (fX6_join_16 M) := by
  unfold fX6_join_16
  refine xj_iconst Z (-1) dX6_join_16 (by decide) ?_
  exact xj_ret_b Z dX6_join_17
theorem bX6_join_23 (Z : CX p s m args meth c cX6_join 3 RX6 (some .int) D cs (xA S ad) S ad) (hS : xalm S) (x1 : Int32) (x2 : Int32) : ∀ (n : Nat) (M : xm), XJ p l e rmX6_join s m args below meth c D cs (xA S ad) S ad 3 (XRb below args s D cs S ad) 23 [(0, .ref (ad 60)), (1, .int x1), (2, .int x2)] [] M (fX6_join_23 x1 x2 n M) := by
  intro n
  induction n with
  | zero => intros; exact xj_none
  | succ n ih =>
    intro M
    rw [fX6_join_23]
    refine xj_aload_n Z 0 dX6_join_23 rfl rfl ?_
    refine xj_iconst Z 0 dX6_join_24 (by decide) ?_
    refine xj_iload_n Z 1 dX6_join_25 rfl rfl ?_
    refine xj_iload_n Z 2 dX6_join_26 rfl rfl ?_
    refine xj_aload_n Z 0 dX6_join_27 rfl rfl ?_
    refine xg_X6_195 Z (hS 60 (by decide) (by decide)) dX6_join_28 ?_
    refine xj_callVb Z (As := [.int 0, .int x1, .int x2, .int (M.1 60 15)]) (kX6_passes l D cs S ad Z.2.2.2.2.2.1.dist hS 0 x1 x2 (M.1 60 15) M) gw_X6_156 (hS 60 (by decide) (by decide)) rfl rfl (n := 4) (by decide +kernel) rfl ⟨rfl, rfl⟩ (by decide) rfl (Nat.le_of_ble_eq_true rfl) dX6_join_31 (fun q1 => ?_)
    refine xj_if_ne Z 50 dX6_join_34 (by decide) (fun _ => ?_) (fun _ => ?_)
    · refine xj_aload_n Z 0 dX6_join_50 rfl rfl ?_
      refine xg_X6_195 Z (hS 60 (by decide) (by decide)) dX6_join_51 ?_
      exact xj_ret_b Z dX6_join_54
    · refine xj_aload_n Z 0 dX6_join_37 rfl rfl ?_
      refine xj_dup Z dX6_join_38 rfl ?_
      refine xg_X6_195 Z (hS 60 (by decide) (by decide)) dX6_join_39 ?_
      refine xj_iconst Z 1 dX6_join_42 (by decide) ?_
      refine xj_iadd Z dX6_join_43 ?_
      refine xp_X6_195 Z (hS 60 (by decide) (by decide)) dX6_join_44 (fun M2 _ => ?_)
      refine xj_goto Z 23 dX6_join_47 (by decide) ?_
      exact ih M2
end
theorem kX6_join (l : Launch) (D : va_G) (cs : Nat → ClassId) (S : List Nat) (ad : Nat → Nat) (hd : xdist S ad) (hS : xalm S) (x1 : Int32) (x2 : Int32) (M : xm) : ∀ r, fX6_join x1 x2 M = some r → Met l yX6_join [Cond.code yX6_join cX6_join 3 (some .int)] rmX6_join (XPc D cs S ad [.ref (ad 60), .int x1, .int x2] M) (XQi D cs S ad r.1 r.2) 0 0 (xA S ad) := by
  refine xm_b (own := RX6) (lv := [(0, .ref (ad 60)), (1, .int x1), (2, .int x2)]) (by decide +kernel) rfl rfl (Nat.le_of_ble_eq_true rfl) hd (fun p e s m args below meth c Z => ?_)
  unfold fX6_join
  refine xj_aload_n Z 0 dX6_join_0 rfl rfl ?_
  refine xj_iload_n Z 1 dX6_join_1 rfl rfl ?_
  refine xj_callVr Z (As := [.int x1]) (kX6_isParish l D cs S ad Z.2.2.2.2.2.1.dist hS x1 M) gw_X6_109 (hS 60 (by decide) (by decide)) rfl rfl (n := 1) (by decide +kernel) rfl ⟨rfl, rfl⟩ (by decide) rfl (Nat.le_of_ble_eq_true rfl) dX6_join_2 (fun v3 => ?_)
  refine xj_if_eq Z 16 dX6_join_5 (by decide) (fun _ => ?_) (fun _ => ?_)
  · refine xj_sub [] (lv' := []) rfl ?_
    exact bX6_join_16 Z hS M
  · refine xj_aload_n Z 0 dX6_join_8 rfl rfl ?_
    refine xj_iload_n Z 2 dX6_join_9 rfl rfl ?_
    refine xj_callVr Z (As := [.int x2]) (kX6_isBill l D cs S ad Z.2.2.2.2.2.1.dist hS x2 M) gw_X6_153 (hS 60 (by decide) (by decide)) rfl rfl (n := 1) (by decide +kernel) rfl ⟨rfl, rfl⟩ (by decide) rfl (Nat.le_of_ble_eq_true rfl) dX6_join_10 (fun v4 => ?_)
    refine xj_if_ne Z 18 dX6_join_13 (by decide) (fun _ => ?_) (fun _ => ?_)
    · refine xj_aload_n Z 0 dX6_join_18 rfl rfl ?_
      refine xj_iconst Z 0 dX6_join_19 (by decide) ?_
      refine xp_X6_195 Z (hS 60 (by decide) (by decide)) dX6_join_20 (fun M5 _ => ?_)
      exact bX6_join_23 Z hS x1 x2 xfuel M5
    · refine xj_sub [] (lv' := []) rfl ?_
      exact bX6_join_16 Z hS M
/-! WalkingLawModel.diary(III)I -/
theorem dX6_diary_0 : decode cX6_diary 0 = .ok (.aload_n 0, 1) := by decide +kernel
theorem dX6_diary_1 : decode cX6_diary 1 = .ok (.iload_n 1, 1) := by decide +kernel
theorem dX6_diary_2 : decode cX6_diary 2 = .ok (.invokevirtual 118, 3) := by decide +kernel
theorem dX6_diary_5 : decode cX6_diary 5 = .ok (.ifCond .eq 18, 3) := by decide +kernel
theorem dX6_diary_8 : decode cX6_diary 8 = .ok (.aload_n 0, 1) := by decide +kernel
theorem dX6_diary_9 : decode cX6_diary 9 = .ok (.iload_n 2, 1) := by decide +kernel
theorem dX6_diary_10 : decode cX6_diary 10 = .ok (.invokevirtual 109, 3) := by decide +kernel
theorem dX6_diary_13 : decode cX6_diary 13 = .ok (.ifCond .eq 10, 3) := by decide +kernel
theorem dX6_diary_16 : decode cX6_diary 16 = .ok (.iload_n 3, 1) := by decide +kernel
theorem dX6_diary_17 : decode cX6_diary 17 = .ok (.invokestatic 172, 3) := by decide +kernel
theorem dX6_diary_20 : decode cX6_diary 20 = .ok (.ifCond .ne 5, 3) := by decide +kernel
theorem dX6_diary_23 : decode cX6_diary 23 = .ok (.iconst (-1), 1) := by decide +kernel
theorem dX6_diary_24 : decode cX6_diary 24 = .ok (.ireturn, 1) := by decide +kernel
theorem dX6_diary_25 : decode cX6_diary 25 = .ok (.aload_n 0, 1) := by decide +kernel
theorem dX6_diary_26 : decode cX6_diary 26 = .ok (.getfield 89, 3) := by decide +kernel
theorem dX6_diary_29 : decode cX6_diary 29 = .ok (.bipush 10, 2) := by decide +kernel
theorem dX6_diary_31 : decode cX6_diary 31 = .ok (.if_icmp .ne 6, 3) := by decide +kernel
theorem dX6_diary_34 : decode cX6_diary 34 = .ok (.bipush (-3), 2) := by decide +kernel
theorem dX6_diary_36 : decode cX6_diary 36 = .ok (.ireturn, 1) := by decide +kernel
theorem dX6_diary_37 : decode cX6_diary 37 = .ok (.aload_n 0, 1) := by decide +kernel
theorem dX6_diary_38 : decode cX6_diary 38 = .ok (.getfield 32, 3) := by decide +kernel
theorem dX6_diary_41 : decode cX6_diary 41 = .ok (.iconst 3, 1) := by decide +kernel
theorem dX6_diary_42 : decode cX6_diary 42 = .ok (.aload_n 0, 1) := by decide +kernel
theorem dX6_diary_43 : decode cX6_diary 43 = .ok (.getfield 89, 3) := by decide +kernel
theorem dX6_diary_46 : decode cX6_diary 46 = .ok (.imul, 1) := by decide +kernel
theorem dX6_diary_47 : decode cX6_diary 47 = .ok (.iload_n 1, 1) := by decide +kernel
theorem dX6_diary_48 : decode cX6_diary 48 = .ok (.iastore, 1) := by decide +kernel
theorem dX6_diary_49 : decode cX6_diary 49 = .ok (.aload_n 0, 1) := by decide +kernel
theorem dX6_diary_50 : decode cX6_diary 50 = .ok (.getfield 32, 3) := by decide +kernel
theorem dX6_diary_53 : decode cX6_diary 53 = .ok (.iconst 3, 1) := by decide +kernel
theorem dX6_diary_54 : decode cX6_diary 54 = .ok (.aload_n 0, 1) := by decide +kernel
theorem dX6_diary_55 : decode cX6_diary 55 = .ok (.getfield 89, 3) := by decide +kernel
theorem dX6_diary_58 : decode cX6_diary 58 = .ok (.imul, 1) := by decide +kernel
theorem dX6_diary_59 : decode cX6_diary 59 = .ok (.iconst 1, 1) := by decide +kernel
theorem dX6_diary_60 : decode cX6_diary 60 = .ok (.iadd, 1) := by decide +kernel
theorem dX6_diary_61 : decode cX6_diary 61 = .ok (.iload_n 2, 1) := by decide +kernel
theorem dX6_diary_62 : decode cX6_diary 62 = .ok (.iastore, 1) := by decide +kernel
theorem dX6_diary_63 : decode cX6_diary 63 = .ok (.aload_n 0, 1) := by decide +kernel
theorem dX6_diary_64 : decode cX6_diary 64 = .ok (.getfield 32, 3) := by decide +kernel
theorem dX6_diary_67 : decode cX6_diary 67 = .ok (.iconst 3, 1) := by decide +kernel
theorem dX6_diary_68 : decode cX6_diary 68 = .ok (.aload_n 0, 1) := by decide +kernel
theorem dX6_diary_69 : decode cX6_diary 69 = .ok (.getfield 89, 3) := by decide +kernel
theorem dX6_diary_72 : decode cX6_diary 72 = .ok (.imul, 1) := by decide +kernel
theorem dX6_diary_73 : decode cX6_diary 73 = .ok (.iconst 2, 1) := by decide +kernel
theorem dX6_diary_74 : decode cX6_diary 74 = .ok (.iadd, 1) := by decide +kernel
theorem dX6_diary_75 : decode cX6_diary 75 = .ok (.iload_n 3, 1) := by decide +kernel
theorem dX6_diary_76 : decode cX6_diary 76 = .ok (.iastore, 1) := by decide +kernel
theorem dX6_diary_77 : decode cX6_diary 77 = .ok (.aload_n 0, 1) := by decide +kernel
theorem dX6_diary_78 : decode cX6_diary 78 = .ok (.dup, 1) := by decide +kernel
theorem dX6_diary_79 : decode cX6_diary 79 = .ok (.getfield 89, 3) := by decide +kernel
theorem dX6_diary_82 : decode cX6_diary 82 = .ok (.iconst 1, 1) := by decide +kernel
theorem dX6_diary_83 : decode cX6_diary 83 = .ok (.iadd, 1) := by decide +kernel
theorem dX6_diary_84 : decode cX6_diary 84 = .ok (.putfield 89, 3) := by decide +kernel
theorem dX6_diary_87 : decode cX6_diary 87 = .ok (.aload_n 0, 1) := by decide +kernel
theorem dX6_diary_88 : decode cX6_diary 88 = .ok (.getfield 89, 3) := by decide +kernel
theorem dX6_diary_91 : decode cX6_diary 91 = .ok (.ireturn, 1) := by decide +kernel
def rmX6_diary : Room := { frames := 2, cells := 0, slots := 0, locals := 46 }
def fX6_diary_23 (M : xm) : Option (Int32 × xm) := (some ((-1), M))
def fX6_diary (x1 : Int32) (x2 : Int32) (x3 : Int32) (M : xm) : Option (Int32 × xm) := (fX6_isMember x1 M).bind (fun v1 => (if v1 = 0 then (fX6_diary_23 M) else (fX6_isParish x2 M).bind (fun v2 => (if v2 = 0 then (fX6_diary_23 M) else (fX6_isAhead x3 M).bind (fun v3 => (if v3 = 0 then (fX6_diary_23 M) else (if (M.1 60 10) = 10 then (some ((-3), M)) else xchk (3 * (M.1 60 10)) 30 (xl (up M 68 ((3 * (M.1 60 10)) : Int32).toNatClampNeg x1) (fun M4 => xchk ((3 * (M4.1 60 10)) + 1) 30 (xl (up M4 68 (((3 * (M4.1 60 10)) + 1) : Int32).toNatClampNeg x2) (fun M5 => xchk ((3 * (M5.1 60 10)) + 2) 30 (xl (up M5 68 (((3 * (M5.1 60 10)) + 2) : Int32).toNatClampNeg x3) (fun M6 => xl (up M6 60 10 ((M6.1 60 10) + 1)) (fun M7 => (some ((M7.1 60 10), M7))))))))))))))))
section
variable {p : Program} {l : Launch} {e : Env} {s : State} {m : MethodId} {args : Array Value} {below : List Frame} {meth : Method} {c : Code} {D : va_G} {cs : Nat → ClassId} {S : List Nat} {ad : Nat → Nat}
theorem bX6_diary_23 (Z : CX p s m args meth c cX6_diary 4 RX6 (some .int) D cs (xA S ad) S ad) (hS : xalm S) (M : xm) : XJ p l e rmX6_diary s m args below meth c D cs (xA S ad) S ad 4 (XRb below args s D cs S ad) 23 [] [] M (fX6_diary_23 M) := by
  unfold fX6_diary_23
  refine xj_iconst Z (-1) dX6_diary_23 (by decide) ?_
  exact xj_ret_b Z dX6_diary_24
end
theorem kX6_diary (l : Launch) (D : va_G) (cs : Nat → ClassId) (S : List Nat) (ad : Nat → Nat) (hd : xdist S ad) (hS : xalm S) (x1 : Int32) (x2 : Int32) (x3 : Int32) (M : xm) : ∀ r, fX6_diary x1 x2 x3 M = some r → Met l yX6_diary [Cond.code yX6_diary cX6_diary 4 (some .int)] rmX6_diary (XPc D cs S ad [.ref (ad 60), .int x1, .int x2, .int x3] M) (XQi D cs S ad r.1 r.2) 0 0 (xA S ad) := by
  refine xm_b (own := RX6) (lv := [(0, .ref (ad 60)), (1, .int x1), (2, .int x2), (3, .int x3)]) (by decide +kernel) rfl rfl (Nat.le_of_ble_eq_true rfl) hd (fun p e s m args below meth c Z => ?_)
  unfold fX6_diary
  refine xj_aload_n Z 0 dX6_diary_0 rfl rfl ?_
  refine xj_iload_n Z 1 dX6_diary_1 rfl rfl ?_
  refine xj_callVr Z (As := [.int x1]) (kX6_isMember l D cs S ad Z.2.2.2.2.2.1.dist hS x1 M) gw_X6_118 (hS 60 (by decide) (by decide)) rfl rfl (n := 1) (by decide +kernel) rfl ⟨rfl, rfl⟩ (by decide) rfl (Nat.le_of_ble_eq_true rfl) dX6_diary_2 (fun v1 => ?_)
  refine xj_if_eq Z 23 dX6_diary_5 (by decide) (fun _ => ?_) (fun _ => ?_)
  · refine xj_sub [] (lv' := []) rfl ?_
    exact bX6_diary_23 Z hS M
  · refine xj_aload_n Z 0 dX6_diary_8 rfl rfl ?_
    refine xj_iload_n Z 2 dX6_diary_9 rfl rfl ?_
    refine xj_callVr Z (As := [.int x2]) (kX6_isParish l D cs S ad Z.2.2.2.2.2.1.dist hS x2 M) gw_X6_109 (hS 60 (by decide) (by decide)) rfl rfl (n := 1) (by decide +kernel) rfl ⟨rfl, rfl⟩ (by decide) rfl (Nat.le_of_ble_eq_true rfl) dX6_diary_10 (fun v2 => ?_)
    refine xj_if_eq Z 23 dX6_diary_13 (by decide) (fun _ => ?_) (fun _ => ?_)
    · refine xj_sub [] (lv' := []) rfl ?_
      exact bX6_diary_23 Z hS M
    · refine xj_iload_n Z 3 dX6_diary_16 rfl rfl ?_
      refine xj_callSr Z (As := [.int x3]) (kX6_isAhead l D cs S ad Z.2.2.2.2.2.1.dist x3 M) gw_X6_172 (n := 1) (by decide +kernel) rfl ⟨rfl, rfl⟩ (by decide) rfl (Nat.le_of_ble_eq_true rfl) dX6_diary_17 (fun v3 => ?_)
      refine xj_if_ne Z 25 dX6_diary_20 (by decide) (fun _ => ?_) (fun _ => ?_)
      · refine xj_aload_n Z 0 dX6_diary_25 rfl rfl ?_
        refine xg_X6_89 Z (hS 60 (by decide) (by decide)) dX6_diary_26 ?_
        refine xj_bipush Z 10 dX6_diary_29 (by decide) ?_
        refine xj_icmp_ne Z 37 dX6_diary_31 (by decide) (fun _ => ?_) (fun _ => ?_)
        · refine xj_aload_n Z 0 dX6_diary_37 rfl rfl ?_
          refine xg_X6_32 Z (hS 60 (by decide) (by decide)) dX6_diary_38 ?_
          refine xj_iconst Z 3 dX6_diary_41 (by decide) ?_
          refine xj_aload_n Z 0 dX6_diary_42 rfl rfl ?_
          refine xg_X6_89 Z (hS 60 (by decide) (by decide)) dX6_diary_43 ?_
          refine xj_imul Z dX6_diary_46 ?_
          refine xj_iload_n Z 1 dX6_diary_47 rfl rfl ?_
          refine xj_iast Z (hS 68 (by decide) (by decide)) rfl dX6_diary_48 (fun M4 _ => ?_)
          refine xj_aload_n Z 0 dX6_diary_49 rfl rfl ?_
          refine xg_X6_32 Z (hS 60 (by decide) (by decide)) dX6_diary_50 ?_
          refine xj_iconst Z 3 dX6_diary_53 (by decide) ?_
          refine xj_aload_n Z 0 dX6_diary_54 rfl rfl ?_
          refine xg_X6_89 Z (hS 60 (by decide) (by decide)) dX6_diary_55 ?_
          refine xj_imul Z dX6_diary_58 ?_
          refine xj_iconst Z 1 dX6_diary_59 (by decide) ?_
          refine xj_iadd Z dX6_diary_60 ?_
          refine xj_iload_n Z 2 dX6_diary_61 rfl rfl ?_
          refine xj_iast Z (hS 68 (by decide) (by decide)) rfl dX6_diary_62 (fun M5 _ => ?_)
          refine xj_aload_n Z 0 dX6_diary_63 rfl rfl ?_
          refine xg_X6_32 Z (hS 60 (by decide) (by decide)) dX6_diary_64 ?_
          refine xj_iconst Z 3 dX6_diary_67 (by decide) ?_
          refine xj_aload_n Z 0 dX6_diary_68 rfl rfl ?_
          refine xg_X6_89 Z (hS 60 (by decide) (by decide)) dX6_diary_69 ?_
          refine xj_imul Z dX6_diary_72 ?_
          refine xj_iconst Z 2 dX6_diary_73 (by decide) ?_
          refine xj_iadd Z dX6_diary_74 ?_
          refine xj_iload_n Z 3 dX6_diary_75 rfl rfl ?_
          refine xj_iast Z (hS 68 (by decide) (by decide)) rfl dX6_diary_76 (fun M6 _ => ?_)
          refine xj_aload_n Z 0 dX6_diary_77 rfl rfl ?_
          refine xj_dup Z dX6_diary_78 rfl ?_
          refine xg_X6_89 Z (hS 60 (by decide) (by decide)) dX6_diary_79 ?_
          refine xj_iconst Z 1 dX6_diary_82 (by decide) ?_
          refine xj_iadd Z dX6_diary_83 ?_
          refine xp_X6_89 Z (hS 60 (by decide) (by decide)) dX6_diary_84 (fun M7 _ => ?_)
          refine xj_aload_n Z 0 dX6_diary_87 rfl rfl ?_
          refine xg_X6_89 Z (hS 60 (by decide) (by decide)) dX6_diary_88 ?_
          exact xj_ret_b Z dX6_diary_91
        · refine xj_bipush Z (-3) dX6_diary_34 (by decide) ?_
          exact xj_ret_b Z dX6_diary_36
      · refine xj_sub [] (lv' := []) rfl ?_
        exact bX6_diary_23 Z hS M
/-! WalkingLawModel.noDiary()I -/
theorem dX6_noDiary_0 : decode cX6_noDiary 0 = .ok (.aload_n 0, 1) := by decide +kernel
theorem dX6_noDiary_1 : decode cX6_noDiary 1 = .ok (.getfield 89, 3) := by decide +kernel
theorem dX6_noDiary_4 : decode cX6_noDiary 4 = .ok (.istore_n 1, 1) := by decide +kernel
theorem dX6_noDiary_5 : decode cX6_noDiary 5 = .ok (.aload_n 0, 1) := by decide +kernel
theorem dX6_noDiary_6 : decode cX6_noDiary 6 = .ok (.iconst 0, 1) := by decide +kernel
theorem dX6_noDiary_7 : decode cX6_noDiary 7 = .ok (.putfield 89, 3) := by decide +kernel
theorem dX6_noDiary_10 : decode cX6_noDiary 10 = .ok (.iload_n 1, 1) := by decide +kernel
theorem dX6_noDiary_11 : decode cX6_noDiary 11 = .ok (.ireturn, 1) := by decide +kernel
def rmX6_noDiary : Room := { frames := 0, cells := 0, slots := 0, locals := 0 }
def fX6_noDiary (M : xm) : Option (Int32 × xm) := xl (M.1 60 10) (fun v1 => xl (up M 60 10 0) (fun M2 => (some (v1, M2))))
section
variable {p : Program} {l : Launch} {e : Env} {s : State} {m : MethodId} {args : Array Value} {below : List Frame} {meth : Method} {c : Code} {D : va_G} {cs : Nat → ClassId} {S : List Nat} {ad : Nat → Nat}
end
theorem kX6_noDiary (l : Launch) (D : va_G) (cs : Nat → ClassId) (S : List Nat) (ad : Nat → Nat) (hd : xdist S ad) (hS : xalm S) (M : xm) : ∀ r, fX6_noDiary M = some r → Met l yX6_noDiary [Cond.code yX6_noDiary cX6_noDiary 2 (some .int)] rmX6_noDiary (XPc D cs S ad [.ref (ad 60)] M) (XQi D cs S ad r.1 r.2) 0 0 (xA S ad) := by
  refine xm_b (own := RX6) (lv := [(0, .ref (ad 60))]) (by decide +kernel) rfl rfl (Nat.le_of_ble_eq_true rfl) hd (fun p e s m args below meth c Z => ?_)
  unfold fX6_noDiary
  refine xj_aload_n Z 0 dX6_noDiary_0 rfl rfl ?_
  refine xg_X6_89 Z (hS 60 (by decide) (by decide)) dX6_noDiary_1 ?_
  refine xj_top (fun v1 => ?_)
  refine xj_istore_n Z (lv' := [(1, .int v1), (0, .ref (ad 60))]) dX6_noDiary_4 rfl (by decide) rfl ?_
  refine xj_aload_n Z 1 dX6_noDiary_5 rfl rfl ?_
  refine xj_iconst Z 0 dX6_noDiary_6 (by decide) ?_
  refine xp_X6_89 Z (hS 60 (by decide) (by decide)) dX6_noDiary_7 (fun M2 _ => ?_)
  refine xj_iload_n Z 0 dX6_noDiary_10 rfl rfl ?_
  exact xj_ret_b Z dX6_noDiary_11
/-! WalkingLawModel.goes()V -/
theorem dX6_goes_0 : decode cX6_goes 0 = .ok (.aload_n 0, 1) := by decide +kernel
theorem dX6_goes_1 : decode cX6_goes 1 = .ok (.iconst 3, 1) := by decide +kernel
theorem dX6_goes_2 : decode cX6_goes 2 = .ok (.invokevirtual 85, 3) := by decide +kernel
theorem dX6_goes_5 : decode cX6_goes 5 = .ok (.iconst 0, 1) := by decide +kernel
theorem dX6_goes_6 : decode cX6_goes 6 = .ok (.istore_n 1, 1) := by decide +kernel
theorem dX6_goes_7 : decode cX6_goes 7 = .ok (.iload_n 1, 1) := by decide +kernel
theorem dX6_goes_8 : decode cX6_goes 8 = .ok (.sipush 420, 3) := by decide +kernel
theorem dX6_goes_11 : decode cX6_goes 11 = .ok (.if_icmp .gt 80, 3) := by decide +kernel
theorem dX6_goes_14 : decode cX6_goes 14 = .ok (.iconst 0, 1) := by decide +kernel
theorem dX6_goes_15 : decode cX6_goes 15 = .ok (.istore_n 2, 1) := by decide +kernel
theorem dX6_goes_16 : decode cX6_goes 16 = .ok (.iload_n 2, 1) := by decide +kernel
theorem dX6_goes_17 : decode cX6_goes 17 = .ok (.aload_n 0, 1) := by decide +kernel
theorem dX6_goes_18 : decode cX6_goes 18 = .ok (.getfield 89, 3) := by decide +kernel
theorem dX6_goes_21 : decode cX6_goes 21 = .ok (.if_icmp .ge 58, 3) := by decide +kernel
theorem dX6_goes_24 : decode cX6_goes 24 = .ok (.aload_n 0, 1) := by decide +kernel
theorem dX6_goes_25 : decode cX6_goes 25 = .ok (.getfield 35, 3) := by decide +kernel
theorem dX6_goes_28 : decode cX6_goes 28 = .ok (.bipush 10, 2) := by decide +kernel
theorem dX6_goes_30 : decode cX6_goes 30 = .ok (.iload_n 1, 1) := by decide +kernel
theorem dX6_goes_31 : decode cX6_goes 31 = .ok (.imul, 1) := by decide +kernel
theorem dX6_goes_32 : decode cX6_goes 32 = .ok (.iload_n 2, 1) := by decide +kernel
theorem dX6_goes_33 : decode cX6_goes 33 = .ok (.iadd, 1) := by decide +kernel
theorem dX6_goes_34 : decode cX6_goes 34 = .ok (.aload_n 0, 1) := by decide +kernel
theorem dX6_goes_35 : decode cX6_goes 35 = .ok (.aload_n 0, 1) := by decide +kernel
theorem dX6_goes_36 : decode cX6_goes 36 = .ok (.getfield 29, 3) := by decide +kernel
theorem dX6_goes_39 : decode cX6_goes 39 = .ok (.bipush 75, 2) := by decide +kernel
theorem dX6_goes_41 : decode cX6_goes 41 = .ok (.aload_n 0, 1) := by decide +kernel
theorem dX6_goes_42 : decode cX6_goes 42 = .ok (.getfield 32, 3) := by decide +kernel
theorem dX6_goes_45 : decode cX6_goes 45 = .ok (.iconst 3, 1) := by decide +kernel
theorem dX6_goes_46 : decode cX6_goes 46 = .ok (.iload_n 2, 1) := by decide +kernel
theorem dX6_goes_47 : decode cX6_goes 47 = .ok (.imul, 1) := by decide +kernel
theorem dX6_goes_48 : decode cX6_goes 48 = .ok (.iaload, 1) := by decide +kernel
theorem dX6_goes_49 : decode cX6_goes 49 = .ok (.iadd, 1) := by decide +kernel
theorem dX6_goes_50 : decode cX6_goes 50 = .ok (.iaload, 1) := by decide +kernel
theorem dX6_goes_51 : decode cX6_goes 51 = .ok (.invokevirtual 106, 3) := by decide +kernel
theorem dX6_goes_54 : decode cX6_goes 54 = .ok (.aload_n 0, 1) := by decide +kernel
theorem dX6_goes_55 : decode cX6_goes 55 = .ok (.getfield 32, 3) := by decide +kernel
theorem dX6_goes_58 : decode cX6_goes 58 = .ok (.iconst 3, 1) := by decide +kernel
theorem dX6_goes_59 : decode cX6_goes 59 = .ok (.iload_n 2, 1) := by decide +kernel
theorem dX6_goes_60 : decode cX6_goes 60 = .ok (.imul, 1) := by decide +kernel
theorem dX6_goes_61 : decode cX6_goes 61 = .ok (.iconst 1, 1) := by decide +kernel
theorem dX6_goes_62 : decode cX6_goes 62 = .ok (.iadd, 1) := by decide +kernel
theorem dX6_goes_63 : decode cX6_goes 63 = .ok (.iaload, 1) := by decide +kernel
theorem dX6_goes_64 : decode cX6_goes 64 = .ok (.if_icmp .ne 7, 3) := by decide +kernel
theorem dX6_goes_67 : decode cX6_goes 67 = .ok (.iconst 1, 1) := by decide +kernel
theorem dX6_goes_68 : decode cX6_goes 68 = .ok (.goto 4, 3) := by decide +kernel
theorem dX6_goes_71 : decode cX6_goes 71 = .ok (.iconst 0, 1) := by decide +kernel
theorem dX6_goes_72 : decode cX6_goes 72 = .ok (.bastore, 1) := by decide +kernel
theorem dX6_goes_73 : decode cX6_goes 73 = .ok (.iinc 2 1, 3) := by decide +kernel
theorem dX6_goes_76 : decode cX6_goes 76 = .ok (.goto (-60), 3) := by decide +kernel
theorem dX6_goes_79 : decode cX6_goes 79 = .ok (.aload_n 0, 1) := by decide +kernel
theorem dX6_goes_80 : decode cX6_goes 80 = .ok (.iconst 3, 1) := by decide +kernel
theorem dX6_goes_81 : decode cX6_goes 81 = .ok (.iconst (-1), 1) := by decide +kernel
theorem dX6_goes_82 : decode cX6_goes 82 = .ok (.invokevirtual 140, 3) := by decide +kernel
theorem dX6_goes_85 : decode cX6_goes 85 = .ok (.iinc 1 1, 3) := by decide +kernel
theorem dX6_goes_88 : decode cX6_goes 88 = .ok (.goto (-81), 3) := by decide +kernel
theorem dX6_goes_91 : decode cX6_goes 91 = .ok (.return_, 1) := by decide +kernel
def rmX6_goes : Room := { frames := 5, cells := 0, slots := 0, locals := 122 }
def fX6_goes_72 (k7 : Int32 → xm → Option (xm)) (k16 : Int32 → xm → Option (xm)) (x1 : Int32) (x2 : Int32) (t1 : Int32) (t2 : Int32) (M : xm) : Option (xm) := xchk t1 4210 (xl (up M 69 (t1 : Int32).toNatClampNeg (vp_nar .boolean t2)) (fun M1 => (k16 (x2 + 1) M1)))
def fX6_goes_16 (k7 : Int32 → xm → Option (xm)) (x1 : Int32) : Nat → Int32 → xm → Option (xm)
  | 0, _, _ => none
  | n + 1, x2, M => (if (M.1 60 10) ≤ x2 then (fX6_hour 3 (-1) M).bind (fun M2 => (k7 (x1 + 1) M2)) else xchk (3 * x2) 30 (xchk (75 + (M.1 68 ((3 * x2)).toNatClampNeg)) 100 ((fX6_parishOf (M.1 67 ((75 + (M.1 68 ((3 * x2)).toNatClampNeg))).toNatClampNeg) M).bind (fun v3 => xchk ((3 * x2) + 1) 30 ((if v3 = (M.1 68 (((3 * x2) + 1)).toNatClampNeg) then (fX6_goes_72 (k7) (fun z0 z1 => fX6_goes_16 k7 x1 n z0 z1) x1 x2 ((10 * x1) + x2) 1 M) else (fX6_goes_72 (k7) (fun z0 z1 => fX6_goes_16 k7 x1 n z0 z1) x1 x2 ((10 * x1) + x2) 0 M)))))))
def fX6_goes_7 : Nat → Int32 → xm → Option (xm)
  | 0, _, _ => none
  | n + 1, x1, M => (if (420 : Int32) < x1 then (some M) else (fX6_goes_16 (fun z0 z1 => fX6_goes_7 n z0 z1) x1 xfuel 0 M))
def fX6_goes (M : xm) : Option (xm) := (fX6_laid 3 M).bind (fun M4 => (fX6_goes_7 xfuel 0 M4))
section
variable {p : Program} {l : Launch} {e : Env} {s : State} {m : MethodId} {args : Array Value} {below : List Frame} {meth : Method} {c : Code} {D : va_G} {cs : Nat → ClassId} {S : List Nat} {ad : Nat → Nat}
theorem bX6_goes_72 (Z : CX p s m args meth c cX6_goes 3 RX6 none D cs (xA S ad) S ad) (hS : xalm S) {k7 : Int32 → xm → Option (xm)} {k16 : Int32 → xm → Option (xm)} (x1 : Int32) (x2 : Int32) (t1 : Int32) (t2 : Int32) (M : xm) (hk7 : ∀ (x1 : Int32) (M : xm), XJ p l e rmX6_goes s m args below meth c D cs (xA S ad) S ad 3 (XRm below args s D cs S ad) 7 [(0, .ref (ad 60)), (1, .int x1)] [] M (k7 x1 M)) (hk16 : ∀ (x2 : Int32) (M : xm), XJ p l e rmX6_goes s m args below meth c D cs (xA S ad) S ad 3 (XRm below args s D cs S ad) 16 [(0, .ref (ad 60)), (1, .int x1), (2, .int x2)] [] M (k16 x2 M)) : XJ p l e rmX6_goes s m args below meth c D cs (xA S ad) S ad 3 (XRm below args s D cs S ad) 72 [(0, .ref (ad 60)), (1, .int x1), (2, .int x2)] [.int t2, .int t1, .ref (ad 69)] M (fX6_goes_72 k7 k16 x1 x2 t1 t2 M) := by
  unfold fX6_goes_72
  refine xj_zast Z (hS 69 (by decide) (by decide)) rfl dX6_goes_72 (fun M1 _ => ?_)
  refine xj_iinc Z 2 (x2 + 1) (lv' := [(2, .int (x2 + 1)), (0, .ref (ad 60)), (1, .int x1)]) dX6_goes_73 rfl rfl (by decide) rfl ?_
  refine xj_goto Z 16 dX6_goes_76 (by decide) ?_
  refine xj_sub [1, 2, 0] (lv' := [(0, .ref (ad 60)), (1, .int x1), (2, .int (x2 + 1))]) rfl ?_
  exact hk16 (x2 + 1) M1
theorem bX6_goes_16 (Z : CX p s m args meth c cX6_goes 3 RX6 none D cs (xA S ad) S ad) (hS : xalm S) {k7 : Int32 → xm → Option (xm)} (x1 : Int32) (hk7 : ∀ (x1 : Int32) (M : xm), XJ p l e rmX6_goes s m args below meth c D cs (xA S ad) S ad 3 (XRm below args s D cs S ad) 7 [(0, .ref (ad 60)), (1, .int x1)] [] M (k7 x1 M)) : ∀ (n : Nat) (x2 : Int32) (M : xm), XJ p l e rmX6_goes s m args below meth c D cs (xA S ad) S ad 3 (XRm below args s D cs S ad) 16 [(0, .ref (ad 60)), (1, .int x1), (2, .int x2)] [] M (fX6_goes_16 k7 x1 n x2 M) := by
  intro n
  induction n with
  | zero => intros; exact xj_none
  | succ n ih =>
    intro x2 M
    rw [fX6_goes_16]
    refine xj_iload_n Z 2 dX6_goes_16 rfl rfl ?_
    refine xj_aload_n Z 0 dX6_goes_17 rfl rfl ?_
    refine xg_X6_89 Z (hS 60 (by decide) (by decide)) dX6_goes_18 ?_
    refine xj_icmp_ge Z 79 dX6_goes_21 (by decide) (fun _ => ?_) (fun _ => ?_)
    · refine xj_aload_n Z 0 dX6_goes_79 rfl rfl ?_
      refine xj_iconst Z 3 dX6_goes_80 (by decide) ?_
      refine xj_iconst Z (-1) dX6_goes_81 (by decide) ?_
      refine xj_callVm Z (As := [.int 3, .int (-1)]) (kX6_hour l D cs S ad Z.2.2.2.2.2.1.dist hS 3 (-1) M) gw_X6_140 (hS 60 (by decide) (by decide)) rfl rfl (n := 2) (by decide +kernel) rfl ⟨rfl, rfl⟩ (by decide) rfl (Nat.le_of_ble_eq_true rfl) dX6_goes_82 (fun M2 => ?_)
      refine xj_iinc Z 1 (x1 + 1) (lv' := [(1, .int (x1 + 1)), (0, .ref (ad 60)), (2, .int x2)]) dX6_goes_85 rfl rfl (by decide) rfl ?_
      refine xj_goto Z 7 dX6_goes_88 (by decide) ?_
      refine xj_sub [1, 0] (lv' := [(0, .ref (ad 60)), (1, .int (x1 + 1))]) rfl ?_
      exact hk7 (x1 + 1) M2
    · refine xj_aload_n Z 0 dX6_goes_24 rfl rfl ?_
      refine xg_X6_35 Z (hS 60 (by decide) (by decide)) dX6_goes_25 ?_
      refine xj_bipush Z 10 dX6_goes_28 (by decide) ?_
      refine xj_iload_n Z 1 dX6_goes_30 rfl rfl ?_
      refine xj_imul Z dX6_goes_31 ?_
      refine xj_iload_n Z 2 dX6_goes_32 rfl rfl ?_
      refine xj_iadd Z dX6_goes_33 ?_
      refine xj_aload_n Z 0 dX6_goes_34 rfl rfl ?_
      refine xj_aload_n Z 0 dX6_goes_35 rfl rfl ?_
      refine xg_X6_29 Z (hS 60 (by decide) (by decide)) dX6_goes_36 ?_
      refine xj_bipush Z 75 dX6_goes_39 (by decide) ?_
      refine xj_aload_n Z 0 dX6_goes_41 rfl rfl ?_
      refine xg_X6_32 Z (hS 60 (by decide) (by decide)) dX6_goes_42 ?_
      refine xj_iconst Z 3 dX6_goes_45 (by decide) ?_
      refine xj_iload_n Z 2 dX6_goes_46 rfl rfl ?_
      refine xj_imul Z dX6_goes_47 ?_
      refine xj_iald Z (hS 68 (by decide) (by decide)) rfl dX6_goes_48 (fun _ => ?_)
      refine xj_iadd Z dX6_goes_49 ?_
      refine xj_iald Z (hS 67 (by decide) (by decide)) rfl dX6_goes_50 (fun _ => ?_)
      refine xj_callVr Z (As := [.int (M.1 67 ((75 + (M.1 68 ((3 * x2)).toNatClampNeg))).toNatClampNeg)]) (kX6_parishOf l D cs S ad Z.2.2.2.2.2.1.dist hS (M.1 67 ((75 + (M.1 68 ((3 * x2)).toNatClampNeg))).toNatClampNeg) M) gw_X6_106 (hS 60 (by decide) (by decide)) rfl rfl (n := 1) (by decide +kernel) rfl ⟨rfl, rfl⟩ (by decide) rfl (Nat.le_of_ble_eq_true rfl) dX6_goes_51 (fun v3 => ?_)
      refine xj_aload_n Z 0 dX6_goes_54 rfl rfl ?_
      refine xg_X6_32 Z (hS 60 (by decide) (by decide)) dX6_goes_55 ?_
      refine xj_iconst Z 3 dX6_goes_58 (by decide) ?_
      refine xj_iload_n Z 2 dX6_goes_59 rfl rfl ?_
      refine xj_imul Z dX6_goes_60 ?_
      refine xj_iconst Z 1 dX6_goes_61 (by decide) ?_
      refine xj_iadd Z dX6_goes_62 ?_
      refine xj_iald Z (hS 68 (by decide) (by decide)) rfl dX6_goes_63 (fun _ => ?_)
      refine xj_icmp_ne Z 71 dX6_goes_64 (by decide) (fun _ => ?_) (fun _ => ?_)
      · refine xj_iconst Z 0 dX6_goes_71 (by decide) ?_
        exact bX6_goes_72 Z hS x1 x2 ((10 * x1) + x2) 0 M hk7 ih
      · refine xj_iconst Z 1 dX6_goes_67 (by decide) ?_
        refine xj_goto Z 72 dX6_goes_68 (by decide) ?_
        exact bX6_goes_72 Z hS x1 x2 ((10 * x1) + x2) 1 M hk7 ih
theorem bX6_goes_7 (Z : CX p s m args meth c cX6_goes 3 RX6 none D cs (xA S ad) S ad) (hS : xalm S) : ∀ (n : Nat) (x1 : Int32) (M : xm), XJ p l e rmX6_goes s m args below meth c D cs (xA S ad) S ad 3 (XRm below args s D cs S ad) 7 [(0, .ref (ad 60)), (1, .int x1)] [] M (fX6_goes_7 n x1 M) := by
  intro n
  induction n with
  | zero => intros; exact xj_none
  | succ n ih =>
    intro x1 M
    rw [fX6_goes_7]
    refine xj_iload_n Z 1 dX6_goes_7 rfl rfl ?_
    refine xj_sipush Z 420 dX6_goes_8 (by decide) ?_
    refine xj_icmp_gt Z 91 dX6_goes_11 (by decide) (fun _ => ?_) (fun _ => ?_)
    · exact xj_vret Z dX6_goes_91
    · refine xj_iconst Z 0 dX6_goes_14 (by decide) ?_
      refine xj_istore_n Z (lv' := [(2, .int 0), (0, .ref (ad 60)), (1, .int x1)]) dX6_goes_15 rfl (by decide) rfl ?_
      refine xj_sub [1, 2, 0] (lv' := [(0, .ref (ad 60)), (1, .int x1), (2, .int 0)]) rfl ?_
      exact bX6_goes_16 Z hS x1 ih xfuel 0 M
end
theorem kX6_goes (l : Launch) (D : va_G) (cs : Nat → ClassId) (S : List Nat) (ad : Nat → Nat) (hd : xdist S ad) (hS : xalm S) (M : xm) : ∀ r, fX6_goes M = some r → Met l yX6_goes [Cond.code yX6_goes cX6_goes 3 none] rmX6_goes (XPc D cs S ad [.ref (ad 60)] M) (XQv D cs S ad r) 0 0 (xA S ad) := by
  refine xm_m (own := RX6) (lv := [(0, .ref (ad 60))]) (by decide +kernel) rfl rfl (Nat.le_of_ble_eq_true rfl) hd (fun p e s m args below meth c Z => ?_)
  unfold fX6_goes
  refine xj_aload_n Z 0 dX6_goes_0 rfl rfl ?_
  refine xj_iconst Z 3 dX6_goes_1 (by decide) ?_
  refine xj_callVm Z (As := [.int 3]) (kX6_laid l D cs S ad Z.2.2.2.2.2.1.dist hS 3 M) gw_X6_85 (hS 60 (by decide) (by decide)) rfl rfl (n := 1) (by decide +kernel) rfl ⟨rfl, rfl⟩ (by decide) rfl (Nat.le_of_ble_eq_true rfl) dX6_goes_2 (fun M4 => ?_)
  refine xj_iconst Z 0 dX6_goes_5 (by decide) ?_
  refine xj_istore_n Z (lv' := [(1, .int 0), (0, .ref (ad 60))]) dX6_goes_6 rfl (by decide) rfl ?_
  refine xj_sub [1, 0] (lv' := [(0, .ref (ad 60)), (1, .int 0)]) rfl ?_
  exact bX6_goes_7 Z hS xfuel 0 M4
/-! WalkingLawModel.wrong()I -/
theorem dX6_wrong_0 : decode cX6_wrong 0 = .ok (.aload_n 0, 1) := by decide +kernel
theorem dX6_wrong_1 : decode cX6_wrong 1 = .ok (.invokevirtual 198, 3) := by decide +kernel
theorem dX6_wrong_4 : decode cX6_wrong 4 = .ok (.iconst 0, 1) := by decide +kernel
theorem dX6_wrong_5 : decode cX6_wrong 5 = .ok (.istore_n 1, 1) := by decide +kernel
theorem dX6_wrong_6 : decode cX6_wrong 6 = .ok (.iconst 0, 1) := by decide +kernel
theorem dX6_wrong_7 : decode cX6_wrong 7 = .ok (.istore_n 2, 1) := by decide +kernel
theorem dX6_wrong_8 : decode cX6_wrong 8 = .ok (.iload_n 2, 1) := by decide +kernel
theorem dX6_wrong_9 : decode cX6_wrong 9 = .ok (.aload_n 0, 1) := by decide +kernel
theorem dX6_wrong_10 : decode cX6_wrong 10 = .ok (.getfield 89, 3) := by decide +kernel
theorem dX6_wrong_13 : decode cX6_wrong 13 = .ok (.if_icmp .ge 42, 3) := by decide +kernel
theorem dX6_wrong_16 : decode cX6_wrong 16 = .ok (.iload_n 1, 1) := by decide +kernel
theorem dX6_wrong_17 : decode cX6_wrong 17 = .ok (.aload_n 0, 1) := by decide +kernel
theorem dX6_wrong_18 : decode cX6_wrong 18 = .ok (.getfield 35, 3) := by decide +kernel
theorem dX6_wrong_21 : decode cX6_wrong 21 = .ok (.bipush 10, 2) := by decide +kernel
theorem dX6_wrong_23 : decode cX6_wrong 23 = .ok (.aload_n 0, 1) := by decide +kernel
theorem dX6_wrong_24 : decode cX6_wrong 24 = .ok (.getfield 32, 3) := by decide +kernel
theorem dX6_wrong_27 : decode cX6_wrong 27 = .ok (.iconst 3, 1) := by decide +kernel
theorem dX6_wrong_28 : decode cX6_wrong 28 = .ok (.iload_n 2, 1) := by decide +kernel
theorem dX6_wrong_29 : decode cX6_wrong 29 = .ok (.imul, 1) := by decide +kernel
theorem dX6_wrong_30 : decode cX6_wrong 30 = .ok (.iconst 2, 1) := by decide +kernel
theorem dX6_wrong_31 : decode cX6_wrong 31 = .ok (.iadd, 1) := by decide +kernel
theorem dX6_wrong_32 : decode cX6_wrong 32 = .ok (.iaload, 1) := by decide +kernel
theorem dX6_wrong_33 : decode cX6_wrong 33 = .ok (.imul, 1) := by decide +kernel
theorem dX6_wrong_34 : decode cX6_wrong 34 = .ok (.iload_n 2, 1) := by decide +kernel
theorem dX6_wrong_35 : decode cX6_wrong 35 = .ok (.iadd, 1) := by decide +kernel
theorem dX6_wrong_36 : decode cX6_wrong 36 = .ok (.baload, 1) := by decide +kernel
theorem dX6_wrong_37 : decode cX6_wrong 37 = .ok (.ifCond .eq 7, 3) := by decide +kernel
theorem dX6_wrong_40 : decode cX6_wrong 40 = .ok (.iconst 0, 1) := by decide +kernel
theorem dX6_wrong_41 : decode cX6_wrong 41 = .ok (.goto 6, 3) := by decide +kernel
theorem dX6_wrong_44 : decode cX6_wrong 44 = .ok (.iconst 1, 1) := by decide +kernel
theorem dX6_wrong_45 : decode cX6_wrong 45 = .ok (.iload_n 2, 1) := by decide +kernel
theorem dX6_wrong_46 : decode cX6_wrong 46 = .ok (.ishl, 1) := by decide +kernel
theorem dX6_wrong_47 : decode cX6_wrong 47 = .ok (.ior, 1) := by decide +kernel
theorem dX6_wrong_48 : decode cX6_wrong 48 = .ok (.istore_n 1, 1) := by decide +kernel
theorem dX6_wrong_49 : decode cX6_wrong 49 = .ok (.iinc 2 1, 3) := by decide +kernel
theorem dX6_wrong_52 : decode cX6_wrong 52 = .ok (.goto (-44), 3) := by decide +kernel
theorem dX6_wrong_55 : decode cX6_wrong 55 = .ok (.iload_n 1, 1) := by decide +kernel
theorem dX6_wrong_56 : decode cX6_wrong 56 = .ok (.ireturn, 1) := by decide +kernel
def rmX6_wrong : Room := { frames := 6, cells := 0, slots := 0, locals := 144 }
def fX6_wrong_47 (k8 : Int32 → Int32 → Option (Int32 × xm)) (x2 : Int32) (t0 : Int32) (t1 : Int32) (M : xm) : Option (Int32 × xm) := xl (t0 ||| t1) (fun v1 => (k8 v1 (x2 + 1)))
def fX6_wrong_8 (M : xm) : Nat → Int32 → Int32 → Option (Int32 × xm)
  | 0, _, _ => none
  | n + 1, x1, x2 => (if (M.1 60 10) ≤ x2 then (some (x1, M)) else xchk ((3 * x2) + 2) 30 (xchk ((10 * (M.1 68 (((3 * x2) + 2)).toNatClampNeg)) + x2) 4210 ((if (M.1 69 (((10 * (M.1 68 (((3 * x2) + 2)).toNatClampNeg)) + x2)).toNatClampNeg) = 0 then (fX6_wrong_47 (fun z0 z1 => fX6_wrong_8 M n z0 z1) x2 x1 (1 <<< (x2 &&& 31)) M) else (fX6_wrong_47 (fun z0 z1 => fX6_wrong_8 M n z0 z1) x2 x1 0 M)))))
def fX6_wrong (M : xm) : Option (Int32 × xm) := (fX6_goes M).bind (fun M2 => (fX6_wrong_8 M2 xfuel 0 0))
section
variable {p : Program} {l : Launch} {e : Env} {s : State} {m : MethodId} {args : Array Value} {below : List Frame} {meth : Method} {c : Code} {D : va_G} {cs : Nat → ClassId} {S : List Nat} {ad : Nat → Nat}
theorem bX6_wrong_47 (Z : CX p s m args meth c cX6_wrong 3 RX6 (some .int) D cs (xA S ad) S ad) (hS : xalm S) {k8 : Int32 → Int32 → Option (Int32 × xm)} (x2 : Int32) (t0 : Int32) (t1 : Int32) (M : xm) (hk8 : ∀ (x1 : Int32) (x2 : Int32), XJ p l e rmX6_wrong s m args below meth c D cs (xA S ad) S ad 3 (XRb below args s D cs S ad) 8 [(0, .ref (ad 60)), (1, .int x1), (2, .int x2)] [] M (k8 x1 x2)) : XJ p l e rmX6_wrong s m args below meth c D cs (xA S ad) S ad 3 (XRb below args s D cs S ad) 47 [(0, .ref (ad 60)), (2, .int x2)] [.int t1, .int t0] M (fX6_wrong_47 k8 x2 t0 t1 M) := by
  unfold fX6_wrong_47
  refine xj_ior Z dX6_wrong_47 ?_
  refine xj_top (fun v1 => ?_)
  refine xj_istore_n Z (lv' := [(1, .int v1), (0, .ref (ad 60)), (2, .int x2)]) dX6_wrong_48 rfl (by decide) rfl ?_
  refine xj_iinc Z 2 (x2 + 1) (lv' := [(2, .int (x2 + 1)), (1, .int v1), (0, .ref (ad 60))]) dX6_wrong_49 rfl rfl (by decide) rfl ?_
  refine xj_goto Z 8 dX6_wrong_52 (by decide) ?_
  refine xj_sub [2, 1, 0] (lv' := [(0, .ref (ad 60)), (1, .int v1), (2, .int (x2 + 1))]) rfl ?_
  exact hk8 v1 (x2 + 1)
theorem bX6_wrong_8 (Z : CX p s m args meth c cX6_wrong 3 RX6 (some .int) D cs (xA S ad) S ad) (hS : xalm S) (M : xm) : ∀ (n : Nat) (x1 : Int32) (x2 : Int32), XJ p l e rmX6_wrong s m args below meth c D cs (xA S ad) S ad 3 (XRb below args s D cs S ad) 8 [(0, .ref (ad 60)), (1, .int x1), (2, .int x2)] [] M (fX6_wrong_8 M n x1 x2) := by
  intro n
  induction n with
  | zero => intros; exact xj_none
  | succ n ih =>
    intro x1 x2
    rw [fX6_wrong_8]
    refine xj_iload_n Z 2 dX6_wrong_8 rfl rfl ?_
    refine xj_aload_n Z 0 dX6_wrong_9 rfl rfl ?_
    refine xg_X6_89 Z (hS 60 (by decide) (by decide)) dX6_wrong_10 ?_
    refine xj_icmp_ge Z 55 dX6_wrong_13 (by decide) (fun _ => ?_) (fun _ => ?_)
    · refine xj_iload_n Z 1 dX6_wrong_55 rfl rfl ?_
      exact xj_ret_b Z dX6_wrong_56
    · refine xj_iload_n Z 1 dX6_wrong_16 rfl rfl ?_
      refine xj_aload_n Z 0 dX6_wrong_17 rfl rfl ?_
      refine xg_X6_35 Z (hS 60 (by decide) (by decide)) dX6_wrong_18 ?_
      refine xj_bipush Z 10 dX6_wrong_21 (by decide) ?_
      refine xj_aload_n Z 0 dX6_wrong_23 rfl rfl ?_
      refine xg_X6_32 Z (hS 60 (by decide) (by decide)) dX6_wrong_24 ?_
      refine xj_iconst Z 3 dX6_wrong_27 (by decide) ?_
      refine xj_iload_n Z 2 dX6_wrong_28 rfl rfl ?_
      refine xj_imul Z dX6_wrong_29 ?_
      refine xj_iconst Z 2 dX6_wrong_30 (by decide) ?_
      refine xj_iadd Z dX6_wrong_31 ?_
      refine xj_iald Z (hS 68 (by decide) (by decide)) rfl dX6_wrong_32 (fun _ => ?_)
      refine xj_imul Z dX6_wrong_33 ?_
      refine xj_iload_n Z 2 dX6_wrong_34 rfl rfl ?_
      refine xj_iadd Z dX6_wrong_35 ?_
      refine xj_zald Z (hS 69 (by decide) (by decide)) rfl dX6_wrong_36 (fun _ => ?_)
      refine xj_if_eq Z 44 dX6_wrong_37 (by decide) (fun _ => ?_) (fun _ => ?_)
      · refine xj_iconst Z 1 dX6_wrong_44 (by decide) ?_
        refine xj_iload_n Z 2 dX6_wrong_45 rfl rfl ?_
        refine xj_ishl Z dX6_wrong_46 ?_
        refine xj_sub [0, 2] (lv' := [(0, .ref (ad 60)), (2, .int x2)]) rfl ?_
        exact bX6_wrong_47 Z hS x2 x1 (1 <<< (x2 &&& 31)) M ih
      · refine xj_iconst Z 0 dX6_wrong_40 (by decide) ?_
        refine xj_goto Z 47 dX6_wrong_41 (by decide) ?_
        refine xj_sub [0, 2] (lv' := [(0, .ref (ad 60)), (2, .int x2)]) rfl ?_
        exact bX6_wrong_47 Z hS x2 x1 0 M ih
end
theorem kX6_wrong (l : Launch) (D : va_G) (cs : Nat → ClassId) (S : List Nat) (ad : Nat → Nat) (hd : xdist S ad) (hS : xalm S) (M : xm) : ∀ r, fX6_wrong M = some r → Met l yX6_wrong [Cond.code yX6_wrong cX6_wrong 3 (some .int)] rmX6_wrong (XPc D cs S ad [.ref (ad 60)] M) (XQi D cs S ad r.1 r.2) 0 0 (xA S ad) := by
  refine xm_b (own := RX6) (lv := [(0, .ref (ad 60))]) (by decide +kernel) rfl rfl (Nat.le_of_ble_eq_true rfl) hd (fun p e s m args below meth c Z => ?_)
  unfold fX6_wrong
  refine xj_aload_n Z 0 dX6_wrong_0 rfl rfl ?_
  refine xj_callVm Z (As := []) (kX6_goes l D cs S ad Z.2.2.2.2.2.1.dist hS M) gw_X6_198 (hS 60 (by decide) (by decide)) rfl rfl (n := 0) (by decide +kernel) rfl ⟨rfl, rfl⟩ (by decide) rfl (Nat.le_of_ble_eq_true rfl) dX6_wrong_1 (fun M2 => ?_)
  refine xj_iconst Z 0 dX6_wrong_4 (by decide) ?_
  refine xj_istore_n Z (lv' := [(1, .int 0), (0, .ref (ad 60))]) dX6_wrong_5 rfl (by decide) rfl ?_
  refine xj_iconst Z 0 dX6_wrong_6 (by decide) ?_
  refine xj_istore_n Z (lv' := [(2, .int 0), (1, .int 0), (0, .ref (ad 60))]) dX6_wrong_7 rfl (by decide) rfl ?_
  refine xj_sub [2, 1, 0] (lv' := [(0, .ref (ad 60)), (1, .int 0), (2, .int 0)]) rfl ?_
  exact bX6_wrong_8 Z hS M2 xfuel 0 0
/-! WalkingLawModel.right(I)I -/
theorem dX6_right_0 : decode cX6_right 0 = .ok (.iconst 0, 1) := by decide +kernel
theorem dX6_right_1 : decode cX6_right 1 = .ok (.istore_n 2, 1) := by decide +kernel
theorem dX6_right_2 : decode cX6_right 2 = .ok (.iconst 0, 1) := by decide +kernel
theorem dX6_right_3 : decode cX6_right 3 = .ok (.istore_n 3, 1) := by decide +kernel
theorem dX6_right_4 : decode cX6_right 4 = .ok (.iload_n 3, 1) := by decide +kernel
theorem dX6_right_5 : decode cX6_right 5 = .ok (.aload_n 0, 1) := by decide +kernel
theorem dX6_right_6 : decode cX6_right 6 = .ok (.getfield 89, 3) := by decide +kernel
theorem dX6_right_9 : decode cX6_right 9 = .ok (.if_icmp .ge 55, 3) := by decide +kernel
theorem dX6_right_12 : decode cX6_right 12 = .ok (.aload_n 0, 1) := by decide +kernel
theorem dX6_right_13 : decode cX6_right 13 = .ok (.getfield 32, 3) := by decide +kernel
theorem dX6_right_16 : decode cX6_right 16 = .ok (.iconst 3, 1) := by decide +kernel
theorem dX6_right_17 : decode cX6_right 17 = .ok (.iload_n 3, 1) := by decide +kernel
theorem dX6_right_18 : decode cX6_right 18 = .ok (.imul, 1) := by decide +kernel
theorem dX6_right_19 : decode cX6_right 19 = .ok (.iconst 2, 1) := by decide +kernel
theorem dX6_right_20 : decode cX6_right 20 = .ok (.iadd, 1) := by decide +kernel
theorem dX6_right_21 : decode cX6_right 21 = .ok (.iaload, 1) := by decide +kernel
theorem dX6_right_22 : decode cX6_right 22 = .ok (.iload_n 1, 1) := by decide +kernel
theorem dX6_right_23 : decode cX6_right 23 = .ok (.iadd, 1) := by decide +kernel
theorem dX6_right_24 : decode cX6_right 24 = .ok (.istore 4, 2) := by decide +kernel
theorem dX6_right_26 : decode cX6_right 26 = .ok (.iload_n 2, 1) := by decide +kernel
theorem dX6_right_27 : decode cX6_right 27 = .ok (.aload_n 0, 1) := by decide +kernel
theorem dX6_right_28 : decode cX6_right 28 = .ok (.getfield 35, 3) := by decide +kernel
theorem dX6_right_31 : decode cX6_right 31 = .ok (.bipush 10, 2) := by decide +kernel
theorem dX6_right_33 : decode cX6_right 33 = .ok (.iload 4, 2) := by decide +kernel
theorem dX6_right_35 : decode cX6_right 35 = .ok (.ifCond .ge 7, 3) := by decide +kernel
theorem dX6_right_38 : decode cX6_right 38 = .ok (.iconst 0, 1) := by decide +kernel
theorem dX6_right_39 : decode cX6_right 39 = .ok (.goto 5, 3) := by decide +kernel
theorem dX6_right_42 : decode cX6_right 42 = .ok (.iload 4, 2) := by decide +kernel
theorem dX6_right_44 : decode cX6_right 44 = .ok (.imul, 1) := by decide +kernel
theorem dX6_right_45 : decode cX6_right 45 = .ok (.iload_n 3, 1) := by decide +kernel
theorem dX6_right_46 : decode cX6_right 46 = .ok (.iadd, 1) := by decide +kernel
theorem dX6_right_47 : decode cX6_right 47 = .ok (.baload, 1) := by decide +kernel
theorem dX6_right_48 : decode cX6_right 48 = .ok (.ifCond .eq 7, 3) := by decide +kernel
theorem dX6_right_51 : decode cX6_right 51 = .ok (.iconst 1, 1) := by decide +kernel
theorem dX6_right_52 : decode cX6_right 52 = .ok (.goto 4, 3) := by decide +kernel
theorem dX6_right_55 : decode cX6_right 55 = .ok (.iconst 0, 1) := by decide +kernel
theorem dX6_right_56 : decode cX6_right 56 = .ok (.iadd, 1) := by decide +kernel
theorem dX6_right_57 : decode cX6_right 57 = .ok (.istore_n 2, 1) := by decide +kernel
theorem dX6_right_58 : decode cX6_right 58 = .ok (.iinc 3 1, 3) := by decide +kernel
theorem dX6_right_61 : decode cX6_right 61 = .ok (.goto (-57), 3) := by decide +kernel
theorem dX6_right_64 : decode cX6_right 64 = .ok (.iload_n 2, 1) := by decide +kernel
theorem dX6_right_65 : decode cX6_right 65 = .ok (.ireturn, 1) := by decide +kernel
def rmX6_right : Room := { frames := 0, cells := 0, slots := 0, locals := 0 }
def fX6_right_56 (k4 : Int32 → Int32 → Option (Int32)) (x1 : Int32) (x3 : Int32) (t0 : Int32) (t1 : Int32) (M : xm) : Option (Int32) := xl (t0 + t1) (fun v1 => (k4 v1 (x3 + 1)))
def fX6_right_44 (k4 : Int32 → Int32 → Option (Int32)) (x1 : Int32) (x3 : Int32) (t0 : Int32) (t2 : Int32) (t3 : Int32) (M : xm) : Option (Int32) := xchk ((t2 * t3) + x3) 4210 ((if (M.1 69 (((t2 * t3) + x3)).toNatClampNeg) = 0 then (fX6_right_56 (k4) x1 x3 t0 0 M) else (fX6_right_56 (k4) x1 x3 t0 1 M)))
def fX6_right_4 (x1 : Int32) (M : xm) : Nat → Int32 → Int32 → Option (Int32)
  | 0, _, _ => none
  | n + 1, x2, x3 => (if (M.1 60 10) ≤ x3 then (some x2) else xchk ((3 * x3) + 2) 30 (xl ((M.1 68 (((3 * x3) + 2)).toNatClampNeg) + x1) (fun v2 => (if (0 : Int32) ≤ v2 then (fX6_right_44 (fun z0 z1 => fX6_right_4 x1 M n z0 z1) x1 x3 x2 10 v2 M) else (fX6_right_44 (fun z0 z1 => fX6_right_4 x1 M n z0 z1) x1 x3 x2 10 0 M)))))
def fX6_right (x1 : Int32) (M : xm) : Option (Int32) := (fX6_right_4 x1 M xfuel 0 0)
section
variable {p : Program} {l : Launch} {e : Env} {s : State} {m : MethodId} {args : Array Value} {below : List Frame} {meth : Method} {c : Code} {D : va_G} {cs : Nat → ClassId} {S : List Nat} {ad : Nat → Nat}
theorem bX6_right_56 (Z : CX p s m args meth c cX6_right 5 RX6 (some .int) D cs (xA S ad) S ad) (hS : xalm S) {k4 : Int32 → Int32 → Option (Int32)} (x1 : Int32) (x3 : Int32) (t0 : Int32) (t1 : Int32) (M : xm) (hk4 : ∀ (x2 : Int32) (x3 : Int32), XJ p l e rmX6_right s m args below meth c D cs (xA S ad) S ad 5 (XRr below args s D cs S ad M) 4 [(0, .ref (ad 60)), (1, .int x1), (2, .int x2), (3, .int x3)] [] M (k4 x2 x3)) : XJ p l e rmX6_right s m args below meth c D cs (xA S ad) S ad 5 (XRr below args s D cs S ad M) 56 [(0, .ref (ad 60)), (1, .int x1), (3, .int x3)] [.int t1, .int t0] M (fX6_right_56 k4 x1 x3 t0 t1 M) := by
  unfold fX6_right_56
  refine xj_iadd Z dX6_right_56 ?_
  refine xj_top (fun v1 => ?_)
  refine xj_istore_n Z (lv' := [(2, .int v1), (0, .ref (ad 60)), (1, .int x1), (3, .int x3)]) dX6_right_57 rfl (by decide) rfl ?_
  refine xj_iinc Z 3 (x3 + 1) (lv' := [(3, .int (x3 + 1)), (2, .int v1), (0, .ref (ad 60)), (1, .int x1)]) dX6_right_58 rfl rfl (by decide) rfl ?_
  refine xj_goto Z 4 dX6_right_61 (by decide) ?_
  refine xj_sub [2, 3, 1, 0] (lv' := [(0, .ref (ad 60)), (1, .int x1), (2, .int v1), (3, .int (x3 + 1))]) rfl ?_
  exact hk4 v1 (x3 + 1)
theorem bX6_right_44 (Z : CX p s m args meth c cX6_right 5 RX6 (some .int) D cs (xA S ad) S ad) (hS : xalm S) {k4 : Int32 → Int32 → Option (Int32)} (x1 : Int32) (x3 : Int32) (t0 : Int32) (t2 : Int32) (t3 : Int32) (M : xm) (hk4 : ∀ (x2 : Int32) (x3 : Int32), XJ p l e rmX6_right s m args below meth c D cs (xA S ad) S ad 5 (XRr below args s D cs S ad M) 4 [(0, .ref (ad 60)), (1, .int x1), (2, .int x2), (3, .int x3)] [] M (k4 x2 x3)) : XJ p l e rmX6_right s m args below meth c D cs (xA S ad) S ad 5 (XRr below args s D cs S ad M) 44 [(0, .ref (ad 60)), (1, .int x1), (3, .int x3)] [.int t3, .int t2, .ref (ad 69), .int t0] M (fX6_right_44 k4 x1 x3 t0 t2 t3 M) := by
  unfold fX6_right_44
  refine xj_imul Z dX6_right_44 ?_
  refine xj_iload_n Z 2 dX6_right_45 rfl rfl ?_
  refine xj_iadd Z dX6_right_46 ?_
  refine xj_zald Z (hS 69 (by decide) (by decide)) rfl dX6_right_47 (fun _ => ?_)
  refine xj_if_eq Z 55 dX6_right_48 (by decide) (fun _ => ?_) (fun _ => ?_)
  · refine xj_iconst Z 0 dX6_right_55 (by decide) ?_
    exact bX6_right_56 Z hS x1 x3 t0 0 M hk4
  · refine xj_iconst Z 1 dX6_right_51 (by decide) ?_
    refine xj_goto Z 56 dX6_right_52 (by decide) ?_
    exact bX6_right_56 Z hS x1 x3 t0 1 M hk4
theorem bX6_right_4 (Z : CX p s m args meth c cX6_right 5 RX6 (some .int) D cs (xA S ad) S ad) (hS : xalm S) (x1 : Int32) (M : xm) : ∀ (n : Nat) (x2 : Int32) (x3 : Int32), XJ p l e rmX6_right s m args below meth c D cs (xA S ad) S ad 5 (XRr below args s D cs S ad M) 4 [(0, .ref (ad 60)), (1, .int x1), (2, .int x2), (3, .int x3)] [] M (fX6_right_4 x1 M n x2 x3) := by
  intro n
  induction n with
  | zero => intros; exact xj_none
  | succ n ih =>
    intro x2 x3
    rw [fX6_right_4]
    refine xj_iload_n Z 3 dX6_right_4 rfl rfl ?_
    refine xj_aload_n Z 0 dX6_right_5 rfl rfl ?_
    refine xg_X6_89 Z (hS 60 (by decide) (by decide)) dX6_right_6 ?_
    refine xj_icmp_ge Z 64 dX6_right_9 (by decide) (fun _ => ?_) (fun _ => ?_)
    · refine xj_iload_n Z 2 dX6_right_64 rfl rfl ?_
      exact xj_ret_r Z dX6_right_65
    · refine xj_aload_n Z 0 dX6_right_12 rfl rfl ?_
      refine xg_X6_32 Z (hS 60 (by decide) (by decide)) dX6_right_13 ?_
      refine xj_iconst Z 3 dX6_right_16 (by decide) ?_
      refine xj_iload_n Z 3 dX6_right_17 rfl rfl ?_
      refine xj_imul Z dX6_right_18 ?_
      refine xj_iconst Z 2 dX6_right_19 (by decide) ?_
      refine xj_iadd Z dX6_right_20 ?_
      refine xj_iald Z (hS 68 (by decide) (by decide)) rfl dX6_right_21 (fun _ => ?_)
      refine xj_iload_n Z 1 dX6_right_22 rfl rfl ?_
      refine xj_iadd Z dX6_right_23 ?_
      refine xj_top (fun v2 => ?_)
      refine xj_istore Z (lv' := [(4, .int v2), (0, .ref (ad 60)), (1, .int x1), (2, .int x2), (3, .int x3)]) dX6_right_24 (by decide) rfl ?_
      refine xj_iload_n Z 3 dX6_right_26 rfl rfl ?_
      refine xj_aload_n Z 1 dX6_right_27 rfl rfl ?_
      refine xg_X6_35 Z (hS 60 (by decide) (by decide)) dX6_right_28 ?_
      refine xj_bipush Z 10 dX6_right_31 (by decide) ?_
      refine xj_iload Z 0 dX6_right_33 rfl ?_
      refine xj_if_ge Z 42 dX6_right_35 (by decide) (fun _ => ?_) (fun _ => ?_)
      · refine xj_iload Z 0 dX6_right_42 rfl ?_
        refine xj_sub [1, 2, 4] (lv' := [(0, .ref (ad 60)), (1, .int x1), (3, .int x3)]) rfl ?_
        exact bX6_right_44 Z hS x1 x3 x2 10 v2 M ih
      · refine xj_iconst Z 0 dX6_right_38 (by decide) ?_
        refine xj_goto Z 44 dX6_right_39 (by decide) ?_
        refine xj_sub [1, 2, 4] (lv' := [(0, .ref (ad 60)), (1, .int x1), (3, .int x3)]) rfl ?_
        exact bX6_right_44 Z hS x1 x3 x2 10 0 M ih
end
theorem kX6_right (l : Launch) (D : va_G) (cs : Nat → ClassId) (S : List Nat) (ad : Nat → Nat) (hd : xdist S ad) (hS : xalm S) (x1 : Int32) (M : xm) : ∀ r, fX6_right x1 M = some r → Met l yX6_right [Cond.code yX6_right cX6_right 5 (some .int)] rmX6_right (XPc D cs S ad [.ref (ad 60), .int x1] M) (XQi D cs S ad r M) 0 0 (xA S ad) := by
  refine xm_r (own := RX6) (lv := [(0, .ref (ad 60)), (1, .int x1)]) (by decide +kernel) rfl rfl (Nat.le_of_ble_eq_true rfl) hd (fun p e s m args below meth c Z => ?_)
  unfold fX6_right
  refine xj_iconst Z 0 dX6_right_0 (by decide) ?_
  refine xj_istore_n Z (lv' := [(2, .int 0), (0, .ref (ad 60)), (1, .int x1)]) dX6_right_1 rfl (by decide) rfl ?_
  refine xj_iconst Z 0 dX6_right_2 (by decide) ?_
  refine xj_istore_n Z (lv' := [(3, .int 0), (2, .int 0), (0, .ref (ad 60)), (1, .int x1)]) dX6_right_3 rfl (by decide) rfl ?_
  refine xj_sub [2, 3, 1, 0] (lv' := [(0, .ref (ad 60)), (1, .int x1), (2, .int 0), (3, .int 0)]) rfl ?_
  exact bX6_right_4 Z hS x1 M xfuel 0 0
/-! WalkingLawModel.late()I -/
theorem dX6_late_0 : decode cX6_late 0 = .ok (.aload_n 0, 1) := by decide +kernel
theorem dX6_late_1 : decode cX6_late 1 = .ok (.invokevirtual 198, 3) := by decide +kernel
theorem dX6_late_4 : decode cX6_late 4 = .ok (.iconst 0, 1) := by decide +kernel
theorem dX6_late_5 : decode cX6_late 5 = .ok (.istore_n 1, 1) := by decide +kernel
theorem dX6_late_6 : decode cX6_late 6 = .ok (.aload_n 0, 1) := by decide +kernel
theorem dX6_late_7 : decode cX6_late 7 = .ok (.iconst 0, 1) := by decide +kernel
theorem dX6_late_8 : decode cX6_late 8 = .ok (.invokevirtual 201, 3) := by decide +kernel
theorem dX6_late_11 : decode cX6_late 11 = .ok (.istore_n 2, 1) := by decide +kernel
theorem dX6_late_12 : decode cX6_late 12 = .ok (.iconst 1, 1) := by decide +kernel
theorem dX6_late_13 : decode cX6_late 13 = .ok (.istore_n 3, 1) := by decide +kernel
theorem dX6_late_14 : decode cX6_late 14 = .ok (.iload_n 3, 1) := by decide +kernel
theorem dX6_late_15 : decode cX6_late 15 = .ok (.bipush 20, 2) := by decide +kernel
theorem dX6_late_17 : decode cX6_late 17 = .ok (.if_icmp .gt 62, 3) := by decide +kernel
theorem dX6_late_20 : decode cX6_late 20 = .ok (.iconst (-1), 1) := by decide +kernel
theorem dX6_late_21 : decode cX6_late 21 = .ok (.istore 4, 2) := by decide +kernel
theorem dX6_late_23 : decode cX6_late 23 = .ok (.iload 4, 2) := by decide +kernel
theorem dX6_late_25 : decode cX6_late 25 = .ok (.iconst 2, 1) := by decide +kernel
theorem dX6_late_26 : decode cX6_late 26 = .ok (.if_icmp .ge 47, 3) := by decide +kernel
theorem dX6_late_29 : decode cX6_late 29 = .ok (.aload_n 0, 1) := by decide +kernel
theorem dX6_late_30 : decode cX6_late 30 = .ok (.iload 4, 2) := by decide +kernel
theorem dX6_late_32 : decode cX6_late 32 = .ok (.iload_n 3, 1) := by decide +kernel
theorem dX6_late_33 : decode cX6_late 33 = .ok (.imul, 1) := by decide +kernel
theorem dX6_late_34 : decode cX6_late 34 = .ok (.invokevirtual 201, 3) := by decide +kernel
theorem dX6_late_37 : decode cX6_late 37 = .ok (.istore 5, 2) := by decide +kernel
theorem dX6_late_39 : decode cX6_late 39 = .ok (.iload 5, 2) := by decide +kernel
theorem dX6_late_41 : decode cX6_late 41 = .ok (.iload_n 2, 1) := by decide +kernel
theorem dX6_late_42 : decode cX6_late 42 = .ok (.if_icmp .le 10, 3) := by decide +kernel
theorem dX6_late_45 : decode cX6_late 45 = .ok (.iload 4, 2) := by decide +kernel
theorem dX6_late_47 : decode cX6_late 47 = .ok (.iload_n 3, 1) := by decide +kernel
theorem dX6_late_48 : decode cX6_late 48 = .ok (.imul, 1) := by decide +kernel
theorem dX6_late_49 : decode cX6_late 49 = .ok (.goto 4, 3) := by decide +kernel
theorem dX6_late_52 : decode cX6_late 52 = .ok (.iload_n 1, 1) := by decide +kernel
theorem dX6_late_53 : decode cX6_late 53 = .ok (.istore_n 1, 1) := by decide +kernel
theorem dX6_late_54 : decode cX6_late 54 = .ok (.iload 5, 2) := by decide +kernel
theorem dX6_late_56 : decode cX6_late 56 = .ok (.iload_n 2, 1) := by decide +kernel
theorem dX6_late_57 : decode cX6_late 57 = .ok (.if_icmp .le 8, 3) := by decide +kernel
theorem dX6_late_60 : decode cX6_late 60 = .ok (.iload 5, 2) := by decide +kernel
theorem dX6_late_62 : decode cX6_late 62 = .ok (.goto 4, 3) := by decide +kernel
theorem dX6_late_65 : decode cX6_late 65 = .ok (.iload_n 2, 1) := by decide +kernel
theorem dX6_late_66 : decode cX6_late 66 = .ok (.istore_n 2, 1) := by decide +kernel
theorem dX6_late_67 : decode cX6_late 67 = .ok (.iinc 4 2, 3) := by decide +kernel
theorem dX6_late_70 : decode cX6_late 70 = .ok (.goto (-47), 3) := by decide +kernel
theorem dX6_late_73 : decode cX6_late 73 = .ok (.iinc 3 1, 3) := by decide +kernel
theorem dX6_late_76 : decode cX6_late 76 = .ok (.goto (-62), 3) := by decide +kernel
theorem dX6_late_79 : decode cX6_late 79 = .ok (.iload_n 1, 1) := by decide +kernel
theorem dX6_late_80 : decode cX6_late 80 = .ok (.bipush 20, 2) := by decide +kernel
theorem dX6_late_82 : decode cX6_late 82 = .ok (.iadd, 1) := by decide +kernel
theorem dX6_late_83 : decode cX6_late 83 = .ok (.ireturn, 1) := by decide +kernel
def rmX6_late : Room := { frames := 6, cells := 0, slots := 0, locals := 144 }
def fX6_late_66 (k14 : Int32 → Int32 → Int32 → Option (Int32 × xm)) (k23 : Int32 → Int32 → Int32 → Option (Int32 × xm)) (x1 : Int32) (x3 : Int32) (x4 : Int32) (t0 : Int32) (M : xm) : Option (Int32 × xm) := (k23 x1 t0 (x4 + 2))
def fX6_late_53 (k14 : Int32 → Int32 → Int32 → Option (Int32 × xm)) (k23 : Int32 → Int32 → Int32 → Option (Int32 × xm)) (x2 : Int32) (x3 : Int32) (x4 : Int32) (x5 : Int32) (t0 : Int32) (M : xm) : Option (Int32 × xm) := (if x5 ≤ x2 then (fX6_late_66 (k14) (k23) t0 x3 x4 x2 M) else (fX6_late_66 (k14) (k23) t0 x3 x4 x5 M))
def fX6_late_23 (k14 : Int32 → Int32 → Int32 → Option (Int32 × xm)) (x3 : Int32) (M : xm) : Nat → Int32 → Int32 → Int32 → Option (Int32 × xm)
  | 0, _, _, _ => none
  | n + 1, x1, x2, x4 => (if (2 : Int32) ≤ x4 then (k14 x1 x2 (x3 + 1)) else (fX6_right (x4 * x3) M).bind (fun v1 => (if v1 ≤ x2 then (fX6_late_53 (k14) (fun z0 z1 z2 => fX6_late_23 k14 x3 M n z0 z1 z2) x2 x3 x4 v1 x1 M) else (fX6_late_53 (k14) (fun z0 z1 z2 => fX6_late_23 k14 x3 M n z0 z1 z2) x2 x3 x4 v1 (x4 * x3) M))))
def fX6_late_14 (M : xm) : Nat → Int32 → Int32 → Int32 → Option (Int32 × xm)
  | 0, _, _, _ => none
  | n + 1, x1, x2, x3 => (if (20 : Int32) < x3 then (some ((x1 + 20), M)) else (fX6_late_23 (fun z0 z1 z2 => fX6_late_14 M n z0 z1 z2) x3 M xfuel x1 x2 (-1)))
def fX6_late (M : xm) : Option (Int32 × xm) := (fX6_goes M).bind (fun M2 => (fX6_right 0 M2).bind (fun v3 => (fX6_late_14 M2 xfuel 0 v3 1)))
section
variable {p : Program} {l : Launch} {e : Env} {s : State} {m : MethodId} {args : Array Value} {below : List Frame} {meth : Method} {c : Code} {D : va_G} {cs : Nat → ClassId} {S : List Nat} {ad : Nat → Nat}
theorem bX6_late_66 (Z : CX p s m args meth c cX6_late 6 RX6 (some .int) D cs (xA S ad) S ad) (hS : xalm S) {k14 : Int32 → Int32 → Int32 → Option (Int32 × xm)} {k23 : Int32 → Int32 → Int32 → Option (Int32 × xm)} (x1 : Int32) (x3 : Int32) (x4 : Int32) (t0 : Int32) (M : xm) (hk14 : ∀ (x1 : Int32) (x2 : Int32) (x3 : Int32), XJ p l e rmX6_late s m args below meth c D cs (xA S ad) S ad 6 (XRb below args s D cs S ad) 14 [(0, .ref (ad 60)), (1, .int x1), (2, .int x2), (3, .int x3)] [] M (k14 x1 x2 x3)) (hk23 : ∀ (x1 : Int32) (x2 : Int32) (x4 : Int32), XJ p l e rmX6_late s m args below meth c D cs (xA S ad) S ad 6 (XRb below args s D cs S ad) 23 [(0, .ref (ad 60)), (1, .int x1), (2, .int x2), (3, .int x3), (4, .int x4)] [] M (k23 x1 x2 x4)) : XJ p l e rmX6_late s m args below meth c D cs (xA S ad) S ad 6 (XRb below args s D cs S ad) 66 [(0, .ref (ad 60)), (1, .int x1), (3, .int x3), (4, .int x4)] [.int t0] M (fX6_late_66 k14 k23 x1 x3 x4 t0 M) := by
  unfold fX6_late_66
  refine xj_istore_n Z (lv' := [(2, .int t0), (0, .ref (ad 60)), (1, .int x1), (3, .int x3), (4, .int x4)]) dX6_late_66 rfl (by decide) rfl ?_
  refine xj_iinc Z 4 (x4 + 2) (lv' := [(4, .int (x4 + 2)), (2, .int t0), (0, .ref (ad 60)), (1, .int x1), (3, .int x3)]) dX6_late_67 rfl rfl (by decide) rfl ?_
  refine xj_goto Z 23 dX6_late_70 (by decide) ?_
  refine xj_sub [2, 3, 1, 4, 0] (lv' := [(0, .ref (ad 60)), (1, .int x1), (2, .int t0), (3, .int x3), (4, .int (x4 + 2))]) rfl ?_
  exact hk23 x1 t0 (x4 + 2)
theorem bX6_late_53 (Z : CX p s m args meth c cX6_late 6 RX6 (some .int) D cs (xA S ad) S ad) (hS : xalm S) {k14 : Int32 → Int32 → Int32 → Option (Int32 × xm)} {k23 : Int32 → Int32 → Int32 → Option (Int32 × xm)} (x2 : Int32) (x3 : Int32) (x4 : Int32) (x5 : Int32) (t0 : Int32) (M : xm) (hk14 : ∀ (x1 : Int32) (x2 : Int32) (x3 : Int32), XJ p l e rmX6_late s m args below meth c D cs (xA S ad) S ad 6 (XRb below args s D cs S ad) 14 [(0, .ref (ad 60)), (1, .int x1), (2, .int x2), (3, .int x3)] [] M (k14 x1 x2 x3)) (hk23 : ∀ (x1 : Int32) (x2 : Int32) (x4 : Int32), XJ p l e rmX6_late s m args below meth c D cs (xA S ad) S ad 6 (XRb below args s D cs S ad) 23 [(0, .ref (ad 60)), (1, .int x1), (2, .int x2), (3, .int x3), (4, .int x4)] [] M (k23 x1 x2 x4)) : XJ p l e rmX6_late s m args below meth c D cs (xA S ad) S ad 6 (XRb below args s D cs S ad) 53 [(0, .ref (ad 60)), (2, .int x2), (3, .int x3), (4, .int x4), (5, .int x5)] [.int t0] M (fX6_late_53 k14 k23 x2 x3 x4 x5 t0 M) := by
  unfold fX6_late_53
  refine xj_istore_n Z (lv' := [(1, .int t0), (0, .ref (ad 60)), (2, .int x2), (3, .int x3), (4, .int x4), (5, .int x5)]) dX6_late_53 rfl (by decide) rfl ?_
  refine xj_iload Z 5 dX6_late_54 rfl ?_
  refine xj_iload_n Z 2 dX6_late_56 rfl rfl ?_
  refine xj_icmp_le Z 65 dX6_late_57 (by decide) (fun _ => ?_) (fun _ => ?_)
  · refine xj_iload_n Z 2 dX6_late_65 rfl rfl ?_
    refine xj_sub [1, 0, 3, 4] (lv' := [(0, .ref (ad 60)), (1, .int t0), (3, .int x3), (4, .int x4)]) rfl ?_
    exact bX6_late_66 Z hS t0 x3 x4 x2 M hk14 hk23
  · refine xj_iload Z 5 dX6_late_60 rfl ?_
    refine xj_goto Z 66 dX6_late_62 (by decide) ?_
    refine xj_sub [1, 0, 3, 4] (lv' := [(0, .ref (ad 60)), (1, .int t0), (3, .int x3), (4, .int x4)]) rfl ?_
    exact bX6_late_66 Z hS t0 x3 x4 x5 M hk14 hk23
theorem bX6_late_23 (Z : CX p s m args meth c cX6_late 6 RX6 (some .int) D cs (xA S ad) S ad) (hS : xalm S) {k14 : Int32 → Int32 → Int32 → Option (Int32 × xm)} (x3 : Int32) (M : xm) (hk14 : ∀ (x1 : Int32) (x2 : Int32) (x3 : Int32), XJ p l e rmX6_late s m args below meth c D cs (xA S ad) S ad 6 (XRb below args s D cs S ad) 14 [(0, .ref (ad 60)), (1, .int x1), (2, .int x2), (3, .int x3)] [] M (k14 x1 x2 x3)) : ∀ (n : Nat) (x1 : Int32) (x2 : Int32) (x4 : Int32), XJ p l e rmX6_late s m args below meth c D cs (xA S ad) S ad 6 (XRb below args s D cs S ad) 23 [(0, .ref (ad 60)), (1, .int x1), (2, .int x2), (3, .int x3), (4, .int x4)] [] M (fX6_late_23 k14 x3 M n x1 x2 x4) := by
  intro n
  induction n with
  | zero => intros; exact xj_none
  | succ n ih =>
    intro x1 x2 x4
    rw [fX6_late_23]
    refine xj_iload Z 4 dX6_late_23 rfl ?_
    refine xj_iconst Z 2 dX6_late_25 (by decide) ?_
    refine xj_icmp_ge Z 73 dX6_late_26 (by decide) (fun _ => ?_) (fun _ => ?_)
    · refine xj_iinc Z 3 (x3 + 1) (lv' := [(3, .int (x3 + 1)), (0, .ref (ad 60)), (1, .int x1), (2, .int x2), (4, .int x4)]) dX6_late_73 rfl rfl (by decide) rfl ?_
      refine xj_goto Z 14 dX6_late_76 (by decide) ?_
      refine xj_sub [1, 2, 3, 0] (lv' := [(0, .ref (ad 60)), (1, .int x1), (2, .int x2), (3, .int (x3 + 1))]) rfl ?_
      exact hk14 x1 x2 (x3 + 1)
    · refine xj_aload_n Z 0 dX6_late_29 rfl rfl ?_
      refine xj_iload Z 4 dX6_late_30 rfl ?_
      refine xj_iload_n Z 3 dX6_late_32 rfl rfl ?_
      refine xj_imul Z dX6_late_33 ?_
      refine xj_callVr Z (As := [.int (x4 * x3)]) (kX6_right l D cs S ad Z.2.2.2.2.2.1.dist hS (x4 * x3) M) gw_X6_201 (hS 60 (by decide) (by decide)) rfl rfl (n := 1) (by decide +kernel) rfl ⟨rfl, rfl⟩ (by decide) rfl (Nat.le_of_ble_eq_true rfl) dX6_late_34 (fun v1 => ?_)
      refine xj_istore Z (lv' := [(5, .int v1), (0, .ref (ad 60)), (1, .int x1), (2, .int x2), (3, .int x3), (4, .int x4)]) dX6_late_37 (by decide) rfl ?_
      refine xj_iload Z 0 dX6_late_39 rfl ?_
      refine xj_iload_n Z 3 dX6_late_41 rfl rfl ?_
      refine xj_icmp_le Z 52 dX6_late_42 (by decide) (fun _ => ?_) (fun _ => ?_)
      · refine xj_iload_n Z 2 dX6_late_52 rfl rfl ?_
        refine xj_sub [1, 3, 4, 5, 0] (lv' := [(0, .ref (ad 60)), (2, .int x2), (3, .int x3), (4, .int x4), (5, .int v1)]) rfl ?_
        exact bX6_late_53 Z hS x2 x3 x4 v1 x1 M hk14 ih
      · refine xj_iload Z 5 dX6_late_45 rfl ?_
        refine xj_iload_n Z 4 dX6_late_47 rfl rfl ?_
        refine xj_imul Z dX6_late_48 ?_
        refine xj_goto Z 53 dX6_late_49 (by decide) ?_
        refine xj_sub [1, 3, 4, 5, 0] (lv' := [(0, .ref (ad 60)), (2, .int x2), (3, .int x3), (4, .int x4), (5, .int v1)]) rfl ?_
        exact bX6_late_53 Z hS x2 x3 x4 v1 (x4 * x3) M hk14 ih
theorem bX6_late_14 (Z : CX p s m args meth c cX6_late 6 RX6 (some .int) D cs (xA S ad) S ad) (hS : xalm S) (M : xm) : ∀ (n : Nat) (x1 : Int32) (x2 : Int32) (x3 : Int32), XJ p l e rmX6_late s m args below meth c D cs (xA S ad) S ad 6 (XRb below args s D cs S ad) 14 [(0, .ref (ad 60)), (1, .int x1), (2, .int x2), (3, .int x3)] [] M (fX6_late_14 M n x1 x2 x3) := by
  intro n
  induction n with
  | zero => intros; exact xj_none
  | succ n ih =>
    intro x1 x2 x3
    rw [fX6_late_14]
    refine xj_iload_n Z 3 dX6_late_14 rfl rfl ?_
    refine xj_bipush Z 20 dX6_late_15 (by decide) ?_
    refine xj_icmp_gt Z 79 dX6_late_17 (by decide) (fun _ => ?_) (fun _ => ?_)
    · refine xj_iload_n Z 1 dX6_late_79 rfl rfl ?_
      refine xj_bipush Z 20 dX6_late_80 (by decide) ?_
      refine xj_iadd Z dX6_late_82 ?_
      exact xj_ret_b Z dX6_late_83
    · refine xj_iconst Z (-1) dX6_late_20 (by decide) ?_
      refine xj_istore Z (lv' := [(4, .int (-1)), (0, .ref (ad 60)), (1, .int x1), (2, .int x2), (3, .int x3)]) dX6_late_21 (by decide) rfl ?_
      refine xj_sub [1, 2, 3, 4, 0] (lv' := [(0, .ref (ad 60)), (1, .int x1), (2, .int x2), (3, .int x3), (4, .int (-1))]) rfl ?_
      exact bX6_late_23 Z hS x3 M ih xfuel x1 x2 (-1)
end
theorem kX6_late (l : Launch) (D : va_G) (cs : Nat → ClassId) (S : List Nat) (ad : Nat → Nat) (hd : xdist S ad) (hS : xalm S) (M : xm) : ∀ r, fX6_late M = some r → Met l yX6_late [Cond.code yX6_late cX6_late 6 (some .int)] rmX6_late (XPc D cs S ad [.ref (ad 60)] M) (XQi D cs S ad r.1 r.2) 0 0 (xA S ad) := by
  refine xm_b (own := RX6) (lv := [(0, .ref (ad 60))]) (by decide +kernel) rfl rfl (Nat.le_of_ble_eq_true rfl) hd (fun p e s m args below meth c Z => ?_)
  unfold fX6_late
  refine xj_aload_n Z 0 dX6_late_0 rfl rfl ?_
  refine xj_callVm Z (As := []) (kX6_goes l D cs S ad Z.2.2.2.2.2.1.dist hS M) gw_X6_198 (hS 60 (by decide) (by decide)) rfl rfl (n := 0) (by decide +kernel) rfl ⟨rfl, rfl⟩ (by decide) rfl (Nat.le_of_ble_eq_true rfl) dX6_late_1 (fun M2 => ?_)
  refine xj_iconst Z 0 dX6_late_4 (by decide) ?_
  refine xj_istore_n Z (lv' := [(1, .int 0), (0, .ref (ad 60))]) dX6_late_5 rfl (by decide) rfl ?_
  refine xj_aload_n Z 1 dX6_late_6 rfl rfl ?_
  refine xj_iconst Z 0 dX6_late_7 (by decide) ?_
  refine xj_callVr Z (As := [.int 0]) (kX6_right l D cs S ad Z.2.2.2.2.2.1.dist hS 0 M2) gw_X6_201 (hS 60 (by decide) (by decide)) rfl rfl (n := 1) (by decide +kernel) rfl ⟨rfl, rfl⟩ (by decide) rfl (Nat.le_of_ble_eq_true rfl) dX6_late_8 (fun v3 => ?_)
  refine xj_istore_n Z (lv' := [(2, .int v3), (1, .int 0), (0, .ref (ad 60))]) dX6_late_11 rfl (by decide) rfl ?_
  refine xj_iconst Z 1 dX6_late_12 (by decide) ?_
  refine xj_istore_n Z (lv' := [(3, .int 1), (2, .int v3), (1, .int 0), (0, .ref (ad 60))]) dX6_late_13 rfl (by decide) rfl ?_
  refine xj_sub [3, 2, 1, 0] (lv' := [(0, .ref (ad 60)), (1, .int 0), (2, .int v3), (3, .int 1)]) rfl ?_
  exact bX6_late_14 Z hS M2 xfuel 0 v3 1
/-! WalkingLawModel.yearOf(I)I -/
theorem dX6_yearOf_0 : decode cX6_yearOf 0 = .ok (.aload_n 0, 1) := by decide +kernel
theorem dX6_yearOf_1 : decode cX6_yearOf 1 = .ok (.iconst 3, 1) := by decide +kernel
theorem dX6_yearOf_2 : decode cX6_yearOf 2 = .ok (.invokevirtual 85, 3) := by decide +kernel
theorem dX6_yearOf_5 : decode cX6_yearOf 5 = .ok (.iconst 0, 1) := by decide +kernel
theorem dX6_yearOf_6 : decode cX6_yearOf 6 = .ok (.istore_n 2, 1) := by decide +kernel
theorem dX6_yearOf_7 : decode cX6_yearOf 7 = .ok (.iload_n 2, 1) := by decide +kernel
theorem dX6_yearOf_8 : decode cX6_yearOf 8 = .ok (.aload_n 0, 1) := by decide +kernel
theorem dX6_yearOf_9 : decode cX6_yearOf 9 = .ok (.getfield 23, 3) := by decide +kernel
theorem dX6_yearOf_12 : decode cX6_yearOf 12 = .ok (.iconst 0, 1) := by decide +kernel
theorem dX6_yearOf_13 : decode cX6_yearOf 13 = .ok (.iaload, 1) := by decide +kernel
theorem dX6_yearOf_14 : decode cX6_yearOf 14 = .ok (.if_icmp .ge 46, 3) := by decide +kernel
theorem dX6_yearOf_17 : decode cX6_yearOf 17 = .ok (.ldc2_w 204, 3) := by decide +kernel
theorem dX6_yearOf_20 : decode cX6_yearOf 20 = .ok (.iload_n 1, 1) := by decide +kernel
theorem dX6_yearOf_21 : decode cX6_yearOf 21 = .ok (.i2l, 1) := by decide +kernel
theorem dX6_yearOf_22 : decode cX6_yearOf 22 = .ok (.lmul, 1) := by decide +kernel
theorem dX6_yearOf_23 : decode cX6_yearOf 23 = .ok (.ldc2_w 206, 3) := by decide +kernel
theorem dX6_yearOf_26 : decode cX6_yearOf 26 = .ok (.iload_n 2, 1) := by decide +kernel
theorem dX6_yearOf_27 : decode cX6_yearOf 27 = .ok (.i2l, 1) := by decide +kernel
theorem dX6_yearOf_28 : decode cX6_yearOf 28 = .ok (.lmul, 1) := by decide +kernel
theorem dX6_yearOf_29 : decode cX6_yearOf 29 = .ok (.ladd, 1) := by decide +kernel
theorem dX6_yearOf_30 : decode cX6_yearOf 30 = .ok (.lconst 1, 1) := by decide +kernel
theorem dX6_yearOf_31 : decode cX6_yearOf 31 = .ok (.ladd, 1) := by decide +kernel
theorem dX6_yearOf_32 : decode cX6_yearOf 32 = .ok (.lstore_n 3, 1) := by decide +kernel
theorem dX6_yearOf_33 : decode cX6_yearOf 33 = .ok (.aload_n 0, 1) := by decide +kernel
theorem dX6_yearOf_34 : decode cX6_yearOf 34 = .ok (.getfield 29, 3) := by decide +kernel
theorem dX6_yearOf_37 : decode cX6_yearOf 37 = .ok (.bipush 83, 2) := by decide +kernel
theorem dX6_yearOf_39 : decode cX6_yearOf 39 = .ok (.iload_n 2, 1) := by decide +kernel
theorem dX6_yearOf_40 : decode cX6_yearOf 40 = .ok (.iadd, 1) := by decide +kernel
theorem dX6_yearOf_41 : decode cX6_yearOf 41 = .ok (.lload_n 3, 1) := by decide +kernel
theorem dX6_yearOf_42 : decode cX6_yearOf 42 = .ok (.lload_n 3, 1) := by decide +kernel
theorem dX6_yearOf_43 : decode cX6_yearOf 43 = .ok (.lmul, 1) := by decide +kernel
theorem dX6_yearOf_44 : decode cX6_yearOf 44 = .ok (.ldc2_w 208, 3) := by decide +kernel
theorem dX6_yearOf_47 : decode cX6_yearOf 47 = .ok (.lrem, 1) := by decide +kernel
theorem dX6_yearOf_48 : decode cX6_yearOf 48 = .ok (.ldc2_w 210, 3) := by decide +kernel
theorem dX6_yearOf_51 : decode cX6_yearOf 51 = .ok (.lrem, 1) := by decide +kernel
theorem dX6_yearOf_52 : decode cX6_yearOf 52 = .ok (.l2i, 1) := by decide +kernel
theorem dX6_yearOf_53 : decode cX6_yearOf 53 = .ok (.iastore, 1) := by decide +kernel
theorem dX6_yearOf_54 : decode cX6_yearOf 54 = .ok (.iinc 2 1, 3) := by decide +kernel
theorem dX6_yearOf_57 : decode cX6_yearOf 57 = .ok (.goto (-50), 3) := by decide +kernel
theorem dX6_yearOf_60 : decode cX6_yearOf 60 = .ok (.aload_n 0, 1) := by decide +kernel
theorem dX6_yearOf_61 : decode cX6_yearOf 61 = .ok (.invokevirtual 183, 3) := by decide +kernel
theorem dX6_yearOf_64 : decode cX6_yearOf 64 = .ok (.istore_n 2, 1) := by decide +kernel
theorem dX6_yearOf_65 : decode cX6_yearOf 65 = .ok (.iconst 0, 1) := by decide +kernel
theorem dX6_yearOf_66 : decode cX6_yearOf 66 = .ok (.istore_n 3, 1) := by decide +kernel
theorem dX6_yearOf_67 : decode cX6_yearOf 67 = .ok (.iload_n 3, 1) := by decide +kernel
theorem dX6_yearOf_68 : decode cX6_yearOf 68 = .ok (.sipush 200, 3) := by decide +kernel
theorem dX6_yearOf_71 : decode cX6_yearOf 71 = .ok (.if_icmp .ge 20, 3) := by decide +kernel
theorem dX6_yearOf_74 : decode cX6_yearOf 74 = .ok (.aload_n 0, 1) := by decide +kernel
theorem dX6_yearOf_75 : decode cX6_yearOf 75 = .ok (.iconst 3, 1) := by decide +kernel
theorem dX6_yearOf_76 : decode cX6_yearOf 76 = .ok (.iconst (-1), 1) := by decide +kernel
theorem dX6_yearOf_77 : decode cX6_yearOf 77 = .ok (.invokevirtual 140, 3) := by decide +kernel
theorem dX6_yearOf_80 : decode cX6_yearOf 80 = .ok (.aload_n 0, 1) := by decide +kernel
theorem dX6_yearOf_81 : decode cX6_yearOf 81 = .ok (.invokevirtual 183, 3) := by decide +kernel
theorem dX6_yearOf_84 : decode cX6_yearOf 84 = .ok (.istore_n 2, 1) := by decide +kernel
theorem dX6_yearOf_85 : decode cX6_yearOf 85 = .ok (.iinc 3 1, 3) := by decide +kernel
theorem dX6_yearOf_88 : decode cX6_yearOf 88 = .ok (.goto (-21), 3) := by decide +kernel
theorem dX6_yearOf_91 : decode cX6_yearOf 91 = .ok (.iload_n 2, 1) := by decide +kernel
theorem dX6_yearOf_92 : decode cX6_yearOf 92 = .ok (.ireturn, 1) := by decide +kernel
def rmX6_yearOf : Room := { frames := 6, cells := 0, slots := 0, locals := 143 }
def fX6_yearOf_67 : Nat → Int32 → Int32 → xm → Option (Int32 × xm)
  | 0, _, _, _ => none
  | n + 1, x2, x3, M => (if (200 : Int32) ≤ x3 then (some (x2, M)) else (fX6_hour 3 (-1) M).bind (fun M1 => (fX6_readAll M1).bind (fun q2 => (fX6_yearOf_67 n q2.1 (x3 + 1) q2.2))))
def fX6_yearOf_7 (x1 : Int32) : Nat → Int32 → xm → Option (Int32 × xm)
  | 0, _, _ => none
  | n + 1, x2, M => xchk 0 2 ((if (M.1 65 (0 : Int32).toNatClampNeg) ≤ x2 then (fX6_readAll M).bind (fun q3 => (fX6_yearOf_67 xfuel q3.1 0 q3.2)) else xl (((7919 * (Int32.toInt64 x1)) + (6151 * (Int32.toInt64 x2))) + 1) (fun v4 => xchk (83 + x2) 100 (xl (up M 67 ((83 + x2) : Int32).toNatClampNeg (Int64.toInt32 (((v4 * v4) - (v4 * v4) / 65521 * 65521) - ((v4 * v4) - (v4 * v4) / 65521 * 65521) / 16 * 16))) (fun M5 => (fX6_yearOf_7 x1 n (x2 + 1) M5))))))
def fX6_yearOf (x1 : Int32) (M : xm) : Option (Int32 × xm) := (fX6_laid 3 M).bind (fun M6 => (fX6_yearOf_7 x1 xfuel 0 M6))
section
variable {p : Program} {l : Launch} {e : Env} {s : State} {m : MethodId} {args : Array Value} {below : List Frame} {meth : Method} {c : Code} {D : va_G} {cs : Nat → ClassId} {S : List Nat} {ad : Nat → Nat}
theorem bX6_yearOf_67 (Z : CX p s m args meth c cX6_yearOf 5 RX6 (some .int) D cs (xA S ad) S ad) (hS : xalm S) : ∀ (n : Nat) (x2 : Int32) (x3 : Int32) (M : xm), XJ p l e rmX6_yearOf s m args below meth c D cs (xA S ad) S ad 5 (XRb below args s D cs S ad) 67 [(0, .ref (ad 60)), (2, .int x2), (3, .int x3)] [] M (fX6_yearOf_67 n x2 x3 M) := by
  intro n
  induction n with
  | zero => intros; exact xj_none
  | succ n ih =>
    intro x2 x3 M
    rw [fX6_yearOf_67]
    refine xj_iload_n Z 2 dX6_yearOf_67 rfl rfl ?_
    refine xj_sipush Z 200 dX6_yearOf_68 (by decide) ?_
    refine xj_icmp_ge Z 91 dX6_yearOf_71 (by decide) (fun _ => ?_) (fun _ => ?_)
    · refine xj_iload_n Z 1 dX6_yearOf_91 rfl rfl ?_
      exact xj_ret_b Z dX6_yearOf_92
    · refine xj_aload_n Z 0 dX6_yearOf_74 rfl rfl ?_
      refine xj_iconst Z 3 dX6_yearOf_75 (by decide) ?_
      refine xj_iconst Z (-1) dX6_yearOf_76 (by decide) ?_
      refine xj_callVm Z (As := [.int 3, .int (-1)]) (kX6_hour l D cs S ad Z.2.2.2.2.2.1.dist hS 3 (-1) M) gw_X6_140 (hS 60 (by decide) (by decide)) rfl rfl (n := 2) (by decide +kernel) rfl ⟨rfl, rfl⟩ (by decide) rfl (Nat.le_of_ble_eq_true rfl) dX6_yearOf_77 (fun M1 => ?_)
      refine xj_aload_n Z 0 dX6_yearOf_80 rfl rfl ?_
      refine xj_callVb Z (As := []) (kX6_readAll l D cs S ad Z.2.2.2.2.2.1.dist hS M1) gw_X6_183 (hS 60 (by decide) (by decide)) rfl rfl (n := 0) (by decide +kernel) rfl ⟨rfl, rfl⟩ (by decide) rfl (Nat.le_of_ble_eq_true rfl) dX6_yearOf_81 (fun q2 => ?_)
      refine xj_istore_n Z (lv' := [(2, .int q2.1), (0, .ref (ad 60)), (3, .int x3)]) dX6_yearOf_84 rfl (by decide) rfl ?_
      refine xj_iinc Z 2 (x3 + 1) (lv' := [(3, .int (x3 + 1)), (2, .int q2.1), (0, .ref (ad 60))]) dX6_yearOf_85 rfl rfl (by decide) rfl ?_
      refine xj_goto Z 67 dX6_yearOf_88 (by decide) ?_
      refine xj_sub [2, 1, 0] (lv' := [(0, .ref (ad 60)), (2, .int q2.1), (3, .int (x3 + 1))]) rfl ?_
      exact ih q2.1 (x3 + 1) q2.2
theorem bX6_yearOf_7 (Z : CX p s m args meth c cX6_yearOf 5 RX6 (some .int) D cs (xA S ad) S ad) (hS : xalm S) (x1 : Int32) : ∀ (n : Nat) (x2 : Int32) (M : xm), XJ p l e rmX6_yearOf s m args below meth c D cs (xA S ad) S ad 5 (XRb below args s D cs S ad) 7 [(0, .ref (ad 60)), (1, .int x1), (2, .int x2)] [] M (fX6_yearOf_7 x1 n x2 M) := by
  intro n
  induction n with
  | zero => intros; exact xj_none
  | succ n ih =>
    intro x2 M
    rw [fX6_yearOf_7]
    refine xj_iload_n Z 2 dX6_yearOf_7 rfl rfl ?_
    refine xj_aload_n Z 0 dX6_yearOf_8 rfl rfl ?_
    refine xg_X6_23 Z (hS 60 (by decide) (by decide)) dX6_yearOf_9 ?_
    refine xj_iconst Z 0 dX6_yearOf_12 (by decide) ?_
    refine xj_iald Z (hS 65 (by decide) (by decide)) rfl dX6_yearOf_13 (fun _ => ?_)
    refine xj_icmp_ge Z 60 dX6_yearOf_14 (by decide) (fun _ => ?_) (fun _ => ?_)
    · refine xj_aload_n Z 0 dX6_yearOf_60 rfl rfl ?_
      refine xj_callVb Z (As := []) (kX6_readAll l D cs S ad Z.2.2.2.2.2.1.dist hS M) gw_X6_183 (hS 60 (by decide) (by decide)) rfl rfl (n := 0) (by decide +kernel) rfl ⟨rfl, rfl⟩ (by decide) rfl (Nat.le_of_ble_eq_true rfl) dX6_yearOf_61 (fun q3 => ?_)
      refine xj_istore_n Z (lv' := [(2, .int q3.1), (0, .ref (ad 60)), (1, .int x1)]) dX6_yearOf_64 rfl (by decide) rfl ?_
      refine xj_iconst Z 0 dX6_yearOf_65 (by decide) ?_
      refine xj_istore_n Z (lv' := [(3, .int 0), (2, .int q3.1), (0, .ref (ad 60)), (1, .int x1)]) dX6_yearOf_66 rfl (by decide) rfl ?_
      refine xj_sub [2, 1, 0] (lv' := [(0, .ref (ad 60)), (2, .int q3.1), (3, .int 0)]) rfl ?_
      exact bX6_yearOf_67 Z hS xfuel q3.1 0 q3.2
    · refine xj_ldc2 Z dX6_yearOf_17 xb_569 ?_
      refine xj_iload_n Z 1 dX6_yearOf_20 rfl rfl ?_
      refine xj_i2l Z dX6_yearOf_21 ?_
      refine xj_lmul Z dX6_yearOf_22 ?_
      refine xj_ldc2 Z dX6_yearOf_23 xb_570 ?_
      refine xj_iload_n Z 2 dX6_yearOf_26 rfl rfl ?_
      refine xj_i2l Z dX6_yearOf_27 ?_
      refine xj_lmul Z dX6_yearOf_28 ?_
      refine xj_ladd Z dX6_yearOf_29 ?_
      refine xj_lconst Z 1 dX6_yearOf_30 (by decide) ?_
      refine xj_ladd Z dX6_yearOf_31 ?_
      refine xj_topl (fun v4 => ?_)
      refine xj_lstore_n Z (lv' := [(3, .long v4), (0, .ref (ad 60)), (1, .int x1), (2, .int x2)]) dX6_yearOf_32 rfl (by decide) rfl ?_
      refine xj_aload_n Z 1 dX6_yearOf_33 rfl rfl ?_
      refine xg_X6_29 Z (hS 60 (by decide) (by decide)) dX6_yearOf_34 ?_
      refine xj_bipush Z 83 dX6_yearOf_37 (by decide) ?_
      refine xj_iload_n Z 3 dX6_yearOf_39 rfl rfl ?_
      refine xj_iadd Z dX6_yearOf_40 ?_
      refine xj_lload_n Z 0 dX6_yearOf_41 rfl rfl ?_
      refine xj_lload_n Z 0 dX6_yearOf_42 rfl rfl ?_
      refine xj_lmul Z dX6_yearOf_43 ?_
      refine xj_ldc2 Z dX6_yearOf_44 xb_571 ?_
      refine xj_lrem Z dX6_yearOf_47 (by decide) ?_
      refine xj_ldc2 Z dX6_yearOf_48 xb_572 ?_
      refine xj_lrem Z dX6_yearOf_51 (by decide) ?_
      refine xj_l2i Z dX6_yearOf_52 ?_
      refine xj_iast Z (hS 67 (by decide) (by decide)) rfl dX6_yearOf_53 (fun M5 _ => ?_)
      refine xj_iinc Z 3 (x2 + 1) (lv' := [(2, .int (x2 + 1)), (3, .long v4), (0, .ref (ad 60)), (1, .int x1)]) dX6_yearOf_54 rfl rfl (by decide) rfl ?_
      refine xj_goto Z 7 dX6_yearOf_57 (by decide) ?_
      refine xj_sub [2, 3, 0] (lv' := [(0, .ref (ad 60)), (1, .int x1), (2, .int (x2 + 1))]) rfl ?_
      exact ih (x2 + 1) M5
end
theorem kX6_yearOf (l : Launch) (D : va_G) (cs : Nat → ClassId) (S : List Nat) (ad : Nat → Nat) (hd : xdist S ad) (hS : xalm S) (x1 : Int32) (M : xm) : ∀ r, fX6_yearOf x1 M = some r → Met l yX6_yearOf [Cond.code yX6_yearOf cX6_yearOf 5 (some .int)] rmX6_yearOf (XPc D cs S ad [.ref (ad 60), .int x1] M) (XQi D cs S ad r.1 r.2) 0 0 (xA S ad) := by
  refine xm_b (own := RX6) (lv := [(0, .ref (ad 60)), (1, .int x1)]) (by decide +kernel) rfl rfl (Nat.le_of_ble_eq_true rfl) hd (fun p e s m args below meth c Z => ?_)
  unfold fX6_yearOf
  refine xj_aload_n Z 0 dX6_yearOf_0 rfl rfl ?_
  refine xj_iconst Z 3 dX6_yearOf_1 (by decide) ?_
  refine xj_callVm Z (As := [.int 3]) (kX6_laid l D cs S ad Z.2.2.2.2.2.1.dist hS 3 M) gw_X6_85 (hS 60 (by decide) (by decide)) rfl rfl (n := 1) (by decide +kernel) rfl ⟨rfl, rfl⟩ (by decide) rfl (Nat.le_of_ble_eq_true rfl) dX6_yearOf_2 (fun M6 => ?_)
  refine xj_iconst Z 0 dX6_yearOf_5 (by decide) ?_
  refine xj_istore_n Z (lv' := [(2, .int 0), (0, .ref (ad 60)), (1, .int x1)]) dX6_yearOf_6 rfl (by decide) rfl ?_
  refine xj_sub [1, 2, 0] (lv' := [(0, .ref (ad 60)), (1, .int x1), (2, .int 0)]) rfl ?_
  exact bX6_yearOf_7 Z hS x1 xfuel 0 M6
/-! WalkingLawModel.isSeed(I)Z -/
theorem dX6_isSeed_0 : decode cX6_isSeed 0 = .ok (.iload_n 0, 1) := by decide +kernel
theorem dX6_isSeed_1 : decode cX6_isSeed 1 = .ok (.i2l, 1) := by decide +kernel
theorem dX6_isSeed_2 : decode cX6_isSeed 2 = .ok (.lconst 0, 1) := by decide +kernel
theorem dX6_isSeed_3 : decode cX6_isSeed 3 = .ok (.ldc2_w 212, 3) := by decide +kernel
theorem dX6_isSeed_6 : decode cX6_isSeed 6 = .ok (.invokestatic 56, 3) := by decide +kernel
theorem dX6_isSeed_9 : decode cX6_isSeed 9 = .ok (.ireturn, 1) := by decide +kernel
def rmX6_isSeed : Room := { frames := 1, cells := 0, slots := 0, locals := 25 }
def fX6_isSeed (x0 : Int32) (M : xm) : Option (Int32) := (fX6_in (Int32.toInt64 x0) 0 9999 M).bind (fun v1 => (xbo v1 (some v1)))
section
variable {p : Program} {l : Launch} {e : Env} {s : State} {m : MethodId} {args : Array Value} {below : List Frame} {meth : Method} {c : Code} {D : va_G} {cs : Nat → ClassId} {S : List Nat} {ad : Nat → Nat}
end
theorem kX6_isSeed (l : Launch) (D : va_G) (cs : Nat → ClassId) (S : List Nat) (ad : Nat → Nat) (hd : xdist S ad) (x0 : Int32) (M : xm) : ∀ r, fX6_isSeed x0 M = some r → Met l yX6_isSeed [Cond.code yX6_isSeed cX6_isSeed 1 (some .boolean)] rmX6_isSeed (XPc D cs S ad [.int x0] M) (XQi D cs S ad r M) 0 0 (xA S ad) := by
  refine xm_r (own := RX6) (lv := [(0, .int x0)]) (by decide +kernel) rfl rfl (Nat.le_of_ble_eq_true rfl) hd (fun p e s m args below meth c Z => ?_)
  unfold fX6_isSeed
  refine xj_iload_n Z 0 dX6_isSeed_0 rfl rfl ?_
  refine xj_i2l Z dX6_isSeed_1 ?_
  refine xj_lconst Z 0 dX6_isSeed_2 (by decide) ?_
  refine xj_ldc2 Z dX6_isSeed_3 xb_575 ?_
  refine xj_callSr Z (As := [.long (Int32.toInt64 x0), .long 0, .long 9999]) (kX6_in l D cs S ad Z.2.2.2.2.2.1.dist (Int32.toInt64 x0) 0 9999 M) gw_X6_56 (n := 3) (by decide +kernel) rfl ⟨rfl, rfl⟩ (by decide) rfl (Nat.le_of_ble_eq_true rfl) dX6_isSeed_6 (fun v1 => ?_)
  exact xj_zret_r Z dX6_isSeed_9
/-! WalkingLawModel.year(I)I -/
theorem dX6_year_0 : decode cX6_year 0 = .ok (.iload_n 1, 1) := by decide +kernel
theorem dX6_year_1 : decode cX6_year 1 = .ok (.invokestatic 214, 3) := by decide +kernel
theorem dX6_year_4 : decode cX6_year 4 = .ok (.ifCond .eq 11, 3) := by decide +kernel
theorem dX6_year_7 : decode cX6_year 7 = .ok (.aload_n 0, 1) := by decide +kernel
theorem dX6_year_8 : decode cX6_year 8 = .ok (.iload_n 1, 1) := by decide +kernel
theorem dX6_year_9 : decode cX6_year 9 = .ok (.invokevirtual 217, 3) := by decide +kernel
theorem dX6_year_12 : decode cX6_year 12 = .ok (.goto 4, 3) := by decide +kernel
theorem dX6_year_15 : decode cX6_year 15 = .ok (.iconst (-1), 1) := by decide +kernel
theorem dX6_year_16 : decode cX6_year 16 = .ok (.ireturn, 1) := by decide +kernel
def rmX6_year : Room := { frames := 7, cells := 0, slots := 0, locals := 167 }
def fX6_year_16 (t0 : Int32) (M : xm) : Option (Int32 × xm) := (some (t0, M))
def fX6_year (x1 : Int32) (M : xm) : Option (Int32 × xm) := (fX6_isSeed x1 M).bind (fun v1 => (if v1 = 0 then (fX6_year_16 (-1) M) else (fX6_yearOf x1 M).bind (fun q2 => (fX6_year_16 q2.1 q2.2))))
section
variable {p : Program} {l : Launch} {e : Env} {s : State} {m : MethodId} {args : Array Value} {below : List Frame} {meth : Method} {c : Code} {D : va_G} {cs : Nat → ClassId} {S : List Nat} {ad : Nat → Nat}
theorem bX6_year_16 (Z : CX p s m args meth c cX6_year 2 RX6 (some .int) D cs (xA S ad) S ad) (hS : xalm S) (t0 : Int32) (M : xm) : XJ p l e rmX6_year s m args below meth c D cs (xA S ad) S ad 2 (XRb below args s D cs S ad) 16 [] [.int t0] M (fX6_year_16 t0 M) := by
  unfold fX6_year_16
  exact xj_ret_b Z dX6_year_16
end
theorem kX6_year (l : Launch) (D : va_G) (cs : Nat → ClassId) (S : List Nat) (ad : Nat → Nat) (hd : xdist S ad) (hS : xalm S) (x1 : Int32) (M : xm) : ∀ r, fX6_year x1 M = some r → Met l yX6_year [Cond.code yX6_year cX6_year 2 (some .int)] rmX6_year (XPc D cs S ad [.ref (ad 60), .int x1] M) (XQi D cs S ad r.1 r.2) 0 0 (xA S ad) := by
  refine xm_b (own := RX6) (lv := [(0, .ref (ad 60)), (1, .int x1)]) (by decide +kernel) rfl rfl (Nat.le_of_ble_eq_true rfl) hd (fun p e s m args below meth c Z => ?_)
  unfold fX6_year
  refine xj_iload_n Z 1 dX6_year_0 rfl rfl ?_
  refine xj_callSr Z (As := [.int x1]) (kX6_isSeed l D cs S ad Z.2.2.2.2.2.1.dist x1 M) gw_X6_214 (n := 1) (by decide +kernel) rfl ⟨rfl, rfl⟩ (by decide) rfl (Nat.le_of_ble_eq_true rfl) dX6_year_1 (fun v1 => ?_)
  refine xj_if_eq Z 15 dX6_year_4 (by decide) (fun _ => ?_) (fun _ => ?_)
  · refine xj_iconst Z (-1) dX6_year_15 (by decide) ?_
    refine xj_sub [] (lv' := []) rfl ?_
    exact bX6_year_16 Z hS (-1) M
  · refine xj_aload_n Z 0 dX6_year_7 rfl rfl ?_
    refine xj_iload_n Z 1 dX6_year_8 rfl rfl ?_
    refine xj_callVb Z (As := [.int x1]) (kX6_yearOf l D cs S ad Z.2.2.2.2.2.1.dist hS x1 M) gw_X6_217 (hS 60 (by decide) (by decide)) rfl rfl (n := 1) (by decide +kernel) rfl ⟨rfl, rfl⟩ (by decide) rfl (Nat.le_of_ble_eq_true rfl) dX6_year_9 (fun q2 => ?_)
    refine xj_goto Z 16 dX6_year_12 (by decide) ?_
    refine xj_sub [] (lv' := []) rfl ?_
    exact bX6_year_16 Z hS q2.1 q2.2
/-! WalkingLawModel.ten(II)I -/
theorem dX6_ten_0 : decode cX6_ten 0 = .ok (.iload_n 1, 1) := by decide +kernel
theorem dX6_ten_1 : decode cX6_ten 1 = .ok (.invokestatic 214, 3) := by decide +kernel
theorem dX6_ten_4 : decode cX6_ten 4 = .ok (.ifCond .eq 11, 3) := by decide +kernel
theorem dX6_ten_7 : decode cX6_ten 7 = .ok (.aload_n 0, 1) := by decide +kernel
theorem dX6_ten_8 : decode cX6_ten 8 = .ok (.iload_n 2, 1) := by decide +kernel
theorem dX6_ten_9 : decode cX6_ten 9 = .ok (.invokevirtual 153, 3) := by decide +kernel
theorem dX6_ten_12 : decode cX6_ten 12 = .ok (.ifCond .ne 5, 3) := by decide +kernel
theorem dX6_ten_15 : decode cX6_ten 15 = .ok (.iconst (-1), 1) := by decide +kernel
theorem dX6_ten_16 : decode cX6_ten 16 = .ok (.ireturn, 1) := by decide +kernel
theorem dX6_ten_17 : decode cX6_ten 17 = .ok (.iconst 0, 1) := by decide +kernel
theorem dX6_ten_18 : decode cX6_ten 18 = .ok (.istore_n 3, 1) := by decide +kernel
theorem dX6_ten_19 : decode cX6_ten 19 = .ok (.iconst 0, 1) := by decide +kernel
theorem dX6_ten_20 : decode cX6_ten 20 = .ok (.istore 4, 2) := by decide +kernel
theorem dX6_ten_22 : decode cX6_ten 22 = .ok (.iload 4, 2) := by decide +kernel
theorem dX6_ten_24 : decode cX6_ten 24 = .ok (.bipush 10, 2) := by decide +kernel
theorem dX6_ten_26 : decode cX6_ten 26 = .ok (.if_icmp .ge 28, 3) := by decide +kernel
theorem dX6_ten_29 : decode cX6_ten 29 = .ok (.iload_n 3, 1) := by decide +kernel
theorem dX6_ten_30 : decode cX6_ten 30 = .ok (.aload_n 0, 1) := by decide +kernel
theorem dX6_ten_31 : decode cX6_ten 31 = .ok (.iload_n 1, 1) := by decide +kernel
theorem dX6_ten_32 : decode cX6_ten 32 = .ok (.iload 4, 2) := by decide +kernel
theorem dX6_ten_34 : decode cX6_ten 34 = .ok (.iadd, 1) := by decide +kernel
theorem dX6_ten_35 : decode cX6_ten 35 = .ok (.sipush 10000, 3) := by decide +kernel
theorem dX6_ten_38 : decode cX6_ten 38 = .ok (.irem, 1) := by decide +kernel
theorem dX6_ten_39 : decode cX6_ten 39 = .ok (.invokevirtual 217, 3) := by decide +kernel
theorem dX6_ten_42 : decode cX6_ten 42 = .ok (.iload_n 2, 1) := by decide +kernel
theorem dX6_ten_43 : decode cX6_ten 43 = .ok (.ishr, 1) := by decide +kernel
theorem dX6_ten_44 : decode cX6_ten 44 = .ok (.iconst 1, 1) := by decide +kernel
theorem dX6_ten_45 : decode cX6_ten 45 = .ok (.iand, 1) := by decide +kernel
theorem dX6_ten_46 : decode cX6_ten 46 = .ok (.iadd, 1) := by decide +kernel
theorem dX6_ten_47 : decode cX6_ten 47 = .ok (.istore_n 3, 1) := by decide +kernel
theorem dX6_ten_48 : decode cX6_ten 48 = .ok (.iinc 4 1, 3) := by decide +kernel
theorem dX6_ten_51 : decode cX6_ten 51 = .ok (.goto (-29), 3) := by decide +kernel
theorem dX6_ten_54 : decode cX6_ten 54 = .ok (.iload_n 3, 1) := by decide +kernel
theorem dX6_ten_55 : decode cX6_ten 55 = .ok (.ireturn, 1) := by decide +kernel
def rmX6_ten : Room := { frames := 7, cells := 0, slots := 0, locals := 167 }
def fX6_ten_15 (M : xm) : Option (Int32 × xm) := (some ((-1), M))
def fX6_ten_22 (x1 : Int32) (x2 : Int32) : Nat → Int32 → Int32 → xm → Option (Int32 × xm)
  | 0, _, _, _ => none
  | n + 1, x3, x4, M => (if (10 : Int32) ≤ x4 then (some (x3, M)) else (fX6_yearOf ((x1 + x4) - (x1 + x4) / 10000 * 10000) M).bind (fun q1 => xl (x3 + ((q1.1 >>> (x2 &&& 31)) &&& 1)) (fun v2 => (fX6_ten_22 x1 x2 n v2 (x4 + 1) q1.2))))
def fX6_ten (x1 : Int32) (x2 : Int32) (M : xm) : Option (Int32 × xm) := (fX6_isSeed x1 M).bind (fun v3 => (if v3 = 0 then (fX6_ten_15 M) else (fX6_isBill x2 M).bind (fun v4 => (if v4 = 0 then (fX6_ten_15 M) else (fX6_ten_22 x1 x2 xfuel 0 0 M)))))
section
variable {p : Program} {l : Launch} {e : Env} {s : State} {m : MethodId} {args : Array Value} {below : List Frame} {meth : Method} {c : Code} {D : va_G} {cs : Nat → ClassId} {S : List Nat} {ad : Nat → Nat}
theorem bX6_ten_15 (Z : CX p s m args meth c cX6_ten 5 RX6 (some .int) D cs (xA S ad) S ad) (hS : xalm S) (M : xm) : XJ p l e rmX6_ten s m args below meth c D cs (xA S ad) S ad 5 (XRb below args s D cs S ad) 15 [] [] M (fX6_ten_15 M) := by
  unfold fX6_ten_15
  refine xj_iconst Z (-1) dX6_ten_15 (by decide) ?_
  exact xj_ret_b Z dX6_ten_16
theorem bX6_ten_22 (Z : CX p s m args meth c cX6_ten 5 RX6 (some .int) D cs (xA S ad) S ad) (hS : xalm S) (x1 : Int32) (x2 : Int32) : ∀ (n : Nat) (x3 : Int32) (x4 : Int32) (M : xm), XJ p l e rmX6_ten s m args below meth c D cs (xA S ad) S ad 5 (XRb below args s D cs S ad) 22 [(0, .ref (ad 60)), (1, .int x1), (2, .int x2), (3, .int x3), (4, .int x4)] [] M (fX6_ten_22 x1 x2 n x3 x4 M) := by
  intro n
  induction n with
  | zero => intros; exact xj_none
  | succ n ih =>
    intro x3 x4 M
    rw [fX6_ten_22]
    refine xj_iload Z 4 dX6_ten_22 rfl ?_
    refine xj_bipush Z 10 dX6_ten_24 (by decide) ?_
    refine xj_icmp_ge Z 54 dX6_ten_26 (by decide) (fun _ => ?_) (fun _ => ?_)
    · refine xj_iload_n Z 3 dX6_ten_54 rfl rfl ?_
      exact xj_ret_b Z dX6_ten_55
    · refine xj_iload_n Z 3 dX6_ten_29 rfl rfl ?_
      refine xj_aload_n Z 0 dX6_ten_30 rfl rfl ?_
      refine xj_iload_n Z 1 dX6_ten_31 rfl rfl ?_
      refine xj_iload Z 4 dX6_ten_32 rfl ?_
      refine xj_iadd Z dX6_ten_34 ?_
      refine xj_sipush Z 10000 dX6_ten_35 (by decide) ?_
      refine xj_irem Z dX6_ten_38 (by decide) ?_
      refine xj_callVb Z (As := [.int ((x1 + x4) - (x1 + x4) / 10000 * 10000)]) (kX6_yearOf l D cs S ad Z.2.2.2.2.2.1.dist hS ((x1 + x4) - (x1 + x4) / 10000 * 10000) M) gw_X6_217 (hS 60 (by decide) (by decide)) rfl rfl (n := 1) (by decide +kernel) rfl ⟨rfl, rfl⟩ (by decide) rfl (Nat.le_of_ble_eq_true rfl) dX6_ten_39 (fun q1 => ?_)
      refine xj_iload_n Z 2 dX6_ten_42 rfl rfl ?_
      refine xj_ishr Z dX6_ten_43 ?_
      refine xj_iconst Z 1 dX6_ten_44 (by decide) ?_
      refine xj_iand Z dX6_ten_45 ?_
      refine xj_iadd Z dX6_ten_46 ?_
      refine xj_top (fun v2 => ?_)
      refine xj_istore_n Z (lv' := [(3, .int v2), (0, .ref (ad 60)), (1, .int x1), (2, .int x2), (4, .int x4)]) dX6_ten_47 rfl (by decide) rfl ?_
      refine xj_iinc Z 4 (x4 + 1) (lv' := [(4, .int (x4 + 1)), (3, .int v2), (0, .ref (ad 60)), (1, .int x1), (2, .int x2)]) dX6_ten_48 rfl rfl (by decide) rfl ?_
      refine xj_goto Z 22 dX6_ten_51 (by decide) ?_
      refine xj_sub [2, 3, 4, 1, 0] (lv' := [(0, .ref (ad 60)), (1, .int x1), (2, .int x2), (3, .int v2), (4, .int (x4 + 1))]) rfl ?_
      exact ih v2 (x4 + 1) q1.2
end
theorem kX6_ten (l : Launch) (D : va_G) (cs : Nat → ClassId) (S : List Nat) (ad : Nat → Nat) (hd : xdist S ad) (hS : xalm S) (x1 : Int32) (x2 : Int32) (M : xm) : ∀ r, fX6_ten x1 x2 M = some r → Met l yX6_ten [Cond.code yX6_ten cX6_ten 5 (some .int)] rmX6_ten (XPc D cs S ad [.ref (ad 60), .int x1, .int x2] M) (XQi D cs S ad r.1 r.2) 0 0 (xA S ad) := by
  refine xm_b (own := RX6) (lv := [(0, .ref (ad 60)), (1, .int x1), (2, .int x2)]) (by decide +kernel) rfl rfl (Nat.le_of_ble_eq_true rfl) hd (fun p e s m args below meth c Z => ?_)
  unfold fX6_ten
  refine xj_iload_n Z 1 dX6_ten_0 rfl rfl ?_
  refine xj_callSr Z (As := [.int x1]) (kX6_isSeed l D cs S ad Z.2.2.2.2.2.1.dist x1 M) gw_X6_214 (n := 1) (by decide +kernel) rfl ⟨rfl, rfl⟩ (by decide) rfl (Nat.le_of_ble_eq_true rfl) dX6_ten_1 (fun v3 => ?_)
  refine xj_if_eq Z 15 dX6_ten_4 (by decide) (fun _ => ?_) (fun _ => ?_)
  · refine xj_sub [] (lv' := []) rfl ?_
    exact bX6_ten_15 Z hS M
  · refine xj_aload_n Z 0 dX6_ten_7 rfl rfl ?_
    refine xj_iload_n Z 2 dX6_ten_8 rfl rfl ?_
    refine xj_callVr Z (As := [.int x2]) (kX6_isBill l D cs S ad Z.2.2.2.2.2.1.dist hS x2 M) gw_X6_153 (hS 60 (by decide) (by decide)) rfl rfl (n := 1) (by decide +kernel) rfl ⟨rfl, rfl⟩ (by decide) rfl (Nat.le_of_ble_eq_true rfl) dX6_ten_9 (fun v4 => ?_)
    refine xj_if_ne Z 17 dX6_ten_12 (by decide) (fun _ => ?_) (fun _ => ?_)
    · refine xj_iconst Z 0 dX6_ten_17 (by decide) ?_
      refine xj_istore_n Z (lv' := [(3, .int 0), (0, .ref (ad 60)), (1, .int x1), (2, .int x2)]) dX6_ten_18 rfl (by decide) rfl ?_
      refine xj_iconst Z 0 dX6_ten_19 (by decide) ?_
      refine xj_istore Z (lv' := [(4, .int 0), (3, .int 0), (0, .ref (ad 60)), (1, .int x1), (2, .int x2)]) dX6_ten_20 (by decide) rfl ?_
      refine xj_sub [2, 3, 4, 1, 0] (lv' := [(0, .ref (ad 60)), (1, .int x1), (2, .int x2), (3, .int 0), (4, .int 0)]) rfl ?_
      exact bX6_ten_22 Z hS x1 x2 xfuel 0 0 M
    · refine xj_sub [] (lv' := []) rfl ?_
      exact bX6_ten_15 Z hS M
/-! WalkingLawModel.keep()I -/
theorem dX6_keep_0 : decode cX6_keep 0 = .ok (.aload_n 0, 1) := by decide +kernel
theorem dX6_keep_1 : decode cX6_keep 1 = .ok (.getfield 92, 3) := by decide +kernel
theorem dX6_keep_4 : decode cX6_keep 4 = .ok (.iconst 2, 1) := by decide +kernel
theorem dX6_keep_5 : decode cX6_keep 5 = .ok (.if_icmp .ne 6, 3) := by decide +kernel
theorem dX6_keep_8 : decode cX6_keep 8 = .ok (.bipush (-3), 2) := by decide +kernel
theorem dX6_keep_10 : decode cX6_keep 10 = .ok (.ireturn, 1) := by decide +kernel
theorem dX6_keep_11 : decode cX6_keep 11 = .ok (.aload_n 0, 1) := by decide +kernel
theorem dX6_keep_12 : decode cX6_keep 12 = .ok (.dup, 1) := by decide +kernel
theorem dX6_keep_13 : decode cX6_keep 13 = .ok (.getfield 92, 3) := by decide +kernel
theorem dX6_keep_16 : decode cX6_keep 16 = .ok (.iconst 1, 1) := by decide +kernel
theorem dX6_keep_17 : decode cX6_keep 17 = .ok (.iadd, 1) := by decide +kernel
theorem dX6_keep_18 : decode cX6_keep 18 = .ok (.putfield 92, 3) := by decide +kernel
theorem dX6_keep_21 : decode cX6_keep 21 = .ok (.aload_n 0, 1) := by decide +kernel
theorem dX6_keep_22 : decode cX6_keep 22 = .ok (.iconst 0, 1) := by decide +kernel
theorem dX6_keep_23 : decode cX6_keep 23 = .ok (.aload_n 0, 1) := by decide +kernel
theorem dX6_keep_24 : decode cX6_keep 24 = .ok (.getfield 92, 3) := by decide +kernel
theorem dX6_keep_27 : decode cX6_keep 27 = .ok (.invokevirtual 167, 3) := by decide +kernel
theorem dX6_keep_30 : decode cX6_keep 30 = .ok (.aload_n 0, 1) := by decide +kernel
theorem dX6_keep_31 : decode cX6_keep 31 = .ok (.getfield 92, 3) := by decide +kernel
theorem dX6_keep_34 : decode cX6_keep 34 = .ok (.ireturn, 1) := by decide +kernel
def rmX6_keep : Room := { frames := 1, cells := 0, slots := 0, locals := 23 }
def fX6_keep (M : xm) : Option (Int32 × xm) := (if (M.1 60 9) = 2 then (some ((-3), M)) else xl (up M 60 9 ((M.1 60 9) + 1)) (fun M1 => (fX6_copies 0 (M1.1 60 9) M1).bind (fun M2 => (some ((M2.1 60 9), M2)))))
section
variable {p : Program} {l : Launch} {e : Env} {s : State} {m : MethodId} {args : Array Value} {below : List Frame} {meth : Method} {c : Code} {D : va_G} {cs : Nat → ClassId} {S : List Nat} {ad : Nat → Nat}
end
theorem kX6_keep (l : Launch) (D : va_G) (cs : Nat → ClassId) (S : List Nat) (ad : Nat → Nat) (hd : xdist S ad) (hS : xalm S) (M : xm) : ∀ r, fX6_keep M = some r → Met l yX6_keep [Cond.code yX6_keep cX6_keep 1 (some .int)] rmX6_keep (XPc D cs S ad [.ref (ad 60)] M) (XQi D cs S ad r.1 r.2) 0 0 (xA S ad) := by
  refine xm_b (own := RX6) (lv := [(0, .ref (ad 60))]) (by decide +kernel) rfl rfl (Nat.le_of_ble_eq_true rfl) hd (fun p e s m args below meth c Z => ?_)
  unfold fX6_keep
  refine xj_aload_n Z 0 dX6_keep_0 rfl rfl ?_
  refine xg_X6_92 Z (hS 60 (by decide) (by decide)) dX6_keep_1 ?_
  refine xj_iconst Z 2 dX6_keep_4 (by decide) ?_
  refine xj_icmp_ne Z 11 dX6_keep_5 (by decide) (fun _ => ?_) (fun _ => ?_)
  · refine xj_aload_n Z 0 dX6_keep_11 rfl rfl ?_
    refine xj_dup Z dX6_keep_12 rfl ?_
    refine xg_X6_92 Z (hS 60 (by decide) (by decide)) dX6_keep_13 ?_
    refine xj_iconst Z 1 dX6_keep_16 (by decide) ?_
    refine xj_iadd Z dX6_keep_17 ?_
    refine xp_X6_92 Z (hS 60 (by decide) (by decide)) dX6_keep_18 (fun M1 _ => ?_)
    refine xj_aload_n Z 0 dX6_keep_21 rfl rfl ?_
    refine xj_iconst Z 0 dX6_keep_22 (by decide) ?_
    refine xj_aload_n Z 0 dX6_keep_23 rfl rfl ?_
    refine xg_X6_92 Z (hS 60 (by decide) (by decide)) dX6_keep_24 ?_
    refine xj_callVm Z (As := [.int 0, .int (M1.1 60 9)]) (kX6_copies l D cs S ad Z.2.2.2.2.2.1.dist hS 0 (M1.1 60 9) M1) gw_X6_167 (hS 60 (by decide) (by decide)) rfl rfl (n := 2) (by decide +kernel) rfl ⟨rfl, rfl⟩ (by decide) rfl (Nat.le_of_ble_eq_true rfl) dX6_keep_27 (fun M2 => ?_)
    refine xj_aload_n Z 0 dX6_keep_30 rfl rfl ?_
    refine xg_X6_92 Z (hS 60 (by decide) (by decide)) dX6_keep_31 ?_
    exact xj_ret_b Z dX6_keep_34
  · refine xj_bipush Z (-3) dX6_keep_8 (by decide) ?_
    exact xj_ret_b Z dX6_keep_10
/-! WalkingLawModel.again()I -/
theorem dX6_again_0 : decode cX6_again 0 = .ok (.aload_n 0, 1) := by decide +kernel
theorem dX6_again_1 : decode cX6_again 1 = .ok (.getfield 92, 3) := by decide +kernel
theorem dX6_again_4 : decode cX6_again 4 = .ok (.ifCond .ne 6, 3) := by decide +kernel
theorem dX6_again_7 : decode cX6_again 7 = .ok (.bipush (-2), 2) := by decide +kernel
theorem dX6_again_9 : decode cX6_again 9 = .ok (.ireturn, 1) := by decide +kernel
theorem dX6_again_10 : decode cX6_again 10 = .ok (.aload_n 0, 1) := by decide +kernel
theorem dX6_again_11 : decode cX6_again 11 = .ok (.aload_n 0, 1) := by decide +kernel
theorem dX6_again_12 : decode cX6_again 12 = .ok (.getfield 92, 3) := by decide +kernel
theorem dX6_again_15 : decode cX6_again 15 = .ok (.iconst 0, 1) := by decide +kernel
theorem dX6_again_16 : decode cX6_again 16 = .ok (.invokevirtual 167, 3) := by decide +kernel
theorem dX6_again_19 : decode cX6_again 19 = .ok (.aload_n 0, 1) := by decide +kernel
theorem dX6_again_20 : decode cX6_again 20 = .ok (.dup, 1) := by decide +kernel
theorem dX6_again_21 : decode cX6_again 21 = .ok (.getfield 92, 3) := by decide +kernel
theorem dX6_again_24 : decode cX6_again 24 = .ok (.iconst 1, 1) := by decide +kernel
theorem dX6_again_25 : decode cX6_again 25 = .ok (.isub, 1) := by decide +kernel
theorem dX6_again_26 : decode cX6_again 26 = .ok (.putfield 92, 3) := by decide +kernel
theorem dX6_again_29 : decode cX6_again 29 = .ok (.aload_n 0, 1) := by decide +kernel
theorem dX6_again_30 : decode cX6_again 30 = .ok (.getfield 92, 3) := by decide +kernel
theorem dX6_again_33 : decode cX6_again 33 = .ok (.ireturn, 1) := by decide +kernel
def rmX6_again : Room := { frames := 1, cells := 0, slots := 0, locals := 23 }
def fX6_again (M : xm) : Option (Int32 × xm) := (if (M.1 60 9) = 0 then (some ((-2), M)) else (fX6_copies (M.1 60 9) 0 M).bind (fun M1 => xl (up M1 60 9 ((M1.1 60 9) - 1)) (fun M2 => (some ((M2.1 60 9), M2)))))
section
variable {p : Program} {l : Launch} {e : Env} {s : State} {m : MethodId} {args : Array Value} {below : List Frame} {meth : Method} {c : Code} {D : va_G} {cs : Nat → ClassId} {S : List Nat} {ad : Nat → Nat}
end
theorem kX6_again (l : Launch) (D : va_G) (cs : Nat → ClassId) (S : List Nat) (ad : Nat → Nat) (hd : xdist S ad) (hS : xalm S) (M : xm) : ∀ r, fX6_again M = some r → Met l yX6_again [Cond.code yX6_again cX6_again 1 (some .int)] rmX6_again (XPc D cs S ad [.ref (ad 60)] M) (XQi D cs S ad r.1 r.2) 0 0 (xA S ad) := by
  refine xm_b (own := RX6) (lv := [(0, .ref (ad 60))]) (by decide +kernel) rfl rfl (Nat.le_of_ble_eq_true rfl) hd (fun p e s m args below meth c Z => ?_)
  unfold fX6_again
  refine xj_aload_n Z 0 dX6_again_0 rfl rfl ?_
  refine xg_X6_92 Z (hS 60 (by decide) (by decide)) dX6_again_1 ?_
  refine xj_if_ne Z 10 dX6_again_4 (by decide) (fun _ => ?_) (fun _ => ?_)
  · refine xj_aload_n Z 0 dX6_again_10 rfl rfl ?_
    refine xj_aload_n Z 0 dX6_again_11 rfl rfl ?_
    refine xg_X6_92 Z (hS 60 (by decide) (by decide)) dX6_again_12 ?_
    refine xj_iconst Z 0 dX6_again_15 (by decide) ?_
    refine xj_callVm Z (As := [.int (M.1 60 9), .int 0]) (kX6_copies l D cs S ad Z.2.2.2.2.2.1.dist hS (M.1 60 9) 0 M) gw_X6_167 (hS 60 (by decide) (by decide)) rfl rfl (n := 2) (by decide +kernel) rfl ⟨rfl, rfl⟩ (by decide) rfl (Nat.le_of_ble_eq_true rfl) dX6_again_16 (fun M1 => ?_)
    refine xj_aload_n Z 0 dX6_again_19 rfl rfl ?_
    refine xj_dup Z dX6_again_20 rfl ?_
    refine xg_X6_92 Z (hS 60 (by decide) (by decide)) dX6_again_21 ?_
    refine xj_iconst Z 1 dX6_again_24 (by decide) ?_
    refine xj_isub Z dX6_again_25 ?_
    refine xp_X6_92 Z (hS 60 (by decide) (by decide)) dX6_again_26 (fun M2 _ => ?_)
    refine xj_aload_n Z 0 dX6_again_29 rfl rfl ?_
    refine xg_X6_92 Z (hS 60 (by decide) (by decide)) dX6_again_30 ?_
    exact xj_ret_b Z dX6_again_33
  · refine xj_bipush Z (-2) dX6_again_7 (by decide) ?_
    exact xj_ret_b Z dX6_again_9
/-! WalkingLawModel.count(I)I -/
theorem dX6_count_0 : decode cX6_count 0 = .ok (.iload_n 1, 1) := by decide +kernel
theorem dX6_count_1 : decode cX6_count 1 = .ok (.tableswitch 107 0 8 #[51, 58, 65, 72, 80, 85, 90, 95, 100], 51) := by decide +kernel
theorem dX6_count_52 : decode cX6_count 52 = .ok (.aload_n 0, 1) := by decide +kernel
theorem dX6_count_53 : decode cX6_count 53 = .ok (.getfield 17, 3) := by decide +kernel
theorem dX6_count_56 : decode cX6_count 56 = .ok (.iconst 0, 1) := by decide +kernel
theorem dX6_count_57 : decode cX6_count 57 = .ok (.iaload, 1) := by decide +kernel
theorem dX6_count_58 : decode cX6_count 58 = .ok (.ireturn, 1) := by decide +kernel
theorem dX6_count_59 : decode cX6_count 59 = .ok (.aload_n 0, 1) := by decide +kernel
theorem dX6_count_60 : decode cX6_count 60 = .ok (.getfield 23, 3) := by decide +kernel
theorem dX6_count_63 : decode cX6_count 63 = .ok (.iconst 0, 1) := by decide +kernel
theorem dX6_count_64 : decode cX6_count 64 = .ok (.iaload, 1) := by decide +kernel
theorem dX6_count_65 : decode cX6_count 65 = .ok (.ireturn, 1) := by decide +kernel
theorem dX6_count_66 : decode cX6_count 66 = .ok (.aload_n 0, 1) := by decide +kernel
theorem dX6_count_67 : decode cX6_count 67 = .ok (.getfield 13, 3) := by decide +kernel
theorem dX6_count_70 : decode cX6_count 70 = .ok (.iconst 1, 1) := by decide +kernel
theorem dX6_count_71 : decode cX6_count 71 = .ok (.iaload, 1) := by decide +kernel
theorem dX6_count_72 : decode cX6_count 72 = .ok (.ireturn, 1) := by decide +kernel
theorem dX6_count_73 : decode cX6_count 73 = .ok (.aload_n 0, 1) := by decide +kernel
theorem dX6_count_74 : decode cX6_count 74 = .ok (.getfield 29, 3) := by decide +kernel
theorem dX6_count_77 : decode cX6_count 77 = .ok (.bipush 24, 2) := by decide +kernel
theorem dX6_count_79 : decode cX6_count 79 = .ok (.iaload, 1) := by decide +kernel
theorem dX6_count_80 : decode cX6_count 80 = .ok (.ireturn, 1) := by decide +kernel
theorem dX6_count_81 : decode cX6_count 81 = .ok (.aload_n 0, 1) := by decide +kernel
theorem dX6_count_82 : decode cX6_count 82 = .ok (.invokevirtual 123, 3) := by decide +kernel
theorem dX6_count_85 : decode cX6_count 85 = .ok (.ireturn, 1) := by decide +kernel
theorem dX6_count_86 : decode cX6_count 86 = .ok (.aload_n 0, 1) := by decide +kernel
theorem dX6_count_87 : decode cX6_count 87 = .ok (.getfield 89, 3) := by decide +kernel
theorem dX6_count_90 : decode cX6_count 90 = .ok (.ireturn, 1) := by decide +kernel
theorem dX6_count_91 : decode cX6_count 91 = .ok (.aload_n 0, 1) := by decide +kernel
theorem dX6_count_92 : decode cX6_count 92 = .ok (.getfield 92, 3) := by decide +kernel
theorem dX6_count_95 : decode cX6_count 95 = .ok (.ireturn, 1) := by decide +kernel
theorem dX6_count_96 : decode cX6_count 96 = .ok (.aload_n 0, 1) := by decide +kernel
theorem dX6_count_97 : decode cX6_count 97 = .ok (.getfield 60, 3) := by decide +kernel
theorem dX6_count_100 : decode cX6_count 100 = .ok (.ireturn, 1) := by decide +kernel
theorem dX6_count_101 : decode cX6_count 101 = .ok (.aload_n 0, 1) := by decide +kernel
theorem dX6_count_102 : decode cX6_count 102 = .ok (.getfield 13, 3) := by decide +kernel
theorem dX6_count_105 : decode cX6_count 105 = .ok (.iconst 0, 1) := by decide +kernel
theorem dX6_count_106 : decode cX6_count 106 = .ok (.iaload, 1) := by decide +kernel
theorem dX6_count_107 : decode cX6_count 107 = .ok (.ireturn, 1) := by decide +kernel
theorem dX6_count_108 : decode cX6_count 108 = .ok (.iconst (-1), 1) := by decide +kernel
theorem dX6_count_109 : decode cX6_count 109 = .ok (.ireturn, 1) := by decide +kernel
def rmX6_count : Room := { frames := 2, cells := 0, slots := 0, locals := 43 }
def fX6_count (x1 : Int32) (M : xm) : Option (Int32) := (if x1 = 0 then xchk 0 2 ((some (M.1 63 (0 : Int32).toNatClampNeg))) else if x1 = 1 then xchk 0 2 ((some (M.1 65 (0 : Int32).toNatClampNeg))) else if x1 = 2 then xchk 1 4 ((some (M.1 62 (1 : Int32).toNatClampNeg))) else if x1 = 3 then xchk 24 100 ((some (M.1 67 (24 : Int32).toNatClampNeg))) else if x1 = 4 then (fX6_end M).bind (fun v1 => (some v1)) else if x1 = 5 then (some (M.1 60 10)) else if x1 = 6 then (some (M.1 60 9)) else if x1 = 7 then (some (M.1 60 0)) else if x1 = 8 then xchk 0 4 ((some (M.1 62 (0 : Int32).toNatClampNeg))) else (some (-1)))
section
variable {p : Program} {l : Launch} {e : Env} {s : State} {m : MethodId} {args : Array Value} {below : List Frame} {meth : Method} {c : Code} {D : va_G} {cs : Nat → ClassId} {S : List Nat} {ad : Nat → Nat}
end
theorem kX6_count (l : Launch) (D : va_G) (cs : Nat → ClassId) (S : List Nat) (ad : Nat → Nat) (hd : xdist S ad) (hS : xalm S) (x1 : Int32) (M : xm) : ∀ r, fX6_count x1 M = some r → Met l yX6_count [Cond.code yX6_count cX6_count 2 (some .int)] rmX6_count (XPc D cs S ad [.ref (ad 60), .int x1] M) (XQi D cs S ad r M) 0 0 (xA S ad) := by
  refine xm_r (own := RX6) (lv := [(0, .ref (ad 60)), (1, .int x1)]) (by decide +kernel) rfl rfl (Nat.le_of_ble_eq_true rfl) hd (fun p e s m args below meth c Z => ?_)
  unfold fX6_count
  refine xj_iload_n Z 1 dX6_count_0 rfl rfl ?_
  refine xj_ite (fun h => ?_) (fun h0 => ?_)
  · refine xj_tblIn Z 52 dX6_count_1 (by rw [h]; decide) (by rw [h]; decide) (by rw [h]; rfl) (by decide) ?_
    refine xj_aload_n Z 0 dX6_count_52 rfl rfl ?_
    refine xg_X6_17 Z (hS 60 (by decide) (by decide)) dX6_count_53 ?_
    refine xj_iconst Z 0 dX6_count_56 (by decide) ?_
    refine xj_iald Z (hS 63 (by decide) (by decide)) rfl dX6_count_57 (fun _ => ?_)
    exact xj_ret_r Z dX6_count_58
  refine xj_ite (fun h => ?_) (fun h1 => ?_)
  · refine xj_tblIn Z 59 dX6_count_1 (by rw [h]; decide) (by rw [h]; decide) (by rw [h]; rfl) (by decide) ?_
    refine xj_aload_n Z 0 dX6_count_59 rfl rfl ?_
    refine xg_X6_23 Z (hS 60 (by decide) (by decide)) dX6_count_60 ?_
    refine xj_iconst Z 0 dX6_count_63 (by decide) ?_
    refine xj_iald Z (hS 65 (by decide) (by decide)) rfl dX6_count_64 (fun _ => ?_)
    exact xj_ret_r Z dX6_count_65
  refine xj_ite (fun h => ?_) (fun h2 => ?_)
  · refine xj_tblIn Z 66 dX6_count_1 (by rw [h]; decide) (by rw [h]; decide) (by rw [h]; rfl) (by decide) ?_
    refine xj_aload_n Z 0 dX6_count_66 rfl rfl ?_
    refine xg_X6_13 Z (hS 60 (by decide) (by decide)) dX6_count_67 ?_
    refine xj_iconst Z 1 dX6_count_70 (by decide) ?_
    refine xj_iald Z (hS 62 (by decide) (by decide)) rfl dX6_count_71 (fun _ => ?_)
    exact xj_ret_r Z dX6_count_72
  refine xj_ite (fun h => ?_) (fun h3 => ?_)
  · refine xj_tblIn Z 73 dX6_count_1 (by rw [h]; decide) (by rw [h]; decide) (by rw [h]; rfl) (by decide) ?_
    refine xj_aload_n Z 0 dX6_count_73 rfl rfl ?_
    refine xg_X6_29 Z (hS 60 (by decide) (by decide)) dX6_count_74 ?_
    refine xj_bipush Z 24 dX6_count_77 (by decide) ?_
    refine xj_iald Z (hS 67 (by decide) (by decide)) rfl dX6_count_79 (fun _ => ?_)
    exact xj_ret_r Z dX6_count_80
  refine xj_ite (fun h => ?_) (fun h4 => ?_)
  · refine xj_tblIn Z 81 dX6_count_1 (by rw [h]; decide) (by rw [h]; decide) (by rw [h]; rfl) (by decide) ?_
    refine xj_aload_n Z 0 dX6_count_81 rfl rfl ?_
    refine xj_callVr Z (As := []) (kX6_end l D cs S ad Z.2.2.2.2.2.1.dist hS M) gw_X6_123 (hS 60 (by decide) (by decide)) rfl rfl (n := 0) (by decide +kernel) rfl ⟨rfl, rfl⟩ (by decide) rfl (Nat.le_of_ble_eq_true rfl) dX6_count_82 (fun v1 => ?_)
    exact xj_ret_r Z dX6_count_85
  refine xj_ite (fun h => ?_) (fun h5 => ?_)
  · refine xj_tblIn Z 86 dX6_count_1 (by rw [h]; decide) (by rw [h]; decide) (by rw [h]; rfl) (by decide) ?_
    refine xj_aload_n Z 0 dX6_count_86 rfl rfl ?_
    refine xg_X6_89 Z (hS 60 (by decide) (by decide)) dX6_count_87 ?_
    exact xj_ret_r Z dX6_count_90
  refine xj_ite (fun h => ?_) (fun h6 => ?_)
  · refine xj_tblIn Z 91 dX6_count_1 (by rw [h]; decide) (by rw [h]; decide) (by rw [h]; rfl) (by decide) ?_
    refine xj_aload_n Z 0 dX6_count_91 rfl rfl ?_
    refine xg_X6_92 Z (hS 60 (by decide) (by decide)) dX6_count_92 ?_
    exact xj_ret_r Z dX6_count_95
  refine xj_ite (fun h => ?_) (fun h7 => ?_)
  · refine xj_tblIn Z 96 dX6_count_1 (by rw [h]; decide) (by rw [h]; decide) (by rw [h]; rfl) (by decide) ?_
    refine xj_aload_n Z 0 dX6_count_96 rfl rfl ?_
    refine xg_X6_60 Z (hS 60 (by decide) (by decide)) dX6_count_97 ?_
    exact xj_ret_r Z dX6_count_100
  refine xj_ite (fun h => ?_) (fun h8 => ?_)
  · refine xj_tblIn Z 101 dX6_count_1 (by rw [h]; decide) (by rw [h]; decide) (by rw [h]; rfl) (by decide) ?_
    refine xj_aload_n Z 0 dX6_count_101 rfl rfl ?_
    refine xg_X6_13 Z (hS 60 (by decide) (by decide)) dX6_count_102 ?_
    refine xj_iconst Z 0 dX6_count_105 (by decide) ?_
    refine xj_iald Z (hS 62 (by decide) (by decide)) rfl dX6_count_106 (fun _ => ?_)
    exact xj_ret_r Z dX6_count_107
  refine xj_tblOut Z 108 dX6_count_1 (by have := xti (n := 0) _ (by decide) h0; have := xti (n := 1) _ (by decide) h1; have := xti (n := 2) _ (by decide) h2; have := xti (n := 3) _ (by decide) h3; have := xti (n := 4) _ (by decide) h4; have := xti (n := 5) _ (by decide) h5; have := xti (n := 6) _ (by decide) h6; have := xti (n := 7) _ (by decide) h7; have := xti (n := 8) _ (by decide) h8; omega) (by decide) ?_
  refine xj_iconst Z (-1) dX6_count_108 (by decide) ?_
  exact xj_ret_r Z dX6_count_109
