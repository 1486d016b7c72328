/-! WalkingLaw$Text.append(IJ)Z -/
theorem dX3_append_0 : decode cX3_append 0 = .ok (.iload_n 1, 1) := by decide +kernel
theorem dX3_append_1 : decode cX3_append 1 = .ok (.sipush 300, 3) := by decide +kernel
theorem dX3_append_4 : decode cX3_append 4 = .ok (.aload_n 0, 1) := by decide +kernel
theorem dX3_append_5 : decode cX3_append 5 = .ok (.getfield 19, 3) := by decide +kernel
theorem dX3_append_8 : decode cX3_append 8 = .ok (.isub, 1) := by decide +kernel
theorem dX3_append_9 : decode cX3_append 9 = .ok (.if_icmp .le 5, 3) := by decide +kernel
theorem dX3_append_12 : decode cX3_append 12 = .ok (.iconst 0, 1) := by decide +kernel
theorem dX3_append_13 : decode cX3_append 13 = .ok (.ireturn, 1) := by decide +kernel
theorem dX3_append_14 : decode cX3_append 14 = .ok (.iload_n 1, 1) := by decide +kernel
theorem dX3_append_15 : decode cX3_append 15 = .ok (.iconst 1, 1) := by decide +kernel
theorem dX3_append_16 : decode cX3_append 16 = .ok (.isub, 1) := by decide +kernel
theorem dX3_append_17 : decode cX3_append 17 = .ok (.istore 4, 2) := by decide +kernel
theorem dX3_append_19 : decode cX3_append 19 = .ok (.iload 4, 2) := by decide +kernel
theorem dX3_append_21 : decode cX3_append 21 = .ok (.ifCond .lt 37, 3) := by decide +kernel
theorem dX3_append_24 : decode cX3_append 24 = .ok (.aload_n 0, 1) := by decide +kernel
theorem dX3_append_25 : decode cX3_append 25 = .ok (.getfield 9, 3) := by decide +kernel
theorem dX3_append_28 : decode cX3_append 28 = .ok (.aload_n 0, 1) := by decide +kernel
theorem dX3_append_29 : decode cX3_append 29 = .ok (.getfield 19, 3) := by decide +kernel
theorem dX3_append_32 : decode cX3_append 32 = .ok (.lload_n 2, 1) := by decide +kernel
theorem dX3_append_33 : decode cX3_append 33 = .ok (.bipush 8, 2) := by decide +kernel
theorem dX3_append_35 : decode cX3_append 35 = .ok (.iload 4, 2) := by decide +kernel
theorem dX3_append_37 : decode cX3_append 37 = .ok (.imul, 1) := by decide +kernel
theorem dX3_append_38 : decode cX3_append 38 = .ok (.lshr, 1) := by decide +kernel
theorem dX3_append_39 : decode cX3_append 39 = .ok (.l2i, 1) := by decide +kernel
theorem dX3_append_40 : decode cX3_append 40 = .ok (.i2b, 1) := by decide +kernel
theorem dX3_append_41 : decode cX3_append 41 = .ok (.bastore, 1) := by decide +kernel
theorem dX3_append_42 : decode cX3_append 42 = .ok (.aload_n 0, 1) := by decide +kernel
theorem dX3_append_43 : decode cX3_append 43 = .ok (.dup, 1) := by decide +kernel
theorem dX3_append_44 : decode cX3_append 44 = .ok (.getfield 19, 3) := by decide +kernel
theorem dX3_append_47 : decode cX3_append 47 = .ok (.iconst 1, 1) := by decide +kernel
theorem dX3_append_48 : decode cX3_append 48 = .ok (.iadd, 1) := by decide +kernel
theorem dX3_append_49 : decode cX3_append 49 = .ok (.putfield 19, 3) := by decide +kernel
theorem dX3_append_52 : decode cX3_append 52 = .ok (.iinc 4 (-1), 3) := by decide +kernel
theorem dX3_append_55 : decode cX3_append 55 = .ok (.goto (-36), 3) := by decide +kernel
theorem dX3_append_58 : decode cX3_append 58 = .ok (.iconst 1, 1) := by decide +kernel
theorem dX3_append_59 : decode cX3_append 59 = .ok (.ireturn, 1) := by decide +kernel
def rmX3_append : Room := { frames := 0, cells := 0, slots := 0, locals := 0 }
def fX3_append_19 (y2 : Int64) : Nat → Int32 → xm → Option (Int32 × xm)
  | 0, _, _ => none
  | n + 1, x4, M => (if x4 < 0 then (xbo 1 (some (1, M))) else xchk (M.1 1 2) 300 (xl (up M 2 ((M.1 1 2) : Int32).toNatClampNeg (vp_nar .byte (Int8.toInt32 (Int32.toInt8 (Int64.toInt32 (y2 >>> (Int32.toInt64 (8 * x4) &&& 63))))))) (fun M1 => xl (up M1 1 2 ((M1.1 1 2) + 1)) (fun M2 => (fX3_append_19 y2 n (x4 + (-1)) M2)))))
def fX3_append (x1 : Int32) (y2 : Int64) (M : xm) : Option (Int32 × xm) := (if x1 ≤ (300 - (M.1 1 2)) then xl (x1 - 1) (fun v3 => (fX3_append_19 y2 xfuel v3 M)) else (xbo 0 (some (0, M))))
section
variable {p : Program} {l : Launch} {e : Env} {s : State} {m : MethodId} {args : Array Value} {below : List Frame} {meth : Method} {c : Code} {D : va_G} {cs : Nat → ClassId} {S : List Nat} {ad : Nat → Nat}
theorem bX3_append_19 (Z : CX p s m args meth c cX3_append 5 RX3 (some .boolean) D cs (xA S ad) S ad) (hS : xall S) (y2 : Int64) : ∀ (n : Nat) (x4 : Int32) (M : xm), XJ p l e rmX3_append s m args below meth c D cs (xA S ad) S ad 5 (XRb below args s D cs S ad) 19 [(0, .ref (ad 1)), (2, .long y2), (4, .int x4)] [] M (fX3_append_19 y2 n x4 M) := by
  intro n
  induction n with
  | zero => intros; exact xj_none
  | succ n ih =>
    intro x4 M
    rw [fX3_append_19]
    refine xj_iload Z 2 dX3_append_19 rfl ?_
    refine xj_if_lt Z 58 dX3_append_21 (by decide) (fun _ => ?_) (fun _ => ?_)
    · refine xj_iconst Z 1 dX3_append_58 (by decide) ?_
      exact xj_zret_b Z dX3_append_59
    · refine xj_aload_n Z 0 dX3_append_24 rfl rfl ?_
      refine xg_X3_9 Z (hS 1 (by decide)) dX3_append_25 ?_
      refine xj_aload_n Z 0 dX3_append_28 rfl rfl ?_
      refine xg_X3_19 Z (hS 1 (by decide)) dX3_append_29 ?_
      refine xj_lload_n Z 1 dX3_append_32 rfl rfl ?_
      refine xj_bipush Z 8 dX3_append_33 (by decide) ?_
      refine xj_iload Z 2 dX3_append_35 rfl ?_
      refine xj_imul Z dX3_append_37 ?_
      refine xj_lshr Z dX3_append_38 ?_
      refine xj_l2i Z dX3_append_39 ?_
      refine xj_i2b Z dX3_append_40 ?_
      refine xj_bast Z (hS 2 (by decide)) rfl dX3_append_41 (fun M1 _ => ?_)
      refine xj_aload_n Z 0 dX3_append_42 rfl rfl ?_
      refine xj_dup Z dX3_append_43 rfl ?_
      refine xg_X3_19 Z (hS 1 (by decide)) dX3_append_44 ?_
      refine xj_iconst Z 1 dX3_append_47 (by decide) ?_
      refine xj_iadd Z dX3_append_48 ?_
      refine xp_X3_19 Z (hS 1 (by decide)) dX3_append_49 (fun M2 _ => ?_)
      refine xj_iinc Z 2 (x4 + (-1)) (lv' := [(4, .int (x4 + (-1))), (0, .ref (ad 1)), (2, .long y2)]) dX3_append_52 rfl rfl (by decide) rfl ?_
      refine xj_goto Z 19 dX3_append_55 (by decide) ?_
      refine xj_sub [1, 2, 0] (lv' := [(0, .ref (ad 1)), (2, .long y2), (4, .int (x4 + (-1)))]) rfl ?_
      exact ih (x4 + (-1)) M2
end
theorem kX3_append (l : Launch) (D : va_G) (cs : Nat → ClassId) (S : List Nat) (ad : Nat → Nat) (hd : xdist S ad) (hS : xall S) (x1 : Int32) (y2 : Int64) (M : xm) : ∀ r, fX3_append x1 y2 M = some r → Met l yX3_append [Cond.code yX3_append cX3_append 5 (some .boolean)] rmX3_append (XPc D cs S ad [.ref (ad 1), .int x1, .long y2] M) (XQi D cs S ad r.1 r.2) 0 0 (xA S ad) := by
  refine xm_b (own := RX3) (lv := [(0, .ref (ad 1)), (1, .int x1), (2, .long y2)]) (by decide +kernel) rfl rfl (Nat.le_of_ble_eq_true rfl) hd (fun p e s m args below meth c Z => ?_)
  unfold fX3_append
  refine xj_iload_n Z 1 dX3_append_0 rfl rfl ?_
  refine xj_sipush Z 300 dX3_append_1 (by decide) ?_
  refine xj_aload_n Z 0 dX3_append_4 rfl rfl ?_
  refine xg_X3_19 Z (hS 1 (by decide)) dX3_append_5 ?_
  refine xj_isub Z dX3_append_8 ?_
  refine xj_icmp_le Z 14 dX3_append_9 (by decide) (fun _ => ?_) (fun _ => ?_)
  · refine xj_iload_n Z 1 dX3_append_14 rfl rfl ?_
    refine xj_iconst Z 1 dX3_append_15 (by decide) ?_
    refine xj_isub Z dX3_append_16 ?_
    refine xj_top (fun v3 => ?_)
    refine xj_istore Z (lv' := [(4, .int v3), (0, .ref (ad 1)), (1, .int x1), (2, .long y2)]) dX3_append_17 (by decide) rfl ?_
    refine xj_sub [1, 3, 0] (lv' := [(0, .ref (ad 1)), (2, .long y2), (4, .int v3)]) rfl ?_
    exact bX3_append_19 Z hS y2 xfuel v3 M
  · refine xj_iconst Z 0 dX3_append_12 (by decide) ?_
    exact xj_zret_b Z dX3_append_13
/-! WalkingLaw$Text.byteAt(I)I -/
theorem dX3_byteAt_0 : decode cX3_byteAt 0 = .ok (.iload_n 1, 1) := by decide +kernel
theorem dX3_byteAt_1 : decode cX3_byteAt 1 = .ok (.ifCond .lt 20, 3) := by decide +kernel
theorem dX3_byteAt_4 : decode cX3_byteAt 4 = .ok (.iload_n 1, 1) := by decide +kernel
theorem dX3_byteAt_5 : decode cX3_byteAt 5 = .ok (.aload_n 0, 1) := by decide +kernel
theorem dX3_byteAt_6 : decode cX3_byteAt 6 = .ok (.getfield 19, 3) := by decide +kernel
theorem dX3_byteAt_9 : decode cX3_byteAt 9 = .ok (.if_icmp .ge 12, 3) := by decide +kernel
theorem dX3_byteAt_12 : decode cX3_byteAt 12 = .ok (.aload_n 0, 1) := by decide +kernel
theorem dX3_byteAt_13 : decode cX3_byteAt 13 = .ok (.getfield 9, 3) := by decide +kernel
theorem dX3_byteAt_16 : decode cX3_byteAt 16 = .ok (.iload_n 1, 1) := by decide +kernel
theorem dX3_byteAt_17 : decode cX3_byteAt 17 = .ok (.baload, 1) := by decide +kernel
theorem dX3_byteAt_18 : decode cX3_byteAt 18 = .ok (.goto 4, 3) := by decide +kernel
theorem dX3_byteAt_21 : decode cX3_byteAt 21 = .ok (.iconst (-1), 1) := by decide +kernel
theorem dX3_byteAt_22 : decode cX3_byteAt 22 = .ok (.ireturn, 1) := by decide +kernel
def rmX3_byteAt : Room := { frames := 0, cells := 0, slots := 0, locals := 0 }
def fX3_byteAt_22 (t0 : Int32) (M : xm) : Option (Int32) := (some t0)
def fX3_byteAt_21 (M : xm) : Option (Int32) := (fX3_byteAt_22 (-1) M)
def fX3_byteAt (x1 : Int32) (M : xm) : Option (Int32) := (if x1 < 0 then (fX3_byteAt_21 M) else (if (M.1 1 2) ≤ x1 then (fX3_byteAt_21 M) else xchk x1 300 ((fX3_byteAt_22 (M.1 2 x1.toNatClampNeg) M))))
section
variable {p : Program} {l : Launch} {e : Env} {s : State} {m : MethodId} {args : Array Value} {below : List Frame} {meth : Method} {c : Code} {D : va_G} {cs : Nat → ClassId} {S : List Nat} {ad : Nat → Nat}
theorem bX3_byteAt_22 (Z : CX p s m args meth c cX3_byteAt 2 RX3 (some .int) D cs (xA S ad) S ad) (hS : xall S) (t0 : Int32) (M : xm) : XJ p l e rmX3_byteAt s m args below meth c D cs (xA S ad) S ad 2 (XRr below args s D cs S ad M) 22 [] [.int t0] M (fX3_byteAt_22 t0 M) := by
  unfold fX3_byteAt_22
  exact xj_ret_r Z dX3_byteAt_22
theorem bX3_byteAt_21 (Z : CX p s m args meth c cX3_byteAt 2 RX3 (some .int) D cs (xA S ad) S ad) (hS : xall S) (M : xm) : XJ p l e rmX3_byteAt s m args below meth c D cs (xA S ad) S ad 2 (XRr below args s D cs S ad M) 21 [] [] M (fX3_byteAt_21 M) := by
  unfold fX3_byteAt_21
  refine xj_iconst Z (-1) dX3_byteAt_21 (by decide) ?_
  exact bX3_byteAt_22 Z hS (-1) M
end
theorem kX3_byteAt (l : Launch) (D : va_G) (cs : Nat → ClassId) (S : List Nat) (ad : Nat → Nat) (hd : xdist S ad) (hS : xall S) (x1 : Int32) (M : xm) : ∀ r, fX3_byteAt x1 M = some r → Met l yX3_byteAt [Cond.code yX3_byteAt cX3_byteAt 2 (some .int)] rmX3_byteAt (XPc D cs S ad [.ref (ad 1), .int x1] M) (XQi D cs S ad r M) 0 0 (xA S ad) := by
  refine xm_r (own := RX3) (lv := [(0, .ref (ad 1)), (1, .int x1)]) (by decide +kernel) rfl rfl (Nat.le_of_ble_eq_true rfl) hd (fun p e s m args below meth c Z => ?_)
  unfold fX3_byteAt
  refine xj_iload_n Z 1 dX3_byteAt_0 rfl rfl ?_
  refine xj_if_lt Z 21 dX3_byteAt_1 (by decide) (fun _ => ?_) (fun _ => ?_)
  · refine xj_sub [] (lv' := []) rfl ?_
    exact bX3_byteAt_21 Z hS M
  · refine xj_iload_n Z 1 dX3_byteAt_4 rfl rfl ?_
    refine xj_aload_n Z 0 dX3_byteAt_5 rfl rfl ?_
    refine xg_X3_19 Z (hS 1 (by decide)) dX3_byteAt_6 ?_
    refine xj_icmp_ge Z 21 dX3_byteAt_9 (by decide) (fun _ => ?_) (fun _ => ?_)
    · refine xj_sub [] (lv' := []) rfl ?_
      exact bX3_byteAt_21 Z hS M
    · refine xj_aload_n Z 0 dX3_byteAt_12 rfl rfl ?_
      refine xg_X3_9 Z (hS 1 (by decide)) dX3_byteAt_13 ?_
      refine xj_iload_n Z 1 dX3_byteAt_16 rfl rfl ?_
      refine xj_bald Z (hS 2 (by decide)) rfl dX3_byteAt_17 (fun _ => ?_)
      refine xj_goto Z 22 dX3_byteAt_18 (by decide) ?_
      refine xj_sub [] (lv' := []) rfl ?_
      exact bX3_byteAt_22 Z hS (M.1 2 x1.toNatClampNeg) M
/-! WalkingLaw$Text.numbersBehind(I)I -/
theorem dX3_numbersBehind_0 : decode cX3_numbersBehind 0 = .ok (.iload_n 0, 1) := by decide +kernel
theorem dX3_numbersBehind_1 : decode cX3_numbersBehind 1 = .ok (.lookupswitch 47 #[(98, 45), (109, 43), (112, 43), (113, 45)], 43) := by decide +kernel
theorem dX3_numbersBehind_44 : decode cX3_numbersBehind 44 = .ok (.iconst 3, 1) := by decide +kernel
theorem dX3_numbersBehind_45 : decode cX3_numbersBehind 45 = .ok (.ireturn, 1) := by decide +kernel
theorem dX3_numbersBehind_46 : decode cX3_numbersBehind 46 = .ok (.iconst 1, 1) := by decide +kernel
theorem dX3_numbersBehind_47 : decode cX3_numbersBehind 47 = .ok (.ireturn, 1) := by decide +kernel
theorem dX3_numbersBehind_48 : decode cX3_numbersBehind 48 = .ok (.iconst 0, 1) := by decide +kernel
theorem dX3_numbersBehind_49 : decode cX3_numbersBehind 49 = .ok (.ireturn, 1) := by decide +kernel
def rmX3_numbersBehind : Room := { frames := 0, cells := 0, slots := 0, locals := 0 }
def fX3_numbersBehind (x0 : Int32) (M : xm) : Option (Int32) := (if x0 = 98 then (some 1) else if x0 = 109 then (some 3) else if x0 = 112 then (some 3) else if x0 = 113 then (some 1) else (some 0))
section
variable {p : Program} {l : Launch} {e : Env} {s : State} {m : MethodId} {args : Array Value} {below : List Frame} {meth : Method} {c : Code} {D : va_G} {cs : Nat → ClassId} {S : List Nat} {ad : Nat → Nat}
end
theorem kX3_numbersBehind (l : Launch) (D : va_G) (cs : Nat → ClassId) (S : List Nat) (ad : Nat → Nat) (hd : xdist S ad) (x0 : Int32) (M : xm) : ∀ r, fX3_numbersBehind x0 M = some r → Met l yX3_numbersBehind [Cond.code yX3_numbersBehind cX3_numbersBehind 1 (some .int)] rmX3_numbersBehind (XPc D cs S ad [.int x0] M) (XQi D cs S ad r M) 0 0 (xA S ad) := by
  refine xm_r (own := RX3) (lv := [(0, .int x0)]) (by decide +kernel) rfl rfl (Nat.le_of_ble_eq_true rfl) hd (fun p e s m args below meth c Z => ?_)
  unfold fX3_numbersBehind
  refine xj_iload_n Z 0 dX3_numbersBehind_0 rfl rfl ?_
  refine xj_ite (fun h => ?_) (fun h0 => ?_)
  · refine xj_look (off := 45) Z 46 dX3_numbersBehind_1 (by decide) (by rw [h]; decide) (by decide) ?_
    refine xj_iconst Z 1 dX3_numbersBehind_46 (by decide) ?_
    exact xj_ret_r Z dX3_numbersBehind_47
  refine xj_ite (fun h => ?_) (fun h1 => ?_)
  · refine xj_look (off := 43) Z 44 dX3_numbersBehind_1 (by decide) (by rw [h]; decide) (by decide) ?_
    refine xj_iconst Z 3 dX3_numbersBehind_44 (by decide) ?_
    exact xj_ret_r Z dX3_numbersBehind_45
  refine xj_ite (fun h => ?_) (fun h2 => ?_)
  · refine xj_look (off := 43) Z 44 dX3_numbersBehind_1 (by decide) (by rw [h]; decide) (by decide) ?_
    refine xj_iconst Z 3 dX3_numbersBehind_44 (by decide) ?_
    exact xj_ret_r Z dX3_numbersBehind_45
  refine xj_ite (fun h => ?_) (fun h3 => ?_)
  · refine xj_look (off := 45) Z 46 dX3_numbersBehind_1 (by decide) (by rw [h]; decide) (by decide) ?_
    refine xj_iconst Z 1 dX3_numbersBehind_46 (by decide) ?_
    exact xj_ret_r Z dX3_numbersBehind_47
  refine xj_look (off := 47) Z 48 dX3_numbersBehind_1 (by decide) (by simp [Op.lookupswitch.offset, Ne.symm (xti (n := 98) _ (by decide) h0), Ne.symm (xti (n := 109) _ (by decide) h1), Ne.symm (xti (n := 112) _ (by decide) h2), Ne.symm (xti (n := 113) _ (by decide) h3)]) (by decide) ?_
  refine xj_iconst Z 0 dX3_numbersBehind_48 (by decide) ?_
  exact xj_ret_r Z dX3_numbersBehind_49
/-! WalkingLaw$Text.isFigure(I)Z -/
theorem dX3_isFigure_0 : decode cX3_isFigure 0 = .ok (.aload_n 0, 1) := by decide +kernel
theorem dX3_isFigure_1 : decode cX3_isFigure 1 = .ok (.iload_n 1, 1) := by decide +kernel
theorem dX3_isFigure_2 : decode cX3_isFigure 2 = .ok (.invokevirtual 32, 3) := by decide +kernel
theorem dX3_isFigure_5 : decode cX3_isFigure 5 = .ok (.istore_n 2, 1) := by decide +kernel
theorem dX3_isFigure_6 : decode cX3_isFigure 6 = .ok (.iload_n 2, 1) := by decide +kernel
theorem dX3_isFigure_7 : decode cX3_isFigure 7 = .ok (.bipush 48, 2) := by decide +kernel
theorem dX3_isFigure_9 : decode cX3_isFigure 9 = .ok (.if_icmp .lt 13, 3) := by decide +kernel
theorem dX3_isFigure_12 : decode cX3_isFigure 12 = .ok (.iload_n 2, 1) := by decide +kernel
theorem dX3_isFigure_13 : decode cX3_isFigure 13 = .ok (.bipush 57, 2) := by decide +kernel
theorem dX3_isFigure_15 : decode cX3_isFigure 15 = .ok (.if_icmp .gt 7, 3) := by decide +kernel
theorem dX3_isFigure_18 : decode cX3_isFigure 18 = .ok (.iconst 1, 1) := by decide +kernel
theorem dX3_isFigure_19 : decode cX3_isFigure 19 = .ok (.goto 4, 3) := by decide +kernel
theorem dX3_isFigure_22 : decode cX3_isFigure 22 = .ok (.iconst 0, 1) := by decide +kernel
theorem dX3_isFigure_23 : decode cX3_isFigure 23 = .ok (.ireturn, 1) := by decide +kernel
def rmX3_isFigure : Room := { frames := 1, cells := 0, slots := 0, locals := 21 }
def fX3_isFigure_23 (t0 : Int32) (M : xm) : Option (Int32) := (xbo t0 (some t0))
def fX3_isFigure_22 (M : xm) : Option (Int32) := (fX3_isFigure_23 0 M)
def fX3_isFigure (x1 : Int32) (M : xm) : Option (Int32) := (fX3_byteAt x1 M).bind (fun v1 => (if v1 < 48 then (fX3_isFigure_22 M) else (if (57 : Int32) < v1 then (fX3_isFigure_22 M) else (fX3_isFigure_23 1 M))))
section
variable {p : Program} {l : Launch} {e : Env} {s : State} {m : MethodId} {args : Array Value} {below : List Frame} {meth : Method} {c : Code} {D : va_G} {cs : Nat → ClassId} {S : List Nat} {ad : Nat → Nat}
theorem bX3_isFigure_23 (Z : CX p s m args meth c cX3_isFigure 3 RX3 (some .boolean) D cs (xA S ad) S ad) (hS : xall S) (t0 : Int32) (M : xm) : XJ p l e rmX3_isFigure s m args below meth c D cs (xA S ad) S ad 3 (XRr below args s D cs S ad M) 23 [] [.int t0] M (fX3_isFigure_23 t0 M) := by
  unfold fX3_isFigure_23
  exact xj_zret_r Z dX3_isFigure_23
theorem bX3_isFigure_22 (Z : CX p s m args meth c cX3_isFigure 3 RX3 (some .boolean) D cs (xA S ad) S ad) (hS : xall S) (M : xm) : XJ p l e rmX3_isFigure s m args below meth c D cs (xA S ad) S ad 3 (XRr below args s D cs S ad M) 22 [] [] M (fX3_isFigure_22 M) := by
  unfold fX3_isFigure_22
  refine xj_iconst Z 0 dX3_isFigure_22 (by decide) ?_
  exact bX3_isFigure_23 Z hS 0 M
end
theorem kX3_isFigure (l : Launch) (D : va_G) (cs : Nat → ClassId) (S : List Nat) (ad : Nat → Nat) (hd : xdist S ad) (hS : xall S) (x1 : Int32) (M : xm) : ∀ r, fX3_isFigure x1 M = some r → Met l yX3_isFigure [Cond.code yX3_isFigure cX3_isFigure 3 (some .boolean)] rmX3_isFigure (XPc D cs S ad [.ref (ad 1), .int x1] M) (XQi D cs S ad r M) 0 0 (xA S ad) := by
  refine xm_r (own := RX3) (lv := [(0, .ref (ad 1)), (1, .int x1)]) (by decide +kernel) rfl rfl (Nat.le_of_ble_eq_true rfl) hd (fun p e s m args below meth c Z => ?_)
  unfold fX3_isFigure
  refine xj_aload_n Z 0 dX3_isFigure_0 rfl rfl ?_
  refine xj_iload_n Z 1 dX3_isFigure_1 rfl rfl ?_
  refine xj_callVr Z (As := [.int x1]) (kX3_byteAt l D cs S ad Z.2.2.2.2.2.1.dist hS x1 M) gw_X3_32 (hS 1 (by decide)) rfl rfl (n := 1) (by decide +kernel) rfl ⟨rfl, rfl⟩ (by decide) rfl (Nat.le_of_ble_eq_true rfl) dX3_isFigure_2 (fun v1 => ?_)
  refine xj_istore_n Z (lv' := [(2, .int v1), (0, .ref (ad 1)), (1, .int x1)]) dX3_isFigure_5 rfl (by decide) rfl ?_
  refine xj_iload_n Z 0 dX3_isFigure_6 rfl rfl ?_
  refine xj_bipush Z 48 dX3_isFigure_7 (by decide) ?_
  refine xj_icmp_lt Z 22 dX3_isFigure_9 (by decide) (fun _ => ?_) (fun _ => ?_)
  · refine xj_sub [] (lv' := []) rfl ?_
    exact bX3_isFigure_22 Z hS M
  · refine xj_iload_n Z 0 dX3_isFigure_12 rfl rfl ?_
    refine xj_bipush Z 57 dX3_isFigure_13 (by decide) ?_
    refine xj_icmp_gt Z 22 dX3_isFigure_15 (by decide) (fun _ => ?_) (fun _ => ?_)
    · refine xj_sub [] (lv' := []) rfl ?_
      exact bX3_isFigure_22 Z hS M
    · refine xj_iconst Z 1 dX3_isFigure_18 (by decide) ?_
      refine xj_goto Z 23 dX3_isFigure_19 (by decide) ?_
      refine xj_sub [] (lv' := []) rfl ?_
      exact bX3_isFigure_23 Z hS 1 M
/-! WalkingLaw$Text.takeNumber(IIC)I -/
theorem dX3_takeNumber_0 : decode cX3_takeNumber 0 = .ok (.aload_n 0, 1) := by decide +kernel
theorem dX3_takeNumber_1 : decode cX3_takeNumber 1 = .ok (.iload_n 1, 1) := by decide +kernel
theorem dX3_takeNumber_2 : decode cX3_takeNumber 2 = .ok (.invokevirtual 47, 3) := by decide +kernel
theorem dX3_takeNumber_5 : decode cX3_takeNumber 5 = .ok (.ifCond .ne 5, 3) := by decide +kernel
theorem dX3_takeNumber_8 : decode cX3_takeNumber 8 = .ok (.iconst (-1), 1) := by decide +kernel
theorem dX3_takeNumber_9 : decode cX3_takeNumber 9 = .ok (.ireturn, 1) := by decide +kernel
theorem dX3_takeNumber_10 : decode cX3_takeNumber 10 = .ok (.iload_n 1, 1) := by decide +kernel
theorem dX3_takeNumber_11 : decode cX3_takeNumber 11 = .ok (.iconst 1, 1) := by decide +kernel
theorem dX3_takeNumber_12 : decode cX3_takeNumber 12 = .ok (.iadd, 1) := by decide +kernel
theorem dX3_takeNumber_13 : decode cX3_takeNumber 13 = .ok (.istore 4, 2) := by decide +kernel
theorem dX3_takeNumber_15 : decode cX3_takeNumber 15 = .ok (.aload_n 0, 1) := by decide +kernel
theorem dX3_takeNumber_16 : decode cX3_takeNumber 16 = .ok (.iload_n 1, 1) := by decide +kernel
theorem dX3_takeNumber_17 : decode cX3_takeNumber 17 = .ok (.invokevirtual 32, 3) := by decide +kernel
theorem dX3_takeNumber_20 : decode cX3_takeNumber 20 = .ok (.bipush 48, 2) := by decide +kernel
theorem dX3_takeNumber_22 : decode cX3_takeNumber 22 = .ok (.isub, 1) := by decide +kernel
theorem dX3_takeNumber_23 : decode cX3_takeNumber 23 = .ok (.istore 5, 2) := by decide +kernel
theorem dX3_takeNumber_25 : decode cX3_takeNumber 25 = .ok (.aload_n 0, 1) := by decide +kernel
theorem dX3_takeNumber_26 : decode cX3_takeNumber 26 = .ok (.iload 4, 2) := by decide +kernel
theorem dX3_takeNumber_28 : decode cX3_takeNumber 28 = .ok (.invokevirtual 47, 3) := by decide +kernel
theorem dX3_takeNumber_31 : decode cX3_takeNumber 31 = .ok (.ifCond .eq 23, 3) := by decide +kernel
theorem dX3_takeNumber_34 : decode cX3_takeNumber 34 = .ok (.bipush 10, 2) := by decide +kernel
theorem dX3_takeNumber_36 : decode cX3_takeNumber 36 = .ok (.iload 5, 2) := by decide +kernel
theorem dX3_takeNumber_38 : decode cX3_takeNumber 38 = .ok (.imul, 1) := by decide +kernel
theorem dX3_takeNumber_39 : decode cX3_takeNumber 39 = .ok (.aload_n 0, 1) := by decide +kernel
theorem dX3_takeNumber_40 : decode cX3_takeNumber 40 = .ok (.iload 4, 2) := by decide +kernel
theorem dX3_takeNumber_42 : decode cX3_takeNumber 42 = .ok (.invokevirtual 32, 3) := by decide +kernel
theorem dX3_takeNumber_45 : decode cX3_takeNumber 45 = .ok (.iadd, 1) := by decide +kernel
theorem dX3_takeNumber_46 : decode cX3_takeNumber 46 = .ok (.bipush 48, 2) := by decide +kernel
theorem dX3_takeNumber_48 : decode cX3_takeNumber 48 = .ok (.isub, 1) := by decide +kernel
theorem dX3_takeNumber_49 : decode cX3_takeNumber 49 = .ok (.istore 5, 2) := by decide +kernel
theorem dX3_takeNumber_51 : decode cX3_takeNumber 51 = .ok (.iinc 4 1, 3) := by decide +kernel
theorem dX3_takeNumber_54 : decode cX3_takeNumber 54 = .ok (.aload_n 0, 1) := by decide +kernel
theorem dX3_takeNumber_55 : decode cX3_takeNumber 55 = .ok (.getfield 15, 3) := by decide +kernel
theorem dX3_takeNumber_58 : decode cX3_takeNumber 58 = .ok (.iload_n 2, 1) := by decide +kernel
theorem dX3_takeNumber_59 : decode cX3_takeNumber 59 = .ok (.iload 5, 2) := by decide +kernel
theorem dX3_takeNumber_61 : decode cX3_takeNumber 61 = .ok (.iastore, 1) := by decide +kernel
theorem dX3_takeNumber_62 : decode cX3_takeNumber 62 = .ok (.aload_n 0, 1) := by decide +kernel
theorem dX3_takeNumber_63 : decode cX3_takeNumber 63 = .ok (.iload 4, 2) := by decide +kernel
theorem dX3_takeNumber_65 : decode cX3_takeNumber 65 = .ok (.invokevirtual 32, 3) := by decide +kernel
theorem dX3_takeNumber_68 : decode cX3_takeNumber 68 = .ok (.iload_n 3, 1) := by decide +kernel
theorem dX3_takeNumber_69 : decode cX3_takeNumber 69 = .ok (.if_icmp .ne 10, 3) := by decide +kernel
theorem dX3_takeNumber_72 : decode cX3_takeNumber 72 = .ok (.iload 4, 2) := by decide +kernel
theorem dX3_takeNumber_74 : decode cX3_takeNumber 74 = .ok (.iconst 1, 1) := by decide +kernel
theorem dX3_takeNumber_75 : decode cX3_takeNumber 75 = .ok (.iadd, 1) := by decide +kernel
theorem dX3_takeNumber_76 : decode cX3_takeNumber 76 = .ok (.goto 4, 3) := by decide +kernel
theorem dX3_takeNumber_79 : decode cX3_takeNumber 79 = .ok (.iconst (-1), 1) := by decide +kernel
theorem dX3_takeNumber_80 : decode cX3_takeNumber 80 = .ok (.ireturn, 1) := by decide +kernel
def rmX3_takeNumber : Room := { frames := 2, cells := 0, slots := 0, locals := 43 }
def fX3_takeNumber_80 (t0 : Int32) (M : xm) : Option (Int32 × xm) := (some (t0, M))
def fX3_takeNumber_54 (x2 : Int32) (x3 : Int32) (x4 : Int32) (x5 : Int32) (M : xm) : Option (Int32 × xm) := xchk x2 3 (xl (up M 3 (x2 : Int32).toNatClampNeg x5) (fun M1 => (fX3_byteAt x4 M1).bind (fun v2 => (if v2 = x3 then (fX3_takeNumber_80 (x4 + 1) M1) else (fX3_takeNumber_80 (-1) M1)))))
def fX3_takeNumber (x1 : Int32) (x2 : Int32) (x3 : Int32) (M : xm) : Option (Int32 × xm) := (fX3_isFigure x1 M).bind (fun v3 => (if v3 = 0 then (some ((-1), M)) else xl (x1 + 1) (fun v4 => (fX3_byteAt x1 M).bind (fun v5 => xl (v5 - 48) (fun v6 => (fX3_isFigure v4 M).bind (fun v7 => (if v7 = 0 then (fX3_takeNumber_54 x2 x3 v4 v6 M) else (fX3_byteAt v4 M).bind (fun v8 => xl (((10 * v6) + v8) - 48) (fun v9 => (fX3_takeNumber_54 x2 x3 (v4 + 1) v9 M))))))))))
section
variable {p : Program} {l : Launch} {e : Env} {s : State} {m : MethodId} {args : Array Value} {below : List Frame} {meth : Method} {c : Code} {D : va_G} {cs : Nat → ClassId} {S : List Nat} {ad : Nat → Nat}
theorem bX3_takeNumber_80 (Z : CX p s m args meth c cX3_takeNumber 6 RX3 (some .int) D cs (xA S ad) S ad) (hS : xall S) (t0 : Int32) (M : xm) : XJ p l e rmX3_takeNumber s m args below meth c D cs (xA S ad) S ad 6 (XRb below args s D cs S ad) 80 [] [.int t0] M (fX3_takeNumber_80 t0 M) := by
  unfold fX3_takeNumber_80
  exact xj_ret_b Z dX3_takeNumber_80
theorem bX3_takeNumber_54 (Z : CX p s m args meth c cX3_takeNumber 6 RX3 (some .int) D cs (xA S ad) S ad) (hS : xall S) (x2 : Int32) (x3 : Int32) (x4 : Int32) (x5 : Int32) (M : xm) : XJ p l e rmX3_takeNumber s m args below meth c D cs (xA S ad) S ad 6 (XRb below args s D cs S ad) 54 [(0, .ref (ad 1)), (2, .int x2), (3, .int x3), (4, .int x4), (5, .int x5)] [] M (fX3_takeNumber_54 x2 x3 x4 x5 M) := by
  unfold fX3_takeNumber_54
  refine xj_aload_n Z 0 dX3_takeNumber_54 rfl rfl ?_
  refine xg_X3_15 Z (hS 1 (by decide)) dX3_takeNumber_55 ?_
  refine xj_iload_n Z 1 dX3_takeNumber_58 rfl rfl ?_
  refine xj_iload Z 4 dX3_takeNumber_59 rfl ?_
  refine xj_iast Z (hS 3 (by decide)) rfl dX3_takeNumber_61 (fun M1 _ => ?_)
  refine xj_aload_n Z 0 dX3_takeNumber_62 rfl rfl ?_
  refine xj_iload Z 3 dX3_takeNumber_63 rfl ?_
  refine xj_callVr Z (As := [.int x4]) (kX3_byteAt l D cs S ad Z.2.2.2.2.2.1.dist hS x4 M1) gw_X3_32 (hS 1 (by decide)) rfl rfl (n := 1) (by decide +kernel) rfl ⟨rfl, rfl⟩ (by decide) rfl (Nat.le_of_ble_eq_true rfl) dX3_takeNumber_65 (fun v2 => ?_)
  refine xj_iload_n Z 2 dX3_takeNumber_68 rfl rfl ?_
  refine xj_icmp_ne Z 79 dX3_takeNumber_69 (by decide) (fun _ => ?_) (fun _ => ?_)
  · refine xj_iconst Z (-1) dX3_takeNumber_79 (by decide) ?_
    refine xj_sub [] (lv' := []) rfl ?_
    exact bX3_takeNumber_80 Z hS (-1) M1
  · refine xj_iload Z 3 dX3_takeNumber_72 rfl ?_
    refine xj_iconst Z 1 dX3_takeNumber_74 (by decide) ?_
    refine xj_iadd Z dX3_takeNumber_75 ?_
    refine xj_goto Z 80 dX3_takeNumber_76 (by decide) ?_
    refine xj_sub [] (lv' := []) rfl ?_
    exact bX3_takeNumber_80 Z hS (x4 + 1) M1
end
theorem kX3_takeNumber (l : Launch) (D : va_G) (cs : Nat → ClassId) (S : List Nat) (ad : Nat → Nat) (hd : xdist S ad) (hS : xall S) (x1 : Int32) (x2 : Int32) (x3 : Int32) (M : xm) : ∀ r, fX3_takeNumber x1 x2 x3 M = some r → Met l yX3_takeNumber [Cond.code yX3_takeNumber cX3_takeNumber 6 (some .int)] rmX3_takeNumber (XPc D cs S ad [.ref (ad 1), .int x1, .int x2, .int x3] M) (XQi D cs S ad r.1 r.2) 0 0 (xA S ad) := by
  refine xm_b (own := RX3) (lv := [(0, .ref (ad 1)), (1, .int x1), (2, .int x2), (3, .int x3)]) (by decide +kernel) rfl rfl (Nat.le_of_ble_eq_true rfl) hd (fun p e s m args below meth c Z => ?_)
  unfold fX3_takeNumber
  refine xj_aload_n Z 0 dX3_takeNumber_0 rfl rfl ?_
  refine xj_iload_n Z 1 dX3_takeNumber_1 rfl rfl ?_
  refine xj_callVr Z (As := [.int x1]) (kX3_isFigure l D cs S ad Z.2.2.2.2.2.1.dist hS x1 M) gw_X3_47 (hS 1 (by decide)) rfl rfl (n := 1) (by decide +kernel) rfl ⟨rfl, rfl⟩ (by decide) rfl (Nat.le_of_ble_eq_true rfl) dX3_takeNumber_2 (fun v3 => ?_)
  refine xj_if_ne Z 10 dX3_takeNumber_5 (by decide) (fun _ => ?_) (fun _ => ?_)
  · refine xj_iload_n Z 1 dX3_takeNumber_10 rfl rfl ?_
    refine xj_iconst Z 1 dX3_takeNumber_11 (by decide) ?_
    refine xj_iadd Z dX3_takeNumber_12 ?_
    refine xj_top (fun v4 => ?_)
    refine xj_istore Z (lv' := [(4, .int v4), (0, .ref (ad 1)), (1, .int x1), (2, .int x2), (3, .int x3)]) dX3_takeNumber_13 (by decide) rfl ?_
    refine xj_aload_n Z 1 dX3_takeNumber_15 rfl rfl ?_
    refine xj_iload_n Z 2 dX3_takeNumber_16 rfl rfl ?_
    refine xj_callVr Z (As := [.int x1]) (kX3_byteAt l D cs S ad Z.2.2.2.2.2.1.dist hS x1 M) gw_X3_32 (hS 1 (by decide)) rfl rfl (n := 1) (by decide +kernel) rfl ⟨rfl, rfl⟩ (by decide) rfl (Nat.le_of_ble_eq_true rfl) dX3_takeNumber_17 (fun v5 => ?_)
    refine xj_bipush Z 48 dX3_takeNumber_20 (by decide) ?_
    refine xj_isub Z dX3_takeNumber_22 ?_
    refine xj_top (fun v6 => ?_)
    refine xj_istore Z (lv' := [(5, .int v6), (4, .int v4), (0, .ref (ad 1)), (1, .int x1), (2, .int x2), (3, .int x3)]) dX3_takeNumber_23 (by decide) rfl ?_
    refine xj_aload_n Z 2 dX3_takeNumber_25 rfl rfl ?_
    refine xj_iload Z 1 dX3_takeNumber_26 rfl ?_
    refine xj_callVr Z (As := [.int v4]) (kX3_isFigure l D cs S ad Z.2.2.2.2.2.1.dist hS v4 M) gw_X3_47 (hS 1 (by decide)) rfl rfl (n := 1) (by decide +kernel) rfl ⟨rfl, rfl⟩ (by decide) rfl (Nat.le_of_ble_eq_true rfl) dX3_takeNumber_28 (fun v7 => ?_)
    refine xj_if_eq Z 54 dX3_takeNumber_31 (by decide) (fun _ => ?_) (fun _ => ?_)
    · refine xj_sub [2, 4, 5, 1, 0] (lv' := [(0, .ref (ad 1)), (2, .int x2), (3, .int x3), (4, .int v4), (5, .int v6)]) rfl ?_
      exact bX3_takeNumber_54 Z hS x2 x3 v4 v6 M
    · refine xj_bipush Z 10 dX3_takeNumber_34 (by decide) ?_
      refine xj_iload Z 0 dX3_takeNumber_36 rfl ?_
      refine xj_imul Z dX3_takeNumber_38 ?_
      refine xj_aload_n Z 2 dX3_takeNumber_39 rfl rfl ?_
      refine xj_iload Z 1 dX3_takeNumber_40 rfl ?_
      refine xj_callVr Z (As := [.int v4]) (kX3_byteAt l D cs S ad Z.2.2.2.2.2.1.dist hS v4 M) gw_X3_32 (hS 1 (by decide)) rfl rfl (n := 1) (by decide +kernel) rfl ⟨rfl, rfl⟩ (by decide) rfl (Nat.le_of_ble_eq_true rfl) dX3_takeNumber_42 (fun v8 => ?_)
      refine xj_iadd Z dX3_takeNumber_45 ?_
      refine xj_bipush Z 48 dX3_takeNumber_46 (by decide) ?_
      refine xj_isub Z dX3_takeNumber_48 ?_
      refine xj_top (fun v9 => ?_)
      refine xj_istore Z (lv' := [(5, .int v9), (4, .int v4), (0, .ref (ad 1)), (1, .int x1), (2, .int x2), (3, .int x3)]) dX3_takeNumber_49 (by decide) rfl ?_
      refine xj_iinc Z 1 (v4 + 1) (lv' := [(4, .int (v4 + 1)), (5, .int v9), (0, .ref (ad 1)), (1, .int x1), (2, .int x2), (3, .int x3)]) dX3_takeNumber_51 rfl rfl (by decide) rfl ?_
      refine xj_sub [2, 4, 5, 0, 1] (lv' := [(0, .ref (ad 1)), (2, .int x2), (3, .int x3), (4, .int (v4 + 1)), (5, .int v9)]) rfl ?_
      exact bX3_takeNumber_54 Z hS x2 x3 (v4 + 1) v9 M
  · refine xj_iconst Z (-1) dX3_takeNumber_8 (by decide) ?_
    exact xj_ret_b Z dX3_takeNumber_9
/-! WalkingLaw$Text.addItem(ILWalkingLaw$Road;)Z -/
theorem dX3_addItem_0 : decode cX3_addItem 0 = .ok (.iload_n 1, 1) := by decide +kernel
theorem dX3_addItem_1 : decode cX3_addItem 1 = .ok (.lookupswitch 111 #[(98, 100), (109, 66), (112, 43), (113, 89)], 43) := by decide +kernel
theorem dX3_addItem_44 : decode cX3_addItem 44 = .ok (.aload_n 2, 1) := by decide +kernel
theorem dX3_addItem_45 : decode cX3_addItem 45 = .ok (.aload_n 0, 1) := by decide +kernel
theorem dX3_addItem_46 : decode cX3_addItem 46 = .ok (.getfield 15, 3) := by decide +kernel
theorem dX3_addItem_49 : decode cX3_addItem 49 = .ok (.iconst 0, 1) := by decide +kernel
theorem dX3_addItem_50 : decode cX3_addItem 50 = .ok (.iaload, 1) := by decide +kernel
theorem dX3_addItem_51 : decode cX3_addItem 51 = .ok (.aload_n 0, 1) := by decide +kernel
theorem dX3_addItem_52 : decode cX3_addItem 52 = .ok (.getfield 15, 3) := by decide +kernel
theorem dX3_addItem_55 : decode cX3_addItem 55 = .ok (.iconst 1, 1) := by decide +kernel
theorem dX3_addItem_56 : decode cX3_addItem 56 = .ok (.iaload, 1) := by decide +kernel
theorem dX3_addItem_57 : decode cX3_addItem 57 = .ok (.aload_n 0, 1) := by decide +kernel
theorem dX3_addItem_58 : decode cX3_addItem 58 = .ok (.getfield 15, 3) := by decide +kernel
theorem dX3_addItem_61 : decode cX3_addItem 61 = .ok (.iconst 2, 1) := by decide +kernel
theorem dX3_addItem_62 : decode cX3_addItem 62 = .ok (.iaload, 1) := by decide +kernel
theorem dX3_addItem_63 : decode cX3_addItem 63 = .ok (.invokevirtual 51, 3) := by decide +kernel
theorem dX3_addItem_66 : decode cX3_addItem 66 = .ok (.ireturn, 1) := by decide +kernel
theorem dX3_addItem_67 : decode cX3_addItem 67 = .ok (.aload_n 2, 1) := by decide +kernel
theorem dX3_addItem_68 : decode cX3_addItem 68 = .ok (.aload_n 0, 1) := by decide +kernel
theorem dX3_addItem_69 : decode cX3_addItem 69 = .ok (.getfield 15, 3) := by decide +kernel
theorem dX3_addItem_72 : decode cX3_addItem 72 = .ok (.iconst 0, 1) := by decide +kernel
theorem dX3_addItem_73 : decode cX3_addItem 73 = .ok (.iaload, 1) := by decide +kernel
theorem dX3_addItem_74 : decode cX3_addItem 74 = .ok (.aload_n 0, 1) := by decide +kernel
theorem dX3_addItem_75 : decode cX3_addItem 75 = .ok (.getfield 15, 3) := by decide +kernel
theorem dX3_addItem_78 : decode cX3_addItem 78 = .ok (.iconst 1, 1) := by decide +kernel
theorem dX3_addItem_79 : decode cX3_addItem 79 = .ok (.iaload, 1) := by decide +kernel
theorem dX3_addItem_80 : decode cX3_addItem 80 = .ok (.aload_n 0, 1) := by decide +kernel
theorem dX3_addItem_81 : decode cX3_addItem 81 = .ok (.getfield 15, 3) := by decide +kernel
theorem dX3_addItem_84 : decode cX3_addItem 84 = .ok (.iconst 2, 1) := by decide +kernel
theorem dX3_addItem_85 : decode cX3_addItem 85 = .ok (.iaload, 1) := by decide +kernel
theorem dX3_addItem_86 : decode cX3_addItem 86 = .ok (.invokevirtual 55, 3) := by decide +kernel
theorem dX3_addItem_89 : decode cX3_addItem 89 = .ok (.ireturn, 1) := by decide +kernel
theorem dX3_addItem_90 : decode cX3_addItem 90 = .ok (.aload_n 2, 1) := by decide +kernel
theorem dX3_addItem_91 : decode cX3_addItem 91 = .ok (.aload_n 0, 1) := by decide +kernel
theorem dX3_addItem_92 : decode cX3_addItem 92 = .ok (.getfield 15, 3) := by decide +kernel
theorem dX3_addItem_95 : decode cX3_addItem 95 = .ok (.iconst 0, 1) := by decide +kernel
theorem dX3_addItem_96 : decode cX3_addItem 96 = .ok (.iaload, 1) := by decide +kernel
theorem dX3_addItem_97 : decode cX3_addItem 97 = .ok (.invokevirtual 58, 3) := by decide +kernel
theorem dX3_addItem_100 : decode cX3_addItem 100 = .ok (.ireturn, 1) := by decide +kernel
theorem dX3_addItem_101 : decode cX3_addItem 101 = .ok (.aload_n 2, 1) := by decide +kernel
theorem dX3_addItem_102 : decode cX3_addItem 102 = .ok (.aload_n 0, 1) := by decide +kernel
theorem dX3_addItem_103 : decode cX3_addItem 103 = .ok (.getfield 15, 3) := by decide +kernel
theorem dX3_addItem_106 : decode cX3_addItem 106 = .ok (.iconst 0, 1) := by decide +kernel
theorem dX3_addItem_107 : decode cX3_addItem 107 = .ok (.iaload, 1) := by decide +kernel
theorem dX3_addItem_108 : decode cX3_addItem 108 = .ok (.invokevirtual 61, 3) := by decide +kernel
theorem dX3_addItem_111 : decode cX3_addItem 111 = .ok (.ireturn, 1) := by decide +kernel
theorem dX3_addItem_112 : decode cX3_addItem 112 = .ok (.iconst 0, 1) := by decide +kernel
theorem dX3_addItem_113 : decode cX3_addItem 113 = .ok (.ireturn, 1) := by decide +kernel
def rmX3_addItem : Room := { frames := 1, cells := 0, slots := 0, locals := 23 }
def fX3_addItem (r2 : Nat) (x1 : Int32) (M : xm) : Option (Int32 × xm) := (if x1 = 98 then xchk 0 3 ((fX1_setBills r2 (M.1 3 (0 : Int32).toNatClampNeg) M).bind (fun q1 => (xbo q1.1 (some (q1.1, q1.2))))) else if x1 = 109 then xchk 0 3 (xchk 1 3 (xchk 2 3 ((fX1_addMember r2 (M.1 3 (0 : Int32).toNatClampNeg) (M.1 3 (1 : Int32).toNatClampNeg) (M.1 3 (2 : Int32).toNatClampNeg) M).bind (fun q2 => (xbo q2.1 (some (q2.1, q2.2))))))) else if x1 = 112 then xchk 0 3 (xchk 1 3 (xchk 2 3 ((fX1_addParish r2 (M.1 3 (0 : Int32).toNatClampNeg) (M.1 3 (1 : Int32).toNatClampNeg) (M.1 3 (2 : Int32).toNatClampNeg) M).bind (fun q3 => (xbo q3.1 (some (q3.1, q3.2))))))) else if x1 = 113 then xchk 0 3 ((fX1_setQuorum r2 (M.1 3 (0 : Int32).toNatClampNeg) M).bind (fun q4 => (xbo q4.1 (some (q4.1, q4.2))))) else (xbo 0 (some (0, M))))
section
variable {p : Program} {l : Launch} {e : Env} {s : State} {m : MethodId} {args : Array Value} {below : List Frame} {meth : Method} {c : Code} {D : va_G} {cs : Nat → ClassId} {S : List Nat} {ad : Nat → Nat} {r2 : Nat}
end
theorem kX3_addItem (l : Launch) (D : va_G) (cs : Nat → ClassId) (S : List Nat) (ad : Nat → Nat) (hd : xdist S ad) {r2 : Nat} (hS : xall S) (hr2 : xRoad S r2) (x1 : Int32) (M : xm) : ∀ r, fX3_addItem r2 x1 M = some r → Met l yX3_addItem [Cond.code yX3_addItem cX3_addItem 3 (some .boolean)] rmX3_addItem (XPc D cs S ad [.ref (ad 1), .int x1, .ref (ad r2)] M) (XQi D cs S ad r.1 r.2) 0 0 (xA S ad) := by
  refine xm_b (own := RX3) (lv := [(0, .ref (ad 1)), (1, .int x1), (2, .ref (ad r2))]) (by decide +kernel) rfl rfl (Nat.le_of_ble_eq_true rfl) hd (fun p e s m args below meth c Z => ?_)
  unfold fX3_addItem
  refine xj_iload_n Z 1 dX3_addItem_0 rfl rfl ?_
  refine xj_ite (fun h => ?_) (fun h0 => ?_)
  · refine xj_look (off := 100) Z 101 dX3_addItem_1 (by decide) (by rw [h]; decide) (by decide) ?_
    refine xj_aload_n Z 2 dX3_addItem_101 rfl rfl ?_
    refine xj_aload_n Z 0 dX3_addItem_102 rfl rfl ?_
    refine xg_X3_15 Z (hS 1 (by decide)) dX3_addItem_103 ?_
    refine xj_iconst Z 0 dX3_addItem_106 (by decide) ?_
    refine xj_iald Z (hS 3 (by decide)) rfl dX3_addItem_107 (fun _ => ?_)
    refine xj_callVb Z (As := [.int (M.1 3 (0 : Int32).toNatClampNeg)]) (kX1_setBills l D cs S ad Z.2.2.2.2.2.1.dist hr2 (M.1 3 (0 : Int32).toNatClampNeg) M) gw_X3_61 (hr2.mem 0 (by decide)) hr2.lay rfl (n := 1) (by decide +kernel) rfl ⟨rfl, rfl⟩ (by decide) rfl (Nat.le_of_ble_eq_true rfl) dX3_addItem_108 (fun q1 => ?_)
    exact xj_zret_b Z dX3_addItem_111
  refine xj_ite (fun h => ?_) (fun h1 => ?_)
  · refine xj_look (off := 66) Z 67 dX3_addItem_1 (by decide) (by rw [h]; decide) (by decide) ?_
    refine xj_aload_n Z 2 dX3_addItem_67 rfl rfl ?_
    refine xj_aload_n Z 0 dX3_addItem_68 rfl rfl ?_
    refine xg_X3_15 Z (hS 1 (by decide)) dX3_addItem_69 ?_
    refine xj_iconst Z 0 dX3_addItem_72 (by decide) ?_
    refine xj_iald Z (hS 3 (by decide)) rfl dX3_addItem_73 (fun _ => ?_)
    refine xj_aload_n Z 0 dX3_addItem_74 rfl rfl ?_
    refine xg_X3_15 Z (hS 1 (by decide)) dX3_addItem_75 ?_
    refine xj_iconst Z 1 dX3_addItem_78 (by decide) ?_
    refine xj_iald Z (hS 3 (by decide)) rfl dX3_addItem_79 (fun _ => ?_)
    refine xj_aload_n Z 0 dX3_addItem_80 rfl rfl ?_
    refine xg_X3_15 Z (hS 1 (by decide)) dX3_addItem_81 ?_
    refine xj_iconst Z 2 dX3_addItem_84 (by decide) ?_
    refine xj_iald Z (hS 3 (by decide)) rfl dX3_addItem_85 (fun _ => ?_)
    refine xj_callVb Z (As := [.int (M.1 3 (0 : Int32).toNatClampNeg), .int (M.1 3 (1 : Int32).toNatClampNeg), .int (M.1 3 (2 : Int32).toNatClampNeg)]) (kX1_addMember l D cs S ad Z.2.2.2.2.2.1.dist hr2 (M.1 3 (0 : Int32).toNatClampNeg) (M.1 3 (1 : Int32).toNatClampNeg) (M.1 3 (2 : Int32).toNatClampNeg) M) gw_X3_55 (hr2.mem 0 (by decide)) hr2.lay rfl (n := 3) (by decide +kernel) rfl ⟨rfl, rfl⟩ (by decide) rfl (Nat.le_of_ble_eq_true rfl) dX3_addItem_86 (fun q2 => ?_)
    exact xj_zret_b Z dX3_addItem_89
  refine xj_ite (fun h => ?_) (fun h2 => ?_)
  · refine xj_look (off := 43) Z 44 dX3_addItem_1 (by decide) (by rw [h]; decide) (by decide) ?_
    refine xj_aload_n Z 2 dX3_addItem_44 rfl rfl ?_
    refine xj_aload_n Z 0 dX3_addItem_45 rfl rfl ?_
    refine xg_X3_15 Z (hS 1 (by decide)) dX3_addItem_46 ?_
    refine xj_iconst Z 0 dX3_addItem_49 (by decide) ?_
    refine xj_iald Z (hS 3 (by decide)) rfl dX3_addItem_50 (fun _ => ?_)
    refine xj_aload_n Z 0 dX3_addItem_51 rfl rfl ?_
    refine xg_X3_15 Z (hS 1 (by decide)) dX3_addItem_52 ?_
    refine xj_iconst Z 1 dX3_addItem_55 (by decide) ?_
    refine xj_iald Z (hS 3 (by decide)) rfl dX3_addItem_56 (fun _ => ?_)
    refine xj_aload_n Z 0 dX3_addItem_57 rfl rfl ?_
    refine xg_X3_15 Z (hS 1 (by decide)) dX3_addItem_58 ?_
    refine xj_iconst Z 2 dX3_addItem_61 (by decide) ?_
    refine xj_iald Z (hS 3 (by decide)) rfl dX3_addItem_62 (fun _ => ?_)
    refine xj_callVb Z (As := [.int (M.1 3 (0 : Int32).toNatClampNeg), .int (M.1 3 (1 : Int32).toNatClampNeg), .int (M.1 3 (2 : Int32).toNatClampNeg)]) (kX1_addParish l D cs S ad Z.2.2.2.2.2.1.dist hr2 (M.1 3 (0 : Int32).toNatClampNeg) (M.1 3 (1 : Int32).toNatClampNeg) (M.1 3 (2 : Int32).toNatClampNeg) M) gw_X3_51 (hr2.mem 0 (by decide)) hr2.lay rfl (n := 3) (by decide +kernel) rfl ⟨rfl, rfl⟩ (by decide) rfl (Nat.le_of_ble_eq_true rfl) dX3_addItem_63 (fun q3 => ?_)
    exact xj_zret_b Z dX3_addItem_66
  refine xj_ite (fun h => ?_) (fun h3 => ?_)
  · refine xj_look (off := 89) Z 90 dX3_addItem_1 (by decide) (by rw [h]; decide) (by decide) ?_
    refine xj_aload_n Z 2 dX3_addItem_90 rfl rfl ?_
    refine xj_aload_n Z 0 dX3_addItem_91 rfl rfl ?_
    refine xg_X3_15 Z (hS 1 (by decide)) dX3_addItem_92 ?_
    refine xj_iconst Z 0 dX3_addItem_95 (by decide) ?_
    refine xj_iald Z (hS 3 (by decide)) rfl dX3_addItem_96 (fun _ => ?_)
    refine xj_callVb Z (As := [.int (M.1 3 (0 : Int32).toNatClampNeg)]) (kX1_setQuorum l D cs S ad Z.2.2.2.2.2.1.dist hr2 (M.1 3 (0 : Int32).toNatClampNeg) M) gw_X3_58 (hr2.mem 0 (by decide)) hr2.lay rfl (n := 1) (by decide +kernel) rfl ⟨rfl, rfl⟩ (by decide) rfl (Nat.le_of_ble_eq_true rfl) dX3_addItem_97 (fun q4 => ?_)
    exact xj_zret_b Z dX3_addItem_100
  refine xj_look (off := 111) Z 112 dX3_addItem_1 (by decide) (by simp [Op.lookupswitch.offset, Ne.symm (xti (n := 98) _ (by decide) h0), Ne.symm (xti (n := 109) _ (by decide) h1), Ne.symm (xti (n := 112) _ (by decide) h2), Ne.symm (xti (n := 113) _ (by decide) h3)]) (by decide) ?_
  refine xj_iconst Z 0 dX3_addItem_112 (by decide) ?_
  exact xj_zret_b Z dX3_addItem_113
/-! WalkingLaw$Text.takeItem(ILWalkingLaw$Road;)I -/
theorem dX3_takeItem_0 : decode cX3_takeItem 0 = .ok (.aload_n 0, 1) := by decide +kernel
theorem dX3_takeItem_1 : decode cX3_takeItem 1 = .ok (.iload_n 1, 1) := by decide +kernel
theorem dX3_takeItem_2 : decode cX3_takeItem 2 = .ok (.invokevirtual 32, 3) := by decide +kernel
theorem dX3_takeItem_5 : decode cX3_takeItem 5 = .ok (.istore_n 3, 1) := by decide +kernel
theorem dX3_takeItem_6 : decode cX3_takeItem 6 = .ok (.iload_n 3, 1) := by decide +kernel
theorem dX3_takeItem_7 : decode cX3_takeItem 7 = .ok (.invokestatic 36, 3) := by decide +kernel
theorem dX3_takeItem_10 : decode cX3_takeItem 10 = .ok (.istore 4, 2) := by decide +kernel
theorem dX3_takeItem_12 : decode cX3_takeItem 12 = .ok (.iload 4, 2) := by decide +kernel
theorem dX3_takeItem_14 : decode cX3_takeItem 14 = .ok (.ifCond .ne 7, 3) := by decide +kernel
theorem dX3_takeItem_17 : decode cX3_takeItem 17 = .ok (.iconst (-1), 1) := by decide +kernel
theorem dX3_takeItem_18 : decode cX3_takeItem 18 = .ok (.goto 6, 3) := by decide +kernel
theorem dX3_takeItem_21 : decode cX3_takeItem 21 = .ok (.iload_n 1, 1) := by decide +kernel
theorem dX3_takeItem_22 : decode cX3_takeItem 22 = .ok (.iconst 1, 1) := by decide +kernel
theorem dX3_takeItem_23 : decode cX3_takeItem 23 = .ok (.iadd, 1) := by decide +kernel
theorem dX3_takeItem_24 : decode cX3_takeItem 24 = .ok (.istore 5, 2) := by decide +kernel
theorem dX3_takeItem_26 : decode cX3_takeItem 26 = .ok (.iconst 0, 1) := by decide +kernel
theorem dX3_takeItem_27 : decode cX3_takeItem 27 = .ok (.istore 6, 2) := by decide +kernel
theorem dX3_takeItem_29 : decode cX3_takeItem 29 = .ok (.iload 6, 2) := by decide +kernel
theorem dX3_takeItem_31 : decode cX3_takeItem 31 = .ok (.iload 4, 2) := by decide +kernel
theorem dX3_takeItem_33 : decode cX3_takeItem 33 = .ok (.if_icmp .ge 41, 3) := by decide +kernel
theorem dX3_takeItem_36 : decode cX3_takeItem 36 = .ok (.iload 5, 2) := by decide +kernel
theorem dX3_takeItem_38 : decode cX3_takeItem 38 = .ok (.iconst (-1), 1) := by decide +kernel
theorem dX3_takeItem_39 : decode cX3_takeItem 39 = .ok (.if_icmp .eq 35, 3) := by decide +kernel
theorem dX3_takeItem_42 : decode cX3_takeItem 42 = .ok (.aload_n 0, 1) := by decide +kernel
theorem dX3_takeItem_43 : decode cX3_takeItem 43 = .ok (.iload 5, 2) := by decide +kernel
theorem dX3_takeItem_45 : decode cX3_takeItem 45 = .ok (.iload 6, 2) := by decide +kernel
theorem dX3_takeItem_47 : decode cX3_takeItem 47 = .ok (.iload 6, 2) := by decide +kernel
theorem dX3_takeItem_49 : decode cX3_takeItem 49 = .ok (.iconst 1, 1) := by decide +kernel
theorem dX3_takeItem_50 : decode cX3_takeItem 50 = .ok (.iadd, 1) := by decide +kernel
theorem dX3_takeItem_51 : decode cX3_takeItem 51 = .ok (.iload 4, 2) := by decide +kernel
theorem dX3_takeItem_53 : decode cX3_takeItem 53 = .ok (.if_icmp .ge 8, 3) := by decide +kernel
theorem dX3_takeItem_56 : decode cX3_takeItem 56 = .ok (.bipush 44, 2) := by decide +kernel
theorem dX3_takeItem_58 : decode cX3_takeItem 58 = .ok (.goto 5, 3) := by decide +kernel
theorem dX3_takeItem_61 : decode cX3_takeItem 61 = .ok (.bipush 59, 2) := by decide +kernel
theorem dX3_takeItem_63 : decode cX3_takeItem 63 = .ok (.invokevirtual 39, 3) := by decide +kernel
theorem dX3_takeItem_66 : decode cX3_takeItem 66 = .ok (.istore 5, 2) := by decide +kernel
theorem dX3_takeItem_68 : decode cX3_takeItem 68 = .ok (.iinc 6 1, 3) := by decide +kernel
theorem dX3_takeItem_71 : decode cX3_takeItem 71 = .ok (.goto (-42), 3) := by decide +kernel
theorem dX3_takeItem_74 : decode cX3_takeItem 74 = .ok (.iload 5, 2) := by decide +kernel
theorem dX3_takeItem_76 : decode cX3_takeItem 76 = .ok (.iconst (-1), 1) := by decide +kernel
theorem dX3_takeItem_77 : decode cX3_takeItem 77 = .ok (.if_icmp .eq 17, 3) := by decide +kernel
theorem dX3_takeItem_80 : decode cX3_takeItem 80 = .ok (.aload_n 0, 1) := by decide +kernel
theorem dX3_takeItem_81 : decode cX3_takeItem 81 = .ok (.iload_n 3, 1) := by decide +kernel
theorem dX3_takeItem_82 : decode cX3_takeItem 82 = .ok (.aload_n 2, 1) := by decide +kernel
theorem dX3_takeItem_83 : decode cX3_takeItem 83 = .ok (.invokevirtual 43, 3) := by decide +kernel
theorem dX3_takeItem_86 : decode cX3_takeItem 86 = .ok (.ifCond .eq 8, 3) := by decide +kernel
theorem dX3_takeItem_89 : decode cX3_takeItem 89 = .ok (.iload 5, 2) := by decide +kernel
theorem dX3_takeItem_91 : decode cX3_takeItem 91 = .ok (.goto 4, 3) := by decide +kernel
theorem dX3_takeItem_94 : decode cX3_takeItem 94 = .ok (.iconst (-1), 1) := by decide +kernel
theorem dX3_takeItem_95 : decode cX3_takeItem 95 = .ok (.ireturn, 1) := by decide +kernel
def rmX3_takeItem : Room := { frames := 3, cells := 0, slots := 0, locals := 68 }
def fX3_takeItem_63 (r2 : Nat) (k29 : Int32 → Int32 → xm → Option (Int32 × xm)) (x3 : Int32) (x4 : Int32) (x6 : Int32) (t1 : Int32) (t2 : Int32) (t3 : Int32) (M : xm) : Option (Int32 × xm) := (fX3_takeNumber t1 t2 t3 M).bind (fun q1 => (k29 q1.1 (x6 + 1) q1.2))
def fX3_takeItem_95 (r2 : Nat) (t0 : Int32) (M : xm) : Option (Int32 × xm) := (some (t0, M))
def fX3_takeItem_94 (r2 : Nat) (M : xm) : Option (Int32 × xm) := (fX3_takeItem_95 r2 (-1) M)
def fX3_takeItem_74 (r2 : Nat) (x3 : Int32) (x5 : Int32) (M : xm) : Option (Int32 × xm) := (if x5 = (-1) then (fX3_takeItem_94 r2 M) else (fX3_addItem r2 x3 M).bind (fun q2 => (if q2.1 = 0 then (fX3_takeItem_94 r2 q2.2) else (fX3_takeItem_95 r2 x5 q2.2))))
def fX3_takeItem_29 (r2 : Nat) (x3 : Int32) (x4 : Int32) : Nat → Int32 → Int32 → xm → Option (Int32 × xm)
  | 0, _, _, _ => none
  | n + 1, x5, x6, M => (if x4 ≤ x6 then (fX3_takeItem_74 r2 x3 x5 M) else (if x5 = (-1) then (fX3_takeItem_74 r2 x3 x5 M) else (if x4 ≤ (x6 + 1) then (fX3_takeItem_63 r2 (fun z0 z1 z2 => fX3_takeItem_29 r2 x3 x4 n z0 z1 z2) x3 x4 x6 x5 x6 59 M) else (fX3_takeItem_63 r2 (fun z0 z1 z2 => fX3_takeItem_29 r2 x3 x4 n z0 z1 z2) x3 x4 x6 x5 x6 44 M))))
def fX3_takeItem_24 (r2 : Nat) (x3 : Int32) (x4 : Int32) (t0 : Int32) (M : xm) : Option (Int32 × xm) := (fX3_takeItem_29 r2 x3 x4 xfuel t0 0 M)
def fX3_takeItem (r2 : Nat) (x1 : Int32) (M : xm) : Option (Int32 × xm) := (fX3_byteAt x1 M).bind (fun v3 => (fX3_numbersBehind v3 M).bind (fun v4 => (if v4 = 0 then (fX3_takeItem_24 r2 v3 v4 (-1) M) else (fX3_takeItem_24 r2 v3 v4 (x1 + 1) M))))
section
variable {p : Program} {l : Launch} {e : Env} {s : State} {m : MethodId} {args : Array Value} {below : List Frame} {meth : Method} {c : Code} {D : va_G} {cs : Nat → ClassId} {S : List Nat} {ad : Nat → Nat} {r2 : Nat}
theorem bX3_takeItem_63 (Z : CX p s m args meth c cX3_takeItem 7 RX3 (some .int) D cs (xA S ad) S ad) (hS : xall S) (hr2 : xRoad S r2) {k29 : Int32 → Int32 → xm → Option (Int32 × xm)} (x3 : Int32) (x4 : Int32) (x6 : Int32) (t1 : Int32) (t2 : Int32) (t3 : Int32) (M : xm) (hk29 : ∀ (x5 : Int32) (x6 : Int32) (M : xm), XJ p l e rmX3_takeItem s m args below meth c D cs (xA S ad) S ad 7 (XRb below args s D cs S ad) 29 [(0, .ref (ad 1)), (2, .ref (ad r2)), (3, .int x3), (4, .int x4), (5, .int x5), (6, .int x6)] [] M (k29 x5 x6 M)) : XJ p l e rmX3_takeItem s m args below meth c D cs (xA S ad) S ad 7 (XRb below args s D cs S ad) 63 [(0, .ref (ad 1)), (2, .ref (ad r2)), (3, .int x3), (4, .int x4), (6, .int x6)] [.int t3, .int t2, .int t1, .ref (ad 1)] M (fX3_takeItem_63 r2 k29 x3 x4 x6 t1 t2 t3 M) := by
  unfold fX3_takeItem_63
  refine xj_callVb Z (As := [.int t1, .int t2, .int t3]) (kX3_takeNumber l D cs S ad Z.2.2.2.2.2.1.dist hS t1 t2 t3 M) gw_X3_39 (hS 1 (by decide)) rfl rfl (n := 3) (by decide +kernel) rfl ⟨rfl, rfl⟩ (by decide) rfl (Nat.le_of_ble_eq_true rfl) dX3_takeItem_63 (fun q1 => ?_)
  refine xj_istore Z (lv' := [(5, .int q1.1), (0, .ref (ad 1)), (2, .ref (ad r2)), (3, .int x3), (4, .int x4), (6, .int x6)]) dX3_takeItem_66 (by decide) rfl ?_
  refine xj_iinc Z 5 (x6 + 1) (lv' := [(6, .int (x6 + 1)), (5, .int q1.1), (0, .ref (ad 1)), (2, .ref (ad r2)), (3, .int x3), (4, .int x4)]) dX3_takeItem_68 rfl rfl (by decide) rfl ?_
  refine xj_goto Z 29 dX3_takeItem_71 (by decide) ?_
  refine xj_sub [2, 3, 4, 5, 1, 0] (lv' := [(0, .ref (ad 1)), (2, .ref (ad r2)), (3, .int x3), (4, .int x4), (5, .int q1.1), (6, .int (x6 + 1))]) rfl ?_
  exact hk29 q1.1 (x6 + 1) q1.2
theorem bX3_takeItem_95 (Z : CX p s m args meth c cX3_takeItem 7 RX3 (some .int) D cs (xA S ad) S ad) (hS : xall S) (hr2 : xRoad S r2) (t0 : Int32) (M : xm) : XJ p l e rmX3_takeItem s m args below meth c D cs (xA S ad) S ad 7 (XRb below args s D cs S ad) 95 [] [.int t0] M (fX3_takeItem_95 r2 t0 M) := by
  unfold fX3_takeItem_95
  exact xj_ret_b Z dX3_takeItem_95
theorem bX3_takeItem_94 (Z : CX p s m args meth c cX3_takeItem 7 RX3 (some .int) D cs (xA S ad) S ad) (hS : xall S) (hr2 : xRoad S r2) (M : xm) : XJ p l e rmX3_takeItem s m args below meth c D cs (xA S ad) S ad 7 (XRb below args s D cs S ad) 94 [] [] M (fX3_takeItem_94 r2 M) := by
  unfold fX3_takeItem_94
  refine xj_iconst Z (-1) dX3_takeItem_94 (by decide) ?_
  exact bX3_takeItem_95 Z hS hr2 (-1) M
theorem bX3_takeItem_74 (Z : CX p s m args meth c cX3_takeItem 7 RX3 (some .int) D cs (xA S ad) S ad) (hS : xall S) (hr2 : xRoad S r2) (x3 : Int32) (x5 : Int32) (M : xm) : XJ p l e rmX3_takeItem s m args below meth c D cs (xA S ad) S ad 7 (XRb below args s D cs S ad) 74 [(0, .ref (ad 1)), (2, .ref (ad r2)), (3, .int x3), (5, .int x5)] [] M (fX3_takeItem_74 r2 x3 x5 M) := by
  unfold fX3_takeItem_74
  refine xj_iload Z 3 dX3_takeItem_74 rfl ?_
  refine xj_iconst Z (-1) dX3_takeItem_76 (by decide) ?_
  refine xj_icmp_eq Z 94 dX3_takeItem_77 (by decide) (fun _ => ?_) (fun _ => ?_)
  · refine xj_sub [] (lv' := []) rfl ?_
    exact bX3_takeItem_94 Z hS hr2 M
  · refine xj_aload_n Z 0 dX3_takeItem_80 rfl rfl ?_
    refine xj_iload_n Z 2 dX3_takeItem_81 rfl rfl ?_
    refine xj_aload_n Z 1 dX3_takeItem_82 rfl rfl ?_
    refine xj_callVb Z (As := [.int x3, .ref (ad r2)]) (kX3_addItem l D cs S ad Z.2.2.2.2.2.1.dist hS hr2 x3 M) gw_X3_43 (hS 1 (by decide)) rfl rfl (n := 2) (by decide +kernel) rfl ⟨rfl, rfl⟩ (by decide) rfl (Nat.le_of_ble_eq_true rfl) dX3_takeItem_83 (fun q2 => ?_)
    refine xj_if_eq Z 94 dX3_takeItem_86 (by decide) (fun _ => ?_) (fun _ => ?_)
    · refine xj_sub [] (lv' := []) rfl ?_
      exact bX3_takeItem_94 Z hS hr2 q2.2
    · refine xj_iload Z 3 dX3_takeItem_89 rfl ?_
      refine xj_goto Z 95 dX3_takeItem_91 (by decide) ?_
      refine xj_sub [] (lv' := []) rfl ?_
      exact bX3_takeItem_95 Z hS hr2 x5 q2.2
theorem bX3_takeItem_29 (Z : CX p s m args meth c cX3_takeItem 7 RX3 (some .int) D cs (xA S ad) S ad) (hS : xall S) (hr2 : xRoad S r2) (x3 : Int32) (x4 : Int32) : ∀ (n : Nat) (x5 : Int32) (x6 : Int32) (M : xm), XJ p l e rmX3_takeItem s m args below meth c D cs (xA S ad) S ad 7 (XRb below args s D cs S ad) 29 [(0, .ref (ad 1)), (2, .ref (ad r2)), (3, .int x3), (4, .int x4), (5, .int x5), (6, .int x6)] [] M (fX3_takeItem_29 r2 x3 x4 n x5 x6 M) := by
  intro n
  induction n with
  | zero => intros; exact xj_none
  | succ n ih =>
    intro x5 x6 M
    rw [fX3_takeItem_29]
    refine xj_iload Z 5 dX3_takeItem_29 rfl ?_
    refine xj_iload Z 3 dX3_takeItem_31 rfl ?_
    refine xj_icmp_ge Z 74 dX3_takeItem_33 (by decide) (fun _ => ?_) (fun _ => ?_)
    · refine xj_sub [0, 1, 2, 4] (lv' := [(0, .ref (ad 1)), (2, .ref (ad r2)), (3, .int x3), (5, .int x5)]) rfl ?_
      exact bX3_takeItem_74 Z hS hr2 x3 x5 M
    · refine xj_iload Z 4 dX3_takeItem_36 rfl ?_
      refine xj_iconst Z (-1) dX3_takeItem_38 (by decide) ?_
      refine xj_icmp_eq Z 74 dX3_takeItem_39 (by decide) (fun _ => ?_) (fun _ => ?_)
      · refine xj_sub [0, 1, 2, 4] (lv' := [(0, .ref (ad 1)), (2, .ref (ad r2)), (3, .int x3), (5, .int x5)]) rfl ?_
        exact bX3_takeItem_74 Z hS hr2 x3 x5 M
      · refine xj_aload_n Z 0 dX3_takeItem_42 rfl rfl ?_
        refine xj_iload Z 4 dX3_takeItem_43 rfl ?_
        refine xj_iload Z 5 dX3_takeItem_45 rfl ?_
        refine xj_iload Z 5 dX3_takeItem_47 rfl ?_
        refine xj_iconst Z 1 dX3_takeItem_49 (by decide) ?_
        refine xj_iadd Z dX3_takeItem_50 ?_
        refine xj_iload Z 3 dX3_takeItem_51 rfl ?_
        refine xj_icmp_ge Z 61 dX3_takeItem_53 (by decide) (fun _ => ?_) (fun _ => ?_)
        · refine xj_bipush Z 59 dX3_takeItem_61 (by decide) ?_
          refine xj_sub [0, 1, 2, 3, 5] (lv' := [(0, .ref (ad 1)), (2, .ref (ad r2)), (3, .int x3), (4, .int x4), (6, .int x6)]) rfl ?_
          exact bX3_takeItem_63 Z hS hr2 x3 x4 x6 x5 x6 59 M ih
        · refine xj_bipush Z 44 dX3_takeItem_56 (by decide) ?_
          refine xj_goto Z 63 dX3_takeItem_58 (by decide) ?_
          refine xj_sub [0, 1, 2, 3, 5] (lv' := [(0, .ref (ad 1)), (2, .ref (ad r2)), (3, .int x3), (4, .int x4), (6, .int x6)]) rfl ?_
          exact bX3_takeItem_63 Z hS hr2 x3 x4 x6 x5 x6 44 M ih
theorem bX3_takeItem_24 (Z : CX p s m args meth c cX3_takeItem 7 RX3 (some .int) D cs (xA S ad) S ad) (hS : xall S) (hr2 : xRoad S r2) (x3 : Int32) (x4 : Int32) (t0 : Int32) (M : xm) : XJ p l e rmX3_takeItem s m args below meth c D cs (xA S ad) S ad 7 (XRb below args s D cs S ad) 24 [(0, .ref (ad 1)), (2, .ref (ad r2)), (3, .int x3), (4, .int x4)] [.int t0] M (fX3_takeItem_24 r2 x3 x4 t0 M) := by
  unfold fX3_takeItem_24
  refine xj_istore Z (lv' := [(5, .int t0), (0, .ref (ad 1)), (2, .ref (ad r2)), (3, .int x3), (4, .int x4)]) dX3_takeItem_24 (by decide) rfl ?_
  refine xj_iconst Z 0 dX3_takeItem_26 (by decide) ?_
  refine xj_istore Z (lv' := [(6, .int 0), (5, .int t0), (0, .ref (ad 1)), (2, .ref (ad r2)), (3, .int x3), (4, .int x4)]) dX3_takeItem_27 (by decide) rfl ?_
  refine xj_sub [2, 3, 4, 5, 1, 0] (lv' := [(0, .ref (ad 1)), (2, .ref (ad r2)), (3, .int x3), (4, .int x4), (5, .int t0), (6, .int 0)]) rfl ?_
  exact bX3_takeItem_29 Z hS hr2 x3 x4 xfuel t0 0 M
end
theorem kX3_takeItem (l : Launch) (D : va_G) (cs : Nat → ClassId) (S : List Nat) (ad : Nat → Nat) (hd : xdist S ad) {r2 : Nat} (hS : xall S) (hr2 : xRoad S r2) (x1 : Int32) (M : xm) : ∀ r, fX3_takeItem r2 x1 M = some r → Met l yX3_takeItem [Cond.code yX3_takeItem cX3_takeItem 7 (some .int)] rmX3_takeItem (XPc D cs S ad [.ref (ad 1), .int x1, .ref (ad r2)] M) (XQi D cs S ad r.1 r.2) 0 0 (xA S ad) := by
  refine xm_b (own := RX3) (lv := [(0, .ref (ad 1)), (1, .int x1), (2, .ref (ad r2))]) (by decide +kernel) rfl rfl (Nat.le_of_ble_eq_true rfl) hd (fun p e s m args below meth c Z => ?_)
  unfold fX3_takeItem
  refine xj_aload_n Z 0 dX3_takeItem_0 rfl rfl ?_
  refine xj_iload_n Z 1 dX3_takeItem_1 rfl rfl ?_
  refine xj_callVr Z (As := [.int x1]) (kX3_byteAt l D cs S ad Z.2.2.2.2.2.1.dist hS x1 M) gw_X3_32 (hS 1 (by decide)) rfl rfl (n := 1) (by decide +kernel) rfl ⟨rfl, rfl⟩ (by decide) rfl (Nat.le_of_ble_eq_true rfl) dX3_takeItem_2 (fun v3 => ?_)
  refine xj_istore_n Z (lv' := [(3, .int v3), (0, .ref (ad 1)), (1, .int x1), (2, .ref (ad r2))]) dX3_takeItem_5 rfl (by decide) rfl ?_
  refine xj_iload_n Z 0 dX3_takeItem_6 rfl rfl ?_
  refine xj_callSr Z (As := [.int v3]) (kX3_numbersBehind l D cs S ad Z.2.2.2.2.2.1.dist v3 M) gw_X3_36 (n := 1) (by decide +kernel) rfl ⟨rfl, rfl⟩ (by decide) rfl (Nat.le_of_ble_eq_true rfl) dX3_takeItem_7 (fun v4 => ?_)
  refine xj_istore Z (lv' := [(4, .int v4), (3, .int v3), (0, .ref (ad 1)), (1, .int x1), (2, .ref (ad r2))]) dX3_takeItem_10 (by decide) rfl ?_
  refine xj_iload Z 0 dX3_takeItem_12 rfl ?_
  refine xj_if_ne Z 21 dX3_takeItem_14 (by decide) (fun _ => ?_) (fun _ => ?_)
  · refine xj_iload_n Z 3 dX3_takeItem_21 rfl rfl ?_
    refine xj_iconst Z 1 dX3_takeItem_22 (by decide) ?_
    refine xj_iadd Z dX3_takeItem_23 ?_
    refine xj_sub [2, 4, 1, 0] (lv' := [(0, .ref (ad 1)), (2, .ref (ad r2)), (3, .int v3), (4, .int v4)]) rfl ?_
    exact bX3_takeItem_24 Z hS hr2 v3 v4 (x1 + 1) M
  · refine xj_iconst Z (-1) dX3_takeItem_17 (by decide) ?_
    refine xj_goto Z 24 dX3_takeItem_18 (by decide) ?_
    refine xj_sub [2, 4, 1, 0] (lv' := [(0, .ref (ad 1)), (2, .ref (ad r2)), (3, .int v3), (4, .int v4)]) rfl ?_
    exact bX3_takeItem_24 Z hS hr2 v3 v4 (-1) M
/-! WalkingLaw$Text.tell(LWalkingLaw$Road;)I -/
theorem dX3_tell_0 : decode cX3_tell 0 = .ok (.aload_n 1, 1) := by decide +kernel
theorem dX3_tell_1 : decode cX3_tell 1 = .ok (.invokevirtual 23, 3) := by decide +kernel
theorem dX3_tell_4 : decode cX3_tell 4 = .ok (.iconst 0, 1) := by decide +kernel
theorem dX3_tell_5 : decode cX3_tell 5 = .ok (.istore_n 2, 1) := by decide +kernel
theorem dX3_tell_6 : decode cX3_tell 6 = .ok (.iconst 0, 1) := by decide +kernel
theorem dX3_tell_7 : decode cX3_tell 7 = .ok (.istore_n 3, 1) := by decide +kernel
theorem dX3_tell_8 : decode cX3_tell 8 = .ok (.iload_n 3, 1) := by decide +kernel
theorem dX3_tell_9 : decode cX3_tell 9 = .ok (.sipush 300, 3) := by decide +kernel
theorem dX3_tell_12 : decode cX3_tell 12 = .ok (.if_icmp .ge 36, 3) := by decide +kernel
theorem dX3_tell_15 : decode cX3_tell 15 = .ok (.iload_n 2, 1) := by decide +kernel
theorem dX3_tell_16 : decode cX3_tell 16 = .ok (.aload_n 0, 1) := by decide +kernel
theorem dX3_tell_17 : decode cX3_tell 17 = .ok (.getfield 19, 3) := by decide +kernel
theorem dX3_tell_20 : decode cX3_tell 20 = .ok (.if_icmp .ge 28, 3) := by decide +kernel
theorem dX3_tell_23 : decode cX3_tell 23 = .ok (.aload_n 0, 1) := by decide +kernel
theorem dX3_tell_24 : decode cX3_tell 24 = .ok (.iload_n 2, 1) := by decide +kernel
theorem dX3_tell_25 : decode cX3_tell 25 = .ok (.aload_n 1, 1) := by decide +kernel
theorem dX3_tell_26 : decode cX3_tell 26 = .ok (.invokevirtual 28, 3) := by decide +kernel
theorem dX3_tell_29 : decode cX3_tell 29 = .ok (.istore 4, 2) := by decide +kernel
theorem dX3_tell_31 : decode cX3_tell 31 = .ok (.iload 4, 2) := by decide +kernel
theorem dX3_tell_33 : decode cX3_tell 33 = .ok (.iconst (-1), 1) := by decide +kernel
theorem dX3_tell_34 : decode cX3_tell 34 = .ok (.if_icmp .ne 5, 3) := by decide +kernel
theorem dX3_tell_37 : decode cX3_tell 37 = .ok (.iload_n 2, 1) := by decide +kernel
theorem dX3_tell_38 : decode cX3_tell 38 = .ok (.ireturn, 1) := by decide +kernel
theorem dX3_tell_39 : decode cX3_tell 39 = .ok (.iload 4, 2) := by decide +kernel
theorem dX3_tell_41 : decode cX3_tell 41 = .ok (.istore_n 2, 1) := by decide +kernel
theorem dX3_tell_42 : decode cX3_tell 42 = .ok (.iinc 3 1, 3) := by decide +kernel
theorem dX3_tell_45 : decode cX3_tell 45 = .ok (.goto (-37), 3) := by decide +kernel
theorem dX3_tell_48 : decode cX3_tell 48 = .ok (.bipush (-4), 2) := by decide +kernel
theorem dX3_tell_50 : decode cX3_tell 50 = .ok (.ireturn, 1) := by decide +kernel
def rmX3_tell : Room := { frames := 4, cells := 0, slots := 0, locals := 94 }
def fX3_tell_48 (r1 : Nat) (M : xm) : Option (Int32 × xm) := (some ((-4), M))
def fX3_tell_8 (r1 : Nat) : Nat → Int32 → Int32 → xm → Option (Int32 × xm)
  | 0, _, _, _ => none
  | n + 1, x2, x3, M => (if (300 : Int32) ≤ x3 then (fX3_tell_48 r1 M) else (if (M.1 1 2) ≤ x2 then (fX3_tell_48 r1 M) else (fX3_takeItem r1 x2 M).bind (fun q1 => (if q1.1 = (-1) then (some (x2, q1.2)) else (fX3_tell_8 r1 n q1.1 (x3 + 1) q1.2)))))
def fX3_tell (r1 : Nat) (M : xm) : Option (Int32 × xm) := (fX1_clear r1 M).bind (fun M2 => (fX3_tell_8 r1 xfuel 0 0 M2))
section
variable {p : Program} {l : Launch} {e : Env} {s : State} {m : MethodId} {args : Array Value} {below : List Frame} {meth : Method} {c : Code} {D : va_G} {cs : Nat → ClassId} {S : List Nat} {ad : Nat → Nat} {r1 : Nat}
theorem bX3_tell_48 (Z : CX p s m args meth c cX3_tell 5 RX3 (some .int) D cs (xA S ad) S ad) (hS : xall S) (hr1 : xRoad S r1) (M : xm) : XJ p l e rmX3_tell s m args below meth c D cs (xA S ad) S ad 5 (XRb below args s D cs S ad) 48 [] [] M (fX3_tell_48 r1 M) := by
  unfold fX3_tell_48
  refine xj_bipush Z (-4) dX3_tell_48 (by decide) ?_
  exact xj_ret_b Z dX3_tell_50
theorem bX3_tell_8 (Z : CX p s m args meth c cX3_tell 5 RX3 (some .int) D cs (xA S ad) S ad) (hS : xall S) (hr1 : xRoad S r1) : ∀ (n : Nat) (x2 : Int32) (x3 : Int32) (M : xm), XJ p l e rmX3_tell s m args below meth c D cs (xA S ad) S ad 5 (XRb below args s D cs S ad) 8 [(0, .ref (ad 1)), (1, .ref (ad r1)), (2, .int x2), (3, .int x3)] [] M (fX3_tell_8 r1 n x2 x3 M) := by
  intro n
  induction n with
  | zero => intros; exact xj_none
  | succ n ih =>
    intro x2 x3 M
    rw [fX3_tell_8]
    refine xj_iload_n Z 3 dX3_tell_8 rfl rfl ?_
    refine xj_sipush Z 300 dX3_tell_9 (by decide) ?_
    refine xj_icmp_ge Z 48 dX3_tell_12 (by decide) (fun _ => ?_) (fun _ => ?_)
    · refine xj_sub [] (lv' := []) rfl ?_
      exact bX3_tell_48 Z hS hr1 M
    · refine xj_iload_n Z 2 dX3_tell_15 rfl rfl ?_
      refine xj_aload_n Z 0 dX3_tell_16 rfl rfl ?_
      refine xg_X3_19 Z (hS 1 (by decide)) dX3_tell_17 ?_
      refine xj_icmp_ge Z 48 dX3_tell_20 (by decide) (fun _ => ?_) (fun _ => ?_)
      · refine xj_sub [] (lv' := []) rfl ?_
        exact bX3_tell_48 Z hS hr1 M
      · refine xj_aload_n Z 0 dX3_tell_23 rfl rfl ?_
        refine xj_iload_n Z 2 dX3_tell_24 rfl rfl ?_
        refine xj_aload_n Z 1 dX3_tell_25 rfl rfl ?_
        refine xj_callVb Z (As := [.int x2, .ref (ad r1)]) (kX3_takeItem l D cs S ad Z.2.2.2.2.2.1.dist hS hr1 x2 M) gw_X3_28 (hS 1 (by decide)) rfl rfl (n := 2) (by decide +kernel) rfl ⟨rfl, rfl⟩ (by decide) rfl (Nat.le_of_ble_eq_true rfl) dX3_tell_26 (fun q1 => ?_)
        refine xj_istore Z (lv' := [(4, .int q1.1), (0, .ref (ad 1)), (1, .ref (ad r1)), (2, .int x2), (3, .int x3)]) dX3_tell_29 (by decide) rfl ?_
        refine xj_iload Z 0 dX3_tell_31 rfl ?_
        refine xj_iconst Z (-1) dX3_tell_33 (by decide) ?_
        refine xj_icmp_ne Z 39 dX3_tell_34 (by decide) (fun _ => ?_) (fun _ => ?_)
        · refine xj_iload Z 0 dX3_tell_39 rfl ?_
          refine xj_istore_n Z (lv' := [(2, .int q1.1), (4, .int q1.1), (0, .ref (ad 1)), (1, .ref (ad r1)), (3, .int x3)]) dX3_tell_41 rfl (by decide) rfl ?_
          refine xj_iinc Z 4 (x3 + 1) (lv' := [(3, .int (x3 + 1)), (2, .int q1.1), (4, .int q1.1), (0, .ref (ad 1)), (1, .ref (ad r1))]) dX3_tell_42 rfl rfl (by decide) rfl ?_
          refine xj_goto Z 8 dX3_tell_45 (by decide) ?_
          refine xj_sub [3, 4, 1, 0] (lv' := [(0, .ref (ad 1)), (1, .ref (ad r1)), (2, .int q1.1), (3, .int (x3 + 1))]) rfl ?_
          exact ih q1.1 (x3 + 1) q1.2
        · refine xj_iload_n Z 3 dX3_tell_37 rfl rfl ?_
          exact xj_ret_b Z dX3_tell_38
end
theorem kX3_tell (l : Launch) (D : va_G) (cs : Nat → ClassId) (S : List Nat) (ad : Nat → Nat) (hd : xdist S ad) {r1 : Nat} (hS : xall S) (hr1 : xRoad S r1) (M : xm) : ∀ r, fX3_tell r1 M = some r → Met l yX3_tell [Cond.code yX3_tell cX3_tell 5 (some .int)] rmX3_tell (XPc D cs S ad [.ref (ad 1), .ref (ad r1)] M) (XQi D cs S ad r.1 r.2) 0 0 (xA S ad) := by
  refine xm_b (own := RX3) (lv := [(0, .ref (ad 1)), (1, .ref (ad r1))]) (by decide +kernel) rfl rfl (Nat.le_of_ble_eq_true rfl) hd (fun p e s m args below meth c Z => ?_)
  unfold fX3_tell
  refine xj_aload_n Z 1 dX3_tell_0 rfl rfl ?_
  refine xj_callVm Z (As := []) (kX1_clear l D cs S ad Z.2.2.2.2.2.1.dist hr1 M) gw_X3_23 (hr1.mem 0 (by decide)) hr1.lay rfl (n := 0) (by decide +kernel) rfl ⟨rfl, rfl⟩ (by decide) rfl (Nat.le_of_ble_eq_true rfl) dX3_tell_1 (fun M2 => ?_)
  refine xj_iconst Z 0 dX3_tell_4 (by decide) ?_
  refine xj_istore_n Z (lv' := [(2, .int 0), (0, .ref (ad 1)), (1, .ref (ad r1))]) dX3_tell_5 rfl (by decide) rfl ?_
  refine xj_iconst Z 0 dX3_tell_6 (by decide) ?_
  refine xj_istore_n Z (lv' := [(3, .int 0), (2, .int 0), (0, .ref (ad 1)), (1, .ref (ad r1))]) dX3_tell_7 rfl (by decide) rfl ?_
  refine xj_sub [2, 3, 1, 0] (lv' := [(0, .ref (ad 1)), (1, .ref (ad r1)), (2, .int 0), (3, .int 0)]) rfl ?_
  exact bX3_tell_8 Z hS hr1 xfuel 0 0 M2
