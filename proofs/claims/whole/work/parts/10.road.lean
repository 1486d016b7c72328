/-! WalkingLaw$Road.parishAt(I)I -/
theorem dX1_parishAt_0 : decode cX1_parishAt 0 = .ok (.aload_n 0, 1) := by decide +kernel
theorem dX1_parishAt_1 : decode cX1_parishAt 1 = .ok (.getfield 39, 3) := by decide +kernel
theorem dX1_parishAt_4 : decode cX1_parishAt 4 = .ok (.iconst 1, 1) := by decide +kernel
theorem dX1_parishAt_5 : decode cX1_parishAt 5 = .ok (.isub, 1) := by decide +kernel
theorem dX1_parishAt_6 : decode cX1_parishAt 6 = .ok (.istore_n 2, 1) := by decide +kernel
theorem dX1_parishAt_7 : decode cX1_parishAt 7 = .ok (.iload_n 2, 1) := by decide +kernel
theorem dX1_parishAt_8 : decode cX1_parishAt 8 = .ok (.ifCond .le 21, 3) := by decide +kernel
theorem dX1_parishAt_11 : decode cX1_parishAt 11 = .ok (.iload_n 1, 1) := by decide +kernel
theorem dX1_parishAt_12 : decode cX1_parishAt 12 = .ok (.aload_n 0, 1) := by decide +kernel
theorem dX1_parishAt_13 : decode cX1_parishAt 13 = .ok (.getfield 21, 3) := by decide +kernel
theorem dX1_parishAt_16 : decode cX1_parishAt 16 = .ok (.iload_n 2, 1) := by decide +kernel
theorem dX1_parishAt_17 : decode cX1_parishAt 17 = .ok (.iaload, 1) := by decide +kernel
theorem dX1_parishAt_18 : decode cX1_parishAt 18 = .ok (.if_icmp .lt 5, 3) := by decide +kernel
theorem dX1_parishAt_21 : decode cX1_parishAt 21 = .ok (.iload_n 2, 1) := by decide +kernel
theorem dX1_parishAt_22 : decode cX1_parishAt 22 = .ok (.ireturn, 1) := by decide +kernel
theorem dX1_parishAt_23 : decode cX1_parishAt 23 = .ok (.iinc 2 (-1), 3) := by decide +kernel
theorem dX1_parishAt_26 : decode cX1_parishAt 26 = .ok (.goto (-19), 3) := by decide +kernel
theorem dX1_parishAt_29 : decode cX1_parishAt 29 = .ok (.iconst 0, 1) := by decide +kernel
theorem dX1_parishAt_30 : decode cX1_parishAt 30 = .ok (.ireturn, 1) := by decide +kernel
def rmX1_parishAt : Room := { frames := 0, cells := 0, slots := 0, locals := 0 }
def fX1_parishAt_7 (w : Nat) (x1 : Int32) (M : xm) : Nat → Int32 → Option (Int32)
  | 0, _ => none
  | n + 1, x2 => (if x2 ≤ 0 then (some 0) else xchk x2 6 ((if x1 < (M.1 (w + 4) x2.toNatClampNeg) then (fX1_parishAt_7 w x1 M n (x2 + (-1))) else (some x2))))
def fX1_parishAt (w : Nat) (x1 : Int32) (M : xm) : Option (Int32) := xl ((M.1 w 0) - 1) (fun v1 => (fX1_parishAt_7 w x1 M xfuel v1))
section
variable {p : Program} {l : Launch} {e : Env} {s : State} {m : MethodId} {args : Array Value} {below : List Frame} {meth : Method} {c : Code} {D : va_G} {cs : Nat → ClassId} {S : List Nat} {ad : Nat → Nat} {w : Nat}
theorem bX1_parishAt_7 (Z : CX p s m args meth c cX1_parishAt 3 RX1 (some .int) D cs (xA S ad) S ad) (hw : xRoad S w) (x1 : Int32) (M : xm) : ∀ (n : Nat) (x2 : Int32), XJ p l e rmX1_parishAt s m args below meth c D cs (xA S ad) S ad 3 (XRr below args s D cs S ad M) 7 [(0, .ref (ad w)), (1, .int x1), (2, .int x2)] [] M (fX1_parishAt_7 w x1 M n x2) := by
  intro n
  induction n with
  | zero => intros; exact xj_none
  | succ n ih =>
    intro x2
    rw [fX1_parishAt_7]
    refine xj_iload_n Z 2 dX1_parishAt_7 rfl rfl ?_
    refine xj_if_le Z 29 dX1_parishAt_8 (by decide) (fun _ => ?_) (fun _ => ?_)
    · refine xj_iconst Z 0 dX1_parishAt_29 (by decide) ?_
      exact xj_ret_r Z dX1_parishAt_30
    · refine xj_iload_n Z 1 dX1_parishAt_11 rfl rfl ?_
      refine xj_aload_n Z 0 dX1_parishAt_12 rfl rfl ?_
      refine xg_X1_21 Z (hw.mem 0 (by decide)) hw.lay dX1_parishAt_13 ?_
      refine xj_iload_n Z 2 dX1_parishAt_16 rfl rfl ?_
      refine xj_iald Z (hw.mem 4 (by decide)) hw.lay4 dX1_parishAt_17 (fun _ => ?_)
      refine xj_icmp_lt Z 23 dX1_parishAt_18 (by decide) (fun _ => ?_) (fun _ => ?_)
      · refine xj_iinc Z 2 (x2 + (-1)) (lv' := [(2, .int (x2 + (-1))), (0, .ref (ad w)), (1, .int x1)]) dX1_parishAt_23 rfl rfl (by decide) rfl ?_
        refine xj_goto Z 7 dX1_parishAt_26 (by decide) ?_
        refine xj_sub [1, 2, 0] (lv' := [(0, .ref (ad w)), (1, .int x1), (2, .int (x2 + (-1)))]) rfl ?_
        exact ih (x2 + (-1))
      · refine xj_iload_n Z 2 dX1_parishAt_21 rfl rfl ?_
        exact xj_ret_r Z dX1_parishAt_22
end
theorem kX1_parishAt (l : Launch) (D : va_G) (cs : Nat → ClassId) (S : List Nat) (ad : Nat → Nat) (hd : xdist S ad) {w : Nat} (hw : xRoad S w) (x1 : Int32) (M : xm) : ∀ r, fX1_parishAt w x1 M = some r → Met l yX1_parishAt [Cond.code yX1_parishAt cX1_parishAt 3 (some .int)] rmX1_parishAt (XPc D cs S ad [.ref (ad w), .int x1] M) (XQi D cs S ad r M) 0 0 (xA S ad) := by
  refine xm_r (own := RX1) (lv := [(0, .ref (ad w)), (1, .int x1)]) (by decide +kernel) rfl rfl (Nat.le_of_ble_eq_true rfl) hd (fun p e s m args below meth c Z => ?_)
  unfold fX1_parishAt
  refine xj_aload_n Z 0 dX1_parishAt_0 rfl rfl ?_
  refine xg_X1_39 Z (hw.mem 0 (by decide)) hw.lay dX1_parishAt_1 ?_
  refine xj_iconst Z 1 dX1_parishAt_4 (by decide) ?_
  refine xj_isub Z dX1_parishAt_5 ?_
  refine xj_top (fun v1 => ?_)
  refine xj_istore_n Z (lv' := [(2, .int v1), (0, .ref (ad w)), (1, .int x1)]) dX1_parishAt_6 rfl (by decide) rfl ?_
  refine xj_sub [1, 2, 0] (lv' := [(0, .ref (ad w)), (1, .int x1), (2, .int v1)]) rfl ?_
  exact bX1_parishAt_7 Z hw x1 M xfuel v1
/-! WalkingLaw$Road.strideFrom(II)I -/
theorem dX1_strideFrom_0 : decode cX1_strideFrom 0 = .ok (.aload_n 0, 1) := by decide +kernel
theorem dX1_strideFrom_1 : decode cX1_strideFrom 1 = .ok (.getfield 24, 3) := by decide +kernel
theorem dX1_strideFrom_4 : decode cX1_strideFrom 4 = .ok (.iload_n 2, 1) := by decide +kernel
theorem dX1_strideFrom_5 : decode cX1_strideFrom 5 = .ok (.iaload, 1) := by decide +kernel
theorem dX1_strideFrom_6 : decode cX1_strideFrom 6 = .ok (.lookupswitch 60 #[(1, 26), (2, 28)], 26) := by decide +kernel
theorem dX1_strideFrom_32 : decode cX1_strideFrom 32 = .ok (.iconst 4, 1) := by decide +kernel
theorem dX1_strideFrom_33 : decode cX1_strideFrom 33 = .ok (.ireturn, 1) := by decide +kernel
theorem dX1_strideFrom_34 : decode cX1_strideFrom 34 = .ok (.aload_n 0, 1) := by decide +kernel
theorem dX1_strideFrom_35 : decode cX1_strideFrom 35 = .ok (.getfield 15, 3) := by decide +kernel
theorem dX1_strideFrom_38 : decode cX1_strideFrom 38 = .ok (.aload_n 0, 1) := by decide +kernel
theorem dX1_strideFrom_39 : decode cX1_strideFrom 39 = .ok (.iload_n 1, 1) := by decide +kernel
theorem dX1_strideFrom_40 : decode cX1_strideFrom 40 = .ok (.invokevirtual 55, 3) := by decide +kernel
theorem dX1_strideFrom_43 : decode cX1_strideFrom 43 = .ok (.iaload, 1) := by decide +kernel
theorem dX1_strideFrom_44 : decode cX1_strideFrom 44 = .ok (.iconst 1, 1) := by decide +kernel
theorem dX1_strideFrom_45 : decode cX1_strideFrom 45 = .ok (.if_icmp .ne 14, 3) := by decide +kernel
theorem dX1_strideFrom_48 : decode cX1_strideFrom 48 = .ok (.aload_n 0, 1) := by decide +kernel
theorem dX1_strideFrom_49 : decode cX1_strideFrom 49 = .ok (.getfield 27, 3) := by decide +kernel
theorem dX1_strideFrom_52 : decode cX1_strideFrom 52 = .ok (.iload_n 2, 1) := by decide +kernel
theorem dX1_strideFrom_53 : decode cX1_strideFrom 53 = .ok (.iaload, 1) := by decide +kernel
theorem dX1_strideFrom_54 : decode cX1_strideFrom 54 = .ok (.iconst 2, 1) := by decide +kernel
theorem dX1_strideFrom_55 : decode cX1_strideFrom 55 = .ok (.idiv, 1) := by decide +kernel
theorem dX1_strideFrom_56 : decode cX1_strideFrom 56 = .ok (.goto 9, 3) := by decide +kernel
theorem dX1_strideFrom_59 : decode cX1_strideFrom 59 = .ok (.aload_n 0, 1) := by decide +kernel
theorem dX1_strideFrom_60 : decode cX1_strideFrom 60 = .ok (.getfield 27, 3) := by decide +kernel
theorem dX1_strideFrom_63 : decode cX1_strideFrom 63 = .ok (.iload_n 2, 1) := by decide +kernel
theorem dX1_strideFrom_64 : decode cX1_strideFrom 64 = .ok (.iaload, 1) := by decide +kernel
theorem dX1_strideFrom_65 : decode cX1_strideFrom 65 = .ok (.ireturn, 1) := by decide +kernel
theorem dX1_strideFrom_66 : decode cX1_strideFrom 66 = .ok (.aload_n 0, 1) := by decide +kernel
theorem dX1_strideFrom_67 : decode cX1_strideFrom 67 = .ok (.getfield 27, 3) := by decide +kernel
theorem dX1_strideFrom_70 : decode cX1_strideFrom 70 = .ok (.iload_n 2, 1) := by decide +kernel
theorem dX1_strideFrom_71 : decode cX1_strideFrom 71 = .ok (.iaload, 1) := by decide +kernel
theorem dX1_strideFrom_72 : decode cX1_strideFrom 72 = .ok (.ireturn, 1) := by decide +kernel
def rmX1_strideFrom : Room := { frames := 1, cells := 0, slots := 0, locals := 22 }
def fX1_strideFrom_65 (w : Nat) (t0 : Int32) (M : xm) : Option (Int32) := (some t0)
def fX1_strideFrom (w : Nat) (x1 : Int32) (x2 : Int32) (M : xm) : Option (Int32) := xchk x2 8 ((if (M.1 (w + 5) x2.toNatClampNeg) = 1 then (some 4) else if (M.1 (w + 5) x2.toNatClampNeg) = 2 then (fX1_parishAt w x1 M).bind (fun v1 => xchk v1 6 ((if (M.1 (w + 2) v1.toNatClampNeg) = 1 then xchk x2 8 ((fX1_strideFrom_65 w ((M.1 (w + 6) x2.toNatClampNeg) / 2) M)) else xchk x2 8 ((fX1_strideFrom_65 w (M.1 (w + 6) x2.toNatClampNeg) M))))) else xchk x2 8 ((some (M.1 (w + 6) x2.toNatClampNeg)))))
section
variable {p : Program} {l : Launch} {e : Env} {s : State} {m : MethodId} {args : Array Value} {below : List Frame} {meth : Method} {c : Code} {D : va_G} {cs : Nat → ClassId} {S : List Nat} {ad : Nat → Nat} {w : Nat}
theorem bX1_strideFrom_65 (Z : CX p s m args meth c cX1_strideFrom 3 RX1 (some .int) D cs (xA S ad) S ad) (hw : xRoad S w) (t0 : Int32) (M : xm) : XJ p l e rmX1_strideFrom s m args below meth c D cs (xA S ad) S ad 3 (XRr below args s D cs S ad M) 65 [] [.int t0] M (fX1_strideFrom_65 w t0 M) := by
  unfold fX1_strideFrom_65
  exact xj_ret_r Z dX1_strideFrom_65
end
theorem kX1_strideFrom (l : Launch) (D : va_G) (cs : Nat → ClassId) (S : List Nat) (ad : Nat → Nat) (hd : xdist S ad) {w : Nat} (hw : xRoad S w) (x1 : Int32) (x2 : Int32) (M : xm) : ∀ r, fX1_strideFrom w x1 x2 M = some r → Met l yX1_strideFrom [Cond.code yX1_strideFrom cX1_strideFrom 3 (some .int)] rmX1_strideFrom (XPc D cs S ad [.ref (ad w), .int x1, .int x2] M) (XQi D cs S ad r M) 0 0 (xA S ad) := by
  refine xm_r (own := RX1) (lv := [(0, .ref (ad w)), (1, .int x1), (2, .int x2)]) (by decide +kernel) rfl rfl (Nat.le_of_ble_eq_true rfl) hd (fun p e s m args below meth c Z => ?_)
  unfold fX1_strideFrom
  refine xj_aload_n Z 0 dX1_strideFrom_0 rfl rfl ?_
  refine xg_X1_24 Z (hw.mem 0 (by decide)) hw.lay dX1_strideFrom_1 ?_
  refine xj_iload_n Z 2 dX1_strideFrom_4 rfl rfl ?_
  refine xj_iald Z (hw.mem 5 (by decide)) hw.lay5 dX1_strideFrom_5 (fun _ => ?_)
  refine xj_ite (fun h => ?_) (fun h0 => ?_)
  · refine xj_look (off := 26) Z 32 dX1_strideFrom_6 (by decide) (by rw [h]; decide) (by decide) ?_
    refine xj_iconst Z 4 dX1_strideFrom_32 (by decide) ?_
    exact xj_ret_r Z dX1_strideFrom_33
  refine xj_ite (fun h => ?_) (fun h1 => ?_)
  · refine xj_look (off := 28) Z 34 dX1_strideFrom_6 (by decide) (by rw [h]; decide) (by decide) ?_
    refine xj_aload_n Z 0 dX1_strideFrom_34 rfl rfl ?_
    refine xg_X1_15 Z (hw.mem 0 (by decide)) hw.lay dX1_strideFrom_35 ?_
    refine xj_aload_n Z 0 dX1_strideFrom_38 rfl rfl ?_
    refine xj_iload_n Z 1 dX1_strideFrom_39 rfl rfl ?_
    refine xj_callVr Z (As := [.int x1]) (kX1_parishAt l D cs S ad Z.2.2.2.2.2.1.dist hw x1 M) gw_X1_55 (hw.mem 0 (by decide)) hw.lay rfl (n := 1) (by decide +kernel) rfl ⟨rfl, rfl⟩ (by decide) rfl (Nat.le_of_ble_eq_true rfl) dX1_strideFrom_40 (fun v1 => ?_)
    refine xj_iald Z (hw.mem 2 (by decide)) hw.lay2 dX1_strideFrom_43 (fun _ => ?_)
    refine xj_iconst Z 1 dX1_strideFrom_44 (by decide) ?_
    refine xj_icmp_ne Z 59 dX1_strideFrom_45 (by decide) (fun _ => ?_) (fun _ => ?_)
    · refine xj_aload_n Z 0 dX1_strideFrom_59 rfl rfl ?_
      refine xg_X1_27 Z (hw.mem 0 (by decide)) hw.lay dX1_strideFrom_60 ?_
      refine xj_iload_n Z 2 dX1_strideFrom_63 rfl rfl ?_
      refine xj_iald Z (hw.mem 6 (by decide)) hw.lay6 dX1_strideFrom_64 (fun _ => ?_)
      refine xj_sub [] (lv' := []) rfl ?_
      exact bX1_strideFrom_65 Z hw (M.1 (w + 6) x2.toNatClampNeg) M
    · refine xj_aload_n Z 0 dX1_strideFrom_48 rfl rfl ?_
      refine xg_X1_27 Z (hw.mem 0 (by decide)) hw.lay dX1_strideFrom_49 ?_
      refine xj_iload_n Z 2 dX1_strideFrom_52 rfl rfl ?_
      refine xj_iald Z (hw.mem 6 (by decide)) hw.lay6 dX1_strideFrom_53 (fun _ => ?_)
      refine xj_iconst Z 2 dX1_strideFrom_54 (by decide) ?_
      refine xj_idiv Z dX1_strideFrom_55 (by decide) ?_
      refine xj_goto Z 65 dX1_strideFrom_56 (by decide) ?_
      refine xj_sub [] (lv' := []) rfl ?_
      exact bX1_strideFrom_65 Z hw ((M.1 (w + 6) x2.toNatClampNeg) / 2) M
  refine xj_look (off := 60) Z 66 dX1_strideFrom_6 (by decide) (by simp [Op.lookupswitch.offset, Ne.symm (xti (n := 1) _ (by decide) h0), Ne.symm (xti (n := 2) _ (by decide) h1)]) (by decide) ?_
  refine xj_aload_n Z 0 dX1_strideFrom_66 rfl rfl ?_
  refine xg_X1_27 Z (hw.mem 0 (by decide)) hw.lay dX1_strideFrom_67 ?_
  refine xj_iload_n Z 2 dX1_strideFrom_70 rfl rfl ?_
  refine xj_iald Z (hw.mem 6 (by decide)) hw.lay6 dX1_strideFrom_71 (fun _ => ?_)
  exact xj_ret_r Z dX1_strideFrom_72
/-! java/lang/Integer.bitCount(I)I -/
theorem dJ6_bitCount_0f7a4_0 : decode cJ6_bitCount_0f7a4 0 = .ok (.iload_n 0, 1) := by decide +kernel
theorem dJ6_bitCount_0f7a4_1 : decode cJ6_bitCount_0f7a4 1 = .ok (.iload_n 0, 1) := by decide +kernel
theorem dJ6_bitCount_0f7a4_2 : decode cJ6_bitCount_0f7a4 2 = .ok (.iconst 1, 1) := by decide +kernel
theorem dJ6_bitCount_0f7a4_3 : decode cJ6_bitCount_0f7a4 3 = .ok (.iushr, 1) := by decide +kernel
theorem dJ6_bitCount_0f7a4_4 : decode cJ6_bitCount_0f7a4 4 = .ok (.ldc_w 265, 3) := by decide +kernel
theorem dJ6_bitCount_0f7a4_7 : decode cJ6_bitCount_0f7a4 7 = .ok (.iand, 1) := by decide +kernel
theorem dJ6_bitCount_0f7a4_8 : decode cJ6_bitCount_0f7a4 8 = .ok (.isub, 1) := by decide +kernel
theorem dJ6_bitCount_0f7a4_9 : decode cJ6_bitCount_0f7a4 9 = .ok (.istore_n 0, 1) := by decide +kernel
theorem dJ6_bitCount_0f7a4_10 : decode cJ6_bitCount_0f7a4 10 = .ok (.iload_n 0, 1) := by decide +kernel
theorem dJ6_bitCount_0f7a4_11 : decode cJ6_bitCount_0f7a4 11 = .ok (.ldc_w 266, 3) := by decide +kernel
theorem dJ6_bitCount_0f7a4_14 : decode cJ6_bitCount_0f7a4 14 = .ok (.iand, 1) := by decide +kernel
theorem dJ6_bitCount_0f7a4_15 : decode cJ6_bitCount_0f7a4 15 = .ok (.iload_n 0, 1) := by decide +kernel
theorem dJ6_bitCount_0f7a4_16 : decode cJ6_bitCount_0f7a4 16 = .ok (.iconst 2, 1) := by decide +kernel
theorem dJ6_bitCount_0f7a4_17 : decode cJ6_bitCount_0f7a4 17 = .ok (.iushr, 1) := by decide +kernel
theorem dJ6_bitCount_0f7a4_18 : decode cJ6_bitCount_0f7a4 18 = .ok (.ldc_w 266, 3) := by decide +kernel
theorem dJ6_bitCount_0f7a4_21 : decode cJ6_bitCount_0f7a4 21 = .ok (.iand, 1) := by decide +kernel
theorem dJ6_bitCount_0f7a4_22 : decode cJ6_bitCount_0f7a4 22 = .ok (.iadd, 1) := by decide +kernel
theorem dJ6_bitCount_0f7a4_23 : decode cJ6_bitCount_0f7a4 23 = .ok (.istore_n 0, 1) := by decide +kernel
theorem dJ6_bitCount_0f7a4_24 : decode cJ6_bitCount_0f7a4 24 = .ok (.iload_n 0, 1) := by decide +kernel
theorem dJ6_bitCount_0f7a4_25 : decode cJ6_bitCount_0f7a4 25 = .ok (.iload_n 0, 1) := by decide +kernel
theorem dJ6_bitCount_0f7a4_26 : decode cJ6_bitCount_0f7a4 26 = .ok (.iconst 4, 1) := by decide +kernel
theorem dJ6_bitCount_0f7a4_27 : decode cJ6_bitCount_0f7a4 27 = .ok (.iushr, 1) := by decide +kernel
theorem dJ6_bitCount_0f7a4_28 : decode cJ6_bitCount_0f7a4 28 = .ok (.iadd, 1) := by decide +kernel
theorem dJ6_bitCount_0f7a4_29 : decode cJ6_bitCount_0f7a4 29 = .ok (.ldc_w 267, 3) := by decide +kernel
theorem dJ6_bitCount_0f7a4_32 : decode cJ6_bitCount_0f7a4 32 = .ok (.iand, 1) := by decide +kernel
theorem dJ6_bitCount_0f7a4_33 : decode cJ6_bitCount_0f7a4 33 = .ok (.istore_n 0, 1) := by decide +kernel
theorem dJ6_bitCount_0f7a4_34 : decode cJ6_bitCount_0f7a4 34 = .ok (.iload_n 0, 1) := by decide +kernel
theorem dJ6_bitCount_0f7a4_35 : decode cJ6_bitCount_0f7a4 35 = .ok (.iload_n 0, 1) := by decide +kernel
theorem dJ6_bitCount_0f7a4_36 : decode cJ6_bitCount_0f7a4 36 = .ok (.bipush 8, 2) := by decide +kernel
theorem dJ6_bitCount_0f7a4_38 : decode cJ6_bitCount_0f7a4 38 = .ok (.iushr, 1) := by decide +kernel
theorem dJ6_bitCount_0f7a4_39 : decode cJ6_bitCount_0f7a4 39 = .ok (.iadd, 1) := by decide +kernel
theorem dJ6_bitCount_0f7a4_40 : decode cJ6_bitCount_0f7a4 40 = .ok (.istore_n 0, 1) := by decide +kernel
theorem dJ6_bitCount_0f7a4_41 : decode cJ6_bitCount_0f7a4 41 = .ok (.iload_n 0, 1) := by decide +kernel
theorem dJ6_bitCount_0f7a4_42 : decode cJ6_bitCount_0f7a4 42 = .ok (.iload_n 0, 1) := by decide +kernel
theorem dJ6_bitCount_0f7a4_43 : decode cJ6_bitCount_0f7a4 43 = .ok (.bipush 16, 2) := by decide +kernel
theorem dJ6_bitCount_0f7a4_45 : decode cJ6_bitCount_0f7a4 45 = .ok (.iushr, 1) := by decide +kernel
theorem dJ6_bitCount_0f7a4_46 : decode cJ6_bitCount_0f7a4 46 = .ok (.iadd, 1) := by decide +kernel
theorem dJ6_bitCount_0f7a4_47 : decode cJ6_bitCount_0f7a4 47 = .ok (.istore_n 0, 1) := by decide +kernel
theorem dJ6_bitCount_0f7a4_48 : decode cJ6_bitCount_0f7a4 48 = .ok (.iload_n 0, 1) := by decide +kernel
theorem dJ6_bitCount_0f7a4_49 : decode cJ6_bitCount_0f7a4 49 = .ok (.bipush 63, 2) := by decide +kernel
theorem dJ6_bitCount_0f7a4_51 : decode cJ6_bitCount_0f7a4 51 = .ok (.iand, 1) := by decide +kernel
theorem dJ6_bitCount_0f7a4_52 : decode cJ6_bitCount_0f7a4 52 = .ok (.ireturn, 1) := by decide +kernel
def rmJ6_bitCount_0f7a4 : Room := { frames := 0, cells := 0, slots := 0, locals := 0 }
def fJ6_bitCount_0f7a4 (x0 : Int32) (M : xm) : Option (Int32) := xl (x0 - (((x0.toUInt32 >>> ((1 : Int32).toUInt32 &&& Int32.toUInt32 31)).toInt32) &&& 1431655765)) (fun v1 => xl ((v1 &&& 858993459) + (((v1.toUInt32 >>> ((2 : Int32).toUInt32 &&& Int32.toUInt32 31)).toInt32) &&& 858993459)) (fun v2 => xl ((v2 + ((v2.toUInt32 >>> ((4 : Int32).toUInt32 &&& Int32.toUInt32 31)).toInt32)) &&& 252645135) (fun v3 => xl (v3 + ((v3.toUInt32 >>> ((8 : Int32).toUInt32 &&& Int32.toUInt32 31)).toInt32)) (fun v4 => xl (v4 + ((v4.toUInt32 >>> ((16 : Int32).toUInt32 &&& Int32.toUInt32 31)).toInt32)) (fun v5 => (some (v5 &&& 63)))))))
section
variable {p : Program} {l : Launch} {e : Env} {s : State} {m : MethodId} {args : Array Value} {below : List Frame} {meth : Method} {c : Code} {D : va_G} {cs : Nat → ClassId} {S : List Nat} {ad : Nat → Nat}
end
theorem kJ6_bitCount_0f7a4 (l : Launch) (D : va_G) (cs : Nat → ClassId) (S : List Nat) (ad : Nat → Nat) (hd : xdist S ad) (x0 : Int32) (M : xm) : ∀ r, fJ6_bitCount_0f7a4 x0 M = some r → Met l yJ6_bitCount_0f7a4 [Cond.code yJ6_bitCount_0f7a4 cJ6_bitCount_0f7a4 1 (some .int)] rmJ6_bitCount_0f7a4 (XPc D cs S ad [.int x0] M) (XQi D cs S ad r M) 0 0 (xA S ad) := by
  refine xm_r (own := RJ6) (lv := [(0, .int x0)]) (by decide +kernel) rfl rfl (Nat.le_of_ble_eq_true rfl) hd (fun p e s m args below meth c Z => ?_)
  unfold fJ6_bitCount_0f7a4
  refine xj_iload_n Z 0 dJ6_bitCount_0f7a4_0 rfl rfl ?_
  refine xj_iload_n Z 0 dJ6_bitCount_0f7a4_1 rfl rfl ?_
  refine xj_iconst Z 1 dJ6_bitCount_0f7a4_2 (by decide) ?_
  refine xj_iushr Z dJ6_bitCount_0f7a4_3 ?_
  refine xj_ldcw Z dJ6_bitCount_0f7a4_4 xb_32 ?_
  refine xj_iand Z dJ6_bitCount_0f7a4_7 ?_
  refine xj_isub Z dJ6_bitCount_0f7a4_8 ?_
  refine xj_top (fun v1 => ?_)
  refine xj_istore_n Z (lv' := [(0, .int v1)]) dJ6_bitCount_0f7a4_9 rfl (by decide) rfl ?_
  refine xj_iload_n Z 0 dJ6_bitCount_0f7a4_10 rfl rfl ?_
  refine xj_ldcw Z dJ6_bitCount_0f7a4_11 xb_33 ?_
  refine xj_iand Z dJ6_bitCount_0f7a4_14 ?_
  refine xj_iload_n Z 0 dJ6_bitCount_0f7a4_15 rfl rfl ?_
  refine xj_iconst Z 2 dJ6_bitCount_0f7a4_16 (by decide) ?_
  refine xj_iushr Z dJ6_bitCount_0f7a4_17 ?_
  refine xj_ldcw Z dJ6_bitCount_0f7a4_18 xb_33 ?_
  refine xj_iand Z dJ6_bitCount_0f7a4_21 ?_
  refine xj_iadd Z dJ6_bitCount_0f7a4_22 ?_
  refine xj_top (fun v2 => ?_)
  refine xj_istore_n Z (lv' := [(0, .int v2)]) dJ6_bitCount_0f7a4_23 rfl (by decide) rfl ?_
  refine xj_iload_n Z 0 dJ6_bitCount_0f7a4_24 rfl rfl ?_
  refine xj_iload_n Z 0 dJ6_bitCount_0f7a4_25 rfl rfl ?_
  refine xj_iconst Z 4 dJ6_bitCount_0f7a4_26 (by decide) ?_
  refine xj_iushr Z dJ6_bitCount_0f7a4_27 ?_
  refine xj_iadd Z dJ6_bitCount_0f7a4_28 ?_
  refine xj_ldcw Z dJ6_bitCount_0f7a4_29 xb_34 ?_
  refine xj_iand Z dJ6_bitCount_0f7a4_32 ?_
  refine xj_top (fun v3 => ?_)
  refine xj_istore_n Z (lv' := [(0, .int v3)]) dJ6_bitCount_0f7a4_33 rfl (by decide) rfl ?_
  refine xj_iload_n Z 0 dJ6_bitCount_0f7a4_34 rfl rfl ?_
  refine xj_iload_n Z 0 dJ6_bitCount_0f7a4_35 rfl rfl ?_
  refine xj_bipush Z 8 dJ6_bitCount_0f7a4_36 (by decide) ?_
  refine xj_iushr Z dJ6_bitCount_0f7a4_38 ?_
  refine xj_iadd Z dJ6_bitCount_0f7a4_39 ?_
  refine xj_top (fun v4 => ?_)
  refine xj_istore_n Z (lv' := [(0, .int v4)]) dJ6_bitCount_0f7a4_40 rfl (by decide) rfl ?_
  refine xj_iload_n Z 0 dJ6_bitCount_0f7a4_41 rfl rfl ?_
  refine xj_iload_n Z 0 dJ6_bitCount_0f7a4_42 rfl rfl ?_
  refine xj_bipush Z 16 dJ6_bitCount_0f7a4_43 (by decide) ?_
  refine xj_iushr Z dJ6_bitCount_0f7a4_45 ?_
  refine xj_iadd Z dJ6_bitCount_0f7a4_46 ?_
  refine xj_top (fun v5 => ?_)
  refine xj_istore_n Z (lv' := [(0, .int v5)]) dJ6_bitCount_0f7a4_47 rfl (by decide) rfl ?_
  refine xj_iload_n Z 0 dJ6_bitCount_0f7a4_48 rfl rfl ?_
  refine xj_bipush Z 63 dJ6_bitCount_0f7a4_49 (by decide) ?_
  refine xj_iand Z dJ6_bitCount_0f7a4_51 ?_
  exact xj_ret_r Z dJ6_bitCount_0f7a4_52
/-! WalkingLaw.lowestOf(I)I -/
theorem dX5_lowestOf_0 : decode cX5_lowestOf 0 = .ok (.iload_n 0, 1) := by decide +kernel
theorem dX5_lowestOf_1 : decode cX5_lowestOf 1 = .ok (.iload_n 0, 1) := by decide +kernel
theorem dX5_lowestOf_2 : decode cX5_lowestOf 2 = .ok (.ineg, 1) := by decide +kernel
theorem dX5_lowestOf_3 : decode cX5_lowestOf 3 = .ok (.iand, 1) := by decide +kernel
theorem dX5_lowestOf_4 : decode cX5_lowestOf 4 = .ok (.ireturn, 1) := by decide +kernel
def rmX5_lowestOf : Room := { frames := 0, cells := 0, slots := 0, locals := 0 }
def fX5_lowestOf (x0 : Int32) (M : xm) : Option (Int32) := (some (x0 &&& (-x0)))
section
variable {p : Program} {l : Launch} {e : Env} {s : State} {m : MethodId} {args : Array Value} {below : List Frame} {meth : Method} {c : Code} {D : va_G} {cs : Nat → ClassId} {S : List Nat} {ad : Nat → Nat}
end
theorem kX5_lowestOf (l : Launch) (D : va_G) (cs : Nat → ClassId) (S : List Nat) (ad : Nat → Nat) (hd : xdist S ad) (x0 : Int32) (M : xm) : ∀ r, fX5_lowestOf x0 M = some r → Met l yX5_lowestOf [Cond.code yX5_lowestOf cX5_lowestOf 1 (some .int)] rmX5_lowestOf (XPc D cs S ad [.int x0] M) (XQi D cs S ad r M) 0 0 (xA S ad) := by
  refine xm_r (own := RX5) (lv := [(0, .int x0)]) (by decide +kernel) rfl rfl (Nat.le_of_ble_eq_true rfl) hd (fun p e s m args below meth c Z => ?_)
  unfold fX5_lowestOf
  refine xj_iload_n Z 0 dX5_lowestOf_0 rfl rfl ?_
  refine xj_iload_n Z 0 dX5_lowestOf_1 rfl rfl ?_
  refine xj_ineg Z dX5_lowestOf_2 ?_
  refine xj_iand Z dX5_lowestOf_3 ?_
  exact xj_ret_r Z dX5_lowestOf_4
/-! WalkingLaw$Road.clear()V -/
theorem dX1_clear_0 : decode cX1_clear 0 = .ok (.aload_n 0, 1) := by decide +kernel
theorem dX1_clear_1 : decode cX1_clear 1 = .ok (.iconst 0, 1) := by decide +kernel
theorem dX1_clear_2 : decode cX1_clear 2 = .ok (.putfield 39, 3) := by decide +kernel
theorem dX1_clear_5 : decode cX1_clear 5 = .ok (.aload_n 0, 1) := by decide +kernel
theorem dX1_clear_6 : decode cX1_clear 6 = .ok (.iconst 0, 1) := by decide +kernel
theorem dX1_clear_7 : decode cX1_clear 7 = .ok (.putfield 43, 3) := by decide +kernel
theorem dX1_clear_10 : decode cX1_clear 10 = .ok (.aload_n 0, 1) := by decide +kernel
theorem dX1_clear_11 : decode cX1_clear 11 = .ok (.iconst 0, 1) := by decide +kernel
theorem dX1_clear_12 : decode cX1_clear 12 = .ok (.putfield 46, 3) := by decide +kernel
theorem dX1_clear_15 : decode cX1_clear 15 = .ok (.iconst 0, 1) := by decide +kernel
theorem dX1_clear_16 : decode cX1_clear 16 = .ok (.istore_n 1, 1) := by decide +kernel
theorem dX1_clear_17 : decode cX1_clear 17 = .ok (.iload_n 1, 1) := by decide +kernel
theorem dX1_clear_18 : decode cX1_clear 18 = .ok (.bipush 6, 2) := by decide +kernel
theorem dX1_clear_20 : decode cX1_clear 20 = .ok (.if_icmp .ge 16, 3) := by decide +kernel
theorem dX1_clear_23 : decode cX1_clear 23 = .ok (.aload_n 0, 1) := by decide +kernel
theorem dX1_clear_24 : decode cX1_clear 24 = .ok (.getfield 33, 3) := by decide +kernel
theorem dX1_clear_27 : decode cX1_clear 27 = .ok (.iload_n 1, 1) := by decide +kernel
theorem dX1_clear_28 : decode cX1_clear 28 = .ok (.iconst 0, 1) := by decide +kernel
theorem dX1_clear_29 : decode cX1_clear 29 = .ok (.iastore, 1) := by decide +kernel
theorem dX1_clear_30 : decode cX1_clear 30 = .ok (.iinc 1 1, 3) := by decide +kernel
theorem dX1_clear_33 : decode cX1_clear 33 = .ok (.goto (-16), 3) := by decide +kernel
theorem dX1_clear_36 : decode cX1_clear 36 = .ok (.aload_n 0, 1) := by decide +kernel
theorem dX1_clear_37 : decode cX1_clear 37 = .ok (.iconst 1, 1) := by decide +kernel
theorem dX1_clear_38 : decode cX1_clear 38 = .ok (.putfield 49, 3) := by decide +kernel
theorem dX1_clear_41 : decode cX1_clear 41 = .ok (.aload_n 0, 1) := by decide +kernel
theorem dX1_clear_42 : decode cX1_clear 42 = .ok (.iconst 4, 1) := by decide +kernel
theorem dX1_clear_43 : decode cX1_clear 43 = .ok (.putfield 52, 3) := by decide +kernel
theorem dX1_clear_46 : decode cX1_clear 46 = .ok (.return_, 1) := by decide +kernel
def rmX1_clear : Room := { frames := 0, cells := 0, slots := 0, locals := 0 }
def fX1_clear_17 (w : Nat) : Nat → Int32 → xm → Option (xm)
  | 0, _, _ => none
  | n + 1, x1, M => (if (6 : Int32) ≤ x1 then xl (up M w 11 1) (fun M1 => xl (up M1 w 12 4) (fun M2 => (some M2))) else xchk x1 6 (xl (up M (w + 8) (x1 : Int32).toNatClampNeg 0) (fun M3 => (fX1_clear_17 w n (x1 + 1) M3))))
def fX1_clear (w : Nat) (M : xm) : Option (xm) := xl (up M w 0 0) (fun M4 => xl (up M4 w 5 0) (fun M5 => xl (up M5 w 6 0) (fun M6 => (fX1_clear_17 w xfuel 0 M6))))
section
variable {p : Program} {l : Launch} {e : Env} {s : State} {m : MethodId} {args : Array Value} {below : List Frame} {meth : Method} {c : Code} {D : va_G} {cs : Nat → ClassId} {S : List Nat} {ad : Nat → Nat} {w : Nat}
theorem bX1_clear_17 (Z : CX p s m args meth c cX1_clear 2 RX1 none D cs (xA S ad) S ad) (hw : xRoad S w) : ∀ (n : Nat) (x1 : Int32) (M : xm), XJ p l e rmX1_clear s m args below meth c D cs (xA S ad) S ad 2 (XRm below args s D cs S ad) 17 [(0, .ref (ad w)), (1, .int x1)] [] M (fX1_clear_17 w n x1 M) := by
  intro n
  induction n with
  | zero => intros; exact xj_none
  | succ n ih =>
    intro x1 M
    rw [fX1_clear_17]
    refine xj_iload_n Z 1 dX1_clear_17 rfl rfl ?_
    refine xj_bipush Z 6 dX1_clear_18 (by decide) ?_
    refine xj_icmp_ge Z 36 dX1_clear_20 (by decide) (fun _ => ?_) (fun _ => ?_)
    · refine xj_aload_n Z 0 dX1_clear_36 rfl rfl ?_
      refine xj_iconst Z 1 dX1_clear_37 (by decide) ?_
      refine xp_X1_49 Z (hw.mem 0 (by decide)) hw.lay dX1_clear_38 (fun M1 _ => ?_)
      refine xj_aload_n Z 0 dX1_clear_41 rfl rfl ?_
      refine xj_iconst Z 4 dX1_clear_42 (by decide) ?_
      refine xp_X1_52 Z (hw.mem 0 (by decide)) hw.lay dX1_clear_43 (fun M2 _ => ?_)
      exact xj_vret Z dX1_clear_46
    · refine xj_aload_n Z 0 dX1_clear_23 rfl rfl ?_
      refine xg_X1_33 Z (hw.mem 0 (by decide)) hw.lay dX1_clear_24 ?_
      refine xj_iload_n Z 1 dX1_clear_27 rfl rfl ?_
      refine xj_iconst Z 0 dX1_clear_28 (by decide) ?_
      refine xj_iast Z (hw.mem 8 (by decide)) hw.lay8 dX1_clear_29 (fun M3 _ => ?_)
      refine xj_iinc Z 1 (x1 + 1) (lv' := [(1, .int (x1 + 1)), (0, .ref (ad w))]) dX1_clear_30 rfl rfl (by decide) rfl ?_
      refine xj_goto Z 17 dX1_clear_33 (by decide) ?_
      refine xj_sub [1, 0] (lv' := [(0, .ref (ad w)), (1, .int (x1 + 1))]) rfl ?_
      exact ih (x1 + 1) M3
end
theorem kX1_clear (l : Launch) (D : va_G) (cs : Nat → ClassId) (S : List Nat) (ad : Nat → Nat) (hd : xdist S ad) {w : Nat} (hw : xRoad S w) (M : xm) : ∀ r, fX1_clear w M = some r → Met l yX1_clear [Cond.code yX1_clear cX1_clear 2 none] rmX1_clear (XPc D cs S ad [.ref (ad w)] M) (XQv D cs S ad r) 0 0 (xA S ad) := by
  refine xm_m (own := RX1) (lv := [(0, .ref (ad w))]) (by decide +kernel) rfl rfl (Nat.le_of_ble_eq_true rfl) hd (fun p e s m args below meth c Z => ?_)
  unfold fX1_clear
  refine xj_aload_n Z 0 dX1_clear_0 rfl rfl ?_
  refine xj_iconst Z 0 dX1_clear_1 (by decide) ?_
  refine xp_X1_39 Z (hw.mem 0 (by decide)) hw.lay dX1_clear_2 (fun M4 _ => ?_)
  refine xj_aload_n Z 0 dX1_clear_5 rfl rfl ?_
  refine xj_iconst Z 0 dX1_clear_6 (by decide) ?_
  refine xp_X1_43 Z (hw.mem 0 (by decide)) hw.lay dX1_clear_7 (fun M5 _ => ?_)
  refine xj_aload_n Z 0 dX1_clear_10 rfl rfl ?_
  refine xj_iconst Z 0 dX1_clear_11 (by decide) ?_
  refine xp_X1_46 Z (hw.mem 0 (by decide)) hw.lay dX1_clear_12 (fun M6 _ => ?_)
  refine xj_iconst Z 0 dX1_clear_15 (by decide) ?_
  refine xj_istore_n Z (lv' := [(1, .int 0), (0, .ref (ad w))]) dX1_clear_16 rfl (by decide) rfl ?_
  refine xj_sub [1, 0] (lv' := [(0, .ref (ad w)), (1, .int 0)]) rfl ?_
  exact bX1_clear_17 Z hw xfuel 0 M6
/-! WalkingLaw$Road.addParish(III)Z -/
theorem dX1_addParish_0 : decode cX1_addParish 0 = .ok (.aload_n 0, 1) := by decide +kernel
theorem dX1_addParish_1 : decode cX1_addParish 1 = .ok (.getfield 39, 3) := by decide +kernel
theorem dX1_addParish_4 : decode cX1_addParish 4 = .ok (.bipush 6, 2) := by decide +kernel
theorem dX1_addParish_6 : decode cX1_addParish 6 = .ok (.if_icmp .ge 25, 3) := by decide +kernel
theorem dX1_addParish_9 : decode cX1_addParish 9 = .ok (.iload_n 1, 1) := by decide +kernel
theorem dX1_addParish_10 : decode cX1_addParish 10 = .ok (.iconst 1, 1) := by decide +kernel
theorem dX1_addParish_11 : decode cX1_addParish 11 = .ok (.if_icmp .lt 20, 3) := by decide +kernel
theorem dX1_addParish_14 : decode cX1_addParish 14 = .ok (.iload_n 1, 1) := by decide +kernel
theorem dX1_addParish_15 : decode cX1_addParish 15 = .ok (.bipush 30, 2) := by decide +kernel
theorem dX1_addParish_17 : decode cX1_addParish 17 = .ok (.if_icmp .gt 14, 3) := by decide +kernel
theorem dX1_addParish_20 : decode cX1_addParish 20 = .ok (.iload_n 2, 1) := by decide +kernel
theorem dX1_addParish_21 : decode cX1_addParish 21 = .ok (.iconst 1, 1) := by decide +kernel
theorem dX1_addParish_22 : decode cX1_addParish 22 = .ok (.if_icmp .gt 9, 3) := by decide +kernel
theorem dX1_addParish_25 : decode cX1_addParish 25 = .ok (.iload_n 3, 1) := by decide +kernel
theorem dX1_addParish_26 : decode cX1_addParish 26 = .ok (.bipush 40, 2) := by decide +kernel
theorem dX1_addParish_28 : decode cX1_addParish 28 = .ok (.if_icmp .le 5, 3) := by decide +kernel
theorem dX1_addParish_31 : decode cX1_addParish 31 = .ok (.iconst 0, 1) := by decide +kernel
theorem dX1_addParish_32 : decode cX1_addParish 32 = .ok (.ireturn, 1) := by decide +kernel
theorem dX1_addParish_33 : decode cX1_addParish 33 = .ok (.aload_n 0, 1) := by decide +kernel
theorem dX1_addParish_34 : decode cX1_addParish 34 = .ok (.getfield 9, 3) := by decide +kernel
theorem dX1_addParish_37 : decode cX1_addParish 37 = .ok (.aload_n 0, 1) := by decide +kernel
theorem dX1_addParish_38 : decode cX1_addParish 38 = .ok (.getfield 39, 3) := by decide +kernel
theorem dX1_addParish_41 : decode cX1_addParish 41 = .ok (.iload_n 1, 1) := by decide +kernel
theorem dX1_addParish_42 : decode cX1_addParish 42 = .ok (.iastore, 1) := by decide +kernel
theorem dX1_addParish_43 : decode cX1_addParish 43 = .ok (.aload_n 0, 1) := by decide +kernel
theorem dX1_addParish_44 : decode cX1_addParish 44 = .ok (.getfield 15, 3) := by decide +kernel
theorem dX1_addParish_47 : decode cX1_addParish 47 = .ok (.aload_n 0, 1) := by decide +kernel
theorem dX1_addParish_48 : decode cX1_addParish 48 = .ok (.getfield 39, 3) := by decide +kernel
theorem dX1_addParish_51 : decode cX1_addParish 51 = .ok (.iload_n 2, 1) := by decide +kernel
theorem dX1_addParish_52 : decode cX1_addParish 52 = .ok (.iastore, 1) := by decide +kernel
theorem dX1_addParish_53 : decode cX1_addParish 53 = .ok (.aload_n 0, 1) := by decide +kernel
theorem dX1_addParish_54 : decode cX1_addParish 54 = .ok (.getfield 18, 3) := by decide +kernel
theorem dX1_addParish_57 : decode cX1_addParish 57 = .ok (.aload_n 0, 1) := by decide +kernel
theorem dX1_addParish_58 : decode cX1_addParish 58 = .ok (.getfield 39, 3) := by decide +kernel
theorem dX1_addParish_61 : decode cX1_addParish 61 = .ok (.iload_n 3, 1) := by decide +kernel
theorem dX1_addParish_62 : decode cX1_addParish 62 = .ok (.iastore, 1) := by decide +kernel
theorem dX1_addParish_63 : decode cX1_addParish 63 = .ok (.aload_n 0, 1) := by decide +kernel
theorem dX1_addParish_64 : decode cX1_addParish 64 = .ok (.getfield 21, 3) := by decide +kernel
theorem dX1_addParish_67 : decode cX1_addParish 67 = .ok (.aload_n 0, 1) := by decide +kernel
theorem dX1_addParish_68 : decode cX1_addParish 68 = .ok (.getfield 39, 3) := by decide +kernel
theorem dX1_addParish_71 : decode cX1_addParish 71 = .ok (.aload_n 0, 1) := by decide +kernel
theorem dX1_addParish_72 : decode cX1_addParish 72 = .ok (.getfield 43, 3) := by decide +kernel
theorem dX1_addParish_75 : decode cX1_addParish 75 = .ok (.iastore, 1) := by decide +kernel
theorem dX1_addParish_76 : decode cX1_addParish 76 = .ok (.aload_n 0, 1) := by decide +kernel
theorem dX1_addParish_77 : decode cX1_addParish 77 = .ok (.dup, 1) := by decide +kernel
theorem dX1_addParish_78 : decode cX1_addParish 78 = .ok (.getfield 39, 3) := by decide +kernel
theorem dX1_addParish_81 : decode cX1_addParish 81 = .ok (.iconst 1, 1) := by decide +kernel
theorem dX1_addParish_82 : decode cX1_addParish 82 = .ok (.iadd, 1) := by decide +kernel
theorem dX1_addParish_83 : decode cX1_addParish 83 = .ok (.putfield 39, 3) := by decide +kernel
theorem dX1_addParish_86 : decode cX1_addParish 86 = .ok (.aload_n 0, 1) := by decide +kernel
theorem dX1_addParish_87 : decode cX1_addParish 87 = .ok (.dup, 1) := by decide +kernel
theorem dX1_addParish_88 : decode cX1_addParish 88 = .ok (.getfield 43, 3) := by decide +kernel
theorem dX1_addParish_91 : decode cX1_addParish 91 = .ok (.iload_n 1, 1) := by decide +kernel
theorem dX1_addParish_92 : decode cX1_addParish 92 = .ok (.iadd, 1) := by decide +kernel
theorem dX1_addParish_93 : decode cX1_addParish 93 = .ok (.putfield 43, 3) := by decide +kernel
theorem dX1_addParish_96 : decode cX1_addParish 96 = .ok (.iconst 1, 1) := by decide +kernel
theorem dX1_addParish_97 : decode cX1_addParish 97 = .ok (.ireturn, 1) := by decide +kernel
def rmX1_addParish : Room := { frames := 0, cells := 0, slots := 0, locals := 0 }
def fX1_addParish_31 (w : Nat) (M : xm) : Option (Int32 × xm) := (xbo 0 (some (0, M)))
def fX1_addParish (w : Nat) (x1 : Int32) (x2 : Int32) (x3 : Int32) (M : xm) : Option (Int32 × xm) := (if (6 : Int32) ≤ (M.1 w 0) then (fX1_addParish_31 w M) else (if x1 < 1 then (fX1_addParish_31 w M) else (if (30 : Int32) < x1 then (fX1_addParish_31 w M) else (if (1 : Int32) < x2 then (fX1_addParish_31 w M) else (if x3 ≤ 40 then xchk (M.1 w 0) 6 (xl (up M (w + 1) ((M.1 w 0) : Int32).toNatClampNeg x1) (fun M1 => xchk (M1.1 w 0) 6 (xl (up M1 (w + 2) ((M1.1 w 0) : Int32).toNatClampNeg x2) (fun M2 => xchk (M2.1 w 0) 6 (xl (up M2 (w + 3) ((M2.1 w 0) : Int32).toNatClampNeg x3) (fun M3 => xchk (M3.1 w 0) 6 (xl (up M3 (w + 4) ((M3.1 w 0) : Int32).toNatClampNeg (M3.1 w 5)) (fun M4 => xl (up M4 w 0 ((M4.1 w 0) + 1)) (fun M5 => xl (up M5 w 5 ((M5.1 w 5) + x1)) (fun M6 => (xbo 1 (some (1, M6))))))))))))) else (fX1_addParish_31 w M))))))
section
variable {p : Program} {l : Launch} {e : Env} {s : State} {m : MethodId} {args : Array Value} {below : List Frame} {meth : Method} {c : Code} {D : va_G} {cs : Nat → ClassId} {S : List Nat} {ad : Nat → Nat} {w : Nat}
theorem bX1_addParish_31 (Z : CX p s m args meth c cX1_addParish 4 RX1 (some .boolean) D cs (xA S ad) S ad) (hw : xRoad S w) (M : xm) : XJ p l e rmX1_addParish s m args below meth c D cs (xA S ad) S ad 4 (XRb below args s D cs S ad) 31 [] [] M (fX1_addParish_31 w M) := by
  unfold fX1_addParish_31
  refine xj_iconst Z 0 dX1_addParish_31 (by decide) ?_
  exact xj_zret_b Z dX1_addParish_32
end
theorem kX1_addParish (l : Launch) (D : va_G) (cs : Nat → ClassId) (S : List Nat) (ad : Nat → Nat) (hd : xdist S ad) {w : Nat} (hw : xRoad S w) (x1 : Int32) (x2 : Int32) (x3 : Int32) (M : xm) : ∀ r, fX1_addParish w x1 x2 x3 M = some r → Met l yX1_addParish [Cond.code yX1_addParish cX1_addParish 4 (some .boolean)] rmX1_addParish (XPc D cs S ad [.ref (ad w), .int x1, .int x2, .int x3] M) (XQi D cs S ad r.1 r.2) 0 0 (xA S ad) := by
  refine xm_b (own := RX1) (lv := [(0, .ref (ad w)), (1, .int x1), (2, .int x2), (3, .int x3)]) (by decide +kernel) rfl rfl (Nat.le_of_ble_eq_true rfl) hd (fun p e s m args below meth c Z => ?_)
  unfold fX1_addParish
  refine xj_aload_n Z 0 dX1_addParish_0 rfl rfl ?_
  refine xg_X1_39 Z (hw.mem 0 (by decide)) hw.lay dX1_addParish_1 ?_
  refine xj_bipush Z 6 dX1_addParish_4 (by decide) ?_
  refine xj_icmp_ge Z 31 dX1_addParish_6 (by decide) (fun _ => ?_) (fun _ => ?_)
  · refine xj_sub [] (lv' := []) rfl ?_
    exact bX1_addParish_31 Z hw M
  · refine xj_iload_n Z 1 dX1_addParish_9 rfl rfl ?_
    refine xj_iconst Z 1 dX1_addParish_10 (by decide) ?_
    refine xj_icmp_lt Z 31 dX1_addParish_11 (by decide) (fun _ => ?_) (fun _ => ?_)
    · refine xj_sub [] (lv' := []) rfl ?_
      exact bX1_addParish_31 Z hw M
    · refine xj_iload_n Z 1 dX1_addParish_14 rfl rfl ?_
      refine xj_bipush Z 30 dX1_addParish_15 (by decide) ?_
      refine xj_icmp_gt Z 31 dX1_addParish_17 (by decide) (fun _ => ?_) (fun _ => ?_)
      · refine xj_sub [] (lv' := []) rfl ?_
        exact bX1_addParish_31 Z hw M
      · refine xj_iload_n Z 2 dX1_addParish_20 rfl rfl ?_
        refine xj_iconst Z 1 dX1_addParish_21 (by decide) ?_
        refine xj_icmp_gt Z 31 dX1_addParish_22 (by decide) (fun _ => ?_) (fun _ => ?_)
        · refine xj_sub [] (lv' := []) rfl ?_
          exact bX1_addParish_31 Z hw M
        · refine xj_iload_n Z 3 dX1_addParish_25 rfl rfl ?_
          refine xj_bipush Z 40 dX1_addParish_26 (by decide) ?_
          refine xj_icmp_le Z 33 dX1_addParish_28 (by decide) (fun _ => ?_) (fun _ => ?_)
          · refine xj_aload_n Z 0 dX1_addParish_33 rfl rfl ?_
            refine xg_X1_9 Z (hw.mem 0 (by decide)) hw.lay dX1_addParish_34 ?_
            refine xj_aload_n Z 0 dX1_addParish_37 rfl rfl ?_
            refine xg_X1_39 Z (hw.mem 0 (by decide)) hw.lay dX1_addParish_38 ?_
            refine xj_iload_n Z 1 dX1_addParish_41 rfl rfl ?_
            refine xj_iast Z (hw.mem 1 (by decide)) hw.lay1 dX1_addParish_42 (fun M1 _ => ?_)
            refine xj_aload_n Z 0 dX1_addParish_43 rfl rfl ?_
            refine xg_X1_15 Z (hw.mem 0 (by decide)) hw.lay dX1_addParish_44 ?_
            refine xj_aload_n Z 0 dX1_addParish_47 rfl rfl ?_
            refine xg_X1_39 Z (hw.mem 0 (by decide)) hw.lay dX1_addParish_48 ?_
            refine xj_iload_n Z 2 dX1_addParish_51 rfl rfl ?_
            refine xj_iast Z (hw.mem 2 (by decide)) hw.lay2 dX1_addParish_52 (fun M2 _ => ?_)
            refine xj_aload_n Z 0 dX1_addParish_53 rfl rfl ?_
            refine xg_X1_18 Z (hw.mem 0 (by decide)) hw.lay dX1_addParish_54 ?_
            refine xj_aload_n Z 0 dX1_addParish_57 rfl rfl ?_
            refine xg_X1_39 Z (hw.mem 0 (by decide)) hw.lay dX1_addParish_58 ?_
            refine xj_iload_n Z 3 dX1_addParish_61 rfl rfl ?_
            refine xj_iast Z (hw.mem 3 (by decide)) hw.lay3 dX1_addParish_62 (fun M3 _ => ?_)
            refine xj_aload_n Z 0 dX1_addParish_63 rfl rfl ?_
            refine xg_X1_21 Z (hw.mem 0 (by decide)) hw.lay dX1_addParish_64 ?_
            refine xj_aload_n Z 0 dX1_addParish_67 rfl rfl ?_
            refine xg_X1_39 Z (hw.mem 0 (by decide)) hw.lay dX1_addParish_68 ?_
            refine xj_aload_n Z 0 dX1_addParish_71 rfl rfl ?_
            refine xg_X1_43 Z (hw.mem 0 (by decide)) hw.lay dX1_addParish_72 ?_
            refine xj_iast Z (hw.mem 4 (by decide)) hw.lay4 dX1_addParish_75 (fun M4 _ => ?_)
            refine xj_aload_n Z 0 dX1_addParish_76 rfl rfl ?_
            refine xj_dup Z dX1_addParish_77 rfl ?_
            refine xg_X1_39 Z (hw.mem 0 (by decide)) hw.lay dX1_addParish_78 ?_
            refine xj_iconst Z 1 dX1_addParish_81 (by decide) ?_
            refine xj_iadd Z dX1_addParish_82 ?_
            refine xp_X1_39 Z (hw.mem 0 (by decide)) hw.lay dX1_addParish_83 (fun M5 _ => ?_)
            refine xj_aload_n Z 0 dX1_addParish_86 rfl rfl ?_
            refine xj_dup Z dX1_addParish_87 rfl ?_
            refine xg_X1_43 Z (hw.mem 0 (by decide)) hw.lay dX1_addParish_88 ?_
            refine xj_iload_n Z 1 dX1_addParish_91 rfl rfl ?_
            refine xj_iadd Z dX1_addParish_92 ?_
            refine xp_X1_43 Z (hw.mem 0 (by decide)) hw.lay dX1_addParish_93 (fun M6 _ => ?_)
            refine xj_iconst Z 1 dX1_addParish_96 (by decide) ?_
            exact xj_zret_b Z dX1_addParish_97
          · refine xj_sub [] (lv' := []) rfl ?_
            exact bX1_addParish_31 Z hw M
/-! WalkingLaw$Road.addMember(III)Z -/
theorem dX1_addMember_0 : decode cX1_addMember 0 = .ok (.aload_n 0, 1) := by decide +kernel
theorem dX1_addMember_1 : decode cX1_addMember 1 = .ok (.getfield 46, 3) := by decide +kernel
theorem dX1_addMember_4 : decode cX1_addMember 4 = .ok (.bipush 8, 2) := by decide +kernel
theorem dX1_addMember_6 : decode cX1_addMember 6 = .ok (.if_icmp .ge 30, 3) := by decide +kernel
theorem dX1_addMember_9 : decode cX1_addMember 9 = .ok (.iload_n 1, 1) := by decide +kernel
theorem dX1_addMember_10 : decode cX1_addMember 10 = .ok (.ifCond .lt 26, 3) := by decide +kernel
theorem dX1_addMember_13 : decode cX1_addMember 13 = .ok (.iload_n 1, 1) := by decide +kernel
theorem dX1_addMember_14 : decode cX1_addMember 14 = .ok (.bipush 6, 2) := by decide +kernel
theorem dX1_addMember_16 : decode cX1_addMember 16 = .ok (.if_icmp .ge 20, 3) := by decide +kernel
theorem dX1_addMember_19 : decode cX1_addMember 19 = .ok (.iload_n 2, 1) := by decide +kernel
theorem dX1_addMember_20 : decode cX1_addMember 20 = .ok (.iconst 1, 1) := by decide +kernel
theorem dX1_addMember_21 : decode cX1_addMember 21 = .ok (.if_icmp .lt 15, 3) := by decide +kernel
theorem dX1_addMember_24 : decode cX1_addMember 24 = .ok (.iload_n 2, 1) := by decide +kernel
theorem dX1_addMember_25 : decode cX1_addMember 25 = .ok (.bipush 9, 2) := by decide +kernel
theorem dX1_addMember_27 : decode cX1_addMember 27 = .ok (.if_icmp .gt 9, 3) := by decide +kernel
theorem dX1_addMember_30 : decode cX1_addMember 30 = .ok (.iload_n 3, 1) := by decide +kernel
theorem dX1_addMember_31 : decode cX1_addMember 31 = .ok (.bipush 15, 2) := by decide +kernel
theorem dX1_addMember_33 : decode cX1_addMember 33 = .ok (.if_icmp .le 5, 3) := by decide +kernel
theorem dX1_addMember_36 : decode cX1_addMember 36 = .ok (.iconst 0, 1) := by decide +kernel
theorem dX1_addMember_37 : decode cX1_addMember 37 = .ok (.ireturn, 1) := by decide +kernel
theorem dX1_addMember_38 : decode cX1_addMember 38 = .ok (.aload_n 0, 1) := by decide +kernel
theorem dX1_addMember_39 : decode cX1_addMember 39 = .ok (.getfield 24, 3) := by decide +kernel
theorem dX1_addMember_42 : decode cX1_addMember 42 = .ok (.aload_n 0, 1) := by decide +kernel
theorem dX1_addMember_43 : decode cX1_addMember 43 = .ok (.getfield 46, 3) := by decide +kernel
theorem dX1_addMember_46 : decode cX1_addMember 46 = .ok (.iload_n 1, 1) := by decide +kernel
theorem dX1_addMember_47 : decode cX1_addMember 47 = .ok (.iastore, 1) := by decide +kernel
theorem dX1_addMember_48 : decode cX1_addMember 48 = .ok (.aload_n 0, 1) := by decide +kernel
theorem dX1_addMember_49 : decode cX1_addMember 49 = .ok (.getfield 27, 3) := by decide +kernel
theorem dX1_addMember_52 : decode cX1_addMember 52 = .ok (.aload_n 0, 1) := by decide +kernel
theorem dX1_addMember_53 : decode cX1_addMember 53 = .ok (.getfield 46, 3) := by decide +kernel
theorem dX1_addMember_56 : decode cX1_addMember 56 = .ok (.iload_n 2, 1) := by decide +kernel
theorem dX1_addMember_57 : decode cX1_addMember 57 = .ok (.iastore, 1) := by decide +kernel
theorem dX1_addMember_58 : decode cX1_addMember 58 = .ok (.aload_n 0, 1) := by decide +kernel
theorem dX1_addMember_59 : decode cX1_addMember 59 = .ok (.getfield 30, 3) := by decide +kernel
theorem dX1_addMember_62 : decode cX1_addMember 62 = .ok (.aload_n 0, 1) := by decide +kernel
theorem dX1_addMember_63 : decode cX1_addMember 63 = .ok (.getfield 46, 3) := by decide +kernel
theorem dX1_addMember_66 : decode cX1_addMember 66 = .ok (.iload_n 3, 1) := by decide +kernel
theorem dX1_addMember_67 : decode cX1_addMember 67 = .ok (.iastore, 1) := by decide +kernel
theorem dX1_addMember_68 : decode cX1_addMember 68 = .ok (.aload_n 0, 1) := by decide +kernel
theorem dX1_addMember_69 : decode cX1_addMember 69 = .ok (.getfield 33, 3) := by decide +kernel
theorem dX1_addMember_72 : decode cX1_addMember 72 = .ok (.iload_n 1, 1) := by decide +kernel
theorem dX1_addMember_73 : decode cX1_addMember 73 = .ok (.dup2, 1) := by decide +kernel
theorem dX1_addMember_74 : decode cX1_addMember 74 = .ok (.iaload, 1) := by decide +kernel
theorem dX1_addMember_75 : decode cX1_addMember 75 = .ok (.iconst 1, 1) := by decide +kernel
theorem dX1_addMember_76 : decode cX1_addMember 76 = .ok (.aload_n 0, 1) := by decide +kernel
theorem dX1_addMember_77 : decode cX1_addMember 77 = .ok (.getfield 46, 3) := by decide +kernel
theorem dX1_addMember_80 : decode cX1_addMember 80 = .ok (.ishl, 1) := by decide +kernel
theorem dX1_addMember_81 : decode cX1_addMember 81 = .ok (.ior, 1) := by decide +kernel
theorem dX1_addMember_82 : decode cX1_addMember 82 = .ok (.iastore, 1) := by decide +kernel
theorem dX1_addMember_83 : decode cX1_addMember 83 = .ok (.aload_n 0, 1) := by decide +kernel
theorem dX1_addMember_84 : decode cX1_addMember 84 = .ok (.dup, 1) := by decide +kernel
theorem dX1_addMember_85 : decode cX1_addMember 85 = .ok (.getfield 46, 3) := by decide +kernel
theorem dX1_addMember_88 : decode cX1_addMember 88 = .ok (.iconst 1, 1) := by decide +kernel
theorem dX1_addMember_89 : decode cX1_addMember 89 = .ok (.iadd, 1) := by decide +kernel
theorem dX1_addMember_90 : decode cX1_addMember 90 = .ok (.putfield 46, 3) := by decide +kernel
theorem dX1_addMember_93 : decode cX1_addMember 93 = .ok (.iconst 1, 1) := by decide +kernel
theorem dX1_addMember_94 : decode cX1_addMember 94 = .ok (.ireturn, 1) := by decide +kernel
def rmX1_addMember : Room := { frames := 0, cells := 0, slots := 0, locals := 0 }
def fX1_addMember_36 (w : Nat) (M : xm) : Option (Int32 × xm) := (xbo 0 (some (0, M)))
def fX1_addMember (w : Nat) (x1 : Int32) (x2 : Int32) (x3 : Int32) (M : xm) : Option (Int32 × xm) := (if (8 : Int32) ≤ (M.1 w 6) then (fX1_addMember_36 w M) else (if x1 < 0 then (fX1_addMember_36 w M) else (if (6 : Int32) ≤ x1 then (fX1_addMember_36 w M) else (if x2 < 1 then (fX1_addMember_36 w M) else (if (9 : Int32) < x2 then (fX1_addMember_36 w M) else (if x3 ≤ 15 then xchk (M.1 w 6) 8 (xl (up M (w + 5) ((M.1 w 6) : Int32).toNatClampNeg x1) (fun M1 => xchk (M1.1 w 6) 8 (xl (up M1 (w + 6) ((M1.1 w 6) : Int32).toNatClampNeg x2) (fun M2 => xchk (M2.1 w 6) 8 (xl (up M2 (w + 7) ((M2.1 w 6) : Int32).toNatClampNeg x3) (fun M3 => xchk x1 6 (xchk x1 6 (xl (up M3 (w + 8) (x1 : Int32).toNatClampNeg ((M3.1 (w + 8) x1.toNatClampNeg) ||| (1 <<< ((M3.1 w 6) &&& 31)))) (fun M4 => xl (up M4 w 6 ((M4.1 w 6) + 1)) (fun M5 => (xbo 1 (some (1, M5))))))))))))) else (fX1_addMember_36 w M)))))))
section
variable {p : Program} {l : Launch} {e : Env} {s : State} {m : MethodId} {args : Array Value} {below : List Frame} {meth : Method} {c : Code} {D : va_G} {cs : Nat → ClassId} {S : List Nat} {ad : Nat → Nat} {w : Nat}
theorem bX1_addMember_36 (Z : CX p s m args meth c cX1_addMember 4 RX1 (some .boolean) D cs (xA S ad) S ad) (hw : xRoad S w) (M : xm) : XJ p l e rmX1_addMember s m args below meth c D cs (xA S ad) S ad 4 (XRb below args s D cs S ad) 36 [] [] M (fX1_addMember_36 w M) := by
  unfold fX1_addMember_36
  refine xj_iconst Z 0 dX1_addMember_36 (by decide) ?_
  exact xj_zret_b Z dX1_addMember_37
end
theorem kX1_addMember (l : Launch) (D : va_G) (cs : Nat → ClassId) (S : List Nat) (ad : Nat → Nat) (hd : xdist S ad) {w : Nat} (hw : xRoad S w) (x1 : Int32) (x2 : Int32) (x3 : Int32) (M : xm) : ∀ r, fX1_addMember w x1 x2 x3 M = some r → Met l yX1_addMember [Cond.code yX1_addMember cX1_addMember 4 (some .boolean)] rmX1_addMember (XPc D cs S ad [.ref (ad w), .int x1, .int x2, .int x3] M) (XQi D cs S ad r.1 r.2) 0 0 (xA S ad) := by
  refine xm_b (own := RX1) (lv := [(0, .ref (ad w)), (1, .int x1), (2, .int x2), (3, .int x3)]) (by decide +kernel) rfl rfl (Nat.le_of_ble_eq_true rfl) hd (fun p e s m args below meth c Z => ?_)
  unfold fX1_addMember
  refine xj_aload_n Z 0 dX1_addMember_0 rfl rfl ?_
  refine xg_X1_46 Z (hw.mem 0 (by decide)) hw.lay dX1_addMember_1 ?_
  refine xj_bipush Z 8 dX1_addMember_4 (by decide) ?_
  refine xj_icmp_ge Z 36 dX1_addMember_6 (by decide) (fun _ => ?_) (fun _ => ?_)
  · refine xj_sub [] (lv' := []) rfl ?_
    exact bX1_addMember_36 Z hw M
  · refine xj_iload_n Z 1 dX1_addMember_9 rfl rfl ?_
    refine xj_if_lt Z 36 dX1_addMember_10 (by decide) (fun _ => ?_) (fun _ => ?_)
    · refine xj_sub [] (lv' := []) rfl ?_
      exact bX1_addMember_36 Z hw M
    · refine xj_iload_n Z 1 dX1_addMember_13 rfl rfl ?_
      refine xj_bipush Z 6 dX1_addMember_14 (by decide) ?_
      refine xj_icmp_ge Z 36 dX1_addMember_16 (by decide) (fun _ => ?_) (fun _ => ?_)
      · refine xj_sub [] (lv' := []) rfl ?_
        exact bX1_addMember_36 Z hw M
      · refine xj_iload_n Z 2 dX1_addMember_19 rfl rfl ?_
        refine xj_iconst Z 1 dX1_addMember_20 (by decide) ?_
        refine xj_icmp_lt Z 36 dX1_addMember_21 (by decide) (fun _ => ?_) (fun _ => ?_)
        · refine xj_sub [] (lv' := []) rfl ?_
          exact bX1_addMember_36 Z hw M
        · refine xj_iload_n Z 2 dX1_addMember_24 rfl rfl ?_
          refine xj_bipush Z 9 dX1_addMember_25 (by decide) ?_
          refine xj_icmp_gt Z 36 dX1_addMember_27 (by decide) (fun _ => ?_) (fun _ => ?_)
          · refine xj_sub [] (lv' := []) rfl ?_
            exact bX1_addMember_36 Z hw M
          · refine xj_iload_n Z 3 dX1_addMember_30 rfl rfl ?_
            refine xj_bipush Z 15 dX1_addMember_31 (by decide) ?_
            refine xj_icmp_le Z 38 dX1_addMember_33 (by decide) (fun _ => ?_) (fun _ => ?_)
            · refine xj_aload_n Z 0 dX1_addMember_38 rfl rfl ?_
              refine xg_X1_24 Z (hw.mem 0 (by decide)) hw.lay dX1_addMember_39 ?_
              refine xj_aload_n Z 0 dX1_addMember_42 rfl rfl ?_
              refine xg_X1_46 Z (hw.mem 0 (by decide)) hw.lay dX1_addMember_43 ?_
              refine xj_iload_n Z 1 dX1_addMember_46 rfl rfl ?_
              refine xj_iast Z (hw.mem 5 (by decide)) hw.lay5 dX1_addMember_47 (fun M1 _ => ?_)
              refine xj_aload_n Z 0 dX1_addMember_48 rfl rfl ?_
              refine xg_X1_27 Z (hw.mem 0 (by decide)) hw.lay dX1_addMember_49 ?_
              refine xj_aload_n Z 0 dX1_addMember_52 rfl rfl ?_
              refine xg_X1_46 Z (hw.mem 0 (by decide)) hw.lay dX1_addMember_53 ?_
              refine xj_iload_n Z 2 dX1_addMember_56 rfl rfl ?_
              refine xj_iast Z (hw.mem 6 (by decide)) hw.lay6 dX1_addMember_57 (fun M2 _ => ?_)
              refine xj_aload_n Z 0 dX1_addMember_58 rfl rfl ?_
              refine xg_X1_30 Z (hw.mem 0 (by decide)) hw.lay dX1_addMember_59 ?_
              refine xj_aload_n Z 0 dX1_addMember_62 rfl rfl ?_
              refine xg_X1_46 Z (hw.mem 0 (by decide)) hw.lay dX1_addMember_63 ?_
              refine xj_iload_n Z 3 dX1_addMember_66 rfl rfl ?_
              refine xj_iast Z (hw.mem 7 (by decide)) hw.lay7 dX1_addMember_67 (fun M3 _ => ?_)
              refine xj_aload_n Z 0 dX1_addMember_68 rfl rfl ?_
              refine xg_X1_33 Z (hw.mem 0 (by decide)) hw.lay dX1_addMember_69 ?_
              refine xj_iload_n Z 1 dX1_addMember_72 rfl rfl ?_
              refine xj_dup2 Z dX1_addMember_73 rfl rfl ?_
              refine xj_iald Z (hw.mem 8 (by decide)) hw.lay8 dX1_addMember_74 (fun _ => ?_)
              refine xj_iconst Z 1 dX1_addMember_75 (by decide) ?_
              refine xj_aload_n Z 0 dX1_addMember_76 rfl rfl ?_
              refine xg_X1_46 Z (hw.mem 0 (by decide)) hw.lay dX1_addMember_77 ?_
              refine xj_ishl Z dX1_addMember_80 ?_
              refine xj_ior Z dX1_addMember_81 ?_
              refine xj_iast Z (hw.mem 8 (by decide)) hw.lay8 dX1_addMember_82 (fun M4 _ => ?_)
              refine xj_aload_n Z 0 dX1_addMember_83 rfl rfl ?_
              refine xj_dup Z dX1_addMember_84 rfl ?_
              refine xg_X1_46 Z (hw.mem 0 (by decide)) hw.lay dX1_addMember_85 ?_
              refine xj_iconst Z 1 dX1_addMember_88 (by decide) ?_
              refine xj_iadd Z dX1_addMember_89 ?_
              refine xp_X1_46 Z (hw.mem 0 (by decide)) hw.lay dX1_addMember_90 (fun M5 _ => ?_)
              refine xj_iconst Z 1 dX1_addMember_93 (by decide) ?_
              exact xj_zret_b Z dX1_addMember_94
            · refine xj_sub [] (lv' := []) rfl ?_
              exact bX1_addMember_36 Z hw M
/-! WalkingLaw$Road.setQuorum(I)Z -/
theorem dX1_setQuorum_0 : decode cX1_setQuorum 0 = .ok (.iload_n 1, 1) := by decide +kernel
theorem dX1_setQuorum_1 : decode cX1_setQuorum 1 = .ok (.iconst 1, 1) := by decide +kernel
theorem dX1_setQuorum_2 : decode cX1_setQuorum 2 = .ok (.if_icmp .lt 9, 3) := by decide +kernel
theorem dX1_setQuorum_5 : decode cX1_setQuorum 5 = .ok (.iload_n 1, 1) := by decide +kernel
theorem dX1_setQuorum_6 : decode cX1_setQuorum 6 = .ok (.bipush 8, 2) := by decide +kernel
theorem dX1_setQuorum_8 : decode cX1_setQuorum 8 = .ok (.if_icmp .le 5, 3) := by decide +kernel
theorem dX1_setQuorum_11 : decode cX1_setQuorum 11 = .ok (.iconst 0, 1) := by decide +kernel
theorem dX1_setQuorum_12 : decode cX1_setQuorum 12 = .ok (.ireturn, 1) := by decide +kernel
theorem dX1_setQuorum_13 : decode cX1_setQuorum 13 = .ok (.aload_n 0, 1) := by decide +kernel
theorem dX1_setQuorum_14 : decode cX1_setQuorum 14 = .ok (.iload_n 1, 1) := by decide +kernel
theorem dX1_setQuorum_15 : decode cX1_setQuorum 15 = .ok (.putfield 49, 3) := by decide +kernel
theorem dX1_setQuorum_18 : decode cX1_setQuorum 18 = .ok (.iconst 1, 1) := by decide +kernel
theorem dX1_setQuorum_19 : decode cX1_setQuorum 19 = .ok (.ireturn, 1) := by decide +kernel
def rmX1_setQuorum : Room := { frames := 0, cells := 0, slots := 0, locals := 0 }
def fX1_setQuorum_11 (w : Nat) (M : xm) : Option (Int32 × xm) := (xbo 0 (some (0, M)))
def fX1_setQuorum (w : Nat) (x1 : Int32) (M : xm) : Option (Int32 × xm) := (if x1 < 1 then (fX1_setQuorum_11 w M) else (if x1 ≤ 8 then xl (up M w 11 x1) (fun M1 => (xbo 1 (some (1, M1)))) else (fX1_setQuorum_11 w M)))
section
variable {p : Program} {l : Launch} {e : Env} {s : State} {m : MethodId} {args : Array Value} {below : List Frame} {meth : Method} {c : Code} {D : va_G} {cs : Nat → ClassId} {S : List Nat} {ad : Nat → Nat} {w : Nat}
theorem bX1_setQuorum_11 (Z : CX p s m args meth c cX1_setQuorum 2 RX1 (some .boolean) D cs (xA S ad) S ad) (hw : xRoad S w) (M : xm) : XJ p l e rmX1_setQuorum s m args below meth c D cs (xA S ad) S ad 2 (XRb below args s D cs S ad) 11 [] [] M (fX1_setQuorum_11 w M) := by
  unfold fX1_setQuorum_11
  refine xj_iconst Z 0 dX1_setQuorum_11 (by decide) ?_
  exact xj_zret_b Z dX1_setQuorum_12
end
theorem kX1_setQuorum (l : Launch) (D : va_G) (cs : Nat → ClassId) (S : List Nat) (ad : Nat → Nat) (hd : xdist S ad) {w : Nat} (hw : xRoad S w) (x1 : Int32) (M : xm) : ∀ r, fX1_setQuorum w x1 M = some r → Met l yX1_setQuorum [Cond.code yX1_setQuorum cX1_setQuorum 2 (some .boolean)] rmX1_setQuorum (XPc D cs S ad [.ref (ad w), .int x1] M) (XQi D cs S ad r.1 r.2) 0 0 (xA S ad) := by
  refine xm_b (own := RX1) (lv := [(0, .ref (ad w)), (1, .int x1)]) (by decide +kernel) rfl rfl (Nat.le_of_ble_eq_true rfl) hd (fun p e s m args below meth c Z => ?_)
  unfold fX1_setQuorum
  refine xj_iload_n Z 1 dX1_setQuorum_0 rfl rfl ?_
  refine xj_iconst Z 1 dX1_setQuorum_1 (by decide) ?_
  refine xj_icmp_lt Z 11 dX1_setQuorum_2 (by decide) (fun _ => ?_) (fun _ => ?_)
  · refine xj_sub [] (lv' := []) rfl ?_
    exact bX1_setQuorum_11 Z hw M
  · refine xj_iload_n Z 1 dX1_setQuorum_5 rfl rfl ?_
    refine xj_bipush Z 8 dX1_setQuorum_6 (by decide) ?_
    refine xj_icmp_le Z 13 dX1_setQuorum_8 (by decide) (fun _ => ?_) (fun _ => ?_)
    · refine xj_aload_n Z 0 dX1_setQuorum_13 rfl rfl ?_
      refine xj_iload_n Z 1 dX1_setQuorum_14 rfl rfl ?_
      refine xp_X1_49 Z (hw.mem 0 (by decide)) hw.lay dX1_setQuorum_15 (fun M1 _ => ?_)
      refine xj_iconst Z 1 dX1_setQuorum_18 (by decide) ?_
      exact xj_zret_b Z dX1_setQuorum_19
    · refine xj_sub [] (lv' := []) rfl ?_
      exact bX1_setQuorum_11 Z hw M
/-! WalkingLaw$Road.setBills(I)Z -/
theorem dX1_setBills_0 : decode cX1_setBills 0 = .ok (.iload_n 1, 1) := by decide +kernel
theorem dX1_setBills_1 : decode cX1_setBills 1 = .ok (.iconst 1, 1) := by decide +kernel
theorem dX1_setBills_2 : decode cX1_setBills 2 = .ok (.if_icmp .lt 8, 3) := by decide +kernel
theorem dX1_setBills_5 : decode cX1_setBills 5 = .ok (.iload_n 1, 1) := by decide +kernel
theorem dX1_setBills_6 : decode cX1_setBills 6 = .ok (.iconst 4, 1) := by decide +kernel
theorem dX1_setBills_7 : decode cX1_setBills 7 = .ok (.if_icmp .le 5, 3) := by decide +kernel
theorem dX1_setBills_10 : decode cX1_setBills 10 = .ok (.iconst 0, 1) := by decide +kernel
theorem dX1_setBills_11 : decode cX1_setBills 11 = .ok (.ireturn, 1) := by decide +kernel
theorem dX1_setBills_12 : decode cX1_setBills 12 = .ok (.aload_n 0, 1) := by decide +kernel
theorem dX1_setBills_13 : decode cX1_setBills 13 = .ok (.iload_n 1, 1) := by decide +kernel
theorem dX1_setBills_14 : decode cX1_setBills 14 = .ok (.putfield 52, 3) := by decide +kernel
theorem dX1_setBills_17 : decode cX1_setBills 17 = .ok (.iconst 1, 1) := by decide +kernel
theorem dX1_setBills_18 : decode cX1_setBills 18 = .ok (.ireturn, 1) := by decide +kernel
def rmX1_setBills : Room := { frames := 0, cells := 0, slots := 0, locals := 0 }
def fX1_setBills_10 (w : Nat) (M : xm) : Option (Int32 × xm) := (xbo 0 (some (0, M)))
def fX1_setBills (w : Nat) (x1 : Int32) (M : xm) : Option (Int32 × xm) := (if x1 < 1 then (fX1_setBills_10 w M) else (if x1 ≤ 4 then xl (up M w 12 x1) (fun M1 => (xbo 1 (some (1, M1)))) else (fX1_setBills_10 w M)))
section
variable {p : Program} {l : Launch} {e : Env} {s : State} {m : MethodId} {args : Array Value} {below : List Frame} {meth : Method} {c : Code} {D : va_G} {cs : Nat → ClassId} {S : List Nat} {ad : Nat → Nat} {w : Nat}
theorem bX1_setBills_10 (Z : CX p s m args meth c cX1_setBills 2 RX1 (some .boolean) D cs (xA S ad) S ad) (hw : xRoad S w) (M : xm) : XJ p l e rmX1_setBills s m args below meth c D cs (xA S ad) S ad 2 (XRb below args s D cs S ad) 10 [] [] M (fX1_setBills_10 w M) := by
  unfold fX1_setBills_10
  refine xj_iconst Z 0 dX1_setBills_10 (by decide) ?_
  exact xj_zret_b Z dX1_setBills_11
end
theorem kX1_setBills (l : Launch) (D : va_G) (cs : Nat → ClassId) (S : List Nat) (ad : Nat → Nat) (hd : xdist S ad) {w : Nat} (hw : xRoad S w) (x1 : Int32) (M : xm) : ∀ r, fX1_setBills w x1 M = some r → Met l yX1_setBills [Cond.code yX1_setBills cX1_setBills 2 (some .boolean)] rmX1_setBills (XPc D cs S ad [.ref (ad w), .int x1] M) (XQi D cs S ad r.1 r.2) 0 0 (xA S ad) := by
  refine xm_b (own := RX1) (lv := [(0, .ref (ad w)), (1, .int x1)]) (by decide +kernel) rfl rfl (Nat.le_of_ble_eq_true rfl) hd (fun p e s m args below meth c Z => ?_)
  unfold fX1_setBills
  refine xj_iload_n Z 1 dX1_setBills_0 rfl rfl ?_
  refine xj_iconst Z 1 dX1_setBills_1 (by decide) ?_
  refine xj_icmp_lt Z 10 dX1_setBills_2 (by decide) (fun _ => ?_) (fun _ => ?_)
  · refine xj_sub [] (lv' := []) rfl ?_
    exact bX1_setBills_10 Z hw M
  · refine xj_iload_n Z 1 dX1_setBills_5 rfl rfl ?_
    refine xj_iconst Z 4 dX1_setBills_6 (by decide) ?_
    refine xj_icmp_le Z 12 dX1_setBills_7 (by decide) (fun _ => ?_) (fun _ => ?_)
    · refine xj_aload_n Z 0 dX1_setBills_12 rfl rfl ?_
      refine xj_iload_n Z 1 dX1_setBills_13 rfl rfl ?_
      refine xp_X1_52 Z (hw.mem 0 (by decide)) hw.lay dX1_setBills_14 (fun M1 _ => ?_)
      refine xj_iconst Z 1 dX1_setBills_17 (by decide) ?_
      exact xj_zret_b Z dX1_setBills_18
    · refine xj_sub [] (lv' := []) rfl ?_
      exact bX1_setBills_10 Z hw M
/-! WalkingLaw$Road.outspoken()I -/
theorem dX1_outspoken_0 : decode cX1_outspoken 0 = .ok (.aload_n 0, 1) := by decide +kernel
theorem dX1_outspoken_1 : decode cX1_outspoken 1 = .ok (.getfield 33, 3) := by decide +kernel
theorem dX1_outspoken_4 : decode cX1_outspoken 4 = .ok (.iconst 3, 1) := by decide +kernel
theorem dX1_outspoken_5 : decode cX1_outspoken 5 = .ok (.iaload, 1) := by decide +kernel
theorem dX1_outspoken_6 : decode cX1_outspoken 6 = .ok (.aload_n 0, 1) := by decide +kernel
theorem dX1_outspoken_7 : decode cX1_outspoken 7 = .ok (.getfield 33, 3) := by decide +kernel
theorem dX1_outspoken_10 : decode cX1_outspoken 10 = .ok (.iconst 4, 1) := by decide +kernel
theorem dX1_outspoken_11 : decode cX1_outspoken 11 = .ok (.iaload, 1) := by decide +kernel
theorem dX1_outspoken_12 : decode cX1_outspoken 12 = .ok (.ior, 1) := by decide +kernel
theorem dX1_outspoken_13 : decode cX1_outspoken 13 = .ok (.aload_n 0, 1) := by decide +kernel
theorem dX1_outspoken_14 : decode cX1_outspoken 14 = .ok (.getfield 33, 3) := by decide +kernel
theorem dX1_outspoken_17 : decode cX1_outspoken 17 = .ok (.iconst 5, 1) := by decide +kernel
theorem dX1_outspoken_18 : decode cX1_outspoken 18 = .ok (.iaload, 1) := by decide +kernel
theorem dX1_outspoken_19 : decode cX1_outspoken 19 = .ok (.ior, 1) := by decide +kernel
theorem dX1_outspoken_20 : decode cX1_outspoken 20 = .ok (.iconst (-1), 1) := by decide +kernel
theorem dX1_outspoken_21 : decode cX1_outspoken 21 = .ok (.ixor, 1) := by decide +kernel
theorem dX1_outspoken_22 : decode cX1_outspoken 22 = .ok (.ireturn, 1) := by decide +kernel
def rmX1_outspoken : Room := { frames := 0, cells := 0, slots := 0, locals := 0 }
def fX1_outspoken (w : Nat) (M : xm) : Option (Int32) := xchk 3 6 (xchk 4 6 (xchk 5 6 ((some ((((M.1 (w + 8) (3 : Int32).toNatClampNeg) ||| (M.1 (w + 8) (4 : Int32).toNatClampNeg)) ||| (M.1 (w + 8) (5 : Int32).toNatClampNeg)) ^^^ (-1))))))
section
variable {p : Program} {l : Launch} {e : Env} {s : State} {m : MethodId} {args : Array Value} {below : List Frame} {meth : Method} {c : Code} {D : va_G} {cs : Nat → ClassId} {S : List Nat} {ad : Nat → Nat} {w : Nat}
end
theorem kX1_outspoken (l : Launch) (D : va_G) (cs : Nat → ClassId) (S : List Nat) (ad : Nat → Nat) (hd : xdist S ad) {w : Nat} (hw : xRoad S w) (M : xm) : ∀ r, fX1_outspoken w M = some r → Met l yX1_outspoken [Cond.code yX1_outspoken cX1_outspoken 1 (some .int)] rmX1_outspoken (XPc D cs S ad [.ref (ad w)] M) (XQi D cs S ad r M) 0 0 (xA S ad) := by
  refine xm_r (own := RX1) (lv := [(0, .ref (ad w))]) (by decide +kernel) rfl rfl (Nat.le_of_ble_eq_true rfl) hd (fun p e s m args below meth c Z => ?_)
  unfold fX1_outspoken
  refine xj_aload_n Z 0 dX1_outspoken_0 rfl rfl ?_
  refine xg_X1_33 Z (hw.mem 0 (by decide)) hw.lay dX1_outspoken_1 ?_
  refine xj_iconst Z 3 dX1_outspoken_4 (by decide) ?_
  refine xj_iald Z (hw.mem 8 (by decide)) hw.lay8 dX1_outspoken_5 (fun _ => ?_)
  refine xj_aload_n Z 0 dX1_outspoken_6 rfl rfl ?_
  refine xg_X1_33 Z (hw.mem 0 (by decide)) hw.lay dX1_outspoken_7 ?_
  refine xj_iconst Z 4 dX1_outspoken_10 (by decide) ?_
  refine xj_iald Z (hw.mem 8 (by decide)) hw.lay8 dX1_outspoken_11 (fun _ => ?_)
  refine xj_ior Z dX1_outspoken_12 ?_
  refine xj_aload_n Z 0 dX1_outspoken_13 rfl rfl ?_
  refine xg_X1_33 Z (hw.mem 0 (by decide)) hw.lay dX1_outspoken_14 ?_
  refine xj_iconst Z 5 dX1_outspoken_17 (by decide) ?_
  refine xj_iald Z (hw.mem 8 (by decide)) hw.lay8 dX1_outspoken_18 (fun _ => ?_)
  refine xj_ior Z dX1_outspoken_19 ?_
  refine xj_iconst Z (-1) dX1_outspoken_20 (by decide) ?_
  refine xj_ixor Z dX1_outspoken_21 ?_
  exact xj_ret_r Z dX1_outspoken_22
/-! WalkingLaw$Road.paceOf(I)I -/
theorem dX1_paceOf_0 : decode cX1_paceOf 0 = .ok (.iconst 0, 1) := by decide +kernel
theorem dX1_paceOf_1 : decode cX1_paceOf 1 = .ok (.istore_n 2, 1) := by decide +kernel
theorem dX1_paceOf_2 : decode cX1_paceOf 2 = .ok (.iconst 0, 1) := by decide +kernel
theorem dX1_paceOf_3 : decode cX1_paceOf 3 = .ok (.istore_n 3, 1) := by decide +kernel
theorem dX1_paceOf_4 : decode cX1_paceOf 4 = .ok (.iload_n 3, 1) := by decide +kernel
theorem dX1_paceOf_5 : decode cX1_paceOf 5 = .ok (.aload_n 0, 1) := by decide +kernel
theorem dX1_paceOf_6 : decode cX1_paceOf 6 = .ok (.getfield 46, 3) := by decide +kernel
theorem dX1_paceOf_9 : decode cX1_paceOf 9 = .ok (.if_icmp .ge 27, 3) := by decide +kernel
theorem dX1_paceOf_12 : decode cX1_paceOf 12 = .ok (.iload_n 1, 1) := by decide +kernel
theorem dX1_paceOf_13 : decode cX1_paceOf 13 = .ok (.iload_n 3, 1) := by decide +kernel
theorem dX1_paceOf_14 : decode cX1_paceOf 14 = .ok (.ishr, 1) := by decide +kernel
theorem dX1_paceOf_15 : decode cX1_paceOf 15 = .ok (.iconst 1, 1) := by decide +kernel
theorem dX1_paceOf_16 : decode cX1_paceOf 16 = .ok (.iand, 1) := by decide +kernel
theorem dX1_paceOf_17 : decode cX1_paceOf 17 = .ok (.iconst 1, 1) := by decide +kernel
theorem dX1_paceOf_18 : decode cX1_paceOf 18 = .ok (.if_icmp .ne 12, 3) := by decide +kernel
theorem dX1_paceOf_21 : decode cX1_paceOf 21 = .ok (.iload_n 2, 1) := by decide +kernel
theorem dX1_paceOf_22 : decode cX1_paceOf 22 = .ok (.aload_n 0, 1) := by decide +kernel
theorem dX1_paceOf_23 : decode cX1_paceOf 23 = .ok (.getfield 27, 3) := by decide +kernel
theorem dX1_paceOf_26 : decode cX1_paceOf 26 = .ok (.iload_n 3, 1) := by decide +kernel
theorem dX1_paceOf_27 : decode cX1_paceOf 27 = .ok (.iaload, 1) := by decide +kernel
theorem dX1_paceOf_28 : decode cX1_paceOf 28 = .ok (.iadd, 1) := by decide +kernel
theorem dX1_paceOf_29 : decode cX1_paceOf 29 = .ok (.istore_n 2, 1) := by decide +kernel
theorem dX1_paceOf_30 : decode cX1_paceOf 30 = .ok (.iinc 3 1, 3) := by decide +kernel
theorem dX1_paceOf_33 : decode cX1_paceOf 33 = .ok (.goto (-29), 3) := by decide +kernel
theorem dX1_paceOf_36 : decode cX1_paceOf 36 = .ok (.iload_n 2, 1) := by decide +kernel
theorem dX1_paceOf_37 : decode cX1_paceOf 37 = .ok (.ireturn, 1) := by decide +kernel
def rmX1_paceOf : Room := { frames := 0, cells := 0, slots := 0, locals := 0 }
def fX1_paceOf_30 (w : Nat) (k4 : Int32 → Int32 → Option (Int32)) (x1 : Int32) (x2 : Int32) (x3 : Int32) (M : xm) : Option (Int32) := (k4 x2 (x3 + 1))
def fX1_paceOf_4 (w : Nat) (x1 : Int32) (M : xm) : Nat → Int32 → Int32 → Option (Int32)
  | 0, _, _ => none
  | n + 1, x2, x3 => (if (M.1 w 6) ≤ x3 then (some x2) else (if ((x1 >>> (x3 &&& 31)) &&& 1) = 1 then xchk x3 8 (xl (x2 + (M.1 (w + 6) x3.toNatClampNeg)) (fun v1 => (fX1_paceOf_30 w (fun z0 z1 => fX1_paceOf_4 w x1 M n z0 z1) x1 v1 x3 M))) else (fX1_paceOf_30 w (fun z0 z1 => fX1_paceOf_4 w x1 M n z0 z1) x1 x2 x3 M)))
def fX1_paceOf (w : Nat) (x1 : Int32) (M : xm) : Option (Int32) := (fX1_paceOf_4 w x1 M xfuel 0 0)
section
variable {p : Program} {l : Launch} {e : Env} {s : State} {m : MethodId} {args : Array Value} {below : List Frame} {meth : Method} {c : Code} {D : va_G} {cs : Nat → ClassId} {S : List Nat} {ad : Nat → Nat} {w : Nat}
theorem bX1_paceOf_30 (Z : CX p s m args meth c cX1_paceOf 4 RX1 (some .int) D cs (xA S ad) S ad) (hw : xRoad S w) {k4 : Int32 → Int32 → Option (Int32)} (x1 : Int32) (x2 : Int32) (x3 : Int32) (M : xm) (hk4 : ∀ (x2 : Int32) (x3 : Int32), XJ p l e rmX1_paceOf s m args below meth c D cs (xA S ad) S ad 4 (XRr below args s D cs S ad M) 4 [(0, .ref (ad w)), (1, .int x1), (2, .int x2), (3, .int x3)] [] M (k4 x2 x3)) : XJ p l e rmX1_paceOf s m args below meth c D cs (xA S ad) S ad 4 (XRr below args s D cs S ad M) 30 [(0, .ref (ad w)), (1, .int x1), (2, .int x2), (3, .int x3)] [] M (fX1_paceOf_30 w k4 x1 x2 x3 M) := by
  unfold fX1_paceOf_30
  refine xj_iinc Z 3 (x3 + 1) (lv' := [(3, .int (x3 + 1)), (0, .ref (ad w)), (1, .int x1), (2, .int x2)]) dX1_paceOf_30 rfl rfl (by decide) rfl ?_
  refine xj_goto Z 4 dX1_paceOf_33 (by decide) ?_
  refine xj_sub [1, 2, 3, 0] (lv' := [(0, .ref (ad w)), (1, .int x1), (2, .int x2), (3, .int (x3 + 1))]) rfl ?_
  exact hk4 x2 (x3 + 1)
theorem bX1_paceOf_4 (Z : CX p s m args meth c cX1_paceOf 4 RX1 (some .int) D cs (xA S ad) S ad) (hw : xRoad S w) (x1 : Int32) (M : xm) : ∀ (n : Nat) (x2 : Int32) (x3 : Int32), XJ p l e rmX1_paceOf s m args below meth c D cs (xA S ad) S ad 4 (XRr below args s D cs S ad M) 4 [(0, .ref (ad w)), (1, .int x1), (2, .int x2), (3, .int x3)] [] M (fX1_paceOf_4 w x1 M n x2 x3) := by
  intro n
  induction n with
  | zero => intros; exact xj_none
  | succ n ih =>
    intro x2 x3
    rw [fX1_paceOf_4]
    refine xj_iload_n Z 3 dX1_paceOf_4 rfl rfl ?_
    refine xj_aload_n Z 0 dX1_paceOf_5 rfl rfl ?_
    refine xg_X1_46 Z (hw.mem 0 (by decide)) hw.lay dX1_paceOf_6 ?_
    refine xj_icmp_ge Z 36 dX1_paceOf_9 (by decide) (fun _ => ?_) (fun _ => ?_)
    · refine xj_iload_n Z 2 dX1_paceOf_36 rfl rfl ?_
      exact xj_ret_r Z dX1_paceOf_37
    · refine xj_iload_n Z 1 dX1_paceOf_12 rfl rfl ?_
      refine xj_iload_n Z 3 dX1_paceOf_13 rfl rfl ?_
      refine xj_ishr Z dX1_paceOf_14 ?_
      refine xj_iconst Z 1 dX1_paceOf_15 (by decide) ?_
      refine xj_iand Z dX1_paceOf_16 ?_
      refine xj_iconst Z 1 dX1_paceOf_17 (by decide) ?_
      refine xj_icmp_ne Z 30 dX1_paceOf_18 (by decide) (fun _ => ?_) (fun _ => ?_)
      · exact bX1_paceOf_30 Z hw x1 x2 x3 M ih
      · refine xj_iload_n Z 2 dX1_paceOf_21 rfl rfl ?_
        refine xj_aload_n Z 0 dX1_paceOf_22 rfl rfl ?_
        refine xg_X1_27 Z (hw.mem 0 (by decide)) hw.lay dX1_paceOf_23 ?_
        refine xj_iload_n Z 3 dX1_paceOf_26 rfl rfl ?_
        refine xj_iald Z (hw.mem 6 (by decide)) hw.lay6 dX1_paceOf_27 (fun _ => ?_)
        refine xj_iadd Z dX1_paceOf_28 ?_
        refine xj_top (fun v1 => ?_)
        refine xj_istore_n Z (lv' := [(2, .int v1), (0, .ref (ad w)), (1, .int x1), (3, .int x3)]) dX1_paceOf_29 rfl (by decide) rfl ?_
        refine xj_sub [1, 2, 0, 3] (lv' := [(0, .ref (ad w)), (1, .int x1), (2, .int v1), (3, .int x3)]) rfl ?_
        exact bX1_paceOf_30 Z hw x1 v1 x3 M ih
end
theorem kX1_paceOf (l : Launch) (D : va_G) (cs : Nat → ClassId) (S : List Nat) (ad : Nat → Nat) (hd : xdist S ad) {w : Nat} (hw : xRoad S w) (x1 : Int32) (M : xm) : ∀ r, fX1_paceOf w x1 M = some r → Met l yX1_paceOf [Cond.code yX1_paceOf cX1_paceOf 4 (some .int)] rmX1_paceOf (XPc D cs S ad [.ref (ad w), .int x1] M) (XQi D cs S ad r M) 0 0 (xA S ad) := by
  refine xm_r (own := RX1) (lv := [(0, .ref (ad w)), (1, .int x1)]) (by decide +kernel) rfl rfl (Nat.le_of_ble_eq_true rfl) hd (fun p e s m args below meth c Z => ?_)
  unfold fX1_paceOf
  refine xj_iconst Z 0 dX1_paceOf_0 (by decide) ?_
  refine xj_istore_n Z (lv' := [(2, .int 0), (0, .ref (ad w)), (1, .int x1)]) dX1_paceOf_1 rfl (by decide) rfl ?_
  refine xj_iconst Z 0 dX1_paceOf_2 (by decide) ?_
  refine xj_istore_n Z (lv' := [(3, .int 0), (2, .int 0), (0, .ref (ad w)), (1, .int x1)]) dX1_paceOf_3 rfl (by decide) rfl ?_
  refine xj_sub [2, 3, 1, 0] (lv' := [(0, .ref (ad w)), (1, .int x1), (2, .int 0), (3, .int 0)]) rfl ?_
  exact bX1_paceOf_4 Z hw x1 M xfuel 0 0
/-! WalkingLaw$Road.slowestOf(I)I -/
theorem dX1_slowestOf_0 : decode cX1_slowestOf 0 = .ok (.bipush 9, 2) := by decide +kernel
theorem dX1_slowestOf_2 : decode cX1_slowestOf 2 = .ok (.istore_n 2, 1) := by decide +kernel
theorem dX1_slowestOf_3 : decode cX1_slowestOf 3 = .ok (.iconst 0, 1) := by decide +kernel
theorem dX1_slowestOf_4 : decode cX1_slowestOf 4 = .ok (.istore_n 3, 1) := by decide +kernel
theorem dX1_slowestOf_5 : decode cX1_slowestOf 5 = .ok (.iload_n 3, 1) := by decide +kernel
theorem dX1_slowestOf_6 : decode cX1_slowestOf 6 = .ok (.aload_n 0, 1) := by decide +kernel
theorem dX1_slowestOf_7 : decode cX1_slowestOf 7 = .ok (.getfield 46, 3) := by decide +kernel
theorem dX1_slowestOf_10 : decode cX1_slowestOf 10 = .ok (.if_icmp .ge 29, 3) := by decide +kernel
theorem dX1_slowestOf_13 : decode cX1_slowestOf 13 = .ok (.iload_n 1, 1) := by decide +kernel
theorem dX1_slowestOf_14 : decode cX1_slowestOf 14 = .ok (.iload_n 3, 1) := by decide +kernel
theorem dX1_slowestOf_15 : decode cX1_slowestOf 15 = .ok (.ishr, 1) := by decide +kernel
theorem dX1_slowestOf_16 : decode cX1_slowestOf 16 = .ok (.iconst 1, 1) := by decide +kernel
theorem dX1_slowestOf_17 : decode cX1_slowestOf 17 = .ok (.iand, 1) := by decide +kernel
theorem dX1_slowestOf_18 : decode cX1_slowestOf 18 = .ok (.iconst 1, 1) := by decide +kernel
theorem dX1_slowestOf_19 : decode cX1_slowestOf 19 = .ok (.if_icmp .ne 14, 3) := by decide +kernel
theorem dX1_slowestOf_22 : decode cX1_slowestOf 22 = .ok (.iload_n 2, 1) := by decide +kernel
theorem dX1_slowestOf_23 : decode cX1_slowestOf 23 = .ok (.aload_n 0, 1) := by decide +kernel
theorem dX1_slowestOf_24 : decode cX1_slowestOf 24 = .ok (.getfield 27, 3) := by decide +kernel
theorem dX1_slowestOf_27 : decode cX1_slowestOf 27 = .ok (.iload_n 3, 1) := by decide +kernel
theorem dX1_slowestOf_28 : decode cX1_slowestOf 28 = .ok (.iaload, 1) := by decide +kernel
theorem dX1_slowestOf_29 : decode cX1_slowestOf 29 = .ok (.invokestatic 59, 3) := by decide +kernel
theorem dX1_slowestOf_32 : decode cX1_slowestOf 32 = .ok (.istore_n 2, 1) := by decide +kernel
theorem dX1_slowestOf_33 : decode cX1_slowestOf 33 = .ok (.iinc 3 1, 3) := by decide +kernel
theorem dX1_slowestOf_36 : decode cX1_slowestOf 36 = .ok (.goto (-31), 3) := by decide +kernel
theorem dX1_slowestOf_39 : decode cX1_slowestOf 39 = .ok (.iload_n 2, 1) := by decide +kernel
theorem dX1_slowestOf_40 : decode cX1_slowestOf 40 = .ok (.ireturn, 1) := by decide +kernel
def rmX1_slowestOf : Room := { frames := 1, cells := 0, slots := 0, locals := 24 }
def fX1_slowestOf_33 (w : Nat) (k5 : Int32 → Int32 → Option (Int32)) (x1 : Int32) (x2 : Int32) (x3 : Int32) (M : xm) : Option (Int32) := (k5 x2 (x3 + 1))
def fX1_slowestOf_5 (w : Nat) (x1 : Int32) (M : xm) : Nat → Int32 → Int32 → Option (Int32)
  | 0, _, _ => none
  | n + 1, x2, x3 => (if (M.1 w 6) ≤ x3 then (some x2) else (if ((x1 >>> (x3 &&& 31)) &&& 1) = 1 then xchk x3 8 (xl (if (M.1 (w + 6) x3.toNatClampNeg) < x2 then (M.1 (w + 6) x3.toNatClampNeg) else x2) (fun v1 => (fX1_slowestOf_33 w (fun z0 z1 => fX1_slowestOf_5 w x1 M n z0 z1) x1 v1 x3 M))) else (fX1_slowestOf_33 w (fun z0 z1 => fX1_slowestOf_5 w x1 M n z0 z1) x1 x2 x3 M)))
def fX1_slowestOf (w : Nat) (x1 : Int32) (M : xm) : Option (Int32) := (fX1_slowestOf_5 w x1 M xfuel 9 0)
section
variable {p : Program} {l : Launch} {e : Env} {s : State} {m : MethodId} {args : Array Value} {below : List Frame} {meth : Method} {c : Code} {D : va_G} {cs : Nat → ClassId} {S : List Nat} {ad : Nat → Nat} {w : Nat}
theorem bX1_slowestOf_33 (Z : CX p s m args meth c cX1_slowestOf 4 RX1 (some .int) D cs (xA S ad) S ad) (hw : xRoad S w) {k5 : Int32 → Int32 → Option (Int32)} (x1 : Int32) (x2 : Int32) (x3 : Int32) (M : xm) (hk5 : ∀ (x2 : Int32) (x3 : Int32), XJ p l e rmX1_slowestOf s m args below meth c D cs (xA S ad) S ad 4 (XRr below args s D cs S ad M) 5 [(0, .ref (ad w)), (1, .int x1), (2, .int x2), (3, .int x3)] [] M (k5 x2 x3)) : XJ p l e rmX1_slowestOf s m args below meth c D cs (xA S ad) S ad 4 (XRr below args s D cs S ad M) 33 [(0, .ref (ad w)), (1, .int x1), (2, .int x2), (3, .int x3)] [] M (fX1_slowestOf_33 w k5 x1 x2 x3 M) := by
  unfold fX1_slowestOf_33
  refine xj_iinc Z 3 (x3 + 1) (lv' := [(3, .int (x3 + 1)), (0, .ref (ad w)), (1, .int x1), (2, .int x2)]) dX1_slowestOf_33 rfl rfl (by decide) rfl ?_
  refine xj_goto Z 5 dX1_slowestOf_36 (by decide) ?_
  refine xj_sub [1, 2, 3, 0] (lv' := [(0, .ref (ad w)), (1, .int x1), (2, .int x2), (3, .int (x3 + 1))]) rfl ?_
  exact hk5 x2 (x3 + 1)
theorem bX1_slowestOf_5 (Z : CX p s m args meth c cX1_slowestOf 4 RX1 (some .int) D cs (xA S ad) S ad) (hw : xRoad S w) (x1 : Int32) (M : xm) : ∀ (n : Nat) (x2 : Int32) (x3 : Int32), XJ p l e rmX1_slowestOf s m args below meth c D cs (xA S ad) S ad 4 (XRr below args s D cs S ad M) 5 [(0, .ref (ad w)), (1, .int x1), (2, .int x2), (3, .int x3)] [] M (fX1_slowestOf_5 w x1 M n x2 x3) := by
  intro n
  induction n with
  | zero => intros; exact xj_none
  | succ n ih =>
    intro x2 x3
    rw [fX1_slowestOf_5]
    refine xj_iload_n Z 3 dX1_slowestOf_5 rfl rfl ?_
    refine xj_aload_n Z 0 dX1_slowestOf_6 rfl rfl ?_
    refine xg_X1_46 Z (hw.mem 0 (by decide)) hw.lay dX1_slowestOf_7 ?_
    refine xj_icmp_ge Z 39 dX1_slowestOf_10 (by decide) (fun _ => ?_) (fun _ => ?_)
    · refine xj_iload_n Z 2 dX1_slowestOf_39 rfl rfl ?_
      exact xj_ret_r Z dX1_slowestOf_40
    · refine xj_iload_n Z 1 dX1_slowestOf_13 rfl rfl ?_
      refine xj_iload_n Z 3 dX1_slowestOf_14 rfl rfl ?_
      refine xj_ishr Z dX1_slowestOf_15 ?_
      refine xj_iconst Z 1 dX1_slowestOf_16 (by decide) ?_
      refine xj_iand Z dX1_slowestOf_17 ?_
      refine xj_iconst Z 1 dX1_slowestOf_18 (by decide) ?_
      refine xj_icmp_ne Z 33 dX1_slowestOf_19 (by decide) (fun _ => ?_) (fun _ => ?_)
      · exact bX1_slowestOf_33 Z hw x1 x2 x3 M ih
      · refine xj_iload_n Z 2 dX1_slowestOf_22 rfl rfl ?_
        refine xj_aload_n Z 0 dX1_slowestOf_23 rfl rfl ?_
        refine xg_X1_27 Z (hw.mem 0 (by decide)) hw.lay dX1_slowestOf_24 ?_
        refine xj_iload_n Z 3 dX1_slowestOf_27 rfl rfl ?_
        refine xj_iald Z (hw.mem 6 (by decide)) hw.lay6 dX1_slowestOf_28 (fun _ => ?_)
        refine xj_mmin Z xb_107 xb_51 xb_52 xb_53 ⟨Nat.le_of_ble_eq_true rfl, Nat.le_of_ble_eq_true rfl⟩ dX1_slowestOf_29 ?_
        refine xj_top (fun v1 => ?_)
        refine xj_istore_n Z (lv' := [(2, .int v1), (0, .ref (ad w)), (1, .int x1), (3, .int x3)]) dX1_slowestOf_32 rfl (by decide) rfl ?_
        refine xj_sub [1, 2, 0, 3] (lv' := [(0, .ref (ad w)), (1, .int x1), (2, .int v1), (3, .int x3)]) rfl ?_
        exact bX1_slowestOf_33 Z hw x1 v1 x3 M ih
end
theorem kX1_slowestOf (l : Launch) (D : va_G) (cs : Nat → ClassId) (S : List Nat) (ad : Nat → Nat) (hd : xdist S ad) {w : Nat} (hw : xRoad S w) (x1 : Int32) (M : xm) : ∀ r, fX1_slowestOf w x1 M = some r → Met l yX1_slowestOf [Cond.code yX1_slowestOf cX1_slowestOf 4 (some .int)] rmX1_slowestOf (XPc D cs S ad [.ref (ad w), .int x1] M) (XQi D cs S ad r M) 0 0 (xA S ad) := by
  refine xm_r (own := RX1) (lv := [(0, .ref (ad w)), (1, .int x1)]) (by decide +kernel) rfl rfl (Nat.le_of_ble_eq_true rfl) hd (fun p e s m args below meth c Z => ?_)
  unfold fX1_slowestOf
  refine xj_bipush Z 9 dX1_slowestOf_0 (by decide) ?_
  refine xj_istore_n Z (lv' := [(2, .int 9), (0, .ref (ad w)), (1, .int x1)]) dX1_slowestOf_2 rfl (by decide) rfl ?_
  refine xj_iconst Z 0 dX1_slowestOf_3 (by decide) ?_
  refine xj_istore_n Z (lv' := [(3, .int 0), (2, .int 9), (0, .ref (ad w)), (1, .int x1)]) dX1_slowestOf_4 rfl (by decide) rfl ?_
  refine xj_sub [2, 3, 1, 0] (lv' := [(0, .ref (ad w)), (1, .int x1), (2, .int 9), (3, .int 0)]) rfl ?_
  exact bX1_slowestOf_5 Z hw x1 M xfuel 9 0
