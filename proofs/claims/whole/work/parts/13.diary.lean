/-! WalkingLaw$Diary.append(III)Z -/
theorem dX0_append_0 : decode cX0_append 0 = .ok (.aload_n 0, 1) := by decide +kernel
theorem dX0_append_1 : decode cX0_append 1 = .ok (.getfield 24, 3) := by decide +kernel
theorem dX0_append_4 : decode cX0_append 4 = .ok (.bipush 10, 2) := by decide +kernel
theorem dX0_append_6 : decode cX0_append 6 = .ok (.if_icmp .lt 5, 3) := by decide +kernel
theorem dX0_append_9 : decode cX0_append 9 = .ok (.iconst 0, 1) := by decide +kernel
theorem dX0_append_10 : decode cX0_append 10 = .ok (.ireturn, 1) := by decide +kernel
theorem dX0_append_11 : decode cX0_append 11 = .ok (.aload_n 0, 1) := by decide +kernel
theorem dX0_append_12 : decode cX0_append 12 = .ok (.getfield 9, 3) := by decide +kernel
theorem dX0_append_15 : decode cX0_append 15 = .ok (.aload_n 0, 1) := by decide +kernel
theorem dX0_append_16 : decode cX0_append 16 = .ok (.getfield 24, 3) := by decide +kernel
theorem dX0_append_19 : decode cX0_append 19 = .ok (.iload_n 1, 1) := by decide +kernel
theorem dX0_append_20 : decode cX0_append 20 = .ok (.iastore, 1) := by decide +kernel
theorem dX0_append_21 : decode cX0_append 21 = .ok (.aload_n 0, 1) := by decide +kernel
theorem dX0_append_22 : decode cX0_append 22 = .ok (.getfield 15, 3) := by decide +kernel
theorem dX0_append_25 : decode cX0_append 25 = .ok (.aload_n 0, 1) := by decide +kernel
theorem dX0_append_26 : decode cX0_append 26 = .ok (.getfield 24, 3) := by decide +kernel
theorem dX0_append_29 : decode cX0_append 29 = .ok (.iload_n 2, 1) := by decide +kernel
theorem dX0_append_30 : decode cX0_append 30 = .ok (.iastore, 1) := by decide +kernel
theorem dX0_append_31 : decode cX0_append 31 = .ok (.aload_n 0, 1) := by decide +kernel
theorem dX0_append_32 : decode cX0_append 32 = .ok (.getfield 18, 3) := by decide +kernel
theorem dX0_append_35 : decode cX0_append 35 = .ok (.aload_n 0, 1) := by decide +kernel
theorem dX0_append_36 : decode cX0_append 36 = .ok (.getfield 24, 3) := by decide +kernel
theorem dX0_append_39 : decode cX0_append 39 = .ok (.iload_n 3, 1) := by decide +kernel
theorem dX0_append_40 : decode cX0_append 40 = .ok (.iastore, 1) := by decide +kernel
theorem dX0_append_41 : decode cX0_append 41 = .ok (.aload_n 0, 1) := by decide +kernel
theorem dX0_append_42 : decode cX0_append 42 = .ok (.dup, 1) := by decide +kernel
theorem dX0_append_43 : decode cX0_append 43 = .ok (.getfield 24, 3) := by decide +kernel
theorem dX0_append_46 : decode cX0_append 46 = .ok (.iconst 1, 1) := by decide +kernel
theorem dX0_append_47 : decode cX0_append 47 = .ok (.iadd, 1) := by decide +kernel
theorem dX0_append_48 : decode cX0_append 48 = .ok (.putfield 24, 3) := by decide +kernel
theorem dX0_append_51 : decode cX0_append 51 = .ok (.iconst 1, 1) := by decide +kernel
theorem dX0_append_52 : decode cX0_append 52 = .ok (.ireturn, 1) := by decide +kernel
def rmX0_append : Room := { frames := 0, cells := 0, slots := 0, locals := 0 }
def fX0_append (x1 : Int32) (x2 : Int32) (x3 : Int32) (M : xm) : Option (Int32 × xm) := (if (M.1 43 3) < 10 then xchk (M.1 43 3) 10 (xl (up M 44 ((M.1 43 3) : Int32).toNatClampNeg x1) (fun M1 => xchk (M1.1 43 3) 10 (xl (up M1 45 ((M1.1 43 3) : Int32).toNatClampNeg x2) (fun M2 => xchk (M2.1 43 3) 10 (xl (up M2 46 ((M2.1 43 3) : Int32).toNatClampNeg x3) (fun M3 => xl (up M3 43 3 ((M3.1 43 3) + 1)) (fun M4 => (xbo 1 (some (1, M4)))))))))) else (xbo 0 (some (0, M))))
section
variable {p : Program} {l : Launch} {e : Env} {s : State} {m : MethodId} {args : Array Value} {below : List Frame} {meth : Method} {c : Code} {D : va_G} {cs : Nat → ClassId} {S : List Nat} {ad : Nat → Nat}
end
theorem kX0_append (l : Launch) (D : va_G) (cs : Nat → ClassId) (S : List Nat) (ad : Nat → Nat) (hd : xdist S ad) (hS : xall S) (x1 : Int32) (x2 : Int32) (x3 : Int32) (M : xm) : ∀ r, fX0_append x1 x2 x3 M = some r → Met l yX0_append [Cond.code yX0_append cX0_append 4 (some .boolean)] rmX0_append (XPc D cs S ad [.ref (ad 43), .int x1, .int x2, .int x3] M) (XQi D cs S ad r.1 r.2) 0 0 (xA S ad) := by
  refine xm_b (own := RX0) (lv := [(0, .ref (ad 43)), (1, .int x1), (2, .int x2), (3, .int x3)]) (by decide +kernel) rfl rfl (Nat.le_of_ble_eq_true rfl) hd (fun p e s m args below meth c Z => ?_)
  unfold fX0_append
  refine xj_aload_n Z 0 dX0_append_0 rfl rfl ?_
  refine xg_X0_24 Z (hS 43 (by decide)) dX0_append_1 ?_
  refine xj_bipush Z 10 dX0_append_4 (by decide) ?_
  refine xj_icmp_lt Z 11 dX0_append_6 (by decide) (fun _ => ?_) (fun _ => ?_)
  · refine xj_aload_n Z 0 dX0_append_11 rfl rfl ?_
    refine xg_X0_9 Z (hS 43 (by decide)) dX0_append_12 ?_
    refine xj_aload_n Z 0 dX0_append_15 rfl rfl ?_
    refine xg_X0_24 Z (hS 43 (by decide)) dX0_append_16 ?_
    refine xj_iload_n Z 1 dX0_append_19 rfl rfl ?_
    refine xj_iast Z (hS 44 (by decide)) rfl dX0_append_20 (fun M1 _ => ?_)
    refine xj_aload_n Z 0 dX0_append_21 rfl rfl ?_
    refine xg_X0_15 Z (hS 43 (by decide)) dX0_append_22 ?_
    refine xj_aload_n Z 0 dX0_append_25 rfl rfl ?_
    refine xg_X0_24 Z (hS 43 (by decide)) dX0_append_26 ?_
    refine xj_iload_n Z 2 dX0_append_29 rfl rfl ?_
    refine xj_iast Z (hS 45 (by decide)) rfl dX0_append_30 (fun M2 _ => ?_)
    refine xj_aload_n Z 0 dX0_append_31 rfl rfl ?_
    refine xg_X0_18 Z (hS 43 (by decide)) dX0_append_32 ?_
    refine xj_aload_n Z 0 dX0_append_35 rfl rfl ?_
    refine xg_X0_24 Z (hS 43 (by decide)) dX0_append_36 ?_
    refine xj_iload_n Z 3 dX0_append_39 rfl rfl ?_
    refine xj_iast Z (hS 46 (by decide)) rfl dX0_append_40 (fun M3 _ => ?_)
    refine xj_aload_n Z 0 dX0_append_41 rfl rfl ?_
    refine xj_dup Z dX0_append_42 rfl ?_
    refine xg_X0_24 Z (hS 43 (by decide)) dX0_append_43 ?_
    refine xj_iconst Z 1 dX0_append_46 (by decide) ?_
    refine xj_iadd Z dX0_append_47 ?_
    refine xp_X0_24 Z (hS 43 (by decide)) dX0_append_48 (fun M4 _ => ?_)
    refine xj_iconst Z 1 dX0_append_51 (by decide) ?_
    exact xj_zret_b Z dX0_append_52
  · refine xj_iconst Z 0 dX0_append_9 (by decide) ?_
    exact xj_zret_b Z dX0_append_10
/-! WalkingLaw$Diary.isSo(ILWalkingLaw$Walk;)Z -/
theorem dX0_isSo_0 : decode cX0_isSo 0 = .ok (.aload_n 2, 1) := by decide +kernel
theorem dX0_isSo_1 : decode cX0_isSo 1 = .ok (.aload_n 0, 1) := by decide +kernel
theorem dX0_isSo_2 : decode cX0_isSo 2 = .ok (.getfield 9, 3) := by decide +kernel
theorem dX0_isSo_5 : decode cX0_isSo 5 = .ok (.iload_n 1, 1) := by decide +kernel
theorem dX0_isSo_6 : decode cX0_isSo 6 = .ok (.iaload, 1) := by decide +kernel
theorem dX0_isSo_7 : decode cX0_isSo 7 = .ok (.invokevirtual 46, 3) := by decide +kernel
theorem dX0_isSo_10 : decode cX0_isSo 10 = .ok (.aload_n 0, 1) := by decide +kernel
theorem dX0_isSo_11 : decode cX0_isSo 11 = .ok (.getfield 15, 3) := by decide +kernel
theorem dX0_isSo_14 : decode cX0_isSo 14 = .ok (.iload_n 1, 1) := by decide +kernel
theorem dX0_isSo_15 : decode cX0_isSo 15 = .ok (.iaload, 1) := by decide +kernel
theorem dX0_isSo_16 : decode cX0_isSo 16 = .ok (.if_icmp .ne 7, 3) := by decide +kernel
theorem dX0_isSo_19 : decode cX0_isSo 19 = .ok (.iconst 1, 1) := by decide +kernel
theorem dX0_isSo_20 : decode cX0_isSo 20 = .ok (.goto 4, 3) := by decide +kernel
theorem dX0_isSo_23 : decode cX0_isSo 23 = .ok (.iconst 0, 1) := by decide +kernel
theorem dX0_isSo_24 : decode cX0_isSo 24 = .ok (.ireturn, 1) := by decide +kernel
def rmX0_isSo : Room := { frames := 2, cells := 0, slots := 0, locals := 43 }
def fX0_isSo_24 (w2 : Nat) (t0 : Int32) (M : xm) : Option (Int32) := (xbo t0 (some t0))
def fX0_isSo (w2 : Nat) (x1 : Int32) (M : xm) : Option (Int32) := xchk x1 10 ((fX4_parishOf w2 (M.1 44 x1.toNatClampNeg) M).bind (fun v1 => xchk x1 10 ((if v1 = (M.1 45 x1.toNatClampNeg) then (fX0_isSo_24 w2 1 M) else (fX0_isSo_24 w2 0 M)))))
section
variable {p : Program} {l : Launch} {e : Env} {s : State} {m : MethodId} {args : Array Value} {below : List Frame} {meth : Method} {c : Code} {D : va_G} {cs : Nat → ClassId} {S : List Nat} {ad : Nat → Nat} {w2 : Nat}
theorem bX0_isSo_24 (Z : CX p s m args meth c cX0_isSo 3 RX0 (some .boolean) D cs (xA S ad) S ad) (hS : xall S) (hw2 : xWalk S w2) (t0 : Int32) (M : xm) : XJ p l e rmX0_isSo s m args below meth c D cs (xA S ad) S ad 3 (XRr below args s D cs S ad M) 24 [] [.int t0] M (fX0_isSo_24 w2 t0 M) := by
  unfold fX0_isSo_24
  exact xj_zret_r Z dX0_isSo_24
end
theorem kX0_isSo (l : Launch) (D : va_G) (cs : Nat → ClassId) (S : List Nat) (ad : Nat → Nat) (hd : xdist S ad) {w2 : Nat} (hS : xall S) (hw2 : xWalk S w2) (x1 : Int32) (M : xm) : ∀ r, fX0_isSo w2 x1 M = some r → Met l yX0_isSo [Cond.code yX0_isSo cX0_isSo 3 (some .boolean)] rmX0_isSo (XPc D cs S ad [.ref (ad 43), .int x1, .ref (ad w2)] M) (XQi D cs S ad r M) 0 0 (xA S ad) := by
  refine xm_r (own := RX0) (lv := [(0, .ref (ad 43)), (1, .int x1), (2, .ref (ad w2))]) (by decide +kernel) rfl rfl (Nat.le_of_ble_eq_true rfl) hd (fun p e s m args below meth c Z => ?_)
  unfold fX0_isSo
  refine xj_aload_n Z 2 dX0_isSo_0 rfl rfl ?_
  refine xj_aload_n Z 0 dX0_isSo_1 rfl rfl ?_
  refine xg_X0_9 Z (hS 43 (by decide)) dX0_isSo_2 ?_
  refine xj_iload_n Z 1 dX0_isSo_5 rfl rfl ?_
  refine xj_iald Z (hS 44 (by decide)) rfl dX0_isSo_6 (fun _ => ?_)
  refine xj_callVr Z (As := [.int (M.1 44 x1.toNatClampNeg)]) (kX4_parishOf l D cs S ad Z.2.2.2.2.2.1.dist hw2 (M.1 44 x1.toNatClampNeg) M) gw_X0_46 (hw2.mem 0 (by decide)) hw2.lay rfl (n := 1) (by decide +kernel) rfl ⟨rfl, rfl⟩ (by decide) rfl (Nat.le_of_ble_eq_true rfl) dX0_isSo_7 (fun v1 => ?_)
  refine xj_aload_n Z 0 dX0_isSo_10 rfl rfl ?_
  refine xg_X0_15 Z (hS 43 (by decide)) dX0_isSo_11 ?_
  refine xj_iload_n Z 1 dX0_isSo_14 rfl rfl ?_
  refine xj_iald Z (hS 45 (by decide)) rfl dX0_isSo_15 (fun _ => ?_)
  refine xj_icmp_ne Z 23 dX0_isSo_16 (by decide) (fun _ => ?_) (fun _ => ?_)
  · refine xj_iconst Z 0 dX0_isSo_23 (by decide) ?_
    refine xj_sub [] (lv' := []) rfl ?_
    exact bX0_isSo_24 Z hS hw2 0 M
  · refine xj_iconst Z 1 dX0_isSo_19 (by decide) ?_
    refine xj_goto Z 24 dX0_isSo_20 (by decide) ?_
    refine xj_sub [] (lv' := []) rfl ?_
    exact bX0_isSo_24 Z hS hw2 1 M
/-! WalkingLaw$Diary.falseLines(LWalkingLaw$Walk;)I -/
theorem dX0_falseLines_0 : decode cX0_falseLines 0 = .ok (.iconst 0, 1) := by decide +kernel
theorem dX0_falseLines_1 : decode cX0_falseLines 1 = .ok (.istore_n 2, 1) := by decide +kernel
theorem dX0_falseLines_2 : decode cX0_falseLines 2 = .ok (.iconst 0, 1) := by decide +kernel
theorem dX0_falseLines_3 : decode cX0_falseLines 3 = .ok (.istore_n 3, 1) := by decide +kernel
theorem dX0_falseLines_4 : decode cX0_falseLines 4 = .ok (.iload_n 3, 1) := by decide +kernel
theorem dX0_falseLines_5 : decode cX0_falseLines 5 = .ok (.sipush 400, 3) := by decide +kernel
theorem dX0_falseLines_8 : decode cX0_falseLines 8 = .ok (.if_icmp .gt 60, 3) := by decide +kernel
theorem dX0_falseLines_11 : decode cX0_falseLines 11 = .ok (.iconst 0, 1) := by decide +kernel
theorem dX0_falseLines_12 : decode cX0_falseLines 12 = .ok (.istore 4, 2) := by decide +kernel
theorem dX0_falseLines_14 : decode cX0_falseLines 14 = .ok (.iload 4, 2) := by decide +kernel
theorem dX0_falseLines_16 : decode cX0_falseLines 16 = .ok (.aload_n 0, 1) := by decide +kernel
theorem dX0_falseLines_17 : decode cX0_falseLines 17 = .ok (.getfield 24, 3) := by decide +kernel
theorem dX0_falseLines_20 : decode cX0_falseLines 20 = .ok (.if_icmp .ge 37, 3) := by decide +kernel
theorem dX0_falseLines_23 : decode cX0_falseLines 23 = .ok (.aload_n 0, 1) := by decide +kernel
theorem dX0_falseLines_24 : decode cX0_falseLines 24 = .ok (.getfield 18, 3) := by decide +kernel
theorem dX0_falseLines_27 : decode cX0_falseLines 27 = .ok (.iload 4, 2) := by decide +kernel
theorem dX0_falseLines_29 : decode cX0_falseLines 29 = .ok (.iaload, 1) := by decide +kernel
theorem dX0_falseLines_30 : decode cX0_falseLines 30 = .ok (.iload_n 3, 1) := by decide +kernel
theorem dX0_falseLines_31 : decode cX0_falseLines 31 = .ok (.if_icmp .ne 20, 3) := by decide +kernel
theorem dX0_falseLines_34 : decode cX0_falseLines 34 = .ok (.aload_n 0, 1) := by decide +kernel
theorem dX0_falseLines_35 : decode cX0_falseLines 35 = .ok (.iload 4, 2) := by decide +kernel
theorem dX0_falseLines_37 : decode cX0_falseLines 37 = .ok (.aload_n 1, 1) := by decide +kernel
theorem dX0_falseLines_38 : decode cX0_falseLines 38 = .ok (.invokevirtual 28, 3) := by decide +kernel
theorem dX0_falseLines_41 : decode cX0_falseLines 41 = .ok (.ifCond .ne 10, 3) := by decide +kernel
theorem dX0_falseLines_44 : decode cX0_falseLines 44 = .ok (.iload_n 2, 1) := by decide +kernel
theorem dX0_falseLines_45 : decode cX0_falseLines 45 = .ok (.iconst 1, 1) := by decide +kernel
theorem dX0_falseLines_46 : decode cX0_falseLines 46 = .ok (.iload 4, 2) := by decide +kernel
theorem dX0_falseLines_48 : decode cX0_falseLines 48 = .ok (.ishl, 1) := by decide +kernel
theorem dX0_falseLines_49 : decode cX0_falseLines 49 = .ok (.ior, 1) := by decide +kernel
theorem dX0_falseLines_50 : decode cX0_falseLines 50 = .ok (.istore_n 2, 1) := by decide +kernel
theorem dX0_falseLines_51 : decode cX0_falseLines 51 = .ok (.iinc 4 1, 3) := by decide +kernel
theorem dX0_falseLines_54 : decode cX0_falseLines 54 = .ok (.goto (-40), 3) := by decide +kernel
theorem dX0_falseLines_57 : decode cX0_falseLines 57 = .ok (.aload_n 1, 1) := by decide +kernel
theorem dX0_falseLines_58 : decode cX0_falseLines 58 = .ok (.iconst (-1), 1) := by decide +kernel
theorem dX0_falseLines_59 : decode cX0_falseLines 59 = .ok (.invokevirtual 32, 3) := by decide +kernel
theorem dX0_falseLines_62 : decode cX0_falseLines 62 = .ok (.iinc 3 1, 3) := by decide +kernel
theorem dX0_falseLines_65 : decode cX0_falseLines 65 = .ok (.goto (-61), 3) := by decide +kernel
theorem dX0_falseLines_68 : decode cX0_falseLines 68 = .ok (.iload_n 2, 1) := by decide +kernel
theorem dX0_falseLines_69 : decode cX0_falseLines 69 = .ok (.ireturn, 1) := by decide +kernel
def rmX0_falseLines : Room := { frames := 4, cells := 0, slots := 0, locals := 89 }
def fX0_falseLines_51 (w1 : Nat) (k4 : Int32 → Int32 → xm → Option (Int32 × xm)) (k14 : Int32 → Int32 → Option (Int32 × xm)) (x2 : Int32) (x3 : Int32) (x4 : Int32) (M : xm) : Option (Int32 × xm) := (k14 x2 (x4 + 1))
def fX0_falseLines_14 (w1 : Nat) (k4 : Int32 → Int32 → xm → Option (Int32 × xm)) (x3 : Int32) (M : xm) : Nat → Int32 → Int32 → Option (Int32 × xm)
  | 0, _, _ => none
  | n + 1, x2, x4 => (if (M.1 43 3) ≤ x4 then (fX4_goHour w1 (-1) M).bind (fun M1 => (k4 x2 (x3 + 1) M1)) else xchk x4 10 ((if (M.1 46 x4.toNatClampNeg) = x3 then (fX0_isSo w1 x4 M).bind (fun v2 => (if v2 = 0 then xl (x2 ||| (1 <<< (x4 &&& 31))) (fun v3 => (fX0_falseLines_51 w1 (k4) (fun z0 z1 => fX0_falseLines_14 w1 k4 x3 M n z0 z1) v3 x3 x4 M)) else (fX0_falseLines_51 w1 (k4) (fun z0 z1 => fX0_falseLines_14 w1 k4 x3 M n z0 z1) x2 x3 x4 M))) else (fX0_falseLines_51 w1 (k4) (fun z0 z1 => fX0_falseLines_14 w1 k4 x3 M n z0 z1) x2 x3 x4 M))))
def fX0_falseLines_4 (w1 : Nat) : Nat → Int32 → Int32 → xm → Option (Int32 × xm)
  | 0, _, _, _ => none
  | n + 1, x2, x3, M => (if (400 : Int32) < x3 then (some (x2, M)) else (fX0_falseLines_14 w1 (fun z0 z1 z2 => fX0_falseLines_4 w1 n z0 z1 z2) x3 M xfuel x2 0))
def fX0_falseLines (w1 : Nat) (M : xm) : Option (Int32 × xm) := (fX0_falseLines_4 w1 xfuel 0 0 M)
section
variable {p : Program} {l : Launch} {e : Env} {s : State} {m : MethodId} {args : Array Value} {below : List Frame} {meth : Method} {c : Code} {D : va_G} {cs : Nat → ClassId} {S : List Nat} {ad : Nat → Nat} {w1 : Nat}
theorem bX0_falseLines_51 (Z : CX p s m args meth c cX0_falseLines 5 RX0 (some .int) D cs (xA S ad) S ad) (hS : xall S) (hw1 : xWalk S w1) {k4 : Int32 → Int32 → xm → Option (Int32 × xm)} {k14 : Int32 → Int32 → Option (Int32 × xm)} (x2 : Int32) (x3 : Int32) (x4 : Int32) (M : xm) (hk4 : ∀ (x2 : Int32) (x3 : Int32) (M : xm), XJ p l e rmX0_falseLines s m args below meth c D cs (xA S ad) S ad 5 (XRb below args s D cs S ad) 4 [(0, .ref (ad 43)), (1, .ref (ad w1)), (2, .int x2), (3, .int x3)] [] M (k4 x2 x3 M)) (hk14 : ∀ (x2 : Int32) (x4 : Int32), XJ p l e rmX0_falseLines s m args below meth c D cs (xA S ad) S ad 5 (XRb below args s D cs S ad) 14 [(0, .ref (ad 43)), (1, .ref (ad w1)), (2, .int x2), (3, .int x3), (4, .int x4)] [] M (k14 x2 x4)) : XJ p l e rmX0_falseLines s m args below meth c D cs (xA S ad) S ad 5 (XRb below args s D cs S ad) 51 [(0, .ref (ad 43)), (1, .ref (ad w1)), (2, .int x2), (3, .int x3), (4, .int x4)] [] M (fX0_falseLines_51 w1 k4 k14 x2 x3 x4 M) := by
  unfold fX0_falseLines_51
  refine xj_iinc Z 4 (x4 + 1) (lv' := [(4, .int (x4 + 1)), (0, .ref (ad 43)), (1, .ref (ad w1)), (2, .int x2), (3, .int x3)]) dX0_falseLines_51 rfl rfl (by decide) rfl ?_
  refine xj_goto Z 14 dX0_falseLines_54 (by decide) ?_
  refine xj_sub [1, 2, 3, 4, 0] (lv' := [(0, .ref (ad 43)), (1, .ref (ad w1)), (2, .int x2), (3, .int x3), (4, .int (x4 + 1))]) rfl ?_
  exact hk14 x2 (x4 + 1)
theorem bX0_falseLines_14 (Z : CX p s m args meth c cX0_falseLines 5 RX0 (some .int) D cs (xA S ad) S ad) (hS : xall S) (hw1 : xWalk S w1) {k4 : Int32 → Int32 → xm → Option (Int32 × xm)} (x3 : Int32) (M : xm) (hk4 : ∀ (x2 : Int32) (x3 : Int32) (M : xm), XJ p l e rmX0_falseLines s m args below meth c D cs (xA S ad) S ad 5 (XRb below args s D cs S ad) 4 [(0, .ref (ad 43)), (1, .ref (ad w1)), (2, .int x2), (3, .int x3)] [] M (k4 x2 x3 M)) : ∀ (n : Nat) (x2 : Int32) (x4 : Int32), XJ p l e rmX0_falseLines s m args below meth c D cs (xA S ad) S ad 5 (XRb below args s D cs S ad) 14 [(0, .ref (ad 43)), (1, .ref (ad w1)), (2, .int x2), (3, .int x3), (4, .int x4)] [] M (fX0_falseLines_14 w1 k4 x3 M n x2 x4) := by
  intro n
  induction n with
  | zero => intros; exact xj_none
  | succ n ih =>
    intro x2 x4
    rw [fX0_falseLines_14]
    refine xj_iload Z 4 dX0_falseLines_14 rfl ?_
    refine xj_aload_n Z 0 dX0_falseLines_16 rfl rfl ?_
    refine xg_X0_24 Z (hS 43 (by decide)) dX0_falseLines_17 ?_
    refine xj_icmp_ge Z 57 dX0_falseLines_20 (by decide) (fun _ => ?_) (fun _ => ?_)
    · refine xj_aload_n Z 1 dX0_falseLines_57 rfl rfl ?_
      refine xj_iconst Z (-1) dX0_falseLines_58 (by decide) ?_
      refine xj_callVm Z (As := [.int (-1)]) (kX4_goHour l D cs S ad Z.2.2.2.2.2.1.dist hw1 (-1) M) gw_X0_32 (hw1.mem 0 (by decide)) hw1.lay rfl (n := 1) (by decide +kernel) rfl ⟨rfl, rfl⟩ (by decide) rfl (Nat.le_of_ble_eq_true rfl) dX0_falseLines_59 (fun M1 => ?_)
      refine xj_iinc Z 3 (x3 + 1) (lv' := [(3, .int (x3 + 1)), (0, .ref (ad 43)), (1, .ref (ad w1)), (2, .int x2), (4, .int x4)]) dX0_falseLines_62 rfl rfl (by decide) rfl ?_
      refine xj_goto Z 4 dX0_falseLines_65 (by decide) ?_
      refine xj_sub [1, 2, 3, 0] (lv' := [(0, .ref (ad 43)), (1, .ref (ad w1)), (2, .int x2), (3, .int (x3 + 1))]) rfl ?_
      exact hk4 x2 (x3 + 1) M1
    · refine xj_aload_n Z 0 dX0_falseLines_23 rfl rfl ?_
      refine xg_X0_18 Z (hS 43 (by decide)) dX0_falseLines_24 ?_
      refine xj_iload Z 4 dX0_falseLines_27 rfl ?_
      refine xj_iald Z (hS 46 (by decide)) rfl dX0_falseLines_29 (fun _ => ?_)
      refine xj_iload_n Z 3 dX0_falseLines_30 rfl rfl ?_
      refine xj_icmp_ne Z 51 dX0_falseLines_31 (by decide) (fun _ => ?_) (fun _ => ?_)
      · exact bX0_falseLines_51 Z hS hw1 x2 x3 x4 M hk4 ih
      · refine xj_aload_n Z 0 dX0_falseLines_34 rfl rfl ?_
        refine xj_iload Z 4 dX0_falseLines_35 rfl ?_
        refine xj_aload_n Z 1 dX0_falseLines_37 rfl rfl ?_
        refine xj_callVr Z (As := [.int x4, .ref (ad w1)]) (kX0_isSo l D cs S ad Z.2.2.2.2.2.1.dist hS hw1 x4 M) gw_X0_28 (hS 43 (by decide)) rfl rfl (n := 2) (by decide +kernel) rfl ⟨rfl, rfl⟩ (by decide) rfl (Nat.le_of_ble_eq_true rfl) dX0_falseLines_38 (fun v2 => ?_)
        refine xj_if_ne Z 51 dX0_falseLines_41 (by decide) (fun _ => ?_) (fun _ => ?_)
        · exact bX0_falseLines_51 Z hS hw1 x2 x3 x4 M hk4 ih
        · refine xj_iload_n Z 2 dX0_falseLines_44 rfl rfl ?_
          refine xj_iconst Z 1 dX0_falseLines_45 (by decide) ?_
          refine xj_iload Z 4 dX0_falseLines_46 rfl ?_
          refine xj_ishl Z dX0_falseLines_48 ?_
          refine xj_ior Z dX0_falseLines_49 ?_
          refine xj_top (fun v3 => ?_)
          refine xj_istore_n Z (lv' := [(2, .int v3), (0, .ref (ad 43)), (1, .ref (ad w1)), (3, .int x3), (4, .int x4)]) dX0_falseLines_50 rfl (by decide) rfl ?_
          refine xj_sub [1, 2, 0, 3, 4] (lv' := [(0, .ref (ad 43)), (1, .ref (ad w1)), (2, .int v3), (3, .int x3), (4, .int x4)]) rfl ?_
          exact bX0_falseLines_51 Z hS hw1 v3 x3 x4 M hk4 ih
theorem bX0_falseLines_4 (Z : CX p s m args meth c cX0_falseLines 5 RX0 (some .int) D cs (xA S ad) S ad) (hS : xall S) (hw1 : xWalk S w1) : ∀ (n : Nat) (x2 : Int32) (x3 : Int32) (M : xm), XJ p l e rmX0_falseLines s m args below meth c D cs (xA S ad) S ad 5 (XRb below args s D cs S ad) 4 [(0, .ref (ad 43)), (1, .ref (ad w1)), (2, .int x2), (3, .int x3)] [] M (fX0_falseLines_4 w1 n x2 x3 M) := by
  intro n
  induction n with
  | zero => intros; exact xj_none
  | succ n ih =>
    intro x2 x3 M
    rw [fX0_falseLines_4]
    refine xj_iload_n Z 3 dX0_falseLines_4 rfl rfl ?_
    refine xj_sipush Z 400 dX0_falseLines_5 (by decide) ?_
    refine xj_icmp_gt Z 68 dX0_falseLines_8 (by decide) (fun _ => ?_) (fun _ => ?_)
    · refine xj_iload_n Z 2 dX0_falseLines_68 rfl rfl ?_
      exact xj_ret_b Z dX0_falseLines_69
    · refine xj_iconst Z 0 dX0_falseLines_11 (by decide) ?_
      refine xj_istore Z (lv' := [(4, .int 0), (0, .ref (ad 43)), (1, .ref (ad w1)), (2, .int x2), (3, .int x3)]) dX0_falseLines_12 (by decide) rfl ?_
      refine xj_sub [1, 2, 3, 4, 0] (lv' := [(0, .ref (ad 43)), (1, .ref (ad w1)), (2, .int x2), (3, .int x3), (4, .int 0)]) rfl ?_
      exact bX0_falseLines_14 Z hS hw1 x3 M ih xfuel x2 0
end
theorem kX0_falseLines (l : Launch) (D : va_G) (cs : Nat → ClassId) (S : List Nat) (ad : Nat → Nat) (hd : xdist S ad) {w1 : Nat} (hS : xall S) (hw1 : xWalk S w1) (M : xm) : ∀ r, fX0_falseLines w1 M = some r → Met l yX0_falseLines [Cond.code yX0_falseLines cX0_falseLines 5 (some .int)] rmX0_falseLines (XPc D cs S ad [.ref (ad 43), .ref (ad w1)] M) (XQi D cs S ad r.1 r.2) 0 0 (xA S ad) := by
  refine xm_b (own := RX0) (lv := [(0, .ref (ad 43)), (1, .ref (ad w1))]) (by decide +kernel) rfl rfl (Nat.le_of_ble_eq_true rfl) hd (fun p e s m args below meth c Z => ?_)
  unfold fX0_falseLines
  refine xj_iconst Z 0 dX0_falseLines_0 (by decide) ?_
  refine xj_istore_n Z (lv' := [(2, .int 0), (0, .ref (ad 43)), (1, .ref (ad w1))]) dX0_falseLines_1 rfl (by decide) rfl ?_
  refine xj_iconst Z 0 dX0_falseLines_2 (by decide) ?_
  refine xj_istore_n Z (lv' := [(3, .int 0), (2, .int 0), (0, .ref (ad 43)), (1, .ref (ad w1))]) dX0_falseLines_3 rfl (by decide) rfl ?_
  refine xj_sub [2, 3, 1, 0] (lv' := [(0, .ref (ad 43)), (1, .ref (ad w1)), (2, .int 0), (3, .int 0)]) rfl ?_
  exact bX0_falseLines_4 Z hS hw1 xfuel 0 0 M
/-! WalkingLaw$Diary.noteFitting(II)V -/
theorem dX0_noteFitting_0 : decode cX0_noteFitting 0 = .ok (.iload_n 2, 1) := by decide +kernel
theorem dX0_noteFitting_1 : decode cX0_noteFitting 1 = .ok (.iload_n 1, 1) := by decide +kernel
theorem dX0_noteFitting_2 : decode cX0_noteFitting 2 = .ok (.isub, 1) := by decide +kernel
theorem dX0_noteFitting_3 : decode cX0_noteFitting 3 = .ok (.istore_n 3, 1) := by decide +kernel
theorem dX0_noteFitting_4 : decode cX0_noteFitting 4 = .ok (.iload_n 2, 1) := by decide +kernel
theorem dX0_noteFitting_5 : decode cX0_noteFitting 5 = .ok (.ifCond .ne 8, 3) := by decide +kernel
theorem dX0_noteFitting_8 : decode cX0_noteFitting 8 = .ok (.bipush (-20), 2) := by decide +kernel
theorem dX0_noteFitting_10 : decode cX0_noteFitting 10 = .ok (.goto 4, 3) := by decide +kernel
theorem dX0_noteFitting_13 : decode cX0_noteFitting 13 = .ok (.iload_n 3, 1) := by decide +kernel
theorem dX0_noteFitting_14 : decode cX0_noteFitting 14 = .ok (.istore 4, 2) := by decide +kernel
theorem dX0_noteFitting_16 : decode cX0_noteFitting 16 = .ok (.iload 4, 2) := by decide +kernel
theorem dX0_noteFitting_18 : decode cX0_noteFitting 18 = .ok (.bipush (-20), 2) := by decide +kernel
theorem dX0_noteFitting_20 : decode cX0_noteFitting 20 = .ok (.invokestatic 50, 3) := by decide +kernel
theorem dX0_noteFitting_23 : decode cX0_noteFitting 23 = .ok (.istore 5, 2) := by decide +kernel
theorem dX0_noteFitting_25 : decode cX0_noteFitting 25 = .ok (.iload 5, 2) := by decide +kernel
theorem dX0_noteFitting_27 : decode cX0_noteFitting 27 = .ok (.iload_n 3, 1) := by decide +kernel
theorem dX0_noteFitting_28 : decode cX0_noteFitting 28 = .ok (.bipush 20, 2) := by decide +kernel
theorem dX0_noteFitting_30 : decode cX0_noteFitting 30 = .ok (.invokestatic 56, 3) := by decide +kernel
theorem dX0_noteFitting_33 : decode cX0_noteFitting 33 = .ok (.if_icmp .gt 23, 3) := by decide +kernel
theorem dX0_noteFitting_36 : decode cX0_noteFitting 36 = .ok (.aload_n 0, 1) := by decide +kernel
theorem dX0_noteFitting_37 : decode cX0_noteFitting 37 = .ok (.getfield 21, 3) := by decide +kernel
theorem dX0_noteFitting_40 : decode cX0_noteFitting 40 = .ok (.iload 5, 2) := by decide +kernel
theorem dX0_noteFitting_42 : decode cX0_noteFitting 42 = .ok (.bipush 20, 2) := by decide +kernel
theorem dX0_noteFitting_44 : decode cX0_noteFitting 44 = .ok (.iadd, 1) := by decide +kernel
theorem dX0_noteFitting_45 : decode cX0_noteFitting 45 = .ok (.dup2, 1) := by decide +kernel
theorem dX0_noteFitting_46 : decode cX0_noteFitting 46 = .ok (.iaload, 1) := by decide +kernel
theorem dX0_noteFitting_47 : decode cX0_noteFitting 47 = .ok (.iconst 1, 1) := by decide +kernel
theorem dX0_noteFitting_48 : decode cX0_noteFitting 48 = .ok (.iadd, 1) := by decide +kernel
theorem dX0_noteFitting_49 : decode cX0_noteFitting 49 = .ok (.iastore, 1) := by decide +kernel
theorem dX0_noteFitting_50 : decode cX0_noteFitting 50 = .ok (.iinc 5 1, 3) := by decide +kernel
theorem dX0_noteFitting_53 : decode cX0_noteFitting 53 = .ok (.goto (-28), 3) := by decide +kernel
theorem dX0_noteFitting_56 : decode cX0_noteFitting 56 = .ok (.return_, 1) := by decide +kernel
def rmX0_noteFitting : Room := { frames := 1, cells := 0, slots := 0, locals := 24 }
def fX0_noteFitting_25 (x3 : Int32) : Nat → Int32 → xm → Option (xm)
  | 0, _, _ => none
  | n + 1, x5, M => (if (if (20 : Int32) < x3 then 20 else x3) < x5 then (some M) else xl (x5 + 20) (fun v1 => xchk v1 41 (xchk v1 41 (xl (up M 47 (v1 : Int32).toNatClampNeg ((M.1 47 v1.toNatClampNeg) + 1)) (fun M2 => (fX0_noteFitting_25 x3 n (x5 + 1) M2))))))
def fX0_noteFitting_14 (x3 : Int32) (t0 : Int32) (M : xm) : Option (xm) := xl (if t0 < (-20) then (-20) else t0) (fun v3 => (fX0_noteFitting_25 x3 xfuel v3 M))
def fX0_noteFitting (x1 : Int32) (x2 : Int32) (M : xm) : Option (xm) := xl (x2 - x1) (fun v4 => (if x2 = 0 then (fX0_noteFitting_14 v4 (-20) M) else (fX0_noteFitting_14 v4 v4 M)))
section
variable {p : Program} {l : Launch} {e : Env} {s : State} {m : MethodId} {args : Array Value} {below : List Frame} {meth : Method} {c : Code} {D : va_G} {cs : Nat → ClassId} {S : List Nat} {ad : Nat → Nat}
theorem bX0_noteFitting_25 (Z : CX p s m args meth c cX0_noteFitting 6 RX0 none D cs (xA S ad) S ad) (hS : xall S) (x3 : Int32) : ∀ (n : Nat) (x5 : Int32) (M : xm), XJ p l e rmX0_noteFitting s m args below meth c D cs (xA S ad) S ad 6 (XRm below args s D cs S ad) 25 [(0, .ref (ad 43)), (3, .int x3), (5, .int x5)] [] M (fX0_noteFitting_25 x3 n x5 M) := by
  intro n
  induction n with
  | zero => intros; exact xj_none
  | succ n ih =>
    intro x5 M
    rw [fX0_noteFitting_25]
    refine xj_iload Z 2 dX0_noteFitting_25 rfl ?_
    refine xj_iload_n Z 1 dX0_noteFitting_27 rfl rfl ?_
    refine xj_bipush Z 20 dX0_noteFitting_28 (by decide) ?_
    refine xj_mmin Z xb_77 xb_51 xb_52 xb_53 ⟨Nat.le_of_ble_eq_true rfl, Nat.le_of_ble_eq_true rfl⟩ dX0_noteFitting_30 ?_
    refine xj_icmp_gt Z 56 dX0_noteFitting_33 (by decide) (fun _ => ?_) (fun _ => ?_)
    · exact xj_vret Z dX0_noteFitting_56
    · refine xj_aload_n Z 0 dX0_noteFitting_36 rfl rfl ?_
      refine xg_X0_21 Z (hS 43 (by decide)) dX0_noteFitting_37 ?_
      refine xj_iload Z 2 dX0_noteFitting_40 rfl ?_
      refine xj_bipush Z 20 dX0_noteFitting_42 (by decide) ?_
      refine xj_iadd Z dX0_noteFitting_44 ?_
      refine xj_top (fun v1 => ?_)
      refine xj_dup2 Z dX0_noteFitting_45 rfl rfl ?_
      refine xj_iald Z (hS 47 (by decide)) rfl dX0_noteFitting_46 (fun _ => ?_)
      refine xj_iconst Z 1 dX0_noteFitting_47 (by decide) ?_
      refine xj_iadd Z dX0_noteFitting_48 ?_
      refine xj_iast Z (hS 47 (by decide)) rfl dX0_noteFitting_49 (fun M2 _ => ?_)
      refine xj_iinc Z 2 (x5 + 1) (lv' := [(5, .int (x5 + 1)), (0, .ref (ad 43)), (3, .int x3)]) dX0_noteFitting_50 rfl rfl (by decide) rfl ?_
      refine xj_goto Z 25 dX0_noteFitting_53 (by decide) ?_
      refine xj_sub [1, 2, 0] (lv' := [(0, .ref (ad 43)), (3, .int x3), (5, .int (x5 + 1))]) rfl ?_
      exact ih (x5 + 1) M2
theorem bX0_noteFitting_14 (Z : CX p s m args meth c cX0_noteFitting 6 RX0 none D cs (xA S ad) S ad) (hS : xall S) (x3 : Int32) (t0 : Int32) (M : xm) : XJ p l e rmX0_noteFitting s m args below meth c D cs (xA S ad) S ad 6 (XRm below args s D cs S ad) 14 [(0, .ref (ad 43)), (3, .int x3)] [.int t0] M (fX0_noteFitting_14 x3 t0 M) := by
  unfold fX0_noteFitting_14
  refine xj_istore Z (lv' := [(4, .int t0), (0, .ref (ad 43)), (3, .int x3)]) dX0_noteFitting_14 (by decide) rfl ?_
  refine xj_iload Z 0 dX0_noteFitting_16 rfl ?_
  refine xj_bipush Z (-20) dX0_noteFitting_18 (by decide) ?_
  refine xj_mmax Z xb_74 xb_75 xb_52 xb_76 ⟨Nat.le_of_ble_eq_true rfl, Nat.le_of_ble_eq_true rfl⟩ dX0_noteFitting_20 ?_
  refine xj_top (fun v3 => ?_)
  refine xj_istore Z (lv' := [(5, .int v3), (4, .int t0), (0, .ref (ad 43)), (3, .int x3)]) dX0_noteFitting_23 (by decide) rfl ?_
  refine xj_sub [2, 3, 0] (lv' := [(0, .ref (ad 43)), (3, .int x3), (5, .int v3)]) rfl ?_
  exact bX0_noteFitting_25 Z hS x3 xfuel v3 M
end
theorem kX0_noteFitting (l : Launch) (D : va_G) (cs : Nat → ClassId) (S : List Nat) (ad : Nat → Nat) (hd : xdist S ad) (hS : xall S) (x1 : Int32) (x2 : Int32) (M : xm) : ∀ r, fX0_noteFitting x1 x2 M = some r → Met l yX0_noteFitting [Cond.code yX0_noteFitting cX0_noteFitting 6 none] rmX0_noteFitting (XPc D cs S ad [.ref (ad 43), .int x1, .int x2] M) (XQv D cs S ad r) 0 0 (xA S ad) := by
  refine xm_m (own := RX0) (lv := [(0, .ref (ad 43)), (1, .int x1), (2, .int x2)]) (by decide +kernel) rfl rfl (Nat.le_of_ble_eq_true rfl) hd (fun p e s m args below meth c Z => ?_)
  unfold fX0_noteFitting
  refine xj_iload_n Z 2 dX0_noteFitting_0 rfl rfl ?_
  refine xj_iload_n Z 1 dX0_noteFitting_1 rfl rfl ?_
  refine xj_isub Z dX0_noteFitting_2 ?_
  refine xj_top (fun v4 => ?_)
  refine xj_istore_n Z (lv' := [(3, .int v4), (0, .ref (ad 43)), (1, .int x1), (2, .int x2)]) dX0_noteFitting_3 rfl (by decide) rfl ?_
  refine xj_iload_n Z 3 dX0_noteFitting_4 rfl rfl ?_
  refine xj_if_ne Z 13 dX0_noteFitting_5 (by decide) (fun _ => ?_) (fun _ => ?_)
  · refine xj_iload_n Z 0 dX0_noteFitting_13 rfl rfl ?_
    refine xj_sub [1, 0] (lv' := [(0, .ref (ad 43)), (3, .int v4)]) rfl ?_
    exact bX0_noteFitting_14 Z hS v4 v4 M
  · refine xj_bipush Z (-20) dX0_noteFitting_8 (by decide) ?_
    refine xj_goto Z 14 dX0_noteFitting_10 (by decide) ?_
    refine xj_sub [1, 0] (lv' := [(0, .ref (ad 43)), (3, .int v4)]) rfl ?_
    exact bX0_noteFitting_14 Z hS v4 (-20) M
/-! WalkingLaw$Diary.mostFitting()I -/
theorem dX0_mostFitting_0 : decode cX0_mostFitting 0 = .ok (.iconst 0, 1) := by decide +kernel
theorem dX0_mostFitting_1 : decode cX0_mostFitting 1 = .ok (.istore_n 1, 1) := by decide +kernel
theorem dX0_mostFitting_2 : decode cX0_mostFitting 2 = .ok (.iconst 1, 1) := by decide +kernel
theorem dX0_mostFitting_3 : decode cX0_mostFitting 3 = .ok (.istore_n 2, 1) := by decide +kernel
theorem dX0_mostFitting_4 : decode cX0_mostFitting 4 = .ok (.iload_n 2, 1) := by decide +kernel
theorem dX0_mostFitting_5 : decode cX0_mostFitting 5 = .ok (.bipush 20, 2) := by decide +kernel
theorem dX0_mostFitting_7 : decode cX0_mostFitting 7 = .ok (.if_icmp .gt 56, 3) := by decide +kernel
theorem dX0_mostFitting_10 : decode cX0_mostFitting 10 = .ok (.aload_n 0, 1) := by decide +kernel
theorem dX0_mostFitting_11 : decode cX0_mostFitting 11 = .ok (.getfield 21, 3) := by decide +kernel
theorem dX0_mostFitting_14 : decode cX0_mostFitting 14 = .ok (.bipush 20, 2) := by decide +kernel
theorem dX0_mostFitting_16 : decode cX0_mostFitting 16 = .ok (.iload_n 2, 1) := by decide +kernel
theorem dX0_mostFitting_17 : decode cX0_mostFitting 17 = .ok (.isub, 1) := by decide +kernel
theorem dX0_mostFitting_18 : decode cX0_mostFitting 18 = .ok (.iaload, 1) := by decide +kernel
theorem dX0_mostFitting_19 : decode cX0_mostFitting 19 = .ok (.aload_n 0, 1) := by decide +kernel
theorem dX0_mostFitting_20 : decode cX0_mostFitting 20 = .ok (.getfield 21, 3) := by decide +kernel
theorem dX0_mostFitting_23 : decode cX0_mostFitting 23 = .ok (.bipush 20, 2) := by decide +kernel
theorem dX0_mostFitting_25 : decode cX0_mostFitting 25 = .ok (.iload_n 1, 1) := by decide +kernel
theorem dX0_mostFitting_26 : decode cX0_mostFitting 26 = .ok (.iadd, 1) := by decide +kernel
theorem dX0_mostFitting_27 : decode cX0_mostFitting 27 = .ok (.iaload, 1) := by decide +kernel
theorem dX0_mostFitting_28 : decode cX0_mostFitting 28 = .ok (.if_icmp .le 6, 3) := by decide +kernel
theorem dX0_mostFitting_31 : decode cX0_mostFitting 31 = .ok (.iload_n 2, 1) := by decide +kernel
theorem dX0_mostFitting_32 : decode cX0_mostFitting 32 = .ok (.ineg, 1) := by decide +kernel
theorem dX0_mostFitting_33 : decode cX0_mostFitting 33 = .ok (.istore_n 1, 1) := by decide +kernel
theorem dX0_mostFitting_34 : decode cX0_mostFitting 34 = .ok (.aload_n 0, 1) := by decide +kernel
theorem dX0_mostFitting_35 : decode cX0_mostFitting 35 = .ok (.getfield 21, 3) := by decide +kernel
theorem dX0_mostFitting_38 : decode cX0_mostFitting 38 = .ok (.bipush 20, 2) := by decide +kernel
theorem dX0_mostFitting_40 : decode cX0_mostFitting 40 = .ok (.iload_n 2, 1) := by decide +kernel
theorem dX0_mostFitting_41 : decode cX0_mostFitting 41 = .ok (.iadd, 1) := by decide +kernel
theorem dX0_mostFitting_42 : decode cX0_mostFitting 42 = .ok (.iaload, 1) := by decide +kernel
theorem dX0_mostFitting_43 : decode cX0_mostFitting 43 = .ok (.aload_n 0, 1) := by decide +kernel
theorem dX0_mostFitting_44 : decode cX0_mostFitting 44 = .ok (.getfield 21, 3) := by decide +kernel
theorem dX0_mostFitting_47 : decode cX0_mostFitting 47 = .ok (.bipush 20, 2) := by decide +kernel
theorem dX0_mostFitting_49 : decode cX0_mostFitting 49 = .ok (.iload_n 1, 1) := by decide +kernel
theorem dX0_mostFitting_50 : decode cX0_mostFitting 50 = .ok (.iadd, 1) := by decide +kernel
theorem dX0_mostFitting_51 : decode cX0_mostFitting 51 = .ok (.iaload, 1) := by decide +kernel
theorem dX0_mostFitting_52 : decode cX0_mostFitting 52 = .ok (.if_icmp .le 5, 3) := by decide +kernel
theorem dX0_mostFitting_55 : decode cX0_mostFitting 55 = .ok (.iload_n 2, 1) := by decide +kernel
theorem dX0_mostFitting_56 : decode cX0_mostFitting 56 = .ok (.istore_n 1, 1) := by decide +kernel
theorem dX0_mostFitting_57 : decode cX0_mostFitting 57 = .ok (.iinc 2 1, 3) := by decide +kernel
theorem dX0_mostFitting_60 : decode cX0_mostFitting 60 = .ok (.goto (-56), 3) := by decide +kernel
theorem dX0_mostFitting_63 : decode cX0_mostFitting 63 = .ok (.iload_n 1, 1) := by decide +kernel
theorem dX0_mostFitting_64 : decode cX0_mostFitting 64 = .ok (.ireturn, 1) := by decide +kernel
def rmX0_mostFitting : Room := { frames := 0, cells := 0, slots := 0, locals := 0 }
def fX0_mostFitting_57 (k4 : Int32 → Int32 → Option (Int32)) (x1 : Int32) (x2 : Int32) (M : xm) : Option (Int32) := (k4 x1 (x2 + 1))
def fX0_mostFitting_34 (k4 : Int32 → Int32 → Option (Int32)) (x1 : Int32) (x2 : Int32) (M : xm) : Option (Int32) := xchk (20 + x2) 41 (xchk (20 + x1) 41 ((if (M.1 47 ((20 + x2)).toNatClampNeg) ≤ (M.1 47 ((20 + x1)).toNatClampNeg) then (fX0_mostFitting_57 (k4) x1 x2 M) else (fX0_mostFitting_57 (k4) x2 x2 M))))
def fX0_mostFitting_4 (M : xm) : Nat → Int32 → Int32 → Option (Int32)
  | 0, _, _ => none
  | n + 1, x1, x2 => (if (20 : Int32) < x2 then (some x1) else xchk (20 - x2) 41 (xchk (20 + x1) 41 ((if (M.1 47 ((20 - x2)).toNatClampNeg) ≤ (M.1 47 ((20 + x1)).toNatClampNeg) then (fX0_mostFitting_34 (fun z0 z1 => fX0_mostFitting_4 M n z0 z1) x1 x2 M) else (fX0_mostFitting_34 (fun z0 z1 => fX0_mostFitting_4 M n z0 z1) (-x2) x2 M)))))
def fX0_mostFitting (M : xm) : Option (Int32) := (fX0_mostFitting_4 M xfuel 0 1)
section
variable {p : Program} {l : Launch} {e : Env} {s : State} {m : MethodId} {args : Array Value} {below : List Frame} {meth : Method} {c : Code} {D : va_G} {cs : Nat → ClassId} {S : List Nat} {ad : Nat → Nat}
theorem bX0_mostFitting_57 (Z : CX p s m args meth c cX0_mostFitting 3 RX0 (some .int) D cs (xA S ad) S ad) (hS : xall S) {k4 : Int32 → Int32 → Option (Int32)} (x1 : Int32) (x2 : Int32) (M : xm) (hk4 : ∀ (x1 : Int32) (x2 : Int32), XJ p l e rmX0_mostFitting s m args below meth c D cs (xA S ad) S ad 3 (XRr below args s D cs S ad M) 4 [(0, .ref (ad 43)), (1, .int x1), (2, .int x2)] [] M (k4 x1 x2)) : XJ p l e rmX0_mostFitting s m args below meth c D cs (xA S ad) S ad 3 (XRr below args s D cs S ad M) 57 [(0, .ref (ad 43)), (1, .int x1), (2, .int x2)] [] M (fX0_mostFitting_57 k4 x1 x2 M) := by
  unfold fX0_mostFitting_57
  refine xj_iinc Z 2 (x2 + 1) (lv' := [(2, .int (x2 + 1)), (0, .ref (ad 43)), (1, .int x1)]) dX0_mostFitting_57 rfl rfl (by decide) rfl ?_
  refine xj_goto Z 4 dX0_mostFitting_60 (by decide) ?_
  refine xj_sub [1, 2, 0] (lv' := [(0, .ref (ad 43)), (1, .int x1), (2, .int (x2 + 1))]) rfl ?_
  exact hk4 x1 (x2 + 1)
theorem bX0_mostFitting_34 (Z : CX p s m args meth c cX0_mostFitting 3 RX0 (some .int) D cs (xA S ad) S ad) (hS : xall S) {k4 : Int32 → Int32 → Option (Int32)} (x1 : Int32) (x2 : Int32) (M : xm) (hk4 : ∀ (x1 : Int32) (x2 : Int32), XJ p l e rmX0_mostFitting s m args below meth c D cs (xA S ad) S ad 3 (XRr below args s D cs S ad M) 4 [(0, .ref (ad 43)), (1, .int x1), (2, .int x2)] [] M (k4 x1 x2)) : XJ p l e rmX0_mostFitting s m args below meth c D cs (xA S ad) S ad 3 (XRr below args s D cs S ad M) 34 [(0, .ref (ad 43)), (1, .int x1), (2, .int x2)] [] M (fX0_mostFitting_34 k4 x1 x2 M) := by
  unfold fX0_mostFitting_34
  refine xj_aload_n Z 0 dX0_mostFitting_34 rfl rfl ?_
  refine xg_X0_21 Z (hS 43 (by decide)) dX0_mostFitting_35 ?_
  refine xj_bipush Z 20 dX0_mostFitting_38 (by decide) ?_
  refine xj_iload_n Z 2 dX0_mostFitting_40 rfl rfl ?_
  refine xj_iadd Z dX0_mostFitting_41 ?_
  refine xj_iald Z (hS 47 (by decide)) rfl dX0_mostFitting_42 (fun _ => ?_)
  refine xj_aload_n Z 0 dX0_mostFitting_43 rfl rfl ?_
  refine xg_X0_21 Z (hS 43 (by decide)) dX0_mostFitting_44 ?_
  refine xj_bipush Z 20 dX0_mostFitting_47 (by decide) ?_
  refine xj_iload_n Z 1 dX0_mostFitting_49 rfl rfl ?_
  refine xj_iadd Z dX0_mostFitting_50 ?_
  refine xj_iald Z (hS 47 (by decide)) rfl dX0_mostFitting_51 (fun _ => ?_)
  refine xj_icmp_le Z 57 dX0_mostFitting_52 (by decide) (fun _ => ?_) (fun _ => ?_)
  · exact bX0_mostFitting_57 Z hS x1 x2 M hk4
  · refine xj_iload_n Z 2 dX0_mostFitting_55 rfl rfl ?_
    refine xj_istore_n Z (lv' := [(1, .int x2), (0, .ref (ad 43)), (2, .int x2)]) dX0_mostFitting_56 rfl (by decide) rfl ?_
    refine xj_sub [1, 0, 2] (lv' := [(0, .ref (ad 43)), (1, .int x2), (2, .int x2)]) rfl ?_
    exact bX0_mostFitting_57 Z hS x2 x2 M hk4
theorem bX0_mostFitting_4 (Z : CX p s m args meth c cX0_mostFitting 3 RX0 (some .int) D cs (xA S ad) S ad) (hS : xall S) (M : xm) : ∀ (n : Nat) (x1 : Int32) (x2 : Int32), XJ p l e rmX0_mostFitting s m args below meth c D cs (xA S ad) S ad 3 (XRr below args s D cs S ad M) 4 [(0, .ref (ad 43)), (1, .int x1), (2, .int x2)] [] M (fX0_mostFitting_4 M n x1 x2) := by
  intro n
  induction n with
  | zero => intros; exact xj_none
  | succ n ih =>
    intro x1 x2
    rw [fX0_mostFitting_4]
    refine xj_iload_n Z 2 dX0_mostFitting_4 rfl rfl ?_
    refine xj_bipush Z 20 dX0_mostFitting_5 (by decide) ?_
    refine xj_icmp_gt Z 63 dX0_mostFitting_7 (by decide) (fun _ => ?_) (fun _ => ?_)
    · refine xj_iload_n Z 1 dX0_mostFitting_63 rfl rfl ?_
      exact xj_ret_r Z dX0_mostFitting_64
    · refine xj_aload_n Z 0 dX0_mostFitting_10 rfl rfl ?_
      refine xg_X0_21 Z (hS 43 (by decide)) dX0_mostFitting_11 ?_
      refine xj_bipush Z 20 dX0_mostFitting_14 (by decide) ?_
      refine xj_iload_n Z 2 dX0_mostFitting_16 rfl rfl ?_
      refine xj_isub Z dX0_mostFitting_17 ?_
      refine xj_iald Z (hS 47 (by decide)) rfl dX0_mostFitting_18 (fun _ => ?_)
      refine xj_aload_n Z 0 dX0_mostFitting_19 rfl rfl ?_
      refine xg_X0_21 Z (hS 43 (by decide)) dX0_mostFitting_20 ?_
      refine xj_bipush Z 20 dX0_mostFitting_23 (by decide) ?_
      refine xj_iload_n Z 1 dX0_mostFitting_25 rfl rfl ?_
      refine xj_iadd Z dX0_mostFitting_26 ?_
      refine xj_iald Z (hS 47 (by decide)) rfl dX0_mostFitting_27 (fun _ => ?_)
      refine xj_icmp_le Z 34 dX0_mostFitting_28 (by decide) (fun _ => ?_) (fun _ => ?_)
      · exact bX0_mostFitting_34 Z hS x1 x2 M ih
      · refine xj_iload_n Z 2 dX0_mostFitting_31 rfl rfl ?_
        refine xj_ineg Z dX0_mostFitting_32 ?_
        refine xj_istore_n Z (lv' := [(1, .int (-x2)), (0, .ref (ad 43)), (2, .int x2)]) dX0_mostFitting_33 rfl (by decide) rfl ?_
        refine xj_sub [1, 0, 2] (lv' := [(0, .ref (ad 43)), (1, .int (-x2)), (2, .int x2)]) rfl ?_
        exact bX0_mostFitting_34 Z hS (-x2) x2 M ih
end
theorem kX0_mostFitting (l : Launch) (D : va_G) (cs : Nat → ClassId) (S : List Nat) (ad : Nat → Nat) (hd : xdist S ad) (hS : xall S) (M : xm) : ∀ r, fX0_mostFitting M = some r → Met l yX0_mostFitting [Cond.code yX0_mostFitting cX0_mostFitting 3 (some .int)] rmX0_mostFitting (XPc D cs S ad [.ref (ad 43)] M) (XQi D cs S ad r M) 0 0 (xA S ad) := by
  refine xm_r (own := RX0) (lv := [(0, .ref (ad 43))]) (by decide +kernel) rfl rfl (Nat.le_of_ble_eq_true rfl) hd (fun p e s m args below meth c Z => ?_)
  unfold fX0_mostFitting
  refine xj_iconst Z 0 dX0_mostFitting_0 (by decide) ?_
  refine xj_istore_n Z (lv' := [(1, .int 0), (0, .ref (ad 43))]) dX0_mostFitting_1 rfl (by decide) rfl ?_
  refine xj_iconst Z 1 dX0_mostFitting_2 (by decide) ?_
  refine xj_istore_n Z (lv' := [(2, .int 1), (1, .int 0), (0, .ref (ad 43))]) dX0_mostFitting_3 rfl (by decide) rfl ?_
  refine xj_sub [2, 1, 0] (lv' := [(0, .ref (ad 43)), (1, .int 0), (2, .int 1)]) rfl ?_
  exact bX0_mostFitting_4 Z hS M xfuel 0 1
/-! WalkingLaw$Diary.bestDelay(LWalkingLaw$Walk;)I -/
theorem dX0_bestDelay_0 : decode cX0_bestDelay 0 = .ok (.iconst 0, 1) := by decide +kernel
theorem dX0_bestDelay_1 : decode cX0_bestDelay 1 = .ok (.istore_n 2, 1) := by decide +kernel
theorem dX0_bestDelay_2 : decode cX0_bestDelay 2 = .ok (.iload_n 2, 1) := by decide +kernel
theorem dX0_bestDelay_3 : decode cX0_bestDelay 3 = .ok (.aload_n 0, 1) := by decide +kernel
theorem dX0_bestDelay_4 : decode cX0_bestDelay 4 = .ok (.getfield 21, 3) := by decide +kernel
theorem dX0_bestDelay_7 : decode cX0_bestDelay 7 = .ok (.arraylength, 1) := by decide +kernel
theorem dX0_bestDelay_8 : decode cX0_bestDelay 8 = .ok (.if_icmp .ge 16, 3) := by decide +kernel
theorem dX0_bestDelay_11 : decode cX0_bestDelay 11 = .ok (.aload_n 0, 1) := by decide +kernel
theorem dX0_bestDelay_12 : decode cX0_bestDelay 12 = .ok (.getfield 21, 3) := by decide +kernel
theorem dX0_bestDelay_15 : decode cX0_bestDelay 15 = .ok (.iload_n 2, 1) := by decide +kernel
theorem dX0_bestDelay_16 : decode cX0_bestDelay 16 = .ok (.iconst 0, 1) := by decide +kernel
theorem dX0_bestDelay_17 : decode cX0_bestDelay 17 = .ok (.iastore, 1) := by decide +kernel
theorem dX0_bestDelay_18 : decode cX0_bestDelay 18 = .ok (.iinc 2 1, 3) := by decide +kernel
theorem dX0_bestDelay_21 : decode cX0_bestDelay 21 = .ok (.goto (-19), 3) := by decide +kernel
theorem dX0_bestDelay_24 : decode cX0_bestDelay 24 = .ok (.iconst 0, 1) := by decide +kernel
theorem dX0_bestDelay_25 : decode cX0_bestDelay 25 = .ok (.istore_n 2, 1) := by decide +kernel
theorem dX0_bestDelay_26 : decode cX0_bestDelay 26 = .ok (.iload_n 2, 1) := by decide +kernel
theorem dX0_bestDelay_27 : decode cX0_bestDelay 27 = .ok (.sipush 420, 3) := by decide +kernel
theorem dX0_bestDelay_30 : decode cX0_bestDelay 30 = .ok (.if_icmp .gt 50, 3) := by decide +kernel
theorem dX0_bestDelay_33 : decode cX0_bestDelay 33 = .ok (.iconst 0, 1) := by decide +kernel
theorem dX0_bestDelay_34 : decode cX0_bestDelay 34 = .ok (.istore_n 3, 1) := by decide +kernel
theorem dX0_bestDelay_35 : decode cX0_bestDelay 35 = .ok (.iload_n 3, 1) := by decide +kernel
theorem dX0_bestDelay_36 : decode cX0_bestDelay 36 = .ok (.aload_n 0, 1) := by decide +kernel
theorem dX0_bestDelay_37 : decode cX0_bestDelay 37 = .ok (.getfield 24, 3) := by decide +kernel
theorem dX0_bestDelay_40 : decode cX0_bestDelay 40 = .ok (.if_icmp .ge 29, 3) := by decide +kernel
theorem dX0_bestDelay_43 : decode cX0_bestDelay 43 = .ok (.aload_n 0, 1) := by decide +kernel
theorem dX0_bestDelay_44 : decode cX0_bestDelay 44 = .ok (.iload_n 3, 1) := by decide +kernel
theorem dX0_bestDelay_45 : decode cX0_bestDelay 45 = .ok (.aload_n 1, 1) := by decide +kernel
theorem dX0_bestDelay_46 : decode cX0_bestDelay 46 = .ok (.invokevirtual 28, 3) := by decide +kernel
theorem dX0_bestDelay_49 : decode cX0_bestDelay 49 = .ok (.ifCond .eq 14, 3) := by decide +kernel
theorem dX0_bestDelay_52 : decode cX0_bestDelay 52 = .ok (.aload_n 0, 1) := by decide +kernel
theorem dX0_bestDelay_53 : decode cX0_bestDelay 53 = .ok (.aload_n 0, 1) := by decide +kernel
theorem dX0_bestDelay_54 : decode cX0_bestDelay 54 = .ok (.getfield 18, 3) := by decide +kernel
theorem dX0_bestDelay_57 : decode cX0_bestDelay 57 = .ok (.iload_n 3, 1) := by decide +kernel
theorem dX0_bestDelay_58 : decode cX0_bestDelay 58 = .ok (.iaload, 1) := by decide +kernel
theorem dX0_bestDelay_59 : decode cX0_bestDelay 59 = .ok (.iload_n 2, 1) := by decide +kernel
theorem dX0_bestDelay_60 : decode cX0_bestDelay 60 = .ok (.invokevirtual 38, 3) := by decide +kernel
theorem dX0_bestDelay_63 : decode cX0_bestDelay 63 = .ok (.iinc 3 1, 3) := by decide +kernel
theorem dX0_bestDelay_66 : decode cX0_bestDelay 66 = .ok (.goto (-31), 3) := by decide +kernel
theorem dX0_bestDelay_69 : decode cX0_bestDelay 69 = .ok (.aload_n 1, 1) := by decide +kernel
theorem dX0_bestDelay_70 : decode cX0_bestDelay 70 = .ok (.iconst (-1), 1) := by decide +kernel
theorem dX0_bestDelay_71 : decode cX0_bestDelay 71 = .ok (.invokevirtual 32, 3) := by decide +kernel
theorem dX0_bestDelay_74 : decode cX0_bestDelay 74 = .ok (.iinc 2 1, 3) := by decide +kernel
theorem dX0_bestDelay_77 : decode cX0_bestDelay 77 = .ok (.goto (-51), 3) := by decide +kernel
theorem dX0_bestDelay_80 : decode cX0_bestDelay 80 = .ok (.aload_n 0, 1) := by decide +kernel
theorem dX0_bestDelay_81 : decode cX0_bestDelay 81 = .ok (.invokevirtual 42, 3) := by decide +kernel
theorem dX0_bestDelay_84 : decode cX0_bestDelay 84 = .ok (.ireturn, 1) := by decide +kernel
def rmX0_bestDelay : Room := { frames := 4, cells := 0, slots := 0, locals := 89 }
def fX0_bestDelay_63 (w1 : Nat) (k26 : Int32 → xm → Option (Int32 × xm)) (k35 : Int32 → xm → Option (Int32 × xm)) (x2 : Int32) (x3 : Int32) (M : xm) : Option (Int32 × xm) := (k35 (x3 + 1) M)
def fX0_bestDelay_35 (w1 : Nat) (k26 : Int32 → xm → Option (Int32 × xm)) (x2 : Int32) : Nat → Int32 → xm → Option (Int32 × xm)
  | 0, _, _ => none
  | n + 1, x3, M => (if (M.1 43 3) ≤ x3 then (fX4_goHour w1 (-1) M).bind (fun M1 => (k26 (x2 + 1) M1)) else (fX0_isSo w1 x3 M).bind (fun v2 => (if v2 = 0 then (fX0_bestDelay_63 w1 (k26) (fun z0 z1 => fX0_bestDelay_35 w1 k26 x2 n z0 z1) x2 x3 M) else xchk x3 10 ((fX0_noteFitting (M.1 46 x3.toNatClampNeg) x2 M).bind (fun M3 => (fX0_bestDelay_63 w1 (k26) (fun z0 z1 => fX0_bestDelay_35 w1 k26 x2 n z0 z1) x2 x3 M3))))))
def fX0_bestDelay_26 (w1 : Nat) : Nat → Int32 → xm → Option (Int32 × xm)
  | 0, _, _ => none
  | n + 1, x2, M => (if (420 : Int32) < x2 then (fX0_mostFitting M).bind (fun v4 => (some (v4, M))) else (fX0_bestDelay_35 w1 (fun z0 z1 => fX0_bestDelay_26 w1 n z0 z1) x2 xfuel 0 M))
def fX0_bestDelay_2 (w1 : Nat) : Nat → Int32 → xm → Option (Int32 × xm)
  | 0, _, _ => none
  | n + 1, x2, M => (if (41 : Int32) ≤ x2 then (fX0_bestDelay_26 w1 xfuel 0 M) else xchk x2 41 (xl (up M 47 (x2 : Int32).toNatClampNeg 0) (fun M5 => (fX0_bestDelay_2 w1 n (x2 + 1) M5))))
def fX0_bestDelay (w1 : Nat) (M : xm) : Option (Int32 × xm) := (fX0_bestDelay_2 w1 xfuel 0 M)
section
variable {p : Program} {l : Launch} {e : Env} {s : State} {m : MethodId} {args : Array Value} {below : List Frame} {meth : Method} {c : Code} {D : va_G} {cs : Nat → ClassId} {S : List Nat} {ad : Nat → Nat} {w1 : Nat}
theorem bX0_bestDelay_63 (Z : CX p s m args meth c cX0_bestDelay 4 RX0 (some .int) D cs (xA S ad) S ad) (hS : xall S) (hw1 : xWalk S w1) {k26 : Int32 → xm → Option (Int32 × xm)} {k35 : Int32 → xm → Option (Int32 × xm)} (x2 : Int32) (x3 : Int32) (M : xm) (hk26 : ∀ (x2 : Int32) (M : xm), XJ p l e rmX0_bestDelay s m args below meth c D cs (xA S ad) S ad 4 (XRb below args s D cs S ad) 26 [(0, .ref (ad 43)), (1, .ref (ad w1)), (2, .int x2)] [] M (k26 x2 M)) (hk35 : ∀ (x3 : Int32) (M : xm), XJ p l e rmX0_bestDelay s m args below meth c D cs (xA S ad) S ad 4 (XRb below args s D cs S ad) 35 [(0, .ref (ad 43)), (1, .ref (ad w1)), (2, .int x2), (3, .int x3)] [] M (k35 x3 M)) : XJ p l e rmX0_bestDelay s m args below meth c D cs (xA S ad) S ad 4 (XRb below args s D cs S ad) 63 [(0, .ref (ad 43)), (1, .ref (ad w1)), (2, .int x2), (3, .int x3)] [] M (fX0_bestDelay_63 w1 k26 k35 x2 x3 M) := by
  unfold fX0_bestDelay_63
  refine xj_iinc Z 3 (x3 + 1) (lv' := [(3, .int (x3 + 1)), (0, .ref (ad 43)), (1, .ref (ad w1)), (2, .int x2)]) dX0_bestDelay_63 rfl rfl (by decide) rfl ?_
  refine xj_goto Z 35 dX0_bestDelay_66 (by decide) ?_
  refine xj_sub [1, 2, 3, 0] (lv' := [(0, .ref (ad 43)), (1, .ref (ad w1)), (2, .int x2), (3, .int (x3 + 1))]) rfl ?_
  exact hk35 (x3 + 1) M
theorem bX0_bestDelay_35 (Z : CX p s m args meth c cX0_bestDelay 4 RX0 (some .int) D cs (xA S ad) S ad) (hS : xall S) (hw1 : xWalk S w1) {k26 : Int32 → xm → Option (Int32 × xm)} (x2 : Int32) (hk26 : ∀ (x2 : Int32) (M : xm), XJ p l e rmX0_bestDelay s m args below meth c D cs (xA S ad) S ad 4 (XRb below args s D cs S ad) 26 [(0, .ref (ad 43)), (1, .ref (ad w1)), (2, .int x2)] [] M (k26 x2 M)) : ∀ (n : Nat) (x3 : Int32) (M : xm), XJ p l e rmX0_bestDelay s m args below meth c D cs (xA S ad) S ad 4 (XRb below args s D cs S ad) 35 [(0, .ref (ad 43)), (1, .ref (ad w1)), (2, .int x2), (3, .int x3)] [] M (fX0_bestDelay_35 w1 k26 x2 n x3 M) := by
  intro n
  induction n with
  | zero => intros; exact xj_none
  | succ n ih =>
    intro x3 M
    rw [fX0_bestDelay_35]
    refine xj_iload_n Z 3 dX0_bestDelay_35 rfl rfl ?_
    refine xj_aload_n Z 0 dX0_bestDelay_36 rfl rfl ?_
    refine xg_X0_24 Z (hS 43 (by decide)) dX0_bestDelay_37 ?_
    refine xj_icmp_ge Z 69 dX0_bestDelay_40 (by decide) (fun _ => ?_) (fun _ => ?_)
    · refine xj_aload_n Z 1 dX0_bestDelay_69 rfl rfl ?_
      refine xj_iconst Z (-1) dX0_bestDelay_70 (by decide) ?_
      refine xj_callVm Z (As := [.int (-1)]) (kX4_goHour l D cs S ad Z.2.2.2.2.2.1.dist hw1 (-1) M) gw_X0_32 (hw1.mem 0 (by decide)) hw1.lay rfl (n := 1) (by decide +kernel) rfl ⟨rfl, rfl⟩ (by decide) rfl (Nat.le_of_ble_eq_true rfl) dX0_bestDelay_71 (fun M1 => ?_)
      refine xj_iinc Z 2 (x2 + 1) (lv' := [(2, .int (x2 + 1)), (0, .ref (ad 43)), (1, .ref (ad w1)), (3, .int x3)]) dX0_bestDelay_74 rfl rfl (by decide) rfl ?_
      refine xj_goto Z 26 dX0_bestDelay_77 (by decide) ?_
      refine xj_sub [1, 2, 0] (lv' := [(0, .ref (ad 43)), (1, .ref (ad w1)), (2, .int (x2 + 1))]) rfl ?_
      exact hk26 (x2 + 1) M1
    · refine xj_aload_n Z 0 dX0_bestDelay_43 rfl rfl ?_
      refine xj_iload_n Z 3 dX0_bestDelay_44 rfl rfl ?_
      refine xj_aload_n Z 1 dX0_bestDelay_45 rfl rfl ?_
      refine xj_callVr Z (As := [.int x3, .ref (ad w1)]) (kX0_isSo l D cs S ad Z.2.2.2.2.2.1.dist hS hw1 x3 M) gw_X0_28 (hS 43 (by decide)) rfl rfl (n := 2) (by decide +kernel) rfl ⟨rfl, rfl⟩ (by decide) rfl (Nat.le_of_ble_eq_true rfl) dX0_bestDelay_46 (fun v2 => ?_)
      refine xj_if_eq Z 63 dX0_bestDelay_49 (by decide) (fun _ => ?_) (fun _ => ?_)
      · exact bX0_bestDelay_63 Z hS hw1 x2 x3 M hk26 ih
      · refine xj_aload_n Z 0 dX0_bestDelay_52 rfl rfl ?_
        refine xj_aload_n Z 0 dX0_bestDelay_53 rfl rfl ?_
        refine xg_X0_18 Z (hS 43 (by decide)) dX0_bestDelay_54 ?_
        refine xj_iload_n Z 3 dX0_bestDelay_57 rfl rfl ?_
        refine xj_iald Z (hS 46 (by decide)) rfl dX0_bestDelay_58 (fun _ => ?_)
        refine xj_iload_n Z 2 dX0_bestDelay_59 rfl rfl ?_
        refine xj_callVm Z (As := [.int (M.1 46 x3.toNatClampNeg), .int x2]) (kX0_noteFitting l D cs S ad Z.2.2.2.2.2.1.dist hS (M.1 46 x3.toNatClampNeg) x2 M) gw_X0_38 (hS 43 (by decide)) rfl rfl (n := 2) (by decide +kernel) rfl ⟨rfl, rfl⟩ (by decide) rfl (Nat.le_of_ble_eq_true rfl) dX0_bestDelay_60 (fun M3 => ?_)
        exact bX0_bestDelay_63 Z hS hw1 x2 x3 M3 hk26 ih
theorem bX0_bestDelay_26 (Z : CX p s m args meth c cX0_bestDelay 4 RX0 (some .int) D cs (xA S ad) S ad) (hS : xall S) (hw1 : xWalk S w1) : ∀ (n : Nat) (x2 : Int32) (M : xm), XJ p l e rmX0_bestDelay s m args below meth c D cs (xA S ad) S ad 4 (XRb below args s D cs S ad) 26 [(0, .ref (ad 43)), (1, .ref (ad w1)), (2, .int x2)] [] M (fX0_bestDelay_26 w1 n x2 M) := by
  intro n
  induction n with
  | zero => intros; exact xj_none
  | succ n ih =>
    intro x2 M
    rw [fX0_bestDelay_26]
    refine xj_iload_n Z 2 dX0_bestDelay_26 rfl rfl ?_
    refine xj_sipush Z 420 dX0_bestDelay_27 (by decide) ?_
    refine xj_icmp_gt Z 80 dX0_bestDelay_30 (by decide) (fun _ => ?_) (fun _ => ?_)
    · refine xj_aload_n Z 0 dX0_bestDelay_80 rfl rfl ?_
      refine xj_callVr Z (As := []) (kX0_mostFitting l D cs S ad Z.2.2.2.2.2.1.dist hS M) gw_X0_42 (hS 43 (by decide)) rfl rfl (n := 0) (by decide +kernel) rfl ⟨rfl, rfl⟩ (by decide) rfl (Nat.le_of_ble_eq_true rfl) dX0_bestDelay_81 (fun v4 => ?_)
      exact xj_ret_b Z dX0_bestDelay_84
    · refine xj_iconst Z 0 dX0_bestDelay_33 (by decide) ?_
      refine xj_istore_n Z (lv' := [(3, .int 0), (0, .ref (ad 43)), (1, .ref (ad w1)), (2, .int x2)]) dX0_bestDelay_34 rfl (by decide) rfl ?_
      refine xj_sub [1, 2, 3, 0] (lv' := [(0, .ref (ad 43)), (1, .ref (ad w1)), (2, .int x2), (3, .int 0)]) rfl ?_
      exact bX0_bestDelay_35 Z hS hw1 x2 ih xfuel 0 M
theorem bX0_bestDelay_2 (Z : CX p s m args meth c cX0_bestDelay 4 RX0 (some .int) D cs (xA S ad) S ad) (hS : xall S) (hw1 : xWalk S w1) : ∀ (n : Nat) (x2 : Int32) (M : xm), XJ p l e rmX0_bestDelay s m args below meth c D cs (xA S ad) S ad 4 (XRb below args s D cs S ad) 2 [(0, .ref (ad 43)), (1, .ref (ad w1)), (2, .int x2)] [] M (fX0_bestDelay_2 w1 n x2 M) := by
  intro n
  induction n with
  | zero => intros; exact xj_none
  | succ n ih =>
    intro x2 M
    rw [fX0_bestDelay_2]
    refine xj_iload_n Z 2 dX0_bestDelay_2 rfl rfl ?_
    refine xj_aload_n Z 0 dX0_bestDelay_3 rfl rfl ?_
    refine xg_X0_21 Z (hS 43 (by decide)) dX0_bestDelay_4 ?_
    refine xj_alen Z (hS 47 (by decide)) rfl (v := 41) (by decide) dX0_bestDelay_7 ?_
    refine xj_icmp_ge Z 24 dX0_bestDelay_8 (by decide) (fun _ => ?_) (fun _ => ?_)
    · refine xj_iconst Z 0 dX0_bestDelay_24 (by decide) ?_
      refine xj_istore_n Z (lv' := [(2, .int 0), (0, .ref (ad 43)), (1, .ref (ad w1))]) dX0_bestDelay_25 rfl (by decide) rfl ?_
      refine xj_sub [1, 2, 0] (lv' := [(0, .ref (ad 43)), (1, .ref (ad w1)), (2, .int 0)]) rfl ?_
      exact bX0_bestDelay_26 Z hS hw1 xfuel 0 M
    · refine xj_aload_n Z 0 dX0_bestDelay_11 rfl rfl ?_
      refine xg_X0_21 Z (hS 43 (by decide)) dX0_bestDelay_12 ?_
      refine xj_iload_n Z 2 dX0_bestDelay_15 rfl rfl ?_
      refine xj_iconst Z 0 dX0_bestDelay_16 (by decide) ?_
      refine xj_iast Z (hS 47 (by decide)) rfl dX0_bestDelay_17 (fun M5 _ => ?_)
      refine xj_iinc Z 2 (x2 + 1) (lv' := [(2, .int (x2 + 1)), (0, .ref (ad 43)), (1, .ref (ad w1))]) dX0_bestDelay_18 rfl rfl (by decide) rfl ?_
      refine xj_goto Z 2 dX0_bestDelay_21 (by decide) ?_
      refine xj_sub [1, 2, 0] (lv' := [(0, .ref (ad 43)), (1, .ref (ad w1)), (2, .int (x2 + 1))]) rfl ?_
      exact ih (x2 + 1) M5
end
theorem kX0_bestDelay (l : Launch) (D : va_G) (cs : Nat → ClassId) (S : List Nat) (ad : Nat → Nat) (hd : xdist S ad) {w1 : Nat} (hS : xall S) (hw1 : xWalk S w1) (M : xm) : ∀ r, fX0_bestDelay w1 M = some r → Met l yX0_bestDelay [Cond.code yX0_bestDelay cX0_bestDelay 4 (some .int)] rmX0_bestDelay (XPc D cs S ad [.ref (ad 43), .ref (ad w1)] M) (XQi D cs S ad r.1 r.2) 0 0 (xA S ad) := by
  refine xm_b (own := RX0) (lv := [(0, .ref (ad 43)), (1, .ref (ad w1))]) (by decide +kernel) rfl rfl (Nat.le_of_ble_eq_true rfl) hd (fun p e s m args below meth c Z => ?_)
  unfold fX0_bestDelay
  refine xj_iconst Z 0 dX0_bestDelay_0 (by decide) ?_
  refine xj_istore_n Z (lv' := [(2, .int 0), (0, .ref (ad 43)), (1, .ref (ad w1))]) dX0_bestDelay_1 rfl (by decide) rfl ?_
  refine xj_sub [1, 2, 0] (lv' := [(0, .ref (ad 43)), (1, .ref (ad w1)), (2, .int 0)]) rfl ?_
  exact bX0_bestDelay_2 Z hS hw1 xfuel 0 M
/-! WalkingLaw$Rows.notePassing(LWalkingLaw$Walk;I)V -/
theorem dX2_notePassing_0 : decode cX2_notePassing 0 = .ok (.aload_n 1, 1) := by decide +kernel
theorem dX2_notePassing_1 : decode cX2_notePassing 1 = .ok (.iconst 0, 1) := by decide +kernel
theorem dX2_notePassing_2 : decode cX2_notePassing 2 = .ok (.invokevirtual 64, 3) := by decide +kernel
theorem dX2_notePassing_5 : decode cX2_notePassing 5 = .ok (.istore_n 3, 1) := by decide +kernel
theorem dX2_notePassing_6 : decode cX2_notePassing 6 = .ok (.iconst 0, 1) := by decide +kernel
theorem dX2_notePassing_7 : decode cX2_notePassing 7 = .ok (.istore 4, 2) := by decide +kernel
theorem dX2_notePassing_9 : decode cX2_notePassing 9 = .ok (.iload 4, 2) := by decide +kernel
theorem dX2_notePassing_11 : decode cX2_notePassing 11 = .ok (.aload_n 1, 1) := by decide +kernel
theorem dX2_notePassing_12 : decode cX2_notePassing 12 = .ok (.getfield 27, 3) := by decide +kernel
theorem dX2_notePassing_15 : decode cX2_notePassing 15 = .ok (.getfield 33, 3) := by decide +kernel
theorem dX2_notePassing_18 : decode cX2_notePassing 18 = .ok (.if_icmp .ge 35, 3) := by decide +kernel
theorem dX2_notePassing_21 : decode cX2_notePassing 21 = .ok (.aload_n 1, 1) := by decide +kernel
theorem dX2_notePassing_22 : decode cX2_notePassing 22 = .ok (.iload_n 3, 1) := by decide +kernel
theorem dX2_notePassing_23 : decode cX2_notePassing 23 = .ok (.iload 4, 2) := by decide +kernel
theorem dX2_notePassing_25 : decode cX2_notePassing 25 = .ok (.iconst 0, 1) := by decide +kernel
theorem dX2_notePassing_26 : decode cX2_notePassing 26 = .ok (.invokevirtual 68, 3) := by decide +kernel
theorem dX2_notePassing_29 : decode cX2_notePassing 29 = .ok (.ifCond .eq 18, 3) := by decide +kernel
theorem dX2_notePassing_32 : decode cX2_notePassing 32 = .ok (.aload_n 0, 1) := by decide +kernel
theorem dX2_notePassing_33 : decode cX2_notePassing 33 = .ok (.getfield 11, 3) := by decide +kernel
theorem dX2_notePassing_36 : decode cX2_notePassing 36 = .ok (.iload 4, 2) := by decide +kernel
theorem dX2_notePassing_38 : decode cX2_notePassing 38 = .ok (.aaload, 1) := by decide +kernel
theorem dX2_notePassing_39 : decode cX2_notePassing 39 = .ok (.iload_n 2, 1) := by decide +kernel
theorem dX2_notePassing_40 : decode cX2_notePassing 40 = .ok (.dup2, 1) := by decide +kernel
theorem dX2_notePassing_41 : decode cX2_notePassing 41 = .ok (.iaload, 1) := by decide +kernel
theorem dX2_notePassing_42 : decode cX2_notePassing 42 = .ok (.iconst 1, 1) := by decide +kernel
theorem dX2_notePassing_43 : decode cX2_notePassing 43 = .ok (.iload_n 3, 1) := by decide +kernel
theorem dX2_notePassing_44 : decode cX2_notePassing 44 = .ok (.ishl, 1) := by decide +kernel
theorem dX2_notePassing_45 : decode cX2_notePassing 45 = .ok (.ior, 1) := by decide +kernel
theorem dX2_notePassing_46 : decode cX2_notePassing 46 = .ok (.iastore, 1) := by decide +kernel
theorem dX2_notePassing_47 : decode cX2_notePassing 47 = .ok (.iinc 4 1, 3) := by decide +kernel
theorem dX2_notePassing_50 : decode cX2_notePassing 50 = .ok (.goto (-41), 3) := by decide +kernel
theorem dX2_notePassing_53 : decode cX2_notePassing 53 = .ok (.return_, 1) := by decide +kernel
def rmX2_notePassing : Room := { frames := 3, cells := 0, slots := 0, locals := 70 }
def fX2_notePassing_47 (w1 : Nat) (k9 : Int32 → xm → Option (xm)) (x2 : Int32) (x3 : Int32) (x4 : Int32) (M : xm) : Option (xm) := (k9 (x4 + 1) M)
def fX2_notePassing_9 (w1 : Nat) (x2 : Int32) (x3 : Int32) : Nat → Int32 → xm → Option (xm)
  | 0, _, _ => none
  | n + 1, x4, M => (if (M.1 (rd (M.2 w1)) 12) ≤ x4 then (some M) else (fX4_passesIn w1 x3 x4 0 M).bind (fun v1 => (if v1 = 0 then (fX2_notePassing_47 w1 (fun z0 z1 => fX2_notePassing_9 w1 x2 x3 n z0 z1) x2 x3 x4 M) else xchk x4 4 (xchk x2 4 (xchk x2 4 (xl (up M (50 + (x4).toNatClampNeg) (x2 : Int32).toNatClampNeg ((M.1 (50 + (x4).toNatClampNeg) x2.toNatClampNeg) ||| (1 <<< (x3 &&& 31)))) (fun M3 => (fX2_notePassing_47 w1 (fun z0 z1 => fX2_notePassing_9 w1 x2 x3 n z0 z1) x2 x3 x4 M3))))))))
def fX2_notePassing (w1 : Nat) (x2 : Int32) (M : xm) : Option (xm) := (fX4_parishOf w1 0 M).bind (fun v4 => (fX2_notePassing_9 w1 x2 v4 xfuel 0 M))
section
variable {p : Program} {l : Launch} {e : Env} {s : State} {m : MethodId} {args : Array Value} {below : List Frame} {meth : Method} {c : Code} {D : va_G} {cs : Nat → ClassId} {S : List Nat} {ad : Nat → Nat} {w1 : Nat}
theorem bX2_notePassing_47 (Z : CX p s m args meth c cX2_notePassing 5 RX2 none D cs (xA S ad) S ad) (hS : xall S) (hw1 : xWalk S w1) {k9 : Int32 → xm → Option (xm)} (x2 : Int32) (x3 : Int32) (x4 : Int32) (M : xm) (hk9 : ∀ (x4 : Int32) (M : xm), XJ p l e rmX2_notePassing s m args below meth c D cs (xA S ad) S ad 5 (XRm below args s D cs S ad) 9 [(0, .ref (ad 48)), (1, .ref (ad w1)), (2, .int x2), (3, .int x3), (4, .int x4)] [] M (k9 x4 M)) : XJ p l e rmX2_notePassing s m args below meth c D cs (xA S ad) S ad 5 (XRm below args s D cs S ad) 47 [(0, .ref (ad 48)), (1, .ref (ad w1)), (2, .int x2), (3, .int x3), (4, .int x4)] [] M (fX2_notePassing_47 w1 k9 x2 x3 x4 M) := by
  unfold fX2_notePassing_47
  refine xj_iinc Z 4 (x4 + 1) (lv' := [(4, .int (x4 + 1)), (0, .ref (ad 48)), (1, .ref (ad w1)), (2, .int x2), (3, .int x3)]) dX2_notePassing_47 rfl rfl (by decide) rfl ?_
  refine xj_goto Z 9 dX2_notePassing_50 (by decide) ?_
  refine xj_sub [1, 2, 3, 4, 0] (lv' := [(0, .ref (ad 48)), (1, .ref (ad w1)), (2, .int x2), (3, .int x3), (4, .int (x4 + 1))]) rfl ?_
  exact hk9 (x4 + 1) M
theorem bX2_notePassing_9 (Z : CX p s m args meth c cX2_notePassing 5 RX2 none D cs (xA S ad) S ad) (hS : xall S) (hw1 : xWalk S w1) (x2 : Int32) (x3 : Int32) : ∀ (n : Nat) (x4 : Int32) (M : xm), XJ p l e rmX2_notePassing s m args below meth c D cs (xA S ad) S ad 5 (XRm below args s D cs S ad) 9 [(0, .ref (ad 48)), (1, .ref (ad w1)), (2, .int x2), (3, .int x3), (4, .int x4)] [] M (fX2_notePassing_9 w1 x2 x3 n x4 M) := by
  intro n
  induction n with
  | zero => intros; exact xj_none
  | succ n ih =>
    intro x4 M
    rw [fX2_notePassing_9]
    refine xj_iload Z 4 dX2_notePassing_9 rfl ?_
    refine xj_aload_n Z 1 dX2_notePassing_11 rfl rfl ?_
    refine xg_X2_27 Z (hw1.mem 0 (by decide)) hw1.lay dX2_notePassing_12 ?_
    refine xg_X2_33 Z ((hw1.road (M.2 w1)).mem 0 (by decide)) (hw1.road (M.2 w1)).lay dX2_notePassing_15 ?_
    refine xj_icmp_ge Z 53 dX2_notePassing_18 (by decide) (fun _ => ?_) (fun _ => ?_)
    · exact xj_vret Z dX2_notePassing_53
    · refine xj_aload_n Z 1 dX2_notePassing_21 rfl rfl ?_
      refine xj_iload_n Z 3 dX2_notePassing_22 rfl rfl ?_
      refine xj_iload Z 4 dX2_notePassing_23 rfl ?_
      refine xj_iconst Z 0 dX2_notePassing_25 (by decide) ?_
      refine xj_callVr Z (As := [.int x3, .int x4, .int 0]) (kX4_passesIn l D cs S ad Z.2.2.2.2.2.1.dist hw1 x3 x4 0 M) gw_X2_68 (hw1.mem 0 (by decide)) hw1.lay rfl (n := 3) (by decide +kernel) rfl ⟨rfl, rfl⟩ (by decide) rfl (Nat.le_of_ble_eq_true rfl) dX2_notePassing_26 (fun v1 => ?_)
      refine xj_if_eq Z 47 dX2_notePassing_29 (by decide) (fun _ => ?_) (fun _ => ?_)
      · exact bX2_notePassing_47 Z hS hw1 x2 x3 x4 M ih
      · refine xj_aload_n Z 0 dX2_notePassing_32 rfl rfl ?_
        refine xg_X2_11 Z (hS 48 (by decide)) dX2_notePassing_33 ?_
        refine xj_iload Z 4 dX2_notePassing_36 rfl ?_
        refine xj_aaldP Z hS dX2_notePassing_38 (fun h2 => ?_)
        refine xj_iload_n Z 2 dX2_notePassing_39 rfl rfl ?_
        refine xj_dup2 Z dX2_notePassing_40 rfl rfl ?_
        refine xj_iald Z (xpass_m hS h2) (xpass_l h2) dX2_notePassing_41 (fun _ => ?_)
        refine xj_iconst Z 1 dX2_notePassing_42 (by decide) ?_
        refine xj_iload_n Z 3 dX2_notePassing_43 rfl rfl ?_
        refine xj_ishl Z dX2_notePassing_44 ?_
        refine xj_ior Z dX2_notePassing_45 ?_
        refine xj_iast Z (xpass_m hS h2) (xpass_l h2) dX2_notePassing_46 (fun M3 _ => ?_)
        exact bX2_notePassing_47 Z hS hw1 x2 x3 x4 M3 ih
end
theorem kX2_notePassing (l : Launch) (D : va_G) (cs : Nat → ClassId) (S : List Nat) (ad : Nat → Nat) (hd : xdist S ad) {w1 : Nat} (hS : xall S) (hw1 : xWalk S w1) (x2 : Int32) (M : xm) : ∀ r, fX2_notePassing w1 x2 M = some r → Met l yX2_notePassing [Cond.code yX2_notePassing cX2_notePassing 5 none] rmX2_notePassing (XPc D cs S ad [.ref (ad 48), .ref (ad w1), .int x2] M) (XQv D cs S ad r) 0 0 (xA S ad) := by
  refine xm_m (own := RX2) (lv := [(0, .ref (ad 48)), (1, .ref (ad w1)), (2, .int x2)]) (by decide +kernel) rfl rfl (Nat.le_of_ble_eq_true rfl) hd (fun p e s m args below meth c Z => ?_)
  unfold fX2_notePassing
  refine xj_aload_n Z 1 dX2_notePassing_0 rfl rfl ?_
  refine xj_iconst Z 0 dX2_notePassing_1 (by decide) ?_
  refine xj_callVr Z (As := [.int 0]) (kX4_parishOf l D cs S ad Z.2.2.2.2.2.1.dist hw1 0 M) gw_X2_64 (hw1.mem 0 (by decide)) hw1.lay rfl (n := 1) (by decide +kernel) rfl ⟨rfl, rfl⟩ (by decide) rfl (Nat.le_of_ble_eq_true rfl) dX2_notePassing_2 (fun v4 => ?_)
  refine xj_istore_n Z (lv' := [(3, .int v4), (0, .ref (ad 48)), (1, .ref (ad w1)), (2, .int x2)]) dX2_notePassing_5 rfl (by decide) rfl ?_
  refine xj_iconst Z 0 dX2_notePassing_6 (by decide) ?_
  refine xj_istore Z (lv' := [(4, .int 0), (3, .int v4), (0, .ref (ad 48)), (1, .ref (ad w1)), (2, .int x2)]) dX2_notePassing_7 (by decide) rfl ?_
  refine xj_sub [2, 3, 4, 1, 0] (lv' := [(0, .ref (ad 48)), (1, .ref (ad w1)), (2, .int x2), (3, .int v4), (4, .int 0)]) rfl ?_
  exact bX2_notePassing_9 Z hS hw1 x2 v4 xfuel 0 M
/-! WalkingLaw$Rows.findPassing(LWalkingLaw$Walk;)V -/
theorem dX2_findPassing_0 : decode cX2_findPassing 0 = .ok (.aload_n 1, 1) := by decide +kernel
theorem dX2_findPassing_1 : decode cX2_findPassing 1 = .ok (.getfield 27, 3) := by decide +kernel
theorem dX2_findPassing_4 : decode cX2_findPassing 4 = .ok (.getfield 33, 3) := by decide +kernel
theorem dX2_findPassing_7 : decode cX2_findPassing 7 = .ok (.istore_n 2, 1) := by decide +kernel
theorem dX2_findPassing_8 : decode cX2_findPassing 8 = .ok (.iconst 0, 1) := by decide +kernel
theorem dX2_findPassing_9 : decode cX2_findPassing 9 = .ok (.istore_n 3, 1) := by decide +kernel
theorem dX2_findPassing_10 : decode cX2_findPassing 10 = .ok (.iload_n 3, 1) := by decide +kernel
theorem dX2_findPassing_11 : decode cX2_findPassing 11 = .ok (.iload_n 2, 1) := by decide +kernel
theorem dX2_findPassing_12 : decode cX2_findPassing 12 = .ok (.if_icmp .ge 39, 3) := by decide +kernel
theorem dX2_findPassing_15 : decode cX2_findPassing 15 = .ok (.iconst 0, 1) := by decide +kernel
theorem dX2_findPassing_16 : decode cX2_findPassing 16 = .ok (.istore 4, 2) := by decide +kernel
theorem dX2_findPassing_18 : decode cX2_findPassing 18 = .ok (.iload 4, 2) := by decide +kernel
theorem dX2_findPassing_20 : decode cX2_findPassing 20 = .ok (.iload_n 2, 1) := by decide +kernel
theorem dX2_findPassing_21 : decode cX2_findPassing 21 = .ok (.if_icmp .ge 24, 3) := by decide +kernel
theorem dX2_findPassing_24 : decode cX2_findPassing 24 = .ok (.aload_n 0, 1) := by decide +kernel
theorem dX2_findPassing_25 : decode cX2_findPassing 25 = .ok (.getfield 11, 3) := by decide +kernel
theorem dX2_findPassing_28 : decode cX2_findPassing 28 = .ok (.iload_n 3, 1) := by decide +kernel
theorem dX2_findPassing_29 : decode cX2_findPassing 29 = .ok (.aaload, 1) := by decide +kernel
theorem dX2_findPassing_30 : decode cX2_findPassing 30 = .ok (.iload 4, 2) := by decide +kernel
theorem dX2_findPassing_32 : decode cX2_findPassing 32 = .ok (.aload_n 1, 1) := by decide +kernel
theorem dX2_findPassing_33 : decode cX2_findPassing 33 = .ok (.getfield 53, 3) := by decide +kernel
theorem dX2_findPassing_36 : decode cX2_findPassing 36 = .ok (.iload_n 3, 1) := by decide +kernel
theorem dX2_findPassing_37 : decode cX2_findPassing 37 = .ok (.iaload, 1) := by decide +kernel
theorem dX2_findPassing_38 : decode cX2_findPassing 38 = .ok (.iastore, 1) := by decide +kernel
theorem dX2_findPassing_39 : decode cX2_findPassing 39 = .ok (.iinc 4 1, 3) := by decide +kernel
theorem dX2_findPassing_42 : decode cX2_findPassing 42 = .ok (.goto (-24), 3) := by decide +kernel
theorem dX2_findPassing_45 : decode cX2_findPassing 45 = .ok (.iinc 3 1, 3) := by decide +kernel
theorem dX2_findPassing_48 : decode cX2_findPassing 48 = .ok (.goto (-38), 3) := by decide +kernel
theorem dX2_findPassing_51 : decode cX2_findPassing 51 = .ok (.iconst 0, 1) := by decide +kernel
theorem dX2_findPassing_52 : decode cX2_findPassing 52 = .ok (.istore_n 3, 1) := by decide +kernel
theorem dX2_findPassing_53 : decode cX2_findPassing 53 = .ok (.iconst 0, 1) := by decide +kernel
theorem dX2_findPassing_54 : decode cX2_findPassing 54 = .ok (.istore 4, 2) := by decide +kernel
theorem dX2_findPassing_56 : decode cX2_findPassing 56 = .ok (.iload 4, 2) := by decide +kernel
theorem dX2_findPassing_58 : decode cX2_findPassing 58 = .ok (.sipush 200, 3) := by decide +kernel
theorem dX2_findPassing_61 : decode cX2_findPassing 61 = .ok (.if_icmp .gt 35, 3) := by decide +kernel
theorem dX2_findPassing_64 : decode cX2_findPassing 64 = .ok (.aload_n 0, 1) := by decide +kernel
theorem dX2_findPassing_65 : decode cX2_findPassing 65 = .ok (.aload_n 1, 1) := by decide +kernel
theorem dX2_findPassing_66 : decode cX2_findPassing 66 = .ok (.iload_n 3, 1) := by decide +kernel
theorem dX2_findPassing_67 : decode cX2_findPassing 67 = .ok (.invokevirtual 56, 3) := by decide +kernel
theorem dX2_findPassing_70 : decode cX2_findPassing 70 = .ok (.aload_n 1, 1) := by decide +kernel
theorem dX2_findPassing_71 : decode cX2_findPassing 71 = .ok (.iconst (-1), 1) := by decide +kernel
theorem dX2_findPassing_72 : decode cX2_findPassing 72 = .ok (.invokevirtual 60, 3) := by decide +kernel
theorem dX2_findPassing_75 : decode cX2_findPassing 75 = .ok (.iload_n 3, 1) := by decide +kernel
theorem dX2_findPassing_76 : decode cX2_findPassing 76 = .ok (.iconst 1, 1) := by decide +kernel
theorem dX2_findPassing_77 : decode cX2_findPassing 77 = .ok (.iadd, 1) := by decide +kernel
theorem dX2_findPassing_78 : decode cX2_findPassing 78 = .ok (.iload_n 2, 1) := by decide +kernel
theorem dX2_findPassing_79 : decode cX2_findPassing 79 = .ok (.if_icmp .ge 9, 3) := by decide +kernel
theorem dX2_findPassing_82 : decode cX2_findPassing 82 = .ok (.iload_n 3, 1) := by decide +kernel
theorem dX2_findPassing_83 : decode cX2_findPassing 83 = .ok (.iconst 1, 1) := by decide +kernel
theorem dX2_findPassing_84 : decode cX2_findPassing 84 = .ok (.iadd, 1) := by decide +kernel
theorem dX2_findPassing_85 : decode cX2_findPassing 85 = .ok (.goto 4, 3) := by decide +kernel
theorem dX2_findPassing_88 : decode cX2_findPassing 88 = .ok (.iconst 0, 1) := by decide +kernel
theorem dX2_findPassing_89 : decode cX2_findPassing 89 = .ok (.istore_n 3, 1) := by decide +kernel
theorem dX2_findPassing_90 : decode cX2_findPassing 90 = .ok (.iinc 4 1, 3) := by decide +kernel
theorem dX2_findPassing_93 : decode cX2_findPassing 93 = .ok (.goto (-37), 3) := by decide +kernel
theorem dX2_findPassing_96 : decode cX2_findPassing 96 = .ok (.return_, 1) := by decide +kernel
def rmX2_findPassing : Room := { frames := 4, cells := 0, slots := 0, locals := 94 }
def fX2_findPassing_18 (w1 : Nat) (k10 : Int32 → xm → Option (xm)) (x2 : Int32) (x3 : Int32) : Nat → Int32 → xm → Option (xm)
  | 0, _, _ => none
  | n + 1, x4, M => (if x2 ≤ x4 then (k10 (x3 + 1) M) else xchk x3 4 (xchk x3 4 (xchk x4 4 (xl (up M (50 + (x3).toNatClampNeg) (x4 : Int32).toNatClampNeg (M.1 (w1 + 3) x3.toNatClampNeg)) (fun M2 => (fX2_findPassing_18 w1 k10 x2 x3 n (x4 + 1) M2))))))
def fX2_findPassing_89 (w1 : Nat) (k56 : Int32 → Int32 → xm → Option (xm)) (x2 : Int32) (x4 : Int32) (t0 : Int32) (M : xm) : Option (xm) := (k56 t0 (x4 + 1) M)
def fX2_findPassing_56 (w1 : Nat) (x2 : Int32) : Nat → Int32 → Int32 → xm → Option (xm)
  | 0, _, _, _ => none
  | n + 1, x3, x4, M => (if (200 : Int32) < x4 then (some M) else (fX2_notePassing w1 x3 M).bind (fun M3 => (fX4_goHour w1 (-1) M3).bind (fun M4 => (if x2 ≤ (x3 + 1) then (fX2_findPassing_89 w1 (fun z0 z1 z2 => fX2_findPassing_56 w1 x2 n z0 z1 z2) x2 x4 0 M4) else (fX2_findPassing_89 w1 (fun z0 z1 z2 => fX2_findPassing_56 w1 x2 n z0 z1 z2) x2 x4 (x3 + 1) M4)))))
def fX2_findPassing_10 (w1 : Nat) (x2 : Int32) : Nat → Int32 → xm → Option (xm)
  | 0, _, _ => none
  | n + 1, x3, M => (if x2 ≤ x3 then (fX2_findPassing_56 w1 x2 xfuel 0 0 M) else (fX2_findPassing_18 w1 (fun z0 z1 => fX2_findPassing_10 w1 x2 n z0 z1) x2 x3 xfuel 0 M))
def fX2_findPassing (w1 : Nat) (M : xm) : Option (xm) := xl (M.1 (rd (M.2 w1)) 12) (fun v5 => (fX2_findPassing_10 w1 v5 xfuel 0 M))
section
variable {p : Program} {l : Launch} {e : Env} {s : State} {m : MethodId} {args : Array Value} {below : List Frame} {meth : Method} {c : Code} {D : va_G} {cs : Nat → ClassId} {S : List Nat} {ad : Nat → Nat} {w1 : Nat}
theorem bX2_findPassing_18 (Z : CX p s m args meth c cX2_findPassing 5 RX2 none D cs (xA S ad) S ad) (hS : xall S) (hw1 : xWalk S w1) {k10 : Int32 → xm → Option (xm)} (x2 : Int32) (x3 : Int32) (hk10 : ∀ (x3 : Int32) (M : xm), XJ p l e rmX2_findPassing s m args below meth c D cs (xA S ad) S ad 5 (XRm below args s D cs S ad) 10 [(0, .ref (ad 48)), (1, .ref (ad w1)), (2, .int x2), (3, .int x3)] [] M (k10 x3 M)) : ∀ (n : Nat) (x4 : Int32) (M : xm), XJ p l e rmX2_findPassing s m args below meth c D cs (xA S ad) S ad 5 (XRm below args s D cs S ad) 18 [(0, .ref (ad 48)), (1, .ref (ad w1)), (2, .int x2), (3, .int x3), (4, .int x4)] [] M (fX2_findPassing_18 w1 k10 x2 x3 n x4 M) := by
  intro n
  induction n with
  | zero => intros; exact xj_none
  | succ n ih =>
    intro x4 M
    rw [fX2_findPassing_18]
    refine xj_iload Z 4 dX2_findPassing_18 rfl ?_
    refine xj_iload_n Z 2 dX2_findPassing_20 rfl rfl ?_
    refine xj_icmp_ge Z 45 dX2_findPassing_21 (by decide) (fun _ => ?_) (fun _ => ?_)
    · refine xj_iinc Z 3 (x3 + 1) (lv' := [(3, .int (x3 + 1)), (0, .ref (ad 48)), (1, .ref (ad w1)), (2, .int x2), (4, .int x4)]) dX2_findPassing_45 rfl rfl (by decide) rfl ?_
      refine xj_goto Z 10 dX2_findPassing_48 (by decide) ?_
      refine xj_sub [1, 2, 3, 0] (lv' := [(0, .ref (ad 48)), (1, .ref (ad w1)), (2, .int x2), (3, .int (x3 + 1))]) rfl ?_
      exact hk10 (x3 + 1) M
    · refine xj_aload_n Z 0 dX2_findPassing_24 rfl rfl ?_
      refine xg_X2_11 Z (hS 48 (by decide)) dX2_findPassing_25 ?_
      refine xj_iload_n Z 3 dX2_findPassing_28 rfl rfl ?_
      refine xj_aaldP Z hS dX2_findPassing_29 (fun h1 => ?_)
      refine xj_iload Z 4 dX2_findPassing_30 rfl ?_
      refine xj_aload_n Z 1 dX2_findPassing_32 rfl rfl ?_
      refine xg_X2_53 Z (hw1.mem 0 (by decide)) hw1.lay dX2_findPassing_33 ?_
      refine xj_iload_n Z 3 dX2_findPassing_36 rfl rfl ?_
      refine xj_iald Z (hw1.mem 3 (by decide)) hw1.lay3 dX2_findPassing_37 (fun _ => ?_)
      refine xj_iast Z (xpass_m hS h1) (xpass_l h1) dX2_findPassing_38 (fun M2 _ => ?_)
      refine xj_iinc Z 4 (x4 + 1) (lv' := [(4, .int (x4 + 1)), (0, .ref (ad 48)), (1, .ref (ad w1)), (2, .int x2), (3, .int x3)]) dX2_findPassing_39 rfl rfl (by decide) rfl ?_
      refine xj_goto Z 18 dX2_findPassing_42 (by decide) ?_
      refine xj_sub [1, 2, 3, 4, 0] (lv' := [(0, .ref (ad 48)), (1, .ref (ad w1)), (2, .int x2), (3, .int x3), (4, .int (x4 + 1))]) rfl ?_
      exact ih (x4 + 1) M2
theorem bX2_findPassing_89 (Z : CX p s m args meth c cX2_findPassing 5 RX2 none D cs (xA S ad) S ad) (hS : xall S) (hw1 : xWalk S w1) {k56 : Int32 → Int32 → xm → Option (xm)} (x2 : Int32) (x4 : Int32) (t0 : Int32) (M : xm) (hk56 : ∀ (x3 : Int32) (x4 : Int32) (M : xm), XJ p l e rmX2_findPassing s m args below meth c D cs (xA S ad) S ad 5 (XRm below args s D cs S ad) 56 [(0, .ref (ad 48)), (1, .ref (ad w1)), (2, .int x2), (3, .int x3), (4, .int x4)] [] M (k56 x3 x4 M)) : XJ p l e rmX2_findPassing s m args below meth c D cs (xA S ad) S ad 5 (XRm below args s D cs S ad) 89 [(0, .ref (ad 48)), (1, .ref (ad w1)), (2, .int x2), (4, .int x4)] [.int t0] M (fX2_findPassing_89 w1 k56 x2 x4 t0 M) := by
  unfold fX2_findPassing_89
  refine xj_istore_n Z (lv' := [(3, .int t0), (0, .ref (ad 48)), (1, .ref (ad w1)), (2, .int x2), (4, .int x4)]) dX2_findPassing_89 rfl (by decide) rfl ?_
  refine xj_iinc Z 4 (x4 + 1) (lv' := [(4, .int (x4 + 1)), (3, .int t0), (0, .ref (ad 48)), (1, .ref (ad w1)), (2, .int x2)]) dX2_findPassing_90 rfl rfl (by decide) rfl ?_
  refine xj_goto Z 56 dX2_findPassing_93 (by decide) ?_
  refine xj_sub [2, 3, 4, 1, 0] (lv' := [(0, .ref (ad 48)), (1, .ref (ad w1)), (2, .int x2), (3, .int t0), (4, .int (x4 + 1))]) rfl ?_
  exact hk56 t0 (x4 + 1) M
theorem bX2_findPassing_56 (Z : CX p s m args meth c cX2_findPassing 5 RX2 none D cs (xA S ad) S ad) (hS : xall S) (hw1 : xWalk S w1) (x2 : Int32) : ∀ (n : Nat) (x3 : Int32) (x4 : Int32) (M : xm), XJ p l e rmX2_findPassing s m args below meth c D cs (xA S ad) S ad 5 (XRm below args s D cs S ad) 56 [(0, .ref (ad 48)), (1, .ref (ad w1)), (2, .int x2), (3, .int x3), (4, .int x4)] [] M (fX2_findPassing_56 w1 x2 n x3 x4 M) := by
  intro n
  induction n with
  | zero => intros; exact xj_none
  | succ n ih =>
    intro x3 x4 M
    rw [fX2_findPassing_56]
    refine xj_iload Z 4 dX2_findPassing_56 rfl ?_
    refine xj_sipush Z 200 dX2_findPassing_58 (by decide) ?_
    refine xj_icmp_gt Z 96 dX2_findPassing_61 (by decide) (fun _ => ?_) (fun _ => ?_)
    · exact xj_vret Z dX2_findPassing_96
    · refine xj_aload_n Z 0 dX2_findPassing_64 rfl rfl ?_
      refine xj_aload_n Z 1 dX2_findPassing_65 rfl rfl ?_
      refine xj_iload_n Z 3 dX2_findPassing_66 rfl rfl ?_
      refine xj_callVm Z (As := [.ref (ad w1), .int x3]) (kX2_notePassing l D cs S ad Z.2.2.2.2.2.1.dist hS hw1 x3 M) gw_X2_56 (hS 48 (by decide)) rfl rfl (n := 2) (by decide +kernel) rfl ⟨rfl, rfl⟩ (by decide) rfl (Nat.le_of_ble_eq_true rfl) dX2_findPassing_67 (fun M3 => ?_)
      refine xj_aload_n Z 1 dX2_findPassing_70 rfl rfl ?_
      refine xj_iconst Z (-1) dX2_findPassing_71 (by decide) ?_
      refine xj_callVm Z (As := [.int (-1)]) (kX4_goHour l D cs S ad Z.2.2.2.2.2.1.dist hw1 (-1) M3) gw_X2_60 (hw1.mem 0 (by decide)) hw1.lay rfl (n := 1) (by decide +kernel) rfl ⟨rfl, rfl⟩ (by decide) rfl (Nat.le_of_ble_eq_true rfl) dX2_findPassing_72 (fun M4 => ?_)
      refine xj_iload_n Z 3 dX2_findPassing_75 rfl rfl ?_
      refine xj_iconst Z 1 dX2_findPassing_76 (by decide) ?_
      refine xj_iadd Z dX2_findPassing_77 ?_
      refine xj_iload_n Z 2 dX2_findPassing_78 rfl rfl ?_
      refine xj_icmp_ge Z 88 dX2_findPassing_79 (by decide) (fun _ => ?_) (fun _ => ?_)
      · refine xj_iconst Z 0 dX2_findPassing_88 (by decide) ?_
        refine xj_sub [0, 1, 2, 4] (lv' := [(0, .ref (ad 48)), (1, .ref (ad w1)), (2, .int x2), (4, .int x4)]) rfl ?_
        exact bX2_findPassing_89 Z hS hw1 x2 x4 0 M4 ih
      · refine xj_iload_n Z 3 dX2_findPassing_82 rfl rfl ?_
        refine xj_iconst Z 1 dX2_findPassing_83 (by decide) ?_
        refine xj_iadd Z dX2_findPassing_84 ?_
        refine xj_goto Z 89 dX2_findPassing_85 (by decide) ?_
        refine xj_sub [0, 1, 2, 4] (lv' := [(0, .ref (ad 48)), (1, .ref (ad w1)), (2, .int x2), (4, .int x4)]) rfl ?_
        exact bX2_findPassing_89 Z hS hw1 x2 x4 (x3 + 1) M4 ih
theorem bX2_findPassing_10 (Z : CX p s m args meth c cX2_findPassing 5 RX2 none D cs (xA S ad) S ad) (hS : xall S) (hw1 : xWalk S w1) (x2 : Int32) : ∀ (n : Nat) (x3 : Int32) (M : xm), XJ p l e rmX2_findPassing s m args below meth c D cs (xA S ad) S ad 5 (XRm below args s D cs S ad) 10 [(0, .ref (ad 48)), (1, .ref (ad w1)), (2, .int x2), (3, .int x3)] [] M (fX2_findPassing_10 w1 x2 n x3 M) := by
  intro n
  induction n with
  | zero => intros; exact xj_none
  | succ n ih =>
    intro x3 M
    rw [fX2_findPassing_10]
    refine xj_iload_n Z 3 dX2_findPassing_10 rfl rfl ?_
    refine xj_iload_n Z 2 dX2_findPassing_11 rfl rfl ?_
    refine xj_icmp_ge Z 51 dX2_findPassing_12 (by decide) (fun _ => ?_) (fun _ => ?_)
    · refine xj_iconst Z 0 dX2_findPassing_51 (by decide) ?_
      refine xj_istore_n Z (lv' := [(3, .int 0), (0, .ref (ad 48)), (1, .ref (ad w1)), (2, .int x2)]) dX2_findPassing_52 rfl (by decide) rfl ?_
      refine xj_iconst Z 0 dX2_findPassing_53 (by decide) ?_
      refine xj_istore Z (lv' := [(4, .int 0), (3, .int 0), (0, .ref (ad 48)), (1, .ref (ad w1)), (2, .int x2)]) dX2_findPassing_54 (by decide) rfl ?_
      refine xj_sub [2, 3, 4, 1, 0] (lv' := [(0, .ref (ad 48)), (1, .ref (ad w1)), (2, .int x2), (3, .int 0), (4, .int 0)]) rfl ?_
      exact bX2_findPassing_56 Z hS hw1 x2 xfuel 0 0 M
    · refine xj_iconst Z 0 dX2_findPassing_15 (by decide) ?_
      refine xj_istore Z (lv' := [(4, .int 0), (0, .ref (ad 48)), (1, .ref (ad w1)), (2, .int x2), (3, .int x3)]) dX2_findPassing_16 (by decide) rfl ?_
      refine xj_sub [1, 2, 3, 4, 0] (lv' := [(0, .ref (ad 48)), (1, .ref (ad w1)), (2, .int x2), (3, .int x3), (4, .int 0)]) rfl ?_
      exact bX2_findPassing_18 Z hS hw1 x2 x3 ih xfuel 0 M
end
theorem kX2_findPassing (l : Launch) (D : va_G) (cs : Nat → ClassId) (S : List Nat) (ad : Nat → Nat) (hd : xdist S ad) {w1 : Nat} (hS : xall S) (hw1 : xWalk S w1) (M : xm) : ∀ r, fX2_findPassing w1 M = some r → Met l yX2_findPassing [Cond.code yX2_findPassing cX2_findPassing 5 none] rmX2_findPassing (XPc D cs S ad [.ref (ad 48), .ref (ad w1)] M) (XQv D cs S ad r) 0 0 (xA S ad) := by
  refine xm_m (own := RX2) (lv := [(0, .ref (ad 48)), (1, .ref (ad w1))]) (by decide +kernel) rfl rfl (Nat.le_of_ble_eq_true rfl) hd (fun p e s m args below meth c Z => ?_)
  unfold fX2_findPassing
  refine xj_aload_n Z 1 dX2_findPassing_0 rfl rfl ?_
  refine xg_X2_27 Z (hw1.mem 0 (by decide)) hw1.lay dX2_findPassing_1 ?_
  refine xg_X2_33 Z ((hw1.road (M.2 w1)).mem 0 (by decide)) (hw1.road (M.2 w1)).lay dX2_findPassing_4 ?_
  refine xj_top (fun v5 => ?_)
  refine xj_istore_n Z (lv' := [(2, .int v5), (0, .ref (ad 48)), (1, .ref (ad w1))]) dX2_findPassing_7 rfl (by decide) rfl ?_
  refine xj_iconst Z 0 dX2_findPassing_8 (by decide) ?_
  refine xj_istore_n Z (lv' := [(3, .int 0), (2, .int v5), (0, .ref (ad 48)), (1, .ref (ad w1))]) dX2_findPassing_9 rfl (by decide) rfl ?_
  refine xj_sub [2, 3, 1, 0] (lv' := [(0, .ref (ad 48)), (1, .ref (ad w1)), (2, .int v5), (3, .int 0)]) rfl ?_
  exact bX2_findPassing_10 Z hS hw1 v5 xfuel 0 M
/-! WalkingLaw$Rows.setRow(II)Z -/
theorem dX2_setRow_0 : decode cX2_setRow 0 = .ok (.iconst 0, 1) := by decide +kernel
theorem dX2_setRow_1 : decode cX2_setRow 1 = .ok (.istore_n 3, 1) := by decide +kernel
theorem dX2_setRow_2 : decode cX2_setRow 2 = .ok (.iconst 0, 1) := by decide +kernel
theorem dX2_setRow_3 : decode cX2_setRow 3 = .ok (.istore 4, 2) := by decide +kernel
theorem dX2_setRow_5 : decode cX2_setRow 5 = .ok (.iload 4, 2) := by decide +kernel
theorem dX2_setRow_7 : decode cX2_setRow 7 = .ok (.iload_n 2, 1) := by decide +kernel
theorem dX2_setRow_8 : decode cX2_setRow 8 = .ok (.if_icmp .ge 40, 3) := by decide +kernel
theorem dX2_setRow_11 : decode cX2_setRow 11 = .ok (.aload_n 0, 1) := by decide +kernel
theorem dX2_setRow_12 : decode cX2_setRow 12 = .ok (.getfield 16, 3) := by decide +kernel
theorem dX2_setRow_15 : decode cX2_setRow 15 = .ok (.iload 4, 2) := by decide +kernel
theorem dX2_setRow_17 : decode cX2_setRow 17 = .ok (.iload_n 1, 1) := by decide +kernel
theorem dX2_setRow_18 : decode cX2_setRow 18 = .ok (.iconst 2, 1) := by decide +kernel
theorem dX2_setRow_19 : decode cX2_setRow 19 = .ok (.iload_n 2, 1) := by decide +kernel
theorem dX2_setRow_20 : decode cX2_setRow 20 = .ok (.iconst 1, 1) := by decide +kernel
theorem dX2_setRow_21 : decode cX2_setRow 21 = .ok (.isub, 1) := by decide +kernel
theorem dX2_setRow_22 : decode cX2_setRow 22 = .ok (.iload 4, 2) := by decide +kernel
theorem dX2_setRow_24 : decode cX2_setRow 24 = .ok (.isub, 1) := by decide +kernel
theorem dX2_setRow_25 : decode cX2_setRow 25 = .ok (.imul, 1) := by decide +kernel
theorem dX2_setRow_26 : decode cX2_setRow 26 = .ok (.ishr, 1) := by decide +kernel
theorem dX2_setRow_27 : decode cX2_setRow 27 = .ok (.iconst 3, 1) := by decide +kernel
theorem dX2_setRow_28 : decode cX2_setRow 28 = .ok (.iand, 1) := by decide +kernel
theorem dX2_setRow_29 : decode cX2_setRow 29 = .ok (.iastore, 1) := by decide +kernel
theorem dX2_setRow_30 : decode cX2_setRow 30 = .ok (.iload_n 3, 1) := by decide +kernel
theorem dX2_setRow_31 : decode cX2_setRow 31 = .ok (.iconst 1, 1) := by decide +kernel
theorem dX2_setRow_32 : decode cX2_setRow 32 = .ok (.aload_n 0, 1) := by decide +kernel
theorem dX2_setRow_33 : decode cX2_setRow 33 = .ok (.getfield 16, 3) := by decide +kernel
theorem dX2_setRow_36 : decode cX2_setRow 36 = .ok (.iload 4, 2) := by decide +kernel
theorem dX2_setRow_38 : decode cX2_setRow 38 = .ok (.iaload, 1) := by decide +kernel
theorem dX2_setRow_39 : decode cX2_setRow 39 = .ok (.ishl, 1) := by decide +kernel
theorem dX2_setRow_40 : decode cX2_setRow 40 = .ok (.ior, 1) := by decide +kernel
theorem dX2_setRow_41 : decode cX2_setRow 41 = .ok (.istore_n 3, 1) := by decide +kernel
theorem dX2_setRow_42 : decode cX2_setRow 42 = .ok (.iinc 4 1, 3) := by decide +kernel
theorem dX2_setRow_45 : decode cX2_setRow 45 = .ok (.goto (-40), 3) := by decide +kernel
theorem dX2_setRow_48 : decode cX2_setRow 48 = .ok (.iload_n 3, 1) := by decide +kernel
theorem dX2_setRow_49 : decode cX2_setRow 49 = .ok (.iconst 1, 1) := by decide +kernel
theorem dX2_setRow_50 : decode cX2_setRow 50 = .ok (.iload_n 2, 1) := by decide +kernel
theorem dX2_setRow_51 : decode cX2_setRow 51 = .ok (.ishl, 1) := by decide +kernel
theorem dX2_setRow_52 : decode cX2_setRow 52 = .ok (.iconst 1, 1) := by decide +kernel
theorem dX2_setRow_53 : decode cX2_setRow 53 = .ok (.isub, 1) := by decide +kernel
theorem dX2_setRow_54 : decode cX2_setRow 54 = .ok (.if_icmp .ne 7, 3) := by decide +kernel
theorem dX2_setRow_57 : decode cX2_setRow 57 = .ok (.iconst 1, 1) := by decide +kernel
theorem dX2_setRow_58 : decode cX2_setRow 58 = .ok (.goto 4, 3) := by decide +kernel
theorem dX2_setRow_61 : decode cX2_setRow 61 = .ok (.iconst 0, 1) := by decide +kernel
theorem dX2_setRow_62 : decode cX2_setRow 62 = .ok (.ireturn, 1) := by decide +kernel
def rmX2_setRow : Room := { frames := 0, cells := 0, slots := 0, locals := 0 }
def fX2_setRow_62 (t0 : Int32) (M : xm) : Option (Int32 × xm) := (xbo t0 (some (t0, M)))
def fX2_setRow_5 (x1 : Int32) (x2 : Int32) : Nat → Int32 → Int32 → xm → Option (Int32 × xm)
  | 0, _, _, _ => none
  | n + 1, x3, x4, M => (if x2 ≤ x4 then (if x3 = ((1 <<< (x2 &&& 31)) - 1) then (fX2_setRow_62 1 M) else (fX2_setRow_62 0 M)) else xchk x4 4 (xl (up M 54 (x4 : Int32).toNatClampNeg ((x1 >>> ((2 * ((x2 - 1) - x4)) &&& 31)) &&& 3)) (fun M1 => xchk x4 4 (xl (x3 ||| (1 <<< ((M1.1 54 x4.toNatClampNeg) &&& 31))) (fun v2 => (fX2_setRow_5 x1 x2 n v2 (x4 + 1) M1))))))
def fX2_setRow (x1 : Int32) (x2 : Int32) (M : xm) : Option (Int32 × xm) := (fX2_setRow_5 x1 x2 xfuel 0 0 M)
section
variable {p : Program} {l : Launch} {e : Env} {s : State} {m : MethodId} {args : Array Value} {below : List Frame} {meth : Method} {c : Code} {D : va_G} {cs : Nat → ClassId} {S : List Nat} {ad : Nat → Nat}
theorem bX2_setRow_62 (Z : CX p s m args meth c cX2_setRow 5 RX2 (some .boolean) D cs (xA S ad) S ad) (hS : xall S) (t0 : Int32) (M : xm) : XJ p l e rmX2_setRow s m args below meth c D cs (xA S ad) S ad 5 (XRb below args s D cs S ad) 62 [] [.int t0] M (fX2_setRow_62 t0 M) := by
  unfold fX2_setRow_62
  exact xj_zret_b Z dX2_setRow_62
theorem bX2_setRow_5 (Z : CX p s m args meth c cX2_setRow 5 RX2 (some .boolean) D cs (xA S ad) S ad) (hS : xall S) (x1 : Int32) (x2 : Int32) : ∀ (n : Nat) (x3 : Int32) (x4 : Int32) (M : xm), XJ p l e rmX2_setRow s m args below meth c D cs (xA S ad) S ad 5 (XRb below args s D cs S ad) 5 [(0, .ref (ad 48)), (1, .int x1), (2, .int x2), (3, .int x3), (4, .int x4)] [] M (fX2_setRow_5 x1 x2 n x3 x4 M) := by
  intro n
  induction n with
  | zero => intros; exact xj_none
  | succ n ih =>
    intro x3 x4 M
    rw [fX2_setRow_5]
    refine xj_iload Z 4 dX2_setRow_5 rfl ?_
    refine xj_iload_n Z 2 dX2_setRow_7 rfl rfl ?_
    refine xj_icmp_ge Z 48 dX2_setRow_8 (by decide) (fun _ => ?_) (fun _ => ?_)
    · refine xj_iload_n Z 3 dX2_setRow_48 rfl rfl ?_
      refine xj_iconst Z 1 dX2_setRow_49 (by decide) ?_
      refine xj_iload_n Z 2 dX2_setRow_50 rfl rfl ?_
      refine xj_ishl Z dX2_setRow_51 ?_
      refine xj_iconst Z 1 dX2_setRow_52 (by decide) ?_
      refine xj_isub Z dX2_setRow_53 ?_
      refine xj_icmp_ne Z 61 dX2_setRow_54 (by decide) (fun _ => ?_) (fun _ => ?_)
      · refine xj_iconst Z 0 dX2_setRow_61 (by decide) ?_
        refine xj_sub [] (lv' := []) rfl ?_
        exact bX2_setRow_62 Z hS 0 M
      · refine xj_iconst Z 1 dX2_setRow_57 (by decide) ?_
        refine xj_goto Z 62 dX2_setRow_58 (by decide) ?_
        refine xj_sub [] (lv' := []) rfl ?_
        exact bX2_setRow_62 Z hS 1 M
    · refine xj_aload_n Z 0 dX2_setRow_11 rfl rfl ?_
      refine xg_X2_16 Z (hS 48 (by decide)) dX2_setRow_12 ?_
      refine xj_iload Z 4 dX2_setRow_15 rfl ?_
      refine xj_iload_n Z 1 dX2_setRow_17 rfl rfl ?_
      refine xj_iconst Z 2 dX2_setRow_18 (by decide) ?_
      refine xj_iload_n Z 2 dX2_setRow_19 rfl rfl ?_
      refine xj_iconst Z 1 dX2_setRow_20 (by decide) ?_
      refine xj_isub Z dX2_setRow_21 ?_
      refine xj_iload Z 4 dX2_setRow_22 rfl ?_
      refine xj_isub Z dX2_setRow_24 ?_
      refine xj_imul Z dX2_setRow_25 ?_
      refine xj_ishr Z dX2_setRow_26 ?_
      refine xj_iconst Z 3 dX2_setRow_27 (by decide) ?_
      refine xj_iand Z dX2_setRow_28 ?_
      refine xj_iast Z (hS 54 (by decide)) rfl dX2_setRow_29 (fun M1 _ => ?_)
      refine xj_iload_n Z 3 dX2_setRow_30 rfl rfl ?_
      refine xj_iconst Z 1 dX2_setRow_31 (by decide) ?_
      refine xj_aload_n Z 0 dX2_setRow_32 rfl rfl ?_
      refine xg_X2_16 Z (hS 48 (by decide)) dX2_setRow_33 ?_
      refine xj_iload Z 4 dX2_setRow_36 rfl ?_
      refine xj_iald Z (hS 54 (by decide)) rfl dX2_setRow_38 (fun _ => ?_)
      refine xj_ishl Z dX2_setRow_39 ?_
      refine xj_ior Z dX2_setRow_40 ?_
      refine xj_top (fun v2 => ?_)
      refine xj_istore_n Z (lv' := [(3, .int v2), (0, .ref (ad 48)), (1, .int x1), (2, .int x2), (4, .int x4)]) dX2_setRow_41 rfl (by decide) rfl ?_
      refine xj_iinc Z 4 (x4 + 1) (lv' := [(4, .int (x4 + 1)), (3, .int v2), (0, .ref (ad 48)), (1, .int x1), (2, .int x2)]) dX2_setRow_42 rfl rfl (by decide) rfl ?_
      refine xj_goto Z 5 dX2_setRow_45 (by decide) ?_
      refine xj_sub [2, 3, 4, 1, 0] (lv' := [(0, .ref (ad 48)), (1, .int x1), (2, .int x2), (3, .int v2), (4, .int (x4 + 1))]) rfl ?_
      exact ih v2 (x4 + 1) M1
end
theorem kX2_setRow (l : Launch) (D : va_G) (cs : Nat → ClassId) (S : List Nat) (ad : Nat → Nat) (hd : xdist S ad) (hS : xall S) (x1 : Int32) (x2 : Int32) (M : xm) : ∀ r, fX2_setRow x1 x2 M = some r → Met l yX2_setRow [Cond.code yX2_setRow cX2_setRow 5 (some .boolean)] rmX2_setRow (XPc D cs S ad [.ref (ad 48), .int x1, .int x2] M) (XQi D cs S ad r.1 r.2) 0 0 (xA S ad) := by
  refine xm_b (own := RX2) (lv := [(0, .ref (ad 48)), (1, .int x1), (2, .int x2)]) (by decide +kernel) rfl rfl (Nat.le_of_ble_eq_true rfl) hd (fun p e s m args below meth c Z => ?_)
  unfold fX2_setRow
  refine xj_iconst Z 0 dX2_setRow_0 (by decide) ?_
  refine xj_istore_n Z (lv' := [(3, .int 0), (0, .ref (ad 48)), (1, .int x1), (2, .int x2)]) dX2_setRow_1 rfl (by decide) rfl ?_
  refine xj_iconst Z 0 dX2_setRow_2 (by decide) ?_
  refine xj_istore Z (lv' := [(4, .int 0), (3, .int 0), (0, .ref (ad 48)), (1, .int x1), (2, .int x2)]) dX2_setRow_3 (by decide) rfl ?_
  refine xj_sub [2, 3, 4, 1, 0] (lv' := [(0, .ref (ad 48)), (1, .int x1), (2, .int x2), (3, .int 0), (4, .int 0)]) rfl ?_
  exact bX2_setRow_5 Z hS x1 x2 xfuel 0 0 M
/-! WalkingLaw$Rows.compare(II)V -/
theorem dX2_compare_0 : decode cX2_compare 0 = .ok (.iconst 0, 1) := by decide +kernel
theorem dX2_compare_1 : decode cX2_compare 1 = .ok (.istore_n 3, 1) := by decide +kernel
theorem dX2_compare_2 : decode cX2_compare 2 = .ok (.iconst 0, 1) := by decide +kernel
theorem dX2_compare_3 : decode cX2_compare 3 = .ok (.istore 4, 2) := by decide +kernel
theorem dX2_compare_5 : decode cX2_compare 5 = .ok (.iload 4, 2) := by decide +kernel
theorem dX2_compare_7 : decode cX2_compare 7 = .ok (.iload_n 1, 1) := by decide +kernel
theorem dX2_compare_8 : decode cX2_compare 8 = .ok (.if_icmp .ge 31, 3) := by decide +kernel
theorem dX2_compare_11 : decode cX2_compare 11 = .ok (.aload_n 0, 1) := by decide +kernel
theorem dX2_compare_12 : decode cX2_compare 12 = .ok (.getfield 11, 3) := by decide +kernel
theorem dX2_compare_15 : decode cX2_compare 15 = .ok (.aload_n 0, 1) := by decide +kernel
theorem dX2_compare_16 : decode cX2_compare 16 = .ok (.getfield 16, 3) := by decide +kernel
theorem dX2_compare_19 : decode cX2_compare 19 = .ok (.iload 4, 2) := by decide +kernel
theorem dX2_compare_21 : decode cX2_compare 21 = .ok (.iaload, 1) := by decide +kernel
theorem dX2_compare_22 : decode cX2_compare 22 = .ok (.aaload, 1) := by decide +kernel
theorem dX2_compare_23 : decode cX2_compare 23 = .ok (.iload 4, 2) := by decide +kernel
theorem dX2_compare_25 : decode cX2_compare 25 = .ok (.iaload, 1) := by decide +kernel
theorem dX2_compare_26 : decode cX2_compare 26 = .ok (.iload_n 2, 1) := by decide +kernel
theorem dX2_compare_27 : decode cX2_compare 27 = .ok (.if_icmp .ne 6, 3) := by decide +kernel
theorem dX2_compare_30 : decode cX2_compare 30 = .ok (.iinc 3 1, 3) := by decide +kernel
theorem dX2_compare_33 : decode cX2_compare 33 = .ok (.iinc 4 1, 3) := by decide +kernel
theorem dX2_compare_36 : decode cX2_compare 36 = .ok (.goto (-31), 3) := by decide +kernel
theorem dX2_compare_39 : decode cX2_compare 39 = .ok (.iload_n 3, 1) := by decide +kernel
theorem dX2_compare_40 : decode cX2_compare 40 = .ok (.aload_n 0, 1) := by decide +kernel
theorem dX2_compare_41 : decode cX2_compare 41 = .ok (.getfield 42, 3) := by decide +kernel
theorem dX2_compare_44 : decode cX2_compare 44 = .ok (.if_icmp .le 37, 3) := by decide +kernel
theorem dX2_compare_47 : decode cX2_compare 47 = .ok (.aload_n 0, 1) := by decide +kernel
theorem dX2_compare_48 : decode cX2_compare 48 = .ok (.iload_n 3, 1) := by decide +kernel
theorem dX2_compare_49 : decode cX2_compare 49 = .ok (.putfield 42, 3) := by decide +kernel
theorem dX2_compare_52 : decode cX2_compare 52 = .ok (.iconst 0, 1) := by decide +kernel
theorem dX2_compare_53 : decode cX2_compare 53 = .ok (.istore 4, 2) := by decide +kernel
theorem dX2_compare_55 : decode cX2_compare 55 = .ok (.iload 4, 2) := by decide +kernel
theorem dX2_compare_57 : decode cX2_compare 57 = .ok (.iload_n 1, 1) := by decide +kernel
theorem dX2_compare_58 : decode cX2_compare 58 = .ok (.if_icmp .ge 23, 3) := by decide +kernel
theorem dX2_compare_61 : decode cX2_compare 61 = .ok (.aload_n 0, 1) := by decide +kernel
theorem dX2_compare_62 : decode cX2_compare 62 = .ok (.getfield 20, 3) := by decide +kernel
theorem dX2_compare_65 : decode cX2_compare 65 = .ok (.iload 4, 2) := by decide +kernel
theorem dX2_compare_67 : decode cX2_compare 67 = .ok (.aload_n 0, 1) := by decide +kernel
theorem dX2_compare_68 : decode cX2_compare 68 = .ok (.getfield 16, 3) := by decide +kernel
theorem dX2_compare_71 : decode cX2_compare 71 = .ok (.iload 4, 2) := by decide +kernel
theorem dX2_compare_73 : decode cX2_compare 73 = .ok (.iaload, 1) := by decide +kernel
theorem dX2_compare_74 : decode cX2_compare 74 = .ok (.iastore, 1) := by decide +kernel
theorem dX2_compare_75 : decode cX2_compare 75 = .ok (.iinc 4 1, 3) := by decide +kernel
theorem dX2_compare_78 : decode cX2_compare 78 = .ok (.goto (-23), 3) := by decide +kernel
theorem dX2_compare_81 : decode cX2_compare 81 = .ok (.return_, 1) := by decide +kernel
def rmX2_compare : Room := { frames := 0, cells := 0, slots := 0, locals := 0 }
def fX2_compare_33 (k5 : Int32 → Int32 → Option (xm)) (x1 : Int32) (x2 : Int32) (x3 : Int32) (x4 : Int32) (M : xm) : Option (xm) := (k5 x3 (x4 + 1))
def fX2_compare_81 (M : xm) : Option (xm) := (some M)
def fX2_compare_55 (x1 : Int32) : Nat → Int32 → xm → Option (xm)
  | 0, _, _ => none
  | n + 1, x4, M => (if x1 ≤ x4 then (fX2_compare_81 M) else xchk x4 4 (xchk x4 4 (xl (up M 55 (x4 : Int32).toNatClampNeg (M.1 54 x4.toNatClampNeg)) (fun M1 => (fX2_compare_55 x1 n (x4 + 1) M1)))))
def fX2_compare_5 (x1 : Int32) (x2 : Int32) (M : xm) : Nat → Int32 → Int32 → Option (xm)
  | 0, _, _ => none
  | n + 1, x3, x4 => (if x1 ≤ x4 then (if x3 ≤ (M.1 48 3) then (fX2_compare_81 M) else xl (up M 48 3 x3) (fun M2 => (fX2_compare_55 x1 xfuel 0 M2))) else xchk x4 4 (xchk (M.1 54 x4.toNatClampNeg) 4 (xchk x4 4 ((if (M.1 (50 + ((M.1 54 x4.toNatClampNeg)).toNatClampNeg) x4.toNatClampNeg) = x2 then (fX2_compare_33 (fun z0 z1 => fX2_compare_5 x1 x2 M n z0 z1) x1 x2 (x3 + 1) x4 M) else (fX2_compare_33 (fun z0 z1 => fX2_compare_5 x1 x2 M n z0 z1) x1 x2 x3 x4 M))))))
def fX2_compare (x1 : Int32) (x2 : Int32) (M : xm) : Option (xm) := (fX2_compare_5 x1 x2 M xfuel 0 0)
section
variable {p : Program} {l : Launch} {e : Env} {s : State} {m : MethodId} {args : Array Value} {below : List Frame} {meth : Method} {c : Code} {D : va_G} {cs : Nat → ClassId} {S : List Nat} {ad : Nat → Nat}
theorem bX2_compare_33 (Z : CX p s m args meth c cX2_compare 5 RX2 none D cs (xA S ad) S ad) (hS : xall S) {k5 : Int32 → Int32 → Option (xm)} (x1 : Int32) (x2 : Int32) (x3 : Int32) (x4 : Int32) (M : xm) (hk5 : ∀ (x3 : Int32) (x4 : Int32), XJ p l e rmX2_compare s m args below meth c D cs (xA S ad) S ad 5 (XRm below args s D cs S ad) 5 [(0, .ref (ad 48)), (1, .int x1), (2, .int x2), (3, .int x3), (4, .int x4)] [] M (k5 x3 x4)) : XJ p l e rmX2_compare s m args below meth c D cs (xA S ad) S ad 5 (XRm below args s D cs S ad) 33 [(0, .ref (ad 48)), (1, .int x1), (2, .int x2), (3, .int x3), (4, .int x4)] [] M (fX2_compare_33 k5 x1 x2 x3 x4 M) := by
  unfold fX2_compare_33
  refine xj_iinc Z 4 (x4 + 1) (lv' := [(4, .int (x4 + 1)), (0, .ref (ad 48)), (1, .int x1), (2, .int x2), (3, .int x3)]) dX2_compare_33 rfl rfl (by decide) rfl ?_
  refine xj_goto Z 5 dX2_compare_36 (by decide) ?_
  refine xj_sub [1, 2, 3, 4, 0] (lv' := [(0, .ref (ad 48)), (1, .int x1), (2, .int x2), (3, .int x3), (4, .int (x4 + 1))]) rfl ?_
  exact hk5 x3 (x4 + 1)
theorem bX2_compare_81 (Z : CX p s m args meth c cX2_compare 5 RX2 none D cs (xA S ad) S ad) (hS : xall S) (M : xm) : XJ p l e rmX2_compare s m args below meth c D cs (xA S ad) S ad 5 (XRm below args s D cs S ad) 81 [] [] M (fX2_compare_81 M) := by
  unfold fX2_compare_81
  exact xj_vret Z dX2_compare_81
theorem bX2_compare_55 (Z : CX p s m args meth c cX2_compare 5 RX2 none D cs (xA S ad) S ad) (hS : xall S) (x1 : Int32) : ∀ (n : Nat) (x4 : Int32) (M : xm), XJ p l e rmX2_compare s m args below meth c D cs (xA S ad) S ad 5 (XRm below args s D cs S ad) 55 [(0, .ref (ad 48)), (1, .int x1), (4, .int x4)] [] M (fX2_compare_55 x1 n x4 M) := by
  intro n
  induction n with
  | zero => intros; exact xj_none
  | succ n ih =>
    intro x4 M
    rw [fX2_compare_55]
    refine xj_iload Z 2 dX2_compare_55 rfl ?_
    refine xj_iload_n Z 1 dX2_compare_57 rfl rfl ?_
    refine xj_icmp_ge Z 81 dX2_compare_58 (by decide) (fun _ => ?_) (fun _ => ?_)
    · refine xj_sub [] (lv' := []) rfl ?_
      exact bX2_compare_81 Z hS M
    · refine xj_aload_n Z 0 dX2_compare_61 rfl rfl ?_
      refine xg_X2_20 Z (hS 48 (by decide)) dX2_compare_62 ?_
      refine xj_iload Z 2 dX2_compare_65 rfl ?_
      refine xj_aload_n Z 0 dX2_compare_67 rfl rfl ?_
      refine xg_X2_16 Z (hS 48 (by decide)) dX2_compare_68 ?_
      refine xj_iload Z 2 dX2_compare_71 rfl ?_
      refine xj_iald Z (hS 54 (by decide)) rfl dX2_compare_73 (fun _ => ?_)
      refine xj_iast Z (hS 55 (by decide)) rfl dX2_compare_74 (fun M1 _ => ?_)
      refine xj_iinc Z 2 (x4 + 1) (lv' := [(4, .int (x4 + 1)), (0, .ref (ad 48)), (1, .int x1)]) dX2_compare_75 rfl rfl (by decide) rfl ?_
      refine xj_goto Z 55 dX2_compare_78 (by decide) ?_
      refine xj_sub [1, 2, 0] (lv' := [(0, .ref (ad 48)), (1, .int x1), (4, .int (x4 + 1))]) rfl ?_
      exact ih (x4 + 1) M1
theorem bX2_compare_5 (Z : CX p s m args meth c cX2_compare 5 RX2 none D cs (xA S ad) S ad) (hS : xall S) (x1 : Int32) (x2 : Int32) (M : xm) : ∀ (n : Nat) (x3 : Int32) (x4 : Int32), XJ p l e rmX2_compare s m args below meth c D cs (xA S ad) S ad 5 (XRm below args s D cs S ad) 5 [(0, .ref (ad 48)), (1, .int x1), (2, .int x2), (3, .int x3), (4, .int x4)] [] M (fX2_compare_5 x1 x2 M n x3 x4) := by
  intro n
  induction n with
  | zero => intros; exact xj_none
  | succ n ih =>
    intro x3 x4
    rw [fX2_compare_5]
    refine xj_iload Z 4 dX2_compare_5 rfl ?_
    refine xj_iload_n Z 1 dX2_compare_7 rfl rfl ?_
    refine xj_icmp_ge Z 39 dX2_compare_8 (by decide) (fun _ => ?_) (fun _ => ?_)
    · refine xj_iload_n Z 3 dX2_compare_39 rfl rfl ?_
      refine xj_aload_n Z 0 dX2_compare_40 rfl rfl ?_
      refine xg_X2_42 Z (hS 48 (by decide)) dX2_compare_41 ?_
      refine xj_icmp_le Z 81 dX2_compare_44 (by decide) (fun _ => ?_) (fun _ => ?_)
      · refine xj_sub [] (lv' := []) rfl ?_
        exact bX2_compare_81 Z hS M
      · refine xj_aload_n Z 0 dX2_compare_47 rfl rfl ?_
        refine xj_iload_n Z 3 dX2_compare_48 rfl rfl ?_
        refine xp_X2_42 Z (hS 48 (by decide)) dX2_compare_49 (fun M2 _ => ?_)
        refine xj_iconst Z 0 dX2_compare_52 (by decide) ?_
        refine xj_istore Z (lv' := [(4, .int 0), (0, .ref (ad 48)), (1, .int x1), (2, .int x2), (3, .int x3)]) dX2_compare_53 (by decide) rfl ?_
        refine xj_sub [1, 2, 0] (lv' := [(0, .ref (ad 48)), (1, .int x1), (4, .int 0)]) rfl ?_
        exact bX2_compare_55 Z hS x1 xfuel 0 M2
    · refine xj_aload_n Z 0 dX2_compare_11 rfl rfl ?_
      refine xg_X2_11 Z (hS 48 (by decide)) dX2_compare_12 ?_
      refine xj_aload_n Z 0 dX2_compare_15 rfl rfl ?_
      refine xg_X2_16 Z (hS 48 (by decide)) dX2_compare_16 ?_
      refine xj_iload Z 4 dX2_compare_19 rfl ?_
      refine xj_iald Z (hS 54 (by decide)) rfl dX2_compare_21 (fun _ => ?_)
      refine xj_aaldP Z hS dX2_compare_22 (fun h3 => ?_)
      refine xj_iload Z 4 dX2_compare_23 rfl ?_
      refine xj_iald Z (xpass_m hS h3) (xpass_l h3) dX2_compare_25 (fun _ => ?_)
      refine xj_iload_n Z 2 dX2_compare_26 rfl rfl ?_
      refine xj_icmp_ne Z 33 dX2_compare_27 (by decide) (fun _ => ?_) (fun _ => ?_)
      · exact bX2_compare_33 Z hS x1 x2 x3 x4 M ih
      · refine xj_iinc Z 3 (x3 + 1) (lv' := [(3, .int (x3 + 1)), (0, .ref (ad 48)), (1, .int x1), (2, .int x2), (4, .int x4)]) dX2_compare_30 rfl rfl (by decide) rfl ?_
        refine xj_sub [1, 2, 3, 0, 4] (lv' := [(0, .ref (ad 48)), (1, .int x1), (2, .int x2), (3, .int (x3 + 1)), (4, .int x4)]) rfl ?_
        exact bX2_compare_33 Z hS x1 x2 (x3 + 1) x4 M ih
end
theorem kX2_compare (l : Launch) (D : va_G) (cs : Nat → ClassId) (S : List Nat) (ad : Nat → Nat) (hd : xdist S ad) (hS : xall S) (x1 : Int32) (x2 : Int32) (M : xm) : ∀ r, fX2_compare x1 x2 M = some r → Met l yX2_compare [Cond.code yX2_compare cX2_compare 5 none] rmX2_compare (XPc D cs S ad [.ref (ad 48), .int x1, .int x2] M) (XQv D cs S ad r) 0 0 (xA S ad) := by
  refine xm_m (own := RX2) (lv := [(0, .ref (ad 48)), (1, .int x1), (2, .int x2)]) (by decide +kernel) rfl rfl (Nat.le_of_ble_eq_true rfl) hd (fun p e s m args below meth c Z => ?_)
  unfold fX2_compare
  refine xj_iconst Z 0 dX2_compare_0 (by decide) ?_
  refine xj_istore_n Z (lv' := [(3, .int 0), (0, .ref (ad 48)), (1, .int x1), (2, .int x2)]) dX2_compare_1 rfl (by decide) rfl ?_
  refine xj_iconst Z 0 dX2_compare_2 (by decide) ?_
  refine xj_istore Z (lv' := [(4, .int 0), (3, .int 0), (0, .ref (ad 48)), (1, .int x1), (2, .int x2)]) dX2_compare_3 (by decide) rfl ?_
  refine xj_sub [2, 3, 4, 1, 0] (lv' := [(0, .ref (ad 48)), (1, .int x1), (2, .int x2), (3, .int 0), (4, .int 0)]) rfl ?_
  exact bX2_compare_5 Z hS x1 x2 M xfuel 0 0
/-! WalkingLaw$Rows.weigh(LWalkingLaw$Walk;)V -/
theorem dX2_weigh_0 : decode cX2_weigh 0 = .ok (.aload_n 0, 1) := by decide +kernel
theorem dX2_weigh_1 : decode cX2_weigh 1 = .ok (.aload_n 1, 1) := by decide +kernel
theorem dX2_weigh_2 : decode cX2_weigh 2 = .ok (.invokevirtual 23, 3) := by decide +kernel
theorem dX2_weigh_5 : decode cX2_weigh 5 = .ok (.aload_n 1, 1) := by decide +kernel
theorem dX2_weigh_6 : decode cX2_weigh 6 = .ok (.getfield 27, 3) := by decide +kernel
theorem dX2_weigh_9 : decode cX2_weigh 9 = .ok (.getfield 33, 3) := by decide +kernel
theorem dX2_weigh_12 : decode cX2_weigh 12 = .ok (.istore_n 2, 1) := by decide +kernel
theorem dX2_weigh_13 : decode cX2_weigh 13 = .ok (.iconst 1, 1) := by decide +kernel
theorem dX2_weigh_14 : decode cX2_weigh 14 = .ok (.aload_n 1, 1) := by decide +kernel
theorem dX2_weigh_15 : decode cX2_weigh 15 = .ok (.getfield 27, 3) := by decide +kernel
theorem dX2_weigh_18 : decode cX2_weigh 18 = .ok (.getfield 39, 3) := by decide +kernel
theorem dX2_weigh_21 : decode cX2_weigh 21 = .ok (.ishl, 1) := by decide +kernel
theorem dX2_weigh_22 : decode cX2_weigh 22 = .ok (.iconst 1, 1) := by decide +kernel
theorem dX2_weigh_23 : decode cX2_weigh 23 = .ok (.isub, 1) := by decide +kernel
theorem dX2_weigh_24 : decode cX2_weigh 24 = .ok (.istore_n 3, 1) := by decide +kernel
theorem dX2_weigh_25 : decode cX2_weigh 25 = .ok (.aload_n 0, 1) := by decide +kernel
theorem dX2_weigh_26 : decode cX2_weigh 26 = .ok (.iconst (-1), 1) := by decide +kernel
theorem dX2_weigh_27 : decode cX2_weigh 27 = .ok (.putfield 42, 3) := by decide +kernel
theorem dX2_weigh_30 : decode cX2_weigh 30 = .ok (.iconst 0, 1) := by decide +kernel
theorem dX2_weigh_31 : decode cX2_weigh 31 = .ok (.istore 4, 2) := by decide +kernel
theorem dX2_weigh_33 : decode cX2_weigh 33 = .ok (.iload 4, 2) := by decide +kernel
theorem dX2_weigh_35 : decode cX2_weigh 35 = .ok (.iconst 1, 1) := by decide +kernel
theorem dX2_weigh_36 : decode cX2_weigh 36 = .ok (.iconst 2, 1) := by decide +kernel
theorem dX2_weigh_37 : decode cX2_weigh 37 = .ok (.iload_n 2, 1) := by decide +kernel
theorem dX2_weigh_38 : decode cX2_weigh 38 = .ok (.imul, 1) := by decide +kernel
theorem dX2_weigh_39 : decode cX2_weigh 39 = .ok (.ishl, 1) := by decide +kernel
theorem dX2_weigh_40 : decode cX2_weigh 40 = .ok (.if_icmp .ge 25, 3) := by decide +kernel
theorem dX2_weigh_43 : decode cX2_weigh 43 = .ok (.aload_n 0, 1) := by decide +kernel
theorem dX2_weigh_44 : decode cX2_weigh 44 = .ok (.iload 4, 2) := by decide +kernel
theorem dX2_weigh_46 : decode cX2_weigh 46 = .ok (.iload_n 2, 1) := by decide +kernel
theorem dX2_weigh_47 : decode cX2_weigh 47 = .ok (.invokevirtual 45, 3) := by decide +kernel
theorem dX2_weigh_50 : decode cX2_weigh 50 = .ok (.ifCond .eq 9, 3) := by decide +kernel
theorem dX2_weigh_53 : decode cX2_weigh 53 = .ok (.aload_n 0, 1) := by decide +kernel
theorem dX2_weigh_54 : decode cX2_weigh 54 = .ok (.iload_n 2, 1) := by decide +kernel
theorem dX2_weigh_55 : decode cX2_weigh 55 = .ok (.iload_n 3, 1) := by decide +kernel
theorem dX2_weigh_56 : decode cX2_weigh 56 = .ok (.invokevirtual 49, 3) := by decide +kernel
theorem dX2_weigh_59 : decode cX2_weigh 59 = .ok (.iinc 4 1, 3) := by decide +kernel
theorem dX2_weigh_62 : decode cX2_weigh 62 = .ok (.goto (-29), 3) := by decide +kernel
theorem dX2_weigh_65 : decode cX2_weigh 65 = .ok (.return_, 1) := by decide +kernel
def rmX2_weigh : Room := { frames := 5, cells := 0, slots := 0, locals := 118 }
def fX2_weigh_59 (w1 : Nat) (k33 : Int32 → xm → Option (xm)) (x2 : Int32) (x3 : Int32) (x4 : Int32) (M : xm) : Option (xm) := (k33 (x4 + 1) M)
def fX2_weigh_33 (w1 : Nat) (x2 : Int32) (x3 : Int32) : Nat → Int32 → xm → Option (xm)
  | 0, _, _ => none
  | n + 1, x4, M => (if ((1 : Int32) <<< ((2 * x2) &&& 31)) ≤ x4 then (some M) else (fX2_setRow x4 x2 M).bind (fun q1 => (if q1.1 = 0 then (fX2_weigh_59 w1 (fun z0 z1 => fX2_weigh_33 w1 x2 x3 n z0 z1) x2 x3 x4 q1.2) else (fX2_compare x2 x3 q1.2).bind (fun M2 => (fX2_weigh_59 w1 (fun z0 z1 => fX2_weigh_33 w1 x2 x3 n z0 z1) x2 x3 x4 M2)))))
def fX2_weigh (w1 : Nat) (M : xm) : Option (xm) := (fX2_findPassing w1 M).bind (fun M3 => xl (M3.1 (rd (M3.2 w1)) 12) (fun v4 => xl ((1 <<< ((M3.1 (rd (M3.2 w1)) 0) &&& 31)) - 1) (fun v5 => xl (up M3 48 3 (-1)) (fun M6 => (fX2_weigh_33 w1 v4 v5 xfuel 0 M6)))))
section
variable {p : Program} {l : Launch} {e : Env} {s : State} {m : MethodId} {args : Array Value} {below : List Frame} {meth : Method} {c : Code} {D : va_G} {cs : Nat → ClassId} {S : List Nat} {ad : Nat → Nat} {w1 : Nat}
theorem bX2_weigh_59 (Z : CX p s m args meth c cX2_weigh 5 RX2 none D cs (xA S ad) S ad) (hS : xall S) (hw1 : xWalk S w1) {k33 : Int32 → xm → Option (xm)} (x2 : Int32) (x3 : Int32) (x4 : Int32) (M : xm) (hk33 : ∀ (x4 : Int32) (M : xm), XJ p l e rmX2_weigh s m args below meth c D cs (xA S ad) S ad 5 (XRm below args s D cs S ad) 33 [(0, .ref (ad 48)), (2, .int x2), (3, .int x3), (4, .int x4)] [] M (k33 x4 M)) : XJ p l e rmX2_weigh s m args below meth c D cs (xA S ad) S ad 5 (XRm below args s D cs S ad) 59 [(0, .ref (ad 48)), (2, .int x2), (3, .int x3), (4, .int x4)] [] M (fX2_weigh_59 w1 k33 x2 x3 x4 M) := by
  unfold fX2_weigh_59
  refine xj_iinc Z 3 (x4 + 1) (lv' := [(4, .int (x4 + 1)), (0, .ref (ad 48)), (2, .int x2), (3, .int x3)]) dX2_weigh_59 rfl rfl (by decide) rfl ?_
  refine xj_goto Z 33 dX2_weigh_62 (by decide) ?_
  refine xj_sub [1, 2, 3, 0] (lv' := [(0, .ref (ad 48)), (2, .int x2), (3, .int x3), (4, .int (x4 + 1))]) rfl ?_
  exact hk33 (x4 + 1) M
theorem bX2_weigh_33 (Z : CX p s m args meth c cX2_weigh 5 RX2 none D cs (xA S ad) S ad) (hS : xall S) (hw1 : xWalk S w1) (x2 : Int32) (x3 : Int32) : ∀ (n : Nat) (x4 : Int32) (M : xm), XJ p l e rmX2_weigh s m args below meth c D cs (xA S ad) S ad 5 (XRm below args s D cs S ad) 33 [(0, .ref (ad 48)), (2, .int x2), (3, .int x3), (4, .int x4)] [] M (fX2_weigh_33 w1 x2 x3 n x4 M) := by
  intro n
  induction n with
  | zero => intros; exact xj_none
  | succ n ih =>
    intro x4 M
    rw [fX2_weigh_33]
    refine xj_iload Z 3 dX2_weigh_33 rfl ?_
    refine xj_iconst Z 1 dX2_weigh_35 (by decide) ?_
    refine xj_iconst Z 2 dX2_weigh_36 (by decide) ?_
    refine xj_iload_n Z 1 dX2_weigh_37 rfl rfl ?_
    refine xj_imul Z dX2_weigh_38 ?_
    refine xj_ishl Z dX2_weigh_39 ?_
    refine xj_icmp_ge Z 65 dX2_weigh_40 (by decide) (fun _ => ?_) (fun _ => ?_)
    · exact xj_vret Z dX2_weigh_65
    · refine xj_aload_n Z 0 dX2_weigh_43 rfl rfl ?_
      refine xj_iload Z 3 dX2_weigh_44 rfl ?_
      refine xj_iload_n Z 1 dX2_weigh_46 rfl rfl ?_
      refine xj_callVb Z (As := [.int x4, .int x2]) (kX2_setRow l D cs S ad Z.2.2.2.2.2.1.dist hS x4 x2 M) gw_X2_45 (hS 48 (by decide)) rfl rfl (n := 2) (by decide +kernel) rfl ⟨rfl, rfl⟩ (by decide) rfl (Nat.le_of_ble_eq_true rfl) dX2_weigh_47 (fun q1 => ?_)
      refine xj_if_eq Z 59 dX2_weigh_50 (by decide) (fun _ => ?_) (fun _ => ?_)
      · exact bX2_weigh_59 Z hS hw1 x2 x3 x4 q1.2 ih
      · refine xj_aload_n Z 0 dX2_weigh_53 rfl rfl ?_
        refine xj_iload_n Z 1 dX2_weigh_54 rfl rfl ?_
        refine xj_iload_n Z 2 dX2_weigh_55 rfl rfl ?_
        refine xj_callVm Z (As := [.int x2, .int x3]) (kX2_compare l D cs S ad Z.2.2.2.2.2.1.dist hS x2 x3 q1.2) gw_X2_49 (hS 48 (by decide)) rfl rfl (n := 2) (by decide +kernel) rfl ⟨rfl, rfl⟩ (by decide) rfl (Nat.le_of_ble_eq_true rfl) dX2_weigh_56 (fun M2 => ?_)
        exact bX2_weigh_59 Z hS hw1 x2 x3 x4 M2 ih
end
theorem kX2_weigh (l : Launch) (D : va_G) (cs : Nat → ClassId) (S : List Nat) (ad : Nat → Nat) (hd : xdist S ad) {w1 : Nat} (hS : xall S) (hw1 : xWalk S w1) (M : xm) : ∀ r, fX2_weigh w1 M = some r → Met l yX2_weigh [Cond.code yX2_weigh cX2_weigh 5 none] rmX2_weigh (XPc D cs S ad [.ref (ad 48), .ref (ad w1)] M) (XQv D cs S ad r) 0 0 (xA S ad) := by
  refine xm_m (own := RX2) (lv := [(0, .ref (ad 48)), (1, .ref (ad w1))]) (by decide +kernel) rfl rfl (Nat.le_of_ble_eq_true rfl) hd (fun p e s m args below meth c Z => ?_)
  unfold fX2_weigh
  refine xj_aload_n Z 0 dX2_weigh_0 rfl rfl ?_
  refine xj_aload_n Z 1 dX2_weigh_1 rfl rfl ?_
  refine xj_callVm Z (As := [.ref (ad w1)]) (kX2_findPassing l D cs S ad Z.2.2.2.2.2.1.dist hS hw1 M) gw_X2_23 (hS 48 (by decide)) rfl rfl (n := 1) (by decide +kernel) rfl ⟨rfl, rfl⟩ (by decide) rfl (Nat.le_of_ble_eq_true rfl) dX2_weigh_2 (fun M3 => ?_)
  refine xj_aload_n Z 1 dX2_weigh_5 rfl rfl ?_
  refine xg_X2_27 Z (hw1.mem 0 (by decide)) hw1.lay dX2_weigh_6 ?_
  refine xg_X2_33 Z ((hw1.road (M3.2 w1)).mem 0 (by decide)) (hw1.road (M3.2 w1)).lay dX2_weigh_9 ?_
  refine xj_top (fun v4 => ?_)
  refine xj_istore_n Z (lv' := [(2, .int v4), (0, .ref (ad 48)), (1, .ref (ad w1))]) dX2_weigh_12 rfl (by decide) rfl ?_
  refine xj_iconst Z 1 dX2_weigh_13 (by decide) ?_
  refine xj_aload_n Z 2 dX2_weigh_14 rfl rfl ?_
  refine xg_X2_27 Z (hw1.mem 0 (by decide)) hw1.lay dX2_weigh_15 ?_
  refine xg_X2_39 Z ((hw1.road (M3.2 w1)).mem 0 (by decide)) (hw1.road (M3.2 w1)).lay dX2_weigh_18 ?_
  refine xj_ishl Z dX2_weigh_21 ?_
  refine xj_iconst Z 1 dX2_weigh_22 (by decide) ?_
  refine xj_isub Z dX2_weigh_23 ?_
  refine xj_top (fun v5 => ?_)
  refine xj_istore_n Z (lv' := [(3, .int v5), (2, .int v4), (0, .ref (ad 48)), (1, .ref (ad w1))]) dX2_weigh_24 rfl (by decide) rfl ?_
  refine xj_aload_n Z 2 dX2_weigh_25 rfl rfl ?_
  refine xj_iconst Z (-1) dX2_weigh_26 (by decide) ?_
  refine xp_X2_42 Z (hS 48 (by decide)) dX2_weigh_27 (fun M6 _ => ?_)
  refine xj_iconst Z 0 dX2_weigh_30 (by decide) ?_
  refine xj_istore Z (lv' := [(4, .int 0), (3, .int v5), (2, .int v4), (0, .ref (ad 48)), (1, .ref (ad w1))]) dX2_weigh_31 (by decide) rfl ?_
  refine xj_sub [3, 2, 1, 0] (lv' := [(0, .ref (ad 48)), (2, .int v4), (3, .int v5), (4, .int 0)]) rfl ?_
  exact bX2_weigh_33 Z hS hw1 v4 v5 xfuel 0 M6
