/-! WalkingLaw.write(IJ)I -/
theorem dX5_write_0 : decode cX5_write 0 = .ok (.iload_n 1, 1) := by decide +kernel
theorem dX5_write_1 : decode cX5_write 1 = .ok (.iconst 1, 1) := by decide +kernel
theorem dX5_write_2 : decode cX5_write 2 = .ok (.if_icmp .lt 9, 3) := by decide +kernel
theorem dX5_write_5 : decode cX5_write 5 = .ok (.iload_n 1, 1) := by decide +kernel
theorem dX5_write_6 : decode cX5_write 6 = .ok (.bipush 8, 2) := by decide +kernel
theorem dX5_write_8 : decode cX5_write 8 = .ok (.if_icmp .le 5, 3) := by decide +kernel
theorem dX5_write_11 : decode cX5_write 11 = .ok (.iconst (-1), 1) := by decide +kernel
theorem dX5_write_12 : decode cX5_write 12 = .ok (.ireturn, 1) := by decide +kernel
theorem dX5_write_13 : decode cX5_write 13 = .ok (.aload_n 0, 1) := by decide +kernel
theorem dX5_write_14 : decode cX5_write 14 = .ok (.getfield 10, 3) := by decide +kernel
theorem dX5_write_17 : decode cX5_write 17 = .ok (.iload_n 1, 1) := by decide +kernel
theorem dX5_write_18 : decode cX5_write 18 = .ok (.lload_n 2, 1) := by decide +kernel
theorem dX5_write_19 : decode cX5_write 19 = .ok (.invokevirtual 67, 3) := by decide +kernel
theorem dX5_write_22 : decode cX5_write 22 = .ok (.ifCond .eq 13, 3) := by decide +kernel
theorem dX5_write_25 : decode cX5_write 25 = .ok (.aload_n 0, 1) := by decide +kernel
theorem dX5_write_26 : decode cX5_write 26 = .ok (.getfield 10, 3) := by decide +kernel
theorem dX5_write_29 : decode cX5_write 29 = .ok (.getfield 71, 3) := by decide +kernel
theorem dX5_write_32 : decode cX5_write 32 = .ok (.goto 5, 3) := by decide +kernel
theorem dX5_write_35 : decode cX5_write 35 = .ok (.bipush (-3), 2) := by decide +kernel
theorem dX5_write_37 : decode cX5_write 37 = .ok (.ireturn, 1) := by decide +kernel
def rmX5_write : Room := { frames := 1, cells := 0, slots := 0, locals := 24 }
def fX5_write_11 (M : xm) : Option (Int32 × xm) := (some ((-1), M))
def fX5_write_37 (t0 : Int32) (M : xm) : Option (Int32 × xm) := (some (t0, M))
def fX5_write (x1 : Int32) (y2 : Int64) (M : xm) : Option (Int32 × xm) := (if x1 < 1 then (fX5_write_11 M) else (if x1 ≤ 8 then (fX3_append x1 y2 M).bind (fun q1 => (if q1.1 = 0 then (fX5_write_37 (-3) q1.2) else (fX5_write_37 (q1.2.1 1 2) q1.2))) else (fX5_write_11 M)))
section
variable {p : Program} {l : Launch} {e : Env} {s : State} {m : MethodId} {args : Array Value} {below : List Frame} {meth : Method} {c : Code} {D : va_G} {cs : Nat → ClassId} {S : List Nat} {ad : Nat → Nat}
theorem bX5_write_11 (Z : CX p s m args meth c cX5_write 4 RX5 (some .int) D cs (xA S ad) S ad) (hS : xall S) (M : xm) : XJ p l e rmX5_write s m args below meth c D cs (xA S ad) S ad 4 (XRb below args s D cs S ad) 11 [] [] M (fX5_write_11 M) := by
  unfold fX5_write_11
  refine xj_iconst Z (-1) dX5_write_11 (by decide) ?_
  exact xj_ret_b Z dX5_write_12
theorem bX5_write_37 (Z : CX p s m args meth c cX5_write 4 RX5 (some .int) D cs (xA S ad) S ad) (hS : xall S) (t0 : Int32) (M : xm) : XJ p l e rmX5_write s m args below meth c D cs (xA S ad) S ad 4 (XRb below args s D cs S ad) 37 [] [.int t0] M (fX5_write_37 t0 M) := by
  unfold fX5_write_37
  exact xj_ret_b Z dX5_write_37
end
theorem kX5_write (l : Launch) (D : va_G) (cs : Nat → ClassId) (S : List Nat) (ad : Nat → Nat) (hd : xdist S ad) (hS : xall S) (x1 : Int32) (y2 : Int64) (M : xm) : ∀ r, fX5_write x1 y2 M = some r → Met l yX5_write [Cond.code yX5_write cX5_write 4 (some .int)] rmX5_write (XPc D cs S ad [.ref (ad 0), .int x1, .long y2] M) (XQi D cs S ad r.1 r.2) 0 0 (xA S ad) := by
  refine xm_b (own := RX5) (lv := [(0, .ref (ad 0)), (1, .int x1), (2, .long y2)]) (by decide +kernel) rfl rfl (Nat.le_of_ble_eq_true rfl) hd (fun p e s m args below meth c Z => ?_)
  unfold fX5_write
  refine xj_iload_n Z 1 dX5_write_0 rfl rfl ?_
  refine xj_iconst Z 1 dX5_write_1 (by decide) ?_
  refine xj_icmp_lt Z 11 dX5_write_2 (by decide) (fun _ => ?_) (fun _ => ?_)
  · refine xj_sub [] (lv' := []) rfl ?_
    exact bX5_write_11 Z hS M
  · refine xj_iload_n Z 1 dX5_write_5 rfl rfl ?_
    refine xj_bipush Z 8 dX5_write_6 (by decide) ?_
    refine xj_icmp_le Z 13 dX5_write_8 (by decide) (fun _ => ?_) (fun _ => ?_)
    · refine xj_aload_n Z 0 dX5_write_13 rfl rfl ?_
      refine xg_X5_10 Z (hS 0 (by decide)) dX5_write_14 ?_
      refine xj_iload_n Z 1 dX5_write_17 rfl rfl ?_
      refine xj_lload_n Z 2 dX5_write_18 rfl rfl ?_
      refine xj_callVb Z (As := [.int x1, .long y2]) (kX3_append l D cs S ad Z.2.2.2.2.2.1.dist hS x1 y2 M) gw_X5_67 (hS 1 (by decide)) rfl rfl (n := 2) (by decide +kernel) rfl ⟨rfl, rfl⟩ (by decide) rfl (Nat.le_of_ble_eq_true rfl) dX5_write_19 (fun q1 => ?_)
      refine xj_if_eq Z 35 dX5_write_22 (by decide) (fun _ => ?_) (fun _ => ?_)
      · refine xj_bipush Z (-3) dX5_write_35 (by decide) ?_
        refine xj_sub [] (lv' := []) rfl ?_
        exact bX5_write_37 Z hS (-3) q1.2
      · refine xj_aload_n Z 0 dX5_write_25 rfl rfl ?_
        refine xg_X5_10 Z (hS 0 (by decide)) dX5_write_26 ?_
        refine xg_X5_71 Z (hS 1 (by decide)) dX5_write_29 ?_
        refine xj_goto Z 37 dX5_write_32 (by decide) ?_
        refine xj_sub [] (lv' := []) rfl ?_
        exact bX5_write_37 Z hS (q1.2.1 1 2) q1.2
    · refine xj_sub [] (lv' := []) rfl ?_
      exact bX5_write_11 Z hS M
/-! WalkingLaw.wipe()I -/
theorem dX5_wipe_0 : decode cX5_wipe 0 = .ok (.aload_n 0, 1) := by decide +kernel
theorem dX5_wipe_1 : decode cX5_wipe 1 = .ok (.getfield 10, 3) := by decide +kernel
theorem dX5_wipe_4 : decode cX5_wipe 4 = .ok (.getfield 71, 3) := by decide +kernel
theorem dX5_wipe_7 : decode cX5_wipe 7 = .ok (.istore_n 1, 1) := by decide +kernel
theorem dX5_wipe_8 : decode cX5_wipe 8 = .ok (.aload_n 0, 1) := by decide +kernel
theorem dX5_wipe_9 : decode cX5_wipe 9 = .ok (.getfield 10, 3) := by decide +kernel
theorem dX5_wipe_12 : decode cX5_wipe 12 = .ok (.iconst 0, 1) := by decide +kernel
theorem dX5_wipe_13 : decode cX5_wipe 13 = .ok (.putfield 71, 3) := by decide +kernel
theorem dX5_wipe_16 : decode cX5_wipe 16 = .ok (.iload_n 1, 1) := by decide +kernel
theorem dX5_wipe_17 : decode cX5_wipe 17 = .ok (.ireturn, 1) := by decide +kernel
def rmX5_wipe : Room := { frames := 0, cells := 0, slots := 0, locals := 0 }
def fX5_wipe (M : xm) : Option (Int32 × xm) := xl (M.1 1 2) (fun v1 => xl (up M 1 2 0) (fun M2 => (some (v1, M2))))
section
variable {p : Program} {l : Launch} {e : Env} {s : State} {m : MethodId} {args : Array Value} {below : List Frame} {meth : Method} {c : Code} {D : va_G} {cs : Nat → ClassId} {S : List Nat} {ad : Nat → Nat}
end
theorem kX5_wipe (l : Launch) (D : va_G) (cs : Nat → ClassId) (S : List Nat) (ad : Nat → Nat) (hd : xdist S ad) (hS : xall S) (M : xm) : ∀ r, fX5_wipe M = some r → Met l yX5_wipe [Cond.code yX5_wipe cX5_wipe 2 (some .int)] rmX5_wipe (XPc D cs S ad [.ref (ad 0)] M) (XQi D cs S ad r.1 r.2) 0 0 (xA S ad) := by
  refine xm_b (own := RX5) (lv := [(0, .ref (ad 0))]) (by decide +kernel) rfl rfl (Nat.le_of_ble_eq_true rfl) hd (fun p e s m args below meth c Z => ?_)
  unfold fX5_wipe
  refine xj_aload_n Z 0 dX5_wipe_0 rfl rfl ?_
  refine xg_X5_10 Z (hS 0 (by decide)) dX5_wipe_1 ?_
  refine xg_X5_71 Z (hS 1 (by decide)) dX5_wipe_4 ?_
  refine xj_top (fun v1 => ?_)
  refine xj_istore_n Z (lv' := [(1, .int v1), (0, .ref (ad 0))]) dX5_wipe_7 rfl (by decide) rfl ?_
  refine xj_aload_n Z 1 dX5_wipe_8 rfl rfl ?_
  refine xg_X5_10 Z (hS 0 (by decide)) dX5_wipe_9 ?_
  refine xj_iconst Z 0 dX5_wipe_12 (by decide) ?_
  refine xp_X5_71 Z (hS 1 (by decide)) dX5_wipe_13 (fun M2 _ => ?_)
  refine xj_iload_n Z 0 dX5_wipe_16 rfl rfl ?_
  exact xj_ret_b Z dX5_wipe_17
/-! WalkingLaw.fault()I -/
theorem dX5_fault_0 : decode cX5_fault 0 = .ok (.aload_n 0, 1) := by decide +kernel
theorem dX5_fault_1 : decode cX5_fault 1 = .ok (.getfield 10, 3) := by decide +kernel
theorem dX5_fault_4 : decode cX5_fault 4 = .ok (.aload_n 0, 1) := by decide +kernel
theorem dX5_fault_5 : decode cX5_fault 5 = .ok (.getfield 23, 3) := by decide +kernel
theorem dX5_fault_8 : decode cX5_fault 8 = .ok (.invokevirtual 74, 3) := by decide +kernel
theorem dX5_fault_11 : decode cX5_fault 11 = .ok (.ireturn, 1) := by decide +kernel
def rmX5_fault : Room := { frames := 5, cells := 0, slots := 0, locals := 118 }
def fX5_fault (M : xm) : Option (Int32 × xm) := (fX3_tell (rd (M.2 100)) M).bind (fun q1 => (some (q1.1, q1.2)))
section
variable {p : Program} {l : Launch} {e : Env} {s : State} {m : MethodId} {args : Array Value} {below : List Frame} {meth : Method} {c : Code} {D : va_G} {cs : Nat → ClassId} {S : List Nat} {ad : Nat → Nat}
end
theorem kX5_fault (l : Launch) (D : va_G) (cs : Nat → ClassId) (S : List Nat) (ad : Nat → Nat) (hd : xdist S ad) (hS : xall S) (M : xm) : ∀ r, fX5_fault M = some r → Met l yX5_fault [Cond.code yX5_fault cX5_fault 1 (some .int)] rmX5_fault (XPc D cs S ad [.ref (ad 0)] M) (XQi D cs S ad r.1 r.2) 0 0 (xA S ad) := by
  refine xm_b (own := RX5) (lv := [(0, .ref (ad 0))]) (by decide +kernel) rfl rfl (Nat.le_of_ble_eq_true rfl) hd (fun p e s m args below meth c Z => ?_)
  unfold fX5_fault
  refine xj_aload_n Z 0 dX5_fault_0 rfl rfl ?_
  refine xg_X5_10 Z (hS 0 (by decide)) dX5_fault_1 ?_
  refine xj_aload_n Z 0 dX5_fault_4 rfl rfl ?_
  refine xg_X5_23 Z (hS 0 (by decide)) dX5_fault_5 ?_
  refine xj_callVb Z (As := [.ref (ad (rd (M.2 100)))]) (kX3_tell l D cs S ad Z.2.2.2.2.2.1.dist hS (xall_r hS (M.2 100)) M) gw_X5_74 (hS 1 (by decide)) rfl rfl (n := 1) (by decide +kernel) rfl ⟨rfl, rfl⟩ (by decide) rfl (Nat.le_of_ble_eq_true rfl) dX5_fault_8 (fun q1 => ?_)
  exact xj_ret_b Z dX5_fault_11
/-! WalkingLaw.lay()I -/
theorem dX5_lay_0 : decode cX5_lay 0 = .ok (.aload_n 0, 1) := by decide +kernel
theorem dX5_lay_1 : decode cX5_lay 1 = .ok (.getfield 10, 3) := by decide +kernel
theorem dX5_lay_4 : decode cX5_lay 4 = .ok (.aload_n 0, 1) := by decide +kernel
theorem dX5_lay_5 : decode cX5_lay 5 = .ok (.getfield 23, 3) := by decide +kernel
theorem dX5_lay_8 : decode cX5_lay 8 = .ok (.invokevirtual 74, 3) := by decide +kernel
theorem dX5_lay_11 : decode cX5_lay 11 = .ok (.bipush (-4), 2) := by decide +kernel
theorem dX5_lay_13 : decode cX5_lay 13 = .ok (.if_icmp .ne 23, 3) := by decide +kernel
theorem dX5_lay_16 : decode cX5_lay 16 = .ok (.aload_n 0, 1) := by decide +kernel
theorem dX5_lay_17 : decode cX5_lay 17 = .ok (.getfield 23, 3) := by decide +kernel
theorem dX5_lay_20 : decode cX5_lay 20 = .ok (.getfield 78, 3) := by decide +kernel
theorem dX5_lay_23 : decode cX5_lay 23 = .ok (.ifCond .eq 13, 3) := by decide +kernel
theorem dX5_lay_26 : decode cX5_lay 26 = .ok (.aload_n 0, 1) := by decide +kernel
theorem dX5_lay_27 : decode cX5_lay 27 = .ok (.getfield 23, 3) := by decide +kernel
theorem dX5_lay_30 : decode cX5_lay 30 = .ok (.getfield 81, 3) := by decide +kernel
theorem dX5_lay_33 : decode cX5_lay 33 = .ok (.ifCond .ne 6, 3) := by decide +kernel
theorem dX5_lay_36 : decode cX5_lay 36 = .ok (.bipush (-2), 2) := by decide +kernel
theorem dX5_lay_38 : decode cX5_lay 38 = .ok (.ireturn, 1) := by decide +kernel
theorem dX5_lay_39 : decode cX5_lay 39 = .ok (.aload_n 0, 1) := by decide +kernel
theorem dX5_lay_40 : decode cX5_lay 40 = .ok (.getfield 23, 3) := by decide +kernel
theorem dX5_lay_43 : decode cX5_lay 43 = .ok (.astore_n 1, 1) := by decide +kernel
theorem dX5_lay_44 : decode cX5_lay 44 = .ok (.aload_n 0, 1) := by decide +kernel
theorem dX5_lay_45 : decode cX5_lay 45 = .ok (.aload_n 0, 1) := by decide +kernel
theorem dX5_lay_46 : decode cX5_lay 46 = .ok (.getfield 19, 3) := by decide +kernel
theorem dX5_lay_49 : decode cX5_lay 49 = .ok (.putfield 23, 3) := by decide +kernel
theorem dX5_lay_52 : decode cX5_lay 52 = .ok (.aload_n 0, 1) := by decide +kernel
theorem dX5_lay_53 : decode cX5_lay 53 = .ok (.aload_n 1, 1) := by decide +kernel
theorem dX5_lay_54 : decode cX5_lay 54 = .ok (.putfield 19, 3) := by decide +kernel
theorem dX5_lay_57 : decode cX5_lay 57 = .ok (.aload_n 0, 1) := by decide +kernel
theorem dX5_lay_58 : decode cX5_lay 58 = .ok (.getfield 38, 3) := by decide +kernel
theorem dX5_lay_61 : decode cX5_lay 61 = .ok (.aload_n 0, 1) := by decide +kernel
theorem dX5_lay_62 : decode cX5_lay 62 = .ok (.getfield 19, 3) := by decide +kernel
theorem dX5_lay_65 : decode cX5_lay 65 = .ok (.invokevirtual 84, 3) := by decide +kernel
theorem dX5_lay_68 : decode cX5_lay 68 = .ok (.aload_n 0, 1) := by decide +kernel
theorem dX5_lay_69 : decode cX5_lay 69 = .ok (.getfield 56, 3) := by decide +kernel
theorem dX5_lay_72 : decode cX5_lay 72 = .ok (.iconst 0, 1) := by decide +kernel
theorem dX5_lay_73 : decode cX5_lay 73 = .ok (.putfield 87, 3) := by decide +kernel
theorem dX5_lay_76 : decode cX5_lay 76 = .ok (.aload_n 0, 1) := by decide +kernel
theorem dX5_lay_77 : decode cX5_lay 77 = .ok (.iconst 0, 1) := by decide +kernel
theorem dX5_lay_78 : decode cX5_lay 78 = .ok (.putfield 49, 3) := by decide +kernel
theorem dX5_lay_81 : decode cX5_lay 81 = .ok (.aload_n 0, 1) := by decide +kernel
theorem dX5_lay_82 : decode cX5_lay 82 = .ok (.getfield 19, 3) := by decide +kernel
theorem dX5_lay_85 : decode cX5_lay 85 = .ok (.getfield 81, 3) := by decide +kernel
theorem dX5_lay_88 : decode cX5_lay 88 = .ok (.ireturn, 1) := by decide +kernel
def rmX5_lay : Room := { frames := 5, cells := 0, slots := 0, locals := 118 }
def fX5_lay_36 (M : xm) : Option (Int32 × xm) := (some ((-2), M))
def fX5_lay (M : xm) : Option (Int32 × xm) := (fX3_tell (rd (M.2 100)) M).bind (fun q1 => (if q1.1 = (-4) then (if (q1.2.1 (rd (q1.2.2 100)) 0) = 0 then (fX5_lay_36 q1.2) else (if (q1.2.1 (rd (q1.2.2 100)) 6) = 0 then (fX5_lay_36 q1.2) else xl (upr q1.2 100 (xrb (rd (q1.2.2 0)))) (fun M2 => xl (upr M2 0 (xrb (rd (q1.2.2 100)))) (fun M3 => (fX4_begin 22 (rd (M3.2 0)) M3).bind (fun M4 => xl (up M4 43 3 0) (fun M5 => xl (up M5 0 6 0) (fun M6 => (some ((M6.1 (rd (M6.2 0)) 6), M6))))))))) else (fX5_lay_36 q1.2)))
section
variable {p : Program} {l : Launch} {e : Env} {s : State} {m : MethodId} {args : Array Value} {below : List Frame} {meth : Method} {c : Code} {D : va_G} {cs : Nat → ClassId} {S : List Nat} {ad : Nat → Nat}
theorem bX5_lay_36 (Z : CX p s m args meth c cX5_lay 2 RX5 (some .int) D cs (xA S ad) S ad) (hS : xall S) (M : xm) : XJ p l e rmX5_lay s m args below meth c D cs (xA S ad) S ad 2 (XRb below args s D cs S ad) 36 [] [] M (fX5_lay_36 M) := by
  unfold fX5_lay_36
  refine xj_bipush Z (-2) dX5_lay_36 (by decide) ?_
  exact xj_ret_b Z dX5_lay_38
end
theorem kX5_lay (l : Launch) (D : va_G) (cs : Nat → ClassId) (S : List Nat) (ad : Nat → Nat) (hd : xdist S ad) (hS : xall S) (M : xm) : ∀ r, fX5_lay M = some r → Met l yX5_lay [Cond.code yX5_lay cX5_lay 2 (some .int)] rmX5_lay (XPc D cs S ad [.ref (ad 0)] M) (XQi D cs S ad r.1 r.2) 0 0 (xA S ad) := by
  refine xm_b (own := RX5) (lv := [(0, .ref (ad 0))]) (by decide +kernel) rfl rfl (Nat.le_of_ble_eq_true rfl) hd (fun p e s m args below meth c Z => ?_)
  unfold fX5_lay
  refine xj_aload_n Z 0 dX5_lay_0 rfl rfl ?_
  refine xg_X5_10 Z (hS 0 (by decide)) dX5_lay_1 ?_
  refine xj_aload_n Z 0 dX5_lay_4 rfl rfl ?_
  refine xg_X5_23 Z (hS 0 (by decide)) dX5_lay_5 ?_
  refine xj_callVb Z (As := [.ref (ad (rd (M.2 100)))]) (kX3_tell l D cs S ad Z.2.2.2.2.2.1.dist hS (xall_r hS (M.2 100)) M) gw_X5_74 (hS 1 (by decide)) rfl rfl (n := 1) (by decide +kernel) rfl ⟨rfl, rfl⟩ (by decide) rfl (Nat.le_of_ble_eq_true rfl) dX5_lay_8 (fun q1 => ?_)
  refine xj_bipush Z (-4) dX5_lay_11 (by decide) ?_
  refine xj_icmp_ne Z 36 dX5_lay_13 (by decide) (fun _ => ?_) (fun _ => ?_)
  · refine xj_sub [] (lv' := []) rfl ?_
    exact bX5_lay_36 Z hS q1.2
  · refine xj_aload_n Z 0 dX5_lay_16 rfl rfl ?_
    refine xg_X5_23 Z (hS 0 (by decide)) dX5_lay_17 ?_
    refine xg_X5_78 Z ((xall_r hS (q1.2.2 100)).mem 0 (by decide)) (xall_r hS (q1.2.2 100)).lay dX5_lay_20 ?_
    refine xj_if_eq Z 36 dX5_lay_23 (by decide) (fun _ => ?_) (fun _ => ?_)
    · refine xj_sub [] (lv' := []) rfl ?_
      exact bX5_lay_36 Z hS q1.2
    · refine xj_aload_n Z 0 dX5_lay_26 rfl rfl ?_
      refine xg_X5_23 Z (hS 0 (by decide)) dX5_lay_27 ?_
      refine xg_X5_81 Z ((xall_r hS (q1.2.2 100)).mem 0 (by decide)) (xall_r hS (q1.2.2 100)).lay dX5_lay_30 ?_
      refine xj_if_ne Z 39 dX5_lay_33 (by decide) (fun _ => ?_) (fun _ => ?_)
      · refine xj_aload_n Z 0 dX5_lay_39 rfl rfl ?_
        refine xg_X5_23 Z (hS 0 (by decide)) dX5_lay_40 ?_
        refine xj_astore_n Z (lv' := [(1, .ref (ad (rd (q1.2.2 100)))), (0, .ref (ad 0))]) dX5_lay_43 rfl (by decide) rfl ?_
        refine xj_aload_n Z 1 dX5_lay_44 rfl rfl ?_
        refine xj_aload_n Z 1 dX5_lay_45 rfl rfl ?_
        refine xg_X5_19 Z (hS 0 (by decide)) dX5_lay_46 ?_
        refine xp_X5_23 Z (hS 0 (by decide)) (xall_r hS (q1.2.2 0)) dX5_lay_49 (fun M2 _ => ?_)
        refine xj_aload_n Z 1 dX5_lay_52 rfl rfl ?_
        refine xj_aload_n Z 0 dX5_lay_53 rfl rfl ?_
        refine xp_X5_19 Z (hS 0 (by decide)) (xall_r hS (q1.2.2 100)) dX5_lay_54 (fun M3 _ => ?_)
        refine xj_aload_n Z 1 dX5_lay_57 rfl rfl ?_
        refine xg_X5_38 Z (hS 0 (by decide)) dX5_lay_58 ?_
        refine xj_aload_n Z 1 dX5_lay_61 rfl rfl ?_
        refine xg_X5_19 Z (hS 0 (by decide)) dX5_lay_62 ?_
        refine xj_callVm Z (As := [.ref (ad (rd (M3.2 0)))]) (kX4_begin l D cs S ad Z.2.2.2.2.2.1.dist (xall_w22 hS) (xall_r hS (M3.2 0)) M3) gw_X5_84 ((xall_w22 hS).mem 0 (by decide)) (xall_w22 hS).lay rfl (n := 1) (by decide +kernel) rfl ⟨rfl, rfl⟩ (by decide) rfl (Nat.le_of_ble_eq_true rfl) dX5_lay_65 (fun M4 => ?_)
        refine xj_aload_n Z 1 dX5_lay_68 rfl rfl ?_
        refine xg_X5_56 Z (hS 0 (by decide)) dX5_lay_69 ?_
        refine xj_iconst Z 0 dX5_lay_72 (by decide) ?_
        refine xp_X5_87 Z (hS 43 (by decide)) dX5_lay_73 (fun M5 _ => ?_)
        refine xj_aload_n Z 1 dX5_lay_76 rfl rfl ?_
        refine xj_iconst Z 0 dX5_lay_77 (by decide) ?_
        refine xp_X5_49 Z (hS 0 (by decide)) dX5_lay_78 (fun M6 _ => ?_)
        refine xj_aload_n Z 1 dX5_lay_81 rfl rfl ?_
        refine xg_X5_19 Z (hS 0 (by decide)) dX5_lay_82 ?_
        refine xg_X5_81 Z ((xall_r hS (M6.2 0)).mem 0 (by decide)) (xall_r hS (M6.2 0)).lay dX5_lay_85 ?_
        exact xj_ret_b Z dX5_lay_88
      · refine xj_sub [] (lv' := []) rfl ?_
        exact bX5_lay_36 Z hS q1.2
/-! WalkingLaw.isParish(I)Z -/
theorem dX5_isParish_0 : decode cX5_isParish 0 = .ok (.iload_n 1, 1) := by decide +kernel
theorem dX5_isParish_1 : decode cX5_isParish 1 = .ok (.ifCond .lt 18, 3) := by decide +kernel
theorem dX5_isParish_4 : decode cX5_isParish 4 = .ok (.iload_n 1, 1) := by decide +kernel
theorem dX5_isParish_5 : decode cX5_isParish 5 = .ok (.aload_n 0, 1) := by decide +kernel
theorem dX5_isParish_6 : decode cX5_isParish 6 = .ok (.getfield 19, 3) := by decide +kernel
theorem dX5_isParish_9 : decode cX5_isParish 9 = .ok (.getfield 78, 3) := by decide +kernel
theorem dX5_isParish_12 : decode cX5_isParish 12 = .ok (.if_icmp .ge 7, 3) := by decide +kernel
theorem dX5_isParish_15 : decode cX5_isParish 15 = .ok (.iconst 1, 1) := by decide +kernel
theorem dX5_isParish_16 : decode cX5_isParish 16 = .ok (.goto 4, 3) := by decide +kernel
theorem dX5_isParish_19 : decode cX5_isParish 19 = .ok (.iconst 0, 1) := by decide +kernel
theorem dX5_isParish_20 : decode cX5_isParish 20 = .ok (.ireturn, 1) := by decide +kernel
def rmX5_isParish : Room := { frames := 0, cells := 0, slots := 0, locals := 0 }
def fX5_isParish_20 (t0 : Int32) (M : xm) : Option (Int32) := (xbo t0 (some t0))
def fX5_isParish_19 (M : xm) : Option (Int32) := (fX5_isParish_20 0 M)
def fX5_isParish (x1 : Int32) (M : xm) : Option (Int32) := (if x1 < 0 then (fX5_isParish_19 M) else (if (M.1 (rd (M.2 0)) 0) ≤ x1 then (fX5_isParish_19 M) else (fX5_isParish_20 1 M)))
section
variable {p : Program} {l : Launch} {e : Env} {s : State} {m : MethodId} {args : Array Value} {below : List Frame} {meth : Method} {c : Code} {D : va_G} {cs : Nat → ClassId} {S : List Nat} {ad : Nat → Nat}
theorem bX5_isParish_20 (Z : CX p s m args meth c cX5_isParish 2 RX5 (some .boolean) D cs (xA S ad) S ad) (hS : xall S) (t0 : Int32) (M : xm) : XJ p l e rmX5_isParish s m args below meth c D cs (xA S ad) S ad 2 (XRr below args s D cs S ad M) 20 [] [.int t0] M (fX5_isParish_20 t0 M) := by
  unfold fX5_isParish_20
  exact xj_zret_r Z dX5_isParish_20
theorem bX5_isParish_19 (Z : CX p s m args meth c cX5_isParish 2 RX5 (some .boolean) D cs (xA S ad) S ad) (hS : xall S) (M : xm) : XJ p l e rmX5_isParish s m args below meth c D cs (xA S ad) S ad 2 (XRr below args s D cs S ad M) 19 [] [] M (fX5_isParish_19 M) := by
  unfold fX5_isParish_19
  refine xj_iconst Z 0 dX5_isParish_19 (by decide) ?_
  exact bX5_isParish_20 Z hS 0 M
end
theorem kX5_isParish (l : Launch) (D : va_G) (cs : Nat → ClassId) (S : List Nat) (ad : Nat → Nat) (hd : xdist S ad) (hS : xall S) (x1 : Int32) (M : xm) : ∀ r, fX5_isParish x1 M = some r → Met l yX5_isParish [Cond.code yX5_isParish cX5_isParish 2 (some .boolean)] rmX5_isParish (XPc D cs S ad [.ref (ad 0), .int x1] M) (XQi D cs S ad r M) 0 0 (xA S ad) := by
  refine xm_r (own := RX5) (lv := [(0, .ref (ad 0)), (1, .int x1)]) (by decide +kernel) rfl rfl (Nat.le_of_ble_eq_true rfl) hd (fun p e s m args below meth c Z => ?_)
  unfold fX5_isParish
  refine xj_iload_n Z 1 dX5_isParish_0 rfl rfl ?_
  refine xj_if_lt Z 19 dX5_isParish_1 (by decide) (fun _ => ?_) (fun _ => ?_)
  · refine xj_sub [] (lv' := []) rfl ?_
    exact bX5_isParish_19 Z hS M
  · refine xj_iload_n Z 1 dX5_isParish_4 rfl rfl ?_
    refine xj_aload_n Z 0 dX5_isParish_5 rfl rfl ?_
    refine xg_X5_19 Z (hS 0 (by decide)) dX5_isParish_6 ?_
    refine xg_X5_78 Z ((xall_r hS (M.2 0)).mem 0 (by decide)) (xall_r hS (M.2 0)).lay dX5_isParish_9 ?_
    refine xj_icmp_ge Z 19 dX5_isParish_12 (by decide) (fun _ => ?_) (fun _ => ?_)
    · refine xj_sub [] (lv' := []) rfl ?_
      exact bX5_isParish_19 Z hS M
    · refine xj_iconst Z 1 dX5_isParish_15 (by decide) ?_
      refine xj_goto Z 20 dX5_isParish_16 (by decide) ?_
      refine xj_sub [] (lv' := []) rfl ?_
      exact bX5_isParish_20 Z hS 1 M
/-! WalkingLaw.parish(II)I -/
theorem dX5_parish_0 : decode cX5_parish 0 = .ok (.aload_n 0, 1) := by decide +kernel
theorem dX5_parish_1 : decode cX5_parish 1 = .ok (.iload_n 1, 1) := by decide +kernel
theorem dX5_parish_2 : decode cX5_parish 2 = .ok (.invokevirtual 90, 3) := by decide +kernel
theorem dX5_parish_5 : decode cX5_parish 5 = .ok (.ifCond .ne 5, 3) := by decide +kernel
theorem dX5_parish_8 : decode cX5_parish 8 = .ok (.iconst (-1), 1) := by decide +kernel
theorem dX5_parish_9 : decode cX5_parish 9 = .ok (.ireturn, 1) := by decide +kernel
theorem dX5_parish_10 : decode cX5_parish 10 = .ok (.iload_n 2, 1) := by decide +kernel
theorem dX5_parish_11 : decode cX5_parish 11 = .ok (.tableswitch 68 0 3 #[29, 39, 49, 59], 29) := by decide +kernel
theorem dX5_parish_40 : decode cX5_parish 40 = .ok (.aload_n 0, 1) := by decide +kernel
theorem dX5_parish_41 : decode cX5_parish 41 = .ok (.getfield 19, 3) := by decide +kernel
theorem dX5_parish_44 : decode cX5_parish 44 = .ok (.getfield 94, 3) := by decide +kernel
theorem dX5_parish_47 : decode cX5_parish 47 = .ok (.iload_n 1, 1) := by decide +kernel
theorem dX5_parish_48 : decode cX5_parish 48 = .ok (.iaload, 1) := by decide +kernel
theorem dX5_parish_49 : decode cX5_parish 49 = .ok (.ireturn, 1) := by decide +kernel
theorem dX5_parish_50 : decode cX5_parish 50 = .ok (.aload_n 0, 1) := by decide +kernel
theorem dX5_parish_51 : decode cX5_parish 51 = .ok (.getfield 19, 3) := by decide +kernel
theorem dX5_parish_54 : decode cX5_parish 54 = .ok (.getfield 98, 3) := by decide +kernel
theorem dX5_parish_57 : decode cX5_parish 57 = .ok (.iload_n 1, 1) := by decide +kernel
theorem dX5_parish_58 : decode cX5_parish 58 = .ok (.iaload, 1) := by decide +kernel
theorem dX5_parish_59 : decode cX5_parish 59 = .ok (.ireturn, 1) := by decide +kernel
theorem dX5_parish_60 : decode cX5_parish 60 = .ok (.aload_n 0, 1) := by decide +kernel
theorem dX5_parish_61 : decode cX5_parish 61 = .ok (.getfield 19, 3) := by decide +kernel
theorem dX5_parish_64 : decode cX5_parish 64 = .ok (.getfield 101, 3) := by decide +kernel
theorem dX5_parish_67 : decode cX5_parish 67 = .ok (.iload_n 1, 1) := by decide +kernel
theorem dX5_parish_68 : decode cX5_parish 68 = .ok (.iaload, 1) := by decide +kernel
theorem dX5_parish_69 : decode cX5_parish 69 = .ok (.ireturn, 1) := by decide +kernel
theorem dX5_parish_70 : decode cX5_parish 70 = .ok (.aload_n 0, 1) := by decide +kernel
theorem dX5_parish_71 : decode cX5_parish 71 = .ok (.getfield 38, 3) := by decide +kernel
theorem dX5_parish_74 : decode cX5_parish 74 = .ok (.iload_n 1, 1) := by decide +kernel
theorem dX5_parish_75 : decode cX5_parish 75 = .ok (.invokevirtual 104, 3) := by decide +kernel
theorem dX5_parish_78 : decode cX5_parish 78 = .ok (.ireturn, 1) := by decide +kernel
theorem dX5_parish_79 : decode cX5_parish 79 = .ok (.iconst (-1), 1) := by decide +kernel
theorem dX5_parish_80 : decode cX5_parish 80 = .ok (.ireturn, 1) := by decide +kernel
def rmX5_parish : Room := { frames := 1, cells := 0, slots := 0, locals := 25 }
def fX5_parish (x1 : Int32) (x2 : Int32) (M : xm) : Option (Int32) := (fX5_isParish x1 M).bind (fun v1 => (if v1 = 0 then (some (-1)) else (if x2 = 0 then xchk x1 6 ((some (M.1 ((rd (M.2 0)) + 1) x1.toNatClampNeg))) else if x2 = 1 then xchk x1 6 ((some (M.1 ((rd (M.2 0)) + 2) x1.toNatClampNeg))) else if x2 = 2 then xchk x1 6 ((some (M.1 ((rd (M.2 0)) + 3) x1.toNatClampNeg))) else if x2 = 3 then (fX4_thoseIn 22 x1 M).bind (fun v2 => (some v2)) else (some (-1)))))
section
variable {p : Program} {l : Launch} {e : Env} {s : State} {m : MethodId} {args : Array Value} {below : List Frame} {meth : Method} {c : Code} {D : va_G} {cs : Nat → ClassId} {S : List Nat} {ad : Nat → Nat}
end
theorem kX5_parish (l : Launch) (D : va_G) (cs : Nat → ClassId) (S : List Nat) (ad : Nat → Nat) (hd : xdist S ad) (hS : xall S) (x1 : Int32) (x2 : Int32) (M : xm) : ∀ r, fX5_parish x1 x2 M = some r → Met l yX5_parish [Cond.code yX5_parish cX5_parish 3 (some .int)] rmX5_parish (XPc D cs S ad [.ref (ad 0), .int x1, .int x2] M) (XQi D cs S ad r M) 0 0 (xA S ad) := by
  refine xm_r (own := RX5) (lv := [(0, .ref (ad 0)), (1, .int x1), (2, .int x2)]) (by decide +kernel) rfl rfl (Nat.le_of_ble_eq_true rfl) hd (fun p e s m args below meth c Z => ?_)
  unfold fX5_parish
  refine xj_aload_n Z 0 dX5_parish_0 rfl rfl ?_
  refine xj_iload_n Z 1 dX5_parish_1 rfl rfl ?_
  refine xj_callVr Z (As := [.int x1]) (kX5_isParish l D cs S ad Z.2.2.2.2.2.1.dist hS x1 M) gw_X5_90 (hS 0 (by decide)) rfl rfl (n := 1) (by decide +kernel) rfl ⟨rfl, rfl⟩ (by decide) rfl (Nat.le_of_ble_eq_true rfl) dX5_parish_2 (fun v1 => ?_)
  refine xj_if_ne Z 10 dX5_parish_5 (by decide) (fun _ => ?_) (fun _ => ?_)
  · refine xj_iload_n Z 2 dX5_parish_10 rfl rfl ?_
    refine xj_ite (fun h => ?_) (fun h0 => ?_)
    · refine xj_tblIn Z 40 dX5_parish_11 (by rw [h]; decide) (by rw [h]; decide) (by rw [h]; rfl) (by decide) ?_
      refine xj_aload_n Z 0 dX5_parish_40 rfl rfl ?_
      refine xg_X5_19 Z (hS 0 (by decide)) dX5_parish_41 ?_
      refine xg_X5_94 Z ((xall_r hS (M.2 0)).mem 0 (by decide)) (xall_r hS (M.2 0)).lay dX5_parish_44 ?_
      refine xj_iload_n Z 1 dX5_parish_47 rfl rfl ?_
      refine xj_iald Z ((xall_r hS (M.2 0)).mem 1 (by decide)) (xall_r hS (M.2 0)).lay1 dX5_parish_48 (fun _ => ?_)
      exact xj_ret_r Z dX5_parish_49
    refine xj_ite (fun h => ?_) (fun h1 => ?_)
    · refine xj_tblIn Z 50 dX5_parish_11 (by rw [h]; decide) (by rw [h]; decide) (by rw [h]; rfl) (by decide) ?_
      refine xj_aload_n Z 0 dX5_parish_50 rfl rfl ?_
      refine xg_X5_19 Z (hS 0 (by decide)) dX5_parish_51 ?_
      refine xg_X5_98 Z ((xall_r hS (M.2 0)).mem 0 (by decide)) (xall_r hS (M.2 0)).lay dX5_parish_54 ?_
      refine xj_iload_n Z 1 dX5_parish_57 rfl rfl ?_
      refine xj_iald Z ((xall_r hS (M.2 0)).mem 2 (by decide)) (xall_r hS (M.2 0)).lay2 dX5_parish_58 (fun _ => ?_)
      exact xj_ret_r Z dX5_parish_59
    refine xj_ite (fun h => ?_) (fun h2 => ?_)
    · refine xj_tblIn Z 60 dX5_parish_11 (by rw [h]; decide) (by rw [h]; decide) (by rw [h]; rfl) (by decide) ?_
      refine xj_aload_n Z 0 dX5_parish_60 rfl rfl ?_
      refine xg_X5_19 Z (hS 0 (by decide)) dX5_parish_61 ?_
      refine xg_X5_101 Z ((xall_r hS (M.2 0)).mem 0 (by decide)) (xall_r hS (M.2 0)).lay dX5_parish_64 ?_
      refine xj_iload_n Z 1 dX5_parish_67 rfl rfl ?_
      refine xj_iald Z ((xall_r hS (M.2 0)).mem 3 (by decide)) (xall_r hS (M.2 0)).lay3 dX5_parish_68 (fun _ => ?_)
      exact xj_ret_r Z dX5_parish_69
    refine xj_ite (fun h => ?_) (fun h3 => ?_)
    · refine xj_tblIn Z 70 dX5_parish_11 (by rw [h]; decide) (by rw [h]; decide) (by rw [h]; rfl) (by decide) ?_
      refine xj_aload_n Z 0 dX5_parish_70 rfl rfl ?_
      refine xg_X5_38 Z (hS 0 (by decide)) dX5_parish_71 ?_
      refine xj_iload_n Z 1 dX5_parish_74 rfl rfl ?_
      refine xj_callVr Z (As := [.int x1]) (kX4_thoseIn l D cs S ad Z.2.2.2.2.2.1.dist (xall_w22 hS) x1 M) gw_X5_104 ((xall_w22 hS).mem 0 (by decide)) (xall_w22 hS).lay rfl (n := 1) (by decide +kernel) rfl ⟨rfl, rfl⟩ (by decide) rfl (Nat.le_of_ble_eq_true rfl) dX5_parish_75 (fun v2 => ?_)
      exact xj_ret_r Z dX5_parish_78
    refine xj_tblOut Z 79 dX5_parish_11 (by have := xti (n := 0) _ (by decide) h0; have := xti (n := 1) _ (by decide) h1; have := xti (n := 2) _ (by decide) h2; have := xti (n := 3) _ (by decide) h3; omega) (by decide) ?_
    refine xj_iconst Z (-1) dX5_parish_79 (by decide) ?_
    exact xj_ret_r Z dX5_parish_80
  · refine xj_iconst Z (-1) dX5_parish_8 (by decide) ?_
    exact xj_ret_r Z dX5_parish_9
/-! WalkingLaw.isMember(I)Z -/
theorem dX5_isMember_0 : decode cX5_isMember 0 = .ok (.iload_n 1, 1) := by decide +kernel
theorem dX5_isMember_1 : decode cX5_isMember 1 = .ok (.ifCond .lt 18, 3) := by decide +kernel
theorem dX5_isMember_4 : decode cX5_isMember 4 = .ok (.iload_n 1, 1) := by decide +kernel
theorem dX5_isMember_5 : decode cX5_isMember 5 = .ok (.aload_n 0, 1) := by decide +kernel
theorem dX5_isMember_6 : decode cX5_isMember 6 = .ok (.getfield 19, 3) := by decide +kernel
theorem dX5_isMember_9 : decode cX5_isMember 9 = .ok (.getfield 81, 3) := by decide +kernel
theorem dX5_isMember_12 : decode cX5_isMember 12 = .ok (.if_icmp .ge 7, 3) := by decide +kernel
theorem dX5_isMember_15 : decode cX5_isMember 15 = .ok (.iconst 1, 1) := by decide +kernel
theorem dX5_isMember_16 : decode cX5_isMember 16 = .ok (.goto 4, 3) := by decide +kernel
theorem dX5_isMember_19 : decode cX5_isMember 19 = .ok (.iconst 0, 1) := by decide +kernel
theorem dX5_isMember_20 : decode cX5_isMember 20 = .ok (.ireturn, 1) := by decide +kernel
def rmX5_isMember : Room := { frames := 0, cells := 0, slots := 0, locals := 0 }
def fX5_isMember_20 (t0 : Int32) (M : xm) : Option (Int32) := (xbo t0 (some t0))
def fX5_isMember_19 (M : xm) : Option (Int32) := (fX5_isMember_20 0 M)
def fX5_isMember (x1 : Int32) (M : xm) : Option (Int32) := (if x1 < 0 then (fX5_isMember_19 M) else (if (M.1 (rd (M.2 0)) 6) ≤ x1 then (fX5_isMember_19 M) else (fX5_isMember_20 1 M)))
section
variable {p : Program} {l : Launch} {e : Env} {s : State} {m : MethodId} {args : Array Value} {below : List Frame} {meth : Method} {c : Code} {D : va_G} {cs : Nat → ClassId} {S : List Nat} {ad : Nat → Nat}
theorem bX5_isMember_20 (Z : CX p s m args meth c cX5_isMember 2 RX5 (some .boolean) D cs (xA S ad) S ad) (hS : xall S) (t0 : Int32) (M : xm) : XJ p l e rmX5_isMember s m args below meth c D cs (xA S ad) S ad 2 (XRr below args s D cs S ad M) 20 [] [.int t0] M (fX5_isMember_20 t0 M) := by
  unfold fX5_isMember_20
  exact xj_zret_r Z dX5_isMember_20
theorem bX5_isMember_19 (Z : CX p s m args meth c cX5_isMember 2 RX5 (some .boolean) D cs (xA S ad) S ad) (hS : xall S) (M : xm) : XJ p l e rmX5_isMember s m args below meth c D cs (xA S ad) S ad 2 (XRr below args s D cs S ad M) 19 [] [] M (fX5_isMember_19 M) := by
  unfold fX5_isMember_19
  refine xj_iconst Z 0 dX5_isMember_19 (by decide) ?_
  exact bX5_isMember_20 Z hS 0 M
end
theorem kX5_isMember (l : Launch) (D : va_G) (cs : Nat → ClassId) (S : List Nat) (ad : Nat → Nat) (hd : xdist S ad) (hS : xall S) (x1 : Int32) (M : xm) : ∀ r, fX5_isMember x1 M = some r → Met l yX5_isMember [Cond.code yX5_isMember cX5_isMember 2 (some .boolean)] rmX5_isMember (XPc D cs S ad [.ref (ad 0), .int x1] M) (XQi D cs S ad r M) 0 0 (xA S ad) := by
  refine xm_r (own := RX5) (lv := [(0, .ref (ad 0)), (1, .int x1)]) (by decide +kernel) rfl rfl (Nat.le_of_ble_eq_true rfl) hd (fun p e s m args below meth c Z => ?_)
  unfold fX5_isMember
  refine xj_iload_n Z 1 dX5_isMember_0 rfl rfl ?_
  refine xj_if_lt Z 19 dX5_isMember_1 (by decide) (fun _ => ?_) (fun _ => ?_)
  · refine xj_sub [] (lv' := []) rfl ?_
    exact bX5_isMember_19 Z hS M
  · refine xj_iload_n Z 1 dX5_isMember_4 rfl rfl ?_
    refine xj_aload_n Z 0 dX5_isMember_5 rfl rfl ?_
    refine xg_X5_19 Z (hS 0 (by decide)) dX5_isMember_6 ?_
    refine xg_X5_81 Z ((xall_r hS (M.2 0)).mem 0 (by decide)) (xall_r hS (M.2 0)).lay dX5_isMember_9 ?_
    refine xj_icmp_ge Z 19 dX5_isMember_12 (by decide) (fun _ => ?_) (fun _ => ?_)
    · refine xj_sub [] (lv' := []) rfl ?_
      exact bX5_isMember_19 Z hS M
    · refine xj_iconst Z 1 dX5_isMember_15 (by decide) ?_
      refine xj_goto Z 20 dX5_isMember_16 (by decide) ?_
      refine xj_sub [] (lv' := []) rfl ?_
      exact bX5_isMember_20 Z hS 1 M
/-! WalkingLaw.member(II)I -/
theorem dX5_member_0 : decode cX5_member 0 = .ok (.aload_n 0, 1) := by decide +kernel
theorem dX5_member_1 : decode cX5_member 1 = .ok (.iload_n 1, 1) := by decide +kernel
theorem dX5_member_2 : decode cX5_member 2 = .ok (.invokevirtual 108, 3) := by decide +kernel
theorem dX5_member_5 : decode cX5_member 5 = .ok (.ifCond .ne 5, 3) := by decide +kernel
theorem dX5_member_8 : decode cX5_member 8 = .ok (.iconst (-1), 1) := by decide +kernel
theorem dX5_member_9 : decode cX5_member 9 = .ok (.ireturn, 1) := by decide +kernel
theorem dX5_member_10 : decode cX5_member 10 = .ok (.iload_n 2, 1) := by decide +kernel
theorem dX5_member_11 : decode cX5_member 11 = .ok (.tableswitch 81 0 4 #[33, 43, 53, 62, 72], 33) := by decide +kernel
theorem dX5_member_44 : decode cX5_member 44 = .ok (.aload_n 0, 1) := by decide +kernel
theorem dX5_member_45 : decode cX5_member 45 = .ok (.getfield 19, 3) := by decide +kernel
theorem dX5_member_48 : decode cX5_member 48 = .ok (.getfield 111, 3) := by decide +kernel
theorem dX5_member_51 : decode cX5_member 51 = .ok (.iload_n 1, 1) := by decide +kernel
theorem dX5_member_52 : decode cX5_member 52 = .ok (.iaload, 1) := by decide +kernel
theorem dX5_member_53 : decode cX5_member 53 = .ok (.ireturn, 1) := by decide +kernel
theorem dX5_member_54 : decode cX5_member 54 = .ok (.aload_n 0, 1) := by decide +kernel
theorem dX5_member_55 : decode cX5_member 55 = .ok (.getfield 19, 3) := by decide +kernel
theorem dX5_member_58 : decode cX5_member 58 = .ok (.getfield 114, 3) := by decide +kernel
theorem dX5_member_61 : decode cX5_member 61 = .ok (.iload_n 1, 1) := by decide +kernel
theorem dX5_member_62 : decode cX5_member 62 = .ok (.iaload, 1) := by decide +kernel
theorem dX5_member_63 : decode cX5_member 63 = .ok (.ireturn, 1) := by decide +kernel
theorem dX5_member_64 : decode cX5_member 64 = .ok (.aload_n 0, 1) := by decide +kernel
theorem dX5_member_65 : decode cX5_member 65 = .ok (.getfield 38, 3) := by decide +kernel
theorem dX5_member_68 : decode cX5_member 68 = .ok (.iload_n 1, 1) := by decide +kernel
theorem dX5_member_69 : decode cX5_member 69 = .ok (.invokevirtual 117, 3) := by decide +kernel
theorem dX5_member_72 : decode cX5_member 72 = .ok (.ireturn, 1) := by decide +kernel
theorem dX5_member_73 : decode cX5_member 73 = .ok (.aload_n 0, 1) := by decide +kernel
theorem dX5_member_74 : decode cX5_member 74 = .ok (.getfield 38, 3) := by decide +kernel
theorem dX5_member_77 : decode cX5_member 77 = .ok (.getfield 120, 3) := by decide +kernel
theorem dX5_member_80 : decode cX5_member 80 = .ok (.iload_n 1, 1) := by decide +kernel
theorem dX5_member_81 : decode cX5_member 81 = .ok (.iaload, 1) := by decide +kernel
theorem dX5_member_82 : decode cX5_member 82 = .ok (.ireturn, 1) := by decide +kernel
theorem dX5_member_83 : decode cX5_member 83 = .ok (.aload_n 0, 1) := by decide +kernel
theorem dX5_member_84 : decode cX5_member 84 = .ok (.getfield 38, 3) := by decide +kernel
theorem dX5_member_87 : decode cX5_member 87 = .ok (.iload_n 1, 1) := by decide +kernel
theorem dX5_member_88 : decode cX5_member 88 = .ok (.invokevirtual 123, 3) := by decide +kernel
theorem dX5_member_91 : decode cX5_member 91 = .ok (.ireturn, 1) := by decide +kernel
theorem dX5_member_92 : decode cX5_member 92 = .ok (.iconst (-1), 1) := by decide +kernel
theorem dX5_member_93 : decode cX5_member 93 = .ok (.ireturn, 1) := by decide +kernel
def rmX5_member : Room := { frames := 2, cells := 0, slots := 0, locals := 43 }
def fX5_member (x1 : Int32) (x2 : Int32) (M : xm) : Option (Int32) := (fX5_isMember x1 M).bind (fun v1 => (if v1 = 0 then (some (-1)) else (if x2 = 0 then xchk x1 8 ((some (M.1 ((rd (M.2 0)) + 5) x1.toNatClampNeg))) else if x2 = 1 then xchk x1 8 ((some (M.1 ((rd (M.2 0)) + 6) x1.toNatClampNeg))) else if x2 = 2 then (fX4_mindOf 22 x1 M).bind (fun v2 => (some v2)) else if x2 = 3 then xchk x1 8 ((some (M.1 (22 + 1) x1.toNatClampNeg))) else if x2 = 4 then (fX4_parishOf 22 x1 M).bind (fun v3 => (some v3)) else (some (-1)))))
section
variable {p : Program} {l : Launch} {e : Env} {s : State} {m : MethodId} {args : Array Value} {below : List Frame} {meth : Method} {c : Code} {D : va_G} {cs : Nat → ClassId} {S : List Nat} {ad : Nat → Nat}
end
theorem kX5_member (l : Launch) (D : va_G) (cs : Nat → ClassId) (S : List Nat) (ad : Nat → Nat) (hd : xdist S ad) (hS : xall S) (x1 : Int32) (x2 : Int32) (M : xm) : ∀ r, fX5_member x1 x2 M = some r → Met l yX5_member [Cond.code yX5_member cX5_member 3 (some .int)] rmX5_member (XPc D cs S ad [.ref (ad 0), .int x1, .int x2] M) (XQi D cs S ad r M) 0 0 (xA S ad) := by
  refine xm_r (own := RX5) (lv := [(0, .ref (ad 0)), (1, .int x1), (2, .int x2)]) (by decide +kernel) rfl rfl (Nat.le_of_ble_eq_true rfl) hd (fun p e s m args below meth c Z => ?_)
  unfold fX5_member
  refine xj_aload_n Z 0 dX5_member_0 rfl rfl ?_
  refine xj_iload_n Z 1 dX5_member_1 rfl rfl ?_
  refine xj_callVr Z (As := [.int x1]) (kX5_isMember l D cs S ad Z.2.2.2.2.2.1.dist hS x1 M) gw_X5_108 (hS 0 (by decide)) rfl rfl (n := 1) (by decide +kernel) rfl ⟨rfl, rfl⟩ (by decide) rfl (Nat.le_of_ble_eq_true rfl) dX5_member_2 (fun v1 => ?_)
  refine xj_if_ne Z 10 dX5_member_5 (by decide) (fun _ => ?_) (fun _ => ?_)
  · refine xj_iload_n Z 2 dX5_member_10 rfl rfl ?_
    refine xj_ite (fun h => ?_) (fun h0 => ?_)
    · refine xj_tblIn Z 44 dX5_member_11 (by rw [h]; decide) (by rw [h]; decide) (by rw [h]; rfl) (by decide) ?_
      refine xj_aload_n Z 0 dX5_member_44 rfl rfl ?_
      refine xg_X5_19 Z (hS 0 (by decide)) dX5_member_45 ?_
      refine xg_X5_111 Z ((xall_r hS (M.2 0)).mem 0 (by decide)) (xall_r hS (M.2 0)).lay dX5_member_48 ?_
      refine xj_iload_n Z 1 dX5_member_51 rfl rfl ?_
      refine xj_iald Z ((xall_r hS (M.2 0)).mem 5 (by decide)) (xall_r hS (M.2 0)).lay5 dX5_member_52 (fun _ => ?_)
      exact xj_ret_r Z dX5_member_53
    refine xj_ite (fun h => ?_) (fun h1 => ?_)
    · refine xj_tblIn Z 54 dX5_member_11 (by rw [h]; decide) (by rw [h]; decide) (by rw [h]; rfl) (by decide) ?_
      refine xj_aload_n Z 0 dX5_member_54 rfl rfl ?_
      refine xg_X5_19 Z (hS 0 (by decide)) dX5_member_55 ?_
      refine xg_X5_114 Z ((xall_r hS (M.2 0)).mem 0 (by decide)) (xall_r hS (M.2 0)).lay dX5_member_58 ?_
      refine xj_iload_n Z 1 dX5_member_61 rfl rfl ?_
      refine xj_iald Z ((xall_r hS (M.2 0)).mem 6 (by decide)) (xall_r hS (M.2 0)).lay6 dX5_member_62 (fun _ => ?_)
      exact xj_ret_r Z dX5_member_63
    refine xj_ite (fun h => ?_) (fun h2 => ?_)
    · refine xj_tblIn Z 64 dX5_member_11 (by rw [h]; decide) (by rw [h]; decide) (by rw [h]; rfl) (by decide) ?_
      refine xj_aload_n Z 0 dX5_member_64 rfl rfl ?_
      refine xg_X5_38 Z (hS 0 (by decide)) dX5_member_65 ?_
      refine xj_iload_n Z 1 dX5_member_68 rfl rfl ?_
      refine xj_callVr Z (As := [.int x1]) (kX4_mindOf l D cs S ad Z.2.2.2.2.2.1.dist (xall_w22 hS) x1 M) gw_X5_117 ((xall_w22 hS).mem 0 (by decide)) (xall_w22 hS).lay rfl (n := 1) (by decide +kernel) rfl ⟨rfl, rfl⟩ (by decide) rfl (Nat.le_of_ble_eq_true rfl) dX5_member_69 (fun v2 => ?_)
      exact xj_ret_r Z dX5_member_72
    refine xj_ite (fun h => ?_) (fun h3 => ?_)
    · refine xj_tblIn Z 73 dX5_member_11 (by rw [h]; decide) (by rw [h]; decide) (by rw [h]; rfl) (by decide) ?_
      refine xj_aload_n Z 0 dX5_member_73 rfl rfl ?_
      refine xg_X5_38 Z (hS 0 (by decide)) dX5_member_74 ?_
      refine xg_X5_120 Z ((xall_w22 hS).mem 0 (by decide)) (xall_w22 hS).lay dX5_member_77 ?_
      refine xj_iload_n Z 1 dX5_member_80 rfl rfl ?_
      refine xj_iald Z ((xall_w22 hS).mem 1 (by decide)) (xall_w22 hS).lay1 dX5_member_81 (fun _ => ?_)
      exact xj_ret_r Z dX5_member_82
    refine xj_ite (fun h => ?_) (fun h4 => ?_)
    · refine xj_tblIn Z 83 dX5_member_11 (by rw [h]; decide) (by rw [h]; decide) (by rw [h]; rfl) (by decide) ?_
      refine xj_aload_n Z 0 dX5_member_83 rfl rfl ?_
      refine xg_X5_38 Z (hS 0 (by decide)) dX5_member_84 ?_
      refine xj_iload_n Z 1 dX5_member_87 rfl rfl ?_
      refine xj_callVr Z (As := [.int x1]) (kX4_parishOf l D cs S ad Z.2.2.2.2.2.1.dist (xall_w22 hS) x1 M) gw_X5_123 ((xall_w22 hS).mem 0 (by decide)) (xall_w22 hS).lay rfl (n := 1) (by decide +kernel) rfl ⟨rfl, rfl⟩ (by decide) rfl (Nat.le_of_ble_eq_true rfl) dX5_member_88 (fun v3 => ?_)
      exact xj_ret_r Z dX5_member_91
    refine xj_tblOut Z 92 dX5_member_11 (by have := xti (n := 0) _ (by decide) h0; have := xti (n := 1) _ (by decide) h1; have := xti (n := 2) _ (by decide) h2; have := xti (n := 3) _ (by decide) h3; have := xti (n := 4) _ (by decide) h4; omega) (by decide) ?_
    refine xj_iconst Z (-1) dX5_member_92 (by decide) ?_
    exact xj_ret_r Z dX5_member_93
  · refine xj_iconst Z (-1) dX5_member_8 (by decide) ?_
    exact xj_ret_r Z dX5_member_9
/-! WalkingLaw.hours(I)I -/
theorem dX5_hours_0 : decode cX5_hours 0 = .ok (.iload_n 1, 1) := by decide +kernel
theorem dX5_hours_1 : decode cX5_hours 1 = .ok (.iconst 1, 1) := by decide +kernel
theorem dX5_hours_2 : decode cX5_hours 2 = .ok (.if_icmp .lt 9, 3) := by decide +kernel
theorem dX5_hours_5 : decode cX5_hours 5 = .ok (.iload_n 1, 1) := by decide +kernel
theorem dX5_hours_6 : decode cX5_hours 6 = .ok (.bipush 99, 2) := by decide +kernel
theorem dX5_hours_8 : decode cX5_hours 8 = .ok (.if_icmp .le 5, 3) := by decide +kernel
theorem dX5_hours_11 : decode cX5_hours 11 = .ok (.iconst (-1), 1) := by decide +kernel
theorem dX5_hours_12 : decode cX5_hours 12 = .ok (.ireturn, 1) := by decide +kernel
theorem dX5_hours_13 : decode cX5_hours 13 = .ok (.aload_n 0, 1) := by decide +kernel
theorem dX5_hours_14 : decode cX5_hours 14 = .ok (.getfield 38, 3) := by decide +kernel
theorem dX5_hours_17 : decode cX5_hours 17 = .ok (.getfield 126, 3) := by decide +kernel
theorem dX5_hours_20 : decode cX5_hours 20 = .ok (.iload_n 1, 1) := by decide +kernel
theorem dX5_hours_21 : decode cX5_hours 21 = .ok (.iadd, 1) := by decide +kernel
theorem dX5_hours_22 : decode cX5_hours 22 = .ok (.sipush 9999, 3) := by decide +kernel
theorem dX5_hours_25 : decode cX5_hours 25 = .ok (.if_icmp .le 6, 3) := by decide +kernel
theorem dX5_hours_28 : decode cX5_hours 28 = .ok (.bipush (-2), 2) := by decide +kernel
theorem dX5_hours_30 : decode cX5_hours 30 = .ok (.ireturn, 1) := by decide +kernel
theorem dX5_hours_31 : decode cX5_hours 31 = .ok (.aload_n 0, 1) := by decide +kernel
theorem dX5_hours_32 : decode cX5_hours 32 = .ok (.getfield 38, 3) := by decide +kernel
theorem dX5_hours_35 : decode cX5_hours 35 = .ok (.iload_n 1, 1) := by decide +kernel
theorem dX5_hours_36 : decode cX5_hours 36 = .ok (.invokevirtual 129, 3) := by decide +kernel
theorem dX5_hours_39 : decode cX5_hours 39 = .ok (.aload_n 0, 1) := by decide +kernel
theorem dX5_hours_40 : decode cX5_hours 40 = .ok (.getfield 38, 3) := by decide +kernel
theorem dX5_hours_43 : decode cX5_hours 43 = .ok (.invokevirtual 133, 3) := by decide +kernel
theorem dX5_hours_46 : decode cX5_hours 46 = .ok (.ireturn, 1) := by decide +kernel
def rmX5_hours : Room := { frames := 5, cells := 0, slots := 0, locals := 111 }
def fX5_hours_11 (M : xm) : Option (Int32 × xm) := (some ((-1), M))
def fX5_hours (x1 : Int32) (M : xm) : Option (Int32 × xm) := (if x1 < 1 then (fX5_hours_11 M) else (if x1 ≤ 99 then (if ((M.1 22 5) + x1) ≤ 9999 then (fX4_goHours 22 x1 M).bind (fun M1 => (fX4_arrived 22 M1).bind (fun v2 => (some (v2, M1)))) else (some ((-2), M))) else (fX5_hours_11 M)))
section
variable {p : Program} {l : Launch} {e : Env} {s : State} {m : MethodId} {args : Array Value} {below : List Frame} {meth : Method} {c : Code} {D : va_G} {cs : Nat → ClassId} {S : List Nat} {ad : Nat → Nat}
theorem bX5_hours_11 (Z : CX p s m args meth c cX5_hours 2 RX5 (some .int) D cs (xA S ad) S ad) (hS : xall S) (M : xm) : XJ p l e rmX5_hours s m args below meth c D cs (xA S ad) S ad 2 (XRb below args s D cs S ad) 11 [] [] M (fX5_hours_11 M) := by
  unfold fX5_hours_11
  refine xj_iconst Z (-1) dX5_hours_11 (by decide) ?_
  exact xj_ret_b Z dX5_hours_12
end
theorem kX5_hours (l : Launch) (D : va_G) (cs : Nat → ClassId) (S : List Nat) (ad : Nat → Nat) (hd : xdist S ad) (hS : xall S) (x1 : Int32) (M : xm) : ∀ r, fX5_hours x1 M = some r → Met l yX5_hours [Cond.code yX5_hours cX5_hours 2 (some .int)] rmX5_hours (XPc D cs S ad [.ref (ad 0), .int x1] M) (XQi D cs S ad r.1 r.2) 0 0 (xA S ad) := by
  refine xm_b (own := RX5) (lv := [(0, .ref (ad 0)), (1, .int x1)]) (by decide +kernel) rfl rfl (Nat.le_of_ble_eq_true rfl) hd (fun p e s m args below meth c Z => ?_)
  unfold fX5_hours
  refine xj_iload_n Z 1 dX5_hours_0 rfl rfl ?_
  refine xj_iconst Z 1 dX5_hours_1 (by decide) ?_
  refine xj_icmp_lt Z 11 dX5_hours_2 (by decide) (fun _ => ?_) (fun _ => ?_)
  · refine xj_sub [] (lv' := []) rfl ?_
    exact bX5_hours_11 Z hS M
  · refine xj_iload_n Z 1 dX5_hours_5 rfl rfl ?_
    refine xj_bipush Z 99 dX5_hours_6 (by decide) ?_
    refine xj_icmp_le Z 13 dX5_hours_8 (by decide) (fun _ => ?_) (fun _ => ?_)
    · refine xj_aload_n Z 0 dX5_hours_13 rfl rfl ?_
      refine xg_X5_38 Z (hS 0 (by decide)) dX5_hours_14 ?_
      refine xg_X5_126 Z ((xall_w22 hS).mem 0 (by decide)) (xall_w22 hS).lay dX5_hours_17 ?_
      refine xj_iload_n Z 1 dX5_hours_20 rfl rfl ?_
      refine xj_iadd Z dX5_hours_21 ?_
      refine xj_sipush Z 9999 dX5_hours_22 (by decide) ?_
      refine xj_icmp_le Z 31 dX5_hours_25 (by decide) (fun _ => ?_) (fun _ => ?_)
      · refine xj_aload_n Z 0 dX5_hours_31 rfl rfl ?_
        refine xg_X5_38 Z (hS 0 (by decide)) dX5_hours_32 ?_
        refine xj_iload_n Z 1 dX5_hours_35 rfl rfl ?_
        refine xj_callVm Z (As := [.int x1]) (kX4_goHours l D cs S ad Z.2.2.2.2.2.1.dist (xall_w22 hS) x1 M) gw_X5_129 ((xall_w22 hS).mem 0 (by decide)) (xall_w22 hS).lay rfl (n := 1) (by decide +kernel) rfl ⟨rfl, rfl⟩ (by decide) rfl (Nat.le_of_ble_eq_true rfl) dX5_hours_36 (fun M1 => ?_)
        refine xj_aload_n Z 0 dX5_hours_39 rfl rfl ?_
        refine xg_X5_38 Z (hS 0 (by decide)) dX5_hours_40 ?_
        refine xj_callVr Z (As := []) (kX4_arrived l D cs S ad Z.2.2.2.2.2.1.dist (xall_w22 hS) M1) gw_X5_133 ((xall_w22 hS).mem 0 (by decide)) (xall_w22 hS).lay rfl (n := 0) (by decide +kernel) rfl ⟨rfl, rfl⟩ (by decide) rfl (Nat.le_of_ble_eq_true rfl) dX5_hours_43 (fun v2 => ?_)
        exact xj_ret_b Z dX5_hours_46
      · refine xj_bipush Z (-2) dX5_hours_28 (by decide) ?_
        exact xj_ret_b Z dX5_hours_30
    · refine xj_sub [] (lv' := []) rfl ?_
      exact bX5_hours_11 Z hS M
/-! WalkingLaw.isBill(I)Z -/
theorem dX5_isBill_0 : decode cX5_isBill 0 = .ok (.iload_n 1, 1) := by decide +kernel
theorem dX5_isBill_1 : decode cX5_isBill 1 = .ok (.ifCond .lt 18, 3) := by decide +kernel
theorem dX5_isBill_4 : decode cX5_isBill 4 = .ok (.iload_n 1, 1) := by decide +kernel
theorem dX5_isBill_5 : decode cX5_isBill 5 = .ok (.aload_n 0, 1) := by decide +kernel
theorem dX5_isBill_6 : decode cX5_isBill 6 = .ok (.getfield 19, 3) := by decide +kernel
theorem dX5_isBill_9 : decode cX5_isBill 9 = .ok (.getfield 214, 3) := by decide +kernel
theorem dX5_isBill_12 : decode cX5_isBill 12 = .ok (.if_icmp .ge 7, 3) := by decide +kernel
theorem dX5_isBill_15 : decode cX5_isBill 15 = .ok (.iconst 1, 1) := by decide +kernel
theorem dX5_isBill_16 : decode cX5_isBill 16 = .ok (.goto 4, 3) := by decide +kernel
theorem dX5_isBill_19 : decode cX5_isBill 19 = .ok (.iconst 0, 1) := by decide +kernel
theorem dX5_isBill_20 : decode cX5_isBill 20 = .ok (.ireturn, 1) := by decide +kernel
def rmX5_isBill : Room := { frames := 0, cells := 0, slots := 0, locals := 0 }
def fX5_isBill_20 (t0 : Int32) (M : xm) : Option (Int32) := (xbo t0 (some t0))
def fX5_isBill_19 (M : xm) : Option (Int32) := (fX5_isBill_20 0 M)
def fX5_isBill (x1 : Int32) (M : xm) : Option (Int32) := (if x1 < 0 then (fX5_isBill_19 M) else (if (M.1 (rd (M.2 0)) 12) ≤ x1 then (fX5_isBill_19 M) else (fX5_isBill_20 1 M)))
section
variable {p : Program} {l : Launch} {e : Env} {s : State} {m : MethodId} {args : Array Value} {below : List Frame} {meth : Method} {c : Code} {D : va_G} {cs : Nat → ClassId} {S : List Nat} {ad : Nat → Nat}
theorem bX5_isBill_20 (Z : CX p s m args meth c cX5_isBill 2 RX5 (some .boolean) D cs (xA S ad) S ad) (hS : xall S) (t0 : Int32) (M : xm) : XJ p l e rmX5_isBill s m args below meth c D cs (xA S ad) S ad 2 (XRr below args s D cs S ad M) 20 [] [.int t0] M (fX5_isBill_20 t0 M) := by
  unfold fX5_isBill_20
  exact xj_zret_r Z dX5_isBill_20
theorem bX5_isBill_19 (Z : CX p s m args meth c cX5_isBill 2 RX5 (some .boolean) D cs (xA S ad) S ad) (hS : xall S) (M : xm) : XJ p l e rmX5_isBill s m args below meth c D cs (xA S ad) S ad 2 (XRr below args s D cs S ad M) 19 [] [] M (fX5_isBill_19 M) := by
  unfold fX5_isBill_19
  refine xj_iconst Z 0 dX5_isBill_19 (by decide) ?_
  exact bX5_isBill_20 Z hS 0 M
end
theorem kX5_isBill (l : Launch) (D : va_G) (cs : Nat → ClassId) (S : List Nat) (ad : Nat → Nat) (hd : xdist S ad) (hS : xall S) (x1 : Int32) (M : xm) : ∀ r, fX5_isBill x1 M = some r → Met l yX5_isBill [Cond.code yX5_isBill cX5_isBill 2 (some .boolean)] rmX5_isBill (XPc D cs S ad [.ref (ad 0), .int x1] M) (XQi D cs S ad r M) 0 0 (xA S ad) := by
  refine xm_r (own := RX5) (lv := [(0, .ref (ad 0)), (1, .int x1)]) (by decide +kernel) rfl rfl (Nat.le_of_ble_eq_true rfl) hd (fun p e s m args below meth c Z => ?_)
  unfold fX5_isBill
  refine xj_iload_n Z 1 dX5_isBill_0 rfl rfl ?_
  refine xj_if_lt Z 19 dX5_isBill_1 (by decide) (fun _ => ?_) (fun _ => ?_)
  · refine xj_sub [] (lv' := []) rfl ?_
    exact bX5_isBill_19 Z hS M
  · refine xj_iload_n Z 1 dX5_isBill_4 rfl rfl ?_
    refine xj_aload_n Z 0 dX5_isBill_5 rfl rfl ?_
    refine xg_X5_19 Z (hS 0 (by decide)) dX5_isBill_6 ?_
    refine xg_X5_214 Z ((xall_r hS (M.2 0)).mem 0 (by decide)) (xall_r hS (M.2 0)).lay dX5_isBill_9 ?_
    refine xj_icmp_ge Z 19 dX5_isBill_12 (by decide) (fun _ => ?_) (fun _ => ?_)
    · refine xj_sub [] (lv' := []) rfl ?_
      exact bX5_isBill_19 Z hS M
    · refine xj_iconst Z 1 dX5_isBill_15 (by decide) ?_
      refine xj_goto Z 20 dX5_isBill_16 (by decide) ?_
      refine xj_sub [] (lv' := []) rfl ?_
      exact bX5_isBill_20 Z hS 1 M
/-! WalkingLaw.voices(III)I -/
theorem dX5_voices_0 : decode cX5_voices 0 = .ok (.aload_n 0, 1) := by decide +kernel
theorem dX5_voices_1 : decode cX5_voices 1 = .ok (.iload_n 1, 1) := by decide +kernel
theorem dX5_voices_2 : decode cX5_voices 2 = .ok (.invokevirtual 90, 3) := by decide +kernel
theorem dX5_voices_5 : decode cX5_voices 5 = .ok (.ifCond .eq 11, 3) := by decide +kernel
theorem dX5_voices_8 : decode cX5_voices 8 = .ok (.aload_n 0, 1) := by decide +kernel
theorem dX5_voices_9 : decode cX5_voices 9 = .ok (.iload_n 2, 1) := by decide +kernel
theorem dX5_voices_10 : decode cX5_voices 10 = .ok (.invokevirtual 137, 3) := by decide +kernel
theorem dX5_voices_13 : decode cX5_voices 13 = .ok (.ifCond .ne 5, 3) := by decide +kernel
theorem dX5_voices_16 : decode cX5_voices 16 = .ok (.iconst (-1), 1) := by decide +kernel
theorem dX5_voices_17 : decode cX5_voices 17 = .ok (.ireturn, 1) := by decide +kernel
theorem dX5_voices_18 : decode cX5_voices 18 = .ok (.iload_n 3, 1) := by decide +kernel
theorem dX5_voices_19 : decode cX5_voices 19 = .ok (.tableswitch 64 0 2 #[25, 35, 45], 25) := by decide +kernel
theorem dX5_voices_44 : decode cX5_voices 44 = .ok (.aload_n 0, 1) := by decide +kernel
theorem dX5_voices_45 : decode cX5_voices 45 = .ok (.getfield 38, 3) := by decide +kernel
theorem dX5_voices_48 : decode cX5_voices 48 = .ok (.iload_n 1, 1) := by decide +kernel
theorem dX5_voices_49 : decode cX5_voices 49 = .ok (.iload_n 2, 1) := by decide +kernel
theorem dX5_voices_50 : decode cX5_voices 50 = .ok (.invokevirtual 140, 3) := by decide +kernel
theorem dX5_voices_53 : decode cX5_voices 53 = .ok (.ireturn, 1) := by decide +kernel
theorem dX5_voices_54 : decode cX5_voices 54 = .ok (.aload_n 0, 1) := by decide +kernel
theorem dX5_voices_55 : decode cX5_voices 55 = .ok (.getfield 38, 3) := by decide +kernel
theorem dX5_voices_58 : decode cX5_voices 58 = .ok (.iload_n 1, 1) := by decide +kernel
theorem dX5_voices_59 : decode cX5_voices 59 = .ok (.iload_n 2, 1) := by decide +kernel
theorem dX5_voices_60 : decode cX5_voices 60 = .ok (.invokevirtual 144, 3) := by decide +kernel
theorem dX5_voices_63 : decode cX5_voices 63 = .ok (.ireturn, 1) := by decide +kernel
theorem dX5_voices_64 : decode cX5_voices 64 = .ok (.aload_n 0, 1) := by decide +kernel
theorem dX5_voices_65 : decode cX5_voices 65 = .ok (.getfield 38, 3) := by decide +kernel
theorem dX5_voices_68 : decode cX5_voices 68 = .ok (.iload_n 1, 1) := by decide +kernel
theorem dX5_voices_69 : decode cX5_voices 69 = .ok (.iload_n 2, 1) := by decide +kernel
theorem dX5_voices_70 : decode cX5_voices 70 = .ok (.iconst 0, 1) := by decide +kernel
theorem dX5_voices_71 : decode cX5_voices 71 = .ok (.invokevirtual 147, 3) := by decide +kernel
theorem dX5_voices_74 : decode cX5_voices 74 = .ok (.ifCond .eq 7, 3) := by decide +kernel
theorem dX5_voices_77 : decode cX5_voices 77 = .ok (.iconst 1, 1) := by decide +kernel
theorem dX5_voices_78 : decode cX5_voices 78 = .ok (.goto 4, 3) := by decide +kernel
theorem dX5_voices_81 : decode cX5_voices 81 = .ok (.iconst 0, 1) := by decide +kernel
theorem dX5_voices_82 : decode cX5_voices 82 = .ok (.ireturn, 1) := by decide +kernel
theorem dX5_voices_83 : decode cX5_voices 83 = .ok (.iconst (-1), 1) := by decide +kernel
theorem dX5_voices_84 : decode cX5_voices 84 = .ok (.ireturn, 1) := by decide +kernel
def rmX5_voices : Room := { frames := 3, cells := 0, slots := 0, locals := 70 }
def fX5_voices_16 (M : xm) : Option (Int32) := (some (-1))
def fX5_voices_82 (t0 : Int32) (M : xm) : Option (Int32) := (some t0)
def fX5_voices (x1 : Int32) (x2 : Int32) (x3 : Int32) (M : xm) : Option (Int32) := (fX5_isParish x1 M).bind (fun v1 => (if v1 = 0 then (fX5_voices_16 M) else (fX5_isBill x2 M).bind (fun v2 => (if v2 = 0 then (fX5_voices_16 M) else (if x3 = 0 then (fX4_yesIn 22 x1 x2 M).bind (fun v3 => (some v3)) else if x3 = 1 then (fX4_noIn 22 x1 x2 M).bind (fun v4 => (some v4)) else if x3 = 2 then (fX4_passesIn 22 x1 x2 0 M).bind (fun v5 => (if v5 = 0 then (fX5_voices_82 0 M) else (fX5_voices_82 1 M))) else (some (-1)))))))
section
variable {p : Program} {l : Launch} {e : Env} {s : State} {m : MethodId} {args : Array Value} {below : List Frame} {meth : Method} {c : Code} {D : va_G} {cs : Nat → ClassId} {S : List Nat} {ad : Nat → Nat}
theorem bX5_voices_16 (Z : CX p s m args meth c cX5_voices 4 RX5 (some .int) D cs (xA S ad) S ad) (hS : xall S) (M : xm) : XJ p l e rmX5_voices s m args below meth c D cs (xA S ad) S ad 4 (XRr below args s D cs S ad M) 16 [] [] M (fX5_voices_16 M) := by
  unfold fX5_voices_16
  refine xj_iconst Z (-1) dX5_voices_16 (by decide) ?_
  exact xj_ret_r Z dX5_voices_17
theorem bX5_voices_82 (Z : CX p s m args meth c cX5_voices 4 RX5 (some .int) D cs (xA S ad) S ad) (hS : xall S) (t0 : Int32) (M : xm) : XJ p l e rmX5_voices s m args below meth c D cs (xA S ad) S ad 4 (XRr below args s D cs S ad M) 82 [] [.int t0] M (fX5_voices_82 t0 M) := by
  unfold fX5_voices_82
  exact xj_ret_r Z dX5_voices_82
end
theorem kX5_voices (l : Launch) (D : va_G) (cs : Nat → ClassId) (S : List Nat) (ad : Nat → Nat) (hd : xdist S ad) (hS : xall S) (x1 : Int32) (x2 : Int32) (x3 : Int32) (M : xm) : ∀ r, fX5_voices x1 x2 x3 M = some r → Met l yX5_voices [Cond.code yX5_voices cX5_voices 4 (some .int)] rmX5_voices (XPc D cs S ad [.ref (ad 0), .int x1, .int x2, .int x3] M) (XQi D cs S ad r M) 0 0 (xA S ad) := by
  refine xm_r (own := RX5) (lv := [(0, .ref (ad 0)), (1, .int x1), (2, .int x2), (3, .int x3)]) (by decide +kernel) rfl rfl (Nat.le_of_ble_eq_true rfl) hd (fun p e s m args below meth c Z => ?_)
  unfold fX5_voices
  refine xj_aload_n Z 0 dX5_voices_0 rfl rfl ?_
  refine xj_iload_n Z 1 dX5_voices_1 rfl rfl ?_
  refine xj_callVr Z (As := [.int x1]) (kX5_isParish l D cs S ad Z.2.2.2.2.2.1.dist hS x1 M) gw_X5_90 (hS 0 (by decide)) rfl rfl (n := 1) (by decide +kernel) rfl ⟨rfl, rfl⟩ (by decide) rfl (Nat.le_of_ble_eq_true rfl) dX5_voices_2 (fun v1 => ?_)
  refine xj_if_eq Z 16 dX5_voices_5 (by decide) (fun _ => ?_) (fun _ => ?_)
  · refine xj_sub [] (lv' := []) rfl ?_
    exact bX5_voices_16 Z hS M
  · refine xj_aload_n Z 0 dX5_voices_8 rfl rfl ?_
    refine xj_iload_n Z 2 dX5_voices_9 rfl rfl ?_
    refine xj_callVr Z (As := [.int x2]) (kX5_isBill l D cs S ad Z.2.2.2.2.2.1.dist hS x2 M) gw_X5_137 (hS 0 (by decide)) rfl rfl (n := 1) (by decide +kernel) rfl ⟨rfl, rfl⟩ (by decide) rfl (Nat.le_of_ble_eq_true rfl) dX5_voices_10 (fun v2 => ?_)
    refine xj_if_ne Z 18 dX5_voices_13 (by decide) (fun _ => ?_) (fun _ => ?_)
    · refine xj_iload_n Z 3 dX5_voices_18 rfl rfl ?_
      refine xj_ite (fun h => ?_) (fun h0 => ?_)
      · refine xj_tblIn Z 44 dX5_voices_19 (by rw [h]; decide) (by rw [h]; decide) (by rw [h]; rfl) (by decide) ?_
        refine xj_aload_n Z 0 dX5_voices_44 rfl rfl ?_
        refine xg_X5_38 Z (hS 0 (by decide)) dX5_voices_45 ?_
        refine xj_iload_n Z 1 dX5_voices_48 rfl rfl ?_
        refine xj_iload_n Z 2 dX5_voices_49 rfl rfl ?_
        refine xj_callVr Z (As := [.int x1, .int x2]) (kX4_yesIn l D cs S ad Z.2.2.2.2.2.1.dist (xall_w22 hS) x1 x2 M) gw_X5_140 ((xall_w22 hS).mem 0 (by decide)) (xall_w22 hS).lay rfl (n := 2) (by decide +kernel) rfl ⟨rfl, rfl⟩ (by decide) rfl (Nat.le_of_ble_eq_true rfl) dX5_voices_50 (fun v3 => ?_)
        exact xj_ret_r Z dX5_voices_53
      refine xj_ite (fun h => ?_) (fun h1 => ?_)
      · refine xj_tblIn Z 54 dX5_voices_19 (by rw [h]; decide) (by rw [h]; decide) (by rw [h]; rfl) (by decide) ?_
        refine xj_aload_n Z 0 dX5_voices_54 rfl rfl ?_
        refine xg_X5_38 Z (hS 0 (by decide)) dX5_voices_55 ?_
        refine xj_iload_n Z 1 dX5_voices_58 rfl rfl ?_
        refine xj_iload_n Z 2 dX5_voices_59 rfl rfl ?_
        refine xj_callVr Z (As := [.int x1, .int x2]) (kX4_noIn l D cs S ad Z.2.2.2.2.2.1.dist (xall_w22 hS) x1 x2 M) gw_X5_144 ((xall_w22 hS).mem 0 (by decide)) (xall_w22 hS).lay rfl (n := 2) (by decide +kernel) rfl ⟨rfl, rfl⟩ (by decide) rfl (Nat.le_of_ble_eq_true rfl) dX5_voices_60 (fun v4 => ?_)
        exact xj_ret_r Z dX5_voices_63
      refine xj_ite (fun h => ?_) (fun h2 => ?_)
      · refine xj_tblIn Z 64 dX5_voices_19 (by rw [h]; decide) (by rw [h]; decide) (by rw [h]; rfl) (by decide) ?_
        refine xj_aload_n Z 0 dX5_voices_64 rfl rfl ?_
        refine xg_X5_38 Z (hS 0 (by decide)) dX5_voices_65 ?_
        refine xj_iload_n Z 1 dX5_voices_68 rfl rfl ?_
        refine xj_iload_n Z 2 dX5_voices_69 rfl rfl ?_
        refine xj_iconst Z 0 dX5_voices_70 (by decide) ?_
        refine xj_callVr Z (As := [.int x1, .int x2, .int 0]) (kX4_passesIn l D cs S ad Z.2.2.2.2.2.1.dist (xall_w22 hS) x1 x2 0 M) gw_X5_147 ((xall_w22 hS).mem 0 (by decide)) (xall_w22 hS).lay rfl (n := 3) (by decide +kernel) rfl ⟨rfl, rfl⟩ (by decide) rfl (Nat.le_of_ble_eq_true rfl) dX5_voices_71 (fun v5 => ?_)
        refine xj_if_eq Z 81 dX5_voices_74 (by decide) (fun _ => ?_) (fun _ => ?_)
        · refine xj_iconst Z 0 dX5_voices_81 (by decide) ?_
          refine xj_sub [] (lv' := []) rfl ?_
          exact bX5_voices_82 Z hS 0 M
        · refine xj_iconst Z 1 dX5_voices_77 (by decide) ?_
          refine xj_goto Z 82 dX5_voices_78 (by decide) ?_
          refine xj_sub [] (lv' := []) rfl ?_
          exact bX5_voices_82 Z hS 1 M
      refine xj_tblOut Z 83 dX5_voices_19 (by have := xti (n := 0) _ (by decide) h0; have := xti (n := 1) _ (by decide) h1; have := xti (n := 2) _ (by decide) h2; omega) (by decide) ?_
      refine xj_iconst Z (-1) dX5_voices_83 (by decide) ?_
      exact xj_ret_r Z dX5_voices_84
    · refine xj_sub [] (lv' := []) rfl ?_
      exact bX5_voices_16 Z hS M
/-! WalkingLaw.read(I)I -/
theorem dX5_read_0 : decode cX5_read 0 = .ok (.aload_n 0, 1) := by decide +kernel
theorem dX5_read_1 : decode cX5_read 1 = .ok (.iload_n 1, 1) := by decide +kernel
theorem dX5_read_2 : decode cX5_read 2 = .ok (.invokevirtual 137, 3) := by decide +kernel
theorem dX5_read_5 : decode cX5_read 5 = .ok (.ifCond .ne 5, 3) := by decide +kernel
theorem dX5_read_8 : decode cX5_read 8 = .ok (.iconst (-1), 1) := by decide +kernel
theorem dX5_read_9 : decode cX5_read 9 = .ok (.ireturn, 1) := by decide +kernel
theorem dX5_read_10 : decode cX5_read 10 = .ok (.aload_n 0, 1) := by decide +kernel
theorem dX5_read_11 : decode cX5_read 11 = .ok (.getfield 38, 3) := by decide +kernel
theorem dX5_read_14 : decode cX5_read 14 = .ok (.iload_n 1, 1) := by decide +kernel
theorem dX5_read_15 : decode cX5_read 15 = .ok (.invokevirtual 150, 3) := by decide +kernel
theorem dX5_read_18 : decode cX5_read 18 = .ok (.ifCond .eq 7, 3) := by decide +kernel
theorem dX5_read_21 : decode cX5_read 21 = .ok (.iconst 1, 1) := by decide +kernel
theorem dX5_read_22 : decode cX5_read 22 = .ok (.goto 4, 3) := by decide +kernel
theorem dX5_read_25 : decode cX5_read 25 = .ok (.iconst 0, 1) := by decide +kernel
theorem dX5_read_26 : decode cX5_read 26 = .ok (.ireturn, 1) := by decide +kernel
def rmX5_read : Room := { frames := 4, cells := 0, slots := 0, locals := 92 }
def fX5_read_26 (t0 : Int32) (M : xm) : Option (Int32 × xm) := (some (t0, M))
def fX5_read (x1 : Int32) (M : xm) : Option (Int32 × xm) := (fX5_isBill x1 M).bind (fun v1 => (if v1 = 0 then (some ((-1), M)) else (fX4_readOut 22 x1 M).bind (fun q2 => (if q2.1 = 0 then (fX5_read_26 0 q2.2) else (fX5_read_26 1 q2.2)))))
section
variable {p : Program} {l : Launch} {e : Env} {s : State} {m : MethodId} {args : Array Value} {below : List Frame} {meth : Method} {c : Code} {D : va_G} {cs : Nat → ClassId} {S : List Nat} {ad : Nat → Nat}
theorem bX5_read_26 (Z : CX p s m args meth c cX5_read 2 RX5 (some .int) D cs (xA S ad) S ad) (hS : xall S) (t0 : Int32) (M : xm) : XJ p l e rmX5_read s m args below meth c D cs (xA S ad) S ad 2 (XRb below args s D cs S ad) 26 [] [.int t0] M (fX5_read_26 t0 M) := by
  unfold fX5_read_26
  exact xj_ret_b Z dX5_read_26
end
theorem kX5_read (l : Launch) (D : va_G) (cs : Nat → ClassId) (S : List Nat) (ad : Nat → Nat) (hd : xdist S ad) (hS : xall S) (x1 : Int32) (M : xm) : ∀ r, fX5_read x1 M = some r → Met l yX5_read [Cond.code yX5_read cX5_read 2 (some .int)] rmX5_read (XPc D cs S ad [.ref (ad 0), .int x1] M) (XQi D cs S ad r.1 r.2) 0 0 (xA S ad) := by
  refine xm_b (own := RX5) (lv := [(0, .ref (ad 0)), (1, .int x1)]) (by decide +kernel) rfl rfl (Nat.le_of_ble_eq_true rfl) hd (fun p e s m args below meth c Z => ?_)
  unfold fX5_read
  refine xj_aload_n Z 0 dX5_read_0 rfl rfl ?_
  refine xj_iload_n Z 1 dX5_read_1 rfl rfl ?_
  refine xj_callVr Z (As := [.int x1]) (kX5_isBill l D cs S ad Z.2.2.2.2.2.1.dist hS x1 M) gw_X5_137 (hS 0 (by decide)) rfl rfl (n := 1) (by decide +kernel) rfl ⟨rfl, rfl⟩ (by decide) rfl (Nat.le_of_ble_eq_true rfl) dX5_read_2 (fun v1 => ?_)
  refine xj_if_ne Z 10 dX5_read_5 (by decide) (fun _ => ?_) (fun _ => ?_)
  · refine xj_aload_n Z 0 dX5_read_10 rfl rfl ?_
    refine xg_X5_38 Z (hS 0 (by decide)) dX5_read_11 ?_
    refine xj_iload_n Z 1 dX5_read_14 rfl rfl ?_
    refine xj_callVb Z (As := [.int x1]) (kX4_readOut l D cs S ad Z.2.2.2.2.2.1.dist (xall_w22 hS) x1 M) gw_X5_150 ((xall_w22 hS).mem 0 (by decide)) (xall_w22 hS).lay rfl (n := 1) (by decide +kernel) rfl ⟨rfl, rfl⟩ (by decide) rfl (Nat.le_of_ble_eq_true rfl) dX5_read_15 (fun q2 => ?_)
    refine xj_if_eq Z 25 dX5_read_18 (by decide) (fun _ => ?_) (fun _ => ?_)
    · refine xj_iconst Z 0 dX5_read_25 (by decide) ?_
      refine xj_sub [] (lv' := []) rfl ?_
      exact bX5_read_26 Z hS 0 q2.2
    · refine xj_iconst Z 1 dX5_read_21 (by decide) ?_
      refine xj_goto Z 26 dX5_read_22 (by decide) ?_
      refine xj_sub [] (lv' := []) rfl ?_
      exact bX5_read_26 Z hS 1 q2.2
  · refine xj_iconst Z (-1) dX5_read_8 (by decide) ?_
    exact xj_ret_b Z dX5_read_9
/-! WalkingLaw.bill(II)I -/
theorem dX5_bill_0 : decode cX5_bill 0 = .ok (.aload_n 0, 1) := by decide +kernel
theorem dX5_bill_1 : decode cX5_bill 1 = .ok (.iload_n 1, 1) := by decide +kernel
theorem dX5_bill_2 : decode cX5_bill 2 = .ok (.invokevirtual 137, 3) := by decide +kernel
theorem dX5_bill_5 : decode cX5_bill 5 = .ok (.ifCond .ne 5, 3) := by decide +kernel
theorem dX5_bill_8 : decode cX5_bill 8 = .ok (.iconst (-1), 1) := by decide +kernel
theorem dX5_bill_9 : decode cX5_bill 9 = .ok (.ireturn, 1) := by decide +kernel
theorem dX5_bill_10 : decode cX5_bill 10 = .ok (.iload_n 2, 1) := by decide +kernel
theorem dX5_bill_11 : decode cX5_bill 11 = .ok (.tableswitch 62 0 2 #[25, 35, 52], 25) := by decide +kernel
theorem dX5_bill_36 : decode cX5_bill 36 = .ok (.aload_n 0, 1) := by decide +kernel
theorem dX5_bill_37 : decode cX5_bill 37 = .ok (.getfield 38, 3) := by decide +kernel
theorem dX5_bill_40 : decode cX5_bill 40 = .ok (.getfield 153, 3) := by decide +kernel
theorem dX5_bill_43 : decode cX5_bill 43 = .ok (.iload_n 1, 1) := by decide +kernel
theorem dX5_bill_44 : decode cX5_bill 44 = .ok (.iaload, 1) := by decide +kernel
theorem dX5_bill_45 : decode cX5_bill 45 = .ok (.ireturn, 1) := by decide +kernel
theorem dX5_bill_46 : decode cX5_bill 46 = .ok (.aload_n 0, 1) := by decide +kernel
theorem dX5_bill_47 : decode cX5_bill 47 = .ok (.getfield 38, 3) := by decide +kernel
theorem dX5_bill_50 : decode cX5_bill 50 = .ok (.iload_n 1, 1) := by decide +kernel
theorem dX5_bill_51 : decode cX5_bill 51 = .ok (.invokevirtual 156, 3) := by decide +kernel
theorem dX5_bill_54 : decode cX5_bill 54 = .ok (.ifCond .eq 7, 3) := by decide +kernel
theorem dX5_bill_57 : decode cX5_bill 57 = .ok (.iconst 1, 1) := by decide +kernel
theorem dX5_bill_58 : decode cX5_bill 58 = .ok (.goto 4, 3) := by decide +kernel
theorem dX5_bill_61 : decode cX5_bill 61 = .ok (.iconst 0, 1) := by decide +kernel
theorem dX5_bill_62 : decode cX5_bill 62 = .ok (.ireturn, 1) := by decide +kernel
theorem dX5_bill_63 : decode cX5_bill 63 = .ok (.aload_n 0, 1) := by decide +kernel
theorem dX5_bill_64 : decode cX5_bill 64 = .ok (.getfield 38, 3) := by decide +kernel
theorem dX5_bill_67 : decode cX5_bill 67 = .ok (.getfield 159, 3) := by decide +kernel
theorem dX5_bill_70 : decode cX5_bill 70 = .ok (.iload_n 1, 1) := by decide +kernel
theorem dX5_bill_71 : decode cX5_bill 71 = .ok (.iaload, 1) := by decide +kernel
theorem dX5_bill_72 : decode cX5_bill 72 = .ok (.ireturn, 1) := by decide +kernel
theorem dX5_bill_73 : decode cX5_bill 73 = .ok (.iconst (-1), 1) := by decide +kernel
theorem dX5_bill_74 : decode cX5_bill 74 = .ok (.ireturn, 1) := by decide +kernel
def rmX5_bill : Room := { frames := 1, cells := 0, slots := 0, locals := 21 }
def fX5_bill_62 (t0 : Int32) (M : xm) : Option (Int32) := (some t0)
def fX5_bill (x1 : Int32) (x2 : Int32) (M : xm) : Option (Int32) := (fX5_isBill x1 M).bind (fun v1 => (if v1 = 0 then (some (-1)) else (if x2 = 0 then xchk x1 4 ((some (M.1 (22 + 3) x1.toNatClampNeg))) else if x2 = 1 then (fX4_isHeld 22 x1 M).bind (fun v2 => (if v2 = 0 then (fX5_bill_62 0 M) else (fX5_bill_62 1 M))) else if x2 = 2 then xchk x1 4 ((some (M.1 (22 + 4) x1.toNatClampNeg))) else (some (-1)))))
section
variable {p : Program} {l : Launch} {e : Env} {s : State} {m : MethodId} {args : Array Value} {below : List Frame} {meth : Method} {c : Code} {D : va_G} {cs : Nat → ClassId} {S : List Nat} {ad : Nat → Nat}
theorem bX5_bill_62 (Z : CX p s m args meth c cX5_bill 3 RX5 (some .int) D cs (xA S ad) S ad) (hS : xall S) (t0 : Int32) (M : xm) : XJ p l e rmX5_bill s m args below meth c D cs (xA S ad) S ad 3 (XRr below args s D cs S ad M) 62 [] [.int t0] M (fX5_bill_62 t0 M) := by
  unfold fX5_bill_62
  exact xj_ret_r Z dX5_bill_62
end
theorem kX5_bill (l : Launch) (D : va_G) (cs : Nat → ClassId) (S : List Nat) (ad : Nat → Nat) (hd : xdist S ad) (hS : xall S) (x1 : Int32) (x2 : Int32) (M : xm) : ∀ r, fX5_bill x1 x2 M = some r → Met l yX5_bill [Cond.code yX5_bill cX5_bill 3 (some .int)] rmX5_bill (XPc D cs S ad [.ref (ad 0), .int x1, .int x2] M) (XQi D cs S ad r M) 0 0 (xA S ad) := by
  refine xm_r (own := RX5) (lv := [(0, .ref (ad 0)), (1, .int x1), (2, .int x2)]) (by decide +kernel) rfl rfl (Nat.le_of_ble_eq_true rfl) hd (fun p e s m args below meth c Z => ?_)
  unfold fX5_bill
  refine xj_aload_n Z 0 dX5_bill_0 rfl rfl ?_
  refine xj_iload_n Z 1 dX5_bill_1 rfl rfl ?_
  refine xj_callVr Z (As := [.int x1]) (kX5_isBill l D cs S ad Z.2.2.2.2.2.1.dist hS x1 M) gw_X5_137 (hS 0 (by decide)) rfl rfl (n := 1) (by decide +kernel) rfl ⟨rfl, rfl⟩ (by decide) rfl (Nat.le_of_ble_eq_true rfl) dX5_bill_2 (fun v1 => ?_)
  refine xj_if_ne Z 10 dX5_bill_5 (by decide) (fun _ => ?_) (fun _ => ?_)
  · refine xj_iload_n Z 2 dX5_bill_10 rfl rfl ?_
    refine xj_ite (fun h => ?_) (fun h0 => ?_)
    · refine xj_tblIn Z 36 dX5_bill_11 (by rw [h]; decide) (by rw [h]; decide) (by rw [h]; rfl) (by decide) ?_
      refine xj_aload_n Z 0 dX5_bill_36 rfl rfl ?_
      refine xg_X5_38 Z (hS 0 (by decide)) dX5_bill_37 ?_
      refine xg_X5_153 Z ((xall_w22 hS).mem 0 (by decide)) (xall_w22 hS).lay dX5_bill_40 ?_
      refine xj_iload_n Z 1 dX5_bill_43 rfl rfl ?_
      refine xj_iald Z ((xall_w22 hS).mem 3 (by decide)) (xall_w22 hS).lay3 dX5_bill_44 (fun _ => ?_)
      exact xj_ret_r Z dX5_bill_45
    refine xj_ite (fun h => ?_) (fun h1 => ?_)
    · refine xj_tblIn Z 46 dX5_bill_11 (by rw [h]; decide) (by rw [h]; decide) (by rw [h]; rfl) (by decide) ?_
      refine xj_aload_n Z 0 dX5_bill_46 rfl rfl ?_
      refine xg_X5_38 Z (hS 0 (by decide)) dX5_bill_47 ?_
      refine xj_iload_n Z 1 dX5_bill_50 rfl rfl ?_
      refine xj_callVr Z (As := [.int x1]) (kX4_isHeld l D cs S ad Z.2.2.2.2.2.1.dist (xall_w22 hS) x1 M) gw_X5_156 ((xall_w22 hS).mem 0 (by decide)) (xall_w22 hS).lay rfl (n := 1) (by decide +kernel) rfl ⟨rfl, rfl⟩ (by decide) rfl (Nat.le_of_ble_eq_true rfl) dX5_bill_51 (fun v2 => ?_)
      refine xj_if_eq Z 61 dX5_bill_54 (by decide) (fun _ => ?_) (fun _ => ?_)
      · refine xj_iconst Z 0 dX5_bill_61 (by decide) ?_
        refine xj_sub [] (lv' := []) rfl ?_
        exact bX5_bill_62 Z hS 0 M
      · refine xj_iconst Z 1 dX5_bill_57 (by decide) ?_
        refine xj_goto Z 62 dX5_bill_58 (by decide) ?_
        refine xj_sub [] (lv' := []) rfl ?_
        exact bX5_bill_62 Z hS 1 M
    refine xj_ite (fun h => ?_) (fun h2 => ?_)
    · refine xj_tblIn Z 63 dX5_bill_11 (by rw [h]; decide) (by rw [h]; decide) (by rw [h]; rfl) (by decide) ?_
      refine xj_aload_n Z 0 dX5_bill_63 rfl rfl ?_
      refine xg_X5_38 Z (hS 0 (by decide)) dX5_bill_64 ?_
      refine xg_X5_159 Z ((xall_w22 hS).mem 0 (by decide)) (xall_w22 hS).lay dX5_bill_67 ?_
      refine xj_iload_n Z 1 dX5_bill_70 rfl rfl ?_
      refine xj_iald Z ((xall_w22 hS).mem 4 (by decide)) (xall_w22 hS).lay4 dX5_bill_71 (fun _ => ?_)
      exact xj_ret_r Z dX5_bill_72
    refine xj_tblOut Z 73 dX5_bill_11 (by have := xti (n := 0) _ (by decide) h0; have := xti (n := 1) _ (by decide) h1; have := xti (n := 2) _ (by decide) h2; omega) (by decide) ?_
    refine xj_iconst Z (-1) dX5_bill_73 (by decide) ?_
    exact xj_ret_r Z dX5_bill_74
  · refine xj_iconst Z (-1) dX5_bill_8 (by decide) ?_
    exact xj_ret_r Z dX5_bill_9
/-! WalkingLaw.isAhead(I)Z -/
theorem dX5_isAhead_0 : decode cX5_isAhead 0 = .ok (.iload_n 0, 1) := by decide +kernel
theorem dX5_isAhead_1 : decode cX5_isAhead 1 = .ok (.ifCond .lt 14, 3) := by decide +kernel
theorem dX5_isAhead_4 : decode cX5_isAhead 4 = .ok (.iload_n 0, 1) := by decide +kernel
theorem dX5_isAhead_5 : decode cX5_isAhead 5 = .ok (.sipush 400, 3) := by decide +kernel
theorem dX5_isAhead_8 : decode cX5_isAhead 8 = .ok (.if_icmp .gt 7, 3) := by decide +kernel
theorem dX5_isAhead_11 : decode cX5_isAhead 11 = .ok (.iconst 1, 1) := by decide +kernel
theorem dX5_isAhead_12 : decode cX5_isAhead 12 = .ok (.goto 4, 3) := by decide +kernel
theorem dX5_isAhead_15 : decode cX5_isAhead 15 = .ok (.iconst 0, 1) := by decide +kernel
theorem dX5_isAhead_16 : decode cX5_isAhead 16 = .ok (.ireturn, 1) := by decide +kernel
def rmX5_isAhead : Room := { frames := 0, cells := 0, slots := 0, locals := 0 }
def fX5_isAhead_16 (t0 : Int32) (M : xm) : Option (Int32) := (xbo t0 (some t0))
def fX5_isAhead_15 (M : xm) : Option (Int32) := (fX5_isAhead_16 0 M)
def fX5_isAhead (x0 : Int32) (M : xm) : Option (Int32) := (if x0 < 0 then (fX5_isAhead_15 M) else (if (400 : Int32) < x0 then (fX5_isAhead_15 M) else (fX5_isAhead_16 1 M)))
section
variable {p : Program} {l : Launch} {e : Env} {s : State} {m : MethodId} {args : Array Value} {below : List Frame} {meth : Method} {c : Code} {D : va_G} {cs : Nat → ClassId} {S : List Nat} {ad : Nat → Nat}
theorem bX5_isAhead_16 (Z : CX p s m args meth c cX5_isAhead 1 RX5 (some .boolean) D cs (xA S ad) S ad) (t0 : Int32) (M : xm) : XJ p l e rmX5_isAhead s m args below meth c D cs (xA S ad) S ad 1 (XRr below args s D cs S ad M) 16 [] [.int t0] M (fX5_isAhead_16 t0 M) := by
  unfold fX5_isAhead_16
  exact xj_zret_r Z dX5_isAhead_16
theorem bX5_isAhead_15 (Z : CX p s m args meth c cX5_isAhead 1 RX5 (some .boolean) D cs (xA S ad) S ad) (M : xm) : XJ p l e rmX5_isAhead s m args below meth c D cs (xA S ad) S ad 1 (XRr below args s D cs S ad M) 15 [] [] M (fX5_isAhead_15 M) := by
  unfold fX5_isAhead_15
  refine xj_iconst Z 0 dX5_isAhead_15 (by decide) ?_
  exact bX5_isAhead_16 Z 0 M
end
theorem kX5_isAhead (l : Launch) (D : va_G) (cs : Nat → ClassId) (S : List Nat) (ad : Nat → Nat) (hd : xdist S ad) (x0 : Int32) (M : xm) : ∀ r, fX5_isAhead x0 M = some r → Met l yX5_isAhead [Cond.code yX5_isAhead cX5_isAhead 1 (some .boolean)] rmX5_isAhead (XPc D cs S ad [.int x0] M) (XQi D cs S ad r M) 0 0 (xA S ad) := by
  refine xm_r (own := RX5) (lv := [(0, .int x0)]) (by decide +kernel) rfl rfl (Nat.le_of_ble_eq_true rfl) hd (fun p e s m args below meth c Z => ?_)
  unfold fX5_isAhead
  refine xj_iload_n Z 0 dX5_isAhead_0 rfl rfl ?_
  refine xj_if_lt Z 15 dX5_isAhead_1 (by decide) (fun _ => ?_) (fun _ => ?_)
  · refine xj_sub [] (lv' := []) rfl ?_
    exact bX5_isAhead_15 Z M
  · refine xj_iload_n Z 0 dX5_isAhead_4 rfl rfl ?_
    refine xj_sipush Z 400 dX5_isAhead_5 (by decide) ?_
    refine xj_icmp_gt Z 15 dX5_isAhead_8 (by decide) (fun _ => ?_) (fun _ => ?_)
    · refine xj_sub [] (lv' := []) rfl ?_
      exact bX5_isAhead_15 Z M
    · refine xj_iconst Z 1 dX5_isAhead_11 (by decide) ?_
      refine xj_goto Z 16 dX5_isAhead_12 (by decide) ?_
      refine xj_sub [] (lv' := []) rfl ?_
      exact bX5_isAhead_16 Z 1 M
/-! WalkingLaw.lookAhead(I)V -/
theorem dX5_lookAhead_0 : decode cX5_lookAhead 0 = .ok (.aload_n 0, 1) := by decide +kernel
theorem dX5_lookAhead_1 : decode cX5_lookAhead 1 = .ok (.getfield 42, 3) := by decide +kernel
theorem dX5_lookAhead_4 : decode cX5_lookAhead 4 = .ok (.aload_n 0, 1) := by decide +kernel
theorem dX5_lookAhead_5 : decode cX5_lookAhead 5 = .ok (.getfield 38, 3) := by decide +kernel
theorem dX5_lookAhead_8 : decode cX5_lookAhead 8 = .ok (.invokevirtual 211, 3) := by decide +kernel
theorem dX5_lookAhead_11 : decode cX5_lookAhead 11 = .ok (.aload_n 0, 1) := by decide +kernel
theorem dX5_lookAhead_12 : decode cX5_lookAhead 12 = .ok (.getfield 42, 3) := by decide +kernel
theorem dX5_lookAhead_15 : decode cX5_lookAhead 15 = .ok (.iload_n 1, 1) := by decide +kernel
theorem dX5_lookAhead_16 : decode cX5_lookAhead 16 = .ok (.invokevirtual 129, 3) := by decide +kernel
theorem dX5_lookAhead_19 : decode cX5_lookAhead 19 = .ok (.return_, 1) := by decide +kernel
def rmX5_lookAhead : Room := { frames := 5, cells := 0, slots := 0, locals := 111 }
def fX5_lookAhead (x1 : Int32) (M : xm) : Option (xm) := (fX4_become 27 22 M).bind (fun M1 => (fX4_goHours 27 x1 M1).bind (fun M2 => (some M2)))
section
variable {p : Program} {l : Launch} {e : Env} {s : State} {m : MethodId} {args : Array Value} {below : List Frame} {meth : Method} {c : Code} {D : va_G} {cs : Nat → ClassId} {S : List Nat} {ad : Nat → Nat}
end
theorem kX5_lookAhead (l : Launch) (D : va_G) (cs : Nat → ClassId) (S : List Nat) (ad : Nat → Nat) (hd : xdist S ad) (hS : xall S) (x1 : Int32) (M : xm) : ∀ r, fX5_lookAhead x1 M = some r → Met l yX5_lookAhead [Cond.code yX5_lookAhead cX5_lookAhead 2 none] rmX5_lookAhead (XPc D cs S ad [.ref (ad 0), .int x1] M) (XQv D cs S ad r) 0 0 (xA S ad) := by
  refine xm_m (own := RX5) (lv := [(0, .ref (ad 0)), (1, .int x1)]) (by decide +kernel) rfl rfl (Nat.le_of_ble_eq_true rfl) hd (fun p e s m args below meth c Z => ?_)
  unfold fX5_lookAhead
  refine xj_aload_n Z 0 dX5_lookAhead_0 rfl rfl ?_
  refine xg_X5_42 Z (hS 0 (by decide)) dX5_lookAhead_1 ?_
  refine xj_aload_n Z 0 dX5_lookAhead_4 rfl rfl ?_
  refine xg_X5_38 Z (hS 0 (by decide)) dX5_lookAhead_5 ?_
  refine xj_callVm Z (As := [.ref (ad 22)]) (kX4_become l D cs S ad Z.2.2.2.2.2.1.dist (xall_w27 hS) (xall_w22 hS) M) gw_X5_211 ((xall_w27 hS).mem 0 (by decide)) (xall_w27 hS).lay rfl (n := 1) (by decide +kernel) rfl ⟨rfl, rfl⟩ (by decide) rfl (Nat.le_of_ble_eq_true rfl) dX5_lookAhead_8 (fun M1 => ?_)
  refine xj_aload_n Z 0 dX5_lookAhead_11 rfl rfl ?_
  refine xg_X5_42 Z (hS 0 (by decide)) dX5_lookAhead_12 ?_
  refine xj_iload_n Z 1 dX5_lookAhead_15 rfl rfl ?_
  refine xj_callVm Z (As := [.int x1]) (kX4_goHours l D cs S ad Z.2.2.2.2.2.1.dist (xall_w27 hS) x1 M1) gw_X5_129 ((xall_w27 hS).mem 0 (by decide)) (xall_w27 hS).lay rfl (n := 1) (by decide +kernel) rfl ⟨rfl, rfl⟩ (by decide) rfl (Nat.le_of_ble_eq_true rfl) dX5_lookAhead_16 (fun M2 => ?_)
  exact xj_vret Z dX5_lookAhead_19
/-! WalkingLaw.mile(II)I -/
theorem dX5_mile_0 : decode cX5_mile 0 = .ok (.iload_n 1, 1) := by decide +kernel
theorem dX5_mile_1 : decode cX5_mile 1 = .ok (.invokestatic 162, 3) := by decide +kernel
theorem dX5_mile_4 : decode cX5_mile 4 = .ok (.ifCond .eq 11, 3) := by decide +kernel
theorem dX5_mile_7 : decode cX5_mile 7 = .ok (.aload_n 0, 1) := by decide +kernel
theorem dX5_mile_8 : decode cX5_mile 8 = .ok (.iload_n 2, 1) := by decide +kernel
theorem dX5_mile_9 : decode cX5_mile 9 = .ok (.invokevirtual 108, 3) := by decide +kernel
theorem dX5_mile_12 : decode cX5_mile 12 = .ok (.ifCond .ne 5, 3) := by decide +kernel
theorem dX5_mile_15 : decode cX5_mile 15 = .ok (.iconst (-1), 1) := by decide +kernel
theorem dX5_mile_16 : decode cX5_mile 16 = .ok (.ireturn, 1) := by decide +kernel
theorem dX5_mile_17 : decode cX5_mile 17 = .ok (.aload_n 0, 1) := by decide +kernel
theorem dX5_mile_18 : decode cX5_mile 18 = .ok (.iload_n 1, 1) := by decide +kernel
theorem dX5_mile_19 : decode cX5_mile 19 = .ok (.invokevirtual 165, 3) := by decide +kernel
theorem dX5_mile_22 : decode cX5_mile 22 = .ok (.aload_n 0, 1) := by decide +kernel
theorem dX5_mile_23 : decode cX5_mile 23 = .ok (.getfield 42, 3) := by decide +kernel
theorem dX5_mile_26 : decode cX5_mile 26 = .ok (.getfield 120, 3) := by decide +kernel
theorem dX5_mile_29 : decode cX5_mile 29 = .ok (.iload_n 2, 1) := by decide +kernel
theorem dX5_mile_30 : decode cX5_mile 30 = .ok (.iaload, 1) := by decide +kernel
theorem dX5_mile_31 : decode cX5_mile 31 = .ok (.ireturn, 1) := by decide +kernel
def rmX5_mile : Room := { frames := 6, cells := 0, slots := 0, locals := 132 }
def fX5_mile_15 (M : xm) : Option (Int32 × xm) := (some ((-1), M))
def fX5_mile (x1 : Int32) (x2 : Int32) (M : xm) : Option (Int32 × xm) := (fX5_isAhead x1 M).bind (fun v1 => (if v1 = 0 then (fX5_mile_15 M) else (fX5_isMember x2 M).bind (fun v2 => (if v2 = 0 then (fX5_mile_15 M) else (fX5_lookAhead x1 M).bind (fun M3 => xchk x2 8 ((some ((M3.1 (27 + 1) x2.toNatClampNeg), M3))))))))
section
variable {p : Program} {l : Launch} {e : Env} {s : State} {m : MethodId} {args : Array Value} {below : List Frame} {meth : Method} {c : Code} {D : va_G} {cs : Nat → ClassId} {S : List Nat} {ad : Nat → Nat}
theorem bX5_mile_15 (Z : CX p s m args meth c cX5_mile 3 RX5 (some .int) D cs (xA S ad) S ad) (hS : xall S) (M : xm) : XJ p l e rmX5_mile s m args below meth c D cs (xA S ad) S ad 3 (XRb below args s D cs S ad) 15 [] [] M (fX5_mile_15 M) := by
  unfold fX5_mile_15
  refine xj_iconst Z (-1) dX5_mile_15 (by decide) ?_
  exact xj_ret_b Z dX5_mile_16
end
theorem kX5_mile (l : Launch) (D : va_G) (cs : Nat → ClassId) (S : List Nat) (ad : Nat → Nat) (hd : xdist S ad) (hS : xall S) (x1 : Int32) (x2 : Int32) (M : xm) : ∀ r, fX5_mile x1 x2 M = some r → Met l yX5_mile [Cond.code yX5_mile cX5_mile 3 (some .int)] rmX5_mile (XPc D cs S ad [.ref (ad 0), .int x1, .int x2] M) (XQi D cs S ad r.1 r.2) 0 0 (xA S ad) := by
  refine xm_b (own := RX5) (lv := [(0, .ref (ad 0)), (1, .int x1), (2, .int x2)]) (by decide +kernel) rfl rfl (Nat.le_of_ble_eq_true rfl) hd (fun p e s m args below meth c Z => ?_)
  unfold fX5_mile
  refine xj_iload_n Z 1 dX5_mile_0 rfl rfl ?_
  refine xj_callSr Z (As := [.int x1]) (kX5_isAhead l D cs S ad Z.2.2.2.2.2.1.dist x1 M) gw_X5_162 (n := 1) (by decide +kernel) rfl ⟨rfl, rfl⟩ (by decide) rfl (Nat.le_of_ble_eq_true rfl) dX5_mile_1 (fun v1 => ?_)
  refine xj_if_eq Z 15 dX5_mile_4 (by decide) (fun _ => ?_) (fun _ => ?_)
  · refine xj_sub [] (lv' := []) rfl ?_
    exact bX5_mile_15 Z hS M
  · refine xj_aload_n Z 0 dX5_mile_7 rfl rfl ?_
    refine xj_iload_n Z 2 dX5_mile_8 rfl rfl ?_
    refine xj_callVr Z (As := [.int x2]) (kX5_isMember l D cs S ad Z.2.2.2.2.2.1.dist hS x2 M) gw_X5_108 (hS 0 (by decide)) rfl rfl (n := 1) (by decide +kernel) rfl ⟨rfl, rfl⟩ (by decide) rfl (Nat.le_of_ble_eq_true rfl) dX5_mile_9 (fun v2 => ?_)
    refine xj_if_ne Z 17 dX5_mile_12 (by decide) (fun _ => ?_) (fun _ => ?_)
    · refine xj_aload_n Z 0 dX5_mile_17 rfl rfl ?_
      refine xj_iload_n Z 1 dX5_mile_18 rfl rfl ?_
      refine xj_callVm Z (As := [.int x1]) (kX5_lookAhead l D cs S ad Z.2.2.2.2.2.1.dist hS x1 M) gw_X5_165 (hS 0 (by decide)) rfl rfl (n := 1) (by decide +kernel) rfl ⟨rfl, rfl⟩ (by decide) rfl (Nat.le_of_ble_eq_true rfl) dX5_mile_19 (fun M3 => ?_)
      refine xj_aload_n Z 0 dX5_mile_22 rfl rfl ?_
      refine xg_X5_42 Z (hS 0 (by decide)) dX5_mile_23 ?_
      refine xg_X5_120 Z ((xall_w27 hS).mem 0 (by decide)) (xall_w27 hS).lay dX5_mile_26 ?_
      refine xj_iload_n Z 2 dX5_mile_29 rfl rfl ?_
      refine xj_iald Z ((xall_w27 hS).mem 1 (by decide)) (xall_w27 hS).lay1 dX5_mile_30 (fun _ => ?_)
      exact xj_ret_b Z dX5_mile_31
    · refine xj_sub [] (lv' := []) rfl ?_
      exact bX5_mile_15 Z hS M
/-! WalkingLaw.who(II)I -/
theorem dX5_who_0 : decode cX5_who 0 = .ok (.iload_n 1, 1) := by decide +kernel
theorem dX5_who_1 : decode cX5_who 1 = .ok (.invokestatic 162, 3) := by decide +kernel
theorem dX5_who_4 : decode cX5_who 4 = .ok (.ifCond .eq 11, 3) := by decide +kernel
theorem dX5_who_7 : decode cX5_who 7 = .ok (.aload_n 0, 1) := by decide +kernel
theorem dX5_who_8 : decode cX5_who 8 = .ok (.iload_n 2, 1) := by decide +kernel
theorem dX5_who_9 : decode cX5_who 9 = .ok (.invokevirtual 90, 3) := by decide +kernel
theorem dX5_who_12 : decode cX5_who 12 = .ok (.ifCond .ne 5, 3) := by decide +kernel
theorem dX5_who_15 : decode cX5_who 15 = .ok (.iconst (-1), 1) := by decide +kernel
theorem dX5_who_16 : decode cX5_who 16 = .ok (.ireturn, 1) := by decide +kernel
theorem dX5_who_17 : decode cX5_who 17 = .ok (.aload_n 0, 1) := by decide +kernel
theorem dX5_who_18 : decode cX5_who 18 = .ok (.iload_n 1, 1) := by decide +kernel
theorem dX5_who_19 : decode cX5_who 19 = .ok (.invokevirtual 165, 3) := by decide +kernel
theorem dX5_who_22 : decode cX5_who 22 = .ok (.aload_n 0, 1) := by decide +kernel
theorem dX5_who_23 : decode cX5_who 23 = .ok (.getfield 42, 3) := by decide +kernel
theorem dX5_who_26 : decode cX5_who 26 = .ok (.iload_n 2, 1) := by decide +kernel
theorem dX5_who_27 : decode cX5_who 27 = .ok (.invokevirtual 104, 3) := by decide +kernel
theorem dX5_who_30 : decode cX5_who 30 = .ok (.ireturn, 1) := by decide +kernel
def rmX5_who : Room := { frames := 6, cells := 0, slots := 0, locals := 132 }
def fX5_who_15 (M : xm) : Option (Int32 × xm) := (some ((-1), M))
def fX5_who (x1 : Int32) (x2 : Int32) (M : xm) : Option (Int32 × xm) := (fX5_isAhead x1 M).bind (fun v1 => (if v1 = 0 then (fX5_who_15 M) else (fX5_isParish x2 M).bind (fun v2 => (if v2 = 0 then (fX5_who_15 M) else (fX5_lookAhead x1 M).bind (fun M3 => (fX4_thoseIn 27 x2 M3).bind (fun v4 => (some (v4, M3))))))))
section
variable {p : Program} {l : Launch} {e : Env} {s : State} {m : MethodId} {args : Array Value} {below : List Frame} {meth : Method} {c : Code} {D : va_G} {cs : Nat → ClassId} {S : List Nat} {ad : Nat → Nat}
theorem bX5_who_15 (Z : CX p s m args meth c cX5_who 3 RX5 (some .int) D cs (xA S ad) S ad) (hS : xall S) (M : xm) : XJ p l e rmX5_who s m args below meth c D cs (xA S ad) S ad 3 (XRb below args s D cs S ad) 15 [] [] M (fX5_who_15 M) := by
  unfold fX5_who_15
  refine xj_iconst Z (-1) dX5_who_15 (by decide) ?_
  exact xj_ret_b Z dX5_who_16
end
theorem kX5_who (l : Launch) (D : va_G) (cs : Nat → ClassId) (S : List Nat) (ad : Nat → Nat) (hd : xdist S ad) (hS : xall S) (x1 : Int32) (x2 : Int32) (M : xm) : ∀ r, fX5_who x1 x2 M = some r → Met l yX5_who [Cond.code yX5_who cX5_who 3 (some .int)] rmX5_who (XPc D cs S ad [.ref (ad 0), .int x1, .int x2] M) (XQi D cs S ad r.1 r.2) 0 0 (xA S ad) := by
  refine xm_b (own := RX5) (lv := [(0, .ref (ad 0)), (1, .int x1), (2, .int x2)]) (by decide +kernel) rfl rfl (Nat.le_of_ble_eq_true rfl) hd (fun p e s m args below meth c Z => ?_)
  unfold fX5_who
  refine xj_iload_n Z 1 dX5_who_0 rfl rfl ?_
  refine xj_callSr Z (As := [.int x1]) (kX5_isAhead l D cs S ad Z.2.2.2.2.2.1.dist x1 M) gw_X5_162 (n := 1) (by decide +kernel) rfl ⟨rfl, rfl⟩ (by decide) rfl (Nat.le_of_ble_eq_true rfl) dX5_who_1 (fun v1 => ?_)
  refine xj_if_eq Z 15 dX5_who_4 (by decide) (fun _ => ?_) (fun _ => ?_)
  · refine xj_sub [] (lv' := []) rfl ?_
    exact bX5_who_15 Z hS M
  · refine xj_aload_n Z 0 dX5_who_7 rfl rfl ?_
    refine xj_iload_n Z 2 dX5_who_8 rfl rfl ?_
    refine xj_callVr Z (As := [.int x2]) (kX5_isParish l D cs S ad Z.2.2.2.2.2.1.dist hS x2 M) gw_X5_90 (hS 0 (by decide)) rfl rfl (n := 1) (by decide +kernel) rfl ⟨rfl, rfl⟩ (by decide) rfl (Nat.le_of_ble_eq_true rfl) dX5_who_9 (fun v2 => ?_)
    refine xj_if_ne Z 17 dX5_who_12 (by decide) (fun _ => ?_) (fun _ => ?_)
    · refine xj_aload_n Z 0 dX5_who_17 rfl rfl ?_
      refine xj_iload_n Z 1 dX5_who_18 rfl rfl ?_
      refine xj_callVm Z (As := [.int x1]) (kX5_lookAhead l D cs S ad Z.2.2.2.2.2.1.dist hS x1 M) gw_X5_165 (hS 0 (by decide)) rfl rfl (n := 1) (by decide +kernel) rfl ⟨rfl, rfl⟩ (by decide) rfl (Nat.le_of_ble_eq_true rfl) dX5_who_19 (fun M3 => ?_)
      refine xj_aload_n Z 0 dX5_who_22 rfl rfl ?_
      refine xg_X5_42 Z (hS 0 (by decide)) dX5_who_23 ?_
      refine xj_iload_n Z 2 dX5_who_26 rfl rfl ?_
      refine xj_callVr Z (As := [.int x2]) (kX4_thoseIn l D cs S ad Z.2.2.2.2.2.1.dist (xall_w27 hS) x2 M3) gw_X5_104 ((xall_w27 hS).mem 0 (by decide)) (xall_w27 hS).lay rfl (n := 1) (by decide +kernel) rfl ⟨rfl, rfl⟩ (by decide) rfl (Nat.le_of_ble_eq_true rfl) dX5_who_27 (fun v4 => ?_)
      exact xj_ret_b Z dX5_who_30
    · refine xj_sub [] (lv' := []) rfl ?_
      exact bX5_who_15 Z hS M
/-! WalkingLaw.arrives()I -/
theorem dX5_arrives_0 : decode cX5_arrives 0 = .ok (.aload_n 0, 1) := by decide +kernel
theorem dX5_arrives_1 : decode cX5_arrives 1 = .ok (.iconst 0, 1) := by decide +kernel
theorem dX5_arrives_2 : decode cX5_arrives 2 = .ok (.invokevirtual 165, 3) := by decide +kernel
theorem dX5_arrives_5 : decode cX5_arrives 5 = .ok (.iconst 0, 1) := by decide +kernel
theorem dX5_arrives_6 : decode cX5_arrives 6 = .ok (.istore_n 1, 1) := by decide +kernel
theorem dX5_arrives_7 : decode cX5_arrives 7 = .ok (.iload_n 1, 1) := by decide +kernel
theorem dX5_arrives_8 : decode cX5_arrives 8 = .ok (.sipush 400, 3) := by decide +kernel
theorem dX5_arrives_11 : decode cX5_arrives 11 = .ok (.if_icmp .gt 36, 3) := by decide +kernel
theorem dX5_arrives_14 : decode cX5_arrives 14 = .ok (.aload_n 0, 1) := by decide +kernel
theorem dX5_arrives_15 : decode cX5_arrives 15 = .ok (.getfield 42, 3) := by decide +kernel
theorem dX5_arrives_18 : decode cX5_arrives 18 = .ok (.invokevirtual 133, 3) := by decide +kernel
theorem dX5_arrives_21 : decode cX5_arrives 21 = .ok (.aload_n 0, 1) := by decide +kernel
theorem dX5_arrives_22 : decode cX5_arrives 22 = .ok (.getfield 19, 3) := by decide +kernel
theorem dX5_arrives_25 : decode cX5_arrives 25 = .ok (.getfield 81, 3) := by decide +kernel
theorem dX5_arrives_28 : decode cX5_arrives 28 = .ok (.if_icmp .ne 5, 3) := by decide +kernel
theorem dX5_arrives_31 : decode cX5_arrives 31 = .ok (.iload_n 1, 1) := by decide +kernel
theorem dX5_arrives_32 : decode cX5_arrives 32 = .ok (.ireturn, 1) := by decide +kernel
theorem dX5_arrives_33 : decode cX5_arrives 33 = .ok (.aload_n 0, 1) := by decide +kernel
theorem dX5_arrives_34 : decode cX5_arrives 34 = .ok (.getfield 42, 3) := by decide +kernel
theorem dX5_arrives_37 : decode cX5_arrives 37 = .ok (.iconst (-1), 1) := by decide +kernel
theorem dX5_arrives_38 : decode cX5_arrives 38 = .ok (.invokevirtual 168, 3) := by decide +kernel
theorem dX5_arrives_41 : decode cX5_arrives 41 = .ok (.iinc 1 1, 3) := by decide +kernel
theorem dX5_arrives_44 : decode cX5_arrives 44 = .ok (.goto (-37), 3) := by decide +kernel
theorem dX5_arrives_47 : decode cX5_arrives 47 = .ok (.bipush (-4), 2) := by decide +kernel
theorem dX5_arrives_49 : decode cX5_arrives 49 = .ok (.ireturn, 1) := by decide +kernel
def rmX5_arrives : Room := { frames := 6, cells := 0, slots := 0, locals := 132 }
def fX5_arrives_7 : Nat → Int32 → xm → Option (Int32 × xm)
  | 0, _, _ => none
  | n + 1, x1, M => (if (400 : Int32) < x1 then (some ((-4), M)) else (fX4_arrived 27 M).bind (fun v1 => (if v1 = (M.1 (rd (M.2 0)) 6) then (some (x1, M)) else (fX4_goHour 27 (-1) M).bind (fun M2 => (fX5_arrives_7 n (x1 + 1) M2)))))
def fX5_arrives (M : xm) : Option (Int32 × xm) := (fX5_lookAhead 0 M).bind (fun M3 => (fX5_arrives_7 xfuel 0 M3))
section
variable {p : Program} {l : Launch} {e : Env} {s : State} {m : MethodId} {args : Array Value} {below : List Frame} {meth : Method} {c : Code} {D : va_G} {cs : Nat → ClassId} {S : List Nat} {ad : Nat → Nat}
theorem bX5_arrives_7 (Z : CX p s m args meth c cX5_arrives 2 RX5 (some .int) D cs (xA S ad) S ad) (hS : xall S) : ∀ (n : Nat) (x1 : Int32) (M : xm), XJ p l e rmX5_arrives s m args below meth c D cs (xA S ad) S ad 2 (XRb below args s D cs S ad) 7 [(0, .ref (ad 0)), (1, .int x1)] [] M (fX5_arrives_7 n x1 M) := by
  intro n
  induction n with
  | zero => intros; exact xj_none
  | succ n ih =>
    intro x1 M
    rw [fX5_arrives_7]
    refine xj_iload_n Z 1 dX5_arrives_7 rfl rfl ?_
    refine xj_sipush Z 400 dX5_arrives_8 (by decide) ?_
    refine xj_icmp_gt Z 47 dX5_arrives_11 (by decide) (fun _ => ?_) (fun _ => ?_)
    · refine xj_bipush Z (-4) dX5_arrives_47 (by decide) ?_
      exact xj_ret_b Z dX5_arrives_49
    · refine xj_aload_n Z 0 dX5_arrives_14 rfl rfl ?_
      refine xg_X5_42 Z (hS 0 (by decide)) dX5_arrives_15 ?_
      refine xj_callVr Z (As := []) (kX4_arrived l D cs S ad Z.2.2.2.2.2.1.dist (xall_w27 hS) M) gw_X5_133 ((xall_w27 hS).mem 0 (by decide)) (xall_w27 hS).lay rfl (n := 0) (by decide +kernel) rfl ⟨rfl, rfl⟩ (by decide) rfl (Nat.le_of_ble_eq_true rfl) dX5_arrives_18 (fun v1 => ?_)
      refine xj_aload_n Z 0 dX5_arrives_21 rfl rfl ?_
      refine xg_X5_19 Z (hS 0 (by decide)) dX5_arrives_22 ?_
      refine xg_X5_81 Z ((xall_r hS (M.2 0)).mem 0 (by decide)) (xall_r hS (M.2 0)).lay dX5_arrives_25 ?_
      refine xj_icmp_ne Z 33 dX5_arrives_28 (by decide) (fun _ => ?_) (fun _ => ?_)
      · refine xj_aload_n Z 0 dX5_arrives_33 rfl rfl ?_
        refine xg_X5_42 Z (hS 0 (by decide)) dX5_arrives_34 ?_
        refine xj_iconst Z (-1) dX5_arrives_37 (by decide) ?_
        refine xj_callVm Z (As := [.int (-1)]) (kX4_goHour l D cs S ad Z.2.2.2.2.2.1.dist (xall_w27 hS) (-1) M) gw_X5_168 ((xall_w27 hS).mem 0 (by decide)) (xall_w27 hS).lay rfl (n := 1) (by decide +kernel) rfl ⟨rfl, rfl⟩ (by decide) rfl (Nat.le_of_ble_eq_true rfl) dX5_arrives_38 (fun M2 => ?_)
        refine xj_iinc Z 1 (x1 + 1) (lv' := [(1, .int (x1 + 1)), (0, .ref (ad 0))]) dX5_arrives_41 rfl rfl (by decide) rfl ?_
        refine xj_goto Z 7 dX5_arrives_44 (by decide) ?_
        refine xj_sub [1, 0] (lv' := [(0, .ref (ad 0)), (1, .int (x1 + 1))]) rfl ?_
        exact ih (x1 + 1) M2
      · refine xj_iload_n Z 1 dX5_arrives_31 rfl rfl ?_
        exact xj_ret_b Z dX5_arrives_32
end
theorem kX5_arrives (l : Launch) (D : va_G) (cs : Nat → ClassId) (S : List Nat) (ad : Nat → Nat) (hd : xdist S ad) (hS : xall S) (M : xm) : ∀ r, fX5_arrives M = some r → Met l yX5_arrives [Cond.code yX5_arrives cX5_arrives 2 (some .int)] rmX5_arrives (XPc D cs S ad [.ref (ad 0)] M) (XQi D cs S ad r.1 r.2) 0 0 (xA S ad) := by
  refine xm_b (own := RX5) (lv := [(0, .ref (ad 0))]) (by decide +kernel) rfl rfl (Nat.le_of_ble_eq_true rfl) hd (fun p e s m args below meth c Z => ?_)
  unfold fX5_arrives
  refine xj_aload_n Z 0 dX5_arrives_0 rfl rfl ?_
  refine xj_iconst Z 0 dX5_arrives_1 (by decide) ?_
  refine xj_callVm Z (As := [.int 0]) (kX5_lookAhead l D cs S ad Z.2.2.2.2.2.1.dist hS 0 M) gw_X5_165 (hS 0 (by decide)) rfl rfl (n := 1) (by decide +kernel) rfl ⟨rfl, rfl⟩ (by decide) rfl (Nat.le_of_ble_eq_true rfl) dX5_arrives_2 (fun M3 => ?_)
  refine xj_iconst Z 0 dX5_arrives_5 (by decide) ?_
  refine xj_istore_n Z (lv' := [(1, .int 0), (0, .ref (ad 0))]) dX5_arrives_6 rfl (by decide) rfl ?_
  refine xj_sub [1, 0] (lv' := [(0, .ref (ad 0)), (1, .int 0)]) rfl ?_
  exact bX5_arrives_7 Z hS xfuel 0 M3
/-! WalkingLaw.would(I)I -/
theorem dX5_would_0 : decode cX5_would 0 = .ok (.aload_n 0, 1) := by decide +kernel
theorem dX5_would_1 : decode cX5_would 1 = .ok (.iload_n 1, 1) := by decide +kernel
theorem dX5_would_2 : decode cX5_would 2 = .ok (.invokevirtual 137, 3) := by decide +kernel
theorem dX5_would_5 : decode cX5_would 5 = .ok (.ifCond .ne 5, 3) := by decide +kernel
theorem dX5_would_8 : decode cX5_would 8 = .ok (.iconst (-1), 1) := by decide +kernel
theorem dX5_would_9 : decode cX5_would 9 = .ok (.ireturn, 1) := by decide +kernel
theorem dX5_would_10 : decode cX5_would 10 = .ok (.aload_n 0, 1) := by decide +kernel
theorem dX5_would_11 : decode cX5_would 11 = .ok (.iconst 0, 1) := by decide +kernel
theorem dX5_would_12 : decode cX5_would 12 = .ok (.invokevirtual 165, 3) := by decide +kernel
theorem dX5_would_15 : decode cX5_would 15 = .ok (.aload_n 0, 1) := by decide +kernel
theorem dX5_would_16 : decode cX5_would 16 = .ok (.getfield 42, 3) := by decide +kernel
theorem dX5_would_19 : decode cX5_would 19 = .ok (.iload_n 1, 1) := by decide +kernel
theorem dX5_would_20 : decode cX5_would 20 = .ok (.invokevirtual 150, 3) := by decide +kernel
theorem dX5_would_23 : decode cX5_would 23 = .ok (.pop, 1) := by decide +kernel
theorem dX5_would_24 : decode cX5_would 24 = .ok (.iconst 0, 1) := by decide +kernel
theorem dX5_would_25 : decode cX5_would 25 = .ok (.istore_n 2, 1) := by decide +kernel
theorem dX5_would_26 : decode cX5_would 26 = .ok (.iload_n 2, 1) := by decide +kernel
theorem dX5_would_27 : decode cX5_would 27 = .ok (.sipush 200, 3) := by decide +kernel
theorem dX5_would_30 : decode cX5_would 30 = .ok (.if_icmp .ge 26, 3) := by decide +kernel
theorem dX5_would_33 : decode cX5_would 33 = .ok (.aload_n 0, 1) := by decide +kernel
theorem dX5_would_34 : decode cX5_would 34 = .ok (.getfield 42, 3) := by decide +kernel
theorem dX5_would_37 : decode cX5_would 37 = .ok (.iconst (-1), 1) := by decide +kernel
theorem dX5_would_38 : decode cX5_would 38 = .ok (.invokevirtual 168, 3) := by decide +kernel
theorem dX5_would_41 : decode cX5_would 41 = .ok (.aload_n 0, 1) := by decide +kernel
theorem dX5_would_42 : decode cX5_would 42 = .ok (.getfield 42, 3) := by decide +kernel
theorem dX5_would_45 : decode cX5_would 45 = .ok (.iload_n 1, 1) := by decide +kernel
theorem dX5_would_46 : decode cX5_would 46 = .ok (.invokevirtual 150, 3) := by decide +kernel
theorem dX5_would_49 : decode cX5_would 49 = .ok (.pop, 1) := by decide +kernel
theorem dX5_would_50 : decode cX5_would 50 = .ok (.iinc 2 1, 3) := by decide +kernel
theorem dX5_would_53 : decode cX5_would 53 = .ok (.goto (-27), 3) := by decide +kernel
theorem dX5_would_56 : decode cX5_would 56 = .ok (.aload_n 0, 1) := by decide +kernel
theorem dX5_would_57 : decode cX5_would 57 = .ok (.getfield 42, 3) := by decide +kernel
theorem dX5_would_60 : decode cX5_would 60 = .ok (.getfield 153, 3) := by decide +kernel
theorem dX5_would_63 : decode cX5_would 63 = .ok (.iload_n 1, 1) := by decide +kernel
theorem dX5_would_64 : decode cX5_would 64 = .ok (.iaload, 1) := by decide +kernel
theorem dX5_would_65 : decode cX5_would 65 = .ok (.ireturn, 1) := by decide +kernel
def rmX5_would : Room := { frames := 6, cells := 0, slots := 0, locals := 132 }
def fX5_would_26 (x1 : Int32) : Nat → Int32 → xm → Option (Int32 × xm)
  | 0, _, _ => none
  | n + 1, x2, M => (if (200 : Int32) ≤ x2 then xchk x1 4 ((some ((M.1 (27 + 3) x1.toNatClampNeg), M))) else (fX4_goHour 27 (-1) M).bind (fun M1 => (fX4_readOut 27 x1 M1).bind (fun q2 => (fX5_would_26 x1 n (x2 + 1) q2.2))))
def fX5_would (x1 : Int32) (M : xm) : Option (Int32 × xm) := (fX5_isBill x1 M).bind (fun v3 => (if v3 = 0 then (some ((-1), M)) else (fX5_lookAhead 0 M).bind (fun M4 => (fX4_readOut 27 x1 M4).bind (fun q5 => (fX5_would_26 x1 xfuel 0 q5.2)))))
section
variable {p : Program} {l : Launch} {e : Env} {s : State} {m : MethodId} {args : Array Value} {below : List Frame} {meth : Method} {c : Code} {D : va_G} {cs : Nat → ClassId} {S : List Nat} {ad : Nat → Nat}
theorem bX5_would_26 (Z : CX p s m args meth c cX5_would 3 RX5 (some .int) D cs (xA S ad) S ad) (hS : xall S) (x1 : Int32) : ∀ (n : Nat) (x2 : Int32) (M : xm), XJ p l e rmX5_would s m args below meth c D cs (xA S ad) S ad 3 (XRb below args s D cs S ad) 26 [(0, .ref (ad 0)), (1, .int x1), (2, .int x2)] [] M (fX5_would_26 x1 n x2 M) := by
  intro n
  induction n with
  | zero => intros; exact xj_none
  | succ n ih =>
    intro x2 M
    rw [fX5_would_26]
    refine xj_iload_n Z 2 dX5_would_26 rfl rfl ?_
    refine xj_sipush Z 200 dX5_would_27 (by decide) ?_
    refine xj_icmp_ge Z 56 dX5_would_30 (by decide) (fun _ => ?_) (fun _ => ?_)
    · refine xj_aload_n Z 0 dX5_would_56 rfl rfl ?_
      refine xg_X5_42 Z (hS 0 (by decide)) dX5_would_57 ?_
      refine xg_X5_153 Z ((xall_w27 hS).mem 0 (by decide)) (xall_w27 hS).lay dX5_would_60 ?_
      refine xj_iload_n Z 1 dX5_would_63 rfl rfl ?_
      refine xj_iald Z ((xall_w27 hS).mem 3 (by decide)) (xall_w27 hS).lay3 dX5_would_64 (fun _ => ?_)
      exact xj_ret_b Z dX5_would_65
    · refine xj_aload_n Z 0 dX5_would_33 rfl rfl ?_
      refine xg_X5_42 Z (hS 0 (by decide)) dX5_would_34 ?_
      refine xj_iconst Z (-1) dX5_would_37 (by decide) ?_
      refine xj_callVm Z (As := [.int (-1)]) (kX4_goHour l D cs S ad Z.2.2.2.2.2.1.dist (xall_w27 hS) (-1) M) gw_X5_168 ((xall_w27 hS).mem 0 (by decide)) (xall_w27 hS).lay rfl (n := 1) (by decide +kernel) rfl ⟨rfl, rfl⟩ (by decide) rfl (Nat.le_of_ble_eq_true rfl) dX5_would_38 (fun M1 => ?_)
      refine xj_aload_n Z 0 dX5_would_41 rfl rfl ?_
      refine xg_X5_42 Z (hS 0 (by decide)) dX5_would_42 ?_
      refine xj_iload_n Z 1 dX5_would_45 rfl rfl ?_
      refine xj_callVb Z (As := [.int x1]) (kX4_readOut l D cs S ad Z.2.2.2.2.2.1.dist (xall_w27 hS) x1 M1) gw_X5_150 ((xall_w27 hS).mem 0 (by decide)) (xall_w27 hS).lay rfl (n := 1) (by decide +kernel) rfl ⟨rfl, rfl⟩ (by decide) rfl (Nat.le_of_ble_eq_true rfl) dX5_would_46 (fun q2 => ?_)
      refine xj_pop Z dX5_would_49 rfl ?_
      refine xj_iinc Z 2 (x2 + 1) (lv' := [(2, .int (x2 + 1)), (0, .ref (ad 0)), (1, .int x1)]) dX5_would_50 rfl rfl (by decide) rfl ?_
      refine xj_goto Z 26 dX5_would_53 (by decide) ?_
      refine xj_sub [1, 2, 0] (lv' := [(0, .ref (ad 0)), (1, .int x1), (2, .int (x2 + 1))]) rfl ?_
      exact ih (x2 + 1) q2.2
end
theorem kX5_would (l : Launch) (D : va_G) (cs : Nat → ClassId) (S : List Nat) (ad : Nat → Nat) (hd : xdist S ad) (hS : xall S) (x1 : Int32) (M : xm) : ∀ r, fX5_would x1 M = some r → Met l yX5_would [Cond.code yX5_would cX5_would 3 (some .int)] rmX5_would (XPc D cs S ad [.ref (ad 0), .int x1] M) (XQi D cs S ad r.1 r.2) 0 0 (xA S ad) := by
  refine xm_b (own := RX5) (lv := [(0, .ref (ad 0)), (1, .int x1)]) (by decide +kernel) rfl rfl (Nat.le_of_ble_eq_true rfl) hd (fun p e s m args below meth c Z => ?_)
  unfold fX5_would
  refine xj_aload_n Z 0 dX5_would_0 rfl rfl ?_
  refine xj_iload_n Z 1 dX5_would_1 rfl rfl ?_
  refine xj_callVr Z (As := [.int x1]) (kX5_isBill l D cs S ad Z.2.2.2.2.2.1.dist hS x1 M) gw_X5_137 (hS 0 (by decide)) rfl rfl (n := 1) (by decide +kernel) rfl ⟨rfl, rfl⟩ (by decide) rfl (Nat.le_of_ble_eq_true rfl) dX5_would_2 (fun v3 => ?_)
  refine xj_if_ne Z 10 dX5_would_5 (by decide) (fun _ => ?_) (fun _ => ?_)
  · refine xj_aload_n Z 0 dX5_would_10 rfl rfl ?_
    refine xj_iconst Z 0 dX5_would_11 (by decide) ?_
    refine xj_callVm Z (As := [.int 0]) (kX5_lookAhead l D cs S ad Z.2.2.2.2.2.1.dist hS 0 M) gw_X5_165 (hS 0 (by decide)) rfl rfl (n := 1) (by decide +kernel) rfl ⟨rfl, rfl⟩ (by decide) rfl (Nat.le_of_ble_eq_true rfl) dX5_would_12 (fun M4 => ?_)
    refine xj_aload_n Z 0 dX5_would_15 rfl rfl ?_
    refine xg_X5_42 Z (hS 0 (by decide)) dX5_would_16 ?_
    refine xj_iload_n Z 1 dX5_would_19 rfl rfl ?_
    refine xj_callVb Z (As := [.int x1]) (kX4_readOut l D cs S ad Z.2.2.2.2.2.1.dist (xall_w27 hS) x1 M4) gw_X5_150 ((xall_w27 hS).mem 0 (by decide)) (xall_w27 hS).lay rfl (n := 1) (by decide +kernel) rfl ⟨rfl, rfl⟩ (by decide) rfl (Nat.le_of_ble_eq_true rfl) dX5_would_20 (fun q5 => ?_)
    refine xj_pop Z dX5_would_23 rfl ?_
    refine xj_iconst Z 0 dX5_would_24 (by decide) ?_
    refine xj_istore_n Z (lv' := [(2, .int 0), (0, .ref (ad 0)), (1, .int x1)]) dX5_would_25 rfl (by decide) rfl ?_
    refine xj_sub [1, 2, 0] (lv' := [(0, .ref (ad 0)), (1, .int x1), (2, .int 0)]) rfl ?_
    exact bX5_would_26 Z hS x1 xfuel 0 q5.2
  · refine xj_iconst Z (-1) dX5_would_8 (by decide) ?_
    exact xj_ret_b Z dX5_would_9
/-! WalkingLaw.order(I)I -/
theorem dX5_order_0 : decode cX5_order 0 = .ok (.iload_n 1, 1) := by decide +kernel
theorem dX5_order_1 : decode cX5_order 1 = .ok (.iconst (-1), 1) := by decide +kernel
theorem dX5_order_2 : decode cX5_order 2 = .ok (.if_icmp .eq 13, 3) := by decide +kernel
theorem dX5_order_5 : decode cX5_order 5 = .ok (.aload_n 0, 1) := by decide +kernel
theorem dX5_order_6 : decode cX5_order 6 = .ok (.iload_n 1, 1) := by decide +kernel
theorem dX5_order_7 : decode cX5_order 7 = .ok (.invokevirtual 137, 3) := by decide +kernel
theorem dX5_order_10 : decode cX5_order 10 = .ok (.ifCond .ne 5, 3) := by decide +kernel
theorem dX5_order_13 : decode cX5_order 13 = .ok (.iconst (-1), 1) := by decide +kernel
theorem dX5_order_14 : decode cX5_order 14 = .ok (.ireturn, 1) := by decide +kernel
theorem dX5_order_15 : decode cX5_order 15 = .ok (.aload_n 0, 1) := by decide +kernel
theorem dX5_order_16 : decode cX5_order 16 = .ok (.iconst 0, 1) := by decide +kernel
theorem dX5_order_17 : decode cX5_order 17 = .ok (.invokevirtual 165, 3) := by decide +kernel
theorem dX5_order_20 : decode cX5_order 20 = .ok (.aload_n 0, 1) := by decide +kernel
theorem dX5_order_21 : decode cX5_order 21 = .ok (.getfield 63, 3) := by decide +kernel
theorem dX5_order_24 : decode cX5_order 24 = .ok (.aload_n 0, 1) := by decide +kernel
theorem dX5_order_25 : decode cX5_order 25 = .ok (.getfield 42, 3) := by decide +kernel
theorem dX5_order_28 : decode cX5_order 28 = .ok (.invokevirtual 171, 3) := by decide +kernel
theorem dX5_order_31 : decode cX5_order 31 = .ok (.iload_n 1, 1) := by decide +kernel
theorem dX5_order_32 : decode cX5_order 32 = .ok (.iconst (-1), 1) := by decide +kernel
theorem dX5_order_33 : decode cX5_order 33 = .ok (.if_icmp .ne 13, 3) := by decide +kernel
theorem dX5_order_36 : decode cX5_order 36 = .ok (.aload_n 0, 1) := by decide +kernel
theorem dX5_order_37 : decode cX5_order 37 = .ok (.getfield 63, 3) := by decide +kernel
theorem dX5_order_40 : decode cX5_order 40 = .ok (.getfield 175, 3) := by decide +kernel
theorem dX5_order_43 : decode cX5_order 43 = .ok (.goto 12, 3) := by decide +kernel
theorem dX5_order_46 : decode cX5_order 46 = .ok (.aload_n 0, 1) := by decide +kernel
theorem dX5_order_47 : decode cX5_order 47 = .ok (.getfield 63, 3) := by decide +kernel
theorem dX5_order_50 : decode cX5_order 50 = .ok (.getfield 178, 3) := by decide +kernel
theorem dX5_order_53 : decode cX5_order 53 = .ok (.iload_n 1, 1) := by decide +kernel
theorem dX5_order_54 : decode cX5_order 54 = .ok (.iaload, 1) := by decide +kernel
theorem dX5_order_55 : decode cX5_order 55 = .ok (.ireturn, 1) := by decide +kernel
def rmX5_order : Room := { frames := 6, cells := 0, slots := 0, locals := 142 }
def fX5_order_55 (t0 : Int32) (M : xm) : Option (Int32 × xm) := (some (t0, M))
def fX5_order_15 (x1 : Int32) (M : xm) : Option (Int32 × xm) := (fX5_lookAhead 0 M).bind (fun M1 => (fX2_weigh 27 M1).bind (fun M2 => (if x1 = (-1) then (fX5_order_55 (M2.1 48 3) M2) else xchk x1 4 ((fX5_order_55 (M2.1 55 x1.toNatClampNeg) M2)))))
def fX5_order (x1 : Int32) (M : xm) : Option (Int32 × xm) := (if x1 = (-1) then (fX5_order_15 x1 M) else (fX5_isBill x1 M).bind (fun v3 => (if v3 = 0 then (some ((-1), M)) else (fX5_order_15 x1 M))))
section
variable {p : Program} {l : Launch} {e : Env} {s : State} {m : MethodId} {args : Array Value} {below : List Frame} {meth : Method} {c : Code} {D : va_G} {cs : Nat → ClassId} {S : List Nat} {ad : Nat → Nat}
theorem bX5_order_55 (Z : CX p s m args meth c cX5_order 2 RX5 (some .int) D cs (xA S ad) S ad) (hS : xall S) (t0 : Int32) (M : xm) : XJ p l e rmX5_order s m args below meth c D cs (xA S ad) S ad 2 (XRb below args s D cs S ad) 55 [] [.int t0] M (fX5_order_55 t0 M) := by
  unfold fX5_order_55
  exact xj_ret_b Z dX5_order_55
theorem bX5_order_15 (Z : CX p s m args meth c cX5_order 2 RX5 (some .int) D cs (xA S ad) S ad) (hS : xall S) (x1 : Int32) (M : xm) : XJ p l e rmX5_order s m args below meth c D cs (xA S ad) S ad 2 (XRb below args s D cs S ad) 15 [(0, .ref (ad 0)), (1, .int x1)] [] M (fX5_order_15 x1 M) := by
  unfold fX5_order_15
  refine xj_aload_n Z 0 dX5_order_15 rfl rfl ?_
  refine xj_iconst Z 0 dX5_order_16 (by decide) ?_
  refine xj_callVm Z (As := [.int 0]) (kX5_lookAhead l D cs S ad Z.2.2.2.2.2.1.dist hS 0 M) gw_X5_165 (hS 0 (by decide)) rfl rfl (n := 1) (by decide +kernel) rfl ⟨rfl, rfl⟩ (by decide) rfl (Nat.le_of_ble_eq_true rfl) dX5_order_17 (fun M1 => ?_)
  refine xj_aload_n Z 0 dX5_order_20 rfl rfl ?_
  refine xg_X5_63 Z (hS 0 (by decide)) dX5_order_21 ?_
  refine xj_aload_n Z 0 dX5_order_24 rfl rfl ?_
  refine xg_X5_42 Z (hS 0 (by decide)) dX5_order_25 ?_
  refine xj_callVm Z (As := [.ref (ad 27)]) (kX2_weigh l D cs S ad Z.2.2.2.2.2.1.dist hS (xall_w27 hS) M1) gw_X5_171 (hS 48 (by decide)) rfl rfl (n := 1) (by decide +kernel) rfl ⟨rfl, rfl⟩ (by decide) rfl (Nat.le_of_ble_eq_true rfl) dX5_order_28 (fun M2 => ?_)
  refine xj_iload_n Z 1 dX5_order_31 rfl rfl ?_
  refine xj_iconst Z (-1) dX5_order_32 (by decide) ?_
  refine xj_icmp_ne Z 46 dX5_order_33 (by decide) (fun _ => ?_) (fun _ => ?_)
  · refine xj_aload_n Z 0 dX5_order_46 rfl rfl ?_
    refine xg_X5_63 Z (hS 0 (by decide)) dX5_order_47 ?_
    refine xg_X5_178 Z (hS 48 (by decide)) dX5_order_50 ?_
    refine xj_iload_n Z 1 dX5_order_53 rfl rfl ?_
    refine xj_iald Z (hS 55 (by decide)) rfl dX5_order_54 (fun _ => ?_)
    refine xj_sub [] (lv' := []) rfl ?_
    exact bX5_order_55 Z hS (M2.1 55 x1.toNatClampNeg) M2
  · refine xj_aload_n Z 0 dX5_order_36 rfl rfl ?_
    refine xg_X5_63 Z (hS 0 (by decide)) dX5_order_37 ?_
    refine xg_X5_175 Z (hS 48 (by decide)) dX5_order_40 ?_
    refine xj_goto Z 55 dX5_order_43 (by decide) ?_
    refine xj_sub [] (lv' := []) rfl ?_
    exact bX5_order_55 Z hS (M2.1 48 3) M2
end
theorem kX5_order (l : Launch) (D : va_G) (cs : Nat → ClassId) (S : List Nat) (ad : Nat → Nat) (hd : xdist S ad) (hS : xall S) (x1 : Int32) (M : xm) : ∀ r, fX5_order x1 M = some r → Met l yX5_order [Cond.code yX5_order cX5_order 2 (some .int)] rmX5_order (XPc D cs S ad [.ref (ad 0), .int x1] M) (XQi D cs S ad r.1 r.2) 0 0 (xA S ad) := by
  refine xm_b (own := RX5) (lv := [(0, .ref (ad 0)), (1, .int x1)]) (by decide +kernel) rfl rfl (Nat.le_of_ble_eq_true rfl) hd (fun p e s m args below meth c Z => ?_)
  unfold fX5_order
  refine xj_iload_n Z 1 dX5_order_0 rfl rfl ?_
  refine xj_iconst Z (-1) dX5_order_1 (by decide) ?_
  refine xj_icmp_eq Z 15 dX5_order_2 (by decide) (fun _ => ?_) (fun _ => ?_)
  · exact bX5_order_15 Z hS x1 M
  · refine xj_aload_n Z 0 dX5_order_5 rfl rfl ?_
    refine xj_iload_n Z 1 dX5_order_6 rfl rfl ?_
    refine xj_callVr Z (As := [.int x1]) (kX5_isBill l D cs S ad Z.2.2.2.2.2.1.dist hS x1 M) gw_X5_137 (hS 0 (by decide)) rfl rfl (n := 1) (by decide +kernel) rfl ⟨rfl, rfl⟩ (by decide) rfl (Nat.le_of_ble_eq_true rfl) dX5_order_7 (fun v3 => ?_)
    refine xj_if_ne Z 15 dX5_order_10 (by decide) (fun _ => ?_) (fun _ => ?_)
    · exact bX5_order_15 Z hS x1 M
    · refine xj_iconst Z (-1) dX5_order_13 (by decide) ?_
      exact xj_ret_b Z dX5_order_14
/-! WalkingLaw.heldAhead(I)I -/
theorem dX5_heldAhead_0 : decode cX5_heldAhead 0 = .ok (.aload_n 0, 1) := by decide +kernel
theorem dX5_heldAhead_1 : decode cX5_heldAhead 1 = .ok (.iconst 0, 1) := by decide +kernel
theorem dX5_heldAhead_2 : decode cX5_heldAhead 2 = .ok (.invokevirtual 165, 3) := by decide +kernel
theorem dX5_heldAhead_5 : decode cX5_heldAhead 5 = .ok (.aload_n 0, 1) := by decide +kernel
theorem dX5_heldAhead_6 : decode cX5_heldAhead 6 = .ok (.getfield 42, 3) := by decide +kernel
theorem dX5_heldAhead_9 : decode cX5_heldAhead 9 = .ok (.iload_n 1, 1) := by decide +kernel
theorem dX5_heldAhead_10 : decode cX5_heldAhead 10 = .ok (.invokevirtual 168, 3) := by decide +kernel
theorem dX5_heldAhead_13 : decode cX5_heldAhead 13 = .ok (.aload_n 0, 1) := by decide +kernel
theorem dX5_heldAhead_14 : decode cX5_heldAhead 14 = .ok (.getfield 42, 3) := by decide +kernel
theorem dX5_heldAhead_17 : decode cX5_heldAhead 17 = .ok (.sipush 199, 3) := by decide +kernel
theorem dX5_heldAhead_20 : decode cX5_heldAhead 20 = .ok (.invokevirtual 223, 3) := by decide +kernel
theorem dX5_heldAhead_23 : decode cX5_heldAhead 23 = .ok (.aload_n 0, 1) := by decide +kernel
theorem dX5_heldAhead_24 : decode cX5_heldAhead 24 = .ok (.getfield 42, 3) := by decide +kernel
theorem dX5_heldAhead_27 : decode cX5_heldAhead 27 = .ok (.invokevirtual 226, 3) := by decide +kernel
theorem dX5_heldAhead_30 : decode cX5_heldAhead 30 = .ok (.ireturn, 1) := by decide +kernel
def rmX5_heldAhead : Room := { frames := 6, cells := 0, slots := 0, locals := 132 }
def fX5_heldAhead (x1 : Int32) (M : xm) : Option (Int32 × xm) := (fX5_lookAhead 0 M).bind (fun M1 => (fX4_goHour 27 x1 M1).bind (fun M2 => (fX4_readAllFor 27 199 M2).bind (fun M3 => (fX4_allHeld 27 M3).bind (fun v4 => (some (v4, M3))))))
section
variable {p : Program} {l : Launch} {e : Env} {s : State} {m : MethodId} {args : Array Value} {below : List Frame} {meth : Method} {c : Code} {D : va_G} {cs : Nat → ClassId} {S : List Nat} {ad : Nat → Nat}
end
theorem kX5_heldAhead (l : Launch) (D : va_G) (cs : Nat → ClassId) (S : List Nat) (ad : Nat → Nat) (hd : xdist S ad) (hS : xall S) (x1 : Int32) (M : xm) : ∀ r, fX5_heldAhead x1 M = some r → Met l yX5_heldAhead [Cond.code yX5_heldAhead cX5_heldAhead 2 (some .int)] rmX5_heldAhead (XPc D cs S ad [.ref (ad 0), .int x1] M) (XQi D cs S ad r.1 r.2) 0 0 (xA S ad) := by
  refine xm_b (own := RX5) (lv := [(0, .ref (ad 0)), (1, .int x1)]) (by decide +kernel) rfl rfl (Nat.le_of_ble_eq_true rfl) hd (fun p e s m args below meth c Z => ?_)
  unfold fX5_heldAhead
  refine xj_aload_n Z 0 dX5_heldAhead_0 rfl rfl ?_
  refine xj_iconst Z 0 dX5_heldAhead_1 (by decide) ?_
  refine xj_callVm Z (As := [.int 0]) (kX5_lookAhead l D cs S ad Z.2.2.2.2.2.1.dist hS 0 M) gw_X5_165 (hS 0 (by decide)) rfl rfl (n := 1) (by decide +kernel) rfl ⟨rfl, rfl⟩ (by decide) rfl (Nat.le_of_ble_eq_true rfl) dX5_heldAhead_2 (fun M1 => ?_)
  refine xj_aload_n Z 0 dX5_heldAhead_5 rfl rfl ?_
  refine xg_X5_42 Z (hS 0 (by decide)) dX5_heldAhead_6 ?_
  refine xj_iload_n Z 1 dX5_heldAhead_9 rfl rfl ?_
  refine xj_callVm Z (As := [.int x1]) (kX4_goHour l D cs S ad Z.2.2.2.2.2.1.dist (xall_w27 hS) x1 M1) gw_X5_168 ((xall_w27 hS).mem 0 (by decide)) (xall_w27 hS).lay rfl (n := 1) (by decide +kernel) rfl ⟨rfl, rfl⟩ (by decide) rfl (Nat.le_of_ble_eq_true rfl) dX5_heldAhead_10 (fun M2 => ?_)
  refine xj_aload_n Z 0 dX5_heldAhead_13 rfl rfl ?_
  refine xg_X5_42 Z (hS 0 (by decide)) dX5_heldAhead_14 ?_
  refine xj_sipush Z 199 dX5_heldAhead_17 (by decide) ?_
  refine xj_callVm Z (As := [.int 199]) (kX4_readAllFor l D cs S ad Z.2.2.2.2.2.1.dist (xall_w27 hS) 199 M2) gw_X5_223 ((xall_w27 hS).mem 0 (by decide)) (xall_w27 hS).lay rfl (n := 1) (by decide +kernel) rfl ⟨rfl, rfl⟩ (by decide) rfl (Nat.le_of_ble_eq_true rfl) dX5_heldAhead_20 (fun M3 => ?_)
  refine xj_aload_n Z 0 dX5_heldAhead_23 rfl rfl ?_
  refine xg_X5_42 Z (hS 0 (by decide)) dX5_heldAhead_24 ?_
  refine xj_callVr Z (As := []) (kX4_allHeld l D cs S ad Z.2.2.2.2.2.1.dist (xall_w27 hS) M3) gw_X5_226 ((xall_w27 hS).mem 0 (by decide)) (xall_w27 hS).lay rfl (n := 0) (by decide +kernel) rfl ⟨rfl, rfl⟩ (by decide) rfl (Nat.le_of_ble_eq_true rfl) dX5_heldAhead_27 (fun v4 => ?_)
  exact xj_ret_b Z dX5_heldAhead_30
/-! WalkingLaw.back(I)I -/
theorem dX5_back_0 : decode cX5_back 0 = .ok (.aload_n 0, 1) := by decide +kernel
theorem dX5_back_1 : decode cX5_back 1 = .ok (.iload_n 1, 1) := by decide +kernel
theorem dX5_back_2 : decode cX5_back 2 = .ok (.invokevirtual 108, 3) := by decide +kernel
theorem dX5_back_5 : decode cX5_back 5 = .ok (.ifCond .ne 5, 3) := by decide +kernel
theorem dX5_back_8 : decode cX5_back 8 = .ok (.iconst (-1), 1) := by decide +kernel
theorem dX5_back_9 : decode cX5_back 9 = .ok (.ireturn, 1) := by decide +kernel
theorem dX5_back_10 : decode cX5_back 10 = .ok (.aload_n 0, 1) := by decide +kernel
theorem dX5_back_11 : decode cX5_back 11 = .ok (.getfield 38, 3) := by decide +kernel
theorem dX5_back_14 : decode cX5_back 14 = .ok (.iload_n 1, 1) := by decide +kernel
theorem dX5_back_15 : decode cX5_back 15 = .ok (.invokevirtual 117, 3) := by decide +kernel
theorem dX5_back_18 : decode cX5_back 18 = .ok (.istore_n 2, 1) := by decide +kernel
theorem dX5_back_19 : decode cX5_back 19 = .ok (.aload_n 0, 1) := by decide +kernel
theorem dX5_back_20 : decode cX5_back 20 = .ok (.iconst (-1), 1) := by decide +kernel
theorem dX5_back_21 : decode cX5_back 21 = .ok (.invokevirtual 181, 3) := by decide +kernel
theorem dX5_back_24 : decode cX5_back 24 = .ok (.iload_n 2, 1) := by decide +kernel
theorem dX5_back_25 : decode cX5_back 25 = .ok (.iand, 1) := by decide +kernel
theorem dX5_back_26 : decode cX5_back 26 = .ok (.invokestatic 184, 3) := by decide +kernel
theorem dX5_back_29 : decode cX5_back 29 = .ok (.istore_n 3, 1) := by decide +kernel
theorem dX5_back_30 : decode cX5_back 30 = .ok (.aload_n 0, 1) := by decide +kernel
theorem dX5_back_31 : decode cX5_back 31 = .ok (.iload_n 1, 1) := by decide +kernel
theorem dX5_back_32 : decode cX5_back 32 = .ok (.invokevirtual 181, 3) := by decide +kernel
theorem dX5_back_35 : decode cX5_back 35 = .ok (.iload_n 2, 1) := by decide +kernel
theorem dX5_back_36 : decode cX5_back 36 = .ok (.iand, 1) := by decide +kernel
theorem dX5_back_37 : decode cX5_back 37 = .ok (.invokestatic 184, 3) := by decide +kernel
theorem dX5_back_40 : decode cX5_back 40 = .ok (.istore 4, 2) := by decide +kernel
theorem dX5_back_42 : decode cX5_back 42 = .ok (.iload 4, 2) := by decide +kernel
theorem dX5_back_44 : decode cX5_back 44 = .ok (.iload_n 3, 1) := by decide +kernel
theorem dX5_back_45 : decode cX5_back 45 = .ok (.isub, 1) := by decide +kernel
theorem dX5_back_46 : decode cX5_back 46 = .ok (.bipush 100, 2) := by decide +kernel
theorem dX5_back_48 : decode cX5_back 48 = .ok (.iadd, 1) := by decide +kernel
theorem dX5_back_49 : decode cX5_back 49 = .ok (.ireturn, 1) := by decide +kernel
def rmX5_back : Room := { frames := 7, cells := 0, slots := 0, locals := 153 }
def fX5_back (x1 : Int32) (M : xm) : Option (Int32 × xm) := (fX5_isMember x1 M).bind (fun v1 => (if v1 = 0 then (some ((-1), M)) else (fX4_mindOf 22 x1 M).bind (fun v2 => (fX5_heldAhead (-1) M).bind (fun q3 => (fJ6_bitCount_0f7a4 (q3.1 &&& v2) q3.2).bind (fun v4 => (fX5_heldAhead x1 q3.2).bind (fun q5 => (fJ6_bitCount_0f7a4 (q5.1 &&& v2) q5.2).bind (fun v6 => (some (((v6 - v4) + 100), q5.2)))))))))
section
variable {p : Program} {l : Launch} {e : Env} {s : State} {m : MethodId} {args : Array Value} {below : List Frame} {meth : Method} {c : Code} {D : va_G} {cs : Nat → ClassId} {S : List Nat} {ad : Nat → Nat}
end
theorem kX5_back (l : Launch) (D : va_G) (cs : Nat → ClassId) (S : List Nat) (ad : Nat → Nat) (hd : xdist S ad) (hS : xall S) (x1 : Int32) (M : xm) : ∀ r, fX5_back x1 M = some r → Met l yX5_back [Cond.code yX5_back cX5_back 5 (some .int)] rmX5_back (XPc D cs S ad [.ref (ad 0), .int x1] M) (XQi D cs S ad r.1 r.2) 0 0 (xA S ad) := by
  refine xm_b (own := RX5) (lv := [(0, .ref (ad 0)), (1, .int x1)]) (by decide +kernel) rfl rfl (Nat.le_of_ble_eq_true rfl) hd (fun p e s m args below meth c Z => ?_)
  unfold fX5_back
  refine xj_aload_n Z 0 dX5_back_0 rfl rfl ?_
  refine xj_iload_n Z 1 dX5_back_1 rfl rfl ?_
  refine xj_callVr Z (As := [.int x1]) (kX5_isMember l D cs S ad Z.2.2.2.2.2.1.dist hS x1 M) gw_X5_108 (hS 0 (by decide)) rfl rfl (n := 1) (by decide +kernel) rfl ⟨rfl, rfl⟩ (by decide) rfl (Nat.le_of_ble_eq_true rfl) dX5_back_2 (fun v1 => ?_)
  refine xj_if_ne Z 10 dX5_back_5 (by decide) (fun _ => ?_) (fun _ => ?_)
  · refine xj_aload_n Z 0 dX5_back_10 rfl rfl ?_
    refine xg_X5_38 Z (hS 0 (by decide)) dX5_back_11 ?_
    refine xj_iload_n Z 1 dX5_back_14 rfl rfl ?_
    refine xj_callVr Z (As := [.int x1]) (kX4_mindOf l D cs S ad Z.2.2.2.2.2.1.dist (xall_w22 hS) x1 M) gw_X5_117 ((xall_w22 hS).mem 0 (by decide)) (xall_w22 hS).lay rfl (n := 1) (by decide +kernel) rfl ⟨rfl, rfl⟩ (by decide) rfl (Nat.le_of_ble_eq_true rfl) dX5_back_15 (fun v2 => ?_)
    refine xj_istore_n Z (lv' := [(2, .int v2), (0, .ref (ad 0)), (1, .int x1)]) dX5_back_18 rfl (by decide) rfl ?_
    refine xj_aload_n Z 1 dX5_back_19 rfl rfl ?_
    refine xj_iconst Z (-1) dX5_back_20 (by decide) ?_
    refine xj_callVb Z (As := [.int (-1)]) (kX5_heldAhead l D cs S ad Z.2.2.2.2.2.1.dist hS (-1) M) gw_X5_181 (hS 0 (by decide)) rfl rfl (n := 1) (by decide +kernel) rfl ⟨rfl, rfl⟩ (by decide) rfl (Nat.le_of_ble_eq_true rfl) dX5_back_21 (fun q3 => ?_)
    refine xj_iload_n Z 0 dX5_back_24 rfl rfl ?_
    refine xj_iand Z dX5_back_25 ?_
    refine xj_callSr Z (As := [.int (q3.1 &&& v2)]) (kJ6_bitCount_0f7a4 l D cs S ad Z.2.2.2.2.2.1.dist (q3.1 &&& v2) q3.2) gw_X5_184 (n := 1) (by decide +kernel) rfl ⟨rfl, rfl⟩ (by decide) rfl (Nat.le_of_ble_eq_true rfl) dX5_back_26 (fun v4 => ?_)
    refine xj_istore_n Z (lv' := [(3, .int v4), (2, .int v2), (0, .ref (ad 0)), (1, .int x1)]) dX5_back_29 rfl (by decide) rfl ?_
    refine xj_aload_n Z 2 dX5_back_30 rfl rfl ?_
    refine xj_iload_n Z 3 dX5_back_31 rfl rfl ?_
    refine xj_callVb Z (As := [.int x1]) (kX5_heldAhead l D cs S ad Z.2.2.2.2.2.1.dist hS x1 q3.2) gw_X5_181 (hS 0 (by decide)) rfl rfl (n := 1) (by decide +kernel) rfl ⟨rfl, rfl⟩ (by decide) rfl (Nat.le_of_ble_eq_true rfl) dX5_back_32 (fun q5 => ?_)
    refine xj_iload_n Z 1 dX5_back_35 rfl rfl ?_
    refine xj_iand Z dX5_back_36 ?_
    refine xj_callSr Z (As := [.int (q5.1 &&& v2)]) (kJ6_bitCount_0f7a4 l D cs S ad Z.2.2.2.2.2.1.dist (q5.1 &&& v2) q5.2) gw_X5_184 (n := 1) (by decide +kernel) rfl ⟨rfl, rfl⟩ (by decide) rfl (Nat.le_of_ble_eq_true rfl) dX5_back_37 (fun v6 => ?_)
    refine xj_istore Z (lv' := [(4, .int v6), (3, .int v4), (2, .int v2), (0, .ref (ad 0)), (1, .int x1)]) dX5_back_40 (by decide) rfl ?_
    refine xj_iload Z 0 dX5_back_42 rfl ?_
    refine xj_iload_n Z 1 dX5_back_44 rfl rfl ?_
    refine xj_isub Z dX5_back_45 ?_
    refine xj_bipush Z 100 dX5_back_46 (by decide) ?_
    refine xj_iadd Z dX5_back_48 ?_
    exact xj_ret_b Z dX5_back_49
  · refine xj_iconst Z (-1) dX5_back_8 (by decide) ?_
    exact xj_ret_b Z dX5_back_9
/-! WalkingLaw.isParty(II)Z -/
theorem dX5_isParty_0 : decode cX5_isParty 0 = .ok (.aload_n 0, 1) := by decide +kernel
theorem dX5_isParty_1 : decode cX5_isParty 1 = .ok (.getfield 19, 3) := by decide +kernel
theorem dX5_isParty_4 : decode cX5_isParty 4 = .ok (.iload_n 1, 1) := by decide +kernel
theorem dX5_isParty_5 : decode cX5_isParty 5 = .ok (.invokevirtual 189, 3) := by decide +kernel
theorem dX5_isParty_8 : decode cX5_isParty 8 = .ok (.istore_n 3, 1) := by decide +kernel
theorem dX5_isParty_9 : decode cX5_isParty 9 = .ok (.iconst 2, 1) := by decide +kernel
theorem dX5_isParty_10 : decode cX5_isParty 10 = .ok (.iload_n 3, 1) := by decide +kernel
theorem dX5_isParty_11 : decode cX5_isParty 11 = .ok (.imul, 1) := by decide +kernel
theorem dX5_isParty_12 : decode cX5_isParty 12 = .ok (.iload_n 2, 1) := by decide +kernel
theorem dX5_isParty_13 : decode cX5_isParty 13 = .ok (.if_icmp .le 23, 3) := by decide +kernel
theorem dX5_isParty_16 : decode cX5_isParty 16 = .ok (.iconst 2, 1) := by decide +kernel
theorem dX5_isParty_17 : decode cX5_isParty 17 = .ok (.iload_n 3, 1) := by decide +kernel
theorem dX5_isParty_18 : decode cX5_isParty 18 = .ok (.aload_n 0, 1) := by decide +kernel
theorem dX5_isParty_19 : decode cX5_isParty 19 = .ok (.getfield 19, 3) := by decide +kernel
theorem dX5_isParty_22 : decode cX5_isParty 22 = .ok (.iload_n 1, 1) := by decide +kernel
theorem dX5_isParty_23 : decode cX5_isParty 23 = .ok (.invokevirtual 229, 3) := by decide +kernel
theorem dX5_isParty_26 : decode cX5_isParty 26 = .ok (.isub, 1) := by decide +kernel
theorem dX5_isParty_27 : decode cX5_isParty 27 = .ok (.imul, 1) := by decide +kernel
theorem dX5_isParty_28 : decode cX5_isParty 28 = .ok (.iload_n 2, 1) := by decide +kernel
theorem dX5_isParty_29 : decode cX5_isParty 29 = .ok (.if_icmp .gt 7, 3) := by decide +kernel
theorem dX5_isParty_32 : decode cX5_isParty 32 = .ok (.iconst 1, 1) := by decide +kernel
theorem dX5_isParty_33 : decode cX5_isParty 33 = .ok (.goto 4, 3) := by decide +kernel
theorem dX5_isParty_36 : decode cX5_isParty 36 = .ok (.iconst 0, 1) := by decide +kernel
theorem dX5_isParty_37 : decode cX5_isParty 37 = .ok (.ireturn, 1) := by decide +kernel
def rmX5_isParty : Room := { frames := 2, cells := 0, slots := 0, locals := 47 }
def fX5_isParty_37 (t0 : Int32) (M : xm) : Option (Int32) := (xbo t0 (some t0))
def fX5_isParty_36 (M : xm) : Option (Int32) := (fX5_isParty_37 0 M)
def fX5_isParty (x1 : Int32) (x2 : Int32) (M : xm) : Option (Int32) := (fX1_paceOf (rd (M.2 0)) x1 M).bind (fun v1 => (if ((2 : Int32) * v1) ≤ x2 then (fX5_isParty_36 M) else (fX1_slowestOf (rd (M.2 0)) x1 M).bind (fun v2 => (if x2 < (2 * (v1 - v2)) then (fX5_isParty_36 M) else (fX5_isParty_37 1 M)))))
section
variable {p : Program} {l : Launch} {e : Env} {s : State} {m : MethodId} {args : Array Value} {below : List Frame} {meth : Method} {c : Code} {D : va_G} {cs : Nat → ClassId} {S : List Nat} {ad : Nat → Nat}
theorem bX5_isParty_37 (Z : CX p s m args meth c cX5_isParty 4 RX5 (some .boolean) D cs (xA S ad) S ad) (hS : xall S) (t0 : Int32) (M : xm) : XJ p l e rmX5_isParty s m args below meth c D cs (xA S ad) S ad 4 (XRr below args s D cs S ad M) 37 [] [.int t0] M (fX5_isParty_37 t0 M) := by
  unfold fX5_isParty_37
  exact xj_zret_r Z dX5_isParty_37
theorem bX5_isParty_36 (Z : CX p s m args meth c cX5_isParty 4 RX5 (some .boolean) D cs (xA S ad) S ad) (hS : xall S) (M : xm) : XJ p l e rmX5_isParty s m args below meth c D cs (xA S ad) S ad 4 (XRr below args s D cs S ad M) 36 [] [] M (fX5_isParty_36 M) := by
  unfold fX5_isParty_36
  refine xj_iconst Z 0 dX5_isParty_36 (by decide) ?_
  exact bX5_isParty_37 Z hS 0 M
end
theorem kX5_isParty (l : Launch) (D : va_G) (cs : Nat → ClassId) (S : List Nat) (ad : Nat → Nat) (hd : xdist S ad) (hS : xall S) (x1 : Int32) (x2 : Int32) (M : xm) : ∀ r, fX5_isParty x1 x2 M = some r → Met l yX5_isParty [Cond.code yX5_isParty cX5_isParty 4 (some .boolean)] rmX5_isParty (XPc D cs S ad [.ref (ad 0), .int x1, .int x2] M) (XQi D cs S ad r M) 0 0 (xA S ad) := by
  refine xm_r (own := RX5) (lv := [(0, .ref (ad 0)), (1, .int x1), (2, .int x2)]) (by decide +kernel) rfl rfl (Nat.le_of_ble_eq_true rfl) hd (fun p e s m args below meth c Z => ?_)
  unfold fX5_isParty
  refine xj_aload_n Z 0 dX5_isParty_0 rfl rfl ?_
  refine xg_X5_19 Z (hS 0 (by decide)) dX5_isParty_1 ?_
  refine xj_iload_n Z 1 dX5_isParty_4 rfl rfl ?_
  refine xj_callVr Z (As := [.int x1]) (kX1_paceOf l D cs S ad Z.2.2.2.2.2.1.dist (xall_r hS (M.2 0)) x1 M) gw_X5_189 ((xall_r hS (M.2 0)).mem 0 (by decide)) (xall_r hS (M.2 0)).lay rfl (n := 1) (by decide +kernel) rfl ⟨rfl, rfl⟩ (by decide) rfl (Nat.le_of_ble_eq_true rfl) dX5_isParty_5 (fun v1 => ?_)
  refine xj_istore_n Z (lv' := [(3, .int v1), (0, .ref (ad 0)), (1, .int x1), (2, .int x2)]) dX5_isParty_8 rfl (by decide) rfl ?_
  refine xj_iconst Z 2 dX5_isParty_9 (by decide) ?_
  refine xj_iload_n Z 0 dX5_isParty_10 rfl rfl ?_
  refine xj_imul Z dX5_isParty_11 ?_
  refine xj_iload_n Z 3 dX5_isParty_12 rfl rfl ?_
  refine xj_icmp_le Z 36 dX5_isParty_13 (by decide) (fun _ => ?_) (fun _ => ?_)
  · refine xj_sub [] (lv' := []) rfl ?_
    exact bX5_isParty_36 Z hS M
  · refine xj_iconst Z 2 dX5_isParty_16 (by decide) ?_
    refine xj_iload_n Z 0 dX5_isParty_17 rfl rfl ?_
    refine xj_aload_n Z 1 dX5_isParty_18 rfl rfl ?_
    refine xg_X5_19 Z (hS 0 (by decide)) dX5_isParty_19 ?_
    refine xj_iload_n Z 2 dX5_isParty_22 rfl rfl ?_
    refine xj_callVr Z (As := [.int x1]) (kX1_slowestOf l D cs S ad Z.2.2.2.2.2.1.dist (xall_r hS (M.2 0)) x1 M) gw_X5_229 ((xall_r hS (M.2 0)).mem 0 (by decide)) (xall_r hS (M.2 0)).lay rfl (n := 1) (by decide +kernel) rfl ⟨rfl, rfl⟩ (by decide) rfl (Nat.le_of_ble_eq_true rfl) dX5_isParty_23 (fun v2 => ?_)
    refine xj_isub Z dX5_isParty_26 ?_
    refine xj_imul Z dX5_isParty_27 ?_
    refine xj_iload_n Z 3 dX5_isParty_28 rfl rfl ?_
    refine xj_icmp_gt Z 36 dX5_isParty_29 (by decide) (fun _ => ?_) (fun _ => ?_)
    · refine xj_sub [] (lv' := []) rfl ?_
      exact bX5_isParty_36 Z hS M
    · refine xj_iconst Z 1 dX5_isParty_32 (by decide) ?_
      refine xj_goto Z 37 dX5_isParty_33 (by decide) ?_
      refine xj_sub [] (lv' := []) rfl ?_
      exact bX5_isParty_37 Z hS 1 M
/-! WalkingLaw.parties(II)I -/
theorem dX5_parties_0 : decode cX5_parties 0 = .ok (.aload_n 0, 1) := by decide +kernel
theorem dX5_parties_1 : decode cX5_parties 1 = .ok (.iload_n 1, 1) := by decide +kernel
theorem dX5_parties_2 : decode cX5_parties 2 = .ok (.invokevirtual 90, 3) := by decide +kernel
theorem dX5_parties_5 : decode cX5_parties 5 = .ok (.ifCond .eq 16, 3) := by decide +kernel
theorem dX5_parties_8 : decode cX5_parties 8 = .ok (.iload_n 2, 1) := by decide +kernel
theorem dX5_parties_9 : decode cX5_parties 9 = .ok (.iconst (-1), 1) := by decide +kernel
theorem dX5_parties_10 : decode cX5_parties 10 = .ok (.if_icmp .eq 13, 3) := by decide +kernel
theorem dX5_parties_13 : decode cX5_parties 13 = .ok (.aload_n 0, 1) := by decide +kernel
theorem dX5_parties_14 : decode cX5_parties 14 = .ok (.iload_n 2, 1) := by decide +kernel
theorem dX5_parties_15 : decode cX5_parties 15 = .ok (.invokevirtual 108, 3) := by decide +kernel
theorem dX5_parties_18 : decode cX5_parties 18 = .ok (.ifCond .ne 5, 3) := by decide +kernel
theorem dX5_parties_21 : decode cX5_parties 21 = .ok (.iconst (-1), 1) := by decide +kernel
theorem dX5_parties_22 : decode cX5_parties 22 = .ok (.ireturn, 1) := by decide +kernel
theorem dX5_parties_23 : decode cX5_parties 23 = .ok (.aload_n 0, 1) := by decide +kernel
theorem dX5_parties_24 : decode cX5_parties 24 = .ok (.getfield 38, 3) := by decide +kernel
theorem dX5_parties_27 : decode cX5_parties 27 = .ok (.iload_n 1, 1) := by decide +kernel
theorem dX5_parties_28 : decode cX5_parties 28 = .ok (.invokevirtual 104, 3) := by decide +kernel
theorem dX5_parties_31 : decode cX5_parties 31 = .ok (.istore_n 3, 1) := by decide +kernel
theorem dX5_parties_32 : decode cX5_parties 32 = .ok (.aload_n 0, 1) := by decide +kernel
theorem dX5_parties_33 : decode cX5_parties 33 = .ok (.getfield 19, 3) := by decide +kernel
theorem dX5_parties_36 : decode cX5_parties 36 = .ok (.iload_n 3, 1) := by decide +kernel
theorem dX5_parties_37 : decode cX5_parties 37 = .ok (.invokevirtual 189, 3) := by decide +kernel
theorem dX5_parties_40 : decode cX5_parties 40 = .ok (.istore 4, 2) := by decide +kernel
theorem dX5_parties_42 : decode cX5_parties 42 = .ok (.iload_n 2, 1) := by decide +kernel
theorem dX5_parties_43 : decode cX5_parties 43 = .ok (.iconst (-1), 1) := by decide +kernel
theorem dX5_parties_44 : decode cX5_parties 44 = .ok (.if_icmp .ne 7, 3) := by decide +kernel
theorem dX5_parties_47 : decode cX5_parties 47 = .ok (.iconst 0, 1) := by decide +kernel
theorem dX5_parties_48 : decode cX5_parties 48 = .ok (.goto 6, 3) := by decide +kernel
theorem dX5_parties_51 : decode cX5_parties 51 = .ok (.iconst 1, 1) := by decide +kernel
theorem dX5_parties_52 : decode cX5_parties 52 = .ok (.iload_n 2, 1) := by decide +kernel
theorem dX5_parties_53 : decode cX5_parties 53 = .ok (.ishl, 1) := by decide +kernel
theorem dX5_parties_54 : decode cX5_parties 54 = .ok (.istore 5, 2) := by decide +kernel
theorem dX5_parties_56 : decode cX5_parties 56 = .ok (.iconst 0, 1) := by decide +kernel
theorem dX5_parties_57 : decode cX5_parties 57 = .ok (.istore 6, 2) := by decide +kernel
theorem dX5_parties_59 : decode cX5_parties 59 = .ok (.iconst 1, 1) := by decide +kernel
theorem dX5_parties_60 : decode cX5_parties 60 = .ok (.istore 7, 2) := by decide +kernel
theorem dX5_parties_62 : decode cX5_parties 62 = .ok (.iload 7, 2) := by decide +kernel
theorem dX5_parties_64 : decode cX5_parties 64 = .ok (.sipush 256, 3) := by decide +kernel
theorem dX5_parties_67 : decode cX5_parties 67 = .ok (.if_icmp .ge 42, 3) := by decide +kernel
theorem dX5_parties_70 : decode cX5_parties 70 = .ok (.iload 7, 2) := by decide +kernel
theorem dX5_parties_72 : decode cX5_parties 72 = .ok (.iload_n 3, 1) := by decide +kernel
theorem dX5_parties_73 : decode cX5_parties 73 = .ok (.iconst (-1), 1) := by decide +kernel
theorem dX5_parties_74 : decode cX5_parties 74 = .ok (.ixor, 1) := by decide +kernel
theorem dX5_parties_75 : decode cX5_parties 75 = .ok (.iand, 1) := by decide +kernel
theorem dX5_parties_76 : decode cX5_parties 76 = .ok (.ifCond .ne 27, 3) := by decide +kernel
theorem dX5_parties_79 : decode cX5_parties 79 = .ok (.iload 7, 2) := by decide +kernel
theorem dX5_parties_81 : decode cX5_parties 81 = .ok (.iload 5, 2) := by decide +kernel
theorem dX5_parties_83 : decode cX5_parties 83 = .ok (.iand, 1) := by decide +kernel
theorem dX5_parties_84 : decode cX5_parties 84 = .ok (.iload 5, 2) := by decide +kernel
theorem dX5_parties_86 : decode cX5_parties 86 = .ok (.if_icmp .ne 17, 3) := by decide +kernel
theorem dX5_parties_89 : decode cX5_parties 89 = .ok (.aload_n 0, 1) := by decide +kernel
theorem dX5_parties_90 : decode cX5_parties 90 = .ok (.iload 7, 2) := by decide +kernel
theorem dX5_parties_92 : decode cX5_parties 92 = .ok (.iload 4, 2) := by decide +kernel
theorem dX5_parties_94 : decode cX5_parties 94 = .ok (.invokevirtual 192, 3) := by decide +kernel
theorem dX5_parties_97 : decode cX5_parties 97 = .ok (.ifCond .eq 6, 3) := by decide +kernel
theorem dX5_parties_100 : decode cX5_parties 100 = .ok (.iinc 6 1, 3) := by decide +kernel
theorem dX5_parties_103 : decode cX5_parties 103 = .ok (.iinc 7 1, 3) := by decide +kernel
theorem dX5_parties_106 : decode cX5_parties 106 = .ok (.goto (-44), 3) := by decide +kernel
theorem dX5_parties_109 : decode cX5_parties 109 = .ok (.iload 6, 2) := by decide +kernel
theorem dX5_parties_111 : decode cX5_parties 111 = .ok (.ireturn, 1) := by decide +kernel
def rmX5_parties : Room := { frames := 3, cells := 0, slots := 0, locals := 70 }
def fX5_parties_21 (M : xm) : Option (Int32) := (some (-1))
def fX5_parties_103 (k62 : Int32 → Int32 → Option (Int32)) (x3 : Int32) (x4 : Int32) (x5 : Int32) (x6 : Int32) (x7 : Int32) (M : xm) : Option (Int32) := (k62 x6 (x7 + 1))
def fX5_parties_62 (x3 : Int32) (x4 : Int32) (x5 : Int32) (M : xm) : Nat → Int32 → Int32 → Option (Int32)
  | 0, _, _ => none
  | n + 1, x6, x7 => (if (256 : Int32) ≤ x7 then (some x6) else (if (x7 &&& (x3 ^^^ (-1))) = 0 then (if (x7 &&& x5) = x5 then (fX5_isParty x7 x4 M).bind (fun v1 => (if v1 = 0 then (fX5_parties_103 (fun z0 z1 => fX5_parties_62 x3 x4 x5 M n z0 z1) x3 x4 x5 x6 x7 M) else (fX5_parties_103 (fun z0 z1 => fX5_parties_62 x3 x4 x5 M n z0 z1) x3 x4 x5 (x6 + 1) x7 M))) else (fX5_parties_103 (fun z0 z1 => fX5_parties_62 x3 x4 x5 M n z0 z1) x3 x4 x5 x6 x7 M)) else (fX5_parties_103 (fun z0 z1 => fX5_parties_62 x3 x4 x5 M n z0 z1) x3 x4 x5 x6 x7 M)))
def fX5_parties_54 (x3 : Int32) (x4 : Int32) (t0 : Int32) (M : xm) : Option (Int32) := (fX5_parties_62 x3 x4 t0 M xfuel 0 1)
def fX5_parties_23 (x1 : Int32) (x2 : Int32) (M : xm) : Option (Int32) := (fX4_thoseIn 22 x1 M).bind (fun v2 => (fX1_paceOf (rd (M.2 0)) v2 M).bind (fun v3 => (if x2 = (-1) then (fX5_parties_54 v2 v3 0 M) else (fX5_parties_54 v2 v3 (1 <<< (x2 &&& 31)) M))))
def fX5_parties (x1 : Int32) (x2 : Int32) (M : xm) : Option (Int32) := (fX5_isParish x1 M).bind (fun v4 => (if v4 = 0 then (fX5_parties_21 M) else (if x2 = (-1) then (fX5_parties_23 x1 x2 M) else (fX5_isMember x2 M).bind (fun v5 => (if v5 = 0 then (fX5_parties_21 M) else (fX5_parties_23 x1 x2 M))))))
section
variable {p : Program} {l : Launch} {e : Env} {s : State} {m : MethodId} {args : Array Value} {below : List Frame} {meth : Method} {c : Code} {D : va_G} {cs : Nat → ClassId} {S : List Nat} {ad : Nat → Nat}
theorem bX5_parties_21 (Z : CX p s m args meth c cX5_parties 8 RX5 (some .int) D cs (xA S ad) S ad) (hS : xall S) (M : xm) : XJ p l e rmX5_parties s m args below meth c D cs (xA S ad) S ad 8 (XRr below args s D cs S ad M) 21 [] [] M (fX5_parties_21 M) := by
  unfold fX5_parties_21
  refine xj_iconst Z (-1) dX5_parties_21 (by decide) ?_
  exact xj_ret_r Z dX5_parties_22
theorem bX5_parties_103 (Z : CX p s m args meth c cX5_parties 8 RX5 (some .int) D cs (xA S ad) S ad) (hS : xall S) {k62 : Int32 → Int32 → Option (Int32)} (x3 : Int32) (x4 : Int32) (x5 : Int32) (x6 : Int32) (x7 : Int32) (M : xm) (hk62 : ∀ (x6 : Int32) (x7 : Int32), XJ p l e rmX5_parties s m args below meth c D cs (xA S ad) S ad 8 (XRr below args s D cs S ad M) 62 [(0, .ref (ad 0)), (3, .int x3), (4, .int x4), (5, .int x5), (6, .int x6), (7, .int x7)] [] M (k62 x6 x7)) : XJ p l e rmX5_parties s m args below meth c D cs (xA S ad) S ad 8 (XRr below args s D cs S ad M) 103 [(0, .ref (ad 0)), (3, .int x3), (4, .int x4), (5, .int x5), (6, .int x6), (7, .int x7)] [] M (fX5_parties_103 k62 x3 x4 x5 x6 x7 M) := by
  unfold fX5_parties_103
  refine xj_iinc Z 5 (x7 + 1) (lv' := [(7, .int (x7 + 1)), (0, .ref (ad 0)), (3, .int x3), (4, .int x4), (5, .int x5), (6, .int x6)]) dX5_parties_103 rfl rfl (by decide) rfl ?_
  refine xj_goto Z 62 dX5_parties_106 (by decide) ?_
  refine xj_sub [1, 2, 3, 4, 5, 0] (lv' := [(0, .ref (ad 0)), (3, .int x3), (4, .int x4), (5, .int x5), (6, .int x6), (7, .int (x7 + 1))]) rfl ?_
  exact hk62 x6 (x7 + 1)
theorem bX5_parties_62 (Z : CX p s m args meth c cX5_parties 8 RX5 (some .int) D cs (xA S ad) S ad) (hS : xall S) (x3 : Int32) (x4 : Int32) (x5 : Int32) (M : xm) : ∀ (n : Nat) (x6 : Int32) (x7 : Int32), XJ p l e rmX5_parties s m args below meth c D cs (xA S ad) S ad 8 (XRr below args s D cs S ad M) 62 [(0, .ref (ad 0)), (3, .int x3), (4, .int x4), (5, .int x5), (6, .int x6), (7, .int x7)] [] M (fX5_parties_62 x3 x4 x5 M n x6 x7) := by
  intro n
  induction n with
  | zero => intros; exact xj_none
  | succ n ih =>
    intro x6 x7
    rw [fX5_parties_62]
    refine xj_iload Z 5 dX5_parties_62 rfl ?_
    refine xj_sipush Z 256 dX5_parties_64 (by decide) ?_
    refine xj_icmp_ge Z 109 dX5_parties_67 (by decide) (fun _ => ?_) (fun _ => ?_)
    · refine xj_iload Z 4 dX5_parties_109 rfl ?_
      exact xj_ret_r Z dX5_parties_111
    · refine xj_iload Z 5 dX5_parties_70 rfl ?_
      refine xj_iload_n Z 1 dX5_parties_72 rfl rfl ?_
      refine xj_iconst Z (-1) dX5_parties_73 (by decide) ?_
      refine xj_ixor Z dX5_parties_74 ?_
      refine xj_iand Z dX5_parties_75 ?_
      refine xj_if_ne Z 103 dX5_parties_76 (by decide) (fun _ => ?_) (fun _ => ?_)
      · exact bX5_parties_103 Z hS x3 x4 x5 x6 x7 M ih
      · refine xj_iload Z 5 dX5_parties_79 rfl ?_
        refine xj_iload Z 3 dX5_parties_81 rfl ?_
        refine xj_iand Z dX5_parties_83 ?_
        refine xj_iload Z 3 dX5_parties_84 rfl ?_
        refine xj_icmp_ne Z 103 dX5_parties_86 (by decide) (fun _ => ?_) (fun _ => ?_)
        · exact bX5_parties_103 Z hS x3 x4 x5 x6 x7 M ih
        · refine xj_aload_n Z 0 dX5_parties_89 rfl rfl ?_
          refine xj_iload Z 5 dX5_parties_90 rfl ?_
          refine xj_iload Z 2 dX5_parties_92 rfl ?_
          refine xj_callVr Z (As := [.int x7, .int x4]) (kX5_isParty l D cs S ad Z.2.2.2.2.2.1.dist hS x7 x4 M) gw_X5_192 (hS 0 (by decide)) rfl rfl (n := 2) (by decide +kernel) rfl ⟨rfl, rfl⟩ (by decide) rfl (Nat.le_of_ble_eq_true rfl) dX5_parties_94 (fun v1 => ?_)
          refine xj_if_eq Z 103 dX5_parties_97 (by decide) (fun _ => ?_) (fun _ => ?_)
          · exact bX5_parties_103 Z hS x3 x4 x5 x6 x7 M ih
          · refine xj_iinc Z 4 (x6 + 1) (lv' := [(6, .int (x6 + 1)), (0, .ref (ad 0)), (3, .int x3), (4, .int x4), (5, .int x5), (7, .int x7)]) dX5_parties_100 rfl rfl (by decide) rfl ?_
            refine xj_sub [1, 2, 3, 4, 0, 5] (lv' := [(0, .ref (ad 0)), (3, .int x3), (4, .int x4), (5, .int x5), (6, .int (x6 + 1)), (7, .int x7)]) rfl ?_
            exact bX5_parties_103 Z hS x3 x4 x5 (x6 + 1) x7 M ih
theorem bX5_parties_54 (Z : CX p s m args meth c cX5_parties 8 RX5 (some .int) D cs (xA S ad) S ad) (hS : xall S) (x3 : Int32) (x4 : Int32) (t0 : Int32) (M : xm) : XJ p l e rmX5_parties s m args below meth c D cs (xA S ad) S ad 8 (XRr below args s D cs S ad M) 54 [(0, .ref (ad 0)), (3, .int x3), (4, .int x4)] [.int t0] M (fX5_parties_54 x3 x4 t0 M) := by
  unfold fX5_parties_54
  refine xj_istore Z (lv' := [(5, .int t0), (0, .ref (ad 0)), (3, .int x3), (4, .int x4)]) dX5_parties_54 (by decide) rfl ?_
  refine xj_iconst Z 0 dX5_parties_56 (by decide) ?_
  refine xj_istore Z (lv' := [(6, .int 0), (5, .int t0), (0, .ref (ad 0)), (3, .int x3), (4, .int x4)]) dX5_parties_57 (by decide) rfl ?_
  refine xj_iconst Z 1 dX5_parties_59 (by decide) ?_
  refine xj_istore Z (lv' := [(7, .int 1), (6, .int 0), (5, .int t0), (0, .ref (ad 0)), (3, .int x3), (4, .int x4)]) dX5_parties_60 (by decide) rfl ?_
  refine xj_sub [3, 4, 5, 2, 1, 0] (lv' := [(0, .ref (ad 0)), (3, .int x3), (4, .int x4), (5, .int t0), (6, .int 0), (7, .int 1)]) rfl ?_
  exact bX5_parties_62 Z hS x3 x4 t0 M xfuel 0 1
theorem bX5_parties_23 (Z : CX p s m args meth c cX5_parties 8 RX5 (some .int) D cs (xA S ad) S ad) (hS : xall S) (x1 : Int32) (x2 : Int32) (M : xm) : XJ p l e rmX5_parties s m args below meth c D cs (xA S ad) S ad 8 (XRr below args s D cs S ad M) 23 [(0, .ref (ad 0)), (1, .int x1), (2, .int x2)] [] M (fX5_parties_23 x1 x2 M) := by
  unfold fX5_parties_23
  refine xj_aload_n Z 0 dX5_parties_23 rfl rfl ?_
  refine xg_X5_38 Z (hS 0 (by decide)) dX5_parties_24 ?_
  refine xj_iload_n Z 1 dX5_parties_27 rfl rfl ?_
  refine xj_callVr Z (As := [.int x1]) (kX4_thoseIn l D cs S ad Z.2.2.2.2.2.1.dist (xall_w22 hS) x1 M) gw_X5_104 ((xall_w22 hS).mem 0 (by decide)) (xall_w22 hS).lay rfl (n := 1) (by decide +kernel) rfl ⟨rfl, rfl⟩ (by decide) rfl (Nat.le_of_ble_eq_true rfl) dX5_parties_28 (fun v2 => ?_)
  refine xj_istore_n Z (lv' := [(3, .int v2), (0, .ref (ad 0)), (1, .int x1), (2, .int x2)]) dX5_parties_31 rfl (by decide) rfl ?_
  refine xj_aload_n Z 1 dX5_parties_32 rfl rfl ?_
  refine xg_X5_19 Z (hS 0 (by decide)) dX5_parties_33 ?_
  refine xj_iload_n Z 0 dX5_parties_36 rfl rfl ?_
  refine xj_callVr Z (As := [.int v2]) (kX1_paceOf l D cs S ad Z.2.2.2.2.2.1.dist (xall_r hS (M.2 0)) v2 M) gw_X5_189 ((xall_r hS (M.2 0)).mem 0 (by decide)) (xall_r hS (M.2 0)).lay rfl (n := 1) (by decide +kernel) rfl ⟨rfl, rfl⟩ (by decide) rfl (Nat.le_of_ble_eq_true rfl) dX5_parties_37 (fun v3 => ?_)
  refine xj_istore Z (lv' := [(4, .int v3), (3, .int v2), (0, .ref (ad 0)), (1, .int x1), (2, .int x2)]) dX5_parties_40 (by decide) rfl ?_
  refine xj_iload_n Z 4 dX5_parties_42 rfl rfl ?_
  refine xj_iconst Z (-1) dX5_parties_43 (by decide) ?_
  refine xj_icmp_ne Z 51 dX5_parties_44 (by decide) (fun _ => ?_) (fun _ => ?_)
  · refine xj_iconst Z 1 dX5_parties_51 (by decide) ?_
    refine xj_iload_n Z 4 dX5_parties_52 rfl rfl ?_
    refine xj_ishl Z dX5_parties_53 ?_
    refine xj_sub [2, 1, 0] (lv' := [(0, .ref (ad 0)), (3, .int v2), (4, .int v3)]) rfl ?_
    exact bX5_parties_54 Z hS v2 v3 (1 <<< (x2 &&& 31)) M
  · refine xj_iconst Z 0 dX5_parties_47 (by decide) ?_
    refine xj_goto Z 54 dX5_parties_48 (by decide) ?_
    refine xj_sub [2, 1, 0] (lv' := [(0, .ref (ad 0)), (3, .int v2), (4, .int v3)]) rfl ?_
    exact bX5_parties_54 Z hS v2 v3 0 M
end
theorem kX5_parties (l : Launch) (D : va_G) (cs : Nat → ClassId) (S : List Nat) (ad : Nat → Nat) (hd : xdist S ad) (hS : xall S) (x1 : Int32) (x2 : Int32) (M : xm) : ∀ r, fX5_parties x1 x2 M = some r → Met l yX5_parties [Cond.code yX5_parties cX5_parties 8 (some .int)] rmX5_parties (XPc D cs S ad [.ref (ad 0), .int x1, .int x2] M) (XQi D cs S ad r M) 0 0 (xA S ad) := by
  refine xm_r (own := RX5) (lv := [(0, .ref (ad 0)), (1, .int x1), (2, .int x2)]) (by decide +kernel) rfl rfl (Nat.le_of_ble_eq_true rfl) hd (fun p e s m args below meth c Z => ?_)
  unfold fX5_parties
  refine xj_aload_n Z 0 dX5_parties_0 rfl rfl ?_
  refine xj_iload_n Z 1 dX5_parties_1 rfl rfl ?_
  refine xj_callVr Z (As := [.int x1]) (kX5_isParish l D cs S ad Z.2.2.2.2.2.1.dist hS x1 M) gw_X5_90 (hS 0 (by decide)) rfl rfl (n := 1) (by decide +kernel) rfl ⟨rfl, rfl⟩ (by decide) rfl (Nat.le_of_ble_eq_true rfl) dX5_parties_2 (fun v4 => ?_)
  refine xj_if_eq Z 21 dX5_parties_5 (by decide) (fun _ => ?_) (fun _ => ?_)
  · refine xj_sub [] (lv' := []) rfl ?_
    exact bX5_parties_21 Z hS M
  · refine xj_iload_n Z 2 dX5_parties_8 rfl rfl ?_
    refine xj_iconst Z (-1) dX5_parties_9 (by decide) ?_
    refine xj_icmp_eq Z 23 dX5_parties_10 (by decide) (fun _ => ?_) (fun _ => ?_)
    · exact bX5_parties_23 Z hS x1 x2 M
    · refine xj_aload_n Z 0 dX5_parties_13 rfl rfl ?_
      refine xj_iload_n Z 2 dX5_parties_14 rfl rfl ?_
      refine xj_callVr Z (As := [.int x2]) (kX5_isMember l D cs S ad Z.2.2.2.2.2.1.dist hS x2 M) gw_X5_108 (hS 0 (by decide)) rfl rfl (n := 1) (by decide +kernel) rfl ⟨rfl, rfl⟩ (by decide) rfl (Nat.le_of_ble_eq_true rfl) dX5_parties_15 (fun v5 => ?_)
      refine xj_if_ne Z 23 dX5_parties_18 (by decide) (fun _ => ?_) (fun _ => ?_)
      · exact bX5_parties_23 Z hS x1 x2 M
      · refine xj_sub [] (lv' := []) rfl ?_
        exact bX5_parties_21 Z hS M
/-! WalkingLaw.join(II)I -/
theorem dX5_join_0 : decode cX5_join 0 = .ok (.aload_n 0, 1) := by decide +kernel
theorem dX5_join_1 : decode cX5_join 1 = .ok (.iload_n 1, 1) := by decide +kernel
theorem dX5_join_2 : decode cX5_join 2 = .ok (.invokevirtual 90, 3) := by decide +kernel
theorem dX5_join_5 : decode cX5_join 5 = .ok (.ifCond .eq 11, 3) := by decide +kernel
theorem dX5_join_8 : decode cX5_join 8 = .ok (.aload_n 0, 1) := by decide +kernel
theorem dX5_join_9 : decode cX5_join 9 = .ok (.iload_n 2, 1) := by decide +kernel
theorem dX5_join_10 : decode cX5_join 10 = .ok (.invokevirtual 137, 3) := by decide +kernel
theorem dX5_join_13 : decode cX5_join 13 = .ok (.ifCond .ne 5, 3) := by decide +kernel
theorem dX5_join_16 : decode cX5_join 16 = .ok (.iconst (-1), 1) := by decide +kernel
theorem dX5_join_17 : decode cX5_join 17 = .ok (.ireturn, 1) := by decide +kernel
theorem dX5_join_18 : decode cX5_join 18 = .ok (.iconst 0, 1) := by decide +kernel
theorem dX5_join_19 : decode cX5_join 19 = .ok (.istore_n 3, 1) := by decide +kernel
theorem dX5_join_20 : decode cX5_join 20 = .ok (.iload_n 3, 1) := by decide +kernel
theorem dX5_join_21 : decode cX5_join 21 = .ok (.bipush 20, 2) := by decide +kernel
theorem dX5_join_23 : decode cX5_join 23 = .ok (.if_icmp .gt 24, 3) := by decide +kernel
theorem dX5_join_26 : decode cX5_join 26 = .ok (.aload_n 0, 1) := by decide +kernel
theorem dX5_join_27 : decode cX5_join 27 = .ok (.getfield 38, 3) := by decide +kernel
theorem dX5_join_30 : decode cX5_join 30 = .ok (.iload_n 1, 1) := by decide +kernel
theorem dX5_join_31 : decode cX5_join 31 = .ok (.iload_n 2, 1) := by decide +kernel
theorem dX5_join_32 : decode cX5_join 32 = .ok (.iload_n 3, 1) := by decide +kernel
theorem dX5_join_33 : decode cX5_join 33 = .ok (.invokevirtual 147, 3) := by decide +kernel
theorem dX5_join_36 : decode cX5_join 36 = .ok (.ifCond .eq 5, 3) := by decide +kernel
theorem dX5_join_39 : decode cX5_join 39 = .ok (.iload_n 3, 1) := by decide +kernel
theorem dX5_join_40 : decode cX5_join 40 = .ok (.ireturn, 1) := by decide +kernel
theorem dX5_join_41 : decode cX5_join 41 = .ok (.iinc 3 1, 3) := by decide +kernel
theorem dX5_join_44 : decode cX5_join 44 = .ok (.goto (-24), 3) := by decide +kernel
theorem dX5_join_47 : decode cX5_join 47 = .ok (.bipush (-4), 2) := by decide +kernel
theorem dX5_join_49 : decode cX5_join 49 = .ok (.ireturn, 1) := by decide +kernel
def rmX5_join : Room := { frames := 3, cells := 0, slots := 0, locals := 70 }
def fX5_join_16 (M : xm) : Option (Int32) := (some (-1))
def fX5_join_20 (x1 : Int32) (x2 : Int32) (M : xm) : Nat → Int32 → Option (Int32)
  | 0, _ => none
  | n + 1, x3 => (if (20 : Int32) < x3 then (some (-4)) else (fX4_passesIn 22 x1 x2 x3 M).bind (fun v1 => (if v1 = 0 then (fX5_join_20 x1 x2 M n (x3 + 1)) else (some x3))))
def fX5_join (x1 : Int32) (x2 : Int32) (M : xm) : Option (Int32) := (fX5_isParish x1 M).bind (fun v2 => (if v2 = 0 then (fX5_join_16 M) else (fX5_isBill x2 M).bind (fun v3 => (if v3 = 0 then (fX5_join_16 M) else (fX5_join_20 x1 x2 M xfuel 0)))))
section
variable {p : Program} {l : Launch} {e : Env} {s : State} {m : MethodId} {args : Array Value} {below : List Frame} {meth : Method} {c : Code} {D : va_G} {cs : Nat → ClassId} {S : List Nat} {ad : Nat → Nat}
theorem bX5_join_16 (Z : CX p s m args meth c cX5_join 4 RX5 (some .int) D cs (xA S ad) S ad) (hS : xall S) (M : xm) : XJ p l e rmX5_join s m args below meth c D cs (xA S ad) S ad 4 (XRr below args s D cs S ad M) 16 [] [] M (fX5_join_16 M) := by
  unfold fX5_join_16
  refine xj_iconst Z (-1) dX5_join_16 (by decide) ?_
  exact xj_ret_r Z dX5_join_17
theorem bX5_join_20 (Z : CX p s m args meth c cX5_join 4 RX5 (some .int) D cs (xA S ad) S ad) (hS : xall S) (x1 : Int32) (x2 : Int32) (M : xm) : ∀ (n : Nat) (x3 : Int32), XJ p l e rmX5_join s m args below meth c D cs (xA S ad) S ad 4 (XRr below args s D cs S ad M) 20 [(0, .ref (ad 0)), (1, .int x1), (2, .int x2), (3, .int x3)] [] M (fX5_join_20 x1 x2 M n x3) := by
  intro n
  induction n with
  | zero => intros; exact xj_none
  | succ n ih =>
    intro x3
    rw [fX5_join_20]
    refine xj_iload_n Z 3 dX5_join_20 rfl rfl ?_
    refine xj_bipush Z 20 dX5_join_21 (by decide) ?_
    refine xj_icmp_gt Z 47 dX5_join_23 (by decide) (fun _ => ?_) (fun _ => ?_)
    · refine xj_bipush Z (-4) dX5_join_47 (by decide) ?_
      exact xj_ret_r Z dX5_join_49
    · refine xj_aload_n Z 0 dX5_join_26 rfl rfl ?_
      refine xg_X5_38 Z (hS 0 (by decide)) dX5_join_27 ?_
      refine xj_iload_n Z 1 dX5_join_30 rfl rfl ?_
      refine xj_iload_n Z 2 dX5_join_31 rfl rfl ?_
      refine xj_iload_n Z 3 dX5_join_32 rfl rfl ?_
      refine xj_callVr Z (As := [.int x1, .int x2, .int x3]) (kX4_passesIn l D cs S ad Z.2.2.2.2.2.1.dist (xall_w22 hS) x1 x2 x3 M) gw_X5_147 ((xall_w22 hS).mem 0 (by decide)) (xall_w22 hS).lay rfl (n := 3) (by decide +kernel) rfl ⟨rfl, rfl⟩ (by decide) rfl (Nat.le_of_ble_eq_true rfl) dX5_join_33 (fun v1 => ?_)
      refine xj_if_eq Z 41 dX5_join_36 (by decide) (fun _ => ?_) (fun _ => ?_)
      · refine xj_iinc Z 3 (x3 + 1) (lv' := [(3, .int (x3 + 1)), (0, .ref (ad 0)), (1, .int x1), (2, .int x2)]) dX5_join_41 rfl rfl (by decide) rfl ?_
        refine xj_goto Z 20 dX5_join_44 (by decide) ?_
        refine xj_sub [1, 2, 3, 0] (lv' := [(0, .ref (ad 0)), (1, .int x1), (2, .int x2), (3, .int (x3 + 1))]) rfl ?_
        exact ih (x3 + 1)
      · refine xj_iload_n Z 3 dX5_join_39 rfl rfl ?_
        exact xj_ret_r Z dX5_join_40
end
theorem kX5_join (l : Launch) (D : va_G) (cs : Nat → ClassId) (S : List Nat) (ad : Nat → Nat) (hd : xdist S ad) (hS : xall S) (x1 : Int32) (x2 : Int32) (M : xm) : ∀ r, fX5_join x1 x2 M = some r → Met l yX5_join [Cond.code yX5_join cX5_join 4 (some .int)] rmX5_join (XPc D cs S ad [.ref (ad 0), .int x1, .int x2] M) (XQi D cs S ad r M) 0 0 (xA S ad) := by
  refine xm_r (own := RX5) (lv := [(0, .ref (ad 0)), (1, .int x1), (2, .int x2)]) (by decide +kernel) rfl rfl (Nat.le_of_ble_eq_true rfl) hd (fun p e s m args below meth c Z => ?_)
  unfold fX5_join
  refine xj_aload_n Z 0 dX5_join_0 rfl rfl ?_
  refine xj_iload_n Z 1 dX5_join_1 rfl rfl ?_
  refine xj_callVr Z (As := [.int x1]) (kX5_isParish l D cs S ad Z.2.2.2.2.2.1.dist hS x1 M) gw_X5_90 (hS 0 (by decide)) rfl rfl (n := 1) (by decide +kernel) rfl ⟨rfl, rfl⟩ (by decide) rfl (Nat.le_of_ble_eq_true rfl) dX5_join_2 (fun v2 => ?_)
  refine xj_if_eq Z 16 dX5_join_5 (by decide) (fun _ => ?_) (fun _ => ?_)
  · refine xj_sub [] (lv' := []) rfl ?_
    exact bX5_join_16 Z hS M
  · refine xj_aload_n Z 0 dX5_join_8 rfl rfl ?_
    refine xj_iload_n Z 2 dX5_join_9 rfl rfl ?_
    refine xj_callVr Z (As := [.int x2]) (kX5_isBill l D cs S ad Z.2.2.2.2.2.1.dist hS x2 M) gw_X5_137 (hS 0 (by decide)) rfl rfl (n := 1) (by decide +kernel) rfl ⟨rfl, rfl⟩ (by decide) rfl (Nat.le_of_ble_eq_true rfl) dX5_join_10 (fun v3 => ?_)
    refine xj_if_ne Z 18 dX5_join_13 (by decide) (fun _ => ?_) (fun _ => ?_)
    · refine xj_iconst Z 0 dX5_join_18 (by decide) ?_
      refine xj_istore_n Z (lv' := [(3, .int 0), (0, .ref (ad 0)), (1, .int x1), (2, .int x2)]) dX5_join_19 rfl (by decide) rfl ?_
      refine xj_sub [1, 2, 3, 0] (lv' := [(0, .ref (ad 0)), (1, .int x1), (2, .int x2), (3, .int 0)]) rfl ?_
      exact bX5_join_20 Z hS x1 x2 M xfuel 0
    · refine xj_sub [] (lv' := []) rfl ?_
      exact bX5_join_16 Z hS M
/-! WalkingLaw.diary(III)I -/
theorem dX5_diary_0 : decode cX5_diary 0 = .ok (.aload_n 0, 1) := by decide +kernel
theorem dX5_diary_1 : decode cX5_diary 1 = .ok (.iload_n 1, 1) := by decide +kernel
theorem dX5_diary_2 : decode cX5_diary 2 = .ok (.invokevirtual 108, 3) := by decide +kernel
theorem dX5_diary_5 : decode cX5_diary 5 = .ok (.ifCond .eq 18, 3) := by decide +kernel
theorem dX5_diary_8 : decode cX5_diary 8 = .ok (.aload_n 0, 1) := by decide +kernel
theorem dX5_diary_9 : decode cX5_diary 9 = .ok (.iload_n 2, 1) := by decide +kernel
theorem dX5_diary_10 : decode cX5_diary 10 = .ok (.invokevirtual 90, 3) := by decide +kernel
theorem dX5_diary_13 : decode cX5_diary 13 = .ok (.ifCond .eq 10, 3) := by decide +kernel
theorem dX5_diary_16 : decode cX5_diary 16 = .ok (.iload_n 3, 1) := by decide +kernel
theorem dX5_diary_17 : decode cX5_diary 17 = .ok (.invokestatic 162, 3) := by decide +kernel
theorem dX5_diary_20 : decode cX5_diary 20 = .ok (.ifCond .ne 5, 3) := by decide +kernel
theorem dX5_diary_23 : decode cX5_diary 23 = .ok (.iconst (-1), 1) := by decide +kernel
theorem dX5_diary_24 : decode cX5_diary 24 = .ok (.ireturn, 1) := by decide +kernel
theorem dX5_diary_25 : decode cX5_diary 25 = .ok (.aload_n 0, 1) := by decide +kernel
theorem dX5_diary_26 : decode cX5_diary 26 = .ok (.getfield 56, 3) := by decide +kernel
theorem dX5_diary_29 : decode cX5_diary 29 = .ok (.iload_n 1, 1) := by decide +kernel
theorem dX5_diary_30 : decode cX5_diary 30 = .ok (.iload_n 2, 1) := by decide +kernel
theorem dX5_diary_31 : decode cX5_diary 31 = .ok (.iload_n 3, 1) := by decide +kernel
theorem dX5_diary_32 : decode cX5_diary 32 = .ok (.invokevirtual 196, 3) := by decide +kernel
theorem dX5_diary_35 : decode cX5_diary 35 = .ok (.ifCond .eq 13, 3) := by decide +kernel
theorem dX5_diary_38 : decode cX5_diary 38 = .ok (.aload_n 0, 1) := by decide +kernel
theorem dX5_diary_39 : decode cX5_diary 39 = .ok (.getfield 56, 3) := by decide +kernel
theorem dX5_diary_42 : decode cX5_diary 42 = .ok (.getfield 87, 3) := by decide +kernel
theorem dX5_diary_45 : decode cX5_diary 45 = .ok (.goto 5, 3) := by decide +kernel
theorem dX5_diary_48 : decode cX5_diary 48 = .ok (.bipush (-3), 2) := by decide +kernel
theorem dX5_diary_50 : decode cX5_diary 50 = .ok (.ireturn, 1) := by decide +kernel
def rmX5_diary : Room := { frames := 1, cells := 0, slots := 0, locals := 23 }
def fX5_diary_23 (M : xm) : Option (Int32 × xm) := (some ((-1), M))
def fX5_diary_50 (t0 : Int32) (M : xm) : Option (Int32 × xm) := (some (t0, M))
def fX5_diary (x1 : Int32) (x2 : Int32) (x3 : Int32) (M : xm) : Option (Int32 × xm) := (fX5_isMember x1 M).bind (fun v1 => (if v1 = 0 then (fX5_diary_23 M) else (fX5_isParish x2 M).bind (fun v2 => (if v2 = 0 then (fX5_diary_23 M) else (fX5_isAhead x3 M).bind (fun v3 => (if v3 = 0 then (fX5_diary_23 M) else (fX0_append x1 x2 x3 M).bind (fun q4 => (if q4.1 = 0 then (fX5_diary_50 (-3) q4.2) else (fX5_diary_50 (q4.2.1 43 3) q4.2)))))))))
section
variable {p : Program} {l : Launch} {e : Env} {s : State} {m : MethodId} {args : Array Value} {below : List Frame} {meth : Method} {c : Code} {D : va_G} {cs : Nat → ClassId} {S : List Nat} {ad : Nat → Nat}
theorem bX5_diary_23 (Z : CX p s m args meth c cX5_diary 4 RX5 (some .int) D cs (xA S ad) S ad) (hS : xall S) (M : xm) : XJ p l e rmX5_diary s m args below meth c D cs (xA S ad) S ad 4 (XRb below args s D cs S ad) 23 [] [] M (fX5_diary_23 M) := by
  unfold fX5_diary_23
  refine xj_iconst Z (-1) dX5_diary_23 (by decide) ?_
  exact xj_ret_b Z dX5_diary_24
theorem bX5_diary_50 (Z : CX p s m args meth c cX5_diary 4 RX5 (some .int) D cs (xA S ad) S ad) (hS : xall S) (t0 : Int32) (M : xm) : XJ p l e rmX5_diary s m args below meth c D cs (xA S ad) S ad 4 (XRb below args s D cs S ad) 50 [] [.int t0] M (fX5_diary_50 t0 M) := by
  unfold fX5_diary_50
  exact xj_ret_b Z dX5_diary_50
end
theorem kX5_diary (l : Launch) (D : va_G) (cs : Nat → ClassId) (S : List Nat) (ad : Nat → Nat) (hd : xdist S ad) (hS : xall S) (x1 : Int32) (x2 : Int32) (x3 : Int32) (M : xm) : ∀ r, fX5_diary x1 x2 x3 M = some r → Met l yX5_diary [Cond.code yX5_diary cX5_diary 4 (some .int)] rmX5_diary (XPc D cs S ad [.ref (ad 0), .int x1, .int x2, .int x3] M) (XQi D cs S ad r.1 r.2) 0 0 (xA S ad) := by
  refine xm_b (own := RX5) (lv := [(0, .ref (ad 0)), (1, .int x1), (2, .int x2), (3, .int x3)]) (by decide +kernel) rfl rfl (Nat.le_of_ble_eq_true rfl) hd (fun p e s m args below meth c Z => ?_)
  unfold fX5_diary
  refine xj_aload_n Z 0 dX5_diary_0 rfl rfl ?_
  refine xj_iload_n Z 1 dX5_diary_1 rfl rfl ?_
  refine xj_callVr Z (As := [.int x1]) (kX5_isMember l D cs S ad Z.2.2.2.2.2.1.dist hS x1 M) gw_X5_108 (hS 0 (by decide)) rfl rfl (n := 1) (by decide +kernel) rfl ⟨rfl, rfl⟩ (by decide) rfl (Nat.le_of_ble_eq_true rfl) dX5_diary_2 (fun v1 => ?_)
  refine xj_if_eq Z 23 dX5_diary_5 (by decide) (fun _ => ?_) (fun _ => ?_)
  · refine xj_sub [] (lv' := []) rfl ?_
    exact bX5_diary_23 Z hS M
  · refine xj_aload_n Z 0 dX5_diary_8 rfl rfl ?_
    refine xj_iload_n Z 2 dX5_diary_9 rfl rfl ?_
    refine xj_callVr Z (As := [.int x2]) (kX5_isParish l D cs S ad Z.2.2.2.2.2.1.dist hS x2 M) gw_X5_90 (hS 0 (by decide)) rfl rfl (n := 1) (by decide +kernel) rfl ⟨rfl, rfl⟩ (by decide) rfl (Nat.le_of_ble_eq_true rfl) dX5_diary_10 (fun v2 => ?_)
    refine xj_if_eq Z 23 dX5_diary_13 (by decide) (fun _ => ?_) (fun _ => ?_)
    · refine xj_sub [] (lv' := []) rfl ?_
      exact bX5_diary_23 Z hS M
    · refine xj_iload_n Z 3 dX5_diary_16 rfl rfl ?_
      refine xj_callSr Z (As := [.int x3]) (kX5_isAhead l D cs S ad Z.2.2.2.2.2.1.dist x3 M) gw_X5_162 (n := 1) (by decide +kernel) rfl ⟨rfl, rfl⟩ (by decide) rfl (Nat.le_of_ble_eq_true rfl) dX5_diary_17 (fun v3 => ?_)
      refine xj_if_ne Z 25 dX5_diary_20 (by decide) (fun _ => ?_) (fun _ => ?_)
      · refine xj_aload_n Z 0 dX5_diary_25 rfl rfl ?_
        refine xg_X5_56 Z (hS 0 (by decide)) dX5_diary_26 ?_
        refine xj_iload_n Z 1 dX5_diary_29 rfl rfl ?_
        refine xj_iload_n Z 2 dX5_diary_30 rfl rfl ?_
        refine xj_iload_n Z 3 dX5_diary_31 rfl rfl ?_
        refine xj_callVb Z (As := [.int x1, .int x2, .int x3]) (kX0_append l D cs S ad Z.2.2.2.2.2.1.dist hS x1 x2 x3 M) gw_X5_196 (hS 43 (by decide)) rfl rfl (n := 3) (by decide +kernel) rfl ⟨rfl, rfl⟩ (by decide) rfl (Nat.le_of_ble_eq_true rfl) dX5_diary_32 (fun q4 => ?_)
        refine xj_if_eq Z 48 dX5_diary_35 (by decide) (fun _ => ?_) (fun _ => ?_)
        · refine xj_bipush Z (-3) dX5_diary_48 (by decide) ?_
          refine xj_sub [] (lv' := []) rfl ?_
          exact bX5_diary_50 Z hS (-3) q4.2
        · refine xj_aload_n Z 0 dX5_diary_38 rfl rfl ?_
          refine xg_X5_56 Z (hS 0 (by decide)) dX5_diary_39 ?_
          refine xg_X5_87 Z (hS 43 (by decide)) dX5_diary_42 ?_
          refine xj_goto Z 50 dX5_diary_45 (by decide) ?_
          refine xj_sub [] (lv' := []) rfl ?_
          exact bX5_diary_50 Z hS (q4.2.1 43 3) q4.2
      · refine xj_sub [] (lv' := []) rfl ?_
        exact bX5_diary_23 Z hS M
/-! WalkingLaw.noDiary()I -/
theorem dX5_noDiary_0 : decode cX5_noDiary 0 = .ok (.aload_n 0, 1) := by decide +kernel
theorem dX5_noDiary_1 : decode cX5_noDiary 1 = .ok (.getfield 56, 3) := by decide +kernel
theorem dX5_noDiary_4 : decode cX5_noDiary 4 = .ok (.getfield 87, 3) := by decide +kernel
theorem dX5_noDiary_7 : decode cX5_noDiary 7 = .ok (.istore_n 1, 1) := by decide +kernel
theorem dX5_noDiary_8 : decode cX5_noDiary 8 = .ok (.aload_n 0, 1) := by decide +kernel
theorem dX5_noDiary_9 : decode cX5_noDiary 9 = .ok (.getfield 56, 3) := by decide +kernel
theorem dX5_noDiary_12 : decode cX5_noDiary 12 = .ok (.iconst 0, 1) := by decide +kernel
theorem dX5_noDiary_13 : decode cX5_noDiary 13 = .ok (.putfield 87, 3) := by decide +kernel
theorem dX5_noDiary_16 : decode cX5_noDiary 16 = .ok (.iload_n 1, 1) := by decide +kernel
theorem dX5_noDiary_17 : decode cX5_noDiary 17 = .ok (.ireturn, 1) := by decide +kernel
def rmX5_noDiary : Room := { frames := 0, cells := 0, slots := 0, locals := 0 }
def fX5_noDiary (M : xm) : Option (Int32 × xm) := xl (M.1 43 3) (fun v1 => xl (up M 43 3 0) (fun M2 => (some (v1, M2))))
section
variable {p : Program} {l : Launch} {e : Env} {s : State} {m : MethodId} {args : Array Value} {below : List Frame} {meth : Method} {c : Code} {D : va_G} {cs : Nat → ClassId} {S : List Nat} {ad : Nat → Nat}
end
theorem kX5_noDiary (l : Launch) (D : va_G) (cs : Nat → ClassId) (S : List Nat) (ad : Nat → Nat) (hd : xdist S ad) (hS : xall S) (M : xm) : ∀ r, fX5_noDiary M = some r → Met l yX5_noDiary [Cond.code yX5_noDiary cX5_noDiary 2 (some .int)] rmX5_noDiary (XPc D cs S ad [.ref (ad 0)] M) (XQi D cs S ad r.1 r.2) 0 0 (xA S ad) := by
  refine xm_b (own := RX5) (lv := [(0, .ref (ad 0))]) (by decide +kernel) rfl rfl (Nat.le_of_ble_eq_true rfl) hd (fun p e s m args below meth c Z => ?_)
  unfold fX5_noDiary
  refine xj_aload_n Z 0 dX5_noDiary_0 rfl rfl ?_
  refine xg_X5_56 Z (hS 0 (by decide)) dX5_noDiary_1 ?_
  refine xg_X5_87 Z (hS 43 (by decide)) dX5_noDiary_4 ?_
  refine xj_top (fun v1 => ?_)
  refine xj_istore_n Z (lv' := [(1, .int v1), (0, .ref (ad 0))]) dX5_noDiary_7 rfl (by decide) rfl ?_
  refine xj_aload_n Z 1 dX5_noDiary_8 rfl rfl ?_
  refine xg_X5_56 Z (hS 0 (by decide)) dX5_noDiary_9 ?_
  refine xj_iconst Z 0 dX5_noDiary_12 (by decide) ?_
  refine xp_X5_87 Z (hS 43 (by decide)) dX5_noDiary_13 (fun M2 _ => ?_)
  refine xj_iload_n Z 0 dX5_noDiary_16 rfl rfl ?_
  exact xj_ret_b Z dX5_noDiary_17
/-! WalkingLaw.wrong()I -/
theorem dX5_wrong_0 : decode cX5_wrong 0 = .ok (.aload_n 0, 1) := by decide +kernel
theorem dX5_wrong_1 : decode cX5_wrong 1 = .ok (.getfield 42, 3) := by decide +kernel
theorem dX5_wrong_4 : decode cX5_wrong 4 = .ok (.aload_n 0, 1) := by decide +kernel
theorem dX5_wrong_5 : decode cX5_wrong 5 = .ok (.getfield 19, 3) := by decide +kernel
theorem dX5_wrong_8 : decode cX5_wrong 8 = .ok (.invokevirtual 84, 3) := by decide +kernel
theorem dX5_wrong_11 : decode cX5_wrong 11 = .ok (.aload_n 0, 1) := by decide +kernel
theorem dX5_wrong_12 : decode cX5_wrong 12 = .ok (.getfield 56, 3) := by decide +kernel
theorem dX5_wrong_15 : decode cX5_wrong 15 = .ok (.aload_n 0, 1) := by decide +kernel
theorem dX5_wrong_16 : decode cX5_wrong 16 = .ok (.getfield 42, 3) := by decide +kernel
theorem dX5_wrong_19 : decode cX5_wrong 19 = .ok (.invokevirtual 198, 3) := by decide +kernel
theorem dX5_wrong_22 : decode cX5_wrong 22 = .ok (.ireturn, 1) := by decide +kernel
def rmX5_wrong : Room := { frames := 5, cells := 0, slots := 0, locals := 113 }
def fX5_wrong (M : xm) : Option (Int32 × xm) := (fX4_begin 27 (rd (M.2 0)) M).bind (fun M1 => (fX0_falseLines 27 M1).bind (fun q2 => (some (q2.1, q2.2))))
section
variable {p : Program} {l : Launch} {e : Env} {s : State} {m : MethodId} {args : Array Value} {below : List Frame} {meth : Method} {c : Code} {D : va_G} {cs : Nat → ClassId} {S : List Nat} {ad : Nat → Nat}
end
theorem kX5_wrong (l : Launch) (D : va_G) (cs : Nat → ClassId) (S : List Nat) (ad : Nat → Nat) (hd : xdist S ad) (hS : xall S) (M : xm) : ∀ r, fX5_wrong M = some r → Met l yX5_wrong [Cond.code yX5_wrong cX5_wrong 1 (some .int)] rmX5_wrong (XPc D cs S ad [.ref (ad 0)] M) (XQi D cs S ad r.1 r.2) 0 0 (xA S ad) := by
  refine xm_b (own := RX5) (lv := [(0, .ref (ad 0))]) (by decide +kernel) rfl rfl (Nat.le_of_ble_eq_true rfl) hd (fun p e s m args below meth c Z => ?_)
  unfold fX5_wrong
  refine xj_aload_n Z 0 dX5_wrong_0 rfl rfl ?_
  refine xg_X5_42 Z (hS 0 (by decide)) dX5_wrong_1 ?_
  refine xj_aload_n Z 0 dX5_wrong_4 rfl rfl ?_
  refine xg_X5_19 Z (hS 0 (by decide)) dX5_wrong_5 ?_
  refine xj_callVm Z (As := [.ref (ad (rd (M.2 0)))]) (kX4_begin l D cs S ad Z.2.2.2.2.2.1.dist (xall_w27 hS) (xall_r hS (M.2 0)) M) gw_X5_84 ((xall_w27 hS).mem 0 (by decide)) (xall_w27 hS).lay rfl (n := 1) (by decide +kernel) rfl ⟨rfl, rfl⟩ (by decide) rfl (Nat.le_of_ble_eq_true rfl) dX5_wrong_8 (fun M1 => ?_)
  refine xj_aload_n Z 0 dX5_wrong_11 rfl rfl ?_
  refine xg_X5_56 Z (hS 0 (by decide)) dX5_wrong_12 ?_
  refine xj_aload_n Z 0 dX5_wrong_15 rfl rfl ?_
  refine xg_X5_42 Z (hS 0 (by decide)) dX5_wrong_16 ?_
  refine xj_callVb Z (As := [.ref (ad 27)]) (kX0_falseLines l D cs S ad Z.2.2.2.2.2.1.dist hS (xall_w27 hS) M1) gw_X5_198 (hS 43 (by decide)) rfl rfl (n := 1) (by decide +kernel) rfl ⟨rfl, rfl⟩ (by decide) rfl (Nat.le_of_ble_eq_true rfl) dX5_wrong_19 (fun q2 => ?_)
  exact xj_ret_b Z dX5_wrong_22
/-! WalkingLaw.late()I -/
theorem dX5_late_0 : decode cX5_late 0 = .ok (.aload_n 0, 1) := by decide +kernel
theorem dX5_late_1 : decode cX5_late 1 = .ok (.getfield 42, 3) := by decide +kernel
theorem dX5_late_4 : decode cX5_late 4 = .ok (.aload_n 0, 1) := by decide +kernel
theorem dX5_late_5 : decode cX5_late 5 = .ok (.getfield 19, 3) := by decide +kernel
theorem dX5_late_8 : decode cX5_late 8 = .ok (.invokevirtual 84, 3) := by decide +kernel
theorem dX5_late_11 : decode cX5_late 11 = .ok (.aload_n 0, 1) := by decide +kernel
theorem dX5_late_12 : decode cX5_late 12 = .ok (.getfield 56, 3) := by decide +kernel
theorem dX5_late_15 : decode cX5_late 15 = .ok (.aload_n 0, 1) := by decide +kernel
theorem dX5_late_16 : decode cX5_late 16 = .ok (.getfield 42, 3) := by decide +kernel
theorem dX5_late_19 : decode cX5_late 19 = .ok (.invokevirtual 202, 3) := by decide +kernel
theorem dX5_late_22 : decode cX5_late 22 = .ok (.bipush 20, 2) := by decide +kernel
theorem dX5_late_24 : decode cX5_late 24 = .ok (.iadd, 1) := by decide +kernel
theorem dX5_late_25 : decode cX5_late 25 = .ok (.ireturn, 1) := by decide +kernel
def rmX5_late : Room := { frames := 5, cells := 0, slots := 0, locals := 112 }
def fX5_late (M : xm) : Option (Int32 × xm) := (fX4_begin 27 (rd (M.2 0)) M).bind (fun M1 => (fX0_bestDelay 27 M1).bind (fun q2 => (some ((q2.1 + 20), q2.2))))
section
variable {p : Program} {l : Launch} {e : Env} {s : State} {m : MethodId} {args : Array Value} {below : List Frame} {meth : Method} {c : Code} {D : va_G} {cs : Nat → ClassId} {S : List Nat} {ad : Nat → Nat}
end
theorem kX5_late (l : Launch) (D : va_G) (cs : Nat → ClassId) (S : List Nat) (ad : Nat → Nat) (hd : xdist S ad) (hS : xall S) (M : xm) : ∀ r, fX5_late M = some r → Met l yX5_late [Cond.code yX5_late cX5_late 1 (some .int)] rmX5_late (XPc D cs S ad [.ref (ad 0)] M) (XQi D cs S ad r.1 r.2) 0 0 (xA S ad) := by
  refine xm_b (own := RX5) (lv := [(0, .ref (ad 0))]) (by decide +kernel) rfl rfl (Nat.le_of_ble_eq_true rfl) hd (fun p e s m args below meth c Z => ?_)
  unfold fX5_late
  refine xj_aload_n Z 0 dX5_late_0 rfl rfl ?_
  refine xg_X5_42 Z (hS 0 (by decide)) dX5_late_1 ?_
  refine xj_aload_n Z 0 dX5_late_4 rfl rfl ?_
  refine xg_X5_19 Z (hS 0 (by decide)) dX5_late_5 ?_
  refine xj_callVm Z (As := [.ref (ad (rd (M.2 0)))]) (kX4_begin l D cs S ad Z.2.2.2.2.2.1.dist (xall_w27 hS) (xall_r hS (M.2 0)) M) gw_X5_84 ((xall_w27 hS).mem 0 (by decide)) (xall_w27 hS).lay rfl (n := 1) (by decide +kernel) rfl ⟨rfl, rfl⟩ (by decide) rfl (Nat.le_of_ble_eq_true rfl) dX5_late_8 (fun M1 => ?_)
  refine xj_aload_n Z 0 dX5_late_11 rfl rfl ?_
  refine xg_X5_56 Z (hS 0 (by decide)) dX5_late_12 ?_
  refine xj_aload_n Z 0 dX5_late_15 rfl rfl ?_
  refine xg_X5_42 Z (hS 0 (by decide)) dX5_late_16 ?_
  refine xj_callVb Z (As := [.ref (ad 27)]) (kX0_bestDelay l D cs S ad Z.2.2.2.2.2.1.dist hS (xall_w27 hS) M1) gw_X5_202 (hS 43 (by decide)) rfl rfl (n := 1) (by decide +kernel) rfl ⟨rfl, rfl⟩ (by decide) rfl (Nat.le_of_ble_eq_true rfl) dX5_late_19 (fun q2 => ?_)
  refine xj_bipush Z 20 dX5_late_22 (by decide) ?_
  refine xj_iadd Z dX5_late_24 ?_
  exact xj_ret_b Z dX5_late_25
/-! WalkingLaw.isYear(I)Z -/
theorem dX5_isYear_0 : decode cX5_isYear 0 = .ok (.iload_n 0, 1) := by decide +kernel
theorem dX5_isYear_1 : decode cX5_isYear 1 = .ok (.ifCond .lt 14, 3) := by decide +kernel
theorem dX5_isYear_4 : decode cX5_isYear 4 = .ok (.iload_n 0, 1) := by decide +kernel
theorem dX5_isYear_5 : decode cX5_isYear 5 = .ok (.sipush 10000, 3) := by decide +kernel
theorem dX5_isYear_8 : decode cX5_isYear 8 = .ok (.if_icmp .ge 7, 3) := by decide +kernel
theorem dX5_isYear_11 : decode cX5_isYear 11 = .ok (.iconst 1, 1) := by decide +kernel
theorem dX5_isYear_12 : decode cX5_isYear 12 = .ok (.goto 4, 3) := by decide +kernel
theorem dX5_isYear_15 : decode cX5_isYear 15 = .ok (.iconst 0, 1) := by decide +kernel
theorem dX5_isYear_16 : decode cX5_isYear 16 = .ok (.ireturn, 1) := by decide +kernel
def rmX5_isYear : Room := { frames := 0, cells := 0, slots := 0, locals := 0 }
def fX5_isYear_16 (t0 : Int32) (M : xm) : Option (Int32) := (xbo t0 (some t0))
def fX5_isYear_15 (M : xm) : Option (Int32) := (fX5_isYear_16 0 M)
def fX5_isYear (x0 : Int32) (M : xm) : Option (Int32) := (if x0 < 0 then (fX5_isYear_15 M) else (if (10000 : Int32) ≤ x0 then (fX5_isYear_15 M) else (fX5_isYear_16 1 M)))
section
variable {p : Program} {l : Launch} {e : Env} {s : State} {m : MethodId} {args : Array Value} {below : List Frame} {meth : Method} {c : Code} {D : va_G} {cs : Nat → ClassId} {S : List Nat} {ad : Nat → Nat}
theorem bX5_isYear_16 (Z : CX p s m args meth c cX5_isYear 1 RX5 (some .boolean) D cs (xA S ad) S ad) (t0 : Int32) (M : xm) : XJ p l e rmX5_isYear s m args below meth c D cs (xA S ad) S ad 1 (XRr below args s D cs S ad M) 16 [] [.int t0] M (fX5_isYear_16 t0 M) := by
  unfold fX5_isYear_16
  exact xj_zret_r Z dX5_isYear_16
theorem bX5_isYear_15 (Z : CX p s m args meth c cX5_isYear 1 RX5 (some .boolean) D cs (xA S ad) S ad) (M : xm) : XJ p l e rmX5_isYear s m args below meth c D cs (xA S ad) S ad 1 (XRr below args s D cs S ad M) 15 [] [] M (fX5_isYear_15 M) := by
  unfold fX5_isYear_15
  refine xj_iconst Z 0 dX5_isYear_15 (by decide) ?_
  exact bX5_isYear_16 Z 0 M
end
theorem kX5_isYear (l : Launch) (D : va_G) (cs : Nat → ClassId) (S : List Nat) (ad : Nat → Nat) (hd : xdist S ad) (x0 : Int32) (M : xm) : ∀ r, fX5_isYear x0 M = some r → Met l yX5_isYear [Cond.code yX5_isYear cX5_isYear 1 (some .boolean)] rmX5_isYear (XPc D cs S ad [.int x0] M) (XQi D cs S ad r M) 0 0 (xA S ad) := by
  refine xm_r (own := RX5) (lv := [(0, .int x0)]) (by decide +kernel) rfl rfl (Nat.le_of_ble_eq_true rfl) hd (fun p e s m args below meth c Z => ?_)
  unfold fX5_isYear
  refine xj_iload_n Z 0 dX5_isYear_0 rfl rfl ?_
  refine xj_if_lt Z 15 dX5_isYear_1 (by decide) (fun _ => ?_) (fun _ => ?_)
  · refine xj_sub [] (lv' := []) rfl ?_
    exact bX5_isYear_15 Z M
  · refine xj_iload_n Z 0 dX5_isYear_4 rfl rfl ?_
    refine xj_sipush Z 10000 dX5_isYear_5 (by decide) ?_
    refine xj_icmp_ge Z 15 dX5_isYear_8 (by decide) (fun _ => ?_) (fun _ => ?_)
    · refine xj_sub [] (lv' := []) rfl ?_
      exact bX5_isYear_15 Z M
    · refine xj_iconst Z 1 dX5_isYear_11 (by decide) ?_
      refine xj_goto Z 16 dX5_isYear_12 (by decide) ?_
      refine xj_sub [] (lv' := []) rfl ?_
      exact bX5_isYear_16 Z 1 M
/-! WalkingLaw.drawnMind(II)I -/
theorem dX5_drawnMind_0 : decode cX5_drawnMind 0 = .ok (.ldc2_w 239, 3) := by decide +kernel
theorem dX5_drawnMind_3 : decode cX5_drawnMind 3 = .ok (.iload_n 0, 1) := by decide +kernel
theorem dX5_drawnMind_4 : decode cX5_drawnMind 4 = .ok (.i2l, 1) := by decide +kernel
theorem dX5_drawnMind_5 : decode cX5_drawnMind 5 = .ok (.lmul, 1) := by decide +kernel
theorem dX5_drawnMind_6 : decode cX5_drawnMind 6 = .ok (.ldc2_w 241, 3) := by decide +kernel
theorem dX5_drawnMind_9 : decode cX5_drawnMind 9 = .ok (.iload_n 1, 1) := by decide +kernel
theorem dX5_drawnMind_10 : decode cX5_drawnMind 10 = .ok (.i2l, 1) := by decide +kernel
theorem dX5_drawnMind_11 : decode cX5_drawnMind 11 = .ok (.lmul, 1) := by decide +kernel
theorem dX5_drawnMind_12 : decode cX5_drawnMind 12 = .ok (.ladd, 1) := by decide +kernel
theorem dX5_drawnMind_13 : decode cX5_drawnMind 13 = .ok (.lconst 1, 1) := by decide +kernel
theorem dX5_drawnMind_14 : decode cX5_drawnMind 14 = .ok (.ladd, 1) := by decide +kernel
theorem dX5_drawnMind_15 : decode cX5_drawnMind 15 = .ok (.lstore_n 2, 1) := by decide +kernel
theorem dX5_drawnMind_16 : decode cX5_drawnMind 16 = .ok (.lload_n 2, 1) := by decide +kernel
theorem dX5_drawnMind_17 : decode cX5_drawnMind 17 = .ok (.lload_n 2, 1) := by decide +kernel
theorem dX5_drawnMind_18 : decode cX5_drawnMind 18 = .ok (.lmul, 1) := by decide +kernel
theorem dX5_drawnMind_19 : decode cX5_drawnMind 19 = .ok (.ldc2_w 243, 3) := by decide +kernel
theorem dX5_drawnMind_22 : decode cX5_drawnMind 22 = .ok (.lrem, 1) := by decide +kernel
theorem dX5_drawnMind_23 : decode cX5_drawnMind 23 = .ok (.ldc2_w 245, 3) := by decide +kernel
theorem dX5_drawnMind_26 : decode cX5_drawnMind 26 = .ok (.lrem, 1) := by decide +kernel
theorem dX5_drawnMind_27 : decode cX5_drawnMind 27 = .ok (.l2i, 1) := by decide +kernel
theorem dX5_drawnMind_28 : decode cX5_drawnMind 28 = .ok (.ireturn, 1) := by decide +kernel
def rmX5_drawnMind : Room := { frames := 0, cells := 0, slots := 0, locals := 0 }
def fX5_drawnMind (x0 : Int32) (x1 : Int32) (M : xm) : Option (Int32) := xl (((7919 * (Int32.toInt64 x0)) + (6151 * (Int32.toInt64 x1))) + 1) (fun v1 => (some (Int64.toInt32 (((v1 * v1) - (v1 * v1) / 65521 * 65521) - ((v1 * v1) - (v1 * v1) / 65521 * 65521) / 16 * 16))))
section
variable {p : Program} {l : Launch} {e : Env} {s : State} {m : MethodId} {args : Array Value} {below : List Frame} {meth : Method} {c : Code} {D : va_G} {cs : Nat → ClassId} {S : List Nat} {ad : Nat → Nat}
end
theorem kX5_drawnMind (l : Launch) (D : va_G) (cs : Nat → ClassId) (S : List Nat) (ad : Nat → Nat) (hd : xdist S ad) (x0 : Int32) (x1 : Int32) (M : xm) : ∀ r, fX5_drawnMind x0 x1 M = some r → Met l yX5_drawnMind [Cond.code yX5_drawnMind cX5_drawnMind 4 (some .int)] rmX5_drawnMind (XPc D cs S ad [.int x0, .int x1] M) (XQi D cs S ad r M) 0 0 (xA S ad) := by
  refine xm_r (own := RX5) (lv := [(0, .int x0), (1, .int x1)]) (by decide +kernel) rfl rfl (Nat.le_of_ble_eq_true rfl) hd (fun p e s m args below meth c Z => ?_)
  unfold fX5_drawnMind
  refine xj_ldc2 Z dX5_drawnMind_0 xb_362 ?_
  refine xj_iload_n Z 0 dX5_drawnMind_3 rfl rfl ?_
  refine xj_i2l Z dX5_drawnMind_4 ?_
  refine xj_lmul Z dX5_drawnMind_5 ?_
  refine xj_ldc2 Z dX5_drawnMind_6 xb_363 ?_
  refine xj_iload_n Z 1 dX5_drawnMind_9 rfl rfl ?_
  refine xj_i2l Z dX5_drawnMind_10 ?_
  refine xj_lmul Z dX5_drawnMind_11 ?_
  refine xj_ladd Z dX5_drawnMind_12 ?_
  refine xj_lconst Z 1 dX5_drawnMind_13 (by decide) ?_
  refine xj_ladd Z dX5_drawnMind_14 ?_
  refine xj_topl (fun v1 => ?_)
  refine xj_lstore_n Z (lv' := [(2, .long v1), (0, .int x0), (1, .int x1)]) dX5_drawnMind_15 rfl (by decide) rfl ?_
  refine xj_lload_n Z 0 dX5_drawnMind_16 rfl rfl ?_
  refine xj_lload_n Z 0 dX5_drawnMind_17 rfl rfl ?_
  refine xj_lmul Z dX5_drawnMind_18 ?_
  refine xj_ldc2 Z dX5_drawnMind_19 xb_364 ?_
  refine xj_lrem Z dX5_drawnMind_22 (by decide) ?_
  refine xj_ldc2 Z dX5_drawnMind_23 xb_365 ?_
  refine xj_lrem Z dX5_drawnMind_26 (by decide) ?_
  refine xj_l2i Z dX5_drawnMind_27 ?_
  exact xj_ret_r Z dX5_drawnMind_28
/-! WalkingLaw.heldInYear(I)I -/
theorem dX5_heldInYear_0 : decode cX5_heldInYear 0 = .ok (.aload_n 0, 1) := by decide +kernel
theorem dX5_heldInYear_1 : decode cX5_heldInYear 1 = .ok (.getfield 42, 3) := by decide +kernel
theorem dX5_heldInYear_4 : decode cX5_heldInYear 4 = .ok (.aload_n 0, 1) := by decide +kernel
theorem dX5_heldInYear_5 : decode cX5_heldInYear 5 = .ok (.getfield 19, 3) := by decide +kernel
theorem dX5_heldInYear_8 : decode cX5_heldInYear 8 = .ok (.invokevirtual 84, 3) := by decide +kernel
theorem dX5_heldInYear_11 : decode cX5_heldInYear 11 = .ok (.iconst 0, 1) := by decide +kernel
theorem dX5_heldInYear_12 : decode cX5_heldInYear 12 = .ok (.istore_n 2, 1) := by decide +kernel
theorem dX5_heldInYear_13 : decode cX5_heldInYear 13 = .ok (.iload_n 2, 1) := by decide +kernel
theorem dX5_heldInYear_14 : decode cX5_heldInYear 14 = .ok (.aload_n 0, 1) := by decide +kernel
theorem dX5_heldInYear_15 : decode cX5_heldInYear 15 = .ok (.getfield 19, 3) := by decide +kernel
theorem dX5_heldInYear_18 : decode cX5_heldInYear 18 = .ok (.getfield 81, 3) := by decide +kernel
theorem dX5_heldInYear_21 : decode cX5_heldInYear 21 = .ok (.if_icmp .ge 22, 3) := by decide +kernel
theorem dX5_heldInYear_24 : decode cX5_heldInYear 24 = .ok (.aload_n 0, 1) := by decide +kernel
theorem dX5_heldInYear_25 : decode cX5_heldInYear 25 = .ok (.getfield 42, 3) := by decide +kernel
theorem dX5_heldInYear_28 : decode cX5_heldInYear 28 = .ok (.iload_n 2, 1) := by decide +kernel
theorem dX5_heldInYear_29 : decode cX5_heldInYear 29 = .ok (.iload_n 1, 1) := by decide +kernel
theorem dX5_heldInYear_30 : decode cX5_heldInYear 30 = .ok (.iload_n 2, 1) := by decide +kernel
theorem dX5_heldInYear_31 : decode cX5_heldInYear 31 = .ok (.invokestatic 232, 3) := by decide +kernel
theorem dX5_heldInYear_34 : decode cX5_heldInYear 34 = .ok (.invokevirtual 235, 3) := by decide +kernel
theorem dX5_heldInYear_37 : decode cX5_heldInYear 37 = .ok (.iinc 2 1, 3) := by decide +kernel
theorem dX5_heldInYear_40 : decode cX5_heldInYear 40 = .ok (.goto (-27), 3) := by decide +kernel
theorem dX5_heldInYear_43 : decode cX5_heldInYear 43 = .ok (.aload_n 0, 1) := by decide +kernel
theorem dX5_heldInYear_44 : decode cX5_heldInYear 44 = .ok (.getfield 42, 3) := by decide +kernel
theorem dX5_heldInYear_47 : decode cX5_heldInYear 47 = .ok (.sipush 200, 3) := by decide +kernel
theorem dX5_heldInYear_50 : decode cX5_heldInYear 50 = .ok (.invokevirtual 223, 3) := by decide +kernel
theorem dX5_heldInYear_53 : decode cX5_heldInYear 53 = .ok (.aload_n 0, 1) := by decide +kernel
theorem dX5_heldInYear_54 : decode cX5_heldInYear 54 = .ok (.getfield 42, 3) := by decide +kernel
theorem dX5_heldInYear_57 : decode cX5_heldInYear 57 = .ok (.invokevirtual 226, 3) := by decide +kernel
theorem dX5_heldInYear_60 : decode cX5_heldInYear 60 = .ok (.ireturn, 1) := by decide +kernel
def rmX5_heldInYear : Room := { frames := 5, cells := 0, slots := 0, locals := 115 }
def fX5_heldInYear_13 (x1 : Int32) : Nat → Int32 → xm → Option (Int32 × xm)
  | 0, _, _ => none
  | n + 1, x2, M => (if (M.1 (rd (M.2 0)) 6) ≤ x2 then (fX4_readAllFor 27 200 M).bind (fun M1 => (fX4_allHeld 27 M1).bind (fun v2 => (some (v2, M1)))) else (fX5_drawnMind x1 x2 M).bind (fun v3 => (fX4_setMind 27 x2 v3 M).bind (fun M4 => (fX5_heldInYear_13 x1 n (x2 + 1) M4))))
def fX5_heldInYear (x1 : Int32) (M : xm) : Option (Int32 × xm) := (fX4_begin 27 (rd (M.2 0)) M).bind (fun M5 => (fX5_heldInYear_13 x1 xfuel 0 M5))
section
variable {p : Program} {l : Launch} {e : Env} {s : State} {m : MethodId} {args : Array Value} {below : List Frame} {meth : Method} {c : Code} {D : va_G} {cs : Nat → ClassId} {S : List Nat} {ad : Nat → Nat}
theorem bX5_heldInYear_13 (Z : CX p s m args meth c cX5_heldInYear 3 RX5 (some .int) D cs (xA S ad) S ad) (hS : xall S) (x1 : Int32) : ∀ (n : Nat) (x2 : Int32) (M : xm), XJ p l e rmX5_heldInYear s m args below meth c D cs (xA S ad) S ad 3 (XRb below args s D cs S ad) 13 [(0, .ref (ad 0)), (1, .int x1), (2, .int x2)] [] M (fX5_heldInYear_13 x1 n x2 M) := by
  intro n
  induction n with
  | zero => intros; exact xj_none
  | succ n ih =>
    intro x2 M
    rw [fX5_heldInYear_13]
    refine xj_iload_n Z 2 dX5_heldInYear_13 rfl rfl ?_
    refine xj_aload_n Z 0 dX5_heldInYear_14 rfl rfl ?_
    refine xg_X5_19 Z (hS 0 (by decide)) dX5_heldInYear_15 ?_
    refine xg_X5_81 Z ((xall_r hS (M.2 0)).mem 0 (by decide)) (xall_r hS (M.2 0)).lay dX5_heldInYear_18 ?_
    refine xj_icmp_ge Z 43 dX5_heldInYear_21 (by decide) (fun _ => ?_) (fun _ => ?_)
    · refine xj_aload_n Z 0 dX5_heldInYear_43 rfl rfl ?_
      refine xg_X5_42 Z (hS 0 (by decide)) dX5_heldInYear_44 ?_
      refine xj_sipush Z 200 dX5_heldInYear_47 (by decide) ?_
      refine xj_callVm Z (As := [.int 200]) (kX4_readAllFor l D cs S ad Z.2.2.2.2.2.1.dist (xall_w27 hS) 200 M) gw_X5_223 ((xall_w27 hS).mem 0 (by decide)) (xall_w27 hS).lay rfl (n := 1) (by decide +kernel) rfl ⟨rfl, rfl⟩ (by decide) rfl (Nat.le_of_ble_eq_true rfl) dX5_heldInYear_50 (fun M1 => ?_)
      refine xj_aload_n Z 0 dX5_heldInYear_53 rfl rfl ?_
      refine xg_X5_42 Z (hS 0 (by decide)) dX5_heldInYear_54 ?_
      refine xj_callVr Z (As := []) (kX4_allHeld l D cs S ad Z.2.2.2.2.2.1.dist (xall_w27 hS) M1) gw_X5_226 ((xall_w27 hS).mem 0 (by decide)) (xall_w27 hS).lay rfl (n := 0) (by decide +kernel) rfl ⟨rfl, rfl⟩ (by decide) rfl (Nat.le_of_ble_eq_true rfl) dX5_heldInYear_57 (fun v2 => ?_)
      exact xj_ret_b Z dX5_heldInYear_60
    · refine xj_aload_n Z 0 dX5_heldInYear_24 rfl rfl ?_
      refine xg_X5_42 Z (hS 0 (by decide)) dX5_heldInYear_25 ?_
      refine xj_iload_n Z 2 dX5_heldInYear_28 rfl rfl ?_
      refine xj_iload_n Z 1 dX5_heldInYear_29 rfl rfl ?_
      refine xj_iload_n Z 2 dX5_heldInYear_30 rfl rfl ?_
      refine xj_callSr Z (As := [.int x1, .int x2]) (kX5_drawnMind l D cs S ad Z.2.2.2.2.2.1.dist x1 x2 M) gw_X5_232 (n := 2) (by decide +kernel) rfl ⟨rfl, rfl⟩ (by decide) rfl (Nat.le_of_ble_eq_true rfl) dX5_heldInYear_31 (fun v3 => ?_)
      refine xj_callVm Z (As := [.int x2, .int v3]) (kX4_setMind l D cs S ad Z.2.2.2.2.2.1.dist (xall_w27 hS) x2 v3 M) gw_X5_235 ((xall_w27 hS).mem 0 (by decide)) (xall_w27 hS).lay rfl (n := 2) (by decide +kernel) rfl ⟨rfl, rfl⟩ (by decide) rfl (Nat.le_of_ble_eq_true rfl) dX5_heldInYear_34 (fun M4 => ?_)
      refine xj_iinc Z 2 (x2 + 1) (lv' := [(2, .int (x2 + 1)), (0, .ref (ad 0)), (1, .int x1)]) dX5_heldInYear_37 rfl rfl (by decide) rfl ?_
      refine xj_goto Z 13 dX5_heldInYear_40 (by decide) ?_
      refine xj_sub [1, 2, 0] (lv' := [(0, .ref (ad 0)), (1, .int x1), (2, .int (x2 + 1))]) rfl ?_
      exact ih (x2 + 1) M4
end
theorem kX5_heldInYear (l : Launch) (D : va_G) (cs : Nat → ClassId) (S : List Nat) (ad : Nat → Nat) (hd : xdist S ad) (hS : xall S) (x1 : Int32) (M : xm) : ∀ r, fX5_heldInYear x1 M = some r → Met l yX5_heldInYear [Cond.code yX5_heldInYear cX5_heldInYear 3 (some .int)] rmX5_heldInYear (XPc D cs S ad [.ref (ad 0), .int x1] M) (XQi D cs S ad r.1 r.2) 0 0 (xA S ad) := by
  refine xm_b (own := RX5) (lv := [(0, .ref (ad 0)), (1, .int x1)]) (by decide +kernel) rfl rfl (Nat.le_of_ble_eq_true rfl) hd (fun p e s m args below meth c Z => ?_)
  unfold fX5_heldInYear
  refine xj_aload_n Z 0 dX5_heldInYear_0 rfl rfl ?_
  refine xg_X5_42 Z (hS 0 (by decide)) dX5_heldInYear_1 ?_
  refine xj_aload_n Z 0 dX5_heldInYear_4 rfl rfl ?_
  refine xg_X5_19 Z (hS 0 (by decide)) dX5_heldInYear_5 ?_
  refine xj_callVm Z (As := [.ref (ad (rd (M.2 0)))]) (kX4_begin l D cs S ad Z.2.2.2.2.2.1.dist (xall_w27 hS) (xall_r hS (M.2 0)) M) gw_X5_84 ((xall_w27 hS).mem 0 (by decide)) (xall_w27 hS).lay rfl (n := 1) (by decide +kernel) rfl ⟨rfl, rfl⟩ (by decide) rfl (Nat.le_of_ble_eq_true rfl) dX5_heldInYear_8 (fun M5 => ?_)
  refine xj_iconst Z 0 dX5_heldInYear_11 (by decide) ?_
  refine xj_istore_n Z (lv' := [(2, .int 0), (0, .ref (ad 0)), (1, .int x1)]) dX5_heldInYear_12 rfl (by decide) rfl ?_
  refine xj_sub [1, 2, 0] (lv' := [(0, .ref (ad 0)), (1, .int x1), (2, .int 0)]) rfl ?_
  exact bX5_heldInYear_13 Z hS x1 xfuel 0 M5
/-! WalkingLaw.year(I)I -/
theorem dX5_year_0 : decode cX5_year 0 = .ok (.iload_n 1, 1) := by decide +kernel
theorem dX5_year_1 : decode cX5_year 1 = .ok (.invokestatic 205, 3) := by decide +kernel
theorem dX5_year_4 : decode cX5_year 4 = .ok (.ifCond .eq 11, 3) := by decide +kernel
theorem dX5_year_7 : decode cX5_year 7 = .ok (.aload_n 0, 1) := by decide +kernel
theorem dX5_year_8 : decode cX5_year 8 = .ok (.iload_n 1, 1) := by decide +kernel
theorem dX5_year_9 : decode cX5_year 9 = .ok (.invokevirtual 208, 3) := by decide +kernel
theorem dX5_year_12 : decode cX5_year 12 = .ok (.goto 4, 3) := by decide +kernel
theorem dX5_year_15 : decode cX5_year 15 = .ok (.iconst (-1), 1) := by decide +kernel
theorem dX5_year_16 : decode cX5_year 16 = .ok (.ireturn, 1) := by decide +kernel
def rmX5_year : Room := { frames := 6, cells := 0, slots := 0, locals := 137 }
def fX5_year_16 (t0 : Int32) (M : xm) : Option (Int32 × xm) := (some (t0, M))
def fX5_year (x1 : Int32) (M : xm) : Option (Int32 × xm) := (fX5_isYear x1 M).bind (fun v1 => (if v1 = 0 then (fX5_year_16 (-1) M) else (fX5_heldInYear x1 M).bind (fun q2 => (fX5_year_16 q2.1 q2.2))))
section
variable {p : Program} {l : Launch} {e : Env} {s : State} {m : MethodId} {args : Array Value} {below : List Frame} {meth : Method} {c : Code} {D : va_G} {cs : Nat → ClassId} {S : List Nat} {ad : Nat → Nat}
theorem bX5_year_16 (Z : CX p s m args meth c cX5_year 2 RX5 (some .int) D cs (xA S ad) S ad) (hS : xall S) (t0 : Int32) (M : xm) : XJ p l e rmX5_year s m args below meth c D cs (xA S ad) S ad 2 (XRb below args s D cs S ad) 16 [] [.int t0] M (fX5_year_16 t0 M) := by
  unfold fX5_year_16
  exact xj_ret_b Z dX5_year_16
end
theorem kX5_year (l : Launch) (D : va_G) (cs : Nat → ClassId) (S : List Nat) (ad : Nat → Nat) (hd : xdist S ad) (hS : xall S) (x1 : Int32) (M : xm) : ∀ r, fX5_year x1 M = some r → Met l yX5_year [Cond.code yX5_year cX5_year 2 (some .int)] rmX5_year (XPc D cs S ad [.ref (ad 0), .int x1] M) (XQi D cs S ad r.1 r.2) 0 0 (xA S ad) := by
  refine xm_b (own := RX5) (lv := [(0, .ref (ad 0)), (1, .int x1)]) (by decide +kernel) rfl rfl (Nat.le_of_ble_eq_true rfl) hd (fun p e s m args below meth c Z => ?_)
  unfold fX5_year
  refine xj_iload_n Z 1 dX5_year_0 rfl rfl ?_
  refine xj_callSr Z (As := [.int x1]) (kX5_isYear l D cs S ad Z.2.2.2.2.2.1.dist x1 M) gw_X5_205 (n := 1) (by decide +kernel) rfl ⟨rfl, rfl⟩ (by decide) rfl (Nat.le_of_ble_eq_true rfl) dX5_year_1 (fun v1 => ?_)
  refine xj_if_eq Z 15 dX5_year_4 (by decide) (fun _ => ?_) (fun _ => ?_)
  · refine xj_iconst Z (-1) dX5_year_15 (by decide) ?_
    refine xj_sub [] (lv' := []) rfl ?_
    exact bX5_year_16 Z hS (-1) M
  · refine xj_aload_n Z 0 dX5_year_7 rfl rfl ?_
    refine xj_iload_n Z 1 dX5_year_8 rfl rfl ?_
    refine xj_callVb Z (As := [.int x1]) (kX5_heldInYear l D cs S ad Z.2.2.2.2.2.1.dist hS x1 M) gw_X5_208 (hS 0 (by decide)) rfl rfl (n := 1) (by decide +kernel) rfl ⟨rfl, rfl⟩ (by decide) rfl (Nat.le_of_ble_eq_true rfl) dX5_year_9 (fun q2 => ?_)
    refine xj_goto Z 16 dX5_year_12 (by decide) ?_
    refine xj_sub [] (lv' := []) rfl ?_
    exact bX5_year_16 Z hS q2.1 q2.2
/-! WalkingLaw.ten(II)I -/
theorem dX5_ten_0 : decode cX5_ten 0 = .ok (.iload_n 1, 1) := by decide +kernel
theorem dX5_ten_1 : decode cX5_ten 1 = .ok (.invokestatic 205, 3) := by decide +kernel
theorem dX5_ten_4 : decode cX5_ten 4 = .ok (.ifCond .eq 11, 3) := by decide +kernel
theorem dX5_ten_7 : decode cX5_ten 7 = .ok (.aload_n 0, 1) := by decide +kernel
theorem dX5_ten_8 : decode cX5_ten 8 = .ok (.iload_n 2, 1) := by decide +kernel
theorem dX5_ten_9 : decode cX5_ten 9 = .ok (.invokevirtual 137, 3) := by decide +kernel
theorem dX5_ten_12 : decode cX5_ten 12 = .ok (.ifCond .ne 5, 3) := by decide +kernel
theorem dX5_ten_15 : decode cX5_ten 15 = .ok (.iconst (-1), 1) := by decide +kernel
theorem dX5_ten_16 : decode cX5_ten 16 = .ok (.ireturn, 1) := by decide +kernel
theorem dX5_ten_17 : decode cX5_ten 17 = .ok (.iconst 0, 1) := by decide +kernel
theorem dX5_ten_18 : decode cX5_ten 18 = .ok (.istore_n 3, 1) := by decide +kernel
theorem dX5_ten_19 : decode cX5_ten 19 = .ok (.iconst 0, 1) := by decide +kernel
theorem dX5_ten_20 : decode cX5_ten 20 = .ok (.istore 4, 2) := by decide +kernel
theorem dX5_ten_22 : decode cX5_ten 22 = .ok (.iload 4, 2) := by decide +kernel
theorem dX5_ten_24 : decode cX5_ten 24 = .ok (.bipush 10, 2) := by decide +kernel
theorem dX5_ten_26 : decode cX5_ten 26 = .ok (.if_icmp .ge 28, 3) := by decide +kernel
theorem dX5_ten_29 : decode cX5_ten 29 = .ok (.iload_n 3, 1) := by decide +kernel
theorem dX5_ten_30 : decode cX5_ten 30 = .ok (.aload_n 0, 1) := by decide +kernel
theorem dX5_ten_31 : decode cX5_ten 31 = .ok (.iload_n 1, 1) := by decide +kernel
theorem dX5_ten_32 : decode cX5_ten 32 = .ok (.iload 4, 2) := by decide +kernel
theorem dX5_ten_34 : decode cX5_ten 34 = .ok (.iadd, 1) := by decide +kernel
theorem dX5_ten_35 : decode cX5_ten 35 = .ok (.sipush 10000, 3) := by decide +kernel
theorem dX5_ten_38 : decode cX5_ten 38 = .ok (.irem, 1) := by decide +kernel
theorem dX5_ten_39 : decode cX5_ten 39 = .ok (.invokevirtual 208, 3) := by decide +kernel
theorem dX5_ten_42 : decode cX5_ten 42 = .ok (.iload_n 2, 1) := by decide +kernel
theorem dX5_ten_43 : decode cX5_ten 43 = .ok (.ishr, 1) := by decide +kernel
theorem dX5_ten_44 : decode cX5_ten 44 = .ok (.iconst 1, 1) := by decide +kernel
theorem dX5_ten_45 : decode cX5_ten 45 = .ok (.iand, 1) := by decide +kernel
theorem dX5_ten_46 : decode cX5_ten 46 = .ok (.iadd, 1) := by decide +kernel
theorem dX5_ten_47 : decode cX5_ten 47 = .ok (.istore_n 3, 1) := by decide +kernel
theorem dX5_ten_48 : decode cX5_ten 48 = .ok (.iinc 4 1, 3) := by decide +kernel
theorem dX5_ten_51 : decode cX5_ten 51 = .ok (.goto (-29), 3) := by decide +kernel
theorem dX5_ten_54 : decode cX5_ten 54 = .ok (.iload_n 3, 1) := by decide +kernel
theorem dX5_ten_55 : decode cX5_ten 55 = .ok (.ireturn, 1) := by decide +kernel
def rmX5_ten : Room := { frames := 6, cells := 0, slots := 0, locals := 137 }
def fX5_ten_15 (M : xm) : Option (Int32 × xm) := (some ((-1), M))
def fX5_ten_22 (x1 : Int32) (x2 : Int32) : Nat → Int32 → Int32 → xm → Option (Int32 × xm)
  | 0, _, _, _ => none
  | n + 1, x3, x4, M => (if (10 : Int32) ≤ x4 then (some (x3, M)) else (fX5_heldInYear ((x1 + x4) - (x1 + x4) / 10000 * 10000) M).bind (fun q1 => xl (x3 + ((q1.1 >>> (x2 &&& 31)) &&& 1)) (fun v2 => (fX5_ten_22 x1 x2 n v2 (x4 + 1) q1.2))))
def fX5_ten (x1 : Int32) (x2 : Int32) (M : xm) : Option (Int32 × xm) := (fX5_isYear x1 M).bind (fun v3 => (if v3 = 0 then (fX5_ten_15 M) else (fX5_isBill x2 M).bind (fun v4 => (if v4 = 0 then (fX5_ten_15 M) else (fX5_ten_22 x1 x2 xfuel 0 0 M)))))
section
variable {p : Program} {l : Launch} {e : Env} {s : State} {m : MethodId} {args : Array Value} {below : List Frame} {meth : Method} {c : Code} {D : va_G} {cs : Nat → ClassId} {S : List Nat} {ad : Nat → Nat}
theorem bX5_ten_15 (Z : CX p s m args meth c cX5_ten 5 RX5 (some .int) D cs (xA S ad) S ad) (hS : xall S) (M : xm) : XJ p l e rmX5_ten s m args below meth c D cs (xA S ad) S ad 5 (XRb below args s D cs S ad) 15 [] [] M (fX5_ten_15 M) := by
  unfold fX5_ten_15
  refine xj_iconst Z (-1) dX5_ten_15 (by decide) ?_
  exact xj_ret_b Z dX5_ten_16
theorem bX5_ten_22 (Z : CX p s m args meth c cX5_ten 5 RX5 (some .int) D cs (xA S ad) S ad) (hS : xall S) (x1 : Int32) (x2 : Int32) : ∀ (n : Nat) (x3 : Int32) (x4 : Int32) (M : xm), XJ p l e rmX5_ten s m args below meth c D cs (xA S ad) S ad 5 (XRb below args s D cs S ad) 22 [(0, .ref (ad 0)), (1, .int x1), (2, .int x2), (3, .int x3), (4, .int x4)] [] M (fX5_ten_22 x1 x2 n x3 x4 M) := by
  intro n
  induction n with
  | zero => intros; exact xj_none
  | succ n ih =>
    intro x3 x4 M
    rw [fX5_ten_22]
    refine xj_iload Z 4 dX5_ten_22 rfl ?_
    refine xj_bipush Z 10 dX5_ten_24 (by decide) ?_
    refine xj_icmp_ge Z 54 dX5_ten_26 (by decide) (fun _ => ?_) (fun _ => ?_)
    · refine xj_iload_n Z 3 dX5_ten_54 rfl rfl ?_
      exact xj_ret_b Z dX5_ten_55
    · refine xj_iload_n Z 3 dX5_ten_29 rfl rfl ?_
      refine xj_aload_n Z 0 dX5_ten_30 rfl rfl ?_
      refine xj_iload_n Z 1 dX5_ten_31 rfl rfl ?_
      refine xj_iload Z 4 dX5_ten_32 rfl ?_
      refine xj_iadd Z dX5_ten_34 ?_
      refine xj_sipush Z 10000 dX5_ten_35 (by decide) ?_
      refine xj_irem Z dX5_ten_38 (by decide) ?_
      refine xj_callVb Z (As := [.int ((x1 + x4) - (x1 + x4) / 10000 * 10000)]) (kX5_heldInYear l D cs S ad Z.2.2.2.2.2.1.dist hS ((x1 + x4) - (x1 + x4) / 10000 * 10000) M) gw_X5_208 (hS 0 (by decide)) rfl rfl (n := 1) (by decide +kernel) rfl ⟨rfl, rfl⟩ (by decide) rfl (Nat.le_of_ble_eq_true rfl) dX5_ten_39 (fun q1 => ?_)
      refine xj_iload_n Z 2 dX5_ten_42 rfl rfl ?_
      refine xj_ishr Z dX5_ten_43 ?_
      refine xj_iconst Z 1 dX5_ten_44 (by decide) ?_
      refine xj_iand Z dX5_ten_45 ?_
      refine xj_iadd Z dX5_ten_46 ?_
      refine xj_top (fun v2 => ?_)
      refine xj_istore_n Z (lv' := [(3, .int v2), (0, .ref (ad 0)), (1, .int x1), (2, .int x2), (4, .int x4)]) dX5_ten_47 rfl (by decide) rfl ?_
      refine xj_iinc Z 4 (x4 + 1) (lv' := [(4, .int (x4 + 1)), (3, .int v2), (0, .ref (ad 0)), (1, .int x1), (2, .int x2)]) dX5_ten_48 rfl rfl (by decide) rfl ?_
      refine xj_goto Z 22 dX5_ten_51 (by decide) ?_
      refine xj_sub [2, 3, 4, 1, 0] (lv' := [(0, .ref (ad 0)), (1, .int x1), (2, .int x2), (3, .int v2), (4, .int (x4 + 1))]) rfl ?_
      exact ih v2 (x4 + 1) q1.2
end
theorem kX5_ten (l : Launch) (D : va_G) (cs : Nat → ClassId) (S : List Nat) (ad : Nat → Nat) (hd : xdist S ad) (hS : xall S) (x1 : Int32) (x2 : Int32) (M : xm) : ∀ r, fX5_ten x1 x2 M = some r → Met l yX5_ten [Cond.code yX5_ten cX5_ten 5 (some .int)] rmX5_ten (XPc D cs S ad [.ref (ad 0), .int x1, .int x2] M) (XQi D cs S ad r.1 r.2) 0 0 (xA S ad) := by
  refine xm_b (own := RX5) (lv := [(0, .ref (ad 0)), (1, .int x1), (2, .int x2)]) (by decide +kernel) rfl rfl (Nat.le_of_ble_eq_true rfl) hd (fun p e s m args below meth c Z => ?_)
  unfold fX5_ten
  refine xj_iload_n Z 1 dX5_ten_0 rfl rfl ?_
  refine xj_callSr Z (As := [.int x1]) (kX5_isYear l D cs S ad Z.2.2.2.2.2.1.dist x1 M) gw_X5_205 (n := 1) (by decide +kernel) rfl ⟨rfl, rfl⟩ (by decide) rfl (Nat.le_of_ble_eq_true rfl) dX5_ten_1 (fun v3 => ?_)
  refine xj_if_eq Z 15 dX5_ten_4 (by decide) (fun _ => ?_) (fun _ => ?_)
  · refine xj_sub [] (lv' := []) rfl ?_
    exact bX5_ten_15 Z hS M
  · refine xj_aload_n Z 0 dX5_ten_7 rfl rfl ?_
    refine xj_iload_n Z 2 dX5_ten_8 rfl rfl ?_
    refine xj_callVr Z (As := [.int x2]) (kX5_isBill l D cs S ad Z.2.2.2.2.2.1.dist hS x2 M) gw_X5_137 (hS 0 (by decide)) rfl rfl (n := 1) (by decide +kernel) rfl ⟨rfl, rfl⟩ (by decide) rfl (Nat.le_of_ble_eq_true rfl) dX5_ten_9 (fun v4 => ?_)
    refine xj_if_ne Z 17 dX5_ten_12 (by decide) (fun _ => ?_) (fun _ => ?_)
    · refine xj_iconst Z 0 dX5_ten_17 (by decide) ?_
      refine xj_istore_n Z (lv' := [(3, .int 0), (0, .ref (ad 0)), (1, .int x1), (2, .int x2)]) dX5_ten_18 rfl (by decide) rfl ?_
      refine xj_iconst Z 0 dX5_ten_19 (by decide) ?_
      refine xj_istore Z (lv' := [(4, .int 0), (3, .int 0), (0, .ref (ad 0)), (1, .int x1), (2, .int x2)]) dX5_ten_20 (by decide) rfl ?_
      refine xj_sub [2, 3, 4, 1, 0] (lv' := [(0, .ref (ad 0)), (1, .int x1), (2, .int x2), (3, .int 0), (4, .int 0)]) rfl ?_
      exact bX5_ten_22 Z hS x1 x2 xfuel 0 0 M
    · refine xj_sub [] (lv' := []) rfl ?_
      exact bX5_ten_15 Z hS M
/-! WalkingLaw.keep()I -/
theorem dX5_keep_0 : decode cX5_keep 0 = .ok (.aload_n 0, 1) := by decide +kernel
theorem dX5_keep_1 : decode cX5_keep 1 = .ok (.getfield 49, 3) := by decide +kernel
theorem dX5_keep_4 : decode cX5_keep 4 = .ok (.iconst 2, 1) := by decide +kernel
theorem dX5_keep_5 : decode cX5_keep 5 = .ok (.if_icmp .lt 6, 3) := by decide +kernel
theorem dX5_keep_8 : decode cX5_keep 8 = .ok (.bipush (-3), 2) := by decide +kernel
theorem dX5_keep_10 : decode cX5_keep 10 = .ok (.ireturn, 1) := by decide +kernel
theorem dX5_keep_11 : decode cX5_keep 11 = .ok (.aload_n 0, 1) := by decide +kernel
theorem dX5_keep_12 : decode cX5_keep 12 = .ok (.getfield 45, 3) := by decide +kernel
theorem dX5_keep_15 : decode cX5_keep 15 = .ok (.aload_n 0, 1) := by decide +kernel
theorem dX5_keep_16 : decode cX5_keep 16 = .ok (.getfield 49, 3) := by decide +kernel
theorem dX5_keep_19 : decode cX5_keep 19 = .ok (.aaload, 1) := by decide +kernel
theorem dX5_keep_20 : decode cX5_keep 20 = .ok (.aload_n 0, 1) := by decide +kernel
theorem dX5_keep_21 : decode cX5_keep 21 = .ok (.getfield 38, 3) := by decide +kernel
theorem dX5_keep_24 : decode cX5_keep 24 = .ok (.invokevirtual 211, 3) := by decide +kernel
theorem dX5_keep_27 : decode cX5_keep 27 = .ok (.aload_n 0, 1) := by decide +kernel
theorem dX5_keep_28 : decode cX5_keep 28 = .ok (.dup, 1) := by decide +kernel
theorem dX5_keep_29 : decode cX5_keep 29 = .ok (.getfield 49, 3) := by decide +kernel
theorem dX5_keep_32 : decode cX5_keep 32 = .ok (.iconst 1, 1) := by decide +kernel
theorem dX5_keep_33 : decode cX5_keep 33 = .ok (.iadd, 1) := by decide +kernel
theorem dX5_keep_34 : decode cX5_keep 34 = .ok (.putfield 49, 3) := by decide +kernel
theorem dX5_keep_37 : decode cX5_keep 37 = .ok (.aload_n 0, 1) := by decide +kernel
theorem dX5_keep_38 : decode cX5_keep 38 = .ok (.getfield 49, 3) := by decide +kernel
theorem dX5_keep_41 : decode cX5_keep 41 = .ok (.ireturn, 1) := by decide +kernel
def rmX5_keep : Room := { frames := 1, cells := 0, slots := 0, locals := 22 }
def fX5_keep (M : xm) : Option (Int32 × xm) := (if (M.1 0 6) < 2 then xchk (M.1 0 6) 2 ((fX4_become (33 + 5 * ((M.1 0 6)).toNatClampNeg) 22 M).bind (fun M2 => xl (up M2 0 6 ((M2.1 0 6) + 1)) (fun M3 => (some ((M3.1 0 6), M3))))) else (some ((-3), M)))
section
variable {p : Program} {l : Launch} {e : Env} {s : State} {m : MethodId} {args : Array Value} {below : List Frame} {meth : Method} {c : Code} {D : va_G} {cs : Nat → ClassId} {S : List Nat} {ad : Nat → Nat}
end
theorem kX5_keep (l : Launch) (D : va_G) (cs : Nat → ClassId) (S : List Nat) (ad : Nat → Nat) (hd : xdist S ad) (hS : xall S) (M : xm) : ∀ r, fX5_keep M = some r → Met l yX5_keep [Cond.code yX5_keep cX5_keep 1 (some .int)] rmX5_keep (XPc D cs S ad [.ref (ad 0)] M) (XQi D cs S ad r.1 r.2) 0 0 (xA S ad) := by
  refine xm_b (own := RX5) (lv := [(0, .ref (ad 0))]) (by decide +kernel) rfl rfl (Nat.le_of_ble_eq_true rfl) hd (fun p e s m args below meth c Z => ?_)
  unfold fX5_keep
  refine xj_aload_n Z 0 dX5_keep_0 rfl rfl ?_
  refine xg_X5_49 Z (hS 0 (by decide)) dX5_keep_1 ?_
  refine xj_iconst Z 2 dX5_keep_4 (by decide) ?_
  refine xj_icmp_lt Z 11 dX5_keep_5 (by decide) (fun _ => ?_) (fun _ => ?_)
  · refine xj_aload_n Z 0 dX5_keep_11 rfl rfl ?_
    refine xg_X5_45 Z (hS 0 (by decide)) dX5_keep_12 ?_
    refine xj_aload_n Z 0 dX5_keep_15 rfl rfl ?_
    refine xg_X5_49 Z (hS 0 (by decide)) dX5_keep_16 ?_
    refine xj_aaldK Z hS dX5_keep_19 (fun h1 => ?_)
    refine xj_aload_n Z 0 dX5_keep_20 rfl rfl ?_
    refine xg_X5_38 Z (hS 0 (by decide)) dX5_keep_21 ?_
    refine xj_callVm Z (As := [.ref (ad 22)]) (kX4_become l D cs S ad Z.2.2.2.2.2.1.dist (xkept hS h1) (xall_w22 hS) M) gw_X5_211 ((xkept hS h1).mem 0 (by decide)) (xkept hS h1).lay rfl (n := 1) (by decide +kernel) rfl ⟨rfl, rfl⟩ (by decide) rfl (Nat.le_of_ble_eq_true rfl) dX5_keep_24 (fun M2 => ?_)
    refine xj_aload_n Z 0 dX5_keep_27 rfl rfl ?_
    refine xj_dup Z dX5_keep_28 rfl ?_
    refine xg_X5_49 Z (hS 0 (by decide)) dX5_keep_29 ?_
    refine xj_iconst Z 1 dX5_keep_32 (by decide) ?_
    refine xj_iadd Z dX5_keep_33 ?_
    refine xp_X5_49 Z (hS 0 (by decide)) dX5_keep_34 (fun M3 _ => ?_)
    refine xj_aload_n Z 0 dX5_keep_37 rfl rfl ?_
    refine xg_X5_49 Z (hS 0 (by decide)) dX5_keep_38 ?_
    exact xj_ret_b Z dX5_keep_41
  · refine xj_bipush Z (-3) dX5_keep_8 (by decide) ?_
    exact xj_ret_b Z dX5_keep_10
/-! WalkingLaw.again()I -/
theorem dX5_again_0 : decode cX5_again 0 = .ok (.aload_n 0, 1) := by decide +kernel
theorem dX5_again_1 : decode cX5_again 1 = .ok (.getfield 49, 3) := by decide +kernel
theorem dX5_again_4 : decode cX5_again 4 = .ok (.ifCond .gt 6, 3) := by decide +kernel
theorem dX5_again_7 : decode cX5_again 7 = .ok (.bipush (-2), 2) := by decide +kernel
theorem dX5_again_9 : decode cX5_again 9 = .ok (.ireturn, 1) := by decide +kernel
theorem dX5_again_10 : decode cX5_again 10 = .ok (.aload_n 0, 1) := by decide +kernel
theorem dX5_again_11 : decode cX5_again 11 = .ok (.dup, 1) := by decide +kernel
theorem dX5_again_12 : decode cX5_again 12 = .ok (.getfield 49, 3) := by decide +kernel
theorem dX5_again_15 : decode cX5_again 15 = .ok (.iconst 1, 1) := by decide +kernel
theorem dX5_again_16 : decode cX5_again 16 = .ok (.isub, 1) := by decide +kernel
theorem dX5_again_17 : decode cX5_again 17 = .ok (.putfield 49, 3) := by decide +kernel
theorem dX5_again_20 : decode cX5_again 20 = .ok (.aload_n 0, 1) := by decide +kernel
theorem dX5_again_21 : decode cX5_again 21 = .ok (.getfield 38, 3) := by decide +kernel
theorem dX5_again_24 : decode cX5_again 24 = .ok (.aload_n 0, 1) := by decide +kernel
theorem dX5_again_25 : decode cX5_again 25 = .ok (.getfield 45, 3) := by decide +kernel
theorem dX5_again_28 : decode cX5_again 28 = .ok (.aload_n 0, 1) := by decide +kernel
theorem dX5_again_29 : decode cX5_again 29 = .ok (.getfield 49, 3) := by decide +kernel
theorem dX5_again_32 : decode cX5_again 32 = .ok (.aaload, 1) := by decide +kernel
theorem dX5_again_33 : decode cX5_again 33 = .ok (.invokevirtual 211, 3) := by decide +kernel
theorem dX5_again_36 : decode cX5_again 36 = .ok (.aload_n 0, 1) := by decide +kernel
theorem dX5_again_37 : decode cX5_again 37 = .ok (.getfield 49, 3) := by decide +kernel
theorem dX5_again_40 : decode cX5_again 40 = .ok (.ireturn, 1) := by decide +kernel
def rmX5_again : Room := { frames := 1, cells := 0, slots := 0, locals := 22 }
def fX5_again (M : xm) : Option (Int32 × xm) := (if (0 : Int32) < (M.1 0 6) then xl (up M 0 6 ((M.1 0 6) - 1)) (fun M1 => xchk (M1.1 0 6) 2 ((fX4_become 22 (33 + 5 * ((M1.1 0 6)).toNatClampNeg) M1).bind (fun M3 => (some ((M3.1 0 6), M3))))) else (some ((-2), M)))
section
variable {p : Program} {l : Launch} {e : Env} {s : State} {m : MethodId} {args : Array Value} {below : List Frame} {meth : Method} {c : Code} {D : va_G} {cs : Nat → ClassId} {S : List Nat} {ad : Nat → Nat}
end
theorem kX5_again (l : Launch) (D : va_G) (cs : Nat → ClassId) (S : List Nat) (ad : Nat → Nat) (hd : xdist S ad) (hS : xall S) (M : xm) : ∀ r, fX5_again M = some r → Met l yX5_again [Cond.code yX5_again cX5_again 1 (some .int)] rmX5_again (XPc D cs S ad [.ref (ad 0)] M) (XQi D cs S ad r.1 r.2) 0 0 (xA S ad) := by
  refine xm_b (own := RX5) (lv := [(0, .ref (ad 0))]) (by decide +kernel) rfl rfl (Nat.le_of_ble_eq_true rfl) hd (fun p e s m args below meth c Z => ?_)
  unfold fX5_again
  refine xj_aload_n Z 0 dX5_again_0 rfl rfl ?_
  refine xg_X5_49 Z (hS 0 (by decide)) dX5_again_1 ?_
  refine xj_if_gt Z 10 dX5_again_4 (by decide) (fun _ => ?_) (fun _ => ?_)
  · refine xj_aload_n Z 0 dX5_again_10 rfl rfl ?_
    refine xj_dup Z dX5_again_11 rfl ?_
    refine xg_X5_49 Z (hS 0 (by decide)) dX5_again_12 ?_
    refine xj_iconst Z 1 dX5_again_15 (by decide) ?_
    refine xj_isub Z dX5_again_16 ?_
    refine xp_X5_49 Z (hS 0 (by decide)) dX5_again_17 (fun M1 _ => ?_)
    refine xj_aload_n Z 0 dX5_again_20 rfl rfl ?_
    refine xg_X5_38 Z (hS 0 (by decide)) dX5_again_21 ?_
    refine xj_aload_n Z 0 dX5_again_24 rfl rfl ?_
    refine xg_X5_45 Z (hS 0 (by decide)) dX5_again_25 ?_
    refine xj_aload_n Z 0 dX5_again_28 rfl rfl ?_
    refine xg_X5_49 Z (hS 0 (by decide)) dX5_again_29 ?_
    refine xj_aaldK Z hS dX5_again_32 (fun h2 => ?_)
    refine xj_callVm Z (As := [.ref (ad (33 + 5 * ((M1.1 0 6)).toNatClampNeg))]) (kX4_become l D cs S ad Z.2.2.2.2.2.1.dist (xall_w22 hS) (xkept hS h2) M1) gw_X5_211 ((xall_w22 hS).mem 0 (by decide)) (xall_w22 hS).lay rfl (n := 1) (by decide +kernel) rfl ⟨rfl, rfl⟩ (by decide) rfl (Nat.le_of_ble_eq_true rfl) dX5_again_33 (fun M3 => ?_)
    refine xj_aload_n Z 0 dX5_again_36 rfl rfl ?_
    refine xg_X5_49 Z (hS 0 (by decide)) dX5_again_37 ?_
    exact xj_ret_b Z dX5_again_40
  · refine xj_bipush Z (-2) dX5_again_7 (by decide) ?_
    exact xj_ret_b Z dX5_again_9
/-! WalkingLaw.count(I)I -/
theorem dX5_count_0 : decode cX5_count 0 = .ok (.iload_n 1, 1) := by decide +kernel
theorem dX5_count_1 : decode cX5_count 1 = .ok (.tableswitch 120 0 8 #[51, 59, 67, 75, 83, 91, 99, 104, 112], 51) := by decide +kernel
theorem dX5_count_52 : decode cX5_count 52 = .ok (.aload_n 0, 1) := by decide +kernel
theorem dX5_count_53 : decode cX5_count 53 = .ok (.getfield 19, 3) := by decide +kernel
theorem dX5_count_56 : decode cX5_count 56 = .ok (.getfield 78, 3) := by decide +kernel
theorem dX5_count_59 : decode cX5_count 59 = .ok (.ireturn, 1) := by decide +kernel
theorem dX5_count_60 : decode cX5_count 60 = .ok (.aload_n 0, 1) := by decide +kernel
theorem dX5_count_61 : decode cX5_count 61 = .ok (.getfield 19, 3) := by decide +kernel
theorem dX5_count_64 : decode cX5_count 64 = .ok (.getfield 81, 3) := by decide +kernel
theorem dX5_count_67 : decode cX5_count 67 = .ok (.ireturn, 1) := by decide +kernel
theorem dX5_count_68 : decode cX5_count 68 = .ok (.aload_n 0, 1) := by decide +kernel
theorem dX5_count_69 : decode cX5_count 69 = .ok (.getfield 19, 3) := by decide +kernel
theorem dX5_count_72 : decode cX5_count 72 = .ok (.getfield 214, 3) := by decide +kernel
theorem dX5_count_75 : decode cX5_count 75 = .ok (.ireturn, 1) := by decide +kernel
theorem dX5_count_76 : decode cX5_count 76 = .ok (.aload_n 0, 1) := by decide +kernel
theorem dX5_count_77 : decode cX5_count 77 = .ok (.getfield 38, 3) := by decide +kernel
theorem dX5_count_80 : decode cX5_count 80 = .ok (.getfield 126, 3) := by decide +kernel
theorem dX5_count_83 : decode cX5_count 83 = .ok (.ireturn, 1) := by decide +kernel
theorem dX5_count_84 : decode cX5_count 84 = .ok (.aload_n 0, 1) := by decide +kernel
theorem dX5_count_85 : decode cX5_count 85 = .ok (.getfield 19, 3) := by decide +kernel
theorem dX5_count_88 : decode cX5_count 88 = .ok (.getfield 217, 3) := by decide +kernel
theorem dX5_count_91 : decode cX5_count 91 = .ok (.ireturn, 1) := by decide +kernel
theorem dX5_count_92 : decode cX5_count 92 = .ok (.aload_n 0, 1) := by decide +kernel
theorem dX5_count_93 : decode cX5_count 93 = .ok (.getfield 56, 3) := by decide +kernel
theorem dX5_count_96 : decode cX5_count 96 = .ok (.getfield 87, 3) := by decide +kernel
theorem dX5_count_99 : decode cX5_count 99 = .ok (.ireturn, 1) := by decide +kernel
theorem dX5_count_100 : decode cX5_count 100 = .ok (.aload_n 0, 1) := by decide +kernel
theorem dX5_count_101 : decode cX5_count 101 = .ok (.getfield 49, 3) := by decide +kernel
theorem dX5_count_104 : decode cX5_count 104 = .ok (.ireturn, 1) := by decide +kernel
theorem dX5_count_105 : decode cX5_count 105 = .ok (.aload_n 0, 1) := by decide +kernel
theorem dX5_count_106 : decode cX5_count 106 = .ok (.getfield 10, 3) := by decide +kernel
theorem dX5_count_109 : decode cX5_count 109 = .ok (.getfield 71, 3) := by decide +kernel
theorem dX5_count_112 : decode cX5_count 112 = .ok (.ireturn, 1) := by decide +kernel
theorem dX5_count_113 : decode cX5_count 113 = .ok (.aload_n 0, 1) := by decide +kernel
theorem dX5_count_114 : decode cX5_count 114 = .ok (.getfield 19, 3) := by decide +kernel
theorem dX5_count_117 : decode cX5_count 117 = .ok (.getfield 220, 3) := by decide +kernel
theorem dX5_count_120 : decode cX5_count 120 = .ok (.ireturn, 1) := by decide +kernel
theorem dX5_count_121 : decode cX5_count 121 = .ok (.iconst (-1), 1) := by decide +kernel
theorem dX5_count_122 : decode cX5_count 122 = .ok (.ireturn, 1) := by decide +kernel
def rmX5_count : Room := { frames := 0, cells := 0, slots := 0, locals := 0 }
def fX5_count (x1 : Int32) (M : xm) : Option (Int32) := (if x1 = 0 then (some (M.1 (rd (M.2 0)) 0)) else if x1 = 1 then (some (M.1 (rd (M.2 0)) 6)) else if x1 = 2 then (some (M.1 (rd (M.2 0)) 12)) else if x1 = 3 then (some (M.1 22 5)) else if x1 = 4 then (some (M.1 (rd (M.2 0)) 5)) else if x1 = 5 then (some (M.1 43 3)) else if x1 = 6 then (some (M.1 0 6)) else if x1 = 7 then (some (M.1 1 2)) else if x1 = 8 then (some (M.1 (rd (M.2 0)) 11)) else (some (-1)))
section
variable {p : Program} {l : Launch} {e : Env} {s : State} {m : MethodId} {args : Array Value} {below : List Frame} {meth : Method} {c : Code} {D : va_G} {cs : Nat → ClassId} {S : List Nat} {ad : Nat → Nat}
end
theorem kX5_count (l : Launch) (D : va_G) (cs : Nat → ClassId) (S : List Nat) (ad : Nat → Nat) (hd : xdist S ad) (hS : xall S) (x1 : Int32) (M : xm) : ∀ r, fX5_count x1 M = some r → Met l yX5_count [Cond.code yX5_count cX5_count 2 (some .int)] rmX5_count (XPc D cs S ad [.ref (ad 0), .int x1] M) (XQi D cs S ad r M) 0 0 (xA S ad) := by
  refine xm_r (own := RX5) (lv := [(0, .ref (ad 0)), (1, .int x1)]) (by decide +kernel) rfl rfl (Nat.le_of_ble_eq_true rfl) hd (fun p e s m args below meth c Z => ?_)
  unfold fX5_count
  refine xj_iload_n Z 1 dX5_count_0 rfl rfl ?_
  refine xj_ite (fun h => ?_) (fun h0 => ?_)
  · refine xj_tblIn Z 52 dX5_count_1 (by rw [h]; decide) (by rw [h]; decide) (by rw [h]; rfl) (by decide) ?_
    refine xj_aload_n Z 0 dX5_count_52 rfl rfl ?_
    refine xg_X5_19 Z (hS 0 (by decide)) dX5_count_53 ?_
    refine xg_X5_78 Z ((xall_r hS (M.2 0)).mem 0 (by decide)) (xall_r hS (M.2 0)).lay dX5_count_56 ?_
    exact xj_ret_r Z dX5_count_59
  refine xj_ite (fun h => ?_) (fun h1 => ?_)
  · refine xj_tblIn Z 60 dX5_count_1 (by rw [h]; decide) (by rw [h]; decide) (by rw [h]; rfl) (by decide) ?_
    refine xj_aload_n Z 0 dX5_count_60 rfl rfl ?_
    refine xg_X5_19 Z (hS 0 (by decide)) dX5_count_61 ?_
    refine xg_X5_81 Z ((xall_r hS (M.2 0)).mem 0 (by decide)) (xall_r hS (M.2 0)).lay dX5_count_64 ?_
    exact xj_ret_r Z dX5_count_67
  refine xj_ite (fun h => ?_) (fun h2 => ?_)
  · refine xj_tblIn Z 68 dX5_count_1 (by rw [h]; decide) (by rw [h]; decide) (by rw [h]; rfl) (by decide) ?_
    refine xj_aload_n Z 0 dX5_count_68 rfl rfl ?_
    refine xg_X5_19 Z (hS 0 (by decide)) dX5_count_69 ?_
    refine xg_X5_214 Z ((xall_r hS (M.2 0)).mem 0 (by decide)) (xall_r hS (M.2 0)).lay dX5_count_72 ?_
    exact xj_ret_r Z dX5_count_75
  refine xj_ite (fun h => ?_) (fun h3 => ?_)
  · refine xj_tblIn Z 76 dX5_count_1 (by rw [h]; decide) (by rw [h]; decide) (by rw [h]; rfl) (by decide) ?_
    refine xj_aload_n Z 0 dX5_count_76 rfl rfl ?_
    refine xg_X5_38 Z (hS 0 (by decide)) dX5_count_77 ?_
    refine xg_X5_126 Z ((xall_w22 hS).mem 0 (by decide)) (xall_w22 hS).lay dX5_count_80 ?_
    exact xj_ret_r Z dX5_count_83
  refine xj_ite (fun h => ?_) (fun h4 => ?_)
  · refine xj_tblIn Z 84 dX5_count_1 (by rw [h]; decide) (by rw [h]; decide) (by rw [h]; rfl) (by decide) ?_
    refine xj_aload_n Z 0 dX5_count_84 rfl rfl ?_
    refine xg_X5_19 Z (hS 0 (by decide)) dX5_count_85 ?_
    refine xg_X5_217 Z ((xall_r hS (M.2 0)).mem 0 (by decide)) (xall_r hS (M.2 0)).lay dX5_count_88 ?_
    exact xj_ret_r Z dX5_count_91
  refine xj_ite (fun h => ?_) (fun h5 => ?_)
  · refine xj_tblIn Z 92 dX5_count_1 (by rw [h]; decide) (by rw [h]; decide) (by rw [h]; rfl) (by decide) ?_
    refine xj_aload_n Z 0 dX5_count_92 rfl rfl ?_
    refine xg_X5_56 Z (hS 0 (by decide)) dX5_count_93 ?_
    refine xg_X5_87 Z (hS 43 (by decide)) dX5_count_96 ?_
    exact xj_ret_r Z dX5_count_99
  refine xj_ite (fun h => ?_) (fun h6 => ?_)
  · refine xj_tblIn Z 100 dX5_count_1 (by rw [h]; decide) (by rw [h]; decide) (by rw [h]; rfl) (by decide) ?_
    refine xj_aload_n Z 0 dX5_count_100 rfl rfl ?_
    refine xg_X5_49 Z (hS 0 (by decide)) dX5_count_101 ?_
    exact xj_ret_r Z dX5_count_104
  refine xj_ite (fun h => ?_) (fun h7 => ?_)
  · refine xj_tblIn Z 105 dX5_count_1 (by rw [h]; decide) (by rw [h]; decide) (by rw [h]; rfl) (by decide) ?_
    refine xj_aload_n Z 0 dX5_count_105 rfl rfl ?_
    refine xg_X5_10 Z (hS 0 (by decide)) dX5_count_106 ?_
    refine xg_X5_71 Z (hS 1 (by decide)) dX5_count_109 ?_
    exact xj_ret_r Z dX5_count_112
  refine xj_ite (fun h => ?_) (fun h8 => ?_)
  · refine xj_tblIn Z 113 dX5_count_1 (by rw [h]; decide) (by rw [h]; decide) (by rw [h]; rfl) (by decide) ?_
    refine xj_aload_n Z 0 dX5_count_113 rfl rfl ?_
    refine xg_X5_19 Z (hS 0 (by decide)) dX5_count_114 ?_
    refine xg_X5_220 Z ((xall_r hS (M.2 0)).mem 0 (by decide)) (xall_r hS (M.2 0)).lay dX5_count_117 ?_
    exact xj_ret_r Z dX5_count_120
  refine xj_tblOut Z 121 dX5_count_1 (by have := xti (n := 0) _ (by decide) h0; have := xti (n := 1) _ (by decide) h1; have := xti (n := 2) _ (by decide) h2; have := xti (n := 3) _ (by decide) h3; have := xti (n := 4) _ (by decide) h4; have := xti (n := 5) _ (by decide) h5; have := xti (n := 6) _ (by decide) h6; have := xti (n := 7) _ (by decide) h7; have := xti (n := 8) _ (by decide) h8; omega) (by decide) ?_
  refine xj_iconst Z (-1) dX5_count_121 (by decide) ?_
  exact xj_ret_r Z dX5_count_122
