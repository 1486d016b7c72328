/-! WalkingLaw$Walk.parishOf(I)I -/
theorem dX4_parishOf_0 : decode cX4_parishOf 0 = .ok (.aload_n 0, 1) := by decide +kernel
theorem dX4_parishOf_1 : decode cX4_parishOf 1 = .ok (.getfield 28, 3) := by decide +kernel
theorem dX4_parishOf_4 : decode cX4_parishOf 4 = .ok (.aload_n 0, 1) := by decide +kernel
theorem dX4_parishOf_5 : decode cX4_parishOf 5 = .ok (.getfield 9, 3) := by decide +kernel
theorem dX4_parishOf_8 : decode cX4_parishOf 8 = .ok (.iload_n 1, 1) := by decide +kernel
theorem dX4_parishOf_9 : decode cX4_parishOf 9 = .ok (.iaload, 1) := by decide +kernel
theorem dX4_parishOf_10 : decode cX4_parishOf 10 = .ok (.invokevirtual 48, 3) := by decide +kernel
theorem dX4_parishOf_13 : decode cX4_parishOf 13 = .ok (.ireturn, 1) := by decide +kernel
def rmX4_parishOf : Room := { frames := 1, cells := 0, slots := 0, locals := 22 }
def fX4_parishOf (w : Nat) (x1 : Int32) (M : xm) : Option (Int32) := xchk x1 8 ((fX1_parishAt (rd (M.2 w)) (M.1 (w + 1) x1.toNatClampNeg) M).bind (fun v1 => (some v1)))
section
variable {p : Program} {l : Launch} {e : Env} {s : State} {m : MethodId} {args : Array Value} {below : List Frame} {meth : Method} {c : Code} {D : va_G} {cs : Nat → ClassId} {S : List Nat} {ad : Nat → Nat} {w : Nat}
end
theorem kX4_parishOf (l : Launch) (D : va_G) (cs : Nat → ClassId) (S : List Nat) (ad : Nat → Nat) (hd : xdist S ad) {w : Nat} (hw : xWalk S w) (x1 : Int32) (M : xm) : ∀ r, fX4_parishOf w x1 M = some r → Met l yX4_parishOf [Cond.code yX4_parishOf cX4_parishOf 2 (some .int)] rmX4_parishOf (XPc D cs S ad [.ref (ad w), .int x1] M) (XQi D cs S ad r M) 0 0 (xA S ad) := by
  refine xm_r (own := RX4) (lv := [(0, .ref (ad w)), (1, .int x1)]) (by decide +kernel) rfl rfl (Nat.le_of_ble_eq_true rfl) hd (fun p e s m args below meth c Z => ?_)
  unfold fX4_parishOf
  refine xj_aload_n Z 0 dX4_parishOf_0 rfl rfl ?_
  refine xg_X4_28 Z (hw.mem 0 (by decide)) hw.lay dX4_parishOf_1 ?_
  refine xj_aload_n Z 0 dX4_parishOf_4 rfl rfl ?_
  refine xg_X4_9 Z (hw.mem 0 (by decide)) hw.lay dX4_parishOf_5 ?_
  refine xj_iload_n Z 1 dX4_parishOf_8 rfl rfl ?_
  refine xj_iald Z (hw.mem 1 (by decide)) hw.lay1 dX4_parishOf_9 (fun _ => ?_)
  refine xj_callVr Z (As := [.int (M.1 (w + 1) x1.toNatClampNeg)]) (kX1_parishAt l D cs S ad Z.2.2.2.2.2.1.dist (hw.road (M.2 w)) (M.1 (w + 1) x1.toNatClampNeg) M) gw_X4_48 ((hw.road (M.2 w)).mem 0 (by decide)) (hw.road (M.2 w)).lay rfl (n := 1) (by decide +kernel) rfl ⟨rfl, rfl⟩ (by decide) rfl (Nat.le_of_ble_eq_true rfl) dX4_parishOf_10 (fun v1 => ?_)
  exact xj_ret_r Z dX4_parishOf_13
/-! WalkingLaw$Walk.thoseIn(I)I -/
theorem dX4_thoseIn_0 : decode cX4_thoseIn 0 = .ok (.aload_n 0, 1) := by decide +kernel
theorem dX4_thoseIn_1 : decode cX4_thoseIn 1 = .ok (.getfield 28, 3) := by decide +kernel
theorem dX4_thoseIn_4 : decode cX4_thoseIn 4 = .ok (.getfield 52, 3) := by decide +kernel
theorem dX4_thoseIn_7 : decode cX4_thoseIn 7 = .ok (.iload_n 1, 1) := by decide +kernel
theorem dX4_thoseIn_8 : decode cX4_thoseIn 8 = .ok (.iaload, 1) := by decide +kernel
theorem dX4_thoseIn_9 : decode cX4_thoseIn 9 = .ok (.istore_n 2, 1) := by decide +kernel
theorem dX4_thoseIn_10 : decode cX4_thoseIn 10 = .ok (.iload_n 1, 1) := by decide +kernel
theorem dX4_thoseIn_11 : decode cX4_thoseIn 11 = .ok (.iconst 1, 1) := by decide +kernel
theorem dX4_thoseIn_12 : decode cX4_thoseIn 12 = .ok (.iadd, 1) := by decide +kernel
theorem dX4_thoseIn_13 : decode cX4_thoseIn 13 = .ok (.aload_n 0, 1) := by decide +kernel
theorem dX4_thoseIn_14 : decode cX4_thoseIn 14 = .ok (.getfield 28, 3) := by decide +kernel
theorem dX4_thoseIn_17 : decode cX4_thoseIn 17 = .ok (.getfield 55, 3) := by decide +kernel
theorem dX4_thoseIn_20 : decode cX4_thoseIn 20 = .ok (.if_icmp .ge 19, 3) := by decide +kernel
theorem dX4_thoseIn_23 : decode cX4_thoseIn 23 = .ok (.aload_n 0, 1) := by decide +kernel
theorem dX4_thoseIn_24 : decode cX4_thoseIn 24 = .ok (.getfield 28, 3) := by decide +kernel
theorem dX4_thoseIn_27 : decode cX4_thoseIn 27 = .ok (.getfield 52, 3) := by decide +kernel
theorem dX4_thoseIn_30 : decode cX4_thoseIn 30 = .ok (.iload_n 1, 1) := by decide +kernel
theorem dX4_thoseIn_31 : decode cX4_thoseIn 31 = .ok (.iconst 1, 1) := by decide +kernel
theorem dX4_thoseIn_32 : decode cX4_thoseIn 32 = .ok (.iadd, 1) := by decide +kernel
theorem dX4_thoseIn_33 : decode cX4_thoseIn 33 = .ok (.iaload, 1) := by decide +kernel
theorem dX4_thoseIn_34 : decode cX4_thoseIn 34 = .ok (.iconst 1, 1) := by decide +kernel
theorem dX4_thoseIn_35 : decode cX4_thoseIn 35 = .ok (.isub, 1) := by decide +kernel
theorem dX4_thoseIn_36 : decode cX4_thoseIn 36 = .ok (.goto 10, 3) := by decide +kernel
theorem dX4_thoseIn_39 : decode cX4_thoseIn 39 = .ok (.aload_n 0, 1) := by decide +kernel
theorem dX4_thoseIn_40 : decode cX4_thoseIn 40 = .ok (.getfield 28, 3) := by decide +kernel
theorem dX4_thoseIn_43 : decode cX4_thoseIn 43 = .ok (.getfield 58, 3) := by decide +kernel
theorem dX4_thoseIn_46 : decode cX4_thoseIn 46 = .ok (.istore_n 3, 1) := by decide +kernel
theorem dX4_thoseIn_47 : decode cX4_thoseIn 47 = .ok (.iconst 0, 1) := by decide +kernel
theorem dX4_thoseIn_48 : decode cX4_thoseIn 48 = .ok (.istore 4, 2) := by decide +kernel
theorem dX4_thoseIn_50 : decode cX4_thoseIn 50 = .ok (.iconst 0, 1) := by decide +kernel
theorem dX4_thoseIn_51 : decode cX4_thoseIn 51 = .ok (.istore 5, 2) := by decide +kernel
theorem dX4_thoseIn_53 : decode cX4_thoseIn 53 = .ok (.iload 5, 2) := by decide +kernel
theorem dX4_thoseIn_55 : decode cX4_thoseIn 55 = .ok (.aload_n 0, 1) := by decide +kernel
theorem dX4_thoseIn_56 : decode cX4_thoseIn 56 = .ok (.getfield 28, 3) := by decide +kernel
theorem dX4_thoseIn_59 : decode cX4_thoseIn 59 = .ok (.getfield 36, 3) := by decide +kernel
theorem dX4_thoseIn_62 : decode cX4_thoseIn 62 = .ok (.if_icmp .ge 40, 3) := by decide +kernel
theorem dX4_thoseIn_65 : decode cX4_thoseIn 65 = .ok (.aload_n 0, 1) := by decide +kernel
theorem dX4_thoseIn_66 : decode cX4_thoseIn 66 = .ok (.getfield 9, 3) := by decide +kernel
theorem dX4_thoseIn_69 : decode cX4_thoseIn 69 = .ok (.iload 5, 2) := by decide +kernel
theorem dX4_thoseIn_71 : decode cX4_thoseIn 71 = .ok (.iaload, 1) := by decide +kernel
theorem dX4_thoseIn_72 : decode cX4_thoseIn 72 = .ok (.iload_n 2, 1) := by decide +kernel
theorem dX4_thoseIn_73 : decode cX4_thoseIn 73 = .ok (.if_icmp .lt 23, 3) := by decide +kernel
theorem dX4_thoseIn_76 : decode cX4_thoseIn 76 = .ok (.aload_n 0, 1) := by decide +kernel
theorem dX4_thoseIn_77 : decode cX4_thoseIn 77 = .ok (.getfield 9, 3) := by decide +kernel
theorem dX4_thoseIn_80 : decode cX4_thoseIn 80 = .ok (.iload 5, 2) := by decide +kernel
theorem dX4_thoseIn_82 : decode cX4_thoseIn 82 = .ok (.iaload, 1) := by decide +kernel
theorem dX4_thoseIn_83 : decode cX4_thoseIn 83 = .ok (.iload_n 3, 1) := by decide +kernel
theorem dX4_thoseIn_84 : decode cX4_thoseIn 84 = .ok (.if_icmp .gt 12, 3) := by decide +kernel
theorem dX4_thoseIn_87 : decode cX4_thoseIn 87 = .ok (.iload 4, 2) := by decide +kernel
theorem dX4_thoseIn_89 : decode cX4_thoseIn 89 = .ok (.iconst 1, 1) := by decide +kernel
theorem dX4_thoseIn_90 : decode cX4_thoseIn 90 = .ok (.iload 5, 2) := by decide +kernel
theorem dX4_thoseIn_92 : decode cX4_thoseIn 92 = .ok (.ishl, 1) := by decide +kernel
theorem dX4_thoseIn_93 : decode cX4_thoseIn 93 = .ok (.ior, 1) := by decide +kernel
theorem dX4_thoseIn_94 : decode cX4_thoseIn 94 = .ok (.istore 4, 2) := by decide +kernel
theorem dX4_thoseIn_96 : decode cX4_thoseIn 96 = .ok (.iinc 5 1, 3) := by decide +kernel
theorem dX4_thoseIn_99 : decode cX4_thoseIn 99 = .ok (.goto (-46), 3) := by decide +kernel
theorem dX4_thoseIn_102 : decode cX4_thoseIn 102 = .ok (.iload 4, 2) := by decide +kernel
theorem dX4_thoseIn_104 : decode cX4_thoseIn 104 = .ok (.ireturn, 1) := by decide +kernel
def rmX4_thoseIn : Room := { frames := 0, cells := 0, slots := 0, locals := 0 }
def fX4_thoseIn_96 (w : Nat) (k53 : Int32 → Int32 → Option (Int32)) (x2 : Int32) (x3 : Int32) (x4 : Int32) (x5 : Int32) (M : xm) : Option (Int32) := (k53 x4 (x5 + 1))
def fX4_thoseIn_53 (w : Nat) (x2 : Int32) (x3 : Int32) (M : xm) : Nat → Int32 → Int32 → Option (Int32)
  | 0, _, _ => none
  | n + 1, x4, x5 => (if (M.1 (rd (M.2 w)) 6) ≤ x5 then (some x4) else xchk x5 8 ((if (M.1 (w + 1) x5.toNatClampNeg) < x2 then (fX4_thoseIn_96 w (fun z0 z1 => fX4_thoseIn_53 w x2 x3 M n z0 z1) x2 x3 x4 x5 M) else xchk x5 8 ((if x3 < (M.1 (w + 1) x5.toNatClampNeg) then (fX4_thoseIn_96 w (fun z0 z1 => fX4_thoseIn_53 w x2 x3 M n z0 z1) x2 x3 x4 x5 M) else xl (x4 ||| (1 <<< (x5 &&& 31))) (fun v1 => (fX4_thoseIn_96 w (fun z0 z1 => fX4_thoseIn_53 w x2 x3 M n z0 z1) x2 x3 v1 x5 M)))))))
def fX4_thoseIn_46 (w : Nat) (x2 : Int32) (t0 : Int32) (M : xm) : Option (Int32) := (fX4_thoseIn_53 w x2 t0 M xfuel 0 0)
def fX4_thoseIn (w : Nat) (x1 : Int32) (M : xm) : Option (Int32) := xchk x1 6 (xl (M.1 ((rd (M.2 w)) + 4) x1.toNatClampNeg) (fun v2 => (if (M.1 (rd (M.2 w)) 0) ≤ (x1 + 1) then (fX4_thoseIn_46 w v2 (M.1 (rd (M.2 w)) 5) M) else xchk (x1 + 1) 6 ((fX4_thoseIn_46 w v2 ((M.1 ((rd (M.2 w)) + 4) ((x1 + 1)).toNatClampNeg) - 1) M)))))
section
variable {p : Program} {l : Launch} {e : Env} {s : State} {m : MethodId} {args : Array Value} {below : List Frame} {meth : Method} {c : Code} {D : va_G} {cs : Nat → ClassId} {S : List Nat} {ad : Nat → Nat} {w : Nat}
theorem bX4_thoseIn_96 (Z : CX p s m args meth c cX4_thoseIn 6 RX4 (some .int) D cs (xA S ad) S ad) (hw : xWalk S w) {k53 : Int32 → Int32 → Option (Int32)} (x2 : Int32) (x3 : Int32) (x4 : Int32) (x5 : Int32) (M : xm) (hk53 : ∀ (x4 : Int32) (x5 : Int32), XJ p l e rmX4_thoseIn s m args below meth c D cs (xA S ad) S ad 6 (XRr below args s D cs S ad M) 53 [(0, .ref (ad w)), (2, .int x2), (3, .int x3), (4, .int x4), (5, .int x5)] [] M (k53 x4 x5)) : XJ p l e rmX4_thoseIn s m args below meth c D cs (xA S ad) S ad 6 (XRr below args s D cs S ad M) 96 [(0, .ref (ad w)), (2, .int x2), (3, .int x3), (4, .int x4), (5, .int x5)] [] M (fX4_thoseIn_96 w k53 x2 x3 x4 x5 M) := by
  unfold fX4_thoseIn_96
  refine xj_iinc Z 4 (x5 + 1) (lv' := [(5, .int (x5 + 1)), (0, .ref (ad w)), (2, .int x2), (3, .int x3), (4, .int x4)]) dX4_thoseIn_96 rfl rfl (by decide) rfl ?_
  refine xj_goto Z 53 dX4_thoseIn_99 (by decide) ?_
  refine xj_sub [1, 2, 3, 4, 0] (lv' := [(0, .ref (ad w)), (2, .int x2), (3, .int x3), (4, .int x4), (5, .int (x5 + 1))]) rfl ?_
  exact hk53 x4 (x5 + 1)
theorem bX4_thoseIn_53 (Z : CX p s m args meth c cX4_thoseIn 6 RX4 (some .int) D cs (xA S ad) S ad) (hw : xWalk S w) (x2 : Int32) (x3 : Int32) (M : xm) : ∀ (n : Nat) (x4 : Int32) (x5 : Int32), XJ p l e rmX4_thoseIn s m args below meth c D cs (xA S ad) S ad 6 (XRr below args s D cs S ad M) 53 [(0, .ref (ad w)), (2, .int x2), (3, .int x3), (4, .int x4), (5, .int x5)] [] M (fX4_thoseIn_53 w x2 x3 M n x4 x5) := by
  intro n
  induction n with
  | zero => intros; exact xj_none
  | succ n ih =>
    intro x4 x5
    rw [fX4_thoseIn_53]
    refine xj_iload Z 4 dX4_thoseIn_53 rfl ?_
    refine xj_aload_n Z 0 dX4_thoseIn_55 rfl rfl ?_
    refine xg_X4_28 Z (hw.mem 0 (by decide)) hw.lay dX4_thoseIn_56 ?_
    refine xg_X4_36 Z ((hw.road (M.2 w)).mem 0 (by decide)) (hw.road (M.2 w)).lay dX4_thoseIn_59 ?_
    refine xj_icmp_ge Z 102 dX4_thoseIn_62 (by decide) (fun _ => ?_) (fun _ => ?_)
    · refine xj_iload Z 3 dX4_thoseIn_102 rfl ?_
      exact xj_ret_r Z dX4_thoseIn_104
    · refine xj_aload_n Z 0 dX4_thoseIn_65 rfl rfl ?_
      refine xg_X4_9 Z (hw.mem 0 (by decide)) hw.lay dX4_thoseIn_66 ?_
      refine xj_iload Z 4 dX4_thoseIn_69 rfl ?_
      refine xj_iald Z (hw.mem 1 (by decide)) hw.lay1 dX4_thoseIn_71 (fun _ => ?_)
      refine xj_iload_n Z 1 dX4_thoseIn_72 rfl rfl ?_
      refine xj_icmp_lt Z 96 dX4_thoseIn_73 (by decide) (fun _ => ?_) (fun _ => ?_)
      · exact bX4_thoseIn_96 Z hw x2 x3 x4 x5 M ih
      · refine xj_aload_n Z 0 dX4_thoseIn_76 rfl rfl ?_
        refine xg_X4_9 Z (hw.mem 0 (by decide)) hw.lay dX4_thoseIn_77 ?_
        refine xj_iload Z 4 dX4_thoseIn_80 rfl ?_
        refine xj_iald Z (hw.mem 1 (by decide)) hw.lay1 dX4_thoseIn_82 (fun _ => ?_)
        refine xj_iload_n Z 2 dX4_thoseIn_83 rfl rfl ?_
        refine xj_icmp_gt Z 96 dX4_thoseIn_84 (by decide) (fun _ => ?_) (fun _ => ?_)
        · exact bX4_thoseIn_96 Z hw x2 x3 x4 x5 M ih
        · refine xj_iload Z 3 dX4_thoseIn_87 rfl ?_
          refine xj_iconst Z 1 dX4_thoseIn_89 (by decide) ?_
          refine xj_iload Z 4 dX4_thoseIn_90 rfl ?_
          refine xj_ishl Z dX4_thoseIn_92 ?_
          refine xj_ior Z dX4_thoseIn_93 ?_
          refine xj_top (fun v1 => ?_)
          refine xj_istore Z (lv' := [(4, .int v1), (0, .ref (ad w)), (2, .int x2), (3, .int x3), (5, .int x5)]) dX4_thoseIn_94 (by decide) rfl ?_
          refine xj_sub [1, 2, 3, 0, 4] (lv' := [(0, .ref (ad w)), (2, .int x2), (3, .int x3), (4, .int v1), (5, .int x5)]) rfl ?_
          exact bX4_thoseIn_96 Z hw x2 x3 v1 x5 M ih
theorem bX4_thoseIn_46 (Z : CX p s m args meth c cX4_thoseIn 6 RX4 (some .int) D cs (xA S ad) S ad) (hw : xWalk S w) (x2 : Int32) (t0 : Int32) (M : xm) : XJ p l e rmX4_thoseIn s m args below meth c D cs (xA S ad) S ad 6 (XRr below args s D cs S ad M) 46 [(0, .ref (ad w)), (2, .int x2)] [.int t0] M (fX4_thoseIn_46 w x2 t0 M) := by
  unfold fX4_thoseIn_46
  refine xj_istore_n Z (lv' := [(3, .int t0), (0, .ref (ad w)), (2, .int x2)]) dX4_thoseIn_46 rfl (by decide) rfl ?_
  refine xj_iconst Z 0 dX4_thoseIn_47 (by decide) ?_
  refine xj_istore Z (lv' := [(4, .int 0), (3, .int t0), (0, .ref (ad w)), (2, .int x2)]) dX4_thoseIn_48 (by decide) rfl ?_
  refine xj_iconst Z 0 dX4_thoseIn_50 (by decide) ?_
  refine xj_istore Z (lv' := [(5, .int 0), (4, .int 0), (3, .int t0), (0, .ref (ad w)), (2, .int x2)]) dX4_thoseIn_51 (by decide) rfl ?_
  refine xj_sub [3, 4, 2, 1, 0] (lv' := [(0, .ref (ad w)), (2, .int x2), (3, .int t0), (4, .int 0), (5, .int 0)]) rfl ?_
  exact bX4_thoseIn_53 Z hw x2 t0 M xfuel 0 0
end
theorem kX4_thoseIn (l : Launch) (D : va_G) (cs : Nat → ClassId) (S : List Nat) (ad : Nat → Nat) (hd : xdist S ad) {w : Nat} (hw : xWalk S w) (x1 : Int32) (M : xm) : ∀ r, fX4_thoseIn w x1 M = some r → Met l yX4_thoseIn [Cond.code yX4_thoseIn cX4_thoseIn 6 (some .int)] rmX4_thoseIn (XPc D cs S ad [.ref (ad w), .int x1] M) (XQi D cs S ad r M) 0 0 (xA S ad) := by
  refine xm_r (own := RX4) (lv := [(0, .ref (ad w)), (1, .int x1)]) (by decide +kernel) rfl rfl (Nat.le_of_ble_eq_true rfl) hd (fun p e s m args below meth c Z => ?_)
  unfold fX4_thoseIn
  refine xj_aload_n Z 0 dX4_thoseIn_0 rfl rfl ?_
  refine xg_X4_28 Z (hw.mem 0 (by decide)) hw.lay dX4_thoseIn_1 ?_
  refine xg_X4_52 Z ((hw.road (M.2 w)).mem 0 (by decide)) (hw.road (M.2 w)).lay dX4_thoseIn_4 ?_
  refine xj_iload_n Z 1 dX4_thoseIn_7 rfl rfl ?_
  refine xj_iald Z ((hw.road (M.2 w)).mem 4 (by decide)) (hw.road (M.2 w)).lay4 dX4_thoseIn_8 (fun _ => ?_)
  refine xj_top (fun v2 => ?_)
  refine xj_istore_n Z (lv' := [(2, .int v2), (0, .ref (ad w)), (1, .int x1)]) dX4_thoseIn_9 rfl (by decide) rfl ?_
  refine xj_iload_n Z 2 dX4_thoseIn_10 rfl rfl ?_
  refine xj_iconst Z 1 dX4_thoseIn_11 (by decide) ?_
  refine xj_iadd Z dX4_thoseIn_12 ?_
  refine xj_aload_n Z 1 dX4_thoseIn_13 rfl rfl ?_
  refine xg_X4_28 Z (hw.mem 0 (by decide)) hw.lay dX4_thoseIn_14 ?_
  refine xg_X4_55 Z ((hw.road (M.2 w)).mem 0 (by decide)) (hw.road (M.2 w)).lay dX4_thoseIn_17 ?_
  refine xj_icmp_ge Z 39 dX4_thoseIn_20 (by decide) (fun _ => ?_) (fun _ => ?_)
  · refine xj_aload_n Z 1 dX4_thoseIn_39 rfl rfl ?_
    refine xg_X4_28 Z (hw.mem 0 (by decide)) hw.lay dX4_thoseIn_40 ?_
    refine xg_X4_58 Z ((hw.road (M.2 w)).mem 0 (by decide)) (hw.road (M.2 w)).lay dX4_thoseIn_43 ?_
    refine xj_sub [1, 0] (lv' := [(0, .ref (ad w)), (2, .int v2)]) rfl ?_
    exact bX4_thoseIn_46 Z hw v2 (M.1 (rd (M.2 w)) 5) M
  · refine xj_aload_n Z 1 dX4_thoseIn_23 rfl rfl ?_
    refine xg_X4_28 Z (hw.mem 0 (by decide)) hw.lay dX4_thoseIn_24 ?_
    refine xg_X4_52 Z ((hw.road (M.2 w)).mem 0 (by decide)) (hw.road (M.2 w)).lay dX4_thoseIn_27 ?_
    refine xj_iload_n Z 2 dX4_thoseIn_30 rfl rfl ?_
    refine xj_iconst Z 1 dX4_thoseIn_31 (by decide) ?_
    refine xj_iadd Z dX4_thoseIn_32 ?_
    refine xj_iald Z ((hw.road (M.2 w)).mem 4 (by decide)) (hw.road (M.2 w)).lay4 dX4_thoseIn_33 (fun _ => ?_)
    refine xj_iconst Z 1 dX4_thoseIn_34 (by decide) ?_
    refine xj_isub Z dX4_thoseIn_35 ?_
    refine xj_goto Z 46 dX4_thoseIn_36 (by decide) ?_
    refine xj_sub [1, 0] (lv' := [(0, .ref (ad w)), (2, .int v2)]) rfl ?_
    exact bX4_thoseIn_46 Z hw v2 ((M.1 ((rd (M.2 w)) + 4) ((x1 + 1)).toNatClampNeg) - 1) M
/-! WalkingLaw$Walk.clearInns()V -/
theorem dX4_clearInns_0 : decode cX4_clearInns 0 = .ok (.aload_n 0, 1) := by decide +kernel
theorem dX4_clearInns_1 : decode cX4_clearInns 1 = .ok (.getfield 28, 3) := by decide +kernel
theorem dX4_clearInns_4 : decode cX4_clearInns 4 = .ok (.getfield 55, 3) := by decide +kernel
theorem dX4_clearInns_7 : decode cX4_clearInns 7 = .ok (.iconst 1, 1) := by decide +kernel
theorem dX4_clearInns_8 : decode cX4_clearInns 8 = .ok (.isub, 1) := by decide +kernel
theorem dX4_clearInns_9 : decode cX4_clearInns 9 = .ok (.istore_n 1, 1) := by decide +kernel
theorem dX4_clearInns_10 : decode cX4_clearInns 10 = .ok (.iload_n 1, 1) := by decide +kernel
theorem dX4_clearInns_11 : decode cX4_clearInns 11 = .ok (.ifCond .le 87, 3) := by decide +kernel
theorem dX4_clearInns_14 : decode cX4_clearInns 14 = .ok (.aload_n 0, 1) := by decide +kernel
theorem dX4_clearInns_15 : decode cX4_clearInns 15 = .ok (.iload_n 1, 1) := by decide +kernel
theorem dX4_clearInns_16 : decode cX4_clearInns 16 = .ok (.invokevirtual 80, 3) := by decide +kernel
theorem dX4_clearInns_19 : decode cX4_clearInns 19 = .ok (.istore_n 2, 1) := by decide +kernel
theorem dX4_clearInns_20 : decode cX4_clearInns 20 = .ok (.iload_n 2, 1) := by decide +kernel
theorem dX4_clearInns_21 : decode cX4_clearInns 21 = .ok (.invokestatic 83, 3) := by decide +kernel
theorem dX4_clearInns_24 : decode cX4_clearInns 24 = .ok (.aload_n 0, 1) := by decide +kernel
theorem dX4_clearInns_25 : decode cX4_clearInns 25 = .ok (.getfield 28, 3) := by decide +kernel
theorem dX4_clearInns_28 : decode cX4_clearInns 28 = .ok (.getfield 88, 3) := by decide +kernel
theorem dX4_clearInns_31 : decode cX4_clearInns 31 = .ok (.iload_n 1, 1) := by decide +kernel
theorem dX4_clearInns_32 : decode cX4_clearInns 32 = .ok (.iaload, 1) := by decide +kernel
theorem dX4_clearInns_33 : decode cX4_clearInns 33 = .ok (.isub, 1) := by decide +kernel
theorem dX4_clearInns_34 : decode cX4_clearInns 34 = .ok (.istore_n 3, 1) := by decide +kernel
theorem dX4_clearInns_35 : decode cX4_clearInns 35 = .ok (.aload_n 0, 1) := by decide +kernel
theorem dX4_clearInns_36 : decode cX4_clearInns 36 = .ok (.getfield 28, 3) := by decide +kernel
theorem dX4_clearInns_39 : decode cX4_clearInns 39 = .ok (.getfield 36, 3) := by decide +kernel
theorem dX4_clearInns_42 : decode cX4_clearInns 42 = .ok (.iconst 1, 1) := by decide +kernel
theorem dX4_clearInns_43 : decode cX4_clearInns 43 = .ok (.isub, 1) := by decide +kernel
theorem dX4_clearInns_44 : decode cX4_clearInns 44 = .ok (.istore 4, 2) := by decide +kernel
theorem dX4_clearInns_46 : decode cX4_clearInns 46 = .ok (.iload 4, 2) := by decide +kernel
theorem dX4_clearInns_48 : decode cX4_clearInns 48 = .ok (.ifCond .lt 44, 3) := by decide +kernel
theorem dX4_clearInns_51 : decode cX4_clearInns 51 = .ok (.iload_n 3, 1) := by decide +kernel
theorem dX4_clearInns_52 : decode cX4_clearInns 52 = .ok (.ifCond .le 40, 3) := by decide +kernel
theorem dX4_clearInns_55 : decode cX4_clearInns 55 = .ok (.iload_n 2, 1) := by decide +kernel
theorem dX4_clearInns_56 : decode cX4_clearInns 56 = .ok (.iload 4, 2) := by decide +kernel
theorem dX4_clearInns_58 : decode cX4_clearInns 58 = .ok (.ishr, 1) := by decide +kernel
theorem dX4_clearInns_59 : decode cX4_clearInns 59 = .ok (.iconst 1, 1) := by decide +kernel
theorem dX4_clearInns_60 : decode cX4_clearInns 60 = .ok (.iand, 1) := by decide +kernel
theorem dX4_clearInns_61 : decode cX4_clearInns 61 = .ok (.iconst 1, 1) := by decide +kernel
theorem dX4_clearInns_62 : decode cX4_clearInns 62 = .ok (.if_icmp .ne 24, 3) := by decide +kernel
theorem dX4_clearInns_65 : decode cX4_clearInns 65 = .ok (.aload_n 0, 1) := by decide +kernel
theorem dX4_clearInns_66 : decode cX4_clearInns 66 = .ok (.getfield 9, 3) := by decide +kernel
theorem dX4_clearInns_69 : decode cX4_clearInns 69 = .ok (.iload 4, 2) := by decide +kernel
theorem dX4_clearInns_71 : decode cX4_clearInns 71 = .ok (.aload_n 0, 1) := by decide +kernel
theorem dX4_clearInns_72 : decode cX4_clearInns 72 = .ok (.getfield 28, 3) := by decide +kernel
theorem dX4_clearInns_75 : decode cX4_clearInns 75 = .ok (.getfield 52, 3) := by decide +kernel
theorem dX4_clearInns_78 : decode cX4_clearInns 78 = .ok (.iload_n 1, 1) := by decide +kernel
theorem dX4_clearInns_79 : decode cX4_clearInns 79 = .ok (.iaload, 1) := by decide +kernel
theorem dX4_clearInns_80 : decode cX4_clearInns 80 = .ok (.iconst 1, 1) := by decide +kernel
theorem dX4_clearInns_81 : decode cX4_clearInns 81 = .ok (.isub, 1) := by decide +kernel
theorem dX4_clearInns_82 : decode cX4_clearInns 82 = .ok (.iastore, 1) := by decide +kernel
theorem dX4_clearInns_83 : decode cX4_clearInns 83 = .ok (.iinc 3 (-1), 3) := by decide +kernel
theorem dX4_clearInns_86 : decode cX4_clearInns 86 = .ok (.iinc 4 (-1), 3) := by decide +kernel
theorem dX4_clearInns_89 : decode cX4_clearInns 89 = .ok (.goto (-43), 3) := by decide +kernel
theorem dX4_clearInns_92 : decode cX4_clearInns 92 = .ok (.iinc 1 (-1), 3) := by decide +kernel
theorem dX4_clearInns_95 : decode cX4_clearInns 95 = .ok (.goto (-85), 3) := by decide +kernel
theorem dX4_clearInns_98 : decode cX4_clearInns 98 = .ok (.return_, 1) := by decide +kernel
def rmX4_clearInns : Room := { frames := 1, cells := 0, slots := 0, locals := 25 }
def fX4_clearInns_86 (w : Nat) (k10 : Int32 → xm → Option (xm)) (k46 : Int32 → Int32 → xm → Option (xm)) (x1 : Int32) (x2 : Int32) (x3 : Int32) (x4 : Int32) (M : xm) : Option (xm) := (k46 x3 (x4 + (-1)) M)
def fX4_clearInns_92 (w : Nat) (k10 : Int32 → xm → Option (xm)) (x1 : Int32) (M : xm) : Option (xm) := (k10 (x1 + (-1)) M)
def fX4_clearInns_46 (w : Nat) (k10 : Int32 → xm → Option (xm)) (x1 : Int32) (x2 : Int32) : Nat → Int32 → Int32 → xm → Option (xm)
  | 0, _, _, _ => none
  | n + 1, x3, x4, M => (if x4 < 0 then (fX4_clearInns_92 w (k10) x1 M) else (if x3 ≤ 0 then (fX4_clearInns_92 w (k10) x1 M) else (if ((x2 >>> (x4 &&& 31)) &&& 1) = 1 then xchk x1 6 (xchk x4 8 (xl (up M (w + 1) (x4 : Int32).toNatClampNeg ((M.1 ((rd (M.2 w)) + 4) x1.toNatClampNeg) - 1)) (fun M1 => (fX4_clearInns_86 w (k10) (fun z0 z1 z2 => fX4_clearInns_46 w k10 x1 x2 n z0 z1 z2) x1 x2 (x3 + (-1)) x4 M1)))) else (fX4_clearInns_86 w (k10) (fun z0 z1 z2 => fX4_clearInns_46 w k10 x1 x2 n z0 z1 z2) x1 x2 x3 x4 M))))
def fX4_clearInns_10 (w : Nat) : Nat → Int32 → xm → Option (xm)
  | 0, _, _ => none
  | n + 1, x1, M => (if x1 ≤ 0 then (some M) else (fX4_thoseIn w x1 M).bind (fun v2 => (fJ6_bitCount_0f7a4 v2 M).bind (fun v3 => xchk x1 6 (xl (v3 - (M.1 ((rd (M.2 w)) + 3) x1.toNatClampNeg)) (fun v4 => xl ((M.1 (rd (M.2 w)) 6) - 1) (fun v5 => (fX4_clearInns_46 w (fun z0 z1 => fX4_clearInns_10 w n z0 z1) x1 v2 xfuel v4 v5 M)))))))
def fX4_clearInns (w : Nat) (M : xm) : Option (xm) := xl ((M.1 (rd (M.2 w)) 0) - 1) (fun v6 => (fX4_clearInns_10 w xfuel v6 M))
section
variable {p : Program} {l : Launch} {e : Env} {s : State} {m : MethodId} {args : Array Value} {below : List Frame} {meth : Method} {c : Code} {D : va_G} {cs : Nat → ClassId} {S : List Nat} {ad : Nat → Nat} {w : Nat}
theorem bX4_clearInns_86 (Z : CX p s m args meth c cX4_clearInns 5 RX4 none D cs (xA S ad) S ad) (hw : xWalk S w) {k10 : Int32 → xm → Option (xm)} {k46 : Int32 → Int32 → xm → Option (xm)} (x1 : Int32) (x2 : Int32) (x3 : Int32) (x4 : Int32) (M : xm) (hk10 : ∀ (x1 : Int32) (M : xm), XJ p l e rmX4_clearInns s m args below meth c D cs (xA S ad) S ad 5 (XRm below args s D cs S ad) 10 [(0, .ref (ad w)), (1, .int x1)] [] M (k10 x1 M)) (hk46 : ∀ (x3 : Int32) (x4 : Int32) (M : xm), XJ p l e rmX4_clearInns s m args below meth c D cs (xA S ad) S ad 5 (XRm below args s D cs S ad) 46 [(0, .ref (ad w)), (1, .int x1), (2, .int x2), (3, .int x3), (4, .int x4)] [] M (k46 x3 x4 M)) : XJ p l e rmX4_clearInns s m args below meth c D cs (xA S ad) S ad 5 (XRm below args s D cs S ad) 86 [(0, .ref (ad w)), (1, .int x1), (2, .int x2), (3, .int x3), (4, .int x4)] [] M (fX4_clearInns_86 w k10 k46 x1 x2 x3 x4 M) := by
  unfold fX4_clearInns_86
  refine xj_iinc Z 4 (x4 + (-1)) (lv' := [(4, .int (x4 + (-1))), (0, .ref (ad w)), (1, .int x1), (2, .int x2), (3, .int x3)]) dX4_clearInns_86 rfl rfl (by decide) rfl ?_
  refine xj_goto Z 46 dX4_clearInns_89 (by decide) ?_
  refine xj_sub [1, 2, 3, 4, 0] (lv' := [(0, .ref (ad w)), (1, .int x1), (2, .int x2), (3, .int x3), (4, .int (x4 + (-1)))]) rfl ?_
  exact hk46 x3 (x4 + (-1)) M
theorem bX4_clearInns_92 (Z : CX p s m args meth c cX4_clearInns 5 RX4 none D cs (xA S ad) S ad) (hw : xWalk S w) {k10 : Int32 → xm → Option (xm)} (x1 : Int32) (M : xm) (hk10 : ∀ (x1 : Int32) (M : xm), XJ p l e rmX4_clearInns s m args below meth c D cs (xA S ad) S ad 5 (XRm below args s D cs S ad) 10 [(0, .ref (ad w)), (1, .int x1)] [] M (k10 x1 M)) : XJ p l e rmX4_clearInns s m args below meth c D cs (xA S ad) S ad 5 (XRm below args s D cs S ad) 92 [(0, .ref (ad w)), (1, .int x1)] [] M (fX4_clearInns_92 w k10 x1 M) := by
  unfold fX4_clearInns_92
  refine xj_iinc Z 1 (x1 + (-1)) (lv' := [(1, .int (x1 + (-1))), (0, .ref (ad w))]) dX4_clearInns_92 rfl rfl (by decide) rfl ?_
  refine xj_goto Z 10 dX4_clearInns_95 (by decide) ?_
  refine xj_sub [1, 0] (lv' := [(0, .ref (ad w)), (1, .int (x1 + (-1)))]) rfl ?_
  exact hk10 (x1 + (-1)) M
theorem bX4_clearInns_46 (Z : CX p s m args meth c cX4_clearInns 5 RX4 none D cs (xA S ad) S ad) (hw : xWalk S w) {k10 : Int32 → xm → Option (xm)} (x1 : Int32) (x2 : Int32) (hk10 : ∀ (x1 : Int32) (M : xm), XJ p l e rmX4_clearInns s m args below meth c D cs (xA S ad) S ad 5 (XRm below args s D cs S ad) 10 [(0, .ref (ad w)), (1, .int x1)] [] M (k10 x1 M)) : ∀ (n : Nat) (x3 : Int32) (x4 : Int32) (M : xm), XJ p l e rmX4_clearInns s m args below meth c D cs (xA S ad) S ad 5 (XRm below args s D cs S ad) 46 [(0, .ref (ad w)), (1, .int x1), (2, .int x2), (3, .int x3), (4, .int x4)] [] M (fX4_clearInns_46 w k10 x1 x2 n x3 x4 M) := by
  intro n
  induction n with
  | zero => intros; exact xj_none
  | succ n ih =>
    intro x3 x4 M
    rw [fX4_clearInns_46]
    refine xj_iload Z 4 dX4_clearInns_46 rfl ?_
    refine xj_if_lt Z 92 dX4_clearInns_48 (by decide) (fun _ => ?_) (fun _ => ?_)
    · refine xj_sub [0, 1] (lv' := [(0, .ref (ad w)), (1, .int x1)]) rfl ?_
      exact bX4_clearInns_92 Z hw x1 M hk10
    · refine xj_iload_n Z 3 dX4_clearInns_51 rfl rfl ?_
      refine xj_if_le Z 92 dX4_clearInns_52 (by decide) (fun _ => ?_) (fun _ => ?_)
      · refine xj_sub [0, 1] (lv' := [(0, .ref (ad w)), (1, .int x1)]) rfl ?_
        exact bX4_clearInns_92 Z hw x1 M hk10
      · refine xj_iload_n Z 2 dX4_clearInns_55 rfl rfl ?_
        refine xj_iload Z 4 dX4_clearInns_56 rfl ?_
        refine xj_ishr Z dX4_clearInns_58 ?_
        refine xj_iconst Z 1 dX4_clearInns_59 (by decide) ?_
        refine xj_iand Z dX4_clearInns_60 ?_
        refine xj_iconst Z 1 dX4_clearInns_61 (by decide) ?_
        refine xj_icmp_ne Z 86 dX4_clearInns_62 (by decide) (fun _ => ?_) (fun _ => ?_)
        · exact bX4_clearInns_86 Z hw x1 x2 x3 x4 M hk10 ih
        · refine xj_aload_n Z 0 dX4_clearInns_65 rfl rfl ?_
          refine xg_X4_9 Z (hw.mem 0 (by decide)) hw.lay dX4_clearInns_66 ?_
          refine xj_iload Z 4 dX4_clearInns_69 rfl ?_
          refine xj_aload_n Z 0 dX4_clearInns_71 rfl rfl ?_
          refine xg_X4_28 Z (hw.mem 0 (by decide)) hw.lay dX4_clearInns_72 ?_
          refine xg_X4_52 Z ((hw.road (M.2 w)).mem 0 (by decide)) (hw.road (M.2 w)).lay dX4_clearInns_75 ?_
          refine xj_iload_n Z 1 dX4_clearInns_78 rfl rfl ?_
          refine xj_iald Z ((hw.road (M.2 w)).mem 4 (by decide)) (hw.road (M.2 w)).lay4 dX4_clearInns_79 (fun _ => ?_)
          refine xj_iconst Z 1 dX4_clearInns_80 (by decide) ?_
          refine xj_isub Z dX4_clearInns_81 ?_
          refine xj_iast Z (hw.mem 1 (by decide)) hw.lay1 dX4_clearInns_82 (fun M1 _ => ?_)
          refine xj_iinc Z 3 (x3 + (-1)) (lv' := [(3, .int (x3 + (-1))), (0, .ref (ad w)), (1, .int x1), (2, .int x2), (4, .int x4)]) dX4_clearInns_83 rfl rfl (by decide) rfl ?_
          refine xj_sub [1, 2, 3, 0, 4] (lv' := [(0, .ref (ad w)), (1, .int x1), (2, .int x2), (3, .int (x3 + (-1))), (4, .int x4)]) rfl ?_
          exact bX4_clearInns_86 Z hw x1 x2 (x3 + (-1)) x4 M1 hk10 ih
theorem bX4_clearInns_10 (Z : CX p s m args meth c cX4_clearInns 5 RX4 none D cs (xA S ad) S ad) (hw : xWalk S w) : ∀ (n : Nat) (x1 : Int32) (M : xm), XJ p l e rmX4_clearInns s m args below meth c D cs (xA S ad) S ad 5 (XRm below args s D cs S ad) 10 [(0, .ref (ad w)), (1, .int x1)] [] M (fX4_clearInns_10 w n x1 M) := by
  intro n
  induction n with
  | zero => intros; exact xj_none
  | succ n ih =>
    intro x1 M
    rw [fX4_clearInns_10]
    refine xj_iload_n Z 1 dX4_clearInns_10 rfl rfl ?_
    refine xj_if_le Z 98 dX4_clearInns_11 (by decide) (fun _ => ?_) (fun _ => ?_)
    · exact xj_vret Z dX4_clearInns_98
    · refine xj_aload_n Z 0 dX4_clearInns_14 rfl rfl ?_
      refine xj_iload_n Z 1 dX4_clearInns_15 rfl rfl ?_
      refine xj_callVr Z (As := [.int x1]) (kX4_thoseIn l D cs S ad Z.2.2.2.2.2.1.dist hw x1 M) gw_X4_80 (hw.mem 0 (by decide)) hw.lay rfl (n := 1) (by decide +kernel) rfl ⟨rfl, rfl⟩ (by decide) rfl (Nat.le_of_ble_eq_true rfl) dX4_clearInns_16 (fun v2 => ?_)
      refine xj_istore_n Z (lv' := [(2, .int v2), (0, .ref (ad w)), (1, .int x1)]) dX4_clearInns_19 rfl (by decide) rfl ?_
      refine xj_iload_n Z 0 dX4_clearInns_20 rfl rfl ?_
      refine xj_callSr Z (As := [.int v2]) (kJ6_bitCount_0f7a4 l D cs S ad Z.2.2.2.2.2.1.dist v2 M) gw_X4_83 (n := 1) (by decide +kernel) rfl ⟨rfl, rfl⟩ (by decide) rfl (Nat.le_of_ble_eq_true rfl) dX4_clearInns_21 (fun v3 => ?_)
      refine xj_aload_n Z 1 dX4_clearInns_24 rfl rfl ?_
      refine xg_X4_28 Z (hw.mem 0 (by decide)) hw.lay dX4_clearInns_25 ?_
      refine xg_X4_88 Z ((hw.road (M.2 w)).mem 0 (by decide)) (hw.road (M.2 w)).lay dX4_clearInns_28 ?_
      refine xj_iload_n Z 2 dX4_clearInns_31 rfl rfl ?_
      refine xj_iald Z ((hw.road (M.2 w)).mem 3 (by decide)) (hw.road (M.2 w)).lay3 dX4_clearInns_32 (fun _ => ?_)
      refine xj_isub Z dX4_clearInns_33 ?_
      refine xj_top (fun v4 => ?_)
      refine xj_istore_n Z (lv' := [(3, .int v4), (2, .int v2), (0, .ref (ad w)), (1, .int x1)]) dX4_clearInns_34 rfl (by decide) rfl ?_
      refine xj_aload_n Z 2 dX4_clearInns_35 rfl rfl ?_
      refine xg_X4_28 Z (hw.mem 0 (by decide)) hw.lay dX4_clearInns_36 ?_
      refine xg_X4_36 Z ((hw.road (M.2 w)).mem 0 (by decide)) (hw.road (M.2 w)).lay dX4_clearInns_39 ?_
      refine xj_iconst Z 1 dX4_clearInns_42 (by decide) ?_
      refine xj_isub Z dX4_clearInns_43 ?_
      refine xj_top (fun v5 => ?_)
      refine xj_istore Z (lv' := [(4, .int v5), (3, .int v4), (2, .int v2), (0, .ref (ad w)), (1, .int x1)]) dX4_clearInns_44 (by decide) rfl ?_
      refine xj_sub [3, 4, 2, 1, 0] (lv' := [(0, .ref (ad w)), (1, .int x1), (2, .int v2), (3, .int v4), (4, .int v5)]) rfl ?_
      exact bX4_clearInns_46 Z hw x1 v2 ih xfuel v4 v5 M
end
theorem kX4_clearInns (l : Launch) (D : va_G) (cs : Nat → ClassId) (S : List Nat) (ad : Nat → Nat) (hd : xdist S ad) {w : Nat} (hw : xWalk S w) (M : xm) : ∀ r, fX4_clearInns w M = some r → Met l yX4_clearInns [Cond.code yX4_clearInns cX4_clearInns 5 none] rmX4_clearInns (XPc D cs S ad [.ref (ad w)] M) (XQv D cs S ad r) 0 0 (xA S ad) := by
  refine xm_m (own := RX4) (lv := [(0, .ref (ad w))]) (by decide +kernel) rfl rfl (Nat.le_of_ble_eq_true rfl) hd (fun p e s m args below meth c Z => ?_)
  unfold fX4_clearInns
  refine xj_aload_n Z 0 dX4_clearInns_0 rfl rfl ?_
  refine xg_X4_28 Z (hw.mem 0 (by decide)) hw.lay dX4_clearInns_1 ?_
  refine xg_X4_55 Z ((hw.road (M.2 w)).mem 0 (by decide)) (hw.road (M.2 w)).lay dX4_clearInns_4 ?_
  refine xj_iconst Z 1 dX4_clearInns_7 (by decide) ?_
  refine xj_isub Z dX4_clearInns_8 ?_
  refine xj_top (fun v6 => ?_)
  refine xj_istore_n Z (lv' := [(1, .int v6), (0, .ref (ad w))]) dX4_clearInns_9 rfl (by decide) rfl ?_
  refine xj_sub [1, 0] (lv' := [(0, .ref (ad w)), (1, .int v6)]) rfl ?_
  exact bX4_clearInns_10 Z hw xfuel v6 M
/-! WalkingLaw$Walk.swayed(II)I -/
theorem dX4_swayed_0 : decode cX4_swayed 0 = .ok (.iload_n 0, 1) := by decide +kernel
theorem dX4_swayed_1 : decode cX4_swayed 1 = .ok (.iload_n 1, 1) := by decide +kernel
theorem dX4_swayed_2 : decode cX4_swayed 2 = .ok (.iand, 1) := by decide +kernel
theorem dX4_swayed_3 : decode cX4_swayed 3 = .ok (.istore_n 2, 1) := by decide +kernel
theorem dX4_swayed_4 : decode cX4_swayed 4 = .ok (.iload_n 0, 1) := by decide +kernel
theorem dX4_swayed_5 : decode cX4_swayed 5 = .ok (.iload_n 1, 1) := by decide +kernel
theorem dX4_swayed_6 : decode cX4_swayed 6 = .ok (.iconst (-1), 1) := by decide +kernel
theorem dX4_swayed_7 : decode cX4_swayed 7 = .ok (.ixor, 1) := by decide +kernel
theorem dX4_swayed_8 : decode cX4_swayed 8 = .ok (.iand, 1) := by decide +kernel
theorem dX4_swayed_9 : decode cX4_swayed 9 = .ok (.istore_n 3, 1) := by decide +kernel
theorem dX4_swayed_10 : decode cX4_swayed 10 = .ok (.iload_n 2, 1) := by decide +kernel
theorem dX4_swayed_11 : decode cX4_swayed 11 = .ok (.invokestatic 83, 3) := by decide +kernel
theorem dX4_swayed_14 : decode cX4_swayed 14 = .ok (.iload_n 3, 1) := by decide +kernel
theorem dX4_swayed_15 : decode cX4_swayed 15 = .ok (.invokestatic 83, 3) := by decide +kernel
theorem dX4_swayed_18 : decode cX4_swayed 18 = .ok (.isub, 1) := by decide +kernel
theorem dX4_swayed_19 : decode cX4_swayed 19 = .ok (.istore 4, 2) := by decide +kernel
theorem dX4_swayed_21 : decode cX4_swayed 21 = .ok (.iload 4, 2) := by decide +kernel
theorem dX4_swayed_23 : decode cX4_swayed 23 = .ok (.ifCond .le 10, 3) := by decide +kernel
theorem dX4_swayed_26 : decode cX4_swayed 26 = .ok (.iload_n 1, 1) := by decide +kernel
theorem dX4_swayed_27 : decode cX4_swayed 27 = .ok (.iload_n 3, 1) := by decide +kernel
theorem dX4_swayed_28 : decode cX4_swayed 28 = .ok (.invokestatic 97, 3) := by decide +kernel
theorem dX4_swayed_31 : decode cX4_swayed 31 = .ok (.ior, 1) := by decide +kernel
theorem dX4_swayed_32 : decode cX4_swayed 32 = .ok (.ireturn, 1) := by decide +kernel
theorem dX4_swayed_33 : decode cX4_swayed 33 = .ok (.iload 4, 2) := by decide +kernel
theorem dX4_swayed_35 : decode cX4_swayed 35 = .ok (.ifCond .ge 14, 3) := by decide +kernel
theorem dX4_swayed_38 : decode cX4_swayed 38 = .ok (.iload_n 1, 1) := by decide +kernel
theorem dX4_swayed_39 : decode cX4_swayed 39 = .ok (.iload_n 2, 1) := by decide +kernel
theorem dX4_swayed_40 : decode cX4_swayed 40 = .ok (.invokestatic 97, 3) := by decide +kernel
theorem dX4_swayed_43 : decode cX4_swayed 43 = .ok (.iconst (-1), 1) := by decide +kernel
theorem dX4_swayed_44 : decode cX4_swayed 44 = .ok (.ixor, 1) := by decide +kernel
theorem dX4_swayed_45 : decode cX4_swayed 45 = .ok (.iand, 1) := by decide +kernel
theorem dX4_swayed_46 : decode cX4_swayed 46 = .ok (.goto 4, 3) := by decide +kernel
theorem dX4_swayed_49 : decode cX4_swayed 49 = .ok (.iload_n 1, 1) := by decide +kernel
theorem dX4_swayed_50 : decode cX4_swayed 50 = .ok (.ireturn, 1) := by decide +kernel
def rmX4_swayed : Room := { frames := 1, cells := 0, slots := 0, locals := 20 }
def fX4_swayed_50 (t0 : Int32) (M : xm) : Option (Int32) := (some t0)
def fX4_swayed (x0 : Int32) (x1 : Int32) (M : xm) : Option (Int32) := xl (x0 &&& x1) (fun v1 => xl (x0 &&& (x1 ^^^ (-1))) (fun v2 => (fJ6_bitCount_0f7a4 v1 M).bind (fun v3 => (fJ6_bitCount_0f7a4 v2 M).bind (fun v4 => xl (v3 - v4) (fun v5 => (if v5 ≤ 0 then (if (0 : Int32) ≤ v5 then (fX4_swayed_50 x1 M) else (fX5_lowestOf v1 M).bind (fun v6 => (fX4_swayed_50 (x1 &&& (v6 ^^^ (-1))) M))) else (fX5_lowestOf v2 M).bind (fun v7 => (some (x1 ||| v7)))))))))
section
variable {p : Program} {l : Launch} {e : Env} {s : State} {m : MethodId} {args : Array Value} {below : List Frame} {meth : Method} {c : Code} {D : va_G} {cs : Nat → ClassId} {S : List Nat} {ad : Nat → Nat}
theorem bX4_swayed_50 (Z : CX p s m args meth c cX4_swayed 5 RX4 (some .int) D cs (xA S ad) S ad) (t0 : Int32) (M : xm) : XJ p l e rmX4_swayed s m args below meth c D cs (xA S ad) S ad 5 (XRr below args s D cs S ad M) 50 [] [.int t0] M (fX4_swayed_50 t0 M) := by
  unfold fX4_swayed_50
  exact xj_ret_r Z dX4_swayed_50
end
theorem kX4_swayed (l : Launch) (D : va_G) (cs : Nat → ClassId) (S : List Nat) (ad : Nat → Nat) (hd : xdist S ad) (x0 : Int32) (x1 : Int32) (M : xm) : ∀ r, fX4_swayed x0 x1 M = some r → Met l yX4_swayed [Cond.code yX4_swayed cX4_swayed 5 (some .int)] rmX4_swayed (XPc D cs S ad [.int x0, .int x1] M) (XQi D cs S ad r M) 0 0 (xA S ad) := by
  refine xm_r (own := RX4) (lv := [(0, .int x0), (1, .int x1)]) (by decide +kernel) rfl rfl (Nat.le_of_ble_eq_true rfl) hd (fun p e s m args below meth c Z => ?_)
  unfold fX4_swayed
  refine xj_iload_n Z 0 dX4_swayed_0 rfl rfl ?_
  refine xj_iload_n Z 1 dX4_swayed_1 rfl rfl ?_
  refine xj_iand Z dX4_swayed_2 ?_
  refine xj_top (fun v1 => ?_)
  refine xj_istore_n Z (lv' := [(2, .int v1), (0, .int x0), (1, .int x1)]) dX4_swayed_3 rfl (by decide) rfl ?_
  refine xj_iload_n Z 1 dX4_swayed_4 rfl rfl ?_
  refine xj_iload_n Z 2 dX4_swayed_5 rfl rfl ?_
  refine xj_iconst Z (-1) dX4_swayed_6 (by decide) ?_
  refine xj_ixor Z dX4_swayed_7 ?_
  refine xj_iand Z dX4_swayed_8 ?_
  refine xj_top (fun v2 => ?_)
  refine xj_istore_n Z (lv' := [(3, .int v2), (2, .int v1), (0, .int x0), (1, .int x1)]) dX4_swayed_9 rfl (by decide) rfl ?_
  refine xj_iload_n Z 1 dX4_swayed_10 rfl rfl ?_
  refine xj_callSr Z (As := [.int v1]) (kJ6_bitCount_0f7a4 l D cs S ad Z.2.2.2.2.2.1.dist v1 M) gw_X4_83 (n := 1) (by decide +kernel) rfl ⟨rfl, rfl⟩ (by decide) rfl (Nat.le_of_ble_eq_true rfl) dX4_swayed_11 (fun v3 => ?_)
  refine xj_iload_n Z 0 dX4_swayed_14 rfl rfl ?_
  refine xj_callSr Z (As := [.int v2]) (kJ6_bitCount_0f7a4 l D cs S ad Z.2.2.2.2.2.1.dist v2 M) gw_X4_83 (n := 1) (by decide +kernel) rfl ⟨rfl, rfl⟩ (by decide) rfl (Nat.le_of_ble_eq_true rfl) dX4_swayed_15 (fun v4 => ?_)
  refine xj_isub Z dX4_swayed_18 ?_
  refine xj_top (fun v5 => ?_)
  refine xj_istore Z (lv' := [(4, .int v5), (3, .int v2), (2, .int v1), (0, .int x0), (1, .int x1)]) dX4_swayed_19 (by decide) rfl ?_
  refine xj_iload Z 0 dX4_swayed_21 rfl ?_
  refine xj_if_le Z 33 dX4_swayed_23 (by decide) (fun _ => ?_) (fun _ => ?_)
  · refine xj_iload Z 0 dX4_swayed_33 rfl ?_
    refine xj_if_ge Z 49 dX4_swayed_35 (by decide) (fun _ => ?_) (fun _ => ?_)
    · refine xj_iload_n Z 4 dX4_swayed_49 rfl rfl ?_
      refine xj_sub [] (lv' := []) rfl ?_
      exact bX4_swayed_50 Z x1 M
    · refine xj_iload_n Z 4 dX4_swayed_38 rfl rfl ?_
      refine xj_iload_n Z 2 dX4_swayed_39 rfl rfl ?_
      refine xj_callNr Z (As := [.int v1]) (kX5_lowestOf l D cs S ad Z.2.2.2.2.2.1.dist v1 M) gw_X4_97 gn_X4_97 xb_44 xb_45 (n := 1) (by decide +kernel) rfl ⟨rfl, rfl⟩ (by decide) rfl (Nat.le_of_ble_eq_true rfl) dX4_swayed_40 (fun v6 => ?_)
      refine xj_iconst Z (-1) dX4_swayed_43 (by decide) ?_
      refine xj_ixor Z dX4_swayed_44 ?_
      refine xj_iand Z dX4_swayed_45 ?_
      refine xj_goto Z 50 dX4_swayed_46 (by decide) ?_
      refine xj_sub [] (lv' := []) rfl ?_
      exact bX4_swayed_50 Z (x1 &&& (v6 ^^^ (-1))) M
  · refine xj_iload_n Z 4 dX4_swayed_26 rfl rfl ?_
    refine xj_iload_n Z 1 dX4_swayed_27 rfl rfl ?_
    refine xj_callNr Z (As := [.int v2]) (kX5_lowestOf l D cs S ad Z.2.2.2.2.2.1.dist v2 M) gw_X4_97 gn_X4_97 xb_44 xb_45 (n := 1) (by decide +kernel) rfl ⟨rfl, rfl⟩ (by decide) rfl (Nat.le_of_ble_eq_true rfl) dX4_swayed_28 (fun v7 => ?_)
    refine xj_ior Z dX4_swayed_31 ?_
    exact xj_ret_r Z dX4_swayed_32
/-! WalkingLaw$Walk.changeMinds()V -/
theorem dX4_changeMinds_0 : decode cX4_changeMinds 0 = .ok (.iconst 0, 1) := by decide +kernel
theorem dX4_changeMinds_1 : decode cX4_changeMinds 1 = .ok (.istore_n 1, 1) := by decide +kernel
theorem dX4_changeMinds_2 : decode cX4_changeMinds 2 = .ok (.iload_n 1, 1) := by decide +kernel
theorem dX4_changeMinds_3 : decode cX4_changeMinds 3 = .ok (.aload_n 0, 1) := by decide +kernel
theorem dX4_changeMinds_4 : decode cX4_changeMinds 4 = .ok (.getfield 28, 3) := by decide +kernel
theorem dX4_changeMinds_7 : decode cX4_changeMinds 7 = .ok (.getfield 55, 3) := by decide +kernel
theorem dX4_changeMinds_10 : decode cX4_changeMinds 10 = .ok (.if_icmp .ge 50, 3) := by decide +kernel
theorem dX4_changeMinds_13 : decode cX4_changeMinds 13 = .ok (.aload_n 0, 1) := by decide +kernel
theorem dX4_changeMinds_14 : decode cX4_changeMinds 14 = .ok (.iload_n 1, 1) := by decide +kernel
theorem dX4_changeMinds_15 : decode cX4_changeMinds 15 = .ok (.invokevirtual 80, 3) := by decide +kernel
theorem dX4_changeMinds_18 : decode cX4_changeMinds 18 = .ok (.istore_n 2, 1) := by decide +kernel
theorem dX4_changeMinds_19 : decode cX4_changeMinds 19 = .ok (.iconst 0, 1) := by decide +kernel
theorem dX4_changeMinds_20 : decode cX4_changeMinds 20 = .ok (.istore_n 3, 1) := by decide +kernel
theorem dX4_changeMinds_21 : decode cX4_changeMinds 21 = .ok (.iload_n 3, 1) := by decide +kernel
theorem dX4_changeMinds_22 : decode cX4_changeMinds 22 = .ok (.aload_n 0, 1) := by decide +kernel
theorem dX4_changeMinds_23 : decode cX4_changeMinds 23 = .ok (.getfield 28, 3) := by decide +kernel
theorem dX4_changeMinds_26 : decode cX4_changeMinds 26 = .ok (.getfield 91, 3) := by decide +kernel
theorem dX4_changeMinds_29 : decode cX4_changeMinds 29 = .ok (.if_icmp .ge 25, 3) := by decide +kernel
theorem dX4_changeMinds_32 : decode cX4_changeMinds 32 = .ok (.aload_n 0, 1) := by decide +kernel
theorem dX4_changeMinds_33 : decode cX4_changeMinds 33 = .ok (.getfield 15, 3) := by decide +kernel
theorem dX4_changeMinds_36 : decode cX4_changeMinds 36 = .ok (.iload_n 3, 1) := by decide +kernel
theorem dX4_changeMinds_37 : decode cX4_changeMinds 37 = .ok (.iload_n 2, 1) := by decide +kernel
theorem dX4_changeMinds_38 : decode cX4_changeMinds 38 = .ok (.aload_n 0, 1) := by decide +kernel
theorem dX4_changeMinds_39 : decode cX4_changeMinds 39 = .ok (.getfield 15, 3) := by decide +kernel
theorem dX4_changeMinds_42 : decode cX4_changeMinds 42 = .ok (.iload_n 3, 1) := by decide +kernel
theorem dX4_changeMinds_43 : decode cX4_changeMinds 43 = .ok (.iaload, 1) := by decide +kernel
theorem dX4_changeMinds_44 : decode cX4_changeMinds 44 = .ok (.invokestatic 94, 3) := by decide +kernel
theorem dX4_changeMinds_47 : decode cX4_changeMinds 47 = .ok (.iastore, 1) := by decide +kernel
theorem dX4_changeMinds_48 : decode cX4_changeMinds 48 = .ok (.iinc 3 1, 3) := by decide +kernel
theorem dX4_changeMinds_51 : decode cX4_changeMinds 51 = .ok (.goto (-30), 3) := by decide +kernel
theorem dX4_changeMinds_54 : decode cX4_changeMinds 54 = .ok (.iinc 1 1, 3) := by decide +kernel
theorem dX4_changeMinds_57 : decode cX4_changeMinds 57 = .ok (.goto (-55), 3) := by decide +kernel
theorem dX4_changeMinds_60 : decode cX4_changeMinds 60 = .ok (.return_, 1) := by decide +kernel
def rmX4_changeMinds : Room := { frames := 2, cells := 0, slots := 0, locals := 44 }
def fX4_changeMinds_21 (w : Nat) (k2 : Int32 → xm → Option (xm)) (x1 : Int32) (x2 : Int32) : Nat → Int32 → xm → Option (xm)
  | 0, _, _ => none
  | n + 1, x3, M => (if (M.1 (rd (M.2 w)) 12) ≤ x3 then (k2 (x1 + 1) M) else xchk x3 4 ((fX4_swayed x2 (M.1 (w + 2) x3.toNatClampNeg) M).bind (fun v1 => xchk x3 4 (xl (up M (w + 2) (x3 : Int32).toNatClampNeg v1) (fun M2 => (fX4_changeMinds_21 w k2 x1 x2 n (x3 + 1) M2))))))
def fX4_changeMinds_2 (w : Nat) : Nat → Int32 → xm → Option (xm)
  | 0, _, _ => none
  | n + 1, x1, M => (if (M.1 (rd (M.2 w)) 0) ≤ x1 then (some M) else (fX4_thoseIn w x1 M).bind (fun v3 => (fX4_changeMinds_21 w (fun z0 z1 => fX4_changeMinds_2 w n z0 z1) x1 v3 xfuel 0 M)))
def fX4_changeMinds (w : Nat) (M : xm) : Option (xm) := (fX4_changeMinds_2 w xfuel 0 M)
section
variable {p : Program} {l : Launch} {e : Env} {s : State} {m : MethodId} {args : Array Value} {below : List Frame} {meth : Method} {c : Code} {D : va_G} {cs : Nat → ClassId} {S : List Nat} {ad : Nat → Nat} {w : Nat}
theorem bX4_changeMinds_21 (Z : CX p s m args meth c cX4_changeMinds 4 RX4 none D cs (xA S ad) S ad) (hw : xWalk S w) {k2 : Int32 → xm → Option (xm)} (x1 : Int32) (x2 : Int32) (hk2 : ∀ (x1 : Int32) (M : xm), XJ p l e rmX4_changeMinds s m args below meth c D cs (xA S ad) S ad 4 (XRm below args s D cs S ad) 2 [(0, .ref (ad w)), (1, .int x1)] [] M (k2 x1 M)) : ∀ (n : Nat) (x3 : Int32) (M : xm), XJ p l e rmX4_changeMinds s m args below meth c D cs (xA S ad) S ad 4 (XRm below args s D cs S ad) 21 [(0, .ref (ad w)), (1, .int x1), (2, .int x2), (3, .int x3)] [] M (fX4_changeMinds_21 w k2 x1 x2 n x3 M) := by
  intro n
  induction n with
  | zero => intros; exact xj_none
  | succ n ih =>
    intro x3 M
    rw [fX4_changeMinds_21]
    refine xj_iload_n Z 3 dX4_changeMinds_21 rfl rfl ?_
    refine xj_aload_n Z 0 dX4_changeMinds_22 rfl rfl ?_
    refine xg_X4_28 Z (hw.mem 0 (by decide)) hw.lay dX4_changeMinds_23 ?_
    refine xg_X4_91 Z ((hw.road (M.2 w)).mem 0 (by decide)) (hw.road (M.2 w)).lay dX4_changeMinds_26 ?_
    refine xj_icmp_ge Z 54 dX4_changeMinds_29 (by decide) (fun _ => ?_) (fun _ => ?_)
    · refine xj_iinc Z 1 (x1 + 1) (lv' := [(1, .int (x1 + 1)), (0, .ref (ad w)), (2, .int x2), (3, .int x3)]) dX4_changeMinds_54 rfl rfl (by decide) rfl ?_
      refine xj_goto Z 2 dX4_changeMinds_57 (by decide) ?_
      refine xj_sub [1, 0] (lv' := [(0, .ref (ad w)), (1, .int (x1 + 1))]) rfl ?_
      exact hk2 (x1 + 1) M
    · refine xj_aload_n Z 0 dX4_changeMinds_32 rfl rfl ?_
      refine xg_X4_15 Z (hw.mem 0 (by decide)) hw.lay dX4_changeMinds_33 ?_
      refine xj_iload_n Z 3 dX4_changeMinds_36 rfl rfl ?_
      refine xj_iload_n Z 2 dX4_changeMinds_37 rfl rfl ?_
      refine xj_aload_n Z 0 dX4_changeMinds_38 rfl rfl ?_
      refine xg_X4_15 Z (hw.mem 0 (by decide)) hw.lay dX4_changeMinds_39 ?_
      refine xj_iload_n Z 3 dX4_changeMinds_42 rfl rfl ?_
      refine xj_iald Z (hw.mem 2 (by decide)) hw.lay2 dX4_changeMinds_43 (fun _ => ?_)
      refine xj_callSr Z (As := [.int x2, .int (M.1 (w + 2) x3.toNatClampNeg)]) (kX4_swayed l D cs S ad Z.2.2.2.2.2.1.dist x2 (M.1 (w + 2) x3.toNatClampNeg) M) gw_X4_94 (n := 2) (by decide +kernel) rfl ⟨rfl, rfl⟩ (by decide) rfl (Nat.le_of_ble_eq_true rfl) dX4_changeMinds_44 (fun v1 => ?_)
      refine xj_iast Z (hw.mem 2 (by decide)) hw.lay2 dX4_changeMinds_47 (fun M2 _ => ?_)
      refine xj_iinc Z 3 (x3 + 1) (lv' := [(3, .int (x3 + 1)), (0, .ref (ad w)), (1, .int x1), (2, .int x2)]) dX4_changeMinds_48 rfl rfl (by decide) rfl ?_
      refine xj_goto Z 21 dX4_changeMinds_51 (by decide) ?_
      refine xj_sub [1, 2, 3, 0] (lv' := [(0, .ref (ad w)), (1, .int x1), (2, .int x2), (3, .int (x3 + 1))]) rfl ?_
      exact ih (x3 + 1) M2
theorem bX4_changeMinds_2 (Z : CX p s m args meth c cX4_changeMinds 4 RX4 none D cs (xA S ad) S ad) (hw : xWalk S w) : ∀ (n : Nat) (x1 : Int32) (M : xm), XJ p l e rmX4_changeMinds s m args below meth c D cs (xA S ad) S ad 4 (XRm below args s D cs S ad) 2 [(0, .ref (ad w)), (1, .int x1)] [] M (fX4_changeMinds_2 w n x1 M) := by
  intro n
  induction n with
  | zero => intros; exact xj_none
  | succ n ih =>
    intro x1 M
    rw [fX4_changeMinds_2]
    refine xj_iload_n Z 1 dX4_changeMinds_2 rfl rfl ?_
    refine xj_aload_n Z 0 dX4_changeMinds_3 rfl rfl ?_
    refine xg_X4_28 Z (hw.mem 0 (by decide)) hw.lay dX4_changeMinds_4 ?_
    refine xg_X4_55 Z ((hw.road (M.2 w)).mem 0 (by decide)) (hw.road (M.2 w)).lay dX4_changeMinds_7 ?_
    refine xj_icmp_ge Z 60 dX4_changeMinds_10 (by decide) (fun _ => ?_) (fun _ => ?_)
    · exact xj_vret Z dX4_changeMinds_60
    · refine xj_aload_n Z 0 dX4_changeMinds_13 rfl rfl ?_
      refine xj_iload_n Z 1 dX4_changeMinds_14 rfl rfl ?_
      refine xj_callVr Z (As := [.int x1]) (kX4_thoseIn l D cs S ad Z.2.2.2.2.2.1.dist hw x1 M) gw_X4_80 (hw.mem 0 (by decide)) hw.lay rfl (n := 1) (by decide +kernel) rfl ⟨rfl, rfl⟩ (by decide) rfl (Nat.le_of_ble_eq_true rfl) dX4_changeMinds_15 (fun v3 => ?_)
      refine xj_istore_n Z (lv' := [(2, .int v3), (0, .ref (ad w)), (1, .int x1)]) dX4_changeMinds_18 rfl (by decide) rfl ?_
      refine xj_iconst Z 0 dX4_changeMinds_19 (by decide) ?_
      refine xj_istore_n Z (lv' := [(3, .int 0), (2, .int v3), (0, .ref (ad w)), (1, .int x1)]) dX4_changeMinds_20 rfl (by decide) rfl ?_
      refine xj_sub [2, 3, 1, 0] (lv' := [(0, .ref (ad w)), (1, .int x1), (2, .int v3), (3, .int 0)]) rfl ?_
      exact bX4_changeMinds_21 Z hw x1 v3 ih xfuel 0 M
end
theorem kX4_changeMinds (l : Launch) (D : va_G) (cs : Nat → ClassId) (S : List Nat) (ad : Nat → Nat) (hd : xdist S ad) {w : Nat} (hw : xWalk S w) (M : xm) : ∀ r, fX4_changeMinds w M = some r → Met l yX4_changeMinds [Cond.code yX4_changeMinds cX4_changeMinds 4 none] rmX4_changeMinds (XPc D cs S ad [.ref (ad w)] M) (XQv D cs S ad r) 0 0 (xA S ad) := by
  refine xm_m (own := RX4) (lv := [(0, .ref (ad w))]) (by decide +kernel) rfl rfl (Nat.le_of_ble_eq_true rfl) hd (fun p e s m args below meth c Z => ?_)
  unfold fX4_changeMinds
  refine xj_iconst Z 0 dX4_changeMinds_0 (by decide) ?_
  refine xj_istore_n Z (lv' := [(1, .int 0), (0, .ref (ad w))]) dX4_changeMinds_1 rfl (by decide) rfl ?_
  refine xj_sub [1, 0] (lv' := [(0, .ref (ad w)), (1, .int 0)]) rfl ?_
  exact bX4_changeMinds_2 Z hw xfuel 0 M
/-! WalkingLaw$Walk.goHour(I)V -/
theorem dX4_goHour_0 : decode cX4_goHour 0 = .ok (.iconst 0, 1) := by decide +kernel
theorem dX4_goHour_1 : decode cX4_goHour 1 = .ok (.istore_n 2, 1) := by decide +kernel
theorem dX4_goHour_2 : decode cX4_goHour 2 = .ok (.iload_n 2, 1) := by decide +kernel
theorem dX4_goHour_3 : decode cX4_goHour 3 = .ok (.aload_n 0, 1) := by decide +kernel
theorem dX4_goHour_4 : decode cX4_goHour 4 = .ok (.getfield 28, 3) := by decide +kernel
theorem dX4_goHour_7 : decode cX4_goHour 7 = .ok (.getfield 36, 3) := by decide +kernel
theorem dX4_goHour_10 : decode cX4_goHour 10 = .ok (.if_icmp .ge 51, 3) := by decide +kernel
theorem dX4_goHour_13 : decode cX4_goHour 13 = .ok (.iload_n 2, 1) := by decide +kernel
theorem dX4_goHour_14 : decode cX4_goHour 14 = .ok (.iload_n 1, 1) := by decide +kernel
theorem dX4_goHour_15 : decode cX4_goHour 15 = .ok (.if_icmp .eq 40, 3) := by decide +kernel
theorem dX4_goHour_18 : decode cX4_goHour 18 = .ok (.aload_n 0, 1) := by decide +kernel
theorem dX4_goHour_19 : decode cX4_goHour 19 = .ok (.getfield 9, 3) := by decide +kernel
theorem dX4_goHour_22 : decode cX4_goHour 22 = .ok (.iload_n 2, 1) := by decide +kernel
theorem dX4_goHour_23 : decode cX4_goHour 23 = .ok (.aload_n 0, 1) := by decide +kernel
theorem dX4_goHour_24 : decode cX4_goHour 24 = .ok (.getfield 28, 3) := by decide +kernel
theorem dX4_goHour_27 : decode cX4_goHour 27 = .ok (.getfield 58, 3) := by decide +kernel
theorem dX4_goHour_30 : decode cX4_goHour 30 = .ok (.aload_n 0, 1) := by decide +kernel
theorem dX4_goHour_31 : decode cX4_goHour 31 = .ok (.getfield 9, 3) := by decide +kernel
theorem dX4_goHour_34 : decode cX4_goHour 34 = .ok (.iload_n 2, 1) := by decide +kernel
theorem dX4_goHour_35 : decode cX4_goHour 35 = .ok (.iaload, 1) := by decide +kernel
theorem dX4_goHour_36 : decode cX4_goHour 36 = .ok (.aload_n 0, 1) := by decide +kernel
theorem dX4_goHour_37 : decode cX4_goHour 37 = .ok (.getfield 28, 3) := by decide +kernel
theorem dX4_goHour_40 : decode cX4_goHour 40 = .ok (.aload_n 0, 1) := by decide +kernel
theorem dX4_goHour_41 : decode cX4_goHour 41 = .ok (.getfield 9, 3) := by decide +kernel
theorem dX4_goHour_44 : decode cX4_goHour 44 = .ok (.iload_n 2, 1) := by decide +kernel
theorem dX4_goHour_45 : decode cX4_goHour 45 = .ok (.iaload, 1) := by decide +kernel
theorem dX4_goHour_46 : decode cX4_goHour 46 = .ok (.iload_n 2, 1) := by decide +kernel
theorem dX4_goHour_47 : decode cX4_goHour 47 = .ok (.invokevirtual 65, 3) := by decide +kernel
theorem dX4_goHour_50 : decode cX4_goHour 50 = .ok (.iadd, 1) := by decide +kernel
theorem dX4_goHour_51 : decode cX4_goHour 51 = .ok (.invokestatic 69, 3) := by decide +kernel
theorem dX4_goHour_54 : decode cX4_goHour 54 = .ok (.iastore, 1) := by decide +kernel
theorem dX4_goHour_55 : decode cX4_goHour 55 = .ok (.iinc 2 1, 3) := by decide +kernel
theorem dX4_goHour_58 : decode cX4_goHour 58 = .ok (.goto (-56), 3) := by decide +kernel
theorem dX4_goHour_61 : decode cX4_goHour 61 = .ok (.aload_n 0, 1) := by decide +kernel
theorem dX4_goHour_62 : decode cX4_goHour 62 = .ok (.dup, 1) := by decide +kernel
theorem dX4_goHour_63 : decode cX4_goHour 63 = .ok (.getfield 32, 3) := by decide +kernel
theorem dX4_goHour_66 : decode cX4_goHour 66 = .ok (.iconst 1, 1) := by decide +kernel
theorem dX4_goHour_67 : decode cX4_goHour 67 = .ok (.iadd, 1) := by decide +kernel
theorem dX4_goHour_68 : decode cX4_goHour 68 = .ok (.putfield 32, 3) := by decide +kernel
theorem dX4_goHour_71 : decode cX4_goHour 71 = .ok (.aload_n 0, 1) := by decide +kernel
theorem dX4_goHour_72 : decode cX4_goHour 72 = .ok (.getfield 32, 3) := by decide +kernel
theorem dX4_goHour_75 : decode cX4_goHour 75 = .ok (.bipush 8, 2) := by decide +kernel
theorem dX4_goHour_77 : decode cX4_goHour 77 = .ok (.irem, 1) := by decide +kernel
theorem dX4_goHour_78 : decode cX4_goHour 78 = .ok (.ifCond .ne 11, 3) := by decide +kernel
theorem dX4_goHour_81 : decode cX4_goHour 81 = .ok (.aload_n 0, 1) := by decide +kernel
theorem dX4_goHour_82 : decode cX4_goHour 82 = .ok (.invokevirtual 74, 3) := by decide +kernel
theorem dX4_goHour_85 : decode cX4_goHour 85 = .ok (.aload_n 0, 1) := by decide +kernel
theorem dX4_goHour_86 : decode cX4_goHour 86 = .ok (.invokevirtual 77, 3) := by decide +kernel
theorem dX4_goHour_89 : decode cX4_goHour 89 = .ok (.return_, 1) := by decide +kernel
def rmX4_goHour : Room := { frames := 3, cells := 0, slots := 0, locals := 67 }
def fX4_goHour_55 (w : Nat) (k2 : Int32 → xm → Option (xm)) (x1 : Int32) (x2 : Int32) (M : xm) : Option (xm) := (k2 (x2 + 1) M)
def fX4_goHour_89 (w : Nat) (M : xm) : Option (xm) := (some M)
def fX4_goHour_2 (w : Nat) (x1 : Int32) : Nat → Int32 → xm → Option (xm)
  | 0, _, _ => none
  | n + 1, x2, M => (if (M.1 (rd (M.2 w)) 6) ≤ x2 then xl (up M w 5 ((M.1 w 5) + 1)) (fun M1 => (if ((M1.1 w 5) - (M1.1 w 5) / 8 * 8) = 0 then (fX4_clearInns w M1).bind (fun M2 => (fX4_changeMinds w M2).bind (fun M3 => (fX4_goHour_89 w M3))) else (fX4_goHour_89 w M1))) else (if x2 = x1 then (fX4_goHour_55 w (fun z0 z1 => fX4_goHour_2 w x1 n z0 z1) x1 x2 M) else xchk x2 8 (xchk x2 8 ((fX1_strideFrom (rd (M.2 w)) (M.1 (w + 1) x2.toNatClampNeg) x2 M).bind (fun v4 => xchk x2 8 (xl (up M (w + 1) (x2 : Int32).toNatClampNeg (if ((M.1 (w + 1) x2.toNatClampNeg) + v4) < (M.1 (rd (M.2 w)) 5) then ((M.1 (w + 1) x2.toNatClampNeg) + v4) else (M.1 (rd (M.2 w)) 5))) (fun M5 => (fX4_goHour_55 w (fun z0 z1 => fX4_goHour_2 w x1 n z0 z1) x1 x2 M5))))))))
def fX4_goHour (w : Nat) (x1 : Int32) (M : xm) : Option (xm) := (fX4_goHour_2 w x1 xfuel 0 M)
section
variable {p : Program} {l : Launch} {e : Env} {s : State} {m : MethodId} {args : Array Value} {below : List Frame} {meth : Method} {c : Code} {D : va_G} {cs : Nat → ClassId} {S : List Nat} {ad : Nat → Nat} {w : Nat}
theorem bX4_goHour_55 (Z : CX p s m args meth c cX4_goHour 3 RX4 none D cs (xA S ad) S ad) (hw : xWalk S w) {k2 : Int32 → xm → Option (xm)} (x1 : Int32) (x2 : Int32) (M : xm) (hk2 : ∀ (x2 : Int32) (M : xm), XJ p l e rmX4_goHour s m args below meth c D cs (xA S ad) S ad 3 (XRm below args s D cs S ad) 2 [(0, .ref (ad w)), (1, .int x1), (2, .int x2)] [] M (k2 x2 M)) : XJ p l e rmX4_goHour s m args below meth c D cs (xA S ad) S ad 3 (XRm below args s D cs S ad) 55 [(0, .ref (ad w)), (1, .int x1), (2, .int x2)] [] M (fX4_goHour_55 w k2 x1 x2 M) := by
  unfold fX4_goHour_55
  refine xj_iinc Z 2 (x2 + 1) (lv' := [(2, .int (x2 + 1)), (0, .ref (ad w)), (1, .int x1)]) dX4_goHour_55 rfl rfl (by decide) rfl ?_
  refine xj_goto Z 2 dX4_goHour_58 (by decide) ?_
  refine xj_sub [1, 2, 0] (lv' := [(0, .ref (ad w)), (1, .int x1), (2, .int (x2 + 1))]) rfl ?_
  exact hk2 (x2 + 1) M
theorem bX4_goHour_89 (Z : CX p s m args meth c cX4_goHour 3 RX4 none D cs (xA S ad) S ad) (hw : xWalk S w) (M : xm) : XJ p l e rmX4_goHour s m args below meth c D cs (xA S ad) S ad 3 (XRm below args s D cs S ad) 89 [] [] M (fX4_goHour_89 w M) := by
  unfold fX4_goHour_89
  exact xj_vret Z dX4_goHour_89
theorem bX4_goHour_2 (Z : CX p s m args meth c cX4_goHour 3 RX4 none D cs (xA S ad) S ad) (hw : xWalk S w) (x1 : Int32) : ∀ (n : Nat) (x2 : Int32) (M : xm), XJ p l e rmX4_goHour s m args below meth c D cs (xA S ad) S ad 3 (XRm below args s D cs S ad) 2 [(0, .ref (ad w)), (1, .int x1), (2, .int x2)] [] M (fX4_goHour_2 w x1 n x2 M) := by
  intro n
  induction n with
  | zero => intros; exact xj_none
  | succ n ih =>
    intro x2 M
    rw [fX4_goHour_2]
    refine xj_iload_n Z 2 dX4_goHour_2 rfl rfl ?_
    refine xj_aload_n Z 0 dX4_goHour_3 rfl rfl ?_
    refine xg_X4_28 Z (hw.mem 0 (by decide)) hw.lay dX4_goHour_4 ?_
    refine xg_X4_36 Z ((hw.road (M.2 w)).mem 0 (by decide)) (hw.road (M.2 w)).lay dX4_goHour_7 ?_
    refine xj_icmp_ge Z 61 dX4_goHour_10 (by decide) (fun _ => ?_) (fun _ => ?_)
    · refine xj_aload_n Z 0 dX4_goHour_61 rfl rfl ?_
      refine xj_dup Z dX4_goHour_62 rfl ?_
      refine xg_X4_32 Z (hw.mem 0 (by decide)) hw.lay dX4_goHour_63 ?_
      refine xj_iconst Z 1 dX4_goHour_66 (by decide) ?_
      refine xj_iadd Z dX4_goHour_67 ?_
      refine xp_X4_32 Z (hw.mem 0 (by decide)) hw.lay dX4_goHour_68 (fun M1 _ => ?_)
      refine xj_aload_n Z 0 dX4_goHour_71 rfl rfl ?_
      refine xg_X4_32 Z (hw.mem 0 (by decide)) hw.lay dX4_goHour_72 ?_
      refine xj_bipush Z 8 dX4_goHour_75 (by decide) ?_
      refine xj_irem Z dX4_goHour_77 (by decide) ?_
      refine xj_if_ne Z 89 dX4_goHour_78 (by decide) (fun _ => ?_) (fun _ => ?_)
      · refine xj_sub [] (lv' := []) rfl ?_
        exact bX4_goHour_89 Z hw M1
      · refine xj_aload_n Z 0 dX4_goHour_81 rfl rfl ?_
        refine xj_callVm Z (As := []) (kX4_clearInns l D cs S ad Z.2.2.2.2.2.1.dist hw M1) gw_X4_74 (hw.mem 0 (by decide)) hw.lay rfl (n := 0) (by decide +kernel) rfl ⟨rfl, rfl⟩ (by decide) rfl (Nat.le_of_ble_eq_true rfl) dX4_goHour_82 (fun M2 => ?_)
        refine xj_aload_n Z 0 dX4_goHour_85 rfl rfl ?_
        refine xj_callVm Z (As := []) (kX4_changeMinds l D cs S ad Z.2.2.2.2.2.1.dist hw M2) gw_X4_77 (hw.mem 0 (by decide)) hw.lay rfl (n := 0) (by decide +kernel) rfl ⟨rfl, rfl⟩ (by decide) rfl (Nat.le_of_ble_eq_true rfl) dX4_goHour_86 (fun M3 => ?_)
        refine xj_sub [] (lv' := []) rfl ?_
        exact bX4_goHour_89 Z hw M3
    · refine xj_iload_n Z 2 dX4_goHour_13 rfl rfl ?_
      refine xj_iload_n Z 1 dX4_goHour_14 rfl rfl ?_
      refine xj_icmp_eq Z 55 dX4_goHour_15 (by decide) (fun _ => ?_) (fun _ => ?_)
      · exact bX4_goHour_55 Z hw x1 x2 M ih
      · refine xj_aload_n Z 0 dX4_goHour_18 rfl rfl ?_
        refine xg_X4_9 Z (hw.mem 0 (by decide)) hw.lay dX4_goHour_19 ?_
        refine xj_iload_n Z 2 dX4_goHour_22 rfl rfl ?_
        refine xj_aload_n Z 0 dX4_goHour_23 rfl rfl ?_
        refine xg_X4_28 Z (hw.mem 0 (by decide)) hw.lay dX4_goHour_24 ?_
        refine xg_X4_58 Z ((hw.road (M.2 w)).mem 0 (by decide)) (hw.road (M.2 w)).lay dX4_goHour_27 ?_
        refine xj_aload_n Z 0 dX4_goHour_30 rfl rfl ?_
        refine xg_X4_9 Z (hw.mem 0 (by decide)) hw.lay dX4_goHour_31 ?_
        refine xj_iload_n Z 2 dX4_goHour_34 rfl rfl ?_
        refine xj_iald Z (hw.mem 1 (by decide)) hw.lay1 dX4_goHour_35 (fun _ => ?_)
        refine xj_aload_n Z 0 dX4_goHour_36 rfl rfl ?_
        refine xg_X4_28 Z (hw.mem 0 (by decide)) hw.lay dX4_goHour_37 ?_
        refine xj_aload_n Z 0 dX4_goHour_40 rfl rfl ?_
        refine xg_X4_9 Z (hw.mem 0 (by decide)) hw.lay dX4_goHour_41 ?_
        refine xj_iload_n Z 2 dX4_goHour_44 rfl rfl ?_
        refine xj_iald Z (hw.mem 1 (by decide)) hw.lay1 dX4_goHour_45 (fun _ => ?_)
        refine xj_iload_n Z 2 dX4_goHour_46 rfl rfl ?_
        refine xj_callVr Z (As := [.int (M.1 (w + 1) x2.toNatClampNeg), .int x2]) (kX1_strideFrom l D cs S ad Z.2.2.2.2.2.1.dist (hw.road (M.2 w)) (M.1 (w + 1) x2.toNatClampNeg) x2 M) gw_X4_65 ((hw.road (M.2 w)).mem 0 (by decide)) (hw.road (M.2 w)).lay rfl (n := 2) (by decide +kernel) rfl ⟨rfl, rfl⟩ (by decide) rfl (Nat.le_of_ble_eq_true rfl) dX4_goHour_47 (fun v4 => ?_)
        refine xj_iadd Z dX4_goHour_50 ?_
        refine xj_mmin Z xb_50 xb_51 xb_52 xb_53 ⟨Nat.le_of_ble_eq_true rfl, Nat.le_of_ble_eq_true rfl⟩ dX4_goHour_51 ?_
        refine xj_iast Z (hw.mem 1 (by decide)) hw.lay1 dX4_goHour_54 (fun M5 _ => ?_)
        exact bX4_goHour_55 Z hw x1 x2 M5 ih
end
theorem kX4_goHour (l : Launch) (D : va_G) (cs : Nat → ClassId) (S : List Nat) (ad : Nat → Nat) (hd : xdist S ad) {w : Nat} (hw : xWalk S w) (x1 : Int32) (M : xm) : ∀ r, fX4_goHour w x1 M = some r → Met l yX4_goHour [Cond.code yX4_goHour cX4_goHour 3 none] rmX4_goHour (XPc D cs S ad [.ref (ad w), .int x1] M) (XQv D cs S ad r) 0 0 (xA S ad) := by
  refine xm_m (own := RX4) (lv := [(0, .ref (ad w)), (1, .int x1)]) (by decide +kernel) rfl rfl (Nat.le_of_ble_eq_true rfl) hd (fun p e s m args below meth c Z => ?_)
  unfold fX4_goHour
  refine xj_iconst Z 0 dX4_goHour_0 (by decide) ?_
  refine xj_istore_n Z (lv' := [(2, .int 0), (0, .ref (ad w)), (1, .int x1)]) dX4_goHour_1 rfl (by decide) rfl ?_
  refine xj_sub [1, 2, 0] (lv' := [(0, .ref (ad w)), (1, .int x1), (2, .int 0)]) rfl ?_
  exact bX4_goHour_2 Z hw x1 xfuel 0 M
/-! WalkingLaw$Walk.yesOf(IIII)I -/
theorem dX4_yesOf_0 : decode cX4_yesOf 0 = .ok (.iload 4, 2) := by decide +kernel
theorem dX4_yesOf_2 : decode cX4_yesOf 2 = .ok (.iload_n 1, 1) := by decide +kernel
theorem dX4_yesOf_3 : decode cX4_yesOf 3 = .ok (.aload_n 0, 1) := by decide +kernel
theorem dX4_yesOf_4 : decode cX4_yesOf 4 = .ok (.getfield 15, 3) := by decide +kernel
theorem dX4_yesOf_7 : decode cX4_yesOf 7 = .ok (.iload_n 3, 1) := by decide +kernel
theorem dX4_yesOf_8 : decode cX4_yesOf 8 = .ok (.iaload, 1) := by decide +kernel
theorem dX4_yesOf_9 : decode cX4_yesOf 9 = .ok (.iand, 1) := by decide +kernel
theorem dX4_yesOf_10 : decode cX4_yesOf 10 = .ok (.aload_n 0, 1) := by decide +kernel
theorem dX4_yesOf_11 : decode cX4_yesOf 11 = .ok (.getfield 28, 3) := by decide +kernel
theorem dX4_yesOf_14 : decode cX4_yesOf 14 = .ok (.invokevirtual 111, 3) := by decide +kernel
theorem dX4_yesOf_17 : decode cX4_yesOf 17 = .ok (.iand, 1) := by decide +kernel
theorem dX4_yesOf_18 : decode cX4_yesOf 18 = .ok (.invokestatic 83, 3) := by decide +kernel
theorem dX4_yesOf_21 : decode cX4_yesOf 21 = .ok (.iadd, 1) := by decide +kernel
theorem dX4_yesOf_22 : decode cX4_yesOf 22 = .ok (.istore 5, 2) := by decide +kernel
theorem dX4_yesOf_24 : decode cX4_yesOf 24 = .ok (.iload_n 2, 1) := by decide +kernel
theorem dX4_yesOf_25 : decode cX4_yesOf 25 = .ok (.iconst 2, 1) := by decide +kernel
theorem dX4_yesOf_26 : decode cX4_yesOf 26 = .ok (.irem, 1) := by decide +kernel
theorem dX4_yesOf_27 : decode cX4_yesOf 27 = .ok (.ifCond .ne 22, 3) := by decide +kernel
theorem dX4_yesOf_30 : decode cX4_yesOf 30 = .ok (.iload 5, 2) := by decide +kernel
theorem dX4_yesOf_32 : decode cX4_yesOf 32 = .ok (.iload_n 1, 1) := by decide +kernel
theorem dX4_yesOf_33 : decode cX4_yesOf 33 = .ok (.aload_n 0, 1) := by decide +kernel
theorem dX4_yesOf_34 : decode cX4_yesOf 34 = .ok (.getfield 28, 3) := by decide +kernel
theorem dX4_yesOf_37 : decode cX4_yesOf 37 = .ok (.getfield 115, 3) := by decide +kernel
theorem dX4_yesOf_40 : decode cX4_yesOf 40 = .ok (.iconst 3, 1) := by decide +kernel
theorem dX4_yesOf_41 : decode cX4_yesOf 41 = .ok (.iaload, 1) := by decide +kernel
theorem dX4_yesOf_42 : decode cX4_yesOf 42 = .ok (.iand, 1) := by decide +kernel
theorem dX4_yesOf_43 : decode cX4_yesOf 43 = .ok (.invokestatic 83, 3) := by decide +kernel
theorem dX4_yesOf_46 : decode cX4_yesOf 46 = .ok (.iadd, 1) := by decide +kernel
theorem dX4_yesOf_47 : decode cX4_yesOf 47 = .ok (.istore 5, 2) := by decide +kernel
theorem dX4_yesOf_49 : decode cX4_yesOf 49 = .ok (.iload_n 1, 1) := by decide +kernel
theorem dX4_yesOf_50 : decode cX4_yesOf 50 = .ok (.aload_n 0, 1) := by decide +kernel
theorem dX4_yesOf_51 : decode cX4_yesOf 51 = .ok (.getfield 28, 3) := by decide +kernel
theorem dX4_yesOf_54 : decode cX4_yesOf 54 = .ok (.getfield 115, 3) := by decide +kernel
theorem dX4_yesOf_57 : decode cX4_yesOf 57 = .ok (.iconst 4, 1) := by decide +kernel
theorem dX4_yesOf_58 : decode cX4_yesOf 58 = .ok (.iaload, 1) := by decide +kernel
theorem dX4_yesOf_59 : decode cX4_yesOf 59 = .ok (.iconst (-1), 1) := by decide +kernel
theorem dX4_yesOf_60 : decode cX4_yesOf 60 = .ok (.ixor, 1) := by decide +kernel
theorem dX4_yesOf_61 : decode cX4_yesOf 61 = .ok (.iand, 1) := by decide +kernel
theorem dX4_yesOf_62 : decode cX4_yesOf 62 = .ok (.invokestatic 97, 3) := by decide +kernel
theorem dX4_yesOf_65 : decode cX4_yesOf 65 = .ok (.istore 6, 2) := by decide +kernel
theorem dX4_yesOf_67 : decode cX4_yesOf 67 = .ok (.iload 6, 2) := by decide +kernel
theorem dX4_yesOf_69 : decode cX4_yesOf 69 = .ok (.ifCond .ne 11, 3) := by decide +kernel
theorem dX4_yesOf_72 : decode cX4_yesOf 72 = .ok (.iload 4, 2) := by decide +kernel
theorem dX4_yesOf_74 : decode cX4_yesOf 74 = .ok (.ifCond .le 37, 3) := by decide +kernel
theorem dX4_yesOf_77 : decode cX4_yesOf 77 = .ok (.goto 15, 3) := by decide +kernel
theorem dX4_yesOf_80 : decode cX4_yesOf 80 = .ok (.iload 6, 2) := by decide +kernel
theorem dX4_yesOf_82 : decode cX4_yesOf 82 = .ok (.aload_n 0, 1) := by decide +kernel
theorem dX4_yesOf_83 : decode cX4_yesOf 83 = .ok (.getfield 15, 3) := by decide +kernel
theorem dX4_yesOf_86 : decode cX4_yesOf 86 = .ok (.iload_n 3, 1) := by decide +kernel
theorem dX4_yesOf_87 : decode cX4_yesOf 87 = .ok (.iaload, 1) := by decide +kernel
theorem dX4_yesOf_88 : decode cX4_yesOf 88 = .ok (.iand, 1) := by decide +kernel
theorem dX4_yesOf_89 : decode cX4_yesOf 89 = .ok (.ifCond .eq 22, 3) := by decide +kernel
theorem dX4_yesOf_92 : decode cX4_yesOf 92 = .ok (.iload 5, 2) := by decide +kernel
theorem dX4_yesOf_94 : decode cX4_yesOf 94 = .ok (.iload_n 1, 1) := by decide +kernel
theorem dX4_yesOf_95 : decode cX4_yesOf 95 = .ok (.aload_n 0, 1) := by decide +kernel
theorem dX4_yesOf_96 : decode cX4_yesOf 96 = .ok (.getfield 28, 3) := by decide +kernel
theorem dX4_yesOf_99 : decode cX4_yesOf 99 = .ok (.getfield 115, 3) := by decide +kernel
theorem dX4_yesOf_102 : decode cX4_yesOf 102 = .ok (.iconst 4, 1) := by decide +kernel
theorem dX4_yesOf_103 : decode cX4_yesOf 103 = .ok (.iaload, 1) := by decide +kernel
theorem dX4_yesOf_104 : decode cX4_yesOf 104 = .ok (.iand, 1) := by decide +kernel
theorem dX4_yesOf_105 : decode cX4_yesOf 105 = .ok (.invokestatic 83, 3) := by decide +kernel
theorem dX4_yesOf_108 : decode cX4_yesOf 108 = .ok (.iadd, 1) := by decide +kernel
theorem dX4_yesOf_109 : decode cX4_yesOf 109 = .ok (.istore 5, 2) := by decide +kernel
theorem dX4_yesOf_111 : decode cX4_yesOf 111 = .ok (.iload 5, 2) := by decide +kernel
theorem dX4_yesOf_113 : decode cX4_yesOf 113 = .ok (.ireturn, 1) := by decide +kernel
def rmX4_yesOf : Room := { frames := 1, cells := 0, slots := 0, locals := 20 }
def fX4_yesOf_111 (w : Nat) (x5 : Int32) (M : xm) : Option (Int32) := (some x5)
def fX4_yesOf_92 (w : Nat) (x1 : Int32) (x5 : Int32) (M : xm) : Option (Int32) := xchk 4 6 ((fJ6_bitCount_0f7a4 (x1 &&& (M.1 ((rd (M.2 w)) + 8) (4 : Int32).toNatClampNeg)) M).bind (fun v1 => xl (x5 + v1) (fun v2 => (fX4_yesOf_111 w v2 M))))
def fX4_yesOf_49 (w : Nat) (x1 : Int32) (x3 : Int32) (x4 : Int32) (x5 : Int32) (M : xm) : Option (Int32) := xchk 4 6 ((fX5_lowestOf (x1 &&& ((M.1 ((rd (M.2 w)) + 8) (4 : Int32).toNatClampNeg) ^^^ (-1))) M).bind (fun v3 => (if v3 = 0 then (if x4 ≤ 0 then (fX4_yesOf_111 w x5 M) else (fX4_yesOf_92 w x1 x5 M)) else xchk x3 4 ((if (v3 &&& (M.1 (w + 2) x3.toNatClampNeg)) = 0 then (fX4_yesOf_111 w x5 M) else (fX4_yesOf_92 w x1 x5 M))))))
def fX4_yesOf (w : Nat) (x1 : Int32) (x2 : Int32) (x3 : Int32) (x4 : Int32) (M : xm) : Option (Int32) := xchk x3 4 ((fX1_outspoken (rd (M.2 w)) M).bind (fun v4 => (fJ6_bitCount_0f7a4 ((x1 &&& (M.1 (w + 2) x3.toNatClampNeg)) &&& v4) M).bind (fun v5 => xl (x4 + v5) (fun v6 => (if (x2 - x2 / 2 * 2) = 0 then xchk 3 6 ((fJ6_bitCount_0f7a4 (x1 &&& (M.1 ((rd (M.2 w)) + 8) (3 : Int32).toNatClampNeg)) M).bind (fun v7 => xl (v6 + v7) (fun v8 => (fX4_yesOf_49 w x1 x3 x4 v8 M)))) else (fX4_yesOf_49 w x1 x3 x4 v6 M))))))
section
variable {p : Program} {l : Launch} {e : Env} {s : State} {m : MethodId} {args : Array Value} {below : List Frame} {meth : Method} {c : Code} {D : va_G} {cs : Nat → ClassId} {S : List Nat} {ad : Nat → Nat} {w : Nat}
theorem bX4_yesOf_111 (Z : CX p s m args meth c cX4_yesOf 7 RX4 (some .int) D cs (xA S ad) S ad) (hw : xWalk S w) (x5 : Int32) (M : xm) : XJ p l e rmX4_yesOf s m args below meth c D cs (xA S ad) S ad 7 (XRr below args s D cs S ad M) 111 [(5, .int x5)] [] M (fX4_yesOf_111 w x5 M) := by
  unfold fX4_yesOf_111
  refine xj_iload Z 0 dX4_yesOf_111 rfl ?_
  exact xj_ret_r Z dX4_yesOf_113
theorem bX4_yesOf_92 (Z : CX p s m args meth c cX4_yesOf 7 RX4 (some .int) D cs (xA S ad) S ad) (hw : xWalk S w) (x1 : Int32) (x5 : Int32) (M : xm) : XJ p l e rmX4_yesOf s m args below meth c D cs (xA S ad) S ad 7 (XRr below args s D cs S ad M) 92 [(0, .ref (ad w)), (1, .int x1), (5, .int x5)] [] M (fX4_yesOf_92 w x1 x5 M) := by
  unfold fX4_yesOf_92
  refine xj_iload Z 2 dX4_yesOf_92 rfl ?_
  refine xj_iload_n Z 1 dX4_yesOf_94 rfl rfl ?_
  refine xj_aload_n Z 0 dX4_yesOf_95 rfl rfl ?_
  refine xg_X4_28 Z (hw.mem 0 (by decide)) hw.lay dX4_yesOf_96 ?_
  refine xg_X4_115 Z ((hw.road (M.2 w)).mem 0 (by decide)) (hw.road (M.2 w)).lay dX4_yesOf_99 ?_
  refine xj_iconst Z 4 dX4_yesOf_102 (by decide) ?_
  refine xj_iald Z ((hw.road (M.2 w)).mem 8 (by decide)) (hw.road (M.2 w)).lay8 dX4_yesOf_103 (fun _ => ?_)
  refine xj_iand Z dX4_yesOf_104 ?_
  refine xj_callSr Z (As := [.int (x1 &&& (M.1 ((rd (M.2 w)) + 8) (4 : Int32).toNatClampNeg))]) (kJ6_bitCount_0f7a4 l D cs S ad Z.2.2.2.2.2.1.dist (x1 &&& (M.1 ((rd (M.2 w)) + 8) (4 : Int32).toNatClampNeg)) M) gw_X4_83 (n := 1) (by decide +kernel) rfl ⟨rfl, rfl⟩ (by decide) rfl (Nat.le_of_ble_eq_true rfl) dX4_yesOf_105 (fun v1 => ?_)
  refine xj_iadd Z dX4_yesOf_108 ?_
  refine xj_top (fun v2 => ?_)
  refine xj_istore Z (lv' := [(5, .int v2), (0, .ref (ad w)), (1, .int x1)]) dX4_yesOf_109 (by decide) rfl ?_
  refine xj_sub [0] (lv' := [(5, .int v2)]) rfl ?_
  exact bX4_yesOf_111 Z hw v2 M
theorem bX4_yesOf_49 (Z : CX p s m args meth c cX4_yesOf 7 RX4 (some .int) D cs (xA S ad) S ad) (hw : xWalk S w) (x1 : Int32) (x3 : Int32) (x4 : Int32) (x5 : Int32) (M : xm) : XJ p l e rmX4_yesOf s m args below meth c D cs (xA S ad) S ad 7 (XRr below args s D cs S ad M) 49 [(0, .ref (ad w)), (1, .int x1), (3, .int x3), (4, .int x4), (5, .int x5)] [] M (fX4_yesOf_49 w x1 x3 x4 x5 M) := by
  unfold fX4_yesOf_49
  refine xj_iload_n Z 1 dX4_yesOf_49 rfl rfl ?_
  refine xj_aload_n Z 0 dX4_yesOf_50 rfl rfl ?_
  refine xg_X4_28 Z (hw.mem 0 (by decide)) hw.lay dX4_yesOf_51 ?_
  refine xg_X4_115 Z ((hw.road (M.2 w)).mem 0 (by decide)) (hw.road (M.2 w)).lay dX4_yesOf_54 ?_
  refine xj_iconst Z 4 dX4_yesOf_57 (by decide) ?_
  refine xj_iald Z ((hw.road (M.2 w)).mem 8 (by decide)) (hw.road (M.2 w)).lay8 dX4_yesOf_58 (fun _ => ?_)
  refine xj_iconst Z (-1) dX4_yesOf_59 (by decide) ?_
  refine xj_ixor Z dX4_yesOf_60 ?_
  refine xj_iand Z dX4_yesOf_61 ?_
  refine xj_callNr Z (As := [.int (x1 &&& ((M.1 ((rd (M.2 w)) + 8) (4 : Int32).toNatClampNeg) ^^^ (-1)))]) (kX5_lowestOf l D cs S ad Z.2.2.2.2.2.1.dist (x1 &&& ((M.1 ((rd (M.2 w)) + 8) (4 : Int32).toNatClampNeg) ^^^ (-1))) M) gw_X4_97 gn_X4_97 xb_44 xb_45 (n := 1) (by decide +kernel) rfl ⟨rfl, rfl⟩ (by decide) rfl (Nat.le_of_ble_eq_true rfl) dX4_yesOf_62 (fun v3 => ?_)
  refine xj_istore Z (lv' := [(6, .int v3), (0, .ref (ad w)), (1, .int x1), (3, .int x3), (4, .int x4), (5, .int x5)]) dX4_yesOf_65 (by decide) rfl ?_
  refine xj_iload Z 0 dX4_yesOf_67 rfl ?_
  refine xj_if_ne Z 80 dX4_yesOf_69 (by decide) (fun _ => ?_) (fun _ => ?_)
  · refine xj_iload Z 0 dX4_yesOf_80 rfl ?_
    refine xj_aload_n Z 1 dX4_yesOf_82 rfl rfl ?_
    refine xg_X4_15 Z (hw.mem 0 (by decide)) hw.lay dX4_yesOf_83 ?_
    refine xj_iload_n Z 3 dX4_yesOf_86 rfl rfl ?_
    refine xj_iald Z (hw.mem 2 (by decide)) hw.lay2 dX4_yesOf_87 (fun _ => ?_)
    refine xj_iand Z dX4_yesOf_88 ?_
    refine xj_if_eq Z 111 dX4_yesOf_89 (by decide) (fun _ => ?_) (fun _ => ?_)
    · refine xj_sub [5] (lv' := [(5, .int x5)]) rfl ?_
      exact bX4_yesOf_111 Z hw x5 M
    · refine xj_sub [1, 2, 5] (lv' := [(0, .ref (ad w)), (1, .int x1), (5, .int x5)]) rfl ?_
      exact bX4_yesOf_92 Z hw x1 x5 M
  · refine xj_iload Z 4 dX4_yesOf_72 rfl ?_
    refine xj_if_le Z 111 dX4_yesOf_74 (by decide) (fun _ => ?_) (fun _ => ?_)
    · refine xj_sub [5] (lv' := [(5, .int x5)]) rfl ?_
      exact bX4_yesOf_111 Z hw x5 M
    · refine xj_goto Z 92 dX4_yesOf_77 (by decide) ?_
      refine xj_sub [1, 2, 5] (lv' := [(0, .ref (ad w)), (1, .int x1), (5, .int x5)]) rfl ?_
      exact bX4_yesOf_92 Z hw x1 x5 M
end
theorem kX4_yesOf (l : Launch) (D : va_G) (cs : Nat → ClassId) (S : List Nat) (ad : Nat → Nat) (hd : xdist S ad) {w : Nat} (hw : xWalk S w) (x1 : Int32) (x2 : Int32) (x3 : Int32) (x4 : Int32) (M : xm) : ∀ r, fX4_yesOf w x1 x2 x3 x4 M = some r → Met l yX4_yesOf [Cond.code yX4_yesOf cX4_yesOf 7 (some .int)] rmX4_yesOf (XPc D cs S ad [.ref (ad w), .int x1, .int x2, .int x3, .int x4] M) (XQi D cs S ad r M) 0 0 (xA S ad) := by
  refine xm_r (own := RX4) (lv := [(0, .ref (ad w)), (1, .int x1), (2, .int x2), (3, .int x3), (4, .int x4)]) (by decide +kernel) rfl rfl (Nat.le_of_ble_eq_true rfl) hd (fun p e s m args below meth c Z => ?_)
  unfold fX4_yesOf
  refine xj_iload Z 4 dX4_yesOf_0 rfl ?_
  refine xj_iload_n Z 1 dX4_yesOf_2 rfl rfl ?_
  refine xj_aload_n Z 0 dX4_yesOf_3 rfl rfl ?_
  refine xg_X4_15 Z (hw.mem 0 (by decide)) hw.lay dX4_yesOf_4 ?_
  refine xj_iload_n Z 3 dX4_yesOf_7 rfl rfl ?_
  refine xj_iald Z (hw.mem 2 (by decide)) hw.lay2 dX4_yesOf_8 (fun _ => ?_)
  refine xj_iand Z dX4_yesOf_9 ?_
  refine xj_aload_n Z 0 dX4_yesOf_10 rfl rfl ?_
  refine xg_X4_28 Z (hw.mem 0 (by decide)) hw.lay dX4_yesOf_11 ?_
  refine xj_callVr Z (As := []) (kX1_outspoken l D cs S ad Z.2.2.2.2.2.1.dist (hw.road (M.2 w)) M) gw_X4_111 ((hw.road (M.2 w)).mem 0 (by decide)) (hw.road (M.2 w)).lay rfl (n := 0) (by decide +kernel) rfl ⟨rfl, rfl⟩ (by decide) rfl (Nat.le_of_ble_eq_true rfl) dX4_yesOf_14 (fun v4 => ?_)
  refine xj_iand Z dX4_yesOf_17 ?_
  refine xj_callSr Z (As := [.int ((x1 &&& (M.1 (w + 2) x3.toNatClampNeg)) &&& v4)]) (kJ6_bitCount_0f7a4 l D cs S ad Z.2.2.2.2.2.1.dist ((x1 &&& (M.1 (w + 2) x3.toNatClampNeg)) &&& v4) M) gw_X4_83 (n := 1) (by decide +kernel) rfl ⟨rfl, rfl⟩ (by decide) rfl (Nat.le_of_ble_eq_true rfl) dX4_yesOf_18 (fun v5 => ?_)
  refine xj_iadd Z dX4_yesOf_21 ?_
  refine xj_top (fun v6 => ?_)
  refine xj_istore Z (lv' := [(5, .int v6), (0, .ref (ad w)), (1, .int x1), (2, .int x2), (3, .int x3), (4, .int x4)]) dX4_yesOf_22 (by decide) rfl ?_
  refine xj_iload_n Z 3 dX4_yesOf_24 rfl rfl ?_
  refine xj_iconst Z 2 dX4_yesOf_25 (by decide) ?_
  refine xj_irem Z dX4_yesOf_26 (by decide) ?_
  refine xj_if_ne Z 49 dX4_yesOf_27 (by decide) (fun _ => ?_) (fun _ => ?_)
  · refine xj_sub [1, 2, 4, 5, 0] (lv' := [(0, .ref (ad w)), (1, .int x1), (3, .int x3), (4, .int x4), (5, .int v6)]) rfl ?_
    exact bX4_yesOf_49 Z hw x1 x3 x4 v6 M
  · refine xj_iload Z 0 dX4_yesOf_30 rfl ?_
    refine xj_iload_n Z 2 dX4_yesOf_32 rfl rfl ?_
    refine xj_aload_n Z 1 dX4_yesOf_33 rfl rfl ?_
    refine xg_X4_28 Z (hw.mem 0 (by decide)) hw.lay dX4_yesOf_34 ?_
    refine xg_X4_115 Z ((hw.road (M.2 w)).mem 0 (by decide)) (hw.road (M.2 w)).lay dX4_yesOf_37 ?_
    refine xj_iconst Z 3 dX4_yesOf_40 (by decide) ?_
    refine xj_iald Z ((hw.road (M.2 w)).mem 8 (by decide)) (hw.road (M.2 w)).lay8 dX4_yesOf_41 (fun _ => ?_)
    refine xj_iand Z dX4_yesOf_42 ?_
    refine xj_callSr Z (As := [.int (x1 &&& (M.1 ((rd (M.2 w)) + 8) (3 : Int32).toNatClampNeg))]) (kJ6_bitCount_0f7a4 l D cs S ad Z.2.2.2.2.2.1.dist (x1 &&& (M.1 ((rd (M.2 w)) + 8) (3 : Int32).toNatClampNeg)) M) gw_X4_83 (n := 1) (by decide +kernel) rfl ⟨rfl, rfl⟩ (by decide) rfl (Nat.le_of_ble_eq_true rfl) dX4_yesOf_43 (fun v7 => ?_)
    refine xj_iadd Z dX4_yesOf_46 ?_
    refine xj_top (fun v8 => ?_)
    refine xj_istore Z (lv' := [(5, .int v8), (0, .ref (ad w)), (1, .int x1), (2, .int x2), (3, .int x3), (4, .int x4)]) dX4_yesOf_47 (by decide) rfl ?_
    refine xj_sub [1, 2, 4, 5, 0] (lv' := [(0, .ref (ad w)), (1, .int x1), (3, .int x3), (4, .int x4), (5, .int v8)]) rfl ?_
    exact bX4_yesOf_49 Z hw x1 x3 x4 v8 M
/-! WalkingLaw$Walk.noOf(III)I -/
theorem dX4_noOf_0 : decode cX4_noOf 0 = .ok (.iload_n 1, 1) := by decide +kernel
theorem dX4_noOf_1 : decode cX4_noOf 1 = .ok (.aload_n 0, 1) := by decide +kernel
theorem dX4_noOf_2 : decode cX4_noOf 2 = .ok (.getfield 15, 3) := by decide +kernel
theorem dX4_noOf_5 : decode cX4_noOf 5 = .ok (.iload_n 3, 1) := by decide +kernel
theorem dX4_noOf_6 : decode cX4_noOf 6 = .ok (.iaload, 1) := by decide +kernel
theorem dX4_noOf_7 : decode cX4_noOf 7 = .ok (.iconst (-1), 1) := by decide +kernel
theorem dX4_noOf_8 : decode cX4_noOf 8 = .ok (.ixor, 1) := by decide +kernel
theorem dX4_noOf_9 : decode cX4_noOf 9 = .ok (.iand, 1) := by decide +kernel
theorem dX4_noOf_10 : decode cX4_noOf 10 = .ok (.aload_n 0, 1) := by decide +kernel
theorem dX4_noOf_11 : decode cX4_noOf 11 = .ok (.getfield 28, 3) := by decide +kernel
theorem dX4_noOf_14 : decode cX4_noOf 14 = .ok (.invokevirtual 111, 3) := by decide +kernel
theorem dX4_noOf_17 : decode cX4_noOf 17 = .ok (.iand, 1) := by decide +kernel
theorem dX4_noOf_18 : decode cX4_noOf 18 = .ok (.invokestatic 83, 3) := by decide +kernel
theorem dX4_noOf_21 : decode cX4_noOf 21 = .ok (.istore 4, 2) := by decide +kernel
theorem dX4_noOf_23 : decode cX4_noOf 23 = .ok (.iload_n 2, 1) := by decide +kernel
theorem dX4_noOf_24 : decode cX4_noOf 24 = .ok (.iconst 2, 1) := by decide +kernel
theorem dX4_noOf_25 : decode cX4_noOf 25 = .ok (.irem, 1) := by decide +kernel
theorem dX4_noOf_26 : decode cX4_noOf 26 = .ok (.ifCond .eq 22, 3) := by decide +kernel
theorem dX4_noOf_29 : decode cX4_noOf 29 = .ok (.iload 4, 2) := by decide +kernel
theorem dX4_noOf_31 : decode cX4_noOf 31 = .ok (.iload_n 1, 1) := by decide +kernel
theorem dX4_noOf_32 : decode cX4_noOf 32 = .ok (.aload_n 0, 1) := by decide +kernel
theorem dX4_noOf_33 : decode cX4_noOf 33 = .ok (.getfield 28, 3) := by decide +kernel
theorem dX4_noOf_36 : decode cX4_noOf 36 = .ok (.getfield 115, 3) := by decide +kernel
theorem dX4_noOf_39 : decode cX4_noOf 39 = .ok (.iconst 3, 1) := by decide +kernel
theorem dX4_noOf_40 : decode cX4_noOf 40 = .ok (.iaload, 1) := by decide +kernel
theorem dX4_noOf_41 : decode cX4_noOf 41 = .ok (.iand, 1) := by decide +kernel
theorem dX4_noOf_42 : decode cX4_noOf 42 = .ok (.invokestatic 83, 3) := by decide +kernel
theorem dX4_noOf_45 : decode cX4_noOf 45 = .ok (.iadd, 1) := by decide +kernel
theorem dX4_noOf_46 : decode cX4_noOf 46 = .ok (.istore 4, 2) := by decide +kernel
theorem dX4_noOf_48 : decode cX4_noOf 48 = .ok (.iload_n 1, 1) := by decide +kernel
theorem dX4_noOf_49 : decode cX4_noOf 49 = .ok (.aload_n 0, 1) := by decide +kernel
theorem dX4_noOf_50 : decode cX4_noOf 50 = .ok (.getfield 28, 3) := by decide +kernel
theorem dX4_noOf_53 : decode cX4_noOf 53 = .ok (.getfield 115, 3) := by decide +kernel
theorem dX4_noOf_56 : decode cX4_noOf 56 = .ok (.iconst 4, 1) := by decide +kernel
theorem dX4_noOf_57 : decode cX4_noOf 57 = .ok (.iaload, 1) := by decide +kernel
theorem dX4_noOf_58 : decode cX4_noOf 58 = .ok (.iconst (-1), 1) := by decide +kernel
theorem dX4_noOf_59 : decode cX4_noOf 59 = .ok (.ixor, 1) := by decide +kernel
theorem dX4_noOf_60 : decode cX4_noOf 60 = .ok (.iand, 1) := by decide +kernel
theorem dX4_noOf_61 : decode cX4_noOf 61 = .ok (.invokestatic 97, 3) := by decide +kernel
theorem dX4_noOf_64 : decode cX4_noOf 64 = .ok (.istore 5, 2) := by decide +kernel
theorem dX4_noOf_66 : decode cX4_noOf 66 = .ok (.iload 5, 2) := by decide +kernel
theorem dX4_noOf_68 : decode cX4_noOf 68 = .ok (.aload_n 0, 1) := by decide +kernel
theorem dX4_noOf_69 : decode cX4_noOf 69 = .ok (.getfield 15, 3) := by decide +kernel
theorem dX4_noOf_72 : decode cX4_noOf 72 = .ok (.iload_n 3, 1) := by decide +kernel
theorem dX4_noOf_73 : decode cX4_noOf 73 = .ok (.iaload, 1) := by decide +kernel
theorem dX4_noOf_74 : decode cX4_noOf 74 = .ok (.iconst (-1), 1) := by decide +kernel
theorem dX4_noOf_75 : decode cX4_noOf 75 = .ok (.ixor, 1) := by decide +kernel
theorem dX4_noOf_76 : decode cX4_noOf 76 = .ok (.iand, 1) := by decide +kernel
theorem dX4_noOf_77 : decode cX4_noOf 77 = .ok (.ifCond .eq 22, 3) := by decide +kernel
theorem dX4_noOf_80 : decode cX4_noOf 80 = .ok (.iload 4, 2) := by decide +kernel
theorem dX4_noOf_82 : decode cX4_noOf 82 = .ok (.iload_n 1, 1) := by decide +kernel
theorem dX4_noOf_83 : decode cX4_noOf 83 = .ok (.aload_n 0, 1) := by decide +kernel
theorem dX4_noOf_84 : decode cX4_noOf 84 = .ok (.getfield 28, 3) := by decide +kernel
theorem dX4_noOf_87 : decode cX4_noOf 87 = .ok (.getfield 115, 3) := by decide +kernel
theorem dX4_noOf_90 : decode cX4_noOf 90 = .ok (.iconst 4, 1) := by decide +kernel
theorem dX4_noOf_91 : decode cX4_noOf 91 = .ok (.iaload, 1) := by decide +kernel
theorem dX4_noOf_92 : decode cX4_noOf 92 = .ok (.iand, 1) := by decide +kernel
theorem dX4_noOf_93 : decode cX4_noOf 93 = .ok (.invokestatic 83, 3) := by decide +kernel
theorem dX4_noOf_96 : decode cX4_noOf 96 = .ok (.iadd, 1) := by decide +kernel
theorem dX4_noOf_97 : decode cX4_noOf 97 = .ok (.istore 4, 2) := by decide +kernel
theorem dX4_noOf_99 : decode cX4_noOf 99 = .ok (.iload 4, 2) := by decide +kernel
theorem dX4_noOf_101 : decode cX4_noOf 101 = .ok (.ireturn, 1) := by decide +kernel
def rmX4_noOf : Room := { frames := 1, cells := 0, slots := 0, locals := 20 }
def fX4_noOf_99 (w : Nat) (x4 : Int32) (M : xm) : Option (Int32) := (some x4)
def fX4_noOf_48 (w : Nat) (x1 : Int32) (x3 : Int32) (x4 : Int32) (M : xm) : Option (Int32) := xchk 4 6 ((fX5_lowestOf (x1 &&& ((M.1 ((rd (M.2 w)) + 8) (4 : Int32).toNatClampNeg) ^^^ (-1))) M).bind (fun v1 => xchk x3 4 ((if (v1 &&& ((M.1 (w + 2) x3.toNatClampNeg) ^^^ (-1))) = 0 then (fX4_noOf_99 w x4 M) else xchk 4 6 ((fJ6_bitCount_0f7a4 (x1 &&& (M.1 ((rd (M.2 w)) + 8) (4 : Int32).toNatClampNeg)) M).bind (fun v2 => xl (x4 + v2) (fun v3 => (fX4_noOf_99 w v3 M))))))))
def fX4_noOf (w : Nat) (x1 : Int32) (x2 : Int32) (x3 : Int32) (M : xm) : Option (Int32) := xchk x3 4 ((fX1_outspoken (rd (M.2 w)) M).bind (fun v4 => (fJ6_bitCount_0f7a4 ((x1 &&& ((M.1 (w + 2) x3.toNatClampNeg) ^^^ (-1))) &&& v4) M).bind (fun v5 => (if (x2 - x2 / 2 * 2) = 0 then (fX4_noOf_48 w x1 x3 v5 M) else xchk 3 6 ((fJ6_bitCount_0f7a4 (x1 &&& (M.1 ((rd (M.2 w)) + 8) (3 : Int32).toNatClampNeg)) M).bind (fun v6 => xl (v5 + v6) (fun v7 => (fX4_noOf_48 w x1 x3 v7 M))))))))
section
variable {p : Program} {l : Launch} {e : Env} {s : State} {m : MethodId} {args : Array Value} {below : List Frame} {meth : Method} {c : Code} {D : va_G} {cs : Nat → ClassId} {S : List Nat} {ad : Nat → Nat} {w : Nat}
theorem bX4_noOf_99 (Z : CX p s m args meth c cX4_noOf 6 RX4 (some .int) D cs (xA S ad) S ad) (hw : xWalk S w) (x4 : Int32) (M : xm) : XJ p l e rmX4_noOf s m args below meth c D cs (xA S ad) S ad 6 (XRr below args s D cs S ad M) 99 [(4, .int x4)] [] M (fX4_noOf_99 w x4 M) := by
  unfold fX4_noOf_99
  refine xj_iload Z 0 dX4_noOf_99 rfl ?_
  exact xj_ret_r Z dX4_noOf_101
theorem bX4_noOf_48 (Z : CX p s m args meth c cX4_noOf 6 RX4 (some .int) D cs (xA S ad) S ad) (hw : xWalk S w) (x1 : Int32) (x3 : Int32) (x4 : Int32) (M : xm) : XJ p l e rmX4_noOf s m args below meth c D cs (xA S ad) S ad 6 (XRr below args s D cs S ad M) 48 [(0, .ref (ad w)), (1, .int x1), (3, .int x3), (4, .int x4)] [] M (fX4_noOf_48 w x1 x3 x4 M) := by
  unfold fX4_noOf_48
  refine xj_iload_n Z 1 dX4_noOf_48 rfl rfl ?_
  refine xj_aload_n Z 0 dX4_noOf_49 rfl rfl ?_
  refine xg_X4_28 Z (hw.mem 0 (by decide)) hw.lay dX4_noOf_50 ?_
  refine xg_X4_115 Z ((hw.road (M.2 w)).mem 0 (by decide)) (hw.road (M.2 w)).lay dX4_noOf_53 ?_
  refine xj_iconst Z 4 dX4_noOf_56 (by decide) ?_
  refine xj_iald Z ((hw.road (M.2 w)).mem 8 (by decide)) (hw.road (M.2 w)).lay8 dX4_noOf_57 (fun _ => ?_)
  refine xj_iconst Z (-1) dX4_noOf_58 (by decide) ?_
  refine xj_ixor Z dX4_noOf_59 ?_
  refine xj_iand Z dX4_noOf_60 ?_
  refine xj_callNr Z (As := [.int (x1 &&& ((M.1 ((rd (M.2 w)) + 8) (4 : Int32).toNatClampNeg) ^^^ (-1)))]) (kX5_lowestOf l D cs S ad Z.2.2.2.2.2.1.dist (x1 &&& ((M.1 ((rd (M.2 w)) + 8) (4 : Int32).toNatClampNeg) ^^^ (-1))) M) gw_X4_97 gn_X4_97 xb_44 xb_45 (n := 1) (by decide +kernel) rfl ⟨rfl, rfl⟩ (by decide) rfl (Nat.le_of_ble_eq_true rfl) dX4_noOf_61 (fun v1 => ?_)
  refine xj_istore Z (lv' := [(5, .int v1), (0, .ref (ad w)), (1, .int x1), (3, .int x3), (4, .int x4)]) dX4_noOf_64 (by decide) rfl ?_
  refine xj_iload Z 0 dX4_noOf_66 rfl ?_
  refine xj_aload_n Z 1 dX4_noOf_68 rfl rfl ?_
  refine xg_X4_15 Z (hw.mem 0 (by decide)) hw.lay dX4_noOf_69 ?_
  refine xj_iload_n Z 3 dX4_noOf_72 rfl rfl ?_
  refine xj_iald Z (hw.mem 2 (by decide)) hw.lay2 dX4_noOf_73 (fun _ => ?_)
  refine xj_iconst Z (-1) dX4_noOf_74 (by decide) ?_
  refine xj_ixor Z dX4_noOf_75 ?_
  refine xj_iand Z dX4_noOf_76 ?_
  refine xj_if_eq Z 99 dX4_noOf_77 (by decide) (fun _ => ?_) (fun _ => ?_)
  · refine xj_sub [4] (lv' := [(4, .int x4)]) rfl ?_
    exact bX4_noOf_99 Z hw x4 M
  · refine xj_iload Z 4 dX4_noOf_80 rfl ?_
    refine xj_iload_n Z 2 dX4_noOf_82 rfl rfl ?_
    refine xj_aload_n Z 1 dX4_noOf_83 rfl rfl ?_
    refine xg_X4_28 Z (hw.mem 0 (by decide)) hw.lay dX4_noOf_84 ?_
    refine xg_X4_115 Z ((hw.road (M.2 w)).mem 0 (by decide)) (hw.road (M.2 w)).lay dX4_noOf_87 ?_
    refine xj_iconst Z 4 dX4_noOf_90 (by decide) ?_
    refine xj_iald Z ((hw.road (M.2 w)).mem 8 (by decide)) (hw.road (M.2 w)).lay8 dX4_noOf_91 (fun _ => ?_)
    refine xj_iand Z dX4_noOf_92 ?_
    refine xj_callSr Z (As := [.int (x1 &&& (M.1 ((rd (M.2 w)) + 8) (4 : Int32).toNatClampNeg))]) (kJ6_bitCount_0f7a4 l D cs S ad Z.2.2.2.2.2.1.dist (x1 &&& (M.1 ((rd (M.2 w)) + 8) (4 : Int32).toNatClampNeg)) M) gw_X4_83 (n := 1) (by decide +kernel) rfl ⟨rfl, rfl⟩ (by decide) rfl (Nat.le_of_ble_eq_true rfl) dX4_noOf_93 (fun v2 => ?_)
    refine xj_iadd Z dX4_noOf_96 ?_
    refine xj_top (fun v3 => ?_)
    refine xj_istore Z (lv' := [(4, .int v3), (5, .int v1), (0, .ref (ad w)), (1, .int x1), (3, .int x3)]) dX4_noOf_97 (by decide) rfl ?_
    refine xj_sub [0] (lv' := [(4, .int v3)]) rfl ?_
    exact bX4_noOf_99 Z hw v3 M
end
theorem kX4_noOf (l : Launch) (D : va_G) (cs : Nat → ClassId) (S : List Nat) (ad : Nat → Nat) (hd : xdist S ad) {w : Nat} (hw : xWalk S w) (x1 : Int32) (x2 : Int32) (x3 : Int32) (M : xm) : ∀ r, fX4_noOf w x1 x2 x3 M = some r → Met l yX4_noOf [Cond.code yX4_noOf cX4_noOf 6 (some .int)] rmX4_noOf (XPc D cs S ad [.ref (ad w), .int x1, .int x2, .int x3] M) (XQi D cs S ad r M) 0 0 (xA S ad) := by
  refine xm_r (own := RX4) (lv := [(0, .ref (ad w)), (1, .int x1), (2, .int x2), (3, .int x3)]) (by decide +kernel) rfl rfl (Nat.le_of_ble_eq_true rfl) hd (fun p e s m args below meth c Z => ?_)
  unfold fX4_noOf
  refine xj_iload_n Z 1 dX4_noOf_0 rfl rfl ?_
  refine xj_aload_n Z 0 dX4_noOf_1 rfl rfl ?_
  refine xg_X4_15 Z (hw.mem 0 (by decide)) hw.lay dX4_noOf_2 ?_
  refine xj_iload_n Z 3 dX4_noOf_5 rfl rfl ?_
  refine xj_iald Z (hw.mem 2 (by decide)) hw.lay2 dX4_noOf_6 (fun _ => ?_)
  refine xj_iconst Z (-1) dX4_noOf_7 (by decide) ?_
  refine xj_ixor Z dX4_noOf_8 ?_
  refine xj_iand Z dX4_noOf_9 ?_
  refine xj_aload_n Z 0 dX4_noOf_10 rfl rfl ?_
  refine xg_X4_28 Z (hw.mem 0 (by decide)) hw.lay dX4_noOf_11 ?_
  refine xj_callVr Z (As := []) (kX1_outspoken l D cs S ad Z.2.2.2.2.2.1.dist (hw.road (M.2 w)) M) gw_X4_111 ((hw.road (M.2 w)).mem 0 (by decide)) (hw.road (M.2 w)).lay rfl (n := 0) (by decide +kernel) rfl ⟨rfl, rfl⟩ (by decide) rfl (Nat.le_of_ble_eq_true rfl) dX4_noOf_14 (fun v4 => ?_)
  refine xj_iand Z dX4_noOf_17 ?_
  refine xj_callSr Z (As := [.int ((x1 &&& ((M.1 (w + 2) x3.toNatClampNeg) ^^^ (-1))) &&& v4)]) (kJ6_bitCount_0f7a4 l D cs S ad Z.2.2.2.2.2.1.dist ((x1 &&& ((M.1 (w + 2) x3.toNatClampNeg) ^^^ (-1))) &&& v4) M) gw_X4_83 (n := 1) (by decide +kernel) rfl ⟨rfl, rfl⟩ (by decide) rfl (Nat.le_of_ble_eq_true rfl) dX4_noOf_18 (fun v5 => ?_)
  refine xj_istore Z (lv' := [(4, .int v5), (0, .ref (ad w)), (1, .int x1), (2, .int x2), (3, .int x3)]) dX4_noOf_21 (by decide) rfl ?_
  refine xj_iload_n Z 3 dX4_noOf_23 rfl rfl ?_
  refine xj_iconst Z 2 dX4_noOf_24 (by decide) ?_
  refine xj_irem Z dX4_noOf_25 (by decide) ?_
  refine xj_if_eq Z 48 dX4_noOf_26 (by decide) (fun _ => ?_) (fun _ => ?_)
  · refine xj_sub [1, 2, 4, 0] (lv' := [(0, .ref (ad w)), (1, .int x1), (3, .int x3), (4, .int v5)]) rfl ?_
    exact bX4_noOf_48 Z hw x1 x3 v5 M
  · refine xj_iload Z 0 dX4_noOf_29 rfl ?_
    refine xj_iload_n Z 2 dX4_noOf_31 rfl rfl ?_
    refine xj_aload_n Z 1 dX4_noOf_32 rfl rfl ?_
    refine xg_X4_28 Z (hw.mem 0 (by decide)) hw.lay dX4_noOf_33 ?_
    refine xg_X4_115 Z ((hw.road (M.2 w)).mem 0 (by decide)) (hw.road (M.2 w)).lay dX4_noOf_36 ?_
    refine xj_iconst Z 3 dX4_noOf_39 (by decide) ?_
    refine xj_iald Z ((hw.road (M.2 w)).mem 8 (by decide)) (hw.road (M.2 w)).lay8 dX4_noOf_40 (fun _ => ?_)
    refine xj_iand Z dX4_noOf_41 ?_
    refine xj_callSr Z (As := [.int (x1 &&& (M.1 ((rd (M.2 w)) + 8) (3 : Int32).toNatClampNeg))]) (kJ6_bitCount_0f7a4 l D cs S ad Z.2.2.2.2.2.1.dist (x1 &&& (M.1 ((rd (M.2 w)) + 8) (3 : Int32).toNatClampNeg)) M) gw_X4_83 (n := 1) (by decide +kernel) rfl ⟨rfl, rfl⟩ (by decide) rfl (Nat.le_of_ble_eq_true rfl) dX4_noOf_42 (fun v6 => ?_)
    refine xj_iadd Z dX4_noOf_45 ?_
    refine xj_top (fun v7 => ?_)
    refine xj_istore Z (lv' := [(4, .int v7), (0, .ref (ad w)), (1, .int x1), (2, .int x2), (3, .int x3)]) dX4_noOf_46 (by decide) rfl ?_
    refine xj_sub [1, 2, 4, 0] (lv' := [(0, .ref (ad w)), (1, .int x1), (3, .int x3), (4, .int v7)]) rfl ?_
    exact bX4_noOf_48 Z hw x1 x3 v7 M
/-! WalkingLaw$Walk.passesIn(III)Z -/
theorem dX4_passesIn_0 : decode cX4_passesIn 0 = .ok (.aload_n 0, 1) := by decide +kernel
theorem dX4_passesIn_1 : decode cX4_passesIn 1 = .ok (.iload_n 1, 1) := by decide +kernel
theorem dX4_passesIn_2 : decode cX4_passesIn 2 = .ok (.invokevirtual 80, 3) := by decide +kernel
theorem dX4_passesIn_5 : decode cX4_passesIn 5 = .ok (.istore 4, 2) := by decide +kernel
theorem dX4_passesIn_7 : decode cX4_passesIn 7 = .ok (.iload 4, 2) := by decide +kernel
theorem dX4_passesIn_9 : decode cX4_passesIn 9 = .ok (.invokestatic 83, 3) := by decide +kernel
theorem dX4_passesIn_12 : decode cX4_passesIn 12 = .ok (.iload_n 3, 1) := by decide +kernel
theorem dX4_passesIn_13 : decode cX4_passesIn 13 = .ok (.iadd, 1) := by decide +kernel
theorem dX4_passesIn_14 : decode cX4_passesIn 14 = .ok (.aload_n 0, 1) := by decide +kernel
theorem dX4_passesIn_15 : decode cX4_passesIn 15 = .ok (.getfield 28, 3) := by decide +kernel
theorem dX4_passesIn_18 : decode cX4_passesIn 18 = .ok (.getfield 108, 3) := by decide +kernel
theorem dX4_passesIn_21 : decode cX4_passesIn 21 = .ok (.if_icmp .lt 27, 3) := by decide +kernel
theorem dX4_passesIn_24 : decode cX4_passesIn 24 = .ok (.aload_n 0, 1) := by decide +kernel
theorem dX4_passesIn_25 : decode cX4_passesIn 25 = .ok (.iload 4, 2) := by decide +kernel
theorem dX4_passesIn_27 : decode cX4_passesIn 27 = .ok (.iload_n 1, 1) := by decide +kernel
theorem dX4_passesIn_28 : decode cX4_passesIn 28 = .ok (.iload_n 2, 1) := by decide +kernel
theorem dX4_passesIn_29 : decode cX4_passesIn 29 = .ok (.iload_n 3, 1) := by decide +kernel
theorem dX4_passesIn_30 : decode cX4_passesIn 30 = .ok (.invokevirtual 100, 3) := by decide +kernel
theorem dX4_passesIn_33 : decode cX4_passesIn 33 = .ok (.aload_n 0, 1) := by decide +kernel
theorem dX4_passesIn_34 : decode cX4_passesIn 34 = .ok (.iload 4, 2) := by decide +kernel
theorem dX4_passesIn_36 : decode cX4_passesIn 36 = .ok (.iload_n 1, 1) := by decide +kernel
theorem dX4_passesIn_37 : decode cX4_passesIn 37 = .ok (.iload_n 2, 1) := by decide +kernel
theorem dX4_passesIn_38 : decode cX4_passesIn 38 = .ok (.invokevirtual 104, 3) := by decide +kernel
theorem dX4_passesIn_41 : decode cX4_passesIn 41 = .ok (.if_icmp .le 7, 3) := by decide +kernel
theorem dX4_passesIn_44 : decode cX4_passesIn 44 = .ok (.iconst 1, 1) := by decide +kernel
theorem dX4_passesIn_45 : decode cX4_passesIn 45 = .ok (.goto 4, 3) := by decide +kernel
theorem dX4_passesIn_48 : decode cX4_passesIn 48 = .ok (.iconst 0, 1) := by decide +kernel
theorem dX4_passesIn_49 : decode cX4_passesIn 49 = .ok (.ireturn, 1) := by decide +kernel
def rmX4_passesIn : Room := { frames := 2, cells := 0, slots := 0, locals := 46 }
def fX4_passesIn_49 (w : Nat) (t0 : Int32) (M : xm) : Option (Int32) := (xbo t0 (some t0))
def fX4_passesIn_48 (w : Nat) (M : xm) : Option (Int32) := (fX4_passesIn_49 w 0 M)
def fX4_passesIn (w : Nat) (x1 : Int32) (x2 : Int32) (x3 : Int32) (M : xm) : Option (Int32) := (fX4_thoseIn w x1 M).bind (fun v1 => (fJ6_bitCount_0f7a4 v1 M).bind (fun v2 => (if (v2 + x3) < (M.1 (rd (M.2 w)) 11) then (fX4_passesIn_48 w M) else (fX4_yesOf w v1 x1 x2 x3 M).bind (fun v3 => (fX4_noOf w v1 x1 x2 M).bind (fun v4 => (if v3 ≤ v4 then (fX4_passesIn_48 w M) else (fX4_passesIn_49 w 1 M)))))))
section
variable {p : Program} {l : Launch} {e : Env} {s : State} {m : MethodId} {args : Array Value} {below : List Frame} {meth : Method} {c : Code} {D : va_G} {cs : Nat → ClassId} {S : List Nat} {ad : Nat → Nat} {w : Nat}
theorem bX4_passesIn_49 (Z : CX p s m args meth c cX4_passesIn 5 RX4 (some .boolean) D cs (xA S ad) S ad) (hw : xWalk S w) (t0 : Int32) (M : xm) : XJ p l e rmX4_passesIn s m args below meth c D cs (xA S ad) S ad 5 (XRr below args s D cs S ad M) 49 [] [.int t0] M (fX4_passesIn_49 w t0 M) := by
  unfold fX4_passesIn_49
  exact xj_zret_r Z dX4_passesIn_49
theorem bX4_passesIn_48 (Z : CX p s m args meth c cX4_passesIn 5 RX4 (some .boolean) D cs (xA S ad) S ad) (hw : xWalk S w) (M : xm) : XJ p l e rmX4_passesIn s m args below meth c D cs (xA S ad) S ad 5 (XRr below args s D cs S ad M) 48 [] [] M (fX4_passesIn_48 w M) := by
  unfold fX4_passesIn_48
  refine xj_iconst Z 0 dX4_passesIn_48 (by decide) ?_
  exact bX4_passesIn_49 Z hw 0 M
end
theorem kX4_passesIn (l : Launch) (D : va_G) (cs : Nat → ClassId) (S : List Nat) (ad : Nat → Nat) (hd : xdist S ad) {w : Nat} (hw : xWalk S w) (x1 : Int32) (x2 : Int32) (x3 : Int32) (M : xm) : ∀ r, fX4_passesIn w x1 x2 x3 M = some r → Met l yX4_passesIn [Cond.code yX4_passesIn cX4_passesIn 5 (some .boolean)] rmX4_passesIn (XPc D cs S ad [.ref (ad w), .int x1, .int x2, .int x3] M) (XQi D cs S ad r M) 0 0 (xA S ad) := by
  refine xm_r (own := RX4) (lv := [(0, .ref (ad w)), (1, .int x1), (2, .int x2), (3, .int x3)]) (by decide +kernel) rfl rfl (Nat.le_of_ble_eq_true rfl) hd (fun p e s m args below meth c Z => ?_)
  unfold fX4_passesIn
  refine xj_aload_n Z 0 dX4_passesIn_0 rfl rfl ?_
  refine xj_iload_n Z 1 dX4_passesIn_1 rfl rfl ?_
  refine xj_callVr Z (As := [.int x1]) (kX4_thoseIn l D cs S ad Z.2.2.2.2.2.1.dist hw x1 M) gw_X4_80 (hw.mem 0 (by decide)) hw.lay rfl (n := 1) (by decide +kernel) rfl ⟨rfl, rfl⟩ (by decide) rfl (Nat.le_of_ble_eq_true rfl) dX4_passesIn_2 (fun v1 => ?_)
  refine xj_istore Z (lv' := [(4, .int v1), (0, .ref (ad w)), (1, .int x1), (2, .int x2), (3, .int x3)]) dX4_passesIn_5 (by decide) rfl ?_
  refine xj_iload Z 0 dX4_passesIn_7 rfl ?_
  refine xj_callSr Z (As := [.int v1]) (kJ6_bitCount_0f7a4 l D cs S ad Z.2.2.2.2.2.1.dist v1 M) gw_X4_83 (n := 1) (by decide +kernel) rfl ⟨rfl, rfl⟩ (by decide) rfl (Nat.le_of_ble_eq_true rfl) dX4_passesIn_9 (fun v2 => ?_)
  refine xj_iload_n Z 4 dX4_passesIn_12 rfl rfl ?_
  refine xj_iadd Z dX4_passesIn_13 ?_
  refine xj_aload_n Z 1 dX4_passesIn_14 rfl rfl ?_
  refine xg_X4_28 Z (hw.mem 0 (by decide)) hw.lay dX4_passesIn_15 ?_
  refine xg_X4_108 Z ((hw.road (M.2 w)).mem 0 (by decide)) (hw.road (M.2 w)).lay dX4_passesIn_18 ?_
  refine xj_icmp_lt Z 48 dX4_passesIn_21 (by decide) (fun _ => ?_) (fun _ => ?_)
  · refine xj_sub [] (lv' := []) rfl ?_
    exact bX4_passesIn_48 Z hw M
  · refine xj_aload_n Z 1 dX4_passesIn_24 rfl rfl ?_
    refine xj_iload Z 0 dX4_passesIn_25 rfl ?_
    refine xj_iload_n Z 2 dX4_passesIn_27 rfl rfl ?_
    refine xj_iload_n Z 3 dX4_passesIn_28 rfl rfl ?_
    refine xj_iload_n Z 4 dX4_passesIn_29 rfl rfl ?_
    refine xj_callVr Z (As := [.int v1, .int x1, .int x2, .int x3]) (kX4_yesOf l D cs S ad Z.2.2.2.2.2.1.dist hw v1 x1 x2 x3 M) gw_X4_100 (hw.mem 0 (by decide)) hw.lay rfl (n := 4) (by decide +kernel) rfl ⟨rfl, rfl⟩ (by decide) rfl (Nat.le_of_ble_eq_true rfl) dX4_passesIn_30 (fun v3 => ?_)
    refine xj_aload_n Z 1 dX4_passesIn_33 rfl rfl ?_
    refine xj_iload Z 0 dX4_passesIn_34 rfl ?_
    refine xj_iload_n Z 2 dX4_passesIn_36 rfl rfl ?_
    refine xj_iload_n Z 3 dX4_passesIn_37 rfl rfl ?_
    refine xj_callVr Z (As := [.int v1, .int x1, .int x2]) (kX4_noOf l D cs S ad Z.2.2.2.2.2.1.dist hw v1 x1 x2 M) gw_X4_104 (hw.mem 0 (by decide)) hw.lay rfl (n := 3) (by decide +kernel) rfl ⟨rfl, rfl⟩ (by decide) rfl (Nat.le_of_ble_eq_true rfl) dX4_passesIn_38 (fun v4 => ?_)
    refine xj_icmp_le Z 48 dX4_passesIn_41 (by decide) (fun _ => ?_) (fun _ => ?_)
    · refine xj_sub [] (lv' := []) rfl ?_
      exact bX4_passesIn_48 Z hw M
    · refine xj_iconst Z 1 dX4_passesIn_44 (by decide) ?_
      refine xj_goto Z 49 dX4_passesIn_45 (by decide) ?_
      refine xj_sub [] (lv' := []) rfl ?_
      exact bX4_passesIn_49 Z hw 1 M
/-! WalkingLaw$Walk.setMind(II)V -/
theorem dX4_setMind_0 : decode cX4_setMind 0 = .ok (.iconst 0, 1) := by decide +kernel
theorem dX4_setMind_1 : decode cX4_setMind 1 = .ok (.istore_n 3, 1) := by decide +kernel
theorem dX4_setMind_2 : decode cX4_setMind 2 = .ok (.iload_n 3, 1) := by decide +kernel
theorem dX4_setMind_3 : decode cX4_setMind 3 = .ok (.iconst 4, 1) := by decide +kernel
theorem dX4_setMind_4 : decode cX4_setMind 4 = .ok (.if_icmp .ge 35, 3) := by decide +kernel
theorem dX4_setMind_7 : decode cX4_setMind 7 = .ok (.aload_n 0, 1) := by decide +kernel
theorem dX4_setMind_8 : decode cX4_setMind 8 = .ok (.getfield 15, 3) := by decide +kernel
theorem dX4_setMind_11 : decode cX4_setMind 11 = .ok (.iload_n 3, 1) := by decide +kernel
theorem dX4_setMind_12 : decode cX4_setMind 12 = .ok (.aload_n 0, 1) := by decide +kernel
theorem dX4_setMind_13 : decode cX4_setMind 13 = .ok (.getfield 15, 3) := by decide +kernel
theorem dX4_setMind_16 : decode cX4_setMind 16 = .ok (.iload_n 3, 1) := by decide +kernel
theorem dX4_setMind_17 : decode cX4_setMind 17 = .ok (.iaload, 1) := by decide +kernel
theorem dX4_setMind_18 : decode cX4_setMind 18 = .ok (.iconst 1, 1) := by decide +kernel
theorem dX4_setMind_19 : decode cX4_setMind 19 = .ok (.iload_n 1, 1) := by decide +kernel
theorem dX4_setMind_20 : decode cX4_setMind 20 = .ok (.ishl, 1) := by decide +kernel
theorem dX4_setMind_21 : decode cX4_setMind 21 = .ok (.iconst (-1), 1) := by decide +kernel
theorem dX4_setMind_22 : decode cX4_setMind 22 = .ok (.ixor, 1) := by decide +kernel
theorem dX4_setMind_23 : decode cX4_setMind 23 = .ok (.iand, 1) := by decide +kernel
theorem dX4_setMind_24 : decode cX4_setMind 24 = .ok (.iload_n 2, 1) := by decide +kernel
theorem dX4_setMind_25 : decode cX4_setMind 25 = .ok (.iload_n 3, 1) := by decide +kernel
theorem dX4_setMind_26 : decode cX4_setMind 26 = .ok (.ishr, 1) := by decide +kernel
theorem dX4_setMind_27 : decode cX4_setMind 27 = .ok (.iconst 1, 1) := by decide +kernel
theorem dX4_setMind_28 : decode cX4_setMind 28 = .ok (.iand, 1) := by decide +kernel
theorem dX4_setMind_29 : decode cX4_setMind 29 = .ok (.iload_n 1, 1) := by decide +kernel
theorem dX4_setMind_30 : decode cX4_setMind 30 = .ok (.ishl, 1) := by decide +kernel
theorem dX4_setMind_31 : decode cX4_setMind 31 = .ok (.ior, 1) := by decide +kernel
theorem dX4_setMind_32 : decode cX4_setMind 32 = .ok (.iastore, 1) := by decide +kernel
theorem dX4_setMind_33 : decode cX4_setMind 33 = .ok (.iinc 3 1, 3) := by decide +kernel
theorem dX4_setMind_36 : decode cX4_setMind 36 = .ok (.goto (-34), 3) := by decide +kernel
theorem dX4_setMind_39 : decode cX4_setMind 39 = .ok (.return_, 1) := by decide +kernel
def rmX4_setMind : Room := { frames := 0, cells := 0, slots := 0, locals := 0 }
def fX4_setMind_2 (w : Nat) (x1 : Int32) (x2 : Int32) : Nat → Int32 → xm → Option (xm)
  | 0, _, _ => none
  | n + 1, x3, M => (if (4 : Int32) ≤ x3 then (some M) else xchk x3 4 (xchk x3 4 (xl (up M (w + 2) (x3 : Int32).toNatClampNeg (((M.1 (w + 2) x3.toNatClampNeg) &&& ((1 <<< (x1 &&& 31)) ^^^ (-1))) ||| (((x2 >>> (x3 &&& 31)) &&& 1) <<< (x1 &&& 31)))) (fun M1 => (fX4_setMind_2 w x1 x2 n (x3 + 1) M1)))))
def fX4_setMind (w : Nat) (x1 : Int32) (x2 : Int32) (M : xm) : Option (xm) := (fX4_setMind_2 w x1 x2 xfuel 0 M)
section
variable {p : Program} {l : Launch} {e : Env} {s : State} {m : MethodId} {args : Array Value} {below : List Frame} {meth : Method} {c : Code} {D : va_G} {cs : Nat → ClassId} {S : List Nat} {ad : Nat → Nat} {w : Nat}
theorem bX4_setMind_2 (Z : CX p s m args meth c cX4_setMind 4 RX4 none D cs (xA S ad) S ad) (hw : xWalk S w) (x1 : Int32) (x2 : Int32) : ∀ (n : Nat) (x3 : Int32) (M : xm), XJ p l e rmX4_setMind s m args below meth c D cs (xA S ad) S ad 4 (XRm below args s D cs S ad) 2 [(0, .ref (ad w)), (1, .int x1), (2, .int x2), (3, .int x3)] [] M (fX4_setMind_2 w x1 x2 n x3 M) := by
  intro n
  induction n with
  | zero => intros; exact xj_none
  | succ n ih =>
    intro x3 M
    rw [fX4_setMind_2]
    refine xj_iload_n Z 3 dX4_setMind_2 rfl rfl ?_
    refine xj_iconst Z 4 dX4_setMind_3 (by decide) ?_
    refine xj_icmp_ge Z 39 dX4_setMind_4 (by decide) (fun _ => ?_) (fun _ => ?_)
    · exact xj_vret Z dX4_setMind_39
    · refine xj_aload_n Z 0 dX4_setMind_7 rfl rfl ?_
      refine xg_X4_15 Z (hw.mem 0 (by decide)) hw.lay dX4_setMind_8 ?_
      refine xj_iload_n Z 3 dX4_setMind_11 rfl rfl ?_
      refine xj_aload_n Z 0 dX4_setMind_12 rfl rfl ?_
      refine xg_X4_15 Z (hw.mem 0 (by decide)) hw.lay dX4_setMind_13 ?_
      refine xj_iload_n Z 3 dX4_setMind_16 rfl rfl ?_
      refine xj_iald Z (hw.mem 2 (by decide)) hw.lay2 dX4_setMind_17 (fun _ => ?_)
      refine xj_iconst Z 1 dX4_setMind_18 (by decide) ?_
      refine xj_iload_n Z 1 dX4_setMind_19 rfl rfl ?_
      refine xj_ishl Z dX4_setMind_20 ?_
      refine xj_iconst Z (-1) dX4_setMind_21 (by decide) ?_
      refine xj_ixor Z dX4_setMind_22 ?_
      refine xj_iand Z dX4_setMind_23 ?_
      refine xj_iload_n Z 2 dX4_setMind_24 rfl rfl ?_
      refine xj_iload_n Z 3 dX4_setMind_25 rfl rfl ?_
      refine xj_ishr Z dX4_setMind_26 ?_
      refine xj_iconst Z 1 dX4_setMind_27 (by decide) ?_
      refine xj_iand Z dX4_setMind_28 ?_
      refine xj_iload_n Z 1 dX4_setMind_29 rfl rfl ?_
      refine xj_ishl Z dX4_setMind_30 ?_
      refine xj_ior Z dX4_setMind_31 ?_
      refine xj_iast Z (hw.mem 2 (by decide)) hw.lay2 dX4_setMind_32 (fun M1 _ => ?_)
      refine xj_iinc Z 3 (x3 + 1) (lv' := [(3, .int (x3 + 1)), (0, .ref (ad w)), (1, .int x1), (2, .int x2)]) dX4_setMind_33 rfl rfl (by decide) rfl ?_
      refine xj_goto Z 2 dX4_setMind_36 (by decide) ?_
      refine xj_sub [1, 2, 3, 0] (lv' := [(0, .ref (ad w)), (1, .int x1), (2, .int x2), (3, .int (x3 + 1))]) rfl ?_
      exact ih (x3 + 1) M1
end
theorem kX4_setMind (l : Launch) (D : va_G) (cs : Nat → ClassId) (S : List Nat) (ad : Nat → Nat) (hd : xdist S ad) {w : Nat} (hw : xWalk S w) (x1 : Int32) (x2 : Int32) (M : xm) : ∀ r, fX4_setMind w x1 x2 M = some r → Met l yX4_setMind [Cond.code yX4_setMind cX4_setMind 4 none] rmX4_setMind (XPc D cs S ad [.ref (ad w), .int x1, .int x2] M) (XQv D cs S ad r) 0 0 (xA S ad) := by
  refine xm_m (own := RX4) (lv := [(0, .ref (ad w)), (1, .int x1), (2, .int x2)]) (by decide +kernel) rfl rfl (Nat.le_of_ble_eq_true rfl) hd (fun p e s m args below meth c Z => ?_)
  unfold fX4_setMind
  refine xj_iconst Z 0 dX4_setMind_0 (by decide) ?_
  refine xj_istore_n Z (lv' := [(3, .int 0), (0, .ref (ad w)), (1, .int x1), (2, .int x2)]) dX4_setMind_1 rfl (by decide) rfl ?_
  refine xj_sub [1, 2, 3, 0] (lv' := [(0, .ref (ad w)), (1, .int x1), (2, .int x2), (3, .int 0)]) rfl ?_
  exact bX4_setMind_2 Z hw x1 x2 xfuel 0 M
/-! WalkingLaw$Walk.begin(LWalkingLaw$Road;)V -/
theorem dX4_begin_0 : decode cX4_begin 0 = .ok (.aload_n 0, 1) := by decide +kernel
theorem dX4_begin_1 : decode cX4_begin 1 = .ok (.aload_n 1, 1) := by decide +kernel
theorem dX4_begin_2 : decode cX4_begin 2 = .ok (.putfield 28, 3) := by decide +kernel
theorem dX4_begin_5 : decode cX4_begin 5 = .ok (.aload_n 0, 1) := by decide +kernel
theorem dX4_begin_6 : decode cX4_begin 6 = .ok (.iconst 0, 1) := by decide +kernel
theorem dX4_begin_7 : decode cX4_begin 7 = .ok (.putfield 32, 3) := by decide +kernel
theorem dX4_begin_10 : decode cX4_begin 10 = .ok (.iconst 0, 1) := by decide +kernel
theorem dX4_begin_11 : decode cX4_begin 11 = .ok (.istore_n 2, 1) := by decide +kernel
theorem dX4_begin_12 : decode cX4_begin 12 = .ok (.iload_n 2, 1) := by decide +kernel
theorem dX4_begin_13 : decode cX4_begin 13 = .ok (.iconst 4, 1) := by decide +kernel
theorem dX4_begin_14 : decode cX4_begin 14 = .ok (.if_icmp .ge 31, 3) := by decide +kernel
theorem dX4_begin_17 : decode cX4_begin 17 = .ok (.aload_n 0, 1) := by decide +kernel
theorem dX4_begin_18 : decode cX4_begin 18 = .ok (.getfield 15, 3) := by decide +kernel
theorem dX4_begin_21 : decode cX4_begin 21 = .ok (.iload_n 2, 1) := by decide +kernel
theorem dX4_begin_22 : decode cX4_begin 22 = .ok (.iconst 0, 1) := by decide +kernel
theorem dX4_begin_23 : decode cX4_begin 23 = .ok (.iastore, 1) := by decide +kernel
theorem dX4_begin_24 : decode cX4_begin 24 = .ok (.aload_n 0, 1) := by decide +kernel
theorem dX4_begin_25 : decode cX4_begin 25 = .ok (.getfield 18, 3) := by decide +kernel
theorem dX4_begin_28 : decode cX4_begin 28 = .ok (.iload_n 2, 1) := by decide +kernel
theorem dX4_begin_29 : decode cX4_begin 29 = .ok (.iconst 0, 1) := by decide +kernel
theorem dX4_begin_30 : decode cX4_begin 30 = .ok (.iastore, 1) := by decide +kernel
theorem dX4_begin_31 : decode cX4_begin 31 = .ok (.aload_n 0, 1) := by decide +kernel
theorem dX4_begin_32 : decode cX4_begin 32 = .ok (.getfield 21, 3) := by decide +kernel
theorem dX4_begin_35 : decode cX4_begin 35 = .ok (.iload_n 2, 1) := by decide +kernel
theorem dX4_begin_36 : decode cX4_begin 36 = .ok (.bipush (-4), 2) := by decide +kernel
theorem dX4_begin_38 : decode cX4_begin 38 = .ok (.iastore, 1) := by decide +kernel
theorem dX4_begin_39 : decode cX4_begin 39 = .ok (.iinc 2 1, 3) := by decide +kernel
theorem dX4_begin_42 : decode cX4_begin 42 = .ok (.goto (-30), 3) := by decide +kernel
theorem dX4_begin_45 : decode cX4_begin 45 = .ok (.iconst 0, 1) := by decide +kernel
theorem dX4_begin_46 : decode cX4_begin 46 = .ok (.istore_n 2, 1) := by decide +kernel
theorem dX4_begin_47 : decode cX4_begin 47 = .ok (.iload_n 2, 1) := by decide +kernel
theorem dX4_begin_48 : decode cX4_begin 48 = .ok (.bipush 8, 2) := by decide +kernel
theorem dX4_begin_50 : decode cX4_begin 50 = .ok (.if_icmp .ge 16, 3) := by decide +kernel
theorem dX4_begin_53 : decode cX4_begin 53 = .ok (.aload_n 0, 1) := by decide +kernel
theorem dX4_begin_54 : decode cX4_begin 54 = .ok (.getfield 9, 3) := by decide +kernel
theorem dX4_begin_57 : decode cX4_begin 57 = .ok (.iload_n 2, 1) := by decide +kernel
theorem dX4_begin_58 : decode cX4_begin 58 = .ok (.iconst 0, 1) := by decide +kernel
theorem dX4_begin_59 : decode cX4_begin 59 = .ok (.iastore, 1) := by decide +kernel
theorem dX4_begin_60 : decode cX4_begin 60 = .ok (.iinc 2 1, 3) := by decide +kernel
theorem dX4_begin_63 : decode cX4_begin 63 = .ok (.goto (-16), 3) := by decide +kernel
theorem dX4_begin_66 : decode cX4_begin 66 = .ok (.iconst 0, 1) := by decide +kernel
theorem dX4_begin_67 : decode cX4_begin 67 = .ok (.istore_n 2, 1) := by decide +kernel
theorem dX4_begin_68 : decode cX4_begin 68 = .ok (.iload_n 2, 1) := by decide +kernel
theorem dX4_begin_69 : decode cX4_begin 69 = .ok (.aload_n 1, 1) := by decide +kernel
theorem dX4_begin_70 : decode cX4_begin 70 = .ok (.getfield 36, 3) := by decide +kernel
theorem dX4_begin_73 : decode cX4_begin 73 = .ok (.if_icmp .ge 20, 3) := by decide +kernel
theorem dX4_begin_76 : decode cX4_begin 76 = .ok (.aload_n 0, 1) := by decide +kernel
theorem dX4_begin_77 : decode cX4_begin 77 = .ok (.iload_n 2, 1) := by decide +kernel
theorem dX4_begin_78 : decode cX4_begin 78 = .ok (.aload_n 1, 1) := by decide +kernel
theorem dX4_begin_79 : decode cX4_begin 79 = .ok (.getfield 41, 3) := by decide +kernel
theorem dX4_begin_82 : decode cX4_begin 82 = .ok (.iload_n 2, 1) := by decide +kernel
theorem dX4_begin_83 : decode cX4_begin 83 = .ok (.iaload, 1) := by decide +kernel
theorem dX4_begin_84 : decode cX4_begin 84 = .ok (.invokevirtual 44, 3) := by decide +kernel
theorem dX4_begin_87 : decode cX4_begin 87 = .ok (.iinc 2 1, 3) := by decide +kernel
theorem dX4_begin_90 : decode cX4_begin 90 = .ok (.goto (-22), 3) := by decide +kernel
theorem dX4_begin_93 : decode cX4_begin 93 = .ok (.return_, 1) := by decide +kernel
def rmX4_begin : Room := { frames := 1, cells := 0, slots := 0, locals := 23 }
def fX4_begin_68 (w : Nat) (r1 : Nat) : Nat → Int32 → xm → Option (xm)
  | 0, _, _ => none
  | n + 1, x2, M => (if (M.1 r1 6) ≤ x2 then (some M) else xchk x2 8 ((fX4_setMind w x2 (M.1 (r1 + 7) x2.toNatClampNeg) M).bind (fun M1 => (fX4_begin_68 w r1 n (x2 + 1) M1))))
def fX4_begin_47 (w : Nat) (r1 : Nat) : Nat → Int32 → xm → Option (xm)
  | 0, _, _ => none
  | n + 1, x2, M => (if (8 : Int32) ≤ x2 then (fX4_begin_68 w r1 xfuel 0 M) else xchk x2 8 (xl (up M (w + 1) (x2 : Int32).toNatClampNeg 0) (fun M2 => (fX4_begin_47 w r1 n (x2 + 1) M2))))
def fX4_begin_12 (w : Nat) (r1 : Nat) : Nat → Int32 → xm → Option (xm)
  | 0, _, _ => none
  | n + 1, x2, M => (if (4 : Int32) ≤ x2 then (fX4_begin_47 w r1 xfuel 0 M) else xchk x2 4 (xl (up M (w + 2) (x2 : Int32).toNatClampNeg 0) (fun M3 => xchk x2 4 (xl (up M3 (w + 3) (x2 : Int32).toNatClampNeg 0) (fun M4 => xchk x2 4 (xl (up M4 (w + 4) (x2 : Int32).toNatClampNeg (-4)) (fun M5 => (fX4_begin_12 w r1 n (x2 + 1) M5))))))))
def fX4_begin (w : Nat) (r1 : Nat) (M : xm) : Option (xm) := xl (upr M w (xrb r1)) (fun M6 => xl (up M6 w 5 0) (fun M7 => (fX4_begin_12 w r1 xfuel 0 M7)))
section
variable {p : Program} {l : Launch} {e : Env} {s : State} {m : MethodId} {args : Array Value} {below : List Frame} {meth : Method} {c : Code} {D : va_G} {cs : Nat → ClassId} {S : List Nat} {ad : Nat → Nat} {w r1 : Nat}
theorem bX4_begin_68 (Z : CX p s m args meth c cX4_begin 3 RX4 none D cs (xA S ad) S ad) (hw : xWalk S w) (hr1 : xRoad S r1) : ∀ (n : Nat) (x2 : Int32) (M : xm), XJ p l e rmX4_begin s m args below meth c D cs (xA S ad) S ad 3 (XRm below args s D cs S ad) 68 [(0, .ref (ad w)), (1, .ref (ad r1)), (2, .int x2)] [] M (fX4_begin_68 w r1 n x2 M) := by
  intro n
  induction n with
  | zero => intros; exact xj_none
  | succ n ih =>
    intro x2 M
    rw [fX4_begin_68]
    refine xj_iload_n Z 2 dX4_begin_68 rfl rfl ?_
    refine xj_aload_n Z 1 dX4_begin_69 rfl rfl ?_
    refine xg_X4_36 Z (hr1.mem 0 (by decide)) hr1.lay dX4_begin_70 ?_
    refine xj_icmp_ge Z 93 dX4_begin_73 (by decide) (fun _ => ?_) (fun _ => ?_)
    · exact xj_vret Z dX4_begin_93
    · refine xj_aload_n Z 0 dX4_begin_76 rfl rfl ?_
      refine xj_iload_n Z 2 dX4_begin_77 rfl rfl ?_
      refine xj_aload_n Z 1 dX4_begin_78 rfl rfl ?_
      refine xg_X4_41 Z (hr1.mem 0 (by decide)) hr1.lay dX4_begin_79 ?_
      refine xj_iload_n Z 2 dX4_begin_82 rfl rfl ?_
      refine xj_iald Z (hr1.mem 7 (by decide)) hr1.lay7 dX4_begin_83 (fun _ => ?_)
      refine xj_callVm Z (As := [.int x2, .int (M.1 (r1 + 7) x2.toNatClampNeg)]) (kX4_setMind l D cs S ad Z.2.2.2.2.2.1.dist hw x2 (M.1 (r1 + 7) x2.toNatClampNeg) M) gw_X4_44 (hw.mem 0 (by decide)) hw.lay rfl (n := 2) (by decide +kernel) rfl ⟨rfl, rfl⟩ (by decide) rfl (Nat.le_of_ble_eq_true rfl) dX4_begin_84 (fun M1 => ?_)
      refine xj_iinc Z 2 (x2 + 1) (lv' := [(2, .int (x2 + 1)), (0, .ref (ad w)), (1, .ref (ad r1))]) dX4_begin_87 rfl rfl (by decide) rfl ?_
      refine xj_goto Z 68 dX4_begin_90 (by decide) ?_
      refine xj_sub [1, 2, 0] (lv' := [(0, .ref (ad w)), (1, .ref (ad r1)), (2, .int (x2 + 1))]) rfl ?_
      exact ih (x2 + 1) M1
theorem bX4_begin_47 (Z : CX p s m args meth c cX4_begin 3 RX4 none D cs (xA S ad) S ad) (hw : xWalk S w) (hr1 : xRoad S r1) : ∀ (n : Nat) (x2 : Int32) (M : xm), XJ p l e rmX4_begin s m args below meth c D cs (xA S ad) S ad 3 (XRm below args s D cs S ad) 47 [(0, .ref (ad w)), (1, .ref (ad r1)), (2, .int x2)] [] M (fX4_begin_47 w r1 n x2 M) := by
  intro n
  induction n with
  | zero => intros; exact xj_none
  | succ n ih =>
    intro x2 M
    rw [fX4_begin_47]
    refine xj_iload_n Z 2 dX4_begin_47 rfl rfl ?_
    refine xj_bipush Z 8 dX4_begin_48 (by decide) ?_
    refine xj_icmp_ge Z 66 dX4_begin_50 (by decide) (fun _ => ?_) (fun _ => ?_)
    · refine xj_iconst Z 0 dX4_begin_66 (by decide) ?_
      refine xj_istore_n Z (lv' := [(2, .int 0), (0, .ref (ad w)), (1, .ref (ad r1))]) dX4_begin_67 rfl (by decide) rfl ?_
      refine xj_sub [1, 2, 0] (lv' := [(0, .ref (ad w)), (1, .ref (ad r1)), (2, .int 0)]) rfl ?_
      exact bX4_begin_68 Z hw hr1 xfuel 0 M
    · refine xj_aload_n Z 0 dX4_begin_53 rfl rfl ?_
      refine xg_X4_9 Z (hw.mem 0 (by decide)) hw.lay dX4_begin_54 ?_
      refine xj_iload_n Z 2 dX4_begin_57 rfl rfl ?_
      refine xj_iconst Z 0 dX4_begin_58 (by decide) ?_
      refine xj_iast Z (hw.mem 1 (by decide)) hw.lay1 dX4_begin_59 (fun M2 _ => ?_)
      refine xj_iinc Z 2 (x2 + 1) (lv' := [(2, .int (x2 + 1)), (0, .ref (ad w)), (1, .ref (ad r1))]) dX4_begin_60 rfl rfl (by decide) rfl ?_
      refine xj_goto Z 47 dX4_begin_63 (by decide) ?_
      refine xj_sub [1, 2, 0] (lv' := [(0, .ref (ad w)), (1, .ref (ad r1)), (2, .int (x2 + 1))]) rfl ?_
      exact ih (x2 + 1) M2
theorem bX4_begin_12 (Z : CX p s m args meth c cX4_begin 3 RX4 none D cs (xA S ad) S ad) (hw : xWalk S w) (hr1 : xRoad S r1) : ∀ (n : Nat) (x2 : Int32) (M : xm), XJ p l e rmX4_begin s m args below meth c D cs (xA S ad) S ad 3 (XRm below args s D cs S ad) 12 [(0, .ref (ad w)), (1, .ref (ad r1)), (2, .int x2)] [] M (fX4_begin_12 w r1 n x2 M) := by
  intro n
  induction n with
  | zero => intros; exact xj_none
  | succ n ih =>
    intro x2 M
    rw [fX4_begin_12]
    refine xj_iload_n Z 2 dX4_begin_12 rfl rfl ?_
    refine xj_iconst Z 4 dX4_begin_13 (by decide) ?_
    refine xj_icmp_ge Z 45 dX4_begin_14 (by decide) (fun _ => ?_) (fun _ => ?_)
    · refine xj_iconst Z 0 dX4_begin_45 (by decide) ?_
      refine xj_istore_n Z (lv' := [(2, .int 0), (0, .ref (ad w)), (1, .ref (ad r1))]) dX4_begin_46 rfl (by decide) rfl ?_
      refine xj_sub [1, 2, 0] (lv' := [(0, .ref (ad w)), (1, .ref (ad r1)), (2, .int 0)]) rfl ?_
      exact bX4_begin_47 Z hw hr1 xfuel 0 M
    · refine xj_aload_n Z 0 dX4_begin_17 rfl rfl ?_
      refine xg_X4_15 Z (hw.mem 0 (by decide)) hw.lay dX4_begin_18 ?_
      refine xj_iload_n Z 2 dX4_begin_21 rfl rfl ?_
      refine xj_iconst Z 0 dX4_begin_22 (by decide) ?_
      refine xj_iast Z (hw.mem 2 (by decide)) hw.lay2 dX4_begin_23 (fun M3 _ => ?_)
      refine xj_aload_n Z 0 dX4_begin_24 rfl rfl ?_
      refine xg_X4_18 Z (hw.mem 0 (by decide)) hw.lay dX4_begin_25 ?_
      refine xj_iload_n Z 2 dX4_begin_28 rfl rfl ?_
      refine xj_iconst Z 0 dX4_begin_29 (by decide) ?_
      refine xj_iast Z (hw.mem 3 (by decide)) hw.lay3 dX4_begin_30 (fun M4 _ => ?_)
      refine xj_aload_n Z 0 dX4_begin_31 rfl rfl ?_
      refine xg_X4_21 Z (hw.mem 0 (by decide)) hw.lay dX4_begin_32 ?_
      refine xj_iload_n Z 2 dX4_begin_35 rfl rfl ?_
      refine xj_bipush Z (-4) dX4_begin_36 (by decide) ?_
      refine xj_iast Z (hw.mem 4 (by decide)) hw.lay4 dX4_begin_38 (fun M5 _ => ?_)
      refine xj_iinc Z 2 (x2 + 1) (lv' := [(2, .int (x2 + 1)), (0, .ref (ad w)), (1, .ref (ad r1))]) dX4_begin_39 rfl rfl (by decide) rfl ?_
      refine xj_goto Z 12 dX4_begin_42 (by decide) ?_
      refine xj_sub [1, 2, 0] (lv' := [(0, .ref (ad w)), (1, .ref (ad r1)), (2, .int (x2 + 1))]) rfl ?_
      exact ih (x2 + 1) M5
end
theorem kX4_begin (l : Launch) (D : va_G) (cs : Nat → ClassId) (S : List Nat) (ad : Nat → Nat) (hd : xdist S ad) {w : Nat} {r1 : Nat} (hw : xWalk S w) (hr1 : xRoad S r1) (M : xm) : ∀ r, fX4_begin w r1 M = some r → Met l yX4_begin [Cond.code yX4_begin cX4_begin 3 none] rmX4_begin (XPc D cs S ad [.ref (ad w), .ref (ad r1)] M) (XQv D cs S ad r) 0 0 (xA S ad) := by
  refine xm_m (own := RX4) (lv := [(0, .ref (ad w)), (1, .ref (ad r1))]) (by decide +kernel) rfl rfl (Nat.le_of_ble_eq_true rfl) hd (fun p e s m args below meth c Z => ?_)
  unfold fX4_begin
  refine xj_aload_n Z 0 dX4_begin_0 rfl rfl ?_
  refine xj_aload_n Z 1 dX4_begin_1 rfl rfl ?_
  refine xp_X4_28 Z hw hr1 dX4_begin_2 (fun M6 _ => ?_)
  refine xj_aload_n Z 0 dX4_begin_5 rfl rfl ?_
  refine xj_iconst Z 0 dX4_begin_6 (by decide) ?_
  refine xp_X4_32 Z (hw.mem 0 (by decide)) hw.lay dX4_begin_7 (fun M7 _ => ?_)
  refine xj_iconst Z 0 dX4_begin_10 (by decide) ?_
  refine xj_istore_n Z (lv' := [(2, .int 0), (0, .ref (ad w)), (1, .ref (ad r1))]) dX4_begin_11 rfl (by decide) rfl ?_
  refine xj_sub [1, 2, 0] (lv' := [(0, .ref (ad w)), (1, .ref (ad r1)), (2, .int 0)]) rfl ?_
  exact bX4_begin_12 Z hw hr1 xfuel 0 M7
/-! WalkingLaw$Walk.become(LWalkingLaw$Walk;)V -/
theorem dX4_become_0 : decode cX4_become 0 = .ok (.aload_n 0, 1) := by decide +kernel
theorem dX4_become_1 : decode cX4_become 1 = .ok (.aload_n 1, 1) := by decide +kernel
theorem dX4_become_2 : decode cX4_become 2 = .ok (.getfield 28, 3) := by decide +kernel
theorem dX4_become_5 : decode cX4_become 5 = .ok (.putfield 28, 3) := by decide +kernel
theorem dX4_become_8 : decode cX4_become 8 = .ok (.aload_n 0, 1) := by decide +kernel
theorem dX4_become_9 : decode cX4_become 9 = .ok (.aload_n 1, 1) := by decide +kernel
theorem dX4_become_10 : decode cX4_become 10 = .ok (.getfield 32, 3) := by decide +kernel
theorem dX4_become_13 : decode cX4_become 13 = .ok (.putfield 32, 3) := by decide +kernel
theorem dX4_become_16 : decode cX4_become 16 = .ok (.iconst 0, 1) := by decide +kernel
theorem dX4_become_17 : decode cX4_become 17 = .ok (.istore_n 2, 1) := by decide +kernel
theorem dX4_become_18 : decode cX4_become 18 = .ok (.iload_n 2, 1) := by decide +kernel
theorem dX4_become_19 : decode cX4_become 19 = .ok (.iconst 4, 1) := by decide +kernel
theorem dX4_become_20 : decode cX4_become 20 = .ok (.if_icmp .ge 45, 3) := by decide +kernel
theorem dX4_become_23 : decode cX4_become 23 = .ok (.aload_n 0, 1) := by decide +kernel
theorem dX4_become_24 : decode cX4_become 24 = .ok (.getfield 15, 3) := by decide +kernel
theorem dX4_become_27 : decode cX4_become 27 = .ok (.iload_n 2, 1) := by decide +kernel
theorem dX4_become_28 : decode cX4_become 28 = .ok (.aload_n 1, 1) := by decide +kernel
theorem dX4_become_29 : decode cX4_become 29 = .ok (.getfield 15, 3) := by decide +kernel
theorem dX4_become_32 : decode cX4_become 32 = .ok (.iload_n 2, 1) := by decide +kernel
theorem dX4_become_33 : decode cX4_become 33 = .ok (.iaload, 1) := by decide +kernel
theorem dX4_become_34 : decode cX4_become 34 = .ok (.iastore, 1) := by decide +kernel
theorem dX4_become_35 : decode cX4_become 35 = .ok (.aload_n 0, 1) := by decide +kernel
theorem dX4_become_36 : decode cX4_become 36 = .ok (.getfield 18, 3) := by decide +kernel
theorem dX4_become_39 : decode cX4_become 39 = .ok (.iload_n 2, 1) := by decide +kernel
theorem dX4_become_40 : decode cX4_become 40 = .ok (.aload_n 1, 1) := by decide +kernel
theorem dX4_become_41 : decode cX4_become 41 = .ok (.getfield 18, 3) := by decide +kernel
theorem dX4_become_44 : decode cX4_become 44 = .ok (.iload_n 2, 1) := by decide +kernel
theorem dX4_become_45 : decode cX4_become 45 = .ok (.iaload, 1) := by decide +kernel
theorem dX4_become_46 : decode cX4_become 46 = .ok (.iastore, 1) := by decide +kernel
theorem dX4_become_47 : decode cX4_become 47 = .ok (.aload_n 0, 1) := by decide +kernel
theorem dX4_become_48 : decode cX4_become 48 = .ok (.getfield 21, 3) := by decide +kernel
theorem dX4_become_51 : decode cX4_become 51 = .ok (.iload_n 2, 1) := by decide +kernel
theorem dX4_become_52 : decode cX4_become 52 = .ok (.aload_n 1, 1) := by decide +kernel
theorem dX4_become_53 : decode cX4_become 53 = .ok (.getfield 21, 3) := by decide +kernel
theorem dX4_become_56 : decode cX4_become 56 = .ok (.iload_n 2, 1) := by decide +kernel
theorem dX4_become_57 : decode cX4_become 57 = .ok (.iaload, 1) := by decide +kernel
theorem dX4_become_58 : decode cX4_become 58 = .ok (.iastore, 1) := by decide +kernel
theorem dX4_become_59 : decode cX4_become 59 = .ok (.iinc 2 1, 3) := by decide +kernel
theorem dX4_become_62 : decode cX4_become 62 = .ok (.goto (-44), 3) := by decide +kernel
theorem dX4_become_65 : decode cX4_become 65 = .ok (.iconst 0, 1) := by decide +kernel
theorem dX4_become_66 : decode cX4_become 66 = .ok (.istore_n 2, 1) := by decide +kernel
theorem dX4_become_67 : decode cX4_become 67 = .ok (.iload_n 2, 1) := by decide +kernel
theorem dX4_become_68 : decode cX4_become 68 = .ok (.bipush 8, 2) := by decide +kernel
theorem dX4_become_70 : decode cX4_become 70 = .ok (.if_icmp .ge 21, 3) := by decide +kernel
theorem dX4_become_73 : decode cX4_become 73 = .ok (.aload_n 0, 1) := by decide +kernel
theorem dX4_become_74 : decode cX4_become 74 = .ok (.getfield 9, 3) := by decide +kernel
theorem dX4_become_77 : decode cX4_become 77 = .ok (.iload_n 2, 1) := by decide +kernel
theorem dX4_become_78 : decode cX4_become 78 = .ok (.aload_n 1, 1) := by decide +kernel
theorem dX4_become_79 : decode cX4_become 79 = .ok (.getfield 9, 3) := by decide +kernel
theorem dX4_become_82 : decode cX4_become 82 = .ok (.iload_n 2, 1) := by decide +kernel
theorem dX4_become_83 : decode cX4_become 83 = .ok (.iaload, 1) := by decide +kernel
theorem dX4_become_84 : decode cX4_become 84 = .ok (.iastore, 1) := by decide +kernel
theorem dX4_become_85 : decode cX4_become 85 = .ok (.iinc 2 1, 3) := by decide +kernel
theorem dX4_become_88 : decode cX4_become 88 = .ok (.goto (-21), 3) := by decide +kernel
theorem dX4_become_91 : decode cX4_become 91 = .ok (.return_, 1) := by decide +kernel
def rmX4_become : Room := { frames := 0, cells := 0, slots := 0, locals := 0 }
def fX4_become_67 (w : Nat) (w1 : Nat) : Nat → Int32 → xm → Option (xm)
  | 0, _, _ => none
  | n + 1, x2, M => (if (8 : Int32) ≤ x2 then (some M) else xchk x2 8 (xchk x2 8 (xl (up M (w + 1) (x2 : Int32).toNatClampNeg (M.1 (w1 + 1) x2.toNatClampNeg)) (fun M1 => (fX4_become_67 w w1 n (x2 + 1) M1)))))
def fX4_become_18 (w : Nat) (w1 : Nat) : Nat → Int32 → xm → Option (xm)
  | 0, _, _ => none
  | n + 1, x2, M => (if (4 : Int32) ≤ x2 then (fX4_become_67 w w1 xfuel 0 M) else xchk x2 4 (xchk x2 4 (xl (up M (w + 2) (x2 : Int32).toNatClampNeg (M.1 (w1 + 2) x2.toNatClampNeg)) (fun M2 => xchk x2 4 (xchk x2 4 (xl (up M2 (w + 3) (x2 : Int32).toNatClampNeg (M2.1 (w1 + 3) x2.toNatClampNeg)) (fun M3 => xchk x2 4 (xchk x2 4 (xl (up M3 (w + 4) (x2 : Int32).toNatClampNeg (M3.1 (w1 + 4) x2.toNatClampNeg)) (fun M4 => (fX4_become_18 w w1 n (x2 + 1) M4)))))))))))
def fX4_become (w : Nat) (w1 : Nat) (M : xm) : Option (xm) := xl (upr M w (xrb (rd (M.2 w1)))) (fun M5 => xl (up M5 w 5 (M5.1 w1 5)) (fun M6 => (fX4_become_18 w w1 xfuel 0 M6)))
section
variable {p : Program} {l : Launch} {e : Env} {s : State} {m : MethodId} {args : Array Value} {below : List Frame} {meth : Method} {c : Code} {D : va_G} {cs : Nat → ClassId} {S : List Nat} {ad : Nat → Nat} {w w1 : Nat}
theorem bX4_become_67 (Z : CX p s m args meth c cX4_become 3 RX4 none D cs (xA S ad) S ad) (hw : xWalk S w) (hw1 : xWalk S w1) : ∀ (n : Nat) (x2 : Int32) (M : xm), XJ p l e rmX4_become s m args below meth c D cs (xA S ad) S ad 3 (XRm below args s D cs S ad) 67 [(0, .ref (ad w)), (1, .ref (ad w1)), (2, .int x2)] [] M (fX4_become_67 w w1 n x2 M) := by
  intro n
  induction n with
  | zero => intros; exact xj_none
  | succ n ih =>
    intro x2 M
    rw [fX4_become_67]
    refine xj_iload_n Z 2 dX4_become_67 rfl rfl ?_
    refine xj_bipush Z 8 dX4_become_68 (by decide) ?_
    refine xj_icmp_ge Z 91 dX4_become_70 (by decide) (fun _ => ?_) (fun _ => ?_)
    · exact xj_vret Z dX4_become_91
    · refine xj_aload_n Z 0 dX4_become_73 rfl rfl ?_
      refine xg_X4_9 Z (hw.mem 0 (by decide)) hw.lay dX4_become_74 ?_
      refine xj_iload_n Z 2 dX4_become_77 rfl rfl ?_
      refine xj_aload_n Z 1 dX4_become_78 rfl rfl ?_
      refine xg_X4_9 Z (hw1.mem 0 (by decide)) hw1.lay dX4_become_79 ?_
      refine xj_iload_n Z 2 dX4_become_82 rfl rfl ?_
      refine xj_iald Z (hw1.mem 1 (by decide)) hw1.lay1 dX4_become_83 (fun _ => ?_)
      refine xj_iast Z (hw.mem 1 (by decide)) hw.lay1 dX4_become_84 (fun M1 _ => ?_)
      refine xj_iinc Z 2 (x2 + 1) (lv' := [(2, .int (x2 + 1)), (0, .ref (ad w)), (1, .ref (ad w1))]) dX4_become_85 rfl rfl (by decide) rfl ?_
      refine xj_goto Z 67 dX4_become_88 (by decide) ?_
      refine xj_sub [1, 2, 0] (lv' := [(0, .ref (ad w)), (1, .ref (ad w1)), (2, .int (x2 + 1))]) rfl ?_
      exact ih (x2 + 1) M1
theorem bX4_become_18 (Z : CX p s m args meth c cX4_become 3 RX4 none D cs (xA S ad) S ad) (hw : xWalk S w) (hw1 : xWalk S w1) : ∀ (n : Nat) (x2 : Int32) (M : xm), XJ p l e rmX4_become s m args below meth c D cs (xA S ad) S ad 3 (XRm below args s D cs S ad) 18 [(0, .ref (ad w)), (1, .ref (ad w1)), (2, .int x2)] [] M (fX4_become_18 w w1 n x2 M) := by
  intro n
  induction n with
  | zero => intros; exact xj_none
  | succ n ih =>
    intro x2 M
    rw [fX4_become_18]
    refine xj_iload_n Z 2 dX4_become_18 rfl rfl ?_
    refine xj_iconst Z 4 dX4_become_19 (by decide) ?_
    refine xj_icmp_ge Z 65 dX4_become_20 (by decide) (fun _ => ?_) (fun _ => ?_)
    · refine xj_iconst Z 0 dX4_become_65 (by decide) ?_
      refine xj_istore_n Z (lv' := [(2, .int 0), (0, .ref (ad w)), (1, .ref (ad w1))]) dX4_become_66 rfl (by decide) rfl ?_
      refine xj_sub [1, 2, 0] (lv' := [(0, .ref (ad w)), (1, .ref (ad w1)), (2, .int 0)]) rfl ?_
      exact bX4_become_67 Z hw hw1 xfuel 0 M
    · refine xj_aload_n Z 0 dX4_become_23 rfl rfl ?_
      refine xg_X4_15 Z (hw.mem 0 (by decide)) hw.lay dX4_become_24 ?_
      refine xj_iload_n Z 2 dX4_become_27 rfl rfl ?_
      refine xj_aload_n Z 1 dX4_become_28 rfl rfl ?_
      refine xg_X4_15 Z (hw1.mem 0 (by decide)) hw1.lay dX4_become_29 ?_
      refine xj_iload_n Z 2 dX4_become_32 rfl rfl ?_
      refine xj_iald Z (hw1.mem 2 (by decide)) hw1.lay2 dX4_become_33 (fun _ => ?_)
      refine xj_iast Z (hw.mem 2 (by decide)) hw.lay2 dX4_become_34 (fun M2 _ => ?_)
      refine xj_aload_n Z 0 dX4_become_35 rfl rfl ?_
      refine xg_X4_18 Z (hw.mem 0 (by decide)) hw.lay dX4_become_36 ?_
      refine xj_iload_n Z 2 dX4_become_39 rfl rfl ?_
      refine xj_aload_n Z 1 dX4_become_40 rfl rfl ?_
      refine xg_X4_18 Z (hw1.mem 0 (by decide)) hw1.lay dX4_become_41 ?_
      refine xj_iload_n Z 2 dX4_become_44 rfl rfl ?_
      refine xj_iald Z (hw1.mem 3 (by decide)) hw1.lay3 dX4_become_45 (fun _ => ?_)
      refine xj_iast Z (hw.mem 3 (by decide)) hw.lay3 dX4_become_46 (fun M3 _ => ?_)
      refine xj_aload_n Z 0 dX4_become_47 rfl rfl ?_
      refine xg_X4_21 Z (hw.mem 0 (by decide)) hw.lay dX4_become_48 ?_
      refine xj_iload_n Z 2 dX4_become_51 rfl rfl ?_
      refine xj_aload_n Z 1 dX4_become_52 rfl rfl ?_
      refine xg_X4_21 Z (hw1.mem 0 (by decide)) hw1.lay dX4_become_53 ?_
      refine xj_iload_n Z 2 dX4_become_56 rfl rfl ?_
      refine xj_iald Z (hw1.mem 4 (by decide)) hw1.lay4 dX4_become_57 (fun _ => ?_)
      refine xj_iast Z (hw.mem 4 (by decide)) hw.lay4 dX4_become_58 (fun M4 _ => ?_)
      refine xj_iinc Z 2 (x2 + 1) (lv' := [(2, .int (x2 + 1)), (0, .ref (ad w)), (1, .ref (ad w1))]) dX4_become_59 rfl rfl (by decide) rfl ?_
      refine xj_goto Z 18 dX4_become_62 (by decide) ?_
      refine xj_sub [1, 2, 0] (lv' := [(0, .ref (ad w)), (1, .ref (ad w1)), (2, .int (x2 + 1))]) rfl ?_
      exact ih (x2 + 1) M4
end
theorem kX4_become (l : Launch) (D : va_G) (cs : Nat → ClassId) (S : List Nat) (ad : Nat → Nat) (hd : xdist S ad) {w : Nat} {w1 : Nat} (hw : xWalk S w) (hw1 : xWalk S w1) (M : xm) : ∀ r, fX4_become w w1 M = some r → Met l yX4_become [Cond.code yX4_become cX4_become 3 none] rmX4_become (XPc D cs S ad [.ref (ad w), .ref (ad w1)] M) (XQv D cs S ad r) 0 0 (xA S ad) := by
  refine xm_m (own := RX4) (lv := [(0, .ref (ad w)), (1, .ref (ad w1))]) (by decide +kernel) rfl rfl (Nat.le_of_ble_eq_true rfl) hd (fun p e s m args below meth c Z => ?_)
  unfold fX4_become
  refine xj_aload_n Z 0 dX4_become_0 rfl rfl ?_
  refine xj_aload_n Z 1 dX4_become_1 rfl rfl ?_
  refine xg_X4_28 Z (hw1.mem 0 (by decide)) hw1.lay dX4_become_2 ?_
  refine xp_X4_28 Z hw (hw1.road (M.2 w1)) dX4_become_5 (fun M5 _ => ?_)
  refine xj_aload_n Z 0 dX4_become_8 rfl rfl ?_
  refine xj_aload_n Z 1 dX4_become_9 rfl rfl ?_
  refine xg_X4_32 Z (hw1.mem 0 (by decide)) hw1.lay dX4_become_10 ?_
  refine xp_X4_32 Z (hw.mem 0 (by decide)) hw.lay dX4_become_13 (fun M6 _ => ?_)
  refine xj_iconst Z 0 dX4_become_16 (by decide) ?_
  refine xj_istore_n Z (lv' := [(2, .int 0), (0, .ref (ad w)), (1, .ref (ad w1))]) dX4_become_17 rfl (by decide) rfl ?_
  refine xj_sub [1, 2, 0] (lv' := [(0, .ref (ad w)), (1, .ref (ad w1)), (2, .int 0)]) rfl ?_
  exact bX4_become_18 Z hw hw1 xfuel 0 M6
/-! WalkingLaw$Walk.mindOf(I)I -/
theorem dX4_mindOf_0 : decode cX4_mindOf 0 = .ok (.iconst 0, 1) := by decide +kernel
theorem dX4_mindOf_1 : decode cX4_mindOf 1 = .ok (.istore_n 2, 1) := by decide +kernel
theorem dX4_mindOf_2 : decode cX4_mindOf 2 = .ok (.iconst 0, 1) := by decide +kernel
theorem dX4_mindOf_3 : decode cX4_mindOf 3 = .ok (.istore_n 3, 1) := by decide +kernel
theorem dX4_mindOf_4 : decode cX4_mindOf 4 = .ok (.iload_n 3, 1) := by decide +kernel
theorem dX4_mindOf_5 : decode cX4_mindOf 5 = .ok (.iconst 4, 1) := by decide +kernel
theorem dX4_mindOf_6 : decode cX4_mindOf 6 = .ok (.if_icmp .ge 24, 3) := by decide +kernel
theorem dX4_mindOf_9 : decode cX4_mindOf 9 = .ok (.iload_n 2, 1) := by decide +kernel
theorem dX4_mindOf_10 : decode cX4_mindOf 10 = .ok (.aload_n 0, 1) := by decide +kernel
theorem dX4_mindOf_11 : decode cX4_mindOf 11 = .ok (.getfield 15, 3) := by decide +kernel
theorem dX4_mindOf_14 : decode cX4_mindOf 14 = .ok (.iload_n 3, 1) := by decide +kernel
theorem dX4_mindOf_15 : decode cX4_mindOf 15 = .ok (.iaload, 1) := by decide +kernel
theorem dX4_mindOf_16 : decode cX4_mindOf 16 = .ok (.iload_n 1, 1) := by decide +kernel
theorem dX4_mindOf_17 : decode cX4_mindOf 17 = .ok (.ishr, 1) := by decide +kernel
theorem dX4_mindOf_18 : decode cX4_mindOf 18 = .ok (.iconst 1, 1) := by decide +kernel
theorem dX4_mindOf_19 : decode cX4_mindOf 19 = .ok (.iand, 1) := by decide +kernel
theorem dX4_mindOf_20 : decode cX4_mindOf 20 = .ok (.iload_n 3, 1) := by decide +kernel
theorem dX4_mindOf_21 : decode cX4_mindOf 21 = .ok (.ishl, 1) := by decide +kernel
theorem dX4_mindOf_22 : decode cX4_mindOf 22 = .ok (.ior, 1) := by decide +kernel
theorem dX4_mindOf_23 : decode cX4_mindOf 23 = .ok (.istore_n 2, 1) := by decide +kernel
theorem dX4_mindOf_24 : decode cX4_mindOf 24 = .ok (.iinc 3 1, 3) := by decide +kernel
theorem dX4_mindOf_27 : decode cX4_mindOf 27 = .ok (.goto (-23), 3) := by decide +kernel
theorem dX4_mindOf_30 : decode cX4_mindOf 30 = .ok (.iload_n 2, 1) := by decide +kernel
theorem dX4_mindOf_31 : decode cX4_mindOf 31 = .ok (.ireturn, 1) := by decide +kernel
def rmX4_mindOf : Room := { frames := 0, cells := 0, slots := 0, locals := 0 }
def fX4_mindOf_4 (w : Nat) (x1 : Int32) (M : xm) : Nat → Int32 → Int32 → Option (Int32)
  | 0, _, _ => none
  | n + 1, x2, x3 => (if (4 : Int32) ≤ x3 then (some x2) else xchk x3 4 (xl (x2 ||| ((((M.1 (w + 2) x3.toNatClampNeg) >>> (x1 &&& 31)) &&& 1) <<< (x3 &&& 31))) (fun v1 => (fX4_mindOf_4 w x1 M n v1 (x3 + 1)))))
def fX4_mindOf (w : Nat) (x1 : Int32) (M : xm) : Option (Int32) := (fX4_mindOf_4 w x1 M xfuel 0 0)
section
variable {p : Program} {l : Launch} {e : Env} {s : State} {m : MethodId} {args : Array Value} {below : List Frame} {meth : Method} {c : Code} {D : va_G} {cs : Nat → ClassId} {S : List Nat} {ad : Nat → Nat} {w : Nat}
theorem bX4_mindOf_4 (Z : CX p s m args meth c cX4_mindOf 4 RX4 (some .int) D cs (xA S ad) S ad) (hw : xWalk S w) (x1 : Int32) (M : xm) : ∀ (n : Nat) (x2 : Int32) (x3 : Int32), XJ p l e rmX4_mindOf s m args below meth c D cs (xA S ad) S ad 4 (XRr below args s D cs S ad M) 4 [(0, .ref (ad w)), (1, .int x1), (2, .int x2), (3, .int x3)] [] M (fX4_mindOf_4 w x1 M n x2 x3) := by
  intro n
  induction n with
  | zero => intros; exact xj_none
  | succ n ih =>
    intro x2 x3
    rw [fX4_mindOf_4]
    refine xj_iload_n Z 3 dX4_mindOf_4 rfl rfl ?_
    refine xj_iconst Z 4 dX4_mindOf_5 (by decide) ?_
    refine xj_icmp_ge Z 30 dX4_mindOf_6 (by decide) (fun _ => ?_) (fun _ => ?_)
    · refine xj_iload_n Z 2 dX4_mindOf_30 rfl rfl ?_
      exact xj_ret_r Z dX4_mindOf_31
    · refine xj_iload_n Z 2 dX4_mindOf_9 rfl rfl ?_
      refine xj_aload_n Z 0 dX4_mindOf_10 rfl rfl ?_
      refine xg_X4_15 Z (hw.mem 0 (by decide)) hw.lay dX4_mindOf_11 ?_
      refine xj_iload_n Z 3 dX4_mindOf_14 rfl rfl ?_
      refine xj_iald Z (hw.mem 2 (by decide)) hw.lay2 dX4_mindOf_15 (fun _ => ?_)
      refine xj_iload_n Z 1 dX4_mindOf_16 rfl rfl ?_
      refine xj_ishr Z dX4_mindOf_17 ?_
      refine xj_iconst Z 1 dX4_mindOf_18 (by decide) ?_
      refine xj_iand Z dX4_mindOf_19 ?_
      refine xj_iload_n Z 3 dX4_mindOf_20 rfl rfl ?_
      refine xj_ishl Z dX4_mindOf_21 ?_
      refine xj_ior Z dX4_mindOf_22 ?_
      refine xj_top (fun v1 => ?_)
      refine xj_istore_n Z (lv' := [(2, .int v1), (0, .ref (ad w)), (1, .int x1), (3, .int x3)]) dX4_mindOf_23 rfl (by decide) rfl ?_
      refine xj_iinc Z 3 (x3 + 1) (lv' := [(3, .int (x3 + 1)), (2, .int v1), (0, .ref (ad w)), (1, .int x1)]) dX4_mindOf_24 rfl rfl (by decide) rfl ?_
      refine xj_goto Z 4 dX4_mindOf_27 (by decide) ?_
      refine xj_sub [2, 3, 1, 0] (lv' := [(0, .ref (ad w)), (1, .int x1), (2, .int v1), (3, .int (x3 + 1))]) rfl ?_
      exact ih v1 (x3 + 1)
end
theorem kX4_mindOf (l : Launch) (D : va_G) (cs : Nat → ClassId) (S : List Nat) (ad : Nat → Nat) (hd : xdist S ad) {w : Nat} (hw : xWalk S w) (x1 : Int32) (M : xm) : ∀ r, fX4_mindOf w x1 M = some r → Met l yX4_mindOf [Cond.code yX4_mindOf cX4_mindOf 4 (some .int)] rmX4_mindOf (XPc D cs S ad [.ref (ad w), .int x1] M) (XQi D cs S ad r M) 0 0 (xA S ad) := by
  refine xm_r (own := RX4) (lv := [(0, .ref (ad w)), (1, .int x1)]) (by decide +kernel) rfl rfl (Nat.le_of_ble_eq_true rfl) hd (fun p e s m args below meth c Z => ?_)
  unfold fX4_mindOf
  refine xj_iconst Z 0 dX4_mindOf_0 (by decide) ?_
  refine xj_istore_n Z (lv' := [(2, .int 0), (0, .ref (ad w)), (1, .int x1)]) dX4_mindOf_1 rfl (by decide) rfl ?_
  refine xj_iconst Z 0 dX4_mindOf_2 (by decide) ?_
  refine xj_istore_n Z (lv' := [(3, .int 0), (2, .int 0), (0, .ref (ad w)), (1, .int x1)]) dX4_mindOf_3 rfl (by decide) rfl ?_
  refine xj_sub [2, 3, 1, 0] (lv' := [(0, .ref (ad w)), (1, .int x1), (2, .int 0), (3, .int 0)]) rfl ?_
  exact bX4_mindOf_4 Z hw x1 M xfuel 0 0
/-! WalkingLaw$Walk.arrived()I -/
theorem dX4_arrived_0 : decode cX4_arrived 0 = .ok (.iconst 0, 1) := by decide +kernel
theorem dX4_arrived_1 : decode cX4_arrived 1 = .ok (.istore_n 1, 1) := by decide +kernel
theorem dX4_arrived_2 : decode cX4_arrived 2 = .ok (.iconst 0, 1) := by decide +kernel
theorem dX4_arrived_3 : decode cX4_arrived 3 = .ok (.istore_n 2, 1) := by decide +kernel
theorem dX4_arrived_4 : decode cX4_arrived 4 = .ok (.iload_n 2, 1) := by decide +kernel
theorem dX4_arrived_5 : decode cX4_arrived 5 = .ok (.aload_n 0, 1) := by decide +kernel
theorem dX4_arrived_6 : decode cX4_arrived 6 = .ok (.getfield 28, 3) := by decide +kernel
theorem dX4_arrived_9 : decode cX4_arrived 9 = .ok (.getfield 36, 3) := by decide +kernel
theorem dX4_arrived_12 : decode cX4_arrived 12 = .ok (.if_icmp .ge 28, 3) := by decide +kernel
theorem dX4_arrived_15 : decode cX4_arrived 15 = .ok (.aload_n 0, 1) := by decide +kernel
theorem dX4_arrived_16 : decode cX4_arrived 16 = .ok (.getfield 9, 3) := by decide +kernel
theorem dX4_arrived_19 : decode cX4_arrived 19 = .ok (.iload_n 2, 1) := by decide +kernel
theorem dX4_arrived_20 : decode cX4_arrived 20 = .ok (.iaload, 1) := by decide +kernel
theorem dX4_arrived_21 : decode cX4_arrived 21 = .ok (.aload_n 0, 1) := by decide +kernel
theorem dX4_arrived_22 : decode cX4_arrived 22 = .ok (.getfield 28, 3) := by decide +kernel
theorem dX4_arrived_25 : decode cX4_arrived 25 = .ok (.getfield 58, 3) := by decide +kernel
theorem dX4_arrived_28 : decode cX4_arrived 28 = .ok (.if_icmp .ne 6, 3) := by decide +kernel
theorem dX4_arrived_31 : decode cX4_arrived 31 = .ok (.iinc 1 1, 3) := by decide +kernel
theorem dX4_arrived_34 : decode cX4_arrived 34 = .ok (.iinc 2 1, 3) := by decide +kernel
theorem dX4_arrived_37 : decode cX4_arrived 37 = .ok (.goto (-33), 3) := by decide +kernel
theorem dX4_arrived_40 : decode cX4_arrived 40 = .ok (.iload_n 1, 1) := by decide +kernel
theorem dX4_arrived_41 : decode cX4_arrived 41 = .ok (.ireturn, 1) := by decide +kernel
def rmX4_arrived : Room := { frames := 0, cells := 0, slots := 0, locals := 0 }
def fX4_arrived_34 (w : Nat) (k4 : Int32 → Int32 → Option (Int32)) (x1 : Int32) (x2 : Int32) (M : xm) : Option (Int32) := (k4 x1 (x2 + 1))
def fX4_arrived_4 (w : Nat) (M : xm) : Nat → Int32 → Int32 → Option (Int32)
  | 0, _, _ => none
  | n + 1, x1, x2 => (if (M.1 (rd (M.2 w)) 6) ≤ x2 then (some x1) else xchk x2 8 ((if (M.1 (w + 1) x2.toNatClampNeg) = (M.1 (rd (M.2 w)) 5) then (fX4_arrived_34 w (fun z0 z1 => fX4_arrived_4 w M n z0 z1) (x1 + 1) x2 M) else (fX4_arrived_34 w (fun z0 z1 => fX4_arrived_4 w M n z0 z1) x1 x2 M))))
def fX4_arrived (w : Nat) (M : xm) : Option (Int32) := (fX4_arrived_4 w M xfuel 0 0)
section
variable {p : Program} {l : Launch} {e : Env} {s : State} {m : MethodId} {args : Array Value} {below : List Frame} {meth : Method} {c : Code} {D : va_G} {cs : Nat → ClassId} {S : List Nat} {ad : Nat → Nat} {w : Nat}
theorem bX4_arrived_34 (Z : CX p s m args meth c cX4_arrived 3 RX4 (some .int) D cs (xA S ad) S ad) (hw : xWalk S w) {k4 : Int32 → Int32 → Option (Int32)} (x1 : Int32) (x2 : Int32) (M : xm) (hk4 : ∀ (x1 : Int32) (x2 : Int32), XJ p l e rmX4_arrived s m args below meth c D cs (xA S ad) S ad 3 (XRr below args s D cs S ad M) 4 [(0, .ref (ad w)), (1, .int x1), (2, .int x2)] [] M (k4 x1 x2)) : XJ p l e rmX4_arrived s m args below meth c D cs (xA S ad) S ad 3 (XRr below args s D cs S ad M) 34 [(0, .ref (ad w)), (1, .int x1), (2, .int x2)] [] M (fX4_arrived_34 w k4 x1 x2 M) := by
  unfold fX4_arrived_34
  refine xj_iinc Z 2 (x2 + 1) (lv' := [(2, .int (x2 + 1)), (0, .ref (ad w)), (1, .int x1)]) dX4_arrived_34 rfl rfl (by decide) rfl ?_
  refine xj_goto Z 4 dX4_arrived_37 (by decide) ?_
  refine xj_sub [1, 2, 0] (lv' := [(0, .ref (ad w)), (1, .int x1), (2, .int (x2 + 1))]) rfl ?_
  exact hk4 x1 (x2 + 1)
theorem bX4_arrived_4 (Z : CX p s m args meth c cX4_arrived 3 RX4 (some .int) D cs (xA S ad) S ad) (hw : xWalk S w) (M : xm) : ∀ (n : Nat) (x1 : Int32) (x2 : Int32), XJ p l e rmX4_arrived s m args below meth c D cs (xA S ad) S ad 3 (XRr below args s D cs S ad M) 4 [(0, .ref (ad w)), (1, .int x1), (2, .int x2)] [] M (fX4_arrived_4 w M n x1 x2) := by
  intro n
  induction n with
  | zero => intros; exact xj_none
  | succ n ih =>
    intro x1 x2
    rw [fX4_arrived_4]
    refine xj_iload_n Z 2 dX4_arrived_4 rfl rfl ?_
    refine xj_aload_n Z 0 dX4_arrived_5 rfl rfl ?_
    refine xg_X4_28 Z (hw.mem 0 (by decide)) hw.lay dX4_arrived_6 ?_
    refine xg_X4_36 Z ((hw.road (M.2 w)).mem 0 (by decide)) (hw.road (M.2 w)).lay dX4_arrived_9 ?_
    refine xj_icmp_ge Z 40 dX4_arrived_12 (by decide) (fun _ => ?_) (fun _ => ?_)
    · refine xj_iload_n Z 1 dX4_arrived_40 rfl rfl ?_
      exact xj_ret_r Z dX4_arrived_41
    · refine xj_aload_n Z 0 dX4_arrived_15 rfl rfl ?_
      refine xg_X4_9 Z (hw.mem 0 (by decide)) hw.lay dX4_arrived_16 ?_
      refine xj_iload_n Z 2 dX4_arrived_19 rfl rfl ?_
      refine xj_iald Z (hw.mem 1 (by decide)) hw.lay1 dX4_arrived_20 (fun _ => ?_)
      refine xj_aload_n Z 0 dX4_arrived_21 rfl rfl ?_
      refine xg_X4_28 Z (hw.mem 0 (by decide)) hw.lay dX4_arrived_22 ?_
      refine xg_X4_58 Z ((hw.road (M.2 w)).mem 0 (by decide)) (hw.road (M.2 w)).lay dX4_arrived_25 ?_
      refine xj_icmp_ne Z 34 dX4_arrived_28 (by decide) (fun _ => ?_) (fun _ => ?_)
      · exact bX4_arrived_34 Z hw x1 x2 M ih
      · refine xj_iinc Z 1 (x1 + 1) (lv' := [(1, .int (x1 + 1)), (0, .ref (ad w)), (2, .int x2)]) dX4_arrived_31 rfl rfl (by decide) rfl ?_
        refine xj_sub [1, 0, 2] (lv' := [(0, .ref (ad w)), (1, .int (x1 + 1)), (2, .int x2)]) rfl ?_
        exact bX4_arrived_34 Z hw (x1 + 1) x2 M ih
end
theorem kX4_arrived (l : Launch) (D : va_G) (cs : Nat → ClassId) (S : List Nat) (ad : Nat → Nat) (hd : xdist S ad) {w : Nat} (hw : xWalk S w) (M : xm) : ∀ r, fX4_arrived w M = some r → Met l yX4_arrived [Cond.code yX4_arrived cX4_arrived 3 (some .int)] rmX4_arrived (XPc D cs S ad [.ref (ad w)] M) (XQi D cs S ad r M) 0 0 (xA S ad) := by
  refine xm_r (own := RX4) (lv := [(0, .ref (ad w))]) (by decide +kernel) rfl rfl (Nat.le_of_ble_eq_true rfl) hd (fun p e s m args below meth c Z => ?_)
  unfold fX4_arrived
  refine xj_iconst Z 0 dX4_arrived_0 (by decide) ?_
  refine xj_istore_n Z (lv' := [(1, .int 0), (0, .ref (ad w))]) dX4_arrived_1 rfl (by decide) rfl ?_
  refine xj_iconst Z 0 dX4_arrived_2 (by decide) ?_
  refine xj_istore_n Z (lv' := [(2, .int 0), (1, .int 0), (0, .ref (ad w))]) dX4_arrived_3 rfl (by decide) rfl ?_
  refine xj_sub [2, 1, 0] (lv' := [(0, .ref (ad w)), (1, .int 0), (2, .int 0)]) rfl ?_
  exact bX4_arrived_4 Z hw M xfuel 0 0
/-! WalkingLaw$Walk.goHours(I)V -/
theorem dX4_goHours_0 : decode cX4_goHours 0 = .ok (.iconst 0, 1) := by decide +kernel
theorem dX4_goHours_1 : decode cX4_goHours 1 = .ok (.istore_n 2, 1) := by decide +kernel
theorem dX4_goHours_2 : decode cX4_goHours 2 = .ok (.iload_n 2, 1) := by decide +kernel
theorem dX4_goHours_3 : decode cX4_goHours 3 = .ok (.iload_n 1, 1) := by decide +kernel
theorem dX4_goHours_4 : decode cX4_goHours 4 = .ok (.if_icmp .ge 14, 3) := by decide +kernel
theorem dX4_goHours_7 : decode cX4_goHours 7 = .ok (.aload_n 0, 1) := by decide +kernel
theorem dX4_goHours_8 : decode cX4_goHours 8 = .ok (.iconst (-1), 1) := by decide +kernel
theorem dX4_goHours_9 : decode cX4_goHours 9 = .ok (.invokevirtual 61, 3) := by decide +kernel
theorem dX4_goHours_12 : decode cX4_goHours 12 = .ok (.iinc 2 1, 3) := by decide +kernel
theorem dX4_goHours_15 : decode cX4_goHours 15 = .ok (.goto (-13), 3) := by decide +kernel
theorem dX4_goHours_18 : decode cX4_goHours 18 = .ok (.return_, 1) := by decide +kernel
def rmX4_goHours : Room := { frames := 4, cells := 0, slots := 0, locals := 89 }
def fX4_goHours_2 (w : Nat) (x1 : Int32) : Nat → Int32 → xm → Option (xm)
  | 0, _, _ => none
  | n + 1, x2, M => (if x1 ≤ x2 then (some M) else (fX4_goHour w (-1) M).bind (fun M1 => (fX4_goHours_2 w x1 n (x2 + 1) M1)))
def fX4_goHours (w : Nat) (x1 : Int32) (M : xm) : Option (xm) := (fX4_goHours_2 w x1 xfuel 0 M)
section
variable {p : Program} {l : Launch} {e : Env} {s : State} {m : MethodId} {args : Array Value} {below : List Frame} {meth : Method} {c : Code} {D : va_G} {cs : Nat → ClassId} {S : List Nat} {ad : Nat → Nat} {w : Nat}
theorem bX4_goHours_2 (Z : CX p s m args meth c cX4_goHours 3 RX4 none D cs (xA S ad) S ad) (hw : xWalk S w) (x1 : Int32) : ∀ (n : Nat) (x2 : Int32) (M : xm), XJ p l e rmX4_goHours s m args below meth c D cs (xA S ad) S ad 3 (XRm below args s D cs S ad) 2 [(0, .ref (ad w)), (1, .int x1), (2, .int x2)] [] M (fX4_goHours_2 w x1 n x2 M) := by
  intro n
  induction n with
  | zero => intros; exact xj_none
  | succ n ih =>
    intro x2 M
    rw [fX4_goHours_2]
    refine xj_iload_n Z 2 dX4_goHours_2 rfl rfl ?_
    refine xj_iload_n Z 1 dX4_goHours_3 rfl rfl ?_
    refine xj_icmp_ge Z 18 dX4_goHours_4 (by decide) (fun _ => ?_) (fun _ => ?_)
    · exact xj_vret Z dX4_goHours_18
    · refine xj_aload_n Z 0 dX4_goHours_7 rfl rfl ?_
      refine xj_iconst Z (-1) dX4_goHours_8 (by decide) ?_
      refine xj_callVm Z (As := [.int (-1)]) (kX4_goHour l D cs S ad Z.2.2.2.2.2.1.dist hw (-1) M) gw_X4_61 (hw.mem 0 (by decide)) hw.lay rfl (n := 1) (by decide +kernel) rfl ⟨rfl, rfl⟩ (by decide) rfl (Nat.le_of_ble_eq_true rfl) dX4_goHours_9 (fun M1 => ?_)
      refine xj_iinc Z 2 (x2 + 1) (lv' := [(2, .int (x2 + 1)), (0, .ref (ad w)), (1, .int x1)]) dX4_goHours_12 rfl rfl (by decide) rfl ?_
      refine xj_goto Z 2 dX4_goHours_15 (by decide) ?_
      refine xj_sub [1, 2, 0] (lv' := [(0, .ref (ad w)), (1, .int x1), (2, .int (x2 + 1))]) rfl ?_
      exact ih (x2 + 1) M1
end
theorem kX4_goHours (l : Launch) (D : va_G) (cs : Nat → ClassId) (S : List Nat) (ad : Nat → Nat) (hd : xdist S ad) {w : Nat} (hw : xWalk S w) (x1 : Int32) (M : xm) : ∀ r, fX4_goHours w x1 M = some r → Met l yX4_goHours [Cond.code yX4_goHours cX4_goHours 3 none] rmX4_goHours (XPc D cs S ad [.ref (ad w), .int x1] M) (XQv D cs S ad r) 0 0 (xA S ad) := by
  refine xm_m (own := RX4) (lv := [(0, .ref (ad w)), (1, .int x1)]) (by decide +kernel) rfl rfl (Nat.le_of_ble_eq_true rfl) hd (fun p e s m args below meth c Z => ?_)
  unfold fX4_goHours
  refine xj_iconst Z 0 dX4_goHours_0 (by decide) ?_
  refine xj_istore_n Z (lv' := [(2, .int 0), (0, .ref (ad w)), (1, .int x1)]) dX4_goHours_1 rfl (by decide) rfl ?_
  refine xj_sub [1, 2, 0] (lv' := [(0, .ref (ad w)), (1, .int x1), (2, .int 0)]) rfl ?_
  exact bX4_goHours_2 Z hw x1 xfuel 0 M
/-! WalkingLaw$Walk.yesIn(II)I -/
theorem dX4_yesIn_0 : decode cX4_yesIn 0 = .ok (.aload_n 0, 1) := by decide +kernel
theorem dX4_yesIn_1 : decode cX4_yesIn 1 = .ok (.aload_n 0, 1) := by decide +kernel
theorem dX4_yesIn_2 : decode cX4_yesIn 2 = .ok (.iload_n 1, 1) := by decide +kernel
theorem dX4_yesIn_3 : decode cX4_yesIn 3 = .ok (.invokevirtual 80, 3) := by decide +kernel
theorem dX4_yesIn_6 : decode cX4_yesIn 6 = .ok (.iload_n 1, 1) := by decide +kernel
theorem dX4_yesIn_7 : decode cX4_yesIn 7 = .ok (.iload_n 2, 1) := by decide +kernel
theorem dX4_yesIn_8 : decode cX4_yesIn 8 = .ok (.iconst 0, 1) := by decide +kernel
theorem dX4_yesIn_9 : decode cX4_yesIn 9 = .ok (.invokevirtual 100, 3) := by decide +kernel
theorem dX4_yesIn_12 : decode cX4_yesIn 12 = .ok (.ireturn, 1) := by decide +kernel
def rmX4_yesIn : Room := { frames := 2, cells := 0, slots := 0, locals := 46 }
def fX4_yesIn (w : Nat) (x1 : Int32) (x2 : Int32) (M : xm) : Option (Int32) := (fX4_thoseIn w x1 M).bind (fun v1 => (fX4_yesOf w v1 x1 x2 0 M).bind (fun v2 => (some v2)))
section
variable {p : Program} {l : Launch} {e : Env} {s : State} {m : MethodId} {args : Array Value} {below : List Frame} {meth : Method} {c : Code} {D : va_G} {cs : Nat → ClassId} {S : List Nat} {ad : Nat → Nat} {w : Nat}
end
theorem kX4_yesIn (l : Launch) (D : va_G) (cs : Nat → ClassId) (S : List Nat) (ad : Nat → Nat) (hd : xdist S ad) {w : Nat} (hw : xWalk S w) (x1 : Int32) (x2 : Int32) (M : xm) : ∀ r, fX4_yesIn w x1 x2 M = some r → Met l yX4_yesIn [Cond.code yX4_yesIn cX4_yesIn 3 (some .int)] rmX4_yesIn (XPc D cs S ad [.ref (ad w), .int x1, .int x2] M) (XQi D cs S ad r M) 0 0 (xA S ad) := by
  refine xm_r (own := RX4) (lv := [(0, .ref (ad w)), (1, .int x1), (2, .int x2)]) (by decide +kernel) rfl rfl (Nat.le_of_ble_eq_true rfl) hd (fun p e s m args below meth c Z => ?_)
  unfold fX4_yesIn
  refine xj_aload_n Z 0 dX4_yesIn_0 rfl rfl ?_
  refine xj_aload_n Z 0 dX4_yesIn_1 rfl rfl ?_
  refine xj_iload_n Z 1 dX4_yesIn_2 rfl rfl ?_
  refine xj_callVr Z (As := [.int x1]) (kX4_thoseIn l D cs S ad Z.2.2.2.2.2.1.dist hw x1 M) gw_X4_80 (hw.mem 0 (by decide)) hw.lay rfl (n := 1) (by decide +kernel) rfl ⟨rfl, rfl⟩ (by decide) rfl (Nat.le_of_ble_eq_true rfl) dX4_yesIn_3 (fun v1 => ?_)
  refine xj_iload_n Z 1 dX4_yesIn_6 rfl rfl ?_
  refine xj_iload_n Z 2 dX4_yesIn_7 rfl rfl ?_
  refine xj_iconst Z 0 dX4_yesIn_8 (by decide) ?_
  refine xj_callVr Z (As := [.int v1, .int x1, .int x2, .int 0]) (kX4_yesOf l D cs S ad Z.2.2.2.2.2.1.dist hw v1 x1 x2 0 M) gw_X4_100 (hw.mem 0 (by decide)) hw.lay rfl (n := 4) (by decide +kernel) rfl ⟨rfl, rfl⟩ (by decide) rfl (Nat.le_of_ble_eq_true rfl) dX4_yesIn_9 (fun v2 => ?_)
  exact xj_ret_r Z dX4_yesIn_12
/-! WalkingLaw$Walk.noIn(II)I -/
theorem dX4_noIn_0 : decode cX4_noIn 0 = .ok (.aload_n 0, 1) := by decide +kernel
theorem dX4_noIn_1 : decode cX4_noIn 1 = .ok (.aload_n 0, 1) := by decide +kernel
theorem dX4_noIn_2 : decode cX4_noIn 2 = .ok (.iload_n 1, 1) := by decide +kernel
theorem dX4_noIn_3 : decode cX4_noIn 3 = .ok (.invokevirtual 80, 3) := by decide +kernel
theorem dX4_noIn_6 : decode cX4_noIn 6 = .ok (.iload_n 1, 1) := by decide +kernel
theorem dX4_noIn_7 : decode cX4_noIn 7 = .ok (.iload_n 2, 1) := by decide +kernel
theorem dX4_noIn_8 : decode cX4_noIn 8 = .ok (.invokevirtual 104, 3) := by decide +kernel
theorem dX4_noIn_11 : decode cX4_noIn 11 = .ok (.ireturn, 1) := by decide +kernel
def rmX4_noIn : Room := { frames := 2, cells := 0, slots := 0, locals := 45 }
def fX4_noIn (w : Nat) (x1 : Int32) (x2 : Int32) (M : xm) : Option (Int32) := (fX4_thoseIn w x1 M).bind (fun v1 => (fX4_noOf w v1 x1 x2 M).bind (fun v2 => (some v2)))
section
variable {p : Program} {l : Launch} {e : Env} {s : State} {m : MethodId} {args : Array Value} {below : List Frame} {meth : Method} {c : Code} {D : va_G} {cs : Nat → ClassId} {S : List Nat} {ad : Nat → Nat} {w : Nat}
end
theorem kX4_noIn (l : Launch) (D : va_G) (cs : Nat → ClassId) (S : List Nat) (ad : Nat → Nat) (hd : xdist S ad) {w : Nat} (hw : xWalk S w) (x1 : Int32) (x2 : Int32) (M : xm) : ∀ r, fX4_noIn w x1 x2 M = some r → Met l yX4_noIn [Cond.code yX4_noIn cX4_noIn 3 (some .int)] rmX4_noIn (XPc D cs S ad [.ref (ad w), .int x1, .int x2] M) (XQi D cs S ad r M) 0 0 (xA S ad) := by
  refine xm_r (own := RX4) (lv := [(0, .ref (ad w)), (1, .int x1), (2, .int x2)]) (by decide +kernel) rfl rfl (Nat.le_of_ble_eq_true rfl) hd (fun p e s m args below meth c Z => ?_)
  unfold fX4_noIn
  refine xj_aload_n Z 0 dX4_noIn_0 rfl rfl ?_
  refine xj_aload_n Z 0 dX4_noIn_1 rfl rfl ?_
  refine xj_iload_n Z 1 dX4_noIn_2 rfl rfl ?_
  refine xj_callVr Z (As := [.int x1]) (kX4_thoseIn l D cs S ad Z.2.2.2.2.2.1.dist hw x1 M) gw_X4_80 (hw.mem 0 (by decide)) hw.lay rfl (n := 1) (by decide +kernel) rfl ⟨rfl, rfl⟩ (by decide) rfl (Nat.le_of_ble_eq_true rfl) dX4_noIn_3 (fun v1 => ?_)
  refine xj_iload_n Z 1 dX4_noIn_6 rfl rfl ?_
  refine xj_iload_n Z 2 dX4_noIn_7 rfl rfl ?_
  refine xj_callVr Z (As := [.int v1, .int x1, .int x2]) (kX4_noOf l D cs S ad Z.2.2.2.2.2.1.dist hw v1 x1 x2 M) gw_X4_104 (hw.mem 0 (by decide)) hw.lay rfl (n := 3) (by decide +kernel) rfl ⟨rfl, rfl⟩ (by decide) rfl (Nat.le_of_ble_eq_true rfl) dX4_noIn_8 (fun v2 => ?_)
  exact xj_ret_r Z dX4_noIn_11
/-! WalkingLaw$Walk.readOut(I)Z -/
theorem dX4_readOut_0 : decode cX4_readOut 0 = .ok (.aload_n 0, 1) := by decide +kernel
theorem dX4_readOut_1 : decode cX4_readOut 1 = .ok (.iconst 0, 1) := by decide +kernel
theorem dX4_readOut_2 : decode cX4_readOut 2 = .ok (.invokevirtual 118, 3) := by decide +kernel
theorem dX4_readOut_5 : decode cX4_readOut 5 = .ok (.istore_n 2, 1) := by decide +kernel
theorem dX4_readOut_6 : decode cX4_readOut 6 = .ok (.aload_n 0, 1) := by decide +kernel
theorem dX4_readOut_7 : decode cX4_readOut 7 = .ok (.iload_n 2, 1) := by decide +kernel
theorem dX4_readOut_8 : decode cX4_readOut 8 = .ok (.iload_n 1, 1) := by decide +kernel
theorem dX4_readOut_9 : decode cX4_readOut 9 = .ok (.iconst 0, 1) := by decide +kernel
theorem dX4_readOut_10 : decode cX4_readOut 10 = .ok (.invokevirtual 121, 3) := by decide +kernel
theorem dX4_readOut_13 : decode cX4_readOut 13 = .ok (.ifCond .ne 5, 3) := by decide +kernel
theorem dX4_readOut_16 : decode cX4_readOut 16 = .ok (.iconst 0, 1) := by decide +kernel
theorem dX4_readOut_17 : decode cX4_readOut 17 = .ok (.ireturn, 1) := by decide +kernel
theorem dX4_readOut_18 : decode cX4_readOut 18 = .ok (.aload_n 0, 1) := by decide +kernel
theorem dX4_readOut_19 : decode cX4_readOut 19 = .ok (.getfield 18, 3) := by decide +kernel
theorem dX4_readOut_22 : decode cX4_readOut 22 = .ok (.iload_n 1, 1) := by decide +kernel
theorem dX4_readOut_23 : decode cX4_readOut 23 = .ok (.iaload, 1) := by decide +kernel
theorem dX4_readOut_24 : decode cX4_readOut 24 = .ok (.ifCond .ne 10, 3) := by decide +kernel
theorem dX4_readOut_27 : decode cX4_readOut 27 = .ok (.aload_n 0, 1) := by decide +kernel
theorem dX4_readOut_28 : decode cX4_readOut 28 = .ok (.getfield 21, 3) := by decide +kernel
theorem dX4_readOut_31 : decode cX4_readOut 31 = .ok (.iload_n 1, 1) := by decide +kernel
theorem dX4_readOut_32 : decode cX4_readOut 32 = .ok (.iload_n 2, 1) := by decide +kernel
theorem dX4_readOut_33 : decode cX4_readOut 33 = .ok (.iastore, 1) := by decide +kernel
theorem dX4_readOut_34 : decode cX4_readOut 34 = .ok (.aload_n 0, 1) := by decide +kernel
theorem dX4_readOut_35 : decode cX4_readOut 35 = .ok (.getfield 18, 3) := by decide +kernel
theorem dX4_readOut_38 : decode cX4_readOut 38 = .ok (.iload_n 1, 1) := by decide +kernel
theorem dX4_readOut_39 : decode cX4_readOut 39 = .ok (.dup2, 1) := by decide +kernel
theorem dX4_readOut_40 : decode cX4_readOut 40 = .ok (.iaload, 1) := by decide +kernel
theorem dX4_readOut_41 : decode cX4_readOut 41 = .ok (.iconst 1, 1) := by decide +kernel
theorem dX4_readOut_42 : decode cX4_readOut 42 = .ok (.iload_n 2, 1) := by decide +kernel
theorem dX4_readOut_43 : decode cX4_readOut 43 = .ok (.ishl, 1) := by decide +kernel
theorem dX4_readOut_44 : decode cX4_readOut 44 = .ok (.ior, 1) := by decide +kernel
theorem dX4_readOut_45 : decode cX4_readOut 45 = .ok (.iastore, 1) := by decide +kernel
theorem dX4_readOut_46 : decode cX4_readOut 46 = .ok (.iconst 1, 1) := by decide +kernel
theorem dX4_readOut_47 : decode cX4_readOut 47 = .ok (.ireturn, 1) := by decide +kernel
def rmX4_readOut : Room := { frames := 3, cells := 0, slots := 0, locals := 70 }
def fX4_readOut_34 (w : Nat) (x1 : Int32) (x2 : Int32) (M : xm) : Option (Int32 × xm) := xchk x1 4 (xchk x1 4 (xl (up M (w + 3) (x1 : Int32).toNatClampNeg ((M.1 (w + 3) x1.toNatClampNeg) ||| (1 <<< (x2 &&& 31)))) (fun M1 => (xbo 1 (some (1, M1))))))
def fX4_readOut (w : Nat) (x1 : Int32) (M : xm) : Option (Int32 × xm) := (fX4_parishOf w 0 M).bind (fun v2 => (fX4_passesIn w v2 x1 0 M).bind (fun v3 => (if v3 = 0 then (xbo 0 (some (0, M))) else xchk x1 4 ((if (M.1 (w + 3) x1.toNatClampNeg) = 0 then xchk x1 4 (xl (up M (w + 4) (x1 : Int32).toNatClampNeg v2) (fun M4 => (fX4_readOut_34 w x1 v2 M4))) else (fX4_readOut_34 w x1 v2 M))))))
section
variable {p : Program} {l : Launch} {e : Env} {s : State} {m : MethodId} {args : Array Value} {below : List Frame} {meth : Method} {c : Code} {D : va_G} {cs : Nat → ClassId} {S : List Nat} {ad : Nat → Nat} {w : Nat}
theorem bX4_readOut_34 (Z : CX p s m args meth c cX4_readOut 3 RX4 (some .boolean) D cs (xA S ad) S ad) (hw : xWalk S w) (x1 : Int32) (x2 : Int32) (M : xm) : XJ p l e rmX4_readOut s m args below meth c D cs (xA S ad) S ad 3 (XRb below args s D cs S ad) 34 [(0, .ref (ad w)), (1, .int x1), (2, .int x2)] [] M (fX4_readOut_34 w x1 x2 M) := by
  unfold fX4_readOut_34
  refine xj_aload_n Z 0 dX4_readOut_34 rfl rfl ?_
  refine xg_X4_18 Z (hw.mem 0 (by decide)) hw.lay dX4_readOut_35 ?_
  refine xj_iload_n Z 1 dX4_readOut_38 rfl rfl ?_
  refine xj_dup2 Z dX4_readOut_39 rfl rfl ?_
  refine xj_iald Z (hw.mem 3 (by decide)) hw.lay3 dX4_readOut_40 (fun _ => ?_)
  refine xj_iconst Z 1 dX4_readOut_41 (by decide) ?_
  refine xj_iload_n Z 2 dX4_readOut_42 rfl rfl ?_
  refine xj_ishl Z dX4_readOut_43 ?_
  refine xj_ior Z dX4_readOut_44 ?_
  refine xj_iast Z (hw.mem 3 (by decide)) hw.lay3 dX4_readOut_45 (fun M1 _ => ?_)
  refine xj_iconst Z 1 dX4_readOut_46 (by decide) ?_
  exact xj_zret_b Z dX4_readOut_47
end
theorem kX4_readOut (l : Launch) (D : va_G) (cs : Nat → ClassId) (S : List Nat) (ad : Nat → Nat) (hd : xdist S ad) {w : Nat} (hw : xWalk S w) (x1 : Int32) (M : xm) : ∀ r, fX4_readOut w x1 M = some r → Met l yX4_readOut [Cond.code yX4_readOut cX4_readOut 3 (some .boolean)] rmX4_readOut (XPc D cs S ad [.ref (ad w), .int x1] M) (XQi D cs S ad r.1 r.2) 0 0 (xA S ad) := by
  refine xm_b (own := RX4) (lv := [(0, .ref (ad w)), (1, .int x1)]) (by decide +kernel) rfl rfl (Nat.le_of_ble_eq_true rfl) hd (fun p e s m args below meth c Z => ?_)
  unfold fX4_readOut
  refine xj_aload_n Z 0 dX4_readOut_0 rfl rfl ?_
  refine xj_iconst Z 0 dX4_readOut_1 (by decide) ?_
  refine xj_callVr Z (As := [.int 0]) (kX4_parishOf l D cs S ad Z.2.2.2.2.2.1.dist hw 0 M) gw_X4_118 (hw.mem 0 (by decide)) hw.lay rfl (n := 1) (by decide +kernel) rfl ⟨rfl, rfl⟩ (by decide) rfl (Nat.le_of_ble_eq_true rfl) dX4_readOut_2 (fun v2 => ?_)
  refine xj_istore_n Z (lv' := [(2, .int v2), (0, .ref (ad w)), (1, .int x1)]) dX4_readOut_5 rfl (by decide) rfl ?_
  refine xj_aload_n Z 1 dX4_readOut_6 rfl rfl ?_
  refine xj_iload_n Z 0 dX4_readOut_7 rfl rfl ?_
  refine xj_iload_n Z 2 dX4_readOut_8 rfl rfl ?_
  refine xj_iconst Z 0 dX4_readOut_9 (by decide) ?_
  refine xj_callVr Z (As := [.int v2, .int x1, .int 0]) (kX4_passesIn l D cs S ad Z.2.2.2.2.2.1.dist hw v2 x1 0 M) gw_X4_121 (hw.mem 0 (by decide)) hw.lay rfl (n := 3) (by decide +kernel) rfl ⟨rfl, rfl⟩ (by decide) rfl (Nat.le_of_ble_eq_true rfl) dX4_readOut_10 (fun v3 => ?_)
  refine xj_if_ne Z 18 dX4_readOut_13 (by decide) (fun _ => ?_) (fun _ => ?_)
  · refine xj_aload_n Z 1 dX4_readOut_18 rfl rfl ?_
    refine xg_X4_18 Z (hw.mem 0 (by decide)) hw.lay dX4_readOut_19 ?_
    refine xj_iload_n Z 2 dX4_readOut_22 rfl rfl ?_
    refine xj_iald Z (hw.mem 3 (by decide)) hw.lay3 dX4_readOut_23 (fun _ => ?_)
    refine xj_if_ne Z 34 dX4_readOut_24 (by decide) (fun _ => ?_) (fun _ => ?_)
    · refine xj_sub [1, 2, 0] (lv' := [(0, .ref (ad w)), (1, .int x1), (2, .int v2)]) rfl ?_
      exact bX4_readOut_34 Z hw x1 v2 M
    · refine xj_aload_n Z 1 dX4_readOut_27 rfl rfl ?_
      refine xg_X4_21 Z (hw.mem 0 (by decide)) hw.lay dX4_readOut_28 ?_
      refine xj_iload_n Z 2 dX4_readOut_31 rfl rfl ?_
      refine xj_iload_n Z 0 dX4_readOut_32 rfl rfl ?_
      refine xj_iast Z (hw.mem 4 (by decide)) hw.lay4 dX4_readOut_33 (fun M4 _ => ?_)
      refine xj_sub [1, 2, 0] (lv' := [(0, .ref (ad w)), (1, .int x1), (2, .int v2)]) rfl ?_
      exact bX4_readOut_34 Z hw x1 v2 M4
  · refine xj_iconst Z 0 dX4_readOut_16 (by decide) ?_
    exact xj_zret_b Z dX4_readOut_17
/-! WalkingLaw$Walk.readAllFor(I)V -/
theorem dX4_readAllFor_0 : decode cX4_readAllFor 0 = .ok (.iconst 0, 1) := by decide +kernel
theorem dX4_readAllFor_1 : decode cX4_readAllFor 1 = .ok (.istore_n 2, 1) := by decide +kernel
theorem dX4_readAllFor_2 : decode cX4_readAllFor 2 = .ok (.iload_n 2, 1) := by decide +kernel
theorem dX4_readAllFor_3 : decode cX4_readAllFor 3 = .ok (.iload_n 1, 1) := by decide +kernel
theorem dX4_readAllFor_4 : decode cX4_readAllFor 4 = .ok (.if_icmp .gt 43, 3) := by decide +kernel
theorem dX4_readAllFor_7 : decode cX4_readAllFor 7 = .ok (.iload_n 2, 1) := by decide +kernel
theorem dX4_readAllFor_8 : decode cX4_readAllFor 8 = .ok (.ifCond .le 8, 3) := by decide +kernel
theorem dX4_readAllFor_11 : decode cX4_readAllFor 11 = .ok (.aload_n 0, 1) := by decide +kernel
theorem dX4_readAllFor_12 : decode cX4_readAllFor 12 = .ok (.iconst (-1), 1) := by decide +kernel
theorem dX4_readAllFor_13 : decode cX4_readAllFor 13 = .ok (.invokevirtual 61, 3) := by decide +kernel
theorem dX4_readAllFor_16 : decode cX4_readAllFor 16 = .ok (.iconst 0, 1) := by decide +kernel
theorem dX4_readAllFor_17 : decode cX4_readAllFor 17 = .ok (.istore_n 3, 1) := by decide +kernel
theorem dX4_readAllFor_18 : decode cX4_readAllFor 18 = .ok (.iload_n 3, 1) := by decide +kernel
theorem dX4_readAllFor_19 : decode cX4_readAllFor 19 = .ok (.aload_n 0, 1) := by decide +kernel
theorem dX4_readAllFor_20 : decode cX4_readAllFor 20 = .ok (.getfield 28, 3) := by decide +kernel
theorem dX4_readAllFor_23 : decode cX4_readAllFor 23 = .ok (.getfield 91, 3) := by decide +kernel
theorem dX4_readAllFor_26 : decode cX4_readAllFor 26 = .ok (.if_icmp .ge 15, 3) := by decide +kernel
theorem dX4_readAllFor_29 : decode cX4_readAllFor 29 = .ok (.aload_n 0, 1) := by decide +kernel
theorem dX4_readAllFor_30 : decode cX4_readAllFor 30 = .ok (.iload_n 3, 1) := by decide +kernel
theorem dX4_readAllFor_31 : decode cX4_readAllFor 31 = .ok (.invokevirtual 125, 3) := by decide +kernel
theorem dX4_readAllFor_34 : decode cX4_readAllFor 34 = .ok (.pop, 1) := by decide +kernel
theorem dX4_readAllFor_35 : decode cX4_readAllFor 35 = .ok (.iinc 3 1, 3) := by decide +kernel
theorem dX4_readAllFor_38 : decode cX4_readAllFor 38 = .ok (.goto (-20), 3) := by decide +kernel
theorem dX4_readAllFor_41 : decode cX4_readAllFor 41 = .ok (.iinc 2 1, 3) := by decide +kernel
theorem dX4_readAllFor_44 : decode cX4_readAllFor 44 = .ok (.goto (-42), 3) := by decide +kernel
theorem dX4_readAllFor_47 : decode cX4_readAllFor 47 = .ok (.return_, 1) := by decide +kernel
def rmX4_readAllFor : Room := { frames := 4, cells := 0, slots := 0, locals := 92 }
def fX4_readAllFor_18 (w : Nat) (k2 : Int32 → xm → Option (xm)) (x1 : Int32) (x2 : Int32) : Nat → Int32 → xm → Option (xm)
  | 0, _, _ => none
  | n + 1, x3, M => (if (M.1 (rd (M.2 w)) 12) ≤ x3 then (k2 (x2 + 1) M) else (fX4_readOut w x3 M).bind (fun q1 => (fX4_readAllFor_18 w k2 x1 x2 n (x3 + 1) q1.2)))
def fX4_readAllFor_16 (w : Nat) (k2 : Int32 → xm → Option (xm)) (x1 : Int32) (x2 : Int32) (M : xm) : Option (xm) := (fX4_readAllFor_18 w (k2) x1 x2 xfuel 0 M)
def fX4_readAllFor_2 (w : Nat) (x1 : Int32) : Nat → Int32 → xm → Option (xm)
  | 0, _, _ => none
  | n + 1, x2, M => (if x1 < x2 then (some M) else (if x2 ≤ 0 then (fX4_readAllFor_16 w (fun z0 z1 => fX4_readAllFor_2 w x1 n z0 z1) x1 x2 M) else (fX4_goHour w (-1) M).bind (fun M2 => (fX4_readAllFor_16 w (fun z0 z1 => fX4_readAllFor_2 w x1 n z0 z1) x1 x2 M2))))
def fX4_readAllFor (w : Nat) (x1 : Int32) (M : xm) : Option (xm) := (fX4_readAllFor_2 w x1 xfuel 0 M)
section
variable {p : Program} {l : Launch} {e : Env} {s : State} {m : MethodId} {args : Array Value} {below : List Frame} {meth : Method} {c : Code} {D : va_G} {cs : Nat → ClassId} {S : List Nat} {ad : Nat → Nat} {w : Nat}
theorem bX4_readAllFor_18 (Z : CX p s m args meth c cX4_readAllFor 4 RX4 none D cs (xA S ad) S ad) (hw : xWalk S w) {k2 : Int32 → xm → Option (xm)} (x1 : Int32) (x2 : Int32) (hk2 : ∀ (x2 : Int32) (M : xm), XJ p l e rmX4_readAllFor s m args below meth c D cs (xA S ad) S ad 4 (XRm below args s D cs S ad) 2 [(0, .ref (ad w)), (1, .int x1), (2, .int x2)] [] M (k2 x2 M)) : ∀ (n : Nat) (x3 : Int32) (M : xm), XJ p l e rmX4_readAllFor s m args below meth c D cs (xA S ad) S ad 4 (XRm below args s D cs S ad) 18 [(0, .ref (ad w)), (1, .int x1), (2, .int x2), (3, .int x3)] [] M (fX4_readAllFor_18 w k2 x1 x2 n x3 M) := by
  intro n
  induction n with
  | zero => intros; exact xj_none
  | succ n ih =>
    intro x3 M
    rw [fX4_readAllFor_18]
    refine xj_iload_n Z 3 dX4_readAllFor_18 rfl rfl ?_
    refine xj_aload_n Z 0 dX4_readAllFor_19 rfl rfl ?_
    refine xg_X4_28 Z (hw.mem 0 (by decide)) hw.lay dX4_readAllFor_20 ?_
    refine xg_X4_91 Z ((hw.road (M.2 w)).mem 0 (by decide)) (hw.road (M.2 w)).lay dX4_readAllFor_23 ?_
    refine xj_icmp_ge Z 41 dX4_readAllFor_26 (by decide) (fun _ => ?_) (fun _ => ?_)
    · refine xj_iinc Z 2 (x2 + 1) (lv' := [(2, .int (x2 + 1)), (0, .ref (ad w)), (1, .int x1), (3, .int x3)]) dX4_readAllFor_41 rfl rfl (by decide) rfl ?_
      refine xj_goto Z 2 dX4_readAllFor_44 (by decide) ?_
      refine xj_sub [1, 2, 0] (lv' := [(0, .ref (ad w)), (1, .int x1), (2, .int (x2 + 1))]) rfl ?_
      exact hk2 (x2 + 1) M
    · refine xj_aload_n Z 0 dX4_readAllFor_29 rfl rfl ?_
      refine xj_iload_n Z 3 dX4_readAllFor_30 rfl rfl ?_
      refine xj_callVb Z (As := [.int x3]) (kX4_readOut l D cs S ad Z.2.2.2.2.2.1.dist hw x3 M) gw_X4_125 (hw.mem 0 (by decide)) hw.lay rfl (n := 1) (by decide +kernel) rfl ⟨rfl, rfl⟩ (by decide) rfl (Nat.le_of_ble_eq_true rfl) dX4_readAllFor_31 (fun q1 => ?_)
      refine xj_pop Z dX4_readAllFor_34 rfl ?_
      refine xj_iinc Z 3 (x3 + 1) (lv' := [(3, .int (x3 + 1)), (0, .ref (ad w)), (1, .int x1), (2, .int x2)]) dX4_readAllFor_35 rfl rfl (by decide) rfl ?_
      refine xj_goto Z 18 dX4_readAllFor_38 (by decide) ?_
      refine xj_sub [1, 2, 3, 0] (lv' := [(0, .ref (ad w)), (1, .int x1), (2, .int x2), (3, .int (x3 + 1))]) rfl ?_
      exact ih (x3 + 1) q1.2
theorem bX4_readAllFor_16 (Z : CX p s m args meth c cX4_readAllFor 4 RX4 none D cs (xA S ad) S ad) (hw : xWalk S w) {k2 : Int32 → xm → Option (xm)} (x1 : Int32) (x2 : Int32) (M : xm) (hk2 : ∀ (x2 : Int32) (M : xm), XJ p l e rmX4_readAllFor s m args below meth c D cs (xA S ad) S ad 4 (XRm below args s D cs S ad) 2 [(0, .ref (ad w)), (1, .int x1), (2, .int x2)] [] M (k2 x2 M)) : XJ p l e rmX4_readAllFor s m args below meth c D cs (xA S ad) S ad 4 (XRm below args s D cs S ad) 16 [(0, .ref (ad w)), (1, .int x1), (2, .int x2)] [] M (fX4_readAllFor_16 w k2 x1 x2 M) := by
  unfold fX4_readAllFor_16
  refine xj_iconst Z 0 dX4_readAllFor_16 (by decide) ?_
  refine xj_istore_n Z (lv' := [(3, .int 0), (0, .ref (ad w)), (1, .int x1), (2, .int x2)]) dX4_readAllFor_17 rfl (by decide) rfl ?_
  refine xj_sub [1, 2, 3, 0] (lv' := [(0, .ref (ad w)), (1, .int x1), (2, .int x2), (3, .int 0)]) rfl ?_
  exact bX4_readAllFor_18 Z hw x1 x2 hk2 xfuel 0 M
theorem bX4_readAllFor_2 (Z : CX p s m args meth c cX4_readAllFor 4 RX4 none D cs (xA S ad) S ad) (hw : xWalk S w) (x1 : Int32) : ∀ (n : Nat) (x2 : Int32) (M : xm), XJ p l e rmX4_readAllFor s m args below meth c D cs (xA S ad) S ad 4 (XRm below args s D cs S ad) 2 [(0, .ref (ad w)), (1, .int x1), (2, .int x2)] [] M (fX4_readAllFor_2 w x1 n x2 M) := by
  intro n
  induction n with
  | zero => intros; exact xj_none
  | succ n ih =>
    intro x2 M
    rw [fX4_readAllFor_2]
    refine xj_iload_n Z 2 dX4_readAllFor_2 rfl rfl ?_
    refine xj_iload_n Z 1 dX4_readAllFor_3 rfl rfl ?_
    refine xj_icmp_gt Z 47 dX4_readAllFor_4 (by decide) (fun _ => ?_) (fun _ => ?_)
    · exact xj_vret Z dX4_readAllFor_47
    · refine xj_iload_n Z 2 dX4_readAllFor_7 rfl rfl ?_
      refine xj_if_le Z 16 dX4_readAllFor_8 (by decide) (fun _ => ?_) (fun _ => ?_)
      · exact bX4_readAllFor_16 Z hw x1 x2 M ih
      · refine xj_aload_n Z 0 dX4_readAllFor_11 rfl rfl ?_
        refine xj_iconst Z (-1) dX4_readAllFor_12 (by decide) ?_
        refine xj_callVm Z (As := [.int (-1)]) (kX4_goHour l D cs S ad Z.2.2.2.2.2.1.dist hw (-1) M) gw_X4_61 (hw.mem 0 (by decide)) hw.lay rfl (n := 1) (by decide +kernel) rfl ⟨rfl, rfl⟩ (by decide) rfl (Nat.le_of_ble_eq_true rfl) dX4_readAllFor_13 (fun M2 => ?_)
        exact bX4_readAllFor_16 Z hw x1 x2 M2 ih
end
theorem kX4_readAllFor (l : Launch) (D : va_G) (cs : Nat → ClassId) (S : List Nat) (ad : Nat → Nat) (hd : xdist S ad) {w : Nat} (hw : xWalk S w) (x1 : Int32) (M : xm) : ∀ r, fX4_readAllFor w x1 M = some r → Met l yX4_readAllFor [Cond.code yX4_readAllFor cX4_readAllFor 4 none] rmX4_readAllFor (XPc D cs S ad [.ref (ad w), .int x1] M) (XQv D cs S ad r) 0 0 (xA S ad) := by
  refine xm_m (own := RX4) (lv := [(0, .ref (ad w)), (1, .int x1)]) (by decide +kernel) rfl rfl (Nat.le_of_ble_eq_true rfl) hd (fun p e s m args below meth c Z => ?_)
  unfold fX4_readAllFor
  refine xj_iconst Z 0 dX4_readAllFor_0 (by decide) ?_
  refine xj_istore_n Z (lv' := [(2, .int 0), (0, .ref (ad w)), (1, .int x1)]) dX4_readAllFor_1 rfl (by decide) rfl ?_
  refine xj_sub [1, 2, 0] (lv' := [(0, .ref (ad w)), (1, .int x1), (2, .int 0)]) rfl ?_
  exact bX4_readAllFor_2 Z hw x1 xfuel 0 M
/-! WalkingLaw$Walk.isHeld(I)Z -/
theorem dX4_isHeld_0 : decode cX4_isHeld 0 = .ok (.aload_n 0, 1) := by decide +kernel
theorem dX4_isHeld_1 : decode cX4_isHeld 1 = .ok (.getfield 18, 3) := by decide +kernel
theorem dX4_isHeld_4 : decode cX4_isHeld 4 = .ok (.iload_n 1, 1) := by decide +kernel
theorem dX4_isHeld_5 : decode cX4_isHeld 5 = .ok (.iaload, 1) := by decide +kernel
theorem dX4_isHeld_6 : decode cX4_isHeld 6 = .ok (.iconst 1, 1) := by decide +kernel
theorem dX4_isHeld_7 : decode cX4_isHeld 7 = .ok (.aload_n 0, 1) := by decide +kernel
theorem dX4_isHeld_8 : decode cX4_isHeld 8 = .ok (.getfield 28, 3) := by decide +kernel
theorem dX4_isHeld_11 : decode cX4_isHeld 11 = .ok (.getfield 55, 3) := by decide +kernel
theorem dX4_isHeld_14 : decode cX4_isHeld 14 = .ok (.ishl, 1) := by decide +kernel
theorem dX4_isHeld_15 : decode cX4_isHeld 15 = .ok (.iconst 1, 1) := by decide +kernel
theorem dX4_isHeld_16 : decode cX4_isHeld 16 = .ok (.isub, 1) := by decide +kernel
theorem dX4_isHeld_17 : decode cX4_isHeld 17 = .ok (.if_icmp .ne 7, 3) := by decide +kernel
theorem dX4_isHeld_20 : decode cX4_isHeld 20 = .ok (.iconst 1, 1) := by decide +kernel
theorem dX4_isHeld_21 : decode cX4_isHeld 21 = .ok (.goto 4, 3) := by decide +kernel
theorem dX4_isHeld_24 : decode cX4_isHeld 24 = .ok (.iconst 0, 1) := by decide +kernel
theorem dX4_isHeld_25 : decode cX4_isHeld 25 = .ok (.ireturn, 1) := by decide +kernel
def rmX4_isHeld : Room := { frames := 0, cells := 0, slots := 0, locals := 0 }
def fX4_isHeld_25 (w : Nat) (t0 : Int32) (M : xm) : Option (Int32) := (xbo t0 (some t0))
def fX4_isHeld (w : Nat) (x1 : Int32) (M : xm) : Option (Int32) := xchk x1 4 ((if (M.1 (w + 3) x1.toNatClampNeg) = ((1 <<< ((M.1 (rd (M.2 w)) 0) &&& 31)) - 1) then (fX4_isHeld_25 w 1 M) else (fX4_isHeld_25 w 0 M)))
section
variable {p : Program} {l : Launch} {e : Env} {s : State} {m : MethodId} {args : Array Value} {below : List Frame} {meth : Method} {c : Code} {D : va_G} {cs : Nat → ClassId} {S : List Nat} {ad : Nat → Nat} {w : Nat}
theorem bX4_isHeld_25 (Z : CX p s m args meth c cX4_isHeld 2 RX4 (some .boolean) D cs (xA S ad) S ad) (hw : xWalk S w) (t0 : Int32) (M : xm) : XJ p l e rmX4_isHeld s m args below meth c D cs (xA S ad) S ad 2 (XRr below args s D cs S ad M) 25 [] [.int t0] M (fX4_isHeld_25 w t0 M) := by
  unfold fX4_isHeld_25
  exact xj_zret_r Z dX4_isHeld_25
end
theorem kX4_isHeld (l : Launch) (D : va_G) (cs : Nat → ClassId) (S : List Nat) (ad : Nat → Nat) (hd : xdist S ad) {w : Nat} (hw : xWalk S w) (x1 : Int32) (M : xm) : ∀ r, fX4_isHeld w x1 M = some r → Met l yX4_isHeld [Cond.code yX4_isHeld cX4_isHeld 2 (some .boolean)] rmX4_isHeld (XPc D cs S ad [.ref (ad w), .int x1] M) (XQi D cs S ad r M) 0 0 (xA S ad) := by
  refine xm_r (own := RX4) (lv := [(0, .ref (ad w)), (1, .int x1)]) (by decide +kernel) rfl rfl (Nat.le_of_ble_eq_true rfl) hd (fun p e s m args below meth c Z => ?_)
  unfold fX4_isHeld
  refine xj_aload_n Z 0 dX4_isHeld_0 rfl rfl ?_
  refine xg_X4_18 Z (hw.mem 0 (by decide)) hw.lay dX4_isHeld_1 ?_
  refine xj_iload_n Z 1 dX4_isHeld_4 rfl rfl ?_
  refine xj_iald Z (hw.mem 3 (by decide)) hw.lay3 dX4_isHeld_5 (fun _ => ?_)
  refine xj_iconst Z 1 dX4_isHeld_6 (by decide) ?_
  refine xj_aload_n Z 0 dX4_isHeld_7 rfl rfl ?_
  refine xg_X4_28 Z (hw.mem 0 (by decide)) hw.lay dX4_isHeld_8 ?_
  refine xg_X4_55 Z ((hw.road (M.2 w)).mem 0 (by decide)) (hw.road (M.2 w)).lay dX4_isHeld_11 ?_
  refine xj_ishl Z dX4_isHeld_14 ?_
  refine xj_iconst Z 1 dX4_isHeld_15 (by decide) ?_
  refine xj_isub Z dX4_isHeld_16 ?_
  refine xj_icmp_ne Z 24 dX4_isHeld_17 (by decide) (fun _ => ?_) (fun _ => ?_)
  · refine xj_iconst Z 0 dX4_isHeld_24 (by decide) ?_
    refine xj_sub [] (lv' := []) rfl ?_
    exact bX4_isHeld_25 Z hw 0 M
  · refine xj_iconst Z 1 dX4_isHeld_20 (by decide) ?_
    refine xj_goto Z 25 dX4_isHeld_21 (by decide) ?_
    refine xj_sub [] (lv' := []) rfl ?_
    exact bX4_isHeld_25 Z hw 1 M
/-! WalkingLaw$Walk.allHeld()I -/
theorem dX4_allHeld_0 : decode cX4_allHeld 0 = .ok (.iconst 0, 1) := by decide +kernel
theorem dX4_allHeld_1 : decode cX4_allHeld 1 = .ok (.istore_n 1, 1) := by decide +kernel
theorem dX4_allHeld_2 : decode cX4_allHeld 2 = .ok (.iconst 0, 1) := by decide +kernel
theorem dX4_allHeld_3 : decode cX4_allHeld 3 = .ok (.istore_n 2, 1) := by decide +kernel
theorem dX4_allHeld_4 : decode cX4_allHeld 4 = .ok (.iload_n 2, 1) := by decide +kernel
theorem dX4_allHeld_5 : decode cX4_allHeld 5 = .ok (.aload_n 0, 1) := by decide +kernel
theorem dX4_allHeld_6 : decode cX4_allHeld 6 = .ok (.getfield 28, 3) := by decide +kernel
theorem dX4_allHeld_9 : decode cX4_allHeld 9 = .ok (.getfield 91, 3) := by decide +kernel
theorem dX4_allHeld_12 : decode cX4_allHeld 12 = .ok (.if_icmp .ge 23, 3) := by decide +kernel
theorem dX4_allHeld_15 : decode cX4_allHeld 15 = .ok (.aload_n 0, 1) := by decide +kernel
theorem dX4_allHeld_16 : decode cX4_allHeld 16 = .ok (.iload_n 2, 1) := by decide +kernel
theorem dX4_allHeld_17 : decode cX4_allHeld 17 = .ok (.invokevirtual 129, 3) := by decide +kernel
theorem dX4_allHeld_20 : decode cX4_allHeld 20 = .ok (.ifCond .eq 9, 3) := by decide +kernel
theorem dX4_allHeld_23 : decode cX4_allHeld 23 = .ok (.iload_n 1, 1) := by decide +kernel
theorem dX4_allHeld_24 : decode cX4_allHeld 24 = .ok (.iconst 1, 1) := by decide +kernel
theorem dX4_allHeld_25 : decode cX4_allHeld 25 = .ok (.iload_n 2, 1) := by decide +kernel
theorem dX4_allHeld_26 : decode cX4_allHeld 26 = .ok (.ishl, 1) := by decide +kernel
theorem dX4_allHeld_27 : decode cX4_allHeld 27 = .ok (.ior, 1) := by decide +kernel
theorem dX4_allHeld_28 : decode cX4_allHeld 28 = .ok (.istore_n 1, 1) := by decide +kernel
theorem dX4_allHeld_29 : decode cX4_allHeld 29 = .ok (.iinc 2 1, 3) := by decide +kernel
theorem dX4_allHeld_32 : decode cX4_allHeld 32 = .ok (.goto (-28), 3) := by decide +kernel
theorem dX4_allHeld_35 : decode cX4_allHeld 35 = .ok (.iload_n 1, 1) := by decide +kernel
theorem dX4_allHeld_36 : decode cX4_allHeld 36 = .ok (.ireturn, 1) := by decide +kernel
def rmX4_allHeld : Room := { frames := 1, cells := 0, slots := 0, locals := 21 }
def fX4_allHeld_29 (w : Nat) (k4 : Int32 → Int32 → Option (Int32)) (x1 : Int32) (x2 : Int32) (M : xm) : Option (Int32) := (k4 x1 (x2 + 1))
def fX4_allHeld_4 (w : Nat) (M : xm) : Nat → Int32 → Int32 → Option (Int32)
  | 0, _, _ => none
  | n + 1, x1, x2 => (if (M.1 (rd (M.2 w)) 12) ≤ x2 then (some x1) else (fX4_isHeld w x2 M).bind (fun v1 => (if v1 = 0 then (fX4_allHeld_29 w (fun z0 z1 => fX4_allHeld_4 w M n z0 z1) x1 x2 M) else xl (x1 ||| (1 <<< (x2 &&& 31))) (fun v2 => (fX4_allHeld_29 w (fun z0 z1 => fX4_allHeld_4 w M n z0 z1) v2 x2 M)))))
def fX4_allHeld (w : Nat) (M : xm) : Option (Int32) := (fX4_allHeld_4 w M xfuel 0 0)
section
variable {p : Program} {l : Launch} {e : Env} {s : State} {m : MethodId} {args : Array Value} {below : List Frame} {meth : Method} {c : Code} {D : va_G} {cs : Nat → ClassId} {S : List Nat} {ad : Nat → Nat} {w : Nat}
theorem bX4_allHeld_29 (Z : CX p s m args meth c cX4_allHeld 3 RX4 (some .int) D cs (xA S ad) S ad) (hw : xWalk S w) {k4 : Int32 → Int32 → Option (Int32)} (x1 : Int32) (x2 : Int32) (M : xm) (hk4 : ∀ (x1 : Int32) (x2 : Int32), XJ p l e rmX4_allHeld s m args below meth c D cs (xA S ad) S ad 3 (XRr below args s D cs S ad M) 4 [(0, .ref (ad w)), (1, .int x1), (2, .int x2)] [] M (k4 x1 x2)) : XJ p l e rmX4_allHeld s m args below meth c D cs (xA S ad) S ad 3 (XRr below args s D cs S ad M) 29 [(0, .ref (ad w)), (1, .int x1), (2, .int x2)] [] M (fX4_allHeld_29 w k4 x1 x2 M) := by
  unfold fX4_allHeld_29
  refine xj_iinc Z 2 (x2 + 1) (lv' := [(2, .int (x2 + 1)), (0, .ref (ad w)), (1, .int x1)]) dX4_allHeld_29 rfl rfl (by decide) rfl ?_
  refine xj_goto Z 4 dX4_allHeld_32 (by decide) ?_
  refine xj_sub [1, 2, 0] (lv' := [(0, .ref (ad w)), (1, .int x1), (2, .int (x2 + 1))]) rfl ?_
  exact hk4 x1 (x2 + 1)
theorem bX4_allHeld_4 (Z : CX p s m args meth c cX4_allHeld 3 RX4 (some .int) D cs (xA S ad) S ad) (hw : xWalk S w) (M : xm) : ∀ (n : Nat) (x1 : Int32) (x2 : Int32), XJ p l e rmX4_allHeld s m args below meth c D cs (xA S ad) S ad 3 (XRr below args s D cs S ad M) 4 [(0, .ref (ad w)), (1, .int x1), (2, .int x2)] [] M (fX4_allHeld_4 w M n x1 x2) := by
  intro n
  induction n with
  | zero => intros; exact xj_none
  | succ n ih =>
    intro x1 x2
    rw [fX4_allHeld_4]
    refine xj_iload_n Z 2 dX4_allHeld_4 rfl rfl ?_
    refine xj_aload_n Z 0 dX4_allHeld_5 rfl rfl ?_
    refine xg_X4_28 Z (hw.mem 0 (by decide)) hw.lay dX4_allHeld_6 ?_
    refine xg_X4_91 Z ((hw.road (M.2 w)).mem 0 (by decide)) (hw.road (M.2 w)).lay dX4_allHeld_9 ?_
    refine xj_icmp_ge Z 35 dX4_allHeld_12 (by decide) (fun _ => ?_) (fun _ => ?_)
    · refine xj_iload_n Z 1 dX4_allHeld_35 rfl rfl ?_
      exact xj_ret_r Z dX4_allHeld_36
    · refine xj_aload_n Z 0 dX4_allHeld_15 rfl rfl ?_
      refine xj_iload_n Z 2 dX4_allHeld_16 rfl rfl ?_
      refine xj_callVr Z (As := [.int x2]) (kX4_isHeld l D cs S ad Z.2.2.2.2.2.1.dist hw x2 M) gw_X4_129 (hw.mem 0 (by decide)) hw.lay rfl (n := 1) (by decide +kernel) rfl ⟨rfl, rfl⟩ (by decide) rfl (Nat.le_of_ble_eq_true rfl) dX4_allHeld_17 (fun v1 => ?_)
      refine xj_if_eq Z 29 dX4_allHeld_20 (by decide) (fun _ => ?_) (fun _ => ?_)
      · exact bX4_allHeld_29 Z hw x1 x2 M ih
      · refine xj_iload_n Z 1 dX4_allHeld_23 rfl rfl ?_
        refine xj_iconst Z 1 dX4_allHeld_24 (by decide) ?_
        refine xj_iload_n Z 2 dX4_allHeld_25 rfl rfl ?_
        refine xj_ishl Z dX4_allHeld_26 ?_
        refine xj_ior Z dX4_allHeld_27 ?_
        refine xj_top (fun v2 => ?_)
        refine xj_istore_n Z (lv' := [(1, .int v2), (0, .ref (ad w)), (2, .int x2)]) dX4_allHeld_28 rfl (by decide) rfl ?_
        refine xj_sub [1, 0, 2] (lv' := [(0, .ref (ad w)), (1, .int v2), (2, .int x2)]) rfl ?_
        exact bX4_allHeld_29 Z hw v2 x2 M ih
end
theorem kX4_allHeld (l : Launch) (D : va_G) (cs : Nat → ClassId) (S : List Nat) (ad : Nat → Nat) (hd : xdist S ad) {w : Nat} (hw : xWalk S w) (M : xm) : ∀ r, fX4_allHeld w M = some r → Met l yX4_allHeld [Cond.code yX4_allHeld cX4_allHeld 3 (some .int)] rmX4_allHeld (XPc D cs S ad [.ref (ad w)] M) (XQi D cs S ad r M) 0 0 (xA S ad) := by
  refine xm_r (own := RX4) (lv := [(0, .ref (ad w))]) (by decide +kernel) rfl rfl (Nat.le_of_ble_eq_true rfl) hd (fun p e s m args below meth c Z => ?_)
  unfold fX4_allHeld
  refine xj_iconst Z 0 dX4_allHeld_0 (by decide) ?_
  refine xj_istore_n Z (lv' := [(1, .int 0), (0, .ref (ad w))]) dX4_allHeld_1 rfl (by decide) rfl ?_
  refine xj_iconst Z 0 dX4_allHeld_2 (by decide) ?_
  refine xj_istore_n Z (lv' := [(2, .int 0), (1, .int 0), (0, .ref (ad w))]) dX4_allHeld_3 rfl (by decide) rfl ?_
  refine xj_sub [2, 1, 0] (lv' := [(0, .ref (ad w)), (1, .int 0), (2, .int 0)]) rfl ?_
  exact bX4_allHeld_4 Z hw M xfuel 0 0
