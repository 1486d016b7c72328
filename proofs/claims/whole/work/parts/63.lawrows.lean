/-! THE LAW: rows of its walk -/
def LX (p : Program) (s : State) (m : MethodId) (c : Code) (D : va_G) (cs : Nat → ClassId) : Prop := p.tables.exec = Jvm.exec ∧ c.code = cL_law ∧ c.maxLocals = 4 ∧ s.vm.findClass RL = some m.cls ∧ xst D cs s
theorem LX.hts {p : Program} {s : State} {m : MethodId} {c : Code} {D : va_G} {cs : Nat → ClassId} (Z : LX p s m c D cs) (a : Array Value) : ∀ w ∈ xbig, w.before a s = true := Z.2.2.2.2.hts a
theorem vP_cm {D : va_G} {cl : List vw_C} {a b : va_W} {H : Heap} (h : va_P D cl (a ++ b) H) : va_P D cl (b ++ a) H := va_P.app (vP_r h) (vP_l h)
theorem vD_cm {A : Nat → Prop} {a b : va_W} (h : va_D A (a ++ b)) : va_D A (b ++ a) := va_D.app (vD_r h) (vD_l h) (fun i j p q h1 h2 e => vD_x h j i q p h2 h1 e.symm)
theorem ro_inv {M M' : xm} {a : Option Int32} {r : Int32} (h : ro M a = some (r, M')) : a = some r ∧ M' = M := by
  cases a with
  | none => cases h
  | some v =>
    have h : some (v, M) = some (r, M') := h
    cases h
    exact ⟨rfl, rfl⟩
theorem and31 (x : Int32) : ∃ v, v < 32 ∧ x &&& 31 = nI v := by
  refine ⟨(x.toBitVec &&& 31#32).toNat, ?_, ?_⟩
  · rw [BitVec.toNat_and]
    exact Nat.lt_of_le_of_lt Nat.and_le_right (by decide)
  · apply Int32.toBitVec_inj.mp
    rw [Int32.toBitVec_and, nI_bv, BitVec.ofNat_toNat, BitVec.setWidth_eq]
    rfl
theorem sub4 {L i : Nat} (hL : L ≤ 256) (hi : i ≤ 300) : (nI L - 4 < nI i) ↔ L < i + 4 := by
  by_cases h : 4 ≤ L
  · rw [li4, sub_e h, nI_ltI (by omega) (by omega)]
    omega
  · have ti : (nI i).toInt = i := nI_toInt (by omega)
    constructor
    · intro _; omega
    · intro _
      rw [Int32.lt_iff_toInt_lt, ti]
      rcases (show L = 0 ∨ L = 1 ∨ L = 2 ∨ L = 3 by omega) with rfl | rfl | rfl | rfl
      · rw [show (nI 0 - 4).toInt = -4 by decide]; omega
      · rw [show (nI 1 - 4).toInt = -3 by decide]; omega
      · rw [show (nI 2 - 4).toInt = -2 by decide]; omega
      · rw [show (nI 3 - 4).toInt = -1 by decide]; omega
section
variable {p : Program} {l : Launch} {e : Env} {R : Room} {s : State} {m : MethodId} {args : Array Value} {below : List Frame} {meth : Method} {c : Code} {D : va_G} {cs : Nat → ClassId} {A : Nat → Prop} {H : Heap} {locs : List Loc} {cells slots : Nat} {Q : State → Prop} {ls : Array Slot} {pc : Nat} {rest : List Value}
/-- a method over the memory: its cells are the world's last ones -/
theorem xl_call (Z : LX p s m c D cs) {lv : List (Nat × Value)} {w1 : va_W} {S : List Nat} {ad : Nat → Nat} {M M' : xm} {v : Int32} {y : MethodName} {b : ByteArray} {nL2 index n k ci N : Nat} {C : String} {T : u_T} {ret2 : Option FieldType} {rmc : Room} {As st0 : List Value} (hM : xdist S ad → Met l y [Cond.code y b nL2 ret2] rmc (XPc D cs S ad (.ref (ad k) :: As) M) (XQi D cs S ad v M') 0 0 (xA S ad)) (hSn : S.Nodup)
    (hP : va_P D classes (w1 ++ xw S ad cs M) H) (hD : va_D A (w1 ++ xw S ad cs M)) (hS : va_S A s.heap H locs) (hA : ∀ q, s.heap.size ≤ q → A q) (hw : ∀ w ∈ wsV RL index C y [Cond.code y b nL2 ret2], w ∈ xbig) (hk : k ∈ S) (hy : xlay k = (0, ci)) (hcl : classes[ci]? = some (C, T, N))
    (hd : y.cls = C ∧ y.cls ≠ "java/lang/invoke/MethodHandle" ∧ y.cls ≠ "java/lang/invoke/VarHandle" ∧ (parseMethodDescriptor y.desc).map (fun d => d.parameters.length) = some n) (hn : As.length = n) (hrm : rmc.cells = 0 ∧ rmc.slots = 0) (hR : rmc.frames + 1 ≤ R.frames ∧ 8 + (nL2 + 11) + rmc.locals ≤ R.locals) (hl : lv_has ls 4 lv) (hst : st0 = As.reverse ++ .ref (ad k) :: rest) (hcat : (rest.map fun v => v.category).sum ≤ 8) (hcs : cells ≤ R.cells ∧ slots ≤ R.slots) (hdg : decode cL_law pc = .ok (.invokevirtual index, 3))
    (kk : ∀ (H1 : Heap) (locs1 : List Loc), va_P D classes (w1 ++ xw S ad cs M') H1 → va_D A (w1 ++ xw S ad cs M') → va_S A s.heap H1 locs1 → W p l e R s m args below meth c H1 locs1 cells slots Q (F0 m (pc + 3) ls (.int v :: rest))) : W p l e R s m args below meth c H locs cells slots Q (F0 m pc ls st0) := by
  have hF := v_free hD hS hA
  have hF2 : ∀ q, xA S ad q → A q := fun q h => hF q (xA_in h)
  obtain ⟨q, hq, -⟩ := xw_at (cs := cs) (ad := ad) (M := M) hk
  have hc : xcell ad cs M k = .inr (ci, xfs ad (M.1 k) M.2 k ci) := by unfold xcell; rw [hy]; rfl
  rw [hc] at hq
  have hrecv := va_recv Z.2.2.2.2.1 (vP_r hP) hcl hq
  refine va_calli (va_runV (As := As) (rest := rest) (g := F0 m pc ls st0) ⟨Z.1, Z.2.1, Z.2.2.1, Z.2.2.2.1, Z.hts args⟩ (hM (xw_dist (vD_r hD) hSn)) (cwV n (Z.hts args) (xgood hw) rfl hrm.1 hrm.2 hd hR) ⟨XPc.blind, hrecv, fun U hU hW => ⟨rfl, xst.warm hW Z.2.2.2.2, by rw [hU]; exact vP_r hP⟩⟩ rfl hn hl.1 hst (lv_room (m := m) (pc := pc) (ls := ls) (rest := rest) hcat) hdg hcs) hS (fun q _ h => hF2 q h) hF2 (fun x2 u t H1 locs1 ht hvm hw2 hB hz hk1 hS1 => ?_)
  rw [ht] at hB
  subst hw2
  obtain ⟨g1, g2⟩ := v_join (w1' := xw S ad cs M') hP hD (fun q h1 h2 => hk1 q h1 (fun h3 => h2 (xA_in h3))) hF hB (xw_m (vD_r hD).self)
  exact kk H1 locs1 g1 g2 hS1
/-- a call of the class: the reference's cells stand first, the class's last -/
theorem xl_X (Z : LX p s m c D cs) {lv : List (Nat × Value)} {uX uN : Nat → Nat} {M M' N : xm} {v : Int32} {y : MethodName} {b : ByteArray} {nL2 index n : Nat} {rmc : Room} {As st0 : List Value} (hM : xdist S56 uX → Met l y [Cond.code y b nL2 (some .int)] rmc (XPc D cs S56 uX (.ref (uX 0) :: As) M) (XQi D cs S56 uX v M') 0 0 (xA S56 uX))
    (hP : va_P D classes (xw S60 uN cs N ++ xw S56 uX cs M) H) (hD : va_D A (xw S60 uN cs N ++ xw S56 uX cs M)) (hS : va_S A s.heap H locs) (hA : ∀ q, s.heap.size ≤ q → A q) (hw : ∀ w ∈ wsV RL index RX5 y [Cond.code y b nL2 (some .int)], w ∈ xbig)
    (hd : y.cls = RX5 ∧ y.cls ≠ "java/lang/invoke/MethodHandle" ∧ y.cls ≠ "java/lang/invoke/VarHandle" ∧ (parseMethodDescriptor y.desc).map (fun d => d.parameters.length) = some n) (hn : As.length = n) (hrm : rmc.cells = 0 ∧ rmc.slots = 0) (hR : rmc.frames + 1 ≤ R.frames ∧ 8 + (nL2 + 11) + rmc.locals ≤ R.locals) (hl : lv_has ls 4 lv) (hst : st0 = As.reverse ++ .ref (uX 0) :: rest) (hcat : (rest.map fun v => v.category).sum ≤ 8) (hcs : cells ≤ R.cells ∧ slots ≤ R.slots) (hdg : decode cL_law pc = .ok (.invokevirtual index, 3))
    (kk : ∀ (H1 : Heap) (locs1 : List Loc), va_P D classes (xw S60 uN cs N ++ xw S56 uX cs M') H1 → va_D A (xw S60 uN cs N ++ xw S56 uX cs M') → va_S A s.heap H1 locs1 → W p l e R s m args below meth c H1 locs1 cells slots Q (F0 m (pc + 3) ls (.int v :: rest))) : W p l e R s m args below meth c H locs cells slots Q (F0 m pc ls st0) :=
  xl_call Z hM (by decide) hP hD hS hA hw (k := 0) (by decide) rfl (T := TX5) (N := 9) rfl hd hn hrm hR hl hst hcat hcs hdg kk
theorem xl_M (Z : LX p s m c D cs) {lv : List (Nat × Value)} {uX uN : Nat → Nat} {M N N' : xm} {v : Int32} {y : MethodName} {b : ByteArray} {nL2 index n : Nat} {rmc : Room} {As st0 : List Value} (hM : xdist S60 uN → Met l y [Cond.code y b nL2 (some .int)] rmc (XPc D cs S60 uN (.ref (uN 60) :: As) N) (XQi D cs S60 uN v N') 0 0 (xA S60 uN))
    (hP : va_P D classes (xw S60 uN cs N ++ xw S56 uX cs M) H) (hD : va_D A (xw S60 uN cs N ++ xw S56 uX cs M)) (hS : va_S A s.heap H locs) (hA : ∀ q, s.heap.size ≤ q → A q) (hw : ∀ w ∈ wsV RL index RX6 y [Cond.code y b nL2 (some .int)], w ∈ xbig)
    (hd : y.cls = RX6 ∧ y.cls ≠ "java/lang/invoke/MethodHandle" ∧ y.cls ≠ "java/lang/invoke/VarHandle" ∧ (parseMethodDescriptor y.desc).map (fun d => d.parameters.length) = some n) (hn : As.length = n) (hrm : rmc.cells = 0 ∧ rmc.slots = 0) (hR : rmc.frames + 1 ≤ R.frames ∧ 8 + (nL2 + 11) + rmc.locals ≤ R.locals) (hl : lv_has ls 4 lv) (hst : st0 = As.reverse ++ .ref (uN 60) :: rest) (hcat : (rest.map fun v => v.category).sum ≤ 8) (hcs : cells ≤ R.cells ∧ slots ≤ R.slots) (hdg : decode cL_law pc = .ok (.invokevirtual index, 3))
    (kk : ∀ (H1 : Heap) (locs1 : List Loc), va_P D classes (xw S60 uN cs N' ++ xw S56 uX cs M) H1 → va_D A (xw S60 uN cs N' ++ xw S56 uX cs M) → va_S A s.heap H1 locs1 → W p l e R s m args below meth c H1 locs1 cells slots Q (F0 m (pc + 3) ls (.int v :: rest))) : W p l e R s m args below meth c H locs cells slots Q (F0 m pc ls st0) :=
  xl_call Z hM (by decide) (vP_cm hP) (vD_cm hD) hS hA hw (k := 60) (by decide) rfl (T := TX6) (N := 19) rfl hd hn hrm hR hl hst hcat hcs hdg (fun H1 locs1 h1 h2 h3 => kk H1 locs1 (vP_cm h1) (vD_cm h2) h3)
/-- the law's locals behind its two objects -/
abbrev LV (b i : Nat) (uX uN : Nat → Nat) : List (Nat × Value) := [(3, .int (nI i)), (2, .ref (uN 60)), (1, .ref (uX 0)), (0, .ref b)]
theorem xl_arg (Z : LX p s m c D cs) {b i L : Nat} {xs : Nat → Int32} {uX uN : Nat → Nat} (hl : lv_has ls 4 (LV b i uX uN)) (hX : va_X b L xs s s.heap) (hbl : b < s.heap.size) (hbA : ¬ A b) (hS : va_S A s.heap H locs) (hi : i + 4 ≤ L) (hL : L ≤ 256) (n : Int) (k : Nat) (hk : k ≤ 3) (hn : Int32.ofInt n = nI k)
    (d0 : decode cL_law pc = .ok (.aload_n 0, 1)) (d1 : decode cL_law (pc + 1) = .ok (.iload_n 3, 1)) (d2 : decode cL_law (pc + 1 + 1) = .ok (.iconst n, 1)) (d3 : decode cL_law (pc + 1 + 1 + 1) = .ok (.iadd, 1)) (d4 : decode cL_law (pc + 1 + 1 + 1 + 1) = .ok (.iaload, 1))
    (kk : W p l e R s m args below meth c H locs cells slots Q (F0 m (pc + 5) ls (.int (xs (i + k)) :: rest))) : W p l e R s m args below meth c H locs cells slots Q (F0 m pc ls rest) := by
  refine lv_aload_n Z.1 Z.2.1 d0 rfl (lv_at hl 3 rfl) ?_
  refine lv_iload_n Z.1 Z.2.1 d1 rfl (lv_at hl 0 rfl) ?_
  refine lv_iconst Z.1 Z.2.1 d2 hn ?_
  refine lv_iadd Z.1 Z.2.1 d3 ?_
  rw [add_e]
  refine va_sld Z.1 Z.2.1 hX hbl hbA hS (nI_in (by omega) (by omega)) d4 ?_
  rw [cl_e (by omega)]
  exact kk
theorem xl_wide (Z : LX p s m c D cs) {x : Int32} {y : Int64} (d0 : decode cL_law pc = .ok (.i2l, 1)) (d1 : decode cL_law (pc + 1) = .ok (.bipush 32, 2)) (d2 : decode cL_law (pc + 1 + 2) = .ok (.lshl, 1)) (hy : x.toInt64 <<< ((32 : Int32).toInt64 &&& 63) = y) (kk : W p l e R s m args below meth c H locs cells slots Q (F0 m (pc + 4) ls (.long y :: rest))) : W p l e R s m args below meth c H locs cells slots Q (F0 m pc ls (.int x :: rest)) := by
  refine lv_i2l Z.1 Z.2.1 d0 rfl ?_
  refine lv_bipush (v := 32) Z.1 Z.2.1 d1 (by decide) ?_
  exact lv_lshl Z.1 Z.2.1 d2 hy kk
theorem xl_low (Z : LX p s m c D cs) {x : Int32} {y z : Int64} (d0 : decode cL_law pc = .ok (.i2l, 1)) (d1 : decode cL_law (pc + 1) = .ok (.ldc2_w 13, 3)) (d2 : decode cL_law (pc + 1 + 3) = .ok (.land, 1)) (d3 : decode cL_law (pc + 1 + 3 + 1) = .ok (.lor, 1)) (hz : y ||| (x.toInt64 &&& 4294967295) = z) (kk : W p l e R s m args below meth c H locs cells slots Q (F0 m (pc + 6) ls (.long z :: rest))) : W p l e R s m args below meth c H locs cells slots Q (F0 m pc ls (.int x :: .long y :: rest)) := by
  refine lv_i2l Z.1 Z.2.1 d0 rfl ?_
  refine lv_ldc2 Z.1 Z.2.1 Z.2.2.2.1 (Z.hts args _ xb_590) d1 ?_
  refine lv_land Z.1 Z.2.1 d2 ?_
  refine lv_lor Z.1 Z.2.1 d3 ?_
  rw [hz]
  exact kk
end
