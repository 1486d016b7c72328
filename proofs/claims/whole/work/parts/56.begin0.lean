/-! CONSTRUCTORS: begin of a walk that has no road yet; rows over a world that is the memory's -/
theorem xm_g {l : Launch} {y : MethodName} {cc : ByteArray} {nL : Nat} {ret : Option FieldType} {own : String} {rm : Room} {D : va_G} {cs : Nat → ClassId} {S : List Nat} {ad : Nat → Nat} {vs : List Value} {M : xm} {wc : va_W} {lv : List (Nat × Value)} (hy : plainName y.cls = true) (hyo : y.cls = own) (hlv : lv_args 0 vs = lv) (hlen : (lg_sl vs).length ≤ nL) (hd : xdist S ad)
    (body : ∀ (p : Program) (e : Env) (s : State) (m : MethodId) (args : Array Value) (below : List Frame) (meth : Method) (c : Code) (ls : Array Slot), CX p s m args meth c cc nL own ret D cs (xA S ad) S ad → va_P D classes wc s.heap → lv_has ls nL lv → W p l e rm s m args below meth c s.heap [] 0 0 (XRm below args s D cs S ad M) (F0 m 0 ls [])) : Met l y [Cond.code y cc nL ret] rm (va_Pc vs (fun U => xst D cs U ∧ va_P D classes wc U.heap)) (XQv D cs S ad M) 0 0 (xA S ad) := by
  refine Met.ofW (cc := cc) (maxL := nL) (ret := ret) hy rfl ?_
  intro p e s m args below meth c s₁ B hml hv
  obtain ⟨rfl, hx, hP⟩ := hv
  have hown : s.vm.findClass own = some m.cls := by rw [← hyo]; exact findClass_of_methodNamed B.named
  have Z : CX p s m vs.toArray meth c cc nL own ret D cs (xA S ad) S ad := ⟨B.exec, B.bytes, hml, hown, hx, hd.D, B.notSynchronized, B.returns⟩
  have hl := lv_entry vs (n := nL) hlen
  rw [lg_entry_eq]
  generalize (lg_sl vs ++ List.replicate (nL - (lg_sl vs).length) Slot.unset).toArray = ls at hl ⊢
  rw [hlv] at hl
  exact body p e s m vs.toArray below meth c ls Z hP hl
section
variable {p : Program} {l : Launch} {e : Env} {s : State} {m : MethodId} {args : Array Value} {below : List Frame} {meth : Method} {c : Code} {D : va_G} {cs : Nat → ClassId} {S : List Nat} {ad : Nat → Nat} {w r1 : Nat}
theorem bX4_begin0_5 (Z : CX p s m args meth c cX4_begin 3 RX4 none D cs (xA S ad) S ad) (hw : xWalk S w) (hr1 : xRoad S r1) (M : xm) : XJ p l e rmX4_begin s m args below meth c D cs (xA S ad) S ad 3 (XRm below args s D cs S ad) 5 [(0, .ref (ad w)), (1, .ref (ad r1))] [] M (xl (up M w 5 0) (fun M7 => fX4_begin_12 w r1 xfuel 0 M7)) := by
  refine xj_aload_n Z 0 dX4_begin_5 rfl rfl ?_
  refine xj_iconst Z 0 dX4_begin_6 (by decide) ?_
  refine xp_X4_32 Z (hw.mem 0 (by decide)) hw.lay dX4_begin_7 (fun M7 _ => ?_)
  refine xj_iconst Z 0 dX4_begin_10 (by decide) ?_
  refine xj_istore_n Z (lv' := [(2, .int 0), (0, .ref (ad w)), (1, .ref (ad r1))]) dX4_begin_11 rfl (by decide) rfl ?_
  refine xj_sub [1, 2, 0] (lv' := [(0, .ref (ad w)), (1, .ref (ad r1)), (2, .int 0)]) rfl ?_
  exact bX4_begin_12 Z hw hr1 xfuel 0 M7
theorem begin0_cell (hw : xWalk S w) (hr1 : xRoad S r1) (M : xm) : xcell ad cs (upr M w (xrb r1)) w = .inr (4, [.ref (ad r1), .ref (ad (w + 1)), .ref (ad (w + 2)), .ref (ad (w + 3)), .ref (ad (w + 4)), .int (M.1 w 5)]) := by
  unfold xcell
  rw [hw.lay]
  show Sum.inr (4, [Value.ref (ad (rd ((upr M w (xrb r1)).2 w))), _, _, _, _, _]) = _
  rw [upr_same, hr1.rd]
  rfl
theorem bX4_begin0 (Z : CX p s m args meth c cX4_begin 3 RX4 none D cs (xA S ad) S ad) (hd : xdist S ad) (hw : xWalk S w) (hr1 : xRoad S r1) (M : xm) {q0 : Nat} (hq0 : S[q0]? = some w) {M' : xm} (hr : fX4_begin w r1 M = some M') {ls : Array Slot} (hl : lv_has ls 3 [(0, .ref (ad w)), (1, .ref (ad r1))])
    (hP : va_P D classes ((xw S ad cs M).set q0 (ad w, .inr (4, [.null, .ref (ad (w + 1)), .ref (ad (w + 2)), .ref (ad (w + 3)), .ref (ad (w + 4)), .int (M.1 w 5)]))) s.heap) : W p l e rmX4_begin s m args below meth c s.heap [] 0 0 (XRm below args s D cs S ad M') (F0 m 0 ls []) := by
  have hlen : q0 < (xw S ad cs M).length := by
    unfold xw
    rw [List.length_map]
    exact (List.getElem?_eq_some_iff.mp hq0).1
  have hat : (xw S ad cs M)[q0]? = some (ad w, xcell ad cs M w) := by unfold xw; rw [List.getElem?_map, hq0]; rfl
  have hD := (xw_D (cs := cs) (M := M) hd.D).set (e := .inr (4, [.null, .ref (ad (w + 1)), .ref (ad (w + 2)), .ref (ad (w + 3)), .ref (ad (w + 4)), .int (M.1 w 5)])) hat
  unfold fX4_begin at hr
  rw [xl_e] at hr
  refine lv_aload_n Z.1 Z.2.1 dX4_begin_0 rfl (lv_at hl 0 rfl) ?_
  refine lv_aload_n Z.1 Z.2.1 dX4_begin_1 rfl (lv_at hl 1 rfl) ?_
  refine va_put (C := RX4) (T := TX4) (N := 6) (ci := 4) Z.1 Z.2.1 (Z.2.2.2.2.1.hts args) iX4 tyX4 tyX4_ok nmX4 Z.2.2.2.1 Z.2.2.2.2.1.1 hP hD va_S.rf q0 (List.getElem?_set_self hlen) rfl 0 (by decide) (Z.2.2.2.2.1.hts _ _ xb_14) (fun _ h9 => h9) rfl (tyX4_ok 0 (by decide)) rfl rfl (Nat.le_of_ble_eq_true rfl) dX4_begin_2 (fun H1 locs1 hP1 hD1 hS1 => ?_)
  have e2 : ((xw S ad cs M).set q0 (ad w, .inr (4, [.null, .ref (ad (w + 1)), .ref (ad (w + 2)), .ref (ad (w + 3)), .ref (ad (w + 4)), .int (M.1 w 5)]))).set q0 (ad w, .inr (4, [.ref (ad r1), .ref (ad (w + 1)), .ref (ad (w + 2)), .ref (ad (w + 3)), .ref (ad (w + 4)), .int (M.1 w 5)])) = xw S ad cs (upr M w (xrb r1)) := by
    rw [List.set_set]
    exact xw_set hd.1 hq0 (begin0_cell hw hr1 M) (upr_w hw)
  have hP2 : va_P D classes (((xw S ad cs M).set q0 (ad w, .inr (4, [.null, .ref (ad (w + 1)), .ref (ad (w + 2)), .ref (ad (w + 3)), .ref (ad (w + 4)), .int (M.1 w 5)]))).set q0 (ad w, .inr (4, [.ref (ad r1), .ref (ad (w + 1)), .ref (ad (w + 2)), .ref (ad (w + 3)), .ref (ad (w + 4)), .int (M.1 w 5)]))) H1 := hP1
  rw [e2] at hP2
  exact bX4_begin0_5 Z hw hr1 (upr M w (xrb r1)) H1 locs1 ls hl hP2 hS1 M' hr
end
theorem kX4_begin0 (l : Launch) (D : va_G) (cs : Nat → ClassId) (S : List Nat) (ad : Nat → Nat) (hd : xdist S ad) {w : Nat} {r1 : Nat} (hw : xWalk S w) (hr1 : xRoad S r1) (M : xm) {q0 : Nat} (hq0 : S[q0]? = some w) : ∀ r, fX4_begin w r1 M = some r → Met l yX4_begin [Cond.code yX4_begin cX4_begin 3 none] rmX4_begin (va_Pc [.ref (ad w), .ref (ad r1)] (fun U => xst D cs U ∧ va_P D classes ((xw S ad cs M).set q0 (ad w, .inr (4, [.null, .ref (ad (w + 1)), .ref (ad (w + 2)), .ref (ad (w + 3)), .ref (ad (w + 4)), .int (M.1 w 5)]))) U.heap)) (XQv D cs S ad r) 0 0 (xA S ad) :=
  fun r hr => xm_g (own := RX4) (lv := [(0, .ref (ad w)), (1, .ref (ad r1))]) (by decide +kernel) rfl rfl (Nat.le_of_ble_eq_true rfl) hd (fun p e s m args below meth c ls Z hP hl => bX4_begin0 Z hd hw hr1 M hq0 hr hl hP)
section
variable {p : Program} {l : Launch} {e : Env} {R : Room} {s : State} {m : MethodId} {args : Array Value} {below : List Frame} {meth : Method} {c : Code} {cc : ByteArray} {nL : Nat} {own : String} {D : va_G} {cs : Nat → ClassId} {A : Nat → Prop} {H : Heap} {locs : List Loc} {cells slots : Nat} {Q : State → Prop} {ls : Array Slot} {lv : List (Nat × Value)} {pc : Nat} {rest : List Value}
theorem PcG.blind {D : va_G} {cs : Nat → ClassId} {vs : List Value} {ws : va_W} : FrameBlind (va_Pc vs (fun U => xst D cs U ∧ va_P D classes ws U.heap)) := fun a U g mk q => by
  obtain ⟨q0, q1, q2⟩ := q
  exact ⟨q0, xst.same (u := U) (U := U.calling g mk a) rfl q1, q2⟩
/-- a method whose world wc becomes wd -/
theorem xi_callG (Z : IX p s m args meth c cc nL own D cs) {w1 wc wd : va_W} {A1 : Nat → Prop} {o : Nat} {y : MethodName} {b : ByteArray} {nL2 index n N : Nat} {C : String} {T : u_T} {ci q0 : Nat} {fs : List Value} {rmc : Room} {As st0 : List Value} (hM : Met l y [Cond.code y b nL2 none] rmc (va_Pc (.ref o :: As) (fun U => xst D cs U ∧ va_P D classes wc U.heap)) (va_Qv (S := Unit) (fun _ => True) (fun _ t => va_P D classes wd t.heap) A1) 0 0 A1) (hA1 : ∀ q, A1 q → va_A wc H.size q) (hDd : va_D (va_A wc H.size) wd)
    (hP : va_P D classes (w1 ++ wc) H) (hD : va_D A (w1 ++ wc)) (hS : va_S A s.heap H locs) (hA : ∀ q, s.heap.size ≤ q → A q) (hw : ∀ w ∈ wsV own index C y [Cond.code y b nL2 none], w ∈ xbig) (hq : wc[q0]? = some (o, .inr (ci, fs))) (hcl : classes[ci]? = some (C, T, N))
    (hd : y.cls = C ∧ y.cls ≠ "java/lang/invoke/MethodHandle" ∧ y.cls ≠ "java/lang/invoke/VarHandle" ∧ (parseMethodDescriptor y.desc).map (fun d => d.parameters.length) = some n) (hn : As.length = n) (hrm : rmc.cells = 0 ∧ rmc.slots = 0) (hR : rmc.frames + 1 ≤ R.frames ∧ 8 + (nL2 + 11) + rmc.locals ≤ R.locals) (hl : lv_has ls nL lv) (hst : st0 = As.reverse ++ .ref o :: rest) (hcat : (rest.map fun v => v.category).sum ≤ 8) (hcs : cells ≤ R.cells ∧ slots ≤ R.slots) (hdg : decode cc pc = .ok (.invokevirtual index, 3))
    (kk : ∀ (H1 : Heap) (locs1 : List Loc), va_P D classes (w1 ++ wd) H1 → va_D A (w1 ++ wd) → va_S A s.heap H1 locs1 → W p l e R s m args below meth c H1 locs1 cells slots Q (F0 m (pc + 3) ls rest)) : W p l e R s m args below meth c H locs cells slots Q (F0 m pc ls st0) := by
  have hF := v_free hD hS hA
  have hF2 : ∀ q, A1 q → A q := fun q h => hF q (hA1 q h)
  have hrecv := va_recv Z.K (vP_r hP) hcl hq
  refine va_callv (va_runV (As := As) (rest := rest) (g := F0 m pc ls st0) ⟨Z.1, Z.2.1, Z.2.2.1, Z.2.2.2.1, Z.hts⟩ hM (cwV n Z.hts (xgood hw) rfl hrm.1 hrm.2 hd hR) ⟨PcG.blind, hrecv, fun U hU hW => ⟨rfl, xst.warm hW Z.2.2.2.2.1.1, by rw [hU]; exact vP_r hP⟩⟩ rfl hn hl.1 hst (lv_room (m := m) (pc := pc) (ls := ls) (rest := rest) hcat) hdg hcs) hS (fun q _ h => hF2 q h) hF2 (fun u t H1 locs1 ht hvm hw2 hB hz hk1 hS1 => ?_)
  rw [ht] at hB
  obtain ⟨g1, g2⟩ := v_join (w1' := wd) hP hD (fun q h1 h2 => hk1 q h1 (fun h3 => h2 (hA1 q h3))) hF hB hDd
  exact kk H1 locs1 g1 g2 hS1
theorem xi_get (Z : IX p s m args meth c cc nL own D cs) {w1 : va_W} {S : List Nat} {ad : Nat → Nat} {M : xm} {C : String} {T : u_T} {N ci index k : Nat} (j : Nat) {v : Value} (hk : k ∈ S) (hy : xlay k = (0, ci)) (hcl : classes[ci]? = some (C, T, N)) (hin : ∀ w ∈ u_ws C T N, w ∈ xbig) (hj : j < N) (hC : (T j).1 = C) (hlink : Cond.fieldLink own index C (T j).2.1 (T j).2.2.1 ∈ xbig) (hv : (xfs ad (M.1 k) M.2 k ci)[j]? = some v) (hP : va_P D classes (w1 ++ xw S ad cs M) H) (hdg : decode cc pc = .ok (.getfield index, 3))
    (kk : W p l e R s m args below meth c H locs cells slots Q (F0 m (pc + 3) ls (v :: rest))) : W p l e R s m args below meth c H locs cells slots Q (F0 m pc ls (.ref (ad k) :: rest)) := by
  obtain ⟨q, hq, -⟩ := xw_at (cs := cs) (ad := ad) (M := M) hk
  have hc : xcell ad cs M k = .inr (ci, xfs ad (M.1 k) M.2 k ci) := by unfold xcell; rw [hy]; rfl
  rw [hc] at hq
  exact va_get Z.1 Z.2.1 Z.hts hin Z.2.2.2.1 Z.K (vP_r hP) q hq hcl j hj (Z.hts _ hlink) (fun _ h9 => by rw [hC] at h9; exact h9) hv hdg kk
theorem xi_iast (Z : IX p s m args meth c cc nL own D cs) {S : List Nat} {ad : Nat → Nat} {M : xm} {k n : Nat} {i x : Int32} (hk : k ∈ S) (hSn : S.Nodup) (hy : xlay k = (1, n)) (hin : vp_in i n) (hP : va_P D classes (xw S ad cs M) H) (hD : va_D A (xw S ad cs M)) (hS : va_S A s.heap H locs) (hdg : decode cc pc = .ok (.iastore, 1))
    (kk : ∀ (H1 : Heap) (locs1 : List Loc), va_P D classes (xw S ad cs (up M k i.toNatClampNeg x)) H1 → va_D A (xw S ad cs (up M k i.toNatClampNeg x)) → va_S A s.heap H1 locs1 → W p l e R s m args below meth c H1 locs1 cells slots Q (F0 m (pc + 1) ls rest)) : W p l e R s m args below meth c H locs cells slots Q (F0 m pc ls (.int x :: .int i :: .ref (ad k) :: rest)) := by
  obtain ⟨q, hq, hq2⟩ := xw_at (cs := cs) (ad := ad) (M := M) hk
  have hc : xcell ad cs M k = .inl (cs 0, n, .inl (M.1 k)) := by unfold xcell; rw [hy]; rfl
  rw [hc] at hq
  refine va_iast Z.1 Z.2.1 Z.K hP hD hS q 0 hq rfl hin hdg (fun H1 locs1 hP1 hD1 hS1 => ?_)
  have hc2 : xcell ad cs (up M k i.toNatClampNeg x) k = .inl (cs 0, n, .inl (upd (M.1 k) i.toNatClampNeg x)) := by unfold xcell; rw [hy, up_eq]; rfl
  rw [xw_set (M' := up M k i.toNatClampNeg x) hSn hq2 hc2 up_cell] at hP1
  exact kk H1 locs1 hP1 (xw_m hD) hS1
theorem va_P.refs {D : va_G} {cl : List vw_C} {ws : va_W} {H : Heap} {A : Nat → Prop} {p a n : Nat} {cA : ClassId} {f g : Nat → Option Nat} (hP : va_P D cl ws H) (hD : va_D A ws) (hp : ws[p]? = some (a, .inl (cA, n, .inr (.inr (.inr (.inr f)))))) (h : ∀ j, j < n → f j = g j) : va_P D cl (ws.set p (a, .inl (cA, n, .inr (.inr (.inr (.inr g)))))) H := by
  refine hP.set hD hp ?_ (fun _ _ => rfl)
  have h1 : H[a]? = some (vp_cell cA (n, .inr (.inr (.inr (.inr f))))) := hP p _ hp
  show H[a]? = some (vp_cell cA (n, .inr (.inr (.inr (.inr g)))))
  rw [h1, vp_cell_q, vp_cell_q]
  congr 1
  exact arrV_cong (fun j hj => by rw [h j hj])
end
