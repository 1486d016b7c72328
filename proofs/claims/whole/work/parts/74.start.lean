/-! THE LAW: its start -/
theorem dL_law_0 : decode cL_law 0 = .ok (.new 7, 3) := by decide +kernel
theorem dL_law_3 : decode cL_law 3 = .ok (.dup, 1) := by decide +kernel
theorem dL_law_4 : decode cL_law 4 = .ok (.invokespecial 9, 3) := by decide +kernel
theorem dL_law_7 : decode cL_law 7 = .ok (.astore_n 1, 1) := by decide +kernel
theorem dL_law_8 : decode cL_law 8 = .ok (.new 10, 3) := by decide +kernel
theorem dL_law_11 : decode cL_law 11 = .ok (.dup, 1) := by decide +kernel
theorem dL_law_12 : decode cL_law 12 = .ok (.invokespecial 12, 3) := by decide +kernel
theorem dL_law_15 : decode cL_law 15 = .ok (.astore_n 2, 1) := by decide +kernel
theorem dL_law_16 : decode cL_law 16 = .ok (.iconst 0, 1) := by decide +kernel
theorem dL_law_17 : decode cL_law 17 = .ok (.istore_n 3, 1) := by decide +kernel
theorem Rel_first {M N : xm} (h : AX1 M) (h1 : MX N 0 R1 (laidS R1)) (h2 : N.1 60 9 = nI 0) (h3 : N.1 60 10 = nI 0) (h4 : N.1 60 0 = nI 0) : Rel M N := by
  obtain ⟨a1, a2, ⟨a3, a4, a5⟩, a6, a7, a8⟩ := h
  refine ⟨R1, laidS R1, fun _ => laidS R1, 0, R1, 0, fun _ => 0, 0, ⟨⟨Or.inl rfl, R1_laid, ?_, a2, okW_laidS R1_laid⟩, ⟨?_, ?_⟩, ?_, ⟨by omega, a6, fun k hk => absurd hk (Nat.not_lt_zero k)⟩, ⟨by omega, a7, fun k hk => absurd hk (Nat.not_lt_zero k)⟩, ⟨by omega, a8, fun k hk => absurd hk (Nat.not_lt_zero k)⟩⟩, ⟨h1, ⟨h2, fun k hk => absurd hk (Nat.not_lt_zero k)⟩, ⟨h3, fun k hk => absurd hk (Nat.not_lt_zero k)⟩, ⟨h4, fun k hk => absurd hk (Nat.not_lt_zero k)⟩⟩⟩
  · rw [a4]; exact a1
  · rw [a4, a3]
  · rw [a5, a3]; rfl
  · unfold laidS
    rw [if_neg (by omega)]
    omega
theorem arr_of {s : State} {cA comp : ClassId} {kA : Class} {ty : FieldType} (h1 : s.vm.classes[cA]? = some kA) (h2 : kA.kind = .array comp ty) : ArrOfT s cA ty := fun N z => ⟨(fun k h => by cases h), kA, h1, comp, h2⟩
theorem xsn_first {s : State} {a : Array Value} (hts : ∀ w ∈ lw_tbl, w.before a s = true) : ∃ (D : va_G) (cs : Nat → ClassId), xsn D cs s := by
  have hb : ∀ w ∈ xbig, w.before a s = true := fun w hw => hts w (List.mem_filter.mp hw).1
  obtain ⟨c0, i0, k0⟩ := u_known hb iX0 (hb _ xb_240)
  obtain ⟨c1, i1, k1⟩ := u_known hb iX1 (hb _ xb_230)
  obtain ⟨c2, i2, k2⟩ := u_known hb iX2 (hb _ xb_243)
  obtain ⟨c3, i3, k3⟩ := u_known hb iX3 (hb _ xb_227)
  obtain ⟨c4, i4, k4⟩ := u_known hb iX4 (hb _ xb_234)
  obtain ⟨c5, i5, k5⟩ := u_known hb iX5 (hb _ xb_587)
  obtain ⟨c6, i6, k6⟩ := u_known hb iX6 (hb _ xb_589)
  have w1 : (Cond.arrayClass .int).before a s = true := hts _ (List.mem_of_getElem? (i := 91) (by decide +kernel))
  have w2 : (Cond.arrayClass .byte).before a s = true := hts _ (List.mem_of_getElem? (i := 90) (by decide +kernel))
  have w3 : (Cond.arrayClass .boolean).before a s = true := hts _ (List.mem_of_getElem? (i := 723) (by decide +kernel))
  have w4 : (Cond.arrayOver (.object "WalkingLaw$Walk")).before a s = true := hts _ (List.mem_of_getElem? (i := 210) (by decide +kernel))
  have w5 : (Cond.arrayOver (.array .int)).before a s = true := hts _ (List.mem_of_getElem? (i := 241) (by decide +kernel))
  obtain ⟨b1, q1, r1, f1, g1, h1⟩ := Cond.arrayClass_spec w1
  obtain ⟨b2, q2, r2, f2, g2, h2⟩ := Cond.arrayClass_spec w2
  obtain ⟨b3, q3, r3, f3, g3, h3⟩ := Cond.arrayClass_spec w3
  obtain ⟨r4, b4, q4, f4, -, g4, h4, j4⟩ := Cond.arrayOver_spec w4
  obtain ⟨r5, b5, q5, f5, g5, h5, j5⟩ := xAO.of w5
  refine ⟨(fun k => if k = 0 then c0 else if k = 1 then c1 else if k = 2 then c2 else if k = 3 then c3 else if k = 4 then c4 else if k = 5 then c5 else c6, fun k => if k = 0 then i0 else if k = 1 then i1 else if k = 2 then i2 else if k = 3 then i3 else if k = 4 then i4 else if k = 5 then i5 else i6), (fun k => if k = 0 then b1 else if k = 1 then b2 else if k = 2 then b5 else if k = 3 then b4 else b3), ⟨⟨fun k q hq => ?_, fun k q hq => ?_⟩, fun w hw => ?_, fun w hw => ?_⟩, ⟨xAc.of w1, xAc.of w2, xAc.of w3⟩, va_AO.of w4, xAO.of w5⟩
  · match k, hq with
    | 0, hq => cases hq; exact k0
    | 1, hq => cases hq; exact k1
    | 2, hq => cases hq; exact k2
    | 3, hq => cases hq; exact k3
    | 4, hq => cases hq; exact k4
    | 5, hq => cases hq; exact k5
    | 6, hq => cases hq; exact k6
    | k + 7, hq => simp [classes] at hq
  · match k, hq with
    | 0, hq => cases hq; exact ⟨arr_of g1 h1, f1⟩
    | 1, hq => cases hq; exact ⟨arr_of g2 h2, f2⟩
    | 2, hq => cases hq; exact ⟨arr_of g5 h5, j5⟩
    | 3, hq => cases hq; exact ⟨arr_of g4 h4, q4, r4, g4, h4, f4, j4⟩
    | 4, hq => cases hq; exact ⟨arr_of g3 h3, f3⟩
    | k + 5, hq => simp [xtys] at hq
  · have h9 := (List.mem_filter.mp hw).2
    unfold xgd at h9
    simp only [Bool.and_eq_true] at h9
    exact va_Nw.of h9.1 (hb w hw)
  · exact va_Nw.of (List.all_eq_true.mp xnst_ok w hw) (hts w (xnst_tbl w hw))
section
variable {p : Program} {l : Launch} {e : Env} {R : Room} {s : State} {m : MethodId} {args : Array Value} {below : List Frame} {meth : Method} {c : Code} {D : va_G} {cs : Nat → ClassId} {A : Nat → Prop} {H : Heap} {locs : List Loc} {cells slots : Nat} {Q : State → Prop} {ls : Array Slot} {ws : va_W} {pc : Nat} {rest : List Value}
theorem xl_new (Z : LX p s m c D cs) (hP : va_P D classes ws H) (hD : va_D A ws) (hS : va_S A s.heap H locs) (hA : ∀ q, s.heap.size ≤ q → A q) {C : String} {T : u_T} {N ci index : Nat} {fs : List Value} {ty0 : Nat → FieldType} (hin : ∀ w ∈ u_ws C T N, w ∈ xbig) (hty : ∀ k, k < N → parseFieldDescriptor (T k).2.2.1 = some (ty0 k)) (hcl : Cond.classLink RL index C ∈ xbig) (hinst : Cond.instantiable C N ∈ xbig) (hini : Cond.initialized C ∈ xbig) (hc : classes[ci]? = some (C, T, N)) (hfs : ∀ j, j < N → defaultValue (ty0 j) = vp_V fs j) (hcs : cells + 1 ≤ R.cells ∧ slots + N ≤ R.slots) (hdg : decode cL_law pc = .ok (.new index, 3))
    (kk : ∀ (q : Nat) (H1 : Heap), va_P D classes (ws ++ [(q, .inr (ci, fs))]) H1 → va_D A (ws ++ [(q, .inr (ci, fs))]) → va_S A s.heap H1 locs → W p l e R s m args below meth c H1 locs (cells + 1) (slots + N) Q (F0 m (pc + 3) ls (.ref q :: rest))) : W p l e R s m args below meth c H locs cells slots Q (F0 m pc ls rest) :=
  va_new Z.1 Z.2.1 (Z.hts args) hin ty0 hty Z.2.2.2.1 (Z.hts args _ hcl) (Z.hts args _ hinst) (Z.hts args _ hini) Z.2.2.2.2.1 hP hD hS hA hc hfs hcs.1 hcs.2 hdg kk
theorem xl_callI (Z : LX p s m c D cs) (hsn : xsn D cs s) {lv : List (Nat × Value)} {ρ : Type} {post : ρ → Prop} {wf : ρ → va_W} {w1 wc : va_W} {y : MethodName} {b : ByteArray} {nL2 index n o mc ms : Nat} {rmc : Room} {As st0 : List Value} (hM : Met l y [Cond.code y b nL2 none] rmc (XN D cs (.ref o :: As) wc H.size) (XE D post wf (va_A wc H.size)) mc ms (va_A wc H.size))
    (hP : va_P D classes (w1 ++ wc) H) (hD : va_D A (w1 ++ wc)) (hS : va_S A s.heap H locs) (hA : ∀ q, s.heap.size ≤ q → A q) (hcode : Cond.code y b nL2 none ∈ xbig) (hini : Cond.initialized y.cls ∈ xbig) (hlk : Cond.methodLink RL index y ∈ xbig) (hin : Cond.instanceMethod y ∈ xbig) (hyn : y.name = "<init>")
    (hd : y.cls ≠ "java/lang/invoke/MethodHandle" ∧ y.cls ≠ "java/lang/invoke/VarHandle" ∧ (parseMethodDescriptor y.desc).map (fun d => d.parameters.length) = some n) (hn : As.length = n) (hrm : rmc.cells = mc ∧ rmc.slots = ms) (hR : rmc.frames + 1 ≤ R.frames ∧ 8 + (nL2 + 11) + rmc.locals ≤ R.locals) (hl : lv_has ls 4 lv) (hst : st0 = As.reverse ++ .ref o :: rest) (hcat : (rest.map fun v => v.category).sum ≤ 8) (hcs : cells + mc ≤ R.cells ∧ slots + ms ≤ R.slots) (hdg : decode cL_law pc = .ok (.invokespecial index, 3))
    (kk : ∀ (u : ρ) (H1 : Heap) (locs1 : List Loc), post u → va_P D classes (w1 ++ wf u) H1 → va_D A (w1 ++ wf u) → va_S A s.heap H1 locs1 → W p l e R s m args below meth c H1 locs1 (cells + mc) (slots + ms) Q (F0 m (pc + 3) ls rest)) : W p l e R s m args below meth c H locs cells slots Q (F0 m pc ls st0) := by
  have hF := v_free hD hS hA
  have hts := Z.hts args
  refine va_callv (va_runI (As := As) (rest := rest) (g := F0 m pc ls st0) ⟨Z.1, Z.2.1, Z.2.2.1, Z.2.2.2.1, hts⟩ hM (cwI n hts (xgood (xq_1 hcode)) rfl hrm.1 hrm.2 (hts _ hini) (hts _ hlk) (hts _ hin) hyn hd hR) ⟨XN.blind, fun U hU hW => ⟨rfl, by rw [hU], xsn.warm hW hsn, by rw [hU]; exact vP_r hP, (vD_r hD).weaken (fun _ _ _ _ => trivial)⟩⟩ rfl hn hl.1 hst (lv_room (m := m) (pc := pc) (ls := ls) (rest := rest) hcat) hdg hcs) hS (fun q _ h => hF q h) hF (fun u t H1 locs1 ht hvm hw2 hB hz hk1 hS1 => ?_)
  rw [ht] at hB
  obtain ⟨g1, g2⟩ := v_join hP hD hk1 hF hB.1 hB.2
  exact kk u H1 locs1 hw2 g1 g2 hS1
end
set_option maxHeartbeats 4000000 in
theorem whole_start {p : Program} {e : Env} {s : State} {m : MethodId} {below : List Frame} {meth : Method} {c : Code} (l : Launch) (hflags : l.flags = flags0) {b L : Nat} {xs : Nat → Int32} (hL : L ≤ 256) (C0 : lw_At p s m meth c b L xs) : W p l e room_1 s m #[Value.ref b] below meth c s.heap [] 0 0 (lw_Z below #[Value.ref b] s) (entryFrame m ([Value.ref b] : List Value).toArray 4) := by
  obtain ⟨hx, hb, hr, hml, hown, hts, hX, hbl, hlocks, hgv⟩ := id C0
  obtain ⟨D, cs, hsn⟩ := xsn_first hts
  have Z : LX p s m c D cs := ⟨hx, hb, hml, hown, hsn.1⟩
  have hA : ∀ q : Nat, s.heap.size ≤ q → (fun q : Nat => s.heap.size ≤ q) q := fun _ h => h
  have hS : va_S (fun q : Nat => s.heap.size ≤ q) s.heap s.heap [] := va_S.rf
  have hP : va_P D classes [] s.heap := fun k q h => by simp at h
  have hD : va_D (fun q : Nat => s.heap.size ≤ q) [] := ⟨fun i j p q h => by simp at h, fun k q h => by simp at h⟩
  have hl := lv_entry ([.ref b]) (n := 4) (Nat.le_of_ble_eq_true rfl)
  rw [lg_entry_eq]
  generalize (lg_sl ([.ref b]) ++ List.replicate (4 - (lg_sl ([.ref b])).length) Slot.unset).toArray = ls at hl ⊢
  have hl : lv_has ls 4 [(0, .ref b)] := hl
  refine xl_new (ci := 5) Z hP hD hS hA iX5 tyX5_ok xb_586 xb_587 xb_45 rfl dfX5 ⟨Nat.le_of_ble_eq_true rfl, Nat.le_of_ble_eq_true rfl⟩ dL_law_0 (fun q0 H hP hD hS => ?_)
  refine W.widen (k := 1) (n := 9) (by decide) (by decide) ?_
  refine lv_dup Z.1 Z.2.1 dL_law_3 rfl ?_
  refine xl_callI (As := []) (rest := [.ref q0]) (n := 0) Z hsn (kX5_init l D cs q0 _) hP hD hS hA xb_254 xb_45 xb_591 xb_592 rfl ⟨by decide +kernel, by decide +kernel, by decide +kernel⟩ rfl ⟨rfl, rfl⟩ ⟨Nat.le_of_ble_eq_true rfl, Nat.le_of_ble_eq_true rfl⟩ hl rfl (Nat.le_of_ble_eq_true rfl) ⟨Nat.le_of_ble_eq_true rfl, Nat.le_of_ble_eq_true rfl⟩ dL_law_4 (fun u H locs hu hP hD hS => ?_)
  refine W.widen (k := 56) (n := 663) (by decide) (by decide) ?_
  obtain ⟨⟨uX, M⟩, hv⟩ : ∃ v, v = u := ⟨_, rfl⟩
  rw [← hv] at hP hD hu
  clear hv
  obtain ⟨hu0, hM⟩ : uX 0 = q0 ∧ AX1 M := hu
  rw [← hu0]
  refine lv_astore_n (lv' := [(1, .ref (uX 0)), (0, .ref b)]) Z.1 Z.2.1 dL_law_7 rfl hl (by decide) rfl (fun ls hl => ?_)
  have hP : va_P D classes (xw S56 uX cs M) H := hP
  have hD : va_D (fun q : Nat => s.heap.size ≤ q) (xw S56 uX cs M) := hD
  refine xl_new (ci := 6) Z hP hD hS hA iX6 tyX6_ok xb_588 xb_589 xb_394 rfl dfX6 ⟨Nat.le_of_ble_eq_true rfl, Nat.le_of_ble_eq_true rfl⟩ dL_law_8 (fun q8 H hP hD hS => ?_)
  refine W.widen (k := 57) (n := 682) (by decide) (by decide) ?_
  refine lv_dup Z.1 Z.2.1 dL_law_11 rfl ?_
  refine xl_callI (As := []) (rest := [.ref q8]) (n := 0) Z hsn (kX6_init l D cs q8 _) hP hD hS hA xb_408 xb_394 xb_593 xb_594 rfl ⟨by decide +kernel, by decide +kernel, by decide +kernel⟩ rfl ⟨rfl, rfl⟩ ⟨Nat.le_of_ble_eq_true rfl, Nat.le_of_ble_eq_true rfl⟩ hl rfl (Nat.le_of_ble_eq_true rfl) ⟨Nat.le_of_ble_eq_true rfl, Nat.le_of_ble_eq_true rfl⟩ dL_law_12 (fun u H locs hu hP hD hS => ?_)
  refine W.widen (k := 69) (n := 5425) (by decide) (by decide) ?_
  obtain ⟨⟨uN, N⟩, hv⟩ : ∃ v, v = u := ⟨_, rfl⟩
  rw [← hv] at hP hD hu
  clear hv
  obtain ⟨hu8, n1, n2, n3, n4⟩ : uN 60 = q8 ∧ MX N 0 R1 (laidS R1) ∧ N.1 60 9 = nI 0 ∧ N.1 60 10 = nI 0 ∧ N.1 60 0 = nI 0 := hu
  rw [← hu8]
  have hP : va_P D classes (xw S56 uX cs M ++ xw S60 uN cs N) H := hP
  have hD : va_D (fun q : Nat => s.heap.size ≤ q) (xw S56 uX cs M ++ xw S60 uN cs N) := hD
  refine lv_astore_n (lv' := [(2, .ref (uN 60)), (1, .ref (uX 0)), (0, .ref b)]) Z.1 Z.2.1 dL_law_15 rfl hl (by decide) rfl (fun ls hl => ?_)
  refine lv_iconst (v := 0) Z.1 Z.2.1 dL_law_16 (by decide) ?_
  refine lv_istore_n (lv' := LV b 0 uX uN) Z.1 Z.2.1 dL_law_17 rfl hl (by decide) rfl (fun ls hl => ?_)
  exact law_loop Z hL C0 ⟨Nat.le_of_ble_eq_true rfl, Nat.le_of_ble_eq_true rfl⟩ L 0 M N H locs ls (by omega) (by omega) (Rel_first hM n1 n2 n3 n4) hl (vP_cm hP) (vD_cm hD) hS
