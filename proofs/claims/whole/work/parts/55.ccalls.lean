/-! CONSTRUCTORS: calls in a world of which the last part is the callee's -/
theorem vP_l {D : va_G} {cl : List vw_C} {w1 w2 : va_W} {H : Heap} (h : va_P D cl (w1 ++ w2) H) : va_P D cl w1 H := fun k q hk => h k q (by rw [List.getElem?_append_left (List.getElem?_eq_some_iff.mp hk).1]; exact hk)
theorem vP_r {D : va_G} {cl : List vw_C} {w1 w2 : va_W} {H : Heap} (h : va_P D cl (w1 ++ w2) H) : va_P D cl w2 H := fun k q hk => h (w1.length + k) q (by rw [List.getElem?_append_right (by omega), Nat.add_sub_cancel_left]; exact hk)
theorem vD_l {A : Nat → Prop} {w1 w2 : va_W} (h : va_D A (w1 ++ w2)) : va_D A w1 := by
  have t : ∀ {k : Nat} {q : Nat × va_E}, w1[k]? = some q → (w1 ++ w2)[k]? = some q := fun {k q} hk => by rw [List.getElem?_append_left (List.getElem?_eq_some_iff.mp hk).1]; exact hk
  exact ⟨fun i j p q h1 h2 e => h.1 i j p q (t h1) (t h2) e, fun k q hk => h.2 k q (t hk)⟩
theorem vD_r {A : Nat → Prop} {w1 w2 : va_W} (h : va_D A (w1 ++ w2)) : va_D A w2 := by
  have t : ∀ {k : Nat} {q : Nat × va_E}, w2[k]? = some q → (w1 ++ w2)[w1.length + k]? = some q := fun {k q} hk => by rw [List.getElem?_append_right (by omega), Nat.add_sub_cancel_left]; exact hk
  exact ⟨fun i j p q h1 h2 e => by have := h.1 _ _ p q (t h1) (t h2) e; omega, fun k q hk => h.2 _ q (t hk)⟩
theorem vD_x {A : Nat → Prop} {w1 w2 : va_W} (h : va_D A (w1 ++ w2)) : ∀ (i j : Nat) (p q : Nat × va_E), w1[i]? = some p → w2[j]? = some q → p.1 ≠ q.1 := by
  intro i j p q h1 h2 e
  have l1 := (List.getElem?_eq_some_iff.mp h1).1
  have := h.1 i (w1.length + j) p q (by rw [List.getElem?_append_left l1]; exact h1) (by rw [List.getElem?_append_right (by omega), Nat.add_sub_cancel_left]; exact h2) e
  omega
theorem xw_m {A : Nat → Prop} {S : List Nat} {ad : Nat → Nat} {cs : Nat → ClassId} {M M' : xm} (h : va_D A (xw S ad cs M)) : va_D A (xw S ad cs M') := by
  have t : ∀ {k : Nat} {q : Nat × va_E}, (xw S ad cs M')[k]? = some q → ∃ e, (xw S ad cs M)[k]? = some (q.1, e) := fun {k q} hk => by
    unfold xw at hk ⊢
    rw [List.getElem?_map] at hk ⊢
    obtain ⟨a, ha, rfl⟩ := Option.map_eq_some_iff.mp hk
    exact ⟨_, by rw [ha]; rfl⟩
  refine ⟨fun i j p q h1 h2 e => ?_, fun k q hk => ?_⟩
  · obtain ⟨e1, g1⟩ := t h1
    obtain ⟨e2, g2⟩ := t h2
    exact h.1 i j _ _ g1 g2 e
  · obtain ⟨e1, g1⟩ := t hk
    exact h.2 k (q.1, e1) g1
theorem xw_dist {A : Nat → Prop} {S : List Nat} {ad : Nat → Nat} {cs : Nat → ClassId} {M : xm} (h : va_D A (xw S ad cs M)) (hn : S.Nodup) : xdist S ad := by
  refine ⟨hn, fun j k hj hk e => ?_⟩
  obtain ⟨q1, g1, s1⟩ := xw_at (cs := cs) (ad := ad) (M := M) hj
  obtain ⟨q2, g2, s2⟩ := xw_at (cs := cs) (ad := ad) (M := M) hk
  have := h.1 q1 q2 _ _ g1 g2 e
  subst this
  exact Option.some.inj (s1.symm.trans s2)
theorem xA_in {S : List Nat} {ad : Nat → Nat} {cs : Nat → ClassId} {M : xm} {sz q : Nat} (h : xA S ad q) : va_A (xw S ad cs M) sz q := by
  obtain ⟨k, hk, rfl⟩ := h
  obtain ⟨q1, g1, -⟩ := xw_at (cs := cs) (ad := ad) (M := M) hk
  exact Or.inl ⟨q1, _, g1⟩
theorem v_free {A0 : Nat → Prop} {w1 wc : va_W} {H0 H : Heap} {locs : List Loc} (hD : va_D A0 (w1 ++ wc)) (hS : va_S A0 H0 H locs) (hA : ∀ q, H0.size ≤ q → A0 q) : ∀ q, va_A wc H.size q → A0 q := by
  intro q h
  rcases h with ⟨k, e, h⟩ | h
  · exact (vD_r hD).2 k (q, e) h
  · exact hA q (Nat.le_trans hS.1 h)
theorem v_join {A0 : Nat → Prop} {D : va_G} {cl : List vw_C} {w1 wc w1' : va_W} {H H1 : Heap} (hP : va_P D cl (w1 ++ wc) H) (hD : va_D A0 (w1 ++ wc)) (hk : ∀ q : Nat, q < H.size → ¬ va_A wc H.size q → H1[q]? = H[q]?) (hF : ∀ q, va_A wc H.size q → A0 q) (hP1 : va_P D cl w1' H1) (hD1 : va_D (va_A wc H.size) w1') : va_P D cl (w1 ++ w1') H1 ∧ va_D A0 (w1 ++ w1') := by
  have apart : ∀ (k : Nat) (q : Nat × va_E), w1[k]? = some q → q.1 < H.size ∧ ¬ va_A wc H.size q.1 := by
    intro k q hq
    have hl := (vP_l hP k q hq).lt
    refine ⟨hl, fun h => ?_⟩
    rcases h with ⟨k2, e, h⟩ | h
    · exact vD_x hD k k2 q (q.1, e) hq h rfl
    · omega
  exact ⟨va_P.app (fun k q hq => (vP_l hP k q hq).kept (hk q.1 (apart k q hq).1 (apart k q hq).2)) hP1, va_D.app (vD_l hD) (hD1.weaken (fun k q _ h => hF q.1 h)) (fun i j x y hx hy hxy => (apart i x hx).2 (by rw [hxy]; exact hD1.2 j y hy))⟩
section
variable {p : Program} {l : Launch} {e : Env} {R : Room} {s : State} {m : MethodId} {args : Array Value} {below : List Frame} {meth : Method} {c : Code} {cc : ByteArray} {nL : Nat} {own : String} {D : va_G} {cs : Nat → ClassId} {A : Nat → Prop} {H : Heap} {locs : List Loc} {cells slots : Nat} {Q : State → Prop} {ls : Array Slot} {lv : List (Nat × Value)} {pc : Nat} {rest : List Value}
/-- a constructor: its cells are the world's last ones -/
theorem xi_callI (Z : IX p s m args meth c cc nL own D cs) {ρ : Type} {post : ρ → Prop} {wf : ρ → va_W} {w1 wc : va_W} {y : MethodName} {b : ByteArray} {nL2 index n o mc ms : Nat} {rmc : Room} {As st0 : List Value} (hM : Met l y [Cond.code y b nL2 none] rmc (XN D cs (.ref o :: As) wc H.size) (XE D post wf (va_A wc H.size)) mc ms (va_A wc H.size))
    (hP : va_P D classes (w1 ++ wc) H) (hD : va_D A (w1 ++ wc)) (hS : va_S A s.heap H locs) (hA : ∀ q, s.heap.size ≤ q → A q) (hcode : Cond.code y b nL2 none ∈ xbig) (hini : Cond.initialized y.cls ∈ xbig) (hlk : Cond.methodLink own index y ∈ xbig) (hin : Cond.instanceMethod y ∈ xbig) (hyn : y.name = "<init>")
    (hd : y.cls ≠ "java/lang/invoke/MethodHandle" ∧ y.cls ≠ "java/lang/invoke/VarHandle" ∧ (parseMethodDescriptor y.desc).map (fun d => d.parameters.length) = some n) (hn : As.length = n) (hrm : rmc.cells = mc ∧ rmc.slots = ms) (hR : rmc.frames + 1 ≤ R.frames ∧ 8 + (nL2 + 11) + rmc.locals ≤ R.locals) (hl : lv_has ls nL lv) (hst : st0 = As.reverse ++ .ref o :: rest) (hcat : (rest.map fun v => v.category).sum ≤ 8) (hcs : cells + mc ≤ R.cells ∧ slots + ms ≤ R.slots) (hdg : decode cc pc = .ok (.invokespecial index, 3))
    (kk : ∀ (u : ρ) (H1 : Heap) (locs1 : List Loc), post u → va_P D classes (w1 ++ wf u) H1 → va_D A (w1 ++ wf u) → va_S A s.heap H1 locs1 → W p l e R s m args below meth c H1 locs1 (cells + mc) (slots + ms) Q (F0 m (pc + 3) ls rest)) : W p l e R s m args below meth c H locs cells slots Q (F0 m pc ls st0) := by
  have hF := v_free hD hS hA
  refine va_callv (va_runI (As := As) (rest := rest) (g := F0 m pc ls st0) ⟨Z.1, Z.2.1, Z.2.2.1, Z.2.2.2.1, Z.hts⟩ hM (cwI n Z.hts (xgood (xq_1 hcode)) rfl hrm.1 hrm.2 (Z.hts _ hini) (Z.hts _ hlk) (Z.hts _ hin) hyn hd hR) ⟨XN.blind, fun U hU hW => ⟨rfl, by rw [hU], xsn.warm hW Z.2.2.2.2.1, by rw [hU]; exact vP_r hP, (vD_r hD).weaken (fun _ _ _ _ => trivial)⟩⟩ rfl hn hl.1 hst (lv_room (m := m) (pc := pc) (ls := ls) (rest := rest) hcat) hdg hcs) hS (fun q _ h => hF q h) hF (fun u t H1 locs1 ht hvm hw2 hB hz hk1 hS1 => ?_)
  rw [ht] at hB
  obtain ⟨g1, g2⟩ := v_join hP hD hk1 hF hB.1 hB.2
  exact kk u H1 locs1 hw2 g1 g2 hS1
theorem xi_callN (Z : IX p s m args meth c cc nL own D cs) {ρ : Type} {post : ρ → Prop} {wf : ρ → va_W} {w1 wc : va_W} {y : MethodName} {b : ByteArray} {nL2 index n o mc ms : Nat} {host : String} {rmc : Room} {As st0 : List Value} (hM : Met l y [Cond.code y b nL2 none] rmc (XN D cs (.ref o :: As) wc H.size) (XE D post wf (va_A wc H.size)) mc ms (va_A wc H.size))
    (hP : va_P D classes (w1 ++ wc) H) (hD : va_D A (w1 ++ wc)) (hS : va_S A s.heap H locs) (hA : ∀ q, s.heap.size ≤ q → A q) (hcode : Cond.code y b nL2 none ∈ xbig) (hini : Cond.initialized y.cls ∈ xbig) (hlk : Cond.methodLinkNest own index y host ∈ xnst) (hin : Cond.instanceMethod y ∈ xbig) (hyn : y.name = "<init>")
    (hd : y.cls ≠ "java/lang/invoke/MethodHandle" ∧ y.cls ≠ "java/lang/invoke/VarHandle" ∧ (parseMethodDescriptor y.desc).map (fun d => d.parameters.length) = some n) (hn : As.length = n) (hrm : rmc.cells = mc ∧ rmc.slots = ms) (hR : rmc.frames + 1 ≤ R.frames ∧ 8 + (nL2 + 11) + rmc.locals ≤ R.locals) (hl : lv_has ls nL lv) (hst : st0 = As.reverse ++ .ref o :: rest) (hcat : (rest.map fun v => v.category).sum ≤ 8) (hcs : cells + mc ≤ R.cells ∧ slots + ms ≤ R.slots) (hdg : decode cc pc = .ok (.invokespecial index, 3))
    (kk : ∀ (u : ρ) (H1 : Heap) (locs1 : List Loc), post u → va_P D classes (w1 ++ wf u) H1 → va_D A (w1 ++ wf u) → va_S A s.heap H1 locs1 → W p l e R s m args below meth c H1 locs1 (cells + mc) (slots + ms) Q (F0 m (pc + 3) ls rest)) : W p l e R s m args below meth c H locs cells slots Q (F0 m pc ls st0) := by
  have hF := v_free hD hS hA
  refine va_callv (va_runIN (As := As) (rest := rest) (g := F0 m pc ls st0) ⟨Z.1, Z.2.1, Z.2.2.1, Z.2.2.2.1, Z.hts⟩ hM ⟨va_cnB n Z.hts (xgood (xq_1 hcode)) rfl hrm.1 hrm.2 (Z.2.2.2.2.1.1.2.2 _ hlk) (Z.hts _ hini) hd hR, hyn, Z.hts _ hin⟩ ⟨XN.blind, fun U hU hW => ⟨rfl, by rw [hU], xsn.warm hW Z.2.2.2.2.1, by rw [hU]; exact vP_r hP, (vD_r hD).weaken (fun _ _ _ _ => trivial)⟩⟩ rfl hn hl.1 hst (lv_room (m := m) (pc := pc) (ls := ls) (rest := rest) hcat) hdg hcs) hS (fun q _ h => hF q h) hF (fun u t H1 locs1 ht hvm hw2 hB hz hk1 hS1 => ?_)
  rw [ht] at hB
  obtain ⟨g1, g2⟩ := v_join hP hD hk1 hF hB.1 hB.2
  exact kk u H1 locs1 hw2 g1 g2 hS1
/-- a method over the memory: its cells are the world's last ones -/
theorem xi_callVm (Z : IX p s m args meth c cc nL own D cs) {w1 : va_W} {S : List Nat} {ad : Nat → Nat} {M M' : xm} {y : MethodName} {b : ByteArray} {nL2 index n k ci N : Nat} {C : String} {T : u_T} {rmc : Room} {As st0 : List Value} (hM : xdist S ad → Met l y [Cond.code y b nL2 none] rmc (XPc D cs S ad (.ref (ad k) :: As) M) (XQv D cs S ad M') 0 0 (xA S ad)) (hSn : S.Nodup)
    (hP : va_P D classes (w1 ++ xw S ad cs M) H) (hD : va_D A (w1 ++ xw S ad cs M)) (hS : va_S A s.heap H locs) (hA : ∀ q, s.heap.size ≤ q → A q) (hw : ∀ w ∈ wsV own index C y [Cond.code y b nL2 none], w ∈ xbig) (hk : k ∈ S) (hy : xlay k = (0, ci)) (hcl : classes[ci]? = some (C, T, N))
    (hd : y.cls = C ∧ y.cls ≠ "java/lang/invoke/MethodHandle" ∧ y.cls ≠ "java/lang/invoke/VarHandle" ∧ (parseMethodDescriptor y.desc).map (fun d => d.parameters.length) = some n) (hn : As.length = n) (hrm : rmc.cells = 0 ∧ rmc.slots = 0) (hR : rmc.frames + 1 ≤ R.frames ∧ 8 + (nL2 + 11) + rmc.locals ≤ R.locals) (hl : lv_has ls nL lv) (hst : st0 = As.reverse ++ .ref (ad k) :: rest) (hcat : (rest.map fun v => v.category).sum ≤ 8) (hcs : cells ≤ R.cells ∧ slots ≤ R.slots) (hdg : decode cc pc = .ok (.invokevirtual index, 3))
    (kk : ∀ (H1 : Heap) (locs1 : List Loc), va_P D classes (w1 ++ xw S ad cs M') H1 → va_D A (w1 ++ xw S ad cs M') → va_S A s.heap H1 locs1 → W p l e R s m args below meth c H1 locs1 cells slots Q (F0 m (pc + 3) ls rest)) : W p l e R s m args below meth c H locs cells slots Q (F0 m pc ls st0) := by
  have hF := v_free hD hS hA
  have hF2 : ∀ q, xA S ad q → A q := fun q h => hF q (xA_in h)
  obtain ⟨q, hq, -⟩ := xw_at (cs := cs) (ad := ad) (M := M) hk
  have hc : xcell ad cs M k = .inr (ci, xfs ad (M.1 k) M.2 k ci) := by unfold xcell; rw [hy]; rfl
  rw [hc] at hq
  have hrecv := va_recv Z.K (vP_r hP) hcl hq
  refine va_callv (va_runV (As := As) (rest := rest) (g := F0 m pc ls st0) ⟨Z.1, Z.2.1, Z.2.2.1, Z.2.2.2.1, Z.hts⟩ (hM (xw_dist (vD_r hD) hSn)) (cwV n Z.hts (xgood hw) rfl hrm.1 hrm.2 hd hR) ⟨XPc.blind, hrecv, fun U hU hW => ⟨rfl, xst.warm hW Z.2.2.2.2.1.1, by rw [hU]; exact vP_r hP⟩⟩ rfl hn hl.1 hst (lv_room (m := m) (pc := pc) (ls := ls) (rest := rest) hcat) hdg hcs) hS (fun q _ h => hF2 q h) hF2 (fun u t H1 locs1 ht hvm hw2 hB hz hk1 hS1 => ?_)
  rw [ht] at hB
  obtain ⟨g1, g2⟩ := v_join (w1' := xw S ad cs M') hP hD (fun q h1 h2 => hk1 q h1 (fun h3 => h2 (xA_in h3))) hF hB (xw_m (vD_r hD).self)
  exact kk H1 locs1 g1 g2 hS1
theorem xi_callVi (Z : IX p s m args meth c cc nL own D cs) {w1 : va_W} {S : List Nat} {ad : Nat → Nat} {M M' : xm} {v : Int32} {y : MethodName} {b : ByteArray} {nL2 index n k ci N : Nat} {C : String} {T : u_T} {ret2 : Option FieldType} {rmc : Room} {As st0 : List Value} (hM : xdist S ad → Met l y [Cond.code y b nL2 ret2] rmc (XPc D cs S ad (.ref (ad k) :: As) M) (XQi D cs S ad v M') 0 0 (xA S ad)) (hSn : S.Nodup)
    (hP : va_P D classes (w1 ++ xw S ad cs M) H) (hD : va_D A (w1 ++ xw S ad cs M)) (hS : va_S A s.heap H locs) (hA : ∀ q, s.heap.size ≤ q → A q) (hw : ∀ w ∈ wsV own index C y [Cond.code y b nL2 ret2], w ∈ xbig) (hk : k ∈ S) (hy : xlay k = (0, ci)) (hcl : classes[ci]? = some (C, T, N))
    (hd : y.cls = C ∧ y.cls ≠ "java/lang/invoke/MethodHandle" ∧ y.cls ≠ "java/lang/invoke/VarHandle" ∧ (parseMethodDescriptor y.desc).map (fun d => d.parameters.length) = some n) (hn : As.length = n) (hrm : rmc.cells = 0 ∧ rmc.slots = 0) (hR : rmc.frames + 1 ≤ R.frames ∧ 8 + (nL2 + 11) + rmc.locals ≤ R.locals) (hl : lv_has ls nL lv) (hst : st0 = As.reverse ++ .ref (ad k) :: rest) (hcat : (rest.map fun v => v.category).sum ≤ 8) (hcs : cells ≤ R.cells ∧ slots ≤ R.slots) (hdg : decode cc pc = .ok (.invokevirtual index, 3))
    (kk : ∀ (H1 : Heap) (locs1 : List Loc), va_P D classes (w1 ++ xw S ad cs M') H1 → va_D A (w1 ++ xw S ad cs M') → va_S A s.heap H1 locs1 → W p l e R s m args below meth c H1 locs1 cells slots Q (F0 m (pc + 3) ls (.int v :: rest))) : W p l e R s m args below meth c H locs cells slots Q (F0 m pc ls st0) := by
  have hF := v_free hD hS hA
  have hF2 : ∀ q, xA S ad q → A q := fun q h => hF q (xA_in h)
  obtain ⟨q, hq, -⟩ := xw_at (cs := cs) (ad := ad) (M := M) hk
  have hc : xcell ad cs M k = .inr (ci, xfs ad (M.1 k) M.2 k ci) := by unfold xcell; rw [hy]; rfl
  rw [hc] at hq
  have hrecv := va_recv Z.K (vP_r hP) hcl hq
  refine va_calli (va_runV (As := As) (rest := rest) (g := F0 m pc ls st0) ⟨Z.1, Z.2.1, Z.2.2.1, Z.2.2.2.1, Z.hts⟩ (hM (xw_dist (vD_r hD) hSn)) (cwV n Z.hts (xgood hw) rfl hrm.1 hrm.2 hd hR) ⟨XPc.blind, hrecv, fun U hU hW => ⟨rfl, xst.warm hW Z.2.2.2.2.1.1, by rw [hU]; exact vP_r hP⟩⟩ rfl hn hl.1 hst (lv_room (m := m) (pc := pc) (ls := ls) (rest := rest) hcat) hdg hcs) hS (fun q _ h => hF2 q h) hF2 (fun x2 u t H1 locs1 ht hvm hw2 hB hz hk1 hS1 => ?_)
  rw [ht] at hB
  subst hw2
  obtain ⟨g1, g2⟩ := v_join (w1' := xw S ad cs M') hP hD (fun q h1 h2 => hk1 q h1 (fun h3 => h2 (xA_in h3))) hF hB (xw_m (vD_r hD).self)
  exact kk H1 locs1 g1 g2 hS1
end
