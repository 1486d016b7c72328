/-! CONTRACTS over the memory -/
def XPc (D : va_G) (cs : Nat → ClassId) (S : List Nat) (ad : Nat → Nat) (vs : List Value) (M : xm) : Array Value → State → Prop := va_Pc vs (fun U => xst D cs U ∧ va_P D classes (xw S ad cs M) U.heap)
def XQi (D : va_G) (cs : Nat → ClassId) (S : List Nat) (ad : Nat → Nat) (r : Int32) (M : xm) : Array Value → State → Outcome → State → Prop := va_Qi (S := Unit) (fun x _ => x = r) (fun _ t => va_P D classes (xw S ad cs M) t.heap) (xA S ad)
def XQv (D : va_G) (cs : Nat → ClassId) (S : List Nat) (ad : Nat → Nat) (M : xm) : Array Value → State → Outcome → State → Prop := va_Qv (S := Unit) (fun _ => True) (fun _ t => va_P D classes (xw S ad cs M) t.heap) (xA S ad)
def XRr (below : List Frame) (args : Array Value) (s : State) (D : va_G) (cs : Nat → ClassId) (S : List Nat) (ad : Nat → Nat) (M : xm) : Int32 → State → Prop := fun r => MQ below (XQi D cs S ad r M) args s 0 0 (xA S ad)
def XRm (below : List Frame) (args : Array Value) (s : State) (D : va_G) (cs : Nat → ClassId) (S : List Nat) (ad : Nat → Nat) : xm → State → Prop := fun M => MQ below (XQv D cs S ad M) args s 0 0 (xA S ad)
def XRb (below : List Frame) (args : Array Value) (s : State) (D : va_G) (cs : Nat → ClassId) (S : List Nat) (ad : Nat → Nat) : Int32 × xm → State → Prop := fun q => MQ below (XQi D cs S ad q.1 q.2) args s 0 0 (xA S ad)
theorem XPc.blind {D : va_G} {cs : Nat → ClassId} {S : List Nat} {ad : Nat → Nat} {vs : List Value} {M : xm} : FrameBlind (XPc D cs S ad vs M) := fun a U g mk q => by
  obtain ⟨q0, q1, q2⟩ := q
  exact ⟨q0, xst.same (u := U) (U := U.calling g mk a) rfl q1, q2⟩
theorem xA.sub {A : Nat → Prop} {S : List Nat} {ad : Nat → Nat} (h : xD A S ad) : ∀ q, xA S ad q → A q := fun q hq => by
  obtain ⟨k, hk, rfl⟩ := hq
  exact h.2.2 k hk
section XR
variable {ρ : Type} {p : Program} {l : Launch} {e : Env} {R : Room} {s : State} {m : MethodId} {args : Array Value} {below : List Frame} {meth : Method} {c : Code} {D : va_G} {cs : Nat → ClassId} {A : Nat → Prop} {S : List Nat} {ad : Nat → Nat} {nL : Nat} {Q : ρ → State → Prop} {cc : ByteArray} {own : String} {ret : Option FieldType}
variable {pc : Nat} {lv : List (Nat × Value)} {st : List Value} {M : xm} {o : Option ρ}

theorem xj_callVr (Z : CX p s m args meth c cc nL own ret D cs A S ad) {y : MethodName} {b : ByteArray} {nL2 index n : Nat} {ret2 : Option FieldType} {rmc : Room} {C : String} {T : u_T} {N ci k : Nat} {As st0 : List Value} {f : Option (Int32)} {g : Int32 → Option ρ} (hM : ∀ x, f = some x → Met l y [Cond.code y b nL2 ret2] rmc (XPc D cs S ad (.ref (ad k) :: As) M) (XQi D cs S ad x M) 0 0 (xA S ad)) (hw : ∀ w ∈ wsV own index C y [Cond.code y b nL2 ret2], w ∈ xbig) (hk : k ∈ S) (hy : xlay k = (0, ci)) (hcl : classes[ci]? = some (C, T, N)) (hd : y.cls = C ∧ y.cls ≠ "java/lang/invoke/MethodHandle" ∧ y.cls ≠ "java/lang/invoke/VarHandle" ∧ (parseMethodDescriptor y.desc).map (fun d => d.parameters.length) = some n) (hn : As.length = n) (hrm : rmc.cells = 0 ∧ rmc.slots = 0) (hR : rmc.frames + 1 ≤ R.frames ∧ 8 + (nL2 + 11) + rmc.locals ≤ R.locals) (hst : st0 = As.reverse ++ .ref (ad k) :: st) (hcat : (st.map fun v => v.category).sum ≤ 8) (hdg : decode cc pc = .ok (.invokevirtual index, 3)) (kk : ∀ x, XJ p l e R s m args below meth c D cs A S ad nL Q (pc + 3) lv (.int x :: st) M (g x)) : XJ p l e R s m args below meth c D cs A S ad nL Q pc lv st0 M (f.bind g) := by
  intro H locs ls hl hP hS r hr
  cases hf : f with
  | none => rw [hf] at hr; cases hr
  | some x =>
    rw [hf] at hr
    have hr : g x = some r := hr
    have hts := Z.2.2.2.2.1.hts args
    obtain ⟨q, hq, -⟩ := xw_at (cs := cs) (ad := ad) (M := M) hk
    have hc : xcell ad cs M k = .inr (ci, xfs ad (M.1 k) M.2 k ci) := by unfold xcell; rw [hy]; rfl
    rw [hc] at hq
    have hrecv := va_recv Z.2.2.2.2.1.1 hP hcl hq
    refine va_calli (va_runV (As := As) (rest := st) (g := F0 m pc ls st0) ⟨Z.1, Z.2.1, Z.2.2.1, Z.2.2.2.1, hts⟩ (hM x hf) (cwV n hts (xgood hw) rfl hrm.1 hrm.2 hd hR) ⟨XPc.blind, hrecv, fun U hU hW => ⟨rfl, xst.warm hW Z.2.2.2.2.1, by rw [hU]; exact hP⟩⟩ rfl hn hl.1 hst (lv_room (m := m) (pc := pc) (ls := ls) (rest := st) hcat) hdg ⟨Nat.zero_le _, Nat.zero_le _⟩) hS (fun q _ h => xA.sub Z.2.2.2.2.2.1 q h) (fun q h => xA.sub Z.2.2.2.2.2.1 q h) (fun x2 u t H1 locs1 ht hvm hw2 hB hz hk1 hS1 => ?_)
    rw [ht] at hB
    subst hw2
    exact kk _ H1 locs1 ls hl hB hS1 r hr
theorem xj_callVm (Z : CX p s m args meth c cc nL own ret D cs A S ad) {y : MethodName} {b : ByteArray} {nL2 index n : Nat} {ret2 : Option FieldType} {rmc : Room} {C : String} {T : u_T} {N ci k : Nat} {As st0 : List Value} {f : Option (xm)} {g : xm → Option ρ} (hM : ∀ x, f = some x → Met l y [Cond.code y b nL2 ret2] rmc (XPc D cs S ad (.ref (ad k) :: As) M) (XQv D cs S ad x) 0 0 (xA S ad)) (hw : ∀ w ∈ wsV own index C y [Cond.code y b nL2 ret2], w ∈ xbig) (hk : k ∈ S) (hy : xlay k = (0, ci)) (hcl : classes[ci]? = some (C, T, N)) (hd : y.cls = C ∧ y.cls ≠ "java/lang/invoke/MethodHandle" ∧ y.cls ≠ "java/lang/invoke/VarHandle" ∧ (parseMethodDescriptor y.desc).map (fun d => d.parameters.length) = some n) (hn : As.length = n) (hrm : rmc.cells = 0 ∧ rmc.slots = 0) (hR : rmc.frames + 1 ≤ R.frames ∧ 8 + (nL2 + 11) + rmc.locals ≤ R.locals) (hst : st0 = As.reverse ++ .ref (ad k) :: st) (hcat : (st.map fun v => v.category).sum ≤ 8) (hdg : decode cc pc = .ok (.invokevirtual index, 3)) (kk : ∀ x, XJ p l e R s m args below meth c D cs A S ad nL Q (pc + 3) lv (st) x (g x)) : XJ p l e R s m args below meth c D cs A S ad nL Q pc lv st0 M (f.bind g) := by
  intro H locs ls hl hP hS r hr
  cases hf : f with
  | none => rw [hf] at hr; cases hr
  | some x =>
    rw [hf] at hr
    have hr : g x = some r := hr
    have hts := Z.2.2.2.2.1.hts args
    obtain ⟨q, hq, -⟩ := xw_at (cs := cs) (ad := ad) (M := M) hk
    have hc : xcell ad cs M k = .inr (ci, xfs ad (M.1 k) M.2 k ci) := by unfold xcell; rw [hy]; rfl
    rw [hc] at hq
    have hrecv := va_recv Z.2.2.2.2.1.1 hP hcl hq
    refine va_callv (va_runV (As := As) (rest := st) (g := F0 m pc ls st0) ⟨Z.1, Z.2.1, Z.2.2.1, Z.2.2.2.1, hts⟩ (hM x hf) (cwV n hts (xgood hw) rfl hrm.1 hrm.2 hd hR) ⟨XPc.blind, hrecv, fun U hU hW => ⟨rfl, xst.warm hW Z.2.2.2.2.1, by rw [hU]; exact hP⟩⟩ rfl hn hl.1 hst (lv_room (m := m) (pc := pc) (ls := ls) (rest := st) hcat) hdg ⟨Nat.zero_le _, Nat.zero_le _⟩) hS (fun q _ h => xA.sub Z.2.2.2.2.2.1 q h) (fun q h => xA.sub Z.2.2.2.2.2.1 q h) (fun u t H1 locs1 ht hvm hw2 hB hz hk1 hS1 => ?_)
    rw [ht] at hB
    exact kk _ H1 locs1 ls hl hB hS1 r hr
theorem xj_callVb (Z : CX p s m args meth c cc nL own ret D cs A S ad) {y : MethodName} {b : ByteArray} {nL2 index n : Nat} {ret2 : Option FieldType} {rmc : Room} {C : String} {T : u_T} {N ci k : Nat} {As st0 : List Value} {f : Option (Int32 × xm)} {g : Int32 × xm → Option ρ} (hM : ∀ x, f = some x → Met l y [Cond.code y b nL2 ret2] rmc (XPc D cs S ad (.ref (ad k) :: As) M) (XQi D cs S ad x.1 x.2) 0 0 (xA S ad)) (hw : ∀ w ∈ wsV own index C y [Cond.code y b nL2 ret2], w ∈ xbig) (hk : k ∈ S) (hy : xlay k = (0, ci)) (hcl : classes[ci]? = some (C, T, N)) (hd : y.cls = C ∧ y.cls ≠ "java/lang/invoke/MethodHandle" ∧ y.cls ≠ "java/lang/invoke/VarHandle" ∧ (parseMethodDescriptor y.desc).map (fun d => d.parameters.length) = some n) (hn : As.length = n) (hrm : rmc.cells = 0 ∧ rmc.slots = 0) (hR : rmc.frames + 1 ≤ R.frames ∧ 8 + (nL2 + 11) + rmc.locals ≤ R.locals) (hst : st0 = As.reverse ++ .ref (ad k) :: st) (hcat : (st.map fun v => v.category).sum ≤ 8) (hdg : decode cc pc = .ok (.invokevirtual index, 3)) (kk : ∀ x : Int32 × xm, XJ p l e R s m args below meth c D cs A S ad nL Q (pc + 3) lv (.int x.1 :: st) x.2 (g x)) : XJ p l e R s m args below meth c D cs A S ad nL Q pc lv st0 M (f.bind g) := by
  intro H locs ls hl hP hS r hr
  cases hf : f with
  | none => rw [hf] at hr; cases hr
  | some x =>
    rw [hf] at hr
    have hr : g x = some r := hr
    have hts := Z.2.2.2.2.1.hts args
    obtain ⟨q, hq, -⟩ := xw_at (cs := cs) (ad := ad) (M := M) hk
    have hc : xcell ad cs M k = .inr (ci, xfs ad (M.1 k) M.2 k ci) := by unfold xcell; rw [hy]; rfl
    rw [hc] at hq
    have hrecv := va_recv Z.2.2.2.2.1.1 hP hcl hq
    refine va_calli (va_runV (As := As) (rest := st) (g := F0 m pc ls st0) ⟨Z.1, Z.2.1, Z.2.2.1, Z.2.2.2.1, hts⟩ (hM x hf) (cwV n hts (xgood hw) rfl hrm.1 hrm.2 hd hR) ⟨XPc.blind, hrecv, fun U hU hW => ⟨rfl, xst.warm hW Z.2.2.2.2.1, by rw [hU]; exact hP⟩⟩ rfl hn hl.1 hst (lv_room (m := m) (pc := pc) (ls := ls) (rest := st) hcat) hdg ⟨Nat.zero_le _, Nat.zero_le _⟩) hS (fun q _ h => xA.sub Z.2.2.2.2.2.1 q h) (fun q h => xA.sub Z.2.2.2.2.2.1 q h) (fun x2 u t H1 locs1 ht hvm hw2 hB hz hk1 hS1 => ?_)
    rw [ht] at hB
    subst hw2
    exact kk x H1 locs1 ls hl hB hS1 r hr
theorem xj_callSr (Z : CX p s m args meth c cc nL own ret D cs A S ad) {y : MethodName} {b : ByteArray} {nL2 index n : Nat} {ret2 : Option FieldType} {rmc : Room} {As st0 : List Value} {f : Option (Int32)} {g : Int32 → Option ρ} (hM : ∀ x, f = some x → Met l y [Cond.code y b nL2 ret2] rmc (XPc D cs S ad As M) (XQi D cs S ad x M) 0 0 (xA S ad)) (hw : ∀ w ∈ va_wsS own index y [Cond.code y b nL2 ret2], w ∈ xbig) (hd : y.cls ≠ "java/lang/invoke/MethodHandle" ∧ y.cls ≠ "java/lang/invoke/VarHandle" ∧ (parseMethodDescriptor y.desc).map (fun d => d.parameters.length) = some n) (hn : As.length = n) (hrm : rmc.cells = 0 ∧ rmc.slots = 0) (hR : rmc.frames + 1 ≤ R.frames ∧ 8 + (nL2 + 11) + rmc.locals ≤ R.locals) (hst : st0 = As.reverse ++ st) (hcat : (st.map fun v => v.category).sum ≤ 8) (hdg : decode cc pc = .ok (.invokestatic index, 3)) (kk : ∀ x, XJ p l e R s m args below meth c D cs A S ad nL Q (pc + 3) lv (.int x :: st) M (g x)) : XJ p l e R s m args below meth c D cs A S ad nL Q pc lv st0 M (f.bind g) := by
  intro H locs ls hl hP hS r hr
  cases hf : f with
  | none => rw [hf] at hr; cases hr
  | some x =>
    rw [hf] at hr
    have hr : g x = some r := hr
    have hts := Z.2.2.2.2.1.hts args
    refine va_calli (va_runS (As := As) (rest := st) (g := F0 m pc ls st0) ⟨Z.1, Z.2.1, Z.2.2.1, Z.2.2.2.1, hts⟩ (hM x hf) (va_cwS n hts (xgood hw) rfl hrm.1 hrm.2 hd hR) ⟨XPc.blind, fun U hU hW => ⟨rfl, xst.warm hW Z.2.2.2.2.1, by rw [hU]; exact hP⟩⟩ rfl hn hl.1 hst (lv_room (m := m) (pc := pc) (ls := ls) (rest := st) hcat) hdg ⟨Nat.zero_le _, Nat.zero_le _⟩) hS (fun q _ h => xA.sub Z.2.2.2.2.2.1 q h) (fun q h => xA.sub Z.2.2.2.2.2.1 q h) (fun x2 u t H1 locs1 ht hvm hw2 hB hz hk1 hS1 => ?_)
    rw [ht] at hB
    subst hw2
    exact kk _ H1 locs1 ls hl hB hS1 r hr
theorem xj_callNr (Z : CX p s m args meth c cc nL own ret D cs A S ad) {y : MethodName} {b : ByteArray} {nL2 index n : Nat} {ret2 : Option FieldType} {rmc : Room} {host : String} {As st0 : List Value} {f : Option (Int32)} {g : Int32 → Option ρ} (hM : ∀ x, f = some x → Met l y [Cond.code y b nL2 ret2] rmc (XPc D cs S ad As M) (XQi D cs S ad x M) 0 0 (xA S ad)) (hw : ∀ w ∈ [Cond.code y b nL2 ret2], w ∈ xbig) (hnl : Cond.methodLinkNest own index y host ∈ xnst) (hst2 : Cond.static y ∈ xbig) (hini : Cond.initialized y.cls ∈ xbig) (hd : y.cls ≠ "java/lang/invoke/MethodHandle" ∧ y.cls ≠ "java/lang/invoke/VarHandle" ∧ (parseMethodDescriptor y.desc).map (fun d => d.parameters.length) = some n) (hn : As.length = n) (hrm : rmc.cells = 0 ∧ rmc.slots = 0) (hR : rmc.frames + 1 ≤ R.frames ∧ 8 + (nL2 + 11) + rmc.locals ≤ R.locals) (hst : st0 = As.reverse ++ st) (hcat : (st.map fun v => v.category).sum ≤ 8) (hdg : decode cc pc = .ok (.invokestatic index, 3)) (kk : ∀ x, XJ p l e R s m args below meth c D cs A S ad nL Q (pc + 3) lv (.int x :: st) M (g x)) : XJ p l e R s m args below meth c D cs A S ad nL Q pc lv st0 M (f.bind g) := by
  intro H locs ls hl hP hS r hr
  cases hf : f with
  | none => rw [hf] at hr; cases hr
  | some x =>
    rw [hf] at hr
    have hr : g x = some r := hr
    have hts := Z.2.2.2.2.1.hts args
    refine va_calli (va_runSN (As := As) (rest := st) (g := F0 m pc ls st0) ⟨Z.1, Z.2.1, Z.2.2.1, Z.2.2.2.1, hts⟩ (hM x hf) ⟨va_cnB n hts (xgood hw) rfl hrm.1 hrm.2 (Z.2.2.2.2.1.2.2 _ hnl) (hts _ hini) hd hR, hts _ hst2, trivial⟩ ⟨XPc.blind, fun U hU hW => ⟨rfl, xst.warm hW Z.2.2.2.2.1, by rw [hU]; exact hP⟩⟩ rfl hn hl.1 hst (lv_room (m := m) (pc := pc) (ls := ls) (rest := st) hcat) hdg ⟨Nat.zero_le _, Nat.zero_le _⟩) hS (fun q _ h => xA.sub Z.2.2.2.2.2.1 q h) (fun q h => xA.sub Z.2.2.2.2.2.1 q h) (fun x2 u t H1 locs1 ht hvm hw2 hB hz hk1 hS1 => ?_)
    rw [ht] at hB
    subst hw2
    exact kk _ H1 locs1 ls hl hB hS1 r hr
theorem xj_mmin (Z : CX p s m args meth c cc nL own ret D cs A S ad) {index : Nat} {x y : Int32} (hl1 : Cond.methodLink own index Lib.Math.min.name ∈ xbig) (hl2 : Cond.static Lib.Math.min.name ∈ xbig) (hl3 : Cond.initialized "java/lang/Math" ∈ xbig) (hl4 : Cond.code Lib.Math.min.name Lib.Math.min.code 2 (some .int) ∈ xbig) (hR : 1 ≤ R.frames ∧ (st.map fun v => v.category).sum + 13 ≤ R.locals) (hdg : decode cc pc = .ok (.invokestatic index, 3)) (kk : XJ p l e R s m args below meth c D cs A S ad nL Q (pc + 3) lv (.int (if y < x then y else x) :: st) M o) : XJ p l e R s m args below meth c D cs A S ad nL Q (pc) lv (.int y :: .int x :: st) M o := by
  intro H locs ls hl hP hS r hr
  have hts := Z.2.2.2.2.1.hts args
  exact va_mmin Z.1 Z.2.1 (by rw [Z.2.2.1]; exact hl.1.symm) Z.2.2.2.1 (hts _ hl1) (hts _ hl2) (hts _ hl3) (hts _ hl4) hR.1 hR.2 (Nat.zero_le _) (Nat.zero_le _) hdg (kk H locs ls hl hP hS r hr)
theorem xj_mmax (Z : CX p s m args meth c cc nL own ret D cs A S ad) {index : Nat} {x y : Int32} (hl1 : Cond.methodLink own index Lib.Math.max.name ∈ xbig) (hl2 : Cond.static Lib.Math.max.name ∈ xbig) (hl3 : Cond.initialized "java/lang/Math" ∈ xbig) (hl4 : Cond.code Lib.Math.max.name Lib.Math.max.code 2 (some .int) ∈ xbig) (hR : 1 ≤ R.frames ∧ (st.map fun v => v.category).sum + 13 ≤ R.locals) (hdg : decode cc pc = .ok (.invokestatic index, 3)) (kk : XJ p l e R s m args below meth c D cs A S ad nL Q (pc + 3) lv (.int (if x < y then y else x) :: st) M o) : XJ p l e R s m args below meth c D cs A S ad nL Q (pc) lv (.int y :: .int x :: st) M o := by
  intro H locs ls hl hP hS r hr
  have hts := Z.2.2.2.2.1.hts args
  exact va_mmax Z.1 Z.2.1 (by rw [Z.2.2.1]; exact hl.1.symm) Z.2.2.2.1 (hts _ hl1) (hts _ hl2) (hts _ hl3) (hts _ hl4) hR.1 hR.2 (Nat.zero_le _) (Nat.zero_le _) hdg (kk H locs ls hl hP hS r hr)
theorem xj_tblIn (Z : CX p s m args meth c cc nL own ret D cs A S ad) {dflt lo hi : Int} {offs : Array Int} {len : Nat} {x : Int32} {off : Int} (tgt : Nat) (hdg : decode cc pc = .ok (.tableswitch dflt lo hi offs, len)) (h1 : ¬ x.toInt < lo) (h2 : ¬ hi < x.toInt) (ho : offs[(x.toInt - lo).toNat]? = some off) (ht : (pc : Int) + off = (tgt : Int)) (k : XJ p l e R s m args below meth c D cs A S ad nL Q (tgt) lv (st) M o) : XJ p l e R s m args below meth c D cs A S ad nL Q (pc) lv (.int x :: st) M o := fun H locs ls hl hP hS r hr => lv_tableIn Z.1 Z.2.1 hdg h1 h2 ho ht (k H locs ls hl hP hS r hr)
theorem xj_tblOut (Z : CX p s m args meth c cc nL own ret D cs A S ad) {dflt lo hi : Int} {offs : Array Int} {len : Nat} {x : Int32} (tgt : Nat) (hdg : decode cc pc = .ok (.tableswitch dflt lo hi offs, len)) (h : x.toInt < lo ∨ hi < x.toInt) (ht : (pc : Int) + dflt = (tgt : Int)) (k : XJ p l e R s m args below meth c D cs A S ad nL Q (tgt) lv (st) M o) : XJ p l e R s m args below meth c D cs A S ad nL Q (pc) lv (.int x :: st) M o := fun H locs ls hl hP hS r hr => lv_tableOut Z.1 Z.2.1 hdg h ht (k H locs ls hl hP hS r hr)
theorem xj_look (Z : CX p s m args meth c cc nL own ret D cs A S ad) {dflt : Int} {ps : Array (Int × Int)} {len : Nat} {x : Int32} {off : Int} (tgt : Nat) (hdg : decode cc pc = .ok (.lookupswitch dflt ps, len)) (hp : (ps.toList.zip (ps.toList.drop 1)).all (fun (a, next) => a.1 < next.1) = true) (ho : Op.lookupswitch.offset ps.toList dflt x.toInt = off) (ht : (pc : Int) + off = (tgt : Int)) (k : XJ p l e R s m args below meth c D cs A S ad nL Q (tgt) lv (st) M o) : XJ p l e R s m args below meth c D cs A S ad nL Q (pc) lv (.int x :: st) M o := fun H locs ls hl hP hS r hr => lv_lookup Z.1 Z.2.1 hdg hp ho ht (k H locs ls hl hP hS r hr)
end XR
section XT
variable {p : Program} {l : Launch} {e : Env} {R : Room} {s : State} {m : MethodId} {args : Array Value} {below : List Frame} {meth : Method} {c : Code} {D : va_G} {cs : Nat → ClassId} {S : List Nat} {ad : Nat → Nat} {nL : Nat} {cc : ByteArray} {own : String} 
variable {pc : Nat} {lv : List (Nat × Value)} {st : List Value} {M : xm} {M0 : xm}

theorem xj_ret_r (Z : CX p s m args meth c cc nL own (some .int) D cs (xA S ad) S ad) {v : Int32} (hdg : decode cc pc = .ok (.ireturn, 1)) : XJ p l e R s m args below meth c D cs (xA S ad) S ad nL (XRr below args s D cs S ad M) pc lv [.int v] M (some v) := by
  intro H locs ls hl hP hS r hr
  cases hr
  exact W.iret (v := v) Z.1 Z.2.1 Z.2.2.2.2.2.2.2 (fun t ht hW => ⟨⟨v, (), rfl, rfl, by show va_P D classes _ t.heap; rw [ht]; exact hP⟩, hS.F ht⟩) hS.2.2 hdg Z.2.2.2.2.2.2.1
theorem xj_ret_b (Z : CX p s m args meth c cc nL own (some .int) D cs (xA S ad) S ad) {v : Int32} (hdg : decode cc pc = .ok (.ireturn, 1)) : XJ p l e R s m args below meth c D cs (xA S ad) S ad nL (XRb below args s D cs S ad) pc lv [.int v] M (some (v, M)) := by
  intro H locs ls hl hP hS r hr
  cases hr
  exact W.iret (v := v) Z.1 Z.2.1 Z.2.2.2.2.2.2.2 (fun t ht hW => ⟨⟨v, (), rfl, rfl, by show va_P D classes _ t.heap; rw [ht]; exact hP⟩, hS.F ht⟩) hS.2.2 hdg Z.2.2.2.2.2.2.1
theorem xnb {v : Int32} (h : v = 0 ∨ v = 1) : narrow .boolean (.int v) = .int v := by
  rcases h with rfl | rfl <;> rfl
theorem xj_zret_r (Z : CX p s m args meth c cc nL own (some .boolean) D cs (xA S ad) S ad) {v : Int32} (hdg : decode cc pc = .ok (.ireturn, 1)) : XJ p l e R s m args below meth c D cs (xA S ad) S ad nL (XRr below args s D cs S ad M) pc lv [.int v] M (xbo v (some v)) := by
  intro H locs ls hl hP hS r hr
  unfold xbo at hr
  by_cases h : v = 0 ∨ v = 1
  · rw [if_pos h] at hr
    cases hr
    exact W.zret (v := v) Z.1 Z.2.1 Z.2.2.2.2.2.2.2 (xnb h) (fun t ht hW => ⟨⟨v, (), rfl, rfl, by show va_P D classes _ t.heap; rw [ht]; exact hP⟩, hS.F ht⟩) hS.2.2 hdg Z.2.2.2.2.2.2.1
  · rw [if_neg h] at hr; cases hr
theorem xj_zret_b (Z : CX p s m args meth c cc nL own (some .boolean) D cs (xA S ad) S ad) {v : Int32} (hdg : decode cc pc = .ok (.ireturn, 1)) : XJ p l e R s m args below meth c D cs (xA S ad) S ad nL (XRb below args s D cs S ad) pc lv [.int v] M (xbo v (some (v, M))) := by
  intro H locs ls hl hP hS r hr
  unfold xbo at hr
  by_cases h : v = 0 ∨ v = 1
  · rw [if_pos h] at hr
    cases hr
    exact W.zret (v := v) Z.1 Z.2.1 Z.2.2.2.2.2.2.2 (xnb h) (fun t ht hW => ⟨⟨v, (), rfl, rfl, by show va_P D classes _ t.heap; rw [ht]; exact hP⟩, hS.F ht⟩) hS.2.2 hdg Z.2.2.2.2.2.2.1
  · rw [if_neg h] at hr; cases hr
theorem xj_vret (Z : CX p s m args meth c cc nL own (none) D cs (xA S ad) S ad) (hdg : decode cc pc = .ok (.return_, 1)) : XJ p l e R s m args below meth c D cs (xA S ad) S ad nL (XRm below args s D cs S ad) pc lv [] M (some M) := by
  intro H locs ls hl hP hS r hr
  cases hr
  exact W.vret Z.1 Z.2.1 Z.2.2.2.2.2.2.2 (fun t ht hW => ⟨⟨(), rfl, trivial, by show va_P D classes _ t.heap; rw [ht]; exact hP⟩, hS.F ht⟩) hS.2.2 hdg Z.2.2.2.2.2.2.1
end XT
theorem xm_r {l : Launch} {y : MethodName} {cc : ByteArray} {nL : Nat} {ret : Option FieldType} {own : String} {rm : Room} {D : va_G} {cs : Nat → ClassId} {S : List Nat} {ad : Nat → Nat} {vs : List Value} {M : xm} {lv : List (Nat × Value)} {o : Option (Int32)} (hy : plainName y.cls = true) (hyo : y.cls = own) (hlv : lv_args 0 vs = lv) (hlen : (lg_sl vs).length ≤ nL) (hd : xdist S ad)
    (body : ∀ (p : Program) (e : Env) (s : State) (m : MethodId) (args : Array Value) (below : List Frame) (meth : Method) (c : Code), CX p s m args meth c cc nL own ret D cs (xA S ad) S ad → XJ p l e rm s m args below meth c D cs (xA S ad) S ad nL (XRr below args s D cs S ad M) 0 lv [] M o) : ∀ r, o = some r → Met l y [Cond.code y cc nL ret] rm (XPc D cs S ad vs M) (XQi D cs S ad r M) 0 0 (xA S ad) := by
  intro r hr
  refine Met.ofW (cc := cc) (maxL := nL) (ret := ret) hy rfl ?_
  intro p e s m args below meth c s₁ B hml hv
  obtain ⟨rfl, hx, hP⟩ := hv
  have hown : s.vm.findClass own = some m.cls := by rw [← hyo]; exact findClass_of_methodNamed B.named
  have Z : CX p s m vs.toArray meth c cc nL own ret D cs (xA S ad) S ad := ⟨B.exec, B.bytes, hml, hown, hx, hd.D, B.notSynchronized, B.returns⟩
  have hl := lv_entry vs (n := nL) hlen
  rw [lg_entry_eq]
  generalize (lg_sl vs ++ List.replicate (nL - (lg_sl vs).length) Slot.unset).toArray = ls at hl ⊢
  rw [hlv] at hl
  exact body p e s m vs.toArray below meth c Z s.heap [] ls hl hP va_S.rf r hr
theorem xm_m {l : Launch} {y : MethodName} {cc : ByteArray} {nL : Nat} {ret : Option FieldType} {own : String} {rm : Room} {D : va_G} {cs : Nat → ClassId} {S : List Nat} {ad : Nat → Nat} {vs : List Value} {M : xm} {lv : List (Nat × Value)} {o : Option (xm)} (hy : plainName y.cls = true) (hyo : y.cls = own) (hlv : lv_args 0 vs = lv) (hlen : (lg_sl vs).length ≤ nL) (hd : xdist S ad)
    (body : ∀ (p : Program) (e : Env) (s : State) (m : MethodId) (args : Array Value) (below : List Frame) (meth : Method) (c : Code), CX p s m args meth c cc nL own ret D cs (xA S ad) S ad → XJ p l e rm s m args below meth c D cs (xA S ad) S ad nL (XRm below args s D cs S ad) 0 lv [] M o) : ∀ r, o = some r → Met l y [Cond.code y cc nL ret] rm (XPc D cs S ad vs M) (XQv D cs S ad r) 0 0 (xA S ad) := by
  intro r hr
  refine Met.ofW (cc := cc) (maxL := nL) (ret := ret) hy rfl ?_
  intro p e s m args below meth c s₁ B hml hv
  obtain ⟨rfl, hx, hP⟩ := hv
  have hown : s.vm.findClass own = some m.cls := by rw [← hyo]; exact findClass_of_methodNamed B.named
  have Z : CX p s m vs.toArray meth c cc nL own ret D cs (xA S ad) S ad := ⟨B.exec, B.bytes, hml, hown, hx, hd.D, B.notSynchronized, B.returns⟩
  have hl := lv_entry vs (n := nL) hlen
  rw [lg_entry_eq]
  generalize (lg_sl vs ++ List.replicate (nL - (lg_sl vs).length) Slot.unset).toArray = ls at hl ⊢
  rw [hlv] at hl
  exact body p e s m vs.toArray below meth c Z s.heap [] ls hl hP va_S.rf r hr
theorem xm_b {l : Launch} {y : MethodName} {cc : ByteArray} {nL : Nat} {ret : Option FieldType} {own : String} {rm : Room} {D : va_G} {cs : Nat → ClassId} {S : List Nat} {ad : Nat → Nat} {vs : List Value} {M : xm} {lv : List (Nat × Value)} {o : Option (Int32 × xm)} (hy : plainName y.cls = true) (hyo : y.cls = own) (hlv : lv_args 0 vs = lv) (hlen : (lg_sl vs).length ≤ nL) (hd : xdist S ad)
    (body : ∀ (p : Program) (e : Env) (s : State) (m : MethodId) (args : Array Value) (below : List Frame) (meth : Method) (c : Code), CX p s m args meth c cc nL own ret D cs (xA S ad) S ad → XJ p l e rm s m args below meth c D cs (xA S ad) S ad nL (XRb below args s D cs S ad) 0 lv [] M o) : ∀ r, o = some r → Met l y [Cond.code y cc nL ret] rm (XPc D cs S ad vs M) (XQi D cs S ad r.1 r.2) 0 0 (xA S ad) := by
  intro r hr
  refine Met.ofW (cc := cc) (maxL := nL) (ret := ret) hy rfl ?_
  intro p e s m args below meth c s₁ B hml hv
  obtain ⟨rfl, hx, hP⟩ := hv
  have hown : s.vm.findClass own = some m.cls := by rw [← hyo]; exact findClass_of_methodNamed B.named
  have Z : CX p s m vs.toArray meth c cc nL own ret D cs (xA S ad) S ad := ⟨B.exec, B.bytes, hml, hown, hx, hd.D, B.notSynchronized, B.returns⟩
  have hl := lv_entry vs (n := nL) hlen
  rw [lg_entry_eq]
  generalize (lg_sl vs ++ List.replicate (nL - (lg_sl vs).length) Slot.unset).toArray = ls at hl ⊢
  rw [hlv] at hl
  exact body p e s m vs.toArray below meth c Z s.heap [] ls hl hP va_S.rf r hr
