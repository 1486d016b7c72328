/-! CONSTRUCTORS: what they need of the tables, the rows that make cells -/
def xAO (U : State) : Prop := ∃ (comp cA : ClassId) (kA : Class), U.vm.findClass (FieldType.array .int).toString = some comp ∧ U.vm.classes[cA]? = some kA ∧ kA.kind = .array comp (.array .int) ∧ U.vm.findClass ("[" ++ (FieldType.array .int).toString) = some cA
theorem xAO.of {A : Array Value} {U : State} (h : (Cond.arrayOver (.array .int)).before A U = true) : xAO U := by
  obtain ⟨comp, c, k, h1, -, h3, h4, h5⟩ := arrayOverA_spec h
  exact ⟨comp, c, k, h1, h3, h4, h5⟩
theorem xAO.moved {u U : State} (hvm : u.vm.Alike U.vm) (h : xAO u) : xAO U := by
  obtain ⟨comp, c, k, h1, h3, h4, h5⟩ := h
  obtain ⟨k', hk', he⟩ := hvm.2.2 _ _ h3
  exact ⟨comp, c, k', by rw [hvm.findClass]; exact h1, hk', by rw [he]; exact h4, by rw [hvm.findClass]; exact h5⟩
def xAc (t : FieldType) (U : State) : Prop := (Cond.arrayClass t).before #[] U = true
theorem xAc.warm {t : FieldType} {s U : State} (hW : s.WarmedH U.vm) (h : xAc t s) : xAc t U := word_at hW (Or.inr ⟨_, rfl⟩) h
theorem xAc.same {t : FieldType} {u U : State} (h : u.vm = U.vm) (hx : xAc t u) : xAc t U := hx.warm (by rw [← h]; exact State.WarmedH.refl _)
theorem xAc.use {t : FieldType} {U : State} (h : xAc t U) (A : Array Value) : (Cond.arrayClass t).before A U = true := word_at (s := U) (U := U) (State.WarmedH.refl _) (Or.inr ⟨_, rfl⟩) h
theorem xAc.of {t : FieldType} {U : State} {A : Array Value} (h : (Cond.arrayClass t).before A U = true) : xAc t U := word_at (s := U) (U := U) (State.WarmedH.refl _) (Or.inr ⟨_, rfl⟩) h
/-- the tables, and that arrays can be made -/
def xsn (D : va_G) (cs : Nat → ClassId) (U : State) : Prop := xst D cs U ∧ (xAc .int U ∧ xAc .byte U ∧ xAc .boolean U) ∧ va_AO "WalkingLaw$Walk" U ∧ xAO U
theorem xsn.warm {D : va_G} {cs : Nat → ClassId} {s U : State} (hW : s.WarmedH U.vm) (h : xsn D cs s) : xsn D cs U :=
  ⟨h.1.warm hW, ⟨h.2.1.1.warm hW, h.2.1.2.1.warm hW, h.2.1.2.2.warm hW⟩, h.2.2.1.moved hW.alike, h.2.2.2.moved hW.alike⟩
theorem xsn.same {D : va_G} {cs : Nat → ClassId} {u U : State} (h : u.vm = U.vm) (hx : xsn D cs u) : xsn D cs U :=
  ⟨hx.1.same h, ⟨hx.2.1.1.same h, hx.2.1.2.1.same h, hx.2.1.2.2.same h⟩, hx.2.2.1.moved (by rw [h]; exact Vm.Alike.refl U.vm), hx.2.2.2.moved (by rw [h]; exact Vm.Alike.refl U.vm)⟩
def XN (D : va_G) (cs : Nat → ClassId) (vs : List Value) (ws : va_W) (sz : Nat) : Array Value → State → Prop := va_Pc vs (fun U => U.heap.size = sz ∧ xsn D cs U ∧ va_P D classes ws U.heap ∧ va_D (fun _ => True) ws)
def XE {ρ : Type} (D : va_G) (post : ρ → Prop) (wf : ρ → va_W) (A : Nat → Prop) : Array Value → State → Outcome → State → Prop := va_Qv post (fun u t => va_P D classes (wf u) t.heap ∧ va_D A (wf u)) A
theorem XN.blind {D : va_G} {cs : Nat → ClassId} {vs : List Value} {ws : va_W} {sz : Nat} : FrameBlind (XN D cs vs ws sz) := fun a U g mk q => by
  obtain ⟨q0, q1, q2, q3⟩ := q
  exact ⟨q0, q1, xsn.same (u := U) (U := U.calling g mk a) rfl q2, q3⟩
theorem cs_int {D : va_G} {cs : Nat → ClassId} {s : State} {cA : ClassId} (h : va_K D classes (xtys cs ++ [(cA, FieldType.int)]) s) : cA = cs 0 := by
  have h1 : s.vm.findClass _ = some cA := (h.2 5 _ rfl).2
  have h2 : s.vm.findClass _ = some (cs 0) := (h.2 0 _ rfl).2
  exact Option.some.inj (h1.symm.trans h2)
theorem cs_byte {D : va_G} {cs : Nat → ClassId} {s : State} {cA : ClassId} (h : va_K D classes (xtys cs ++ [(cA, FieldType.byte)]) s) : cA = cs 1 := by
  have h1 : s.vm.findClass _ = some cA := (h.2 5 _ rfl).2
  have h2 : s.vm.findClass _ = some (cs 1) := (h.2 1 _ rfl).2
  exact Option.some.inj (h1.symm.trans h2)
theorem cs_bool {D : va_G} {cs : Nat → ClassId} {s : State} {cA : ClassId} (h : va_K D classes (xtys cs ++ [(cA, FieldType.boolean)]) s) : cA = cs 4 := by
  have h1 : s.vm.findClass _ = some cA := (h.2 5 _ rfl).2
  have h2 : s.vm.findClass _ = some (cs 4) := (h.2 4 _ rfl).2
  exact Option.some.inj (h1.symm.trans h2)
theorem cs_walk {D : va_G} {cs : Nat → ClassId} {s : State} {cA : ClassId} (h : va_K D classes (xtys cs ++ [(cA, FieldType.object "WalkingLaw$Walk")]) s) : cA = cs 3 := by
  obtain ⟨k1, c1, -, -, -, h1⟩ := (h.2 5 _ rfl).2
  obtain ⟨k2, c2, -, -, -, h2⟩ := (h.2 3 _ rfl).2
  exact Option.some.inj (h1.symm.trans h2)
theorem cs_rows {D : va_G} {cs : Nat → ClassId} {s : State} (h : xst D cs s) : s.vm.findClass (FieldType.array .int).toString = some (cs 0) ∧ s.vm.findClass ("[" ++ (FieldType.array .int).toString) = some (cs 2) := ⟨(h.1.2 0 _ rfl).2, (h.1.2 2 _ rfl).2⟩
/-- what a constructor's walk stands on -/
def IX (p : Program) (s : State) (m : MethodId) (args : Array Value) (meth : Method) (c : Code) (cc : ByteArray) (nL : Nat) (own : String) (D : va_G) (cs : Nat → ClassId) : Prop :=
  p.tables.exec = Jvm.exec ∧ c.code = cc ∧ c.maxLocals = nL ∧ s.vm.findClass own = some m.cls ∧ xsn D cs s ∧ meth.locks = false ∧ meth.sig.returnType = none ∧ meth.name = "<init>"
theorem xi_of {ρ : Type} {l : Launch} {y : MethodName} {cc : ByteArray} {nL mc ms sz : Nat} {own : String} {rm : Room} {D : va_G} {cs : Nat → ClassId} {vs : List Value} {ws : va_W} {lv : List (Nat × Value)} {post : ρ → Prop} {wf : ρ → va_W} (hy : plainName y.cls = true) (hyo : y.cls = own) (hyn : y.name = "<init>") (hlv : lv_args 0 vs = lv) (hlen : (lg_sl vs).length ≤ nL)
    (body : ∀ (p : Program) (e : Env) (s : State) (m : MethodId) (args : Array Value) (below : List Frame) (meth : Method) (c : Code) (A : Nat → Prop) (ls : Array Slot), IX p s m args meth c cc nL own D cs → (∀ q, s.heap.size ≤ q → A q) → va_P D classes ws s.heap → va_D A ws → lv_has ls nL lv → W p l e rm s m args below meth c s.heap [] 0 0 (MQ below (XE D post wf A) args s mc ms A) (F0 m 0 ls [])) :
    Met l y [Cond.code y cc nL none] rm (XN D cs vs ws sz) (XE D post wf (va_A ws sz)) mc ms (va_A ws sz) := by
  refine Met.ofW (cc := cc) (maxL := nL) (ret := none) hy rfl ?_
  intro p e s m args below meth c s₁ B hml hv
  obtain ⟨rfl, hsz, hx, hP, hD⟩ := hv
  subst hsz
  have hown : s.vm.findClass own = some m.cls := by rw [← hyo]; exact findClass_of_methodNamed B.named
  have Z : IX p s m vs.toArray meth c cc nL own D cs := ⟨B.exec, B.bytes, hml, hown, hx, B.notSynchronized, B.returns, ((name_of_methodNamed B.named B.method).1).trans hyn⟩
  have hl := lv_entry vs (n := nL) hlen
  rw [lg_entry_eq]
  generalize (lg_sl vs ++ List.replicate (nL - (lg_sl vs).length) Slot.unset).toArray = ls at hl ⊢
  rw [hlv] at hl
  exact body p e s m vs.toArray below meth c (va_A ws s.heap.size) ls Z (fun q h => Or.inr h) hP hD.self hl
section
variable {p : Program} {l : Launch} {e : Env} {R : Room} {s : State} {m : MethodId} {args : Array Value} {below : List Frame} {meth : Method} {c : Code} {cc : ByteArray} {nL : Nat} {own : String} {D : va_G} {cs : Nat → ClassId} {A : Nat → Prop} {H : Heap} {locs : List Loc} {cells slots : Nat} {Q : State → Prop} {ls : Array Slot} {lv : List (Nat × Value)} {ws : va_W} {pc : Nat} {rest : List Value}
theorem IX.hts (Z : IX p s m args meth c cc nL own D cs) : ∀ w ∈ xbig, w.before args s = true := Z.2.2.2.2.1.1.hts args
theorem IX.K (Z : IX p s m args meth c cc nL own D cs) : va_K D classes (xtys cs) s := Z.2.2.2.2.1.1.1
theorem xi_ret {ρ : Type} {post : ρ → Prop} {wf : ρ → va_W} (Z : IX p s m args meth c cc nL own D cs) (u : ρ) (hu : post u) (hP : va_P D classes (wf u) H) (hD : va_D A (wf u)) (hS : va_S A s.heap H locs) (hdg : decode cc pc = .ok (.return_, 1)) : W p l e R s m args below meth c H locs cells slots (MQ below (XE D post wf A) args s cells slots A) (F0 m pc ls []) :=
  W.vret Z.1 Z.2.1 Z.2.2.2.2.2.2.1 (fun t ht hW => ⟨⟨u, rfl, hu, by rw [ht]; exact hP, hD⟩, hS.F ht⟩) hS.2.2 hdg Z.2.2.2.2.2.1
theorem xi_obj (Z : IX p s m args meth c cc nL own D cs) {idx h0 : Nat} (hlink : Cond.methodLink own idx objectInit ∈ xbig) (hl : lv_has ls nL lv) (hR : 1 ≤ R.frames ∧ 12 ≤ R.locals) (hdg : decode cc pc = .ok (.invokespecial idx, 3)) (kk : W p l e R s m args below meth c H locs cells slots Q (F0 m (pc + 3) ls [])) : W p l e R s m args below meth c H locs cells slots Q (F0 m pc ls [.ref h0]) :=
  W.objInit Z.1 Z.2.1 Z.2.2.2.1 (Z.hts _ hlink) (Z.hts _ xb_2) (Z.hts _ xb_3) rfl (by rw [Z.2.2.1]; exact hl.1) rfl hdg hR.1 (by show 2 * 0 + 0 + 12 ≤ _; omega) kk
theorem xi_newi (Z : IX p s m args meth c cc nL own D cs) (hP : va_P D classes ws H) (hD : va_D A ws) (hS : va_S A s.heap H locs) (hA : ∀ q, s.heap.size ≤ q → A q) {n : Int32} {N : Nat} (hn : ¬ n < 0) (hN : n.toNatClampNeg = N) (hN2 : N ≤ 5000) (hc : cells + 1 ≤ R.cells ∧ slots + N ≤ R.slots) (hdg : decode cc pc = .ok (.newarray .int, 2))
    (kk : ∀ (q : Nat) (H1 : Heap), va_P D classes (ws ++ [(q, .inl (cs 0, N, .inl (fun _ => 0)))]) H1 → va_D A (ws ++ [(q, .inl (cs 0, N, .inl (fun _ => 0)))]) → va_S A s.heap H1 locs → W p l e R s m args below meth c H1 locs (cells + 1) (slots + N) Q (F0 m (pc + 2) ls (.ref q :: rest))) : W p l e R s m args below meth c H locs cells slots Q (F0 m pc ls (.int n :: rest)) := by
  refine va_newa (atype := .int) (ty := .int) (a0 := (N, .inl (fun _ => 0))) Z.1 Z.2.1 (Z.2.2.2.2.1.2.1.1.use args) rfl Z.K hP hD hS hA (fun cA => rfl) hn hN (by show N * 4 ≤ _; omega) hc.1 hc.2 hdg (fun q cA H1 hK1 hP1 hD1 hS1 => ?_)
  obtain rfl := cs_int hK1
  exact kk q H1 hP1 hD1 hS1
theorem xi_newb (Z : IX p s m args meth c cc nL own D cs) (hP : va_P D classes ws H) (hD : va_D A ws) (hS : va_S A s.heap H locs) (hA : ∀ q, s.heap.size ≤ q → A q) {n : Int32} {N : Nat} (hn : ¬ n < 0) (hN : n.toNatClampNeg = N) (hN2 : N ≤ 5000) (hc : cells + 1 ≤ R.cells ∧ slots + N ≤ R.slots) (hdg : decode cc pc = .ok (.newarray .byte, 2))
    (kk : ∀ (q : Nat) (H1 : Heap), va_P D classes (ws ++ [(q, .inl (cs 1, N, .inl (fun _ => 0)))]) H1 → va_D A (ws ++ [(q, .inl (cs 1, N, .inl (fun _ => 0)))]) → va_S A s.heap H1 locs → W p l e R s m args below meth c H1 locs (cells + 1) (slots + N) Q (F0 m (pc + 2) ls (.ref q :: rest))) : W p l e R s m args below meth c H locs cells slots Q (F0 m pc ls (.int n :: rest)) := by
  refine va_newa (atype := .byte) (ty := .byte) (a0 := (N, .inl (fun _ => 0))) Z.1 Z.2.1 (Z.2.2.2.2.1.2.1.2.1.use args) rfl Z.K hP hD hS hA (fun cA => rfl) hn hN (by show N * 1 ≤ _; omega) hc.1 hc.2 hdg (fun q cA H1 hK1 hP1 hD1 hS1 => ?_)
  obtain rfl := cs_byte hK1
  exact kk q H1 hP1 hD1 hS1
theorem xi_newz (Z : IX p s m args meth c cc nL own D cs) (hP : va_P D classes ws H) (hD : va_D A ws) (hS : va_S A s.heap H locs) (hA : ∀ q, s.heap.size ≤ q → A q) {n : Int32} {N : Nat} (hn : ¬ n < 0) (hN : n.toNatClampNeg = N) (hN2 : N ≤ 5000) (hc : cells + 1 ≤ R.cells ∧ slots + N ≤ R.slots) (hdg : decode cc pc = .ok (.newarray .boolean, 2))
    (kk : ∀ (q : Nat) (H1 : Heap), va_P D classes (ws ++ [(q, .inl (cs 4, N, .inl (fun _ => 0)))]) H1 → va_D A (ws ++ [(q, .inl (cs 4, N, .inl (fun _ => 0)))]) → va_S A s.heap H1 locs → W p l e R s m args below meth c H1 locs (cells + 1) (slots + N) Q (F0 m (pc + 2) ls (.ref q :: rest))) : W p l e R s m args below meth c H locs cells slots Q (F0 m pc ls (.int n :: rest)) := by
  refine va_newa (atype := .boolean) (ty := .boolean) (a0 := (N, .inl (fun _ => 0))) Z.1 Z.2.1 (Z.2.2.2.2.1.2.1.2.2.use args) rfl Z.K hP hD hS hA (fun cA => rfl) hn hN (by show N * 1 ≤ _; omega) hc.1 hc.2 hdg (fun q cA H1 hK1 hP1 hD1 hS1 => ?_)
  obtain rfl := cs_bool hK1
  exact kk q H1 hP1 hD1 hS1
/-- an object's class by its place, in a constructor of 'own' -/
theorem xi_putF (Z : IX p s m args meth c cc nL own D cs) (hP : va_P D classes ws H) (hD : va_D A ws) (hS : va_S A s.heap H locs) {T : u_T} {N ci index h0 v : Nat} {fs : List Value} {ty0 : Nat → FieldType} (k : Nat) (he : ws[0]? = some (h0, .inr (ci, fs))) (hcl : classes[ci]? = some (own, T, N)) (hin : ∀ w ∈ u_ws own T N, w ∈ xbig) (hty : ∀ k, k < N → parseFieldDescriptor (T k).2.2.1 = some (ty0 k)) (hnm : ∀ a, a < N → ∀ b, b < N → a ≠ b → (T a).2.1 ≠ (T b).2.1) (hk : k < N) (hlink : Cond.fieldLink own index own (T k).2.1 (T k).2.2.1 ∈ xbig) (hC : (T k).1 = own) (hfin : (T k).2.2.2 = true) (hn : narrow (ty0 k) (.ref v) = .ref v) (hfit : fits (ty0 k) (.ref v) = true) (hlen : k < fs.length) (hdg : decode cc pc = .ok (.putfield index, 3))
    (kk : ∀ (H1 : Heap) (locs1 : List Loc), va_P D classes (ws.set 0 (h0, .inr (ci, fs.set k (.ref v)))) H1 → va_D A (ws.set 0 (h0, .inr (ci, fs.set k (.ref v)))) → va_S A s.heap H1 locs1 → W p l e R s m args below meth c H1 locs1 cells slots Q (F0 m (pc + 3) ls rest)) : W p l e R s m args below meth c H locs cells slots Q (F0 m pc ls (.ref v :: .ref h0 :: rest)) :=
  va_putF Z.1 Z.2.1 Z.hts hin ty0 hty hnm Z.2.2.2.1 Z.K hP hD hS 0 he hcl k hk (Z.hts _ hlink) (fun _ h9 => by rw [hC] at h9; exact h9) hfin Z.2.2.2.2.2.2.2 hC (hty k hk) hn hfit hlen hdg kk
end
