/-! THE WORLD AS ONE MEMORY. M.1 k j: the int at place j of cell k (a field's slot or an array's element); M.2: which road a reference names. -/
abbrev xm : Type := (Nat → Nat → Int32) × (Nat → Bool)
def up (M : xm) (k j : Nat) (v : Int32) : xm := (fun a => if a = k then upd (M.1 k) j v else M.1 a, M.2)
def upr (M : xm) (k : Nat) (b : Bool) : xm := (M.1, fun a => if a = k then b else M.2 a)
def rd (b : Bool) : Nat := if b then 13 else 4
def xl {α β : Type} (v : α) (k : α → β) : β := k v
def xchk {ρ : Type} (i : Int32) (n : Nat) (o : Option ρ) : Option ρ := if i < 0 ∨ n ≤ i.toNatClampNeg then none else o
def xnz {ρ : Type} (y : Int32) (o : Option ρ) : Option ρ := if y = 0 then none else o
def xbo {ρ : Type} (v : Int32) (o : Option ρ) : Option ρ := if v = 0 ∨ v = 1 then o else none
def xlays : List (Nat × Nat) := [(0,5), (0,3),(2,300),(1,3),
  (0,1),(1,6),(1,6),(1,6),(1,6),(1,8),(1,8),(1,8),(1,6), (0,1),(1,6),(1,6),(1,6),(1,6),(1,8),(1,8),(1,8),(1,6),
  (0,4),(1,8),(1,4),(1,4),(1,4), (0,4),(1,8),(1,4),(1,4),(1,4), (3,2), (0,4),(1,8),(1,4),(1,4),(1,4), (0,4),(1,8),(1,4),(1,4),(1,4),
  (0,0),(1,10),(1,10),(1,10),(1,41), (0,2),(4,4),(1,4),(1,4),(1,4),(1,4),(1,4),(1,4),
  (9,0),(9,0),(9,0),(9,0),
  (0,6),(2,300),(1,4),(1,2),(1,36),(1,2),(1,48),(1,100),(1,30),(5,4210),(1,4),(1,4),(1,3)]
def xlay (k : Nat) : Nat × Nat := xlays.getD k (9, 0)
def xfs (ad : Nat → Nat) (f : Nat → Int32) (g : Nat → Bool) (k : Nat) : Nat → List Value
  | 0 => [.ref (ad (k + 1)), .ref (ad (k + 2)), .ref (ad (k + 3)), .int (f 3), .ref (ad (k + 4))]
  | 1 => [.int (f 0), .ref (ad (k + 1)), .ref (ad (k + 2)), .ref (ad (k + 3)), .ref (ad (k + 4)), .int (f 5), .int (f 6), .ref (ad (k + 5)), .ref (ad (k + 6)), .ref (ad (k + 7)), .ref (ad (k + 8)), .int (f 11), .int (f 12)]
  | 2 => [.ref (ad (k + 1)), .ref (ad (k + 6)), .ref (ad (k + 7)), .int (f 3)]
  | 3 => [.ref (ad (k + 1)), .ref (ad (k + 2)), .int (f 2)]
  | 4 => [.ref (ad (rd (g k))), .ref (ad (k + 1)), .ref (ad (k + 2)), .ref (ad (k + 3)), .ref (ad (k + 4)), .int (f 5)]
  | 5 => [.ref (ad 1), .ref (ad (rd (g 0))), .ref (ad (rd (g 100))), .ref (ad 22), .ref (ad 27), .ref (ad 32), .int (f 6), .ref (ad 43), .ref (ad 48)]
  | _ => [.int (f 0), .ref (ad (k + 1)), .int (f 2), .ref (ad (k + 2)), .ref (ad (k + 3)), .ref (ad (k + 4)), .ref (ad (k + 5)), .ref (ad (k + 6)), .ref (ad (k + 7)), .int (f 9), .int (f 10), .ref (ad (k + 8)), .ref (ad (k + 9)), .ref (ad (k + 10)), .ref (ad (k + 11)), .int (f 15), .ref (ad (k + 12)), .int (f 17), .int (f 18)]
def xcl (ad : Nat → Nat) (cs : Nat → ClassId) (f : Nat → Int32) (g : Nat → Bool) (k : Nat) : Nat × Nat → va_E
  | (0, n) => .inr (n, xfs ad f g k n)
  | (1, n) => .inl (cs 0, n, .inl f)
  | (2, n) => .inl (cs 1, n, .inl f)
  | (3, n) => .inl (cs 3, n, .inr (.inr (.inr (.inr (fun j => some (ad (33 + 5 * j)))))))
  | (4, n) => .inl (cs 2, n, .inr (.inr (.inr (.inr (fun j => some (ad (50 + j)))))))
  | (_, n) => .inl (cs 4, n, .inl f)
def xcell (ad : Nat → Nat) (cs : Nat → ClassId) (M : xm) (k : Nat) : va_E := xcl ad cs (M.1 k) M.2 k (xlay k)
def xw (S : List Nat) (ad : Nat → Nat) (cs : Nat → ClassId) (M : xm) : va_W := S.map (fun k => (ad k, xcell ad cs M k))
abbrev classes : List vw_C := [(RX0, TX0, 5), (RX1, TX1, 13), (RX2, TX2, 4), (RX3, TX3, 3), (RX4, TX4, 6), (RX5, TX5, 9), (RX6, TX6, 19)]
abbrev xtys (cs : Nat → ClassId) : List (ClassId × FieldType) := [(cs 0, .int), (cs 1, .byte), (cs 2, .array .int), (cs 3, .object "WalkingLaw$Walk"), (cs 4, .boolean)]
def xst (D : va_G) (cs : Nat → ClassId) (U : State) : Prop := va_K D classes (xtys cs) U ∧ (∀ w ∈ xbig, va_Nw w U) ∧ (∀ w ∈ xnst, va_Nw w U)
def xD (A : Nat → Prop) (S : List Nat) (ad : Nat → Nat) : Prop := S.Nodup ∧ (∀ j k, j ∈ S → k ∈ S → ad j = ad k → j = k) ∧ ∀ k, k ∈ S → A (ad k)
def xA (S : List Nat) (ad : Nat → Nat) : Nat → Prop := fun q => ∃ k, k ∈ S ∧ q = ad k
def xdist (S : List Nat) (ad : Nat → Nat) : Prop := S.Nodup ∧ (∀ j k, j ∈ S → k ∈ S → ad j = ad k → j = k)
theorem xdist.D {S : List Nat} {ad : Nat → Nat} (h : xdist S ad) : xD (xA S ad) S ad := ⟨h.1, h.2, fun k hk => ⟨k, hk, rfl⟩⟩
theorem xD.dist {A : Nat → Prop} {S : List Nat} {ad : Nat → Nat} (h : xD A S ad) : xdist S ad := ⟨h.1, h.2.1⟩
def CX (p : Program) (s : State) (m : MethodId) (args : Array Value) (meth : Method) (c : Code) (cc : ByteArray) (nL : Nat) (own : String) (ret : Option FieldType) (D : va_G) (cs : Nat → ClassId) (A : Nat → Prop) (S : List Nat) (ad : Nat → Nat) : Prop :=
  p.tables.exec = Jvm.exec ∧ c.code = cc ∧ c.maxLocals = nL ∧ s.vm.findClass own = some m.cls ∧ xst D cs s ∧ xD A S ad ∧ meth.locks = false ∧ meth.sig.returnType = ret
def XJ {ρ : Type} (p : Program) (l : Launch) (e : Env) (R : Room) (s : State) (m : MethodId) (args : Array Value) (below : List Frame) (meth : Method) (c : Code) (D : va_G) (cs : Nat → ClassId) (A : Nat → Prop) (S : List Nat) (ad : Nat → Nat) (nL : Nat) (Q : ρ → State → Prop) (pc : Nat) (lv : List (Nat × Value)) (st : List Value) (M : xm) (o : Option ρ) : Prop :=
  ∀ (H : Heap) (locs : List Loc) (ls : Array Slot), lv_has ls nL lv → va_P D classes (xw S ad cs M) H → va_S A s.heap H locs → ∀ r, o = some r → W p l e R s m args below meth c H locs 0 0 (Q r) (F0 m pc ls st)
-- what xst keeps
theorem xst.hts {D : va_G} {cs : Nat → ClassId} {U : State} (h : xst D cs U) (a : Array Value) : ∀ w ∈ xbig, w.before a U = true := fun w hw => va_Nw.use (by
  have := (List.mem_filter.mp hw).2
  unfold xgd at this
  simp only [Bool.and_eq_true] at this
  exact this.1) (h.2.1 w hw)
theorem xst.same {D : va_G} {cs : Nat → ClassId} {u U : State} (h : u.vm = U.vm) (hx : xst D cs u) : xst D cs U := by
  refine ⟨va_K.moved (by rw [h]; exact Vm.Alike.refl U.vm) hx.1, fun w hw => ?_, fun w hw => ?_⟩
  · refine va_Nw.same ?_ h (hx.2.1 w hw)
    have := (List.mem_filter.mp hw).2
    unfold xgd at this
    simp only [Bool.and_eq_true] at this
    exact this.1
  · exact va_Nw.same (List.all_eq_true.mp xnst_ok w hw) h (hx.2.2 w hw)
theorem xnst_w {w : Cond} (hw : w ∈ xnst) {s U : State} (hW : s.WarmedH U.vm) (h : va_Nw w s) : va_Nw w U := by
  unfold xnst at hw
  simp only [List.mem_cons, List.not_mem_nil, or_false] at hw
  rcases hw with rfl | rfl | rfl | rfl | rfl | rfl | rfl | rfl | rfl | rfl | rfl | rfl | rfl | rfl | rfl | rfl | rfl | rfl | rfl | rfl | rfl | rfl | rfl | rfl | rfl | rfl | rfl | rfl | rfl | rfl | rfl | rfl | rfl | rfl | rfl <;> first | exact va_Nw.warmF hW h | exact va_Nw.warmM hW h
theorem xst.warm {D : va_G} {cs : Nat → ClassId} {s U : State} (hW : s.WarmedH U.vm) (hx : xst D cs s) : xst D cs U := by
  refine ⟨va_K.moved hW.alike hx.1, fun w hw => ?_, fun w hw => xnst_w hw hW (hx.2.2 w hw)⟩
  have h2 := (List.mem_filter.mp hw).2
  unfold xgd at h2
  exact word_at hW (Or.inl h2) (hx.2.1 w hw)
theorem xgood {ws : List Cond} (h : ∀ w ∈ ws, w ∈ xbig) : GoodIn xbig ws := fun w hw => ⟨h w hw, Or.inl (List.mem_filter.mp (h w hw)).2⟩
-- places
theorem xw_at {S : List Nat} {ad : Nat → Nat} {cs : Nat → ClassId} {M : xm} {k : Nat} (h : k ∈ S) : ∃ q : Nat, (xw S ad cs M)[q]? = some (ad k, xcell ad cs M k) ∧ S[q]? = some k := by
  obtain ⟨q, hq⟩ := List.getElem?_of_mem h
  exact ⟨q, by unfold xw; rw [List.getElem?_map, hq]; rfl, hq⟩
theorem xw_D {A : Nat → Prop} {S : List Nat} {ad : Nat → Nat} {cs : Nat → ClassId} {M : xm} (h : xD A S ad) : va_D A (xw S ad cs M) := by
  unfold xw
  refine ⟨fun i j p q h1 h2 h3 => ?_, fun k q hk => ?_⟩
  · rw [List.getElem?_map] at h1 h2
    obtain ⟨a, ha, rfl⟩ := Option.map_eq_some_iff.mp h1
    obtain ⟨b, hb, rfl⟩ := Option.map_eq_some_iff.mp h2
    have e : a = b := h.2.1 a b (List.mem_of_getElem? ha) (List.mem_of_getElem? hb) h3
    subst e
    exact (List.getElem?_inj (by
      obtain ⟨h9, -⟩ := List.getElem?_eq_some_iff.mp ha
      exact h9) h.1).mp (ha.trans hb.symm)
  · rw [List.getElem?_map] at hk
    obtain ⟨a, ha, rfl⟩ := Option.map_eq_some_iff.mp hk
    exact h.2.2 a (List.mem_of_getElem? ha)
theorem xw_set {S : List Nat} {ad : Nat → Nat} {cs : Nat → ClassId} {M M' : xm} {k q : Nat} {e : va_E} (hn : S.Nodup) (hq : S[q]? = some k) (he : xcell ad cs M' k = e) (ho : ∀ j, j ≠ k → xcell ad cs M' j = xcell ad cs M j) : (xw S ad cs M).set q (ad k, e) = xw S ad cs M' := by
  unfold xw
  apply List.ext_getElem?
  intro i
  rw [List.getElem?_set, List.getElem?_map, List.getElem?_map, List.length_map]
  obtain ⟨h9, -⟩ := List.getElem?_eq_some_iff.mp hq
  by_cases h : q = i
  · subst h
    rw [if_pos rfl, if_pos h9, hq]
    simp [he]
  · rw [if_neg h]
    cases hi : S[i]? with
    | none => rfl
    | some j =>
      have hjk : j ≠ k := by
        intro e2
        subst e2
        exact h ((List.getElem?_inj h9 hn).mp (hq.trans hi.symm))
      simp [ho j hjk]
theorem up_ne {M : xm} {k j a : Nat} {v : Int32} (h : a ≠ k) : (up M k j v).1 a = M.1 a := by
  show (if a = k then _ else _) = _
  rw [if_neg h]
theorem up_eq {M : xm} {k j : Nat} {v : Int32} : (up M k j v).1 k = upd (M.1 k) j v := by
  show (if k = k then _ else _) = _
  rw [if_pos rfl]
theorem up_cell {ad : Nat → Nat} {cs : Nat → ClassId} {M : xm} {k j : Nat} {v : Int32} : ∀ a, a ≠ k → xcell ad cs (up M k j v) a = xcell ad cs M a := by
  intro a h
  unfold xcell
  rw [up_ne h]
  rfl
section XR
variable {ρ : Type} {p : Program} {l : Launch} {e : Env} {R : Room} {s : State} {m : MethodId} {args : Array Value} {below : List Frame} {meth : Method} {c : Code} {D : va_G} {cs : Nat → ClassId} {A : Nat → Prop} {S : List Nat} {ad : Nat → Nat} {nL : Nat} {Q : ρ → State → Prop} {cc : ByteArray} {own : String} {ret : Option FieldType}
variable {pc : Nat} {lv : List (Nat × Value)} {st : List Value} {M : xm} {o : Option ρ}

theorem xj_none : XJ p l e R s m args below meth c D cs A S ad nL Q (pc) lv (st) M none := fun H locs ls hl hP hS r hr => by cases hr
theorem xj_sub (ks : List Nat) {lv' : List (Nat × Value)} (hl : lv_pick lv ks = lv') (k : XJ p l e R s m args below meth c D cs A S ad nL Q (pc) lv' (st) M o) : XJ p l e R s m args below meth c D cs A S ad nL Q (pc) lv (st) M o := fun H locs ls hl2 hP hS r hr => k H locs ls (lv_sub hl2 ks hl) hP hS r hr
theorem xj_eq {o2 : Option ρ} (h : o = o2) (k : XJ p l e R s m args below meth c D cs A S ad nL Q (pc) lv (st) M o2) : XJ p l e R s m args below meth c D cs A S ad nL Q (pc) lv (st) M o := by rw [h]; exact k
theorem xj_xl {α : Type} {v : α} {f : α → Option ρ} (k : ∀ x, x = v → XJ p l e R s m args below meth c D cs A S ad nL Q (pc) lv (st) M (f x)) : XJ p l e R s m args below meth c D cs A S ad nL Q (pc) lv (st) M (xl v f) := k v rfl
theorem xj_ite {q : Prop} [Decidable q] {o1 o2 : Option ρ} (k1 : q → XJ p l e R s m args below meth c D cs A S ad nL Q (pc) lv (st) M o1) (k2 : ¬ q → XJ p l e R s m args below meth c D cs A S ad nL Q (pc) lv (st) M o2) : XJ p l e R s m args below meth c D cs A S ad nL Q (pc) lv (st) M (if q then o1 else o2) := by
  by_cases h : q
  · rw [if_pos h]; exact k1 h
  · rw [if_neg h]; exact k2 h
theorem xj_iadd (Z : CX p s m args meth c cc nL own ret D cs A S ad) {x y : Int32} (hdg : decode cc pc = .ok (.iadd, 1))  (k : XJ p l e R s m args below meth c D cs A S ad nL Q (pc + 1) lv (.int (x + y) :: st) M o) : XJ p l e R s m args below meth c D cs A S ad nL Q (pc) lv (.int y :: .int x :: st) M o := fun H locs ls hl hP hS r hr => lv_iadd Z.1 Z.2.1 hdg (k H locs ls hl hP hS r hr)
theorem xj_isub (Z : CX p s m args meth c cc nL own ret D cs A S ad) {x y : Int32} (hdg : decode cc pc = .ok (.isub, 1))  (k : XJ p l e R s m args below meth c D cs A S ad nL Q (pc + 1) lv (.int (x - y) :: st) M o) : XJ p l e R s m args below meth c D cs A S ad nL Q (pc) lv (.int y :: .int x :: st) M o := fun H locs ls hl hP hS r hr => lv_isub Z.1 Z.2.1 hdg (k H locs ls hl hP hS r hr)
theorem xj_imul (Z : CX p s m args meth c cc nL own ret D cs A S ad) {x y : Int32} (hdg : decode cc pc = .ok (.imul, 1))  (k : XJ p l e R s m args below meth c D cs A S ad nL Q (pc + 1) lv (.int (x * y) :: st) M o) : XJ p l e R s m args below meth c D cs A S ad nL Q (pc) lv (.int y :: .int x :: st) M o := fun H locs ls hl hP hS r hr => lv_imul Z.1 Z.2.1 hdg (k H locs ls hl hP hS r hr)
theorem xj_iand (Z : CX p s m args meth c cc nL own ret D cs A S ad) {x y : Int32} (hdg : decode cc pc = .ok (.iand, 1))  (k : XJ p l e R s m args below meth c D cs A S ad nL Q (pc + 1) lv (.int (x &&& y) :: st) M o) : XJ p l e R s m args below meth c D cs A S ad nL Q (pc) lv (.int y :: .int x :: st) M o := fun H locs ls hl hP hS r hr => lv_iand Z.1 Z.2.1 hdg (k H locs ls hl hP hS r hr)
theorem xj_ior (Z : CX p s m args meth c cc nL own ret D cs A S ad) {x y : Int32} (hdg : decode cc pc = .ok (.ior, 1))  (k : XJ p l e R s m args below meth c D cs A S ad nL Q (pc + 1) lv (.int (x ||| y) :: st) M o) : XJ p l e R s m args below meth c D cs A S ad nL Q (pc) lv (.int y :: .int x :: st) M o := fun H locs ls hl hP hS r hr => lv_ior Z.1 Z.2.1 hdg (k H locs ls hl hP hS r hr)
theorem xj_ixor (Z : CX p s m args meth c cc nL own ret D cs A S ad) {x y : Int32} (hdg : decode cc pc = .ok (.ixor, 1))  (k : XJ p l e R s m args below meth c D cs A S ad nL Q (pc + 1) lv (.int (x ^^^ y) :: st) M o) : XJ p l e R s m args below meth c D cs A S ad nL Q (pc) lv (.int y :: .int x :: st) M o := fun H locs ls hl hP hS r hr => lv_ixor Z.1 Z.2.1 hdg (k H locs ls hl hP hS r hr)
theorem xj_ishl (Z : CX p s m args meth c cc nL own ret D cs A S ad) {x y : Int32} (hdg : decode cc pc = .ok (.ishl, 1))  (k : XJ p l e R s m args below meth c D cs A S ad nL Q (pc + 1) lv (.int (x <<< (y &&& 31)) :: st) M o) : XJ p l e R s m args below meth c D cs A S ad nL Q (pc) lv (.int y :: .int x :: st) M o := fun H locs ls hl hP hS r hr => lv_ishl Z.1 Z.2.1 hdg (k H locs ls hl hP hS r hr)
theorem xj_ishr (Z : CX p s m args meth c cc nL own ret D cs A S ad) {x y : Int32} (hdg : decode cc pc = .ok (.ishr, 1))  (k : XJ p l e R s m args below meth c D cs A S ad nL Q (pc + 1) lv (.int (x >>> (y &&& 31)) :: st) M o) : XJ p l e R s m args below meth c D cs A S ad nL Q (pc) lv (.int y :: .int x :: st) M o := fun H locs ls hl hP hS r hr => lv_ishr Z.1 Z.2.1 hdg (k H locs ls hl hP hS r hr)
theorem xj_iushr (Z : CX p s m args meth c cc nL own ret D cs A S ad) {x y : Int32} (hdg : decode cc pc = .ok (.iushr, 1))  (k : XJ p l e R s m args below meth c D cs A S ad nL Q (pc + 1) lv (.int ((x.toUInt32 >>> (y.toUInt32 &&& Int32.toUInt32 31)).toInt32) :: st) M o) : XJ p l e R s m args below meth c D cs A S ad nL Q (pc) lv (.int y :: .int x :: st) M o := fun H locs ls hl hP hS r hr => lv_iushr (v := (x.toUInt32 >>> (y.toUInt32 &&& Int32.toUInt32 31)).toInt32) Z.1 Z.2.1 hdg rfl (k H locs ls hl hP hS r hr)
theorem xj_ineg (Z : CX p s m args meth c cc nL own ret D cs A S ad) {x : Int32} (hdg : decode cc pc = .ok (.ineg, 1))  (k : XJ p l e R s m args below meth c D cs A S ad nL Q (pc + 1) lv (.int (-x) :: st) M o) : XJ p l e R s m args below meth c D cs A S ad nL Q (pc) lv (.int x :: st) M o := fun H locs ls hl hP hS r hr => lv_ineg Z.1 Z.2.1 hdg (k H locs ls hl hP hS r hr)
theorem xj_idiv (Z : CX p s m args meth c cc nL own ret D cs A S ad) {x y : Int32} (hdg : decode cc pc = .ok (.idiv, 1)) (hne : ¬ y = 0) (k : XJ p l e R s m args below meth c D cs A S ad nL Q (pc + 1) lv (.int (x / y) :: st) M o) : XJ p l e R s m args below meth c D cs A S ad nL Q (pc) lv (.int y :: .int x :: st) M o := fun H locs ls hl hP hS r hr => lv_idiv Z.1 Z.2.1 hdg hne (k H locs ls hl hP hS r hr)
theorem xj_irem (Z : CX p s m args meth c cc nL own ret D cs A S ad) {x y : Int32} (hdg : decode cc pc = .ok (.irem, 1)) (hne : ¬ y = 0) (k : XJ p l e R s m args below meth c D cs A S ad nL Q (pc + 1) lv (.int (x - x / y * y) :: st) M o) : XJ p l e R s m args below meth c D cs A S ad nL Q (pc) lv (.int y :: .int x :: st) M o := fun H locs ls hl hP hS r hr => lv_irem Z.1 Z.2.1 hdg hne (k H locs ls hl hP hS r hr)
theorem xj_ladd (Z : CX p s m args meth c cc nL own ret D cs A S ad) {x y : Int64} (hdg : decode cc pc = .ok (.ladd, 1))  (k : XJ p l e R s m args below meth c D cs A S ad nL Q (pc + 1) lv (.long (x + y) :: st) M o) : XJ p l e R s m args below meth c D cs A S ad nL Q (pc) lv (.long y :: .long x :: st) M o := fun H locs ls hl hP hS r hr => lv_ladd Z.1 Z.2.1 hdg (k H locs ls hl hP hS r hr)
theorem xj_lmul (Z : CX p s m args meth c cc nL own ret D cs A S ad) {x y : Int64} (hdg : decode cc pc = .ok (.lmul, 1))  (k : XJ p l e R s m args below meth c D cs A S ad nL Q (pc + 1) lv (.long (x * y) :: st) M o) : XJ p l e R s m args below meth c D cs A S ad nL Q (pc) lv (.long y :: .long x :: st) M o := fun H locs ls hl hP hS r hr => lv_lmul Z.1 Z.2.1 hdg (k H locs ls hl hP hS r hr)
theorem xj_lor (Z : CX p s m args meth c cc nL own ret D cs A S ad) {x y : Int64} (hdg : decode cc pc = .ok (.lor, 1))  (k : XJ p l e R s m args below meth c D cs A S ad nL Q (pc + 1) lv (.long (x ||| y) :: st) M o) : XJ p l e R s m args below meth c D cs A S ad nL Q (pc) lv (.long y :: .long x :: st) M o := fun H locs ls hl hP hS r hr => lv_lor Z.1 Z.2.1 hdg (k H locs ls hl hP hS r hr)
theorem xj_land (Z : CX p s m args meth c cc nL own ret D cs A S ad) {x y : Int64} (hdg : decode cc pc = .ok (.land, 1))  (k : XJ p l e R s m args below meth c D cs A S ad nL Q (pc + 1) lv (.long (x &&& y) :: st) M o) : XJ p l e R s m args below meth c D cs A S ad nL Q (pc) lv (.long y :: .long x :: st) M o := fun H locs ls hl hP hS r hr => lv_land Z.1 Z.2.1 hdg (k H locs ls hl hP hS r hr)
theorem xj_lrem (Z : CX p s m args meth c cc nL own ret D cs A S ad) {x y : Int64} (hdg : decode cc pc = .ok (.lrem, 1)) (hne : ¬ y = 0) (k : XJ p l e R s m args below meth c D cs A S ad nL Q (pc + 1) lv (.long (x - x / y * y) :: st) M o) : XJ p l e R s m args below meth c D cs A S ad nL Q (pc) lv (.long y :: .long x :: st) M o := fun H locs ls hl hP hS r hr => lv_lrem Z.1 Z.2.1 hdg hne (k H locs ls hl hP hS r hr)
theorem xj_lshr (Z : CX p s m args meth c cc nL own ret D cs A S ad) {x : Int64} {y : Int32} (hdg : decode cc pc = .ok (.lshr, 1))  (k : XJ p l e R s m args below meth c D cs A S ad nL Q (pc + 1) lv (.long (x >>> (y.toInt64 &&& 63)) :: st) M o) : XJ p l e R s m args below meth c D cs A S ad nL Q (pc) lv (.int y :: .long x :: st) M o := fun H locs ls hl hP hS r hr => lv_lshr (v := x >>> (y.toInt64 &&& 63)) Z.1 Z.2.1 hdg rfl (k H locs ls hl hP hS r hr)
theorem xj_lshl (Z : CX p s m args meth c cc nL own ret D cs A S ad) {x : Int64} {y : Int32} (hdg : decode cc pc = .ok (.lshl, 1))  (k : XJ p l e R s m args below meth c D cs A S ad nL Q (pc + 1) lv (.long (x <<< (y.toInt64 &&& 63)) :: st) M o) : XJ p l e R s m args below meth c D cs A S ad nL Q (pc) lv (.int y :: .long x :: st) M o := fun H locs ls hl hP hS r hr => lv_lshl (v := x <<< (y.toInt64 &&& 63)) Z.1 Z.2.1 hdg rfl (k H locs ls hl hP hS r hr)
theorem xj_lcmp (Z : CX p s m args meth c cc nL own ret D cs A S ad) {x y : Int64} (hdg : decode cc pc = .ok (.lcmp, 1))  (k : XJ p l e R s m args below meth c D cs A S ad nL Q (pc + 1) lv (.int (lg_cmp x y) :: st) M o) : XJ p l e R s m args below meth c D cs A S ad nL Q (pc) lv (.long y :: .long x :: st) M o := fun H locs ls hl hP hS r hr => W.lcmp Z.1 Z.2.1 hdg (k H locs ls hl hP hS r hr)
theorem xj_i2l (Z : CX p s m args meth c cc nL own ret D cs A S ad) {x : Int32} (hdg : decode cc pc = .ok (.i2l, 1))  (k : XJ p l e R s m args below meth c D cs A S ad nL Q (pc + 1) lv (.long x.toInt64 :: st) M o) : XJ p l e R s m args below meth c D cs A S ad nL Q (pc) lv (.int x :: st) M o := fun H locs ls hl hP hS r hr => lv_i2l (v := x.toInt64) Z.1 Z.2.1 hdg rfl (k H locs ls hl hP hS r hr)
theorem xj_l2i (Z : CX p s m args meth c cc nL own ret D cs A S ad) {x : Int64} (hdg : decode cc pc = .ok (.l2i, 1))  (k : XJ p l e R s m args below meth c D cs A S ad nL Q (pc + 1) lv (.int x.toInt32 :: st) M o) : XJ p l e R s m args below meth c D cs A S ad nL Q (pc) lv (.long x :: st) M o := fun H locs ls hl hP hS r hr => lv_l2i (v := x.toInt32) Z.1 Z.2.1 hdg rfl (k H locs ls hl hP hS r hr)
theorem xj_i2b (Z : CX p s m args meth c cc nL own ret D cs A S ad) {x : Int32} (hdg : decode cc pc = .ok (.i2b, 1))  (k : XJ p l e R s m args below meth c D cs A S ad nL Q (pc + 1) lv (.int x.toInt8.toInt32 :: st) M o) : XJ p l e R s m args below meth c D cs A S ad nL Q (pc) lv (.int x :: st) M o := fun H locs ls hl hP hS r hr => lv_i2b (v := x.toInt8.toInt32) Z.1 Z.2.1 hdg rfl (k H locs ls hl hP hS r hr)
theorem xj_iconst (Z : CX p s m args meth c cc nL own ret D cs A S ad) {n : Int} (v : Int32) (hdg : decode cc pc = .ok (.iconst n, 1)) (hv : Int32.ofInt n = v) (k : XJ p l e R s m args below meth c D cs A S ad nL Q (pc + 1) lv (.int v :: st) M o) : XJ p l e R s m args below meth c D cs A S ad nL Q (pc) lv (st) M o := fun H locs ls hl hP hS r hr => lv_iconst Z.1 Z.2.1 hdg hv (k H locs ls hl hP hS r hr)
theorem xj_bipush (Z : CX p s m args meth c cc nL own ret D cs A S ad) {n : Int} (v : Int32) (hdg : decode cc pc = .ok (.bipush n, 2)) (hv : (Int8.ofInt n).toInt32 = v) (k : XJ p l e R s m args below meth c D cs A S ad nL Q (pc + 2) lv (.int v :: st) M o) : XJ p l e R s m args below meth c D cs A S ad nL Q (pc) lv (st) M o := fun H locs ls hl hP hS r hr => lv_bipush Z.1 Z.2.1 hdg hv (k H locs ls hl hP hS r hr)
theorem xj_sipush (Z : CX p s m args meth c cc nL own ret D cs A S ad) {n : Int} (v : Int32) (hdg : decode cc pc = .ok (.sipush n, 3)) (hv : (Int16.ofInt n).toInt32 = v) (k : XJ p l e R s m args below meth c D cs A S ad nL Q (pc + 3) lv (.int v :: st) M o) : XJ p l e R s m args below meth c D cs A S ad nL Q (pc) lv (st) M o := fun H locs ls hl hP hS r hr => lv_sipush Z.1 Z.2.1 hdg hv (k H locs ls hl hP hS r hr)
theorem xj_lconst (Z : CX p s m args meth c cc nL own ret D cs A S ad) {n : Fin 2} (v : Int64) (hdg : decode cc pc = .ok (.lconst n, 1)) (hv : Int64.ofNat (n : Nat) = v) (k : XJ p l e R s m args below meth c D cs A S ad nL Q (pc + 1) lv (.long v :: st) M o) : XJ p l e R s m args below meth c D cs A S ad nL Q (pc) lv (st) M o := fun H locs ls hl hP hS r hr => lv_lconst Z.1 Z.2.1 hdg hv (k H locs ls hl hP hS r hr)
theorem xj_ldc2 (Z : CX p s m args meth c cc nL own ret D cs A S ad) {index : Nat} {v : Int64} (hdg : decode cc pc = .ok (.ldc2_w index, 3)) (hc : Cond.constantLong own index v ∈ xbig) (k : XJ p l e R s m args below meth c D cs A S ad nL Q (pc + 3) lv (.long v :: st) M o) : XJ p l e R s m args below meth c D cs A S ad nL Q (pc) lv (st) M o := fun H locs ls hl hP hS r hr => lv_ldc2 Z.1 Z.2.1 Z.2.2.2.1 (Z.2.2.2.2.1.hts _ _ hc) hdg (k H locs ls hl hP hS r hr)
theorem xj_ldcw (Z : CX p s m args meth c cc nL own ret D cs A S ad) {index : Nat} {v : Int32} (hdg : decode cc pc = .ok (.ldc_w index, 3)) (hc : Cond.constant own index v ∈ xbig) (k : XJ p l e R s m args below meth c D cs A S ad nL Q (pc + 3) lv (.int v :: st) M o) : XJ p l e R s m args below meth c D cs A S ad nL Q (pc) lv (st) M o := fun H locs ls hl hP hS r hr => lv_ldcw Z.1 Z.2.1 Z.2.2.2.1 (Z.2.2.2.2.1.hts _ _ hc) hdg (k H locs ls hl hP hS r hr)
theorem xj_iload_n (Z : CX p s m args meth c cc nL own ret D cs A S ad) (j : Nat) {k : Fin 4} {i : Nat} {x : Int32} (hdg : decode cc pc = .ok (.iload_n k, 1)) (hi : (k : Nat) = i) (hg : lv[j]? = some (i, .int x)) (k : XJ p l e R s m args below meth c D cs A S ad nL Q (pc + 1) lv (.int x :: st) M o) : XJ p l e R s m args below meth c D cs A S ad nL Q (pc) lv (st) M o := fun H locs ls hl hP hS r hr => lv_iload_n Z.1 Z.2.1 hdg hi (lv_at hl j hg) (k H locs ls hl hP hS r hr)
theorem xj_iload (Z : CX p s m args meth c cc nL own ret D cs A S ad) (j : Nat) {i : Nat} {x : Int32} (hdg : decode cc pc = .ok (.iload i, 2)) (hg : lv[j]? = some (i, .int x)) (k : XJ p l e R s m args below meth c D cs A S ad nL Q (pc + 2) lv (.int x :: st) M o) : XJ p l e R s m args below meth c D cs A S ad nL Q (pc) lv (st) M o := fun H locs ls hl hP hS r hr => lv_iload Z.1 Z.2.1 hdg (lv_at hl j hg) (k H locs ls hl hP hS r hr)
theorem xj_lload_n (Z : CX p s m args meth c cc nL own ret D cs A S ad) (j : Nat) {k : Fin 4} {i : Nat} {x : Int64} (hdg : decode cc pc = .ok (.lload_n k, 1)) (hi : (k : Nat) = i) (hg : lv[j]? = some (i, .long x)) (k : XJ p l e R s m args below meth c D cs A S ad nL Q (pc + 1) lv (.long x :: st) M o) : XJ p l e R s m args below meth c D cs A S ad nL Q (pc) lv (st) M o := fun H locs ls hl hP hS r hr => lv_lload_n Z.1 Z.2.1 hdg hi (lv_at hl j hg) (k H locs ls hl hP hS r hr)
theorem xj_lload (Z : CX p s m args meth c cc nL own ret D cs A S ad) (j : Nat) {i : Nat} {x : Int64} (hdg : decode cc pc = .ok (.lload i, 2)) (hg : lv[j]? = some (i, .long x)) (k : XJ p l e R s m args below meth c D cs A S ad nL Q (pc + 2) lv (.long x :: st) M o) : XJ p l e R s m args below meth c D cs A S ad nL Q (pc) lv (st) M o := fun H locs ls hl hP hS r hr => lv_lload Z.1 Z.2.1 hdg (lv_at hl j hg) (k H locs ls hl hP hS r hr)
theorem xj_aload_n (Z : CX p s m args meth c cc nL own ret D cs A S ad) (j : Nat) {k : Fin 4} {i : Nat} {x : Nat} (hdg : decode cc pc = .ok (.aload_n k, 1)) (hi : (k : Nat) = i) (hg : lv[j]? = some (i, .ref x)) (k : XJ p l e R s m args below meth c D cs A S ad nL Q (pc + 1) lv (.ref x :: st) M o) : XJ p l e R s m args below meth c D cs A S ad nL Q (pc) lv (st) M o := fun H locs ls hl hP hS r hr => lv_aload_n Z.1 Z.2.1 hdg hi (lv_at hl j hg) (k H locs ls hl hP hS r hr)
theorem xj_aload (Z : CX p s m args meth c cc nL own ret D cs A S ad) (j : Nat) {i : Nat} {x : Nat} (hdg : decode cc pc = .ok (.aload i, 2)) (hg : lv[j]? = some (i, .ref x)) (k : XJ p l e R s m args below meth c D cs A S ad nL Q (pc + 2) lv (.ref x :: st) M o) : XJ p l e R s m args below meth c D cs A S ad nL Q (pc) lv (st) M o := fun H locs ls hl hP hS r hr => lv_aload Z.1 Z.2.1 hdg (lv_at hl j hg) (k H locs ls hl hP hS r hr)
theorem xj_dup (Z : CX p s m args meth c cc nL own ret D cs A S ad) {va : Value} (hdg : decode cc pc = .ok (.dup, 1)) (h1 : va.category = 1) (k : XJ p l e R s m args below meth c D cs A S ad nL Q (pc + 1) lv (va :: va :: st) M o) : XJ p l e R s m args below meth c D cs A S ad nL Q (pc) lv (va :: st) M o := fun H locs ls hl hP hS r hr => lv_dup Z.1 Z.2.1 hdg h1 (k H locs ls hl hP hS r hr)
theorem xj_pop (Z : CX p s m args meth c cc nL own ret D cs A S ad) {va : Value} (hdg : decode cc pc = .ok (.pop, 1)) (h1 : va.category = 1) (k : XJ p l e R s m args below meth c D cs A S ad nL Q (pc + 1) lv (st) M o) : XJ p l e R s m args below meth c D cs A S ad nL Q (pc) lv (va :: st) M o := fun H locs ls hl hP hS r hr => lv_pop Z.1 Z.2.1 hdg h1 (k H locs ls hl hP hS r hr)
theorem xj_dup2 (Z : CX p s m args meth c cc nL own ret D cs A S ad) {va vb : Value} (hdg : decode cc pc = .ok (.dup2, 1)) (h1 : va.category = 1) (h2 : vb.category = 1) (k : XJ p l e R s m args below meth c D cs A S ad nL Q (pc + 1) lv (va :: vb :: va :: vb :: st) M o) : XJ p l e R s m args below meth c D cs A S ad nL Q (pc) lv (va :: vb :: st) M o := fun H locs ls hl hP hS r hr => lv_dup2_11 Z.1 Z.2.1 hdg h1 h2 (k H locs ls hl hP hS r hr)
theorem xj_istore_n (Z : CX p s m args meth c cc nL own ret D cs A S ad) {i : Nat} {x : Int32} {lv' : List (Nat × Value)} {k : Fin 4} (hdg : decode cc pc = .ok (.istore_n k, 1)) (hi : (k : Nat) = i) (hn : i < nL) (hl2 : (i, Value.int x) :: lv.filter (fun q => !(q.1 == i) && !(q.1 + 1 == i && q.2.category == 2)) = lv') (k : XJ p l e R s m args below meth c D cs A S ad nL Q (pc + 1) lv' (st) M o) : XJ p l e R s m args below meth c D cs A S ad nL Q (pc) lv (.int x :: st) M o := fun H locs ls hl hP hS r hr => lv_istore_n Z.1 Z.2.1 hdg hi hl hn hl2 (fun ls2 hl3 => k H locs ls2 hl3 hP hS r hr)
theorem xj_istore (Z : CX p s m args meth c cc nL own ret D cs A S ad) {i : Nat} {x : Int32} {lv' : List (Nat × Value)}  (hdg : decode cc pc = .ok (.istore i, 2)) (hn : i < nL) (hl2 : (i, Value.int x) :: lv.filter (fun q => !(q.1 == i) && !(q.1 + 1 == i && q.2.category == 2)) = lv') (k : XJ p l e R s m args below meth c D cs A S ad nL Q (pc + 2) lv' (st) M o) : XJ p l e R s m args below meth c D cs A S ad nL Q (pc) lv (.int x :: st) M o := fun H locs ls hl hP hS r hr => lv_istore Z.1 Z.2.1 hdg hl hn hl2 (fun ls2 hl3 => k H locs ls2 hl3 hP hS r hr)
theorem xj_astore_n (Z : CX p s m args meth c cc nL own ret D cs A S ad) {i : Nat} {x : Nat} {lv' : List (Nat × Value)} {k : Fin 4} (hdg : decode cc pc = .ok (.astore_n k, 1)) (hi : (k : Nat) = i) (hn : i < nL) (hl2 : (i, Value.ref x) :: lv.filter (fun q => !(q.1 == i) && !(q.1 + 1 == i && q.2.category == 2)) = lv') (k : XJ p l e R s m args below meth c D cs A S ad nL Q (pc + 1) lv' (st) M o) : XJ p l e R s m args below meth c D cs A S ad nL Q (pc) lv (.ref x :: st) M o := fun H locs ls hl hP hS r hr => lv_astore_n Z.1 Z.2.1 hdg hi hl hn hl2 (fun ls2 hl3 => k H locs ls2 hl3 hP hS r hr)
theorem xj_astore (Z : CX p s m args meth c cc nL own ret D cs A S ad) {i : Nat} {x : Nat} {lv' : List (Nat × Value)}  (hdg : decode cc pc = .ok (.astore i, 2)) (hn : i < nL) (hl2 : (i, Value.ref x) :: lv.filter (fun q => !(q.1 == i) && !(q.1 + 1 == i && q.2.category == 2)) = lv') (k : XJ p l e R s m args below meth c D cs A S ad nL Q (pc + 2) lv' (st) M o) : XJ p l e R s m args below meth c D cs A S ad nL Q (pc) lv (.ref x :: st) M o := fun H locs ls hl hP hS r hr => lv_astore Z.1 Z.2.1 hdg hl hn hl2 (fun ls2 hl3 => k H locs ls2 hl3 hP hS r hr)
theorem xj_iinc (Z : CX p s m args meth c cc nL own ret D cs A S ad) (j : Nat) {i : Nat} {n : Int} {x : Int32} (v : Int32) {lv' : List (Nat × Value)} (hdg : decode cc pc = .ok (.iinc i n, 3)) (hg : lv[j]? = some (i, .int x)) (hv : x + Int32.ofInt n = v) (hn : i < nL) (hl2 : (i, Value.int v) :: lv.filter (fun q => !(q.1 == i) && !(q.1 + 1 == i && q.2.category == 2)) = lv') (k : XJ p l e R s m args below meth c D cs A S ad nL Q (pc + 3) lv' (st) M o) : XJ p l e R s m args below meth c D cs A S ad nL Q (pc) lv (st) M o := fun H locs ls hl hP hS r hr => lv_iinc Z.1 Z.2.1 hdg hl hg hv hn hl2 (fun ls2 hl3 => k H locs ls2 hl3 hP hS r hr)
theorem xj_goto (Z : CX p s m args meth c cc nL own ret D cs A S ad) {off : Int} (tgt : Nat) (hdg : decode cc pc = .ok (.goto off, 3)) (ht : (pc : Int) + off = (tgt : Int)) (k : XJ p l e R s m args below meth c D cs A S ad nL Q (tgt) lv (st) M o) : XJ p l e R s m args below meth c D cs A S ad nL Q (pc) lv (st) M o := fun H locs ls hl hP hS r hr => lv_goto Z.1 Z.2.1 hdg ht (k H locs ls hl hP hS r hr)
theorem xj_icmp_eq (Z : CX p s m args meth c cc nL own ret D cs A S ad) {x y : Int32} {off : Int} (tgt : Nat) {o1 o2 : Option ρ} (hdg : decode cc pc = .ok (.if_icmp .eq off, 3)) (ht : (pc : Int) + off = (tgt : Int)) (kt : x = y → XJ p l e R s m args below meth c D cs A S ad nL Q (tgt) lv (st) M o1) (kf : ¬ x = y → XJ p l e R s m args below meth c D cs A S ad nL Q (pc + 3) lv (st) M o2) : XJ p l e R s m args below meth c D cs A S ad nL Q (pc) lv (.int y :: .int x :: st) M (if x = y then o1 else o2) := fun H locs ls hl hP hS r hr => lv_icmp_eq Z.1 Z.2.1 hdg ht (fun h => kt h H locs ls hl hP hS r (by rw [if_pos h] at hr; exact hr)) (fun h => kf h H locs ls hl hP hS r (by rw [if_neg h] at hr; exact hr))
theorem xj_if_eq (Z : CX p s m args meth c cc nL own ret D cs A S ad) {x : Int32} {off : Int} (tgt : Nat) {o1 o2 : Option ρ} (hdg : decode cc pc = .ok (.ifCond .eq off, 3)) (ht : (pc : Int) + off = (tgt : Int)) (kt : x = 0 → XJ p l e R s m args below meth c D cs A S ad nL Q (tgt) lv (st) M o1) (kf : ¬ x = 0 → XJ p l e R s m args below meth c D cs A S ad nL Q (pc + 3) lv (st) M o2) : XJ p l e R s m args below meth c D cs A S ad nL Q (pc) lv (.int x :: st) M (if x = 0 then o1 else o2) := fun H locs ls hl hP hS r hr => lv_if_eq Z.1 Z.2.1 hdg ht (fun h => kt h H locs ls hl hP hS r (by rw [if_pos h] at hr; exact hr)) (fun h => kf h H locs ls hl hP hS r (by rw [if_neg h] at hr; exact hr))
theorem xj_icmp_ne (Z : CX p s m args meth c cc nL own ret D cs A S ad) {x y : Int32} {off : Int} (tgt : Nat) {o1 o2 : Option ρ} (hdg : decode cc pc = .ok (.if_icmp .ne off, 3)) (ht : (pc : Int) + off = (tgt : Int)) (kt : ¬ x = y → XJ p l e R s m args below meth c D cs A S ad nL Q (tgt) lv (st) M o2) (kf : x = y → XJ p l e R s m args below meth c D cs A S ad nL Q (pc + 3) lv (st) M o1) : XJ p l e R s m args below meth c D cs A S ad nL Q (pc) lv (.int y :: .int x :: st) M (if x = y then o1 else o2) := fun H locs ls hl hP hS r hr => lv_icmp_ne Z.1 Z.2.1 hdg ht (fun h => kt h H locs ls hl hP hS r (by rw [if_neg h] at hr; exact hr)) (fun h => kf h H locs ls hl hP hS r (by rw [if_pos h] at hr; exact hr))
theorem xj_if_ne (Z : CX p s m args meth c cc nL own ret D cs A S ad) {x : Int32} {off : Int} (tgt : Nat) {o1 o2 : Option ρ} (hdg : decode cc pc = .ok (.ifCond .ne off, 3)) (ht : (pc : Int) + off = (tgt : Int)) (kt : ¬ x = 0 → XJ p l e R s m args below meth c D cs A S ad nL Q (tgt) lv (st) M o2) (kf : x = 0 → XJ p l e R s m args below meth c D cs A S ad nL Q (pc + 3) lv (st) M o1) : XJ p l e R s m args below meth c D cs A S ad nL Q (pc) lv (.int x :: st) M (if x = 0 then o1 else o2) := fun H locs ls hl hP hS r hr => lv_if_ne Z.1 Z.2.1 hdg ht (fun h => kt h H locs ls hl hP hS r (by rw [if_neg h] at hr; exact hr)) (fun h => kf h H locs ls hl hP hS r (by rw [if_pos h] at hr; exact hr))
theorem xj_icmp_lt (Z : CX p s m args meth c cc nL own ret D cs A S ad) {x y : Int32} {off : Int} (tgt : Nat) {o1 o2 : Option ρ} (hdg : decode cc pc = .ok (.if_icmp .lt off, 3)) (ht : (pc : Int) + off = (tgt : Int)) (kt : x < y → XJ p l e R s m args below meth c D cs A S ad nL Q (tgt) lv (st) M o1) (kf : ¬ x < y → XJ p l e R s m args below meth c D cs A S ad nL Q (pc + 3) lv (st) M o2) : XJ p l e R s m args below meth c D cs A S ad nL Q (pc) lv (.int y :: .int x :: st) M (if x < y then o1 else o2) := fun H locs ls hl hP hS r hr => lv_icmp_lt Z.1 Z.2.1 hdg ht (fun h => kt h H locs ls hl hP hS r (by rw [if_pos h] at hr; exact hr)) (fun h => kf h H locs ls hl hP hS r (by rw [if_neg h] at hr; exact hr))
theorem xj_if_lt (Z : CX p s m args meth c cc nL own ret D cs A S ad) {x : Int32} {off : Int} (tgt : Nat) {o1 o2 : Option ρ} (hdg : decode cc pc = .ok (.ifCond .lt off, 3)) (ht : (pc : Int) + off = (tgt : Int)) (kt : x < 0 → XJ p l e R s m args below meth c D cs A S ad nL Q (tgt) lv (st) M o1) (kf : ¬ x < 0 → XJ p l e R s m args below meth c D cs A S ad nL Q (pc + 3) lv (st) M o2) : XJ p l e R s m args below meth c D cs A S ad nL Q (pc) lv (.int x :: st) M (if x < 0 then o1 else o2) := fun H locs ls hl hP hS r hr => lv_if_lt Z.1 Z.2.1 hdg ht (fun h => kt h H locs ls hl hP hS r (by rw [if_pos h] at hr; exact hr)) (fun h => kf h H locs ls hl hP hS r (by rw [if_neg h] at hr; exact hr))
theorem xj_icmp_ge (Z : CX p s m args meth c cc nL own ret D cs A S ad) {x y : Int32} {off : Int} (tgt : Nat) {o1 o2 : Option ρ} (hdg : decode cc pc = .ok (.if_icmp .ge off, 3)) (ht : (pc : Int) + off = (tgt : Int)) (kt : y ≤ x → XJ p l e R s m args below meth c D cs A S ad nL Q (tgt) lv (st) M o1) (kf : ¬ y ≤ x → XJ p l e R s m args below meth c D cs A S ad nL Q (pc + 3) lv (st) M o2) : XJ p l e R s m args below meth c D cs A S ad nL Q (pc) lv (.int y :: .int x :: st) M (if y ≤ x then o1 else o2) := fun H locs ls hl hP hS r hr => lv_icmp_ge Z.1 Z.2.1 hdg ht (fun h => kt h H locs ls hl hP hS r (by rw [if_pos h] at hr; exact hr)) (fun h => kf h H locs ls hl hP hS r (by rw [if_neg h] at hr; exact hr))
theorem xj_if_ge (Z : CX p s m args meth c cc nL own ret D cs A S ad) {x : Int32} {off : Int} (tgt : Nat) {o1 o2 : Option ρ} (hdg : decode cc pc = .ok (.ifCond .ge off, 3)) (ht : (pc : Int) + off = (tgt : Int)) (kt : 0 ≤ x → XJ p l e R s m args below meth c D cs A S ad nL Q (tgt) lv (st) M o1) (kf : ¬ 0 ≤ x → XJ p l e R s m args below meth c D cs A S ad nL Q (pc + 3) lv (st) M o2) : XJ p l e R s m args below meth c D cs A S ad nL Q (pc) lv (.int x :: st) M (if 0 ≤ x then o1 else o2) := fun H locs ls hl hP hS r hr => lv_if_ge Z.1 Z.2.1 hdg ht (fun h => kt h H locs ls hl hP hS r (by rw [if_pos h] at hr; exact hr)) (fun h => kf h H locs ls hl hP hS r (by rw [if_neg h] at hr; exact hr))
theorem xj_icmp_gt (Z : CX p s m args meth c cc nL own ret D cs A S ad) {x y : Int32} {off : Int} (tgt : Nat) {o1 o2 : Option ρ} (hdg : decode cc pc = .ok (.if_icmp .gt off, 3)) (ht : (pc : Int) + off = (tgt : Int)) (kt : y < x → XJ p l e R s m args below meth c D cs A S ad nL Q (tgt) lv (st) M o1) (kf : ¬ y < x → XJ p l e R s m args below meth c D cs A S ad nL Q (pc + 3) lv (st) M o2) : XJ p l e R s m args below meth c D cs A S ad nL Q (pc) lv (.int y :: .int x :: st) M (if y < x then o1 else o2) := fun H locs ls hl hP hS r hr => lv_icmp_gt Z.1 Z.2.1 hdg ht (fun h => kt h H locs ls hl hP hS r (by rw [if_pos h] at hr; exact hr)) (fun h => kf h H locs ls hl hP hS r (by rw [if_neg h] at hr; exact hr))
theorem xj_if_gt (Z : CX p s m args meth c cc nL own ret D cs A S ad) {x : Int32} {off : Int} (tgt : Nat) {o1 o2 : Option ρ} (hdg : decode cc pc = .ok (.ifCond .gt off, 3)) (ht : (pc : Int) + off = (tgt : Int)) (kt : 0 < x → XJ p l e R s m args below meth c D cs A S ad nL Q (tgt) lv (st) M o1) (kf : ¬ 0 < x → XJ p l e R s m args below meth c D cs A S ad nL Q (pc + 3) lv (st) M o2) : XJ p l e R s m args below meth c D cs A S ad nL Q (pc) lv (.int x :: st) M (if 0 < x then o1 else o2) := fun H locs ls hl hP hS r hr => lv_if_gt Z.1 Z.2.1 hdg ht (fun h => kt h H locs ls hl hP hS r (by rw [if_pos h] at hr; exact hr)) (fun h => kf h H locs ls hl hP hS r (by rw [if_neg h] at hr; exact hr))
theorem xj_icmp_le (Z : CX p s m args meth c cc nL own ret D cs A S ad) {x y : Int32} {off : Int} (tgt : Nat) {o1 o2 : Option ρ} (hdg : decode cc pc = .ok (.if_icmp .le off, 3)) (ht : (pc : Int) + off = (tgt : Int)) (kt : x ≤ y → XJ p l e R s m args below meth c D cs A S ad nL Q (tgt) lv (st) M o1) (kf : ¬ x ≤ y → XJ p l e R s m args below meth c D cs A S ad nL Q (pc + 3) lv (st) M o2) : XJ p l e R s m args below meth c D cs A S ad nL Q (pc) lv (.int y :: .int x :: st) M (if x ≤ y then o1 else o2) := fun H locs ls hl hP hS r hr => lv_icmp_le Z.1 Z.2.1 hdg ht (fun h => kt h H locs ls hl hP hS r (by rw [if_pos h] at hr; exact hr)) (fun h => kf h H locs ls hl hP hS r (by rw [if_neg h] at hr; exact hr))
theorem xj_if_le (Z : CX p s m args meth c cc nL own ret D cs A S ad) {x : Int32} {off : Int} (tgt : Nat) {o1 o2 : Option ρ} (hdg : decode cc pc = .ok (.ifCond .le off, 3)) (ht : (pc : Int) + off = (tgt : Int)) (kt : x ≤ 0 → XJ p l e R s m args below meth c D cs A S ad nL Q (tgt) lv (st) M o1) (kf : ¬ x ≤ 0 → XJ p l e R s m args below meth c D cs A S ad nL Q (pc + 3) lv (st) M o2) : XJ p l e R s m args below meth c D cs A S ad nL Q (pc) lv (.int x :: st) M (if x ≤ 0 then o1 else o2) := fun H locs ls hl hP hS r hr => lv_if_le Z.1 Z.2.1 hdg ht (fun h => kt h H locs ls hl hP hS r (by rw [if_pos h] at hr; exact hr)) (fun h => kf h H locs ls hl hP hS r (by rw [if_neg h] at hr; exact hr))
theorem xj_iald (Z : CX p s m args meth c cc nL own ret D cs A S ad) {k n : Nat} {i : Int32} (hk : k ∈ S) (hy : xlay k = (1, n)) (hdg : decode cc pc = .ok (.iaload, 1)) (kk : vp_in i n → XJ p l e R s m args below meth c D cs A S ad nL Q (pc + 1) lv (.int (M.1 k i.toNatClampNeg) :: st) M o) : XJ p l e R s m args below meth c D cs A S ad nL Q (pc) lv (.int i :: .ref (ad k) :: st) M (xchk i n o) := by
  intro H locs ls hl hP hS r hr
  unfold xchk at hr
  by_cases h : i < 0 ∨ n ≤ i.toNatClampNeg
  · rw [if_pos h] at hr; cases hr
  · rw [if_neg h] at hr
    obtain ⟨q, hq, -⟩ := xw_at (cs := cs) (ad := ad) (M := M) hk
    have hc : xcell ad cs M k = .inl (cs 0, n, .inl (M.1 k)) := by unfold xcell; rw [hy]; rfl
    rw [hc] at hq
    exact va_iald Z.1 Z.2.1 Z.2.2.2.2.1.1 hP q 0 hq rfl h hdg (kk h H locs ls hl hP hS r hr)
theorem xj_bald (Z : CX p s m args meth c cc nL own ret D cs A S ad) {k n : Nat} {i : Int32} (hk : k ∈ S) (hy : xlay k = (2, n)) (hdg : decode cc pc = .ok (.baload, 1)) (kk : vp_in i n → XJ p l e R s m args below meth c D cs A S ad nL Q (pc + 1) lv (.int (M.1 k i.toNatClampNeg) :: st) M o) : XJ p l e R s m args below meth c D cs A S ad nL Q (pc) lv (.int i :: .ref (ad k) :: st) M (xchk i n o) := by
  intro H locs ls hl hP hS r hr
  unfold xchk at hr
  by_cases h : i < 0 ∨ n ≤ i.toNatClampNeg
  · rw [if_pos h] at hr; cases hr
  · rw [if_neg h] at hr
    obtain ⟨q, hq, -⟩ := xw_at (cs := cs) (ad := ad) (M := M) hk
    have hc : xcell ad cs M k = .inl (cs 1, n, .inl (M.1 k)) := by unfold xcell; rw [hy]; rfl
    rw [hc] at hq
    exact va_bald Z.1 Z.2.1 Z.2.2.2.2.1.1 hP q 1 hq rfl h hdg (kk h H locs ls hl hP hS r hr)
theorem xj_zald (Z : CX p s m args meth c cc nL own ret D cs A S ad) {k n : Nat} {i : Int32} (hk : k ∈ S) (hy : xlay k = (5, n)) (hdg : decode cc pc = .ok (.baload, 1)) (kk : vp_in i n → XJ p l e R s m args below meth c D cs A S ad nL Q (pc + 1) lv (.int (M.1 k i.toNatClampNeg) :: st) M o) : XJ p l e R s m args below meth c D cs A S ad nL Q (pc) lv (.int i :: .ref (ad k) :: st) M (xchk i n o) := by
  intro H locs ls hl hP hS r hr
  unfold xchk at hr
  by_cases h : i < 0 ∨ n ≤ i.toNatClampNeg
  · rw [if_pos h] at hr; cases hr
  · rw [if_neg h] at hr
    obtain ⟨q, hq, -⟩ := xw_at (cs := cs) (ad := ad) (M := M) hk
    have hc : xcell ad cs M k = .inl (cs 4, n, .inl (M.1 k)) := by unfold xcell; rw [hy]; rfl
    rw [hc] at hq
    exact va_zald Z.1 Z.2.1 Z.2.2.2.2.1.1 hP q 4 hq rfl h hdg (kk h H locs ls hl hP hS r hr)
theorem xj_iast (Z : CX p s m args meth c cc nL own ret D cs A S ad) {k n : Nat} {i x : Int32} {g : xm → Option ρ} (hk : k ∈ S) (hy : xlay k = (1, n)) (hdg : decode cc pc = .ok (.iastore, 1)) (kk : ∀ M2, M2 = up M k i.toNatClampNeg x → XJ p l e R s m args below meth c D cs A S ad nL Q (pc + 1) lv (st) M2 (g M2)) : XJ p l e R s m args below meth c D cs A S ad nL Q (pc) lv (.int x :: .int i :: .ref (ad k) :: st) M (xchk i n (xl (up M k i.toNatClampNeg x) g)) := by
  intro H locs ls hl hP hS r hr
  unfold xchk at hr
  by_cases h : i < 0 ∨ n ≤ i.toNatClampNeg
  · rw [if_pos h] at hr; cases hr
  · rw [if_neg h] at hr
    obtain ⟨q, hq, hq2⟩ := xw_at (cs := cs) (ad := ad) (M := M) hk
    have hc : xcell ad cs M k = .inl (cs 0, n, .inl (M.1 k)) := by unfold xcell; rw [hy]; rfl
    rw [hc] at hq
    refine va_iast Z.1 Z.2.1 Z.2.2.2.2.1.1 hP (xw_D Z.2.2.2.2.2.1) hS q 0 hq rfl h hdg (fun H1 locs1 hP1 _ hS1 => ?_)
    have hc2 : xcell ad cs (up M k i.toNatClampNeg x) k = .inl (cs 0, n, .inl (upd (M.1 k) i.toNatClampNeg x)) := by unfold xcell; rw [hy, up_eq]; rfl
    rw [xw_set (M' := up M k i.toNatClampNeg x) Z.2.2.2.2.2.1.1 hq2 hc2 up_cell] at hP1
    exact kk _ rfl H1 locs1 ls hl hP1 hS1 r hr
theorem xj_bast (Z : CX p s m args meth c cc nL own ret D cs A S ad) {k n : Nat} {i x : Int32} {g : xm → Option ρ} (hk : k ∈ S) (hy : xlay k = (2, n)) (hdg : decode cc pc = .ok (.bastore, 1)) (kk : ∀ M2, M2 = up M k i.toNatClampNeg (vp_nar .byte x) → XJ p l e R s m args below meth c D cs A S ad nL Q (pc + 1) lv (st) M2 (g M2)) : XJ p l e R s m args below meth c D cs A S ad nL Q (pc) lv (.int x :: .int i :: .ref (ad k) :: st) M (xchk i n (xl (up M k i.toNatClampNeg (vp_nar .byte x)) g)) := by
  intro H locs ls hl hP hS r hr
  unfold xchk at hr
  by_cases h : i < 0 ∨ n ≤ i.toNatClampNeg
  · rw [if_pos h] at hr; cases hr
  · rw [if_neg h] at hr
    obtain ⟨q, hq, hq2⟩ := xw_at (cs := cs) (ad := ad) (M := M) hk
    have hc : xcell ad cs M k = .inl (cs 1, n, .inl (M.1 k)) := by unfold xcell; rw [hy]; rfl
    rw [hc] at hq
    refine va_bast Z.1 Z.2.1 Z.2.2.2.2.1.1 hP (xw_D Z.2.2.2.2.2.1) hS q 1 hq rfl h hdg (fun H1 locs1 hP1 _ hS1 => ?_)
    have hc2 : xcell ad cs (up M k i.toNatClampNeg (vp_nar .byte x)) k = .inl (cs 1, n, .inl (upd (M.1 k) i.toNatClampNeg (vp_nar .byte x))) := by unfold xcell; rw [hy, up_eq]; rfl
    rw [xw_set (M' := up M k i.toNatClampNeg (vp_nar .byte x)) Z.2.2.2.2.2.1.1 hq2 hc2 up_cell] at hP1
    exact kk _ rfl H1 locs1 ls hl hP1 hS1 r hr
theorem xj_zast (Z : CX p s m args meth c cc nL own ret D cs A S ad) {k n : Nat} {i x : Int32} {g : xm → Option ρ} (hk : k ∈ S) (hy : xlay k = (5, n)) (hdg : decode cc pc = .ok (.bastore, 1)) (kk : ∀ M2, M2 = up M k i.toNatClampNeg (vp_nar .boolean x) → XJ p l e R s m args below meth c D cs A S ad nL Q (pc + 1) lv (st) M2 (g M2)) : XJ p l e R s m args below meth c D cs A S ad nL Q (pc) lv (.int x :: .int i :: .ref (ad k) :: st) M (xchk i n (xl (up M k i.toNatClampNeg (vp_nar .boolean x)) g)) := by
  intro H locs ls hl hP hS r hr
  unfold xchk at hr
  by_cases h : i < 0 ∨ n ≤ i.toNatClampNeg
  · rw [if_pos h] at hr; cases hr
  · rw [if_neg h] at hr
    obtain ⟨q, hq, hq2⟩ := xw_at (cs := cs) (ad := ad) (M := M) hk
    have hc : xcell ad cs M k = .inl (cs 4, n, .inl (M.1 k)) := by unfold xcell; rw [hy]; rfl
    rw [hc] at hq
    refine va_zast Z.1 Z.2.1 Z.2.2.2.2.1.1 hP (xw_D Z.2.2.2.2.2.1) hS q 4 hq rfl h hdg (fun H1 locs1 hP1 _ hS1 => ?_)
    have hc2 : xcell ad cs (up M k i.toNatClampNeg (vp_nar .boolean x)) k = .inl (cs 4, n, .inl (upd (M.1 k) i.toNatClampNeg (vp_nar .boolean x))) := by unfold xcell; rw [hy, up_eq]; rfl
    rw [xw_set (M' := up M k i.toNatClampNeg (vp_nar .boolean x)) Z.2.2.2.2.2.1.1 hq2 hc2 up_cell] at hP1
    exact kk _ rfl H1 locs1 ls hl hP1 hS1 r hr
theorem xj_aald (Z : CX p s m args meth c cc nL own ret D cs A S ad) {k n : Nat} {i : Int32} {f : Nat → Nat} {t0 : Nat} {C : String} {cA : ClassId} (hk : k ∈ S) (hc : xcell ad cs M k = .inl (cA, n, .inr (.inr (.inr (.inr (fun j => some (ad (f j)))))))) (ht : (xtys cs)[t0]? = some (cA, .object C)) (hdg : decode cc pc = .ok (.aaload, 1)) (kk : vp_in i n → XJ p l e R s m args below meth c D cs A S ad nL Q (pc + 1) lv (.ref (ad (f i.toNatClampNeg)) :: st) M o) : XJ p l e R s m args below meth c D cs A S ad nL Q (pc) lv (.int i :: .ref (ad k) :: st) M (xchk i n o) := by
  intro H locs ls hl hP hS r hr
  unfold xchk at hr
  by_cases h : i < 0 ∨ n ≤ i.toNatClampNeg
  · rw [if_pos h] at hr; cases hr
  · rw [if_neg h] at hr
    obtain ⟨q, hq, -⟩ := xw_at (cs := cs) (ad := ad) (M := M) hk
    rw [hc] at hq
    exact va_aldq Z.1 Z.2.1 Z.2.2.2.2.1.1 hP q t0 hq ht h hdg (kk h H locs ls hl hP hS r hr)
theorem xj_alen (Z : CX p s m args meth c cc nL own ret D cs A S ad) {k n : Nat} {v : Int32} (hk : k ∈ S) (hy : xlay k = (1, n)) (hv : Int32.ofNat n = v) (hdg : decode cc pc = .ok (.arraylength, 1)) (kk : XJ p l e R s m args below meth c D cs A S ad nL Q (pc + 1) lv (.int v :: st) M o) : XJ p l e R s m args below meth c D cs A S ad nL Q (pc) lv (.ref (ad k) :: st) M o := by
  intro H locs ls hl hP hS r hr
  obtain ⟨q, hq, -⟩ := xw_at (cs := cs) (ad := ad) (M := M) hk
  have hc : xcell ad cs M k = .inl (cs 0, n, .inl (M.1 k)) := by unfold xcell; rw [hy]; rfl
  rw [hc] at hq
  exact va_alen Z.1 Z.2.1 Z.2.2.2.2.1.1 hP q 0 hq rfl hv hdg (kk H locs ls hl hP hS r hr)
theorem xj_get (Z : CX p s m args meth c cc nL own ret D cs A S ad) {C : String} {T : u_T} {N ci index k : Nat} (j : Nat) {v : Value} (hk : k ∈ S) (hy : xlay k = (0, ci)) (hcl : classes[ci]? = some (C, T, N)) (hin : ∀ w ∈ u_ws C T N, w ∈ xbig) (hj : j < N) (hC : (T j).1 = C) (hlink : Cond.fieldLink own index C (T j).2.1 (T j).2.2.1 ∈ xbig) (hv : (xfs ad (M.1 k) M.2 k ci)[j]? = some v) (hdg : decode cc pc = .ok (.getfield index, 3)) (kk : XJ p l e R s m args below meth c D cs A S ad nL Q (pc + 3) lv (v :: st) M o) : XJ p l e R s m args below meth c D cs A S ad nL Q (pc) lv (.ref (ad k) :: st) M o := by
  intro H locs ls hl hP hS r hr
  obtain ⟨q, hq, -⟩ := xw_at (cs := cs) (ad := ad) (M := M) hk
  have hc : xcell ad cs M k = .inr (ci, xfs ad (M.1 k) M.2 k ci) := by unfold xcell; rw [hy]; rfl
  rw [hc] at hq
  exact va_get Z.1 Z.2.1 (Z.2.2.2.2.1.hts args) hin Z.2.2.2.1 Z.2.2.2.2.1.1 hP q hq hcl j hj (Z.2.2.2.2.1.hts _ _ hlink) (fun _ h9 => by rw [hC] at h9; exact h9) hv hdg (kk H locs ls hl hP hS r hr)
theorem xj_put (Z : CX p s m args meth c cc nL own ret D cs A S ad) {C : String} {T : u_T} {N ci index k : Nat} (j : Nat) {ty0 : Nat → FieldType} {v : Value} {M1 : xm} {g : xm → Option ρ} (hk : k ∈ S) (hy : xlay k = (0, ci)) (hcl : classes[ci]? = some (C, T, N)) (hin : ∀ w ∈ u_ws C T N, w ∈ xbig) (hty : ∀ k, k < N → parseFieldDescriptor (T k).2.2.1 = some (ty0 k)) (hnm : ∀ a, a < N → ∀ b, b < N → a ≠ b → (T a).2.1 ≠ (T b).2.1) (hj : j < N) (hC : (T j).1 = C) (hfin : (T j).2.2.2 = false) (hlink : Cond.fieldLink own index C (T j).2.1 (T j).2.2.1 ∈ xbig) (hn : narrow (ty0 j) v = v) (hfit : fits (ty0 j) v = true) (hlen : j < (xfs ad (M.1 k) M.2 k ci).length) (hset : xfs ad (M1.1 k) M1.2 k ci = (xfs ad (M.1 k) M.2 k ci).set j v) (hoth : ∀ a, a ≠ k → xcell ad cs M1 a = xcell ad cs M a) (hdg : decode cc pc = .ok (.putfield index, 3)) (kk : ∀ M2, M2 = M1 → XJ p l e R s m args below meth c D cs A S ad nL Q (pc + 3) lv (st) M2 (g M2)) : XJ p l e R s m args below meth c D cs A S ad nL Q (pc) lv (v :: .ref (ad k) :: st) M (xl M1 g) := by
  intro H locs ls hl hP hS r hr
  obtain ⟨q, hq, hq2⟩ := xw_at (cs := cs) (ad := ad) (M := M) hk
  have hc : ∀ M : xm, xcell ad cs M k = .inr (ci, xfs ad (M.1 k) M.2 k ci) := by intro M; unfold xcell; rw [hy]; rfl
  rw [hc] at hq
  refine va_put Z.1 Z.2.1 (Z.2.2.2.2.1.hts args) hin ty0 hty hnm Z.2.2.2.1 Z.2.2.2.2.1.1 hP (xw_D Z.2.2.2.2.2.1) hS q hq hcl j hj (Z.2.2.2.2.1.hts _ _ hlink) (fun _ h9 => by rw [hC] at h9; exact h9) hfin (hty j hj) hn hfit hlen hdg (fun H1 locs1 hP1 _ hS1 => ?_)
  rw [xw_set (M' := M1) Z.2.2.2.2.2.1.1 hq2 (by rw [hc, hset]) hoth] at hP1
  exact kk _ rfl H1 locs1 ls hl hP1 hS1 r hr
theorem xj_getN (Z : CX p s m args meth c cc nL own ret D cs A S ad) {C host : String} {T : u_T} {N ci index k : Nat} (j : Nat) {v : Value} (hk : k ∈ S) (hy : xlay k = (0, ci)) (hcl : classes[ci]? = some (C, T, N)) (hin : ∀ w ∈ u_ws C T N, w ∈ xbig) (hj : j < N) (hC : (T j).1 = C) (hlink : Cond.fieldLinkNest own index C (T j).2.1 (T j).2.2.1 host ∈ xnst) (hv : (xfs ad (M.1 k) M.2 k ci)[j]? = some v) (hdg : decode cc pc = .ok (.getfield index, 3)) (kk : XJ p l e R s m args below meth c D cs A S ad nL Q (pc + 3) lv (v :: st) M o) : XJ p l e R s m args below meth c D cs A S ad nL Q (pc) lv (.ref (ad k) :: st) M o := by
  intro H locs ls hl hP hS r hr
  obtain ⟨q, hq, -⟩ := xw_at (cs := cs) (ad := ad) (M := M) hk
  have hc : xcell ad cs M k = .inr (ci, xfs ad (M.1 k) M.2 k ci) := by unfold xcell; rw [hy]; rfl
  rw [hc] at hq
  exact va_getN Z.1 Z.2.1 (Z.2.2.2.2.1.hts args) hin Z.2.2.2.1 Z.2.2.2.2.1.1 hP q hq hcl j hj (va_Nw.use (List.all_eq_true.mp xnst_ok _ hlink) (Z.2.2.2.2.1.2.2 _ hlink)) (fun _ h9 => by rw [hC] at h9; exact h9) hv hdg (kk H locs ls hl hP hS r hr)
theorem xj_putN (Z : CX p s m args meth c cc nL own ret D cs A S ad) {C host : String} {T : u_T} {N ci index k : Nat} (j : Nat) {ty0 : Nat → FieldType} {v : Value} {M1 : xm} {g : xm → Option ρ} (hk : k ∈ S) (hy : xlay k = (0, ci)) (hcl : classes[ci]? = some (C, T, N)) (hin : ∀ w ∈ u_ws C T N, w ∈ xbig) (hty : ∀ k, k < N → parseFieldDescriptor (T k).2.2.1 = some (ty0 k)) (hnm : ∀ a, a < N → ∀ b, b < N → a ≠ b → (T a).2.1 ≠ (T b).2.1) (hj : j < N) (hC : (T j).1 = C) (hfin : (T j).2.2.2 = false) (hlink : Cond.fieldLinkNest own index C (T j).2.1 (T j).2.2.1 host ∈ xnst) (hn : narrow (ty0 j) v = v) (hfit : fits (ty0 j) v = true) (hlen : j < (xfs ad (M.1 k) M.2 k ci).length) (hset : xfs ad (M1.1 k) M1.2 k ci = (xfs ad (M.1 k) M.2 k ci).set j v) (hoth : ∀ a, a ≠ k → xcell ad cs M1 a = xcell ad cs M a) (hdg : decode cc pc = .ok (.putfield index, 3)) (kk : ∀ M2, M2 = M1 → XJ p l e R s m args below meth c D cs A S ad nL Q (pc + 3) lv (st) M2 (g M2)) : XJ p l e R s m args below meth c D cs A S ad nL Q (pc) lv (v :: .ref (ad k) :: st) M (xl M1 g) := by
  intro H locs ls hl hP hS r hr
  obtain ⟨q, hq, hq2⟩ := xw_at (cs := cs) (ad := ad) (M := M) hk
  have hc : ∀ M : xm, xcell ad cs M k = .inr (ci, xfs ad (M.1 k) M.2 k ci) := by intro M; unfold xcell; rw [hy]; rfl
  rw [hc] at hq
  refine va_putN Z.1 Z.2.1 (Z.2.2.2.2.1.hts args) hin ty0 hty hnm Z.2.2.2.1 Z.2.2.2.2.1.1 hP (xw_D Z.2.2.2.2.2.1) hS q hq hcl j hj (va_Nw.use (List.all_eq_true.mp xnst_ok _ hlink) (Z.2.2.2.2.1.2.2 _ hlink)) (fun _ h9 => by rw [hC] at h9; exact h9) hfin (hty j hj) hn hfit hlen hdg (fun H1 locs1 hP1 _ hS1 => ?_)
  rw [xw_set (M' := M1) Z.2.2.2.2.2.1.1 hq2 (by rw [hc, hset]) hoth] at hP1
  exact kk _ rfl H1 locs1 ls hl hP1 hS1 r hr
end XR
