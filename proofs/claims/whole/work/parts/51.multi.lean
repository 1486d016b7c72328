/-! A ROW FOR multianewarray: four rows of four ints -/
/-- the outer array, of which i places are filled with the rows behind it -/
def xMo (cA : ClassId) (h i : Nat) : Cell := arrV cA 4 (fun j => if j < i then .ref (h + 1 + j) else .null)
def xMi (cB : ClassId) : Cell := arrV cB 4 (fun _ => .int 0)
def xMs (s : State) (cA cB : ClassId) : Nat → State
  | 0 => s.pushCell (xMo cA s.heap.size 0)
  | i + 1 => ((xMs s cA cB i).pushCell (xMi cB)).setCell s.heap.size (xMo cA s.heap.size (i + 1))
def xMl (h : Nat) : Nat → List Loc
  | 0 => []
  | i + 1 => xMl h i ++ [⟨h, i⟩]
theorem xMl_base (h : Nat) : ∀ i, ∀ q ∈ xMl h i, q.base = h
  | 0, q, hq => by cases hq
  | i + 1, q, hq => by
    rcases List.mem_append.mp hq with z | z
    · exact xMl_base h i q z
    · cases List.mem_singleton.mp z
      rfl
theorem xMo_put (cA : ClassId) (h i : Nat) : (xMo cA h i).setSlot i (.ref (h + 1 + i)) = xMo cA h (i + 1) := by
  unfold xMo
  rw [arrV_store]
  congr 1
  funext j
  unfold updV
  by_cases e : j = i
  · rw [if_pos e, if_pos (by omega), e]
  · rw [if_neg e]
    show (if j < i then _ else _) = _
    by_cases e2 : j < i
    · rw [if_pos e2, if_pos (by omega)]
    · rw [if_neg e2, if_neg (by omega)]
theorem xMs_is (s : State) (cA cB : ClassId) : ∀ i, (xMs s cA cB i).heap.size = s.heap.size + 1 + i ∧ (xMs s cA cB i).heap[s.heap.size]? = some (xMo cA s.heap.size i) ∧ (∀ j, j < i → (xMs s cA cB i).heap[s.heap.size + 1 + j]? = some (xMi cB)) ∧ (∀ q, q < s.heap.size → (xMs s cA cB i).heap[q]? = s.heap[q]?) ∧ (xMs s cA cB i).vm = s.vm ∧ (xMs s cA cB i).slotsUsed = s.slotsUsed + 4 + 4 * i
  | 0 => by
    refine ⟨?_, ?_, fun j hj => absurd hj (Nat.not_lt_zero j), fun q hq => State.heap_pushCell_of_lt _ _ hq, rfl, ?_⟩
    · simp [xMs]
    · exact State.heap_pushCell_size _ _
    · show (s.pushCell (xMo cA s.heap.size 0)).slotsUsed = _
      have : (xMo cA s.heap.size 0).slots.size = 4 := arrV_size _ _ _
      simp [this]
  | i + 1 => by
    obtain ⟨a1, a2, a3, a4, a5, a6⟩ := xMs_is s cA cB i
    have hlt : s.heap.size < (xMs s cA cB i).heap.size := by omega
    have e0 : ((xMs s cA cB i).pushCell (xMi cB)).heap.size = s.heap.size + 1 + i + 1 := by simp [a1]
    have h1 : (xMs s cA cB (i + 1)).heap.size = s.heap.size + 1 + i + 1 := by rw [xMs, size_setCell, e0]
    refine ⟨h1, ?_, fun j hj => ?_, fun q hq => ?_, ?_, ?_⟩
    · rw [xMs]
      exact heapAt_setCell_self _ (show s.heap.size < ((xMs s cA cB i).pushCell (xMi cB)).heap.size by omega)
    · rw [xMs, heapAt_setCell_ne _ (show s.heap.size ≠ s.heap.size + 1 + j by omega)]
      by_cases e : j < i
      · rw [State.heap_pushCell_of_lt _ _ (show s.heap.size + 1 + j < (xMs s cA cB i).heap.size by omega)]
        exact a3 j e
      · have e : j = i := by omega
        subst e
        rw [← a1]
        exact State.heap_pushCell_size _ _
    · rw [xMs, heapAt_setCell_ne _ (show s.heap.size ≠ q by omega), State.heap_pushCell_of_lt _ _ (show q < (xMs s cA cB i).heap.size by omega)]
      exact a4 q hq
    · exact a5
    · show ((xMs s cA cB i).pushCell (xMi cB)).slotsUsed = _
      have : (xMi cB).slots.size = 4 := arrV_size _ _ _
      simp [this, a6]
      omega
theorem xMs_top (s : State) (f : JFrame) (cA cB : ClassId) : ∀ i, xMs (s.setTop f) cA cB i = (xMs s cA cB i).setTop f
  | 0 => rfl
  | i + 1 => by
    show ((xMs (s.setTop f) cA cB i).pushCell (xMi cB)).setCell s.heap.size _ = (((xMs s cA cB i).pushCell (xMi cB)).setCell s.heap.size _).setTop f
    rw [xMs_top s f cA cB i]
    rfl
section
variable {p : Program} {l : Launch} {e : Env} {R : Room} {s : State} {m : MethodId} {args : Array Value} {below : List Frame} {meth : Method} {c : Code}
theorem xMs_stand {T : State} {locs : List Loc} {cells slots : Nat} (X : Stand p l e R s m args below meth c T locs cells slots) (cA cB : ClassId) : ∀ i, Stand p l e R s m args below meth c (xMs T cA cB i) (locs ++ xMl T.heap.size i) (cells + 1 + i) (slots + 4 + 4 * i)
  | 0 => by
    have h := X.pushed (xMo cA T.heap.size 0)
    rw [show (xMo cA T.heap.size 0).slots.size = 4 from arrV_size _ _ _] at h
    simpa [xMs, xMl] using h
  | i + 1 => by
    have Xi := xMs_stand X cA cB i
    obtain ⟨a1, a2, -⟩ := xMs_is T cA cB i
    have h := (Xi.pushed (xMi cB)).stored (a := T.heap.size) (cell := xMo cA T.heap.size i) (by rw [State.heap_pushCell_of_lt _ _ (show T.heap.size < (xMs T cA cB i).heap.size by omega)]; exact a2) i (.ref (T.heap.size + 1 + i))
    rw [show (xMi cB).slots.size = 4 from arrV_size _ _ _, xMo_put] at h
    rw [show slots + 4 + 4 * (i + 1) = slots + 4 + 4 * i + 4 by omega, xMl, ← List.append_assoc]
    exact h
theorem wp_four {E : CtlPost} {d : Bool} {acts : List Action} {u : State} {cA cB cC : ClassId} {kA kB : Class} (hA : u.vm.classes[cA]? = some kA) (hAk : kA.kind = .array cB (.array .int)) (hB : u.vm.classes[cB]? = some kB) (hBk : kB.kind = .array cC .int) (hl : ¬ 4 > e.platform.arrayLengthLimit) (hh : ¬ 4 * 4 > e.platform.maxHeapBytes)
    (hc : u.heap.size + 5 ≤ e.platform.maxCells) (hs : u.slotsUsed + 20 ≤ e.platform.maxSlots) {Q : Addr → Pre} (hq : ∀ d' acts', Q u.heap.size d' acts' (xMs u cA cB 4)) : wp (Op.multianewarray.make cA [4, 4]) Q E e d acts u := by
  have t4 : (4 : Int32).toNatClampNeg = 4 := rfl
  have n4 : ¬ (4 : Int32) < 0 := by decide
  have row : ∀ (d : Bool) (acts : List Action) (v : State) (Q : Addr → Pre), v.vm = u.vm → v.heap.size < e.platform.maxCells → v.slotsUsed + 4 ≤ e.platform.maxSlots → (∀ acts', Q v.heap.size d acts' (v.pushCell (xMi cB))) → wp (Op.multianewarray.make cB [4]) Q E e d acts v := by
    intro d acts v Q hv h1 h2 h3
    rw [Op.multianewarray.make]
    simp only [wp_bind', W.ite, n4, if_false, wp_pure', W.theClass, hv, hB, hBk, Option.some.injEq, exists_eq_left', t4]
    refine W.newArray_of (k := kB) (comp := cC) (type := .int) (by rw [hv]; exact hB) hBk hl hh h1 h2 rfl (fun acts' => ?_)
    have := h3 acts'
    rw [xMi, ← arrV_new] at this
    exact this
  rw [Op.multianewarray.make]
  simp only [wp_bind', W.ite, n4, if_false, wp_pure', W.theClass, hA, hAk, Option.some.injEq, exists_eq_left', t4]
  refine W.newArray_of (k := kA) (comp := cB) (type := .array .int) hA hAk hl hh (by omega) (by omega) rfl (fun acts1 => ?_)
  rw [show ([4] : List Int32).find? (· < 0) = none from rfl]
  simp only [ite_self, wp_bind', wp_pure']
  rw [Std.Legacy.Range.forIn_eq_forIn_range']
  refine wp_forIn_inv (fun rest v => ∃ i, i + rest.length = 4 ∧ (∀ x r, rest = x :: r → x = i) ∧ rest = List.range' i (4 - i) ∧ v = xMs u cA cB i) _ _ ⟨0, rfl, fun x r h => ?_, rfl, ?_⟩ ?_ ?_
  · cases h; rfl
  · show _ = u.pushCell _
    rw [arrV_new]
    congr 1
  · rintro x rest v d' acts' Q' ⟨i, h1, h2, h3, rfl⟩ hn
    obtain rfl := h2 x rest rfl
    obtain ⟨a1, a2, a3, a4, a5, a6⟩ := xMs_is u cA cB x
    have hx : x < 4 := by
      have : (x :: rest).length = rest.length + 1 := rfl
      omega
    simp only [wp_bind']
    refine row _ _ _ _ a5 (by omega) (by omega) (fun acts2 => ?_)
    simp only [wp_bind', W.writeLoc, wp_pure']
    refine ⟨xMo cA u.heap.size x, by rw [State.heap_pushCell_of_lt _ _ (show u.heap.size < (xMs u cA cB x).heap.size by omega)]; exact a2, (fun q => by cases q), by rw [show (xMo cA u.heap.size x).slots.size = 4 from arrV_size _ _ _]; exact hx, ?_, ?_⟩
    · simp [State.fitsSlot, State.slotType?, xMo, arrV, a5, hA, hAk, fits]
    · refine hn _ _ _ ⟨x + 1, ?_, ?_, ?_, ?_⟩
      · have : (x :: rest).length = rest.length + 1 := rfl
        omega
      · intro y r h
        rw [show 4 - x = (4 - (x + 1)) + 1 by omega, List.range'_succ] at h3
        have h3 := (List.cons.inj h3).2
        rw [h] at h3
        have e9 : (y :: r).head? = (List.range' (x + 1) (4 - (x + 1))).head? := by rw [h3]
        by_cases q : x = 3
        · subst q; simp at h3
        · rw [show 4 - (x + 1) = (4 - (x + 2)) + 1 by omega, List.range'_succ] at h3
          exact (List.cons.inj h3).1
      · rw [show 4 - x = (4 - (x + 1)) + 1 by omega, List.range'_succ] at h3
        exact (List.cons.inj h3).2
      · rw [a1, xMo_put]
        rfl
  · rintro v d' acts' ⟨i, h1, h2, h3, rfl⟩
    have : i = 4 := by simpa using h1
    subst this
    exact hq _ _
end
