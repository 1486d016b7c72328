/-! CONSTRUCTORS: the row of multianewarray in a world -/
section
variable {p : Program} {l : Launch} {e : Env} {R : Room} {s : State} {m : MethodId} {args : Array Value} {below : List Frame} {meth : Method} {c : Code} {cc : ByteArray} {nL : Nat} {own : String} {D : va_G} {cs : Nat → ClassId} {A : Nat → Prop} {H : Heap} {locs : List Loc} {cells slots : Nat} {Q : State → Prop} {ls : Array Slot} {lv : List (Nat × Value)} {ws : va_W} {pc : Nat} {rest : List Value}
theorem arrV_cong {cA : ClassId} {n : Nat} {f g : Nat → Value} (h : ∀ j, j < n → f j = g j) : arrV cA n f = arrV cA n g := by
  unfold arrV
  congr 1
  apply Array.ext
  · simp
  · intro j h1 h2
    simp
    exact h j (by simpa using h1)
theorem va_S.puts {A : Nat → Prop} {H0 H H1 : Heap} {locs locs2 : List Loc} (h : va_S A H0 H locs) (z : H.size ≤ H1.size) (oq : ∀ q : Nat, q < H.size → H1[q]? = H[q]?) (hl : ∀ q ∈ locs2, A q.base) : va_S A H0 H1 (locs ++ locs2) := by
  refine ⟨Nat.le_trans h.1 z, fun q h1 h2 => (oq q (Nat.lt_of_lt_of_le h1 h.1)).trans (h.2.1 q h1 h2), fun q hq => ?_⟩
  rcases List.mem_append.mp hq with g | g
  · exact h.2.2 q g
  · exact hl q g
theorem xi_multi (Z : IX p s m args meth c cc nL own D cs) (hP : va_P D classes ws H) (hD : va_D A ws) (hS : va_S A s.heap H locs) (hA : ∀ q, s.heap.size ≤ q → A q) {index : Nat} (hlink : Cond.classLink own index "[[I" ∈ xbig) (hc : cells + 5 ≤ R.cells ∧ slots + 20 ≤ R.slots) (hdg : decode cc pc = .ok (.multianewarray index 2, 4))
    (kk : ∀ (q : Nat) (H1 : Heap) (locs1 : List Loc), va_P D classes (ws ++ [(q, .inl (cs 2, 4, .inr (.inr (.inr (.inr (fun j => some (q + 1 + j))))))), (q + 1, .inl (cs 0, 4, .inl (fun _ => 0))), (q + 2, .inl (cs 0, 4, .inl (fun _ => 0))), (q + 3, .inl (cs 0, 4, .inl (fun _ => 0))), (q + 4, .inl (cs 0, 4, .inl (fun _ => 0)))]) H1 →
      va_D A (ws ++ [(q, .inl (cs 2, 4, .inr (.inr (.inr (.inr (fun j => some (q + 1 + j))))))), (q + 1, .inl (cs 0, 4, .inl (fun _ => 0))), (q + 2, .inl (cs 0, 4, .inl (fun _ => 0))), (q + 3, .inl (cs 0, 4, .inl (fun _ => 0))), (q + 4, .inl (cs 0, 4, .inl (fun _ => 0)))]) → va_S A s.heap H1 locs1 →
      W p l e R s m args below meth c H1 locs1 (cells + 5) (slots + 20) Q (F0 m (pc + 4) ls (.ref q :: rest))) : W p l e R s m args below meth c H locs cells slots Q (F0 m pc ls (.int 4 :: .int 4 :: rest)) := by
  intro T hT X
  subst hT
  have hexec := Z.1
  have hb := Z.2.1
  have hown := Z.2.2.2.1
  have hpl : e.platform.magicAccessors = ({} : Platform).magicAccessors := by rw [X.admits.platform]
  have ess : "[" ++ (FieldType.array FieldType.int).toString = "[[I" := by decide
  obtain ⟨comp, cA, kA, hcomp, hkA, hkindA, hnameA⟩ := Z.2.2.2.2.1.2.2.2
  obtain ⟨r1, r2⟩ := cs_rows Z.2.2.2.2.1.1
  obtain ⟨comp2, kC, cC, hcomp2, hkC, hkindC⟩ := Cond.arrayClass_spec (Z.2.2.2.2.1.2.1.1.use args)
  obtain rfl : comp2 = comp := Option.some.inj (hcomp2.symm.trans hcomp)
  obtain rfl : comp2 = cs 0 := Option.some.inj (hcomp.symm.trans r1)
  obtain rfl : cA = cs 2 := Option.some.inj (hnameA.symm.trans r2)
  obtain ⟨c0, hfc0, hcl⟩ := Cond.classLink_spec hown (Z.hts _ hlink) e.platform hpl
  rw [ess] at hnameA
  obtain rfl : cs 2 = c0 := Option.some.inj (hnameA.symm.trans hfc0)
  obtain ⟨hg₁, hwarm₁, hready₁⟩ := State.classEntry (e := e) X.warmed hcl
  generalize T.vm.noted m.cls index (.cls (cs 2)) = vm₁ at hg₁ hwarm₁ hready₁
  have hal : s.vm.Alike vm₁ := hwarm₁.alike
  obtain ⟨kA₁, hkA₁, heA⟩ := hal.2.2 _ _ hkA
  obtain ⟨kC₁, hkC₁, heC⟩ := hal.2.2 _ _ hkC
  have hkindA₁ : kA₁.kind = .array (cs 0) (.array .int) := by rw [heA]; exact hkindA
  have hkindC₁ : kC₁.kind = .array cC .int := by rw [heC]; exact hkindC
  obtain ⟨hr1, hr2⟩ := X.roomAbove hc.1 hc.2
  have XF := xMs_stand (X.noted hwarm₁) (cs 2) (cs 0) 4
  obtain ⟨f1, f2, f3, f4, f5, f6⟩ := xMs_is (T.setVm vm₁) (cs 2) (cs 0) 4
  have hsz : (T.setVm vm₁).heap = T.heap := rfl
  rw [hsz] at f1 f2 f3 f4
  have hl1 : ¬ 4 > e.platform.arrayLengthLimit := by rw [Launch.admits_arrayLengthLimit X.admits]; omega
  have hh1 : ¬ 4 * 4 > e.platform.maxHeapBytes := by rw [Launch.admits_maxHeapBytes X.admits]; omega
  have hk : ∀ (k : Nat) (x : Nat × va_E), ws[k]? = some x → (xMs (T.setVm vm₁) (cs 2) (cs 0) 4).heap[x.1]? = T.heap[x.1]? := fun k x hx => f4 x.1 ((hP k x hx).lt)
  have row : ∀ j, j < 4 → va_at D classes (T.heap.size + 1 + j, .inl (cs 0, 4, .inl (fun _ => 0))) (xMs (T.setVm vm₁) (cs 2) (cs 0) 4).heap := fun j hj => f3 j hj
  have outer : va_at D classes (T.heap.size, .inl (cs 2, 4, .inr (.inr (.inr (.inr (fun j => some (T.heap.size + 1 + j))))))) (xMs (T.setVm vm₁) (cs 2) (cs 0) 4).heap := by
    show _ = some _
    rw [f2]
    congr 1
  obtain ⟨t', a1, b1⟩ := kk T.heap.size (xMs (T.setVm vm₁) (cs 2) (cs 0) 4).heap (locs ++ xMl T.heap.size 4) ((hP.kept hk).app (fun k x hx => by
      match k, hx with
      | 0, hx => cases hx; exact outer
      | 1, hx => cases hx; exact row 0 (by decide)
      | 2, hx => cases hx; exact row 1 (by decide)
      | 3, hx => cases hx; exact row 2 (by decide)
      | 4, hx => cases hx; exact row 3 (by decide)))
    (hD.app ⟨fun i j x y hx hy hxy => by
        have : ∀ (i : Nat) (x : Nat × va_E), ([(T.heap.size, Sum.inl (cs 2, 4, .inr (.inr (.inr (.inr (fun j => some (T.heap.size + 1 + j))))))), (T.heap.size + 1, .inl (cs 0, 4, .inl (fun _ => 0))), (T.heap.size + 2, .inl (cs 0, 4, .inl (fun _ => 0))), (T.heap.size + 3, .inl (cs 0, 4, .inl (fun _ => 0))), (T.heap.size + 4, .inl (cs 0, 4, .inl (fun _ => 0)))] : va_W)[i]? = some x → x.1 = T.heap.size + i := by
          intro i x hx
          match i, hx with
          | 0, hx => cases hx; rfl
          | 1, hx => cases hx; rfl
          | 2, hx => cases hx; rfl
          | 3, hx => cases hx; rfl
          | 4, hx => cases hx; rfl
        have h1 := this i x hx
        have h2 := this j y hy
        omega, fun k x hx => by
        have : T.heap.size ≤ x.1 := by
          match k, hx with
          | 0, hx => cases hx; exact Nat.le_refl _
          | 1, hx => cases hx; exact Nat.le_add_right _ 1
          | 2, hx => cases hx; exact Nat.le_add_right _ 2
          | 3, hx => cases hx; exact Nat.le_add_right _ 3
          | 4, hx => cases hx; exact Nat.le_add_right _ 4
        exact hA _ (Nat.le_trans hS.1 this)⟩ (fun i j x y hx hy hxy => by
        have h1 := (hP i x hx).lt
        have : T.heap.size ≤ y.1 := by
          match j, hy with
          | 0, hx => cases hx; exact Nat.le_refl _
          | 1, hx => cases hx; exact Nat.le_add_right _ 1
          | 2, hx => cases hx; exact Nat.le_add_right _ 2
          | 3, hx => cases hx; exact Nat.le_add_right _ 3
          | 4, hx => cases hx; exact Nat.le_add_right _ 4
        omega))
    (hS.puts (by rw [f1]; omega) f4 (fun q hq => by rw [xMl_base _ _ q hq]; exact hA _ hS.1)) (xMs (T.setVm vm₁) (cs 2) (cs 0) 4) rfl XF
  refine ⟨t', ?_, b1⟩
  have hdg2 : decode c.code pc = .ok (.multianewarray index 2, 4) := by rw [hb]; exact hdg
  jvm_step X.here [hexec, hdg2]
  simp only [Op.multianewarray.sem, wp_bind', W.resolveClassAt_links (State.method?_setTop (F0 m pc ls (.int 4 :: .int 4 :: rest)) X.here.top) hg₁]
  rw [W.popN, if_neg (by decide)]
  refine ⟨F0 m pc ls (.int 4 :: .int 4 :: rest), State.topJava?_setTop' (s := T.setVm vm₁) _ X.here.top, [.int 4, .int 4], rest, rfl, rfl, ?_⟩
  simp only [List.mapM_cons, List.mapM_nil, wp_bind', wp_pure']
  refine wp_four (kA := kA₁) (kB := kC₁) (cB := cs 0) (cC := cC) hkA₁ hkindA₁ hkC₁ hkindC₁ hl1 hh1 (by show T.heap.size + 5 ≤ _; omega) (by show T.slotsUsed + 20 ≤ _; omega) (fun d' acts' => ?_)
  have e1 : xMs (((T.setTop (F0 m pc ls (.int 4 :: .int 4 :: rest))).setVm vm₁).setTop (F0 m pc ls rest)) (cs 2) (cs 0) 4 = (xMs (T.setVm vm₁) (cs 2) (cs 0) 4).setTop (F0 m pc ls rest) := by
    rw [xMs_top, show (T.setTop (F0 m pc ls (.int 4 :: .int 4 :: rest))).setVm vm₁ = (T.setVm vm₁).setTop (F0 m pc ls (.int 4 :: .int 4 :: rest)) from rfl, xMs_top, State.setTop_setTop]
  rw [e1]
  simp only [wp_bind', W.mark, W.pushRef, State.topJava?_setTop' _ XF.here.top, Option.some.injEq, exists_eq_left', State.setTop_setTop, State.heap_setTop]
  intro acts
  simp [jvm, XF.here.top]
  exact a1
end
