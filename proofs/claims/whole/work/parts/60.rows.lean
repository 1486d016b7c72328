/-! CONSTRUCTORS: rows for the class's own -/
theorem vP_sw {D : va_G} {cl : List vw_C} {w1 w2 : va_W} {x : Nat × va_E} {H : Heap} (h : va_P D cl (w1 ++ w2 ++ [x]) H) : va_P D cl (w1 ++ (x :: w2)) H := va_P.app (vP_l (vP_l h)) (va_P.app (w1 := [x]) (vP_r h) (vP_r (vP_l h)))
theorem vD_sw {A : Nat → Prop} {w1 w2 : va_W} {x : Nat × va_E} (h : va_D A (w1 ++ w2 ++ [x])) : va_D A (w1 ++ (x :: w2)) := by
  have hx := vD_x h
  have t : ∀ {k : Nat} {q : Nat × va_E}, w1[k]? = some q → (w1 ++ w2)[k]? = some q := fun {k q} hk => by rw [List.getElem?_append_left (List.getElem?_eq_some_iff.mp hk).1]; exact hk
  have t2 : ∀ {k : Nat} {q : Nat × va_E}, w2[k]? = some q → (w1 ++ w2)[w1.length + k]? = some q := fun {k q} hk => by rw [List.getElem?_append_right (by omega), Nat.add_sub_cancel_left]; exact hk
  refine va_D.app (vD_l (vD_l h)) (va_D.app (w1 := [x]) (vD_r h) (vD_r (vD_l h)) (fun i j p q h1 h2 e => hx _ i q p (t2 h2) h1 e.symm)) (fun i j p q h1 h2 e => ?_)
  cases j with
  | zero => exact hx i 0 p q (t h1) h2 e
  | succ j => exact vD_x (vD_l h) i j p q h1 h2 e
theorem vP_sx {D : va_G} {cl : List vw_C} {w1 a b : va_W} {H : Heap} (h : va_P D cl (w1 ++ (a ++ b)) H) : va_P D cl ((w1 ++ b) ++ a) H := va_P.app (va_P.app (vP_l h) (vP_r (vP_r h))) (vP_l (vP_r h))
theorem vD_sx {A : Nat → Prop} {w1 a b : va_W} (h : va_D A (w1 ++ (a ++ b))) : va_D A ((w1 ++ b) ++ a) := by
  have hx := vD_x h
  have hy := vD_x (vD_r h)
  have ta : ∀ {k : Nat} {q : Nat × va_E}, a[k]? = some q → (a ++ b)[k]? = some q := fun {k q} hk => by rw [List.getElem?_append_left (List.getElem?_eq_some_iff.mp hk).1]; exact hk
  have tb : ∀ {k : Nat} {q : Nat × va_E}, b[k]? = some q → (a ++ b)[a.length + k]? = some q := fun {k q} hk => by rw [List.getElem?_append_right (by omega), Nat.add_sub_cancel_left]; exact hk
  refine va_D.app (va_D.app (vD_l h) (vD_r (vD_r h)) (fun i j p q h1 h2 e => hx i _ p q h1 (tb h2) e)) (vD_l (vD_r h)) (fun i j p q h1 h2 e => ?_)
  rcases Nat.lt_or_ge i w1.length with c | c
  · rw [List.getElem?_append_left c] at h1
    exact hx i _ p q h1 (ta h2) e
  · rw [List.getElem?_append_right c] at h1
    exact hy j _ q p h2 h1 e.symm
section
variable {p : Program} {l : Launch} {e : Env} {R : Room} {s : State} {m : MethodId} {args : Array Value} {below : List Frame} {meth : Method} {c : Code} {cc : ByteArray} {nL : Nat} {own : String} {D : va_G} {cs : Nat → ClassId} {A : Nat → Prop} {H : Heap} {locs : List Loc} {cells slots : Nat} {Q : State → Prop} {ls : Array Slot} {lv : List (Nat × Value)} {ws : va_W} {pc : Nat} {rest : List Value}
theorem xi_new (Z : IX p s m args meth c cc nL own D cs) (hP : va_P D classes ws H) (hD : va_D A ws) (hS : va_S A s.heap H locs) (hA : ∀ q, s.heap.size ≤ q → A q) {C : String} {T : u_T} {N ci index : Nat} {fs : List Value} {ty0 : Nat → FieldType} (hin : ∀ w ∈ u_ws C T N, w ∈ xbig) (hty : ∀ k, k < N → parseFieldDescriptor (T k).2.2.1 = some (ty0 k)) (hcl : Cond.classLink own index C ∈ xbig) (hinst : Cond.instantiable C N ∈ xbig) (hini : Cond.initialized C ∈ xbig) (hc : classes[ci]? = some (C, T, N)) (hfs : ∀ j, j < N → defaultValue (ty0 j) = vp_V fs j) (hcs : cells + 1 ≤ R.cells ∧ slots + N ≤ R.slots) (hdg : decode cc pc = .ok (.new index, 3))
    (kk : ∀ (q : Nat) (H1 : Heap), va_P D classes (ws ++ [(q, .inr (ci, fs))]) H1 → va_D A (ws ++ [(q, .inr (ci, fs))]) → va_S A s.heap H1 locs → W p l e R s m args below meth c H1 locs (cells + 1) (slots + N) Q (F0 m (pc + 3) ls (.ref q :: rest))) : W p l e R s m args below meth c H locs cells slots Q (F0 m pc ls rest) :=
  va_new Z.1 Z.2.1 Z.hts hin ty0 hty Z.2.2.2.1 (Z.hts _ hcl) (Z.hts _ hinst) (Z.hts _ hini) Z.K hP hD hS hA hc hfs hcs.1 hcs.2 hdg kk
theorem xi_put0 (Z : IX p s m args meth c cc nL own D cs) (hP : va_P D classes ws H) (hD : va_D A ws) (hS : va_S A s.heap H locs) {T : u_T} {N ci index h0 : Nat} {v : Value} {fs : List Value} {ty0 : Nat → FieldType} (k : Nat) (he : ws[0]? = some (h0, .inr (ci, fs))) (hcl : classes[ci]? = some (own, T, N)) (hin : ∀ w ∈ u_ws own T N, w ∈ xbig) (hty : ∀ k, k < N → parseFieldDescriptor (T k).2.2.1 = some (ty0 k)) (hnm : ∀ a, a < N → ∀ b, b < N → a ≠ b → (T a).2.1 ≠ (T b).2.1) (hk : k < N) (hlink : Cond.fieldLink own index own (T k).2.1 (T k).2.2.1 ∈ xbig) (hC : (T k).1 = own) (hfin : (T k).2.2.2 = false) (hn : narrow (ty0 k) v = v) (hfit : fits (ty0 k) v = true) (hlen : k < fs.length) (hdg : decode cc pc = .ok (.putfield index, 3))
    (kk : ∀ (H1 : Heap) (locs1 : List Loc), va_P D classes (ws.set 0 (h0, .inr (ci, fs.set k v))) H1 → va_D A (ws.set 0 (h0, .inr (ci, fs.set k v))) → va_S A s.heap H1 locs1 → W p l e R s m args below meth c H1 locs1 cells slots Q (F0 m (pc + 3) ls rest)) : W p l e R s m args below meth c H locs cells slots Q (F0 m pc ls (v :: .ref h0 :: rest)) :=
  va_put Z.1 Z.2.1 Z.hts hin ty0 hty hnm Z.2.2.2.1 Z.K hP hD hS 0 he hcl k hk (Z.hts _ hlink) (fun _ h9 => by rw [hC] at h9; exact h9) hfin (hty k hk) hn hfit hlen hdg kk
theorem xi_get0 (Z : IX p s m args meth c cc nL own D cs) (hP : va_P D classes ws H) {T : u_T} {N ci index h0 : Nat} {v : Value} {fs : List Value} (k : Nat) (he : ws[0]? = some (h0, .inr (ci, fs))) (hcl : classes[ci]? = some (own, T, N)) (hin : ∀ w ∈ u_ws own T N, w ∈ xbig) (hk : k < N) (hlink : Cond.fieldLink own index own (T k).2.1 (T k).2.2.1 ∈ xbig) (hC : (T k).1 = own) (hv : fs[k]? = some v) (hdg : decode cc pc = .ok (.getfield index, 3))
    (kk : W p l e R s m args below meth c H locs cells slots Q (F0 m (pc + 3) ls (v :: rest))) : W p l e R s m args below meth c H locs cells slots Q (F0 m pc ls (.ref h0 :: rest)) :=
  va_get Z.1 Z.2.1 Z.hts hin Z.2.2.2.1 Z.K hP 0 he hcl k hk (Z.hts _ hlink) (fun _ h9 => by rw [hC] at h9; exact h9) hv hdg kk
theorem xi_newq (Z : IX p s m args meth c cc nL own D cs) (hP : va_P D classes ws H) (hD : va_D A ws) (hS : va_S A s.heap H locs) (hA : ∀ q, s.heap.size ≤ q → A q) {index : Nat} {n : Int32} {N' : Nat} (hcl : Cond.classLink own index "WalkingLaw$Walk" ∈ xbig) (hn : ¬ n < 0) (hN : n.toNatClampNeg = N') (hb : N' ≤ 5000) (hcs : cells + 1 ≤ R.cells ∧ slots + N' ≤ R.slots) (hdg : decode cc pc = .ok (.anewarray index, 3))
    (kk : ∀ (q : Nat) (H1 : Heap), va_P D classes (ws ++ [(q, .inl (cs 3, N', .inr (.inr (.inr (.inr (fun _ => none))))))]) H1 → va_D A (ws ++ [(q, .inl (cs 3, N', .inr (.inr (.inr (.inr (fun _ => none))))))]) → va_S A s.heap H1 locs → W p l e R s m args below meth c H1 locs (cells + 1) (slots + N') Q (F0 m (pc + 3) ls (.ref q :: rest))) : W p l e R s m args below meth c H locs cells slots Q (F0 m pc ls (.int n :: rest)) := by
  refine va_newq Z.1 Z.2.1 Z.2.2.2.1 (Z.hts _ hcl) Z.2.2.2.2.1.2.2.1 Z.K hP hD hS hA hn hN (by omega) hcs.1 hcs.2 hdg (fun q cA H1 hK1 hP1 hD1 hS1 => ?_)
  obtain rfl := cs_walk hK1
  exact kk q H1 hP1 hD1 hS1
theorem xi_aast (Z : IX p s m args meth c cc nL own D cs) (hP : va_P D classes ws H) (hD : va_D A ws) (hS : va_S A s.heap H locs) (q0 qk : Nat) {a n v : Nat} {vs : List Value} {f : Nat → Option Nat} (ha : ws[q0]? = some (a, .inl (cs 3, n, .inr (.inr (.inr (.inr f)))))) (hv : ws[qk]? = some (v, .inr (4, vs))) {i : Int32} (hin : vp_in i n) (hdg : decode cc pc = .ok (.aastore, 1))
    (kk : ∀ (H1 : Heap) (locs1 : List Loc), va_P D classes (ws.set q0 (a, .inl (cs 3, n, .inr (.inr (.inr (.inr (va_up f i.toNatClampNeg (some v)))))))) H1 → va_D A (ws.set q0 (a, .inl (cs 3, n, .inr (.inr (.inr (.inr (va_up f i.toNatClampNeg (some v)))))))) → va_S A s.heap H1 locs1 → W p l e R s m args below meth c H1 locs1 cells slots Q (F0 m (pc + 1) ls rest)) : W p l e R s m args below meth c H locs cells slots Q (F0 m pc ls (.ref v :: .int i :: .ref a :: rest)) :=
  va_astq (r := (RX4, TX4, 6)) Z.1 Z.2.1 Z.K hP hD hS q0 3 qk 4 ha rfl hv rfl hin hdg kk
end
theorem dfX0 : ∀ j, j < 5 → defaultValue (tyX0 j) = vp_V [.null, .null, .null, .int 0, .null] j := fun j hj => by rcases (show j = 0 ∨ j = 1 ∨ j = 2 ∨ j = 3 ∨ j = 4 by omega) with rfl | rfl | rfl | rfl | rfl <;> rfl
theorem dfX1 : ∀ j, j < 13 → defaultValue (tyX1 j) = vp_V [.int 0, .null, .null, .null, .null, .int 0, .int 0, .null, .null, .null, .null, .int 0, .int 0] j := fun j hj => by rcases (show j = 0 ∨ j = 1 ∨ j = 2 ∨ j = 3 ∨ j = 4 ∨ j = 5 ∨ j = 6 ∨ j = 7 ∨ j = 8 ∨ j = 9 ∨ j = 10 ∨ j = 11 ∨ j = 12 by omega) with rfl | rfl | rfl | rfl | rfl | rfl | rfl | rfl | rfl | rfl | rfl | rfl | rfl <;> rfl
theorem dfX2 : ∀ j, j < 4 → defaultValue (tyX2 j) = vp_V [.null, .null, .null, .int 0] j := fun j hj => by rcases (show j = 0 ∨ j = 1 ∨ j = 2 ∨ j = 3 by omega) with rfl | rfl | rfl | rfl <;> rfl
theorem dfX3 : ∀ j, j < 3 → defaultValue (tyX3 j) = vp_V [.null, .null, .int 0] j := fun j hj => by rcases (show j = 0 ∨ j = 1 ∨ j = 2 by omega) with rfl | rfl | rfl <;> rfl
theorem dfX4 : ∀ j, j < 6 → defaultValue (tyX4 j) = vp_V [.null, .null, .null, .null, .null, .int 0] j := fun j hj => by rcases (show j = 0 ∨ j = 1 ∨ j = 2 ∨ j = 3 ∨ j = 4 ∨ j = 5 by omega) with rfl | rfl | rfl | rfl | rfl | rfl <;> rfl
theorem dfX5 : ∀ j, j < 9 → defaultValue (tyX5 j) = vp_V [.null, .null, .null, .null, .null, .null, .int 0, .null, .null] j := fun j hj => by rcases (show j = 0 ∨ j = 1 ∨ j = 2 ∨ j = 3 ∨ j = 4 ∨ j = 5 ∨ j = 6 ∨ j = 7 ∨ j = 8 by omega) with rfl | rfl | rfl | rfl | rfl | rfl | rfl | rfl | rfl <;> rfl
theorem dfX6 : ∀ j, j < 19 → defaultValue (tyX6 j) = vp_V [.int 0, .null, .int 0, .null, .null, .null, .null, .null, .null, .int 0, .int 0, .null, .null, .null, .null, .int 0, .null, .int 0, .int 0] j := fun j hj => by rcases (show j = 0 ∨ j = 1 ∨ j = 2 ∨ j = 3 ∨ j = 4 ∨ j = 5 ∨ j = 6 ∨ j = 7 ∨ j = 8 ∨ j = 9 ∨ j = 10 ∨ j = 11 ∨ j = 12 ∨ j = 13 ∨ j = 14 ∨ j = 15 ∨ j = 16 ∨ j = 17 ∨ j = 18 by omega) with rfl | rfl | rfl | rfl | rfl | rfl | rfl | rfl | rfl | rfl | rfl | rfl | rfl | rfl | rfl | rfl | rfl | rfl | rfl <;> rfl
