/-! THE TEXT: an item -/
section
variable {M N : xm} {D : tR} {r : Nat} {T : Nat → Int32} {tl : Nat}
theorem nI_nneg {α : Sort _} {a : Nat} {x y : α} (h : a < 1000) : (if nI a < 0 then x else y) = y := if_neg (by rw [Int32.lt_iff_toInt_lt, nI_toInt (by omega)]; show ¬ _ < (0 : Int); omega)
def onQ (N N' : xm) : Prop := ∀ a j, ¬ (a = 60 ∧ j = 2) → a ≠ 72 → N'.1 a j = N.1 a j
theorem onQ.tr {N N' N'' : xm} (h : onQ N N') (h2 : onQ N' N'') : onQ N N'' := fun a j q1 q2 => (h2 a j q1 q2).trans (h a j q1 q2)
theorem onQ.ofP {N N' : xm} (h : onP N N') : onQ N N' := fun a j q1 _ => h a j (by omega)
theorem onQ.up72 {N : xm} {j : Nat} {v : Int32} : onQ N (up N 72 j v) := fun a i _ q => by rw [up_ne q]
theorem onQ.J {N N' : xm} (h : onQ N N') : onJ N N' := fun a j q1 q2 _ _ _ _ _ => h a j q1 q2
theorem M_128 {c : Int32} {w k d Q n : Nat} (hk : k < 3) (h : NS N T tl (Q - d)) (hd : d ≤ Q) (hQ : Q < 700) : ∃ N', onQ N N' ∧ (∀ j, j ≠ k → N'.1 72 j = N.1 72 j) ∧ ((isDB T tl Q = true ∧ isDB T tl (nE T tl Q) = false ∧ N'.1 72 k = nI (nN T tl Q) ∧ NS N' T tl (nE T tl Q) ∧ fX6_isItem_128 (fun z0 z1 z2 => fX6_isItem_67 c (nI w) n z0 z1 z2) c (nI w) 1 (nI k) (nI (Q - d)) (nI d) N = fX6_isItem_67 c (nI w) n 1 (nI (k + 1)) N') ∨ (¬ (isDB T tl Q = true ∧ isDB T tl (nE T tl Q) = false) ∧ fX6_isItem_128 (fun z0 z1 z2 => fX6_isItem_67 c (nI w) n z0 z1 z2) c (nI w) 1 (nI k) (nI (Q - d)) (nI d) N = fX6_isItem_67 c (nI w) n 0 (nI (k + 1)) N')) := by
  have h1 : NS (up N 60 2 (nI Q)) T tl Q := h.at
  obtain ⟨N1, a1, a2⟩ := M_number h1 (by omega)
  have m1 : (-1 : Int32) < 0 := by decide
  have o1 : onQ N N1 := (onQ.ofP onP.up).tr (onQ.ofP a1)
  have o72 : ∀ j, N1.1 72 j = N.1 72 j := fun j => by rw [a1 72 j (by omega), up_ne (by omega)]
  unfold fX6_isItem_128 fX6_isItem_150 fX6_isItem_166
  rw [add_e, show Q - d + d = Q by omega, xl_e, if_neg (show ¬ (1 : Int32) = 0 by decide)]
  have hn : ∀ v : Int32, onQ N (up N1 72 k v) ∧ ∀ j, j ≠ k → (up N1 72 k v).1 72 j = N.1 72 j := fun v => ⟨o1.tr onQ.up72, fun j hj => by rw [up_at, if_neg (fun q => hj q.2), o72]⟩
  rcases a2 with ⟨q, e⟩ | ⟨q1, q2, e⟩ | ⟨q1, q2, e, e2⟩
  · rw [e, bind_e, xchk_e (by omega) (by omega), xl_e, xchk_e (by omega) (by omega), cl_e (by omega), up_at, if_pos (show 72 = 72 ∧ k = k from ⟨rfl, rfl⟩), if_pos m1, a1_e]
    exact ⟨_, (hn _).1, (hn _).2, Or.inr ⟨(fun x => by rw [q] at x; exact absurd x.1 (by decide)), rfl⟩⟩
  · rw [e, bind_e, xchk_e (by omega) (by omega), xl_e, xchk_e (by omega) (by omega), cl_e (by omega), up_at, if_pos (show 72 = 72 ∧ k = k from ⟨rfl, rfl⟩), if_pos m1, a1_e]
    exact ⟨_, (hn _).1, (hn _).2, Or.inr ⟨(fun x => by rw [q2] at x; exact absurd x.2 (by decide)), rfl⟩⟩
  · have hv := nN_lt q1
    rw [e, bind_e, xchk_e (by omega) (by omega), xl_e, xchk_e (by omega) (by omega), cl_e (by omega), up_at, if_pos (show 72 = 72 ∧ k = k from ⟨rfl, rfl⟩), nI_nneg (by omega), a1_e]
    refine ⟨_, (hn (nI (nN T tl Q))).1, (hn _).2, Or.inl ⟨q1, q2, by rw [up_at, if_pos ⟨rfl, rfl⟩], ?_, rfl⟩⟩
    have := h1.on a1 e2
    exact ⟨this.1, by rw [up_ne (by omega)]; exact this.2.1, fun i hi => by rw [up_ne (by omega)]; exact this.2.2.1 i hi, by rw [up_ne (by omega)]; exact this.2.2.2⟩
end
