/-! THE TEXT: one item -/
def onI (M M' : xm) (r : Nat) : Prop := (∀ a, a ≠ 3 → (a < r ∨ r + 8 < a) → M'.1 a = M.1 a) ∧ M'.2 = M.2
theorem onI.rf {M : xm} {r : Nat} : onI M M r := ⟨fun _ _ _ => rfl, rfl⟩
theorem onI.tr {M M' M'' : xm} {r : Nat} (h : onI M M' r) (h2 : onI M' M'' r) : onI M M'' r := ⟨fun a q1 q2 => (h2.1 a q1 q2).trans (h.1 a q1 q2), h2.2.trans h.2⟩
theorem onI.of {M M' : xm} {r : Nat} (h : onR M M' r) : onI M M' r := ⟨fun a _ q => h.1 a q, h.2⟩
theorem onI.up3 {M : xm} {r j : Nat} {v : Int32} : onI M (up M 3 j v) r := ⟨fun a q _ => up_ne q, rfl⟩
def onJ (N N' : xm) : Prop := ∀ a j, ¬ (a = 60 ∧ j = 2) → a ≠ 72 → ¬ (a = 63 ∧ j = 1) → ¬ (a = 65 ∧ j = 1) → ¬ (a = 62 ∧ 2 ≤ j) → ¬ (a = 64 ∧ 18 ≤ j) → ¬ (a = 66 ∧ 24 ≤ j) → N'.1 a j = N.1 a j
theorem onJ.rf {N : xm} : onJ N N := fun _ _ _ _ _ _ _ _ _ => rfl
theorem onJ.tr {N N' N'' : xm} (h : onJ N N') (h2 : onJ N' N'') : onJ N N'' := fun a j q1 q2 q3 q4 q5 q6 q7 => (h2 a j q1 q2 q3 q4 q5 q6 q7).trans (h a j q1 q2 q3 q4 q5 q6 q7)
theorem onJ.of {N N' : xm} (h : onD N N') : onJ N N' := fun a j _ _ q3 q4 q5 q6 q7 => h a j q3 q4 q5 q6 q7
theorem onJ.ofP {N N' : xm} (h : onP N N') : onJ N N' := fun a j q1 _ _ _ _ _ _ => h a j (by omega)
theorem onJ.up72 {N : xm} {j : Nat} {v : Int32} : onJ N (up N 72 j v) := fun a i _ q _ _ _ _ _ => by rw [up_ne q]
def isC (c : Int32) (w : Nat) : Prop := ((c = 112 ∨ c = 109) ∧ w = 3) ∨ ((c = 113 ∨ c = 98) ∧ w = 1)
section
variable {M N : xm} {D : tR} {r : Nat}
theorem add_good {c : Int32} {w : Nat} {V : Nat → Nat} (hc : isC c w) (h : rdX M r D) (hD : okR D) (hN : DM N D) (hV : ∀ j, j < w → M.1 3 j = nI (V j) ∧ N.1 72 j = nI (V j) ∧ V j < 100) : ∃ M' N', onI M M' r ∧ onD N N' ∧ ((∃ D', fX3_addItem r c M = some (1, M') ∧ fX6_isGood c N = some (1, N') ∧ rdX M' r D' ∧ okR D' ∧ DM N' D') ∨ (fX3_addItem r c M = some (0, M') ∧ fX6_isGood c N = some (0, N'))) := by
  have k2 : (2 : Int32).toNatClampNeg = 2 := rfl
  rcases hc with ⟨rfl | rfl, rfl⟩ | ⟨rfl | rfl, rfl⟩
  · obtain ⟨a1, a2, a3⟩ := hV 0 (by omega)
    obtain ⟨b1, b2, b3⟩ := hV 1 (by omega)
    obtain ⟨c1', c2', c3'⟩ := hV 2 (by omega)
    obtain ⟨g1, g2⟩ := M_good_p hN hD a3 b3 c3' a2 b2 c2'
    have e : fX3_addItem r 112 M = (fX1_addParish r (nI (V 0)) (nI (V 1)) (nI (V 2)) M).bind (fun q => xbo q.1 (some (q.1, q.2))) := by
      unfold fX3_addItem
      rw [if_neg (by decide), if_neg (by decide), if_pos rfl, xc0 (by omega) (by omega), xc1 (by omega) (by omega), show (2 : Int32) = nI 2 from rfl, xchk_e (by omega) (by omega), cl_e (by omega), c0, c1, a1, b1, c1']
    rw [e]
    by_cases q : (1 ≤ V 0 ∧ V 0 ≤ 30) ∧ (0 ≤ V 1 ∧ V 1 ≤ 1) ∧ (0 ≤ V 2 ∧ V 2 ≤ 40) ∧ np D < 6
    · obtain ⟨M1, d1, d2, d3⟩ := X_addP h hD q.2.2.2 q.1.1 q.1.2 q.2.1.2 q.2.2.1.2
      obtain ⟨N1, f1, f2, f3⟩ := g1 q
      rw [d1, bind_e, xbo_1]
      exact ⟨M1, N1, onI.of d3, f3, Or.inl ⟨_, rfl, f1, d2, addP_ok hD q.2.2.2 q.1.1 q.1.2 q.2.1.2 q.2.2.1.2, f2⟩⟩
    · obtain ⟨N1, f1, f2⟩ := g2 q
      rw [X_addP_no h hD a3 b3 c3' (by omega), bind_e, xbo_0]
      exact ⟨M, N1, onI.rf, f2, Or.inr ⟨rfl, f1⟩⟩
  · obtain ⟨a1, a2, a3⟩ := hV 0 (by omega)
    obtain ⟨b1, b2, b3⟩ := hV 1 (by omega)
    obtain ⟨c1', c2', c3'⟩ := hV 2 (by omega)
    obtain ⟨g1, g2⟩ := M_good_m hN hD a3 b3 c3' a2 b2 c2'
    have e : fX3_addItem r 109 M = (fX1_addMember r (nI (V 0)) (nI (V 1)) (nI (V 2)) M).bind (fun q => xbo q.1 (some (q.1, q.2))) := by
      unfold fX3_addItem
      rw [if_neg (by decide), if_pos rfl, xc0 (by omega) (by omega), xc1 (by omega) (by omega), show (2 : Int32) = nI 2 from rfl, xchk_e (by omega) (by omega), cl_e (by omega), c0, c1, a1, b1, c1']
    rw [e]
    by_cases q : (0 ≤ V 0 ∧ V 0 ≤ 5) ∧ (1 ≤ V 1 ∧ V 1 ≤ 9) ∧ (0 ≤ V 2 ∧ V 2 ≤ 15) ∧ nm D < 8
    · obtain ⟨M1, d1, d2, d3⟩ := X_addM h hD q.2.2.2 q.1.2 q.2.1.1 q.2.1.2 q.2.2.1.2
      obtain ⟨N1, f1, f2, f3⟩ := g1 q
      rw [d1, bind_e, xbo_1]
      exact ⟨M1, N1, onI.of d3, f3, Or.inl ⟨_, rfl, f1, d2, addM_ok hD q.2.2.2 q.1.2 q.2.1.1 q.2.1.2 q.2.2.1.2, f2⟩⟩
    · obtain ⟨N1, f1, f2⟩ := g2 q
      rw [X_addM_no h hD a3 b3 c3' (by omega), bind_e, xbo_0]
      exact ⟨M, N1, onI.rf, f2, Or.inr ⟨rfl, f1⟩⟩
  · obtain ⟨a1, a2, a3⟩ := hV 0 (by omega)
    obtain ⟨N1, f1, f2, f3⟩ := M_good_q hN a3 a2
    have e : fX3_addItem r 113 M = (fX1_setQuorum r (nI (V 0)) M).bind (fun q => xbo q.1 (some (q.1, q.2))) := by
      unfold fX3_addItem
      rw [if_neg (by decide), if_neg (by decide), if_neg (by decide), if_pos rfl, xc0 (by omega) (by omega), c0, a1]
    rw [e, X_setQ a3, f1]
    by_cases q : 1 ≤ V 0 ∧ V 0 ≤ 8
    · obtain ⟨d1, d2, d3⟩ := h.Q q hD
      rw [if_pos q, if_pos q, bind_e, xbo_1]
      exact ⟨_, N1, onI.of d3, f3, Or.inl ⟨_, rfl, rfl, d1, d2, f2⟩⟩
    · rw [if_neg q, if_neg q, bind_e, xbo_0]
      exact ⟨M, N1, onI.rf, f3, Or.inr ⟨rfl, rfl⟩⟩
  · obtain ⟨a1, a2, a3⟩ := hV 0 (by omega)
    obtain ⟨N1, f1, f2, f3⟩ := M_good_b hN a3 a2
    have e : fX3_addItem r 98 M = (fX1_setBills r (nI (V 0)) M).bind (fun q => xbo q.1 (some (q.1, q.2))) := by
      unfold fX3_addItem
      rw [if_pos rfl, xc0 (by omega) (by omega), c0, a1]
    rw [e, X_setB a3, f1]
    by_cases q : 1 ≤ V 0 ∧ V 0 ≤ 4
    · obtain ⟨d1, d2, d3⟩ := h.B q hD
      rw [if_pos q, if_pos q, bind_e, xbo_1]
      exact ⟨_, N1, onI.of d3, f3, Or.inl ⟨_, rfl, rfl, d1, d2, f2⟩⟩
    · rw [if_neg q, if_neg q, bind_e, xbo_0]
      exact ⟨M, N1, onI.rf, f3, Or.inr ⟨rfl, rfl⟩⟩
end
