/-! THE TEXT: the loops over the numbers of an item -/
section
variable {M N : xm} {D : tR} {r : Nat} {T : Nat → Int32} {tl : Nat}
def OutI (M0 N0 : xm) (r : Nat) (T : Nat → Int32) (tl P : Nat) (a b : Option (Int32 × xm)) : Prop := ∃ M' N', onI M0 M' r ∧ onJ N0 N' ∧ ((∃ P' D', P < P' ∧ P' ≤ tl ∧ a = some (nI P', M') ∧ b = some (1, N') ∧ N'.1 60 2 = nI P' ∧ rdX M' r D' ∧ okR D' ∧ DM N' D') ∨ (a = some (-1, M') ∧ b = some (0, N')))
theorem item_end {M0 N0 : xm} {c : Int32} {w P Q : Nat} {V : Nat → Nat} (hc : isC c w) (h : rdX M r D) (hD : okR D) (hN : DM N D) (hV : ∀ j, j < w → M.1 3 j = nI (V j) ∧ N.1 72 j = nI (V j) ∧ V j < 100) (hP : P < Q) (hQ : Q ≤ tl) (ht : tl ≤ 300) (h2 : N.1 60 2 = nI (Q - 1)) (hM : onI M0 M r) (hJ : onJ N0 N) : OutI M0 N0 r T tl P (fX3_takeItem_74 r c (nI Q) M) (fX6_isItem_207 c 1 N) := by
  have hN1 : DM (up N 60 2 (nI Q)) D := by
    obtain ⟨g1, g2, g3, g4, g5, g6⟩ := hN
    exact ⟨by rw [up_ne (by omega)]; exact g1, by rw [up_ne (by omega)]; exact g2, by rw [up_ne (by omega)]; exact g3, by rw [up_ne (by omega)]; exact g4, fun p hp => by rw [up_ne (by omega)]; exact g5 p hp, fun p hp => by rw [up_ne (by omega)]; exact g6 p hp⟩
  obtain ⟨M1, N1, a1, a2, a3⟩ := add_good (M := M) (N := up N 60 2 (nI Q)) hc h hD hN1 (fun j hj => by rw [up_ne (by omega)]; exact hV j hj)
  have e2 : N1.1 60 2 = nI Q := by rw [a2 60 2 (by omega) (by omega) (by omega) (by omega) (by omega), up_at, if_pos ⟨rfl, rfl⟩]
  have em : ¬ nI Q = (-1 : Int32) := by
    intro q
    have := congrArg Int32.toInt q
    rw [nI_toInt (by omega), show (-1 : Int32).toInt = -1 from by decide] at this
    omega
  unfold fX3_takeItem_74 fX6_isItem_207 fX6_isItem_234 fX6_isItem_235 fX3_takeItem_94 fX3_takeItem_95
  rw [if_neg em, h2, a1_e, show Q - 1 + 1 = Q by omega, xl_e, i1n0]
  rcases a3 with ⟨D', b1, b2, b3, b4, b5⟩ | ⟨b1, b2⟩
  · rw [b1, b2, bind_e, bind_e, if_neg (show ¬ ((1 : Int32), M1).1 = 0 by show ¬ (1 : Int32) = 0; decide), if_neg (show ¬ ((1 : Int32), N1).1 = 0 by show ¬ (1 : Int32) = 0; decide), xbo_1]
    exact ⟨M1, N1, hM.tr a1, (hJ.tr (onJ.ofP onP.up)).tr (onJ.of a2), Or.inl ⟨Q, D', hP, hQ, rfl, rfl, e2, b3, b4, b5⟩⟩
  · rw [b1, b2, bind_e, bind_e, if_pos (show ((0 : Int32), M1).1 = 0 from rfl), if_pos (show ((0 : Int32), N1).1 = 0 from rfl), xbo_0]
    exact ⟨M1, N1, hM.tr a1, (hJ.tr (onJ.ofP onP.up)).tr (onJ.of a2), Or.inr ⟨rfl, rfl⟩⟩
theorem OutI.no {M0 N0 M' N' : xm} {P : Nat} (h1 : onI M0 M' r) (h2 : onJ N0 N') : OutI M0 N0 r T tl P (some (-1, M')) (some (0, N')) := ⟨M', N', h1, h2, Or.inr ⟨rfl, rfl⟩⟩
theorem X_74_no (c : Int32) (M : xm) : fX3_takeItem_74 r c (-1) M = some (-1, M) := by
  unfold fX3_takeItem_74 fX3_takeItem_94 fX3_takeItem_95
  rw [if_pos rfl]
theorem X_29_no (c : Int32) (w k : Int32) (n : Nat) (M : xm) : fX3_takeItem_29 r c w (n + 1) (-1) k M = some (-1, M) := by
  rw [fX3_takeItem_29, X_74_no, if_pos rfl]
  by_cases q : w ≤ k
  · rw [if_pos q]
  · rw [if_neg q]
theorem M_207_no (c : Int32) (N : xm) : ∃ N', fX6_isItem_207 c 0 N = some (0, N') ∧ onJ N N' := by
  unfold fX6_isItem_207 fX6_isItem_234 fX6_isItem_235
  rw [xl_e, if_pos rfl, xbo_0]
  exact ⟨_, rfl, onJ.ofP onP.up⟩
theorem M_173_no (c : Int32) (N : xm) : ∃ N', fX6_isItem_173 c 0 N = some (0, N') ∧ onJ N N' := by
  unfold fX6_isItem_173 fX6_isItem_206
  rw [if_pos rfl]
  exact M_207_no c N
theorem M_67_no (c : Int32) (w k : Int32) (n : Nat) (N : xm) : ∃ N', fX6_isItem_67 c w (n + 1) 0 k N = some (0, N') ∧ onJ N N' := by
  obtain ⟨N1, a1, a2⟩ := M_173_no c N
  rw [fX6_isItem_67, a1, if_pos rfl]
  by_cases q : w ≤ k
  · rw [if_pos q]; exact ⟨N1, rfl, a2⟩
  · rw [if_neg q]; exact ⟨N1, rfl, a2⟩
end
