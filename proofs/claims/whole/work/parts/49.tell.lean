/-! THE TEXT: told to its end; fault -/
def OutT (M0 N0 : xm) (r : Nat) (a b : Option (Int32 × xm)) : Prop := ∃ M' N', onI M0 M' r ∧ onJ N0 N' ∧ ((∃ D', a = some (-4, M') ∧ b = some (-4, N') ∧ rdX M' r D' ∧ okR D' ∧ DM N' D') ∨ ∃ v, ¬ v = (-4 : Int32) ∧ a = some (v, M') ∧ b = some (v, N'))
theorem nI_m4 {a : Nat} (h : a < 1000) : ¬ nI a = (-4 : Int32) := by
  intro q
  have := congrArg Int32.toInt q
  rw [nI_toInt (by omega), show (-4 : Int32).toInt = -4 from by decide] at this
  omega
section
variable {M N : xm} {D : tR} {r : Nat} {T : Nat → Int32} {tl : Nat}
theorem XT.onI {M' : xm} (hr : isR r) (h : XT M T tl) (ho : onI M M' r) : XT M' T tl := by
  unfold isR at hr
  exact ⟨h.1, by rw [ho.1 1 (by omega) (by omega)]; exact h.2.1, fun j hj => by rw [ho.1 2 (by omega) (by omega)]; exact h.2.2 j hj⟩
theorem NS.onJ {N' : xm} {P Q : Nat} (h : NS N T tl P) (ho : onJ N N') (hi : N'.1 60 2 = nI Q) : NS N' T tl Q :=
  ⟨h.1, by rw [ho 60 0 (by omega) (by omega) (by omega) (by omega) (by omega) (by omega) (by omega)]; exact h.2.1, fun k hk => by rw [ho 61 k (by omega) (by omega) (by omega) (by omega) (by omega) (by omega) (by omega)]; exact h.2.2.1 k hk, hi⟩
theorem tell_loop {M0 N0 : xm} (hr : isR r) : ∀ m P it n1 n2 M N D, tl ≤ P + m → m < n1 → m < n2 → it ≤ P → P ≤ tl → XT M T tl → rdX M r D → okR D → DM N D → NS N T tl P → onI M0 M r → onJ N0 N → OutT M0 N0 r (fX3_tell_8 r n1 (nI P) (nI it) M) (fX6_fault_9 n2 N) := by
  have hr3 : 3 < r := by unfold isR at hr; omega
  intro m
  induction m with
  | zero =>
    intro P it n1 n2 M N D e h1 h2 hit hP hX hrd hD hDM hN hI hJ
    obtain ⟨n1, rfl⟩ : ∃ k, n1 = k + 1 := ⟨n1 - 1, by omega⟩
    obtain ⟨n2, rfl⟩ : ∃ k, n2 = k + 1 := ⟨n2 - 1, by omega⟩
    have ht := hX.1
    have e1 : fX3_tell_8 r (n1 + 1) (nI P) (nI it) M = some (-4, M) := by
      rw [fX3_tell_8, show (300 : Int32) = nI 300 from rfl, ifle (by omega) (by omega), hX.2.1, ifle (by omega) (by omega), if_pos (show tl ≤ P by omega)]
      unfold fX3_tell_48
      by_cases c : 300 ≤ it
      · rw [if_pos c]
      · rw [if_neg c]
    rw [e1, fX6_fault_9, hN.2.1, hN.2.2.2, ifle (by omega) (by omega), if_pos (show tl ≤ P by omega)]
    exact ⟨M, N, hI, hJ, Or.inl ⟨D, rfl, rfl, hrd, hD, hDM⟩⟩
  | succ m ih =>
    intro P it n1 n2 M N D e h1 h2 hit hP hX hrd hD hDM hN hI hJ
    obtain ⟨n1, rfl⟩ : ∃ k, n1 = k + 1 := ⟨n1 - 1, by omega⟩
    obtain ⟨n2, rfl⟩ : ∃ k, n2 = k + 1 := ⟨n2 - 1, by omega⟩
    have ht := hX.1
    by_cases c : tl ≤ P
    · have e1 : fX3_tell_8 r (n1 + 1) (nI P) (nI it) M = some (-4, M) := by
        rw [fX3_tell_8, show (300 : Int32) = nI 300 from rfl, ifle (by omega) (by omega), hX.2.1, ifle (by omega) (by omega), if_pos c]
        unfold fX3_tell_48
        by_cases c : 300 ≤ it
        · rw [if_pos c]
        · rw [if_neg c]
      rw [e1, fX6_fault_9, hN.2.1, hN.2.2.2, ifle (by omega) (by omega), if_pos c]
      exact ⟨M, N, hI, hJ, Or.inl ⟨D, rfl, rfl, hrd, hD, hDM⟩⟩
    · rw [fX3_tell_8, show (300 : Int32) = nI 300 from rfl, ifle (by omega) (by omega), hX.2.1, ifle (by omega) (by omega), if_neg (by omega), if_neg c, fX6_fault_9, hN.2.1, hN.2.2.2, ifle (by omega) (by omega), if_neg c, xl_e]
      obtain ⟨M1, N1, b1, b2, b3⟩ := item hr3 hD hX hrd hDM hN (show P < tl by omega)
      rcases b3 with ⟨Q, D', c1, c2, c3, c4, c5, c6, c7, c8⟩ | ⟨c1, c2⟩
      · rw [c3, c4, bind_e, bind_e, if_neg (show ¬ ((1 : Int32), N1).1 = 0 by show ¬ (1 : Int32) = 0; decide), if_neg (show ¬ (nI Q, M1).1 = -1 from nI_m1 (by omega)), a1_e]
        exact ih Q (it + 1) n1 n2 M1 N1 D' (by omega) (by omega) (by omega) (by omega) c2 (hX.onI hr b1) c6 c7 c8 (hN.onJ b2 c5) (hI.tr b1) (hJ.tr b2)
      · rw [c1, c2, bind_e, bind_e, if_pos (show ((0 : Int32), N1).1 = 0 from rfl), if_pos (show ((-1 : Int32), M1).1 = -1 from rfl)]
        exact ⟨M1, N1, hI.tr b1, hJ.tr b2, Or.inr ⟨nI P, nI_m4 (by omega), rfl, rfl⟩⟩
theorem tell (hr : isR r) (hX : XT M T tl) (h0 : N.1 60 0 = nI tl) (hT : ∀ i, i < tl → N.1 61 i = T i) : OutT M N r (fX3_tell r M) (fX6_fault N) := by
  have ht := hX.1
  obtain ⟨M1, a1, a2, a3⟩ := X_clear r M
  obtain ⟨N1, b1, b2, b3⟩ := M_begins (up N 60 2 0)
  unfold fX3_tell fX6_fault
  rw [a1, bind_e, xl_e, b1, bind_e]
  have hI : onI M M1 r := onI.of a3
  have hJ : onJ N N1 := (onJ.ofP onP.up).tr (onJ.of b3)
  have e2 : N1.1 60 2 = nI 0 := by rw [b3 60 2 (by omega) (by omega) (by omega) (by omega) (by omega), up_at, if_pos ⟨rfl, rfl⟩]; rfl
  have hN : NS N1 T tl 0 := ⟨ht, by rw [hJ 60 0 (by omega) (by omega) (by omega) (by omega) (by omega) (by omega) (by omega)]; exact h0, fun k hk => by rw [hJ 61 k (by omega) (by omega) (by omega) (by omega) (by omega) (by omega) (by omega)]; exact hT k hk, e2⟩
  exact tell_loop hr tl 0 0 xfuel xfuel M1 N1 D0 (by omega) (by show _ < 1000; omega) (by show _ < 1000; omega) (by omega) (by omega) (hX.onI hr hI) a2 D0_ok b2 hN hI hJ
end
section
variable {M N : xm} {R W : tR} {K : Nat → tR} {kn : Nat} {L : tR} {ln : Nat} {T : Nat → Int32} {tl : Nat}
theorem rd_two {M : xm} (h : M.2 100 = !M.2 0) : (rd (M.2 0) = 4 ∧ rd (M.2 100) = 13) ∨ (rd (M.2 0) = 13 ∧ rd (M.2 100) = 4) := by
  rw [h]
  cases M.2 0
  · exact Or.inl ⟨rfl, rfl⟩
  · exact Or.inr ⟨rfl, rfl⟩
theorem AX.draft {M' : xm} (hA : AX M R W K kn L ln T tl) (h : onI M M' (rd (M.2 100))) : AX M' R W K kn L ln T tl := by
  have := rd_two hA.2.1.2
  exact hA.keep (fun a q => h.1 a (by omega) (by omega)) (fun a _ => by rw [h.2])
theorem MX.onJ {N' : xm} {s : Nat} (hB : MX N s R W) (h : onJ N N') : MX N' s R W := by
  obtain ⟨e1, e2, e3, e4, e5⟩ := hB
  have np6 := e2.1.1
  have nm8 := e2.1.2.1
  have o : ∀ a j, a ≠ 60 → a ≠ 72 → ¬ (a = 63 ∧ j = 1) → ¬ (a = 65 ∧ j = 1) → ¬ (a = 62 ∧ 2 ≤ j) → ¬ (a = 64 ∧ 18 ≤ j) → ¬ (a = 66 ∧ 24 ≤ j) → N'.1 a j = N.1 a j := fun a j q1 => h a j (by omega)
  obtain ⟨f1, f2, f3, f4, f5, f6, f7, f8, f9, f10⟩ := e3
  refine ⟨e1, e2, ⟨?_, ?_, ?_, ?_, fun p hp => ?_, fun p hp => ?_, fun p hp => ?_, fun i hi => ?_, fun i hi => ?_, fun i hi => ?_⟩, ?_, e5⟩
  · rw [o 63 0 (by omega) (by omega) (by omega) (by omega) (by omega) (by omega) (by omega)]; exact f1
  · rw [o 65 0 (by omega) (by omega) (by omega) (by omega) (by omega) (by omega) (by omega)]; exact f2
  · rw [o 62 0 (by omega) (by omega) (by omega) (by omega) (by omega) (by omega) (by omega)]; exact f3
  · rw [o 62 1 (by omega) (by omega) (by omega) (by omega) (by omega) (by omega) (by omega)]; exact f4
  · rw [o 64 _ (by omega) (by omega) (by omega) (by omega) (by omega) (by omega) (by omega)]; exact f5 p hp
  · rw [o 64 _ (by omega) (by omega) (by omega) (by omega) (by omega) (by omega) (by omega)]; exact f6 p hp
  · rw [o 64 _ (by omega) (by omega) (by omega) (by omega) (by omega) (by omega) (by omega)]; exact f7 p hp
  · rw [o 66 _ (by omega) (by omega) (by omega) (by omega) (by omega) (by omega) (by omega)]; exact f8 i hi
  · rw [o 66 _ (by omega) (by omega) (by omega) (by omega) (by omega) (by omega) (by omega)]; exact f9 i hi
  · rw [o 66 _ (by omega) (by omega) (by omega) (by omega) (by omega) (by omega) (by omega)]; exact f10 i hi
  · have o67 : ∀ j, N'.1 67 j = N.1 67 j := fun j => o 67 j (by omega) (by omega) (by omega) (by omega) (by omega) (by omega) (by omega)
    refine ⟨fun i hi => ?_, fun i hi => ?_, fun b hb => ?_, fun b hb => ?_, ?_⟩
    · rw [o67]; exact e4.1 i hi
    · rw [o67]; exact e4.2.1 i hi
    · rw [o67]; exact e4.2.2.1 b hb
    · rw [o67]; exact e4.2.2.2.1 b hb
    · rw [o67]; exact e4.2.2.2.2
theorem AM.onJ {N' : xm} (hB : AM N R W K kn L ln T tl) (h : onJ N N') : AM N' R W K kn L ln T tl := by
  obtain ⟨a1, a2, a3, a4⟩ := hB
  have o60 : ∀ j, j ≠ 2 → N'.1 60 j = N.1 60 j := fun j q => h 60 j (by omega) (by omega) (by omega) (by omega) (by omega) (by omega) (by omega)
  have o68 : ∀ j, N'.1 68 j = N.1 68 j := fun j => h 68 j (by omega) (by omega) (by omega) (by omega) (by omega) (by omega) (by omega)
  have o61 : ∀ j, N'.1 61 j = N.1 61 j := fun j => h 61 j (by omega) (by omega) (by omega) (by omega) (by omega) (by omega) (by omega)
  exact ⟨a1.onJ h, ⟨by rw [o60 9 (by omega)]; exact a2.1, fun k hk => (a2.2 k hk).onJ h⟩, ⟨by rw [o60 10 (by omega)]; exact a3.1, fun k hk => by rw [o68, o68, o68]; exact a3.2 k hk⟩, ⟨by rw [o60 0 (by omega)]; exact a4.1, fun j hj => by rw [o61]; exact a4.2 j hj⟩⟩
theorem told (hA : AX M R W K kn L ln T tl) (hB : AM N R W K kn L ln T tl) : OutT M N (rd (M.2 100)) (fX3_tell (rd (M.2 100)) M) (fX6_fault N) :=
  tell (isR_rd _) hA.2.2.2.2.2 hB.2.2.2.1 hB.2.2.2.2
theorem p_fault (hA : AX M R W K kn L ln T tl) (hB : AM N R W K kn L ln T tl) : Same M N (fX5_fault M) (fX6_fault N) := by
  obtain ⟨M1, N1, a1, a2, a3⟩ := told hA hB
  have hR : Rel M1 N1 := ⟨R, W, K, kn, L, ln, T, tl, hA.draft a1, hB.onJ a2⟩
  unfold fX5_fault
  rcases a3 with ⟨D', b1, b2, -⟩ | ⟨v, -, b1, b2⟩
  · rw [b1, b2, bind_e]
    exact ⟨_, M1, N1, rfl, rfl, hR⟩
  · rw [b1, b2, bind_e]
    exact ⟨_, M1, N1, rfl, rfl, hR⟩
end
