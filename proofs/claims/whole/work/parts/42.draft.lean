/-! THE TEXT: the draft road of the class -/
def D0 : tR := fun a b => if a = 0 ∧ b = 2 then 1 else if a = 0 ∧ b = 3 then 4 else 0
def addP (D : tR) (a b c : Nat) : tR := upW (upW (upW (upW D 1 (np D) a) 2 (np D) b) 3 (np D) c) 0 0 (np D + 1)
def addM (D : tR) (a b c : Nat) : tR := upW (upW (upW (upW D 4 (nm D) a) 5 (nm D) b) 6 (nm D) c) 0 1 (nm D + 1)
theorem fm_cong {R D : tR} : ∀ p, (∀ q, q < p → R 1 q = D 1 q) → fm R p = fm D p
  | 0, _ => rfl
  | p + 1, h => by
    show fm R p + R 1 p = fm D p + D 1 p
    rw [fm_cong p (fun q hq => h q (by omega)), h p (by omega)]
theorem addP_1 (D : tR) (a b c q : Nat) : addP D a b c 1 q = if q = np D then a else D 1 q := by unfold addP upW; simp
theorem addP_2 (D : tR) (a b c q : Nat) : addP D a b c 2 q = if q = np D then b else D 2 q := by unfold addP upW; simp
theorem addP_3 (D : tR) (a b c q : Nat) : addP D a b c 3 q = if q = np D then c else D 3 q := by unfold addP upW; simp
theorem addM_4 (D : tR) (a b c q : Nat) : addM D a b c 4 q = if q = nm D then a else D 4 q := by unfold addM upW; simp
theorem addM_5 (D : tR) (a b c q : Nat) : addM D a b c 5 q = if q = nm D then b else D 5 q := by unfold addM upW; simp
theorem addM_6 (D : tR) (a b c q : Nat) : addM D a b c 6 q = if q = nm D then c else D 6 q := by unfold addM upW; simp
theorem addP_fm (D : tR) (a b c : Nat) {p : Nat} (hp : p ≤ np D) : fm (addP D a b c) p = fm D p := fm_cong p (fun q hq => by rw [addP_1, if_neg (by omega)])
theorem addP_ok {D : tR} {a b c : Nat} (h : okR D) (h0 : np D < 6) (h1 : 1 ≤ a) (h2 : a ≤ 30) (h3 : b ≤ 1) (h4 : c ≤ 40) : okR (addP D a b c) := by
  refine ⟨show np D + 1 ≤ 6 by omega, h.2.1, h.2.2.1, h.2.2.2.1, fun p hp => ?_, h.2.2.2.2.2⟩
  have hp : p < np D + 1 := hp
  rw [addP_1, addP_2, addP_3]
  by_cases c1 : p = np D
  · simp only [if_pos c1]; exact ⟨h1, h2, h3, h4⟩
  · simp only [if_neg c1]; exact h.2.2.2.2.1 p (by omega)
theorem addM_ok {D : tR} {a b c : Nat} (h : okR D) (h0 : nm D < 8) (h1 : a ≤ 5) (h2 : 1 ≤ b) (h3 : b ≤ 9) (h4 : c ≤ 15) : okR (addM D a b c) := by
  refine ⟨h.1, show nm D + 1 ≤ 8 by omega, h.2.2.1, h.2.2.2.1, h.2.2.2.2.1, fun i hi => ?_⟩
  have hi : i < nm D + 1 := hi
  rw [addM_4, addM_5, addM_6]
  by_cases c1 : i = nm D
  · simp only [if_pos c1]; exact ⟨h1, h2, h3, h4⟩
  · simp only [if_neg c1]; exact h.2.2.2.2.2 i (by omega)
def onR (M M' : xm) (r : Nat) : Prop := (∀ a, (a < r ∨ r + 8 < a) → M'.1 a = M.1 a) ∧ M'.2 = M.2
section
variable {M : xm} {D : tR} {r : Nat}
theorem X_addP_no {a b c : Nat} (h : rdX M r D) (hD : okR D) (ha : a < 100) (hb : b < 100) (hc : c < 100) (hn : ¬ (np D < 6 ∧ 1 ≤ a ∧ a ≤ 30 ∧ b ≤ 1 ∧ c ≤ 40)) : fX1_addParish r (nI a) (nI b) (nI c) M = some (0, M) := by
  have h6 := hD.1
  unfold fX1_addParish fX1_addParish_31
  rw [h.1, xbo_0, show (30 : Int32) = nI 30 from rfl, show (40 : Int32) = nI 40 from rfl, li6, ifle (by omega) (by omega), li1, iflt (by omega) (by omega), iflt (by omega) (by omega), iflt (by omega) (by omega), ifle (by omega) (by omega)]
  by_cases c1 : 6 ≤ np D
  · rw [if_pos c1]
  · rw [if_neg c1]
    by_cases c2 : a < 1
    · rw [if_pos c2]
    · rw [if_neg c2]
      by_cases c3 : 30 < a
      · rw [if_pos c3]
      · rw [if_neg c3]
        by_cases c4 : 1 < b
        · rw [if_pos c4]
        · rw [if_neg c4, if_neg (by omega)]
theorem X_addP {a b c : Nat} (h : rdX M r D) (hD : okR D) (h0 : np D < 6) (h1 : 1 ≤ a) (h2 : a ≤ 30) (h3 : b ≤ 1) (h4 : c ≤ 40) : ∃ M', fX1_addParish r (nI a) (nI b) (nI c) M = some (1, M') ∧ rdX M' r (addP D a b c) ∧ onR M M' r := by
  unfold fX1_addParish
  rw [h.1, show (30 : Int32) = nI 30 from rfl, show (40 : Int32) = nI 40 from rfl, li6, ifle (by omega) (by omega), li1, iflt (by omega) (by omega), iflt (by omega) (by omega), iflt (by omega) (by omega), ifle (by omega) (by omega), if_neg (by omega), if_neg (by omega), if_neg (by omega), if_neg (by omega), if_pos h4]
  have e0 : M.1 r 0 = nI (np D) := h.1
  have e5 : M.1 r 5 = nI (xend D) := h.2.1
  simp only [xl_e, up_at, show ∀ k, ¬ (r = r + (k + 1)) from fun k => by omega, false_and, if_false, e0, e5, xchk_e h0 (show 6 < 5000 by omega), cl_e (show np D < 2147483648 by omega), show ¬ ((0 : Nat) = 5) by decide, show ¬ ((5 : Nat) = 0) by decide, and_false, add_e, ← li1, a1_e, xbo_1]
  refine ⟨_, rfl, ?_, fun q hq => ?_, rfl⟩
  · obtain ⟨g1, g2, g3, g4, g5, g6, g7, g8, g9, g10, g11, g12, g13⟩ := h
    have np' : np (addP D a b c) = np D + 1 := rfl
    have xe' : xend (addP D a b c) = xend D + a := by
      unfold xend
      rw [np']
      show fm (addP D a b c) (np D) + addP D a b c 1 (np D) = _
      rw [addP_fm D a b c (Nat.le_refl _), addP_1, if_pos rfl]
    have nm' : nm (addP D a b c) = nm D := rfl
    have qu' : qu (addP D a b c) = qu D := rfl
    have nb' : nb (addP D a b c) = nb D := rfl
    have k4 : ∀ i, addP D a b c 4 i = D 4 i := fun _ => rfl
    have k5 : ∀ i, addP D a b c 5 i = D 5 i := fun _ => rfl
    have k6 : ∀ i, addP D a b c 6 i = D 6 i := fun _ => rfl
    refine ⟨?_, ?_, ?_, ?_, ?_, fun p hp => ?_, fun p hp => ?_, fun p hp => ?_, fun p hp => ?_, fun i hi => ?_, fun i hi => ?_, fun i hi => ?_, fun k hk => ?_⟩
    · rw [np']; simp [up_at]
    · rw [xe']; simp [up_at]
    · rw [nm']; simp [up_at, g3]
    · rw [qu']; simp [up_at, g4]
    · rw [nb']; simp [up_at, g5]
    · rw [addP_1]
      by_cases c1 : p = np D
      · simp [up_at, c1]
      · simp [up_at, c1, g6 p (by omega)]
    · rw [addP_2]
      by_cases c1 : p = np D
      · simp [up_at, c1]
      · simp [up_at, c1, g7 p (by omega)]
    · rw [addP_3]
      by_cases c1 : p = np D
      · simp [up_at, c1]
      · simp [up_at, c1, g8 p (by omega)]
    · rw [addP_fm D a b c (by omega)]
      by_cases c1 : p = np D
      · simp [up_at, c1]; rfl
      · simp [up_at, c1, g9 p (by omega)]
    · rw [k4]; simp [up_at, g10 i (by omega)]
    · rw [k5]; simp [up_at, g11 i (by omega)]
    · rw [k6]; simp [up_at, g12 i (by omega)]
    · simp only [k4, nm']; simp [up_at, g13 k hk]
  · have q0 : q ≠ r := by omega
    have q1 : q ≠ r + 1 := by omega
    have q2 : q ≠ r + 2 := by omega
    have q3 : q ≠ r + 3 := by omega
    have q4 : q ≠ r + 4 := by omega
    rw [up_ne q0, up_ne q0, up_ne q4, up_ne q3, up_ne q2, up_ne q1]
end
