/-! THE TEXT: the draft road of the class -/
def D0 : tR := fun a b => if a = 0 ∧ b = 2 then 1 else if a = 0 ∧ b = 3 then 4 else 0
def addP (D : tR) (a b c : Nat) : tR := upW (upW (upW (upW D 1 (np D) a) 2 (np D) b) 3 (np D) c) 0 0 (np D + 1)
def addM (D : tR) (a b c : Nat) : tR := upW (upW (upW (upW D 4 (nm D) a) 5 (nm D) b) 6 (nm D) c) 0 1 (nm D + 1)
theorem fm_cong {R D : tR} : ∀ p, (∀ q, q < p → R 1 q = D 1 q) → fm R p = fm D p
  | 0, _ => rfl
  | p + 1, h => by
    show fm R p + R 1 p = fm D p + D 1 p
    rw [fm_cong p (fun q hq => h q (by omega)), h p (by omega)]
theorem addP_1 (D : tR) (a b c q : Nat) : addP D a b c 1 q = if q = np D then a else D 1 q := by unfold addP upW; simp
theorem addP_2 (D : tR) (a b c q : Nat) : addP D a b c 2 q = if q = np D then b else D 2 q := by unfold addP upW; simp
theorem addP_3 (D : tR) (a b c q : Nat) : addP D a b c 3 q = if q = np D then c else D 3 q := by unfold addP upW; simp
theorem addM_4 (D : tR) (a b c q : Nat) : addM D a b c 4 q = if q = nm D then a else D 4 q := by unfold addM upW; simp
theorem addM_5 (D : tR) (a b c q : Nat) : addM D a b c 5 q = if q = nm D then b else D 5 q := by unfold addM upW; simp
theorem addM_6 (D : tR) (a b c q : Nat) : addM D a b c 6 q = if q = nm D then c else D 6 q := by unfold addM upW; simp
theorem addP_fm (D : tR) (a b c : Nat) {p : Nat} (hp : p ≤ np D) : fm (addP D a b c) p = fm D p := fm_cong p (fun q hq => by rw [addP_1, if_neg (by omega)])
theorem addP_ok {D : tR} {a b c : Nat} (h : okR D) (h0 : np D < 6) (h1 : 1 ≤ a) (h2 : a ≤ 30) (h3 : b ≤ 1) (h4 : c ≤ 40) : okR (addP D a b c) := by
  refine ⟨show np D + 1 ≤ 6 by omega, h.2.1, h.2.2.1, h.2.2.2.1, fun p hp => ?_, h.2.2.2.2.2⟩
  have hp : p < np D + 1 := hp
  rw [addP_1, addP_2, addP_3]
  by_cases c1 : p = np D
  · simp only [if_pos c1]; exact ⟨h1, h2, h3, h4⟩
  · simp only [if_neg c1]; exact h.2.2.2.2.1 p (by omega)
theorem addM_ok {D : tR} {a b c : Nat} (h : okR D) (h0 : nm D < 8) (h1 : a ≤ 5) (h2 : 1 ≤ b) (h3 : b ≤ 9) (h4 : c ≤ 15) : okR (addM D a b c) := by
  refine ⟨h.1, show nm D + 1 ≤ 8 by omega, h.2.2.1, h.2.2.2.1, h.2.2.2.2.1, fun i hi => ?_⟩
  have hi : i < nm D + 1 := hi
  rw [addM_4, addM_5, addM_6]
  by_cases c1 : i = nm D
  · simp only [if_pos c1]; exact ⟨h1, h2, h3, h4⟩
  · simp only [if_neg c1]; exact h.2.2.2.2.2 i (by omega)
def onR (M M' : xm) (r : Nat) : Prop := (∀ a, (a < r ∨ r + 8 < a) → M'.1 a = M.1 a) ∧ M'.2 = M.2
section
variable {M : xm} {D : tR} {r : Nat}
theorem X_addP_no {a b c : Nat} (h : rdX M r D) (hD : okR D) (ha : a < 100) (hb : b < 100) (hc : c < 100) (hn : ¬ (np D < 6 ∧ 1 ≤ a ∧ a ≤ 30 ∧ b ≤ 1 ∧ c ≤ 40)) : fX1_addParish r (nI a) (nI b) (nI c) M = some (0, M) := by
  have h6 := hD.1
  unfold fX1_addParish fX1_addParish_31
  rw [h.1, xbo_0, show (30 : Int32) = nI 30 from rfl, show (40 : Int32) = nI 40 from rfl, li6, ifle (by omega) (by omega), li1, iflt (by omega) (by omega), iflt (by omega) (by omega), iflt (by omega) (by omega), ifle (by omega) (by omega)]
  by_cases c1 : 6 ≤ np D
  · rw [if_pos c1]
  · rw [if_neg c1]
    by_cases c2 : a < 1
    · rw [if_pos c2]
    · rw [if_neg c2]
      by_cases c3 : 30 < a
      · rw [if_pos c3]
      · rw [if_neg c3]
        by_cases c4 : 1 < b
        · rw [if_pos c4]
        · rw [if_neg c4, if_neg (by omega)]
theorem X_addP {a b c : Nat} (h : rdX M r D) (hD : okR D) (h0 : np D < 6) (h1 : 1 ≤ a) (h2 : a ≤ 30) (h3 : b ≤ 1) (h4 : c ≤ 40) : ∃ M', fX1_addParish r (nI a) (nI b) (nI c) M = some (1, M') ∧ rdX M' r (addP D a b c) ∧ onR M M' r := by
  unfold fX1_addParish
  rw [h.1, show (30 : Int32) = nI 30 from rfl, show (40 : Int32) = nI 40 from rfl, li6, ifle (by omega) (by omega), li1, iflt (by omega) (by omega), iflt (by omega) (by omega), iflt (by omega) (by omega), ifle (by omega) (by omega), if_neg (by omega), if_neg (by omega), if_neg (by omega), if_neg (by omega), if_pos h4]
  have e0 : M.1 r 0 = nI (np D) := h.1
  have e5 : M.1 r 5 = nI (xend D) := h.2.1
  simp only [xl_e, up_at, show ∀ k, ¬ (r = r + (k + 1)) from fun k => by omega, false_and, if_false, e0, e5, xchk_e h0 (show 6 < 5000 by omega), cl_e (show np D < 2147483648 by omega), show ¬ ((0 : Nat) = 5) by decide, show ¬ ((5 : Nat) = 0) by decide, and_false, add_e, ← li1, a1_e, xbo_1]
  refine ⟨_, rfl, ?_, fun q hq => ?_, rfl⟩
  · obtain ⟨g1, g2, g3, g4, g5, g6, g7, g8, g9, g10, g11, g12, g13⟩ := h
    have np' : np (addP D a b c) = np D + 1 := rfl
    have xe' : xend (addP D a b c) = xend D + a := by
      unfold xend
      rw [np']
      show fm (addP D a b c) (np D) + addP D a b c 1 (np D) = _
      rw [addP_fm D a b c (Nat.le_refl _), addP_1, if_pos rfl]
    have nm' : nm (addP D a b c) = nm D := rfl
    have qu' : qu (addP D a b c) = qu D := rfl
    have nb' : nb (addP D a b c) = nb D := rfl
    have k4 : ∀ i, addP D a b c 4 i = D 4 i := fun _ => rfl
    have k5 : ∀ i, addP D a b c 5 i = D 5 i := fun _ => rfl
    have k6 : ∀ i, addP D a b c 6 i = D 6 i := fun _ => rfl
    refine ⟨?_, ?_, ?_, ?_, ?_, fun p hp => ?_, fun p hp => ?_, fun p hp => ?_, fun p hp => ?_, fun i hi => ?_, fun i hi => ?_, fun i hi => ?_, fun k hk => ?_⟩
    · rw [np']; simp [up_at]
    · rw [xe']; simp [up_at]
    · rw [nm']; simp [up_at, g3]
    · rw [qu']; simp [up_at, g4]
    · rw [nb']; simp [up_at, g5]
    · rw [addP_1]
      by_cases c1 : p = np D
      · simp [up_at, c1]
      · simp [up_at, c1, g6 p (by omega)]
    · rw [addP_2]
      by_cases c1 : p = np D
      · simp [up_at, c1]
      · simp [up_at, c1, g7 p (by omega)]
    · rw [addP_3]
      by_cases c1 : p = np D
      · simp [up_at, c1]
      · simp [up_at, c1, g8 p (by omega)]
    · rw [addP_fm D a b c (by omega)]
      by_cases c1 : p = np D
      · simp [up_at, c1]; rfl
      · simp [up_at, c1, g9 p (by omega)]
    · rw [k4]; simp [up_at, g10 i (by omega)]
    · rw [k5]; simp [up_at, g11 i (by omega)]
    · rw [k6]; simp [up_at, g12 i (by omega)]
    · simp only [k4, nm']; simp [up_at, g13 k hk]
  · have q0 : q ≠ r := by omega
    have q1 : q ≠ r + 1 := by omega
    have q2 : q ≠ r + 2 := by omega
    have q3 : q ≠ r + 3 := by omega
    have q4 : q ≠ r + 4 := by omega
    rw [up_ne q0, up_ne q0, up_ne q4, up_ne q3, up_ne q2, up_ne q1]
theorem rdX.Q {q : Nat} (h : rdX M r D) (hq : 1 ≤ q ∧ q ≤ 8) (hD : okR D) : rdX (up M r 11 (nI q)) r (upW D 0 2 q) ∧ okR (upW D 0 2 q) ∧ onR M (up M r 11 (nI q)) r := by
  obtain ⟨g1, g2, g3, g4, g5, g6, g7, g8, g9, g10, g11, g12, g13⟩ := h
  have hf : ∀ p, fm (upW D 0 2 q) p = fm D p := fun p => fm_cong p (fun x _ => rfl)
  have hx : xend (upW D 0 2 q) = xend D := hf _
  refine ⟨⟨by rw [up_at, if_neg (by omega)]; exact g1, by rw [up_at, if_neg (by omega), hx]; exact g2, by rw [up_at, if_neg (by omega)]; exact g3, by rw [up_at, if_pos ⟨rfl, rfl⟩]; rfl, by rw [up_at, if_neg (by omega)]; exact g5, fun p hp => by rw [up_ne (by omega)]; exact g6 p hp, fun p hp => by rw [up_ne (by omega)]; exact g7 p hp, fun p hp => by rw [up_ne (by omega)]; exact g8 p hp, fun p hp => by rw [up_ne (by omega), hf]; exact g9 p hp, fun p hp => by rw [up_ne (by omega)]; exact g10 p hp, fun p hp => by rw [up_ne (by omega)]; exact g11 p hp, fun p hp => by rw [up_ne (by omega)]; exact g12 p hp, fun p hp => by rw [up_ne (by omega)]; exact g13 p hp⟩, ⟨hD.1, hD.2.1, hq, hD.2.2.2⟩, fun a ha => up_ne (by omega), rfl⟩
theorem rdX.B {q : Nat} (h : rdX M r D) (hq : 1 ≤ q ∧ q ≤ 4) (hD : okR D) : rdX (up M r 12 (nI q)) r (upW D 0 3 q) ∧ okR (upW D 0 3 q) ∧ onR M (up M r 12 (nI q)) r := by
  obtain ⟨g1, g2, g3, g4, g5, g6, g7, g8, g9, g10, g11, g12, g13⟩ := h
  have hf : ∀ p, fm (upW D 0 3 q) p = fm D p := fun p => fm_cong p (fun x _ => rfl)
  have hx : xend (upW D 0 3 q) = xend D := hf _
  refine ⟨⟨by rw [up_at, if_neg (by omega)]; exact g1, by rw [up_at, if_neg (by omega), hx]; exact g2, by rw [up_at, if_neg (by omega)]; exact g3, by rw [up_at, if_neg (by omega)]; exact g4, by rw [up_at, if_pos ⟨rfl, rfl⟩]; rfl, fun p hp => by rw [up_ne (by omega)]; exact g6 p hp, fun p hp => by rw [up_ne (by omega)]; exact g7 p hp, fun p hp => by rw [up_ne (by omega)]; exact g8 p hp, fun p hp => by rw [up_ne (by omega), hf]; exact g9 p hp, fun p hp => by rw [up_ne (by omega)]; exact g10 p hp, fun p hp => by rw [up_ne (by omega)]; exact g11 p hp, fun p hp => by rw [up_ne (by omega)]; exact g12 p hp, fun p hp => by rw [up_ne (by omega)]; exact g13 p hp⟩, ⟨hD.1, hD.2.1, hD.2.2.1, hq, hD.2.2.2.2⟩, fun a ha => up_ne (by omega), rfl⟩
theorem X_setQ {q : Nat} (hq : q < 100) (M : xm) : fX1_setQuorum r (nI q) M = if 1 ≤ q ∧ q ≤ 8 then some (1, up M r 11 (nI q)) else some (0, M) := by
  unfold fX1_setQuorum fX1_setQuorum_11
  rw [xbo_0, li1, iflt (by omega) (by omega), li8, ifle (by omega) (by omega), xl_e, ← li1, xbo_1]
  by_cases c1 : q < 1
  · rw [if_pos c1, if_neg (by omega)]
  · rw [if_neg c1]
    by_cases c2 : q ≤ 8
    · rw [if_pos c2, if_pos (by omega)]
    · rw [if_neg c2, if_neg (by omega)]
theorem X_setB {q : Nat} (hq : q < 100) (M : xm) : fX1_setBills r (nI q) M = if 1 ≤ q ∧ q ≤ 4 then some (1, up M r 12 (nI q)) else some (0, M) := by
  unfold fX1_setBills fX1_setBills_10
  rw [xbo_0, li1, iflt (by omega) (by omega), li4, ifle (by omega) (by omega), xl_e, ← li1, xbo_1]
  by_cases c1 : q < 1
  · rw [if_pos c1, if_neg (by omega)]
  · rw [if_neg c1]
    by_cases c2 : q ≤ 4
    · rw [if_pos c2, if_pos (by omega)]
    · rw [if_neg c2, if_neg (by omega)]
theorem X_addM_no {a b c : Nat} (h : rdX M r D) (hD : okR D) (ha : a < 100) (hb : b < 100) (hc : c < 100) (hn : ¬ (nm D < 8 ∧ a ≤ 5 ∧ 1 ≤ b ∧ b ≤ 9 ∧ c ≤ 15)) : fX1_addMember r (nI a) (nI b) (nI c) M = some (0, M) := by
  have h6 := hD.2.1
  unfold fX1_addMember fX1_addMember_36
  rw [h.2.2.1, xbo_0, show (9 : Int32) = nI 9 from rfl, show (15 : Int32) = nI 15 from rfl, li8, ifle (by omega) (by omega), li0, iflt (by omega) (by omega), li6, ifle (by omega) (by omega), li1, iflt (by omega) (by omega), iflt (by omega) (by omega), ifle (by omega) (by omega), if_neg (show ¬ a < 0 by omega)]
  by_cases c1 : 8 ≤ nm D
  · rw [if_pos c1]
  · rw [if_neg c1]
    by_cases c2 : 6 ≤ a
    · rw [if_pos c2]
    · rw [if_neg c2]
      by_cases c3 : b < 1
      · rw [if_pos c3]
      · rw [if_neg c3]
        by_cases c4 : 9 < b
        · rw [if_pos c4]
        · rw [if_neg c4, if_neg (by omega)]
theorem X_addM {a b c : Nat} (h : rdX M r D) (hD : okR D) (h0 : nm D < 8) (h1 : a ≤ 5) (h2 : 1 ≤ b) (h3 : b ≤ 9) (h4 : c ≤ 15) : ∃ M', fX1_addMember r (nI a) (nI b) (nI c) M = some (1, M') ∧ rdX M' r (addM D a b c) ∧ onR M M' r := by
  unfold fX1_addMember
  rw [h.2.2.1, show (9 : Int32) = nI 9 from rfl, show (15 : Int32) = nI 15 from rfl, li8, ifle (by omega) (by omega), li0, iflt (by omega) (by omega), li6, ifle (by omega) (by omega), li1, iflt (by omega) (by omega), iflt (by omega) (by omega), ifle (by omega) (by omega), if_neg (by omega), if_neg (by omega), if_neg (by omega), if_neg (by omega), if_neg (by omega), if_pos h4]
  obtain ⟨g1, g2, g3, g4, g5, g6, g7, g8, g9, g10, g11, g12, g13⟩ := h
  have g13a := g13 a (by omega)
  simp only [xl_e, up_at, show ∀ k, ¬ (r = r + (k + 1)) from fun k => by omega, show ∀ k, ¬ (r + (k + 1) = r) from fun k => by omega, show ¬ (r + 8 = r + 5) by omega, show ¬ (r + 8 = r + 6) by omega, show ¬ (r + 8 = r + 7) by omega, false_and, if_false, g3, g13a, xchk_e h0 (show 8 < 5000 by omega), xchk_e (show a < 6 by omega) (show 6 < 5000 by omega), cl_e (show nm D < 2147483648 by omega), cl_e (show a < 2147483648 by omega), ← li1, one_shl (show nm D < 31 by omega), nI_or, a1_e, xbo_1]
  refine ⟨_, rfl, ?_, fun q hq => ?_, rfl⟩
  · have nm' : nm (addM D a b c) = nm D + 1 := rfl
    have np' : np (addM D a b c) = np D := rfl
    have qu' : qu (addM D a b c) = qu D := rfl
    have nb' : nb (addM D a b c) = nb D := rfl
    have hf : ∀ p, fm (addM D a b c) p = fm D p := fun p => fm_cong p (fun x _ => rfl)
    have hx : xend (addM D a b c) = xend D := hf _
    have k1 : ∀ i, addM D a b c 1 i = D 1 i := fun _ => rfl
    have k2 : ∀ i, addM D a b c 2 i = D 2 i := fun _ => rfl
    have k3 : ∀ i, addM D a b c 3 i = D 3 i := fun _ => rfl
    have mkk : ∀ k, mk (fun i => decide (addM D a b c 4 i = k)) (nm D + 1) = mk (fun i => decide (D 4 i = k)) (nm D) ||| (if a = k then 2 ^ nm D else 0) := by
      intro k
      apply Nat.eq_of_testBit_eq
      intro i
      rw [Nat.testBit_or, mk_bit, mk_bit, addM_4]
      by_cases c1 : a = k
      · rw [if_pos c1, Nat.testBit_two_pow]
        by_cases c2 : i = nm D
        · simp [c1, c2]
        · have : decide (nm D = i) = false := by simp; omega
          rw [this, if_neg c2]
          by_cases c3 : i < nm D
          · simp [c3, show i < nm D + 1 by omega]
          · simp [c3, show ¬ i < nm D + 1 by omega]
      · rw [if_neg c1, Nat.zero_testBit]
        by_cases c2 : i = nm D
        · simp [c1, c2]
        · rw [if_neg c2]
          by_cases c3 : i < nm D
          · simp [c3, show i < nm D + 1 by omega]
          · simp [c3, show ¬ i < nm D + 1 by omega]
    refine ⟨?_, ?_, ?_, ?_, ?_, fun p hp => ?_, fun p hp => ?_, fun p hp => ?_, fun p hp => ?_, fun i hi => ?_, fun i hi => ?_, fun i hi => ?_, fun k hk => ?_⟩
    · rw [np']; simp [up_at, g1]
    · rw [hx]; simp [up_at, g2]
    · rw [nm']; simp [up_at]
    · rw [qu']; simp [up_at, g4]
    · rw [nb']; simp [up_at, g5]
    · rw [k1]; simp [up_at, g6 p hp]
    · rw [k2]; simp [up_at, g7 p hp]
    · rw [k3]; simp [up_at, g8 p hp]
    · rw [hf]; simp [up_at, g9 p hp]
    · rw [addM_4]
      by_cases c1 : i = nm D
      · simp [up_at, c1]
      · simp [up_at, c1, g10 i (by omega)]
    · rw [addM_5]
      by_cases c1 : i = nm D
      · simp [up_at, c1]
      · simp [up_at, c1, g11 i (by omega)]
    · rw [addM_6]
      by_cases c1 : i = nm D
      · simp [up_at, c1]
      · simp [up_at, c1, g12 i (by omega)]
    · rw [nm', mkk]
      by_cases c1 : a = k
      · subst c1; simp [up_at]
      · have c2 : ¬ k = a := fun h => c1 h.symm
        simp [up_at, c1, c2, g13 k hk]
  · have q0 : q ≠ r := by omega
    have q5 : q ≠ r + 5 := by omega
    have q6 : q ≠ r + 6 := by omega
    have q7 : q ≠ r + 7 := by omega
    have q8 : q ≠ r + 8 := by omega
    rw [up_ne q0, up_ne q8, up_ne q7, up_ne q6, up_ne q5]
theorem X_clear_17 {M0 : xm} : ∀ k n i M, 6 = i + k → k < n → onR M0 M r → M.1 r 0 = 0 ∧ M.1 r 5 = 0 ∧ M.1 r 6 = 0 → (∀ j, j < i → M.1 (r + 8) j = 0) → ∃ M', fX1_clear_17 r n (nI i) M = some M' ∧ rdX M' r D0 ∧ onR M0 M' r := by
  intro k
  induction k with
  | zero =>
    intro n i M e hn ho h1 h2
    obtain ⟨n, rfl⟩ : ∃ k, n = k + 1 := ⟨n - 1, by omega⟩
    rw [fX1_clear_17, li6, ifle (by omega) (by omega), if_pos (by omega), xl_e, xl_e]
    obtain ⟨a1, a2, a3⟩ := h1
    refine ⟨_, rfl, ⟨?_, ?_, ?_, ?_, ?_, fun p hp => absurd hp (Nat.not_lt_zero p), fun p hp => absurd hp (Nat.not_lt_zero p), fun p hp => absurd hp (Nat.not_lt_zero p), fun p hp => absurd hp (Nat.not_lt_zero p), fun p hp => absurd hp (Nat.not_lt_zero p), fun p hp => absurd hp (Nat.not_lt_zero p), fun p hp => absurd hp (Nat.not_lt_zero p), fun k hk => ?_⟩, fun q hq => ?_, ho.2⟩
    · simp [up_at, a1]; rfl
    · simp [up_at, a2]; rfl
    · simp [up_at, a3]; rfl
    · simp [up_at]; rfl
    · simp [up_at]; rfl
    · rw [up_ne (by omega), up_ne (by omega), h2 k (by omega)]; rfl
    · rw [up_ne (by omega), up_ne (by omega)]; exact ho.1 q hq
  | succ k ih =>
    intro n i M e hn ho h1 h2
    obtain ⟨n, rfl⟩ : ∃ k, n = k + 1 := ⟨n - 1, by omega⟩
    rw [fX1_clear_17, li6, ifle (by omega) (by omega), if_neg (by omega), xchk_e (by omega) (by omega), xl_e, cl_e (by omega), a1_e]
    exact ih n (i + 1) _ (by omega) (by omega) ⟨fun a ha => (up_ne (by omega)).trans (ho.1 a ha), ho.2⟩ ⟨by rw [up_ne (by omega)]; exact h1.1, by rw [up_ne (by omega)]; exact h1.2.1, by rw [up_ne (by omega)]; exact h1.2.2⟩ (fun j hj => by
      rw [up_at]
      by_cases d : j = i
      · rw [if_pos ⟨rfl, d⟩]
      · rw [if_neg (by omega)]; exact h2 j (by omega))
theorem X_clear (r : Nat) (M : xm) : ∃ M', fX1_clear r M = some M' ∧ rdX M' r D0 ∧ onR M M' r := by
  have h := X_clear_17 (r := r) (M0 := M) 6 xfuel 0 (up (up (up M r 0 0) r 5 0) r 6 0) (by omega) (by show _ < 1000; omega) ⟨fun a ha => by rw [up_ne (by omega), up_ne (by omega), up_ne (by omega)], rfl⟩ ⟨by simp [up_at], by simp [up_at], by simp [up_at]⟩ (fun j hj => absurd hj (by omega))
  unfold fX1_clear
  rw [xl_e, xl_e, xl_e]
  exact h
theorem D0_ok : okR D0 := ⟨by decide, by decide, by decide, by decide, fun p hp => absurd hp (Nat.not_lt_zero p), fun p hp => absurd hp (Nat.not_lt_zero p)⟩
end
