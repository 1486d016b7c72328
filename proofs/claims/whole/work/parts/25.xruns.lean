/-! THE CLASS: many hours, all readings, what holds, copies -/
theorem X_goHours_l {M0 : xm} {w : Nat} {R W : tR} {N : Nat} (hN : N < 900) (hh : W 4 0 + N < 1000000) : ∀ k n i M, N = i + k → k < n → WX M w R (hoursS R i W) → sameX M0 M w → ∃ M', fX4_goHours_2 w (nI N) n (nI i) M = some M' ∧ WX M' w R (hoursS R N W) ∧ sameX M0 M' w := by
  intro k
  induction k with
  | zero =>
    intro n i M e hn h hs
    obtain ⟨n, rfl⟩ : ∃ k, n = k + 1 := ⟨n - 1, by omega⟩
    rw [fX4_goHours_2, ifle (by omega) (by omega), if_pos (by omega), show N = i by omega]
    exact ⟨M, rfl, h, hs⟩
  | succ k ih =>
    intro n i M e hn h hs
    obtain ⟨n, rfl⟩ : ∃ k, n = k + 1 := ⟨n - 1, by omega⟩
    have hb := hoursS_h R i W
    obtain ⟨M1, e1, e2, e3⟩ := X_goHour st_none (by omega) h
    rw [fX4_goHours_2, ifle (by omega) (by omega), if_neg (by omega), e1, bind_e, a1_e]
    exact ih n (i + 1) M1 (by omega) (by omega) e2 (hs.tr e3)
theorem X_goHours {M : xm} {w : Nat} {R W : tR} {N : Nat} (hN : N < 900) (hh : W 4 0 + N < 1000000) (h : WX M w R W) : ∃ M', fX4_goHours w (nI N) M = some M' ∧ WX M' w R (hoursS R N W) ∧ sameX M M' w :=
  X_goHours_l hN hh N xfuel 0 M (by omega) (by show _ < 1000; omega) h sameX.rf
theorem X_readAll_l {M0 : xm} {w : Nat} {R W : tR} {k2 : Int32 → xm → Option xm} {x1 x2 : Int32} : ∀ k n b M, nb R = b + k → k < n → WX M w R (readB R b W) → sameX M0 M w → ∃ M', fX4_readAllFor_18 w k2 x1 x2 n (nI b) M = k2 (x2 + 1) M' ∧ WX M' w R (readB R (nb R) W) ∧ sameX M0 M' w := by
  intro k
  induction k with
  | zero =>
    intro n b M e hn h hs
    obtain ⟨n, rfl⟩ : ∃ k, n = k + 1 := ⟨n - 1, by omega⟩
    have h4 := h.2.1.1.2.2.2.1
    rw [fX4_readAllFor_18, h.2.2.1.2.2.2.2.1, ifle (by omega) (by omega), if_pos (by omega), show nb R = b by omega]
    exact ⟨M, rfl, h, hs⟩
  | succ k ih =>
    intro n b M e hn h hs
    obtain ⟨n, rfl⟩ : ∃ k, n = k + 1 := ⟨n - 1, by omega⟩
    have h4 := h.2.1.1.2.2.2.1
    obtain ⟨M1, e1, e2, e3⟩ := X_readOut h (b := b) (by omega)
    rw [fX4_readAllFor_18, h.2.2.1.2.2.2.2.1, ifle (by omega) (by omega), if_neg (by omega), e1, bind_e, a1_e]
    exact ih n (b + 1) M1 (by omega) (by omega) e2 (hs.tr e3)
theorem X_readAllFor_l {M0 : xm} {w : Nat} {R W : tR} {N : Nat} (hN : N < 900) (hh : W 4 0 + N < 1000000) : ∀ k n i M, N = i + k → k < n → WX M w R (runS R i W) → sameX M0 M w → ∃ M', fX4_readAllFor_2 w (nI N) n (nI (i + 1)) M = some M' ∧ WX M' w R (runS R N W) ∧ sameX M0 M' w := by
  intro k
  induction k with
  | zero =>
    intro n i M e hn h hs
    obtain ⟨n, rfl⟩ : ∃ k, n = k + 1 := ⟨n - 1, by omega⟩
    rw [fX4_readAllFor_2, iflt (by omega) (by omega), if_pos (by omega), show N = i by omega]
    exact ⟨M, rfl, h, hs⟩
  | succ k ih =>
    intro n i M e hn h hs
    obtain ⟨n, rfl⟩ : ∃ k, n = k + 1 := ⟨n - 1, by omega⟩
    have hb := runS_h R i W
    have h4 := h.2.1.1.2.2.2.1
    obtain ⟨M1, e1, e2, e3⟩ := X_goHour st_none (by omega) h
    obtain ⟨M2, f1, f2, f3⟩ := X_readAll_l (M0 := M0) (W := hourS R (runS R i W) 8) (k2 := fun z0 z1 => fX4_readAllFor_2 w (nI N) n z0 z1) (x1 := nI N) (x2 := nI (i + 1)) (nb R) xfuel 0 M1 (by omega) (by show _ < 1000; omega) e2 (hs.tr e3)
    have f1 : fX4_readAllFor_18 w (fun z0 z1 => fX4_readAllFor_2 w (nI N) n z0 z1) (nI N) (nI (i + 1)) xfuel 0 M1 = _ := f1
    rw [fX4_readAllFor_2, iflt (by omega) (by omega), if_neg (by omega), li0, ifle (by omega) (by omega), if_neg (by omega), e1, bind_e]
    unfold fX4_readAllFor_16
    rw [f1, a1_e]
    exact ih n (i + 1) M2 (by omega) (by omega) f2 f3
theorem X_readAllFor {M : xm} {w : Nat} {R W : tR} {N : Nat} (hN : N < 900) (hh : W 4 0 + N < 1000000) (h : WX M w R W) : ∃ M', fX4_readAllFor w (nI N) M = some M' ∧ WX M' w R (runS R N W) ∧ sameX M M' w := by
  have h4 := h.2.1.1.2.2.2.1
  unfold fX4_readAllFor
  rw [show xfuel = 999 + 1 from rfl, fX4_readAllFor_2, li0, iflt (by omega) (by omega), if_neg (by omega), if_pos (by decide)]
  unfold fX4_readAllFor_16
  obtain ⟨M2, f1, f2, f3⟩ := X_readAll_l (M0 := M) (W := W) (k2 := fun z0 z1 => fX4_readAllFor_2 w (nI N) 999 z0 z1) (x1 := nI N) (x2 := nI 0) (nb R) xfuel 0 M (by omega) (by show _ < 1000; omega) h sameX.rf
  have f1 : fX4_readAllFor_18 w (fun z0 z1 => fX4_readAllFor_2 w (nI N) 999 z0 z1) (nI N) (nI 0) xfuel 0 M = _ := f1
  rw [f1, a1_e]
  exact X_readAllFor_l hN hh N 999 0 M2 (by omega) (by omega) f2 f3
theorem hold_e {n : Nat} (h : n ≤ 6) : ((1 : Int32) <<< (nI n &&& 31)) - 1 = nI (2 ^ n - 1) := by
  have h2 : 2 ^ n ≤ 2 ^ 6 := Nat.pow_le_pow_right (by decide) h
  have := Nat.two_pow_pos n
  rw [show ((1 : Int32) <<< (nI n &&& 31)) = nI (2 ^ n) by rw [li1, shl_e (by omega) (by omega), Nat.one_mul], sub1_e (by omega)]
theorem xbo_0 {ρ : Type} {o : Option ρ} : xbo 0 o = o := by unfold xbo; rw [if_pos (Or.inl rfl)]
theorem xbo_1 {ρ : Type} {o : Option ρ} : xbo 1 o = o := by unfold xbo; rw [if_pos (Or.inr rfl)]
theorem X_isHeld {M : xm} {w : Nat} {R W : tR} (h : WX M w R W) {b : Nat} (hb : b < 4) : fX4_isHeld w (nI b) M = some (nI (if heldS R W b then 1 else 0)) := by
  have h6 := h.2.1.1.1
  have h64 : 2 ^ np R ≤ 2 ^ 6 := Nat.pow_le_pow_right (by decide) h6
  have hw2 := h.2.2.2.2.2.2.1 b hb
  unfold fX4_isHeld fX4_isHeld_25
  rw [xchk_e hb (by omega), cl_e (by omega), h.2.2.2.1.2.2.1 b hb, h.2.2.1.1, hold_e h6, ifeq (by omega) (by omega), xbo_0, xbo_1]
  unfold heldS
  by_cases q : W 2 b = 2 ^ np R - 1
  · rw [if_pos q, if_pos (by simp [q])]; rfl
  · rw [if_neg q, if_neg (by simp [q])]; rfl
theorem X_allHeld_l {M : xm} {w : Nat} {R W : tR} (h : WX M w R W) : ∀ k n b, nb R = b + k → k < n → fX4_allHeld_4 w M n (nI (mk (heldS R W) b)) (nI b) = some (nI (mk (heldS R W) (nb R))) := by
  have h4 := h.2.1.1.2.2.2.1
  intro k
  induction k with
  | zero =>
    intro n b e hn
    obtain ⟨n, rfl⟩ : ∃ k, n = k + 1 := ⟨n - 1, by omega⟩
    rw [fX4_allHeld_4, h.2.2.1.2.2.2.2.1, ifle (by omega) (by omega), if_pos (by omega), show b = nb R by omega]
  | succ k ih =>
    intro n b e hn
    obtain ⟨n, rfl⟩ : ∃ k, n = k + 1 := ⟨n - 1, by omega⟩
    rw [fX4_allHeld_4, h.2.2.1.2.2.2.2.1, ifle (by omega) (by omega), if_neg (by omega), X_isHeld h (by omega), bind_e]
    unfold fX4_allHeld_29
    cases q : heldS R W b
    · rw [if_pos (show nI (if (false : Bool) = true then 1 else 0) = 0 from rfl), a1_e, ← mk_f q]
      exact ih n (b + 1) (by omega) (by omega)
    · rw [if_neg (by decide), xl_e, mk_t (by omega) q, a1_e]
      exact ih n (b + 1) (by omega) (by omega)
theorem X_allHeld {M : xm} {w : Nat} {R W : tR} (h : WX M w R W) : fX4_allHeld w M = some (nI (mk (heldS R W) (nb R))) :=
  X_allHeld_l h (nb R) xfuel 0 (by omega) (by have h4 := h.2.1.1.2.2.2.1; show _ < 1000; omega)
theorem X_mindOf_l {M : xm} {w : Nat} {R W : tR} (h : WX M w R W) {i : Nat} (hi : i < 8) : ∀ k n b, 4 = b + k → k < n → fX4_mindOf_4 w (nI i) M n (nI (mk (fun b => (W 1 i).testBit b) b)) (nI b) = some (nI (mk (fun b => (W 1 i).testBit b) 4)) := by
  intro k
  induction k with
  | zero =>
    intro n b e hn
    obtain ⟨n, rfl⟩ : ∃ k, n = k + 1 := ⟨n - 1, by omega⟩
    rw [fX4_mindOf_4, li4, ifle (by omega) (by omega), if_pos (by omega), show b = 4 by omega]
  | succ k ih =>
    intro n b e hn
    obtain ⟨n, rfl⟩ : ∃ k, n = k + 1 := ⟨n - 1, by omega⟩
    have hl := mk_lt (fun i => (W 1 i).testBit b) 8
    have hv : nI (mk (fun b => (W 1 i).testBit b) b) ||| (((nI (mk (fun i => (W 1 i).testBit b) 8) >>> (nI i &&& 31)) &&& 1) <<< (nI b &&& 31)) = nI (mk (fun b => (W 1 i).testBit b) (b + 1)) := by
      rw [bit_e (by omega) (by omega), mk_bit]
      have hi2 : decide (i < 8) = true := by simp [hi]
      rw [hi2, Bool.true_and]
      cases q : (W 1 i).testBit b
      · rw [mk_f (f := fun b => (W 1 i).testBit b) q, shl_e (by omega) (by simp), nI_or]
        simp
      · rw [← mk_t (f := fun b => (W 1 i).testBit b) (by omega) q]
        rfl
    rw [fX4_mindOf_4, li4, ifle (by omega) (by omega), if_neg (by omega), xchk_e (by omega) (by omega), cl_e (by omega), h.2.2.2.1.2.1 b (by omega), xl_e, hv, a1_e]
    exact ih n (b + 1) (by omega) (by omega)
theorem X_mindOf {M : xm} {w : Nat} {R W : tR} (h : WX M w R W) {i : Nat} (hi : i < 8) : fX4_mindOf w (nI i) M = some (nI (W 1 i)) := by
  have h1 := h.2.2.2.2.2.1 i hi
  have h2 := mk_ext (n := 4) (a := W 1 i) (by omega)
  have h3 := X_mindOf_l h hi 4 xfuel 0 (by omega) (by show _ < 1000; omega)
  rw [show mk (fun b => (W 1 i).testBit b) 4 = W 1 i from h2.symm] at h3
  exact h3
-- setting
theorem X_setMind_l {M0 : xm} {w : Nat} {W : tR} {i m : Nat} (hi : i < 8) (hm : m < 16) : ∀ k n b M, 4 = b + k → k < n → (∀ c, c < 4 → M.1 (w + 2) c = nI (mk (fun j => if j = i ∧ c < b then m.testBit c else (W 1 j).testBit c) 8)) → (∀ a, a ≠ w + 2 → M.1 a = M0.1 a) → M.2 = M0.2 → ∃ M', fX4_setMind_2 w (nI i) (nI m) n (nI b) M = some M' ∧ (∀ c, c < 4 → M'.1 (w + 2) c = nI (mk (fun j => (upW W 1 i m 1 j).testBit c) 8)) ∧ (∀ a, a ≠ w + 2 → M'.1 a = M0.1 a) ∧ M'.2 = M0.2 := by
  intro k
  induction k with
  | zero =>
    intro n b M e hn h h2 h3
    obtain ⟨n, rfl⟩ : ∃ k, n = k + 1 := ⟨n - 1, by omega⟩
    rw [fX4_setMind_2, li4, ifle (by omega) (by omega), if_pos (by omega)]
    refine ⟨M, rfl, fun c hc => ?_, h2, h3⟩
    rw [h c hc]
    congr 1
    refine mk_cong (fun j hj => ?_)
    rw [upW_e]
    by_cases q : j = i
    · rw [if_pos ⟨q, by omega⟩, if_pos ⟨rfl, q⟩]
    · rw [if_neg (by omega), if_neg (by omega)]
  | succ k ih =>
    intro n b M e hn h h2 h3
    obtain ⟨n, rfl⟩ : ∃ k, n = k + 1 := ⟨n - 1, by omega⟩
    have h4 : b < 4 := by omega
    have g0 : (fun j => if j = i ∧ b < b then m.testBit b else (W 1 j).testBit b) = fun j => (W 1 j).testBit b := by
      funext j
      rw [if_neg (by omega)]
    have hb0 := h b h4
    rw [g0] at hb0
    have hv : (nI (mk (fun j => (W 1 j).testBit b) 8) &&& (((1 : Int32) <<< (nI i &&& 31)) ^^^ (-1))) ||| (((nI m >>> (nI b &&& 31)) &&& 1) <<< (nI i &&& 31)) = nI (mk (fun j => if j = i then m.testBit b else (W 1 j).testBit b) 8) := by
      have h8 : 2 ^ i < 2 ^ 8 := Nat.pow_lt_pow_right (by decide) hi
      rw [show ((1 : Int32) <<< (nI i &&& 31)) = nI (2 ^ i) by rw [li1, shl_e (by omega) (by omega), Nat.one_mul], andn_one, bit_e (by omega) (by omega)]
      cases q : m.testBit b
      · rw [show (nI (if (false : Bool) = true then 1 else 0) <<< (nI i &&& 31)) = nI 0 by rw [if_neg (by decide), shl_e (by omega) (by omega), Nat.zero_mul], nI_or, Nat.or_zero]
        congr 1
        refine mk_cong (fun j hj => ?_)
        by_cases e : j = i
        · simp [e]
        · simp [e]
      · rw [show (nI (if (true : Bool) = true then 1 else 0) <<< (nI i &&& 31)) = nI (2 ^ i) by rw [if_pos rfl, shl_e (by omega) (by omega), Nat.one_mul], nI_or, or_one hi]
        congr 1
        refine mk_cong (fun j hj => ?_)
        by_cases e : j = i
        · simp [e]
        · simp [e]
    rw [fX4_setMind_2, li4, ifle (by omega) (by omega), if_neg (by omega), xchk_e (by omega) (by omega), xchk_e (by omega) (by omega), cl_e (by omega), hb0, hv, xl_e, a1_e]
    refine ih n (b + 1) _ (by omega) (by omega) (fun c hc => ?_) (fun a ha => ?_) h3
    · rw [up_at]
      by_cases q : c = b
      · subst q
        rw [if_pos ⟨rfl, rfl⟩]
        congr 1
        refine mk_cong (fun j hj => ?_)
        by_cases e : j = i
        · rw [if_pos e, if_pos ⟨e, by omega⟩]
        · rw [if_neg e, if_neg (by omega)]
      · rw [if_neg (by omega), h c hc]
        congr 1
        refine mk_cong (fun j hj => ?_)
        by_cases e : j = i ∧ c < b
        · rw [if_pos e, if_pos (by omega)]
        · rw [if_neg e, if_neg (by omega)]
    · rw [up_ne ha]; exact h2 a ha
theorem X_setMind {M : xm} {w : Nat} {W : tR} {i m : Nat} (hi : i < 8) (hm : m < 16) (h : encX M w W) : ∃ M', fX4_setMind w (nI i) (nI m) M = some M' ∧ encX M' w (upW W 1 i m) ∧ sameX M M' w := by
  obtain ⟨e1, e2, e3, e4, e5⟩ := h
  obtain ⟨M', a1, a2, a3, a4⟩ := X_setMind_l (M0 := M) (W := W) (w := w) hi hm 4 xfuel 0 M (by omega) (by show _ < 1000; omega) (fun c hc => by
    rw [e2 c hc]
    congr 1
    exact mk_cong (fun j hj => by rw [if_neg (by omega)])) (fun _ _ => rfl) rfl
  refine ⟨M', a1, ⟨fun j hj => ?_, a2, fun b hb => ?_, fun b hb => ?_, ?_⟩, a4, fun a ha => a3 a (by omega)⟩
  · rw [a3 _ (by omega), e1 j hj, upW_n (by omega)]
  · rw [a3 _ (by omega), e3 b hb, upW_n (by omega)]
  · rw [a3 _ (by omega), e4 b hb, upW_n (by omega)]
  · rw [a3 _ (by omega), e5, upW_n (by omega)]
/-- cells of other walks and roads are as they were -/
def sameC (M M' : xm) (w : Nat) : Prop := ∀ a, (a < w ∨ w + 4 < a) → M'.1 a = M.1 a
/-- a road as it was laid -/
def laidS (R : tR) : tR := fun a b => if a = 1 ∧ b < nm R then R 6 b else 0
theorem okW_laidS {R : tR} (hR : laidR R) : okW R (laidS R) := by
  have h2 := Nat.two_pow_pos (np R)
  refine ⟨fun j hj => ?_, fun j hj => ?_, fun b hb => ?_, fun b hb => ?_⟩ <;> unfold laidS
  · rw [if_neg (by omega)]; omega
  · split
    · rename_i q
      have := (hR.1.2.2.2.2.2 j q.2).2.2.2
      omega
    · omega
  · rw [if_neg (by omega)]; omega
  · rw [if_neg (by omega), if_neg (by omega)]; omega
theorem X_begin_68 {M0 : xm} {w r : Nat} {R : tR} (hw : isW w) (hr : isR r) (hR : laidR R) (h0 : rdX M0 r R) : ∀ k n i M, nm R = i + k → k < n → encX M w (fun a b => if a = 1 ∧ b < i then R 6 b else 0) → sameC M0 M w → ∃ M', fX4_begin_68 w r n (nI i) M = some M' ∧ encX M' w (laidS R) ∧ sameC M0 M' w ∧ M'.2 = M.2 := by
  have h8 := hR.1.2.1
  have hg : ∀ M, sameC M0 M w → rdX M r R := fun M hs => h0.same (fun a h1 h2 => hs a (by unfold isW at hw; unfold isR at hr; omega))
  intro k
  induction k with
  | zero =>
    intro n i M e hn h hs
    obtain ⟨n, rfl⟩ : ∃ k, n = k + 1 := ⟨n - 1, by omega⟩
    rw [fX4_begin_68, (hg M hs).2.2.1, ifle (by omega) (by omega), if_pos (by omega)]
    rw [show i = nm R by omega] at h
    exact ⟨M, rfl, h, hs, rfl⟩
  | succ k ih =>
    intro n i M e hn h hs
    obtain ⟨n, rfl⟩ : ∃ k, n = k + 1 := ⟨n - 1, by omega⟩
    have h6 := (hR.1.2.2.2.2.2 i (by omega)).2.2.2
    obtain ⟨M1, a1, a2, a3⟩ := X_setMind (i := i) (m := R 6 i) (by omega) (by omega) h
    rw [fX4_begin_68, (hg M hs).2.2.1, ifle (by omega) (by omega), if_neg (by omega), xchk_e (by omega) (by omega), cl_e (by omega), (hg M hs).2.2.2.2.2.2.2.2.2.2.2.1 i (by omega), a1, bind_e, a1_e]
    have e9 : upW (fun a b => if a = 1 ∧ b < i then R 6 b else 0) 1 i (R 6 i) = fun a b => if a = 1 ∧ b < i + 1 then R 6 b else 0 := by
      funext a b
      rw [upW_e]
      by_cases q : a = 1 ∧ b = i
      · rw [if_pos q, if_pos (by omega), q.2]
      · rw [if_neg q]
        by_cases q2 : a = 1 ∧ b < i
        · rw [if_pos q2, if_pos (by omega)]
        · rw [if_neg q2, if_neg (by omega)]
    rw [e9] at a2
    obtain ⟨M', b1, b2, b3, b4⟩ := ih n (i + 1) M1 (by omega) (by omega) a2 (fun a ha => (a3.2 a ha).trans (hs a ha))
    exact ⟨M', b1, b2, b3, b4.trans a3.1⟩
theorem X_begin_47 {M0 : xm} {w r : Nat} {R : tR} (hw : isW w) (hr : isR r) (hR : laidR R) (h0 : rdX M0 r R) : ∀ k n i M, 8 = i + k → k < n → (∀ j, j < i → M.1 (w + 1) j = nI 0) → (∀ b, b < 4 → M.1 (w + 2) b = nI 0 ∧ M.1 (w + 3) b = nI 0 ∧ M.1 (w + 4) b = -4) → M.1 w 5 = nI 0 → sameC M0 M w → ∃ M', fX4_begin_47 w r n (nI i) M = some M' ∧ encX M' w (laidS R) ∧ sameC M0 M' w ∧ M'.2 = M.2 := by
  intro k
  induction k with
  | zero =>
    intro n i M e hn h1 h2 h3 hs
    obtain ⟨n, rfl⟩ : ∃ k, n = k + 1 := ⟨n - 1, by omega⟩
    rw [fX4_begin_47, li8, ifle (by omega) (by omega), if_pos (by omega)]
    have hz : ∀ a b, (fun a b => if a = 1 ∧ b < 0 then R 6 b else 0 : tR) a b = 0 := fun a b => if_neg (by omega)
    refine X_begin_68 hw hr hR h0 (nm R) xfuel 0 M (by omega) (by have := hR.1.2.1; show _ < 1000; omega) ⟨fun j hj => ?_, fun b hb => ?_, fun b hb => ?_, fun b hb => ?_, ?_⟩ hs
    · rw [hz, h1 j (by omega)]
    · rw [(h2 b hb).1]
      congr 1
      apply Nat.eq_of_testBit_eq
      intro i
      rw [mk_bit]
      simp
    · rw [hz, (h2 b hb).2.1]
    · rw [hz, (h2 b hb).2.2]; rfl
    · rw [hz, h3]
  | succ k ih =>
    intro n i M e hn h1 h2 h3 hs
    obtain ⟨n, rfl⟩ : ∃ k, n = k + 1 := ⟨n - 1, by omega⟩
    rw [fX4_begin_47, li8, ifle (by omega) (by omega), if_neg (by omega), xchk_e (by omega) (by omega), cl_e (by omega), xl_e, a1_e]
    obtain ⟨M', b1, b2, b3, b4⟩ := ih n (i + 1) (up M (w + 1) i 0) (by omega) (by omega) (fun j hj => by
      rw [up_at]
      by_cases q : j = i
      · rw [if_pos ⟨rfl, q⟩]; rfl
      · rw [if_neg (by omega)]; exact h1 j (by omega)) (fun b hb => by
      rw [up_at, up_at, up_at, if_neg (by omega), if_neg (by omega), if_neg (by omega)]
      exact h2 b hb) (by rw [up_at, if_neg (by omega)]; exact h3) (fun a ha => by rw [up_ne (by omega)]; exact hs a ha)
    exact ⟨M', b1, b2, b3, b4⟩
theorem X_begin_12 {M0 : xm} {w r : Nat} {R : tR} (hw : isW w) (hr : isR r) (hR : laidR R) (h0 : rdX M0 r R) : ∀ k n b M, 4 = b + k → k < n → (∀ c, c < b → M.1 (w + 2) c = nI 0 ∧ M.1 (w + 3) c = nI 0 ∧ M.1 (w + 4) c = -4) → M.1 w 5 = nI 0 → sameC M0 M w → ∃ M', fX4_begin_12 w r n (nI b) M = some M' ∧ encX M' w (laidS R) ∧ sameC M0 M' w ∧ M'.2 = M.2 := by
  intro k
  induction k with
  | zero =>
    intro n b M e hn h2 h3 hs
    obtain ⟨n, rfl⟩ : ∃ k, n = k + 1 := ⟨n - 1, by omega⟩
    rw [fX4_begin_12, li4, ifle (by omega) (by omega), if_pos (by omega)]
    exact X_begin_47 hw hr hR h0 8 xfuel 0 M (by omega) (by show _ < 1000; omega) (fun j hj => absurd hj (by omega)) (fun c hc => h2 c (by omega)) h3 hs
  | succ k ih =>
    intro n b M e hn h2 h3 hs
    obtain ⟨n, rfl⟩ : ∃ k, n = k + 1 := ⟨n - 1, by omega⟩
    rw [fX4_begin_12, li4, ifle (by omega) (by omega), if_neg (by omega), xchk_e (by omega) (by omega), cl_e (by omega), xl_e, xchk_e (by omega) (by omega), xl_e, xchk_e (by omega) (by omega), xl_e, a1_e]
    obtain ⟨M', b1, b2, b3, b4⟩ := ih n (b + 1) (up (up (up M (w + 2) b 0) (w + 3) b 0) (w + 4) b (-4)) (by omega) (by omega) (fun c hc => by
      simp only [up_at]
      by_cases q : c = b
      · subst q
        simp
        decide
      · simp [q]
        exact h2 c (by omega)) (by simp [up_at]; exact h3) (fun a ha => by rw [up_ne (by omega), up_ne (by omega), up_ne (by omega)]; exact hs a ha)
    exact ⟨M', b1, b2, b3, b4⟩
theorem X_begin {M : xm} {w r : Nat} {R : tR} (hw : isW w) (hr : isR r) (hR : laidR R) (h0 : rdX M r R) : ∃ M', fX4_begin w r M = some M' ∧ WX M' w R (laidS R) ∧ sameC M M' w ∧ M'.2 = (upr M w (xrb r)).2 := by
  unfold fX4_begin
  rw [xl_e, xl_e]
  obtain ⟨M', b1, b2, b3, b4⟩ := X_begin_12 (M0 := M) hw hr hR h0 4 xfuel 0 (up (upr M w (xrb r)) w 5 0) (by omega) (by show _ < 1000; omega) (fun c hc => absurd hc (by omega)) (by rw [up_at, if_pos ⟨rfl, rfl⟩]; rfl) (fun a ha => by rw [up_ne (by omega)]; rfl)
  have e2 : M'.2 w = xrb r := by rw [b4]; exact upr_same
  have e3 : rd (M'.2 w) = r := by
    rw [e2]
    rcases hr with rfl | rfl <;> rfl
  refine ⟨M', b1, ⟨hw, hR, ?_, b2, okW_laidS hR⟩, b3, b4⟩
  rw [e3]
  exact h0.same (fun a h1 h2 => b3 a (by unfold isW at hw; unfold isR at hr; omega))
theorem X_become_67 {M0 : xm} {w v : Nat} (hwv : v + 4 < w ∨ w + 4 < v) {W : tR} (h0 : encX M0 v W) : ∀ k n i M, 8 = i + k → k < n → (∀ j, j < i → M.1 (w + 1) j = nI (W 0 j)) → (∀ b, b < 4 → M.1 (w + 2) b = M0.1 (v + 2) b ∧ M.1 (w + 3) b = M0.1 (v + 3) b ∧ M.1 (w + 4) b = M0.1 (v + 4) b) → M.1 w 5 = nI (W 4 0) → sameC M0 M w → ∃ M', fX4_become_67 w v n (nI i) M = some M' ∧ encX M' w W ∧ sameC M0 M' w ∧ M'.2 = M.2 := by
  intro k
  induction k with
  | zero =>
    intro n i M e hn h1 h2 h3 hs
    obtain ⟨n, rfl⟩ : ∃ k, n = k + 1 := ⟨n - 1, by omega⟩
    rw [fX4_become_67, li8, ifle (by omega) (by omega), if_pos (by omega)]
    refine ⟨M, rfl, ⟨fun j hj => h1 j (by omega), fun b hb => ?_, fun b hb => ?_, fun b hb => ?_, h3⟩, hs, rfl⟩
    · rw [(h2 b hb).1, h0.2.1 b hb]
    · rw [(h2 b hb).2.1, h0.2.2.1 b hb]
    · rw [(h2 b hb).2.2, h0.2.2.2.1 b hb]
  | succ k ih =>
    intro n i M e hn h1 h2 h3 hs
    obtain ⟨n, rfl⟩ : ∃ k, n = k + 1 := ⟨n - 1, by omega⟩
    rw [fX4_become_67, li8, ifle (by omega) (by omega), if_neg (by omega), xchk_e (by omega) (by omega), xchk_e (by omega) (by omega), cl_e (by omega), xl_e, a1_e, hs (v + 1) (by omega), h0.1 i (by omega)]
    obtain ⟨M', b1, b2, b3, b4⟩ := ih n (i + 1) (up M (w + 1) i (nI (W 0 i))) (by omega) (by omega) (fun j hj => by
      rw [up_at]
      by_cases q : j = i
      · rw [if_pos ⟨rfl, q⟩, q]
      · rw [if_neg (by omega)]; exact h1 j (by omega)) (fun b hb => by
      rw [up_at, up_at, up_at, if_neg (by omega), if_neg (by omega), if_neg (by omega)]
      exact h2 b hb) (by rw [up_at, if_neg (by omega)]; exact h3) (fun a ha => by rw [up_ne (by omega)]; exact hs a ha)
    exact ⟨M', b1, b2, b3, b4⟩
theorem X_become_18 {M0 : xm} {w v : Nat} (hwv : v + 4 < w ∨ w + 4 < v) {W : tR} (h0 : encX M0 v W) : ∀ k n b M, 4 = b + k → k < n → (∀ c, c < b → M.1 (w + 2) c = M0.1 (v + 2) c ∧ M.1 (w + 3) c = M0.1 (v + 3) c ∧ M.1 (w + 4) c = M0.1 (v + 4) c) → M.1 w 5 = nI (W 4 0) → sameC M0 M w → ∃ M', fX4_become_18 w v n (nI b) M = some M' ∧ encX M' w W ∧ sameC M0 M' w ∧ M'.2 = M.2 := by
  intro k
  induction k with
  | zero =>
    intro n b M e hn h2 h3 hs
    obtain ⟨n, rfl⟩ : ∃ k, n = k + 1 := ⟨n - 1, by omega⟩
    rw [fX4_become_18, li4, ifle (by omega) (by omega), if_pos (by omega)]
    exact X_become_67 hwv h0 8 xfuel 0 M (by omega) (by show _ < 1000; omega) (fun j hj => absurd hj (by omega)) (fun c hc => h2 c (by omega)) h3 hs
  | succ k ih =>
    intro n b M e hn h2 h3 hs
    obtain ⟨n, rfl⟩ : ∃ k, n = k + 1 := ⟨n - 1, by omega⟩
    rw [fX4_become_18, li4, ifle (by omega) (by omega), if_neg (by omega)]
    simp (disch := omega) only [xchk_e, cl_e, xl_e, a1_e]
    rw [up_ne (a := v + 3) (by omega), up_ne (a := v + 4) (by omega), up_ne (a := v + 4) (by omega), hs (v + 2) (by omega), hs (v + 3) (by omega), hs (v + 4) (by omega)]
    obtain ⟨M', b1, b2, b3, b4⟩ := ih n (b + 1) (up (up (up M (w + 2) b (M0.1 (v + 2) b)) (w + 3) b (M0.1 (v + 3) b)) (w + 4) b (M0.1 (v + 4) b)) (by omega) (by omega) (fun c hc => by
      simp only [up_at]
      by_cases q : c = b
      · subst q
        simp
      · simp [q]
        exact h2 c (by omega)) (by simp [up_at]; exact h3) (fun a ha => by rw [up_ne (by omega), up_ne (by omega), up_ne (by omega)]; exact hs a ha)
    exact ⟨M', b1, b2, b3, b4⟩
theorem X_become {M : xm} {w v : Nat} {R W : tR} (hw : isW w) (hwv : v + 4 < w ∨ w + 4 < v) (h : WX M v R W) : ∃ M', fX4_become w v M = some M' ∧ WX M' w R W ∧ sameC M M' w ∧ M'.2 = (upr M w (M.2 v)).2 := by
  unfold fX4_become
  rw [xrb_rd, xl_e, xl_e]
  obtain ⟨M', b1, b2, b3, b4⟩ := X_become_18 (M0 := M) (w := w) hwv h.2.2.2.1 4 xfuel 0 (up (upr M w (M.2 v)) w 5 ((upr M w (M.2 v)).1 v 5)) (by omega) (by show _ < 1000; omega) (fun c hc => absurd hc (by omega)) (by rw [up_at, if_pos ⟨rfl, rfl⟩]; exact h.2.2.2.1.2.2.2.2) (fun a ha => by rw [up_ne (by omega)]; rfl)
  have e2 : M'.2 w = M.2 v := by rw [b4]; exact upr_same
  refine ⟨M', b1, ⟨hw, h.2.1, ?_, b2, h.2.2.2.2⟩, b3, b4⟩
  rw [e2]
  refine h.2.2.1.same (fun a h1 h2 => b3 a ?_)
  have h3 := isR_rd (M.2 v)
  unfold isW at hw
  unfold isR at h3
  omega
