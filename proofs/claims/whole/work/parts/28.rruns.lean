/-! THE REFERENCE: readings, copies, runs -/
theorem MX.read {N N1 : xm} {s : Nat} {R W : tR} (h : MX N s R W) {b : Nat} (hb : b < 4) (hp : passS R W (pAt R (W 0 0)) b 0 = true) (h1 : N1 = up N 67 (25 * s + 16 + b) (nI (W 2 b ||| 2 ^ pAt R (W 0 0)))) : MX (up N1 67 (25 * s + 20 + b) (if W 3 b = 0 then nI (pAt R (W 0 0)) else mdI (W 3 b))) s R (readS R W b) := by
  have ho := okW_readS h.2.1 h.2.2.2.2 b hb
  subst h1
  refine h.same ((sameM.slot (by omega) (by omega)).tr (sameM.slot (by omega) (by omega))) ?_ ho
  obtain ⟨e1, e2, e3, e4, e5⟩ := h.2.2.2.1
  refine ⟨fun j hj => ?_, fun c hc => ?_, fun c hc => ?_, fun c hc => ?_, ?_⟩
  · rw [up_at, if_neg (by omega), up_at, if_neg (by omega), e1 j hj, readS_n _ _ _ (by omega)]
  · rw [up_at, if_neg (by omega), up_at, if_neg (by omega), e2 c hc, readS_n _ _ _ (by omega)]
  · unfold readS
    rw [if_pos hp, up_at, if_neg (by omega), up_at, upW_n (by omega), upW_e]
    by_cases q : c = b
    · rw [if_pos ⟨rfl, by omega⟩, if_pos ⟨rfl, q⟩]
    · rw [if_neg (by omega), if_neg (by omega), e3 c hc]
  · unfold readS
    rw [if_pos hp, up_at, upW_e]
    by_cases q : c = b
    · rw [if_pos (show (67 : Nat) = 67 ∧ 25 * s + 20 + c = 25 * s + 20 + b from ⟨rfl, by omega⟩), if_pos (show (3 : Nat) = 3 ∧ c = b from ⟨rfl, q⟩)]
      by_cases z : W 3 b = 0
      · rw [if_pos z, if_pos z]; rfl
      · rw [if_neg z, if_neg z]
    · rw [if_neg (by omega), if_neg (by omega), upW_n (by omega), up_at, if_neg (by omega), e4 c hc]
  · rw [up_at, if_neg (by omega), up_at, if_neg (by omega), e5, readS_n _ _ _ (by omega)]
theorem mdI_none {x : Nat} (h : x < 100) : mdI x = -4 ↔ x = 0 := by
  have : ∀ x, x < 100 → (mdI x = -4 ↔ x = 0) := by decide +kernel
  exact this x h
theorem mdI_if {α : Sort _} {x : Nat} {a b : α} (h : x < 100) : (if mdI x = -4 then a else b) = if x = 0 then a else b := by
  by_cases q : x = 0
  · rw [if_pos q, if_pos ((mdI_none h).mpr q)]
  · rw [if_neg q, if_neg (fun e => q ((mdI_none h).mp e))]
theorem M_isRead {N : xm} {s : Nat} {R W : tR} (h : MX N s R W) {b : Nat} (hb : b < 4) : ∃ N', fX6_isRead (nI s) (nI b) N = some (nI (if passS R W (pAt R (W 0 0)) b 0 then 1 else 0), N') ∧ MX N' s R (readS R W b) ∧ sameM N N' s := by
  have hs4 := h.1
  have hp := pAt_lt (R := R) (W 0 0) h.2.1.2.1
  have h6 := h.2.1.1.1
  have hx := xend_le h.2.1.1
  have hm := h.2.2.2.2.1 0 (by omega)
  have h2 : 2 ^ pAt R (W 0 0) < 2 ^ np R := Nat.pow_lt_pow_right (by decide) hp
  have h64 : 2 ^ np R ≤ 2 ^ 6 := Nat.pow_le_pow_right (by decide) h6
  have hw2 := h.2.2.2.2.2.2.1 b hb
  have hw3 := (h.2.2.2.2.2.2.2 b hb).1
  have e0 : N.1 67 (25 * s) = nI (W 0 0) := h.2.2.2.1.1 0 (by omega)
  obtain ⟨N1, a1, a2, a3, a4⟩ := M_passes h hp hb (more := 0) (by omega)
  have h1 := h.voc a2
  unfold fX6_isRead
  rw [li25, mul_e, xchk_e (by omega) (by omega), cl_e (by omega), e0, M_parishOf h.2.2.1 h.2.1 (by omega), bind_e]
  have a1 : fX6_passes (nI s) (nI (pAt R (W 0 0))) (nI b) 0 N = _ := a1
  rw [a1, bind_e]
  cases hc : passS R W (pAt R (W 0 0)) b 0
  · rw [show (if (false : Bool) = true then 1 else 0) = 0 from rfl]
    dsimp only
    rw [if_pos (show nI 0 = 0 from rfl), xbo_0]
    refine ⟨N1, rfl, ?_, a2.M s⟩
    unfold readS
    rw [hc]
    exact h1
  · rw [show (if (true : Bool) = true then 1 else 0) = 1 from rfl]
    dsimp only
    rw [if_neg (show ¬ nI 1 = 0 by decide), li16, li20, add_e, add_e, xl_e, xchk_e (by omega) (by omega), xchk_e (by omega) (by omega), cl_e (by omega), h1.2.2.2.1.2.2.1 b hb, li1, shl_e (by omega) (by omega), Nat.one_mul, nI_or, xl_e, add_e, add_e, xchk_e (by omega) (by omega), cl_e (by omega), up_at _ _ _ _ 67 (25 * s + 20 + b), if_neg (show ¬ ((67 : Nat) = 67 ∧ 25 * s + 20 + b = 25 * s + 16 + b) by omega), h1.2.2.2.1.2.2.2.1 b hb, xchk_e (by omega) (by omega)]
    unfold fX6_isRead_97
    rw [xchk_e (by omega) (by omega), xchk_e (by omega) (by omega), cl_e (by omega), xl_e, xl_e, xbo_1, xbo_1, mdI_if (by omega)]
    have hr := h1.read hb hc rfl
    have hsm : ∀ v, sameM N (up (up N1 67 (25 * s + 16 + b) (nI (W 2 b ||| 2 ^ pAt R (W 0 0)))) 67 (25 * s + 20 + b) v) s := fun v => (a2.M s).tr ((sameM.slot (by omega) (by omega)).tr (sameM.slot (by omega) (by omega)))
    by_cases z : W 3 b = 0
    · rw [if_pos z] at hr ⊢
      exact ⟨_, rfl, hr, hsm _⟩
    · rw [if_neg z] at hr ⊢
      exact ⟨_, rfl, hr, hsm _⟩
theorem M_isHeld {N : xm} {s : Nat} {R W : tR} (h : MX N s R W) {b : Nat} (hb : b < 4) : fX6_isHeld (nI s) (nI b) N = some (nI (if heldS R W b then 1 else 0)) := by
  have hs4 := h.1
  have h6 := h.2.1.1.1
  have h64 : 2 ^ np R ≤ 2 ^ 6 := Nat.pow_le_pow_right (by decide) h6
  have hw2 := h.2.2.2.2.2.2.1 b hb
  unfold fX6_isHeld fX6_isHeld_32
  rw [li25, li16, mul_e, add_e, add_e, xchk_e (by omega) (by omega), xc0 (by omega) (by omega), cl_e (by omega), h.2.2.2.1.2.2.1 b hb, c0, h.2.2.1.1, hold_e h6, ifeq (by omega) (by omega), xbo_0, xbo_1]
  unfold heldS
  by_cases q : W 2 b = 2 ^ np R - 1
  · rw [if_pos q, if_pos (by simp [q])]; rfl
  · rw [if_neg q, if_neg (by simp [q])]; rfl
theorem M_atEnd_l {N : xm} {s : Nat} {R W : tR} (h : MX N s R W) {f : Nat → Bool} (hf : ∀ i, f i = decide (W 0 i = xend R)) : ∀ k n i, nm R = i + k → k < n → fX6_atEnd_4 (nI s) N n (nI (cnt f i)) (nI i) = some (nI (cnt f (nm R))) := by
  obtain ⟨hs, hR, h3, he, ho⟩ := h
  have hx := xend_le hR.1
  have h8 := hR.1.2.1
  intro k
  induction k with
  | zero =>
    intro n i e hn
    obtain ⟨n, rfl⟩ : ∃ k, n = k + 1 := ⟨n - 1, by omega⟩
    rw [fX6_atEnd_4, xc0 (by omega) (by omega), c0, h3.2.1, ifle (by omega) (by omega), if_pos (by omega), show i = nm R by omega]
  | succ k ih =>
    intro n i e hn
    obtain ⟨n, rfl⟩ : ∃ k, n = k + 1 := ⟨n - 1, by omega⟩
    have hm := ho.1 i (by omega)
    rw [fX6_atEnd_4, xc0 (by omega) (by omega), c0, h3.2.1, ifle (by omega) (by omega), if_neg (by omega), li25, mul_e, add_e, xchk_e (by omega) (by omega), cl_e (by omega), M_end h3 hR.1, bind_e, he.1 i (by omega), ifeq (by omega) (by omega)]
    unfold fX6_atEnd_38
    rw [xl_e, xl_e, a1_e, a1_e]
    by_cases q : W 0 i = xend R
    · rw [if_pos q, ← cnt_t (f := f) (i := i) (by rw [hf]; simp [q])]
      exact ih n (i + 1) (by omega) (by omega)
    · rw [if_neg q, li0, add_e, Nat.add_zero, ← cnt_f (f := f) (i := i) (by rw [hf]; simp [q])]
      exact ih n (i + 1) (by omega) (by omega)
theorem M_atEnd {N : xm} {s : Nat} {R W : tR} (h : MX N s R W) : fX6_atEnd (nI s) N = some (nI (cnt (fun i => decide (W 0 i = xend R)) (nm R))) :=
  M_atEnd_l h (fun _ => rfl) (nm R) xfuel 0 (by omega) (by have := h.2.1.1.2.1; show _ < 1000; omega)
theorem M_copies_l {N0 : xm} {x y : Nat} (hx : x < 4) (hy : y < 4) (hxy : x ≠ y) : ∀ k n i N, 25 = i + k → k < n → (∀ j, j < i → N.1 67 (25 * y + j) = N0.1 67 (25 * x + j)) → sameM N0 N y → ∃ N', fX6_copies_2 (nI x) (nI y) n (nI i) N = some N' ∧ (∀ j, j < 25 → N'.1 67 (25 * y + j) = N0.1 67 (25 * x + j)) ∧ sameM N0 N' y := by
  intro k
  induction k with
  | zero =>
    intro n i N e hn h1 hs
    obtain ⟨n, rfl⟩ : ∃ k, n = k + 1 := ⟨n - 1, by omega⟩
    rw [fX6_copies_2, li25, ifle (by omega) (by omega), if_pos (by omega)]
    exact ⟨N, rfl, fun j hj => h1 j (by omega), hs⟩
  | succ k ih =>
    intro n i N e hn h1 hs
    obtain ⟨n, rfl⟩ : ∃ k, n = k + 1 := ⟨n - 1, by omega⟩
    rw [fX6_copies_2, li25, ifle (by omega) (by omega), if_neg (by omega), mul_e, mul_e, add_e, add_e, xchk_e (by omega) (by omega), xchk_e (by omega) (by omega), cl_e (by omega), cl_e (by omega), xl_e, a1_e, hs.2.2 (25 * x + i) (by omega)]
    exact ih n (i + 1) _ (by omega) (by omega) (fun j hj => by
      rw [up_at]
      by_cases q : j = i
      · rw [if_pos ⟨rfl, by omega⟩, q]
      · rw [if_neg (by omega)]; exact h1 j (by omega)) (hs.tr (sameM.slot (by omega) (by omega)))
theorem M_copies {N : xm} {x y : Nat} {R W : tR} (h : MX N x R W) (hy : y < 4) (hxy : x ≠ y) : ∃ N', fX6_copies (nI x) (nI y) N = some N' ∧ MX N' y R W ∧ sameM N N' y := by
  obtain ⟨N', a1, a2, a3⟩ := M_copies_l h.1 hy hxy 25 xfuel 0 N (by omega) (by show _ < 1000; omega) (fun j hj => absurd hj (by omega)) sameM.rf
  obtain ⟨e1, e2, e3, e4, e5⟩ := h.2.2.2.1
  refine ⟨N', a1, ⟨hy, h.2.1, h.2.2.1.same (fun a q r => a3.1 a (by omega) (by omega)), ⟨fun i hi => ?_, fun i hi => ?_, fun b hb => ?_, fun b hb => ?_, ?_⟩, h.2.2.2.2⟩, a3⟩
  · rw [a2 i (by omega), e1 i hi]
  · rw [Nat.add_assoc, a2 _ (by omega), ← Nat.add_assoc, e2 i hi]
  · rw [Nat.add_assoc, a2 _ (by omega), ← Nat.add_assoc, e3 b hb]
  · rw [Nat.add_assoc, a2 _ (by omega), ← Nat.add_assoc, e4 b hb]
  · rw [a2 24 (by omega), e5]
theorem M_goes_l {N0 : xm} {R W : tR} {n0 : Nat} (hN : n0 < 900) (hh : W 4 0 + n0 < 1000000) : ∀ k n i N, n0 = i + k → k < n → MX N 3 R (hoursS R i W) → sameM N0 N 3 → ∃ N', fX6_tries_8 (nI n0) n (nI i) N = some N' ∧ MX N' 3 R (hoursS R n0 W) ∧ sameM N0 N' 3 := by
  intro k
  induction k with
  | zero =>
    intro n i N e hn h hs
    obtain ⟨n, rfl⟩ : ∃ k, n = k + 1 := ⟨n - 1, by omega⟩
    rw [fX6_tries_8, ifle (by omega) (by omega), if_pos (by omega), show n0 = i by omega]
    exact ⟨N, rfl, h, hs⟩
  | succ k ih =>
    intro n i N e hn h hs
    obtain ⟨n, rfl⟩ : ∃ k, n = k + 1 := ⟨n - 1, by omega⟩
    have hb := hoursS_h R i W
    obtain ⟨N1, e1, e2, e3⟩ := M_hour st_none (by omega) h
    have e1 : fX6_hour 3 (-1) N = _ := e1
    rw [fX6_tries_8, ifle (by omega) (by omega), if_neg (by omega), e1, bind_e, a1_e]
    exact ih n (i + 1) N1 (by omega) (by omega) e2 (hs.tr e3)
theorem M_tries {N : xm} {R W : tR} {n0 : Nat} (hN : n0 < 900) (hh : W 4 0 + n0 < 1000000) (h : MX N 0 R W) : ∃ N', fX6_tries (nI n0) N = some N' ∧ MX N' 3 R (hoursS R n0 W) ∧ sameM N N' 3 := by
  obtain ⟨N1, a1, a2, a3⟩ := M_copies h (y := 3) (by omega) (by omega)
  obtain ⟨N2, b1, b2, b3⟩ := M_goes_l (N0 := N) hN hh n0 xfuel 0 N1 (by omega) (by show _ < 1000; omega) a2 a3
  unfold fX6_tries
  have a1 : fX6_copies 0 3 N = _ := a1
  rw [a1, bind_e]
  exact ⟨N2, b1, b2, b3⟩
-- laid
theorem M_laid_66 {N0 : xm} {s : Nat} (hs4 : s < 4) : ∀ k n b N, 4 = b + k → k < n → (∀ c, c < b → N.1 67 (25 * s + 16 + c) = nI 0 ∧ N.1 67 (25 * s + 20 + c) = -4) → (∀ j, j < 16 → N.1 67 (25 * s + j) = N0.1 67 (25 * s + j)) → sameM N0 N s → ∃ N', fX6_laid_66 (nI s) n (nI b) N = some N' ∧ (∀ c, c < 4 → N'.1 67 (25 * s + 16 + c) = nI 0 ∧ N'.1 67 (25 * s + 20 + c) = -4) ∧ (∀ j, j < 16 → N'.1 67 (25 * s + j) = N0.1 67 (25 * s + j)) ∧ N'.1 67 (25 * s + 24) = nI 0 ∧ sameM N0 N' s := by
  intro k
  induction k with
  | zero =>
    intro n b N e hn h1 h2 hs
    obtain ⟨n, rfl⟩ : ∃ k, n = k + 1 := ⟨n - 1, by omega⟩
    rw [fX6_laid_66, li4, ifle (by omega) (by omega), if_pos (by omega), li25, li24, mul_e, add_e, xchk_e (by omega) (by omega), cl_e (by omega), xl_e]
    refine ⟨_, rfl, fun c hc => ?_, fun j hj => ?_, ?_, hs.tr (sameM.slot (by omega) (by omega))⟩
    · rw [up_at, if_neg (by omega), up_at, if_neg (by omega)]; exact h1 c (by omega)
    · rw [up_at, if_neg (by omega)]; exact h2 j hj
    · rw [up_at, if_pos ⟨rfl, rfl⟩]; rfl
  | succ k ih =>
    intro n b N e hn h1 h2 hs
    obtain ⟨n, rfl⟩ : ∃ k, n = k + 1 := ⟨n - 1, by omega⟩
    rw [fX6_laid_66, li4, ifle (by omega) (by omega), if_neg (by omega), li25, li16, li20, mul_e, add_e, add_e, xchk_e (by omega) (by omega), cl_e (by omega), xl_e, add_e, add_e, xchk_e (by omega) (by omega), cl_e (by omega), xl_e, a1_e]
    exact ih n (b + 1) _ (by omega) (by omega) (fun c hc => by
      rw [up_at, if_neg (by omega), up_at, up_at]
      by_cases q : c = b
      · rw [if_pos ⟨rfl, by omega⟩, if_pos ⟨rfl, by omega⟩]
        exact ⟨rfl, rfl⟩
      · rw [if_neg (by omega), if_neg (by omega), up_at, if_neg (by omega)]
        exact h1 c (by omega)) (fun j hj => by
      rw [up_at, if_neg (by omega), up_at, if_neg (by omega)]; exact h2 j hj) (hs.tr ((sameM.slot (by omega) (by omega)).tr (sameM.slot (by omega) (by omega))))
theorem M_laid_2 {N0 : xm} {s : Nat} {R : tR} (hs4 : s < 4) (hR : laidR R) (h0 : rdM N0 R) : ∀ k n i N, 8 = i + k → k < n → (∀ c, c < i → N.1 67 (25 * s + c) = nI 0 ∧ N.1 67 (25 * s + 8 + c) = nI (if c < nm R then R 6 c else 0)) → sameM N0 N s → ∃ N', fX6_laid_2 (nI s) n (nI i) N = some N' ∧ encM N' s (laidS R) ∧ sameM N0 N' s := by
  intro k
  have h8 := hR.1.2.1
  induction k with
  | zero =>
    intro n i N e hn h1 hs
    obtain ⟨n, rfl⟩ : ∃ k, n = k + 1 := ⟨n - 1, by omega⟩
    rw [fX6_laid_2, li8, ifle (by omega) (by omega), if_pos (by omega)]
    obtain ⟨N', a1, a2, a3, a4, a5⟩ := M_laid_66 (N0 := N) hs4 4 xfuel 0 N (by omega) (by show _ < 1000; omega) (fun c hc => absurd hc (by omega)) (fun _ _ => rfl) sameM.rf
    refine ⟨N', a1, ⟨fun i hi => ?_, fun i hi => ?_, fun b hb => ?_, fun b hb => ?_, ?_⟩, hs.tr a5⟩ <;> unfold laidS
    · rw [if_neg (by omega), a3 i (by omega), (h1 i (by omega)).1]
    · rw [Nat.add_assoc, a3 (8 + i) (by omega), ← Nat.add_assoc, (h1 i (by omega)).2]
      congr 1
      by_cases q : i < nm R
      · rw [if_pos q, if_pos ⟨rfl, q⟩]
      · rw [if_neg q, if_neg (by omega)]
    · rw [if_neg (by omega), (a2 b hb).1]
    · rw [if_neg (by omega), (a2 b hb).2]; rfl
    · rw [if_neg (by omega), a4]
  | succ k ih =>
    intro n i N e hn h1 hs
    obtain ⟨n, rfl⟩ : ∃ k, n = k + 1 := ⟨n - 1, by omega⟩
    have hr : rdM (up N 67 (25 * s + i) 0) R := h0.same (fun a q r => by rw [up_ne (by omega), hs.1 a (by omega) (by omega)])
    have nxt : ∀ v, v = nI (if i < nm R then R 6 i else 0) → ∃ N', fX6_laid_57 (fun z0 z1 => fX6_laid_2 (nI s) n z0 z1) (nI s) (nI i) (((nI 25 * nI s) + nI 8) + nI i) v (up N 67 (25 * s + i) 0) = some N' ∧ encM N' s (laidS R) ∧ sameM N0 N' s := by
      intro v hv
      unfold fX6_laid_57
      rw [mul_e, add_e, add_e, xchk_e (by omega) (by omega), cl_e (by omega), xl_e, a1_e, hv]
      refine ih n (i + 1) _ (by omega) (by omega) (fun c hc => ?_) (hs.tr ((sameM.slot (by omega) (by omega)).tr (sameM.slot (by omega) (by omega))))
      rw [up_at, if_neg (by omega), up_at, up_at]
      by_cases q : c = i
      · rw [if_pos ⟨rfl, by omega⟩, if_pos ⟨rfl, by omega⟩, q]
        exact ⟨rfl, rfl⟩
      · rw [if_neg (by omega), if_neg (by omega), up_at, if_neg (by omega)]
        exact h1 c (by omega)
    rw [fX6_laid_2, li8, ifle (by omega) (by omega), if_neg (by omega), li25]
    rw [show (nI 25 * nI s + nI i) = nI (25 * s + i) by rw [mul_e, add_e], xchk_e (by omega) (by omega), cl_e (by omega), xl_e, xc0 (by omega) (by omega), c0, hr.2.1, ifle (by omega) (by omega)]
    by_cases q : i < nm R
    · rw [if_neg (by omega), li3, li2, mul_e (3), add_e (3 * i), xchk_e (by omega) (by omega), cl_e (by omega), hr.2.2.2.2.2.2.2.2.2 i q]
      exact nxt _ (by rw [if_pos q])
    · rw [if_pos (by omega)]
      exact nxt 0 (by rw [if_neg q]; rfl)
theorem M_laid {N : xm} {s : Nat} {R : tR} (hs4 : s < 4) (hR : laidR R) (h0 : rdM N R) : ∃ N', fX6_laid (nI s) N = some N' ∧ MX N' s R (laidS R) ∧ sameM N N' s := by
  obtain ⟨N', a1, a2, a3⟩ := M_laid_2 hs4 hR h0 8 xfuel 0 N (by omega) (by show _ < 1000; omega) (fun c hc => absurd hc (by omega)) sameM.rf
  exact ⟨N', a1, ⟨hs4, hR, h0.same (fun a q r => a3.1 a (by omega) (by omega)), a2, okW_laidS hR⟩, a3⟩
-- all bills read
theorem readS_2 (R W : tR) {b c : Nat} (h : c ≠ b) : readS R W b 2 c = W 2 c := by
  unfold readS
  split
  · rw [upW_n (by omega), upW_n (by omega)]
  · rfl
theorem readB_2 (R : tR) {c : Nat} : ∀ b W, b ≤ c → readB R b W 2 c = W 2 c
  | 0, _, _ => rfl
  | b + 1, W, h => by
    unfold readB
    rw [readS_2 R _ (by omega), readB_2 R b W (by omega)]
theorem readB_k (R : tR) {c : Nat} : ∀ k b W, c < b → readB R (b + k) W 2 c = readB R b W 2 c
  | 0, _, _, _ => rfl
  | k + 1, b, W, h => by
    show readS R (readB R (b + k) W) (b + k) 2 c = _
    rw [readS_2 R _ (by omega), readB_k R k b W h]
theorem M_readAll_l {N0 : xm} {R W : tR} {f : Nat → Bool} (hf : ∀ b, b < nb R → f b = heldS R (readB R (nb R) W) b) : ∀ k n b N, nb R = b + k → k < n → MX N 3 R (readB R b W) → sameM N0 N 3 → ∃ N', fX6_readAll_4 n (nI (mk f b)) (nI b) N = some (nI (mk f (nb R)), N') ∧ MX N' 3 R (readB R (nb R) W) ∧ sameM N0 N' 3 := by
  intro k
  induction k with
  | zero =>
    intro n b N e hn h hs
    obtain ⟨n, rfl⟩ : ∃ k, n = k + 1 := ⟨n - 1, by omega⟩
    have h4 := h.2.1.1.2.2.2.1
    rw [fX6_readAll_4, xc1 (by omega) (by omega), c1, h.2.2.1.2.2.2.1, ifle (by omega) (by omega), if_pos (by omega), show nb R = b by omega]
    exact ⟨N, rfl, h, hs⟩
  | succ k ih =>
    intro n b N e hn h hs
    obtain ⟨n, rfl⟩ : ∃ k, n = k + 1 := ⟨n - 1, by omega⟩
    have h4 := h.2.1.1.2.2.2.1
    obtain ⟨N1, a1, a2, a3⟩ := M_isRead h (b := b) (by omega)
    have a1 : fX6_isRead 3 (nI b) N = _ := a1
    have hh : fX6_isHeld 3 (nI b) N1 = _ := M_isHeld a2 (b := b) (by omega)
    have hfb : f b = heldS R (readS R (readB R b W) b) b := by
      rw [hf b (by omega)]
      unfold heldS
      have := readB_k R (c := b) k (b + 1) W (by omega)
      rw [show b + 1 + k = nb R by omega] at this
      rw [this]; rfl
    rw [fX6_readAll_4, xc1 (by omega) (by omega), c1, h.2.2.1.2.2.2.1, ifle (by omega) (by omega), if_neg (by omega), a1, bind_e, hh, bind_e]
    unfold fX6_readAll_38
    rw [xl_e, xl_e, a1_e, li0, nI_or, Nat.or_zero, ← hfb]
    cases hv : f b
    · rw [if_pos (show nI (if (false : Bool) = true then 1 else 0) = nI 0 from rfl), ← mk_f hv]
      exact ih n (b + 1) N1 (by omega) (by omega) a2 (hs.tr a3)
    · rw [if_neg (by decide), mk_t (by omega) hv]
      exact ih n (b + 1) N1 (by omega) (by omega) a2 (hs.tr a3)
theorem M_readAll {N : xm} {R W : tR} (h : MX N 3 R W) : ∃ N', fX6_readAll N = some (nI (mk (heldS R (readB R (nb R) W)) (nb R)), N') ∧ MX N' 3 R (readB R (nb R) W) ∧ sameM N N' 3 :=
  M_readAll_l (f := heldS R (readB R (nb R) W)) (fun _ _ => rfl) (nb R) xfuel 0 N (by omega) (by have := h.2.1.1.2.2.2.1; show _ < 1000; omega) h sameM.rf
