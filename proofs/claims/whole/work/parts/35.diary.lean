/-! THE PROMISES: wrong, late -/
def soS (R L : tR) (h k : Nat) : Bool := decide (pAt R (hoursS R h (laidS R) 0 (L 0 k)) = L 1 k)
def dI (e : Nat) : Int32 := nI e - nI 20
theorem d20a : ∀ b, b < 41 → (20 : Int32) + dI b = nI b := by decide +kernel
theorem d20b : ∀ b, b < 41 → dI b + 20 = nI b := by decide +kernel
theorem d20n : ∀ d, d < 21 → -nI d = dI (20 - d) := by decide +kernel
theorem d20p : ∀ d, d < 21 → nI d = dI (20 + d) := by decide +kernel
theorem d20m : ∀ d, d < 21 → (-1) * nI d = dI (20 - d) := by decide +kernel
theorem d20q : ∀ d, d < 21 → 1 * nI d = dI (20 + d) := by decide +kernel
theorem d20s : ∀ d, d < 21 → (20 : Int32) - nI d = nI (20 - d) := by decide +kernel
theorem d20t : ∀ e, e < 42 → dI e + 1 = dI (e + 1) := by decide +kernel
theorem dI_toInt {e : Nat} (h : e < 1000) : (dI e).toInt = (e : Int) - 20 := by
  unfold dI
  rw [pk_sub_toInt (by omega) (by omega)]
  rfl
theorem lI_toInt {a b : Nat} (ha : a < 1000) (hb : b < 1000) : (nI a - nI b).toInt = (a : Int) - b := pk_sub_toInt (by omega) (by omega)
theorem laid_h (R : tR) : laidS R 4 0 = 0 := by unfold laidS; rw [if_neg (by omega)]
theorem or_one_n {g : Nat → Bool} {i n : Nat} (hi : i < n) : mk g n ||| 2 ^ i = mk (fun j => g j || decide (j = i)) n := by
  apply Nat.eq_of_testBit_eq
  intro j
  rw [Nat.testBit_or, mk_bit, mk_bit, Nat.testBit_two_pow]
  by_cases q : j < n
  · by_cases e : i = j
    · subst e; simp [q]
    · simp [q, e, Ne.symm e]
  · simp [q]; omega
section
variable {M N : xm} {R W : tR} {K : Nat → tR} {kn : Nat} {L : tR} {ln : Nat} {T : Nat → Int32} {tl : Nat}
theorem X_isSo {h k : Nat} (hA : AX M R W K kn L ln T tl) (hw : WX M 27 R (hoursS R h (laidS R))) (hk : k < ln) : fX0_isSo 27 (nI k) M = some (nI (if soS R L h k then 1 else 0)) := by
  have hl := hA.2.2.2.2.1.1
  obtain ⟨⟨e1, e2, e3⟩, l1, l2, l3⟩ := hA.2.2.2.2.1.2.2 k hk
  have h8 := hA.1.2.1.1.2.1
  have h6 := hA.1.2.1.1.1
  have hp := pAt_lt (R := R) (hoursS R h (laidS R) 0 (L 0 k)) hA.1.2.1.2.1
  unfold fX0_isSo fX0_isSo_24
  rw [xchk_e (by omega) (by omega), cl_e (by omega), e1, X_parishOf hw (by omega), bind_e, xchk_e (by omega) (by omega), e2, ifeq (by omega) (by omega), xbo_0, xbo_1]
  unfold soS
  by_cases q : pAt R (hoursS R h (laidS R) 0 (L 0 k)) = L 1 k
  · rw [if_pos q, if_pos (by simp [q])]; rfl
  · rw [if_neg q, if_neg (by simp [q])]; rfl
/-- the lines that are known to be false when k lines of hour h are looked at -/
def fL (R L : tR) (h k : Nat) : Nat → Bool := fun j => !soS R L (L 2 j) j && (decide (L 2 j < h) || (decide (L 2 j = h) && decide (j < k)))
theorem X_false_14 {h : Nat} {k4 : Int32 → Int32 → xm → Option (Int32 × xm)} (hA : AX M R W K kn L ln T tl) (hw : WX M 27 R (hoursS R h (laidS R))) (hh : h < 900) : ∀ k n i, ln = i + k → k < n → ∃ M', fX0_falseLines_14 27 k4 (nI h) M n (nI (mk (fL R L h i) ln)) (nI i) = k4 (nI (mk (fL R L (h + 1) 0) ln)) (nI (h + 1)) M' ∧ AX M' R W K kn L ln T tl ∧ WX M' 27 R (hoursS R (h + 1) (laidS R)) := by
  have hl := hA.2.2.2.2.1.1
  intro k
  induction k with
  | zero =>
    intro n i e hn
    obtain ⟨n, rfl⟩ : ∃ k, n = k + 1 := ⟨n - 1, by omega⟩
    have hb := hoursS_h R h (laidS R)
    rw [laid_h] at hb
    obtain ⟨M1, a1, a2, a3⟩ := X_goHour st_none (by omega) hw
    rw [fX0_falseLines_14, hA.2.2.2.2.1.2.1, ifle (by omega) (by omega), if_pos (by omega), a1, bind_e, a1_e]
    refine ⟨M1, ?_, hA.tr a3, a2⟩
    congr 2
    refine mk_cong (fun j hj => ?_)
    unfold fL
    congr 1
    have : decide (j < i) = true := by simp; omega
    rw [this]
    by_cases c : L 2 j < h
    · simp [c]; omega
    · by_cases c2 : L 2 j = h
      · simp [c2]
      · simp [c, c2]; omega
  | succ k ih =>
    intro n i e hn
    obtain ⟨n, rfl⟩ : ∃ k, n = k + 1 := ⟨n - 1, by omega⟩
    obtain ⟨⟨e1, e2, e3⟩, l1, l2, l3⟩ := hA.2.2.2.2.1.2.2 i (by omega)
    have hml := mk_lt (fL R L h i) ln
    have h2l : 2 ^ ln ≤ 2 ^ 10 := Nat.pow_le_pow_right (by decide) hl
    rw [fX0_falseLines_14, hA.2.2.2.2.1.2.1, ifle (by omega) (by omega), if_neg (by omega), xchk_e (by omega) (by omega), cl_e (by omega), e3, ifeq (by omega) (by omega), X_isSo hA hw (by omega), bind_e]
    unfold fX0_falseLines_51
    simp only [xl_e, a1_e]
    have ih2 := ih n (i + 1) (by omega) (by omega)
    have nxt : ∀ j, j < ln → fL R L h (i + 1) j = (fL R L h i j || (decide (j = i) && (!soS R L (L 2 i) i && decide (L 2 i = h)))) := by
      intro j hj
      unfold fL
      by_cases c : j = i
      · subst c
        by_cases d : L 2 j = h
        · simp [d]
        · simp [d]
      · have : decide (j < i + 1) = decide (j < i) := by simp; omega
        rw [this]
        simp [c]
    have h2i : 2 ^ i < 2 ^ 10 := Nat.pow_lt_pow_right (by decide) (by omega)
    by_cases c : L 2 i = h
    · rw [if_pos c]
      cases d : soS R L h i
      · rw [if_pos (show nI (if (false : Bool) = true then 1 else 0) = 0 from rfl), show ((1 : Int32) <<< (nI i &&& 31)) = nI (2 ^ i) by rw [li1, shl_e (by omega) (by omega), Nat.one_mul], nI_or, or_one_n (by omega)]
        rw [mk_cong (f := fL R L h (i + 1)) (g := fun j => fL R L h i j || decide (j = i)) (fun j hj => by rw [nxt j hj, c, d]; simp)] at ih2
        exact ih2
      · rw [if_neg (by decide)]
        rw [mk_cong (f := fL R L h (i + 1)) (g := fL R L h i) (fun j hj => by rw [nxt j hj, c, d]; simp)] at ih2
        exact ih2
    · rw [if_neg c]
      rw [mk_cong (f := fL R L h (i + 1)) (g := fL R L h i) (fun j hj => by rw [nxt j hj]; simp [c])] at ih2
      exact ih2
theorem X_false_4 : ∀ k n h M, 401 = h + k → k < n → AX M R W K kn L ln T tl → WX M 27 R (hoursS R h (laidS R)) → ∃ M', fX0_falseLines_4 27 n (nI (mk (fL R L h 0) ln)) (nI h) M = some (nI (mk (fun j => !soS R L (L 2 j) j) ln), M') ∧ AX M' R W K kn L ln T tl := by
  intro k
  induction k with
  | zero =>
    intro n h M e hn hA hw
    obtain ⟨n, rfl⟩ : ∃ k, n = k + 1 := ⟨n - 1, by omega⟩
    rw [fX0_falseLines_4, show (400 : Int32) = nI 400 from rfl, iflt (by omega) (by omega), if_pos (by omega)]
    refine ⟨M, ?_, hA⟩
    congr 3
    refine mk_cong (fun j hj => ?_)
    have := (hA.2.2.2.2.1.2.2 j hj).2.2.2
    unfold fL
    have : decide (L 2 j < h) = true := by simp; omega
    rw [this]
    simp
  | succ k ih =>
    intro n h M e hn hA hw
    obtain ⟨n, rfl⟩ : ∃ k, n = k + 1 := ⟨n - 1, by omega⟩
    obtain ⟨M1, a1, a2, a3⟩ := X_false_14 (k4 := fun z0 z1 z2 => fX0_falseLines_4 27 n z0 z1 z2) hA hw (by omega) ln xfuel 0 (by omega) (by have := hA.2.2.2.2.1.1; show _ < 1000; omega)
    have a1 : fX0_falseLines_14 27 (fun z0 z1 z2 => fX0_falseLines_4 27 n z0 z1 z2) (nI h) M xfuel (nI (mk (fL R L h 0) ln)) 0 = _ := a1
    rw [fX0_falseLines_4, show (400 : Int32) = nI 400 from rfl, iflt (by omega) (by omega), if_neg (by omega), a1]
    exact ih n (h + 1) M1 (by omega) (by omega) a2 a3
-- the reference goes
def so1 (R L : tR) (h k : Nat) : Int32 := if soS R L h k then 1 else 0
theorem nar01 (c : Prop) [Decidable c] : vp_nar .boolean (if c then 1 else 0) = if c then 1 else 0 := by
  by_cases q : c
  · rw [if_pos q]; rfl
  · rw [if_neg q]; rfl
theorem M_goes_16 {k7 : Int32 → xm → Option xm} {h : Nat} (hh : h ≤ 420) (hK : kn ≤ 2) (hl : ln ≤ 10) (hL : ∀ k, k < ln → L 0 k < nm R ∧ L 1 k < np R ∧ L 2 k ≤ 400) : ∀ k n i N, ln = i + k → k < n → AM N R W K kn L ln T tl → MX N 3 R (hoursS R h (laidS R)) → (∀ g j, j < ln → (g < h ∨ (g = h ∧ j < i)) → N.1 69 (10 * g + j) = so1 R L g j) → ∃ N', fX6_goes_16 k7 (nI h) n (nI i) N = k7 (nI (h + 1)) N' ∧ AM N' R W K kn L ln T tl ∧ MX N' 3 R (hoursS R (h + 1) (laidS R)) ∧ (∀ g j, j < ln → g < h + 1 → N'.1 69 (10 * g + j) = so1 R L g j) := by
  intro k
  induction k with
  | zero =>
    intro n i N e hn hB hw hm
    obtain ⟨n, rfl⟩ : ∃ k, n = k + 1 := ⟨n - 1, by omega⟩
    have hb := hoursS_h R h (laidS R)
    rw [laid_h] at hb
    obtain ⟨N1, b1, b2, b3⟩ := M_hour st_none (by omega) hw
    have b1 : fX6_hour 3 (-1) N = _ := b1
    rw [fX6_goes_16, hB.2.2.1.1, ifle (by omega) (by omega), if_pos (by omega), b1, bind_e, a1_e]
    exact ⟨N1, rfl, hB.trial hK b3, b2, fun g j hj hg => by rw [b3.1 69 (by omega) (by omega)]; exact hm g j hj (by omega)⟩
  | succ k ih =>
    intro n i N e hn hB hw hm
    obtain ⟨n, rfl⟩ : ∃ k, n = k + 1 := ⟨n - 1, by omega⟩
    obtain ⟨e1, e2, e3⟩ := hB.2.2.1.2 i (by omega)
    obtain ⟨l1, l2, l3⟩ := hL i (by omega)
    have h8 := hB.1.2.1.1.2.1
    have h6 := hB.1.2.1.1.1
    have hx := xend_le hB.1.2.1.1
    have hmi := hw.2.2.2.2.1 (L 0 i) (by omega)
    have hp := pAt_lt (R := R) (hoursS R h (laidS R) 0 (L 0 i)) hB.1.2.1.2.1
    have e75 : N.1 67 (75 + L 0 i) = _ := hw.2.2.2.1.1 (L 0 i) (by omega)
    rw [fX6_goes_16, hB.2.2.1.1, ifle (by omega) (by omega), if_neg (by omega), li3, mul_e, xchk_e (by omega) (by omega), cl_e (by omega), e1, show (75 : Int32) = nI 75 from rfl, add_e, xchk_e (by omega) (by omega), cl_e (by omega), e75, M_parishOf hB.1.2.2.1 hB.1.2.1 (by omega), bind_e, li1, add_e, xchk_e (by omega) (by omega), cl_e (by omega), e2, ifeq (by omega) (by omega)]
    unfold fX6_goes_72
    have go : ∀ t : Int32, vp_nar .boolean t = so1 R L h i → ∃ N', xchk ((10 * nI h) + nI i) 4210 (xl (up N 69 (((10 * nI h) + nI i) : Int32).toNatClampNeg (vp_nar .boolean t)) (fun M1 => fX6_goes_16 k7 (nI h) n (nI i + 1) M1)) = k7 (nI (h + 1)) N' ∧ AM N' R W K kn L ln T tl ∧ MX N' 3 R (hoursS R (h + 1) (laidS R)) ∧ (∀ g j, j < ln → g < h + 1 → N'.1 69 (10 * g + j) = so1 R L g j) := by
      intro t ht
      rw [li10, mul_e, add_e, xchk_e (by omega) (by omega), cl_e (by omega), xl_e, a1_e, ht]
      exact ih n (i + 1) _ (by omega) (by omega) (hB.keep hK (fun a q => up_ne (by omega)) (fun j q => by rw [up_ne (by omega)]) (fun j q => by rw [up_ne (by omega)])) (hw.keep (fun a q r => up_ne (by omega)) (fun j q r => by rw [up_ne (by omega)])) (fun g j hj hg => by
        rw [up_at]
        by_cases c : g = h ∧ j = i
        · rw [if_pos ⟨rfl, by omega⟩, c.1, c.2]
        · rw [if_neg (by omega)]; exact hm g j hj (by omega))
    by_cases q : pAt R (hoursS R h (laidS R) 0 (L 0 i)) = L 1 i
    · rw [if_pos q]
      exact go (nI 1) (by unfold so1 soS; simp [q]; rfl)
    · rw [if_neg q]
      exact go 0 (by unfold so1 soS; simp [q]; rfl)
theorem M_goes_7 (hK : kn ≤ 2) (hl : ln ≤ 10) (hL : ∀ k, k < ln → L 0 k < nm R ∧ L 1 k < np R ∧ L 2 k ≤ 400) : ∀ k n h N, 421 = h + k → k < n → AM N R W K kn L ln T tl → MX N 3 R (hoursS R h (laidS R)) → (∀ g j, j < ln → g < h → N.1 69 (10 * g + j) = so1 R L g j) → ∃ N', fX6_goes_7 n (nI h) N = some N' ∧ AM N' R W K kn L ln T tl ∧ (∀ g j, j < ln → g < 421 → N'.1 69 (10 * g + j) = so1 R L g j) := by
  intro k
  induction k with
  | zero =>
    intro n h N e hn hB hw hm
    obtain ⟨n, rfl⟩ : ∃ k, n = k + 1 := ⟨n - 1, by omega⟩
    rw [fX6_goes_7, show (420 : Int32) = nI 420 from rfl, iflt (by omega) (by omega), if_pos (by omega)]
    exact ⟨N, rfl, hB, fun g j hj hg => hm g j hj (by omega)⟩
  | succ k ih =>
    intro n h N e hn hB hw hm
    obtain ⟨n, rfl⟩ : ∃ k, n = k + 1 := ⟨n - 1, by omega⟩
    obtain ⟨N1, a1, a2, a3, a4⟩ := M_goes_16 (k7 := fun z0 z1 => fX6_goes_7 n z0 z1) (h := h) (by omega) hK hl hL ln xfuel 0 N (by omega) (by show _ < 1000; omega) hB hw (fun g j hj hg => hm g j hj (by omega))
    have a1 : fX6_goes_16 (fun z0 z1 => fX6_goes_7 n z0 z1) (nI h) xfuel 0 N = _ := a1
    rw [fX6_goes_7, show (420 : Int32) = nI 420 from rfl, iflt (by omega) (by omega), if_neg (by omega), a1]
    exact ih n (h + 1) N1 (by omega) (by omega) a2 a3 a4
theorem M_goes (hK : kn ≤ 2) (hl : ln ≤ 10) (hL : ∀ k, k < ln → L 0 k < nm R ∧ L 1 k < np R ∧ L 2 k ≤ 400) (hB : AM N R W K kn L ln T tl) : ∃ N', fX6_goes N = some N' ∧ AM N' R W K kn L ln T tl ∧ (∀ g j, j < ln → g < 421 → N'.1 69 (10 * g + j) = so1 R L g j) := by
  obtain ⟨N1, a1, a2, a3⟩ := M_laid (N := N) (s := 3) (by omega) hB.1.2.1 hB.1.2.2.1
  have a1 : fX6_laid 3 N = _ := a1
  unfold fX6_goes
  rw [a1, bind_e]
  exact M_goes_7 hK hl hL 421 xfuel 0 N1 (by omega) (by show _ < 1000; omega) (hB.trial hK a3) a2 (fun g j hj hg => absurd hg (by omega))
theorem so1_0 {α : Sort _} {h k : Nat} {a b : α} : (if so1 R L h k = 0 then a else b) = if soS R L h k then b else a := by
  unfold so1
  cases soS R L h k
  · rw [show (if (false : Bool) = true then (1 : Int32) else 0) = 0 from rfl, if_pos rfl, if_neg (by decide)]
  · rw [if_neg (by decide), if_pos rfl]
theorem M_wrong_l (hl : ln ≤ 10) (hL : ∀ k, k < ln → L 0 k < nm R ∧ L 1 k < np R ∧ L 2 k ≤ 400) (hB : AM N R W K kn L ln T tl) (hm : ∀ g j, j < ln → g < 421 → N.1 69 (10 * g + j) = so1 R L g j) : ∀ k n i, ln = i + k → k < n → fX6_wrong_8 N n (nI (mk (fun j => !soS R L (L 2 j) j) i)) (nI i) = some (nI (mk (fun j => !soS R L (L 2 j) j) ln), N) := by
  intro k
  induction k with
  | zero =>
    intro n i e hn
    obtain ⟨n, rfl⟩ : ∃ k, n = k + 1 := ⟨n - 1, by omega⟩
    rw [fX6_wrong_8, hB.2.2.1.1, ifle (by omega) (by omega), if_pos (by omega), show i = ln by omega]
  | succ k ih =>
    intro n i e hn
    obtain ⟨n, rfl⟩ : ∃ k, n = k + 1 := ⟨n - 1, by omega⟩
    obtain ⟨e1, e2, e3⟩ := hB.2.2.1.2 i (by omega)
    obtain ⟨l1, l2, l3⟩ := hL i (by omega)
    rw [fX6_wrong_8, hB.2.2.1.1, ifle (by omega) (by omega), if_neg (by omega), li3, li2, mul_e, add_e, xchk_e (by omega) (by omega), cl_e (by omega), e3, li10, mul_e, add_e, xchk_e (by omega) (by omega), cl_e (by omega), hm _ _ (by omega) (by omega), so1_0]
    unfold fX6_wrong_47
    simp only [xl_e, a1_e]
    cases q : soS R L (L 2 i) i
    · rw [if_neg (by decide), mk_t (f := fun j => !soS R L (L 2 j) j) (by omega) (by simp [q])]
      exact ih n (i + 1) (by omega) (by omega)
    · rw [if_pos rfl, li0, nI_or, Nat.or_zero, ← mk_f (f := fun j => !soS R L (L 2 j) j) (i := i) (by simp [q])]
      exact ih n (i + 1) (by omega) (by omega)
theorem X_beg (hA : AX M R W K kn L ln T tl) : ∃ M', fX4_begin 27 (rd (M.2 0)) M = some M' ∧ WX M' 27 R (laidS R) ∧ AX M' R W K kn L ln T tl := by
  obtain ⟨M1, a1, a2, a3, a4⟩ := X_begin (w := 27) (by unfold isW; omega) (isR_rd (M.2 0)) hA.1.2.1 hA.rdX
  exact ⟨M1, a1, a2, hA.trial a3 (fun a ha => by rw [a4]; exact if_neg ha)⟩
theorem AX.dia (hA : AX M R W K kn L ln T tl) : ln ≤ 10 ∧ ∀ k, k < ln → L 0 k < nm R ∧ L 1 k < np R ∧ L 2 k ≤ 400 := ⟨hA.2.2.2.2.1.1, fun k hk => (hA.2.2.2.2.1.2.2 k hk).2⟩
theorem p_wrong (hA : AX M R W K kn L ln T tl) (hB : AM N R W K kn L ln T tl) : Same M N (fX5_wrong M) (fX6_wrong N) := by
  obtain ⟨hl, hL⟩ := hA.dia
  obtain ⟨M1, a1, a2, a3⟩ := X_beg hA
  obtain ⟨M2, b1, b2⟩ := X_false_4 401 xfuel 0 M1 (by omega) (by show _ < 1000; omega) a3 a2
  have e0 : nI (mk (fL R L 0 0) ln) = 0 := by
    rw [li0]
    congr 1
    apply Nat.eq_of_testBit_eq
    intro i
    rw [mk_bit]
    unfold fL
    simp
  rw [e0] at b1
  have b1 : fX0_falseLines_4 27 xfuel 0 0 M1 = _ := b1
  obtain ⟨N1, c1, c2, c3⟩ := M_goes hA.2.2.2.1.1 hl hL hB
  have d1 := M_wrong_l hl hL c2 c3 ln xfuel 0 (by omega) (by show _ < 1000; omega)
  have d1 : fX6_wrong_8 N1 xfuel 0 0 = _ := d1
  unfold fX5_wrong fX6_wrong fX0_falseLines
  rw [a1, bind_e, b1, bind_e, c1, bind_e, d1]
  exact ⟨_, _, _, rfl, rfl, R, W, K, kn, L, ln, T, tl, b2, c2⟩
end
