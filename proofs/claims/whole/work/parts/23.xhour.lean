/-! THE CLASS: an hour, a night -/
theorem sub1_e {a : Nat} (h : 1 ≤ a) : nI a - 1 = nI (a - 1) := by rw [li1, sub_e h]
theorem am1_e : ∀ z : Nat, nI z + (-1) = nI z - 1
  | 0 => by decide
  | z + 1 => by rw [m1_e, s1_e]
theorem nB_f {f : Nat → Bool} {W : tR} {b i : Nat} (h : nB f W b i = true) : (W 1 i).testBit b = false := by
  unfold nB at h
  simp at h
  exact h.2
theorem yB_t {f : Nat → Bool} {W : tR} {b i : Nat} (h : yB f W b i = true) : (W 1 i).testBit b = true := by
  unfold yB at h
  simp at h
  exact h.2
theorem sgn_all : ∀ a, a < 50 → ∀ b, b < 50 → ((nI a - nI b ≤ 0) ↔ a ≤ b) ∧ ((0 ≤ nI a - nI b) ↔ b ≤ a) := by decide +kernel
theorem X_clearInns_l {M0 : xm} {w : Nat} {R : tR} {k10 : Int32 → xm → Option xm} {p : Nat} (hp0 : 1 ≤ p) (hp : p < np R) {f : Nat → Bool} : ∀ k m n M W (x3 : Int32), WX M w R W → sameX M0 M w → k ≤ nm R → k < n → m ≤ 8 → (x3 ≤ 0 ↔ m = 0) → (0 < m → x3 = nI m) → ∃ M', fX4_clearInns_46 w k10 (nI p) (nI (mk f (nm R))) n x3 (nI k - 1) M = fX4_clearInns_92 w k10 (nI p) M' ∧ WX M' w R (bedI R p f k m W) ∧ sameX M0 M' w := by
  intro k
  induction k with
  | zero =>
    intro m n M W x3 h hs hk hn hm88 h3 h4
    obtain ⟨n, rfl⟩ : ∃ k, n = k + 1 := ⟨n - 1, by omega⟩
    rw [fX4_clearInns_46, if_pos (by decide)]
    exact ⟨M, rfl, h, hs⟩
  | succ k ih =>
    intro m n M W x3 h hs hk hn hm88 h3 h4
    obtain ⟨n, rfl⟩ : ∃ k, n = k + 1 := ⟨n - 1, by omega⟩
    have hR := h.2.1
    have hm8 := hR.1.2.1
    have h6 := hR.1.1
    have hl := mk_lt f (nm R)
    have hl2 : 2 ^ nm R ≤ 2 ^ 8 := Nat.pow_le_pow_right (by decide) hm8
    rw [fX4_clearInns_46, s1_e, if_neg (nI_pos (by omega))]
    unfold bedI
    by_cases q : m = 0
    · rw [if_pos (h3.mpr q), if_pos q]
      exact ⟨M, rfl, h, hs⟩
    · rw [if_neg (fun e => q (h3.mp e)), if_neg q, bit1 (by omega) (by omega), mk_bit]
      have hx3 := h4 (by omega)
      obtain ⟨m, rfl⟩ : ∃ z, m = z + 1 := ⟨m - 1, by omega⟩
      have hx : k < nm R := by omega
      cases hf : f k
      · rw [if_neg (by simp), if_neg (by simp), fX4_clearInns_86, am1_e]
        exact ih (m + 1) n M W x3 h hs (by omega) (by omega) hm88 h3 h4
      · rw [if_pos (by simp [hx]), if_pos rfl]
        have hfm := h.2.2.1.2.2.2.2.2.2.2.2.1 p hp
        have hge := fm_mono hR.1 p 0 (by omega) (by omega)
        have hfe := fm_end hR.1 (p := p) (by omega)
        rw [xchk_e (by omega) (by omega), xchk_e (by omega) (by omega), cl_e (by omega), cl_e (by omega), hfm, xl_e, sub1_e (by omega), hx3, m1_e, fX4_clearInns_86, am1_e]
        exact ih m n _ _ _ (h.mile (i := k) (x := fm R p - 1) (by omega) (by omega)) (hs.tr (sameX.up (by omega))) (by omega) (by omega) (by omega) (by
          have hm9 : m < 2147483648 := by omega
          constructor
          · intro q2; rcases Nat.eq_zero_or_pos m with z | z
            · exact z
            · exact absurd q2 (nI_nle z (by omega))
          · intro q2; subst q2; decide) (fun _ => rfl)
theorem X_clearInns {M0 : xm} {w : Nat} {R : tR} : ∀ p n M W, p < np R → p < n → WX M w R W → sameX M0 M w → ∃ M', fX4_clearInns_10 w n (nI p) M = some M' ∧ WX M' w R (bedS R p W) ∧ sameX M0 M' w := by
  intro p
  induction p with
  | zero =>
    intro n M W hp hn h hs
    obtain ⟨n, rfl⟩ : ∃ k, n = k + 1 := ⟨n - 1, by omega⟩
    rw [fX4_clearInns_10, if_pos (by decide)]
    exact ⟨M, rfl, h, hs⟩
  | succ p ih =>
    intro n M W hp hn h hs
    obtain ⟨n, rfl⟩ : ∃ k, n = k + 1 := ⟨n - 1, by omega⟩
    have hR := h.2.1
    have hm8 := hR.1.2.1
    have h6 := hR.1.1
    have hb := (hR.1.2.2.2.2.1 (p + 1) hp).2.2.2
    have hc := cnt_le (inP R W (p + 1)) (nm R)
    rw [fX4_clearInns_10, if_neg (nI_nle (by omega) (by omega)), X_thoseIn h hp, bind_e, pop_mk hm8, bind_e, xchk_e (by omega) (by omega), xl_e, xl_e, cl_e (by omega), h.2.2.1.2.2.2.2.2.2.2.1 _ hp, h.2.2.1.2.2.1]
    have hsg := sgn_all (cnt (inP R W (p + 1)) (nm R)) (by omega) (R 3 (p + 1)) (by omega)
    obtain ⟨M', e1, e2, e3⟩ := X_clearInns_l (k10 := fun z0 z1 => fX4_clearInns_10 w n z0 z1) (by omega) hp (f := inP R W (p + 1)) (nm R) (cnt (inP R W (p + 1)) (nm R) - R 3 (p + 1)) xfuel M W _ h hs (Nat.le_refl _) (by show _ < 1000; omega) (by omega) (hsg.1.trans (by omega)) (fun q => sub_e (by omega))
    rw [e1, fX4_clearInns_92, m1_e]
    exact ih n M' _ (by omega) (by omega) e2 e3
-- minds
theorem mk_w {f : Nat → Bool} {n : Nat} (h : n ≤ 8) : mk f n = mk (fun i => decide (i < n) && f i) 8 := by
  rw [mk_more (n := n) (m := 8) (fun i => decide (i < n) && f i) h (fun i h1 h2 => by simp; omega)]
  exact mk_cong (fun i hi => by simp [hi])
theorem cnt_w {f : Nat → Bool} {n : Nat} (h : n ≤ 8) : cnt (fun i => decide (i < n) && f i) 8 = cnt f n := by
  rw [cnt_more (n := n) (m := 8) (fun i => decide (i < n) && f i) h (fun i h1 h2 => by simp; omega)]
  exact cnt_cong (fun i hi => by simp [hi])
theorem fst1_all (f : Nat → Bool) {n k : Nat} (hk : k < n) (hf : f k = true) (hn : ∀ i, i < k → f i = false) : fst1 f n = k := by
  have h1 := fst1_le f n
  have h2 := fst1_no f n
  have h3 := fst1_yes f n
  rcases Nat.lt_trichotomy (fst1 f n) k with q | q | q
  · have := hn _ q
    rw [h3 (by omega)] at this
    cases this
  · exact q
  · rw [h2 k q] at hf
    cases hf
theorem fst1_non (f : Nat → Bool) {n : Nat} (hn : ∀ i, i < n → f i = false) : fst1 f n = n := by
  have h1 := fst1_le f n
  have h3 := fst1_yes f n
  rcases Nat.lt_or_ge (fst1 f n) n with q | q
  · rw [hn _ q] at h3
    cases h3 q
  · omega
theorem fst1_w {f : Nat → Bool} {n : Nat} (h : n ≤ 8) : (if fst1 (fun i => decide (i < n) && f i) 8 < 8 then 2 ^ fst1 (fun i => decide (i < n) && f i) 8 else 0) = if fst1 f n < n then 2 ^ fst1 f n else 0 := by
  have h1 := fst1_le f n
  have h2 := fst1_no f n
  have h3 := fst1_yes f n
  rcases Nat.lt_or_ge (fst1 f n) n with q | q
  · rw [fst1_all (fun i => decide (i < n) && f i) (n := 8) (k := fst1 f n) (by omega) (by simp [q, h3 q]) (fun i hi => by simp [h2 i hi]), if_pos (by omega), if_pos q]
  · rw [fst1_non (fun i => decide (i < n) && f i) (n := 8) (fun i hi => by
      by_cases c : i < n
      · simp [h2 i (by omega)]
      · simp [c]), if_neg (by omega), if_neg (by omega)]
theorem or_one {g : Nat → Bool} {i : Nat} (hi : i < 8) : mk g 8 ||| 2 ^ i = mk (fun j => g j || decide (j = i)) 8 := by
  apply Nat.eq_of_testBit_eq
  intro j
  rw [Nat.testBit_or, mk_bit, mk_bit, Nat.testBit_two_pow]
  by_cases q : j < 8
  · by_cases e : i = j
    · subst e; simp [q]
    · simp [q, e, Ne.symm e]
  · simp [q]; omega
theorem andn_one {g : Nat → Bool} {i : Nat} : nI (mk g 8) &&& (nI (2 ^ i) ^^^ (-1)) = nI (mk (fun j => g j && !decide (j = i)) 8) := by
  have hl := mk_lt g 8
  rw [nI_andn _ _ (by omega)]
  congr 1
  apply Nat.eq_of_testBit_eq
  intro j
  rw [mk_bit, mk_bit, mk_bit, Nat.testBit_two_pow]
  by_cases q : j < 8
  · have : j < 31 := by omega
    by_cases e : i = j
    · subst e; simp [q]
    · simp [q, e, Ne.symm e, this]
  · simp [q]
theorem andn_zero {g : Nat → Bool} : nI (mk g 8) &&& (nI 0 ^^^ (-1)) = nI (mk g 8) := by
  rw [nI_andn _ _ (by have := mk_lt g 8; omega)]
  congr 1
  apply Nat.eq_of_testBit_eq
  intro j
  rw [mk_bit, mk_bit]
  by_cases q : j < 8
  · have : j < 31 := by omega
    simp [q, this]
  · simp [q]
theorem X_swayed {M : xm} {R W : tR} (hR : okR R) (f : Nat → Bool) (b : Nat) : fX4_swayed (nI (mk f (nm R))) (nI (mk (fun i => (W 1 i).testBit b) 8)) M = some (nI (mk (fun j => (swayS R f b W 1 j).testBit b) 8)) := by
  have hm := hR.2.1
  have hy : nI (mk f (nm R)) &&& nI (mk (fun i => (W 1 i).testBit b) 8) = nI (mk (fun i => decide (i < nm R) && yB f W b i) 8) := by
    rw [mk_w hm, nI_and, mk_and]
    congr 1
    exact mk_cong (fun i hi => by unfold yB; rw [Bool.and_assoc])
  have hn : nI (mk f (nm R)) &&& (nI (mk (fun i => (W 1 i).testBit b) 8) ^^^ (-1)) = nI (mk (fun i => decide (i < nm R) && nB f W b i) 8) := by
    rw [mk_w hm, andn_mk _ _ (by omega)]
    congr 1
    exact mk_cong (fun i hi => by unfold nB; rw [Bool.and_assoc])
  unfold fX4_swayed fX4_swayed_50 fX5_lowestOf
  have hcy := cnt_le (yB f W b) (nm R)
  have hcn := cnt_le (nB f W b) (nm R)
  simp only [xl_e]
  rw [hy, hn, pop_mk (by omega), bind_e, pop_mk (by omega), bind_e, cnt_w hm, cnt_w hm]
  have hsg := sgn_all (cnt (yB f W b) (nm R)) (by omega) (cnt (nB f W b) (nm R)) (by omega)
  have fl : ∀ i j, i < nm R → (flipW W i b 1 j).testBit b = if j = i then !(W 1 j).testBit b else (W 1 j).testBit b := by
    intro i j hi
    unfold flipW
    rw [upW_e]
    by_cases q : j = i
    · rw [if_pos ⟨rfl, q⟩, if_pos q, q, xor_bit, if_pos rfl]
    · rw [if_neg (by omega), if_neg q]
  unfold swayS
  by_cases c1 : cnt (nB f W b) (nm R) < cnt (yB f W b) (nm R)
  · rw [if_neg (fun e => by have := hsg.1.mp e; omega), if_pos c1]
    simp only [bind_e]
    rw [low_mk, fst1_w hm]
    by_cases q : fst1 (nB f W b) (nm R) < nm R
    · rw [if_pos q, if_pos q, nI_or, or_one (by omega)]
      congr 2
      refine mk_cong (fun j hj => ?_)
      rw [fl _ _ q]
      have hh := fst1_yes (nB f W b) (nm R) q
      by_cases e : j = fst1 (nB f W b) (nm R)
      · subst e
        simp [nB_f hh]
      · simp [e]
    · rw [if_neg q, if_neg q, nI_or, Nat.or_zero]
  · rw [if_pos (hsg.1.mpr (by omega)), if_neg c1]
    by_cases c2 : cnt (yB f W b) (nm R) < cnt (nB f W b) (nm R)
    · rw [if_neg (fun e => by have := hsg.2.mp e; omega), if_pos c2]
      simp only [bind_e]
      rw [low_mk, fst1_w hm]
      by_cases q : fst1 (yB f W b) (nm R) < nm R
      · rw [if_pos q, if_pos q, andn_one]
        congr 2
        refine mk_cong (fun j hj => ?_)
        rw [fl _ _ q]
        have hh := fst1_yes (yB f W b) (nm R) q
        by_cases e : j = fst1 (yB f W b) (nm R)
        · subst e
          simp [yB_t hh]
        · simp [e]
      · rw [if_neg q, if_neg q, andn_zero]
    · rw [if_pos (hsg.2.mpr (by omega)), if_neg c2]
theorem WX.sway {M : xm} {w : Nat} {R W : tR} (h : WX M w R W) (f : Nat → Bool) {b : Nat} (hb : b < 4) : WX (up M (w + 2) b (nI (mk (fun j => (swayS R f b W 1 j).testBit b) 8))) w R (swayS R f b W) := by
  have hm := h.2.1.1.2.1
  unfold swayS
  split
  · split
    · exact h.flip (by omega) hb rfl
    · exact h.noflip hb rfl
  · split
    · split
      · exact h.flip (by omega) hb rfl
      · exact h.noflip hb rfl
    · exact h.noflip hb rfl
theorem X_changeMinds_l {M0 : xm} {w : Nat} {R : tR} {k2 : Int32 → xm → Option xm} {p : Nat} {f : Nat → Bool} {W : tR} : ∀ j n b M, nb R = b + j → j < n → WX M w R (swayB R f b W) → sameX M0 M w → ∃ M', fX4_changeMinds_21 w k2 (nI p) (nI (mk f (nm R))) n (nI b) M = k2 (nI (p + 1)) M' ∧ WX M' w R (swayB R f (nb R) W) ∧ sameX M0 M' w := by
  intro j
  induction j with
  | zero =>
    intro n b M e hn h hs
    obtain ⟨n, rfl⟩ : ∃ k, n = k + 1 := ⟨n - 1, by omega⟩
    have h4 := h.2.1.1.2.2.2.1
    rw [fX4_changeMinds_21, h.2.2.1.2.2.2.2.1, ifle (by omega) (by omega), if_pos (by omega), a1_e, show nb R = b by omega]
    exact ⟨M, rfl, h, hs⟩
  | succ j ih =>
    intro n b M e hn h hs
    obtain ⟨n, rfl⟩ : ∃ k, n = k + 1 := ⟨n - 1, by omega⟩
    have h4 := h.2.1.1.2.2.2.1
    rw [fX4_changeMinds_21, h.2.2.1.2.2.2.2.1, ifle (by omega) (by omega), if_neg (by omega), xchk_e (by omega) (by omega), cl_e (by omega), h.2.2.2.1.2.1 b (by omega), X_swayed h.2.1.1, bind_e, xchk_e (by omega) (by omega), xl_e, a1_e]
    exact ih n (b + 1) _ (by omega) (by omega) (h.sway f (by omega)) (hs.tr (sameX.up (by omega)))
theorem X_changeMinds {M0 : xm} {w : Nat} {R W : tR} : ∀ j n p M, np R = p + j → j < n → WX M w R (mindS R p W) → sameX M0 M w → ∃ M', fX4_changeMinds_2 w n (nI p) M = some M' ∧ WX M' w R (mindS R (np R) W) ∧ sameX M0 M' w := by
  intro j
  induction j with
  | zero =>
    intro n p M e hn h hs
    obtain ⟨n, rfl⟩ : ∃ k, n = k + 1 := ⟨n - 1, by omega⟩
    have h6 := h.2.1.1.1
    rw [fX4_changeMinds_2, h.2.2.1.1, ifle (by omega) (by omega), if_pos (by omega), show np R = p by omega]
    exact ⟨M, rfl, h, hs⟩
  | succ j ih =>
    intro n p M e hn h hs
    obtain ⟨n, rfl⟩ : ∃ k, n = k + 1 := ⟨n - 1, by omega⟩
    have h6 := h.2.1.1.1
    have h4 := h.2.1.1.2.2.2.1
    rw [fX4_changeMinds_2, h.2.2.1.1, ifle (by omega) (by omega), if_neg (by omega), X_thoseIn h (by omega), bind_e]
    obtain ⟨M', e1, e2, e3⟩ := X_changeMinds_l (k2 := fun z0 z1 => fX4_changeMinds_2 w n z0 z1) (p := p) (f := inP R (mindS R p W) p) (W := mindS R p W) (nb R) xfuel 0 M (by omega) (by show _ < 1000; omega) h hs
    rw [show (0 : Int32) = nI 0 from rfl, e1]
    exact ih n (p + 1) M' (by omega) (by omega) e2 e3
-- an hour
theorem X_goHour_l {M0 : xm} {w : Nat} {R W : tR} {st : Int32} {still : Nat} (hst : ∀ i, i < 8 → (nI i = st ↔ i = still)) (hh : W 4 0 < 1000000) : ∀ k n i M, nm R = i + k → k < n → WX M w R (moveK R W still i) → sameX M0 M w → ∃ M', fX4_goHour_2 w st n (nI i) M = some M' ∧ WX M' w R (hourS R W still) ∧ sameX M0 M' w := by
  intro k
  induction k with
  | zero =>
    intro n i M e hn h hs
    obtain ⟨n, rfl⟩ : ∃ k, n = k + 1 := ⟨n - 1, by omega⟩
    have hm8 := h.2.1.1.2.1
    have h6 := h.2.1.1.1
    have h1 := h.2.1.2.1
    have e0 : moveK R W still (nm R) 4 0 = W 4 0 := by unfold moveK; rw [if_neg (by omega)]
    rw [show i = nm R by omega] at h ⊢
    rw [fX4_goHour_2, h.2.2.1.2.2.1, ifle (by omega) (by omega), if_pos (by omega), h.2.2.2.1.2.2.2.2, e0, a1_e, xl_e]
    rw [show (up M w 5 (nI (W 4 0 + 1))).1 w 5 = nI (W 4 0 + 1) by rw [up_at, if_pos ⟨rfl, rfl⟩], li8, rem_e (by omega) (by omega) (by omega), li0, ifeq (by omega) (by omega)]
    have hH := h.hour (x := W 4 0 + 1)
    have hS : sameX M0 (up M w 5 (nI (W 4 0 + 1))) w := hs.tr (sameX.up (j := 0) (by omega))
    unfold hourS
    by_cases q : (W 4 0 + 1) % 8 = 0
    · rw [if_pos q, if_pos q]
      unfold fX4_clearInns fX4_changeMinds fX4_goHour_89
      rw [xl_e, hH.2.2.1.1, li1, sub_e (by omega)]
      obtain ⟨M1, a1, a2, a3⟩ := X_clearInns (M0 := M0) (np R - 1) xfuel _ _ (by omega) (by show _ < 1000; omega) hH hS
      rw [a1, bind_e]
      obtain ⟨M2, b1, b2, b3⟩ := X_changeMinds (M0 := M0) (W := bedS R (np R - 1) (upW (moveK R W still (nm R)) 4 0 (W 4 0 + 1))) (np R) xfuel 0 M1 (by omega) (by show _ < 1000; omega) a2 a3
      have b1 : fX4_changeMinds_2 w xfuel 0 M1 = some M2 := b1
      rw [b1, bind_e]
      exact ⟨M2, rfl, b2, b3⟩
    · rw [if_neg q, if_neg q]
      exact ⟨_, rfl, hH, hS⟩
  | succ k ih =>
    intro n i M e hn h hs
    obtain ⟨n, rfl⟩ : ∃ k, n = k + 1 := ⟨n - 1, by omega⟩
    have hm8 := h.2.1.1.2.1
    have hx := xend_le h.2.1.1
    rw [fX4_goHour_2, h.2.2.1.2.2.1, ifle (by omega) (by omega), if_neg (by omega)]
    by_cases q : i = still
    · rw [if_pos ((hst i (by omega)).mpr q), fX4_goHour_55, a1_e]
      exact ih n (i + 1) M (by omega) (by omega) (by rw [moveK_s, if_pos q]; exact h) hs
    · have e0 : moveK R W still i 0 i = W 0 i := by unfold moveK; rw [if_neg (by omega)]
      have hmi := h.2.2.2.2.1 i (by omega)
      rw [e0] at hmi
      have hstr := X_strideFrom (x := W 0 i) (i := i) h.2.2.1 h.2.1 (by omega) (by omega)
      have hsl := stride_le h.2.1.1 (i := i) (by omega) (W 0 i)
      have hmo := h.2.2.2.1.1 i (by omega)
      rw [e0] at hmo
      rw [if_neg (fun c => q ((hst i (by omega)).mp c)), xchk_e (by omega) (by omega), xchk_e (by omega) (by omega), cl_e (by omega), hmo, hstr, bind_e, xchk_e (by omega) (by omega), xl_e, add_e, h.2.2.1.2.1, iflt (by omega) (by omega), fX4_goHour_55, a1_e]
      have hg : (if W 0 i + stride R (W 0 i) i < xend R then nI (W 0 i + stride R (W 0 i) i) else nI (xend R)) = nI (go1 R W i) := by
        unfold go1
        split <;> rfl
      rw [hg]
      exact ih n (i + 1) _ (by omega) (by omega) (by rw [moveK_s, if_neg q]; exact h.mile (by omega) (go1_le R W i)) (hs.tr (sameX.up (by omega)))
theorem X_goHour {M : xm} {w : Nat} {R W : tR} {st : Int32} {still : Nat} (hst : ∀ i, i < 8 → (nI i = st ↔ i = still)) (hh : W 4 0 < 1000000) (h : WX M w R W) : ∃ M', fX4_goHour w st M = some M' ∧ WX M' w R (hourS R W still) ∧ sameX M M' w :=
  X_goHour_l hst hh (nm R) xfuel 0 M (by omega) (by have := h.2.1.1.2.1; show _ < 1000; omega) (by rw [moveK_0]; exact h) sameX.rf
theorem st_none : ∀ i, i < 8 → (nI i = (-1 : Int32) ↔ i = 8) := by decide +kernel
theorem st_some {k : Nat} (hk : k < 8) : ∀ i, i < 8 → (nI i = nI k ↔ i = k) := fun i hi => nI_eq (by omega) (by omega)
