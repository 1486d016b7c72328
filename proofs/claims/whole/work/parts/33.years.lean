/-! THE PROMISES: back, year, ten -/
section
variable {M N : xm} {R W : tR} {K : Nat → tR} {kn : Nat} {L : tR} {ln : Nat} {T : Nat → Int32} {tl : Nat}
theorem X_heldAhead {st : Int32} {still : Nat} (hst : ∀ i, i < 8 → (nI i = st ↔ i = still)) (hA : AX M R W K kn L ln T tl) : ∃ M', fX5_heldAhead st M = some (nI (mk (heldS R (runS R 199 (hourS R W still))) (nb R)), M') ∧ AX M' R W K kn L ln T tl := by
  have hh := hA.2.2.1
  obtain ⟨M1, a1, a2, a3⟩ := X_look hA (n := 0) (by omega)
  have a1 : fX5_lookAhead 0 M = _ := a1
  have a2 : WX M1 27 R W := a2
  obtain ⟨M2, b1, b2, b3⟩ := X_goHour hst (by omega) a2
  have hb := hourS_h R W still
  obtain ⟨M3, d1, d2, d3⟩ := X_readAllFor (N := 199) (by omega) (by omega) b2
  have d1 : fX4_readAllFor 27 199 M2 = _ := d1
  unfold fX5_heldAhead
  rw [a1, bind_e, b1, bind_e, d1, bind_e, X_allHeld d2, bind_e]
  exact ⟨M3, rfl, (a3.tr b3).tr d3⟩
theorem M_held_l {N0 : xm} {st : Int32} {still : Nat} (hh : W 4 0 ≤ 9999) : ∀ k n j N v, 200 = j + 1 + k → k + 1 < n → MX N 3 R (runS R j (hourS R W still)) → sameM N0 N 3 → v = nI (mk (heldS R (runS R j (hourS R W still))) (nb R)) → ∃ N', fX6_held_10 st n v (nI (j + 1)) N = some (nI (mk (heldS R (runS R 199 (hourS R W still))) (nb R)), N') ∧ sameM N0 N' 3 := by
  intro k
  induction k with
  | zero =>
    intro n j N v e hn h hs hv
    obtain ⟨n, rfl⟩ : ∃ k, n = k + 1 := ⟨n - 1, by omega⟩
    obtain rfl : j = 199 := by omega
    rw [fX6_held_10, show (200 : Int32) = nI 200 from rfl, ifle (by omega) (by omega), if_pos (by omega), hv]
    exact ⟨N, rfl, hs⟩
  | succ k ih =>
    intro n j N v e hn h hs hv
    obtain ⟨n, rfl⟩ : ∃ k, n = k + 1 := ⟨n - 1, by omega⟩
    have hb := runS_h R j (hourS R W still)
    have hb2 := hourS_h R W still
    obtain ⟨N1, e1, e2, e3⟩ := M_hour st_none (by omega) h
    have e1 : fX6_hour 3 (-1) N = _ := e1
    obtain ⟨N2, f1, f2, f3⟩ := M_readAll e2
    rw [fX6_held_10, show (200 : Int32) = nI 200 from rfl, ifle (by omega) (by omega), if_neg (by omega), li0, ifeq (by omega) (by omega), if_neg (by omega)]
    unfold fX6_held_28
    rw [e1, bind_e, f1, bind_e]
    dsimp only
    rw [a1_e]
    exact ih n (j + 1) N2 _ (by omega) (by omega) f2 ((hs.tr e3).tr f3) rfl
theorem M_held {st : Int32} {still : Nat} (hst : ∀ i, i < 8 → (nI i = st ↔ i = still)) (hk : kn ≤ 2) (hh : W 4 0 ≤ 9999) (hB : AM N R W K kn L ln T tl) : ∃ N', fX6_held st N = some (nI (mk (heldS R (runS R 199 (hourS R W still))) (nb R)), N') ∧ AM N' R W K kn L ln T tl := by
  obtain ⟨N1, b1, b2, b3⟩ := M_copies hB.1 (y := 3) (by omega) (by omega)
  have b1 : fX6_copies 0 3 N = _ := b1
  obtain ⟨N2, e1, e2, e3⟩ := M_hour hst (by omega) b2
  have e1 : fX6_hour 3 st N1 = _ := e1
  obtain ⟨N3, f1, f2, f3⟩ := M_readAll e2
  obtain ⟨N4, g1, g2⟩ := M_held_l (N0 := N) (st := st) (still := still) hh 199 999 0 N3 _ (by omega) (by omega) f2 ((b3.tr e3).tr f3) rfl
  unfold fX6_held
  rw [b1, bind_e, show xfuel = 999 + 1 from rfl, fX6_held_10, if_neg (by decide), if_pos rfl]
  unfold fX6_held_28
  rw [e1, bind_e, f1, bind_e]
  dsimp only
  have g1 : fX6_held_10 st 999 (nI (mk (heldS R (readB R (nb R) (hourS R W still))) (nb R))) (nI (0 + 1)) N3 = _ := g1
  rw [li0, a1_e, g1]
  exact ⟨N4, rfl, hB.trial hk g2⟩
theorem mk_small (f : Nat → Bool) {n : Nat} (hn : n ≤ 4) : mk f n < 16 := Nat.lt_of_lt_of_le (mk_lt f n) (Nat.pow_le_pow_right (by decide) hn)
theorem p_back (x1 : Int32) (hA : AX M R W K kn L ln T tl) (hB : AM N R W K kn L ln T tl) : Same M N (fX5_back x1 M) (fX6_back x1 N) := by
  have h4 := hA.1.2.1.1.2.2.2.1
  have h8 := hA.1.2.1.1.2.1
  have hk := hA.2.2.2.1.1
  have hh := hA.2.2.1
  unfold fX5_back fX6_back
  rcases G_member x1 hA.rdX hB.1.2.2.1 hA.1.2.1 with ⟨i, hi, rfl, g1, g2⟩ | ⟨g1, g2, -⟩
  · have m1 := hB.1.2.2.2.1.2.1 i (by omega)
    rw [show 25 * 0 + 8 + i = 8 + i by omega] at m1
    have hw := hA.1.2.2.2.2.2.1 i (by omega)
    obtain ⟨M1, a1, a2⟩ := X_heldAhead st_none hA
    obtain ⟨M2, a3, a4⟩ := X_heldAhead (st_some (k := i) (by omega)) a2
    obtain ⟨N1, b1, b2⟩ := M_held (st_some (k := i) (by omega)) hk hh hB
    obtain ⟨N2, b3, b4⟩ := M_held st_none hk hh b2
    have s1 := mk_small (heldS R (runS R 199 (hourS R W 8))) h4.2
    have s2 := mk_small (heldS R (runS R 199 (hourS R W i))) h4.2
    have t1 : mk (heldS R (runS R 199 (hourS R W 8))) (nb R) &&& W 1 i < 16 := Nat.and_lt_two_pow (n := 4) _ hw
    have t2 : mk (heldS R (runS R 199 (hourS R W i))) (nb R) &&& W 1 i < 16 := Nat.and_lt_two_pow (n := 4) _ hw
    rw [g1, g2, bind_e, bind_e, i1n0, i1n0, X_mindOf hA.1 (by omega), bind_e, a1, bind_e, li8, add_e, xchk_e (by omega) (by omega), cl_e (by omega), m1, xl_e, b1, bind_e]
    dsimp only
    rw [nI_and, nI_and, pop_e (by omega), bind_e, a3, bind_e, many_e (by omega), bind_e, b3, bind_e]
    dsimp only
    rw [nI_and, nI_and, pop_e (by omega), bind_e, many_e (by omega), bind_e]
    exact ⟨_, _, _, rfl, rfl, R, W, K, kn, L, ln, T, tl, a4, b4⟩
  · rw [g1, g2]
    exact stay_b hA hB _
-- years
def dm (z i : Nat) : Nat := ((7919 * z + 6151 * i + 1) * (7919 * z + 6151 * i + 1)) % 65521 % 16
theorem dm_lt (z i : Nat) : dm z i < 16 := Nat.mod_lt _ (by decide)
theorem draw_e {z i : Nat} (hz : z < 10000) (hi : i < 8) : Int64.toInt32 ((((((7919 : Int64) * (Int32.toInt64 (nI z))) + (6151 * (Int32.toInt64 (nI i)))) + 1) * (((7919 * (Int32.toInt64 (nI z))) + (6151 * (Int32.toInt64 (nI i)))) + 1) - (((7919 * (Int32.toInt64 (nI z))) + (6151 * (Int32.toInt64 (nI i)))) + 1) * (((7919 * (Int32.toInt64 (nI z))) + (6151 * (Int32.toInt64 (nI i)))) + 1) / 65521 * 65521) - ((((7919 * (Int32.toInt64 (nI z))) + (6151 * (Int32.toInt64 (nI i)))) + 1) * (((7919 * (Int32.toInt64 (nI z))) + (6151 * (Int32.toInt64 (nI i)))) + 1) - (((7919 * (Int32.toInt64 (nI z))) + (6151 * (Int32.toInt64 (nI i)))) + 1) * (((7919 * (Int32.toInt64 (nI z))) + (6151 * (Int32.toInt64 (nI i)))) + 1) / 65521 * 65521) / 16 * 16) = nI (dm z i) := by
  have hx : 7919 * z + 6151 * i + 1 < 80000000 := by omega
  have hx2 : (7919 * z + 6151 * i + 1) * (7919 * z + 6151 * i + 1) < 2 ^ 63 := by
    have := Nat.mul_lt_mul'' hx hx
    omega
  have hm : (7919 * z + 6151 * i + 1) * (7919 * z + 6151 * i + 1) % 65521 < 65521 := Nat.mod_lt _ (by decide)
  rw [nI_l (by omega), nI_l (by omega), show (7919 : Int64) = lN 7919 from rfl, show (6151 : Int64) = lN 6151 from rfl, lN_mul, lN_mul, lN_add, show (1 : Int64) = lN 1 from rfl, lN_add, lN_mul, show (65521 : Int64) = lN 65521 from rfl, pk_lRem hx2 (by omega) (by omega), show (16 : Int64) = lN 16 from rfl, pk_lRem (by omega) (by omega) (by omega), lN_i]
  rfl
/-- a year: the first k members have drawn -/
def yrS (R : tR) (z k : Nat) : tR := fun a b => if a = 1 ∧ b < k then dm z b else laidS R a b
theorem yrS_0 (R : tR) (z : Nat) : yrS R z 0 = laidS R := by
  funext a b
  unfold yrS
  rw [if_neg (by omega)]
theorem yrS_s (R : tR) (z k : Nat) : upW (yrS R z k) 1 k (dm z k) = yrS R z (k + 1) := by
  funext a b
  rw [upW_e]
  unfold yrS
  by_cases q : a = 1 ∧ b = k
  · rw [if_pos q, if_pos (by omega), q.2]
  · rw [if_neg q]
    by_cases q2 : a = 1 ∧ b < k
    · rw [if_pos q2, if_pos (by omega)]
    · rw [if_neg q2, if_neg (by omega)]
theorem yrS_h (R : tR) (z k : Nat) : yrS R z k 4 0 = 0 := by
  unfold yrS laidS
  rw [if_neg (by omega), if_neg (by omega)]
theorem X_year_l {z : Nat} (hz : z < 10000) : ∀ k n i M, nm R = i + k → k < n → AX M R W K kn L ln T tl → WX M 27 R (yrS R z i) → ∃ M', fX5_heldInYear_13 (nI z) n (nI i) M = some (nI (mk (heldS R (runS R 200 (yrS R z (nm R)))) (nb R)), M') ∧ AX M' R W K kn L ln T tl := by
  intro k
  induction k with
  | zero =>
    intro n i M e hn hA h
    obtain ⟨n, rfl⟩ : ∃ k, n = k + 1 := ⟨n - 1, by omega⟩
    have h8 := hA.1.2.1.1.2.1
    rw [show i = nm R by omega] at h ⊢
    have hy := yrS_h R z (nm R)
    obtain ⟨M1, d1, d2, d3⟩ := X_readAllFor (N := 200) (by omega) (by omega) h
    have d1 : fX4_readAllFor 27 200 M = _ := d1
    rw [fX5_heldInYear_13, hA.rdX.2.2.1, ifle (by omega) (by omega), if_pos (Nat.le_refl _), d1, bind_e, X_allHeld d2, bind_e]
    exact ⟨M1, rfl, hA.tr d3⟩
  | succ k ih =>
    intro n i M e hn hA h
    obtain ⟨n, rfl⟩ : ∃ k, n = k + 1 := ⟨n - 1, by omega⟩
    have h8 := hA.1.2.1.1.2.1
    obtain ⟨M1, a1, a2, a3⟩ := X_setMind (i := i) (m := dm z i) (by omega) (dm_lt z i) h.2.2.2.1
    rw [fX5_heldInYear_13, hA.rdX.2.2.1, ifle (by omega) (by omega), if_neg (by omega)]
    unfold fX5_drawnMind
    rw [xl_e, draw_e hz (by omega), bind_e, a1, bind_e, a1_e]
    refine ih n (i + 1) M1 (by omega) (by omega) (hA.tr a3) (h.same a3 ?_ ?_)
    · rw [← yrS_s]; exact a2
    · rw [← yrS_s]; exact okW_mind h.2.2.2.2 (dm_lt z i)
theorem X_year {z : Nat} (hz : z < 10000) (hA : AX M R W K kn L ln T tl) : ∃ M', fX5_heldInYear (nI z) M = some (nI (mk (heldS R (runS R 200 (yrS R z (nm R)))) (nb R)), M') ∧ AX M' R W K kn L ln T tl := by
  have h8 := hA.1.2.1.1.2.1
  obtain ⟨M1, a1, a2, a3, a4⟩ := X_begin (w := 27) (by unfold isW; omega) (isR_rd (M.2 0)) hA.1.2.1 hA.rdX
  unfold fX5_heldInYear
  rw [a1, bind_e]
  exact X_year_l hz (nm R) xfuel 0 M1 (by omega) (by show _ < 1000; omega) (hA.trial a3 (fun a ha => by rw [a4]; exact if_neg ha)) (by rw [yrS_0]; exact a2)
theorem M_year_67 {N0 : xm} {Y : tR} (hY : Y 4 0 = 0) : ∀ k n j N v, 200 = j + k → k < n → MX N 3 R (runS R j Y) → sameM N0 N 3 → v = nI (mk (heldS R (runS R j Y)) (nb R)) → ∃ N', fX6_yearOf_67 n v (nI j) N = some (nI (mk (heldS R (runS R 200 Y)) (nb R)), N') ∧ sameM N0 N' 3 := by
  intro k
  induction k with
  | zero =>
    intro n j N v e hn h hs hv
    obtain ⟨n, rfl⟩ : ∃ k, n = k + 1 := ⟨n - 1, by omega⟩
    obtain rfl : j = 200 := by omega
    rw [fX6_yearOf_67, show (200 : Int32) = nI 200 from rfl, ifle (by omega) (by omega), if_pos (by omega), hv]
    exact ⟨N, rfl, hs⟩
  | succ k ih =>
    intro n j N v e hn h hs hv
    obtain ⟨n, rfl⟩ : ∃ k, n = k + 1 := ⟨n - 1, by omega⟩
    have hb := runS_h R j Y
    obtain ⟨N1, e1, e2, e3⟩ := M_hour st_none (by omega) h
    have e1 : fX6_hour 3 (-1) N = _ := e1
    obtain ⟨N2, f1, f2, f3⟩ := M_readAll e2
    rw [fX6_yearOf_67, show (200 : Int32) = nI 200 from rfl, ifle (by omega) (by omega), if_neg (by omega), e1, bind_e, f1, bind_e]
    dsimp only
    rw [a1_e]
    exact ih n (j + 1) N2 _ (by omega) (by omega) f2 ((hs.tr e3).tr f3) rfl
theorem M_year_7 {N0 : xm} {z : Nat} (hz : z < 10000) : ∀ k n i N, nm R = i + k → k < n → MX N 3 R (yrS R z i) → sameM N0 N 3 → ∃ N', fX6_yearOf_7 (nI z) n (nI i) N = some (nI (mk (heldS R (runS R 200 (yrS R z (nm R)))) (nb R)), N') ∧ sameM N0 N' 3 := by
  intro k
  induction k with
  | zero =>
    intro n i N e hn h hs
    obtain ⟨n, rfl⟩ : ∃ k, n = k + 1 := ⟨n - 1, by omega⟩
    have h8 := h.2.1.1.2.1
    rw [show i = nm R by omega] at h ⊢
    have hy := yrS_h R z (nm R)
    obtain ⟨N1, a1, a2, a3⟩ := M_readAll h
    obtain ⟨N2, b1, b2⟩ := M_year_67 (N0 := N0) hy 200 xfuel 0 N1 _ (by omega) (by show _ < 1000; omega) a2 (hs.tr a3) rfl
    rw [fX6_yearOf_7, xc0 (by omega) (by omega), c0, h.2.2.1.2.1, ifle (by omega) (by omega), if_pos (Nat.le_refl _), a1, bind_e]
    exact ⟨N2, b1, b2⟩
  | succ k ih =>
    intro n i N e hn h hs
    obtain ⟨n, rfl⟩ : ∃ k, n = k + 1 := ⟨n - 1, by omega⟩
    have h8 := h.2.1.1.2.1
    have h2 := h.mind (i := i) (x := dm z i) (by omega) (dm_lt z i)
    rw [yrS_s] at h2
    rw [fX6_yearOf_7, xc0 (by omega) (by omega), c0, h.2.2.1.2.1, ifle (by omega) (by omega), if_neg (by omega), xl_e, draw_e hz (by omega), show (83 : Int32) = nI 83 from rfl, add_e, xchk_e (by omega) (by omega), cl_e (by omega), xl_e, a1_e]
    exact ih n (i + 1) _ (by omega) (by omega) h2 (hs.tr (sameM.slot (by omega) (by omega)))
theorem M_year {z : Nat} (hz : z < 10000) (hk : kn ≤ 2) (hB : AM N R W K kn L ln T tl) : ∃ N', fX6_yearOf (nI z) N = some (nI (mk (heldS R (runS R 200 (yrS R z (nm R)))) (nb R)), N') ∧ AM N' R W K kn L ln T tl := by
  have h8 := hB.1.2.1.1.2.1
  obtain ⟨N1, a1, a2, a3⟩ := M_laid (N := N) (s := 3) (by omega) hB.1.2.1 hB.1.2.2.1
  have a1 : fX6_laid 3 N = _ := a1
  obtain ⟨N2, b1, b2⟩ := M_year_7 (N0 := N) (R := R) hz (nm R) xfuel 0 N1 (by omega) (by show _ < 1000; omega) (by rw [yrS_0]; exact a2) a3
  unfold fX6_yearOf
  rw [a1, bind_e]
  exact ⟨N2, b1, hB.trial hk b2⟩
theorem p_year (x1 : Int32) (hA : AX M R W K kn L ln T tl) (hB : AM N R W K kn L ln T tl) : Same M N (fX5_year x1 M) (fX6_year x1 N) := by
  unfold fX5_year fX6_year fX5_year_16 fX6_year_16
  rcases G_year x1 M N with ⟨z, hz, rfl, g1, g2⟩ | ⟨g1, g2, -⟩
  · obtain ⟨M1, a1, a2⟩ := X_year hz hA
    obtain ⟨N1, b1, b2⟩ := M_year hz hA.2.2.2.1.1 hB
    rw [g1, g2, bind_e, bind_e, i1n0, i1n0, a1, b1, bind_e, bind_e]
    exact ⟨_, _, _, rfl, rfl, R, W, K, kn, L, ln, T, tl, a2, b2⟩
  · rw [g1, g2]
    exact stay_b hA hB _
theorem bit_mk {f : Nat → Bool} {n b : Nat} (hn : n ≤ 4) (hb : b < n) : ((nI (mk f n) >>> (nI b &&& 31)) &&& 1) = nI (if f b then 1 else 0) := by
  have := mk_small f hn
  rw [bit_e (by omega) (by omega), mk_bit]
  simp [hb]
theorem ten_l {z b : Nat} (hz : z < 10000) (hb : b < nb R) : ∀ k n j M N v, 10 = j + k → k < n → AX M R W K kn L ln T tl → AM N R W K kn L ln T tl → Same M N (fX5_ten_22 (nI z) (nI b) n v (nI j) M) (fX6_ten_22 (nI z) (nI b) n v (nI j) N) := by
  intro k
  induction k with
  | zero =>
    intro n j M N v e hn hA hB
    obtain ⟨n, rfl⟩ : ∃ k, n = k + 1 := ⟨n - 1, by omega⟩
    rw [fX5_ten_22, fX6_ten_22, li10, ifle (by omega) (by omega), ifle (by omega) (by omega), if_pos (by omega), if_pos (by omega)]
    exact stay_b hA hB _
  | succ k ih =>
    intro n j M N v e hn hA hB
    obtain ⟨n, rfl⟩ : ∃ k, n = k + 1 := ⟨n - 1, by omega⟩
    have h4 := hA.1.2.1.1.2.2.2.1
    have hz2 : (z + j) % 10000 < 10000 := Nat.mod_lt _ (by decide)
    obtain ⟨M1, a1, a2⟩ := X_year hz2 hA
    obtain ⟨N1, b1, b2⟩ := M_year hz2 hA.2.2.2.1.1 hB
    rw [fX5_ten_22, fX6_ten_22, li10, ifle (by omega) (by omega), ifle (by omega) (by omega), if_neg (by omega), if_neg (by omega), add_e, show (10000 : Int32) = nI 10000 from rfl, rem_e (by omega) (by omega) (by omega), a1, b1, bind_e, bind_e]
    dsimp only
    rw [bit_mk h4.2 hb, xl_e, xl_e, a1_e]
    obtain ⟨r, M', N', e1, e2, e3⟩ := ih n (j + 1) M1 N1 (v + nI (if heldS R (runS R 200 (yrS R ((z + j) % 10000) (nm R))) b then 1 else 0)) (by omega) (by omega) a2 b2
    exact ⟨r, M', N', e1, e2, e3⟩
theorem p_ten (x1 x2 : Int32) (hA : AX M R W K kn L ln T tl) (hB : AM N R W K kn L ln T tl) : Same M N (fX5_ten x1 x2 M) (fX6_ten x1 x2 N) := by
  unfold fX5_ten fX6_ten fX5_ten_15 fX6_ten_15
  rcases G_year x1 M N with ⟨z, hz, rfl, g1, g2⟩ | ⟨g1, g2, -⟩
  · rcases G_bill x2 hA.rdX hB.1.2.2.1 hA.1.2.1 with ⟨b, hb, rfl, g3, g4⟩ | ⟨g3, g4, -⟩
    · rw [g1, g2, bind_e, bind_e, i1n0, i1n0, g3, g4, bind_e, bind_e, i1n0, i1n0]
      exact ten_l hz hb 10 xfuel 0 M N 0 (by omega) (by show _ < 1000; omega) hA hB
    · rw [g1, g2, bind_e, bind_e, i1n0, i1n0, g3, g4]
      exact stay_b hA hB _
  · rw [g1, g2]
    exact stay_b hA hB _
end
