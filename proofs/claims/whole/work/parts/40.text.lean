/-! THE PROMISES: write -/
section
variable {M N : xm} {R W : tR} {K : Nat → tR} {kn : Nat} {L : tR} {ln : Nat} {T : Nat → Int32} {tl : Nat}
theorem AX.text {M' : xm} {T' : Nat → Int32} {tl' : Nat} (hA : AX M R W K kn L ln T tl) (h1 : ∀ a, a ≠ 1 → a ≠ 2 → M'.1 a = M.1 a) (h2 : M'.2 = M.2) (h3 : tl' ≤ 300 ∧ M'.1 1 2 = nI tl' ∧ ∀ j, j < tl' → M'.1 2 j = T' j) : AX M' R W K kn L ln T' tl' := by
  obtain ⟨a1, a2, a3, a4, a5, a6⟩ := hA
  refine ⟨a1.keep (fun a q r => h1 a (by omega) (by omega)) (by rw [h2]) (fun a q r => h1 a (by have := isR_rd (M.2 22); unfold isR at this; omega) (by have := isR_rd (M.2 22); unfold isR at this; omega)), by rw [h2]; exact a2, a3, ⟨a4.1, by rw [h1 0 (by omega) (by omega)]; exact a4.2.1, fun k hk => ?_⟩, ⟨a5.1, by rw [h1 43 (by omega) (by omega)]; exact a5.2.1, fun k hk => by rw [h1 44 (by omega) (by omega), h1 45 (by omega) (by omega), h1 46 (by omega) (by omega)]; exact a5.2.2 k hk⟩, h3⟩
  obtain ⟨b1, b2, b3⟩ := a4.2.2 k hk
  exact ⟨b1.keep (fun a q r => h1 a (by omega) (by omega)) (by rw [h2]) (fun a q r => h1 a (by have := isR_rd (M.2 (33 + 5 * k)); unfold isR at this; omega) (by have := isR_rd (M.2 (33 + 5 * k)); unfold isR at this; omega)), by rw [h2]; exact b2, b3⟩
theorem AM.text {N' : xm} {T' : Nat → Int32} {tl' : Nat} (hB : AM N R W K kn L ln T tl) (h1 : ∀ a, a ≠ 60 → a ≠ 61 → N'.1 a = N.1 a) (h2 : ∀ j, j ≠ 0 → N'.1 60 j = N.1 60 j) (h3 : N'.1 60 0 = nI tl' ∧ ∀ j, j < tl' → N'.1 61 j = T' j) : AM N' R W K kn L ln T' tl' := by
  obtain ⟨a1, a2, a3, a4⟩ := hB
  exact ⟨a1.keep (fun a q r => h1 a (by omega) (by omega)) (fun j q r => by rw [h1 67 (by omega) (by omega)]), ⟨by rw [h2 9 (by omega)]; exact a2.1, fun k hk => (a2.2 k hk).keep (fun a q r => h1 a (by omega) (by omega)) (fun j q r => by rw [h1 67 (by omega) (by omega)])⟩, ⟨by rw [h2 10 (by omega)]; exact a3.1, fun k hk => by rw [h1 68 (by omega) (by omega)]; exact a3.2 k hk⟩, h3⟩
theorem m1_neg {α : Sort _} {x y : α} : (if nI 0 - 1 < 0 then x else y) = x := if_pos (by decide)
theorem write_l {v : Int64} : ∀ k n tl T M N, tl + k ≤ 300 → k < n → AX M R W K kn L ln T tl → AM N R W K kn L ln T tl → ∃ M' N' T', fX3_append_19 v n (nI k - 1) M = some (1, M') ∧ fX6_write_34 v n (nI k - 1) N = some (nI (tl + k), N') ∧ AX M' R W K kn L ln T' (tl + k) ∧ AM N' R W K kn L ln T' (tl + k) := by
  intro k
  induction k with
  | zero =>
    intro n tl T M N e hn hA hB
    obtain ⟨n, rfl⟩ : ∃ k, n = k + 1 := ⟨n - 1, by omega⟩
    rw [fX3_append_19, fX6_write_34, m1_neg, m1_neg, xbo_1, hB.2.2.2.1]
    exact ⟨M, N, T, rfl, rfl, hA, hB⟩
  | succ k ih =>
    intro n tl T M N e hn hA hB
    obtain ⟨n, rfl⟩ : ∃ k, n = k + 1 := ⟨n - 1, by omega⟩
    have e1 := hA.2.2.2.2.2.2.1
    have e2 := hB.2.2.2.1
    rw [fX3_append_19, fX6_write_34, s1_e]
    generalize hz : vp_nar .byte (Int8.toInt32 (Int32.toInt8 (Int64.toInt32 (v >>> (Int32.toInt64 (8 * nI k) &&& 63))))) = z
    have hnn : ¬ nI k < 0 := by
      rw [Int32.lt_iff_toInt_lt, nI_toInt (by omega)]
      show ¬ _ < (0 : Int)
      omega
    obtain ⟨M1, N1, T1, b1, b2, b3, b4⟩ := ih n (tl + 1) (fun j => if j = tl then z else T j) (up (up M 2 tl z) 1 2 (nI (tl + 1))) (up (up N 61 tl z) 60 0 (nI (tl + 1))) (by omega) (by omega) (hA.text (fun a q r => by rw [up_ne q, up_ne r]) rfl ⟨by omega, by rw [up_at, if_pos ⟨rfl, rfl⟩], fun j hj => by
        rw [up_ne (by omega), up_at]
        by_cases d : j = tl
        · rw [if_pos ⟨rfl, d⟩, if_pos d]
        · rw [if_neg (fun h => d h.2), if_neg d]; exact hA.2.2.2.2.2.2.2 j (by omega)⟩) (hB.text (fun a q r => by rw [up_ne q, up_ne r]) (fun j q => by rw [up_at, if_neg (fun h => q h.2), up_ne (by omega)]) ⟨by rw [up_at, if_pos ⟨rfl, rfl⟩], fun j hj => by
        rw [up_ne (by omega), up_at]
        by_cases d : j = tl
        · rw [if_pos ⟨rfl, d⟩, if_pos d]
        · rw [if_neg (fun h => d h.2), if_neg d]; exact hB.2.2.2.2 j (by omega)⟩)
    rw [if_neg hnn, if_neg hnn, e1, e2, xchk_e (by omega) (by omega), xchk_e (by omega) (by omega), cl_e (by omega), xl_e, xl_e, xl_e, xl_e, up_ne (show (1 : Nat) ≠ 2 by omega), e1, up_ne (show (60 : Nat) ≠ 61 by omega), e2, a1_e, show nI k + (-1) = nI k - 1 from (Int32.sub_eq_add_neg _ _).symm, b1, b2, show tl + 1 + k = tl + (k + 1) by omega]
    rw [show tl + 1 + k = tl + (k + 1) by omega] at b3 b4
    exact ⟨M1, N1, T1, rfl, rfl, b3, b4⟩
theorem p_write (x1 : Int32) (y2 : Int64) (hA : AX M R W K kn L ln T tl) (hB : AM N R W K kn L ln T tl) : Same M N (fX5_write x1 y2 M) (fX6_write x1 y2 N) := by
  have e1 := hA.2.2.2.2.2.2.1
  have e2 := hB.2.2.2.1
  have htl := hA.2.2.2.2.2.1
  have e18 : fX6_in (Int32.toInt64 x1) 1 8 N = some (if 1 ≤ x1 ∧ x1 ≤ 8 then 1 else 0) := in_e x1 1 8 N
  have t1 : (1 : Int32).toInt = 1 := by decide
  have t8 : (8 : Int32).toInt = 8 := by decide
  unfold fX5_write fX6_write fX5_write_11 fX5_write_37
  rw [e18, bind_e]
  by_cases c1 : x1 < 1
  · rw [if_pos c1, if_neg (show ¬ (1 ≤ x1 ∧ x1 ≤ 8) by rw [Int32.lt_iff_toInt_lt] at c1; rw [Int32.le_iff_toInt_le]; omega), i0e0]
    exact stay_b hA hB _
  · rw [if_neg c1]
    by_cases c2 : x1 ≤ 8
    · rw [if_pos c2, if_pos (show (1 ≤ x1 ∧ x1 ≤ 8) from ⟨by rw [Int32.lt_iff_toInt_lt] at c1; rw [Int32.le_iff_toInt_le]; omega, c2⟩), i1n0]
      obtain ⟨n, hn1, hn8, rfl⟩ : ∃ n, 1 ≤ n ∧ n ≤ 8 ∧ x1 = nI n := by
        rw [Int32.lt_iff_toInt_lt] at c1
        rw [Int32.le_iff_toInt_le] at c2
        refine ⟨x1.toInt.toNat, by omega, by omega, ?_⟩
        rw [← Int32.toInt_inj, nI_toInt (by omega)]
        omega
      unfold fX3_append
      rw [e1, e2, show (300 : Int32) = nI 300 from rfl, sub_e (by omega), add_e, ifle (by omega) (by omega), ifle (by omega) (by omega)]
      by_cases c : tl + n ≤ 300
      · rw [if_pos (by omega), if_pos c, xl_e, xl_e]
        obtain ⟨M1, N1, T1, b1, b2, b3, b4⟩ := write_l (v := y2) n xfuel tl T M N c (by show _ < 1000; omega) hA hB
        rw [b1, b2, bind_e, if_neg (show ¬ ((1 : Int32), M1).1 = 0 by show ¬ (1 : Int32) = 0; decide), b3.2.2.2.2.2.2.1]
        exact ⟨_, _, _, rfl, rfl, R, W, K, kn, L, ln, T1, _, b3, b4⟩
      · rw [if_neg (by omega), if_neg c, xbo_0, bind_e, if_pos (show ((0 : Int32), M).1 = 0 from rfl)]
        exact stay_b hA hB _
    · rw [if_neg c2, if_neg (show ¬ (1 ≤ x1 ∧ x1 ≤ 8) from fun h => c2 h.2), i0e0]
      exact stay_b hA hB _
end
