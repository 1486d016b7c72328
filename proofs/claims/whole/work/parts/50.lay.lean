/-! THE PROMISES: lay -/
def TK (N0 N : xm) (i : Nat) : Prop := (∀ a, a ≠ 64 → a ≠ 66 → N.1 a = N0.1 a) ∧ (∀ j, N.1 64 j = if j < i ∧ j < 18 then N0.1 64 (18 + j) else N0.1 64 j) ∧ (∀ j, N.1 66 j = if j < i then N0.1 66 (24 + j) else N0.1 66 j)
section
variable {M N : xm} {D : tR}
theorem TK.rf (N : xm) : TK N N 0 := ⟨fun _ _ _ => rfl, fun j => by rw [if_neg (by omega)], fun j => by rw [if_neg (by omega)]⟩
theorem TK.s1 {N0 : xm} {i : Nat} (h : TK N0 N i) (c : 18 ≤ i) : TK N0 (up N 66 i (N.1 66 (24 + i))) (i + 1) := by
  obtain ⟨h1, h2, h3⟩ := h
  refine ⟨fun a q1 q2 => by rw [up_ne q2]; exact h1 a q1 q2, fun j => ?_, fun j => ?_⟩
  · rw [up_ne (by omega), h2]
    by_cases d : j < 18
    · rw [if_pos (by omega), if_pos (by omega)]
    · rw [if_neg (by omega), if_neg (by omega)]
  · rw [up_at, h3 (24 + i), if_neg (show ¬ 24 + i < i by omega), h3 j]
    by_cases d : j = i
    · rw [if_pos ⟨rfl, d⟩, if_pos (by omega), d]
    · rw [if_neg (fun q => d q.2)]
      by_cases d2 : j < i
      · rw [if_pos d2, if_pos (by omega)]
      · rw [if_neg d2, if_neg (by omega)]
theorem TK.s2 {N0 N1 : xm} {i : Nat} (h : TK N0 N i) (c : i < 18) (e : N1 = up N 66 i (N.1 66 (24 + i))) : TK N0 (up N1 64 i (N1.1 64 (18 + i))) (i + 1) := by
  obtain ⟨h1, h2, h3⟩ := h
  have e64 : N1.1 64 = N.1 64 := by rw [e]; exact up_ne (by omega)
  refine ⟨fun a q1 q2 => by rw [up_ne q1, e, up_ne q2]; exact h1 a q1 q2, fun j => ?_, fun j => ?_⟩
  · rw [up_at, e64, h2 (18 + i), if_neg (show ¬ (18 + i < i ∧ 18 + i < 18) by omega), h2 j]
    by_cases d : j = i
    · rw [if_pos ⟨rfl, d⟩, if_pos (by omega), d]
    · rw [if_neg (fun q => d q.2)]
      by_cases d2 : j < i
      · rw [if_pos (by omega), if_pos (by omega)]
      · rw [if_neg (by omega), if_neg (by omega)]
  · rw [up_ne (by omega), e, up_at, h3 (24 + i), if_neg (show ¬ 24 + i < i by omega), h3 j]
    by_cases d : j = i
    · rw [if_pos ⟨rfl, d⟩, if_pos (by omega), d]
    · rw [if_neg (fun q => d q.2)]
      by_cases d2 : j < i
      · rw [if_pos d2, if_pos (by omega)]
      · rw [if_neg d2, if_neg (by omega)]
theorem takes_l {N0 : xm} : ∀ k n i N, 24 = i + k → k < n → TK N0 N i → ∃ N', TK N0 N' 24 ∧ fX6_takes_50 n (nI i) N = (fX6_laid 0 N').bind (fun M1 => xl (up M1 60 10 0) (fun M2 => xl (up M2 60 9 0) (fun M3 => (some M3)))) := by
  intro k
  induction k with
  | zero =>
    intro n i N e hn h
    obtain ⟨n, rfl⟩ : ∃ k, n = k + 1 := ⟨n - 1, by omega⟩
    obtain rfl : i = 24 := by omega
    refine ⟨N, h, ?_⟩
    rw [fX6_takes_50, li24, ifle (by omega) (by omega), if_pos (by omega)]
  | succ k ih =>
    intro n i N e hn h
    obtain ⟨n, rfl⟩ : ∃ k, n = k + 1 := ⟨n - 1, by omega⟩
    rw [fX6_takes_50, li24, li18, ifle (by omega) (by omega), if_neg (by omega), add_e, xchk_e (by omega) (by omega), xchk_e (by omega) (by omega), xl_e, cl_e (by omega), cl_e (by omega), ifle (by omega) (by omega)]
    unfold fX6_takes_92
    rw [a1_e]
    by_cases c : 18 ≤ i
    · rw [if_pos c]
      exact ih n (i + 1) _ (by omega) (by omega) (h.s1 c)
    · rw [if_neg c, add_e, xchk_e (by omega) (by omega), xchk_e (by omega) (by omega), xl_e, cl_e (by omega)]
      exact ih n (i + 1) _ (by omega) (by omega) (h.s2 (by omega) rfl)
theorem M_takes (hD : laidR D) (h : DM N D) : ∃ N', fX6_takes N = some N' ∧ MX N' 0 D (laidS D) ∧ N'.1 60 9 = nI 0 ∧ N'.1 60 10 = nI 0 ∧ N'.1 60 0 = N.1 60 0 ∧ N'.1 61 = N.1 61 := by
  have np6 := hD.1.1
  have nm8 := hD.1.2.1
  obtain ⟨g1, g2, g3, g4, g5, g6⟩ := h
  unfold fX6_takes
  rw [xc1 (by omega) (by omega), xc0 (by omega) (by omega), xl_e, xc1 (by omega) (by omega), xc0 (by omega) (by omega), xl_e, xc2 (by omega) (by omega), xc0 (by omega) (by omega), xl_e, xc3 (by omega) (by omega), xc1 (by omega) (by omega), xl_e, c0, c1, c2, c3]
  obtain ⟨N4, hN4⟩ : ∃ X, X = up (up (up (up N 63 0 (N.1 63 1)) 65 0 ((up N 63 0 (N.1 63 1)).1 65 1)) 62 0 ((up (up N 63 0 (N.1 63 1)) 65 0 ((up N 63 0 (N.1 63 1)).1 65 1)).1 62 2)) 62 1 ((up (up (up N 63 0 (N.1 63 1)) 65 0 ((up N 63 0 (N.1 63 1)).1 65 1)) 62 0 ((up (up N 63 0 (N.1 63 1)) 65 0 ((up N 63 0 (N.1 63 1)).1 65 1)).1 62 2)).1 62 3) := ⟨_, rfl⟩
  rw [← hN4]
  have k63 : N4.1 63 0 = nI (np D) := by rw [hN4]; simp [up_at, g1]
  have k65 : N4.1 65 0 = nI (nm D) := by rw [hN4]; simp [up_at, g2]
  have k620 : N4.1 62 0 = nI (qu D) := by rw [hN4]; simp [up_at, g3]
  have k621 : N4.1 62 1 = nI (nb D) := by rw [hN4]; simp [up_at, g4]
  have k64 : N4.1 64 = N.1 64 := by rw [hN4, up_ne (by omega), up_ne (by omega), up_ne (by omega), up_ne (by omega)]
  have k66 : N4.1 66 = N.1 66 := by rw [hN4, up_ne (by omega), up_ne (by omega), up_ne (by omega), up_ne (by omega)]
  have k60 : N4.1 60 = N.1 60 := by rw [hN4, up_ne (by omega), up_ne (by omega), up_ne (by omega), up_ne (by omega)]
  have k61 : N4.1 61 = N.1 61 := by rw [hN4, up_ne (by omega), up_ne (by omega), up_ne (by omega), up_ne (by omega)]
  obtain ⟨N5, t, t9⟩ := takes_l (N0 := N4) 24 xfuel 0 N4 (by omega) (by show _ < 1000; omega) (TK.rf N4)
  obtain ⟨t1, t2, t3⟩ := t
  have t9 : fX6_takes_50 xfuel 0 N4 = _ := t9
  rw [t9]
  have hM : rdM N5 D := by
    refine ⟨by rw [t1 63 (by omega) (by omega)]; exact k63, by rw [t1 65 (by omega) (by omega)]; exact k65, by rw [t1 62 (by omega) (by omega)]; exact k620, by rw [t1 62 (by omega) (by omega)]; exact k621, fun p hp => ?_, fun p hp => ?_, fun p hp => ?_, fun i hi => ?_, fun i hi => ?_, fun i hi => ?_⟩
    · rw [t2, if_pos (by omega), k64, ← Nat.add_assoc]; exact (g5 p hp).1
    · rw [t2, if_pos (by omega), k64, ← Nat.add_assoc]; exact (g5 p hp).2.1
    · rw [t2, if_pos (by omega), k64, ← Nat.add_assoc]; exact (g5 p hp).2.2
    · rw [t3, if_pos (by omega), k66, ← Nat.add_assoc]; exact (g6 i hi).1
    · rw [t3, if_pos (by omega), k66, ← Nat.add_assoc]; exact (g6 i hi).2.1
    · rw [t3, if_pos (by omega), k66, ← Nat.add_assoc]; exact (g6 i hi).2.2
  obtain ⟨N6, l1, l2, l3⟩ := M_laid (s := 0) (by omega) hD hM
  have l1 : fX6_laid 0 N5 = _ := l1
  rw [l1, bind_e, xl_e, xl_e]
  refine ⟨_, rfl, l2.keep (fun a q1 q2 => by rw [up_ne (by omega), up_ne (by omega)]) (fun j q1 q2 => by rw [up_ne (by omega), up_ne (by omega)]), ?_, ?_, ?_, ?_⟩
  · rw [up_at, if_pos ⟨rfl, rfl⟩]; rfl
  · rw [up_at, if_neg (by omega), up_at, if_pos ⟨rfl, rfl⟩]; rfl
  · rw [up_at, if_neg (by omega), up_at, if_neg (by omega), l3.2.1 0 (by omega) (by omega), t1 60 (by omega) (by omega), k60]
  · rw [up_ne (by omega), up_ne (by omega), l3.1 61 (by omega) (by omega), t1 61 (by omega) (by omega), k61]
end
section
variable {M N : xm} {R W : tR} {K : Nat → tR} {kn : Nat} {L : tR} {ln : Nat} {T : Nat → Int32} {tl : Nat}
theorem p_lay (hA : AX M R W K kn L ln T tl) (hB : AM N R W K kn L ln T tl) : Same M N (fX5_lay M) (fX6_lay N) := by
  obtain ⟨M1, N1, a1, a2, a3⟩ := told hA hB
  have hA1 := hA.draft a1
  have hB1 := hB.onJ a2
  have no : Same M N (some (-2, M1)) (some (-2, N1)) := ⟨_, M1, N1, rfl, rfl, R, W, K, kn, L, ln, T, tl, hA1, hB1⟩
  unfold fX5_lay fX6_lay fX5_lay_36 fX6_lay_27
  rcases a3 with ⟨D, b1, b2, b3, b4, b5⟩ | ⟨v, hv, b1, b2⟩
  · have e2 : M1.2 = M.2 := a1.2
    have np6 := b4.1
    have nm8 := b4.2.1
    rw [← e2] at b3
    rw [b1, b2, bind_e, bind_e]
    dsimp only
    rw [if_pos rfl, if_pos rfl, xc1 (by omega) (by omega), c1, b3.1, b3.2.2.1, b5.1, b5.2.1]
    by_cases z1 : np D = 0
    · rw [z1, if_pos (show nI 0 = 0 from rfl), if_pos (show nI 0 = 0 from rfl)]
      exact no
    · have n1 : ¬ nI (np D) = 0 := by rw [li0, nI_eq (by omega) (by omega)]; exact z1
      rw [if_neg n1, if_neg n1, xc1 (by omega) (by omega)]
      by_cases z2 : nm D = 0
      · rw [z2, if_pos (show nI 0 = 0 from rfl), if_pos (show nI 0 = 0 from rfl)]
        exact no
      · have n2 : ¬ nI (nm D) = 0 := by rw [li0, nI_eq (by omega) (by omega)]; exact z2
        have hD : laidR D := ⟨b4, by omega, by omega⟩
        obtain ⟨N2, t1, t2, t3, t4, t5, t6⟩ := M_takes hD b5
        rw [if_neg n2, if_neg n2, t1, bind_e, xc0 (by omega) (by omega), c0, t2.2.2.1.2.1, xl_e, xl_e, xrb_rd, xrb_rd]
        obtain ⟨M3, hM3⟩ : ∃ X, X = upr (upr M1 100 (M1.2 0)) 0 (M1.2 100) := ⟨_, rfl⟩
        rw [← hM3]
        have f0 : M3.2 0 = M1.2 100 := by rw [hM3]; exact upr_same
        have f100 : M3.2 100 = M1.2 0 := by rw [hM3, upr_2, if_neg (by omega), upr_2, if_pos rfl]
        have fc : M3.1 = M1.1 := by rw [hM3]; rfl
        have h0 : rdX M3 (rd (M3.2 0)) D := by rw [f0]; exact b3.same (fun a _ _ => by rw [fc])
        obtain ⟨M4, x1, x2, x3, x4⟩ := X_begin (M := M3) (w := 22) (by unfold isW; omega) (isR_rd (M3.2 0)) hD h0
        rw [x1, bind_e, xl_e, xl_e]
        rw [xrb_rd] at x4
        have y0 : M4.2 0 = M1.2 100 := by rw [x4, upr_2, if_neg (by omega)]; exact f0
        have y100 : M4.2 100 = M1.2 0 := by rw [x4, upr_2, if_neg (by omega)]; exact f100
        have y22 : M4.2 22 = M1.2 100 := by rw [x4, upr_2, if_pos rfl]; exact f0
        have hr := isR_rd (M1.2 100)
        unfold isR at hr
        have ans : (up (up M4 43 3 0) 0 6 0).1 (rd ((up (up M4 43 3 0) 0 6 0).2 0)) 6 = nI (nm D) := by
          show (up (up M4 43 3 0) 0 6 0).1 (rd (M4.2 0)) 6 = _
          rw [y0, up_ne (by omega), up_ne (by omega), x3 _ (by omega), fc]
          exact b3.2.2.1
        rw [ans]
        have hA6 := hA1.2.2.2.2.2
        refine ⟨_, _, _, rfl, rfl, D, laidS D, K, 0, L, 0, T, tl, ?_, ?_⟩
        · refine ⟨x2.keep (fun a q r => by rw [up_ne (by omega), up_ne (by omega)]) rfl (fun a q r => by rw [y22] at q r; rw [up_ne (by omega), up_ne (by omega)]), ⟨?_, ?_⟩, ?_, ⟨by omega, ?_, fun k hk => absurd hk (Nat.not_lt_zero k)⟩, ⟨by omega, ?_, fun k hk => absurd hk (Nat.not_lt_zero k)⟩, ⟨hA6.1, ?_, fun j hj => ?_⟩⟩
          · show M4.2 22 = M4.2 0
            rw [y22, y0]
          · show M4.2 100 = !M4.2 0
            rw [y100, y0, hA1.2.1.2]
            cases M1.2 0 <;> rfl
          · unfold laidS
            rw [if_neg (by omega)]
            omega
          · rw [up_at, if_pos ⟨rfl, rfl⟩]; rfl
          · rw [up_ne (by omega), up_at, if_pos ⟨rfl, rfl⟩]; rfl
          · rw [up_ne (by omega), up_ne (by omega), x3 _ (by omega), fc]; exact hA6.2.1
          · rw [up_ne (by omega), up_ne (by omega), x3 _ (by omega), fc]; exact hA6.2.2 j hj
        · exact ⟨t2, ⟨t3, fun k hk => absurd hk (Nat.not_lt_zero k)⟩, ⟨t4, fun k hk => absurd hk (Nat.not_lt_zero k)⟩, ⟨by rw [t5]; exact hB1.2.2.2.1, fun j hj => by rw [t6]; exact hB1.2.2.2.2 j hj⟩⟩
  · rw [b1, b2, bind_e, bind_e]
    dsimp only
    rw [if_neg hv, if_neg hv]
    exact ⟨_, M1, N1, rfl, rfl, R, W, K, kn, L, ln, T, tl, hA1, hB1⟩
end
