/-! THE PROMISES: hours, read, keep, again, diary, mile, who, arrives, would, join -/
section
variable {M N : xm} {R W : tR} {K : Nat → tR} {kn : Nat} {L : tR} {ln : Nat} {T : Nat → Int32} {tl : Nat}
theorem AX.now {M' : xm} {W' : tR} (h : AX M R W K kn L ln T tl) (hw : WX M' 22 R W') (h1 : sameC M M' 22) (h2 : ∀ a, M'.2 a = M.2 a) (hh : W' 4 0 ≤ 9999) : AX M' R W' K kn L ln T tl := by
  obtain ⟨a1, a2, a3, a4, a5, a6⟩ := h
  have hr := isR_rd (M.2 0)
  unfold isR at hr
  refine ⟨hw, ⟨by rw [h2, h2]; exact a2.1, by rw [h2, h2]; exact a2.2⟩, hh, ⟨a4.1, by rw [h1 0 (by omega)]; exact a4.2.1, fun k hk => ?_⟩, ⟨a5.1, by rw [h1 43 (by omega)]; exact a5.2.1, fun k hk => by rw [h1 44 (by omega), h1 45 (by omega), h1 46 (by omega)]; exact a5.2.2 k hk⟩, ⟨a6.1, by rw [h1 1 (by omega)]; exact a6.2.1, fun j hj => by rw [h1 2 (by omega)]; exact a6.2.2 j hj⟩⟩
  obtain ⟨b1, b2, b3⟩ := a4.2.2 k hk
  exact ⟨b1.keep (fun a q r => h1 a (by omega)) (h2 _) (fun a q r => h1 a (by rw [b2] at q r; omega)), by rw [h2, h2]; exact b2, b3⟩
theorem AM.now {N' : xm} {W' : tR} (h : AM N R W K kn L ln T tl) (hw : MX N' 0 R W') (hs : sameM N N' 0) : AM N' R W' K kn L ln T tl := by
  obtain ⟨a1, a2, a3, a4⟩ := h
  exact ⟨hw, ⟨by rw [hs.2.1 9 (by omega) (by omega)]; exact a2.1, fun k hk => (a2.2 k hk).keep (fun a q r => hs.1 a (by omega) (by omega)) (fun j q r => hs.2.2 j (by omega))⟩, ⟨by rw [hs.2.1 10 (by omega) (by omega)]; exact a3.1, fun k hk => by rw [hs.1 68 (by omega) (by omega)]; exact a3.2 k hk⟩, ⟨by rw [hs.2.1 0 (by omega) (by omega)]; exact a4.1, fun j hj => by rw [hs.1 61 (by omega) (by omega)]; exact a4.2 j hj⟩⟩
theorem stay_b (hA : AX M R W K kn L ln T tl) (hB : AM N R W K kn L ln T tl) (r : Int32) : Same M N (some (r, M)) (some (r, N)) := ⟨r, M, N, rfl, rfl, R, W, K, kn, L, ln, T, tl, hA, hB⟩
theorem M_hoursL {N0 : xm} {n0 : Nat} (hN : n0 < 900) (hh : W 4 0 + n0 < 1000000) : ∀ k n i N, n0 = i + k → k < n → MX N 0 R (hoursS R i W) → sameM N0 N 0 → ∃ N', fX6_hours_34 (nI n0) n (nI i) N = some (nI (cnt (fun i => decide (hoursS R n0 W 0 i = xend R)) (nm R)), N') ∧ MX N' 0 R (hoursS R n0 W) ∧ sameM N0 N' 0 := by
  intro k
  induction k with
  | zero =>
    intro n i N e hn h hs
    obtain ⟨n, rfl⟩ : ∃ k, n = k + 1 := ⟨n - 1, by omega⟩
    obtain rfl : n0 = i := by omega
    have h1 : fX6_atEnd 0 N = _ := M_atEnd h
    rw [fX6_hours_34, ifle (by omega) (by omega), if_pos (Nat.le_refl _), h1, bind_e]
    exact ⟨N, rfl, h, hs⟩
  | succ k ih =>
    intro n i N e hn h hs
    obtain ⟨n, rfl⟩ : ∃ k, n = k + 1 := ⟨n - 1, by omega⟩
    have hb := hoursS_h R i W
    obtain ⟨N1, e1, e2, e3⟩ := M_hour st_none (by omega) h
    have e1 : fX6_hour 0 (-1) N = _ := e1
    rw [fX6_hours_34, ifle (by omega) (by omega), if_neg (by omega), e1, bind_e, a1_e]
    exact ih n (i + 1) N1 (by omega) (by omega) e2 (hs.tr e3)
theorem p_hours (x1 : Int32) (hA : AX M R W K kn L ln T tl) (hB : AM N R W K kn L ln T tl) : Same M N (fX5_hours x1 M) (fX6_hours x1 N) := by
  have hR := hA.1.2.1
  have hh := hA.2.2.1
  unfold fX5_hours fX6_hours fX5_hours_11
  rw [i64_1, i64_99, in_e, bind_e]
  rcases ge_cases x1 (n := 100) (by omega) with ⟨k, hk, rfl⟩ | ⟨q, -⟩
  · by_cases k0 : k = 0
    · subst k0
      rw [if_pos (show nI 0 < 1 by decide), if_neg (show ¬ ((1 : Int32) ≤ nI 0 ∧ nI 0 ≤ 99) by decide), i0e0]
      exact stay_b hA hB _
    · have c1 : ¬ nI k < 1 := by rw [li1]; exact nI_nlt (by omega) (by omega)
      have c2 : nI k ≤ 99 := nI_le (b := 99) (by omega) (by omega)
      have c3 : (1 : Int32) ≤ nI k := nI_le (a := 1) (by omega) (by omega)
      have h24 : N.1 67 24 = nI (W 4 0) := hB.1.2.2.2.1.2.2.2.2
      rw [if_neg c1, if_pos c2, if_pos (show (1 : Int32) ≤ nI k ∧ nI k ≤ 99 from ⟨c3, c2⟩), i1n0, hA.1.2.2.2.1.2.2.2.2, add_e, li24, xchk_e (by omega) (by omega), cl_e (by omega), h24, add_e, show (9999 : Int32) = nI 9999 from rfl, ifle (by omega) (by omega), ifle (by omega) (by omega)]
      by_cases q : W 4 0 + k ≤ 9999
      · rw [if_pos q, if_pos q]
        obtain ⟨M1, a1, a2, a3⟩ := X_goHours (N := k) (by omega) (by omega) hA.1
        obtain ⟨N1, b1, b2, b3⟩ := M_hoursL (N0 := N) (n0 := k) (by omega) (by omega) k xfuel 0 N (by omega) (by show _ < 1000; omega) hB.1 sameM.rf
        have b1 : fX6_hours_34 (nI k) xfuel 0 N = _ := b1
        have h9 := hoursS_h R k W
        rw [a1, bind_e, X_arrived a2, bind_e, b1]
        exact ⟨_, _, _, rfl, rfl, R, _, K, kn, L, ln, T, tl, hA.now a2 a3.2 (fun a => by rw [a3.1]) (by omega), hB.now b2 b3⟩
      · rw [if_neg q, if_neg q]
        exact stay_b hA hB _
  · have c : x1 < 1 ∨ ¬ x1 ≤ 99 := by
      rcases q with q | q
      · left
        rw [Int32.lt_iff_toInt_lt] at q ⊢
        have : (1 : Int32).toInt = 1 := by decide
        have : (0 : Int32).toInt = 0 := by decide
        omega
      · right
        rw [Int32.le_iff_toInt_le] at q ⊢
        rw [nI_toInt (by omega)] at q
        have : (99 : Int32).toInt = 99 := by decide
        omega
    have c2 : ¬ ((1 : Int32) ≤ x1 ∧ x1 ≤ 99) := by
      rintro ⟨d1, d2⟩
      rcases c with c | c
      · rw [Int32.le_iff_toInt_le] at d1
        rw [Int32.lt_iff_toInt_lt] at c
        omega
      · exact c d2
    rw [if_neg c2, i0e0]
    by_cases d : x1 < 1
    · rw [if_pos d]
      exact stay_b hA hB _
    · rw [if_neg d, if_neg (c.resolve_left d)]
      exact stay_b hA hB _
theorem p_read (x1 : Int32) (hA : AX M R W K kn L ln T tl) (hB : AM N R W K kn L ln T tl) : Same M N (fX5_read x1 M) (fX6_read x1 N) := by
  have hR := hA.1.2.1
  have h4 := hR.1.2.2.2.1
  unfold fX5_read fX6_read fX5_read_26 fX6_read_26
  rcases G_bill x1 hA.rdX hB.1.2.2.1 hR with ⟨b, hb, rfl, g1, g2⟩ | ⟨g1, g2, -⟩
  · rw [g1, g2, bind_e, bind_e, i1n0, i1n0]
    obtain ⟨M1, a1, a2, a3⟩ := X_readOut hA.1 (b := b) (by omega)
    obtain ⟨N1, b1, b2, b3⟩ := M_isRead hB.1 (b := b) (by omega)
    have b1 : fX6_isRead 0 (nI b) N = _ := b1
    have h9 := readS_n R W b (a := 4) (c := 0) (by omega)
    have go : ∀ r, Same M N (some (r, M1)) (some (r, N1)) := fun r => ⟨r, M1, N1, rfl, rfl, R, _, K, kn, L, ln, T, tl, hA.now a2 a3.2 (fun a => by rw [a3.1]) (by rw [h9]; exact hA.2.2.1), hB.now b2 b3⟩
    rw [a1, b1, bind_e, bind_e]
    dsimp only
    generalize nI (if passS R W (pAt R (W 0 0)) b 0 = true then 1 else 0) = z
    split
    · exact go 0
    · exact go 1
  · rw [g1, g2]
    exact stay_b hA hB _
theorem p_keep (hA : AX M R W K kn L ln T tl) (hB : AM N R W K kn L ln T tl) : Same M N (fX5_keep M) (fX6_keep N) := by
  have hk2 := hA.2.2.2.1.1
  unfold fX5_keep fX6_keep
  rw [hA.2.2.2.1.2.1, hB.2.1.1, li2, iflt (by omega) (by omega), ifeq (by omega) (by omega)]
  by_cases q : kn = 2
  · rw [if_neg (by omega), if_pos q]
    exact stay_b hA hB _
  · rw [if_pos (by omega), if_neg q, xchk_e (by omega) (by omega), cl_e (by omega), xl_e, up_at, if_pos ⟨rfl, rfl⟩, a1_e]
    obtain ⟨M1, a1, a2, a3, a4⟩ := X_become (w := 33 + 5 * kn) (by unfold isW; omega) (by omega) hA.1
    have hB1 : MX (up N 60 9 (nI (kn + 1))) 0 R W := hB.1.keep (fun a q r => up_ne (by omega)) (fun j q r => by rw [up_ne (by omega)])
    obtain ⟨N1, b1, b2, b3⟩ := M_copies hB1 (y := kn + 1) (by omega) (by omega)
    have b1 : fX6_copies 0 (nI (kn + 1)) (up N 60 9 (nI (kn + 1))) = _ := b1
    have e6 : M1.1 0 6 = nI kn := by rw [a3 0 (by omega)]; exact hA.2.2.2.1.2.1
    rw [a1, bind_e, xl_e, e6, a1_e, b1, bind_e, up_at, if_pos ⟨rfl, rfl⟩, b3.2.1 9 (by omega) (by omega), up_at, if_pos ⟨rfl, rfl⟩]
    have hm2 : ∀ a, a ≠ 33 + 5 * kn → M1.2 a = M.2 a := fun a ha => by rw [a4]; exact if_neg ha
    have e22 := hA.2.1.1
    have hr := isR_rd (M.2 0)
    unfold isR at hr
    obtain ⟨c1, c2, c3, c4, c5, c6⟩ := hA
    obtain ⟨d1, d2, d3, d4⟩ := hB
    refine ⟨_, _, _, rfl, rfl, R, W, fun k => if k = kn then W else K k, kn + 1, L, ln, T, tl, ⟨?_, ⟨by rw [show (up M1 0 6 (nI (kn + 1))).2 = M1.2 from rfl, hm2 22 (by omega), hm2 0 (by omega)]; exact c2.1, by rw [show (up M1 0 6 (nI (kn + 1))).2 = M1.2 from rfl, hm2 100 (by omega), hm2 0 (by omega)]; exact c2.2⟩, c3, ⟨by omega, by rw [up_at, if_pos ⟨rfl, rfl⟩], fun k hk => ?_⟩, ⟨c5.1, by rw [up_ne (by omega), a3 43 (by omega)]; exact c5.2.1, fun k hk => by rw [up_ne (by omega), up_ne (by omega), up_ne (by omega), a3 44 (by omega), a3 45 (by omega), a3 46 (by omega)]; exact c5.2.2 k hk⟩, ⟨c6.1, by rw [up_ne (by omega), a3 1 (by omega)]; exact c6.2.1, fun j hj => by rw [up_ne (by omega), a3 2 (by omega)]; exact c6.2.2 j hj⟩⟩, ⟨?_, ⟨?_, fun k hk => ?_⟩, ⟨?_, fun k hk => ?_⟩, ⟨?_, fun j hj => ?_⟩⟩⟩
    · exact c1.keep (fun a q r => by rw [up_ne (by omega)]; exact a3 a (by omega)) (hm2 22 (by omega)) (fun a q r => by rw [up_ne (by rw [e22] at q; omega)]; exact a3 a (by rw [e22] at q r; omega))
    · show WX (up M1 0 6 (nI (kn + 1))) (33 + 5 * k) R (if k = kn then W else K k) ∧ M1.2 (33 + 5 * k) = M1.2 0 ∧ (if k = kn then W else K k) 4 0 ≤ 9999
      by_cases e : k = kn
      · subst e
        rw [if_pos rfl]
        have e9 : M1.2 (33 + 5 * k) = M.2 22 := by rw [a4]; exact upr_same
        refine ⟨a2.keep (fun a q r => up_ne (by omega)) rfl (fun a q r => up_ne (by have := isR_rd (M1.2 (33 + 5 * k)); unfold isR at this; omega)), by rw [e9, hm2 0 (by omega)]; exact c2.1, c3⟩
      · rw [if_neg e]
        obtain ⟨f1, f2, f3⟩ := c4.2.2 k (by omega)
        refine ⟨f1.keep (fun a q r => by rw [up_ne (by omega)]; exact a3 a (by omega)) (hm2 _ (by omega)) (fun a q r => by rw [up_ne (by rw [f2] at q; omega)]; exact a3 a (by rw [f2] at q r; omega)), by rw [hm2 _ (by omega), hm2 0 (by omega)]; exact f2, f3⟩
    · exact d1.keep (fun a q r => by rw [b3.1 a (by omega) (by omega), up_ne (by omega)]) (fun j q r => by rw [b3.2.2 j (by omega), up_ne (by omega)])
    · rw [b3.2.1 9 (by omega) (by omega), up_at, if_pos ⟨rfl, rfl⟩]
    · show MX N1 (k + 1) R (if k = kn then W else K k)
      by_cases e : k = kn
      · subst e
        rw [if_pos rfl]
        exact b2
      · rw [if_neg e]
        exact (d2.2 k (by omega)).keep (fun a q r => by rw [b3.1 a (by omega) (by omega), up_ne (by omega)]) (fun j q r => by rw [b3.2.2 j (by omega), up_ne (by omega)])
    · rw [b3.2.1 10 (by omega) (by omega), up_at, if_neg (by omega)]; exact d3.1
    · rw [b3.1 68 (by omega) (by omega), up_ne (by omega)]; exact d3.2 k hk
    · rw [b3.2.1 0 (by omega) (by omega), up_at, if_neg (by omega)]; exact d4.1
    · rw [b3.1 61 (by omega) (by omega), up_ne (by omega)]; exact d4.2 j hj
theorem p_again (hA : AX M R W K kn L ln T tl) (hB : AM N R W K kn L ln T tl) : Same M N (fX5_again M) (fX6_again N) := by
  have hk2 := hA.2.2.2.1.1
  unfold fX5_again fX6_again
  rw [hA.2.2.2.1.2.1, hB.2.1.1, li0, iflt (by omega) (by omega), ifeq (by omega) (by omega)]
  by_cases q : kn = 0
  · rw [if_neg (by omega), if_pos q]
    exact stay_b hA hB _
  · obtain ⟨k, rfl⟩ : ∃ k, kn = k + 1 := ⟨kn - 1, by omega⟩
    rw [if_pos (by omega), if_neg q, s1_e, xl_e, up_at, if_pos ⟨rfl, rfl⟩, xchk_e (by omega) (by omega), cl_e (by omega)]
    have e22 := hA.2.1.1
    have hr := isR_rd (M.2 0)
    unfold isR at hr
    obtain ⟨c1, c2, c3, c4, c5, c6⟩ := hA
    obtain ⟨d1, d2, d3, d4⟩ := hB
    obtain ⟨f1, f2, f3⟩ := c4.2.2 k (by omega)
    have f1' : WX (up M 0 6 (nI k)) (33 + 5 * k) R (K k) := f1.keep (fun a q r => up_ne (by omega)) rfl (fun a q r => up_ne (by rw [f2] at q; omega))
    obtain ⟨M1, a1, a2, a3, a4⟩ := X_become (w := 22) (by unfold isW; omega) (by omega) f1'
    obtain ⟨N1, b1, b2, b3⟩ := M_copies (d2.2 k (by omega)) (y := 0) (by omega) (by omega)
    have b1 : fX6_copies (nI (k + 1)) 0 N = _ := b1
    have hm2 : ∀ a, a ≠ 22 → M1.2 a = M.2 a := fun a ha => by rw [a4]; exact if_neg ha
    have e9 : M1.2 22 = M.2 (33 + 5 * k) := by rw [a4]; exact upr_same
    rw [a1, bind_e, a3 0 (by omega), up_at, if_pos ⟨rfl, rfl⟩, ← li0, b1, bind_e, b3.2.1 9 (by omega) (by omega), d2.1, s1_e, xl_e, up_at, if_pos ⟨rfl, rfl⟩]
    refine ⟨_, _, _, rfl, rfl, R, K k, K, k, L, ln, T, tl, ⟨a2, ⟨by rw [e9, hm2 0 (by omega)]; exact f2, by rw [hm2 100 (by omega), hm2 0 (by omega)]; exact c2.2⟩, f3, ⟨by omega, by rw [a3 0 (by omega), up_at, if_pos ⟨rfl, rfl⟩], fun j hj => ?_⟩, ⟨c5.1, by rw [a3 43 (by omega), up_ne (by omega)]; exact c5.2.1, fun j hj => by rw [a3 44 (by omega), a3 45 (by omega), a3 46 (by omega), up_ne (by omega), up_ne (by omega), up_ne (by omega)]; exact c5.2.2 j hj⟩, ⟨c6.1, by rw [a3 1 (by omega), up_ne (by omega)]; exact c6.2.1, fun j hj => by rw [a3 2 (by omega), up_ne (by omega)]; exact c6.2.2 j hj⟩⟩, ⟨?_, ⟨?_, fun j hj => ?_⟩, ⟨?_, fun j hj => ?_⟩, ⟨?_, fun j hj => ?_⟩⟩⟩
    · obtain ⟨g1, g2, g3⟩ := c4.2.2 j (by omega)
      exact ⟨g1.keep (fun a q r => by rw [a3 a (by omega), up_ne (by omega)]) (hm2 _ (by omega)) (fun a q r => by rw [a3 a (by rw [g2] at q r; omega), up_ne (by rw [g2] at q; omega)]), by rw [hm2 _ (by omega), hm2 0 (by omega)]; exact g2, g3⟩
    · exact b2.keep (fun a q r => up_ne (by omega)) (fun j q r => by rw [up_ne (by omega)])
    · rw [up_at, if_pos ⟨rfl, rfl⟩]
    · exact (d2.2 j (by omega)).keep (fun a q r => by rw [up_ne (by omega), b3.1 a (by omega) (by omega)]) (fun i q r => by rw [up_ne (by omega), b3.2.2 i (by omega)])
    · rw [up_at, if_neg (by omega), b3.2.1 10 (by omega) (by omega)]; exact d3.1
    · rw [up_ne (by omega), b3.1 68 (by omega) (by omega)]; exact d3.2 j hj
    · rw [up_at, if_neg (by omega), b3.2.1 0 (by omega) (by omega)]; exact d4.1
    · rw [up_ne (by omega), b3.1 61 (by omega) (by omega)]; exact d4.2 j hj
end
