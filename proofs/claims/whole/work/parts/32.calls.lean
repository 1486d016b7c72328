/-! THE PROMISES: diary, mile, who, arrives, would, join, back, year, ten -/
section
variable {M N : xm} {R W : tR} {K : Nat → tR} {kn : Nat} {L : tR} {ln : Nat} {T : Nat → Int32} {tl : Nat}
/-- a look ahead: trial becomes now -/
theorem X_look0 (hA : AX M R W K kn L ln T tl) : ∃ M', fX4_become 27 22 M = some M' ∧ WX M' 27 R W ∧ AX M' R W K kn L ln T tl ∧ M'.2 0 = M.2 0 := by
  obtain ⟨M1, a1, a2, a3, a4⟩ := X_become (w := 27) (by unfold isW; omega) (by omega) hA.1
  exact ⟨M1, a1, a2, hA.trial a3 (fun a ha => by rw [a4]; exact if_neg ha), by rw [a4]; rfl⟩
theorem AX.tr {M' : xm} (h : AX M R W K kn L ln T tl) (hs : sameX M M' 27) : AX M' R W K kn L ln T tl := h.trial hs.2 (fun a _ => by rw [hs.1])
theorem X_look (hA : AX M R W K kn L ln T tl) {n : Nat} (hn : n < 900) : ∃ M', fX5_lookAhead (nI n) M = some M' ∧ WX M' 27 R (hoursS R n W) ∧ AX M' R W K kn L ln T tl := by
  have hh := hA.2.2.1
  obtain ⟨M1, a1, a2, a3, a4⟩ := X_look0 hA
  obtain ⟨M2, b1, b2, b3⟩ := X_goHours (N := n) hn (by omega) a2
  unfold fX5_lookAhead
  rw [a1, bind_e, b1, bind_e]
  exact ⟨M2, rfl, b2, a3.tr b3⟩
theorem p_mile (x1 x2 : Int32) (hA : AX M R W K kn L ln T tl) (hB : AM N R W K kn L ln T tl) : Same M N (fX5_mile x1 x2 M) (fX6_mile x1 x2 N) := by
  have hR := hA.1.2.1
  have h8 := hR.1.2.1
  have hh := hA.2.2.1
  unfold fX5_mile fX6_mile fX5_mile_15 fX6_mile_15
  rcases G_ahead x1 M N with ⟨n, hn, rfl, g1, g2⟩ | ⟨g1, g2, -⟩
  · rcases G_member x2 hA.rdX hB.1.2.2.1 hR with ⟨i, hi, rfl, g3, g4⟩ | ⟨g3, g4, -⟩
    · obtain ⟨M1, a1, a2, a3⟩ := X_look hA (n := n) (by omega)
      obtain ⟨N1, b1, b2, b3⟩ := M_tries (n0 := n) (by omega) (by omega) hB.1
      have e75 : N1.1 67 (75 + i) = _ := b2.2.2.2.1.1 i (by omega)
      rw [g1, g2, bind_e, bind_e, i1n0, i1n0, g3, g4, bind_e, bind_e, i1n0, i1n0, a1, b1, bind_e, bind_e, xchk_e (by omega) (by omega), cl_e (by omega), a2.2.2.2.1.1 i (by omega), show (75 + nI i : Int32) = nI (75 + i) by rw [show (75 : Int32) = nI 75 from rfl, add_e], xchk_e (by omega) (by omega), cl_e (by omega), e75]
      exact ⟨_, _, _, rfl, rfl, R, W, K, kn, L, ln, T, tl, a3, hB.trial hA.2.2.2.1.1 b3⟩
    · rw [g1, g2, bind_e, bind_e, i1n0, i1n0, g3, g4]
      exact stay_b hA hB _
  · rw [g1, g2]
    exact stay_b hA hB _
theorem p_who (x1 x2 : Int32) (hA : AX M R W K kn L ln T tl) (hB : AM N R W K kn L ln T tl) : Same M N (fX5_who x1 x2 M) (fX6_who x1 x2 N) := by
  have hR := hA.1.2.1
  have h8 := hR.1.2.1
  have h6 := hR.1.1
  have hh := hA.2.2.1
  unfold fX5_who fX6_who fX5_who_15 fX6_who_15
  rcases G_ahead x1 M N with ⟨n, hn, rfl, g1, g2⟩ | ⟨g1, g2, -⟩
  · rcases G_parish x2 hA.rdX hB.1.2.2.1 hR with ⟨p, hp, rfl, g3, g4⟩ | ⟨g3, g4, -⟩
    · obtain ⟨M1, a1, a2, a3⟩ := X_look hA (n := n) (by omega)
      obtain ⟨N1, b1, b2, b3⟩ := M_tries (n0 := n) (by omega) (by omega) hB.1
      have ht : fX6_there 3 (nI p) N1 = _ := M_there b2 (p := p) (by omega)
      rw [g1, g2, bind_e, bind_e, i1n0, i1n0, g3, g4, bind_e, bind_e, i1n0, i1n0, a1, b1, bind_e, bind_e, X_thoseIn a2 hp, ht, bind_e, bind_e]
      exact ⟨_, _, _, rfl, rfl, R, W, K, kn, L, ln, T, tl, a3, hB.trial hA.2.2.2.1.1 b3⟩
    · rw [g1, g2, bind_e, bind_e, i1n0, i1n0, g3, g4]
      exact stay_b hA hB _
  · rw [g1, g2]
    exact stay_b hA hB _
theorem arr_l : ∀ k n i M N, 401 = i + k → k < n → AX M R W K kn L ln T tl → AM N R W K kn L ln T tl → WX M 27 R (hoursS R i W) → MX N 3 R (hoursS R i W) → Same M N (fX5_arrives_7 n (nI i) M) (fX6_arrives_8 n (nI i) N) := by
  intro k
  induction k with
  | zero =>
    intro n i M N e hn hA hB h1 h2
    obtain ⟨n, rfl⟩ : ∃ k, n = k + 1 := ⟨n - 1, by omega⟩
    rw [fX5_arrives_7, fX6_arrives_8, show (400 : Int32) = nI 400 from rfl, iflt (by omega) (by omega), iflt (by omega) (by omega), if_pos (by omega), if_pos (by omega)]
    exact stay_b hA hB _
  | succ k ih =>
    intro n i M N e hn hA hB h1 h2
    obtain ⟨n, rfl⟩ : ∃ k, n = k + 1 := ⟨n - 1, by omega⟩
    have h8 := hA.1.2.1.1.2.1
    have hh := hA.2.2.1
    have hb := hoursS_h R i W
    have hc := cnt_le (fun j => decide (hoursS R i W 0 j = xend R)) (nm R)
    have he : fX6_atEnd 3 N = _ := M_atEnd h2
    obtain ⟨M1, a1, a2, a3⟩ := X_goHour st_none (by omega) h1
    obtain ⟨N1, b1, b2, b3⟩ := M_hour st_none (by omega) h2
    have b1 : fX6_hour 3 (-1) N = _ := b1
    rw [fX5_arrives_7, fX6_arrives_8, show (400 : Int32) = nI 400 from rfl, iflt (by omega) (by omega), iflt (by omega) (by omega), if_neg (by omega), if_neg (by omega), X_arrived h1, he, bind_e, bind_e, hA.rdX.2.2.1, xc0 (by omega) (by omega), c0, hB.1.2.2.1.2.1, ifeq (by omega) (by omega), ifeq (by omega) (by omega), a1, b1, bind_e, bind_e, a1_e]
    by_cases q : cnt (fun j => decide (hoursS R i W 0 j = xend R)) (nm R) = nm R
    · rw [if_pos q, if_pos q]
      exact stay_b hA hB _
    · rw [if_neg q, if_neg q]
      obtain ⟨r, M', N', e1, e2, e3⟩ := ih n (i + 1) M1 N1 (by omega) (by omega) (hA.tr a3) (hB.trial hA.2.2.2.1.1 b3) a2 b2
      exact ⟨r, M', N', e1, e2, e3⟩
theorem p_arrives (hA : AX M R W K kn L ln T tl) (hB : AM N R W K kn L ln T tl) : Same M N (fX5_arrives M) (fX6_arrives N) := by
  unfold fX5_arrives fX6_arrives
  obtain ⟨M1, a1, a2, a3⟩ := X_look hA (n := 0) (by omega)
  obtain ⟨N1, b1, b2, b3⟩ := M_copies hB.1 (y := 3) (by omega) (by omega)
  have a1 : fX5_lookAhead 0 M = _ := a1
  have b1 : fX6_copies 0 3 N = _ := b1
  rw [a1, b1, bind_e, bind_e]
  exact arr_l 401 xfuel 0 M1 N1 (by omega) (by show _ < 1000; omega) a3 (hB.trial hA.2.2.2.1.1 b3) a2 b2
/-- one bill read now and behind each of n hours -/
def wouldS (R : tR) (b : Nat) : Nat → tR → tR
  | 0, W => readS R W b
  | n + 1, W => readS R (hourS R (wouldS R b n W) 8) b
theorem wouldS_h (R : tR) (b : Nat) : ∀ n W, wouldS R b n W 4 0 = W 4 0 + n
  | 0, W => readS_n R _ _ (by omega)
  | n + 1, W => by
    unfold wouldS
    rw [readS_n R _ _ (by omega), hourS_h, wouldS_h R b n]; omega
theorem wou_l {b : Nat} (hb : b < nb R) : ∀ k n i M N, 200 = i + k → k < n → AX M R W K kn L ln T tl → AM N R W K kn L ln T tl → WX M 27 R (wouldS R b i W) → MX N 3 R (wouldS R b i W) → Same M N (fX5_would_26 (nI b) n (nI i) M) (fX6_would_25 (nI b) n (nI i) N) := by
  intro k
  induction k with
  | zero =>
    intro n i M N e hn hA hB h1 h2
    obtain ⟨n, rfl⟩ : ∃ k, n = k + 1 := ⟨n - 1, by omega⟩
    have h4 := hA.1.2.1.1.2.2.2.1
    have e91 : N.1 67 (91 + b) = _ := h2.2.2.2.1.2.2.1 b (by omega)
    rw [fX5_would_26, fX6_would_25, show (200 : Int32) = nI 200 from rfl, ifle (by omega) (by omega), ifle (by omega) (by omega), if_pos (by omega), if_pos (by omega), xchk_e (by omega) (by omega), cl_e (by omega), h1.2.2.2.1.2.2.1 b (by omega), show (91 : Int32) = nI 91 from rfl, add_e, xchk_e (by omega) (by omega), cl_e (by omega), e91]
    exact stay_b hA hB _
  | succ k ih =>
    intro n i M N e hn hA hB h1 h2
    obtain ⟨n, rfl⟩ : ∃ k, n = k + 1 := ⟨n - 1, by omega⟩
    have h4 := hA.1.2.1.1.2.2.2.1
    have hh := hA.2.2.1
    have hb2 := wouldS_h R b i W
    obtain ⟨M1, a1, a2, a3⟩ := X_goHour st_none (by omega) h1
    obtain ⟨N1, b1, b2, b3⟩ := M_hour st_none (by omega) h2
    have b1 : fX6_hour 3 (-1) N = _ := b1
    obtain ⟨M2, a4, a5, a6⟩ := X_readOut a2 (b := b) (by omega)
    obtain ⟨N2, b4, b5, b6⟩ := M_isRead b2 (b := b) (by omega)
    have b4 : fX6_isRead 3 (nI b) N1 = _ := b4
    rw [fX5_would_26, fX6_would_25, show (200 : Int32) = nI 200 from rfl, ifle (by omega) (by omega), ifle (by omega) (by omega), if_neg (by omega), if_neg (by omega), a1, b1, bind_e, bind_e, a4, b4, bind_e, bind_e, a1_e]
    obtain ⟨r, M', N', e1, e2, e3⟩ := ih n (i + 1) M2 N2 (by omega) (by omega) ((hA.tr a3).tr a6) ((hB.trial hA.2.2.2.1.1 b3).trial hA.2.2.2.1.1 b6) a5 b5
    exact ⟨r, M', N', e1, e2, e3⟩
theorem p_would (x1 : Int32) (hA : AX M R W K kn L ln T tl) (hB : AM N R W K kn L ln T tl) : Same M N (fX5_would x1 M) (fX6_would x1 N) := by
  have h4 := hA.1.2.1.1.2.2.2.1
  unfold fX5_would fX6_would
  rcases G_bill x1 hA.rdX hB.1.2.2.1 hA.1.2.1 with ⟨b, hb, rfl, g1, g2⟩ | ⟨g1, g2, -⟩
  · obtain ⟨M1, a1, a2, a3⟩ := X_look hA (n := 0) (by omega)
    obtain ⟨N1, b1, b2, b3⟩ := M_copies hB.1 (y := 3) (by omega) (by omega)
    have a1 : fX5_lookAhead 0 M = _ := a1
    have b1 : fX6_copies 0 3 N = _ := b1
    obtain ⟨M2, a4, a5, a6⟩ := X_readOut a2 (b := b) (by omega)
    obtain ⟨N2, b4, b5, b6⟩ := M_isRead b2 (b := b) (by omega)
    have b4 : fX6_isRead 3 (nI b) N1 = _ := b4
    rw [g1, g2, bind_e, bind_e, i1n0, i1n0, a1, b1, bind_e, bind_e, a4, b4, bind_e, bind_e]
    exact wou_l hb 200 xfuel 0 M2 N2 (by omega) (by show _ < 1000; omega) (a3.tr a6) ((hB.trial hA.2.2.2.1.1 b3).trial hA.2.2.2.1.1 b6) a5 b5
  · rw [g1, g2]
    exact stay_b hA hB _
theorem joi_l {p b : Nat} (hp : p < np R) (hb : b < nb R) : ∀ k n i N, 9 = i + k → k < n → AX M R W K kn L ln T tl → AM N R W K kn L ln T tl → N.1 60 15 = nI i → Same M N (ro M (fX5_join_20 (nI p) (nI b) M n (nI i))) (fX6_join_23 (nI p) (nI b) n N) := by
  intro k
  induction k with
  | zero =>
    intro n i N e hn hA hB h15
    obtain ⟨n, rfl⟩ : ∃ k, n = k + 1 := ⟨n - 1, by omega⟩
    have h4 := hA.1.2.1.1.2.2.2.1
    have h8 := hA.1.2.1.1.2.1
    have hq := hA.1.2.1.1.2.2.1
    obtain ⟨N1, a1, a2, a3, a4⟩ := M_passes hB.1 hp (b := b) (more := i) (by omega) (by omega)
    have a1 : fX6_passes 0 (nI p) (nI b) (nI i) N = _ := a1
    have hps := X_passesIn hA.1 hp (b := b) (more := i) (by omega) (by omega)
    have hyes : passS R W p b i = true := by
      have := cnt_le (nV R W (inP R W p) p b) (nm R)
      unfold passS noS yesS
      simp
      omega
    rw [fX5_join_20, fX6_join_23, show (20 : Int32) = nI 20 from rfl, iflt (by omega) (by omega), if_neg (by omega), h15, a1, hps, bind_e, bind_e, hyes, if_pos rfl, if_neg (by decide), if_neg (show ¬ nI 1 = 0 by decide)]
    dsimp only
    rw [a2.2 15 (by omega) (by omega), h15]
    exact ⟨_, _, _, rfl, rfl, R, W, K, kn, L, ln, T, tl, hA, hB.keep hA.2.2.2.1.1 (fun a q => a2.1 a (by omega)) (fun j q => by rw [a2.1 67 (by omega)]) (fun j q => a2.2 j (by omega) (by omega))⟩
  | succ k ih =>
    intro n i N e hn hA hB h15
    obtain ⟨n, rfl⟩ : ∃ k, n = k + 1 := ⟨n - 1, by omega⟩
    have h4 := hA.1.2.1.1.2.2.2.1
    obtain ⟨N1, a1, a2, a3, a4⟩ := M_passes hB.1 hp (b := b) (more := i) (by omega) (by omega)
    have a1 : fX6_passes 0 (nI p) (nI b) (nI i) N = _ := a1
    have hps := X_passesIn hA.1 hp (b := b) (more := i) (by omega) (by omega)
    have hB1 : AM N1 R W K kn L ln T tl := hB.keep hA.2.2.2.1.1 (fun a q => a2.1 a (by omega)) (fun j q => by rw [a2.1 67 (by omega)]) (fun j q => a2.2 j (by omega) (by omega))
    have e15 : N1.1 60 15 = nI i := by rw [a2.2 15 (by omega) (by omega)]; exact h15
    rw [fX5_join_20, fX6_join_23, show (20 : Int32) = nI 20 from rfl, iflt (by omega) (by omega), if_neg (by omega), h15, a1, hps, bind_e, bind_e]
    dsimp only
    cases hq : passS R W p b i
    · rw [show (if (false : Bool) = true then 1 else 0) = 0 from rfl, if_pos (show nI 0 = 0 from rfl), if_pos (show nI 0 = 0 from rfl), xl_e, e15, a1_e]
      exact ih n (i + 1) _ (by omega) (by omega) hA (hB1.keep hA.2.2.2.1.1 (fun a q => up_ne (by omega)) (fun j q => by rw [up_ne (by omega)]) (fun j q => by rw [up_at, if_neg (by omega)])) (by rw [up_at, if_pos ⟨rfl, rfl⟩])
    · rw [show (if (true : Bool) = true then 1 else 0) = 1 from rfl, if_neg (show ¬ nI 1 = 0 by decide), if_neg (show ¬ nI 1 = 0 by decide), e15]
      exact ⟨_, _, _, rfl, rfl, R, W, K, kn, L, ln, T, tl, hA, hB1⟩
theorem p_join (x1 x2 : Int32) (hA : AX M R W K kn L ln T tl) (hB : AM N R W K kn L ln T tl) : Same M N (ro M (fX5_join x1 x2 M)) (fX6_join x1 x2 N) := by
  have stay : ∀ r, Same M N (ro M (some r)) (some (r, N)) := fun r => ⟨r, M, N, rfl, rfl, R, W, K, kn, L, ln, T, tl, hA, hB⟩
  unfold fX5_join fX6_join fX5_join_16 fX6_join_16
  rcases G_parish x1 hA.rdX hB.1.2.2.1 hA.1.2.1 with ⟨p, hp, rfl, g1, g2⟩ | ⟨g1, g2, -⟩
  · rcases G_bill x2 hA.rdX hB.1.2.2.1 hA.1.2.1 with ⟨b, hb, rfl, g3, g4⟩ | ⟨g3, g4, -⟩
    · rw [g1, g2, bind_e, bind_e, i1n0, i1n0, g3, g4, bind_e, bind_e, i1n0, i1n0, xl_e]
      have hB1 : AM (up N 60 15 0) R W K kn L ln T tl := hB.keep hA.2.2.2.1.1 (fun a q => up_ne (by omega)) (fun j q => by rw [up_ne (by omega)]) (fun j q => by rw [up_at, if_neg (by omega)])
      have := joi_l (M := M) hp hb 9 xfuel 0 (up N 60 15 0) (by omega) (by show _ < 1000; omega) hA hB1 (by rw [up_at, if_pos ⟨rfl, rfl⟩]; rfl)
      exact this
    · rw [g1, g2, bind_e, bind_e, i1n0, i1n0, g3, g4]
      exact stay _
  · rw [g1, g2]
    exact stay _
theorem p_noDiary (hA : AX M R W K kn L ln T tl) (hB : AM N R W K kn L ln T tl) : Same M N (fX5_noDiary M) (fX6_noDiary N) := by
  unfold fX5_noDiary fX6_noDiary
  rw [hA.2.2.2.2.1.2.1, hB.2.2.1.1, xl_e, xl_e, xl_e, xl_e]
  have hr := isR_rd (M.2 0)
  unfold isR at hr
  have e22 := hA.2.1.1
  obtain ⟨c1, c2, c3, c4, c5, c6⟩ := hA
  obtain ⟨d1, d2, d3, d4⟩ := hB
  refine ⟨_, _, _, rfl, rfl, R, W, K, kn, L, 0, T, tl, ⟨c1.keep (fun a q r => up_ne (by omega)) rfl (fun a q r => up_ne (by rw [e22] at r; omega)), c2, c3, ⟨c4.1, by rw [up_ne (by omega)]; exact c4.2.1, fun k hk => ?_⟩, ⟨by omega, by rw [up_at, if_pos ⟨rfl, rfl⟩]; rfl, fun k hk => absurd hk (by omega)⟩, ⟨c6.1, by rw [up_ne (by omega)]; exact c6.2.1, fun j hj => by rw [up_ne (by omega)]; exact c6.2.2 j hj⟩⟩, ⟨d1.keep (fun a q r => up_ne (by omega)) (fun j q r => by rw [up_ne (by omega)]), ⟨by rw [up_at, if_neg (by omega)]; exact d2.1, fun k hk => (d2.2 k hk).keep (fun a q r => up_ne (by omega)) (fun j q r => by rw [up_ne (by omega)])⟩, ⟨by rw [up_at, if_pos ⟨rfl, rfl⟩]; rfl, fun k hk => absurd hk (by omega)⟩, ⟨by rw [up_at, if_neg (by omega)]; exact d4.1, fun j hj => by rw [up_ne (by omega)]; exact d4.2 j hj⟩⟩⟩
  obtain ⟨b1, b2, b3⟩ := c4.2.2 k hk
  exact ⟨b1.keep (fun a q r => up_ne (by omega)) rfl (fun a q r => up_ne (by rw [b2] at r; omega)), b2, b3⟩
theorem p_diary (x1 x2 x3 : Int32) (hA : AX M R W K kn L ln T tl) (hB : AM N R W K kn L ln T tl) : Same M N (fX5_diary x1 x2 x3 M) (fX6_diary x1 x2 x3 N) := by
  have hR := hA.1.2.1
  have h8 := hR.1.2.1
  have h6 := hR.1.1
  have hl := hA.2.2.2.2.1.1
  have el := hA.2.2.2.2.1.2.1
  have en := hB.2.2.1.1
  unfold fX5_diary fX6_diary fX5_diary_23 fX6_diary_23 fX5_diary_50 fX0_append
  rcases G_member x1 hA.rdX hB.1.2.2.1 hR with ⟨i, hi, rfl, g1, g2⟩ | ⟨g1, g2, -⟩
  · rcases G_parish x2 hA.rdX hB.1.2.2.1 hR with ⟨p, hp, rfl, g3, g4⟩ | ⟨g3, g4, -⟩
    · rcases G_ahead x3 M N with ⟨n, hn, rfl, g5, g6⟩ | ⟨g5, g6, -⟩
      · rw [g1, g2, bind_e, bind_e, i1n0, i1n0, g3, g4, bind_e, bind_e, i1n0, i1n0, g5, g6, bind_e, bind_e, i1n0, i1n0, el, en, li10, iflt (by omega) (by omega), ifeq (by omega) (by omega)]
        by_cases q : ln = 10
        · rw [if_neg (by omega), if_pos q, xbo_0, bind_e]
          dsimp only
          rw [if_pos rfl]
          exact stay_b hA hB _
        · rw [if_pos (by omega), if_neg q, xchk_e (by omega) (by omega), cl_e (by omega), xl_e, up_ne (a := 43) (by omega), el, xchk_e (by omega) (by omega), cl_e (by omega), xl_e, up_ne (a := 43) (by omega), up_ne (a := 43) (by omega), el, xchk_e (by omega) (by omega), cl_e (by omega), xl_e, up_ne (a := 43) (by omega), up_ne (a := 43) (by omega), up_ne (a := 43) (by omega), el, a1_e, xl_e, xbo_1, bind_e]
          dsimp only
          rw [if_neg (by decide), li3, mul_e, xchk_e (by omega) (by omega), cl_e (by omega), xl_e, up_ne (a := 60) (by omega), en, mul_e, li1, add_e, xchk_e (by omega) (by omega), cl_e (by omega), xl_e, up_ne (a := 60) (by omega), up_ne (a := 60) (by omega), en, mul_e, li2, add_e, xchk_e (by omega) (by omega), cl_e (by omega), xl_e, up_ne (a := 60) (by omega), up_ne (a := 60) (by omega), up_ne (a := 60) (by omega), en, add_e, xl_e, up_at, if_pos ⟨rfl, rfl⟩, up_at, if_pos ⟨rfl, rfl⟩]
          have hr := isR_rd (M.2 0)
          unfold isR at hr
          have e22 := hA.2.1.1
          obtain ⟨c1, c2, c3, c4, c5, c6⟩ := hA
          obtain ⟨d1, d2, d3, d4⟩ := hB
          have fr : ∀ a, a < 43 → (up (up (up (up M 44 ln (nI i)) 45 ln (nI p)) 46 ln (nI n)) 43 3 (nI (ln + 1))).1 a = M.1 a := fun a ha => by rw [up_ne (by omega), up_ne (by omega), up_ne (by omega), up_ne (by omega)]
          refine ⟨_, _, _, rfl, rfl, R, W, K, kn, upW (upW (upW L 0 ln i) 1 ln p) 2 ln n, ln + 1, T, tl, ⟨c1.keep (fun a q r => fr a (by omega)) rfl (fun a q r => fr a (by rw [e22] at r; omega)), c2, c3, ⟨c4.1, by rw [fr 0 (by omega)]; exact c4.2.1, fun k hk => ?_⟩, ⟨by omega, by rw [up_at, if_pos ⟨rfl, rfl⟩], fun k hk => ?_⟩, ⟨c6.1, by rw [fr 1 (by omega)]; exact c6.2.1, fun j hj => by rw [fr 2 (by omega)]; exact c6.2.2 j hj⟩⟩, ⟨d1.keep (fun a q r => by rw [up_ne (by omega), up_ne (by omega), up_ne (by omega), up_ne (by omega)]) (fun j q r => by rw [up_ne (by omega), up_ne (by omega), up_ne (by omega), up_ne (by omega)]), ⟨by rw [up_at, if_neg (by omega), up_ne (by omega), up_ne (by omega), up_ne (by omega)]; exact d2.1, fun k hk => (d2.2 k hk).keep (fun a q r => by rw [up_ne (by omega), up_ne (by omega), up_ne (by omega), up_ne (by omega)]) (fun j q r => by rw [up_ne (by omega), up_ne (by omega), up_ne (by omega), up_ne (by omega)])⟩, ⟨by rw [up_at, if_pos ⟨rfl, rfl⟩], fun k hk => ?_⟩, ⟨by rw [up_at, if_neg (by omega), up_ne (by omega), up_ne (by omega), up_ne (by omega)]; exact d4.1, fun j hj => by rw [up_ne (by omega), up_ne (by omega), up_ne (by omega), up_ne (by omega)]; exact d4.2 j hj⟩⟩⟩
          · obtain ⟨b1, b2, b3⟩ := c4.2.2 k hk
            exact ⟨b1.keep (fun a q r => fr a (by omega)) rfl (fun a q r => fr a (by rw [b2] at r; omega)), b2, b3⟩
          · simp only [up_at, upW_e]
            by_cases e : k = ln
            · simp [e]
              omega
            · simp [e]
              exact c5.2.2 k (by omega)
          · simp only [up_at, upW_e]
            by_cases e : k = ln
            · subst e
              simp
            · have := d3.2 k (by omega)
              refine ⟨?_, ?_, ?_⟩
              · (repeat rw [if_neg (by omega)]); exact this.1
              · (repeat rw [if_neg (by omega)]); exact this.2.1
              · (repeat rw [if_neg (by omega)]); exact this.2.2
      · rw [g1, g2, bind_e, bind_e, i1n0, i1n0, g3, g4, bind_e, bind_e, i1n0, i1n0, g5, g6]
        exact stay_b hA hB _
    · rw [g1, g2, bind_e, bind_e, i1n0, i1n0, g3, g4]
      exact stay_b hA hB _
  · rw [g1, g2]
    exact stay_b hA hB _
end
