/-! THE PROMISES, one by one: the same answer, and the relation holds on -/
/-- of a call that may write on either side -/
def Same (M N : xm) (a b : Option (Int32 × xm)) : Prop := ∃ (r : Int32) (M' N' : xm), a = some (r, M') ∧ b = some (r, N') ∧ Rel M' N'
def ro (M : xm) (a : Option Int32) : Option (Int32 × xm) := a.map (fun r => (r, M))
theorem ro_e (M : xm) (r : Int32) : ro M (some r) = some (r, M) := rfl
theorem xw_cases {x : Int32} {n : Nat} (hn : 1 ≤ n) (hn2 : n < 1000) : (∃ k, k < n ∧ x = nI k) ∨ (∀ k, k < n → ¬ x = nI k) := by
  rcases ge_cases x (n := n) (by omega) with q | ⟨-, q⟩
  · exact Or.inl q
  · exact Or.inr (fun k hk e => q ⟨k, hk, e⟩)
theorem in_no {x : Int32} {n : Nat} (hn : 1 ≤ n) (hn2 : n < 1000) (h : ∀ k, k < n → ¬ x = nI k) (N : xm) : fX6_in x.toInt64 (Int32.toInt64 0) (Int32.toInt64 (nI n - 1)) N = some 0 := by
  rw [in_g hn (by omega), if_neg (by rintro ⟨k, hk, e⟩; exact h k hk e)]
theorem in_yes {n k : Nat} (hk : k < n) (hn2 : n < 1000) (N : xm) : fX6_in (nI k).toInt64 (Int32.toInt64 0) (Int32.toInt64 (nI n - 1)) N = some 1 := by
  rw [in_g (by omega) (by omega), if_pos ⟨k, hk, rfl⟩]
section
variable {M N : xm} {R W : tR} {K : Nat → tR} {kn : Nat} {L : tR} {ln : Nat} {T : Nat → Int32} {tl : Nat}
theorem p_wipe (hA : AX M R W K kn L ln T tl) (hB : AM N R W K kn L ln T tl) : Same M N (fX5_wipe M) (fX6_wipe N) := by
  have e1 := hA.2.2.2.2.2.2.1
  have e2 := hB.2.2.2.1
  unfold fX5_wipe fX6_wipe
  rw [e1, e2, xl_e, xl_e, xl_e, xl_e]
  refine ⟨_, _, _, rfl, rfl, R, W, K, kn, L, ln, T, 0, ?_, ?_⟩
  · obtain ⟨a1, a2, a3, a4, a5, a6⟩ := hA
    have hh : AX (up M 1 2 0) R W K kn L ln T 0 := by
      refine ⟨a1.keep (fun a q r => up_ne (by omega)) rfl (fun a q r => up_ne (by have := isR_rd (M.2 22); unfold isR at this; omega)), a2, a3, ⟨a4.1, by rw [up_ne (by omega)]; exact a4.2.1, fun k hk => ?_⟩, ⟨a5.1, by rw [up_ne (by omega)]; exact a5.2.1, fun k hk => by rw [up_ne (by omega), up_ne (by omega), up_ne (by omega)]; exact a5.2.2 k hk⟩, ⟨by omega, by rw [up_at, if_pos ⟨rfl, rfl⟩]; rfl, fun j hj => absurd hj (by omega)⟩⟩
      obtain ⟨b1, b2, b3⟩ := a4.2.2 k hk
      exact ⟨b1.keep (fun a q r => up_ne (by omega)) rfl (fun a q r => up_ne (by have := isR_rd (M.2 (33 + 5 * k)); unfold isR at this; omega)), b2, b3⟩
    exact hh
  · obtain ⟨a1, a2, a3, a4⟩ := hB
    exact ⟨a1.keep (fun a q r => up_ne (by omega)) (fun j q r => by rw [up_ne (by omega)]), ⟨by rw [up_at, if_neg (by omega)]; exact a2.1, fun k hk => (a2.2 k hk).keep (fun a q r => up_ne (by omega)) (fun j q r => by rw [up_ne (by omega)])⟩, ⟨by rw [up_at, if_neg (by omega)]; exact a3.1, fun k hk => by rw [up_ne (by omega)]; exact a3.2 k hk⟩, ⟨by rw [up_at, if_pos ⟨rfl, rfl⟩]; rfl, fun j hj => absurd hj (by omega)⟩⟩
theorem p_parish (x1 x2 : Int32) (hA : AX M R W K kn L ln T tl) (hB : AM N R W K kn L ln T tl) : ∃ r, fX5_parish x1 x2 M = some r ∧ fX6_parish x1 x2 N = some r := by
  have hR := hA.1.2.1
  have h6 := hR.1.1
  have hX := hA.rdX
  have hN := hB.1.2.2.1
  have e4 : (3 : Int32) = nI 4 - 1 := by decide
  unfold fX5_parish fX6_parish fX6_parish_20 fX6_parish_48
  rcases G_parish x1 hX hN hR with ⟨k, hk, rfl, g1, g2⟩ | ⟨g1, g2, -⟩
  · rw [g1, g2, bind_e, bind_e, i1n0, i1n0, i64_0, i64_3]
    rcases xw_cases (x := x2) (n := 4) (by omega) (by omega) with ⟨j, hj, rfl⟩ | q
    · rw [e4, in_yes hj (by omega), bind_e, i1n0, ← e4]
      have h3 := M_there hB.1 (p := k) (by omega)
      have h3 : fX6_there 0 (nI k) N = _ := h3
      have h4 := X_thoseIn hA.1 hk
      rcases (show j = 0 ∨ j = 1 ∨ j = 2 ∨ j = 3 by omega) with rfl | rfl | rfl | rfl
      · rw [if_pos (by decide), if_neg (by decide), xchk_e (by omega) (by omega), cl_e (by omega), hX.2.2.2.2.2.1 k hk, show (3 * nI k + nI 0 : Int32) = nI (3 * k + 0) by rw [li3, mul_e, add_e], xchk_e (by omega) (by omega), cl_e (by omega), hN.2.2.2.2.1 k hk]
        exact ⟨_, rfl, rfl⟩
      · rw [if_neg (by decide), if_pos (by decide), if_neg (by decide), xchk_e (by omega) (by omega), cl_e (by omega), hX.2.2.2.2.2.2.1 k hk, show (3 * nI k + nI 1 : Int32) = nI (3 * k + 1) by rw [li3, mul_e, add_e], xchk_e (by omega) (by omega), cl_e (by omega), hN.2.2.2.2.2.1 k hk]
        exact ⟨_, rfl, rfl⟩
      · rw [if_neg (by decide), if_neg (by decide), if_pos (by decide), if_neg (by decide), xchk_e (by omega) (by omega), cl_e (by omega), hX.2.2.2.2.2.2.2.1 k hk, show (3 * nI k + nI 2 : Int32) = nI (3 * k + 2) by rw [li3, mul_e, add_e], xchk_e (by omega) (by omega), cl_e (by omega), hN.2.2.2.2.2.2.1 k hk]
        exact ⟨_, rfl, rfl⟩
      · rw [if_neg (by decide), if_neg (by decide), if_neg (by decide), if_pos (by decide), if_pos (by decide), h3, h4]
        exact ⟨_, rfl, rfl⟩
    · rw [e4, in_no (by omega) (by omega) q, bind_e, i0e0, ← e4, if_neg (show ¬ x2 = 0 from q 0 (by omega)), if_neg (show ¬ x2 = 1 from q 1 (by omega)), if_neg (show ¬ x2 = 2 from q 2 (by omega)), if_neg (show ¬ x2 = 3 from q 3 (by omega))]
      exact ⟨_, rfl, rfl⟩
  · rw [g1, g2]
    exact ⟨_, rfl, rfl⟩
theorem p_member (x1 x2 : Int32) (hA : AX M R W K kn L ln T tl) (hB : AM N R W K kn L ln T tl) : ∃ r, fX5_member x1 x2 M = some r ∧ fX6_member x1 x2 N = some r := by
  have hR := hA.1.2.1
  have h8 := hR.1.2.1
  have hX := hA.rdX
  have hN := hB.1.2.2.1
  have hx := xend_le hR.1
  have e4 : (4 : Int32) = nI 5 - 1 := by decide
  unfold fX5_member fX6_member fX6_member_20 fX6_member_81
  rcases G_member x1 hX hN hR with ⟨k, hk, rfl, g1, g2⟩ | ⟨g1, g2, -⟩
  · rw [g1, g2, bind_e, bind_e, i1n0, i1n0, i64_0, i64_4]
    rcases xw_cases (x := x2) (n := 5) (by omega) (by omega) with ⟨j, hj, rfl⟩ | q
    · rw [e4, in_yes hj (by omega), bind_e, i1n0, ← e4]
      have m0 := hB.1.2.2.2.1.1 k (by omega)
      have m1 := hB.1.2.2.2.1.2.1 k (by omega)
      have hmi := hA.1.2.2.2.2.1 k (by omega)
      rw [show 25 * 0 + k = k by omega] at m0
      rw [show 25 * 0 + 8 + k = 8 + k by omega] at m1
      rcases (show j = 0 ∨ j = 1 ∨ j = 2 ∨ j = 3 ∨ j = 4 by omega) with rfl | rfl | rfl | rfl | rfl
      · rw [if_pos (by decide), if_neg (by decide), xchk_e (by omega) (by omega), cl_e (by omega), hX.2.2.2.2.2.2.2.2.2.1 k hk, show (3 * nI k + nI 0 : Int32) = nI (3 * k + 0) by rw [li3, mul_e, add_e], xchk_e (by omega) (by omega), cl_e (by omega), hN.2.2.2.2.2.2.2.1 k hk]
        exact ⟨_, rfl, rfl⟩
      · rw [if_neg (by decide), if_pos (by decide), if_neg (by decide), xchk_e (by omega) (by omega), cl_e (by omega), hX.2.2.2.2.2.2.2.2.2.2.1 k hk, show (3 * nI k + nI 1 : Int32) = nI (3 * k + 1) by rw [li3, mul_e, add_e], xchk_e (by omega) (by omega), cl_e (by omega), hN.2.2.2.2.2.2.2.2.1 k hk]
        exact ⟨_, rfl, rfl⟩
      · rw [if_neg (by decide), if_neg (by decide), if_pos (by decide), if_pos (by decide), if_pos (by decide), X_mindOf hA.1 (by omega), show (8 + nI k : Int32) = nI (8 + k) by rw [li8, add_e], xchk_e (by omega) (by omega), cl_e (by omega), m1]
        exact ⟨_, rfl, rfl⟩
      · rw [if_neg (by decide), if_neg (by decide), if_neg (by decide), if_pos (by decide), if_pos (by decide), if_neg (by decide), if_pos (by decide), xchk_e (by omega) (by omega), xchk_e (by omega) (by omega), cl_e (by omega), m0, hA.1.2.2.2.1.1 k (by omega)]
        exact ⟨_, rfl, rfl⟩
      · rw [if_neg (by decide), if_neg (by decide), if_neg (by decide), if_neg (by decide), if_pos (by decide), if_pos (by decide), if_neg (by decide), if_neg (by decide), xchk_e (by omega) (by omega), cl_e (by omega), m0, M_parishOf hN hR (by omega), X_parishOf hA.1 (by omega)]
        exact ⟨_, rfl, rfl⟩
    · rw [e4, in_no (by omega) (by omega) q, bind_e, i0e0, ← e4, if_neg (show ¬ x2 = 0 from q 0 (by omega)), if_neg (show ¬ x2 = 1 from q 1 (by omega)), if_neg (show ¬ x2 = 2 from q 2 (by omega)), if_neg (show ¬ x2 = 3 from q 3 (by omega)), if_neg (show ¬ x2 = 4 from q 4 (by omega))]
      exact ⟨_, rfl, rfl⟩
  · rw [g1, g2]
    exact ⟨_, rfl, rfl⟩
theorem p_count (x1 : Int32) (hA : AX M R W K kn L ln T tl) (hB : AM N R W K kn L ln T tl) : ∃ r, fX5_count x1 M = some r ∧ fX6_count x1 N = some r := by
  have hR := hA.1.2.1
  have hX := hA.rdX
  have hN := hB.1.2.2.1
  have h24 := hB.1.2.2.2.1.2.2.2.2
  unfold fX5_count fX6_count
  rw [xc0 (by omega) (by omega), xc0 (by omega) (by omega), xc0 (by omega) (by omega), xc1 (by omega) (by omega), li24, xchk_e (by omega) (by omega), cl_e (by omega), c0, c1, M_end hN hR.1, hX.1, hX.2.1, hX.2.2.1, hX.2.2.2.1, hX.2.2.2.2.1, hN.1, hN.2.1, hN.2.2.1, hN.2.2.2.1, hA.1.2.2.2.1.2.2.2.2, hA.2.2.2.1.2.1, hA.2.2.2.2.1.2.1, hA.2.2.2.2.2.2.1, hB.2.1.1, hB.2.2.1.1, hB.2.2.2.1]
  have h24 : N.1 67 24 = _ := h24
  rw [h24, bind_e]
  repeat' (first | exact ⟨_, rfl, rfl⟩ | split)
theorem p_voices (x1 x2 x3 : Int32) (hA : AX M R W K kn L ln T tl) (hB : AM N R W K kn L ln T tl) : Same M N (ro M (fX5_voices x1 x2 x3 M)) (fX6_voices x1 x2 x3 N) := by
  have hR := hA.1.2.1
  have h6 := hR.1.1
  have h4 := hR.1.2.2.2.1
  have hX := hA.rdX
  have hN := hB.1.2.2.1
  have e4 : (2 : Int32) = nI 3 - 1 := by decide
  have stay : ∀ r, Same M N (ro M (some r)) (some (r, N)) := fun r => ⟨r, M, N, rfl, rfl, R, W, K, kn, L, ln, T, tl, hA, hB⟩
  unfold fX5_voices fX6_voices fX5_voices_16 fX6_voices_28 fX5_voices_82 fX6_voices_73
  rcases G_parish x1 hX hN hR with ⟨p, hp, rfl, g1, g2⟩ | ⟨g1, g2, -⟩
  · rcases G_bill x2 hX hN hR with ⟨b, hb, rfl, g3, g4⟩ | ⟨g3, g4, -⟩
    · rw [g1, g2, bind_e, bind_e, i1n0, i1n0, g3, g4, bind_e, bind_e, i1n0, i1n0, i64_0, i64_2]
      rcases xw_cases (x := x3) (n := 3) (by omega) (by omega) with ⟨j, hj, rfl⟩ | q
      · rw [e4, in_yes hj (by omega), bind_e, i1n0, ← e4]
        obtain ⟨N', a1, a2, a3, a4⟩ := M_passes hB.1 hp (b := b) (more := 0) (by omega) (by omega)
        have a1 : fX6_passes 0 (nI p) (nI b) 0 N = _ := a1
        have hN' : AM N' R W K kn L ln T tl := hB.keep hA.2.2.2.1.1 (fun a q => a2.1 a (by omega)) (fun j q => by rw [a2.1 67 (by omega)]) (fun j q => a2.2 j (by omega) (by omega))
        have stay2 : ∀ r, Same M N (ro M (some r)) (some (r, N')) := fun r => ⟨r, M, N', rfl, rfl, R, W, K, kn, L, ln, T, tl, hA, hN'⟩
        have hy : fX4_yesIn 22 (nI p) (nI b) M = some (nI (yesS R W p b 0)) := by
          unfold fX4_yesIn
          have := X_yesOf hA.1 (inP R W p) (p := p) (b := b) (more := 0) (by omega) (by omega) (by omega)
          have this : fX4_yesOf 22 (nI (mk (inP R W p) (nm R))) (nI p) (nI b) 0 M = _ := this
          rw [X_thoseIn hA.1 hp, bind_e, this, bind_e]
          rfl
        have hn : fX4_noIn 22 (nI p) (nI b) M = some (nI (noS R W p b)) := by
          unfold fX4_noIn
          rw [X_thoseIn hA.1 hp, bind_e, X_noOf hA.1 (inP R W p) (by omega) (by omega), bind_e]
          rfl
        have hps : fX4_passesIn 22 (nI p) (nI b) 0 M = _ := X_passesIn hA.1 hp (b := b) (more := 0) (by omega) (by omega)
        rw [a1, bind_e, hy, hn, hps]
        dsimp only
        rw [a3, a4]
        rcases (show j = 0 ∨ j = 1 ∨ j = 2 by omega) with rfl | rfl | rfl
        · rw [if_pos (show nI 0 = 0 from rfl), if_pos (show nI 0 = 0 from rfl)]
          exact stay2 _
        · rw [if_neg (show ¬ nI 1 = 0 by decide), if_neg (show ¬ nI 1 = 0 by decide), if_pos (show nI 1 = 1 from rfl), if_pos (show nI 1 = 1 from rfl)]
          exact stay2 _
        · rw [if_neg (show ¬ nI 2 = 0 by decide), if_neg (show ¬ nI 2 = 0 by decide), if_neg (show ¬ nI 2 = 1 by decide), if_neg (show ¬ nI 2 = 1 by decide), if_pos (show nI 2 = 2 from rfl), bind_e]
          split
          · exact stay2 _
          · exact stay2 _
      · rw [e4, in_no (by omega) (by omega) q, bind_e, i0e0, ← e4, if_neg (show ¬ x3 = 0 from q 0 (by omega)), if_neg (show ¬ x3 = 1 from q 1 (by omega)), if_neg (show ¬ x3 = 2 from q 2 (by omega))]
        exact stay _
    · rw [g1, g2, bind_e, bind_e, i1n0, i1n0, g3, g4]
      exact stay _
  · rw [g1, g2]
    exact stay _
theorem p_bill (x1 x2 : Int32) (hA : AX M R W K kn L ln T tl) (hB : AM N R W K kn L ln T tl) : ∃ r, fX5_bill x1 x2 M = some r ∧ fX6_bill x1 x2 N = some r := by
  have hR := hA.1.2.1
  have h4 := hR.1.2.2.2.1
  have hX := hA.rdX
  have hN := hB.1.2.2.1
  have e4 : (2 : Int32) = nI 3 - 1 := by decide
  unfold fX5_bill fX6_bill fX6_bill_20 fX6_bill_71 fX5_bill_62
  rcases G_bill x1 hX hN hR with ⟨b, hb, rfl, g1, g2⟩ | ⟨g1, g2, -⟩
  · rw [g1, g2, bind_e, bind_e, i1n0, i1n0, i64_0, i64_2]
    rcases xw_cases (x := x2) (n := 3) (by omega) (by omega) with ⟨j, hj, rfl⟩ | q
    · rw [e4, in_yes hj (by omega), bind_e, i1n0, ← e4]
      have m2 := hB.1.2.2.2.1.2.2.1 b (by omega)
      have m3 := hB.1.2.2.2.1.2.2.2.1 b (by omega)
      rw [show 25 * 0 + 16 + b = 16 + b by omega] at m2
      rw [show 25 * 0 + 20 + b = 20 + b by omega] at m3
      have hh : fX6_isHeld 0 (nI b) N = _ := M_isHeld hB.1 (b := b) (by omega)
      rcases (show j = 0 ∨ j = 1 ∨ j = 2 by omega) with rfl | rfl | rfl
      · rw [if_pos (by decide), if_pos (by decide), xchk_e (by omega) (by omega), cl_e (by omega), hA.1.2.2.2.1.2.2.1 b (by omega), li16, add_e, xchk_e (by omega) (by omega), cl_e (by omega), m2]
        exact ⟨_, rfl, rfl⟩
      · rw [if_neg (by decide), if_pos (by decide), if_neg (by decide), if_pos (by decide), X_isHeld hA.1 (by omega), hh, bind_e]
        split
        · exact ⟨_, rfl, rfl⟩
        · exact ⟨_, rfl, rfl⟩
      · rw [if_neg (by decide), if_neg (by decide), if_pos (by decide), if_neg (by decide), if_neg (by decide), xchk_e (by omega) (by omega), cl_e (by omega), hA.1.2.2.2.1.2.2.2.1 b (by omega), li20, add_e, xchk_e (by omega) (by omega), cl_e (by omega), m3]
        exact ⟨_, rfl, rfl⟩
    · rw [e4, in_no (by omega) (by omega) q, bind_e, i0e0, ← e4, if_neg (show ¬ x2 = 0 from q 0 (by omega)), if_neg (show ¬ x2 = 1 from q 1 (by omega)), if_neg (show ¬ x2 = 2 from q 2 (by omega))]
      exact ⟨_, rfl, rfl⟩
  · rw [g1, g2]
    exact ⟨_, rfl, rfl⟩
end
