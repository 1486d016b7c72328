/-! THE TEXT: the draft road of the reference -/
def DM (N : xm) (D : tR) : Prop := N.1 63 1 = nI (np D) ∧ N.1 65 1 = nI (nm D) ∧ N.1 62 2 = nI (qu D) ∧ N.1 62 3 = nI (nb D) ∧
  (∀ p, p < np D → N.1 64 (18 + 3 * p + 0) = nI (D 1 p) ∧ N.1 64 (18 + 3 * p + 1) = nI (D 2 p) ∧ N.1 64 (18 + 3 * p + 2) = nI (D 3 p)) ∧
  (∀ i, i < nm D → N.1 66 (24 + 3 * i + 0) = nI (D 4 i) ∧ N.1 66 (24 + 3 * i + 1) = nI (D 5 i) ∧ N.1 66 (24 + 3 * i + 2) = nI (D 6 i))
/-- nothing but the draft has changed -/
def onD (N N' : xm) : Prop := ∀ a j, ¬ (a = 63 ∧ j = 1) → ¬ (a = 65 ∧ j = 1) → ¬ (a = 62 ∧ 2 ≤ j) → ¬ (a = 64 ∧ 18 ≤ j) → ¬ (a = 66 ∧ 24 ≤ j) → N'.1 a j = N.1 a j
theorem onD.rf {N : xm} : onD N N := fun _ _ _ _ _ _ _ => rfl
theorem onD.tr {N N' N'' : xm} (h : onD N N') (h2 : onD N' N'') : onD N N'' := fun a j q1 q2 q3 q4 q5 => (h2 a j q1 q2 q3 q4 q5).trans (h a j q1 q2 q3 q4 q5)
section
variable {N : xm} {D : tR}
theorem M_isIn {k v : Nat} (hk : k < 3) (hv : v < 100) (he : N.1 72 k = nI v) (a b : Nat) (ha : a < 100) (hb : b < 100) : fX6_isIn (nI k) (nI a) (nI b) N = some (if a ≤ v ∧ v ≤ b then 1 else 0) := by
  have key : (nI a ≤ nI v ∧ nI v ≤ nI b) ↔ (a ≤ v ∧ v ≤ b) := by
    rw [Int32.le_iff_toInt_le, Int32.le_iff_toInt_le, nI_toInt (by omega), nI_toInt (by omega), nI_toInt (by omega)]
    omega
  unfold fX6_isIn
  rw [xchk_e (by omega) (by omega), cl_e (by omega), he, in_e, bind_e]
  by_cases c : a ≤ v ∧ v ≤ b
  · rw [if_pos (key.mpr c), if_pos c, xbo_1]
  · rw [if_neg (fun q => c (key.mp q)), if_neg c, xbo_0]
theorem M_begins (N : xm) : ∃ N', fX6_begins N = some N' ∧ DM N' D0 ∧ onD N N' := by
  unfold fX6_begins
  rw [xc1 (by omega) (by omega), xl_e, c1, xc1 (by omega) (by omega), xl_e, li2, xchk_e (by omega) (by omega), xl_e, cl_e (by omega), li3, xchk_e (by omega) (by omega), xl_e, cl_e (by omega)]
  refine ⟨_, rfl, ⟨by simp [up_at]; rfl, by simp [up_at]; rfl, by simp [up_at]; rfl, by simp [up_at]; rfl, fun p hp => absurd hp (Nat.not_lt_zero p), fun p hp => absurd hp (Nat.not_lt_zero p)⟩, fun a j q1 q2 q3 q4 q5 => ?_⟩
  rw [up_at, if_neg (by omega), up_at, if_neg (by omega), up_at, if_neg (by omega), up_at, if_neg (by omega)]
theorem M_good_57 {a b c : Nat} (n : Nat) (h : DM N D) (h0 : np D < 6) (e0 : N.1 72 0 = nI a) (e1 : N.1 72 1 = nI b) (e2 : N.1 72 2 = nI c) : ∃ N', fX6_isGood_57 1 (n + 1 + 1 + 1 + 1) (nI 0) N = some (1, N') ∧ DM N' (addP D a b c) ∧ onD N N' := by
  have st : ∀ (m k : Nat) (N1 : xm), k < 3 → N1.1 63 1 = nI (np D) → fX6_isGood_57 1 (m + 1) (nI k) N1 = fX6_isGood_57 1 m (nI (k + 1)) (up N1 64 (18 + 3 * np D + k) (N1.1 72 k)) := by
    intro m k N1 hk e
    rw [fX6_isGood_57, li3, ifle (by omega) (by omega), if_neg (by omega), if_neg (by decide), xc1 (by omega) (by omega), c1, e, show (18 : Int32) = nI 18 from rfl, mul_e, add_e, add_e, xchk_e (by omega) (by omega), xchk_e (by omega) (by omega), xl_e, cl_e (by omega), cl_e (by omega), a1_e]
  have en : ∀ (m : Nat) (N1 : xm), N1.1 63 1 = nI (np D) → fX6_isGood_57 1 (m + 1) (nI 3) N1 = some (1, up N1 63 1 (nI (np D + 1))) := by
    intro m N1 e
    rw [fX6_isGood_57, li3, ifle (by omega) (by omega), if_pos (by omega)]
    unfold fX6_isGood_96 fX6_isGood_112
    rw [xc1 (by omega) (by omega), if_neg (by decide), xc1 (by omega) (by omega), xl_e, c1, e, a1_e, xbo_1]
  obtain ⟨g1, g2, g3, g4, g5, g6⟩ := h
  rw [st _ 0 N (by omega) g1, st _ (0 + 1) _ (by omega) (by rw [up_ne (by omega)]; exact g1), st _ (0 + 1 + 1) _ (by omega) (by rw [up_ne (by omega), up_ne (by omega)]; exact g1), en _ _ (by rw [up_ne (by omega), up_ne (by omega), up_ne (by omega)]; exact g1)]
  refine ⟨_, rfl, ⟨?_, ?_, ?_, ?_, fun p hp => ?_, fun i hi => ?_⟩, fun x j q1 q2 q3 q4 q5 => ?_⟩
  · rw [up_at, if_pos ⟨rfl, rfl⟩]; rfl
  · rw [up_ne (by omega), up_ne (by omega), up_ne (by omega), up_ne (by omega)]; exact g2
  · rw [up_ne (by omega), up_ne (by omega), up_ne (by omega), up_ne (by omega)]; exact g3
  · rw [up_ne (by omega), up_ne (by omega), up_ne (by omega), up_ne (by omega)]; exact g4
  · have hp : p < np D + 1 := hp
    rw [addP_1, addP_2, addP_3]
    by_cases d : p = np D
    · subst d
      simp [up_at, e0, e1, e2]
    · obtain ⟨f1, f2, f3⟩ := g5 p (by omega)
      refine ⟨?_, ?_, ?_⟩
      · rw [if_neg d, up_ne (by omega), up_at, if_neg (by omega), up_at, if_neg (by omega), up_at, if_neg (by omega)]; exact f1
      · rw [if_neg d, up_ne (by omega), up_at, if_neg (by omega), up_at, if_neg (by omega), up_at, if_neg (by omega)]; exact f2
      · rw [if_neg d, up_ne (by omega), up_at, if_neg (by omega), up_at, if_neg (by omega), up_at, if_neg (by omega)]; exact f3
  · rw [up_ne (by omega), up_ne (by omega), up_ne (by omega), up_ne (by omega)]; exact g6 i hi
  · rw [up_at, if_neg (by omega), up_at, if_neg (by omega), up_at, if_neg (by omega), up_at, if_neg (by omega)]
theorem M_good_173 {a b c : Nat} (n : Nat) (h : DM N D) (h0 : nm D < 8) (e0 : N.1 72 0 = nI a) (e1 : N.1 72 1 = nI b) (e2 : N.1 72 2 = nI c) : ∃ N', fX6_isGood_173 1 (n + 1 + 1 + 1 + 1) (nI 0) N = some (1, N') ∧ DM N' (addM D a b c) ∧ onD N N' := by
  have st : ∀ (m k : Nat) (N1 : xm), k < 3 → N1.1 65 1 = nI (nm D) → fX6_isGood_173 1 (m + 1) (nI k) N1 = fX6_isGood_173 1 m (nI (k + 1)) (up N1 66 (24 + 3 * nm D + k) (N1.1 72 k)) := by
    intro m k N1 hk e
    rw [fX6_isGood_173, li3, ifle (by omega) (by omega), if_neg (by omega), if_neg (by decide), xc1 (by omega) (by omega), c1, e, show (24 : Int32) = nI 24 from rfl, mul_e, add_e, add_e, xchk_e (by omega) (by omega), xchk_e (by omega) (by omega), xl_e, cl_e (by omega), cl_e (by omega), a1_e]
  have en : ∀ (m : Nat) (N1 : xm), N1.1 65 1 = nI (nm D) → fX6_isGood_173 1 (m + 1) (nI 3) N1 = some (1, up N1 65 1 (nI (nm D + 1))) := by
    intro m N1 e
    rw [fX6_isGood_173, li3, ifle (by omega) (by omega), if_pos (by omega)]
    unfold fX6_isGood_212 fX6_isGood_228
    rw [xc1 (by omega) (by omega), if_neg (by decide), xc1 (by omega) (by omega), xl_e, c1, e, a1_e, xbo_1]
  obtain ⟨g1, g2, g3, g4, g5, g6⟩ := h
  rw [st _ 0 N (by omega) g2, st _ (0 + 1) _ (by omega) (by rw [up_ne (by omega)]; exact g2), st _ (0 + 1 + 1) _ (by omega) (by rw [up_ne (by omega), up_ne (by omega)]; exact g2), en _ _ (by rw [up_ne (by omega), up_ne (by omega), up_ne (by omega)]; exact g2)]
  refine ⟨_, rfl, ⟨?_, ?_, ?_, ?_, fun p hp => ?_, fun i hi => ?_⟩, fun x j q1 q2 q3 q4 q5 => ?_⟩
  · rw [up_ne (by omega), up_ne (by omega), up_ne (by omega), up_ne (by omega)]; exact g1
  · rw [up_at, if_pos ⟨rfl, rfl⟩]; rfl
  · rw [up_ne (by omega), up_ne (by omega), up_ne (by omega), up_ne (by omega)]; exact g3
  · rw [up_ne (by omega), up_ne (by omega), up_ne (by omega), up_ne (by omega)]; exact g4
  · rw [up_ne (by omega), up_ne (by omega), up_ne (by omega), up_ne (by omega)]; exact g5 p hp
  · have hi : i < nm D + 1 := hi
    rw [addM_4, addM_5, addM_6]
    by_cases d : i = nm D
    · subst d
      simp [up_at, e0, e1, e2]
    · obtain ⟨f1, f2, f3⟩ := g6 i (by omega)
      refine ⟨?_, ?_, ?_⟩
      · rw [if_neg d, up_ne (by omega), up_at, if_neg (by omega), up_at, if_neg (by omega), up_at, if_neg (by omega)]; exact f1
      · rw [if_neg d, up_ne (by omega), up_at, if_neg (by omega), up_at, if_neg (by omega), up_at, if_neg (by omega)]; exact f2
      · rw [if_neg d, up_ne (by omega), up_at, if_neg (by omega), up_at, if_neg (by omega), up_at, if_neg (by omega)]; exact f3
  · rw [up_at, if_neg (by omega), up_at, if_neg (by omega), up_at, if_neg (by omega), up_at, if_neg (by omega)]
theorem M_good_p {a b c : Nat} (h : DM N D) (hD : okR D) (ha : a < 100) (hb : b < 100) (hc : c < 100) (e0 : N.1 72 0 = nI a) (e1 : N.1 72 1 = nI b) (e2 : N.1 72 2 = nI c) : ((1 ≤ a ∧ a ≤ 30) ∧ (0 ≤ b ∧ b ≤ 1) ∧ (0 ≤ c ∧ c ≤ 40) ∧ np D < 6 → ∃ N', fX6_isGood 112 N = some (1, N') ∧ DM N' (addP D a b c) ∧ onD N N') ∧ (¬ ((1 ≤ a ∧ a ≤ 30) ∧ (0 ≤ b ∧ b ≤ 1) ∧ (0 ≤ c ∧ c ≤ 40) ∧ np D < 6) → ∃ N', fX6_isGood 112 N = some (0, N') ∧ onD N N') := by
  have i0 : fX6_isIn 0 1 30 N = _ := M_isIn (k := 0) (by omega) ha e0 1 30 (by omega) (by omega)
  have i1 : fX6_isIn 1 0 1 N = _ := M_isIn (k := 1) (by omega) hb e1 0 1 (by omega) (by omega)
  have i2 : fX6_isIn 2 0 40 N = _ := M_isIn (k := 2) (by omega) hc e2 0 40 (by omega) (by omega)
  have h6 : np D ≤ 6 := hD.1
  have no : ∃ N', fX6_isGood_53 N = some (0, N') ∧ onD N N' := by
    unfold fX6_isGood_53 fX6_isGood_54
    rw [show xfuel = 999 + 1 from rfl, fX6_isGood_57, if_neg (by decide), if_pos rfl]
    unfold fX6_isGood_96 fX6_isGood_112
    rw [xc1 (by omega) (by omega), if_pos rfl, xc1 (by omega) (by omega), xl_e, xbo_0]
    refine ⟨_, rfl, fun x j q1 q2 q3 q4 q5 => ?_⟩
    rw [up_at, if_neg (by rw [c1]; omega)]
  have yes : np D < 6 → ∃ N', fX6_isGood_54 1 N = some (1, N') ∧ DM N' (addP D a b c) ∧ onD N N' := fun q => M_good_57 996 h q e0 e1 e2
  unfold fX6_isGood
  rw [if_pos rfl]
  rw [i0, bind_e]
  by_cases d0 : 1 ≤ a ∧ a ≤ 30
  · rw [if_pos d0, i1n0, i1, bind_e]
    by_cases d1 : 0 ≤ b ∧ b ≤ 1
    · rw [if_pos d1, i1n0, i2, bind_e]
      by_cases d2 : 0 ≤ c ∧ c ≤ 40
      · rw [if_pos d2, i1n0, xc1 (by omega) (by omega), c1, h.1, show (6 : Int32) = nI 6 from rfl, ifle (by omega) (by omega)]
        by_cases d3 : np D < 6
        · rw [if_neg (by omega)]
          exact ⟨fun _ => yes d3, fun q => absurd ⟨d0, d1, d2, d3⟩ q⟩
        · rw [if_pos (by omega)]
          exact ⟨fun q => absurd q.2.2.2 d3, fun _ => no⟩
      · rw [if_neg d2, i0e0]
        exact ⟨fun q => absurd q.2.2.1 d2, fun _ => no⟩
    · rw [if_neg d1, i0e0]
      exact ⟨fun q => absurd q.2.1 d1, fun _ => no⟩
  · rw [if_neg d0, i0e0]
    exact ⟨fun q => absurd q.1 d0, fun _ => no⟩
theorem M_good_m {a b c : Nat} (h : DM N D) (hD : okR D) (ha : a < 100) (hb : b < 100) (hc : c < 100) (e0 : N.1 72 0 = nI a) (e1 : N.1 72 1 = nI b) (e2 : N.1 72 2 = nI c) : ((0 ≤ a ∧ a ≤ 5) ∧ (1 ≤ b ∧ b ≤ 9) ∧ (0 ≤ c ∧ c ≤ 15) ∧ nm D < 8 → ∃ N', fX6_isGood 109 N = some (1, N') ∧ DM N' (addM D a b c) ∧ onD N N') ∧ (¬ ((0 ≤ a ∧ a ≤ 5) ∧ (1 ≤ b ∧ b ≤ 9) ∧ (0 ≤ c ∧ c ≤ 15) ∧ nm D < 8) → ∃ N', fX6_isGood 109 N = some (0, N') ∧ onD N N') := by
  have i0 : fX6_isIn 0 0 5 N = _ := M_isIn (k := 0) (by omega) ha e0 0 5 (by omega) (by omega)
  have i1 : fX6_isIn 1 1 9 N = _ := M_isIn (k := 1) (by omega) hb e1 1 9 (by omega) (by omega)
  have i2 : fX6_isIn 2 0 15 N = _ := M_isIn (k := 2) (by omega) hc e2 0 15 (by omega) (by omega)
  have h6 : nm D ≤ 8 := hD.2.1
  have no : ∃ N', fX6_isGood_169 N = some (0, N') ∧ onD N N' := by
    unfold fX6_isGood_169 fX6_isGood_170
    rw [show xfuel = 999 + 1 from rfl, fX6_isGood_173, if_neg (by decide), if_pos rfl]
    unfold fX6_isGood_212 fX6_isGood_228
    rw [xc1 (by omega) (by omega), if_pos rfl, xc1 (by omega) (by omega), xl_e, xbo_0]
    refine ⟨_, rfl, fun x j q1 q2 q3 q4 q5 => ?_⟩
    rw [up_at, if_neg (by rw [c1]; omega)]
  have yes : nm D < 8 → ∃ N', fX6_isGood_170 1 N = some (1, N') ∧ DM N' (addM D a b c) ∧ onD N N' := fun q => M_good_173 996 h q e0 e1 e2
  unfold fX6_isGood
  rw [if_neg (by decide), if_pos rfl]
  rw [i0, bind_e]
  by_cases d0 : 0 ≤ a ∧ a ≤ 5
  · rw [if_pos d0, i1n0, i1, bind_e]
    by_cases d1 : 1 ≤ b ∧ b ≤ 9
    · rw [if_pos d1, i1n0, i2, bind_e]
      by_cases d2 : 0 ≤ c ∧ c ≤ 15
      · rw [if_pos d2, i1n0, xc1 (by omega) (by omega), c1, h.2.1, show (8 : Int32) = nI 8 from rfl, ifle (by omega) (by omega)]
        by_cases d3 : nm D < 8
        · rw [if_neg (by omega)]
          exact ⟨fun _ => yes d3, fun q => absurd ⟨d0, d1, d2, d3⟩ q⟩
        · rw [if_pos (by omega)]
          exact ⟨fun q => absurd q.2.2.2 d3, fun _ => no⟩
      · rw [if_neg d2, i0e0]
        exact ⟨fun q => absurd q.2.2.1 d2, fun _ => no⟩
    · rw [if_neg d1, i0e0]
      exact ⟨fun q => absurd q.2.1 d1, fun _ => no⟩
  · rw [if_neg d0, i0e0]
    exact ⟨fun q => absurd q.1 d0, fun _ => no⟩
theorem M_good_q {a : Nat} (h : DM N D) (ha : a < 100) (e0 : N.1 72 0 = nI a) : ∃ N', fX6_isGood 113 N = some (if 1 ≤ a ∧ a ≤ 8 then 1 else 0, N') ∧ DM N' (upW D 0 2 a) ∧ onD N N' := by
  have i0 : fX6_isIn 0 1 8 (up N 62 2 (nI a)) = _ := M_isIn (N := up N 62 2 (nI a)) (k := 0) (by omega) ha (by rw [up_ne (by omega)]; exact e0) 1 8 (by omega) (by omega)
  obtain ⟨g1, g2, g3, g4, g5, g6⟩ := h
  unfold fX6_isGood fX6_isGood_247 fX6_isGood_278
  rw [if_neg (show ¬ (113 : Int32) = 112 by decide), if_neg (show ¬ (113 : Int32) = 109 by decide), if_pos rfl, xc0 (by omega) (by omega), c0, e0, show (2 : Int32) = nI 2 from rfl, xchk_e (by omega) (by omega), xl_e, cl_e (by omega), if_pos rfl, i0, bind_e]
  refine ⟨up N 62 2 (nI a), ?_, ⟨by rw [up_ne (by omega)]; exact g1, by rw [up_ne (by omega)]; exact g2, by rw [up_at, if_pos ⟨rfl, rfl⟩]; rfl, by rw [up_at, if_neg (by omega)]; exact g4, fun p hp => by rw [up_ne (by omega)]; exact g5 p hp, fun i hi => by rw [up_ne (by omega)]; exact g6 i hi⟩, fun x j q1 q2 q3 q4 q5 => by rw [up_at, if_neg (by omega)]⟩
  by_cases c : 1 ≤ a ∧ a ≤ 8
  · rw [if_pos c, xbo_1]
  · rw [if_neg c, xbo_0]
theorem M_good_b {a : Nat} (h : DM N D) (ha : a < 100) (e0 : N.1 72 0 = nI a) : ∃ N', fX6_isGood 98 N = some (if 1 ≤ a ∧ a ≤ 4 then 1 else 0, N') ∧ DM N' (upW D 0 3 a) ∧ onD N N' := by
  have i0 : fX6_isIn 0 1 4 (up N 62 3 (nI a)) = _ := M_isIn (N := up N 62 3 (nI a)) (k := 0) (by omega) ha (by rw [up_ne (by omega)]; exact e0) 1 4 (by omega) (by omega)
  obtain ⟨g1, g2, g3, g4, g5, g6⟩ := h
  unfold fX6_isGood fX6_isGood_247 fX6_isGood_278
  rw [if_neg (show ¬ (98 : Int32) = 112 by decide), if_neg (show ¬ (98 : Int32) = 109 by decide), if_neg (show ¬ (98 : Int32) = 113 by decide), xc0 (by omega) (by omega), c0, e0, show (3 : Int32) = nI 3 from rfl, xchk_e (by omega) (by omega), xl_e, cl_e (by omega), if_neg (show ¬ (98 : Int32) = 113 by decide), i0, bind_e]
  refine ⟨up N 62 3 (nI a), ?_, ⟨by rw [up_ne (by omega)]; exact g1, by rw [up_ne (by omega)]; exact g2, by rw [up_at, if_neg (by omega)]; exact g3, by rw [up_at, if_pos ⟨rfl, rfl⟩]; rfl, fun p hp => by rw [up_ne (by omega)]; exact g5 p hp, fun i hi => by rw [up_ne (by omega)]; exact g6 i hi⟩, fun x j q1 q2 q3 q4 q5 => by rw [up_at, if_neg (by omega)]⟩
  by_cases c : 1 ≤ a ∧ a ≤ 4
  · rw [if_pos c, xbo_1]
  · rw [if_neg c, xbo_0]
end
