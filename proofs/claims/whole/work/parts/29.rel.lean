/-! THE TWO MEMORIES: what class and reference have in common -/
def AX (M : xm) (R W : tR) (K : Nat → tR) (kn : Nat) (L : tR) (ln : Nat) (T : Nat → Int32) (tl : Nat) : Prop :=
  WX M 22 R W ∧ (M.2 22 = M.2 0 ∧ M.2 100 = !M.2 0) ∧ W 4 0 ≤ 9999 ∧
  (kn ≤ 2 ∧ M.1 0 6 = nI kn ∧ ∀ k, k < kn → WX M (33 + 5 * k) R (K k) ∧ M.2 (33 + 5 * k) = M.2 0 ∧ K k 4 0 ≤ 9999) ∧
  (ln ≤ 10 ∧ M.1 43 3 = nI ln ∧ ∀ k, k < ln → (M.1 44 k = nI (L 0 k) ∧ M.1 45 k = nI (L 1 k) ∧ M.1 46 k = nI (L 2 k)) ∧ L 0 k < nm R ∧ L 1 k < np R ∧ L 2 k ≤ 400) ∧
  (tl ≤ 300 ∧ M.1 1 2 = nI tl ∧ ∀ j, j < tl → M.1 2 j = T j)
def AM (N : xm) (R W : tR) (K : Nat → tR) (kn : Nat) (L : tR) (ln : Nat) (T : Nat → Int32) (tl : Nat) : Prop :=
  MX N 0 R W ∧ (N.1 60 9 = nI kn ∧ ∀ k, k < kn → MX N (k + 1) R (K k)) ∧
  (N.1 60 10 = nI ln ∧ ∀ k, k < ln → N.1 68 (3 * k) = nI (L 0 k) ∧ N.1 68 (3 * k + 1) = nI (L 1 k) ∧ N.1 68 (3 * k + 2) = nI (L 2 k)) ∧
  (N.1 60 0 = nI tl ∧ ∀ j, j < tl → N.1 61 j = T j)
def Rel (M N : xm) : Prop := ∃ (R W : tR) (K : Nat → tR) (kn : Nat) (L : tR) (ln : Nat) (T : Nat → Int32) (tl : Nat), AX M R W K kn L ln T tl ∧ AM N R W K kn L ln T tl
theorem AX.rdX {M : xm} {R W : tR} {K : Nat → tR} {kn : Nat} {L : tR} {ln : Nat} {T : Nat → Int32} {tl : Nat} (h : AX M R W K kn L ln T tl) : rdX M (rd (M.2 0)) R := by
  have h1 := h.1.2.2.1
  rw [h.2.1.1] at h1
  exact h1
theorem WX.keep {M M' : xm} {w : Nat} {R W : tR} (h : WX M w R W) (h1 : ∀ a, w ≤ a → a ≤ w + 4 → M'.1 a = M.1 a) (h2 : M'.2 w = M.2 w) (h3 : ∀ a, rd (M.2 w) ≤ a → a ≤ rd (M.2 w) + 8 → M'.1 a = M.1 a) : WX M' w R W := by
  obtain ⟨e1, e2, e3, e4, e5⟩ := h
  refine ⟨e1, e2, by rw [h2]; exact e3.same h3, ?_, e5⟩
  unfold encX at e4 ⊢
  rw [h1 w (by omega) (by omega), h1 (w + 1) (by omega) (by omega), h1 (w + 2) (by omega) (by omega), h1 (w + 3) (by omega) (by omega), h1 (w + 4) (by omega) (by omega)]
  exact e4
theorem AX.keep {M M' : xm} {R W : tR} {K : Nat → tR} {kn : Nat} {L : tR} {ln : Nat} {T : Nat → Int32} {tl : Nat} (h : AX M R W K kn L ln T tl) (h1 : ∀ a, (a ≤ 2 ∨ (rd (M.2 0) ≤ a ∧ a ≤ rd (M.2 0) + 8) ∨ (22 ≤ a ∧ a ≤ 26) ∨ (33 ≤ a ∧ a ≤ 46)) → M'.1 a = M.1 a) (h2 : ∀ a, (a = 0 ∨ a = 100 ∨ a = 22 ∨ a = 33 ∨ a = 38) → M'.2 a = M.2 a) : AX M' R W K kn L ln T tl := by
  obtain ⟨a1, a2, a3, a4, a5, a6⟩ := h
  have e0 := h2 0 (by omega)
  refine ⟨a1.keep (fun a q r => h1 a (by omega)) (h2 22 (by omega)) (fun a q r => h1 a (by rw [a2.1] at q r; omega)), ⟨by rw [h2 22 (by omega), e0]; exact a2.1, by rw [h2 100 (by omega), e0]; exact a2.2⟩, a3, ⟨a4.1, by rw [h1 0 (by omega)]; exact a4.2.1, fun k hk => ?_⟩, ⟨a5.1, by rw [h1 43 (by omega)]; exact a5.2.1, fun k hk => ?_⟩, ⟨a6.1, by rw [h1 1 (by omega)]; exact a6.2.1, fun j hj => by rw [h1 2 (by omega)]; exact a6.2.2 j hj⟩⟩
  · have hk2 := a4.1
    obtain ⟨b1, b2, b3⟩ := a4.2.2 k hk
    have e9 := h2 (33 + 5 * k) (by omega)
    exact ⟨b1.keep (fun a q r => h1 a (by omega)) e9 (fun a q r => h1 a (by rw [b2] at q r; omega)), by rw [e9, e0]; exact b2, b3⟩
  · rw [h1 44 (by omega), h1 45 (by omega), h1 46 (by omega)]
    exact a5.2.2 k hk
theorem AX.trial {M M' : xm} {R W : tR} {K : Nat → tR} {kn : Nat} {L : tR} {ln : Nat} {T : Nat → Int32} {tl : Nat} (h : AX M R W K kn L ln T tl) (h1 : sameC M M' 27) (h2 : ∀ a, a ≠ 27 → M'.2 a = M.2 a) : AX M' R W K kn L ln T tl := by
  refine h.keep (fun a q => h1 a ?_) (fun a q => h2 a (by omega))
  have := isR_rd (M.2 0)
  unfold isR at this
  omega
theorem MX.keep {N N' : xm} {s : Nat} {R W : tR} (h : MX N s R W) (h1 : ∀ a, 62 ≤ a → a ≤ 66 → N'.1 a = N.1 a) (h2 : ∀ j, 25 * s ≤ j → j < 25 * s + 25 → N'.1 67 j = N.1 67 j) : MX N' s R W := by
  obtain ⟨e1, e2, e3, e4, e5⟩ := h
  refine ⟨e1, e2, e3.same h1, ⟨fun i hi => ?_, fun i hi => ?_, fun b hb => ?_, fun b hb => ?_, ?_⟩, e5⟩
  · rw [h2 _ (by omega) (by omega)]; exact e4.1 i hi
  · rw [h2 _ (by omega) (by omega)]; exact e4.2.1 i hi
  · rw [h2 _ (by omega) (by omega)]; exact e4.2.2.1 b hb
  · rw [h2 _ (by omega) (by omega)]; exact e4.2.2.2.1 b hb
  · rw [h2 _ (by omega) (by omega)]; exact e4.2.2.2.2
theorem AM.keep {N N' : xm} {R W : tR} {K : Nat → tR} {kn : Nat} {L : tR} {ln : Nat} {T : Nat → Int32} {tl : Nat} (hk : kn ≤ 2) (h : AM N R W K kn L ln T tl) (h1 : ∀ a, (62 ≤ a ∧ a ≤ 66 ∨ a = 68 ∨ a = 61) → N'.1 a = N.1 a) (h2 : ∀ j, j < 75 → N'.1 67 j = N.1 67 j) (h3 : ∀ j, (j = 0 ∨ j = 9 ∨ j = 10) → N'.1 60 j = N.1 60 j) : AM N' R W K kn L ln T tl := by
  obtain ⟨a1, a2, a3, a4⟩ := h
  refine ⟨a1.keep (fun a q r => h1 a (by omega)) (fun j q r => h2 j (by omega)), ⟨by rw [h3 9 (by omega)]; exact a2.1, fun k hk2 => (a2.2 k hk2).keep (fun a q r => h1 a (by omega)) (fun j q r => h2 j (by omega))⟩, ⟨by rw [h3 10 (by omega)]; exact a3.1, fun k hk2 => by rw [h1 68 (by omega)]; exact a3.2 k hk2⟩, ⟨by rw [h3 0 (by omega)]; exact a4.1, fun j hj => by rw [h1 61 (by omega)]; exact a4.2 j hj⟩⟩
theorem AM.trial {N N' : xm} {R W : tR} {K : Nat → tR} {kn : Nat} {L : tR} {ln : Nat} {T : Nat → Int32} {tl : Nat} (hk : kn ≤ 2) (h : AM N R W K kn L ln T tl) (hs : sameM N N' 3) : AM N' R W K kn L ln T tl :=
  h.keep hk (fun a q => hs.1 a (by omega) (by omega)) (fun j q => hs.2.2 j (by omega)) (fun j q => hs.2.1 j (by omega) (by omega))
-- guards
theorem cmp_lt (x y : Int64) : lg_cmp x y < 0 ↔ x < y := by
  unfold lg_cmp
  simp only [gt_iff_lt, Int64.lt_iff_toInt_lt, ← Int64.toInt_inj]
  split
  · constructor
    · intro q; exact absurd q (by decide)
    · intro q; omega
  · split
    · constructor
      · intro q; exact absurd q (by decide)
      · intro q; omega
    · constructor
      · intro q; omega
      · intro q; decide
theorem cmp_gt (x y : Int64) : 0 < lg_cmp x y ↔ y < x := by
  unfold lg_cmp
  simp only [gt_iff_lt, Int64.lt_iff_toInt_lt, ← Int64.toInt_inj]
  split
  · constructor
    · intro q; assumption
    · intro q; decide
  · split
    · constructor
      · intro q; exact absurd q (by decide)
      · intro q; omega
    · constructor
      · intro q; exact absurd q (by decide)
      · intro q; omega
theorem wide_lt (a b : Int32) : a.toInt64 < b.toInt64 ↔ a < b := by
  rw [Int64.lt_iff_toInt_lt, Int32.toInt_toInt64, Int32.toInt_toInt64, Int32.lt_iff_toInt_lt]
theorem in_e (x a b : Int32) (N : xm) : fX6_in x.toInt64 a.toInt64 b.toInt64 N = some (if a ≤ x ∧ x ≤ b then 1 else 0) := by
  unfold fX6_in fX6_in_17 fX6_in_18
  have h1 : lg_cmp x.toInt64 a.toInt64 < 0 ↔ x < a := (cmp_lt _ _).trans (wide_lt _ _)
  have h2 : 0 < lg_cmp x.toInt64 b.toInt64 ↔ b < x := (cmp_gt _ _).trans (wide_lt _ _)
  have e1 : x < a ↔ ¬ a ≤ x := by rw [Int32.lt_iff_toInt_lt, Int32.le_iff_toInt_le]; omega
  have e2 : b < x ↔ ¬ x ≤ b := by rw [Int32.lt_iff_toInt_lt, Int32.le_iff_toInt_le]; omega
  rw [xbo_0, xbo_1]
  by_cases q1 : a ≤ x
  · rw [if_neg (fun q => (e1.mp (h1.mp q)) q1)]
    by_cases q2 : x ≤ b
    · rw [if_neg (fun q => (e2.mp (h2.mp q)) q2), if_pos ⟨q1, q2⟩]
    · rw [if_pos (h2.mpr (e2.mpr q2)), if_neg (fun q => q2 q.2)]
  · rw [if_pos (h1.mpr (e1.mpr q1)), if_neg (fun q => q1 q.1)]
theorem le_nI {x : Int32} {n : Nat} (hn : 1 ≤ n) (hn2 : n < 1000000) : (0 ≤ x ∧ x ≤ nI n - 1) ↔ ∃ k, k < n ∧ x = nI k := by
  rw [sub1_e hn]
  constructor
  · intro ⟨h1, h2⟩
    rcases pk_ix x (n := n) (by omega) with q | q | q
    · rw [Int32.lt_iff_toInt_lt] at q; rw [Int32.le_iff_toInt_le] at h1; omega
    · rw [Int32.le_iff_toInt_le, nI_toInt (by omega)] at q h2; omega
    · exact q
  · rintro ⟨k, hk, rfl⟩
    exact ⟨nI_pos' (by omega), nI_le (by omega) (by omega)⟩
theorem ge_cases (x : Int32) {n : Nat} (hn : n < 1000000) : (∃ k, k < n ∧ x = nI k) ∨ ((x < 0 ∨ nI n ≤ x) ∧ ¬ ∃ k, k < n ∧ x = nI k) := by
  rcases pk_ix x (n := n) (by omega) with q | q | q
  · refine Or.inr ⟨Or.inl q, ?_⟩
    rintro ⟨k, hk, rfl⟩
    exact nI_pos (by omega) q
  · refine Or.inr ⟨Or.inr q, ?_⟩
    rintro ⟨k, hk, rfl⟩
    exact nI_ge hk (by omega) q
  · exact Or.inl q
theorem ge_if {α : Sort _} {x : Int32} {n : Nat} {a b : α} (hn : n < 1000000) : (if x < 0 then a else if nI n ≤ x then a else b) = if (∃ k, k < n ∧ x = nI k) then b else a := by
  rcases ge_cases x hn with ⟨k, hk, rfl⟩ | ⟨q, q2⟩
  · rw [if_neg (nI_pos (by omega)), if_neg (nI_ge hk (by omega)), if_pos ⟨k, hk, rfl⟩]
  · rw [if_neg q2]
    by_cases c : x < 0
    · rw [if_pos c]
    · rw [if_neg c, if_pos (q.resolve_left c)]
theorem i64_0 : (0 : Int64) = Int32.toInt64 0 := rfl
theorem i64_1 : (1 : Int64) = Int32.toInt64 1 := rfl
theorem i64_2 : (2 : Int64) = Int32.toInt64 2 := rfl
theorem i64_3 : (3 : Int64) = Int32.toInt64 3 := rfl
theorem i64_4 : (4 : Int64) = Int32.toInt64 4 := rfl
theorem i64_8 : (8 : Int64) = Int32.toInt64 8 := rfl
theorem i64_99 : (99 : Int64) = Int32.toInt64 99 := rfl
theorem i64_400 : (400 : Int64) = Int32.toInt64 400 := rfl
theorem i64_9999 : (9999 : Int64) = Int32.toInt64 9999 := rfl
theorem i64_m1 : (-1 : Int64) = Int32.toInt64 (-1) := rfl
/-- a guard of both: either the number is told and both say 1, or both say 0 -/
def Gd (x : Int32) (n : Nat) (a b : Option Int32) : Prop := (∃ k, k < n ∧ x = nI k ∧ a = some 1 ∧ b = some 1) ∨ (a = some 0 ∧ b = some 0 ∧ ¬ ∃ k, k < n ∧ x = nI k)
theorem gd_of {x : Int32} {n : Nat} {a b : Option Int32} (ha : a = if (∃ k, k < n ∧ x = nI k) then some 1 else some 0) (hb : b = if (∃ k, k < n ∧ x = nI k) then some 1 else some 0) : Gd x n a b := by
  by_cases q : ∃ k, k < n ∧ x = nI k
  · rw [if_pos q] at ha hb
    obtain ⟨k, hk, e⟩ := q
    exact Or.inl ⟨k, hk, e, ha, hb⟩
  · rw [if_neg q] at ha hb
    exact Or.inr ⟨ha, hb, q⟩
theorem in_g {x : Int32} {n : Nat} (hn : 1 ≤ n) (hn2 : n < 1000000) (N : xm) : fX6_in x.toInt64 (Int32.toInt64 0) (Int32.toInt64 (nI n - 1)) N = if (∃ k, k < n ∧ x = nI k) then some 1 else some 0 := by
  rw [in_e]
  by_cases q : ∃ k, k < n ∧ x = nI k
  · rw [if_pos q, if_pos ((le_nI hn hn2).mpr q)]
  · rw [if_neg q, if_neg (fun e => q ((le_nI hn hn2).mp e))]
theorem bind_xbo {c : Prop} [Decidable c] : ((if c then some (1 : Int32) else some 0).bind fun v1 => xbo v1 (some v1)) = if c then some 1 else some 0 := by
  by_cases q : c
  · rw [if_pos q, bind_e, xbo_1]
  · rw [if_neg q, bind_e, xbo_0]
theorem G_parish {M N : xm} {R : tR} (x : Int32) (h1 : rdX M (rd (M.2 0)) R) (h2 : rdM N R) (hR : laidR R) : Gd x (np R) (fX5_isParish x M) (fX6_isParish x N) := by
  have h6 := hR.1.1
  refine gd_of ?_ ?_
  · unfold fX5_isParish fX5_isParish_19 fX5_isParish_20
    rw [h1.1, ge_if (by omega), xbo_0, xbo_1]
  · unfold fX6_isParish
    rw [xc0 (by omega) (by omega), c0, h2.1, i64_0, in_g hR.2.1 (by omega), bind_xbo]
theorem G_member {M N : xm} {R : tR} (x : Int32) (h1 : rdX M (rd (M.2 0)) R) (h2 : rdM N R) (hR : laidR R) : Gd x (nm R) (fX5_isMember x M) (fX6_isMember x N) := by
  have h6 := hR.1.2.1
  refine gd_of ?_ ?_
  · unfold fX5_isMember fX5_isMember_19 fX5_isMember_20
    rw [h1.2.2.1, ge_if (by omega), xbo_0, xbo_1]
  · unfold fX6_isMember
    rw [xc0 (by omega) (by omega), c0, h2.2.1, i64_0, in_g hR.2.2 (by omega), bind_xbo]
theorem G_bill {M N : xm} {R : tR} (x : Int32) (h1 : rdX M (rd (M.2 0)) R) (h2 : rdM N R) (hR : laidR R) : Gd x (nb R) (fX5_isBill x M) (fX6_isBill x N) := by
  have h6 := hR.1.2.2.2.1
  refine gd_of ?_ ?_
  · unfold fX5_isBill fX5_isBill_19 fX5_isBill_20
    rw [h1.2.2.2.2.1, ge_if (by omega), xbo_0, xbo_1]
  · unfold fX6_isBill
    rw [xc1 (by omega) (by omega), c1, h2.2.2.2.1, i64_0, in_g h6.1 (by omega), bind_xbo]
theorem G_ahead (x : Int32) (M N : xm) : Gd x 401 (fX5_isAhead x M) (fX6_isAhead x N) := by
  refine gd_of ?_ ?_
  · unfold fX5_isAhead fX5_isAhead_15 fX5_isAhead_16
    rw [← ge_if (by omega), xbo_0, xbo_1]
    have e : (400 : Int32) < x ↔ nI 401 ≤ x := by
      rw [Int32.lt_iff_toInt_lt, Int32.le_iff_toInt_le, nI_toInt (by omega)]
      show (400 : Int) < _ ↔ _
      omega
    by_cases q : x < 0
    · rw [if_pos q, if_pos q]
    · rw [if_neg q, if_neg q]
      by_cases q2 : (400 : Int32) < x
      · rw [if_pos q2, if_pos (e.mp q2)]
      · rw [if_neg q2, if_neg (fun z => q2 (e.mpr z))]
  · unfold fX6_isAhead
    rw [i64_0, i64_400, show (400 : Int32) = nI 401 - 1 by decide, in_g (by omega) (by omega), bind_xbo]
theorem G_year (x : Int32) (M N : xm) : Gd x 10000 (fX5_isYear x M) (fX6_isSeed x N) := by
  refine gd_of ?_ ?_
  · unfold fX5_isYear fX5_isYear_15 fX5_isYear_16
    rw [show (10000 : Int32) = nI 10000 from rfl, ge_if (by omega), xbo_0, xbo_1]
  · unfold fX6_isSeed
    rw [i64_0, i64_9999, show (9999 : Int32) = nI 10000 - 1 by decide, in_g (by omega) (by omega), bind_xbo]
theorem i1n0 {α : Sort _} {a b : α} : (if (1 : Int32) = 0 then a else b) = b := if_neg (by decide)
theorem i0e0 {α : Sort _} {a b : α} : (if (0 : Int32) = 0 then a else b) = a := if_pos rfl
