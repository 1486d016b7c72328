/-! THE TEXT: numbers -/
def byT (T : Nat → Int32) (tl j : Nat) : Int32 := if j < tl then T j else -1
def isDB (T : Nat → Int32) (tl j : Nat) : Bool := decide (48 ≤ byT T tl j) && decide (byT T tl j ≤ 57)
def dg (T : Nat → Int32) (j : Nat) : Nat := (T j).toInt.toNat - 48
def nN (T : Nat → Int32) (tl j : Nat) : Nat := if isDB T tl (j + 1) then 10 * dg T j + dg T (j + 1) else dg T j
def nE (T : Nat → Int32) (tl j : Nat) : Nat := if isDB T tl (j + 1) then j + 2 else j + 1
theorem isDB_e {T : Nat → Int32} {tl j : Nat} (h : isDB T tl j = true) : j < tl ∧ dg T j < 10 ∧ T j = nI (48 + dg T j) := by
  unfold isDB byT at h
  simp only [Bool.and_eq_true, decide_eq_true_eq] at h
  obtain ⟨h1, h2⟩ := h
  by_cases c : j < tl
  · rw [if_pos c, Int32.le_iff_toInt_le] at h1 h2
    have t1 : (48 : Int32).toInt = 48 := by decide
    have t2 : (57 : Int32).toInt = 57 := by decide
    refine ⟨c, by unfold dg; omega, ?_⟩
    rw [← Int32.toInt_inj, nI_toInt (by unfold dg; omega)]
    unfold dg
    omega
  · rw [if_neg c] at h1
    exact absurd h1 (by decide)
theorem nN_lt {T : Nat → Int32} {tl j : Nat} (h : isDB T tl j = true) : nN T tl j < 100 := by
  have h1 := (isDB_e h).2.1
  unfold nN
  by_cases c : isDB T tl (j + 1) = true
  · have h2 := (isDB_e c).2.1
    rw [if_pos c]; omega
  · rw [if_neg c]; omega
theorem nE_le {T : Nat → Int32} {tl j : Nat} (h : isDB T tl j = true) : j < nE T tl j ∧ nE T tl j ≤ tl := by
  have h1 := (isDB_e h).1
  unfold nE
  by_cases c : isDB T tl (j + 1) = true
  · have h2 := (isDB_e c).1
    rw [if_pos c]; omega
  · rw [if_neg c]; omega
section
variable {M N : xm} {R W : tR} {K : Nat → tR} {kn : Nat} {L : tR} {ln : Nat} {T : Nat → Int32} {tl : Nat}
def XT (M : xm) (T : Nat → Int32) (tl : Nat) : Prop := tl ≤ 300 ∧ M.1 1 2 = nI tl ∧ ∀ j, j < tl → M.1 2 j = T j
theorem XT.up {k j : Nat} {v : Int32} (h : XT M T tl) (hk : k ≠ 1) (hk2 : k ≠ 2) : XT (up M k j v) T tl := ⟨h.1, by rw [up_ne (Ne.symm hk)]; exact h.2.1, fun i hi => by rw [up_ne (Ne.symm hk2)]; exact h.2.2 i hi⟩
theorem X_byte (h : XT M T tl) {j : Nat} (hj : j < 1000) : fX3_byteAt (nI j) M = some (byT T tl j) := by
  unfold fX3_byteAt fX3_byteAt_21 fX3_byteAt_22 byT
  have h1 := h.1
  rw [li0, iflt (by omega) (by omega), if_neg (by omega), h.2.1, ifle (by omega) (by omega)]
  by_cases c : j < tl
  · rw [if_neg (by omega), if_pos c, xchk_e (by omega) (by omega), cl_e (by omega), h.2.2 j c]
  · rw [if_pos (by omega), if_neg c]
theorem X_figure (h : XT M T tl) {j : Nat} (hj : j < 1000) : fX3_isFigure (nI j) M = some (if isDB T tl j then 1 else 0) := by
  unfold fX3_isFigure fX3_isFigure_22 fX3_isFigure_23 isDB
  rw [X_byte h hj, bind_e, xbo_0, xbo_1]
  have e1 : byT T tl j < 48 ↔ ¬ 48 ≤ byT T tl j := by rw [Int32.lt_iff_toInt_lt, Int32.le_iff_toInt_le]; omega
  have e2 : (57 : Int32) < byT T tl j ↔ ¬ byT T tl j ≤ 57 := by rw [Int32.lt_iff_toInt_lt, Int32.le_iff_toInt_le]; omega
  by_cases q1 : 48 ≤ byT T tl j
  · rw [if_neg (fun q => (e1.mp q) q1)]
    by_cases q2 : byT T tl j ≤ 57
    · rw [if_neg (fun q => (e2.mp q) q2)]; simp [q1, q2]
    · rw [if_pos (e2.mpr q2)]; simp [q2]
  · rw [if_pos (e1.mpr q1)]; simp [q1]
theorem X_take_no (h : XT M T tl) {j : Nat} (hj : j < 900) (q : isDB T tl j = false) (k s : Int32) : fX3_takeNumber (nI j) k s M = some (-1, M) := by
  unfold fX3_takeNumber
  rw [X_figure h (by omega), q, bind_e, if_neg (show ¬ (false : Bool) = true by decide), i0e0]
theorem X_take_54 (h : XT M T tl) {k e v : Nat} (hk : k < 3) (he : e < 900) (s : Int32) : fX3_takeNumber_54 (nI k) s (nI e) (nI v) M = some (if byT T tl e = s then nI (e + 1) else -1, up M 3 k (nI v)) := by
  unfold fX3_takeNumber_54 fX3_takeNumber_80
  rw [xchk_e (by omega) (by omega), xl_e, cl_e (by omega), X_byte (h.up (by omega) (by omega)) (by omega), bind_e, a1_e]
  by_cases c : byT T tl e = s
  · rw [if_pos c, if_pos c]
  · rw [if_neg c, if_neg c]
theorem byT_e {j : Nat} (h : j < tl) : byT T tl j = T j := if_pos h
theorem X_take (h : XT M T tl) {j k : Nat} (hj : j < 900) (hk : k < 3) (q : isDB T tl j = true) (s : Int32) : fX3_takeNumber (nI j) (nI k) s M = some (if byT T tl (nE T tl j) = s then nI (nE T tl j + 1) else -1, up M 3 k (nI (nN T tl j))) := by
  obtain ⟨d1, d2, d3⟩ := isDB_e q
  have ht := h.1
  have e48 : (48 : Int32) = nI 48 := rfl
  unfold fX3_takeNumber
  rw [X_figure h (by omega), q, bind_e, if_neg (by decide), xl_e, X_byte h (by omega), bind_e, xl_e, a1_e, X_figure h (by omega), bind_e, X_byte h (by omega), byT_e d1, d3, e48, sub_e (by omega), show 48 + dg T j - 48 = dg T j by omega]
  unfold nN nE
  by_cases c : isDB T tl (j + 1) = true
  · obtain ⟨f1, f2, f3⟩ := isDB_e c
    simp only [if_pos c]
    rw [if_neg (by decide), bind_e, byT_e f1, f3, xl_e, li10, mul_e, add_e, sub_e (by omega), a1_e, X_take_54 h hk (by omega), show 10 * dg T j + (48 + dg T (j + 1)) - 48 = 10 * dg T j + dg T (j + 1) by omega]
  · simp only [if_neg c]
    rw [if_pos trivial, X_take_54 h hk (by omega)]
-- the reference
def NS (N : xm) (T : Nat → Int32) (tl j : Nat) : Prop := tl ≤ 300 ∧ N.1 60 0 = nI tl ∧ (∀ i, i < tl → N.1 61 i = T i) ∧ N.1 60 2 = nI j
def onP (N N' : xm) : Prop := ∀ a j, (a ≠ 60 ∨ j ≠ 2) → N'.1 a j = N.1 a j
theorem onP.rf : onP N N := fun _ _ _ => rfl
theorem onP.tr {N' N'' : xm} (h : onP N N') (h2 : onP N' N'') : onP N N'' := fun a j q => (h2 a j q).trans (h a j q)
theorem onP.up {v : Int32} : onP N (up N 60 2 v) := fun a j q => by rw [up_at, if_neg (by omega)]
theorem NS.at {j i : Nat} (h : NS N T tl j) : NS (up N 60 2 (nI i)) T tl i := ⟨h.1, by rw [up_at, if_neg (by omega)]; exact h.2.1, fun k hk => by rw [up_ne (by omega)]; exact h.2.2.1 k hk, by rw [up_at, if_pos ⟨rfl, rfl⟩]⟩
theorem NS.on {N' : xm} {j i : Nat} (h : NS N T tl j) (ho : onP N N') (hi : N'.1 60 2 = nI i) : NS N' T tl i := ⟨h.1, by rw [ho 60 0 (by omega)]; exact h.2.1, fun k hk => by rw [ho 61 k (by omega)]; exact h.2.2.1 k hk, hi⟩
theorem in_dig {j : Nat} (hj : j < tl) : (if (48 : Int32) ≤ T j ∧ T j ≤ 57 then (1 : Int32) else 0) = if isDB T tl j then 1 else 0 := by
  unfold isDB
  rw [byT_e hj]
  by_cases q1 : 48 ≤ T j
  · by_cases q2 : T j ≤ 57
    · simp [q1, q2]
    · simp [q2]
  · simp [q1]
theorem M_num_stop {j : Nat} (h : NS N T tl j) (hj : j < 900) (q : isDB T tl j = false) (n : Nat) (x1 x2 : Int32) : fX6_number_4 (n + 1) x1 x2 N = fX6_number_80 x1 x2 N := by
  have ht := h.1
  rw [fX6_number_4, h.2.1, h.2.2.2, ifle (by omega) (by omega)]
  by_cases c : tl ≤ j
  · rw [if_pos c]
  · have e := in_e (T j) 48 57 N
    have e : fX6_in (Int32.toInt64 (T j)) 48 57 N = _ := e
    rw [if_neg c, xchk_e (by omega) (by omega), cl_e (by omega), h.2.2.1 j (by omega), e, bind_e, in_dig (tl := tl) (by omega), q, if_neg (show ¬ (false : Bool) = true by decide), i0e0]
theorem M_num_go {j : Nat} (h : NS N T tl j) (hj : j < 900) (q : isDB T tl j = true) (n v c : Nat) (hc : c < 900) (hv : v < 1000) : fX6_number_4 (n + 1) (nI v) (nI c) N = fX6_number_4 n (nI (if 2 ≤ c then v else 10 * v + dg T j)) (nI (c + 1)) (up N 60 2 (nI (j + 1))) := by
  have ht := h.1
  obtain ⟨d1, d2, d3⟩ := isDB_e q
  have e := in_e (T j) 48 57 N
  have e : fX6_in (Int32.toInt64 (T j)) 48 57 N = _ := e
  rw [fX6_number_4, h.2.1, h.2.2.2, ifle (by omega) (by omega), if_neg (by omega), xchk_e (by omega) (by omega), cl_e (by omega), h.2.2.1 j (by omega), e, bind_e, in_dig (tl := tl) (by omega), q, if_pos rfl, i1n0, li2, ifle (by omega) (by omega)]
  unfold fX6_number_63
  rw [xl_e, h.2.2.2, a1_e, a1_e, xchk_e (by omega) (by omega), d3, li10, mul_e, add_e, show (48 : Int32) = nI 48 from rfl, sub_e (by omega), xl_e]
  by_cases c2 : 2 ≤ c
  · rw [if_pos c2, if_pos c2]
  · rw [if_neg c2, if_neg c2, show 10 * v + (48 + dg T j) - 48 = 10 * v + dg T j by omega]
theorem M_num_80 (v c : Nat) (hc : c < 900) : fX6_number_80 (nI v) (nI c) N = some (if 1 ≤ c ∧ c ≤ 2 then nI v else -1, N) := by
  have e := in_e (nI c) 1 2 N
  have e : fX6_in (Int32.toInt64 (nI c)) 1 2 N = _ := e
  have k : ((1 : Int32) ≤ nI c ∧ nI c ≤ 2) ↔ (1 ≤ c ∧ c ≤ 2) := by
    have t1 : (1 : Int32).toInt = 1 := by decide
    have t2 : (2 : Int32).toInt = 2 := by decide
    rw [Int32.le_iff_toInt_le, Int32.le_iff_toInt_le, nI_toInt (by omega), t1, t2]
    omega
  unfold fX6_number_80 fX6_number_97
  rw [e, bind_e]
  by_cases c1 : 1 ≤ c ∧ c ≤ 2
  · rw [if_pos (k.mpr c1), if_pos c1, i1n0]
  · rw [if_neg (fun q => c1 (k.mp q)), if_neg c1, i0e0]
theorem M_num_over {v : Nat} (hv : v < 1000) : ∀ k n c j N, tl ≤ j + k → k < n → 3 ≤ c → c + k < 890 → j < 900 → NS N T tl j → ∃ N', fX6_number_4 n (nI v) (nI c) N = some (-1, N') ∧ onP N N' := by
  intro k
  induction k with
  | zero =>
    intro n c j N e hn hc hc2 hj h
    obtain ⟨n, rfl⟩ : ∃ k, n = k + 1 := ⟨n - 1, by omega⟩
    have q : isDB T tl j = false := by
      cases q : isDB T tl j
      · rfl
      · exact absurd (isDB_e q).1 (by omega)
    rw [M_num_stop h hj q, M_num_80 v c (by omega), if_neg (by omega)]
    exact ⟨N, rfl, onP.rf⟩
  | succ k ih =>
    intro n c j N e hn hc hc2 hj h
    obtain ⟨n, rfl⟩ : ∃ k, n = k + 1 := ⟨n - 1, by omega⟩
    cases q : isDB T tl j
    · rw [M_num_stop h hj q, M_num_80 v c (by omega), if_neg (by omega)]
      exact ⟨N, rfl, onP.rf⟩
    · have d1 := (isDB_e q).1
      have ht := h.1
      rw [M_num_go h hj q n v c (by omega) hv, if_pos (by omega)]
      obtain ⟨N1, a1, a2⟩ := ih n (c + 1) (j + 1) (up N 60 2 (nI (j + 1))) (by omega) (by omega) (by omega) (by omega) (by omega) h.at
      exact ⟨N1, a1, onP.up.tr a2⟩
theorem M_number_n {j : Nat} (h : NS N T tl j) (hj : j < 800) (n : Nat) (hn : 900 < n) : ∃ N', onP N N' ∧ ((isDB T tl j = false ∧ fX6_number_4 (n + 1 + 1 + 1) (nI 0) (nI 0) N = some (-1, N')) ∨ (isDB T tl j = true ∧ isDB T tl (nE T tl j) = true ∧ fX6_number_4 (n + 1 + 1 + 1) (nI 0) (nI 0) N = some (-1, N')) ∨ (isDB T tl j = true ∧ isDB T tl (nE T tl j) = false ∧ fX6_number_4 (n + 1 + 1 + 1) (nI 0) (nI 0) N = some (nI (nN T tl j), N') ∧ N'.1 60 2 = nI (nE T tl j))) := by
  have ht := h.1
  cases q : isDB T tl j
  · rw [M_num_stop h (by omega) q, M_num_80 0 0 (by omega), if_neg (by omega)]
    exact ⟨N, onP.rf, Or.inl ⟨rfl, rfl⟩⟩
  · obtain ⟨d1, d2, d3⟩ := isDB_e q
    rw [M_num_go h (by omega) q (n + 1 + 1) 0 0 (by omega) (by omega), if_neg (by omega), show 10 * 0 + dg T j = dg T j by omega]
    have h1 : NS (up N 60 2 (nI (j + 1))) T tl (j + 1) := h.at
    cases q1 : isDB T tl (j + 1)
    · have e1 : nN T tl j = dg T j := by unfold nN; rw [q1]; rfl
      have e2 : nE T tl j = j + 1 := by unfold nE; rw [q1]; rfl
      rw [M_num_stop h1 (by omega) q1 (n + 1), M_num_80 _ 1 (by omega), if_pos (by omega), e1, e2]
      exact ⟨_, onP.up, Or.inr (Or.inr ⟨rfl, q1, rfl, h1.2.2.2⟩)⟩
    · obtain ⟨f1, f2, f3⟩ := isDB_e q1
      have e1 : nN T tl j = 10 * dg T j + dg T (j + 1) := by unfold nN; rw [q1]; rfl
      have e2 : nE T tl j = j + 2 := by unfold nE; rw [q1]; rfl
      rw [M_num_go h1 (by omega) q1 (n + 1) (dg T j) (0 + 1) (by omega) (by omega), if_neg (by omega), e1, e2]
      have h2 : NS (up (up N 60 2 (nI (j + 1))) 60 2 (nI (j + 1 + 1))) T tl (j + 1 + 1) := h1.at
      cases q2 : isDB T tl (j + 2)
      · rw [M_num_stop h2 (by omega) q2 n, M_num_80 _ (0 + 1 + 1) (by omega), if_pos (by omega)]
        exact ⟨_, onP.up.tr onP.up, Or.inr (Or.inr ⟨rfl, rfl, rfl, h2.2.2.2⟩)⟩
      · rw [M_num_go h2 (by omega) q2 n _ (0 + 1 + 1) (by omega) (by omega), if_pos (by omega)]
        have h3 : NS (up (up (up N 60 2 (nI (j + 1))) 60 2 (nI (j + 1 + 1))) 60 2 (nI (j + 1 + 1 + 1))) T tl (j + 1 + 1 + 1) := h2.at
        obtain ⟨N1, a1, a2⟩ := M_num_over (v := 10 * dg T j + dg T (j + 1)) (by omega) tl n (0 + 1 + 1 + 1) (j + 1 + 1 + 1) _ (by omega) (by omega) (by omega) (by omega) (by omega) h3
        exact ⟨N1, (onP.up.tr onP.up).tr (onP.up.tr a2), Or.inr (Or.inl ⟨rfl, rfl, a1⟩)⟩
theorem M_number {j : Nat} (h : NS N T tl j) (hj : j < 800) : ∃ N', onP N N' ∧ ((isDB T tl j = false ∧ fX6_number N = some (-1, N')) ∨ (isDB T tl j = true ∧ isDB T tl (nE T tl j) = true ∧ fX6_number N = some (-1, N')) ∨ (isDB T tl j = true ∧ isDB T tl (nE T tl j) = false ∧ fX6_number N = some (nI (nN T tl j), N') ∧ N'.1 60 2 = nI (nE T tl j))) := by
  unfold fX6_number
  exact M_number_n h hj 997 (by omega)
end
