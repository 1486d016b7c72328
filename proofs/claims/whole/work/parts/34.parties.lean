/-! THE PROMISE: parties -/
def ps (R : tR) (f : Nat → Bool) : Nat → Nat
  | 0 => 0
  | n + 1 => ps R f n + if f n then R 5 n else 0
theorem ps_le {R : tR} (hR : okR R) (f : Nat → Bool) : ∀ n, n ≤ nm R → ps R f n ≤ 9 * n
  | 0, _ => Nat.le_refl _
  | n + 1, h => by
    have := ps_le hR f n (by omega)
    have := (hR.2.2.2.2.2 n (by omega)).2.2.1
    show ps R f n + (if f n = true then R 5 n else 0) ≤ _
    split <;> omega
theorem ps_cong {R : tR} {f g : Nat → Bool} : ∀ {n}, (∀ i, i < n → f i = g i) → ps R f n = ps R g n
  | 0, _ => rfl
  | n + 1, h => by
    show ps R f n + _ = ps R g n + _
    rw [ps_cong (fun i hi => h i (by omega)), h n (by omega)]
theorem ps_less {R : tR} {f g : Nat → Bool} {k : Nat} (hk : f k = true) (hg : ∀ i, g i = (f i && decide (i ≠ k))) : ∀ n, k < n → ps R f n = ps R g n + R 5 k
  | 0, h => absurd h (Nat.not_lt_zero _)
  | n + 1, h => by
    show ps R f n + (if f n = true then R 5 n else 0) = ps R g n + (if g n = true then R 5 n else 0) + R 5 k
    by_cases e : n = k
    · subst e
      rw [hk, hg n, ps_cong (f := g) (g := f) (fun i hi => by rw [hg]; simp; omega)]
      simp
    · have ih := ps_less (R := R) hk hg n (by omega)
      have e2 : g n = f n := by rw [hg]; simp [e]
      rw [e2]
      omega
def sl (R : tR) (f : Nat → Bool) : Nat → Nat
  | 0 => 9
  | n + 1 => if f n then (if R 5 n < sl R f n then R 5 n else sl R f n) else sl R f n
theorem sl_s (R : tR) (f : Nat → Bool) (n : Nat) : sl R f (n + 1) = if f n then (if R 5 n < sl R f n then R 5 n else sl R f n) else sl R f n := rfl
theorem sl_le9 (R : tR) (f : Nat → Bool) : ∀ n, sl R f n ≤ 9
  | 0 => Nat.le_refl _
  | n + 1 => by
    have := sl_le9 R f n
    unfold sl
    split
    · split <;> omega
    · omega
theorem sl_le (R : tR) (f : Nat → Bool) {i : Nat} (hi : f i = true) : ∀ n, i < n → sl R f n ≤ R 5 i
  | 0, h => absurd h (Nat.not_lt_zero _)
  | n + 1, h => by
    unfold sl
    by_cases e : i = n
    · subst e
      rw [if_pos hi]
      split <;> omega
    · have := sl_le R f hi n (by omega)
      split
      · split <;> omega
      · omega
theorem sl_at {R : tR} (hR : okR R) (f : Nat → Bool) : ∀ n, n ≤ nm R → (∃ i, i < n ∧ f i = true) → ∃ i, i < n ∧ f i = true ∧ sl R f n = R 5 i
  | 0, _, h => by obtain ⟨i, hi, -⟩ := h; omega
  | n + 1, hn, h => by
    have h5 := (hR.2.2.2.2.2 n (by omega)).2.2.1
    unfold sl
    by_cases hf : f n = true
    · rw [if_pos hf]
      by_cases q : R 5 n < sl R f n
      · rw [if_pos q]
        exact ⟨n, by omega, hf, rfl⟩
      · rw [if_neg q]
        by_cases e : ∃ i, i < n ∧ f i = true
        · obtain ⟨i, h1, h2, h3⟩ := sl_at hR f n (by omega) e
          exact ⟨i, by omega, h2, h3⟩
        · have : ∀ m, m ≤ n → sl R f m = 9 := by
            intro m
            induction m with
            | zero => intro _; rfl
            | succ m ih =>
              intro hm
              unfold sl
              rw [if_neg (fun c => e ⟨m, by omega, c⟩)]
              exact ih (by omega)
          have h9 := this n (Nat.le_refl _)
          exact ⟨n, by omega, hf, by omega⟩
    · rw [if_neg hf]
      obtain ⟨i, h1, h2⟩ := h
      have : i ≠ n := fun e => hf (e ▸ h2)
      obtain ⟨j, h3, h4, h5⟩ := sl_at hR f n (by omega) ⟨i, by omega, h2⟩
      exact ⟨j, by omega, h4, h5⟩
def partyS (R : tR) (s all : Nat) : Bool := decide (all < 2 * ps R s.testBit (nm R) ∧ 2 * (ps R s.testBit (nm R) - sl R s.testBit (nm R)) ≤ all)
section
variable {M N : xm} {R W : tR} {K : Nat → tR} {kn : Nat} {L : tR} {ln : Nat} {T : Nat → Int32} {tl : Nat}
theorem X_paceOf_l {r s : Nat} (h : rdX M r R) (hR : okR R) (hs : s < 256) : ∀ k n i, nm R = i + k → k < n → fX1_paceOf_4 r (nI s) M n (nI (ps R s.testBit i)) (nI i) = some (nI (ps R s.testBit (nm R))) := by
  have h8 := hR.2.1
  intro k
  induction k with
  | zero =>
    intro n i e hn
    obtain ⟨n, rfl⟩ : ∃ k, n = k + 1 := ⟨n - 1, by omega⟩
    rw [fX1_paceOf_4, h.2.2.1, ifle (by omega) (by omega), if_pos (by omega), show i = nm R by omega]
  | succ k ih =>
    intro n i e hn
    obtain ⟨n, rfl⟩ : ∃ k, n = k + 1 := ⟨n - 1, by omega⟩
    rw [fX1_paceOf_4, h.2.2.1, ifle (by omega) (by omega), if_neg (by omega), bit1 (by omega) (by omega), xchk_e (by omega) (by omega), cl_e (by omega), h.2.2.2.2.2.2.2.2.2.2.1 i (by omega), add_e, xl_e]
    unfold fX1_paceOf_30
    rw [a1_e]
    have ih2 := ih n (i + 1) (by omega) (by omega)
    cases q : s.testBit i
    · rw [if_neg (by decide)]
      rw [show ps R s.testBit (i + 1) = ps R s.testBit i by show ps R s.testBit i + (if s.testBit i = true then R 5 i else 0) = _; rw [q]; rfl] at ih2
      exact ih2
    · rw [if_pos rfl]
      rw [show ps R s.testBit (i + 1) = ps R s.testBit i + R 5 i by show ps R s.testBit i + (if s.testBit i = true then R 5 i else 0) = _; rw [q]; rfl] at ih2
      exact ih2
theorem X_paceOf {r s : Nat} (h : rdX M r R) (hR : okR R) (hs : s < 256) : fX1_paceOf r (nI s) M = some (nI (ps R s.testBit (nm R))) :=
  X_paceOf_l h hR hs (nm R) xfuel 0 (by omega) (by have := hR.2.1; show _ < 1000; omega)
theorem X_slowestOf_l {r s : Nat} (h : rdX M r R) (hR : okR R) (hs : s < 256) : ∀ k n i, nm R = i + k → k < n → fX1_slowestOf_5 r (nI s) M n (nI (sl R s.testBit i)) (nI i) = some (nI (sl R s.testBit (nm R))) := by
  have h8 := hR.2.1
  intro k
  induction k with
  | zero =>
    intro n i e hn
    obtain ⟨n, rfl⟩ : ∃ k, n = k + 1 := ⟨n - 1, by omega⟩
    rw [fX1_slowestOf_5, h.2.2.1, ifle (by omega) (by omega), if_pos (by omega), show i = nm R by omega]
  | succ k ih =>
    intro n i e hn
    obtain ⟨n, rfl⟩ : ∃ k, n = k + 1 := ⟨n - 1, by omega⟩
    have h9 := sl_le9 R s.testBit i
    have h5 := (hR.2.2.2.2.2 i (by omega)).2.2.1
    rw [fX1_slowestOf_5, h.2.2.1, ifle (by omega) (by omega), if_neg (by omega), bit1 (by omega) (by omega), xchk_e (by omega) (by omega), cl_e (by omega), h.2.2.2.2.2.2.2.2.2.2.1 i (by omega), iflt (by omega) (by omega), xl_e]
    unfold fX1_slowestOf_33
    rw [a1_e]
    have ih2 := ih n (i + 1) (by omega) (by omega)
    rw [sl_s] at ih2
    cases q : s.testBit i
    · rw [if_neg (by decide)]
      rw [q, if_neg (by decide)] at ih2
      exact ih2
    · rw [if_pos rfl]
      rw [q, if_pos rfl] at ih2
      by_cases c : R 5 i < sl R s.testBit i
      · rw [if_pos c] at ih2 ⊢; exact ih2
      · rw [if_neg c] at ih2 ⊢; exact ih2
theorem X_slowestOf {r s : Nat} (h : rdX M r R) (hR : okR R) (hs : s < 256) : fX1_slowestOf r (nI s) M = some (nI (sl R s.testBit (nm R))) :=
  X_slowestOf_l h hR hs (nm R) xfuel 0 (by omega) (by have := hR.2.1; show _ < 1000; omega)
theorem sl_ps {s : Nat} (hR : okR R) (h : 0 < ps R s.testBit (nm R)) : (∃ i, i < nm R ∧ s.testBit i = true) := by
  apply Classical.byContradiction
  intro c
  have : ∀ n, n ≤ nm R → ps R s.testBit n = 0 := by
    intro n
    induction n with
    | zero => intro _; rfl
    | succ n ih =>
      intro hn
      show ps R s.testBit n + (if s.testBit n = true then R 5 n else 0) = 0
      rw [ih (by omega), if_neg (fun e => c ⟨n, by omega, e⟩)]
  rw [this (nm R) (Nat.le_refl _)] at h
  omega
theorem ps_ge (f : Nat → Bool) {i : Nat} (hf : f i = true) : ∀ n, i < n → R 5 i ≤ ps R f n
  | 0, h => absurd h (Nat.not_lt_zero _)
  | n + 1, h => by
    show _ ≤ ps R f n + (if f n = true then R 5 n else 0)
    by_cases e : i = n
    · subst e; rw [if_pos hf]; omega
    · have := ps_ge f hf n (by omega)
      omega
theorem X_isParty {s all : Nat} (h : rdX M (rd (M.2 0)) R) (hR : okR R) (hs : s < 256) (ha : all < 100) : fX5_isParty (nI s) (nI all) M = some (nI (if partyS R s all then 1 else 0)) := by
  have h8 := hR.2.1
  have hp := ps_le hR s.testBit (nm R) (Nat.le_refl _)
  unfold fX5_isParty fX5_isParty_36 fX5_isParty_37
  rw [X_paceOf h hR hs, bind_e, li2, mul_e, ifle (by omega) (by omega), X_slowestOf h hR hs, bind_e, xbo_0, xbo_1]
  unfold partyS
  by_cases q : 2 * ps R s.testBit (nm R) ≤ all
  · rw [if_pos q, if_neg (by simp; omega)]; rfl
  · rw [if_neg q]
    obtain ⟨i, hi, hb, hsl⟩ := sl_at hR s.testBit (nm R) (Nat.le_refl _) (sl_ps hR (by omega))
    have hge := ps_ge (R := R) s.testBit hb (nm R) hi
    rw [sub_e (by omega), mul_e, iflt (by omega) (by omega)]
    by_cases q2 : all < 2 * (ps R s.testBit (nm R) - sl R s.testBit (nm R))
    · rw [if_pos q2, if_neg (by simp; omega)]; rfl
    · rw [if_neg q2, if_pos (by simp; omega)]; rfl
theorem M_paces_l {s : Nat} (h : rdM N R) (hR : okR R) (hs : s < 256) : ∀ k n i, nm R = i + k → k < n → fX6_paces_4 (nI s) N n (nI (ps R s.testBit i)) (nI i) = some (nI (ps R s.testBit (nm R))) := by
  have h8 := hR.2.1
  intro k
  induction k with
  | zero =>
    intro n i e hn
    obtain ⟨n, rfl⟩ : ∃ k, n = k + 1 := ⟨n - 1, by omega⟩
    rw [fX6_paces_4, xc0 (by omega) (by omega), c0, h.2.1, ifle (by omega) (by omega), if_pos (by omega), show i = nm R by omega]
  | succ k ih =>
    intro n i e hn
    obtain ⟨n, rfl⟩ : ∃ k, n = k + 1 := ⟨n - 1, by omega⟩
    have e1 : (3 * nI i + 1 : Int32) = nI (3 * i + 1) := by rw [li3, mul_e, a1_e]
    have e2 : ps R s.testBit i + (if s.testBit i then 1 else 0) * R 5 i = ps R s.testBit (i + 1) := by
      show _ = ps R s.testBit i + (if s.testBit i = true then R 5 i else 0)
      cases s.testBit i <;> simp
    rw [fX6_paces_4, xc0 (by omega) (by omega), c0, h.2.1, ifle (by omega) (by omega), if_neg (by omega), e1, xchk_e (by omega) (by omega), cl_e (by omega), h.2.2.2.2.2.2.2.2.1 i (by omega), bit_e (by omega) (by omega), mul_e, add_e, xl_e, a1_e, e2]
    exact ih n (i + 1) (by omega) (by omega)
theorem M_paces {s : Nat} (h : rdM N R) (hR : okR R) (hs : s < 256) : fX6_paces (nI s) N = some (nI (ps R s.testBit (nm R))) :=
  M_paces_l h hR hs (nm R) xfuel 0 (by omega) (by have := hR.2.1; show _ < 1000; omega)
theorem M_isParty_l {s all : Nat} (h : rdM N R) (hR : okR R) (hs : s < 256) (ha : all < 100) : ∀ k n i, nm R = i + k → k < n → (∀ j, j < i → s.testBit j = true → 2 * (ps R s.testBit (nm R) - R 5 j) ≤ all) → fX6_isParty_20 (nI s) (nI all) N n 1 (nI i) = some (if (∀ j, j < nm R → s.testBit j = true → 2 * (ps R s.testBit (nm R) - R 5 j) ≤ all) then 1 else 0) := by
  have h8 := hR.2.1
  intro k
  induction k with
  | zero =>
    intro n i e hn hj
    obtain ⟨n, rfl⟩ : ∃ k, n = k + 1 := ⟨n - 1, by omega⟩
    unfold fX6_isParty_74 at *
    rw [fX6_isParty_20, xc0 (by omega) (by omega), c0, h.2.1, ifle (by omega) (by omega), if_pos (by omega), if_pos (fun j hj2 => hj j (by omega))]
    unfold fX6_isParty_74
    rw [xbo_1]
  | succ k ih =>
    intro n i e hn hj
    obtain ⟨n, rfl⟩ : ∃ k, n = k + 1 := ⟨n - 1, by omega⟩
    rw [fX6_isParty_20, xc0 (by omega) (by omega), c0, h.2.1, ifle (by omega) (by omega), if_neg (by omega), i1n0, bit0 (by omega) (by omega)]
    unfold fX6_isParty_62 fX6_isParty_67
    rw [a1_e]
    cases q : s.testBit i
    · rw [if_neg (by decide)]
      exact ih n (i + 1) (by omega) (by omega) (fun j h1 h2 => by
        rcases Nat.lt_or_ge j i with c | c
        · exact hj j c h2
        · rw [show j = i by omega, q] at h2; cases h2)
    · rw [if_pos rfl]
      have hm : (nI s &&& (((1 : Int32) <<< (nI i &&& 31)) ^^^ (-1))) = nI (mk (fun j => s.testBit j && !decide (j = i)) 8) := by
        have h2 : 2 ^ i < 2 ^ 8 := Nat.pow_lt_pow_right (by decide) (by omega)
        rw [show ((1 : Int32) <<< (nI i &&& 31)) = nI (2 ^ i) by rw [li1, shl_e (by omega) (by omega), Nat.one_mul], mk_ext (n := 8) (a := s) (by omega), andn_one]
        congr 1
        exact mk_cong (fun j hj => by rw [mk_bit]; simp [hj])
      have hl := mk_lt (fun j => s.testBit j && !decide (j = i)) 8
      have hps : ps R (mk (fun j => s.testBit j && !decide (j = i)) 8).testBit (nm R) + R 5 i = ps R s.testBit (nm R) := by
        rw [ps_less (R := R) (f := s.testBit) (g := fun j => s.testBit j && decide (j ≠ i)) q (fun j => rfl) (nm R) (by omega)]
        congr 1
        exact ps_cong (fun j hj => by rw [mk_bit]; have : j < 8 := by omega
                                      simp [this])
      have hle := ps_le hR (mk (fun j => s.testBit j && !decide (j = i)) 8).testBit (nm R) (Nat.le_refl _)
      rw [hm, M_paces h hR hl, bind_e, li2, mul_e, iflt (by omega) (by omega)]
      by_cases c : all < 2 * ps R (mk (fun j => s.testBit j && !decide (j = i)) 8).testBit (nm R)
      · rw [if_pos c, if_neg (fun z => by have := z i (by omega) q; omega)]
        obtain ⟨n, rfl⟩ : ∃ k, n = k + 1 := ⟨n - 1, by omega⟩
        show fX6_isParty_20 (nI s) (nI all) N (n + 1) 0 (nI (i + 1)) = _
        rw [fX6_isParty_20, xc0 (by omega) (by omega), c0, h.2.1, i0e0]
        unfold fX6_isParty_74
        rw [xbo_0]
        split <;> rfl
      · rw [if_neg c]
        exact ih n (i + 1) (by omega) (by omega) (fun j h1 h2 => by
          rcases Nat.lt_or_ge j i with d | d
          · exact hj j d h2
          · rw [show j = i by omega]; omega)
theorem M_isParty {s all : Nat} (h : rdM N R) (hR : okR R) (hs : s < 256) (ha : all < 100) : fX6_isParty (nI s) (nI all) N = some (nI (if partyS R s all then 1 else 0)) := by
  have h8 := hR.2.1
  have hp := ps_le hR s.testBit (nm R) (Nat.le_refl _)
  unfold fX6_isParty fX6_isParty_16
  rw [M_paces h hR hs, bind_e, li2, mul_e, ifle (by omega) (by omega)]
  unfold partyS
  by_cases q : 2 * ps R s.testBit (nm R) ≤ all
  · rw [if_pos q, if_neg (by simp; omega), show xfuel = 999 + 1 from rfl, fX6_isParty_20, xc0 (by omega) (by omega), c0, h.2.1, i0e0]
    unfold fX6_isParty_74
    rw [xbo_0]
    split <;> rfl
  · rw [if_neg q]
    have e := M_isParty_l h hR hs ha (nm R) xfuel 0 (by omega) (by show _ < 1000; omega) (fun j hj => absurd hj (by omega))
    have e : fX6_isParty_20 (nI s) (nI all) N xfuel 1 0 = _ := e
    obtain ⟨i, hi, hb, hsl⟩ := sl_at hR s.testBit (nm R) (Nat.le_refl _) (sl_ps hR (by omega))
    rw [e]
    by_cases c : 2 * (ps R s.testBit (nm R) - sl R s.testBit (nm R)) ≤ all
    · rw [if_pos (fun j hj hb2 => by have := sl_le R s.testBit hb2 (nm R) hj; omega), if_pos (by simp; omega)]; rfl
    · rw [if_neg (fun z => by have := z i hi hb; omega), if_neg (by simp; omega)]; rfl
-- counting
def subS (s h : Nat) : Bool := decide (mk (fun i => s.testBit i && !h.testBit i) 31 = 0)
theorem sub_e0 {α : Sort _} {s h : Nat} (hs : s < 2147483648) {a b : α} : (if (nI s &&& (nI h ^^^ (-1))) = 0 then a else b) = if subS s h then a else b := by
  rw [nI_andn _ _ hs, li0, ifeq (by have := mk_lt (fun i => s.testBit i && !h.testBit i) 31; omega) (by omega)]
  unfold subS
  by_cases q : mk (fun i => s.testBit i && !h.testBit i) 31 = 0
  · rw [if_pos q, if_pos (by simp [q])]
  · rw [if_neg q, if_neg (by simp [q])]
theorem sub_big {s n : Nat} {f : Nat → Bool} (h1 : 2 ^ n ≤ s) (h2 : s < 256) : subS s (mk f n) = false := by
  unfold subS
  simp
  intro q
  have hb : ∃ i, n ≤ i ∧ i < 8 ∧ s.testBit i = true := by
    apply Classical.byContradiction
    intro c
    have : s < 2 ^ n := by
      apply Nat.lt_pow_two_of_testBit
      intro i hi
      rcases Nat.lt_or_ge i 8 with d | d
      · cases e : s.testBit i
        · rfl
        · exact absurd ⟨i, hi, d, e⟩ c
      · have d2 : 2 ^ 8 ≤ 2 ^ i := Nat.pow_le_pow_right (by decide) d
        exact Nat.testBit_lt_two_pow (by omega)
    omega
  obtain ⟨i, i1, i2, i3⟩ := hb
  have e := congrArg (fun z : Nat => z.testBit i) q
  simp only [mk_bit, Nat.zero_testBit] at e
  simp [i3, show i < 31 by omega] at e
  omega
/-- the sets that count: o = none for how many in all, some i for those with member i -/
def oS (o : Option Nat) (s : Nat) : Bool := match o with | none => true | some i => s.testBit i
def qS (R : tR) (here all : Nat) (o : Option Nat) (s : Nat) : Bool := subS s here && partyS R s all && oS o s
theorem and_two {s i : Nat} : (s &&& 2 ^ i = 2 ^ i) ↔ s.testBit i = true := by
  constructor
  · intro h
    have e := congrArg (fun z : Nat => z.testBit i) h
    simp only [Nat.testBit_and, Nat.testBit_two_pow_self, Bool.and_true] at e
    exact e
  · intro h
    apply Nat.eq_of_testBit_eq
    intro j
    rw [Nat.testBit_and, Nat.testBit_two_pow]
    by_cases e : i = j
    · subst e; simp [h]
    · simp [e]
theorem X_parties_l {here all a : Nat} {o : Option Nat} (h : rdX M (rd (M.2 0)) R) (hR : okR R) (ha : all < 100) (ho : o = none ∧ a = 0 ∨ ∃ i, i < 8 ∧ o = some i ∧ a = 2 ^ i) : ∀ k n s, 256 = s + k → k < n → fX5_parties_62 (nI here) (nI all) (nI a) M n (nI (cnt (qS R here all o) s)) (nI s) = some (nI (cnt (qS R here all o) 256)) := by
  have ha2 : a < 256 := by
    rcases ho with ⟨-, rfl⟩ | ⟨i, hi, -, rfl⟩
    · omega
    · have : 2 ^ i < 2 ^ 8 := Nat.pow_lt_pow_right (by decide) hi
      omega
  intro k
  induction k with
  | zero =>
    intro n s e hn
    obtain ⟨n, rfl⟩ : ∃ k, n = k + 1 := ⟨n - 1, by omega⟩
    obtain rfl : s = 256 := by omega
    rw [fX5_parties_62, show (256 : Int32) = nI 256 from rfl, ifle (by omega) (by omega), if_pos (by omega)]
  | succ k ih =>
    intro n s e hn
    obtain ⟨n, rfl⟩ : ∃ k, n = k + 1 := ⟨n - 1, by omega⟩
    have hc := cnt_le (qS R here all o) s
    have hand : s &&& a < 256 := Nat.and_lt_two_pow (n := 8) _ ha2
    rw [fX5_parties_62, show (256 : Int32) = nI 256 from rfl, ifle (by omega) (by omega), if_neg (by omega), sub_e0 (by omega), nI_and, ifeq (by omega) (by omega), X_isParty h hR (by omega) ha, bind_e]
    unfold fX5_parties_103
    rw [a1_e, a1_e]
    have ih2 := ih n (s + 1) (by omega) (by omega)
    have hq : (s &&& a = a) ↔ oS o s = true := by
      rcases ho with ⟨rfl, rfl⟩ | ⟨i, hi, rfl, rfl⟩
      · simp [oS]
      · exact and_two
    cases c1 : subS s here
    · rw [if_neg (by decide)]
      rw [cnt_f (by unfold qS; rw [c1]; rfl)] at ih2
      exact ih2
    · rw [if_pos rfl]
      by_cases c2 : s &&& a = a
      · rw [if_pos c2]
        have c3 := hq.mp c2
        cases c4 : partyS R s all
        · rw [if_pos (show nI (if (false : Bool) = true then 1 else 0) = 0 from rfl)]
          rw [cnt_f (by unfold qS; rw [c1, c4]; rfl)] at ih2
          exact ih2
        · rw [if_neg (by decide)]
          rw [cnt_t (by unfold qS; rw [c1, c4, c3]; rfl)] at ih2
          exact ih2
      · rw [if_neg c2]
        have c3 : oS o s = false := by
          cases z : oS o s
          · rfl
          · exact absurd (hq.mpr z) c2
        rw [cnt_f (by unfold qS; rw [c3]; simp)] at ih2
        exact ih2
theorem M_parties_l {here all : Nat} {x2 : Int32} {o : Option Nat} (h : rdM N R) (hR : okR R) (ha : all < 100) (ho : o = none ∧ x2 = -1 ∨ ∃ i, i < 8 ∧ o = some i ∧ x2 = nI i) : ∀ k n s, 2 ^ nm R = s + k → k < n → fX6_parties_50 x2 (nI here) (nI all) N n (nI (cnt (qS R here all o) s)) (nI s) = some (nI (cnt (qS R here all o) (2 ^ nm R))) := by
  have h8 := hR.2.1
  have h28 : 2 ^ nm R ≤ 2 ^ 8 := Nat.pow_le_pow_right (by decide) h8
  have e1 : ((1 : Int32) <<< (nI (nm R) &&& 31)) = nI (2 ^ nm R) := by rw [li1, shl_e (by omega) (by omega), Nat.one_mul]
  intro k
  induction k with
  | zero =>
    intro n s e hn
    obtain ⟨n, rfl⟩ : ∃ k, n = k + 1 := ⟨n - 1, by omega⟩
    rw [fX6_parties_50, xc0 (by omega) (by omega), c0, h.2.1, e1, ifle (by omega) (by omega), if_pos (by omega), show s = 2 ^ nm R by omega]
  | succ k ih =>
    intro n s e hn
    obtain ⟨n, rfl⟩ : ∃ k, n = k + 1 := ⟨n - 1, by omega⟩
    have hc := cnt_le (qS R here all o) s
    rw [fX6_parties_50, xc0 (by omega) (by omega), c0, h.2.1, e1, ifle (by omega) (by omega), if_neg (by omega), sub_e0 (by omega), M_isParty h hR (by omega) ha, bind_e]
    unfold fX6_parties_103 fX6_parties_99 fX6_parties_104
    simp only [xl_e, a1_e]
    rw [show nI (cnt (qS R here all o) s) + 0 = nI (cnt (qS R here all o) s) by rw [li0, add_e, Nat.add_zero]]
    have ih2 := ih n (s + 1) (by omega) (by omega)
    cases c1 : subS s here
    · rw [if_neg (by decide)]
      rw [cnt_f (by unfold qS; rw [c1]; rfl)] at ih2
      exact ih2
    · rw [if_pos rfl]
      cases c4 : partyS R s all
      · rw [if_pos (show nI (if (false : Bool) = true then 1 else 0) = 0 from rfl)]
        rw [cnt_f (by unfold qS; rw [c1, c4]; rfl)] at ih2
        exact ih2
      · rw [if_neg (by decide)]
        rcases ho with ⟨rfl, rfl⟩ | ⟨i, hi, rfl, rfl⟩
        · rw [if_pos (by decide)]
          rw [cnt_t (by unfold qS; rw [c1, c4]; rfl)] at ih2
          exact ih2
        · rw [if_neg (nI_pos (by omega)), bit1 (by omega) (by omega)]
          cases c5 : s.testBit i
          · rw [if_neg (by decide)]
            rw [cnt_f (by unfold qS; rw [c1, c4]; simp [oS, c5])] at ih2
            exact ih2
          · rw [if_pos rfl]
            rw [cnt_t (by unfold qS; rw [c1, c4]; simp [oS, c5])] at ih2
            exact ih2
theorem p_parties (x1 x2 : Int32) (hA : AX M R W K kn L ln T tl) (hB : AM N R W K kn L ln T tl) : ∃ r, fX5_parties x1 x2 M = some r ∧ fX6_parties x1 x2 N = some r := by
  have hR := hA.1.2.1
  have h8 := hR.1.2.1
  have h6 := hR.1.1
  have hX := hA.rdX
  have hN := hB.1.2.2.1
  unfold fX5_parties fX6_parties fX5_parties_21 fX6_parties_28
  rcases G_parish x1 hX hN hR with ⟨p, hp, rfl, g1, g2⟩ | ⟨g1, g2, -⟩
  · rw [g1, g2, bind_e, bind_e, i1n0, i1n0, xc0 (by omega) (by omega), c0, hN.2.1, i64_m1, in_e, bind_e, sub1_e hR.2.2]
    have hl := mk_lt (inP R W p) (nm R)
    have h28 : 2 ^ nm R ≤ 2 ^ 8 := Nat.pow_le_pow_right (by decide) h8
    have hall := ps_le hR.1 (mk (inP R W p) (nm R)).testBit (nm R) (Nat.le_refl _)
    have ht : fX6_there 0 (nI p) N = _ := M_there hB.1 (p := p) (by omega)
    have fin : ∀ (o : Option Nat) (a : Nat), (o = none ∧ a = 0 ∨ ∃ i, i < 8 ∧ o = some i ∧ a = 2 ^ i) → (o = none ∧ x2 = -1 ∨ ∃ i, i < 8 ∧ o = some i ∧ x2 = nI i) → ∃ r, fX5_parties_54 (nI (mk (inP R W p) (nm R))) (nI (ps R (mk (inP R W p) (nm R)).testBit (nm R))) (nI a) M = some r ∧ (fX6_there 0 (nI p) N).bind (fun v5 => (fX6_paces v5 N).bind (fun v6 => fX6_parties_50 x2 v5 v6 N xfuel 0 0)) = some r := by
      intro o a h1 h2
      unfold fX5_parties_54
      rw [ht, bind_e, M_paces hN hR.1 (by omega), bind_e]
      have q0 : qS R (mk (inP R W p) (nm R)) (ps R (mk (inP R W p) (nm R)).testBit (nm R)) o 0 = false := by
        unfold qS partyS
        have : ps R (Nat.testBit 0) (nm R) = 0 := by
          apply Classical.byContradiction
          intro c
          obtain ⟨i, -, hi⟩ := sl_ps (s := 0) hR.1 (by omega)
          rw [Nat.zero_testBit] at hi
          cases hi
        rw [this]
        simp
      have a1 := X_parties_l (here := mk (inP R W p) (nm R)) (all := ps R (mk (inP R W p) (nm R)).testBit (nm R)) hX hR.1 (by omega) h1 255 xfuel 1 (by omega) (by show _ < 1000; omega)
      rw [cnt_f q0] at a1
      have a1 : fX5_parties_62 (nI (mk (inP R W p) (nm R))) (nI (ps R (mk (inP R W p) (nm R)).testBit (nm R))) (nI a) M xfuel 0 1 = _ := a1
      have b1 := M_parties_l (here := mk (inP R W p) (nm R)) (all := ps R (mk (inP R W p) (nm R)).testBit (nm R)) hN hR.1 (by omega) h2 (2 ^ nm R) xfuel 0 (by omega) (by show _ < 1000; omega)
      have b1 : fX6_parties_50 x2 (nI (mk (inP R W p) (nm R))) (nI (ps R (mk (inP R W p) (nm R)).testBit (nm R))) N xfuel 0 0 = _ := b1
      rw [a1, b1, cnt_more (n := 2 ^ nm R) (m := 256) _ (by omega) (fun s s1 s2 => by unfold qS; rw [sub_big s1 s2]; rfl)]
      exact ⟨_, rfl, rfl⟩
    unfold fX5_parties_23
    rw [X_thoseIn hA.1 hp, bind_e, X_paceOf hX hR.1 (by omega), bind_e]
    by_cases c : x2 = -1
    · rw [if_pos c, if_pos c, c, if_pos (show (-1 : Int32) ≤ -1 ∧ (-1 : Int32) ≤ nI (nm R - 1) from ⟨by decide, by
        rw [Int32.le_iff_toInt_le, nI_toInt (by omega)]
        show (-1 : Int) ≤ _
        omega⟩), i1n0]
      rw [c] at fin
      exact fin none 0 (Or.inl ⟨rfl, rfl⟩) (Or.inl ⟨rfl, rfl⟩)
    · rw [if_neg c, if_neg c]
      rcases G_member x2 hX hN hR with ⟨i, hi, rfl, g3, g4⟩ | ⟨g3, g4, g5⟩
      · rw [g3, bind_e, i1n0, if_pos (show (-1 : Int32) ≤ nI i ∧ nI i ≤ nI (nm R - 1) from ⟨by
          rw [Int32.le_iff_toInt_le, nI_toInt (by omega)]
          show (-1 : Int) ≤ _
          omega, nI_le (by omega) (by omega)⟩), i1n0]
        have h2i : 2 ^ i < 2 ^ 8 := Nat.pow_lt_pow_right (by decide) (by omega)
        rw [show ((1 : Int32) <<< (nI i &&& 31)) = nI (2 ^ i) by rw [li1, shl_e (by omega) (by omega), Nat.one_mul]]
        exact fin (some i) (2 ^ i) (Or.inr ⟨i, by omega, rfl, rfl⟩) (Or.inr ⟨i, by omega, rfl, rfl⟩)
      · rw [g3, bind_e, i0e0, if_neg (show ¬ ((-1 : Int32) ≤ x2 ∧ x2 ≤ nI (nm R - 1)) by
          rintro ⟨d1, d2⟩
          refine g5 ((le_nI hR.2.2 (by omega)).mp ⟨?_, by rw [sub1_e hR.2.2]; exact d2⟩)
          rw [Int32.le_iff_toInt_le] at d1 ⊢
          have e1 : (-1 : Int32).toInt = -1 := by decide
          have e2 : (0 : Int32).toInt = 0 := by decide
          have : x2.toInt ≠ -1 := fun e => c (Int32.toInt_inj.mp (e.trans e1.symm))
          omega), i0e0]
        exact ⟨_, rfl, rfl⟩
  · rw [g1, g2]
    exact ⟨_, rfl, rfl⟩
end
