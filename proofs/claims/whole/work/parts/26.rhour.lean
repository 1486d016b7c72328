/-! THE REFERENCE: its road, its slots, an hour -/
theorem li16 : (16 : Int32) = nI 16 := rfl
theorem li18 : (18 : Int32) = nI 18 := rfl
theorem li20 : (20 : Int32) = nI 20 := rfl
theorem li24 : (24 : Int32) = nI 24 := rfl
theorem li25 : (25 : Int32) = nI 25 := rfl
theorem li30 : (30 : Int32) = nI 30 := rfl
theorem c0 : (0 : Int32).toNatClampNeg = 0 := rfl
theorem c1 : (1 : Int32).toNatClampNeg = 1 := rfl
theorem c2 : (2 : Int32).toNatClampNeg = 2 := rfl
theorem c3 : (3 : Int32).toNatClampNeg = 3 := rfl
theorem xc0 {ρ : Type} {n : Nat} {o : Option ρ} (h : 0 < n) (hn : n < 5000) : xchk 0 n o = o := xchk_e (k := 0) h hn
theorem xc1 {ρ : Type} {n : Nat} {o : Option ρ} (h : 1 < n) (hn : n < 5000) : xchk 1 n o = o := xchk_e (k := 1) h hn
theorem xc2 {ρ : Type} {n : Nat} {o : Option ρ} (h : 2 < n) (hn : n < 5000) : xchk 2 n o = o := xchk_e (k := 2) h hn
theorem xc3 {ρ : Type} {n : Nat} {o : Option ρ} (h : 3 < n) (hn : n < 5000) : xchk 3 n o = o := xchk_e (k := 3) h hn
def rdM (N : xm) (R : tR) : Prop := N.1 63 0 = nI (np R) ∧ N.1 65 0 = nI (nm R) ∧ N.1 62 0 = nI (qu R) ∧ N.1 62 1 = nI (nb R) ∧
  (∀ p, p < np R → N.1 64 (3 * p + 0) = nI (R 1 p)) ∧ (∀ p, p < np R → N.1 64 (3 * p + 1) = nI (R 2 p)) ∧ (∀ p, p < np R → N.1 64 (3 * p + 2) = nI (R 3 p)) ∧
  (∀ i, i < nm R → N.1 66 (3 * i + 0) = nI (R 4 i)) ∧ (∀ i, i < nm R → N.1 66 (3 * i + 1) = nI (R 5 i)) ∧ (∀ i, i < nm R → N.1 66 (3 * i + 2) = nI (R 6 i))
theorem rdM.same {N N' : xm} {R : tR} (h : rdM N R) (hs : ∀ a, 62 ≤ a → a ≤ 66 → N'.1 a = N.1 a) : rdM N' R := by
  unfold rdM
  rw [hs 62 (by omega) (by omega), hs 63 (by omega) (by omega), hs 64 (by omega) (by omega), hs 65 (by omega) (by omega), hs 66 (by omega) (by omega)]
  exact h
def encM (N : xm) (s : Nat) (W : tR) : Prop := (∀ i, i < 8 → N.1 67 (25 * s + i) = nI (W 0 i)) ∧ (∀ i, i < 8 → N.1 67 (25 * s + 8 + i) = nI (W 1 i)) ∧ (∀ b, b < 4 → N.1 67 (25 * s + 16 + b) = nI (W 2 b)) ∧ (∀ b, b < 4 → N.1 67 (25 * s + 20 + b) = mdI (W 3 b)) ∧ N.1 67 (25 * s + 24) = nI (W 4 0)
def sameM (N N' : xm) (s : Nat) : Prop := (∀ a, a ≠ 67 → a ≠ 60 → N'.1 a = N.1 a) ∧ (∀ j, j ≠ 17 → j ≠ 18 → N'.1 60 j = N.1 60 j) ∧ ∀ j, (j < 25 * s ∨ 25 * s + 25 ≤ j) → N'.1 67 j = N.1 67 j
theorem sameM.rf {N : xm} {s : Nat} : sameM N N s := ⟨fun _ _ _ => rfl, fun _ _ _ => rfl, fun _ _ => rfl⟩
theorem sameM.tr {N N' N'' : xm} {s : Nat} (h : sameM N N' s) (h2 : sameM N' N'' s) : sameM N N'' s := ⟨fun a q r => (h2.1 a q r).trans (h.1 a q r), fun j q r => (h2.2.1 j q r).trans (h.2.1 j q r), fun j q => (h2.2.2 j q).trans (h.2.2 j q)⟩
theorem sameM.slot {N : xm} {s j : Nat} {v : Int32} (h1 : 25 * s ≤ j) (h2 : j < 25 * s + 25) : sameM N (up N 67 j v) s := ⟨fun a q r => up_ne q, fun i q r => by rw [up_at, if_neg (by omega)], fun i q => by rw [up_at, if_neg (by omega)]⟩
theorem sameM.voc {N : xm} {s j : Nat} {v : Int32} (h1 : j = 17 ∨ j = 18) : sameM N (up N 60 j v) s := ⟨fun a q r => up_ne r, fun i q r => by rw [up_at, if_neg (by omega)], fun i q => by rw [up_at, if_neg (by omega)]⟩
def MX (N : xm) (s : Nat) (R W : tR) : Prop := s < 4 ∧ laidR R ∧ rdM N R ∧ encM N s W ∧ okW R W
theorem MX.same {N N' : xm} {s : Nat} {R W W' : tR} (h : MX N s R W) (hs : sameM N N' s) (he : encM N' s W') (ho : okW R W') : MX N' s R W' :=
  ⟨h.1, h.2.1, h.2.2.1.same (fun a h1 h2 => hs.1 a (by omega) (by omega)), he, ho⟩
theorem M_begin_l {N : xm} {R : tR} (h : rdM N R) (hR : okR R) {P : Nat} (hP : P ≤ np R) : ∀ k n p, P = p + k → k < n → fX6_begin_4 (nI P) N n (nI (fm R p)) (nI p) = some (nI (fm R P)) := by
  have h6 := hR.1
  intro k
  induction k with
  | zero =>
    intro n p e hn
    obtain ⟨n, rfl⟩ : ∃ k, n = k + 1 := ⟨n - 1, by omega⟩
    rw [fX6_begin_4, ifle (by omega) (by omega), if_pos (by omega), show p = P by omega]
  | succ k ih =>
    intro n p e hn
    obtain ⟨n, rfl⟩ : ∃ k, n = k + 1 := ⟨n - 1, by omega⟩
    rw [fX6_begin_4, ifle (by omega) (by omega), if_neg (by omega), li3, li0, mul_e, add_e, xchk_e (by omega) (by omega), cl_e (by omega), h.2.2.2.2.1 p (by omega), xl_e, add_e, a1_e]
    exact ih n (p + 1) (by omega) (by omega)
theorem M_begin {N : xm} {R : tR} (h : rdM N R) (hR : okR R) {P : Nat} (hP : P ≤ np R) : fX6_begin (nI P) N = some (nI (fm R P)) :=
  M_begin_l h hR hP P xfuel 0 (by omega) (by have := hR.1; show _ < 1000; omega)
theorem M_end {N : xm} {R : tR} (h : rdM N R) (hR : okR R) : fX6_end N = some (nI (xend R)) := by
  unfold fX6_end
  rw [xc0 (by omega) (by omega), c0, h.1, M_begin h hR (Nat.le_refl _), bind_e]
  rfl
theorem M_parishOf_l {N : xm} {R : tR} {x : Nat} (h : rdM N R) (hR : laidR R) (hx : x < 1000000) : ∀ k n p, np R = p + 1 + k → k < n → fm R p ≤ x → fX6_parishOf_2 (nI x) N n (nI p) = some (nI (pAt R x)) := by
  have h6 := hR.1.1
  intro k
  induction k with
  | zero =>
    intro n p e hn hf
    obtain ⟨n, rfl⟩ : ∃ k, n = k + 1 := ⟨n - 1, by omega⟩
    unfold fX6_parishOf_31 at *
    rw [fX6_parishOf_2, xc0 (by omega) (by omega), c0, h.1, a1_e, ifle (by omega) (by omega), if_pos (by omega), (pAt_iff hR.1 hR.2.1 (p := p) (by omega)).mpr ⟨hf, fun q => absurd q (by omega)⟩]
    rfl
  | succ k ih =>
    intro n p e hn hf
    obtain ⟨n, rfl⟩ : ∃ k, n = k + 1 := ⟨n - 1, by omega⟩
    have hfe := fm_le hR.1 (p + 1) (by omega)
    rw [fX6_parishOf_2, xc0 (by omega) (by omega), c0, h.1, a1_e, ifle (by omega) (by omega), if_neg (by omega), M_begin h hR.1 (by omega), bind_e, iflt (by omega) (by omega)]
    by_cases q : x < fm R (p + 1)
    · rw [if_pos q, (pAt_iff hR.1 hR.2.1 (p := p) (by omega)).mpr ⟨hf, fun _ => q⟩]
      rfl
    · rw [if_neg q]
      exact ih n (p + 1) (by omega) (by omega) (by omega)
theorem M_parishOf {N : xm} {R : tR} {x : Nat} (h : rdM N R) (hR : laidR R) (hx : x < 1000000) : fX6_parishOf (nI x) N = some (nI (pAt R x)) :=
  M_parishOf_l h hR hx (np R - 1) xfuel 0 (by have := hR.2.1; omega) (by have := hR.1.1; show _ < 1000; omega) (Nat.zero_le _)
theorem M_there_l {N : xm} {s : Nat} {R W : tR} (h : MX N s R W) {p : Nat} (hp : p < 1000) : ∀ k n i, nm R = i + k → k < n → fX6_there_5 (nI s) (nI p) N n (nI (mk (inP R W p) i)) (nI i) = some (nI (mk (inP R W p) (nm R))) := by
  obtain ⟨hs, hR, h3, he, ho⟩ := h
  have h8 := hR.1.2.1
  have h6 := hR.1.1
  have hx := xend_le hR.1
  intro k
  induction k with
  | zero =>
    intro n i e hn
    obtain ⟨n, rfl⟩ : ∃ k, n = k + 1 := ⟨n - 1, by omega⟩
    rw [fX6_there_5, xc0 (by omega) (by omega), c0, h3.2.1, ifle (by omega) (by omega), if_pos (by omega), show i = nm R by omega]
  | succ k ih =>
    intro n i e hn
    obtain ⟨n, rfl⟩ : ∃ k, n = k + 1 := ⟨n - 1, by omega⟩
    have hm := ho.1 i (by omega)
    have hpl := pAt_lt (R := R) (W 0 i) hR.2.1
    rw [fX6_there_5, xc0 (by omega) (by omega), c0, h3.2.1, ifle (by omega) (by omega), if_neg (by omega), li25, mul_e, add_e, xchk_e (by omega) (by omega), cl_e (by omega), he.1 i (by omega), M_parishOf h3 hR (by omega), bind_e, ifeq (by omega) (by omega)]
    unfold fX6_there_45
    by_cases q : pAt R (W 0 i) = p
    · rw [if_pos q, xl_e, mk_t (by omega) (by unfold inP; simp [q]), a1_e]
      exact ih n (i + 1) (by omega) (by omega)
    · rw [if_neg q, xl_e, li0, nI_or, Nat.or_zero, a1_e, ← mk_f (f := inP R W p) (i := i) (by unfold inP; simp [q])]
      exact ih n (i + 1) (by omega) (by omega)
theorem M_there {N : xm} {s : Nat} {R W : tR} (h : MX N s R W) {p : Nat} (hp : p < 1000) : fX6_there (nI s) (nI p) N = some (nI (mk (inP R W p) (nm R))) :=
  M_there_l h hp (nm R) xfuel 0 (by omega) (by have := h.2.1.1.2.1; show _ < 1000; omega)
theorem many_all : ∀ n, n < 256 → fX6_many (nI n) (fun _ _ => 0, fun _ => false) = some (nI (cnt n.testBit 8)) := by decide +kernel
theorem many_ind (x : Int32) (M N : xm) : ∀ n a b, fX6_many_4 x M n a b = fX6_many_4 x N n a b := by
  intro n
  induction n with
  | zero => intro a b; rfl
  | succ n ih =>
    intro a b
    rw [fX6_many_4, fX6_many_4]
    split
    · rfl
    · rw [xl_e, xl_e, ih]
theorem many_e {n : Nat} (h : n < 256) (N : xm) : fX6_many (nI n) N = some (nI (cnt n.testBit 8)) := (many_ind _ _ _ _ _ _).trans (many_all n h)
theorem many_mk {f : Nat → Bool} {n : Nat} (hn : n ≤ 8) (N : xm) : fX6_many (nI (mk f n)) N = some (nI (cnt f n)) := by
  have h1 := pop_mk (f := f) hn N
  have hl : mk f n < 256 := Nat.lt_of_lt_of_le (mk_lt f n) (Nat.pow_le_pow_right (by decide) hn)
  rw [pop_e hl] at h1
  rw [many_e hl]
  exact h1
theorem M_pace56 {k p : Nat} (hk : k < 100) (hp : p < 100) (t : Int32) (N : xm) : fX6_pace_56 (nI k) (nI p) t N = some (if k = 1 then nI 4 else if k = 2 then (if t = 0 then nI p else nI (p / 2)) else nI p) := by
  unfold fX6_pace_56 fX6_pace_84 fX6_pace_86
  rw [li1, ifeq (by omega) (by omega), li2, ifeq (by omega) (by omega), div_e (by omega) (by omega) (by omega)]
  by_cases e1 : k = 1
  · rw [if_pos e1, if_pos e1]; rfl
  · rw [if_neg e1, if_neg e1]
    by_cases e2 : k = 2
    · rw [if_pos e2, if_pos e2]
      by_cases e3 : t = 0
      · rw [if_pos e3, if_pos e3]
      · rw [if_neg e3, if_neg e3]
    · rw [if_neg e2, if_neg e2]
theorem M_pace {N : xm} {s : Nat} {R W : tR} (h : MX N s R W) {i : Nat} (hi : i < nm R) : fX6_pace (nI s) (nI i) N = some (nI (stride R (W 0 i) i)) := by
  obtain ⟨hs, hR, h3, he, ho⟩ := h
  have h8 := hR.1.2.1
  have h6 := hR.1.1
  have hx := xend_le hR.1
  have hm := ho.1 i (by omega)
  have hpl := pAt_lt (R := R) (W 0 i) hR.2.1
  have hk := hR.1.2.2.2.2.2 i hi
  have hpp := hR.1.2.2.2.2.1 _ hpl
  unfold fX6_pace
  rw [li3, li0, mul_e, add_e, xchk_e (by omega) (by omega), cl_e (by omega), h3.2.2.2.2.2.2.2.1 i hi, xl_e, li1, add_e, xchk_e (by omega) (by omega), cl_e (by omega), h3.2.2.2.2.2.2.2.2.1 i hi, xl_e, li25, mul_e, add_e, xchk_e (by omega) (by omega), cl_e (by omega), he.1 i (by omega), M_parishOf h3 hR (by omega), bind_e, mul_e, add_e, xchk_e (by omega) (by omega), cl_e (by omega), h3.2.2.2.2.2.1 _ hpl, ifeq (by omega) (by omega), M_pace56 (by omega) (by omega), M_pace56 (by omega) (by omega)]
  unfold stride
  by_cases e3 : R 2 (pAt R (W 0 i)) = 1
  · rw [if_pos e3, if_neg (show ¬ nI 1 = 0 by decide)]
    by_cases e1 : R 4 i = 1
    · simp [e1]
    · by_cases e2 : R 4 i = 2
      · simp [e2, e3]
      · simp [e1, e2]
  · rw [if_neg e3, if_pos (show nI 0 = 0 from rfl)]
    by_cases e1 : R 4 i = 1
    · simp [e1]
    · by_cases e2 : R 4 i = 2
      · simp [e2, e3]
      · simp [e1, e2]
theorem MX.mile {N : xm} {s : Nat} {R W : tR} (h : MX N s R W) {i x : Nat} (hi : i < 8) (hx : x ≤ xend R) : MX (up N 67 (25 * s + i) (nI x)) s R (upW W 0 i x) := by
  refine h.same (sameM.slot (by omega) (by omega)) ?_ (okW_mile h.2.2.2.2 hx)
  obtain ⟨e1, e2, e3, e4, e5⟩ := h.2.2.2.1
  refine ⟨fun j hj => ?_, fun b hb => ?_, fun b hb => ?_, fun b hb => ?_, ?_⟩
  · rw [up_at, upW_e]
    by_cases q : j = i
    · rw [if_pos ⟨rfl, by omega⟩, if_pos ⟨rfl, q⟩]
    · rw [if_neg (by omega), if_neg (by omega)]; exact e1 j hj
  · rw [up_at, if_neg (by omega), e2 b hb, upW_n (by omega)]
  · rw [up_at, if_neg (by omega), e3 b hb, upW_n (by omega)]
  · rw [up_at, if_neg (by omega), e4 b hb, upW_n (by omega)]
  · rw [up_at, if_neg (by omega), e5, upW_n (by omega)]
theorem MX.mind {N : xm} {s : Nat} {R W : tR} (h : MX N s R W) {i x : Nat} (hi : i < 8) (hx : x < 16) : MX (up N 67 (25 * s + 8 + i) (nI x)) s R (upW W 1 i x) := by
  refine h.same (sameM.slot (by omega) (by omega)) ?_ (okW_mind h.2.2.2.2 hx)
  obtain ⟨e1, e2, e3, e4, e5⟩ := h.2.2.2.1
  refine ⟨fun j hj => ?_, fun b hb => ?_, fun b hb => ?_, fun b hb => ?_, ?_⟩
  · rw [up_at, if_neg (by omega), e1 j hj, upW_n (by omega)]
  · rw [up_at, upW_e]
    by_cases q : b = i
    · rw [if_pos ⟨rfl, by omega⟩, if_pos ⟨rfl, q⟩]
    · rw [if_neg (by omega), if_neg (by omega)]; exact e2 b hb
  · rw [up_at, if_neg (by omega), e3 b hb, upW_n (by omega)]
  · rw [up_at, if_neg (by omega), e4 b hb, upW_n (by omega)]
  · rw [up_at, if_neg (by omega), e5, upW_n (by omega)]
theorem MX.hour {N : xm} {s : Nat} {R W : tR} (h : MX N s R W) {x : Nat} : MX (up N 67 (25 * s + 24) (nI x)) s R (upW W 4 0 x) := by
  refine h.same (sameM.slot (by omega) (by omega)) ?_ (okW_hour h.2.2.2.2)
  obtain ⟨e1, e2, e3, e4, e5⟩ := h.2.2.2.1
  refine ⟨fun j hj => ?_, fun b hb => ?_, fun b hb => ?_, fun b hb => ?_, ?_⟩
  · rw [up_at, if_neg (by omega), e1 j hj, upW_n (by omega)]
  · rw [up_at, if_neg (by omega), e2 b hb, upW_n (by omega)]
  · rw [up_at, if_neg (by omega), e3 b hb, upW_n (by omega)]
  · rw [up_at, if_neg (by omega), e4 b hb, upW_n (by omega)]
  · rw [up_at, if_pos ⟨rfl, rfl⟩, upW_s]
theorem M_beds_l {N0 : xm} {s : Nat} {R : tR} {k9 : Int32 → xm → Option xm} {p : Nat} (hp0 : 1 ≤ p) (hp : p < np R) {f : Nat → Bool} : ∀ k m n N W (x4 : Int32), MX N s R W → sameM N0 N s → k ≤ nm R → k < n → m ≤ 8 → (x4 ≤ 0 ↔ m = 0) → (0 < m → x4 = nI m) → ∃ N', fX6_beds_47 k9 (nI s) (nI p) (nI (mk f (nm R))) n x4 (nI k - 1) N = fX6_beds_95 k9 (nI s) (nI p) N' ∧ MX N' s R (bedI R p f k m W) ∧ sameM N0 N' s := by
  intro k
  induction k with
  | zero =>
    intro m n N W x4 h hs hk hn hm88 h3 h4
    obtain ⟨n, rfl⟩ : ∃ k, n = k + 1 := ⟨n - 1, by omega⟩
    rw [fX6_beds_47, if_pos (by decide)]
    exact ⟨N, rfl, h, hs⟩
  | succ k ih =>
    intro m n N W x4 h hs hk hn hm88 h3 h4
    obtain ⟨n, rfl⟩ : ∃ k, n = k + 1 := ⟨n - 1, by omega⟩
    have hs4 := h.1
    have hR := h.2.1
    have hm8 := hR.1.2.1
    have h6 := hR.1.1
    have hl := mk_lt f (nm R)
    have hl2 : 2 ^ nm R ≤ 2 ^ 8 := Nat.pow_le_pow_right (by decide) hm8
    rw [fX6_beds_47, s1_e, if_neg (nI_pos (by omega))]
    unfold bedI
    by_cases q : m = 0
    · rw [if_pos (h3.mpr q), if_pos q]
      exact ⟨N, rfl, h, hs⟩
    · rw [if_neg (fun e => q (h3.mp e)), if_neg q, bit1 (by omega) (by omega), mk_bit]
      have hx3 := h4 (by omega)
      obtain ⟨m, rfl⟩ : ∃ z, m = z + 1 := ⟨m - 1, by omega⟩
      have hx : k < nm R := by omega
      cases hf : f k
      · rw [if_neg (by simp), if_neg (by simp), fX6_beds_89, am1_e]
        exact ih (m + 1) n N W x4 h hs (by omega) (by omega) hm88 h3 h4
      · rw [if_pos (by simp [hx]), if_pos rfl]
        have hge := fm_mono hR.1 p 0 (by omega) (by omega)
        have hfe := fm_end hR.1 (p := p) (by omega)
        rw [M_begin h.2.2.1 hR.1 (by omega), bind_e, li25, mul_e, add_e, xchk_e (by omega) (by omega), cl_e (by omega), xl_e, sub1_e (by omega), hx3, m1_e, fX6_beds_89, am1_e]
        exact ih m n _ _ _ (h.mile (i := k) (x := fm R p - 1) (by omega) (by omega)) (hs.tr (sameM.slot (by omega) (by omega))) (by omega) (by omega) (by omega) (by
          constructor
          · intro q2; rcases Nat.eq_zero_or_pos m with z | z
            · exact z
            · exact absurd q2 (nI_nle z (by omega))
          · intro q2; subst q2; decide) (fun _ => rfl)
theorem M_beds {N0 : xm} {s : Nat} {R : tR} : ∀ p n N W, p < np R → p < n → MX N s R W → sameM N0 N s → ∃ N', fX6_beds_9 (nI s) n (nI p) N = some N' ∧ MX N' s R (bedS R p W) ∧ sameM N0 N' s := by
  intro p
  induction p with
  | zero =>
    intro n N W hp hn h hs
    obtain ⟨n, rfl⟩ : ∃ k, n = k + 1 := ⟨n - 1, by omega⟩
    rw [fX6_beds_9, if_pos (by decide)]
    exact ⟨N, rfl, h, hs⟩
  | succ p ih =>
    intro n N W hp hn h hs
    obtain ⟨n, rfl⟩ : ∃ k, n = k + 1 := ⟨n - 1, by omega⟩
    have hs4 := h.1
    have hR := h.2.1
    have hm8 := hR.1.2.1
    have h6 := hR.1.1
    have hb := (hR.1.2.2.2.2.1 (p + 1) hp).2.2.2
    have hc := cnt_le (inP R W (p + 1)) (nm R)
    rw [fX6_beds_9, if_neg (nI_nle (by omega) (by omega)), M_there h (by omega), bind_e, many_mk hm8, bind_e, li3, li2, mul_e, add_e, xchk_e (by omega) (by omega), cl_e (by omega), xl_e, h.2.2.1.2.2.2.2.2.2.1 _ hp, xc0 (by omega) (by omega), c0, xl_e, h.2.2.1.2.1]
    have hsg := sgn_all (cnt (inP R W (p + 1)) (nm R)) (by omega) (R 3 (p + 1)) (by omega)
    obtain ⟨N', e1, e2, e3⟩ := M_beds_l (k9 := fun z0 z1 => fX6_beds_9 (nI s) n z0 z1) (by omega) hp (f := inP R W (p + 1)) (nm R) (cnt (inP R W (p + 1)) (nm R) - R 3 (p + 1)) xfuel N W _ h hs (Nat.le_refl _) (by show _ < 1000; omega) (by omega) (hsg.1.trans (by omega)) (fun q => sub_e (by omega))
    rw [e1, fX6_beds_95, m1_e]
    exact ih n N' _ (by omega) (by omega) e2 e3
-- minds
theorem M_flip_l {N0 : xm} {s : Nat} {R W : tR} {k2 k22 : Int32 → xm → Option xm} {x2 x3 : Int32} {b who t : Nat} (hb : b < 4) (hwho : who < 256) (ht : ∀ i, i < 8 → who.testBit i = decide (i = t)) : ∀ k n i N, nm R = i + k → k < n → MX N s R (if t < i then flipW W t b else W) → sameM N0 N s → ∃ N', fX6_minds_161 k2 k22 (nI s) x2 x3 (nI b) (nI who) n (nI i) N = k22 (nI (b + 1)) N' ∧ MX N' s R (if t < nm R then flipW W t b else W) ∧ sameM N0 N' s := by
  intro k
  induction k with
  | zero =>
    intro n i N e hn h hs
    obtain ⟨n, rfl⟩ : ∃ k, n = k + 1 := ⟨n - 1, by omega⟩
    have h8 := h.2.1.1.2.1
    rw [fX6_minds_161, xc0 (by omega) (by omega), c0, h.2.2.1.2.1, ifle (by omega) (by omega), if_pos (by omega), a1_e, show nm R = i by omega]
    exact ⟨N, rfl, h, hs⟩
  | succ k ih =>
    intro n i N e hn h hs
    obtain ⟨n, rfl⟩ : ∃ k, n = k + 1 := ⟨n - 1, by omega⟩
    have hs4 := h.1
    have h8 := h.2.1.1.2.1
    have hmi := h.2.2.2.2.2.1 i (by omega)
    have hb2 : 2 ^ b < 2 ^ 4 := Nat.pow_lt_pow_right (by decide) hb
    rw [fX6_minds_161, xc0 (by omega) (by omega), c0, h.2.2.1.2.1, ifle (by omega) (by omega), if_neg (by omega), li25, li8, mul_e, add_e, add_e, xl_e, xchk_e (by omega) (by omega), bit1 (by omega) (by omega), ht i (by omega)]
    unfold fX6_minds_207
    rw [xchk_e (by omega) (by omega), xchk_e (by omega) (by omega), cl_e (by omega), h.2.2.2.1.2.1 i (by omega), xl_e, xl_e, a1_e]
    by_cases q : i = t
    · rw [if_pos (by simp [q])]
      subst q
      rw [show ((1 : Int32) <<< (nI b &&& 31)) = nI (2 ^ b) by rw [li1, shl_e (by omega) (by omega), Nat.one_mul], nI_xor]
      have h2 := h.mind (i := i) (x := (if i < i then flipW W i b else W) 1 i ^^^ 2 ^ b) (by omega) (xor_lt hmi hb)
      rw [if_neg (by omega)] at h2
      rw [if_neg (by omega)]
      exact ih n (i + 1) _ (by omega) (by omega) (by rw [if_pos (by omega)]; exact h2) (hs.tr (sameM.slot (by omega) (by omega)))
    · rw [if_neg (by simp [q]), li0, nI_xor, Nat.xor_zero]
      have h2 := h.mind (i := i) (x := (if t < i then flipW W t b else W) 1 i) (by omega) hmi
      have e9 : upW (if t < i then flipW W t b else W) 1 i ((if t < i then flipW W t b else W) 1 i) = if t < i then flipW W t b else W := by
        funext a c
        rw [upW_e]
        by_cases z : a = 1 ∧ c = i
        · rw [if_pos z, z.1, z.2]
        · rw [if_neg z]
      rw [e9] at h2
      exact ih n (i + 1) _ (by omega) (by omega) (by
        by_cases z : t < i
        · rw [if_pos z] at h2 ⊢; rw [if_pos (show t < i + 1 by omega)]; exact h2
        · rw [if_neg z] at h2 ⊢; rw [if_neg (show ¬ t < i + 1 by omega)]; exact h2) (hs.tr (sameM.slot (by omega) (by omega)))
theorem andn_sub (f g : Nat → Bool) {n : Nat} (hn : n ≤ 8) : nI (mk f n) &&& (nI (mk (fun i => f i && g i) n) ^^^ (-1)) = nI (mk (fun i => f i && !g i) n) := by
  rw [andn_mk _ _ (by omega)]
  congr 1
  exact mk_cong (fun i hi => by cases f i <;> simp)
theorem low_bits {f : Nat → Bool} {n : Nat} (hn : n ≤ 8) : ∃ who, nI (mk f n) &&& (-nI (mk f n)) = nI who ∧ who < 256 ∧ ∀ i, i < 8 → who.testBit i = decide (i = if fst1 f n < n then fst1 f n else 100) := by
  have hl := fst1_le f n
  refine ⟨_, low_n hn, ?_, fun i hi => ?_⟩
  · split
    · have : 2 ^ fst1 f n < 2 ^ 8 := Nat.pow_lt_pow_right (by decide) (by omega)
      omega
    · omega
  · split
    · rw [Nat.testBit_two_pow]
      by_cases e : fst1 f n = i
      · simp [e]
      · simp [e, Ne.symm e]
    · rw [Nat.zero_testBit]
      simp; omega
theorem M_sway_l {N0 N : xm} {s : Nat} {R W : tR} {k2 k22 : Int32 → xm → Option xm} {x2 : Int32} {b : Nat} (hb : b < 4) (f : Nat → Bool) (h : MX N s R W) (hs : sameM N0 N s) : ∀ k n i, nm R = i + k → k < n → ∃ N', fX6_minds_39 k2 k22 (nI s) x2 (nI (mk f (nm R))) (nI b) N n (nI (mk (yB f W b) i)) (nI i) = k22 (nI (b + 1)) N' ∧ MX N' s R (swayS R f b W) ∧ sameM N0 N' s := by
  have h8 := h.2.1.1.2.1
  have hs4 := h.1
  intro k
  induction k with
  | zero =>
    intro n i e hn
    obtain ⟨n, rfl⟩ : ∃ k, n = k + 1 := ⟨n - 1, by omega⟩
    have hcy := cnt_le (yB f W b) (nm R)
    have hcn := cnt_le (nB f W b) (nm R)
    rw [show i = nm R by omega]
    rw [fX6_minds_39, xc0 (by omega) (by omega), c0, h.2.2.1.2.1, ifle (by omega) (by omega), if_pos (Nat.le_refl _), xl_e]
    have e1 : nI (mk f (nm R)) &&& (nI (mk (yB f W b) (nm R)) ^^^ (-1)) = nI (mk (nB f W b) (nm R)) := andn_sub f (fun i => (W 1 i).testBit b) h8
    rw [e1, many_mk h8, bind_e, many_mk h8, bind_e, ifle (by omega) (by omega), bind_e, bind_e, ifle (by omega) (by omega)]
    have fin : ∀ who t : Nat, who < 256 → (∀ i, i < 8 → who.testBit i = decide (i = t)) → (if t < nm R then flipW W t b else W) = swayS R f b W → ∃ N', fX6_minds_156 k2 k22 (nI s) x2 (nI (mk f (nm R))) (nI b) (nI who) N = k22 (nI (b + 1)) N' ∧ MX N' s R (swayS R f b W) ∧ sameM N0 N' s := by
      intro who t h1 h2 h3
      unfold fX6_minds_156
      obtain ⟨N', a1, a2, a3⟩ := M_flip_l (N0 := N0) (R := R) (W := W) (k2 := k2) (k22 := k22) (x2 := x2) (x3 := nI (mk f (nm R))) hb h1 h2 (nm R) xfuel 0 N (by omega) (by show _ < 1000; omega) (by rw [if_neg (by omega)]; exact h) hs
      rw [h3] at a2
      exact ⟨N', a1, a2, a3⟩
    unfold swayS at fin ⊢
    by_cases c1 : cnt (nB f W b) (nm R) < cnt (yB f W b) (nm R)
    · rw [if_neg (by omega), if_pos c1]
      rw [if_pos c1] at fin
      obtain ⟨who, w1, w2, w3⟩ := low_bits (f := nB f W b) h8
      rw [w1]
      refine fin who _ w2 w3 ?_
      by_cases q : fst1 (nB f W b) (nm R) < nm R
      · rw [if_pos q, if_pos q]
      · rw [if_neg q, if_neg q, if_neg (by omega)]
    · rw [if_pos (by omega), if_neg c1]
      rw [if_neg c1] at fin
      by_cases c2 : cnt (yB f W b) (nm R) < cnt (nB f W b) (nm R)
      · rw [if_neg (by omega), if_pos c2]
        rw [if_pos c2] at fin
        obtain ⟨who, w1, w2, w3⟩ := low_bits (f := yB f W b) h8
        rw [w1]
        refine fin who _ w2 w3 ?_
        by_cases q : fst1 (yB f W b) (nm R) < nm R
        · rw [if_pos q, if_pos q]
        · rw [if_neg q, if_neg q, if_neg (by omega)]
      · rw [if_pos (by omega), if_neg c2]
        rw [if_neg c2] at fin
        exact fin 0 100 (by omega) (fun i hi => by rw [Nat.zero_testBit]; simp; omega) (by rw [if_neg (by omega)])
  | succ k ih =>
    intro n i e hn
    obtain ⟨n, rfl⟩ : ∃ k, n = k + 1 := ⟨n - 1, by omega⟩
    have hl := mk_lt f (nm R)
    have hl2 : 2 ^ nm R ≤ 2 ^ 8 := Nat.pow_le_pow_right (by decide) h8
    have hmi := h.2.2.2.2.2.1 i (by omega)
    rw [fX6_minds_39, xc0 (by omega) (by omega), c0, h.2.2.1.2.1, ifle (by omega) (by omega), if_neg (by omega), bit1 (by omega) (by omega), mk_bit, li25, li8, mul_e, add_e, add_e, xchk_e (by omega) (by omega), cl_e (by omega), h.2.2.2.1.2.1 i (by omega), bit1 (by omega) (by omega)]
    unfold fX6_minds_93 fX6_minds_94
    rw [xl_e, xl_e, a1_e, li0, nI_or, Nat.or_zero]
    cases hf : f i
    · rw [if_neg (by simp), ← mk_f (f := yB f W b) (i := i) (by unfold yB; simp [hf])]
      exact ih n (i + 1) (by omega) (by omega)
    · rw [if_pos (by simp; omega)]
      cases hw : (W 1 i).testBit b
      · rw [if_neg (by decide), ← mk_f (f := yB f W b) (i := i) (by unfold yB; simp [hw])]
        exact ih n (i + 1) (by omega) (by omega)
      · rw [if_pos rfl, mk_t (by omega) (by unfold yB; simp [hf, hw])]
        exact ih n (i + 1) (by omega) (by omega)
theorem M_swayB_l {N0 : xm} {s : Nat} {R W : tR} {k2 : Int32 → xm → Option xm} {p : Nat} {f : Nat → Bool} : ∀ k n b N, nb R = b + k → k < n → MX N s R (swayB R f b W) → sameM N0 N s → ∃ N', fX6_minds_22 k2 (nI s) (nI p) (nI (mk f (nm R))) n (nI b) N = k2 (nI (p + 1)) N' ∧ MX N' s R (swayB R f (nb R) W) ∧ sameM N0 N' s := by
  intro k
  induction k with
  | zero =>
    intro n b N e hn h hs
    obtain ⟨n, rfl⟩ : ∃ k, n = k + 1 := ⟨n - 1, by omega⟩
    have h4 := h.2.1.1.2.2.2.1
    rw [fX6_minds_22, xc1 (by omega) (by omega), c1, h.2.2.1.2.2.2.1, ifle (by omega) (by omega), if_pos (by omega), a1_e, show nb R = b by omega]
    exact ⟨N, rfl, h, hs⟩
  | succ k ih =>
    intro n b N e hn h hs
    obtain ⟨n, rfl⟩ : ∃ k, n = k + 1 := ⟨n - 1, by omega⟩
    have h4 := h.2.1.1.2.2.2.1
    have h8 := h.2.1.1.2.1
    obtain ⟨N1, a1, a2, a3⟩ := M_sway_l (k2 := k2) (k22 := fun z0 z1 => fX6_minds_22 k2 (nI s) (nI p) (nI (mk f (nm R))) n z0 z1) (x2 := nI p) (b := b) (by omega) f h hs (nm R) xfuel 0 (by omega) (by show _ < 1000; omega)
    rw [fX6_minds_22, xc1 (by omega) (by omega), c1, h.2.2.1.2.2.2.1, ifle (by omega) (by omega), if_neg (by omega)]
    have a1 : fX6_minds_39 k2 (fun z0 z1 => fX6_minds_22 k2 (nI s) (nI p) (nI (mk f (nm R))) n z0 z1) (nI s) (nI p) (nI (mk f (nm R))) (nI b) N xfuel 0 0 = _ := a1
    rw [a1]
    exact ih n (b + 1) N1 (by omega) (by omega) a2 a3
theorem M_minds {N0 : xm} {s : Nat} {R W : tR} : ∀ k n p N, np R = p + k → k < n → MX N s R (mindS R p W) → sameM N0 N s → ∃ N', fX6_minds_2 (nI s) n (nI p) N = some N' ∧ MX N' s R (mindS R (np R) W) ∧ sameM N0 N' s := by
  intro k
  induction k with
  | zero =>
    intro n p N e hn h hs
    obtain ⟨n, rfl⟩ : ∃ k, n = k + 1 := ⟨n - 1, by omega⟩
    have h6 := h.2.1.1.1
    rw [fX6_minds_2, xc0 (by omega) (by omega), c0, h.2.2.1.1, ifle (by omega) (by omega), if_pos (by omega), show np R = p by omega]
    exact ⟨N, rfl, h, hs⟩
  | succ k ih =>
    intro n p N e hn h hs
    obtain ⟨n, rfl⟩ : ∃ k, n = k + 1 := ⟨n - 1, by omega⟩
    have h6 := h.2.1.1.1
    have h4 := h.2.1.1.2.2.2.1
    rw [fX6_minds_2, xc0 (by omega) (by omega), c0, h.2.2.1.1, ifle (by omega) (by omega), if_neg (by omega), M_there h (by omega), bind_e]
    obtain ⟨N', e1, e2, e3⟩ := M_swayB_l (k2 := fun z0 z1 => fX6_minds_2 (nI s) n z0 z1) (p := p) (f := inP R (mindS R p W) p) (W := mindS R p W) (nb R) xfuel 0 N (by omega) (by show _ < 1000; omega) h hs
    rw [show (0 : Int32) = nI 0 from rfl, e1]
    exact ih n (p + 1) N' (by omega) (by omega) e2 e3
theorem M_hour_l {N0 : xm} {s : Nat} {R W : tR} {st : Int32} {still : Nat} (hst : ∀ i, i < 8 → (nI i = st ↔ i = still)) (hh : W 4 0 < 1000000) : ∀ k n i N, nm R = i + k → k < n → MX N s R (moveK R W still i) → sameM N0 N s → ∃ N', fX6_hour_8 (nI s) st (nI (xend R)) n (nI i) N = some N' ∧ MX N' s R (hourS R W still) ∧ sameM N0 N' s := by
  intro k
  induction k with
  | zero =>
    intro n i N e hn h hs
    obtain ⟨n, rfl⟩ : ∃ k, n = k + 1 := ⟨n - 1, by omega⟩
    have hs4 := h.1
    have hm8 := h.2.1.1.2.1
    have h6 := h.2.1.1.1
    have h1 := h.2.1.2.1
    have e0 : moveK R W still (nm R) 4 0 = W 4 0 := by unfold moveK; rw [if_neg (by omega)]
    rw [show i = nm R by omega] at h ⊢
    rw [fX6_hour_8, xc0 (by omega) (by omega), c0, h.2.2.1.2.1, ifle (by omega) (by omega), if_pos (by omega), li25, li24, mul_e, add_e, xl_e, xchk_e (by omega) (by omega), xchk_e (by omega) (by omega), cl_e (by omega), h.2.2.2.1.2.2.2.2, e0, a1_e, xl_e, xchk_e (by omega) (by omega)]
    rw [show (up N 67 (25 * s + 24) (nI (W 4 0 + 1))).1 67 (25 * s + 24) = nI (W 4 0 + 1) by rw [up_at, if_pos ⟨rfl, rfl⟩], li8, rem_e (by omega) (by omega) (by omega), li0, ifeq (by omega) (by omega)]
    have hH := h.hour (x := W 4 0 + 1)
    have hS : sameM N0 (up N 67 (25 * s + 24) (nI (W 4 0 + 1))) s := hs.tr (sameM.slot (by omega) (by omega))
    unfold hourS
    by_cases q : (W 4 0 + 1) % 8 = 0
    · rw [if_pos q, if_pos q]
      unfold fX6_beds fX6_minds fX6_hour_125
      rw [xc0 (by omega) (by omega), c0, xl_e, hH.2.2.1.1, sub1_e (by omega)]
      obtain ⟨M1, a1, a2, a3⟩ := M_beds (N0 := N0) (np R - 1) xfuel _ _ (by omega) (by show _ < 1000; omega) hH hS
      rw [a1, bind_e]
      obtain ⟨M2, b1, b2, b3⟩ := M_minds (N0 := N0) (W := bedS R (np R - 1) (upW (moveK R W still (nm R)) 4 0 (W 4 0 + 1))) (np R) xfuel 0 M1 (by omega) (by show _ < 1000; omega) a2 a3
      have b1 : fX6_minds_2 (nI s) xfuel 0 M1 = some M2 := b1
      rw [b1, bind_e]
      exact ⟨M2, rfl, b2, b3⟩
    · rw [if_neg q, if_neg q]
      exact ⟨_, rfl, hH, hS⟩
  | succ k ih =>
    intro n i N e hn h hs
    obtain ⟨n, rfl⟩ : ∃ k, n = k + 1 := ⟨n - 1, by omega⟩
    have hs4 := h.1
    have hm8 := h.2.1.1.2.1
    have hx := xend_le h.2.1.1
    have e0 : moveK R W still i 0 i = W 0 i := by unfold moveK; rw [if_neg (by omega)]
    have hmi := h.2.2.2.2.1 i (by omega)
    rw [e0] at hmi
    have hmo := h.2.2.2.1.1 i (by omega)
    rw [e0] at hmo
    have hpc := M_pace h (i := i) (by omega)
    rw [e0] at hpc
    have hsl := stride_le h.2.1.1 (i := i) (by omega) (W 0 i)
    rw [fX6_hour_8, xc0 (by omega) (by omega), c0, h.2.2.1.2.1, ifle (by omega) (by omega), if_neg (by omega), li25, mul_e, add_e, xchk_e (by omega) (by omega), cl_e (by omega), hmo]
    have e48 : ∀ d v, W 0 i + d < 1000 → v = (if W 0 i + d ≤ xend R then W 0 i + d else xend R) → MX (up N 67 (25 * s + i) (nI v)) s R (moveK R W still (i + 1)) → ∃ N', fX6_hour_48 (fun z0 z1 => fX6_hour_8 (nI s) st (nI (xend R)) n z0 z1) (nI s) st (nI (xend R)) (nI i) (nI (W 0 i)) (nI d) N = some N' ∧ MX N' s R (hourS R W still) ∧ sameM N0 N' s := by
      intro d v hd hv hM
      unfold fX6_hour_48 fX6_hour_74
      rw [add_e, xl_e, ifle (by omega) (by omega), li25, mul_e, add_e, xchk_e (by omega) (by omega), xchk_e (by omega) (by omega), cl_e (by omega), xl_e, xl_e, a1_e]
      by_cases q : W 0 i + d ≤ xend R
      · rw [if_pos q] at hv ⊢
        rw [hv] at hM
        exact ih n (i + 1) _ (by omega) (by omega) hM (hs.tr (sameM.slot (by omega) (by omega)))
      · rw [if_neg q] at hv ⊢
        rw [hv] at hM
        exact ih n (i + 1) _ (by omega) (by omega) hM (hs.tr (sameM.slot (by omega) (by omega)))
    by_cases q : i = still
    · rw [if_pos ((hst i (by omega)).mpr q)]
      refine e48 0 (W 0 i) (by omega) (by rw [if_pos (by omega)]; rfl) ?_
      have h2 := h.mile (i := i) (x := W 0 i) (by omega) hmi
      rw [moveK_s, if_pos q]
      have e9 : upW (moveK R W still i) 0 i (W 0 i) = moveK R W still i := by
        funext a c
        rw [upW_e]
        by_cases z : a = 0 ∧ c = i
        · rw [if_pos z, z.1, z.2, e0]
        · rw [if_neg z]
      rw [e9] at h2
      exact h2
    · rw [if_neg (fun c => q ((hst i (by omega)).mp c)), hpc, bind_e]
      refine e48 _ (go1 R W i) (by omega) ?_ ?_
      · unfold go1
        split <;> split <;> omega
      · rw [moveK_s, if_neg q]
        exact h.mile (by omega) (go1_le R W i)
theorem M_hour {N : xm} {s : Nat} {R W : tR} {st : Int32} {still : Nat} (hst : ∀ i, i < 8 → (nI i = st ↔ i = still)) (hh : W 4 0 < 1000000) (h : MX N s R W) : ∃ N', fX6_hour (nI s) st N = some N' ∧ MX N' s R (hourS R W still) ∧ sameM N N' s := by
  unfold fX6_hour
  rw [M_end h.2.2.1 h.2.1.1, bind_e]
  exact M_hour_l hst hh (nm R) xfuel 0 N (by omega) (by have := h.2.1.1.2.1; show _ < 1000; omega) (by rw [moveK_0]; exact h) sameM.rf
