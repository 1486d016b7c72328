/-! THE CLASS: its road and its walks, against the spec -/
theorem mk_t {f : Nat → Bool} {i : Nat} (hi : i < 31) (h : f i = true) : nI (mk f i) ||| (1 <<< (nI i &&& 31)) = nI (mk f (i + 1)) := by
  have h2 : 2 ^ i < 2 ^ 31 := Nat.pow_lt_pow_right (by decide) hi
  rw [li1, shl_e (by omega) (by omega), Nat.one_mul, nI_or]
  congr 1
  show _ = mk f i + if f i = true then 2 ^ i else 0
  rw [if_pos h]
  apply Nat.eq_of_testBit_eq
  intro j
  rw [Nat.testBit_or, Nat.testBit_two_pow, Nat.add_comm]
  by_cases e : i = j
  · subst e
    rw [Nat.testBit_two_pow_add_eq, Nat.testBit_lt_two_pow (mk_lt f i)]
    simp
  · rcases Nat.lt_or_ge j i with q | q
    · rw [Nat.testBit_two_pow_add_gt q]; simp [e]
    · have l1 := mk_lt f i
      have l2 : 2 ^ (i + 1) ≤ 2 ^ j := Nat.pow_le_pow_right (by decide) (by omega)
      rw [Nat.pow_succ] at l2
      rw [Nat.testBit_lt_two_pow (show mk f i < 2 ^ j by omega), Nat.testBit_lt_two_pow (show 2 ^ i + mk f i < 2 ^ j by omega)]
      simp [e]
theorem mk_f {f : Nat → Bool} {i : Nat} (h : f i = false) : mk f (i + 1) = mk f i := by
  show mk f i + (if f i = true then 2 ^ i else 0) = _
  rw [h]; rfl
theorem cnt_t {f : Nat → Bool} {i : Nat} (h : f i = true) : cnt f (i + 1) = cnt f i + 1 := by
  show cnt f i + (if f i = true then 1 else 0) = _
  rw [h]; rfl
theorem cnt_f {f : Nat → Bool} {i : Nat} (h : f i = false) : cnt f (i + 1) = cnt f i := by
  show cnt f i + (if f i = true then 1 else 0) = _
  rw [h]; rfl
def isR (r : Nat) : Prop := r = 4 ∨ r = 13
def isW (w : Nat) : Prop := w = 22 ∨ w = 27 ∨ w = 33 ∨ w = 38
theorem isR_rd (b : Bool) : isR (rd b) := by
  cases b
  · exact Or.inl rfl
  · exact Or.inr rfl
def rdX (M : xm) (r : Nat) (R : tR) : Prop := M.1 r 0 = nI (np R) ∧ M.1 r 5 = nI (xend R) ∧ M.1 r 6 = nI (nm R) ∧ M.1 r 11 = nI (qu R) ∧ M.1 r 12 = nI (nb R) ∧
  (∀ p, p < np R → M.1 (r + 1) p = nI (R 1 p)) ∧ (∀ p, p < np R → M.1 (r + 2) p = nI (R 2 p)) ∧ (∀ p, p < np R → M.1 (r + 3) p = nI (R 3 p)) ∧ (∀ p, p < np R → M.1 (r + 4) p = nI (fm R p)) ∧
  (∀ i, i < nm R → M.1 (r + 5) i = nI (R 4 i)) ∧ (∀ i, i < nm R → M.1 (r + 6) i = nI (R 5 i)) ∧ (∀ i, i < nm R → M.1 (r + 7) i = nI (R 6 i)) ∧ (∀ k, k < 6 → M.1 (r + 8) k = nI (mk (fun i => decide (R 4 i = k)) (nm R)))
theorem rdX.same {M M' : xm} {r : Nat} {R : tR} (h : rdX M r R) (hs : ∀ a, r ≤ a → a ≤ r + 8 → M'.1 a = M.1 a) : rdX M' r R := by
  unfold rdX
  rw [hs r (by omega) (by omega), hs (r + 1) (by omega) (by omega), hs (r + 2) (by omega) (by omega), hs (r + 3) (by omega) (by omega), hs (r + 4) (by omega) (by omega), hs (r + 5) (by omega) (by omega), hs (r + 6) (by omega) (by omega), hs (r + 7) (by omega) (by omega), hs (r + 8) (by omega) (by omega)]
  exact h
def mdI (x : Nat) : Int32 := if x = 0 then -4 else nI (x - 1)
def encX (M : xm) (w : Nat) (W : tR) : Prop := (∀ i, i < 8 → M.1 (w + 1) i = nI (W 0 i)) ∧ (∀ b, b < 4 → M.1 (w + 2) b = nI (mk (fun i => (W 1 i).testBit b) 8)) ∧ (∀ b, b < 4 → M.1 (w + 3) b = nI (W 2 b)) ∧ (∀ b, b < 4 → M.1 (w + 4) b = mdI (W 3 b)) ∧ M.1 w 5 = nI (W 4 0)
/-- nothing but walk w has changed -/
def sameX (M M' : xm) (w : Nat) : Prop := M'.2 = M.2 ∧ ∀ a, (a < w ∨ w + 4 < a) → M'.1 a = M.1 a
theorem sameX.rf {M : xm} {w : Nat} : sameX M M w := ⟨rfl, fun _ _ => rfl⟩
theorem sameX.tr {M M' M'' : xm} {w : Nat} (h : sameX M M' w) (h2 : sameX M' M'' w) : sameX M M'' w := ⟨h2.1.trans h.1, fun a ha => (h2.2 a ha).trans (h.2 a ha)⟩
theorem sameX.up {M : xm} {w j i : Nat} {v : Int32} (hj : j ≤ 4) : sameX M (up M (w + j) i v) w := ⟨rfl, fun a ha => up_ne (by omega)⟩
/-- a walk of the class that is W, on a road that is R -/
def WX (M : xm) (w : Nat) (R W : tR) : Prop := isW w ∧ laidR R ∧ rdX M (rd (M.2 w)) R ∧ encX M w W ∧ okW R W
theorem WX.same {M M' : xm} {w : Nat} {R W W' : tR} (h : WX M w R W) (hs : sameX M M' w) (he : encX M' w W') (ho : okW R W') : WX M' w R W' := by
  refine ⟨h.1, h.2.1, ?_, he, ho⟩
  rw [hs.1]
  refine h.2.2.1.same (fun a h1 h2 => hs.2 a ?_)
  have := h.1
  unfold isW at this
  have h3 := isR_rd (M.2 w)
  unfold isR at h3
  omega
-- roads
theorem X_parishAt_l {M : xm} {r : Nat} {R : tR} {x : Nat} (h : rdX M r R) (hR : okR R) (hx : x < 2147483648) : ∀ p n, p < np R → p < n → fX1_parishAt_7 r (nI x) M n (nI p) = some (nI (pA R x p)) := by
  obtain ⟨h1, h2, h3, h4, h5, h6, h7, h8, h9, h10, h11, h12, h13⟩ := h
  have hn := hR.1
  intro p
  induction p with
  | zero =>
    intro n hp hn
    obtain ⟨n, rfl⟩ := Nat.exists_eq_add_of_lt hn
    rw [show 0 + n + 1 = n + 1 by omega, fX1_parishAt_7]
    rw [if_pos (by decide)]; rfl
  | succ p ih =>
    intro n hp hn2
    obtain ⟨n, rfl⟩ : ∃ k, n = k + 1 := ⟨n - 1, by omega⟩
    have hf := fm_le hR (p + 1) (by omega)
    rw [fX1_parishAt_7]
    simp (disch := omega) only [li0, ifle, xchk_e, cl_e, h9, iflt, m1_e, ih]
    rw [if_neg (by omega)]
    show _ = some (nI (if fm R (p + 1) ≤ x then p + 1 else pA R x p))
    by_cases q : fm R (p + 1) ≤ x
    · rw [if_pos q, if_neg (by omega)]
    · rw [if_neg q, if_pos (by omega)]
theorem X_parishAt {M : xm} {r : Nat} {R : tR} {x : Nat} (h : rdX M r R) (hR : laidR R) (hx : x < 2147483648) : fX1_parishAt r (nI x) M = some (nI (pAt R x)) := by
  have h0 := hR.2.1
  have h6 := hR.1.1
  unfold fX1_parishAt
  rw [xl_e, h.1, li1, sub_e h0]
  exact X_parishAt_l h hR.1 hx _ _ (by omega) (by show _ < 1000; omega)
theorem X_strideFrom {M : xm} {r : Nat} {R : tR} {x i : Nat} (h : rdX M r R) (hR : laidR R) (hx : x < 2147483648) (hi : i < nm R) : fX1_strideFrom r (nI x) (nI i) M = some (nI (stride R x i)) := by
  have hpa := X_parishAt h hR hx
  have hp := pAt_lt (R := R) x hR.2.1
  have hk := hR.1.2.2.2.2.2 i hi
  have hpp := hR.1.2.2.2.2.1 _ hp
  have hm := hR.1.2.1
  have hm6 := hR.1.1
  obtain ⟨h1, h2, h3, h4, h5, h6, h7, h8, h9, h10, h11, h12, h13⟩ := h
  unfold fX1_strideFrom fX1_strideFrom_65
  simp (disch := omega) only [hpa, bind_e, xchk_e, cl_e, h10, h11, h7, li1, li2, ifeq, div_e]
  unfold stride
  by_cases e1 : R 4 i = 1
  · simp only [e1, if_true]; rfl
  · by_cases e2 : R 4 i = 2
    · by_cases e3 : R 2 (pAt R x) = 1
      · simp [e2, e3]
      · simp [e2, e3]
    · simp [e1, e2]
theorem X_outspoken {M : xm} {r : Nat} {R : tR} (h : rdX M r R) : fX1_outspoken r M = some (nI (mk (fun i => decide (R 4 i = 3) || decide (R 4 i = 4) || decide (R 4 i = 5)) (nm R)) ^^^ (-1)) := by
  obtain ⟨h1, h2, h3, h4, h5, h6, h7, h8, h9, h10, h11, h12, h13⟩ := h
  unfold fX1_outspoken
  simp (disch := omega) only [li3, li4, li5, xchk_e, cl_e, h13, nI_or, mk_or]
-- walks: the readers
theorem X_parishOf {M : xm} {w : Nat} {R W : tR} (h : WX M w R W) {i : Nat} (hi : i < 8) : fX4_parishOf w (nI i) M = some (nI (pAt R (W 0 i))) := by
  obtain ⟨h1, hR, h3, he, ho⟩ := h
  have hm := ho.1 i hi
  have hx := xend_le hR.1
  have hpa := X_parishAt (x := W 0 i) h3 hR (by omega)
  unfold fX4_parishOf
  simp (disch := omega) only [xchk_e, cl_e, he.1, hpa, bind_e]
theorem X_thoseIn_l {M : xm} {w : Nat} {R W : tR} (h : WX M w R W) {a b : Nat} (ha : a < 1000) (hb : b < 1000) {f : Nat → Bool} (hf : ∀ i, i < nm R → f i = decide (a ≤ W 0 i ∧ W 0 i ≤ b)) : ∀ k n i, nm R = i + k → k < n → fX4_thoseIn_53 w (nI a) (nI b) M n (nI (mk f i)) (nI i) = some (nI (mk f (nm R))) := by
  obtain ⟨h1, hR, h3, he, ho⟩ := h
  have hx := xend_le hR.1
  have hm8 := hR.1.2.1
  have h6 := h3.2.2.1
  intro k
  induction k with
  | zero =>
    intro n i e hn
    obtain ⟨n, rfl⟩ : ∃ k, n = k + 1 := ⟨n - 1, by omega⟩
    rw [fX4_thoseIn_53, h6, ifle (by omega) (by omega), if_pos (by omega), show i = nm R by omega]
  | succ k ih =>
    intro n i e hn
    obtain ⟨n, rfl⟩ : ∃ k, n = k + 1 := ⟨n - 1, by omega⟩
    have hm := ho.1 i (by omega)
    rw [fX4_thoseIn_53, h6, ifle (by omega) (by omega), if_neg (by omega)]
    simp (disch := omega) only [xchk_e, cl_e, he.1, iflt, fX4_thoseIn_96, a1_e]
    by_cases q : a ≤ W 0 i
    · rw [if_neg (by omega)]
      by_cases q2 : W 0 i ≤ b
      · rw [if_neg (by omega), xl_e, mk_t (by omega) (by rw [hf i (by omega)]; simp [q, q2])]
        exact ih n (i + 1) (by omega) (by omega)
      · rw [if_pos (by omega), ← mk_f (f := f) (i := i) (by rw [hf i (by omega)]; simp [q2])]
        exact ih n (i + 1) (by omega) (by omega)
    · rw [if_pos (by omega), ← mk_f (f := f) (i := i) (by rw [hf i (by omega)]; simp [q])]
      exact ih n (i + 1) (by omega) (by omega)
theorem X_thoseIn {M : xm} {w : Nat} {R W : tR} (h : WX M w R W) {p : Nat} (hp : p < np R) : fX4_thoseIn w (nI p) M = some (nI (mk (inP R W p) (nm R))) := by
  obtain ⟨h1, hR, h3, he, ho⟩ := id h
  have hx := xend_le hR.1
  have hm8 := hR.1.2.1
  have h6 := hR.1.1
  have hf0 := fm_end hR.1 (p := p) (by omega)
  unfold fX4_thoseIn fX4_thoseIn_46
  simp (disch := omega) only [xchk_e, cl_e, h3.2.2.2.2.2.2.2.2.1, xl_e, h3.1, h3.2.1, a1_e, ifle]
  by_cases q : p + 1 < np R
  · have hf1 := fm_end hR.1 (p := p + 1) (by omega)
    have hf2 := fm_mono hR.1 (p + 1) p (by omega) (by omega)
    rw [if_neg (by omega)]
    rw [li1, sub_e (by omega)]
    refine X_thoseIn_l h (by omega) (by omega) (fun i hi => ?_) (nm R) _ 0 (by omega) (by show _ < 1000; omega)
    unfold inP
    rw [decide_eq_decide, pAt_iff hR.1 hR.2.1 hp]
    omega
  · rw [if_pos (by omega)]
    refine X_thoseIn_l h (by omega) (by omega) (fun i hi => ?_) (nm R) _ 0 (by omega) (by show _ < 1000; omega)
    unfold inP
    have := ho.1 i (by omega)
    rw [decide_eq_decide, pAt_iff hR.1 hR.2.1 hp]
    omega
theorem X_arrived_l {M : xm} {w : Nat} {R W : tR} (h : WX M w R W) {f : Nat → Bool} (hf : ∀ i, f i = decide (W 0 i = xend R)) : ∀ k n i, nm R = i + k → k < n → fX4_arrived_4 w M n (nI (cnt f i)) (nI i) = some (nI (cnt f (nm R))) := by
  obtain ⟨h1, hR, h3, he, ho⟩ := h
  have hx := xend_le hR.1
  have hm8 := hR.1.2.1
  have h6 := h3.2.2.1
  intro k
  induction k with
  | zero =>
    intro n i e hn
    obtain ⟨n, rfl⟩ : ∃ k, n = k + 1 := ⟨n - 1, by omega⟩
    rw [fX4_arrived_4, h6, ifle (by omega) (by omega), if_pos (by omega), show i = nm R by omega]
  | succ k ih =>
    intro n i e hn
    obtain ⟨n, rfl⟩ : ∃ k, n = k + 1 := ⟨n - 1, by omega⟩
    have hm := ho.1 i (by omega)
    rw [fX4_arrived_4, h6, ifle (by omega) (by omega), if_neg (by omega)]
    simp (disch := omega) only [xchk_e, cl_e, he.1, h3.2.1, ifeq, fX4_arrived_34, a1_e]
    by_cases q : W 0 i = xend R
    · rw [if_pos q, ← cnt_t (f := f) (i := i) (by rw [hf]; simp [q])]
      exact ih n (i + 1) (by omega) (by omega)
    · rw [if_neg q, ← cnt_f (f := f) (i := i) (by rw [hf]; simp [q])]
      exact ih n (i + 1) (by omega) (by omega)
theorem X_arrived {M : xm} {w : Nat} {R W : tR} (h : WX M w R W) : fX4_arrived w M = some (nI (cnt (fun i => decide (W 0 i = xend R)) (nm R))) :=
  X_arrived_l h (fun _ => rfl) (nm R) _ 0 (by omega) (by have := h.2.1.1.2.1; show _ < 1000; omega)
-- writing into a walk
theorem WX.mile {M : xm} {w : Nat} {R W : tR} (h : WX M w R W) {i x : Nat} (hi : i < 8) (hx : x ≤ xend R) : WX (up M (w + 1) i (nI x)) w R (upW W 0 i x) := by
  refine h.same (sameX.up (by omega)) ?_ (okW_mile h.2.2.2.2 hx)
  obtain ⟨e1, e2, e3, e4, e5⟩ := h.2.2.2.1
  refine ⟨fun j hj => ?_, fun b hb => ?_, fun b hb => ?_, fun b hb => ?_, ?_⟩
  · rw [up_at, upW_e]
    by_cases q : j = i
    · rw [if_pos ⟨rfl, q⟩, if_pos ⟨rfl, q⟩]
    · rw [if_neg (by omega), if_neg (by omega)]; exact e1 j hj
  · rw [up_at, if_neg (by omega), e2 b hb]
    rfl
  · rw [up_at, if_neg (by omega), e3 b hb, upW_n (by omega)]
  · rw [up_at, if_neg (by omega), e4 b hb, upW_n (by omega)]
  · rw [up_at, if_neg (by omega), e5, upW_n (by omega)]
theorem WX.hour {M : xm} {w : Nat} {R W : tR} (h : WX M w R W) {x : Nat} : WX (up M w 5 (nI x)) w R (upW W 4 0 x) := by
  refine h.same (sameX.up (j := 0) (by omega)) ?_ (okW_hour h.2.2.2.2)
  obtain ⟨e1, e2, e3, e4, e5⟩ := h.2.2.2.1
  refine ⟨fun j hj => ?_, fun b hb => ?_, fun b hb => ?_, fun b hb => ?_, ?_⟩
  · rw [up_at, if_neg (by omega), e1 j hj, upW_n (by omega)]
  · rw [up_at, if_neg (by omega), e2 b hb]
    rfl
  · rw [up_at, if_neg (by omega), e3 b hb, upW_n (by omega)]
  · rw [up_at, if_neg (by omega), e4 b hb, upW_n (by omega)]
  · rw [up_at, if_pos ⟨rfl, rfl⟩, upW_s]
theorem xor_bit (a b c : Nat) : (a ^^^ 2 ^ b).testBit c = if c = b then !a.testBit c else a.testBit c := by
  rw [Nat.testBit_xor, Nat.testBit_two_pow]
  by_cases q : b = c
  · subst q; simp
  · rw [if_neg (fun e => q e.symm)]; simp [q]
theorem WX.flip {M : xm} {w : Nat} {R W : tR} (h : WX M w R W) {i b : Nat} (hi : i < 8) (hb : b < 4) {v : Int32} (hv : v = nI (mk (fun j => (flipW W i b 1 j).testBit b) 8)) : WX (up M (w + 2) b v) w R (flipW W i b) := by
  refine h.same (sameX.up (by omega)) ?_ (okW_mind h.2.2.2.2 (xor_lt (h.2.2.2.2.2.1 i hi) hb))
  obtain ⟨e1, e2, e3, e4, e5⟩ := h.2.2.2.1
  refine ⟨fun j hj => ?_, fun c hc => ?_, fun c hc => ?_, fun c hc => ?_, ?_⟩
  · rw [up_at, if_neg (by omega), e1 j hj]; unfold flipW; rw [upW_n (by omega)]
  · rw [up_at]
    by_cases q : c = b
    · subst q
      rw [if_pos ⟨rfl, rfl⟩, hv]
    · rw [if_neg (by omega), e2 c hc]
      congr 1
      refine mk_cong (fun j hj => ?_)
      unfold flipW
      rw [upW_e]
      by_cases q2 : j = i
      · subst q2
        rw [if_pos ⟨rfl, rfl⟩, xor_bit, if_neg q]
      · rw [if_neg (by omega)]
  · rw [up_at, if_neg (by omega), e3 c hc]; unfold flipW; rw [upW_n (by omega)]
  · rw [up_at, if_neg (by omega), e4 c hc]; unfold flipW; rw [upW_n (by omega)]
  · rw [up_at, if_neg (by omega), e5]; unfold flipW; rw [upW_n (by omega)]
theorem WX.noflip {M : xm} {w : Nat} {R W : tR} (h : WX M w R W) {b : Nat} (hb : b < 4) {v : Int32} (hv : v = nI (mk (fun j => (W 1 j).testBit b) 8)) : WX (up M (w + 2) b v) w R W := by
  refine h.same (sameX.up (by omega)) ?_ h.2.2.2.2
  obtain ⟨e1, e2, e3, e4, e5⟩ := h.2.2.2.1
  refine ⟨fun j hj => ?_, fun c hc => ?_, fun c hc => ?_, fun c hc => ?_, ?_⟩
  · rw [up_at, if_neg (by omega), e1 j hj]
  · rw [up_at]
    by_cases q : c = b
    · subst q
      rw [if_pos ⟨rfl, rfl⟩, hv]
    · rw [if_neg (by omega), e2 c hc]
  · rw [up_at, if_neg (by omega), e3 c hc]
  · rw [up_at, if_neg (by omega), e4 c hc]
  · rw [up_at, if_neg (by omega), e5]
