/-! THE SPEC: a road R and a walk W as functions into Nat.
R 0 0 .. R 0 3: parishes, members, quorum, bills; R 1 p, R 2 p, R 3 p: miles, mud, beds; R 4 i, R 5 i, R 6 i: kind, pace, bills that he is for.
W 0 i: mile; W 1 i: mind; W 2 b: passed; W 3 b: made (0 none, else the parish + 1); W 4 0: hour. -/
abbrev tR : Type := Nat → Nat → Nat
def np (R : tR) : Nat := R 0 0
def nm (R : tR) : Nat := R 0 1
def qu (R : tR) : Nat := R 0 2
def nb (R : tR) : Nat := R 0 3
def fm (R : tR) : Nat → Nat
  | 0 => 0
  | p + 1 => fm R p + R 1 p
def xend (R : tR) : Nat := fm R (np R)
def okR (R : tR) : Prop := np R ≤ 6 ∧ nm R ≤ 8 ∧ (1 ≤ qu R ∧ qu R ≤ 8) ∧ (1 ≤ nb R ∧ nb R ≤ 4) ∧ (∀ p, p < np R → 1 ≤ R 1 p ∧ R 1 p ≤ 30 ∧ R 2 p ≤ 1 ∧ R 3 p ≤ 40) ∧ (∀ i, i < nm R → R 4 i ≤ 5 ∧ 1 ≤ R 5 i ∧ R 5 i ≤ 9 ∧ R 6 i ≤ 15)
def laidR (R : tR) : Prop := okR R ∧ 1 ≤ np R ∧ 1 ≤ nm R
def pA (R : tR) (x : Nat) : Nat → Nat
  | 0 => 0
  | p + 1 => if fm R (p + 1) ≤ x then p + 1 else pA R x p
def pAt (R : tR) (x : Nat) : Nat := pA R x (np R - 1)
def upW (W : tR) (k j x : Nat) : tR := fun a b => if a = k ∧ b = j then x else W a b
def inP (R W : tR) (p : Nat) : Nat → Bool := fun i => decide (pAt R (W 0 i) = p)
def stride (R : tR) (x i : Nat) : Nat := if R 4 i = 1 then 4 else if R 4 i = 2 ∧ R 2 (pAt R x) = 1 then R 5 i / 2 else R 5 i
def go1 (R W : tR) (i : Nat) : Nat := if W 0 i + stride R (W 0 i) i < xend R then W 0 i + stride R (W 0 i) i else xend R
/-- the first k members have gone on -/
def moveK (R W : tR) (still k : Nat) : tR := fun a b => if a = 0 ∧ b < k ∧ b ≠ still then go1 R W b else W a b
def bedI (R : tR) (p : Nat) (f : Nat → Bool) : Nat → Nat → tR → tR
  | 0, _, W => W
  | i + 1, m, W => if m = 0 then W else if f i then bedI R p f i (m - 1) (upW W 0 i (fm R p - 1)) else bedI R p f i m W
def bedS (R : tR) : Nat → tR → tR
  | 0, W => W
  | p + 1, W => bedS R p (bedI R (p + 1) (inP R W (p + 1)) (nm R) (cnt (inP R W (p + 1)) (nm R) - R 3 (p + 1)) W)
def flipW (W : tR) (i b : Nat) : tR := upW W 1 i (W 1 i ^^^ 2 ^ b)
def yB (f : Nat → Bool) (W : tR) (b : Nat) : Nat → Bool := fun i => f i && (W 1 i).testBit b
def nB (f : Nat → Bool) (W : tR) (b : Nat) : Nat → Bool := fun i => f i && !(W 1 i).testBit b
def swayS (R : tR) (f : Nat → Bool) (b : Nat) (W : tR) : tR :=
  if cnt (nB f W b) (nm R) < cnt (yB f W b) (nm R) then (if fst1 (nB f W b) (nm R) < nm R then flipW W (fst1 (nB f W b) (nm R)) b else W)
  else if cnt (yB f W b) (nm R) < cnt (nB f W b) (nm R) then (if fst1 (yB f W b) (nm R) < nm R then flipW W (fst1 (yB f W b) (nm R)) b else W)
  else W
def swayB (R : tR) (f : Nat → Bool) : Nat → tR → tR
  | 0, W => W
  | b + 1, W => swayS R f b (swayB R f b W)
def mindS (R : tR) : Nat → tR → tR
  | 0, W => W
  | p + 1, W => swayB R (inP R (mindS R p W) p) (nb R) (mindS R p W)
def hourS (R W : tR) (still : Nat) : tR := if (W 4 0 + 1) % 8 = 0 then mindS R (np R) (bedS R (np R - 1) (upW (moveK R W still (nm R)) 4 0 (W 4 0 + 1))) else upW (moveK R W still (nm R)) 4 0 (W 4 0 + 1)
-- voices
def lead (R : tR) (f : Nat → Bool) : Nat := fst1 (fun i => f i && decide (R 4 i ≠ 4)) (nm R)
def yV (R W : tR) (f : Nat → Bool) (p b more : Nat) : Nat → Bool := fun i => f i && (if R 4 i = 3 then decide (p % 2 = 0) else if R 4 i = 5 then false else if R 4 i = 4 then (if lead R f < nm R then (W 1 (lead R f)).testBit b else decide (0 < more)) else (W 1 i).testBit b)
def nV (R W : tR) (f : Nat → Bool) (p b : Nat) : Nat → Bool := fun i => f i && (if R 4 i = 3 then decide (¬ p % 2 = 0) else if R 4 i = 5 then false else if R 4 i = 4 then (if lead R f < nm R then !(W 1 (lead R f)).testBit b else false) else !(W 1 i).testBit b)
def yesS (R W : tR) (p b more : Nat) : Nat := more + cnt (yV R W (inP R W p) p b more) (nm R)
def noS (R W : tR) (p b : Nat) : Nat := cnt (nV R W (inP R W p) p b) (nm R)
def passS (R W : tR) (p b more : Nat) : Bool := decide (noS R W p b < yesS R W p b more ∧ qu R ≤ cnt (inP R W p) (nm R) + more)
def readS (R W : tR) (b : Nat) : tR := if passS R W (pAt R (W 0 0)) b 0 then upW (upW W 2 b (W 2 b ||| 2 ^ pAt R (W 0 0))) 3 b (if W 3 b = 0 then pAt R (W 0 0) + 1 else W 3 b) else W
def heldS (R W : tR) (b : Nat) : Bool := decide (W 2 b = 2 ^ np R - 1)
def okW (R W : tR) : Prop := (∀ i, i < 8 → W 0 i ≤ xend R) ∧ (∀ i, i < 8 → W 1 i < 16) ∧ (∀ b, b < 4 → W 2 b < 2 ^ np R) ∧ (∀ b, b < 4 → W 3 b ≤ np R ∧ (W 2 b = 0 ↔ W 3 b = 0))
-- facts
theorem upW_e (W : tR) (k j x a b : Nat) : upW W k j x a b = if a = k ∧ b = j then x else W a b := rfl
theorem upW_s (W : tR) (k j x : Nat) : upW W k j x k j = x := if_pos ⟨rfl, rfl⟩
theorem upW_n {W : tR} {k j x a b : Nat} (h : a ≠ k ∨ b ≠ j) : upW W k j x a b = W a b := if_neg (by omega)
theorem fm_le {R : tR} (h : okR R) : ∀ p, p ≤ np R → fm R p ≤ 30 * p
  | 0, _ => Nat.le_refl _
  | p + 1, q => by
    have := fm_le h p (by omega)
    have := (h.2.2.2.2.1 p (by omega)).2.1
    show fm R p + R 1 p ≤ _
    omega
theorem fm_mono {R : tR} (h : okR R) : ∀ q p, p ≤ q → q ≤ np R → fm R p + (q - p) ≤ fm R q
  | 0, p, h1, _ => by rw [show p = 0 by omega]; exact Nat.le_refl _
  | q + 1, p, h1, h2 => by
    rcases Nat.lt_or_ge p (q + 1) with c | c
    · have := fm_mono h q p (by omega) (by omega)
      have := (h.2.2.2.2.1 q (by omega)).1
      show _ ≤ fm R q + R 1 q
      omega
    · rw [show p = q + 1 by omega]; omega
theorem xend_le {R : tR} (h : okR R) : xend R ≤ 180 := by
  have h1 := fm_le h (np R) (Nat.le_refl _)
  have h2 := h.1
  unfold xend
  omega
theorem fm_end {R : tR} (h : okR R) {p : Nat} (hp : p ≤ np R) : fm R p ≤ xend R := by
  have := fm_mono h (np R) p hp (Nat.le_refl _)
  unfold xend
  omega
theorem pA_le (R : tR) (x : Nat) : ∀ n, pA R x n ≤ n
  | 0 => Nat.le_refl _
  | n + 1 => by
    have := pA_le R x n
    show (if fm R (n + 1) ≤ x then n + 1 else pA R x n) ≤ n + 1
    split <;> omega
theorem pAt_lt {R : tR} (x : Nat) (h : 1 ≤ np R) : pAt R x < np R := by
  have := pA_le R x (np R - 1)
  unfold pAt
  omega
theorem pA_at (R : tR) (x : Nat) : ∀ n, fm R (pA R x n) ≤ x
  | 0 => Nat.zero_le _
  | n + 1 => by
    show fm R (if fm R (n + 1) ≤ x then n + 1 else pA R x n) ≤ x
    split
    · assumption
    · exact pA_at R x n
theorem pA_up (R : tR) (x : Nat) : ∀ n p, pA R x n < p → p ≤ n → x < fm R p
  | 0, p, h1, h2 => by omega
  | n + 1, p, h1, h2 => by
    change (if fm R (n + 1) ≤ x then n + 1 else pA R x n) < p at h1
    split at h1
    · omega
    · rcases Nat.lt_or_ge p (n + 1) with c | c
      · exact pA_up R x n p h1 (by omega)
      · rw [show p = n + 1 by omega]; omega
theorem pAt_iff {R : tR} (h : okR R) (h1 : 1 ≤ np R) {x p : Nat} (hp : p < np R) : pAt R x = p ↔ fm R p ≤ x ∧ (p + 1 < np R → x < fm R (p + 1)) := by
  constructor
  · intro e
    subst e
    exact ⟨pA_at R x _, fun q => pA_up R x (np R - 1) _ (Nat.lt_succ_self _) (by show pAt R x + 1 ≤ np R - 1; omega)⟩
  · intro ⟨e1, e2⟩
    have a1 := pA_at R x (np R - 1)
    have a2 := pA_up R x (np R - 1)
    have a3 := pA_le R x (np R - 1)
    unfold pAt
    rcases Nat.lt_trichotomy (pA R x (np R - 1)) p with c | c | c
    · have := a2 p c (by omega)
      omega
    · exact c
    · have c2 := e2 (by omega)
      have c3 := fm_mono h (pA R x (np R - 1)) (p + 1) (by omega) (by omega)
      omega
theorem stride_le {R : tR} (h : okR R) {i : Nat} (hi : i < nm R) (x : Nat) : stride R x i ≤ 9 := by
  have := h.2.2.2.2.2 i hi
  unfold stride
  split
  · omega
  · split <;> omega
theorem go1_le (R W : tR) (i : Nat) : go1 R W i ≤ xend R := by
  unfold go1
  split <;> omega
theorem moveK_s (R W : tR) (still k : Nat) : moveK R W still (k + 1) = if k = still then moveK R W still k else upW (moveK R W still k) 0 k (go1 R W k) := by
  funext a b
  by_cases e : k = still
  · rw [if_pos e]
    unfold moveK
    by_cases c : a = 0 ∧ b < k ∧ b ≠ still
    · rw [if_pos c, if_pos (by omega)]
    · rw [if_neg c, if_neg (by omega)]
  · rw [if_neg e, upW_e]
    unfold moveK
    by_cases c : a = 0 ∧ b = k
    · rw [if_pos c, if_pos (by omega), c.2]
    · rw [if_neg c]
      by_cases c2 : a = 0 ∧ b < k ∧ b ≠ still
      · rw [if_pos c2, if_pos (by omega)]
      · rw [if_neg c2, if_neg (by omega)]
theorem moveK_0 (R W : tR) (still : Nat) : moveK R W still 0 = W := by
  funext a b
  unfold moveK
  rw [if_neg (by omega)]
theorem okW_mile {R W : tR} (h : okW R W) {i x : Nat} (hx : x ≤ xend R) : okW R (upW W 0 i x) := by
  refine ⟨fun j hj => ?_, fun j hj => ?_, fun b hb => ?_, fun b hb => ?_⟩
  · rw [upW_e]; split
    · exact hx
    · exact h.1 j hj
  · rw [upW_n (by omega)]; exact h.2.1 j hj
  · rw [upW_n (by omega)]; exact h.2.2.1 b hb
  · rw [upW_n (by omega), upW_n (by omega)]; exact h.2.2.2 b hb
theorem okW_hour {R W : tR} (h : okW R W) {x : Nat} : okW R (upW W 4 0 x) := by
  refine ⟨fun j hj => ?_, fun j hj => ?_, fun b hb => ?_, fun b hb => ?_⟩
  · rw [upW_n (by omega)]; exact h.1 j hj
  · rw [upW_n (by omega)]; exact h.2.1 j hj
  · rw [upW_n (by omega)]; exact h.2.2.1 b hb
  · rw [upW_n (by omega), upW_n (by omega)]; exact h.2.2.2 b hb
theorem okW_mind {R W : tR} (h : okW R W) {i x : Nat} (hx : x < 16) : okW R (upW W 1 i x) := by
  refine ⟨fun j hj => ?_, fun j hj => ?_, fun b hb => ?_, fun b hb => ?_⟩
  · rw [upW_n (by omega)]; exact h.1 j hj
  · rw [upW_e]; split
    · exact hx
    · exact h.2.1 j hj
  · rw [upW_n (by omega)]; exact h.2.2.1 b hb
  · rw [upW_n (by omega), upW_n (by omega)]; exact h.2.2.2 b hb
theorem okW_moveK {R W : tR} (h : okW R W) (still k : Nat) : okW R (moveK R W still k) := by
  refine ⟨fun j hj => ?_, fun j hj => ?_, fun b hb => ?_, fun b hb => ?_⟩ <;> unfold moveK
  · split
    · exact go1_le R W j
    · exact h.1 j hj
  · rw [if_neg (by omega)]; exact h.2.1 j hj
  · rw [if_neg (by omega)]; exact h.2.2.1 b hb
  · rw [if_neg (by omega), if_neg (by omega)]; exact h.2.2.2 b hb
theorem xor_lt {a b : Nat} (ha : a < 16) (hb : b < 4) : a ^^^ 2 ^ b < 16 := by
  have : 2 ^ b < 2 ^ 4 := Nat.pow_lt_pow_right (by decide) hb
  exact Nat.xor_lt_two_pow (n := 4) ha this
theorem okW_sway {R W : tR} (h : okW R W) (hR : okR R) (f : Nat → Bool) {b : Nat} (hb : b < 4) : okW R (swayS R f b W) := by
  have hf : ∀ i, i < nm R → okW R (flipW W i b) := fun i hi => okW_mind h (xor_lt (h.2.1 i (by have := hR.2.1; omega)) hb)
  unfold swayS
  split
  · split
    · exact hf _ (by assumption)
    · exact h
  · split
    · split
      · exact hf _ (by assumption)
      · exact h
    · exact h
theorem okW_swayB {R : tR} (hR : okR R) (f : Nat → Bool) : ∀ (b : Nat) (W : tR), b ≤ 4 → okW R W → okW R (swayB R f b W)
  | 0, _, _, h => h
  | b + 1, W, hb, h => okW_sway (okW_swayB hR f b W (by omega) h) hR f (by omega)
theorem okW_mindS {R : tR} (hR : okR R) : ∀ (p : Nat) (W : tR), okW R W → okW R (mindS R p W)
  | 0, _, h => h
  | p + 1, W, h => okW_swayB hR _ _ _ hR.2.2.2.1.2 (okW_mindS hR p W h)
theorem okW_bedI {R : tR} (hR : okR R) {p : Nat} (hp : p ≤ np R) (f : Nat → Bool) : ∀ (i m : Nat) (W : tR), okW R W → okW R (bedI R p f i m W)
  | 0, _, _, h => h
  | i + 1, m, W, h => by
    have := fm_end hR hp
    unfold bedI
    split
    · exact h
    · split
      · exact okW_bedI hR hp f i _ _ (okW_mile h (by omega))
      · exact okW_bedI hR hp f i _ _ h
theorem okW_bedS {R : tR} (hR : okR R) : ∀ (p : Nat) (W : tR), p < np R → okW R W → okW R (bedS R p W)
  | 0, _, _, h => h
  | p + 1, W, hp, h => okW_bedS hR p _ (by omega) (okW_bedI hR (by omega) _ _ _ _ h)
theorem okW_hourS {R W : tR} (hR : laidR R) (h : okW R W) (still : Nat) : okW R (hourS R W still) := by
  have h1 := okW_hour (x := W 4 0 + 1) (okW_moveK h still (nm R))
  unfold hourS
  split
  · exact okW_mindS hR.1 _ _ (okW_bedS hR.1 _ _ (by have := hR.2.1; omega) h1)
  · exact h1
theorem okW_readS {R W : tR} (hR : laidR R) (h : okW R W) (b : Nat) (hb : b < 4) : okW R (readS R W b) := by
  have hp := pAt_lt (R := R) (W 0 0) hR.2.1
  have h2 : 2 ^ pAt R (W 0 0) < 2 ^ np R := Nat.pow_lt_pow_right (by decide) hp
  unfold readS
  split
  · refine ⟨fun j hj => ?_, fun j hj => ?_, fun c hc => ?_, fun c hc => ?_⟩
    · rw [upW_n (by omega), upW_n (by omega)]; exact h.1 j hj
    · rw [upW_n (by omega), upW_n (by omega)]; exact h.2.1 j hj
    · rw [upW_n (by omega), upW_e]; split
      · exact Nat.or_lt_two_pow (h.2.2.1 b hb) h2
      · exact h.2.2.1 c hc
    · have e3 : ∀ v u, upW (upW W 2 b v) 3 b u 3 c = if c = b then u else W 3 c := by
        intro v u
        rw [upW_e, upW_n (by omega)]
        by_cases e : c = b
        · rw [if_pos ⟨rfl, e⟩, if_pos e]
        · rw [if_neg (by omega), if_neg e]
      have e2 : ∀ v u, upW (upW W 2 b v) 3 b u 2 c = if c = b then v else W 2 c := by
        intro v u
        rw [upW_n (by omega), upW_e]
        by_cases e : c = b
        · rw [if_pos ⟨rfl, e⟩, if_pos e]
        · rw [if_neg (by omega), if_neg e]
      rw [e2, e3]
      by_cases e : c = b
      · subst e
        rw [if_pos rfl, if_pos rfl]
        have h3 := h.2.2.2 c hc
        refine ⟨by split <;> omega, ?_⟩
        have h4 : W 2 c ||| 2 ^ pAt R (W 0 0) ≠ 0 := by
          intro q
          have := Nat.two_pow_pos (pAt R (W 0 0))
          have q2 := (Nat.or_eq_zero_iff.mp q).2
          omega
        have h5 : (if W 3 c = 0 then pAt R (W 0 0) + 1 else W 3 c) ≠ 0 := by split <;> omega
        exact ⟨fun q => absurd q h4, fun q => absurd q h5⟩
      · rw [if_neg e, if_neg e]; exact h.2.2.2 c hc
  · exact h
