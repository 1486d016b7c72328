/-! THE PROMISE order: what is read changes neither miles nor minds; rows -/
def setP (V : tR) (P Q : Nat → Nat) : tR := fun a b => if a = 2 then P b else if a = 3 then Q b else V a b
theorem setP_self (V : tR) : setP V (V 2) (V 3) = V := by
  funext a b
  unfold setP
  by_cases h2 : a = 2
  · rw [if_pos h2, h2]
  · by_cases h3 : a = 3
    · rw [if_neg h2, if_pos h3, h3]
    · rw [if_neg h2, if_neg h3]
theorem setP_upW {V : tR} {P Q : Nat → Nat} {k j x : Nat} (h2 : k ≠ 2) (h3 : k ≠ 3) : upW (setP V P Q) k j x = setP (upW V k j x) P Q := by
  funext a b
  unfold upW setP
  by_cases c2 : a = 2
  · rw [if_neg (by omega), if_pos c2, if_pos c2]
  · by_cases c3 : a = 3
    · rw [if_neg (by omega), if_neg c2, if_pos c3, if_neg c2, if_pos c3]
    · simp only [if_neg c2, if_neg c3]
theorem setP_move (R V : tR) (P Q : Nat → Nat) (st k : Nat) : moveK R (setP V P Q) st k = setP (moveK R V st k) P Q := by
  funext a b
  have e : go1 R (setP V P Q) b = go1 R V b := rfl
  unfold moveK
  rw [e]
  unfold setP
  by_cases c2 : a = 2
  · rw [if_neg (by omega), if_pos c2, if_pos c2]
  · by_cases c3 : a = 3
    · rw [if_neg (by omega), if_neg c2, if_pos c3, if_neg c2, if_pos c3]
    · simp only [if_neg c2, if_neg c3]
theorem setP_bedI (R : tR) (p : Nat) (f : Nat → Bool) (P Q : Nat → Nat) : ∀ i m V, bedI R p f i m (setP V P Q) = setP (bedI R p f i m V) P Q
  | 0, _, _ => rfl
  | i + 1, m, V => by
    show (if m = 0 then setP V P Q else if f i then bedI R p f i (m - 1) (upW (setP V P Q) 0 i (fm R p - 1)) else bedI R p f i m (setP V P Q)) = setP (if m = 0 then V else if f i then bedI R p f i (m - 1) (upW V 0 i (fm R p - 1)) else bedI R p f i m V) P Q
    rw [setP_upW (by decide) (by decide), setP_bedI R p f P Q i, setP_bedI R p f P Q i]
    by_cases c : m = 0
    · rw [if_pos c, if_pos c]
    · rw [if_neg c, if_neg c]
      cases f i <;> rfl
theorem setP_bedS (R : tR) (P Q : Nat → Nat) : ∀ p V, bedS R p (setP V P Q) = setP (bedS R p V) P Q
  | 0, _ => rfl
  | p + 1, V => by
    show bedS R p (bedI R (p + 1) (inP R V (p + 1)) (nm R) (cnt (inP R V (p + 1)) (nm R) - R 3 (p + 1)) (setP V P Q)) = _
    rw [setP_bedI, setP_bedS R P Q p]
    rfl
theorem setP_sway (R V : tR) (P Q : Nat → Nat) (f : Nat → Bool) (b : Nat) : swayS R f b (setP V P Q) = setP (swayS R f b V) P Q := by
  have e1 : ∀ i, flipW (setP V P Q) i b = setP (flipW V i b) P Q := fun i => setP_upW (by decide) (by decide)
  have e2 : nB f (setP V P Q) b = nB f V b := rfl
  have e3 : yB f (setP V P Q) b = yB f V b := rfl
  unfold swayS
  rw [e2, e3]
  by_cases c1 : cnt (nB f V b) (nm R) < cnt (yB f V b) (nm R)
  · simp only [if_pos c1]
    by_cases d : fst1 (nB f V b) (nm R) < nm R
    · simp only [if_pos d]; exact e1 _
    · simp only [if_neg d]
  · simp only [if_neg c1]
    by_cases c2 : cnt (yB f V b) (nm R) < cnt (nB f V b) (nm R)
    · simp only [if_pos c2]
      by_cases d : fst1 (yB f V b) (nm R) < nm R
      · simp only [if_pos d]; exact e1 _
      · simp only [if_neg d]
    · simp only [if_neg c2]
theorem setP_swayB (R : tR) (P Q : Nat → Nat) (f : Nat → Bool) : ∀ b V, swayB R f b (setP V P Q) = setP (swayB R f b V) P Q
  | 0, _ => rfl
  | b + 1, V => by
    show swayS R f b (swayB R f b (setP V P Q)) = _
    rw [setP_swayB R P Q f b, setP_sway]
    rfl
theorem setP_mind (R : tR) (P Q : Nat → Nat) : ∀ p V, mindS R p (setP V P Q) = setP (mindS R p V) P Q
  | 0, _ => rfl
  | p + 1, V => by
    show swayB R (inP R (mindS R p (setP V P Q)) p) (nb R) (mindS R p (setP V P Q)) = _
    rw [setP_mind R P Q p, setP_swayB]
    rfl
theorem setP_hour (R V : tR) (P Q : Nat → Nat) (st : Nat) : hourS R (setP V P Q) st = setP (hourS R V st) P Q := by
  have e : setP V P Q 4 0 = V 4 0 := rfl
  unfold hourS
  rw [e, setP_move, setP_upW (by decide) (by decide), setP_bedS, setP_mind]
  by_cases c : (V 4 0 + 1) % 8 = 0
  · simp only [if_pos c]
  · simp only [if_neg c]
theorem setP_pass (R V : tR) (P Q : Nat → Nat) (p b m : Nat) : passS R (setP V P Q) p b m = passS R V p b m := rfl
theorem setP_read (R V : tR) (P Q : Nat → Nat) (b : Nat) : ∃ Q', readS R (setP V P Q) b = setP V (fun c => if passS R V (pAt R (V 0 0)) b 0 = true ∧ c = b then P b ||| 2 ^ pAt R (V 0 0) else P c) Q' := by
  have e : readS R (setP V P Q) b = if passS R V (pAt R (V 0 0)) b 0 then upW (upW (setP V P Q) 2 b (P b ||| 2 ^ pAt R (V 0 0))) 3 b (if Q b = 0 then pAt R (V 0 0) + 1 else Q b) else setP V P Q := rfl
  rw [e]
  cases q : passS R V (pAt R (V 0 0)) b 0
  · refine ⟨Q, ?_⟩
    rw [if_neg (by decide), show (fun c => if (false : Bool) = true ∧ c = b then P b ||| 2 ^ pAt R (V 0 0) else P c) = P from funext (fun c => if_neg (by simp))]
  · refine ⟨fun c => if c = b then (if Q b = 0 then pAt R (V 0 0) + 1 else Q b) else Q c, ?_⟩
    rw [if_pos rfl]
    funext x c
    unfold upW setP
    by_cases c3 : x = 3
    · subst c3
      by_cases d : c = b
      · simp [d]
      · simp [d]
    · by_cases c2 : x = 2
      · subst c2
        by_cases d : c = b
        · simp [d]
        · simp [d]
      · simp [c2, c3]
def rpO (R W : tR) (k : Nat) : Nat := pAt R (hoursS R k W 0 0)
def rdO (R W : tR) (k b : Nat) : Bool := passS R (hoursS R k W) (rpO R W k) b 0
/-- the parishes in which b passes when it is read at the first k readings whose turn is t -/
def psO (R W : tR) (B b t : Nat) : Nat → Nat
  | 0 => W 2 b
  | k + 1 => if k % B = t ∧ rdO R W k b = true then psO R W B b t k ||| 2 ^ rpO R W k else psO R W B b t k
/-- the parishes in which b has passed behind k readings of the row r -/
def rsO (R W : tR) (r : Nat → Nat) (B : Nat) : Nat → Nat → Nat
  | 0, b => W 2 b
  | k + 1, b => if rdO R W k (r (k % B)) = true ∧ b = r (k % B) then rsO R W r B k (r (k % B)) ||| 2 ^ rpO R W k else rsO R W r B k b
theorem rs_ps {R W : tR} {r : Nat → Nat} {B t : Nat} (hB : 1 ≤ B) (ht : t < B) (hr : ∀ t, t < B → ∀ s, s < B → r t = r s → t = s) : ∀ k, rsO R W r B k (r t) = psO R W B (r t) t k
  | 0 => rfl
  | k + 1 => by
    have hm := Nat.mod_lt k (show B > 0 by omega)
    show (if rdO R W k (r (k % B)) = true ∧ r t = r (k % B) then rsO R W r B k (r (k % B)) ||| 2 ^ rpO R W k else rsO R W r B k (r t)) = if k % B = t ∧ rdO R W k (r t) = true then psO R W B (r t) t k ||| 2 ^ rpO R W k else psO R W B (r t) t k
    rw [rs_ps hB ht hr k]
    by_cases c : k % B = t
    · subst c
      rw [rs_ps hB ht hr k]
      cases q : rdO R W k (r (k % B)) <;> simp
    · rw [if_neg (fun h => c (hr _ hm _ ht h.2.symm)), if_neg (fun h => c h.1)]
def rowD (x B t : Nat) : Nat := x / 2 ^ (2 * (B - 1 - t)) % 4
def seenN (x B : Nat) : Nat → Nat
  | 0 => 0
  | k + 1 => seenN x B k ||| 2 ^ rowD x B k
def okRow (B x : Nat) : Bool := decide (x < 2 ^ (2 * B)) && decide (seenN x B B = 2 ^ B - 1)
def inj1 (B x : Nat) : Bool := decide (∀ t, t < B → rowD x B t < B)
def inj2 (B x : Nat) : Bool := decide (∀ t, t < B → ∀ s, s < B → (¬ rowD x B t = rowD x B s ∨ t = s))
def inj3 (B x : Nat) : Bool := decide (∀ m, m < 16 → cnt (fun t => m.testBit (rowD x B t)) B = cnt m.testBit B)
theorem perm_allb : ∀ B, B < 5 → ∀ x, x < 256 → (!okRow B x || (inj1 B x && inj2 B x && inj3 B x)) = true := by decide +kernel
theorem perm_all (B : Nat) (hB : B < 5) (x : Nat) (hx : x < 256) (h : okRow B x = true) : (∀ t, t < B → rowD x B t < B) ∧ (∀ t, t < B → ∀ s, s < B → rowD x B t = rowD x B s → t = s) ∧ (∀ m, m < 16 → cnt (fun t => m.testBit (rowD x B t)) B = cnt m.testBit B) := by
  have := perm_allb B hB x hx
  rw [h] at this
  simp only [Bool.not_true, Bool.false_or, Bool.and_eq_true] at this
  obtain ⟨⟨a1, a2⟩, a3⟩ := this
  exact ⟨of_decide_eq_true a1, fun t ht s hs e => (of_decide_eq_true a2 t ht s hs).elim (fun q => absurd e q) id, of_decide_eq_true a3⟩
theorem some_all : ∀ B, B < 5 → 1 ≤ B → ∃ x, x < 2 ^ (2 * B) ∧ okRow B x = true := by
  intro B h1 h2
  have hb : B = 1 ∨ B = 2 ∨ B = 3 ∨ B = 4 := by omega
  rcases hb with rfl | rfl | rfl | rfl
  · exact ⟨0, by decide +kernel⟩
  · exact ⟨1, by decide +kernel⟩
  · exact ⟨6, by decide +kernel⟩
  · exact ⟨27, by decide +kernel⟩
theorem cnt_perm {B x : Nat} (hB : B < 5) (hx : x < 256) (h : okRow B x = true) (g : Nat → Bool) : cnt (fun t => g (rowD x B t)) B = cnt g B := by
  obtain ⟨h1, h2, h3⟩ := perm_all B hB x hx h
  have h4 := h3 (mk g 4) (mk_lt g 4)
  rw [cnt_cong (f := fun t => (mk g 4).testBit (rowD x B t)) (g := fun t => g (rowD x B t)) (fun t ht => by rw [mk_bit]; have := h1 t ht; simp; omega), cnt_cong (f := (mk g 4).testBit) (g := g) (fun t ht => by rw [mk_bit]; simp; omega)] at h4
  exact h4
theorem seen_lt (x B : Nat) : ∀ k, seenN x B k < 16
  | 0 => by show 0 < 16; omega
  | k + 1 => by
    have h1 := seen_lt x B k
    have h2 : 2 ^ rowD x B k < 2 ^ 4 := Nat.pow_lt_pow_right (by decide) (Nat.mod_lt _ (by decide))
    exact Nat.or_lt_two_pow (n := 4) h1 h2
theorem pow_lt_all {x B : Nat} (h : B ≤ 4) (hx : x < 2 ^ (2 * B)) : x < 256 := by
  have : 2 ^ (2 * B) ≤ 2 ^ 8 := Nat.pow_le_pow_right (by decide) (by omega)
  omega
/-- how many bills hold by the row x -/
def hoO (R W : tR) (B x : Nat) : Nat := cnt (fun t => decide (psO R W B (rowD x B t) t 201 = 2 ^ np R - 1)) B
def moO (R W : tR) (B : Nat) : Nat → Nat
  | 0 => 0
  | x + 1 => if okRow B x = true ∧ ¬ hoO R W B x + 1 ≤ moO R W B x then hoO R W B x + 1 else moO R W B x
def beO (R W : tR) (B : Nat) : Nat → Nat
  | 0 => 0
  | x + 1 => if okRow B x = true ∧ ¬ hoO R W B x + 1 ≤ moO R W B x then x else beO R W B x
theorem ho_le (R W : tR) (B x : Nat) : hoO R W B x ≤ B := cnt_le _ _
theorem mo_le (R W : tR) (B : Nat) : ∀ x, moO R W B x ≤ B + 1
  | 0 => Nat.zero_le _
  | x + 1 => by
    have h1 := ho_le R W B x
    have h2 := mo_le R W B x
    show (if okRow B x = true ∧ ¬ hoO R W B x + 1 ≤ moO R W B x then hoO R W B x + 1 else moO R W B x) ≤ _
    split <;> omega
theorem mo_pos {R W : tR} {B x : Nat} (h : okRow B x = true) : ∀ k, moO R W B (x + 1 + k) ≠ 0
  | 0 => by
    show (if okRow B x = true ∧ ¬ hoO R W B x + 1 ≤ moO R W B x then hoO R W B x + 1 else moO R W B x) ≠ 0
    by_cases c : hoO R W B x + 1 ≤ moO R W B x
    · rw [if_neg (fun q => q.2 c)]; omega
    · rw [if_pos ⟨h, c⟩]; omega
  | k + 1 => by
    have := mo_pos (R := R) (W := W) h k
    show (if okRow B (x + 1 + k) = true ∧ ¬ hoO R W B (x + 1 + k) + 1 ≤ moO R W B (x + 1 + k) then hoO R W B (x + 1 + k) + 1 else moO R W B (x + 1 + k)) ≠ 0
    split <;> omega
theorem mo_more (R W : tR) (B : Nat) : ∀ k, moO R W B (2 ^ (2 * B) + k) = moO R W B (2 ^ (2 * B)) ∧ beO R W B (2 ^ (2 * B) + k) = beO R W B (2 ^ (2 * B))
  | 0 => ⟨rfl, rfl⟩
  | k + 1 => by
    have hn : okRow B (2 ^ (2 * B) + k) = false := by unfold okRow; rw [show decide (2 ^ (2 * B) + k < 2 ^ (2 * B)) = false by simp]; rfl
    obtain ⟨h1, h2⟩ := mo_more R W B k
    constructor
    · show (if okRow B (2 ^ (2 * B) + k) = true ∧ _ then _ else moO R W B (2 ^ (2 * B) + k)) = _
      rw [if_neg (by rw [hn]; simp)]; exact h1
    · show (if okRow B (2 ^ (2 * B) + k) = true ∧ _ then _ else beO R W B (2 ^ (2 * B) + k)) = _
      rw [if_neg (by rw [hn]; simp)]; exact h2
theorem ps_lt {R W : tR} (hW : okW R W) (hR : laidR R) {B b t : Nat} (hb : b < 4) : ∀ k, psO R W B b t k < 2 ^ np R
  | 0 => hW.2.2.1 b hb
  | k + 1 => by
    have h1 := ps_lt hW hR (B := B) (t := t) hb k
    have h2 := pAt_lt (R := R) (hoursS R k W 0 0) hR.2.1
    show (if _ then _ else _) < _
    split
    · exact Nat.or_lt_two_pow h1 (Nat.pow_lt_pow_right (by decide) h2)
    · exact h1
