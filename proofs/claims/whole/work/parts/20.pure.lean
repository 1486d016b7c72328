/-! PURE: the memory's updates, numbers, sets as functions Nat → Bool -/
theorem up_at (M : xm) (k j : Nat) (v : Int32) (a b : Nat) : (up M k j v).1 a b = if a = k ∧ b = j then v else M.1 a b := by
  show (if a = k then upd (M.1 k) j v else M.1 a) b = _
  by_cases h : a = k
  · subst h
    simp [upd]
  · simp [h]
theorem up_2 (M : xm) (k j : Nat) (v : Int32) : (up M k j v).2 = M.2 := rfl
theorem upr_1 (M : xm) (k : Nat) (b : Bool) : (upr M k b).1 = M.1 := rfl
theorem upr_2 (M : xm) (k : Nat) (b : Bool) (a : Nat) : (upr M k b).2 a = if a = k then b else M.2 a := rfl
theorem xl_e {α β : Type} (v : α) (k : α → β) : xl v k = k v := rfl
theorem bind_e {α β : Type} (x : α) (k : α → Option β) : (some x).bind k = k x := rfl
theorem xchk_e {ρ : Type} {k n : Nat} {o : Option ρ} (h : k < n) (hn : n < 5000) : xchk (nI k) n o = o := by
  unfold xchk
  rw [if_neg (nI_in h (by omega))]
theorem cl_e {k : Nat} (h : k < 2147483648) : (nI k).toNatClampNeg = k := nI_clamp h
theorem ifle {α : Sort _} {a b : Nat} {x y : α} (ha : a < 2147483648) (hb : b < 2147483648) : (if nI a ≤ nI b then x else y) = if a ≤ b then x else y := by
  by_cases h : a ≤ b
  · rw [if_pos h, if_pos ((nI_leI ha hb).mpr h)]
  · rw [if_neg h, if_neg (fun q => h ((nI_leI ha hb).mp q))]
theorem iflt {α : Sort _} {a b : Nat} {x y : α} (ha : a < 2147483648) (hb : b < 2147483648) : (if nI a < nI b then x else y) = if a < b then x else y := by
  by_cases h : a < b
  · rw [if_pos h, if_pos ((nI_ltI ha hb).mpr h)]
  · rw [if_neg h, if_neg (fun q => h ((nI_ltI ha hb).mp q))]
theorem ifeq {α : Sort _} {a b : Nat} {x y : α} (ha : a < 2147483648) (hb : b < 2147483648) : (if nI a = nI b then x else y) = if a = b then x else y := by
  by_cases h : a = b
  · rw [if_pos h, if_pos ((nI_eq ha hb).mpr h)]
  · rw [if_neg h, if_neg (fun q => h ((nI_eq ha hb).mp q))]
-- numerals that the code has
theorem li0 : (0 : Int32) = nI 0 := rfl
theorem li1 : (1 : Int32) = nI 1 := rfl
theorem li2 : (2 : Int32) = nI 2 := rfl
theorem li3 : (3 : Int32) = nI 3 := rfl
theorem li4 : (4 : Int32) = nI 4 := rfl
theorem li5 : (5 : Int32) = nI 5 := rfl
theorem li6 : (6 : Int32) = nI 6 := rfl
theorem li8 : (8 : Int32) = nI 8 := rfl
theorem li9 : (9 : Int32) = nI 9 := rfl
theorem li10 : (10 : Int32) = nI 10 := rfl
theorem m1_e (n : Nat) : nI (n + 1) + (-1) = nI n := pk_m1 n
theorem s1_e (n : Nat) : nI (n + 1) - 1 = nI n := nI_pred n
theorem add_e (a b : Nat) : nI a + nI b = nI (a + b) := nI_add a b
theorem a1_e (a : Nat) : nI a + 1 = nI (a + 1) := nI_1 a
theorem sub_e {a b : Nat} (h : b ≤ a) : nI a - nI b = nI (a - b) := pk_sub h
theorem mul_e (a b : Nat) : nI a * nI b = nI (a * b) := pk_mul a b
theorem div_e {a d : Nat} (ha : a < 2147483648) (h0 : 0 < d) (hd : d < 2147483648) : nI a / nI d = nI (a / d) := pk_div ha h0 hd
theorem rem_e {a d : Nat} (ha : a < 2147483648) (h0 : 0 < d) (hd : d < 2147483648) : nI a - nI a / nI d * nI d = nI (a % d) := pk_rem ha h0 hd
theorem mod_31 : ∀ k, k < 32 → (((nI k) &&& 31).toBitVec.smod 32).toNat = k := by decide +kernel
theorem shl_e {n k : Nat} (hk : k < 32) (h : n * 2 ^ k < 4294967296) : nI n <<< (nI k &&& 31) = nI (n * 2 ^ k) := pk_shlN _ k (mod_31 k hk) h
theorem shr_e {n k : Nat} (hk : k < 32) (h : n < 2147483648) : nI n >>> (nI k &&& 31) = nI (n / 2 ^ k) := pk_shrN h _ k (mod_31 k hk)
theorem nI_bv (n : Nat) : (nI n).toBitVec = BitVec.ofNat 32 n := rfl
theorem nI_and (a b : Nat) : nI a &&& nI b = nI (a &&& b) := by
  apply Int32.toBitVec_inj.mp
  apply BitVec.eq_of_getLsbD_eq
  intro i hi
  rw [Int32.toBitVec_and, nI_bv, nI_bv, nI_bv]
  simp [hi]
theorem nI_or (a b : Nat) : nI a ||| nI b = nI (a ||| b) := by
  apply Int32.toBitVec_inj.mp
  apply BitVec.eq_of_getLsbD_eq
  intro i hi
  rw [Int32.toBitVec_or, nI_bv, nI_bv, nI_bv]
  simp [hi]
theorem nI_xor (a b : Nat) : nI a ^^^ nI b = nI (a ^^^ b) := by
  apply Int32.toBitVec_inj.mp
  apply BitVec.eq_of_getLsbD_eq
  intro i hi
  rw [Int32.toBitVec_xor, nI_bv, nI_bv, nI_bv]
  simp [hi]
theorem bit_e {n k : Nat} (hk : k < 32) (h : n < 2147483648) : (nI n >>> (nI k &&& 31)) &&& 1 = nI (if n.testBit k then 1 else 0) := by
  rw [shr_e hk h, li1, nI_and, Nat.and_one_is_mod]
  congr 1
  rw [Nat.testBit_eq_decide_div_mod_eq]
  by_cases q : n / 2 ^ k % 2 = 1
  · simp [q]
  · simp [q]; omega
theorem bit1 {α : Sort _} {n k : Nat} {x y : α} (hk : k < 32) (h : n < 2147483648) : (if (nI n >>> (nI k &&& 31)) &&& 1 = 1 then x else y) = if n.testBit k then x else y := by
  rw [bit_e hk h]
  cases n.testBit k
  · rw [if_neg (by decide), if_neg (by decide)]
  · rw [if_pos (by decide), if_pos rfl]
theorem bit0 {α : Sort _} {n k : Nat} {x y : α} (hk : k < 32) (h : n < 2147483648) : (if (nI n >>> (nI k &&& 31)) &&& 1 = 0 then x else y) = if n.testBit k then y else x := by
  rw [bit_e hk h]
  cases n.testBit k
  · rw [if_pos (by decide), if_neg (by decide)]
  · rw [if_neg (by decide), if_pos rfl]
-- sets
/-- the set of those below n that f holds of, as bits -/
def mk (f : Nat → Bool) : Nat → Nat
  | 0 => 0
  | n + 1 => mk f n + if f n then 2 ^ n else 0
def cnt (f : Nat → Bool) : Nat → Nat
  | 0 => 0
  | n + 1 => cnt f n + if f n then 1 else 0
/-- the first below n that f holds of, n without -/
def fst1 (f : Nat → Bool) : Nat → Nat
  | 0 => 0
  | n + 1 => if fst1 f n < n then fst1 f n else if f n then n else n + 1
theorem mk_lt (f : Nat → Bool) : ∀ n, mk f n < 2 ^ n
  | 0 => Nat.zero_lt_one
  | n + 1 => by
    have := mk_lt f n
    have e : 2 ^ (n + 1) = 2 ^ n + 2 ^ n := by rw [Nat.pow_succ]; omega
    show mk f n + _ < _
    split <;> omega
theorem mk_bit (f : Nat → Bool) (i : Nat) : ∀ n, (mk f n).testBit i = (decide (i < n) && f i)
  | 0 => by simp [mk]
  | n + 1 => by
    have ih := mk_bit f i n
    have hl := mk_lt f n
    show (mk f n + if f n then 2 ^ n else 0).testBit i = _
    by_cases h : f n = true
    · rw [if_pos h, Nat.add_comm]
      by_cases e : i = n
      · subst e
        rw [Nat.testBit_two_pow_add_eq, Nat.testBit_lt_two_pow hl]
        simp [h]
      · rcases Nat.lt_or_ge i n with q | q
        · rw [Nat.testBit_two_pow_add_gt q, ih]
          simp [q, Nat.lt_succ_of_lt q]
        · have q2 : n < i := by omega
          have : (2 ^ n + mk f n).testBit i = false := Nat.testBit_lt_two_pow (by
            have : 2 ^ (n + 1) ≤ 2 ^ i := Nat.pow_le_pow_right (by decide) q2
            rw [Nat.pow_succ] at this
            omega)
          rw [this]
          simp; omega
    · rw [if_neg h, Nat.add_zero, ih]
      by_cases e : i = n
      · subst e; simp [h]
      · have : (i < n) = (i < n + 1) := by simp; omega
        simp [this]
theorem mk_cong {f g : Nat → Bool} : ∀ {n}, (∀ i, i < n → f i = g i) → mk f n = mk g n
  | 0, _ => rfl
  | n + 1, h => by
    show mk f n + _ = mk g n + _
    rw [mk_cong (fun i hi => h i (by omega)), h n (by omega)]
theorem cnt_cong {f g : Nat → Bool} : ∀ {n}, (∀ i, i < n → f i = g i) → cnt f n = cnt g n
  | 0, _ => rfl
  | n + 1, h => by
    show cnt f n + _ = cnt g n + _
    rw [cnt_cong (fun i hi => h i (by omega)), h n (by omega)]
theorem cnt_le (f : Nat → Bool) : ∀ n, cnt f n ≤ n
  | 0 => Nat.le_refl _
  | n + 1 => by
    have := cnt_le f n
    show cnt f n + _ ≤ _
    split <;> omega
theorem mk_ext {a n : Nat} (h : a < 2 ^ n) : a = mk a.testBit n := by
  apply Nat.eq_of_testBit_eq
  intro i
  rw [mk_bit]
  by_cases q : i < n
  · simp [q]
  · simp [q]
    exact Nat.testBit_lt_two_pow (Nat.lt_of_lt_of_le h (Nat.pow_le_pow_right (by decide) (by omega)))
theorem mk_and (f g : Nat → Bool) (n : Nat) : mk f n &&& mk g n = mk (fun i => f i && g i) n := by
  apply Nat.eq_of_testBit_eq
  intro i
  rw [Nat.testBit_and, mk_bit, mk_bit, mk_bit]
  cases decide (i < n) <;> simp
theorem mk_or (f g : Nat → Bool) (n : Nat) : mk f n ||| mk g n = mk (fun i => f i || g i) n := by
  apply Nat.eq_of_testBit_eq
  intro i
  rw [Nat.testBit_or, mk_bit, mk_bit, mk_bit]
  cases decide (i < n) <;> simp
theorem mk_more (f : Nat → Bool) {n m : Nat} (h : n ≤ m) (hf : ∀ i, n ≤ i → i < m → f i = false) : mk f m = mk f n := by
  apply Nat.eq_of_testBit_eq
  intro i
  rw [mk_bit, mk_bit]
  by_cases q : i < n
  · simp [q, Nat.lt_of_lt_of_le q h]
  · by_cases q2 : i < m
    · simp [q, hf i (by omega) q2]
    · simp [q, q2]
theorem cnt_more (f : Nat → Bool) {n : Nat} : ∀ {m}, n ≤ m → (∀ i, n ≤ i → i < m → f i = false) → cnt f m = cnt f n
  | 0, h, _ => by rw [show n = 0 by omega]
  | m + 1, h, hf => by
    rcases Nat.lt_or_ge n (m + 1) with q | q
    · show cnt f m + _ = _
      rw [hf m (by omega) (by omega), cnt_more f (m := m) (by omega) (fun i h1 h2 => hf i h1 (by omega))]
      rfl
    · rw [show n = m + 1 by omega]
/-- x without y: x & ~y -/
theorem nI_andn (a b : Nat) (h : a < 2147483648) : nI a &&& (nI b ^^^ (-1)) = nI (mk (fun i => a.testBit i && !b.testBit i) 31) := by
  apply Int32.toBitVec_inj.mp
  apply BitVec.eq_of_getLsbD_eq
  intro i hi
  have h1 : ((nI a &&& (nI b ^^^ (-1))).toBitVec).getLsbD i = (a.testBit i && !b.testBit i) := by
    have hm : (-1 : Int32).toBitVec = BitVec.allOnes 32 := by decide
    rw [Int32.toBitVec_and, Int32.toBitVec_xor, nI_bv, nI_bv, hm]
    simp only [BitVec.getLsbD_and, BitVec.getLsbD_xor, BitVec.getLsbD_ofNat, BitVec.getLsbD_allOnes, hi, decide_true, Bool.true_and, Bool.xor_true]
  rw [h1]
  have h2 : (nI (mk (fun i => a.testBit i && !b.testBit i) 31)).toBitVec.getLsbD i = (mk (fun i => a.testBit i && !b.testBit i) 31).testBit i := by
    rw [nI_bv]
    simp only [BitVec.getLsbD_ofNat, hi, decide_true, Bool.true_and]
  rw [h2, mk_bit]
  by_cases q : i < 31
  · simp [q]
  · have e : i = 31 := by omega
    subst e
    simp [Nat.testBit_lt_two_pow (show a < 2 ^ 31 by omega)]
theorem andn_mk (f g : Nat → Bool) {n : Nat} (hn : n ≤ 31) : nI (mk f n) &&& (nI (mk g n) ^^^ (-1)) = nI (mk (fun i => f i && !g i) n) := by
  have hl : mk f n < 2147483648 := Nat.lt_of_lt_of_le (mk_lt f n) (Nat.pow_le_pow_right (by decide) hn)
  rw [nI_andn _ _ hl]
  congr 1
  apply Nat.eq_of_testBit_eq
  intro i
  rw [mk_bit, mk_bit, mk_bit, mk_bit]
  by_cases q : i < n
  · have : i < 31 := by omega
    simp [q, this]
  · simp [q]
-- counting bits
def xpop (M : xm) (n : Nat) : Bool := fJ6_bitCount_0f7a4 (nI n) M == some (nI (cnt n.testBit 8))
theorem pop_all : ∀ n, n < 256 → fJ6_bitCount_0f7a4 (nI n) (fun _ _ => 0, fun _ => false) = some (nI (cnt n.testBit 8)) := by decide +kernel
theorem pop_e {n : Nat} (h : n < 256) (M : xm) : fJ6_bitCount_0f7a4 (nI n) M = some (nI (cnt n.testBit 8)) := pop_all n h
theorem pop_mk {f : Nat → Bool} {n : Nat} (hn : n ≤ 8) (M : xm) : fJ6_bitCount_0f7a4 (nI (mk f n)) M = some (nI (cnt f n)) := by
  have hl : mk f n < 256 := Nat.lt_of_lt_of_le (mk_lt f n) (Nat.pow_le_pow_right (by decide) hn)
  rw [pop_e hl]
  congr 2
  rw [cnt_more (n := n) (m := 8) _ hn (fun i h1 h2 => by rw [mk_bit]; simp; omega)]
  exact cnt_cong (fun i hi => by rw [mk_bit]; simp [hi])
-- the first
theorem fst1_le (f : Nat → Bool) : ∀ n, fst1 f n ≤ n
  | 0 => Nat.le_refl _
  | n + 1 => by
    have := fst1_le f n
    show (if fst1 f n < n then fst1 f n else if f n then n else n + 1) ≤ _
    split
    · omega
    · split <;> omega
theorem fst1_no (f : Nat → Bool) : ∀ n i, i < fst1 f n → f i = false
  | 0, i, h => absurd h (Nat.not_lt_zero i)
  | n + 1, i, h => by
    have ih := fst1_no f n
    have hl := fst1_le f n
    change i < (if fst1 f n < n then fst1 f n else if f n then n else n + 1) at h
    split at h
    · exact ih i h
    · rename_i q
      split at h
      · exact ih i (by omega)
      · rename_i q2
        by_cases e : i = n
        · subst e; simpa using q2
        · exact ih i (by omega)
theorem fst1_yes (f : Nat → Bool) : ∀ n, fst1 f n < n → f (fst1 f n) = true
  | 0, h => absurd h (Nat.not_lt_zero _)
  | n + 1, h => by
    have ih := fst1_yes f n
    have hl := fst1_le f n
    show f (if fst1 f n < n then fst1 f n else if f n then n else n + 1) = true
    change (if fst1 f n < n then fst1 f n else if f n then n else n + 1) < n + 1 at h
    split
    · rename_i q; exact ih q
    · rename_i q
      rw [if_neg q] at h
      split
      · assumption
      · rename_i q2; rw [if_neg q2] at h; omega
theorem fst1_cong {f g : Nat → Bool} : ∀ {n}, (∀ i, i < n → f i = g i) → fst1 f n = fst1 g n
  | 0, _ => rfl
  | n + 1, h => by
    show (if fst1 f n < n then fst1 f n else if f n then n else n + 1) = (if fst1 g n < n then fst1 g n else if g n then n else n + 1)
    rw [fst1_cong (fun i hi => h i (by omega)), h n (by omega)]
theorem low_all : ∀ n, n < 256 → (nI n &&& (-nI n)) = nI (if fst1 n.testBit 8 < 8 then 2 ^ fst1 n.testBit 8 else 0) := by decide +kernel
theorem low_mk {f : Nat → Bool} : nI (mk f 8) &&& (-nI (mk f 8)) = nI (if fst1 f 8 < 8 then 2 ^ fst1 f 8 else 0) := by
  rw [low_all _ (mk_lt f 8), fst1_cong (f := (mk f 8).testBit) (g := f) (fun i hi => by rw [mk_bit]; simp [hi])]
