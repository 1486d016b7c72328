/-! THE CLASS: voices, readings -/
theorem cnt_3 {f a b c : Nat → Bool} : ∀ {n}, (∀ i, i < n → (if f i = true then 1 else 0) = (if a i = true then 1 else 0) + (if b i = true then 1 else 0) + (if c i = true then 1 else 0)) → cnt f n = cnt a n + cnt b n + cnt c n
  | 0, _ => rfl
  | n + 1, h => by
    have ih := cnt_3 (f := f) (a := a) (b := b) (c := c) (n := n) (fun i hi => h i (by omega))
    have h2 := h n (by omega)
    show cnt f n + (if f n = true then 1 else 0) = (cnt a n + (if a n = true then 1 else 0)) + (cnt b n + (if b n = true then 1 else 0)) + (cnt c n + (if c n = true then 1 else 0))
    omega
theorem cnt_no (n : Nat) : cnt (fun _ => false) n = 0 := by
  induction n with
  | zero => rfl
  | succ n ih => exact ih
theorem and_mk (f : Nat → Bool) (g : Nat → Bool) {n : Nat} (hn : n ≤ 8) : nI (mk f n) &&& nI (mk g n) = nI (mk (fun i => f i && g i) n) := by
  rw [nI_and, mk_and]
theorem and_mk8 (f : Nat → Bool) (g : Nat → Bool) {n : Nat} (hn : n ≤ 8) : nI (mk f n) &&& nI (mk g 8) = nI (mk (fun i => f i && g i) n) := by
  rw [mk_w hn, nI_and, mk_and, mk_w hn]
  congr 1
  exact mk_cong (fun i hi => by simp [Bool.and_assoc])
theorem andn_mk8 (f : Nat → Bool) (g : Nat → Bool) {n : Nat} (hn : n ≤ 8) : nI (mk f n) &&& (nI (mk g 8) ^^^ (-1)) = nI (mk (fun i => f i && !g i) n) := by
  rw [mk_w hn, andn_mk _ _ (by omega), mk_w hn]
  congr 1
  exact mk_cong (fun i hi => by simp [Bool.and_assoc])
theorem par_e (p : Nat) (hp : p < 100) : nI p - nI p / 2 * 2 = nI (p % 2) := by
  rw [li2, rem_e (by omega) (by omega) (by omega)]
theorem lead_e {R : tR} (hR : okR R) (f : Nat → Bool) : nI (mk f (nm R)) &&& (nI (mk (fun i => decide (R 4 i = 4)) (nm R)) ^^^ (-1)) = nI (mk (fun i => f i && decide (R 4 i ≠ 4)) (nm R)) := by
  rw [andn_mk _ _ (by have := hR.2.1; omega)]
  congr 1
  exact mk_cong (fun i hi => by simp)
theorem low_n {f : Nat → Bool} {n : Nat} (hn : n ≤ 8) : nI (mk f n) &&& (-nI (mk f n)) = nI (if fst1 f n < n then 2 ^ fst1 f n else 0) := by
  rw [mk_w hn, low_mk, fst1_w hn]
theorem two_and {g : Nat → Bool} {i : Nat} (hi : i < 8) : nI (2 ^ i) &&& nI (mk g 8) = nI (if g i then 2 ^ i else 0) := by
  rw [nI_and]
  congr 1
  apply Nat.eq_of_testBit_eq
  intro j
  rw [Nat.testBit_and, mk_bit, Nat.testBit_two_pow]
  by_cases e : i = j
  · subst e
    cases g i <;> simp [hi]
  · cases g i <;> simp [e]
theorem two_andn {g : Nat → Bool} {i : Nat} (hi : i < 8) : nI (2 ^ i) &&& (nI (mk g 8) ^^^ (-1)) = nI (if g i then 0 else 2 ^ i) := by
  have h2 : 2 ^ i < 2 ^ 8 := Nat.pow_lt_pow_right (by decide) hi
  rw [nI_andn _ _ (by omega)]
  congr 1
  apply Nat.eq_of_testBit_eq
  intro j
  rw [mk_bit, mk_bit, Nat.testBit_two_pow]
  by_cases e : i = j
  · subst e
    have : i < 31 := by omega
    cases g i <;> simp [hi, this]
  · cases g i <;> simp [e]
theorem two_ne {i : Nat} (hi : i < 8) {α : Sort _} {x y : α} : (if nI (2 ^ i) = 0 then x else y) = y := by
  have h2 : 2 ^ i < 2 ^ 8 := Nat.pow_lt_pow_right (by decide) hi
  have h3 := Nat.two_pow_pos i
  rw [if_neg (nI_ne0 (by omega) (by omega))]
theorem X_yesOf {M : xm} {w : Nat} {R W : tR} (h : WX M w R W) (f : Nat → Bool) {p b more : Nat} (hp : p < 100) (hb : b < 4) (hm : more < 100) : fX4_yesOf w (nI (mk f (nm R))) (nI p) (nI b) (nI more) M = some (nI (more + cnt (yV R W f p b more) (nm R))) := by
  obtain ⟨h1, hR, h3, he, ho⟩ := h
  have h8 := hR.1.2.1
  have hk := h3.2.2.2.2.2.2.2.2.2.2.2.2
  have hcl := fun g : Nat → Bool => cnt_le g (nm R)
  -- the three parts
  have ht : fX4_yesOf_92 w (nI (mk f (nm R))) = fun x5 M => fX4_yesOf_92 w (nI (mk f (nm R))) x5 M := rfl
  have e92 : ∀ a, fX4_yesOf_92 w (nI (mk f (nm R))) (nI a) M = some (nI (a + cnt (fun i => f i && decide (R 4 i = 4)) (nm R))) := by
    intro a
    unfold fX4_yesOf_92 fX4_yesOf_111
    rw [li4, xchk_e (by omega) (by omega), cl_e (by omega), hk 4 (by omega), and_mk _ _ h8, pop_mk h8, bind_e, xl_e, add_e]
  have e49 : ∀ a, fX4_yesOf_49 w (nI (mk f (nm R))) (nI b) (nI more) (nI a) M = some (nI (a + cnt (fun i => f i && (decide (R 4 i = 4) && (if lead R f < nm R then (W 1 (lead R f)).testBit b else decide (0 < more)))) (nm R))) := by
    intro a
    unfold fX4_yesOf_49 fX5_lowestOf
    rw [li4, xchk_e (by omega) (by omega), cl_e (by omega), hk 4 (by omega), lead_e hR.1, low_n h8, bind_e]
    by_cases q : lead R f < nm R
    · have q2 : fst1 (fun i => f i && decide (R 4 i ≠ 4)) (nm R) < nm R := q
      rw [if_pos q2, two_ne (by omega), xchk_e hb (by omega), cl_e (by omega), he.2.1 b hb, two_and (by omega)]
      have e9 : fst1 (fun i => f i && decide (R 4 i ≠ 4)) (nm R) = lead R f := rfl
      rw [e9, if_pos q]
      cases hw : (W 1 (lead R f)).testBit b
      · rw [show (if (false : Bool) = true then 2 ^ lead R f else 0) = 0 from rfl, if_pos (show nI 0 = 0 from rfl)]
        unfold fX4_yesOf_111
        rw [show (fun i => f i && (decide (R 4 i = 4) && false)) = fun _ => false by funext i; simp, cnt_no]
        rfl
      · rw [if_pos rfl, two_ne (by omega), e92]
        congr 4
        funext i; simp
    · have q2 : ¬ fst1 (fun i => f i && decide (R 4 i ≠ 4)) (nm R) < nm R := q
      rw [if_neg q2, if_pos (by decide), if_neg q, li0, ifle (by omega) (by omega)]
      by_cases q3 : more ≤ 0
      · rw [if_pos q3]
        unfold fX4_yesOf_111
        rw [show (fun i => f i && (decide (R 4 i = 4) && decide (0 < more))) = fun _ => false by funext i; simp; omega, cnt_no]
        rfl
      · rw [if_neg q3, e92]
        congr 4
        funext i
        have : 0 < more := by omega
        simp [this]
  unfold fX4_yesOf
  rw [xchk_e hb (by omega), X_outspoken h3, bind_e, cl_e (by omega), he.2.1 b hb, and_mk8 _ _ h8, andn_mk _ _ (by omega), pop_mk h8, bind_e, xl_e, add_e, par_e p hp, li0, ifeq (by omega) (by omega)]
  have hs := cnt_3 (n := nm R) (f := yV R W f p b more) (a := fun i => (f i && (W 1 i).testBit b) && !(decide (R 4 i = 3) || decide (R 4 i = 4) || decide (R 4 i = 5))) (b := fun i => f i && (decide (R 4 i = 3) && decide (p % 2 = 0))) (c := fun i => f i && (decide (R 4 i = 4) && (if lead R f < nm R then (W 1 (lead R f)).testBit b else decide (0 < more)))) (fun i hi => by
    unfold yV
    cases f i
    · simp
    · by_cases k3 : R 4 i = 3
      · simp [k3]
      · by_cases k5 : R 4 i = 5
        · simp [k5]
        · by_cases k4 : R 4 i = 4
          · simp [k4]
          · simp [k3, k4, k5])
  by_cases q : p % 2 = 0
  · rw [if_pos q, li3, xchk_e (by omega) (by omega), cl_e (by omega), hk 3 (by omega), and_mk _ _ h8, pop_mk h8, bind_e, xl_e, add_e, e49, hs]
    congr 2
    rw [show (fun i => f i && (decide (R 4 i = 3) && decide (p % 2 = 0))) = fun i => f i && decide (R 4 i = 3) by funext i; simp [q]]
    omega
  · rw [if_neg q, e49, hs]
    congr 2
    rw [show (fun i => f i && (decide (R 4 i = 3) && decide (p % 2 = 0))) = fun _ => false by funext i; simp [q], cnt_no]
    omega
theorem X_noOf {M : xm} {w : Nat} {R W : tR} (h : WX M w R W) (f : Nat → Bool) {p b : Nat} (hp : p < 100) (hb : b < 4) : fX4_noOf w (nI (mk f (nm R))) (nI p) (nI b) M = some (nI (cnt (nV R W f p b) (nm R))) := by
  obtain ⟨h1, hR, h3, he, ho⟩ := h
  have h8 := hR.1.2.1
  have hk := h3.2.2.2.2.2.2.2.2.2.2.2.2
  have e48 : ∀ a, fX4_noOf_48 w (nI (mk f (nm R))) (nI b) (nI a) M = some (nI (a + cnt (fun i => f i && (decide (R 4 i = 4) && (if lead R f < nm R then !(W 1 (lead R f)).testBit b else false))) (nm R))) := by
    intro a
    unfold fX4_noOf_48 fX5_lowestOf fX4_noOf_99
    rw [li4, xchk_e (by omega) (by omega), cl_e (by omega), hk 4 (by omega), lead_e hR.1, low_n h8, bind_e, xchk_e hb (by omega), cl_e (by omega), he.2.1 b hb]
    by_cases q : lead R f < nm R
    · have q2 : fst1 (fun i => f i && decide (R 4 i ≠ 4)) (nm R) < nm R := q
      rw [if_pos q2, two_andn (by omega)]
      have e9 : fst1 (fun i => f i && decide (R 4 i ≠ 4)) (nm R) = lead R f := rfl
      rw [e9, if_pos q]
      cases hw : (W 1 (lead R f)).testBit b
      · rw [show (if (false : Bool) = true then 0 else 2 ^ lead R f) = 2 ^ lead R f from rfl, two_ne (by omega), xchk_e (by omega) (by omega), and_mk _ _ h8, pop_mk h8, bind_e, xl_e, add_e]
        congr 4
        funext i; simp
      · rw [if_pos rfl, if_pos (by decide)]
        rw [show (fun i => f i && (decide (R 4 i = 4) && !true)) = fun _ => false by funext i; simp, cnt_no]
        rfl
    · have q2 : ¬ fst1 (fun i => f i && decide (R 4 i ≠ 4)) (nm R) < nm R := q
      rw [if_neg q2, if_neg q, if_pos (by rw [nI_andn _ _ (by omega)]; rfl)]
      rw [show (fun i => f i && (decide (R 4 i = 4) && false)) = fun _ => false by funext i; simp, cnt_no]
      rfl
  unfold fX4_noOf
  rw [xchk_e hb (by omega), X_outspoken h3, bind_e, cl_e (by omega), he.2.1 b hb, andn_mk8 _ _ h8, andn_mk _ _ (by omega), pop_mk h8, bind_e, par_e p hp, li0, ifeq (by omega) (by omega)]
  have hs := cnt_3 (n := nm R) (f := nV R W f p b) (a := fun i => (f i && !(W 1 i).testBit b) && !(decide (R 4 i = 3) || decide (R 4 i = 4) || decide (R 4 i = 5))) (b := fun i => f i && (decide (R 4 i = 3) && decide (¬ p % 2 = 0))) (c := fun i => f i && (decide (R 4 i = 4) && (if lead R f < nm R then !(W 1 (lead R f)).testBit b else false))) (fun i hi => by
    unfold nV
    cases f i
    · simp
    · by_cases k3 : R 4 i = 3
      · simp [k3]
      · by_cases k5 : R 4 i = 5
        · simp [k5]
        · by_cases k4 : R 4 i = 4
          · simp [k4]
          · simp [k3, k4, k5])
  by_cases q : p % 2 = 0
  · rw [if_pos q, e48, hs]
    congr 2
    rw [show (fun i => f i && (decide (R 4 i = 3) && decide (¬ p % 2 = 0))) = fun _ => false by funext i; simp [q], cnt_no]
    omega
  · rw [if_neg q, li3, xchk_e (by omega) (by omega), cl_e (by omega), hk 3 (by omega), and_mk _ _ h8, pop_mk h8, bind_e, xl_e, add_e, e48, hs]
    congr 2
    rw [show (fun i => f i && (decide (R 4 i = 3) && decide (¬ p % 2 = 0))) = fun i => f i && decide (R 4 i = 3) by funext i; simp [q]]
theorem X_passesIn {M : xm} {w : Nat} {R W : tR} (h : WX M w R W) {p b more : Nat} (hp : p < np R) (hb : b < 4) (hm : more < 100) : fX4_passesIn w (nI p) (nI b) (nI more) M = some (nI (if passS R W p b more then 1 else 0)) := by
  have h8 := h.2.1.1.2.1
  have h6 := h.2.1.1.1
  have hq := h.2.1.1.2.2.1
  have hc1 := cnt_le (inP R W p) (nm R)
  have hc2 := cnt_le (yV R W (inP R W p) p b more) (nm R)
  have hc3 := cnt_le (nV R W (inP R W p) p b) (nm R)
  unfold fX4_passesIn fX4_passesIn_48 fX4_passesIn_49
  rw [X_thoseIn h hp, bind_e, pop_mk h8, bind_e, add_e, h.2.2.1.2.2.2.1, iflt (by omega) (by omega), X_yesOf h _ (by omega) hb hm, bind_e, X_noOf h _ (by omega) hb, bind_e, ifle (by omega) (by omega)]
  have hx : ∀ v : Int32, v = 0 ∨ v = 1 → xbo v (some v) = some v := fun v q => by unfold xbo; rw [if_pos q]
  rw [hx 0 (Or.inl rfl), hx 1 (Or.inr rfl)]
  unfold passS noS yesS
  by_cases q : cnt (inP R W p) (nm R) + more < qu R
  · rw [if_pos q, if_neg (by simp; omega)]; rfl
  · rw [if_neg q]
    by_cases q2 : more + cnt (yV R W (inP R W p) p b more) (nm R) ≤ cnt (nV R W (inP R W p) p b) (nm R)
    · rw [if_pos q2, if_neg (by simp; omega)]; rfl
    · rw [if_neg q2, if_pos (by simp; omega)]; rfl
/-- the bills below b are read -/
def readB (R : tR) : Nat → tR → tR
  | 0, W => W
  | b + 1, W => readS R (readB R b W) b
def hoursS (R : tR) : Nat → tR → tR
  | 0, W => W
  | n + 1, W => hourS R (hoursS R n W) 8
/-- all bills are read now and behind each of n hours -/
def runS (R : tR) : Nat → tR → tR
  | 0, W => readB R (nb R) W
  | n + 1, W => readB R (nb R) (hourS R (runS R n W) 8)
theorem bedI_4 (R : tR) (p : Nat) (f : Nat → Bool) {a b : Nat} (ha : a ≠ 0) : ∀ i m W, bedI R p f i m W a b = W a b
  | 0, _, _ => rfl
  | i + 1, m, W => by
    unfold bedI
    split
    · rfl
    · split
      · rw [bedI_4 R p f ha i, upW_n (by omega)]
      · rw [bedI_4 R p f ha i]
theorem bedS_4 (R : tR) {a b : Nat} (ha : a ≠ 0) : ∀ p W, bedS R p W a b = W a b
  | 0, _ => rfl
  | p + 1, W => by
    unfold bedS
    rw [bedS_4 R ha p, bedI_4 R _ _ ha]
theorem sway_n (R : tR) (f : Nat → Bool) (b : Nat) (W : tR) {a c : Nat} (ha : a ≠ 1) : swayS R f b W a c = W a c := by
  have hf : ∀ i, flipW W i b a c = W a c := fun i => by unfold flipW; rw [upW_n (by omega)]
  unfold swayS
  split
  · split
    · exact hf _
    · rfl
  · split
    · split
      · exact hf _
      · rfl
    · rfl
theorem swayB_n (R : tR) (f : Nat → Bool) {a c : Nat} (ha : a ≠ 1) : ∀ b W, swayB R f b W a c = W a c
  | 0, _ => rfl
  | b + 1, W => by
    unfold swayB
    rw [sway_n R f b _ ha, swayB_n R f ha b]
theorem mindS_n (R : tR) {a c : Nat} (ha : a ≠ 1) : ∀ p W, mindS R p W a c = W a c
  | 0, _ => rfl
  | p + 1, W => by
    unfold mindS
    rw [swayB_n R _ ha, mindS_n R ha p]
theorem moveK_n (R W : tR) (still k : Nat) {a b : Nat} (ha : a ≠ 0) : moveK R W still k a b = W a b := by
  unfold moveK
  rw [if_neg (by omega)]
theorem hourS_n (R W : tR) (still : Nat) {a b : Nat} (ha : 2 ≤ a) (ha4 : a ≠ 4 ∨ b ≠ 0) : hourS R W still a b = W a b := by
  unfold hourS
  split
  · rw [mindS_n R (by omega), bedS_4 R (by omega), upW_n (by omega), moveK_n R W _ _ (by omega)]
  · rw [upW_n (by omega), moveK_n R W _ _ (by omega)]
theorem hourS_h (R W : tR) (still : Nat) : hourS R W still 4 0 = W 4 0 + 1 := by
  unfold hourS
  split
  · rw [mindS_n R (by omega), bedS_4 R (by omega), upW_s]
  · rw [upW_s]
theorem readS_n (R W : tR) (b : Nat) {a c : Nat} (ha : a ≠ 2 ∧ a ≠ 3) : readS R W b a c = W a c := by
  unfold readS
  split
  · rw [upW_n (by omega), upW_n (by omega)]
  · rfl
theorem readB_n (R : tR) {a c : Nat} (ha : a ≠ 2 ∧ a ≠ 3) : ∀ b W, readB R b W a c = W a c
  | 0, _ => rfl
  | b + 1, W => by
    unfold readB
    rw [readS_n R _ _ ha, readB_n R ha b]
theorem hoursS_h (R : tR) : ∀ n W, hoursS R n W 4 0 = W 4 0 + n
  | 0, _ => rfl
  | n + 1, W => by
    unfold hoursS
    rw [hourS_h, hoursS_h R n]; omega
theorem runS_h (R : tR) : ∀ n W, runS R n W 4 0 = W 4 0 + n
  | 0, W => readB_n R (by omega) _ _
  | n + 1, W => by
    unfold runS
    rw [readB_n R (by omega), hourS_h, runS_h R n]; omega
theorem okW_readB {R : tR} (hR : laidR R) : ∀ b W, b ≤ 4 → okW R W → okW R (readB R b W)
  | 0, _, _, h => h
  | b + 1, W, hb, h => okW_readS hR (okW_readB hR b W (by omega) h) b (by omega)
theorem okW_hoursS {R : tR} (hR : laidR R) : ∀ n W, okW R W → okW R (hoursS R n W)
  | 0, _, h => h
  | n + 1, W, h => okW_hourS hR (okW_hoursS hR n W h) 8
theorem okW_runS {R : tR} (hR : laidR R) : ∀ n W, okW R W → okW R (runS R n W)
  | 0, W, h => okW_readB hR _ _ hR.1.2.2.2.1.2 h
  | n + 1, W, h => okW_readB hR _ _ hR.1.2.2.2.1.2 (okW_hourS hR (okW_runS hR n W h) 8)
theorem WX.read {M : xm} {w : Nat} {R W : tR} (h : WX M w R W) {b : Nat} (hb : b < 4) {M1 : xm} (hp : passS R W (pAt R (W 0 0)) b 0 = true) (h1 : M1 = up M (w + 4) b (nI (pAt R (W 0 0))) ∧ W 3 b = 0 ∨ M1 = M ∧ W 3 b ≠ 0) : WX (up M1 (w + 3) b (nI (W 2 b ||| 2 ^ pAt R (W 0 0)))) w R (readS R W b) := by
  have hs : sameX M M1 w := by
    rcases h1 with ⟨rfl, -⟩ | ⟨rfl, -⟩
    · exact sameX.up (by omega)
    · exact sameX.rf
  have ho := okW_readS h.2.1 h.2.2.2.2 b hb
  refine h.same (hs.tr (sameX.up (by omega))) ?_ ho
  obtain ⟨e1, e2, e3, e4, e5⟩ := h.2.2.2.1
  have g : ∀ a j, a ≠ w + 4 → M1.1 a j = M.1 a j := by
    intro a j ha
    rcases h1 with ⟨rfl, -⟩ | ⟨rfl, -⟩
    · rw [up_at, if_neg (by omega)]
    · rfl
  refine ⟨fun j hj => ?_, fun c hc => ?_, fun c hc => ?_, fun c hc => ?_, ?_⟩
  · rw [up_at, if_neg (by omega), g _ _ (by omega), e1 j hj, readS_n _ _ _ (by omega)]
  · rw [up_at, if_neg (by omega), g _ _ (by omega), e2 c hc]
    congr 1
    exact mk_cong (fun j hj => by rw [readS_n _ _ _ (by omega)])
  · unfold readS
    rw [if_pos hp, up_at, upW_n (by omega), upW_e]
    by_cases q : c = b
    · rw [if_pos ⟨rfl, q⟩, if_pos ⟨rfl, q⟩]
    · rw [if_neg (by omega), if_neg (by omega), g _ _ (by omega), e3 c hc]
  · unfold readS
    rw [if_pos hp, up_at, if_neg (by omega), upW_e]
    by_cases q : c = b
    · rw [if_pos ⟨rfl, q⟩]
      rcases h1 with ⟨rfl, hz⟩ | ⟨rfl, hz⟩
      · rw [up_at, if_pos ⟨rfl, q⟩, if_pos hz]; rfl
      · rw [if_neg hz, q, e4 b hb]
    · rw [if_neg (by omega), upW_n (by omega)]
      rcases h1 with ⟨rfl, hz⟩ | ⟨rfl, hz⟩
      · rw [up_at, if_neg (by omega), e4 c hc]
      · rw [e4 c hc]
  · rw [up_at, if_neg (by omega), g _ _ (by omega), e5, readS_n _ _ _ (by omega)]
theorem X_readOut {M : xm} {w : Nat} {R W : tR} (h : WX M w R W) {b : Nat} (hb : b < 4) : ∃ M', fX4_readOut w (nI b) M = some (nI (if passS R W (pAt R (W 0 0)) b 0 then 1 else 0), M') ∧ WX M' w R (readS R W b) ∧ sameX M M' w := by
  have hp := pAt_lt (R := R) (W 0 0) h.2.1.2.1
  have h6 := h.2.1.1.1
  have hpo := X_parishOf h (i := 0) (by omega)
  have h2 : 2 ^ pAt R (W 0 0) < 2 ^ np R := Nat.pow_lt_pow_right (by decide) hp
  have h64 : 2 ^ np R ≤ 2 ^ 6 := Nat.pow_le_pow_right (by decide) h6
  have hw2 := h.2.2.2.2.2.2.1 b hb
  have hw3 := h.2.2.2.2.2.2.2 b hb
  unfold fX4_readOut
  rw [show (0 : Int32) = nI 0 from rfl, hpo, bind_e, X_passesIn h hp hb (by omega), bind_e]
  have hx : ∀ (v : Int32) (M : xm), v = 0 ∨ v = 1 → xbo v (some (v, M)) = some (v, M) := fun v M q => by unfold xbo; rw [if_pos q]
  cases hc : passS R W (pAt R (W 0 0)) b 0
  · rw [if_pos (show nI (if (false : Bool) = true then 1 else 0) = nI 0 from rfl)]
    refine ⟨M, hx _ _ (Or.inl rfl), ?_, sameX.rf⟩
    unfold readS
    rw [hc]
    exact h
  · rw [if_pos rfl, if_neg (by decide), xchk_e hb (by omega), cl_e (by omega), h.2.2.2.1.2.2.1 b hb, ifeq (by omega) (by omega)]
    unfold fX4_readOut_34
    by_cases q : W 2 b = 0
    · have q3 := hw3.2.mp q
      rw [if_pos q, xchk_e hb (by omega), xl_e, xchk_e hb (by omega), xchk_e hb (by omega), cl_e (by omega), xl_e, up_at, if_neg (by omega), h.2.2.2.1.2.2.1 b hb, li1, shl_e (by omega) (by omega), Nat.one_mul, nI_or, ← li1, hx _ _ (Or.inr rfl)]
      exact ⟨_, rfl, h.read hb hc (Or.inl ⟨rfl, q3⟩), (sameX.up (by omega)).tr (sameX.up (by omega))⟩
    · rw [if_neg q, xchk_e hb (by omega), xchk_e hb (by omega), xl_e, cl_e (by omega), h.2.2.2.1.2.2.1 b hb, li1, shl_e (by omega) (by omega), Nat.one_mul, nI_or, ← li1, hx _ _ (Or.inr rfl)]
      exact ⟨_, rfl, h.read hb hc (Or.inr ⟨rfl, fun e => q (hw3.2.mpr e)⟩), sameX.up (by omega)⟩
