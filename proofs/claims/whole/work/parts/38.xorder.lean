/-! THE PROMISE order: the class -/
theorem and3_e (a : Nat) : nI a &&& 3 = nI (a % 4) := by
  rw [li3, nI_and, show (3 : Nat) = 2 ^ 2 - 1 from rfl, Nat.and_two_pow_sub_one_eq_mod]
theorem one_shl {r : Nat} (h : r < 31) : ((1 : Int32) <<< (nI r &&& 31)) = nI (2 ^ r) := by
  have : 2 ^ r < 2 ^ 31 := Nat.pow_lt_pow_right (by decide) h
  rw [li1, shl_e (by omega) (by omega), Nat.one_mul]
theorem all_e {r : Nat} (h : r < 31) : ((1 : Int32) <<< (nI r &&& 31)) - 1 = nI (2 ^ r - 1) := by
  rw [one_shl h, sub1_e (Nat.pow_pos (by decide))]
theorem row_e {x B t : Nat} (hx : x < 256) (hB : B ≤ 4) (ht : t < B) : ((nI x >>> (((2 : Int32) * ((nI B - 1) - nI t)) &&& 31)) &&& 3) = nI (rowD x B t) := by
  rw [sub1_e (by omega), sub_e (by omega), li2, mul_e, shr_e (by omega) (by omega), and3_e]
  rfl
theorem row_lt (x B t : Nat) : rowD x B t < 4 := Nat.mod_lt _ (by decide)
theorem m_le {h m : Nat} {α : Sort _} {x y : α} (hh : h < 1000) (hm : m < 1000) : (if nI h ≤ nI m - 1 then x else y) = if h + 1 ≤ m then x else y := by
  have e1 : (nI m - 1).toInt = (m : Int) - 1 := lI_toInt (b := 1) hm (by omega)
  have e2 : (nI h).toInt = h := nI_toInt (by omega)
  have key : nI h ≤ nI m - 1 ↔ h + 1 ≤ m := by rw [Int32.le_iff_toInt_le, e1, e2]; omega
  by_cases c : h + 1 ≤ m
  · rw [if_pos c, if_pos (key.mpr c)]
  · rw [if_neg c, if_neg (fun q => c (key.mp q))]
theorem m_p1 (h : Nat) : nI h = nI (h + 1) - 1 := (s1_e h).symm
section
variable {M N : xm} {R W : tR} {K : Nat → tR} {kn : Nat} {L : tR} {ln : Nat} {T : Nat → Int32} {tl : Nat}
theorem AX.k48 {M' : xm} (hA : AX M R W K kn L ln T tl) (h1 : ∀ a, (a < 48 ∨ 55 < a) → M'.1 a = M.1 a) (h2 : M'.2 = M.2) : AX M' R W K kn L ln T tl := hA.keep (fun a q => h1 a (by have := isR_rd (M.2 0); unfold isR at this; omega)) (fun a q => by rw [h2])
theorem WX.k48 {M' : xm} {w : Nat} (hw : WX M w R W) (hi : isW w) (h1 : ∀ a, (a < 48 ∨ 55 < a) → M'.1 a = M.1 a) (h2 : M'.2 = M.2) : WX M' w R W := hw.keep (fun a q r => h1 a (by unfold isW at hi; omega)) (by rw [h2]) (fun a q r => h1 a (by have := isR_rd (M.2 w); unfold isR at this; omega))
def PI (M : xm) (B : Nat) (f : Nat → Nat → Nat) : Prop := ∀ c s, c < B → s < B → M.1 (50 + c) s = nI (f c s)
def nfO (R U : tR) (t b : Nat) (f : Nat → Nat → Nat) : Nat → Nat → Nat := fun c s => if c < b ∧ s = t ∧ passS R U (pAt R (U 0 0)) c 0 = true then f c s ||| 2 ^ pAt R (U 0 0) else f c s
theorem X_notep_9 {U : tR} {t : Nat} {f : Nat → Nat → Nat} (ht : t < nb R) : ∀ k n b M, nb R = b + k → k < n → WX M 27 R U → AX M R W K kn L ln T tl → PI M (nb R) (nfO R U t b f) → ∃ M', fX2_notePassing_9 27 (nI t) (nI (pAt R (U 0 0))) n (nI b) M = some M' ∧ WX M' 27 R U ∧ AX M' R W K kn L ln T tl ∧ PI M' (nb R) (nfO R U t (nb R) f) := by
  intro k
  induction k with
  | zero =>
    intro n b M e hn hw hA hp
    obtain ⟨n, rfl⟩ : ∃ k, n = k + 1 := ⟨n - 1, by omega⟩
    have hnb := hw.2.1.1.2.2.2.1
    rw [fX2_notePassing_9, hw.2.2.1.2.2.2.2.1, ifle (by omega) (by omega), if_pos (by omega)]
    exact ⟨M, rfl, hw, hA, by rw [show nb R = b by omega] at hp ⊢; exact hp⟩
  | succ k ih =>
    intro n b M e hn hw hA hp
    obtain ⟨n, rfl⟩ : ∃ k, n = k + 1 := ⟨n - 1, by omega⟩
    have hnb := hw.2.1.1.2.2.2.1
    have h6 := hw.2.1.1.1
    have hpl := pAt_lt (R := R) (U 0 0) hw.2.1.2.1
    have pi := X_passesIn hw (p := pAt R (U 0 0)) (b := b) (more := 0) hpl (by omega) (by omega)
    rw [fX2_notePassing_9, hw.2.2.1.2.2.2.2.1, ifle (by omega) (by omega), if_neg (by omega), li0, pi, bind_e]
    unfold fX2_notePassing_47
    rw [ifeq (by split <;> omega) (by omega)]
    cases q : passS R U (pAt R (U 0 0)) b 0
    · rw [if_neg (show ¬ (false : Bool) = true by decide), if_pos rfl, a1_e]
      refine ih n (b + 1) M (by omega) (by omega) hw hA (fun c s hc hs => ?_)
      rw [hp c s hc hs]
      unfold nfO
      congr 1
      by_cases d : c = b
      · subst d; simp [q]
      · have hcb : (c < b + 1) ↔ (c < b) := by omega
        simp only [hcb]
    · rw [if_pos rfl, if_neg (by decide), xchk_e (by omega) (by omega), xchk_e (by omega) (by omega), xchk_e (by omega) (by omega), xl_e, cl_e (by omega), cl_e (by omega), a1_e, hp b t (by omega) ht, one_shl (by omega), nI_or]
      refine ih n (b + 1) _ (by omega) (by omega) (hw.k48 (by unfold isW; omega) (fun a q => up_ne (by omega)) rfl) (hA.k48 (fun a q => up_ne (by omega)) rfl) (fun c s hc hs => ?_)
      rw [up_at]
      unfold nfO
      by_cases d : c = b
      · subst d
        by_cases d2 : s = t
        · subst d2
          rw [if_pos ⟨rfl, rfl⟩, if_neg (fun h => by omega), if_pos ⟨by omega, rfl, q⟩]
        · rw [if_neg (fun h => d2 h.2), if_neg (fun h => d2 h.2.1), hp c s hc hs]
          unfold nfO
          rw [if_neg (fun h => d2 h.2.1)]
      · have hcb : (c < b + 1) ↔ (c < b) := by omega
        rw [if_neg (by omega), hp c s hc hs]
        unfold nfO
        simp only [hcb]
theorem X_find_56 (hW : W 4 0 ≤ 9999) : ∀ k n j M, 201 = j + k → k < n → WX M 27 R (hoursS R j W) → AX M R W K kn L ln T tl → PI M (nb R) (fun c s => psO R W (nb R) c s j) → ∃ M', fX2_findPassing_56 27 (nI (nb R)) n (nI (j % nb R)) (nI j) M = some M' ∧ WX M' 27 R (hoursS R 201 W) ∧ AX M' R W K kn L ln T tl ∧ PI M' (nb R) (fun c s => psO R W (nb R) c s 201) := by
  intro k
  induction k with
  | zero =>
    intro n j M e hn hw hA hp
    obtain ⟨n, rfl⟩ : ∃ k, n = k + 1 := ⟨n - 1, by omega⟩
    rw [fX2_findPassing_56, show (200 : Int32) = nI 200 from rfl, iflt (by omega) (by omega), if_pos (by omega)]
    rw [show j = 201 by omega] at hw hp
    exact ⟨M, rfl, hw, hA, hp⟩
  | succ k ih =>
    intro n j M e hn hw hA hp
    obtain ⟨n, rfl⟩ : ∃ k, n = k + 1 := ⟨n - 1, by omega⟩
    have hnb := hw.2.1.1.2.2.2.1
    have hml := Nat.mod_lt j (show nb R > 0 by omega)
    have hb := hoursS_h R j W
    have h00 : nm R ≥ 1 := hw.2.1.2.2
    obtain ⟨M1, a1, a2, a3, a4⟩ := X_notep_9 (t := j % nb R) (f := fun c s => psO R W (nb R) c s j) hml (nb R) xfuel 0 M (by omega) (by show _ < 1000; omega) hw hA (by
      intro c s hc hs
      rw [hp c s hc hs]
      unfold nfO
      rw [if_neg (fun h => by omega)])
    have a1 : fX2_notePassing_9 27 (nI (j % nb R)) (nI (pAt R (hoursS R j W 0 0))) xfuel 0 M = _ := a1
    have nu : fX2_notePassing 27 (nI (j % nb R)) M = some M1 := by
      unfold fX2_notePassing
      rw [li0, X_parishOf hw (i := 0) (by omega), bind_e, ← li0, a1]
    obtain ⟨M2, b1, b2, b3⟩ := X_goHour st_none (by omega) a2
    have b1 : fX4_goHour 27 (-1) M1 = _ := b1
    rw [fX2_findPassing_56, show ∀ y : Option xm, (if (200 : Int32) < nI j then (some M) else y) = y from fun y => by rw [show (200 : Int32) = nI 200 from rfl, iflt (by omega) (by omega), if_neg (by omega)], nu, bind_e, b1, bind_e]
    unfold fX2_findPassing_89
    have hih := ih n (j + 1) M2 (by omega) (by omega) b2 (a3.tr b3) (fun c s hc hs => by
      rw [b3.2 (50 + c) (by omega), a4 c s hc hs]
      congr 1
      show (if c < nb R ∧ s = j % nb R ∧ rdO R W j c = true then psO R W (nb R) c s j ||| 2 ^ rpO R W j else psO R W (nb R) c s j) = if j % nb R = s ∧ rdO R W j c = true then psO R W (nb R) c s j ||| 2 ^ rpO R W j else psO R W (nb R) c s j
      by_cases d : s = j % nb R ∧ rdO R W j c = true
      · rw [if_pos ⟨hc, d⟩, if_pos ⟨d.1.symm, d.2⟩]
      · rw [if_neg (fun h => d h.2), if_neg (fun h => d ⟨h.1.symm, h.2⟩)])
    have hm : (j + 1) % nb R = if nb R ≤ j % nb R + 1 then 0 else j % nb R + 1 := by
      rw [Nat.add_mod]
      by_cases c : nb R = 1
      · rw [c]; simp [Nat.mod_one]
      · rw [Nat.mod_eq_of_lt (show 1 < nb R by omega)]
        by_cases d : nb R ≤ j % nb R + 1
        · rw [if_pos d, show j % nb R + 1 = nb R by omega, Nat.mod_self]
        · rw [if_neg d, Nat.mod_eq_of_lt (by omega)]
    rw [a1_e, a1_e, ifle (by omega) (by omega)]
    rw [hm] at hih
    by_cases c : nb R ≤ j % nb R + 1
    · rw [if_pos c] at hih ⊢
      exact hih
    · rw [if_neg c] at hih ⊢
      exact hih
theorem X_find_18 {b : Nat} {k10 : Int32 → xm → Option xm} (hb : b < nb R) : ∀ k n t M, nb R = t + k → k < n → WX M 27 R W → AX M R W K kn L ln T tl → (∀ c s, c < nb R → s < nb R → (c < b ∨ (c = b ∧ s < t)) → M.1 (50 + c) s = nI (W 2 c)) → ∃ M', fX2_findPassing_18 27 k10 (nI (nb R)) (nI b) n (nI t) M = k10 (nI (b + 1)) M' ∧ WX M' 27 R W ∧ AX M' R W K kn L ln T tl ∧ (∀ c s, c < nb R → s < nb R → c < b + 1 → M'.1 (50 + c) s = nI (W 2 c)) := by
  intro k
  induction k with
  | zero =>
    intro n t M e hn hw hA hp
    obtain ⟨n, rfl⟩ : ∃ k, n = k + 1 := ⟨n - 1, by omega⟩
    have hnb := hw.2.1.1.2.2.2.1
    rw [fX2_findPassing_18, ifle (by omega) (by omega), if_pos (by omega), a1_e]
    exact ⟨M, rfl, hw, hA, fun c s hc hs q => hp c s hc hs (by omega)⟩
  | succ k ih =>
    intro n t M e hn hw hA hp
    obtain ⟨n, rfl⟩ : ∃ k, n = k + 1 := ⟨n - 1, by omega⟩
    have hnb := hw.2.1.1.2.2.2.1
    have e2 : M.1 (27 + 3) b = _ := hw.2.2.2.1.2.2.1 b (by omega)
    rw [fX2_findPassing_18, ifle (by omega) (by omega), if_neg (by omega), xchk_e (by omega) (by omega), xchk_e (by omega) (by omega), xchk_e (by omega) (by omega), xl_e, cl_e (by omega), cl_e (by omega), a1_e, e2]
    refine ih n (t + 1) _ (by omega) (by omega) (hw.k48 (by unfold isW; omega) (fun a q => up_ne (by omega)) rfl) (hA.k48 (fun a q => up_ne (by omega)) rfl) (fun c s hc hs q => ?_)
    rw [up_at]
    by_cases d : c = b ∧ s = t
    · rw [if_pos (by omega), d.1]
    · rw [if_neg (by omega)]
      exact hp c s hc hs (by omega)
theorem X_find_10 (hW : W 4 0 ≤ 9999) : ∀ k n b M, nb R = b + k → k < n → WX M 27 R W → AX M R W K kn L ln T tl → (∀ c s, c < nb R → s < nb R → c < b → M.1 (50 + c) s = nI (W 2 c)) → ∃ M', fX2_findPassing_10 27 (nI (nb R)) n (nI b) M = some M' ∧ WX M' 27 R (hoursS R 201 W) ∧ AX M' R W K kn L ln T tl ∧ PI M' (nb R) (fun c s => psO R W (nb R) c s 201) := by
  intro k
  induction k with
  | zero =>
    intro n b M e hn hw hA hp
    obtain ⟨n, rfl⟩ : ∃ k, n = k + 1 := ⟨n - 1, by omega⟩
    have hnb := hw.2.1.1.2.2.2.1
    have h := X_find_56 hW 201 xfuel 0 M (by omega) (by show _ < 1000; omega) hw hA (fun c s hc hs => hp c s hc hs (by omega))
    rw [Nat.zero_mod] at h
    rw [fX2_findPassing_10, ifle (by omega) (by omega), if_pos (by omega)]
    exact h
  | succ k ih =>
    intro n b M e hn hw hA hp
    obtain ⟨n, rfl⟩ : ∃ k, n = k + 1 := ⟨n - 1, by omega⟩
    have hnb := hw.2.1.1.2.2.2.1
    obtain ⟨M1, a1, a2, a3, a4⟩ := X_find_18 (k10 := fun z0 z1 => fX2_findPassing_10 27 (nI (nb R)) n z0 z1) (b := b) (by omega) (nb R) xfuel 0 M (by omega) (by show _ < 1000; omega) hw hA (fun c s hc hs q => hp c s hc hs (by omega))
    have a1 : fX2_findPassing_18 27 (fun z0 z1 => fX2_findPassing_10 27 (nI (nb R)) n z0 z1) (nI (nb R)) (nI b) xfuel 0 M = _ := a1
    rw [fX2_findPassing_10, ifle (by omega) (by omega), if_neg (by omega), a1]
    exact ih n (b + 1) M1 (by omega) (by omega) a2 a3 a4
theorem X_find (hW : W 4 0 ≤ 9999) (hw : WX M 27 R W) (hA : AX M R W K kn L ln T tl) : ∃ M', fX2_findPassing 27 M = some M' ∧ WX M' 27 R (hoursS R 201 W) ∧ AX M' R W K kn L ln T tl ∧ PI M' (nb R) (fun c s => psO R W (nb R) c s 201) := by
  have hnb := hw.2.1.1.2.2.2.1
  have h := X_find_10 hW (nb R) xfuel 0 M (by omega) (by show _ < 1000; omega) hw hA (fun c s hc hs q => absurd q (by omega))
  unfold fX2_findPassing
  rw [hw.2.2.1.2.2.2.2.1, xl_e]
  exact h
def only (M M' : xm) (c : Nat) : Prop := (∀ a, a ≠ c → M'.1 a = M.1 a) ∧ M'.2 = M.2
theorem X_setRow_5 {x B : Nat} (hx : x < 2 ^ (2 * B)) (hB1 : 1 ≤ B) (hB : B ≤ 4) {M0 : xm} : ∀ k n t M, B = t + k → k < n → only M0 M 54 → (∀ s, s < t → M.1 54 s = nI (rowD x B s)) → ∃ M', fX2_setRow_5 (nI x) (nI B) n (nI (seenN x B t)) (nI t) M = some (nI (if okRow B x then 1 else 0), M') ∧ only M0 M' 54 ∧ (∀ s, s < B → M'.1 54 s = nI (rowD x B s)) := by
  intro k
  have h256 := pow_lt_all hB hx
  induction k with
  | zero =>
    intro n t M e hn ho h
    obtain ⟨n, rfl⟩ : ∃ k, n = k + 1 := ⟨n - 1, by omega⟩
    have hs := seen_lt x B t
    have h16 : 2 ^ B ≤ 2 ^ 4 := Nat.pow_le_pow_right (by decide) hB
    refine ⟨M, ?_, ho, fun s hs => h s (by omega)⟩
    rw [fX2_setRow_5, ifle (by omega) (by omega), if_pos (by omega), all_e (by omega), ifeq (by omega) (by omega), show t = B by omega]
    unfold fX2_setRow_62 okRow
    rw [xbo_0, xbo_1, show decide (x < 2 ^ (2 * B)) = true by simp [hx], Bool.true_and]
    by_cases c : seenN x B B = 2 ^ B - 1
    · rw [if_pos c, if_pos (by simp [c])]; rfl
    · rw [if_neg c, if_neg (by simp [c])]; rfl
  | succ k ih =>
    intro n t M e hn ho h
    obtain ⟨n, rfl⟩ : ∃ k, n = k + 1 := ⟨n - 1, by omega⟩
    have hr := row_lt x B t
    obtain ⟨M1, a1, a2, a3⟩ := ih n (t + 1) (up M 54 t (nI (rowD x B t))) (by omega) (by omega) ⟨fun a q => (up_ne q).trans (ho.1 a q), ho.2⟩ (fun s hs => by
      rw [up_at]
      by_cases d : s = t
      · rw [if_pos ⟨rfl, d⟩, d]
      · rw [if_neg (by omega)]; exact h s (by omega))
    rw [fX2_setRow_5, ifle (by omega) (by omega), if_neg (by omega), xchk_e (by omega) (by omega), xl_e, row_e h256 hB (by omega), xchk_e (by omega) (by omega), xl_e, cl_e (by omega), up_at, if_pos ⟨rfl, rfl⟩, one_shl (by omega), nI_or, a1_e]
    exact ⟨M1, a1, a2, a3⟩
theorem X_setRow {x B : Nat} (hx : x < 2 ^ (2 * B)) (hB1 : 1 ≤ B) (hB : B ≤ 4) (M : xm) : ∃ M', fX2_setRow (nI x) (nI B) M = some (nI (if okRow B x then 1 else 0), M') ∧ only M M' 54 ∧ (∀ s, s < B → M'.1 54 s = nI (rowD x B s)) := by
  have h := X_setRow_5 hx hB1 hB (M0 := M) B xfuel 0 M (by omega) (by show _ < 1000; omega) ⟨fun _ _ => rfl, rfl⟩ (fun s hs => absurd hs (by omega))
  exact h
theorem X_cmp_55 {B x : Nat} (hB : B ≤ 4) {M0 : xm} : ∀ k n t M, B = t + k → k < n → only M0 M 55 → (∀ s, s < t → M.1 55 s = nI (rowD x B s)) → (∀ s, s < B → M0.1 54 s = nI (rowD x B s)) → ∃ M', fX2_compare_55 (nI B) n (nI t) M = some M' ∧ only M0 M' 55 ∧ (∀ s, s < B → M'.1 55 s = nI (rowD x B s)) := by
  intro k
  induction k with
  | zero =>
    intro n t M e hn ho h h0
    obtain ⟨n, rfl⟩ : ∃ k, n = k + 1 := ⟨n - 1, by omega⟩
    rw [fX2_compare_55, ifle (by omega) (by omega), if_pos (by omega)]
    exact ⟨M, rfl, ho, fun s hs => h s (by omega)⟩
  | succ k ih =>
    intro n t M e hn ho h h0
    obtain ⟨n, rfl⟩ : ∃ k, n = k + 1 := ⟨n - 1, by omega⟩
    obtain ⟨M1, a1, a2, a3⟩ := ih n (t + 1) (up M 55 t (nI (rowD x B t))) (by omega) (by omega) ⟨fun a q => (up_ne q).trans (ho.1 a q), ho.2⟩ (fun s hs => by
      rw [up_at]
      by_cases d : s = t
      · rw [if_pos ⟨rfl, d⟩, d]
      · rw [if_neg (by omega)]; exact h s (by omega)) h0
    rw [fX2_compare_55, ifle (by omega) (by omega), if_neg (by omega), xchk_e (by omega) (by omega), xchk_e (by omega) (by omega), xl_e, cl_e (by omega), ho.1 54 (by omega), h0 t (by omega), a1_e]
    exact ⟨M1, a1, a2, a3⟩
theorem X_cmp_5 {x m : Nat} {f : Nat → Nat → Nat} {all : Nat} (hB1 : 1 ≤ nb R) (hB : nb R ≤ 4) (hf : ∀ c s, c < nb R → s < nb R → f c s < 1000) (hall : all < 1000) (hok : ∀ t, t < nb R → rowD x (nb R) t < nb R) (hp : PI M (nb R) f) (h0 : ∀ s, s < nb R → M.1 54 s = nI (rowD x (nb R) s)) (hm : M.1 48 3 = nI m - 1) (hml : m < 900) : ∀ k n t, nb R = t + k → k < n → ∃ M', fX2_compare_5 (nI (nb R)) (nI all) M n (nI (cnt (fun t => decide (f (rowD x (nb R) t) t = all)) t)) (nI t) = some M' ∧ (∀ a, (a ≠ 48 ∧ a ≠ 55) → M'.1 a = M.1 a) ∧ M'.2 = M.2 ∧ (cnt (fun t => decide (f (rowD x (nb R) t) t = all)) (nb R) + 1 ≤ m → M' = M) ∧ (¬ cnt (fun t => decide (f (rowD x (nb R) t) t = all)) (nb R) + 1 ≤ m → M'.1 48 3 = nI (cnt (fun t => decide (f (rowD x (nb R) t) t = all)) (nb R) + 1) - 1 ∧ (∀ s, s < nb R → M'.1 55 s = nI (rowD x (nb R) s))) := by
  intro k
  induction k with
  | zero =>
    intro n t e hn
    obtain ⟨n, rfl⟩ : ∃ k, n = k + 1 := ⟨n - 1, by omega⟩
    have hc := cnt_le (fun t => decide (f (rowD x (nb R) t) t = all)) (nb R)
    rw [fX2_compare_5, ifle (by omega) (by omega), if_pos (by omega), show t = nb R by omega, hm, m_le (by omega) (by omega)]
    unfold fX2_compare_81
    by_cases c : cnt (fun t => decide (f (rowD x (nb R) t) t = all)) (nb R) + 1 ≤ m
    · rw [if_pos c]
      exact ⟨M, rfl, fun _ _ => rfl, rfl, fun _ => rfl, fun q => absurd c q⟩
    · rw [if_neg c, xl_e]
      obtain ⟨M1, a1, a2, a3⟩ := X_cmp_55 (B := nb R) (x := x) hB (M0 := up M 48 3 (nI (cnt (fun t => decide (f (rowD x (nb R) t) t = all)) (nb R)))) (nb R) xfuel 0 _ (by omega) (by show _ < 1000; omega) ⟨fun _ _ => rfl, rfl⟩ (fun s hs => absurd hs (by omega)) (fun s hs => by rw [up_ne (by omega)]; exact h0 s hs)
      have a1 : fX2_compare_55 (nI (nb R)) xfuel 0 _ = _ := a1
      refine ⟨M1, a1, fun a q => (a2.1 a q.2).trans (up_ne q.1), a2.2, fun q => absurd q c, fun _ => ⟨?_, a3⟩⟩
      rw [a2.1 48 (by omega), up_at, if_pos ⟨rfl, rfl⟩, ← m_p1]
  | succ k ih =>
    intro n t e hn
    obtain ⟨n, rfl⟩ : ∃ k, n = k + 1 := ⟨n - 1, by omega⟩
    have hr := hok t (by omega)
    have hf1 := hf _ t hr (by omega)
    have hih := ih n (t + 1) (by omega) (by omega)
    rw [show cnt (fun t => decide (f (rowD x (nb R) t) t = all)) (t + 1) = cnt (fun t => decide (f (rowD x (nb R) t) t = all)) t + (if decide (f (rowD x (nb R) t) t = all) then 1 else 0) from rfl] at hih
    rw [fX2_compare_5, ifle (by omega) (by omega), if_neg (by omega), xchk_e (by omega) (by omega), cl_e (by omega), h0 t (by omega), xchk_e (by omega) (by omega), xchk_e (by omega) (by omega), cl_e (by omega), hp _ t hr (by omega), ifeq (by omega) (by omega)]
    unfold fX2_compare_33
    by_cases c : f (rowD x (nb R) t) t = all
    · rw [if_pos (by simp [c])] at hih
      rw [if_pos c, a1_e, a1_e]
      exact hih
    · rw [if_neg (by simp [c])] at hih
      rw [if_neg c, a1_e]
      exact hih
def OI (M : xm) (R W : tR) (x : Nat) : Prop := PI M (nb R) (fun c s => psO R W (nb R) c s 201) ∧ M.1 48 3 = nI (moO R W (nb R) x) - 1 ∧ (moO R W (nb R) x ≠ 0 → ∀ s, s < nb R → M.1 55 s = nI (rowD (beO R W (nb R) x) (nb R) s))
theorem X_weigh_33 (hW : okW R W) (hR : laidR R) : ∀ k n x M, 2 ^ (2 * nb R) = x + k → k < n → AX M R W K kn L ln T tl → OI M R W x → ∃ M', fX2_weigh_33 27 (nI (nb R)) (nI (2 ^ np R - 1)) n (nI x) M = some M' ∧ AX M' R W K kn L ln T tl ∧ OI M' R W (2 ^ (2 * nb R)) := by
  have hnb := hR.1.2.2.2.1
  have h6 := hR.1.1
  have hp2 : 2 ^ np R ≤ 2 ^ 6 := Nat.pow_le_pow_right (by decide) h6
  have hb2 : 2 ^ (2 * nb R) ≤ 2 ^ 8 := Nat.pow_le_pow_right (by decide) (by omega)
  intro k
  induction k with
  | zero =>
    intro n x M e hn hA hi
    obtain ⟨n, rfl⟩ : ∃ k, n = k + 1 := ⟨n - 1, by omega⟩
    rw [fX2_weigh_33, li2, mul_e, one_shl (by omega), ifle (by omega) (by omega), if_pos (by omega), show 2 ^ (2 * nb R) = x by omega]
    exact ⟨M, rfl, hA, hi⟩
  | succ k ih =>
    intro n x M e hn hA hi
    obtain ⟨n, rfl⟩ : ∃ k, n = k + 1 := ⟨n - 1, by omega⟩
    obtain ⟨M1, a1, a2, a3⟩ := X_setRow (x := x) (B := nb R) (by omega) (by omega) (by omega) M
    have hA1 : AX M1 R W K kn L ln T tl := hA.k48 (fun a q => a2.1 a (by omega)) a2.2
    have hp1 : PI M1 (nb R) (fun c s => psO R W (nb R) c s 201) := fun c s hc hs => by rw [a2.1 _ (by omega)]; exact hi.1 c s hc hs
    have hm1 : M1.1 48 3 = nI (moO R W (nb R) x) - 1 := by rw [a2.1 48 (by omega)]; exact hi.2.1
    have hb1 : moO R W (nb R) x ≠ 0 → ∀ s, s < nb R → M1.1 55 s = nI (rowD (beO R W (nb R) x) (nb R) s) := fun q s hs => by rw [a2.1 55 (by omega)]; exact hi.2.2 q s hs
    have hmo := mo_le R W (nb R) x
    rw [fX2_weigh_33, li2, mul_e, one_shl (by omega), ifle (by omega) (by omega), if_neg (by omega), a1, bind_e]
    unfold fX2_weigh_59
    cases q : okRow (nb R) x
    · rw [if_neg (show ¬ (false : Bool) = true by decide), if_pos (show (nI 0, M1).fst = 0 from rfl), a1_e]
      refine ih n (x + 1) M1 (by omega) (by omega) hA1 ⟨hp1, ?_, ?_⟩
      · rw [hm1]
        show _ = nI (if okRow (nb R) x = true ∧ _ then _ else _) - 1
        rw [q, if_neg (fun h => by cases h.1)]
      · show (if okRow (nb R) x = true ∧ _ then _ else moO R W (nb R) x) ≠ 0 → ∀ s, s < nb R → M1.1 55 s = nI (rowD (if okRow (nb R) x = true ∧ _ then _ else beO R W (nb R) x) (nb R) s)
        rw [q, if_neg (fun h => by cases h.1), if_neg (fun h => by cases h.1)]
        exact hb1
    · obtain ⟨r1, r2, r3⟩ := perm_all (nb R) (by omega) x (by omega) q
      obtain ⟨M2, b1, b2, b3, b4, b5⟩ := X_cmp_5 (M := M1) (x := x) (m := moO R W (nb R) x) (f := fun c s => psO R W (nb R) c s 201) (all := 2 ^ np R - 1) (by omega) (by omega) (fun c s hc hs => by have := ps_lt hW hR (B := nb R) (b := c) (t := s) (by omega) 201; omega) (by omega) r1 hp1 a3 hm1 (by omega) (nb R) xfuel 0 (by omega) (by show _ < 1000; omega)
      have b1 : fX2_compare (nI (nb R)) (nI (2 ^ np R - 1)) M1 = _ := b1
      rw [if_pos rfl, if_neg (show ¬ (nI 1, M1).fst = 0 by show ¬ nI 1 = 0; decide), b1, bind_e, a1_e]
      refine ih n (x + 1) M2 (by omega) (by omega) (hA1.k48 (fun a q => b2 a (by omega)) b3) ⟨fun c s hc hs => by rw [b2 _ (by omega)]; exact hp1 c s hc hs, ?_⟩
      show M2.1 48 3 = nI (if okRow (nb R) x = true ∧ ¬ hoO R W (nb R) x + 1 ≤ moO R W (nb R) x then hoO R W (nb R) x + 1 else moO R W (nb R) x) - 1 ∧ ((if okRow (nb R) x = true ∧ ¬ hoO R W (nb R) x + 1 ≤ moO R W (nb R) x then hoO R W (nb R) x + 1 else moO R W (nb R) x) ≠ 0 → ∀ s, s < nb R → M2.1 55 s = nI (rowD (if okRow (nb R) x = true ∧ ¬ hoO R W (nb R) x + 1 ≤ moO R W (nb R) x then x else beO R W (nb R) x) (nb R) s))
      by_cases c : hoO R W (nb R) x + 1 ≤ moO R W (nb R) x
      · rw [if_neg (fun h => h.2 c), if_neg (fun h => h.2 c), b4 c]
        exact ⟨hm1, hb1⟩
      · rw [if_pos ⟨q, c⟩, if_pos ⟨q, c⟩]
        obtain ⟨d1, d2⟩ := b5 c
        exact ⟨d1, fun _ => d2⟩
theorem X_weigh (hW : W 4 0 ≤ 9999) (hw : WX M 27 R W) (hA : AX M R W K kn L ln T tl) : ∃ M', fX2_weigh 27 M = some M' ∧ AX M' R W K kn L ln T tl ∧ OI M' R W (2 ^ (2 * nb R)) := by
  have hR := hw.2.1
  have hnb := hR.1.2.2.2.1
  have h6 := hR.1.1
  have hb2 : 2 ^ (2 * nb R) ≤ 2 ^ 8 := Nat.pow_le_pow_right (by decide) (by omega)
  obtain ⟨M1, a1, a2, a3, a4⟩ := X_find hW hw hA
  have h := X_weigh_33 hw.2.2.2.2 hR (2 ^ (2 * nb R)) xfuel 0 (up M1 48 3 (-1)) (by omega) (by show _ < 1000; omega) (a3.k48 (fun a q => up_ne (by omega)) rfl) ⟨fun c s hc hs => by rw [up_ne (by omega)]; exact a4 c s hc hs, by rw [up_at, if_pos ⟨rfl, rfl⟩]; rfl, fun q => absurd rfl q⟩
  unfold fX2_weigh
  rw [a1, bind_e, xl_e, xl_e, xl_e, a2.2.2.1.2.2.2.2.1, a2.2.2.1.1, all_e (by omega)]
  exact h
end
