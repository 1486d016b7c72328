/-! THE PROMISES: late -/
def tJ (L : tR) (j e : Nat) : Nat := L 2 j + e - 20
def FL (R L : tR) (ln e : Nat) : Nat := cnt (fun j => soS R L (tJ L j e) j) ln
def fit (R L : tR) (ln h i e : Nat) : Nat := cnt (fun j => soS R L (tJ L j e) j && (decide (tJ L j e < h) || (decide (tJ L j e = h) && decide (j < i)))) ln
theorem i32lt {a b : Int32} {x y : Int} (ha : a.toInt = x) (hb : b.toInt = y) : (a < b) ↔ x < y := by
  rw [Int32.lt_iff_toInt_lt, ha, hb]
theorem n20_toInt : (20 : Int32).toInt = 20 := rfl
theorem m20_toInt : (-20 : Int32).toInt = -20 := rfl
theorem note_c {α : Sort _} {h l e : Nat} {x y : α} (hh : h < 1000) (hl : l < 1000) (he : e < 1000) : (if (if (20 : Int32) < nI h - nI l then 20 else nI h - nI l) < dI e then x else y) = if e ≤ 40 ∧ e + l ≤ h + 20 then y else x := by
  have h1 := lI_toInt hh hl
  have h2 := dI_toInt he
  have c1 : (20 : Int32) < nI h - nI l ↔ (20 : Int) < (h : Int) - l := i32lt n20_toInt h1
  have key : (if (20 : Int32) < nI h - nI l then 20 else nI h - nI l) < dI e ↔ ¬ (e ≤ 40 ∧ e + l ≤ h + 20) := by
    by_cases q : (20 : Int32) < nI h - nI l
    · rw [if_pos q, i32lt n20_toInt h2]
      have := c1.mp q
      omega
    · rw [if_neg q, i32lt h1 h2]
      have : ¬ (20 : Int) < (h : Int) - l := fun r => q (c1.mpr r)
      omega
  by_cases q : e ≤ 40 ∧ e + l ≤ h + 20
  · rw [if_pos q, if_neg (fun r => (key.mp r) q)]
  · rw [if_neg q, if_pos (key.mpr q)]
theorem dI_20 : ∀ e, e < 41 → dI e + 20 = nI e := d20b
theorem X_note_25 {h l : Nat} (hh : h < 450) (hl : l < 450) : ∀ k n e M, 41 ≤ e + k → e < 1000 → k < n → ∃ M', fX0_noteFitting_25 (nI h - nI l) n (dI e) M = some M' ∧ (∀ j, M'.1 47 j = M.1 47 j + (if e ≤ j ∧ j ≤ 40 ∧ j + l ≤ h + 20 then 1 else 0)) ∧ (∀ a, a ≠ 47 → M'.1 a = M.1 a) ∧ M'.2 = M.2 := by
  intro k
  induction k with
  | zero =>
    intro n e M q1 q2 hn
    obtain ⟨n, rfl⟩ : ∃ k, n = k + 1 := ⟨n - 1, by omega⟩
    rw [fX0_noteFitting_25, note_c (by omega) (by omega) (by omega), if_neg (by omega)]
    exact ⟨M, rfl, fun j => by rw [if_neg (by omega), Int32.add_zero], fun a _ => rfl, rfl⟩
  | succ k ih =>
    intro n e M q1 q2 hn
    obtain ⟨n, rfl⟩ : ∃ k, n = k + 1 := ⟨n - 1, by omega⟩
    rw [fX0_noteFitting_25, note_c (by omega) (by omega) (by omega)]
    by_cases c : e ≤ 40 ∧ e + l ≤ h + 20
    · rw [if_pos c]
      obtain ⟨M1, a1, a2, a3, a4⟩ := ih n (e + 1) (up M 47 e (M.1 47 e + 1)) (by omega) (by omega) (by omega)
      rw [d20b e (by omega), xl_e, xchk_e (by omega) (by omega), xchk_e (by omega) (by omega), xl_e, cl_e (by omega), d20t e (by omega), a1]
      refine ⟨M1, rfl, fun j => ?_, fun a q => by rw [a3 a q, up_ne q], by rw [a4, up_2]⟩
      rw [a2, up_at]
      by_cases d : j = e
      · rw [if_pos ⟨rfl, d⟩, if_neg (by omega), if_pos (by omega), Int32.add_zero, d]
      · rw [if_neg (by omega)]
        congr 1
        by_cases d2 : e + 1 ≤ j ∧ j ≤ 40 ∧ j + l ≤ h + 20
        · rw [if_pos d2, if_pos (by omega)]
        · rw [if_neg d2, if_neg (by omega)]
    · rw [if_neg c]
      exact ⟨M, rfl, fun j => by rw [if_neg (by omega), Int32.add_zero], fun a _ => rfl, rfl⟩
theorem X_note {h l : Nat} (hh : h < 450) (hl : l < 450) (M : xm) : ∃ M', fX0_noteFitting (nI l) (nI h) M = some M' ∧ (∀ j, j < 41 → M'.1 47 j = M.1 47 j + (if l + j - 20 = h then 1 else 0)) ∧ (∀ a, a ≠ 47 → M'.1 a = M.1 a) ∧ M'.2 = M.2 := by
  unfold fX0_noteFitting fX0_noteFitting_14
  rw [xl_e, xl_e, xl_e, if_neg (show ¬ (-20 : Int32) < -20 by decide)]
  rw [show ∀ x y : Option xm, (if nI h = 0 then x else y) = if h = 0 then x else y from fun x y => by rw [li0, ifeq (by omega) (by omega)]]
  by_cases c : h = 0
  · rw [if_pos c]
    subst c
    obtain ⟨M1, a1, a2, a3, a4⟩ := X_note_25 (h := 0) (l := l) (by omega) hl 41 xfuel 0 M (by omega) (by omega) (by show _ < 1000; omega)
    refine ⟨M1, a1, fun j hj => ?_, a3, a4⟩
    rw [a2]
    congr 1
    by_cases d : l + j - 20 = 0
    · rw [if_pos d, if_pos (by omega)]
    · rw [if_neg d, if_neg (by omega)]
  · rw [if_neg c]
    have h1 := lI_toInt (a := h) (b := l) (by omega) (by omega)
    have key : (nI h - nI l < (-20 : Int32)) ↔ h + 20 < l := by
      rw [i32lt h1 m20_toInt]; omega
    obtain ⟨e0, he0, hlt, hj⟩ : ∃ e0, (if nI h - nI l < (-20 : Int32) then -20 else nI h - nI l) = dI e0 ∧ e0 < 1000 ∧ ∀ j, j < 41 → ((e0 ≤ j ∧ j ≤ 40 ∧ j + l ≤ h + 20) ↔ l + j - 20 = h) := by
      by_cases d : h + 20 < l
      · exact ⟨0, by rw [if_pos (key.mpr d)]; rfl, by omega, fun j hj => by omega⟩
      · refine ⟨h + 20 - l, ?_, by omega, fun j hj => by omega⟩
        rw [if_neg (fun r => d (key.mp r)), ← Int32.toInt_inj, h1, dI_toInt (by omega)]
        omega
    obtain ⟨M1, a1, a2, a3, a4⟩ := X_note_25 (h := h) (l := l) (by omega) hl 41 xfuel e0 M (by omega) hlt (by show _ < 1000; omega)
    rw [he0]
    refine ⟨M1, a1, fun j hj2 => ?_, a3, a4⟩
    rw [a2]
    congr 1
    by_cases d : l + j - 20 = h
    · rw [if_pos d, if_pos ((hj j hj2).mpr d)]
    · rw [if_neg d, if_neg (fun r => d ((hj j hj2).mp r))]
theorem cnt_one {f g : Nat → Bool} {i n : Nat} (hi : i < n) (hg : g i = false) (hf : ∀ j, j < n → f j = (g j || decide (j = i))) : cnt f n = cnt g n + 1 := by
  induction n with
  | zero => omega
  | succ n ih =>
    show cnt f n + (if f n then 1 else 0) = cnt g n + (if g n then 1 else 0) + 1
    rw [hf n (by omega)]
    by_cases c : n = i
    · subst c
      rw [hg, cnt_cong (f := f) (g := g) (fun j hj => by rw [hf j (by omega)]; simp; omega)]
      simp
    · rw [ih (by omega) (fun j hj => hf j (by omega))]
      simp [c]
      omega
theorem fit_z (R L : tR) (ln e : Nat) : fit R L ln 0 0 e = 0 := by
  unfold fit
  have : cnt (fun _ => false) ln = 0 := by
    induction ln with
    | zero => rfl
    | succ n ih => show cnt _ n + 0 = 0; omega
  rw [cnt_cong (g := fun _ => false) (fun j hj => by simp), this]
theorem fit_h (R L : tR) (ln h e : Nat) : fit R L ln h ln e = fit R L ln (h + 1) 0 e := by
  unfold fit
  refine cnt_cong (fun j hj => ?_)
  congr 1
  have : decide (j < ln) = true := by simp; omega
  rw [this]
  by_cases c : tJ L j e < h
  · simp [c]; omega
  · by_cases c2 : tJ L j e = h
    · simp [c2]
    · simp [c, c2]; omega
theorem fit_i {R L : tR} {ln h i e : Nat} (hi : i < ln) : fit R L ln h (i + 1) e = fit R L ln h i e + if soS R L h i ∧ tJ L i e = h then 1 else 0 := by
  unfold fit
  by_cases c : soS R L h i ∧ tJ L i e = h
  · rw [if_pos c]
    refine cnt_one hi ?_ (fun j hj => ?_)
    · simp [c.2]
    · by_cases d : j = i
      · subst d; simp [c.1, c.2]
      · have : decide (j < i + 1) = decide (j < i) := by simp; omega
        rw [this]
        simp [d]
  · rw [if_neg c]
    refine cnt_cong (fun j hj => ?_)
    by_cases d : j = i
    · subst d
      by_cases e2 : tJ L j e = h
      · have : soS R L h j = false := by
          cases q : soS R L h j
          · rfl
          · exact absurd ⟨q, e2⟩ c
        simp [e2, this]
      · simp [e2]
    · have : decide (j < i + 1) = decide (j < i) := by simp; omega
      rw [this]
theorem fit_end {R L : tR} {ln e : Nat} (he : e < 41) (hL : ∀ k, k < ln → L 2 k ≤ 400) : fit R L ln 421 0 e = FL R L ln e := by
  unfold fit FL
  refine cnt_cong (fun j hj => ?_)
  have := hL j hj
  have : decide (tJ L j e < 421) = true := by simp; unfold tJ; omega
  rw [this]
  simp
section
variable {M N : xm} {R W : tR} {K : Nat → tR} {kn : Nat} {L : tR} {ln : Nat} {T : Nat → Int32} {tl : Nat}
theorem AX.k47 {M' : xm} (hA : AX M R W K kn L ln T tl) (h1 : ∀ a, a ≠ 47 → M'.1 a = M.1 a) (h2 : M'.2 = M.2) : AX M' R W K kn L ln T tl := hA.keep (fun a q => h1 a (by have := isR_rd (M.2 0); unfold isR at this; omega)) (fun a q => by rw [h2])
theorem WX.k47 {M' : xm} {w : Nat} (hw : WX M w R W) (hi : isW w) (h1 : ∀ a, a ≠ 47 → M'.1 a = M.1 a) (h2 : M'.2 = M.2) : WX M' w R W := hw.keep (fun a q r => h1 a (by unfold isW at hi; omega)) (by rw [h2]) (fun a q r => h1 a (by have := isR_rd (M.2 w); unfold isR at this; omega))
theorem X_best_35 {h : Nat} {k4 : Int32 → xm → Option (Int32 × xm)} (hh : h < 440) : ∀ k n i M, AX M R W K kn L ln T tl → WX M 27 R (hoursS R h (laidS R)) → (∀ e, e < 41 → M.1 47 e = nI (fit R L ln h i e)) → ln = i + k → k < n → ∃ M', fX0_bestDelay_35 27 k4 (nI h) n (nI i) M = k4 (nI (h + 1)) M' ∧ AX M' R W K kn L ln T tl ∧ WX M' 27 R (hoursS R (h + 1) (laidS R)) ∧ (∀ e, e < 41 → M'.1 47 e = nI (fit R L ln (h + 1) 0 e)) := by
  intro k
  induction k with
  | zero =>
    intro n i M hA hw hf e hn
    have hl := hA.2.2.2.2.1.1
    obtain ⟨n, rfl⟩ : ∃ k, n = k + 1 := ⟨n - 1, by omega⟩
    have hb := hoursS_h R h (laidS R)
    rw [laid_h] at hb
    obtain ⟨M1, a1, a2, a3⟩ := X_goHour st_none (by omega) hw
    have a1 : fX4_goHour 27 (-1) M = _ := a1
    rw [fX0_bestDelay_35, hA.2.2.2.2.1.2.1, ifle (by omega) (by omega), if_pos (by omega), a1, bind_e, a1_e]
    refine ⟨M1, rfl, hA.tr a3, a2, fun e he => ?_⟩
    rw [a3.2 47 (by omega), hf e he, show i = ln by omega, fit_h]
  | succ k ih =>
    intro n i M hA hw hf e hn
    have hl := hA.2.2.2.2.1.1
    obtain ⟨n, rfl⟩ : ∃ k, n = k + 1 := ⟨n - 1, by omega⟩
    obtain ⟨⟨e1, e2, e3⟩, l1, l2, l3⟩ := hA.2.2.2.2.1.2.2 i (by omega)
    rw [fX0_bestDelay_35, hA.2.2.2.2.1.2.1, ifle (by omega) (by omega), if_neg (by omega), X_isSo hA hw (by omega), bind_e]
    unfold fX0_bestDelay_63
    cases d : soS R L h i
    · rw [show nI (if (false : Bool) = true then 1 else 0) = 0 from rfl, if_pos rfl, a1_e]
      exact ih n (i + 1) M hA hw (fun e he => by rw [hf e he, fit_i (by omega), if_neg (by simp [d])]; rfl) (by omega) (by omega)
    · rw [if_neg (by decide), xchk_e (by omega) (by omega), cl_e (by omega), e3]
      obtain ⟨M1, a1, a2, a3, a4⟩ := X_note (h := h) (l := L 2 i) (by omega) (by omega) M
      rw [a1, bind_e, a1_e]
      refine ih n (i + 1) M1 (hA.k47 a3 a4) (hw.k47 (by unfold isW; omega) a3 a4) (fun e he => ?_) (by omega) (by omega)
      rw [a2 e he, hf e he, fit_i (by omega)]
      by_cases c : L 2 i + e - 20 = h
      · rw [if_pos c, if_pos ⟨d, c⟩, a1_e]
      · rw [if_neg c, if_neg (fun r => c r.2), Int32.add_zero, Nat.add_zero]
def mfA (F : Nat → Nat) (f b : Nat) : Nat := if F (20 - f) ≤ F b then b else 20 - f
def mfB (F : Nat → Nat) (f b : Nat) : Nat := if F (20 + f) ≤ F b then b else 20 + f
def mf (F : Nat → Nat) : Nat → Nat
  | 0 => 20
  | f + 1 => mfB F (f + 1) (mfA F (f + 1) (mf F f))
theorem mfA_lt {F : Nat → Nat} {f b : Nat} (h : b < 41) : mfA F f b < 41 := by unfold mfA; split <;> omega
theorem mfB_lt {F : Nat → Nat} {f b : Nat} (hf : f ≤ 20) (h : b < 41) : mfB F f b < 41 := by unfold mfB; split <;> omega
theorem mf_lt {F : Nat → Nat} : ∀ {f}, f ≤ 20 → mf F f < 41
  | 0, _ => by show 20 < 41; omega
  | f + 1, h => mfB_lt h (mfA_lt (mf_lt (by omega)))
theorem FL_le (R L : tR) (ln e : Nat) : FL R L ln e ≤ ln := cnt_le _ _
theorem X_most_34 {F : Nat → Nat} {f b : Nat} {k4 : Int32 → Int32 → Option Int32} (hF : ∀ e, e < 41 → F e ≤ 10 ∧ M.1 47 e = nI (F e)) (hf : f ≤ 20) (hb : b < 41) : fX0_mostFitting_34 k4 (dI b) (nI f) M = k4 (dI (mfB F f b)) (nI (f + 1)) := by
  have h1 := hF (20 + f) (by omega)
  have h2 := hF b hb
  unfold fX0_mostFitting_34 fX0_mostFitting_57
  rw [d20a b hb, show (20 : Int32) = nI 20 from rfl, add_e, xchk_e (by omega) (by omega), xchk_e (by omega) (by omega), cl_e (by omega), cl_e (by omega), h1.2, h2.2, ifle (by omega) (by omega), a1_e]
  unfold mfB
  by_cases c : F (20 + f) ≤ F b
  · rw [if_pos c, if_pos c]
  · rw [if_neg c, if_neg c, ← d20p f (by omega)]
theorem X_most_4 {F : Nat → Nat} (hF : ∀ e, e < 41 → F e ≤ 10 ∧ M.1 47 e = nI (F e)) : ∀ k n f, 20 = f + k → k < n → fX0_mostFitting_4 M n (dI (mf F f)) (nI (f + 1)) = some (dI (mf F 20)) := by
  intro k
  induction k with
  | zero =>
    intro n f e hn
    obtain ⟨n, rfl⟩ : ∃ k, n = k + 1 := ⟨n - 1, by omega⟩
    rw [fX0_mostFitting_4, show (20 : Int32) = nI 20 from rfl, iflt (by omega) (by omega), if_pos (by omega), show f = 20 by omega]
  | succ k ih =>
    intro n f e hn
    obtain ⟨n, rfl⟩ : ∃ k, n = k + 1 := ⟨n - 1, by omega⟩
    have hb : mf F f < 41 := mf_lt (by omega)
    have h1 := hF (20 - (f + 1)) (by omega)
    have h2 := hF _ hb
    have hih := ih n (f + 1) (by omega) (by omega)
    have e34 := fun b (hb : b < 41) => X_most_34 (M := M) (k4 := fun z0 z1 => fX0_mostFitting_4 M n z0 z1) (f := f + 1) hF (by omega) hb
    rw [fX0_mostFitting_4, d20a _ hb, d20s _ (by omega), show ∀ y : Option Int32, (if (20 : Int32) < nI (f + 1) then (some (dI (mf F f))) else y) = y from fun y => by rw [show (20 : Int32) = nI 20 from rfl, iflt (by omega) (by omega), if_neg (by omega)], xchk_e (by omega) (by omega), xchk_e (by omega) (by omega), cl_e (by omega), cl_e (by omega), h1.2, h2.2, ifle (by omega) (by omega), d20n _ (by omega)]
    by_cases c : F (20 - (f + 1)) ≤ F (mf F f)
    · rw [if_pos c, e34 _ hb, ← hih]
      show _ = fX0_mostFitting_4 M n (dI (mfB F (f + 1) (mfA F (f + 1) (mf F f)))) _
      rw [show mfA F (f + 1) (mf F f) = mf F f from if_pos c]
    · rw [if_neg c, e34 _ (by omega), ← hih]
      show _ = fX0_mostFitting_4 M n (dI (mfB F (f + 1) (mfA F (f + 1) (mf F f)))) _
      rw [show mfA F (f + 1) (mf F f) = 20 - (f + 1) from if_neg c]
theorem X_best_26 (hL : ∀ k, k < ln → L 2 k ≤ 400) : ∀ k n h M, AX M R W K kn L ln T tl → WX M 27 R (hoursS R h (laidS R)) → (∀ e, e < 41 → M.1 47 e = nI (fit R L ln h 0 e)) → 421 = h + k → k < n → ∃ M', fX0_bestDelay_26 27 n (nI h) M = some (dI (mf (FL R L ln) 20), M') ∧ AX M' R W K kn L ln T tl := by
  intro k
  induction k with
  | zero =>
    intro n h M hA hw hf e hn
    have hl := hA.2.2.2.2.1.1
    obtain ⟨n, rfl⟩ : ∃ k, n = k + 1 := ⟨n - 1, by omega⟩
    have hF : ∀ e, e < 41 → FL R L ln e ≤ 10 ∧ M.1 47 e = nI (FL R L ln e) := fun e he => ⟨by have := FL_le R L ln e; omega, by rw [hf e he, show h = 421 by omega, fit_end he hL]⟩
    have m1 := X_most_4 hF 20 xfuel 0 (by omega) (by show _ < 1000; omega)
    rw [show dI (mf (FL R L ln) 0) = 0 from (by decide : dI 20 = 0)] at m1
    have m1 : fX0_mostFitting_4 M xfuel 0 1 = _ := m1
    rw [fX0_bestDelay_26, show (420 : Int32) = nI 420 from rfl, iflt (by omega) (by omega), if_pos (by omega)]
    unfold fX0_mostFitting
    rw [m1, bind_e]
    exact ⟨M, rfl, hA⟩
  | succ k ih =>
    intro n h M hA hw hf e hn
    have hl := hA.2.2.2.2.1.1
    obtain ⟨n, rfl⟩ : ∃ k, n = k + 1 := ⟨n - 1, by omega⟩
    obtain ⟨M1, a1, a2, a3, a4⟩ := X_best_35 (k4 := fun z0 z1 => fX0_bestDelay_26 27 n z0 z1) (h := h) (by omega) ln xfuel 0 M hA hw hf (by omega) (by show _ < 1000; omega)
    have a1 : fX0_bestDelay_35 27 (fun z0 z1 => fX0_bestDelay_26 27 n z0 z1) (nI h) xfuel 0 M = _ := a1
    rw [fX0_bestDelay_26, show (420 : Int32) = nI 420 from rfl, iflt (by omega) (by omega), if_neg (by omega), a1]
    exact ih n (h + 1) M1 a2 a3 a4 (by omega) (by omega)
theorem X_best_2 : ∀ k n i M, 41 = i + k → k < n → (∀ e, e < i → M.1 47 e = 0) → ∃ M', fX0_bestDelay_2 27 n (nI i) M = fX0_bestDelay_26 27 xfuel 0 M' ∧ (∀ a, a ≠ 47 → M'.1 a = M.1 a) ∧ M'.2 = M.2 ∧ (∀ e, e < 41 → M'.1 47 e = 0) := by
  intro k
  induction k with
  | zero =>
    intro n i M e hn h0
    obtain ⟨n, rfl⟩ : ∃ k, n = k + 1 := ⟨n - 1, by omega⟩
    rw [fX0_bestDelay_2, show (41 : Int32) = nI 41 from rfl, ifle (by omega) (by omega), if_pos (by omega)]
    exact ⟨M, rfl, fun a _ => rfl, rfl, fun e he => h0 e (by omega)⟩
  | succ k ih =>
    intro n i M e hn h0
    obtain ⟨n, rfl⟩ : ∃ k, n = k + 1 := ⟨n - 1, by omega⟩
    obtain ⟨M1, a1, a2, a3, a4⟩ := ih n (i + 1) (up M 47 i 0) (by omega) (by omega) (fun e he => by
      rw [up_at]
      by_cases c : e = i
      · rw [if_pos ⟨rfl, c⟩]
      · rw [if_neg (by omega)]; exact h0 e (by omega))
    rw [fX0_bestDelay_2, show (41 : Int32) = nI 41 from rfl, ifle (by omega) (by omega), if_neg (by omega), xchk_e (by omega) (by omega), xl_e, cl_e (by omega), a1_e, a1]
    exact ⟨M1, rfl, fun a q => by rw [a2 a q, up_ne q], by rw [a3, up_2], a4⟩
theorem v2_e {l e : Nat} {α : Sort _} {x : α} {g : Int32 → α} (hl : l < 900) (he : e < 41) : (if (0 : Int32) ≤ nI l + dI e then g (nI l + dI e) else g 0) = g (nI (l + e - 20)) := by
  have h0 : nI l + dI e = nI (l + e) - nI 20 := by
    unfold dI
    rw [← nI_add, Int32.sub_eq_add_neg, Int32.sub_eq_add_neg, Int32.add_assoc]
  have h1 := lI_toInt (a := l + e) (b := 20) (by omega) (by omega)
  rw [h0]
  by_cases c : 20 ≤ l + e
  · rw [if_pos (by rw [Int32.le_iff_toInt_le, h1, show (0 : Int32).toInt = 0 from rfl]; omega), sub_e c]
  · rw [if_neg (by rw [Int32.le_iff_toInt_le, h1, show (0 : Int32).toInt = 0 from rfl]; omega), show l + e - 20 = 0 by omega]
    rfl
theorem M_right_44 {t j e c : Nat} {k4 : Int32 → Int32 → Option Int32} (hm : N.1 69 (10 * t + j) = so1 R L t j) (ht : t < 421) (hj : j < 10) : fX6_right_44 k4 (dI e) (nI j) (nI c) 10 (nI t) N = k4 (nI (c + if soS R L t j then 1 else 0)) (nI (j + 1)) := by
  unfold fX6_right_44 fX6_right_56
  rw [li10, mul_e, add_e, xchk_e (by omega) (by omega), cl_e (by omega), hm, so1_0, a1_e, xl_e, xl_e]
  cases soS R L t j
  · rw [if_neg (by decide), if_neg (by decide), Int32.add_zero, Nat.add_zero, a1_e]
  · rw [if_pos rfl, if_pos rfl, a1_e]
theorem M_right_4 {e : Nat} (he : e < 41) (hl : ln ≤ 10) (hL : ∀ k, k < ln → L 0 k < nm R ∧ L 1 k < np R ∧ L 2 k ≤ 400) (hB : AM N R W K kn L ln T tl) (hm : ∀ g j, j < ln → g < 421 → N.1 69 (10 * g + j) = so1 R L g j) : ∀ k n i, ln = i + k → k < n → fX6_right_4 (dI e) N n (nI (cnt (fun j => soS R L (tJ L j e) j) i)) (nI i) = some (nI (FL R L ln e)) := by
  intro k
  induction k with
  | zero =>
    intro n i q hn
    obtain ⟨n, rfl⟩ : ∃ k, n = k + 1 := ⟨n - 1, by omega⟩
    rw [fX6_right_4, hB.2.2.1.1, ifle (by omega) (by omega), if_pos (by omega), show i = ln by omega]
    rfl
  | succ k ih =>
    intro n i q hn
    obtain ⟨n, rfl⟩ : ∃ k, n = k + 1 := ⟨n - 1, by omega⟩
    obtain ⟨e1, e2, e3⟩ := hB.2.2.1.2 i (by omega)
    obtain ⟨l1, l2, l3⟩ := hL i (by omega)
    have e44 := M_right_44 (N := N) (R := R) (L := L) (t := tJ L i e) (j := i) (e := e) (c := cnt (fun j => soS R L (tJ L j e) j) i) (k4 := fun z0 z1 => fX6_right_4 (dI e) N n z0 z1) (hm _ _ (by omega) (by unfold tJ; omega)) (by unfold tJ; omega) (by omega)
    rw [fX6_right_4, hB.2.2.1.1, ifle (by omega) (by omega), if_neg (by omega), li3, li2, mul_e, add_e, xchk_e (by omega) (by omega), cl_e (by omega), e3, xl_e]
    rw [v2_e (x := (none : Option Int32)) (g := fun z => fX6_right_44 (fun z0 z1 => fX6_right_4 (dI e) N n z0 z1) (dI e) (nI i) (nI (cnt (fun j => soS R L (tJ L j e) j) i)) 10 z N) (by omega) he]
    have e44 : fX6_right_44 (fun z0 z1 => fX6_right_4 (dI e) N n z0 z1) (dI e) (nI i) (nI (cnt (fun j => soS R L (tJ L j e) j) i)) 10 (nI (L 2 i + e - 20)) N = _ := e44
    rw [e44]
    exact ih n (i + 1) (by omega) (by omega)
theorem M_right {e : Nat} (he : e < 41) (hl : ln ≤ 10) (hL : ∀ k, k < ln → L 0 k < nm R ∧ L 1 k < np R ∧ L 2 k ≤ 400) (hB : AM N R W K kn L ln T tl) (hm : ∀ g j, j < ln → g < 421 → N.1 69 (10 * g + j) = so1 R L g j) : fX6_right (dI e) N = some (nI (FL R L ln e)) := by
  have h := M_right_4 he hl hL hB hm ln xfuel 0 (by omega) (by show _ < 1000; omega)
  exact h
theorem M_late_14 (hl : ln ≤ 10) (hR : ∀ e, e < 41 → fX6_right (dI e) N = some (nI (FL R L ln e))) : ∀ k n f, 20 = f + k → k < n → fX6_late_14 N n (dI (mf (FL R L ln) f)) (nI (FL R L ln (mf (FL R L ln) f))) (nI (f + 1)) = some (nI (mf (FL R L ln) 20), N) := by
  intro k
  induction k with
  | zero =>
    intro n f e hn
    obtain ⟨n, rfl⟩ : ∃ k, n = k + 1 := ⟨n - 1, by omega⟩
    rw [fX6_late_14, d20b _ (mf_lt (by omega)), show (20 : Int32) = nI 20 from rfl, iflt (by omega) (by omega), if_pos (by omega), show f = 20 by omega]
  | succ k ih =>
    intro n f e hn
    obtain ⟨n, rfl⟩ : ∃ k, n = k + 1 := ⟨n - 1, by omega⟩
    have hb : mf (FL R L ln) f < 41 := mf_lt (by omega)
    have ha : mfA (FL R L ln) (f + 1) (mf (FL R L ln) f) < 41 := mfA_lt hb
    have hih := ih n (f + 1) (by omega) (by omega)
    rw [show mf (FL R L ln) (f + 1) = mfB (FL R L ln) (f + 1) (mfA (FL R L ln) (f + 1) (mf (FL R L ln) f)) from rfl] at hih
    have le := FL_le R L ln
    rw [fX6_late_14, show (20 : Int32) = nI 20 from rfl, iflt (by omega) (by omega), if_neg (by omega)]
    rw [show xfuel = 997 + 3 from rfl, fX6_late_23, if_neg (show ¬ (2 : Int32) ≤ -1 by decide), d20m _ (by omega), hR _ (by omega), bind_e, ifle (by have := le (20 - (f + 1)); omega) (by have := le (mf (FL R L ln) f); omega)]
    have stepA : ∀ (r : Int32 → Int32 → Int32 → Option (Int32 × xm)) (k14 : Int32 → Int32 → Int32 → Option (Int32 × xm)), (if FL R L ln (20 - (f + 1)) ≤ FL R L ln (mf (FL R L ln) f) then fX6_late_53 k14 r (nI (FL R L ln (mf (FL R L ln) f))) (nI (f + 1)) (-1) (nI (FL R L ln (20 - (f + 1)))) (dI (mf (FL R L ln) f)) N else fX6_late_53 k14 r (nI (FL R L ln (mf (FL R L ln) f))) (nI (f + 1)) (-1) (nI (FL R L ln (20 - (f + 1)))) (dI (20 - (f + 1))) N) = r (dI (mfA (FL R L ln) (f + 1) (mf (FL R L ln) f))) (nI (FL R L ln (mfA (FL R L ln) (f + 1) (mf (FL R L ln) f)))) 1 := by
      intro r k14
      unfold fX6_late_53 fX6_late_66 mfA
      by_cases c : FL R L ln (20 - (f + 1)) ≤ FL R L ln (mf (FL R L ln) f)
      · simp only [if_pos c]; rw [ifle (by have := le (20 - (f + 1)); omega) (by have := le (mf (FL R L ln) f); omega), if_pos c]; rfl
      · simp only [if_neg c]; rw [ifle (by have := le (20 - (f + 1)); omega) (by have := le (mf (FL R L ln) f); omega), if_neg c]; rfl
    rw [stepA, fX6_late_23, if_neg (show ¬ (2 : Int32) ≤ 1 by decide), d20q _ (by omega), hR _ (by omega), bind_e, ifle (by have := le (20 + (f + 1)); omega) (by have := le (mfA (FL R L ln) (f + 1) (mf (FL R L ln) f)); omega)]
    generalize mfA (FL R L ln) (f + 1) (mf (FL R L ln) f) = a at *
    have stepB : ∀ (r : Int32 → Int32 → Int32 → Option (Int32 × xm)) (k14 : Int32 → Int32 → Int32 → Option (Int32 × xm)), (if FL R L ln (20 + (f + 1)) ≤ FL R L ln a then fX6_late_53 k14 r (nI (FL R L ln a)) (nI (f + 1)) 1 (nI (FL R L ln (20 + (f + 1)))) (dI a) N else fX6_late_53 k14 r (nI (FL R L ln a)) (nI (f + 1)) 1 (nI (FL R L ln (20 + (f + 1)))) (dI (20 + (f + 1))) N) = r (dI (mfB (FL R L ln) (f + 1) a)) (nI (FL R L ln (mfB (FL R L ln) (f + 1) a))) 3 := by
      intro r k14
      unfold fX6_late_53 fX6_late_66 mfB
      by_cases c : FL R L ln (20 + (f + 1)) ≤ FL R L ln a
      · simp only [if_pos c]; rw [ifle (by have := le (20 + (f + 1)); omega) (by have := le a; omega), if_pos c]; rfl
      · simp only [if_neg c]; rw [ifle (by have := le (20 + (f + 1)); omega) (by have := le a; omega), if_neg c]; rfl
    rw [stepB, fX6_late_23, if_pos (show (2 : Int32) ≤ 3 by decide), a1_e]
    exact hih
theorem p_late (hA : AX M R W K kn L ln T tl) (hB : AM N R W K kn L ln T tl) : Same M N (fX5_late M) (fX6_late N) := by
  obtain ⟨hl, hL⟩ := hA.dia
  obtain ⟨M1, a1, a2, a3⟩ := X_beg hA
  obtain ⟨M2, b1, b2, b3, b4⟩ := X_best_2 41 xfuel 0 M1 (by omega) (by show _ < 1000; omega) (fun e he => absurd he (by omega))
  obtain ⟨M3, c1, c2⟩ := X_best_26 (R := R) (W := W) (K := K) (kn := kn) (L := L) (ln := ln) (T := T) (tl := tl) (fun k hk => (hL k hk).2.2) 421 xfuel 0 M2 (a3.k47 b2 b3) (a2.k47 (by unfold isW; omega) b2 b3) (fun e he => by rw [b4 e he, fit_z]; rfl) (by omega) (by show _ < 1000; omega)
  obtain ⟨N1, d1, d2, d3⟩ := M_goes hA.2.2.2.1.1 hl hL hB
  have hR := fun e (he : e < 41) => M_right he hl hL d2 d3
  have m1 := M_late_14 hl hR 20 xfuel 0 (by omega) (by show _ < 1000; omega)
  have z20 : dI 20 = 0 := by decide
  rw [show mf (FL R L ln) 0 = 20 from rfl, z20] at m1
  have m1 : fX6_late_14 N1 xfuel 0 (nI (FL R L ln 20)) 1 = _ := m1
  have r0 := hR 20 (by omega)
  rw [z20] at r0
  have b1 : fX0_bestDelay_2 27 xfuel 0 M1 = _ := b1
  have c1 : fX0_bestDelay_26 27 xfuel 0 M2 = _ := c1
  unfold fX5_late fX6_late fX0_bestDelay
  rw [a1, bind_e, b1, c1, bind_e, d1, bind_e, r0, bind_e, m1]
  refine ⟨_, _, _, rfl, ?_, R, W, K, kn, L, ln, T, tl, c2, d2⟩
  rw [d20b _ (mf_lt (by omega))]
end
