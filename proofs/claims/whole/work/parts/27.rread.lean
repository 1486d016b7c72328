/-! THE REFERENCE: voices, readings, copies, years -/
def sameV (N N' : xm) : Prop := (∀ a, a ≠ 60 → N'.1 a = N.1 a) ∧ ∀ j, j ≠ 17 → j ≠ 18 → N'.1 60 j = N.1 60 j
theorem sameV.rf {N : xm} : sameV N N := ⟨fun _ _ => rfl, fun _ _ _ => rfl⟩
theorem sameV.M {N N' : xm} (h : sameV N N') (s : Nat) : sameM N N' s := ⟨fun a q r => h.1 a r, h.2, fun j _ => by rw [h.1 67 (by omega)]⟩
theorem MX.voc {N N' : xm} {s : Nat} {R W : tR} (h : MX N s R W) (hs : sameV N N') : MX N' s R W := by
  refine h.same (hs.M s) ?_ h.2.2.2.2
  have := h.2.2.2.1
  unfold encM at this ⊢
  rw [hs.1 67 (by omega)]
  exact this
def ldI (g : Nat → Bool) (i : Nat) : Int32 := if fst1 g i < i then nI (fst1 g i) else -1
theorem fst1_s (g : Nat → Bool) (i : Nat) : fst1 g (i + 1) = if fst1 g i < i then fst1 g i else if g i then i else i + 1 := rfl
theorem M_lead_l {N : xm} {s : Nat} {R W : tR} (h : MX N s R W) (f : Nat → Bool) {x1 x2 x3 x4 : Int32} : ∀ k n i, nm R = i + k → k < n → fX6_passes_25 x1 x2 x3 x4 (nI (mk f (nm R))) N n (ldI (fun j => f j && decide (R 4 j ≠ 4)) i) (nI i) = fX6_passes_85 x1 x2 x3 x4 (nI (mk f (nm R))) (ldI (fun j => f j && decide (R 4 j ≠ 4)) (nm R)) xfuel 0 N := by
  have h8 := h.2.1.1.2.1
  intro k
  induction k with
  | zero =>
    intro n i e hn
    obtain ⟨n, rfl⟩ : ∃ k, n = k + 1 := ⟨n - 1, by omega⟩
    rw [fX6_passes_25, xc0 (by omega) (by omega), c0, h.2.2.1.2.1, ifle (by omega) (by omega), if_pos (by omega), show i = nm R by omega]
  | succ k ih =>
    intro n i e hn
    obtain ⟨n, rfl⟩ : ∃ k, n = k + 1 := ⟨n - 1, by omega⟩
    have hl := mk_lt f (nm R)
    have hl2 : 2 ^ nm R ≤ 2 ^ 8 := Nat.pow_le_pow_right (by decide) h8
    have hk := (h.2.1.1.2.2.2.2.2 i (by omega)).1
    have hfl := fst1_le (fun j => f j && decide (R 4 j ≠ 4)) i
    have ih2 := ih n (i + 1) (by omega) (by omega)
    rw [fX6_passes_25, xc0 (by omega) (by omega), c0, h.2.2.1.2.1, ifle (by omega) (by omega), if_neg (by omega)]
    unfold fX6_passes_72 fX6_passes_74
    rw [a1_e]
    unfold ldI at ih2 ⊢
    rw [fst1_s] at ih2
    by_cases q : fst1 (fun j => f j && decide (R 4 j ≠ 4)) i < i
    · rw [if_pos q, if_pos (by omega)] at ih2
      rw [if_pos q, if_pos (nI_pos' (by omega))]
      exact ih2
    · rw [if_neg q] at ih2
      rw [if_neg q, if_neg (by decide), bit1 (by omega) (by omega), mk_bit, li3, li0, mul_e, add_e, xchk_e (by omega) (by omega), cl_e (by omega), h.2.2.1.2.2.2.2.2.2.2.1 i (by omega), li4, ifeq (by omega) (by omega)]
      cases hf : f i
      · rw [hf] at ih2
        rw [if_neg (by simp)]
        rw [if_neg (show ¬ (false && decide (R 4 i ≠ 4)) = true by simp), if_neg (show ¬ i + 1 < i + 1 by omega)] at ih2
        exact ih2
      · rw [hf] at ih2
        rw [if_pos (by simp; omega)]
        by_cases c : R 4 i = 4
        · rw [if_pos c]
          rw [if_neg (show ¬ (true && decide (R 4 i ≠ 4)) = true by simp [c]), if_neg (show ¬ i + 1 < i + 1 by omega)] at ih2
          exact ih2
        · rw [if_neg c]
          rw [if_pos (show (true && decide (R 4 i ≠ 4)) = true by simp [c]), if_pos (show i < i + 1 by omega)] at ih2
          exact ih2
theorem M_214 {N0 N : xm} {k85 : Int32 → xm → Option (Int32 × xm)} {x1 x2 x3 x4 x5 x6 : Int32} {i a c : Nat} (hs : sameV N0 N) (h1 : N.1 60 17 = nI a) (h2 : N.1 60 18 = nI c) (v : Bool) : ∃ N', fX6_passes_214 k85 x1 x2 x3 x4 x5 x6 (nI i) (if v then 1 else 0) N = k85 (nI (i + 1)) N' ∧ sameV N0 N' ∧ N'.1 60 17 = nI (a + if v then 1 else 0) ∧ N'.1 60 18 = nI (c + if v then 0 else 1) := by
  have up17 : ∀ (M : xm) (x y : Int32), (up (up M 60 17 x) 60 18 y).1 60 17 = x := fun M x y => by rw [up_at, if_neg (by omega), up_at, if_pos ⟨rfl, rfl⟩]
  have up18 : ∀ (M : xm) (x y : Int32), (up (up M 60 17 x) 60 18 y).1 60 18 = y := fun M x y => by rw [up_at, if_pos ⟨rfl, rfl⟩]
  have ups : ∀ (x y : Int32), sameV N0 (up (up N 60 17 x) 60 18 y) := fun x y => ⟨fun a ha => by rw [up_ne ha, up_ne ha]; exact hs.1 a ha, fun j q r => by rw [up_at, if_neg (by omega), up_at, if_neg (by omega)]; exact hs.2 j q r⟩
  unfold fX6_passes_214 fX6_passes_231 fX6_passes_250 fX6_passes_254
  cases v
  · rw [show (if (false : Bool) = true then (1 : Int32) else 0) = 0 from rfl, if_pos rfl, xl_e, if_pos rfl, xl_e, a1_e]
    refine ⟨_, rfl, ups _ _, ?_, ?_⟩
    · rw [up17, h1]; rw [li0, add_e]; rfl
    · rw [up18, up_at, if_neg (by omega), h2, a1_e]; rfl
  · rw [if_neg (by decide), xl_e, if_neg (by decide), xl_e, a1_e]
    refine ⟨_, rfl, ups _ _, ?_, ?_⟩
    · rw [up17, h1, a1_e]; rfl
    · rw [up18, up_at, if_neg (by omega), h2, li0, add_e]; rfl
theorem M_voice {N0 N : xm} {s : Nat} {R W : tR} {k85 : Int32 → xm → Option (Int32 × xm)} (h : MX N s R W) {f : Nat → Bool} {p b more i a c : Nat} {x5 : Int32} (hp : p < 100) (hb : b < 4) (hi : i < nm R) (hm : more < 100) (hs : sameV N0 N) (h1 : N.1 60 17 = nI a) (h2 : N.1 60 18 = nI c) :
    ∃ N', (if ((nI (mk f (nm R)) >>> (nI i &&& 31)) &&& 1) = 0 then fX6_passes_254 k85 (nI s) (nI p) (nI b) (nI more) x5 (ldI (fun j => f j && decide (R 4 j ≠ 4)) (nm R)) (nI i) N else (if nI (R 4 i) = 5 then fX6_passes_254 k85 (nI s) (nI p) (nI b) (nI more) x5 (ldI (fun j => f j && decide (R 4 j ≠ 4)) (nm R)) (nI i) N else (if nI (R 4 i) = 4 then (if (0 : Int32) ≤ (ldI (fun j => f j && decide (R 4 j ≠ 4)) (nm R)) then fX6_passes_144 k85 (nI s) (nI p) (nI b) (nI more) x5 (ldI (fun j => f j && decide (R 4 j ≠ 4)) (nm R)) (nI i) (nI (R 4 i)) N else (if nI more = 0 then fX6_passes_254 k85 (nI s) (nI p) (nI b) (nI more) x5 (ldI (fun j => f j && decide (R 4 j ≠ 4)) (nm R)) (nI i) N else fX6_passes_144 k85 (nI s) (nI p) (nI b) (nI more) x5 (ldI (fun j => f j && decide (R 4 j ≠ 4)) (nm R)) (nI i) (nI (R 4 i)) N)) else fX6_passes_144 k85 (nI s) (nI p) (nI b) (nI more) x5 (ldI (fun j => f j && decide (R 4 j ≠ 4)) (nm R)) (nI i) (nI (R 4 i)) N))) = k85 (nI (i + 1)) N' ∧ sameV N0 N' ∧ N'.1 60 17 = nI (a + if yV R W f p b more i then 1 else 0) ∧ N'.1 60 18 = nI (c + if nV R W f p b i then 1 else 0) := by
  have h8 := h.2.1.1.2.1
  have hs4 := h.1
  have hl := mk_lt f (nm R)
  have hl2 : 2 ^ nm R ≤ 2 ^ 8 := Nat.pow_le_pow_right (by decide) h8
  have hk := (h.2.1.1.2.2.2.2.2 i hi).1
  have skip : yV R W f p b more i = false → nV R W f p b i = false → ∃ N', fX6_passes_254 k85 (nI s) (nI p) (nI b) (nI more) x5 (ldI (fun j => f j && decide (R 4 j ≠ 4)) (nm R)) (nI i) N = k85 (nI (i + 1)) N' ∧ sameV N0 N' ∧ N'.1 60 17 = nI (a + if yV R W f p b more i then 1 else 0) ∧ N'.1 60 18 = nI (c + if nV R W f p b i then 1 else 0) := by
    intro e1 e2
    unfold fX6_passes_254
    rw [a1_e, e1, e2]
    exact ⟨N, rfl, hs, by rw [h1]; rfl, by rw [h2]; rfl⟩
  have vote : ∀ v : Bool, yV R W f p b more i = v → nV R W f p b i = !v → ∃ N', fX6_passes_214 k85 (nI s) (nI p) (nI b) (nI more) x5 (ldI (fun j => f j && decide (R 4 j ≠ 4)) (nm R)) (nI i) (if v then 1 else 0) N = k85 (nI (i + 1)) N' ∧ sameV N0 N' ∧ N'.1 60 17 = nI (a + if yV R W f p b more i then 1 else 0) ∧ N'.1 60 18 = nI (c + if nV R W f p b i then 1 else 0) := by
    intro v e1 e2
    obtain ⟨N', a1, a2, a3, a4⟩ := M_214 (k85 := k85) (x1 := nI s) (x2 := nI p) (x3 := nI b) (x4 := nI more) (x5 := x5) (x6 := ldI (fun j => f j && decide (R 4 j ≠ 4)) (nm R)) (i := i) hs h1 h2 v
    refine ⟨N', a1, a2, ?_, ?_⟩
    · rw [a3, e1]
    · rw [a4, e2]; cases v <;> rfl
  have mind : ∀ j, j < 8 → ∀ e, fX6_passes_199 k85 (nI s) (nI p) (nI b) (nI more) x5 (ldI (fun j => f j && decide (R 4 j ≠ 4)) (nm R)) (nI i) ((25 * nI s) + 8) (nI j) N = fX6_passes_214 k85 (nI s) (nI p) (nI b) (nI more) x5 (ldI (fun j => f j && decide (R 4 j ≠ 4)) (nm R)) (nI i) (if (W 1 j).testBit b then 1 else 0) N ∨ e := by
    intro j hj e
    left
    have hmi := h.2.2.2.2.2.1 j hj
    unfold fX6_passes_199 fX6_passes_209
    rw [li25, li8, mul_e, add_e, add_e, xchk_e (by omega) (by omega), cl_e (by omega), h.2.2.2.1.2.1 j hj, bit1 (by omega) (by omega)]
    cases (W 1 j).testBit b <;> rfl
  rw [bit0 (by omega) (by omega), mk_bit, li5, ifeq (by omega) (by omega), li4, ifeq (by omega) (by omega), li0, ifeq (by omega) (by omega)]
  cases hf : f i
  · rw [if_neg (by simp)]
    exact skip (by unfold yV; simp [hf]) (by unfold nV; simp [hf])
  · rw [if_pos (by simp [hi])]
    by_cases k5 : R 4 i = 5
    · rw [if_pos k5]
      exact skip (by unfold yV; simp [k5]) (by unfold nV; simp [k5])
    · rw [if_neg k5]
      by_cases k4 : R 4 i = 4
      · rw [if_pos k4]
        have hle : lead R f = fst1 (fun j => f j && decide (R 4 j ≠ 4)) (nm R) := rfl
        by_cases q : lead R f < nm R
        · have eld : ldI (fun j => f j && decide (R 4 j ≠ 4)) (nm R) = nI (lead R f) := by unfold ldI; rw [if_pos (by rw [← hle]; exact q)]; rfl
          rw [eld] at skip vote mind ⊢
          rw [if_pos (by rw [← li0]; exact nI_pos' (by omega))]
          unfold fX6_passes_144 fX6_passes_175
          rw [li3, ifeq (by omega) (by omega), if_neg (by omega), li4, ifeq (by omega) (by omega), if_pos k4, if_neg (nI_pos (by omega))]
          have e9 := (mind (lead R f) (by omega) False).resolve_right (fun x => x)
          rw [ifeq (by omega) (by omega), if_pos k4, e9]
          exact vote _ (by unfold yV; simp [hf, k4, q]) (by unfold nV; simp [hf, k4, q])
        · have eld : ldI (fun j => f j && decide (R 4 j ≠ 4)) (nm R) = -1 := by unfold ldI; rw [if_neg (by rw [← hle]; exact q)]
          rw [eld] at skip vote mind ⊢
          rw [if_neg (by decide)]
          by_cases m0 : more = 0
          · rw [if_pos m0]
            exact skip (by unfold yV; simp [k4, q, m0]) (by unfold nV; simp [k4, q])
          · rw [if_neg m0]
            unfold fX6_passes_144 fX6_passes_209
            rw [li3, ifeq (by omega) (by omega), if_neg (by omega), li4, ifeq (by omega) (by omega), if_pos k4, if_pos (by decide)]
            exact vote true (by unfold yV; simp [hf, k4, q]; omega) (by unfold nV; simp [k4, q])
      · rw [if_neg k4]
        unfold fX6_passes_144 fX6_passes_175
        rw [li3, ifeq (by omega) (by omega), li4, ifeq (by omega) (by omega), par_e p hp, li0, ifeq (by omega) (by omega)]
        by_cases k3 : R 4 i = 3
        · rw [if_pos k3]
          by_cases q : p % 2 = 0
          · rw [if_pos q]
            exact vote true (by unfold yV; simp [hf, k3, q]) (by unfold nV; simp [k3, q])
          · rw [if_neg q]
            exact vote false (by unfold yV; simp [k3, q]) (by unfold nV; simp [hf, k3]; omega)
        · rw [if_neg k3, if_neg k4, ifeq (by omega) (by omega), if_neg k4]
          have e9 := (mind i (by omega) False).resolve_right (fun x => x)
          rw [e9]
          exact vote _ (by unfold yV; simp [hf, k3, k4, k5]) (by unfold nV; simp [hf, k3, k4, k5])
theorem M_voices_l {N0 : xm} {s : Nat} {R W : tR} {f : Nat → Bool} {p b more : Nat} (hp : p < 100) (hb : b < 4) (hm : more < 100) : ∀ k n i N, nm R = i + k → k < n → MX N s R W → sameV N0 N → N.1 60 17 = nI (more + cnt (yV R W f p b more) i) → N.1 60 18 = nI (cnt (nV R W f p b) i) →
    ∃ N', fX6_passes_85 (nI s) (nI p) (nI b) (nI more) (nI (mk f (nm R))) (ldI (fun j => f j && decide (R 4 j ≠ 4)) (nm R)) n (nI i) N = some (nI (if cnt (nV R W f p b) (nm R) < more + cnt (yV R W f p b more) (nm R) ∧ qu R ≤ cnt f (nm R) + more then 1 else 0), N') ∧ sameV N0 N' ∧ N'.1 60 17 = nI (more + cnt (yV R W f p b more) (nm R)) ∧ N'.1 60 18 = nI (cnt (nV R W f p b) (nm R)) := by
  intro k
  induction k with
  | zero =>
    intro n i N e hn h hs h1 h2
    obtain ⟨n, rfl⟩ : ∃ k, n = k + 1 := ⟨n - 1, by omega⟩
    have h8 := h.2.1.1.2.1
    have hq := h.2.1.1.2.2.1
    have hc1 := cnt_le f (nm R)
    have hc2 := cnt_le (yV R W f p b more) (nm R)
    have hc3 := cnt_le (nV R W f p b) (nm R)
    rw [show i = nm R by omega] at h1 h2 ⊢
    rw [fX6_passes_85, xc0 (by omega) (by omega), c0, h.2.2.1.2.1, ifle (by omega) (by omega), if_pos (Nat.le_refl _), h1, h2, ifle (by omega) (by omega), many_mk h8, bind_e, xc0 (by omega) (by omega), h.2.2.1.2.2.1, add_e, iflt (by omega) (by omega)]
    unfold fX6_passes_292 fX6_passes_293
    rw [xbo_0, xbo_1]
    refine ⟨N, ?_, hs, h1, h2⟩
    by_cases q : more + cnt (yV R W f p b more) (nm R) ≤ cnt (nV R W f p b) (nm R)
    · rw [if_pos q, if_neg (by omega)]; rfl
    · rw [if_neg q]
      by_cases q2 : cnt f (nm R) + more < qu R
      · rw [if_pos q2, if_neg (by omega)]; rfl
      · rw [if_neg q2, if_pos (by omega)]; rfl
  | succ k ih =>
    intro n i N e hn h hs h1 h2
    obtain ⟨n, rfl⟩ : ∃ k, n = k + 1 := ⟨n - 1, by omega⟩
    have h8 := h.2.1.1.2.1
    obtain ⟨N1, a1, a2, a3, a4⟩ := M_voice (k85 := fun z0 z1 => fX6_passes_85 (nI s) (nI p) (nI b) (nI more) (nI (mk f (nm R))) (ldI (fun j => f j && decide (R 4 j ≠ 4)) (nm R)) n z0 z1) h (f := f) (x5 := nI (mk f (nm R))) (i := i) hp hb (by omega) hm hs h1 h2
    have e3 : (3 * nI i + 0 : Int32) = nI (3 * i + 0) := by rw [li3, li0, mul_e, add_e]
    rw [fX6_passes_85, xc0 (by omega) (by omega), c0, h.2.2.1.2.1, ifle (by omega) (by omega), if_neg (by omega), e3, xchk_e (by omega) (by omega), cl_e (by omega), h.2.2.1.2.2.2.2.2.2.2.1 i (by omega), xl_e]
    have a1 := a1
    rw [a1]
    have c1 : more + cnt (yV R W f p b more) i + (if yV R W f p b more i = true then 1 else 0) = more + cnt (yV R W f p b more) (i + 1) := Nat.add_assoc _ _ _
    have c2 : cnt (nV R W f p b) i + (if nV R W f p b i = true then 1 else 0) = cnt (nV R W f p b) (i + 1) := rfl
    rw [c1] at a3
    rw [c2] at a4
    have hv : sameV N N1 ∨ True := Or.inr trivial
    exact ih n (i + 1) N1 (by omega) (by omega) (by
      refine ⟨h.1, h.2.1, h.2.2.1.same (fun a q r => by rw [a2.1 a (by omega), hs.1 a (by omega)]), ?_, h.2.2.2.2⟩
      have h9 := h.2.2.2.1
      unfold encM at h9 ⊢
      rw [a2.1 67 (by omega), ← hs.1 67 (by omega)]
      exact h9) a2 a3 a4
theorem M_passes {N : xm} {s : Nat} {R W : tR} (h : MX N s R W) {p b more : Nat} (hp : p < np R) (hb : b < 4) (hm : more < 100) : ∃ N', fX6_passes (nI s) (nI p) (nI b) (nI more) N = some (nI (if passS R W p b more then 1 else 0), N') ∧ sameV N N' ∧ N'.1 60 17 = nI (yesS R W p b more) ∧ N'.1 60 18 = nI (noS R W p b) := by
  have h6 := h.2.1.1.1
  have h8 := h.2.1.1.2.1
  have hs : sameV N (up (up N 60 17 (nI more)) 60 18 0) := ⟨fun a ha => by rw [up_ne ha, up_ne ha], fun j q r => by rw [up_at, if_neg (by omega), up_at, if_neg (by omega)]⟩
  have h' := h.voc hs
  unfold fX6_passes
  rw [M_there h (by omega), bind_e, xl_e, xl_e]
  have e1 := M_lead_l h' (inP R W p) (x1 := nI s) (x2 := nI p) (x3 := nI b) (x4 := nI more) (nm R) xfuel 0 (by omega) (by show _ < 1000; omega)
  have e2 : ldI (fun j => inP R W p j && decide (R 4 j ≠ 4)) 0 = -1 := rfl
  rw [e2] at e1
  have e1 : fX6_passes_25 (nI s) (nI p) (nI b) (nI more) (nI (mk (inP R W p) (nm R))) (up (up N 60 17 (nI more)) 60 18 0) xfuel (-1) 0 = _ := e1
  rw [e1]
  obtain ⟨N', a1, a2, a3, a4⟩ := M_voices_l (N0 := N) (s := s) (R := R) (W := W) (f := inP R W p) (p := p) (b := b) (more := more) (by omega) hb hm (nm R) xfuel 0 _ (by omega) (by show _ < 1000; omega) h' hs (by rw [up_at, if_neg (by omega), up_at, if_pos ⟨rfl, rfl⟩]; rfl) (by rw [up_at, if_pos ⟨rfl, rfl⟩]; rfl)
  have a1 : fX6_passes_85 (nI s) (nI p) (nI b) (nI more) (nI (mk (inP R W p) (nm R))) (ldI (fun j => inP R W p j && decide (R 4 j ≠ 4)) (nm R)) xfuel 0 (up (up N 60 17 (nI more)) 60 18 0) = _ := a1
  rw [a1]
  refine ⟨N', ?_, a2, a3, a4⟩
  unfold passS noS yesS
  by_cases q : cnt (nV R W (inP R W p) p b) (nm R) < more + cnt (yV R W (inP R W p) p b more) (nm R) ∧ qu R ≤ cnt (inP R W p) (nm R) + more
  · rw [if_pos q, if_pos (by simpa using q)]
  · rw [if_neg q, if_neg (by simpa using q)]
