/-! THE PROMISE order: the reference -/
theorem xnz_e {ρ : Type} {d : Nat} {o : Option ρ} (h : 1 ≤ d) (h2 : d < 1000) : xnz (nI d) o = o := by
  unfold xnz
  rw [li0, ifeq (by omega) (by omega), if_neg (by omega)]
section
variable {M N : xm} {R W : tR} {K : Nat → tR} {kn : Nat} {L : tR} {ln : Nat} {T : Nat → Int32} {tl : Nat}
theorem M_holds_56 {V : tR} (h : MX N 3 R V) : ∀ k n b, nb R = b + k → k < n → fX6_holds_56 (nI (nb R)) N n (nI (cnt (heldS R V) b)) (nI b) = some (nI (cnt (heldS R V) (nb R)), N) := by
  have hnb := h.2.1.1.2.2.2.1
  intro k
  induction k with
  | zero =>
    intro n b e hn
    obtain ⟨n, rfl⟩ : ∃ k, n = k + 1 := ⟨n - 1, by omega⟩
    rw [fX6_holds_56, ifle (by omega) (by omega), if_pos (by omega), show b = nb R by omega]
  | succ k ih =>
    intro n b e hn
    obtain ⟨n, rfl⟩ : ∃ k, n = k + 1 := ⟨n - 1, by omega⟩
    have ih2 := ih n (b + 1) (by omega) (by omega)
    rw [show cnt (heldS R V) (b + 1) = cnt (heldS R V) b + (if heldS R V b then 1 else 0) from rfl] at ih2
    have hh := M_isHeld h (b := b) (by omega)
    have hh : fX6_isHeld 3 (nI b) N = _ := hh
    rw [fX6_holds_56, ifle (by omega) (by omega), if_neg (by omega), hh, bind_e]
    unfold fX6_holds_76
    rw [xl_e, xl_e, a1_e, a1_e, li0, ifeq (by split <;> omega) (by omega)]
    cases q : heldS R V b
    · rw [q, if_neg (show ¬ (false : Bool) = true by decide)] at ih2
      rw [if_neg (show ¬ (false : Bool) = true by decide), if_pos rfl, add_e]
      exact ih2
    · rw [q, if_pos rfl] at ih2
      rw [if_pos rfl, if_neg (by decide)]
      exact ih2
theorem M_holds_15 {N0 : xm} {r : Nat → Nat} (hW : W 4 0 ≤ 9999) (hr : ∀ t, t < nb R → N0.1 70 t = nI (r t) ∧ r t < 4) : ∀ k n j N Q, 201 = j + k → k < n → MX N 3 R (setP (hoursS R (j - 1) W) (rsO R W r (nb R) j) Q) → sameM N0 N 3 → ∃ N', fX6_holds_15 (nI (nb R)) n (nI j) N = some (nI (cnt (fun b => decide (rsO R W r (nb R) 201 b = 2 ^ np R - 1)) (nb R)), N') ∧ sameM N0 N' 3 := by
  intro k
  induction k with
  | zero =>
    intro n j N Q e hn h hs
    obtain ⟨n, rfl⟩ : ∃ k, n = k + 1 := ⟨n - 1, by omega⟩
    have hnb := h.2.1.1.2.2.2.1
    have h1 := M_holds_56 h (nb R) xfuel 0 (by omega) (by show _ < 1000; omega)
    have h1 : fX6_holds_56 (nI (nb R)) N xfuel 0 0 = _ := h1
    rw [fX6_holds_15, show (200 : Int32) = nI 200 from rfl, iflt (by omega) (by omega), if_pos (by omega), h1]
    refine ⟨N, ?_, hs⟩
    rw [show j = 201 by omega]
    rfl
  | succ k ih =>
    intro n j N Q e hn h hs
    obtain ⟨n, rfl⟩ : ∃ k, n = k + 1 := ⟨n - 1, by omega⟩
    have hnb := h.2.1.1.2.2.2.1
    have hml := Nat.mod_lt j (show nb R > 0 by omega)
    have go : ∀ N1, MX N1 3 R (setP (hoursS R j W) (rsO R W r (nb R) j) Q) → sameM N0 N1 3 → ∃ N', fX6_holds_32 (fun z0 z1 => fX6_holds_15 (nI (nb R)) n z0 z1) (nI (nb R)) (nI j) N1 = some (nI (cnt (fun b => decide (rsO R W r (nb R) 201 b = 2 ^ np R - 1)) (nb R)), N') ∧ sameM N0 N' 3 := by
      intro N1 h1 hs1
      obtain ⟨hr1, hr2⟩ := hr (j % nb R) hml
      obtain ⟨N2, a1, a2, a3⟩ := M_isRead h1 (b := r (j % nb R)) hr2
      have a1 : fX6_isRead 3 (nI (r (j % nb R))) N1 = _ := a1
      obtain ⟨Q', hq⟩ := setP_read R (hoursS R j W) (rsO R W r (nb R) j) Q (r (j % nb R))
      rw [hq] at a2
      unfold fX6_holds_32
      rw [rem_e (by omega) (by omega) (by omega), xnz_e (by omega) (by omega), xchk_e (by omega) (by omega), cl_e (by omega), hs1.1 70 (by omega) (by omega), hr1, a1, bind_e, a1_e]
      exact ih n (j + 1) N2 Q' (by omega) (by omega) a2 (hs1.tr a3)
    rw [fX6_holds_15, show ∀ x y : Option (Int32 × xm), (if (200 : Int32) < nI j then x else y) = y from fun x y => by rw [show (200 : Int32) = nI 200 from rfl, iflt (by omega) (by omega), if_neg (by omega)], li0, ifle (by omega) (by omega)]
    by_cases c : j = 0
    · rw [if_pos (by omega)]
      refine go N ?_ hs
      rw [c] at h ⊢
      exact h
    · rw [if_neg (by omega)]
      have hb := hoursS_h R (j - 1) W
      obtain ⟨N1, b1, b2, b3⟩ := M_hour st_none (by show hoursS R (j - 1) W 4 0 < _; omega) h
      have b1 : fX6_hour 3 (-1) N = _ := b1
      rw [b1, bind_e]
      refine go N1 ?_ (hs.tr b3)
      rw [setP_hour, show hourS R (hoursS R (j - 1) W) 8 = hoursS R j W from by rw [show j = (j - 1) + 1 by omega]; rfl] at b2
      exact b2
theorem M_holds {r : Nat → Nat} (hW : W 4 0 ≤ 9999) (h : MX N 0 R W) (hr : ∀ t, t < nb R → N.1 70 t = nI (r t) ∧ r t < 4) : ∃ N', fX6_holds N = some (nI (cnt (fun b => decide (rsO R W r (nb R) 201 b = 2 ^ np R - 1)) (nb R)), N') ∧ sameM N N' 3 := by
  obtain ⟨N1, a1, a2, a3⟩ := M_copies h (y := 3) (by omega) (by omega)
  have a1 : fX6_copies 0 3 N = _ := a1
  have e : W = setP (hoursS R (0 - 1) W) (rsO R W r (nb R) 0) (W 3) := (setP_self W).symm
  rw [e] at a2
  obtain ⟨N2, b1, b2⟩ := M_holds_15 (N0 := N1) (r := r) hW (fun t ht => by rw [a3.1 70 (by omega) (by omega)]; exact hr t ht) 201 xfuel 0 N1 (W 3) (by omega) (by show _ < 1000; omega) a2 sameM.rf
  have b1 : fX6_holds_15 (nI (nb R)) xfuel 0 N1 = _ := b1
  unfold fX6_holds
  rw [xc1 (by omega) (by omega), c1, h.2.2.1.2.2.2.1, xl_e, a1, bind_e, b1]
  exact ⟨N2, rfl, a3.tr b2⟩
def onM (N N' : xm) : Prop := (∀ a, (a < 67 ∨ a = 68) → a ≠ 60 → N'.1 a = N.1 a) ∧ (∀ j, j < 75 → N'.1 67 j = N.1 67 j) ∧ (∀ j, j ≠ 17 → j ≠ 18 → N'.1 60 j = N.1 60 j)
theorem onM.rf : onM N N := ⟨fun _ _ _ => rfl, fun _ _ => rfl, fun _ _ _ => rfl⟩
theorem onM.tr {N' N'' : xm} (h : onM N N') (h2 : onM N' N'') : onM N N'' := ⟨fun a q r => (h2.1 a q r).trans (h.1 a q r), fun j q => (h2.2.1 j q).trans (h.2.1 j q), fun j q r => (h2.2.2 j q r).trans (h.2.2 j q r)⟩
theorem onM.up {k j : Nat} {v : Int32} (h : 68 < k) : onM N (up N k j v) := ⟨fun a q r => up_ne (by omega), fun i q => by rw [up_ne (by omega)], fun i q r => by rw [up_ne (by omega)]⟩
theorem onM.of {N' : xm} (h : sameM N N' 3) : onM N N' := ⟨fun a q r => h.1 a (by omega) r, fun j q => h.2.2 j (by omega), h.2.1⟩
theorem AM.on {N' : xm} (hk : kn ≤ 2) (h : AM N R W K kn L ln T tl) (ho : onM N N') : AM N' R W K kn L ln T tl := h.keep hk (fun a q => ho.1 a (by omega) (by omega)) ho.2.1 (fun j q => ho.2.2 j (by omega) (by omega))
theorem M_ord_117 {h m x B : Nat} {x1 : Int32} {k29 : Int32 → Int32 → xm → Option (Int32 × xm)} (hB : B ≤ 4) (hh : h < 900) (hm : m < 900) (c : ¬ h + 1 ≤ m) : ∀ k n t N, B = t + k → k < n → (∀ s, s < B → N.1 70 s = nI (rowD x B s)) → (∀ s, s < t → N.1 71 s = nI (rowD x B s)) → ∃ N', fX6_order_117 k29 x1 (nI B) (nI m - 1) (nI x) (nI h) n (nI t) N = k29 (nI (h + 1) - 1) (nI (x + 1)) N' ∧ onM N N' ∧ (∀ s, s < B → N'.1 71 s = nI (rowD x B s)) := by
  intro k
  induction k with
  | zero =>
    intro n t N e hn h0 h1
    obtain ⟨n, rfl⟩ : ∃ k, n = k + 1 := ⟨n - 1, by omega⟩
    rw [fX6_order_117, ifle (by omega) (by omega), if_pos (by omega)]
    unfold fX6_order_149 fX6_order_161 fX6_order_162
    rw [m_le (by omega) (by omega), if_neg c, a1_e, ← m_p1]
    exact ⟨N, rfl, onM.rf, fun s hs => h1 s (by omega)⟩
  | succ k ih =>
    intro n t N e hn h0 h1
    obtain ⟨n, rfl⟩ : ∃ k, n = k + 1 := ⟨n - 1, by omega⟩
    obtain ⟨N1, a1, a2, a3⟩ := ih n (t + 1) (up N 71 t (nI (rowD x B t))) (by omega) (by omega) (fun s hs => by rw [up_ne (by omega)]; exact h0 s hs) (fun s hs => by
      rw [up_at]
      by_cases d : s = t
      · rw [if_pos ⟨rfl, d⟩, d]
      · rw [if_neg (by omega)]; exact h1 s (by omega))
    rw [fX6_order_117, ifle (by omega) (by omega), if_neg (by omega), m_le (by omega) (by omega), if_neg c, xchk_e (by omega) (by omega), xchk_e (by omega) (by omega), xl_e, cl_e (by omega), h0 t (by omega), a1_e, a1]
    exact ⟨N1, rfl, (onM.up (by omega)).tr a2, a3⟩
theorem M_ord_117s {h m x B : Nat} {x1 : Int32} {k29 : Int32 → Int32 → xm → Option (Int32 × xm)} (hB : B ≤ 4) (hB1 : 1 ≤ B) (hh : h < 900) (hm : m < 900) (c : h + 1 ≤ m) (N : xm) : fX6_order_117 k29 x1 (nI B) (nI m - 1) (nI x) (nI h) xfuel 0 N = k29 (nI m - 1) (nI (x + 1)) N := by
  rw [show xfuel = 999 + 1 from rfl, fX6_order_117, li0, ifle (by omega) (by omega), if_neg (by omega), m_le (by omega) (by omega), if_pos c]
  unfold fX6_order_149 fX6_order_161 fX6_order_162
  rw [m_le (by omega) (by omega), if_pos c, a1_e]
theorem M_ord_43 {x : Nat} {x1 : Int32} {k29 : Int32 → Int32 → xm → Option (Int32 × xm)} (hW : W 4 0 ≤ 9999) (hK : kn ≤ 2) (hx : x < 256) : ∀ k n t N, nb R = t + k → k < n → AM N R W K kn L ln T tl → (∀ s, s < t → N.1 70 s = nI (rowD x (nb R) s)) → (moO R W (nb R) x ≠ 0 → ∀ s, s < nb R → N.1 71 s = nI (rowD (beO R W (nb R) x) (nb R) s)) → ∃ N', fX6_order_43 k29 x1 (nI (nb R)) (nI (moO R W (nb R) x) - 1) (nI x) n (nI (seenN x (nb R) t)) (nI t) N = k29 (nI (moO R W (nb R) (x + 1)) - 1) (nI (x + 1)) N' ∧ AM N' R W K kn L ln T tl ∧ (moO R W (nb R) (x + 1) ≠ 0 → ∀ s, s < nb R → N'.1 71 s = nI (rowD (beO R W (nb R) (x + 1)) (nb R) s)) := by
  intro k
  induction k with
  | zero =>
    intro n t N e hn hB h0 h1
    obtain ⟨n, rfl⟩ : ∃ k, n = k + 1 := ⟨n - 1, by omega⟩
    have hR := hB.1.2.1
    have hnb := hR.1.2.2.2.1
    have hs := seen_lt x (nb R) t
    have h16 : 2 ^ nb R ≤ 2 ^ 4 := Nat.pow_le_pow_right (by decide) hnb.2
    have hmo := mo_le R W (nb R) x
    have ho := ho_le R W (nb R) x
    have hd : x / 2 ^ (2 * nb R) ≤ x := Nat.div_le_self _ _
    have hz : x / 2 ^ (2 * nb R) = 0 ↔ x < 2 ^ (2 * nb R) := by
      rw [Nat.div_eq_zero_iff]
      constructor
      · rintro (q | q)
        · have : 0 < 2 ^ (2 * nb R) := Nat.pow_pos (by decide)
          omega
        · exact q
      · exact Or.inr
    have keepit : okRow (nb R) x = false → ∃ N', k29 (nI (moO R W (nb R) x) - 1) (nI (x + 1)) N = k29 (nI (moO R W (nb R) (x + 1)) - 1) (nI (x + 1)) N' ∧ AM N' R W K kn L ln T tl ∧ (moO R W (nb R) (x + 1) ≠ 0 → ∀ s, s < nb R → N'.1 71 s = nI (rowD (beO R W (nb R) (x + 1)) (nb R) s)) := by
      intro q
      have e1 : moO R W (nb R) (x + 1) = moO R W (nb R) x := if_neg (fun h => by rw [q] at h; cases h.1)
      have e2 : beO R W (nb R) (x + 1) = beO R W (nb R) x := if_neg (fun h => by rw [q] at h; cases h.1)
      rw [e1, e2]
      exact ⟨N, rfl, hB, h1⟩
    rw [fX6_order_43, ifle (by omega) (by omega), if_pos (by omega), li2, mul_e, shr_e (by omega) (by omega), li0, ifeq (by omega) (by omega)]
    unfold fX6_order_162
    rw [all_e (by omega), show t = nb R by omega, ifeq (by have := seen_lt x (nb R) (nb R); omega) (by omega), a1_e]
    by_cases c1 : x < 2 ^ (2 * nb R)
    · rw [if_pos (hz.mpr c1)]
      by_cases c2 : seenN x (nb R) (nb R) = 2 ^ nb R - 1
      · have q : okRow (nb R) x = true := by unfold okRow; simp [c1, c2]
        obtain ⟨r1, r2, r3⟩ := perm_all (nb R) (by omega) x (by omega) q
        obtain ⟨N1, a1, a2⟩ := M_holds (r := rowD x (nb R)) hW hB.1 (fun t ht => ⟨h0 t (by omega), row_lt _ _ _⟩)
        have eh : cnt (fun b => decide (rsO R W (rowD x (nb R)) (nb R) 201 b = 2 ^ np R - 1)) (nb R) = hoO R W (nb R) x := by
          rw [← cnt_perm (x := x) (by omega) hx q (fun b => decide (rsO R W (rowD x (nb R)) (nb R) 201 b = 2 ^ np R - 1))]
          unfold hoO
          refine cnt_cong (fun t ht => ?_)
          rw [rs_ps (by omega) ht r2]
        rw [eh] at a1
        have hB1 : AM N1 R W K kn L ln T tl := hB.on hK (onM.of a2)
        rw [if_pos c2, a1, bind_e]
        by_cases c : hoO R W (nb R) x + 1 ≤ moO R W (nb R) x
        · have e1 : moO R W (nb R) (x + 1) = moO R W (nb R) x := if_neg (fun h => h.2 c)
          have e2 : beO R W (nb R) (x + 1) = beO R W (nb R) x := if_neg (fun h => h.2 c)
          have := M_ord_117s (x1 := x1) (x := x) (k29 := k29) hnb.2 hnb.1 (show hoO R W (nb R) x < 900 by omega) (show moO R W (nb R) x < 900 by omega) c N1
          have this : fX6_order_117 k29 x1 (nI (nb R)) (nI (moO R W (nb R) x) - 1) (nI x) (nI (hoO R W (nb R) x)) xfuel (nI 0) N1 = _ := this
          rw [this, e1, e2]
          exact ⟨N1, rfl, hB1, fun q s hs => by rw [a2.1 71 (by omega) (by omega)]; exact h1 q s hs⟩
        · have e1 : moO R W (nb R) (x + 1) = hoO R W (nb R) x + 1 := if_pos ⟨q, c⟩
          have e2 : beO R W (nb R) (x + 1) = x := if_pos ⟨q, c⟩
          obtain ⟨N2, b1, b2, b3⟩ := M_ord_117 (x1 := x1) (x := x) (k29 := k29) hnb.2 (show hoO R W (nb R) x < 900 by omega) (show moO R W (nb R) x < 900 by omega) c (nb R) xfuel 0 N1 (by omega) (by show _ < 1000; omega) (fun s hs => by rw [a2.1 70 (by omega) (by omega)]; exact h0 s (by omega)) (fun s hs => absurd hs (by omega))
          have b1 : fX6_order_117 k29 x1 (nI (nb R)) (nI (moO R W (nb R) x) - 1) (nI x) (nI (hoO R W (nb R) x)) xfuel (nI 0) N1 = _ := b1
          rw [b1, e1, e2]
          exact ⟨N2, rfl, hB1.on hK b2, fun _ => b3⟩
      · rw [if_neg c2]
        exact keepit (by unfold okRow; simp [c2])
    · rw [if_neg (fun h => c1 (hz.mp h))]
      exact keepit (by unfold okRow; simp [c1])
  | succ k ih =>
    intro n t N e hn hB h0 h1
    obtain ⟨n, rfl⟩ : ∃ k, n = k + 1 := ⟨n - 1, by omega⟩
    have hnb := hB.1.2.1.1.2.2.2.1
    have hr := row_lt x (nb R) t
    obtain ⟨N1, a1, a2, a3⟩ := ih n (t + 1) (up N 70 t (nI (rowD x (nb R) t))) (by omega) (by omega) (hB.on hK (onM.up (by omega))) (fun s hs => by
      rw [up_at]
      by_cases d : s = t
      · rw [if_pos ⟨rfl, d⟩, d]
      · rw [if_neg (by omega)]; exact h0 s (by omega)) (fun q s hs => by rw [up_ne (by omega)]; exact h1 q s hs)
    rw [fX6_order_43, ifle (by omega) (by omega), if_neg (by omega), xchk_e (by omega) (by omega), xl_e, row_e hx (by omega) (by omega), xchk_e (by omega) (by omega), xl_e, cl_e (by omega), up_at, if_pos ⟨rfl, rfl⟩, one_shl (by omega), nI_or, a1_e]
    exact ⟨N1, a1, a2, a3⟩
theorem M_ord_29 {x1 : Int32} (hW : W 4 0 ≤ 9999) (hK : kn ≤ 2) : ∀ k n x N, 256 = x + k → k < n → AM N R W K kn L ln T tl → (moO R W (nb R) x ≠ 0 → ∀ s, s < nb R → N.1 71 s = nI (rowD (beO R W (nb R) x) (nb R) s)) → ∃ N', fX6_order_29 x1 (nI (nb R)) n (nI (moO R W (nb R) x) - 1) (nI x) N = (if (0 : Int32) ≤ x1 then xchk x1 4 (some (N'.1 71 x1.toNatClampNeg, N')) else some (nI (moO R W (nb R) 256) - 1, N')) ∧ AM N' R W K kn L ln T tl ∧ (moO R W (nb R) 256 ≠ 0 → ∀ s, s < nb R → N'.1 71 s = nI (rowD (beO R W (nb R) 256) (nb R) s)) := by
  intro k
  induction k with
  | zero =>
    intro n x N e hn hB h1
    obtain ⟨n, rfl⟩ : ∃ k, n = k + 1 := ⟨n - 1, by omega⟩
    rw [fX6_order_29, show ∀ a b : Option (Int32 × xm), (if (256 : Int32) ≤ nI x then a else b) = a from fun a b => by rw [show (256 : Int32) = nI 256 from rfl, ifle (by omega) (by omega), if_pos (by omega)]]
    rw [show x = 256 by omega] at h1 ⊢
    exact ⟨N, rfl, hB, h1⟩
  | succ k ih =>
    intro n x N e hn hB h1
    obtain ⟨n, rfl⟩ : ∃ k, n = k + 1 := ⟨n - 1, by omega⟩
    have hnb := hB.1.2.1.1.2.2.2.1
    obtain ⟨N1, a1, a2, a3⟩ := M_ord_43 (x1 := x1) (k29 := fun z0 z1 z2 => fX6_order_29 x1 (nI (nb R)) n z0 z1 z2) hW hK (show x < 256 by omega) (nb R) xfuel 0 N (by omega) (by show _ < 1000; omega) hB (fun s hs => absurd hs (by omega)) h1
    have a1 : fX6_order_43 (fun z0 z1 z2 => fX6_order_29 x1 (nI (nb R)) n z0 z1 z2) x1 (nI (nb R)) (nI (moO R W (nb R) x) - 1) (nI x) xfuel 0 0 N = _ := a1
    rw [fX6_order_29, show ∀ a b : Option (Int32 × xm), (if (256 : Int32) ≤ nI x then a else b) = b from fun a b => by rw [show (256 : Int32) = nI 256 from rfl, ifle (by omega) (by omega), if_neg (by omega)], a1]
    exact ih n (x + 1) N1 (by omega) (by omega) a2 a3
theorem p_order (x1 : Int32) (hA : AX M R W K kn L ln T tl) (hB : AM N R W K kn L ln T tl) : Same M N (fX5_order x1 M) (fX6_order x1 N) := by
  have hR := hA.1.2.1
  have hnb := hR.1.2.2.2.1
  have hW := hA.2.2.1
  obtain ⟨x0, hx0, ok0⟩ := some_all (nb R) (by omega) hnb.1
  have h256 : 2 ^ (2 * nb R) ≤ 2 ^ 8 := Nat.pow_le_pow_right (by decide) (by omega)
  have hmp : moO R W (nb R) (2 ^ (2 * nb R)) ≠ 0 := by
    have := mo_pos (R := R) (W := W) ok0 (2 ^ (2 * nb R) - (x0 + 1))
    rw [show x0 + 1 + (2 ^ (2 * nb R) - (x0 + 1)) = 2 ^ (2 * nb R) by omega] at this
    exact this
  obtain ⟨f1, f2⟩ := mo_more R W (nb R) (256 - 2 ^ (2 * nb R))
  rw [show 2 ^ (2 * nb R) + (256 - 2 ^ (2 * nb R)) = 256 by omega] at f1 f2
  obtain ⟨M1, a1, a2, a3⟩ := X_look hA (n := 0) (by omega)
  have a1 : fX5_lookAhead 0 M = _ := a1
  have a2 : WX M1 27 R W := a2
  obtain ⟨M2, b1, b2, b3, b4, b5⟩ := X_weigh hW a2 a3
  obtain ⟨N1, c1', c2, c3⟩ := M_ord_29 (x1 := x1) hW hA.2.2.2.1.1 256 xfuel 0 N (by omega) (by show _ < 1000; omega) hB (fun q => absurd rfl q)
  have c1' : fX6_order_29 x1 (nI (nb R)) xfuel (-1) 0 N = _ := c1'
  have hX := hA.rdX
  have hN := hB.1.2.2.1
  unfold fX5_order fX6_order fX5_order_15 fX5_order_55
  rw [xc1 (by omega) (by omega), c1, hN.2.2.2.1, xl_e, i64_m1, in_e, bind_e, a1, bind_e, b1, bind_e, sub1_e hnb.1, c1', f1]
  rw [f1, f2] at c3
  by_cases c : x1 = -1
  · rw [if_pos c, if_pos c, c, if_pos (show (-1 : Int32) ≤ -1 ∧ (-1 : Int32) ≤ nI (nb R - 1) from ⟨by decide, by
      rw [Int32.le_iff_toInt_le, nI_toInt (by omega)]
      show (-1 : Int) ≤ _
      omega⟩), i1n0, if_neg (by decide), b4]
    exact ⟨_, _, _, rfl, rfl, R, W, K, kn, L, ln, T, tl, b2, c2⟩
  · rw [if_neg c, if_neg c]
    rcases G_bill x1 hX hN hR with ⟨i, hi, rfl, g3, g4⟩ | ⟨g3, g4, g5⟩
    · rw [g3, bind_e, i1n0, if_pos (show (-1 : Int32) ≤ nI i ∧ nI i ≤ nI (nb R - 1) from ⟨by
        rw [Int32.le_iff_toInt_le, nI_toInt (by omega)]
        show (-1 : Int) ≤ _
        omega, nI_le (by omega) (by omega)⟩), i1n0, xchk_e (by omega) (by omega), cl_e (by omega), b5 hmp i hi, li0, ifle (by omega) (by omega), if_pos (by omega), xchk_e (by omega) (by omega), c3 hmp i hi]
      exact ⟨_, _, _, rfl, rfl, R, W, K, kn, L, ln, T, tl, b2, c2⟩
    · rw [g3, bind_e, i0e0, if_neg (show ¬ ((-1 : Int32) ≤ x1 ∧ x1 ≤ nI (nb R - 1)) by
        rintro ⟨d1, d2⟩
        refine g5 ((le_nI hnb.1 (by omega)).mp ⟨?_, by rw [sub1_e hnb.1]; exact d2⟩)
        rw [Int32.le_iff_toInt_le] at d1 ⊢
        have e1 : (-1 : Int32).toInt = -1 := by decide
        have e2 : (0 : Int32).toInt = 0 := by decide
        have : x1.toInt ≠ -1 := fun e => c (Int32.toInt_inj.mp (e.trans e1.symm))
        omega), i0e0]
      exact stay_b hA hB _
end
