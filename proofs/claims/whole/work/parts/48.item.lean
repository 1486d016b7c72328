/-! THE TEXT: the loop over the numbers, the item -/
def dK (k : Nat) : Nat := if k = 0 then 0 else 1
theorem sgn_ne (w k : Nat) : ¬ sgn w k = (-1 : Int32) := by
  unfold sgn
  by_cases c : w ≤ k + 1
  · rw [if_pos c]; decide
  · rw [if_neg c]; decide
section
variable {M N : xm} {D : tR} {r : Nat} {T : Nat → Int32} {tl : Nat}
theorem X_29_stop (c : Int32) (w k : Int32) {n : Nat} (h : 0 < n) (M : xm) : fX3_takeItem_29 r c w n (-1) k M = some (-1, M) := by
  obtain ⟨n, rfl⟩ : ∃ k, n = k + 1 := ⟨n - 1, by omega⟩
  exact X_29_no c w k n M
theorem M_67_stop (c : Int32) (w k : Int32) {n : Nat} (h : 0 < n) (N : xm) : ∃ N', fX6_isItem_67 c w n 0 k N = some (0, N') ∧ onJ N N' := by
  obtain ⟨n, rfl⟩ : ∃ k, n = k + 1 := ⟨n - 1, by omega⟩
  exact M_67_no c w k n N
theorem X_29_go {c : Int32} {w k Q n : Nat} (hw : w ≤ 3) (hk : k < w) (hQ : Q < 700) : fX3_takeItem_29 r c (nI w) (n + 1) (nI Q) (nI k) M = (fX3_takeNumber (nI Q) (nI k) (sgn w k) M).bind (fun q => fX3_takeItem_29 r c (nI w) n q.1 (nI (k + 1)) q.2) := by
  rw [fX3_takeItem_29, ifle (by omega) (by omega), if_neg (by omega), if_neg (nI_m1 (by omega)), a1_e, ifle (by omega) (by omega)]
  unfold fX3_takeItem_63 sgn
  rw [a1_e]
  by_cases q : w ≤ k + 1
  · rw [if_pos q, if_pos q]
  · rw [if_neg q, if_neg q]
theorem M_67_go {c : Int32} {w k Q n : Nat} (hw : w ≤ 3) (hk : k < w) (h : NS N T tl (Q - dK k)) (h1 : 1 ≤ Q) (hQ : Q ≤ tl) (hs : k ≠ 0 → byT T tl (Q - 1) = sgn w (k - 1)) : fX6_isItem_67 c (nI w) (n + 1) 1 (nI k) N = fX6_isItem_128 (fun z0 z1 z2 => fX6_isItem_67 c (nI w) n z0 z1 z2) c (nI w) 1 (nI k) (nI (Q - dK k)) (nI (dK k)) N := by
  have ht := h.1
  rw [fX6_isItem_67, ifle (by omega) (by omega), if_neg (by omega), if_neg (show ¬ (1 : Int32) = 0 by decide)]
  by_cases hk0 : k = 0
  · subst hk0
    rw [if_pos (show nI 0 = 0 from rfl)]
    unfold fX6_isItem_107 fX6_isItem_112
    rw [if_pos (show nI 0 = 0 from rfl), h.2.2.2]
    rfl
  · have hd : dK k = 1 := if_neg hk0
    have hs := hs hk0
    unfold sgn at hs
    rw [if_neg (by omega), byT_e (by omega)] at hs
    rw [hd] at h ⊢
    have e0 : ¬ nI k = 0 := by rw [li0, nI_eq (by omega) (by omega)]; exact hk0
    rw [if_neg e0, h.2.1, h.2.2.2, ifle (by omega) (by omega), if_neg (by omega), xchk_e (by omega) (by omega), cl_e (by omega), h.2.2.1 _ (by omega), hs, if_pos rfl]
    unfold fX6_isItem_107 fX6_isItem_112
    rw [if_neg e0, h.2.2.2]
    rfl
theorem item_loop {M0 N0 : xm} {c : Int32} {w P : Nat} (hc : isC c w) (hr : 3 < r) (hD : okR D) (ht : tl ≤ 300) : ∀ (m k nX mN : Nat) (M N : xm) (Q : Nat) (V : Nat → Nat), w = k + m → m + 2 < nX → m + 2 < mN → XT M T tl → rdX M r D → DM N D → NS N T tl (Q - dK k) → P < Q → Q ≤ tl → (k ≠ 0 → byT T tl (Q - 1) = sgn w (k - 1)) → (∀ j, j < k → M.1 3 j = nI (V j) ∧ N.1 72 j = nI (V j) ∧ V j < 100) → onI M0 M r → onJ N0 N → OutI M0 N0 r T tl P (fX3_takeItem_29 r c (nI w) nX (nI Q) (nI k) M) (fX6_isItem_67 c (nI w) mN 1 (nI k) N) := by
  have hw : w ≤ 3 := by rcases hc with ⟨-, rfl⟩ | ⟨-, rfl⟩ <;> omega
  have hw1 : 1 ≤ w := by rcases hc with ⟨-, rfl⟩ | ⟨-, rfl⟩ <;> omega
  intro m
  induction m with
  | zero =>
    intro k nX mN M N Q V e n1 n2 hX hrd hDM hN hP hQ hs hV hI hJ
    obtain ⟨nX, rfl⟩ : ∃ k, nX = k + 1 := ⟨nX - 1, by omega⟩
    obtain ⟨mN, rfl⟩ : ∃ k, mN = k + 1 := ⟨mN - 1, by omega⟩
    obtain rfl : w = k := by omega
    have hs := hs (by omega)
    have d1 : dK w = 1 := if_neg (by omega)
    rw [d1] at hN
    unfold sgn at hs
    rw [if_pos (by omega), byT_e (by omega)] at hs
    rw [fX3_takeItem_29, fX6_isItem_67, ifle (by omega) (by omega), ifle (by omega) (by omega), if_pos (Nat.le_refl _), if_pos (Nat.le_refl _)]
    unfold fX6_isItem_173
    rw [if_neg (show ¬ (1 : Int32) = 0 by decide), hN.2.1, hN.2.2.2, ifle (by omega) (by omega), if_neg (by omega), xchk_e (by omega) (by omega), cl_e (by omega), hN.2.2.1 _ (by omega), hs, if_pos rfl]
    exact item_end hc hrd hD hDM hV hP hQ ht hN.2.2.2 hI hJ
  | succ m ih =>
    intro k nX mN M N Q V e n1 n2 hX hrd hDM hN hP hQ hs hV hI hJ
    obtain ⟨nX, rfl⟩ : ∃ k, nX = k + 1 + 1 := ⟨nX - 2, by omega⟩
    obtain ⟨mN, rfl⟩ : ∃ k, mN = k + 1 + 1 + 1 := ⟨mN - 3, by omega⟩
    have hd : dK k ≤ Q := by unfold dK; split <;> omega
    rw [X_29_go hw (by omega) (by omega), M_67_go hw (by omega) hN (by omega) hQ hs]
    obtain ⟨N1, o1, o2, o3⟩ := M_128 (c := c) (w := w) (n := mN + 1 + 1) (show k < 3 by omega) hN hd (by omega)
    have hJ1 : onJ N0 N1 := hJ.tr o1.J
    rcases o3 with ⟨q1, q2, q3, q4, q5⟩ | ⟨q, q5⟩
    · have hM1 : onI M0 (up M 3 k (nI (nN T tl Q))) r := hI.tr onI.up3
      rw [q5, X_take hX (by omega) (by omega) q1, bind_e]
      show OutI M0 N0 r T tl P (fX3_takeItem_29 r c (nI w) (nX + 1) (if byT T tl (nE T tl Q) = sgn w k then nI (nE T tl Q + 1) else -1) (nI (k + 1)) (up M 3 k (nI (nN T tl Q)))) _
      obtain ⟨e1, e2⟩ := nE_le q1
      by_cases s : byT T tl (nE T tl Q) = sgn w k
      · rw [if_pos s]
        obtain ⟨s1, s2⟩ := byT_lt s (sgn_ne w k)
        have d1 : dK (k + 1) = 1 := if_neg (by omega)
        refine ih (k + 1) (nX + 1) (mN + 1 + 1) _ _ (nE T tl Q + 1) (fun j => if j = k then nN T tl Q else V j) (by omega) (by omega) (by omega) (hX.up (by omega) (by omega)) (hrd.on3 hr) (hDM.on (fun a q r j => o1 a j (by omega) r)) ?_ (by omega) (by omega) (fun _ => ?_) (fun j hj => ?_) hM1 hJ1
        · rw [d1, Nat.add_sub_cancel]; exact q4
        · rw [Nat.add_sub_cancel, Nat.add_sub_cancel]; exact s
        · by_cases d : j = k
          · subst d
            show _ = nI (if j = j then _ else _) ∧ _ = nI (if j = j then _ else _) ∧ (if j = j then _ else _) < 100
            rw [if_pos rfl]
            exact ⟨by rw [up_at, if_pos ⟨rfl, rfl⟩], q3, nN_lt q1⟩
          · show _ = nI (if j = k then _ else _) ∧ _ = nI (if j = k then _ else _) ∧ (if j = k then _ else _) < 100
            rw [if_neg d, up_at, if_neg (fun h => d h.2), o2 j d]
            exact hV j (by omega)
      · rw [if_neg s, X_29_stop c _ _ (by omega)]
        obtain ⟨N2, b1, b2⟩ := M_67_bad (c := c) (n := mN) hw (show k < w by omega) q4 e2 s
        rw [b1]
        exact OutI.no hM1 (hJ1.tr b2)
    · obtain ⟨N2, b1, b2⟩ := M_67_stop c (nI w) (nI (k + 1)) (n := mN + 1 + 1) (by omega) N1
      rw [q5, b1]
      cases hq : isDB T tl Q
      · rw [X_take_no hX (by omega) hq, bind_e]
        show OutI M0 N0 r T tl P (fX3_takeItem_29 r c (nI w) (nX + 1) (-1) (nI (k + 1)) M) _
        rw [X_29_stop c _ _ (by omega)]
        exact OutI.no hI (hJ1.tr b2)
      · have hq2 : isDB T tl (nE T tl Q) = true := by
          cases h : isDB T tl (nE T tl Q)
          · exact absurd ⟨hq, h⟩ q
          · rfl
        rw [X_take hX (by omega) (by omega) hq, bind_e]
        show OutI M0 N0 r T tl P (fX3_takeItem_29 r c (nI w) (nX + 1) (if byT T tl (nE T tl Q) = sgn w k then nI (nE T tl Q + 1) else -1) (nI (k + 1)) (up M 3 k (nI (nN T tl Q)))) _
        rw [if_neg (dig_s hq2 w k), X_29_stop c _ _ (by omega)]
        exact OutI.no (hI.tr onI.up3) (hJ1.tr b2)
theorem item {P : Nat} (hr : 3 < r) (hD : okR D) (hX : XT M T tl) (hrd : rdX M r D) (hDM : DM N D) (hN : NS N T tl P) (hP : P < tl) : OutI M N r T tl P (fX3_takeItem r (nI P) M) (fX6_isItem N) := by
  have ht := hX.1
  have go : ∀ c w, isC c w → OutI M N r T tl P (fX3_takeItem_24 r c (nI w) (nI (P + 1)) M) (fX6_isItem_63 c (nI w) 1 (up N 60 2 (nI (P + 1)))) := by
    intro c w hc
    have hw : w ≤ 3 := by rcases hc with ⟨-, rfl⟩ | ⟨-, rfl⟩ <;> omega
    unfold fX3_takeItem_24 fX6_isItem_63
    have h1 : NS (up N 60 2 (nI (P + 1))) T tl (P + 1 - dK 0) := hN.at
    exact item_loop hc hr hD ht w 0 xfuel xfuel M (up N 60 2 (nI (P + 1))) (P + 1) (fun _ => 0) (by omega) (by show _ < 1000; omega) (by show _ < 1000; omega) hX hrd (hDM.on (fun a q _ j => by rw [up_ne q])) h1 (by omega) (by omega) (fun q => absurd rfl q) (fun j hj => absurd hj (by omega)) onI.rf (onJ.ofP onP.up)
  have xf0 : 0 < xfuel := by unfold xfuel; omega
  have m24 : ∀ c, fX3_takeItem_24 r c 0 (-1) M = some (-1, M) := by
    intro c
    unfold fX3_takeItem_24
    exact X_29_stop c 0 0 xf0 M
  unfold fX3_takeItem fX6_isItem
  rw [X_byte hX (by omega), bind_e, byT_e hP, hN.2.2.2, xchk_e (by omega) (by omega), cl_e (by omega), hN.2.2.1 P hP, xl_e, a1_e, xl_e]
  generalize T P = c
  unfold fX3_numbersBehind fX6_isItem_32 fX6_isItem_48 fX6_isItem_53
  have n30 : ¬ (3 : Int32) ≤ 0 := by decide
  have n10 : ¬ (1 : Int32) ≤ 0 := by decide
  by_cases c1 : c = 112
  · subst c1
    rw [if_neg (show ¬ (112 : Int32) = 98 by decide), if_neg (show ¬ (112 : Int32) = 109 by decide), if_pos rfl, bind_e, if_neg (show ¬ (3 : Int32) = 0 by decide), if_pos rfl, if_neg n30]
    exact go 112 3 (Or.inl ⟨Or.inl rfl, rfl⟩)
  · by_cases c2 : c = 109
    · subst c2
      rw [if_neg (show ¬ (109 : Int32) = 98 by decide), if_pos rfl, bind_e, if_neg (show ¬ (3 : Int32) = 0 by decide), if_neg (show ¬ (109 : Int32) = 112 by decide), if_pos rfl, if_neg n30]
      exact go 109 3 (Or.inl ⟨Or.inr rfl, rfl⟩)
    · by_cases c3 : c = 113
      · subst c3
        rw [if_neg (show ¬ (113 : Int32) = 98 by decide), if_neg (show ¬ (113 : Int32) = 109 by decide), if_neg (show ¬ (113 : Int32) = 112 by decide), if_pos rfl, bind_e, if_neg (show ¬ (1 : Int32) = 0 by decide), if_neg (show ¬ (113 : Int32) = 112 by decide), if_neg (show ¬ (113 : Int32) = 109 by decide), if_pos rfl, if_neg n10]
        exact go 113 1 (Or.inr ⟨Or.inl rfl, rfl⟩)
      · by_cases c4 : c = 98
        · subst c4
          rw [if_pos rfl, bind_e, if_neg (show ¬ (1 : Int32) = 0 by decide), if_neg (show ¬ (98 : Int32) = 112 by decide), if_neg (show ¬ (98 : Int32) = 109 by decide), if_neg (show ¬ (98 : Int32) = 113 by decide), if_pos rfl, if_neg n10]
          exact go 98 1 (Or.inr ⟨Or.inr rfl, rfl⟩)
        · rw [if_neg c4, if_neg c2, if_neg c1, if_neg c3, bind_e, if_pos rfl, if_neg c1, if_neg c2, if_neg c3, if_neg c4, if_pos (show (0 : Int32) ≤ 0 by decide), m24]
          obtain ⟨N2, b1, b2⟩ := M_67_stop c 0 0 (n := xfuel) xf0 (up N 60 2 (nI (P + 1)))
          unfold fX6_isItem_63
          rw [b1]
          exact OutI.no onI.rf ((onJ.ofP onP.up).tr b2)
end
