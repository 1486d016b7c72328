/-! THE TEXT: the loop over the numbers, the item -/
def sgn (w k : Nat) : Int32 := if w ≤ k + 1 then 59 else 44
theorem nI_m1 {a : Nat} (h : a < 1000) : ¬ nI a = (-1 : Int32) := by
  intro q
  have := congrArg Int32.toInt q
  rw [nI_toInt (by omega), show (-1 : Int32).toInt = -1 from by decide] at this
  omega
theorem byT_lt {T : Nat → Int32} {tl e : Nat} {s : Int32} (h : byT T tl e = s) (hs : s ≠ -1) : e < tl ∧ T e = s := by
  unfold byT at h
  by_cases c : e < tl
  · rw [if_pos c] at h; exact ⟨c, h⟩
  · rw [if_neg c] at h; exact absurd h.symm hs
theorem dig_s {T : Nat → Int32} {tl e : Nat} (h : isDB T tl e = true) (w k : Nat) : ¬ byT T tl e = sgn w k := by
  intro q
  unfold isDB at h
  rw [q] at h
  unfold sgn at h
  by_cases c : w ≤ k + 1
  · rw [if_pos c] at h; exact absurd h (by decide)
  · rw [if_neg c] at h; exact absurd h (by decide)
section
variable {M N : xm} {D : tR} {r : Nat} {T : Nat → Int32} {tl : Nat}
theorem rdX.on3 {j : Nat} {v : Int32} (h : rdX M r D) (hr : 3 < r) : rdX (up M 3 j v) r D := h.same (fun a q1 q2 => up_ne (by omega))
theorem DM.on {N' : xm} (h : DM N D) (ho : ∀ a, a ≠ 60 → a ≠ 72 → ∀ j, N'.1 a j = N.1 a j) : DM N' D := by
  obtain ⟨g1, g2, g3, g4, g5, g6⟩ := h
  exact ⟨by rw [ho 63 (by omega) (by omega)]; exact g1, by rw [ho 65 (by omega) (by omega)]; exact g2, by rw [ho 62 (by omega) (by omega)]; exact g3, by rw [ho 62 (by omega) (by omega)]; exact g4, fun p hp => by rw [ho 64 (by omega) (by omega), ho 64 (by omega) (by omega), ho 64 (by omega) (by omega)]; exact g5 p hp, fun p hp => by rw [ho 66 (by omega) (by omega), ho 66 (by omega) (by omega), ho 66 (by omega) (by omega)]; exact g6 p hp⟩
theorem M_67_bad {c : Int32} {w k e n : Nat} (hw : w ≤ 3) (hk : k < w) (h : NS N T tl e) (he : e ≤ tl) (q : ¬ byT T tl e = sgn w k) : ∃ N', fX6_isItem_67 c (nI w) (n + 1 + 1) 1 (nI (k + 1)) N = some (0, N') ∧ onJ N N' := by
  have ht := h.1
  rw [fX6_isItem_67, ifle (by omega) (by omega)]
  unfold sgn at q
  by_cases c1 : w ≤ k + 1
  · rw [if_pos c1] at q ⊢
    unfold fX6_isItem_173 fX6_isItem_206
    rw [if_neg (by decide), h.2.1, h.2.2.2, ifle (by omega) (by omega)]
    by_cases c2 : tl ≤ e
    · rw [if_pos c2]; exact M_207_no c N
    · rw [if_neg c2, xchk_e (by omega) (by omega), cl_e (by omega), h.2.2.1 e (by omega), if_neg (by rw [byT_e (by omega)] at q; exact q)]
      exact M_207_no c N
  · rw [if_neg c1] at q ⊢
    have g : ∃ N', fX6_isItem_111 (fun z0 z1 z2 => fX6_isItem_67 c (nI w) (n + 1) z0 z1 z2) c (nI w) (nI (k + 1)) N = some (0, N') ∧ onJ N N' := by
      unfold fX6_isItem_111 fX6_isItem_112 fX6_isItem_128 fX6_isItem_150 fX6_isItem_166
      rw [li0, ifeq (by omega) (by omega), if_neg (by omega), xl_e, ifeq (by omega) (by omega), if_pos rfl, xchk_e (by omega) (by omega), xl_e, xchk_e (by omega) (by omega), cl_e (by omega), up_at, if_pos (show 72 = 72 ∧ k + 1 = k + 1 from ⟨rfl, rfl⟩), if_pos (by decide)]
      obtain ⟨N1, a1, a2⟩ := M_67_no c (nI w) (nI (k + 1) + 1) n (up (up N 60 2 (N.1 60 2 + 1)) 72 (k + 1) (-1))
      exact ⟨N1, a1, ((onJ.ofP onP.up).tr onJ.up72).tr a2⟩
    rw [if_neg (by decide), li0, ifeq (by omega) (by omega), if_neg (by omega), h.2.1, h.2.2.2, ifle (by omega) (by omega)]
    by_cases c2 : tl ≤ e
    · rw [if_pos c2]; exact g
    · rw [if_neg c2, xchk_e (by omega) (by omega), cl_e (by omega), h.2.2.1 e (by omega), if_neg (by rw [byT_e (by omega)] at q; exact q)]
      exact g
end
