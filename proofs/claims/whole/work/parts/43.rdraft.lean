/-! THE TEXT: the draft road of the reference -/
def DM (N : xm) (D : tR) : Prop := N.1 63 1 = nI (np D) ∧ N.1 65 1 = nI (nm D) ∧ N.1 62 2 = nI (qu D) ∧ N.1 62 3 = nI (nb D) ∧
  (∀ p, p < np D → N.1 64 (18 + 3 * p + 0) = nI (D 1 p) ∧ N.1 64 (18 + 3 * p + 1) = nI (D 2 p) ∧ N.1 64 (18 + 3 * p + 2) = nI (D 3 p)) ∧
  (∀ i, i < nm D → N.1 66 (24 + 3 * i + 0) = nI (D 4 i) ∧ N.1 66 (24 + 3 * i + 1) = nI (D 5 i) ∧ N.1 66 (24 + 3 * i + 2) = nI (D 6 i))
/-- nothing but the draft has changed -/
def onD (N N' : xm) : Prop := ∀ a j, ¬ (a = 63 ∧ j = 1) → ¬ (a = 65 ∧ j = 1) → ¬ (a = 62 ∧ 2 ≤ j) → ¬ (a = 64 ∧ 18 ≤ j) → ¬ (a = 66 ∧ 24 ≤ j) → N'.1 a j = N.1 a j
theorem onD.rf {N : xm} : onD N N := fun _ _ _ _ _ _ _ => rfl
theorem onD.tr {N N' N'' : xm} (h : onD N N') (h2 : onD N' N'') : onD N N'' := fun a j q1 q2 q3 q4 q5 => (h2 a j q1 q2 q3 q4 q5).trans (h a j q1 q2 q3 q4 q5)
section
variable {N : xm} {D : tR}
theorem M_isIn {k v : Nat} (hk : k < 3) (hv : v < 100) (he : N.1 72 k = nI v) (a b : Nat) (ha : a < 100) (hb : b < 100) : fX6_isIn (nI k) (nI a) (nI b) N = some (if a ≤ v ∧ v ≤ b then 1 else 0) := by
  have key : (nI a ≤ nI v ∧ nI v ≤ nI b) ↔ (a ≤ v ∧ v ≤ b) := by
    rw [Int32.le_iff_toInt_le, Int32.le_iff_toInt_le, nI_toInt (by omega), nI_toInt (by omega), nI_toInt (by omega)]
    omega
  unfold fX6_isIn
  rw [xchk_e (by omega) (by omega), cl_e (by omega), he, in_e, bind_e]
  by_cases c : a ≤ v ∧ v ≤ b
  · rw [if_pos (key.mpr c), if_pos c, xbo_1]
  · rw [if_neg (fun q => c (key.mp q)), if_neg c, xbo_0]
theorem M_begins (N : xm) : ∃ N', fX6_begins N = some N' ∧ DM N' D0 ∧ onD N N' := by
  unfold fX6_begins
  rw [xc1 (by omega) (by omega), xl_e, c1, xc1 (by omega) (by omega), xl_e, li2, xchk_e (by omega) (by omega), xl_e, cl_e (by omega), li3, xchk_e (by omega) (by omega), xl_e, cl_e (by omega)]
  refine ⟨_, rfl, ⟨by simp [up_at]; rfl, by simp [up_at]; rfl, by simp [up_at]; rfl, by simp [up_at]; rfl, fun p hp => absurd hp (Nat.not_lt_zero p), fun p hp => absurd hp (Nat.not_lt_zero p)⟩, fun a j q1 q2 q3 q4 q5 => ?_⟩
  rw [up_at, if_neg (by omega), up_at, if_neg (by omega), up_at, if_neg (by omega), up_at, if_neg (by omega)]
end
