/-! the reference begins to read -/
def dfl (j : Nat) : Nat := [4, 3, 8, 75, 10, 60, 90, 0, 6, 2, 15, 20, 40, 8].getD j 0
theorem lt14 {j : Nat} (h : j < 14) : j = 0 ∨ j = 1 ∨ j = 2 ∨ j = 3 ∨ j = 4 ∨ j = 5 ∨ j = 6 ∨ j = 7 ∨ j = 8 ∨ j = 9 ∨ j = 10 ∨ j = 11 ∨ j = 12 ∨ j = 13 := by omega
section
variable {h : kH}
theorem rq_begins : ∃ h', p_X8_begins h = some h' ∧ h' 138 1 = nI 0 ∧ h' 138 0 = h 138 0 ∧ (∀ j, j < 120 → h' 142 j = nI 0) ∧ (∀ j, j < 14 → h' 137 (14 + j) = nI (dfl j)) ∧ (∀ j, j < 14 → h' 137 j = h 137 j) ∧ ∀ k, k ≠ 137 → k ≠ 138 → k ≠ 142 → h' k = h k := by
  show okp (fun h' : kH => h' 138 1 = nI 0 ∧ h' 138 0 = h 138 0 ∧ (∀ j, j < 120 → h' 142 j = nI 0) ∧ (∀ j, j < 14 → h' 137 (14 + j) = nI (dfl j)) ∧ (∀ j, j < 14 → h' 137 j = h 137 j) ∧ ∀ k, k ≠ 137 → k ≠ 138 → k ≠ 142 → h' k = h k) _
  unfold p_X8_begins
  rw [gd_i (by omega) (by omega), nI_clamp (by omega), le_d]
  refine fx_m (fun i (h : kH) => (nI i, h)) (fun i h1 => h1 138 1 = nI 0 ∧ h1 138 0 = h 138 0 ∧ (∀ j, j < i → h1 142 j = nI 0) ∧ ∀ k, k ≠ 138 → k ≠ 142 → h1 k = h k) _ 120 (by omega) ⟨hs_s _ _ _ _, hs_i (by omega), fun j hj => absurd hj (by omega), fun k q _ => hs_k q⟩ ?_ ?_
  · intro i h1 hi ⟨a, b, c, d⟩ K hK
    simp (disch := omega) only [p_X8_begins_9, if_neg (nI_ge hi (show 120 < 2 ^ 31 by omega)), gd_i, nI_clamp, le_d, nI_add]
    refine hK _ ⟨by rw [hs_k (by omega)]; exact a, by rw [hs_k (by omega)]; exact b, fun j hj => ?_, fun k q1 q2 => by rw [hs_k q2]; exact d k q1 q2⟩
    by_cases e : j = i
    · subst e; rw [hs_s]
    · rw [hs_i e]; exact c j (by omega)
  · intro h1 ⟨a, b, c, d⟩ K
    simp (disch := omega) only [p_X8_begins_9, if_pos (nI_le (Nat.le_refl 120) (show 120 < 2 ^ 31 by omega)), gd_i, nI_clamp, le_d]
    have k7 : ∀ k, k ≠ 137 → hs (hs (hs (hs (hs (hs (hs (hs (hs (hs (hs (hs (hs (hs h1 137 14 (nI 4)) 137 15 (nI 3)) 137 16 (nI 8)) 137 17 (nI 75)) 137 18 (nI 10)) 137 19 (nI 60)) 137 20 (nI 90)) 137 21 (nI 0)) 137 22 (nI 6)) 137 23 (nI 2)) 137 24 (nI 15)) 137 25 (nI 20)) 137 26 (nI 40)) 137 27 (nI 8) k = h1 k := fun k q => by
      rw [hs_k q, hs_k q, hs_k q, hs_k q, hs_k q, hs_k q, hs_k q, hs_k q, hs_k q, hs_k q, hs_k q, hs_k q, hs_k q, hs_k q]
    refine okp_s ⟨by rw [k7 _ (by omega)]; exact a, by rw [k7 _ (by omega)]; exact b, fun j hj => by rw [k7 _ (by omega)]; exact c j hj, fun j hj => ?_, fun j hj => ?_, fun k q1 q2 q3 => by rw [k7 k q1]; exact d k q2 q3⟩
    · rcases lt14 hj with rfl | rfl | rfl | rfl | rfl | rfl | rfl | rfl | rfl | rfl | rfl | rfl | rfl | rfl <;> (simp (disch := omega) only [hs_s, hs_i, Nat.reduceAdd]; rfl)
    · rw [← d 137 (by omega) (by omega)]
      simp (disch := omega) only [hs_i]
end
