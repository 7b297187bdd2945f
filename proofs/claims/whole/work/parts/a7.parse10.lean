/-! a pot told; an item on both sides -/
section
variable {c r c' r' : kH} {V : Nat → Int32} {x : Int32}
theorem rq_pl142 {N : Nat} (hN : N < 6) (h1 : r 138 1 = nI N) : ∃ r', fx (fun K142 s => p_X8_isPlaced_142 K142 s.1 s.2) FU ((nI 0), r) = some (nI 1, r') ∧ r' 138 1 = nI (N + 1) ∧ r' 138 0 = r 138 0 ∧ (∀ k, k < 6 → r' 141 (6 * N + k) = r 151 k) ∧ (∀ j, j < 6 * N → r' 141 j = r 141 j) ∧ ∀ k, k ≠ 138 → k ≠ 141 → r' k = r k := by
  refine fx_m (fun k (a : kH) => (nI k, a)) (fun t a => (∀ k, k < t → a 141 (6 * N + k) = r 151 k) ∧ (∀ j, j < 6 * N → a 141 j = r 141 j) ∧ ∀ k, k ≠ 141 → a k = r k) (fun o => ∃ r' : kH, o = some (nI 1, r') ∧ r' 138 1 = nI (N + 1) ∧ r' 138 0 = r 138 0 ∧ (∀ k, k < 6 → r' 141 (6 * N + k) = r 151 k) ∧ (∀ j, j < 6 * N → r' 141 j = r 141 j) ∧ ∀ k, k ≠ 138 → k ≠ 141 → r' k = r k) 6 (by omega) ⟨fun k hk => absurd hk (by omega), fun _ _ => rfl, fun _ _ => rfl⟩ ?_ ?_
  · rintro t a ht ⟨b1, b2, b3⟩ K hK
    have a8 : a 138 1 = nI N := by rw [b3 138 (by omega)]; exact h1
    have a5 : a 151 = r 151 := b3 151 (by omega)
    simp (disch := omega) only [p_X8_isPlaced_142, if_neg (nI_ge ht (show 6 < 2 ^ 31 by omega)), gd_i, nI_clamp, a8, pk_mul, nI_add, le_d]
    refine hK _ ⟨fun k hk => ?_, fun j hj => by rw [hs_i (by omega)]; exact b2 j hj, fun k hk => by rw [hs_k hk]; exact b3 k hk⟩
    by_cases e : k = t
    · subst e; rw [hs_s, a5]
    · rw [hs_i (by omega)]; exact b1 k (by omega)
  · rintro a ⟨b1, b2, b3⟩ K
    have a8 : a 138 1 = nI N := by rw [b3 138 (by omega)]; exact h1
    simp (disch := omega) only [p_X8_isPlaced_142, if_pos (nI_le (Nat.le_refl 6) (show 6 < 2 ^ 31 by omega)), gd_i, nI_clamp, a8, nI_add, le_d]
    exact ⟨_, rfl, hs_s _ _ _ _, by rw [hs_i (by omega), b3 138 (by omega)], fun k hk => by rw [hs_k (by omega)]; exact b1 k hk, fun j hj => by rw [hs_k (by omega)]; exact b2 j hj, fun k q1 q2 => by rw [hs_k q1]; exact b3 k q2⟩
theorem q_takePot {N : Nat} (hN : N < 6) (h1 : c 13 0 = nI N) (hc : ∀ k, k < 6 → c 27 k = V k) : ∃ c', p_X3_takeItem (nI 112) c = some (nI 1, c') ∧ c' 13 0 = nI (N + 1) ∧ ((c' 25 N = V 0 ∧ c' 26 N = V 1 ∧ c' 15 N = V 2 ∧ c' 16 N = V 3 ∧ c' 17 N = V 4 ∧ c' 18 N = V 5) ∧ c' 19 N = nI 20 ∧ c' 20 N = nI 0 ∧ c' 21 N = nI 0 ∧ c' 22 N = nI 0 ∧ c' 23 N = nI 0) ∧ (∀ k i, k ≠ 13 → i ≠ N → c' k i = c k i) ∧ ∀ k, (k < 13 ∨ 26 < k) → c' k = c k := by
  have e : p_X3_takeItem (nI 112) c = bd2 (p_X3_takePot c) fun v30 h28 => gd (decide (v30 &&& 1 = v30)) (some (v30, h28)) := by
    unfold p_X3_takeItem
    rw [if_neg (by decide), if_neg (by decide), if_neg (by decide), if_neg (by decide), if_neg (by decide), if_neg (by decide), if_pos rfl]
  have g1 : ∀ y : Option (Int32 × kH), gd (decide (nI 1 &&& 1 = nI 1)) y = y := fun y => gd_t (by decide)
  rw [e]
  simp (disch := omega) only [p_X3_takePot, p_X4_add, h1, if_pos (nI_lt hN (show 6 < 2 ^ 31 by omega)), gd_i, nI_clamp, le_d, hs_k, hc, if_neg (nI_ge hN (show 6 < 2 ^ 31 by omega)), if_pos (nI_le (Nat.le_refl 6) (show 6 < 2 ^ 31 by omega)), bd_s, bd2_s, nI_add, nar_b0, g1]
  refine ⟨_, rfl, hs_s _ _ _ _, ⟨⟨?_, ?_, ?_, ?_, ?_, ?_⟩, ?_, ?_, ?_, ?_, ?_⟩, fun k i hk hi => ?_, fun k hk => ?_⟩
  all_goals simp (disch := omega) only [hs_k, hs_s, hs_i]
end
