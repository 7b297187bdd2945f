/-! the reference lays -/
section
variable {r h : kH} {w g N n : Nat}
/-- what a laid reference row is -/
def LayR (r : kH) (w n N : Nat) (r' : kH) : Prop := (∀ j, j < 14 → r' 137 j = r 137 (14 + j)) ∧ r' 138 0 = nI N ∧ (∀ q, q < n → r' 143 q = nI 20 ∧ ∀ a, a < 4 → r' 143 (30 * (a + 1) + q) = r 142 (30 * a + (q % w + 6 * (q / w)))) ∧ (∀ i, i < N → (r' 143 (150 + 8 * i) = r 141 (6 * i) + nI w * r 141 (6 * i + 1) ∧ r' 143 (150 + 8 * i + 1) = nI 20 ∧ r' 143 (150 + 8 * i + 2) = r 141 (6 * i + 3) ∧ r' 143 (150 + 8 * i + 7) = r 141 (6 * i + 4)) ∧ (∀ a, 3 ≤ a → a < 7 → r' 143 (150 + 8 * i + a) = nI 0) ∧ r' 139 i = r 141 (6 * i + 2) ∧ r' 140 i = r 141 (6 * i + 5)) ∧ r' 143 198 = nI 0 ∧ r' 135 11 = nI 0 ∧ r' 135 10 = nI 0 ∧ (∀ j, j ≠ 10 → j ≠ 11 → r' 135 j = r 135 j) ∧ ∀ k, k ≠ 135 → k ≠ 137 → k ≠ 138 → k ≠ 139 → k ≠ 140 → k ≠ 143 → r' k = r k
/-- the pots -/
theorem rq_t179 (hN : N ≤ 6) (h0 : h 138 0 = nI N) (hw : h 137 0 = nI w) : okp (fun h' : kH => (∀ i, i < N → (h' 143 (150 + 8 * i) = h 141 (6 * i) + nI w * h 141 (6 * i + 1) ∧ h' 143 (150 + 8 * i + 1) = nI 20 ∧ h' 143 (150 + 8 * i + 2) = h 141 (6 * i + 3) ∧ h' 143 (150 + 8 * i + 7) = h 141 (6 * i + 4)) ∧ h' 139 i = h 141 (6 * i + 2) ∧ h' 140 i = h 141 (6 * i + 5)) ∧ (∀ j, (∀ t, t < N → j ≠ 150 + 8 * t ∧ j ≠ 150 + 8 * t + 1 ∧ j ≠ 150 + 8 * t + 2 ∧ j ≠ 150 + 8 * t + 7) → h' 143 j = h 143 j) ∧ h' 135 11 = nI 0 ∧ h' 135 10 = nI 0 ∧ (∀ j, j ≠ 10 → j ≠ 11 → h' 135 j = h 135 j) ∧ ∀ k, k ≠ 135 → k ≠ 139 → k ≠ 140 → k ≠ 143 → h' k = h k) (fx (fun K179 s => p_X8_takes_179 K179 s.1 s.2) FU ((nI 0), h)) := by
  refine fx_m (fun i (a : kH) => (nI i, a)) (fun i a => (∀ t, t < i → (a 143 (150 + 8 * t) = h 141 (6 * t) + nI w * h 141 (6 * t + 1) ∧ a 143 (150 + 8 * t + 1) = nI 20 ∧ a 143 (150 + 8 * t + 2) = h 141 (6 * t + 3) ∧ a 143 (150 + 8 * t + 7) = h 141 (6 * t + 4)) ∧ a 139 t = h 141 (6 * t + 2) ∧ a 140 t = h 141 (6 * t + 5)) ∧ (∀ j, (∀ t, t < i → j ≠ 150 + 8 * t ∧ j ≠ 150 + 8 * t + 1 ∧ j ≠ 150 + 8 * t + 2 ∧ j ≠ 150 + 8 * t + 7) → a 143 j = h 143 j) ∧ ∀ k, k ≠ 139 → k ≠ 140 → k ≠ 143 → a k = h k) _ N (by omega) ⟨fun t ht => absurd ht (by omega), fun _ _ => rfl, fun _ _ _ _ => rfl⟩ ?_ ?_
  · rintro i a hi ⟨b1, b2, b3⟩ K hK
    have a8 : a 138 0 = nI N := by rw [b3 138 (by omega) (by omega) (by omega)]; exact h0
    have a7 : a 137 0 = nI w := by rw [b3 137 (by omega) (by omega) (by omega)]; exact hw
    have a1 : a 141 = h 141 := b3 141 (by omega) (by omega) (by omega)
    simp (disch := omega) only [p_X8_takes_179, a8, gd_i, nI_clamp, if_neg (nI_ge hi (show N < 2 ^ 31 by omega)), le_d, pk_mul, nI_add, Nat.add_zero, hs_k, a7, a1]
    refine hK _ ⟨fun t ht => ?_, fun j hj => ?_, fun k q1 q2 q3 => by simp (disch := omega) only [hs_k]; exact b3 k q1 q2 q3⟩
    · by_cases e : t = i
      · subst e
        simp (disch := omega) only [hs_k, hs_s, hs_i, and_self]
      · have := b1 t (by omega)
        simp (disch := omega) only [hs_k, hs_i]
        exact this
    · have hj' := hj i (by omega)
      simp (disch := omega) only [hs_k, hs_i]
      exact b2 j (fun t ht => hj t (by omega))
  · rintro a ⟨b1, b2, b3⟩ K
    have a8 : a 138 0 = nI N := by rw [b3 138 (by omega) (by omega) (by omega)]; exact h0
    simp (disch := omega) only [p_X8_takes_179, a8, gd_i, nI_clamp, if_pos (nI_le (Nat.le_refl N) (show N < 2 ^ 31 by omega)), le_d]
    refine okp_s ⟨fun i hi => by simp (disch := omega) only [hs_k]; exact b1 i hi, fun j hj => by simp (disch := omega) only [hs_k]; exact b2 j hj, by rw [hs_i (by omega), hs_s], hs_s _ _ _ _, fun j q1 q2 => by rw [hs_i q1, hs_i q2, b3 135 (by omega) (by omega) (by omega)], fun k q1 q2 q3 q4 => by rw [hs_k q1, hs_k q1]; exact b3 k q2 q3 q4⟩
theorem gpos {q w g : Nat} (hw1 : 1 ≤ w) (hw6 : w ≤ 6) (hg5 : g ≤ 5) (hq : q < w * g) : q % w + 6 * (q / w) < 30 := by
  have h1 : q % w < w := Nat.mod_lt _ (by omega)
  have h2 : q / w < g := Nat.div_lt_of_lt_mul hq
  omega
/-- the cells, then the pots -/
theorem rq_t65 (hw1 : 1 ≤ w) (hw6 : w ≤ 6) (hg5 : g ≤ 5) (hN : N ≤ 6) (h0 : h 138 0 = nI N) (hw : h 137 0 = nI w) (hg : h 137 1 = nI g) (hz : ∀ j, j < 200 → h 143 j = nI 0) : okp (fun h' : kH => (∀ q, q < w * g → h' 143 q = nI 20 ∧ ∀ a, a < 4 → h' 143 (30 * (a + 1) + q) = h 142 (30 * a + (q % w + 6 * (q / w)))) ∧ (∀ i, i < N → (h' 143 (150 + 8 * i) = h 141 (6 * i) + nI w * h 141 (6 * i + 1) ∧ h' 143 (150 + 8 * i + 1) = nI 20 ∧ h' 143 (150 + 8 * i + 2) = h 141 (6 * i + 3) ∧ h' 143 (150 + 8 * i + 7) = h 141 (6 * i + 4)) ∧ (∀ a, 3 ≤ a → a < 7 → h' 143 (150 + 8 * i + a) = nI 0) ∧ h' 139 i = h 141 (6 * i + 2) ∧ h' 140 i = h 141 (6 * i + 5)) ∧ h' 143 198 = nI 0 ∧ h' 135 11 = nI 0 ∧ h' 135 10 = nI 0 ∧ (∀ j, j ≠ 10 → j ≠ 11 → h' 135 j = h 135 j) ∧ ∀ k, k ≠ 135 → k ≠ 139 → k ≠ 140 → k ≠ 143 → h' k = h k) (fx (fun K65 s => p_X8_takes_65 K65 s.1 s.2) FU ((nI 0), h)) := by
  have wg := n_le (rfl : w * g = w * g) hw6 hg5
  have cel : ∀ a : kH, a 137 = h 137 → p_X8_cells a = some (nI (w * g), a) := fun a e => by
    unfold p_X8_cells
    rw [gd_i (by omega) (by omega), gd_i (by omega) (by omega), nI_clamp (by omega), nI_clamp (by omega), e, hw, hg, pk_mul]
  refine fx_m (fun i (a : kH) => (nI i, a)) (fun i a => (∀ q, q < i → a 143 q = nI 20 ∧ ∀ b, b < 4 → a 143 (30 * (b + 1) + q) = h 142 (30 * b + (q % w + 6 * (q / w)))) ∧ (∀ j, 150 ≤ j → a 143 j = h 143 j) ∧ ∀ k, k ≠ 143 → a k = h k) _ (w * g) (by omega) ⟨fun q hq => absurd hq (by omega), fun _ _ => rfl, fun _ _ => rfl⟩ ?_ ?_
  · rintro i a hi ⟨b1, b2, b3⟩ K hK
    have gp := gpos hw1 hw6 hg5 hi
    have a7 : a 137 = h 137 := b3 137 (by omega)
    have a2 : a 142 = h 142 := b3 142 (by omega)
    simp (disch := omega) only [p_X8_takes_65, cel a a7, bd2_s, if_neg (nI_ge hi (show w * g < 2 ^ 31 by omega)), gd_i, nI_clamp, a7, hw, gd_n, krem_n, pk_div, pk_mul, nI_add, le_d, hs_k, a2]
    refine hK _ ⟨fun q hq => ?_, fun j hj => by simp (disch := omega) only [hs_i]; exact b2 j hj, fun k hk => by simp (disch := omega) only [hs_k]; exact b3 k hk⟩
    by_cases e : q = i
    · subst e
      refine ⟨by simp (disch := omega) only [hs_i, hs_s], fun b hb => ?_⟩
      rcases (show b = 0 ∨ b = 1 ∨ b = 2 ∨ b = 3 by omega) with rfl | rfl | rfl | rfl <;> simp (disch := omega) only [hs_i, hs_s, Nat.reduceAdd, Nat.reduceMul, Nat.zero_add]
    · have := b1 q (by omega)
      refine ⟨by simp (disch := omega) only [hs_i]; exact this.1, fun b hb => ?_⟩
      simp (disch := omega) only [hs_i]
      exact this.2 b hb
  · rintro a ⟨b1, b2, b3⟩ K
    have a7 : a 137 = h 137 := b3 137 (by omega)
    dsimp only
    rw [p_X8_takes_65, cel a a7, bd2_s, if_pos (nI_le (Nat.le_refl (w * g)) (by omega))]
    obtain ⟨h', e, u1, u2, u3, u4, u5, u6⟩ := rq_t179 (h := a) hN (by rw [b3 138 (by omega)]; exact h0) (by rw [a7]; exact hw)
    have a1 : a 141 = h 141 := b3 141 (by omega)
    rw [a1] at u1
    refine ⟨h', e, fun q hq => ?_, fun i hi => ⟨(u1 i hi).1, fun b h1 h2 => ?_, (u1 i hi).2⟩, ?_, u3, u4, fun j q1 q2 => by rw [u5 j q1 q2, b3 135 (by omega)], fun k q1 q2 q3 q4 => by rw [u6 k q1 q2 q3 q4, b3 k q4]⟩
    · refine ⟨by rw [u2 q (fun t ht => by omega)]; exact (b1 q hq).1, fun b hb => ?_⟩
      rw [u2 _ (fun t ht => by omega)]
      exact (b1 q hq).2 b hb
    · rw [u2 _ (fun t ht => by omega), b2 _ (by omega), hz _ (by omega)]
    · rw [u2 _ (fun t ht => by omega), b2 _ (by omega), hz _ (by omega)]
/-- what comes behind the rules: the row cleared, the cells, the pots -/
theorem rq_t43 (hw1 : 1 ≤ w) (hw6 : w ≤ 6) (hg5 : g ≤ 5) (hN : N ≤ 6) (h1 : h 138 0 = nI N) (hw : h 137 0 = nI w) (hg : h 137 1 = nI g) : okp (fun h' : kH => (∀ q, q < w * g → h' 143 q = nI 20 ∧ ∀ a, a < 4 → h' 143 (30 * (a + 1) + q) = h 142 (30 * a + (q % w + 6 * (q / w)))) ∧ (∀ i, i < N → (h' 143 (150 + 8 * i) = h 141 (6 * i) + nI w * h 141 (6 * i + 1) ∧ h' 143 (150 + 8 * i + 1) = nI 20 ∧ h' 143 (150 + 8 * i + 2) = h 141 (6 * i + 3) ∧ h' 143 (150 + 8 * i + 7) = h 141 (6 * i + 4)) ∧ (∀ a, 3 ≤ a → a < 7 → h' 143 (150 + 8 * i + a) = nI 0) ∧ h' 139 i = h 141 (6 * i + 2) ∧ h' 140 i = h 141 (6 * i + 5)) ∧ h' 143 198 = nI 0 ∧ h' 135 11 = nI 0 ∧ h' 135 10 = nI 0 ∧ (∀ j, j ≠ 10 → j ≠ 11 → h' 135 j = h 135 j) ∧ ∀ k, k ≠ 135 → k ≠ 139 → k ≠ 140 → k ≠ 143 → h' k = h k) (fx (fun K43 s => p_X8_takes_43 K43 s.1 s.2) FU ((nI 0), h)) := by
  generalize hM : (200 : Nat) = M
  have hM2 : M < 801 := by omega
  have hM3 : 200 ≤ M := by omega
  refine fx_m (fun i (a : kH) => (nI i, a)) (fun i d => (∀ j, j < i → d 143 j = nI 0) ∧ ∀ k, k ≠ 143 → d k = h k) _ M (by omega) ⟨fun j hj => absurd hj (by omega), fun _ _ => rfl⟩ ?_ ?_
  · rintro i d hi ⟨d1, d2⟩ K2 hK2
    dsimp only
    rw [p_X8_takes_43, hM, if_neg (nI_ge hi (by omega)), gd_i (by omega) (by omega), nI_clamp (by omega), nI_add, le_d]
    refine hK2 _ ⟨fun j hj => ?_, fun k hk => by rw [hs_k hk]; exact d2 k hk⟩
    by_cases e : j = i
    · subst e; rw [hs_s]
    · rw [hs_i e]; exact d1 j (by omega)
  · rintro d ⟨d1, d2⟩ K2
    dsimp only
    rw [p_X8_takes_43, hM, if_pos (nI_le (Nat.le_refl M) (by omega))]
    obtain ⟨h', e, u1, u2, u3, u4, u5, u6, u7⟩ := rq_t65 (h := d) (w := w) (g := g) (N := N) hw1 hw6 hg5 hN (by rw [d2 138 (by omega)]; exact h1) (by rw [d2 137 (by omega)]; exact hw) (by rw [d2 137 (by omega)]; exact hg) (fun j hj => d1 j (by omega))
    rw [d2 142 (by omega)] at u1
    rw [d2 141 (by omega)] at u2
    exact ⟨h', e, u1, u2, u3, u4, u5, fun j q1 q2 => by rw [u6 j q1 q2, d2 135 (by omega)], fun k q1 q2 q3 q4 => by rw [u7 k q1 q2 q3 q4, d2 k q4]⟩
end
