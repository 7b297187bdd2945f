/-! the reference lays: the end -/
section
variable {r h a : kH} {w g N n : Nat}
theorem rq_t2 {K : Int32 × kH → Option kH} : p_X8_takes_2 K (nI 14) a = fx (fun K43 s => p_X8_takes_43 K43 s.1 s.2) FU ((nI 0), hs a 138 0 (a 138 1)) := by
  rw [p_X8_takes_2, if_pos (nI_le (Nat.le_refl 14) (by omega)), gd_i (by omega) (by omega), gd_i (by omega) (by omega), le_d, nI_clamp (by omega), nI_clamp (by omega)]
theorem rq_t2e (hw1 : 1 ≤ w) (hw6 : w ≤ 6) (hg5 : g ≤ 5) (hN : N ≤ 6) (h1 : r 138 1 = nI N) (hw : r 137 14 = nI w) (hg : r 137 15 = nI g) (b1 : ∀ j, j < 14 → a 137 j = r 137 (14 + j)) (b3 : ∀ k, k ≠ 137 → a k = r k) : okp (LayR r w (w * g) N) (fx (fun K43 s => p_X8_takes_43 K43 s.1 s.2) FU ((nI 0), hs a 138 0 (a 138 1))) := by
  have d0 : hs a 138 0 (a 138 1) 138 0 = nI N := by rw [hs_s, b3 138 (by omega)]; exact h1
  generalize hd : hs a 138 0 (a 138 1) = d at d0 ⊢
  have d7 : d 137 = a 137 := by rw [← hd, hs_k (by omega)]
  have dk : ∀ k, k ≠ 137 → k ≠ 138 → d k = r k := fun k q1 q2 => by rw [← hd, hs_k q2, b3 k q1]
  obtain ⟨h', e, u1, u2, u3, u4, u5, u6, u7⟩ := rq_t43 (h := d) (w := w) (g := g) (N := N) hw1 hw6 hg5 hN d0 (by rw [d7, b1 0 (by omega)]; exact hw) (by rw [d7, b1 1 (by omega)]; exact hg)
  rw [dk 142 (by omega) (by omega)] at u1
  rw [dk 141 (by omega) (by omega)] at u2
  exact ⟨h', e, fun j hj => by rw [u7 137 (by omega) (by omega) (by omega) (by omega), d7]; exact b1 j hj, by rw [u7 138 (by omega) (by omega) (by omega) (by omega)]; exact d0, u1, u2, u3, u4, u5, fun j q1 q2 => by rw [u6 j q1 q2, dk 135 (by omega) (by omega)], fun k q1 q2 q3 q4 q5 q6 => by rw [u7 k q1 q4 q5 q6, dk k q2 q3]⟩
theorem rq_t2s {K : Int32 × kH → Option kH} {i : Nat} (hi : i < 14) : p_X8_takes_2 K (nI i) a = K (nI (i + 1), hs a 137 i (a 137 (14 + i))) := by
  rw [p_X8_takes_2, if_neg (nI_ge hi (by omega)), nI_add, nI_add, gd_i (by omega) (by omega), gd_i (by omega) (by omega), le_d, nI_clamp (by omega), nI_clamp (by omega)]
theorem rq_takes (hw1 : 1 ≤ w) (hw6 : w ≤ 6) (hg5 : g ≤ 5) (hN : N ≤ 6) (h1 : r 138 1 = nI N) (hw : r 137 14 = nI w) (hg : r 137 15 = nI g) : ∃ r', p_X8_takes r = some r' ∧ LayR r w (w * g) N r' := by
  show okp (LayR r w (w * g) N) (p_X8_takes r)
  rw [p_X8_takes]
  refine fx_m (fun i (a : kH) => (nI i, a)) (fun i a => (∀ j, j < i → a 137 j = r 137 (14 + j)) ∧ (∀ j, 14 ≤ j → a 137 j = r 137 j) ∧ ∀ k, k ≠ 137 → a k = r k) (okp (LayR r w (w * g) N)) 14 (by omega) ⟨fun j hj => absurd hj (by omega), fun _ _ => rfl, fun _ _ => rfl⟩ ?_ ?_
  · rintro i a hi ⟨b1, b2, b3⟩ K hK
    dsimp only
    rw [rq_t2s hi]
    refine hK _ ⟨fun j hj => ?_, fun j hj => by rw [hs_i (by omega)]; exact b2 j hj, fun k hk => by rw [hs_k hk]; exact b3 k hk⟩
    by_cases e : j = i
    · subst e; rw [hs_s, b2 _ (by omega)]
    · rw [hs_i e]; exact b1 j (by omega)
  · rintro a ⟨b1, b2, b3⟩ K
    dsimp only
    rw [rq_t2]
    exact rq_t2e hw1 hw6 hg5 hN h1 hw hg b1 b3
end
