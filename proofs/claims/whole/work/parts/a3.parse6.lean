/-! an item, read by the reference -/
section
variable {h : kH}
theorem rq_isItem {i L N : Nat} (hi : i < L) (hL : L ≤ 500) (h2 : h 135 2 = nI i) (h0 : h 135 0 = nI L) (hN : N = (k_sl (bI (h 136 i))).length / 2) : ∃ h', Fr5 h h' ∧ (((∀ k, k < N → okN (h 136) L i N k) ∧ 1 ≤ N ∧ h' 135 2 = nI (psN (h 136) L i N) ∧ (∀ k, k < N → h' 151 k = nI (vlN (h 136) L i k)) ∧ p_X8_isItem h = bd2 (p_X8_isGood (h 136 i) h') fun v10 h8 => if v10 = 0 then some ((nI 0), h8) else some ((nI 1), h8)) ∨ (¬ ((∀ k, k < N → okN (h 136) L i N k) ∧ 1 ≤ N) ∧ p_X8_isItem h = some (nI 0, h'))) := by
  have hN6 := (bI_len (x := h 136 i)).2
  have e136 : hs h 135 2 (nI (i + 1)) 136 = h 136 := hs_k (by omega)
  have fr0 : Fr5 h (hs h 135 2 (nI (i + 1))) := ⟨fun j hj => hs_i hj, fun k q _ => hs_k q⟩
  have ei : p_X8_isItem h = if nI N ≤ 0 then p_X8_isItem_34 (h 136 i) (nI N) (nI 0) (hs h 135 2 (nI (i + 1))) else p_X8_isItem_34 (h 136 i) (nI N) (nI 1) (hs h 135 2 (nI (i + 1))) := by
    rw [p_X8_isItem, h2, gd_i (by omega) (by omega), nI_clamp (by omega), le_d, le_d, nI_add, rq_parts, bd2_s, ← hN]
  by_cases z : N = 0
  · refine ⟨hs (hs h 135 2 (nI (i + 1))) 135 2 (nI (i + 1) + nI 1), ⟨fun j hj => by rw [hs_i hj, hs_i hj], fun k q _ => by rw [hs_k q, hs_k q]⟩, Or.inr ⟨fun q => absurd q.2 (by omega), ?_⟩⟩
    rw [ei, z, if_pos (by decide), p_X8_isItem_34]
    refine fx_m (fun k (a : kH) => (h 136 i, nI 0, nI 0, nI k, a)) (fun k a => a = hs h 135 2 (nI (i + 1))) (fun o => o = some (nI 0, hs (hs h 135 2 (nI (i + 1))) 135 2 (nI (i + 1) + nI 1))) 0 (by omega) rfl (fun k a hk => absurd hk (by omega)) ?_
    rintro a rfl K
    dsimp only
    rw [p_X8_isItem_38, if_pos (nI_le (Nat.le_refl 0) (by omega)), p_X8_isItem_144, if_pos nI_00, p_X8_isItem_177, p_X8_isItem_178, le_d, if_pos nI_00, hs_s]
  · rw [if_neg (nI_nle (show 0 < N by omega) (by omega))] at ei
    obtain ⟨h', fr, q⟩ := rq_itemL (h := hs h 135 2 (nI (i + 1))) (x := h 136 i) (N := N) hi hL (by omega) (hs_s _ _ _ _) (by rw [hs_i (by omega)]; exact h0)
    rw [e136] at q
    refine ⟨h', ⟨fun j hj => by rw [fr.1 j hj, fr0.1 j hj], fun k q1 q2 => by rw [fr.2 k q1 q2, fr0.2 k q1 q2]⟩, ?_⟩
    rw [ei]
    rcases q with q | q | q
    · exact Or.inl q
    · exact Or.inr q
    · exact absurd q z
end
