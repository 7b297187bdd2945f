/-! the reference's number -/
section
variable {h : kH}
/-- a cursor moved to i -/
def Cur (h h' : kH) (i : Nat) : Prop := h' 135 2 = nI i ∧ (∀ j, j ≠ 2 → h' 135 j = h 135 j) ∧ ∀ k, k ≠ 135 → h' k = h k
theorem Cur.hs {h' : kH} {i i' : Nat} (c : Cur h h' i) : Cur h (hs h' 135 2 (nI i')) i' := ⟨hs_s _ _ _ _, fun j hj => by rw [hs_i hj]; exact c.2.1 j hj, fun k hk => by rw [hs_k hk]; exact c.2.2 k hk⟩
def nvR (T : Nat → Int32) (i c : Nat) : Int32 := if 1 ≤ c ∧ c ≤ 3 then nI (nv T i c) else -1
theorem rq_n80 {x : Int32} {c : Nat} (hc : c ≤ 500) : p_X8_number_80 x (nI c) h = some (if 1 ≤ c ∧ c ≤ 3 then x else -1, h) := by
  unfold p_X8_number_80
  rw [rq_io (lo := 1) (hi := 3) (by decide) (by decide), bd2_s, b1_if]
  by_cases z : 1 ≤ c ∧ c ≤ 3
  · rw [if_pos z, if_pos (okI_t (by rw [nI_toInt (by omega)]; omega) (by rw [nI_toInt (by omega)]; omega))]
  · rw [if_neg z]
    cases q : okI (nI c) 1 3
    · rfl
    · exfalso
      unfold okI at q
      rw [Bool.and_eq_true, decide_eq_true_eq, decide_eq_true_eq, nI_toInt (by omega)] at q
      omega
theorem okI_fig {x : Int32} : okI x 48 57 = true ↔ fig x := by
  unfold okI fig
  rw [Bool.and_eq_true, decide_eq_true_eq, decide_eq_true_eq]
theorem rq_num {i L : Nat} (hi : i ≤ L) (hL : L ≤ 500) (h2 : h 135 2 = nI i) (h0 : h 135 0 = nI L) : ∃ c h', p_X8_number h = some (nvR (h 136) i c, h') ∧ fgs (h 136) L i c ∧ Cur h h' (i + c) := by
  unfold p_X8_number
  have fin : ∀ (t : Nat) (a : kH), Cur h a (i + t) → (∀ s, s < t → fig (h 136 (i + s))) → i + t ≤ L → (i + t < L → ¬ fig (h 136 (i + t))) → ∃ c h', p_X8_number_80 (nI (nv (h 136) i (min t 3))) (nI t) a = some (nvR (h 136) i c, h') ∧ fgs (h 136) L i c ∧ Cur h h' (i + c) := by
    intro t a cu hf hl hn
    refine ⟨t, a, ?_, ⟨hl, hf, hn⟩, cu⟩
    rw [rq_n80 (by omega), nvR]
    by_cases z : 1 ≤ t ∧ t ≤ 3
    · rw [if_pos z, if_pos z, show min t 3 = t by omega]
    · rw [if_neg z, if_neg z]
  refine fx_m (fun t (a : kH) => (nI (nv (h 136) i (min t 3)), nI t, a)) (fun t a => Cur h a (i + t) ∧ ∀ s, s < t → fig (h 136 (i + s))) (fun r => ∃ c h', r = some (nvR (h 136) i c, h') ∧ fgs (h 136) L i c ∧ Cur h h' (i + c)) (L - i) (by omega) ⟨⟨h2, fun _ _ => rfl, fun _ _ => rfl⟩, fun s hs => absurd hs (by omega)⟩ ?_ ?_
  · rintro t a ht ⟨cu, hf⟩ K hK
    have a0 : a 135 0 = nI L := by rw [cu.2.1 0 (by omega)]; exact h0
    have a136 : a 136 = h 136 := cu.2.2 136 (by omega)
    have nx : p_X8_number_63 K (nI t) (nI (nv (h 136) i (min (t + 1) 3))) a = K (nI (nv (h 136) i (min (t + 1) 3)), nI (t + 1), hs a 135 2 (nI (i + (t + 1)))) := by
      rw [p_X8_number_63, le_d, cu.1, nI_add, nI_add, Nat.add_assoc]
    dsimp only
    rw [p_X8_number_4, a0, cu.1, if_neg (nI_ge (show i + t < L by omega) (show L < 2 ^ 31 by omega)), gd_i (by omega) (by omega), nI_clamp (by omega), rq_io (lo := 48) (hi := 57) (by decide) (by decide), bd2_s, b1_if, a136]
    by_cases z : fig (h 136 (i + t))
    · have hf' : ∀ s, s < t + 1 → fig (h 136 (i + s)) := fun s hs => by
        by_cases e : s = t
        · subst e; exact z
        · exact hf s (by omega)
      have go := hK (hs a 135 2 (nI (i + (t + 1)))) ⟨cu.hs, hf'⟩
      rw [if_pos (okI_fig.mpr z)]
      by_cases y : 3 ≤ t
      · rw [if_pos (nI_le y (by omega)), show min t 3 = min (t + 1) 3 by omega, nx]
        exact go
      · rw [if_neg (nI_ge (show t < 3 by omega) (by omega)), cu.1, gd_i (by omega) (by omega), nI_clamp (by omega), nv_s' z]
        rw [show 10 * nv (h 136) i (min t 3) + fv (h 136 (i + t)) = nv (h 136) i (min (t + 1) 3) by rw [show min t 3 = t by omega, show min (t + 1) 3 = t + 1 by omega, nv], nx]
        exact go
    · have q : okI (h 136 (i + t)) 48 57 = false := by
        cases q : okI (h 136 (i + t)) 48 57
        · rfl
        · exact absurd (okI_fig.mp q) z
      rw [q, if_neg (by decide)]
      exact fin t a cu hf (by omega) (fun _ => z)
  · rintro a ⟨cu, hf⟩ K
    have a0 : a 135 0 = nI L := by rw [cu.2.1 0 (by omega)]; exact h0
    dsimp only
    rw [p_X8_number_4, a0, cu.1, if_pos (nI_le (show L ≤ i + (L - i) by omega) (by omega))]
    exact fin (L - i) a cu hf (by omega) (fun q => absurd q (by omega))
end
