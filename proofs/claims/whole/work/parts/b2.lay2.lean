/-! the class lays -/
section
variable {c h : kH} {w g N : Nat}
theorem cR_of {D h : kH} {R R2 : Nat} (e0 : ∀ j, j < 2 → D R j = h R2 j) (e1 : ∀ j, 4 ≤ j → j < 10 → D R j = h R2 j) (e2 : ∀ j, j < 3 → D (R + 1) j = h (R2 + 1) j) (e3 : ∀ j, j < 3 → D (R + 2) j = h (R2 + 2) j) : cR D R = cR h R2 := by
  funext j
  unfold cR
  by_cases h1 : j < 2
  · rw [if_pos h1, if_pos h1]; exact e0 j h1
  · rw [if_neg h1, if_neg h1]
    by_cases h2 : j < 8
    · rw [if_pos h2, if_pos h2]; exact e1 _ (by omega) (by omega)
    · rw [if_neg h2, if_neg h2]
      by_cases h3 : j < 11
      · rw [if_pos h3, if_pos h3]; exact e2 _ (by omega)
      · rw [if_neg h3, if_neg h3]
        by_cases h4 : j < 14
        · rw [if_pos h4, if_pos h4]; exact e3 _ (by omega)
        · rw [if_neg h4, if_neg h4]
theorem q_rulesCopy : ∃ h', p_X5_copyFrom 28 3 h = some h' ∧ cR h' 28 = cR h 3 ∧ ∀ k, (k < 28 ∨ 30 < k) → h' k = h k := by
  show okp (fun h' : kH => cR h' 28 = cR h 3 ∧ ∀ k, (k < 28 ∨ 30 < k) → h' k = h k) _
  unfold p_X5_copyFrom
  rw [le_d, le_d]
  refine fx_m (fun i (a : kH) => (nI i, a)) (fun i a => (a 28 0 = h 3 0 ∧ a 28 1 = h 3 1) ∧ (∀ j, j < i → a 29 j = h 4 j ∧ a 30 j = h 5 j) ∧ ∀ k, (k < 28 ∨ 30 < k) → a k = h k) _ 3 (by omega) ⟨⟨by rw [hs_i (by omega), hs_s], by rw [hs_s, hs_k (by omega)]⟩, fun j hj => absurd hj (by omega), fun k hk => by rw [hs_k (by omega), hs_k (by omega)]⟩ ?_ ?_
  · rintro i a hi ⟨b0, b1, b2⟩ K hK
    simp (disch := omega) only [p_X5_copyFrom_18, p_X5_setKind, if_neg (nI_ge hi (show 3 < 2 ^ 31 by omega)), gd_i, nI_clamp, le_d, bd_s, nI_add, Nat.reduceAdd, b2]
    refine hK _ ⟨⟨by rw [hs_k (by omega), hs_k (by omega)]; exact b0.1, by rw [hs_k (by omega), hs_k (by omega)]; exact b0.2⟩, fun j hj => ?_, fun k hk => by rw [hs_k (by omega), hs_k (by omega)]; exact b2 k hk⟩
    by_cases e : j = i
    · subst e; rw [hs_k (by omega), hs_s, hs_s]; exact ⟨rfl, rfl⟩
    · rw [hs_i e, hs_i e, hs_i e, hs_i e]; exact b1 j (by omega)
  · rintro a ⟨b0, b1, b2⟩ K
    simp (disch := omega) only [p_X5_copyFrom_18, if_pos (nI_le (Nat.le_refl 3) (show 3 < 2 ^ 31 by omega)), le_d, hs_k, b2]
    refine okp_s ⟨?_, fun k hk => by simp (disch := omega) only [hs_k, b2]⟩
    refine cR_of (fun j hj => ?_) (fun j h1 h2 => ?_) (fun j hj => ?_) (fun j hj => ?_)
    · rcases (show j = 0 ∨ j = 1 by omega) with rfl | rfl
      · simp (disch := omega) only [hs_i]; exact b0.1
      · simp (disch := omega) only [hs_i]; exact b0.2
    · rcases (show j = 4 ∨ j = 5 ∨ j = 6 ∨ j = 7 ∨ j = 8 ∨ j = 9 by omega) with rfl | rfl | rfl | rfl | rfl | rfl <;> simp (disch := omega) only [hs_i, hs_s]
    · simp (disch := omega) only [hs_k, Nat.reduceAdd]; exact (b1 j hj).1
    · simp (disch := omega) only [hs_k, Nat.reduceAdd]; exact (b1 j hj).2
theorem wy_le {x y w g : Nat} (hx : x < w) (hy : y < g) : x + w * y < w * g := by
  have : w * (y + 1) ≤ w * g := Nat.mul_le_mul_left w hy
  rw [Nat.mul_add, Nat.mul_one] at this
  omega
def LayC (c : kH) (w g : Nat) (c' : kH) : Prop := cR c' 28 = cR c 3 ∧ (∀ a q, a < 5 → q < w * g → c' (33 + a) q = nb a (c (7 + a) (q % w + 6 * (q / w)))) ∧ c' 39 0 = c 13 0 ∧ (∀ a i, 1 ≤ a → a ≤ 10 → i < 6 → c' (39 + a) i = if a = 10 then vp_nar .boolean (c (13 + a) i) else c (13 + a) i) ∧ c' 31 2 = nI 0 ∧ ∀ k, (k < 28 ∨ 49 < k) → c' k = c k
theorem q_layOn (hw : c 3 0 = nI w) (hg : c 3 1 = nI g) (hw1 : 1 ≤ w) (hw6 : w ≤ 6) (hg5 : g ≤ 5) : ∃ c', p_X3_layOn 28 31 c = some c' ∧ LayC c w g c' := by
  obtain ⟨c1, e1, v1, k1⟩ := q_rulesCopy (h := c)
  obtain ⟨c2, e2, v2, k2⟩ := q_clear (F := 32) (h := c1)
  have wg := n_le (rfl : w * g = w * g) hw6 hg5
  have c23 : ∀ k, (k < 28 ∨ 37 < k) → c2 k = c k := fun k hk => by rw [k2 k (by omega), k1 k (by omega)]
  show okp (LayC c w g) _
  unfold p_X3_layOn
  rw [e1, bd_s, e2, bd_s]
  refine fx_m (fun y (a : kH) => (nI y, a)) (fun y a => (∀ b q, b < 5 → q < w * y → a (33 + b) q = nb b (c (7 + b) (q % w + 6 * (q / w)))) ∧ ∀ k, (k < 33 ∨ 37 < k) → a k = c2 k) (okp (LayC c w g)) g (by omega) ⟨fun b q _ hq => absurd hq (by rw [Nat.mul_zero]; omega), fun _ _ => rfl⟩ ?_ ?_
  · rintro y a hy ⟨b1, b2⟩ K hK
    have a3 : ∀ d : kH, (∀ k, (k < 33 ∨ 37 < k) → d k = c2 k) → d 3 = c 3 := fun d f => by rw [f 3 (by omega), c23 3 (by omega)]
    dsimp only
    rw [p_X3_layOn_17, a3 a b2, hg, if_neg (nI_ge hy (by omega))]
    refine fx_m (mk := fun x (d : kH) => (nI y, nI x, d)) (fun x d => (∀ b q, b < 5 → q < w * y + x → d (33 + b) q = nb b (c (7 + b) (q % w + 6 * (q / w)))) ∧ ∀ k, (k < 33 ∨ 37 < k) → d k = c2 k) (okp (LayC c w g)) w (by omega) ⟨fun b q hb hq => b1 b q hb (by omega), b2⟩ ?_ ?_
    · rintro x d hx ⟨d1, d2⟩ K2 hK2
      have lt := wy_le hx hy
      obtain ⟨d', e3, v3, f3⟩ := q_copyCell (F := 32) (F2 := 6) (c := x + w * y) (d := x + 6 * y) (h := d) (by omega) (by omega) (by omega)
      have g1 : (x + w * y) % w = x := by rw [Nat.add_mul_mod_self_left, Nat.mod_eq_of_lt hx]
      have g2 : (x + w * y) / w = y := by rw [Nat.add_mul_div_left _ _ (by omega), Nat.div_eq_of_lt hx, Nat.zero_add]
      simp only [p_X3_layOn_31, a3 d d2, hw, if_neg (nI_ge hx (show w < 2 ^ 31 by omega)), pk_mul, nI_add, bd_o e3]
      refine hK2 d' ⟨fun b q hb hq => ?_, fun k hk => by rw [f3 k (by omega)]; exact d2 k hk⟩
      have := v3 b q hb
      rw [show 32 + 1 + b = 33 + b by omega, show 6 + 1 + b = 7 + b by omega] at this
      rw [this]
      by_cases e : q = x + w * y
      · rw [if_pos e, e, g1, g2, d2 (7 + b) (by omega), c23 (7 + b) (by omega)]
      · rw [if_neg e]; exact d1 b q hb (by omega)
    · rintro d ⟨d1, d2⟩ K2
      simp only [p_X3_layOn_31, a3 d d2, hw, if_pos (nI_le (Nat.le_refl w) (show w < 2 ^ 31 by omega)), nI_add]
      refine hK d ⟨fun b q hb hq => d1 b q hb (by rw [Nat.mul_add, Nat.mul_one] at hq; omega), d2⟩
  · rintro a ⟨b1, b2⟩ K
    have a3 : a 3 = c 3 := by rw [b2 3 (by omega), c23 3 (by omega)]
    obtain ⟨d, e4, u1, u2, u3⟩ := q_potsCopy (P := 39) (P2 := 13) (h := a) (by omega)
    have aP : ∀ k, (k < 28 ∨ 37 < k) → a k = c k := fun k hk => by rw [b2 k (by omega), c23 k (by omega)]
    have dR : ∀ k, k < 33 → d k = c2 k := fun k hk => by rw [u3 k (by omega), b2 k (by omega)]
    dsimp only
    rw [p_X3_layOn_17, a3, hg, if_pos (nI_le (Nat.le_refl g) (by omega)), e4, bd_s, le_d]
    refine okp_s ⟨?_, fun b q hb hq => ?_, ?_, fun x i h1 h2 h3 => ?_, hs_s _ _ _ _, fun k hk => ?_⟩
    · rw [← v1]
      refine cR_k ?_ ?_ ?_
      · rw [hs_k (by omega), dR _ (by omega), k2 _ (by omega)]
      · rw [hs_k (by omega), dR _ (by omega), k2 _ (by omega)]
      · rw [hs_k (by omega), dR _ (by omega), k2 _ (by omega)]
    · rw [hs_k (by omega), u3 _ (by omega)]; exact b1 b q hb hq
    · rw [hs_k (by omega), u1, aP 13 (by omega)]
    · rw [hs_k (by omega), u2 x i h1 h2 h3, aP (13 + x) (by omega)]
    · rw [hs_k (by omega), u3 k (by omega), aP k (by omega)]
end
