/-! can it be laid: both sides -/
def LayP (w g N : Nat) (X Y : Nat → Nat) : Prop := ∀ j, j < N → (X j < w ∧ Y j < g) ∧ ∀ t, t < j → ¬ (X j = X t ∧ Y j = Y t)
theorem xy_inj {w a b x y : Nat} (ha : a < w) (hx : x < w) (e : a + w * b = x + w * y) : a = x ∧ b = y := by
  have h1 : (a + w * b) % w = a := by rw [Nat.add_mul_mod_self_left, Nat.mod_eq_of_lt ha]
  have h2 : (x + w * y) % w = x := by rw [Nat.add_mul_mod_self_left, Nat.mod_eq_of_lt hx]
  have h3 : a = x := by rw [← h1, e, h2]
  refine ⟨h3, ?_⟩
  subst h3
  have : w * b = w * y := by omega
  exact Nat.eq_of_mul_eq_mul_left (by omega) this
section
variable {c r : kH} {w g N : Nat} {X Y : Nat → Nat}
theorem xy_le {a b w : Nat} (ha : a ≤ 5) (hb : b ≤ 4) (hw : w ≤ 6) : a + w * b ≤ 29 := by
  have : w * b ≤ 6 * 4 := Nat.mul_le_mul hw hb
  omega
theorem q_layable (h1 : c 13 0 = nI N) (hN : N ≤ 6) (hw : c 3 0 = nI w) (hg : c 3 1 = nI g) (hw6 : w ≤ 6) (hg5 : g ≤ 5) (hX : ∀ i, i < N → c 25 i = nI (X i) ∧ X i ≤ 5) (hY : ∀ i, i < N → c 26 i = nI (Y i) ∧ Y i ≤ 4) : ∃ c', (∀ k, k ≠ 14 → c' k = c k) ∧ ((LayP w g N X Y ∧ p_X3_isLayable c = some (nI 1, c') ∧ ∀ i, i < N → c' 14 i = nI (X i + w * Y i)) ∨ (¬ LayP w g N X Y ∧ p_X3_isLayable c = some (nI 0, c'))) := by
  unfold p_X3_isLayable
  refine fx_m (fun i (a : kH) => (nI i, a)) (fun i a => (∀ k, k ≠ 14 → a k = c k) ∧ (∀ j, j < i → X j < w ∧ Y j < g) ∧ ∀ j, j < i → a 14 j = nI (X j + w * Y j)) (fun o => ∃ c' : kH, (∀ k, k ≠ 14 → c' k = c k) ∧ ((LayP w g N X Y ∧ o = some (nI 1, c') ∧ ∀ i, i < N → c' 14 i = nI (X i + w * Y i)) ∨ (¬ LayP w g N X Y ∧ o = some (nI 0, c')))) N (by omega) ⟨fun _ _ => rfl, fun j hj => absurd hj (by omega), fun j hj => absurd hj (by omega)⟩ ?_ ?_
  · rintro i a hi ⟨f, b1, b2⟩ K hK
    obtain ⟨x1, x2⟩ := hX i hi
    obtain ⟨y1, y2⟩ := hY i hi
    have a13 : a 13 0 = nI N := by rw [f 13 (by omega)]; exact h1
    have a30 : a 3 0 = nI w := by rw [f 3 (by omega)]; exact hw
    have a31 : a 3 1 = nI g := by rw [f 3 (by omega)]; exact hg
    have a25 : a 25 i = nI (X i) := by rw [f 25 (by omega)]; exact x1
    have a26 : a 26 i = nI (Y i) := by rw [f 26 (by omega)]; exact y1
    simp (disch := omega) only [p_X3_isLayable_2, a13, if_neg (nI_ge hi (show N < 2 ^ 31 by omega)), gd_i, nI_clamp, a30, a31, a25, a26, le_d, pk_mul, nI_add]
    by_cases z1 : X i < w
    · rw [if_neg (nI_ge z1 (by omega))]
      by_cases z2 : Y i < g
      · rw [if_pos (nI_lt z2 (by omega))]
        refine hK _ ⟨fun k hk => by rw [hs_k hk]; exact f k hk, fun j hj => ?_, fun j hj => ?_⟩
        · by_cases e : j = i
          · subst e; exact ⟨z1, z2⟩
          · exact b1 j (by omega)
        · by_cases e : j = i
          · subst e; rw [hs_s]
          · rw [hs_i e]; exact b2 j (by omega)
      · rw [if_neg (nI_nlt (by omega) (by omega))]
        exact ⟨a, f, Or.inr ⟨fun q => z2 (q i hi).1.2, rfl⟩⟩
    · rw [if_pos (nI_le (by omega) (by omega))]
      exact ⟨a, f, Or.inr ⟨fun q => z1 (q i hi).1.1, rfl⟩⟩
  · rintro a ⟨f, b1, b2⟩ K
    have a13 : a 13 0 = nI N := by rw [f 13 (by omega)]; exact h1
    simp only [p_X3_isLayable_2, a13, if_pos (nI_le (Nat.le_refl N) (show N < 2 ^ 31 by omega)), q_anyTwo a13 hN, bd2_s, b1_if]
    have eq : ∀ i j, i < N → j < N → (a 14 i = a 14 j ↔ X i = X j ∧ Y i = Y j) := by
      intro i j hi hj
      rw [b2 i hi, b2 j hj]
      have l1 := xy_le (hX i hi).2 (hY i hi).2 hw6
      have l2 := xy_le (hX j hj).2 (hY j hj).2 hw6
      refine ⟨fun e => xy_inj (b1 i hi).1 (b1 j hj).1 (nI_inj (by omega) (by omega) e), fun e => by rw [e.1, e.2]⟩
    cases z : twoB N (fun i => a (13 + 1) i)
    · rw [if_neg (by decide)]
      refine ⟨a, f, Or.inl ⟨fun j hj => ⟨b1 j hj, fun t ht q => ?_⟩, rfl, b2⟩⟩
      have z1 := anyN_f z (j := t) (by omega)
      have z2 := anyN_f z1 (j := j) hj
      rw [decide_eq_true ht, decide_eq_true (show a (13 + 1) t = a (13 + 1) j from (eq t j (by omega) hj).mpr ⟨q.1.symm, q.2.symm⟩)] at z2
      exact absurd z2 (by decide)
    · rw [if_pos rfl]
      refine ⟨a, f, Or.inr ⟨fun q => ?_, rfl⟩⟩
      have : twoB N (fun i => a (13 + 1) i) = false := anyN_no (fun i hi => anyN_no (fun j hj => by
        by_cases e : i < j
        · rw [decide_eq_true e, decide_eq_false (show ¬ a (13 + 1) i = a (13 + 1) j from fun h => (q j hj).2 i e (by have := (eq i j hi hj).mp h; exact ⟨this.1.symm, this.2.symm⟩))]; rfl
        · rw [decide_eq_false e]; rfl))
      rw [this] at z
      exact absurd z (by decide)
theorem rq_layL (h1 : r 138 1 = nI N) (hN : N ≤ 6) (hw : r 137 14 = nI w) (hg : r 137 15 = nI g) (hw6 : w ≤ 6) (hg5 : g ≤ 5) (hX : ∀ i, i < N → r 141 (6 * i) = nI (X i) ∧ X i ≤ 5) (hY : ∀ i, i < N → r 141 (6 * i + 1) = nI (Y i) ∧ Y i ≤ 4) : (LayP w g N X Y → fx (fun K14 s => p_X8_lay_14 K14 s.1 s.2) FU ((nI 0), r) = bd (p_X8_takes r) fun h5 => bd2 (p_X8_cells h5) fun v9 h7 => some (v9, h7)) ∧ (¬ LayP w g N X Y → fx (fun K14 s => p_X8_lay_14 K14 s.1 s.2) FU ((nI 0), r) = some (-2, r)) := by
  refine fx_m (fun i (a : kH) => (nI i, a)) (fun i a => a = r ∧ ∀ j, j < i → (X j < w ∧ Y j < g) ∧ ∀ t, t < j → ¬ (X j = X t ∧ Y j = Y t)) (fun o => (LayP w g N X Y → o = bd (p_X8_takes r) fun h5 => bd2 (p_X8_cells h5) fun v9 h7 => some (v9, h7)) ∧ (¬ LayP w g N X Y → o = some (-2, r))) N (by omega) ⟨rfl, fun j hj => absurd hj (by omega)⟩ ?_ ?_
  · rintro i a hi ⟨rfl, inv⟩ K hK
    obtain ⟨x1, x2⟩ := hX i hi
    obtain ⟨y1, y2⟩ := hY i hi
    have inner : ∀ b : Bool, (b = true → X i < w ∧ Y i < g) → (b = false → ¬ LayP w g N X Y) → (LayP w g N X Y → p_X8_lay_69 K (nI i) (b1 b) a = bd (p_X8_takes a) fun h5 => bd2 (p_X8_cells h5) fun v9 h7 => some (v9, h7)) ∧ (¬ LayP w g N X Y → p_X8_lay_69 K (nI i) (b1 b) a = some (-2, a)) := by
      intro b hb hb'
      unfold p_X8_lay_69
      have fin : ∀ b : Bool, (b = true → ((X i < w ∧ Y i < g) ∧ ∀ t, t < i → ¬ (X i = X t ∧ Y i = Y t))) → (b = false → ¬ LayP w g N X Y) → (LayP w g N X Y → p_X8_lay_139 K (nI i) (b1 b) a = bd (p_X8_takes a) fun h5 => bd2 (p_X8_cells h5) fun v9 h7 => some (v9, h7)) ∧ (¬ LayP w g N X Y → p_X8_lay_139 K (nI i) (b1 b) a = some (-2, a)) := by
        intro b f1 f2
        cases b with
        | false =>
          rw [p_X8_lay_139, if_pos (show b1 false = 0 from nI_00)]
          exact ⟨fun q => absurd q (f2 rfl), fun _ => rfl⟩
        | true =>
          rw [p_X8_lay_139, if_neg (show ¬ b1 true = 0 from nI_10), nI_add]
          refine hK a ⟨rfl, fun j hj => ?_⟩
          by_cases e : j = i
          · subst e; exact f1 rfl
          · exact inv j (by omega)
      refine fx_m (fun k (s : Bool × kH) => (nI i, b1 s.1, nI k, s.2)) (fun k s => s.2 = a ∧ (s.1 = true → ((X i < w ∧ Y i < g) ∧ ∀ t, t < k → ¬ (X i = X t ∧ Y i = Y t))) ∧ (s.1 = false → ¬ LayP w g N X Y)) (fun o => (LayP w g N X Y → o = bd (p_X8_takes a) fun h5 => bd2 (p_X8_cells h5) fun v9 h7 => some (v9, h7)) ∧ (¬ LayP w g N X Y → o = some (-2, a))) i (by omega) (a := (b, a)) ⟨rfl, fun q => ⟨hb q, fun t ht => absurd ht (by omega)⟩, hb'⟩ ?_ ?_
      · rintro k ⟨s, a'⟩ hk ⟨rfl, f1, f2⟩ K2 hK2
        dsimp only at f1 f2 hK fin ⊢
        rw [p_X8_lay_72, if_neg (nI_ge hk (by omega))]
        cases s with
        | false =>
          rw [if_pos (show b1 false = 0 from nI_00)]
          exact fin false (fun q => absurd q (by decide)) f2
        | true =>
          obtain ⟨u1, u2⟩ := f1 rfl
          obtain ⟨x3, x4⟩ := hX k (by omega)
          obtain ⟨y3, y4⟩ := hY k (by omega)
          dsimp only at x1 x3 y1 y3
          rw [if_neg (show ¬ b1 true = 0 from nI_10), pk_mul, pk_mul, gd_i (by omega) (by omega), gd_i (by omega) (by omega), nI_clamp (by omega), nI_clamp (by omega), nI_add, nI_add, gd_i (by omega) (by omega), gd_i (by omega) (by omega), nI_clamp (by omega), nI_clamp (by omega), x1, x3, y1, y3, p_X8_lay_127, p_X8_lay_132, p_X8_lay_132, nI_add]
          have more : ¬ (X i = X k ∧ Y i = Y k) → (LayP w g N X Y → K2 (nI i, nI 1, nI (k + 1), a') = bd (p_X8_takes a') fun h5 => bd2 (p_X8_cells h5) fun v9 h7 => some (v9, h7)) ∧ (¬ LayP w g N X Y → K2 (nI i, nI 1, nI (k + 1), a') = some (-2, a')) := by
            intro ne
            refine hK2 (true, a') ⟨rfl, fun _ => ⟨u1, fun t ht => ?_⟩, fun q => absurd (show true = false from q) (by decide)⟩
            by_cases e : t = k
            · subst e; exact ne
            · exact u2 t (by omega)
          by_cases e1 : X i = X k
          · rw [if_pos (by rw [e1])]
            by_cases e2 : Y i = Y k
            · rw [if_pos (by rw [e2])]
              exact hK2 (false, a') ⟨rfl, fun q => absurd (show false = true from q) (by decide), fun _ q => (q i hi).2 k hk ⟨e1, e2⟩⟩
            · rw [if_neg (fun q => e2 (nI_inj (by omega) (by omega) q))]
              exact more (fun q => e2 q.2)
          · rw [if_neg (fun q => e1 (nI_inj (by omega) (by omega) q))]
            exact more (fun q => e1 q.1)
      · rintro ⟨s, a'⟩ ⟨rfl, f1, f2⟩ K2
        dsimp only at f1 f2 hK fin ⊢
        rw [p_X8_lay_72, if_pos (nI_le (Nat.le_refl i) (by omega))]
        exact fin s f1 f2
    dsimp only
    rw [p_X8_lay_14, gd_i (by omega) (by omega), nI_clamp (by omega), h1, if_neg (nI_ge hi (by omega)), pk_mul, gd_i (by omega) (by omega), gd_i (by omega) (by omega), nI_clamp (by omega), nI_clamp (by omega), hw, x1, nI_add, gd_i (by omega) (by omega), gd_i (by omega) (by omega), nI_clamp (by omega), nI_clamp (by omega), hg, y1, p_X8_lay_68]
    by_cases z1 : X i < w
    · rw [if_neg (nI_ge z1 (by omega))]
      by_cases z2 : Y i < g
      · rw [if_neg (nI_ge z2 (by omega))]
        exact inner true (fun _ => ⟨z1, z2⟩) (fun q => absurd q (by decide))
      · rw [if_pos (nI_le (by omega) (by omega))]
        exact inner false (fun q => absurd q (by decide)) (fun _ q => z2 (q i hi).1.2)
    · rw [if_pos (nI_le (by omega) (by omega))]
      exact inner false (fun q => absurd q (by decide)) (fun _ q => z1 (q i hi).1.1)
  · rintro a ⟨rfl, inv⟩ K
    dsimp only
    rw [p_X8_lay_14, gd_i (by omega) (by omega), nI_clamp (by omega), h1, if_pos (nI_le (Nat.le_refl N) (by omega))]
    exact ⟨fun _ => rfl, fun q => absurd inv q⟩
end
