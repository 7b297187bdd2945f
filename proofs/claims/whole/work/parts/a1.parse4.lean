/-! the numbers of an item, read by the reference -/
section
variable {h : kH}
theorem rq_i121 {K38 : Int32 × Int32 × Int32 × Int32 × kH → Option (Int32 × kH)} {x v : Int32} {N k : Nat} (hk : k < 6) : p_X8_isItem_121 K38 x (nI N) (nI k) v (nI k) h = K38 (x, nI N, b1 (!decide (v < 0)), nI (k + 1), hs h 151 k v) := by
  simp (disch := omega) only [p_X8_isItem_121, p_X8_isItem_137, gd_i, nI_clamp, le_d, hs_s, nI_add]
  by_cases z : v < 0
  · rw [if_pos z, decide_eq_true z]; rfl
  · rw [if_neg z, decide_eq_false z]; rfl
theorem nvR_neg {T : Nat → Int32} {L i c : Nat} (f : fgs T L i c) : (!decide (nvR T i c < 0)) = decide (1 ≤ c ∧ c ≤ 3) := by
  unfold nvR
  by_cases z : 1 ≤ c ∧ c ≤ 3
  · have := (nv_le c f.2.1 z.2).1
    rw [if_pos z, decide_eq_true z, decide_eq_false (show ¬ nI (nv T i c) < 0 by rw [lt_z, nI_toInt (by omega)]; omega)]; rfl
  · rw [if_neg z, decide_eq_false z]; rfl
theorem rq_i78 {K38 : Int32 × Int32 × Int32 × Int32 × kH → Option (Int32 × kH)} {x : Int32} {N k c0 s L : Nat} (hk : k < 6) (h2 : h 135 2 = nI c0) (h0 : h 135 0 = nI L) (hs' : s = c0 + if k = 0 then 0 else 1) (hsL : s ≤ L) (hL : L ≤ 500) : ∃ h', p_X8_isItem_78 K38 x (nI N) (nI k) h = K38 (x, nI N, b1 (decide (1 ≤ fgL (h 136) L s ∧ fgL (h 136) L s ≤ 3)), nI (k + 1), hs h' 151 k (nvR (h 136) s (fgL (h 136) L s))) ∧ Cur h h' (s + fgL (h 136) L s) := by
  have cu : Cur h (hs h 135 2 (nI s)) s := ⟨hs_s _ _ _ _, fun j hj => hs_i hj, fun k hk => hs_k hk⟩
  obtain ⟨c, h', e, f, cu'⟩ := rq_num (h := hs h 135 2 (nI s)) hsL hL (hs_s _ _ _ _) (by rw [hs_i (by omega)]; exact h0)
  rw [cu.2.2 136 (by omega)] at e f
  have hc := fgL_u hsL f
  subst hc
  have n9 := nvR_neg f
  refine ⟨h', ?_, cu'.1, fun j hj => by rw [cu'.2.1 j hj, cu.2.1 j hj], fun k hk => by rw [cu'.2.2 k hk, cu.2.2 k hk]⟩
  have e99 : ∀ s0 : Int32, nI c0 + s0 = nI s → p_X8_isItem_99 K38 x (nI N) (nI 1) (nI k) s0 (nI c0) h = K38 (x, nI N, b1 (decide (1 ≤ fgL (h 136) L s ∧ fgL (h 136) L s ≤ 3)), nI (k + 1), hs h' 151 k (nvR (h 136) s (fgL (h 136) L s))) := by
    intro s0 es
    rw [p_X8_isItem_99, le_d, es, if_neg nI_10, e, bd2_s, rq_i121 hk, n9]
  rw [p_X8_isItem_78, p_X8_isItem_83, h2]
  by_cases z : k = 0
  · rw [if_pos (by rw [z]; exact nI_00)]
    exact e99 (nI 0) (by rw [nI_add, hs', if_pos z])
  · rw [if_neg (fun q => z ((nI_eq0 (by omega)).mp q))]
    exact e99 (nI 1) (by rw [nI_add, hs', if_neg z])
theorem rq_i82 {K38 : Int32 × Int32 × Int32 × Int32 × kH → Option (Int32 × kH)} {x : Int32} {N k : Nat} (hk : k < 6) (hk0 : k ≠ 0) : p_X8_isItem_82 K38 x (nI N) (nI k) h = K38 (x, nI N, b1 false, nI (k + 1), hs (hs h 135 2 (h 135 2 + nI 1)) 151 k (-1)) := by
  rw [p_X8_isItem_82, p_X8_isItem_83, if_neg (fun q => hk0 ((nI_eq0 (by omega)).mp q)), p_X8_isItem_99, le_d, if_pos nI_00, rq_i121 hk]
  rfl
/-- the cursor in front of the sign behind number k - 1 -/
def cuN (T : Nat → Int32) (L i : Nat) : Nat → Nat
  | 0 => i + 1
  | k + 1 => psN T L i k + fgL T L (psN T L i k)
def Fr5 (h h' : kH) : Prop := (∀ j, j ≠ 2 → h' 135 j = h 135 j) ∧ ∀ k, k ≠ 135 → k ≠ 151 → h' k = h k
theorem cu_ps {T : Nat → Int32} {L i k : Nat} : psN T L i k = cuN T L i k + if k = 0 then 0 else 1 := by
  cases k with
  | zero => rfl
  | succ k => rw [if_neg (by omega)]; rfl
theorem rq_itemL {i L N : Nat} {x : Int32} (hi : i < L) (hL : L ≤ 500) (hN : N ≤ 6) (h2 : h 135 2 = nI (i + 1)) (h0 : h 135 0 = nI L) : ∃ h', Fr5 h h' ∧ (((∀ k, k < N → okN (h 136) L i N k) ∧ 1 ≤ N ∧ h' 135 2 = nI (psN (h 136) L i N) ∧ (∀ k, k < N → h' 151 k = nI (vlN (h 136) L i k)) ∧ p_X8_isItem_34 x (nI N) (nI 1) h = bd2 (p_X8_isGood x h') fun v10 h8 => if v10 = 0 then some ((nI 0), h8) else some ((nI 1), h8)) ∨ (¬ ((∀ k, k < N → okN (h 136) L i N k) ∧ 1 ≤ N) ∧ p_X8_isItem_34 x (nI N) (nI 1) h = some (nI 0, h')) ∨ N = 0) := by
  by_cases hN0 : N = 0
  · exact ⟨h, ⟨fun _ _ => rfl, fun _ _ _ => rfl⟩, Or.inr (Or.inr hN0)⟩
  unfold p_X8_isItem_34
  refine fx_m (fun k (a : Bool × kH) => (x, nI N, b1 a.1, nI k, a.2)) (fun k a => Fr5 h a.2 ∧ (a.1 = true → (∀ t, t < k → (1 ≤ fgL (h 136) L (psN (h 136) L i t) ∧ fgL (h 136) L (psN (h 136) L i t) ≤ 3) ∧ a.2 151 t = nI (vlN (h 136) L i t)) ∧ (∀ t, t + 1 < k → okN (h 136) L i N t) ∧ a.2 135 2 = nI (cuN (h 136) L i k) ∧ cuN (h 136) L i k ≤ L) ∧ (a.1 = false → ¬ ∀ k, k < N → okN (h 136) L i N k)) (fun o => ∃ h', Fr5 h h' ∧ (((∀ k, k < N → okN (h 136) L i N k) ∧ 1 ≤ N ∧ h' 135 2 = nI (psN (h 136) L i N) ∧ (∀ k, k < N → h' 151 k = nI (vlN (h 136) L i k)) ∧ o = bd2 (p_X8_isGood x h') fun v10 h8 => if v10 = 0 then some ((nI 0), h8) else some ((nI 1), h8)) ∨ (¬ ((∀ k, k < N → okN (h 136) L i N k) ∧ 1 ≤ N) ∧ o = some (nI 0, h')) ∨ N = 0)) N (by omega) (a := (true, h)) ⟨⟨fun _ _ => rfl, fun _ _ _ => rfl⟩, fun _ => ⟨fun t ht => absurd ht (by omega), fun t ht => absurd ht (by omega), h2, by rw [cuN]; omega⟩, fun q => by cases q⟩ ?_ ?_
  · rintro k ⟨b, a⟩ hk ⟨fr, ht, hf⟩ K hK
    dsimp only at fr ht hf ⊢
    have a136 : a 136 = h 136 := fr.2 _ (by omega) (by omega)
    have a0 : a 135 0 = nI L := by rw [fr.1 0 (by omega)]; exact h0
    have fr2 : ∀ y, Fr5 h (hs a 135 2 y) := fun y => ⟨fun j hj => by rw [hs_i hj]; exact fr.1 j hj, fun k q1 q2 => by rw [hs_k q1]; exact fr.2 k q1 q2⟩
    rw [p_X8_isItem_38, if_neg (nI_ge hk (by omega))]
    cases b with
    | false =>
      rw [if_pos (show b1 false = 0 by rw [b1_f]; exact nI_00), p_X8_isItem_144, if_pos (show b1 false = 0 by rw [b1_f]; exact nI_00), p_X8_isItem_177, p_X8_isItem_178, le_d, if_pos nI_00]
      exact ⟨_, fr2 _, Or.inr (Or.inl ⟨fun q => hf rfl q.1, rfl⟩)⟩
    | true =>
      rw [if_neg (show ¬ b1 true = 0 by rw [b1_t]; exact nI_10)]
      obtain ⟨t1, t2, t3, t4⟩ := ht rfl
      have num : psN (h 136) L i k ≤ L → (∀ t, t + 1 < k + 1 → okN (h 136) L i N t) → ∃ h', Fr5 h h' ∧ (((∀ k, k < N → okN (h 136) L i N k) ∧ 1 ≤ N ∧ h' 135 2 = nI (psN (h 136) L i N) ∧ (∀ k, k < N → h' 151 k = nI (vlN (h 136) L i k)) ∧ p_X8_isItem_78 K x (nI N) (nI k) a = bd2 (p_X8_isGood x h') fun v10 h8 => if v10 = 0 then some ((nI 0), h8) else some ((nI 1), h8)) ∨ (¬ ((∀ k, k < N → okN (h 136) L i N k) ∧ 1 ≤ N) ∧ p_X8_isItem_78 K x (nI N) (nI k) a = some (nI 0, h')) ∨ N = 0) := by
        intro hps hpre
        obtain ⟨h', e, cu⟩ := rq_i78 (K38 := K) (x := x) (N := N) (k := k) (h := a) (c0 := cuN (h 136) L i k) (s := psN (h 136) L i k) (L := L) (by omega) t3 a0 cu_ps hps hL
        rw [a136] at e cu
        rw [e]
        refine hK (decide (1 ≤ fgL (h 136) L (psN (h 136) L i k) ∧ fgL (h 136) L (psN (h 136) L i k) ≤ 3), hs h' 151 k (nvR (h 136) (psN (h 136) L i k) (fgL (h 136) L (psN (h 136) L i k)))) ⟨⟨fun j hj => by dsimp only; rw [hs_k (by omega), cu.2.1 j hj]; exact fr.1 j hj, fun q q1 q2 => by dsimp only; rw [hs_k q2, cu.2.2 q q1]; exact fr.2 q q1 q2⟩, fun q => ?_, fun q all => (of_decide_eq_false q) (all k hk).1⟩
        have q := of_decide_eq_true q
        refine ⟨fun t ht => ?_, hpre, by dsimp only; rw [hs_k (by omega)]; exact cu.1, (fgL_s hps).1⟩
        dsimp only
        by_cases e : t = k
        · subst e
          refine ⟨q, ?_⟩
          rw [hs_s, nvR, if_pos q]; rfl
        · rw [hs_i e, cu.2.2 151 (by omega)]; exact t1 t (by omega)
      by_cases k0 : k = 0
      · rw [if_pos (by rw [k0]; exact nI_00)]
        exact num (by rw [k0, psN]; omega) (fun t ht => absurd ht (by omega))
      · rw [if_neg (fun q => k0 ((nI_eq0 (by omega)).mp q)), a0, t3]
        obtain ⟨k', rfl⟩ : ∃ k', k = k' + 1 := ⟨k - 1, by omega⟩
        have no : ¬ okN (h 136) L i N k' → ∃ h', Fr5 h h' ∧ (((∀ k, k < N → okN (h 136) L i N k) ∧ 1 ≤ N ∧ h' 135 2 = nI (psN (h 136) L i N) ∧ (∀ k, k < N → h' 151 k = nI (vlN (h 136) L i k)) ∧ p_X8_isItem_82 K x (nI N) (nI (k' + 1)) a = bd2 (p_X8_isGood x h') fun v10 h8 => if v10 = 0 then some ((nI 0), h8) else some ((nI 1), h8)) ∨ (¬ ((∀ k, k < N → okN (h 136) L i N k) ∧ 1 ≤ N) ∧ p_X8_isItem_82 K x (nI N) (nI (k' + 1)) a = some (nI 0, h')) ∨ N = 0) := by
          intro n
          rw [rq_i82 (by omega) (by omega)]
          exact hK (false, hs (hs a 135 2 (a 135 2 + nI 1)) 151 (k' + 1) (-1)) ⟨⟨fun j hj => by dsimp only; rw [hs_k (by omega)]; exact (fr2 _).1 j hj, fun q q1 q2 => by dsimp only; rw [hs_k q2]; exact (fr2 _).2 q q1 q2⟩, fun q => absurd (show false = true from q) (by decide), fun _ all => n (all k' (by omega))⟩
        have ecu : cuN (h 136) L i (k' + 1) = psN (h 136) L i k' + fgL (h 136) L (psN (h 136) L i k') := rfl
        by_cases z : cuN (h 136) L i (k' + 1) < L
        · rw [if_neg (nI_ge z (by omega)), gd_i (by omega) (by omega), nI_clamp (by omega), a136]
          by_cases y : h 136 (cuN (h 136) L i (k' + 1)) = nI 44
          · rw [if_pos y]
            refine num (by rw [cu_ps, if_neg (by omega)]; omega) (fun t ht => ?_)
            by_cases e : t = k'
            · subst e
              exact ⟨(t1 t (by omega)).1, by omega, by rw [← ecu, y, if_neg (by omega)]⟩
            · exact t2 t (by omega)
          · rw [if_neg y]
            exact no (fun q => y (by have := q.2.2; rw [← ecu, if_neg (by omega)] at this; exact this))
        · rw [if_pos (nI_le (by omega) (by omega))]
          exact no (fun q => z (by have := q.2.1; omega))
  · rintro ⟨b, a⟩ ⟨fr, ht, hf⟩ K
    dsimp only at fr ht hf ⊢
    have a136 : a 136 = h 136 := fr.2 _ (by omega) (by omega)
    have a0 : a 135 0 = nI L := by rw [fr.1 0 (by omega)]; exact h0
    have fr2 : ∀ y, Fr5 h (hs a 135 2 y) := fun y => ⟨fun j hj => by rw [hs_i hj]; exact fr.1 j hj, fun k q1 q2 => by rw [hs_k q1]; exact fr.2 k q1 q2⟩
    rw [p_X8_isItem_38, if_pos (nI_le (Nat.le_refl N) (by omega)), p_X8_isItem_144]
    cases b with
    | false =>
      rw [if_pos (show b1 false = 0 by rw [b1_f]; exact nI_00), p_X8_isItem_177, p_X8_isItem_178, le_d, if_pos nI_00]
      exact ⟨_, fr2 _, Or.inr (Or.inl ⟨fun q => hf rfl q.1, rfl⟩)⟩
    | true =>
      rw [if_neg (show ¬ b1 true = 0 by rw [b1_t]; exact nI_10)]
      obtain ⟨t1, t2, t3, t4⟩ := ht rfl
      obtain ⟨k', rfl⟩ : ∃ k', N = k' + 1 := ⟨N - 1, by omega⟩
      have ecu : cuN (h 136) L i (k' + 1) = psN (h 136) L i k' + fgL (h 136) L (psN (h 136) L i k') := rfl
      rw [a0, t3]
      by_cases z : cuN (h 136) L i (k' + 1) < L
      · rw [if_neg (nI_ge z (by omega)), gd_i (by omega) (by omega), nI_clamp (by omega), a136]
        by_cases y : h 136 (cuN (h 136) L i (k' + 1)) = nI 59
        · rw [if_pos y, p_X8_isItem_178, le_d, if_neg nI_10, t3, nI_add]
          refine ⟨_, fr2 _, Or.inl ⟨fun t ht => ?_, by omega, ?_, fun t ht => by rw [hs_k (by omega)]; exact (t1 t ht).2, rfl⟩⟩
          · by_cases e : t = k'
            · subst e
              exact ⟨(t1 t (by omega)).1, by omega, by rw [← ecu, y, if_pos (by omega)]⟩
            · exact t2 t (by omega)
          · rw [hs_s, cu_ps, if_neg (by omega)]
        · rw [if_neg y, p_X8_isItem_177, p_X8_isItem_178, le_d, if_pos nI_00]
          exact ⟨_, fr2 _, Or.inr (Or.inl ⟨fun q => y (by have := (q.1 k' (by omega)).2.2; rw [← ecu, if_pos (by omega)] at this; exact this), rfl⟩)⟩
      · rw [if_pos (nI_le (by omega) (by omega)), p_X8_isItem_177, p_X8_isItem_178, le_d, if_pos nI_00]
        exact ⟨_, fr2 _, Or.inr (Or.inl ⟨fun q => z (by have := (q.1 k' (by omega)).2.1; omega), rfl⟩)⟩
end
