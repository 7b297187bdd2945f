/-! the air, and what is done to all cells at once -/
theorem q_place {t c : Nat} {h : kH} (ht : t < 240) (hc : c < 30) : p_X0_place (nI t) (nI c) h = some (nI (t * 30 + c), h) := by
  simp only [p_X0_place, if_neg (nI_pos (show t < 2 ^ 31 by omega)), if_neg (nI_ge ht (by omega)), if_neg (nI_pos (show c < 2 ^ 31 by omega)), if_neg (nI_ge hc (by omega)), p_X0_place_26, if_neg nI_10, pk_mul, nI_add]
theorem q_put {t c b : Nat} {x : Int32} {h : kH} (ht : t < 240) (hc : c < 30) (hb : b ≤ 1) : p_X0_put (nI t) (nI c) x (nI b) h = some (hs h 133 (t * 30 + c) (nI 2 * x + nI b)) := by
  have hp : t * 30 + c < 7200 := by omega
  have ho : p_X7_oneIf (nI b) h = some (nI b, h) := by
    unfold p_X7_oneIf
    rcases (show b = 0 ∨ b = 1 by omega) with rfl | rfl
    · rw [if_pos nI_00]
    · rw [if_neg nI_10]
  simp (disch := omega) only [p_X0_put, q_place ht hc, bd2_s, ho, gd_i, le_d, nI_clamp]
theorem q_heatAt {t c : Nat} {h : kH} (ht : t < 240) (hc : c < 30) : p_X0_heatAt (nI t) (nI c) h = some (h 133 (t * 30 + c) / nI 2, h) := by
  have hp : t * 30 + c < 7200 := by omega
  simp (disch := omega) only [p_X0_heatAt, q_place ht hc, bd2_s, gd_i, nI_clamp]
theorem q_blackensAt {t c : Nat} {h : kH} (ht : t < 240) (hc : c < 30) : p_X0_blackensAt (nI t) (nI c) h = some (if krem (h 133 (t * 30 + c)) (nI 2) = nI 1 then nI 1 else nI 0, h) := by
  have hp : t * 30 + c < 7200 := by omega
  simp (disch := omega) only [p_X0_blackensAt, q_place ht hc, bd2_s, gd_i, nI_clamp]
  by_cases q : krem (h 133 (t * 30 + c)) (nI 2) = nI 1
  · rw [if_pos q, if_pos q]
  · rw [if_neg q, if_neg q]
/-- 1 where a pot comes out black -/
def blk (f : kH) (c : Nat) : Nat := if f 4 c = 0 ∧ f 1 c ≤ 0 then 0 else 1
theorem blk_le (f : kH) (c : Nat) : blk f c ≤ 1 := by
  unfold blk
  by_cases q : f 4 c = 0 ∧ f 1 c ≤ 0
  · rw [if_pos q]; omega
  · rw [if_neg q]; omega
theorem q_tell {F t : Nat} {h : kH} (ht : t < 240) (hF : F + 5 < 133) : ∃ h', p_X1_tell F (nI t) h = some h' ∧ (∀ c, c < 30 → h' 133 (t * 30 + c) = nI 2 * h (F + 1) c + nI (blk (cF h F 30) c)) ∧ (∀ j, (j < t * 30 ∨ t * 30 + 30 ≤ j) → h' 133 j = h 133 j) ∧ ∀ k, k ≠ 133 → h' k = h k := by
  show okp (fun h' : kH => (∀ c, c < 30 → h' 133 (t * 30 + c) = nI 2 * h (F + 1) c + nI (blk (cF h F 30) c)) ∧ (∀ j, (j < t * 30 ∨ t * 30 + 30 ≤ j) → h' 133 j = h 133 j) ∧ ∀ k, k ≠ 133 → h' k = h k) _
  unfold p_X1_tell
  refine fx_m (fun i (h : kH) => (nI t, nI i, h)) (fun i h1 => (∀ c, c < i → h1 133 (t * 30 + c) = nI 2 * h (F + 1) c + nI (blk (cF h F 30) c)) ∧ (∀ j, (j < t * 30 ∨ t * 30 + 30 ≤ j) → h1 133 j = h 133 j) ∧ ∀ k, k ≠ 133 → h1 k = h k) _ 30 (by omega) ⟨fun c hc => absurd hc (by omega), fun _ _ => rfl, fun _ _ => rfl⟩ ?_ ?_
  · intro i h1 hi ⟨hv, hj, hf⟩ K hK
    have key : ∀ b : Nat, b = blk (cF h F 30) i → okp (fun h' : kH => (∀ c, c < 30 → h' 133 (t * 30 + c) = nI 2 * h (F + 1) c + nI (blk (cF h F 30) c)) ∧ (∀ j, (j < t * 30 ∨ t * 30 + 30 ≤ j) → h' 133 j = h 133 j) ∧ ∀ k, k ≠ 133 → h' k = h k) (p_X1_tell_40 K F (nI t) (nI i) (nI b) (h (F + 1) i) (nI i) (nI t) h1) := by
      intro b hb
      have hb1 : b ≤ 1 := by rw [hb]; exact blk_le _ _
      simp only [p_X1_tell_40, q_put ht hi hb1, bd_s, nI_add]
      refine hK _ ⟨fun c hc => ?_, fun j hjj => ?_, fun k hk => by rw [hs_k hk]; exact hf k hk⟩
      · by_cases e : c = i
        · subst e; rw [hs_s, hb]
        · rw [hs_i (by omega)]; exact hv c (by omega)
      · rw [hs_i (by omega)]; exact hj j hjj
    have c4 : h1 (F + 5) i = cF h F 30 4 i := by rw [cF_at (a := 4) (by omega) hi, hf _ (by omega)]
    have c1 : h1 (F + 2) i = cF h F 30 1 i := by rw [cF_at (a := 1) (by omega) hi, hf _ (by omega)]
    have c0 : h1 (F + 1) i = h (F + 1) i := by rw [hf _ (by omega)]
    simp (disch := omega) only [p_X1_tell_2, if_neg (nI_ge hi (by omega)), gd_i, nI_clamp, p_X1_tell_35, c4, c1, c0]
    by_cases q4 : cF h F 30 4 i = 0
    · rw [if_pos q4]
      by_cases q1 : cF h F 30 1 i ≤ 0
      · rw [if_pos q1]; exact key 0 (by rw [blk, if_pos ⟨q4, q1⟩])
      · rw [if_neg q1]; exact key 1 (by rw [blk, if_neg (fun q => q1 q.2)])
    · rw [if_neg q4]; exact key 1 (by rw [blk, if_neg (fun q => q4 q.1)])
  · intro h1 ⟨hv, hj, hf⟩ K
    simp only [p_X1_tell_2, if_pos (nI_le (Nat.le_refl 30) (by omega))]
    exact okp_s ⟨hv, hj, hf⟩
/-- attribute a of all cells becomes g of it -/
def mall (a n : Nat) (g : Int32 → Int32) (f : kH) : kH := fun a' c => if a' = a ∧ c < n then g (f a c) else f a' c
theorem cF_all {h h' : kH} {F n a : Nat} {g : Int32 → Int32} (ha : a < 5) (hv : ∀ c, c < n → h' (F + 1 + a) c = g (h (F + 1 + a) c)) (hf : ∀ k, k ≠ F + 1 + a → h' k = h k) : cF h' F n = mall a n g (cF h F n) := by
  funext a' c
  unfold mall
  by_cases q : a' = a ∧ c < n
  · rw [if_pos q, q.1, cF_at ha q.2, cF_at ha q.2]; exact hv c q.2
  · rw [if_neg q]
    unfold cF
    by_cases q2 : a' < 5 ∧ c < n
    · rw [if_pos q2, if_pos q2, hf _ (by omega)]
    · rw [if_neg q2, if_neg q2]
theorem q_shareFuel {F : Nat} {x : Int32} {h : kH} : ∃ h', p_X1_shareFuel F x h = some h' ∧ (∀ c, c < 30 → h' (F + 2) c = h (F + 2) c * x / nI 100) ∧ ∀ k, k ≠ F + 2 → h' k = h k := by
  show okp (fun h' : kH => (∀ c, c < 30 → h' (F + 2) c = h (F + 2) c * x / nI 100) ∧ ∀ k, k ≠ F + 2 → h' k = h k) _
  unfold p_X1_shareFuel
  refine fx_m (fun i (h : kH) => (x, nI i, h)) (fun i h1 => (∀ c, c < i → h1 (F + 2) c = h (F + 2) c * x / nI 100) ∧ (∀ c, i ≤ c → h1 (F + 2) c = h (F + 2) c) ∧ ∀ k, k ≠ F + 2 → h1 k = h k) _ 30 (by omega) ⟨fun c hc => absurd hc (by omega), fun _ _ => rfl, fun _ _ => rfl⟩ ?_ ?_
  · intro i h1 hi ⟨hv, hu, hf⟩ K hK
    simp (disch := omega) only [p_X1_shareFuel_2, if_neg (nI_ge hi (by omega)), gd_i, le_d, nI_clamp, nI_add]
    refine hK _ ⟨fun c hc => ?_, fun c hc => by rw [hs_i (by omega)]; exact hu c (by omega), fun k hk => by rw [hs_k hk, hf k hk]⟩
    by_cases e : c = i
    · subst e; rw [hs_s, hu c (Nat.le_refl _)]
    · rw [hs_i e]; exact hv c (by omega)
  · intro h1 ⟨hv, hu, hf⟩ K
    simp only [p_X1_shareFuel_2, if_pos (nI_le (Nat.le_refl 30) (by omega))]
    exact okp_s ⟨hv, hf⟩
theorem q_rakeOff {F : Nat} {h : kH} : ∃ h', p_X1_rakeOff F h = some h' ∧ (∀ c, c < 30 → h' (F + 2) c = nI 0) ∧ (∀ c, c < 30 → h' (F + 5) c = nI 0) ∧ ∀ k, k ≠ F + 2 → k ≠ F + 5 → h' k = h k := by
  obtain ⟨h1, e1, v1, f1⟩ := q_fill (A := F + 2) (x := nI 0) (h := h)
  show okp (fun h' : kH => (∀ c, c < 30 → h' (F + 2) c = nI 0) ∧ (∀ c, c < 30 → h' (F + 5) c = nI 0) ∧ ∀ k, k ≠ F + 2 → k ≠ F + 5 → h' k = h k) _
  unfold p_X1_rakeOff
  rw [bd_o e1]
  refine fx_m (fun i (h : kH) => (nI i, h)) (fun i h2 => (∀ c, c < i → h2 (F + 5) c = nI 0) ∧ ∀ k, k ≠ F + 5 → h2 k = h1 k) _ 30 (by omega) ⟨fun c hc => absurd hc (by omega), fun _ _ => rfl⟩ ?_ ?_
  · intro i h2 hi ⟨hv, hf⟩ K hK
    simp (disch := omega) only [p_X1_rakeOff_10, if_neg (nI_ge hi (by omega)), gd_i, le_d, nI_clamp, nI_add, nar_b0]
    refine hK _ ⟨fun c hc => ?_, fun k hk => by rw [hs_k hk, hf k hk]⟩
    by_cases e : c = i
    · subst e; rw [hs_s]
    · rw [hs_i e]; exact hv c (by omega)
  · intro h2 ⟨hv, hf⟩ K
    simp only [p_X1_rakeOff_10, if_pos (nI_le (Nat.le_refl 30) (by omega))]
    exact okp_s ⟨fun c hc => by rw [hf _ (by omega)]; exact v1 c hc, hv, fun k k1 k2 => by rw [hf k k2, f1 k k1]⟩
theorem q_coverAll {F : Nat} {h : kH} : ∃ h', p_X1_coverAll F h = some h' ∧ (∀ c, c < 30 → h' (F + 5) c = nI 1) ∧ ∀ k, k ≠ F + 5 → h' k = h k := by
  show okp (fun h' : kH => (∀ c, c < 30 → h' (F + 5) c = nI 1) ∧ ∀ k, k ≠ F + 5 → h' k = h k) _
  unfold p_X1_coverAll
  refine fx_m (fun i (h : kH) => (nI i, h)) (fun i h2 => (∀ c, c < i → h2 (F + 5) c = nI 1) ∧ ∀ k, k ≠ F + 5 → h2 k = h k) _ 30 (by omega) ⟨fun c hc => absurd hc (by omega), fun _ _ => rfl⟩ ?_ ?_
  · intro i h2 hi ⟨hv, hf⟩ K hK
    simp (disch := omega) only [p_X1_coverAll_2, if_neg (nI_ge hi (by omega)), gd_i, le_d, nI_clamp, nI_add, nar_b1]
    refine hK _ ⟨fun c hc => ?_, fun k hk => by rw [hs_k hk, hf k hk]⟩
    by_cases e : c = i
    · subst e; rw [hs_s]
    · rw [hs_i e]; exact hv c (by omega)
  · intro h2 ⟨hv, hf⟩ K
    simp only [p_X1_coverAll_2, if_pos (nI_le (Nat.le_refl 30) (by omega))]
    exact okp_s ⟨hv, hf⟩
