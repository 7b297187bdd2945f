/-! counting, drying, copying of the pots -/
def mloss (ru : Nat → Int32) (p : kH) (i : Nat) : Int32 := if p 4 i = 0 then (if p 3 i < ru 4 then nI 5 else nI 0) else p 4 i
def cntN (f : Nat → Bool) : Nat → Nat
  | 0 => 0
  | n + 1 => cntN f n + (if f n = true then 1 else 0)
theorem cntN_le (f : Nat → Bool) : ∀ n, cntN f n ≤ n
  | 0 => Nat.le_refl _
  | n + 1 => by
    have := cntN_le f n
    rw [cntN]
    split <;> omega
theorem cntN_congr {f g : Nat → Bool} : ∀ {n : Nat}, (∀ j, j < n → f j = g j) → cntN f n = cntN g n
  | 0, _ => rfl
  | n + 1, h => by rw [cntN, cntN, cntN_congr (fun j hj => h j (by omega)), h n (by omega)]
theorem cntN_t {f : Nat → Bool} {n : Nat} (h : f n = true) : cntN f (n + 1) = cntN f n + 1 := by rw [cntN, if_pos h]
theorem cntN_n {f : Nat → Bool} {n : Nat} (h : f n = false) : cntN f (n + 1) = cntN f n := by rw [cntN, h]; rfl
/-- the first that is so -/
def fsN (f : Nat → Bool) : Nat → Option Nat
  | 0 => none
  | n + 1 => match fsN f n with
    | some j => some j
    | none => if f n = true then some n else none
theorem fsN_hit {f : Nat → Bool} {i : Nat} (h0 : fsN f i = none) (hf : f i = true) : ∀ {n : Nat}, i < n → fsN f n = some i
  | 0, h => absurd h (by omega)
  | n + 1, h => by
    by_cases e : i = n
    · subst e; simp [fsN, h0, hf]
    · simp [fsN, fsN_hit h0 hf (show i < n by omega)]
theorem fsN_no {f : Nat → Bool} {i : Nat} (h0 : fsN f i = none) (hf : f i = false) : fsN f (i + 1) = none := by simp [fsN, h0, hf]
theorem fsN_congr {f g : Nat → Bool} : ∀ {n : Nat}, (∀ j, j < n → f j = g j) → fsN f n = fsN g n
  | 0, _ => rfl
  | n + 1, h => by rw [fsN, fsN, fsN_congr (fun j hj => h j (by omega)), h n (by omega)]
def sumN (g : Nat → Int32) : Nat → Int32
  | 0 => nI 0
  | n + 1 => sumN g n + g n
theorem q_lossOf {P R m i : Nat} {h : kH} (hi : i < m) (hm : m ≤ 6) : p_X4_lossOf P R (nI i) h = some (mloss (cR h R) (cP h P m) i, h) := by
  have c3 : cP h P m 3 i = h (P + 7) i := cP_at (a := 3) (by omega) hi
  have c4 : cP h P m 4 i = h (P + 8) i := cP_at (a := 4) (by omega) hi
  have r4 : cR h R 4 = h R 6 := rfl
  simp (disch := omega) only [p_X4_lossOf, gd_i, nI_clamp, mloss, c3, c4, r4]
  by_cases q1 : h (P + 8) i = 0
  · simp only [if_pos q1]
    by_cases q2 : h (P + 7) i < h R 6
    · simp only [if_pos q2]
    · simp only [if_neg q2]
  · simp only [if_neg q1]
theorem q_countGood {P R m : Nat} {h : kH} (hc : h P 0 = nI m) (hm : m ≤ 6) : p_X4_countGood P R h = some (nI (cntN (fun i => decide (mloss (cR h R) (cP h P m) i = 0)) m), h) := by
  unfold p_X4_countGood
  refine fx_m (fun i (a : Int32 × kH) => (a.1, nI i, a.2)) (fun i a => a = (nI (cntN (fun i => decide (mloss (cR h R) (cP h P m) i = 0)) i), h)) (fun r => r = some (nI (cntN (fun i => decide (mloss (cR h R) (cP h P m) i = 0)) m), h)) m (by omega) (a := (nI 0, h)) rfl ?_ ?_
  · rintro i a hi rfl K hK
    dsimp only
    simp only [p_X4_countGood_4, hc, if_neg (nI_ge hi (show m < 2 ^ 31 by omega)), q_lossOf hi hm, bd2_s, nI_add]
    by_cases q : mloss (cR h R) (cP h P m) i = 0
    · rw [if_pos q]
      exact hK (nI (cntN _ i + 1), h) (by rw [cntN_t (by simp [q])])
    · rw [if_neg q]
      exact hK (nI (cntN _ i), h) (by rw [cntN_n (by simp [q])])
  · rintro a rfl K
    dsimp only
    simp only [p_X4_countGood_4, hc, if_pos (nI_le (Nat.le_refl m) (show m < 2 ^ 31 by omega))]
theorem q_countLost {P m : Nat} {h : kH} (hc : h P 0 = nI m) (hm : m ≤ 6) : p_X4_countLost P h = some (nI (cntN (fun i => !decide (cP h P m 4 i < nI 1) && !decide (nI 4 < cP h P m 4 i)) m), h) := by
  unfold p_X4_countLost
  refine fx_m (fun i (a : Int32 × kH) => (a.1, nI i, a.2)) (fun i a => a = (nI (cntN (fun i => !decide (cP h P m 4 i < nI 1) && !decide (nI 4 < cP h P m 4 i)) i), h)) (fun r => r = some (nI (cntN (fun i => !decide (cP h P m 4 i < nI 1) && !decide (nI 4 < cP h P m 4 i)) m), h)) m (by omega) (a := (nI 0, h)) rfl ?_ ?_
  · rintro i a hi rfl K hK
    have c4 : cP h P m 4 i = h (P + 8) i := cP_at (a := 4) (by omega) hi
    dsimp only
    simp (disch := omega) only [p_X4_countLost_4, hc, if_neg (nI_ge hi (show m < 2 ^ 31 by omega)), gd_i, nI_clamp, nI_add]
    by_cases q : h (P + 8) i < nI 1
    · rw [if_pos q]
      exact hK (nI (cntN _ i), h) (by rw [cntN_n (by simp [c4, q])])
    · rw [if_neg q]
      by_cases q2 : nI 4 < h (P + 8) i
      · rw [if_pos q2]
        exact hK (nI (cntN _ i), h) (by rw [cntN_n (by simp [c4, q2])])
      · rw [if_neg q2]
        exact hK (nI (cntN _ i + 1), h) (by rw [cntN_t (by simp only [c4]; simp [q, q2])])
  · rintro a rfl K
    dsimp only
    simp only [p_X4_countLost_4, hc, if_pos (nI_le (Nat.le_refl m) (show m < 2 ^ 31 by omega))]
theorem q_countWhole {P m : Nat} {h : kH} (hc : h P 0 = nI m) (hm : m ≤ 6) : p_X4_countWhole P h = some (nI (cntN (fun i => decide (cP h P m 4 i = 0)) m), h) := by
  unfold p_X4_countWhole
  refine fx_m (fun i (a : Int32 × kH) => (a.1, nI i, a.2)) (fun i a => a = (nI (cntN (fun i => decide (cP h P m 4 i = 0)) i), h)) (fun r => r = some (nI (cntN (fun i => decide (cP h P m 4 i = 0)) m), h)) m (by omega) (a := (nI 0, h)) rfl ?_ ?_
  · rintro i a hi rfl K hK
    have c4 : cP h P m 4 i = h (P + 8) i := cP_at (a := 4) (by omega) hi
    dsimp only
    simp (disch := omega) only [p_X4_countWhole_4, hc, if_neg (nI_ge hi (show m < 2 ^ 31 by omega)), gd_i, nI_clamp, nI_add]
    by_cases q : h (P + 8) i = 0
    · rw [if_pos q]
      exact hK (nI (cntN _ i + 1), h) (by rw [cntN_t (by simp [c4, q])])
    · rw [if_neg q]
      exact hK (nI (cntN _ i), h) (by rw [cntN_n (by simp [c4, q])])
  · rintro a rfl K
    dsimp only
    simp only [p_X4_countWhole_4, hc, if_pos (nI_le (Nat.le_refl m) (show m < 2 ^ 31 by omega))]
/-- a place found, or none -/
def plc : Option Nat → Int32
  | some j => nI j
  | none => -4
theorem q_wholeIn {P m : Nat} {x : Int32} {h : kH} (hc : h P 0 = nI m) (hm : m ≤ 6) : p_X4_wholeIn P x h = some (plc (fsN (fun i => decide (cP h P m 4 i = 0) && decide (cP h P m 0 i = x)) m), h) := by
  unfold p_X4_wholeIn
  refine fx_m (fun i (h : kH) => (x, nI i, h)) (fun i h1 => h1 = h ∧ fsN (fun i => decide (cP h P m 4 i = 0) && decide (cP h P m 0 i = x)) i = none) (fun r => r = some (plc (fsN (fun i => decide (cP h P m 4 i = 0) && decide (cP h P m 0 i = x)) m), h)) m (by omega) ⟨rfl, rfl⟩ ?_ ?_
  · rintro i h1 hi ⟨rfl, hn⟩ K hK
    have c4 : cP h1 P m 4 i = h1 (P + 8) i := cP_at (a := 4) (by omega) hi
    have c0 : cP h1 P m 0 i = h1 (P + 1) i := cP_at (a := 0) (by omega) hi
    simp (disch := omega) only [p_X4_wholeIn_2, hc, if_neg (nI_ge hi (show m < 2 ^ 31 by omega)), gd_i, nI_clamp, nI_add]
    by_cases q : h1 (P + 8) i = 0
    · rw [if_pos q]
      by_cases q2 : h1 (P + 1) i = x
      · rw [if_pos q2, fsN_hit hn (by simp [c4, c0, q, q2]) hi]
        rfl
      · rw [if_neg q2]
        exact hK h1 ⟨rfl, fsN_no hn (by simp [c0, q2])⟩
    · rw [if_neg q]
      exact hK h1 ⟨rfl, fsN_no hn (by simp [c4, q])⟩
  · rintro h1 ⟨rfl, hn⟩ K
    simp only [p_X4_wholeIn_2, hc, if_pos (nI_le (Nat.le_refl m) (show m < 2 ^ 31 by omega)), hn]
    rfl
theorem q_allWater {P m : Nat} {h : kH} (hc : h P 0 = nI m) (hm : m ≤ 6) : p_X4_allWater P h = some (sumN (fun i => cP h P m 2 i) m, h) := by
  unfold p_X4_allWater
  refine fx_m (fun i (a : Int32 × kH) => (a.1, nI i, a.2)) (fun i a => a = (sumN (fun i => cP h P m 2 i) i, h)) (fun r => r = some (sumN (fun i => cP h P m 2 i) m, h)) m (by omega) (a := (nI 0, h)) rfl ?_ ?_
  · rintro i a hi rfl K hK
    have c2 : cP h P m 2 i = h (P + 3) i := cP_at (a := 2) (by omega) hi
    dsimp only
    simp (disch := omega) only [p_X4_allWater_4, hc, if_neg (nI_ge hi (show m < 2 ^ 31 by omega)), gd_i, nI_clamp, nI_add, le_d]
    exact hK (_, h) (by rw [sumN, c2])
  · rintro a rfl K
    dsimp only
    simp only [p_X4_allWater_4, hc, if_pos (nI_le (Nat.le_refl m) (show m < 2 ^ 31 by omega))]
def mdry1 (x : Int32) (i : Nat) (p : kH) : kH := if p 4 i = 0 then mlose i (x * (p 7 i + nI 1) / nI 4) p else p
theorem q_dryFor {P m : Nat} {x : Int32} {h : kH} (hc : h P 0 = nI m) (hm : m ≤ 6) : ∃ h', p_X4_dryFor P x h = some h' ∧ cP h' P m = itr (mdry1 x) m (cP h P m) ∧ ∀ k, k ≠ P + 3 → h' k = h k := by
  show okp (fun h' : kH => cP h' P m = itr (mdry1 x) m (cP h P m) ∧ ∀ k, k ≠ P + 3 → h' k = h k) _
  unfold p_X4_dryFor
  refine fx_m (fun i (h : kH) => (x, nI i, h)) (fun i h1 => cP h1 P m = itr (mdry1 x) i (cP h P m) ∧ ∀ k, k ≠ P + 3 → h1 k = h k) _ m (by omega) ⟨rfl, fun _ _ => rfl⟩ ?_ ?_
  · intro i h1 hi ⟨hv, hf⟩ K hK
    have hcw : h1 P 0 = nI m := by rw [hf P (by omega)]; exact hc
    have c4 : cP h1 P m 4 i = h1 (P + 8) i := cP_at (a := 4) (by omega) hi
    have c7 : cP h1 P m 7 i = h1 (P + 4) i := cP_at (a := 7) (by omega) hi
    simp (disch := omega) only [p_X4_dryFor_2, hcw, if_neg (nI_ge hi (show m < 2 ^ 31 by omega)), gd_i, nI_clamp, nI_add]
    by_cases q : h1 (P + 8) i = 0
    · obtain ⟨h2, e2, v2, f2⟩ := q_loseWater (P := P) (x := x * (h1 (P + 4) i + nI 1) / nI 4) (h := h1) hi hm
      rw [if_pos q, bd_o e2]
      exact hK _ ⟨by rw [v2, itr_s, ← hv, mdry1, if_pos (by rw [c4]; exact q), c7], fun k hk => by rw [f2 k hk, hf k hk]⟩
    · rw [if_neg q]
      exact hK _ ⟨by rw [itr_s, ← hv, mdry1, if_neg (by rw [c4]; exact q)], hf⟩
  · intro h1 ⟨hv, hf⟩ K
    have hcw : h1 P 0 = nI m := by rw [hf P (by omega)]; exact hc
    simp only [p_X4_dryFor_2, hcw, if_pos (nI_le (Nat.le_refl m) (show m < 2 ^ 31 by omega))]
    exact okp_s ⟨hv, hf⟩
/-- two of the first m lie in one cell -/
def twoB (m : Nat) (c : Nat → Int32) : Bool := anyN (fun i => anyN (fun j => decide (i < j) && decide (c i = c j)) m) m
theorem q_anyTwo {P m : Nat} {h : kH} (hc : h P 0 = nI m) (hm : m ≤ 6) : p_X4_anyTwoInOne P h = some (b1 (twoB m (fun i => h (P + 1) i)), h) := by
  unfold p_X4_anyTwoInOne
  refine fx_m (fun i (h : kH) => (nI i, h)) (fun i h1 => h1 = h ∧ anyN (fun i => anyN (fun j => decide (i < j) && decide (h (P + 1) i = h (P + 1) j)) m) i = false) (fun r => r = some (b1 (twoB m (fun i => h (P + 1) i)), h)) m (by omega) ⟨rfl, rfl⟩ ?_ ?_
  · rintro i h1 hi ⟨rfl, hn⟩ K hK
    simp only [p_X4_anyTwoInOne_2, hc, if_neg (nI_ge hi (show m < 2 ^ 31 by omega)), nI_add]
    refine fx_m (mk := fun j (h : kH) => (nI i, nI (i + 1 + j), h)) (fun j h2 => h2 = h1 ∧ anyN (fun j => decide (i < j) && decide (h1 (P + 1) i = h1 (P + 1) j)) (i + 1 + j) = false) (fun r => r = some (b1 (twoB m (fun i => h1 (P + 1) i)), h1)) (m - (i + 1)) (by omega) ⟨rfl, anyN_no (fun j hj => by simp; omega)⟩ ?_ ?_
    · rintro j h2 hj ⟨rfl, hn2⟩ K2 hK2
      simp (disch := omega) only [p_X4_anyTwoInOne_14, hc, if_neg (nI_ge (show i + 1 + j < m by omega) (show m < 2 ^ 31 by omega)), gd_i, nI_clamp, nI_add]
      by_cases q : h2 (P + 1) i = h2 (P + 1) (i + 1 + j)
      · rw [if_pos q]
        have in1 : anyN (fun j => decide (i < j) && decide (h2 (P + 1) i = h2 (P + 1) j)) m = true := anyN_of (j := i + 1 + j) (by simp [q]; omega) (by omega)
        have : twoB m (fun i => h2 (P + 1) i) = true := anyN_of (f := fun i => anyN (fun j => decide (i < j) && decide (h2 (P + 1) i = h2 (P + 1) j)) m) (j := i) in1 hi
        rw [this]
        rfl
      · rw [if_neg q]
        exact hK2 h2 ⟨rfl, by rw [show i + 1 + (j + 1) = (i + 1 + j) + 1 by omega, anyN, hn2]; simp [q]⟩
    · rintro h2 ⟨rfl, hn2⟩ K2
      rw [show i + 1 + (m - (i + 1)) = m by omega] at hn2 ⊢
      simp only [p_X4_anyTwoInOne_14, hc, if_pos (nI_le (Nat.le_refl m) (show m < 2 ^ 31 by omega)), nI_add]
      exact hK h2 ⟨rfl, by rw [anyN, hn, hn2]; rfl⟩
  · rintro h1 ⟨rfl, hn⟩ K
    simp only [p_X4_anyTwoInOne_2, hc, if_pos (nI_le (Nat.le_refl m) (show m < 2 ^ 31 by omega)), twoB, hn]
    rfl
/-- copies of pots and of heaps -/
theorem q_potsCopy {P P2 : Nat} {h : kH} (hP : P + 10 < P2 ∨ P2 + 10 < P) : ∃ h', p_X4_copyFrom P P2 h = some h' ∧ h' P 0 = h P2 0 ∧ (∀ a i, 1 ≤ a → a ≤ 10 → i < 6 → h' (P + a) i = if a = 10 then vp_nar .boolean (h (P2 + a) i) else h (P2 + a) i) ∧ ∀ k, (k < P ∨ P + 10 < k) → h' k = h k := by
  show okp (fun h' : kH => h' P 0 = h P2 0 ∧ (∀ a i, 1 ≤ a → a ≤ 10 → i < 6 → h' (P + a) i = if a = 10 then vp_nar .boolean (h (P2 + a) i) else h (P2 + a) i) ∧ ∀ k, (k < P ∨ P + 10 < k) → h' k = h k) _
  unfold p_X4_copyFrom
  rw [le_d]
  refine fx_m (fun i (h : kH) => (nI i, h)) (fun i h1 => h1 P 0 = h P2 0 ∧ (∀ a j, 1 ≤ a → a ≤ 10 → j < i → h1 (P + a) j = if a = 10 then vp_nar .boolean (h (P2 + a) j) else h (P2 + a) j) ∧ ∀ k, (k < P ∨ P + 10 < k) → h1 k = h k) _ 6 (by omega) ⟨hs_s _ _ _ _, fun a j _ _ hj => absurd hj (by omega), fun k hk => hs_k (by omega)⟩ ?_ ?_
  · intro i h1 hi ⟨h0, hv, hf⟩ K hK
    simp (disch := omega) only [p_X4_copyFrom_10, if_neg (nI_ge hi (by omega)), gd_i, le_d, nI_clamp, nI_add, hs_k, hf]
    refine hK _ ⟨?_, fun a j h1a ha hj => ?_, fun k hk => ?_⟩
    · simp (disch := omega) only [hs_k]
      exact h0
    · by_cases e : j = i
      · subst e
        rcases (show a = 1 ∨ a = 2 ∨ a = 3 ∨ a = 4 ∨ a = 5 ∨ a = 6 ∨ a = 7 ∨ a = 8 ∨ a = 9 ∨ a = 10 by omega) with rfl | rfl | rfl | rfl | rfl | rfl | rfl | rfl | rfl | rfl <;> simp (disch := omega) [hs_k, hs_s]
      · simp (disch := omega) only [hs_i]
        exact hv a j h1a ha (by omega)
    · simp (disch := omega) only [hs_k]
      exact hf k hk
  · intro h1 hI K
    simp only [p_X4_copyFrom_10, if_pos (nI_le (Nat.le_refl 6) (by omega))]
    exact okp_s hI
