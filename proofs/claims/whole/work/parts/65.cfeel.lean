/-! a minute of the pots -/
def nearB (w a b : Int32) : Bool := (!decide (krem a w - krem b w < -1) && !decide (nI 1 < krem a w - krem b w)) && (!decide (a / w - b / w < -1) && !decide (nI 1 < a / w - b / w))
def anyN (f : Nat → Bool) : Nat → Bool
  | 0 => false
  | n + 1 => anyN f n || f n
theorem anyN_of {f : Nat → Bool} {j : Nat} (hf : f j = true) : ∀ {n : Nat}, j < n → anyN f n = true
  | 0, h => absurd h (by omega)
  | n + 1, h => by
    by_cases e : j = n
    · subst e; simp [anyN, hf]
    · simp [anyN, anyN_of hf (show j < n by omega)]
theorem anyN_congr {f g : Nat → Bool} : ∀ {n : Nat}, (∀ j, j < n → f j = g j) → anyN f n = anyN g n
  | 0, _ => rfl
  | n + 1, h => by rw [anyN, anyN, anyN_congr (fun j hj => h j (by omega)), h n (by omega)]
theorem anyN_f {f : Nat → Bool} {n : Nat} (h : anyN f n = false) {j : Nat} (hj : j < n) : f j = false := by
  cases q : f j
  · rfl
  · rw [anyN_of q hj] at h; cases h
theorem anyN_no {f : Nat → Bool} : ∀ {n : Nat}, (∀ j, j < n → f j = false) → anyN f n = false
  | 0, _ => rfl
  | n + 1, h => by rw [anyN, anyN_no (fun j hj => h j (by omega)), h n (by omega)]; rfl
/-- 1 or 0 -/
def b1 (b : Bool) : Int32 := if b = true then nI 1 else nI 0
theorem b1_t : b1 true = nI 1 := rfl
theorem b1_f : b1 false = nI 0 := rfl
theorem b1_0 {b : Bool} : b1 b = 0 ↔ b = false := by
  cases b
  · simp [b1, nI_00]
  · simp [b1, nI_10]
theorem q_areBeside {R w : Nat} {a b : Int32} {h : kH} (hw : h R 0 = nI w) (hw1 : 1 ≤ w) (hw2 : w ≤ 30) : p_X5_areBeside R a b h = some (b1 (nearB (nI w) a b), h) := by
  have g : decide (¬ nI w = 0) = true := decide_eq_true (nI_ne0 (by omega) (by omega))
  simp only [p_X5_areBeside, hw, gd_t g, le_d, if_pos (nI_le hw1 (show w < 2 ^ 31 by omega)), nearB]
  by_cases q1 : krem a (nI w) - krem b (nI w) < -1
  · simp [q1, b1]
  · by_cases q2 : nI 1 < krem a (nI w) - krem b (nI w)
    · simp [q1, q2, b1]
    · by_cases q3 : a / nI w - b / nI w < -1
      · simp [q1, q2, q3, b1]
      · by_cases q4 : nI 1 < a / nI w - b / nI w
        · simp [q1, q2, q3, q4, b1]
        · simp [q1, q2, q3, q4, b1]
theorem q_isBesideBurst {P R w m i : Nat} {h : kH} (hc : h P 0 = nI m) (hi : i < m) (hm : m ≤ 6) (hw : h R 0 = nI w) (hw1 : 1 ≤ w) (hw2 : w ≤ 30) : p_X4_isBesideBurst P R (nI i) h = some (b1 (anyN (fun j => !decide (h (P + 11) j = 0) && nearB (nI w) (h (P + 1) i) (h (P + 1) j)) m), h) := by
  unfold p_X4_isBesideBurst
  refine fx_m (fun j (h : kH) => (nI i, nI j, h)) (fun j h1 => h1 = h ∧ anyN (fun j => !decide (h (P + 11) j = 0) && nearB (nI w) (h (P + 1) i) (h (P + 1) j)) j = false) (fun r => r = some (b1 (anyN (fun j => !decide (h (P + 11) j = 0) && nearB (nI w) (h (P + 1) i) (h (P + 1) j)) m), h)) m (by omega) ⟨rfl, rfl⟩ ?_ ?_
  · rintro j h1 hj ⟨rfl, hn⟩ K hK
    simp (disch := omega) only [p_X4_isBesideBurst_2, hc, if_neg (nI_ge hj (by omega)), gd_i, nI_clamp, q_areBeside hw hw1 hw2, bd2_s, nI_add]
    by_cases q1 : h1 (P + 11) j = 0
    · rw [if_pos q1]
      exact hK _ ⟨rfl, by rw [anyN, hn]; simp [q1]⟩
    · rw [if_neg q1]
      cases q2 : nearB (nI w) (h1 (P + 1) i) (h1 (P + 1) j)
      · rw [b1_f, if_pos nI_00]
        exact hK _ ⟨rfl, by rw [anyN, hn]; simp [q2]⟩
      · rw [b1_t, if_neg nI_10, anyN_of (j := j) (by simp [q1, q2]) hj, b1_t]
  · rintro h1 ⟨rfl, hn⟩ K
    simp only [p_X4_isBesideBurst_2, hc, if_pos (nI_le (Nat.le_refl m) (by omega)), hn, b1_f]
def mstr1 (ru : Nat → Int32) (w : Int32) (m : Nat) (B : Nat → Bool) (i : Nat) (p : kH) : kH :=
  if p 4 i = 0 ∧ p 3 i < ru 4 ∧ anyN (fun j => B j && nearB w (p 0 i) (p 0 j)) m = true then hs p 4 i (nI 2) else p
theorem q_strike {P R w m : Nat} {h : kH} {B : Nat → Bool} (hc : h P 0 = nI m) (hm : m ≤ 6) (hw : h R 0 = nI w) (hw1 : 1 ≤ w) (hw2 : w ≤ 30) (hR : R + 10 < P) (hB : ∀ j, j < m → h (P + 11) j = b1 (B j)) : ∃ h', p_X4_strike P R h = some h' ∧ cP h' P m = itr (mstr1 (cR h R) (nI w) m B) m (cP h P m) ∧ ∀ k, k ≠ P + 8 → h' k = h k := by
  show okp (fun h' : kH => cP h' P m = itr (mstr1 (cR h R) (nI w) m B) m (cP h P m) ∧ ∀ k, k ≠ P + 8 → h' k = h k) _
  unfold p_X4_strike
  refine fx_m (fun j (h : kH) => (nI j, h)) (fun i h1 => cP h1 P m = itr (mstr1 (cR h R) (nI w) m B) i (cP h P m) ∧ ∀ k, k ≠ P + 8 → h1 k = h k) _ m (by omega) ⟨rfl, fun _ _ => rfl⟩ ?_ ?_
  · intro i h1 hi ⟨hv, hf⟩ K hK
    have c0 : ∀ j, j < m → cP h1 P m 0 j = h1 (P + 1) j := fun j hj => cP_at (a := 0) (by omega) hj
    have c3 : cP h1 P m 3 i = h1 (P + 7) i := cP_at (a := 3) (by omega) hi
    have c4 : cP h1 P m 4 i = h1 (P + 8) i := cP_at (a := 4) (by omega) hi
    have eR : h1 R = h R := hf R (by omega)
    have r4 : cR h R 4 = h R 6 := rfl
    have ea : anyN (fun j => !decide (h1 (P + 11) j = 0) && nearB (nI w) (h1 (P + 1) i) (h1 (P + 1) j)) m = anyN (fun j => B j && nearB (nI w) (cP h1 P m 0 i) (cP h1 P m 0 j)) m := by
      refine anyN_congr fun j hj => ?_
      rw [c0 i hi, c0 j hj, hf (P + 11) (by omega), hB j hj]
      cases B j
      · simp [b1, nI_00]
      · simp [b1, nI_10]
    have no : (¬ (cP h1 P m 4 i = 0 ∧ cP h1 P m 3 i < cR h R 4 ∧ anyN (fun j => B j && nearB (nI w) (cP h1 P m 0 i) (cP h1 P m 0 j)) m = true)) → okp (fun h' : kH => cP h' P m = itr (mstr1 (cR h R) (nI w) m B) m (cP h P m) ∧ ∀ k, k ≠ P + 8 → h' k = h k) (K (nI (i + 1), h1)) := by
      intro q
      refine hK _ ⟨?_, hf⟩
      rw [itr_s, ← hv, mstr1, if_neg q]
    have hcw : h1 P 0 = nI m := by rw [hf P (by omega)]; exact hc
    simp (disch := omega) only [p_X4_strike_2, p_X4_strike_36, hcw, eR, if_neg (nI_ge hi (by omega)), gd_i, nI_clamp]
    by_cases q4 : h1 (P + 8) i = 0
    · rw [if_pos q4]
      by_cases q3 : h R 6 ≤ h1 (P + 7) i
      · rw [if_pos q3, p_X4_strike_37, if_pos nI_00, nI_add]
        exact no (fun q => absurd q.2.1 (by rw [c3, r4]; exact Int32.not_lt.mpr q3))
      · rw [if_neg q3, p_X4_strike_37, if_neg nI_10, q_isBesideBurst hcw hi hm (by rw [eR]; exact hw) hw1 hw2, bd2_s, ea]
        cases qa : anyN (fun j => B j && nearB (nI w) (cP h1 P m 0 i) (cP h1 P m 0 j)) m
        · rw [b1_f, if_pos nI_00, nI_add]
          exact no (fun q => by rw [qa] at q; cases q.2.2)
        · rw [b1_t, if_neg nI_10, gd_i (by omega) (by omega), le_d, nI_clamp (by omega), nI_add]
          refine hK _ ⟨?_, fun k hk => by rw [hs_k hk]; exact hf k hk⟩
          show cP (hs h1 (P + pa 4) i _) P m = _
          rw [cP_hs 4 (by omega) hi, itr_s, ← hv, mstr1, if_pos ⟨by rw [c4]; exact q4, by rw [c3, r4]; exact Int32.not_le.mp q3, qa⟩]
    · rw [if_neg q4, p_X4_strike_37, if_pos nI_00, nI_add]
      exact no (fun q => q4 (by rw [← c4]; exact q.1))
  · intro h1 ⟨hv, hf⟩ K
    have hcw : h1 P 0 = nI m := by rw [hf P (by omega)]; exact hc
    simp only [p_X4_strike_2, hcw, if_pos (nI_le (Nat.le_refl m) (by omega))]
    exact okp_s ⟨hv, hf⟩
def mcolr (b : Int32) (i : Nat) (p : kH) : kH :=
  if p 1 i < nI 500 then (if p 6 i = 0 then p else if p 5 i = 0 then hs p 5 i (if b = 0 then nI 1 else nI 2) else p) else hs p 6 i (nI 1)
theorem q_takeColour {P m i : Nat} {b : Int32} {h : kH} (hi : i < m) (hm : m ≤ 6) : ∃ h', p_X4_takeColour P (nI i) b h = some h' ∧ cP h' P m = mcolr b i (cP h P m) ∧ ∀ k, k ≠ P + 9 → k ≠ P + 10 → h' k = h k := by
  have c1 : cP h P m 1 i = h (P + 6) i := cP_at (a := 1) (by omega) hi
  have c5 : cP h P m 5 i = h (P + 9) i := cP_at (a := 5) (by omega) hi
  have c6 : cP h P m 6 i = h (P + 10) i := cP_at (a := 6) (by omega) hi
  show okp (fun h' : kH => cP h' P m = mcolr b i (cP h P m) ∧ ∀ k, k ≠ P + 9 → k ≠ P + 10 → h' k = h k) _
  simp (disch := omega) only [p_X4_takeColour, p_X4_takeColour_54, gd_i, le_d, nI_clamp, nar_b1, mcolr, c1, c5, c6]
  by_cases q1 : h (P + 6) i < nI 500
  · simp only [if_pos q1]
    by_cases q6 : h (P + 10) i = 0
    · simp only [if_pos q6]
      exact okp_s ⟨rfl, fun _ _ _ => rfl⟩
    · simp only [if_neg q6]
      by_cases q5 : h (P + 9) i = 0
      · simp only [if_pos q5]
        by_cases qb : b = 0
        · simp only [if_pos qb]
          exact okp_s ⟨cP_hs 5 (by omega) hi, fun k k1 _ => hs_k k1⟩
        · simp only [if_neg qb]
          exact okp_s ⟨cP_hs 5 (by omega) hi, fun k k1 _ => hs_k k1⟩
      · simp only [if_neg q5]
        exact okp_s ⟨rfl, fun _ _ _ => rfl⟩
  · simp only [if_neg q1]
    exact okp_s ⟨cP_hs 6 (by omega) hi, fun k _ k2 => hs_k k2⟩
def mfeel1 (ru : Nat → Int32) (ht : Nat → Int32) (i : Nat) (p : kH) : kH := if p 4 i = 0 then mwarm1 ru (ht (p 0 i).toNatClampNeg) i p else p
def mcol1 (bl : Nat → Int32) (i : Nat) (p : kH) : kH := if p 4 i = 0 then mcolr (bl (p 0 i).toNatClampNeg) i p else p
/-- who bursts in this minute -/
def bstB (ru : Nat → Int32) (ht : Nat → Int32) (p : kH) (j : Nat) : Bool := decide (itr (mfeel1 ru ht) j p 4 j = 0) && decide (itr (mfeel1 ru ht) (j + 1) p 4 j = nI 1)
def mpots (ru : Nat → Int32) (w : Int32) (m : Nat) (ht bl : Nat → Int32) (p : kH) : kH := itr (mcol1 bl) m (itr (mstr1 ru w m (bstB ru ht p)) m (itr (mfeel1 ru ht) m p))
theorem mstr_no {ru : Nat → Int32} {w : Int32} {m : Nat} {B : Nat → Bool} (hB : ∀ j, j < m → B j = false) (p : kH) : ∀ n, itr (mstr1 ru w m B) n p = p
  | 0 => rfl
  | n + 1 => by
    rw [itr_s, mstr_no hB p n, mstr1, if_neg]
    rintro ⟨-, -, q⟩
    rw [anyN_no (fun j hj => by rw [hB j hj]; rfl)] at q
    cases q
theorem b1_and (b : Bool) : decide (b1 b &&& 1 = b1 b) = true := by cases b <;> decide
