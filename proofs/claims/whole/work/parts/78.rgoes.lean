/-! the reference: strikes, colours, a whole minute -/
theorem cmp_lt {a b : Int64} : lg_cmp a b < 0 ↔ a < b := by
  unfold lg_cmp
  by_cases q : a > b
  · rw [if_pos q]
    exact ⟨fun z => absurd z (by decide), fun z => absurd z (Int64.not_lt.mpr (Int64.le_of_lt q))⟩
  · rw [if_neg q]
    by_cases q2 : a = b
    · rw [if_pos q2]
      exact ⟨fun z => absurd z (by decide), fun z => absurd z (by rw [q2]; exact Int64.lt_irrefl)⟩
    · rw [if_neg q2]
      refine ⟨fun _ => ?_, fun _ => by decide⟩
      rcases Int64.lt_or_eq_of_le (Int64.not_lt.mp q) with z | z
      · exact z
      · exact absurd z q2
theorem cmp_gt {a b : Int64} : 0 < lg_cmp a b ↔ b < a := by
  unfold lg_cmp
  by_cases q : a > b
  · rw [if_pos q]
    exact ⟨fun _ => q, fun _ => by decide⟩
  · rw [if_neg q]
    by_cases q2 : a = b
    · rw [if_pos q2]
      exact ⟨fun z => absurd z (by decide), fun z => absurd z q⟩
    · rw [if_neg q2]
      exact ⟨fun z => absurd z (by decide), fun z => absurd z q⟩
theorem rq_in {x : Int32} {a b : Int64} {lo hi : Int} {h : kH} (ha : a.toInt = lo) (hb : b.toInt = hi) : p_X8_in x.toInt64 a b h = some (b1 (decide (lo ≤ x.toInt) && decide (x.toInt ≤ hi)), h) := by
  have e : x.toInt64.toInt = x.toInt := Int32.toInt_toInt64 x
  unfold p_X8_in
  by_cases q1 : lg_cmp x.toInt64 a < 0
  · rw [if_pos q1]
    have := Int64.lt_iff_toInt_lt.mp (cmp_lt.mp q1)
    rw [e, ha] at this
    have z : decide (lo ≤ x.toInt) = false := decide_eq_false (by omega)
    rw [z]; rfl
  · rw [if_neg q1]
    have h1 : lo ≤ x.toInt := by
      have := Int64.le_iff_toInt_le.mp (Int64.not_lt.mp (fun z => q1 (cmp_lt.mpr z)))
      rw [e, ha] at this
      exact this
    by_cases q2 : 0 < lg_cmp x.toInt64 b
    · rw [if_pos q2]
      have := Int64.lt_iff_toInt_lt.mp (cmp_gt.mp q2)
      rw [e, hb] at this
      have z : decide (x.toInt ≤ hi) = false := decide_eq_false (by omega)
      rw [z, Bool.and_false]; rfl
    · rw [if_neg q2]
      have h2 : x.toInt ≤ hi := by
        have := Int64.le_iff_toInt_le.mp (Int64.not_lt.mp (fun z => q2 (cmp_gt.mpr z)))
        rw [e, hb] at this
        exact this
      rw [decide_eq_true h1, decide_eq_true h2]; rfl
theorem in11 {v : Int32} : (decide ((-1 : Int) ≤ v.toInt) && decide (v.toInt ≤ 1)) = (!decide (v < -1) && !decide (nI 1 < v)) := by
  have e1 : (v < -1) ↔ v.toInt < -1 := by rw [toInt_lt, show ((-1 : Int32)).toInt = -1 by decide]
  have e2 : (nI 1 < v) ↔ 1 < v.toInt := by rw [toInt_lt, nI_toInt (by omega)]; rfl
  by_cases q1 : v.toInt < -1
  · rw [decide_eq_false (show ¬ (-1 : Int) ≤ v.toInt by omega), decide_eq_true (e1.mpr q1)]; rfl
  · rw [decide_eq_true (show (-1 : Int) ≤ v.toInt by omega), decide_eq_false (fun z => q1 (e1.mp z))]
    by_cases q2 : 1 < v.toInt
    · rw [decide_eq_false (show ¬ v.toInt ≤ 1 by omega), decide_eq_true (e2.mpr q2)]; rfl
    · rw [decide_eq_true (show v.toInt ≤ 1 by omega), decide_eq_false (fun z => q2 (e2.mp z))]; rfl
theorem rq_isNear {w : Nat} {a b : Int32} {h : kH} (hw : h 137 0 = nI w) (hw1 : 1 ≤ w) (hw2 : w ≤ 30) : p_X8_isNear a b h = some (b1 (nearB (nI w) a b), h) := by
  have g : decide (¬ nI w = 0) = true := decide_eq_true (nI_ne0 (by omega) (by omega))
  simp (disch := omega) only [p_X8_isNear, gd_i, nI_clamp, hw, gd_t g, le_d, rq_in (lo := -1) (hi := 1) (a := -1) (b := 1) (by decide) (by decide), bd2_s, in11, nearB]
  cases q1 : (!decide (krem a (nI w) - krem b (nI w) < -1) && !decide (nI 1 < krem a (nI w) - krem b (nI w)))
  · rw [b1_f, if_pos nI_00]; rfl
  · rw [b1_t, if_neg nI_10]
    cases q2 : (!decide (a / nI w - b / nI w < -1) && !decide (nI 1 < a / nI w - b / nI w))
    · rw [b1_f, if_pos nI_00]; rfl
    · rw [b1_t, if_neg nI_10]; rfl
set_option maxHeartbeats 1000000 in
theorem rq_strikes {s w m : Nat} {h : kH} {B : Nat → Bool} (hw : h 137 0 = nI w) (hw1 : 1 ≤ w) (hw2 : w ≤ 30) (hc : h 138 0 = nI m) (hm : m ≤ 6) (hs3 : s ≤ 3) (hB : ∀ j, j < m → h 147 j = b1 (B j)) : ∃ h', p_X8_strikes (nI s) h = some h' ∧ rP h' s m = itr (mstr1 (rR h) (nI w) m B) m (rP h s m) ∧ (∀ j, (j < 200 * s + 150 ∨ 200 * s + 198 ≤ j) → h' 143 j = h 143 j) ∧ ∀ k, k ≠ 143 → h' k = h k := by
  show okp (fun h' : kH => rP h' s m = itr (mstr1 (rR h) (nI w) m B) m (rP h s m) ∧ (∀ j, (j < 200 * s + 150 ∨ 200 * s + 198 ≤ j) → h' 143 j = h 143 j) ∧ ∀ k, k ≠ 143 → h' k = h k) _
  unfold p_X8_strikes
  refine fx_m (fun i (h : kH) => (nI s, nI i, h)) (fun i h1 => rP h1 s m = itr (mstr1 (rR h) (nI w) m B) i (rP h s m) ∧ (∀ j, (j < 200 * s + 150 ∨ 200 * s + 198 ≤ j) → h1 143 j = h 143 j) ∧ ∀ k, k ≠ 143 → h1 k = h k) _ m (by omega) ⟨rfl, fun _ _ => rfl, fun _ _ => rfl⟩ ?_ ?_
  · intro i h1 hi ⟨hv, hj, hk⟩ K hK
    obtain ⟨Bs, hBs⟩ : ∃ Bs, Bs = 200 * s + 150 + 8 * i := ⟨_, rfl⟩
    have e38 : h1 138 = h 138 := hk _ (by omega)
    have e37 : h1 137 = h 137 := hk _ (by omega)
    have v3 : h1 143 (Bs + 3) = rP h1 s m 3 i := by rw [rP_at (a := 3) (by omega) hi, hBs]
    have v4 : h1 143 (Bs + 4) = rP h1 s m 4 i := by rw [rP_at (a := 4) (by omega) hi, hBs]
    have v0 : ∀ j, j < m → h1 143 (200 * s + 150 + 8 * j + 0) = rP h1 s m 0 j := fun j hjj => by rw [rP_at (a := 0) (by omega) hjj]
    have r4 : rR h 4 = h 137 4 := rfl
    simp (disch := omega) only [p_X8_strikes_2, gd_i, nI_clamp, e38, hc, if_neg (nI_ge hi (show m < 2 ^ 31 by omega)), rq_potAt, bd2_s, ← hBs]
    refine fx_m (mk := fun k (a : kH) => (nI s, nI i, nI Bs, b1 (anyN (fun j => B j && nearB (nI w) (rP h1 s m 0 i) (rP h1 s m 0 j)) k), nI k, a)) (fun k a => a = h1) _ m (by omega) rfl ?_ ?_
    · rintro k a hkm rfl K2 hK2
      have stp : ∀ b : Bool, (b = anyN (fun j => B j && nearB (nI w) (rP a s m 0 i) (rP a s m 0 j)) (k + 1)) → okp (fun h' : kH => rP h' s m = itr (mstr1 (rR h) (nI w) m B) m (rP h s m) ∧ (∀ j, (j < 200 * s + 150 ∨ 200 * s + 198 ≤ j) → h' 143 j = h 143 j) ∧ ∀ k, k ≠ 143 → h' k = h k) (K2 (nI s, nI i, nI Bs, b1 b, nI (k + 1), a)) := by
        intro b hb
        rw [hb]
        exact hK2 a rfl
      have a47 : a 147 k = b1 (B k) := by rw [hk _ (by omega)]; exact hB k hkm
      have v0i := v0 i hi
      rw [← hBs] at v0i
      simp (disch := omega) only [p_X8_strikes_24, p_X8_strikes_82, p_X8_strikes_78, p_X8_strikes_83, gd_i, nI_clamp, e38, hc, if_neg (nI_ge hkm (show m < 2 ^ 31 by omega)), a47, nI_add, rq_potAt, bd2_s, v0 k hkm, v0i, rq_isNear (h := a) (by rw [e37]; exact hw) hw1 hw2]
      cases qa : anyN (fun j => B j && nearB (nI w) (rP a s m 0 i) (rP a s m 0 j)) k
      · rw [b1_f, if_pos nI_00]
        cases qb : B k
        · rw [b1_f, if_pos nI_00]
          exact stp false (by rw [anyN, qa, qb]; rfl)
        · rw [b1_t, if_neg nI_10]
          cases qn : nearB (nI w) (rP a s m 0 i) (rP a s m 0 k)
          · rw [b1_f, if_pos nI_00]
            exact stp false (by rw [anyN, qa, qb, qn]; rfl)
          · rw [b1_t, if_neg nI_10]
            exact stp true (by rw [anyN, qa, qb, qn]; rfl)
      · rw [b1_t, if_neg nI_10]
        exact stp true (by rw [anyN, qa]; rfl)
    · rintro a rfl K2
      have no : (¬ (rP a s m 4 i = 0 ∧ rP a s m 3 i < rR h 4 ∧ anyN (fun j => B j && nearB (nI w) (rP a s m 0 i) (rP a s m 0 j)) m = true)) → okp (fun h' : kH => rP h' s m = itr (mstr1 (rR h) (nI w) m B) m (rP h s m) ∧ (∀ j, (j < 200 * s + 150 ∨ 200 * s + 198 ≤ j) → h' 143 j = h 143 j) ∧ ∀ k, k ≠ 143 → h' k = h k) (p_X8_strikes_135 K (nI s) (nI i) (nI Bs) (nI Bs + nI 4) a) := by
        intro q
        simp (disch := omega) only [p_X8_strikes_135, p_X8_strikes_143, nI_add, gd_i, nI_clamp, le_d, hs_same]
        exact hK _ ⟨by rw [itr_s, ← hv, mstr1, if_neg q], hj, hk⟩
      simp (disch := omega) only [p_X8_strikes_24, gd_i, nI_clamp, e38, hc, if_pos (nI_le (Nat.le_refl m) (show m < 2 ^ 31 by omega)), e37]
      cases qa : anyN (fun j => B j && nearB (nI w) (rP a s m 0 i) (rP a s m 0 j)) m
      · rw [b1_f, if_pos nI_00]
        exact no (fun q => by rw [qa] at q; cases q.2.2)
      · rw [b1_t, if_neg nI_10]
        rw [nI_add, gd_i (by omega) (by omega), nI_clamp (by omega), v4]
        rw [nI_add] at no
        by_cases q4 : rP a s m 4 i = 0
        · rw [if_pos q4, nI_add, gd_i (by omega) (by omega), nI_clamp (by omega), v3]
          by_cases q3 : h 137 4 ≤ rP a s m 3 i
          · rw [if_pos q3]
            exact no (fun q => absurd q.2.1 (by rw [r4]; exact Int32.not_lt.mpr q3))
          · rw [if_neg q3]
            simp (disch := omega) only [p_X8_strikes_143, gd_i, nI_clamp, le_d, nI_add]
            refine hK _ ⟨?_, fun j jj => by rw [hs_i (by omega)]; exact hj j jj, fun k k1 => by rw [hs_k k1]; exact hk k k1⟩
            rw [rP_hs 4 (by omega) hi (by omega), itr_s, ← hv, mstr1, if_pos ⟨q4, by rw [r4]; exact Int32.not_le.mp q3, qa⟩]
        · rw [if_neg q4]
          exact no (fun q => q4 q.1)
  · intro h1 ⟨hv, hj, hk⟩ K
    simp (disch := omega) only [p_X8_strikes_2, gd_i, nI_clamp, hk 138 (by omega), hc, if_pos (nI_le (Nat.le_refl m) (show m < 2 ^ 31 by omega))]
    exact okp_s ⟨hv, hj, hk⟩
theorem rq_colours {s n m i c : Nat} {h : kH} (hi : i < m) (hm : m ≤ 6) (hs3 : s ≤ 3) (hn30 : n ≤ 30) (hc : c < n) (h0 : rP h s m 0 i = nI c) (h6 : bt (rP h s m 6 i) 0 1) (hf4 : bt (rF h s n 4 c) 0 1) : ∃ h', p_X8_colours (nI s) (nI i) h = some h' ∧ rP h' s m = mcolr (nI (blk (rF h s n) c)) i (rP h s m) ∧ (∀ j, (j < 200 * s + 150 ∨ 200 * s + 198 ≤ j) → h' 143 j = h 143 j) ∧ ∀ k, k ≠ 143 → h' k = h k := by
  obtain ⟨hot, -, o2, o3⟩ := h6
  obtain ⟨cov, -, c2, c3⟩ := hf4
  show okp (fun h' : kH => rP h' s m = mcolr (nI (blk (rF h s n) c)) i (rP h s m) ∧ (∀ j, (j < 200 * s + 150 ∨ 200 * s + 198 ≤ j) → h' 143 j = h 143 j) ∧ ∀ k, k ≠ 143 → h' k = h k) _
  obtain ⟨B, hB⟩ : ∃ B, B = 200 * s + 150 + 8 * i := ⟨_, rfl⟩
  have v0 : h 143 (B + 0) = nI c := by rw [← h0, rP_at (a := 0) (by omega) hi, hB]
  have v1 : h 143 (B + 1) = rP h s m 1 i := by rw [rP_at (a := 1) (by omega) hi, hB]
  have v5 : h 143 (B + 5) = rP h s m 5 i := by rw [rP_at (a := 5) (by omega) hi, hB]
  have v6 : h 143 (B + 6) = nI hot := by rw [← o3, rP_at (a := 6) (by omega) hi, hB]
  have f4 : h 143 (200 * s + c + 120) = nI cov := by rw [← c3, rF_at (a := 4) (by omega) hc, show 200 * s + 30 * 4 + c = 200 * s + c + 120 by omega]
  have f1 : h 143 (200 * s + c + 30) = rF h s n 1 c := by rw [rF_at (a := 1) (by omega) hc, show 200 * s + 30 * 1 + c = 200 * s + c + 30 by omega]
  simp (disch := omega) only [p_X8_colours, p_X8_colours_107, p_X8_colours_112, rq_potAt, bd2_s, ← hB, nI_add, pk_mul, gd_i, nI_clamp, le_d, v0, v1, v5, v6, f4, f1, mcolr, o3]
  have put : ∀ k, k ≤ 2 → nI k = (if nI (blk (rF h s n) c) = 0 then nI 1 else nI 2) → okp (fun h' : kH => rP h' s m = hs (rP h s m) 5 i (if nI (blk (rF h s n) c) = 0 then nI 1 else nI 2) ∧ (∀ j, (j < 200 * s + 150 ∨ 200 * s + 198 ≤ j) → h' 143 j = h 143 j) ∧ ∀ k, k ≠ 143 → h' k = h k) (some (hs h 143 (B + 5) (nI k))) := by
    intro k hk e
    exact okp_s ⟨by rw [rP_hs 5 (by omega) hi (by omega), e], fun j jj => hs_i (by omega), fun k k1 => hs_k k1⟩
  by_cases q1 : rP h s m 1 i < nI 500
  · simp only [if_pos q1]
    by_cases q6 : hot = 0
    · subst q6
      simp only [if_neg (show ¬ nI 0 = nI 1 by decide), if_pos nI_00]
      exact okp_s ⟨rfl, fun _ _ => rfl, fun _ _ => rfl⟩
    · have : hot = 1 := by omega
      subst this
      simp only [if_pos (show nI 1 = nI 1 from rfl), if_neg nI_10]
      by_cases q5 : rP h s m 5 i = 0
      · simp only [if_pos q5]
        by_cases qc : cov = 0
        · subst qc
          rw [if_neg (show ¬ nI 0 = nI 1 by decide)]
          by_cases q2 : rF h s n 1 c ≤ 0
          · rw [if_pos q2]
            exact put 1 (by omega) (by rw [show blk (rF h s n) c = 0 from if_pos ⟨by rw [c3]; exact nI_00, q2⟩, if_pos nI_00])
          · rw [if_neg q2]
            exact put 2 (by omega) (by rw [show blk (rF h s n) c = 1 from if_neg (fun q => q2 q.2), if_neg nI_10])
        · have : cov = 1 := by omega
          subst this
          rw [if_pos rfl]
          exact put 2 (by omega) (by rw [show blk (rF h s n) c = 1 from if_neg (fun q => nI_10 (by rw [← c3]; exact q.1)), if_neg nI_10])
      · simp only [if_neg q5]
        exact okp_s ⟨rfl, fun _ _ => rfl, fun _ _ => rfl⟩
  · simp only [if_neg q1]
    exact okp_s ⟨by rw [rP_hs 6 (by omega) hi (by omega)], fun j jj => hs_i (by omega), fun k k1 => hs_k k1⟩
