/-! the reference: a minute of the pots -/
theorem rq_potAt {s i : Nat} {h : kH} : p_X8_potAt (nI s) (nI i) h = some (nI (200 * s + 150 + 8 * i), h) := by
  simp only [p_X8_potAt, pk_mul, nI_add]
theorem rq_isWhole {s m i : Nat} {h : kH} (hi : i < m) (hm : m ≤ 6) (hs3 : s ≤ 3) : p_X8_isWhole (nI s) (nI i) h = some (b1 (decide (rP h s m 4 i = 0)), h) := by
  simp (disch := omega) only [p_X8_isWhole, rq_potAt, bd2_s, nI_add, gd_i, nI_clamp, rP_at (show 4 < 8 by omega) hi]
  by_cases q : h 143 (200 * s + 150 + 8 * i + 4) = 0
  · rw [if_pos q]; simp [q, b1]
  · rw [if_neg q]; simp [q, b1]
theorem lt1 {x : Int32} : x < nI 1 ↔ x ≤ 0 := by
  rw [toInt_lt, toInt_le, nI_toInt (by omega)]
  have : (0 : Int32).toInt = 0 := by decide
  omega
theorem mn_eq {g w : Int32} : (if g ≤ w then g else w) = (if g < w then g else w) := by
  by_cases q : g < w
  · rw [if_pos q, if_pos (Int32.le_of_lt q)]
  · rw [if_neg q]
    by_cases q2 : g ≤ w
    · rw [if_pos q2]; exact Int32.le_antisymm q2 (Int32.not_lt.mp q)
    · rw [if_neg q2]
theorem hs_row {h : kH} {k i : Nat} {x : Int32} : hs h k i x k = upd (h k) i x := sr_s h k _
theorem rq_steam {s m i B gr : Nat} {h : kH} (hB : B = 200 * s + 150 + 8 * i) (hi : i < m) (hm : m ≤ 6) (hs3 : s ≤ 3) (hw : bt (rP h s m 2 i) 0 99) (hg : rP h s m 7 i = nI gr) : ∃ h', p_X8_fires_210 (nI B) (rP h s m 1 i) (nI (gr + 1)) h = some h' ∧ rP h' s m = msteam (rR h) i (rP h s m) ∧ (∀ j, (j < 200 * s + 150 ∨ 200 * s + 198 ≤ j) → h' 143 j = h 143 j) ∧ ∀ k, k ≠ 143 → h' k = h k := by
  obtain ⟨q, q1, q2, q3⟩ := hw
  show okp (fun h' : kH => rP h' s m = msteam (rR h) i (rP h s m) ∧ (∀ j, (j < 200 * s + 150 ∨ 200 * s + 198 ≤ j) → h' 143 j = h 143 j) ∧ ∀ k, k ≠ 143 → h' k = h k) _
  have w2 : h 143 (B + 2) = nI q := by rw [← q3, rP_at (a := 2) (by omega) hi, hB]
  have w3 : h 143 (B + 3) = rP h s m 3 i := by rw [hB, rP_at (by omega) hi]
  -- with the water that goes
  have fin : ∀ b : Int32, hs (rP h s m) 2 i (nI q - b) = (if rP h s m 1 i ≤ nI 60 then rP h s m else mlose i ((rP h s m 7 i + nI 1) * (rP h s m 1 i - nI 60) / nI 100) (rP h s m)) → okp (fun h' : kH => rP h' s m = msteam (rR h) i (rP h s m) ∧ (∀ j, (j < 200 * s + 150 ∨ 200 * s + 198 ≤ j) → h' 143 j = h 143 j) ∧ ∀ k, k ≠ 143 → h' k = h k) (p_X8_fires_269 (nI B) (rP h s m 1 i) b (nI q) (nI (B + 2)) h) := by
    intro b hb
    simp (disch := omega) only [p_X8_fires_269, p_X8_fires_299, nI_add, gd_i, le_d, nI_clamp, hs_k, hs_i, w3]
    have e3 : rP h s m 3 i = hs (rP h s m) 2 i (nI q - b) 3 i := by rw [hs_k (by omega)]
    have r3 : rR h 3 = h 137 3 := rfl
    by_cases z : rP h s m 1 i < nI 10 * h 137 3
    · rw [if_pos z]
      refine okp_s ⟨?_, fun j jj => by rw [hs_i (by omega), hs_i (by omega)], fun k k1 => by rw [hs_k k1, hs_k k1]⟩
      rw [rP_hs 3 (by omega) hi (by omega), rP_hs 2 (by omega) hi (by omega), msteam, r3, if_pos z, ← hb, nI_00]
      have z0 : rP h s m 3 i + 0 = hs (rP h s m) 2 i (nI q - b) 3 i := by rw [← e3]; simp
      rw [z0, hs_same]
    · rw [if_neg z]
      refine okp_s ⟨?_, fun j jj => by rw [hs_i (by omega), hs_i (by omega)], fun k k1 => by rw [hs_k k1, hs_k k1]⟩
      rw [rP_hs 3 (by omega) hi (by omega), rP_hs 2 (by omega) hi (by omega), msteam, r3, if_neg z, ← hb]
  unfold p_X8_fires_210
  by_cases z : rP h s m 1 i ≤ nI 60
  · rw [if_pos z]
    simp (disch := omega) only [p_X8_fires_232, nI_add, gd_i, nI_clamp, w2]
    rw [if_pos (nI_le (by omega) (by omega))]
    refine fin (nI 0) ?_
    have z0 : nI q - nI 0 = rP h s m 2 i := by rw [q3, nI_00]; simp
    rw [if_pos z, z0, hs_same]
  · rw [if_neg z]
    simp (disch := omega) only [p_X8_fires_232, nI_add, gd_i, nI_clamp, w2]
    have key : ∀ b : Int32, b = (if nI (gr + 1) * (rP h s m 1 i - nI 60) / nI 100 < nI q then nI (gr + 1) * (rP h s m 1 i - nI 60) / nI 100 else nI q) → hs (rP h s m) 2 i (nI q - b) = (if rP h s m 1 i ≤ nI 60 then rP h s m else mlose i ((rP h s m 7 i + nI 1) * (rP h s m 1 i - nI 60) / nI 100) (rP h s m)) := by
      intro b hb
      rw [if_neg z, mlose, hg, nI_add, q3, hb]
    by_cases y : nI (gr + 1) * (rP h s m 1 i - nI 60) / nI 100 ≤ nI q
    · rw [if_pos y]
      exact fin _ (key _ (by rw [← mn_eq, if_pos y]))
    · rw [if_neg y]
      exact fin _ (key _ (by rw [← mn_eq, if_neg y]))
theorem fate_4 {ru : Nat → Int32} {d : Int32} {i : Nat} {p : kH} (h4 : p 4 i = 0) (h0 : ¬ (¬ d ≤ 0 ∧ ¬ d * p 8 i ≤ nI 10 * ru 6)) : (mfate ru d i p 4 i = nI 1) ↔ mbst i p = true := by
  have st : msteam ru i p 4 i = p 4 i := by
    have a : (if p 1 i ≤ nI 60 then p else mlose i ((p 7 i + nI 1) * (p 1 i - nI 60) / nI 100) p) 4 i = p 4 i := by
      by_cases q : p 1 i ≤ nI 60
      · rw [if_pos q]
      · rw [if_neg q, mlose, hs_k (by omega)]
    unfold msteam
    by_cases q : p 1 i < nI 10 * ru 3
    · rw [if_pos q, a]
    · rw [if_neg q, hs_k (by omega), a]
  rw [mfate, if_neg h0]
  by_cases q2 : mbst i p = true
  · rw [if_pos q2, hs_s]; simp [q2]
  · rw [if_neg q2]
    by_cases q3 : ¬ -d ≤ ru 5 ∧ ¬ p 3 i < nI 1
    · rw [if_pos q3, hs_s]
      exact ⟨fun z => absurd z (by decide), fun z => absurd z q2⟩
    · rw [if_neg q3, st, h4]
      exact ⟨fun z => absurd z (by decide), fun z => absurd z q2⟩
set_option maxHeartbeats 1000000 in
theorem rq_fires {s n m i c : Nat} {h : kH} (hi : i < m) (hm : m ≤ 6) (hs3 : s ≤ 3) (hn30 : n ≤ 30) (hc : c < n) (hW : W1 n (rP h s m) i) (h0 : rP h s m 0 i = nI c) (h4 : rP h s m 4 i = 0) : ∃ h', p_X8_fires (nI s) (nI i) h = some h' ∧ rP h' s m = mwarm1 (rR h) (rF h s n 0 c) i (rP h s m) ∧ h' 147 = (if rP h' s m 4 i = nI 1 then upd (h 147) i (nI 1) else h 147) ∧ (∀ j, (j < 200 * s + 150 ∨ 200 * s + 198 ≤ j) → h' 143 j = h 143 j) ∧ ∀ k, k ≠ 143 → k ≠ 147 → h' k = h k := by
  obtain ⟨-, h1, hw2, -, -, -, ⟨gr, g1, g2, g3⟩, ⟨t, t1, t2, t3⟩⟩ := hW
  show okp (fun h' : kH => rP h' s m = mwarm1 (rR h) (rF h s n 0 c) i (rP h s m) ∧ h' 147 = (if rP h' s m 4 i = nI 1 then upd (h 147) i (nI 1) else h 147) ∧ (∀ j, (j < 200 * s + 150 ∨ 200 * s + 198 ≤ j) → h' 143 j = h 143 j) ∧ ∀ k, k ≠ 143 → k ≠ 147 → h' k = h k) _
  obtain ⟨B, hB⟩ : ∃ B, B = 200 * s + 150 + 8 * i := ⟨_, rfl⟩
  have w0 : h 143 (B + 0) = nI c := by rw [← h0, rP_at (a := 0) (by omega) hi, hB]
  have w1 : h 143 (B + 1) = rP h s m 1 i := by rw [rP_at (a := 1) (by omega) hi, hB]
  have w7 : h 143 (B + 7) = nI gr := by rw [← g3, rP_at (a := 7) (by omega) hi, hB]
  have wt : h 139 i = nI t := by rw [← t3, rP_8 hi]
  have wf : h 143 (200 * s + c) = rF h s n 0 c := by rw [rF_at (a := 0) (by omega) hc]; rfl
  have dw : decide (¬ nI (t + 1) = 0) = true := decide_eq_true (nI_ne0 (by omega) (by omega))
  simp (disch := omega) only [p_X8_fires, rq_potAt, bd2_s, ← hB, nI_add, pk_mul, gd_i, nI_clamp, w0, wt, gd_t dw, wf, w1, le_d, hs_s, hs_i, w7, hs_k]
  have ed : mwarm1 (rR h) (rF h s n 0 c) i (rP h s m) = mfate (rR h) ((rF h s n 0 c - rP h s m 1 i) / nI (t + 1)) i (rP (hs h 143 (B + 1) (rP h s m 1 i + (rF h s n 0 c - rP h s m 1 i) / nI (t + 1))) s m) := by
    rw [rP_hs 1 (by omega) hi (by omega), mwarm1, t3, nI_add]
  rw [ed]
  generalize (rF h s n 0 c - rP h s m 1 i) / nI (t + 1) = d
  have fk : ∀ k, k ≠ 143 → hs h 143 (B + 1) (rP h s m 1 i + d) k = h k := fun k k1 => hs_k k1
  have fj : ∀ j, (j < 200 * s + 150 ∨ 200 * s + 198 ≤ j) → hs h 143 (B + 1) (rP h s m 1 i + d) 143 j = h 143 j := fun j jj => hs_i (by omega)
  have ev : rP (hs h 143 (B + 1) (rP h s m 1 i + d)) s m = hs (rP h s m) 1 i (rP h s m 1 i + d) := rP_hs 1 (by omega) hi (by omega)
  have p1 : rP (hs h 143 (B + 1) (rP h s m 1 i + d)) s m 1 i = rP h s m 1 i + d := by rw [ev, hs_s]
  have p2 : rP (hs h 143 (B + 1) (rP h s m 1 i + d)) s m 2 i = rP h s m 2 i := by rw [ev, hs_k (by omega)]
  have p4 : rP (hs h 143 (B + 1) (rP h s m 1 i + d)) s m 4 i = 0 := by rw [ev, hs_k (by omega), h4]
  have p7 : rP (hs h 143 (B + 1) (rP h s m 1 i + d)) s m 7 i = nI gr := by rw [ev, hs_k (by omega), g3]
  have p8 : rP (hs h 143 (B + 1) (rP h s m 1 i + d)) s m 8 i = nI t := by rw [ev, hs_k (by omega), t3]
  have er : rR (hs h 143 (B + 1) (rP h s m 1 i + d)) = rR h := rR_e (fk _ (by omega))
  generalize hs h 143 (B + 1) (rP h s m 1 i + d) = h2 at *
  rw [← p1]
  have r5 : rR h 5 = h 137 5 := rfl
  have r6 : rR h 6 = h 137 6 := rfl
  have v2 : h2 143 (B + 2) = rP h2 s m 2 i := by rw [hB, rP_at (by omega) hi]
  have v3 : h2 143 (B + 3) = rP h2 s m 3 i := by rw [hB, rP_at (by omega) hi]
  have v9 : h 140 i = rP h2 s m 9 i := by rw [rP_9 hi, fk _ (by omega)]
  have tail : (¬ (¬ d ≤ 0 ∧ ¬ d * nI t ≤ nI 10 * h 137 6)) → okp (fun h' : kH => rP h' s m = mfate (rR h) d i (rP h2 s m) ∧ h' 147 = (if rP h' s m 4 i = nI 1 then upd (h 147) i (nI 1) else h 147) ∧ (∀ j, (j < 200 * s + 150 ∨ 200 * s + 198 ≤ j) → h' 143 j = h 143 j) ∧ ∀ k, k ≠ 143 → k ≠ 147 → h' k = h k) (p_X8_fires_120 (nI i) (nI B) d (rP h2 s m 1 i) (nI (gr + 1)) h2) := by
    intro hns
    have ens : mfate (rR h) d i (rP h2 s m) = if mbst i (rP h2 s m) = true then hs (rP h2 s m) 4 i (nI 1) else if ¬ -d ≤ h 137 5 ∧ ¬ rP h2 s m 3 i < nI 1 then hs (rP h2 s m) 4 i (nI 4) else msteam (rR h) i (rP h2 s m) := by
      rw [mfate, p8, r6, if_neg hns, r5]
    have hf4 := fate_4 (ru := rR h) (d := d) (i := i) (p := rP h2 s m) p4 (by rw [p8, r6]; exact hns)
    have nob : mbst i (rP h2 s m) ≠ true → okp (fun h' : kH => rP h' s m = mfate (rR h) d i (rP h2 s m) ∧ h' 147 = (if rP h' s m 4 i = nI 1 then upd (h 147) i (nI 1) else h 147) ∧ (∀ j, (j < 200 * s + 150 ∨ 200 * s + 198 ≤ j) → h' 143 j = h 143 j) ∧ ∀ k, k ≠ 143 → k ≠ 147 → h' k = h k) (p_X8_fires_175 (nI B) d (rP h2 s m 1 i) (nI (gr + 1)) h2) := by
      intro qb
      have steam : ¬ (¬ -d ≤ h 137 5 ∧ ¬ rP h2 s m 3 i < nI 1) → okp (fun h' : kH => rP h' s m = mfate (rR h) d i (rP h2 s m) ∧ h' 147 = (if rP h' s m 4 i = nI 1 then upd (h 147) i (nI 1) else h 147) ∧ (∀ j, (j < 200 * s + 150 ∨ 200 * s + 198 ≤ j) → h' 143 j = h 143 j) ∧ ∀ k, k ≠ 143 → k ≠ 147 → h' k = h k) (p_X8_fires_210 (nI B) (rP h2 s m 1 i) (nI (gr + 1)) h2) := by
        intro q3
        obtain ⟨h5, e5, x5, j5, k5⟩ := rq_steam (h := h2) hB hi hm hs3 (by rw [p2]; exact hw2) p7
        rw [e5]
        have ef : rP h5 s m = mfate (rR h) d i (rP h2 s m) := by rw [x5, er, ens, if_neg qb, if_neg q3]
        refine okp_s ⟨ef, ?_, fun j jj => by rw [j5 j jj, fj j jj], fun k k1 k2 => by rw [k5 k k1, fk k k1]⟩
        rw [ef, if_neg (fun z => qb (hf4.mp z)), k5 _ (by omega), fk _ (by omega)]
      simp (disch := omega) only [p_X8_fires_175, nI_add, gd_i, le_d, nI_clamp, fk 137 (by omega), v3]
      by_cases q1 : -d ≤ h 137 5
      · rw [if_pos q1]; exact steam (fun q => q.1 q1)
      · rw [if_neg q1]
        by_cases q2 : rP h2 s m 3 i ≤ 0
        · rw [if_pos q2]; exact steam (fun q => q.2 (lt1.mpr q2))
        · rw [if_neg q2]
          have ef : rP (hs h2 143 (B + 4) (nI 4)) s m = mfate (rR h) d i (rP h2 s m) := by
            rw [rP_hs 4 (by omega) hi (by omega), ens, if_neg qb, if_pos ⟨q1, fun z => q2 (lt1.mp z)⟩]
          refine okp_s ⟨ef, ?_, fun j jj => by rw [hs_i (by omega), fj j jj], fun k k1 k2 => by rw [hs_k k1, fk k k1]⟩
          rw [ef, if_neg (fun z => qb (hf4.mp z)), hs_k (by omega), fk _ (by omega)]
    have dg : decide (¬ nI (10 * (gr + 1)) = 0) = true := decide_eq_true (nI_ne0 (by omega) (by omega))
    simp (disch := omega) only [p_X8_fires_120, nI_add, pk_mul, gd_i, gd_t dg, le_d, nI_clamp, fk 140 (by omega), v2, v9, nar_b1]
    by_cases q1 : rP h2 s m 1 i ≤ nI 100
    · rw [if_pos q1]
      exact nob (by simp [mbst, Int32.not_lt.mpr q1])
    · rw [if_neg q1]
      by_cases q2 : rP h2 s m 2 i * (rP h2 s m 1 i - nI 100) / nI (10 * (gr + 1)) ≤ rP h2 s m 9 i
      · rw [if_pos q2]
        refine nob ?_
        unfold mbst
        rw [p7, nI_add, pk_mul]
        simp [q2]
      · rw [if_neg q2]
        have qb : mbst i (rP h2 s m) = true := by
          unfold mbst
          rw [p7, nI_add, pk_mul]
          simp [q2, Int32.not_le.mp q1]
        have ef : rP (hs (hs h2 143 (B + 4) (nI 1)) 147 i (nI 1)) s m = mfate (rR h) d i (rP h2 s m) := by
          rw [rP_e hm (h := hs h2 143 (B + 4) (nI 1)) (fun j _ _ => by rw [hs_k (by omega)]) (hs_k (by omega)) (hs_k (by omega)), rP_hs 4 (by omega) hi (by omega), ens, if_pos qb]
        refine okp_s ⟨ef, ?_, fun j jj => by rw [hs_k (by omega), hs_i (by omega), fj j jj], fun k k1 k2 => by rw [hs_k k2, hs_k k1, fk k k1]⟩
        rw [ef, if_pos (hf4.mpr qb)]
        rw [hs_row, hs_k (by omega), fk _ (by omega)]
  by_cases q1 : d ≤ 0
  · rw [if_pos q1]
    exact tail (fun q => q.1 q1)
  · rw [if_neg q1]
    by_cases q2 : d * nI t ≤ nI 10 * h 137 6
    · rw [if_pos q2]
      exact tail (fun q => q.2 q2)
    · rw [if_neg q2]
      have ef : rP (hs h2 143 (B + 4) (nI 3)) s m = mfate (rR h) d i (rP h2 s m) := by
        rw [rP_hs 4 (by omega) hi (by omega), mfate, p8, r6, if_pos ⟨q1, q2⟩]
      refine okp_s ⟨ef, ?_, fun j jj => by rw [hs_i (by omega), fj j jj], fun k k1 k2 => by rw [hs_k k1, fk k k1]⟩
      have e3 : rP (hs h2 143 (B + 4) (nI 3)) s m 4 i = nI 3 := by rw [rP_hs 4 (by omega) hi (by omega), hs_s]
      rw [e3, if_neg (show ¬ nI 3 = nI 1 by decide), hs_k (by omega), fk _ (by omega)]
