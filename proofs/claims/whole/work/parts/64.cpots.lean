/-! the pots: their view, one pot's fate -/
def pa : Nat → Nat
  | 0 => 1 | 1 => 6 | 2 => 3 | 3 => 7 | 4 => 8 | 5 => 9 | 6 => 10 | 7 => 4 | 8 => 2 | 9 => 5 | _ => 0
theorem pa_inj {a b : Nat} (ha : a < 10) (hb : b < 10) (e : pa a = pa b) : a = b := by
  have hall : ∀ a, a < 10 → ∀ b, b < 10 → pa a = pa b → a = b := by decide
  exact hall a ha b hb e
def cP (h : kH) (P m : Nat) : kH := fun a i => if a < 10 ∧ i < m then h (P + pa a) i else 0
theorem cP_at {h : kH} {P m a i : Nat} (ha : a < 10) (hi : i < m) : cP h P m a i = h (P + pa a) i := if_pos ⟨ha, hi⟩
theorem cP_hs {h : kH} {P m i : Nat} {x : Int32} (a : Nat) (ha : a < 10) (hi : i < m) : cP (hs h (P + pa a) i x) P m = hs (cP h P m) a i x := by
  funext a' i'
  rw [hs_r]
  unfold cP
  rw [hs_r]
  by_cases h1 : a' = a ∧ i' = i
  · rw [if_pos h1, h1.1, h1.2, if_pos ⟨ha, hi⟩, if_pos ⟨rfl, rfl⟩]
  · rw [if_neg h1]
    by_cases h2 : a' < 10 ∧ i' < m
    · rw [if_pos h2, if_pos h2, if_neg (fun q => h1 ⟨pa_inj h2.1 ha (by omega), q.2⟩)]
    · rw [if_neg h2, if_neg h2]
theorem pa_le (a : Nat) : pa a ≤ 10 := by
  unfold pa
  split <;> omega
theorem pa_pos {a : Nat} (h : a < 10) : 1 ≤ pa a := by
  have hall : ∀ a, a < 10 → 1 ≤ pa a := by decide
  exact hall a h
theorem cP_k {h h' : kH} {P m : Nat} (e : ∀ k, P + 1 ≤ k → k ≤ P + 10 → h' k = h k) : cP h' P m = cP h P m := by
  funext a i
  unfold cP
  by_cases h2 : a < 10 ∧ i < m
  · rw [if_pos h2, if_pos h2, e _ (by have := pa_pos h2.1; omega) (by have := pa_le a; omega)]
  · rw [if_neg h2, if_neg h2]
theorem cP_hk {h : kH} {P m k i : Nat} {x : Int32} (e : k < P + 1 ∨ P + 10 < k) : cP (hs h k i x) P m = cP h P m := cP_k (fun k' h1 h2 => hs_k (by omega))
/-- it bursts -/
def mbst (i : Nat) (p : kH) : Bool := decide (nI 100 < p 1 i) && !decide (p 2 i * (p 1 i - nI 100) / (nI 10 * (p 7 i + nI 1)) ≤ p 9 i)
/-- it loses water -/
def mlose (i : Nat) (g : Int32) (p : kH) : kH := hs p 2 i (p 2 i - (if g < p 2 i then g else p 2 i))
def msteam (ru : Nat → Int32) (i : Nat) (p : kH) : kH :=
  if p 1 i < nI 10 * ru 3 then (if p 1 i ≤ nI 60 then p else mlose i ((p 7 i + nI 1) * (p 1 i - nI 60) / nI 100) p) else hs (if p 1 i ≤ nI 60 then p else mlose i ((p 7 i + nI 1) * (p 1 i - nI 60) / nI 100) p) 3 i (p 3 i + nI 1)
def mfate (ru : Nat → Int32) (d : Int32) (i : Nat) (p : kH) : kH :=
  if ¬ d ≤ 0 ∧ ¬ d * p 8 i ≤ nI 10 * ru 6 then hs p 4 i (nI 3) else if mbst i p = true then hs p 4 i (nI 1) else if ¬ -d ≤ ru 5 ∧ ¬ p 3 i < nI 1 then hs p 4 i (nI 4) else msteam ru i p
def mwarm1 (ru : Nat → Int32) (hv : Int32) (i : Nat) (p : kH) : kH := mfate ru ((hv - p 1 i) / (p 8 i + nI 1)) i (hs p 1 i (p 1 i + (hv - p 1 i) / (p 8 i + nI 1)))
theorem q_isBursting {P m i : Nat} {h : kH} (hi : i < m) (hm : m ≤ 6) (hg : bt (h (P + 4) i) 0 9) : p_X4_isBursting P (nI i) h = some (if mbst i (cP h P m) = true then nI 1 else nI 0, h) := by
  obtain ⟨g, -, hg2, hg3⟩ := hg
  have c1 : cP h P m 1 i = h (P + 6) i := cP_at (a := 1) (by omega) hi
  have c2 : cP h P m 2 i = h (P + 3) i := cP_at (a := 2) (by omega) hi
  have c7 : cP h P m 7 i = nI g := by rw [cP_at (a := 7) (by omega) hi]; exact hg3
  have c9 : cP h P m 9 i = h (P + 5) i := cP_at (a := 9) (by omega) hi
  simp (disch := omega) only [p_X4_isBursting, gd_i, le_d, nI_clamp, hg3, nI_add, pk_mul, mbst, c1, c2, c7, c9]
  rw [if_neg (nI_nlt (by omega) (by omega)), gd_n (by omega) (by omega)]
  by_cases q1 : nI 100 < h (P + 6) i
  · rw [if_pos q1]
    by_cases q2 : h (P + 3) i * (h (P + 6) i - nI 100) / nI (10 * (g + 1)) ≤ h (P + 5) i
    · rw [if_pos q2]; simp [q2]
    · rw [if_neg q2]; simp [q1, q2]
  · rw [if_neg q1]; simp [q1]
theorem q_loseWater {P m i : Nat} {x : Int32} {h : kH} (hi : i < m) (hm : m ≤ 6) : ∃ h', p_X4_loseWater P (nI i) x h = some h' ∧ cP h' P m = mlose i x (cP h P m) ∧ ∀ k, k ≠ P + 3 → h' k = h k := by
  have c2 : cP h P m 2 i = h (P + 3) i := cP_at (a := 2) (by omega) hi
  simp (disch := omega) only [p_X4_loseWater, gd_i, le_d, nI_clamp]
  refine ⟨_, rfl, ?_, fun k hk => hs_k hk⟩
  show cP (hs h (P + pa 2) i _) P m = _
  rw [cP_hs 2 (by omega) hi, mlose, c2]
theorem q_steam {P R m i : Nat} {h : kH} (hi : i < m) (hm : m ≤ 6) (hR : R + 10 < P) : ∃ h', p_X4_steamAndHarden P R (nI i) h = some h' ∧ cP h' P m = msteam (cR h R) i (cP h P m) ∧ ∀ k, k ≠ P + 3 → k ≠ P + 7 → h' k = h k := by
  have c1 : cP h P m 1 i = h (P + 6) i := cP_at (a := 1) (by omega) hi
  have c3 : cP h P m 3 i = h (P + 7) i := cP_at (a := 3) (by omega) hi
  have c7 : cP h P m 7 i = h (P + 4) i := cP_at (a := 7) (by omega) hi
  have r3 : cR h R 3 = h R 5 := rfl
  show okp (fun h' : kH => cP h' P m = msteam (cR h R) i (cP h P m) ∧ ∀ k, k ≠ P + 3 → k ≠ P + 7 → h' k = h k) _
  -- behind the water
  have fin : ∀ h1 : kH, cP h1 P m = (if cP h P m 1 i ≤ nI 60 then cP h P m else mlose i ((cP h P m 7 i + nI 1) * (cP h P m 1 i - nI 60) / nI 100) (cP h P m)) → (∀ k, k ≠ P + 3 → h1 k = h k) → okp (fun h' : kH => cP h' P m = msteam (cR h R) i (cP h P m) ∧ ∀ k, k ≠ P + 3 → k ≠ P + 7 → h' k = h k) (p_X4_steamAndHarden_37 P R (nI i) h1) := by
    intro h1 v1 f1
    simp (disch := omega) only [p_X4_steamAndHarden_37, gd_i, le_d, nI_clamp, f1 (P + 6) (by omega), f1 (P + 7) (by omega), f1 R (by omega)]
    by_cases q : h (P + 6) i < nI 10 * h R 5
    · rw [if_pos q]
      refine okp_s ⟨?_, fun k k1 _ => f1 k k1⟩
      rw [v1, msteam, if_pos (show cP h P m 1 i < nI 10 * cR h R 3 by rw [c1, r3]; exact q)]
    · rw [if_neg q]
      refine okp_s ⟨?_, fun k k1 k2 => by rw [hs_k k2]; exact f1 k k1⟩
      show cP (hs h1 (P + pa 3) i _) P m = _
      rw [cP_hs 3 (by omega) hi, v1, msteam, if_neg (show ¬ cP h P m 1 i < nI 10 * cR h R 3 by rw [c1, r3]; exact q), c3]
  simp (disch := omega) only [p_X4_steamAndHarden, gd_i, nI_clamp]
  by_cases q : h (P + 6) i ≤ nI 60
  · rw [if_pos q]
    exact fin h (by rw [if_pos (by rw [c1]; exact q)]) (fun _ _ => rfl)
  · obtain ⟨h1, e1, v1, f1⟩ := q_loseWater (P := P) (x := (h (P + 4) i + nI 1) * (h (P + 6) i - nI 60) / nI 100) (h := h) hi hm
    rw [if_neg q, bd_o e1]
    exact fin h1 (by rw [if_neg (by rw [c1]; exact q), c1, c7]; exact v1) f1
theorem q_warm {P R m i : Nat} {x : Int32} {h : kH} (hi : i < m) (hm : m ≤ 6) (hR : R + 10 < P) (hg : bt (h (P + 4) i) 0 9) (ht : bt (h (P + 2) i) 1 9) : ∃ h', p_X4_warm P R (nI i) x h = some h' ∧ cP h' P m = mwarm1 (cR h R) x i (cP h P m) ∧ ∀ k, k ≠ P + 3 → k ≠ P + 6 → k ≠ P + 7 → k ≠ P + 8 → h' k = h k := by
  obtain ⟨t, ht1, ht2, ht3⟩ := ht
  have c1 : cP h P m 1 i = h (P + 6) i := cP_at (a := 1) (by omega) hi
  have c8 : cP h P m 8 i = nI t := by rw [cP_at (a := 8) (by omega) hi]; exact ht3
  simp (disch := omega) only [p_X4_warm, gd_i, le_d, nI_clamp, ht3, nI_add]
  rw [if_pos (nI_le (by omega) (by omega)), gd_n (by omega) (by omega)]
  show okp (fun h' : kH => cP h' P m = mwarm1 (cR h R) x i (cP h P m) ∧ ∀ k, k ≠ P + 3 → k ≠ P + 6 → k ≠ P + 7 → k ≠ P + 8 → h' k = h k) _
  have ed : mwarm1 (cR h R) x i (cP h P m) = mfate (cR h R) ((x - h (P + 6) i) / nI (t + 1)) i (cP (hs h (P + 6) i (h (P + 6) i + (x - h (P + 6) i) / nI (t + 1))) P m) := by
    show _ = mfate _ _ i (cP (hs h (P + pa 1) i _) P m)
    rw [cP_hs 1 (by omega) hi, mwarm1, c1, c8, nI_add]
  rw [ed]
  generalize (x - h (P + 6) i) / nI (t + 1) = d
  simp (disch := omega) only [p_X4_warm_31, gd_i, le_d, nI_clamp]
  have f1 : ∀ k, k ≠ P + 6 → hs h (P + 6) i (h (P + 6) i + d) k = h k := fun k hk => hs_k hk
  rw [show hs h (P + 6) i (h (P + 6) i + d) R = h R from f1 R (by omega), show hs h (P + 6) i (h (P + 6) i + d) (P + 2) = h (P + 2) from f1 _ (by omega), ht3]
  have er : cR h R = cR (hs h (P + 6) i (h (P + 6) i + d)) R := (cR_k (f1 R (by omega)) (f1 _ (by omega)) (f1 _ (by omega))).symm
  have g1 : bt (hs h (P + 6) i (h (P + 6) i + d) (P + 4) i) 0 9 := by rw [f1 _ (by omega)]; exact hg
  have t1 : hs h (P + 6) i (h (P + 6) i + d) (P + 2) i = nI t := by rw [f1 _ (by omega)]; exact ht3
  have rd : hs h (P + 6) i (h (P + 6) i + d) R 7 = h R 7 := by rw [f1 R (by omega)]
  generalize hs h (P + 6) i (h (P + 6) i + d) = h1 at f1 er g1 t1 rd ⊢
  have d3 : cP h1 P m 3 i = h1 (P + 7) i := cP_at (a := 3) (by omega) hi
  have d8 : cP h1 P m 8 i = nI t := by rw [cP_at (a := 8) (by omega) hi]; exact t1
  have r5 : cR h R 5 = h R 7 := rfl
  have r6 : cR h R 6 = h R 8 := rfl
  have tail : (¬ (¬ d ≤ 0 ∧ ¬ d * nI t ≤ nI 10 * h R 8)) → okp (fun h' : kH => cP h' P m = mfate (cR h R) d i (cP h1 P m) ∧ ∀ k, k ≠ P + 3 → k ≠ P + 6 → k ≠ P + 7 → k ≠ P + 8 → h' k = h k) (p_X4_warm_78 P R (nI i) d h1) := by
    intro hns
    have ens : mfate (cR h R) d i (cP h1 P m) = if mbst i (cP h1 P m) = true then hs (cP h1 P m) 4 i (nI 1) else if ¬ -d ≤ h R 7 ∧ ¬ h1 (P + 7) i < nI 1 then hs (cP h1 P m) 4 i (nI 4) else msteam (cR h R) i (cP h1 P m) := by
      rw [mfate, d8, r6, if_neg hns, r5, d3]
    rw [ens]
    have steam : okp (fun h' : kH => cP h' P m = msteam (cR h R) i (cP h1 P m) ∧ ∀ k, k ≠ P + 3 → k ≠ P + 6 → k ≠ P + 7 → k ≠ P + 8 → h' k = h k) (p_X4_warm_126 P R (nI i) h1) := by
      obtain ⟨h2, e2, v2, f2⟩ := q_steam (P := P) (R := R) (h := h1) hi hm hR
      rw [p_X4_warm_126, bd_o e2]
      exact okp_s ⟨by rw [v2, ← er], fun k k1 k2 k3 k4 => by rw [f2 k k1 k3, f1 k k2]⟩
    simp only [p_X4_warm_78, q_isBursting hi hm g1, bd2_s, rd]
    by_cases qb : mbst i (cP h1 P m) = true
    · simp only [if_pos qb]
      rw [if_neg nI_10, gd_i (by omega) (by omega), le_d, nI_clamp (by omega)]
      refine okp_s ⟨?_, fun k k1 k2 k3 k4 => by rw [hs_k k4]; exact f1 k k2⟩
      exact cP_hs 4 (by omega) hi
    · simp only [if_neg qb]
      rw [if_pos nI_00]
      by_cases q1 : -d ≤ h R 7
      · rw [if_pos q1, if_neg (fun q => q.1 q1)]
        exact steam
      · rw [if_neg q1, gd_i (by omega) (by omega), nI_clamp (by omega)]
        by_cases q2 : h1 (P + 7) i < nI 1
        · rw [if_pos q2, if_neg (fun q => q.2 q2)]
          exact steam
        · rw [if_neg q2, if_pos ⟨q1, q2⟩, le_d]
          refine okp_s ⟨?_, fun k k1 k2 k3 k4 => by rw [hs_k k4]; exact f1 k k2⟩
          exact cP_hs 4 (by omega) hi
  by_cases q1 : d ≤ 0
  · rw [if_pos q1]
    exact tail (fun q => q.1 q1)
  · rw [if_neg q1]
    by_cases q2 : d * nI t ≤ nI 10 * h R 8
    · rw [if_pos q2]
      exact tail (fun q => q.2 q2)
    · rw [if_neg q2]
      refine okp_s ⟨?_, fun k k1 k2 k3 k4 => by rw [hs_k k4]; exact f1 k k2⟩
      rw [mfate, d8, r6, if_pos ⟨q1, q2⟩]
      exact cP_hs 4 (by omega) hi
