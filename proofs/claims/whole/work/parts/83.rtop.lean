/-! the reference: checks, copies, whole runs -/
theorem rq_isWind {x : Int32} {h : kH} : p_X8_isWind x h = some (b1 (okI x 0 9), h) := by
  simp only [p_X8_isWind, rq_in (lo := 0) (hi := 9) (a := 0) (b := 9) (by decide) (by decide), bd2_s, gd_t (b1_and _)]
  rfl
theorem rq_isRun {x y : Int32} {h : kH} : p_X8_isRun x y h = some (b1 (okI x 0 240 && okI y 0 9), h) := by
  simp only [p_X8_isRun, rq_in (lo := 0) (hi := 240) (a := 0) (b := 240) (by decide) (by decide), rq_isWind, bd2_s, b1_if]
  show (if okI x 0 240 = true then _ else _) = _
  cases okI x 0 240 <;> cases okI y 0 9 <;> rfl
theorem rq_isEvening {x y : Int32} {h : kH} : p_X8_isEvening x y h = some (b1 (okI x 0 9999 && okI y 0 240), h) := by
  simp only [p_X8_isEvening, rq_in (lo := 0) (hi := 9999) (a := 0) (b := 9999) (by decide) (by decide), rq_in (lo := 0) (hi := 240) (a := 0) (b := 240) (by decide) (by decide), bd2_s, b1_if]
  show (if okI x 0 9999 = true then (if okI y 0 240 = true then _ else _) else _) = _
  cases okI x 0 9999 <;> cases okI y 0 240 <;> rfl
theorem to64 {x : Int32} {k : Int} (e : x.toInt = k) : x.toInt64.toInt = k := by rw [Int32.toInt_toInt64, e]
theorem rq_isCell {x : Int32} {w g n : Nat} {h : kH} (hr : WfR (rR h) w g) (hn : w * g = n) : p_X8_isCell x h = some (b1 (okI x 0 ((n - 1 : Nat) : Int)), h) := by
  have hn30 := n_le hn hr.2.2.1.2 hr.2.2.2.1.2
  have hn0 := n_pos hn hr.2.2.1.1 hr.2.2.2.1.1
  simp only [p_X8_isCell, rq_cells (h := h) hr.1 hr.2.1 hn, bd2_s, pk_sub (show 1 ≤ n by omega), rq_in (lo := 0) (a := 0) (by decide) (to64 (nI_toInt (show n - 1 < 2 ^ 31 by omega))), gd_t (b1_and _)]
  rfl
theorem rq_isPot {x : Int32} {m : Nat} {h : kH} (hc : h 138 0 = nI m) (hm : m ≤ 6) : p_X8_isPot x h = some (b1 (okI x 0 ((m : Int) - 1)), h) := by
  have e : (nI m - nI 1).toInt = (m : Int) - 1 := by
    rw [ti_sub (by rw [nI_toInt (by omega), nI_toInt (by omega)]; omega) (by rw [nI_toInt (by omega), nI_toInt (by omega)]; omega), nI_toInt (by omega), nI_toInt (by omega)]
    rfl
  simp (disch := omega) only [p_X8_isPot, gd_i, nI_clamp, hc, bd2_s, rq_in (lo := 0) (a := 0) (by decide) (to64 e), gd_t (b1_and _)]
  rfl
theorem rq_copies {a b : Nat} {h : kH} (hab : a ≠ b) (ha : a ≤ 3) (hb : b ≤ 3) : ∃ h', p_X8_copies (nI a) (nI b) h = some h' ∧ (∀ k, k < 200 → h' 143 (200 * b + k) = h 143 (200 * a + k)) ∧ (∀ j, (j < 200 * b ∨ 200 * b + 200 ≤ j) → h' 143 j = h 143 j) ∧ ∀ k, k ≠ 143 → h' k = h k := by
  show okp (fun h' : kH => (∀ k, k < 200 → h' 143 (200 * b + k) = h 143 (200 * a + k)) ∧ (∀ j, (j < 200 * b ∨ 200 * b + 200 ≤ j) → h' 143 j = h 143 j) ∧ ∀ k, k ≠ 143 → h' k = h k) _
  unfold p_X8_copies
  refine fx_m (fun i (h : kH) => (nI a, nI b, nI i, h)) (fun i h1 => (∀ k, k < i → h1 143 (200 * b + k) = h 143 (200 * a + k)) ∧ (∀ j, (j < 200 * b ∨ 200 * b + 200 ≤ j) → h1 143 j = h 143 j) ∧ ∀ k, k ≠ 143 → h1 k = h k) _ 200 (by omega) ⟨fun k hk => absurd hk (by omega), fun _ _ => rfl, fun _ _ => rfl⟩ ?_ ?_
  · intro i h1 hi ⟨hv, hj, hk⟩ K hK
    simp (disch := omega) only [p_X8_copies_2, if_neg (nI_ge hi (show 200 < 2 ^ 31 by omega)), pk_mul, nI_add, gd_i, le_d, nI_clamp]
    refine hK _ ⟨fun k kk => ?_, fun j jj => by rw [hs_i (by omega)]; exact hj j jj, fun k k1 => by rw [hs_k k1]; exact hk k k1⟩
    by_cases e : k = i
    · subst e; rw [hs_s, hj _ (by omega)]
    · rw [hs_i (by omega)]; exact hv k (by omega)
  · intro h1 hI K
    simp only [p_X8_copies_2, if_pos (nI_le (Nat.le_refl 200) (show 200 < 2 ^ 31 by omega))]
    exact okp_s hI
theorem rF_cp {h h' : kH} {a b n : Nat} (hn : n ≤ 30) (e : ∀ k, k < 200 → h' 143 (200 * b + k) = h 143 (200 * a + k)) : rF h' b n = rF h a n := by
  funext q c
  unfold rF
  by_cases z : q < 5 ∧ c < n
  · rw [if_pos z, if_pos z, Nat.add_assoc, e _ (by omega), Nat.add_assoc]
  · rw [if_neg z, if_neg z]
theorem rP_cp {h h' : kH} {a b m : Nat} (hm : m ≤ 6) (e : ∀ k, k < 200 → h' 143 (200 * b + k) = h 143 (200 * a + k)) (e1 : h' 139 = h 139) (e2 : h' 140 = h 140) : rP h' b m = rP h a m := by
  funext q i
  unfold rP
  rw [e1, e2]
  by_cases z : q < 10 ∧ i < m
  · rw [if_pos z, if_pos z]
    by_cases z8 : q < 8
    · rw [if_pos z8, if_pos z8, show 200 * b + 150 + 8 * i + q = 200 * b + (150 + 8 * i + q) by omega, e _ (by omega), show 200 * a + 150 + 8 * i + q = 200 * a + (150 + 8 * i + q) by omega]
    · rw [if_neg z8, if_neg z8]
  · rw [if_neg z, if_neg z]
theorem rq_lossOf {s n m i : Nat} {h : kH} (hi : i < m) (hm : m ≤ 6) (hs3 : s ≤ 3) (hp : WfP n m (rP h s m)) : p_X8_lossOf (nI s) (nI i) h = some (mloss (rR h) (rP h s m) i, h) := by
  obtain ⟨k, -, k2, k3⟩ := (hp i hi).2.2.2.1
  have v3 : h 143 (200 * s + 150 + 8 * i + 3) = rP h s m 3 i := by rw [rP_at (a := 3) (by omega) hi]
  have v4 : h 143 (200 * s + 150 + 8 * i + 4) = nI k := by rw [← k3, rP_at (a := 4) (by omega) hi]
  have r4 : rR h 4 = h 137 4 := rfl
  simp (disch := omega) only [p_X8_lossOf, rq_potAt, bd2_s, nI_add, gd_i, nI_clamp, v3, v4, mloss, k3, r4]
  by_cases z : k = 0
  · subst z
    rw [if_pos (by rw [nI_00]; exact Int32.le_refl _), if_pos nI_00]
    by_cases y : rP h s m 3 i < h 137 4
    · rw [if_pos y, if_pos y]
    · rw [if_neg y, if_neg y]
  · rw [if_neg (nI_nle (by omega) (by omega)), if_neg (fun y => z ((nI_eq0 (by omega)).mp y))]
/-- how many are good -/
def good (ru : Nat → Int32) (m : Nat) (p : kH) : Nat := cntN (fun i => decide (mloss ru p i = 0)) m
theorem rq_good {n m : Nat} {h : kH} (hc : h 138 0 = nI m) (hm : m ≤ 6) (hp : WfP n m (rP h 3 m)) : p_X8_good (nI 0) h = some (nI (good (rR h) m (rP h 3 m)), h) := by
  unfold p_X8_good
  refine fx_m (fun i (a : Int32 × kH) => (a.1, nI i, a.2)) (fun i a => a = (nI (cntN (fun i => decide (mloss (rR h) (rP h 3 m) i = 0)) i), h)) (fun r => r = some (nI (cntN (fun i => decide (mloss (rR h) (rP h 3 m) i = 0)) m), h)) m (by omega) (a := (nI 0, h)) rfl ?_ ?_
  · rintro i a hi rfl K hK
    dsimp only
    simp (disch := omega) only [p_X8_good_4, p_X8_good_29, gd_i, nI_clamp, hc, if_neg (nI_ge hi (show m < 2 ^ 31 by omega)), rq_lossOf (s := 3) hi hm (by omega) hp, bd2_s, nI_add, le_d]
    by_cases q : mloss (rR h) (rP h 3 m) i = 0
    · rw [if_pos q]
      exact hK (nI (cntN _ i + 1), h) (by rw [cntN_t (by simp [q])])
    · rw [if_neg q]
      exact hK (nI (cntN _ i + 0), h) (by rw [cntN_n (by simp [q])]; rfl)
  · rintro a rfl K
    dsimp only
    simp (disch := omega) only [p_X8_good_4, gd_i, nI_clamp, hc, if_pos (nI_le (Nat.le_refl m) (show m < 2 ^ 31 by omega))]
/-- the greater -/
def mmx (a v : Int32) : Int32 := if v ≤ a then a else v
theorem rq_looks {n m : Nat} {h : kH} (hc : h 138 0 = nI m) (hm : m ≤ 6) (hn30 : n ≤ 30) (hn0 : 0 < n) (hp : WfP n m (rP h 3 m)) : ∃ h', p_X8_looks h = some h' ∧ (∀ i, i < m → h' 146 i = mmx (h 146 i) (rF h 3 n 0 (rP h 3 m 0 i).toNatClampNeg)) ∧ ∀ k, k ≠ 146 → h' k = h k := by
  show okp (fun h' : kH => (∀ i, i < m → h' 146 i = mmx (h 146 i) (rF h 3 n 0 (rP h 3 m 0 i).toNatClampNeg)) ∧ ∀ k, k ≠ 146 → h' k = h k) _
  unfold p_X8_looks
  refine fx_m (fun i (h : kH) => (nI i, h)) (fun i h1 => (∀ j, j < i → h1 146 j = mmx (h 146 j) (rF h 3 n 0 (rP h 3 m 0 j).toNatClampNeg)) ∧ (∀ j, i ≤ j → h1 146 j = h 146 j) ∧ ∀ k, k ≠ 146 → h1 k = h k) _ m (by omega) ⟨fun j hj => absurd hj (by omega), fun _ _ => rfl, fun _ _ => rfl⟩ ?_ ?_
  · intro i h1 hi ⟨hv, hu, hk⟩ K hK
    obtain ⟨c, -, c2, c3⟩ := (hp i hi).1
    have e43 : h1 143 = h 143 := hk _ (by omega)
    have v0 : h 143 (200 * 3 + 150 + 8 * i + 0) = nI c := by rw [← c3, rP_at (a := 0) (by omega) hi]
    have vf : h 143 (600 + c) = rF h 3 n 0 c := by rw [rF_at (a := 0) (by omega) (by omega)]
    have e38 : h1 138 0 = nI m := by rw [hk _ (by omega)]; exact hc
    have fin : ∀ x, x = mmx (h 146 i) (rF h 3 n 0 c) → okp (fun h' : kH => (∀ i, i < m → h' 146 i = mmx (h 146 i) (rF h 3 n 0 (rP h 3 m 0 i).toNatClampNeg)) ∧ ∀ k, k ≠ 146 → h' k = h k) (p_X8_looks_59 K (nI i) x (nI i) h1) := by
      intro x hx
      simp (disch := omega) only [p_X8_looks_59, gd_i, nI_clamp, le_d, nI_add]
      refine hK _ ⟨fun j hj => ?_, fun j hj => by rw [hs_i (by omega)]; exact hu j (by omega), fun k k1 => by rw [hs_k k1]; exact hk k k1⟩
      by_cases e : j = i
      · subst e; rw [hs_s, hx, c3, nI_clamp (by omega)]
      · rw [hs_i e]; exact hv j (by omega)
    simp (disch := omega) only [p_X8_looks_2, gd_i, nI_clamp, e38, if_neg (nI_ge hi (show m < 2 ^ 31 by omega)), rq_potAt, bd2_s, nI_add, e43, v0, vf, le_d, hu i (Nat.le_refl i)]
    by_cases q : rF h 3 n 0 c ≤ h 146 i
    · rw [if_pos q]; exact fin _ (by rw [mmx, if_pos q])
    · rw [if_neg q]; exact fin _ (by rw [mmx, if_neg q])
  · intro h1 ⟨hv, hu, hk⟩ K
    simp (disch := omega) only [p_X8_looks_2, gd_i, nI_clamp, hk 138 (by omega), hc, if_pos (nI_le (Nat.le_refl m) (show m < 2 ^ 31 by omega))]
    exact okp_s ⟨hv, hk⟩
/-- what questions of the reference leave as it was -/
def Rk (h h' : kH) : Prop := (∀ j, j < 600 → h' 143 j = h 143 j) ∧ ∀ k, k ≠ 143 → k ≠ 145 → k ≠ 146 → k ≠ 147 → k ≠ 148 → k ≠ 149 → k ≠ 150 → h' k = h k
theorem Rk.rf {h : kH} : Rk h h := ⟨fun _ _ => rfl, fun _ _ _ _ _ _ _ _ => rfl⟩
theorem Rk.tr {h1 h2 h3 : kH} (a : Rk h1 h2) (b : Rk h2 h3) : Rk h1 h3 := ⟨fun j hj => by rw [b.1 j hj, a.1 j hj], fun k q1 q2 q3 q4 q5 q6 q7 => by rw [b.2 k q1 q2 q3 q4 q5 q6 q7, a.2 k q1 q2 q3 q4 q5 q6 q7]⟩
theorem RI.k0 {h h' : kH} {w g n m : Nat} {ru : Nat → Int32} {f p : kH} {go : Int32} (c : RI h w g n m ru f p go) (k : ∀ k, (137 ≤ k ∧ k ≤ 140) → h' k = h k) (k1 : ∀ j, j < 600 → h' 143 j = h 143 j) : RI h' w g n m ru f p go := by
  obtain ⟨s, c1, c2, c3, c4, c5⟩ := c
  have hn30 := n_le s.2.1 s.1.2.2.1.2 s.1.2.2.2.1.2
  exact ⟨s, by rw [← c1]; exact rR_e (k _ (by omega)), by rw [← c2]; exact rF_e hn30 (fun j a b => k1 j (by omega)), by rw [← c3]; exact rP_e s.2.2.1 (fun j a b => k1 j (by omega)) (k _ (by omega)) (k _ (by omega)), by rw [k _ (by omega)]; exact c4, by rw [k1 _ (by omega)]; exact c5⟩
theorem RI.k {h h' : kH} {w g n m : Nat} {ru : Nat → Int32} {f p : kH} {go : Int32} (c : RI h w g n m ru f p go) (k : Rk h h') : RI h' w g n m ru f p go := by
  obtain ⟨s, c1, c2, c3, c4, c5⟩ := c
  have hn30 := n_le s.2.1 s.1.2.2.1.2 s.1.2.2.2.1.2
  exact ⟨s, by rw [← c1]; exact rR_e (k.2 _ (by omega) (by omega) (by omega) (by omega) (by omega) (by omega) (by omega)), by rw [← c2]; exact rF_e hn30 (fun j a b => k.1 j (by omega)), by rw [← c3]; exact rP_e s.2.2.1 (fun j a b => k.1 j (by omega)) (k.2 _ (by omega) (by omega) (by omega) (by omega) (by omega) (by omega) (by omega)) (k.2 _ (by omega) (by omega) (by omega) (by omega) (by omega) (by omega) (by omega)), by rw [k.2 _ (by omega) (by omega) (by omega) (by omega) (by omega) (by omega) (by omega)]; exact c4, by rw [k.1 _ (by omega)]; exact c5⟩
theorem rq_tries {w g n m : Nat} {ru : Nat → Int32} {f p : kH} {go : Int32} {h : kH} (c : RI h w g n m ru f p go) : ∃ h', p_X8_tries h = some h' ∧ rF h' 3 n = f ∧ rP h' 3 m = p ∧ (∀ i, i < m → h' 146 i = mmx (nI 0) (f 0 (p 0 i).toNatClampNeg)) ∧ Rk h h' := by
  obtain ⟨⟨hr, hn, hm, hf, hp⟩, c1, c2, c3, c4, c5⟩ := c
  have hn30 := n_le hn hr.2.2.1.2 hr.2.2.2.1.2
  have hn0 := n_pos hn hr.2.2.1.1 hr.2.2.2.1.1
  obtain ⟨h1, e1, v1, j1, k1⟩ := rq_copies (a := 0) (b := 3) (h := h) (by omega) (by omega) (by omega)
  have f1 : rF h1 3 n = f := by rw [rF_cp hn30 v1, c2]
  have p1 : rP h1 3 m = p := by rw [rP_cp hm v1 (k1 _ (by omega)) (k1 _ (by omega)), c3]
  show okp (fun h' : kH => rF h' 3 n = f ∧ rP h' 3 m = p ∧ (∀ i, i < m → h' 146 i = mmx (nI 0) (f 0 (p 0 i).toNatClampNeg)) ∧ Rk h h') _
  unfold p_X8_tries
  rw [bd_o e1]
  refine fx_m (fun i (h : kH) => (nI i, h)) (fun i h2 => (∀ j, j < i → h2 146 j = nI 0) ∧ ∀ k, k ≠ 146 → h2 k = h1 k) _ 6 (by omega) ⟨fun j hj => absurd hj (by omega), fun _ _ => rfl⟩ ?_ ?_
  · intro i h2 hi ⟨hv, hk⟩ K hK
    simp (disch := omega) only [p_X8_tries_8, if_neg (nI_ge hi (show 6 < 2 ^ 31 by omega)), gd_i, nI_clamp, le_d, nI_add]
    refine hK _ ⟨fun j hj => ?_, fun k q => by rw [hs_k q]; exact hk k q⟩
    by_cases e : j = i
    · subst e; rw [hs_s]
    · rw [hs_i e]; exact hv j (by omega)
  · intro h2 ⟨hv, hk⟩ K
    have p2 : rP h2 3 m = p := by rw [← p1]; exact rP_e hm (fun j _ _ => by rw [hk _ (by omega)]) (hk _ (by omega)) (hk _ (by omega))
    have f2 : rF h2 3 n = f := by rw [← f1]; exact rF_e hn30 (fun j _ _ => by rw [hk _ (by omega)])
    obtain ⟨h3, e3, v3, k3⟩ := rq_looks (h := h2) (m := m) (n := n) (by rw [hk _ (by omega), k1 _ (by omega)]; exact c4) hm hn30 hn0 (by rw [p2]; exact hp)
    simp only [p_X8_tries_8, if_pos (nI_le (Nat.le_refl 6) (show 6 < 2 ^ 31 by omega)), bd_o e3]
    refine okp_s ⟨by rw [← f2]; exact rF_e hn30 (fun j _ _ => by rw [k3 _ (by omega)]), by rw [← p2]; exact rP_e hm (fun j _ _ => by rw [k3 _ (by omega)]) (k3 _ (by omega)) (k3 _ (by omega)), fun i hi => ?_, fun j hj => by rw [k3 _ (by omega), hk _ (by omega), j1 _ (by omega)], fun k q1 q2 q3 q4 q5 q6 q7 => by rw [k3 k q3, hk k q3, k1 k q1]⟩
    rw [v3 i hi, hv i (by omega), f2, p2]
