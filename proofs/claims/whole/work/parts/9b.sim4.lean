/-! spots, keeping, going back -/
section
variable {w g n m : Nat} {ru : Nat → Int32} {f p f' p' : kH} {go go' : Int32} {h h1 h2 h' : kH}
theorem q_spotL {S : Nat} {x : Int32} (hS : h 0 11 = nI S) (hS6 : S ≤ 6) : fx (fun K12 s => p_X7_spot_12 K12 s.1 s.2.1 s.2.2) FU (x, (nI 0), h) = if anyN (fun j => decide (h 131 j = x)) S = true then some (-2, h) else if S < 6 then some (nI (S + 1), hs (hs h 131 S x) 0 11 (nI (S + 1))) else some (-3, h) := by
  refine fx_m (fun i (h : kH) => (x, nI i, h)) (fun i h1 => h1 = h ∧ anyN (fun j => decide (h 131 j = x)) i = false) (fun r => r = if anyN (fun j => decide (h 131 j = x)) S = true then some (-2, h) else if S < 6 then some (nI (S + 1), hs (hs h 131 S x) 0 11 (nI (S + 1))) else some (-3, h)) S (by omega) ⟨rfl, rfl⟩ ?_ ?_
  · rintro i h1 hi ⟨rfl, hno⟩ K hK
    simp (disch := omega) only [p_X7_spot_12, hS, if_neg (nI_ge hi (show S < 2 ^ 31 by omega)), gd_i, nI_clamp, nI_add]
    by_cases z : h1 131 i = x
    · rw [if_pos z, if_pos (anyN_of (f := fun j => decide (h1 131 j = x)) (decide_eq_true z) hi)]
    · rw [if_neg z]
      exact hK h1 ⟨rfl, by rw [anyN, hno]; simp [z]⟩
  · rintro h1 ⟨rfl, hno⟩ K
    simp only [p_X7_spot_12, hS, if_pos (nI_le (Nat.le_refl S) (show S < 2 ^ 31 by omega)), hno]
    rw [if_neg (show ¬ false = true by decide)]
    by_cases z : S < 6
    · rw [if_pos z, if_pos (nI_lt z (by omega)), gd_i (by omega) (by omega), nI_clamp (by omega), le_d, le_d, hs_s, hs_k (by omega), hS, nI_add]
    · rw [if_neg z, if_neg (nI_nlt (by omega) (by omega))]
theorem rq_spotL {S : Nat} {x : Int32} (hS : h 135 11 = nI S) (hS6 : S ≤ 6) : fx (fun K12 s => p_X8_spot_12 K12 s.1 s.2.1 s.2.2) FU (x, (nI 0), h) = if anyN (fun j => decide (h 144 j = x)) S = true then some (-2, h) else if S < 6 then some (nI (S + 1), hs (hs h 144 S x) 135 11 (nI (S + 1))) else some (-3, h) := by
  refine fx_m (fun i (h : kH) => (x, nI i, h)) (fun i h1 => h1 = h ∧ anyN (fun j => decide (h 144 j = x)) i = false) (fun r => r = if anyN (fun j => decide (h 144 j = x)) S = true then some (-2, h) else if S < 6 then some (nI (S + 1), hs (hs h 144 S x) 135 11 (nI (S + 1))) else some (-3, h)) S (by omega) ⟨rfl, rfl⟩ ?_ ?_
  · rintro i h1 hi ⟨rfl, hno⟩ K hK
    simp (disch := omega) only [p_X8_spot_12, hS, if_neg (nI_ge hi (show S < 2 ^ 31 by omega)), gd_i, nI_clamp, nI_add]
    by_cases z : h1 144 i = x
    · rw [if_pos z, if_pos (anyN_of (f := fun j => decide (h1 144 j = x)) (decide_eq_true z) hi)]
    · rw [if_neg z]
      exact hK h1 ⟨rfl, by rw [anyN, hno]; simp [z]⟩
  · rintro h1 ⟨rfl, hno⟩ K
    simp only [p_X8_spot_12, hS, if_pos (nI_le (Nat.le_refl S) (show S < 2 ^ 31 by omega)), hno]
    rw [if_neg (show ¬ false = true by decide)]
    by_cases z : S < 6
    · rw [if_pos z, if_neg (fun e => by have := nI_inj (by omega) (by omega) e; omega), gd_i (by omega) (by omega), nI_clamp (by omega), le_d, le_d, hs_s, hs_k (by omega), hS, nI_add]
    · have : S = 6 := by omega
      subst this
      rw [if_neg z, if_pos rfl]
theorem op_spot (c : CI h w g n m ru f p go) (d : RI h w g n m ru f p go) (ds : Dst m p) (rs : Rs h w g n m ru) (x1 : Int32) : Oop (p_X7_spot x1) (p_X8_spot x1) h := by
  have hn30 := n_le c.1.2.1 c.1.1.2.2.1.2 c.1.1.2.2.2.1.2
  have hC := q_isCell (x := x1) (h := h) (by rw [c.2.1]; exact c.1.1) c.1.2.1
  have rC : ∀ h1 : kH, h1 137 = h 137 → p_X8_isCell x1 h1 = some (b1 (okI x1 0 ((n - 1 : Nat) : Int)), h1) := fun h1 e => rq_isCell (by rw [rR_e (h := h) e, d.2.1]; exact d.1.1) d.1.2.1
  have rs0 := rs
  obtain ⟨⟨S, a1, a2, a3, a4, a5, a6⟩, ⟨kc, b1', b2, b3, b4⟩, ⟨L, c1, c2, c3, c4⟩⟩ := rs
  have bad : ∀ v : Int32, p_X7_spot x1 h = some (v, h) → p_X8_spot x1 h = some (v, h) → Oop (p_X7_spot x1) (p_X8_spot x1) h := fun v a b => ⟨v, h, h, a, b, w, g, n, m, ru, f, p, go, c, d, ds, rs0⟩
  cases q1 : okI x1 0 ((n - 1 : Nat) : Int)
  · exact bad (-1) (by unfold p_X7_spot; rw [hC]; exact bad2 q1) (by unfold p_X8_spot; rw [rC h rfl]; exact bad2 q1)
  · have ec : p_X7_spot x1 h = if anyN (fun j => decide (h 131 j = x1)) S = true then some (-2, h) else if S < 6 then some (nI (S + 1), hs (hs h 131 S x1) 0 11 (nI (S + 1))) else some (-3, h) := by
      unfold p_X7_spot; rw [hC, ok2 q1, q_spotL a1 a3]
    have er : ∀ h1 : kH, (∀ k, 131 < k → h1 k = h k) → p_X8_spot x1 h1 = if anyN (fun j => decide (h 131 j = x1)) S = true then some (-2, h1) else if S < 6 then some (nI (S + 1), hs (hs h1 144 S x1) 135 11 (nI (S + 1))) else some (-3, h1) := by
      intro h1 k
      unfold p_X8_spot; rw [rC h1 (k _ (by omega)), ok2 q1, rq_spotL (by rw [k _ (by omega)]; exact a2) a3]
      rw [anyN_congr (f := fun j => decide (h1 144 j = x1)) (g := fun j => decide (h 131 j = x1)) (fun j hj => by rw [k _ (by omega), a4 j hj])]
    cases qa : anyN (fun j => decide (h 131 j = x1)) S
    · rw [qa] at ec
      rw [if_neg (show ¬ false = true by decide)] at ec
      by_cases z : S < 6
      · rw [if_pos z] at ec
        have e2 := er (hs (hs h 131 S x1) 0 11 (nI (S + 1))) (fun k hk => by rw [hs_k (by omega), hs_k (by omega)])
        rw [qa, if_neg (show ¬ false = true by decide), if_pos z] at e2
        refine ⟨_, _, _, ec, e2, Sim.sp c d ds (fun k q1 _ q3 q4 _ q6 => by rw [hs_k q4, hs_k q6, hs_k q1, hs_k q3]) ?_⟩
        have E131 : ∀ j, j ≠ S → hs (hs (hs (hs h 131 S x1) 0 11 (nI (S + 1))) 144 S x1) 135 11 (nI (S + 1)) 131 j = h 131 j := fun j hj => by rw [hs_k (by omega), hs_k (by omega), hs_k (by omega), hs_i hj]
        have E131' : hs (hs (hs (hs h 131 S x1) 0 11 (nI (S + 1))) 144 S x1) 135 11 (nI (S + 1)) 131 S = x1 := by rw [hs_k (by omega), hs_k (by omega), hs_k (by omega), hs_s]
        have E144 : ∀ j, j ≠ S → hs (hs (hs (hs h 131 S x1) 0 11 (nI (S + 1))) 144 S x1) 135 11 (nI (S + 1)) 144 j = h 144 j := fun j hj => by rw [hs_k (by omega), hs_i hj, hs_k (by omega), hs_k (by omega)]
        have E144' : hs (hs (hs (hs h 131 S x1) 0 11 (nI (S + 1))) 144 S x1) 135 11 (nI (S + 1)) 144 S = x1 := by rw [hs_k (by omega), hs_s]
        have no : ∀ j, j < S → ¬ h 131 j = x1 := fun j hj e => by
          have := anyN_f (f := fun j => decide (h 131 j = x1)) qa hj
          simp [e] at this
        refine ⟨⟨S + 1, ?_, hs_s _ _ _ _, by omega, fun j hj => ?_, fun j hj => ?_, fun i j hi hj z => ?_⟩, ⟨kc, ?_, ?_, b3, fun t ht => (b4 t ht).k (by omega) (fun k z => by rw [hs_k (by omega), hs_k (by omega), hs_k (by omega), hs_k (by omega)]) (fun j _ _ => by rw [hs_k (by omega), hs_k (by omega), hs_k (by omega), hs_k (by omega)])⟩, ⟨L, ?_, ?_, c3, fun i hi => ?_⟩⟩
        · rw [hs_k (by omega), hs_k (by omega), hs_s]
        · by_cases e : j = S
          · subst e; rw [E144', E131']
          · rw [E144 j e, E131 j e]; exact a4 j (by omega)
        · by_cases e : j = S
          · subst e; rw [E131']; exact okI_n (by omega) q1
          · rw [E131 j e]; exact a5 j (by omega)
        · by_cases e1 : i = S
          · by_cases e2 : j = S
            · omega
            · rw [e1, E131', E131 j e2] at z
              exact absurd z.symm (no j (by omega))
          · by_cases e2 : j = S
            · rw [e2, E131', E131 i e1] at z
              exact absurd z (no i (by omega))
            · rw [E131 i e1, E131 j e2] at z
              exact a6 i j (by omega) (by omega) z
        · rw [hs_k (by omega), hs_k (by omega), hs_i (by omega), hs_k (by omega)]; exact b1'
        · rw [hs_i (by omega), hs_k (by omega), hs_k (by omega), hs_k (by omega)]; exact b2
        · rw [hs_k (by omega), hs_k (by omega), hs_i (by omega), hs_k (by omega)]; exact c1
        · rw [hs_i (by omega), hs_k (by omega), hs_k (by omega), hs_k (by omega)]; exact c2
        · rw [hs_k (by omega), hs_k (by omega), hs_k (by omega), hs_k (by omega), hs_k (by omega), hs_k (by omega), hs_k (by omega), hs_k (by omega)]; exact c4 i hi
      · rw [if_neg z] at ec
        exact bad (-3) ec (by rw [er h (fun _ _ => rfl), qa, if_neg (show ¬ false = true by decide), if_neg z])
    · exact bad (-2) (by rw [ec, qa, if_pos rfl]) (by rw [er h (fun _ _ => rfl), qa, if_pos rfl])
theorem q_keptAt {t : Nat} (ht : t < 2) : p_X7_keptAt (nI t) h = some (91 + 20 * t, h) := by
  unfold p_X7_keptAt
  by_cases e : t = 0
  · subst e; rw [if_pos nI_00]
  · have : t = 1 := by omega
    subst this; rw [if_neg nI_10]
theorem RI.k1 (c : RI h w g n m ru f p go) (k : ∀ k, (137 ≤ k ∧ k ≤ 140) → h' k = h k) (k1 : ∀ j, j < 200 → h' 143 j = h 143 j) : RI h' w g n m ru f p go := by
  obtain ⟨s, c1, c2, c3, c4, c5⟩ := c
  have hn30 := n_le s.2.1 s.1.2.2.1.2 s.1.2.2.2.1.2
  exact ⟨s, by rw [← c1]; exact rR_e (k _ (by omega)), by rw [← c2]; exact rF_e hn30 (fun j a b => k1 j (by omega)), by rw [← c3]; exact rP_e s.2.2.1 (fun j a b => k1 j (by omega)) (k _ (by omega)) (k _ (by omega)), by rw [k _ (by omega)]; exact c4, by rw [k1 _ (by omega)]; exact c5⟩
theorem KS.k1 {t : Nat} (c : KS h t w g n m ru) (k : ∀ k, ((91 + 20 * t ≤ k ∧ k ≤ 110 + 20 * t) ∨ k = 139 ∨ k = 140) → h' k = h k) (j : ∀ j, 200 * (t + 1) ≤ j → j < 200 * (t + 1) + 200 → h' 143 j = h 143 j) : KS h' t w g n m ru := by
  obtain ⟨f, p, go, s, a1, a2, a3, a4, b1, b2, b3, d⟩ := c
  have hn30 := n_le s.2.1 s.1.2.2.1.2 s.1.2.2.2.1.2
  exact ⟨f, p, go, s, by rw [← a1]; exact cF_k (fun a _ => k _ (by omega)), by rw [← a2]; exact cP_k (fun q _ _ => k _ (by omega)), by rw [k _ (by omega)]; exact a3, by rw [k _ (by omega)]; exact a4, by rw [← b1]; exact rF_e hn30 (fun q _ _ => j q (by omega) (by omega)), by rw [← b2]; exact rP_e s.2.2.1 (fun q _ _ => j q (by omega) (by omega)) (k _ (by omega)) (k _ (by omega)), by rw [j _ (by omega) (by omega)]; exact b3, d⟩
theorem op_keep (c : CI h w g n m ru f p go) (d : RI h w g n m ru f p go) (ds : Dst m p) (rs : Rs h w g n m ru) : Oop p_X7_keep p_X8_keep h := by
  have hm := c.1.2.2.1
  have hn30 := n_le c.1.2.1 c.1.1.2.2.1.2 c.1.1.2.2.2.1.2
  have rs0 := rs
  obtain ⟨⟨S, a1, a2, a3, a4, a5, a6⟩, ⟨kc, b1', b2, b3, b4⟩, ⟨L, c1, c2, c3, c4⟩⟩ := rs
  by_cases z : kc < 2
  · obtain ⟨h1, e1, f1, p1, n1, g1, k1⟩ := q_heapCopy (B := 91 + 20 * kc) (B2 := 31) (n := n) (m := m) (H := 3000) (U := 999) (h := h) (by omega) hn30 hm (by rw [show 31 + 1 = 32 from rfl, c.2.2.1]; exact c.1.2.2.2.1) (by rw [show 31 + 8 = 39 from rfl, c.2.2.2.1]; exact c.1.2.2.2.2)
    have k1' : ∀ k, (k < 91 ∨ 130 < k) → h1 k = h k := fun k hk => k1 k (by omega)
    obtain ⟨h3, e3, v3, j3, k3⟩ := rq_copies (a := 0) (b := kc + 1) (h := hs (hs h1 0 9 (nI (kc + 1))) 135 10 (nI (kc + 1))) (by omega) (by omega) (by omega)
    have k3' : ∀ k, k ≠ 143 → k ≠ 0 → k ≠ 135 → h3 k = h1 k := fun k q1 q2 q3 => by rw [k3 k q1, hs_k q3, hs_k q2]
    have k3'' : ∀ k, (k < 91 ∨ 130 < k) → k ≠ 143 → k ≠ 0 → k ≠ 135 → h3 k = h k := fun k q0 q1 q2 q3 => by rw [k3' k q1 q2 q3, k1' k q0]
    have j0 : ∀ j, hs (hs h1 0 9 (nI (kc + 1))) 135 10 (nI (kc + 1)) 143 j = h 143 j := fun j => by rw [hs_k (by omega), hs_k (by omega), k1' _ (by omega)]
    have h0 : ∀ j, j ≠ 9 → h3 0 j = h 0 j := fun j hj => by rw [k3 0 (by omega), hs_k (by omega), hs_i hj, k1' 0 (by omega)]
    have h135 : ∀ j, j ≠ 10 → h3 135 j = h 135 j := fun j hj => by rw [k3 135 (by omega), hs_i hj, hs_k (by omega), k1' 135 (by omega)]
    have jj : ∀ j, (j < 200 * (kc + 1) ∨ 200 * (kc + 1) + 200 ≤ j) → h3 143 j = h 143 j := fun j hj => by rw [j3 j hj, j0]
    have dz : RI h3 w g n m ru f p go := d.k1 (fun k q => k3'' k (by omega) (by omega) (by omega) (by omega)) (fun j hj => jj j (by omega))
    have cz : CI h3 w g n m ru f p go := c.k (fun k q => k3'' k (by omega) (by omega) (by omega) (by omega))
    have vv : ∀ k, k < 200 → h3 143 (200 * (kc + 1) + k) = h3 143 (200 * 0 + k) := fun k hk => by rw [v3 k hk, j0, jj _ (by omega)]
    refine ⟨nI (kc + 1), hs h1 0 9 (nI (kc + 1)), h3, ?_, ?_, w, g, n, m, ru, f, p, go, cz, dz, ds, ⟨S, ?_, ?_, a3, fun j hj => ?_, fun j hj => ?_, fun i j hi hj y => ?_⟩, ⟨kc + 1, ?_, ?_, by omega, fun t ht => ?_⟩, ⟨L, ?_, ?_, c3, fun i hi => ?_⟩⟩
    · unfold p_X7_keep
      rw [b1', if_pos (nI_lt z (by omega)), q_keptAt z, bd2_s, bd_o e1, le_d, hs_s, k1' 0 (by omega), b1', nI_add]
    · unfold p_X8_keep
      rw [hs_k (by omega), k1' 135 (by omega), b2, if_neg (fun e => by have := nI_inj (by omega) (by omega) e; omega), le_d, nI_add, hs_s, bd_o e3, k3 135 (by omega), hs_s]
    · rw [h0 _ (by omega)]; exact a1
    · rw [h135 _ (by omega)]; exact a2
    · rw [k3'' 144 (by omega) (by omega) (by omega) (by omega), k3'' 131 (by omega) (by omega) (by omega) (by omega)]; exact a4 j hj
    · rw [k3'' 131 (by omega) (by omega) (by omega) (by omega)]; exact a5 j hj
    · rw [k3'' 131 (by omega) (by omega) (by omega) (by omega)] at y; exact a6 i j hi hj y
    · rw [k3 0 (by omega), hs_k (by omega), hs_s]
    · rw [k3 135 (by omega), hs_s]
    · by_cases e : t = kc
      · subst e
        refine ⟨f, p, go, c.1, ?_, ?_, ?_, ?_, ?_, ?_, ?_, ds⟩
        · rw [cF_k (h := h1) (fun a _ => k3' _ (by omega) (by omega) (by omega)), show 92 + 20 * t = 91 + 20 * t + 1 by omega, f1]; exact c.2.2.1
        · rw [cP_k (h := h1) (fun k _ _ => k3' _ (by omega) (by omega) (by omega)), show 99 + 20 * t = 91 + 20 * t + 8 by omega, p1]; exact c.2.2.2.1
        · rw [k3' _ (by omega) (by omega) (by omega), show 99 + 20 * t = 91 + 20 * t + 8 by omega, n1]; exact c.2.2.2.2.1
        · rw [k3' _ (by omega) (by omega) (by omega), g1]; exact c.2.2.2.2.2
        · rw [rF_cp hn30 vv]; exact dz.2.2.1
        · rw [rP_cp hm vv rfl rfl]; exact dz.2.2.2.1
        · rw [vv 198 (by omega)]; exact dz.2.2.2.2.2
      · exact (b4 t (by omega)).k1 (fun k q => by rw [k3' k (by omega) (by omega) (by omega), k1 k (by omega)]) (fun j q1 q2 => jj j (by omega))
    · rw [h0 _ (by omega)]; exact c1
    · rw [h135 _ (by omega)]; exact c2
    · rw [k3'' 136 (by omega) (by omega) (by omega) (by omega), k3'' 1 (by omega) (by omega) (by omega) (by omega)]; exact c4 i hi
  · have e2 : kc = 2 := by omega
    subst e2
    refine ⟨-3, h, h, ?_, ?_, w, g, n, m, ru, f, p, go, c, d, ds, rs0⟩
    · unfold p_X7_keep; rw [b1', if_neg (nI_nlt (Nat.le_refl 2) (by omega))]
    · unfold p_X8_keep; rw [b2, if_pos rfl]
theorem op_back (c : CI h w g n m ru f p go) (d : RI h w g n m ru f p go) (ds : Dst m p) (rs : Rs h w g n m ru) : Oop p_X7_back p_X8_back h := by
  have hm := c.1.2.2.1
  have hn30 := n_le c.1.2.1 c.1.1.2.2.1.2 c.1.1.2.2.2.1.2
  have rs0 := rs
  obtain ⟨⟨S, a1, a2, a3, a4, a5, a6⟩, ⟨kc, b1', b2, b3, b4⟩, ⟨L, c1, c2, c3, c4⟩⟩ := rs
  by_cases z : kc = 0
  · subst z
    refine ⟨-2, h, h, ?_, ?_, w, g, n, m, ru, f, p, go, c, d, ds, rs0⟩
    · unfold p_X7_back; rw [b1', if_neg (nI_ge (show 0 < 1 by omega) (by omega))]
    · unfold p_X8_back; rw [b2, if_pos nI_00]
  · obtain ⟨t, rfl⟩ : ∃ t, kc = t + 1 := ⟨kc - 1, by omega⟩
    obtain ⟨f', p', go', s', x1, x2, x3, x4, y1, y2, y3, ds'⟩ := b4 t (by omega)
    obtain ⟨h1, e1, f1, p1, n1, g1, k1⟩ := q_heapCopy (B := 31) (B2 := 91 + 20 * t) (n := n) (m := m) (H := 3000) (U := 999) (h := hs h 0 9 (nI t)) (by omega) hn30 hm (by rw [cF_k (h := h) (fun a _ => hs_k (by omega)), show 91 + 20 * t + 1 = 92 + 20 * t by omega, x1]; exact s'.2.2.2.1) (by rw [cP_k (h := h) (fun k _ _ => hs_k (by omega)), show 91 + 20 * t + 8 = 99 + 20 * t by omega, x2]; exact s'.2.2.2.2)
    have k1' : ∀ k, (k < 31 ∨ 50 < k) → k ≠ 0 → h1 k = h k := fun k q1 q2 => by rw [k1 k (by omega), hs_k q2]
    have f1' : cF h1 32 n = f' := by rw [← x1]; exact f1.trans (by rw [cF_k (h := h) (fun a _ => hs_k (by omega)), show 91 + 20 * t + 1 = 92 + 20 * t by omega])
    have p1' : cP h1 39 m = p' := by rw [← x2]; exact p1.trans (by rw [cP_k (h := h) (fun k _ _ => hs_k (by omega)), show 91 + 20 * t + 8 = 99 + 20 * t by omega])
    have n1' : h1 39 0 = nI m := by rw [← x3]; exact n1.trans (by rw [hs_k (by omega), show 91 + 20 * t + 8 = 99 + 20 * t by omega])
    have g1' : h1 31 2 = go' := by rw [← x4]; exact g1.trans (by rw [hs_k (by omega)])
    obtain ⟨h3, e3, v3, j3, k3⟩ := rq_copies (a := t + 1) (b := 0) (h := h1) (by omega) (by omega) (by omega)
    have k143 : h1 143 = h 143 := k1' 143 (by omega) (by omega)
    have kk : ∀ k, (k < 31 ∨ 50 < k) → k ≠ 0 → k ≠ 143 → k ≠ 135 → hs h3 135 10 (nI t) k = h k := fun k q1 q2 q3 q4 => by rw [hs_k q4, k3 k q3, k1' k q1 q2]
    have kc1 : ∀ k, k ≠ 143 → k ≠ 135 → hs h3 135 10 (nI t) k = h1 k := fun k q3 q4 => by rw [hs_k q4, k3 k q3]
    have j4 : ∀ j, 200 ≤ j → hs h3 135 10 (nI t) 143 j = h 143 j := fun j hj => by rw [hs_k (by omega), j3 j (by omega), k143]
    have j5 : ∀ k, k < 200 → hs h3 135 10 (nI t) 143 (200 * 0 + k) = h 143 (200 * (t + 1) + k) := fun k hk => by rw [hs_k (by omega), v3 k hk, k143]
    have h135 : ∀ j, j ≠ 10 → hs h3 135 10 (nI t) 135 j = h 135 j := fun j hj => by rw [hs_i hj, k3 135 (by omega), k1' 135 (by omega) (by omega)]
    have h0 : ∀ j, j ≠ 9 → hs h3 135 10 (nI t) 0 j = h 0 j := fun j hj => by rw [kc1 0 (by omega) (by omega), k1 0 (by omega), hs_i hj]
    have h135' : h1 135 10 = nI (t + 1) := by rw [k1' 135 (by omega) (by omega)]; exact b2
    have sub1 : nI (t + 1) - nI 1 = nI t := by rw [pk_sub (by omega)]; rfl
    refine ⟨nI t, h1, hs h3 135 10 (nI t), ?_, ?_, w, g, n, m, ru, f', p', go', ⟨s', ?_, ?_, ?_, ?_, ?_⟩, ⟨s', ?_, ?_, ?_, ?_, ?_⟩, ds', ⟨S, ?_, ?_, a3, fun j hj => ?_, fun j hj => ?_, fun i j hi hj y => ?_⟩, ⟨t, ?_, hs_s _ _ _ _, by omega, fun u hu => (b4 u (by omega)).k1 (fun k q => kk k (by omega) (by omega) (by omega) (by omega)) (fun j q1 q2 => j4 j (by omega))⟩, ⟨L, ?_, ?_, c3, fun i hi => ?_⟩⟩
    · unfold p_X7_back
      rw [b1', if_pos (nI_le (show 1 ≤ t + 1 by omega) (by omega)), le_d, sub1, hs_s, q_keptAt (by omega), bd2_s, bd_o e1, k1 0 (by omega), hs_s]
    · unfold p_X8_back
      rw [h135', if_neg (fun e => by have := (nI_eq0 (by omega)).mp e; omega), bd_o e3, le_d, k3 135 (by omega), h135', sub1, hs_s]
    · rw [← c.2.1]; exact cR_k (kk _ (by omega) (by omega) (by omega) (by omega)) (kk _ (by omega) (by omega) (by omega) (by omega)) (kk _ (by omega) (by omega) (by omega) (by omega))
    · rw [← f1']; exact cF_k (fun a _ => kc1 _ (by omega) (by omega))
    · rw [← p1']; exact cP_k (fun k _ _ => kc1 _ (by omega) (by omega))
    · rw [kc1 _ (by omega) (by omega)]; exact n1'
    · rw [kc1 _ (by omega) (by omega)]; exact g1'
    · rw [← d.2.1]; exact rR_e (kk _ (by omega) (by omega) (by omega) (by omega))
    · rw [← y1]; exact rF_cp hn30 j5
    · rw [← y2]; exact rP_cp hm j5 (kk _ (by omega) (by omega) (by omega) (by omega)) (kk _ (by omega) (by omega) (by omega) (by omega))
    · rw [kk _ (by omega) (by omega) (by omega) (by omega)]; exact d.2.2.2.2.1
    · rw [← y3]; exact j5 198 (by omega)
    · rw [h0 _ (by omega)]; exact a1
    · rw [h135 _ (by omega)]; exact a2
    · rw [kk 144 (by omega) (by omega) (by omega) (by omega), kk 131 (by omega) (by omega) (by omega) (by omega)]; exact a4 j hj
    · rw [kk 131 (by omega) (by omega) (by omega) (by omega)]; exact a5 j hj
    · rw [kk 131 (by omega) (by omega) (by omega) (by omega)] at y; exact a6 i j hi hj y
    · rw [kc1 0 (by omega) (by omega), k1 0 (by omega), hs_s]
    · rw [h0 _ (by omega)]; exact c1
    · rw [h135 _ (by omega)]; exact c2
    · rw [kk 136 (by omega) (by omega) (by omega) (by omega), kk 1 (by omega) (by omega) (by omega) (by omega)]; exact c4 i hi
end
