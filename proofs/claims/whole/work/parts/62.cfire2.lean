/-! spreading, cooling, telling -/
def madd1 (o : Nat → Int32) (c : Nat) (f : kH) : kH := hs f 0 c (f 0 c + o c)
/-- a cell's new heat, lit from 200 on -/
def mset (c : Nat) (t : Int32) (f : kH) : kH := if t < nI 200 then hs f 0 c t else hs (hs f 0 c t) 3 c (nI 1)
def mmin (t : Int32) : Int32 := if t < nI 3000 then t else nI 3000
def mcool1 (ru : Nat → Int32) (w : Int32) (c : Nat) (f : kH) : kH :=
  mset c (mmin (f 0 c - (if f 4 c = 0 then (f 0 c - nI 20) * (ru 2 + w) / nI 100 else (f 0 c - nI 20) * (ru 2 + w) / nI 100 / nI 2))) f
theorem cO_0 {h : kH} {k n : Nat} (hz : ∀ c, c < n → h k c = nI 0) : cO h k n = fun _ => 0 := by
  funext c
  unfold cO
  by_cases hc : c < n
  · rw [if_pos hc, hz c hc, nI_00]
  · rw [if_neg hc]
theorem cO_k {h h' : kH} {k n : Nat} (e : h' k = h k) : cO h' k n = cO h k n := by
  funext c
  unfold cO
  rw [e]
theorem q_spread {F R w g n : Nat} {h : kH} (hw : h R 0 = nI w) (hg : h R 1 = nI g) (hn : w * g = n) (hn30 : n ≤ 30) (hw0 : 0 < w) (hw30 : w ≤ 30) (hg30 : g ≤ 30) (hFR : R + 2 < F) : ∃ h', p_X1_spread F R h = some h' ∧ cF h' F n = itr (madd1 (itr (mfl1 (cF h F n) w n) n (fun _ => 0))) n (cF h F n) ∧ ∀ k, k ≠ F + 1 → k ≠ F + 6 → h' k = h k := by
  obtain ⟨h1, e1, v1, f1⟩ := q_fill (A := F + 6) (x := nI 0) (h := h)
  show okp (fun h' : kH => cF h' F n = itr (madd1 (itr (mfl1 (cF h F n) w n) n (fun _ => 0))) n (cF h F n) ∧ ∀ k, k ≠ F + 1 → k ≠ F + 6 → h' k = h k) _
  unfold p_X1_spread
  rw [bd_o e1]
  refine fx_m (fun i (h : kH) => (nI i, h)) (fun y h2 => cO h2 (F + 6) n = itr (mfl1 (cF h F n) w n) (w * y) (fun _ => 0) ∧ ∀ k, k ≠ F + 6 → h2 k = h k) _ g (by omega) ⟨cO_0 (fun c hc => v1 c (by omega)), f1⟩ ?_ ?_
  · intro y h2 hy ⟨hv2, hf2⟩ K hK
    dsimp only
    unfold p_X1_spread_10
    rw [hf2 R (by omega), hg, if_neg (nI_ge hy (by omega))]
    refine fx_m (fun i (h : kH) => (nI y, nI i, h)) (fun x h3 => cO h3 (F + 6) n = itr (mfl1 (cF h F n) w n) (x + w * y) (fun _ => 0) ∧ ∀ k, k ≠ F + 6 → h3 k = h k) _ w (by omega) ⟨by rw [Nat.zero_add]; exact hv2, hf2⟩ ?_ ?_
    · intro x h3 hx ⟨hv3, hf3⟩ K2 hK2
      have eR : h3 R = h R := hf3 R (by omega)
      have hwy : w * (y + 1) ≤ w * g := Nat.mul_le_mul_left w (by omega)
      rw [Nat.mul_add, Nat.mul_one] at hwy
      have hc : x + w * y < n := by omega
      have eF : cF h3 F n = cF h F n := cF_k (fun a _ => hf3 _ (by omega))
      have hmod : (x + w * y) % w = x := by rw [Nat.add_mul_mod_self_left, Nat.mod_eq_of_lt hx]
      -- below
      have down : ∀ h4 : kH, cO h4 (F + 6) n = (if x + 1 < w then mfl (cF h F n) (x + w * y) (x + w * y + 1) (itr (mfl1 (cF h F n) w n) (x + w * y) (fun _ => 0)) else itr (mfl1 (cF h F n) w n) (x + w * y) (fun _ => 0)) → (∀ k, k ≠ F + 6 → h4 k = h k) → okp (fun h' : kH => cF h' F n = itr (madd1 (itr (mfl1 (cF h F n) w n) n (fun _ => 0))) n (cF h F n) ∧ ∀ k, k ≠ F + 1 → k ≠ F + 6 → h' k = h k) (p_X1_spread_58 K K2 F R (nI y) (nI x) (nI (x + w * y)) h4) := by
        intro h4 hv4 hf4
        unfold p_X1_spread_58
        rw [hf4 R (by omega), hg, hw, nI_add, nI_add, nI_add]
        by_cases hd : y + 1 < g
        · have hwy2 : w * (y + 2) ≤ w * g := Nat.mul_le_mul_left w (by omega)
          rw [Nat.mul_add] at hwy2
          have hcw : x + w * y + w < n := by omega
          obtain ⟨h5, e5, v5, f5⟩ := q_flow (F := F) (h := h4) hc hcw hn30
          rw [if_neg (nI_ge hd (by omega)), bd_o e5]
          refine hK2 _ ⟨?_, fun k hk => by rw [f5 k hk, hf4 k hk]⟩
          rw [v5, hv4, show x + 1 + w * y = (x + w * y) + 1 by omega, itr_s, mfl1, if_pos hcw, hmod, cF_k (fun a _ => hf4 _ (by omega))]
        · have hcw : ¬ x + w * y + w < n := by
            have : w * g = w * y + w := by rw [show g = y + 1 by omega, Nat.mul_add, Nat.mul_one]
            omega
          rw [if_pos (nI_le (by omega) (by omega))]
          refine hK2 _ ⟨?_, hf4⟩
          rw [hv4, show x + 1 + w * y = (x + w * y) + 1 by omega, itr_s, mfl1, if_neg hcw, hmod]
      dsimp only
      unfold p_X1_spread_20
      rw [eR, hw, if_neg (nI_ge hx (by omega)), pk_mul, nI_add, nI_add]
      simp only [le_d]
      rw [nI_add]
      by_cases hr : x + 1 < w
      · obtain ⟨h5, e5, v5, f5⟩ := q_flow (F := F) (h := h3) hc (show x + w * y + 1 < n by omega) hn30
        rw [if_neg (nI_ge hr (by omega)), bd_o e5]
        exact down h5 (by rw [v5, hv3, eF, if_pos hr]) (fun k hk => by rw [f5 k hk, hf3 k hk])
      · rw [if_pos (nI_le (by omega) (by omega))]
        exact down h3 (by rw [if_neg hr]; exact hv3) hf3
    · intro h3 ⟨hv3, hf3⟩ K2
      dsimp only
      unfold p_X1_spread_20
      rw [hf3 R (by omega), hw, if_pos (nI_le (Nat.le_refl w) (by omega)), nI_add]
      exact hK _ ⟨by rw [hv3, Nat.mul_add, Nat.mul_one, Nat.add_comm], hf3⟩
  · intro h2 ⟨hv2, hf2⟩ K
    dsimp only
    unfold p_X1_spread_10
    rw [hf2 R (by omega), hg, if_pos (nI_le (Nat.le_refl g) (by omega))]
    rw [hn] at hv2
    refine fx_m (fun i (h : kH) => (nI i, h)) (fun i h3 => cF h3 F n = itr (madd1 (itr (mfl1 (cF h F n) w n) n (fun _ => 0))) i (cF h F n) ∧ cO h3 (F + 6) n = itr (mfl1 (cF h F n) w n) n (fun _ => 0) ∧ ∀ k, k ≠ F + 1 → k ≠ F + 6 → h3 k = h k) _ n (by omega) ⟨cF_k (fun a _ => hf2 _ (by omega)), hv2, fun k _ hk => hf2 k hk⟩ ?_ ?_
    · intro i h3 hi ⟨hv3, ho3, hf3⟩ K2 hK2
      have eR : h3 R = h R := hf3 R (by omega) (by omega)
      simp (disch := omega) only [p_X1_spread_95, p_cells, bd2_s, eR, hw, hg, pk_mul, hn, if_neg (nI_ge hi (by omega)), gd_i, le_d, nI_clamp, nI_add]
      refine hK2 _ ⟨?_, ?_, fun k k1 k2 => by rw [hs_k k1]; exact hf3 k k1 k2⟩
      · show cF (hs h3 (F + 1 + 0) i _) F n = _
        rw [cF_hs (by omega) hi, itr_s, ← hv3, madd1, cF_at (a := 0) (by omega) hi, ← ho3, cO_at hi]
      · rw [cO_k (hs_k (by omega))]; exact ho3
    · intro h3 ⟨hv3, ho3, hf3⟩ K2
      have eR : h3 R = h R := hf3 R (by omega) (by omega)
      simp only [p_X1_spread_95, p_cells, bd2_s, eR, hw, hg, pk_mul, hn, if_pos (nI_le (Nat.le_refl n) (by omega))]
      exact ⟨h3, rfl, hv3, hf3⟩
theorem q_cool {F R w g n : Nat} {x : Int32} {h : kH} (hw : h R 0 = nI w) (hg : h R 1 = nI g) (hn : w * g = n) (hn30 : n ≤ 30) (hFR : R + 2 < F) : ∃ h', p_X1_cool F R x h = some h' ∧ cF h' F n = itr (mcool1 (cR h R) x) n (cF h F n) ∧ ∀ k, k ≠ F + 1 → k ≠ F + 4 → h' k = h k := by
  unfold p_X1_cool
  refine fx_m (fun i (h : kH) => (x, nI i, h)) (fun i h1 => cF h1 F n = itr (mcool1 (cR h R) x) i (cF h F n) ∧ ∀ k, k ≠ F + 1 → k ≠ F + 4 → h1 k = h k) (fun r => ∃ h' : kH, r = some h' ∧ cF h' F n = itr (mcool1 (cR h R) x) n (cF h F n) ∧ ∀ k, k ≠ F + 1 → k ≠ F + 4 → h' k = h k) n (by omega) ⟨rfl, fun _ _ _ => rfl⟩ ?_ ?_
  · intro i h1 hi ⟨hv, hf⟩ K hK
    have eR : h1 R = h R := hf R (by omega) (by omega)
    have c0 : h1 (F + 1) i = cF h1 F n 0 i := (cF_at (a := 0) (by omega) hi).symm
    have c4 : h1 (F + 5) i = cF h1 F n 4 i := (cF_at (a := 4) (by omega) hi).symm
    have rest : ∀ t, p_X1_cool_46 K F R x (nI i) t h1 = K (x, nI (i + 1), if mmin (h1 (F + 1) i - t) < nI 200 then hs h1 (F + 1 + 0) i (mmin (h1 (F + 1) i - t)) else hs (hs h1 (F + 1 + 0) i (mmin (h1 (F + 1) i - t))) (F + 1 + 3) i (nI 1)) := by
      intro t
      simp (disch := omega) only [p_X1_cool_46, gd_i, le_d, nI_clamp, hs_s, nI_add, nar_b1]
      show (if mmin (h1 (F + 1) i - t) < nI 200 then K (x, nI (i + 1), hs h1 (F + 1 + 0) i (mmin (h1 (F + 1) i - t))) else K (x, nI (i + 1), hs (hs h1 (F + 1 + 0) i (mmin (h1 (F + 1) i - t))) (F + 1 + 3) i (nI 1))) = _
      by_cases q : mmin (h1 (F + 1) i - t) < nI 200
      · rw [if_pos q, if_pos q]
      · rw [if_neg q, if_neg q]
    have view : ∀ t, t = (if cF h1 F n 4 i = 0 then (cF h1 F n 0 i - nI 20) * (cR h R 2 + x) / nI 100 else (cF h1 F n 0 i - nI 20) * (cR h R 2 + x) / nI 100 / nI 2) → ∃ h' : kH, p_X1_cool_46 K F R x (nI i) t h1 = some h' ∧ cF h' F n = itr (mcool1 (cR h R) x) n (cF h F n) ∧ ∀ k, k ≠ F + 1 → k ≠ F + 4 → h' k = h k := by
      intro t ht
      rw [rest]
      refine hK _ ⟨?_, fun k k1 k2 => ?_⟩
      · rw [itr_s, ← hv, mcool1, ← ht, ← c0, mset]
        by_cases q : mmin (h1 (F + 1) i - t) < nI 200
        · rw [if_pos q, if_pos q, cF_hs (by omega) hi]
        · rw [if_neg q, if_neg q, cF_hs (by omega) hi, cF_hs (by omega) hi]
      · by_cases q : mmin (h1 (F + 1) i - t) < nI 200
        · rw [if_pos q, hs_k k1]; exact hf k k1 k2
        · rw [if_neg q, hs_k (by omega), hs_k k1]; exact hf k k1 k2
    have r2 : cR h R 2 = h R 4 := rfl
    simp (disch := omega) only [p_X1_cool_2, p_cells, bd2_s, eR, hw, hg, pk_mul, hn, if_neg (nI_ge hi (by omega)), gd_i, le_d, nI_clamp]
    by_cases q : h1 (F + 5) i = 0
    · rw [if_pos q]
      exact view _ (by rw [if_pos (by rw [← c4]; exact q), ← c0, r2])
    · rw [if_neg q]
      exact view _ (by rw [if_neg (by rw [← c4]; exact q), ← c0, r2])
  · intro h1 ⟨hv, hf⟩ K
    have eR : h1 R = h R := hf R (by omega) (by omega)
    simp only [p_X1_cool_2, p_cells, bd2_s, eR, hw, hg, pk_mul, hn, if_pos (nI_le (Nat.le_refl n) (by omega))]
    exact ⟨h1, rfl, hv, hf⟩
/-- a minute of the cells -/
def mfire (ru : Nat → Int32) (x : Int32) (w n : Nat) (f : kH) : kH :=
  itr (mcool1 ru x) n (itr (madd1 (itr (mfl1 (itr (mburn1 ru) n f) w n) n (fun _ => 0))) n (itr (mburn1 ru) n f))
theorem cR_k {h h' : kH} {R : Nat} (e0 : h' R = h R) (e1 : h' (R + 1) = h (R + 1)) (e2 : h' (R + 2) = h (R + 2)) : cR h' R = cR h R := by
  funext j
  unfold cR
  rw [e0, e1, e2]
theorem q_burn {F R w g n : Nat} {x : Int32} {h : kH} (hw : h R 0 = nI w) (hg : h R 1 = nI g) (hn : w * g = n) (hn30 : n ≤ 30) (hw0 : 0 < w) (hw30 : w ≤ 30) (hg30 : g ≤ 30) (hFR : R + 2 < F) (hk : ∀ c, c < n → bt (h (F + 3) c) 0 2) : ∃ h', p_X1_burn F R x h = some h' ∧ cF h' F n = mfire (cR h R) x w n (cF h F n) ∧ ∀ k, k ≠ F + 1 → k ≠ F + 2 → k ≠ F + 4 → k ≠ F + 6 → h' k = h k := by
  obtain ⟨h1, e1, v1, f1⟩ := q_burnFuel hw hg hn hn30 hFR hk
  have a0 : h1 R = h R := f1 R (by omega) (by omega)
  obtain ⟨h2, e2, v2, f2⟩ := q_spread (F := F) (R := R) (h := h1) (by rw [a0]; exact hw) (by rw [a0]; exact hg) hn hn30 hw0 hw30 hg30 hFR
  have b0 : h2 R = h R := by rw [f2 R (by omega) (by omega), a0]
  obtain ⟨h3, e3, v3, f3⟩ := q_cool (F := F) (R := R) (x := x) (h := h2) (by rw [b0]; exact hw) (by rw [b0]; exact hg) hn hn30 hFR
  refine ⟨h3, by rw [p_X1_burn, bd_o e1, bd_o e2, bd_o e3], ?_, fun k k1 k2 k4 k6 => by rw [f3 k k1 k4, f2 k k1 k6, f1 k k1 k2]⟩
  rw [v3, v2, v1, cR_k b0 (by rw [f2 _ (by omega) (by omega), f1 _ (by omega) (by omega)]) (by rw [f2 _ (by omega) (by omega), f1 _ (by omega) (by omega)])]
  rfl
