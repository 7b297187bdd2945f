/-! what the class and the reference have in common between two calls -/
def Dst (m : Nat) (p : kH) : Prop := ∀ i j, i < m → j < m → p 0 i = p 0 j → i = j
/-- a kept heap, on both sides -/
def KS (h : kH) (t w g n m : Nat) (ru : Nat → Int32) : Prop := ∃ f p go, WfS w g n m ru f p ∧ cF h (92 + 20 * t) n = f ∧ cP h (99 + 20 * t) m = p ∧ h (99 + 20 * t) 0 = nI m ∧ h (91 + 20 * t) 2 = go ∧ rF h (t + 1) n = f ∧ rP h (t + 1) m = p ∧ h 143 (200 * (t + 1) + 198) = go ∧ Dst m p
def Rs (h : kH) (w g n m : Nat) (ru : Nat → Int32) : Prop :=
  (∃ S, h 0 11 = nI S ∧ h 135 11 = nI S ∧ S ≤ 6 ∧ (∀ j, j < S → h 144 j = h 131 j) ∧ (∀ j, j < S → bt (h 131 j) 0 (n - 1)) ∧ ∀ i j, i < S → j < S → h 131 i = h 131 j → i = j)
  ∧ (∃ kc, h 0 9 = nI kc ∧ h 135 10 = nI kc ∧ kc ≤ 2 ∧ ∀ t, t < kc → KS h t w g n m ru)
  ∧ (∃ L, h 0 1 = nI L ∧ h 135 0 = nI L ∧ L ≤ 500 ∧ ∀ i, i < L → h 136 i = h 1 i)
def Sim (h : kH) : Prop := ∃ w g n m ru f p go, CI h w g n m ru f p go ∧ RI h w g n m ru f p go ∧ Dst m p ∧ Rs h w g n m ru
def Oop (P R : kH → Option (Int32 × kH)) (h : kH) : Prop := ∃ r h1 h2, P h = some (r, h1) ∧ R h1 = some (r, h2) ∧ Sim h2
section
variable {w g n m : Nat} {ru : Nat → Int32} {f p f' p' : kH} {go go' : Int32} {h h1 h2 h' : kH}
theorem KS.k {t : Nat} (c : KS h t w g n m ru) (ht : t < 2) (k : ∀ k, ((91 ≤ k ∧ k ≤ 130) ∨ k = 139 ∨ k = 140) → h' k = h k) (j : ∀ j, 200 ≤ j → j < 600 → h' 143 j = h 143 j) : KS h' t w g n m ru := by
  obtain ⟨f, p, go, s, a1, a2, a3, a4, b1, b2, b3, d⟩ := c
  have hn30 := n_le s.2.1 s.1.2.2.1.2 s.1.2.2.2.1.2
  exact ⟨f, p, go, s, by rw [← a1]; exact cF_k (fun a _ => k _ (by omega)), by rw [← a2]; exact cP_k (fun q _ _ => k _ (by omega)), by rw [k _ (by omega)]; exact a3, by rw [k _ (by omega)]; exact a4, by rw [← b1]; exact rF_e hn30 (fun q _ _ => j q (by omega) (by omega)), by rw [← b2]; exact rP_e s.2.2.1 (fun q _ _ => j q (by omega) (by omega)) (k _ (by omega)) (k _ (by omega)), by rw [j _ (by omega) (by omega)]; exact b3, d⟩
theorem Rs.k (c : Rs h w g n m ru) (k : ∀ k, (k = 0 ∨ k = 1 ∨ (91 ≤ k ∧ k ≤ 131) ∨ k = 135 ∨ k = 136 ∨ k = 139 ∨ k = 140 ∨ k = 144) → h' k = h k) (j : ∀ j, 200 ≤ j → j < 600 → h' 143 j = h 143 j) : Rs h' w g n m ru := by
  obtain ⟨⟨S, a1, a2, a3, a4, a5, a6⟩, ⟨kc, b1, b2, b3, b4⟩, ⟨L, c1, c2, c3, c4⟩⟩ := c
  have e0 := k 0 (by omega)
  have e1 := k 1 (by omega)
  have e131 := k 131 (by omega)
  have e135 := k 135 (by omega)
  have e136 := k 136 (by omega)
  have e144 := k 144 (by omega)
  refine ⟨⟨S, by rw [e0]; exact a1, by rw [e135]; exact a2, a3, fun j hj => by rw [e144, e131]; exact a4 j hj, fun j hj => by rw [e131]; exact a5 j hj, fun i j hi hj z => a6 i j hi hj (by rw [e131] at z; exact z)⟩, ⟨kc, by rw [e0]; exact b1, by rw [e135]; exact b2, b3, fun t ht => (b4 t ht).k (by omega) (fun q z => k q (by omega)) j⟩, ⟨L, by rw [e0]; exact c1, by rw [e135]; exact c2, c3, fun i hi => by rw [e136, e1]; exact c4 i hi⟩⟩
/-- a question leaves it -/
theorem Sim.q {P R : kH → Option (Int32 × kH)} (c : CI h w g n m ru f p go) (d : RI h w g n m ru f p go) (ds : Dst m p) (rs : Rs h w g n m ru) (q : Qop P R h) : Oop P R h := by
  obtain ⟨r, h1, h2, e1, e2, k1, k2⟩ := q
  refine ⟨r, h1, h2, e1, e2, w, g, n, m, ru, f, p, go, (c.kp k1).rk k2, (d.kp k1).k k2, ds, rs.k (fun k z => ?_) (fun j a b => ?_)⟩
  · rw [k2.2 k (by omega) (by omega) (by omega) (by omega) (by omega) (by omega) (by omega), k1 k (by omega) (by omega) (by omega)]
  · rw [k2.1 j b, k1 143 (by omega) (by omega) (by omega)]
/-- a change of the heap's state -/
theorem Sim.st (c : CI h w g n m ru f p go) (d : RI h w g n m ru f p go) (rs : Rs h w g n m ru) (s : WfS w g n m ru f' p') (ds : Dst m p') (k1 : ∀ k, (k < 31 ∨ 90 < k) → k ≠ 133 → k ≠ 134 → h1 k = h k) (a1 : cF h1 32 n = f') (a2 : cP h1 39 m = p') (a3 : h1 39 0 = nI m) (a4 : h1 31 2 = go') (j2 : ∀ j, 200 ≤ j → j < 600 → h2 143 j = h1 143 j) (k2 : ∀ k, k ≠ 143 → k ≠ 145 → k ≠ 146 → k ≠ 147 → h2 k = h1 k) (b1 : rF h2 0 n = f') (b2 : rP h2 0 m = p') (b3 : h2 143 198 = go') : Sim h2 := by
  have kk : ∀ k, (k < 31 ∨ 90 < k) → k ≠ 133 → k ≠ 134 → k ≠ 143 → k ≠ 145 → k ≠ 146 → k ≠ 147 → h2 k = h k := fun k q1 q2 q3 q4 q5 q6 q7 => by rw [k2 k q4 q5 q6 q7, k1 k q1 q2 q3]
  have k2' : ∀ k, k < 143 → h2 k = h1 k := fun k q => k2 k (by omega) (by omega) (by omega) (by omega)
  refine ⟨w, g, n, m, ru, f', p', go', ⟨s, ?_, ?_, ?_, ?_, ?_⟩, ⟨s, ?_, b1, b2, ?_, b3⟩, ds, rs.k (fun k z => kk k (by omega) (by omega) (by omega) (by omega) (by omega) (by omega) (by omega)) (fun j a b => by rw [j2 j a b, k1 143 (by omega) (by omega) (by omega)])⟩
  · rw [← c.2.1]; exact cR_k (kk _ (by omega) (by omega) (by omega) (by omega) (by omega) (by omega) (by omega)) (kk _ (by omega) (by omega) (by omega) (by omega) (by omega) (by omega) (by omega)) (kk _ (by omega) (by omega) (by omega) (by omega) (by omega) (by omega) (by omega))
  · rw [← a1]; exact cF_k (fun a _ => k2' _ (by omega))
  · rw [← a2]; exact cP_k (fun k _ _ => k2' _ (by omega))
  · rw [k2' _ (by omega)]; exact a3
  · rw [k2' _ (by omega)]; exact a4
  · rw [← d.2.1]; exact rR_e (kk _ (by omega) (by omega) (by omega) (by omega) (by omega) (by omega) (by omega))
  · rw [kk _ (by omega) (by omega) (by omega) (by omega) (by omega) (by omega) (by omega)]; exact d.2.2.2.2.1
theorem okC {x : Int32} (hn : 0 < n) (hn30 : n ≤ 30) (q : okI x 0 ((n - 1 : Nat) : Int) = true) : ∃ i, i < n ∧ x = nI i := by
  obtain ⟨i, -, i2, e⟩ := okI_n (lo := 0) (hi := n - 1) (by omega) q
  exact ⟨i, by omega, e⟩
theorem q_one {x : Int32} (hx : bt x 0 1) : p_X7_oneIf x h = some (x, h) := by
  obtain ⟨b, -, b2, rfl⟩ := hx
  unfold p_X7_oneIf
  by_cases e : b = 0
  · subst e; rw [if_pos nI_00]
  · have : b = 1 := by omega
    subst this; rw [if_neg nI_10]
theorem op_fuel (c : CI h w g n m ru f p go) (d : RI h w g n m ru f p go) (ds : Dst m p) (rs : Rs h w g n m ru) (x1 x2 : Int32) : Oop (p_X7_fuel x1 x2) (p_X8_fuel x1 x2) h := by
  have hn30 := n_le c.1.2.1 c.1.1.2.2.1.2 c.1.1.2.2.2.1.2
  have hn0 := n_pos c.1.2.1 c.1.1.2.2.1.1 c.1.1.2.2.2.1.1
  have hC := q_isCell (x := x1) (h := h) (by rw [c.2.1]; exact c.1.1) c.1.2.1
  have rC : ∀ h1 : kH, h1 137 = h 137 → p_X8_isCell x1 h1 = some (b1 (okI x1 0 ((n - 1 : Nat) : Int)), h1) := fun h1 e => rq_isCell (by rw [rR_e (h := h) e, d.2.1]; exact d.1.1) d.1.2.1
  have bad : ∀ v : Int32, p_X7_fuel x1 x2 h = some (v, h) → p_X8_fuel x1 x2 h = some (v, h) → Oop (p_X7_fuel x1 x2) (p_X8_fuel x1 x2) h := fun v a b => ⟨v, h, h, a, b, w, g, n, m, ru, f, p, go, c, d, ds, rs⟩
  cases q1 : okI x1 0 ((n - 1 : Nat) : Int)
  · exact bad (-1) (by unfold p_X7_fuel; rw [hC]; exact bad2 q1) (by unfold p_X8_fuel; rw [rC h rfl]; exact bad2 q1)
  · obtain ⟨i, hi, rfl⟩ := okC hn0 hn30 q1
    cases q2 : okI x2 1 99
    · refine bad (-1) ?_ (by unfold p_X8_fuel; rw [rC h rfl, ok2 q1, rq_io (lo := 1) (hi := 99) (by decide) (by decide)]; exact bad2 q2)
      unfold p_X7_fuel; rw [hC, ok2 q1]
      rcases okI_f q2 with z | z
      · rw [if_pos (show x2 < nI 1 by rw [lt_n (by omega)]; omega)]
      · rw [if_neg (show ¬ x2 < nI 1 by rw [lt_n (by omega)]; omega), if_neg (show ¬ x2 ≤ nI 99 by rw [le_n (by omega)]; omega)]
    · obtain ⟨x, x1', x2', rfl⟩ := okI_n (lo := 1) (hi := 99) (by omega) q2
      have c1 : ¬ nI x < nI 1 := nI_nlt x1' (by omega)
      have c2 : nI x ≤ nI 99 := nI_le x2' (by omega)
      obtain ⟨u, -, u2, u3⟩ := (c.1.2.2.2.1 i hi).2.1
      have vc : h 34 i = nI u := by rw [← u3, ← c.2.2.1, cF_at (a := 1) (by omega) hi]
      have vr : h 143 (30 + i) = nI u := by rw [← u3, ← d.2.2.1, rF_at (a := 1) (by omega) hi]
      by_cases z : u + x ≤ 999
      · have z1 : nI (u + x) ≤ nI 999 := nI_le z (by omega)
        refine ⟨nI (u + x), hs h 34 i (nI (u + x)), hs (hs h 34 i (nI (u + x))) 143 (30 + i) (nI (u + x)), ?_, ?_, ?_⟩
        · unfold p_X7_fuel; rw [hC, ok2 q1, if_neg c1, if_pos c2]
          simp (disch := omega) only [gd_i, nI_clamp, le_d, vc, nI_add, if_pos z1]
        · unfold p_X8_fuel; rw [rC _ (hs_k (by omega)), ok2 q1, rq_io (lo := 1) (hi := 99) (by decide) (by decide), ok2 q2]
          simp (disch := omega) only [gd_i, nI_clamp, le_d, hs_k, vr, nI_add, if_pos z1, hs_s]
        · have wf : WfF n 3000 999 (hs f 1 i (nI (u + x))) := by
            intro q hq
            have := c.1.2.2.2.1 q hq
            by_cases e : q = i
            · subst e
              simp (disch := omega) only [hs_k, hs_s]
              exact ⟨this.1, bt_n (by omega) z, this.2.2⟩
            · simp (disch := omega) only [hs_i]
              exact this
          refine Sim.st c d rs (f' := hs f 1 i (nI (u + x))) (p' := p) ⟨c.1.1, c.1.2.1, c.1.2.2.1, wf, c.1.2.2.2.2⟩ ds (h1 := hs h 34 i (nI (u + x))) (fun k a _ _ => hs_k (by omega)) ?_ ?_ ?_ rfl (fun j a b => hs_i (by omega)) (fun k a _ _ _ => hs_k a) ?_ ?_ ?_
          · rw [← c.2.2.1]; exact cF_hs (F := 32) (a := 1) (by omega) hi
          · rw [← c.2.2.2.1]; exact cP_k (fun k _ _ => hs_k (by omega))
          · rw [hs_k (by omega)]; exact c.2.2.2.2.1
          · rw [rF_hs 1 (by omega) hi hn30 (by omega), rF_e (h := h) hn30 (fun j _ _ => by rw [hs_k (by omega)]), d.2.2.1]
          · rw [rP_e (h := h) d.1.2.2.1 (fun j _ _ => by rw [hs_i (by omega), hs_k (by omega)]) (by rw [hs_k (by omega), hs_k (by omega)]) (by rw [hs_k (by omega), hs_k (by omega)]), d.2.2.2.1]
          · rw [hs_i (by omega), hs_k (by omega), hs_k (by omega), d.2.2.2.2.2, c.2.2.2.2.2]
      · have z1 : ¬ nI (u + x) ≤ nI 999 := by rw [le_n (by omega), nI_toInt (by omega)]; omega
        refine bad (-2) ?_ ?_
        · unfold p_X7_fuel; rw [hC, ok2 q1, if_neg c1, if_pos c2]
          simp (disch := omega) only [gd_i, nI_clamp, le_d, vc, nI_add, if_neg z1]
        · unfold p_X8_fuel; rw [rC h rfl, ok2 q1, rq_io (lo := 1) (hi := 99) (by decide) (by decide), ok2 q2]
          simp (disch := omega) only [gd_i, nI_clamp, le_d, vr, nI_add, if_neg z1]
end
