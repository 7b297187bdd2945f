/-! a minute, drying, spots, counts -/
section
variable {w g n m : Nat} {ru : Nat → Int32} {f p f' p' : kH} {go go' : Int32} {h h1 h2 h' : kH}
theorem rq_whole0 (hc : h 138 0 = nI m) (hm : m ≤ 6) (hp : rP h 0 m = p) : fx (fun K19 s => p_X8_minute_19 K19 s.1 s.2.1 s.2.2) FU ((nI 0), (nI 0), h) = some (nI (cntN (fun i => decide (p 4 i = 0)) m), h) := by
  refine fx_m (fun i (a : Int32 × kH) => (a.1, nI i, a.2)) (fun i a => a = (nI (cntN (fun i => decide (p 4 i = 0)) i), h)) (fun r => r = some (nI (cntN (fun i => decide (p 4 i = 0)) m), h)) m (by omega) (a := (nI 0, h)) rfl ?_ ?_
  · rintro i a hi rfl K hK
    dsimp only
    simp (disch := omega) only [p_X8_minute_19, p_X8_minute_44, gd_i, nI_clamp, hc, if_neg (nI_ge hi (show m < 2 ^ 31 by omega)), rq_isWhole (s := 0) hi hm (by omega), hp, bd2_s, b1_if, le_d, nI_add]
    by_cases q : p 4 i = 0
    · rw [if_pos (decide_eq_true q)]
      exact hK (nI (cntN _ i + 1), h) (by rw [cntN_t (by simp [q])])
    · rw [if_neg (by simp [q])]
      exact hK (nI (cntN _ i + 0), h) (by rw [cntN_n (by simp [q])]; rfl)
  · rintro a rfl K
    dsimp only
    simp (disch := omega) only [p_X8_minute_19, gd_i, nI_clamp, hc, if_pos (nI_le (Nat.le_refl m) (show m < 2 ^ 31 by omega))]
theorem op_minute (c : CI h w g n m ru f p go) (d : RI h w g n m ru f p go) (ds : Dst m p) (rs : Rs h w g n m ru) (x1 : Int32) : Oop (p_X7_minute x1) (p_X8_minute x1) h := by
  have hm := c.1.2.2.1
  cases q1 : okI x1 0 9
  · exact ⟨-1, h, h, by unfold p_X7_minute; rw [q_isWind]; exact bad2 q1, by unfold p_X8_minute; rw [rq_isWind]; exact bad2 q1, w, g, n, m, ru, f, p, go, c, d, ds, rs⟩
  · obtain ⟨y, -, y2, rfl⟩ := okI_n (lo := 0) (hi := 9) (by omega) q1
    obtain ⟨⟨hr, hn, -, hf, hp⟩, a1, a2, a3, a4, a5⟩ := c
    have c : CI h w g n m ru f p go := ⟨⟨hr, hn, hm, hf, hp⟩, a1, a2, a3, a4, a5⟩
    obtain ⟨-, d1, d2, d3, d4, d5⟩ := d
    have d : RI h w g n m ru f p go := ⟨⟨hr, hn, hm, hf, hp⟩, d1, d2, d3, d4, d5⟩
    obtain ⟨h1, e1, f1, p1, n1, g1, k1⟩ := q_pass (B := 31) (y := y) (U := 999) (h := h) (by omega) (by omega) a1 hr hn hm y2 (by omega) hf hp a2 a3 a4
    have hn30 := n_le hn hr.2.2.1.2 hr.2.2.2.1.2
    have dk : RI h1 w g n m ru f p go := d.k0 (fun k a => k1 k (by omega) (by omega)) (fun j a => by rw [k1 143 (by omega) (by omega)])
    obtain ⟨-, d1', d2', d3', d4', d5'⟩ := dk
    obtain ⟨h2, e2, f2, p2, g2, j2, k2⟩ := rq_goes (s := 0) (h := h1) (y := y) (U := 999) (by rw [d1']; exact hr) hn d4' hm (by omega) y2 (by rw [d2']; exact hf) (by omega) (by rw [d3']; exact hp)
    rw [d1', d2'] at f2
    rw [d1', d2', d3'] at p2
    have p2 : rP h2 0 m = mpt ru w m (mfire ru (nI y) w n f) p := p2
    have wf := wf_fire hr hn (bt_n (lo := 0) (hi := 9) (by omega) y2) (by omega) hf
    have wp := wf_mpt hr hn wf hp
    have ec := q_countWhole (P := 39) (h := h1) n1 hm
    rw [show cP h1 39 m = _ from p1] at ec
    refine ⟨nI (cntN (fun i => decide (mpt ru w m (mfire ru (nI y) w n f) p 4 i = 0)) m), h1, h2, ?_, ?_, Sim.st (f' := mfire ru (nI y) w n f) (p' := mpt ru w m (mfire ru (nI y) w n f) p) (h1 := h1) (go' := go + nI 1) c d rs ⟨hr, hn, hm, wf, wp⟩ (fun i j hi hj e => ds i j hi hj (by rw [fx_mpt (Or.inl rfl), fx_mpt (Or.inl rfl)] at e; exact e)) (fun k a b _ => k1 k (by omega) b) f1 p1 n1 (by rw [g1, a5]) (fun j a b => j2 j (by omega)) (fun k a b _ e => k2 k a b e) f2 p2 (by rw [← d5']; exact g2)⟩
    · unfold p_X7_minute
      rw [q_isWind, ok2 q1, bd_o e1, ec, bd2_s]
    · unfold p_X8_minute
      rw [rq_isWind, ok2 q1, bd_o e2]
      exact rq_whole0 (by rw [k2 _ (by omega) (by omega) (by omega)]; exact d4') hm p2
theorem op_dry (c : CI h w g n m ru f p go) (d : RI h w g n m ru f p go) (ds : Dst m p) (rs : Rs h w g n m ru) (x1 : Int32) : Oop (p_X7_dry x1) (p_X8_dry x1) h := by
  have hm := c.1.2.2.1
  have hn30 := n_le c.1.2.1 c.1.1.2.2.1.2 c.1.1.2.2.2.1.2
  cases q1 : okI x1 1 240
  · refine ⟨-1, h, h, ?_, by unfold p_X8_dry; rw [rq_io (lo := 1) (hi := 240) (by decide) (by decide)]; exact bad2 q1, w, g, n, m, ru, f, p, go, c, d, ds, rs⟩
    unfold p_X7_dry
    rcases okI_f q1 with z | z
    · rw [if_pos (show x1 < nI 1 by rw [lt_n (by omega)]; omega)]
    · rw [if_neg (show ¬ x1 < nI 1 by rw [lt_n (by omega)]; omega), if_neg (show ¬ x1 ≤ nI 240 by rw [le_n (by omega)]; omega)]
  · obtain ⟨x, x1', x2', rfl⟩ := okI_n (lo := 1) (hi := 240) (by omega) q1
    obtain ⟨h1, e1, v1, k1⟩ := q_dryFor (P := 39) (x := nI x) (h := h) (m := m) c.2.2.2.2.1 hm
    rw [c.2.2.2.1] at v1
    have n1 : h1 39 0 = nI m := by rw [k1 _ (by omega)]; exact c.2.2.2.2.1
    have ew := q_allWater (P := 39) (h := h1) n1 hm
    rw [v1] at ew
    have d3' : rP h1 0 m = p := by rw [rP_e (h := h) hm (fun j _ _ => by rw [k1 _ (by omega)]) (k1 _ (by omega)) (k1 _ (by omega))]; exact d.2.2.2.1
    obtain ⟨h2, e2, v2, j2, k2⟩ := rq_dries (s := 0) (x := x) (n := n) (h := h1) (by rw [k1 _ (by omega)]; exact d.2.2.2.2.1) hm (by omega) x2' (by rw [d3']; exact d.1.2.2.2.2)
    rw [d3'] at e2 v2
    have d0 : ∀ i, itr (mdry1 (nI x)) m p 0 i = p 0 i := fun i => itr_fix (fun j q => by
      unfold mdry1
      by_cases z : q 4 j = 0
      · rw [if_pos z, mlose, hs_k (by omega)]
      · rw [if_neg z]) m
    refine ⟨sumN (fun i => itr (mdry1 (nI x)) m p 2 i) m, h1, h2, ?_, ?_, Sim.st (f' := f) (p' := itr (mdry1 (nI x)) m p) (h1 := h1) (go' := go) c d rs ⟨c.1.1, c.1.2.1, hm, c.1.2.2.2.1, wf_dry x2' c.1.2.2.2.2⟩ (fun i j hi hj e => ds i j hi hj (by rw [d0, d0] at e; exact e)) (fun k a _ _ => k1 k (by omega)) ?_ v1 n1 (by rw [k1 _ (by omega)]; exact c.2.2.2.2.2) (fun j a b => j2 j (by omega)) (fun k a _ _ _ => k2 k a) ?_ v2 ?_⟩
    · unfold p_X7_dry
      rw [if_neg (nI_nlt x1' (by omega)), if_pos (nI_le x2' (by omega)), bd_o e1, ew, bd2_s]
    · unfold p_X8_dry
      rw [rq_io (lo := 1) (hi := 240) (by decide) (by decide), ok2 q1, bd2_o e2]
    · rw [cF_k (h := h) (fun a _ => k1 _ (by omega))]; exact c.2.2.1
    · rw [rF_e (h := h) hn30 (fun j _ _ => by rw [j2 j (by omega), k1 _ (by omega)])]; exact d.2.2.1
    · rw [j2 _ (by omega), k1 _ (by omega)]; exact d.2.2.2.2.2
/-- rows that the heap's state does not lie in -/
theorem Sim.sp (c : CI h w g n m ru f p go) (d : RI h w g n m ru f p go) (ds : Dst m p) (k : ∀ k, k ≠ 0 → k ≠ 1 → k ≠ 131 → k ≠ 135 → k ≠ 136 → k ≠ 144 → h' k = h k) (rs : Rs h' w g n m ru) : Sim h' := by
  have hn30 := n_le c.1.2.1 c.1.1.2.2.1.2 c.1.1.2.2.2.1.2
  have kk : ∀ q, 2 ≤ q → q < 131 → h' q = h q := fun q a b => k q (by omega) (by omega) (by omega) (by omega) (by omega) (by omega)
  have kr : ∀ q, ((137 ≤ q ∧ q ≤ 140) ∨ q = 143) → h' q = h q := fun q a => k q (by omega) (by omega) (by omega) (by omega) (by omega) (by omega)
  refine ⟨w, g, n, m, ru, f, p, go, ⟨c.1, ?_, ?_, ?_, ?_, ?_⟩, d.k0 (fun q a => kr q (by omega)) (fun j _ => by rw [kr 143 (by omega)]), ds, rs⟩
  · rw [← c.2.1]; exact cR_k (kk _ (by omega) (by omega)) (kk _ (by omega) (by omega)) (kk _ (by omega) (by omega))
  · rw [← c.2.2.1]; exact cF_k (fun a _ => kk _ (by omega) (by omega))
  · rw [← c.2.2.2.1]; exact cP_k (fun q _ _ => kk _ (by omega) (by omega))
  · rw [kk _ (by omega) (by omega)]; exact c.2.2.2.2.1
  · rw [kk _ (by omega) (by omega)]; exact c.2.2.2.2.2
theorem op_noSpots (c : CI h w g n m ru f p go) (d : RI h w g n m ru f p go) (ds : Dst m p) (rs : Rs h w g n m ru) : Oop p_X7_noSpots p_X8_noSpots h := by
  obtain ⟨⟨S, a1, a2, a3, a4, a5, a6⟩, ⟨kc, b1, b2, b3, b4⟩, ⟨L, c1, c2, c3, c4⟩⟩ := rs
  refine ⟨nI S, hs h 0 11 (nI 0), hs (hs h 0 11 (nI 0)) 135 11 (nI 0), by rw [p_X7_noSpots, le_d, le_d, a1], by rw [p_X8_noSpots, le_d, le_d, hs_k (by omega), a2], Sim.sp c d ds (fun k q1 _ _ q4 _ _ => by rw [hs_k q4, hs_k q1]) ⟨⟨0, ?_, hs_s _ _ _ _, by omega, fun j hj => absurd hj (by omega), fun j hj => absurd hj (by omega), fun i j hi => absurd hi (by omega)⟩, ⟨kc, ?_, ?_, b3, fun t ht => (b4 t ht).k (by omega) (fun k z => by rw [hs_k (by omega), hs_k (by omega)]) (fun j _ _ => by rw [hs_k (by omega), hs_k (by omega)])⟩, ⟨L, ?_, ?_, c3, fun i hi => ?_⟩⟩⟩
  · rw [hs_k (by omega), hs_s]
  · rw [hs_k (by omega), hs_i (by omega)]; exact b1
  · rw [hs_i (by omega), hs_k (by omega)]; exact b2
  · rw [hs_k (by omega), hs_i (by omega)]; exact c1
  · rw [hs_i (by omega), hs_k (by omega)]; exact c2
  · rw [hs_k (by omega), hs_k (by omega), hs_k (by omega), hs_k (by omega)]; exact c4 i hi
theorem op_wipe (c : CI h w g n m ru f p go) (d : RI h w g n m ru f p go) (ds : Dst m p) (rs : Rs h w g n m ru) : Oop p_X7_wipe p_X8_wipe h := by
  obtain ⟨⟨S, a1, a2, a3, a4, a5, a6⟩, ⟨kc, b1, b2, b3, b4⟩, ⟨L, c1, c2, c3, c4⟩⟩ := rs
  have e131 : hs (hs h 0 1 (nI 0)) 135 0 (nI 0) 131 = h 131 := by rw [hs_k (by omega), hs_k (by omega)]
  have e144 : hs (hs h 0 1 (nI 0)) 135 0 (nI 0) 144 = h 144 := by rw [hs_k (by omega), hs_k (by omega)]
  refine ⟨nI L, hs h 0 1 (nI 0), hs (hs h 0 1 (nI 0)) 135 0 (nI 0), by rw [p_X7_wipe, le_d, le_d, c1], by rw [p_X8_wipe, le_d, le_d, hs_k (by omega), c2], Sim.sp c d ds (fun k q1 _ _ q4 _ _ => by rw [hs_k q4, hs_k q1]) ⟨⟨S, ?_, ?_, a3, fun j hj => by rw [e131, e144]; exact a4 j hj, fun j hj => by rw [e131]; exact a5 j hj, fun i j hi hj z => a6 i j hi hj (by rw [e131] at z; exact z)⟩, ⟨kc, ?_, ?_, b3, fun t ht => (b4 t ht).k (by omega) (fun k z => by rw [hs_k (by omega), hs_k (by omega)]) (fun j _ _ => by rw [hs_k (by omega), hs_k (by omega)])⟩, ⟨0, ?_, hs_s _ _ _ _, by omega, fun i hi => absurd hi (by omega)⟩⟩⟩
  · rw [hs_k (by omega), hs_i (by omega)]; exact a1
  · rw [hs_i (by omega), hs_k (by omega)]; exact a2
  · rw [hs_k (by omega), hs_i (by omega)]; exact b1
  · rw [hs_i (by omega), hs_k (by omega)]; exact b2
  · rw [hs_k (by omega), hs_s]
theorem op_count (c : CI h w g n m ru f p go) (d : RI h w g n m ru f p go) (ds : Dst m p) (rs : Rs h w g n m ru) (x1 : Int32) : Oop (p_X7_count x1) (p_X8_count x1) h := by
  have rs' := rs
  obtain ⟨⟨S, a1, a2, -⟩, ⟨kc, b1, b2, -⟩, ⟨L, c1, c2, -⟩⟩ := rs'
  have sim : Sim h := ⟨w, g, n, m, ru, f, p, go, c, d, ds, rs⟩
  have rc : p_X8_cells h = some (nI n, h) := rq_cells (w := w) (g := g) (by have := d.1.1.1; rw [← d.2.1] at this; exact this) (by have := d.1.1.2.1; rw [← d.2.1] at this; exact this) d.1.2.1
  have cc : p_X5_cells 28 h = some (nI n, h) := by
    have w1 : h 28 0 = nI w := by have := c.1.1.1; rw [← c.2.1] at this; exact this
    have w2 : h 28 1 = nI g := by have := c.1.1.2.1; rw [← c.2.1] at this; exact this
    rw [p_X5_cells, w1, w2, pk_mul, c.1.2.1]
  by_cases z0 : x1 = nI 0
  · exact ⟨nI n, h, h, by rw [p_X7_count, if_pos z0, cc, bd2_s], by rw [p_X8_count, if_pos (by rw [z0]; exact nI_00), rc, bd2_s], sim⟩
  · have z0' : ¬ x1 = 0 := fun z => z0 (by rw [z, nI_00])
    by_cases z1 : x1 = nI 1
    · exact ⟨nI m, h, h, by rw [p_X7_count, if_neg z0, if_pos z1, c.2.2.2.2.1], by rw [p_X8_count, if_neg z0', if_pos z1, gd_i (by omega) (by omega), nI_clamp (by omega), d.2.2.2.2.1], sim⟩
    · by_cases z2 : x1 = nI 2
      · exact ⟨nI L, h, h, by rw [p_X7_count, if_neg z0, if_neg z1, if_pos z2, c1], by rw [p_X8_count, if_neg z0', if_neg z1, if_pos z2, c2], sim⟩
      · by_cases z3 : x1 = nI 3
        · exact ⟨go, h, h, by rw [p_X7_count, if_neg z0, if_neg z1, if_neg z2, if_pos z3, c.2.2.2.2.2], by rw [p_X8_count, if_neg z0', if_neg z1, if_neg z2, if_pos z3, gd_i (by omega) (by omega), nI_clamp (by omega), d.2.2.2.2.2], sim⟩
        · by_cases z4 : x1 = nI 4
          · exact ⟨nI S, h, h, by rw [p_X7_count, if_neg z0, if_neg z1, if_neg z2, if_neg z3, if_pos z4, a1], by rw [p_X8_count, if_neg z0', if_neg z1, if_neg z2, if_neg z3, if_pos z4, a2], sim⟩
          · by_cases z5 : x1 = nI 5
            · exact ⟨nI kc, h, h, by rw [p_X7_count, if_neg z0, if_neg z1, if_neg z2, if_neg z3, if_neg z4, if_pos z5, b1], by rw [p_X8_count, if_neg z0', if_neg z1, if_neg z2, if_neg z3, if_neg z4, if_pos z5, b2], sim⟩
            · exact ⟨-1, h, h, by rw [p_X7_count, if_neg z0, if_neg z1, if_neg z2, if_neg z3, if_neg z4, if_neg z5], by rw [p_X8_count, if_neg z0', if_neg z1, if_neg z2, if_neg z3, if_neg z4, if_neg z5], sim⟩
end
