/-! lay, whole -/
section
variable {w g n m : Nat} {ru : Nat → Int32} {f p : kH} {go : Int32} {h : kH}
theorem op_lay (c : CI h w g n m ru f p go) (d : RI h w g n m ru f p go) (ds : Dst m p) (rs : Rs h w g n m ru) : Oop p_X7_lay p_X8_lay h := by
  obtain ⟨L, t⟩ := rs.2.2
  obtain ⟨v, c1, r1, e1, k1, e2, k2, q⟩ := read2 (h := h) (L := L) t
  by_cases hv : v = -4
  · have q := q hv
    obtain ⟨W, G, N, pl⟩ := q.ex
    obtain ⟨p1, p2, p3, p4, p5, p6, p7, p8⟩ := pl
    obtain ⟨c2, f2, o⟩ := q_layable p6 p3 p4 p5 p1.2 p2.2 p7 p8
    rcases o with ⟨ly, e3, e14⟩ | ⟨ly, e3⟩
    · obtain ⟨c3, e4, lc⟩ := q_layOn (c := c2) (w := W) (g := G) (by rw [f2 3 (by omega)]; exact p4) (by rw [f2 3 (by omega)]; exact p5) (by omega) p1.2 p2.2
      obtain ⟨s1, s2, s3, s4, s5, s6⟩ := lay_c q ⟨p1, p2, p3, p4, p5, p6, p7, p8⟩ f2 e14 lc
      have hc5 : ∀ k, k ≠ 0 → hs (hs c3 0 11 (nI 0)) 0 9 (nI 0) k = c3 k := fun k hk => by rw [hs_k hk, hs_k hk]
      have w28 : c3 28 0 = nI W ∧ c3 28 1 = nI G := by
        have a0 := congrFun s1 0
        have a1 := congrFun s1 1
        exact ⟨by rw [← p4]; exact a0, by rw [← p5]; exact a1⟩
      have e5 : p_X7_lay h = some (nI (W * G), hs (hs c3 0 11 (nI 0)) 0 9 (nI 0)) := by
        unfold p_X7_lay
        rw [e1, bd2_s, if_pos hv, e3, bd2_s, if_neg nI_10, e4, bd_s, le_d, le_d, p_cells, bd2_s, hc5 28 (by omega), w28.1, w28.2, pk_mul]
      have x0 : hs (hs c3 0 11 (nI 0)) 0 9 (nI 0) 0 1 = h 0 1 := by rw [hs_i (by omega), hs_i (by omega), s6 0 (by omega), k1 0 (by omega)]
      have x1 : hs (hs c3 0 11 (nI 0)) 0 9 (nI 0) 0 11 = nI 0 := by rw [hs_i (by omega), hs_s]
      have x2 : hs (hs c3 0 11 (nI 0)) 0 9 (nI 0) 0 9 = nI 0 := hs_s _ _ _ _
      generalize hs (hs c3 0 11 (nI 0)) 0 9 (nI 0) = c5 at *
      have h5 : ∀ k, (k = 1 ∨ 49 < k) → c5 k = h k := fun k hk => by rw [hc5 k (by omega), s6 k (by omega), k1 k (by omega)]
      obtain ⟨r, g1, g2, g3⟩ := read2' (h1 := c5) t e1 (h5 135 (by omega)) (h5 136 (by omega))
      have q' := g3 hv
      obtain ⟨y1, y2, y3, y4, y5, y6⟩ := q'.rf ⟨p1, p2, p3, p4, p5, p6, p7, p8⟩
      have g4 := (rq_layL y1 p3 y2 y3 p1.2 p2.2 y5 y6).1 ly
      obtain ⟨r2, g5, lr⟩ := rq_takes (r := r) (w := W) (g := G) (N := N) (by omega) p1.2 p2.2 p3 y1 y2 y3
      obtain ⟨u1, u2, u3, u4, u5⟩ := lay_r q' ⟨p1, p2, p3, p4, p5, p6, p7, p8⟩ lr
      obtain ⟨l1, -, -, -, -, l6, l7, l8, l9⟩ := lr
      have e6 : p_X8_lay c5 = some (nI (W * G), r2) := by
        unfold p_X8_lay
        rw [g1, bd2_s, if_pos hv, g4, g5, bd_s]
        unfold p_X8_cells
        rw [gd_i (by omega) (by omega), gd_i (by omega) (by omega), nI_clamp (by omega), nI_clamp (by omega), l1 0 (by omega), l1 1 (by omega), y2, y3, pk_mul, bd2_s]
      have r5 : ∀ k, k < 135 → r2 k = c5 k := fun k hk => by rw [l9 k (by omega) (by omega) (by omega) (by omega) (by omega) (by omega), g2.2.2.2 k (by omega) (by omega) (by omega) (by omega) (by omega) (by omega)]
      have r3 : ∀ k, 27 < k → k < 135 → r2 k = c3 k := fun k h1 h2 => by rw [r5 k h2, hc5 k (by omega)]
      obtain ⟨wf, dst⟩ := lay_wf q ⟨p1, p2, p3, p4, p5, p6, p7, p8⟩ ly
      refine ⟨nI (W * G), c5, r2, e5, e6, W, G, W * G, N, cR c1 3, layF c1 W (W * G), layQ c1 W N (fun i => (c1 25 i).toNatClampNeg) (fun i => (c1 26 i).toNatClampNeg), nI 0, ⟨wf, ?_, ?_, ?_, ?_, ?_⟩, ⟨wf, u1, u2, u3, u4, u5⟩, dst, ⟨0, ?_, l6, by omega, fun j hj => absurd hj (by omega), fun j hj => absurd hj (by omega), fun i j hi => absurd hi (by omega)⟩, ⟨0, ?_, l7, by omega, fun t ht => absurd ht (by omega)⟩, ⟨L, ?_, ?_, t.2.2.1, fun i hi => ?_⟩⟩
      · rw [← s1]; exact cR_k (r3 _ (by omega) (by omega)) (r3 _ (by omega) (by omega)) (r3 _ (by omega) (by omega))
      · rw [← s2]; exact cF_k (fun a _ => r3 _ (by omega) (by omega))
      · rw [← s3]; exact cP_k (fun k _ _ => r3 _ (by omega) (by omega))
      · rw [r3 _ (by omega) (by omega)]; exact s4
      · rw [r3 _ (by omega) (by omega)]; exact s5
      · rw [r5 0 (by omega)]; exact x1
      · rw [r5 0 (by omega)]; exact x2
      · rw [r5 0 (by omega), x0]; exact t.1
      · rw [l8 0 (by omega) (by omega), g2.1 0 (by omega), h5 135 (by omega)]; exact t.2.1
      · rw [r5 1 (by omega), h5 1 (by omega), l9 136 (by omega) (by omega) (by omega) (by omega) (by omega) (by omega), g2.2.2.2 136 (by omega) (by omega) (by omega) (by omega) (by omega) (by omega), h5 136 (by omega)]
        exact t.2.2.2 i hi
    · have k2' : FrC h c2 := fun k hk => by rw [f2 k (by omega), k1 k hk]
      obtain ⟨r, g1, g2, g3⟩ := read2' (h1 := c2) t e1 (k2' 135 (by omega)) (k2' 136 (by omega))
      have q' := g3 hv
      obtain ⟨y1, y2, y3, y4, y5, y6⟩ := q'.rf ⟨p1, p2, p3, p4, p5, p6, p7, p8⟩
      have g4 := (rq_layL y1 p3 y2 y3 p1.2 p2.2 y5 y6).2 ly
      exact ⟨-2, c2, r, by unfold p_X7_lay; rw [e1, bd2_s, if_pos hv, e3, bd2_s, if_pos nI_00], by unfold p_X8_lay; rw [g1, bd2_s, if_pos hv, g4], Sim.pl c d ds rs k2' g2⟩
  · exact ⟨-2, c1, r1, by unfold p_X7_lay; rw [e1, bd2_s, if_neg hv], by unfold p_X8_lay; rw [e2, bd2_s, if_neg hv], Sim.pl c d ds rs k1 k2⟩
end
