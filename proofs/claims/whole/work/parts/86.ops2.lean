/-! of, drying -/
section
variable {w g n m : Nat} {ru : Nat → Int32} {f p : kH} {go : Int32} {h : kH}
theorem and_t {a b : Bool} (h : (a && b) = true) : a = true ∧ b = true := by
  cases a <;> cases b <;> first | exact ⟨rfl, rfl⟩ | cases h
theorem good_le {ru : Nat → Int32} {m : Nat} {p : kH} : good ru m p ≤ m := cntN_le _ _
theorem good_p {ru : Nat → Int32} {m : Nat} {p : kH} (hm : m ≤ 6) : 0 ≤ nI (good ru m p) := nI_pos' (by have := good_le (ru := ru) (m := m) (p := p); omega)
theorem mmx_r {a v : Int32} : mmx a v = (if a < v then v else a) := by
  unfold mmx
  by_cases q : v ≤ a
  · rw [if_pos q, if_neg (Int32.not_lt.mpr q)]
  · rw [if_neg q, if_pos (Int32.not_le.mp q)]
/-- the greatest heat, as the class sums it up -/
theorem q_greatest {N c : Nat} {x : Int32} (hw : WfS w g n m ru f p) (hx : bt x 0 9) (hN : N ≤ 240) (hc : c < n) (h33 : h 33 c = f 0 c) (ht : ∀ j, j < N → tells h j n (fN ru (fun _ => x) w n (j + 1) f)) : p_X7_greatestHeat (nI c) (nI N) h = some (mxN ru (fun _ => x) w n f c N (f 0 c), h) := by
  have hn30 := n_le hw.2.1 hw.1.2.2.1.2 hw.1.2.2.2.1.2
  simp (disch := omega) only [p_X7_greatestHeat, gd_i, nI_clamp, le_d, h33]
  refine fx_m (fun i (a : Int32 × kH) => (nI c, nI N, a.1, nI i, a.2)) (fun i a => a = (mxN ru (fun _ => x) w n f c i (f 0 c), h)) (fun r => r = some (mxN ru (fun _ => x) w n f c N (f 0 c), h)) N (by omega) (a := (f 0 c, h)) rfl ?_ ?_
  · rintro i a hi rfl K hK
    have tl := (tells_H (ht i hi) (wf_fN hw.1 hw.2.1 (U := 999) (by omega) hw.2.2.2.1 _ (fun _ _ => hx)) c hc).1
    unfold atH at tl
    dsimp only
    simp only [p_X7_greatestHeat_16, if_neg (nI_ge hi (show N < 2 ^ 31 by omega)), q_heatAt (show i < 240 by omega) (show c < 30 by omega), bd2_s, tl, le_d, nI_add]
    have hk := hK (mxN ru (fun _ => x) w n f c (i + 1) (f 0 c), h) rfl
    rw [mxN_s, mmx_r] at hk
    exact hk
  · rintro a rfl K
    dsimp only
    simp only [p_X7_greatestHeat_16, if_pos (nI_le (Nat.le_refl N) (show N < 2 ^ 31 by omega))]
theorem op_of (c : CI h w g n m ru f p go) (d : RI h w g n m ru f p go) (x1 x2 x3 x4 : Int32) : Qop (p_X7_of x1 x2 x3 x4) (p_X8_of x1 x2 x3 x4) h := by
  have hm := c.1.2.2.1
  have hn30 := n_le c.1.2.1 c.1.1.2.2.1.2 c.1.1.2.2.2.1.2
  have hn0 := n_pos c.1.2.1 c.1.1.2.2.1.1 c.1.1.2.2.2.1.1
  cases q : (okI x1 0 240 && okI x2 0 9)
  · refine ⟨-1, h, h, ?_, ?_, Kp.rf, Rk.rf⟩
    · unfold p_X7_of; rw [q_isRun]; exact bad2 q
    · unfold p_X8_of; rw [rq_isRun]; exact bad2 q
  · obtain ⟨N, -, N2, rfl⟩ := okI_n (lo := 0) (hi := 240) (by omega) (and_t q).1
    obtain ⟨y, -, y2, rfl⟩ := okI_n (lo := 0) (hi := 9) (by omega) (and_t q).2
    cases qp : okI x3 0 ((m : Int) - 1)
    · refine ⟨-1, h, h, ?_, ?_, Kp.rf, Rk.rf⟩
      · unfold p_X7_of; rw [q_isRun, ok2 q, q_isPot c.2.2.2.2.1 hm]; exact bad2 qp
      · unfold p_X8_of; rw [rq_isRun, ok2 q, rq_isPot d.2.2.2.2.1 hm]; exact bad2 qp
    · have hi : ∃ i, i < m ∧ x3 = nI i := by
        unfold okI at qp
        rw [Bool.and_eq_true, decide_eq_true_eq, decide_eq_true_eq] at qp
        exact ⟨x3.toInt.toNat, by omega, Int32.toInt_inj.mp (by rw [nI_toInt (by omega)]; omega)⟩
      obtain ⟨i, hi, rfl⟩ := hi
      cases q4 : okI x4 0 3
      · refine ⟨-1, h, h, ?_, ?_, Kp.rf, Rk.rf⟩
        · unfold p_X7_of; rw [q_isRun, ok2 q, q_isPot c.2.2.2.2.1 hm, ok2 qp]
          rcases okI_f q4 with z | z
          · rw [if_pos (lt_z.mpr z)]
          · rw [if_neg (show ¬ x4 < 0 by rw [lt_z]; omega), if_neg (show ¬ x4 ≤ nI 3 by rw [le_n (by omega)]; omega)]
        · unfold p_X8_of; rw [rq_isRun, ok2 q, rq_isPot d.2.2.2.2.1 hm, ok2 qp, rq_io (lo := 0) (hi := 3) (by decide) (by decide)]; exact bad2 q4
      · obtain ⟨h1, e1, v1, m1, t1, k1⟩ := q_tryRun c N2 (bt_n (by omega) y2)
        have d1 := d.kp (Kp.of k1)
        obtain ⟨h2, e2, f2, p2, x2', k2⟩ := rq_tries d1
        obtain ⟨h3, e3, t3, mx3, j3, k3⟩ := rq_runs (d1.rt k2 f2 p2) N2 y2
        have wp := wfrN (N := N) c.1 (bt_n (lo := 0) (hi := 9) (by omega) y2)
        have r1 : cR h1 28 = ru := by rw [← c.2.1]; exact cR_k (k1 _ (by omega) (by omega)) (k1 _ (by omega) (by omega)) (k1 _ (by omega) (by omega))
        have kk : Rk h1 h3 := k2.tr (Rk.of j3 k3)
        obtain ⟨-, -, -, -, -, -, t7, t8, t9, t10⟩ := t3
        obtain ⟨k, -, kk2, rfl⟩ := okI_n (lo := 0) (hi := 3) (by omega) q4
        have eC : p_X7_of (nI N) (nI y) (nI i) (nI k) h = (if nI k = nI 0 then bd2 (p_X4_lossOf 79 28 (nI i) h1) fun v11 h9 => some (v11, h9) else if nI k = nI 1 then gd (inb (nI i) 6) (bd2 (p_X7_greatestHeat (h1 40 (nI i).toNatClampNeg) (nI N) h1) fun v16 h14 => some (v16, h14)) else if nI k = nI 2 then gd (inb (nI i) 6) (some (h1 88 (nI i).toNatClampNeg, h1)) else gd (inb (nI i) 6) (some (h1 86 (nI i).toNatClampNeg, h1))) := by
          unfold p_X7_of
          rw [q_isRun, ok2 q, q_isPot c.2.2.2.2.1 hm, ok2 qp, if_neg (nI_pos (by omega)), if_pos (nI_le (by omega) (by omega)), bd_o e1]
        have eR : p_X8_of (nI N) (nI y) (nI i) (nI k) h1 = (if nI k = 0 then bd2 (p_X8_lossOf (nI 3) (nI i) h3) fun v23 h21 => some (v23, h21) else if nI k = nI 1 then gd (inb (nI i) 6) (some (h3 146 (nI i).toNatClampNeg, h3)) else if nI k = nI 2 then gd (inb (nI (200 * 3 + 150 + 8 * i) + nI 5) 800) (some (h3 143 (nI (200 * 3 + 150 + 8 * i) + nI 5).toNatClampNeg, h3)) else gd (inb (nI (200 * 3 + 150 + 8 * i) + nI 3) 800) (some (h3 143 (nI (200 * 3 + 150 + 8 * i) + nI 3).toNatClampNeg, h3))) := by
          unfold p_X8_of
          rw [rq_isRun, ok2 q, rq_isPot d1.2.2.2.2.1 hm, ok2 qp, rq_io (lo := 0) (hi := 3) (by decide) (by decide), ok2 q4, bd_o e2, bd2_o e3, rq_potAt, bd2_s, if_pos (good_p hm)]
        rcases (show k = 0 ∨ k = 1 ∨ k = 2 ∨ k = 3 by omega) with rfl | rfl | rfl | rfl
        · refine ⟨mloss ru (rN ru (fun _ => nI y) w n m N (f, p)).2 i, h1, h3, ?_, ?_, Kp.of k1, kk⟩
          · rw [eC, if_pos rfl, q_lossOf hi hm, bd2_s, r1, v1]
          · rw [eR, if_pos nI_00, rq_lossOf (s := 3) (n := n) hi hm (by omega) (by rw [t9]; exact wp), bd2_s, t7, t9]
        · obtain ⟨cc, -, c2, c3⟩ := (c.1.2.2.2.2 i hi).1
          have h40 : h1 40 i = nI cc := by rw [k1 40 (by omega) (by omega), ← c3, ← c.2.2.2.1, cP_at (a := 0) (by omega) hi]; rfl
          have h33 : h1 33 cc = f 0 cc := by rw [k1 33 (by omega) (by omega), ← c.2.2.1, cF_at (a := 0) (by omega) (show cc < n by omega)]
          have hfc := (c.1.2.2.2.1 cc (by omega)).1
          refine ⟨mxN ru (fun _ => nI y) w n f cc N (f 0 cc), h1, h3, ?_, ?_, Kp.of k1, kk⟩
          · rw [eC, if_neg (by decide), if_pos rfl, gd_i (by omega) (by omega), nI_clamp (by omega), h40, q_greatest c.1 (bt_n (by omega) y2) N2 (show cc < n by omega) h33 t1, bd2_s]
          · rw [eR, if_neg nI_10, if_pos rfl, gd_i (by omega) (by omega), nI_clamp (by omega), mx3 i hi, x2' i hi, c3, nI_clamp (by omega)]
            have : mmx (nI 0) (f 0 cc) = f 0 cc := by
              obtain ⟨a, a1, a2, a3⟩ := hfc
              rw [mmx, a3, if_neg (nI_ge (by omega) (by omega))]
            rw [this]
        · refine ⟨(rN ru (fun _ => nI y) w n m N (f, p)).2 5 i, h1, h3, ?_, ?_, Kp.of k1, kk⟩
          · rw [eC, if_neg (by decide), if_neg (by decide), if_pos rfl, gd_i (by omega) (by omega), nI_clamp (by omega), ← v1, cP_at (a := 5) (by omega) hi]; rfl
          · rw [eR, if_neg (by decide), if_neg (by decide), if_pos rfl, nI_add, gd_i (by omega) (by omega), nI_clamp (by omega), ← t9, rP_at (a := 5) (by omega) hi]
        · refine ⟨(rN ru (fun _ => nI y) w n m N (f, p)).2 3 i, h1, h3, ?_, ?_, Kp.of k1, kk⟩
          · rw [eC, if_neg (by decide), if_neg (by decide), if_neg (by decide), gd_i (by omega) (by omega), nI_clamp (by omega), ← v1, cP_at (a := 3) (by omega) hi]; rfl
          · rw [eR, if_neg (by decide), if_neg (by decide), if_neg (by decide), nI_add, gd_i (by omega) (by omega), nI_clamp (by omega), ← t9, rP_at (a := 3) (by omega) hi]
end
