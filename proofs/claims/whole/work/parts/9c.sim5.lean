/-! pots and cells read, text written -/
section
variable {w g n m : Nat} {ru : Nat → Int32} {f p f' p' : kH} {go go' : Int32} {h h1 h2 h' : kH}
theorem lt6 {j : Nat} (h : j ≤ 5) : j = 0 ∨ j = 1 ∨ j = 2 ∨ j = 3 ∨ j = 4 ∨ j = 5 := by omega
theorem ne_n {x : Int32} {k : Nat} (hk : k < 2 ^ 31) (h : x.toInt < 0 ∨ 5 < x.toInt) (h5 : k ≤ 5) : ¬ x = nI k := by
  intro e
  rw [e, nI_toInt hk] at h
  omega
theorem op_pot (c : CI h w g n m ru f p go) (d : RI h w g n m ru f p go) (ds : Dst m p) (rs : Rs h w g n m ru) (x1 x2 : Int32) : Oop (p_X7_pot x1 x2) (p_X8_pot x1 x2) h := by
  have hm := c.1.2.2.1
  have sim : Sim h := ⟨w, g, n, m, ru, f, p, go, c, d, ds, rs⟩
  have hP := q_isPot (x := x1) (h := h) c.2.2.2.2.1 hm
  have rP' := rq_isPot (x := x1) (h := h) d.2.2.2.2.1 hm
  cases q1 : okI x1 0 ((m : Int) - 1)
  · exact ⟨-1, h, h, by unfold p_X7_pot; rw [hP]; exact bad2 q1, by unfold p_X8_pot; rw [rP']; exact bad2 q1, sim⟩
  · obtain ⟨i, hi, rfl⟩ := okP hm q1
    cases q2 : okI x2 0 5
    · have o := okI_f q2
      exact ⟨-1, h, h, by unfold p_X7_pot; rw [hP, ok2 q1, if_neg (ne_n (by omega) o (by omega)), if_neg (ne_n (by omega) o (by omega)), if_neg (ne_n (by omega) o (by omega)), if_neg (ne_n (by omega) o (by omega)), if_neg (ne_n (by omega) o (by omega)), if_neg (ne_n (by omega) o (by omega))], by unfold p_X8_pot; rw [rP', ok2 q1, rq_io (lo := 0) (hi := 5) (by decide) (by decide)]; exact bad2 q2, sim⟩
    · obtain ⟨a, -, a2, rfl⟩ := okI_n (lo := 0) (hi := 5) (by omega) q2
      have el := q_lossOf (P := 39) (R := 28) (h := h) hi hm
      rw [c.2.1, c.2.2.2.1] at el
      have rl := rq_lossOf (s := 0) (n := n) (h := h) hi hm (by omega) (by rw [d.2.2.2.1]; exact d.1.2.2.2.2)
      rw [d.2.1, d.2.2.2.1] at rl
      have v0 : h 40 i = p 0 i := by rw [← c.2.2.2.1, cP_at (a := 0) (by omega) hi]; rfl
      have v1 : h 45 i = p 1 i := by rw [← c.2.2.2.1, cP_at (a := 1) (by omega) hi]; rfl
      have v2 : h 42 i = p 2 i := by rw [← c.2.2.2.1, cP_at (a := 2) (by omega) hi]; rfl
      have v3 : h 46 i = p 3 i := by rw [← c.2.2.2.1, cP_at (a := 3) (by omega) hi]; rfl
      have v5 : h 48 i = p 5 i := by rw [← c.2.2.2.1, cP_at (a := 5) (by omega) hi]; rfl
      have rv : ∀ b, b ≤ 5 → b ≠ 4 → p_X8_pot (nI i) (nI b) h = some (p b i, h) := by
        intro b hb hb4
        have vb : h 143 (200 * 0 + 150 + 8 * i + b) = p b i := by rw [← d.2.2.2.1, rP_at (by omega) hi]
        unfold p_X8_pot
        rw [rP', ok2 q1, rq_io (lo := 0) (hi := 5) (by decide) (by decide), ok2 (okI_t (by rw [nI_toInt (by omega)]; omega) (by rw [nI_toInt (by omega)]; omega)), if_neg (fun e => hb4 (nI_inj (by omega) (by omega) e))]
        simp (disch := omega) only [rq_potAt, bd2_s, nI_add, gd_i, nI_clamp, vb]
      rcases lt6 a2 with rfl | rfl | rfl | rfl | rfl | rfl
      · refine ⟨p 0 i, h, h, ?_, rv 0 (by omega) (by omega), sim⟩
        unfold p_X7_pot; rw [hP, ok2 q1, if_pos rfl, gd_i (by omega) (by omega), nI_clamp (by omega), v0]
      · refine ⟨p 1 i, h, h, ?_, rv 1 (by omega) (by omega), sim⟩
        unfold p_X7_pot; rw [hP, ok2 q1, if_neg (by decide), if_pos rfl, gd_i (by omega) (by omega), nI_clamp (by omega), v1]
      · refine ⟨p 2 i, h, h, ?_, rv 2 (by omega) (by omega), sim⟩
        unfold p_X7_pot; rw [hP, ok2 q1, if_neg (by decide), if_neg (by decide), if_pos rfl, gd_i (by omega) (by omega), nI_clamp (by omega), v2]
      · refine ⟨p 3 i, h, h, ?_, rv 3 (by omega) (by omega), sim⟩
        unfold p_X7_pot; rw [hP, ok2 q1, if_neg (by decide), if_neg (by decide), if_neg (by decide), if_pos rfl, gd_i (by omega) (by omega), nI_clamp (by omega), v3]
      · refine ⟨mloss ru p i, h, h, ?_, ?_, sim⟩
        · unfold p_X7_pot; rw [hP, ok2 q1, if_neg (by decide), if_neg (by decide), if_neg (by decide), if_neg (by decide), if_pos rfl, el, bd2_s]
        · unfold p_X8_pot; rw [rP', ok2 q1, rq_io (lo := 0) (hi := 5) (by decide) (by decide), ok2 q2, if_pos rfl, rl, bd2_s]
      · refine ⟨p 5 i, h, h, ?_, rv 5 (by omega) (by omega), sim⟩
        unfold p_X7_pot; rw [hP, ok2 q1, if_neg (by decide), if_neg (by decide), if_neg (by decide), if_neg (by decide), if_neg (by decide), if_pos rfl, gd_i (by omega) (by omega), nI_clamp (by omega), v5]
theorem rq_wholeIn {x : Int32} (hc : h 138 0 = nI m) (hm : m ≤ 6) (hp : rP h 0 m = p) : fx (fun K41 s => p_X8_cell_41 K41 s.1 s.2.1 s.2.2) FU (x, (nI 0), h) = some (plc (fsN (fun i => decide (p 4 i = 0) && decide (p 0 i = x)) m), h) := by
  refine fx_m (fun i (h : kH) => (x, nI i, h)) (fun i h1 => h1 = h ∧ fsN (fun i => decide (p 4 i = 0) && decide (p 0 i = x)) i = none) (fun r => r = some (plc (fsN (fun i => decide (p 4 i = 0) && decide (p 0 i = x)) m), h)) m (by omega) ⟨rfl, rfl⟩ ?_ ?_
  · rintro i h1 hi ⟨rfl, hno⟩ K hK
    have w0 : h1 143 (200 * 0 + 150 + 8 * i + 0) = p 0 i := by rw [← hp, rP_at (by omega) hi]
    simp (disch := omega) only [p_X8_cell_41, gd_i, nI_clamp, hc, if_neg (nI_ge hi (show m < 2 ^ 31 by omega)), rq_isWhole (s := 0) hi hm (by omega), hp, bd2_s, b1_if, rq_potAt, nI_add, w0]
    by_cases z : p 4 i = 0
    · rw [if_pos (decide_eq_true z)]
      by_cases z2 : p 0 i = x
      · rw [if_pos z2, fsN_hit hno (by simp [z, z2]) hi]; rfl
      · rw [if_neg z2]; exact hK h1 ⟨rfl, fsN_no hno (by simp [z2])⟩
    · rw [if_neg (by simp [z])]; exact hK h1 ⟨rfl, fsN_no hno (by simp [z])⟩
  · rintro h1 ⟨rfl, hno⟩ K
    simp (disch := omega) only [p_X8_cell_41, gd_i, nI_clamp, hc, if_pos (nI_le (Nat.le_refl m) (show m < 2 ^ 31 by omega)), hno]
    rfl
theorem op_cell (c : CI h w g n m ru f p go) (d : RI h w g n m ru f p go) (ds : Dst m p) (rs : Rs h w g n m ru) (x1 x2 : Int32) : Oop (p_X7_cell x1 x2) (p_X8_cell x1 x2) h := by
  have hm := c.1.2.2.1
  have hn30 := n_le c.1.2.1 c.1.1.2.2.1.2 c.1.1.2.2.2.1.2
  have hn0 := n_pos c.1.2.1 c.1.1.2.2.1.1 c.1.1.2.2.2.1.1
  have sim : Sim h := ⟨w, g, n, m, ru, f, p, go, c, d, ds, rs⟩
  have hC := q_isCell (x := x1) (h := h) (by rw [c.2.1]; exact c.1.1) c.1.2.1
  have rC := rq_isCell (x := x1) (h := h) (by rw [d.2.1]; exact d.1.1) d.1.2.1
  cases q1 : okI x1 0 ((n - 1 : Nat) : Int)
  · exact ⟨-1, h, h, by unfold p_X7_cell; rw [hC]; exact bad2 q1, by unfold p_X8_cell; rw [rC]; exact bad2 q1, sim⟩
  · obtain ⟨i, hi, rfl⟩ := okC hn0 hn30 q1
    cases q2 : okI x2 0 5
    · have o := okI_f q2
      exact ⟨-1, h, h, by unfold p_X7_cell; rw [hC, ok2 q1, if_neg (ne_n (by omega) o (by omega)), if_neg (ne_n (by omega) o (by omega)), if_neg (ne_n (by omega) o (by omega)), if_neg (ne_n (by omega) o (by omega)), if_neg (ne_n (by omega) o (by omega)), if_neg (ne_n (by omega) o (by omega))], by unfold p_X8_cell; rw [rC, ok2 q1, rq_io (lo := 0) (hi := 5) (by decide) (by decide)]; exact bad2 q2, sim⟩
    · obtain ⟨a, -, a2, rfl⟩ := okI_n (lo := 0) (hi := 5) (by omega) q2
      have v0 : h 33 i = f 0 i := rd_c c (a := 0) (by omega) hi
      have v1 : h 34 i = f 1 i := rd_c c (a := 1) (by omega) hi
      have v2 : h 35 i = f 2 i := rd_c c (a := 2) (by omega) hi
      have v3 : h 36 i = f 3 i := rd_c c (a := 3) (by omega) hi
      have v4 : h 37 i = f 4 i := rd_c c (a := 4) (by omega) hi
      have b3 := (c.1.2.2.2.1 i hi).2.2.2.1
      have b4 := (c.1.2.2.2.1 i hi).2.2.2.2
      have rv : ∀ b, b < 5 → p_X8_cell (nI i) (nI b) h = some (f b i, h) := by
        intro b hb
        have vb : h 143 (30 * b + i) = f b i := rd_r d hb hi
        unfold p_X8_cell
        rw [rC, ok2 q1, rq_io (lo := 0) (hi := 5) (by decide) (by decide), ok2 (okI_t (by rw [nI_toInt (by omega)]; omega) (by rw [nI_toInt (by omega)]; omega)), if_neg (nI_ge hb (by omega))]
        simp (disch := omega) only [pk_mul, nI_add, gd_i, nI_clamp, vb]
      rcases lt6 a2 with rfl | rfl | rfl | rfl | rfl | rfl
      · refine ⟨f 0 i, h, h, ?_, rv 0 (by omega), sim⟩
        unfold p_X7_cell; rw [hC, ok2 q1, if_pos rfl, gd_i (by omega) (by omega), nI_clamp (by omega), v0]
      · refine ⟨f 1 i, h, h, ?_, rv 1 (by omega), sim⟩
        unfold p_X7_cell; rw [hC, ok2 q1, if_neg (by decide), if_pos rfl, gd_i (by omega) (by omega), nI_clamp (by omega), v1]
      · refine ⟨f 2 i, h, h, ?_, rv 2 (by omega), sim⟩
        unfold p_X7_cell; rw [hC, ok2 q1, if_neg (by decide), if_neg (by decide), if_pos rfl, gd_i (by omega) (by omega), nI_clamp (by omega), v2]
      · refine ⟨f 3 i, h, h, ?_, rv 3 (by omega), sim⟩
        unfold p_X7_cell; rw [hC, ok2 q1, if_neg (by decide), if_neg (by decide), if_neg (by decide), if_pos rfl, gd_i (by omega) (by omega), nI_clamp (by omega), v3, q_one b3, bd2_s]
      · refine ⟨f 4 i, h, h, ?_, rv 4 (by omega), sim⟩
        unfold p_X7_cell; rw [hC, ok2 q1, if_neg (by decide), if_neg (by decide), if_neg (by decide), if_neg (by decide), if_pos rfl, gd_i (by omega) (by omega), nI_clamp (by omega), v4, q_one b4, bd2_s]
      · refine ⟨plc (fsN (fun j => decide (p 4 j = 0) && decide (p 0 j = nI i)) m), h, h, ?_, ?_, sim⟩
        · unfold p_X7_cell; rw [hC, ok2 q1, if_neg (by decide), if_neg (by decide), if_neg (by decide), if_neg (by decide), if_neg (by decide), if_pos rfl, q_wholeIn c.2.2.2.2.1 hm, bd2_s, c.2.2.2.1]
        · unfold p_X8_cell; rw [rC, ok2 q1, rq_io (lo := 0) (hi := 5) (by decide) (by decide), ok2 q2, if_pos (nI_le (Nat.le_refl 5) (by omega))]
          exact rq_wholeIn d.2.2.2.2.1 hm d.2.2.2.1
end
