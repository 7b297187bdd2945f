/-! covers, lights, pots taken, what is read -/
section
variable {w g n m : Nat} {ru : Nat → Int32} {f p f' p' : kH} {go go' : Int32} {h h1 h2 h' : kH}
theorem sim_f {a i : Nat} {v : Int32} (c : CI h w g n m ru f p go) (d : RI h w g n m ru f p go) (ds : Dst m p) (rs : Rs h w g n m ru) (ha : a < 5) (hi : i < n) (wf : WfF n 3000 999 (hs f a i v)) : Sim (hs (hs h (32 + 1 + a) i v) 143 (30 * a + i) v) := by
  have hn30 := n_le c.1.2.1 c.1.1.2.2.1.2 c.1.1.2.2.2.1.2
  refine Sim.st c d rs (f' := hs f a i v) (p' := p) ⟨c.1.1, c.1.2.1, c.1.2.2.1, wf, c.1.2.2.2.2⟩ ds (h1 := hs h (32 + 1 + a) i v) (fun k a _ _ => hs_k (by omega)) ?_ ?_ ?_ (by rw [hs_k (by omega)]) (fun j a b => hs_i (by omega)) (fun k a _ _ _ => hs_k a) ?_ ?_ ?_
  · rw [← c.2.2.1]; exact cF_hs (F := 32) ha hi
  · rw [← c.2.2.2.1]; exact cP_k (fun k _ _ => hs_k (by omega))
  · rw [hs_k (by omega)]; exact c.2.2.2.2.1
  · rw [rF_hs a ha hi hn30 (by omega), rF_e (h := h) hn30 (fun j _ _ => by rw [hs_k (by omega)]), d.2.2.1]
  · rw [rP_e (h := h) d.1.2.2.1 (fun j _ _ => by rw [hs_i (by omega), hs_k (by omega)]) (by rw [hs_k (by omega), hs_k (by omega)]) (by rw [hs_k (by omega), hs_k (by omega)]), d.2.2.2.1]
  · rw [hs_i (by omega), hs_k (by omega), d.2.2.2.2.2, c.2.2.2.2.2]
theorem wf_c {i : Nat} {v : Int32} (hf : WfF n 3000 999 f) (hv : bt v 0 1) : WfF n 3000 999 (hs f 4 i v) := by
  intro q hq
  have := hf q hq
  by_cases e : q = i
  · subst e
    simp (disch := omega) only [hs_k, hs_s]
    exact ⟨this.1, this.2.1, this.2.2.1, this.2.2.2.1, hv⟩
  · simp (disch := omega) only [hs_i]
    exact this
theorem wf_l {i : Nat} {v : Int32} (hf : WfF n 3000 999 f) (hv : bt v 0 1) : WfF n 3000 999 (hs f 3 i v) := by
  intro q hq
  have := hf q hq
  by_cases e : q = i
  · subst e
    simp (disch := omega) only [hs_k, hs_s]
    exact ⟨this.1, this.2.1, this.2.2.1, hv, this.2.2.2.2⟩
  · simp (disch := omega) only [hs_i]
    exact this
theorem rd_c {a i : Nat} (c : CI h w g n m ru f p go) (ha : a < 5) (hi : i < n) : h (32 + 1 + a) i = f a i := by rw [← c.2.2.1, cF_at ha hi]
theorem rd_r {a i : Nat} (d : RI h w g n m ru f p go) (ha : a < 5) (hi : i < n) : h 143 (30 * a + i) = f a i := by
  rw [← d.2.2.1, rF_at ha hi]; congr 1; omega
theorem op_light (c : CI h w g n m ru f p go) (d : RI h w g n m ru f p go) (ds : Dst m p) (rs : Rs h w g n m ru) (x1 : Int32) : Oop (p_X7_light x1) (p_X8_light x1) h := by
  have hn30 := n_le c.1.2.1 c.1.1.2.2.1.2 c.1.1.2.2.2.1.2
  have hn0 := n_pos c.1.2.1 c.1.1.2.2.1.1 c.1.1.2.2.2.1.1
  have hC := q_isCell (x := x1) (h := h) (by rw [c.2.1]; exact c.1.1) c.1.2.1
  have rC : ∀ h1 : kH, h1 137 = h 137 → p_X8_isCell x1 h1 = some (b1 (okI x1 0 ((n - 1 : Nat) : Int)), h1) := fun h1 e => rq_isCell (by rw [rR_e (h := h) e, d.2.1]; exact d.1.1) d.1.2.1
  cases q1 : okI x1 0 ((n - 1 : Nat) : Int)
  · exact ⟨-1, h, h, by unfold p_X7_light; rw [hC]; exact bad2 q1, by unfold p_X8_light; rw [rC h rfl]; exact bad2 q1, w, g, n, m, ru, f, p, go, c, d, ds, rs⟩
  · obtain ⟨i, hi, rfl⟩ := okC hn0 hn30 q1
    have e3 : h 36 i = f 3 i := rd_c c (a := 3) (by omega) hi
    have r3 : h 143 (90 + i) = f 3 i := rd_r d (a := 3) (by omega) hi
    have b3 := (c.1.2.2.2.1 i hi).2.2.2.1
    refine ⟨f 3 i, hs h 36 i (nI 1), hs (hs h 36 i (nI 1)) 143 (90 + i) (nI 1), ?_, ?_, sim_f c d ds rs (a := 3) (by omega) hi (wf_l c.1.2.2.2.1 (bt_n (by omega) (by omega)))⟩
    · unfold p_X7_light; rw [hC, ok2 q1]
      simp (disch := omega) only [gd_i, nI_clamp, e3, q_one b3, bd2_s, le_d, nar_b1]
    · unfold p_X8_light; rw [rC _ (hs_k (by omega)), ok2 q1]
      simp (disch := omega) only [gd_i, nI_clamp, nI_add, hs_k, r3, le_d]
theorem op_cover (c : CI h w g n m ru f p go) (d : RI h w g n m ru f p go) (ds : Dst m p) (rs : Rs h w g n m ru) (x1 x2 : Int32) (hx2 : bt x2 0 1) : Oop (p_X7_cover x1 x2) (p_X8_cover x1 x2) h := by
  have hn30 := n_le c.1.2.1 c.1.1.2.2.1.2 c.1.1.2.2.2.1.2
  have hn0 := n_pos c.1.2.1 c.1.1.2.2.1.1 c.1.1.2.2.2.1.1
  have hC := q_isCell (x := x1) (h := h) (by rw [c.2.1]; exact c.1.1) c.1.2.1
  have rC : ∀ h1 : kH, h1 137 = h 137 → p_X8_isCell x1 h1 = some (b1 (okI x1 0 ((n - 1 : Nat) : Int)), h1) := fun h1 e => rq_isCell (by rw [rR_e (h := h) e, d.2.1]; exact d.1.1) d.1.2.1
  cases q1 : okI x1 0 ((n - 1 : Nat) : Int)
  · exact ⟨-1, h, h, by unfold p_X7_cover; rw [hC]; exact bad2 q1, by unfold p_X8_cover; rw [rC h rfl]; exact bad2 q1, w, g, n, m, ru, f, p, go, c, d, ds, rs⟩
  · obtain ⟨i, hi, rfl⟩ := okC hn0 hn30 q1
    have e4 : h 37 i = f 4 i := rd_c c (a := 4) (by omega) hi
    have r4 : h 143 (120 + i) = f 4 i := rd_r d (a := 4) (by omega) hi
    have b4 := (c.1.2.2.2.1 i hi).2.2.2.2
    refine ⟨f 4 i, hs h 37 i x2, hs (hs h 37 i x2) 143 (120 + i) x2, ?_, ?_, sim_f c d ds rs (a := 4) (by omega) hi (wf_c c.1.2.2.2.1 hx2)⟩
    · unfold p_X7_cover; rw [hC, ok2 q1]
      simp (disch := omega) only [gd_i, nI_clamp, e4, q_one b4, bd2_s, le_d, nar_b hx2]
    · unfold p_X8_cover; rw [rC _ (hs_k (by omega)), ok2 q1]
      simp (disch := omega) only [p_X8_cover_37, gd_i, nI_clamp, nI_add, hs_k, r4, le_d]
      obtain ⟨b, -, b2, rfl⟩ := hx2
      by_cases e : b = 0
      · subst e; rw [if_pos nI_00]
      · have : b = 1 := by omega
        subst this; rw [if_neg nI_10]
theorem op_take (c : CI h w g n m ru f p go) (d : RI h w g n m ru f p go) (ds : Dst m p) (rs : Rs h w g n m ru) (x1 : Int32) : Oop (p_X7_take x1) (p_X8_take x1) h := by
  have hm := c.1.2.2.1
  have hn30 := n_le c.1.2.1 c.1.1.2.2.1.2 c.1.1.2.2.2.1.2
  have hP := q_isPot (x := x1) (h := h) c.2.2.2.2.1 hm
  have rP' : ∀ h1 : kH, h1 138 = h 138 → p_X8_isPot x1 h1 = some (b1 (okI x1 0 ((m : Int) - 1)), h1) := fun h1 e => rq_isPot (by rw [e]; exact d.2.2.2.2.1) hm
  have bad : ∀ v : Int32, p_X7_take x1 h = some (v, h) → p_X8_take x1 h = some (v, h) → Oop (p_X7_take x1) (p_X8_take x1) h := fun v a b => ⟨v, h, h, a, b, w, g, n, m, ru, f, p, go, c, d, ds, rs⟩
  cases q1 : okI x1 0 ((m : Int) - 1)
  · exact bad (-1) (by unfold p_X7_take; rw [hP]; exact bad2 q1) (by unfold p_X8_take; rw [rP' h rfl]; exact bad2 q1)
  · obtain ⟨i, hi, rfl⟩ := okP hm q1
    have e4 : h 47 i = p 4 i := by rw [← c.2.2.2.1, cP_at (a := 4) (by omega) hi]; rfl
    have el := q_lossOf (P := 39) (R := 28) (h := h) hi hm
    rw [c.2.1, c.2.2.2.1] at el
    have wh : ∀ h1 : kH, rP h1 0 m = p → p_X8_isWhole (nI 0) (nI i) h1 = some (b1 (decide (p 4 i = 0)), h1) := fun h1 e => by rw [rq_isWhole (s := 0) hi hm (by omega), e]
    by_cases z : p 4 i = 0
    · have fr : rP (hs h 47 i (nI 6)) 0 m = p := by rw [rP_e (h := h) hm (fun j _ _ => by rw [hs_k (by omega)]) (hs_k (by omega)) (hs_k (by omega))]; exact d.2.2.2.1
      have rr : rR (hs h 47 i (nI 6)) = ru := by rw [rR_e (h := h) (hs_k (by omega))]; exact d.2.1
      have rl := rq_lossOf (s := 0) (n := n) (h := hs h 47 i (nI 6)) hi hm (by omega) (by rw [fr]; exact d.1.2.2.2.2)
      rw [rr, fr] at rl
      refine ⟨mloss ru p i, hs h 47 i (nI 6), hs (hs h 47 i (nI 6)) 143 (200 * 0 + 150 + 8 * i + 4) (nI 6), ?_, ?_, ?_⟩
      · unfold p_X7_take; rw [hP, ok2 q1]
        simp (disch := omega) only [gd_i, nI_clamp, e4, if_pos z, el, bd2_s, le_d]
      · unfold p_X8_take; rw [rP' _ (hs_k (by omega)), ok2 q1, wh _ fr, bd2_s, b1_if, if_pos (decide_eq_true z), rl]
        simp (disch := omega) only [bd2_s, rq_potAt, gd_i, nI_clamp, nI_add, le_d]
      · have wp : WfP n m (hs p 4 i (nI 6)) := by
          refine One.wf one_hs c.1.2.2.2.2 ?_
          obtain ⟨h0, h1, h2, h4, h5, h6, h7, h8⟩ := c.1.2.2.2.2 i hi
          unfold W1
          simp (disch := omega) only [hs_k, hs_s]
          exact ⟨h0, h1, h2, bt_n (by omega) (by omega), h5, h6, h7, h8⟩
        refine Sim.st c d rs (f' := f) (p' := hs p 4 i (nI 6)) ⟨c.1.1, c.1.2.1, c.1.2.2.1, c.1.2.2.2.1, wp⟩ (fun a b ha hb e => ds a b ha hb (by rw [hs_k (by omega)] at e; exact e)) (h1 := hs h 47 i (nI 6)) (fun k a _ _ => hs_k (by omega)) ?_ ?_ ?_ (by rw [hs_k (by omega)]) (fun j a b => hs_i (by omega)) (fun k a _ _ _ => hs_k a) ?_ ?_ ?_
        · rw [← c.2.2.1]; exact cF_k (fun a _ => hs_k (by omega))
        · rw [← c.2.2.2.1]; exact cP_hs (P := 39) 4 (by omega) hi
        · rw [hs_k (by omega)]; exact c.2.2.2.2.1
        · rw [rF_e (h := h) hn30 (fun j _ _ => by rw [hs_i (by omega), hs_k (by omega)]), d.2.2.1]
        · rw [rP_hs 4 (by omega) hi rfl, fr]
        · rw [hs_i (by omega), hs_k (by omega), d.2.2.2.2.2, c.2.2.2.2.2]
    · refine bad (-2) ?_ ?_
      · unfold p_X7_take; rw [hP, ok2 q1]
        simp (disch := omega) only [gd_i, nI_clamp, e4, if_neg z]
      · unfold p_X8_take; rw [rP' _ rfl, ok2 q1, wh _ d.2.2.2.1, bd2_s, b1_if, if_neg (by simp [z])]
end
