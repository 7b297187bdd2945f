/-! questions: class and reference give one answer -/
def Qop (P R : kH → Option (Int32 × kH)) (h : kH) : Prop := ∃ r h1 h2, P h = some (r, h1) ∧ R h1 = some (r, h2) ∧ Kp h h1 ∧ Rk h1 h2
theorem RI.kp {h h' : kH} {w g n m : Nat} {ru : Nat → Int32} {f p : kH} {go : Int32} (c : RI h w g n m ru f p go) (k : Kp h h') : RI h' w g n m ru f p go := c.k0 (fun q _ => k q (by omega) (by omega) (by omega)) (fun j _ => by rw [k 143 (by omega) (by omega) (by omega)])
theorem CI.kp {h h' : kH} {w g n m : Nat} {ru : Nat → Int32} {f p : kH} {go : Int32} (c : CI h w g n m ru f p go) (k : Kp h h') : CI h' w g n m ru f p go := c.k (fun q _ => k q (by omega) (by omega) (by omega))
theorem CI.rk {h h' : kH} {w g n m : Nat} {ru : Nat → Int32} {f p : kH} {go : Int32} (c : CI h w g n m ru f p go) (k : Rk h h') : CI h' w g n m ru f p go := c.k (fun q _ => k.2 q (by omega) (by omega) (by omega) (by omega) (by omega) (by omega) (by omega))
theorem mloss_0 {ru : Nat → Int32} {p : kH} {i : Nat} (h : bt (p 4 i) 0 6) : okI (mloss ru p i) 1 4 = (!decide (p 4 i < nI 1) && !decide (nI 4 < p 4 i)) := by
  obtain ⟨k, -, k2, k3⟩ := h
  unfold mloss
  rw [k3]
  by_cases z : k = 0
  · subst z
    rw [if_pos nI_00]
    by_cases y : p 3 i < ru 4
    · rw [if_pos y]; decide
    · rw [if_neg y]; decide
  · rw [if_neg (fun y => z ((nI_eq0 (by omega)).mp y))]
    rcases (show k = 1 ∨ k = 2 ∨ k = 3 ∨ k = 4 ∨ k = 5 ∨ k = 6 by omega) with rfl | rfl | rfl | rfl | rfl | rfl <;> decide
/-- how many are lost -/
def lostC (m : Nat) (p : kH) : Nat := cntN (fun i => !decide (p 4 i < nI 1) && !decide (nI 4 < p 4 i)) m
theorem rq_lossed0 {n m : Nat} {h : kH} (hc : h 138 0 = nI m) (hm : m ≤ 6) (hp : WfP n m (rP h 3 m)) : p_X8_lossed (nI 0) h = some (nI (lostC m (rP h 3 m)), h) := by
  unfold p_X8_lossed
  refine fx_m (fun i (a : Int32 × kH) => (nI 0, a.1, nI i, a.2)) (fun i a => a = (nI (cntN (fun i => !decide (rP h 3 m 4 i < nI 1) && !decide (nI 4 < rP h 3 m 4 i)) i), h)) (fun r => r = some (nI (cntN (fun i => !decide (rP h 3 m 4 i < nI 1) && !decide (nI 4 < rP h 3 m 4 i)) m), h)) m (by omega) (a := (nI 0, h)) rfl ?_ ?_
  · rintro i a hi rfl K hK
    dsimp only
    have eo : (decide ((1 : Int) ≤ (mloss (rR h) (rP h 3 m) i).toInt) && decide ((mloss (rR h) (rP h 3 m) i).toInt ≤ 4)) = (!decide (rP h 3 m 4 i < nI 1) && !decide (nI 4 < rP h 3 m 4 i)) := mloss_0 (hp i hi).2.2.2.1
    simp (disch := omega) only [p_X8_lossed_4, p_X8_lossed_65, gd_i, nI_clamp, hc, if_neg (nI_ge hi (show m < 2 ^ 31 by omega)), if_pos nI_00, rq_lossOf (s := 3) hi hm (by omega) hp, bd2_s, rq_in (lo := 1) (hi := 4) (a := 1) (b := 4) (by decide) (by decide), b1_if, eo, nI_add, le_d]
    cases q : (!decide (rP h 3 m 4 i < nI 1) && !decide (nI 4 < rP h 3 m 4 i))
    · exact hK (nI (cntN _ i + 0), h) (by rw [cntN_n q]; rfl)
    · exact hK (nI (cntN _ i + 1), h) (by rw [cntN_t q])
  · rintro a rfl K
    dsimp only
    simp (disch := omega) only [p_X8_lossed_4, gd_i, nI_clamp, hc, if_pos (nI_le (Nat.le_refl m) (show m < 2 ^ 31 by omega))]
theorem bad2 {B : Bool} {h : kH} {k : kH → Option (Int32 × kH)} (hB : B = false) : (bd2 (some (b1 B, h)) fun v h1 => if v = 0 then some ((-1 : Int32), h1) else k h1) = some (-1, h) := by
  rw [bd2_s, b1_if, hB]; rfl
theorem ok2 {B : Bool} {h : kH} {k : kH → Option (Int32 × kH)} (hB : B = true) : (bd2 (some (b1 B, h)) fun v h1 => if v = 0 then some ((-1 : Int32), h1) else k h1) = k h := by
  rw [bd2_s, b1_if, hB]; rfl
theorem rq_io {x : Int32} {a b : Int64} {lo hi : Int} {h : kH} (ha : a.toInt = lo) (hb : b.toInt = hi) : p_X8_in x.toInt64 a b h = some (b1 (okI x lo hi), h) := rq_in ha hb
theorem Kp.of {h h' : kH} (k : ∀ k, (k < 73 ∨ 90 < k) → k ≠ 133 → h' k = h k) : Kp h h' := fun q a b _ => k q (by omega) b
theorem Rk.of {h h' : kH} (j : ∀ j, j < 600 → h' 143 j = h 143 j) (k : ∀ k, k ≠ 143 → k ≠ 145 → k ≠ 146 → k ≠ 147 → h' k = h k) : Rk h h' := ⟨j, fun q a b c d _ _ _ => k q a b c d⟩
section
variable {w g n m : Nat} {ru : Nat → Int32} {f p : kH} {go : Int32} {h : kH}
theorem wfrN {N : Nat} {x : Int32} (s : WfS w g n m ru f p) (hx : bt x 0 9) : WfP n m (rN ru (fun _ => x) w n m N (f, p)).2 := wf_rN s.1 s.2.1 (U := 999) (by omega) s.2.2.2.1 s.2.2.2.2 N (fun _ _ => hx)
theorem op_run (c : CI h w g n m ru f p go) (d : RI h w g n m ru f p go) (x1 x2 x3 : Int32) : Qop (p_X7_run x1 x2 x3) (p_X8_run x1 x2 x3) h := by
  cases q : (okI x1 0 240 && okI x2 0 9)
  · refine ⟨-1, h, h, ?_, ?_, Kp.rf, Rk.rf⟩
    · unfold p_X7_run; rw [q_isRun]; exact bad2 q
    · unfold p_X8_run; rw [rq_isRun]; exact bad2 q
  · have hN := okI_n (lo := 0) (hi := 240) (by omega) (Bool.and_eq_true _ _ ▸ q).1
    have hx := okI_n (lo := 0) (hi := 9) (by omega) (Bool.and_eq_true _ _ ▸ q).2
    obtain ⟨N, -, N2, rfl⟩ := hN
    obtain ⟨y, -, y2, rfl⟩ := hx
    cases q3 : okI x3 0 1
    · refine ⟨-1, h, h, ?_, ?_, Kp.rf, Rk.rf⟩
      · unfold p_X7_run; rw [q_isRun, ok2 q]
        rcases okI_f q3 with z | z
        · rw [if_pos (lt_z.mpr z)]
        · rw [if_neg (show ¬ x3 < 0 by rw [lt_z]; omega), if_neg (show ¬ x3 ≤ nI 1 by rw [le_n (by omega)]; omega)]
      · unfold p_X8_run; rw [rq_isRun, ok2 q, rq_io (lo := 0) (hi := 1) (by decide) (by decide)]; exact bad2 q3
    · obtain ⟨h1, e1, v1, m1, -, k1⟩ := q_tryRun c N2 (bt_n (by omega) y2)
      have d1 := d.kp (Kp.of k1)
      obtain ⟨h2, e2, f2, p2, -, k2⟩ := rq_tries d1
      obtain ⟨h3, e3, t3, -, j3, k3⟩ := rq_runs (d1.rt k2 f2 p2) N2 y2
      have wp := wfrN (N := N) c.1 (bt_n (lo := 0) (hi := 9) (by omega) y2)
      have r1 : cR h1 28 = ru := by rw [← c.2.1]; exact cR_k (k1 _ (by omega) (by omega)) (k1 _ (by omega) (by omega)) (k1 _ (by omega) (by omega))
      have kk : Rk h1 h3 := k2.tr (Rk.of j3 k3)
      obtain ⟨k, -, kk2, rfl⟩ := okI_n (lo := 0) (hi := 1) (by omega) q3
      by_cases z : k = 0
      · subst z
        refine ⟨nI (good ru m (rN ru (fun _ => nI y) w n m N (f, p)).2), h1, h3, ?_, ?_, Kp.of k1, kk⟩
        · unfold p_X7_run
          rw [q_isRun, ok2 q, if_neg (nI_pos (by omega)), if_pos (nI_le (by omega) (by omega)), bd_o e1, if_pos nI_00, q_countGood m1 c.1.2.2.1, bd2_s, r1, v1]
          rfl
        · unfold p_X8_run
          rw [rq_isRun, ok2 q, rq_io (lo := 0) (hi := 1) (by decide) (by decide), ok2 q3, bd_o e2, bd2_o e3, if_pos nI_00]
      · refine ⟨nI (lostC m (rN ru (fun _ => nI y) w n m N (f, p)).2), h1, h3, ?_, ?_, Kp.of k1, kk⟩
        · unfold p_X7_run
          rw [q_isRun, ok2 q, if_neg (nI_pos (by omega)), if_pos (nI_le (by omega) (by omega)), bd_o e1, if_neg (fun y => z ((nI_eq0 (by omega)).mp y)), q_countLost m1 c.1.2.2.1, bd2_s, v1]
          rfl
        · unfold p_X8_run
          rw [rq_isRun, ok2 q, rq_io (lo := 0) (hi := 1) (by decide) (by decide), ok2 q3, bd_o e2, bd2_o e3, if_neg (fun y => z ((nI_eq0 (by omega)).mp y)), rq_lossed0 (n := n) t3.2.2.2.2.2.2.2.2.2 c.1.2.2.1 (by rw [t3.2.2.2.2.2.2.2.2.1]; exact wp), bd2_s, t3.2.2.2.2.2.2.2.2.1]
end
