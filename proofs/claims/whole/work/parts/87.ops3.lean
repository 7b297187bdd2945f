/-! enough -/
theorem itr_all {a : Nat} {g : Int32 → Int32} {f : kH} : ∀ n, itr (fun c q => hs q a c (g (f a c))) n f = mall a n g f
  | 0 => by
    funext a' c
    rw [itr_0, mall, if_neg (by omega)]
  | n + 1 => by
    have e : itr (fun c q => hs q a c (g (f a c))) (n + 1) f = hs (itr (fun c q => hs q a c (g (f a c))) n f) a n (g (f a n)) := itr_s (fun c q => hs q a c (g (f a c))) n f
    rw [e, itr_all n]
    funext a' c
    rw [hs_r]
    unfold mall
    by_cases q : a' = a ∧ c = n
    · rw [if_pos q, if_pos (by omega), q.2]
    · rw [if_neg q]
      by_cases q2 : a' = a ∧ c < n
      · rw [if_pos q2, if_pos (by omega)]
      · rw [if_neg q2, if_neg (by omega)]
theorem mall_at {a n a' c : Nat} {g : Int32 → Int32} {f : kH} : mall a n g f a' c = if a' = a ∧ c < n then g (f a c) else f a' c := rfl
theorem wf_share {n U s : Nat} {f : kH} (hf : WfF n 3000 U f) (hU : U ≤ 999) (hs : s ≤ 200) : WfF n 3000 2000 (mall 1 n (fun v => v * nI s / nI 100) f) := by
  intro c hc
  obtain ⟨h0, ⟨u, u1, u2, u3⟩, h2, h3, h4⟩ := hf c hc
  rw [mall_at, mall_at, mall_at, mall_at, mall_at, if_neg (by omega), if_pos ⟨rfl, hc⟩, if_neg (by omega), if_neg (by omega), if_neg (by omega), u3, pk_mul]
  have hm : u * s ≤ 999 * 200 := Nat.mul_le_mul (by omega) hs
  rw [pk_div (by omega) (by omega) (by omega)]
  exact ⟨h0, bt_n (by omega) (by omega), h2, h3, h4⟩
theorem Qop.of {P R : kH → Option (Int32 × kH)} {h : kH} {v : Int32} (a : okp (fun q : Int32 × kH => q.1 = v ∧ Kp h q.2) (P h)) (b : ∀ h1, Kp h h1 → okp (fun q : Int32 × kH => q.1 = v ∧ Rk h1 q.2) (R h1)) : Qop P R h := by
  obtain ⟨⟨r1, h1⟩, e1, v1, k1⟩ := a
  obtain ⟨⟨r2, h2⟩, e2, v2, k2⟩ := b h1 k1
  have v1 : r1 = v := v1
  have v2 : r2 = v := v2
  subst v1
  subst v2
  exact ⟨r2, h1, h2, e1, e2, k1, k2⟩
/-- a place found, in tens from 10 on, or none -/
def plE : Option Nat → Int32
  | some j => nI (10 + 10 * j)
  | none => -4
section
variable {w g n m : Nat} {ru : Nat → Int32} {f p : kH} {go : Int32} {h : kH}
def enB (ru : Nat → Int32) (y w n m N K : Nat) (f p : kH) (k : Nat) : Bool := !decide (nI (good ru m (rN ru (fun _ => nI y) w n m N (mall 1 n (fun v => v * nI (10 + 10 * k) / nI 100) f, p)).2) < nI K)
theorem c_en (c : CI h w g n m ru f p go) {K N y : Nat} (N2 : N ≤ 240) (y2 : y ≤ 9) : okp (fun q : Int32 × kH => q.1 = plE (fsN (enB ru y w n m N K f p) 20) ∧ Kp h q.2) (fx (fun K25 s => p_X7_enough_25 K25 s.1 s.2.1 s.2.2.1 s.2.2.2.1 s.2.2.2.2) FU (nI K, nI N, nI y, nI 10, h)) := by
  have hm := c.1.2.2.1
  have hn30 := n_le c.1.2.1 c.1.1.2.2.1.2 c.1.1.2.2.2.1.2
  refine fx_m (fun i (h : kH) => (nI K, nI N, nI y, nI (10 + 10 * i), h)) (fun i h1 => Kp h h1 ∧ fsN (enB ru y w n m N K f p) i = none) _ 20 (by omega) ⟨Kp.rf, rfl⟩ ?_ ?_
  · intro i h1 hi ⟨kp, hno⟩ K' hK'
    have c1 := c.kp kp
    obtain ⟨⟨hr, hn, -, hf, hp⟩, a1, a2, a3, a4, a5⟩ := c1
    obtain ⟨h2, e2, f2, p2, n2, -, k2⟩ := q_heapCopy (B := 71) (B2 := 31) (n := n) (m := m) (H := 3000) (U := 999) (h := h1) (by omega) hn30 hm (by rw [show 31 + 1 = 32 from rfl, a2]; exact hf) (by rw [show 31 + 8 = 39 from rfl, a3]; exact hp)
    obtain ⟨h3, e3, v3, k3⟩ := q_shareFuel (F := 72) (x := nI (10 + 10 * i)) (h := h2)
    have f3 : cF h3 72 n = mall 1 n (fun v => v * nI (10 + 10 * i) / nI 100) f := by
      rw [cF_all (h := h2) (a := 1) (g := fun v => v * nI (10 + 10 * i) / nI 100) (by omega) (fun c hc => v3 c (by omega)) k3, show cF h2 72 n = f from f2.trans a2]
    have p3 : cP h3 79 m = p := by rw [cP_k (h := h2) (fun k _ _ => k3 k (by omega))]; exact p2.trans a3
    have r3 : cR h3 28 = ru := by rw [← a1]; exact cR_k (by rw [k3 _ (by omega), k2 _ (by omega)]) (by rw [k3 _ (by omega), k2 _ (by omega)]) (by rw [k3 _ (by omega), k2 _ (by omega)])
    obtain ⟨h4, e4, v4, n4, k4⟩ := q_goOn (r := 0) (N := N) (x := nI y) (h := h3) r3 hr hn hm N2 (by omega) (bt_n (by omega) y2) (U := 2000) (by omega) (wf_share hf (by omega) (by omega)) hp f3 p3 (by rw [k3 _ (by omega)]; exact n2.trans a4)
    have r4 : cR h4 28 = ru := by rw [← r3]; exact cR_k (k4 _ (by omega) (by omega)) (k4 _ (by omega) (by omega)) (k4 _ (by omega) (by omega))
    have kp4 : Kp h h4 := fun q q1 q2 q3 => by rw [k4 q (by omega) q2, k3 q (by omega), k2 q (by omega), kp q q1 q2 q3]
    simp only [p_X7_enough_25, if_neg (nI_nlt (show 10 + 10 * i ≤ 200 by omega) (show 200 < 2 ^ 31 by omega)), bd_o e2, bd_o e3, bd_o e4, q_countGood n4 hm, bd2_s, r4, v4, nI_add]
    rw [Nat.sub_zero]
    cases qb : enB ru y w n m N K f p i
    · have qc : nI (good ru m (rN ru (fun _ => nI y) w n m N (mall 1 n (fun v => v * nI (10 + 10 * i) / nI 100) f, p)).2) < nI K := by
        unfold enB at qb
        rw [Bool.not_eq_false', decide_eq_true_eq] at qb
        exact qb
      rw [if_pos (show nI (cntN _ m) < nI K from qc)]
      exact hK' h4 ⟨kp4, fsN_no hno qb⟩
    · have qc : ¬ nI (good ru m (rN ru (fun _ => nI y) w n m N (mall 1 n (fun v => v * nI (10 + 10 * i) / nI 100) f, p)).2) < nI K := by
        unfold enB at qb
        rw [Bool.not_eq_true', decide_eq_false_iff_not] at qb
        exact qb
      rw [if_neg (show ¬ nI (cntN _ m) < nI K from qc)]
      exact okp_s ⟨by rw [fsN_hit hno qb hi]; rfl, kp4⟩
  · intro h1 ⟨kp, hno⟩ K'
    simp only [p_X7_enough_25, if_pos (nI_lt (show 200 < 10 + 10 * 20 by omega) (show 10 + 10 * 20 < 2 ^ 31 by omega))]
    exact okp_s ⟨by rw [hno]; rfl, kp⟩
/-- the reference sets an attribute of all cells of its trial -/
theorem RT.all {w g n m U U' a : Nat} {ru : Nat → Int32} {f f' p : kH} {h h' : kH} (c : RT h w g n m U ru f p) (hU : U' < 100000) (hf : WfF n 3000 U' f') (e1 : rF h' 3 n = f') (j : ∀ j, 750 ≤ j → h' 143 j = h 143 j) (k : ∀ k, k ≠ 143 → h' k = h k) : RT h' w g n m U' ru f' p := by
  obtain ⟨d1, d2, d3, d4, d5, d6, d7, d8, d9, d10⟩ := c
  exact ⟨d1, d2, d3, hf, hU, d6, by rw [← d7]; exact rR_e (k _ (by omega)), e1, by rw [← d9]; exact rP_e d3 (fun i _ _ => j i (by omega)) (k _ (by omega)) (k _ (by omega)), by rw [k _ (by omega)]; exact d10⟩
theorem r_en (d : RI h w g n m ru f p go) {K N y : Nat} (N2 : N ≤ 240) (y2 : y ≤ 9) : okp (fun q : Int32 × kH => q.1 = plE (fsN (enB ru y w n m N K f p) 20) ∧ Rk h q.2) (fx (fun K26 s => p_X8_enough_26 K26 s.1 s.2.1 s.2.2.1 s.2.2.2.1 s.2.2.2.2) FU (nI K, nI N, nI y, nI 10, h)) := by
  have hm := d.1.2.2.1
  have hn30 := n_le d.1.2.1 d.1.1.2.2.1.2 d.1.1.2.2.2.1.2
  refine fx_m (fun i (h : kH) => (nI K, nI N, nI y, nI (10 + 10 * i), h)) (fun i h1 => Rk h h1 ∧ fsN (enB ru y w n m N K f p) i = none) _ 20 (by omega) ⟨Rk.rf, rfl⟩ ?_ ?_
  · intro i h1 hi ⟨rk, hno⟩ K' hK'
    have d1 := d.k rk
    obtain ⟨h2, e2, f2, p2, -, k2⟩ := rq_tries d1
    have d2 := d1.k k2
    have t2 := d1.rt k2 f2 p2
    simp only [p_X8_enough_26, if_neg (nI_nlt (show 10 + 10 * i ≤ 200 by omega) (show 200 < 2 ^ 31 by omega)), bd_o e2]
    refine fx_m (fun c (h : kH) => (nI K, nI N, nI y, nI (10 + 10 * i), nI c, h)) (fun c h3 => rF h3 3 n = itr (fun c q => hs q 1 c ((fun v => v * nI (10 + 10 * i) / nI 100) (f 1 c))) c f ∧ (∀ j, (j < 630 ∨ 750 ≤ j) → h3 143 j = h2 143 j) ∧ ∀ k, k ≠ 143 → h3 k = h2 k) _ n (by omega) ⟨f2, fun _ _ => rfl, fun _ _ => rfl⟩ ?_ ?_
    · intro c h3 hc ⟨v3, j3, k3⟩ K3 hK3
      have g7 : h3 137 = h2 137 := k3 _ (by omega)
      have r2 : rR h2 = ru := d2.2.1
      have w30 : h3 143 (30 + c) = f 1 c := by rw [j3 _ (by omega), ← d2.2.2.1, rF_at (a := 1) (by omega) hc]
      simp (disch := omega) only [p_X8_enough_41, rq_cells (h := h3) (w := w) (g := g) (by rw [g7]; have := d2.1.1.1; rw [← r2] at this; exact this) (by rw [g7]; have := d2.1.1.2.1; rw [← r2] at this; exact this) d.1.2.1, bd2_s, if_neg (nI_ge hc (show n < 2 ^ 31 by omega)), nI_add, gd_i, nI_clamp, le_d, w30]
      refine hK3 _ ⟨?_, fun j jj => by rw [hs_i (by omega)]; exact j3 j jj, fun k kk => by rw [hs_k kk]; exact k3 k kk⟩
      rw [rF_hs 1 (by omega) hc hn30 (by omega), v3]
      exact (itr_s (fun c q => hs q 1 c ((fun v => v * nI (10 + 10 * i) / nI 100) (f 1 c))) c f).symm
    · intro h3 ⟨v3, j3, k3⟩ K3
      have g7 : h3 137 = h2 137 := k3 _ (by omega)
      have r2 : rR h2 = ru := d2.2.1
      have t3 : RT h3 w g n m 2000 ru (mall 1 n (fun v => v * nI (10 + 10 * i) / nI 100) f) p := t2.all (a := 1) (by omega) (wf_share d.1.2.2.2.1 (by omega) (by omega)) (by rw [v3]; exact itr_all (a := 1) (g := fun v => v * nI (10 + 10 * i) / nI 100) (f := f) n) (fun j jj => j3 j (by omega)) k3
      obtain ⟨h4, e4, t4, -, j4, k4⟩ := rq_runs t3 N2 y2
      have rk4 : Rk h h4 := rk.tr (k2.tr ⟨fun j jj => by rw [j4 j jj, j3 j (by omega)], fun q a1 a2 a3 a4 _ _ _ => by rw [k4 q a1 a2 a3 a4, k3 q a1]⟩)
      simp (disch := omega) only [p_X8_enough_41, rq_cells (h := h3) (w := w) (g := g) (by rw [g7]; have := d2.1.1.1; rw [← r2] at this; exact this) (by rw [g7]; have := d2.1.1.2.1; rw [← r2] at this; exact this) d.1.2.1, bd2_s, if_pos (nI_le (Nat.le_refl n) (show n < 2 ^ 31 by omega)), bd2_o e4, nI_add]
      cases qb : enB ru y w n m N K f p i
      · have qc : nI (good ru m (rN ru (fun _ => nI y) w n m N (mall 1 n (fun v => v * nI (10 + 10 * i) / nI 100) f, p)).2) < nI K := by
          unfold enB at qb
          rw [Bool.not_eq_false', decide_eq_true_eq] at qb
          exact qb
        rw [if_pos qc]
        exact hK' h4 ⟨rk4, fsN_no hno qb⟩
      · have qc : ¬ nI (good ru m (rN ru (fun _ => nI y) w n m N (mall 1 n (fun v => v * nI (10 + 10 * i) / nI 100) f, p)).2) < nI K := by
          unfold enB at qb
          rw [Bool.not_eq_true', decide_eq_false_iff_not] at qb
          exact qb
        rw [if_neg qc]
        exact okp_s ⟨by rw [fsN_hit hno qb hi]; rfl, rk4⟩
  · intro h1 ⟨rk, hno⟩ K'
    simp only [p_X8_enough_26, if_pos (nI_lt (show 200 < 10 + 10 * 20 by omega) (show 10 + 10 * 20 < 2 ^ 31 by omega))]
    exact okp_s ⟨by rw [hno]; rfl, rk⟩
theorem op_enough (c : CI h w g n m ru f p go) (d : RI h w g n m ru f p go) (x1 x2 x3 : Int32) : Qop (p_X7_enough x1 x2 x3) (p_X8_enough x1 x2 x3) h := by
  cases qk : okI x1 1 6
  · refine ⟨-1, h, h, ?_, ?_, Kp.rf, Rk.rf⟩
    · unfold p_X7_enough
      rcases okI_f qk with z | z
      · rw [if_pos (show x1 < nI 1 by rw [lt_n (by omega)]; omega)]
      · rw [if_neg (show ¬ x1 < nI 1 by rw [lt_n (by omega)]; omega), if_pos (show nI 6 < x1 by rw [n_lt (by omega)]; omega)]
    · unfold p_X8_enough; rw [rq_io (lo := 1) (hi := 6) (by decide) (by decide)]; exact bad2 qk
  · obtain ⟨K, K1, K2, rfl⟩ := okI_n (lo := 1) (hi := 6) (by omega) qk
    have eC : p_X7_enough (nI K) x2 x3 h = (bd2 (p_X7_isRun x2 x3 h) fun v3 h1 => if v3 = 0 then some ((-1 : Int32), h1) else fx (fun K25 s => p_X7_enough_25 K25 s.1 s.2.1 s.2.2.1 s.2.2.2.1 s.2.2.2.2) FU (nI K, x2, x3, (nI 10), h1)) := by
      unfold p_X7_enough
      rw [if_neg (nI_nlt K1 (by omega)), if_neg (nI_nlt K2 (by omega))]
    cases q : (okI x2 0 240 && okI x3 0 9)
    · refine ⟨-1, h, h, ?_, ?_, Kp.rf, Rk.rf⟩
      · rw [eC, q_isRun]; exact bad2 q
      · unfold p_X8_enough; rw [rq_io (lo := 1) (hi := 6) (by decide) (by decide), ok2 qk, rq_isRun]; exact bad2 q
    · obtain ⟨N, -, N2, rfl⟩ := okI_n (lo := 0) (hi := 240) (by omega) (and_t q).1
      obtain ⟨y, -, y2, rfl⟩ := okI_n (lo := 0) (hi := 9) (by omega) (and_t q).2
      refine Qop.of (v := plE (fsN (enB ru y w n m N K f p) 20)) ?_ (fun h1 k1 => ?_)
      · rw [eC, q_isRun, ok2 q]; exact c_en c N2 y2
      · unfold p_X8_enough; rw [rq_io (lo := 1) (hi := 6) (by decide) (by decide), ok2 qk, rq_isRun, ok2 q]; exact r_en (d.kp k1) N2 y2
end
