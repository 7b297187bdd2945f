/-! sherd, the reference and both -/
theorem rq_tries' {w g n m : Nat} {ru : Nat → Int32} {f p : kH} {go : Int32} {h : kH} (c : RI h w g n m ru f p go) : ∃ h', p_X8_tries h = some h' ∧ rF h' 3 n = f ∧ rP h' 3 m = p ∧ (∀ i, i < m → h' 146 i = mmx (nI 0) (f 0 (p 0 i).toNatClampNeg)) ∧ Rk h h' ∧ ∀ k, k ≠ 143 → k ≠ 146 → h' k = h k := by
  obtain ⟨⟨hr, hn, hm, hf, hp⟩, c1, c2, c3, c4, c5⟩ := c
  have hn30 := n_le hn hr.2.2.1.2 hr.2.2.2.1.2
  have hn0 := n_pos hn hr.2.2.1.1 hr.2.2.2.1.1
  obtain ⟨h1, e1, v1, j1, k1⟩ := rq_copies (a := 0) (b := 3) (h := h) (by omega) (by omega) (by omega)
  have f1 : rF h1 3 n = f := by rw [rF_cp hn30 v1, c2]
  have p1 : rP h1 3 m = p := by rw [rP_cp hm v1 (k1 _ (by omega)) (k1 _ (by omega)), c3]
  show okp (fun h' : kH => rF h' 3 n = f ∧ rP h' 3 m = p ∧ (∀ i, i < m → h' 146 i = mmx (nI 0) (f 0 (p 0 i).toNatClampNeg)) ∧ Rk h h' ∧ ∀ k, k ≠ 143 → k ≠ 146 → h' k = h k) _
  unfold p_X8_tries
  rw [bd_o e1]
  refine fx_m (fun i (h : kH) => (nI i, h)) (fun i h2 => (∀ j, j < i → h2 146 j = nI 0) ∧ ∀ k, k ≠ 146 → h2 k = h1 k) _ 6 (by omega) ⟨fun j hj => absurd hj (by omega), fun _ _ => rfl⟩ ?_ ?_
  · intro i h2 hi ⟨hv, hk⟩ K hK
    simp (disch := omega) only [p_X8_tries_8, if_neg (nI_ge hi (show 6 < 2 ^ 31 by omega)), gd_i, nI_clamp, le_d, nI_add]
    refine hK _ ⟨fun j hj => ?_, fun k q => by rw [hs_k q]; exact hk k q⟩
    by_cases e : j = i
    · subst e; rw [hs_s]
    · rw [hs_i e]; exact hv j (by omega)
  · intro h2 ⟨hv, hk⟩ K
    have p2 : rP h2 3 m = p := by rw [← p1]; exact rP_e hm (fun j _ _ => by rw [hk _ (by omega)]) (hk _ (by omega)) (hk _ (by omega))
    have f2 : rF h2 3 n = f := by rw [← f1]; exact rF_e hn30 (fun j _ _ => by rw [hk _ (by omega)])
    obtain ⟨h3, e3, v3, k3⟩ := rq_looks (h := h2) (m := m) (n := n) (by rw [hk _ (by omega), k1 _ (by omega)]; exact c4) hm hn30 hn0 (by rw [p2]; exact hp)
    simp only [p_X8_tries_8, if_pos (nI_le (Nat.le_refl 6) (show 6 < 2 ^ 31 by omega)), bd_o e3]
    refine okp_s ⟨by rw [← f2]; exact rF_e hn30 (fun j _ _ => by rw [k3 _ (by omega)]), by rw [← p2]; exact rP_e hm (fun j _ _ => by rw [k3 _ (by omega)]) (k3 _ (by omega)) (k3 _ (by omega)), fun i hi => ?_, ⟨fun j hj => by rw [k3 _ (by omega), hk _ (by omega), j1 _ (by omega)], fun k q1 q2 q3 q4 q5 q6 q7 => by rw [k3 k q3, hk k q3, k1 k q1]⟩, fun k q1 q3 => by rw [k3 k q3, hk k q3, k1 k q1]⟩
    rw [v3 i hi, hv i (by omega), f2, p2]
section
variable {w g n m : Nat} {ru : Nat → Int32} {f p : kH} {go : Int32} {h : kH}
theorem rq_told {S : Nat → Int32} {a B : Nat} (ha : a < 5) (t : Tl (h 150) S) (hb : bt (S 0) 0 B) (hB : B < 2 ^ 31) : (if nI a = 0 then p_X8_sherd_168 (nI a) h else gd (inb (nI 0) 5) (if (h 150 ((nI 0)).toNatClampNeg) ≤ 0 then some ((-4 : Int32), h) else p_X8_sherd_168 (nI a) h)) = some (shV S a, h) := by
  simp (disch := omega) only [p_X8_sherd_168, gd_i, nI_clamp]
  unfold shV
  obtain ⟨c, -, c2, c3⟩ := hb
  by_cases z : a = 0
  · subst z
    rw [if_pos nI_00, if_pos rfl, t.1]
  · rw [if_neg (fun y => z ((nI_eq0 (by omega)).mp y)), if_neg z, t.1]
    by_cases z0 : S 0 = 0
    · rw [if_pos z0, if_pos (by rw [z0]; decide)]
    · have : ¬ S 0 ≤ 0 := by
        intro y
        rw [c3] at y z0
        have c0 : c ≠ 0 := fun e => z0 (by rw [e]; exact nI_00)
        exact nI_nle (show 0 < c by omega) (by omega) y
      rw [if_neg z0, if_neg this, t.2 z0 a ha]
theorem r_sherd (d : RI h w g n m ru f p go) {i a : Nat} {x2 x3 : Int32} (hi : i < m) (ha : a < 5) : okp (fun q : Int32 × kH => q.1 = shV (shT ru w n m i x2 x3 f p 10) a ∧ Rk h q.2) (fx (fun K57 s => p_X8_sherd_57 K57 s.1 s.2.1 s.2.2.1 s.2.2.2.1 s.2.2.2.2.1 s.2.2.2.2.2) FU (nI i, x2, x3, nI a, (nI 0), hs h 150 0 (nI 0))) := by
  have hm := d.1.2.2.1
  have hn30 := n_le d.1.2.1 d.1.1.2.2.1.2 d.1.1.2.2.2.1.2
  have rk0 : Rk h (hs h 150 0 (nI 0)) := ⟨fun j _ => by rw [hs_k (by omega)], fun k _ _ _ _ _ _ b => by rw [hs_k b]⟩
  refine fx_m (fun x (h : kH) => (nI i, x2, x3, nI a, nI (10 * x), h)) (fun x h1 => Rk h h1 ∧ Tl (h1 150) (shT ru w n m i x2 x3 f p x)) _ 10 (by omega) ⟨rk0, by rw [hs_s]; rfl, fun z => absurd nI_00 z⟩ ?_ ?_
  · intro x h1 hx10 ⟨rk, tl⟩ K hK
    have d1 := d.k rk
    obtain ⟨h2, e2, f2, p2, v146, rk2⟩ := rq_tries' d1
    obtain ⟨t1, t2, t3, t4, t5, t6, t7, t8, t9, t10⟩ := d1.rt rk2.1 f2 p2
    have p3 : rP (hs h2 143 (200 * 3 + 150 + 8 * i + 2) (nI (10 * x))) 3 m = hs p 2 i (nI (10 * x)) := by rw [rP_hs 2 (by omega) hi rfl, t9]
    have rt3 : RT (hs h2 143 (200 * 3 + 150 + 8 * i + 2) (nI (10 * x))) w g n m 999 ru f (hs p 2 i (nI (10 * x))) := ⟨t1, t2, t3, t4, t5, wf_water t6 hi (by omega), by rw [← t7]; exact rR_e (hs_k (by omega)), by rw [← t8]; exact rF_e hn30 (fun j _ _ => hs_i (by omega)), p3, by rw [hs_k (by omega)]; exact t10⟩
    have rk3 : Rk h (hs h2 143 (200 * 3 + 150 + 8 * i + 2) (nI (10 * x))) := rk.tr (rk2.1.tr ⟨fun j _ => hs_i (by omega), fun k a _ _ _ _ _ _ => hs_k a⟩)
    have b3 : RT (hs h2 143 (200 * 3 + 150 + 8 * i + 2) (nI (10 * x))) w g n m 999 ru (rN ru (fun _ => nI 0) w n m (30 * 0) (f, hs p 2 i (nI (10 * x)))).1 (rN ru (fun _ => nI 0) w n m (30 * 0) (f, hs p 2 i (nI (10 * x)))).2 := by rw [Nat.mul_zero, rN_0]; exact rt3
    have b4 : Tl (hs h2 143 (200 * 3 + 150 + 8 * i + 2) (nI (10 * x)) 150) (itr (shS ru w n m i x2 x3 f p x) 0 (shT ru w n m i x2 x3 f p x)) := by rw [itr_0, hs_k (by omega), rk2.2 _ (by omega) (by omega)]; exact tl
    simp (disch := omega) only [p_X8_sherd_57, if_neg (nI_ge (show 10 * x < 100 by omega) (show 100 < 2 ^ 31 by omega)), bd_o e2, rq_potAt, bd2_s, nI_add, gd_i, nI_clamp, le_d]
    refine fx_m (fun u (h : kH) => (nI i, x2, x3, nI a, nI (10 * x), nI (30 + 30 * u), h)) (fun u h3 => Rk h h3 ∧ RT h3 w g n m 999 ru (rN ru (fun _ => nI 0) w n m (30 * u) (f, hs p 2 i (nI (10 * x)))).1 (rN ru (fun _ => nI 0) w n m (30 * u) (f, hs p 2 i (nI (10 * x)))).2 ∧ Tl (h3 150) (itr (shS ru w n m i x2 x3 f p x) u (shT ru w n m i x2 x3 f p x))) _ 8 (by omega) (a := hs h2 143 (200 * 3 + 150 + 8 * i + 2) (nI (10 * x))) ⟨rk3, b3, b4⟩ ?_ ?_
    · intro u h3 hu ⟨kp3, rt, tl3⟩ K3 hK3
      obtain ⟨h4, e4, t4', -, j4, k4⟩ := rq_runs (N := 30) (y := 0) rt (by omega) (by omega)
      have es : rN ru (fun _ => nI 0) w n m 30 ((rN ru (fun _ => nI 0) w n m (30 * u) (f, hs p 2 i (nI (10 * x)))).1, (rN ru (fun _ => nI 0) w n m (30 * u) (f, hs p 2 i (nI (10 * x)))).2) = rN ru (fun _ => nI 0) w n m (30 * (u + 1)) (f, hs p 2 i (nI (10 * x))) := by
        rw [show 30 * (u + 1) = 30 * u + 30 by omega, rN_add]
      rw [es] at e4 t4'
      have t4'' := t4'
      obtain ⟨-, -, -, -, -, u6, u7, u8, u9, u10⟩ := t4''
      have u9 : rP h4 3 m = shP ru w n m i f p x (u + 1) := u9
      have el := rq_lossOf (s := 3) (n := n) (h := h4) hi hm (by omega) (by rw [u9]; exact u6)
      rw [u7, u9] at el
      have v5' : h4 143 (200 * 3 + 150 + 8 * i + 5) = shP ru w n m i f p x (u + 1) 5 i := by rw [← u9, rP_at (a := 5) (by omega) hi]
      have kp4 : Rk h h4 := kp3.tr (Rk.of j4 k4)
      have tl4 : Tl (h4 150) (itr (shS ru w n m i x2 x3 f p x) u (shT ru w n m i x2 x3 f p x)) := by rw [k4 _ (by omega) (by omega) (by omega) (by omega)]; exact tl3
      have gl := good_le (ru := ru) (m := m) (p := (rN ru (fun _ => nI 0) w n m (30 * (u + 1)) (f, hs p 2 i (nI (10 * x)))).2)
      have nn : ¬ nI (good ru m (rN ru (fun _ => nI 0) w n m (30 * (u + 1)) (f, hs p 2 i (nI (10 * x)))).2) < 0 := by
        rw [lt_z, nI_toInt (by omega)]; omega
      have nxt : 30 + 30 * u + 30 = 30 + 30 * (u + 1) := by omega
      simp (disch := omega) only [p_X8_sherd_86, if_neg (nI_nlt (show 30 + 30 * u ≤ 240 by omega) (show 240 < 2 ^ 31 by omega)), bd2_o e4, if_neg nn, el, bd2_s, rq_potAt, gd_i, nI_clamp, nI_add, v5', nxt]
      have no : ¬ (mloss ru (shP ru w n m i f p x (u + 1)) i = x2 ∧ shP ru w n m i f p x (u + 1) 5 i = x3) → okp (fun q : Int32 × kH => q.1 = shV (shT ru w n m i x2 x3 f p 10) a ∧ Rk h q.2) (K3 (nI i, x2, x3, nI a, nI (10 * x), nI (30 + 30 * (u + 1)), h4)) := by
        intro z
        exact hK3 h4 ⟨kp4, t4', by rw [itr_s, shS, if_neg z]; exact tl4⟩
      by_cases z1 : mloss ru (shP ru w n m i f p x (u + 1)) i = x2
      · rw [if_pos z1]
        by_cases z2 : shP ru w n m i f p x (u + 1) 5 i = x3
        · rw [if_pos z2]
          obtain ⟨h5, e5, v5, k5⟩ := rq_found (x := nI (10 * x)) (y := nI (30 + 30 * u)) (h := h4)
          rw [bd_o e5]
          obtain ⟨s1, s2, s3, s4, s5, s6, s7, s8, s9, s10⟩ := t4'
          refine hK3 h5 ⟨kp4.tr ⟨fun j _ => by rw [k5 _ (by omega)], fun k _ _ _ _ _ _ b => k5 k b⟩, ⟨s1, s2, s3, s4, s5, s6, by rw [← s7]; exact rR_e (k5 _ (by omega)), by rw [← s8]; exact rF_e hn30 (fun j _ _ => by rw [k5 _ (by omega)]), by rw [← s9]; exact rP_e hm (fun j _ _ => by rw [k5 _ (by omega)]) (k5 _ (by omega)) (k5 _ (by omega)), by rw [k5 _ (by omega)]; exact s10⟩, ?_⟩
          rw [itr_s, shS, if_pos ⟨z1, z2⟩, show 30 * (u + 1) = 30 + 30 * u by omega]
          exact tl4.s v5
        · rw [if_neg z2]; exact no (fun z => z2 z.2)
      · rw [if_neg z1]; exact no (fun z => z1 z.1)
    · intro h3 ⟨kp3, rt, tl3⟩ K3
      simp only [p_X8_sherd_86, if_pos (nI_lt (show 240 < 30 + 30 * 8 by omega) (show 30 + 30 * 8 < 2 ^ 31 by omega)), nI_add]
      rw [show 10 * x + 10 = 10 * (x + 1) by omega]
      exact hK h3 ⟨kp3, by rw [shT_s]; exact tl3⟩
  · intro h1 ⟨rk, tl⟩ K
    simp only [p_X8_sherd_57, if_pos (nI_le (show 100 ≤ 10 * 10 by omega) (show 10 * 10 < 2 ^ 31 by omega))]
    rw [rq_told ha tl (sh_bt 10 (by omega)) (by omega)]
    exact okp_s ⟨rfl, rk⟩
theorem op_sherd (c : CI h w g n m ru f p go) (d : RI h w g n m ru f p go) (x1 x2 x3 x4 : Int32) : Qop (p_X7_sherd x1 x2 x3 x4) (p_X8_sherd x1 x2 x3 x4) h := by
  have hm := c.1.2.2.1
  have hP := q_isPot (x := x1) (h := h) c.2.2.2.2.1 hm
  have rP := rq_isPot (x := x1) (h := h) d.2.2.2.2.1 hm
  cases q1 : okI x1 0 ((m : Int) - 1)
  · refine ⟨-1, h, h, ?_, ?_, Kp.rf, Rk.rf⟩
    · unfold p_X7_sherd; rw [hP]; exact bad2 q1
    · unfold p_X8_sherd; rw [rP]; exact bad2 q1
  · obtain ⟨i, hi, rfl⟩ := okP hm q1
    cases q2 : okI x2 0 5
    · refine ⟨-1, h, h, ?_, ?_, Kp.rf, Rk.rf⟩
      · unfold p_X7_sherd; rw [hP, ok2 q1]
        rcases okI_f q2 with z | z
        · rw [if_pos (lt_z.mpr z)]
        · rw [if_neg (show ¬ x2 < 0 by rw [lt_z]; omega), if_neg (show ¬ x2 ≤ nI 5 by rw [le_n (by omega)]; omega)]
      · unfold p_X8_sherd; rw [rP, ok2 q1, rq_io (lo := 0) (hi := 5) (by decide) (by decide)]; exact bad2 q2
    · have b2 := okI_n (lo := 0) (hi := 5) (by omega) q2
      have l2 := (bt_iff (by omega)).mp b2
      cases q3 : okI x3 0 2
      · refine ⟨-1, h, h, ?_, ?_, Kp.rf, Rk.rf⟩
        · unfold p_X7_sherd
          rw [hP, ok2 q1, if_neg (show ¬ x2 < 0 by rw [lt_z]; omega), if_pos (show x2 ≤ nI 5 by rw [le_n (by omega)]; omega)]
          rcases okI_f q3 with z | z
          · rw [if_pos (lt_z.mpr z)]
          · rw [if_neg (show ¬ x3 < 0 by rw [lt_z]; omega), if_pos (show nI 2 < x3 by rw [n_lt (by omega)]; omega)]
        · unfold p_X8_sherd; rw [rP, ok2 q1, rq_io (lo := 0) (hi := 5) (by decide) (by decide), ok2 q2, rq_io (lo := 0) (hi := 2) (by decide) (by decide)]; exact bad2 q3
      · have l3 := (bt_iff (by omega)).mp (okI_n (lo := 0) (hi := 2) (by omega) q3)
        cases q4 : okI x4 0 4
        · refine ⟨-1, h, h, ?_, ?_, Kp.rf, Rk.rf⟩
          · unfold p_X7_sherd
            rw [hP, ok2 q1, if_neg (show ¬ x2 < 0 by rw [lt_z]; omega), if_pos (show x2 ≤ nI 5 by rw [le_n (by omega)]; omega), if_neg (show ¬ x3 < 0 by rw [lt_z]; omega), if_neg (show ¬ nI 2 < x3 by rw [n_lt (by omega)]; omega)]
            rcases okI_f q4 with z | z
            · rw [if_pos (lt_z.mpr z)]
            · rw [if_neg (show ¬ x4 < 0 by rw [lt_z]; omega), if_neg (show ¬ x4 ≤ nI 4 by rw [le_n (by omega)]; omega)]
          · unfold p_X8_sherd; rw [rP, ok2 q1, rq_io (lo := 0) (hi := 5) (by decide) (by decide), ok2 q2, rq_io (lo := 0) (hi := 2) (by decide) (by decide), ok2 q3, rq_io (lo := 0) (hi := 4) (by decide) (by decide)]; exact bad2 q4
        · obtain ⟨a, -, a2, rfl⟩ := okI_n (lo := 0) (hi := 4) (by omega) q4
          have l4 := (bt_iff (by omega)).mp (okI_n (lo := 0) (hi := 4) (by omega) q4)
          refine Qop.of (v := shV (shT ru w n m i x2 x3 f p 10) a) ?_ (fun h1 k1 => ?_)
          · unfold p_X7_sherd
            rw [hP, ok2 q1, if_neg (show ¬ x2 < 0 by rw [lt_z]; omega), if_pos (show x2 ≤ nI 5 by rw [le_n (by omega)]; omega), if_neg (show ¬ x3 < 0 by rw [lt_z]; omega), if_neg (show ¬ nI 2 < x3 by rw [n_lt (by omega)]; omega), if_neg (show ¬ nI a < 0 by rw [lt_z]; omega), if_pos (show nI a ≤ nI 4 by rw [le_n (by omega)]; omega)]
            exact c_sherd c hi (by omega)
          · have d1 := d.kp k1
            unfold p_X8_sherd
            rw [rq_isPot d1.2.2.2.2.1 hm, ok2 q1, rq_io (lo := 0) (hi := 5) (by decide) (by decide), ok2 q2, rq_io (lo := 0) (hi := 2) (by decide) (by decide), ok2 q3, rq_io (lo := 0) (hi := 4) (by decide) (by decide), ok2 q4, gd_i (by omega) (by omega), nI_clamp (by omega), le_d]
            exact r_sherd d1 hi (by omega)
end
