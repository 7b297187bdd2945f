/-! ten, grit -/
section
variable {w g n m : Nat} {ru : Nat → Int32} {f p : kH} {go : Int32} {h : kH}
theorem okP {x : Int32} {m : Nat} (hm : m ≤ 6) (q : okI x 0 ((m : Int) - 1) = true) : ∃ i, i < m ∧ x = nI i := by
  unfold okI at q
  rw [Bool.and_eq_true, decide_eq_true_eq, decide_eq_true_eq] at q
  exact ⟨x.toInt.toNat, by omega, Int32.toInt_inj.mp (by rw [nI_toInt (by omega)]; omega)⟩
theorem cntN_pos {f : Nat → Bool} {i : Nat} (hf : f i = true) : ∀ {n : Nat}, i < n → 0 < cntN f n
  | 0, h => absurd h (by omega)
  | n + 1, h => by
    by_cases e : i = n
    · subst e; rw [cntN_t hf]; omega
    · have := cntN_pos hf (show i < n by omega)
      rw [cntN]; omega
theorem good_i {ru : Nat → Int32} {m i : Nat} {p : kH} (hm : m ≤ 6) (hi : i < m) (hl : mloss ru p i = 0) : ¬ nI (good ru m p) ≤ 0 := by
  have h1 : 0 < good ru m p := cntN_pos (f := fun i => decide (mloss ru p i = 0)) (by simp [hl]) hi
  have h2 := good_le (ru := ru) (m := m) (p := p)
  exact nI_nle h1 (by omega)
def tenB (ru : Nat → Int32) (V w n m N z i : Nat) (f p : kH) (e : Nat) : Bool := decide (mloss ru (rN ru (fun t => nI (wdN V ((z + e) % 10000) t)) w n m N (f, p)).2 i = 0)
theorem op_ten (c : CI h w g n m ru f p go) (d : RI h w g n m ru f p go) (x1 x2 x3 : Int32) : Qop (p_X7_ten x1 x2 x3) (p_X8_ten x1 x2 x3) h := by
  have hm := c.1.2.2.1
  cases q : (okI x1 0 9999 && okI x2 0 240)
  · refine ⟨-1, h, h, ?_, ?_, Kp.rf, Rk.rf⟩
    · unfold p_X7_ten
      rw [q_isDraw]
      cases qa : okI x1 0 9999
      · exact bad2 rfl
      · rw [qa, Bool.true_and] at q
        rw [ok2 rfl, q_isLength]
        exact bad2 q
    · unfold p_X8_ten; rw [rq_isEvening]; exact bad2 q
  · obtain ⟨z, -, z2, rfl⟩ := okI_n (lo := 0) (hi := 9999) (by omega) (and_t q).1
    obtain ⟨N, -, N2, rfl⟩ := okI_n (lo := 0) (hi := 240) (by omega) (and_t q).2
    cases qp : okI x3 0 ((m : Int) - 1)
    · refine ⟨-1, h, h, ?_, ?_, Kp.rf, Rk.rf⟩
      · unfold p_X7_ten; rw [q_isDraw, ok2 (and_t q).1, q_isLength, ok2 (and_t q).2, q_isPot c.2.2.2.2.1 hm]; exact bad2 qp
      · unfold p_X8_ten; rw [rq_isEvening, ok2 q, rq_isPot d.2.2.2.2.1 hm]; exact bad2 qp
    · obtain ⟨i, hi, rfl⟩ := okP hm qp
      obtain ⟨V, -, V2, V3⟩ := c.1.1.2.2.2.2.2.2.2.2.2.1
      refine Qop.of (v := nI (cntN (tenB ru V w n m N z i f p) 10)) ?_ (fun h1 k1 => ?_)
      · unfold p_X7_ten
        rw [q_isDraw, ok2 (and_t q).1, q_isLength, ok2 (and_t q).2, q_isPot c.2.2.2.2.1 hm, ok2 qp]
        refine fx_m (fun e (a : Int32 × kH) => (nI z, nI N, nI i, a.1, nI e, a.2)) (fun e a => a.1 = nI (cntN (tenB ru V w n m N z i f p) e) ∧ Kp h a.2) _ 10 (by omega) (a := (nI 0, h)) ⟨rfl, Kp.rf⟩ ?_ ?_
        · rintro e ⟨x, h1⟩ he ⟨hx, kp⟩ K hK
          dsimp only at hx kp ⊢
          subst hx
          have hz' : (z + e) % 10000 < 10000 := Nat.mod_lt _ (by omega)
          obtain ⟨h2, e2, v2, m2, r2, k2⟩ := q_tryEvening (c.kp kp) V2 V3 hz' N2
          simp only [p_X7_ten_30, if_neg (nI_ge he (show 10 < 2 ^ 31 by omega)), nI_add, krem_n (show z + e < 2 ^ 31 by omega) (show 0 < 10000 by omega) (show 10000 < 2 ^ 31 by omega), bd_o e2, q_lossOf hi hm, bd2_s, r2, v2]
          by_cases y : mloss ru (rN ru (fun t => nI (wdN V ((z + e) % 10000) t)) w n m N (f, p)).2 i = 0
          · rw [if_pos y]
            exact hK (nI (cntN _ e + 1), h2) ⟨by rw [cntN_t (by simp [tenB, y])], kp.tr k2⟩
          · rw [if_neg y]
            exact hK (nI (cntN _ e), h2) ⟨by rw [cntN_n (by simp [tenB, y])], kp.tr k2⟩
        · rintro ⟨x, h1⟩ ⟨hx, kp⟩ K
          dsimp only at hx kp ⊢
          simp only [p_X7_ten_30, if_pos (nI_le (Nat.le_refl 10) (show 10 < 2 ^ 31 by omega))]
          exact okp_s ⟨hx, kp⟩
      · have d1 := d.kp k1
        unfold p_X8_ten
        rw [rq_isEvening, ok2 q, rq_isPot d1.2.2.2.2.1 hm, ok2 qp]
        refine fx_m (fun e (a : Int32 × kH) => (nI z, nI N, nI i, a.1, nI e, a.2)) (fun e a => a.1 = nI (cntN (tenB ru V w n m N z i f p) e) ∧ Rk h1 a.2) _ 10 (by omega) (a := (nI 0, h1)) ⟨rfl, Rk.rf⟩ ?_ ?_
        · rintro e ⟨x, h2⟩ he ⟨hx, rk⟩ K hK
          dsimp only at hx rk ⊢
          subst hx
          have hz' : (z + e) % 10000 < 10000 := Nat.mod_lt _ (by omega)
          obtain ⟨h3, e3, t3, k3⟩ := rq_evenings (d1.k rk) V2 V3 hz' N2
          obtain ⟨-, -, -, -, -, t6, t7, t8, t9, t10⟩ := t3
          have el := rq_lossOf (s := 3) (n := n) (h := h3) hi hm (by omega) (by rw [t9]; exact t6)
          rw [t7, t9] at el
          simp only [p_X8_ten_24, p_X8_ten_66, p_X8_ten_67, if_neg (nI_ge he (show 10 < 2 ^ 31 by omega)), nI_add, krem_n (show z + e < 2 ^ 31 by omega) (show 0 < 10000 by omega) (show 10000 < 2 ^ 31 by omega), bd2_o e3, el, bd2_s, le_d]
          by_cases y : mloss ru (rN ru (fun t => nI (wdN V ((z + e) % 10000) t)) w n m N (f, p)).2 i = 0
          · rw [if_neg (good_i hm hi y), if_pos y]
            exact hK (nI (cntN _ e + 1), h3) ⟨by rw [cntN_t (by simp [tenB, y])], rk.tr k3⟩
          · rw [if_neg y]
            have := hK (nI (cntN (tenB ru V w n m N z i f p) e + 0), h3) ⟨by rw [cntN_n (by simp [tenB, y])]; rfl, rk.tr k3⟩
            by_cases yy : nI (good ru m (rN ru (fun t => nI (wdN V ((z + e) % 10000) t)) w n m N (f, p)).2) ≤ 0
            · rw [if_pos yy]; exact this
            · rw [if_neg yy]; exact this
        · rintro ⟨x, h2⟩ ⟨hx, rk⟩ K
          dsimp only at hx rk ⊢
          simp only [p_X8_ten_24, if_pos (nI_le (Nat.le_refl 10) (show 10 < 2 ^ 31 by omega))]
          exact okp_s ⟨hx, rk⟩
/-- a pot with another grit -/
theorem wf_grit {i k : Nat} (hp : WfP n m p) (hi : i < m) (hk : k ≤ 9) : WfP n m (hs p 7 i (nI k)) := by
  refine One.wf one_hs hp ?_
  obtain ⟨h0, h1, h2, h4, h5, h6, h7, h8⟩ := hp i hi
  unfold W1
  simp (disch := omega) only [hs_k, hs_s]
  exact ⟨h0, h1, h2, h4, h5, h6, bt_n (by omega) hk, h8⟩
def grP (ru : Nat → Int32) (y w n m N i : Nat) (f p : kH) (k : Nat) : kH := (rN ru (fun _ => nI y) w n m N (f, hs p 7 i (nI k))).2
def grS (ru : Nat → Int32) (y w n m N i : Nat) (f p : kH) (k : Nat) (a : Int32 × Int32) : Int32 × Int32 := if mloss ru (grP ru y w n m N i f p k) i = 0 ∧ ¬ grP ru y w n m N i f p k 3 i ≤ a.2 then (nI k, grP ru y w n m N i f p k 3 i) else a
theorem op_grit (c : CI h w g n m ru f p go) (d : RI h w g n m ru f p go) (x1 x2 x3 : Int32) : Qop (p_X7_grit x1 x2 x3) (p_X8_grit x1 x2 x3) h := by
  have hm := c.1.2.2.1
  have hn30 := n_le c.1.2.1 c.1.1.2.2.1.2 c.1.1.2.2.2.1.2
  cases qp : okI x1 0 ((m : Int) - 1)
  · refine ⟨-1, h, h, ?_, ?_, Kp.rf, Rk.rf⟩
    · unfold p_X7_grit; rw [q_isPot c.2.2.2.2.1 hm]; exact bad2 qp
    · unfold p_X8_grit; rw [rq_isPot d.2.2.2.2.1 hm]; exact bad2 qp
  · obtain ⟨i, hi, rfl⟩ := okP hm qp
    cases q : (okI x2 0 240 && okI x3 0 9)
    · refine ⟨-1, h, h, ?_, ?_, Kp.rf, Rk.rf⟩
      · unfold p_X7_grit; rw [q_isPot c.2.2.2.2.1 hm, ok2 qp, q_isRun]; exact bad2 q
      · unfold p_X8_grit; rw [rq_isPot d.2.2.2.2.1 hm, ok2 qp, rq_isRun]; exact bad2 q
    · obtain ⟨N, -, N2, rfl⟩ := okI_n (lo := 0) (hi := 240) (by omega) (and_t q).1
      obtain ⟨y, -, y2, rfl⟩ := okI_n (lo := 0) (hi := 9) (by omega) (and_t q).2
      have hx : bt (nI y) 0 9 := bt_n (by omega) y2
      refine Qop.of (v := (itr (grS ru y w n m N i f p) 10 (-4, -1)).1) ?_ (fun h1 k1 => ?_)
      · unfold p_X7_grit
        obtain ⟨h0, e0, t0, k0⟩ := q_burnAfresh c N2 hx
        rw [q_isPot c.2.2.2.2.1 hm, ok2 qp, q_isRun, ok2 q, bd_o e0]
        have kp0 : Kp h h0 := fun k a b _ => k0 k (by omega) b
        refine fx_m (fun e (a : (Int32 × Int32) × kH) => (nI i, nI N, a.1.1, a.1.2, nI e, a.2)) (fun e a => a.1 = itr (grS ru y w n m N i f p) e (-4, -1) ∧ Kp h a.2 ∧ a.2 133 = h0 133) _ 10 (by omega) (a := ((-4, -1), h0)) ⟨rfl, kp0, rfl⟩ ?_ ?_
        · rintro e ⟨⟨x5, x6⟩, h1⟩ he ⟨hx1, kp, h133⟩ K hK
          dsimp only at hx1 kp h133 ⊢
          obtain ⟨⟨hr, hn, -, hf, hp⟩, a1, a2, a3, a4, a5⟩ := c.kp kp
          obtain ⟨h2, e2, n2, v2, k2⟩ := q_potsCopy (P := 79) (P2 := 39) (h := h1) (by omega)
          have p2 : cP h2 79 m = p := by rw [cP_copy hm (by rw [a3]; exact hp) v2, a3]
          have p3 : cP (hs h2 83 i (nI e)) 79 m = hs p 7 i (nI e) := by rw [← p2]; exact cP_hs 7 (by omega) hi
          have r3 : cR (hs h2 83 i (nI e)) 28 = ru := by rw [← a1]; exact cR_k (by rw [hs_k (by omega), k2 _ (by omega)]) (by rw [hs_k (by omega), k2 _ (by omega)]) (by rw [hs_k (by omega), k2 _ (by omega)])
          obtain ⟨h4, e4, v4, k4⟩ := q_passPots (fr := 0) (N := N) (m := m) (h := hs h2 83 i (nI e)) (F := fun j => fN ru (fun _ => nI y) w n (j + 1) f) (U := 999) (by rw [r3]; exact hr) hn N2 (by omega) (by rw [hs_k (by omega), n2]; exact a4) hm (by rw [p3]; exact wf_grit hp hi (by omega)) (fun j hj => wf_fN hr hn (by omega) hf _ (fun _ _ => hx)) (fun j hj => by rw [Nat.zero_add]; exact tells_k hn30 (t0 j (by omega)) (fun c _ => by rw [hs_k (by omega), k2 133 (by omega), h133]))
          have r4 : cR h4 28 = ru := by rw [← r3]; exact cR_k (k4 _ (by omega)) (k4 _ (by omega)) (k4 _ (by omega))
          have v4' : cP h4 79 m = grP ru y w n m N i f p e := by rw [v4, r3, p3, grP, rN_p]; rfl
          have el := q_lossOf (P := 79) (R := 28) (h := h4) hi hm
          rw [r4, v4'] at el
          have h86 : h4 86 i = grP ru y w n m N i f p e 3 i := by rw [← v4', cP_at (a := 3) (by omega) hi]; rfl
          have kp4 : Kp h h4 := fun k b1 b2 b3 => by rw [k4 k (by omega), hs_k (by omega), k2 k (by omega), kp k b1 b2 b3]
          have h133' : h4 133 = h0 133 := by rw [k4 _ (by omega), hs_k (by omega), k2 _ (by omega), h133]
          simp (disch := omega) only [p_X7_grit_34, if_neg (nI_nlt (show e ≤ 9 by omega) (show 9 < 2 ^ 31 by omega)), bd_o e2, gd_i, nI_clamp, le_d, bd_o e4, el, bd2_s, h86, nI_add]
          have go2 : ∀ x5' x6' : Int32, (x5', x6') = grS ru y w n m N i f p e (x5, x6) → okp (fun q : Int32 × kH => q.1 = (itr (grS ru y w n m N i f p) 10 (-4, -1)).1 ∧ Kp h q.2) (K (nI i, nI N, x5', x6', nI (e + 1), h4)) := by
            intro x5' x6' hh
            exact hK ((x5', x6'), h4) ⟨by rw [itr_s, ← hx1]; exact hh, kp4, h133'⟩
          by_cases z1 : mloss ru (grP ru y w n m N i f p e) i = 0
          · rw [if_pos z1]
            by_cases z2 : grP ru y w n m N i f p e 3 i ≤ x6
            · rw [if_pos z2]; exact go2 _ _ (by rw [grS, if_neg (fun z => z.2 z2)])
            · rw [if_neg z2]; exact go2 _ _ (by rw [grS, if_pos ⟨z1, z2⟩])
          · rw [if_neg z1]; exact go2 _ _ (by rw [grS, if_neg (fun z => z1 z.1)])
        · rintro ⟨⟨x5, x6⟩, h1⟩ ⟨hx1, kp, -⟩ K
          dsimp only at hx1 kp ⊢
          simp only [p_X7_grit_34, if_pos (nI_lt (show 9 < 10 by omega) (show 10 < 2 ^ 31 by omega))]
          exact okp_s ⟨by rw [← hx1], kp⟩
      · have d1 := d.kp k1
        unfold p_X8_grit
        rw [rq_isPot d1.2.2.2.2.1 hm, ok2 qp, rq_isRun, ok2 q]
        refine fx_m (fun e (a : (Int32 × Int32) × kH) => (nI i, nI N, nI y, a.1.1, a.1.2, nI e, a.2)) (fun e a => a.1 = itr (grS ru y w n m N i f p) e (-4, -1) ∧ Rk h1 a.2) _ 10 (by omega) (a := ((-4, -1), h1)) ⟨rfl, Rk.rf⟩ ?_ ?_
        · rintro e ⟨⟨x5, x6⟩, h2⟩ he ⟨hx1, rk⟩ K hK
          dsimp only at hx1 rk ⊢
          have d2 := d1.k rk
          obtain ⟨h3, e3, f3, p3, -, k3⟩ := rq_tries d2
          have t3 := d2.rt k3 f3 p3
          have t4 : RT (hs h3 143 (200 * 3 + 150 + 8 * i + 7) (nI e)) w g n m 999 ru f (hs p 7 i (nI e)) := by
            obtain ⟨b1, b2, b3, b4, b5, b6, b7, b8, b9, b10⟩ := t3
            exact ⟨b1, b2, b3, b4, b5, wf_grit b6 hi (by omega), by rw [← b7]; exact rR_e (hs_k (by omega)), by rw [← b8]; exact rF_e hn30 (fun j _ _ => hs_i (by omega)), by rw [rP_hs 7 (by omega) hi rfl, b9], by rw [hs_k (by omega)]; exact b10⟩
          obtain ⟨h5, e5, t5, -, j5, k5⟩ := rq_runs t4 N2 y2
          obtain ⟨-, -, -, -, -, u6, u7, u8, u9, u10⟩ := t5
          have el := rq_lossOf (s := 3) (n := n) (h := h5) hi hm (by omega) (by rw [u9]; exact u6)
          rw [u7, u9] at el
          have hh3 : h5 143 (200 * 3 + 150 + 8 * i + 3) = grP ru y w n m N i f p e 3 i := by rw [grP, ← u9, rP_at (a := 3) (by omega) hi]
          have rk5 : Rk h1 h5 := rk.tr (k3.tr ⟨fun j jj => by rw [j5 j jj, hs_i (by omega)], fun q a1 a2 a3 a4 _ _ _ => by rw [k5 q a1 a2 a3 a4, hs_k a1]⟩)
          simp (disch := omega) only [p_X8_grit_28, if_neg (nI_ge he (show 10 < 2 ^ 31 by omega)), bd_o e3, rq_potAt, bd2_s, nI_add, gd_i, nI_clamp, le_d, bd2_o e5, hh3, el]
          have go2 : ∀ x5' x6' : Int32, (x5', x6') = grS ru y w n m N i f p e (x5, x6) → okp (fun q : Int32 × kH => q.1 = (itr (grS ru y w n m N i f p) 10 (-4, -1)).1 ∧ Rk h1 q.2) (K (nI i, nI N, nI y, x5', x6', nI (e + 1), h5)) := by
            intro x5' x6' hh
            exact hK ((x5', x6'), h5) ⟨by rw [itr_s, ← hx1]; exact hh, rk5⟩
          show okp _ (if nI (good ru m (grP ru y w n m N i f p e)) ≤ 0 then _ else if mloss ru (grP ru y w n m N i f p e) i = 0 then _ else _)
          by_cases z1 : mloss ru (grP ru y w n m N i f p e) i = 0
          · rw [if_neg (good_i hm hi z1), if_pos z1]
            by_cases z2 : grP ru y w n m N i f p e 3 i ≤ x6
            · rw [if_pos z2]; exact go2 _ _ (by rw [grS, if_neg (fun z => z.2 z2)])
            · rw [if_neg z2]; exact go2 _ _ (by rw [grS, if_pos ⟨z1, z2⟩])
          · rw [if_neg z1]
            have := go2 x5 x6 (by rw [grS, if_neg (fun z => z1 z.1)])
            by_cases yy : nI (good ru m (grP ru y w n m N i f p e)) ≤ 0
            · rw [if_pos yy]; exact this
            · rw [if_neg yy]; exact this
        · rintro ⟨⟨x5, x6⟩, h2⟩ ⟨hx1, rk⟩ K
          dsimp only at hx1 rk ⊢
          simp only [p_X8_grit_28, if_pos (nI_le (Nat.le_refl 10) (show 10 < 2 ^ 31 by omega))]
          exact okp_s ⟨by rw [← hx1], rk⟩
end
