/-! black -/
/-- a broken pot stays as it is; a colour stays -/
theorem st4_feel {ru ht : Nat → Int32} {i j : Nat} {q : kH} (h : q 4 i ≠ 0) : mfeel1 ru ht j q 4 i = q 4 i := by
  by_cases e : i = j
  · subst e; rw [mfeel1, if_neg h]
  · exact one_feel 4 i e
theorem st4_str {ru : Nat → Int32} {w : Int32} {m : Nat} {B : Nat → Bool} {i j : Nat} {q : kH} (h : q 4 i ≠ 0) : mstr1 ru w m B j q 4 i = q 4 i := by
  by_cases e : i = j
  · subst e; rw [mstr1, if_neg (fun z => h z.1)]
  · exact one_str 4 i e
theorem st4_col {bl : Nat → Int32} {i j : Nat} {q : kH} : mcol1 bl j q 4 i = q 4 i := by
  unfold mcol1
  by_cases z : q 4 j = 0
  · rw [if_pos z]
    unfold mcolr
    by_cases q1 : q 1 j < nI 500
    · rw [if_pos q1]
      by_cases q2 : q 6 j = 0
      · rw [if_pos q2]
      · rw [if_neg q2]
        by_cases q3 : q 5 j = 0
        · rw [if_pos q3, hs_k (by omega)]
        · rw [if_neg q3]
    · rw [if_neg q1, hs_k (by omega)]
  · rw [if_neg z]
theorem st4 {ru : Nat → Int32} {w m i : Nat} {f q : kH} (h : q 4 i ≠ 0) : mpt ru w m f q 4 i = q 4 i := by
  unfold mpt mpots
  have a := itr_inv (f := mfeel1 ru (fun c => f 0 c)) (fun r => r 4 i = q 4 i) m (fun j r _ hr => by rw [st4_feel (by rw [hr]; exact h)]; exact hr) (a := q) rfl m (Nat.le_refl m)
  have b := itr_inv (f := mstr1 ru (nI w) m (bstB ru (fun c => f 0 c) q)) (fun r => r 4 i = q 4 i) m (fun j r _ hr => by rw [st4_str (by rw [hr]; exact h)]; exact hr) a m (Nat.le_refl m)
  exact itr_inv (f := mcol1 (fun c => nI (blk f c))) (fun r => r 4 i = q 4 i) m (fun j r _ hr => by rw [st4_col]; exact hr) b m (Nat.le_refl m)
theorem c5_feel {ru ht : Nat → Int32} {i j : Nat} {p : kH} : mfeel1 ru ht j p 5 i = p 5 i := by
  have hl : ∀ q : kH, (if q 1 j ≤ nI 60 then q else mlose j ((q 7 j + nI 1) * (q 1 j - nI 60) / nI 100) q) 5 i = q 5 i := by
    intro q
    by_cases z : q 1 j ≤ nI 60
    · rw [if_pos z]
    · rw [if_neg z, mlose, hs_k (by omega)]
  have hst : ∀ q : kH, msteam ru j q 5 i = q 5 i := by
    intro q
    unfold msteam
    by_cases z : q 1 j < nI 10 * ru 3
    · rw [if_pos z, hl]
    · rw [if_neg z, hs_k (by omega), hl]
  unfold mfeel1
  by_cases z : p 4 j = 0
  · rw [if_pos z, mwarm1]
    generalize (ht (p 0 j).toNatClampNeg - p 1 j) / (p 8 j + nI 1) = d
    unfold mfate
    by_cases q1 : ¬ d ≤ 0 ∧ ¬ d * hs p 1 j (p 1 j + d) 8 j ≤ nI 10 * ru 6
    · rw [if_pos q1, hs_k (by omega), hs_k (by omega)]
    · rw [if_neg q1]
      by_cases q2 : mbst j (hs p 1 j (p 1 j + d)) = true
      · rw [if_pos q2, hs_k (by omega), hs_k (by omega)]
      · rw [if_neg q2]
        by_cases q3 : ¬ -d ≤ ru 5 ∧ ¬ hs p 1 j (p 1 j + d) 3 j < nI 1
        · rw [if_pos q3, hs_k (by omega), hs_k (by omega)]
        · rw [if_neg q3, hst, hs_k (by omega)]
  · rw [if_neg z]
theorem c5_str {ru : Nat → Int32} {w : Int32} {m : Nat} {B : Nat → Bool} {i j : Nat} {p : kH} : mstr1 ru w m B j p 5 i = p 5 i := by
  unfold mstr1
  by_cases q : p 4 j = 0 ∧ p 3 j < ru 4 ∧ anyN (fun k => B k && nearB w (p 0 j) (p 0 k)) m = true
  · rw [if_pos q, hs_k (by omega)]
  · rw [if_neg q]
theorem c5_col {bl : Nat → Int32} {i j : Nat} {q : kH} (h : q 5 i ≠ 0) : mcol1 bl j q 5 i = q 5 i := by
  by_cases e : i = j
  · subst e
    unfold mcol1
    by_cases z : q 4 i = 0
    · rw [if_pos z]
      unfold mcolr
      by_cases q1 : q 1 i < nI 500
      · rw [if_pos q1]
        by_cases q2 : q 6 i = 0
        · rw [if_pos q2]
        · rw [if_neg q2, if_neg h]
      · rw [if_neg q1, hs_k (by omega)]
    · rw [if_neg z]
  · exact one_col 5 i e
theorem c5 {ru : Nat → Int32} {w m i : Nat} {f q : kH} (h : q 5 i ≠ 0) : mpt ru w m f q 5 i = q 5 i := by
  unfold mpt mpots
  have a : itr (mfeel1 ru (fun c => f 0 c)) m q 5 i = q 5 i := itr_fix (fun _ _ => c5_feel) m
  have b : itr (mstr1 ru (nI w) m (bstB ru (fun c => f 0 c) q)) m (itr (mfeel1 ru (fun c => f 0 c)) m q) 5 i = q 5 i := by rw [itr_fix (fun _ _ => c5_str), a]
  exact itr_inv (f := mcol1 (fun c => nI (blk f c))) (fun r => r 5 i = q 5 i) m (fun j r _ hr => by rw [c5_col (by rw [hr]; exact h)]; exact hr) b m (Nat.le_refl m)
theorem st4N {ru ws : Nat → Int32} {w n m i : Nat} {q : kH × kH} (h : q.2 4 i ≠ 0) : ∀ k, (rN ru ws w n m k q).2 4 i = q.2 4 i
  | 0 => rfl
  | k + 1 => by rw [rN_2, st4 (by rw [st4N h k]; exact h), st4N h k]
theorem c5N {ru ws : Nat → Int32} {w n m i : Nat} {q : kH × kH} (h : q.2 5 i ≠ 0) : ∀ k, (rN ru ws w n m k q).2 5 i = q.2 5 i
  | 0 => rfl
  | k + 1 => by rw [rN_2, c5 (by rw [c5N h k]; exact h), c5N h k]
theorem itr_add {α : Type} (f : α → α) (a : α) : ∀ i j, itr (fun _ => f) (i + j) a = itr (fun _ => f) j (itr (fun _ => f) i a)
  | i, 0 => rfl
  | i, j + 1 => by
    have e1 : itr (fun _ => f) (i + (j + 1)) a = f (itr (fun _ => f) (i + j) a) := itr_s (fun _ => f) (i + j) a
    have e2 : itr (fun _ => f) (j + 1) (itr (fun _ => f) i a) = f (itr (fun _ => f) j (itr (fun _ => f) i a)) := itr_s (fun _ => f) j _
    rw [e1, e2, itr_add f a i j]
theorem rN_add {ru : Nat → Int32} {x : Int32} {w n m i j : Nat} {q : kH × kH} : rN ru (fun _ => x) w n m (i + j) q = rN ru (fun _ => x) w n m j (rN ru (fun _ => x) w n m i q) := itr_add (rstep ru x w n m) q i j
section
variable {w g n m : Nat} {ru : Nat → Int32} {f p : kH} {go : Int32} {h : kH}
/-- the pots when all is covered behind r minutes -/
def bkP (ru : Nat → Int32) (y w n m N : Nat) (f p : kH) (r : Nat) : kH := (rN ru (fun _ => nI y) w n m (N - r) (mcv n (rN ru (fun _ => nI y) w n m r (f, p)).1, (rN ru (fun _ => nI y) w n m r (f, p)).2)).2
def bkB (ru : Nat → Int32) (y w n m N i : Nat) (f p : kH) (r : Nat) : Bool := decide (bkP ru y w n m N f p r 5 i = nI 2) && decide (mloss ru (bkP ru y w n m N f p r) i = 0)
theorem bk_no {y N i r : Nat} (hh : (rN ru (fun _ => nI y) w n m r (f, p)).2 4 i ≠ 0 ∨ (rN ru (fun _ => nI y) w n m r (f, p)).2 5 i = nI 1) {r' : Nat} (h2 : r ≤ r') : bkB ru y w n m N i f p r' = false := by
  have er : rN ru (fun _ => nI y) w n m r' (f, p) = rN ru (fun _ => nI y) w n m (r' - r) (rN ru (fun _ => nI y) w n m r (f, p)) := by
    rw [← rN_add, show r + (r' - r) = r' by omega]
  unfold bkB bkP
  rcases hh with z | z
  · have z1 : (rN ru (fun _ => nI y) w n m r' (f, p)).2 4 i ≠ 0 := by rw [er, st4N z]; exact z
    have z2 : (rN ru (fun _ => nI y) w n m (N - r') (mcv n (rN ru (fun _ => nI y) w n m r' (f, p)).1, (rN ru (fun _ => nI y) w n m r' (f, p)).2)).2 4 i ≠ 0 := by
      rw [st4N (q := (mcv n (rN ru (fun _ => nI y) w n m r' (f, p)).1, (rN ru (fun _ => nI y) w n m r' (f, p)).2)) z1]; exact z1
    have z3 : mloss ru (rN ru (fun _ => nI y) w n m (N - r') (mcv n (rN ru (fun _ => nI y) w n m r' (f, p)).1, (rN ru (fun _ => nI y) w n m r' (f, p)).2)).2 i ≠ 0 := by
      unfold mloss
      rw [if_neg z2]; exact z2
    rw [decide_eq_false z3, Bool.and_false]
  · have z0 : (rN ru (fun _ => nI y) w n m r (f, p)).2 5 i ≠ 0 := by rw [z]; exact nI_10
    have z1 : (rN ru (fun _ => nI y) w n m r' (f, p)).2 5 i = nI 1 := by rw [er, c5N z0]; exact z
    have z2 : (rN ru (fun _ => nI y) w n m (N - r') (mcv n (rN ru (fun _ => nI y) w n m r' (f, p)).1, (rN ru (fun _ => nI y) w n m r' (f, p)).2)).2 5 i = nI 1 := by
      rw [c5N (q := (mcv n (rN ru (fun _ => nI y) w n m r' (f, p)).1, (rN ru (fun _ => nI y) w n m r' (f, p)).2)) (by rw [z1]; exact nI_10)]
      exact z1
    rw [z2, decide_eq_false (show ¬ nI 1 = nI 2 by decide), Bool.false_and]
theorem fsN_none {f : Nat → Bool} {i : Nat} (h0 : fsN f i = none) : ∀ {n : Nat}, (∀ j, i ≤ j → j < n → f j = false) → i ≤ n → fsN f n = none
  | 0, _, h => by
    have : i = 0 := by omega
    subst this; exact h0
  | n + 1, hf, h => by
    by_cases e : i = n + 1
    · subst e; exact h0
    · exact fsN_no (fsN_none h0 (fun j a b => hf j a (by omega)) (by omega)) (hf n (by omega) (by omega))
theorem op_black (c : CI h w g n m ru f p go) (d : RI h w g n m ru f p go) (x1 x2 x3 : Int32) : Qop (p_X7_black x1 x2 x3) (p_X8_black x1 x2 x3) h := by
  have hm := c.1.2.2.1
  have hn30 := n_le c.1.2.1 c.1.1.2.2.1.2 c.1.1.2.2.2.1.2
  cases qp : okI x1 0 ((m : Int) - 1)
  · refine ⟨-1, h, h, ?_, ?_, Kp.rf, Rk.rf⟩
    · unfold p_X7_black; rw [q_isPot c.2.2.2.2.1 hm]; exact bad2 qp
    · unfold p_X8_black; rw [rq_isPot d.2.2.2.2.1 hm]; exact bad2 qp
  · obtain ⟨i, hi, rfl⟩ := okP hm qp
    cases q : (okI x2 0 240 && okI x3 0 9)
    · refine ⟨-1, h, h, ?_, ?_, Kp.rf, Rk.rf⟩
      · unfold p_X7_black; rw [q_isPot c.2.2.2.2.1 hm, ok2 qp, q_isRun]; exact bad2 q
      · unfold p_X8_black; rw [rq_isPot d.2.2.2.2.1 hm, ok2 qp, rq_isRun]; exact bad2 q
    · obtain ⟨N, -, N2, rfl⟩ := okI_n (lo := 0) (hi := 240) (by omega) (and_t q).1
      obtain ⟨y, -, y2, rfl⟩ := okI_n (lo := 0) (hi := 9) (by omega) (and_t q).2
      have hx : bt (nI y) 0 9 := bt_n (by omega) y2
      refine Qop.of (v := plc (fsN (bkB ru y w n m N i f p) (N + 1))) ?_ (fun h1 k1 => ?_)
      · obtain ⟨⟨hr, hn, -, hf, hp⟩, a1, a2, a3, a4, a5⟩ := id c
        obtain ⟨h2, e2, f2, p2, n2, -, k2⟩ := q_heapCopy (B := 51) (B2 := 31) (n := n) (m := m) (H := 3000) (U := 999) (h := h) (by omega) hn30 hm (by rw [show 31 + 1 = 32 from rfl, a2]; exact hf) (by rw [show 31 + 8 = 39 from rfl, a3]; exact hp)
        have kp2 : Kp h h2 := fun k b1 b2 b3 => by rw [k2 k (by omega)]
        unfold p_X7_black
        rw [q_isPot a4 hm, ok2 qp, q_isRun, ok2 q, bd_o e2]
        refine fx_m (fun r (h : kH) => (nI i, nI N, nI y, nI r, h)) (fun r h3 => Kp h h3 ∧ fsN (bkB ru y w n m N i f p) r = none ∧ cF h3 52 n = (rN ru (fun _ => nI y) w n m r (f, p)).1 ∧ cP h3 59 m = (rN ru (fun _ => nI y) w n m r (f, p)).2 ∧ h3 59 0 = nI m) _ (N + 1) (by omega) ⟨kp2, rfl, f2.trans a2, p2.trans a3, n2.trans a4⟩ ?_ ?_
        · intro r h3 hrN ⟨kp, hno, f3, p3, n3⟩ K hK
          have wf3 : WfF n 3000 999 (rN ru (fun _ => nI y) w n m r (f, p)).1 := by rw [rN_1]; exact wf_fN hr hn (by omega) hf r (fun _ _ => hx)
          have wp3 : WfP n m (rN ru (fun _ => nI y) w n m r (f, p)).2 := wf_rN hr hn (U := 999) (by omega) hf hp r (fun _ _ => hx)
          have r3 : cR h3 28 = ru := (c.kp kp).2.1
          have v67 : h3 67 i = (rN ru (fun _ => nI y) w n m r (f, p)).2 4 i := by rw [← p3, cP_at (a := 4) (by omega) hi]; rfl
          have v68 : h3 68 i = (rN ru (fun _ => nI y) w n m r (f, p)).2 5 i := by rw [← p3, cP_at (a := 5) (by omega) hi]; rfl
          simp (disch := omega) only [p_X7_black_32, if_neg (nI_nlt (show r ≤ N by omega) (show N < 2 ^ 31 by omega)), gd_i, nI_clamp, v67, v68]
          by_cases z4 : (rN ru (fun _ => nI y) w n m r (f, p)).2 4 i = 0
          · rw [if_pos z4]
            by_cases z5 : (rN ru (fun _ => nI y) w n m r (f, p)).2 5 i = nI 1
            · rw [if_pos z5]
              exact okp_s ⟨by rw [fsN_none hno (fun j a b => bk_no (Or.inr z5) a) (by omega)]; rfl, kp⟩
            · rw [if_neg z5]
              obtain ⟨h4, e4, f4, p4, n4, -, k4⟩ := q_heapCopy (B := 71) (B2 := 51) (n := n) (m := m) (H := 3000) (U := 999) (h := h3) (by omega) hn30 hm (by rw [show 51 + 1 = 52 from rfl, f3]; exact wf3) (by rw [show 51 + 8 = 59 from rfl, p3]; exact wp3)
              obtain ⟨h5, e5, vb, k5⟩ := q_coverAll (F := 72) (h := h4)
              have f5 : cF h5 72 n = mcv n (rN ru (fun _ => nI y) w n m r (f, p)).1 := by rw [cF_cv hn30 vb k5, show cF h4 72 n = _ from f4.trans f3]
              have p5 : cP h5 79 m = (rN ru (fun _ => nI y) w n m r (f, p)).2 := by rw [cP_k (h := h4) (fun k _ _ => k5 k (by omega))]; exact p4.trans p3
              have r5 : cR h5 28 = ru := by rw [← r3]; exact cR_k (by rw [k5 _ (by omega), k4 _ (by omega)]) (by rw [k5 _ (by omega), k4 _ (by omega)]) (by rw [k5 _ (by omega), k4 _ (by omega)])
              obtain ⟨h6, e6, v6, n6, k6⟩ := q_goOn (r := r) (N := N) (x := nI y) (h := h5) r5 hr hn hm N2 (by omega) hx (U := 999) (by omega) (wf_mcv wf3) wp3 f5 p5 (by rw [k5 _ (by omega)]; exact n4.trans n3)
              have r6 : cR h6 28 = ru := by rw [← r5]; exact cR_k (k6 _ (by omega) (by omega)) (k6 _ (by omega) (by omega)) (k6 _ (by omega) (by omega))
              have fr6 : ∀ k, (k < 71 ∨ 90 < k) → k ≠ 133 → h6 k = h3 k := fun k b1 b2 => by rw [k6 k (by omega) b2, k5 k (by omega), k4 k (by omega)]
              have kp6 : Kp h h6 := fun k b1 b2 b3 => by rw [fr6 k (by omega) b2, kp k b1 b2 b3]
              have v6 : cP h6 79 m = bkP ru y w n m N f p r := v6
              have v88 : h6 88 i = bkP ru y w n m N f p r 5 i := by rw [← v6, cP_at (a := 5) (by omega) hi]; rfl
              have el := q_lossOf (P := 79) (R := 28) (h := h6) hi hm
              rw [r6, v6] at el
              have next : bkB ru y w n m N i f p r = false → okp (fun q : Int32 × kH => q.1 = plc (fsN (bkB ru y w n m N i f p) (N + 1)) ∧ Kp h q.2) (p_X7_black_138 K (nI i) (nI N) (nI y) (nI r) h6) := by
                intro qb
                obtain ⟨h7, e7, f7, p7, n7, -, k7⟩ := q_pass (B := 51) (y := y) (U := 999) (h := h6) (by omega) (by omega) r6 hr hn hm y2 (by omega) wf3 wp3 (by rw [cF_k (h := h3) (fun a ha => fr6 _ (by omega) (by omega))]; exact f3) (by rw [cP_k (h := h3) (fun k a b => fr6 _ (by omega) (by omega))]; exact p3) (by rw [fr6 _ (by omega) (by omega)]; exact n3)
                rw [p_X7_black_138, bd_o e7, nI_add]
                exact hK h7 ⟨fun k b1 b2 b3 => by rw [k7 k (by omega) b2, kp6 k b1 b2 b3], fsN_no hno qb, by rw [rN_sp']; exact f7, by rw [rN_sp']; exact p7, n7⟩
              simp only [bd_o e4, bd_o e5, bd_o e6, v88, el, bd2_s]
              by_cases y5 : bkP ru y w n m N f p r 5 i = nI 2
              · rw [if_pos y5]
                by_cases y6 : mloss ru (bkP ru y w n m N f p r) i = 0
                · rw [if_pos y6]
                  exact okp_s ⟨by rw [fsN_hit hno (by simp [bkB, y5, y6]) (show r < N + 1 by omega)]; rfl, kp6⟩
                · rw [if_neg y6]; exact next (by simp [bkB, y6])
              · rw [if_neg y5]; exact next (by simp [bkB, y5])
          · rw [if_neg z4]
            exact okp_s ⟨by rw [fsN_none hno (fun j a b => bk_no (Or.inl z4) a) (by omega)]; rfl, kp⟩
        · intro h3 ⟨kp, hno, _⟩ K
          simp only [p_X7_black_32, if_pos (nI_lt (show N < N + 1 by omega) (show N + 1 < 2 ^ 31 by omega))]
          exact okp_s ⟨by rw [hno]; rfl, kp⟩
      · have d1 := d.kp k1
        unfold p_X8_black
        rw [rq_isPot d1.2.2.2.2.1 hm, ok2 qp, rq_isRun, ok2 q]
        refine fx_m (fun r (h : kH) => (nI i, nI N, nI y, nI r, h)) (fun r h2 => Rk h1 h2 ∧ fsN (bkB ru y w n m N i f p) r = none) _ (N + 1) (by omega) ⟨Rk.rf, rfl⟩ ?_ ?_
        · intro r h2 hrN ⟨rk, hno⟩ K hK
          have d2 := d1.k rk
          obtain ⟨h3, e3, f3, p3, -, k3⟩ := rq_tries d2
          obtain ⟨h4, e4, t4, -, j4, k4⟩ := rq_runs (d2.rt k3 f3 p3) (show r ≤ 240 by omega) y2
          have rk4 : Rk h1 h4 := rk.tr (k3.tr (Rk.of j4 k4))
          simp only [p_X8_black_21, if_neg (nI_nlt (show r ≤ N by omega) (show N < 2 ^ 31 by omega)), bd_o e3, bd2_o e4]
          refine fx_m (fun c (h : kH) => (nI i, nI N, nI y, nI r, nI c, h)) (fun c h5 => rF h5 3 n = itr mcv1 c (rN ru (fun _ => nI y) w n m r (f, p)).1 ∧ (∀ j, (j < 720 ∨ 750 ≤ j) → h5 143 j = h4 143 j) ∧ ∀ k, k ≠ 143 → h5 k = h4 k) _ n (by omega) ⟨t4.2.2.2.2.2.2.2.1, fun _ _ => rfl, fun _ _ => rfl⟩ ?_ ?_
          · intro c h5 hc ⟨v5, j5, k5⟩ K5 hK5
            simp (disch := omega) only [p_X8_black_43, r_set3 t4 mcv1 h5 v5 k5, bd2_s, if_neg (nI_ge hc (show n < 2 ^ 31 by omega)), nI_add, gd_i, nI_clamp, le_d]
            refine hK5 _ ⟨?_, fun j jj => by rw [hs_i (by omega)]; exact j5 j jj, fun k kk => by rw [hs_k kk]; exact k5 k kk⟩
            rw [rF_hs 4 (by omega) hc hn30 (by omega), v5, itr_s]
            rfl
          · intro h5 ⟨v5, j5, k5⟩ K5
            have t5 : RT h5 w g n m 999 ru (mcv n (rN ru (fun _ => nI y) w n m r (f, p)).1) (rN ru (fun _ => nI y) w n m r (f, p)).2 := t4.all (a := 1) (by omega) (wf_mcv t4.2.2.2.1) (by rw [v5]; exact itr_cv n) (fun j jj => j5 j (by omega)) k5
            obtain ⟨h6, e6, t6, -, j6, k6⟩ := rq_runs t5 (show N - r ≤ 240 by omega) y2
            have rk6 : Rk h1 h6 := rk4.tr ⟨fun j jj => by rw [j6 j jj, j5 j (by omega)], fun q a1 a2 a3 a4 _ _ _ => by rw [k6 q a1 a2 a3 a4, k5 q a1]⟩
            obtain ⟨-, -, -, -, -, u6, u7, u8, u9, u10⟩ := t6
            have u9 : rP h6 3 m = bkP ru y w n m N f p r := u9
            have el := rq_lossOf (s := 3) (n := n) (h := h6) hi hm (by omega) (by rw [u9]; exact u6)
            rw [u7, u9] at el
            have v5' : h6 143 (200 * 3 + 150 + 8 * i + 5) = bkP ru y w n m N f p r 5 i := by rw [← u9, rP_at (a := 5) (by omega) hi]
            simp (disch := omega) only [p_X8_black_43, r_set3 t4 mcv1 h5 v5 k5, bd2_s, if_pos (nI_le (Nat.le_refl n) (show n < 2 ^ 31 by omega)), pk_sub, bd2_o e6, el, rq_potAt, nI_add, gd_i, nI_clamp, v5']
            show okp _ (if nI (good ru m (bkP ru y w n m N f p r)) ≤ 0 then _ else _)
            have next : bkB ru y w n m N i f p r = false → okp (fun q : Int32 × kH => q.1 = plc (fsN (bkB ru y w n m N i f p) (N + 1)) ∧ Rk h1 q.2) (K (nI i, nI N, nI y, nI (r + 1), h6)) := fun qb => hK h6 ⟨rk6, fsN_no hno qb⟩
            by_cases y6 : mloss ru (bkP ru y w n m N f p r) i = 0
            · rw [if_neg (good_i hm hi y6), if_pos y6]
              by_cases y5 : bkP ru y w n m N f p r 5 i = nI 2
              · rw [if_pos y5]
                exact okp_s ⟨by rw [fsN_hit hno (by simp [bkB, y5, y6]) (show r < N + 1 by omega)]; rfl, rk6⟩
              · rw [if_neg y5]; exact next (by simp [bkB, y5])
            · rw [if_neg y6]
              have := next (by simp [bkB, y6])
              by_cases yy : nI (good ru m (bkP ru y w n m N f p r)) ≤ 0
              · rw [if_pos yy]; exact this
              · rw [if_neg yy]; exact this
        · intro h2 ⟨rk, hno⟩ K
          simp only [p_X8_black_21, if_pos (nI_lt (show N < N + 1 by omega) (show N + 1 < 2 ^ 31 by omega))]
          exact okp_s ⟨by rw [hno]; rfl, rk⟩
end
