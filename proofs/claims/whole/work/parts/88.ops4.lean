/-! evenings -/
/-- the wind of minute t of evening z -/
def wdN (V z t : Nat) : Nat := (7919 * z + 6151 * t + 1) * (7919 * z + 6151 * t + 1) % 65521 % (V + 1)
theorem lrem_n {a b : Nat} (ha : a < 2 ^ 63) (h0 : 0 < b) (hb : b < 2 ^ 63) : lrem_ (lN a) (lN b) = lN (a % b) := pk_lRem ha h0 hb
theorem wd_eq {V z t : Nat} (hV : V ≤ 9) (hz : z < 10000) (ht : t < 240) : (lrem_ (lrem_ ((((7919 : Int64) * (nI z).toInt64) + ((6151 : Int64) * (nI t).toInt64)) + (1 : Int64) |> fun v => v * v) (65521 : Int64)) ((nI V + nI 1).toInt64)).toInt32 = nI (wdN V z t) := by
  have e1 : (7919 : Int64) = lN 7919 := by decide
  have e2 : (6151 : Int64) = lN 6151 := by decide
  have e3 : (1 : Int64) = lN 1 := by decide
  have e4 : (65521 : Int64) = lN 65521 := by decide
  have hX : 7919 * z + 6151 * t + 1 < 2 ^ 27 := by omega
  have hXX : (7919 * z + 6151 * t + 1) * (7919 * z + 6151 * t + 1) < 2 ^ 63 := Nat.lt_of_lt_of_le (Nat.mul_lt_mul'' hX hX) (by decide)
  have hm : (7919 * z + 6151 * t + 1) * (7919 * z + 6151 * t + 1) % 65521 < 65521 := Nat.mod_lt _ (by omega)
  dsimp only
  rw [e1, e2, e3, e4, nI_l (by omega), nI_l (by omega), lN_mul, lN_mul, lN_add, lN_add, lN_mul, nI_add, nI_l (by omega), lrem_n hXX (by omega) (by omega), lrem_n (by omega) (by omega) (by omega), lN_i]
  rfl
theorem wdN_le {V z t : Nat} : wdN V z t ≤ V := by
  have := Nat.mod_lt ((7919 * z + 6151 * t + 1) * (7919 * z + 6151 * t + 1) % 65521) (show 0 < V + 1 by omega)
  unfold wdN
  omega
theorem d64 {V : Nat} (hV : V ≤ 9) : decide (¬ (nI V + nI 1).toInt64 = 0) = true := by
  refine decide_eq_true ?_
  rw [nI_add, nI_l (by omega), show (0 : Int64) = lN 0 by decide, lN_eq (by omega) (by omega)]
  omega
theorem q_drawn {V z t : Nat} {h : kH} (hV : V ≤ 9) (h9 : h 28 9 = nI V) (hz : z < 10000) (ht : t < 240) : p_X5_drawnWind 28 (nI z) (nI t) h = some (nI (wdN V z t), h) := by
  simp only [p_X5_drawnWind, h9, if_pos (nI_pos' (show V < 2 ^ 31 by omega)), le_d, gd_t (d64 hV)]
  exact congrArg (fun v => some (v, h)) (wd_eq hV hz ht)
theorem rq_wind {V z t : Nat} {h : kH} (hV : V ≤ 9) (h9 : h 137 7 = nI V) (hz : z < 10000) (ht : t < 240) : p_X8_wind (nI z) (nI t) h = some (nI (wdN V z t), h) := by
  simp (disch := omega) only [p_X8_wind, le_d, gd_i, nI_clamp, h9, gd_t (d64 hV)]
  exact congrArg (fun v => some (v, h)) (wd_eq hV hz ht)
section
variable {w g n m : Nat} {ru : Nat → Int32} {f p : kH} {go : Int32} {h : kH}
theorem q_tryEvening (c : CI h w g n m ru f p go) {V z N : Nat} (hV : V ≤ 9) (e7 : ru 7 = nI V) (hz : z < 10000) (N2 : N ≤ 240) : ∃ h', p_X7_tryEvening (nI z) (nI N) h = some h' ∧ cP h' 79 m = (rN ru (fun t => nI (wdN V z t)) w n m N (f, p)).2 ∧ h' 79 0 = nI m ∧ cR h' 28 = ru ∧ Kp h h' := by
  have hm := c.1.2.2.1
  have hn30 := n_le c.1.2.1 c.1.1.2.2.1.2 c.1.1.2.2.2.1.2
  obtain ⟨⟨hr, hn, -, hf, hp⟩, a1, a2, a3, a4, a5⟩ := c
  have wb : ∀ t, bt (nI (wdN V z t)) 0 9 := fun t => bt_n (by omega) (by have := wdN_le (V := V) (z := z) (t := t); omega)
  obtain ⟨h1, e1, f1, p1, n1, -, k1⟩ := q_heapCopy (B := 71) (B2 := 31) (n := n) (m := m) (H := 3000) (U := 999) (h := h) (by omega) hn30 hm (by rw [show 31 + 1 = 32 from rfl, a2]; exact hf) (by rw [show 31 + 8 = 39 from rfl, a3]; exact hp)
  have f1 : cF h1 72 n = f := f1.trans a2
  have p1 : cP h1 79 m = p := p1.trans a3
  show okp (fun h' : kH => cP h' 79 m = (rN ru (fun t => nI (wdN V z t)) w n m N (f, p)).2 ∧ h' 79 0 = nI m ∧ cR h' 28 = ru ∧ Kp h h') _
  unfold p_X7_tryEvening
  rw [bd_o e1]
  refine fx_m (fun i (h : kH) => (nI z, nI N, nI i, h)) (fun i h2 => cF h2 72 n = fN ru (fun t => nI (wdN V z t)) w n i f ∧ (∀ j, j < i → tells h2 j n (fN ru (fun t => nI (wdN V z t)) w n (j + 1) f)) ∧ ∀ k, (k < 73 ∨ 78 < k) → k ≠ 133 → h2 k = h1 k) _ N (by omega) ⟨f1, fun j hj => absurd hj (by omega), fun _ _ _ => rfl⟩ ?_ ?_
  · intro i h2 hi ⟨hv, ht, hk⟩ K hK
    have er : cR h2 28 = ru := by rw [← a1]; exact cR_k (by rw [hk _ (by omega) (by omega), k1 _ (by omega)]) (by rw [hk _ (by omega) (by omega), k1 _ (by omega)]) (by rw [hk _ (by omega) (by omega), k1 _ (by omega)])
    have h9 : h2 28 9 = nI V := by rw [← e7, ← er]; rfl
    obtain ⟨h3, e3, h4, e4, v4, t4, j4, k4⟩ := q_fireTell (F := 72) (t := i) (x := nI (wdN V z i)) (h := h2) (by rw [er]; exact hr) hn (by omega) (wb i) (by omega) (by omega) (by rw [hv]; exact wf_fN hr hn (U := 999) (by omega) hf i (fun t _ => wb t)) (by omega)
    simp only [p_X7_tryEvening_13, if_neg (nI_ge hi (show N < 2 ^ 31 by omega)), q_drawn hV h9 hz (show i < 240 by omega), bd2_s, bd_o e3, bd_o e4, nI_add]
    refine hK _ ⟨by rw [v4, er, hv, fN_s], fun j hj => ?_, fun k a b => by rw [k4 k (by omega) b, hk k a b]⟩
    by_cases e : j = i
    · subst e; rw [fN_s, ← hv, ← er]; rw [er] at t4 ⊢; exact t4
    · exact tells_k hn30 (ht j (by omega)) (fun c hc => j4 _ (by omega))
  · intro h2 ⟨hv, ht, hk⟩ K
    have er : cR h2 28 = ru := by rw [← a1]; exact cR_k (by rw [hk _ (by omega) (by omega), k1 _ (by omega)]) (by rw [hk _ (by omega) (by omega), k1 _ (by omega)]) (by rw [hk _ (by omega) (by omega), k1 _ (by omega)])
    have p2 : cP h2 79 m = p := by rw [← p1]; exact cP_k (fun k a b => hk k (by omega) (by omega))
    have m2 : h2 79 0 = nI m := by rw [hk _ (by omega) (by omega)]; exact n1.trans a4
    obtain ⟨h3, e3, v3, k3⟩ := q_passPots (fr := 0) (N := N) (m := m) (h := h2) (F := fun j => fN ru (fun t => nI (wdN V z t)) w n (j + 1) f) (U := 999) (by rw [er]; exact hr) hn N2 (by omega) m2 hm (by rw [p2]; exact hp) (fun j hj => wf_fN hr hn (by omega) hf _ (fun t _ => wb t)) (fun j hj => by rw [Nat.zero_add]; exact ht j (by omega))
    simp only [p_X7_tryEvening_13, if_pos (nI_le (Nat.le_refl N) (show N < 2 ^ 31 by omega)), bd_o e3]
    exact okp_s ⟨by rw [v3, er, p2, rN_p]; rfl, by rw [k3 _ (by omega)]; exact m2, by rw [← er]; exact cR_k (k3 _ (by omega)) (k3 _ (by omega)) (k3 _ (by omega)), fun k q1 q2 q3 => by rw [k3 k (by omega), hk k (by omega) q2, k1 k (by omega)]⟩
theorem rq_evenings (d : RI h w g n m ru f p go) {V z N : Nat} (hV : V ≤ 9) (e7 : ru 7 = nI V) (hz : z < 10000) (N2 : N ≤ 240) : ∃ h', p_X8_evenings (nI z) (nI N) h = some (nI (good ru m (rN ru (fun t => nI (wdN V z t)) w n m N (f, p)).2), h') ∧ RT h' w g n m 999 ru (rN ru (fun t => nI (wdN V z t)) w n m N (f, p)).1 (rN ru (fun t => nI (wdN V z t)) w n m N (f, p)).2 ∧ Rk h h' := by
  have hm := d.1.2.2.1
  obtain ⟨h1, e1, f1, p1, -, k1⟩ := rq_tries d
  have t1 := d.rt k1 f1 p1
  suffices H : okp (fun q : Int32 × kH => q.1 = nI (good ru m (rN ru (fun t => nI (wdN V z t)) w n m N (f, p)).2) ∧ RT q.2 w g n m 999 ru (rN ru (fun t => nI (wdN V z t)) w n m N (f, p)).1 (rN ru (fun t => nI (wdN V z t)) w n m N (f, p)).2 ∧ Rk h q.2) (p_X8_evenings (nI z) (nI N) h) by
    obtain ⟨⟨r, h'⟩, e, rfl, v⟩ := H
    exact ⟨h', e, v⟩
  unfold p_X8_evenings
  rw [bd_o e1]
  refine fx_m (fun i (h : kH) => (nI z, nI N, nI i, h)) (fun i h2 => RT h2 w g n m 999 ru (rN ru (fun t => nI (wdN V z t)) w n m i (f, p)).1 (rN ru (fun t => nI (wdN V z t)) w n m i (f, p)).2 ∧ Rk h h2) _ N (by omega) ⟨t1, k1⟩ ?_ ?_
  · intro i h2 hi ⟨hc, rk⟩ K hK
    have h9 : h2 137 7 = nI V := by rw [← e7, ← hc.2.2.2.2.2.2.1]; rfl
    obtain ⟨h3, e3, c3, j3, k3⟩ := rq_goes3 (y := wdN V z i) hc (by have := wdN_le (V := V) (z := z) (t := i); omega)
    have es : rN ru (fun t => nI (wdN V z t)) w n m (i + 1) (f, p) = (mfire ru (nI (wdN V z i)) w n (rN ru (fun t => nI (wdN V z t)) w n m i (f, p)).1, mpt ru w m (mfire ru (nI (wdN V z i)) w n (rN ru (fun t => nI (wdN V z t)) w n m i (f, p)).1) (rN ru (fun t => nI (wdN V z t)) w n m i (f, p)).2) := rN_sp
    simp only [p_X8_evenings_6, if_neg (nI_ge hi (show N < 2 ^ 31 by omega)), rq_wind hV h9 hz (show i < 240 by omega), bd2_s, bd_o e3, nI_add]
    refine hK _ ⟨by rw [es]; exact c3, rk.tr ⟨j3, fun q a1 a2 _ a4 _ _ _ => k3 q a1 a2 a4⟩⟩
  · intro h2 ⟨hc, rk⟩ K
    have hc' := hc
    obtain ⟨d1, d2, d3, d4, d5, d6, d7, d8, d9, d10⟩ := hc'
    have eg := rq_good (h := h2) (m := m) (n := n) d10 hm (by rw [d9]; exact d6)
    rw [d7, d9] at eg
    simp only [p_X8_evenings_6, if_pos (nI_le (Nat.le_refl N) (show N < 2 ^ 31 by omega)), eg, bd2_s]
    exact okp_s ⟨rfl, hc, rk⟩
theorem op_evening (c : CI h w g n m ru f p go) (d : RI h w g n m ru f p go) (x1 x2 : Int32) : Qop (p_X7_evening x1 x2) (p_X8_evening x1 x2) h := by
  have hm := c.1.2.2.1
  cases q : (okI x1 0 9999 && okI x2 0 240)
  · refine ⟨-1, h, h, ?_, ?_, Kp.rf, Rk.rf⟩
    · unfold p_X7_evening
      rw [q_isDraw]
      cases qa : okI x1 0 9999
      · exact bad2 rfl
      · rw [qa, Bool.true_and] at q
        rw [ok2 rfl, q_isLength]
        exact bad2 q
    · unfold p_X8_evening; rw [rq_isEvening]; exact bad2 q
  · obtain ⟨z, -, z2, rfl⟩ := okI_n (lo := 0) (hi := 9999) (by omega) (and_t q).1
    obtain ⟨N, -, N2, rfl⟩ := okI_n (lo := 0) (hi := 240) (by omega) (and_t q).2
    obtain ⟨V, -, V2, V3⟩ := c.1.1.2.2.2.2.2.2.2.2.2.1
    refine Qop.of (v := nI (good ru m (rN ru (fun t => nI (wdN V z t)) w n m N (f, p)).2)) ?_ (fun h1 k1 => ?_)
    · obtain ⟨h1, e1, v1, m1, r1, k1⟩ := q_tryEvening c V2 V3 (show z < 10000 by omega) N2
      unfold p_X7_evening
      rw [q_isDraw, ok2 (and_t q).1, q_isLength, ok2 (and_t q).2, bd_o e1, q_countGood m1 hm, bd2_s, r1, v1]
      exact okp_s ⟨rfl, k1⟩
    · obtain ⟨h2, e2, -, k2⟩ := rq_evenings (d.kp k1) V2 V3 (show z < 10000 by omega) N2
      unfold p_X8_evening
      rw [rq_isEvening, ok2 q, bd2_o e2]
      exact okp_s ⟨rfl, k2⟩
end
