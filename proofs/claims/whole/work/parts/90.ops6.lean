/-! rake, black -/
theorem q_feelP {P t w g n m U : Nat} {h f : kH} (hP : 38 < P) (hP2 : P + 11 < 133) (hr : WfR (cR h 28) w g) (hn : w * g = n) (ht : t < 240) (hc : h P 0 = nI m) (hm : m ≤ 6) (hp : WfP n m (cP h P m)) (hf : WfF n 3000 U f) (htl : tells h t n f) : ∃ h', p_X4_feel P 28 (nI t) h = some (b1 (anyN (bstB (cR h 28) (fun c => f 0 c) (cP h P m)) m), h') ∧ cP h' P m = mpt (cR h 28) w m f (cP h P m) ∧ ∀ k, (k < P + 3 ∨ P + 11 < k ∨ k = P + 4 ∨ k = P + 5) → h' k = h k := by
  have hn30 := n_le hn hr.2.2.1.2 hr.2.2.2.1.2
  have hn0 := n_pos hn hr.2.2.1.1 hr.2.2.2.1.1
  have w2 := hr.2.2.1
  have col : ∀ a i, a < 10 → i < m → cP h P m a i = h (P + pa a) i := fun a i ha hi => cP_at ha hi
  obtain ⟨h', e, v, fr⟩ := q_feel (P := P) (R := 28) (t := t) (h := h) hc hm hr.1 (by omega) (by omega) (by omega) ht (by omega) (fun i hi => by have := (hp i hi).1; rw [col 0 i (by omega) hi] at this; exact bt_w this (by omega) (by omega)) (fun i hi => by have := (hp i hi).2.2.2.2.2.2.2; rw [col 8 i (by omega) hi] at this; exact this) (fun i hi => by have := (hp i hi).2.2.2.2.2.2.1; rw [col 7 i (by omega) hi] at this; exact this)
  have tl := tells_H htl hf
  obtain ⟨c1, c2⟩ := mpots_congr (ru := cR h 28) (w := nI w) (n := n) (m := m) (p := cP h P m) (ht := fun c => f 0 c) (ht' := atH h t) (bl := fun c => nI (blk f c)) (bl' := atB h t) hn0 hn30 (fun c hc => (hf c hc).1) (fun c hc => (tl c hc).1) (fun c hc => (tl c hc).2) hp
  refine ⟨h', by rw [e, anyN_congr c2], by rw [v, c1]; rfl, fr⟩
theorem q_pass {B w g n m U y : Nat} {ru : Nat → Int32} {f p : kH} {h : kH} (hB : 30 < B) (hB2 : B + 19 < 133) (hru : cR h 28 = ru) (hr : WfR ru w g) (hn : w * g = n) (hm : m ≤ 6) (hy : y ≤ 9) (hU : U < 100000) (hf : WfF n 3000 U f) (hp : WfP n m p) (c2 : cF h (B + 1) n = f) (c3 : cP h (B + 8) m = p) (c4 : h (B + 8) 0 = nI m) : ∃ h', p_X2_pass B 28 (nI y) h = some h' ∧ cF h' (B + 1) n = mfire ru (nI y) w n f ∧ cP h' (B + 8) m = mpt ru w m (mfire ru (nI y) w n f) p ∧ h' (B + 8) 0 = nI m ∧ h' B 2 = h B 2 + nI 1 ∧ ∀ k, (k < B ∨ B + 19 < k) → k ≠ 133 → h' k = h k := by
  obtain ⟨h1, e1, h2, e2, v2, t2, j2, k2⟩ := q_fireTell (F := B + 1) (t := 0) (x := nI y) (h := h) (U := U) (by rw [hru]; exact hr) hn (by omega) (bt_n (by omega) hy) (by omega) (by omega) (by rw [c2]; exact hf) hU
  rw [hru, c2] at v2 t2
  have r2 : cR h2 28 = ru := by rw [← hru]; exact cR_k (k2 _ (by omega) (by omega)) (k2 _ (by omega) (by omega)) (k2 _ (by omega) (by omega))
  have p2 : cP h2 (B + 8) m = p := by rw [← c3]; exact cP_k (fun k a b => k2 k (by omega) (by omega))
  obtain ⟨h3, e3, v3, k3⟩ := q_feelP (P := B + 8) (t := 0) (h := h2) (m := m) (by omega) (by omega) (by rw [r2]; exact hr) hn (by omega) (by rw [k2 _ (by omega) (by omega)]; exact c4) hm (by rw [p2]; exact hp) (wf_fire hr hn (bt_n (by omega) hy) hU hf) t2
  rw [r2, p2] at v3
  refine ⟨hs h3 B 2 (h3 B 2 + nI 1), by rw [p_X2_pass, bd_o e1, bd_o e2, bd2_o e3, le_d], ?_, ?_, ?_, ?_, fun k a b => by rw [hs_k (by omega), k3 k (by omega), k2 k (by omega) b]⟩
  · rw [cF_hk (by omega), cF_k (h := h2) (fun a ha => k3 _ (by omega)), v2]
  · rw [cP_hk (by omega), v3]
  · rw [hs_k (by omega), k3 _ (by omega), k2 _ (by omega) (by omega)]; exact c4
  · rw [hs_s, k3 _ (by omega), k2 _ (by omega) (by omega)]
/-- all fuel and sherds taken off -/
def mrk (n : Nat) (f : kH) : kH := fun a c => if (a = 1 ∨ a = 4) ∧ c < n then nI 0 else f a c
/-- all covered -/
def mcv (n : Nat) (f : kH) : kH := fun a c => if a = 4 ∧ c < n then nI 1 else f a c
theorem wf_mrk {n H U : Nat} {f : kH} (hf : WfF n H U f) : WfF n H U (mrk n f) := by
  intro c hc
  obtain ⟨h0, h1, h2, h3, h4⟩ := hf c hc
  unfold mrk
  rw [if_neg (by omega), if_pos (by omega), if_neg (by omega), if_neg (by omega), if_pos (by omega)]
  exact ⟨h0, bt_n (by omega) (by omega), h2, h3, bt_n (by omega) (by omega)⟩
theorem wf_mcv {n H U : Nat} {f : kH} (hf : WfF n H U f) : WfF n H U (mcv n f) := by
  intro c hc
  obtain ⟨h0, h1, h2, h3, h4⟩ := hf c hc
  unfold mcv
  rw [if_neg (by omega), if_neg (by omega), if_neg (by omega), if_neg (by omega), if_pos (by omega)]
  exact ⟨h0, h1, h2, h3, bt_n (by omega) (by omega)⟩
theorem cF_rk {h h' : kH} {F n : Nat} (hn : n ≤ 30) (v1 : ∀ c, c < 30 → h' (F + 2) c = nI 0) (v2 : ∀ c, c < 30 → h' (F + 5) c = nI 0) (k : ∀ k, k ≠ F + 2 → k ≠ F + 5 → h' k = h k) : cF h' F n = mrk n (cF h F n) := by
  funext a c
  unfold mrk cF
  by_cases q : a < 5 ∧ c < n
  · rw [if_pos q, if_pos q]
    by_cases z : (a = 1 ∨ a = 4) ∧ c < n
    · rw [if_pos z]
      rcases z.1 with rfl | rfl
      · exact v1 c (by omega)
      · exact v2 c (by omega)
    · rw [if_neg z, k _ (by omega) (by omega)]
  · rw [if_neg q, if_neg (by omega), if_neg q]
theorem cF_cv {h h' : kH} {F n : Nat} (hn : n ≤ 30) (v2 : ∀ c, c < 30 → h' (F + 5) c = nI 1) (k : ∀ k, k ≠ F + 5 → h' k = h k) : cF h' F n = mcv n (cF h F n) := by
  funext a c
  unfold mcv cF
  by_cases q : a < 5 ∧ c < n
  · rw [if_pos q, if_pos q]
    by_cases z : a = 4 ∧ c < n
    · rw [if_pos z]
      obtain ⟨rfl, -⟩ := z
      exact v2 c (by omega)
    · rw [if_neg z, k _ (by omega)]
  · rw [if_neg q, if_neg (by omega), if_neg q]
def mrk1 (c : Nat) (q : kH) : kH := hs (hs q 1 c (nI 0)) 4 c (nI 0)
theorem itr_rk {f : kH} : ∀ n, itr mrk1 n f = mrk n f
  | 0 => by
    funext a c
    rw [itr_0, mrk, if_neg (by omega)]
  | n + 1 => by
    rw [itr_s, itr_rk n, mrk1]
    funext a c
    rw [hs_r, hs_r]
    unfold mrk
    by_cases q : c = n
    · subst q
      by_cases z4 : a = 4
      · rw [if_pos ⟨z4, rfl⟩, if_pos (by omega)]
      · rw [if_neg (by omega)]
        by_cases z1 : a = 1
        · rw [if_pos ⟨z1, rfl⟩, if_pos (by omega)]
        · rw [if_neg (by omega), if_neg (by omega), if_neg (by omega)]
    · rw [if_neg (by omega), if_neg (by omega)]
      by_cases z : (a = 1 ∨ a = 4) ∧ c < n
      · rw [if_pos z, if_pos (by omega)]
      · rw [if_neg z, if_neg (by omega)]
def mcv1 (c : Nat) (q : kH) : kH := hs q 4 c (nI 1)
theorem itr_cv {f : kH} : ∀ n, itr mcv1 n f = mcv n f
  | 0 => by
    funext a c
    rw [itr_0, mcv, if_neg (by omega)]
  | n + 1 => by
    rw [itr_s, itr_cv n, mcv1]
    funext a c
    rw [hs_r]
    unfold mcv
    by_cases q : a = 4 ∧ c = n
    · rw [if_pos q, if_pos (by omega)]
    · rw [if_neg q]
      by_cases z : a = 4 ∧ c < n
      · rw [if_pos z, if_pos (by omega)]
      · rw [if_neg z, if_neg (by omega)]
section
variable {w g n m : Nat} {ru : Nat → Int32} {f p : kH} {go : Int32} {h : kH}
/-- good ones when all is taken off behind r minutes -/
def rkG (ru : Nat → Int32) (y w n m N : Nat) (f p : kH) (r : Nat) : Nat := good ru m (rN ru (fun _ => nI y) w n m (N - r) (mrk n (rN ru (fun _ => nI y) w n m r (f, p)).1, (rN ru (fun _ => nI y) w n m r (f, p)).2)).2
def rkB (ru : Nat → Int32) (y w n m N : Nat) (f p : kH) (r : Nat) : Bool := !decide (nI (rkG ru y w n m N f p r) < nI (good ru m (rN ru (fun _ => nI y) w n m N (f, p)).2))
def plN (N : Nat) : Option Nat → Int32
  | some j => nI j
  | none => nI N
theorem rkB_f {y N r : Nat} (q : rkB ru y w n m N f p r = false) : nI (rkG ru y w n m N f p r) < nI (good ru m (rN ru (fun _ => nI y) w n m N (f, p)).2) := by
  unfold rkB at q
  rw [Bool.not_eq_false', decide_eq_true_eq] at q
  exact q
theorem rkB_t {y N r : Nat} (q : rkB ru y w n m N f p r = true) : ¬ nI (rkG ru y w n m N f p r) < nI (good ru m (rN ru (fun _ => nI y) w n m N (f, p)).2) := by
  unfold rkB at q
  rw [Bool.not_eq_true', decide_eq_false_iff_not] at q
  exact q
theorem rN_sp' {y k : Nat} : rN ru (fun _ => nI y) w n m (k + 1) (f, p) = (mfire ru (nI y) w n (rN ru (fun _ => nI y) w n m k (f, p)).1, mpt ru w m (mfire ru (nI y) w n (rN ru (fun _ => nI y) w n m k (f, p)).1) (rN ru (fun _ => nI y) w n m k (f, p)).2) := rN_sp
theorem c_rake (c : CI h w g n m ru f p go) {N y : Nat} (N2 : N ≤ 240) (y2 : y ≤ 9) : okp (fun q : Int32 × kH => q.1 = plN N (fsN (rkB ru y w n m N f p) N) ∧ Kp h q.2) (bd (p_X7_tryRun (nI N) (nI y) h) fun h4 => bd2 (p_X4_countGood 79 28 h4) fun v8 h6 => bd (p_X2_copyFrom 51 31 h6) fun h9 => fx (fun K45 s => p_X7_rake_45 K45 s.1 s.2.1 s.2.2.1 s.2.2.2.1 s.2.2.2.2) FU (nI N, nI y, v8, nI 0, h9)) := by
  have hm := c.1.2.2.1
  have hn30 := n_le c.1.2.1 c.1.1.2.2.1.2 c.1.1.2.2.2.1.2
  have hx : bt (nI y) 0 9 := bt_n (by omega) y2
  obtain ⟨h1, e1, v1, m1, -, k1⟩ := q_tryRun c N2 hx
  have c1 := c.kp (Kp.of k1)
  obtain ⟨⟨hr, hn, -, hf, hp⟩, a1, a2, a3, a4, a5⟩ := c1
  obtain ⟨h2, e2, f2, p2, n2, -, k2⟩ := q_heapCopy (B := 51) (B2 := 31) (n := n) (m := m) (H := 3000) (U := 999) (h := h1) (by omega) hn30 hm (by rw [show 31 + 1 = 32 from rfl, a2]; exact hf) (by rw [show 31 + 8 = 39 from rfl, a3]; exact hp)
  rw [bd_o e1, q_countGood m1 hm, bd2_s, bd_o e2, a1, v1]
  have kp2 : Kp h h2 := fun k b1 b2 b3 => by rw [k2 k (by omega), k1 k (by omega) b2]
  refine fx_m (fun i (h : kH) => (nI N, nI y, nI (cntN (fun i => decide (mloss ru (rN ru (fun _ => nI y) w n m N (f, p)).2 i = 0)) m), nI i, h)) (fun i h3 => Kp h h3 ∧ fsN (rkB ru y w n m N f p) i = none ∧ cF h3 52 n = (rN ru (fun _ => nI y) w n m i (f, p)).1 ∧ cP h3 59 m = (rN ru (fun _ => nI y) w n m i (f, p)).2 ∧ h3 59 0 = nI m) _ N (by omega) ⟨kp2, rfl, f2.trans a2, p2.trans a3, n2.trans a4⟩ ?_ ?_
  · intro i h3 hi ⟨kp, hno, f3, p3, n3⟩ K hK
    have wf3 : WfF n 3000 999 (rN ru (fun _ => nI y) w n m i (f, p)).1 := by rw [rN_1]; exact wf_fN hr hn (by omega) hf i (fun _ _ => hx)
    have wp3 : WfP n m (rN ru (fun _ => nI y) w n m i (f, p)).2 := wf_rN hr hn (U := 999) (by omega) hf hp i (fun _ _ => hx)
    have r3 : cR h3 28 = ru := (c.kp kp).2.1
    obtain ⟨h4, e4, f4, p4, n4, -, k4⟩ := q_heapCopy (B := 71) (B2 := 51) (n := n) (m := m) (H := 3000) (U := 999) (h := h3) (by omega) hn30 hm (by rw [show 51 + 1 = 52 from rfl, f3]; exact wf3) (by rw [show 51 + 8 = 59 from rfl, p3]; exact wp3)
    obtain ⟨h5, e5, va, vb, k5⟩ := q_rakeOff (F := 72) (h := h4)
    have f5 : cF h5 72 n = mrk n (rN ru (fun _ => nI y) w n m i (f, p)).1 := by rw [cF_rk hn30 va vb k5, show cF h4 72 n = _ from f4.trans f3]
    have p5 : cP h5 79 m = (rN ru (fun _ => nI y) w n m i (f, p)).2 := by rw [cP_k (h := h4) (fun k _ _ => k5 k (by omega) (by omega))]; exact p4.trans p3
    have r5 : cR h5 28 = ru := by rw [← r3]; exact cR_k (by rw [k5 _ (by omega) (by omega), k4 _ (by omega)]) (by rw [k5 _ (by omega) (by omega), k4 _ (by omega)]) (by rw [k5 _ (by omega) (by omega), k4 _ (by omega)])
    obtain ⟨h6, e6, v6, n6, k6⟩ := q_goOn (r := i) (N := N) (x := nI y) (h := h5) r5 hr hn hm N2 (by omega) hx (U := 999) (by omega) (wf_mrk wf3) wp3 f5 p5 (by rw [k5 _ (by omega) (by omega)]; exact n4.trans n3)
    have r6 : cR h6 28 = ru := by rw [← r5]; exact cR_k (k6 _ (by omega) (by omega)) (k6 _ (by omega) (by omega)) (k6 _ (by omega) (by omega))
    have fr6 : ∀ k, (k < 71 ∨ 90 < k) → k ≠ 133 → h6 k = h3 k := fun k b1 b2 => by rw [k6 k (by omega) b2, k5 k (by omega) (by omega), k4 k (by omega)]
    have kp6 : Kp h h6 := fun k b1 b2 b3 => by rw [fr6 k (by omega) b2, kp k b1 b2 b3]
    simp only [p_X7_rake_45, if_neg (nI_ge hi (show N < 2 ^ 31 by omega)), bd_o e4, bd_o e5, bd_o e6, q_countGood n6 hm, bd2_s, r6, v6, nI_add]
    show okp _ (if nI (rkG ru y w n m N f p i) < nI (good ru m (rN ru (fun _ => nI y) w n m N (f, p)).2) then _ else _)
    cases qb : rkB ru y w n m N f p i
    · rw [if_pos (rkB_f qb)]
      obtain ⟨h7, e7, f7, p7, n7, -, k7⟩ := q_pass (B := 51) (y := y) (U := 999) (h := h6) (by omega) (by omega) r6 hr hn hm y2 (by omega) wf3 wp3 (by rw [cF_k (h := h3) (fun a ha => fr6 _ (by omega) (by omega))]; exact f3) (by rw [cP_k (h := h3) (fun k a b => fr6 _ (by omega) (by omega))]; exact p3) (by rw [fr6 _ (by omega) (by omega)]; exact n3)
      rw [bd_o e7]
      exact hK h7 ⟨fun k b1 b2 b3 => by rw [k7 k (by omega) b2, kp6 k b1 b2 b3], fsN_no hno qb, by rw [rN_sp']; exact f7, by rw [rN_sp']; exact p7, n7⟩
    · rw [if_neg (rkB_t qb)]
      exact okp_s ⟨by rw [fsN_hit hno qb hi]; rfl, kp6⟩
  · intro h3 ⟨kp, hno, _⟩ K
    simp only [p_X7_rake_45, if_pos (nI_le (Nat.le_refl N) (show N < 2 ^ 31 by omega))]
    exact okp_s ⟨by rw [hno]; rfl, kp⟩
theorem r_set3 {h2 : kH} {U : Nat} {q : kH × kH} (t2 : RT h2 w g n m U ru q.1 q.2) (F1 : Nat → kH → kH) (h3 : kH) {i : Nat} (v3 : rF h3 3 n = itr F1 i q.1) (k3 : ∀ k, k ≠ 143 → h3 k = h2 k) : p_X8_cells h3 = some (nI n, h3) := by
  obtain ⟨d1, d2, d3, d4, d5, d6, d7, d8, d9, d10⟩ := t2
  refine rq_cells (w := w) (g := g) ?_ ?_ d2
  · rw [k3 _ (by omega)]; have := d1.1; rw [← d7] at this; exact this
  · rw [k3 _ (by omega)]; have := d1.2.1; rw [← d7] at this; exact this
theorem rq_raked (d : RI h w g n m ru f p go) {N y r : Nat} (N2 : N ≤ 240) (y2 : y ≤ 9) (hr : r ≤ N) : ∃ h', p_X8_raked (nI r) (nI N) (nI y) h = some (nI (rkG ru y w n m N f p r), h') ∧ Rk h h' := by
  have hm := d.1.2.2.1
  have hn30 := n_le d.1.2.1 d.1.1.2.2.1.2 d.1.1.2.2.2.1.2
  obtain ⟨h1, e1, f1, p1, -, k1⟩ := rq_tries d
  obtain ⟨h2, e2, t2, -, j2, k2⟩ := rq_runs (d.rt k1 f1 p1) (show r ≤ 240 by omega) y2
  have rk2 : Rk h h2 := k1.tr (Rk.of j2 k2)
  suffices H : okp (fun q : Int32 × kH => q.1 = nI (rkG ru y w n m N f p r) ∧ Rk h q.2) (p_X8_raked (nI r) (nI N) (nI y) h) by
    obtain ⟨⟨x, h'⟩, e, rfl, v⟩ := H
    exact ⟨h', e, v⟩
  unfold p_X8_raked
  rw [bd_o e1, bd2_o e2]
  refine fx_m (fun c (h : kH) => (nI r, nI N, nI y, nI c, h)) (fun c h3 => rF h3 3 n = itr mrk1 c (rN ru (fun _ => nI y) w n m r (f, p)).1 ∧ (∀ j, (j < 630 ∨ 750 ≤ j) → h3 143 j = h2 143 j) ∧ ∀ k, k ≠ 143 → h3 k = h2 k) _ n (by omega) ⟨t2.2.2.2.2.2.2.2.1, fun _ _ => rfl, fun _ _ => rfl⟩ ?_ ?_
  · intro c h3 hc ⟨v3, j3, k3⟩ K hK
    simp (disch := omega) only [p_X8_raked_15, r_set3 t2 mrk1 h3 v3 k3, bd2_s, if_neg (nI_ge hc (show n < 2 ^ 31 by omega)), nI_add, gd_i, nI_clamp, le_d]
    refine hK _ ⟨?_, fun j jj => by rw [hs_i (by omega), hs_i (by omega)]; exact j3 j jj, fun k kk => by rw [hs_k kk, hs_k kk]; exact k3 k kk⟩
    rw [rF_hs 4 (by omega) hc hn30 (by omega), rF_hs 1 (by omega) hc hn30 (by omega), v3, itr_s]
    rfl
  · intro h3 ⟨v3, j3, k3⟩ K
    have t3 : RT h3 w g n m 999 ru (mrk n (rN ru (fun _ => nI y) w n m r (f, p)).1) (rN ru (fun _ => nI y) w n m r (f, p)).2 := t2.all (a := 1) (by omega) (wf_mrk t2.2.2.2.1) (by rw [v3]; exact itr_rk n) (fun j jj => j3 j (by omega)) k3
    obtain ⟨h4, e4, -, -, j4, k4⟩ := rq_runs t3 (show N - r ≤ 240 by omega) y2
    simp (disch := omega) only [p_X8_raked_15, r_set3 t2 mrk1 h3 v3 k3, bd2_s, if_pos (nI_le (Nat.le_refl n) (show n < 2 ^ 31 by omega)), pk_sub, bd2_o e4]
    have rk4 : Rk h2 h4 := ⟨fun j jj => by rw [j4 j jj, j3 j (by omega)], fun q a1 a2 a3 a4 _ _ _ => by rw [k4 q a1 a2 a3 a4, k3 q a1]⟩
    exact okp_s ⟨rfl, rk2.tr rk4⟩
theorem op_rake (c : CI h w g n m ru f p go) (d : RI h w g n m ru f p go) (x1 x2 : Int32) : Qop (p_X7_rake x1 x2) (p_X8_rake x1 x2) h := by
  have hm := c.1.2.2.1
  cases q : (okI x1 0 240 && okI x2 0 9)
  · refine ⟨-1, h, h, ?_, ?_, Kp.rf, Rk.rf⟩
    · unfold p_X7_rake; rw [q_isRun]; exact bad2 q
    · unfold p_X8_rake; rw [rq_isRun]; exact bad2 q
  · obtain ⟨N, -, N2, rfl⟩ := okI_n (lo := 0) (hi := 240) (by omega) (and_t q).1
    obtain ⟨y, -, y2, rfl⟩ := okI_n (lo := 0) (hi := 9) (by omega) (and_t q).2
    refine Qop.of (v := plN N (fsN (rkB ru y w n m N f p) N)) ?_ (fun h1 k1 => ?_)
    · unfold p_X7_rake; rw [q_isRun, ok2 q]; exact c_rake c N2 y2
    · have d1 := d.kp k1
      obtain ⟨h2, e2, f2, p2, -, k2⟩ := rq_tries d1
      obtain ⟨h3, e3, t3, -, j3, k3⟩ := rq_runs (d1.rt k2 f2 p2) N2 y2
      unfold p_X8_rake
      rw [rq_isRun, ok2 q, bd_o e2, bd2_o e3]
      refine fx_m (fun i (h : kH) => (nI N, nI y, nI (good ru m (rN ru (fun _ => nI y) w n m N (f, p)).2), nI i, h)) (fun i h4 => Rk h1 h4 ∧ fsN (rkB ru y w n m N f p) i = none) _ N (by omega) ⟨k2.tr (Rk.of j3 k3), rfl⟩ ?_ ?_
      · intro i h4 hi ⟨rk, hno⟩ K hK
        obtain ⟨h5, e5, k5⟩ := rq_raked (d1.k rk) N2 y2 (show i ≤ N by omega)
        simp only [p_X8_rake_24, bd2_o e5, nI_add]
        cases qb : rkB ru y w n m N f p i
        · rw [if_neg (Int32.not_le.mpr (rkB_f qb))]
          exact hK h5 ⟨rk.tr k5, fsN_no hno qb⟩
        · rw [if_pos (Int32.not_lt.mp (rkB_t qb))]
          exact okp_s ⟨by rw [fsN_hit hno qb hi]; rfl, rk.tr k5⟩
      · intro h4 ⟨rk, hno⟩ K
        obtain ⟨h5, e5, k5⟩ := rq_raked (d1.k rk) N2 y2 (Nat.le_refl N)
        have eN : rkG ru y w n m N f p N = good ru m (rN ru (fun _ => nI y) w n m N (f, p)).2 := by
          unfold rkG; rw [Nat.sub_self, rN_0]
        simp only [p_X8_rake_24, bd2_o e5, eN]
        rw [if_pos (Int32.le_refl _)]
        exact okp_s ⟨by rw [hno]; rfl, rk.tr k5⟩
end
