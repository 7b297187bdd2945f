/-! the class: its state, checks, copies, whole runs -/
def WfS (w g n m : Nat) (ru : Nat → Int32) (f p : kH) : Prop := WfR ru w g ∧ w * g = n ∧ m ≤ 6 ∧ WfF n 3000 999 f ∧ WfP n m p
def CI (h : kH) (w g n m : Nat) (ru : Nat → Int32) (f p : kH) (go : Int32) : Prop := WfS w g n m ru f p ∧ cR h 28 = ru ∧ cF h 32 n = f ∧ cP h 39 m = p ∧ h 39 0 = nI m ∧ h 31 2 = go
def RI (h : kH) (w g n m : Nat) (ru : Nat → Int32) (f p : kH) (go : Int32) : Prop := WfS w g n m ru f p ∧ rR h = ru ∧ rF h 0 n = f ∧ rP h 0 m = p ∧ h 138 0 = nI m ∧ h 143 198 = go
/-- what questions leave as it was -/
def Kp (h h' : kH) : Prop := ∀ k, (k < 51 ∨ 90 < k) → k ≠ 133 → k ≠ 134 → h' k = h k
theorem Kp.rf {h : kH} : Kp h h := fun _ _ _ _ => rfl
theorem Kp.tr {h1 h2 h3 : kH} (a : Kp h1 h2) (b : Kp h2 h3) : Kp h1 h3 := fun k q1 q2 q3 => by rw [b k q1 q2 q3, a k q1 q2 q3]
theorem CI.k {h h' : kH} {w g n m : Nat} {ru : Nat → Int32} {f p : kH} {go : Int32} (c : CI h w g n m ru f p go) (k : ∀ k, (28 ≤ k ∧ k < 51) → h' k = h k) : CI h' w g n m ru f p go := by
  obtain ⟨s, c1, c2, c3, c4, c5⟩ := c
  refine ⟨s, by rw [← c1]; exact cR_k (k _ (by omega)) (k _ (by omega)) (k _ (by omega)), by rw [← c2]; exact cF_k (fun a ha => k _ (by omega)), by rw [← c3]; exact cP_k (fun j a b => k _ (by omega)), by rw [k _ (by omega)]; exact c4, by rw [k _ (by omega)]; exact c5⟩
def okI (x : Int32) (lo hi : Int) : Bool := decide (lo ≤ x.toInt) && decide (x.toInt ≤ hi)
theorem okI_n {x : Int32} {lo hi : Nat} (hh : hi < 2 ^ 31) (h : okI x lo hi = true) : bt x lo hi := by
  unfold okI at h
  rw [Bool.and_eq_true, decide_eq_true_eq, decide_eq_true_eq] at h
  exact (bt_iff hh).mpr h
theorem okI_t {x : Int32} {lo hi : Int} (h1 : lo ≤ x.toInt) (h2 : x.toInt ≤ hi) : okI x lo hi = true := by
  unfold okI
  rw [decide_eq_true h1, decide_eq_true h2]; rfl
theorem okI_f {x : Int32} {lo hi : Int} (h : okI x lo hi = false) : x.toInt < lo ∨ hi < x.toInt := by
  by_cases q : lo ≤ x.toInt
  · by_cases q2 : x.toInt ≤ hi
    · rw [okI_t q q2] at h; cases h
    · exact Or.inr (by omega)
  · exact Or.inl (by omega)
theorem lt_n {x : Int32} {k : Nat} (hk : k < 2 ^ 31) : x < nI k ↔ x.toInt < k := by rw [toInt_lt, nI_toInt hk]
theorem n_lt {x : Int32} {k : Nat} (hk : k < 2 ^ 31) : nI k < x ↔ (k : Int) < x.toInt := by rw [toInt_lt, nI_toInt hk]
theorem le_n {x : Int32} {k : Nat} (hk : k < 2 ^ 31) : x ≤ nI k ↔ x.toInt ≤ k := by rw [toInt_le, nI_toInt hk]
theorem n_le' {x : Int32} {k : Nat} (hk : k < 2 ^ 31) : nI k ≤ x ↔ (k : Int) ≤ x.toInt := by rw [toInt_le, nI_toInt hk]
theorem lt_z {x : Int32} : x < 0 ↔ x.toInt < 0 := by rw [toInt_lt, show ((0 : Int32)).toInt = 0 by decide]
theorem z_le {x : Int32} : 0 ≤ x ↔ 0 ≤ x.toInt := by rw [toInt_le, show ((0 : Int32)).toInt = 0 by decide]
/-- a check 'not below 0 and not above' -/
theorem chk {x : Int32} {hi : Nat} (hh : hi < 2 ^ 31) {h : kH} : (if x < 0 then some (nI 0, h) else if nI hi < x then some (nI 0, h) else some (nI 1, h)) = some (b1 (okI x 0 hi), h) := by
  cases q : okI x 0 hi
  · rcases okI_f q with z | z
    · rw [if_pos (lt_z.mpr z)]; rfl
    · by_cases z2 : x < 0
      · rw [if_pos z2]; rfl
      · rw [if_neg z2, if_pos ((n_lt hh).mpr z)]; rfl
  · obtain ⟨k, -, k2, k3⟩ := okI_n (lo := 0) hh q
    rw [if_neg (by rw [k3]; exact nI_pos (by omega)), if_neg (by rw [k3]; exact nI_nlt k2 hh)]; rfl
theorem chk' {x : Int32} {hi : Nat} (h0 : 0 < hi) (hh : hi < 2 ^ 31) {h : kH} : (if x < 0 then some (nI 0, h) else if nI hi ≤ x then some (nI 0, h) else some (nI 1, h)) = some (b1 (okI x 0 ((hi - 1 : Nat) : Int)), h) := by
  rw [← chk (show hi - 1 < 2 ^ 31 by omega)]
  by_cases z : nI hi ≤ x
  · rw [if_pos z, if_pos (show nI (hi - 1) < x by rw [n_lt (by omega)]; rw [n_le' hh] at z; omega)]
  · rw [if_neg z, if_neg (show ¬ nI (hi - 1) < x by rw [n_lt (by omega)]; rw [n_le' hh] at z; omega)]
theorem q_isWind {x : Int32} {h : kH} : p_X7_isWind x h = some (b1 (okI x 0 9), h) := by unfold p_X7_isWind; exact chk (hi := 9) (by omega)
theorem q_isLength {x : Int32} {h : kH} : p_X7_isLength x h = some (b1 (okI x 0 240), h) := by unfold p_X7_isLength; exact chk (hi := 240) (by omega)
theorem q_isDraw {x : Int32} {h : kH} : p_X7_isDraw x h = some (b1 (okI x 0 9999), h) := by unfold p_X7_isDraw; exact chk' (hi := 10000) (by omega) (by omega)
theorem q_isRun {x y : Int32} {h : kH} : p_X7_isRun x y h = some (b1 (okI x 0 240 && okI y 0 9), h) := by
  simp only [p_X7_isRun, q_isLength, q_isWind, bd2_s, b1_if]
  cases okI x 0 240 <;> cases okI y 0 9 <;> rfl
theorem q_isCell {x : Int32} {w g n : Nat} {h : kH} (hr : WfR (cR h 28) w g) (hn : w * g = n) : p_X7_isCell x h = some (b1 (okI x 0 ((n - 1 : Nat) : Int)), h) := by
  have hn30 := n_le hn hr.2.2.1.2 hr.2.2.2.1.2
  have hn0 := n_pos hn hr.2.2.1.1 hr.2.2.2.1.1
  obtain ⟨e0, e1⟩ := CR_w hr
  simp only [p_X7_isCell, p_cells, bd2_s, e0, e1, pk_mul, hn]
  exact chk' hn0 (by omega)
theorem q_isPot {x : Int32} {m : Nat} {h : kH} (hc : h 39 0 = nI m) (hm : m ≤ 6) : p_X7_isPot x h = some (b1 (okI x 0 ((m : Int) - 1)), h) := by
  unfold p_X7_isPot
  rw [hc]
  by_cases h0 : 0 < m
  · rw [chk' h0 (by omega), show ((m - 1 : Nat) : Int) = (m : Int) - 1 by omega]
  · have hz : m = 0 := by omega
    subst hz
    cases q : okI x 0 (((0 : Nat) : Int) - 1)
    · by_cases z : x < 0
      · rw [if_pos z]; rfl
      · rw [if_neg z, if_pos (by rw [nI_00]; exact Int32.not_lt.mp z)]; rfl
    · unfold okI at q
      rw [Bool.and_eq_true, decide_eq_true_eq, decide_eq_true_eq] at q
      omega
theorem cF_copy {h h' : kH} {F F2 n H U : Nat} (hn : n ≤ 30) (hf : WfF n H U (cF h F2 n)) (e : ∀ a c, a < 5 → c < 30 → h' (F + 1 + a) c = nb a (h (F2 + 1 + a) c)) : cF h' F n = cF h F2 n := by
  funext a c
  unfold cF
  by_cases q : a < 5 ∧ c < n
  · rw [if_pos q, if_pos q, e a c q.1 (by omega), nb]
    by_cases q3 : a < 3
    · rw [if_pos q3]
    · rw [if_neg q3]
      refine nar_b ?_
      have hh := hf c q.2
      rcases (show a = 3 ∨ a = 4 by omega) with rfl | rfl
      · have := hh.2.2.2.1; rw [cF_at (a := 3) (by omega) q.2] at this; exact this
      · have := hh.2.2.2.2; rw [cF_at (a := 4) (by omega) q.2] at this; exact this
  · rw [if_neg q, if_neg q]
theorem cP_copy {h h' : kH} {P P2 n m : Nat} (hm : m ≤ 6) (hp : WfP n m (cP h P2 m)) (e : ∀ a i, 1 ≤ a → a ≤ 10 → i < 6 → h' (P + a) i = if a = 10 then vp_nar .boolean (h (P2 + a) i) else h (P2 + a) i) : cP h' P m = cP h P2 m := by
  funext a i
  unfold cP
  by_cases q : a < 10 ∧ i < m
  · rw [if_pos q, if_pos q, e (pa a) i (pa_pos q.1) (pa_le a) (by omega)]
    by_cases q3 : pa a = 10
    · rw [if_pos q3]
      have e6 : a = 6 := pa_inj q.1 (by omega) (by rw [q3]; rfl)
      subst e6
      refine nar_b ?_
      have := (hp i q.2).2.2.2.2.2.1
      rw [cP_at (a := 6) (by omega) q.2] at this
      exact this
    · rw [if_neg q3]
  · rw [if_neg q, if_neg q]
/-- a heap copied -/
theorem q_heapCopy {B B2 n m H U : Nat} {h : kH} (hB : B + 19 < B2 ∨ B2 + 19 < B) (hn : n ≤ 30) (hm : m ≤ 6) (hf : WfF n H U (cF h (B2 + 1) n)) (hp : WfP n m (cP h (B2 + 8) m)) : ∃ h', p_X2_copyFrom B B2 h = some h' ∧ cF h' (B + 1) n = cF h (B2 + 1) n ∧ cP h' (B + 8) m = cP h (B2 + 8) m ∧ h' (B + 8) 0 = h (B2 + 8) 0 ∧ h' B 2 = h B2 2 ∧ ∀ k, (k < B ∨ B + 19 < k) → h' k = h k := by
  obtain ⟨h1, e1, v1, k1⟩ := q_copyFrom (F := B + 1) (F2 := B2 + 1) (h := h) (by omega)
  obtain ⟨h2, e2, c2, v2, k2⟩ := q_potsCopy (P := B + 8) (P2 := B2 + 8) (h := h1) (by omega)
  have ep : cP h1 (B2 + 8) m = cP h (B2 + 8) m := cP_k (fun k a b => k1 k (by omega))
  refine ⟨_, by simp only [p_X2_copyFrom, bd_o e1, bd_o e2, le_d]; rfl, ?_, ?_, ?_, ?_, fun k hk => by rw [hs_k (by omega), k2 k (by omega), k1 k (by omega)]⟩
  · rw [cF_hk (by omega), cF_k (h := h1) (fun a ha => k2 _ (by omega)), cF_copy hn hf v1]
  · rw [cP_hk (by omega), cP_copy hm (by rw [ep]; exact hp) v2, ep]
  · rw [hs_k (by omega), c2, k1 _ (by omega)]
  · rw [hs_s, k2 _ (by omega), k1 _ (by omega)]
theorem q_burnAfresh {N w g n m : Nat} {x : Int32} {ru : Nat → Int32} {f p : kH} {go : Int32} {h : kH} (c : CI h w g n m ru f p go) (hN : N ≤ 240) (hx : bt x 0 9) : ∃ h', p_X7_burnAfresh (nI N) x h = some h' ∧ (∀ j, j < N → tells h' j n (fN ru (fun _ => x) w n (j + 1) f)) ∧ ∀ k, (k < 73 ∨ 78 < k) → k ≠ 133 → h' k = h k := by
  obtain ⟨⟨hr, hn, hm, hf, hp⟩, c1, c2, c3, c4, c5⟩ := c
  have hn30 := n_le hn hr.2.2.1.2 hr.2.2.2.1.2
  obtain ⟨h1, e1, v1, k1⟩ := q_copyFrom (F := 72) (F2 := 32) (h := h) (by omega)
  have r1 : cR h1 28 = ru := by rw [← c1]; exact cR_k (k1 _ (by omega)) (k1 _ (by omega)) (k1 _ (by omega))
  have f1 : cF h1 72 n = f := by rw [cF_copy hn30 (by rw [c2]; exact hf) v1, c2]
  obtain ⟨h2, e2, -, t2, k2⟩ := q_burnFire (fr := 0) (N := N) (x := x) (h := h1) (by rw [r1]; exact hr) hn hN (by omega) hx (by rw [f1]; exact hf) (by omega)
  refine ⟨h2, by rw [p_X7_burnAfresh, bd_o e1, bd_o e2], fun j hj => ?_, fun k a b => by rw [k2 k a b, k1 k (by omega)]⟩
  have := t2 j (by omega)
  rw [r1, f1, Nat.zero_add] at this
  exact this
theorem q_tryRun {N w g n m : Nat} {x : Int32} {ru : Nat → Int32} {f p : kH} {go : Int32} {h : kH} (c : CI h w g n m ru f p go) (hN : N ≤ 240) (hx : bt x 0 9) : ∃ h', p_X7_tryRun (nI N) x h = some h' ∧ cP h' 79 m = (rN ru (fun _ => x) w n m N (f, p)).2 ∧ h' 79 0 = nI m ∧ (∀ j, j < N → tells h' j n (fN ru (fun _ => x) w n (j + 1) f)) ∧ ∀ k, (k < 73 ∨ 90 < k) → k ≠ 133 → h' k = h k := by
  obtain ⟨h1, e1, t1, k1⟩ := q_burnAfresh c hN hx
  obtain ⟨⟨hr, hn, hm, hf, hp⟩, c1, c2, c3, c4, c5⟩ := c
  have hn30 := n_le hn hr.2.2.1.2 hr.2.2.2.1.2
  obtain ⟨h2, e2, n2, v2, k2⟩ := q_potsCopy (P := 79) (P2 := 39) (h := h1) (by omega)
  have p1 : cP h1 39 m = p := by rw [← c3]; exact cP_k (fun k a b => k1 k (by omega) (by omega))
  have p2 : cP h2 79 m = p := by rw [cP_copy hm (by rw [p1]; exact hp) v2, p1]
  have r2 : cR h2 28 = ru := by rw [← c1]; exact cR_k (by rw [k2 _ (by omega), k1 _ (by omega) (by omega)]) (by rw [k2 _ (by omega), k1 _ (by omega) (by omega)]) (by rw [k2 _ (by omega), k1 _ (by omega) (by omega)])
  have m2 : h2 79 0 = nI m := by rw [n2, k1 _ (by omega) (by omega)]; exact c4
  have t2 : ∀ j, j < N → tells h2 j n (fN ru (fun _ => x) w n (j + 1) f) := fun j hj => tells_k hn30 (t1 j hj) (fun c _ => by rw [k2 133 (by omega)])
  obtain ⟨h3, e3, v3, k3⟩ := q_passPots (fr := 0) (N := N) (m := m) (h := h2) (F := fun j => fN ru (fun _ => x) w n (j + 1) f) (U := 999) (by rw [r2]; exact hr) hn hN (by omega) m2 hm (by rw [p2]; exact hp) (fun j hj => wf_fN hr hn (by omega) hf _ (fun _ _ => hx)) (fun j hj => by rw [Nat.zero_add]; exact t2 j (by omega))
  refine ⟨h3, by rw [p_X7_tryRun, bd_o e1, bd_o e2, bd_o e3], by rw [v3, r2, p2, rN_p]; rfl, by rw [k3 _ (by omega)]; exact m2, fun j hj => tells_k hn30 (t2 j hj) (fun c _ => by rw [k3 133 (by omega)]), fun k a b => by rw [k3 k (by omega), k2 k (by omega), k1 k (by omega) b]⟩
/-- on from a trial as it stands -/
theorem q_goOn {r N w g n m U : Nat} {x : Int32} {ru : Nat → Int32} {f p : kH} {h : kH} (hru : cR h 28 = ru) (hr : WfR ru w g) (hn : w * g = n) (hm : m ≤ 6) (hN : N ≤ 240) (hrN : r ≤ N) (hx : bt x 0 9) (hU : U < 100000) (hf : WfF n 3000 U f) (hp : WfP n m p) (c2 : cF h 72 n = f) (c3 : cP h 79 m = p) (c4 : h 79 0 = nI m) : ∃ h', p_X7_goOn (nI r) (nI N) x h = some h' ∧ cP h' 79 m = (rN ru (fun _ => x) w n m (N - r) (f, p)).2 ∧ h' 79 0 = nI m ∧ ∀ k, (k < 73 ∨ 90 < k) → k ≠ 133 → h' k = h k := by
  have hn30 := n_le hn hr.2.2.1.2 hr.2.2.2.1.2
  obtain ⟨h1, e1, -, t1, k1⟩ := q_burnFire (fr := r) (N := N) (x := x) (h := h) (by rw [hru]; exact hr) hn hN hrN hx (by rw [c2]; exact hf) hU
  rw [hru, c2] at t1
  have r1 : cR h1 28 = ru := by rw [← hru]; exact cR_k (k1 _ (by omega) (by omega)) (k1 _ (by omega) (by omega)) (k1 _ (by omega) (by omega))
  have p1 : cP h1 79 m = p := by rw [← c3]; exact cP_k (fun k a b => k1 k (by omega) (by omega))
  have m1 : h1 79 0 = nI m := by rw [k1 _ (by omega) (by omega)]; exact c4
  obtain ⟨h2, e2, v2, k2⟩ := q_passPots (fr := r) (N := N) (m := m) (h := h1) (F := fun j => fN ru (fun _ => x) w n (j + 1) f) (U := U) (by rw [r1]; exact hr) hn hN hrN m1 hm (by rw [p1]; exact hp) (fun j hj => wf_fN hr hn hU hf _ (fun _ _ => hx)) t1
  exact ⟨h2, by rw [p_X7_goOn, bd_o e1, bd_o e2], by rw [v2, r1, p1, rN_p], by rw [k2 _ (by omega)]; exact m1, fun k a b => by rw [k2 k (by omega), k1 k (by omega) b]⟩
