/-! the reference: runs, losses, drying -/
/-- what a minute never changes of a pot: its cell, grit, thickness, strength -/
def fixA (a : Nat) : Prop := a = 0 ∨ a = 7 ∨ a = 8 ∨ a = 9
theorem fx_hs {p : kH} {a b i j : Nat} {x : Int32} (ha : fixA a) (hb : ¬ fixA b) : hs p b i x a j = p a j := by
  rw [hs_k]
  intro e
  exact hb (e ▸ ha)
theorem nf1 : ¬ fixA 1 := by unfold fixA; omega
theorem nf2 : ¬ fixA 2 := by unfold fixA; omega
theorem nf3 : ¬ fixA 3 := by unfold fixA; omega
theorem nf4 : ¬ fixA 4 := by unfold fixA; omega
theorem nf5 : ¬ fixA 5 := by unfold fixA; omega
theorem nf6 : ¬ fixA 6 := by unfold fixA; omega
theorem fx_feel {ru ht : Nat → Int32} {i a j : Nat} {p : kH} (ha : fixA a) : mfeel1 ru ht i p a j = p a j := by
  have hl : ∀ q : kH, (if q 1 i ≤ nI 60 then q else mlose i ((q 7 i + nI 1) * (q 1 i - nI 60) / nI 100) q) a j = q a j := by
    intro q
    by_cases z : q 1 i ≤ nI 60
    · rw [if_pos z]
    · rw [if_neg z, mlose, fx_hs ha nf2]
  have hst : ∀ q : kH, msteam ru i q a j = q a j := by
    intro q
    unfold msteam
    by_cases z : q 1 i < nI 10 * ru 3
    · rw [if_pos z, hl]
    · rw [if_neg z, fx_hs ha nf3, hl]
  unfold mfeel1
  by_cases z : p 4 i = 0
  · rw [if_pos z, mwarm1]
    generalize (ht (p 0 i).toNatClampNeg - p 1 i) / (p 8 i + nI 1) = d
    unfold mfate
    by_cases q1 : ¬ d ≤ 0 ∧ ¬ d * hs p 1 i (p 1 i + d) 8 i ≤ nI 10 * ru 6
    · rw [if_pos q1, fx_hs ha nf4, fx_hs ha nf1]
    · rw [if_neg q1]
      by_cases q2 : mbst i (hs p 1 i (p 1 i + d)) = true
      · rw [if_pos q2, fx_hs ha nf4, fx_hs ha nf1]
      · rw [if_neg q2]
        by_cases q3 : ¬ -d ≤ ru 5 ∧ ¬ hs p 1 i (p 1 i + d) 3 i < nI 1
        · rw [if_pos q3, fx_hs ha nf4, fx_hs ha nf1]
        · rw [if_neg q3, hst, fx_hs ha nf1]
  · rw [if_neg z]
theorem fx_str {ru : Nat → Int32} {w : Int32} {m : Nat} {B : Nat → Bool} {i a j : Nat} {p : kH} (ha : fixA a) : mstr1 ru w m B i p a j = p a j := by
  unfold mstr1
  by_cases q : p 4 i = 0 ∧ p 3 i < ru 4 ∧ anyN (fun j => B j && nearB w (p 0 i) (p 0 j)) m = true
  · rw [if_pos q, fx_hs ha nf4]
  · rw [if_neg q]
theorem fx_col {bl : Nat → Int32} {i a j : Nat} {p : kH} (ha : fixA a) : mcol1 bl i p a j = p a j := by
  unfold mcol1
  by_cases q : p 4 i = 0
  · rw [if_pos q]
    unfold mcolr
    by_cases q1 : p 1 i < nI 500
    · rw [if_pos q1]
      by_cases q2 : p 6 i = 0
      · rw [if_pos q2]
      · rw [if_neg q2]
        by_cases q3 : p 5 i = 0
        · rw [if_pos q3, fx_hs ha nf5]
        · rw [if_neg q3]
    · rw [if_neg q1, fx_hs ha nf6]
  · rw [if_neg q]
theorem itr_fix {f : Nat → kH → kH} {a j : Nat} (h1 : ∀ i p, f i p a j = p a j) {p : kH} : ∀ n, itr f n p a j = p a j
  | 0 => rfl
  | n + 1 => by rw [itr_s, h1, itr_fix h1 n]
theorem fx_mpt {ru : Nat → Int32} {w m a j : Nat} {f p : kH} (ha : fixA a) : mpt ru w m f p a j = p a j := by
  unfold mpt mpots
  rw [itr_fix (fun i p => fx_col ha), itr_fix (fun i p => fx_str ha), itr_fix (fun i p => fx_feel ha)]
theorem fx_rN {ru ws : Nat → Int32} {w n m a j : Nat} {q : kH × kH} (ha : fixA a) : ∀ k, (rN ru ws w n m k q).2 a j = q.2 a j
  | 0 => rfl
  | k + 1 => by rw [rN_2, fx_mpt ha, fx_rN ha k]
theorem fx_pN {ru : Nat → Int32} {w m a j : Nat} {F : Nat → kH} {p : kH} (ha : fixA a) : ∀ k, pN ru w m F k p a j = p a j
  | 0 => rfl
  | k + 1 => by rw [pN_s, fx_mpt ha, fx_pN ha k]
/-- goes on the trial's row, from any state of it -/
def RT (h : kH) (w g n m U : Nat) (ru : Nat → Int32) (f p : kH) : Prop := WfR ru w g ∧ w * g = n ∧ m ≤ 6 ∧ WfF n 3000 U f ∧ U < 100000 ∧ WfP n m p ∧ rR h = ru ∧ rF h 3 n = f ∧ rP h 3 m = p ∧ h 138 0 = nI m
theorem rq_goes3 {w g n m U y : Nat} {ru : Nat → Int32} {f p : kH} {h : kH} (c : RT h w g n m U ru f p) (hy : y ≤ 9) : ∃ h', p_X8_goes (nI 3) (nI y) h = some h' ∧ RT h' w g n m U ru (mfire ru (nI y) w n f) (mpt ru w m (mfire ru (nI y) w n f) p) ∧ (∀ j, j < 600 → h' 143 j = h 143 j) ∧ ∀ k, k ≠ 143 → k ≠ 145 → k ≠ 147 → h' k = h k := by
  obtain ⟨hr, hn, hm, hf, hU, hp, c1, c2, c3, c4⟩ := c
  obtain ⟨h', e, v1, v2, -, j, k⟩ := rq_goes (s := 3) (h := h) (y := y) (U := U) (by rw [c1]; exact hr) hn c4 hm (by omega) hy (by rw [c2]; exact hf) hU (by rw [c3]; exact hp)
  rw [c1, c2] at v1
  rw [c1, c2, c3] at v2
  exact ⟨h', e, ⟨hr, hn, hm, wf_fire hr hn (bt_n (by omega) hy) hU hf, hU, wf_mpt hr hn (wf_fire hr hn (bt_n (by omega) hy) hU hf) hp, by rw [← c1]; exact rR_e (k _ (by omega) (by omega) (by omega)), v1, v2, by rw [k _ (by omega) (by omega) (by omega)]; exact c4⟩, fun i hi => j i (by omega), k⟩
/-- the greatest heat so far -/
def mxN (ru ws : Nat → Int32) (w n : Nat) (f : kH) (c : Nat) (k : Nat) (a : Int32) : Int32 := itr (fun t a => mmx a (fN ru ws w n (t + 1) f 0 c)) k a
theorem mxN_s {ru ws : Nat → Int32} {w n c k : Nat} {f : kH} {a : Int32} : mxN ru ws w n f c (k + 1) a = mmx (mxN ru ws w n f c k a) (fN ru ws w n (k + 1) f 0 c) := itr_s (fun t a => mmx a (fN ru ws w n (t + 1) f 0 c)) k a
theorem rN_sp {ru ws : Nat → Int32} {w n m k : Nat} {q : kH × kH} : rN ru ws w n m (k + 1) q = (mfire ru (ws k) w n (rN ru ws w n m k q).1, mpt ru w m (mfire ru (ws k) w n (rN ru ws w n m k q).1) (rN ru ws w n m k q).2) := by
  rw [rN_s]; rfl
theorem rq_runs {N w g n m U y : Nat} {ru : Nat → Int32} {f p : kH} {h : kH} (c : RT h w g n m U ru f p) (hN : N ≤ 240) (hy : y ≤ 9) : ∃ h', p_X8_runs (nI N) (nI y) h = some (nI (good ru m (rN ru (fun _ => nI y) w n m N (f, p)).2), h') ∧ RT h' w g n m U ru (rN ru (fun _ => nI y) w n m N (f, p)).1 (rN ru (fun _ => nI y) w n m N (f, p)).2 ∧ (∀ i, i < m → h' 146 i = mxN ru (fun _ => nI y) w n f (p 0 i).toNatClampNeg N (h 146 i)) ∧ (∀ j, j < 600 → h' 143 j = h 143 j) ∧ ∀ k, k ≠ 143 → k ≠ 145 → k ≠ 146 → k ≠ 147 → h' k = h k := by
  have hr := c.1
  have hn := c.2.1
  have hm := c.2.2.1
  have hn30 := n_le hn hr.2.2.1.2 hr.2.2.2.1.2
  have hn0 := n_pos hn hr.2.2.1.1 hr.2.2.2.1.1
  suffices H : okp (fun q : Int32 × kH => q.1 = nI (good ru m (rN ru (fun _ => nI y) w n m N (f, p)).2) ∧ RT q.2 w g n m U ru (rN ru (fun _ => nI y) w n m N (f, p)).1 (rN ru (fun _ => nI y) w n m N (f, p)).2 ∧ (∀ i, i < m → q.2 146 i = mxN ru (fun _ => nI y) w n f (p 0 i).toNatClampNeg N (h 146 i)) ∧ (∀ j, j < 600 → q.2 143 j = h 143 j) ∧ ∀ k, k ≠ 143 → k ≠ 145 → k ≠ 146 → k ≠ 147 → q.2 k = h k) (p_X8_runs (nI N) (nI y) h) by
    obtain ⟨⟨r, h'⟩, e, rfl, v⟩ := H
    exact ⟨h', e, v⟩
  unfold p_X8_runs
  refine fx_m (fun i (h : kH) => (nI N, nI y, nI i, h)) (fun i h1 => RT h1 w g n m U ru (rN ru (fun _ => nI y) w n m i (f, p)).1 (rN ru (fun _ => nI y) w n m i (f, p)).2 ∧ (∀ j, j < m → h1 146 j = mxN ru (fun _ => nI y) w n f (p 0 j).toNatClampNeg i (h 146 j)) ∧ (∀ j, j < 600 → h1 143 j = h 143 j) ∧ ∀ k, k ≠ 143 → k ≠ 145 → k ≠ 146 → k ≠ 147 → h1 k = h k) _ N (by omega) ⟨c, fun _ _ => rfl, fun _ _ => rfl, fun _ _ _ _ _ => rfl⟩ ?_ ?_
  · intro i h1 hi ⟨hc, hmx, hj, hk⟩ K hK
    obtain ⟨h2, e2, c2, j2, k2⟩ := rq_goes3 hc hy
    have es : rN ru (fun _ => nI y) w n m (i + 1) (f, p) = (mfire ru (nI y) w n (rN ru (fun _ => nI y) w n m i (f, p)).1, mpt ru w m (mfire ru (nI y) w n (rN ru (fun _ => nI y) w n m i (f, p)).1) (rN ru (fun _ => nI y) w n m i (f, p)).2) := rN_sp
    have e1 : mfire ru (nI y) w n (rN ru (fun _ => nI y) w n m i (f, p)).1 = (rN ru (fun _ => nI y) w n m (i + 1) (f, p)).1 := by rw [es]
    have e2' : mpt ru w m (mfire ru (nI y) w n (rN ru (fun _ => nI y) w n m i (f, p)).1) (rN ru (fun _ => nI y) w n m i (f, p)).2 = (rN ru (fun _ => nI y) w n m (i + 1) (f, p)).2 := by rw [es]
    rw [e2', e1] at c2
    obtain ⟨d1, d2, d3, d4, d5, d6, d7, d8, d9, d10⟩ := c2
    obtain ⟨h3, e3, v3, k3⟩ := rq_looks (h := h2) (m := m) (n := n) d10 hm hn30 hn0 (by rw [d9]; exact d6)
    simp only [p_X8_runs_2, if_neg (nI_ge hi (show N < 2 ^ 31 by omega)), bd_o e2, bd_o e3, nI_add]
    refine hK _ ⟨⟨d1, d2, d3, d4, d5, d6, by rw [← d7]; exact rR_e (k3 _ (by omega)), by rw [← d8]; exact rF_e hn30 (fun j _ _ => by rw [k3 _ (by omega)]), by rw [← d9]; exact rP_e hm (fun j _ _ => by rw [k3 _ (by omega)]) (k3 _ (by omega)) (k3 _ (by omega)), by rw [k3 _ (by omega)]; exact d10⟩, fun j jm => ?_, fun j jj => by rw [k3 _ (by omega), j2 j jj, hj j jj], fun k q1 q2 q3 q4 => by rw [k3 k q3, k2 k q1 q2 q4, hk k q1 q2 q3 q4]⟩
    rw [v3 j jm, d8, d9, k2 _ (by omega) (by omega) (by omega), hmx j jm, mxN_s, fx_rN (Or.inl rfl), rN_1]
  · intro h1 ⟨hc, hmx, hj, hk⟩ K
    have hc' := hc
    obtain ⟨d1, d2, d3, d4, d5, d6, d7, d8, d9, d10⟩ := hc'
    have eg := rq_good (h := h1) (m := m) (n := n) d10 hm (by rw [d9]; exact d6)
    rw [d7, d9] at eg
    simp only [p_X8_runs_2, if_pos (nI_le (Nat.le_refl N) (show N < 2 ^ 31 by omega)), eg, bd2_s]
    exact okp_s ⟨rfl, hc, hmx, hj, hk⟩
theorem RI.rt {h h' : kH} {w g n m : Nat} {ru : Nat → Int32} {f p : kH} {go : Int32} (c : RI h w g n m ru f p go) (k : Rk h h') (e1 : rF h' 3 n = f) (e2 : rP h' 3 m = p) : RT h' w g n m 999 ru f p := by
  have c' := c.k k
  obtain ⟨⟨hr, hn, hm, hf, hp⟩, c1, c2, c3, c4, c5⟩ := c'
  exact ⟨hr, hn, hm, hf, by omega, hp, c1, e1, e2, c4⟩
