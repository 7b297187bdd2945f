/-! the reference: heat spreads and cools -/
theorem hs_hs {f : kH} {k i : Nat} {x y : Int32} : hs (hs f k i x) k i y = hs f k i y := by
  funext a c
  rw [hs_r, hs_r, hs_r]
  by_cases q : a = k ∧ c = i
  · rw [if_pos q, if_pos q]
  · rw [if_neg q, if_neg q, if_neg q]
theorem mset_hs {f : kH} {i : Nat} {v t : Int32} : mset i t (hs f 0 i v) = mset i t f := by
  unfold mset
  rw [hs_hs]
theorem add_cool {ru : Nat → Int32} {x : Int32} {o : Nat → Int32} {n j : Nat} {X : kH} (e : j ≠ n) : madd1 o n (mcool1 ru x j X) = mcool1 ru x j (madd1 o n X) := by
  have c0 : madd1 o n X 0 j = X 0 j := by rw [madd1, hs_i e]
  have c4 : madd1 o n X 4 j = X 4 j := by rw [madd1, hs_i e]
  rw [mcool1, mcool1, c0, c4]
  generalize mmin (X 0 j - if X 4 j = 0 then (X 0 j - nI 20) * (ru 2 + x) / nI 100 else (X 0 j - nI 20) * (ru 2 + x) / nI 100 / nI 2) = t
  have c1 : mset j t X 0 n = X 0 n := mset_i (Ne.symm e)
  rw [madd1, c1, madd1]
  unfold mset
  by_cases q : t < nI 200
  · rw [if_pos q, if_pos q, hs_comm e]
  · rw [if_neg q, if_neg q, hs_comm e, hs_comm e]
theorem add_cools {ru : Nat → Int32} {x : Int32} {o : Nat → Int32} {n : Nat} {X : kH} : ∀ j, j ≤ n → madd1 o n (itr (mcool1 ru x) j X) = itr (mcool1 ru x) j (madd1 o n X)
  | 0, _ => rfl
  | j + 1, h => by rw [itr_s, itr_s, add_cool (by omega), add_cools j (by omega)]
theorem fuse {ru : Nat → Int32} {x : Int32} {o : Nat → Int32} {f : kH} (n : Nat) : itr (fun i f => mcool1 ru x i (madd1 o i f)) n f = itr (mcool1 ru x) n (itr (madd1 o) n f) := by
  induction n with
  | zero => rw [itr_0, itr_0, itr_0]
  | succ n ih =>
    have e1 : itr (fun i f => mcool1 ru x i (madd1 o i f)) (n + 1) f = mcool1 ru x n (madd1 o n (itr (fun i f => mcool1 ru x i (madd1 o i f)) n f)) := itr_s (fun i f => mcool1 ru x i (madd1 o i f)) n f
    rw [e1, ih, add_cools n (Nat.le_refl n), itr_s, itr_s]
theorem one_ca {ru : Nat → Int32} {x : Int32} {o : Nat → Int32} {i : Nat} {f : kH} : One i f (mcool1 ru x i (madd1 o i f)) := by
  intro a j e
  rw [mcool1, mset_i e, madd1, hs_i e]
set_option maxHeartbeats 1000000 in
theorem rq_spreads {s w g n U y : Nat} {h : kH} (hr : WfR (rR h) w g) (hn : w * g = n) (hn30 : n ≤ 30) (hs3 : s ≤ 3) (hy : y ≤ 9) (ho : cO h 145 n = (fun _ => 0)) (hf : WfF n 4200 U (rF h s n)) : ∃ h', p_X8_spreads (nI s) (nI y) h = some h' ∧ rF h' s n = itr (mcool1 (rR h) (nI y)) n (itr (madd1 (itr (mfl1 (rF h s n) w n) n (fun _ => 0))) n (rF h s n)) ∧ (∀ j, (j < 200 * s ∨ 200 * s + 150 ≤ j) → h' 143 j = h 143 j) ∧ ∀ k, k ≠ 143 → k ≠ 145 → h' k = h k := by
  have hw : h 137 0 = nI w := hr.1
  have hg : h 137 1 = nI g := hr.2.1
  obtain ⟨w2, w6⟩ := hr.2.2.1
  obtain ⟨l, l1, l2, l3⟩ := hr.2.2.2.2.1
  have l3 : h 137 2 = nI l := l3
  show okp (fun h' : kH => rF h' s n = itr (mcool1 (rR h) (nI y)) n (itr (madd1 (itr (mfl1 (rF h s n) w n) n (fun _ => 0))) n (rF h s n)) ∧ (∀ j, (j < 200 * s ∨ 200 * s + 150 ≤ j) → h' 143 j = h 143 j) ∧ ∀ k, k ≠ 143 → k ≠ 145 → h' k = h k) _
  unfold p_X8_spreads
  rw [le_d, pk_mul]
  refine fx_m (fun i (h : kH) => (nI y, nI (200 * s), nI i, h)) (fun i h1 => cO h1 145 n = itr (mfl1 (rF h s n) w n) i (fun _ => 0) ∧ ∀ k, k ≠ 145 → h1 k = h k) _ n (by omega) ⟨ho, fun _ _ => rfl⟩ ?_ ?_
  · intro i h1 hi ⟨hv, hk⟩ K hK
    have e7 : h1 137 = h 137 := hk _ (by omega)
    have e43 : h1 143 = h 143 := hk _ (by omega)
    have cl : ∀ h2 : kH, h2 137 = h 137 → p_X8_cells h2 = some (nI n, h2) := fun h2 e => rq_cells (by rw [e]; exact hw) (by rw [e]; exact hg) hn
    have f0 : ∀ c, c < n → h 143 (200 * s + c) = rF h s n 0 c := fun c hc => (rF_at (a := 0) (by omega) hc).symm
    -- one flow
    have flow : ∀ (h2 : kH) (d : Nat), d < n → d ≠ i → (∀ k, k ≠ 145 → h2 k = h k) → cO (hs (hs h2 145 i (h2 145 i - (h 143 (200 * s + i) - h 143 (200 * s + d)) / nI 10)) 145 d (hs h2 145 i (h2 145 i - (h 143 (200 * s + i) - h 143 (200 * s + d)) / nI 10) 145 d + (h 143 (200 * s + i) - h 143 (200 * s + d)) / nI 10)) 145 n = mfl (rF h s n) i d (cO h2 145 n) := by
      intro h2 d hd hdi hk2
      rw [cO_hs hd, cO_hs hi, ← cO_at (h := hs h2 145 i _) hd, cO_hs hi, ← cO_at (h := h2) hi, mfl, f0 i hi, f0 d hd]
    -- below
    have down : ∀ h2 : kH, cO h2 145 n = (if i % w + 1 < w then mfl (rF h s n) i (i + 1) (itr (mfl1 (rF h s n) w n) i (fun _ => 0)) else itr (mfl1 (rF h s n) w n) i (fun _ => 0)) → (∀ k, k ≠ 145 → h2 k = h k) → okp (fun h' : kH => rF h' s n = itr (mcool1 (rR h) (nI y)) n (itr (madd1 (itr (mfl1 (rF h s n) w n) n (fun _ => 0))) n (rF h s n)) ∧ (∀ j, (j < 200 * s ∨ 200 * s + 150 ≤ j) → h' 143 j = h 143 j) ∧ ∀ k, k ≠ 143 → k ≠ 145 → h' k = h k) (p_X8_spreads_90 K (nI y) (nI (200 * s)) (nI i) h2) := by
      intro h2 hv2 hk2
      have g7 : h2 137 = h 137 := hk2 _ (by omega)
      have g43 : h2 143 = h 143 := hk2 _ (by omega)
      simp (disch := omega) only [p_X8_spreads_90, gd_i, cl h2 g7, bd2_s, nI_clamp, g7, hw, nI_add]
      by_cases q : i + w < n
      · rw [if_neg (nI_ge q (by omega))]
        simp (disch := omega) only [gd_i, le_d, nI_clamp, nI_add, g43, hs_k, g7, hw]
        refine hK _ ⟨?_, fun k k1 => by rw [hs_k k1, hs_k k1]; exact hk2 k k1⟩
        have := flow h2 (i + w) q (by omega) hk2
        rw [show 200 * s + (i + w) = 200 * s + i + w by omega] at this
        rw [this, hv2, itr_s, mfl1, if_pos q]
      · rw [if_pos (nI_le (by omega) (by omega))]
        refine hK _ ⟨?_, hk2⟩
        rw [hv2, itr_s, mfl1, if_neg q]
    have dw : decide (¬ nI w = 0) = true := decide_eq_true (nI_ne0 (by omega) (by omega))
    simp (disch := omega) only [p_X8_spreads_9, cl h1 e7, bd2_s, if_neg (nI_ge hi (show n < 2 ^ 31 by omega)), gd_i, nI_clamp, e7, hw, gd_t dw, krem_n, pk_sub]
    have hmod : i % w < w := Nat.mod_lt _ (by omega)
    by_cases q : i % w + 1 < w
    · have hi1 : i + 1 < n := by rw [← hn]; exact mod_next (by omega) (by rw [hn]; exact hi) q
      rw [if_neg (nI_ge (show i % w < w - 1 by omega) (by omega))]
      simp (disch := omega) only [gd_i, le_d, nI_clamp, nI_add, e43, hs_k]
      refine down _ ?_ (fun k k1 => by rw [hs_k k1, hs_k k1]; exact hk k k1)
      rw [if_pos q, ← hv]
      exact flow h1 (i + 1) hi1 (by omega) hk
    · rw [if_pos (nI_le (show w - 1 ≤ i % w by omega) (by omega))]
      exact down h1 (by rw [if_neg q]; exact hv) hk
  · intro h1 ⟨hv, hk⟩ K
    have e7 : h1 137 = h 137 := hk _ (by omega)
    have e43 : h1 143 = h 143 := hk _ (by omega)
    have cl : ∀ h2 : kH, h2 137 = h 137 → p_X8_cells h2 = some (nI n, h2) := fun h2 e => rq_cells (by rw [e]; exact hw) (by rw [e]; exact hg) hn
    simp only [p_X8_spreads_9, cl h1 e7, bd2_s, if_pos (nI_le (Nat.le_refl n) (show n < 2 ^ 31 by omega))]
    have hA := wf_add w2 hn hf
    generalize itr (mfl1 (rF h s n) w n) n (fun _ => 0) = o at hv hA ⊢
    have eF : rF h1 s n = rF h s n := rF_e hn30 (fun j _ _ => by rw [e43])
    rw [← fuse]
    refine fx_m (fun i (h : kH) => (nI y, nI (200 * s), nI i, h)) (fun i h2 => rF h2 s n = itr (fun i f => mcool1 (rR h) (nI y) i (madd1 o i f)) i (rF h s n) ∧ (∀ j, (j < 200 * s ∨ 200 * s + 150 ≤ j) → h2 143 j = h 143 j) ∧ ∀ k, k ≠ 143 → h2 k = h1 k) _ n (by omega) ⟨eF, fun j _ => by rw [e43], fun _ _ => rfl⟩ ?_ ?_
    · intro i h2 hi ⟨hv2, hj2, hk2⟩ K2 hK2
      have g7 : h2 137 = h 137 := by rw [hk2 _ (by omega), e7]
      have un : ∀ a, rF h2 s n a i = rF h s n a i := fun a => by rw [hv2]; exact itr_un (fun _ _ => one_ca) i a i (Nat.le_refl i)
      obtain ⟨⟨a, a1, a2, a3⟩, -⟩ := hA i hi
      rw [madd_at, if_pos ⟨rfl, hi⟩] at a3
      obtain ⟨-, -, -, -, ⟨cov, -, c2, c3⟩⟩ := hf i hi
      have v0 : h2 143 (200 * s + i) = rF h s n 0 i := by rw [← un, rF_at (a := 0) (by omega) hi]; rfl
      have v3 : h2 143 (200 * s + 90 + i) = rF h2 s n 3 i := by rw [rF_at (a := 3) (by omega) hi]
      have v4 : h2 143 (200 * s + 120 + i) = nI cov := by rw [← c3, ← un, rF_at (a := 4) (by omega) hi]
      have vo : h2 145 i = o i := by rw [hk2 _ (by omega), ← cO_at (h := h1) (n := n) hi, hv]
      have hl := lostN_le (l := l + y) (cov := cov) (a := a) (by omega) a1
      -- the cell's new state
      have est : mcool1 (rR h) (nI y) i (madd1 o i (rF h2 s n)) = mset i (mmin (nI (a - lostN (l + y) cov a))) (rF h2 s n) := by
        have m0 : madd1 o i (rF h2 s n) 0 i = nI a := by rw [madd1, hs_s, un, a3]
        have m4 : madd1 o i (rF h2 s n) 4 i = nI cov := by rw [madd1, hs_k (by omega), un, c3]
        rw [mcool1, cool_n (ru := rR h) (l := l) (y := y) (cov := cov) (a := a) l3 rfl l2 hy m0 a1 a2 m4 c2, m0, pk_sub (by omega), madd1, mset_hs]
      -- behind the heat
      have fin : ∀ t : Int32, t = mmin (nI (a - lostN (l + y) cov a)) → okp (fun h' : kH => rF h' s n = itr (fun i f => mcool1 (rR h) (nI y) i (madd1 o i f)) n (rF h s n) ∧ (∀ j, (j < 200 * s ∨ 200 * s + 150 ≤ j) → h' 143 j = h 143 j) ∧ ∀ k, k ≠ 143 → k ≠ 145 → h' k = h k) (p_X8_spreads_290 K2 (nI y) (nI (200 * s)) (nI i) t (nI (200 * s + i)) h2) := by
        intro t ht
        simp (disch := omega) only [p_X8_spreads_290, p_X8_spreads_333, gd_i, le_d, nI_clamp, nI_add, hs_s, hs_i, v3]
        have put : ∀ u : Int32, hs (hs (rF h2 s n) 0 i t) 3 i u = mset i t (rF h2 s n) → okp (fun h' : kH => rF h' s n = itr (fun i f => mcool1 (rR h) (nI y) i (madd1 o i f)) n (rF h s n) ∧ (∀ j, (j < 200 * s ∨ 200 * s + 150 ≤ j) → h' 143 j = h 143 j) ∧ ∀ k, k ≠ 143 → k ≠ 145 → h' k = h k) (K2 (nI y, nI (200 * s), nI (i + 1), hs (hs h2 143 (200 * s + i) t) 143 (200 * s + 90 + i) u)) := by
          intro u hu
          refine hK2 _ ⟨?_, fun j jj => by rw [hs_i (by omega), hs_i (by omega)]; exact hj2 j jj, fun k k1 => by rw [hs_k k1, hs_k k1]; exact hk2 k k1⟩
          rw [rF_hs 3 (by omega) hi hn30 (by omega), rF_hs 0 (by omega) hi hn30 (by omega), itr_s, ← hv2, est, ← ht, hu]
        by_cases q : t < nI 200
        · rw [if_pos q]
          refine put _ ?_
          have z : rF h2 s n 3 i = hs (rF h2 s n) 0 i t 3 i := by rw [hs_k (by omega)]
          rw [z, hs_same, mset, if_pos q]
        · rw [if_neg q]
          exact put _ (by rw [mset, if_neg q])
      have mid : ∀ b : Int32, b = nI (lostN (l + y) cov a) → okp (fun h' : kH => rF h' s n = itr (fun i f => mcool1 (rR h) (nI y) i (madd1 o i f)) n (rF h s n) ∧ (∀ j, (j < 200 * s ∨ 200 * s + 150 ≤ j) → h' 143 j = h 143 j) ∧ ∀ k, k ≠ 143 → k ≠ 145 → h' k = h k) (p_X8_spreads_251 K2 (nI y) (nI (200 * s)) (nI i) b (nI a) h2) := by
        intro b hb
        rw [hb]
        simp (disch := omega) only [p_X8_spreads_251, le_d, pk_sub, nI_add]
        by_cases q : a - lostN (l + y) cov a ≤ 3000
        · rw [if_pos (nI_le q (by omega)), if_pos (nI_le (by omega) (by omega))]
          refine fin _ ?_
          unfold mmin
          by_cases q2 : a - lostN (l + y) cov a < 3000
          · rw [if_pos (nI_lt q2 (by omega))]
          · rw [if_neg (nI_nlt (by omega) (by omega)), show a - lostN (l + y) cov a = 3000 by omega]
        · rw [if_neg (nI_ge (by omega) (by omega))]
          exact fin _ (by unfold mmin; rw [if_neg (nI_nlt (by omega) (by omega))])
      have cn := cool_n (ru := rR h) (x := nI y) (f0 := nI a) (f4 := nI cov) (l := l) (y := y) (cov := cov) (a := a) l3 rfl l2 hy rfl a1 a2 rfl c2
      have r2 : rR h 2 = nI l := l3
      rw [r2] at cn
      simp (disch := omega) only [p_X8_spreads_177, cl h2 g7, bd2_s, if_neg (nI_ge hi (show n < 2 ^ 31 by omega)), nI_add, gd_i, le_d, nI_clamp, v0, vo, a3, g7, l3, v4]
      rw [nI_add] at cn
      by_cases q : cov = 0
      · subst q
        rw [if_pos nI_00] at cn
        rw [if_neg (show ¬ nI 0 = nI 1 by decide)]
        exact mid _ cn
      · have q1 : cov = 1 := by omega
        subst q1
        rw [if_neg nI_10] at cn
        rw [if_pos rfl]
        exact mid _ cn
    · intro h2 ⟨hv2, hj2, hk2⟩ K2
      have g7 : h2 137 = h 137 := by rw [hk2 _ (by omega), e7]
      simp only [p_X8_spreads_177, cl h2 g7, bd2_s, if_pos (nI_le (Nat.le_refl n) (show n < 2 ^ 31 by omega))]
      exact okp_s ⟨hv2, hj2, fun k k1 k2 => by rw [hk2 k k1, hk k k2]⟩
