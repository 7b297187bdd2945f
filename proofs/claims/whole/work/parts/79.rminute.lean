/-! the reference: a whole minute -/
theorem b1_if {b : Bool} {α : Type} {x y : α} : (if b1 b = 0 then x else y) = (if b = true then y else x) := by
  cases b
  · rw [if_pos (by rw [b1_f]; exact nI_00)]; rfl
  · rw [if_neg (by rw [b1_t]; exact nI_10)]; rfl
theorem n_le {w g n : Nat} (hn : w * g = n) (hw : w ≤ 6) (hg : g ≤ 5) : n ≤ 30 := by
  rw [← hn]; exact Nat.le_trans (Nat.mul_le_mul hw hg) (by omega)
theorem n_pos {w g n : Nat} (hn : w * g = n) (hw : 2 ≤ w) (hg : 2 ≤ g) : 0 < n := by
  rw [← hn]; exact Nat.mul_pos (by omega) (by omega)
set_option maxHeartbeats 2000000 in
theorem rq_goes {s w g n m U y : Nat} {h : kH} (hr : WfR (rR h) w g) (hn : w * g = n) (hc : h 138 0 = nI m) (hm : m ≤ 6) (hs3 : s ≤ 3) (hy : y ≤ 9) (hf : WfF n 3000 U (rF h s n)) (hU : U < 100000) (hp : WfP n m (rP h s m)) : ∃ h', p_X8_goes (nI s) (nI y) h = some h' ∧ rF h' s n = mfire (rR h) (nI y) w n (rF h s n) ∧ rP h' s m = mpots (rR h) (nI w) m (fun c => mfire (rR h) (nI y) w n (rF h s n) 0 c) (fun c => nI (blk (mfire (rR h) (nI y) w n (rF h s n)) c)) (rP h s m) ∧ h' 143 (200 * s + 198) = h 143 (200 * s + 198) + nI 1 ∧ (∀ j, (j < 200 * s ∨ 200 * s + 199 ≤ j) → h' 143 j = h 143 j) ∧ ∀ k, k ≠ 143 → k ≠ 145 → k ≠ 147 → h' k = h k := by
  have hn30 := n_le hn hr.2.2.1.2 hr.2.2.2.1.2
  have hn0 := n_pos hn hr.2.2.1.1 hr.2.2.2.1.1
  obtain ⟨h1, e1, v1, o1, j1, k1⟩ := rq_burns (s := s) (h := h) hr.1 hr.2.1 hn hn30 hs3 hf hU
  have r1 : rR h1 = rR h := rR_e (k1 _ (by omega) (by omega))
  obtain ⟨h2, e2, v2, j2, k2⟩ := rq_spreads (s := s) (h := h1) (y := y) (U := U) (by rw [r1]; exact hr) hn hn30 hs3 hy o1 (by rw [v1]; exact wf_burn hr hf hU)
  have r2 : rR h2 = rR h := by rw [rR_e (h := h1) (k2 _ (by omega) (by omega)), r1]
  have f2 : rF h2 s n = mfire (rR h) (nI y) w n (rF h s n) := by rw [v2, v1, r1]; rfl
  have p2 : rP h2 s m = rP h s m := rP_e hm (fun j a b => by rw [j2 j (by omega), j1 j (by omega)]) (by rw [k2 _ (by omega) (by omega), k1 _ (by omega) (by omega)]) (by rw [k2 _ (by omega) (by omega), k1 _ (by omega) (by omega)])
  have c2 : h2 138 0 = nI m := by rw [k2 _ (by omega) (by omega), k1 _ (by omega) (by omega)]; exact hc
  have wf2 : WfF n 3000 U (rF h2 s n) := by rw [f2]; exact wf_fire hr hn (bt_n (by omega) hy) hU hf
  rw [← f2, ← p2]
  rw [← p2] at hp
  have J2 : ∀ j, (j < 200 * s ∨ 200 * s + 150 ≤ j) → h2 143 j = h 143 j := fun j jj => by rw [j2 j jj, j1 j (by omega)]
  have K2 : ∀ k, k ≠ 143 → k ≠ 145 → h2 k = h k := fun k a b => by rw [k2 k a b, k1 k a b]
  show okp (fun h' : kH => rF h' s n = rF h2 s n ∧ rP h' s m = mpots (rR h) (nI w) m (fun c => rF h2 s n 0 c) (fun c => nI (blk (rF h2 s n) c)) (rP h2 s m) ∧ h' 143 (200 * s + 198) = h 143 (200 * s + 198) + nI 1 ∧ (∀ j, (j < 200 * s ∨ 200 * s + 199 ≤ j) → h' 143 j = h 143 j) ∧ ∀ k, k ≠ 143 → k ≠ 145 → k ≠ 147 → h' k = h k) _
  unfold p_X8_goes
  rw [bd_o e1, bd_o e2]
  have hh : ∀ c, c < n → bt ((fun c => rF h2 s n 0 c) c) 20 3000 := fun c hc => (wf2 c hc).1
  have hwi : ∀ i, i ≤ m → WfP n m (itr (mfeel1 (rR h) (fun c => rF h2 s n 0 c)) i (rP h2 s m)) := fun i hi => itr_inv (WfP n m) m (fun i p hi h => one_feel.wf h (w1_feel (h i hi) hn0 hn30 hh)) hp i hi
  refine fx_m (fun i (h : kH) => (nI s, nI i, h)) (fun i h3 => rP h3 s m = itr (mfeel1 (rR h) (fun c => rF h2 s n 0 c)) i (rP h2 s m) ∧ (∀ j, j < i → h3 147 j = b1 (bstB (rR h) (fun c => rF h2 s n 0 c) (rP h2 s m) j)) ∧ (∀ j, (j < 200 * s + 150 ∨ 200 * s + 198 ≤ j) → h3 143 j = h2 143 j) ∧ ∀ k, k ≠ 143 → k ≠ 147 → h3 k = h2 k) _ m (by omega) ⟨rfl, fun j hj => absurd hj (by omega), fun _ _ => rfl, fun _ _ _ => rfl⟩ ?_ ?_
  · intro i h3 hi ⟨v3, b3, j3, k3⟩ K hK
    have c3 : h3 138 0 = nI m := by rw [k3 _ (by omega) (by omega)]; exact c2
    have p4 : rP (hs h3 147 i (nI 0)) s m = rP h3 s m := rP_e hm (fun j _ _ => by rw [hs_k (by omega)]) (hs_k (by omega)) (hs_k (by omega))
    have f4 : rF (hs h3 147 i (nI 0)) s n = rF h2 s n := rF_e hn30 (fun j a b => by rw [hs_k (by omega), j3 j (by omega)])
    have r4 : rR (hs h3 147 i (nI 0)) = rR h := by rw [rR_e (h := h2) (by rw [hs_k (by omega), k3 _ (by omega) (by omega)]), r2]
    have b4 : ∀ j, j < i → hs h3 147 i (nI 0) 147 j = b1 (bstB (rR h) (fun c => rF h2 s n 0 c) (rP h2 s m) j) := fun j hj => by rw [hs_i (by omega)]; exact b3 j hj
    have z4 : hs h3 147 i (nI 0) 147 i = nI 0 := hs_s _ _ _ _
    have J4 : ∀ j, (j < 200 * s + 150 ∨ 200 * s + 198 ≤ j) → hs h3 147 i (nI 0) 143 j = h2 143 j := fun j jj => by rw [hs_k (by omega)]; exact j3 j jj
    have K4 : ∀ k, k ≠ 143 → k ≠ 147 → hs h3 147 i (nI 0) k = h2 k := fun k a b => by rw [hs_k b]; exact k3 k a b
    simp (disch := omega) only [p_X8_goes_13, gd_i, nI_clamp, c3, if_neg (nI_ge hi (show m < 2 ^ 31 by omega)), le_d, nar_b0, rq_isWhole hi hm hs3, bd2_s, nI_add, b1_if]
    rw [p4]
    generalize hs h3 147 i (nI 0) = h4 at *
    have wi := hwi i (by omega)
    rw [← v3, ← p4] at wi
    by_cases q : rP h3 s m 4 i = 0
    · rw [if_pos (decide_eq_true q)]
      obtain ⟨c, -, cc, ce⟩ := (wi i hi).1
      have hcn : c < n := by omega
      obtain ⟨h5, e5, v5, b5, j5, k5⟩ := rq_fires (h := h4) (n := n) (c := c) hi hm hs3 hn30 hcn (wi i hi) ce (by rw [p4]; exact q)
      have ev : rP h5 s m = itr (mfeel1 (rR h) (fun c => rF h2 s n 0 c)) (i + 1) (rP h2 s m) := by
        rw [v5, r4, f4, p4, itr_s, ← v3, mfeel1, if_pos q]
        rw [p4] at ce
        rw [ce, nI_clamp (by omega)]
      have eB : bstB (rR h) (fun c => rF h2 s n 0 c) (rP h2 s m) i = decide (rP h5 s m 4 i = nI 1) := by
        rw [bstB, ← ev, ← v3]; simp [q]
      rw [bd_o e5]
      refine hK _ ⟨ev, fun j hj => ?_, fun j jj => by rw [j5 j jj, J4 j jj], fun k a b => by rw [k5 k a b, K4 k a b]⟩
      by_cases e : j = i
      · subst e
        rw [eB]
        by_cases z : rP h5 s m 4 j = nI 1
        · rw [if_pos z] at b5
          rw [b5, pk_us, decide_eq_true z]; rfl
        · rw [if_neg z] at b5
          rw [b5, z4, decide_eq_false z]; rfl
      · have : h5 147 j = h4 147 j := by
          rw [b5]
          by_cases z : rP h5 s m 4 i = nI 1
          · rw [if_pos z, pk_un e]
          · rw [if_neg z]
        rw [this]; exact b4 j (by omega)
    · rw [if_neg (by simp [q])]
      have eB : bstB (rR h) (fun c => rF h2 s n 0 c) (rP h2 s m) i = false := by
        rw [bstB, ← v3]; simp [q]
      refine hK _ ⟨by rw [p4, itr_s, ← v3, mfeel1, if_neg q], fun j hj => ?_, J4, K4⟩
      by_cases e : j = i
      · subst e; rw [eB]; exact z4
      · exact b4 j (by omega)
  · intro h3 ⟨v3, b3, j3, k3⟩ K
    have c3 : h3 138 0 = nI m := by rw [k3 _ (by omega) (by omega)]; exact c2
    have r3 : rR h3 = rR h := by rw [rR_e (h := h2) (k3 _ (by omega) (by omega)), r2]
    have f3 : rF h3 s n = rF h2 s n := rF_e hn30 (fun j a b => j3 j (by omega))
    obtain ⟨h4, e4, v4, j4, k4⟩ := rq_strikes (s := s) (h := h3) (w := w) (B := bstB (rR h) (fun c => rF h2 s n 0 c) (rP h2 s m)) (show rR h3 0 = nI w by rw [r3]; exact hr.1) (by have := hr.2.2.1.1; omega) (by have := hr.2.2.1.2; omega) c3 hm hs3 b3
    rw [r3, v3] at v4
    simp (disch := omega) only [p_X8_goes_13, gd_i, nI_clamp, c3, if_pos (nI_le (Nat.le_refl m) (show m < 2 ^ 31 by omega)), bd_o e4]
    have hw4 : WfP n m (rP h4 s m) := by
      rw [v4]
      exact itr_inv (WfP n m) m (fun i p hi h => one_str.wf h (w1_str (h i hi))) (hwi m (Nat.le_refl m)) m (Nat.le_refl m)
    have hw5 : ∀ i, i ≤ m → WfP n m (itr (mcol1 (fun c => nI (blk (rF h2 s n) c))) i (rP h4 s m)) := fun i hi => itr_inv (WfP n m) m (fun i p hi h => one_col.wf h (w1_col (h i hi))) hw4 i hi
    refine fx_m (fun i (h : kH) => (nI s, nI i, h)) (fun i h5 => rP h5 s m = itr (mcol1 (fun c => nI (blk (rF h2 s n) c))) i (rP h4 s m) ∧ (∀ j, (j < 200 * s + 150 ∨ 200 * s + 198 ≤ j) → h5 143 j = h2 143 j) ∧ ∀ k, k ≠ 143 → h5 k = h4 k) _ m (by omega) ⟨rfl, fun j jj => by rw [j4 j jj, j3 j jj], fun _ _ => rfl⟩ ?_ ?_
    · intro i h5 hi ⟨v5, j5, k5⟩ K5 hK5
      have c5 : h5 138 0 = nI m := by rw [k5 _ (by omega), k4 _ (by omega)]; exact c3
      have f5 : rF h5 s n = rF h2 s n := rF_e hn30 (fun j a b => j5 j (by omega))
      simp (disch := omega) only [p_X8_goes_58, gd_i, nI_clamp, c5, if_neg (nI_ge hi (show m < 2 ^ 31 by omega)), rq_isWhole hi hm hs3, bd2_s, nI_add, b1_if]
      have wi := hw5 i (by omega)
      rw [← v5] at wi
      by_cases q : rP h5 s m 4 i = 0
      · rw [if_pos (decide_eq_true q)]
        obtain ⟨c, -, cc, ce⟩ := (wi i hi).1
        have hcn : c < n := by omega
        obtain ⟨h6, e6, v6, j6, k6⟩ := rq_colours (h := h5) (n := n) (c := c) hi hm hs3 hn30 hcn ce (wi i hi).2.2.2.2.2.1 (by rw [f5]; exact (wf2 c hcn).2.2.2.2)
        rw [bd_o e6]
        refine hK5 _ ⟨?_, fun j jj => by rw [j6 j jj, j5 j jj], fun k a => by rw [k6 k a, k5 k a]⟩
        rw [v6, f5, itr_s, ← v5, mcol1, if_pos q, ce, nI_clamp (by omega)]
      · rw [if_neg (by simp [q])]
        exact hK5 _ ⟨by rw [itr_s, ← v5, mcol1, if_neg q], j5, k5⟩
    · intro h5 ⟨v5, j5, k5⟩ K5
      have c5 : h5 138 0 = nI m := by rw [k5 _ (by omega), k4 _ (by omega)]; exact c3
      simp (disch := omega) only [p_X8_goes_58, gd_i, nI_clamp, c5, if_pos (nI_le (Nat.le_refl m) (show m < 2 ^ 31 by omega)), pk_mul, nI_add, le_d]
      refine okp_s ⟨?_, ?_, ?_, fun j jj => ?_, fun k a b c => ?_⟩
      · exact rF_e hn30 (fun j a b => by rw [hs_i (by omega), j5 j (by omega)])
      · rw [rP_e hm (h := h5) (fun j a b => by rw [hs_i (by omega)]) (hs_k (by omega)) (hs_k (by omega)), v5, v4]
        rfl
      · rw [hs_s, j5 _ (by omega), J2 _ (by omega)]
      · rw [hs_i (by omega)]
        rcases jj with jj | jj
        · rw [j5 _ (by omega), J2 _ (by omega)]
        · rw [j5 _ (by omega), J2 _ (by omega)]
      · rw [hs_k a, k5 k a, k4 k a, k3 k a c, K2 k a b]
