def atH (h : kH) (t : Nat) (c : Nat) : Int32 := h 133 (t * 30 + c) / nI 2
def atB (h : kH) (t : Nat) (c : Nat) : Int32 := if krem (h 133 (t * 30 + c)) (nI 2) = nI 1 then nI 1 else nI 0
set_option maxHeartbeats 1000000 in
theorem q_feel {P R w m t : Nat} {h : kH} (hc : h P 0 = nI m) (hm : m ≤ 6) (hw : h R 0 = nI w) (hw1 : 1 ≤ w) (hw2 : w ≤ 30) (hR : R + 10 < P) (ht : t < 240) (hP : P + 11 < 133) (h1c : ∀ i, i < m → bt (h (P + 1) i) 0 29) (h2c : ∀ i, i < m → bt (h (P + 2) i) 1 9) (h4c : ∀ i, i < m → bt (h (P + 4) i) 0 9) : ∃ h', p_X4_feel P R (nI t) h = some (b1 (anyN (bstB (cR h R) (atH h t) (cP h P m)) m), h') ∧ cP h' P m = mpots (cR h R) (nI w) m (atH h t) (atB h t) (cP h P m) ∧ ∀ k, (k < P + 3 ∨ P + 11 < k ∨ k = P + 4 ∨ k = P + 5) → h' k = h k := by
  suffices H : okp (fun q : Int32 × kH => q.1 = b1 (anyN (bstB (cR h R) (atH h t) (cP h P m)) m) ∧ cP q.2 P m = mpots (cR h R) (nI w) m (atH h t) (atB h t) (cP h P m) ∧ ∀ k, (k < P + 3 ∨ P + 11 < k ∨ k = P + 4 ∨ k = P + 5) → q.2 k = h k) (p_X4_feel P R (nI t) h) by
    obtain ⟨⟨r, h'⟩, e, rfl, v, f⟩ := H
    exact ⟨h', e, v, f⟩
  unfold p_X4_feel
  refine fx_m (fun i (a : Int32 × kH) => (nI t, a.1, nI i, a.2)) (fun i a => a.1 = b1 (anyN (bstB (cR h R) (atH h t) (cP h P m)) i) ∧ cP a.2 P m = itr (mfeel1 (cR h R) (atH h t)) i (cP h P m) ∧ (∀ j, j < i → a.2 (P + 11) j = b1 (bstB (cR h R) (atH h t) (cP h P m) j)) ∧ ∀ k, (k < P + 3 ∨ P + 11 < k ∨ k = P + 4 ∨ k = P + 5 ∨ k = P + 9 ∨ k = P + 10) → a.2 k = h k) _ m (by omega) (a := (nI 0, h)) ⟨rfl, rfl, fun j hj => absurd hj (by omega), fun _ _ => rfl⟩ ?_ ?_
  · rintro i ⟨x4, h1⟩ hi ⟨hx, hv, hb, hf⟩ K hK
    dsimp only at hx hv hb hf
    have hcw : h1 P 0 = nI m := by rw [hf P (by omega)]; exact hc
    have eR : cR h1 R = cR h R := cR_k (hf R (by omega)) (hf _ (by omega)) (hf _ (by omega))
    have c4 : cP h1 P m 4 i = h1 (P + 8) i := cP_at (a := 4) (by omega) hi
    dsimp only
    simp (disch := omega) only [p_X4_feel_6, hcw, if_neg (nI_ge hi (by omega)), gd_i, le_d, nI_clamp, nar_b0]
    have f11 : ∀ k, k ≠ P + 11 → hs h1 (P + 11) i (nI 0) k = h1 k := fun k hk => hs_k hk
    have b11 : ∀ j, j < i → hs h1 (P + 11) i (nI 0) (P + 11) j = b1 (bstB (cR h R) (atH h t) (cP h P m) j) := fun j hj => by rw [hs_i (by omega)]; exact hb j hj
    have z11 : hs h1 (P + 11) i (nI 0) (P + 11) i = nI 0 := hs_s _ _ _ _
    have v11 : cP (hs h1 (P + 11) i (nI 0)) P m = cP h1 P m := cP_hk (by omega)
    generalize hs h1 (P + 11) i (nI 0) = h2 at f11 b11 z11 v11 ⊢
    rw [f11 (P + 8) (by omega), f11 (P + 1) (by omega)]
    by_cases q4 : h1 (P + 8) i = 0
    · rw [if_pos q4]
      obtain ⟨c, -, hc2, hc3⟩ := h1c i hi
      have hcell : h1 (P + 1) i = nI c := by rw [hf _ (by omega)]; exact hc3
      obtain ⟨h3, e3, v3, f3⟩ := q_warm (P := P) (R := R) (x := atH h t c) (h := h2) hi hm hR (by rw [f11 _ (by omega), hf _ (by omega)]; exact h4c i hi) (by rw [f11 _ (by omega), hf _ (by omega)]; exact h2c i hi)
      have eh : h2 133 (t * 30 + c) / nI 2 = atH h t c := by rw [f11 _ (by omega), hf _ (by omega)]; rfl
      rw [hcell, q_heatAt ht (by omega), bd2_s, eh, bd_o e3]
      have ev : cP h3 P m = itr (mfeel1 (cR h R) (atH h t)) (i + 1) (cP h P m) := by
        have er2 : cR h2 R = cR h R := by rw [cR_k (h := h1) (f11 R (by omega)) (f11 _ (by omega)) (f11 _ (by omega)), eR]
        rw [v3, v11, er2, itr_s, ← hv, mfeel1, if_pos (by rw [c4]; exact q4), cP_at (a := 0) (by omega) hi]
        show _ = mwarm1 _ (atH h t (h1 (P + 1) i).toNatClampNeg) _ _
        rw [hcell, nI_clamp (by omega)]
      have eB : bstB (cR h R) (atH h t) (cP h P m) i = decide (h3 (P + 8) i = nI 1) := by
        rw [bstB, ← ev, ← hv, cP_at (a := 4) (by omega) hi, cP_at (a := 4) (by omega) hi]
        show (decide (h1 (P + 8) i = 0) && decide (h3 (P + 8) i = nI 1)) = _
        simp [q4]
      have fr : ∀ k, (k < P + 3 ∨ P + 11 < k ∨ k = P + 4 ∨ k = P + 5 ∨ k = P + 9 ∨ k = P + 10) → h3 k = h k := fun k hk => by rw [f3 k (by omega) (by omega) (by omega) (by omega), f11 k (by omega), hf k hk]
      have b3 : ∀ j, j < i → h3 (P + 11) j = b1 (bstB (cR h R) (atH h t) (cP h P m) j) := fun j hj => by rw [f3 _ (by omega) (by omega) (by omega) (by omega)]; exact b11 j hj
      have fin : ∀ (b : Bool), bstB (cR h R) (atH h t) (cP h P m) i = b → okp (fun q : Int32 × kH => q.1 = b1 (anyN (bstB (cR h R) (atH h t) (cP h P m)) m) ∧ cP q.2 P m = mpots (cR h R) (nI w) m (atH h t) (atB h t) (cP h P m) ∧ ∀ k, (k < P + 3 ∨ P + 11 < k ∨ k = P + 4 ∨ k = P + 5) → q.2 k = h k) (p_X4_feel_77 K P R (nI t) x4 (nI i) (b1 b) (nI i) h3) := by
        intro b hbb
        have en : vp_nar .boolean (b1 b) = b1 b := by cases b <;> decide
        simp (disch := omega) only [p_X4_feel_77, gd_i, le_d, nI_clamp, hs_s, en, nI_add]
        have base : ∀ x5, x5 = b1 (anyN (bstB (cR h R) (atH h t) (cP h P m)) (i + 1)) → okp (fun q : Int32 × kH => q.1 = b1 (anyN (bstB (cR h R) (atH h t) (cP h P m)) m) ∧ cP q.2 P m = mpots (cR h R) (nI w) m (atH h t) (atB h t) (cP h P m) ∧ ∀ k, (k < P + 3 ∨ P + 11 < k ∨ k = P + 4 ∨ k = P + 5) → q.2 k = h k) (K (nI t, x5, nI (i + 1), hs h3 (P + 11) i (b1 b))) := by
          intro x5 h5
          refine hK (x5, hs h3 (P + 11) i (b1 b)) ⟨h5, by rw [cP_hk (by omega)]; exact ev, fun j hj => ?_, fun k hk => by dsimp only; rw [hs_k (by omega)]; exact fr k hk⟩
          by_cases e : j = i
          · subst e; dsimp only; rw [hs_s, hbb]
          · show hs h3 (P + 11) i (b1 b) (P + 11) j = _
            rw [hs_i e]; exact b3 j (by omega)
        cases b
        · rw [b1_f, if_pos nI_00]
          exact base x4 (by rw [anyN, hbb, Bool.or_false]; exact hx)
        · rw [b1_t, if_neg nI_10]
          exact base (nI 1) (by rw [anyN, hbb, Bool.or_true]; rfl)
      by_cases q8 : h3 (P + 8) i = nI 1
      · rw [if_pos q8]
        exact fin true (by rw [eB]; simp [q8])
      · rw [if_neg q8]
        exact fin false (by rw [eB]; simp [q8])
    · rw [if_neg q4, nI_add]
      have eB : bstB (cR h R) (atH h t) (cP h P m) i = false := by
        rw [bstB, ← hv, c4]; simp [q4]
      refine hK (x4, h2) ⟨by rw [anyN, eB, Bool.or_false]; exact hx, ?_, fun j hj => ?_, fun k hk => by dsimp only; rw [f11 k (by omega), hf k hk]⟩
      · show cP h2 P m = _
        rw [v11, itr_s, ← hv, mfeel1, if_neg (by rw [c4]; exact q4)]
      · by_cases e : j = i
        · subst e; rw [eB]; exact z11
        · exact b11 j (by omega)
  · rintro ⟨x4, h1⟩ ⟨hx, hv, hb, hf⟩ K
    dsimp only at hx hv hb hf
    have hcw : h1 P 0 = nI m := by rw [hf P (by omega)]; exact hc
    have eR : cR h1 R = cR h R := cR_k (hf R (by omega)) (hf _ (by omega)) (hf _ (by omega))
    dsimp only
    simp only [p_X4_feel_6, hcw, if_pos (nI_le (Nat.le_refl m) (show m < 2 ^ 31 by omega))]
    -- the colours
    have col : ∀ h2 : kH, cP h2 P m = itr (mstr1 (cR h R) (nI w) m (bstB (cR h R) (atH h t) (cP h P m))) m (itr (mfeel1 (cR h R) (atH h t)) m (cP h P m)) → (∀ k, (k < P + 3 ∨ P + 11 < k ∨ k = P + 4 ∨ k = P + 5) → h2 k = h k) → okp (fun q : Int32 × kH => q.1 = b1 (anyN (bstB (cR h R) (atH h t) (cP h P m)) m) ∧ cP q.2 P m = mpots (cR h R) (nI w) m (atH h t) (atB h t) (cP h P m) ∧ ∀ k, (k < P + 3 ∨ P + 11 < k ∨ k = P + 4 ∨ k = P + 5) → q.2 k = h k) (p_X4_feel_107 P R (nI t) x4 h2) := by
      intro h2 v2 f2
      unfold p_X4_feel_107
      refine fx_m (fun i (h : kH) => (nI t, x4, nI i, h)) (fun i h3 => cP h3 P m = itr (mcol1 (atB h t)) i (cP h2 P m) ∧ ∀ k, (k < P + 3 ∨ P + 11 < k ∨ k = P + 4 ∨ k = P + 5) → h3 k = h k) _ m (by omega) ⟨rfl, f2⟩ ?_ ?_
      · intro i h3 hi ⟨v3, f3⟩ K2 hK2
        have c4 : cP h3 P m 4 i = h3 (P + 8) i := cP_at (a := 4) (by omega) hi
        have hcw3 : h3 P 0 = nI m := by rw [f3 P (by omega)]; exact hc
        obtain ⟨c, -, hc2, hc3⟩ := h1c i hi
        have hcell : h3 (P + 1) i = nI c := by rw [f3 _ (by omega)]; exact hc3
        have ebl : (if krem (h3 133 (t * 30 + c)) (nI 2) = nI 1 then nI 1 else nI 0) = atB h t c := by rw [f3 _ (by omega)]; rfl
        simp (disch := omega) only [p_X4_feel_110, hcw3, if_neg (nI_ge hi (by omega)), gd_i, nI_clamp, hcell, q_blackensAt ht (show c < 30 by omega), bd2_s, ebl, nI_add]
        by_cases q4 : h3 (P + 8) i = 0
        · obtain ⟨h4, e4, v4, f4⟩ := q_takeColour (P := P) (b := atB h t c) (h := h3) hi hm
          rw [if_pos q4, bd_o e4]
          refine hK2 _ ⟨?_, fun k hk => by rw [f4 k (by omega) (by omega), f3 k hk]⟩
          rw [v4, itr_s, ← v3, mcol1, if_pos (by rw [c4]; exact q4), cP_at (a := 0) (by omega) hi]
          show _ = mcolr (atB h t (h3 (P + 1) i).toNatClampNeg) _ _
          rw [hcell, nI_clamp (by omega)]
        · rw [if_neg q4]
          refine hK2 _ ⟨?_, f3⟩
          rw [itr_s, ← v3, mcol1, if_neg (by rw [c4]; exact q4)]
      · intro h3 ⟨v3, f3⟩ K2
        have hcw3 : h3 P 0 = nI m := by rw [f3 P (by omega)]; exact hc
        simp only [p_X4_feel_110, hcw3, if_pos (nI_le (Nat.le_refl m) (show m < 2 ^ 31 by omega))]
        rw [hx, gd_t (b1_and _)]
        exact okp_s ⟨rfl, by rw [mpots, ← v2]; exact v3, f3⟩
    cases qa : anyN (bstB (cR h R) (atH h t) (cP h P m)) m
    · rw [hx, qa, b1_f, if_pos nI_00]
      have := col h1 (by rw [hv, mstr_no (fun j hj => anyN_f qa hj)]) (fun k hk => hf k (by omega))
      rw [hx, qa, b1_f] at this
      exact this
    · obtain ⟨h2, e2, v2, f2⟩ := q_strike (P := P) (R := R) (h := h1) (B := bstB (cR h R) (atH h t) (cP h P m)) hcw hm (by rw [hf R (by omega)]; exact hw) hw1 hw2 hR hb
      rw [hx, qa, b1_t, if_neg nI_10, bd_o e2]
      have := col h2 (by rw [v2, eR, hv]) (fun k hk => by rw [f2 k (by omega), hf k (by omega)])
      rw [hx, qa, b1_t] at this
      exact this
