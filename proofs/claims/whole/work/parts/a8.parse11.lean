/-! an item on both sides: pots, and all letters -/
section
variable {c r c' r' : kH} {V : Nat → Int32} {x : Int32}
theorem J.k (q : J c r) (h : ∀ k, 3 ≤ k → k ≤ 26 → c' k = c k) (h7 : r' 137 = r 137) (h8 : r' 138 = r 138) (h1 : r' 141 = r 141) (h2 : r' 142 = r 142) : J c' r' :=
  ⟨q.1.k (h _ (by omega) (by omega)) (h _ (by omega) (by omega)) (h _ (by omega) (by omega)) h7, q.2.1.k (fun k _ _ => h k (by omega) (by omega)) h2, fun b hb => by rw [h _ (by omega) (by omega)]; exact q.2.2.1 b hb, q.2.2.2.k (fun k _ _ => h k (by omega) (by omega)) h8 h1⟩
theorem it_p (q : J c r) (hc : ∀ k, k < 6 → c 27 k = V k) (hr : ∀ k, k < 6 → r 151 k = V k) : Itm (nI 112) 6 V c r := by
  have hG : (∀ k, k < 6 → rgV (k_sl (bI (nI 112))) V k) ↔ (inI (V 0) 0 5 && inI (V 1) 0 4 && inI (V 2) 1 9 && inI (V 3) 0 99 && inI (V 4) 0 9 && inI (V 5) 1 99) = true := by
    rw [all_s, all_s, all_s, all_s, all_s, all1, sl_p, rgV_i (k := 0) rfl rfl (by omega) (by omega), rgV_i (k := 1) rfl rfl (by omega) (by omega), rgV_i (k := 2) rfl rfl (by omega) (by omega), rgV_i (k := 3) rfl rfl (by omega) (by omega), rgV_i (k := 4) rfl rfl (by omega) (by omega), rgV_i (k := 5) rfl rfl (by omega) (by omega), Bool.and_eq_true, Bool.and_eq_true, Bool.and_eq_true, Bool.and_eq_true, Bool.and_eq_true]
  have e : p_X8_isGood (nI 112) r = if inI (V 0) 0 5 = true then if inI (V 1) 0 4 = true then bd2 (if inI (V 2) 1 9 = true then if inI (V 3) 0 99 = true then if inI (V 4) 0 9 = true then if inI (V 5) 1 99 = true then (if (r 138 1) = (nI 6) then some ((nI 0), r) else fx (fun K142 s => p_X8_isPlaced_142 K142 s.1 s.2) FU ((nI 0), r)) else some (nI 0, r) else some (nI 0, r) else some (nI 0, r) else some (nI 0, r)) (fun v9 h7 => if v9 = 0 then some ((nI 0), h7) else some ((nI 1), h7)) else some (nI 0, r) else some (nI 0, r) := by
    unfold p_X8_isGood
    rw [if_neg (by decide), if_neg (by decide), if_neg (by decide), if_neg (by decide), if_neg (by decide), if_neg (by decide), rq_isIn' (by omega) (by omega) (by omega), bd2_s, b1_if, hr 0 (by omega), rq_isIn' (by omega) (by omega) (by omega), bd2_s, b1_if, hr 1 (by omega), p_X8_isPlaced, gd_i (by omega) (by omega), gd_i (by omega) (by omega), le_d, if_neg (show ¬ nI 112 = nI 99 by decide), if_pos rfl, rq_isIn' (by omega) (by omega) (by omega), bd2_s, b1_if, hr 2 (by omega), rq_isIn' (by omega) (by omega) (by omega), bd2_s, b1_if, hr 3 (by omega), rq_isIn' (by omega) (by omega) (by omega), bd2_s, b1_if, hr 4 (by omega), rq_isIn' (by omega) (by omega) (by omega), bd2_s, b1_if, hr 5 (by omega), gd_i (by omega) (by omega), nI_clamp (by omega)]
  refine Itm.mk hG (fun g => ?_) (fun g => ⟨r, ?_, FrR.rf⟩)
  · rw [Bool.and_eq_true, Bool.and_eq_true, Bool.and_eq_true, Bool.and_eq_true, Bool.and_eq_true] at g
    obtain ⟨⟨⟨⟨⟨g0, g1⟩, g2⟩, g3⟩, g4⟩, g5⟩ := g
    rw [g0, g1, g2, g3, g4, g5, if_pos rfl, if_pos rfl, if_pos rfl, if_pos rfl, if_pos rfl, if_pos rfl] at e
    obtain ⟨qt, qg, q7, N, hN, n1, n2, n3⟩ := q
    by_cases z : N = 6
    · subst z
      refine ⟨false, c, r, ?_, ?_, FrC.rf, FrR.rf, fun a => absurd a (by decide)⟩
      · unfold p_X3_takeItem
        rw [if_neg (by decide), if_neg (by decide), if_neg (by decide), if_neg (by decide), if_neg (by decide), if_neg (by decide), if_pos rfl, p_X3_takePot, n1, if_neg (nI_nlt (Nat.le_refl 6) (by omega)), bd2_s, gd_t (by decide)]
        rfl
      · rw [e, n2, if_pos rfl, bd2_s, if_pos nI_00]; rfl
    · have hN' : N < 6 := by omega
      obtain ⟨c', ec, p1, ⟨⟨v0, v1, v2, v3, v4, v5⟩, v6, v7, v8, v9, v10⟩, p2, p3⟩ := q_takePot hN' n1 hc
      obtain ⟨r', er, s1, s2, s3, s4, s5⟩ := rq_pl142 hN' n2
      refine ⟨true, c', r', ec, ?_, fun k hk => p3 k (by omega), ⟨fun j hj => by rw [s5 137 (by omega) (by omega)], s2, fun k a1 a2 a3 a4 => s5 k a2 a3⟩, fun _ => ⟨qt.k (p3 _ (by omega)) (p3 _ (by omega)) (p3 _ (by omega)) (s5 _ (by omega) (by omega)), qg.k (fun k _ _ => p3 k (by omega)) (s5 _ (by omega) (by omega)), fun b hb => by rw [p3 _ (by omega)]; exact q7 b hb, N + 1, by omega, p1, s1, fun i hi => ?_⟩⟩
      · rw [e, n2, if_neg (fun a => z (nI_inj (by omega) (by omega) a)), er, bd2_s, if_neg nI_10]; rfl
      · unfold Jp1
        by_cases ei : i = N
        · subst ei
          have w0 := s3 0 (by omega)
          rw [Nat.add_zero] at w0
          rw [v0, v1, v2, v3, v4, v5, w0, s3 1 (by omega), s3 2 (by omega), s3 3 (by omega), s3 4 (by omega), s3 5 (by omega), hr 0 (by omega), hr 1 (by omega), hr 2 (by omega), hr 3 (by omega), hr 4 (by omega), hr 5 (by omega)]
          exact ⟨⟨rfl, inI_bt (by omega) g0⟩, ⟨rfl, inI_bt (by omega) g1⟩, ⟨rfl, inI_bt (by omega) g2⟩, ⟨rfl, inI_bt (by omega) g3⟩, ⟨rfl, inI_bt (by omega) g4⟩, ⟨rfl, inI_bt (by omega) g5⟩, v6, v7, v8, v9, v10⟩
        · have hi' : i < N := by omega
          rw [p2 25 i (by omega) ei, p2 26 i (by omega) ei, p2 15 i (by omega) ei, p2 16 i (by omega) ei, p2 17 i (by omega) ei, p2 18 i (by omega) ei, p2 19 i (by omega) ei, p2 20 i (by omega) ei, p2 21 i (by omega) ei, p2 22 i (by omega) ei, p2 23 i (by omega) ei, s4 (6 * i) (by omega), s4 (6 * i + 1) (by omega), s4 (6 * i + 2) (by omega), s4 (6 * i + 3) (by omega), s4 (6 * i + 4) (by omega), s4 (6 * i + 5) (by omega)]
          exact n3 i hi'
  · rw [e]
    revert g
    cases inI (V 0) 0 5
    · intro _; rfl
    · cases inI (V 1) 0 4
      · intro _; rfl
      · cases inI (V 2) 1 9
        · intro _; rfl
        · cases inI (V 3) 0 99
          · intro _; rfl
          · cases inI (V 4) 0 9
            · intro _; rfl
            · cases inI (V 5) 1 99
              · intro _; rfl
              · intro g; exact absurd g (by decide)
theorem item {N : Nat} (hN : N = (k_sl (bI x)).length / 2) (hN1 : 1 ≤ N) (q : J c r) (hc : ∀ k, k < N → c 27 k = V k) (hr : ∀ k, k < N → r 151 k = V k) : Itm x N V c r := by
  by_cases z1 : x = nI 99
  · subst z1; rw [show N = 4 by rw [hN, sl_c]; rfl] at hc hr ⊢; exact it_c q hc hr
  by_cases z2 : x = nI 100
  · subst z2; rw [show N = 2 by rw [hN, sl_d]; rfl] at hc hr ⊢; exact it_d q hc hr
  by_cases z3 : x = nI 104
  · subst z3; rw [show N = 2 by rw [hN, sl_h]; rfl] at hc hr ⊢; exact it_h q hc hr
  by_cases z4 : x = nI 107
  · subst z4; rw [show N = 3 by rw [hN, sl_k]; rfl] at hc hr ⊢; exact it_k q hc hr
  by_cases z5 : x = nI 108
  · subst z5; rw [show N = 1 by rw [hN, sl_l]; rfl] at hc hr ⊢; exact it_l q hc hr
  by_cases z6 : x = nI 111
  · subst z6; rw [show N = 2 by rw [hN, sl_o]; rfl] at hc hr ⊢; exact it_os (Or.inl ⟨rfl, rfl⟩) q hc hr
  by_cases z7 : x = nI 112
  · subst z7; rw [show N = 6 by rw [hN, sl_p]; rfl] at hc hr ⊢; exact it_p q hc hr
  by_cases z8 : x = nI 115
  · subst z8; rw [show N = 2 by rw [hN, sl_S]; rfl] at hc hr ⊢; exact it_os (Or.inr ⟨rfl, rfl⟩) q hc hr
  by_cases z9 : x = nI 118
  · subst z9; rw [show N = 1 by rw [hN, sl_v]; rfl] at hc hr ⊢; exact it_v q hc hr
  by_cases z10 : x = nI 119
  · subst z10; rw [show N = 2 by rw [hN, sl_w]; rfl] at hc hr ⊢; exact it_w q hc hr
  exfalso
  have : bI x = 9 := by
    unfold bI
    rw [if_neg z1, if_neg z2, if_neg z3, if_neg z4, if_neg z5, if_neg z6, if_neg z7, if_neg z8, if_neg z9, if_neg z10]
  rw [this] at hN
  have e0 : (k_sl 9).length / 2 = 0 := by decide
  omega
/-! texts that are alike below L -/
theorem fgf_c {T T' : Nat → Int32} {L : Nat} (e : ∀ i, i < L → T i = T' i) : ∀ k i, i + k ≤ L → fgf T i k = fgf T' i k
  | 0, i, _ => rfl
  | k + 1, i, h => by rw [fgf, fgf, e i (by omega), fgf_c e k (i + 1) (by omega)]
theorem fgL_c {T T' : Nat → Int32} {L : Nat} (e : ∀ i, i < L → T i = T' i) (i : Nat) : fgL T L i = fgL T' L i := by
  unfold fgL
  by_cases z : i ≤ L
  · exact fgf_c e _ _ (by omega)
  · rw [show L - i = 0 by omega]; rfl
theorem psN_c {T T' : Nat → Int32} {L i : Nat} (e : ∀ i, i < L → T i = T' i) : ∀ k, psN T L i k = psN T' L i k
  | 0 => rfl
  | k + 1 => by rw [psN, psN, psN_c e k, fgL_c e]
theorem nv_c {T T' : Nat → Int32} {L i : Nat} (e : ∀ i, i < L → T i = T' i) : ∀ c, i + c ≤ L → nv T i c = nv T' i c
  | 0, _ => rfl
  | c + 1, h => by rw [nv, nv, nv_c e c (by omega), e (i + c) (by omega)]
theorem vlN_c {T T' : Nat → Int32} {L i k : Nat} (e : ∀ i, i < L → T i = T' i) : vlN T L i k = vlN T' L i k := by
  unfold vlN
  rw [psN_c e, fgL_c e]
  by_cases z : psN T' L i k ≤ L
  · exact nv_c e _ (fgL_s z).1
  · rw [show fgL T' L (psN T' L i k) = 0 by unfold fgL; rw [show L - psN T' L i k = 0 by omega]; rfl]; rfl
theorem okN_c {T T' : Nat → Int32} {L i N k : Nat} (e : ∀ i, i < L → T i = T' i) : okN T L i N k → okN T' L i N k := by
  unfold okN
  rw [psN_c e, fgL_c e]
  intro ⟨a, b, d⟩
  exact ⟨a, b, by rw [← e _ b]; exact d⟩
theorem psN_gt {T : Nat → Int32} {L i : Nat} : ∀ k, i < psN T L i k
  | 0 => by rw [psN]; omega
  | k + 1 => by have := psN_gt (T := T) (L := L) (i := i) k; rw [psN]; omega
end
