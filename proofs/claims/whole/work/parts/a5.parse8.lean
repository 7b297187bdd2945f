/-! an item's sense: what the class and the reference do with its numbers -/
def inI (x : Int32) (lo hi : Nat) : Bool := okI x lo hi
def rgV (b : List Int32) (V : Nat → Int32) (k : Nat) : Prop := ¬ V k < b.getD (2 * k) 0 ∧ V k ≤ b.getD (2 * k + 1) 0
theorem inI_iff {x : Int32} {lo hi : Nat} (h1 : lo < 2 ^ 31) (h2 : hi < 2 ^ 31) : inI x lo hi = true ↔ ¬ x < nI lo ∧ x ≤ nI hi := by
  unfold inI okI
  rw [Bool.and_eq_true, decide_eq_true_eq, decide_eq_true_eq, lt_n h1, le_n h2]
  constructor
  · intro q; exact ⟨by omega, by omega⟩
  · intro q; exact ⟨by omega, by omega⟩
theorem inI_bt {x : Int32} {lo hi : Nat} (h2 : hi < 2 ^ 31) (q : inI x lo hi = true) : bt x lo hi := okI_n h2 q
/-- the told numbers of the class's plan -/
def tk (j : Nat) : Nat := if j < 8 then 3 else if j < 11 then 4 else 5
def ti (j : Nat) : Nat := if j < 2 then j else if j < 8 then j + 2 else if j < 11 then j - 8 else j - 11
def tlo (j : Nat) : Nat := [2, 2, 1, 30, 1, 10, 10, 0, 1, 1, 1, 1, 1, 1].getD j 0
def thi (j : Nat) : Nat := [6, 5, 30, 99, 60, 300, 300, 9, 20, 20, 20, 60, 60, 60].getD j 0
def ghi (a : Nat) : Nat := [199, 2, 1, 1].getD a 0
def Jt (c r : kH) : Prop := ∀ j, j < 14 → c (tk j) (ti j) = r 137 (14 + j) ∧ bt (c (tk j) (ti j)) (tlo j) (thi j)
def Jg (c r : kH) : Prop := ∀ a q, a < 4 → q < 30 → c (8 + a) q = r 142 (30 * a + q) ∧ bt (c (8 + a) q) 0 (ghi a)
def Jp1 (c r : kH) (i : Nat) : Prop := (c 25 i = r 141 (6 * i) ∧ bt (c 25 i) 0 5) ∧ (c 26 i = r 141 (6 * i + 1) ∧ bt (c 26 i) 0 4) ∧ (c 15 i = r 141 (6 * i + 2) ∧ bt (c 15 i) 1 9) ∧ (c 16 i = r 141 (6 * i + 3) ∧ bt (c 16 i) 0 99) ∧ (c 17 i = r 141 (6 * i + 4) ∧ bt (c 17 i) 0 9) ∧ (c 18 i = r 141 (6 * i + 5) ∧ bt (c 18 i) 1 99) ∧ c 19 i = nI 20 ∧ c 20 i = nI 0 ∧ c 21 i = nI 0 ∧ c 22 i = nI 0 ∧ c 23 i = nI 0
def Jp (c r : kH) : Prop := ∃ N, N ≤ 6 ∧ c 13 0 = nI N ∧ r 138 1 = nI N ∧ ∀ i, i < N → Jp1 c r i
def J (c r : kH) : Prop := Jt c r ∧ Jg c r ∧ (∀ q, q < 30 → c 7 q = nI 20) ∧ Jp c r
def FrC (c c' : kH) : Prop := ∀ k, (k < 3 ∨ 27 < k) → c' k = c k
def FrR (r r' : kH) : Prop := (∀ j, j < 14 → r' 137 j = r 137 j) ∧ r' 138 0 = r 138 0 ∧ ∀ k, k ≠ 137 → k ≠ 138 → k ≠ 141 → k ≠ 142 → r' k = r k
section
variable {c r c' r' : kH} {V : Nat → Int32} {x : Int32}
theorem tk_i {j j0 : Nat} (h : j < 14) (h0 : j0 < 14) (e : j ≠ j0) : ¬ (tk j = tk j0 ∧ ti j = ti j0) := by
  intro q
  unfold tk ti at q
  obtain ⟨q1, q2⟩ := q
  split at q1 <;> split at q1 <;> (try split at q1) <;> (try split at q1) <;> (try omega) <;> (revert q2; repeat' split) <;> omega
theorem Jt.set {j0 : Nat} (q : Jt c r) (h0 : j0 < 14) (hx : bt x (tlo j0) (thi j0)) : Jt (hs c (tk j0) (ti j0) x) (hs r 137 (14 + j0) x) := by
  intro j hj
  by_cases e : j = j0
  · subst e
    rw [hs_s, hs_s]
    exact ⟨rfl, hx⟩
  · rw [hs_r, if_neg (tk_i hj h0 e), hs_i (by omega)]
    exact q j hj
theorem Jt.k (q : Jt c r) (h3 : c' 3 = c 3) (h4 : c' 4 = c 4) (h5 : c' 5 = c 5) (hr : r' 137 = r 137) : Jt c' r' := by
  intro j hj
  have : c' (tk j) = c (tk j) := by
    unfold tk
    split
    · exact h3
    · split
      · exact h4
      · exact h5
  rw [this, hr]
  exact q j hj
theorem Jg.set {a0 q0 : Nat} (q : Jg c r) (ha : a0 < 4) (hq : q0 < 30) (hx : bt x 0 (ghi a0)) : Jg (hs c (8 + a0) q0 x) (hs r 142 (30 * a0 + q0) x) := by
  intro a b h1 h2
  by_cases e : a = a0 ∧ b = q0
  · obtain ⟨rfl, rfl⟩ := e
    rw [hs_s, hs_s]
    exact ⟨rfl, hx⟩
  · rw [hs_r, if_neg (by omega), hs_i (by omega)]
    exact q a b h1 h2
theorem Jg.k (q : Jg c r) (h : ∀ k, 8 ≤ k → k < 12 → c' k = c k) (hr : r' 142 = r 142) : Jg c' r' := by
  intro a b h1 h2
  rw [h _ (by omega) (by omega), hr]
  exact q a b h1 h2
theorem Jp.k (q : Jp c r) (h : ∀ k, 13 ≤ k → k < 27 → c' k = c k) (h1 : r' 138 = r 138) (h2 : r' 141 = r 141) : Jp c' r' := by
  obtain ⟨N, a1, a2, a3, a4⟩ := q
  refine ⟨N, a1, by rw [h _ (by omega) (by omega)]; exact a2, by rw [h1]; exact a3, fun i hi => ?_⟩
  have := a4 i hi
  unfold Jp1 at this ⊢
  rw [h 25 (by omega) (by omega), h 26 (by omega) (by omega), h 15 (by omega) (by omega), h 16 (by omega) (by omega), h 17 (by omega) (by omega), h 18 (by omega) (by omega), h 19 (by omega) (by omega), h 20 (by omega) (by omega), h 21 (by omega) (by omega), h 22 (by omega) (by omega), h 23 (by omega) (by omega), h2]
  exact this
theorem J.told {j0 : Nat} (q : J c r) (h0 : j0 < 14) (hx : bt x (tlo j0) (thi j0)) : J (hs c (tk j0) (ti j0) x) (hs r 137 (14 + j0) x) := by
  have t5 : tk j0 ≤ 5 := by unfold tk; repeat' split
                            all_goals omega
  exact ⟨q.1.set h0 hx, q.2.1.k (fun k _ _ => hs_k (by omega)) (hs_k (by omega)), fun b hb => by rw [hs_k (by omega)]; exact q.2.2.1 b hb, q.2.2.2.k (fun k _ _ => hs_k (by omega)) (hs_k (by omega)) (hs_k (by omega))⟩
theorem J.grd {a0 q0 : Nat} (q : J c r) (ha : a0 < 4) (hq : q0 < 30) (hx : bt x 0 (ghi a0)) : J (hs c (8 + a0) q0 x) (hs r 142 (30 * a0 + q0) x) :=
  ⟨q.1.k (hs_k (by omega)) (hs_k (by omega)) (hs_k (by omega)) (hs_k (by omega)), q.2.1.set ha hq hx, fun b hb => by rw [hs_k (by omega)]; exact q.2.2.1 b hb, q.2.2.2.k (fun k _ _ => hs_k (by omega)) (hs_k (by omega)) (hs_k (by omega))⟩
theorem FrC.rf : FrC c c := fun _ _ => rfl
theorem FrR.rf : FrR r r := ⟨fun _ _ => rfl, rfl, fun _ _ _ _ _ => rfl⟩
theorem FrC.t {d : kH} (a : FrC c d) (b : FrC d c') : FrC c c' := fun k q => by rw [b k q, a k q]
theorem FrR.t {d : kH} (a : FrR r d) (b : FrR d r') : FrR r r' := ⟨fun j q => by rw [b.1 j q, a.1 j q], by rw [b.2.1, a.2.1], fun k q2 q3 q4 q5 => by rw [b.2.2 k q2 q3 q4 q5, a.2.2 k q2 q3 q4 q5]⟩
theorem FrC.s {k i : Nat} (h1 : 3 ≤ k) (h2 : k ≤ 27) : FrC c (hs c k i x) := fun q _ => hs_k (by omega)
theorem FrR.s7 {i : Nat} (h1 : 14 ≤ i) : FrR r (hs r 137 i x) := ⟨fun j hj => by rw [hs_i (by omega)], by rw [hs_k (by omega)], fun k q2 q3 q4 q5 => hs_k q2⟩
theorem FrR.s2 {i : Nat} : FrR r (hs r 142 i x) := ⟨fun j hj => by rw [hs_k (by omega)], by rw [hs_k (by omega)], fun k q2 q3 q4 q5 => hs_k q5⟩
theorem rq_isIn' {k lo hi : Nat} (hk : k < 6) (h1 : lo < 2 ^ 31) (h2 : hi < 2 ^ 31) : p_X8_isIn (nI k) (nI lo) (nI hi) r = some (b1 (inI (r 151 k) lo hi), r) := rq_isIn hk h1 h2
/-- one item on both sides -/
def Itm (x : Int32) (N : Nat) (V : Nat → Int32) (c r : kH) : Prop := ((∀ k, k < N → rgV (k_sl (bI x)) V k) → ∃ v c' r', p_X3_takeItem x c = some (b1 v, c') ∧ p_X8_isGood x r = some (b1 v, r') ∧ FrC c c' ∧ FrR r r' ∧ (v = true → J c' r')) ∧ (¬ (∀ k, k < N → rgV (k_sl (bI x)) V k) → ∃ r', p_X8_isGood x r = some (b1 false, r') ∧ FrR r r')
theorem Itm.mk {N : Nat} {G : Bool} (hG : (∀ k, k < N → rgV (k_sl (bI x)) V k) ↔ G = true) (h1 : G = true → ∃ v c' r', p_X3_takeItem x c = some (b1 v, c') ∧ p_X8_isGood x r = some (b1 v, r') ∧ FrC c c' ∧ FrR r r' ∧ (v = true → J c' r')) (h2 : G = false → ∃ r', p_X8_isGood x r = some (b1 false, r') ∧ FrR r r') : Itm x N V c r :=
  ⟨fun q => h1 (hG.mp q), fun q => h2 (by cases e : G; rfl; exact absurd (hG.mpr e) q)⟩
theorem all1 {P : Nat → Prop} : (∀ k, k < 1 → P k) ↔ P 0 := ⟨fun q => q 0 (by omega), fun q k hk => by rw [show k = 0 by omega]; exact q⟩
theorem all_s {N : Nat} {P : Nat → Prop} : (∀ k, k < N + 1 → P k) ↔ (∀ k, k < N → P k) ∧ P N := ⟨fun q => ⟨fun k hk => q k (by omega), q N (by omega)⟩, fun q k hk => by
  by_cases e : k = N
  · rw [e]; exact q.2
  · exact q.1 k (by omega)⟩
theorem sl_w : k_sl (bI (nI 119)) = [nI 2, nI 6, nI 2, nI 5] := by decide
theorem sl_l : k_sl (bI (nI 108)) = [nI 1, nI 30] := by decide
theorem sl_v : k_sl (bI (nI 118)) = [nI 0, nI 9] := by decide
theorem sl_h : k_sl (bI (nI 104)) = [nI 30, nI 99, nI 1, nI 60] := by decide
theorem sl_d : k_sl (bI (nI 100)) = [nI 10, nI 300, nI 10, nI 300] := by decide
theorem sl_k : k_sl (bI (nI 107)) = [nI 0, nI 2, nI 1, nI 20, nI 1, nI 60] := by decide
theorem sl_c : k_sl (bI (nI 99)) = [nI 0, nI 5, nI 0, nI 4, nI 0, nI 2, nI 0, nI 199] := by decide
theorem sl_o : k_sl (bI (nI 111)) = [nI 0, nI 5, nI 0, nI 4] := by decide
theorem sl_S : k_sl (bI (nI 115)) = [nI 0, nI 5, nI 0, nI 4] := by decide
theorem sl_p : k_sl (bI (nI 112)) = [nI 0, nI 5, nI 0, nI 4, nI 1, nI 9, nI 0, nI 99, nI 0, nI 9, nI 1, nI 99] := by decide
theorem rgV_i {b : List Int32} {k lo hi : Nat} (h1 : b.getD (2 * k) 0 = nI lo) (h2 : b.getD (2 * k + 1) 0 = nI hi) (hl : lo < 2 ^ 31) (hh : hi < 2 ^ 31) : rgV b V k ↔ inI (V k) lo hi = true := by
  unfold rgV
  rw [h1, h2, inI_iff hl hh]
theorem it_w (q : J c r) (hc : ∀ k, k < 2 → c 27 k = V k) (hr : ∀ k, k < 2 → r 151 k = V k) : Itm (nI 119) 2 V c r := by
  have e : p_X8_isGood (nI 119) r = some (b1 (inI (V 0) 2 6 && inI (V 1) 2 5), hs (hs r 137 14 (V 0)) 137 15 (V 1)) := by
    unfold p_X8_isGood
    rw [if_pos rfl]
    simp (disch := omega) only [gd_i, nI_clamp, le_d, hs_k, rq_isIn', bd2_s, b1_if, hr]
    cases inI (V 0) 2 6 <;> cases inI (V 1) 2 5 <;> rfl
  have fr : FrR r (hs (hs r 137 14 (V 0)) 137 15 (V 1)) := (FrR.s7 (by omega)).t (FrR.s7 (by omega))
  refine Itm.mk (G := inI (V 0) 2 6 && inI (V 1) 2 5) ?_ (fun g => ?_) (fun g => ⟨_, by rw [e, g], fr⟩)
  · rw [all_s, all1, sl_w, rgV_i (k := 0) rfl rfl (by omega) (by omega), rgV_i (k := 1) rfl rfl (by omega) (by omega), Bool.and_eq_true]
  · refine ⟨true, hs (hs c 3 0 (V 0)) 3 1 (V 1), _, ?_, by rw [e, g], (FrC.s (by omega) (by omega)).t (FrC.s (by omega) (by omega)), fr, fun _ => ?_⟩
    · unfold p_X3_takeItem
      rw [if_neg (by decide), if_neg (by decide), if_neg (by decide), if_neg (by decide), if_neg (by decide), if_neg (by decide), if_neg (by decide), if_neg (by decide), if_neg (by decide), if_pos rfl]
      simp (disch := omega) only [gd_i, nI_clamp, le_d, hs_k, hc, b1_t]
    · rw [Bool.and_eq_true] at g
      exact (q.told (j0 := 0) (by omega) (inI_bt (lo := 2) (hi := 6) (by omega) g.1)).told (j0 := 1) (by omega) (inI_bt (lo := 2) (hi := 5) (by omega) g.2)
end
