/-! the other letters -/
section
variable {c r c' r' : kH} {V : Nat → Int32} {x : Int32}
theorem gd_b {b : Bool} {α : Type} {y : Option α} : gd (decide (b1 b &&& 1 = b1 b)) y = y := gd_t (decide_eq_true b1_ni)
theorem it_l (q : J c r) (hc : ∀ k, k < 1 → c 27 k = V k) (hr : ∀ k, k < 1 → r 151 k = V k) : Itm (nI 108) 1 V c r := by
  have e : p_X8_isGood (nI 108) r = some (b1 (inI (V 0) 1 30), hs r 137 16 (V 0)) := by
    unfold p_X8_isGood
    rw [if_neg (by decide), if_neg (by decide), if_pos rfl]
    simp (disch := omega) only [gd_i, nI_clamp, le_d, hs_k, rq_isIn', bd2_s, gd_b, hr]
  have fr : FrR r (hs r 137 16 (V 0)) := FrR.s7 (by omega)
  refine Itm.mk (G := inI (V 0) 1 30) ?_ (fun g => ?_) (fun g => ⟨_, by rw [e, g], fr⟩)
  · rw [all1, sl_l, rgV_i (k := 0) rfl rfl (by omega) (by omega)]
  · refine ⟨true, hs c 3 4 (V 0), _, ?_, by rw [e, g], FrC.s (by omega) (by omega), fr, fun _ => q.told (j0 := 2) (by omega) (inI_bt (lo := 1) (hi := 30) (by omega) g)⟩
    unfold p_X3_takeItem
    rw [if_neg (by decide), if_neg (by decide), if_neg (by decide), if_neg (by decide), if_pos rfl]
    simp (disch := omega) only [gd_i, nI_clamp, le_d, hs_k, hc, b1_t]
theorem it_v (q : J c r) (hc : ∀ k, k < 1 → c 27 k = V k) (hr : ∀ k, k < 1 → r 151 k = V k) : Itm (nI 118) 1 V c r := by
  have e : p_X8_isGood (nI 118) r = some (b1 (inI (V 0) 0 9), hs r 137 21 (V 0)) := by
    unfold p_X8_isGood
    rw [if_neg (by decide), if_neg (by decide), if_neg (by decide), if_pos rfl]
    simp (disch := omega) only [gd_i, nI_clamp, le_d, hs_k, rq_isIn', bd2_s, gd_b, hr]
  have fr : FrR r (hs r 137 21 (V 0)) := FrR.s7 (by omega)
  refine Itm.mk (G := inI (V 0) 0 9) ?_ (fun g => ?_) (fun g => ⟨_, by rw [e, g], fr⟩)
  · rw [all1, sl_v, rgV_i (k := 0) rfl rfl (by omega) (by omega)]
  · refine ⟨true, hs c 3 9 (V 0), _, ?_, by rw [e, g], FrC.s (by omega) (by omega), fr, fun _ => q.told (j0 := 7) (by omega) (inI_bt (lo := 0) (hi := 9) (by omega) g)⟩
    unfold p_X3_takeItem
    rw [if_neg (by decide), if_neg (by decide), if_neg (by decide), if_neg (by decide), if_neg (by decide), if_neg (by decide), if_neg (by decide), if_neg (by decide), if_pos rfl]
    simp (disch := omega) only [gd_i, nI_clamp, le_d, hs_k, hc, b1_t]
theorem it_h (q : J c r) (hc : ∀ k, k < 2 → c 27 k = V k) (hr : ∀ k, k < 2 → r 151 k = V k) : Itm (nI 104) 2 V c r := by
  have e : p_X8_isGood (nI 104) r = some (b1 (inI (V 0) 30 99 && inI (V 1) 1 60), hs (hs r 137 17 (V 0)) 137 18 (V 1)) := by
    unfold p_X8_isGood
    rw [if_neg (by decide), if_neg (by decide), if_neg (by decide), if_neg (by decide), if_pos rfl]
    simp (disch := omega) only [gd_i, nI_clamp, le_d, hs_k, rq_isIn', bd2_s, b1_if, hr]
    cases inI (V 0) 30 99 <;> cases inI (V 1) 1 60 <;> rfl
  have fr : FrR r (hs (hs r 137 17 (V 0)) 137 18 (V 1)) := (FrR.s7 (by omega)).t (FrR.s7 (by omega))
  refine Itm.mk (G := inI (V 0) 30 99 && inI (V 1) 1 60) ?_ (fun g => ?_) (fun g => ⟨_, by rw [e, g], fr⟩)
  · rw [all_s, all1, sl_h, rgV_i (k := 0) rfl rfl (by omega) (by omega), rgV_i (k := 1) rfl rfl (by omega) (by omega), Bool.and_eq_true]
  · refine ⟨true, hs (hs c 3 5 (V 0)) 3 6 (V 1), _, ?_, by rw [e, g], (FrC.s (by omega) (by omega)).t (FrC.s (by omega) (by omega)), fr, fun _ => ?_⟩
    · unfold p_X3_takeItem
      rw [if_neg (by decide), if_neg (by decide), if_pos rfl]
      simp (disch := omega) only [gd_i, nI_clamp, le_d, hs_k, hc, b1_t]
    · rw [Bool.and_eq_true] at g
      exact (q.told (j0 := 3) (by omega) (inI_bt (lo := 30) (hi := 99) (by omega) g.1)).told (j0 := 4) (by omega) (inI_bt (lo := 1) (hi := 60) (by omega) g.2)
theorem it_d (q : J c r) (hc : ∀ k, k < 2 → c 27 k = V k) (hr : ∀ k, k < 2 → r 151 k = V k) : Itm (nI 100) 2 V c r := by
  have e : p_X8_isGood (nI 100) r = some (b1 (inI (V 0) 10 300 && inI (V 1) 10 300), hs (hs r 137 19 (V 0)) 137 20 (V 1)) := by
    unfold p_X8_isGood
    rw [if_neg (by decide), if_neg (by decide), if_neg (by decide), if_neg (by decide), if_neg (by decide), if_pos rfl]
    simp (disch := omega) only [gd_i, nI_clamp, le_d, hs_k, rq_isIn', bd2_s, b1_if, hr]
    cases inI (V 0) 10 300 <;> cases inI (V 1) 10 300 <;> rfl
  have fr : FrR r (hs (hs r 137 19 (V 0)) 137 20 (V 1)) := (FrR.s7 (by omega)).t (FrR.s7 (by omega))
  refine Itm.mk (G := inI (V 0) 10 300 && inI (V 1) 10 300) ?_ (fun g => ?_) (fun g => ⟨_, by rw [e, g], fr⟩)
  · rw [all_s, all1, sl_d, rgV_i (k := 0) rfl rfl (by omega) (by omega), rgV_i (k := 1) rfl rfl (by omega) (by omega), Bool.and_eq_true]
  · refine ⟨true, hs (hs c 3 7 (V 0)) 3 8 (V 1), _, ?_, by rw [e, g], (FrC.s (by omega) (by omega)).t (FrC.s (by omega) (by omega)), fr, fun _ => ?_⟩
    · unfold p_X3_takeItem
      rw [if_neg (by decide), if_pos rfl]
      simp (disch := omega) only [gd_i, nI_clamp, le_d, hs_k, hc, b1_t]
    · rw [Bool.and_eq_true] at g
      exact (q.told (j0 := 5) (by omega) (inI_bt (lo := 10) (hi := 300) (by omega) g.1)).told (j0 := 6) (by omega) (inI_bt (lo := 10) (hi := 300) (by omega) g.2)
theorem tlo3 {k : Nat} (h : k < 3) : tk (8 + k) = 4 ∧ ti (8 + k) = k ∧ tk (11 + k) = 5 ∧ ti (11 + k) = k ∧ tlo (8 + k) = 1 ∧ thi (8 + k) = 20 ∧ tlo (11 + k) = 1 ∧ thi (11 + k) = 60 := by
  have : ∀ k, k < 3 → tk (8 + k) = 4 ∧ ti (8 + k) = k ∧ tk (11 + k) = 5 ∧ ti (11 + k) = k ∧ tlo (8 + k) = 1 ∧ thi (8 + k) = 20 ∧ tlo (11 + k) = 1 ∧ thi (11 + k) = 60 := by decide
  exact this k h
theorem it_k (q : J c r) (hc : ∀ k, k < 3 → c 27 k = V k) (hr : ∀ k, k < 3 → r 151 k = V k) : Itm (nI 107) 3 V c r := by
  cases z : inI (V 0) 0 2
  · refine Itm.mk (G := false) ?_ (fun g => absurd g (by decide)) (fun _ => ⟨r, ?_, FrR.rf⟩)
    · rw [all_s, all_s, all1, sl_k, rgV_i (k := 0) rfl rfl (by omega) (by omega), z]
      exact ⟨fun a => absurd a.1.1 (by decide), fun a => absurd a (by decide)⟩
    · unfold p_X8_isGood
      rw [if_neg (by decide), if_pos rfl, rq_isIn' (by omega) (by omega) (by omega), bd2_s, b1_if, hr 0 (by omega), z]
      rfl
  · obtain ⟨k, -, k2, ek⟩ := inI_bt (by omega) z
    have hk : k < 3 := by omega
    obtain ⟨t1, t2, t3, t4, t5, t6, t7, t8⟩ := tlo3 hk
    have e : p_X8_isGood (nI 107) r = some (b1 (inI (V 1) 1 20 && inI (V 2) 1 60), hs (hs r 137 (14 + (8 + k)) (V 1)) 137 (14 + (11 + k)) (V 2)) := by
      unfold p_X8_isGood
      rw [if_neg (by decide), if_pos rfl, rq_isIn' (by omega) (by omega) (by omega), bd2_s, b1_if, hr 0 (by omega), z, if_pos rfl]
      simp (disch := omega) only [gd_i, nI_clamp, le_d, hs_k, hr, ek, nI_add, rq_isIn', bd2_s, b1_if]
      rw [show 14 + (8 + k) = 22 + k by omega, show 14 + (11 + k) = 25 + k by omega]
      cases inI (V 1) 1 20 <;> cases inI (V 2) 1 60 <;> rfl
    have fr : FrR r (hs (hs r 137 (14 + (8 + k)) (V 1)) 137 (14 + (11 + k)) (V 2)) := (FrR.s7 (by omega)).t (FrR.s7 (by omega))
    refine Itm.mk (G := inI (V 1) 1 20 && inI (V 2) 1 60) ?_ (fun g => ?_) (fun g => ⟨_, by rw [e, g], fr⟩)
    · rw [all_s, all_s, all1, sl_k, rgV_i (k := 0) rfl rfl (by omega) (by omega), rgV_i (k := 1) rfl rfl (by omega) (by omega), rgV_i (k := 2) rfl rfl (by omega) (by omega), z, Bool.and_eq_true]
      exact ⟨fun a => ⟨a.1.2, a.2⟩, fun a => ⟨⟨rfl, a.1⟩, a.2⟩⟩
    · refine ⟨true, hs (hs c 4 k (V 1)) 5 k (V 2), _, ?_, by rw [e, g], (FrC.s (by omega) (by omega)).t (FrC.s (by omega) (by omega)), fr, fun _ => ?_⟩
      · unfold p_X3_takeItem
        rw [if_neg (by decide), if_neg (by decide), if_neg (by decide), if_pos rfl]
        simp (disch := omega) only [p_X5_setKind, gd_i, nI_clamp, le_d, hs_k, hc, ek, b1_t, bd_s]
      · rw [Bool.and_eq_true] at g
        have a := (q.told (j0 := 8 + k) (x := V 1) (by omega) (by rw [t5, t6]; exact inI_bt (by omega) g.1)).told (j0 := 11 + k) (x := V 2) (by omega) (by rw [t7, t8]; exact inI_bt (by omega) g.2)
        rw [t1, t2, t3, t4] at a
        exact a
/-- a place -/
theorem plc30 {a b : Nat} (ha : a ≤ 5) (hb : b ≤ 4) : a + 6 * b < 30 := by omega
theorem it_c (q : J c r) (hc : ∀ k, k < 4 → c 27 k = V k) (hr : ∀ k, k < 4 → r 151 k = V k) : Itm (nI 99) 4 V c r := by
  have hG : (∀ k, k < 4 → rgV (k_sl (bI (nI 99))) V k) ↔ (inI (V 0) 0 5 && inI (V 1) 0 4 && inI (V 2) 0 2 && inI (V 3) 0 199) = true := by
    rw [all_s, all_s, all_s, all1, sl_c, rgV_i (k := 0) rfl rfl (by omega) (by omega), rgV_i (k := 1) rfl rfl (by omega) (by omega), rgV_i (k := 2) rfl rfl (by omega) (by omega), rgV_i (k := 3) rfl rfl (by omega) (by omega), Bool.and_eq_true, Bool.and_eq_true, Bool.and_eq_true]
  refine Itm.mk hG (fun g => ?_) (fun g => ⟨r, ?_, FrR.rf⟩)
  · rw [Bool.and_eq_true, Bool.and_eq_true, Bool.and_eq_true] at g
    obtain ⟨⟨⟨g0, g1⟩, g2⟩, g3⟩ := g
    obtain ⟨a, -, a2, ea⟩ := inI_bt (by omega) g0
    obtain ⟨b, -, b2, eb⟩ := inI_bt (by omega) g1
    have hp := plc30 a2 b2
    refine ⟨true, hs (hs c 9 (a + 6 * b) (V 2)) 8 (a + 6 * b) (V 3), hs (hs r 142 (30 * 1 + (a + 6 * b)) (V 2)) 142 (30 * 0 + (a + 6 * b)) (V 3), ?_, ?_, (FrC.s (by omega) (by omega)).t (FrC.s (by omega) (by omega)), FrR.s2.t FrR.s2, fun _ => ?_⟩
    · unfold p_X3_takeItem
      rw [if_pos rfl]
      simp (disch := omega) only [p_X3_takeCell, gd_i, nI_clamp, le_d, hs_k, hc, ea, eb, pk_mul, nI_add, b1_t, bd_s]
    · unfold p_X8_isGood
      rw [if_neg (by decide), if_neg (by decide), if_neg (by decide), if_neg (by decide), if_neg (by decide), if_neg (by decide), rq_isIn' (by omega) (by omega) (by omega), bd2_s, b1_if, hr 0 (by omega), g0, if_pos rfl, rq_isIn' (by omega) (by omega) (by omega), bd2_s, b1_if, hr 1 (by omega), g1, if_pos rfl, p_X8_isPlaced, gd_i (by omega) (by omega), gd_i (by omega) (by omega), le_d, nI_clamp (by omega), nI_clamp (by omega), if_pos rfl, rq_isIn' (by omega) (by omega) (by omega), bd2_s, b1_if, hr 2 (by omega), g2, if_pos rfl, rq_isIn' (by omega) (by omega) (by omega), bd2_s, b1_if, hr 3 (by omega), g3, if_pos rfl]
      simp (disch := omega) only [gd_i, nI_clamp, le_d, hs_k, hr, ea, eb, pk_mul, nI_add, bd2_s]
      rw [if_neg nI_10, hs_comm (h := r) (show a + 6 * b ≠ 30 + (a + 6 * b) by omega), show 30 * 1 + (a + 6 * b) = 30 + (a + 6 * b) by omega, show 30 * 0 + (a + 6 * b) = a + 6 * b by omega]
      rfl
    · exact (q.grd (a0 := 1) (x := V 2) (by omega) hp (inI_bt (lo := 0) (hi := 2) (by omega) g2)).grd (a0 := 0) (x := V 3) (by omega) hp (inI_bt (lo := 0) (hi := 199) (by omega) g3)
  · unfold p_X8_isGood
    rw [if_neg (by decide), if_neg (by decide), if_neg (by decide), if_neg (by decide), if_neg (by decide), if_neg (by decide), rq_isIn' (by omega) (by omega) (by omega), bd2_s, b1_if, hr 0 (by omega), rq_isIn' (by omega) (by omega) (by omega), bd2_s, b1_if, hr 1 (by omega), p_X8_isPlaced, gd_i (by omega) (by omega), gd_i (by omega) (by omega), le_d, nI_clamp (by omega), nI_clamp (by omega), if_pos rfl, rq_isIn' (by omega) (by omega) (by omega), bd2_s, b1_if, hr 2 (by omega), rq_isIn' (by omega) (by omega) (by omega), bd2_s, b1_if, hr 3 (by omega)]
    revert g
    cases inI (V 0) 0 5
    · intro _; rfl
    · cases inI (V 1) 0 4
      · intro _; rfl
      · cases inI (V 2) 0 2
        · intro _; rfl
        · cases inI (V 3) 0 199
          · intro _; rfl
          · intro g; exact absurd g (by decide)
theorem it_os {y t : Nat} (hy : y = 111 ∧ t = 2 ∨ y = 115 ∧ t = 3) (q : J c r) (hc : ∀ k, k < 2 → c 27 k = V k) (hr : ∀ k, k < 2 → r 151 k = V k) : Itm (nI y) 2 V c r := by
  have hG : (∀ k, k < 2 → rgV (k_sl (bI (nI y))) V k) ↔ (inI (V 0) 0 5 && inI (V 1) 0 4) = true := by
    rw [show k_sl (bI (nI y)) = [nI 0, nI 5, nI 0, nI 4] by rcases hy with ⟨rfl, -⟩ | ⟨rfl, -⟩ <;> decide, all_s, all1, rgV_i (k := 0) rfl rfl (by omega) (by omega), rgV_i (k := 1) rfl rfl (by omega) (by omega), Bool.and_eq_true]
  have e : p_X8_isGood (nI y) r = bd2 (p_X8_isIn (nI 0) (nI 0) (nI 5) r) fun v3 h1 => if v3 = 0 then some ((nI 0), h1) else bd2 (p_X8_isIn (nI 1) (nI 0) (nI 4) h1) fun v6 h4 => if v6 = 0 then some ((nI 0), h4) else bd2 (p_X8_isPlaced (nI y) h4) fun v9 h7 => if v9 = 0 then some ((nI 0), h7) else some ((nI 1), h7) := by
    unfold p_X8_isGood
    rcases hy with ⟨rfl, -⟩ | ⟨rfl, -⟩ <;> rw [if_neg (by decide), if_neg (by decide), if_neg (by decide), if_neg (by decide), if_neg (by decide), if_neg (by decide)]
  rw [rq_isIn' (by omega) (by omega) (by omega), bd2_s, b1_if, hr 0 (by omega), rq_isIn' (by omega) (by omega) (by omega), bd2_s, b1_if, hr 1 (by omega)] at e
  refine Itm.mk hG (fun g => ?_) (fun g => ⟨r, ?_, FrR.rf⟩)
  · rw [Bool.and_eq_true] at g
    obtain ⟨g0, g1⟩ := g
    obtain ⟨a, -, a2, ea⟩ := inI_bt (by omega) g0
    obtain ⟨b, -, b2, eb⟩ := inI_bt (by omega) g1
    have hp := plc30 a2 b2
    refine ⟨true, hs c (8 + t) (a + 6 * b) (nI 1), hs r 142 (30 * t + (a + 6 * b)) (nI 1), ?_, ?_, FrC.s (by omega) (by omega), FrR.s2, fun _ => q.grd (by omega) hp ?_⟩
    · unfold p_X3_takeItem
      rcases hy with ⟨rfl, rfl⟩ | ⟨rfl, rfl⟩
      · rw [if_neg (by decide), if_neg (by decide), if_neg (by decide), if_neg (by decide), if_neg (by decide), if_pos rfl]
        simp (disch := omega) only [gd_i, nI_clamp, le_d, hs_k, hc, ea, eb, pk_mul, nI_add, b1_t, nar_b1]
      · rw [if_neg (by decide), if_neg (by decide), if_neg (by decide), if_neg (by decide), if_neg (by decide), if_neg (by decide), if_neg (by decide), if_pos rfl]
        simp (disch := omega) only [gd_i, nI_clamp, le_d, hs_k, hc, ea, eb, pk_mul, nI_add, b1_t, nar_b1]
    · rw [e, g0, g1, if_pos rfl, if_pos rfl, p_X8_isPlaced, gd_i (by omega) (by omega), gd_i (by omega) (by omega), le_d, nI_clamp (by omega), nI_clamp (by omega), hr 0 (by omega), hr 1 (by omega), ea, eb, pk_mul, nI_add]
      rcases hy with ⟨rfl, rfl⟩ | ⟨rfl, rfl⟩
      · rw [if_neg (by decide), if_neg (by decide), if_pos rfl, p_X8_isPlaced_206, nI_add, gd_i (by omega) (by omega), nI_clamp (by omega), le_d, bd2_s, if_neg nI_10]
        rfl
      · rw [if_neg (by decide), if_neg (by decide), if_neg (by decide), p_X8_isPlaced_206, nI_add, gd_i (by omega) (by omega), nI_clamp (by omega), le_d, bd2_s, if_neg nI_10]
        rfl
    · rcases hy with ⟨rfl, rfl⟩ | ⟨rfl, rfl⟩
      · exact bt_n (Nat.zero_le _) (Nat.le_refl 1)
      · exact bt_n (Nat.zero_le _) (Nat.le_refl 1)
  · rw [e]
    revert g
    cases inI (V 0) 0 5
    · intro _; rfl
    · cases inI (V 1) 0 4
      · intro _; rfl
      · intro g; exact absurd g (by decide)
end
