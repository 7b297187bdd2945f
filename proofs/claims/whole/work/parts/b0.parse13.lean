/-! fault -/
section
variable {w g n m : Nat} {ru : Nat → Int32} {f p f' p' : kH} {go go' : Int32} {h h1 h2 h' c r : kH}
theorem q_defaults : ∃ h', p_X5_setDefaults 3 h = some h' ∧ (∀ j, j < 14 → h' (tk j) (ti j) = nI (dfl j)) ∧ ∀ k, (k < 3 ∨ 5 < k) → h' k = h k := by
  show okp (fun h' : kH => (∀ j, j < 14 → h' (tk j) (ti j) = nI (dfl j)) ∧ ∀ k, (k < 3 ∨ 5 < k) → h' k = h k) _
  unfold p_X5_setDefaults
  simp (disch := omega) only [p_X5_setKind, le_d, gd_i, nI_clamp, bd_s]
  refine okp_s ⟨fun j hj => ?_, fun k hk => ?_⟩
  · rcases lt14 hj with rfl | rfl | rfl | rfl | rfl | rfl | rfl | rfl | rfl | rfl | rfl | rfl | rfl | rfl <;> rfl
  · simp (disch := omega) only [hs_k]
theorem q_forget : ∃ h', p_X3_forget h = some h' ∧ (∀ j, j < 14 → h' (tk j) (ti j) = nI (dfl j)) ∧ (∀ a c, a < 5 → c < 30 → h' (7 + a) c = if a = 0 then nI 20 else nI 0) ∧ h' 13 0 = nI 0 ∧ FrC h h' := by
  obtain ⟨a, e1, v1, k1⟩ := q_defaults (h := h)
  obtain ⟨b, e2, v2, k2⟩ := q_clear (F := 6) (h := a)
  unfold p_X3_forget
  rw [e1, bd_s, e2, bd_s, le_d]
  refine ⟨_, rfl, fun j hj => ?_, fun x y hx hy => ?_, hs_s _ _ _ _, fun k hk => ?_⟩
  · have t5 : tk j ≤ 5 := by
      unfold tk
      repeat' split
      all_goals omega
    rw [hs_k (by omega), k2 _ (by omega)]
    exact v1 j hj
  · rw [hs_k (by omega)]
    exact v2 x y hx hy
  · rw [hs_k (by omega), k2 k (by omega), k1 k (by omega)]
theorem dfl_b {j : Nat} (hj : j < 14) : bt (nI (dfl j)) (tlo j) (thi j) := by
  have : ∀ j, j < 14 → tlo j ≤ dfl j ∧ dfl j ≤ thi j := by decide
  exact bt_n (this j hj).1 (this j hj).2
theorem J0 (c1 : ∀ j, j < 14 → c (tk j) (ti j) = nI (dfl j)) (c2 : ∀ a q, a < 5 → q < 30 → c (7 + a) q = if a = 0 then nI 20 else nI 0) (c3 : c 13 0 = nI 0) (r1 : r 138 1 = nI 0) (r2 : ∀ j, j < 120 → r 142 j = nI 0) (r3 : ∀ j, j < 14 → r 137 (14 + j) = nI (dfl j)) : J c r := by
  refine ⟨fun j hj => ⟨by rw [c1 j hj, r3 j hj], by rw [c1 j hj]; exact dfl_b hj⟩, fun a q ha hq => ?_, fun q hq => c2 0 q (by omega) hq, 0, by omega, c3, r1, fun i hi => absurd hi (by omega)⟩
  have e := c2 (a + 1) q (by omega) hq
  rw [if_neg (by omega), show 7 + (a + 1) = 8 + a by omega] at e
  rw [e, r2 _ (by omega)]
  exact ⟨rfl, bt_n (Nat.zero_le _) (Nat.zero_le _)⟩
/-- the text as both have it -/
def Txt (h : kH) (L : Nat) : Prop := h 0 1 = nI L ∧ h 135 0 = nI L ∧ L ≤ 500 ∧ ∀ i, i < L → h 136 i = h 1 i
theorem read1 {L : Nat} (t : Txt h L) (k : FrC h h1) : ∃ v c r, p_X3_read 1 (h 0 1) h = some (v, c) ∧ p_X8_fault h1 = some (v, r) ∧ FrC h c ∧ FrA h1 r ∧ (v = -4 → J c r) := by
  obtain ⟨t1, t2, t3, t4⟩ := t
  obtain ⟨c0, e0, v1, v2, v3, f0⟩ := q_forget (h := h)
  have k1 : ∀ q, (q < 3 ∨ 27 < q) → h1 q = h q := k
  obtain ⟨r0, e1, u1, u2, u3, u4, u5, u6⟩ := rq_begins (h := hs h1 135 2 (nI 0))
  have x6 : r0 135 = hs h1 135 2 (nI 0) 135 := u6 135 (by omega) (by omega) (by omega)
  have y6 : r0 136 = h 136 := by rw [u6 136 (by omega) (by omega) (by omega), hs_k (by omega), k1 136 (by omega)]
  obtain ⟨v, c, r, z1, z2, z3, z4, z5⟩ := lock (L := L) t3 FU 0 0 c0 r0 (by omega) (by omega) (show L - 0 < 3000 by omega) (J0 v1 v2 v3 u1 u3 u4) (by rw [y6, f0 1 (by omega)]; exact t4) (by rw [x6, hs_i (by omega), k1 135 (by omega)]; exact t2) (by rw [x6, hs_s])
  have fa : FrA h1 r0 := ⟨fun j hj => by rw [x6, hs_i hj], fun j hj => by rw [u5 j hj, hs_k (by omega)], by rw [u2, hs_k (by omega)], fun q q1 q2 q3 q4 q5 q6 => by rw [u6 q q2 q3 q5, hs_k q1]⟩
  refine ⟨v, c, r, ?_, ?_, f0.t z3, fa.t z4, z5⟩
  · unfold p_X3_read
    rw [e0, bd_s, t1]
    exact z1
  · unfold p_X8_fault
    rw [le_d, e1, bd_s]
    exact z2
theorem read2 {L : Nat} (t : Txt h L) : ∃ v c r, p_X3_read 1 (h 0 1) h = some (v, c) ∧ FrC h c ∧ p_X8_fault c = some (v, r) ∧ FrA c r ∧ (v = -4 → J c r) := by
  obtain ⟨v, c, r, e1, e2, k1, k2, k3⟩ := read1 t FrC.rf
  obtain ⟨v', c', r', e1', e2', k1', k2', k3'⟩ := read1 t k1
  rw [e1] at e1'
  have e := Option.some.inj e1'
  have ev : v = v' := congrArg Prod.fst e
  have ec : c = c' := congrArg Prod.snd e
  subst ev ec
  exact ⟨v, c, r', e1, k1, e2', k2', k3'⟩
theorem read3 {L : Nat} (t : Txt h L) (k : FrC h h1) : ∃ v c r, p_X3_read 1 (h 0 1) h = some (v, c) ∧ p_X8_fault h1 = some (v, r) ∧ FrC h c ∧ FrA h1 r ∧ (v = -4 → J c r) := read1 t k
/-- a change of the plans alone -/
theorem Sim.pl (c : CI h w g n m ru f p go) (d : RI h w g n m ru f p go) (ds : Dst m p) (rs : Rs h w g n m ru) (k1 : FrC h h1) (k2 : FrA h1 h2) : Sim h2 := by
  have kk : ∀ k, (k < 3 ∨ 27 < k) → k ≠ 135 → k ≠ 137 → k ≠ 138 → k ≠ 141 → k ≠ 142 → k ≠ 151 → h2 k = h k := fun k q q1 q2 q3 q4 q5 q6 => by rw [k2.2.2.2 k q1 q2 q3 q4 q5 q6, k1 k q]
  have kc : ∀ k, 27 < k → k < 135 → h2 k = h k := fun k q1 q2 => kk k (by omega) (by omega) (by omega) (by omega) (by omega) (by omega) (by omega)
  have e143 : h2 143 = h 143 := kk 143 (by omega) (by omega) (by omega) (by omega) (by omega) (by omega) (by omega)
  have e139 : h2 139 = h 139 := kk 139 (by omega) (by omega) (by omega) (by omega) (by omega) (by omega) (by omega)
  have e140 : h2 140 = h 140 := kk 140 (by omega) (by omega) (by omega) (by omega) (by omega) (by omega) (by omega)
  have e0 : h2 0 = h 0 := kk 0 (by omega) (by omega) (by omega) (by omega) (by omega) (by omega) (by omega)
  have e1 : h2 1 = h 1 := kk 1 (by omega) (by omega) (by omega) (by omega) (by omega) (by omega) (by omega)
  have e136 : h2 136 = h 136 := kk 136 (by omega) (by omega) (by omega) (by omega) (by omega) (by omega) (by omega)
  have e144 : h2 144 = h 144 := kk 144 (by omega) (by omega) (by omega) (by omega) (by omega) (by omega) (by omega)
  have e131 : h2 131 = h 131 := kc 131 (by omega) (by omega)
  have e135 : ∀ j, j ≠ 2 → h2 135 j = h 135 j := fun j hj => by rw [k2.1 j hj, k1 135 (by omega)]
  have hn30 := n_le c.1.2.1 c.1.1.2.2.1.2 c.1.1.2.2.2.1.2
  obtain ⟨⟨S, a1, a2, a3, a4, a5, a6⟩, ⟨kn, b1, b2, b3, b4⟩, ⟨L, c1, c2, c3, c4⟩⟩ := rs
  refine ⟨w, g, n, m, ru, f, p, go, ⟨c.1, ?_, ?_, ?_, ?_, ?_⟩, ⟨d.1, ?_, ?_, ?_, ?_, ?_⟩, ds, ⟨S, by rw [e0]; exact a1, by rw [e135 _ (by omega)]; exact a2, a3, fun j hj => by rw [e144, e131]; exact a4 j hj, fun j hj => by rw [e131]; exact a5 j hj, fun i j hi hj z => a6 i j hi hj (by rw [e131] at z; exact z)⟩, ⟨kn, by rw [e0]; exact b1, by rw [e135 _ (by omega)]; exact b2, b3, fun t ht => (b4 t ht).k (by omega) (fun q z => ?_) (fun j _ _ => by rw [e143])⟩, ⟨L, by rw [e0]; exact c1, by rw [e135 _ (by omega)]; exact c2, c3, fun i hi => by rw [e136, e1]; exact c4 i hi⟩⟩
  · rw [← c.2.1]; exact cR_k (kc _ (by omega) (by omega)) (kc _ (by omega) (by omega)) (kc _ (by omega) (by omega))
  · rw [← c.2.2.1]; exact cF_k (fun a _ => kc _ (by omega) (by omega))
  · rw [← c.2.2.2.1]; exact cP_k (fun k _ _ => kc _ (by omega) (by omega))
  · rw [kc _ (by omega) (by omega)]; exact c.2.2.2.2.1
  · rw [kc _ (by omega) (by omega)]; exact c.2.2.2.2.2
  · rw [← d.2.1]
    funext j
    unfold rR
    by_cases hj : j < 14
    · rw [if_pos hj, if_pos hj, k2.2.1 j hj, k1 137 (by omega)]
    · rw [if_neg hj, if_neg hj]
  · rw [← d.2.2.1]; exact rF_e hn30 (fun j _ _ => by rw [e143])
  · rw [← d.2.2.2.1]; exact rP_e d.1.2.2.1 (fun j _ _ => by rw [e143]) e139 e140
  · rw [k2.2.2.1, k1 138 (by omega)]; exact d.2.2.2.2.1
  · rw [e143]; exact d.2.2.2.2.2
  · rcases z with z | z | z
    · exact kc q (by omega) (by omega)
    · rw [z]; exact e139
    · rw [z]; exact e140
theorem op_fault (c : CI h w g n m ru f p go) (d : RI h w g n m ru f p go) (ds : Dst m p) (rs : Rs h w g n m ru) : Oop p_X7_fault p_X8_fault h := by
  obtain ⟨L, t⟩ := rs.2.2
  obtain ⟨v, c1, r1, e1, k1, e2, k2, -⟩ := read2 (h := h) (L := L) t
  exact ⟨v, c1, r1, by unfold p_X7_fault; rw [e1, bd2_s], e2, Sim.pl c d ds rs k1 k2⟩
end
