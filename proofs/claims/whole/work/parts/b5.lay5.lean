/-! lay -/
section
variable {w g n m : Nat} {ru : Nat → Int32} {f p : kH} {go : Int32} {h h1 h2 h' c c1 c2 c3 r r1 r' r2 : kH} {N : Nat} {X Y : Nat → Nat}
theorem read1' {L : Nat} (t : Txt h L) (e5 : h1 135 = h 135) (e6 : h1 136 = h 136) : ∃ v c r, p_X3_read 1 (h 0 1) h = some (v, c) ∧ p_X8_fault h1 = some (v, r) ∧ FrC h c ∧ FrA h1 r ∧ (v = -4 → J c r) := by
  obtain ⟨t1, t2, t3, t4⟩ := t
  obtain ⟨c0, e0, v1, v2, v3, f0⟩ := q_forget (h := h)
  obtain ⟨r0, e1, u1, u2, u3, u4, u5, u6⟩ := rq_begins (h := hs h1 135 2 (nI 0))
  have x6 : r0 135 = hs h1 135 2 (nI 0) 135 := u6 135 (by omega) (by omega) (by omega)
  have y6 : r0 136 = h 136 := by rw [u6 136 (by omega) (by omega) (by omega), hs_k (by omega), e6]
  obtain ⟨v, c, r, z1, z2, z3, z4, z5⟩ := lock (L := L) t3 FU 0 0 c0 r0 (by omega) (by omega) (show L - 0 < 3000 by omega) (J0 v1 v2 v3 u1 u3 u4) (by rw [y6, f0 1 (by omega)]; exact t4) (by rw [x6, hs_i (by omega), e5]; exact t2) (by rw [x6, hs_s])
  have fa : FrA h1 r0 := ⟨fun j hj => by rw [x6, hs_i hj], fun j hj => by rw [u5 j hj, hs_k (by omega)], by rw [u2, hs_k (by omega)], fun q q1 q2 q3 q4 q5 q6 => by rw [u6 q q2 q3 q5, hs_k q1]⟩
  refine ⟨v, c, r, ?_, ?_, f0.t z3, fa.t z4, z5⟩
  · unfold p_X3_read
    rw [e0, bd_s, t1]
    exact z1
  · unfold p_X8_fault
    rw [le_d, e1, bd_s]
    exact z2
theorem read2' {L : Nat} {v : Int32} (t : Txt h L) (e : p_X3_read 1 (h 0 1) h = some (v, c)) (e5 : h1 135 = h 135) (e6 : h1 136 = h 136) : ∃ r, p_X8_fault h1 = some (v, r) ∧ FrA h1 r ∧ (v = -4 → J c r) := by
  obtain ⟨v', c', r', a1, a2, a3, a4, a5⟩ := read1' t e5 e6
  rw [e] at a1
  have e := Option.some.inj a1
  have ev : v = v' := congrArg Prod.fst e
  have ec : c = c' := congrArg Prod.snd e
  subst ev ec
  exact ⟨r', a2, a4, a5⟩
/-- what stands in the class's plan, in plain numbers -/
def PlC (c : kH) (w g N : Nat) (X Y : Nat → Nat) : Prop := (2 ≤ w ∧ w ≤ 6) ∧ (2 ≤ g ∧ g ≤ 5) ∧ N ≤ 6 ∧ c 3 0 = nI w ∧ c 3 1 = nI g ∧ c 13 0 = nI N ∧ (∀ i, i < N → c 25 i = nI (X i) ∧ X i ≤ 5) ∧ ∀ i, i < N → c 26 i = nI (Y i) ∧ Y i ≤ 4
theorem clN {x : Int32} {hi : Nat} (hh : hi < 2 ^ 31) (b : bt x 0 hi) : x = nI x.toNatClampNeg ∧ x.toNatClampNeg ≤ hi := by
  obtain ⟨k, -, k2, rfl⟩ := b
  rw [nI_clamp (by omega)]
  exact ⟨rfl, k2⟩
theorem J.ex (q : J c r) : ∃ w g N, PlC c w g N (fun i => (c 25 i).toNatClampNeg) (fun i => (c 26 i).toNatClampNeg) := by
  obtain ⟨qt, qg, q7, N, hN, n1, n2, n3⟩ := q
  obtain ⟨w, w1, w2, w3⟩ := (qt 0 (by omega)).2
  obtain ⟨g, g1, g2, g3⟩ := (qt 1 (by omega)).2
  exact ⟨w, g, N, ⟨w1, w2⟩, ⟨g1, g2⟩, hN, w3, g3, n1, fun i hi => clN (by omega) (n3 i hi).1.2, fun i hi => clN (by omega) (n3 i hi).2.1.2⟩
theorem J.rf (q : J c r) (k : PlC c w g N X Y) : r 138 1 = nI N ∧ r 137 14 = nI w ∧ r 137 15 = nI g ∧ (∀ i, i < N → Jp1 c r i) ∧ (∀ i, i < N → r 141 (6 * i) = nI (X i) ∧ X i ≤ 5) ∧ ∀ i, i < N → r 141 (6 * i + 1) = nI (Y i) ∧ Y i ≤ 4 := by
  obtain ⟨qt, qg, q7, N', hN', n1, n2, n3⟩ := q
  obtain ⟨k1, k2, k3, k4, k5, k6, k7, k8⟩ := k
  have : N' = N := nI_inj (by omega) (by omega) (by rw [← n1, ← k6])
  subst this
  exact ⟨n2, by rw [← k4]; exact (qt 0 (by omega)).1.symm, by rw [← k5]; exact (qt 1 (by omega)).1.symm, n3, fun i hi => ⟨by rw [← (n3 i hi).1.1]; exact (k7 i hi).1, (k7 i hi).2⟩, fun i hi => ⟨by rw [← (n3 i hi).2.1.1]; exact (k8 i hi).1, (k8 i hi).2⟩⟩
theorem cR_t {j : Nat} (hj : j < 14) : cR c 3 j = c (tk j) (ti j) := by
  unfold cR tk ti
  by_cases h1 : j < 2
  · rw [if_pos h1, if_pos (by omega), if_pos h1]
  · rw [if_neg h1, if_neg h1]
    by_cases h2 : j < 8
    · rw [if_pos h2, if_pos h2, if_pos h2]
    · rw [if_neg h2, if_neg h2, if_neg h2]
      by_cases h3 : j < 11
      · rw [if_pos h3, if_pos h3, if_pos h3]
      · rw [if_neg h3, if_neg h3, if_neg h3, if_pos hj]
theorem J.wf (q : J c r) (k : PlC c w g N X Y) : WfR (cR c 3) w g := by
  obtain ⟨qt, -⟩ := q
  obtain ⟨k1, k2, k3, k4, k5, -⟩ := k
  have b : ∀ j, j < 14 → bt (cR c 3 j) (tlo j) (thi j) := fun j hj => by rw [cR_t hj]; exact (qt j hj).2
  exact ⟨by rw [cR_t (by omega)]; exact k4, by rw [cR_t (by omega)]; exact k5, k1, k2, b 2 (by omega), b 3 (by omega), b 4 (by omega), b 5 (by omega), b 6 (by omega), b 7 (by omega), fun k hk => by
    have := b (8 + k) (by omega)
    rw [(tlo3 hk).2.2.2.2.1, (tlo3 hk).2.2.2.2.2.1] at this
    exact this, fun k hk => by
    have := b (11 + k) (by omega)
    rw [(tlo3 hk).2.2.2.2.2.2.1, (tlo3 hk).2.2.2.2.2.2.2] at this
    exact this⟩
/-- the laid cells and pots -/
def layF (c : kH) (w n : Nat) : kH := fun a q => if a < 5 ∧ q < n then (if a = 0 then nI 20 else c (7 + a) (q % w + 6 * (q / w))) else 0
def layV (c : kH) (w : Nat) (X Y : Nat → Nat) (i : Nat) : Nat → Int32
  | 0 => nI (X i + w * Y i)
  | 1 => nI 20
  | 2 => c 16 i
  | 7 => c 17 i
  | 8 => c 15 i
  | 9 => c 18 i
  | _ => nI 0
def layQ (c : kH) (w N : Nat) (X Y : Nat → Nat) : kH := fun a i => if a < 10 ∧ i < N then layV c w X Y i a else 0
theorem layQ_at {a i : Nat} (ha : a < 10) (hi : i < N) : layQ c w N X Y a i = layV c w X Y i a := if_pos ⟨ha, hi⟩
theorem layF_at {a q : Nat} (ha : a < 5) (hq : q < n) : layF c w n a q = if a = 0 then nI 20 else c (7 + a) (q % w + 6 * (q / w)) := if_pos ⟨ha, hq⟩
theorem lay_wf (q : J c r) (k : PlC c w g N X Y) (ly : LayP w g N X Y) : WfS w g (w * g) N (cR c 3) (layF c w (w * g)) (layQ c w N X Y) ∧ Dst N (layQ c w N X Y) := by
  have wr := q.wf k
  obtain ⟨-, -, -, n3, -, -⟩ := q.rf k
  obtain ⟨qt, qg, q7, -⟩ := q
  obtain ⟨k1, k2, k3, k4, k5, k6, k7, k8⟩ := k
  refine ⟨⟨wr, rfl, k3, fun q hq => ?_, fun i hi => ?_⟩, fun i j hi hj e => ?_⟩
  · have gp := gpos (by omega) k1.2 k2.2 hq
    have b := fun a ha => (qg a _ ha gp).2
    rw [layF_at (by omega) hq, layF_at (by omega) hq, layF_at (by omega) hq, layF_at (by omega) hq, layF_at (by omega) hq, if_pos rfl, if_neg (by omega), if_neg (by omega), if_neg (by omega), if_neg (by omega)]
    exact ⟨bt_n (Nat.le_refl 20) (by omega), bt_w (b 0 (by omega)) (Nat.le_refl 0) (show 199 ≤ 999 by omega), b 1 (by omega), b 2 (by omega), b 3 (by omega)⟩
  · obtain ⟨-, -, j2, j3, j4, j5, -⟩ := n3 i hi
    have lt := wy_le (ly i hi).1.1 (ly i hi).1.2
    unfold W1
    rw [layQ_at (by omega) hi, layQ_at (by omega) hi, layQ_at (by omega) hi, layQ_at (by omega) hi, layQ_at (by omega) hi, layQ_at (by omega) hi, layQ_at (by omega) hi, layQ_at (by omega) hi]
    exact ⟨bt_n (Nat.zero_le _) (by omega), bt_n (Nat.le_refl 20) (by omega), j3.2, bt_n (Nat.le_refl 0) (by omega), bt_n (Nat.le_refl 0) (by omega), bt_n (Nat.le_refl 0) (by omega), j4.2, j2.2⟩
  · rw [layQ_at (by omega) hi, layQ_at (by omega) hj] at e
    have l1 := xy_le (k7 i hi).2 (k8 i hi).2 k1.2
    have l2 := xy_le (k7 j hj).2 (k8 j hj).2 k1.2
    have e := xy_inj (ly i hi).1.1 (ly j hj).1.1 (nI_inj (by omega) (by omega) e)
    rcases Nat.lt_trichotomy i j with l | l | l
    · exact absurd ⟨e.1.symm, e.2.symm⟩ ((ly j hj).2 i l)
    · exact l
    · exact absurd e ((ly i hi).2 j l)
theorem lt10 {j : Nat} (h : j < 10) : j = 0 ∨ j = 1 ∨ j = 2 ∨ j = 3 ∨ j = 4 ∨ j = 5 ∨ j = 6 ∨ j = 7 ∨ j = 8 ∨ j = 9 := by omega
/-- the class's heap, laid -/
theorem lay_c (q : J c r) (k : PlC c w g N X Y) (e2 : ∀ k, k ≠ 14 → c2 k = c k) (e14 : ∀ i, i < N → c2 14 i = nI (X i + w * Y i)) (lc : LayC c2 w g c3) : cR c3 28 = cR c 3 ∧ cF c3 32 (w * g) = layF c w (w * g) ∧ cP c3 39 N = layQ c w N X Y ∧ c3 39 0 = nI N ∧ c3 31 2 = nI 0 ∧ ∀ k, (k < 3 ∨ 49 < k) → c3 k = c k := by
  obtain ⟨-, -, -, n3, -, -⟩ := q.rf k
  obtain ⟨qt, qg, q7, -⟩ := q
  obtain ⟨k1, k2, k3, k4, k5, k6, k7, k8⟩ := k
  obtain ⟨l1, l2, l3, l4, l5, l6⟩ := lc
  refine ⟨?_, ?_, ?_, by rw [l3, e2 13 (by omega)]; exact k6, l5, fun k hk => by rw [l6 k (by omega), e2 k (by omega)]⟩
  · rw [l1]; exact cR_k (e2 _ (by omega)) (e2 _ (by omega)) (e2 _ (by omega))
  · funext a x
    unfold cF
    by_cases z : a < 5 ∧ x < w * g
    · have gp := gpos (by omega) k1.2 k2.2 z.2
      rw [if_pos z, layF_at z.1 z.2, show 32 + 1 + a = 33 + a by omega, l2 a x z.1 z.2, e2 (7 + a) (by omega)]
      rcases (show a = 0 ∨ a = 1 ∨ a = 2 ∨ a = 3 ∨ a = 4 by omega) with rfl | rfl | rfl | rfl | rfl
      · exact q7 _ gp
      · rfl
      · rfl
      · exact nar_b (qg 2 _ (by omega) gp).2
      · exact nar_b (qg 3 _ (by omega) gp).2
    · rw [if_neg z, layF, if_neg z]
  · funext a i
    unfold cP
    by_cases z : a < 10 ∧ i < N
    · obtain ⟨-, -, -, -, -, -, j6, j7, j8, j9, j10⟩ := n3 i z.2
      have hi := z.2
      rw [if_pos z, layQ_at z.1 z.2]
      have i6 : i < 6 := by omega
      rcases lt10 z.1 with rfl | rfl | rfl | rfl | rfl | rfl | rfl | rfl | rfl | rfl
      · show c3 (39 + 1) i = _
        rw [l4 1 i (by omega) (by omega) i6, if_neg (by omega)]; exact e14 i hi
      · show c3 (39 + 6) i = _
        rw [l4 6 i (by omega) (by omega) i6, if_neg (by omega), e2 _ (by omega)]; exact j6
      · show c3 (39 + 3) i = _
        rw [l4 3 i (by omega) (by omega) i6, if_neg (by omega), e2 _ (by omega)]; rfl
      · show c3 (39 + 7) i = _
        rw [l4 7 i (by omega) (by omega) i6, if_neg (by omega), e2 _ (by omega)]; exact j7
      · show c3 (39 + 8) i = _
        rw [l4 8 i (by omega) (by omega) i6, if_neg (by omega), e2 _ (by omega)]; exact j8
      · show c3 (39 + 9) i = _
        rw [l4 9 i (by omega) (by omega) i6, if_neg (by omega), e2 _ (by omega)]; exact j9
      · show c3 (39 + 10) i = _
        rw [l4 10 i (by omega) (by omega) i6, if_pos rfl, e2 _ (by omega), j10, nar_b0]; rfl
      · show c3 (39 + 4) i = _
        rw [l4 4 i (by omega) (by omega) i6, if_neg (by omega), e2 _ (by omega)]; rfl
      · show c3 (39 + 2) i = _
        rw [l4 2 i (by omega) (by omega) i6, if_neg (by omega), e2 _ (by omega)]; rfl
      · show c3 (39 + 5) i = _
        rw [l4 5 i (by omega) (by omega) i6, if_neg (by omega), e2 _ (by omega)]; rfl
    · rw [if_neg z, layQ, if_neg z]
/-- the reference's row, laid -/
theorem lay_r (q : J c r) (k : PlC c w g N X Y) (lr : LayR r w (w * g) N r2) : rR r2 = cR c 3 ∧ rF r2 0 (w * g) = layF c w (w * g) ∧ rP r2 0 N = layQ c w N X Y ∧ r2 138 0 = nI N ∧ r2 143 198 = nI 0 := by
  obtain ⟨-, -, -, n3, x3, y3⟩ := q.rf k
  obtain ⟨qt, qg, q7, -⟩ := q
  obtain ⟨k1, k2, k3, k4, k5, k6, k7, k8⟩ := k
  obtain ⟨l1, l2, l3, l4, l5, l6⟩ := lr
  refine ⟨?_, ?_, ?_, l2, l5⟩
  · funext j
    unfold rR
    by_cases hj : j < 14
    · rw [if_pos hj, l1 j hj, cR_t hj]; exact (qt j hj).1.symm
    · rw [if_neg hj]
      unfold cR
      rw [if_neg (by omega), if_neg (by omega), if_neg (by omega), if_neg (by omega)]
  · funext a x
    unfold rF
    by_cases z : a < 5 ∧ x < w * g
    · have gp := gpos (by omega) k1.2 k2.2 z.2
      rw [if_pos z, layF_at z.1 z.2]
      by_cases a0 : a = 0
      · subst a0
        rw [if_pos rfl, show 200 * 0 + 30 * 0 + x = x by omega]
        exact (l3 x z.2).1
      · obtain ⟨b, rfl⟩ : ∃ b, a = b + 1 := ⟨a - 1, by omega⟩
        rw [if_neg a0, show 200 * 0 + 30 * (b + 1) + x = 30 * (b + 1) + x by omega, (l3 x z.2).2 b (by omega), show 7 + (b + 1) = 8 + b by omega]
        exact (qg b _ (by omega) gp).1.symm
    · rw [if_neg z, layF, if_neg z]
  · funext a i
    unfold rP
    by_cases z : a < 10 ∧ i < N
    · obtain ⟨-, -, j2, j3, j4, j5, -⟩ := n3 i z.2
      have hi := z.2
      rw [if_pos z, layQ_at z.1 z.2, show 200 * 0 + 150 + 8 * i = 150 + 8 * i by omega]
      obtain ⟨⟨m0, m1, m2, m7⟩, m3, m8, m9⟩ := l4 i hi
      rcases lt10 z.1 with rfl | rfl | rfl | rfl | rfl | rfl | rfl | rfl | rfl | rfl
      · rw [if_pos (by omega), Nat.add_zero, m0, (x3 i hi).1, (y3 i hi).1, pk_mul, nI_add]; rfl
      · rw [if_pos (by omega)]; exact m1
      · rw [if_pos (by omega), m2]; exact j3.1.symm
      · rw [if_pos (by omega)]; exact m3 3 (by omega) (by omega)
      · rw [if_pos (by omega)]; exact m3 4 (by omega) (by omega)
      · rw [if_pos (by omega)]; exact m3 5 (by omega) (by omega)
      · rw [if_pos (by omega)]; exact m3 6 (by omega) (by omega)
      · rw [if_pos (by omega), m7]; exact j4.1.symm
      · rw [if_neg (by omega), if_pos rfl, m8]; exact j2.1.symm
      · rw [if_neg (by omega), if_neg (by omega), m9]; exact j5.1.symm
    · rw [if_neg z, layQ, if_neg z]
end
