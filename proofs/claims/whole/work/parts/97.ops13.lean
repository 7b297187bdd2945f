/-! lies, the reference and both -/
def en3 : Option (Nat × Nat) → Int32
  | none => -4
  | some b => nI b.2
theorem en3_le {o : Option (Nat × Nat)} {g : Nat} (hg : g ≤ 6) (ho : ∀ b, o = some b → b.2 ≤ 6) : nI g ≤ en3 o ↔ bet o g = false := by
  cases o with
  | none =>
    constructor
    · intro z
      rw [toInt_le, nI_toInt (by omega), show (en3 none).toInt = -4 by decide] at z
      omega
    · intro z; cases z
  | some b =>
    have := ho b rfl
    show nI g ≤ nI b.2 ↔ decide (b.2 < g) = false
    rw [toInt_le, nI_toInt (by omega), nI_toInt (by omega), decide_eq_false_iff_not]
    omega
section
variable {w g n m : Nat} {ru : Nat → Int32} {f p : kH} {go : Int32} {h : kH}
theorem r_lies {S K N y : Nat} {sp : Nat → Int32} {x4 : Int32} (d : RI h w g n m ru f p go) (hS : h 135 11 = nI S) (hS6 : S ≤ 6) (hK1 : 1 ≤ K) (hK : K ≤ 4) (hKm : K ≤ m) (hsp : ∀ j, j < S → h 144 j = sp j) (hbt : ∀ j, j < S → bt (sp j) 0 (n - 1)) (hds : ∀ i j, i < S → j < S → sp i = sp j → i = j) (hdp : ∀ i j, i < m → j < m → p 0 i = p 0 j → i = j) (N2 : N ≤ 240) (y2 : y ≤ 9) (h4 : x4.toInt < K) : okp (fun q : Int32 × kH => q.1 = lyV S K x4 (lyT ru y w n m N sp S K f p (S ^ K)) ∧ Rk h q.2) (fx (fun K54 s => p_X8_lies_54 K54 s.1 s.2.1 s.2.2.1 s.2.2.2.1 s.2.2.2.2.1 s.2.2.2.2.2.1 s.2.2.2.2.2.2) FU (nI K, nI N, nI y, x4, (nI 1), (nI 0), h)) := by
  have hm := d.1.2.2.1
  have hn30 := n_le d.1.2.1 d.1.1.2.2.1.2 d.1.1.2.2.2.1.2
  have hW := pow_le hS6 hK
  have s1 : 0 < S ^ K → 1 ≤ S := by
    intro z
    by_cases e : S = 0
    · subst e; rw [Nat.zero_pow (by omega)] at z; omega
    · omega
  refine fx_m (fun i (a : Nat) => (nI K, nI N, nI y, x4, nI a, nI i, h)) (fun i a => a = S ^ i) _ K (by omega) (a := 1) (by rw [Nat.pow_zero]) ?_ ?_
  · rintro i a hi rfl K' hK'
    simp (disch := omega) only [p_X8_lies_54, hS, if_neg (nI_ge hi (show K < 2 ^ 31 by omega)), le_d, pk_mul, nI_add]
    exact hK' (S ^ i * S) (by rw [Nat.pow_succ])
  · rintro a rfl K0
    simp only [p_X8_lies_54, if_pos (nI_le (Nat.le_refl K) (show K < 2 ^ 31 by omega))]
    refine fx_m (fun v (a : Option (Nat × Nat) × kH) => (nI K, nI N, nI y, x4, nI (S ^ K), en3 a.1, nI v, a.2)) (fun v a => a.1 = lyT ru y w n m N sp S K f p v ∧ Rk h a.2 ∧ ∀ b, a.1 = some b → ∀ j, j < K → a.2 149 j = nI (dgt S K b.1 j)) _ (S ^ K) (by omega) (a := (none, h)) ⟨rfl, Rk.rf, fun b hb => by cases hb⟩ ?_ ?_
    · rintro v ⟨o, h1⟩ hv ⟨ho, rk, hrow⟩ K' hK'
      dsimp only at ho rk hrow ⊢
      subst ho
      have S1 := s1 (by omega)
      have d1 := d.k rk
      have ob : ∀ b, lyT ru y w n m N sp S K f p v = some b → b.2 ≤ 6 := fun b hb => by have := (lyT_b v b hb).2; omega
      have k135 : h1 135 = h 135 := rk.2 _ (by omega) (by omega) (by omega) (by omega) (by omega) (by omega) (by omega)
      have k144 : h1 144 = h 144 := rk.2 _ (by omega) (by omega) (by omega) (by omega) (by omega) (by omega) (by omega)
      obtain ⟨h2, e2, v2, k2⟩ := rq_isWay (S := S) (K := K) (v := v) (m := m) (p := p) (sp := sp) (h := h1) (by rw [k135]; exact hS) S1 hS6 hK1 hK hKm hm (by omega) d1.2.2.2.2.1 (fun j hj => by rw [k144]; exact hsp j hj) d1.2.2.2.1
      rw [way_eq S1 hKm hds hdp] at e2
      have rk2 : Rk h1 h2 := ⟨fun j _ => by rw [k2 _ (by omega)], fun k _ _ _ _ b _ _ => k2 k b⟩
      simp only [p_X8_lies_82, if_neg (nI_ge hv (show S ^ K < 2 ^ 31 by omega)), bd2_o e2, b1_if, nI_add]
      have stay : ∀ h' : kH, Rk h h' → h' 149 = h1 149 → ¬ ((!twoB m (fun i => lyP sp S K v p 0 i)) = true ∧ bet (lyT ru y w n m N sp S K f p v) (lyG ru y w n m N sp S K f p v) = true) → okp (fun q : Int32 × kH => q.1 = lyV S K x4 (lyT ru y w n m N sp S K f p (S ^ K)) ∧ Rk h q.2) (K' (nI K, nI N, nI y, x4, nI (S ^ K), en3 (lyT ru y w n m N sp S K f p v), nI (v + 1), h')) := by
        intro h' k' s' z
        exact hK' (lyT ru y w n m N sp S K f p v, h') ⟨by dsimp only; rw [lyT_s, lyS, if_neg z], k', fun b hb j hj => by dsimp only; rw [s']; exact hrow b hb j hj⟩
      cases qt : (!twoB m (fun i => lyP sp S K v p 0 i))
      · rw [if_neg (by decide)]
        exact stay h2 (rk.tr rk2) (k2 _ (by omega)) (fun z => by rw [qt] at z; cases z.1)
      · rw [if_pos rfl]
        have d2 := d1.k rk2
        obtain ⟨h3, e3, f3, p3, -, rk3, k3⟩ := rq_tries' d2
        obtain ⟨t1, t2, t3, t4, t5, t6, t7, t8, t9, t10⟩ := d2.rt rk3 f3 p3
        have w148 : ∀ j, j < K → h3 148 j = nI (dgt S K v j) := fun j hj => by rw [k3 _ (by omega) (by omega)]; exact v2 j hj
        have w144 : ∀ j, j < S → h3 144 j = sp j := fun j hj => by rw [k3 _ (by omega) (by omega), k2 _ (by omega), k144]; exact hsp j hj
        rw [bd_o e3]
        refine fx_m (fun t (h : kH) => (nI K, nI N, nI y, x4, nI (S ^ K), en3 (lyT ru y w n m N sp S K f p v), nI v, nI t, h)) (fun t h5 => rP h5 3 m = itr (ly1 sp S K v) t p ∧ (∀ j, (j < 750 ∨ 798 ≤ j) → h5 143 j = h3 143 j) ∧ ∀ k, k ≠ 143 → h5 k = h3 k) _ K (by omega) ⟨by rw [itr_0]; exact t9, fun _ _ => rfl, fun _ _ => rfl⟩ ?_ ?_
        · intro t h5 ht ⟨v5, j5, k5⟩ K5 hK5
          have dl := dgt_lt (S := S) (K := K) (v := v) (j := t) S1
          simp (disch := omega) only [p_X8_lies_106, if_neg (nI_ge ht (show K < 2 ^ 31 by omega)), rq_potAt, bd2_s, gd_i, nI_clamp, k5 148 (by omega), k5 144 (by omega), w148 t ht, w144 _ dl, nI_add, le_d]
          refine hK5 _ ⟨?_, fun j jj => by rw [hs_i (by omega)]; exact j5 j jj, fun k kk => by rw [hs_k kk]; exact k5 k kk⟩
          rw [rP_hs 0 (by omega) (show t < m by omega) rfl, v5, itr_s]
          rfl
        · intro h5 ⟨v5, j5, k5⟩ K5
          have rt5 : RT h5 w g n m 999 ru f (lyP sp S K v p) := ⟨t1, t2, t3, t4, t5, wf_ly S1 hbt t6 hKm, by rw [← t7]; exact rR_e (k5 _ (by omega)), by rw [← t8]; exact rF_e hn30 (fun j _ _ => j5 j (by omega)), v5, by rw [k5 _ (by omega)]; exact t10⟩
          obtain ⟨h6, e6, t6', -, j6, k6⟩ := rq_runs rt5 N2 y2
          have e6 : p_X8_runs (nI N) (nI y) h5 = some (nI (lyG ru y w n m N sp S K f p v), h6) := e6
          have rk6 : Rk h h6 := rk.tr (rk2.tr (rk3.tr ⟨fun j jj => by rw [j6 j jj, j5 j (by omega)], fun q a1 a2 a3 a4 _ _ _ => by rw [k6 q a1 a2 a3 a4, k5 q a1]⟩))
          have r149 : h6 149 = h1 149 := by rw [k6 _ (by omega) (by omega) (by omega) (by omega), k5 _ (by omega), k3 _ (by omega) (by omega), k2 _ (by omega)]
          have r148 : ∀ j, j < K → h6 148 j = nI (dgt S K v j) := fun j hj => by rw [k6 _ (by omega) (by omega) (by omega) (by omega), k5 _ (by omega)]; exact w148 j hj
          have gl : lyG ru y w n m N sp S K f p v ≤ m := good_le
          simp only [p_X8_lies_106, if_pos (nI_le (Nat.le_refl K) (show K < 2 ^ 31 by omega)), bd2_o e6]
          have nle := en3_le (o := lyT ru y w n m N sp S K f p v) (g := lyG ru y w n m N sp S K f p v) (by omega) ob
          refine fx_m (fun t (h : kH) => (nI K, nI N, nI y, x4, nI (S ^ K), en3 (lyT ru y w n m N sp S K f p v), nI v, nI (lyG ru y w n m N sp S K f p v), nI t, h)) (fun t h7 => (bet (lyT ru y w n m N sp S K f p v) (lyG ru y w n m N sp S K f p v) = false → h7 = h6) ∧ (∀ j, j < t → h7 149 j = nI (dgt S K v j)) ∧ ∀ k, k ≠ 149 → h7 k = h6 k) _ K (by omega) ⟨fun _ => rfl, fun j hj => absurd hj (by omega), fun _ _ => rfl⟩ ?_ ?_
          · intro t h7 ht ⟨s7, v7, k7⟩ K7 hK7
            simp (disch := omega) only [p_X8_lies_154, p_X8_lies_187, p_X8_lies_201, if_neg (nI_ge ht (show K < 2 ^ 31 by omega)), gd_i, nI_clamp, le_d, nI_add]
            cases qg : bet (lyT ru y w n m N sp S K f p v) (lyG ru y w n m N sp S K f p v)
            · rw [if_pos (nle.mpr qg), if_pos (nle.mpr qg), s7 qg]
              exact stay h6 rk6 r149 (fun z => by rw [qg] at z; cases z.2)
            · rw [if_neg (fun z => by rw [nle.mp z] at qg; cases qg)]
              refine hK7 _ ⟨fun z => absurd (z.symm.trans qg) (by decide), fun j hj => ?_, fun k kk => by rw [hs_k kk]; exact k7 k kk⟩
              by_cases e : j = t
              · subst e; rw [hs_s, k7 _ (by omega), r148 j ht]
              · rw [hs_i e]; exact v7 j (by omega)
          · intro h7 ⟨s7, v7, k7⟩ K7
            simp only [p_X8_lies_154, p_X8_lies_187, p_X8_lies_201, if_pos (nI_le (Nat.le_refl K) (show K < 2 ^ 31 by omega)), nI_add]
            cases qg : bet (lyT ru y w n m N sp S K f p v) (lyG ru y w n m N sp S K f p v)
            · rw [if_pos (nle.mpr qg), s7 qg]
              exact stay h6 rk6 r149 (fun z => by rw [qg] at z; cases z.2)
            · rw [if_neg (fun z => by rw [nle.mp z] at qg; cases qg)]
              refine hK' (some (v, lyG ru y w n m N sp S K f p v), h7) ⟨by dsimp only; rw [lyT_s, lyS, if_pos ⟨qt, qg⟩], rk6.tr ⟨fun j _ => by dsimp only; rw [k7 _ (by omega)], fun k _ _ _ _ _ b _ => k7 k b⟩, fun b hb j hj => ?_⟩
              cases hb
              exact v7 j hj
    · rintro ⟨o, h1⟩ ⟨ho, rk, hrow⟩ K'
      dsimp only at ho rk hrow ⊢
      subst ho
      simp only [p_X8_lies_82, if_pos (nI_le (Nat.le_refl (S ^ K)) (show S ^ K < 2 ^ 31 by omega))]
      cases q : lyT ru y w n m N sp S K f p (S ^ K) with
      | none =>
        rw [if_pos (show en3 none < 0 by decide)]
        exact okp_s ⟨rfl, rk⟩
      | some b =>
        have lb := (lyT_b _ b q).2
        rw [if_neg (show ¬ en3 (some b) < 0 by show ¬ nI b.2 < 0; rw [lt_z, nI_toInt (by omega)]; omega)]
        show okp (fun q : Int32 × kH => q.1 = (if 0 ≤ x4 then nI (dgt S K b.1 x4.toNatClampNeg) else nI b.2) ∧ Rk h q.2) _
        by_cases z : 0 ≤ x4
        · have z' := z_le.mp z
          have ex : x4 = nI x4.toInt.toNat := Int32.toInt_inj.mp (by rw [nI_toInt (by omega)]; omega)
          rw [if_pos z, if_pos z]
          rw [ex, nI_clamp (by omega), gd_i (by omega) (by omega)]
          exact okp_s ⟨hrow b q _ (by omega), rk⟩
        · rw [if_neg z, if_neg z]
          exact okp_s ⟨rfl, rk⟩
theorem op_lies {S : Nat} {sp : Nat → Int32} (c : CI h w g n m ru f p go) (d : RI h w g n m ru f p go) (hS : h 0 11 = nI S) (hS' : h 135 11 = nI S) (hS6 : S ≤ 6) (hsp : ∀ j, j < S → h 131 j = sp j) (hsp' : ∀ j, j < S → h 144 j = sp j) (hbt : ∀ j, j < S → bt (sp j) 0 (n - 1)) (hds : ∀ i j, i < S → j < S → sp i = sp j → i = j) (hdp : ∀ i j, i < m → j < m → p 0 i = p 0 j → i = j) (x1 x2 x3 x4 : Int32) : Qop (p_X7_lies x1 x2 x3 x4) (p_X8_lies x1 x2 x3 x4) h := by
  have hm := c.1.2.2.1
  cases q1 : okI x1 1 4
  · refine ⟨-1, h, h, ?_, ?_, Kp.rf, Rk.rf⟩
    · unfold p_X7_lies
      rcases okI_f q1 with z | z
      · rw [if_pos (show x1 < nI 1 by rw [lt_n (by omega)]; omega)]
      · rw [if_neg (show ¬ x1 < nI 1 by rw [lt_n (by omega)]; omega), if_pos (show nI 4 < x1 by rw [n_lt (by omega)]; omega)]
    · unfold p_X8_lies; rw [rq_io (lo := 1) (hi := 4) (by decide) (by decide)]; exact bad2 q1
  · obtain ⟨K, hK1, hK, rfl⟩ := okI_n (lo := 1) (hi := 4) (by omega) q1
    have c1 : ¬ nI K < nI 1 := nI_nlt hK1 (by omega)
    have c2 : ¬ nI 4 < nI K := nI_nlt hK (by omega)
    by_cases hKm : K ≤ m
    · have c3 : nI K ≤ nI m := nI_le hKm (by omega)
      have r3 : ¬ nI m < nI K := nI_nlt hKm (by omega)
      cases q : (okI x2 0 240 && okI x3 0 9)
      · refine ⟨-1, h, h, ?_, ?_, Kp.rf, Rk.rf⟩
        · unfold p_X7_lies; rw [if_neg c1, if_neg c2, c.2.2.2.2.1, if_pos c3, q_isRun]; exact bad2 q
        · unfold p_X8_lies; rw [rq_io (lo := 1) (hi := 4) (by decide) (by decide), ok2 q1, gd_i (by omega) (by omega), nI_clamp (by omega), d.2.2.2.2.1, if_neg r3, rq_isRun]; exact bad2 q
      · obtain ⟨N, -, N2, rfl⟩ := okI_n (lo := 0) (hi := 240) (by omega) (and_t q).1
        obtain ⟨y, -, y2, rfl⟩ := okI_n (lo := 0) (hi := 9) (by omega) (and_t q).2
        have eb : (nI K - nI 1).toInt64.toInt = (K : Int) - 1 := by
          rw [pk_sub (by omega), Int32.toInt_toInt64, nI_toInt (by omega)]; omega
        cases q4 : okI x4 (-1) ((K : Int) - 1)
        · refine ⟨-1, h, h, ?_, ?_, Kp.rf, Rk.rf⟩
          · unfold p_X7_lies; rw [if_neg c1, if_neg c2, c.2.2.2.2.1, if_pos c3, q_isRun, ok2 q]
            rcases okI_f q4 with z | z
            · rw [if_pos (show x4 < -1 by rw [toInt_lt, show ((-1 : Int32)).toInt = -1 by decide]; omega)]
            · rw [if_neg (show ¬ x4 < -1 by rw [toInt_lt, show ((-1 : Int32)).toInt = -1 by decide]; omega), if_neg (show ¬ x4 < nI K by rw [lt_n (by omega)]; omega)]
          · unfold p_X8_lies; rw [rq_io (lo := 1) (hi := 4) (by decide) (by decide), ok2 q1, gd_i (by omega) (by omega), nI_clamp (by omega), d.2.2.2.2.1, if_neg r3, rq_isRun, ok2 q, rq_io (lo := -1) (hi := (K : Int) - 1) (by decide) eb]; exact bad2 q4
        · have q4' := q4
          unfold okI at q4'
          rw [Bool.and_eq_true, decide_eq_true_eq, decide_eq_true_eq] at q4'
          refine Qop.of (v := lyV S K x4 (lyT ru y w n m N sp S K f p (S ^ K))) ?_ (fun h1 k1 => ?_)
          · unfold p_X7_lies; rw [if_neg c1, if_neg c2, c.2.2.2.2.1, if_pos c3, q_isRun, ok2 q, if_neg (show ¬ x4 < -1 by rw [toInt_lt, show ((-1 : Int32)).toInt = -1 by decide]; omega), if_pos (show x4 < nI K by rw [lt_n (by omega)]; omega)]
            exact c_lies c hS hS6 hK1 hK hKm hsp hbt N2 y2 (by omega)
          · have d1 := d.kp k1
            unfold p_X8_lies; rw [rq_io (lo := 1) (hi := 4) (by decide) (by decide), ok2 q1, gd_i (by omega) (by omega), nI_clamp (by omega), d1.2.2.2.2.1, if_neg r3, rq_isRun, ok2 q, rq_io (lo := -1) (hi := (K : Int) - 1) (by decide) eb, ok2 q4]
            exact r_lies d1 (by rw [k1 _ (by omega) (by omega) (by omega)]; exact hS') hS6 hK1 hK hKm (fun j hj => by rw [k1 _ (by omega) (by omega) (by omega)]; exact hsp' j hj) hbt hds hdp N2 y2 (by omega)
    · have c3 : ¬ nI K ≤ nI m := fun z => by
        rw [toInt_le, nI_toInt (by omega), nI_toInt (by omega)] at z; omega
      have r3 : nI m < nI K := nI_lt (by omega) (by omega)
      refine ⟨-1, h, h, ?_, ?_, Kp.rf, Rk.rf⟩
      · unfold p_X7_lies; rw [if_neg c1, if_neg c2, c.2.2.2.2.1, if_neg c3]
      · unfold p_X8_lies; rw [rq_io (lo := 1) (hi := 4) (by decide) (by decide), ok2 q1, gd_i (by omega) (by omega), nI_clamp (by omega), d.2.2.2.2.1, if_pos r3]
end
