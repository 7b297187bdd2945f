/-! drying -/
theorem nI_inj {a b : Nat} (ha : a < 2 ^ 31) (hb : b < 2 ^ 31) (e : nI a = nI b) : a = b := by
  have := congrArg Int32.toInt e
  rw [nI_toInt ha, nI_toInt hb] at this
  omega
theorem itr_one {f : Nat → kH → kH} (h1 : ∀ i p, One i p (f i p)) {p : kH} {a i : Nat} : ∀ k, i < k → itr f k p a i = f i (itr f i p) a i
  | 0, h => absurd h (by omega)
  | k + 1, h => by
    rw [itr_s]
    by_cases e : i = k
    · subst e; rfl
    · rw [h1 k _ a i e, itr_one h1 k (by omega)]
theorem rq_dries {s n m x : Nat} {h : kH} (hc : h 138 0 = nI m) (hm : m ≤ 6) (hs3 : s ≤ 3) (hx : x ≤ 240) (hp : WfP n m (rP h s m)) : ∃ h', p_X8_dries (nI s) (nI x) h = some (sumN (fun i => itr (mdry1 (nI x)) m (rP h s m) 2 i) m, h') ∧ rP h' s m = itr (mdry1 (nI x)) m (rP h s m) ∧ (∀ j, (j < 200 * s + 150 ∨ 200 * s + 198 ≤ j) → h' 143 j = h 143 j) ∧ ∀ k, k ≠ 143 → h' k = h k := by
  suffices H : okp (fun q : Int32 × kH => q.1 = sumN (fun i => itr (mdry1 (nI x)) m (rP h s m) 2 i) m ∧ rP q.2 s m = itr (mdry1 (nI x)) m (rP h s m) ∧ (∀ j, (j < 200 * s + 150 ∨ 200 * s + 198 ≤ j) → q.2 143 j = h 143 j) ∧ ∀ k, k ≠ 143 → q.2 k = h k) (p_X8_dries (nI s) (nI x) h) by
    obtain ⟨⟨r, h'⟩, e, rfl, v⟩ := H
    exact ⟨h', e, v⟩
  unfold p_X8_dries
  refine fx_m (fun i (a : Int32 × kH) => (nI s, nI x, a.1, nI i, a.2)) (fun i a => a.1 = sumN (fun i => itr (mdry1 (nI x)) m (rP h s m) 2 i) i ∧ rP a.2 s m = itr (mdry1 (nI x)) i (rP h s m) ∧ (∀ j, (j < 200 * s + 150 ∨ 200 * s + 198 ≤ j) → a.2 143 j = h 143 j) ∧ ∀ k, k ≠ 143 → a.2 k = h k) _ m (by omega) (a := (nI 0, h)) ⟨rfl, rfl, fun _ _ => rfl, fun _ _ => rfl⟩ ?_ ?_
  · rintro i ⟨x3, h1⟩ hi ⟨hs1, hv, hj, hk⟩ K hK
    dsimp only at hs1 hv hj hk ⊢
    have hcw : h1 138 0 = nI m := by rw [hk _ (by omega)]; exact hc
    have wf1 : WfP n m (rP h1 s m) := by
      rw [hv]; exact itr_inv (WfP n m) m (fun j _ hj h => one_dry.wf h (w1_dry (h j hj) hx)) hp i (by omega)
    obtain ⟨q, q1, q2, q3⟩ := (wf1 i hi).2.2.1
    have w2 : h1 143 (200 * s + 150 + 8 * i + 2) = nI q := by rw [← q3, rP_at (a := 2) (by omega) hi]
    have w7 : h1 143 (200 * s + 150 + 8 * i + 7) = rP h1 s m 7 i := by rw [rP_at (by omega) hi]
    have key : ∀ b : Int32, hs (rP h1 s m) 2 i (nI q - b) = mdry1 (nI x) i (rP h1 s m) → okp (fun q : Int32 × kH => q.1 = sumN (fun i => itr (mdry1 (nI x)) m (rP h s m) 2 i) m ∧ rP q.2 s m = itr (mdry1 (nI x)) m (rP h s m) ∧ (∀ j, (j < 200 * s + 150 ∨ 200 * s + 198 ≤ j) → q.2 143 j = h 143 j) ∧ ∀ k, k ≠ 143 → q.2 k = h k) (p_X8_dries_94 K (nI s) (nI x) x3 (nI i) (nI (200 * s + 150 + 8 * i)) b (nI q) (nI (200 * s + 150 + 8 * i + 2)) h1) := by
      intro b hb
      simp (disch := omega) only [p_X8_dries_94, gd_i, le_d, nI_clamp, nI_add, hs_s]
      refine hK (x3 + (nI q - b), hs h1 143 (200 * s + 150 + 8 * i + 2) (nI q - b)) ⟨?_, ?_, fun j jj => by dsimp only; rw [hs_i (by omega), hj j jj], fun k kk => by dsimp only; rw [hs_k kk, hk k kk]⟩
      · have e2 : itr (mdry1 (nI x)) m (rP h s m) 2 i = nI q - b := by rw [itr_one (fun _ _ => one_dry) m hi, ← hv, ← hb, hs_s]
        rw [hs1]
        show _ = sumN (fun i => itr (mdry1 (nI x)) m (rP h s m) 2 i) i + itr (mdry1 (nI x)) m (rP h s m) 2 i
        rw [e2]
      · rw [rP_hs 2 (by omega) hi rfl, hb, itr_s, hv]
    simp (disch := omega) only [p_X8_dries_5, gd_i, nI_clamp, hcw, if_neg (nI_ge hi (show m < 2 ^ 31 by omega)), rq_potAt, bd2_s, rq_isWhole hi hm hs3, b1_if, nI_add, w7, p_X8_dries_54, w2]
    by_cases z4 : rP h1 s m 4 i = 0
    · rw [if_pos (decide_eq_true z4)]
      by_cases z : nI x * (rP h1 s m 7 i + nI 1) / nI 4 ≤ nI q
      · rw [if_pos z]; exact key _ (by rw [mdry1, if_pos z4, mlose, q3, ← mn_eq, if_pos z])
      · rw [if_neg z]; exact key _ (by rw [mdry1, if_pos z4, mlose, q3, ← mn_eq, if_neg z])
    · rw [if_neg (by simp [z4]), if_pos (nI_le (show 0 ≤ q by omega) (show q < 2 ^ 31 by omega))]
      exact key _ (by rw [mdry1, if_neg z4, nI_00, Int32.sub_zero, ← q3, hs_same])
  · rintro ⟨x3, h1⟩ ⟨hs1, hv, hj, hk⟩ K
    dsimp only at hs1 hv hj hk ⊢
    have hcw : h1 138 0 = nI m := by rw [hk _ (by omega)]; exact hc
    simp (disch := omega) only [p_X8_dries_5, gd_i, nI_clamp, hcw, if_pos (nI_le (Nat.le_refl m) (show m < 2 ^ 31 by omega))]
    exact okp_s ⟨hs1, hv, hj, hk⟩
def bstC (m : Nat) (p : kH) : Nat := cntN (fun i => decide (p 4 i = nI 1)) m
theorem rq_lossed1 {m : Nat} {h : kH} (hc : h 138 0 = nI m) (hm : m ≤ 6) : p_X8_lossed (nI 1) h = some (nI (bstC m (rP h 3 m)), h) := by
  unfold p_X8_lossed
  refine fx_m (fun i (a : Int32 × kH) => (nI 1, a.1, nI i, a.2)) (fun i a => a = (nI (cntN (fun i => decide (rP h 3 m 4 i = nI 1)) i), h)) (fun r => r = some (nI (cntN (fun i => decide (rP h 3 m 4 i = nI 1)) m), h)) m (by omega) (a := (nI 0, h)) rfl ?_ ?_
  · rintro i a hi rfl K hK
    dsimp only
    have w4 : h 143 (200 * 3 + 150 + 8 * i + 4) = rP h 3 m 4 i := by rw [rP_at (by omega) hi]
    simp (disch := omega) only [p_X8_lossed_4, p_X8_lossed_65, gd_i, nI_clamp, hc, if_neg (nI_ge hi (show m < 2 ^ 31 by omega)), if_neg nI_10, rq_potAt, bd2_s, nI_add, le_d, w4]
    by_cases q : rP h 3 m 4 i = nI 1
    · rw [if_pos q]
      exact hK (nI (cntN _ i + 1), h) (by rw [cntN_t (by simp [q])])
    · rw [if_neg q]
      exact hK (nI (cntN _ i + 0), h) (by rw [cntN_n (by simp [q])]; rfl)
  · rintro a rfl K
    dsimp only
    simp (disch := omega) only [p_X8_lossed_4, gd_i, nI_clamp, hc, if_pos (nI_le (Nat.le_refl m) (show m < 2 ^ 31 by omega))]
/-- burst then: burst before, or in this minute -/
theorem st1 {ru : Nat → Int32} {w m i : Nat} {f q : kH} (hi : i < m) : mpt ru w m f q 4 i = nI 1 ↔ (q 4 i = nI 1 ∨ bstB ru (fun c => f 0 c) q i = true) := by
  have e1 : itr (mfeel1 ru (fun c => f 0 c)) i q 4 i = q 4 i := itr_un (fun _ _ => one_feel) i 4 i (Nat.le_refl i)
  have e2 : itr (mfeel1 ru (fun c => f 0 c)) m q 4 i = itr (mfeel1 ru (fun c => f 0 c)) (i + 1) q 4 i := itr_one (fun _ _ => one_feel) m hi
  have e3 : ∀ r : kH, itr (mstr1 ru (nI w) m (bstB ru (fun c => f 0 c) q)) m r 4 i = nI 1 ↔ r 4 i = nI 1 := by
    intro r
    rw [itr_one (fun _ _ => one_str) m hi]
    have e4 : itr (mstr1 ru (nI w) m (bstB ru (fun c => f 0 c) q)) i r 4 i = r 4 i := itr_un (fun _ _ => one_str) i 4 i (Nat.le_refl i)
    rw [mstr1]
    split
    · rename_i z
      rw [hs_s]
      rw [e4] at z
      constructor
      · intro y; exact absurd y (by decide)
      · intro y; rw [z.1] at y; exact absurd y (by decide)
    · rw [e4]
  unfold mpt mpots
  rw [itr_fix (fun _ _ => st4_col), e3, e2]
  unfold bstB
  rw [e1, Bool.and_eq_true, decide_eq_true_eq, decide_eq_true_eq]
  by_cases z : q 4 i = 0
  · constructor
    · intro y; exact Or.inr ⟨z, y⟩
    · rintro (y | y)
      · rw [z] at y; exact absurd y (by decide)
      · exact y.2
  · have e5 : itr (mfeel1 ru (fun c => f 0 c)) (i + 1) q 4 i = q 4 i := by rw [itr_s, st4_feel (by rw [e1]; exact z), e1]
    rw [e5]
    constructor
    · intro y; exact Or.inl y
    · rintro (y | y)
      · exact y
      · exact y.2
theorem st1N {ru : Nat → Int32} {w m i : Nat} {F : Nat → kH} {p : kH} (hi : i < m) : ∀ k, pN ru w m F k p 4 i = nI 1 ↔ (p 4 i = nI 1 ∨ ∃ t, t < k ∧ bstB ru (fun c => F t 0 c) (pN ru w m F t p) i = true)
  | 0 => by
    constructor
    · intro y; exact Or.inl y
    · rintro (y | ⟨t, y, -⟩)
      · exact y
      · exact absurd y (by omega)
  | k + 1 => by
    rw [pN_s, st1 hi, st1N hi k]
    constructor
    · rintro ((y | ⟨t, y, z⟩) | y)
      · exact Or.inl y
      · exact Or.inr ⟨t, by omega, z⟩
      · exact Or.inr ⟨k, by omega, y⟩
    · rintro (y | ⟨t, y, z⟩)
      · exact Or.inl (Or.inl y)
      · by_cases e : t = k
        · subst e; exact Or.inr z
        · exact Or.inl (Or.inr ⟨t, by omega, z⟩)
theorem cntN_mono {f g : Nat → Bool} : ∀ {m : Nat}, (∀ i, i < m → f i = true → g i = true) → cntN f m ≤ cntN g m
  | 0, _ => Nat.le_refl _
  | m + 1, h => by
    have := cntN_mono (m := m) (fun i hi => h i (by omega))
    cases q : f m
    · rw [cntN_n q]
      cases q2 : g m
      · rw [cntN_n q2]; exact this
      · rw [cntN_t q2]; omega
    · rw [cntN_t q, cntN_t (h m (by omega) q)]; omega
theorem cntN_eq {f g : Nat → Bool} : ∀ {m : Nat}, (∀ i, i < m → f i = true → g i = true) → cntN g m = cntN f m → ∀ i, i < m → g i = f i
  | 0, _, _, i, hi => absurd hi (by omega)
  | m + 1, h, e, i, hi => by
    have le := cntN_mono (m := m) (fun i hi => h i (by omega))
    have h' : ∀ i, i < m → f i = true → g i = true := fun i hi => h i (by omega)
    have both : g m = f m ∧ cntN g m = cntN f m := by
      cases q : f m
      · rw [cntN_n q] at e
        cases q2 : g m
        · rw [cntN_n q2] at e; exact ⟨rfl, e⟩
        · rw [cntN_t q2] at e; omega
      · rw [cntN_t q, cntN_t (h m (by omega) q)] at e
        exact ⟨h m (by omega) q, by omega⟩
    by_cases y : i = m
    · subst y; exact both.1
    · exact cntN_eq h' both.2 i (by omega)
theorem dry4 {x : Int32} {i j : Nat} {p : kH} : mdry1 x j p 4 i = p 4 i := by
  unfold mdry1
  by_cases q : p 4 j = 0
  · rw [if_pos q, mlose, hs_k (by omega)]
  · rw [if_neg q]
/-- no more burst than before: no burst at all -/
theorem bst_eq {ru : Nat → Int32} {w m N : Nat} {F : Nat → kH} {p : kH} : bstC m (pN ru w m F N p) = bstC m p ↔ anyN (mbs ru w m F p) N = false := by
  constructor
  · intro e
    have h1 := cntN_eq (f := fun i => decide (p 4 i = nI 1)) (g := fun i => decide (pN ru w m F N p 4 i = nI 1)) (m := m) (fun i hi q => decide_eq_true ((st1N hi N).mpr (Or.inl (of_decide_eq_true q)))) e
    refine anyN_no (fun t ht => anyN_no (fun i hi => ?_))
    cases q : bstB ru (fun c => F t 0 c) (pN ru w m F t p) i
    · rfl
    · have h2 := h1 i hi
      have h3 : pN ru w m F N p 4 i = nI 1 := (st1N hi N).mpr (Or.inr ⟨t, ht, q⟩)
      have h4 : p 4 i = nI 1 := of_decide_eq_true (h2.symm.trans (decide_eq_true h3))
      have h5 : pN ru w m F t p 4 i = nI 1 := (st1N hi t).mpr (Or.inl h4)
      unfold bstB at q
      rw [Bool.and_eq_true, decide_eq_true_eq] at q
      have e1 : itr (mfeel1 ru (fun c => F t 0 c)) i (pN ru w m F t p) 4 i = pN ru w m F t p 4 i := itr_un (fun _ _ => one_feel) i 4 i (Nat.le_refl i)
      rw [e1, h5] at q
      exact absurd q.1 nI_10
  · intro e
    refine cntN_congr (fun i hi => ?_)
    have : (pN ru w m F N p 4 i = nI 1) ↔ p 4 i = nI 1 := by
      rw [st1N hi N]
      constructor
      · rintro (y | ⟨t, ht, z⟩)
        · exact y
        · have h1 := anyN_f e ht
          have h2 := anyN_f (f := bstB ru (fun c => F t 0 c) (pN ru w m F t p)) h1 hi
          rw [h2] at z
          cases z
      · intro y; exact Or.inl y
    exact decide_eq_decide.mpr this
theorem sumN_bt {g : Nat → Int32} {B : Nat} : ∀ m, (∀ i, i < m → bt (g i) 0 B) → bt (sumN g m) 0 (m * B)
  | 0, _ => bt_n (by omega) (by omega)
  | m + 1, h => by
    obtain ⟨a, -, a2, a3⟩ := sumN_bt m (fun i hi => h i (by omega))
    obtain ⟨b, -, b2, b3⟩ := h m (by omega)
    rw [sumN, a3, b3, nI_add, Nat.succ_mul]
    exact bt_n (by omega) (by omega)
section
variable {w g n m : Nat} {ru : Nat → Int32} {f p : kH} {go : Int32} {h : kH}
def drB (ru : Nat → Int32) (y w n m N : Nat) (f p : kH) (k : Nat) : Bool := !anyN (mbs ru w m (fun j => fN ru (fun _ => nI y) w n (j + 1) f) (itr (mdry1 (nI k)) m p)) N
theorem op_drying (c : CI h w g n m ru f p go) (d : RI h w g n m ru f p go) (x1 x2 : Int32) : Qop (p_X7_drying x1 x2) (p_X8_drying x1 x2) h := by
  have hm := c.1.2.2.1
  have hn30 := n_le c.1.2.1 c.1.1.2.2.1.2 c.1.1.2.2.2.1.2
  cases q : (okI x1 0 240 && okI x2 0 9)
  · refine ⟨-1, h, h, ?_, ?_, Kp.rf, Rk.rf⟩
    · unfold p_X7_drying; rw [q_isRun]; exact bad2 q
    · unfold p_X8_drying; rw [rq_isRun]; exact bad2 q
  · obtain ⟨N, -, N2, rfl⟩ := okI_n (lo := 0) (hi := 240) (by omega) (and_t q).1
    obtain ⟨y, -, y2, rfl⟩ := okI_n (lo := 0) (hi := 9) (by omega) (and_t q).2
    have hx : bt (nI y) 0 9 := bt_n (by omega) y2
    refine Qop.of (v := plc (fsN (drB ru y w n m N f p) 241)) ?_ (fun h1 k1 => ?_)
    · unfold p_X7_drying
      obtain ⟨h0, e0, t0, k0⟩ := q_burnAfresh c N2 hx
      rw [q_isRun, ok2 q, bd_o e0]
      have kp0 : Kp h h0 := fun k a b _ => k0 k (by omega) b
      refine fx_m (fun e (h : kH) => (nI N, nI e, h)) (fun e h1 => Kp h h1 ∧ h1 133 = h0 133 ∧ fsN (drB ru y w n m N f p) e = none) _ 241 (by omega) ⟨kp0, rfl, rfl⟩ ?_ ?_
      · intro e h1 he ⟨kp, h133, hno⟩ K hK
        obtain ⟨⟨hr, hn, -, hf, hp⟩, a1, a2, a3, a4, a5⟩ := c.kp kp
        obtain ⟨h2, e2, n2, v2, k2⟩ := q_potsCopy (P := 79) (P2 := 39) (h := h1) (by omega)
        have p2 : cP h2 79 m = p := by rw [cP_copy hm (by rw [a3]; exact hp) v2, a3]
        obtain ⟨h3, e3, v3, k3⟩ := q_dryFor (P := 79) (x := nI e) (h := h2) (m := m) (by rw [n2]; exact a4) hm
        have p3 : cP h3 79 m = itr (mdry1 (nI e)) m p := by rw [v3, p2]
        have r3 : cR h3 28 = ru := by rw [← a1]; exact cR_k (by rw [k3 _ (by omega), k2 _ (by omega)]) (by rw [k3 _ (by omega), k2 _ (by omega)]) (by rw [k3 _ (by omega), k2 _ (by omega)])
        obtain ⟨h4, e4, k4⟩ := q_anyBursts (N := N) (m := m) (h := h3) (F := fun j => fN ru (fun _ => nI y) w n (j + 1) f) (U := 999) (by rw [r3]; exact hr) hn N2 (by rw [k3 _ (by omega), n2]; exact a4) hm (by rw [p3]; exact wf_dry (by omega) hp) (fun j hj => wf_fN hr hn (by omega) hf _ (fun _ _ => hx)) (fun j hj => tells_k hn30 (t0 j (by omega)) (fun c _ => by rw [k3 133 (by omega), k2 133 (by omega), h133]))
        rw [r3, p3] at e4
        have kp4 : Kp h h4 := fun k b1 b2 b3 => by rw [k4 k (by omega), k3 k (by omega), k2 k (by omega), kp k b1 b2 b3]
        simp only [p_X7_drying_18, if_neg (nI_nlt (show e ≤ 240 by omega) (show 240 < 2 ^ 31 by omega)), bd_o e2, bd_o e3, bd2_o e4, b1_if, nI_add]
        cases qb : anyN (mbs ru w m (fun j => fN ru (fun _ => nI y) w n (j + 1) f) (itr (mdry1 (nI e)) m p)) N
        · rw [if_neg (by decide)]
          exact okp_s ⟨by rw [fsN_hit hno (by simp [drB, qb]) he]; rfl, kp4⟩
        · rw [if_pos rfl]
          exact hK h4 ⟨kp4, by rw [k4 _ (by omega), k3 _ (by omega), k2 _ (by omega), h133], fsN_no hno (by simp [drB, qb])⟩
      · intro h1 ⟨kp, h133, hno⟩ K
        simp only [p_X7_drying_18, if_pos (nI_lt (show 240 < 241 by omega) (show 241 < 2 ^ 31 by omega))]
        exact okp_s ⟨by rw [hno]; rfl, kp⟩
    · have d1 := d.kp k1
      unfold p_X8_drying
      rw [rq_isRun, ok2 q]
      refine fx_m (fun e (h : kH) => (nI N, nI y, nI e, h)) (fun e h2 => Rk h1 h2 ∧ fsN (drB ru y w n m N f p) e = none) _ 241 (by omega) ⟨Rk.rf, rfl⟩ ?_ ?_
      · intro e h2 he ⟨rk, hno⟩ K hK
        have d2 := d1.k rk
        obtain ⟨h3, e3, f3, p3, -, k3⟩ := rq_tries d2
        obtain ⟨t1, t2, t3, t4, t5, t6, t7, t8, t9, t10⟩ := d2.rt k3 f3 p3
        have el3 := rq_lossed1 (m := m) (h := h3) t10 hm
        rw [t9] at el3
        obtain ⟨h4, e4, v4, j4, k4⟩ := rq_dries (s := 3) (x := e) (n := n) (h := h3) t10 hm (by omega) (by omega) (by rw [t9]; exact t6)
        rw [t9] at e4 v4
        have wd : WfP n m (itr (mdry1 (nI e)) m p) := wf_dry (by omega) t6
        have rt4 : RT h4 w g n m 999 ru f (itr (mdry1 (nI e)) m p) := ⟨t1, t2, t3, t4, t5, wd, by rw [← t7]; exact rR_e (k4 _ (by omega)), by rw [← t8]; exact rF_e hn30 (fun j _ _ => j4 j (by omega)), v4, by rw [k4 _ (by omega)]; exact t10⟩
        obtain ⟨h5, e5, t5', -, j5, k5⟩ := rq_runs rt4 N2 y2
        obtain ⟨-, -, -, -, -, -, -, -, u9, u10⟩ := t5'
        have el5 := rq_lossed1 (m := m) (h := h5) u10 hm
        rw [u9] at el5
        have rk5 : Rk h1 h5 := rk.tr (k3.tr ⟨fun j jj => by rw [j5 j jj, j4 j (by omega)], fun q a1 a2 a3 a4 _ _ _ => by rw [k5 q a1 a2 a3 a4, k4 q a1]⟩)
        obtain ⟨sm, -, sm2, sm3⟩ := sumN_bt (g := fun i => itr (mdry1 (nI e)) m p 2 i) (B := 99) m (fun i hi => (wd i hi).2.2.1)
        have gl := good_le (ru := ru) (m := m) (p := (rN ru (fun _ => nI y) w n m N (f, itr (mdry1 (nI e)) m p)).2)
        have nn : ¬ nI (sm + good ru m (rN ru (fun _ => nI y) w n m N (f, itr (mdry1 (nI e)) m p)).2) < 0 := by
          rw [lt_z, nI_toInt (by omega)]; omega
        have c4 : bstC m (itr (mdry1 (nI e)) m p) = bstC m p := cntN_congr (fun i hi => by rw [itr_fix (fun _ _ => dry4)])
        have ce : nI (bstC m (rN ru (fun _ => nI y) w n m N (f, itr (mdry1 (nI e)) m p)).2) = nI (bstC m p) ↔ drB ru y w n m N f p e = true := by
          have b1 : bstC m (rN ru (fun _ => nI y) w n m N (f, itr (mdry1 (nI e)) m p)).2 ≤ m := cntN_le _ _
          have b2 : bstC m p ≤ m := cntN_le _ _
          have b3 : bstC m (rN ru (fun _ => nI y) w n m N (f, itr (mdry1 (nI e)) m p)).2 = bstC m p ↔ drB ru y w n m N f p e = true := by
            rw [rN_p, ← c4, bst_eq, drB, Bool.not_eq_true']
          rw [← b3]
          constructor
          · intro z; exact nI_inj (by omega) (by omega) z
          · intro z; rw [z]
        simp only [p_X8_drying_12, if_neg (nI_nlt (show e ≤ 240 by omega) (show 240 < 2 ^ 31 by omega)), bd_o e3, el3, bd2_s, bd2_o e4, bd2_o e5, le_d, sm3, nI_add, if_neg nn, el5]
        cases qb : drB ru y w n m N f p e
        · rw [if_neg (fun z => by rw [ce.mp z] at qb; cases qb)]
          exact hK h5 ⟨rk5, fsN_no hno qb⟩
        · rw [if_pos (ce.mpr qb)]
          exact okp_s ⟨by rw [fsN_hit hno qb he]; rfl, rk5⟩
      · intro h2 ⟨rk, hno⟩ K
        simp only [p_X8_drying_12, if_pos (nI_lt (show 240 < 241 by omega) (show 241 < 2 ^ 31 by omega))]
        exact okp_s ⟨by rw [hno]; rfl, rk⟩
end
