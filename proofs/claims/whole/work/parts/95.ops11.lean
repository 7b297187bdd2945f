/-! lies, the class -/
theorem dec_n {a : Nat} (h0 : 0 < a) (h : a < 2 ^ 31) : nI a + (-1 : Int32) = nI (a - 1) := by
  rw [show (-1 : Int32) = -(nI 1) by decide, ← Int32.sub_eq_add_neg, pk_sub (by omega)]
/-- the spot of pot j in way v -/
def dgt (S K v j : Nat) : Nat := v / S ^ (K - 1 - j) % S
def ly1 (sp : Nat → Int32) (S K v j : Nat) (q : kH) : kH := hs q 0 j (sp (dgt S K v j))
def lyP (sp : Nat → Int32) (S K v : Nat) (p : kH) : kH := itr (ly1 sp S K v) K p
theorem div_s {v S i : Nat} : v / S ^ i / S = v / S ^ (i + 1) := by rw [Nat.div_div_eq_div_mul, Nat.pow_succ]
section
variable {S K v j : Nat} {h : kH}
theorem q_spotInWay (hS : h 0 11 = nI S) (hS1 : 1 ≤ S) (hS6 : S ≤ 6) (hK : K ≤ 4) (hj : j < K) (hv : v < 2 ^ 31) : p_X7_spotInWay (nI v) (nI K) (nI j) h = some (nI (dgt S K v j), h) := by
  unfold p_X7_spotInWay
  rw [hS, if_pos (nI_le hS1 (show S < 2 ^ 31 by omega)), pk_sub (by omega)]
  refine fx_m (fun i (a : Nat) => (nI j, nI a, nI (K - 1 - i), h)) (fun i a => a = v / S ^ i) (fun r => r = some (nI (dgt S K v j), h)) (K - 1 - j) (by omega) (a := v) (by rw [Nat.pow_zero, Nat.div_one]) ?_ ?_
  · rintro i a hi rfl K' hK'
    have ha : v / S ^ i < 2 ^ 31 := Nat.lt_of_le_of_lt (Nat.div_le_self _ _) hv
    simp (disch := omega) only [p_X7_spotInWay_18, hS, if_neg (nI_ge (show j < K - 1 - i by omega) (show K - 1 - i < 2 ^ 31 by omega)), gd_n, le_d, pk_div, dec_n]
    exact hK' (v / S ^ i / S) div_s
  · rintro a rfl K'
    have ha : v / S ^ (K - 1 - j) < 2 ^ 31 := Nat.lt_of_le_of_lt (Nat.div_le_self _ _) hv
    dsimp only
    rw [show K - 1 - (K - 1 - j) = j by omega]
    simp (disch := omega) only [p_X7_spotInWay_18, hS, if_pos (nI_le (Nat.le_refl j) (show j < 2 ^ 31 by omega)), gd_n, krem_n]
    rfl
theorem q_countWays (hS : h 0 11 = nI S) (hK : K ≤ 4) : p_X7_countWays (nI K) h = some (nI (S ^ K), h) := by
  unfold p_X7_countWays
  refine fx_m (fun i (a : Nat) => (nI K, nI a, nI i, h)) (fun i a => a = S ^ i) (fun r => r = some (nI (S ^ K), h)) K (by omega) (a := 1) (by rw [Nat.pow_zero]) ?_ ?_
  · rintro i a hi rfl K' hK'
    simp (disch := omega) only [p_X7_countWays_4, hS, if_neg (nI_ge hi (show K < 2 ^ 31 by omega)), le_d, pk_mul, nI_add]
    exact hK' (S ^ i * S) (by rw [Nat.pow_succ])
  · rintro a rfl K'
    simp (disch := omega) only [p_X7_countWays_4, if_pos (nI_le (Nat.le_refl K) (show K < 2 ^ 31 by omega))]
end
theorem dgt_lt {S K v j : Nat} (hS : 1 ≤ S) : dgt S K v j < S := Nat.mod_lt _ (by omega)
theorem twoB_congr {m : Nat} {a b : Nat → Int32} (e : ∀ i, i < m → a i = b i) : twoB m a = twoB m b := by
  unfold twoB
  exact anyN_congr (fun i hi => anyN_congr (fun j hj => by rw [e i hi, e j hj]))
theorem pow_le {S K : Nat} (hS : S ≤ 6) (hK : K ≤ 4) : S ^ K ≤ 1296 := by
  have h1 : S ^ K ≤ 6 ^ K := Nat.pow_le_pow_left hS K
  have h2 : 6 ^ K ≤ 6 ^ 4 := Nat.pow_le_pow_right (by omega) hK
  have h3 : (6 : Nat) ^ 4 = 1296 := by decide
  omega
section
variable {w g n m : Nat} {ru : Nat → Int32} {f p : kH} {go : Int32} {h : kH}
theorem wf_ly {sp : Nat → Int32} {S K v : Nat} (hS : 1 ≤ S) (hsp : ∀ j, j < S → bt (sp j) 0 (n - 1)) (hp : WfP n m p) (hK : K ≤ m) : WfP n m (lyP sp S K v p) := by
  refine itr_inv (WfP n m) K (fun j q hj hq => ?_) hp K (Nat.le_refl K)
  refine One.wf one_hs hq ?_
  obtain ⟨h0, h1, h2, h4, h5, h6, h7, h8⟩ := hq j (by omega)
  unfold W1 ly1
  simp (disch := omega) only [hs_k, hs_s]
  exact ⟨hsp _ (dgt_lt hS), h1, h2, h4, h5, h6, h7, h8⟩
theorem ly_4 {sp : Nat → Int32} {S K v i : Nat} : lyP sp S K v p 4 i = p 4 i := itr_fix (fun j q => by rw [ly1, hs_k (by omega)]) K
theorem q_layWay {S K v : Nat} {sp : Nat → Int32} (hS : h 0 11 = nI S) (hS1 : 1 ≤ S) (hS6 : S ≤ 6) (hK : K ≤ 4) (hKm : K ≤ m) (hm : m ≤ 6) (hv : v < 2 ^ 31) (hsp : ∀ j, j < S → h 131 j = sp j) (a3 : cP h 39 m = p) (hp : WfP n m p) (a4 : h 39 0 = nI m) : ∃ h', p_X7_layWay (nI v) (nI K) h = some (b1 (!twoB m (fun i => lyP sp S K v p 0 i)), h') ∧ cP h' 79 m = lyP sp S K v p ∧ h' 79 0 = nI m ∧ ∀ k, (k < 79 ∨ 89 < k) → h' k = h k := by
  suffices H : okp (fun q : Int32 × kH => q.1 = b1 (!twoB m (fun i => lyP sp S K v p 0 i)) ∧ cP q.2 79 m = lyP sp S K v p ∧ q.2 79 0 = nI m ∧ ∀ k, (k < 79 ∨ 89 < k) → q.2 k = h k) (p_X7_layWay (nI v) (nI K) h) by
    obtain ⟨⟨r, h'⟩, e, rfl, u⟩ := H
    exact ⟨h', e, u⟩
  obtain ⟨h2, e2, n2, v2, k2⟩ := q_potsCopy (P := 79) (P2 := 39) (h := h) (by omega)
  have p2 : cP h2 79 m = p := by rw [cP_copy hm (by rw [a3]; exact hp) v2, a3]
  unfold p_X7_layWay
  rw [bd_o e2]
  refine fx_m (fun j (h : kH) => (nI v, nI K, nI j, h)) (fun j h3 => cP h3 79 m = itr (ly1 sp S K v) j p ∧ h3 79 0 = nI m ∧ ∀ k, (k < 79 ∨ 89 < k) → h3 k = h k) _ K (by omega) ⟨p2, by rw [n2]; exact a4, fun k a => k2 k (by omega)⟩ ?_ ?_
  · intro j h3 hj ⟨v3, n3, k3⟩ K' hK'
    have es := q_spotInWay (h := h3) (S := S) (K := K) (v := v) (j := j) (by rw [k3 0 (by omega)]; exact hS) hS1 hS6 hK hj hv
    have dl := dgt_lt (S := S) (K := K) (v := v) (j := j) hS1
    have sp3 : h3 131 (dgt S K v j) = sp (dgt S K v j) := by rw [k3 131 (by omega)]; exact hsp _ dl
    simp (disch := omega) only [p_X7_layWay_22, if_neg (nI_ge hj (show K < 2 ^ 31 by omega)), es, bd2_s, gd_i, nI_clamp, le_d, nI_add, sp3]
    refine hK' _ ⟨?_, by rw [hs_k (by omega)]; exact n3, fun k a => by rw [hs_k (by omega)]; exact k3 k a⟩
    rw [itr_s, ← v3]
    exact cP_hs 0 (by omega) (show j < m by omega)
  · intro h3 ⟨v3, n3, k3⟩ K'
    have e3 := q_anyTwo (P := 79) (h := h3) n3 hm
    rw [twoB_congr (b := fun i => lyP sp S K v p 0 i) (fun i hi => by rw [lyP, ← v3, cP_at (a := 0) (by omega) hi]; rfl)] at e3
    simp only [p_X7_layWay_22, if_pos (nI_le (Nat.le_refl K) (show K < 2 ^ 31 by omega)), e3, bd2_s, b1_if]
    cases twoB m (fun i => lyP sp S K v p 0 i)
    · exact okp_s ⟨rfl, v3, n3, k3⟩
    · exact okp_s ⟨rfl, v3, n3, k3⟩
/-- the best so far: its way, and how many are good -/
def bet : Option (Nat × Nat) → Nat → Bool
  | none, _ => true
  | some b, g => decide (b.2 < g)
def lyG (ru : Nat → Int32) (y w n m N : Nat) (sp : Nat → Int32) (S K : Nat) (f p : kH) (v : Nat) : Nat := good ru m (rN ru (fun _ => nI y) w n m N (f, lyP sp S K v p)).2
def lyS (ru : Nat → Int32) (y w n m N : Nat) (sp : Nat → Int32) (S K : Nat) (f p : kH) (v : Nat) (o : Option (Nat × Nat)) : Option (Nat × Nat) := if (!twoB m (fun i => lyP sp S K v p 0 i)) = true ∧ bet o (lyG ru y w n m N sp S K f p v) = true then some (v, lyG ru y w n m N sp S K f p v) else o
def lyT (ru : Nat → Int32) (y w n m N : Nat) (sp : Nat → Int32) (S K : Nat) (f p : kH) (v : Nat) : Option (Nat × Nat) := itr (lyS ru y w n m N sp S K f p) v none
def en1 : Option (Nat × Nat) → Int32
  | none => -4
  | some b => nI b.1
def en2 : Option (Nat × Nat) → Int32
  | none => -1
  | some b => nI b.2
def lyV (S K : Nat) (x : Int32) : Option (Nat × Nat) → Int32
  | none => -4
  | some b => if 0 ≤ x then nI (dgt S K b.1 x.toNatClampNeg) else nI b.2
theorem lyT_s {y N S K v : Nat} {sp : Nat → Int32} : lyT ru y w n m N sp S K f p (v + 1) = lyS ru y w n m N sp S K f p v (lyT ru y w n m N sp S K f p v) := itr_s (lyS ru y w n m N sp S K f p) v none
theorem lyT_b {y N S K : Nat} {sp : Nat → Int32} : ∀ v b, lyT ru y w n m N sp S K f p v = some b → b.1 < v ∧ b.2 ≤ m
  | 0, b, e => by cases e
  | v + 1, b, e => by
    rw [lyT_s, lyS] at e
    split at e
    · cases e
      exact ⟨Nat.lt_succ_self v, good_le⟩
    · have := lyT_b v b e
      exact ⟨by omega, this.2⟩
theorem ly_le {y N S K v : Nat} {sp : Nat → Int32} : lyG ru y w n m N sp S K f p v ≤ cntN (fun i => decide (p 4 i = 0)) m := by
  refine cntN_mono (fun i hi q => decide_eq_true ?_)
  have q := of_decide_eq_true q
  by_cases z : p 4 i = 0
  · exact z
  · exfalso
    have z1 : (rN ru (fun _ => nI y) w n m N (f, lyP sp S K v p)).2 4 i = p 4 i := by
      have z0 : lyP sp S K v p 4 i = p 4 i := ly_4
      exact (st4N (q := (f, lyP sp S K v p)) (show lyP sp S K v p 4 i ≠ 0 by rw [z0]; exact z) N).trans z0
    unfold mloss at q
    rw [z1, if_neg z] at q
    exact z q
theorem ly_st {y N S K v : Nat} {sp : Nat → Int32} {b : Nat × Nat} (e : lyT ru y w n m N sp S K f p v = some b) (hb : cntN (fun i => decide (p 4 i = 0)) m ≤ b.2) : ∀ u, lyT ru y w n m N sp S K f p (v + u) = some b
  | 0 => e
  | u + 1 => by
    rw [← Nat.add_assoc, lyT_s, ly_st e hb u, lyS, if_neg]
    intro z
    have := of_decide_eq_true z.2
    have l := ly_le (ru := ru) (y := y) (w := w) (n := n) (m := m) (N := N) (sp := sp) (S := S) (K := K) (f := f) (p := p) (v := v + u)
    omega
theorem q_lies153 {S K B : Nat} {x4 : Int32} {o : Option (Nat × Nat)} (hS : h 0 11 = nI S) (hS1 : o ≠ none → 1 ≤ S) (hS6 : S ≤ 6) (hK : K ≤ 4) (h4 : x4.toInt < K) (hB : B < 2 ^ 30) (ho : ∀ b, o = some b → b.1 < B ∧ b.2 ≤ 6) : p_X7_lies_153 (nI K) x4 (en1 o) (en2 o) h = some (lyV S K x4 o, h) := by
  unfold p_X7_lies_153
  cases o with
  | none => rw [if_pos (show en1 none = -4 from rfl)]; rfl
  | some b =>
    have hb := ho b rfl
    have s1 := hS1 (by intro z; cases z)
    have ne : ¬ nI b.1 = -4 := by
      intro z
      have := congrArg Int32.toInt z
      rw [nI_toInt (by omega), show ((-4 : Int32)).toInt = -4 by decide] at this
      omega
    show (if nI b.1 = -4 then _ else if 0 ≤ x4 then bd2 (p_X7_spotInWay (nI b.1) (nI K) x4 h) _ else some (nI b.2, h)) = some (if 0 ≤ x4 then _ else _, h)
    rw [if_neg ne]
    by_cases z : 0 ≤ x4
    · have z' := z_le.mp z
      have ex : x4 = nI x4.toInt.toNat := Int32.toInt_inj.mp (by rw [nI_toInt (by omega)]; omega)
      rw [if_pos z, if_pos z]
      rw [ex, nI_clamp (by omega), q_spotInWay hS s1 hS6 hK (by omega) (by omega), bd2_s]
    · rw [if_neg z, if_neg z]
theorem en2_le {o : Option (Nat × Nat)} {g : Nat} (hg : g ≤ 6) (ho : ∀ b, o = some b → b.2 ≤ 6) : nI g ≤ en2 o ↔ bet o g = false := by
  cases o with
  | none =>
    constructor
    · intro z
      rw [toInt_le, nI_toInt (by omega), show (en2 none).toInt = -1 by decide] at z
      omega
    · intro z; cases z
  | some b =>
    have := ho b rfl
    show nI g ≤ nI b.2 ↔ decide (b.2 < g) = false
    rw [toInt_le, nI_toInt (by omega), nI_toInt (by omega), decide_eq_false_iff_not]
    omega
theorem c_lies {S K N y : Nat} {sp : Nat → Int32} {x4 : Int32} (c : CI h w g n m ru f p go) (hS : h 0 11 = nI S) (hS6 : S ≤ 6) (hK1 : 1 ≤ K) (hK : K ≤ 4) (hKm : K ≤ m) (hsp : ∀ j, j < S → h 131 j = sp j) (hbt : ∀ j, j < S → bt (sp j) 0 (n - 1)) (N2 : N ≤ 240) (y2 : y ≤ 9) (h4 : x4.toInt < K) : okp (fun q : Int32 × kH => q.1 = lyV S K x4 (lyT ru y w n m N sp S K f p (S ^ K)) ∧ Kp h q.2) (bd (p_X7_burnAfresh (nI N) (nI y) h) fun h4 => bd2 (p_X7_countWays (nI K) h4) fun v8 h6 => bd2 (p_X4_countWhole 39 h6) fun v11 h9 => fx (fun K83 s => p_X7_lies_83 K83 s.1 s.2.1 s.2.2.1 s.2.2.2.1 s.2.2.2.2.1 s.2.2.2.2.2.1 s.2.2.2.2.2.2.1 s.2.2.2.2.2.2.2.1 s.2.2.2.2.2.2.2.2) FU (nI K, nI N, x4, v8, v11, (-4 : Int32), (-1 : Int32), (nI 0), h9)) := by
  have hm := c.1.2.2.1
  have hn30 := n_le c.1.2.1 c.1.1.2.2.1.2 c.1.1.2.2.2.1.2
  have hx : bt (nI y) 0 9 := bt_n (by omega) y2
  have hW := pow_le hS6 hK
  have s1 : 0 < S ^ K → 1 ≤ S := by
    intro z
    by_cases e : S = 0
    · subst e; rw [Nat.zero_pow (by omega)] at z; omega
    · omega
  obtain ⟨h0, e0, t0, k0⟩ := q_burnAfresh c N2 hx
  have kp0 : Kp h h0 := fun k a b _ => k0 k (by omega) b
  have c0 := c.kp kp0
  rw [bd_o e0, q_countWays (S := S) (by rw [kp0 0 (by omega) (by omega) (by omega)]; exact hS) hK, bd2_s, q_countWhole c0.2.2.2.2.1 hm, bd2_s, c0.2.2.2.1]
  have whl : cntN (fun i => decide (p 4 i = 0)) m ≤ m := cntN_le _ _
  have fin : ∀ (v : Nat) (h1 : kH), Kp h h1 → (lyT ru y w n m N sp S K f p v) = lyT ru y w n m N sp S K f p (S ^ K) → v ≤ S ^ K → okp (fun q : Int32 × kH => q.1 = lyV S K x4 (lyT ru y w n m N sp S K f p (S ^ K)) ∧ Kp h q.2) (p_X7_lies_153 (nI K) x4 (en1 (lyT ru y w n m N sp S K f p v)) (en2 (lyT ru y w n m N sp S K f p v)) h1) := by
    intro v h1 kp e hv
    rw [q_lies153 (B := 1297) (by rw [kp 0 (by omega) (by omega) (by omega)]; exact hS) (fun z => ?_) hS6 hK h4 (by omega) (fun b hb => ?_)]
    · exact okp_s ⟨by rw [e], kp⟩
    · apply s1
      cases q : lyT ru y w n m N sp S K f p v with
      | none => exact absurd q z
      | some b => have := (lyT_b v b q).1; omega
    · have := lyT_b v b hb; omega
  refine fx_m (fun v (a : Option (Nat × Nat) × kH) => (nI K, nI N, x4, nI (S ^ K), nI (cntN (fun i => decide (p 4 i = 0)) m), en1 a.1, en2 a.1, nI v, a.2)) (fun v a => a.1 = lyT ru y w n m N sp S K f p v ∧ Kp h a.2 ∧ a.2 133 = h0 133) _ (S ^ K) (by omega) (a := (none, h0)) ⟨rfl, kp0, rfl⟩ ?_ ?_
  · rintro v ⟨o, h1⟩ hv ⟨ho, kp, h133⟩ K' hK'
    dsimp only at ho kp h133 ⊢
    subst ho
    have ob : ∀ b, lyT ru y w n m N sp S K f p v = some b → b.2 ≤ 6 := fun b hb => by have := (lyT_b v b hb).2; omega
    simp only [p_X7_lies_83, if_neg (nI_ge hv (show S ^ K < 2 ^ 31 by omega))]
    cases qb : bet (lyT ru y w n m N sp S K f p v) (cntN (fun i => decide (p 4 i = 0)) m)
    · rw [if_pos ((en2_le (by omega) ob).mpr qb)]
      cases q : lyT ru y w n m N sp S K f p v with
      | none => rw [q] at qb; cases qb
      | some b =>
        have hb : cntN (fun i => decide (p 4 i = 0)) m ≤ b.2 := by
          rw [q] at qb
          have := of_decide_eq_false qb
          omega
        have e := ly_st q hb (S ^ K - v)
        rw [show v + (S ^ K - v) = S ^ K by omega] at e
        have := fin v h1 kp (by rw [q, e]) (by omega)
        rw [q] at this
        exact this
    · rw [if_neg (fun z => by rw [(en2_le (by omega) ob).mp z] at qb; cases qb)]
      obtain ⟨⟨hr, hn, -, hf, hp⟩, a1, a2, a3, a4, a5⟩ := c.kp kp
      obtain ⟨h2, e2, v2, n2, k2⟩ := q_layWay (v := v) (sp := sp) (K := K) (h := h1) (by rw [kp 0 (by omega) (by omega) (by omega)]; exact hS) (s1 (by omega)) hS6 hK hKm hm (by omega) (fun j hj => by rw [kp 131 (by omega) (by omega) (by omega)]; exact hsp j hj) a3 hp a4
      have kp2 : Kp h h2 := fun k b1 b2 b3 => by rw [k2 k (by omega), kp k b1 b2 b3]
      have s133 : h2 133 = h0 133 := by rw [k2 _ (by omega), h133]
      simp only [bd2_o e2, b1_if, nI_add]
      have stay : ∀ h' : kH, Kp h h' → h' 133 = h0 133 → ¬ ((!twoB m (fun i => lyP sp S K v p 0 i)) = true ∧ bet (lyT ru y w n m N sp S K f p v) (lyG ru y w n m N sp S K f p v) = true) → okp (fun q : Int32 × kH => q.1 = lyV S K x4 (lyT ru y w n m N sp S K f p (S ^ K)) ∧ Kp h q.2) (K' (nI K, nI N, x4, nI (S ^ K), nI (cntN (fun i => decide (p 4 i = 0)) m), en1 (lyT ru y w n m N sp S K f p v), en2 (lyT ru y w n m N sp S K f p v), nI (v + 1), h')) := by
        intro h' k' s' z
        exact hK' (lyT ru y w n m N sp S K f p v, h') ⟨by dsimp only; rw [lyT_s, lyS, if_neg z], k', s'⟩
      cases qt : (!twoB m (fun i => lyP sp S K v p 0 i))
      · rw [if_neg (by decide)]
        exact stay h2 kp2 s133 (fun z => by rw [qt] at z; cases z.1)
      · rw [if_pos rfl]
        have r2 : cR h2 28 = ru := (c.kp kp2).2.1
        obtain ⟨h4, e4, v4, k4⟩ := q_passPots (fr := 0) (N := N) (m := m) (h := h2) (F := fun j => fN ru (fun _ => nI y) w n (j + 1) f) (U := 999) (by rw [r2]; exact hr) hn N2 (by omega) n2 hm (by rw [v2]; exact wf_ly (s1 (by omega)) hbt hp hKm) (fun j hj => wf_fN hr hn (by omega) hf _ (fun _ _ => hx)) (fun j hj => by rw [Nat.zero_add]; exact tells_k hn30 (t0 j (by omega)) (fun c _ => by rw [s133]))
        have r4 : cR h4 28 = ru := by rw [← r2]; exact cR_k (k4 _ (by omega)) (k4 _ (by omega)) (k4 _ (by omega))
        have v4' : cP h4 79 m = (rN ru (fun _ => nI y) w n m N (f, lyP sp S K v p)).2 := by rw [v4, r2, v2, rN_p]; rfl
        have kp4 : Kp h h4 := fun k b1 b2 b3 => by rw [k4 k (by omega), kp2 k b1 b2 b3]
        have s4 : h4 133 = h0 133 := by rw [k4 _ (by omega), s133]
        have eg : p_X4_countGood 79 28 h4 = some (nI (lyG ru y w n m N sp S K f p v), h4) := by
          rw [q_countGood (m := m) (by rw [k4 _ (by omega)]; exact n2) hm, r4, v4']; rfl
        simp only [bd_o e4, eg, bd2_s]
        have gl : lyG ru y w n m N sp S K f p v ≤ m := good_le
        cases qg : bet (lyT ru y w n m N sp S K f p v) (lyG ru y w n m N sp S K f p v)
        · rw [if_pos ((en2_le (by omega) ob).mpr qg)]
          exact stay h4 kp4 s4 (fun z => by rw [qg] at z; cases z.2)
        · rw [if_neg (fun z => by rw [(en2_le (by omega) ob).mp z] at qg; cases qg)]
          exact hK' (some (v, lyG ru y w n m N sp S K f p v), h4) ⟨by dsimp only; rw [lyT_s, lyS, if_pos ⟨qt, qg⟩], kp4, s4⟩
  · rintro ⟨o, h1⟩ ⟨ho, kp, h133⟩ K'
    dsimp only at ho kp h133 ⊢
    subst ho
    simp only [p_X7_lies_83, if_pos (nI_le (Nat.le_refl (S ^ K)) (show S ^ K < 2 ^ 31 by omega))]
    exact fin _ h1 kp rfl (Nat.le_refl _)
end
