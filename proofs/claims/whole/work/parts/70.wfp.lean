/-! what pots are like, and stay -/
def W1 (n : Nat) (p : kH) (i : Nat) : Prop := bt (p 0 i) 0 (n - 1) ∧ bt (p 1 i) 20 3000 ∧ bt (p 2 i) 0 99 ∧ bt (p 4 i) 0 6 ∧ bt (p 5 i) 0 2 ∧ bt (p 6 i) 0 1 ∧ bt (p 7 i) 0 9 ∧ bt (p 8 i) 1 9
def WfP (n m : Nat) (p : kH) : Prop := ∀ i, i < m → W1 n p i
/-- a step touches one pot alone -/
def One (i : Nat) (p p' : kH) : Prop := ∀ a j, j ≠ i → p' a j = p a j
theorem One.wf {n m i : Nat} {p p' : kH} (h : One i p p') (hp : WfP n m p) (hi : W1 n p' i) : WfP n m p' := by
  intro j hj
  by_cases e : j = i
  · subst e; exact hi
  · have := hp j hj
    unfold W1 at this ⊢
    simp only [h _ j e]
    exact this
theorem one_hs {i a : Nat} {p : kH} {x : Int32} : One i p (hs p a i x) := fun _ _ e => hs_i e
theorem One.tr {i : Nat} {p q r : kH} (h1 : One i p q) (h2 : One i q r) : One i p r := fun a j e => by rw [h2 a j e, h1 a j e]
theorem one_rf {i : Nat} {p : kH} : One i p p := fun _ _ _ => rfl
theorem one_lose {i : Nat} {g : Int32} {p : kH} : One i p (mlose i g p) := one_hs
theorem one_steam {ru : Nat → Int32} {i : Nat} {p : kH} : One i p (msteam ru i p) := by
  have h1 : One i p (if p 1 i ≤ nI 60 then p else mlose i ((p 7 i + nI 1) * (p 1 i - nI 60) / nI 100) p) := by
    by_cases q : p 1 i ≤ nI 60
    · rw [if_pos q]; exact one_rf
    · rw [if_neg q]; exact one_lose
  unfold msteam
  by_cases q : p 1 i < nI 10 * ru 3
  · rw [if_pos q]; exact h1
  · rw [if_neg q]; exact h1.tr one_hs
theorem one_fate {ru : Nat → Int32} {d : Int32} {i : Nat} {p : kH} : One i p (mfate ru d i p) := by
  unfold mfate
  by_cases q1 : ¬ d ≤ 0 ∧ ¬ d * p 8 i ≤ nI 10 * ru 6
  · rw [if_pos q1]; exact one_hs
  · rw [if_neg q1]
    by_cases q2 : mbst i p = true
    · rw [if_pos q2]; exact one_hs
    · rw [if_neg q2]
      by_cases q3 : ¬ -d ≤ ru 5 ∧ ¬ p 3 i < nI 1
      · rw [if_pos q3]; exact one_hs
      · rw [if_neg q3]; exact one_steam
theorem one_feel {ru ht : Nat → Int32} {i : Nat} {p : kH} : One i p (mfeel1 ru ht i p) := by
  unfold mfeel1
  by_cases q : p 4 i = 0
  · rw [if_pos q, mwarm1]; exact one_hs.tr one_fate
  · rw [if_neg q]; exact one_rf
theorem one_str {ru : Nat → Int32} {w : Int32} {m : Nat} {B : Nat → Bool} {i : Nat} {p : kH} : One i p (mstr1 ru w m B i p) := by
  unfold mstr1
  by_cases q : p 4 i = 0 ∧ p 3 i < ru 4 ∧ anyN (fun j => B j && nearB w (p 0 i) (p 0 j)) m = true
  · rw [if_pos q]; exact one_hs
  · rw [if_neg q]; exact one_rf
theorem one_colr {b : Int32} {i : Nat} {p : kH} : One i p (mcolr b i p) := by
  unfold mcolr
  by_cases q1 : p 1 i < nI 500
  · rw [if_pos q1]
    by_cases q2 : p 6 i = 0
    · rw [if_pos q2]; exact one_rf
    · rw [if_neg q2]
      by_cases q3 : p 5 i = 0
      · rw [if_pos q3]; exact one_hs
      · rw [if_neg q3]; exact one_rf
  · rw [if_neg q1]; exact one_hs
theorem one_col {bl : Nat → Int32} {i : Nat} {p : kH} : One i p (mcol1 bl i p) := by
  unfold mcol1
  by_cases q : p 4 i = 0
  · rw [if_pos q]; exact one_colr
  · rw [if_neg q]; exact one_rf
theorem one_dry {x : Int32} {i : Nat} {p : kH} : One i p (mdry1 x i p) := by
  unfold mdry1
  by_cases q : p 4 i = 0
  · rw [if_pos q]; exact one_lose
  · rw [if_neg q]; exact one_rf
theorem warm_n {a b k : Nat} (ha : 20 ≤ a) (ha2 : a ≤ 3000) (hb : 20 ≤ b) (hb2 : b ≤ 3000) (hk : 1 ≤ k) (hk2 : k ≤ 10) : bt (nI a + (nI b - nI a) / nI k) 20 3000 := by
  rcases Nat.lt_or_ge b a with q | q
  · obtain ⟨z, hz⟩ : ∃ z, (a - b) / k = z := ⟨_, rfl⟩
    have hd : z ≤ a - b := by rw [← hz]; exact Nat.div_le_self _ _
    have h1 : ((nI b - nI a) / nI k).toInt = -(z : Int) := by
      rw [ti_div (by omega) (by omega), ti_sub (by rw [nI_toInt (by omega), nI_toInt (by omega)]; omega) (by rw [nI_toInt (by omega), nI_toInt (by omega)]; omega), nI_toInt (by omega), nI_toInt (by omega), show (b : Int) - (a : Int) = -((a - b : Nat) : Int) by omega, Int.neg_tdiv, ← hz]
      rfl
    have e : (nI a + (nI b - nI a) / nI k) = nI (a - z) := by
      refine Int32.toInt_inj.mp ?_
      rw [ti_add (by rw [h1, nI_toInt (by omega)]; omega) (by rw [h1, nI_toInt (by omega)]; omega), h1, nI_toInt (by omega), nI_toInt (by omega)]
      omega
    rw [e]
    exact bt_n (by omega) (by omega)
  · obtain ⟨z, hz⟩ : ∃ z, (b - a) / k = z := ⟨_, rfl⟩
    have hd : z ≤ b - a := by rw [← hz]; exact Nat.div_le_self _ _
    rw [pk_sub q, pk_div (by omega) (by omega) (by omega), nI_add, hz]
    exact bt_n (by omega) (by omega)
theorem lose_n {q g : Nat} (hq : q ≤ 99) (hg : g < 2 ^ 31) : bt (nI q - (if nI g < nI q then nI g else nI q)) 0 99 := by
  rw [nI_min hg (by omega), pk_sub (Nat.min_le_right _ _)]
  exact bt_n (by omega) (by omega)
theorem w1_lose {n i : Nat} {g : Int32} {p : kH} (h : W1 n p i) (hg : ∃ k : Nat, k < 2 ^ 31 ∧ g = nI k) : W1 n (mlose i g p) i := by
  obtain ⟨k, hk, rfl⟩ := hg
  obtain ⟨h0, h1, ⟨q, -, q2, q3⟩, h4, h5, h6, h7, h8⟩ := h
  unfold W1 mlose
  simp (disch := omega) only [hs_k, hs_s]
  exact ⟨h0, h1, by rw [q3]; exact lose_n q2 hk, h4, h5, h6, h7, h8⟩
theorem w1_steam {ru : Nat → Int32} {n i : Nat} {p : kH} (h : W1 n p i) : W1 n (msteam ru i p) i := by
  have h1 : W1 n (if p 1 i ≤ nI 60 then p else mlose i ((p 7 i + nI 1) * (p 1 i - nI 60) / nI 100) p) i := by
    by_cases q : p 1 i ≤ nI 60
    · rw [if_pos q]; exact h
    · rw [if_neg q]
      refine w1_lose h ?_
      obtain ⟨-, ⟨a, a1, a2, a3⟩, -, -, -, -, ⟨g, -, g2, g3⟩, -⟩ := h
      have ha : 60 < a := by
        rcases Nat.lt_or_ge 60 a with z | z
        · exact z
        · exact absurd (by rw [a3]; exact nI_le z (by omega)) q
      have hm : (g + 1) * (a - 60) ≤ 10 * 2940 := Nat.mul_le_mul (by omega) (by omega)
      exact ⟨(g + 1) * (a - 60) / 100, by omega, by rw [g3, a3, nI_add, pk_sub (by omega), pk_mul, pk_div (by omega) (by omega) (by omega)]⟩
  unfold msteam
  by_cases q : p 1 i < nI 10 * ru 3
  · rw [if_pos q]; exact h1
  · rw [if_neg q]
    unfold W1 at h1 ⊢
    simp (disch := omega) only [hs_k]
    exact h1
theorem w1_4 {n i k : Nat} {p : kH} (h : W1 n p i) (hk : k ≤ 6) : W1 n (hs p 4 i (nI k)) i := by
  obtain ⟨h0, h1, h2, h4, h5, h6, h7, h8⟩ := h
  unfold W1
  simp (disch := omega) only [hs_k, hs_s]
  exact ⟨h0, h1, h2, bt_n (by omega) hk, h5, h6, h7, h8⟩
theorem w1_fate {ru : Nat → Int32} {d : Int32} {n i : Nat} {p : kH} (h : W1 n p i) : W1 n (mfate ru d i p) i := by
  unfold mfate
  by_cases q1 : ¬ d ≤ 0 ∧ ¬ d * p 8 i ≤ nI 10 * ru 6
  · rw [if_pos q1]; exact w1_4 h (by omega)
  · rw [if_neg q1]
    by_cases q2 : mbst i p = true
    · rw [if_pos q2]; exact w1_4 h (by omega)
    · rw [if_neg q2]
      by_cases q3 : ¬ -d ≤ ru 5 ∧ ¬ p 3 i < nI 1
      · rw [if_pos q3]; exact w1_4 h (by omega)
      · rw [if_neg q3]; exact w1_steam h
theorem w1_feel {ru ht : Nat → Int32} {n i : Nat} {p : kH} (h : W1 n p i) (hn : 0 < n) (hn2 : n ≤ 30) (hh : ∀ c, c < n → bt (ht c) 20 3000) : W1 n (mfeel1 ru ht i p) i := by
  unfold mfeel1
  by_cases q : p 4 i = 0
  · rw [if_pos q, mwarm1]
    refine w1_fate ?_
    obtain ⟨⟨c, c1, c2, c3⟩, ⟨a, a1, a2, a3⟩, h2, h4, h5, h6, h7, ⟨t, t1, t2, t3⟩⟩ := h
    obtain ⟨b, b1', b2, b3⟩ := hh c (by omega)
    unfold W1
    simp (disch := omega) only [hs_k, hs_s]
    refine ⟨by rw [c3]; exact bt_n c1 c2, ?_, h2, h4, h5, h6, h7, by rw [t3]; exact bt_n t1 t2⟩
    rw [c3, nI_clamp (by omega), b3, a3, t3, nI_add]
    exact warm_n a1 a2 b1' b2 (by omega) (by omega)
  · rw [if_neg q]; exact h
theorem w1_str {ru : Nat → Int32} {w : Int32} {m : Nat} {B : Nat → Bool} {n i : Nat} {p : kH} (h : W1 n p i) : W1 n (mstr1 ru w m B i p) i := by
  unfold mstr1
  by_cases q : p 4 i = 0 ∧ p 3 i < ru 4 ∧ anyN (fun j => B j && nearB w (p 0 i) (p 0 j)) m = true
  · rw [if_pos q]; exact w1_4 h (by omega)
  · rw [if_neg q]; exact h
theorem w1_col {bl : Nat → Int32} {n i : Nat} {p : kH} (h : W1 n p i) : W1 n (mcol1 bl i p) i := by
  unfold mcol1
  by_cases q : p 4 i = 0
  · rw [if_pos q]
    obtain ⟨h0, h1, h2, h4, h5, h6, h7, h8⟩ := h
    have hh : W1 n p i := ⟨h0, h1, h2, h4, h5, h6, h7, h8⟩
    unfold mcolr
    by_cases q1 : p 1 i < nI 500
    · rw [if_pos q1]
      by_cases q2 : p 6 i = 0
      · rw [if_pos q2]; exact hh
      · rw [if_neg q2]
        by_cases q3 : p 5 i = 0
        · rw [if_pos q3]
          have h5' : bt (if bl (p 0 i).toNatClampNeg = 0 then nI 1 else nI 2) 0 2 := by
            by_cases z : bl (p 0 i).toNatClampNeg = 0
            · rw [if_pos z]; exact bt_n (by omega) (by omega)
            · rw [if_neg z]; exact bt_n (by omega) (by omega)
          unfold W1
          simp (disch := omega) only [hs_k, hs_s]
          exact ⟨h0, h1, h2, h4, h5', h6, h7, h8⟩
        · rw [if_neg q3]; exact hh
    · rw [if_neg q1]
      unfold W1
      simp (disch := omega) only [hs_k, hs_s]
      exact ⟨h0, h1, h2, h4, h5, bt_n (by omega) (by omega), h7, h8⟩
  · rw [if_neg q]; exact h
theorem w1_dry {x : Nat} {n i : Nat} {p : kH} (h : W1 n p i) (hx : x ≤ 240) : W1 n (mdry1 (nI x) i p) i := by
  unfold mdry1
  by_cases q : p 4 i = 0
  · rw [if_pos q]
    refine w1_lose h ?_
    obtain ⟨-, -, -, -, -, -, ⟨g, -, g2, g3⟩, -⟩ := h
    have hm : x * (g + 1) ≤ 240 * 10 := Nat.mul_le_mul hx (by omega)
    exact ⟨x * (g + 1) / 4, by omega, by rw [g3, nI_add, pk_mul, pk_div (by omega) (by omega) (by omega)]⟩
  · rw [if_neg q]; exact h
theorem wf_pots {ru ht bl : Nat → Int32} {w : Int32} {n m : Nat} {p : kH} (hn : 0 < n) (hn2 : n ≤ 30) (hh : ∀ c, c < n → bt (ht c) 20 3000) (hp : WfP n m p) : WfP n m (mpots ru w m ht bl p) := by
  unfold mpots
  refine itr_inv (WfP n m) m (fun i p hi h => one_col.wf h (w1_col (h i hi))) ?_ m (Nat.le_refl m)
  refine itr_inv (WfP n m) m (fun i p hi h => one_str.wf h (w1_str (h i hi))) ?_ m (Nat.le_refl m)
  exact itr_inv (WfP n m) m (fun i p hi h => one_feel.wf h (w1_feel (h i hi) hn hn2 hh)) hp m (Nat.le_refl m)
theorem wf_dry {n m x : Nat} {p : kH} (hx : x ≤ 240) (hp : WfP n m p) : WfP n m (itr (mdry1 (nI x)) m p) :=
  itr_inv (WfP n m) m (fun i _ hi h => one_dry.wf h (w1_dry (h i hi) hx)) hp m (Nat.le_refl m)
