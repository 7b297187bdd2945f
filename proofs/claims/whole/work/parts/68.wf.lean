/-! bounds that last -/
theorem ti_add {x y : Int32} (h1 : -2147483648 ≤ x.toInt + y.toInt) (h2 : x.toInt + y.toInt < 2147483648) : (x + y).toInt = x.toInt + y.toInt := by
  rw [Int32.toInt_add]; exact Int.bmod_eq_of_le (by omega) (by omega)
theorem ti_sub {x y : Int32} (h1 : -2147483648 ≤ x.toInt - y.toInt) (h2 : x.toInt - y.toInt < 2147483648) : (x - y).toInt = x.toInt - y.toInt := by
  rw [Int32.toInt_sub]; exact Int.bmod_eq_of_le (by omega) (by omega)
theorem ti_div {x : Int32} {d : Nat} (h0 : 0 < d) (h1 : d < 2 ^ 31) : (x / nI d).toInt = x.toInt.tdiv d := by
  rw [Int32.toInt_div_of_ne_right, nI_toInt h1]
  intro e
  have := congrArg Int32.toInt e
  rw [nI_toInt h1] at this
  have h2 : (-1 : Int32).toInt = -1 := by decide
  omega
theorem itr_ix {α : Type} {f : Nat → α → α} (I : Nat → α → Prop) (N : Nat) (hs : ∀ i a, i < N → I i a → I (i + 1) (f i a)) {a : α} (h0 : I 0 a) : ∀ n, n ≤ N → I n (itr f n a)
  | 0, _ => h0
  | n + 1, h => hs n _ (by omega) (itr_ix I N hs h0 n (by omega))
theorem itr_congr {α : Type} {f g : Nat → α → α} (I : Nat → α → Prop) (N : Nat) (hs : ∀ i a, i < N → I i a → I (i + 1) (f i a)) (he : ∀ i a, i < N → I i a → g i a = f i a) {a : α} (h0 : I 0 a) : ∀ n, n ≤ N → itr g n a = itr f n a
  | 0, _ => rfl
  | n + 1, h => by rw [itr_s, itr_s, itr_congr I N hs he h0 n (by omega), he n _ (by omega) (itr_ix I N hs h0 n (by omega))]
/-- what the rules are like -/
def WfR (ru : Nat → Int32) (w g : Nat) : Prop := ru 0 = nI w ∧ ru 1 = nI g ∧ (2 ≤ w ∧ w ≤ 6) ∧ (2 ≤ g ∧ g ≤ 5) ∧ bt (ru 2) 1 30 ∧ bt (ru 3) 30 99 ∧ bt (ru 4) 1 60 ∧ bt (ru 5) 10 300 ∧ bt (ru 6) 10 300 ∧ bt (ru 7) 0 9 ∧ (∀ k, k < 3 → bt (ru (8 + k)) 1 20) ∧ ∀ k, k < 3 → bt (ru (11 + k)) 1 60
def WfF (n H U : Nat) (f : kH) : Prop := ∀ c, c < n → bt (f 0 c) 20 H ∧ bt (f 1 c) 0 U ∧ bt (f 2 c) 0 2 ∧ bt (f 3 c) 0 1 ∧ bt (f 4 c) 0 1
theorem nI_min {a b : Nat} (ha : a < 2 ^ 31) (hb : b < 2 ^ 31) : (if nI a < nI b then nI a else nI b) = nI (min a b) := by
  by_cases q : a < b
  · rw [if_pos ((nI_ltI ha hb).mpr q), Nat.min_eq_left (by omega)]
  · rw [if_neg (fun z => q ((nI_ltI ha hb).mp z)), Nat.min_eq_right (by omega)]
theorem wf_burn {ru : Nat → Int32} {w g n U : Nat} {f : kH} (hr : WfR ru w g) (hf : WfF n 3000 U f) (hU : U < 100000) : WfF n 4200 U (itr (mburn1 ru) n f) := by
  have key := itr_ix (f := mburn1 ru) (fun i f => ∀ c, c < n → (bt (f 0 c) 20 4200 ∧ (i ≤ c → bt (f 0 c) 20 3000)) ∧ bt (f 1 c) 0 U ∧ bt (f 2 c) 0 2 ∧ bt (f 3 c) 0 1 ∧ bt (f 4 c) 0 1) n ?_ (a := f) (fun c hc => ⟨⟨bt_w (hf c hc).1 (by omega) (by omega), fun _ => (hf c hc).1⟩, (hf c hc).2⟩) n (Nat.le_refl n)
  · exact fun c hc => ⟨(key c hc).1.1, (key c hc).2⟩
  · intro i f1 hi hI c hc
    by_cases q : f1 3 i = 0
    · rw [mburn1, if_pos q]
      exact ⟨⟨(hI c hc).1.1, fun _ => (hI c hc).1.2 (by omega)⟩, (hI c hc).2⟩
    · rw [mburn1, if_neg q]
      by_cases e : c = i
      · subst e
        obtain ⟨⟨-, h0⟩, h1, h2, h3, h4⟩ := hI c hc
        obtain ⟨a, a1, a2, a3⟩ := h0 (Nat.le_refl _)
        obtain ⟨u, u1, u2, u3⟩ := h1
        obtain ⟨k, k1, k2, k3⟩ := h2
        obtain ⟨B, B1, B2, B3⟩ := hr.2.2.2.2.2.2.2.2.2.2.1 k (by omega)
        obtain ⟨v, v1, v2, v3⟩ := hr.2.2.2.2.2.2.2.2.2.2.2 k (by omega)
        have hb : min B u * v ≤ 1200 := Nat.le_trans (Nat.mul_le_mul (show min B u ≤ 20 by omega) v2) (by omega)
        rw [k3, nI_clamp (by omega), B3, v3, u3, nI_min (by omega) (by omega), a3, pk_mul, nI_add, pk_sub (Nat.min_le_right _ _)]
        refine ⟨⟨?_, fun z => absurd z (by omega)⟩, ?_, ?_, ?_, ?_⟩
        · rw [hs_s]; exact bt_n (by omega) (by omega)
        · rw [hs_k (by omega), hs_s]; exact bt_n (by omega) (by omega)
        · rw [hs_k (by omega), hs_k (by omega), k3]; exact bt_n k1 k2
        · rw [hs_k (by omega), hs_k (by omega)]; exact h3
        · rw [hs_k (by omega), hs_k (by omega)]; exact h4
      · simp only [hs_i e]
        exact ⟨⟨(hI c hc).1.1, fun _ => (hI c hc).1.2 (by omega)⟩, (hI c hc).2⟩
/-- how often c has given or got when the first i cells are through -/
def kN (w i c : Nat) : Nat := (if c < i then 2 else 0) + (if 1 ≤ c ∧ c - 1 < i then 1 else 0) + (if w ≤ c ∧ c - w < i then 1 else 0)
theorem kN_le (w i c : Nat) : kN w i c ≤ 4 := by
  unfold kN
  split <;> split <;> split <;> omega
/-- k times gave and got -/
def oB (f : kH) (o : Nat → Int32) (c k : Nat) : Prop := -((k : Int) * (((f 0 c).toInt - 20) / 10)) ≤ (o c).toInt ∧ (o c).toInt ≤ (k : Int) * 418
theorem oB_w {f : kH} {o : Nat → Int32} {c k k' : Nat} (h : oB f o c k) (hk : k ≤ k') (h0 : 20 ≤ (f 0 c).toInt) : oB f o c k' := by
  have hq : 0 ≤ ((f 0 c).toInt - 20) / 10 := by omega
  have h1 : (k : Int) * (((f 0 c).toInt - 20) / 10) ≤ (k' : Int) * (((f 0 c).toInt - 20) / 10) := Int.mul_le_mul_of_nonneg_right (by omega) hq
  obtain ⟨a, b⟩ := h
  exact ⟨by omega, by omega⟩
theorem td10 {a b : Int} (ha : 20 ≤ a) (hb : 20 ≤ b) (ha2 : a ≤ 4200) (hb2 : b ≤ 4200) : -((b - 20) / 10) ≤ (a - b).tdiv 10 ∧ (a - b).tdiv 10 ≤ (a - 20) / 10 ∧ (a - b).tdiv 10 ≤ 418 ∧ -418 ≤ (a - b).tdiv 10 := by
  by_cases h : 0 ≤ a - b
  · rw [Int.tdiv_eq_ediv_of_nonneg h]
    omega
  · have e : a - b = -(b - a) := by omega
    rw [e, Int.neg_tdiv, Int.tdiv_eq_ediv_of_nonneg (by omega)]
    omega
theorem oB_fl {f : kH} {o : Nat → Int32} {c d : Nat} {kc kd : Nat} (hcd : c ≠ d) (hc : bt (f 0 c) 20 4200) (hd : bt (f 0 d) 20 4200) (h1 : oB f o c kc) (h2 : oB f o d kd) (hk : kc ≤ 4 ∧ kd ≤ 4) : oB f (mfl f c d o) c (kc + 1) ∧ oB f (mfl f c d o) d (kd + 1) ∧ ∀ j, j ≠ c → j ≠ d → mfl f c d o j = o j := by
  rw [bt_iff (by omega)] at hc hd
  have e0 : ((f 0 c - f 0 d) / nI 10).toInt = ((f 0 c).toInt - (f 0 d).toInt).tdiv 10 := by
    rw [ti_div (by omega) (by omega), ti_sub (by omega) (by omega)]
    rfl
  obtain ⟨t1, t2, t3, t4⟩ := td10 (a := (f 0 c).toInt) (b := (f 0 d).toInt) (by omega) (by omega) (by omega) (by omega)
  rw [← e0] at t1 t2 t3 t4
  generalize hv : (f 0 c - f 0 d) / nI 10 = v at t1 t2 t3 t4
  have qc : 0 ≤ ((f 0 c).toInt - 20) / 10 := by omega
  have qd : 0 ≤ ((f 0 d).toInt - 20) / 10 := by omega
  have q1 : ((f 0 c).toInt - 20) / 10 ≤ 418 := by omega
  have q2 : ((f 0 d).toInt - 20) / 10 ≤ 418 := by omega
  unfold oB at h1 h2
  have m1 : (kc : Int) * (((f 0 c).toInt - 20) / 10) ≤ 4 * 418 := Int.mul_le_mul (by omega) q1 qc (by omega)
  have m2 : (kd : Int) * (((f 0 d).toInt - 20) / 10) ≤ 4 * 418 := Int.mul_le_mul (by omega) q2 qd (by omega)
  have s1 : (o c - v).toInt = (o c).toInt - v.toInt := ti_sub (by omega) (by omega)
  have s2 : (o d + v).toInt = (o d).toInt + v.toInt := ti_add (by omega) (by omega)
  refine ⟨?_, ?_, fun j j1 j2 => by rw [mfl, pk_un j2, pk_un j1]⟩
  · rw [oB, mfl, pk_un hcd, pk_us, hv, s1, show ((kc + 1 : Nat) : Int) = (kc : Int) + 1 by omega, Int.add_mul, Int.add_mul]
    omega
  · rw [oB, mfl, pk_us, pk_un (Ne.symm hcd), hv, s2, show ((kd + 1 : Nat) : Int) = (kd : Int) + 1 by omega, Int.add_mul, Int.add_mul]
    omega
