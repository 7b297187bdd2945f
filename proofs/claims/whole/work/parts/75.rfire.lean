/-! the reference: its views, its fire -/
def rF (h : kH) (s n : Nat) : kH := fun a c => if a < 5 ∧ c < n then h 143 (200 * s + 30 * a + c) else 0
def rP (h : kH) (s m : Nat) : kH := fun a i => if a < 10 ∧ i < m then (if a < 8 then h 143 (200 * s + 150 + 8 * i + a) else if a = 8 then h 139 i else h 140 i) else 0
def rR (h : kH) (j : Nat) : Int32 := if j < 14 then h 137 j else 0
theorem rF_at {h : kH} {s n a c : Nat} (ha : a < 5) (hc : c < n) : rF h s n a c = h 143 (200 * s + 30 * a + c) := if_pos ⟨ha, hc⟩
theorem rF_hs {h : kH} {s n c j : Nat} {x : Int32} (a : Nat) (ha : a < 5) (hc : c < n) (hn : n ≤ 30) (hj : j = 200 * s + 30 * a + c) : rF (hs h 143 j x) s n = hs (rF h s n) a c x := by
  subst hj
  funext a' c'
  rw [hs_r]
  unfold rF
  rw [hs_r]
  by_cases h1 : a' = a ∧ c' = c
  · rw [if_pos h1, h1.1, h1.2, if_pos ⟨ha, hc⟩, if_pos ⟨rfl, rfl⟩]
  · rw [if_neg h1]
    by_cases h2 : a' < 5 ∧ c' < n
    · rw [if_pos h2, if_pos h2, if_neg (fun q => h1 (by omega))]
    · rw [if_neg h2, if_neg h2]
theorem rF_e {h h' : kH} {s n : Nat} (hn : n ≤ 30) (e : ∀ j, 200 * s ≤ j → j < 200 * s + 150 → h' 143 j = h 143 j) : rF h' s n = rF h s n := by
  funext a c
  unfold rF
  by_cases h2 : a < 5 ∧ c < n
  · rw [if_pos h2, if_pos h2, e _ (by omega) (by omega)]
  · rw [if_neg h2, if_neg h2]
theorem rP_at {h : kH} {s m a i : Nat} (ha : a < 8) (hi : i < m) : rP h s m a i = h 143 (200 * s + 150 + 8 * i + a) := by
  unfold rP
  rw [if_pos ⟨by omega, hi⟩, if_pos ha]
theorem rP_8 {h : kH} {s m i : Nat} (hi : i < m) : rP h s m 8 i = h 139 i := by
  unfold rP
  rw [if_pos ⟨by omega, hi⟩, if_neg (by omega), if_pos rfl]
theorem rP_9 {h : kH} {s m i : Nat} (hi : i < m) : rP h s m 9 i = h 140 i := by
  unfold rP
  rw [if_pos ⟨by omega, hi⟩, if_neg (by omega), if_neg (by omega)]
theorem rP_hs {h : kH} {s m i j : Nat} {x : Int32} (a : Nat) (ha : a < 8) (hi : i < m) (hj : j = 200 * s + 150 + 8 * i + a) : rP (hs h 143 j x) s m = hs (rP h s m) a i x := by
  subst hj
  funext a' i'
  rw [hs_r]
  unfold rP
  rw [hs_r, hs_k (by omega), hs_k (by omega)]
  by_cases h1 : a' = a ∧ i' = i
  · rw [if_pos h1, h1.1, h1.2, if_pos ⟨by omega, hi⟩, if_pos ha, if_pos ⟨rfl, rfl⟩]
  · rw [if_neg h1]
    by_cases h2 : a' < 10 ∧ i' < m
    · rw [if_pos h2, if_pos h2]
      by_cases h3 : a' < 8
      · rw [if_pos h3, if_pos h3, if_neg (fun q => h1 (by omega))]
      · rw [if_neg h3, if_neg h3]
    · rw [if_neg h2, if_neg h2]
theorem rP_e {h h' : kH} {s m : Nat} (hm : m ≤ 6) (e : ∀ j, 200 * s + 150 ≤ j → j < 200 * s + 198 → h' 143 j = h 143 j) (e1 : h' 139 = h 139) (e2 : h' 140 = h 140) : rP h' s m = rP h s m := by
  funext a i
  unfold rP
  rw [e1, e2]
  by_cases h2 : a < 10 ∧ i < m
  · rw [if_pos h2, if_pos h2]
    by_cases h3 : a < 8
    · rw [if_pos h3, if_pos h3, e _ (by omega) (by omega)]
    · rw [if_neg h3, if_neg h3]
  · rw [if_neg h2, if_neg h2]
theorem rR_at {h : kH} {j : Nat} (hj : j < 14) : rR h j = h 137 j := if_pos hj
theorem rR_e {h h' : kH} (e : h' 137 = h 137) : rR h' = rR h := by
  funext j
  unfold rR
  rw [e]
theorem rq_cells {h : kH} {w g n : Nat} (hw : h 137 0 = nI w) (hg : h 137 1 = nI g) (hn : w * g = n) : p_X8_cells h = some (nI n, h) := by
  simp (disch := omega) only [p_X8_cells, gd_i, nI_clamp, hw, hg, pk_mul, hn]
theorem itr_un {f : Nat → kH → kH} (h1 : ∀ i p, One i p (f i p)) {p : kH} : ∀ (i a c : Nat), i ≤ c → itr f i p a c = p a c
  | 0, _, _, _ => rfl
  | i + 1, a, c, h => by rw [itr_s, h1 i _ a c (by omega), itr_un h1 i a c (by omega)]
theorem one_burn {ru : Nat → Int32} {i : Nat} {f : kH} : One i f (mburn1 ru i f) := by
  unfold mburn1
  by_cases q : f 3 i = 0
  · rw [if_pos q]; exact one_rf
  · rw [if_neg q]; exact one_hs.tr one_hs
theorem rq_burns {s w g n U : Nat} {h : kH} (hw : h 137 0 = nI w) (hg : h 137 1 = nI g) (hn : w * g = n) (hn30 : n ≤ 30) (hs3 : s ≤ 3) (hf : WfF n 3000 U (rF h s n)) (hU : U < 100000) : ∃ h', p_X8_burns (nI s) h = some h' ∧ rF h' s n = itr (mburn1 (rR h)) n (rF h s n) ∧ cO h' 145 n = (fun _ => 0) ∧ (∀ j, (j < 200 * s ∨ 200 * s + 60 ≤ j) → h' 143 j = h 143 j) ∧ ∀ k, k ≠ 143 → k ≠ 145 → h' k = h k := by
  show okp (fun h' : kH => rF h' s n = itr (mburn1 (rR h)) n (rF h s n) ∧ cO h' 145 n = (fun _ => 0) ∧ (∀ j, (j < 200 * s ∨ 200 * s + 60 ≤ j) → h' 143 j = h 143 j) ∧ ∀ k, k ≠ 143 → k ≠ 145 → h' k = h k) _
  unfold p_X8_burns
  rw [le_d, pk_mul]
  refine fx_m (fun i (h : kH) => (nI (200 * s), nI i, h)) (fun i h1 => rF h1 s n = itr (mburn1 (rR h)) i (rF h s n) ∧ (∀ c, c < i → h1 145 c = nI 0) ∧ (∀ j, (j < 200 * s ∨ 200 * s + 60 ≤ j) → h1 143 j = h 143 j) ∧ ∀ k, k ≠ 143 → k ≠ 145 → h1 k = h k) _ n (by omega) ⟨rfl, fun c hc => absurd hc (by omega), fun _ _ => rfl, fun _ _ _ => rfl⟩ ?_ ?_
  · intro i h1 hi ⟨hv, ho, hj, hk⟩ K hK
    obtain ⟨⟨a, a1, a2, a3⟩, ⟨u, u1, u2, u3⟩, ⟨k, k1, k2, k3⟩, ⟨l, l1, l2, l3⟩, -⟩ := hf i hi
    have un : ∀ a, rF h1 s n a i = rF h s n a i := fun a => by rw [hv]; exact itr_un (fun _ _ => one_burn) i a i (Nat.le_refl i)
    have v0 : h1 143 (200 * s + i) = nI a := by rw [← a3, ← un, rF_at (a := 0) (by omega) hi]; rfl
    have v1 : h1 143 (200 * s + 30 + i) = nI u := by rw [← u3, ← un, rF_at (a := 1) (by omega) hi]
    have v2 : h1 143 (200 * s + 60 + i) = nI k := by rw [← k3, ← un, rF_at (a := 2) (by omega) hi]
    have v3 : h1 143 (200 * s + 90 + i) = nI l := by rw [← l3, ← un, rF_at (a := 3) (by omega) hi]
    have e7 : h1 137 = h 137 := hk 137 (by omega) (by omega)
    -- what is left when b is found
    have fin : ∀ b : Int32, mburn1 (rR h) i (rF h1 s n) = hs (hs (rF h1 s n) 1 i (nI u - b)) 0 i (nI a + b * rR h (11 + k)) → okp (fun h' : kH => rF h' s n = itr (mburn1 (rR h)) n (rF h s n) ∧ cO h' 145 n = (fun _ => 0) ∧ (∀ j, (j < 200 * s ∨ 200 * s + 60 ≤ j) → h' 143 j = h 143 j) ∧ ∀ k, k ≠ 143 → k ≠ 145 → h' k = h k) (p_X8_burns_91 K (nI (200 * s)) (nI i) (nI k) b h1) := by
      intro b hb
      simp (disch := omega) only [p_X8_burns_91, nI_add, gd_i, le_d, nI_clamp, v1, hs_k, hs_i, v0, e7]
      refine hK _ ⟨?_, fun c hc => ?_, fun j hjj => ?_, fun q q1 q2 => by rw [hs_k q2, hs_k q1, hs_k q1]; exact hk q q1 q2⟩
      · rw [rF_e hn30 (h := hs (hs h1 143 (200 * s + 30 + i) (nI u - b)) 143 (200 * s + i) (nI a + b * h 137 (11 + k))) (fun j _ _ => by rw [hs_k (by omega)]), rF_hs 0 (by omega) hi hn30 (by omega), rF_hs 1 (by omega) hi hn30 (by omega), itr_s, ← hv, hb, rR_at (by omega)]
      · by_cases e : c = i
        · subst e; rw [hs_s]
        · rw [hs_i e, hs_k (by omega), hs_k (by omega)]; exact ho c (by omega)
      · rw [hs_k (by omega), hs_i (by omega), hs_i (by omega)]; exact hj j hjj
    have mid : ∀ b : Int32, mburn1 (rR h) i (rF h1 s n) = hs (hs (rF h1 s n) 1 i (nI u - (if b ≤ nI u then b else nI u))) 0 i (nI a + (if b ≤ nI u then b else nI u) * rR h (11 + k)) → okp (fun h' : kH => rF h' s n = itr (mburn1 (rR h)) n (rF h s n) ∧ cO h' 145 n = (fun _ => 0) ∧ (∀ j, (j < 200 * s ∨ 200 * s + 60 ≤ j) → h' 143 j = h 143 j) ∧ ∀ k, k ≠ 143 → k ≠ 145 → h' k = h k) (p_X8_burns_57 K (nI (200 * s)) (nI i) (nI k) b h1) := by
      intro b hb
      simp (disch := omega) only [p_X8_burns_57, nI_add, gd_i, nI_clamp, v1]
      by_cases q : b ≤ nI u
      · rw [if_pos q]; rw [if_pos q] at hb; exact fin b hb
      · rw [if_neg q]; rw [if_neg q] at hb; exact fin _ hb
    have f0 : rF h1 s n 0 i = nI a := by rw [un, a3]
    have f1 : rF h1 s n 1 i = nI u := by rw [un, u3]
    have f2 : rF h1 s n 2 i = nI k := by rw [un, k3]
    have f3 : rF h1 s n 3 i = nI l := by rw [un, l3]
    simp (disch := omega) only [p_X8_burns_8, rq_cells (h := h1) (by rw [e7]; exact hw) (by rw [e7]; exact hg) hn, bd2_s, if_neg (nI_ge hi (show n < 2 ^ 31 by omega)), nI_add, gd_i, le_d, nI_clamp, v2, v3, e7]
    by_cases ql : l = 0
    · subst ql
      rw [if_pos nI_00]
      refine mid (nI 0) ?_
      rw [if_pos (nI_le (by omega) (by omega)), mburn1, if_pos (by rw [f3, nI_00]), nI_00]
      have z1 : nI u - 0 = rF h1 s n 1 i := by rw [f1]; simp
      have z2 : nI a + 0 * rR h (11 + k) = hs (rF h1 s n) 1 i (rF h1 s n 1 i) 0 i := by rw [hs_k (by omega), f0]; simp
      rw [z1, z2, hs_same, hs_same]
    · rw [if_neg (fun z => ql ((nI_eq0 (by omega)).mp z))]
      refine mid _ ?_
      have eB : (if h 137 (8 + k) ≤ nI u then h 137 (8 + k) else nI u) = (if rR h (8 + k) < nI u then rR h (8 + k) else nI u) := by
        rw [rR_at (by omega)]
        by_cases q : h 137 (8 + k) < nI u
        · rw [if_pos q, if_pos (Int32.le_of_lt q)]
        · rw [if_neg q]
          by_cases q2 : h 137 (8 + k) ≤ nI u
          · rw [if_pos q2]; exact Int32.le_antisymm q2 (Int32.not_lt.mp q)
          · rw [if_neg q2]
      rw [mburn1, if_neg (by rw [f3]; exact fun z => ql ((nI_eq0 (by omega)).mp z)), f2, nI_clamp (by omega), f1, f0, eB]
  · intro h1 ⟨hv, ho, hj, hk⟩ K
    have e7 : h1 137 = h 137 := hk 137 (by omega) (by omega)
    simp (disch := omega) only [p_X8_burns_8, rq_cells (h := h1) (by rw [e7]; exact hw) (by rw [e7]; exact hg) hn, bd2_s, if_pos (nI_le (Nat.le_refl n) (show n < 2 ^ 31 by omega))]
    exact okp_s ⟨hv, cO_0 ho, hj, hk⟩
