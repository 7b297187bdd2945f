/-! the views: cells of a fire, rules -/
def cF (h : kH) (F n : Nat) : kH := fun a c => if a < 5 ∧ c < n then h (F + 1 + a) c else 0
def cR (h : kH) (R : Nat) (j : Nat) : Int32 := if j < 2 then h R j else if j < 8 then h R (j + 2) else if j < 11 then h (R + 1) (j - 8) else if j < 14 then h (R + 2) (j - 11) else 0
theorem cF_at {h : kH} {F n a c : Nat} (ha : a < 5) (hc : c < n) : cF h F n a c = h (F + 1 + a) c := if_pos ⟨ha, hc⟩
theorem cF_hs {h : kH} {F n a c : Nat} {x : Int32} (ha : a < 5) (hc : c < n) : cF (hs h (F + 1 + a) c x) F n = hs (cF h F n) a c x := by
  funext a' c'
  rw [hs_r]
  unfold cF
  rw [hs_r]
  by_cases h1 : a' = a ∧ c' = c
  · rw [if_pos h1, h1.1, h1.2, if_pos ⟨ha, hc⟩, if_pos ⟨rfl, rfl⟩]
  · rw [if_neg h1]
    by_cases h2 : a' < 5 ∧ c' < n
    · rw [if_pos h2, if_pos h2, if_neg (fun q => h1 ⟨by omega, q.2⟩)]
    · rw [if_neg h2, if_neg h2]
theorem cF_k {h h' : kH} {F n : Nat} (e : ∀ a, a < 5 → h' (F + 1 + a) = h (F + 1 + a)) : cF h' F n = cF h F n := by
  funext a c
  unfold cF
  by_cases h2 : a < 5 ∧ c < n
  · rw [if_pos h2, if_pos h2, e a h2.1]
  · rw [if_neg h2, if_neg h2]
theorem cF_hk {h : kH} {F n k i : Nat} {x : Int32} (e : k < F + 1 ∨ F + 5 < k) : cF (hs h k i x) F n = cF h F n := cF_k (fun a ha => hs_k (by omega))
/-- one cell burns -/
def mburn1 (ru : Nat → Int32) (c : Nat) (f : kH) : kH :=
  if f 3 c = 0 then f else hs (hs f 1 c (f 1 c - (if ru (8 + (f 2 c).toNatClampNeg) < f 1 c then ru (8 + (f 2 c).toNatClampNeg) else f 1 c))) 0 c (f 0 c + (if ru (8 + (f 2 c).toNatClampNeg) < f 1 c then ru (8 + (f 2 c).toNatClampNeg) else f 1 c) * ru (11 + (f 2 c).toNatClampNeg))
theorem p_cells (R : Nat) (h : kH) : p_X5_cells R h = some (h R 0 * h R 1, h) := rfl
theorem q_burnFuel {F R w g n : Nat} {h : kH} (hw : h R 0 = nI w) (hg : h R 1 = nI g) (hn : w * g = n) (hn30 : n ≤ 30) (hFR : R + 2 < F) (hk : ∀ c, c < n → bt (h (F + 3) c) 0 2) : ∃ h', p_X1_burnFuel F R h = some h' ∧ cF h' F n = itr (mburn1 (cR h R)) n (cF h F n) ∧ ∀ k, k ≠ F + 1 → k ≠ F + 2 → h' k = h k := by
  unfold p_X1_burnFuel
  refine fx_0 (fun i s => s.1 = nI i ∧ cF s.2 F n = itr (mburn1 (cR h R)) i (cF h F n) ∧ ∀ k, k ≠ F + 1 → k ≠ F + 2 → s.2 k = h k) (fun r => ∃ h' : kH, r = some h' ∧ cF h' F n = itr (mburn1 (cR h R)) n (cF h F n) ∧ ∀ k, k ≠ F + 1 → k ≠ F + 2 → h' k = h k) n (by omega) ⟨rfl, rfl, fun _ _ _ => rfl⟩ ?_ ?_
  · rintro i ⟨x, h1⟩ hi ⟨hx, hv, hf⟩ K hK
    dsimp only at hx hv hf
    subst hx
    obtain ⟨k, -, hk2, hk3⟩ := hk i hi
    have e0 : h1 R = h R := hf R (by omega) (by omega)
    have e3 : h1 (F + 3) = h (F + 3) := hf _ (by omega) (by omega)
    have r1 : h1 (R + 1) = h (R + 1) := hf _ (by omega) (by omega)
    have r2 : h1 (R + 2) = h (R + 2) := hf _ (by omega) (by omega)
    have c0 : h1 (F + 1) i = cF h1 F n 0 i := (cF_at (a := 0) (by omega) hi).symm
    have c1 : h1 (F + 2) i = cF h1 F n 1 i := (cF_at (a := 1) (by omega) hi).symm
    have c2 : nI k = cF h1 F n 2 i := by rw [cF_at (a := 2) (by omega) hi, ← hk3, ← e3]
    have c3 : h1 (F + 4) i = cF h1 F n 3 i := (cF_at (a := 3) (by omega) hi).symm
    have b1 : cR h R (8 + k) = h (R + 1) k := by
      unfold cR
      rw [if_neg (by omega), if_neg (by omega), if_pos (by omega)]
      congr 1; omega
    have b2 : cR h R (11 + k) = h (R + 2) k := by
      unfold cR
      rw [if_neg (by omega), if_neg (by omega), if_neg (by omega), if_pos (by omega)]
      congr 1; omega
    simp only [p_X1_burnFuel_2, p_cells, bd2_s, e0, hw, hg, pk_mul, hn]
    rw [if_neg (nI_ge hi (by omega)), gd_t (inb_n (by omega) (by omega)), nI_clamp (by omega)]
    by_cases hl : h1 (F + 4) i = 0
    · rw [if_pos hl, nI_add]
      refine hK _ ⟨rfl, ?_, hf⟩
      show cF h1 F n = _
      rw [itr_s, ← hv, mburn1, if_pos (by rw [← c3]; exact hl)]
    · rw [if_neg hl, e3, hk3, gd_t (inb_n (by omega) (by omega)), nI_clamp (by omega)]
      simp only [le_d]
      rw [hs_k (show F + 3 ≠ F + 2 by omega), e3, hk3, gd_t (inb_n (by omega) (by omega)), nI_clamp (by omega), hs_k (show F + 1 ≠ F + 2 by omega), hs_k (show R + 2 ≠ F + 2 by omega), r1, r2, nI_add]
      refine hK _ ⟨rfl, ?_, fun q q1 q2 => ?_⟩
      · show cF (hs (hs h1 (F + 1 + 1) i _) (F + 1 + 0) i _) F n = _
        rw [cF_hs (by omega) hi, cF_hs (by omega) hi, itr_s, ← hv, mburn1, if_neg (show ¬ cF h1 F n 3 i = 0 by rw [← c3]; exact hl), ← c2, nI_clamp (by omega), b1, b2, c0, c1]
      · show hs (hs h1 (F + 2) i _) (F + 1) i _ q = h q
        rw [hs_k q1, hs_k q2]
        exact hf q q1 q2
  · rintro ⟨x, h1⟩ ⟨hx, hv, hf⟩ K
    dsimp only at hx hv hf
    subst hx
    have e0 : h1 R = h R := hf R (by omega) (by omega)
    simp only [p_X1_burnFuel_2, p_cells, bd2_s, e0, hw, hg, pk_mul, hn]
    rw [if_pos (nI_le (Nat.le_refl _) (by omega))]
    exact ⟨h1, rfl, hv, hf⟩
theorem q_clear {F : Nat} {h : kH} : ∃ h', p_X1_clear F h = some h' ∧ (∀ a c, a < 5 → c < 30 → h' (F + 1 + a) c = if a = 0 then nI 20 else nI 0) ∧ ∀ k, (k < F + 1 ∨ F + 5 < k) → h' k = h k := by
  unfold p_X1_clear
  refine fx_m (fun i (h : kH) => (nI i, h)) (fun i h1 => (∀ a c, a < 5 → c < i → h1 (F + 1 + a) c = if a = 0 then nI 20 else nI 0) ∧ ∀ k, (k < F + 1 ∨ F + 5 < k) → h1 k = h k) (fun r => ∃ h' : kH, r = some h' ∧ (∀ a c, a < 5 → c < 30 → h' (F + 1 + a) c = if a = 0 then nI 20 else nI 0) ∧ ∀ k, (k < F + 1 ∨ F + 5 < k) → h' k = h k) 30 (by omega) ⟨fun a c _ hc => absurd hc (by omega), fun _ _ => rfl⟩ ?_ ?_
  · intro i h1 hi ⟨hv, hf⟩ K hK
    simp (disch := omega) only [p_X1_clear_2, if_neg (nI_ge hi (by omega)), gd_i, le_d, nI_clamp, nar_b0, nI_add]
    refine hK _ ⟨fun a c ha hc => ?_, fun k hk => ?_⟩
    · rcases (show a = 0 ∨ a = 1 ∨ a = 2 ∨ a = 3 ∨ a = 4 by omega) with rfl | rfl | rfl | rfl | rfl <;>
      · by_cases e : c = i
        · subst e; simp [hs_r]
        · have := hv _ c ha (by omega)
          simp [hs_r, e] at this ⊢
          exact this
    · rw [hs_k (by omega), hs_k (by omega), hs_k (by omega), hs_k (by omega), hs_k (by omega)]
      exact hf k hk
  · intro h1 ⟨hv, hf⟩ K
    simp only [p_X1_clear_2, if_pos (nI_le (Nat.le_refl 30) (by omega))]
    exact ⟨h1, rfl, hv, hf⟩
/-- what a row of truths takes -/
def nb (a : Nat) (x : Int32) : Int32 := if a < 3 then x else vp_nar .boolean x
theorem q_copyCell {F F2 c d : Nat} {h : kH} (hc : c < 30) (hd : d < 30) (hF : F + 5 < F2 ∨ F2 + 5 < F) : ∃ h', p_X1_copyCell F F2 (nI c) (nI d) h = some h' ∧ (∀ a c', a < 5 → h' (F + 1 + a) c' = if c' = c then nb a (h (F2 + 1 + a) d) else h (F + 1 + a) c') ∧ ∀ k, (k < F + 1 ∨ F + 5 < k) → h' k = h k := by
  simp (disch := omega) only [p_X1_copyCell, gd_i, le_d, nI_clamp]
  refine ⟨_, rfl, fun a c' ha => ?_, fun k hk => ?_⟩
  · rcases (show a = 0 ∨ a = 1 ∨ a = 2 ∨ a = 3 ∨ a = 4 by omega) with rfl | rfl | rfl | rfl | rfl <;>
    · by_cases e : c' = c
      · subst e; simp (disch := omega) only [Nat.add_assoc, Nat.reduceAdd, Nat.reduceLT, hs_k, hs_s, nb, if_true, if_false, Nat.add_zero]
      · simp [hs_r, e]
  · rw [hs_k (by omega), hs_k (by omega), hs_k (by omega), hs_k (by omega), hs_k (by omega)]
theorem q_copyFrom {F F2 : Nat} {h : kH} (hF : F + 5 < F2 ∨ F2 + 5 < F) : ∃ h', p_X1_copyFrom F F2 h = some h' ∧ (∀ a c, a < 5 → c < 30 → h' (F + 1 + a) c = nb a (h (F2 + 1 + a) c)) ∧ ∀ k, (k < F + 1 ∨ F + 5 < k) → h' k = h k := by
  unfold p_X1_copyFrom
  refine fx_m (fun i (h : kH) => (nI i, h)) (fun i h1 => (∀ a c, a < 5 → c < i → h1 (F + 1 + a) c = nb a (h (F2 + 1 + a) c)) ∧ ∀ k, (k < F + 1 ∨ F + 5 < k) → h1 k = h k) (fun r => ∃ h' : kH, r = some h' ∧ (∀ a c, a < 5 → c < 30 → h' (F + 1 + a) c = nb a (h (F2 + 1 + a) c)) ∧ ∀ k, (k < F + 1 ∨ F + 5 < k) → h' k = h k) 30 (by omega) ⟨fun a c _ hc => absurd hc (by omega), fun _ _ => rfl⟩ ?_ ?_
  · intro i h1 hi ⟨hv, hf⟩ K hK
    obtain ⟨h2, e2, v2, f2⟩ := q_copyCell (F := F) (F2 := F2) (h := h1) hi hi hF
    simp only [p_X1_copyFrom_2, if_neg (nI_ge hi (by omega)), bd_o e2, nI_add]
    refine hK _ ⟨fun a c ha hc => ?_, fun k hk => by rw [f2 k hk, hf k hk]⟩
    rw [v2 a c ha]
    by_cases e : c = i
    · subst e; rw [if_pos rfl, hf _ (by omega)]
    · rw [if_neg e]; exact hv a c ha (by omega)
  · intro h1 ⟨hv, hf⟩ K
    simp only [p_X1_copyFrom_2, if_pos (nI_le (Nat.le_refl 30) (by omega))]
    exact ⟨h1, rfl, hv, hf⟩
theorem q_fill {A : Nat} {x : Int32} {h : kH} : ∃ h', p_J7_fill_53178 A x h = some h' ∧ (∀ c, c < 30 → h' A c = x) ∧ ∀ k, k ≠ A → h' k = h k := by
  unfold p_J7_fill_53178
  refine fx_m (fun i (h : kH) => (x, nI i, nI 30, h)) (fun i h1 => (∀ c, c < i → h1 A c = x) ∧ ∀ k, k ≠ A → h1 k = h k) (fun r => ∃ h' : kH, r = some h' ∧ (∀ c, c < 30 → h' A c = x) ∧ ∀ k, k ≠ A → h' k = h k) 30 (by omega) ⟨fun c hc => absurd hc (by omega), fun _ _ => rfl⟩ ?_ ?_
  · intro i h1 hi ⟨hv, hf⟩ K hK
    simp (disch := omega) only [p_J7_fill_53178_5, if_neg (nI_ge hi (by omega)), gd_i, le_d, nI_clamp, nI_add]
    refine hK _ ⟨fun c hc => ?_, fun k hk => by rw [hs_k hk, hf k hk]⟩
    by_cases e : c = i
    · subst e; rw [hs_s]
    · rw [hs_i e]; exact hv c (by omega)
  · intro h1 ⟨hv, hf⟩ K
    simp only [p_J7_fill_53178_5, if_pos (nI_le (Nat.le_refl 30) (by omega))]
    exact ⟨h1, rfl, hv, hf⟩
/-- heat goes over from c to d -/
def mfl (f : kH) (c d : Nat) (o : Nat → Int32) : Nat → Int32 := upd (upd o c (o c - (f 0 c - f 0 d) / nI 10)) d ((upd o c (o c - (f 0 c - f 0 d) / nI 10)) d + (f 0 c - f 0 d) / nI 10)
/-- of cell c to the right and below -/
def mfl1 (f : kH) (w n : Nat) (c : Nat) (o : Nat → Int32) : Nat → Int32 :=
  if c + w < n then mfl f c (c + w) (if c % w + 1 < w then mfl f c (c + 1) o else o) else (if c % w + 1 < w then mfl f c (c + 1) o else o)
def cO (h : kH) (k n : Nat) (c : Nat) : Int32 := if c < n then h k c else 0
theorem cO_hs {h : kH} {k n c : Nat} {x : Int32} (hc : c < n) : cO (hs h k c x) k n = upd (cO h k n) c x := by
  funext j
  unfold cO
  by_cases e : j = c
  · subst e; rw [if_pos hc, hs_s, pk_us]
  · rw [hs_i e, pk_un e]
theorem cO_at {h : kH} {k n c : Nat} (hc : c < n) : cO h k n c = h k c := if_pos hc
theorem q_flow {F n c d : Nat} {h : kH} (hc : c < n) (hd : d < n) (hn : n ≤ 30) : ∃ h', p_X1_flow F (nI c) (nI d) h = some h' ∧ cO h' (F + 6) n = mfl (cF h F n) c d (cO h (F + 6) n) ∧ ∀ k, k ≠ F + 6 → h' k = h k := by
  simp (disch := omega) only [p_X1_flow, gd_i, le_d, nI_clamp]
  refine ⟨_, rfl, ?_, fun k hk => by rw [hs_k hk, hs_k hk]⟩
  rw [cO_hs hd, cO_hs hc, ← cO_at (h := hs h _ _ _) hd, cO_hs hc, ← cO_at (h := h) hc, mfl, cF_at (a := 0) (by omega) hc, cF_at (a := 0) (by omega) hd]
