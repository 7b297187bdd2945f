/-! figures and numbers, as both sides read them -/
def fig (x : Int32) : Prop := 48 ≤ x.toInt ∧ x.toInt ≤ 57
/-- c figures from i on, and no more -/
def fgs (T : Nat → Int32) (L i c : Nat) : Prop := i + c ≤ L ∧ (∀ s, s < c → fig (T (i + s))) ∧ (i + c < L → ¬ fig (T (i + c)))
theorem fgs_u {T : Nat → Int32} {L i c c' : Nat} (a : fgs T L i c) (b : fgs T L i c') : c = c' := by
  by_cases h1 : c < c'
  · exact absurd (b.2.1 c h1) (a.2.2 (by have := b.1; omega))
  · by_cases h2 : c' < c
    · exact absurd (a.2.1 c' h2) (b.2.2 (by have := a.1; omega))
    · omega
def fv (x : Int32) : Nat := (x.toInt - 48).toNat
def nv (T : Nat → Int32) (i : Nat) : Nat → Nat
  | 0 => 0
  | c + 1 => 10 * nv T i c + fv (T (i + c))
theorem fig_n {x : Int32} (h : fig x) : x = nI (48 + fv x) ∧ fv x ≤ 9 := by
  unfold fig at h
  unfold fv
  exact ⟨Int32.toInt_inj.mp (by rw [nI_toInt (by omega)]; omega), by omega⟩
theorem nv_le {T : Nat → Int32} {i : Nat} : ∀ c, (∀ s, s < c → fig (T (i + s))) → c ≤ 3 → nv T i c ≤ 999 ∧ (c ≤ 2 → nv T i c ≤ 99) ∧ (c ≤ 1 → nv T i c ≤ 9) ∧ (c = 0 → nv T i c = 0)
  | 0, _, _ => ⟨by rw [nv]; omega, fun _ => by rw [nv]; omega, fun _ => by rw [nv]; omega, fun _ => rfl⟩
  | c + 1, h, hc => by
    have a := nv_le c (fun s hs => h s (by omega)) (by omega)
    have b := (fig_n (h c (by omega))).2
    rw [nv]
    refine ⟨?_, fun q => ?_, fun q => ?_, fun q => absurd q (by omega)⟩
    · have := a.2.1 (by omega); omega
    · have := a.2.2.1 (by omega); omega
    · have := a.2.2.2 (by omega); omega
section
variable {h : kH}
theorem q_figs {i L : Nat} (hi : i ≤ L) (hL : L ≤ 500) : ∃ c, p_X3_countFigures 1 (nI i) (nI L) h = some (nI c, h) ∧ fgs (h 1) L i c := by
  unfold p_X3_countFigures
  refine fx_m (fun t (a : kH) => (nI L, nI t, nI (i + t), a)) (fun t a => a = h ∧ ∀ s, s < t → fig (h 1 (i + s))) (fun r => ∃ c, r = some (nI c, h) ∧ fgs (h 1) L i c) (L - i) (by omega) ⟨rfl, fun s hs => absurd hs (by omega)⟩ ?_ ?_
  · rintro t a ht ⟨rfl, hf⟩ K hK
    simp (disch := omega) only [p_X3_countFigures_5, if_neg (nI_ge (show i + t < L by omega) (show L < 2 ^ 31 by omega)), gd_i, nI_clamp, nI_add]
    by_cases z1 : a 1 (i + t) < nI 48
    · rw [if_pos z1]
      exact ⟨t, rfl, by omega, hf, fun _ q => by rw [lt_n (by omega)] at z1; have := q.1; omega⟩
    · rw [if_neg z1]
      by_cases z2 : a 1 (i + t) ≤ nI 57
      · rw [if_pos z2]
        refine hK a ⟨rfl, fun s hs => ?_⟩
        by_cases e : s = t
        · subst e
          rw [lt_n (by omega)] at z1
          rw [le_n (by omega)] at z2
          exact ⟨by omega, z2⟩
        · exact hf s (by omega)
      · rw [if_neg z2]
        exact ⟨t, rfl, by omega, hf, fun _ q => by rw [le_n (by omega)] at z2; have := q.2; omega⟩
  · rintro a ⟨rfl, hf⟩ K
    dsimp only
    rw [show i + (L - i) = L by omega]
    simp only [p_X3_countFigures_5, if_pos (nI_le (Nat.le_refl L) (show L < 2 ^ 31 by omega))]
    exact ⟨L - i, rfl, by omega, hf, fun q => absurd q (by omega)⟩
theorem nv_s {x : Int32} {a : Nat} (hx : fig x) : nI 10 * nI a + (x - nI 48) = nI (10 * a + fv x) := by
  obtain ⟨e, -⟩ := fig_n hx
  have : x - nI 48 = nI (fv x) := by
    rw [e, pk_sub (by omega)]
    congr 1
    rw [← e]; omega
  rw [this, pk_mul, nI_add]
theorem nv_s' {x : Int32} {a : Nat} (hx : fig x) : nI 10 * nI a + x - nI 48 = nI (10 * a + fv x) := by
  obtain ⟨e, -⟩ := fig_n hx
  rw [pk_mul]
  have : nI (10 * a) + x = nI (10 * a + (48 + fv x)) := by
    rw [← nI_add, ← e]
  rw [this, pk_sub (by omega)]
  congr 1
  omega
theorem q_num {i c : Nat} (hc : c ≤ 3) (hi : i + c ≤ 500) (hf : ∀ s, s < c → fig (h 1 (i + s))) : p_X3_numberOf 1 (nI i) (nI (i + c)) h = some (nI (nv (h 1) i c), h) := by
  unfold p_X3_numberOf
  refine fx_m (fun t (a : kH) => (nI (i + c), nI (nv (h 1) i t), nI (i + t), a)) (fun t a => a = h) (fun r => r = some (nI (nv (h 1) i c), h)) c (by omega) rfl ?_ ?_
  · rintro t a ht rfl K hK
    simp (disch := omega) only [p_X3_numberOf_5, if_neg (nI_ge (show i + t < i + c by omega) (show i + c < 2 ^ 31 by omega)), gd_i, nI_clamp, nI_add, nv_s (hf t ht), le_d]
    exact hK a rfl
  · rintro a rfl K
    simp only [p_X3_numberOf_5, if_pos (nI_le (Nat.le_refl (i + c)) (show i + c < 2 ^ 31 by omega))]
end
