/-! the numbers of an item, read by the class -/
def fgf (T : Nat → Int32) : Nat → Nat → Nat
  | _, 0 => 0
  | i, k + 1 => if 48 ≤ (T i).toInt ∧ (T i).toInt ≤ 57 then fgf T (i + 1) k + 1 else 0
theorem fgf_s {T : Nat → Int32} {L : Nat} : ∀ k i, i + k = L → fgs T L i (fgf T i k)
  | 0, i, h => by rw [fgf]; exact ⟨by omega, fun s hs => absurd hs (by omega), fun q => absurd q (by omega)⟩
  | k + 1, i, h => by
    rw [fgf]
    by_cases z : 48 ≤ (T i).toInt ∧ (T i).toInt ≤ 57
    · rw [if_pos z]
      obtain ⟨a, b, c⟩ := fgf_s (T := T) (L := L) k (i + 1) (by omega)
      refine ⟨by omega, fun s hs => ?_, fun q => ?_⟩
      · by_cases e : s = 0
        · subst e; exact z
        · have := b (s - 1) (by omega)
          rw [show i + 1 + (s - 1) = i + s by omega] at this
          exact this
      · have := c (by omega)
        rw [show i + 1 + fgf T (i + 1) k = i + (fgf T (i + 1) k + 1) by omega] at this
        exact this
    · rw [if_neg z]
      exact ⟨by omega, fun s hs => absurd hs (by omega), fun _ => z⟩
def fgL (T : Nat → Int32) (L i : Nat) : Nat := fgf T i (L - i)
theorem fgL_u {T : Nat → Int32} {L i c : Nat} (hi : i ≤ L) (a : fgs T L i c) : c = fgL T L i := fgs_u a (fgf_s (L - i) i (by omega))
theorem fgL_s {T : Nat → Int32} {L i : Nat} (hi : i ≤ L) : fgs T L i (fgL T L i) := fgf_s (L - i) i (by omega)
/-- where number k of the item at i begins -/
def psN (T : Nat → Int32) (L i : Nat) : Nat → Nat
  | 0 => i + 1
  | k + 1 => psN T L i k + fgL T L (psN T L i k) + 1
def vlN (T : Nat → Int32) (L i k : Nat) : Nat := nv T (psN T L i k) (fgL T L (psN T L i k))
/-- number k has one to three figures, and the right sign stands behind it -/
def okN (T : Nat → Int32) (L i N k : Nat) : Prop := (1 ≤ fgL T L (psN T L i k) ∧ fgL T L (psN T L i k) ≤ 3) ∧ psN T L i k + fgL T L (psN T L i k) < L ∧ T (psN T L i k + fgL T L (psN T L i k)) = if N ≤ k + 1 then nI 59 else nI 44
def rgN (T : Nat → Int32) (L i : Nat) (b : List Int32) (k : Nat) : Prop := ¬ nI (vlN T L i k) < b.getD (2 * k) 0 ∧ nI (vlN T L i k) ≤ b.getD (2 * k + 1) 0
def bI (x : Int32) : Nat := if x = nI 99 then 1 else if x = nI 100 then 7 else if x = nI 104 then 6 else if x = nI 107 then 4 else if x = nI 108 then 5 else if x = nI 111 then 2 else if x = nI 112 then 3 else if x = nI 115 then 2 else if x = nI 118 then 8 else if x = nI 119 then 0 else 9
section
variable {h : kH}
theorem q_boundsOf {x : Int32} : p_X3_boundsOf x h = some (bI x, h) := by
  unfold p_X3_boundsOf bI
  repeat' split
  all_goals rfl
theorem bI_lt {x : Int32} : bI x < 10 := by
  unfold bI
  repeat' split
  all_goals omega
theorem bI_len {x : Int32} : (k_sl (bI x)).length = 2 * ((k_sl (bI x)).length / 2) ∧ (k_sl (bI x)).length / 2 ≤ 6 := by
  have : ∀ j, j < 10 → (k_sl j).length = 2 * ((k_sl j).length / 2) ∧ (k_sl j).length / 2 ≤ 6 := by decide
  exact this _ bI_lt
theorem q_readNumbers {i L : Nat} (hi : i < L) (hL : L ≤ 500) : ∃ r h', p_X3_readNumbers 1 (nI i) (nI L) h = some (r, h') ∧ (∀ k, k ≠ 27 → h' k = h k) ∧ ((1 ≤ (k_sl (bI (h 1 i))).length / 2 ∧ (∀ k, k < (k_sl (bI (h 1 i))).length / 2 → okN (h 1) L i ((k_sl (bI (h 1 i))).length / 2) k ∧ rgN (h 1) L i (k_sl (bI (h 1 i))) k) ∧ r = nI (psN (h 1) L i ((k_sl (bI (h 1 i))).length / 2)) ∧ (psN (h 1) L i ((k_sl (bI (h 1 i))).length / 2) ≤ L) ∧ ∀ k, k < (k_sl (bI (h 1 i))).length / 2 → h' 27 k = nI (vlN (h 1) L i k)) ∨ (¬ (1 ≤ (k_sl (bI (h 1 i))).length / 2 ∧ ∀ k, k < (k_sl (bI (h 1 i))).length / 2 → okN (h 1) L i ((k_sl (bI (h 1 i))).length / 2) k ∧ rgN (h 1) L i (k_sl (bI (h 1 i))) k) ∧ r = -4)) := by
  obtain ⟨l1, l2⟩ := bI_len (x := h 1 i)
  have l3 := bI_lt (x := h 1 i)
  unfold p_X3_readNumbers
  rw [gd_i (by omega) (by omega), nI_clamp (by omega), q_boundsOf, bd2_s, gd_t (decide_eq_true l3), le_d, show Int32.ofNat (k_sl (bI (h 1 i))).length = nI (k_sl (bI (h 1 i))).length from rfl, pk_div (by omega) (by omega) (by omega)]
  generalize hb : k_sl (bI (h 1 i)) = b at *
  generalize hN : b.length / 2 = N at *
  by_cases z0 : 1 ≤ N
  · rw [if_neg (nI_nlt z0 (by omega)), if_pos (nI_le l2 (by omega)), nI_add]
    refine fx_m (fun k (a : kH) => (nI L, bI (h 1 i), nI N, nI (psN (h 1) L i k), nI k, a)) (fun k a => (∀ t, t < k → (okN (h 1) L i N t ∧ rgN (h 1) L i b t) ∧ a 27 t = nI (vlN (h 1) L i t)) ∧ psN (h 1) L i k ≤ L ∧ ∀ q, q ≠ 27 → a q = h q) (fun o => ∃ (r : Int32) (h' : kH), o = some (r, h') ∧ (∀ k, k ≠ 27 → h' k = h k) ∧ ((1 ≤ N ∧ (∀ k, k < N → okN (h 1) L i N k ∧ rgN (h 1) L i b k) ∧ r = nI (psN (h 1) L i N) ∧ psN (h 1) L i N ≤ L ∧ ∀ k, k < N → h' 27 k = nI (vlN (h 1) L i k)) ∨ (¬ (1 ≤ N ∧ ∀ k, k < N → okN (h 1) L i N k ∧ rgN (h 1) L i b k) ∧ r = -4))) N (by omega) ⟨fun t ht => absurd ht (by omega), by rw [psN]; omega, fun _ _ => rfl⟩ ?_ ?_
    · rintro k a hk ⟨hd, hps, ha⟩ K hK
      have a1 : a 1 = h 1 := ha 1 (by omega)
      obtain ⟨c, ec, fc⟩ := q_figs (h := a) hps hL
      rw [a1] at fc
      have hc := fgL_u hps fc
      subst hc
      have bad : ∀ a' : kH, (∀ q, q ≠ 27 → a' q = h q) → ¬ (okN (h 1) L i N k ∧ rgN (h 1) L i b k) → ∃ (r : Int32) (h' : kH), some ((-4 : Int32), a') = some (r, h') ∧ (∀ k, k ≠ 27 → h' k = h k) ∧ ((1 ≤ N ∧ (∀ k, k < N → okN (h 1) L i N k ∧ rgN (h 1) L i b k) ∧ r = nI (psN (h 1) L i N) ∧ psN (h 1) L i N ≤ L ∧ ∀ k, k < N → h' 27 k = nI (vlN (h 1) L i k)) ∨ (¬ (1 ≤ N ∧ ∀ k, k < N → okN (h 1) L i N k ∧ rgN (h 1) L i b k) ∧ r = -4)) :=
        fun a' f n => ⟨-4, a', rfl, f, Or.inr ⟨fun q => n (q.2 k hk), rfl⟩⟩
      have cl := fc.1
      dsimp only
      rw [p_X3_readNumbers_39, if_neg (nI_ge hk (by omega)), ec, bd2_s, le_d, nI_add]
      by_cases y1 : 1 ≤ fgL (h 1) L (psN (h 1) L i k)
      · rw [if_neg (nI_nlt y1 (by omega))]
        by_cases y2 : fgL (h 1) L (psN (h 1) L i k) ≤ 3
        · rw [if_neg (nI_nlt y2 (by omega))]
          by_cases y3 : psN (h 1) L i k + fgL (h 1) L (psN (h 1) L i k) < L
          · rw [if_pos (nI_lt y3 (by omega)), q_num (h := a) y2 (by omega) (by rw [a1]; exact fc.2.1), bd2_s, a1]
            rw [hb, pk_mul, nI_add, gd_i (by omega) (by omega), gd_t (decide_eq_true l3), nI_clamp (by omega), gd_i (by omega) (by omega), nI_clamp (by omega)]
            by_cases y4 : nI (vlN (h 1) L i k) < b.getD (2 * k) 0
            · rw [if_pos (show nI (nv (h 1) (psN (h 1) L i k) (fgL (h 1) L (psN (h 1) L i k))) < b.getD (2 * k) 0 from y4)]
              exact bad a ha (fun q => q.2.1 y4)
            · rw [if_neg (show ¬ nI (nv (h 1) (psN (h 1) L i k) (fgL (h 1) L (psN (h 1) L i k))) < b.getD (2 * k) 0 from y4)]
              by_cases y5 : nI (vlN (h 1) L i k) ≤ b.getD (2 * k + 1) 0
              · rw [if_pos (show nI (nv (h 1) (psN (h 1) L i k) (fgL (h 1) L (psN (h 1) L i k))) ≤ b.getD (2 * k + 1) 0 from y5), gd_i (by omega) (by omega), nI_clamp (by omega), nI_add]
                have fin : ∀ s : Int32, (s = if N ≤ k + 1 then nI 59 else nI 44) → ∃ (r : Int32) (h' : kH), p_X3_readNumbers_142 K 1 (nI L) (bI (h 1 i)) (nI N) (nI k) (nI (psN (h 1) L i k + fgL (h 1) L (psN (h 1) L i k))) (nI (nv (h 1) (psN (h 1) L i k) (fgL (h 1) L (psN (h 1) L i k)))) s (h 1 (psN (h 1) L i k + fgL (h 1) L (psN (h 1) L i k))) a = some (r, h') ∧ (∀ k, k ≠ 27 → h' k = h k) ∧ ((1 ≤ N ∧ (∀ k, k < N → okN (h 1) L i N k ∧ rgN (h 1) L i b k) ∧ r = nI (psN (h 1) L i N) ∧ psN (h 1) L i N ≤ L ∧ ∀ k, k < N → h' 27 k = nI (vlN (h 1) L i k)) ∨ (¬ (1 ≤ N ∧ ∀ k, k < N → okN (h 1) L i N k ∧ rgN (h 1) L i b k) ∧ r = -4)) := by
                  intro s hs'
                  rw [p_X3_readNumbers_142]
                  by_cases y6 : h 1 (psN (h 1) L i k + fgL (h 1) L (psN (h 1) L i k)) = s
                  · rw [if_pos y6, gd_i (by omega) (by omega), nI_clamp (by omega), le_d, nI_add, nI_add]
                    refine hK (hs a 27 k (nI (vlN (h 1) L i k))) ⟨fun t ht => ?_, by rw [psN]; omega, fun q hq => by rw [hs_k hq]; exact ha q hq⟩
                    by_cases e : t = k
                    · subst e
                      exact ⟨⟨⟨⟨y1, y2⟩, y3, by rw [y6, hs']⟩, y4, y5⟩, hs_s _ _ _ _⟩
                    · rw [hs_i e]; exact hd t (by omega)
                  · rw [if_neg y6]
                    exact bad a ha (fun q => y6 (by rw [q.1.2.2, hs']))
                by_cases y7 : N ≤ k + 1
                · rw [if_pos (nI_le y7 (by omega))]; exact fin (nI 59) (by rw [if_pos y7])
                · rw [if_neg (nI_ge (show k + 1 < N by omega) (by omega))]; exact fin (nI 44) (by rw [if_neg y7])
              · rw [if_neg (show ¬ nI (nv (h 1) (psN (h 1) L i k) (fgL (h 1) L (psN (h 1) L i k))) ≤ b.getD (2 * k + 1) 0 from y5)]
                exact bad a ha (fun q => y5 q.2.2)
          · rw [if_neg (nI_nlt (by omega) (by omega))]
            exact bad a ha (fun q => y3 q.1.2.1)
        · rw [if_pos (nI_lt (by omega) (by omega))]
          exact bad a ha (fun q => y2 q.1.1.2)
      · rw [if_pos (nI_lt (by omega) (by omega))]
        exact bad a ha (fun q => y1 q.1.1.1)
    · rintro a ⟨hd, hps, ha⟩ K
      dsimp only
      rw [p_X3_readNumbers_39, if_pos (nI_le (Nat.le_refl N) (by omega))]
      exact ⟨_, a, rfl, ha, Or.inl ⟨z0, fun k hk => (hd k hk).1, rfl, hps, fun k hk => (hd k hk).2⟩⟩
  · rw [if_pos (nI_lt (by omega) (by omega))]
    exact ⟨-4, h, rfl, fun _ _ => rfl, Or.inr ⟨fun q => z0 q.1, rfl⟩⟩
end
