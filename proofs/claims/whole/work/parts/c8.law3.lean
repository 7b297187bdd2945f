/-! the law answers 1 -/
def okL (o : Option (Int32 × kH)) : Prop := ∃ h' : kH, o = some (nI 1, h')
section
variable {h : kH} {K : Int32 × kH → Option (Int32 × kH)} {L t : Nat} {xs : Nat → Int32}
theorem cs_L {P R : kH → Option (Int32 × kH)} {y : Int32} (o : Oop P R h) (hK : ∀ h2, Sim h2 → okL (K (y, h2))) : okL (bd2 (P h) fun v h6 => bd2 (R h6) fun v2 h9 => if v = v2 then K (y, h9) else some ((nI 0), h9)) := by
  obtain ⟨r, h1, h2, e1, e2, s⟩ := o
  rw [e1, bd2_s, e2, bd2_s, if_pos rfl]
  exact hK h2 s
theorem lc_160 (hL : 5 * t + 5 ≤ L) (hL2 : L ≤ 2560) (s : Sim h) (hK : ∀ h2, Sim h2 → okL (K (nI (5 * t + 5), h2))) : okL (p_L_law_160 K L xs (nI (5 * t)) h) := by
  obtain ⟨w, g, n, m, ru, f, p, go, c, d, ds, rs⟩ := s
  simp (disch := omega) only [p_L_law_160, nI_add, gd_i, nI_clamp]
  exact cs_L (op_write c d ds rs _ _) hK
theorem lc_223 (hL : 5 * t + 5 ≤ L) (hL2 : L ≤ 2560) (s : Sim h) (hK : ∀ h2, Sim h2 → okL (K (nI (5 * t + 5), h2))) : okL (p_L_law_223 K L xs (nI (5 * t)) h) := by
  obtain ⟨w, g, n, m, ru, f, p, go, c, d, ds, rs⟩ := s
  simp (disch := omega) only [p_L_law_223, nI_add, gd_i, nI_clamp]
  exact cs_L (op_wipe c d ds rs ) hK
theorem lc_236 (hL : 5 * t + 5 ≤ L) (hL2 : L ≤ 2560) (s : Sim h) (hK : ∀ h2, Sim h2 → okL (K (nI (5 * t + 5), h2))) : okL (p_L_law_236 K L xs (nI (5 * t)) h) := by
  obtain ⟨w, g, n, m, ru, f, p, go, c, d, ds, rs⟩ := s
  simp (disch := omega) only [p_L_law_236, nI_add, gd_i, nI_clamp]
  exact cs_L (op_fault c d ds rs ) hK
theorem lc_249 (hL : 5 * t + 5 ≤ L) (hL2 : L ≤ 2560) (s : Sim h) (hK : ∀ h2, Sim h2 → okL (K (nI (5 * t + 5), h2))) : okL (p_L_law_249 K L xs (nI (5 * t)) h) := by
  obtain ⟨w, g, n, m, ru, f, p, go, c, d, ds, rs⟩ := s
  simp (disch := omega) only [p_L_law_249, nI_add, gd_i, nI_clamp]
  exact cs_L (op_lay c d ds rs ) hK
theorem lc_262 (hL : 5 * t + 5 ≤ L) (hL2 : L ≤ 2560) (s : Sim h) (hK : ∀ h2, Sim h2 → okL (K (nI (5 * t + 5), h2))) : okL (p_L_law_262 K L xs (nI (5 * t)) h) := by
  obtain ⟨w, g, n, m, ru, f, p, go, c, d, ds, rs⟩ := s
  simp (disch := omega) only [p_L_law_262, nI_add, gd_i, nI_clamp]
  exact cs_L (op_cell c d ds rs _ _) hK
theorem lc_295 (hL : 5 * t + 5 ≤ L) (hL2 : L ≤ 2560) (s : Sim h) (hK : ∀ h2, Sim h2 → okL (K (nI (5 * t + 5), h2))) : okL (p_L_law_295 K L xs (nI (5 * t)) h) := by
  obtain ⟨w, g, n, m, ru, f, p, go, c, d, ds, rs⟩ := s
  simp (disch := omega) only [p_L_law_295, nI_add, gd_i, nI_clamp]
  exact cs_L (op_pot c d ds rs _ _) hK
theorem lc_328 (hL : 5 * t + 5 ≤ L) (hL2 : L ≤ 2560) (s : Sim h) (hK : ∀ h2, Sim h2 → okL (K (nI (5 * t + 5), h2))) : okL (p_L_law_328 K L xs (nI (5 * t)) h) := by
  obtain ⟨w, g, n, m, ru, f, p, go, c, d, ds, rs⟩ := s
  simp (disch := omega) only [p_L_law_328, nI_add, gd_i, nI_clamp]
  exact cs_L (op_minute c d ds rs _) hK
theorem lc_351 (hL : 5 * t + 5 ≤ L) (hL2 : L ≤ 2560) (s : Sim h) (hK : ∀ h2, Sim h2 → okL (K (nI (5 * t + 5), h2))) : okL (p_L_law_351 K L xs (nI (5 * t)) h) := by
  obtain ⟨w, g, n, m, ru, f, p, go, c, d, ds, rs⟩ := s
  simp (disch := omega) only [p_L_law_351, nI_add, gd_i, nI_clamp]
  exact cs_L (op_fuel c d ds rs _ _) hK
theorem lc_384 (hL : 5 * t + 5 ≤ L) (hL2 : L ≤ 2560) (s : Sim h) (hK : ∀ h2, Sim h2 → okL (K (nI (5 * t + 5), h2))) : okL (p_L_law_384 K L xs (nI (5 * t)) h) := by
  obtain ⟨w, g, n, m, ru, f, p, go, c, d, ds, rs⟩ := s
  simp (disch := omega) only [p_L_law_384, p_L_law_403, p_L_law_425, nI_add, gd_i, nI_clamp]
  by_cases z : xs (5 * t + 2) = 0
  · simp only [if_pos z]
    exact cs_L (op_cover c d ds rs _ (nI 0) (bt_n (Nat.le_refl 0) (by omega))) hK
  · simp only [if_neg z]
    exact cs_L (op_cover c d ds rs _ (nI 1) (bt_n (Nat.zero_le 1) (Nat.le_refl 1))) hK
theorem lc_433 (hL : 5 * t + 5 ≤ L) (hL2 : L ≤ 2560) (s : Sim h) (hK : ∀ h2, Sim h2 → okL (K (nI (5 * t + 5), h2))) : okL (p_L_law_433 K L xs (nI (5 * t)) h) := by
  obtain ⟨w, g, n, m, ru, f, p, go, c, d, ds, rs⟩ := s
  simp (disch := omega) only [p_L_law_433, nI_add, gd_i, nI_clamp]
  exact cs_L (op_light c d ds rs _) hK
theorem lc_456 (hL : 5 * t + 5 ≤ L) (hL2 : L ≤ 2560) (s : Sim h) (hK : ∀ h2, Sim h2 → okL (K (nI (5 * t + 5), h2))) : okL (p_L_law_456 K L xs (nI (5 * t)) h) := by
  obtain ⟨w, g, n, m, ru, f, p, go, c, d, ds, rs⟩ := s
  simp (disch := omega) only [p_L_law_456, nI_add, gd_i, nI_clamp]
  exact cs_L (op_take c d ds rs _) hK
theorem lc_479 (hL : 5 * t + 5 ≤ L) (hL2 : L ≤ 2560) (s : Sim h) (hK : ∀ h2, Sim h2 → okL (K (nI (5 * t + 5), h2))) : okL (p_L_law_479 K L xs (nI (5 * t)) h) := by
  obtain ⟨w, g, n, m, ru, f, p, go, c, d, ds, rs⟩ := s
  simp (disch := omega) only [p_L_law_479, nI_add, gd_i, nI_clamp]
  exact cs_L (op_dry c d ds rs _) hK
theorem lc_502 (hL : 5 * t + 5 ≤ L) (hL2 : L ≤ 2560) (s : Sim h) (hK : ∀ h2, Sim h2 → okL (K (nI (5 * t + 5), h2))) : okL (p_L_law_502 K L xs (nI (5 * t)) h) := by
  obtain ⟨w, g, n, m, ru, f, p, go, c, d, ds, rs⟩ := s
  simp (disch := omega) only [p_L_law_502, nI_add, gd_i, nI_clamp]
  exact cs_L (Sim.q c d ds rs (op_run c d _ _ _)) hK
theorem lc_545 (hL : 5 * t + 5 ≤ L) (hL2 : L ≤ 2560) (s : Sim h) (hK : ∀ h2, Sim h2 → okL (K (nI (5 * t + 5), h2))) : okL (p_L_law_545 K L xs (nI (5 * t)) h) := by
  obtain ⟨w, g, n, m, ru, f, p, go, c, d, ds, rs⟩ := s
  simp (disch := omega) only [p_L_law_545, nI_add, gd_i, nI_clamp]
  exact cs_L (Sim.q c d ds rs (op_of c d _ _ _ _)) hK
theorem lc_598 (hL : 5 * t + 5 ≤ L) (hL2 : L ≤ 2560) (s : Sim h) (hK : ∀ h2, Sim h2 → okL (K (nI (5 * t + 5), h2))) : okL (p_L_law_598 K L xs (nI (5 * t)) h) := by
  obtain ⟨w, g, n, m, ru, f, p, go, c, d, ds, rs⟩ := s
  simp (disch := omega) only [p_L_law_598, nI_add, gd_i, nI_clamp]
  exact cs_L (Sim.q c d ds rs (op_drying c d _ _)) hK
theorem lc_631 (hL : 5 * t + 5 ≤ L) (hL2 : L ≤ 2560) (s : Sim h) (hK : ∀ h2, Sim h2 → okL (K (nI (5 * t + 5), h2))) : okL (p_L_law_631 K L xs (nI (5 * t)) h) := by
  obtain ⟨w, g, n, m, ru, f, p, go, c, d, ds, rs⟩ := s
  simp (disch := omega) only [p_L_law_631, nI_add, gd_i, nI_clamp]
  exact cs_L (Sim.q c d ds rs (op_grit c d _ _ _)) hK
theorem lc_674 (hL : 5 * t + 5 ≤ L) (hL2 : L ≤ 2560) (s : Sim h) (hK : ∀ h2, Sim h2 → okL (K (nI (5 * t + 5), h2))) : okL (p_L_law_674 K L xs (nI (5 * t)) h) := by
  obtain ⟨w, g, n, m, ru, f, p, go, c, d, ds, rs⟩ := s
  simp (disch := omega) only [p_L_law_674, nI_add, gd_i, nI_clamp]
  exact cs_L (Sim.q c d ds rs (op_enough c d _ _ _)) hK
theorem lc_717 (hL : 5 * t + 5 ≤ L) (hL2 : L ≤ 2560) (s : Sim h) (hK : ∀ h2, Sim h2 → okL (K (nI (5 * t + 5), h2))) : okL (p_L_law_717 K L xs (nI (5 * t)) h) := by
  obtain ⟨w, g, n, m, ru, f, p, go, c, d, ds, rs⟩ := s
  simp (disch := omega) only [p_L_law_717, nI_add, gd_i, nI_clamp]
  exact cs_L (op_spot c d ds rs _) hK
theorem lc_740 (hL : 5 * t + 5 ≤ L) (hL2 : L ≤ 2560) (s : Sim h) (hK : ∀ h2, Sim h2 → okL (K (nI (5 * t + 5), h2))) : okL (p_L_law_740 K L xs (nI (5 * t)) h) := by
  obtain ⟨w, g, n, m, ru, f, p, go, c, d, ds, rs⟩ := s
  simp (disch := omega) only [p_L_law_740, nI_add, gd_i, nI_clamp]
  exact cs_L (op_noSpots c d ds rs ) hK
theorem lc_753 (hL : 5 * t + 5 ≤ L) (hL2 : L ≤ 2560) (s : Sim h) (hK : ∀ h2, Sim h2 → okL (K (nI (5 * t + 5), h2))) : okL (p_L_law_753 K L xs (nI (5 * t)) h) := by
  obtain ⟨w, g, n, m, ru, f, p, go, c, d, ds, rs⟩ := s
  simp (disch := omega) only [p_L_law_753, nI_add, gd_i, nI_clamp]
  obtain ⟨S, a1, a2, a3, a4, a5, a6⟩ := rs.1
  exact cs_L (Sim.q c d ds rs (op_lies (sp := h 131) c d a1 a2 a3 (fun _ _ => rfl) a4 a5 a6 ds _ _ _ _)) hK
theorem lc_806 (hL : 5 * t + 5 ≤ L) (hL2 : L ≤ 2560) (s : Sim h) (hK : ∀ h2, Sim h2 → okL (K (nI (5 * t + 5), h2))) : okL (p_L_law_806 K L xs (nI (5 * t)) h) := by
  obtain ⟨w, g, n, m, ru, f, p, go, c, d, ds, rs⟩ := s
  simp (disch := omega) only [p_L_law_806, nI_add, gd_i, nI_clamp]
  exact cs_L (Sim.q c d ds rs (op_rake c d _ _)) hK
theorem lc_839 (hL : 5 * t + 5 ≤ L) (hL2 : L ≤ 2560) (s : Sim h) (hK : ∀ h2, Sim h2 → okL (K (nI (5 * t + 5), h2))) : okL (p_L_law_839 K L xs (nI (5 * t)) h) := by
  obtain ⟨w, g, n, m, ru, f, p, go, c, d, ds, rs⟩ := s
  simp (disch := omega) only [p_L_law_839, nI_add, gd_i, nI_clamp]
  exact cs_L (Sim.q c d ds rs (op_black c d _ _ _)) hK
theorem lc_882 (hL : 5 * t + 5 ≤ L) (hL2 : L ≤ 2560) (s : Sim h) (hK : ∀ h2, Sim h2 → okL (K (nI (5 * t + 5), h2))) : okL (p_L_law_882 K L xs (nI (5 * t)) h) := by
  obtain ⟨w, g, n, m, ru, f, p, go, c, d, ds, rs⟩ := s
  simp (disch := omega) only [p_L_law_882, nI_add, gd_i, nI_clamp]
  exact cs_L (Sim.q c d ds rs (op_evening c d _ _)) hK
theorem lc_915 (hL : 5 * t + 5 ≤ L) (hL2 : L ≤ 2560) (s : Sim h) (hK : ∀ h2, Sim h2 → okL (K (nI (5 * t + 5), h2))) : okL (p_L_law_915 K L xs (nI (5 * t)) h) := by
  obtain ⟨w, g, n, m, ru, f, p, go, c, d, ds, rs⟩ := s
  simp (disch := omega) only [p_L_law_915, nI_add, gd_i, nI_clamp]
  exact cs_L (Sim.q c d ds rs (op_ten c d _ _ _)) hK
theorem lc_958 (hL : 5 * t + 5 ≤ L) (hL2 : L ≤ 2560) (s : Sim h) (hK : ∀ h2, Sim h2 → okL (K (nI (5 * t + 5), h2))) : okL (p_L_law_958 K L xs (nI (5 * t)) h) := by
  obtain ⟨w, g, n, m, ru, f, p, go, c, d, ds, rs⟩ := s
  simp (disch := omega) only [p_L_law_958, nI_add, gd_i, nI_clamp]
  exact cs_L (Sim.q c d ds rs (op_sherd c d _ _ _ _)) hK
theorem lc_1011 (hL : 5 * t + 5 ≤ L) (hL2 : L ≤ 2560) (s : Sim h) (hK : ∀ h2, Sim h2 → okL (K (nI (5 * t + 5), h2))) : okL (p_L_law_1011 K L xs (nI (5 * t)) h) := by
  obtain ⟨w, g, n, m, ru, f, p, go, c, d, ds, rs⟩ := s
  simp (disch := omega) only [p_L_law_1011, nI_add, gd_i, nI_clamp]
  exact cs_L (op_keep c d ds rs ) hK
theorem lc_1024 (hL : 5 * t + 5 ≤ L) (hL2 : L ≤ 2560) (s : Sim h) (hK : ∀ h2, Sim h2 → okL (K (nI (5 * t + 5), h2))) : okL (p_L_law_1024 K L xs (nI (5 * t)) h) := by
  obtain ⟨w, g, n, m, ru, f, p, go, c, d, ds, rs⟩ := s
  simp (disch := omega) only [p_L_law_1024, nI_add, gd_i, nI_clamp]
  exact cs_L (op_back c d ds rs ) hK
theorem lc_1037 (hL : 5 * t + 5 ≤ L) (hL2 : L ≤ 2560) (s : Sim h) (hK : ∀ h2, Sim h2 → okL (K (nI (5 * t + 5), h2))) : okL (p_L_law_1037 K L xs (nI (5 * t)) h) := by
  obtain ⟨w, g, n, m, ru, f, p, go, c, d, ds, rs⟩ := s
  simp (disch := omega) only [p_L_law_1037, nI_add, gd_i, nI_clamp]
  exact cs_L (op_count c d ds rs _) hK
theorem law_ok (hL2 : L ≤ 2560) (s : Sim h) : ∃ h0, fx (fun K18 s => p_L_law_18 K18 L xs s.1 s.2) FU ((nI 0), h) = some (nI 1, h0) := by
  refine fx_m (fun t (a : kH) => (nI (5 * t), a)) (fun _ a => Sim a) okL (L / 5) (by omega) s ?_ ?_
  · intro t a ht s K hK
    have hL : 5 * t + 5 ≤ L := by omega
    have hK : ∀ h2, Sim h2 → okL (K (nI (5 * t + 5), h2)) := hK
    dsimp only
    rw [p_L_law_18, show Int32.ofNat L = nI L from rfl, pk_sub (by omega), if_neg (nI_nlt (by omega) (by omega)), gd_i (by omega) (by omega), nI_clamp (by omega), le_d]
    generalize (xs (5 * t) &&& nI 31) = v
    by_cases z0 : v = nI 0
    · rw [if_pos z0]; exact lc_160 hL hL2 s hK
    rw [if_neg z0]
    by_cases z1 : v = nI 1
    · rw [if_pos z1]; exact lc_223 hL hL2 s hK
    rw [if_neg z1]
    by_cases z2 : v = nI 2
    · rw [if_pos z2]; exact lc_236 hL hL2 s hK
    rw [if_neg z2]
    by_cases z3 : v = nI 3
    · rw [if_pos z3]; exact lc_249 hL hL2 s hK
    rw [if_neg z3]
    by_cases z4 : v = nI 4
    · rw [if_pos z4]; exact lc_262 hL hL2 s hK
    rw [if_neg z4]
    by_cases z5 : v = nI 5
    · rw [if_pos z5]; exact lc_295 hL hL2 s hK
    rw [if_neg z5]
    by_cases z6 : v = nI 6
    · rw [if_pos z6]; exact lc_328 hL hL2 s hK
    rw [if_neg z6]
    by_cases z7 : v = nI 7
    · rw [if_pos z7]; exact lc_351 hL hL2 s hK
    rw [if_neg z7]
    by_cases z8 : v = nI 8
    · rw [if_pos z8]; exact lc_384 hL hL2 s hK
    rw [if_neg z8]
    by_cases z9 : v = nI 9
    · rw [if_pos z9]; exact lc_433 hL hL2 s hK
    rw [if_neg z9]
    by_cases z10 : v = nI 10
    · rw [if_pos z10]; exact lc_456 hL hL2 s hK
    rw [if_neg z10]
    by_cases z11 : v = nI 11
    · rw [if_pos z11]; exact lc_479 hL hL2 s hK
    rw [if_neg z11]
    by_cases z12 : v = nI 12
    · rw [if_pos z12]; exact lc_502 hL hL2 s hK
    rw [if_neg z12]
    by_cases z13 : v = nI 13
    · rw [if_pos z13]; exact lc_545 hL hL2 s hK
    rw [if_neg z13]
    by_cases z14 : v = nI 14
    · rw [if_pos z14]; exact lc_598 hL hL2 s hK
    rw [if_neg z14]
    by_cases z15 : v = nI 15
    · rw [if_pos z15]; exact lc_631 hL hL2 s hK
    rw [if_neg z15]
    by_cases z16 : v = nI 16
    · rw [if_pos z16]; exact lc_674 hL hL2 s hK
    rw [if_neg z16]
    by_cases z17 : v = nI 17
    · rw [if_pos z17]; exact lc_717 hL hL2 s hK
    rw [if_neg z17]
    by_cases z18 : v = nI 18
    · rw [if_pos z18]; exact lc_740 hL hL2 s hK
    rw [if_neg z18]
    by_cases z19 : v = nI 19
    · rw [if_pos z19]; exact lc_753 hL hL2 s hK
    rw [if_neg z19]
    by_cases z20 : v = nI 20
    · rw [if_pos z20]; exact lc_806 hL hL2 s hK
    rw [if_neg z20]
    by_cases z21 : v = nI 21
    · rw [if_pos z21]; exact lc_839 hL hL2 s hK
    rw [if_neg z21]
    by_cases z22 : v = nI 22
    · rw [if_pos z22]; exact lc_882 hL hL2 s hK
    rw [if_neg z22]
    by_cases z23 : v = nI 23
    · rw [if_pos z23]; exact lc_915 hL hL2 s hK
    rw [if_neg z23]
    by_cases z24 : v = nI 24
    · rw [if_pos z24]; exact lc_958 hL hL2 s hK
    rw [if_neg z24]
    by_cases z25 : v = nI 25
    · rw [if_pos z25]; exact lc_1011 hL hL2 s hK
    rw [if_neg z25]
    by_cases z26 : v = nI 26
    · rw [if_pos z26]; exact lc_1024 hL hL2 s hK
    rw [if_neg z26]
    by_cases z27 : v = nI 27
    · rw [if_pos z27]; exact lc_1037 hL hL2 s hK
    rw [if_neg z27]
    rw [nI_add]
    exact hK a s
  · intro a s K
    dsimp only
    rw [p_L_law_18]
    refine ⟨a, ?_⟩
    by_cases z : 5 ≤ L
    · rw [show Int32.ofNat L = nI L from rfl, pk_sub z, if_pos (nI_lt (by omega) (by omega))]
    · rw [show 5 * (L / 5) = 0 by omega]
      rcases (show L = 0 ∨ L = 1 ∨ L = 2 ∨ L = 3 ∨ L = 4 by omega) with rfl | rfl | rfl | rfl | rfl <;> rw [if_pos (by decide)]
end
