/-! text written -/
theorem dn_s2 {K i : Nat} (hi : i < K) (hK : K ≤ 8) : dn K i + (-1 : Int32) = dn K (i + 1) := by
  unfold dn
  rw [if_pos hi]
  by_cases e : i + 1 < K
  · rw [if_pos e, dec_n (by omega) (by omega), Nat.sub_sub]
  · rw [if_neg e, show K - (i + 1) = 0 by omega]; decide
section
variable {w g n m : Nat} {ru : Nat → Int32} {f p : kH} {go : Int32} {h : kH}
/-- byte i of the K that y holds -/
def wrB (y : Int64) (K i : Nat) : Int32 := vp_nar .byte (((y >>> ((((nI 8) * nI (K - (i + 1)))).toInt64 &&& 63))).toInt32).toInt8.toInt32
theorem q_writeL {L K : Nat} {y : Int64} (hL : h 0 1 = nI L) (hK1 : 1 ≤ K) (hK : K ≤ 8) (hLK : L + K ≤ 500) : ∃ h', fx (fun K33 s => p_X7_write_33 K33 s.1 s.2.1 s.2.2) FU (y, nI K - nI 1, h) = some (nI (L + K), h') ∧ h' 0 1 = nI (L + K) ∧ (∀ j, j ≠ 1 → h' 0 j = h 0 j) ∧ (∀ i, i < K → h' 1 (L + i) = wrB y K i) ∧ (∀ i, i < L → h' 1 i = h 1 i) ∧ ∀ k, k ≠ 0 → k ≠ 1 → h' k = h k := by
  suffices H : okp (fun q : Int32 × kH => q.1 = nI (L + K) ∧ q.2 0 1 = nI (L + K) ∧ (∀ j, j ≠ 1 → q.2 0 j = h 0 j) ∧ (∀ i, i < K → q.2 1 (L + i) = wrB y K i) ∧ (∀ i, i < L → q.2 1 i = h 1 i) ∧ ∀ k, k ≠ 0 → k ≠ 1 → q.2 k = h k) (fx (fun K33 s => p_X7_write_33 K33 s.1 s.2.1 s.2.2) FU (y, nI K - nI 1, h)) by
    obtain ⟨⟨r, h'⟩, e, rfl, v⟩ := H
    exact ⟨h', e, v⟩
  rw [show nI K - nI 1 = dn K 0 by rw [dn, if_pos (by omega), pk_sub (by omega)]]
  refine fx_m (fun i (h : kH) => (y, dn K i, h)) (fun i h1 => h1 0 1 = nI (L + i) ∧ (∀ j, j ≠ 1 → h1 0 j = h 0 j) ∧ (∀ t, t < i → h1 1 (L + t) = wrB y K t) ∧ (∀ i, i < L → h1 1 i = h 1 i) ∧ ∀ k, k ≠ 0 → k ≠ 1 → h1 k = h k) _ K (by omega) ⟨hL, fun _ _ => rfl, fun t ht => absurd ht (by omega), fun _ _ => rfl, fun _ _ _ => rfl⟩ ?_ ?_
  · intro i h1 hi ⟨v1, z1, w1, u1, k1⟩ K' hK'
    have en : dn K i = nI (K - (i + 1)) := if_pos hi
    have nn : ¬ nI (K - (i + 1)) < 0 := by rw [lt_z, nI_toInt (by omega)]; omega
    have eD : nI (K - (i + 1)) + (-1 : Int32) = dn K (i + 1) := by rw [← en]; exact dn_s2 hi hK
    have e5 : hs h1 1 (L + i) (wrB y K i) 0 1 = nI (L + i) := by rw [hs_k (by omega)]; exact v1
    have step : p_X7_write_33 K' y (dn K i) h1 = K' (y, dn K (i + 1), hs (hs h1 1 (L + i) (wrB y K i)) 0 1 (nI (L + i + 1))) := by
      rw [p_X7_write_33, en, if_neg nn, v1, gd_i (by omega) (by omega), nI_clamp (by omega), le_d, le_d, eD]
      show K' (y, dn K (i + 1), hs (hs h1 1 (L + i) (wrB y K i)) 0 1 (hs h1 1 (L + i) (wrB y K i) 0 1 + nI 1)) = _
      rw [e5, nI_add]
    dsimp only
    rw [step]
    refine hK' _ ⟨hs_s _ _ _ _, fun j hj => by rw [hs_i hj, hs_k (by omega)]; exact z1 j hj, fun t ht => ?_, fun t ht => by rw [hs_k (by omega), hs_i (by omega)]; exact u1 t ht, fun k q1 q2 => by rw [hs_k q1, hs_k q2]; exact k1 k q1 q2⟩
    rw [hs_k (by omega)]
    by_cases e : t = i
    · subst e; rw [hs_s]
    · rw [hs_i (by omega)]; exact w1 t (by omega)
  · intro h1 ⟨v1, z1, w1, u1, k1⟩ K'
    have en : dn K K = -1 := if_neg (by omega)
    simp only [p_X7_write_33, en, if_pos (show (-1 : Int32) < 0 by decide)]
    exact okp_s ⟨v1, v1, z1, w1, u1, k1⟩
theorem rq_writeL {L K : Nat} {y : Int64} (hL : h 135 0 = nI L) (hK1 : 1 ≤ K) (hK : K ≤ 8) (hLK : L + K ≤ 500) : ∃ h', fx (fun K34 s => p_X8_write_34 K34 s.1 s.2.1 s.2.2) FU (y, nI K - nI 1, h) = some (nI (L + K), h') ∧ h' 135 0 = nI (L + K) ∧ (∀ j, j ≠ 0 → h' 135 j = h 135 j) ∧ (∀ i, i < K → h' 136 (L + i) = wrB y K i) ∧ (∀ i, i < L → h' 136 i = h 136 i) ∧ ∀ k, k ≠ 135 → k ≠ 136 → h' k = h k := by
  suffices H : okp (fun q : Int32 × kH => q.1 = nI (L + K) ∧ q.2 135 0 = nI (L + K) ∧ (∀ j, j ≠ 0 → q.2 135 j = h 135 j) ∧ (∀ i, i < K → q.2 136 (L + i) = wrB y K i) ∧ (∀ i, i < L → q.2 136 i = h 136 i) ∧ ∀ k, k ≠ 135 → k ≠ 136 → q.2 k = h k) (fx (fun K34 s => p_X8_write_34 K34 s.1 s.2.1 s.2.2) FU (y, nI K - nI 1, h)) by
    obtain ⟨⟨r, h'⟩, e, rfl, v⟩ := H
    exact ⟨h', e, v⟩
  rw [show nI K - nI 1 = dn K 0 by rw [dn, if_pos (by omega), pk_sub (by omega)]]
  refine fx_m (fun i (h : kH) => (y, dn K i, h)) (fun i h1 => h1 135 0 = nI (L + i) ∧ (∀ j, j ≠ 0 → h1 135 j = h 135 j) ∧ (∀ t, t < i → h1 136 (L + t) = wrB y K t) ∧ (∀ i, i < L → h1 136 i = h 136 i) ∧ ∀ k, k ≠ 135 → k ≠ 136 → h1 k = h k) _ K (by omega) ⟨hL, fun _ _ => rfl, fun t ht => absurd ht (by omega), fun _ _ => rfl, fun _ _ _ => rfl⟩ ?_ ?_
  · intro i h1 hi ⟨v1, z1, w1, u1, k1⟩ K' hK'
    have en : dn K i = nI (K - (i + 1)) := if_pos hi
    have nn : ¬ nI (K - (i + 1)) < 0 := by rw [lt_z, nI_toInt (by omega)]; omega
    have eD : nI (K - (i + 1)) + (-1 : Int32) = dn K (i + 1) := by rw [← en]; exact dn_s2 hi hK
    have e5 : hs h1 136 (L + i) (wrB y K i) 135 0 = nI (L + i) := by rw [hs_k (by omega)]; exact v1
    have step : p_X8_write_34 K' y (dn K i) h1 = K' (y, dn K (i + 1), hs (hs h1 136 (L + i) (wrB y K i)) 135 0 (nI (L + i + 1))) := by
      rw [p_X8_write_34, en, if_neg nn, v1, gd_i (by omega) (by omega), nI_clamp (by omega), le_d, le_d, eD]
      show K' (y, dn K (i + 1), hs (hs h1 136 (L + i) (wrB y K i)) 135 0 (hs h1 136 (L + i) (wrB y K i) 135 0 + nI 1)) = _
      rw [e5, nI_add]
    dsimp only
    rw [step]
    refine hK' _ ⟨hs_s _ _ _ _, fun j hj => by rw [hs_i hj, hs_k (by omega)]; exact z1 j hj, fun t ht => ?_, fun t ht => by rw [hs_k (by omega), hs_i (by omega)]; exact u1 t ht, fun k q1 q2 => by rw [hs_k q1, hs_k q2]; exact k1 k q1 q2⟩
    rw [hs_k (by omega)]
    by_cases e : t = i
    · subst e; rw [hs_s]
    · rw [hs_i (by omega)]; exact w1 t (by omega)
  · intro h1 ⟨v1, z1, w1, u1, k1⟩ K'
    have en : dn K K = -1 := if_neg (by omega)
    simp only [p_X8_write_34, en, if_pos (show (-1 : Int32) < 0 by decide)]
    exact okp_s ⟨v1, v1, z1, w1, u1, k1⟩
theorem op_write (c : CI h w g n m ru f p go) (d : RI h w g n m ru f p go) (ds : Dst m p) (rs : Rs h w g n m ru) (x1 : Int32) (y : Int64) : Oop (p_X7_write x1 y) (p_X8_write x1 y) h := by
  have rs0 := rs
  obtain ⟨⟨S, a1, a2, a3, a4, a5, a6⟩, ⟨kc, b1', b2, b3, b4⟩, ⟨L, c1, c2, c3, c4⟩⟩ := rs
  have sim : Sim h := ⟨w, g, n, m, ru, f, p, go, c, d, ds, rs0⟩
  cases q1 : okI x1 1 8
  · refine ⟨-1, h, h, ?_, by unfold p_X8_write; rw [rq_io (lo := 1) (hi := 8) (by decide) (by decide)]; exact bad2 q1, sim⟩
    unfold p_X7_write
    rcases okI_f q1 with z | z
    · rw [if_pos (show x1 < nI 1 by rw [lt_n (by omega)]; omega)]
    · rw [if_neg (show ¬ x1 < nI 1 by rw [lt_n (by omega)]; omega), if_neg (show ¬ x1 ≤ nI 8 by rw [le_n (by omega)]; omega)]
  · obtain ⟨K, hK1, hK, rfl⟩ := okI_n (lo := 1) (hi := 8) (by omega) q1
    have e1 : ¬ nI K < nI 1 := nI_nlt hK1 (by omega)
    have e2 : nI K ≤ nI 8 := nI_le hK (by omega)
    by_cases z : L + K ≤ 500
    · have z1 : nI (L + K) ≤ nI 500 := nI_le z (by omega)
      obtain ⟨h1, f1, v1, w1, x1', u1, k1⟩ := q_writeL (y := y) c1 hK1 hK z
      obtain ⟨h2, f2, v2, w2, x2', u2, k2⟩ := rq_writeL (h := h1) (y := y) (L := L) (by rw [k1 _ (by omega) (by omega)]; exact c2) hK1 hK z
      have kk : ∀ k, k ≠ 0 → k ≠ 1 → k ≠ 135 → k ≠ 136 → h2 k = h k := fun k q1 q2 q3 q4 => by rw [k2 k q3 q4, k1 k q1 q2]
      refine ⟨nI (L + K), h1, h2, ?_, ?_, Sim.sp c d ds (fun k q1 q2 _ q4 q5 _ => kk k q1 q2 q4 q5) ⟨⟨S, ?_, ?_, a3, fun j hj => ?_, fun j hj => ?_, fun i j hi hj zz => ?_⟩, ⟨kc, ?_, ?_, b3, fun t ht => (b4 t ht).k (by omega) (fun k q => kk k (by omega) (by omega) (by omega) (by omega)) (fun j _ _ => by rw [kk 143 (by omega) (by omega) (by omega) (by omega)])⟩, ⟨L + K, ?_, v2, z, fun i hi => ?_⟩⟩⟩
      · unfold p_X7_write; rw [if_neg e1, if_pos e2, c1, nI_add, if_pos z1, f1]
      · unfold p_X8_write; rw [rq_io (lo := 1) (hi := 8) (by decide) (by decide), ok2 q1, k1 135 (by omega) (by omega), c2, nI_add, if_pos z1, f2]
      · rw [k2 0 (by omega) (by omega), w1 _ (by omega)]; exact a1
      · rw [w2 _ (by omega), k1 135 (by omega) (by omega)]; exact a2
      · rw [kk 144 (by omega) (by omega) (by omega) (by omega), kk 131 (by omega) (by omega) (by omega) (by omega)]; exact a4 j hj
      · rw [kk 131 (by omega) (by omega) (by omega) (by omega)]; exact a5 j hj
      · rw [kk 131 (by omega) (by omega) (by omega) (by omega)] at zz; exact a6 i j hi hj zz
      · rw [k2 0 (by omega) (by omega), w1 _ (by omega)]; exact b1'
      · rw [w2 _ (by omega), k1 135 (by omega) (by omega)]; exact b2
      · rw [k2 0 (by omega) (by omega)]; exact v1
      · by_cases l : i < L
        · rw [u2 i l, k1 136 (by omega) (by omega), k2 1 (by omega) (by omega), u1 i l]; exact c4 i l
        · have e : i = L + (i - L) := by omega
          rw [e, x2' (i - L) (by omega), k2 1 (by omega) (by omega), x1' (i - L) (by omega)]
    · have z1 : ¬ nI (L + K) ≤ nI 500 := by rw [le_n (by omega), nI_toInt (by omega)]; omega
      refine ⟨-3, h, h, ?_, ?_, sim⟩
      · unfold p_X7_write; rw [if_neg e1, if_pos e2, c1, nI_add, if_neg z1]
      · unfold p_X8_write; rw [rq_io (lo := 1) (hi := 8) (by decide) (by decide), ok2 q1, c2, nI_add, if_neg z1]
end
