/-! the first heap: what the two constructors leave -/
section
variable {h : kH}
theorem q_defR {R : Nat} : ∃ h', p_X5_setDefaults R h = some h' ∧ ∀ k, (k < R ∨ R + 2 < k) → h' k = h k := by
  show okp (fun h' : kH => ∀ k, (k < R ∨ R + 2 < k) → h' k = h k) _
  unfold p_X5_setDefaults
  simp (disch := omega) only [p_X5_setKind, le_d, gd_i, nI_clamp, bd_s]
  refine okp_s (fun k hk => ?_)
  simp (disch := omega) only [hs_k]
def zH : kH := fun _ _ => 0
theorem start_sim : ∃ h1 h2 h3 h4 h5 h6, p_X5_setDefaults 3 zH = some h1 ∧ (∀ k, 6 ≤ k → h1 k = fun _ => 0) ∧ p_X3_forget h1 = some h2 ∧ (∀ k, 28 ≤ k → h2 k = fun _ => 0) ∧ p_X5_setDefaults 28 h2 = some h3 ∧ (∀ k, 31 ≤ k ∨ k = 0 → h3 k = fun _ => 0) ∧ p_X3_layOn 28 31 h3 = some h4 ∧ (∀ k, 135 ≤ k → h4 k = fun _ => 0) ∧ p_X8_begins h4 = some h5 ∧ p_X8_takes h5 = some h6 ∧ Sim h6 := by
  obtain ⟨h1, e1, v1, k1⟩ := q_defaults (h := zH)
  obtain ⟨h2, e2, v2, w2, u2, k2⟩ := q_forget (h := h1)
  obtain ⟨h3, e3, k3⟩ := q_defR (R := 28) (h := h2)
  have z1 : ∀ k, 6 ≤ k → h1 k = fun _ => 0 := fun k hk => k1 k (by omega)
  have z2 : ∀ k, 28 ≤ k → h2 k = fun _ => 0 := fun k hk => by rw [k2 k (by omega)]; exact z1 k (by omega)
  have z3 : ∀ k, 31 ≤ k ∨ k = 0 → h3 k = fun _ => 0 := fun k hk => by
    rcases hk with hk | hk
    · rw [k3 k (by omega)]; exact z2 k (by omega)
    · rw [k3 k (by omega), k2 k (by omega)]; exact k1 k (by omega)
  have tk5 : ∀ j, tk j ≤ 5 := fun j => by
    unfold tk
    repeat' split
    all_goals omega
  have a1 : ∀ j, j < 14 → h3 (tk j) (ti j) = nI (dfl j) := fun j hj => by
    have := tk5 j
    rw [k3 _ (by omega)]; exact v2 j hj
  have a2 : ∀ a c, a < 5 → c < 30 → h3 (7 + a) c = if a = 0 then nI 20 else nI 0 := fun a c ha hc => by rw [k3 _ (by omega)]; exact w2 a c ha hc
  have a3 : h3 13 0 = nI 0 := by rw [k3 _ (by omega)]; exact u2
  have p4 : h3 3 0 = nI 4 := a1 0 (by omega)
  have p5 : h3 3 1 = nI 3 := a1 1 (by omega)
  obtain ⟨h4, e4, lc⟩ := q_layOn (c := h3) (w := 4) (g := 3) p4 p5 (by omega) (by omega) (by omega)
  obtain ⟨h5, e5, b1, b2, b3, b4, b5, b6⟩ := rq_begins (h := h4)
  have j : J h3 h5 := J0 a1 a2 a3 b1 b3 b4
  have pl : PlC h3 4 3 0 (fun _ => 0) (fun _ => 0) := ⟨by omega, by omega, by omega, p4, p5, a3, fun i hi => absurd hi (by omega), fun i hi => absurd hi (by omega)⟩
  have ly : LayP 4 3 0 (fun _ => 0) (fun _ => 0) := fun j hj => absurd hj (by omega)
  obtain ⟨s1, s2, s3, s4, s5, s6⟩ := lay_c (c2 := h3) (c3 := h4) j pl (fun _ _ => rfl) (fun i hi => absurd hi (by omega)) lc
  obtain ⟨y1, y2, y3, -⟩ := j.rf pl
  obtain ⟨h6, e6, lr⟩ := rq_takes (r := h5) (w := 4) (g := 3) (N := 0) (by omega) (by omega) (by omega) (by omega) y1 y2 y3
  obtain ⟨t1, t2, t3, t4, t5⟩ := lay_r j pl lr
  obtain ⟨wf, dst⟩ := lay_wf j pl ly
  obtain ⟨-, -, -, -, -, l6, l7, l8, l9⟩ := lr
  have r5 : ∀ k, k < 135 → h6 k = h4 k := fun k hk => by rw [l9 k (by omega) (by omega) (by omega) (by omega) (by omega) (by omega), b6 k (by omega) (by omega) (by omega)]
  have z4 : ∀ k, 135 ≤ k → h4 k = fun _ => 0 := fun k hk => by rw [s6 k (by omega)]; exact z3 k (by omega)
  have z0 : ∀ j, h6 0 j = nI 0 := fun j => by rw [r5 0 (by omega), s6 0 (by omega), z3 0 (by omega), nI_00]
  refine ⟨h1, h2, h3, h4, h5, h6, e1, z1, e2, z2, e3, z3, e4, z4, e5, e6, 4, 3, 4 * 3, 0, cR h3 3, layF h3 4 (4 * 3), layQ h3 4 0 (fun _ => 0) (fun _ => 0), nI 0, ⟨wf, ?_, ?_, ?_, ?_, ?_⟩, ⟨wf, t1, t2, t3, t4, t5⟩, dst, ⟨0, z0 11, l6, by omega, fun j hj => absurd hj (by omega), fun j hj => absurd hj (by omega), fun i j hi => absurd hi (by omega)⟩, ⟨0, z0 9, l7, by omega, fun t ht => absurd ht (by omega)⟩, ⟨0, z0 1, ?_, by omega, fun i hi => absurd hi (by omega)⟩⟩
  · rw [← s1]; exact cR_k (r5 _ (by omega)) (r5 _ (by omega)) (r5 _ (by omega))
  · rw [← s2]; exact cF_k (fun a _ => r5 _ (by omega))
  · rw [← s3]; exact cP_k (fun k _ _ => r5 _ (by omega))
  · rw [r5 _ (by omega)]; exact s4
  · rw [r5 _ (by omega)]; exact s5
  · rw [l8 0 (by omega) (by omega), b6 135 (by omega) (by omega) (by omega), z4 135 (by omega), nI_00]
end
