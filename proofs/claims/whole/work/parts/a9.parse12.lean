/-! both sides read the whole text -/
def FrA (r r' : kH) : Prop := (∀ j, j ≠ 2 → r' 135 j = r 135 j) ∧ (∀ j, j < 14 → r' 137 j = r 137 j) ∧ r' 138 0 = r 138 0 ∧ ∀ k, k ≠ 135 → k ≠ 137 → k ≠ 138 → k ≠ 141 → k ≠ 142 → k ≠ 151 → r' k = r k
section
variable {c r c' r' : kH}
theorem FrA.rf : FrA r r := ⟨fun _ _ => rfl, fun _ _ => rfl, rfl, fun _ _ _ _ _ _ _ => rfl⟩
theorem FrA.t {d : kH} (a : FrA r d) (b : FrA d r') : FrA r r' := ⟨fun j q => by rw [b.1 j q, a.1 j q], fun j q => by rw [b.2.1 j q, a.2.1 j q], by rw [b.2.2.1, a.2.2.1], fun k q1 q2 q3 q4 q5 q6 => by rw [b.2.2.2 k q1 q2 q3 q4 q5 q6, a.2.2.2 k q1 q2 q3 q4 q5 q6]⟩
theorem FrA.g (a : FrR r r') : FrA r r' := ⟨fun j q => by rw [a.2.2 135 (by omega) (by omega) (by omega) (by omega)], a.1, a.2.1, fun k q1 q2 q3 q4 q5 q6 => a.2.2 k q2 q3 q4 q5⟩
theorem FrA.f (a : Fr5 r r') : FrA r r' := ⟨a.1, fun j q => by rw [a.2 137 (by omega) (by omega)], by rw [a.2 138 (by omega) (by omega)], fun k q1 q2 q3 q4 q5 q6 => a.2 k q1 q6⟩
theorem nI_n4 {i : Nat} (h : i < 2 ^ 31) : ¬ nI i = (-4 : Int32) := by
  intro e
  have := congrArg Int32.toInt e
  rw [nI_toInt h, show (-4 : Int32).toInt = -4 by decide] at this
  omega
theorem lock {L : Nat} (hL : L ≤ 500) : ∀ (n i k : Nat) (c r : kH), i ≤ L → k ≤ i → L - i < n → J c r → (∀ j, j < L → r 136 j = c 1 j) → r 135 0 = nI L → r 135 2 = nI i → ∃ v c' r', fx (fun K9 s => p_X3_read_9 K9 1 s.1 s.2.1 s.2.2.1 s.2.2.2) n (nI L, nI i, nI k, c) = some (v, c') ∧ fx (fun K9 s => p_X8_fault_9 K9 s) n r = some (v, r') ∧ FrC c c' ∧ FrA r r' ∧ (v = -4 → J c' r') := by
  intro n
  induction n with
  | zero => intro i k c r _ _ h; exact absurd h (by omega)
  | succ n ih =>
    intro i k c r hi hk hn q ht h0 h2
    show ∃ v c' r', p_X3_read_9 (fx (fun K9 s => p_X3_read_9 K9 1 s.1 s.2.1 s.2.2.1 s.2.2.2) n) 1 (nI L) (nI i) (nI k) c = some (v, c') ∧ p_X8_fault_9 (fx (fun K9 s => p_X8_fault_9 K9 s) n) r = some (v, r') ∧ FrC c c' ∧ FrA r r' ∧ (v = -4 → J c' r')
    by_cases z : i < L
    · have rr : p_X8_fault_9 (fx (fun K9 s => p_X8_fault_9 K9 s) n) r = bd2 (p_X8_isItem r) fun v7 h5 => if v7 = 0 then some (nI i, h5) else fx (fun K9 s => p_X8_fault_9 K9 s) n h5 := by
        rw [p_X8_fault_9, h0, h2, if_neg (nI_ge z (by omega)), le_d]
      have cc : p_X3_read_9 (fx (fun K9 s => p_X3_read_9 K9 1 s.1 s.2.1 s.2.2.1 s.2.2.2) n) 1 (nI L) (nI i) (nI k) c = bd2 (p_X3_readNumbers 1 (nI i) (nI L) c) fun v5 h3 => if v5 = (-4 : Int32) then some (nI i, h3) else bd2 (p_X3_takeItem (h3 1 i) h3) fun v9 h7 => if v9 = 0 then some (nI i, h7) else fx (fun K9 s => p_X3_read_9 K9 1 s.1 s.2.1 s.2.2.1 s.2.2.2) n (nI L, v5, nI (k + 1), h7) := by
        rw [p_X3_read_9, if_neg (nI_ge (show k < L by omega) (by omega)), if_neg (nI_ge z (by omega))]
        simp (disch := omega) only [gd_i, nI_clamp, nI_add]
      rw [rr, cc]
      obtain ⟨v, c1, e1, f1, o⟩ := q_readNumbers (h := c) z hL
      obtain ⟨r1, f2, o2⟩ := rq_isItem (h := r) (N := (k_sl (bI (c 1 i))).length / 2) z hL h2 h0 (by rw [ht i z])
      rw [ht i z] at o2
      rw [e1, bd2_s]
      have ht' : ∀ j, j < L → c 1 j = r 136 j := fun j hj => (ht j hj).symm
      have q1 : J c1 r1 := q.k (fun k _ _ => f1 k (by omega)) (f2.2 _ (by omega) (by omega)) (f2.2 _ (by omega) (by omega)) (f2.2 _ (by omega) (by omega)) (f2.2 _ (by omega) (by omega))
      have fc1 : FrC c c1 := fun k hk => f1 k (by omega)
      have fr1 : FrA r r1 := FrA.f f2
      rcases o with ⟨n1, all, ev, hps, v27⟩ | ⟨nall, ev⟩
      · -- the class takes it
        have okr : ∀ t, t < (k_sl (bI (c 1 i))).length / 2 → okN (r 136) L i ((k_sl (bI (c 1 i))).length / 2) t := fun t h => okN_c ht' (all t h).1
        rcases o2 with ⟨-, -, w2, w151, er⟩ | ⟨no, -⟩
        · have it := item (x := c 1 i) (V := fun k => nI (vlN (c 1) L i k)) rfl n1 q1 v27 (fun k hk => by rw [w151 k hk, ← vlN_c ht'])
          obtain ⟨b, c2, r2, t1, t2, t3, t4, t5⟩ := it.1 (fun k hk => (all k hk).2)
          rw [er, t2, bd2_s, ev, if_neg (nI_n4 (by omega)), f1 1 (by omega), t1, bd2_s]
          cases b with
          | false =>
            refine ⟨nI i, c2, r2, ?_, ?_, fc1.t t3, fr1.t (FrA.g t4), fun e => absurd e (nI_n4 (by omega))⟩
            · rw [if_pos (show b1 false = 0 from nI_00)]
            · rw [if_pos (show b1 false = 0 from nI_00), bd2_s, if_pos nI_00]
          | true =>
            rw [if_neg (show ¬ b1 true = 0 from nI_10), if_neg (show ¬ b1 true = 0 from nI_10), bd2_s, if_neg nI_10]
            have g := psN_gt (T := c 1) (L := L) (i := i) ((k_sl (bI (c 1 i))).length / 2)
            have e136 : r2 136 = r 136 := by rw [t4.2.2 136 (by omega) (by omega) (by omega) (by omega), f2.2 136 (by omega) (by omega)]
            have e135 : r2 135 = r1 135 := t4.2.2 135 (by omega) (by omega) (by omega) (by omega)
            have e1' : c2 1 = c 1 := by rw [t3 1 (by omega), f1 1 (by omega)]
            obtain ⟨v', c3, r3, x1, x2, x3, x4, x5⟩ := ih (psN (c 1) L i ((k_sl (bI (c 1 i))).length / 2)) (k + 1) c2 r2 hps (by omega) (by omega) (t5 rfl) (by rw [e136, e1']; exact ht) (by rw [e135, f2.1 0 (by omega)]; exact h0) (by rw [e135, w2, psN_c ht'])
            exact ⟨v', c3, r3, x1, x2, (fc1.t t3).t x3, (fr1.t (FrA.g t4)).t x4, x5⟩
        · exact absurd ⟨okr, n1⟩ no
      · rw [ev, if_pos rfl]
        rcases o2 with ⟨ok, n1, w2, w151, er⟩ | ⟨-, er⟩
        · have it := item (c := hs c1 27 0 0) (r := r1) (x := c 1 i) (V := fun k => nI (vlN (c 1) L i k)) rfl n1
          have okc : ∀ t, t < (k_sl (bI (c 1 i))).length / 2 → okN (c 1) L i ((k_sl (bI (c 1 i))).length / 2) t := fun t h => okN_c ht (ok t h)
          have nrg : ¬ ∀ t, t < (k_sl (bI (c 1 i))).length / 2 → rgV (k_sl (bI (c 1 i))) (fun k => nI (vlN (c 1) L i k)) t := fun a => nall ⟨n1, fun t h => ⟨okc t h, a t h⟩⟩
          have it := item (c := fun k j => if k = 27 then nI (vlN (c 1) L i j) else c1 k j) (r := r1) (x := c 1 i) (V := fun k => nI (vlN (c 1) L i k)) rfl n1 (q1.k (fun k _ _ => by funext j; exact if_neg (by omega)) rfl rfl rfl rfl) (fun k _ => if_pos rfl) (fun k hk => by rw [w151 k hk, ← vlN_c ht'])
          obtain ⟨r2, t2, t4⟩ := it.2 nrg
          rw [er, t2, bd2_s]
          exact ⟨nI i, c1, r2, rfl, by rw [if_pos (show b1 false = 0 from nI_00), bd2_s, if_pos nI_00], fc1, fr1.t (FrA.g t4), fun e => absurd e (nI_n4 (by omega))⟩
        · rw [er, bd2_s, if_pos nI_00]
          exact ⟨nI i, c1, r1, rfl, rfl, fc1, fr1, fun e => absurd e (nI_n4 (by omega))⟩
    · refine ⟨-4, c, r, ?_, ?_, FrC.rf, FrA.rf, fun _ => q⟩
      · rw [p_X3_read_9]
        by_cases y : nI L ≤ nI k
        · rw [if_pos y]
        · rw [if_neg y, if_pos (nI_le (by omega) (by omega))]
      · rw [p_X8_fault_9, h0, h2, if_pos (nI_le (by omega) (by omega))]
end
