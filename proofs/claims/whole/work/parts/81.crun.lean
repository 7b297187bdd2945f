/-! the class: runs of the trial -/
theorem CR_w {h : kH} {R w g : Nat} (hr : WfR (cR h R) w g) : h R 0 = nI w ∧ h R 1 = nI g := ⟨hr.1, hr.2.1⟩
theorem q_fireTell {F t w g n U : Nat} {x : Int32} {h : kH} (hr : WfR (cR h 28) w g) (hn : w * g = n) (ht : t < 240) (hx : bt x 0 9) (hF : 30 < F) (hF2 : F + 6 < 133) (hf : WfF n 3000 U (cF h F n)) (hU : U < 100000) : ∃ h2, p_X1_burn F 28 x h = some h2 ∧ ∃ h3, p_X1_tell F (nI t) h2 = some h3 ∧ cF h3 F n = mfire (cR h 28) x w n (cF h F n) ∧ tells h3 t n (mfire (cR h 28) x w n (cF h F n)) ∧ (∀ j, (j < t * 30 ∨ t * 30 + 30 ≤ j) → h3 133 j = h 133 j) ∧ ∀ k, (k < F + 1 ∨ F + 6 < k) → k ≠ 133 → h3 k = h k := by
  have hn30 := n_le hn hr.2.2.1.2 hr.2.2.2.1.2
  have w2 := hr.2.2.1
  have g2 := hr.2.2.2.1
  obtain ⟨h2, e2, v2, f2⟩ := q_burn (F := F) (R := 28) (x := x) (h := h) hr.1 hr.2.1 hn hn30 (by omega) (by omega) (by omega) (by omega) (fun c hc => by
    have := (hf c hc).2.2.1
    rw [cF_at (a := 2) (by omega) hc] at this
    exact this)
  obtain ⟨h3, e3, v3, j3, f3⟩ := q_tell (F := F) (t := t) (h := h2) ht (by omega)
  refine ⟨h2, e2, h3, e3, ?_, fun c hc => ?_, fun j jj => by rw [j3 j jj, f2 _ (by omega) (by omega) (by omega) (by omega)], fun k a b => by rw [f3 k b, f2 k (by omega) (by omega) (by omega) (by omega)]⟩
  · rw [cF_k (h := h2) (fun a ha => f3 _ (by omega)), v2]
  · rw [v3 c (by omega), blk_cut hc hn30, ← v2, cF_at (a := 0) (by omega) hc]
theorem tells_k {h h' f : kH} {t n : Nat} (hn : n ≤ 30) (ht : tells h t n f) (e : ∀ c, c < 30 → h' 133 (t * 30 + c) = h 133 (t * 30 + c)) : tells h' t n f := fun c hc => by rw [e c (by omega)]; exact ht c hc
theorem q_burnFire {fr N w g n U : Nat} {x : Int32} {h : kH} (hr : WfR (cR h 28) w g) (hn : w * g = n) (hN : N ≤ 240) (hfr : fr ≤ N) (hx : bt x 0 9) (hf : WfF n 3000 U (cF h 72 n)) (hU : U < 100000) : ∃ h', p_X7_burnFire (nI fr) (nI N) x h = some h' ∧ cF h' 72 n = fN (cR h 28) (fun _ => x) w n (N - fr) (cF h 72 n) ∧ (∀ j, j < N - fr → tells h' (fr + j) n (fN (cR h 28) (fun _ => x) w n (j + 1) (cF h 72 n))) ∧ ∀ k, (k < 73 ∨ 78 < k) → k ≠ 133 → h' k = h k := by
  have hn30 := n_le hn hr.2.2.1.2 hr.2.2.2.1.2
  show okp (fun h' : kH => cF h' 72 n = fN (cR h 28) (fun _ => x) w n (N - fr) (cF h 72 n) ∧ (∀ j, j < N - fr → tells h' (fr + j) n (fN (cR h 28) (fun _ => x) w n (j + 1) (cF h 72 n))) ∧ ∀ k, (k < 73 ∨ 78 < k) → k ≠ 133 → h' k = h k) _
  unfold p_X7_burnFire
  refine fx_m (fun i (h : kH) => (nI N, x, nI (fr + i), h)) (fun i h1 => cF h1 72 n = fN (cR h 28) (fun _ => x) w n i (cF h 72 n) ∧ (∀ j, j < i → tells h1 (fr + j) n (fN (cR h 28) (fun _ => x) w n (j + 1) (cF h 72 n))) ∧ ∀ k, (k < 73 ∨ 78 < k) → k ≠ 133 → h1 k = h k) _ (N - fr) (by omega) ⟨rfl, fun j hj => absurd hj (by omega), fun _ _ _ => rfl⟩ ?_ ?_
  · intro i h1 hi ⟨hv, ht, hk⟩ K hK
    have er : cR h1 28 = cR h 28 := cR_k (hk _ (by omega) (by omega)) (hk _ (by omega) (by omega)) (hk _ (by omega) (by omega))
    obtain ⟨h2, e2, h3, e3, v3, t3, j3, k3⟩ := q_fireTell (F := 72) (t := fr + i) (x := x) (h := h1) (by rw [er]; exact hr) hn (by omega) hx (by omega) (by omega) (by rw [hv]; exact wf_fN hr hn hU hf i (fun _ _ => hx)) hU
    simp only [p_X7_burnFire_3, if_neg (nI_ge (show fr + i < N by omega) (show N < 2 ^ 31 by omega)), bd_o e2, bd_o e3, nI_add]
    refine hK _ ⟨by rw [v3, er, hv, fN_s], fun j hj => ?_, fun k a b => by rw [k3 k (by omega) b, hk k a b]⟩
    by_cases e : j = i
    · subst e; rw [fN_s, ← hv, ← er]; exact t3
    · exact tells_k hn30 (ht j (by omega)) (fun c hc => j3 _ (by omega))
  · intro h1 ⟨hv, ht, hk⟩ K
    simp only [p_X7_burnFire_3, if_pos (nI_le (show N ≤ fr + (N - fr) by omega) (show fr + (N - fr) < 2 ^ 31 by omega))]
    exact okp_s ⟨hv, ht, hk⟩
/-- pots led through k minutes of cells F 0, F 1, .. -/
def pN (ru : Nat → Int32) (w m : Nat) (F : Nat → kH) (k : Nat) (p : kH) : kH := itr (fun j p => mpt ru w m (F j) p) k p
theorem pN_s {ru : Nat → Int32} {w m k : Nat} {F : Nat → kH} {p : kH} : pN ru w m F (k + 1) p = mpt ru w m (F k) (pN ru w m F k p) := itr_s (fun j p => mpt ru w m (F j) p) k p
theorem rN_p {ru ws : Nat → Int32} {w n m : Nat} {q : kH × kH} : ∀ k, (rN ru ws w n m k q).2 = pN ru w m (fun j => fN ru ws w n (j + 1) q.1) k q.2
  | 0 => rfl
  | k + 1 => by rw [rN_2, pN_s, rN_p k]
theorem wf_pN {ru : Nat → Int32} {w g n m U : Nat} {F : Nat → kH} {p : kH} (hr : WfR ru w g) (hn : w * g = n) (hp : WfP n m p) : ∀ k, (∀ j, j < k → WfF n 3000 U (F j)) → WfP n m (pN ru w m F k p)
  | 0, _ => hp
  | k + 1, hF => by
    rw [pN_s]
    exact wf_mpt hr hn (hF k (by omega)) (wf_pN hr hn hp k (fun j hj => hF j (by omega)))
/-- somebody bursts in minute t -/
def mbs (ru : Nat → Int32) (w m : Nat) (F : Nat → kH) (p : kH) (t : Nat) : Bool := anyN (bstB ru (fun c => F t 0 c) (pN ru w m F t p)) m
theorem q_feel79 {t w g n m U : Nat} {h f : kH} (hr : WfR (cR h 28) w g) (hn : w * g = n) (ht : t < 240) (hc : h 79 0 = nI m) (hm : m ≤ 6) (hp : WfP n m (cP h 79 m)) (hf : WfF n 3000 U f) (htl : tells h t n f) : ∃ h', p_X4_feel 79 28 (nI t) h = some (b1 (anyN (bstB (cR h 28) (fun c => f 0 c) (cP h 79 m)) m), h') ∧ cP h' 79 m = mpt (cR h 28) w m f (cP h 79 m) ∧ ∀ k, (k < 82 ∨ 90 < k ∨ k = 83 ∨ k = 84) → h' k = h k := by
  have hn30 := n_le hn hr.2.2.1.2 hr.2.2.2.1.2
  have hn0 := n_pos hn hr.2.2.1.1 hr.2.2.2.1.1
  have w2 := hr.2.2.1
  have col : ∀ a i, a < 10 → i < m → cP h 79 m a i = h (79 + pa a) i := fun a i ha hi => cP_at ha hi
  obtain ⟨h', e, v, fr⟩ := q_feel (P := 79) (R := 28) (t := t) (h := h) hc hm hr.1 (by omega) (by omega) (by omega) ht (by omega) (fun i hi => by have := (hp i hi).1; rw [col 0 i (by omega) hi] at this; exact bt_w this (by omega) (by omega)) (fun i hi => by have := (hp i hi).2.2.2.2.2.2.2; rw [col 8 i (by omega) hi] at this; exact this) (fun i hi => by have := (hp i hi).2.2.2.2.2.2.1; rw [col 7 i (by omega) hi] at this; exact this)
  have tl := tells_H htl hf
  obtain ⟨c1, c2⟩ := mpots_congr (ru := cR h 28) (w := nI w) (n := n) (m := m) (p := cP h 79 m) (ht := fun c => f 0 c) (ht' := atH h t) (bl := fun c => nI (blk f c)) (bl' := atB h t) hn0 hn30 (fun c hc => (hf c hc).1) (fun c hc => (tl c hc).1) (fun c hc => (tl c hc).2) hp
  refine ⟨h', by rw [e, anyN_congr c2], by rw [v, c1]; rfl, fun k hk => fr k (by omega)⟩
theorem q_passPots {fr N w g n m U : Nat} {F : Nat → kH} {h : kH} (hr : WfR (cR h 28) w g) (hn : w * g = n) (hN : N ≤ 240) (hfr : fr ≤ N) (hc : h 79 0 = nI m) (hm : m ≤ 6) (hp : WfP n m (cP h 79 m)) (hF : ∀ j, j < N - fr → WfF n 3000 U (F j)) (ht : ∀ j, j < N - fr → tells h (fr + j) n (F j)) : ∃ h', p_X7_passPots (nI fr) (nI N) h = some h' ∧ cP h' 79 m = pN (cR h 28) w m F (N - fr) (cP h 79 m) ∧ ∀ k, (k < 82 ∨ 90 < k ∨ k = 83 ∨ k = 84) → h' k = h k := by
  have hn30 := n_le hn hr.2.2.1.2 hr.2.2.2.1.2
  show okp (fun h' : kH => cP h' 79 m = pN (cR h 28) w m F (N - fr) (cP h 79 m) ∧ ∀ k, (k < 82 ∨ 90 < k ∨ k = 83 ∨ k = 84) → h' k = h k) _
  unfold p_X7_passPots
  refine fx_m (fun i (h : kH) => (nI N, nI (fr + i), h)) (fun i h1 => cP h1 79 m = pN (cR h 28) w m F i (cP h 79 m) ∧ ∀ k, (k < 82 ∨ 90 < k ∨ k = 83 ∨ k = 84) → h1 k = h k) _ (N - fr) (by omega) ⟨rfl, fun _ _ => rfl⟩ ?_ ?_
  · intro i h1 hi ⟨hv, hk⟩ K hK
    have er : cR h1 28 = cR h 28 := cR_k (hk _ (by omega)) (hk _ (by omega)) (hk _ (by omega))
    obtain ⟨h2, e2, v2, k2⟩ := q_feel79 (t := fr + i) (h := h1) (f := F i) (m := m) (by rw [er]; exact hr) hn (by omega) (by rw [hk _ (by omega)]; exact hc) hm (by rw [hv]; exact wf_pN hr hn hp i (fun j hj => hF j (by omega))) (hF i hi) (tells_k hn30 (ht i hi) (fun c hc => by rw [hk 133 (by omega)]))
    simp only [p_X7_passPots_2, if_neg (nI_ge (show fr + i < N by omega) (show N < 2 ^ 31 by omega)), bd2_o e2, nI_add]
    exact hK _ ⟨by rw [v2, er, hv, pN_s], fun k a => by rw [k2 k a, hk k a]⟩
  · intro h1 ⟨hv, hk⟩ K
    simp only [p_X7_passPots_2, if_pos (nI_le (show N ≤ fr + (N - fr) by omega) (show fr + (N - fr) < 2 ^ 31 by omega))]
    exact okp_s ⟨hv, hk⟩
theorem q_anyBursts {N w g n m U : Nat} {F : Nat → kH} {h : kH} (hr : WfR (cR h 28) w g) (hn : w * g = n) (hN : N ≤ 240) (hc : h 79 0 = nI m) (hm : m ≤ 6) (hp : WfP n m (cP h 79 m)) (hF : ∀ j, j < N → WfF n 3000 U (F j)) (ht : ∀ j, j < N → tells h j n (F j)) : ∃ h', p_X7_anyBursts (nI N) h = some (b1 (anyN (mbs (cR h 28) w m F (cP h 79 m)) N), h') ∧ ∀ k, (k < 82 ∨ 90 < k ∨ k = 83 ∨ k = 84) → h' k = h k := by
  have hn30 := n_le hn hr.2.2.1.2 hr.2.2.2.1.2
  suffices H : okp (fun q : Int32 × kH => q.1 = b1 (anyN (mbs (cR h 28) w m F (cP h 79 m)) N) ∧ ∀ k, (k < 82 ∨ 90 < k ∨ k = 83 ∨ k = 84) → q.2 k = h k) (p_X7_anyBursts (nI N) h) by
    obtain ⟨⟨r, h'⟩, e, rfl, f⟩ := H
    exact ⟨h', e, f⟩
  unfold p_X7_anyBursts
  refine fx_m (fun i (h : kH) => (nI N, nI i, h)) (fun i h1 => cP h1 79 m = pN (cR h 28) w m F i (cP h 79 m) ∧ anyN (mbs (cR h 28) w m F (cP h 79 m)) i = false ∧ ∀ k, (k < 82 ∨ 90 < k ∨ k = 83 ∨ k = 84) → h1 k = h k) _ N (by omega) ⟨rfl, rfl, fun _ _ => rfl⟩ ?_ ?_
  · intro i h1 hi ⟨hv, hno, hk⟩ K hK
    have er : cR h1 28 = cR h 28 := cR_k (hk _ (by omega)) (hk _ (by omega)) (hk _ (by omega))
    obtain ⟨h2, e2, v2, k2⟩ := q_feel79 (t := i) (h := h1) (f := F i) (m := m) (by rw [er]; exact hr) hn (by omega) (by rw [hk _ (by omega)]; exact hc) hm (by rw [hv]; exact wf_pN hr hn hp i (fun j hj => hF j (by omega))) (hF i hi) (tells_k hn30 (ht i hi) (fun c hc => by rw [hk 133 (by omega)]))
    rw [er, hv] at e2
    simp only [p_X7_anyBursts_2, if_neg (nI_ge hi (show N < 2 ^ 31 by omega)), bd2_o e2, nI_add]
    cases qb : anyN (bstB (cR h 28) (fun c => F i 0 c) (pN (cR h 28) w m F i (cP h 79 m))) m
    · rw [b1_f, if_pos nI_00]
      exact hK _ ⟨by rw [v2, er, hv, pN_s], by rw [anyN, hno]; exact qb, fun k a => by rw [k2 k a, hk k a]⟩
    · rw [b1_t, if_neg nI_10]
      exact okp_s ⟨by rw [anyN_of (f := mbs (cR h 28) w m F (cP h 79 m)) (j := i) qb hi]; rfl, fun k a => by dsimp only; rw [k2 k a, hk k a]⟩
  · intro h1 ⟨hv, hno, hk⟩ K
    simp only [p_X7_anyBursts_2, if_pos (nI_le (Nat.le_refl N) (show N < 2 ^ 31 by omega))]
    exact okp_s ⟨by rw [hno]; rfl, hk⟩
