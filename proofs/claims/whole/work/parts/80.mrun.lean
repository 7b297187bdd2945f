/-! runs: cells and pots minute by minute -/
theorem mfeel_congr {ru ht ht' : Nat → Int32} {n m : Nat} {p : kH} (hn : 0 < n) (hn2 : n ≤ 30) (hh : ∀ c, c < n → bt (ht c) 20 3000) (he : ∀ c, c < n → ht' c = ht c) (hp : WfP n m p) : ∀ i, i ≤ m → itr (mfeel1 ru ht') i p = itr (mfeel1 ru ht) i p := by
  refine itr_congr (fun _ p => WfP n m p) m (fun i p hi h => one_feel.wf h (w1_feel (h i hi) hn hn2 hh)) (fun i p hi h => ?_) hp
  obtain ⟨c, -, c2, c3⟩ := (h i hi).1
  unfold mfeel1
  rw [c3, nI_clamp (by omega), he c (by omega)]
theorem mpots_congr {ru ht ht' bl bl' : Nat → Int32} {w : Int32} {n m : Nat} {p : kH} (hn : 0 < n) (hn2 : n ≤ 30) (hh : ∀ c, c < n → bt (ht c) 20 3000) (he : ∀ c, c < n → ht' c = ht c) (hb : ∀ c, c < n → bl' c = bl c) (hp : WfP n m p) : mpots ru w m ht' bl' p = mpots ru w m ht bl p ∧ ∀ j, j < m → bstB ru ht' p j = bstB ru ht p j := by
  have e1 := mfeel_congr (ru := ru) hn hn2 hh he hp
  have eB : ∀ j, j < m → bstB ru ht' p j = bstB ru ht p j := fun j hj => by
    rw [bstB, bstB, e1 j (by omega), e1 (j + 1) (by omega)]
  refine ⟨?_, eB⟩
  have wq : WfP n m (itr (mfeel1 ru ht) m p) := itr_inv (WfP n m) m (fun i p hi h => one_feel.wf h (w1_feel (h i hi) hn hn2 hh)) hp m (Nat.le_refl m)
  have e2 : itr (mstr1 ru w m (bstB ru ht' p)) m (itr (mfeel1 ru ht') m p) = itr (mstr1 ru w m (bstB ru ht p)) m (itr (mfeel1 ru ht) m p) := by
    rw [e1 m (Nat.le_refl m)]
    refine itr_congr (fun _ _ => True) m (fun _ _ _ _ => trivial) (fun i q hi _ => ?_) trivial m (Nat.le_refl m)
    unfold mstr1
    rw [anyN_congr (g := fun j => bstB ru ht p j && nearB w (q 0 i) (q 0 j)) (fun j hj => by rw [eB j hj])]
  have ws : WfP n m (itr (mstr1 ru w m (bstB ru ht p)) m (itr (mfeel1 ru ht) m p)) := itr_inv (WfP n m) m (fun i p hi h => one_str.wf h (w1_str (h i hi))) wq m (Nat.le_refl m)
  rw [mpots, e2, mpots]
  refine itr_congr (fun _ p => WfP n m p) m (fun i p hi h => one_col.wf h (w1_col (h i hi))) (fun i q hi h => ?_) ws m (Nat.le_refl m)
  obtain ⟨c, -, c2, c3⟩ := (h i hi).1
  unfold mcol1
  rw [c3, nI_clamp (by omega), hb c (by omega)]
/-- one minute of a heap: its cells, then its pots in their heat -/
def mpt (ru : Nat → Int32) (w m : Nat) (f p : kH) : kH := mpots ru (nI w) m (fun c => f 0 c) (fun c => nI (blk f c)) p
def rstep (ru : Nat → Int32) (x : Int32) (w n m : Nat) (q : kH × kH) : kH × kH := (mfire ru x w n q.1, mpt ru w m (mfire ru x w n q.1) q.2)
/-- k minutes -/
def rN (ru : Nat → Int32) (ws : Nat → Int32) (w n m : Nat) (k : Nat) (q : kH × kH) : kH × kH := itr (fun t q => rstep ru (ws t) w n m q) k q
def fN (ru : Nat → Int32) (ws : Nat → Int32) (w n : Nat) (k : Nat) (f : kH) : kH := itr (fun t f => mfire ru (ws t) w n f) k f
theorem rN_0 {ru ws : Nat → Int32} {w n m : Nat} {q : kH × kH} : rN ru ws w n m 0 q = q := rfl
theorem rN_s {ru ws : Nat → Int32} {w n m k : Nat} {q : kH × kH} : rN ru ws w n m (k + 1) q = rstep ru (ws k) w n m (rN ru ws w n m k q) := itr_s (fun t q => rstep ru (ws t) w n m q) k q
theorem fN_0 {ru ws : Nat → Int32} {w n : Nat} {f : kH} : fN ru ws w n 0 f = f := rfl
theorem fN_s {ru ws : Nat → Int32} {w n k : Nat} {f : kH} : fN ru ws w n (k + 1) f = mfire ru (ws k) w n (fN ru ws w n k f) := itr_s (fun t f => mfire ru (ws t) w n f) k f
theorem rN_1 {ru ws : Nat → Int32} {w n m : Nat} {q : kH × kH} : ∀ k, (rN ru ws w n m k q).1 = fN ru ws w n k q.1
  | 0 => by rw [rN_0, fN_0]
  | k + 1 => by rw [rN_s, fN_s, rstep, rN_1 k]
theorem rN_2 {ru ws : Nat → Int32} {w n m k : Nat} {q : kH × kH} : (rN ru ws w n m (k + 1) q).2 = mpt ru w m (fN ru ws w n (k + 1) q.1) (rN ru ws w n m k q).2 := by
  rw [rN_s, rstep, fN_s, rN_1 k]
theorem wf_fN {ru ws : Nat → Int32} {w g n U : Nat} {f : kH} (hr : WfR ru w g) (hn : w * g = n) (hU : U < 100000) (hf : WfF n 3000 U f) : ∀ k, (∀ t, t < k → bt (ws t) 0 9) → WfF n 3000 U (fN ru ws w n k f)
  | 0, _ => by rw [fN_0]; exact hf
  | k + 1, hx => by rw [fN_s]; exact wf_fire hr hn (hx k (by omega)) hU (wf_fN hr hn hU hf k (fun t ht => hx t (by omega)))
theorem wf_mpt {ru : Nat → Int32} {w g n m U : Nat} {f p : kH} (hr : WfR ru w g) (hn : w * g = n) (hf : WfF n 3000 U f) (hp : WfP n m p) : WfP n m (mpt ru w m f p) :=
  wf_pots (n_pos hn hr.2.2.1.1 hr.2.2.2.1.1) (n_le hn hr.2.2.1.2 hr.2.2.2.1.2) (fun c hc => (hf c hc).1) hp
theorem wf_rN {ru ws : Nat → Int32} {w g n m U : Nat} {q : kH × kH} (hr : WfR ru w g) (hn : w * g = n) (hU : U < 100000) (hf : WfF n 3000 U q.1) (hp : WfP n m q.2) : ∀ k, (∀ t, t < k → bt (ws t) 0 9) → WfP n m (rN ru ws w n m k q).2
  | 0, _ => by rw [rN_0]; exact hp
  | k + 1, hx => by
    rw [rN_2]
    exact wf_mpt hr hn (wf_fN hr hn hU hf (k + 1) hx) (wf_rN hr hn hU hf hp k (fun t ht => hx t (by omega)))
/-- the air of minute t is that of the cells f -/
def tells (h : kH) (t n : Nat) (f : kH) : Prop := ∀ c, c < n → h 133 (t * 30 + c) = nI 2 * f 0 c + nI (blk f c)
theorem tells_H {h f : kH} {t n U : Nat} (ht : tells h t n f) (hf : WfF n 3000 U f) : ∀ c, c < n → atH h t c = f 0 c ∧ atB h t c = nI (blk f c) := by
  intro c hc
  obtain ⟨a, a1, a2, a3⟩ := (hf c hc).1
  have hb := blk_le f c
  unfold atH atB
  rw [ht c hc, a3, pk_mul, nI_add]
  refine ⟨?_, ?_⟩
  · rw [pk_div (by omega) (by omega) (by omega)]
    congr 1
    omega
  · rw [krem_n (by omega) (by omega) (by omega)]
    rcases (show blk f c = 0 ∨ blk f c = 1 by omega) with e | e
    · rw [e, if_neg]
      rw [show (2 * a + 0) % 2 = 0 by omega]; decide
    · rw [e, if_pos]
      rw [show (2 * a + 1) % 2 = 1 by omega]
theorem blk_cut {h : kH} {F n c : Nat} (hc : c < n) (hn : n ≤ 30) : blk (cF h F 30) c = blk (cF h F n) c := by
  unfold blk
  rw [cF_at (a := 4) (by omega) (show c < 30 by omega), cF_at (a := 4) (by omega) hc, cF_at (a := 1) (by omega) (show c < 30 by omega), cF_at (a := 1) (by omega) hc]
