theorem mod_next {w g i : Nat} (hw : 0 < w) (hi : i < w * g) (hm : i % w + 1 < w) : i + 1 < w * g := by
  have h1 : (i + 1) % w = i % w + 1 := by
    rw [Nat.add_mod, Nat.mod_eq_of_lt (show 1 < w by omega), Nat.mod_eq_of_lt hm]
  rcases Nat.lt_or_ge (i + 1) (w * g) with q | q
  · exact q
  · have h2 : i + 1 = w * g := by omega
    rw [h2, Nat.mul_mod_right] at h1
    omega
theorem kN_i {w i : Nat} (hw : 2 ≤ w) : kN w i i + 2 ≤ kN w (i + 1) i ∧ kN w i i ≤ 2 := by
  unfold kN
  constructor <;> (repeat' split) <;> omega
theorem kN_r {w i : Nat} (hw : 2 ≤ w) : kN w i (i + 1) + 1 ≤ kN w (i + 1) (i + 1) := by
  unfold kN
  (repeat' split) <;> omega
theorem kN_d {w i : Nat} (hw : 2 ≤ w) : kN w i (i + w) + 1 ≤ kN w (i + 1) (i + w) := by
  unfold kN
  (repeat' split) <;> omega
theorem kN_m {w i c : Nat} : kN w i c ≤ kN w (i + 1) c := by
  unfold kN
  (repeat' split) <;> omega
theorem oB_e {f : kH} {o o' : Nat → Int32} {c k : Nat} (h : oB f o c k) (e : o' c = o c) : oB f o' c k := by
  unfold oB at h ⊢
  rw [e]; exact h
theorem wf_flows {f : kH} {w g n : Nat} (hw : 2 ≤ w) (hn : w * g = n) (hf : ∀ c, c < n → bt (f 0 c) 20 4200) : ∀ i, i ≤ n → ∀ c, c < n → oB f (itr (mfl1 f w n) i (fun _ => 0)) c (kN w i c) := by
  have f20 : ∀ c, c < n → 20 ≤ (f 0 c).toInt := fun c hc => ((bt_iff (by omega)).mp (hf c hc)).1
  refine itr_ix (f := mfl1 f w n) (fun i o => ∀ c, c < n → oB f o c (kN w i c)) n ?_ (fun c hc => ?_)
  · intro i o hi hI
    have A := kN_i (i := i) hw
    have B := kN_r (i := i) hw
    have D := kN_d (i := i) hw
    -- to the right
    have r1 : ∃ r, r = (if i % w + 1 < w then mfl f i (i + 1) o else o) ∧ oB f r i (kN w i i + 1) ∧ (∀ c, c < n → c ≠ i → oB f r c (kN w (i + 1) c)) ∧ ∀ c, c ≠ i → c ≠ i + 1 → r c = o c := by
      by_cases q : i % w + 1 < w
      · have hi1 : i + 1 < n := by rw [← hn]; exact mod_next (by omega) (by rw [hn]; exact hi) q
        obtain ⟨a1, a2, a3⟩ := oB_fl (c := i) (d := i + 1) (by omega) (hf i hi) (hf _ hi1) (hI i hi) (hI _ hi1) ⟨kN_le _ _ _, kN_le _ _ _⟩
        refine ⟨_, (if_pos q).symm, a1, fun c hc e => ?_, a3⟩
        by_cases e2 : c = i + 1
        · subst e2; exact oB_w a2 B (f20 _ hc)
        · exact oB_e (oB_w (hI c hc) kN_m (f20 c hc)) (a3 c e e2)
      · exact ⟨_, (if_neg q).symm, oB_w (hI i hi) (by omega) (f20 i hi), fun c hc e => oB_w (hI c hc) kN_m (f20 c hc), fun _ _ _ => rfl⟩
    obtain ⟨r, er, r1, r2, r3⟩ := r1
    have em : mfl1 f w n i o = (if i + w < n then mfl f i (i + w) r else r) := by rw [er]; rfl
    rw [em]
    intro c hc
    by_cases q : i + w < n
    · rw [if_pos q]
      have ow : oB f r (i + w) (kN w i (i + w)) := oB_e (hI _ q) (r3 _ (by omega) (by omega))
      obtain ⟨a1, a2, a3⟩ := oB_fl (c := i) (d := i + w) (by omega) (hf i hi) (hf _ q) r1 ow ⟨by omega, kN_le _ _ _⟩
      by_cases e1 : c = i
      · subst e1; exact oB_w a1 (by omega) (f20 _ hc)
      · by_cases e2 : c = i + w
        · subst e2; exact oB_w a2 D (f20 _ hc)
        · exact oB_e (r2 c hc e1) (a3 c e1 e2)
    · rw [if_neg q]
      by_cases e1 : c = i
      · subst e1; exact oB_w r1 (by omega) (f20 _ hc)
      · exact r2 c hc e1
  · have h0 : (kN w 0 c) = 0 := by unfold kN; rw [if_neg (by omega), if_neg (by omega), if_neg (by omega)]
    have z : ((0 : Int32)).toInt = 0 := by decide
    unfold oB
    rw [h0, z]
    simp
theorem madd_at {o : Nat → Int32} {f : kH} : ∀ (n a c : Nat), itr (madd1 o) n f a c = if a = 0 ∧ c < n then f 0 c + o c else f a c
  | 0, a, c => by rw [itr_0, if_neg (by omega)]
  | n + 1, a, c => by
    rw [itr_s, madd1, hs_r, madd_at n 0 n, if_neg (show ¬ ((0 : Nat) = 0 ∧ n < n) by omega)]
    by_cases q : a = 0 ∧ c = n
    · rw [if_pos q, if_pos (by omega), q.2]
    · rw [if_neg q, madd_at n a c]
      by_cases q2 : a = 0 ∧ c < n
      · rw [if_pos q2, if_pos (by omega)]
      · rw [if_neg q2, if_neg (by omega)]
theorem wf_add {f : kH} {w g n U : Nat} (hw : 2 ≤ w) (hn : w * g = n) (hf : WfF n 4200 U f) : WfF n 5900 U (itr (madd1 (itr (mfl1 f w n) n (fun _ => 0))) n f) := by
  intro c hc
  obtain ⟨h0, h1, h2, h3, h4⟩ := hf c hc
  rw [madd_at, madd_at, madd_at, madd_at, madd_at]
  refine ⟨?_, ?_, ?_, ?_, ?_⟩
  · rw [if_pos ⟨rfl, hc⟩]
    have ho := wf_flows hw hn (fun c hc => (hf c hc).1) n (Nat.le_refl n) c hc
    have hk := kN_le w n c
    rw [bt_iff (by omega)] at h0 ⊢
    unfold oB at ho
    have hq : 0 ≤ ((f 0 c).toInt - 20) / 10 := by omega
    have m1 : (kN w n c : Int) * (((f 0 c).toInt - 20) / 10) ≤ 4 * (((f 0 c).toInt - 20) / 10) := Int.mul_le_mul_of_nonneg_right (by omega) hq
    rw [ti_add (by omega) (by omega)]
    omega
  · rw [if_neg (by omega)]; exact h1
  · rw [if_neg (by omega)]; exact h2
  · rw [if_neg (by omega)]; exact h3
  · rw [if_neg (by omega)]; exact h4
theorem mset_i {f : kH} {a c i : Nat} {t : Int32} (e : c ≠ i) : mset i t f a c = f a c := by
  unfold mset
  by_cases q : t < nI 200
  · rw [if_pos q, hs_i e]
  · rw [if_neg q, hs_i e, hs_i e]
/-- what is lost by cooling, in plain numbers -/
def lostN (l cov a : Nat) : Nat := if cov = 0 then (a - 20) * l / 100 else (a - 20) * l / 100 / 2
theorem lostN_le {l cov a : Nat} (hl : l ≤ 39) (ha : 20 ≤ a) : lostN l cov a ≤ a - 20 := by
  have h1 : (a - 20) * l ≤ (a - 20) * 39 := Nat.mul_le_mul_left _ hl
  unfold lostN
  split <;> omega
theorem cool_n {ru : Nat → Int32} {x f0 f4 : Int32} {l y cov a : Nat} (h2 : ru 2 = nI l) (hx : x = nI y) (hl : l ≤ 30) (hy : y ≤ 9) (h0 : f0 = nI a) (ha : 20 ≤ a) (ha2 : a ≤ 5900) (h4 : f4 = nI cov) (hc : cov ≤ 1) : (if f4 = 0 then (f0 - nI 20) * (ru 2 + x) / nI 100 else (f0 - nI 20) * (ru 2 + x) / nI 100 / nI 2) = nI (lostN (l + y) cov a) := by
  have hm : (a - 20) * (l + y) ≤ 5880 * 39 := Nat.mul_le_mul (by omega) (by omega)
  rw [h0, h2, hx, h4, pk_sub ha, nI_add, pk_mul, pk_div (by omega) (by omega) (by omega), pk_div (by omega) (by omega) (by omega)]
  unfold lostN
  by_cases q : cov = 0
  · rw [if_pos q, if_pos (by rw [q]; exact nI_00)]
  · rw [if_neg q, if_neg (fun z => q ((nI_eq0 (by omega)).mp z))]
theorem wf_cool {ru : Nat → Int32} {x : Int32} {w g n U : Nat} {f : kH} (hr : WfR ru w g) (hx : bt x 0 9) (hf : WfF n 5900 U f) : WfF n 3000 U (itr (mcool1 ru x) n f) := by
  have key := itr_ix (f := mcool1 ru x) (fun i f => ∀ c, c < n → (bt (f 0 c) 20 5900 ∧ (c < i → bt (f 0 c) 20 3000)) ∧ bt (f 1 c) 0 U ∧ bt (f 2 c) 0 2 ∧ bt (f 3 c) 0 1 ∧ bt (f 4 c) 0 1) n ?_ (a := f) (fun c hc => ⟨⟨(hf c hc).1, fun z => absurd z (by omega)⟩, (hf c hc).2⟩) n (Nat.le_refl n)
  · exact fun c hc => ⟨(key c hc).1.2 hc, (key c hc).2⟩
  · intro i f1 hi hI c hc
    by_cases e : c = i
    · subst e
      obtain ⟨⟨⟨a, a1, a2, a3⟩, -⟩, h1, h2, h3, ⟨cov, -, v2, v3⟩⟩ := hI c hc
      obtain ⟨l, l1, l2, l3⟩ := hr.2.2.2.2.1
      obtain ⟨y, -, y2, y3⟩ := hx
      have hl := lostN_le (l := l + y) (cov := cov) (a := a) (by omega) a1
      rw [mcool1, cool_n l3 y3 l2 y2 a3 a1 a2 v3 v2, a3, pk_sub (by omega), mmin]
      have et : ∃ t, 20 ≤ t ∧ t ≤ 3000 ∧ (if nI (a - lostN (l + y) cov a) < nI 3000 then nI (a - lostN (l + y) cov a) else nI 3000) = nI t := by
        by_cases q : a - lostN (l + y) cov a < 3000
        · exact ⟨_, by omega, by omega, if_pos ((nI_ltI (by omega) (by omega)).mpr q)⟩
        · exact ⟨3000, by omega, by omega, if_neg (fun z => q ((nI_ltI (by omega) (by omega)).mp z))⟩
      obtain ⟨t, t1, t2, t3⟩ := et
      rw [t3, mset]
      have b0 : bt (nI t) 20 3000 := bt_n t1 t2
      by_cases q : nI t < nI 200
      · rw [if_pos q]
        simp (disch := omega) only [hs_s, hs_k]
        exact ⟨⟨bt_w b0 (by omega) (by omega), fun _ => b0⟩, h1, h2, h3, by rw [v3]; exact bt_n (by omega) v2⟩
      · rw [if_neg q]
        simp (disch := omega) only [hs_s, hs_k]
        exact ⟨⟨bt_w b0 (by omega) (by omega), fun _ => b0⟩, h1, h2, bt_n (by omega) (by omega), by rw [v3]; exact bt_n (by omega) v2⟩
    · simp only [mcool1, mset_i e]
      exact ⟨⟨(hI c hc).1.1, fun _ => (hI c hc).1.2 (by omega)⟩, (hI c hc).2⟩
theorem wf_fire {ru : Nat → Int32} {x : Int32} {w g n U : Nat} {f : kH} (hr : WfR ru w g) (hn : w * g = n) (hx : bt x 0 9) (hU : U < 100000) (hf : WfF n 3000 U f) : WfF n 3000 U (mfire ru x w n f) := by
  unfold mfire
  exact wf_cool hr hx (wf_add hr.2.2.1.1 hn (wf_burn hr hf hU))
