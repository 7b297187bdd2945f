/-! lies, the reference: is it a way -/
def dn (K i : Nat) : Int32 := if i < K then nI (K - (i + 1)) else -1
theorem dn_s {K i : Nat} (hi : i < K) (hK : K ≤ 4) : dn K i + (-1 : Int32) = dn K (i + 1) := by
  unfold dn
  rw [if_pos hi]
  by_cases e : i + 1 < K
  · rw [if_pos e, dec_n (by omega) (by omega), Nat.sub_sub]
  · rw [if_neg e, show K - (i + 1) = 0 by omega]; decide
theorem ly_0 {sp : Nat → Int32} {S K v i : Nat} {p : kH} : lyP sp S K v p 0 i = if i < K then sp (dgt S K v i) else p 0 i := by
  unfold lyP
  by_cases e : i < K
  · rw [if_pos e, itr_one (f := ly1 sp S K v) (fun _ _ => one_hs) K e, ly1, hs_s]
  · rw [if_neg e]; exact itr_un (f := ly1 sp S K v) (fun _ _ => one_hs) K 0 i (by omega)
def okJ (sp : Nat → Int32) (S K v m : Nat) (p : kH) (j : Nat) : Bool := !anyN (fun i => decide (dgt S K v j = dgt S K v i)) j && !anyN (fun i => decide (K ≤ i) && decide (sp (dgt S K v j) = p 0 i)) m
def wyB (sp : Nat → Int32) (S K v m : Nat) (p : kH) (j : Nat) : Bool := !anyN (fun j => !okJ sp S K v m p j) j
theorem wyB_s {sp : Nat → Int32} {S K v m j : Nat} {p : kH} : wyB sp S K v m p (j + 1) = (wyB sp S K v m p j && okJ sp S K v m p j) := by
  unfold wyB
  rw [anyN]
  cases anyN (fun j => !okJ sp S K v m p j) j <;> cases okJ sp S K v m p j <;> rfl
theorem way_eq {sp : Nat → Int32} {S K v m : Nat} {p : kH} (hS : 1 ≤ S) (hKm : K ≤ m) (hds : ∀ i j, i < S → j < S → sp i = sp j → i = j) (hdp : ∀ i j, i < m → j < m → p 0 i = p 0 j → i = j) : wyB sp S K v m p K = !twoB m (fun i => lyP sp S K v p 0 i) := by
  have a : twoB m (fun i => lyP sp S K v p 0 i) = false → anyN (fun j => !okJ sp S K v m p j) K = false := by
    intro q
    have no : ∀ i j, i < j → j < m → ¬ lyP sp S K v p 0 i = lyP sp S K v p 0 j := by
      intro i j h1 h2 e
      have := anyN_f (f := fun j => decide (i < j) && decide (lyP sp S K v p 0 i = lyP sp S K v p 0 j)) (anyN_f (f := fun i => anyN (fun j => decide (i < j) && decide (lyP sp S K v p 0 i = lyP sp S K v p 0 j)) m) q (show i < m by omega)) h2
      simp [h1, e] at this
    refine anyN_no (fun j hj => ?_)
    have n1 : anyN (fun i => decide (dgt S K v j = dgt S K v i)) j = false := by
      refine anyN_no (fun i hi => decide_eq_false (fun e => no i j hi (by omega) ?_))
      rw [ly_0, ly_0, if_pos (by omega), if_pos hj, e]
    have n2 : anyN (fun i => decide (K ≤ i) && decide (sp (dgt S K v j) = p 0 i)) m = false := by
      refine anyN_no (fun i hi => ?_)
      by_cases z : K ≤ i
      · rw [decide_eq_false (p := sp (dgt S K v j) = p 0 i) (fun e => no j i (by omega) hi (by rw [ly_0, ly_0, if_pos hj, if_neg (by omega)]; exact e)), Bool.and_false]
      · rw [decide_eq_false z, Bool.false_and]
    rw [okJ, n1, n2]; rfl
  have b : anyN (fun j => !okJ sp S K v m p j) K = false → twoB m (fun i => lyP sp S K v p 0 i) = false := by
    intro q
    have ok : ∀ j, j < K → (∀ i, i < j → ¬ dgt S K v j = dgt S K v i) ∧ (∀ i, K ≤ i → i < m → ¬ sp (dgt S K v j) = p 0 i) := by
      intro j hj
      have h1 := anyN_f (f := fun j => !okJ sp S K v m p j) q hj
      have h2 : okJ sp S K v m p j = true := by
        cases z : okJ sp S K v m p j
        · simp [z] at h1
        · rfl
      unfold okJ at h2
      obtain ⟨h3, h4⟩ := and_t h2
      rw [Bool.not_eq_true'] at h3 h4
      constructor
      · intro i hi e
        have := anyN_f (f := fun i => decide (dgt S K v j = dgt S K v i)) h3 hi
        simp [e] at this
      · intro i hi hi2 e
        have := anyN_f (f := fun i => decide (K ≤ i) && decide (sp (dgt S K v j) = p 0 i)) h4 hi2
        simp [e, hi] at this
    refine anyN_no (fun i hi => anyN_no (fun j hj => ?_))
    by_cases l : i < j
    · have : ¬ lyP sp S K v p 0 i = lyP sp S K v p 0 j := by
        intro e
        rw [ly_0, ly_0] at e
        by_cases jk : j < K
        · rw [if_pos jk, if_pos (by omega)] at e
          exact (ok j jk).1 i l (hds _ _ (dgt_lt hS) (dgt_lt hS) e).symm
        · rw [if_neg jk] at e
          by_cases ik : i < K
          · rw [if_pos ik] at e
            exact (ok i ik).2 j (by omega) hj e
          · rw [if_neg ik] at e
            have := hdp i j hi hj e
            omega
      rw [decide_eq_false this, Bool.and_false]
    · rw [decide_eq_false l, Bool.false_and]
  unfold wyB
  cases q1 : anyN (fun j => !okJ sp S K v m p j) K
  · rw [b q1]
  · cases q2 : twoB m (fun i => lyP sp S K v p 0 i)
    · rw [a q2] at q1; cases q1
    · rfl
theorem b1_ni {b : Bool} : b1 b &&& 1 = b1 b := by cases b <;> decide
section
variable {S K v m : Nat} {p : kH} {sp : Nat → Int32} {h : kH}
/-- the flag of pot j, from the flags before -/
theorem rq_isWay44 {Q : Option (Int32 × kH) → Prop} {K44 : Int32 × Int32 × Int32 × kH → Option (Int32 × kH)} {j : Nat} {B : Bool} (hS1 : 1 ≤ S) (hS6 : S ≤ 6) (hK : K ≤ 4) (hKm : K ≤ m) (hm : m ≤ 6) (hj : j < K) (hc : h 138 0 = nI m) (hsp : ∀ j, j < S → h 144 j = sp j) (hp : rP h 0 m = p) (h148 : ∀ j, j < K → h 148 j = nI (dgt S K v j)) (nx : Q (K44 (nI K, b1 (B && okJ sp S K v m p j), nI (j + 1), h))) : Q (p_X8_isWay_44 K44 (nI K) (b1 B) (nI j) h) := by
  have dj := dgt_lt (S := S) (K := K) (v := v) (j := j) hS1
  rw [p_X8_isWay_44, if_neg (nI_ge hj (show K < 2 ^ 31 by omega))]
  refine fx_m (fun i (a : Bool) => (nI K, b1 a, nI j, nI i, h)) (fun i a => a = (B && !anyN (fun i => decide (dgt S K v j = dgt S K v i)) i)) Q j (by omega) (a := B) (by rw [anyN]; cases B <;> rfl) ?_ ?_
  · rintro i a hi rfl K' hK'
    have di := dgt_lt (S := S) (K := K) (v := v) (j := i) hS1
    have nx' : ∀ b : Bool, b = (B && !anyN (fun i => decide (dgt S K v j = dgt S K v i)) (i + 1)) → Q (K' (nI K, b1 b, nI j, nI (i + 1), h)) := fun b hb => hK' b hb
    simp (disch := omega) only [p_X8_isWay_53, p_X8_isWay_86, p_X8_isWay_87, if_neg (nI_ge hi (show j < 2 ^ 31 by omega)), gd_i, nI_clamp, h148 j hj, h148 i (by omega), nI_add, b1_if]
    cases q : (B && !anyN (fun i => decide (dgt S K v j = dgt S K v i)) i)
    · rw [if_neg (by decide)]
      refine nx' false ?_
      rw [anyN]
      cases B
      · rfl
      · rw [Bool.true_and, Bool.not_eq_false'] at q
        rw [q]; rfl
    · rw [if_pos rfl]
      obtain ⟨q1, q2⟩ := and_t q
      rw [Bool.not_eq_true'] at q2
      by_cases e : dgt S K v j = dgt S K v i
      · rw [if_pos (by rw [e])]
        exact nx' false (by rw [anyN, q1, q2]; simp [e])
      · rw [if_neg (fun z => e (nI_inj (by omega) (by omega) z))]
        exact nx' true (by rw [anyN, q1, q2]; simp [e])
  · rintro a rfl K'
    simp only [p_X8_isWay_53, if_pos (nI_le (Nat.le_refl j) (show j < 2 ^ 31 by omega))]
    refine fx_m (fun t (a : Bool) => (nI K, b1 a, nI j, nI (K + t), h)) (fun t a => a = ((B && !anyN (fun i => decide (dgt S K v j = dgt S K v i)) j) && !anyN (fun i => decide (K ≤ i) && decide (sp (dgt S K v j) = p 0 i)) (K + t))) Q (m - K) (by omega) (a := (B && !anyN (fun i => decide (dgt S K v j = dgt S K v i)) j)) (by rw [Nat.add_zero, anyN_no (f := fun i => decide (K ≤ i) && decide (sp (dgt S K v j) = p 0 i)) (n := K) (fun i hi => by rw [decide_eq_false (show ¬ K ≤ i by omega), Bool.false_and])]; simp) ?_ ?_
    · rintro t a ht rfl K2 hK2
      have wi : h 143 (200 * 0 + 150 + 8 * (K + t) + 0) = p 0 (K + t) := by rw [← hp, rP_at (a := 0) (by omega) (by omega)]
      have nx' : ∀ b : Bool, b = ((B && !anyN (fun i => decide (dgt S K v j = dgt S K v i)) j) && !anyN (fun i => decide (K ≤ i) && decide (sp (dgt S K v j) = p 0 i)) (K + t + 1)) → Q (K2 (nI K, b1 b, nI j, nI (K + t + 1), h)) := fun b hb => hK2 b hb
      simp (disch := omega) only [p_X8_isWay_98, p_X8_isWay_146, p_X8_isWay_147, gd_i, nI_clamp, hc, if_neg (nI_ge (show K + t < m by omega) (show m < 2 ^ 31 by omega)), h148 j hj, hsp _ dj, rq_potAt, bd2_s, nI_add, wi, b1_if]
      cases q : ((B && !anyN (fun i => decide (dgt S K v j = dgt S K v i)) j) && !anyN (fun i => decide (K ≤ i) && decide (sp (dgt S K v j) = p 0 i)) (K + t))
      · rw [if_neg (by decide)]
        refine nx' false ?_
        rw [anyN]
        cases z : (B && !anyN (fun i => decide (dgt S K v j = dgt S K v i)) j)
        · rfl
        · rw [z, Bool.true_and, Bool.not_eq_false'] at q
          rw [q]; rfl
      · rw [if_pos rfl]
        obtain ⟨q1, q2⟩ := and_t q
        rw [Bool.not_eq_true'] at q2
        by_cases e : sp (dgt S K v j) = p 0 (K + t)
        · rw [if_pos e]
          exact nx' false (by rw [anyN, q1, q2]; simp [e])
        · rw [if_neg e]
          exact nx' true (by rw [anyN, q1, q2]; simp [e])
    · rintro a rfl K2
      dsimp only
      rw [show K + (m - K) = m by omega]
      simp (disch := omega) only [p_X8_isWay_98, gd_i, nI_clamp, hc, if_pos (nI_le (Nat.le_refl m) (show m < 2 ^ 31 by omega)), nI_add]
      rw [Bool.and_assoc]
      exact nx
theorem rq_isWay (hS : h 135 11 = nI S) (hS1 : 1 ≤ S) (hS6 : S ≤ 6) (hK1 : 1 ≤ K) (hK : K ≤ 4) (hKm : K ≤ m) (hm : m ≤ 6) (hv : v < 2 ^ 31) (hc : h 138 0 = nI m) (hsp : ∀ j, j < S → h 144 j = sp j) (hp : rP h 0 m = p) : ∃ h', p_X8_isWay (nI v) (nI K) h = some (b1 (wyB sp S K v m p K), h') ∧ (∀ j, j < K → h' 148 j = nI (dgt S K v j)) ∧ ∀ k, k ≠ 148 → h' k = h k := by
  suffices H : okp (fun q : Int32 × kH => q.1 = b1 (wyB sp S K v m p K) ∧ (∀ j, j < K → q.2 148 j = nI (dgt S K v j)) ∧ ∀ k, k ≠ 148 → q.2 k = h k) (p_X8_isWay (nI v) (nI K) h) by
    obtain ⟨⟨r, h'⟩, e, rfl, u⟩ := H
    exact ⟨h', e, u⟩
  unfold p_X8_isWay
  rw [show nI K - nI 1 = dn K 0 by rw [dn, if_pos (by omega), pk_sub (by omega)]]
  refine fx_m (fun i (a : Nat × kH) => (nI K, nI a.1, nI 1, dn K i, a.2)) (fun i a => a.1 = v / S ^ i ∧ (∀ j, K - i ≤ j → j < K → a.2 148 j = nI (dgt S K v j)) ∧ ∀ k, k ≠ 148 → a.2 k = h k) _ K (by omega) (a := (v, h)) ⟨by rw [Nat.pow_zero, Nat.div_one], fun j a b => absurd b (by omega), fun _ _ => rfl⟩ ?_ ?_
  · rintro i ⟨a, h1⟩ hi ⟨ha, hd, hk⟩ K' hK'
    dsimp only at ha hd hk ⊢
    subst ha
    have ha : v / S ^ i < 2 ^ 31 := Nat.lt_of_le_of_lt (Nat.div_le_self _ _) hv
    have en : dn K i = nI (K - (i + 1)) := if_pos hi
    have nn : ¬ nI (K - (i + 1)) < 0 := by rw [lt_z, nI_toInt (by omega)]; omega
    have eS : h1 135 11 = nI S := by rw [hk _ (by omega)]; exact hS
    have eD : nI (K - (i + 1)) + (-1 : Int32) = dn K (i + 1) := by rw [← en]; exact dn_s hi hK
    simp (disch := omega) only [p_X8_isWay_10, en, if_neg nn, eS, gd_n, gd_i, nI_clamp, le_d, krem_n, hs_k, pk_div, eD]
    refine hK' (v / S ^ i / S, hs h1 148 (K - (i + 1)) (nI (v / S ^ i % S))) ⟨div_s, fun j a b => ?_, fun k k1 => by dsimp only; rw [hs_k k1]; exact hk k k1⟩
    dsimp only
    by_cases e : j = K - (i + 1)
    · subst e
      rw [hs_s, dgt, show K - 1 - (K - (i + 1)) = i by omega]
    · rw [hs_i e]; exact hd j (by omega) b
  · rintro ⟨a, h1⟩ ⟨ha, hd, hk⟩ K'
    dsimp only at ha hd hk ⊢
    have en : dn K K = -1 := if_neg (by omega)
    have hd' : ∀ j, j < K → h1 148 j = nI (dgt S K v j) := fun j hj => hd j (by omega) hj
    have hp1 : rP h1 0 m = p := by rw [← hp]; exact rP_e hm (fun j _ _ => by rw [hk _ (by omega)]) (hk _ (by omega)) (hk _ (by omega))
    simp only [p_X8_isWay_10, en, if_pos (show (-1 : Int32) < 0 by decide)]
    refine fx_m (fun j (a : Bool) => (nI K, b1 a, nI j, h1)) (fun j a => a = wyB sp S K v m p j) _ K (by omega) (a := true) rfl ?_ ?_
    · rintro j a hj rfl K2 hK2
      dsimp only
      exact rq_isWay44 (S := S) (v := v) hS1 hS6 hK hKm hm hj (by rw [hk _ (by omega)]; exact hc) (fun j hj => by rw [hk _ (by omega)]; exact hsp j hj) hp1 hd' (hK2 _ wyB_s.symm)
    · rintro a rfl K2
      simp only [p_X8_isWay_44, if_pos (nI_le (Nat.le_refl K) (show K < 2 ^ 31 by omega))]
      rw [gd_t (decide_eq_true b1_ni)]
      exact okp_s ⟨rfl, hd', hk⟩
end
