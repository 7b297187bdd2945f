/-! words for the sums: evaluation of the pure programs, loops, rows of numbers -/
theorem gd_t {α : Type} {c : Bool} {x : Option α} (h : c = true) : gd c x = x := if_pos h
theorem le_d {α β : Type} (v : α) (f : α → Option β) : le_ v f = f v := rfl
theorem bd_s {α β : Type} (a : α) (f : α → Option β) : bd (some a) f = f a := rfl
theorem bd2_s {α β γ : Type} (a : α) (b : β) (f : α → β → Option γ) : bd2 (some (a, b)) f = f a b := rfl
theorem bd_o {α β : Type} {x : Option α} {a : α} {f : α → Option β} (e : x = some a) : bd x f = f a := by rw [e]; rfl
theorem bd2_o {α β γ : Type} {x : Option (α × β)} {a : α} {b : β} {f : α → β → Option γ} (e : x = some (a, b)) : bd2 x f = f a b := by rw [e]; rfl
theorem inb_n {i n : Nat} (h : i < n) (hn : n < 2 ^ 31) : inb (nI i) n = true := by
  simp only [inb, Bool.and_eq_true, decide_eq_true_eq]
  exact ⟨nI_pos' (by omega), by rw [nI_clamp (by omega)]; exact h⟩
theorem hs_r (h : kH) (k i : Nat) (x : Int32) (k' i' : Nat) : hs h k i x k' i' = if k' = k ∧ i' = i then x else h k' i' := by
  unfold hs sr upd
  by_cases h1 : k' = k
  · subst h1
    by_cases h2 : i' = i
    · subst h2; simp
    · simp [h2]
  · simp [h1]
theorem hs_s (h : kH) (k i : Nat) (x : Int32) : hs h k i x k i = x := by rw [hs_r]; simp
theorem hs_k {h : kH} {k i k' : Nat} {x : Int32} (e : k' ≠ k) : hs h k i x k' = h k' := by
  funext c
  rw [hs_r, if_neg (fun q => e q.1)]
theorem hs_i {h : kH} {k i k' i' : Nat} {x : Int32} (e : i' ≠ i) : hs h k i x k' i' = h k' i' := by
  rw [hs_r, if_neg (fun q => e q.2)]
theorem hs_same (h : kH) (k i : Nat) : hs h k i (h k i) = h := by
  funext a c
  rw [hs_r]
  by_cases e : a = k ∧ c = i
  · rw [if_pos e, e.1, e.2]
  · rw [if_neg e]
/-- a loop with its invariant -/
theorem fx_inv {σ ρ : Type} {F : (σ → Option ρ) → σ → Option ρ} (I : Nat → σ → Prop) (Q : Option ρ → Prop) (N : Nat)
    (hs : ∀ i s, i < N → I i s → ∀ K, (∀ s', I (i + 1) s' → Q (K s')) → Q (F K s)) (hl : ∀ s, I N s → ∀ K, Q (F K s)) : ∀ (n i : Nat) (s : σ), i ≤ N → N - i < n → I i s → Q (fx F n s) := by
  intro n
  induction n with
  | zero => intro i s _ h2; exact absurd h2 (by omega)
  | succ n ih =>
    intro i s h1 h2 hI
    show Q (F (fx F n) s)
    by_cases hi : i = N
    · subst hi; exact hl s hI _
    · exact hs i s (by omega) hI _ (fun s' hI' => ih (i + 1) s' (by omega) (by omega) hI')
/-- the same from 0, with the usual room -/
theorem fx_0 {σ ρ : Type} {F : (σ → Option ρ) → σ → Option ρ} (I : Nat → σ → Prop) (Q : Option ρ → Prop) (N : Nat) (hN : N < 3000) {s : σ} (h0 : I 0 s)
    (hs : ∀ i s, i < N → I i s → ∀ K, (∀ s', I (i + 1) s' → Q (K s')) → Q (F K s)) (hl : ∀ s, I N s → ∀ K, Q (F K s)) : Q (fx F FU s) :=
  fx_inv I Q N hs hl FU 0 s (Nat.zero_le _) (show N - 0 < 3000 by omega) h0
/-- n steps one behind the other -/
def itr {α : Type} (f : Nat → α → α) : Nat → α → α
  | 0, a => a
  | n + 1, a => f n (itr f n a)
theorem itr_s {α : Type} (f : Nat → α → α) (n : Nat) (a : α) : itr f (n + 1) a = f n (itr f n a) := rfl
theorem itr_0 {α : Type} (f : Nat → α → α) (a : α) : itr f 0 a = a := rfl
theorem itr_inv {α : Type} {f : Nat → α → α} (I : α → Prop) (N : Nat) (hs : ∀ i a, i < N → I a → I (f i a)) {a : α} (h0 : I a) : ∀ n, n ≤ N → I (itr f n a)
  | 0, _ => h0
  | n + 1, h => hs n _ (by omega) (itr_inv I N hs h0 n (by omega))
/-- a number between two bounds -/
def bt (x : Int32) (lo hi : Nat) : Prop := ∃ k : Nat, lo ≤ k ∧ k ≤ hi ∧ x = nI k
theorem bt_w {x : Int32} {a b c d : Nat} (h : bt x a b) (h1 : c ≤ a) (h2 : b ≤ d) : bt x c d := by
  obtain ⟨k, q1, q2, q3⟩ := h
  exact ⟨k, by omega, by omega, q3⟩
theorem bt_n {k lo hi : Nat} (h1 : lo ≤ k) (h2 : k ≤ hi) : bt (nI k) lo hi := ⟨k, h1, h2, rfl⟩
theorem bt_iff {x : Int32} {lo hi : Nat} (hh : hi < 2 ^ 31) : bt x lo hi ↔ (lo : Int) ≤ x.toInt ∧ x.toInt ≤ (hi : Int) := by
  constructor
  · rintro ⟨k, h1, h2, rfl⟩
    rw [nI_toInt (by omega)]
    omega
  · rintro ⟨h1, h2⟩
    refine ⟨x.toInt.toNat, by omega, by omega, ?_⟩
    refine Int32.toInt_inj.mp ?_
    rw [nI_toInt (by omega)]
    omega
theorem toInt_le {x y : Int32} : x ≤ y ↔ x.toInt ≤ y.toInt := Int32.le_iff_toInt_le
theorem toInt_lt {x y : Int32} : x < y ↔ x.toInt < y.toInt := Int32.lt_iff_toInt_lt
theorem toInt_eq {x y : Int32} : x = y ↔ x.toInt = y.toInt := Int32.toInt_inj.symm
theorem nI_eq0 {n : Nat} (h : n < 2 ^ 31) : nI n = 0 ↔ n = 0 := by
  rw [← nI_0]; exact nI_eq h (by omega)
theorem nI_10 : ¬ nI 1 = 0 := by decide
theorem nI_00 : nI 0 = 0 := by decide
theorem krem_n {a d : Nat} (ha : a < 2 ^ 31) (h0 : 0 < d) (hd : d < 2 ^ 31) : krem (nI a) (nI d) = nI (a % d) := pk_rem ha h0 hd
/-- a loop whose state is its counter and what it works on -/
theorem fx_m {σ ρ α : Type} {F : (σ → Option ρ) → σ → Option ρ} (mk : Nat → α → σ) (I : Nat → α → Prop) (Q : Option ρ → Prop) (N : Nat) (hN : N < 3000) {a : α} (h0 : I 0 a)
    (hs : ∀ i a, i < N → I i a → ∀ K, (∀ a', I (i + 1) a' → Q (K (mk (i + 1) a'))) → Q (F K (mk i a))) (hl : ∀ a, I N a → ∀ K, Q (F K (mk N a))) : Q (fx F FU (mk 0 a)) :=
  fx_0 (fun i s => ∃ a, s = mk i a ∧ I i a) Q N hN ⟨a, rfl, h0⟩
    (fun i s hi hI K hK => by
      obtain ⟨a, rfl, hI⟩ := hI
      exact hs i a hi hI K (fun a' h' => hK _ ⟨a', rfl, h'⟩))
    (fun s hI K => by
      obtain ⟨a, rfl, hI⟩ := hI
      exact hl a hI K)
theorem gd_i {α : Type} {i n : Nat} {x : Option α} (h : i < n) (hn : n < 2 ^ 31) : gd (inb (nI i) n) x = x := gd_t (inb_n h hn)
theorem gd_n {α : Type} {i : Nat} {x : Option α} (h0 : 0 < i) (h : i < 2 ^ 31) : gd (decide (¬ nI i = 0)) x = x := gd_t (decide_eq_true (nI_ne0 h0 h))
theorem nar_b0 : vp_nar .boolean (nI 0) = nI 0 := by decide
theorem nar_b1 : vp_nar .boolean (nI 1) = nI 1 := by decide
theorem nar_b {x : Int32} (h : bt x 0 1) : vp_nar .boolean x = x := by
  obtain ⟨k, -, h2, rfl⟩ := h
  rcases (show k = 0 ∨ k = 1 by omega) with rfl | rfl
  · exact nar_b0
  · exact nar_b1
theorem hs_comm {h : kH} {k i k' i' : Nat} {x x' : Int32} (e : i ≠ i') : hs (hs h k i x) k' i' x' = hs (hs h k' i' x') k i x := by
  funext a c
  simp only [hs_r]
  by_cases h1 : c = i
  · have h2 : ¬ c = i' := fun q => e (h1.symm.trans q)
    simp [h2]
  · simp [h1]
/-- it ends well, with P -/
def okp {α : Type} (P : α → Prop) (r : Option α) : Prop := ∃ a, r = some a ∧ P a
theorem okp_s {α : Type} {P : α → Prop} {a : α} (h : P a) : okp P (some a) := ⟨a, rfl, h⟩
