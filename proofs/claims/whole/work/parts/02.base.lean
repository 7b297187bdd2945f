/-! values, tags, the world as a function, and the judgement V over it -/
abbrev kT : Type := Nat × Nat
abbrev kV : Type := Int32 ⊕ (Int64 ⊕ (kT × Nat))
abbrev kH : Type := Nat → Nat → Int32
abbrev iv (x : Int32) : kV := Sum.inl x
abbrev jv (x : Int64) : kV := Sum.inr (Sum.inl x)
abbrev rv (t : kT) (k : Nat) : kV := Sum.inr (Sum.inr (t, k))
/-- launch, base address, class tables, array kinds (int, byte, boolean), static tables' and the script's addresses, the cells' addresses, the script -/
abbrev kG : Type := Launch × Nat × va_G × (ClassId × ClassId × ClassId) × (Nat → Nat) × (Nat → Nat) × (Nat × (Nat → Int32))
abbrev g_l (G : kG) : Launch := G.1
abbrev g_b (G : kG) : Nat := G.2.1
abbrev g_D (G : kG) : va_G := G.2.2.1
abbrev g_I (G : kG) : ClassId := G.2.2.2.1.1
abbrev g_B (G : kG) : ClassId := G.2.2.2.1.2.1
abbrev g_Z (G : kG) : ClassId := G.2.2.2.1.2.2
abbrev g_s (G : kG) : Nat → Nat := G.2.2.2.2.1
abbrev g_a (G : kG) : Nat → Nat := G.2.2.2.2.2.1
abbrev g_n (G : kG) : Nat := G.2.2.2.2.2.2.1
abbrev g_xs (G : kG) : Nat → Int32 := G.2.2.2.2.2.2.2
abbrev k_ty (G : kG) : List (ClassId × FieldType) := [(g_I G, .int), (g_B G, .byte), (g_Z G, .boolean)]
abbrev k_A (G : kG) : Nat → Prop := fun q => g_b G ≤ q
def kc_v (G : kG) : kV → Value
  | .inl x => .int x
  | .inr (.inl x) => .long x
  | .inr (.inr (t, k)) => .ref (if t.1 = 12 then g_s G t.2 else g_a G k)
def ok_v (T : List kT) : kV → Prop
  | .inl _ => True
  | .inr (.inl _) => True
  | .inr (.inr (t, k)) => (t.1 < 12 ∧ ∃ m, T[k]? = some (t.1, m) ∧ (9 ≤ t.1 → m = t.2) ∧ (t.2 = 99 → m = 99)) ∨ (t.1 = 12 ∧ t.2 < 11)
theorem kc_r {G : kG} {t : kT} {k : Nat} (h : t.1 < 12) : kc_v G (rv t k) = .ref (g_a G k) := by
  have h1 : ¬ t.1 = 12 := by omega
  simp [kc_v, h1]
/-- the fields of a class by their slots: an int, or a part at a fixed distance -/
def k_fd : Nat → List (Option (Nat × kT))
  | 0 => [some (1, (9, 7200))]
  | 1 => [some (1, (9, 30)), some (2, (9, 30)), some (3, (9, 30)), some (4, (11, 30)), some (5, (11, 30)), some (6, (9, 30))]
  | 2 => [some (1, (1, 99)), some (8, (4, 99)), none]
  | 3 => [some (1, (5, 99)), some (4, (1, 99)), some (11, (4, 99)), some (23, (9, 6)), some (24, (9, 6)), some (25, (9, 6))]
  | 4 => [none, some (1, (9, 6)), some (2, (9, 6)), some (3, (9, 6)), some (4, (9, 6)), some (5, (9, 6)), some (6, (9, 6)), some (7, (9, 6)), some (8, (9, 6)), some (9, (9, 6)), some (10, (11, 6)), some (11, (11, 6))]
  | 5 => [none, none, some (1, (9, 3)), some (2, (9, 3)), none, none, none, none, none, none]
  | 6 => [none, none, none, none, none]
  | 7 => [some (1, (10, 500)), none, some (2, (3, 99)), some (28, (5, 99)), some (31, (2, 99)), some (51, (2, 99)), some (71, (2, 99)), some (91, (2, 99)), some (111, (2, 99)), none, some (131, (9, 6)), none, some (132, (0, 99)), some (134, (6, 99))]
  | 8 => [none, some (1, (10, 500)), none, some (2, (9, 28)), some (3, (9, 2)), some (4, (9, 6)), some (5, (9, 6)), some (6, (9, 36)), some (7, (9, 120)), some (8, (9, 800)), none, none, some (9, (9, 6)), some (10, (9, 30)), some (11, (9, 6)), some (12, (11, 6)), some (13, (9, 4)), some (14, (9, 4)), some (15, (9, 5)), some (16, (9, 6))]
  | _ => []
def k_f1 (G : kG) (k : Nat) (t : kT) (row : Nat → Int32) (i : Nat) : Value := match (k_fd t.1).getD i none with
  | none => .int (row i)
  | some q => if i < t.2 then .ref (g_a G (k + q.1)) else .null
def k_fv (G : kG) (k : Nat) (t : kT) (row : Nat → Int32) : List Value := (List.range (k_fd t.1).length).map (k_f1 G k t row)
def k_ce (G : kG) (k : Nat) (t : kT) (row : Nat → Int32) : va_E := if t.1 = 9 then .inl (g_I G, t.2, .inl row) else if t.1 = 10 then .inl (g_B G, t.2, .inl row) else if t.1 = 11 then .inl (g_Z G, t.2, .inl row) else .inr (t.1, k_fv G k t row)
def k_wl (G : kG) (T : List kT) (h : kH) : va_W := (List.range T.length).map fun k => (g_a G k, k_ce G k (T.getD k (6, 99)) (h k))
/-- every part of an object that is made stands where its kind says -/
def k_WF (T : List kT) : Prop := ∀ (k : Nat) (t : kT), T[k]? = some t → t.1 < 9 → ∀ (i : Nat) (q : Nat × kT), (k_fd t.1)[i]? = some (some q) → i < t.2 → T[k + q.1]? = some q.2
def sr (h : kH) (k : Nat) (row : Nat → Int32) : kH := fun r => if r = k then row else h r
theorem sr_s (h : kH) (k : Nat) (row : Nat → Int32) : sr h k row k = row := if_pos rfl
theorem sr_n (h : kH) {k r : Nat} (row : Nat → Int32) (e : r ≠ k) : sr h k row r = h r := if_neg e
theorem k_wl_len (G : kG) (T : List kT) (h : kH) : (k_wl G T h).length = T.length := by simp [k_wl]
theorem k_wl_at {G : kG} {T : List kT} {h : kH} {k : Nat} {t : kT} (ht : T[k]? = some t) : (k_wl G T h)[k]? = some (g_a G k, k_ce G k t (h k)) := by
  have hl := (List.getElem?_eq_some_iff.mp ht).1
  simp [k_wl, List.getElem?_map, List.getElem?_range hl, List.getD_eq_getElem?_getD, ht]
theorem k_wl_of {G : kG} {T : List kT} {h : kH} {k : Nat} {q : Nat × va_E} (hq : (k_wl G T h)[k]? = some q) : ∃ t, T[k]? = some t ∧ q = (g_a G k, k_ce G k t (h k)) := by
  have hl : k < T.length := by have := (List.getElem?_eq_some_iff.mp hq).1; rwa [k_wl_len] at this
  obtain ⟨t, ht⟩ : ∃ t, T[k]? = some t := ⟨T[k], List.getElem?_eq_getElem hl⟩
  exact ⟨t, ht, Option.some.inj (hq.symm.trans (k_wl_at ht))⟩
/-- the cells' addresses are apart, and new -/
def k_AD (G : kG) (T : List kT) : Prop := (∀ i j : Nat, i < T.length → j < T.length → g_a G i = g_a G j → i = j) ∧ ∀ i : Nat, i < T.length → g_b G ≤ g_a G i
theorem k_wl_D {G : kG} {T : List kT} {h : kH} (hA : k_AD G T) : va_D (k_A G) (k_wl G T h) := by
  refine ⟨fun i j p q hp hq e => ?_, fun k q hq => ?_⟩
  · have h1 := (List.getElem?_eq_some_iff.mp hp).1
    have h2 := (List.getElem?_eq_some_iff.mp hq).1
    rw [k_wl_len] at h1 h2
    obtain ⟨_, -, rfl⟩ := k_wl_of hp
    obtain ⟨_, -, rfl⟩ := k_wl_of hq
    exact hA.1 i j h1 h2 e
  · have h1 := (List.getElem?_eq_some_iff.mp hq).1
    rw [k_wl_len] at h1
    obtain ⟨_, -, rfl⟩ := k_wl_of hq
    exact hA.2 k h1
theorem k_ext {α : Type} {a b : List α} (h : ∀ i : Nat, a[i]? = b[i]?) : a = b := List.ext_getElem? h
theorem k_wl_set {G : kG} {T : List kT} {h : kH} {k : Nat} {t t' : kT} {row : Nat → Int32} {e : va_E} (ht : T[k]? = some t) (he : e = k_ce G k t' row) : (k_wl G T h).set k (g_a G k, e) = k_wl G (T.set k t') (sr h k row) := by
  subst he
  have hl := (List.getElem?_eq_some_iff.mp ht).1
  refine k_ext fun i => ?_
  by_cases hi : i = k
  · subst hi
    rw [List.getElem?_set_self (by rw [k_wl_len]; exact hl), k_wl_at (t := t') (by rw [List.getElem?_set_self hl]), sr_s]
  · rw [List.getElem?_set_ne (Ne.symm hi)]
    by_cases hil : i < T.length
    · have hti : T[i]? = some T[i] := List.getElem?_eq_getElem hil
      rw [k_wl_at hti, k_wl_at (t := T[i]) (by rw [List.getElem?_set_ne (Ne.symm hi)]; exact hti), sr_n _ _ hi]
    · rw [List.getElem?_eq_none (by rw [k_wl_len]; omega), List.getElem?_eq_none (by rw [k_wl_len, List.length_set]; omega)]
theorem k_set_same {T : List kT} {k : Nat} {t : kT} (ht : T[k]? = some t) : T.set k t = T := by
  refine k_ext fun i => ?_
  by_cases hi : i = k
  · subst hi
    rw [List.getElem?_set_self (List.getElem?_eq_some_iff.mp ht).1, ht]
  · rw [List.getElem?_set_ne (Ne.symm hi)]
theorem k_wl_put {G : kG} {T : List kT} {h : kH} {k : Nat} {t : kT} {row : Nat → Int32} {e : va_E} (ht : T[k]? = some t) (he : e = k_ce G k t row) : (k_wl G T h).set k (g_a G k, e) = k_wl G T (sr h k row) := by
  rw [k_wl_set ht he, k_set_same ht]
theorem k_wl_push {G : kG} {T : List kT} {h : kH} {t : kT} {row : Nat → Int32} {e : va_E} (he : e = k_ce G T.length t row) : k_wl G T h ++ [(g_a G T.length, e)] = k_wl G (T ++ [t]) (sr h T.length row) := by
  subst he
  refine k_ext fun i => ?_
  by_cases hi : i < T.length
  · have hti : T[i]? = some T[i] := List.getElem?_eq_getElem hi
    rw [List.getElem?_append_left (by rw [k_wl_len]; exact hi), k_wl_at hti, k_wl_at (t := T[i]) (by rw [List.getElem?_append_left hi]; exact hti), sr_n _ _ (by omega)]
  · rw [List.getElem?_append_right (by rw [k_wl_len]; omega), k_wl_len]
    by_cases he : i = T.length
    · subst he
      rw [Nat.sub_self, k_wl_at (t := t) (by rw [List.getElem?_append_right (Nat.le_refl _), Nat.sub_self]; rfl), sr_s]
      rfl
    · rw [List.getElem?_eq_none (by simp; omega), List.getElem?_eq_none (by rw [k_wl_len]; simp; omega)]
/-- locals by their places -/
def k_lc (G : kG) : Nat → List (Option kV) → List (Nat × Value)
  | _, [] => []
  | i, none :: r => k_lc G (i + 1) r
  | i, some v :: r => (i, kc_v G v) :: k_lc G (i + 1) r
theorem k_lc_mem {G : kG} : ∀ (lc : List (Option kV)) (i : Nat) (q : Nat × Value), q ∈ k_lc G i lc ↔ ∃ (j : Nat) (v : kV), lc[j]? = some (some v) ∧ q = (i + j, kc_v G v)
  | [], i, q => by simp [k_lc]
  | none :: r, i, q => by
    rw [k_lc, k_lc_mem r (i + 1) q]
    constructor
    · rintro ⟨j, v, h1, rfl⟩
      exact ⟨j + 1, v, by simpa using h1, by rw [show i + 1 + j = i + (j + 1) by omega]⟩
    · rintro ⟨j, v, h1, rfl⟩
      cases j with
      | zero => simp at h1
      | succ j => exact ⟨j, v, by simpa using h1, by rw [show i + 1 + j = i + (j + 1) by omega]⟩
  | some w :: r, i, q => by
    rw [k_lc, List.mem_cons, k_lc_mem r (i + 1) q]
    constructor
    · rintro (rfl | ⟨j, v, h1, rfl⟩)
      · exact ⟨0, w, by simp, by simp⟩
      · exact ⟨j + 1, v, by simpa using h1, by rw [show i + 1 + j = i + (j + 1) by omega]⟩
    · rintro ⟨j, v, h1, rfl⟩
      cases j with
      | zero => simp at h1; left; rw [h1]; simp
      | succ j => right; exact ⟨j, v, by simpa using h1, by rw [show i + 1 + j = i + (j + 1) by omega]⟩
theorem k_has_sub {ls : Array Slot} {n : Nat} {l l' : List (Nat × Value)} (h : lv_has ls n l) (hs : ∀ q ∈ l', q ∈ l) : lv_has ls n l' := ⟨h.1, h.2.1, fun q hq => h.2.2 q (hs q hq)⟩
theorem k_has_at {G : kG} {ls : Array Slot} {n : Nat} {lc : List (Option kV)} (h : lv_has ls n (k_lc G 0 lc)) {i : Nat} {v : kV} (hv : lc[i]? = some (some v)) : ls[i]? = some (.val (kc_v G v)) := by
  have h1 := h.2.2 (i, kc_v G v) ((k_lc_mem lc 0 _).mpr ⟨i, v, hv, by simp⟩)
  exact h1
/-- no long stands at the place before -/
def k_nl (lc : List (Option kV)) : Nat → Bool
  | 0 => true
  | j + 1 => match lc[j]? with
    | some (some (.inr (.inl _))) => false
    | _ => true
theorem k_cat1 {G : kG} {v : kV} (h : ∀ x, v ≠ jv x) : (kc_v G v).category = 1 := by
  rcases v with x | x | ⟨t, k⟩
  · rfl
  · exact absurd rfl (h x)
  · rfl
theorem k_cat2 {G : kG} {v : kV} (h : (kc_v G v).category = 2) : ∃ x, v = jv x := by
  rcases v with x | x | ⟨t, k⟩
  · simp [kc_v, Value.category] at h
  · exact ⟨x, rfl⟩
  · simp [kc_v, Value.category] at h
theorem k_st1 {G : kG} {ls : Array Slot} {n : Nat} {lc : List (Option kV)} {i : Nat} {v : kV} (hn : k_nl lc i = true) (h : lv_has ls n ((i, kc_v G v) :: (k_lc G 0 lc).filter (fun q => !(q.1 == i) && !(q.1 + 1 == i && q.2.category == 2)))) : lv_has ls n (k_lc G 0 (lc.set i (some v))) := by
  refine k_has_sub h fun q hq => ?_
  obtain ⟨j, w, h1, rfl⟩ := (k_lc_mem _ 0 q).mp hq
  simp only [Nat.zero_add]
  by_cases hj : j = i
  · subst hj
    have hl : j < lc.length := by
      have := (List.getElem?_eq_some_iff.mp h1).1
      simpa using this
    rw [List.getElem?_set_self hl] at h1
    cases h1
    exact List.mem_cons_self
  · rw [List.getElem?_set_ne (Ne.symm hj)] at h1
    refine List.mem_cons_of_mem _ (List.mem_filter.mpr ⟨(k_lc_mem lc 0 _).mpr ⟨j, w, h1, by simp⟩, ?_⟩)
    simp only [Bool.and_eq_true, Bool.not_eq_true', beq_eq_false_iff_ne, ne_eq, Bool.and_eq_false_iff]
    refine ⟨hj, ?_⟩
    by_cases hc : (kc_v G w).category = 2
    · left
      intro e
      obtain ⟨x, rfl⟩ := k_cat2 hc
      subst e
      simp [k_nl, h1] at hn
    · right; simpa using hc
theorem k_st2 {G : kG} {ls : Array Slot} {n : Nat} {lc : List (Option kV)} {i : Nat} {x : Int64} (hn : k_nl lc i = true) (h : lv_has ls n ((i, Value.long x) :: (k_lc G 0 lc).filter (fun q => !(q.1 == i) && (!(q.1 == i + 1) && !(q.1 + 1 == i && q.2.category == 2))))) : lv_has ls n (k_lc G 0 ((lc.set i (some (jv x))).set (i + 1) none)) := by
  refine k_has_sub h fun q hq => ?_
  obtain ⟨j, w, h1, rfl⟩ := (k_lc_mem _ 0 q).mp hq
  simp only [Nat.zero_add]
  by_cases hj1 : j = i + 1
  · subst hj1
    have hl : i + 1 < lc.length := by
      have := (List.getElem?_eq_some_iff.mp h1).1
      simpa using this
    rw [List.getElem?_set_self (by simpa using hl)] at h1
    cases h1
  · rw [List.getElem?_set_ne (Ne.symm hj1)] at h1
    by_cases hj : j = i
    · subst hj
      have hl : j < lc.length := by
        have := (List.getElem?_eq_some_iff.mp h1).1
        simpa using this
      rw [List.getElem?_set_self hl] at h1
      cases h1
      exact List.mem_cons_self
    · rw [List.getElem?_set_ne (Ne.symm hj)] at h1
      refine List.mem_cons_of_mem _ (List.mem_filter.mpr ⟨(k_lc_mem lc 0 _).mpr ⟨j, w, h1, by simp⟩, ?_⟩)
      simp only [Bool.and_eq_true, Bool.not_eq_true', beq_eq_false_iff_ne, ne_eq, Bool.and_eq_false_iff]
      refine ⟨hj, hj1, ?_⟩
      by_cases hc : (kc_v G w).category = 2
      · left
        intro e
        obtain ⟨x, rfl⟩ := k_cat2 hc
        subst e
        simp [k_nl, h1] at hn
      · right; simpa using hc
/-- the static tables of Plan -/
def k_sn : Nat → String
  | 0 => "W_BOUNDS" | 1 => "C_BOUNDS" | 2 => "XY_BOUNDS" | 3 => "P_BOUNDS" | 4 => "K_BOUNDS" | 5 => "L_BOUNDS" | 6 => "H_BOUNDS" | 7 => "D_BOUNDS" | 8 => "V_BOUNDS" | _ => "NO_BOUNDS"
def k_sl : Nat → List Int32
  | 0 => [2, 6, 2, 5] | 1 => [0, 5, 0, 4, 0, 2, 0, 199] | 2 => [0, 5, 0, 4] | 3 => [0, 5, 0, 4, 1, 9, 0, 99, 0, 9, 1, 99] | 4 => [0, 2, 1, 20, 1, 60] | 5 => [1, 30] | 6 => [30, 99, 1, 60] | 7 => [10, 300, 10, 300] | 8 => [0, 9] | _ => []
def k_NN (U : State) : Prop := ∀ q ∈ kw_nest, va_Nw (.methodLinkNest q.1 q.2.1 q.2.2.1 q.2.2.2) U
def k_tl (G : kG) (j : Nat) : Nat := if j = 10 then g_n G else (k_sl j).length
def k_tb (G : kG) (j i : Nat) : Int32 := if j = 10 then g_xs G i else (k_sl j).getD i 0
def k_SX (G : kG) (U : State) : Prop := (∀ j, j < 10 → va_Z RX3 (k_sn j) "[I" (.ref (g_s G j)) (k_A G) U U.heap) ∧ ∀ j, j < 11 → va_T .int (g_s G j) (k_tl G j) (fun i => .int (k_tb G j i)) (k_A G) U U.heap
theorem k_NN_warm {s U : State} (hW : s.WarmedH U.vm) (h : k_NN s) : k_NN U := fun q hq => va_Nw.warmM hW (h q hq)
theorem k_SX_to {G : kG} {s U : State} (hvm : s.vm.Alike U.vm) (hk : ∀ a : Nat, a < s.heap.size → ¬ k_A G a → U.heap[a]? = s.heap[a]?) (h : k_SX G s) : k_SX G U := ⟨fun j hj => ((h.1 j hj).moved hvm).kept hk, fun j hj => ((h.2 j hj).moved hvm).kept hk⟩
/-- a method: name, own class, code, decoded code, locals, answer, room -/
abbrev kM : Type := MethodName × String × ByteArray × List (Nat × Instr × Nat) × Nat × Option FieldType × Room
abbrev m_y (M : kM) : MethodName := M.1
abbrev m_own (M : kM) : String := M.2.1
abbrev m_cc (M : kM) : ByteArray := M.2.2.1
abbrev m_tab (M : kM) : List (Nat × Instr × Nat) := M.2.2.2.1
abbrev m_nL (M : kM) : Nat := M.2.2.2.2.1
abbrev m_ret (M : kM) : Option FieldType := M.2.2.2.2.2.1
abbrev m_rm (M : kM) : Room := M.2.2.2.2.2.2
abbrev kX : Type := Program × Env × State × MethodId × Array Value × List Frame × Method × Code × (State → Prop)
abbrev x_p (X : kX) : Program := X.1
abbrev x_e (X : kX) : Env := X.2.1
abbrev x_s (X : kX) : State := X.2.2.1
abbrev x_m (X : kX) : MethodId := X.2.2.2.1
abbrev x_a (X : kX) : Array Value := X.2.2.2.2.1
abbrev x_w (X : kX) : List Frame := X.2.2.2.2.2.1
abbrev x_h (X : kX) : Method := X.2.2.2.2.2.2.1
abbrev x_c (X : kX) : Code := X.2.2.2.2.2.2.2.1
abbrev x_Q (X : kX) : State → Prop := X.2.2.2.2.2.2.2.2
def k_X (G : kG) (M : kM) (X : kX) : Prop :=
  (x_p X).tables.exec = Jvm.exec ∧ (x_c X).code = m_cc M ∧ (x_c X).maxLocals = m_nL M ∧ (x_s X).vm.findClass (m_own M) = some (x_m X).cls ∧ (∀ w ∈ kw, w.before (x_a X) (x_s X) = true) ∧
  va_K (g_D G) vwCl (k_ty G) (x_s X) ∧ k_NN (x_s X) ∧ k_SX G (x_s X) ∧ g_b G ≤ (x_s X).heap.size ∧ (∀ q ∈ m_tab M, decode (m_cc M) q.1 = .ok q.2)
abbrev k_W (G : kG) (M : kM) (X : kX) (H : Heap) (locs : List Loc) (kc ks : Nat) (g : JFrame) : Prop := W (x_p X) (g_l G) (x_e X) (m_rm M) (x_s X) (x_m X) (x_a X) (x_w X) (x_h X) (x_c X) H locs kc ks (x_Q X) g
def V (G : kG) (M : kM) (X : kX) (T : List kT) (kc ks pc : Nat) (lc : List (Option kV)) (st : List kV) (h : kH) : Prop :=
  k_X G M X → k_WF T → (∀ v ∈ st, ok_v T v) → (∀ v, some v ∈ lc → ok_v T v) → ∀ (H : Heap) (ls : Array Slot) (locs : List Loc), va_P (g_D G) vwCl (k_wl G T h) H → k_AD G T → va_S (k_A G) (x_s X).heap H locs → lv_has ls (m_nL M) (k_lc G 0 lc) →
    k_W G M X H locs kc ks (F0 (x_m X) pc ls (st.map (kc_v G)))
