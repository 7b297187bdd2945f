/-! rows for what makes things: the world grows, the address map with it -/
def ga (G : kG) (a : Nat → Nat) : kG := (G.1, G.2.1, G.2.2.1, G.2.2.2.1, G.2.2.2.2.1, a, G.2.2.2.2.2.2)
/-- the shape grows: no cell changes its kind, none that was whole is undone -/
def k_le (T T' : List kT) : Prop := ∀ (k t m : Nat), T[k]? = some (t, m) → ∃ m', T'[k]? = some (t, m') ∧ (9 ≤ t → m' = m) ∧ (m = 99 → m' = 99)
theorem k_fd_9 {c i : Nat} (h : i < (k_fd c).length) : c < 9 := by
  unfold k_fd at h
  split at h
  all_goals first | omega | exact absurd h (Nat.not_lt_zero _)
section
variable {G : kG} {M N : kM} {X : kX} {T T' : List kT} {kc ks pc : Nat} {lc : List (Option kV)} {st : List kV} {h h' : kH} {a : Nat → Nat}
theorem k_X_ga : k_X (ga G a) M X = k_X G M X := rfl
theorem ok_le {v : kV} (hl : k_le T T') (hv : ok_v T v) : ok_v T' v := by
  rcases v with x | x | ⟨t, k⟩
  · exact trivial
  · exact trivial
  · rcases hv with ⟨h12, m, hT, h9, h99⟩ | e
    · obtain ⟨m', a1, a2, a3⟩ := hl k t.1 m hT
      exact Or.inl ⟨h12, m', a1, fun q => (a2 q).trans (h9 q), fun q => a3 (h99 q)⟩
    · exact Or.inr e
theorem k_le_app (l : List kT) : k_le T (T ++ l) := fun k t m hT => ⟨m, by rw [List.getElem?_append_left (List.getElem?_eq_some_iff.mp hT).1]; exact hT, fun _ => rfl, fun q => q⟩
theorem kc_ga {v : kV} (ha : ∀ i, i < T.length → a i = g_a G i) (hv : ok_v T v) : kc_v (ga G a) v = kc_v G v := by
  rcases v with x | x | ⟨t, k⟩
  · rfl
  · rfl
  · show Value.ref (if t.1 = 12 then g_s G t.2 else a k) = Value.ref (if t.1 = 12 then g_s G t.2 else g_a G k)
    rcases hv with ⟨h12, m, hT, -, -⟩ | ⟨e, -⟩
    · rw [ha k (List.getElem?_eq_some_iff.mp hT).1]
    · rw [if_pos e, if_pos e]
theorem st_ga (ha : ∀ i, i < T.length → a i = g_a G i) (hs : ∀ v ∈ st, ok_v T v) : st.map (kc_v (ga G a)) = st.map (kc_v G) := List.map_congr_left fun v hv => kc_ga ha (hs v hv)
theorem lc_ga (ha : ∀ i, i < T.length → a i = g_a G i) : ∀ (lc : List (Option kV)) (i : Nat), (∀ v, some v ∈ lc → ok_v T v) → k_lc (ga G a) i lc = k_lc G i lc
  | [], _, _ => rfl
  | none :: r, i, hl => by rw [k_lc, k_lc]; exact lc_ga ha r (i + 1) (fun v hv => hl v (List.mem_cons_of_mem _ hv))
  | some v :: r, i, hl => by rw [k_lc, k_lc, kc_ga ha (hl v List.mem_cons_self), lc_ga ha r (i + 1) (fun v hv => hl v (List.mem_cons_of_mem _ hv))]
theorem k_wl_ga (hW : k_WF T) (ha : ∀ i, i < T.length → a i = g_a G i) : k_wl (ga G a) T h = k_wl G T h := by
  unfold k_wl
  refine List.map_congr_left fun k hk => ?_
  have hl : k < T.length := List.mem_range.mp hk
  have hT : T[k]? = some (T.getD k (6, 99)) := by rw [List.getD_eq_getElem?_getD, List.getElem?_eq_getElem hl]; rfl
  have e1 : g_a (ga G a) k = g_a G k := ha k hl
  have e2 : k_fv (ga G a) k (T.getD k (6, 99)) (h k) = k_fv G k (T.getD k (6, 99)) (h k) := by
    unfold k_fv
    refine List.map_congr_left fun i hi => ?_
    have hi := List.mem_range.mp hi
    unfold k_f1
    rw [List.getD_eq_getElem?_getD, List.getElem?_eq_getElem hi]
    cases e : (k_fd (T.getD k (6, 99)).1)[i] with
    | none => rfl
    | some q =>
      show (if i < (T.getD k (6, 99)).2 then Value.ref (a (k + q.1)) else Value.null) = if i < (T.getD k (6, 99)).2 then Value.ref (g_a G (k + q.1)) else Value.null
      by_cases z : i < (T.getD k (6, 99)).2
      · have := hW k _ hT (k_fd_9 hi) i q (by rw [List.getElem?_eq_getElem hi, e]) z
        rw [ha _ (List.getElem?_eq_some_iff.mp this).1]
      · rw [if_neg z, if_neg z]
  rw [e1]
  unfold k_ce
  rw [e2]
  rfl
theorem AD_of (hD : va_D (k_A G) (k_wl G T h)) : k_AD G T := ⟨fun i j hi hj e => hD.1 i j _ _ (k_wl_at (List.getElem?_eq_getElem hi)) (k_wl_at (List.getElem?_eq_getElem hj)) e, fun i hi => hD.2 i _ (k_wl_at (List.getElem?_eq_getElem hi))⟩
theorem WF_app {t : kT} (hW : k_WF T) (ht : t.1 < 9 → t.2 = 0) : k_WF (T ++ [t]) := by
  intro k t' hk h9 i q hq hi
  by_cases z : k < T.length
  · rw [List.getElem?_append_left z] at hk
    have := hW k t' hk h9 i q hq hi
    rw [List.getElem?_append_left (List.getElem?_eq_some_iff.mp this).1]
    exact this
  · have hl := (List.getElem?_eq_some_iff.mp hk).1
    rw [List.length_append, List.length_singleton] at hl
    rw [List.getElem?_append_right (by omega), show k - T.length = 0 by omega] at hk
    have e : t = t' := Option.some.inj hk
    subst e
    rw [ht h9] at hi
    exact absurd hi (Nat.not_lt_zero _)
def au (G : kG) (n q : Nat) : Nat → Nat := fun i => if i = n then q else g_a G i
theorem au_lt {n q : Nat} : ∀ i, i < n → au G n q i = g_a G i := fun i hi => if_neg (by omega)
theorem k_push {t : kT} {q : Nat} {e : va_E} {H1 : Heap} (hW : k_WF T) (hz : h T.length = fun _ => 0) (he : e = k_ce (ga G (au G T.length q)) T.length t (fun _ => 0)) (hP1 : va_P (g_D G) vwCl (k_wl G T h ++ [(q, e)]) H1) (hD1 : va_D (k_A G) (k_wl G T h ++ [(q, e)])) : va_P (g_D G) vwCl (k_wl (ga G (au G T.length q)) (T ++ [t]) h) H1 ∧ k_AD (ga G (au G T.length q)) (T ++ [t]) := by
  have e1 : k_wl G T h ++ [(q, e)] = k_wl (ga G (au G T.length q)) (T ++ [t]) h := by
    have := k_wl_push (G := ga G (au G T.length q)) (T := T) (h := h) (t := t) (row := fun _ => 0) (e := e) he
    rw [k_wl_ga hW au_lt, show g_a (ga G (au G T.length q)) T.length = q from if_pos rfl] at this
    rw [this]
    congr 1
    funext r
    unfold sr
    by_cases z : r = T.length
    · rw [if_pos z, z, hz]
    · rw [if_neg z]
  rw [e1] at hP1 hD1
  exact ⟨hP1, AD_of (G := ga G (au G T.length q)) hD1⟩
def fs0 (ci : Nat) : List Value := (k_fd ci).map fun o => match o with
  | none => Value.int 0
  | some _ => Value.null
theorem k_fv0 {k ci : Nat} : k_fv G k (ci, 0) (fun _ => 0) = fs0 ci := by
  refine List.ext_getElem? fun i => ?_
  by_cases hi : i < (k_fd ci).length
  · rw [k_fv_at (t := (ci, 0)) hi, fs0, List.getElem?_map, List.getElem?_eq_getElem hi]
    unfold k_f1
    rw [List.getD_eq_getElem?_getD, List.getElem?_eq_getElem hi]
    show _ = some _
    congr 1
  · rw [List.getElem?_eq_none (by rw [k_fv_len]; exact Nat.le_of_not_lt hi), fs0, List.getElem?_eq_none (by rw [List.length_map]; exact Nat.le_of_not_lt hi)]
/-- what the tables say of a class that is made -/
def k_nw (own : String) (idx ci N : Nat) : Prop := ∃ (C : String) (F : u_T) (ty : Nat → FieldType), k_cls ci C F N ty ∧ Cond.classLink own idx C ∈ kw ∧ Cond.instantiable C N ∈ kw ∧ Cond.initialized C ∈ kw ∧ ∀ j, j < N → defaultValue (ty j) = vp_V (fs0 ci) j
theorem V_new {idx ci F n : Nat} (i : Nat) (hd : (m_tab M)[i]? = some (pc, .new idx, 3)) (hn : k_nw (m_own M) idx ci F) (hlen : T.length = n) (hz : h n = fun _ => 0) (hcs : kc + 1 ≤ (m_rm M).cells ∧ ks + F ≤ (m_rm M).slots) (kk : ∀ a', (∀ i, i < n → a' i = a i) → V (ga G a') M X (T ++ [(ci, 0)]) (kc + 1) (ks + F) (pc + 3) lc (rv (ci, 0) n :: st) h) : V (ga G a) M X T kc ks pc lc st h := by
  subst hlen
  intro C hW hs hl H ls locs hP hA hS hL
  obtain ⟨Cn, Fl, ty, ⟨hc, hin, hty, hnm, hlen, h9⟩, w1, w2, w3, hdf⟩ := hn
  have hts := C.2.2.2.2.1
  refine va_new (D := g_D G) (cl := vwCl) (tys := k_ty G) (A := k_A G) (fs := fs0 ci) C.1 C.2.1 hts hin ty hty C.2.2.2.1 (hts _ w1) (hts _ w2) (hts _ w3) C.2.2.2.2.2.1 hP (k_wl_D hA) hS (fun q hq => Nat.le_trans C.2.2.2.2.2.2.2.2.1 hq) hc hdf hcs.1 hcs.2 (k_dec C hd) (fun q H1 hP1 hD1 hS1 => ?_)
  have pu := k_push (G := ga G a) (t := (ci, 0)) (q := q) (e := .inr (ci, fs0 ci)) hW hz (by rw [k_ce, if_neg (show ¬ ci = 9 by omega), if_neg (show ¬ ci = 10 by omega), if_neg (show ¬ ci = 11 by omega), k_fv0]) hP1 hD1
  have w := kk (au (ga G a) T.length q) au_lt C (WF_app hW (fun _ => rfl)) (fun v hv => by
    rcases List.mem_cons.mp hv with rfl | hv
    · exact Or.inl ⟨show ci < 12 by omega, 0, by rw [List.getElem?_append_right (Nat.le_refl _), Nat.sub_self]; rfl, fun q => absurd (show 9 ≤ ci from q) (by omega), fun q => absurd (show 0 = 99 from q) (by omega)⟩
    · exact ok_le (k_le_app _) (hs v hv)) (fun v hv => ok_le (k_le_app _) (hl v hv)) H1 ls locs pu.1 pu.2 hS1 (by
      have := lc_ga (G := ga G a) (a := au (ga G a) T.length q) au_lt lc 0 hl
      rw [show ga (ga G a) (au (ga G a) T.length q) = ga G (au (ga G a) T.length q) from rfl] at this
      rw [this]; exact hL)
  have es := st_ga (G := ga G a) (a := au (ga G a) T.length q) (st := st) au_lt hs
  rw [show ga (ga G a) (au (ga G a) T.length q) = ga G (au (ga G a) T.length q) from rfl] at es
  rw [List.map_cons, es, show kc_v (ga G (au (ga G a) T.length q)) (rv (ci, 0) T.length) = .ref q by
    rw [kc_r (show (ci, 0).1 < 12 from (show ci < 12 by omega))]
    exact congrArg Value.ref (if_pos rfl)] at w
  exact w
end
