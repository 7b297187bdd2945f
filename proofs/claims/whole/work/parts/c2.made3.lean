/-! constructors: contracts, calls, ends -/
section
variable {G : kG} {M N : kM} {X : kX} {T T' : List kT} {kc ks pc : Nat} {lc : List (Option kV)} {st : List kV} {h h' : kH} {a : Nat → Nat}
def k_QI (G : kG) (n : Nat) (T' : List kT) (h' : kH) : Array Value → State → Outcome → State → Prop := fun _ st oc t => oc = .returned none ∧ (∃ a : Nat → Nat, (∀ i, i < n → a i = g_a G i) ∧ va_P (g_D G) vwCl (k_wl (ga G a) T' h') t.heap ∧ k_AD (ga G a) T' ∧ k_WF T') ∧ va_F (k_A G) st t
def k_CI (G : kG) (N : kM) (T : List kT) (t : kT) (k : Nat) (h : kH) (T' : List kT) (h' : kH) (mc ms : Nat) : Prop := Met (g_l G) (m_y N) (m_ws N) (m_rm N) (va_Pc ([rv t k].map (kc_v G)) (k_B G T h [rv t k])) (k_QI G T.length T' h') mc ms (k_A G)
def k_gI (N : kM) (mc ms : Nat) : Prop := Cond.code (m_y N) (m_cc N) (m_nL N) none ∈ kw ∧ Cond.initialized (m_y N).cls ∈ kw ∧ ((m_y N).cls ≠ "java/lang/invoke/MethodHandle" ∧ (m_y N).cls ≠ "java/lang/invoke/VarHandle" ∧ (parseMethodDescriptor (m_y N).desc).map (fun d => d.parameters.length) = some 0) ∧ (m_rm N).cells = mc ∧ (m_rm N).slots = ms ∧ (m_y N).name = "<init>" ∧ Cond.instanceMethod (m_y N) ∈ kw ∧ m_ret N = none
theorem V_runI {mc ms : Nat} {aa : Array Value} {stk : List kV} (hst : ∀ v ∈ st, v ∈ stk) (hle : k_le T T') (hrun : k_X G M X → k_WF T → (∀ v ∈ stk, ok_v T v) → ∀ (H : Heap) (ls : Array Slot) (locs : List Loc), va_P (g_D G) vwCl (k_wl G T h) H → k_AD G T → va_S (k_A G) (x_s X).heap H locs → lv_has ls (m_nL M) (k_lc G 0 lc) → va_Run (x_p X) (g_l G) (x_e X) (m_rm M) (x_s X) (x_m X) (x_a X) (x_w X) (x_h X) (x_c X) H locs kc ks mc ms (F0 (x_m X) pc ls (stk.map (kc_v G))) (st.map (kc_v G)) (k_QI G T.length T' h' aa) (k_A G))
    (kk : ∀ a, (∀ i, i < T.length → a i = g_a G i) → V (ga G a) M X T' (kc + mc) (ks + ms) (pc + 3) lc st h') : V G M X T kc ks pc lc stk h := by
  intro C hW hs hl H ls locs hP hA hS hL T0 hT0 X0
  obtain ⟨v, st₀, t, T1, L, h0, X', hL', e1, e2, ⟨hv, ⟨a, ha, hP', hAD, hW'⟩, hF1, hF2⟩, stp⟩ := hrun C hW hs H ls locs hP hA hS hL T0 hT0 X0
  rw [h0] at hF1 hF2
  have S' : va_S (k_A G) (x_s X).heap T1.heap (locs ++ L) := ⟨Nat.le_trans hS.1 (by rw [e1]; exact hF1), fun q h1 h2 => by rw [e1, hF2 q (Nat.lt_of_lt_of_le h1 hS.1) h2]; exact hS.2.1 q h1 h2, fun q hq => by
    rcases List.mem_append.mp hq with hq | hq
    · exact hS.2.2 q hq
    · exact hL' q hq⟩
  have hv : v = none := by cases hv; rfl
  subst hv
  have hs2 : ∀ v ∈ st, ok_v T v := fun v hv => hs v (hst v hv)
  have es := st_ga (G := G) (a := a) (st := st) ha hs2
  have el := lc_ga (G := G) (a := a) ha lc 0 hl
  obtain ⟨t2, a1, b1⟩ := kk a ha C hW' (fun v hv => ok_le hle (hs2 v hv)) (fun v hv => ok_le hle (hl v hv)) T1.heap ls (locs ++ L) (by rw [e1]; exact hP') hAD S' (by rw [el]; exact hL) T1 rfl X'
  refine ⟨t2, stp t2 ?_, b1⟩
  rw [es] at a1
  exact a1
theorem V_callI {idx k mc ms : Nat} {t : kT} (i : Nat) (hd : (m_tab M)[i]? = some (pc, .invokespecial idx, 3)) (hc : k_CI (ga G a) N T t k h T' h' mc ms) (hle : k_le T T') (hg : k_gI N mc ms) (hl : Cond.methodLink (m_own M) idx (m_y N) ∈ kw) (hR : k_fit M N) (ht : t.1 < 9) (hcat : (st.map k_cat).sum ≤ 8) (hcs : kc + mc ≤ (m_rm M).cells ∧ ks + ms ≤ (m_rm M).slots)
    (kk : ∀ a', (∀ i, i < T.length → a' i = a i) → V (ga G a') M X T' (kc + mc) (ks + ms) (pc + 3) lc st h') : V (ga G a) M X T kc ks pc lc (rv t k :: st) h := by
  obtain ⟨hg1, hg2, hg3, hg4, hg5, hg6, hg7, hg8⟩ := hg
  refine V_runI (G := ga G a) (h' := h') (st := st) (mc := mc) (ms := ms) (aa := (Value.ref (a k) :: []).toArray) (fun v hv => List.mem_cons_of_mem _ hv) hle (fun C hW hs H ls locs hP hA hS hL => ?_) kk
  have hmem : ∀ v ∈ [rv t k], ok_v T v := fun v hv => hs v (by rw [List.mem_singleton.mp hv]; exact List.mem_cons_self)
  have hts := C.2.2.2.2.1
  have hkc : kc_v (ga G a) (rv t k) = .ref (a k) := kc_r (by omega)
  refine va_runI (b := a k) (As := []) (Ts := kw) ⟨C.1, C.2.1, C.2.2.1, C.2.2.2.1, hts⟩ hc ⟨callB_of 0 hts (k_good (by rw [hg8]; exact hg1)) (by rw [← hg8]; rfl) hg4 hg5 (hts _ hg2) (hts _ hl) hg3 hR, hg6, hts _ hg7⟩ ⟨k_B_blind, fun U hU hw => ⟨?_, k_B_at C hW hA hP hS hmem hU hw⟩⟩ rfl rfl hL.1 ?_ (k_room hcat) (k_dec C hd) hcs
  · rw [List.map_cons, hkc]; rfl
  · show (rv t k :: st).map (kc_v (ga G a)) = _
    rw [List.map_cons, hkc]; rfl
theorem V_callIN {idx k mc ms : Nat} {t : kT} (i : Nat) (hd : (m_tab M)[i]? = some (pc, .invokespecial idx, 3)) (hc : k_CI (ga G a) N T t k h T' h' mc ms) (hle : k_le T T') (hg : k_gI N mc ms) (hl : (m_own M, idx, m_y N, RX7) ∈ kw_nest) (hR : k_fit M N) (ht : t.1 < 9) (hcat : (st.map k_cat).sum ≤ 8) (hcs : kc + mc ≤ (m_rm M).cells ∧ ks + ms ≤ (m_rm M).slots)
    (kk : ∀ a', (∀ i, i < T.length → a' i = a i) → V (ga G a') M X T' (kc + mc) (ks + ms) (pc + 3) lc st h') : V (ga G a) M X T kc ks pc lc (rv t k :: st) h := by
  obtain ⟨hg1, hg2, hg3, hg4, hg5, hg6, hg7, hg8⟩ := hg
  refine V_runI (G := ga G a) (h' := h') (st := st) (mc := mc) (ms := ms) (aa := (Value.ref (a k) :: []).toArray) (fun v hv => List.mem_cons_of_mem _ hv) hle (fun C hW hs H ls locs hP hA hS hL => ?_) kk
  have hmem : ∀ v ∈ [rv t k], ok_v T v := fun v hv => hs v (by rw [List.mem_singleton.mp hv]; exact List.mem_cons_self)
  have hts := C.2.2.2.2.1
  have hkc : kc_v (ga G a) (rv t k) = .ref (a k) := kc_r (by omega)
  have hcw := va_cnB (ret := none) (R := m_rm M) (args := x_a X) (s := x_s X) (index := idx) 0 hts (k_good (by rw [hg8]; exact hg1)) (by rw [← hg8]; rfl) hg4 hg5 (C.2.2.2.2.2.2.1 _ hl) (hts _ hg2) hg3 hR
  refine va_runIN (b := a k) (As := []) (Ts := kw) ⟨C.1, C.2.1, C.2.2.1, C.2.2.2.1, hts⟩ hc ⟨hcw, hg6, hts _ hg7⟩ ⟨k_B_blind, fun U hU hw => ⟨?_, k_B_at C hW hA hP hS hmem hU hw⟩⟩ rfl rfl hL.1 ?_ (k_room hcat) (k_dec C hd) hcs
  · rw [List.map_cons, hkc]; rfl
  · show (rv t k :: st).map (kc_v (ga G a)) = _
    rw [List.map_cons, hkc]; rfl
def k_RI (G : kG) (M : kM) (X : kX) (n : Nat) (T' : List kT) (kc ks : Nat) (h' : kH) : Prop := x_Q X = MQ (x_w X) (k_QI G n T' h') (x_a X) (x_s X) kc ks (k_A G) ∧ (x_h X).sig.returnType = m_ret M ∧ (x_h X).locks = false
theorem V_vretI {n : Nat} (i : Nat) (hd : (m_tab M)[i]? = some (pc, .return_, 1)) (hR : k_RI G M X n T kc ks h) (hm : m_ret M = none) (ha : ∀ i, i < n → a i = g_a G i) : V (ga G a) M X T kc ks pc lc [] h := by
  intro C hW hs hl H ls locs hP hA hS hL
  obtain ⟨hQ, hr, hlk⟩ := hR
  show W _ _ _ _ _ _ _ _ _ _ _ _ _ _ (x_Q X) _
  rw [hQ]
  exact W.vret C.1 C.2.1 (by rw [hr, hm]) (fun t ht hw => ⟨rfl, ⟨a, ha, (by rw [ht]; exact hP), hA, hW⟩, hS.F ht⟩) (fun q hq => hS.2.2 q hq) (k_dec C hd) hlk
theorem k_CI_of {t : kT} {k mc ms : Nat} (hy : plainName (m_y M).cls = true) (hcls : (m_y M).cls = m_own M) (htab : ∀ q ∈ m_tab M, decode (m_cc M) q.1 = .ok q.2) (hn : 1 = m_nL M) (hnm : (m_y M).name = "<init>")
    (walk : ∀ X : kX, (x_h X).name = "<init>" → k_RI G M X T.length T' mc ms h' → V G M X T 0 0 0 [some (rv t k)] [] h) : k_CI G M T t k h T' h' mc ms := by
  refine Met.ofW (cc := m_cc M) (maxL := m_nL M) (ret := m_ret M) hy rfl ?_
  intro p e s m args below meth c s₁ B hml hv
  obtain ⟨rfl, hP, hK, hNN, hSX, hgb, hA, hW, hok⟩ := hv
  have hts := atoms_spec (ws := m_ws M) B.pre
  have hown : s.vm.findClass (m_own M) = some m.cls := by rw [← hcls]; exact findClass_of_methodNamed B.named
  have hin : meth.name = "<init>" := by rw [← hnm]; exact (name_of_methodNamed B.named B.method).1
  have hl := lv_entry ([rv t k].map (kc_v G)) (n := m_nL M) (by rw [k_sl_len, ← hn]; exact Nat.le_refl 1)
  rw [lg_entry_eq]
  generalize (lg_sl ([rv t k].map (kc_v G)) ++ List.replicate (m_nL M - (lg_sl ([rv t k].map (kc_v G))).length) Slot.unset).toArray = ls at hl ⊢
  refine walk (p, e, s, m, ([rv t k].map (kc_v G)).toArray, below, meth, c, MQ below (k_QI G T.length T' h') ([rv t k].map (kc_v G)).toArray s mc ms (k_A G)) hin ⟨rfl, B.returns, B.notSynchronized⟩ ⟨B.exec, B.bytes, hml, hown, fun w hw => hts w (List.mem_cons_of_mem _ hw), hK, hNN, hSX, hgb, htab⟩ hW (fun v hv => by cases hv) (fun v hv => ?_) s.heap ls [] hP hA va_S.rf ?_
  · rcases List.mem_cons.mp hv with e | hv
    · cases e; exact hok _ List.mem_cons_self
    · cases hv
  · exact k_has_sub hl (fun q hq => k_ent_mem [rv t k] 0 q hq)
theorem app_at {T0 l : List kT} {R : Nat} (hR : T0.length = R) (j : Nat) : (T0 ++ l)[R + j]? = l[j]? := by
  rw [List.getElem?_append_right (by omega), hR, Nat.add_sub_cancel_left]
theorem app_0 {T0 l : List kT} {t : kT} {R : Nat} (hR : T0.length = R) : (T0 ++ t :: l)[R]? = some t := app_at (l := t :: l) hR 0
theorem app_len {T0 l : List kT} {R n : Nat} (hR : T0.length = R) (hn : R + l.length = n) : (T0 ++ l).length = n := by rw [List.length_append, hR, hn]
theorem app_set {T0 l : List kT} {t t' : kT} {R : Nat} (hR : T0.length = R) : (T0 ++ t :: l).set R t' = T0 ++ t' :: l := by
  subst hR
  rw [List.set_append_right _ _ (Nat.le_refl _), Nat.sub_self]
  rfl
theorem k_le_mk {T0 l : List kT} {ci : Nat} (hc : ci < 9) : k_le (T0 ++ [(ci, 0)]) (T0 ++ (ci, 99) :: l) := by
  intro k t m hk
  by_cases z : k < T0.length
  · rw [List.getElem?_append_left z] at hk
    exact ⟨m, by rw [List.getElem?_append_left z]; exact hk, fun _ => rfl, fun q => q⟩
  · have hl := (List.getElem?_eq_some_iff.mp hk).1
    rw [List.length_append, List.length_singleton] at hl
    rw [List.getElem?_append_right (by omega), show k - T0.length = 0 by omega] at hk
    have e : (ci, 0) = (t, m) := Option.some.inj hk
    cases e
    exact ⟨99, by rw [List.getElem?_append_right (by omega), show k - T0.length = 0 by omega]; rfl, fun q => absurd q (by omega), fun _ => rfl⟩
theorem hs_z {k j : Nat} (hz : h k = fun _ => 0) : hs h k j (nI 0) = h := by
  have : nI 0 = h k j := by rw [hz, nI_00]
  rw [this, hs_same]
end
