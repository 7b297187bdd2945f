/-! the words of the pure programs -/
def gd {α : Type} (c : Bool) (x : Option α) : Option α := if c = true then x else none
theorem gd_e {α : Type} {c : Bool} {x : Option α} {r : α} (e : gd c x = some r) : c = true ∧ x = some r := by
  unfold gd at e
  by_cases hc : c = true
  · exact ⟨hc, by rw [if_pos hc] at e; exact e⟩
  · rw [if_neg hc] at e; cases e
def le_ {α β : Type} (v : α) (f : α → Option β) : Option β := f v
theorem le_e {α β : Type} {v : α} {f : α → Option β} {r : β} (e : le_ v f = some r) : f v = some r := e
def bd {α β : Type} (x : Option α) (f : α → Option β) : Option β := match x with
  | some a => f a
  | none => none
theorem bd_e {α β : Type} {x : Option α} {f : α → Option β} {r : β} (e : bd x f = some r) : ∃ a, x = some a ∧ f a = some r := by
  cases x with
  | none => cases e
  | some a => exact ⟨a, rfl, e⟩
theorem if_e {α : Type} {c : Prop} [Decidable c] {x y : Option α} {r : α} (e : (if c then x else y) = some r) : (c ∧ x = some r) ∨ (¬ c ∧ y = some r) := by
  by_cases hc : c
  · left; exact ⟨hc, by rw [if_pos hc] at e; exact e⟩
  · right; exact ⟨hc, by rw [if_neg hc] at e; exact e⟩
def fx {σ ρ : Type} (F : (σ → Option ρ) → σ → Option ρ) : Nat → σ → Option ρ
  | 0, _ => none
  | n + 1, s => F (fx F n) s
theorem fx_e {σ ρ : Type} {F : (σ → Option ρ) → σ → Option ρ} {P : σ → Prop} {r : ρ} (hF : ∀ K : σ → Option ρ, (∀ s, K s = some r → P s) → ∀ s, F K s = some r → P s) : ∀ n s, fx F n s = some r → P s
  | 0, s, e => by cases e
  | n + 1, s, e => hF (fx F n) (fx_e hF n) s e
def FU : Nat := 3000
section
variable {G : kG} {M N : kM} {X : kX} {T : List kT} {kc ks pc : Nat} {lc : List (Option kV)} {st : List kV} {h h' : kH}
def m_ws (M : kM) : List Cond := Cond.code (m_y M) (m_cc M) (m_nL M) (m_ret M) :: kw
def k_B (G : kG) (T : List kT) (h : kH) (av : List kV) (U : State) : Prop := va_P (g_D G) vwCl (k_wl G T h) U.heap ∧ va_K (g_D G) vwCl (k_ty G) U ∧ k_NN U ∧ k_SX G U ∧ g_b G ≤ U.heap.size ∧ k_AD G T ∧ k_WF T ∧ ∀ v ∈ av, ok_v T v
def k_Q (G : kG) (T : List kT) (r : Option kV) (h' : kH) : Array Value → State → Outcome → State → Prop := fun _ st oc t => oc = .returned (r.map (kc_v G)) ∧ (∀ v, r = some v → ok_v T v) ∧ va_P (g_D G) vwCl (k_wl G T h') t.heap ∧ va_F (k_A G) st t
/-- a method that makes nothing: started with these arguments in this world it ends with this answer in that world -/
def k_C (G : kG) (M : kM) (T : List kT) (av : List kV) (h : kH) (r : Option kV) (h' : kH) : Prop := Met (g_l G) (m_y M) (m_ws M) (m_rm M) (va_Pc (av.map (kc_v G)) (k_B G T h av)) (k_Q G T r h') 0 0 (k_A G)
theorem k_B_blind {av : List kV} {l : List Value} : FrameBlind (va_Pc l (k_B G T h av)) := by
  intro a U g mk q
  obtain ⟨q0, q1, q2, q3, q4, q5⟩ := q
  exact ⟨q0, q1, va_K.moved (u := U) (U := U.calling g mk a) (Vm.Alike.refl U.vm) q2, fun w hw => va_Nw.same (u := U) rfl rfl (q3 w hw), k_SX_to (s := U) (U := U.calling g mk a) (Vm.Alike.refl U.vm) (fun _ _ _ => rfl) q4, q5⟩
theorem k_B_at (C : k_X G M X) (hW : k_WF T) (hA : k_AD G T) {H : Heap} {locs : List Loc} (hP : va_P (g_D G) vwCl (k_wl G T h) H) (hS : va_S (k_A G) (x_s X).heap H locs) {av : List kV} (hv : ∀ v ∈ av, ok_v T v) {U : State} (hU : U.heap = H) (hw : (x_s X).WarmedH U.vm) : k_B G T h av U :=
  ⟨by rw [hU]; exact hP, va_K.moved hw.alike C.2.2.2.2.2.1, k_NN_warm hw C.2.2.2.2.2.2.1, k_SX_to hw.alike (fun a h1 h2 => by rw [hU]; exact hS.2.1 a h1 h2) C.2.2.2.2.2.2.2.1, by rw [hU]; exact Nat.le_trans C.2.2.2.2.2.2.2.2.1 hS.1, hA, hW, hv⟩
def k_cat : kV → Nat
  | .inr (.inl _) => 2
  | _ => 1
theorem k_cat_eq (v : kV) : (kc_v G v).category = k_cat v := by
  rcases v with x | x | ⟨t, k⟩ <;> rfl
theorem k_cats (st : List kV) : ((st.map (kc_v G)).map fun v => v.category).sum = (st.map k_cat).sum := by
  rw [List.map_map]
  congr 1
  exact List.map_congr_left fun v _ => k_cat_eq v
/-- behind a call -/
theorem V_run {r : Option kV} {a : Array Value} {stk : List kV} (hst : ∀ v ∈ st, v ∈ stk) (hrun : k_X G M X → k_WF T → (∀ v ∈ stk, ok_v T v) → ∀ (H : Heap) (ls : Array Slot) (locs : List Loc), va_P (g_D G) vwCl (k_wl G T h) H → k_AD G T → va_S (k_A G) (x_s X).heap H locs → lv_has ls (m_nL M) (k_lc G 0 lc) → va_Run (x_p X) (g_l G) (x_e X) (m_rm M) (x_s X) (x_m X) (x_a X) (x_w X) (x_h X) (x_c X) H locs kc ks 0 0 (F0 (x_m X) pc ls (stk.map (kc_v G))) (st.map (kc_v G)) (k_Q G T r h' a) (k_A G))
    (kk : V G M X T kc ks (pc + 3) lc (r.toList ++ st) h') : V G M X T kc ks pc lc stk h := by
  intro C hW hs hl H ls locs hP hA hS hL T0 hT0 X0
  obtain ⟨v, st₀, t, T', L, h0, X', hL', e1, e2, ⟨hv, hok, hP', hF1, hF2⟩, stp⟩ := hrun C hW hs H ls locs hP hA hS hL T0 hT0 X0
  rw [h0] at hF1 hF2
  have S' : va_S (k_A G) (x_s X).heap T'.heap (locs ++ L) := ⟨Nat.le_trans hS.1 (by rw [e1]; exact hF1), fun q h1 h2 => by rw [e1, hF2 q (Nat.lt_of_lt_of_le h1 hS.1) h2]; exact hS.2.1 q h1 h2, fun q hq => by
    rcases List.mem_append.mp hq with hq | hq
    · exact hS.2.2 q hq
    · exact hL' q hq⟩
  have hv : v = r.map (kc_v G) := by cases hv; rfl
  subst hv
  have hok2 : ∀ v ∈ r.toList ++ st, ok_v T v := by
    intro v hv
    rcases List.mem_append.mp hv with hv | hv
    · cases r with
      | none => cases hv
      | some u => rw [List.mem_singleton.mp hv]; exact hok u rfl
    · exact hs v (hst v hv)
  obtain ⟨t2, a1, b1⟩ := kk C hW hok2 hl T'.heap ls (locs ++ L) (by rw [e1]; exact hP') hA S' hL T' rfl X'
  refine ⟨t2, stp t2 ?_, b1⟩
  cases r with
  | none => exact a1
  | some u => exact a1
/-- what the tables say of a callee -/
def k_g (N : kM) (n : Nat) : Prop := Cond.code (m_y N) (m_cc N) (m_nL N) (m_ret N) ∈ kw ∧ Cond.initialized (m_y N).cls ∈ kw ∧ ((m_y N).cls ≠ "java/lang/invoke/MethodHandle" ∧ (m_y N).cls ≠ "java/lang/invoke/VarHandle" ∧ (parseMethodDescriptor (m_y N).desc).map (fun d => d.parameters.length) = some n) ∧ (m_rm N).cells = 0 ∧ (m_rm N).slots = 0
def k_gv (N : kM) (ci : Nat) : Prop := Cond.instanceMethod (m_y N) ∈ kw ∧ Cond.selects (m_y N).cls (m_y N) (m_y N) ∈ kw ∧ (∃ q, vwCl[ci]? = some q ∧ q.1 = (m_y N).cls) ∧ ci < 9
/-- the callee's room fits the caller's -/
def k_fit (M N : kM) : Prop := (m_rm N).frames + 1 ≤ (m_rm M).frames ∧ 8 + (m_nL N + 11) + (m_rm N).locals ≤ (m_rm M).locals
theorem k_good (hg : Cond.code (m_y N) (m_cc N) (m_nL N) (m_ret N) ∈ kw) : GoodIn kw (m_ws N) := by
  intro w hw
  rcases List.mem_cons.mp hw with rfl | hw
  · exact kw_good _ hg
  · exact kw_good _ hw
theorem k_room (hc : (st.map k_cat).sum ≤ 8) {m : MethodId} {ls : Array Slot} {s0 : List Value} : 2 * (F0 m pc ls s0).monitorRoom + ((st.map (kc_v G)).map fun v => v.category).sum ≤ 8 := by
  rw [k_cats]
  exact (show 2 * 0 + (st.map k_cat).sum ≤ 8 by omega)
theorem k_stk {av : List kV} : (av.reverse ++ st).map (kc_v G) = (av.map (kc_v G)).reverse ++ st.map (kc_v G) := by
  rw [List.map_append, List.map_reverse]
theorem V_callV {av : List kV} {r : Option kV} {idx n ci k : Nat} {t : kT} (i : Nat) (hd : (m_tab M)[i]? = some (pc, .invokevirtual idx, 3)) (hc : k_C G N T (rv t k :: av) h r h') (hg : k_g N n) (hv : k_gv N ci) (hl : Cond.methodLink (m_own M) idx (m_y N) ∈ kw) (hR : k_fit M N) (ht : t.1 = ci) (hn : av.length = n) (hcat : (st.map k_cat).sum ≤ 8) (hcs : kc ≤ (m_rm M).cells ∧ ks ≤ (m_rm M).slots)
    (kk : V G M X T kc ks (pc + 3) lc (r.toList ++ st) h') : V G M X T kc ks pc lc (av.reverse ++ rv t k :: st) h := by
  subst ht
  obtain ⟨hg1, hg2, hg3, hg4, hg5⟩ := hg
  obtain ⟨hv1, hv2, ⟨q, hq, hqc⟩, h9⟩ := hv
  refine V_run (r := r) (h' := h') (st := st) (a := (Value.ref (g_a G k) :: av.map (kc_v G)).toArray) (fun v hv => List.mem_append_right _ (List.mem_cons_of_mem _ hv)) (fun C hW hs H ls locs hP hA hS hL => ?_) kk
  have hmem : ∀ v ∈ rv t k :: av, ok_v T v := fun v hv => hs v (by
    rcases List.mem_cons.mp hv with rfl | hv
    · exact List.mem_append_right _ List.mem_cons_self
    · exact List.mem_append_left _ (List.mem_reverse.mpr hv))
  rcases hmem _ List.mem_cons_self with ⟨h12, m', hT, -, -⟩ | ⟨e, -⟩
  · have hts := C.2.2.2.2.1
    have hK := C.2.2.2.2.2.1
    have hcw : CallW (m_rm M) (x_s X) (x_a X) (m_own M) (m_y N).cls idx (m_y N) (m_cc N) (m_nL N) (m_ret N) (m_ws N) (m_rm N) 0 0 n := ⟨callB_of n hts (k_good hg1) rfl hg4 hg5 (hts _ hg2) (hts _ hl) hg3 hR, hts _ hv1, hts _ hv2⟩
    have hkc : kc_v G (rv t k) = .ref (g_a G k) := kc_r h12
    refine va_runV (b := g_a G k) (As := av.map (kc_v G)) (Ts := kw) ⟨C.1, C.2.1, C.2.2.1, C.2.2.2.1, hts⟩ hc hcw ⟨k_B_blind, ?_, fun U hU hw => ⟨?_, k_B_at C hW hA hP hS hmem hU hw⟩⟩ rfl (by rw [List.length_map]; exact hn) hL.1 ?_ (k_room hcat) (k_dec C hd) ⟨hcs.1, hcs.2⟩
    · obtain ⟨cell, b1, b2, b3⟩ := va_recv hK hP hq (k_obj (t := (t.1, m')) hT h9)
      exact ⟨cell, b1, b2, by rw [← hqc]; exact b3⟩
    · rw [List.map_cons, hkc]
    · show (av.reverse ++ rv t k :: st).map (kc_v G) = _
      rw [k_stk, List.map_cons, hkc]
  · exact absurd e (by omega)
theorem V_callVN {av : List kV} {r : Option kV} {idx n ci k : Nat} {t : kT} (i : Nat) (hd : (m_tab M)[i]? = some (pc, .invokevirtual idx, 3)) (hc : k_C G N T (rv t k :: av) h r h') (hg : k_g N n) (hv : k_gv N ci) (hl : (m_own M, idx, m_y N, RX7) ∈ kw_nest) (hR : k_fit M N) (ht : t.1 = ci) (hn : av.length = n) (hcat : (st.map k_cat).sum ≤ 8) (hcs : kc ≤ (m_rm M).cells ∧ ks ≤ (m_rm M).slots)
    (kk : V G M X T kc ks (pc + 3) lc (r.toList ++ st) h') : V G M X T kc ks pc lc (av.reverse ++ rv t k :: st) h := by
  subst ht
  obtain ⟨hg1, hg2, hg3, hg4, hg5⟩ := hg
  obtain ⟨hv1, hv2, ⟨q, hq, hqc⟩, h9⟩ := hv
  refine V_run (r := r) (h' := h') (st := st) (a := (Value.ref (g_a G k) :: av.map (kc_v G)).toArray) (fun v hv => List.mem_append_right _ (List.mem_cons_of_mem _ hv)) (fun C hW hs H ls locs hP hA hS hL => ?_) kk
  have hmem : ∀ v ∈ rv t k :: av, ok_v T v := fun v hv => hs v (by
    rcases List.mem_cons.mp hv with rfl | hv
    · exact List.mem_append_right _ List.mem_cons_self
    · exact List.mem_append_left _ (List.mem_reverse.mpr hv))
  rcases hmem _ List.mem_cons_self with ⟨h12, m', hT, -, -⟩ | ⟨e, -⟩
  · have hts := C.2.2.2.2.1
    have hK := C.2.2.2.2.2.1
    have hcw := va_cnB (R := m_rm M) (args := x_a X) (s := x_s X) (index := idx) n hts (k_good hg1) rfl hg4 hg5 (C.2.2.2.2.2.2.1 _ hl) (hts _ hg2) hg3 hR
    have hkc : kc_v G (rv t k) = .ref (g_a G k) := kc_r h12
    refine va_runVN (C := (m_y N).cls) (b := g_a G k) (As := av.map (kc_v G)) (Ts := kw) ⟨C.1, C.2.1, C.2.2.1, C.2.2.2.1, hts⟩ hc ⟨hcw, hts _ hv1, hts _ hv2⟩ ⟨k_B_blind, ?_, fun U hU hw => ⟨?_, k_B_at C hW hA hP hS hmem hU hw⟩⟩ rfl (by rw [List.length_map]; exact hn) hL.1 ?_ (k_room hcat) (k_dec C hd) ⟨hcs.1, hcs.2⟩
    · obtain ⟨cell, b1, b2, b3⟩ := va_recv hK hP hq (k_obj (t := (t.1, m')) hT h9)
      exact ⟨cell, b1, b2, by rw [← hqc]; exact b3⟩
    · rw [List.map_cons, hkc]
    · show (av.reverse ++ rv t k :: st).map (kc_v G) = _
      rw [k_stk, List.map_cons, hkc]
  · exact absurd e (by omega)
theorem V_callS {av : List kV} {r : Option kV} {idx n : Nat} (i : Nat) (hd : (m_tab M)[i]? = some (pc, .invokestatic idx, 3)) (hc : k_C G N T av h r h') (hg : k_g N n) (hv : Cond.static (m_y N) ∈ kw) (hl : Cond.methodLink (m_own M) idx (m_y N) ∈ kw) (hR : k_fit M N) (hn : av.length = n) (hcat : (st.map k_cat).sum ≤ 8) (hcs : kc ≤ (m_rm M).cells ∧ ks ≤ (m_rm M).slots)
    (kk : V G M X T kc ks (pc + 3) lc (r.toList ++ st) h') : V G M X T kc ks pc lc (av.reverse ++ st) h := by
  obtain ⟨hg1, hg2, hg3, hg4, hg5⟩ := hg
  refine V_run (r := r) (h' := h') (st := st) (a := (av.map (kc_v G)).toArray) (fun v hv => List.mem_append_right _ hv) (fun C hW hs H ls locs hP hA hS hL => ?_) kk
  have hmem : ∀ v ∈ av, ok_v T v := fun v hv => hs v (List.mem_append_left _ (List.mem_reverse.mpr hv))
  have hts := C.2.2.2.2.1
  refine va_runS (As := av.map (kc_v G)) (Ts := kw) ⟨C.1, C.2.1, C.2.2.1, C.2.2.2.1, hts⟩ hc ⟨callB_of n hts (k_good hg1) rfl hg4 hg5 (hts _ hg2) (hts _ hl) hg3 hR, hts _ hv⟩ ⟨k_B_blind, fun U hU hw => ⟨rfl, k_B_at C hW hA hP hS hmem hU hw⟩⟩ rfl (by rw [List.length_map]; exact hn) hL.1 ?_ (k_room hcat) (k_dec C hd) ⟨hcs.1, hcs.2⟩
  exact k_stk
theorem V_callSN {av : List kV} {r : Option kV} {idx n : Nat} (i : Nat) (hd : (m_tab M)[i]? = some (pc, .invokestatic idx, 3)) (hc : k_C G N T av h r h') (hg : k_g N n) (hv : Cond.static (m_y N) ∈ kw) (hl : (m_own M, idx, m_y N, RX7) ∈ kw_nest) (hR : k_fit M N) (hn : av.length = n) (hcat : (st.map k_cat).sum ≤ 8) (hcs : kc ≤ (m_rm M).cells ∧ ks ≤ (m_rm M).slots)
    (kk : V G M X T kc ks (pc + 3) lc (r.toList ++ st) h') : V G M X T kc ks pc lc (av.reverse ++ st) h := by
  obtain ⟨hg1, hg2, hg3, hg4, hg5⟩ := hg
  refine V_run (r := r) (h' := h') (st := st) (a := (av.map (kc_v G)).toArray) (fun v hv => List.mem_append_right _ hv) (fun C hW hs H ls locs hP hA hS hL => ?_) kk
  have hmem : ∀ v ∈ av, ok_v T v := fun v hv => hs v (List.mem_append_left _ (List.mem_reverse.mpr hv))
  have hts := C.2.2.2.2.1
  have hcw := va_cnB (R := m_rm M) (args := x_a X) (s := x_s X) (index := idx) n hts (k_good hg1) rfl hg4 hg5 (C.2.2.2.2.2.2.1 _ hl) (hts _ hg2) hg3 hR
  refine va_runSN (As := av.map (kc_v G)) (Ts := kw) ⟨C.1, C.2.1, C.2.2.1, C.2.2.2.1, hts⟩ hc ⟨hcw, hts _ hv, trivial⟩ ⟨k_B_blind, fun U hU hw => ⟨rfl, k_B_at C hW hA hP hS hmem hU hw⟩⟩ rfl (by rw [List.length_map]; exact hn) hL.1 ?_ (k_room hcat) (k_dec C hd) ⟨hcs.1, hcs.2⟩
  exact k_stk
/-- the ends -/
def k_R (G : kG) (M : kM) (X : kX) (T : List kT) (kc ks : Nat) (r : Option kV) (h' : kH) : Prop := x_Q X = MQ (x_w X) (k_Q G T r h') (x_a X) (x_s X) kc ks (k_A G) ∧ (x_h X).sig.returnType = m_ret M ∧ (x_h X).locks = false
theorem V_iret {r : Int32} (i : Nat) (hd : (m_tab M)[i]? = some (pc, .ireturn, 1)) (hR : k_R G M X T kc ks (some (iv r)) h) (hm : m_ret M = some .int) : V G M X T kc ks pc lc [iv r] h := by
  intro C hW hs hl H ls locs hP hA hS hL
  obtain ⟨hQ, hr, hlk⟩ := hR
  show W _ _ _ _ _ _ _ _ _ _ _ _ _ _ (x_Q X) _
  rw [hQ]
  exact W.iret (v := r) C.1 C.2.1 (by rw [hr, hm]) (fun t ht hw => ⟨rfl, fun v hv => by cases hv; exact trivial, by rw [ht]; exact hP, hS.F ht⟩) (fun q hq => hS.2.2 q hq) (k_dec C hd) hlk
theorem V_zret {r : Int32} (i : Nat) (hd : (m_tab M)[i]? = some (pc, .ireturn, 1)) (hb : r &&& 1 = r) (hR : k_R G M X T kc ks (some (iv r)) h) (hm : m_ret M = some .boolean) : V G M X T kc ks pc lc [iv r] h := by
  intro C hW hs hl H ls locs hP hA hS hL
  obtain ⟨hQ, hr, hlk⟩ := hR
  show W _ _ _ _ _ _ _ _ _ _ _ _ _ _ (x_Q X) _
  rw [hQ]
  exact W.zret (v := r) (ty := .boolean) C.1 C.2.1 (by rw [hr, hm]) (by simp [narrow, hb]) (fun t ht hw => ⟨rfl, fun v hv => by cases hv; exact trivial, by rw [ht]; exact hP, hS.F ht⟩) (fun q hq => hS.2.2 q hq) (k_dec C hd) hlk
theorem V_vret (i : Nat) (hd : (m_tab M)[i]? = some (pc, .return_, 1)) (hR : k_R G M X T kc ks none h) (hm : m_ret M = none) : V G M X T kc ks pc lc [] h := by
  intro C hW hs hl H ls locs hP hA hS hL
  obtain ⟨hQ, hr, hlk⟩ := hR
  show W _ _ _ _ _ _ _ _ _ _ _ _ _ _ (x_Q X) _
  rw [hQ]
  exact W.vret C.1 C.2.1 (by rw [hr, hm]) (fun t ht hw => ⟨rfl, (fun v hv => (by cases hv)), (by rw [ht]; exact hP), hS.F ht⟩) (fun q hq => hS.2.2 q hq) (k_dec C hd) hlk
theorem V_aret {t : kT} {k : Nat} {rt : FieldType} (i : Nat) (hd : (m_tab M)[i]? = some (pc, .areturn, 1)) (hR : k_R G M X T kc ks (some (rv t k)) h) (hm : m_ret M = some rt) (hrt : (∃ n, rt = .object n) ∨ ∃ t, rt = .array t) : V G M X T kc ks pc lc [rv t k] h := by
  intro C hW hs hl H ls locs hP hA hS hL
  obtain ⟨hQ, hr, hlk⟩ := hR
  show W _ _ _ _ _ _ _ _ _ _ _ _ _ _ (x_Q X) _
  rw [hQ]
  exact W.aret (v := kc_v G (rv t k)) C.1 C.2.1 (by rw [hr, hm]) hrt (Or.inr ⟨_, rfl⟩) (fun t ht hw => ⟨rfl, fun v hv => by cases hv; exact hs _ List.mem_cons_self, by rw [ht]; exact hP, hS.F ht⟩) (fun q hq => hS.2.2 q hq) (k_dec C hd) hlk
/-- Math.min, Math.max -/
theorem V_mmin {x y : Int32} {idx : Nat} (i : Nat) (hd : (m_tab M)[i]? = some (pc, .invokestatic idx, 3)) (hl : Cond.methodLink (m_own M) idx Lib.Math.min.name ∈ kw) (hw1 : Cond.static Lib.Math.min.name ∈ kw) (hw2 : Cond.initialized "java/lang/Math" ∈ kw) (hw3 : Cond.code Lib.Math.min.name Lib.Math.min.code 2 (some .int) ∈ kw) (hR : 1 ≤ (m_rm M).frames ∧ (st.map k_cat).sum + 13 ≤ (m_rm M).locals) (hcs : kc ≤ (m_rm M).cells ∧ ks ≤ (m_rm M).slots)
    (kk : V G M X T kc ks (pc + 3) lc (iv (if y < x then y else x) :: st) h) : V G M X T kc ks pc lc (iv y :: iv x :: st) h := by
  intro C hW hs hl' H ls locs hP hA hS hL
  have hts := C.2.2.2.2.1
  have w := kk C hW (ok_c (v := iv (if y < x then y else x)) (a := iv y :: iv x :: st) (b := st) trivial (fun _ q => List.mem_cons_of_mem _ (List.mem_cons_of_mem _ q)) hs) hl' H ls locs hP hA hS hL
  exact va_mmin C.1 C.2.1 (by rw [C.2.2.1]; exact hL.1.symm) C.2.2.2.1 (hts _ hl) (hts _ hw1) (hts _ hw2) (hts _ hw3) hR.1 (by rw [k_cats]; exact hR.2) hcs.1 hcs.2 (k_dec C hd) w
theorem V_mmax {x y : Int32} {idx : Nat} (i : Nat) (hd : (m_tab M)[i]? = some (pc, .invokestatic idx, 3)) (hl : Cond.methodLink (m_own M) idx Lib.Math.max.name ∈ kw) (hw1 : Cond.static Lib.Math.max.name ∈ kw) (hw2 : Cond.initialized "java/lang/Math" ∈ kw) (hw3 : Cond.code Lib.Math.max.name Lib.Math.max.code 2 (some .int) ∈ kw) (hR : 1 ≤ (m_rm M).frames ∧ (st.map k_cat).sum + 13 ≤ (m_rm M).locals) (hcs : kc ≤ (m_rm M).cells ∧ ks ≤ (m_rm M).slots)
    (kk : V G M X T kc ks (pc + 3) lc (iv (if x < y then y else x) :: st) h) : V G M X T kc ks pc lc (iv y :: iv x :: st) h := by
  intro C hW hs hl' H ls locs hP hA hS hL
  have hts := C.2.2.2.2.1
  have w := kk C hW (ok_c (v := iv (if x < y then y else x)) (a := iv y :: iv x :: st) (b := st) trivial (fun _ q => List.mem_cons_of_mem _ (List.mem_cons_of_mem _ q)) hs) hl' H ls locs hP hA hS hL
  exact va_mmax C.1 C.2.1 (by rw [C.2.2.1]; exact hL.1.symm) C.2.2.2.1 (hts _ hl) (hts _ hw1) (hts _ hw2) (hts _ hw3) hR.1 (by rw [k_cats]; exact hR.2) hcs.1 hcs.2 (k_dec C hd) w
/-- the start of a method -/
def k_ent : List kV → List (Option kV)
  | [] => []
  | v :: r => if k_cat v = 2 then some v :: none :: k_ent r else some v :: k_ent r
theorem k_ent_mem : ∀ (av : List kV) (i : Nat) (q : Nat × Value), q ∈ k_lc G i (k_ent av) → q ∈ lv_args i (av.map (kc_v G))
  | [], i, q, hq => by simp [k_ent, k_lc] at hq
  | v :: r, i, q, hq => by
    rw [List.map_cons, lv_args, k_cat_eq]
    by_cases h2 : k_cat v = 2
    · rw [k_ent, if_pos h2, k_lc, k_lc] at hq
      rw [if_pos h2]
      rcases List.mem_cons.mp hq with rfl | hq
      · exact List.mem_cons_self
      · exact List.mem_cons_of_mem _ (k_ent_mem r _ q hq)
    · rw [k_ent, if_neg h2, k_lc] at hq
      rw [if_neg h2]
      rcases List.mem_cons.mp hq with rfl | hq
      · exact List.mem_cons_self
      · exact List.mem_cons_of_mem _ (k_ent_mem r _ q hq)
theorem k_lc_app : ∀ (l : List (Option kV)) (n i : Nat), k_lc G i (l ++ List.replicate n none) = k_lc G i l
  | [], 0, i => by simp [k_lc]
  | [], n + 1, i => by
    have := k_lc_app [] n (i + 1)
    rw [List.nil_append] at this
    rw [List.nil_append, List.replicate_succ]
    show k_lc G (i + 1) (List.replicate n none) = _
    rw [this]
    rfl
  | none :: r, n, i => by rw [List.cons_append, k_lc, k_lc, k_lc_app r n (i + 1)]
  | some v :: r, n, i => by rw [List.cons_append, k_lc, k_lc, k_lc_app r n (i + 1)]
theorem k_ent_ok {av : List kV} : ∀ v, some v ∈ k_ent av → v ∈ av := by
  induction av with
  | nil => intro v hv; simp [k_ent] at hv
  | cons u r ih =>
    intro v hv
    by_cases h2 : k_cat u = 2
    · rw [k_ent, if_pos h2] at hv
      rcases List.mem_cons.mp hv with e | hv
      · cases e; exact List.mem_cons_self
      · rcases List.mem_cons.mp hv with e | hv
        · cases e
        · exact List.mem_cons_of_mem _ (ih v hv)
    · rw [k_ent, if_neg h2] at hv
      rcases List.mem_cons.mp hv with e | hv
      · cases e; exact List.mem_cons_self
      · exact List.mem_cons_of_mem _ (ih v hv)
theorem k_sl_len (av : List kV) : (lg_sl (av.map (kc_v G))).length = (av.map k_cat).sum := by
  induction av with
  | nil => rfl
  | cons v r ih =>
    rw [List.map_cons, List.map_cons, List.sum_cons, ← ih, lg_sl, List.flatMap_cons, List.length_append, k_cat_eq]
    congr 1
    by_cases h2 : k_cat v = 2
    · rw [if_pos h2, h2]; rfl
    · rw [if_neg h2]
      rcases v with x | x | ⟨t, k⟩
      · rfl
      · exact absurd rfl h2
      · rfl
/-- a contract out of its walk -/
theorem k_C_of {av : List kV} {r : Option kV} (n : Nat) (hy : plainName (m_y M).cls = true) (hcls : (m_y M).cls = m_own M) (htab : ∀ q ∈ m_tab M, decode (m_cc M) q.1 = .ok q.2) (hn : (av.map k_cat).sum + n = m_nL M)
    (walk : ∀ X : kX, k_R G M X T 0 0 r h' → V G M X T 0 0 0 (k_ent av ++ List.replicate n none) [] h) : k_C G M T av h r h' := by
  refine Met.ofW (cc := m_cc M) (maxL := m_nL M) (ret := m_ret M) hy rfl ?_
  intro p e s m args below meth c s₁ B hml hv
  obtain ⟨rfl, hP, hK, hNN, hSX, hgb, hA, hW, hok⟩ := hv
  have hts := atoms_spec (ws := m_ws M) B.pre
  have hown : s.vm.findClass (m_own M) = some m.cls := by rw [← hcls]; exact findClass_of_methodNamed B.named
  have hl := lv_entry (av.map (kc_v G)) (n := m_nL M) (by rw [k_sl_len]; omega)
  rw [lg_entry_eq]
  generalize (lg_sl (av.map (kc_v G)) ++ List.replicate (m_nL M - (lg_sl (av.map (kc_v G))).length) Slot.unset).toArray = ls at hl ⊢
  refine walk (p, e, s, m, (av.map (kc_v G)).toArray, below, meth, c, MQ below (k_Q G T r h') (av.map (kc_v G)).toArray s 0 0 (k_A G)) ⟨rfl, B.returns, B.notSynchronized⟩ ⟨B.exec, B.bytes, hml, hown, fun w hw => hts w (List.mem_cons_of_mem _ hw), hK, hNN, hSX, hgb, htab⟩ hW (fun v hv => by cases hv) (fun v hv => ?_) s.heap ls [] hP hA va_S.rf ?_
  · rcases List.mem_append.mp hv with hv | hv
    · exact hok v (k_ent_ok v hv)
    · cases (List.mem_replicate.mp hv).2
  · rw [k_lc_app]
    exact k_has_sub hl (fun q hq => k_ent_mem av 0 q hq)
end
