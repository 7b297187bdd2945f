/-! rows for what makes things: arrays, parts put into their owner, constructors -/
section
variable {G : kG} {M N : kM} {X : kX} {T T' : List kT} {kc ks pc : Nat} {lc : List (Option kV)} {st : List kV} {h h' : kH} {a : Nat → Nat}
/-- behind a new array -/
theorem V_newa0 {t : kT} {q : Nat} {e : va_E} {H1 : Heap} {ls : Array Slot} {locs : List Loc} {F : Nat} (h9 : 9 ≤ t.1) (h12 : t.1 < 12) (hz : h T.length = fun _ => 0) (he : e = k_ce (ga (ga G a) (au (ga G a) T.length q)) T.length t (fun _ => 0)) (C : k_X (ga G a) M X) (hW : k_WF T) (hs : ∀ v ∈ st, ok_v T v) (hl : ∀ v, some v ∈ lc → ok_v T v) (hP1 : va_P (g_D G) vwCl (k_wl (ga G a) T h ++ [(q, e)]) H1) (hD1 : va_D (k_A G) (k_wl (ga G a) T h ++ [(q, e)])) (hS1 : va_S (k_A G) (x_s X).heap H1 locs) (hL : lv_has ls (m_nL M) (k_lc (ga G a) 0 lc)) (kk : ∀ a', (∀ i, i < T.length → a' i = a i) → V (ga G a') M X (T ++ [t]) (kc + 1) (ks + F) (pc + 2) lc (rv t T.length :: st) h) : k_W (ga G a) M X H1 locs (kc + 1) (ks + F) (F0 (x_m X) (pc + 2) ls (.ref q :: st.map (kc_v (ga G a)))) := by
  have pu := k_push (G := ga G a) (t := t) (q := q) (e := e) hW hz he hP1 hD1
  have w := kk (au (ga G a) T.length q) au_lt C (WF_app hW (fun q => absurd q (by omega))) (fun v hv => by
    rcases List.mem_cons.mp hv with rfl | hv
    · exact Or.inl ⟨h12, t.2, by rw [List.getElem?_append_right (Nat.le_refl _), Nat.sub_self]; rfl, fun _ => rfl, fun q => q⟩
    · exact ok_le (k_le_app _) (hs v hv)) (fun v hv => ok_le (k_le_app _) (hl v hv)) H1 ls locs pu.1 pu.2 hS1 (by
      have := lc_ga (G := ga G a) (a := au (ga G a) T.length q) au_lt lc 0 hl
      rw [show ga (ga G a) (au (ga G a) T.length q) = ga G (au (ga G a) T.length q) from rfl] at this
      rw [this]; exact hL)
  have es := st_ga (G := ga G a) (a := au (ga G a) T.length q) (st := st) au_lt hs
  rw [show ga (ga G a) (au (ga G a) T.length q) = ga G (au (ga G a) T.length q) from rfl] at es
  rw [List.map_cons, es, show kc_v (ga G (au (ga G a) T.length q)) (rv t T.length) = .ref q by
    rw [kc_r h12]
    exact congrArg Value.ref (if_pos rfl)] at w
  exact w
theorem V_newI {F n : Nat} {x : Int32} (i : Nat) (hd : (m_tab M)[i]? = some (pc, .newarray .int, 2)) (hw : Cond.arrayClass .int ∈ kw) (hx : x.toNatClampNeg = F) (hx0 : ¬ x < 0) (hb : F ≤ 10000) (hlen : T.length = n) (hz : h n = fun _ => 0) (hcs : kc + 1 ≤ (m_rm M).cells ∧ ks + F ≤ (m_rm M).slots) (kk : ∀ a', (∀ i, i < n → a' i = a i) → V (ga G a') M X (T ++ [(9, F)]) (kc + 1) (ks + F) (pc + 2) lc (rv (9, F) n :: st) h) : V (ga G a) M X T kc ks pc lc (iv x :: st) h := by
  subst hlen
  intro C hW hs hl H ls locs hP hA hS hL
  have hts := C.2.2.2.2.1
  refine va_newa (D := g_D G) (cl := vwCl) (tys := k_ty G) (A := k_A G) (atype := .int) (ty := .int) (a0 := (F, .inl fun _ => 0)) C.1 C.2.1 (hts _ hw) rfl C.2.2.2.2.2.1 hP (k_wl_D hA) hS (fun q hq => Nat.le_trans C.2.2.2.2.2.2.2.2.1 hq) (fun cA => rfl) hx0 hx (by show F * 4 ≤ 536870912; omega) hcs.1 hcs.2 (k_dec C hd) (fun q cA H1 hK1 hP1 hD1 hS1 => ?_)
  have hc : cA = g_I G := Option.some.inj ((hK1.2 3 (cA, .int) rfl).2.symm.trans (C.2.2.2.2.2.1.2 0 (g_I G, .int) rfl).2)
  subst hc
  exact V_newa0 (t := (9, F)) (show 9 ≤ 9 from Nat.le_refl 9) (show 9 < 12 by omega) hz rfl C hW (fun v hv => hs v (List.mem_cons_of_mem _ hv)) hl hP1 hD1 hS1 hL kk
theorem V_newB {F n : Nat} {x : Int32} (i : Nat) (hd : (m_tab M)[i]? = some (pc, .newarray .byte, 2)) (hw : Cond.arrayClass .byte ∈ kw) (hx : x.toNatClampNeg = F) (hx0 : ¬ x < 0) (hb : F ≤ 10000) (hlen : T.length = n) (hz : h n = fun _ => 0) (hcs : kc + 1 ≤ (m_rm M).cells ∧ ks + F ≤ (m_rm M).slots) (kk : ∀ a', (∀ i, i < n → a' i = a i) → V (ga G a') M X (T ++ [(10, F)]) (kc + 1) (ks + F) (pc + 2) lc (rv (10, F) n :: st) h) : V (ga G a) M X T kc ks pc lc (iv x :: st) h := by
  subst hlen
  intro C hW hs hl H ls locs hP hA hS hL
  have hts := C.2.2.2.2.1
  refine va_newa (D := g_D G) (cl := vwCl) (tys := k_ty G) (A := k_A G) (atype := .byte) (ty := .byte) (a0 := (F, .inl fun _ => 0)) C.1 C.2.1 (hts _ hw) rfl C.2.2.2.2.2.1 hP (k_wl_D hA) hS (fun q hq => Nat.le_trans C.2.2.2.2.2.2.2.2.1 hq) (fun cA => rfl) hx0 hx (by show F * 1 ≤ 536870912; omega) hcs.1 hcs.2 (k_dec C hd) (fun q cA H1 hK1 hP1 hD1 hS1 => ?_)
  have hc : cA = g_B G := Option.some.inj ((hK1.2 3 (cA, .byte) rfl).2.symm.trans (C.2.2.2.2.2.1.2 1 (g_B G, .byte) rfl).2)
  subst hc
  exact V_newa0 (t := (10, F)) (show 9 ≤ 10 by omega) (show 10 < 12 by omega) hz rfl C hW (fun v hv => hs v (List.mem_cons_of_mem _ hv)) hl hP1 hD1 hS1 hL kk
theorem V_newZ {F n : Nat} {x : Int32} (i : Nat) (hd : (m_tab M)[i]? = some (pc, .newarray .boolean, 2)) (hw : Cond.arrayClass .boolean ∈ kw) (hx : x.toNatClampNeg = F) (hx0 : ¬ x < 0) (hb : F ≤ 10000) (hlen : T.length = n) (hz : h n = fun _ => 0) (hcs : kc + 1 ≤ (m_rm M).cells ∧ ks + F ≤ (m_rm M).slots) (kk : ∀ a', (∀ i, i < n → a' i = a i) → V (ga G a') M X (T ++ [(11, F)]) (kc + 1) (ks + F) (pc + 2) lc (rv (11, F) n :: st) h) : V (ga G a) M X T kc ks pc lc (iv x :: st) h := by
  subst hlen
  intro C hW hs hl H ls locs hP hA hS hL
  have hts := C.2.2.2.2.1
  refine va_newa (D := g_D G) (cl := vwCl) (tys := k_ty G) (A := k_A G) (atype := .boolean) (ty := .boolean) (a0 := (F, .inl fun _ => 0)) C.1 C.2.1 (hts _ hw) rfl C.2.2.2.2.2.1 hP (k_wl_D hA) hS (fun q hq => Nat.le_trans C.2.2.2.2.2.2.2.2.1 hq) (fun cA => rfl) hx0 hx (by show F * 1 ≤ 536870912; omega) hcs.1 hcs.2 (k_dec C hd) (fun q cA H1 hK1 hP1 hD1 hS1 => ?_)
  have hc : cA = g_Z G := Option.some.inj ((hK1.2 3 (cA, .boolean) rfl).2.symm.trans (C.2.2.2.2.2.1.2 2 (g_Z G, .boolean) rfl).2)
  subst hc
  exact V_newa0 (t := (11, F)) (show 9 ≤ 11 by omega) (show 11 < 12 by omega) hz rfl C hW (fun v hv => hs v (List.mem_cons_of_mem _ hv)) hl hP1 hD1 hS1 hL kk
/-- a part's link, to be put in a constructor -/
def k_Fp (own : String) (idx ci j off : Nat) (t : kT) : Prop := ∃ (C : String) (F : u_T) (N : Nat) (ty : Nat → FieldType) (fty : FieldType), k_cls ci C F N ty ∧ j < N ∧ (k_fd ci)[j]? = some (some (off, t)) ∧ Cond.fieldLink own idx (F j).1 (F j).2.1 (F j).2.2.1 ∈ kw ∧ (F j).2.2.2 = true ∧ (F j).1 = own ∧ parseFieldDescriptor (F j).2.2.1 = some fty ∧ ∀ q : Nat, narrow fty (.ref q) = .ref q ∧ fits fty (.ref q) = true
theorem k_le_set {k ci m m' : Nat} (hT : T[k]? = some (ci, m)) (hc : ci < 9) (hm : m = 99 → m' = 99) : k_le T (T.set k (ci, m')) := by
  intro i t q hq
  by_cases e : i = k
  · subst e
    rw [hT] at hq
    cases hq
    exact ⟨m', by rw [List.getElem?_set_self (List.getElem?_eq_some_iff.mp hT).1], fun z => absurd z (by omega), hm⟩
  · exact ⟨q, by rw [List.getElem?_set_ne (Ne.symm e)]; exact hq, fun _ => rfl, fun z => z⟩
theorem k_fd_ok {c x : Nat} {q : Nat × kT} (hq : (k_fd c)[x]? = some (some q)) : q.1 ≠ 0 ∧ (q.2.1 < 9 → q.2.2 = 99) ∧ q.2.1 < 12 := by
  have h9 := k_fd_9 (List.getElem?_eq_some_iff.mp hq).1
  have all : ∀ c, c < 9 → ∀ o ∈ k_fd c, (match o with | none => true | some q => decide (q.1 ≠ 0) && decide (q.2.1 < 9 → q.2.2 = 99) && decide (q.2.1 < 12)) = true := by decide
  have := all c h9 _ (List.mem_of_getElem? hq)
  rw [Bool.and_eq_true, Bool.and_eq_true, decide_eq_true_eq, decide_eq_true_eq, decide_eq_true_eq] at this
  exact ⟨this.1.1, this.1.2, this.2⟩
theorem WF_set {k ci m m' j off : Nat} {t : kT} (hW : k_WF T) (hT : T[k]? = some (ci, m)) (hc : ci < 9) (h99 : m ≠ 99) (hfd : (k_fd ci)[j]? = some (some (off, t))) (hP : T[k + off]? = some t) (hm : ∀ (i : Nat) (q : Nat × kT), (k_fd ci)[i]? = some (some q) → (i < m' ↔ i < m ∨ i = j)) : k_WF (T.set k (ci, m')) := by
  intro i t' hi h9 x q hq hx
  obtain ⟨q0, q9, -⟩ := k_fd_ok hq
  by_cases e : i = k
  · subst e
    rw [List.getElem?_set_self (List.getElem?_eq_some_iff.mp hT).1] at hi
    have e2 : (ci, m') = t' := Option.some.inj hi
    subst e2
    rw [List.getElem?_set_ne (by omega)]
    rcases (hm x q hq).mp hx with z | z
    · exact hW i _ hT h9 x q hq z
    · subst z
      have : (off, t) = q := Option.some.inj (Option.some.inj (hfd.symm.trans hq))
      subst this
      exact hP
  · rw [List.getElem?_set_ne (Ne.symm e)] at hi
    have w := hW i t' hi h9 x q hq hx
    by_cases e3 : i + q.1 = k
    · exfalso
      rw [e3, hT] at w
      have e4 : (ci, m) = q.2 := Option.some.inj w
      exact h99 (by have := q9 (by rw [← e4]; exact hc); rw [← e4] at this; exact this)
    · rw [List.getElem?_set_ne (fun z => e3 z.symm)]
      exact w
/-- a part is put into its owner -/
theorem V_putR {idx ci j off k m m0 k' : Nat} {t tv : kT} (m' i : Nat) (hd : (m_tab M)[i]? = some (pc, .putfield idx, 3)) (hf : k_Fp (m_own M) idx ci j off t) (hin : (x_h X).name = "<init>") (hT : T[k]? = some (ci, m)) (h99 : m ≠ 99) (hk : k + off = k') (hP' : T[k']? = some t) (htv : tv.1 < 12) (hm : ∀ (i : Nat) (q : Nat × kT), (k_fd ci)[i]? = some (some q) → (i < m' ↔ i < m ∨ i = j)) (kk : V G M X (T.set k (ci, m')) kc ks (pc + 3) lc st h) : V G M X T kc ks pc lc (rv tv k' :: rv (ci, m0) k :: st) h := by
  subst hk
  intro C hW hs hl H ls locs hP hA hS hL
  obtain ⟨Cn, F, N, ty, fty, ⟨hc, hin', hty, hnm, hlen, h9⟩, hj, hfd, hlink, hfin, hdecl, hpd, hnf⟩ := hf
  have hle : k_le T (T.set k (ci, m')) := k_le_set hT h9 (fun z => absurd z h99)
  show k_W G M X H locs kc ks (F0 (x_m X) pc ls (kc_v G (rv tv (k + off)) :: kc_v G (rv (ci, m0) k) :: st.map (kc_v G)))
  rw [kc_r htv, kc_r (show (ci, m0).1 < 12 from (show ci < 12 by omega))]
  refine va_putF (D := g_D G) (cl := vwCl) (v := .ref (g_a G (k + off))) (ty := fty) C.1 C.2.1 C.2.2.2.2.1 hin' ty hty hnm C.2.2.2.1 C.2.2.2.2.2.1 hP (k_wl_D hA) hS k (k_obj hT h9) hc j hj (C.2.2.2.2.1 _ hlink) (fun _ q => q) hfin hin hdecl hpd (hnf _).1 (hnf _).2 (by rw [k_fv_len]; show j < (k_fd ci).length; omega) (k_dec C hd) (fun H1 locs1 hP1 hD1 hS1 => ?_)
  have e1 : (k_wl G T h).set k (g_a G k, .inr (ci, (k_fv G k (ci, m) (h k)).set j (.ref (g_a G (k + off))))) = k_wl G (T.set k (ci, m')) (sr h k (h k)) := by
    refine k_wl_set hT ?_
    rw [k_ce, if_neg (show ¬ ci = 9 by omega), if_neg (show ¬ ci = 10 by omega), if_neg (show ¬ ci = 11 by omega)]
    congr 2
    refine k_ext fun i => ?_
    have hl2 := (List.getElem?_eq_some_iff.mp hfd).1
    by_cases hi : i = j
    · subst hi
      rw [List.getElem?_set_self (by rw [k_fv_len]; exact hl2), k_fv_r (t := (ci, m')) hfd, if_pos ((hm i _ hfd).mpr (Or.inr rfl))]
    · rw [List.getElem?_set_ne (Ne.symm hi)]
      by_cases hil : i < (k_fd ci).length
      · cases e : (k_fd ci)[i] with
        | none => rw [k_fv_i (t := (ci, m)) (by rw [List.getElem?_eq_getElem hil, e]), k_fv_i (t := (ci, m')) (by rw [List.getElem?_eq_getElem hil, e])]
        | some q =>
          have hq : (k_fd ci)[i]? = some (some q) := by rw [List.getElem?_eq_getElem hil, e]
          have hq' := hm i q hq
          rw [k_fv_r (t := (ci, m)) (off := q.1) (u := q.2) hq, k_fv_r (t := (ci, m')) (off := q.1) (u := q.2) hq]
          by_cases z : i < m
          · rw [if_pos z, if_pos (hq'.mpr (Or.inl z))]
          · rw [if_neg z, if_neg (fun y => (hq'.mp y).elim z hi)]
      · rw [List.getElem?_eq_none (by rw [k_fv_len]; exact Nat.le_of_not_lt hil), List.getElem?_eq_none (by rw [k_fv_len]; exact Nat.le_of_not_lt hil)]
  have e2 : sr h k (h k) = h := by
    funext r
    unfold sr
    by_cases z : r = k
    · rw [if_pos z, z]
    · rw [if_neg z]
  have hP2 : va_P (g_D G) vwCl ((k_wl G T h).set k (g_a G k, .inr (ci, (k_fv G k (ci, m) (h k)).set j (.ref (g_a G (k + off)))))) H1 := hP1
  rw [e1, e2] at hP2
  have hA2 : k_AD G (T.set k (ci, m')) := by
    unfold k_AD
    rw [List.length_set]
    exact hA
  exact kk C (WF_set hW hT h9 h99 hfd hP' hm) (fun v hv => ok_le hle (hs v (List.mem_cons_of_mem _ (List.mem_cons_of_mem _ hv)))) (fun v hv => ok_le hle (hl v hv)) H1 ls locs1 hP2 hA2 hS1 hL
theorem V_objInit {idx k : Nat} {t : kT} (i : Nat) (hd : (m_tab M)[i]? = some (pc, .invokespecial idx, 3)) (hl : Cond.methodLink (m_own M) idx Lib.objectInit ∈ kw) (hw1 : Cond.instanceMethod Lib.objectInit ∈ kw) (hw2 : Cond.code Lib.objectInit ⟨#[0xb1]⟩ 1 none ∈ kw) (hR : 1 ≤ (m_rm M).frames ∧ (st.map k_cat).sum + 12 ≤ (m_rm M).locals) (kk : V G M X T kc ks (pc + 3) lc st h) : V G M X T kc ks pc lc (rv t k :: st) h := by
  intro C hW hs hl' H ls locs hP hA hS hL
  have hts := C.2.2.2.2.1
  have w := kk C hW (fun v hv => hs v (List.mem_cons_of_mem _ hv)) hl' H ls locs hP hA hS hL
  exact W.objInit C.1 C.2.1 C.2.2.2.1 (hts _ hl) (hts _ hw1) (hts _ hw2) rfl (by rw [C.2.2.1]; exact hL.1) rfl (k_dec C hd) hR.1 (by rw [k_cats]; exact (show 2 * 0 + (st.map k_cat).sum + 12 ≤ (m_rm M).locals by omega)) w
theorem V_up0 {ci k m : Nat} (hT : T[k]? = some (ci, 99)) (hc : ci < 9) (kk : V G M X T kc ks pc (some (rv (ci, 99) k) :: lc) st h) : V G M X T kc ks pc (some (rv (ci, m) k) :: lc) st h := by
  intro C hW hs hl H ls locs hP hA hS hL
  have e : kc_v G (rv (ci, 99) k) = kc_v G (rv (ci, m) k) := by rw [kc_r (show (ci, 99).1 < 12 from (show ci < 12 by omega)), kc_r (show (ci, m).1 < 12 from (show ci < 12 by omega))]
  have eL : k_lc G 0 (some (rv (ci, 99) k) :: lc) = k_lc G 0 (some (rv (ci, m) k) :: lc) := by rw [k_lc, k_lc, e]
  refine kk C hW hs (fun v hv => ?_) H ls locs hP hA hS (by rw [eL]; exact hL)
  rcases List.mem_cons.mp hv with e | hv
  · cases e
    exact Or.inl ⟨show ci < 12 by omega, 99, hT, fun q => absurd (show 9 ≤ ci from q) (by omega), fun _ => rfl⟩
  · exact hl v (List.mem_cons_of_mem _ hv)
theorem V_upS {ci k m : Nat} (hT : T[k]? = some (ci, 99)) (hc : ci < 9) (kk : V G M X T kc ks pc lc (rv (ci, 99) k :: st) h) : V G M X T kc ks pc lc (rv (ci, m) k :: st) h := by
  intro C hW hs hl H ls locs hP hA hS hL
  have e : kc_v G (rv (ci, 99) k) = kc_v G (rv (ci, m) k) := by rw [kc_r (show (ci, 99).1 < 12 from (show ci < 12 by omega)), kc_r (show (ci, m).1 < 12 from (show ci < 12 by omega))]
  rw [List.map_cons, ← e, ← List.map_cons]
  refine kk C hW (fun v hv => ?_) hl H ls locs hP hA hS hL
  rcases List.mem_cons.mp hv with rfl | hv
  · exact Or.inl ⟨show ci < 12 by omega, 99, hT, fun q => absurd (show 9 ≤ ci from q) (by omega), fun _ => rfl⟩
  · exact hs v (List.mem_cons_of_mem _ hv)
end
