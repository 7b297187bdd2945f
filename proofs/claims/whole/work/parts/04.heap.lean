/-- an index is in a row of n -/
def inb (x : Int32) (n : Nat) : Bool := decide (0 ≤ x) && decide (x.toNatClampNeg < n)
theorem inb_in {x : Int32} {n : Nat} (h : inb x n = true) : vp_in x n := by
  simp only [inb, Bool.and_eq_true, decide_eq_true_eq] at h
  intro q
  rcases q with q | q
  · exact absurd h.1 (Int32.not_le.mpr q)
  · omega
def hs (h : kH) (k i : Nat) (x : Int32) : kH := sr h k (upd (h k) i x)
section
variable {G : kG} {M : kM} {X : kX} {T : List kT} {kc ks pc : Nat} {lc : List (Option kV)} {st : List kV} {h : kH}
/-- what is known of a class by its number -/
def k_cls (ci : Nat) (C : String) (F : u_T) (N : Nat) (ty : Nat → FieldType) : Prop :=
  vwCl[ci]? = some (C, F, N) ∧ (∀ w ∈ u_ws C F N, w ∈ kw) ∧ (∀ k, k < N → parseFieldDescriptor (F k).2.2.1 = some (ty k)) ∧ (∀ a, a < N → ∀ b, b < N → a ≠ b → (F a).2.1 ≠ (F b).2.1) ∧ (k_fd ci).length = N ∧ ci < 9
theorem k_cls0 : k_cls 0 RX0 TX0 1 tyX0 := ⟨rfl, kw_X0, tyX0_ok, nmX0, rfl, by decide⟩
theorem k_cls1 : k_cls 1 RX1 TX1 6 tyX1 := ⟨rfl, kw_X1, tyX1_ok, nmX1, rfl, by decide⟩
theorem k_cls2 : k_cls 2 RX2 TX2 3 tyX2 := ⟨rfl, kw_X2, tyX2_ok, nmX2, rfl, by decide⟩
theorem k_cls3 : k_cls 3 RX3 TX3 6 tyX3 := ⟨rfl, kw_X3, tyX3_ok, nmX3, rfl, by decide⟩
theorem k_cls4 : k_cls 4 RX4 TX4 12 tyX4 := ⟨rfl, kw_X4, tyX4_ok, nmX4, rfl, by decide⟩
theorem k_cls5 : k_cls 5 RX5 TX5 10 tyX5 := ⟨rfl, kw_X5, tyX5_ok, nmX5, rfl, by decide⟩
theorem k_cls6 : k_cls 6 RX6 TX6 5 tyX6 := ⟨rfl, kw_X6, tyX6_ok, nmX6, rfl, by decide⟩
theorem k_cls7 : k_cls 7 RX7 TX7 14 tyX7 := ⟨rfl, kw_X7, tyX7_ok, nmX7, rfl, by decide⟩
theorem k_cls8 : k_cls 8 RX8 TX8 20 tyX8 := ⟨rfl, kw_X8, tyX8_ok, nmX8, rfl, by decide⟩
/-- an int field's link: own class, entry, class number, slot -/
def k_Fi (own : String) (idx ci j : Nat) : Prop := ∃ (C : String) (F : u_T) (N : Nat) (ty : Nat → FieldType), k_cls ci C F N ty ∧ j < N ∧ (k_fd ci)[j]? = some none ∧ Cond.fieldLink own idx (F j).1 (F j).2.1 (F j).2.2.1 ∈ kw ∧ (F j).2.2.1 = "I" ∧ (F j).2.2.2 = false
/-- a part's link: own class, entry, class number, slot, distance, tag -/
def k_Fr (own : String) (idx ci j off : Nat) (t : kT) : Prop := ∃ (C : String) (F : u_T) (N : Nat) (ty : Nat → FieldType), k_cls ci C F N ty ∧ j < N ∧ (k_fd ci)[j]? = some (some (off, t)) ∧ Cond.fieldLink own idx (F j).1 (F j).2.1 (F j).2.2.1 ∈ kw ∧ j < 99
theorem k_obj {k : Nat} {t : kT} (ht : T[k]? = some t) (hc : t.1 < 9) : (k_wl G T h)[k]? = some (g_a G k, .inr (t.1, k_fv G k t (h k))) := by
  rw [k_wl_at ht, k_ce, if_neg (by omega), if_neg (by omega), if_neg (by omega)]
theorem k_fv_i {k : Nat} {t : kT} {row : Nat → Int32} {j : Nat} (hj : (k_fd t.1)[j]? = some none) : (k_fv G k t row)[j]? = some (.int (row j)) := by
  have hl := (List.getElem?_eq_some_iff.mp hj).1
  simp [k_fv, k_f1, List.getElem?_map, List.getElem?_range hl, List.getD_eq_getElem?_getD, hj]
theorem k_fv_r {k : Nat} {t : kT} {row : Nat → Int32} {j off : Nat} {u : kT} (hj : (k_fd t.1)[j]? = some (some (off, u))) : (k_fv G k t row)[j]? = some (if j < t.2 then .ref (g_a G (k + off)) else .null) := by
  have hl := (List.getElem?_eq_some_iff.mp hj).1
  simp [k_fv, k_f1, List.getElem?_map, List.getElem?_range hl, List.getD_eq_getElem?_getD, hj]
theorem k_fv_len {k : Nat} {t : kT} {row : Nat → Int32} : (k_fv G k t row).length = (k_fd t.1).length := by simp [k_fv]
theorem k_fv_at {k : Nat} {t : kT} {row : Nat → Int32} {i : Nat} (hi : i < (k_fd t.1).length) : (k_fv G k t row)[i]? = some (k_f1 G k t row i) := by
  simp [k_fv, List.getElem?_map, List.getElem?_range hi]
theorem k_fv_set {k : Nat} {t : kT} {row : Nat → Int32} {j : Nat} {v : Int32} (hj : (k_fd t.1)[j]? = some none) : (k_fv G k t row).set j (.int v) = k_fv G k t (upd row j v) := by
  refine k_ext fun i => ?_
  have hl := (List.getElem?_eq_some_iff.mp hj).1
  by_cases hi : i = j
  · subst hi
    rw [List.getElem?_set_self (by rw [k_fv_len]; exact hl), k_fv_i hj, pk_us]
  · rw [List.getElem?_set_ne (Ne.symm hi)]
    by_cases hil : i < (k_fd t.1).length
    · rw [k_fv_at hil, k_fv_at hil, k_f1, k_f1, pk_un hi]
    · rw [List.getElem?_eq_none (by rw [k_fv_len]; omega), List.getElem?_eq_none (by rw [k_fv_len]; omega)]
theorem k_cell {k : Nat} {t : kT} (hs : ok_v T (rv t k)) (h9 : 9 ≤ t.1) (h12 : t.1 < 12) : T[k]? = some t := by
  rcases hs with ⟨-, m', hT, h9', -⟩ | ⟨e, -⟩
  · rw [hT, h9' h9]
  · omega
theorem V_getI {idx ci j k m : Nat} (i : Nat) (hd : (m_tab M)[i]? = some (pc, .getfield idx, 3)) (hf : k_Fi (m_own M) idx ci j) (kk : V G M X T kc ks (pc + 3) lc (iv (h k j) :: st) h) : V G M X T kc ks pc lc (rv (ci, m) k :: st) h := by
  intro C hW hs hl H ls locs hP hA hS hL
  obtain ⟨Cn, F, N, ty, ⟨hc, hin, hty, hnm, hlen, h9⟩, hj, hfd, hlink, -, -⟩ := hf
  rcases hs _ List.mem_cons_self with ⟨h12, m', hT, -, -⟩ | ⟨e, -⟩
  · have w := kk C hW (ok_c (v := iv (h k j)) (a := rv (ci, m) k :: st) (b := st) trivial (fun _ q => List.mem_cons_of_mem _ q) hs) hl H ls locs hP hA hS hL
    show k_W G M X H locs kc ks (F0 (x_m X) pc ls (kc_v G (rv (ci, m) k) :: st.map (kc_v G)))
    rw [kc_r h12]
    exact va_get (v := .int (h k j)) C.1 C.2.1 C.2.2.2.2.1 hin C.2.2.2.1 C.2.2.2.2.2.1 hP k (k_obj hT h9) hc j hj (C.2.2.2.2.1 _ hlink) (fun _ q => q) (k_fv_i hfd) (k_dec C hd) w
  · exact absurd (show ci = 12 from e) (by omega)
theorem V_getR {idx ci j off k : Nat} {t : kT} (k' : Nat) (i : Nat) (hd : (m_tab M)[i]? = some (pc, .getfield idx, 3)) (hf : k_Fr (m_own M) idx ci j off t) (ht : t.1 < 12 ∧ (9 ≤ t.1 ∨ t.2 = 99)) (hk : k + off = k') (kk : V G M X T kc ks (pc + 3) lc (rv t k' :: st) h) : V G M X T kc ks pc lc (rv (ci, 99) k :: st) h := by
  subst hk
  intro C hW hs hl H ls locs hP hA hS hL
  obtain ⟨Cn, F, N, ty, ⟨hc, hin, hty, hnm, hlen, h9⟩, hj, hfd, hlink, hj9⟩ := hf
  rcases hs _ List.mem_cons_self with ⟨h12, m', hT, -, h99⟩ | ⟨e, -⟩
  · obtain rfl : m' = 99 := h99 rfl
    have hch : T[k + off]? = some t := hW k _ hT h9 j (off, t) hfd hj9
    have w := kk C hW (ok_c (v := rv t (k + off)) (a := rv (ci, 99) k :: st) (b := st) (Or.inl ⟨ht.1, t.2, hch, fun _ => rfl, fun q => q⟩) (fun _ q => List.mem_cons_of_mem _ q) hs) hl H ls locs hP hA hS hL
    show k_W G M X H locs kc ks (F0 (x_m X) pc ls (kc_v G (rv (ci, 99) k) :: st.map (kc_v G)))
    have w : k_W G M X H locs kc ks (F0 (x_m X) (pc + 3) ls (kc_v G (rv t (k + off)) :: st.map (kc_v G))) := w
    rw [kc_r h12]
    rw [kc_r ht.1] at w
    exact va_get (v := .ref (g_a G (k + off))) C.1 C.2.1 C.2.2.2.2.1 hin C.2.2.2.1 C.2.2.2.2.2.1 hP k (k_obj hT h9) hc j hj (C.2.2.2.2.1 _ hlink) (fun _ q => q) (by rw [k_fv_r hfd, if_pos hj9]) (k_dec C hd) w
  · exact absurd (show ci = 12 from e) (by omega)
theorem V_putI {idx ci j k m : Nat} {x : Int32} (i : Nat) (hd : (m_tab M)[i]? = some (pc, .putfield idx, 3)) (hf : k_Fi (m_own M) idx ci j) (kk : V G M X T kc ks (pc + 3) lc st (hs h k j x)) : V G M X T kc ks pc lc (iv x :: rv (ci, m) k :: st) h := by
  intro C hW hs' hl H ls locs hP hA hS hL
  obtain ⟨Cn, F, N, ty, ⟨hc, hin, hty, hnm, hlen, h9⟩, hj, hfd, hlink, hI, hfin⟩ := hf
  have hs2 : ∀ v ∈ st, ok_v T v := fun v hv => hs' v (List.mem_cons_of_mem _ (List.mem_cons_of_mem _ hv))
  rcases hs' _ (List.mem_cons_of_mem _ List.mem_cons_self) with ⟨h12, m', hT, -, -⟩ | ⟨e, -⟩
  · show k_W G M X H locs kc ks (F0 (x_m X) pc ls (.int x :: kc_v G (rv (ci, m) k) :: st.map (kc_v G)))
    rw [kc_r h12]
    refine va_put (D := g_D G) (cl := vwCl) (v := .int x) (ty := .int) C.1 C.2.1 C.2.2.2.2.1 hin ty hty hnm C.2.2.2.1 C.2.2.2.2.2.1 hP (k_wl_D hA) hS k (k_obj hT h9) hc j hj (C.2.2.2.2.1 _ hlink) (fun _ q => q) hfin (by rw [hI]; decide +kernel) rfl rfl (by rw [k_fv_len]; show j < (k_fd ci).length; omega) (k_dec C hd) (fun H1 locs1 hP1 hD1 hS1 => ?_)
    have e1 : (k_wl G T h).set k (g_a G k, .inr (ci, (k_fv G k (ci, m') (h k)).set j (.int x))) = k_wl G T (sr h k (upd (h k) j x)) := by
      refine k_wl_put hT ?_
      rw [k_fv_set hfd, k_ce, if_neg (show ¬ ci = 9 by omega), if_neg (show ¬ ci = 10 by omega), if_neg (show ¬ ci = 11 by omega)]
    have hP1 : va_P (g_D G) vwCl ((k_wl G T h).set k (g_a G k, .inr (ci, (k_fv G k (ci, m') (h k)).set j (.int x)))) H1 := hP1
    rw [e1] at hP1
    exact kk C hW hs2 hl H1 ls locs1 hP1 hA hS1 hL
  · exact absurd (show ci = 12 from e) (by omega)
theorem V_iald {n k : Nat} {x : Int32} (i : Nat) (hd : (m_tab M)[i]? = some (pc, .iaload, 1)) (hg : inb x n = true) (kk : V G M X T kc ks (pc + 1) lc (iv (h k x.toNatClampNeg) :: st) h) : V G M X T kc ks pc lc (iv x :: rv (9, n) k :: st) h := by
  intro C hW hs hl H ls locs hP hA hS hL
  have hT := k_cell (hs (rv (9, n) k) (List.mem_cons_of_mem _ List.mem_cons_self)) (Nat.le_of_ble_eq_true rfl) (Nat.le_of_ble_eq_true rfl)
  have w := kk C hW (ok_c (v := iv (h k x.toNatClampNeg)) (a := iv x :: rv (9, n) k :: st) (b := st) trivial (fun _ q => List.mem_cons_of_mem _ (List.mem_cons_of_mem _ q)) hs) hl H ls locs hP hA hS hL
  exact va_iald C.1 C.2.1 C.2.2.2.2.2.1 hP k 0 (k_wl_at hT) rfl (inb_in hg) (k_dec C hd) w
theorem V_bald {n k : Nat} {x : Int32} (i : Nat) (hd : (m_tab M)[i]? = some (pc, .baload, 1)) (hg : inb x n = true) (kk : V G M X T kc ks (pc + 1) lc (iv (h k x.toNatClampNeg) :: st) h) : V G M X T kc ks pc lc (iv x :: rv (10, n) k :: st) h := by
  intro C hW hs hl H ls locs hP hA hS hL
  have hT := k_cell (hs (rv (10, n) k) (List.mem_cons_of_mem _ List.mem_cons_self)) (Nat.le_of_ble_eq_true rfl) (Nat.le_of_ble_eq_true rfl)
  have w := kk C hW (ok_c (v := iv (h k x.toNatClampNeg)) (a := iv x :: rv (10, n) k :: st) (b := st) trivial (fun _ q => List.mem_cons_of_mem _ (List.mem_cons_of_mem _ q)) hs) hl H ls locs hP hA hS hL
  exact va_bald C.1 C.2.1 C.2.2.2.2.2.1 hP k 1 (k_wl_at hT) rfl (inb_in hg) (k_dec C hd) w
theorem V_zald {n k : Nat} {x : Int32} (i : Nat) (hd : (m_tab M)[i]? = some (pc, .baload, 1)) (hg : inb x n = true) (kk : V G M X T kc ks (pc + 1) lc (iv (h k x.toNatClampNeg) :: st) h) : V G M X T kc ks pc lc (iv x :: rv (11, n) k :: st) h := by
  intro C hW hs hl H ls locs hP hA hS hL
  have hT := k_cell (hs (rv (11, n) k) (List.mem_cons_of_mem _ List.mem_cons_self)) (Nat.le_of_ble_eq_true rfl) (Nat.le_of_ble_eq_true rfl)
  have w := kk C hW (ok_c (v := iv (h k x.toNatClampNeg)) (a := iv x :: rv (11, n) k :: st) (b := st) trivial (fun _ q => List.mem_cons_of_mem _ (List.mem_cons_of_mem _ q)) hs) hl H ls locs hP hA hS hL
  exact va_zald C.1 C.2.1 C.2.2.2.2.2.1 hP k 2 (k_wl_at hT) rfl (inb_in hg) (k_dec C hd) w
theorem V_iast {n k : Nat} {x y : Int32} (i : Nat) (hd : (m_tab M)[i]? = some (pc, .iastore, 1)) (hg : inb y n = true) (kk : V G M X T kc ks (pc + 1) lc st (hs h k y.toNatClampNeg x)) : V G M X T kc ks pc lc (iv x :: iv y :: rv (9, n) k :: st) h := by
  intro C hW hs' hl H ls locs hP hA hS hL
  have hT := k_cell (hs' (rv (9, n) k) (List.mem_cons_of_mem _ (List.mem_cons_of_mem _ List.mem_cons_self))) (Nat.le_of_ble_eq_true rfl) (Nat.le_of_ble_eq_true rfl)
  have hs2 : ∀ v ∈ st, ok_v T v := fun v hv => hs' v (List.mem_cons_of_mem _ (List.mem_cons_of_mem _ (List.mem_cons_of_mem _ hv)))
  refine va_iast C.1 C.2.1 C.2.2.2.2.2.1 hP (k_wl_D hA) hS k 0 (k_wl_at hT) rfl (inb_in hg) (k_dec C hd) (fun H1 locs1 hP1 hD1 hS1 => ?_)
  have e1 : (k_wl G T h).set k (g_a G k, .inl (g_I G, n, .inl (upd (h k) y.toNatClampNeg x))) = k_wl G T (hs h k y.toNatClampNeg x) := k_wl_put hT rfl
  have hP2 : va_P (g_D G) vwCl ((k_wl G T h).set k (g_a G k, .inl (g_I G, n, .inl (upd (h k) y.toNatClampNeg x)))) H1 := hP1
  rw [e1] at hP2
  exact kk C hW hs2 hl H1 ls locs1 hP2 hA hS1 hL
theorem V_bast {n k : Nat} {x y : Int32} (i : Nat) (hd : (m_tab M)[i]? = some (pc, .bastore, 1)) (hg : inb y n = true) (kk : V G M X T kc ks (pc + 1) lc st (hs h k y.toNatClampNeg (vp_nar .byte x))) : V G M X T kc ks pc lc (iv x :: iv y :: rv (10, n) k :: st) h := by
  intro C hW hs' hl H ls locs hP hA hS hL
  have hT := k_cell (hs' (rv (10, n) k) (List.mem_cons_of_mem _ (List.mem_cons_of_mem _ List.mem_cons_self))) (Nat.le_of_ble_eq_true rfl) (Nat.le_of_ble_eq_true rfl)
  have hs2 : ∀ v ∈ st, ok_v T v := fun v hv => hs' v (List.mem_cons_of_mem _ (List.mem_cons_of_mem _ (List.mem_cons_of_mem _ hv)))
  refine va_bast C.1 C.2.1 C.2.2.2.2.2.1 hP (k_wl_D hA) hS k 1 (k_wl_at hT) rfl (inb_in hg) (k_dec C hd) (fun H1 locs1 hP1 hD1 hS1 => ?_)
  have e1 : (k_wl G T h).set k (g_a G k, .inl (g_B G, n, .inl (upd (h k) y.toNatClampNeg (vp_nar .byte x)))) = k_wl G T (hs h k y.toNatClampNeg (vp_nar .byte x)) := k_wl_put hT rfl
  have hP2 : va_P (g_D G) vwCl ((k_wl G T h).set k (g_a G k, .inl (g_B G, n, .inl (upd (h k) y.toNatClampNeg (vp_nar .byte x))))) H1 := hP1
  rw [e1] at hP2
  exact kk C hW hs2 hl H1 ls locs1 hP2 hA hS1 hL
theorem V_zast {n k : Nat} {x y : Int32} (i : Nat) (hd : (m_tab M)[i]? = some (pc, .bastore, 1)) (hg : inb y n = true) (kk : V G M X T kc ks (pc + 1) lc st (hs h k y.toNatClampNeg (vp_nar .boolean x))) : V G M X T kc ks pc lc (iv x :: iv y :: rv (11, n) k :: st) h := by
  intro C hW hs' hl H ls locs hP hA hS hL
  have hT := k_cell (hs' (rv (11, n) k) (List.mem_cons_of_mem _ (List.mem_cons_of_mem _ List.mem_cons_self))) (Nat.le_of_ble_eq_true rfl) (Nat.le_of_ble_eq_true rfl)
  have hs2 : ∀ v ∈ st, ok_v T v := fun v hv => hs' v (List.mem_cons_of_mem _ (List.mem_cons_of_mem _ (List.mem_cons_of_mem _ hv)))
  refine va_zast C.1 C.2.1 C.2.2.2.2.2.1 hP (k_wl_D hA) hS k 2 (k_wl_at hT) rfl (inb_in hg) (k_dec C hd) (fun H1 locs1 hP1 hD1 hS1 => ?_)
  have e1 : (k_wl G T h).set k (g_a G k, .inl (g_Z G, n, .inl (upd (h k) y.toNatClampNeg (vp_nar .boolean x)))) = k_wl G T (hs h k y.toNatClampNeg (vp_nar .boolean x)) := k_wl_put hT rfl
  have hP2 : va_P (g_D G) vwCl ((k_wl G T h).set k (g_a G k, .inl (g_Z G, n, .inl (upd (h k) y.toNatClampNeg (vp_nar .boolean x))))) H1 := hP1
  rw [e1] at hP2
  exact kk C hW hs2 hl H1 ls locs1 hP2 hA hS1 hL
theorem V_alen {n k : Nat} (v : Int32) (i : Nat) (hd : (m_tab M)[i]? = some (pc, .arraylength, 1)) (hv : Int32.ofNat n = v) (kk : V G M X T kc ks (pc + 1) lc (iv v :: st) h) : V G M X T kc ks pc lc (rv (9, n) k :: st) h := by
  intro C hW hs hl H ls locs hP hA hS hL
  have hT := k_cell (hs (rv (9, n) k) List.mem_cons_self) (Nat.le_of_ble_eq_true rfl) (Nat.le_of_ble_eq_true rfl)
  have w := kk C hW (ok_c (v := iv v) (a := rv (9, n) k :: st) (b := st) trivial (fun _ q => List.mem_cons_of_mem _ q) hs) hl H ls locs hP hA hS hL
  exact va_alen C.1 C.2.1 C.2.2.2.2.2.1 hP k 0 (k_wl_at hT) rfl hv (k_dec C hd) w
theorem k_stat {j k : Nat} (hs : ok_v T (rv (12, j) k)) : j < 11 := by
  rcases hs with ⟨e, -⟩ | ⟨-, e⟩
  · exact absurd (show 12 < 12 from e) (by decide)
  · exact e
theorem V_tald {j k : Nat} {x : Int32} (i : Nat) (hd : (m_tab M)[i]? = some (pc, .iaload, 1)) (hg : inb x (k_tl G j) = true) (kk : V G M X T kc ks (pc + 1) lc (iv (k_tb G j x.toNatClampNeg) :: st) h) : V G M X T kc ks pc lc (iv x :: rv (12, j) k :: st) h := by
  intro C hW hs hl H ls locs hP hA hS hL
  have hj := k_stat (hs (rv (12, j) k) (List.mem_cons_of_mem _ List.mem_cons_self))
  have w := kk C hW (ok_c (v := iv (k_tb G j x.toNatClampNeg)) (a := iv x :: rv (12, j) k :: st) (b := st) trivial (fun _ q => List.mem_cons_of_mem _ (List.mem_cons_of_mem _ q)) hs) hl H ls locs hP hA hS hL
  exact va_ti C.1 C.2.1 (C.2.2.2.2.2.2.2.1.2 j hj) hS (inb_in hg) rfl (k_dec C hd) w
theorem V_tlen {j k : Nat} (i : Nat) (hd : (m_tab M)[i]? = some (pc, .arraylength, 1)) (kk : V G M X T kc ks (pc + 1) lc (iv (Int32.ofNat (k_tl G j)) :: st) h) : V G M X T kc ks pc lc (rv (12, j) k :: st) h := by
  intro C hW hs hl H ls locs hP hA hS hL
  have hj := k_stat (hs (rv (12, j) k) List.mem_cons_self)
  have w := kk C hW (ok_c (v := iv (Int32.ofNat (k_tl G j))) (a := rv (12, j) k :: st) (b := st) trivial (fun _ q => List.mem_cons_of_mem _ q) hs) hl H ls locs hP hA hS hL
  exact va_tlen C.1 C.2.1 (C.2.2.2.2.2.2.2.1.2 j hj) hS rfl (k_dec C hd) w
theorem V_gets {idx : Nat} (j : Nat) (i : Nat) (hd : (m_tab M)[i]? = some (pc, .getstatic idx, 3)) (hj : j < 10) (hw : Cond.fieldLink (m_own M) idx RX3 (k_sn j) "[I" ∈ kw) (kk : V G M X T kc ks (pc + 3) lc (rv (12, j) 0 :: st) h) : V G M X T kc ks pc lc st h := by
  intro C hW hs hl H ls locs hP hA hS hL
  have w := kk C hW (ok_c (v := rv (12, j) 0) (a := st) (b := st) (Or.inr ⟨rfl, show j < 11 by omega⟩) (fun _ q => q) hs) hl H ls locs hP hA hS hL
  exact va_gets C.1 C.2.1 (C.2.2.2.2.2.2.2.1.1 j hj) hS C.2.2.2.1 (C.2.2.2.2.1 _ hw) (fun _ q => q) (k_dec C hd) w
/-- fewer locals are known -/
def k_msk : List Bool → List (Option kV) → List (Option kV)
  | b :: bs, v :: r => (if b = true then v else none) :: k_msk bs r
  | _, _ => []
theorem k_msk_at : ∀ (bs : List Bool) (l : List (Option kV)) (i : Nat) (v : kV), (k_msk bs l)[i]? = some (some v) → l[i]? = some (some v)
  | [], _, _, _, e => by simp [k_msk] at e
  | _ :: _, [], _, _, e => by simp [k_msk] at e
  | b :: bs, u :: r, 0, v, e => by
    cases b <;> simp [k_msk] at e ⊢
    exact e
  | b :: bs, u :: r, i + 1, v, e => by
    simp only [k_msk, List.getElem?_cons_succ] at e ⊢
    exact k_msk_at bs r i v e
theorem V_msk {lc' : List (Option kV)} (bs : List Bool) (e : k_msk bs lc = lc') (kk : V G M X T kc ks pc lc' st h) : V G M X T kc ks pc lc st h := by
  subst e
  intro C hW hs hl H ls locs hP hA hS hL
  refine kk C hW hs (fun v hv => ?_) H ls locs hP hA hS (k_has_sub hL fun q hq => ?_)
  · obtain ⟨i, hi⟩ := List.getElem?_of_mem hv
    exact hl v (List.mem_of_getElem? (k_msk_at bs lc i v hi))
  · obtain ⟨j, v, h1, rfl⟩ := (k_lc_mem _ 0 q).mp hq
    exact (k_lc_mem _ 0 _).mpr ⟨j, v, k_msk_at bs lc j v h1, rfl⟩
end
