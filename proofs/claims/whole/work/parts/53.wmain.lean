set_option maxHeartbeats 4000000 in
theorem w_X7_write_33 {G : kG} {X : kX} {T : List kT} {r0 : Int32} {h0 : kH} (hR : k_R G M_X7_write X T 0 0 (some (iv r0)) h0) (K33 : Int64 × Int32 × kH → Option (Int32 × kH)) (hK33 : ∀ (x2 : Int64) (x4 : Int32) (h : kH), K33 (x2, x4, h) = some (r0, h0) → V G M_X7_write X T 0 0 33 [some (rv (7, 99) 0), none, some (jv x2), none, some (iv x4)] [] h) (x2 : Int64) (x4 : Int32) (h : kH) (e : p_X7_write_33 K33 x2 x4 h = some (r0, h0)) : V G M_X7_write X T 0 0 33 [some (rv (7, 99) 0), none, some (jv x2), none, some (iv x4)] [] h := by
  unfold p_X7_write_33 at e
  refine V_iload 20 rfl rfl ?_
  rcases if_e e with ⟨c21, e⟩ | ⟨c21, e⟩
  · refine V_if_lt 72 21 rfl (by decide +kernel) (fun _ => ?_) (fun q => absurd c21 q) 
    refine V_aload_n 42 rfl rfl ?_
    refine V_getI 43 rfl fi_RX7_13 ?_
    cases e
    exact V_iret 44 rfl hR rfl
  · refine V_if_lt 72 21 rfl (by decide +kernel) (fun q => absurd q c21) (fun _ => ?_)
    refine V_aload_n 22 rfl rfl ?_
    refine V_getR 1 23 rfl fr_RX7_9 ⟨Nat.le_of_ble_eq_true rfl, Or.inl (Nat.le_of_ble_eq_true rfl)⟩ rfl ?_
    refine V_aload_n 24 rfl rfl ?_
    refine V_getI 25 rfl fi_RX7_13 ?_
    refine V_lload_n 26 rfl rfl ?_
    refine V_bipush (nI 8) 27 rfl bp_8 ?_
    refine V_iload 28 rfl rfl ?_
    refine V_imul 29 rfl ?_
    refine V_lshr 30 rfl ?_
    refine V_l2i 31 rfl ?_
    refine V_i2b 32 rfl ?_
    obtain ⟨g1, e⟩ := gd_e e
    refine V_bast 33 rfl g1 ?_
    refine le_V (P := fun h2 => V G M_X7_write X T 0 0 56 [some (rv (7, 99) 0), none, some (jv x2), none, some (iv x4)] [] h2) e (fun h2 e => ?_)
    refine V_aload_n 34 rfl rfl ?_
    refine V_dup 35 rfl nj_r ?_
    refine V_getI 36 rfl fi_RX7_13 ?_
    refine V_iconst (nI 1) 37 rfl ic_1 ?_
    refine V_iadd 38 rfl ?_
    refine V_putI 39 rfl fi_RX7_13 ?_
    refine le_V (P := fun h3 => V G M_X7_write X T 0 0 66 [some (rv (7, 99) 0), none, some (jv x2), none, some (iv x4)] [] h3) e (fun h3 e => ?_)
    refine V_iinc (x4 + (-1 : Int32)) 40 rfl rfl (inc_m1 _) (Nat.le_of_ble_eq_true rfl) rfl ?_
    show V G M_X7_write X T 0 0 69 [some (rv (7, 99) 0), none, some (jv x2), none, some (iv (x4 + (-1 : Int32)))] [] h3
    refine V_goto 33 41 rfl (by decide +kernel) ?_
    refine V_msk [true, false, true, false, true] (lc' := [some (rv (7, 99) 0), none, some (jv x2), none, some (iv (x4 + (-1 : Int32)))]) rfl ?_
    exact hK33 x2 (x4 + (-1 : Int32)) h3 e
set_option maxHeartbeats 4000000 in
theorem c_X7_write {G : kG} {T : List kT} {x1 : Int32} {y2 : Int64} {h : kH} {r0 : Int32} {h0 : kH} (e : p_X7_write x1 y2 h = some (r0, h0)) : k_C G M_X7_write T [rv (7, 99) 0, iv x1, jv y2] h (some (iv r0)) h0 := by
  refine k_C_of 1 (by decide +kernel) rfl tb_X7_write rfl (fun X hR => ?_)
  show V G M_X7_write X T 0 0 0 [some (rv (7, 99) 0), some (iv x1), some (jv y2), none, none] [] h
  unfold p_X7_write at e
  refine V_iload_n 0 rfl rfl ?_
  refine V_iconst (nI 1) 1 rfl ic_1 ?_
  rcases if_e e with ⟨c2, e⟩ | ⟨c2, e⟩
  · refine V_icmp_lt 11 2 rfl (by decide +kernel) (fun _ => ?_) (fun q => absurd c2 q) 
    refine V_iconst (-1 : Int32) 6 rfl ic_m1 ?_
    cases e
    exact V_iret 7 rfl hR rfl
  · refine V_icmp_lt 11 2 rfl (by decide +kernel) (fun q => absurd q c2) (fun _ => ?_)
    refine V_iload_n 3 rfl rfl ?_
    refine V_bipush (nI 8) 4 rfl bp_8 ?_
    rcases if_e e with ⟨c5, e⟩ | ⟨c5, e⟩
    · refine V_icmp_le 13 5 rfl (by decide +kernel) (fun _ => ?_) (fun q => absurd c5 q) 
      refine V_aload_n 8 rfl rfl ?_
      refine V_getI 9 rfl fi_RX7_13 ?_
      refine V_iload_n 10 rfl rfl ?_
      refine V_iadd 11 rfl ?_
      refine V_sipush (nI 500) 12 rfl sp_500 ?_
      rcases if_e e with ⟨c13, e⟩ | ⟨c13, e⟩
      · refine V_icmp_le 28 13 rfl (by decide +kernel) (fun _ => ?_) (fun q => absurd c13 q) 
        refine V_iload_n 16 rfl rfl ?_
        refine V_iconst (nI 1) 17 rfl ic_1 ?_
        refine V_isub 18 rfl ?_
        refine V_istore 19 rfl (Nat.le_of_ble_eq_true rfl) rfl ?_
        show V G M_X7_write X T 0 0 33 [some (rv (7, 99) 0), some (iv x1), some (jv y2), none, some (iv (x1 - (nI 1)))] [] h
        refine V_msk [true, false, true, false, true] (lc' := [some (rv (7, 99) 0), none, some (jv y2), none, some (iv (x1 - (nI 1)))]) rfl ?_
        exact fx_e (P := fun s => V G M_X7_write X T 0 0 33 [some (rv (7, 99) 0), none, some (jv s.1), none, some (iv s.2.1)] [] s.2.2) (fun K33 hK33 s e => w_X7_write_33 hR K33 (fun x2 x4 h e => hK33 (x2, x4, h) e) s.1 s.2.1 s.2.2 e) FU (y2, (x1 - (nI 1)), h) e
      · refine V_icmp_le 28 13 rfl (by decide +kernel) (fun q => absurd q c13) (fun _ => ?_)
        refine V_bipush (-3 : Int32) 14 rfl bp_m3 ?_
        cases e
        exact V_iret 15 rfl hR rfl
    · refine V_icmp_le 13 5 rfl (by decide +kernel) (fun q => absurd q c5) (fun _ => ?_)
      refine V_iconst (-1 : Int32) 6 rfl ic_m1 ?_
      cases e
      exact V_iret 7 rfl hR rfl
set_option maxHeartbeats 4000000 in
theorem c_X7_wipe {G : kG} {T : List kT} {h : kH} {r0 : Int32} {h0 : kH} (e : p_X7_wipe h = some (r0, h0)) : k_C G M_X7_wipe T [rv (7, 99) 0] h (some (iv r0)) h0 := by
  refine k_C_of 1 (by decide +kernel) rfl tb_X7_wipe rfl (fun X hR => ?_)
  show V G M_X7_wipe X T 0 0 0 [some (rv (7, 99) 0), none] [] h
  unfold p_X7_wipe at e
  refine V_aload_n 0 rfl rfl ?_
  refine V_getI 1 rfl fi_RX7_13 ?_
  refine V_istore_n 2 rfl (Nat.le_of_ble_eq_true rfl) rfl ?_
  refine le_V (P := fun v1 => V G M_X7_wipe X T 0 0 5 [some (rv (7, 99) 0), some (iv v1)] [] h) e (fun v1 e => ?_)
  refine V_aload_n 3 rfl rfl ?_
  refine V_iconst (nI 0) 4 rfl ic_0 ?_
  refine V_putI 5 rfl fi_RX7_13 ?_
  refine le_V (P := fun h2 => V G M_X7_wipe X T 0 0 10 [some (rv (7, 99) 0), some (iv v1)] [] h2) e (fun h2 e => ?_)
  refine V_iload_n 6 rfl rfl ?_
  cases e
  exact V_iret 7 rfl hR rfl
set_option maxHeartbeats 4000000 in
theorem c_X7_fault {G : kG} {T : List kT} {h : kH} {r0 : Int32} {h0 : kH} (e : p_X7_fault h = some (r0, h0)) : k_C G M_X7_fault T [rv (7, 99) 0] h (some (iv r0)) h0 := by
  refine k_C_of 0 (by decide +kernel) rfl tb_X7_fault rfl (fun X hR => ?_)
  show V G M_X7_fault X T 0 0 0 [some (rv (7, 99) 0)] [] h
  unfold p_X7_fault at e
  refine V_aload_n 0 rfl rfl ?_
  refine V_getR 2 1 rfl fr_RX7_20 ⟨Nat.le_of_ble_eq_true rfl, Or.inr rfl⟩ rfl ?_
  refine V_aload_n 2 rfl rfl ?_
  refine V_getR 1 3 rfl fr_RX7_9 ⟨Nat.le_of_ble_eq_true rfl, Or.inl (Nat.le_of_ble_eq_true rfl)⟩ rfl ?_
  refine V_aload_n 4 rfl rfl ?_
  refine V_getI 5 rfl fi_RX7_13 ?_
  obtain ⟨v3, h1, d2, e⟩ := bd2_e e
  refine V_callVN (N := M_X3_read) (av := [rv (10, 500) 1, iv (h 0 1)]) (st := []) (r := some (iv v3)) (h' := h1) 6 rfl (c_X3_read d2) g_X3_read gv_X3_read nk_RX7_78 ⟨Nat.le_of_ble_eq_true rfl, Nat.le_of_ble_eq_true rfl⟩ rfl rfl (Nat.le_of_ble_eq_true rfl) ⟨Nat.zero_le _, Nat.zero_le _⟩ ?_
  show V G M_X7_fault X T 0 0 15 [some (rv (7, 99) 0)] [iv v3] h1
  cases e
  exact V_iret 7 rfl hR rfl
set_option maxHeartbeats 4000000 in
theorem c_X7_lay {G : kG} {T : List kT} {h : kH} {r0 : Int32} {h0 : kH} (e : p_X7_lay h = some (r0, h0)) : k_C G M_X7_lay T [rv (7, 99) 0] h (some (iv r0)) h0 := by
  refine k_C_of 0 (by decide +kernel) rfl tb_X7_lay rfl (fun X hR => ?_)
  show V G M_X7_lay X T 0 0 0 [some (rv (7, 99) 0)] [] h
  unfold p_X7_lay at e
  refine V_aload_n 0 rfl rfl ?_
  refine V_getR 2 1 rfl fr_RX7_20 ⟨Nat.le_of_ble_eq_true rfl, Or.inr rfl⟩ rfl ?_
  refine V_aload_n 2 rfl rfl ?_
  refine V_getR 1 3 rfl fr_RX7_9 ⟨Nat.le_of_ble_eq_true rfl, Or.inl (Nat.le_of_ble_eq_true rfl)⟩ rfl ?_
  refine V_aload_n 4 rfl rfl ?_
  refine V_getI 5 rfl fi_RX7_13 ?_
  obtain ⟨v3, h1, d2, e⟩ := bd2_e e
  refine V_callVN (N := M_X3_read) (av := [rv (10, 500) 1, iv (h 0 1)]) (st := []) (r := some (iv v3)) (h' := h1) 6 rfl (c_X3_read d2) g_X3_read gv_X3_read nk_RX7_78 ⟨Nat.le_of_ble_eq_true rfl, Nat.le_of_ble_eq_true rfl⟩ rfl rfl (Nat.le_of_ble_eq_true rfl) ⟨Nat.zero_le _, Nat.zero_le _⟩ ?_
  show V G M_X7_lay X T 0 0 15 [some (rv (7, 99) 0)] [iv v3] h1
  refine V_bipush (-4 : Int32) 7 rfl bp_m4 ?_
  rcases if_e e with ⟨c8, e⟩ | ⟨c8, e⟩
  · refine V_icmp_ne 30 8 rfl (by decide +kernel) (fun q => absurd c8 q) (fun _ => ?_)
    refine V_aload_n 9 rfl rfl ?_
    refine V_getR 2 10 rfl fr_RX7_20 ⟨Nat.le_of_ble_eq_true rfl, Or.inr rfl⟩ rfl ?_
    obtain ⟨v6, h4, d5, e⟩ := bd2_e e
    refine V_callVN (N := M_X3_isLayable) (av := []) (st := []) (r := some (iv v6)) (h' := h4) 11 rfl (c_X3_isLayable d5) g_X3_isLayable gv_X3_isLayable nk_RX7_82 ⟨Nat.le_of_ble_eq_true rfl, Nat.le_of_ble_eq_true rfl⟩ rfl rfl (Nat.le_of_ble_eq_true rfl) ⟨Nat.zero_le _, Nat.zero_le _⟩ ?_
    show V G M_X7_lay X T 0 0 27 [some (rv (7, 99) 0)] [iv v6] h4
    rcases if_e e with ⟨c12, e⟩ | ⟨c12, e⟩
    · refine V_if_ne 33 12 rfl (by decide +kernel) (fun q => absurd c12 q) (fun _ => ?_)
      refine V_bipush (-2 : Int32) 13 rfl bp_m2 ?_
      cases e
      exact V_iret 14 rfl hR rfl
    · refine V_if_ne 33 12 rfl (by decide +kernel) (fun _ => ?_) (fun q => absurd q c12) 
      refine V_aload_n 15 rfl rfl ?_
      refine V_getR 2 16 rfl fr_RX7_20 ⟨Nat.le_of_ble_eq_true rfl, Or.inr rfl⟩ rfl ?_
      refine V_aload_n 17 rfl rfl ?_
      refine V_getR 28 18 rfl fr_RX7_27 ⟨Nat.le_of_ble_eq_true rfl, Or.inr rfl⟩ rfl ?_
      refine V_aload_n 19 rfl rfl ?_
      refine V_getR 31 20 rfl fr_RX7_34 ⟨Nat.le_of_ble_eq_true rfl, Or.inr rfl⟩ rfl ?_
      obtain ⟨h7, d8, e⟩ := bd_e e
      refine V_callVN (N := M_X3_layOn) (av := [rv (5, 99) 28, rv (2, 99) 31]) (st := []) (r := none) (h' := h7) 21 rfl (c_X3_layOn d8) g_X3_layOn gv_X3_layOn nk_RX7_74 ⟨Nat.le_of_ble_eq_true rfl, Nat.le_of_ble_eq_true rfl⟩ rfl rfl (Nat.le_of_ble_eq_true rfl) ⟨Nat.zero_le _, Nat.zero_le _⟩ ?_
      show V G M_X7_lay X T 0 0 48 [some (rv (7, 99) 0)] [] h7
      refine V_aload_n 22 rfl rfl ?_
      refine V_iconst (nI 0) 23 rfl ic_0 ?_
      refine V_putI 24 rfl fi_RX7_57 ?_
      refine le_V (P := fun h9 => V G M_X7_lay X T 0 0 53 [some (rv (7, 99) 0)] [] h9) e (fun h9 e => ?_)
      refine V_aload_n 25 rfl rfl ?_
      refine V_iconst (nI 0) 26 rfl ic_0 ?_
      refine V_putI 27 rfl fi_RX7_50 ?_
      refine le_V (P := fun h10 => V G M_X7_lay X T 0 0 58 [some (rv (7, 99) 0)] [] h10) e (fun h10 e => ?_)
      refine V_aload_n 28 rfl rfl ?_
      refine V_getR 28 29 rfl fr_RX7_27 ⟨Nat.le_of_ble_eq_true rfl, Or.inr rfl⟩ rfl ?_
      obtain ⟨v13, h11, d12, e⟩ := bd2_e e
      refine V_callVN (N := M_X5_cells) (av := []) (st := []) (r := some (iv v13)) (h' := h11) 30 rfl (c_X5_cells d12) g_X5_cells gv_X5_cells nk_RX7_86 ⟨Nat.le_of_ble_eq_true rfl, Nat.le_of_ble_eq_true rfl⟩ rfl rfl (Nat.le_of_ble_eq_true rfl) ⟨Nat.zero_le _, Nat.zero_le _⟩ ?_
      show V G M_X7_lay X T 0 0 65 [some (rv (7, 99) 0)] [iv v13] h11
      cases e
      exact V_iret 31 rfl hR rfl
  · refine V_icmp_ne 30 8 rfl (by decide +kernel) (fun _ => ?_) (fun q => absurd q c8) 
    refine V_bipush (-2 : Int32) 13 rfl bp_m2 ?_
    cases e
    exact V_iret 14 rfl hR rfl
set_option maxHeartbeats 4000000 in
theorem c_X7_isCell {G : kG} {T : List kT} {x1 : Int32} {h : kH} {r0 : Int32} {h0 : kH} (e : p_X7_isCell x1 h = some (r0, h0)) : k_C G M_X7_isCell T [rv (7, 99) 0, iv x1] h (some (iv r0)) h0 := by
  refine k_C_of 0 (by decide +kernel) rfl tb_X7_isCell rfl (fun X hR => ?_)
  show V G M_X7_isCell X T 0 0 0 [some (rv (7, 99) 0), some (iv x1)] [] h
  unfold p_X7_isCell at e
  refine V_iload_n 0 rfl rfl ?_
  rcases if_e e with ⟨c1, e⟩ | ⟨c1, e⟩
  · refine V_if_lt 19 1 rfl (by decide +kernel) (fun _ => ?_) (fun q => absurd c1 q) 
    refine V_iconst (nI 0) 9 rfl ic_0 ?_
    cases e
    exact V_zret 10 rfl z_0 hR rfl
  · refine V_if_lt 19 1 rfl (by decide +kernel) (fun q => absurd q c1) (fun _ => ?_)
    refine V_iload_n 2 rfl rfl ?_
    refine V_aload_n 3 rfl rfl ?_
    refine V_getR 28 4 rfl fr_RX7_27 ⟨Nat.le_of_ble_eq_true rfl, Or.inr rfl⟩ rfl ?_
    obtain ⟨v3, h1, d2, e⟩ := bd2_e e
    refine V_callVN (N := M_X5_cells) (av := []) (st := [iv x1]) (r := some (iv v3)) (h' := h1) 5 rfl (c_X5_cells d2) g_X5_cells gv_X5_cells nk_RX7_86 ⟨Nat.le_of_ble_eq_true rfl, Nat.le_of_ble_eq_true rfl⟩ rfl rfl (Nat.le_of_ble_eq_true rfl) ⟨Nat.zero_le _, Nat.zero_le _⟩ ?_
    show V G M_X7_isCell X T 0 0 12 [some (rv (7, 99) 0), some (iv x1)] [iv v3, iv x1] h1
    rcases if_e e with ⟨c6, e⟩ | ⟨c6, e⟩
    · refine V_icmp_ge 19 6 rfl (by decide +kernel) (fun _ => ?_) (fun q => absurd c6 q) 
      refine V_iconst (nI 0) 9 rfl ic_0 ?_
      cases e
      exact V_zret 10 rfl z_0 hR rfl
    · refine V_icmp_ge 19 6 rfl (by decide +kernel) (fun q => absurd q c6) (fun _ => ?_)
      refine V_iconst (nI 1) 7 rfl ic_1 ?_
      refine V_goto 20 8 rfl (by decide +kernel) ?_
      cases e
      exact V_zret 10 rfl z_1 hR rfl
set_option maxHeartbeats 4000000 in
theorem c_X7_cell {G : kG} {T : List kT} {x1 : Int32} {x2 : Int32} {h : kH} {r0 : Int32} {h0 : kH} (e : p_X7_cell x1 x2 h = some (r0, h0)) : k_C G M_X7_cell T [rv (7, 99) 0, iv x1, iv x2] h (some (iv r0)) h0 := by
  refine k_C_of 1 (by decide +kernel) rfl tb_X7_cell rfl (fun X hR => ?_)
  show V G M_X7_cell X T 0 0 0 [some (rv (7, 99) 0), some (iv x1), some (iv x2), none] [] h
  unfold p_X7_cell at e
  refine V_aload_n 0 rfl rfl ?_
  refine V_iload_n 1 rfl rfl ?_
  obtain ⟨v3, h1, d2, e⟩ := bd2_e e
  refine V_callV (N := M_X7_isCell) (av := [iv x1]) (st := []) (r := some (iv v3)) (h' := h1) 2 rfl (c_X7_isCell d2) g_X7_isCell gv_X7_isCell lk_RX7_90 ⟨Nat.le_of_ble_eq_true rfl, Nat.le_of_ble_eq_true rfl⟩ rfl rfl (Nat.le_of_ble_eq_true rfl) ⟨Nat.zero_le _, Nat.zero_le _⟩ ?_
  show V G M_X7_cell X T 0 0 5 [some (rv (7, 99) 0), some (iv x1), some (iv x2), none] [iv v3] h1
  rcases if_e e with ⟨c3, e⟩ | ⟨c3, e⟩
  · refine V_if_ne 10 3 rfl (by decide +kernel) (fun q => absurd c3 q) (fun _ => ?_)
    refine V_iconst (-1 : Int32) 4 rfl ic_m1 ?_
    cases e
    exact V_iret 5 rfl hR rfl
  · refine V_if_ne 10 3 rfl (by decide +kernel) (fun _ => ?_) (fun q => absurd q c3) 
    refine V_aload_n 6 rfl rfl ?_
    refine V_getR 31 7 rfl fr_RX7_34 ⟨Nat.le_of_ble_eq_true rfl, Or.inr rfl⟩ rfl ?_
    refine V_getR 32 8 rfl fr_RX7_94 ⟨Nat.le_of_ble_eq_true rfl, Or.inr rfl⟩ rfl ?_
    refine V_astore_n 9 rfl (Nat.le_of_ble_eq_true rfl) rfl ?_
    show V G M_X7_cell X T 0 0 18 [some (rv (7, 99) 0), some (iv x1), some (iv x2), some (rv (1, 99) 32)] [] h1
    refine V_iload_n 10 rfl rfl ?_
    rcases if_e e with ⟨c5, e⟩ | ⟨c5, e⟩
    · refine V_tab 56 11 rfl rfl (off := 37) (by rw [c5]; decide +kernel) (by decide +kernel) ?_
      refine V_aload_n 12 rfl rfl ?_
      refine V_getR 33 13 rfl fr_RX7_98 ⟨Nat.le_of_ble_eq_true rfl, Or.inl (Nat.le_of_ble_eq_true rfl)⟩ rfl ?_
      refine V_iload_n 14 rfl rfl ?_
      obtain ⟨g4, e⟩ := gd_e e
      refine V_iald 15 rfl g4 ?_
      cases e
      exact V_iret 16 rfl hR rfl
    rcases if_e e with ⟨c7, e⟩ | ⟨c7, e⟩
    · refine V_tab 63 11 rfl rfl (off := 44) (by rw [c7]; decide +kernel) (by decide +kernel) ?_
      refine V_aload_n 17 rfl rfl ?_
      refine V_getR 34 18 rfl fr_RX7_103 ⟨Nat.le_of_ble_eq_true rfl, Or.inl (Nat.le_of_ble_eq_true rfl)⟩ rfl ?_
      refine V_iload_n 19 rfl rfl ?_
      obtain ⟨g6, e⟩ := gd_e e
      refine V_iald 20 rfl g6 ?_
      cases e
      exact V_iret 21 rfl hR rfl
    rcases if_e e with ⟨c9, e⟩ | ⟨c9, e⟩
    · refine V_tab 70 11 rfl rfl (off := 51) (by rw [c9]; decide +kernel) (by decide +kernel) ?_
      refine V_aload_n 22 rfl rfl ?_
      refine V_getR 35 23 rfl fr_RX7_106 ⟨Nat.le_of_ble_eq_true rfl, Or.inl (Nat.le_of_ble_eq_true rfl)⟩ rfl ?_
      refine V_iload_n 24 rfl rfl ?_
      obtain ⟨g8, e⟩ := gd_e e
      refine V_iald 25 rfl g8 ?_
      cases e
      exact V_iret 26 rfl hR rfl
    rcases if_e e with ⟨c14, e⟩ | ⟨c14, e⟩
    · refine V_tab 77 11 rfl rfl (off := 58) (by rw [c14]; decide +kernel) (by decide +kernel) ?_
      refine V_aload_n 27 rfl rfl ?_
      refine V_getR 36 28 rfl fr_RX7_109 ⟨Nat.le_of_ble_eq_true rfl, Or.inl (Nat.le_of_ble_eq_true rfl)⟩ rfl ?_
      refine V_iload_n 29 rfl rfl ?_
      obtain ⟨g10, e⟩ := gd_e e
      refine V_zald 30 rfl g10 ?_
      obtain ⟨v13, h11, d12, e⟩ := bd2_e e
      refine V_callS (N := M_X7_oneIf) (av := [iv (h1 36 (x1).toNatClampNeg)]) (st := []) (r := some (iv v13)) (h' := h11) 31 rfl (c_X7_oneIf d12) g_X7_oneIf gs_X7_oneIf lk_RX7_113 ⟨Nat.le_of_ble_eq_true rfl, Nat.le_of_ble_eq_true rfl⟩ rfl (Nat.le_of_ble_eq_true rfl) ⟨Nat.zero_le _, Nat.zero_le _⟩ ?_
      show V G M_X7_cell X T 0 0 86 [some (rv (7, 99) 0), some (iv x1), some (iv x2), some (rv (1, 99) 32)] [iv v13] h11
      cases e
      exact V_iret 32 rfl hR rfl
    rcases if_e e with ⟨c19, e⟩ | ⟨c19, e⟩
    · refine V_tab 87 11 rfl rfl (off := 68) (by rw [c19]; decide +kernel) (by decide +kernel) ?_
      refine V_aload_n 33 rfl rfl ?_
      refine V_getR 37 34 rfl fr_RX7_117 ⟨Nat.le_of_ble_eq_true rfl, Or.inl (Nat.le_of_ble_eq_true rfl)⟩ rfl ?_
      refine V_iload_n 35 rfl rfl ?_
      obtain ⟨g15, e⟩ := gd_e e
      refine V_zald 36 rfl g15 ?_
      obtain ⟨v18, h16, d17, e⟩ := bd2_e e
      refine V_callS (N := M_X7_oneIf) (av := [iv (h1 37 (x1).toNatClampNeg)]) (st := []) (r := some (iv v18)) (h' := h16) 37 rfl (c_X7_oneIf d17) g_X7_oneIf gs_X7_oneIf lk_RX7_113 ⟨Nat.le_of_ble_eq_true rfl, Nat.le_of_ble_eq_true rfl⟩ rfl (Nat.le_of_ble_eq_true rfl) ⟨Nat.zero_le _, Nat.zero_le _⟩ ?_
      show V G M_X7_cell X T 0 0 96 [some (rv (7, 99) 0), some (iv x1), some (iv x2), some (rv (1, 99) 32)] [iv v18] h16
      cases e
      exact V_iret 38 rfl hR rfl
    rcases if_e e with ⟨c23, e⟩ | ⟨c23, e⟩
    · refine V_tab 97 11 rfl rfl (off := 78) (by rw [c23]; decide +kernel) (by decide +kernel) ?_
      refine V_aload_n 39 rfl rfl ?_
      refine V_getR 31 40 rfl fr_RX7_34 ⟨Nat.le_of_ble_eq_true rfl, Or.inr rfl⟩ rfl ?_
      refine V_getR 39 41 rfl fr_RX7_120 ⟨Nat.le_of_ble_eq_true rfl, Or.inr rfl⟩ rfl ?_
      refine V_iload_n 42 rfl rfl ?_
      obtain ⟨v22, h20, d21, e⟩ := bd2_e e
      refine V_callVN (N := M_X4_wholeIn) (av := [iv x1]) (st := []) (r := some (iv v22)) (h' := h20) 43 rfl (c_X4_wholeIn d21) g_X4_wholeIn gv_X4_wholeIn nk_RX7_124 ⟨Nat.le_of_ble_eq_true rfl, Nat.le_of_ble_eq_true rfl⟩ rfl rfl (Nat.le_of_ble_eq_true rfl) ⟨Nat.zero_le _, Nat.zero_le _⟩ ?_
      show V G M_X7_cell X T 0 0 108 [some (rv (7, 99) 0), some (iv x1), some (iv x2), some (rv (1, 99) 32)] [iv v22] h20
      cases e
      exact V_iret 44 rfl hR rfl
    refine V_tab 109 11 rfl rfl (tsel_d [0, 1, 2, 3, 4, 5] (List.forall_mem_cons.mpr ⟨c5, List.forall_mem_cons.mpr ⟨c7, List.forall_mem_cons.mpr ⟨c9, List.forall_mem_cons.mpr ⟨c14, List.forall_mem_cons.mpr ⟨c19, List.forall_mem_cons.mpr ⟨c23, fun k hk => by cases hk⟩⟩⟩⟩⟩⟩) (by decide +kernel)) (by decide +kernel) ?_
    refine V_iconst (-1 : Int32) 45 rfl ic_m1 ?_
    cases e
    exact V_iret 46 rfl hR rfl
set_option maxHeartbeats 4000000 in
theorem c_X7_isPot {G : kG} {T : List kT} {x1 : Int32} {h : kH} {r0 : Int32} {h0 : kH} (e : p_X7_isPot x1 h = some (r0, h0)) : k_C G M_X7_isPot T [rv (7, 99) 0, iv x1] h (some (iv r0)) h0 := by
  refine k_C_of 0 (by decide +kernel) rfl tb_X7_isPot rfl (fun X hR => ?_)
  show V G M_X7_isPot X T 0 0 0 [some (rv (7, 99) 0), some (iv x1)] [] h
  unfold p_X7_isPot at e
  refine V_iload_n 0 rfl rfl ?_
  rcases if_e e with ⟨c1, e⟩ | ⟨c1, e⟩
  · refine V_if_lt 22 1 rfl (by decide +kernel) (fun _ => ?_) (fun q => absurd c1 q) 
    refine V_iconst (nI 0) 10 rfl ic_0 ?_
    cases e
    exact V_zret 11 rfl z_0 hR rfl
  · refine V_if_lt 22 1 rfl (by decide +kernel) (fun q => absurd q c1) (fun _ => ?_)
    refine V_iload_n 2 rfl rfl ?_
    refine V_aload_n 3 rfl rfl ?_
    refine V_getR 31 4 rfl fr_RX7_34 ⟨Nat.le_of_ble_eq_true rfl, Or.inr rfl⟩ rfl ?_
    refine V_getR 39 5 rfl fr_RX7_120 ⟨Nat.le_of_ble_eq_true rfl, Or.inr rfl⟩ rfl ?_
    refine V_getI 6 rfl fi_RX7_217 ?_
    rcases if_e e with ⟨c7, e⟩ | ⟨c7, e⟩
    · refine V_icmp_ge 22 7 rfl (by decide +kernel) (fun _ => ?_) (fun q => absurd c7 q) 
      refine V_iconst (nI 0) 10 rfl ic_0 ?_
      cases e
      exact V_zret 11 rfl z_0 hR rfl
    · refine V_icmp_ge 22 7 rfl (by decide +kernel) (fun q => absurd q c7) (fun _ => ?_)
      refine V_iconst (nI 1) 8 rfl ic_1 ?_
      refine V_goto 23 9 rfl (by decide +kernel) ?_
      cases e
      exact V_zret 11 rfl z_1 hR rfl
set_option maxHeartbeats 4000000 in
theorem c_X7_pot {G : kG} {T : List kT} {x1 : Int32} {x2 : Int32} {h : kH} {r0 : Int32} {h0 : kH} (e : p_X7_pot x1 x2 h = some (r0, h0)) : k_C G M_X7_pot T [rv (7, 99) 0, iv x1, iv x2] h (some (iv r0)) h0 := by
  refine k_C_of 1 (by decide +kernel) rfl tb_X7_pot rfl (fun X hR => ?_)
  show V G M_X7_pot X T 0 0 0 [some (rv (7, 99) 0), some (iv x1), some (iv x2), none] [] h
  unfold p_X7_pot at e
  refine V_aload_n 0 rfl rfl ?_
  refine V_iload_n 1 rfl rfl ?_
  obtain ⟨v3, h1, d2, e⟩ := bd2_e e
  refine V_callV (N := M_X7_isPot) (av := [iv x1]) (st := []) (r := some (iv v3)) (h' := h1) 2 rfl (c_X7_isPot d2) g_X7_isPot gv_X7_isPot lk_RX7_130 ⟨Nat.le_of_ble_eq_true rfl, Nat.le_of_ble_eq_true rfl⟩ rfl rfl (Nat.le_of_ble_eq_true rfl) ⟨Nat.zero_le _, Nat.zero_le _⟩ ?_
  show V G M_X7_pot X T 0 0 5 [some (rv (7, 99) 0), some (iv x1), some (iv x2), none] [iv v3] h1
  rcases if_e e with ⟨c3, e⟩ | ⟨c3, e⟩
  · refine V_if_ne 10 3 rfl (by decide +kernel) (fun q => absurd c3 q) (fun _ => ?_)
    refine V_iconst (-1 : Int32) 4 rfl ic_m1 ?_
    cases e
    exact V_iret 5 rfl hR rfl
  · refine V_if_ne 10 3 rfl (by decide +kernel) (fun _ => ?_) (fun q => absurd q c3) 
    refine V_aload_n 6 rfl rfl ?_
    refine V_getR 31 7 rfl fr_RX7_34 ⟨Nat.le_of_ble_eq_true rfl, Or.inr rfl⟩ rfl ?_
    refine V_getR 39 8 rfl fr_RX7_120 ⟨Nat.le_of_ble_eq_true rfl, Or.inr rfl⟩ rfl ?_
    refine V_astore_n 9 rfl (Nat.le_of_ble_eq_true rfl) rfl ?_
    show V G M_X7_pot X T 0 0 18 [some (rv (7, 99) 0), some (iv x1), some (iv x2), some (rv (4, 99) 39)] [] h1
    refine V_iload_n 10 rfl rfl ?_
    rcases if_e e with ⟨c5, e⟩ | ⟨c5, e⟩
    · refine V_tab 56 11 rfl rfl (off := 37) (by rw [c5]; decide +kernel) (by decide +kernel) ?_
      refine V_aload_n 12 rfl rfl ?_
      refine V_getR 40 13 rfl fr_RX7_133 ⟨Nat.le_of_ble_eq_true rfl, Or.inl (Nat.le_of_ble_eq_true rfl)⟩ rfl ?_
      refine V_iload_n 14 rfl rfl ?_
      obtain ⟨g4, e⟩ := gd_e e
      refine V_iald 15 rfl g4 ?_
      cases e
      exact V_iret 16 rfl hR rfl
    rcases if_e e with ⟨c7, e⟩ | ⟨c7, e⟩
    · refine V_tab 63 11 rfl rfl (off := 44) (by rw [c7]; decide +kernel) (by decide +kernel) ?_
      refine V_aload_n 17 rfl rfl ?_
      refine V_getR 45 18 rfl fr_RX7_136 ⟨Nat.le_of_ble_eq_true rfl, Or.inl (Nat.le_of_ble_eq_true rfl)⟩ rfl ?_
      refine V_iload_n 19 rfl rfl ?_
      obtain ⟨g6, e⟩ := gd_e e
      refine V_iald 20 rfl g6 ?_
      cases e
      exact V_iret 21 rfl hR rfl
    rcases if_e e with ⟨c9, e⟩ | ⟨c9, e⟩
    · refine V_tab 70 11 rfl rfl (off := 51) (by rw [c9]; decide +kernel) (by decide +kernel) ?_
      refine V_aload_n 22 rfl rfl ?_
      refine V_getR 42 23 rfl fr_RX7_139 ⟨Nat.le_of_ble_eq_true rfl, Or.inl (Nat.le_of_ble_eq_true rfl)⟩ rfl ?_
      refine V_iload_n 24 rfl rfl ?_
      obtain ⟨g8, e⟩ := gd_e e
      refine V_iald 25 rfl g8 ?_
      cases e
      exact V_iret 26 rfl hR rfl
    rcases if_e e with ⟨c11, e⟩ | ⟨c11, e⟩
    · refine V_tab 77 11 rfl rfl (off := 58) (by rw [c11]; decide +kernel) (by decide +kernel) ?_
      refine V_aload_n 27 rfl rfl ?_
      refine V_getR 46 28 rfl fr_RX7_142 ⟨Nat.le_of_ble_eq_true rfl, Or.inl (Nat.le_of_ble_eq_true rfl)⟩ rfl ?_
      refine V_iload_n 29 rfl rfl ?_
      obtain ⟨g10, e⟩ := gd_e e
      refine V_iald 30 rfl g10 ?_
      cases e
      exact V_iret 31 rfl hR rfl
    rcases if_e e with ⟨c15, e⟩ | ⟨c15, e⟩
    · refine V_tab 84 11 rfl rfl (off := 65) (by rw [c15]; decide +kernel) (by decide +kernel) ?_
      refine V_aload_n 32 rfl rfl ?_
      refine V_iload_n 33 rfl rfl ?_
      refine V_aload_n 34 rfl rfl ?_
      refine V_getR 28 35 rfl fr_RX7_27 ⟨Nat.le_of_ble_eq_true rfl, Or.inr rfl⟩ rfl ?_
      obtain ⟨v14, h12, d13, e⟩ := bd2_e e
      refine V_callVN (N := M_X4_lossOf) (av := [iv x1, rv (5, 99) 28]) (st := []) (r := some (iv v14)) (h' := h12) 36 rfl (c_X4_lossOf d13) g_X4_lossOf gv_X4_lossOf nk_RX7_145 ⟨Nat.le_of_ble_eq_true rfl, Nat.le_of_ble_eq_true rfl⟩ rfl rfl (Nat.le_of_ble_eq_true rfl) ⟨Nat.zero_le _, Nat.zero_le _⟩ ?_
      show V G M_X7_pot X T 0 0 93 [some (rv (7, 99) 0), some (iv x1), some (iv x2), some (rv (4, 99) 39)] [iv v14] h12
      cases e
      exact V_iret 37 rfl hR rfl
    rcases if_e e with ⟨c17, e⟩ | ⟨c17, e⟩
    · refine V_tab 94 11 rfl rfl (off := 75) (by rw [c17]; decide +kernel) (by decide +kernel) ?_
      refine V_aload_n 38 rfl rfl ?_
      refine V_getR 48 39 rfl fr_RX7_149 ⟨Nat.le_of_ble_eq_true rfl, Or.inl (Nat.le_of_ble_eq_true rfl)⟩ rfl ?_
      refine V_iload_n 40 rfl rfl ?_
      obtain ⟨g16, e⟩ := gd_e e
      refine V_iald 41 rfl g16 ?_
      cases e
      exact V_iret 42 rfl hR rfl
    refine V_tab 101 11 rfl rfl (tsel_d [0, 1, 2, 3, 4, 5] (List.forall_mem_cons.mpr ⟨c5, List.forall_mem_cons.mpr ⟨c7, List.forall_mem_cons.mpr ⟨c9, List.forall_mem_cons.mpr ⟨c11, List.forall_mem_cons.mpr ⟨c15, List.forall_mem_cons.mpr ⟨c17, fun k hk => by cases hk⟩⟩⟩⟩⟩⟩) (by decide +kernel)) (by decide +kernel) ?_
    refine V_iconst (-1 : Int32) 43 rfl ic_m1 ?_
    cases e
    exact V_iret 44 rfl hR rfl
set_option maxHeartbeats 4000000 in
theorem c_X7_isWind {G : kG} {T : List kT} {x0 : Int32} {h : kH} {r0 : Int32} {h0 : kH} (e : p_X7_isWind x0 h = some (r0, h0)) : k_C G M_X7_isWind T [iv x0] h (some (iv r0)) h0 := by
  refine k_C_of 0 (by decide +kernel) rfl tb_X7_isWind rfl (fun X hR => ?_)
  show V G M_X7_isWind X T 0 0 0 [some (iv x0)] [] h
  unfold p_X7_isWind at e
  refine V_iload_n 0 rfl rfl ?_
  rcases if_e e with ⟨c1, e⟩ | ⟨c1, e⟩
  · refine V_if_lt 14 1 rfl (by decide +kernel) (fun _ => ?_) (fun q => absurd c1 q) 
    refine V_iconst (nI 0) 7 rfl ic_0 ?_
    cases e
    exact V_zret 8 rfl z_0 hR rfl
  · refine V_if_lt 14 1 rfl (by decide +kernel) (fun q => absurd q c1) (fun _ => ?_)
    refine V_iload_n 2 rfl rfl ?_
    refine V_bipush (nI 9) 3 rfl bp_9 ?_
    rcases if_e e with ⟨c4, e⟩ | ⟨c4, e⟩
    · refine V_icmp_gt 14 4 rfl (by decide +kernel) (fun _ => ?_) (fun q => absurd c4 q) 
      refine V_iconst (nI 0) 7 rfl ic_0 ?_
      cases e
      exact V_zret 8 rfl z_0 hR rfl
    · refine V_icmp_gt 14 4 rfl (by decide +kernel) (fun q => absurd q c4) (fun _ => ?_)
      refine V_iconst (nI 1) 5 rfl ic_1 ?_
      refine V_goto 15 6 rfl (by decide +kernel) ?_
      cases e
      exact V_zret 8 rfl z_1 hR rfl
set_option maxHeartbeats 4000000 in
theorem c_X7_minute {G : kG} {T : List kT} {x1 : Int32} {h : kH} {r0 : Int32} {h0 : kH} (e : p_X7_minute x1 h = some (r0, h0)) : k_C G M_X7_minute T [rv (7, 99) 0, iv x1] h (some (iv r0)) h0 := by
  refine k_C_of 0 (by decide +kernel) rfl tb_X7_minute rfl (fun X hR => ?_)
  show V G M_X7_minute X T 0 0 0 [some (rv (7, 99) 0), some (iv x1)] [] h
  unfold p_X7_minute at e
  refine V_iload_n 0 rfl rfl ?_
  obtain ⟨v3, h1, d2, e⟩ := bd2_e e
  refine V_callS (N := M_X7_isWind) (av := [iv x1]) (st := []) (r := some (iv v3)) (h' := h1) 1 rfl (c_X7_isWind d2) g_X7_isWind gs_X7_isWind lk_RX7_152 ⟨Nat.le_of_ble_eq_true rfl, Nat.le_of_ble_eq_true rfl⟩ rfl (Nat.le_of_ble_eq_true rfl) ⟨Nat.zero_le _, Nat.zero_le _⟩ ?_
  show V G M_X7_minute X T 0 0 4 [some (rv (7, 99) 0), some (iv x1)] [iv v3] h1
  rcases if_e e with ⟨c2, e⟩ | ⟨c2, e⟩
  · refine V_if_ne 9 2 rfl (by decide +kernel) (fun q => absurd c2 q) (fun _ => ?_)
    refine V_iconst (-1 : Int32) 3 rfl ic_m1 ?_
    cases e
    exact V_iret 4 rfl hR rfl
  · refine V_if_ne 9 2 rfl (by decide +kernel) (fun _ => ?_) (fun q => absurd q c2) 
    refine V_aload_n 5 rfl rfl ?_
    refine V_getR 31 6 rfl fr_RX7_34 ⟨Nat.le_of_ble_eq_true rfl, Or.inr rfl⟩ rfl ?_
    refine V_aload_n 7 rfl rfl ?_
    refine V_getR 28 8 rfl fr_RX7_27 ⟨Nat.le_of_ble_eq_true rfl, Or.inr rfl⟩ rfl ?_
    refine V_iload_n 9 rfl rfl ?_
    refine V_aload_n 10 rfl rfl ?_
    refine V_getR 132 11 rfl fr_RX7_63 ⟨Nat.le_of_ble_eq_true rfl, Or.inr rfl⟩ rfl ?_
    obtain ⟨h4, d5, e⟩ := bd_e e
    refine V_callVN (N := M_X2_pass) (av := [rv (5, 99) 28, iv x1, rv (0, 99) 132]) (st := []) (r := none) (h' := h4) 12 rfl (c_X2_pass d5) g_X2_pass gv_X2_pass nk_RX7_155 ⟨Nat.le_of_ble_eq_true rfl, Nat.le_of_ble_eq_true rfl⟩ rfl rfl (Nat.le_of_ble_eq_true rfl) ⟨Nat.zero_le _, Nat.zero_le _⟩ ?_
    show V G M_X7_minute X T 0 0 25 [some (rv (7, 99) 0), some (iv x1)] [] h4
    refine V_aload_n 13 rfl rfl ?_
    refine V_getR 31 14 rfl fr_RX7_34 ⟨Nat.le_of_ble_eq_true rfl, Or.inr rfl⟩ rfl ?_
    refine V_getR 39 15 rfl fr_RX7_120 ⟨Nat.le_of_ble_eq_true rfl, Or.inr rfl⟩ rfl ?_
    obtain ⟨v8, h6, d7, e⟩ := bd2_e e
    refine V_callVN (N := M_X4_countWhole) (av := []) (st := []) (r := some (iv v8)) (h' := h6) 16 rfl (c_X4_countWhole d7) g_X4_countWhole gv_X4_countWhole nk_RX7_159 ⟨Nat.le_of_ble_eq_true rfl, Nat.le_of_ble_eq_true rfl⟩ rfl rfl (Nat.le_of_ble_eq_true rfl) ⟨Nat.zero_le _, Nat.zero_le _⟩ ?_
    show V G M_X7_minute X T 0 0 35 [some (rv (7, 99) 0), some (iv x1)] [iv v8] h6
    cases e
    exact V_iret 17 rfl hR rfl
set_option maxHeartbeats 4000000 in
theorem c_X7_fuel {G : kG} {T : List kT} {x1 : Int32} {x2 : Int32} {h : kH} {r0 : Int32} {h0 : kH} (e : p_X7_fuel x1 x2 h = some (r0, h0)) : k_C G M_X7_fuel T [rv (7, 99) 0, iv x1, iv x2] h (some (iv r0)) h0 := by
  refine k_C_of 1 (by decide +kernel) rfl tb_X7_fuel rfl (fun X hR => ?_)
  show V G M_X7_fuel X T 0 0 0 [some (rv (7, 99) 0), some (iv x1), some (iv x2), none] [] h
  unfold p_X7_fuel at e
  refine V_aload_n 0 rfl rfl ?_
  refine V_iload_n 1 rfl rfl ?_
  obtain ⟨v3, h1, d2, e⟩ := bd2_e e
  refine V_callV (N := M_X7_isCell) (av := [iv x1]) (st := []) (r := some (iv v3)) (h' := h1) 2 rfl (c_X7_isCell d2) g_X7_isCell gv_X7_isCell lk_RX7_90 ⟨Nat.le_of_ble_eq_true rfl, Nat.le_of_ble_eq_true rfl⟩ rfl rfl (Nat.le_of_ble_eq_true rfl) ⟨Nat.zero_le _, Nat.zero_le _⟩ ?_
  show V G M_X7_fuel X T 0 0 5 [some (rv (7, 99) 0), some (iv x1), some (iv x2), none] [iv v3] h1
  rcases if_e e with ⟨c3, e⟩ | ⟨c3, e⟩
  · refine V_if_eq 19 3 rfl (by decide +kernel) (fun _ => ?_) (fun q => absurd c3 q) 
    refine V_iconst (-1 : Int32) 10 rfl ic_m1 ?_
    cases e
    exact V_iret 11 rfl hR rfl
  · refine V_if_eq 19 3 rfl (by decide +kernel) (fun q => absurd q c3) (fun _ => ?_)
    refine V_iload_n 4 rfl rfl ?_
    refine V_iconst (nI 1) 5 rfl ic_1 ?_
    rcases if_e e with ⟨c6, e⟩ | ⟨c6, e⟩
    · refine V_icmp_lt 19 6 rfl (by decide +kernel) (fun _ => ?_) (fun q => absurd c6 q) 
      refine V_iconst (-1 : Int32) 10 rfl ic_m1 ?_
      cases e
      exact V_iret 11 rfl hR rfl
    · refine V_icmp_lt 19 6 rfl (by decide +kernel) (fun q => absurd q c6) (fun _ => ?_)
      refine V_iload_n 7 rfl rfl ?_
      refine V_bipush (nI 99) 8 rfl bp_99 ?_
      rcases if_e e with ⟨c9, e⟩ | ⟨c9, e⟩
      · refine V_icmp_le 21 9 rfl (by decide +kernel) (fun _ => ?_) (fun q => absurd c9 q) 
        refine V_aload_n 12 rfl rfl ?_
        refine V_getR 31 13 rfl fr_RX7_34 ⟨Nat.le_of_ble_eq_true rfl, Or.inr rfl⟩ rfl ?_
        refine V_getR 32 14 rfl fr_RX7_94 ⟨Nat.le_of_ble_eq_true rfl, Or.inr rfl⟩ rfl ?_
        refine V_getR 34 15 rfl fr_RX7_103 ⟨Nat.le_of_ble_eq_true rfl, Or.inl (Nat.le_of_ble_eq_true rfl)⟩ rfl ?_
        refine V_iload_n 16 rfl rfl ?_
        obtain ⟨g4, e⟩ := gd_e e
        refine V_iald 17 rfl g4 ?_
        refine V_iload_n 18 rfl rfl ?_
        refine V_iadd 19 rfl ?_
        refine V_istore_n 20 rfl (Nat.le_of_ble_eq_true rfl) rfl ?_
        refine le_V (P := fun v5 => V G M_X7_fuel X T 0 0 36 [some (rv (7, 99) 0), some (iv x1), some (iv x2), some (iv v5)] [] h1) e (fun v5 e => ?_)
        refine V_iload_n 21 rfl rfl ?_
        refine V_sipush (nI 999) 22 rfl sp_999 ?_
        rcases if_e e with ⟨c23, e⟩ | ⟨c23, e⟩
        · refine V_icmp_le 46 23 rfl (by decide +kernel) (fun _ => ?_) (fun q => absurd c23 q) 
          refine V_aload_n 26 rfl rfl ?_
          refine V_getR 31 27 rfl fr_RX7_34 ⟨Nat.le_of_ble_eq_true rfl, Or.inr rfl⟩ rfl ?_
          refine V_getR 32 28 rfl fr_RX7_94 ⟨Nat.le_of_ble_eq_true rfl, Or.inr rfl⟩ rfl ?_
          refine V_getR 34 29 rfl fr_RX7_103 ⟨Nat.le_of_ble_eq_true rfl, Or.inl (Nat.le_of_ble_eq_true rfl)⟩ rfl ?_
          refine V_iload_n 30 rfl rfl ?_
          refine V_iload_n 31 rfl rfl ?_
          refine V_iast 32 rfl g4 ?_
          refine le_V (P := fun h6 => V G M_X7_fuel X T 0 0 59 [some (rv (7, 99) 0), some (iv x1), some (iv x2), some (iv v5)] [] h6) e (fun h6 e => ?_)
          refine V_iload_n 33 rfl rfl ?_
          cases e
          exact V_iret 34 rfl hR rfl
        · refine V_icmp_le 46 23 rfl (by decide +kernel) (fun q => absurd q c23) (fun _ => ?_)
          refine V_bipush (-2 : Int32) 24 rfl bp_m2 ?_
          cases e
          exact V_iret 25 rfl hR rfl
      · refine V_icmp_le 21 9 rfl (by decide +kernel) (fun q => absurd q c9) (fun _ => ?_)
        refine V_iconst (-1 : Int32) 10 rfl ic_m1 ?_
        cases e
        exact V_iret 11 rfl hR rfl
set_option maxHeartbeats 4000000 in
theorem c_X7_cover {G : kG} {T : List kT} {x1 : Int32} {x2 : Int32} {h : kH} {r0 : Int32} {h0 : kH} (e : p_X7_cover x1 x2 h = some (r0, h0)) : k_C G M_X7_cover T [rv (7, 99) 0, iv x1, iv x2] h (some (iv r0)) h0 := by
  refine k_C_of 1 (by decide +kernel) rfl tb_X7_cover rfl (fun X hR => ?_)
  show V G M_X7_cover X T 0 0 0 [some (rv (7, 99) 0), some (iv x1), some (iv x2), none] [] h
  unfold p_X7_cover at e
  refine V_aload_n 0 rfl rfl ?_
  refine V_iload_n 1 rfl rfl ?_
  obtain ⟨v3, h1, d2, e⟩ := bd2_e e
  refine V_callV (N := M_X7_isCell) (av := [iv x1]) (st := []) (r := some (iv v3)) (h' := h1) 2 rfl (c_X7_isCell d2) g_X7_isCell gv_X7_isCell lk_RX7_90 ⟨Nat.le_of_ble_eq_true rfl, Nat.le_of_ble_eq_true rfl⟩ rfl rfl (Nat.le_of_ble_eq_true rfl) ⟨Nat.zero_le _, Nat.zero_le _⟩ ?_
  show V G M_X7_cover X T 0 0 5 [some (rv (7, 99) 0), some (iv x1), some (iv x2), none] [iv v3] h1
  rcases if_e e with ⟨c3, e⟩ | ⟨c3, e⟩
  · refine V_if_ne 10 3 rfl (by decide +kernel) (fun q => absurd c3 q) (fun _ => ?_)
    refine V_iconst (-1 : Int32) 4 rfl ic_m1 ?_
    cases e
    exact V_iret 5 rfl hR rfl
  · refine V_if_ne 10 3 rfl (by decide +kernel) (fun _ => ?_) (fun q => absurd q c3) 
    refine V_aload_n 6 rfl rfl ?_
    refine V_getR 31 7 rfl fr_RX7_34 ⟨Nat.le_of_ble_eq_true rfl, Or.inr rfl⟩ rfl ?_
    refine V_getR 32 8 rfl fr_RX7_94 ⟨Nat.le_of_ble_eq_true rfl, Or.inr rfl⟩ rfl ?_
    refine V_getR 37 9 rfl fr_RX7_117 ⟨Nat.le_of_ble_eq_true rfl, Or.inl (Nat.le_of_ble_eq_true rfl)⟩ rfl ?_
    refine V_iload_n 10 rfl rfl ?_
    obtain ⟨g4, e⟩ := gd_e e
    refine V_zald 11 rfl g4 ?_
    obtain ⟨v7, h5, d6, e⟩ := bd2_e e
    refine V_callS (N := M_X7_oneIf) (av := [iv (h1 37 (x1).toNatClampNeg)]) (st := []) (r := some (iv v7)) (h' := h5) 12 rfl (c_X7_oneIf d6) g_X7_oneIf gs_X7_oneIf lk_RX7_113 ⟨Nat.le_of_ble_eq_true rfl, Nat.le_of_ble_eq_true rfl⟩ rfl (Nat.le_of_ble_eq_true rfl) ⟨Nat.zero_le _, Nat.zero_le _⟩ ?_
    show V G M_X7_cover X T 0 0 25 [some (rv (7, 99) 0), some (iv x1), some (iv x2), none] [iv v7] h5
    refine V_istore_n 13 rfl (Nat.le_of_ble_eq_true rfl) rfl ?_
    show V G M_X7_cover X T 0 0 26 [some (rv (7, 99) 0), some (iv x1), some (iv x2), some (iv v7)] [] h5
    refine V_aload_n 14 rfl rfl ?_
    refine V_getR 31 15 rfl fr_RX7_34 ⟨Nat.le_of_ble_eq_true rfl, Or.inr rfl⟩ rfl ?_
    refine V_getR 32 16 rfl fr_RX7_94 ⟨Nat.le_of_ble_eq_true rfl, Or.inr rfl⟩ rfl ?_
    refine V_getR 37 17 rfl fr_RX7_117 ⟨Nat.le_of_ble_eq_true rfl, Or.inl (Nat.le_of_ble_eq_true rfl)⟩ rfl ?_
    refine V_iload_n 18 rfl rfl ?_
    refine V_iload_n 19 rfl rfl ?_
    refine V_zast 20 rfl g4 ?_
    refine le_V (P := fun h8 => V G M_X7_cover X T 0 0 39 [some (rv (7, 99) 0), some (iv x1), some (iv x2), some (iv v7)] [] h8) e (fun h8 e => ?_)
    refine V_iload_n 21 rfl rfl ?_
    cases e
    exact V_iret 22 rfl hR rfl
set_option maxHeartbeats 4000000 in
theorem c_X7_light {G : kG} {T : List kT} {x1 : Int32} {h : kH} {r0 : Int32} {h0 : kH} (e : p_X7_light x1 h = some (r0, h0)) : k_C G M_X7_light T [rv (7, 99) 0, iv x1] h (some (iv r0)) h0 := by
  refine k_C_of 1 (by decide +kernel) rfl tb_X7_light rfl (fun X hR => ?_)
  show V G M_X7_light X T 0 0 0 [some (rv (7, 99) 0), some (iv x1), none] [] h
  unfold p_X7_light at e
  refine V_aload_n 0 rfl rfl ?_
  refine V_iload_n 1 rfl rfl ?_
  obtain ⟨v3, h1, d2, e⟩ := bd2_e e
  refine V_callV (N := M_X7_isCell) (av := [iv x1]) (st := []) (r := some (iv v3)) (h' := h1) 2 rfl (c_X7_isCell d2) g_X7_isCell gv_X7_isCell lk_RX7_90 ⟨Nat.le_of_ble_eq_true rfl, Nat.le_of_ble_eq_true rfl⟩ rfl rfl (Nat.le_of_ble_eq_true rfl) ⟨Nat.zero_le _, Nat.zero_le _⟩ ?_
  show V G M_X7_light X T 0 0 5 [some (rv (7, 99) 0), some (iv x1), none] [iv v3] h1
  rcases if_e e with ⟨c3, e⟩ | ⟨c3, e⟩
  · refine V_if_ne 10 3 rfl (by decide +kernel) (fun q => absurd c3 q) (fun _ => ?_)
    refine V_iconst (-1 : Int32) 4 rfl ic_m1 ?_
    cases e
    exact V_iret 5 rfl hR rfl
  · refine V_if_ne 10 3 rfl (by decide +kernel) (fun _ => ?_) (fun q => absurd q c3) 
    refine V_aload_n 6 rfl rfl ?_
    refine V_getR 31 7 rfl fr_RX7_34 ⟨Nat.le_of_ble_eq_true rfl, Or.inr rfl⟩ rfl ?_
    refine V_getR 32 8 rfl fr_RX7_94 ⟨Nat.le_of_ble_eq_true rfl, Or.inr rfl⟩ rfl ?_
    refine V_getR 36 9 rfl fr_RX7_109 ⟨Nat.le_of_ble_eq_true rfl, Or.inl (Nat.le_of_ble_eq_true rfl)⟩ rfl ?_
    refine V_iload_n 10 rfl rfl ?_
    obtain ⟨g4, e⟩ := gd_e e
    refine V_zald 11 rfl g4 ?_
    obtain ⟨v7, h5, d6, e⟩ := bd2_e e
    refine V_callS (N := M_X7_oneIf) (av := [iv (h1 36 (x1).toNatClampNeg)]) (st := []) (r := some (iv v7)) (h' := h5) 12 rfl (c_X7_oneIf d6) g_X7_oneIf gs_X7_oneIf lk_RX7_113 ⟨Nat.le_of_ble_eq_true rfl, Nat.le_of_ble_eq_true rfl⟩ rfl (Nat.le_of_ble_eq_true rfl) ⟨Nat.zero_le _, Nat.zero_le _⟩ ?_
    show V G M_X7_light X T 0 0 25 [some (rv (7, 99) 0), some (iv x1), none] [iv v7] h5
    refine V_istore_n 13 rfl (Nat.le_of_ble_eq_true rfl) rfl ?_
    show V G M_X7_light X T 0 0 26 [some (rv (7, 99) 0), some (iv x1), some (iv v7)] [] h5
    refine V_aload_n 14 rfl rfl ?_
    refine V_getR 31 15 rfl fr_RX7_34 ⟨Nat.le_of_ble_eq_true rfl, Or.inr rfl⟩ rfl ?_
    refine V_getR 32 16 rfl fr_RX7_94 ⟨Nat.le_of_ble_eq_true rfl, Or.inr rfl⟩ rfl ?_
    refine V_getR 36 17 rfl fr_RX7_109 ⟨Nat.le_of_ble_eq_true rfl, Or.inl (Nat.le_of_ble_eq_true rfl)⟩ rfl ?_
    refine V_iload_n 18 rfl rfl ?_
    refine V_iconst (nI 1) 19 rfl ic_1 ?_
    refine V_zast 20 rfl g4 ?_
    refine le_V (P := fun h8 => V G M_X7_light X T 0 0 39 [some (rv (7, 99) 0), some (iv x1), some (iv v7)] [] h8) e (fun h8 e => ?_)
    refine V_iload_n 21 rfl rfl ?_
    cases e
    exact V_iret 22 rfl hR rfl
set_option maxHeartbeats 4000000 in
theorem c_X7_take {G : kG} {T : List kT} {x1 : Int32} {h : kH} {r0 : Int32} {h0 : kH} (e : p_X7_take x1 h = some (r0, h0)) : k_C G M_X7_take T [rv (7, 99) 0, iv x1] h (some (iv r0)) h0 := by
  refine k_C_of 1 (by decide +kernel) rfl tb_X7_take rfl (fun X hR => ?_)
  show V G M_X7_take X T 0 0 0 [some (rv (7, 99) 0), some (iv x1), none] [] h
  unfold p_X7_take at e
  refine V_aload_n 0 rfl rfl ?_
  refine V_iload_n 1 rfl rfl ?_
  obtain ⟨v3, h1, d2, e⟩ := bd2_e e
  refine V_callV (N := M_X7_isPot) (av := [iv x1]) (st := []) (r := some (iv v3)) (h' := h1) 2 rfl (c_X7_isPot d2) g_X7_isPot gv_X7_isPot lk_RX7_130 ⟨Nat.le_of_ble_eq_true rfl, Nat.le_of_ble_eq_true rfl⟩ rfl rfl (Nat.le_of_ble_eq_true rfl) ⟨Nat.zero_le _, Nat.zero_le _⟩ ?_
  show V G M_X7_take X T 0 0 5 [some (rv (7, 99) 0), some (iv x1), none] [iv v3] h1
  rcases if_e e with ⟨c3, e⟩ | ⟨c3, e⟩
  · refine V_if_ne 10 3 rfl (by decide +kernel) (fun q => absurd c3 q) (fun _ => ?_)
    refine V_iconst (-1 : Int32) 4 rfl ic_m1 ?_
    cases e
    exact V_iret 5 rfl hR rfl
  · refine V_if_ne 10 3 rfl (by decide +kernel) (fun _ => ?_) (fun q => absurd q c3) 
    refine V_aload_n 6 rfl rfl ?_
    refine V_getR 31 7 rfl fr_RX7_34 ⟨Nat.le_of_ble_eq_true rfl, Or.inr rfl⟩ rfl ?_
    refine V_getR 39 8 rfl fr_RX7_120 ⟨Nat.le_of_ble_eq_true rfl, Or.inr rfl⟩ rfl ?_
    refine V_getR 47 9 rfl fr_RX7_162 ⟨Nat.le_of_ble_eq_true rfl, Or.inl (Nat.le_of_ble_eq_true rfl)⟩ rfl ?_
    refine V_iload_n 10 rfl rfl ?_
    obtain ⟨g4, e⟩ := gd_e e
    refine V_iald 11 rfl g4 ?_
    rcases if_e e with ⟨c12, e⟩ | ⟨c12, e⟩
    · refine V_if_eq 28 12 rfl (by decide +kernel) (fun _ => ?_) (fun q => absurd c12 q) 
      refine V_aload_n 15 rfl rfl ?_
      refine V_getR 31 16 rfl fr_RX7_34 ⟨Nat.le_of_ble_eq_true rfl, Or.inr rfl⟩ rfl ?_
      refine V_getR 39 17 rfl fr_RX7_120 ⟨Nat.le_of_ble_eq_true rfl, Or.inr rfl⟩ rfl ?_
      refine V_iload_n 18 rfl rfl ?_
      refine V_aload_n 19 rfl rfl ?_
      refine V_getR 28 20 rfl fr_RX7_27 ⟨Nat.le_of_ble_eq_true rfl, Or.inr rfl⟩ rfl ?_
      obtain ⟨v7, h5, d6, e⟩ := bd2_e e
      refine V_callVN (N := M_X4_lossOf) (av := [iv x1, rv (5, 99) 28]) (st := []) (r := some (iv v7)) (h' := h5) 21 rfl (c_X4_lossOf d6) g_X4_lossOf gv_X4_lossOf nk_RX7_145 ⟨Nat.le_of_ble_eq_true rfl, Nat.le_of_ble_eq_true rfl⟩ rfl rfl (Nat.le_of_ble_eq_true rfl) ⟨Nat.zero_le _, Nat.zero_le _⟩ ?_
      show V G M_X7_take X T 0 0 43 [some (rv (7, 99) 0), some (iv x1), none] [iv v7] h5
      refine V_istore_n 22 rfl (Nat.le_of_ble_eq_true rfl) rfl ?_
      show V G M_X7_take X T 0 0 44 [some (rv (7, 99) 0), some (iv x1), some (iv v7)] [] h5
      refine V_aload_n 23 rfl rfl ?_
      refine V_getR 31 24 rfl fr_RX7_34 ⟨Nat.le_of_ble_eq_true rfl, Or.inr rfl⟩ rfl ?_
      refine V_getR 39 25 rfl fr_RX7_120 ⟨Nat.le_of_ble_eq_true rfl, Or.inr rfl⟩ rfl ?_
      refine V_getR 47 26 rfl fr_RX7_162 ⟨Nat.le_of_ble_eq_true rfl, Or.inl (Nat.le_of_ble_eq_true rfl)⟩ rfl ?_
      refine V_iload_n 27 rfl rfl ?_
      refine V_bipush (nI 6) 28 rfl bp_6 ?_
      refine V_iast 29 rfl g4 ?_
      refine le_V (P := fun h8 => V G M_X7_take X T 0 0 58 [some (rv (7, 99) 0), some (iv x1), some (iv v7)] [] h8) e (fun h8 e => ?_)
      refine V_iload_n 30 rfl rfl ?_
      cases e
      exact V_iret 31 rfl hR rfl
    · refine V_if_eq 28 12 rfl (by decide +kernel) (fun q => absurd q c12) (fun _ => ?_)
      refine V_bipush (-2 : Int32) 13 rfl bp_m2 ?_
      cases e
      exact V_iret 14 rfl hR rfl
set_option maxHeartbeats 4000000 in
theorem c_X7_dry {G : kG} {T : List kT} {x1 : Int32} {h : kH} {r0 : Int32} {h0 : kH} (e : p_X7_dry x1 h = some (r0, h0)) : k_C G M_X7_dry T [rv (7, 99) 0, iv x1] h (some (iv r0)) h0 := by
  refine k_C_of 0 (by decide +kernel) rfl tb_X7_dry rfl (fun X hR => ?_)
  show V G M_X7_dry X T 0 0 0 [some (rv (7, 99) 0), some (iv x1)] [] h
  unfold p_X7_dry at e
  refine V_iload_n 0 rfl rfl ?_
  refine V_iconst (nI 1) 1 rfl ic_1 ?_
  rcases if_e e with ⟨c2, e⟩ | ⟨c2, e⟩
  · refine V_icmp_lt 12 2 rfl (by decide +kernel) (fun _ => ?_) (fun q => absurd c2 q) 
    refine V_iconst (-1 : Int32) 6 rfl ic_m1 ?_
    cases e
    exact V_iret 7 rfl hR rfl
  · refine V_icmp_lt 12 2 rfl (by decide +kernel) (fun q => absurd q c2) (fun _ => ?_)
    refine V_iload_n 3 rfl rfl ?_
    refine V_sipush (nI 240) 4 rfl sp_240 ?_
    rcases if_e e with ⟨c5, e⟩ | ⟨c5, e⟩
    · refine V_icmp_le 14 5 rfl (by decide +kernel) (fun _ => ?_) (fun q => absurd c5 q) 
      refine V_aload_n 8 rfl rfl ?_
      refine V_getR 31 9 rfl fr_RX7_34 ⟨Nat.le_of_ble_eq_true rfl, Or.inr rfl⟩ rfl ?_
      refine V_getR 39 10 rfl fr_RX7_120 ⟨Nat.le_of_ble_eq_true rfl, Or.inr rfl⟩ rfl ?_
      refine V_iload_n 11 rfl rfl ?_
      obtain ⟨h1, d2, e⟩ := bd_e e
      refine V_callVN (N := M_X4_dryFor) (av := [iv x1]) (st := []) (r := none) (h' := h1) 12 rfl (c_X4_dryFor d2) g_X4_dryFor gv_X4_dryFor nk_RX7_165 ⟨Nat.le_of_ble_eq_true rfl, Nat.le_of_ble_eq_true rfl⟩ rfl rfl (Nat.le_of_ble_eq_true rfl) ⟨Nat.zero_le _, Nat.zero_le _⟩ ?_
      show V G M_X7_dry X T 0 0 25 [some (rv (7, 99) 0), some (iv x1)] [] h1
      refine V_aload_n 13 rfl rfl ?_
      refine V_getR 31 14 rfl fr_RX7_34 ⟨Nat.le_of_ble_eq_true rfl, Or.inr rfl⟩ rfl ?_
      refine V_getR 39 15 rfl fr_RX7_120 ⟨Nat.le_of_ble_eq_true rfl, Or.inr rfl⟩ rfl ?_
      obtain ⟨v5, h3, d4, e⟩ := bd2_e e
      refine V_callVN (N := M_X4_allWater) (av := []) (st := []) (r := some (iv v5)) (h' := h3) 16 rfl (c_X4_allWater d4) g_X4_allWater gv_X4_allWater nk_RX7_169 ⟨Nat.le_of_ble_eq_true rfl, Nat.le_of_ble_eq_true rfl⟩ rfl rfl (Nat.le_of_ble_eq_true rfl) ⟨Nat.zero_le _, Nat.zero_le _⟩ ?_
      show V G M_X7_dry X T 0 0 35 [some (rv (7, 99) 0), some (iv x1)] [iv v5] h3
      cases e
      exact V_iret 17 rfl hR rfl
    · refine V_icmp_le 14 5 rfl (by decide +kernel) (fun q => absurd q c5) (fun _ => ?_)
      refine V_iconst (-1 : Int32) 6 rfl ic_m1 ?_
      cases e
      exact V_iret 7 rfl hR rfl
set_option maxHeartbeats 4000000 in
theorem c_X7_isLength {G : kG} {T : List kT} {x0 : Int32} {h : kH} {r0 : Int32} {h0 : kH} (e : p_X7_isLength x0 h = some (r0, h0)) : k_C G M_X7_isLength T [iv x0] h (some (iv r0)) h0 := by
  refine k_C_of 0 (by decide +kernel) rfl tb_X7_isLength rfl (fun X hR => ?_)
  show V G M_X7_isLength X T 0 0 0 [some (iv x0)] [] h
  unfold p_X7_isLength at e
  refine V_iload_n 0 rfl rfl ?_
  rcases if_e e with ⟨c1, e⟩ | ⟨c1, e⟩
  · refine V_if_lt 15 1 rfl (by decide +kernel) (fun _ => ?_) (fun q => absurd c1 q) 
    refine V_iconst (nI 0) 7 rfl ic_0 ?_
    cases e
    exact V_zret 8 rfl z_0 hR rfl
  · refine V_if_lt 15 1 rfl (by decide +kernel) (fun q => absurd q c1) (fun _ => ?_)
    refine V_iload_n 2 rfl rfl ?_
    refine V_sipush (nI 240) 3 rfl sp_240 ?_
    rcases if_e e with ⟨c4, e⟩ | ⟨c4, e⟩
    · refine V_icmp_gt 15 4 rfl (by decide +kernel) (fun _ => ?_) (fun q => absurd c4 q) 
      refine V_iconst (nI 0) 7 rfl ic_0 ?_
      cases e
      exact V_zret 8 rfl z_0 hR rfl
    · refine V_icmp_gt 15 4 rfl (by decide +kernel) (fun q => absurd q c4) (fun _ => ?_)
      refine V_iconst (nI 1) 5 rfl ic_1 ?_
      refine V_goto 16 6 rfl (by decide +kernel) ?_
      cases e
      exact V_zret 8 rfl z_1 hR rfl
set_option maxHeartbeats 4000000 in
theorem c_X7_isRun {G : kG} {T : List kT} {x0 : Int32} {x1 : Int32} {h : kH} {r0 : Int32} {h0 : kH} (e : p_X7_isRun x0 x1 h = some (r0, h0)) : k_C G M_X7_isRun T [iv x0, iv x1] h (some (iv r0)) h0 := by
  refine k_C_of 0 (by decide +kernel) rfl tb_X7_isRun rfl (fun X hR => ?_)
  show V G M_X7_isRun X T 0 0 0 [some (iv x0), some (iv x1)] [] h
  unfold p_X7_isRun at e
  refine V_iload_n 0 rfl rfl ?_
  obtain ⟨v3, h1, d2, e⟩ := bd2_e e
  refine V_callS (N := M_X7_isLength) (av := [iv x0]) (st := []) (r := some (iv v3)) (h' := h1) 1 rfl (c_X7_isLength d2) g_X7_isLength gs_X7_isLength lk_RX7_239 ⟨Nat.le_of_ble_eq_true rfl, Nat.le_of_ble_eq_true rfl⟩ rfl (Nat.le_of_ble_eq_true rfl) ⟨Nat.zero_le _, Nat.zero_le _⟩ ?_
  show V G M_X7_isRun X T 0 0 4 [some (iv x0), some (iv x1)] [iv v3] h1
  rcases if_e e with ⟨c2, e⟩ | ⟨c2, e⟩
  · refine V_if_eq 18 2 rfl (by decide +kernel) (fun _ => ?_) (fun q => absurd c2 q) 
    refine V_iconst (nI 0) 8 rfl ic_0 ?_
    cases e
    exact V_zret 9 rfl z_0 hR rfl
  · refine V_if_eq 18 2 rfl (by decide +kernel) (fun q => absurd q c2) (fun _ => ?_)
    refine V_iload_n 3 rfl rfl ?_
    obtain ⟨v6, h4, d5, e⟩ := bd2_e e
    refine V_callS (N := M_X7_isWind) (av := [iv x1]) (st := []) (r := some (iv v6)) (h' := h4) 4 rfl (c_X7_isWind d5) g_X7_isWind gs_X7_isWind lk_RX7_152 ⟨Nat.le_of_ble_eq_true rfl, Nat.le_of_ble_eq_true rfl⟩ rfl (Nat.le_of_ble_eq_true rfl) ⟨Nat.zero_le _, Nat.zero_le _⟩ ?_
    show V G M_X7_isRun X T 0 0 11 [some (iv x0), some (iv x1)] [iv v6] h4
    rcases if_e e with ⟨c5, e⟩ | ⟨c5, e⟩
    · refine V_if_eq 18 5 rfl (by decide +kernel) (fun _ => ?_) (fun q => absurd c5 q) 
      refine V_iconst (nI 0) 8 rfl ic_0 ?_
      cases e
      exact V_zret 9 rfl z_0 hR rfl
    · refine V_if_eq 18 5 rfl (by decide +kernel) (fun q => absurd q c5) (fun _ => ?_)
      refine V_iconst (nI 1) 6 rfl ic_1 ?_
      refine V_goto 19 7 rfl (by decide +kernel) ?_
      cases e
      exact V_zret 9 rfl z_1 hR rfl
set_option maxHeartbeats 4000000 in
theorem w_X7_burnFire_3 {G : kG} {X : kX} {T : List kT} {h0 : kH} (hR : k_R G M_X7_burnFire X T 0 0 none h0) (K3 : Int32 × Int32 × Int32 × kH → Option (kH)) (hK3 : ∀ (x2 : Int32) (x3 : Int32) (x4 : Int32) (h : kH), K3 (x2, x3, x4, h) = some h0 → V G M_X7_burnFire X T 0 0 3 [some (rv (7, 99) 0), none, some (iv x2), some (iv x3), some (iv x4)] [] h) (x2 : Int32) (x3 : Int32) (x4 : Int32) (h : kH) (e : p_X7_burnFire_3 K3 x2 x3 x4 h = some h0) : V G M_X7_burnFire X T 0 0 3 [some (rv (7, 99) 0), none, some (iv x2), some (iv x3), some (iv x4)] [] h := by
  unfold p_X7_burnFire_3 at e
  refine V_iload 2 rfl rfl ?_
  refine V_iload_n 3 rfl rfl ?_
  rcases if_e e with ⟨c4, e⟩ | ⟨c4, e⟩
  · refine V_icmp_ge 46 4 rfl (by decide +kernel) (fun _ => ?_) (fun q => absurd c4 q) 
    cases e
    exact V_vret 21 rfl hR rfl
  · refine V_icmp_ge 46 4 rfl (by decide +kernel) (fun q => absurd q c4) (fun _ => ?_)
    refine V_aload_n 5 rfl rfl ?_
    refine V_getR 71 6 rfl fr_RX7_41 ⟨Nat.le_of_ble_eq_true rfl, Or.inr rfl⟩ rfl ?_
    refine V_getR 72 7 rfl fr_RX7_94 ⟨Nat.le_of_ble_eq_true rfl, Or.inr rfl⟩ rfl ?_
    refine V_aload_n 8 rfl rfl ?_
    refine V_getR 28 9 rfl fr_RX7_27 ⟨Nat.le_of_ble_eq_true rfl, Or.inr rfl⟩ rfl ?_
    refine V_iload_n 10 rfl rfl ?_
    obtain ⟨h1, d2, e⟩ := bd_e e
    refine V_callVN (N := M_X1_burn) (av := [rv (5, 99) 28, iv x3]) (st := []) (r := none) (h' := h1) 11 rfl (c_X1_burn d2) g_X1_burn gv_X1_burn nk_RX7_264 ⟨Nat.le_of_ble_eq_true rfl, Nat.le_of_ble_eq_true rfl⟩ rfl rfl (Nat.le_of_ble_eq_true rfl) ⟨Nat.zero_le _, Nat.zero_le _⟩ ?_
    show V G M_X7_burnFire X T 0 0 24 [some (rv (7, 99) 0), none, some (iv x2), some (iv x3), some (iv x4)] [] h1
    refine V_aload_n 12 rfl rfl ?_
    refine V_getR 71 13 rfl fr_RX7_41 ⟨Nat.le_of_ble_eq_true rfl, Or.inr rfl⟩ rfl ?_
    refine V_getR 72 14 rfl fr_RX7_94 ⟨Nat.le_of_ble_eq_true rfl, Or.inr rfl⟩ rfl ?_
    refine V_aload_n 15 rfl rfl ?_
    refine V_getR 132 16 rfl fr_RX7_63 ⟨Nat.le_of_ble_eq_true rfl, Or.inr rfl⟩ rfl ?_
    refine V_iload 17 rfl rfl ?_
    obtain ⟨h3, d4, e⟩ := bd_e e
    refine V_callVN (N := M_X1_tell) (av := [rv (0, 99) 132, iv x4]) (st := []) (r := none) (h' := h3) 18 rfl (c_X1_tell d4) g_X1_tell gv_X1_tell nk_RX7_268 ⟨Nat.le_of_ble_eq_true rfl, Nat.le_of_ble_eq_true rfl⟩ rfl rfl (Nat.le_of_ble_eq_true rfl) ⟨Nat.zero_le _, Nat.zero_le _⟩ ?_
    show V G M_X7_burnFire X T 0 0 40 [some (rv (7, 99) 0), none, some (iv x2), some (iv x3), some (iv x4)] [] h3
    refine V_iinc (x4 + (nI 1)) 19 rfl rfl (inc_1 _) (Nat.le_of_ble_eq_true rfl) rfl ?_
    show V G M_X7_burnFire X T 0 0 43 [some (rv (7, 99) 0), none, some (iv x2), some (iv x3), some (iv (x4 + (nI 1)))] [] h3
    refine V_goto 3 20 rfl (by decide +kernel) ?_
    refine V_msk [true, false, true, true, true] (lc' := [some (rv (7, 99) 0), none, some (iv x2), some (iv x3), some (iv (x4 + (nI 1)))]) rfl ?_
    exact hK3 x2 x3 (x4 + (nI 1)) h3 e
set_option maxHeartbeats 4000000 in
theorem c_X7_burnFire {G : kG} {T : List kT} {x1 : Int32} {x2 : Int32} {x3 : Int32} {h : kH} {h0 : kH} (e : p_X7_burnFire x1 x2 x3 h = some h0) : k_C G M_X7_burnFire T [rv (7, 99) 0, iv x1, iv x2, iv x3] h none h0 := by
  refine k_C_of 1 (by decide +kernel) rfl tb_X7_burnFire rfl (fun X hR => ?_)
  show V G M_X7_burnFire X T 0 0 0 [some (rv (7, 99) 0), some (iv x1), some (iv x2), some (iv x3), none] [] h
  unfold p_X7_burnFire at e
  refine V_iload_n 0 rfl rfl ?_
  refine V_istore 1 rfl (Nat.le_of_ble_eq_true rfl) rfl ?_
  show V G M_X7_burnFire X T 0 0 3 [some (rv (7, 99) 0), some (iv x1), some (iv x2), some (iv x3), some (iv x1)] [] h
  refine V_msk [true, false, true, true, true] (lc' := [some (rv (7, 99) 0), none, some (iv x2), some (iv x3), some (iv x1)]) rfl ?_
  exact fx_e (P := fun s => V G M_X7_burnFire X T 0 0 3 [some (rv (7, 99) 0), none, some (iv s.1), some (iv s.2.1), some (iv s.2.2.1)] [] s.2.2.2) (fun K3 hK3 s e => w_X7_burnFire_3 hR K3 (fun x2 x3 x4 h e => hK3 (x2, x3, x4, h) e) s.1 s.2.1 s.2.2.1 s.2.2.2 e) FU (x2, x3, x1, h) e
set_option maxHeartbeats 4000000 in
theorem c_X7_burnAfresh {G : kG} {T : List kT} {x1 : Int32} {x2 : Int32} {h : kH} {h0 : kH} (e : p_X7_burnAfresh x1 x2 h = some h0) : k_C G M_X7_burnAfresh T [rv (7, 99) 0, iv x1, iv x2] h none h0 := by
  refine k_C_of 0 (by decide +kernel) rfl tb_X7_burnAfresh rfl (fun X hR => ?_)
  show V G M_X7_burnAfresh X T 0 0 0 [some (rv (7, 99) 0), some (iv x1), some (iv x2)] [] h
  unfold p_X7_burnAfresh at e
  refine V_aload_n 0 rfl rfl ?_
  refine V_getR 71 1 rfl fr_RX7_41 ⟨Nat.le_of_ble_eq_true rfl, Or.inr rfl⟩ rfl ?_
  refine V_getR 72 2 rfl fr_RX7_94 ⟨Nat.le_of_ble_eq_true rfl, Or.inr rfl⟩ rfl ?_
  refine V_aload_n 3 rfl rfl ?_
  refine V_getR 31 4 rfl fr_RX7_34 ⟨Nat.le_of_ble_eq_true rfl, Or.inr rfl⟩ rfl ?_
  refine V_getR 32 5 rfl fr_RX7_94 ⟨Nat.le_of_ble_eq_true rfl, Or.inr rfl⟩ rfl ?_
  obtain ⟨h1, d2, e⟩ := bd_e e
  refine V_callVN (N := M_X1_copyFrom) (av := [rv (1, 99) 32]) (st := []) (r := none) (h' := h1) 6 rfl (c_X1_copyFrom d2) g_X1_copyFrom gv_X1_copyFrom nk_RX7_272 ⟨Nat.le_of_ble_eq_true rfl, Nat.le_of_ble_eq_true rfl⟩ rfl rfl (Nat.le_of_ble_eq_true rfl) ⟨Nat.zero_le _, Nat.zero_le _⟩ ?_
  show V G M_X7_burnAfresh X T 0 0 17 [some (rv (7, 99) 0), some (iv x1), some (iv x2)] [] h1
  refine V_aload_n 7 rfl rfl ?_
  refine V_iconst (nI 0) 8 rfl ic_0 ?_
  refine V_iload_n 9 rfl rfl ?_
  refine V_iload_n 10 rfl rfl ?_
  obtain ⟨h3, d4, e⟩ := bd_e e
  refine V_callV (N := M_X7_burnFire) (av := [iv (nI 0), iv x1, iv x2]) (st := []) (r := none) (h' := h3) 11 rfl (c_X7_burnFire d4) g_X7_burnFire gv_X7_burnFire lk_RX7_275 ⟨Nat.le_of_ble_eq_true rfl, Nat.le_of_ble_eq_true rfl⟩ rfl rfl (Nat.le_of_ble_eq_true rfl) ⟨Nat.zero_le _, Nat.zero_le _⟩ ?_
  show V G M_X7_burnAfresh X T 0 0 24 [some (rv (7, 99) 0), some (iv x1), some (iv x2)] [] h3
  cases e
  exact V_vret 12 rfl hR rfl
set_option maxHeartbeats 4000000 in
theorem w_X7_passPots_2 {G : kG} {X : kX} {T : List kT} {h0 : kH} (hR : k_R G M_X7_passPots X T 0 0 none h0) (K2 : Int32 × Int32 × kH → Option (kH)) (hK2 : ∀ (x2 : Int32) (x3 : Int32) (h : kH), K2 (x2, x3, h) = some h0 → V G M_X7_passPots X T 0 0 2 [some (rv (7, 99) 0), none, some (iv x2), some (iv x3)] [] h) (x2 : Int32) (x3 : Int32) (h : kH) (e : p_X7_passPots_2 K2 x2 x3 h = some h0) : V G M_X7_passPots X T 0 0 2 [some (rv (7, 99) 0), none, some (iv x2), some (iv x3)] [] h := by
  unfold p_X7_passPots_2 at e
  refine V_iload_n 2 rfl rfl ?_
  refine V_iload_n 3 rfl rfl ?_
  rcases if_e e with ⟨c4, e⟩ | ⟨c4, e⟩
  · refine V_icmp_ge 33 4 rfl (by decide +kernel) (fun _ => ?_) (fun q => absurd c4 q) 
    cases e
    exact V_vret 17 rfl hR rfl
  · refine V_icmp_ge 33 4 rfl (by decide +kernel) (fun q => absurd q c4) (fun _ => ?_)
    refine V_aload_n 5 rfl rfl ?_
    refine V_getR 71 6 rfl fr_RX7_41 ⟨Nat.le_of_ble_eq_true rfl, Or.inr rfl⟩ rfl ?_
    refine V_getR 79 7 rfl fr_RX7_120 ⟨Nat.le_of_ble_eq_true rfl, Or.inr rfl⟩ rfl ?_
    refine V_aload_n 8 rfl rfl ?_
    refine V_getR 28 9 rfl fr_RX7_27 ⟨Nat.le_of_ble_eq_true rfl, Or.inr rfl⟩ rfl ?_
    refine V_aload_n 10 rfl rfl ?_
    refine V_getR 132 11 rfl fr_RX7_63 ⟨Nat.le_of_ble_eq_true rfl, Or.inr rfl⟩ rfl ?_
    refine V_iload_n 12 rfl rfl ?_
    obtain ⟨v3, h1, d2, e⟩ := bd2_e e
    refine V_callVN (N := M_X4_feel) (av := [rv (5, 99) 28, rv (0, 99) 132, iv x3]) (st := []) (r := some (iv v3)) (h' := h1) 13 rfl (c_X4_feel d2) g_X4_feel gv_X4_feel nk_RX7_278 ⟨Nat.le_of_ble_eq_true rfl, Nat.le_of_ble_eq_true rfl⟩ rfl rfl (Nat.le_of_ble_eq_true rfl) ⟨Nat.zero_le _, Nat.zero_le _⟩ ?_
    show V G M_X7_passPots X T 0 0 26 [some (rv (7, 99) 0), none, some (iv x2), some (iv x3)] [iv v3] h1
    refine V_pop 14 rfl nj_i ?_
    refine V_iinc (x3 + (nI 1)) 15 rfl rfl (inc_1 _) (Nat.le_of_ble_eq_true rfl) rfl ?_
    show V G M_X7_passPots X T 0 0 30 [some (rv (7, 99) 0), none, some (iv x2), some (iv (x3 + (nI 1)))] [] h1
    refine V_goto 2 16 rfl (by decide +kernel) ?_
    refine V_msk [true, false, true, true] (lc' := [some (rv (7, 99) 0), none, some (iv x2), some (iv (x3 + (nI 1)))]) rfl ?_
    exact hK2 x2 (x3 + (nI 1)) h1 e
set_option maxHeartbeats 4000000 in
theorem c_X7_passPots {G : kG} {T : List kT} {x1 : Int32} {x2 : Int32} {h : kH} {h0 : kH} (e : p_X7_passPots x1 x2 h = some h0) : k_C G M_X7_passPots T [rv (7, 99) 0, iv x1, iv x2] h none h0 := by
  refine k_C_of 1 (by decide +kernel) rfl tb_X7_passPots rfl (fun X hR => ?_)
  show V G M_X7_passPots X T 0 0 0 [some (rv (7, 99) 0), some (iv x1), some (iv x2), none] [] h
  unfold p_X7_passPots at e
  refine V_iload_n 0 rfl rfl ?_
  refine V_istore_n 1 rfl (Nat.le_of_ble_eq_true rfl) rfl ?_
  show V G M_X7_passPots X T 0 0 2 [some (rv (7, 99) 0), some (iv x1), some (iv x2), some (iv x1)] [] h
  refine V_msk [true, false, true, true] (lc' := [some (rv (7, 99) 0), none, some (iv x2), some (iv x1)]) rfl ?_
  exact fx_e (P := fun s => V G M_X7_passPots X T 0 0 2 [some (rv (7, 99) 0), none, some (iv s.1), some (iv s.2.1)] [] s.2.2) (fun K2 hK2 s e => w_X7_passPots_2 hR K2 (fun x2 x3 h e => hK2 (x2, x3, h) e) s.1 s.2.1 s.2.2 e) FU (x2, x1, h) e
set_option maxHeartbeats 4000000 in
theorem c_X7_tryRun {G : kG} {T : List kT} {x1 : Int32} {x2 : Int32} {h : kH} {h0 : kH} (e : p_X7_tryRun x1 x2 h = some h0) : k_C G M_X7_tryRun T [rv (7, 99) 0, iv x1, iv x2] h none h0 := by
  refine k_C_of 0 (by decide +kernel) rfl tb_X7_tryRun rfl (fun X hR => ?_)
  show V G M_X7_tryRun X T 0 0 0 [some (rv (7, 99) 0), some (iv x1), some (iv x2)] [] h
  unfold p_X7_tryRun at e
  refine V_aload_n 0 rfl rfl ?_
  refine V_iload_n 1 rfl rfl ?_
  refine V_iload_n 2 rfl rfl ?_
  obtain ⟨h1, d2, e⟩ := bd_e e
  refine V_callV (N := M_X7_burnAfresh) (av := [iv x1, iv x2]) (st := []) (r := none) (h' := h1) 3 rfl (c_X7_burnAfresh d2) g_X7_burnAfresh gv_X7_burnAfresh lk_RX7_191 ⟨Nat.le_of_ble_eq_true rfl, Nat.le_of_ble_eq_true rfl⟩ rfl rfl (Nat.le_of_ble_eq_true rfl) ⟨Nat.zero_le _, Nat.zero_le _⟩ ?_
  show V G M_X7_tryRun X T 0 0 6 [some (rv (7, 99) 0), some (iv x1), some (iv x2)] [] h1
  refine V_aload_n 4 rfl rfl ?_
  refine V_getR 71 5 rfl fr_RX7_41 ⟨Nat.le_of_ble_eq_true rfl, Or.inr rfl⟩ rfl ?_
  refine V_getR 79 6 rfl fr_RX7_120 ⟨Nat.le_of_ble_eq_true rfl, Or.inr rfl⟩ rfl ?_
  refine V_aload_n 7 rfl rfl ?_
  refine V_getR 31 8 rfl fr_RX7_34 ⟨Nat.le_of_ble_eq_true rfl, Or.inr rfl⟩ rfl ?_
  refine V_getR 39 9 rfl fr_RX7_120 ⟨Nat.le_of_ble_eq_true rfl, Or.inr rfl⟩ rfl ?_
  obtain ⟨h3, d4, e⟩ := bd_e e
  refine V_callVN (N := M_X4_copyFrom) (av := [rv (4, 99) 39]) (st := []) (r := none) (h' := h3) 10 rfl (c_X4_copyFrom d4) g_X4_copyFrom gv_X4_copyFrom nk_RX7_194 ⟨Nat.le_of_ble_eq_true rfl, Nat.le_of_ble_eq_true rfl⟩ rfl rfl (Nat.le_of_ble_eq_true rfl) ⟨Nat.zero_le _, Nat.zero_le _⟩ ?_
  show V G M_X7_tryRun X T 0 0 23 [some (rv (7, 99) 0), some (iv x1), some (iv x2)] [] h3
  refine V_aload_n 11 rfl rfl ?_
  refine V_iconst (nI 0) 12 rfl ic_0 ?_
  refine V_iload_n 13 rfl rfl ?_
  obtain ⟨h5, d6, e⟩ := bd_e e
  refine V_callV (N := M_X7_passPots) (av := [iv (nI 0), iv x1]) (st := []) (r := none) (h' := h5) 14 rfl (c_X7_passPots d6) g_X7_passPots gv_X7_passPots lk_RX7_204 ⟨Nat.le_of_ble_eq_true rfl, Nat.le_of_ble_eq_true rfl⟩ rfl rfl (Nat.le_of_ble_eq_true rfl) ⟨Nat.zero_le _, Nat.zero_le _⟩ ?_
  show V G M_X7_tryRun X T 0 0 29 [some (rv (7, 99) 0), some (iv x1), some (iv x2)] [] h5
  cases e
  exact V_vret 15 rfl hR rfl
set_option maxHeartbeats 4000000 in
theorem c_X7_run {G : kG} {T : List kT} {x1 : Int32} {x2 : Int32} {x3 : Int32} {h : kH} {r0 : Int32} {h0 : kH} (e : p_X7_run x1 x2 x3 h = some (r0, h0)) : k_C G M_X7_run T [rv (7, 99) 0, iv x1, iv x2, iv x3] h (some (iv r0)) h0 := by
  refine k_C_of 0 (by decide +kernel) rfl tb_X7_run rfl (fun X hR => ?_)
  show V G M_X7_run X T 0 0 0 [some (rv (7, 99) 0), some (iv x1), some (iv x2), some (iv x3)] [] h
  unfold p_X7_run at e
  refine V_iload_n 0 rfl rfl ?_
  refine V_iload_n 1 rfl rfl ?_
  obtain ⟨v3, h1, d2, e⟩ := bd2_e e
  refine V_callS (N := M_X7_isRun) (av := [iv x1, iv x2]) (st := []) (r := some (iv v3)) (h' := h1) 2 rfl (c_X7_isRun d2) g_X7_isRun gs_X7_isRun lk_RX7_172 ⟨Nat.le_of_ble_eq_true rfl, Nat.le_of_ble_eq_true rfl⟩ rfl (Nat.le_of_ble_eq_true rfl) ⟨Nat.zero_le _, Nat.zero_le _⟩ ?_
  show V G M_X7_run X T 0 0 5 [some (rv (7, 99) 0), some (iv x1), some (iv x2), some (iv x3)] [iv v3] h1
  rcases if_e e with ⟨c3, e⟩ | ⟨c3, e⟩
  · refine V_if_eq 17 3 rfl (by decide +kernel) (fun _ => ?_) (fun q => absurd c3 q) 
    refine V_iconst (-1 : Int32) 9 rfl ic_m1 ?_
    cases e
    exact V_iret 10 rfl hR rfl
  · refine V_if_eq 17 3 rfl (by decide +kernel) (fun q => absurd q c3) (fun _ => ?_)
    refine V_iload_n 4 rfl rfl ?_
    rcases if_e e with ⟨c5, e⟩ | ⟨c5, e⟩
    · refine V_if_lt 17 5 rfl (by decide +kernel) (fun _ => ?_) (fun q => absurd c5 q) 
      refine V_iconst (-1 : Int32) 9 rfl ic_m1 ?_
      cases e
      exact V_iret 10 rfl hR rfl
    · refine V_if_lt 17 5 rfl (by decide +kernel) (fun q => absurd q c5) (fun _ => ?_)
      refine V_iload_n 6 rfl rfl ?_
      refine V_iconst (nI 1) 7 rfl ic_1 ?_
      rcases if_e e with ⟨c8, e⟩ | ⟨c8, e⟩
      · refine V_icmp_le 19 8 rfl (by decide +kernel) (fun _ => ?_) (fun q => absurd c8 q) 
        refine V_aload_n 11 rfl rfl ?_
        refine V_iload_n 12 rfl rfl ?_
        refine V_iload_n 13 rfl rfl ?_
        obtain ⟨h4, d5, e⟩ := bd_e e
        refine V_callV (N := M_X7_tryRun) (av := [iv x1, iv x2]) (st := []) (r := none) (h' := h4) 14 rfl (c_X7_tryRun d5) g_X7_tryRun gv_X7_tryRun lk_RX7_176 ⟨Nat.le_of_ble_eq_true rfl, Nat.le_of_ble_eq_true rfl⟩ rfl rfl (Nat.le_of_ble_eq_true rfl) ⟨Nat.zero_le _, Nat.zero_le _⟩ ?_
        show V G M_X7_run X T 0 0 25 [some (rv (7, 99) 0), some (iv x1), some (iv x2), some (iv x3)] [] h4
        refine V_iload_n 15 rfl rfl ?_
        rcases if_e e with ⟨c16, e⟩ | ⟨c16, e⟩
        · refine V_if_ne 46 16 rfl (by decide +kernel) (fun q => absurd c16 q) (fun _ => ?_)
          refine V_aload_n 17 rfl rfl ?_
          refine V_getR 71 18 rfl fr_RX7_41 ⟨Nat.le_of_ble_eq_true rfl, Or.inr rfl⟩ rfl ?_
          refine V_getR 79 19 rfl fr_RX7_120 ⟨Nat.le_of_ble_eq_true rfl, Or.inr rfl⟩ rfl ?_
          refine V_aload_n 20 rfl rfl ?_
          refine V_getR 28 21 rfl fr_RX7_27 ⟨Nat.le_of_ble_eq_true rfl, Or.inr rfl⟩ rfl ?_
          obtain ⟨v11, h9, d10, e⟩ := bd2_e e
          refine V_callVN (N := M_X4_countGood) (av := [rv (5, 99) 28]) (st := []) (r := some (iv v11)) (h' := h9) 22 rfl (c_X4_countGood d10) g_X4_countGood gv_X4_countGood nk_RX7_180 ⟨Nat.le_of_ble_eq_true rfl, Nat.le_of_ble_eq_true rfl⟩ rfl rfl (Nat.le_of_ble_eq_true rfl) ⟨Nat.zero_le _, Nat.zero_le _⟩ ?_
          show V G M_X7_run X T 0 0 43 [some (rv (7, 99) 0), some (iv x1), some (iv x2), some (iv x3)] [iv v11] h9
          refine V_goto 56 23 rfl (by decide +kernel) ?_
          cases e
          exact V_iret 28 rfl hR rfl
        · refine V_if_ne 46 16 rfl (by decide +kernel) (fun _ => ?_) (fun q => absurd q c16) 
          refine V_aload_n 24 rfl rfl ?_
          refine V_getR 71 25 rfl fr_RX7_41 ⟨Nat.le_of_ble_eq_true rfl, Or.inr rfl⟩ rfl ?_
          refine V_getR 79 26 rfl fr_RX7_120 ⟨Nat.le_of_ble_eq_true rfl, Or.inr rfl⟩ rfl ?_
          obtain ⟨v8, h6, d7, e⟩ := bd2_e e
          refine V_callVN (N := M_X4_countLost) (av := []) (st := []) (r := some (iv v8)) (h' := h6) 27 rfl (c_X4_countLost d7) g_X4_countLost gv_X4_countLost nk_RX7_184 ⟨Nat.le_of_ble_eq_true rfl, Nat.le_of_ble_eq_true rfl⟩ rfl rfl (Nat.le_of_ble_eq_true rfl) ⟨Nat.zero_le _, Nat.zero_le _⟩ ?_
          show V G M_X7_run X T 0 0 56 [some (rv (7, 99) 0), some (iv x1), some (iv x2), some (iv x3)] [iv v8] h6
          cases e
          exact V_iret 28 rfl hR rfl
      · refine V_icmp_le 19 8 rfl (by decide +kernel) (fun q => absurd q c8) (fun _ => ?_)
        refine V_iconst (-1 : Int32) 9 rfl ic_m1 ?_
        cases e
        exact V_iret 10 rfl hR rfl
set_option maxHeartbeats 4000000 in
theorem w_X7_greatestHeat_16 {G : kG} {X : kX} {T : List kT} {r0 : Int32} {h0 : kH} (hR : k_R G M_X7_greatestHeat X T 0 0 (some (iv r0)) h0) (K16 : Int32 × Int32 × Int32 × Int32 × kH → Option (Int32 × kH)) (hK16 : ∀ (x1 : Int32) (x2 : Int32) (x3 : Int32) (x4 : Int32) (h : kH), K16 (x1, x2, x3, x4, h) = some (r0, h0) → V G M_X7_greatestHeat X T 0 0 16 [some (rv (7, 99) 0), some (iv x1), some (iv x2), some (iv x3), some (iv x4)] [] h) (x1 : Int32) (x2 : Int32) (x3 : Int32) (x4 : Int32) (h : kH) (e : p_X7_greatestHeat_16 K16 x1 x2 x3 x4 h = some (r0, h0)) : V G M_X7_greatestHeat X T 0 0 16 [some (rv (7, 99) 0), some (iv x1), some (iv x2), some (iv x3), some (iv x4)] [] h := by
  unfold p_X7_greatestHeat_16 at e
  refine V_iload 9 rfl rfl ?_
  refine V_iload_n 10 rfl rfl ?_
  rcases if_e e with ⟨c11, e⟩ | ⟨c11, e⟩
  · refine V_icmp_ge 43 11 rfl (by decide +kernel) (fun _ => ?_) (fun q => absurd c11 q) 
    refine V_iload_n 22 rfl rfl ?_
    cases e
    exact V_iret 23 rfl hR rfl
  · refine V_icmp_ge 43 11 rfl (by decide +kernel) (fun q => absurd q c11) (fun _ => ?_)
    refine V_iload_n 12 rfl rfl ?_
    refine V_aload_n 13 rfl rfl ?_
    refine V_getR 132 14 rfl fr_RX7_63 ⟨Nat.le_of_ble_eq_true rfl, Or.inr rfl⟩ rfl ?_
    refine V_iload 15 rfl rfl ?_
    refine V_iload_n 16 rfl rfl ?_
    obtain ⟨v5, h3, d4, e⟩ := bd2_e e
    refine V_callVN (N := M_X0_heatAt) (av := [iv x4, iv x1]) (st := [iv x3]) (r := some (iv v5)) (h' := h3) 17 rfl (c_X0_heatAt d4) g_X0_heatAt gv_X0_heatAt nk_RX7_282 ⟨Nat.le_of_ble_eq_true rfl, Nat.le_of_ble_eq_true rfl⟩ rfl rfl (Nat.le_of_ble_eq_true rfl) ⟨Nat.zero_le _, Nat.zero_le _⟩ ?_
    show V G M_X7_greatestHeat X T 0 0 33 [some (rv (7, 99) 0), some (iv x1), some (iv x2), some (iv x3), some (iv x4)] [iv v5, iv x3] h3
    refine V_mmax 18 rfl lm_RX7_285 mmax_1 mmax_2 mmax_3 ⟨Nat.le_of_ble_eq_true rfl, Nat.le_of_ble_eq_true rfl⟩ ⟨Nat.zero_le _, Nat.zero_le _⟩ ?_
    refine V_istore_n 19 rfl (Nat.le_of_ble_eq_true rfl) rfl ?_
    refine le_V (P := fun v6 => V G M_X7_greatestHeat X T 0 0 37 [some (rv (7, 99) 0), some (iv x1), some (iv x2), some (iv v6), some (iv x4)] [] h3) e (fun v6 e => ?_)
    refine V_iinc (x4 + (nI 1)) 20 rfl rfl (inc_1 _) (Nat.le_of_ble_eq_true rfl) rfl ?_
    show V G M_X7_greatestHeat X T 0 0 40 [some (rv (7, 99) 0), some (iv x1), some (iv x2), some (iv v6), some (iv (x4 + (nI 1)))] [] h3
    refine V_goto 16 21 rfl (by decide +kernel) ?_
    refine V_msk [true, true, true, true, true] (lc' := [some (rv (7, 99) 0), some (iv x1), some (iv x2), some (iv v6), some (iv (x4 + (nI 1)))]) rfl ?_
    exact hK16 x1 x2 v6 (x4 + (nI 1)) h3 e
set_option maxHeartbeats 4000000 in
theorem c_X7_greatestHeat {G : kG} {T : List kT} {x1 : Int32} {x2 : Int32} {h : kH} {r0 : Int32} {h0 : kH} (e : p_X7_greatestHeat x1 x2 h = some (r0, h0)) : k_C G M_X7_greatestHeat T [rv (7, 99) 0, iv x1, iv x2] h (some (iv r0)) h0 := by
  refine k_C_of 2 (by decide +kernel) rfl tb_X7_greatestHeat rfl (fun X hR => ?_)
  show V G M_X7_greatestHeat X T 0 0 0 [some (rv (7, 99) 0), some (iv x1), some (iv x2), none, none] [] h
  unfold p_X7_greatestHeat at e
  refine V_aload_n 0 rfl rfl ?_
  refine V_getR 31 1 rfl fr_RX7_34 ⟨Nat.le_of_ble_eq_true rfl, Or.inr rfl⟩ rfl ?_
  refine V_getR 32 2 rfl fr_RX7_94 ⟨Nat.le_of_ble_eq_true rfl, Or.inr rfl⟩ rfl ?_
  refine V_getR 33 3 rfl fr_RX7_98 ⟨Nat.le_of_ble_eq_true rfl, Or.inl (Nat.le_of_ble_eq_true rfl)⟩ rfl ?_
  refine V_iload_n 4 rfl rfl ?_
  obtain ⟨g1, e⟩ := gd_e e
  refine V_iald 5 rfl g1 ?_
  refine V_istore_n 6 rfl (Nat.le_of_ble_eq_true rfl) rfl ?_
  refine le_V (P := fun v2 => V G M_X7_greatestHeat X T 0 0 13 [some (rv (7, 99) 0), some (iv x1), some (iv x2), some (iv v2), none] [] h) e (fun v2 e => ?_)
  refine V_iconst (nI 0) 7 rfl ic_0 ?_
  refine V_istore 8 rfl (Nat.le_of_ble_eq_true rfl) rfl ?_
  show V G M_X7_greatestHeat X T 0 0 16 [some (rv (7, 99) 0), some (iv x1), some (iv x2), some (iv v2), some (iv (nI 0))] [] h
  refine V_msk [true, true, true, true, true] (lc' := [some (rv (7, 99) 0), some (iv x1), some (iv x2), some (iv v2), some (iv (nI 0))]) rfl ?_
  exact fx_e (P := fun s => V G M_X7_greatestHeat X T 0 0 16 [some (rv (7, 99) 0), some (iv s.1), some (iv s.2.1), some (iv s.2.2.1), some (iv s.2.2.2.1)] [] s.2.2.2.2) (fun K16 hK16 s e => w_X7_greatestHeat_16 hR K16 (fun x1 x2 x3 x4 h e => hK16 (x1, x2, x3, x4, h) e) s.1 s.2.1 s.2.2.1 s.2.2.2.1 s.2.2.2.2 e) FU (x1, x2, v2, (nI 0), h) e
set_option maxHeartbeats 4000000 in
theorem c_X7_of {G : kG} {T : List kT} {x1 : Int32} {x2 : Int32} {x3 : Int32} {x4 : Int32} {h : kH} {r0 : Int32} {h0 : kH} (e : p_X7_of x1 x2 x3 x4 h = some (r0, h0)) : k_C G M_X7_of T [rv (7, 99) 0, iv x1, iv x2, iv x3, iv x4] h (some (iv r0)) h0 := by
  refine k_C_of 0 (by decide +kernel) rfl tb_X7_of rfl (fun X hR => ?_)
  show V G M_X7_of X T 0 0 0 [some (rv (7, 99) 0), some (iv x1), some (iv x2), some (iv x3), some (iv x4)] [] h
  unfold p_X7_of at e
  refine V_iload_n 0 rfl rfl ?_
  refine V_iload_n 1 rfl rfl ?_
  obtain ⟨v3, h1, d2, e⟩ := bd2_e e
  refine V_callS (N := M_X7_isRun) (av := [iv x1, iv x2]) (st := []) (r := some (iv v3)) (h' := h1) 2 rfl (c_X7_isRun d2) g_X7_isRun gs_X7_isRun lk_RX7_172 ⟨Nat.le_of_ble_eq_true rfl, Nat.le_of_ble_eq_true rfl⟩ rfl (Nat.le_of_ble_eq_true rfl) ⟨Nat.zero_le _, Nat.zero_le _⟩ ?_
  show V G M_X7_of X T 0 0 5 [some (rv (7, 99) 0), some (iv x1), some (iv x2), some (iv x3), some (iv x4)] [iv v3] h1
  rcases if_e e with ⟨c3, e⟩ | ⟨c3, e⟩
  · refine V_if_eq 27 3 rfl (by decide +kernel) (fun _ => ?_) (fun q => absurd c3 q) 
    refine V_iconst (-1 : Int32) 13 rfl ic_m1 ?_
    cases e
    exact V_iret 14 rfl hR rfl
  · refine V_if_eq 27 3 rfl (by decide +kernel) (fun q => absurd q c3) (fun _ => ?_)
    refine V_aload_n 4 rfl rfl ?_
    refine V_iload_n 5 rfl rfl ?_
    obtain ⟨v6, h4, d5, e⟩ := bd2_e e
    refine V_callV (N := M_X7_isPot) (av := [iv x3]) (st := []) (r := some (iv v6)) (h' := h4) 6 rfl (c_X7_isPot d5) g_X7_isPot gv_X7_isPot lk_RX7_130 ⟨Nat.le_of_ble_eq_true rfl, Nat.le_of_ble_eq_true rfl⟩ rfl rfl (Nat.le_of_ble_eq_true rfl) ⟨Nat.zero_le _, Nat.zero_le _⟩ ?_
    show V G M_X7_of X T 0 0 13 [some (rv (7, 99) 0), some (iv x1), some (iv x2), some (iv x3), some (iv x4)] [iv v6] h4
    rcases if_e e with ⟨c7, e⟩ | ⟨c7, e⟩
    · refine V_if_eq 27 7 rfl (by decide +kernel) (fun _ => ?_) (fun q => absurd c7 q) 
      refine V_iconst (-1 : Int32) 13 rfl ic_m1 ?_
      cases e
      exact V_iret 14 rfl hR rfl
    · refine V_if_eq 27 7 rfl (by decide +kernel) (fun q => absurd q c7) (fun _ => ?_)
      refine V_iload 8 rfl rfl ?_
      rcases if_e e with ⟨c9, e⟩ | ⟨c9, e⟩
      · refine V_if_lt 27 9 rfl (by decide +kernel) (fun _ => ?_) (fun q => absurd c9 q) 
        refine V_iconst (-1 : Int32) 13 rfl ic_m1 ?_
        cases e
        exact V_iret 14 rfl hR rfl
      · refine V_if_lt 27 9 rfl (by decide +kernel) (fun q => absurd q c9) (fun _ => ?_)
        refine V_iload 10 rfl rfl ?_
        refine V_iconst (nI 3) 11 rfl ic_3 ?_
        rcases if_e e with ⟨c12, e⟩ | ⟨c12, e⟩
        · refine V_icmp_le 29 12 rfl (by decide +kernel) (fun _ => ?_) (fun q => absurd c12 q) 
          refine V_aload_n 15 rfl rfl ?_
          refine V_iload_n 16 rfl rfl ?_
          refine V_iload_n 17 rfl rfl ?_
          obtain ⟨h7, d8, e⟩ := bd_e e
          refine V_callV (N := M_X7_tryRun) (av := [iv x1, iv x2]) (st := []) (r := none) (h' := h7) 18 rfl (c_X7_tryRun d8) g_X7_tryRun gv_X7_tryRun lk_RX7_176 ⟨Nat.le_of_ble_eq_true rfl, Nat.le_of_ble_eq_true rfl⟩ rfl rfl (Nat.le_of_ble_eq_true rfl) ⟨Nat.zero_le _, Nat.zero_le _⟩ ?_
          show V G M_X7_of X T 0 0 35 [some (rv (7, 99) 0), some (iv x1), some (iv x2), some (iv x3), some (iv x4)] [] h7
          refine V_iload 19 rfl rfl ?_
          rcases if_e e with ⟨c12, e⟩ | ⟨c12, e⟩
          · refine V_tab 64 20 rfl rfl (off := 27) (by rw [c12]; decide +kernel) (by decide +kernel) ?_
            refine V_aload_n 21 rfl rfl ?_
            refine V_getR 71 22 rfl fr_RX7_41 ⟨Nat.le_of_ble_eq_true rfl, Or.inr rfl⟩ rfl ?_
            refine V_getR 79 23 rfl fr_RX7_120 ⟨Nat.le_of_ble_eq_true rfl, Or.inr rfl⟩ rfl ?_
            refine V_iload_n 24 rfl rfl ?_
            refine V_aload_n 25 rfl rfl ?_
            refine V_getR 28 26 rfl fr_RX7_27 ⟨Nat.le_of_ble_eq_true rfl, Or.inr rfl⟩ rfl ?_
            obtain ⟨v11, h9, d10, e⟩ := bd2_e e
            refine V_callVN (N := M_X4_lossOf) (av := [iv x3, rv (5, 99) 28]) (st := []) (r := some (iv v11)) (h' := h9) 27 rfl (c_X4_lossOf d10) g_X4_lossOf gv_X4_lossOf nk_RX7_145 ⟨Nat.le_of_ble_eq_true rfl, Nat.le_of_ble_eq_true rfl⟩ rfl rfl (Nat.le_of_ble_eq_true rfl) ⟨Nat.zero_le _, Nat.zero_le _⟩ ?_
            show V G M_X7_of X T 0 0 79 [some (rv (7, 99) 0), some (iv x1), some (iv x2), some (iv x3), some (iv x4)] [iv v11] h9
            cases e
            exact V_iret 28 rfl hR rfl
          rcases if_e e with ⟨c17, e⟩ | ⟨c17, e⟩
          · refine V_tab 80 20 rfl rfl (off := 43) (by rw [c17]; decide +kernel) (by decide +kernel) ?_
            refine V_aload_n 29 rfl rfl ?_
            refine V_aload_n 30 rfl rfl ?_
            refine V_getR 31 31 rfl fr_RX7_34 ⟨Nat.le_of_ble_eq_true rfl, Or.inr rfl⟩ rfl ?_
            refine V_getR 39 32 rfl fr_RX7_120 ⟨Nat.le_of_ble_eq_true rfl, Or.inr rfl⟩ rfl ?_
            refine V_getR 40 33 rfl fr_RX7_133 ⟨Nat.le_of_ble_eq_true rfl, Or.inl (Nat.le_of_ble_eq_true rfl)⟩ rfl ?_
            refine V_iload_n 34 rfl rfl ?_
            obtain ⟨g13, e⟩ := gd_e e
            refine V_iald 35 rfl g13 ?_
            refine V_iload_n 36 rfl rfl ?_
            obtain ⟨v16, h14, d15, e⟩ := bd2_e e
            refine V_callV (N := M_X7_greatestHeat) (av := [iv (h7 40 (x3).toNatClampNeg), iv x1]) (st := []) (r := some (iv v16)) (h' := h14) 37 rfl (c_X7_greatestHeat d15) g_X7_greatestHeat gv_X7_greatestHeat lk_RX7_187 ⟨Nat.le_of_ble_eq_true rfl, Nat.le_of_ble_eq_true rfl⟩ rfl rfl (Nat.le_of_ble_eq_true rfl) ⟨Nat.zero_le _, Nat.zero_le _⟩ ?_
            show V G M_X7_of X T 0 0 97 [some (rv (7, 99) 0), some (iv x1), some (iv x2), some (iv x3), some (iv x4)] [iv v16] h14
            cases e
            exact V_iret 38 rfl hR rfl
          rcases if_e e with ⟨c19, e⟩ | ⟨c19, e⟩
          · refine V_tab 98 20 rfl rfl (off := 61) (by rw [c19]; decide +kernel) (by decide +kernel) ?_
            refine V_aload_n 39 rfl rfl ?_
            refine V_getR 71 40 rfl fr_RX7_41 ⟨Nat.le_of_ble_eq_true rfl, Or.inr rfl⟩ rfl ?_
            refine V_getR 79 41 rfl fr_RX7_120 ⟨Nat.le_of_ble_eq_true rfl, Or.inr rfl⟩ rfl ?_
            refine V_getR 88 42 rfl fr_RX7_149 ⟨Nat.le_of_ble_eq_true rfl, Or.inl (Nat.le_of_ble_eq_true rfl)⟩ rfl ?_
            refine V_iload_n 43 rfl rfl ?_
            obtain ⟨g18, e⟩ := gd_e e
            refine V_iald 44 rfl g18 ?_
            cases e
            exact V_iret 45 rfl hR rfl
          refine V_tab 111 20 rfl rfl (tsel_d [0, 1, 2] (List.forall_mem_cons.mpr ⟨c12, List.forall_mem_cons.mpr ⟨c17, List.forall_mem_cons.mpr ⟨c19, fun k hk => by cases hk⟩⟩⟩) (by decide +kernel)) (by decide +kernel) ?_
          refine V_aload_n 46 rfl rfl ?_
          refine V_getR 71 47 rfl fr_RX7_41 ⟨Nat.le_of_ble_eq_true rfl, Or.inr rfl⟩ rfl ?_
          refine V_getR 79 48 rfl fr_RX7_120 ⟨Nat.le_of_ble_eq_true rfl, Or.inr rfl⟩ rfl ?_
          refine V_getR 86 49 rfl fr_RX7_142 ⟨Nat.le_of_ble_eq_true rfl, Or.inl (Nat.le_of_ble_eq_true rfl)⟩ rfl ?_
          refine V_iload_n 50 rfl rfl ?_
          obtain ⟨g20, e⟩ := gd_e e
          refine V_iald 51 rfl g20 ?_
          cases e
          exact V_iret 52 rfl hR rfl
        · refine V_icmp_le 29 12 rfl (by decide +kernel) (fun q => absurd q c12) (fun _ => ?_)
          refine V_iconst (-1 : Int32) 13 rfl ic_m1 ?_
          cases e
          exact V_iret 14 rfl hR rfl
set_option maxHeartbeats 4000000 in
theorem w_X7_anyBursts_2 {G : kG} {X : kX} {T : List kT} {r0 : Int32} {h0 : kH} (hR : k_R G M_X7_anyBursts X T 0 0 (some (iv r0)) h0) (K2 : Int32 × Int32 × kH → Option (Int32 × kH)) (hK2 : ∀ (x1 : Int32) (x2 : Int32) (h : kH), K2 (x1, x2, h) = some (r0, h0) → V G M_X7_anyBursts X T 0 0 2 [some (rv (7, 99) 0), some (iv x1), some (iv x2)] [] h) (x1 : Int32) (x2 : Int32) (h : kH) (e : p_X7_anyBursts_2 K2 x1 x2 h = some (r0, h0)) : V G M_X7_anyBursts X T 0 0 2 [some (rv (7, 99) 0), some (iv x1), some (iv x2)] [] h := by
  unfold p_X7_anyBursts_2 at e
  refine V_iload_n 2 rfl rfl ?_
  refine V_iload_n 3 rfl rfl ?_
  rcases if_e e with ⟨c4, e⟩ | ⟨c4, e⟩
  · refine V_icmp_ge 37 4 rfl (by decide +kernel) (fun _ => ?_) (fun q => absurd c4 q) 
    refine V_iconst (nI 0) 19 rfl ic_0 ?_
    cases e
    exact V_zret 20 rfl z_0 hR rfl
  · refine V_icmp_ge 37 4 rfl (by decide +kernel) (fun q => absurd q c4) (fun _ => ?_)
    refine V_aload_n 5 rfl rfl ?_
    refine V_getR 71 6 rfl fr_RX7_41 ⟨Nat.le_of_ble_eq_true rfl, Or.inr rfl⟩ rfl ?_
    refine V_getR 79 7 rfl fr_RX7_120 ⟨Nat.le_of_ble_eq_true rfl, Or.inr rfl⟩ rfl ?_
    refine V_aload_n 8 rfl rfl ?_
    refine V_getR 28 9 rfl fr_RX7_27 ⟨Nat.le_of_ble_eq_true rfl, Or.inr rfl⟩ rfl ?_
    refine V_aload_n 10 rfl rfl ?_
    refine V_getR 132 11 rfl fr_RX7_63 ⟨Nat.le_of_ble_eq_true rfl, Or.inr rfl⟩ rfl ?_
    refine V_iload_n 12 rfl rfl ?_
    obtain ⟨v3, h1, d2, e⟩ := bd2_e e
    refine V_callVN (N := M_X4_feel) (av := [rv (5, 99) 28, rv (0, 99) 132, iv x2]) (st := []) (r := some (iv v3)) (h' := h1) 13 rfl (c_X4_feel d2) g_X4_feel gv_X4_feel nk_RX7_278 ⟨Nat.le_of_ble_eq_true rfl, Nat.le_of_ble_eq_true rfl⟩ rfl rfl (Nat.le_of_ble_eq_true rfl) ⟨Nat.zero_le _, Nat.zero_le _⟩ ?_
    show V G M_X7_anyBursts X T 0 0 26 [some (rv (7, 99) 0), some (iv x1), some (iv x2)] [iv v3] h1
    rcases if_e e with ⟨c14, e⟩ | ⟨c14, e⟩
    · refine V_if_eq 31 14 rfl (by decide +kernel) (fun _ => ?_) (fun q => absurd c14 q) 
      refine V_iinc (x2 + (nI 1)) 17 rfl rfl (inc_1 _) (Nat.le_of_ble_eq_true rfl) rfl ?_
      show V G M_X7_anyBursts X T 0 0 34 [some (rv (7, 99) 0), some (iv x1), some (iv (x2 + (nI 1)))] [] h1
      refine V_goto 2 18 rfl (by decide +kernel) ?_
      refine V_msk [true, true, true] (lc' := [some (rv (7, 99) 0), some (iv x1), some (iv (x2 + (nI 1)))]) rfl ?_
      exact hK2 x1 (x2 + (nI 1)) h1 e
    · refine V_if_eq 31 14 rfl (by decide +kernel) (fun q => absurd q c14) (fun _ => ?_)
      refine V_iconst (nI 1) 15 rfl ic_1 ?_
      cases e
      exact V_zret 16 rfl z_1 hR rfl
set_option maxHeartbeats 4000000 in
theorem c_X7_anyBursts {G : kG} {T : List kT} {x1 : Int32} {h : kH} {r0 : Int32} {h0 : kH} (e : p_X7_anyBursts x1 h = some (r0, h0)) : k_C G M_X7_anyBursts T [rv (7, 99) 0, iv x1] h (some (iv r0)) h0 := by
  refine k_C_of 1 (by decide +kernel) rfl tb_X7_anyBursts rfl (fun X hR => ?_)
  show V G M_X7_anyBursts X T 0 0 0 [some (rv (7, 99) 0), some (iv x1), none] [] h
  unfold p_X7_anyBursts at e
  refine V_iconst (nI 0) 0 rfl ic_0 ?_
  refine V_istore_n 1 rfl (Nat.le_of_ble_eq_true rfl) rfl ?_
  show V G M_X7_anyBursts X T 0 0 2 [some (rv (7, 99) 0), some (iv x1), some (iv (nI 0))] [] h
  refine V_msk [true, true, true] (lc' := [some (rv (7, 99) 0), some (iv x1), some (iv (nI 0))]) rfl ?_
  exact fx_e (P := fun s => V G M_X7_anyBursts X T 0 0 2 [some (rv (7, 99) 0), some (iv s.1), some (iv s.2.1)] [] s.2.2) (fun K2 hK2 s e => w_X7_anyBursts_2 hR K2 (fun x1 x2 h e => hK2 (x1, x2, h) e) s.1 s.2.1 s.2.2 e) FU (x1, (nI 0), h) e
set_option maxHeartbeats 4000000 in
theorem w_X7_drying_18 {G : kG} {X : kX} {T : List kT} {r0 : Int32} {h0 : kH} (hR : k_R G M_X7_drying X T 0 0 (some (iv r0)) h0) (K18 : Int32 × Int32 × kH → Option (Int32 × kH)) (hK18 : ∀ (x1 : Int32) (x3 : Int32) (h : kH), K18 (x1, x3, h) = some (r0, h0) → V G M_X7_drying X T 0 0 18 [some (rv (7, 99) 0), some (iv x1), none, some (iv x3)] [] h) (x1 : Int32) (x3 : Int32) (h : kH) (e : p_X7_drying_18 K18 x1 x3 h = some (r0, h0)) : V G M_X7_drying X T 0 0 18 [some (rv (7, 99) 0), some (iv x1), none, some (iv x3)] [] h := by
  unfold p_X7_drying_18 at e
  refine V_iload_n 12 rfl rfl ?_
  refine V_sipush (nI 240) 13 rfl sp_240 ?_
  rcases if_e e with ⟨c14, e⟩ | ⟨c14, e⟩
  · refine V_icmp_gt 69 14 rfl (by decide +kernel) (fun _ => ?_) (fun q => absurd c14 q) 
    refine V_bipush (-4 : Int32) 35 rfl bp_m4 ?_
    cases e
    exact V_iret 36 rfl hR rfl
  · refine V_icmp_gt 69 14 rfl (by decide +kernel) (fun q => absurd q c14) (fun _ => ?_)
    refine V_aload_n 15 rfl rfl ?_
    refine V_getR 71 16 rfl fr_RX7_41 ⟨Nat.le_of_ble_eq_true rfl, Or.inr rfl⟩ rfl ?_
    refine V_getR 79 17 rfl fr_RX7_120 ⟨Nat.le_of_ble_eq_true rfl, Or.inr rfl⟩ rfl ?_
    refine V_aload_n 18 rfl rfl ?_
    refine V_getR 31 19 rfl fr_RX7_34 ⟨Nat.le_of_ble_eq_true rfl, Or.inr rfl⟩ rfl ?_
    refine V_getR 39 20 rfl fr_RX7_120 ⟨Nat.le_of_ble_eq_true rfl, Or.inr rfl⟩ rfl ?_
    obtain ⟨h6, d7, e⟩ := bd_e e
    refine V_callVN (N := M_X4_copyFrom) (av := [rv (4, 99) 39]) (st := []) (r := none) (h' := h6) 21 rfl (c_X4_copyFrom d7) g_X4_copyFrom gv_X4_copyFrom nk_RX7_194 ⟨Nat.le_of_ble_eq_true rfl, Nat.le_of_ble_eq_true rfl⟩ rfl rfl (Nat.le_of_ble_eq_true rfl) ⟨Nat.zero_le _, Nat.zero_le _⟩ ?_
    show V G M_X7_drying X T 0 0 42 [some (rv (7, 99) 0), some (iv x1), none, some (iv x3)] [] h6
    refine V_aload_n 22 rfl rfl ?_
    refine V_getR 71 23 rfl fr_RX7_41 ⟨Nat.le_of_ble_eq_true rfl, Or.inr rfl⟩ rfl ?_
    refine V_getR 79 24 rfl fr_RX7_120 ⟨Nat.le_of_ble_eq_true rfl, Or.inr rfl⟩ rfl ?_
    refine V_iload_n 25 rfl rfl ?_
    obtain ⟨h8, d9, e⟩ := bd_e e
    refine V_callVN (N := M_X4_dryFor) (av := [iv x3]) (st := []) (r := none) (h' := h8) 26 rfl (c_X4_dryFor d9) g_X4_dryFor gv_X4_dryFor nk_RX7_165 ⟨Nat.le_of_ble_eq_true rfl, Nat.le_of_ble_eq_true rfl⟩ rfl rfl (Nat.le_of_ble_eq_true rfl) ⟨Nat.zero_le _, Nat.zero_le _⟩ ?_
    show V G M_X7_drying X T 0 0 53 [some (rv (7, 99) 0), some (iv x1), none, some (iv x3)] [] h8
    refine V_aload_n 27 rfl rfl ?_
    refine V_iload_n 28 rfl rfl ?_
    obtain ⟨v12, h10, d11, e⟩ := bd2_e e
    refine V_callV (N := M_X7_anyBursts) (av := [iv x1]) (st := []) (r := some (iv v12)) (h' := h10) 29 rfl (c_X7_anyBursts d11) g_X7_anyBursts gv_X7_anyBursts lk_RX7_198 ⟨Nat.le_of_ble_eq_true rfl, Nat.le_of_ble_eq_true rfl⟩ rfl rfl (Nat.le_of_ble_eq_true rfl) ⟨Nat.zero_le _, Nat.zero_le _⟩ ?_
    show V G M_X7_drying X T 0 0 58 [some (rv (7, 99) 0), some (iv x1), none, some (iv x3)] [iv v12] h10
    rcases if_e e with ⟨c30, e⟩ | ⟨c30, e⟩
    · refine V_if_ne 63 30 rfl (by decide +kernel) (fun q => absurd c30 q) (fun _ => ?_)
      refine V_iload_n 31 rfl rfl ?_
      cases e
      exact V_iret 32 rfl hR rfl
    · refine V_if_ne 63 30 rfl (by decide +kernel) (fun _ => ?_) (fun q => absurd q c30) 
      refine V_iinc (x3 + (nI 1)) 33 rfl rfl (inc_1 _) (Nat.le_of_ble_eq_true rfl) rfl ?_
      show V G M_X7_drying X T 0 0 66 [some (rv (7, 99) 0), some (iv x1), none, some (iv (x3 + (nI 1)))] [] h10
      refine V_goto 18 34 rfl (by decide +kernel) ?_
      refine V_msk [true, true, false, true] (lc' := [some (rv (7, 99) 0), some (iv x1), none, some (iv (x3 + (nI 1)))]) rfl ?_
      exact hK18 x1 (x3 + (nI 1)) h10 e
set_option maxHeartbeats 4000000 in
theorem c_X7_drying {G : kG} {T : List kT} {x1 : Int32} {x2 : Int32} {h : kH} {r0 : Int32} {h0 : kH} (e : p_X7_drying x1 x2 h = some (r0, h0)) : k_C G M_X7_drying T [rv (7, 99) 0, iv x1, iv x2] h (some (iv r0)) h0 := by
  refine k_C_of 1 (by decide +kernel) rfl tb_X7_drying rfl (fun X hR => ?_)
  show V G M_X7_drying X T 0 0 0 [some (rv (7, 99) 0), some (iv x1), some (iv x2), none] [] h
  unfold p_X7_drying at e
  refine V_iload_n 0 rfl rfl ?_
  refine V_iload_n 1 rfl rfl ?_
  obtain ⟨v3, h1, d2, e⟩ := bd2_e e
  refine V_callS (N := M_X7_isRun) (av := [iv x1, iv x2]) (st := []) (r := some (iv v3)) (h' := h1) 2 rfl (c_X7_isRun d2) g_X7_isRun gs_X7_isRun lk_RX7_172 ⟨Nat.le_of_ble_eq_true rfl, Nat.le_of_ble_eq_true rfl⟩ rfl (Nat.le_of_ble_eq_true rfl) ⟨Nat.zero_le _, Nat.zero_le _⟩ ?_
  show V G M_X7_drying X T 0 0 5 [some (rv (7, 99) 0), some (iv x1), some (iv x2), none] [iv v3] h1
  rcases if_e e with ⟨c3, e⟩ | ⟨c3, e⟩
  · refine V_if_ne 10 3 rfl (by decide +kernel) (fun q => absurd c3 q) (fun _ => ?_)
    refine V_iconst (-1 : Int32) 4 rfl ic_m1 ?_
    cases e
    exact V_iret 5 rfl hR rfl
  · refine V_if_ne 10 3 rfl (by decide +kernel) (fun _ => ?_) (fun q => absurd q c3) 
    refine V_aload_n 6 rfl rfl ?_
    refine V_iload_n 7 rfl rfl ?_
    refine V_iload_n 8 rfl rfl ?_
    obtain ⟨h4, d5, e⟩ := bd_e e
    refine V_callV (N := M_X7_burnAfresh) (av := [iv x1, iv x2]) (st := []) (r := none) (h' := h4) 9 rfl (c_X7_burnAfresh d5) g_X7_burnAfresh gv_X7_burnAfresh lk_RX7_191 ⟨Nat.le_of_ble_eq_true rfl, Nat.le_of_ble_eq_true rfl⟩ rfl rfl (Nat.le_of_ble_eq_true rfl) ⟨Nat.zero_le _, Nat.zero_le _⟩ ?_
    show V G M_X7_drying X T 0 0 16 [some (rv (7, 99) 0), some (iv x1), some (iv x2), none] [] h4
    refine V_iconst (nI 0) 10 rfl ic_0 ?_
    refine V_istore_n 11 rfl (Nat.le_of_ble_eq_true rfl) rfl ?_
    show V G M_X7_drying X T 0 0 18 [some (rv (7, 99) 0), some (iv x1), some (iv x2), some (iv (nI 0))] [] h4
    refine V_msk [true, true, false, true] (lc' := [some (rv (7, 99) 0), some (iv x1), none, some (iv (nI 0))]) rfl ?_
    exact fx_e (P := fun s => V G M_X7_drying X T 0 0 18 [some (rv (7, 99) 0), some (iv s.1), none, some (iv s.2.1)] [] s.2.2) (fun K18 hK18 s e => w_X7_drying_18 hR K18 (fun x1 x3 h e => hK18 (x1, x3, h) e) s.1 s.2.1 s.2.2 e) FU (x1, (nI 0), h4) e
set_option maxHeartbeats 4000000 in
theorem w_X7_grit_34 {G : kG} {X : kX} {T : List kT} {r0 : Int32} {h0 : kH} (hR : k_R G M_X7_grit X T 0 0 (some (iv r0)) h0) (K34 : Int32 × Int32 × Int32 × Int32 × Int32 × kH → Option (Int32 × kH)) (hK34 : ∀ (x1 : Int32) (x2 : Int32) (x4 : Int32) (x5 : Int32) (x6 : Int32) (h : kH), K34 (x1, x2, x4, x5, x6, h) = some (r0, h0) → V G M_X7_grit X T 0 0 34 [some (rv (7, 99) 0), some (iv x1), some (iv x2), none, some (iv x4), some (iv x5), some (iv x6)] [] h) (x1 : Int32) (x2 : Int32) (x4 : Int32) (x5 : Int32) (x6 : Int32) (h : kH) (e : p_X7_grit_34 K34 x1 x2 x4 x5 x6 h = some (r0, h0)) : V G M_X7_grit X T 0 0 34 [some (rv (7, 99) 0), some (iv x1), some (iv x2), none, some (iv x4), some (iv x5), some (iv x6)] [] h := by
  unfold p_X7_grit_34 at e
  refine V_iload 20 rfl rfl ?_
  refine V_bipush (nI 9) 21 rfl bp_9 ?_
  rcases if_e e with ⟨c22, e⟩ | ⟨c22, e⟩
  · refine V_icmp_gt 137 22 rfl (by decide +kernel) (fun _ => ?_) (fun q => absurd c22 q) 
    refine V_iload 68 rfl rfl ?_
    cases e
    exact V_iret 69 rfl hR rfl
  · refine V_icmp_gt 137 22 rfl (by decide +kernel) (fun q => absurd q c22) (fun _ => ?_)
    refine V_aload_n 23 rfl rfl ?_
    refine V_getR 71 24 rfl fr_RX7_41 ⟨Nat.le_of_ble_eq_true rfl, Or.inr rfl⟩ rfl ?_
    refine V_getR 79 25 rfl fr_RX7_120 ⟨Nat.le_of_ble_eq_true rfl, Or.inr rfl⟩ rfl ?_
    refine V_aload_n 26 rfl rfl ?_
    refine V_getR 31 27 rfl fr_RX7_34 ⟨Nat.le_of_ble_eq_true rfl, Or.inr rfl⟩ rfl ?_
    refine V_getR 39 28 rfl fr_RX7_120 ⟨Nat.le_of_ble_eq_true rfl, Or.inr rfl⟩ rfl ?_
    obtain ⟨h9, d10, e⟩ := bd_e e
    refine V_callVN (N := M_X4_copyFrom) (av := [rv (4, 99) 39]) (st := []) (r := none) (h' := h9) 29 rfl (c_X4_copyFrom d10) g_X4_copyFrom gv_X4_copyFrom nk_RX7_194 ⟨Nat.le_of_ble_eq_true rfl, Nat.le_of_ble_eq_true rfl⟩ rfl rfl (Nat.le_of_ble_eq_true rfl) ⟨Nat.zero_le _, Nat.zero_le _⟩ ?_
    show V G M_X7_grit X T 0 0 58 [some (rv (7, 99) 0), some (iv x1), some (iv x2), none, some (iv x4), some (iv x5), some (iv x6)] [] h9
    refine V_aload_n 30 rfl rfl ?_
    refine V_getR 71 31 rfl fr_RX7_41 ⟨Nat.le_of_ble_eq_true rfl, Or.inr rfl⟩ rfl ?_
    refine V_getR 79 32 rfl fr_RX7_120 ⟨Nat.le_of_ble_eq_true rfl, Or.inr rfl⟩ rfl ?_
    refine V_getR 83 33 rfl fr_RX7_201 ⟨Nat.le_of_ble_eq_true rfl, Or.inl (Nat.le_of_ble_eq_true rfl)⟩ rfl ?_
    refine V_iload_n 34 rfl rfl ?_
    refine V_iload 35 rfl rfl ?_
    obtain ⟨g11, e⟩ := gd_e e
    refine V_iast 36 rfl g11 ?_
    refine le_V (P := fun h12 => V G M_X7_grit X T 0 0 72 [some (rv (7, 99) 0), some (iv x1), some (iv x2), none, some (iv x4), some (iv x5), some (iv x6)] [] h12) e (fun h12 e => ?_)
    refine V_aload_n 37 rfl rfl ?_
    refine V_iconst (nI 0) 38 rfl ic_0 ?_
    refine V_iload_n 39 rfl rfl ?_
    obtain ⟨h13, d14, e⟩ := bd_e e
    refine V_callV (N := M_X7_passPots) (av := [iv (nI 0), iv x2]) (st := []) (r := none) (h' := h13) 40 rfl (c_X7_passPots d14) g_X7_passPots gv_X7_passPots lk_RX7_204 ⟨Nat.le_of_ble_eq_true rfl, Nat.le_of_ble_eq_true rfl⟩ rfl rfl (Nat.le_of_ble_eq_true rfl) ⟨Nat.zero_le _, Nat.zero_le _⟩ ?_
    show V G M_X7_grit X T 0 0 78 [some (rv (7, 99) 0), some (iv x1), some (iv x2), none, some (iv x4), some (iv x5), some (iv x6)] [] h13
    refine V_aload_n 41 rfl rfl ?_
    refine V_getR 71 42 rfl fr_RX7_41 ⟨Nat.le_of_ble_eq_true rfl, Or.inr rfl⟩ rfl ?_
    refine V_getR 79 43 rfl fr_RX7_120 ⟨Nat.le_of_ble_eq_true rfl, Or.inr rfl⟩ rfl ?_
    refine V_iload_n 44 rfl rfl ?_
    refine V_aload_n 45 rfl rfl ?_
    refine V_getR 28 46 rfl fr_RX7_27 ⟨Nat.le_of_ble_eq_true rfl, Or.inr rfl⟩ rfl ?_
    obtain ⟨v17, h15, d16, e⟩ := bd2_e e
    refine V_callVN (N := M_X4_lossOf) (av := [iv x1, rv (5, 99) 28]) (st := []) (r := some (iv v17)) (h' := h15) 47 rfl (c_X4_lossOf d16) g_X4_lossOf gv_X4_lossOf nk_RX7_145 ⟨Nat.le_of_ble_eq_true rfl, Nat.le_of_ble_eq_true rfl⟩ rfl rfl (Nat.le_of_ble_eq_true rfl) ⟨Nat.zero_le _, Nat.zero_le _⟩ ?_
    show V G M_X7_grit X T 0 0 93 [some (rv (7, 99) 0), some (iv x1), some (iv x2), none, some (iv x4), some (iv x5), some (iv x6)] [iv v17] h15
    rcases if_e e with ⟨c48, e⟩ | ⟨c48, e⟩
    · refine V_if_ne 131 48 rfl (by decide +kernel) (fun q => absurd c48 q) (fun _ => ?_)
      refine V_aload_n 49 rfl rfl ?_
      refine V_getR 71 50 rfl fr_RX7_41 ⟨Nat.le_of_ble_eq_true rfl, Or.inr rfl⟩ rfl ?_
      refine V_getR 79 51 rfl fr_RX7_120 ⟨Nat.le_of_ble_eq_true rfl, Or.inr rfl⟩ rfl ?_
      refine V_getR 86 52 rfl fr_RX7_142 ⟨Nat.le_of_ble_eq_true rfl, Or.inl (Nat.le_of_ble_eq_true rfl)⟩ rfl ?_
      refine V_iload_n 53 rfl rfl ?_
      refine V_iald 54 rfl g11 ?_
      refine V_iload 55 rfl rfl ?_
      rcases if_e e with ⟨c56, e⟩ | ⟨c56, e⟩
      · refine V_icmp_le 131 56 rfl (by decide +kernel) (fun _ => ?_) (fun q => absurd c56 q) 
        refine V_iinc (x6 + (nI 1)) 66 rfl rfl (inc_1 _) (Nat.le_of_ble_eq_true rfl) rfl ?_
        show V G M_X7_grit X T 0 0 134 [some (rv (7, 99) 0), some (iv x1), some (iv x2), none, some (iv x4), some (iv x5), some (iv (x6 + (nI 1)))] [] h15
        refine V_goto 34 67 rfl (by decide +kernel) ?_
        refine V_msk [true, true, true, false, true, true, true] (lc' := [some (rv (7, 99) 0), some (iv x1), some (iv x2), none, some (iv x4), some (iv x5), some (iv (x6 + (nI 1)))]) rfl ?_
        exact hK34 x1 x2 x4 x5 (x6 + (nI 1)) h15 e
      · refine V_icmp_le 131 56 rfl (by decide +kernel) (fun q => absurd q c56) (fun _ => ?_)
        refine V_iload 57 rfl rfl ?_
        refine V_istore 58 rfl (Nat.le_of_ble_eq_true rfl) rfl ?_
        show V G M_X7_grit X T 0 0 117 [some (rv (7, 99) 0), some (iv x1), some (iv x2), none, some (iv x6), some (iv x5), some (iv x6)] [] h15
        refine V_aload_n 59 rfl rfl ?_
        refine V_getR 71 60 rfl fr_RX7_41 ⟨Nat.le_of_ble_eq_true rfl, Or.inr rfl⟩ rfl ?_
        refine V_getR 79 61 rfl fr_RX7_120 ⟨Nat.le_of_ble_eq_true rfl, Or.inr rfl⟩ rfl ?_
        refine V_getR 86 62 rfl fr_RX7_142 ⟨Nat.le_of_ble_eq_true rfl, Or.inl (Nat.le_of_ble_eq_true rfl)⟩ rfl ?_
        refine V_iload_n 63 rfl rfl ?_
        refine V_iald 64 rfl g11 ?_
        refine V_istore 65 rfl (Nat.le_of_ble_eq_true rfl) rfl ?_
        refine le_V (P := fun v18 => V G M_X7_grit X T 0 0 131 [some (rv (7, 99) 0), some (iv x1), some (iv x2), none, some (iv x6), some (iv v18), some (iv x6)] [] h15) e (fun v18 e => ?_)
        refine V_iinc (x6 + (nI 1)) 66 rfl rfl (inc_1 _) (Nat.le_of_ble_eq_true rfl) rfl ?_
        show V G M_X7_grit X T 0 0 134 [some (rv (7, 99) 0), some (iv x1), some (iv x2), none, some (iv x6), some (iv v18), some (iv (x6 + (nI 1)))] [] h15
        refine V_goto 34 67 rfl (by decide +kernel) ?_
        refine V_msk [true, true, true, false, true, true, true] (lc' := [some (rv (7, 99) 0), some (iv x1), some (iv x2), none, some (iv x6), some (iv v18), some (iv (x6 + (nI 1)))]) rfl ?_
        exact hK34 x1 x2 x6 v18 (x6 + (nI 1)) h15 e
    · refine V_if_ne 131 48 rfl (by decide +kernel) (fun _ => ?_) (fun q => absurd q c48) 
      refine V_iinc (x6 + (nI 1)) 66 rfl rfl (inc_1 _) (Nat.le_of_ble_eq_true rfl) rfl ?_
      show V G M_X7_grit X T 0 0 134 [some (rv (7, 99) 0), some (iv x1), some (iv x2), none, some (iv x4), some (iv x5), some (iv (x6 + (nI 1)))] [] h15
      refine V_goto 34 67 rfl (by decide +kernel) ?_
      refine V_msk [true, true, true, false, true, true, true] (lc' := [some (rv (7, 99) 0), some (iv x1), some (iv x2), none, some (iv x4), some (iv x5), some (iv (x6 + (nI 1)))]) rfl ?_
      exact hK34 x1 x2 x4 x5 (x6 + (nI 1)) h15 e
set_option maxHeartbeats 4000000 in
theorem c_X7_grit {G : kG} {T : List kT} {x1 : Int32} {x2 : Int32} {x3 : Int32} {h : kH} {r0 : Int32} {h0 : kH} (e : p_X7_grit x1 x2 x3 h = some (r0, h0)) : k_C G M_X7_grit T [rv (7, 99) 0, iv x1, iv x2, iv x3] h (some (iv r0)) h0 := by
  refine k_C_of 3 (by decide +kernel) rfl tb_X7_grit rfl (fun X hR => ?_)
  show V G M_X7_grit X T 0 0 0 [some (rv (7, 99) 0), some (iv x1), some (iv x2), some (iv x3), none, none, none] [] h
  unfold p_X7_grit at e
  refine V_aload_n 0 rfl rfl ?_
  refine V_iload_n 1 rfl rfl ?_
  obtain ⟨v3, h1, d2, e⟩ := bd2_e e
  refine V_callV (N := M_X7_isPot) (av := [iv x1]) (st := []) (r := some (iv v3)) (h' := h1) 2 rfl (c_X7_isPot d2) g_X7_isPot gv_X7_isPot lk_RX7_130 ⟨Nat.le_of_ble_eq_true rfl, Nat.le_of_ble_eq_true rfl⟩ rfl rfl (Nat.le_of_ble_eq_true rfl) ⟨Nat.zero_le _, Nat.zero_le _⟩ ?_
  show V G M_X7_grit X T 0 0 5 [some (rv (7, 99) 0), some (iv x1), some (iv x2), some (iv x3), none, none, none] [iv v3] h1
  rcases if_e e with ⟨c3, e⟩ | ⟨c3, e⟩
  · refine V_if_eq 16 3 rfl (by decide +kernel) (fun _ => ?_) (fun q => absurd c3 q) 
    refine V_iconst (-1 : Int32) 8 rfl ic_m1 ?_
    cases e
    exact V_iret 9 rfl hR rfl
  · refine V_if_eq 16 3 rfl (by decide +kernel) (fun q => absurd q c3) (fun _ => ?_)
    refine V_iload_n 4 rfl rfl ?_
    refine V_iload_n 5 rfl rfl ?_
    obtain ⟨v6, h4, d5, e⟩ := bd2_e e
    refine V_callS (N := M_X7_isRun) (av := [iv x2, iv x3]) (st := []) (r := some (iv v6)) (h' := h4) 6 rfl (c_X7_isRun d5) g_X7_isRun gs_X7_isRun lk_RX7_172 ⟨Nat.le_of_ble_eq_true rfl, Nat.le_of_ble_eq_true rfl⟩ rfl (Nat.le_of_ble_eq_true rfl) ⟨Nat.zero_le _, Nat.zero_le _⟩ ?_
    show V G M_X7_grit X T 0 0 13 [some (rv (7, 99) 0), some (iv x1), some (iv x2), some (iv x3), none, none, none] [iv v6] h4
    rcases if_e e with ⟨c7, e⟩ | ⟨c7, e⟩
    · refine V_if_ne 18 7 rfl (by decide +kernel) (fun q => absurd c7 q) (fun _ => ?_)
      refine V_iconst (-1 : Int32) 8 rfl ic_m1 ?_
      cases e
      exact V_iret 9 rfl hR rfl
    · refine V_if_ne 18 7 rfl (by decide +kernel) (fun _ => ?_) (fun q => absurd q c7) 
      refine V_aload_n 10 rfl rfl ?_
      refine V_iload_n 11 rfl rfl ?_
      refine V_iload_n 12 rfl rfl ?_
      obtain ⟨h7, d8, e⟩ := bd_e e
      refine V_callV (N := M_X7_burnAfresh) (av := [iv x2, iv x3]) (st := []) (r := none) (h' := h7) 13 rfl (c_X7_burnAfresh d8) g_X7_burnAfresh gv_X7_burnAfresh lk_RX7_191 ⟨Nat.le_of_ble_eq_true rfl, Nat.le_of_ble_eq_true rfl⟩ rfl rfl (Nat.le_of_ble_eq_true rfl) ⟨Nat.zero_le _, Nat.zero_le _⟩ ?_
      show V G M_X7_grit X T 0 0 24 [some (rv (7, 99) 0), some (iv x1), some (iv x2), some (iv x3), none, none, none] [] h7
      refine V_bipush (-4 : Int32) 14 rfl bp_m4 ?_
      refine V_istore 15 rfl (Nat.le_of_ble_eq_true rfl) rfl ?_
      show V G M_X7_grit X T 0 0 28 [some (rv (7, 99) 0), some (iv x1), some (iv x2), some (iv x3), some (iv (-4 : Int32)), none, none] [] h7
      refine V_iconst (-1 : Int32) 16 rfl ic_m1 ?_
      refine V_istore 17 rfl (Nat.le_of_ble_eq_true rfl) rfl ?_
      show V G M_X7_grit X T 0 0 31 [some (rv (7, 99) 0), some (iv x1), some (iv x2), some (iv x3), some (iv (-4 : Int32)), some (iv (-1 : Int32)), none] [] h7
      refine V_iconst (nI 0) 18 rfl ic_0 ?_
      refine V_istore 19 rfl (Nat.le_of_ble_eq_true rfl) rfl ?_
      show V G M_X7_grit X T 0 0 34 [some (rv (7, 99) 0), some (iv x1), some (iv x2), some (iv x3), some (iv (-4 : Int32)), some (iv (-1 : Int32)), some (iv (nI 0))] [] h7
      refine V_msk [true, true, true, false, true, true, true] (lc' := [some (rv (7, 99) 0), some (iv x1), some (iv x2), none, some (iv (-4 : Int32)), some (iv (-1 : Int32)), some (iv (nI 0))]) rfl ?_
      exact fx_e (P := fun s => V G M_X7_grit X T 0 0 34 [some (rv (7, 99) 0), some (iv s.1), some (iv s.2.1), none, some (iv s.2.2.1), some (iv s.2.2.2.1), some (iv s.2.2.2.2.1)] [] s.2.2.2.2.2) (fun K34 hK34 s e => w_X7_grit_34 hR K34 (fun x1 x2 x4 x5 x6 h e => hK34 (x1, x2, x4, x5, x6, h) e) s.1 s.2.1 s.2.2.1 s.2.2.2.1 s.2.2.2.2.1 s.2.2.2.2.2 e) FU (x1, x2, (-4 : Int32), (-1 : Int32), (nI 0), h7) e
set_option maxHeartbeats 4000000 in
theorem c_X7_goOn {G : kG} {T : List kT} {x1 : Int32} {x2 : Int32} {x3 : Int32} {h : kH} {h0 : kH} (e : p_X7_goOn x1 x2 x3 h = some h0) : k_C G M_X7_goOn T [rv (7, 99) 0, iv x1, iv x2, iv x3] h none h0 := by
  refine k_C_of 0 (by decide +kernel) rfl tb_X7_goOn rfl (fun X hR => ?_)
  show V G M_X7_goOn X T 0 0 0 [some (rv (7, 99) 0), some (iv x1), some (iv x2), some (iv x3)] [] h
  unfold p_X7_goOn at e
  refine V_aload_n 0 rfl rfl ?_
  refine V_iload_n 1 rfl rfl ?_
  refine V_iload_n 2 rfl rfl ?_
  refine V_iload_n 3 rfl rfl ?_
  obtain ⟨h1, d2, e⟩ := bd_e e
  refine V_callV (N := M_X7_burnFire) (av := [iv x1, iv x2, iv x3]) (st := []) (r := none) (h' := h1) 4 rfl (c_X7_burnFire d2) g_X7_burnFire gv_X7_burnFire lk_RX7_275 ⟨Nat.le_of_ble_eq_true rfl, Nat.le_of_ble_eq_true rfl⟩ rfl rfl (Nat.le_of_ble_eq_true rfl) ⟨Nat.zero_le _, Nat.zero_le _⟩ ?_
  show V G M_X7_goOn X T 0 0 7 [some (rv (7, 99) 0), some (iv x1), some (iv x2), some (iv x3)] [] h1
  refine V_aload_n 5 rfl rfl ?_
  refine V_iload_n 6 rfl rfl ?_
  refine V_iload_n 7 rfl rfl ?_
  obtain ⟨h3, d4, e⟩ := bd_e e
  refine V_callV (N := M_X7_passPots) (av := [iv x1, iv x2]) (st := []) (r := none) (h' := h3) 8 rfl (c_X7_passPots d4) g_X7_passPots gv_X7_passPots lk_RX7_204 ⟨Nat.le_of_ble_eq_true rfl, Nat.le_of_ble_eq_true rfl⟩ rfl rfl (Nat.le_of_ble_eq_true rfl) ⟨Nat.zero_le _, Nat.zero_le _⟩ ?_
  show V G M_X7_goOn X T 0 0 13 [some (rv (7, 99) 0), some (iv x1), some (iv x2), some (iv x3)] [] h3
  cases e
  exact V_vret 9 rfl hR rfl
set_option maxHeartbeats 4000000 in
theorem w_X7_enough_25 {G : kG} {X : kX} {T : List kT} {r0 : Int32} {h0 : kH} (hR : k_R G M_X7_enough X T 0 0 (some (iv r0)) h0) (K25 : Int32 × Int32 × Int32 × Int32 × kH → Option (Int32 × kH)) (hK25 : ∀ (x1 : Int32) (x2 : Int32) (x3 : Int32) (x4 : Int32) (h : kH), K25 (x1, x2, x3, x4, h) = some (r0, h0) → V G M_X7_enough X T 0 0 25 [some (rv (7, 99) 0), some (iv x1), some (iv x2), some (iv x3), some (iv x4)] [] h) (x1 : Int32) (x2 : Int32) (x3 : Int32) (x4 : Int32) (h : kH) (e : p_X7_enough_25 K25 x1 x2 x3 x4 h = some (r0, h0)) : V G M_X7_enough X T 0 0 25 [some (rv (7, 99) 0), some (iv x1), some (iv x2), some (iv x3), some (iv x4)] [] h := by
  unfold p_X7_enough_25 at e
  refine V_iload 14 rfl rfl ?_
  refine V_sipush (nI 200) 15 rfl sp_200 ?_
  rcases if_e e with ⟨c16, e⟩ | ⟨c16, e⟩
  · refine V_icmp_gt 90 16 rfl (by decide +kernel) (fun _ => ?_) (fun q => absurd c16 q) 
    refine V_bipush (-4 : Int32) 44 rfl bp_m4 ?_
    cases e
    exact V_iret 45 rfl hR rfl
  · refine V_icmp_gt 90 16 rfl (by decide +kernel) (fun q => absurd q c16) (fun _ => ?_)
    refine V_aload_n 17 rfl rfl ?_
    refine V_getR 71 18 rfl fr_RX7_41 ⟨Nat.le_of_ble_eq_true rfl, Or.inr rfl⟩ rfl ?_
    refine V_aload_n 19 rfl rfl ?_
    refine V_getR 31 20 rfl fr_RX7_34 ⟨Nat.le_of_ble_eq_true rfl, Or.inr rfl⟩ rfl ?_
    obtain ⟨h4, d5, e⟩ := bd_e e
    refine V_callVN (N := M_X2_copyFrom) (av := [rv (2, 99) 31]) (st := []) (r := none) (h' := h4) 21 rfl (c_X2_copyFrom d5) g_X2_copyFrom gv_X2_copyFrom nk_RX7_207 ⟨Nat.le_of_ble_eq_true rfl, Nat.le_of_ble_eq_true rfl⟩ rfl rfl (Nat.le_of_ble_eq_true rfl) ⟨Nat.zero_le _, Nat.zero_le _⟩ ?_
    show V G M_X7_enough X T 0 0 44 [some (rv (7, 99) 0), some (iv x1), some (iv x2), some (iv x3), some (iv x4)] [] h4
    refine V_aload_n 22 rfl rfl ?_
    refine V_getR 71 23 rfl fr_RX7_41 ⟨Nat.le_of_ble_eq_true rfl, Or.inr rfl⟩ rfl ?_
    refine V_getR 72 24 rfl fr_RX7_94 ⟨Nat.le_of_ble_eq_true rfl, Or.inr rfl⟩ rfl ?_
    refine V_iload 25 rfl rfl ?_
    obtain ⟨h6, d7, e⟩ := bd_e e
    refine V_callVN (N := M_X1_shareFuel) (av := [iv x4]) (st := []) (r := none) (h' := h6) 26 rfl (c_X1_shareFuel d7) g_X1_shareFuel gv_X1_shareFuel nk_RX7_210 ⟨Nat.le_of_ble_eq_true rfl, Nat.le_of_ble_eq_true rfl⟩ rfl rfl (Nat.le_of_ble_eq_true rfl) ⟨Nat.zero_le _, Nat.zero_le _⟩ ?_
    show V G M_X7_enough X T 0 0 56 [some (rv (7, 99) 0), some (iv x1), some (iv x2), some (iv x3), some (iv x4)] [] h6
    refine V_aload_n 27 rfl rfl ?_
    refine V_iconst (nI 0) 28 rfl ic_0 ?_
    refine V_iload_n 29 rfl rfl ?_
    refine V_iload_n 30 rfl rfl ?_
    obtain ⟨h8, d9, e⟩ := bd_e e
    refine V_callV (N := M_X7_goOn) (av := [iv (nI 0), iv x2, iv x3]) (st := []) (r := none) (h' := h8) 31 rfl (c_X7_goOn d9) g_X7_goOn gv_X7_goOn lk_RX7_213 ⟨Nat.le_of_ble_eq_true rfl, Nat.le_of_ble_eq_true rfl⟩ rfl rfl (Nat.le_of_ble_eq_true rfl) ⟨Nat.zero_le _, Nat.zero_le _⟩ ?_
    show V G M_X7_enough X T 0 0 63 [some (rv (7, 99) 0), some (iv x1), some (iv x2), some (iv x3), some (iv x4)] [] h8
    refine V_aload_n 32 rfl rfl ?_
    refine V_getR 71 33 rfl fr_RX7_41 ⟨Nat.le_of_ble_eq_true rfl, Or.inr rfl⟩ rfl ?_
    refine V_getR 79 34 rfl fr_RX7_120 ⟨Nat.le_of_ble_eq_true rfl, Or.inr rfl⟩ rfl ?_
    refine V_aload_n 35 rfl rfl ?_
    refine V_getR 28 36 rfl fr_RX7_27 ⟨Nat.le_of_ble_eq_true rfl, Or.inr rfl⟩ rfl ?_
    obtain ⟨v12, h10, d11, e⟩ := bd2_e e
    refine V_callVN (N := M_X4_countGood) (av := [rv (5, 99) 28]) (st := []) (r := some (iv v12)) (h' := h10) 37 rfl (c_X4_countGood d11) g_X4_countGood gv_X4_countGood nk_RX7_180 ⟨Nat.le_of_ble_eq_true rfl, Nat.le_of_ble_eq_true rfl⟩ rfl rfl (Nat.le_of_ble_eq_true rfl) ⟨Nat.zero_le _, Nat.zero_le _⟩ ?_
    show V G M_X7_enough X T 0 0 77 [some (rv (7, 99) 0), some (iv x1), some (iv x2), some (iv x3), some (iv x4)] [iv v12] h10
    refine V_iload_n 38 rfl rfl ?_
    rcases if_e e with ⟨c39, e⟩ | ⟨c39, e⟩
    · refine V_icmp_lt 84 39 rfl (by decide +kernel) (fun _ => ?_) (fun q => absurd c39 q) 
      refine V_iinc (x4 + (nI 10)) 42 rfl rfl (inc_10 _) (Nat.le_of_ble_eq_true rfl) rfl ?_
      show V G M_X7_enough X T 0 0 87 [some (rv (7, 99) 0), some (iv x1), some (iv x2), some (iv x3), some (iv (x4 + (nI 10)))] [] h10
      refine V_goto 25 43 rfl (by decide +kernel) ?_
      refine V_msk [true, true, true, true, true] (lc' := [some (rv (7, 99) 0), some (iv x1), some (iv x2), some (iv x3), some (iv (x4 + (nI 10)))]) rfl ?_
      exact hK25 x1 x2 x3 (x4 + (nI 10)) h10 e
    · refine V_icmp_lt 84 39 rfl (by decide +kernel) (fun q => absurd q c39) (fun _ => ?_)
      refine V_iload 40 rfl rfl ?_
      cases e
      exact V_iret 41 rfl hR rfl
set_option maxHeartbeats 4000000 in
theorem c_X7_enough {G : kG} {T : List kT} {x1 : Int32} {x2 : Int32} {x3 : Int32} {h : kH} {r0 : Int32} {h0 : kH} (e : p_X7_enough x1 x2 x3 h = some (r0, h0)) : k_C G M_X7_enough T [rv (7, 99) 0, iv x1, iv x2, iv x3] h (some (iv r0)) h0 := by
  refine k_C_of 1 (by decide +kernel) rfl tb_X7_enough rfl (fun X hR => ?_)
  show V G M_X7_enough X T 0 0 0 [some (rv (7, 99) 0), some (iv x1), some (iv x2), some (iv x3), none] [] h
  unfold p_X7_enough at e
  refine V_iload_n 0 rfl rfl ?_
  refine V_iconst (nI 1) 1 rfl ic_1 ?_
  rcases if_e e with ⟨c2, e⟩ | ⟨c2, e⟩
  · refine V_icmp_lt 19 2 rfl (by decide +kernel) (fun _ => ?_) (fun q => absurd c2 q) 
    refine V_iconst (-1 : Int32) 10 rfl ic_m1 ?_
    cases e
    exact V_iret 11 rfl hR rfl
  · refine V_icmp_lt 19 2 rfl (by decide +kernel) (fun q => absurd q c2) (fun _ => ?_)
    refine V_iload_n 3 rfl rfl ?_
    refine V_bipush (nI 6) 4 rfl bp_6 ?_
    rcases if_e e with ⟨c5, e⟩ | ⟨c5, e⟩
    · refine V_icmp_gt 19 5 rfl (by decide +kernel) (fun _ => ?_) (fun q => absurd c5 q) 
      refine V_iconst (-1 : Int32) 10 rfl ic_m1 ?_
      cases e
      exact V_iret 11 rfl hR rfl
    · refine V_icmp_gt 19 5 rfl (by decide +kernel) (fun q => absurd q c5) (fun _ => ?_)
      refine V_iload_n 6 rfl rfl ?_
      refine V_iload_n 7 rfl rfl ?_
      obtain ⟨v3, h1, d2, e⟩ := bd2_e e
      refine V_callS (N := M_X7_isRun) (av := [iv x2, iv x3]) (st := []) (r := some (iv v3)) (h' := h1) 8 rfl (c_X7_isRun d2) g_X7_isRun gs_X7_isRun lk_RX7_172 ⟨Nat.le_of_ble_eq_true rfl, Nat.le_of_ble_eq_true rfl⟩ rfl (Nat.le_of_ble_eq_true rfl) ⟨Nat.zero_le _, Nat.zero_le _⟩ ?_
      show V G M_X7_enough X T 0 0 16 [some (rv (7, 99) 0), some (iv x1), some (iv x2), some (iv x3), none] [iv v3] h1
      rcases if_e e with ⟨c9, e⟩ | ⟨c9, e⟩
      · refine V_if_ne 21 9 rfl (by decide +kernel) (fun q => absurd c9 q) (fun _ => ?_)
        refine V_iconst (-1 : Int32) 10 rfl ic_m1 ?_
        cases e
        exact V_iret 11 rfl hR rfl
      · refine V_if_ne 21 9 rfl (by decide +kernel) (fun _ => ?_) (fun q => absurd q c9) 
        refine V_bipush (nI 10) 12 rfl bp_10 ?_
        refine V_istore 13 rfl (Nat.le_of_ble_eq_true rfl) rfl ?_
        show V G M_X7_enough X T 0 0 25 [some (rv (7, 99) 0), some (iv x1), some (iv x2), some (iv x3), some (iv (nI 10))] [] h1
        refine V_msk [true, true, true, true, true] (lc' := [some (rv (7, 99) 0), some (iv x1), some (iv x2), some (iv x3), some (iv (nI 10))]) rfl ?_
        exact fx_e (P := fun s => V G M_X7_enough X T 0 0 25 [some (rv (7, 99) 0), some (iv s.1), some (iv s.2.1), some (iv s.2.2.1), some (iv s.2.2.2.1)] [] s.2.2.2.2) (fun K25 hK25 s e => w_X7_enough_25 hR K25 (fun x1 x2 x3 x4 h e => hK25 (x1, x2, x3, x4, h) e) s.1 s.2.1 s.2.2.1 s.2.2.2.1 s.2.2.2.2 e) FU (x1, x2, x3, (nI 10), h1) e
set_option maxHeartbeats 4000000 in
theorem w_X7_spot_12 {G : kG} {X : kX} {T : List kT} {r0 : Int32} {h0 : kH} (hR : k_R G M_X7_spot X T 0 0 (some (iv r0)) h0) (K12 : Int32 × Int32 × kH → Option (Int32 × kH)) (hK12 : ∀ (x1 : Int32) (x2 : Int32) (h : kH), K12 (x1, x2, h) = some (r0, h0) → V G M_X7_spot X T 0 0 12 [some (rv (7, 99) 0), some (iv x1), some (iv x2)] [] h) (x1 : Int32) (x2 : Int32) (h : kH) (e : p_X7_spot_12 K12 x1 x2 h = some (r0, h0)) : V G M_X7_spot X T 0 0 12 [some (rv (7, 99) 0), some (iv x1), some (iv x2)] [] h := by
  unfold p_X7_spot_12 at e
  refine V_iload_n 8 rfl rfl ?_
  refine V_aload_n 9 rfl rfl ?_
  refine V_getI 10 rfl fi_RX7_57 ?_
  rcases if_e e with ⟨c11, e⟩ | ⟨c11, e⟩
  · refine V_icmp_ge 39 11 rfl (by decide +kernel) (fun _ => ?_) (fun q => absurd c11 q) 
    refine V_aload_n 22 rfl rfl ?_
    refine V_getI 23 rfl fi_RX7_57 ?_
    refine V_bipush (nI 6) 24 rfl bp_6 ?_
    rcases if_e e with ⟨c25, e⟩ | ⟨c25, e⟩
    · refine V_icmp_lt 51 25 rfl (by decide +kernel) (fun _ => ?_) (fun q => absurd c25 q) 
      refine V_aload_n 28 rfl rfl ?_
      refine V_getR 131 29 rfl fr_RX7_53 ⟨Nat.le_of_ble_eq_true rfl, Or.inl (Nat.le_of_ble_eq_true rfl)⟩ rfl ?_
      refine V_aload_n 30 rfl rfl ?_
      refine V_getI 31 rfl fi_RX7_57 ?_
      refine V_iload_n 32 rfl rfl ?_
      obtain ⟨g4, e⟩ := gd_e e
      refine V_iast 33 rfl g4 ?_
      refine le_V (P := fun h5 => V G M_X7_spot X T 0 0 61 [some (rv (7, 99) 0), some (iv x1), some (iv x2)] [] h5) e (fun h5 e => ?_)
      refine V_aload_n 34 rfl rfl ?_
      refine V_dup 35 rfl nj_r ?_
      refine V_getI 36 rfl fi_RX7_57 ?_
      refine V_iconst (nI 1) 37 rfl ic_1 ?_
      refine V_iadd 38 rfl ?_
      refine V_putI 39 rfl fi_RX7_57 ?_
      refine le_V (P := fun h6 => V G M_X7_spot X T 0 0 71 [some (rv (7, 99) 0), some (iv x1), some (iv x2)] [] h6) e (fun h6 e => ?_)
      refine V_aload_n 40 rfl rfl ?_
      refine V_getI 41 rfl fi_RX7_57 ?_
      cases e
      exact V_iret 42 rfl hR rfl
    · refine V_icmp_lt 51 25 rfl (by decide +kernel) (fun q => absurd q c25) (fun _ => ?_)
      refine V_bipush (-3 : Int32) 26 rfl bp_m3 ?_
      cases e
      exact V_iret 27 rfl hR rfl
  · refine V_icmp_ge 39 11 rfl (by decide +kernel) (fun q => absurd q c11) (fun _ => ?_)
    refine V_aload_n 12 rfl rfl ?_
    refine V_getR 131 13 rfl fr_RX7_53 ⟨Nat.le_of_ble_eq_true rfl, Or.inl (Nat.le_of_ble_eq_true rfl)⟩ rfl ?_
    refine V_iload_n 14 rfl rfl ?_
    obtain ⟨g7, e⟩ := gd_e e
    refine V_iald 15 rfl g7 ?_
    refine V_iload_n 16 rfl rfl ?_
    rcases if_e e with ⟨c17, e⟩ | ⟨c17, e⟩
    · refine V_icmp_ne 33 17 rfl (by decide +kernel) (fun q => absurd c17 q) (fun _ => ?_)
      refine V_bipush (-2 : Int32) 18 rfl bp_m2 ?_
      cases e
      exact V_iret 19 rfl hR rfl
    · refine V_icmp_ne 33 17 rfl (by decide +kernel) (fun _ => ?_) (fun q => absurd q c17) 
      refine V_iinc (x2 + (nI 1)) 20 rfl rfl (inc_1 _) (Nat.le_of_ble_eq_true rfl) rfl ?_
      show V G M_X7_spot X T 0 0 36 [some (rv (7, 99) 0), some (iv x1), some (iv (x2 + (nI 1)))] [] h
      refine V_goto 12 21 rfl (by decide +kernel) ?_
      refine V_msk [true, true, true] (lc' := [some (rv (7, 99) 0), some (iv x1), some (iv (x2 + (nI 1)))]) rfl ?_
      exact hK12 x1 (x2 + (nI 1)) h e
set_option maxHeartbeats 4000000 in
theorem c_X7_spot {G : kG} {T : List kT} {x1 : Int32} {h : kH} {r0 : Int32} {h0 : kH} (e : p_X7_spot x1 h = some (r0, h0)) : k_C G M_X7_spot T [rv (7, 99) 0, iv x1] h (some (iv r0)) h0 := by
  refine k_C_of 1 (by decide +kernel) rfl tb_X7_spot rfl (fun X hR => ?_)
  show V G M_X7_spot X T 0 0 0 [some (rv (7, 99) 0), some (iv x1), none] [] h
  unfold p_X7_spot at e
  refine V_aload_n 0 rfl rfl ?_
  refine V_iload_n 1 rfl rfl ?_
  obtain ⟨v3, h1, d2, e⟩ := bd2_e e
  refine V_callV (N := M_X7_isCell) (av := [iv x1]) (st := []) (r := some (iv v3)) (h' := h1) 2 rfl (c_X7_isCell d2) g_X7_isCell gv_X7_isCell lk_RX7_90 ⟨Nat.le_of_ble_eq_true rfl, Nat.le_of_ble_eq_true rfl⟩ rfl rfl (Nat.le_of_ble_eq_true rfl) ⟨Nat.zero_le _, Nat.zero_le _⟩ ?_
  show V G M_X7_spot X T 0 0 5 [some (rv (7, 99) 0), some (iv x1), none] [iv v3] h1
  rcases if_e e with ⟨c3, e⟩ | ⟨c3, e⟩
  · refine V_if_ne 10 3 rfl (by decide +kernel) (fun q => absurd c3 q) (fun _ => ?_)
    refine V_iconst (-1 : Int32) 4 rfl ic_m1 ?_
    cases e
    exact V_iret 5 rfl hR rfl
  · refine V_if_ne 10 3 rfl (by decide +kernel) (fun _ => ?_) (fun q => absurd q c3) 
    refine V_iconst (nI 0) 6 rfl ic_0 ?_
    refine V_istore_n 7 rfl (Nat.le_of_ble_eq_true rfl) rfl ?_
    show V G M_X7_spot X T 0 0 12 [some (rv (7, 99) 0), some (iv x1), some (iv (nI 0))] [] h1
    refine V_msk [true, true, true] (lc' := [some (rv (7, 99) 0), some (iv x1), some (iv (nI 0))]) rfl ?_
    exact fx_e (P := fun s => V G M_X7_spot X T 0 0 12 [some (rv (7, 99) 0), some (iv s.1), some (iv s.2.1)] [] s.2.2) (fun K12 hK12 s e => w_X7_spot_12 hR K12 (fun x1 x2 h e => hK12 (x1, x2, h) e) s.1 s.2.1 s.2.2 e) FU (x1, (nI 0), h1) e
set_option maxHeartbeats 4000000 in
theorem c_X7_noSpots {G : kG} {T : List kT} {h : kH} {r0 : Int32} {h0 : kH} (e : p_X7_noSpots h = some (r0, h0)) : k_C G M_X7_noSpots T [rv (7, 99) 0] h (some (iv r0)) h0 := by
  refine k_C_of 1 (by decide +kernel) rfl tb_X7_noSpots rfl (fun X hR => ?_)
  show V G M_X7_noSpots X T 0 0 0 [some (rv (7, 99) 0), none] [] h
  unfold p_X7_noSpots at e
  refine V_aload_n 0 rfl rfl ?_
  refine V_getI 1 rfl fi_RX7_57 ?_
  refine V_istore_n 2 rfl (Nat.le_of_ble_eq_true rfl) rfl ?_
  refine le_V (P := fun v1 => V G M_X7_noSpots X T 0 0 5 [some (rv (7, 99) 0), some (iv v1)] [] h) e (fun v1 e => ?_)
  refine V_aload_n 3 rfl rfl ?_
  refine V_iconst (nI 0) 4 rfl ic_0 ?_
  refine V_putI 5 rfl fi_RX7_57 ?_
  refine le_V (P := fun h2 => V G M_X7_noSpots X T 0 0 10 [some (rv (7, 99) 0), some (iv v1)] [] h2) e (fun h2 e => ?_)
  refine V_iload_n 6 rfl rfl ?_
  cases e
  exact V_iret 7 rfl hR rfl
set_option maxHeartbeats 4000000 in
theorem w_X7_countWays_4 {G : kG} {X : kX} {T : List kT} {r0 : Int32} {h0 : kH} (hR : k_R G M_X7_countWays X T 0 0 (some (iv r0)) h0) (K4 : Int32 × Int32 × Int32 × kH → Option (Int32 × kH)) (hK4 : ∀ (x1 : Int32) (x2 : Int32) (x3 : Int32) (h : kH), K4 (x1, x2, x3, h) = some (r0, h0) → V G M_X7_countWays X T 0 0 4 [some (rv (7, 99) 0), some (iv x1), some (iv x2), some (iv x3)] [] h) (x1 : Int32) (x2 : Int32) (x3 : Int32) (h : kH) (e : p_X7_countWays_4 K4 x1 x2 x3 h = some (r0, h0)) : V G M_X7_countWays X T 0 0 4 [some (rv (7, 99) 0), some (iv x1), some (iv x2), some (iv x3)] [] h := by
  unfold p_X7_countWays_4 at e
  refine V_iload_n 4 rfl rfl ?_
  refine V_iload_n 5 rfl rfl ?_
  rcases if_e e with ⟨c6, e⟩ | ⟨c6, e⟩
  · refine V_icmp_ge 22 6 rfl (by decide +kernel) (fun _ => ?_) (fun q => absurd c6 q) 
    refine V_iload_n 14 rfl rfl ?_
    cases e
    exact V_iret 15 rfl hR rfl
  · refine V_icmp_ge 22 6 rfl (by decide +kernel) (fun q => absurd q c6) (fun _ => ?_)
    refine V_iload_n 7 rfl rfl ?_
    refine V_aload_n 8 rfl rfl ?_
    refine V_getI 9 rfl fi_RX7_57 ?_
    refine V_imul 10 rfl ?_
    refine V_istore_n 11 rfl (Nat.le_of_ble_eq_true rfl) rfl ?_
    refine le_V (P := fun v1 => V G M_X7_countWays X T 0 0 16 [some (rv (7, 99) 0), some (iv x1), some (iv v1), some (iv x3)] [] h) e (fun v1 e => ?_)
    refine V_iinc (x3 + (nI 1)) 12 rfl rfl (inc_1 _) (Nat.le_of_ble_eq_true rfl) rfl ?_
    show V G M_X7_countWays X T 0 0 19 [some (rv (7, 99) 0), some (iv x1), some (iv v1), some (iv (x3 + (nI 1)))] [] h
    refine V_goto 4 13 rfl (by decide +kernel) ?_
    refine V_msk [true, true, true, true] (lc' := [some (rv (7, 99) 0), some (iv x1), some (iv v1), some (iv (x3 + (nI 1)))]) rfl ?_
    exact hK4 x1 v1 (x3 + (nI 1)) h e
set_option maxHeartbeats 4000000 in
theorem c_X7_countWays {G : kG} {T : List kT} {x1 : Int32} {h : kH} {r0 : Int32} {h0 : kH} (e : p_X7_countWays x1 h = some (r0, h0)) : k_C G M_X7_countWays T [rv (7, 99) 0, iv x1] h (some (iv r0)) h0 := by
  refine k_C_of 2 (by decide +kernel) rfl tb_X7_countWays rfl (fun X hR => ?_)
  show V G M_X7_countWays X T 0 0 0 [some (rv (7, 99) 0), some (iv x1), none, none] [] h
  unfold p_X7_countWays at e
  refine V_iconst (nI 1) 0 rfl ic_1 ?_
  refine V_istore_n 1 rfl (Nat.le_of_ble_eq_true rfl) rfl ?_
  show V G M_X7_countWays X T 0 0 2 [some (rv (7, 99) 0), some (iv x1), some (iv (nI 1)), none] [] h
  refine V_iconst (nI 0) 2 rfl ic_0 ?_
  refine V_istore_n 3 rfl (Nat.le_of_ble_eq_true rfl) rfl ?_
  show V G M_X7_countWays X T 0 0 4 [some (rv (7, 99) 0), some (iv x1), some (iv (nI 1)), some (iv (nI 0))] [] h
  refine V_msk [true, true, true, true] (lc' := [some (rv (7, 99) 0), some (iv x1), some (iv (nI 1)), some (iv (nI 0))]) rfl ?_
  exact fx_e (P := fun s => V G M_X7_countWays X T 0 0 4 [some (rv (7, 99) 0), some (iv s.1), some (iv s.2.1), some (iv s.2.2.1)] [] s.2.2.2) (fun K4 hK4 s e => w_X7_countWays_4 hR K4 (fun x1 x2 x3 h e => hK4 (x1, x2, x3, h) e) s.1 s.2.1 s.2.2.1 s.2.2.2 e) FU (x1, (nI 1), (nI 0), h) e
set_option maxHeartbeats 4000000 in
theorem w_X7_spotInWay_18 {G : kG} {X : kX} {T : List kT} {r0 : Int32} {h0 : kH} (hR : k_R G M_X7_spotInWay X T 0 0 (some (iv r0)) h0) (K18 : Int32 × Int32 × Int32 × kH → Option (Int32 × kH)) (hK18 : ∀ (x3 : Int32) (x4 : Int32) (x5 : Int32) (h : kH), K18 (x3, x4, x5, h) = some (r0, h0) → V G M_X7_spotInWay X T 0 0 18 [some (rv (7, 99) 0), none, none, some (iv x3), some (iv x4), some (iv x5)] [] h) (x3 : Int32) (x4 : Int32) (x5 : Int32) (h : kH) (e : p_X7_spotInWay_18 K18 x3 x4 x5 h = some (r0, h0)) : V G M_X7_spotInWay X T 0 0 18 [some (rv (7, 99) 0), none, none, some (iv x3), some (iv x4), some (iv x5)] [] h := by
  unfold p_X7_spotInWay_18 at e
  refine V_iload 12 rfl rfl ?_
  refine V_iload_n 13 rfl rfl ?_
  rcases if_e e with ⟨c14, e⟩ | ⟨c14, e⟩
  · refine V_icmp_le 39 14 rfl (by decide +kernel) (fun _ => ?_) (fun q => absurd c14 q) 
    refine V_iload 22 rfl rfl ?_
    refine V_aload_n 23 rfl rfl ?_
    refine V_getI 24 rfl fi_RX7_57 ?_
    obtain ⟨g1, e⟩ := gd_e e
    refine V_rem 25 rfl (of_decide_eq_true g1) ?_
    cases e
    exact V_iret 26 rfl hR rfl
  · refine V_icmp_le 39 14 rfl (by decide +kernel) (fun q => absurd q c14) (fun _ => ?_)
    refine V_iload 15 rfl rfl ?_
    refine V_aload_n 16 rfl rfl ?_
    refine V_getI 17 rfl fi_RX7_57 ?_
    obtain ⟨g2, e⟩ := gd_e e
    refine V_idiv 18 rfl (of_decide_eq_true g2) ?_
    refine V_istore 19 rfl (Nat.le_of_ble_eq_true rfl) rfl ?_
    refine le_V (P := fun v3 => V G M_X7_spotInWay X T 0 0 33 [some (rv (7, 99) 0), none, none, some (iv x3), some (iv v3), some (iv x5)] [] h) e (fun v3 e => ?_)
    refine V_iinc (x5 + (-1 : Int32)) 20 rfl rfl (inc_m1 _) (Nat.le_of_ble_eq_true rfl) rfl ?_
    show V G M_X7_spotInWay X T 0 0 36 [some (rv (7, 99) 0), none, none, some (iv x3), some (iv v3), some (iv (x5 + (-1 : Int32)))] [] h
    refine V_goto 18 21 rfl (by decide +kernel) ?_
    refine V_msk [true, false, false, true, true, true] (lc' := [some (rv (7, 99) 0), none, none, some (iv x3), some (iv v3), some (iv (x5 + (-1 : Int32)))]) rfl ?_
    exact hK18 x3 v3 (x5 + (-1 : Int32)) h e
set_option maxHeartbeats 4000000 in
theorem c_X7_spotInWay {G : kG} {T : List kT} {x1 : Int32} {x2 : Int32} {x3 : Int32} {h : kH} {r0 : Int32} {h0 : kH} (e : p_X7_spotInWay x1 x2 x3 h = some (r0, h0)) : k_C G M_X7_spotInWay T [rv (7, 99) 0, iv x1, iv x2, iv x3] h (some (iv r0)) h0 := by
  refine k_C_of 2 (by decide +kernel) rfl tb_X7_spotInWay rfl (fun X hR => ?_)
  show V G M_X7_spotInWay X T 0 0 0 [some (rv (7, 99) 0), some (iv x1), some (iv x2), some (iv x3), none, none] [] h
  unfold p_X7_spotInWay at e
  refine V_aload_n 0 rfl rfl ?_
  refine V_getI 1 rfl fi_RX7_57 ?_
  refine V_iconst (nI 1) 2 rfl ic_1 ?_
  rcases if_e e with ⟨c3, e⟩ | ⟨c3, e⟩
  · refine V_icmp_ge 10 3 rfl (by decide +kernel) (fun _ => ?_) (fun q => absurd c3 q) 
    refine V_iload_n 6 rfl rfl ?_
    refine V_istore 7 rfl (Nat.le_of_ble_eq_true rfl) rfl ?_
    show V G M_X7_spotInWay X T 0 0 13 [some (rv (7, 99) 0), some (iv x1), some (iv x2), some (iv x3), some (iv x1), none] [] h
    refine V_iload_n 8 rfl rfl ?_
    refine V_iconst (nI 1) 9 rfl ic_1 ?_
    refine V_isub 10 rfl ?_
    refine V_istore 11 rfl (Nat.le_of_ble_eq_true rfl) rfl ?_
    show V G M_X7_spotInWay X T 0 0 18 [some (rv (7, 99) 0), some (iv x1), some (iv x2), some (iv x3), some (iv x1), some (iv (x2 - (nI 1)))] [] h
    refine V_msk [true, false, false, true, true, true] (lc' := [some (rv (7, 99) 0), none, none, some (iv x3), some (iv x1), some (iv (x2 - (nI 1)))]) rfl ?_
    exact fx_e (P := fun s => V G M_X7_spotInWay X T 0 0 18 [some (rv (7, 99) 0), none, none, some (iv s.1), some (iv s.2.1), some (iv s.2.2.1)] [] s.2.2.2) (fun K18 hK18 s e => w_X7_spotInWay_18 hR K18 (fun x3 x4 x5 h e => hK18 (x3, x4, x5, h) e) s.1 s.2.1 s.2.2.1 s.2.2.2 e) FU (x3, x1, (x2 - (nI 1)), h) e
  · refine V_icmp_ge 10 3 rfl (by decide +kernel) (fun q => absurd q c3) (fun _ => ?_)
    refine V_iconst (nI 0) 4 rfl ic_0 ?_
    cases e
    exact V_iret 5 rfl hR rfl
set_option maxHeartbeats 4000000 in
theorem w_X7_layWay_22 {G : kG} {X : kX} {T : List kT} {r0 : Int32} {h0 : kH} (hR : k_R G M_X7_layWay X T 0 0 (some (iv r0)) h0) (K22 : Int32 × Int32 × Int32 × kH → Option (Int32 × kH)) (hK22 : ∀ (x1 : Int32) (x2 : Int32) (x4 : Int32) (h : kH), K22 (x1, x2, x4, h) = some (r0, h0) → V G M_X7_layWay X T 0 0 22 [some (rv (7, 99) 0), some (iv x1), some (iv x2), some (rv (4, 99) 79), some (iv x4)] [] h) (x1 : Int32) (x2 : Int32) (x4 : Int32) (h : kH) (e : p_X7_layWay_22 K22 x1 x2 x4 h = some (r0, h0)) : V G M_X7_layWay X T 0 0 22 [some (rv (7, 99) 0), some (iv x1), some (iv x2), some (rv (4, 99) 79), some (iv x4)] [] h := by
  unfold p_X7_layWay_22 at e
  refine V_iload 11 rfl rfl ?_
  refine V_iload_n 12 rfl rfl ?_
  rcases if_e e with ⟨c13, e⟩ | ⟨c13, e⟩
  · refine V_icmp_ge 54 13 rfl (by decide +kernel) (fun _ => ?_) (fun q => absurd c13 q) 
    refine V_aload_n 28 rfl rfl ?_
    obtain ⟨v5, h3, d4, e⟩ := bd2_e e
    refine V_callVN (N := M_X4_anyTwoInOne) (av := []) (st := []) (r := some (iv v5)) (h' := h3) 29 rfl (c_X4_anyTwoInOne d4) g_X4_anyTwoInOne gv_X4_anyTwoInOne nk_RX7_290 ⟨Nat.le_of_ble_eq_true rfl, Nat.le_of_ble_eq_true rfl⟩ rfl rfl (Nat.le_of_ble_eq_true rfl) ⟨Nat.zero_le _, Nat.zero_le _⟩ ?_
    show V G M_X7_layWay X T 0 0 58 [some (rv (7, 99) 0), some (iv x1), some (iv x2), some (rv (4, 99) 79), some (iv x4)] [iv v5] h3
    rcases if_e e with ⟨c30, e⟩ | ⟨c30, e⟩
    · refine V_if_ne 65 30 rfl (by decide +kernel) (fun q => absurd c30 q) (fun _ => ?_)
      refine V_iconst (nI 1) 31 rfl ic_1 ?_
      refine V_goto 66 32 rfl (by decide +kernel) ?_
      cases e
      exact V_zret 34 rfl z_1 hR rfl
    · refine V_if_ne 65 30 rfl (by decide +kernel) (fun _ => ?_) (fun q => absurd q c30) 
      refine V_iconst (nI 0) 33 rfl ic_0 ?_
      cases e
      exact V_zret 34 rfl z_0 hR rfl
  · refine V_icmp_ge 54 13 rfl (by decide +kernel) (fun q => absurd q c13) (fun _ => ?_)
    refine V_aload_n 14 rfl rfl ?_
    refine V_getR 80 15 rfl fr_RX7_133 ⟨Nat.le_of_ble_eq_true rfl, Or.inl (Nat.le_of_ble_eq_true rfl)⟩ rfl ?_
    refine V_iload 16 rfl rfl ?_
    refine V_aload_n 17 rfl rfl ?_
    refine V_getR 131 18 rfl fr_RX7_53 ⟨Nat.le_of_ble_eq_true rfl, Or.inl (Nat.le_of_ble_eq_true rfl)⟩ rfl ?_
    refine V_aload_n 19 rfl rfl ?_
    refine V_iload_n 20 rfl rfl ?_
    refine V_iload_n 21 rfl rfl ?_
    refine V_iload 22 rfl rfl ?_
    obtain ⟨v8, h6, d7, e⟩ := bd2_e e
    refine V_callV (N := M_X7_spotInWay) (av := [iv x1, iv x2, iv x4]) (st := [rv (9, 6) 131, iv x4, rv (9, 6) 80]) (r := some (iv v8)) (h' := h6) 23 rfl (c_X7_spotInWay d7) g_X7_spotInWay gv_X7_spotInWay lk_RX7_226 ⟨Nat.le_of_ble_eq_true rfl, Nat.le_of_ble_eq_true rfl⟩ rfl rfl (Nat.le_of_ble_eq_true rfl) ⟨Nat.zero_le _, Nat.zero_le _⟩ ?_
    show V G M_X7_layWay X T 0 0 46 [some (rv (7, 99) 0), some (iv x1), some (iv x2), some (rv (4, 99) 79), some (iv x4)] [iv v8, rv (9, 6) 131, iv x4, rv (9, 6) 80] h6
    obtain ⟨g9, e⟩ := gd_e e
    refine V_iald 24 rfl g9 ?_
    obtain ⟨g10, e⟩ := gd_e e
    refine V_iast 25 rfl g10 ?_
    refine le_V (P := fun h11 => V G M_X7_layWay X T 0 0 48 [some (rv (7, 99) 0), some (iv x1), some (iv x2), some (rv (4, 99) 79), some (iv x4)] [] h11) e (fun h11 e => ?_)
    refine V_iinc (x4 + (nI 1)) 26 rfl rfl (inc_1 _) (Nat.le_of_ble_eq_true rfl) rfl ?_
    show V G M_X7_layWay X T 0 0 51 [some (rv (7, 99) 0), some (iv x1), some (iv x2), some (rv (4, 99) 79), some (iv (x4 + (nI 1)))] [] h11
    refine V_goto 22 27 rfl (by decide +kernel) ?_
    refine V_msk [true, true, true, true, true] (lc' := [some (rv (7, 99) 0), some (iv x1), some (iv x2), some (rv (4, 99) 79), some (iv (x4 + (nI 1)))]) rfl ?_
    exact hK22 x1 x2 (x4 + (nI 1)) h11 e
set_option maxHeartbeats 4000000 in
theorem c_X7_layWay {G : kG} {T : List kT} {x1 : Int32} {x2 : Int32} {h : kH} {r0 : Int32} {h0 : kH} (e : p_X7_layWay x1 x2 h = some (r0, h0)) : k_C G M_X7_layWay T [rv (7, 99) 0, iv x1, iv x2] h (some (iv r0)) h0 := by
  refine k_C_of 2 (by decide +kernel) rfl tb_X7_layWay rfl (fun X hR => ?_)
  show V G M_X7_layWay X T 0 0 0 [some (rv (7, 99) 0), some (iv x1), some (iv x2), none, none] [] h
  unfold p_X7_layWay at e
  refine V_aload_n 0 rfl rfl ?_
  refine V_getR 71 1 rfl fr_RX7_41 ⟨Nat.le_of_ble_eq_true rfl, Or.inr rfl⟩ rfl ?_
  refine V_getR 79 2 rfl fr_RX7_120 ⟨Nat.le_of_ble_eq_true rfl, Or.inr rfl⟩ rfl ?_
  refine V_astore_n 3 rfl (Nat.le_of_ble_eq_true rfl) rfl ?_
  show V G M_X7_layWay X T 0 0 8 [some (rv (7, 99) 0), some (iv x1), some (iv x2), some (rv (4, 99) 79), none] [] h
  refine V_aload_n 4 rfl rfl ?_
  refine V_aload_n 5 rfl rfl ?_
  refine V_getR 31 6 rfl fr_RX7_34 ⟨Nat.le_of_ble_eq_true rfl, Or.inr rfl⟩ rfl ?_
  refine V_getR 39 7 rfl fr_RX7_120 ⟨Nat.le_of_ble_eq_true rfl, Or.inr rfl⟩ rfl ?_
  obtain ⟨h1, d2, e⟩ := bd_e e
  refine V_callVN (N := M_X4_copyFrom) (av := [rv (4, 99) 39]) (st := []) (r := none) (h' := h1) 8 rfl (c_X4_copyFrom d2) g_X4_copyFrom gv_X4_copyFrom nk_RX7_194 ⟨Nat.le_of_ble_eq_true rfl, Nat.le_of_ble_eq_true rfl⟩ rfl rfl (Nat.le_of_ble_eq_true rfl) ⟨Nat.zero_le _, Nat.zero_le _⟩ ?_
  show V G M_X7_layWay X T 0 0 19 [some (rv (7, 99) 0), some (iv x1), some (iv x2), some (rv (4, 99) 79), none] [] h1
  refine V_iconst (nI 0) 9 rfl ic_0 ?_
  refine V_istore 10 rfl (Nat.le_of_ble_eq_true rfl) rfl ?_
  show V G M_X7_layWay X T 0 0 22 [some (rv (7, 99) 0), some (iv x1), some (iv x2), some (rv (4, 99) 79), some (iv (nI 0))] [] h1
  refine V_msk [true, true, true, true, true] (lc' := [some (rv (7, 99) 0), some (iv x1), some (iv x2), some (rv (4, 99) 79), some (iv (nI 0))]) rfl ?_
  exact fx_e (P := fun s => V G M_X7_layWay X T 0 0 22 [some (rv (7, 99) 0), some (iv s.1), some (iv s.2.1), some (rv (4, 99) 79), some (iv s.2.2.1)] [] s.2.2.2) (fun K22 hK22 s e => w_X7_layWay_22 hR K22 (fun x1 x2 x4 h e => hK22 (x1, x2, x4, h) e) s.1 s.2.1 s.2.2.1 s.2.2.2 e) FU (x1, x2, (nI 0), h1) e
set_option maxHeartbeats 4000000 in
theorem w_X7_lies_153 {G : kG} {X : kX} {T : List kT} {r0 : Int32} {h0 : kH} (hR : k_R G M_X7_lies X T 0 0 (some (iv r0)) h0) (x1 : Int32) (x4 : Int32) (x7 : Int32) (x8 : Int32) (h : kH) (e : p_X7_lies_153 x1 x4 x7 x8 h = some (r0, h0)) : V G M_X7_lies X T 0 0 153 [some (rv (7, 99) 0), some (iv x1), none, none, some (iv x4), none, none, some (iv x7), some (iv x8), none, none] [] h := by
  unfold p_X7_lies_153 at e
  refine V_iload 77 rfl rfl ?_
  refine V_bipush (-4 : Int32) 78 rfl bp_m4 ?_
  rcases if_e e with ⟨c79, e⟩ | ⟨c79, e⟩
  · refine V_icmp_ne 163 79 rfl (by decide +kernel) (fun q => absurd c79 q) (fun _ => ?_)
    refine V_bipush (-4 : Int32) 80 rfl bp_m4 ?_
    cases e
    exact V_iret 81 rfl hR rfl
  · refine V_icmp_ne 163 79 rfl (by decide +kernel) (fun _ => ?_) (fun q => absurd q c79) 
    refine V_iload 82 rfl rfl ?_
    rcases if_e e with ⟨c83, e⟩ | ⟨c83, e⟩
    · refine V_if_ge 173 83 rfl (by decide +kernel) (fun _ => ?_) (fun q => absurd c83 q) 
      refine V_aload_n 86 rfl rfl ?_
      refine V_iload 87 rfl rfl ?_
      refine V_iload_n 88 rfl rfl ?_
      refine V_iload 89 rfl rfl ?_
      obtain ⟨v14, h12, d13, e⟩ := bd2_e e
      refine V_callV (N := M_X7_spotInWay) (av := [iv x7, iv x1, iv x4]) (st := []) (r := some (iv v14)) (h' := h12) 90 rfl (c_X7_spotInWay d13) g_X7_spotInWay gv_X7_spotInWay lk_RX7_226 ⟨Nat.le_of_ble_eq_true rfl, Nat.le_of_ble_eq_true rfl⟩ rfl rfl (Nat.le_of_ble_eq_true rfl) ⟨Nat.zero_le _, Nat.zero_le _⟩ ?_
      show V G M_X7_lies X T 0 0 182 [some (rv (7, 99) 0), some (iv x1), none, none, some (iv x4), none, none, some (iv x7), some (iv x8), none, none] [iv v14] h12
      cases e
      exact V_iret 91 rfl hR rfl
    · refine V_if_ge 173 83 rfl (by decide +kernel) (fun q => absurd q c83) (fun _ => ?_)
      refine V_iload 84 rfl rfl ?_
      refine V_goto 182 85 rfl (by decide +kernel) ?_
      cases e
      exact V_iret 91 rfl hR rfl
set_option maxHeartbeats 4000000 in
theorem w_X7_lies_83 {G : kG} {X : kX} {T : List kT} {r0 : Int32} {h0 : kH} (hR : k_R G M_X7_lies X T 0 0 (some (iv r0)) h0) (K83 : Int32 × Int32 × Int32 × Int32 × Int32 × Int32 × Int32 × Int32 × kH → Option (Int32 × kH)) (hK83 : ∀ (x1 : Int32) (x2 : Int32) (x4 : Int32) (x5 : Int32) (x6 : Int32) (x7 : Int32) (x8 : Int32) (x9 : Int32) (h : kH), K83 (x1, x2, x4, x5, x6, x7, x8, x9, h) = some (r0, h0) → V G M_X7_lies X T 0 0 83 [some (rv (7, 99) 0), some (iv x1), some (iv x2), none, some (iv x4), some (iv x5), some (iv x6), some (iv x7), some (iv x8), some (iv x9), none] [] h) (x1 : Int32) (x2 : Int32) (x4 : Int32) (x5 : Int32) (x6 : Int32) (x7 : Int32) (x8 : Int32) (x9 : Int32) (h : kH) (e : p_X7_lies_83 K83 x1 x2 x4 x5 x6 x7 x8 x9 h = some (r0, h0)) : V G M_X7_lies X T 0 0 83 [some (rv (7, 99) 0), some (iv x1), some (iv x2), none, some (iv x4), some (iv x5), some (iv x6), some (iv x7), some (iv x8), some (iv x9), none] [] h := by
  unfold p_X7_lies_83 at e
  refine V_iload 45 rfl rfl ?_
  refine V_iload 46 rfl rfl ?_
  rcases if_e e with ⟨c47, e⟩ | ⟨c47, e⟩
  · refine V_icmp_ge 153 47 rfl (by decide +kernel) (fun _ => ?_) (fun q => absurd c47 q) 
    refine V_msk [true, true, false, false, true, false, false, true, true, false, false] (lc' := [some (rv (7, 99) 0), some (iv x1), none, none, some (iv x4), none, none, some (iv x7), some (iv x8), none, none]) rfl ?_
    exact w_X7_lies_153 hR x1 x4 x7 x8 h e
  · refine V_icmp_ge 153 47 rfl (by decide +kernel) (fun q => absurd q c47) (fun _ => ?_)
    refine V_iload 48 rfl rfl ?_
    refine V_iload 49 rfl rfl ?_
    rcases if_e e with ⟨c50, e⟩ | ⟨c50, e⟩
    · refine V_icmp_ge 153 50 rfl (by decide +kernel) (fun _ => ?_) (fun q => absurd c50 q) 
      refine V_msk [true, true, false, false, true, false, false, true, true, false, false] (lc' := [some (rv (7, 99) 0), some (iv x1), none, none, some (iv x4), none, none, some (iv x7), some (iv x8), none, none]) rfl ?_
      exact w_X7_lies_153 hR x1 x4 x7 x8 h e
    · refine V_icmp_ge 153 50 rfl (by decide +kernel) (fun q => absurd q c50) (fun _ => ?_)
      refine V_aload_n 51 rfl rfl ?_
      refine V_iload 52 rfl rfl ?_
      refine V_iload_n 53 rfl rfl ?_
      obtain ⟨v17, h15, d16, e⟩ := bd2_e e
      refine V_callV (N := M_X7_layWay) (av := [iv x9, iv x1]) (st := []) (r := some (iv v17)) (h' := h15) 54 rfl (c_X7_layWay d16) g_X7_layWay gv_X7_layWay lk_RX7_223 ⟨Nat.le_of_ble_eq_true rfl, Nat.le_of_ble_eq_true rfl⟩ rfl rfl (Nat.le_of_ble_eq_true rfl) ⟨Nat.zero_le _, Nat.zero_le _⟩ ?_
      show V G M_X7_lies X T 0 0 104 [some (rv (7, 99) 0), some (iv x1), some (iv x2), none, some (iv x4), some (iv x5), some (iv x6), some (iv x7), some (iv x8), some (iv x9), none] [iv v17] h15
      rcases if_e e with ⟨c55, e⟩ | ⟨c55, e⟩
      · refine V_if_ne 110 55 rfl (by decide +kernel) (fun q => absurd c55 q) (fun _ => ?_)
        refine V_goto 147 56 rfl (by decide +kernel) ?_
        refine V_iinc (x9 + (nI 1)) 75 rfl rfl (inc_1 _) (Nat.le_of_ble_eq_true rfl) rfl ?_
        show V G M_X7_lies X T 0 0 150 [some (rv (7, 99) 0), some (iv x1), some (iv x2), none, some (iv x4), some (iv x5), some (iv x6), some (iv x7), some (iv x8), some (iv (x9 + (nI 1))), none] [] h15
        refine V_goto 83 76 rfl (by decide +kernel) ?_
        refine V_msk [true, true, true, false, true, true, true, true, true, true, false] (lc' := [some (rv (7, 99) 0), some (iv x1), some (iv x2), none, some (iv x4), some (iv x5), some (iv x6), some (iv x7), some (iv x8), some (iv (x9 + (nI 1))), none]) rfl ?_
        exact hK83 x1 x2 x4 x5 x6 x7 x8 (x9 + (nI 1)) h15 e
      · refine V_if_ne 110 55 rfl (by decide +kernel) (fun _ => ?_) (fun q => absurd q c55) 
        refine V_aload_n 57 rfl rfl ?_
        refine V_iconst (nI 0) 58 rfl ic_0 ?_
        refine V_iload_n 59 rfl rfl ?_
        obtain ⟨h18, d19, e⟩ := bd_e e
        refine V_callV (N := M_X7_passPots) (av := [iv (nI 0), iv x2]) (st := []) (r := none) (h' := h18) 60 rfl (c_X7_passPots d19) g_X7_passPots gv_X7_passPots lk_RX7_204 ⟨Nat.le_of_ble_eq_true rfl, Nat.le_of_ble_eq_true rfl⟩ rfl rfl (Nat.le_of_ble_eq_true rfl) ⟨Nat.zero_le _, Nat.zero_le _⟩ ?_
        show V G M_X7_lies X T 0 0 116 [some (rv (7, 99) 0), some (iv x1), some (iv x2), none, some (iv x4), some (iv x5), some (iv x6), some (iv x7), some (iv x8), some (iv x9), none] [] h18
        refine V_aload_n 61 rfl rfl ?_
        refine V_getR 71 62 rfl fr_RX7_41 ⟨Nat.le_of_ble_eq_true rfl, Or.inr rfl⟩ rfl ?_
        refine V_getR 79 63 rfl fr_RX7_120 ⟨Nat.le_of_ble_eq_true rfl, Or.inr rfl⟩ rfl ?_
        refine V_aload_n 64 rfl rfl ?_
        refine V_getR 28 65 rfl fr_RX7_27 ⟨Nat.le_of_ble_eq_true rfl, Or.inr rfl⟩ rfl ?_
        obtain ⟨v22, h20, d21, e⟩ := bd2_e e
        refine V_callVN (N := M_X4_countGood) (av := [rv (5, 99) 28]) (st := []) (r := some (iv v22)) (h' := h20) 66 rfl (c_X4_countGood d21) g_X4_countGood gv_X4_countGood nk_RX7_180 ⟨Nat.le_of_ble_eq_true rfl, Nat.le_of_ble_eq_true rfl⟩ rfl rfl (Nat.le_of_ble_eq_true rfl) ⟨Nat.zero_le _, Nat.zero_le _⟩ ?_
        show V G M_X7_lies X T 0 0 130 [some (rv (7, 99) 0), some (iv x1), some (iv x2), none, some (iv x4), some (iv x5), some (iv x6), some (iv x7), some (iv x8), some (iv x9), none] [iv v22] h20
        refine V_istore 67 rfl (Nat.le_of_ble_eq_true rfl) rfl ?_
        show V G M_X7_lies X T 0 0 132 [some (rv (7, 99) 0), some (iv x1), some (iv x2), none, some (iv x4), some (iv x5), some (iv x6), some (iv x7), some (iv x8), some (iv x9), some (iv v22)] [] h20
        refine V_iload 68 rfl rfl ?_
        refine V_iload 69 rfl rfl ?_
        rcases if_e e with ⟨c70, e⟩ | ⟨c70, e⟩
        · refine V_icmp_le 147 70 rfl (by decide +kernel) (fun _ => ?_) (fun q => absurd c70 q) 
          refine V_iinc (x9 + (nI 1)) 75 rfl rfl (inc_1 _) (Nat.le_of_ble_eq_true rfl) rfl ?_
          show V G M_X7_lies X T 0 0 150 [some (rv (7, 99) 0), some (iv x1), some (iv x2), none, some (iv x4), some (iv x5), some (iv x6), some (iv x7), some (iv x8), some (iv (x9 + (nI 1))), some (iv v22)] [] h20
          refine V_goto 83 76 rfl (by decide +kernel) ?_
          refine V_msk [true, true, true, false, true, true, true, true, true, true, false] (lc' := [some (rv (7, 99) 0), some (iv x1), some (iv x2), none, some (iv x4), some (iv x5), some (iv x6), some (iv x7), some (iv x8), some (iv (x9 + (nI 1))), none]) rfl ?_
          exact hK83 x1 x2 x4 x5 x6 x7 x8 (x9 + (nI 1)) h20 e
        · refine V_icmp_le 147 70 rfl (by decide +kernel) (fun q => absurd q c70) (fun _ => ?_)
          refine V_iload 71 rfl rfl ?_
          refine V_istore 72 rfl (Nat.le_of_ble_eq_true rfl) rfl ?_
          show V G M_X7_lies X T 0 0 143 [some (rv (7, 99) 0), some (iv x1), some (iv x2), none, some (iv x4), some (iv x5), some (iv x6), some (iv x9), some (iv x8), some (iv x9), some (iv v22)] [] h20
          refine V_iload 73 rfl rfl ?_
          refine V_istore 74 rfl (Nat.le_of_ble_eq_true rfl) rfl ?_
          show V G M_X7_lies X T 0 0 147 [some (rv (7, 99) 0), some (iv x1), some (iv x2), none, some (iv x4), some (iv x5), some (iv x6), some (iv x9), some (iv v22), some (iv x9), some (iv v22)] [] h20
          refine V_iinc (x9 + (nI 1)) 75 rfl rfl (inc_1 _) (Nat.le_of_ble_eq_true rfl) rfl ?_
          show V G M_X7_lies X T 0 0 150 [some (rv (7, 99) 0), some (iv x1), some (iv x2), none, some (iv x4), some (iv x5), some (iv x6), some (iv x9), some (iv v22), some (iv (x9 + (nI 1))), some (iv v22)] [] h20
          refine V_goto 83 76 rfl (by decide +kernel) ?_
          refine V_msk [true, true, true, false, true, true, true, true, true, true, false] (lc' := [some (rv (7, 99) 0), some (iv x1), some (iv x2), none, some (iv x4), some (iv x5), some (iv x6), some (iv x9), some (iv v22), some (iv (x9 + (nI 1))), none]) rfl ?_
          exact hK83 x1 x2 x4 x5 x6 x9 v22 (x9 + (nI 1)) h20 e
set_option maxHeartbeats 4000000 in
theorem c_X7_lies {G : kG} {T : List kT} {x1 : Int32} {x2 : Int32} {x3 : Int32} {x4 : Int32} {h : kH} {r0 : Int32} {h0 : kH} (e : p_X7_lies x1 x2 x3 x4 h = some (r0, h0)) : k_C G M_X7_lies T [rv (7, 99) 0, iv x1, iv x2, iv x3, iv x4] h (some (iv r0)) h0 := by
  refine k_C_of 6 (by decide +kernel) rfl tb_X7_lies rfl (fun X hR => ?_)
  show V G M_X7_lies X T 0 0 0 [some (rv (7, 99) 0), some (iv x1), some (iv x2), some (iv x3), some (iv x4), none, none, none, none, none, none] [] h
  unfold p_X7_lies at e
  refine V_iload_n 0 rfl rfl ?_
  refine V_iconst (nI 1) 1 rfl ic_1 ?_
  rcases if_e e with ⟨c2, e⟩ | ⟨c2, e⟩
  · refine V_icmp_lt 24 2 rfl (by decide +kernel) (fun _ => ?_) (fun q => absurd c2 q) 
    refine V_iconst (-1 : Int32) 12 rfl ic_m1 ?_
    cases e
    exact V_iret 13 rfl hR rfl
  · refine V_icmp_lt 24 2 rfl (by decide +kernel) (fun q => absurd q c2) (fun _ => ?_)
    refine V_iload_n 3 rfl rfl ?_
    refine V_iconst (nI 4) 4 rfl ic_4 ?_
    rcases if_e e with ⟨c5, e⟩ | ⟨c5, e⟩
    · refine V_icmp_gt 24 5 rfl (by decide +kernel) (fun _ => ?_) (fun q => absurd c5 q) 
      refine V_iconst (-1 : Int32) 12 rfl ic_m1 ?_
      cases e
      exact V_iret 13 rfl hR rfl
    · refine V_icmp_gt 24 5 rfl (by decide +kernel) (fun q => absurd q c5) (fun _ => ?_)
      refine V_iload_n 6 rfl rfl ?_
      refine V_aload_n 7 rfl rfl ?_
      refine V_getR 31 8 rfl fr_RX7_34 ⟨Nat.le_of_ble_eq_true rfl, Or.inr rfl⟩ rfl ?_
      refine V_getR 39 9 rfl fr_RX7_120 ⟨Nat.le_of_ble_eq_true rfl, Or.inr rfl⟩ rfl ?_
      refine V_getI 10 rfl fi_RX7_217 ?_
      rcases if_e e with ⟨c11, e⟩ | ⟨c11, e⟩
      · refine V_icmp_le 26 11 rfl (by decide +kernel) (fun _ => ?_) (fun q => absurd c11 q) 
        refine V_iload_n 14 rfl rfl ?_
        refine V_iload_n 15 rfl rfl ?_
        obtain ⟨v3, h1, d2, e⟩ := bd2_e e
        refine V_callS (N := M_X7_isRun) (av := [iv x2, iv x3]) (st := []) (r := some (iv v3)) (h' := h1) 16 rfl (c_X7_isRun d2) g_X7_isRun gs_X7_isRun lk_RX7_172 ⟨Nat.le_of_ble_eq_true rfl, Nat.le_of_ble_eq_true rfl⟩ rfl (Nat.le_of_ble_eq_true rfl) ⟨Nat.zero_le _, Nat.zero_le _⟩ ?_
        show V G M_X7_lies X T 0 0 31 [some (rv (7, 99) 0), some (iv x1), some (iv x2), some (iv x3), some (iv x4), none, none, none, none, none, none] [iv v3] h1
        rcases if_e e with ⟨c17, e⟩ | ⟨c17, e⟩
        · refine V_if_eq 46 17 rfl (by decide +kernel) (fun _ => ?_) (fun q => absurd c17 q) 
          refine V_iconst (-1 : Int32) 24 rfl ic_m1 ?_
          cases e
          exact V_iret 25 rfl hR rfl
        · refine V_if_eq 46 17 rfl (by decide +kernel) (fun q => absurd q c17) (fun _ => ?_)
          refine V_iload 18 rfl rfl ?_
          refine V_iconst (-1 : Int32) 19 rfl ic_m1 ?_
          rcases if_e e with ⟨c20, e⟩ | ⟨c20, e⟩
          · refine V_icmp_lt 46 20 rfl (by decide +kernel) (fun _ => ?_) (fun q => absurd c20 q) 
            refine V_iconst (-1 : Int32) 24 rfl ic_m1 ?_
            cases e
            exact V_iret 25 rfl hR rfl
          · refine V_icmp_lt 46 20 rfl (by decide +kernel) (fun q => absurd q c20) (fun _ => ?_)
            refine V_iload 21 rfl rfl ?_
            refine V_iload_n 22 rfl rfl ?_
            rcases if_e e with ⟨c23, e⟩ | ⟨c23, e⟩
            · refine V_icmp_lt 48 23 rfl (by decide +kernel) (fun _ => ?_) (fun q => absurd c23 q) 
              refine V_aload_n 26 rfl rfl ?_
              refine V_iload_n 27 rfl rfl ?_
              refine V_iload_n 28 rfl rfl ?_
              obtain ⟨h4, d5, e⟩ := bd_e e
              refine V_callV (N := M_X7_burnAfresh) (av := [iv x2, iv x3]) (st := []) (r := none) (h' := h4) 29 rfl (c_X7_burnAfresh d5) g_X7_burnAfresh gv_X7_burnAfresh lk_RX7_191 ⟨Nat.le_of_ble_eq_true rfl, Nat.le_of_ble_eq_true rfl⟩ rfl rfl (Nat.le_of_ble_eq_true rfl) ⟨Nat.zero_le _, Nat.zero_le _⟩ ?_
              show V G M_X7_lies X T 0 0 54 [some (rv (7, 99) 0), some (iv x1), some (iv x2), some (iv x3), some (iv x4), none, none, none, none, none, none] [] h4
              refine V_aload_n 30 rfl rfl ?_
              refine V_iload_n 31 rfl rfl ?_
              obtain ⟨v8, h6, d7, e⟩ := bd2_e e
              refine V_callV (N := M_X7_countWays) (av := [iv x1]) (st := []) (r := some (iv v8)) (h' := h6) 32 rfl (c_X7_countWays d7) g_X7_countWays gv_X7_countWays lk_RX7_220 ⟨Nat.le_of_ble_eq_true rfl, Nat.le_of_ble_eq_true rfl⟩ rfl rfl (Nat.le_of_ble_eq_true rfl) ⟨Nat.zero_le _, Nat.zero_le _⟩ ?_
              show V G M_X7_lies X T 0 0 59 [some (rv (7, 99) 0), some (iv x1), some (iv x2), some (iv x3), some (iv x4), none, none, none, none, none, none] [iv v8] h6
              refine V_istore 33 rfl (Nat.le_of_ble_eq_true rfl) rfl ?_
              show V G M_X7_lies X T 0 0 61 [some (rv (7, 99) 0), some (iv x1), some (iv x2), some (iv x3), some (iv x4), some (iv v8), none, none, none, none, none] [] h6
              refine V_aload_n 34 rfl rfl ?_
              refine V_getR 31 35 rfl fr_RX7_34 ⟨Nat.le_of_ble_eq_true rfl, Or.inr rfl⟩ rfl ?_
              refine V_getR 39 36 rfl fr_RX7_120 ⟨Nat.le_of_ble_eq_true rfl, Or.inr rfl⟩ rfl ?_
              obtain ⟨v11, h9, d10, e⟩ := bd2_e e
              refine V_callVN (N := M_X4_countWhole) (av := []) (st := []) (r := some (iv v11)) (h' := h9) 37 rfl (c_X4_countWhole d10) g_X4_countWhole gv_X4_countWhole nk_RX7_159 ⟨Nat.le_of_ble_eq_true rfl, Nat.le_of_ble_eq_true rfl⟩ rfl rfl (Nat.le_of_ble_eq_true rfl) ⟨Nat.zero_le _, Nat.zero_le _⟩ ?_
              show V G M_X7_lies X T 0 0 71 [some (rv (7, 99) 0), some (iv x1), some (iv x2), some (iv x3), some (iv x4), some (iv v8), none, none, none, none, none] [iv v11] h9
              refine V_istore 38 rfl (Nat.le_of_ble_eq_true rfl) rfl ?_
              show V G M_X7_lies X T 0 0 73 [some (rv (7, 99) 0), some (iv x1), some (iv x2), some (iv x3), some (iv x4), some (iv v8), some (iv v11), none, none, none, none] [] h9
              refine V_bipush (-4 : Int32) 39 rfl bp_m4 ?_
              refine V_istore 40 rfl (Nat.le_of_ble_eq_true rfl) rfl ?_
              show V G M_X7_lies X T 0 0 77 [some (rv (7, 99) 0), some (iv x1), some (iv x2), some (iv x3), some (iv x4), some (iv v8), some (iv v11), some (iv (-4 : Int32)), none, none, none] [] h9
              refine V_iconst (-1 : Int32) 41 rfl ic_m1 ?_
              refine V_istore 42 rfl (Nat.le_of_ble_eq_true rfl) rfl ?_
              show V G M_X7_lies X T 0 0 80 [some (rv (7, 99) 0), some (iv x1), some (iv x2), some (iv x3), some (iv x4), some (iv v8), some (iv v11), some (iv (-4 : Int32)), some (iv (-1 : Int32)), none, none] [] h9
              refine V_iconst (nI 0) 43 rfl ic_0 ?_
              refine V_istore 44 rfl (Nat.le_of_ble_eq_true rfl) rfl ?_
              show V G M_X7_lies X T 0 0 83 [some (rv (7, 99) 0), some (iv x1), some (iv x2), some (iv x3), some (iv x4), some (iv v8), some (iv v11), some (iv (-4 : Int32)), some (iv (-1 : Int32)), some (iv (nI 0)), none] [] h9
              refine V_msk [true, true, true, false, true, true, true, true, true, true, false] (lc' := [some (rv (7, 99) 0), some (iv x1), some (iv x2), none, some (iv x4), some (iv v8), some (iv v11), some (iv (-4 : Int32)), some (iv (-1 : Int32)), some (iv (nI 0)), none]) rfl ?_
              exact fx_e (P := fun s => V G M_X7_lies X T 0 0 83 [some (rv (7, 99) 0), some (iv s.1), some (iv s.2.1), none, some (iv s.2.2.1), some (iv s.2.2.2.1), some (iv s.2.2.2.2.1), some (iv s.2.2.2.2.2.1), some (iv s.2.2.2.2.2.2.1), some (iv s.2.2.2.2.2.2.2.1), none] [] s.2.2.2.2.2.2.2.2) (fun K83 hK83 s e => w_X7_lies_83 hR K83 (fun x1 x2 x4 x5 x6 x7 x8 x9 h e => hK83 (x1, x2, x4, x5, x6, x7, x8, x9, h) e) s.1 s.2.1 s.2.2.1 s.2.2.2.1 s.2.2.2.2.1 s.2.2.2.2.2.1 s.2.2.2.2.2.2.1 s.2.2.2.2.2.2.2.1 s.2.2.2.2.2.2.2.2 e) FU (x1, x2, x4, v8, v11, (-4 : Int32), (-1 : Int32), (nI 0), h9) e
            · refine V_icmp_lt 48 23 rfl (by decide +kernel) (fun q => absurd q c23) (fun _ => ?_)
              refine V_iconst (-1 : Int32) 24 rfl ic_m1 ?_
              cases e
              exact V_iret 25 rfl hR rfl
      · refine V_icmp_le 26 11 rfl (by decide +kernel) (fun q => absurd q c11) (fun _ => ?_)
        refine V_iconst (-1 : Int32) 12 rfl ic_m1 ?_
        cases e
        exact V_iret 13 rfl hR rfl
set_option maxHeartbeats 4000000 in
theorem w_X7_rake_45 {G : kG} {X : kX} {T : List kT} {r0 : Int32} {h0 : kH} (hR : k_R G M_X7_rake X T 0 0 (some (iv r0)) h0) (K45 : Int32 × Int32 × Int32 × Int32 × kH → Option (Int32 × kH)) (hK45 : ∀ (x1 : Int32) (x2 : Int32) (x3 : Int32) (x4 : Int32) (h : kH), K45 (x1, x2, x3, x4, h) = some (r0, h0) → V G M_X7_rake X T 0 0 45 [some (rv (7, 99) 0), some (iv x1), some (iv x2), some (iv x3), some (iv x4)] [] h) (x1 : Int32) (x2 : Int32) (x3 : Int32) (x4 : Int32) (h : kH) (e : p_X7_rake_45 K45 x1 x2 x3 x4 h = some (r0, h0)) : V G M_X7_rake X T 0 0 45 [some (rv (7, 99) 0), some (iv x1), some (iv x2), some (iv x3), some (iv x4)] [] h := by
  unfold p_X7_rake_45 at e
  refine V_iload 24 rfl rfl ?_
  refine V_iload_n 25 rfl rfl ?_
  rcases if_e e with ⟨c26, e⟩ | ⟨c26, e⟩
  · refine V_icmp_ge 123 26 rfl (by decide +kernel) (fun _ => ?_) (fun q => absurd c26 q) 
    refine V_iload_n 61 rfl rfl ?_
    cases e
    exact V_iret 62 rfl hR rfl
  · refine V_icmp_ge 123 26 rfl (by decide +kernel) (fun q => absurd q c26) (fun _ => ?_)
    refine V_aload_n 27 rfl rfl ?_
    refine V_getR 71 28 rfl fr_RX7_41 ⟨Nat.le_of_ble_eq_true rfl, Or.inr rfl⟩ rfl ?_
    refine V_aload_n 29 rfl rfl ?_
    refine V_getR 51 30 rfl fr_RX7_38 ⟨Nat.le_of_ble_eq_true rfl, Or.inr rfl⟩ rfl ?_
    obtain ⟨h11, d12, e⟩ := bd_e e
    refine V_callVN (N := M_X2_copyFrom) (av := [rv (2, 99) 51]) (st := []) (r := none) (h' := h11) 31 rfl (c_X2_copyFrom d12) g_X2_copyFrom gv_X2_copyFrom nk_RX7_207 ⟨Nat.le_of_ble_eq_true rfl, Nat.le_of_ble_eq_true rfl⟩ rfl rfl (Nat.le_of_ble_eq_true rfl) ⟨Nat.zero_le _, Nat.zero_le _⟩ ?_
    show V G M_X7_rake X T 0 0 62 [some (rv (7, 99) 0), some (iv x1), some (iv x2), some (iv x3), some (iv x4)] [] h11
    refine V_aload_n 32 rfl rfl ?_
    refine V_getR 71 33 rfl fr_RX7_41 ⟨Nat.le_of_ble_eq_true rfl, Or.inr rfl⟩ rfl ?_
    refine V_getR 72 34 rfl fr_RX7_94 ⟨Nat.le_of_ble_eq_true rfl, Or.inr rfl⟩ rfl ?_
    obtain ⟨h13, d14, e⟩ := bd_e e
    refine V_callVN (N := M_X1_rakeOff) (av := []) (st := []) (r := none) (h' := h13) 35 rfl (c_X1_rakeOff d14) g_X1_rakeOff gv_X1_rakeOff nk_RX7_230 ⟨Nat.le_of_ble_eq_true rfl, Nat.le_of_ble_eq_true rfl⟩ rfl rfl (Nat.le_of_ble_eq_true rfl) ⟨Nat.zero_le _, Nat.zero_le _⟩ ?_
    show V G M_X7_rake X T 0 0 72 [some (rv (7, 99) 0), some (iv x1), some (iv x2), some (iv x3), some (iv x4)] [] h13
    refine V_aload_n 36 rfl rfl ?_
    refine V_iload 37 rfl rfl ?_
    refine V_iload_n 38 rfl rfl ?_
    refine V_iload_n 39 rfl rfl ?_
    obtain ⟨h15, d16, e⟩ := bd_e e
    refine V_callV (N := M_X7_goOn) (av := [iv x4, iv x1, iv x2]) (st := []) (r := none) (h' := h15) 40 rfl (c_X7_goOn d16) g_X7_goOn gv_X7_goOn lk_RX7_213 ⟨Nat.le_of_ble_eq_true rfl, Nat.le_of_ble_eq_true rfl⟩ rfl rfl (Nat.le_of_ble_eq_true rfl) ⟨Nat.zero_le _, Nat.zero_le _⟩ ?_
    show V G M_X7_rake X T 0 0 80 [some (rv (7, 99) 0), some (iv x1), some (iv x2), some (iv x3), some (iv x4)] [] h15
    refine V_aload_n 41 rfl rfl ?_
    refine V_getR 71 42 rfl fr_RX7_41 ⟨Nat.le_of_ble_eq_true rfl, Or.inr rfl⟩ rfl ?_
    refine V_getR 79 43 rfl fr_RX7_120 ⟨Nat.le_of_ble_eq_true rfl, Or.inr rfl⟩ rfl ?_
    refine V_aload_n 44 rfl rfl ?_
    refine V_getR 28 45 rfl fr_RX7_27 ⟨Nat.le_of_ble_eq_true rfl, Or.inr rfl⟩ rfl ?_
    obtain ⟨v19, h17, d18, e⟩ := bd2_e e
    refine V_callVN (N := M_X4_countGood) (av := [rv (5, 99) 28]) (st := []) (r := some (iv v19)) (h' := h17) 46 rfl (c_X4_countGood d18) g_X4_countGood gv_X4_countGood nk_RX7_180 ⟨Nat.le_of_ble_eq_true rfl, Nat.le_of_ble_eq_true rfl⟩ rfl rfl (Nat.le_of_ble_eq_true rfl) ⟨Nat.zero_le _, Nat.zero_le _⟩ ?_
    show V G M_X7_rake X T 0 0 94 [some (rv (7, 99) 0), some (iv x1), some (iv x2), some (iv x3), some (iv x4)] [iv v19] h17
    refine V_iload_n 47 rfl rfl ?_
    rcases if_e e with ⟨c48, e⟩ | ⟨c48, e⟩
    · refine V_icmp_lt 101 48 rfl (by decide +kernel) (fun _ => ?_) (fun q => absurd c48 q) 
      refine V_aload_n 51 rfl rfl ?_
      refine V_getR 51 52 rfl fr_RX7_38 ⟨Nat.le_of_ble_eq_true rfl, Or.inr rfl⟩ rfl ?_
      refine V_aload_n 53 rfl rfl ?_
      refine V_getR 28 54 rfl fr_RX7_27 ⟨Nat.le_of_ble_eq_true rfl, Or.inr rfl⟩ rfl ?_
      refine V_iload_n 55 rfl rfl ?_
      refine V_aload_n 56 rfl rfl ?_
      refine V_getR 132 57 rfl fr_RX7_63 ⟨Nat.le_of_ble_eq_true rfl, Or.inr rfl⟩ rfl ?_
      obtain ⟨h20, d21, e⟩ := bd_e e
      refine V_callVN (N := M_X2_pass) (av := [rv (5, 99) 28, iv x2, rv (0, 99) 132]) (st := []) (r := none) (h' := h20) 58 rfl (c_X2_pass d21) g_X2_pass gv_X2_pass nk_RX7_155 ⟨Nat.le_of_ble_eq_true rfl, Nat.le_of_ble_eq_true rfl⟩ rfl rfl (Nat.le_of_ble_eq_true rfl) ⟨Nat.zero_le _, Nat.zero_le _⟩ ?_
      show V G M_X7_rake X T 0 0 117 [some (rv (7, 99) 0), some (iv x1), some (iv x2), some (iv x3), some (iv x4)] [] h20
      refine V_iinc (x4 + (nI 1)) 59 rfl rfl (inc_1 _) (Nat.le_of_ble_eq_true rfl) rfl ?_
      show V G M_X7_rake X T 0 0 120 [some (rv (7, 99) 0), some (iv x1), some (iv x2), some (iv x3), some (iv (x4 + (nI 1)))] [] h20
      refine V_goto 45 60 rfl (by decide +kernel) ?_
      refine V_msk [true, true, true, true, true] (lc' := [some (rv (7, 99) 0), some (iv x1), some (iv x2), some (iv x3), some (iv (x4 + (nI 1)))]) rfl ?_
      exact hK45 x1 x2 x3 (x4 + (nI 1)) h20 e
    · refine V_icmp_lt 101 48 rfl (by decide +kernel) (fun q => absurd q c48) (fun _ => ?_)
      refine V_iload 49 rfl rfl ?_
      cases e
      exact V_iret 50 rfl hR rfl
set_option maxHeartbeats 4000000 in
theorem c_X7_rake {G : kG} {T : List kT} {x1 : Int32} {x2 : Int32} {h : kH} {r0 : Int32} {h0 : kH} (e : p_X7_rake x1 x2 h = some (r0, h0)) : k_C G M_X7_rake T [rv (7, 99) 0, iv x1, iv x2] h (some (iv r0)) h0 := by
  refine k_C_of 2 (by decide +kernel) rfl tb_X7_rake rfl (fun X hR => ?_)
  show V G M_X7_rake X T 0 0 0 [some (rv (7, 99) 0), some (iv x1), some (iv x2), none, none] [] h
  unfold p_X7_rake at e
  refine V_iload_n 0 rfl rfl ?_
  refine V_iload_n 1 rfl rfl ?_
  obtain ⟨v3, h1, d2, e⟩ := bd2_e e
  refine V_callS (N := M_X7_isRun) (av := [iv x1, iv x2]) (st := []) (r := some (iv v3)) (h' := h1) 2 rfl (c_X7_isRun d2) g_X7_isRun gs_X7_isRun lk_RX7_172 ⟨Nat.le_of_ble_eq_true rfl, Nat.le_of_ble_eq_true rfl⟩ rfl (Nat.le_of_ble_eq_true rfl) ⟨Nat.zero_le _, Nat.zero_le _⟩ ?_
  show V G M_X7_rake X T 0 0 5 [some (rv (7, 99) 0), some (iv x1), some (iv x2), none, none] [iv v3] h1
  rcases if_e e with ⟨c3, e⟩ | ⟨c3, e⟩
  · refine V_if_ne 10 3 rfl (by decide +kernel) (fun q => absurd c3 q) (fun _ => ?_)
    refine V_iconst (-1 : Int32) 4 rfl ic_m1 ?_
    cases e
    exact V_iret 5 rfl hR rfl
  · refine V_if_ne 10 3 rfl (by decide +kernel) (fun _ => ?_) (fun q => absurd q c3) 
    refine V_aload_n 6 rfl rfl ?_
    refine V_iload_n 7 rfl rfl ?_
    refine V_iload_n 8 rfl rfl ?_
    obtain ⟨h4, d5, e⟩ := bd_e e
    refine V_callV (N := M_X7_tryRun) (av := [iv x1, iv x2]) (st := []) (r := none) (h' := h4) 9 rfl (c_X7_tryRun d5) g_X7_tryRun gv_X7_tryRun lk_RX7_176 ⟨Nat.le_of_ble_eq_true rfl, Nat.le_of_ble_eq_true rfl⟩ rfl rfl (Nat.le_of_ble_eq_true rfl) ⟨Nat.zero_le _, Nat.zero_le _⟩ ?_
    show V G M_X7_rake X T 0 0 16 [some (rv (7, 99) 0), some (iv x1), some (iv x2), none, none] [] h4
    refine V_aload_n 10 rfl rfl ?_
    refine V_getR 71 11 rfl fr_RX7_41 ⟨Nat.le_of_ble_eq_true rfl, Or.inr rfl⟩ rfl ?_
    refine V_getR 79 12 rfl fr_RX7_120 ⟨Nat.le_of_ble_eq_true rfl, Or.inr rfl⟩ rfl ?_
    refine V_aload_n 13 rfl rfl ?_
    refine V_getR 28 14 rfl fr_RX7_27 ⟨Nat.le_of_ble_eq_true rfl, Or.inr rfl⟩ rfl ?_
    obtain ⟨v8, h6, d7, e⟩ := bd2_e e
    refine V_callVN (N := M_X4_countGood) (av := [rv (5, 99) 28]) (st := []) (r := some (iv v8)) (h' := h6) 15 rfl (c_X4_countGood d7) g_X4_countGood gv_X4_countGood nk_RX7_180 ⟨Nat.le_of_ble_eq_true rfl, Nat.le_of_ble_eq_true rfl⟩ rfl rfl (Nat.le_of_ble_eq_true rfl) ⟨Nat.zero_le _, Nat.zero_le _⟩ ?_
    show V G M_X7_rake X T 0 0 30 [some (rv (7, 99) 0), some (iv x1), some (iv x2), none, none] [iv v8] h6
    refine V_istore_n 16 rfl (Nat.le_of_ble_eq_true rfl) rfl ?_
    show V G M_X7_rake X T 0 0 31 [some (rv (7, 99) 0), some (iv x1), some (iv x2), some (iv v8), none] [] h6
    refine V_aload_n 17 rfl rfl ?_
    refine V_getR 51 18 rfl fr_RX7_38 ⟨Nat.le_of_ble_eq_true rfl, Or.inr rfl⟩ rfl ?_
    refine V_aload_n 19 rfl rfl ?_
    refine V_getR 31 20 rfl fr_RX7_34 ⟨Nat.le_of_ble_eq_true rfl, Or.inr rfl⟩ rfl ?_
    obtain ⟨h9, d10, e⟩ := bd_e e
    refine V_callVN (N := M_X2_copyFrom) (av := [rv (2, 99) 31]) (st := []) (r := none) (h' := h9) 21 rfl (c_X2_copyFrom d10) g_X2_copyFrom gv_X2_copyFrom nk_RX7_207 ⟨Nat.le_of_ble_eq_true rfl, Nat.le_of_ble_eq_true rfl⟩ rfl rfl (Nat.le_of_ble_eq_true rfl) ⟨Nat.zero_le _, Nat.zero_le _⟩ ?_
    show V G M_X7_rake X T 0 0 42 [some (rv (7, 99) 0), some (iv x1), some (iv x2), some (iv v8), none] [] h9
    refine V_iconst (nI 0) 22 rfl ic_0 ?_
    refine V_istore 23 rfl (Nat.le_of_ble_eq_true rfl) rfl ?_
    show V G M_X7_rake X T 0 0 45 [some (rv (7, 99) 0), some (iv x1), some (iv x2), some (iv v8), some (iv (nI 0))] [] h9
    refine V_msk [true, true, true, true, true] (lc' := [some (rv (7, 99) 0), some (iv x1), some (iv x2), some (iv v8), some (iv (nI 0))]) rfl ?_
    exact fx_e (P := fun s => V G M_X7_rake X T 0 0 45 [some (rv (7, 99) 0), some (iv s.1), some (iv s.2.1), some (iv s.2.2.1), some (iv s.2.2.2.1)] [] s.2.2.2.2) (fun K45 hK45 s e => w_X7_rake_45 hR K45 (fun x1 x2 x3 x4 h e => hK45 (x1, x2, x3, x4, h) e) s.1 s.2.1 s.2.2.1 s.2.2.2.1 s.2.2.2.2 e) FU (x1, x2, v8, (nI 0), h9) e
set_option maxHeartbeats 4000000 in
theorem w_X7_black_138 {G : kG} {X : kX} {T : List kT} {r0 : Int32} {h0 : kH} (hR : k_R G M_X7_black X T 0 0 (some (iv r0)) h0) (K32 : Int32 × Int32 × Int32 × Int32 × kH → Option (Int32 × kH)) (hK32 : ∀ (x1 : Int32) (x2 : Int32) (x3 : Int32) (x4 : Int32) (h : kH), K32 (x1, x2, x3, x4, h) = some (r0, h0) → V G M_X7_black X T 0 0 32 [some (rv (7, 99) 0), some (iv x1), some (iv x2), some (iv x3), some (iv x4)] [] h) (x1 : Int32) (x2 : Int32) (x3 : Int32) (x4 : Int32) (h : kH) (e : p_X7_black_138 K32 x1 x2 x3 x4 h = some (r0, h0)) : V G M_X7_black X T 0 0 138 [some (rv (7, 99) 0), some (iv x1), some (iv x2), some (iv x3), some (iv x4)] [] h := by
  unfold p_X7_black_138 at e
  refine V_aload_n 69 rfl rfl ?_
  refine V_getR 51 70 rfl fr_RX7_38 ⟨Nat.le_of_ble_eq_true rfl, Or.inr rfl⟩ rfl ?_
  refine V_aload_n 71 rfl rfl ?_
  refine V_getR 28 72 rfl fr_RX7_27 ⟨Nat.le_of_ble_eq_true rfl, Or.inr rfl⟩ rfl ?_
  refine V_iload_n 73 rfl rfl ?_
  refine V_aload_n 74 rfl rfl ?_
  refine V_getR 132 75 rfl fr_RX7_63 ⟨Nat.le_of_ble_eq_true rfl, Or.inr rfl⟩ rfl ?_
  obtain ⟨h16, d17, e⟩ := bd_e e
  refine V_callVN (N := M_X2_pass) (av := [rv (5, 99) 28, iv x3, rv (0, 99) 132]) (st := []) (r := none) (h' := h16) 76 rfl (c_X2_pass d17) g_X2_pass gv_X2_pass nk_RX7_155 ⟨Nat.le_of_ble_eq_true rfl, Nat.le_of_ble_eq_true rfl⟩ rfl rfl (Nat.le_of_ble_eq_true rfl) ⟨Nat.zero_le _, Nat.zero_le _⟩ ?_
  show V G M_X7_black X T 0 0 154 [some (rv (7, 99) 0), some (iv x1), some (iv x2), some (iv x3), some (iv x4)] [] h16
  refine V_iinc (x4 + (nI 1)) 77 rfl rfl (inc_1 _) (Nat.le_of_ble_eq_true rfl) rfl ?_
  show V G M_X7_black X T 0 0 157 [some (rv (7, 99) 0), some (iv x1), some (iv x2), some (iv x3), some (iv (x4 + (nI 1)))] [] h16
  refine V_goto 32 78 rfl (by decide +kernel) ?_
  refine V_msk [true, true, true, true, true] (lc' := [some (rv (7, 99) 0), some (iv x1), some (iv x2), some (iv x3), some (iv (x4 + (nI 1)))]) rfl ?_
  exact hK32 x1 x2 x3 (x4 + (nI 1)) h16 e
set_option maxHeartbeats 4000000 in
theorem w_X7_black_32 {G : kG} {X : kX} {T : List kT} {r0 : Int32} {h0 : kH} (hR : k_R G M_X7_black X T 0 0 (some (iv r0)) h0) (K32 : Int32 × Int32 × Int32 × Int32 × kH → Option (Int32 × kH)) (hK32 : ∀ (x1 : Int32) (x2 : Int32) (x3 : Int32) (x4 : Int32) (h : kH), K32 (x1, x2, x3, x4, h) = some (r0, h0) → V G M_X7_black X T 0 0 32 [some (rv (7, 99) 0), some (iv x1), some (iv x2), some (iv x3), some (iv x4)] [] h) (x1 : Int32) (x2 : Int32) (x3 : Int32) (x4 : Int32) (h : kH) (e : p_X7_black_32 K32 x1 x2 x3 x4 h = some (r0, h0)) : V G M_X7_black X T 0 0 32 [some (rv (7, 99) 0), some (iv x1), some (iv x2), some (iv x3), some (iv x4)] [] h := by
  unfold p_X7_black_32 at e
  refine V_iload 17 rfl rfl ?_
  refine V_iload_n 18 rfl rfl ?_
  rcases if_e e with ⟨c19, e⟩ | ⟨c19, e⟩
  · refine V_icmp_gt 160 19 rfl (by decide +kernel) (fun _ => ?_) (fun q => absurd c19 q) 
    refine V_bipush (-4 : Int32) 79 rfl bp_m4 ?_
    cases e
    exact V_iret 80 rfl hR rfl
  · refine V_icmp_gt 160 19 rfl (by decide +kernel) (fun q => absurd q c19) (fun _ => ?_)
    refine V_aload_n 20 rfl rfl ?_
    refine V_getR 51 21 rfl fr_RX7_38 ⟨Nat.le_of_ble_eq_true rfl, Or.inr rfl⟩ rfl ?_
    refine V_getR 59 22 rfl fr_RX7_120 ⟨Nat.le_of_ble_eq_true rfl, Or.inr rfl⟩ rfl ?_
    refine V_getR 67 23 rfl fr_RX7_162 ⟨Nat.le_of_ble_eq_true rfl, Or.inl (Nat.le_of_ble_eq_true rfl)⟩ rfl ?_
    refine V_iload_n 24 rfl rfl ?_
    obtain ⟨g9, e⟩ := gd_e e
    refine V_iald 25 rfl g9 ?_
    rcases if_e e with ⟨c26, e⟩ | ⟨c26, e⟩
    · refine V_if_ne 69 26 rfl (by decide +kernel) (fun q => absurd c26 q) (fun _ => ?_)
      refine V_aload_n 27 rfl rfl ?_
      refine V_getR 51 28 rfl fr_RX7_38 ⟨Nat.le_of_ble_eq_true rfl, Or.inr rfl⟩ rfl ?_
      refine V_getR 59 29 rfl fr_RX7_120 ⟨Nat.le_of_ble_eq_true rfl, Or.inr rfl⟩ rfl ?_
      refine V_getR 68 30 rfl fr_RX7_149 ⟨Nat.le_of_ble_eq_true rfl, Or.inl (Nat.le_of_ble_eq_true rfl)⟩ rfl ?_
      refine V_iload_n 31 rfl rfl ?_
      refine V_iald 32 rfl g9 ?_
      refine V_iconst (nI 1) 33 rfl ic_1 ?_
      rcases if_e e with ⟨c34, e⟩ | ⟨c34, e⟩
      · refine V_icmp_ne 72 34 rfl (by decide +kernel) (fun q => absurd c34 q) (fun _ => ?_)
        refine V_bipush (-4 : Int32) 35 rfl bp_m4 ?_
        cases e
        exact V_iret 36 rfl hR rfl
      · refine V_icmp_ne 72 34 rfl (by decide +kernel) (fun _ => ?_) (fun q => absurd q c34) 
        refine V_aload_n 37 rfl rfl ?_
        refine V_getR 71 38 rfl fr_RX7_41 ⟨Nat.le_of_ble_eq_true rfl, Or.inr rfl⟩ rfl ?_
        refine V_aload_n 39 rfl rfl ?_
        refine V_getR 51 40 rfl fr_RX7_38 ⟨Nat.le_of_ble_eq_true rfl, Or.inr rfl⟩ rfl ?_
        obtain ⟨h10, d11, e⟩ := bd_e e
        refine V_callVN (N := M_X2_copyFrom) (av := [rv (2, 99) 51]) (st := []) (r := none) (h' := h10) 41 rfl (c_X2_copyFrom d11) g_X2_copyFrom gv_X2_copyFrom nk_RX7_207 ⟨Nat.le_of_ble_eq_true rfl, Nat.le_of_ble_eq_true rfl⟩ rfl rfl (Nat.le_of_ble_eq_true rfl) ⟨Nat.zero_le _, Nat.zero_le _⟩ ?_
        show V G M_X7_black X T 0 0 83 [some (rv (7, 99) 0), some (iv x1), some (iv x2), some (iv x3), some (iv x4)] [] h10
        refine V_aload_n 42 rfl rfl ?_
        refine V_getR 71 43 rfl fr_RX7_41 ⟨Nat.le_of_ble_eq_true rfl, Or.inr rfl⟩ rfl ?_
        refine V_getR 72 44 rfl fr_RX7_94 ⟨Nat.le_of_ble_eq_true rfl, Or.inr rfl⟩ rfl ?_
        obtain ⟨h12, d13, e⟩ := bd_e e
        refine V_callVN (N := M_X1_coverAll) (av := []) (st := []) (r := none) (h' := h12) 45 rfl (c_X1_coverAll d13) g_X1_coverAll gv_X1_coverAll nk_RX7_233 ⟨Nat.le_of_ble_eq_true rfl, Nat.le_of_ble_eq_true rfl⟩ rfl rfl (Nat.le_of_ble_eq_true rfl) ⟨Nat.zero_le _, Nat.zero_le _⟩ ?_
        show V G M_X7_black X T 0 0 93 [some (rv (7, 99) 0), some (iv x1), some (iv x2), some (iv x3), some (iv x4)] [] h12
        refine V_aload_n 46 rfl rfl ?_
        refine V_iload 47 rfl rfl ?_
        refine V_iload_n 48 rfl rfl ?_
        refine V_iload_n 49 rfl rfl ?_
        obtain ⟨h14, d15, e⟩ := bd_e e
        refine V_callV (N := M_X7_goOn) (av := [iv x4, iv x2, iv x3]) (st := []) (r := none) (h' := h14) 50 rfl (c_X7_goOn d15) g_X7_goOn gv_X7_goOn lk_RX7_213 ⟨Nat.le_of_ble_eq_true rfl, Nat.le_of_ble_eq_true rfl⟩ rfl rfl (Nat.le_of_ble_eq_true rfl) ⟨Nat.zero_le _, Nat.zero_le _⟩ ?_
        show V G M_X7_black X T 0 0 101 [some (rv (7, 99) 0), some (iv x1), some (iv x2), some (iv x3), some (iv x4)] [] h14
        refine V_aload_n 51 rfl rfl ?_
        refine V_getR 71 52 rfl fr_RX7_41 ⟨Nat.le_of_ble_eq_true rfl, Or.inr rfl⟩ rfl ?_
        refine V_getR 79 53 rfl fr_RX7_120 ⟨Nat.le_of_ble_eq_true rfl, Or.inr rfl⟩ rfl ?_
        refine V_getR 88 54 rfl fr_RX7_149 ⟨Nat.le_of_ble_eq_true rfl, Or.inl (Nat.le_of_ble_eq_true rfl)⟩ rfl ?_
        refine V_iload_n 55 rfl rfl ?_
        refine V_iald 56 rfl g9 ?_
        refine V_iconst (nI 2) 57 rfl ic_2 ?_
        rcases if_e e with ⟨c58, e⟩ | ⟨c58, e⟩
        · refine V_icmp_ne 138 58 rfl (by decide +kernel) (fun q => absurd c58 q) (fun _ => ?_)
          refine V_aload_n 59 rfl rfl ?_
          refine V_getR 71 60 rfl fr_RX7_41 ⟨Nat.le_of_ble_eq_true rfl, Or.inr rfl⟩ rfl ?_
          refine V_getR 79 61 rfl fr_RX7_120 ⟨Nat.le_of_ble_eq_true rfl, Or.inr rfl⟩ rfl ?_
          refine V_iload_n 62 rfl rfl ?_
          refine V_aload_n 63 rfl rfl ?_
          refine V_getR 28 64 rfl fr_RX7_27 ⟨Nat.le_of_ble_eq_true rfl, Or.inr rfl⟩ rfl ?_
          obtain ⟨v20, h18, d19, e⟩ := bd2_e e
          refine V_callVN (N := M_X4_lossOf) (av := [iv x1, rv (5, 99) 28]) (st := []) (r := some (iv v20)) (h' := h18) 65 rfl (c_X4_lossOf d19) g_X4_lossOf gv_X4_lossOf nk_RX7_145 ⟨Nat.le_of_ble_eq_true rfl, Nat.le_of_ble_eq_true rfl⟩ rfl rfl (Nat.le_of_ble_eq_true rfl) ⟨Nat.zero_le _, Nat.zero_le _⟩ ?_
          show V G M_X7_black X T 0 0 132 [some (rv (7, 99) 0), some (iv x1), some (iv x2), some (iv x3), some (iv x4)] [iv v20] h18
          rcases if_e e with ⟨c66, e⟩ | ⟨c66, e⟩
          · refine V_if_ne 138 66 rfl (by decide +kernel) (fun q => absurd c66 q) (fun _ => ?_)
            refine V_iload 67 rfl rfl ?_
            cases e
            exact V_iret 68 rfl hR rfl
          · refine V_if_ne 138 66 rfl (by decide +kernel) (fun _ => ?_) (fun q => absurd q c66) 
            refine V_msk [true, true, true, true, true] (lc' := [some (rv (7, 99) 0), some (iv x1), some (iv x2), some (iv x3), some (iv x4)]) rfl ?_
            exact w_X7_black_138 hR K32 hK32 x1 x2 x3 x4 h18 e
        · refine V_icmp_ne 138 58 rfl (by decide +kernel) (fun _ => ?_) (fun q => absurd q c58) 
          refine V_msk [true, true, true, true, true] (lc' := [some (rv (7, 99) 0), some (iv x1), some (iv x2), some (iv x3), some (iv x4)]) rfl ?_
          exact w_X7_black_138 hR K32 hK32 x1 x2 x3 x4 h14 e
    · refine V_if_ne 69 26 rfl (by decide +kernel) (fun _ => ?_) (fun q => absurd q c26) 
      refine V_bipush (-4 : Int32) 35 rfl bp_m4 ?_
      cases e
      exact V_iret 36 rfl hR rfl
set_option maxHeartbeats 4000000 in
theorem c_X7_black {G : kG} {T : List kT} {x1 : Int32} {x2 : Int32} {x3 : Int32} {h : kH} {r0 : Int32} {h0 : kH} (e : p_X7_black x1 x2 x3 h = some (r0, h0)) : k_C G M_X7_black T [rv (7, 99) 0, iv x1, iv x2, iv x3] h (some (iv r0)) h0 := by
  refine k_C_of 1 (by decide +kernel) rfl tb_X7_black rfl (fun X hR => ?_)
  show V G M_X7_black X T 0 0 0 [some (rv (7, 99) 0), some (iv x1), some (iv x2), some (iv x3), none] [] h
  unfold p_X7_black at e
  refine V_aload_n 0 rfl rfl ?_
  refine V_iload_n 1 rfl rfl ?_
  obtain ⟨v3, h1, d2, e⟩ := bd2_e e
  refine V_callV (N := M_X7_isPot) (av := [iv x1]) (st := []) (r := some (iv v3)) (h' := h1) 2 rfl (c_X7_isPot d2) g_X7_isPot gv_X7_isPot lk_RX7_130 ⟨Nat.le_of_ble_eq_true rfl, Nat.le_of_ble_eq_true rfl⟩ rfl rfl (Nat.le_of_ble_eq_true rfl) ⟨Nat.zero_le _, Nat.zero_le _⟩ ?_
  show V G M_X7_black X T 0 0 5 [some (rv (7, 99) 0), some (iv x1), some (iv x2), some (iv x3), none] [iv v3] h1
  rcases if_e e with ⟨c3, e⟩ | ⟨c3, e⟩
  · refine V_if_eq 16 3 rfl (by decide +kernel) (fun _ => ?_) (fun q => absurd c3 q) 
    refine V_iconst (-1 : Int32) 8 rfl ic_m1 ?_
    cases e
    exact V_iret 9 rfl hR rfl
  · refine V_if_eq 16 3 rfl (by decide +kernel) (fun q => absurd q c3) (fun _ => ?_)
    refine V_iload_n 4 rfl rfl ?_
    refine V_iload_n 5 rfl rfl ?_
    obtain ⟨v6, h4, d5, e⟩ := bd2_e e
    refine V_callS (N := M_X7_isRun) (av := [iv x2, iv x3]) (st := []) (r := some (iv v6)) (h' := h4) 6 rfl (c_X7_isRun d5) g_X7_isRun gs_X7_isRun lk_RX7_172 ⟨Nat.le_of_ble_eq_true rfl, Nat.le_of_ble_eq_true rfl⟩ rfl (Nat.le_of_ble_eq_true rfl) ⟨Nat.zero_le _, Nat.zero_le _⟩ ?_
    show V G M_X7_black X T 0 0 13 [some (rv (7, 99) 0), some (iv x1), some (iv x2), some (iv x3), none] [iv v6] h4
    rcases if_e e with ⟨c7, e⟩ | ⟨c7, e⟩
    · refine V_if_ne 18 7 rfl (by decide +kernel) (fun q => absurd c7 q) (fun _ => ?_)
      refine V_iconst (-1 : Int32) 8 rfl ic_m1 ?_
      cases e
      exact V_iret 9 rfl hR rfl
    · refine V_if_ne 18 7 rfl (by decide +kernel) (fun _ => ?_) (fun q => absurd q c7) 
      refine V_aload_n 10 rfl rfl ?_
      refine V_getR 51 11 rfl fr_RX7_38 ⟨Nat.le_of_ble_eq_true rfl, Or.inr rfl⟩ rfl ?_
      refine V_aload_n 12 rfl rfl ?_
      refine V_getR 31 13 rfl fr_RX7_34 ⟨Nat.le_of_ble_eq_true rfl, Or.inr rfl⟩ rfl ?_
      obtain ⟨h7, d8, e⟩ := bd_e e
      refine V_callVN (N := M_X2_copyFrom) (av := [rv (2, 99) 31]) (st := []) (r := none) (h' := h7) 14 rfl (c_X2_copyFrom d8) g_X2_copyFrom gv_X2_copyFrom nk_RX7_207 ⟨Nat.le_of_ble_eq_true rfl, Nat.le_of_ble_eq_true rfl⟩ rfl rfl (Nat.le_of_ble_eq_true rfl) ⟨Nat.zero_le _, Nat.zero_le _⟩ ?_
      show V G M_X7_black X T 0 0 29 [some (rv (7, 99) 0), some (iv x1), some (iv x2), some (iv x3), none] [] h7
      refine V_iconst (nI 0) 15 rfl ic_0 ?_
      refine V_istore 16 rfl (Nat.le_of_ble_eq_true rfl) rfl ?_
      show V G M_X7_black X T 0 0 32 [some (rv (7, 99) 0), some (iv x1), some (iv x2), some (iv x3), some (iv (nI 0))] [] h7
      refine V_msk [true, true, true, true, true] (lc' := [some (rv (7, 99) 0), some (iv x1), some (iv x2), some (iv x3), some (iv (nI 0))]) rfl ?_
      exact fx_e (P := fun s => V G M_X7_black X T 0 0 32 [some (rv (7, 99) 0), some (iv s.1), some (iv s.2.1), some (iv s.2.2.1), some (iv s.2.2.2.1)] [] s.2.2.2.2) (fun K32 hK32 s e => w_X7_black_32 hR K32 (fun x1 x2 x3 x4 h e => hK32 (x1, x2, x3, x4, h) e) s.1 s.2.1 s.2.2.1 s.2.2.2.1 s.2.2.2.2 e) FU (x1, x2, x3, (nI 0), h7) e
set_option maxHeartbeats 4000000 in
theorem c_X7_isDraw {G : kG} {T : List kT} {x0 : Int32} {h : kH} {r0 : Int32} {h0 : kH} (e : p_X7_isDraw x0 h = some (r0, h0)) : k_C G M_X7_isDraw T [iv x0] h (some (iv r0)) h0 := by
  refine k_C_of 0 (by decide +kernel) rfl tb_X7_isDraw rfl (fun X hR => ?_)
  show V G M_X7_isDraw X T 0 0 0 [some (iv x0)] [] h
  unfold p_X7_isDraw at e
  refine V_iload_n 0 rfl rfl ?_
  rcases if_e e with ⟨c1, e⟩ | ⟨c1, e⟩
  · refine V_if_lt 15 1 rfl (by decide +kernel) (fun _ => ?_) (fun q => absurd c1 q) 
    refine V_iconst (nI 0) 7 rfl ic_0 ?_
    cases e
    exact V_zret 8 rfl z_0 hR rfl
  · refine V_if_lt 15 1 rfl (by decide +kernel) (fun q => absurd q c1) (fun _ => ?_)
    refine V_iload_n 2 rfl rfl ?_
    refine V_sipush (nI 10000) 3 rfl sp_10000 ?_
    rcases if_e e with ⟨c4, e⟩ | ⟨c4, e⟩
    · refine V_icmp_ge 15 4 rfl (by decide +kernel) (fun _ => ?_) (fun q => absurd c4 q) 
      refine V_iconst (nI 0) 7 rfl ic_0 ?_
      cases e
      exact V_zret 8 rfl z_0 hR rfl
    · refine V_icmp_ge 15 4 rfl (by decide +kernel) (fun q => absurd q c4) (fun _ => ?_)
      refine V_iconst (nI 1) 5 rfl ic_1 ?_
      refine V_goto 16 6 rfl (by decide +kernel) ?_
      cases e
      exact V_zret 8 rfl z_1 hR rfl
set_option maxHeartbeats 4000000 in
theorem w_X7_tryEvening_13 {G : kG} {X : kX} {T : List kT} {h0 : kH} (hR : k_R G M_X7_tryEvening X T 0 0 none h0) (K13 : Int32 × Int32 × Int32 × kH → Option (kH)) (hK13 : ∀ (x1 : Int32) (x2 : Int32) (x3 : Int32) (h : kH), K13 (x1, x2, x3, h) = some h0 → V G M_X7_tryEvening X T 0 0 13 [some (rv (7, 99) 0), some (iv x1), some (iv x2), some (iv x3)] [] h) (x1 : Int32) (x2 : Int32) (x3 : Int32) (h : kH) (e : p_X7_tryEvening_13 K13 x1 x2 x3 h = some h0) : V G M_X7_tryEvening X T 0 0 13 [some (rv (7, 99) 0), some (iv x1), some (iv x2), some (iv x3)] [] h := by
  unfold p_X7_tryEvening_13 at e
  refine V_iload_n 7 rfl rfl ?_
  refine V_iload_n 8 rfl rfl ?_
  rcases if_e e with ⟨c9, e⟩ | ⟨c9, e⟩
  · refine V_icmp_ge 62 9 rfl (by decide +kernel) (fun _ => ?_) (fun q => absurd c9 q) 
    refine V_aload_n 30 rfl rfl ?_
    refine V_iconst (nI 0) 31 rfl ic_0 ?_
    refine V_iload_n 32 rfl rfl ?_
    obtain ⟨h3, d4, e⟩ := bd_e e
    refine V_callV (N := M_X7_passPots) (av := [iv (nI 0), iv x2]) (st := []) (r := none) (h' := h3) 33 rfl (c_X7_passPots d4) g_X7_passPots gv_X7_passPots lk_RX7_204 ⟨Nat.le_of_ble_eq_true rfl, Nat.le_of_ble_eq_true rfl⟩ rfl rfl (Nat.le_of_ble_eq_true rfl) ⟨Nat.zero_le _, Nat.zero_le _⟩ ?_
    show V G M_X7_tryEvening X T 0 0 68 [some (rv (7, 99) 0), some (iv x1), some (iv x2), some (iv x3)] [] h3
    cases e
    exact V_vret 34 rfl hR rfl
  · refine V_icmp_ge 62 9 rfl (by decide +kernel) (fun q => absurd q c9) (fun _ => ?_)
    refine V_aload_n 10 rfl rfl ?_
    refine V_getR 71 11 rfl fr_RX7_41 ⟨Nat.le_of_ble_eq_true rfl, Or.inr rfl⟩ rfl ?_
    refine V_getR 72 12 rfl fr_RX7_94 ⟨Nat.le_of_ble_eq_true rfl, Or.inr rfl⟩ rfl ?_
    refine V_aload_n 13 rfl rfl ?_
    refine V_getR 28 14 rfl fr_RX7_27 ⟨Nat.le_of_ble_eq_true rfl, Or.inr rfl⟩ rfl ?_
    refine V_aload_n 15 rfl rfl ?_
    refine V_getR 28 16 rfl fr_RX7_27 ⟨Nat.le_of_ble_eq_true rfl, Or.inr rfl⟩ rfl ?_
    refine V_iload_n 17 rfl rfl ?_
    refine V_iload_n 18 rfl rfl ?_
    obtain ⟨v7, h5, d6, e⟩ := bd2_e e
    refine V_callVN (N := M_X5_drawnWind) (av := [iv x1, iv x3]) (st := [rv (5, 99) 28, rv (1, 99) 72]) (r := some (iv v7)) (h' := h5) 19 rfl (c_X5_drawnWind d6) g_X5_drawnWind gv_X5_drawnWind nk_RX7_261 ⟨Nat.le_of_ble_eq_true rfl, Nat.le_of_ble_eq_true rfl⟩ rfl rfl (Nat.le_of_ble_eq_true rfl) ⟨Nat.zero_le _, Nat.zero_le _⟩ ?_
    show V G M_X7_tryEvening X T 0 0 38 [some (rv (7, 99) 0), some (iv x1), some (iv x2), some (iv x3)] [iv v7, rv (5, 99) 28, rv (1, 99) 72] h5
    obtain ⟨h8, d9, e⟩ := bd_e e
    refine V_callVN (N := M_X1_burn) (av := [rv (5, 99) 28, iv v7]) (st := []) (r := none) (h' := h8) 20 rfl (c_X1_burn d9) g_X1_burn gv_X1_burn nk_RX7_264 ⟨Nat.le_of_ble_eq_true rfl, Nat.le_of_ble_eq_true rfl⟩ rfl rfl (Nat.le_of_ble_eq_true rfl) ⟨Nat.zero_le _, Nat.zero_le _⟩ ?_
    show V G M_X7_tryEvening X T 0 0 41 [some (rv (7, 99) 0), some (iv x1), some (iv x2), some (iv x3)] [] h8
    refine V_aload_n 21 rfl rfl ?_
    refine V_getR 71 22 rfl fr_RX7_41 ⟨Nat.le_of_ble_eq_true rfl, Or.inr rfl⟩ rfl ?_
    refine V_getR 72 23 rfl fr_RX7_94 ⟨Nat.le_of_ble_eq_true rfl, Or.inr rfl⟩ rfl ?_
    refine V_aload_n 24 rfl rfl ?_
    refine V_getR 132 25 rfl fr_RX7_63 ⟨Nat.le_of_ble_eq_true rfl, Or.inr rfl⟩ rfl ?_
    refine V_iload_n 26 rfl rfl ?_
    obtain ⟨h10, d11, e⟩ := bd_e e
    refine V_callVN (N := M_X1_tell) (av := [rv (0, 99) 132, iv x3]) (st := []) (r := none) (h' := h10) 27 rfl (c_X1_tell d11) g_X1_tell gv_X1_tell nk_RX7_268 ⟨Nat.le_of_ble_eq_true rfl, Nat.le_of_ble_eq_true rfl⟩ rfl rfl (Nat.le_of_ble_eq_true rfl) ⟨Nat.zero_le _, Nat.zero_le _⟩ ?_
    show V G M_X7_tryEvening X T 0 0 56 [some (rv (7, 99) 0), some (iv x1), some (iv x2), some (iv x3)] [] h10
    refine V_iinc (x3 + (nI 1)) 28 rfl rfl (inc_1 _) (Nat.le_of_ble_eq_true rfl) rfl ?_
    show V G M_X7_tryEvening X T 0 0 59 [some (rv (7, 99) 0), some (iv x1), some (iv x2), some (iv (x3 + (nI 1)))] [] h10
    refine V_goto 13 29 rfl (by decide +kernel) ?_
    refine V_msk [true, true, true, true] (lc' := [some (rv (7, 99) 0), some (iv x1), some (iv x2), some (iv (x3 + (nI 1)))]) rfl ?_
    exact hK13 x1 x2 (x3 + (nI 1)) h10 e
set_option maxHeartbeats 4000000 in
theorem c_X7_tryEvening {G : kG} {T : List kT} {x1 : Int32} {x2 : Int32} {h : kH} {h0 : kH} (e : p_X7_tryEvening x1 x2 h = some h0) : k_C G M_X7_tryEvening T [rv (7, 99) 0, iv x1, iv x2] h none h0 := by
  refine k_C_of 1 (by decide +kernel) rfl tb_X7_tryEvening rfl (fun X hR => ?_)
  show V G M_X7_tryEvening X T 0 0 0 [some (rv (7, 99) 0), some (iv x1), some (iv x2), none] [] h
  unfold p_X7_tryEvening at e
  refine V_aload_n 0 rfl rfl ?_
  refine V_getR 71 1 rfl fr_RX7_41 ⟨Nat.le_of_ble_eq_true rfl, Or.inr rfl⟩ rfl ?_
  refine V_aload_n 2 rfl rfl ?_
  refine V_getR 31 3 rfl fr_RX7_34 ⟨Nat.le_of_ble_eq_true rfl, Or.inr rfl⟩ rfl ?_
  obtain ⟨h1, d2, e⟩ := bd_e e
  refine V_callVN (N := M_X2_copyFrom) (av := [rv (2, 99) 31]) (st := []) (r := none) (h' := h1) 4 rfl (c_X2_copyFrom d2) g_X2_copyFrom gv_X2_copyFrom nk_RX7_207 ⟨Nat.le_of_ble_eq_true rfl, Nat.le_of_ble_eq_true rfl⟩ rfl rfl (Nat.le_of_ble_eq_true rfl) ⟨Nat.zero_le _, Nat.zero_le _⟩ ?_
  show V G M_X7_tryEvening X T 0 0 11 [some (rv (7, 99) 0), some (iv x1), some (iv x2), none] [] h1
  refine V_iconst (nI 0) 5 rfl ic_0 ?_
  refine V_istore_n 6 rfl (Nat.le_of_ble_eq_true rfl) rfl ?_
  show V G M_X7_tryEvening X T 0 0 13 [some (rv (7, 99) 0), some (iv x1), some (iv x2), some (iv (nI 0))] [] h1
  refine V_msk [true, true, true, true] (lc' := [some (rv (7, 99) 0), some (iv x1), some (iv x2), some (iv (nI 0))]) rfl ?_
  exact fx_e (P := fun s => V G M_X7_tryEvening X T 0 0 13 [some (rv (7, 99) 0), some (iv s.1), some (iv s.2.1), some (iv s.2.2.1)] [] s.2.2.2) (fun K13 hK13 s e => w_X7_tryEvening_13 hR K13 (fun x1 x2 x3 h e => hK13 (x1, x2, x3, h) e) s.1 s.2.1 s.2.2.1 s.2.2.2 e) FU (x1, x2, (nI 0), h1) e
set_option maxHeartbeats 4000000 in
theorem c_X7_evening {G : kG} {T : List kT} {x1 : Int32} {x2 : Int32} {h : kH} {r0 : Int32} {h0 : kH} (e : p_X7_evening x1 x2 h = some (r0, h0)) : k_C G M_X7_evening T [rv (7, 99) 0, iv x1, iv x2] h (some (iv r0)) h0 := by
  refine k_C_of 0 (by decide +kernel) rfl tb_X7_evening rfl (fun X hR => ?_)
  show V G M_X7_evening X T 0 0 0 [some (rv (7, 99) 0), some (iv x1), some (iv x2)] [] h
  unfold p_X7_evening at e
  refine V_iload_n 0 rfl rfl ?_
  obtain ⟨v3, h1, d2, e⟩ := bd2_e e
  refine V_callS (N := M_X7_isDraw) (av := [iv x1]) (st := []) (r := some (iv v3)) (h' := h1) 1 rfl (c_X7_isDraw d2) g_X7_isDraw gs_X7_isDraw lk_RX7_236 ⟨Nat.le_of_ble_eq_true rfl, Nat.le_of_ble_eq_true rfl⟩ rfl (Nat.le_of_ble_eq_true rfl) ⟨Nat.zero_le _, Nat.zero_le _⟩ ?_
  show V G M_X7_evening X T 0 0 4 [some (rv (7, 99) 0), some (iv x1), some (iv x2)] [iv v3] h1
  rcases if_e e with ⟨c2, e⟩ | ⟨c2, e⟩
  · refine V_if_eq 14 2 rfl (by decide +kernel) (fun _ => ?_) (fun q => absurd c2 q) 
    refine V_iconst (-1 : Int32) 6 rfl ic_m1 ?_
    cases e
    exact V_iret 7 rfl hR rfl
  · refine V_if_eq 14 2 rfl (by decide +kernel) (fun q => absurd q c2) (fun _ => ?_)
    refine V_iload_n 3 rfl rfl ?_
    obtain ⟨v6, h4, d5, e⟩ := bd2_e e
    refine V_callS (N := M_X7_isLength) (av := [iv x2]) (st := []) (r := some (iv v6)) (h' := h4) 4 rfl (c_X7_isLength d5) g_X7_isLength gs_X7_isLength lk_RX7_239 ⟨Nat.le_of_ble_eq_true rfl, Nat.le_of_ble_eq_true rfl⟩ rfl (Nat.le_of_ble_eq_true rfl) ⟨Nat.zero_le _, Nat.zero_le _⟩ ?_
    show V G M_X7_evening X T 0 0 11 [some (rv (7, 99) 0), some (iv x1), some (iv x2)] [iv v6] h4
    rcases if_e e with ⟨c5, e⟩ | ⟨c5, e⟩
    · refine V_if_ne 16 5 rfl (by decide +kernel) (fun q => absurd c5 q) (fun _ => ?_)
      refine V_iconst (-1 : Int32) 6 rfl ic_m1 ?_
      cases e
      exact V_iret 7 rfl hR rfl
    · refine V_if_ne 16 5 rfl (by decide +kernel) (fun _ => ?_) (fun q => absurd q c5) 
      refine V_aload_n 8 rfl rfl ?_
      refine V_iload_n 9 rfl rfl ?_
      refine V_iload_n 10 rfl rfl ?_
      obtain ⟨h7, d8, e⟩ := bd_e e
      refine V_callV (N := M_X7_tryEvening) (av := [iv x1, iv x2]) (st := []) (r := none) (h' := h7) 11 rfl (c_X7_tryEvening d8) g_X7_tryEvening gv_X7_tryEvening lk_RX7_242 ⟨Nat.le_of_ble_eq_true rfl, Nat.le_of_ble_eq_true rfl⟩ rfl rfl (Nat.le_of_ble_eq_true rfl) ⟨Nat.zero_le _, Nat.zero_le _⟩ ?_
      show V G M_X7_evening X T 0 0 22 [some (rv (7, 99) 0), some (iv x1), some (iv x2)] [] h7
      refine V_aload_n 12 rfl rfl ?_
      refine V_getR 71 13 rfl fr_RX7_41 ⟨Nat.le_of_ble_eq_true rfl, Or.inr rfl⟩ rfl ?_
      refine V_getR 79 14 rfl fr_RX7_120 ⟨Nat.le_of_ble_eq_true rfl, Or.inr rfl⟩ rfl ?_
      refine V_aload_n 15 rfl rfl ?_
      refine V_getR 28 16 rfl fr_RX7_27 ⟨Nat.le_of_ble_eq_true rfl, Or.inr rfl⟩ rfl ?_
      obtain ⟨v11, h9, d10, e⟩ := bd2_e e
      refine V_callVN (N := M_X4_countGood) (av := [rv (5, 99) 28]) (st := []) (r := some (iv v11)) (h' := h9) 17 rfl (c_X4_countGood d10) g_X4_countGood gv_X4_countGood nk_RX7_180 ⟨Nat.le_of_ble_eq_true rfl, Nat.le_of_ble_eq_true rfl⟩ rfl rfl (Nat.le_of_ble_eq_true rfl) ⟨Nat.zero_le _, Nat.zero_le _⟩ ?_
      show V G M_X7_evening X T 0 0 36 [some (rv (7, 99) 0), some (iv x1), some (iv x2)] [iv v11] h9
      cases e
      exact V_iret 18 rfl hR rfl
set_option maxHeartbeats 4000000 in
theorem w_X7_ten_30 {G : kG} {X : kX} {T : List kT} {r0 : Int32} {h0 : kH} (hR : k_R G M_X7_ten X T 0 0 (some (iv r0)) h0) (K30 : Int32 × Int32 × Int32 × Int32 × Int32 × kH → Option (Int32 × kH)) (hK30 : ∀ (x1 : Int32) (x2 : Int32) (x3 : Int32) (x4 : Int32) (x5 : Int32) (h : kH), K30 (x1, x2, x3, x4, x5, h) = some (r0, h0) → V G M_X7_ten X T 0 0 30 [some (rv (7, 99) 0), some (iv x1), some (iv x2), some (iv x3), some (iv x4), some (iv x5)] [] h) (x1 : Int32) (x2 : Int32) (x3 : Int32) (x4 : Int32) (x5 : Int32) (h : kH) (e : p_X7_ten_30 K30 x1 x2 x3 x4 x5 h = some (r0, h0)) : V G M_X7_ten X T 0 0 30 [some (rv (7, 99) 0), some (iv x1), some (iv x2), some (iv x3), some (iv x4), some (iv x5)] [] h := by
  unfold p_X7_ten_30 at e
  refine V_iload 16 rfl rfl ?_
  refine V_bipush (nI 10) 17 rfl bp_10 ?_
  rcases if_e e with ⟨c18, e⟩ | ⟨c18, e⟩
  · refine V_icmp_ge 77 18 rfl (by decide +kernel) (fun _ => ?_) (fun q => absurd c18 q) 
    refine V_iload 38 rfl rfl ?_
    cases e
    exact V_iret 39 rfl hR rfl
  · refine V_icmp_ge 77 18 rfl (by decide +kernel) (fun q => absurd q c18) (fun _ => ?_)
    refine V_aload_n 19 rfl rfl ?_
    refine V_iload_n 20 rfl rfl ?_
    refine V_iload 21 rfl rfl ?_
    refine V_iadd 22 rfl ?_
    refine V_sipush (nI 10000) 23 rfl sp_10000 ?_
    refine V_rem 24 rfl (by decide +kernel) ?_
    refine V_iload_n 25 rfl rfl ?_
    obtain ⟨h10, d11, e⟩ := bd_e e
    refine V_callV (N := M_X7_tryEvening) (av := [iv (krem (x1 + x5) (nI 10000)), iv x2]) (st := []) (r := none) (h' := h10) 26 rfl (c_X7_tryEvening d11) g_X7_tryEvening gv_X7_tryEvening lk_RX7_242 ⟨Nat.le_of_ble_eq_true rfl, Nat.le_of_ble_eq_true rfl⟩ rfl rfl (Nat.le_of_ble_eq_true rfl) ⟨Nat.zero_le _, Nat.zero_le _⟩ ?_
    show V G M_X7_ten X T 0 0 50 [some (rv (7, 99) 0), some (iv x1), some (iv x2), some (iv x3), some (iv x4), some (iv x5)] [] h10
    refine V_aload_n 27 rfl rfl ?_
    refine V_getR 71 28 rfl fr_RX7_41 ⟨Nat.le_of_ble_eq_true rfl, Or.inr rfl⟩ rfl ?_
    refine V_getR 79 29 rfl fr_RX7_120 ⟨Nat.le_of_ble_eq_true rfl, Or.inr rfl⟩ rfl ?_
    refine V_iload_n 30 rfl rfl ?_
    refine V_aload_n 31 rfl rfl ?_
    refine V_getR 28 32 rfl fr_RX7_27 ⟨Nat.le_of_ble_eq_true rfl, Or.inr rfl⟩ rfl ?_
    obtain ⟨v14, h12, d13, e⟩ := bd2_e e
    refine V_callVN (N := M_X4_lossOf) (av := [iv x3, rv (5, 99) 28]) (st := []) (r := some (iv v14)) (h' := h12) 33 rfl (c_X4_lossOf d13) g_X4_lossOf gv_X4_lossOf nk_RX7_145 ⟨Nat.le_of_ble_eq_true rfl, Nat.le_of_ble_eq_true rfl⟩ rfl rfl (Nat.le_of_ble_eq_true rfl) ⟨Nat.zero_le _, Nat.zero_le _⟩ ?_
    show V G M_X7_ten X T 0 0 65 [some (rv (7, 99) 0), some (iv x1), some (iv x2), some (iv x3), some (iv x4), some (iv x5)] [iv v14] h12
    rcases if_e e with ⟨c34, e⟩ | ⟨c34, e⟩
    · refine V_if_ne 71 34 rfl (by decide +kernel) (fun q => absurd c34 q) (fun _ => ?_)
      refine V_iinc (x4 + (nI 1)) 35 rfl rfl (inc_1 _) (Nat.le_of_ble_eq_true rfl) rfl ?_
      show V G M_X7_ten X T 0 0 71 [some (rv (7, 99) 0), some (iv x1), some (iv x2), some (iv x3), some (iv (x4 + (nI 1))), some (iv x5)] [] h12
      refine V_iinc (x5 + (nI 1)) 36 rfl rfl (inc_1 _) (Nat.le_of_ble_eq_true rfl) rfl ?_
      show V G M_X7_ten X T 0 0 74 [some (rv (7, 99) 0), some (iv x1), some (iv x2), some (iv x3), some (iv (x4 + (nI 1))), some (iv (x5 + (nI 1)))] [] h12
      refine V_goto 30 37 rfl (by decide +kernel) ?_
      refine V_msk [true, true, true, true, true, true] (lc' := [some (rv (7, 99) 0), some (iv x1), some (iv x2), some (iv x3), some (iv (x4 + (nI 1))), some (iv (x5 + (nI 1)))]) rfl ?_
      exact hK30 x1 x2 x3 (x4 + (nI 1)) (x5 + (nI 1)) h12 e
    · refine V_if_ne 71 34 rfl (by decide +kernel) (fun _ => ?_) (fun q => absurd q c34) 
      refine V_iinc (x5 + (nI 1)) 36 rfl rfl (inc_1 _) (Nat.le_of_ble_eq_true rfl) rfl ?_
      show V G M_X7_ten X T 0 0 74 [some (rv (7, 99) 0), some (iv x1), some (iv x2), some (iv x3), some (iv x4), some (iv (x5 + (nI 1)))] [] h12
      refine V_goto 30 37 rfl (by decide +kernel) ?_
      refine V_msk [true, true, true, true, true, true] (lc' := [some (rv (7, 99) 0), some (iv x1), some (iv x2), some (iv x3), some (iv x4), some (iv (x5 + (nI 1)))]) rfl ?_
      exact hK30 x1 x2 x3 x4 (x5 + (nI 1)) h12 e
set_option maxHeartbeats 4000000 in
theorem c_X7_ten {G : kG} {T : List kT} {x1 : Int32} {x2 : Int32} {x3 : Int32} {h : kH} {r0 : Int32} {h0 : kH} (e : p_X7_ten x1 x2 x3 h = some (r0, h0)) : k_C G M_X7_ten T [rv (7, 99) 0, iv x1, iv x2, iv x3] h (some (iv r0)) h0 := by
  refine k_C_of 2 (by decide +kernel) rfl tb_X7_ten rfl (fun X hR => ?_)
  show V G M_X7_ten X T 0 0 0 [some (rv (7, 99) 0), some (iv x1), some (iv x2), some (iv x3), none, none] [] h
  unfold p_X7_ten at e
  refine V_iload_n 0 rfl rfl ?_
  obtain ⟨v3, h1, d2, e⟩ := bd2_e e
  refine V_callS (N := M_X7_isDraw) (av := [iv x1]) (st := []) (r := some (iv v3)) (h' := h1) 1 rfl (c_X7_isDraw d2) g_X7_isDraw gs_X7_isDraw lk_RX7_236 ⟨Nat.le_of_ble_eq_true rfl, Nat.le_of_ble_eq_true rfl⟩ rfl (Nat.le_of_ble_eq_true rfl) ⟨Nat.zero_le _, Nat.zero_le _⟩ ?_
  show V G M_X7_ten X T 0 0 4 [some (rv (7, 99) 0), some (iv x1), some (iv x2), some (iv x3), none, none] [iv v3] h1
  rcases if_e e with ⟨c2, e⟩ | ⟨c2, e⟩
  · refine V_if_eq 22 2 rfl (by decide +kernel) (fun _ => ?_) (fun q => absurd c2 q) 
    refine V_iconst (-1 : Int32) 10 rfl ic_m1 ?_
    cases e
    exact V_iret 11 rfl hR rfl
  · refine V_if_eq 22 2 rfl (by decide +kernel) (fun q => absurd q c2) (fun _ => ?_)
    refine V_iload_n 3 rfl rfl ?_
    obtain ⟨v6, h4, d5, e⟩ := bd2_e e
    refine V_callS (N := M_X7_isLength) (av := [iv x2]) (st := []) (r := some (iv v6)) (h' := h4) 4 rfl (c_X7_isLength d5) g_X7_isLength gs_X7_isLength lk_RX7_239 ⟨Nat.le_of_ble_eq_true rfl, Nat.le_of_ble_eq_true rfl⟩ rfl (Nat.le_of_ble_eq_true rfl) ⟨Nat.zero_le _, Nat.zero_le _⟩ ?_
    show V G M_X7_ten X T 0 0 11 [some (rv (7, 99) 0), some (iv x1), some (iv x2), some (iv x3), none, none] [iv v6] h4
    rcases if_e e with ⟨c5, e⟩ | ⟨c5, e⟩
    · refine V_if_eq 22 5 rfl (by decide +kernel) (fun _ => ?_) (fun q => absurd c5 q) 
      refine V_iconst (-1 : Int32) 10 rfl ic_m1 ?_
      cases e
      exact V_iret 11 rfl hR rfl
    · refine V_if_eq 22 5 rfl (by decide +kernel) (fun q => absurd q c5) (fun _ => ?_)
      refine V_aload_n 6 rfl rfl ?_
      refine V_iload_n 7 rfl rfl ?_
      obtain ⟨v9, h7, d8, e⟩ := bd2_e e
      refine V_callV (N := M_X7_isPot) (av := [iv x3]) (st := []) (r := some (iv v9)) (h' := h7) 8 rfl (c_X7_isPot d8) g_X7_isPot gv_X7_isPot lk_RX7_130 ⟨Nat.le_of_ble_eq_true rfl, Nat.le_of_ble_eq_true rfl⟩ rfl rfl (Nat.le_of_ble_eq_true rfl) ⟨Nat.zero_le _, Nat.zero_le _⟩ ?_
      show V G M_X7_ten X T 0 0 19 [some (rv (7, 99) 0), some (iv x1), some (iv x2), some (iv x3), none, none] [iv v9] h7
      rcases if_e e with ⟨c9, e⟩ | ⟨c9, e⟩
      · refine V_if_ne 24 9 rfl (by decide +kernel) (fun q => absurd c9 q) (fun _ => ?_)
        refine V_iconst (-1 : Int32) 10 rfl ic_m1 ?_
        cases e
        exact V_iret 11 rfl hR rfl
      · refine V_if_ne 24 9 rfl (by decide +kernel) (fun _ => ?_) (fun q => absurd q c9) 
        refine V_iconst (nI 0) 12 rfl ic_0 ?_
        refine V_istore 13 rfl (Nat.le_of_ble_eq_true rfl) rfl ?_
        show V G M_X7_ten X T 0 0 27 [some (rv (7, 99) 0), some (iv x1), some (iv x2), some (iv x3), some (iv (nI 0)), none] [] h7
        refine V_iconst (nI 0) 14 rfl ic_0 ?_
        refine V_istore 15 rfl (Nat.le_of_ble_eq_true rfl) rfl ?_
        show V G M_X7_ten X T 0 0 30 [some (rv (7, 99) 0), some (iv x1), some (iv x2), some (iv x3), some (iv (nI 0)), some (iv (nI 0))] [] h7
        refine V_msk [true, true, true, true, true, true] (lc' := [some (rv (7, 99) 0), some (iv x1), some (iv x2), some (iv x3), some (iv (nI 0)), some (iv (nI 0))]) rfl ?_
        exact fx_e (P := fun s => V G M_X7_ten X T 0 0 30 [some (rv (7, 99) 0), some (iv s.1), some (iv s.2.1), some (iv s.2.2.1), some (iv s.2.2.2.1), some (iv s.2.2.2.2.1)] [] s.2.2.2.2.2) (fun K30 hK30 s e => w_X7_ten_30 hR K30 (fun x1 x2 x3 x4 x5 h e => hK30 (x1, x2, x3, x4, x5, h) e) s.1 s.2.1 s.2.2.1 s.2.2.2.1 s.2.2.2.2.1 s.2.2.2.2.2 e) FU (x1, x2, x3, (nI 0), (nI 0), h7) e
set_option maxHeartbeats 4000000 in
theorem w_X7_sherd_160 {G : kG} {X : kX} {T : List kT} {r0 : Int32} {h0 : kH} (hR : k_R G M_X7_sherd X T 0 0 (some (iv r0)) h0) (K59 : Int32 × Int32 × Int32 × Int32 × Int32 × kH → Option (Int32 × kH)) (K101 : Int32 × Int32 × Int32 × Int32 × Int32 × Int32 × kH → Option (Int32 × kH)) (hK59 : ∀ (x1 : Int32) (x2 : Int32) (x3 : Int32) (x4 : Int32) (x5 : Int32) (h : kH), K59 (x1, x2, x3, x4, x5, h) = some (r0, h0) → V G M_X7_sherd X T 0 0 59 [some (rv (7, 99) 0), some (iv x1), some (iv x2), some (iv x3), some (iv x4), some (iv x5), none, none] [] h) (hK101 : ∀ (x1 : Int32) (x2 : Int32) (x3 : Int32) (x4 : Int32) (x5 : Int32) (x6 : Int32) (h : kH), K101 (x1, x2, x3, x4, x5, x6, h) = some (r0, h0) → V G M_X7_sherd X T 0 0 101 [some (rv (7, 99) 0), some (iv x1), some (iv x2), some (iv x3), some (iv x4), some (iv x5), some (iv x6), none] [] h) (x1 : Int32) (x2 : Int32) (x3 : Int32) (x4 : Int32) (x5 : Int32) (x6 : Int32) (s0 : Int32) (h : kH) (e : p_X7_sherd_160 K59 K101 x1 x2 x3 x4 x5 x6 s0 h = some (r0, h0)) : V G M_X7_sherd X T 0 0 160 [some (rv (7, 99) 0), some (iv x1), some (iv x2), some (iv x3), some (iv x4), some (iv x5), some (iv x6), none] [iv s0] h := by
  unfold p_X7_sherd_160 at e
  refine V_istore 80 rfl (Nat.le_of_ble_eq_true rfl) rfl ?_
  show V G M_X7_sherd X T 0 0 162 [some (rv (7, 99) 0), some (iv x1), some (iv x2), some (iv x3), some (iv x4), some (iv x5), some (iv x6), some (iv s0)] [] h
  refine V_iload 81 rfl rfl ?_
  rcases if_e e with ⟨c82, e⟩ | ⟨c82, e⟩
  · refine V_if_eq 178 82 rfl (by decide +kernel) (fun _ => ?_) (fun q => absurd c82 q) 
    refine V_iinc (x6 + (nI 30)) 88 rfl rfl (inc_30 _) (Nat.le_of_ble_eq_true rfl) rfl ?_
    show V G M_X7_sherd X T 0 0 181 [some (rv (7, 99) 0), some (iv x1), some (iv x2), some (iv x3), some (iv x4), some (iv x5), some (iv (x6 + (nI 30))), some (iv s0)] [] h
    refine V_goto 101 89 rfl (by decide +kernel) ?_
    refine V_msk [true, true, true, true, true, true, true, false] (lc' := [some (rv (7, 99) 0), some (iv x1), some (iv x2), some (iv x3), some (iv x4), some (iv x5), some (iv (x6 + (nI 30))), none]) rfl ?_
    exact hK101 x1 x2 x3 x4 x5 (x6 + (nI 30)) h e
  · refine V_if_eq 178 82 rfl (by decide +kernel) (fun q => absurd q c82) (fun _ => ?_)
    refine V_aload_n 83 rfl rfl ?_
    refine V_getR 134 84 rfl fr_RX7_70 ⟨Nat.le_of_ble_eq_true rfl, Or.inr rfl⟩ rfl ?_
    refine V_iload 85 rfl rfl ?_
    refine V_iload 86 rfl rfl ?_
    obtain ⟨h20, d21, e⟩ := bd_e e
    refine V_callVN (N := M_X6_add) (av := [iv x5, iv x6]) (st := []) (r := none) (h' := h20) 87 rfl (c_X6_add d21) g_X6_add gv_X6_add nk_RX7_248 ⟨Nat.le_of_ble_eq_true rfl, Nat.le_of_ble_eq_true rfl⟩ rfl rfl (Nat.le_of_ble_eq_true rfl) ⟨Nat.zero_le _, Nat.zero_le _⟩ ?_
    show V G M_X7_sherd X T 0 0 178 [some (rv (7, 99) 0), some (iv x1), some (iv x2), some (iv x3), some (iv x4), some (iv x5), some (iv x6), some (iv s0)] [] h20
    refine V_iinc (x6 + (nI 30)) 88 rfl rfl (inc_30 _) (Nat.le_of_ble_eq_true rfl) rfl ?_
    show V G M_X7_sherd X T 0 0 181 [some (rv (7, 99) 0), some (iv x1), some (iv x2), some (iv x3), some (iv x4), some (iv x5), some (iv (x6 + (nI 30))), some (iv s0)] [] h20
    refine V_goto 101 89 rfl (by decide +kernel) ?_
    refine V_msk [true, true, true, true, true, true, true, false] (lc' := [some (rv (7, 99) 0), some (iv x1), some (iv x2), some (iv x3), some (iv x4), some (iv x5), some (iv (x6 + (nI 30))), none]) rfl ?_
    exact hK101 x1 x2 x3 x4 x5 (x6 + (nI 30)) h20 e
set_option maxHeartbeats 4000000 in
theorem w_X7_sherd_159 {G : kG} {X : kX} {T : List kT} {r0 : Int32} {h0 : kH} (hR : k_R G M_X7_sherd X T 0 0 (some (iv r0)) h0) (K59 : Int32 × Int32 × Int32 × Int32 × Int32 × kH → Option (Int32 × kH)) (K101 : Int32 × Int32 × Int32 × Int32 × Int32 × Int32 × kH → Option (Int32 × kH)) (hK59 : ∀ (x1 : Int32) (x2 : Int32) (x3 : Int32) (x4 : Int32) (x5 : Int32) (h : kH), K59 (x1, x2, x3, x4, x5, h) = some (r0, h0) → V G M_X7_sherd X T 0 0 59 [some (rv (7, 99) 0), some (iv x1), some (iv x2), some (iv x3), some (iv x4), some (iv x5), none, none] [] h) (hK101 : ∀ (x1 : Int32) (x2 : Int32) (x3 : Int32) (x4 : Int32) (x5 : Int32) (x6 : Int32) (h : kH), K101 (x1, x2, x3, x4, x5, x6, h) = some (r0, h0) → V G M_X7_sherd X T 0 0 101 [some (rv (7, 99) 0), some (iv x1), some (iv x2), some (iv x3), some (iv x4), some (iv x5), some (iv x6), none] [] h) (x1 : Int32) (x2 : Int32) (x3 : Int32) (x4 : Int32) (x5 : Int32) (x6 : Int32) (h : kH) (e : p_X7_sherd_159 K59 K101 x1 x2 x3 x4 x5 x6 h = some (r0, h0)) : V G M_X7_sherd X T 0 0 159 [some (rv (7, 99) 0), some (iv x1), some (iv x2), some (iv x3), some (iv x4), some (iv x5), some (iv x6), none] [] h := by
  unfold p_X7_sherd_159 at e
  refine V_iconst (nI 0) 79 rfl ic_0 ?_
  refine V_msk [true, true, true, true, true, true, true, false] (lc' := [some (rv (7, 99) 0), some (iv x1), some (iv x2), some (iv x3), some (iv x4), some (iv x5), some (iv x6), none]) rfl ?_
  exact w_X7_sherd_160 hR K59 K101 hK59 hK101 x1 x2 x3 x4 x5 x6 (nI 0) h e
set_option maxHeartbeats 4000000 in
theorem w_X7_sherd_101 {G : kG} {X : kX} {T : List kT} {r0 : Int32} {h0 : kH} (hR : k_R G M_X7_sherd X T 0 0 (some (iv r0)) h0) (K59 : Int32 × Int32 × Int32 × Int32 × Int32 × kH → Option (Int32 × kH)) (K101 : Int32 × Int32 × Int32 × Int32 × Int32 × Int32 × kH → Option (Int32 × kH)) (hK59 : ∀ (x1 : Int32) (x2 : Int32) (x3 : Int32) (x4 : Int32) (x5 : Int32) (h : kH), K59 (x1, x2, x3, x4, x5, h) = some (r0, h0) → V G M_X7_sherd X T 0 0 59 [some (rv (7, 99) 0), some (iv x1), some (iv x2), some (iv x3), some (iv x4), some (iv x5), none, none] [] h) (hK101 : ∀ (x1 : Int32) (x2 : Int32) (x3 : Int32) (x4 : Int32) (x5 : Int32) (x6 : Int32) (h : kH), K101 (x1, x2, x3, x4, x5, x6, h) = some (r0, h0) → V G M_X7_sherd X T 0 0 101 [some (rv (7, 99) 0), some (iv x1), some (iv x2), some (iv x3), some (iv x4), some (iv x5), some (iv x6), none] [] h) (x1 : Int32) (x2 : Int32) (x3 : Int32) (x4 : Int32) (x5 : Int32) (x6 : Int32) (h : kH) (e : p_X7_sherd_101 K59 K101 x1 x2 x3 x4 x5 x6 h = some (r0, h0)) : V G M_X7_sherd X T 0 0 101 [some (rv (7, 99) 0), some (iv x1), some (iv x2), some (iv x3), some (iv x4), some (iv x5), some (iv x6), none] [] h := by
  unfold p_X7_sherd_101 at e
  refine V_iload 51 rfl rfl ?_
  refine V_sipush (nI 240) 52 rfl sp_240 ?_
  rcases if_e e with ⟨c53, e⟩ | ⟨c53, e⟩
  · refine V_icmp_gt 184 53 rfl (by decide +kernel) (fun _ => ?_) (fun q => absurd c53 q) 
    refine V_iinc (x5 + (nI 10)) 90 rfl rfl (inc_10 _) (Nat.le_of_ble_eq_true rfl) rfl ?_
    show V G M_X7_sherd X T 0 0 187 [some (rv (7, 99) 0), some (iv x1), some (iv x2), some (iv x3), some (iv x4), some (iv (x5 + (nI 10))), some (iv x6), none] [] h
    refine V_goto 59 91 rfl (by decide +kernel) ?_
    refine V_msk [true, true, true, true, true, true, false, false] (lc' := [some (rv (7, 99) 0), some (iv x1), some (iv x2), some (iv x3), some (iv x4), some (iv (x5 + (nI 10))), none, none]) rfl ?_
    exact hK59 x1 x2 x3 x4 (x5 + (nI 10)) h e
  · refine V_icmp_gt 184 53 rfl (by decide +kernel) (fun q => absurd q c53) (fun _ => ?_)
    refine V_aload_n 54 rfl rfl ?_
    refine V_iload 55 rfl rfl ?_
    refine V_bipush (nI 30) 56 rfl bp_30 ?_
    refine V_isub 57 rfl ?_
    refine V_iload 58 rfl rfl ?_
    obtain ⟨h15, d16, e⟩ := bd_e e
    refine V_callV (N := M_X7_passPots) (av := [iv (x6 - (nI 30)), iv x6]) (st := []) (r := none) (h' := h15) 59 rfl (c_X7_passPots d16) g_X7_passPots gv_X7_passPots lk_RX7_204 ⟨Nat.le_of_ble_eq_true rfl, Nat.le_of_ble_eq_true rfl⟩ rfl rfl (Nat.le_of_ble_eq_true rfl) ⟨Nat.zero_le _, Nat.zero_le _⟩ ?_
    show V G M_X7_sherd X T 0 0 120 [some (rv (7, 99) 0), some (iv x1), some (iv x2), some (iv x3), some (iv x4), some (iv x5), some (iv x6), none] [] h15
    refine V_aload_n 60 rfl rfl ?_
    refine V_getR 71 61 rfl fr_RX7_41 ⟨Nat.le_of_ble_eq_true rfl, Or.inr rfl⟩ rfl ?_
    refine V_getR 79 62 rfl fr_RX7_120 ⟨Nat.le_of_ble_eq_true rfl, Or.inr rfl⟩ rfl ?_
    refine V_iload_n 63 rfl rfl ?_
    refine V_aload_n 64 rfl rfl ?_
    refine V_getR 28 65 rfl fr_RX7_27 ⟨Nat.le_of_ble_eq_true rfl, Or.inr rfl⟩ rfl ?_
    obtain ⟨v19, h17, d18, e⟩ := bd2_e e
    refine V_callVN (N := M_X4_lossOf) (av := [iv x1, rv (5, 99) 28]) (st := []) (r := some (iv v19)) (h' := h17) 66 rfl (c_X4_lossOf d18) g_X4_lossOf gv_X4_lossOf nk_RX7_145 ⟨Nat.le_of_ble_eq_true rfl, Nat.le_of_ble_eq_true rfl⟩ rfl rfl (Nat.le_of_ble_eq_true rfl) ⟨Nat.zero_le _, Nat.zero_le _⟩ ?_
    show V G M_X7_sherd X T 0 0 135 [some (rv (7, 99) 0), some (iv x1), some (iv x2), some (iv x3), some (iv x4), some (iv x5), some (iv x6), none] [iv v19] h17
    refine V_iload_n 67 rfl rfl ?_
    rcases if_e e with ⟨c68, e⟩ | ⟨c68, e⟩
    · refine V_icmp_ne 159 68 rfl (by decide +kernel) (fun q => absurd c68 q) (fun _ => ?_)
      refine V_aload_n 69 rfl rfl ?_
      refine V_getR 71 70 rfl fr_RX7_41 ⟨Nat.le_of_ble_eq_true rfl, Or.inr rfl⟩ rfl ?_
      refine V_getR 79 71 rfl fr_RX7_120 ⟨Nat.le_of_ble_eq_true rfl, Or.inr rfl⟩ rfl ?_
      refine V_getR 88 72 rfl fr_RX7_149 ⟨Nat.le_of_ble_eq_true rfl, Or.inl (Nat.le_of_ble_eq_true rfl)⟩ rfl ?_
      refine V_iload_n 73 rfl rfl ?_
      obtain ⟨g22, e⟩ := gd_e e
      refine V_iald 74 rfl g22 ?_
      refine V_iload_n 75 rfl rfl ?_
      rcases if_e e with ⟨c76, e⟩ | ⟨c76, e⟩
      · refine V_icmp_ne 159 76 rfl (by decide +kernel) (fun q => absurd c76 q) (fun _ => ?_)
        refine V_iconst (nI 1) 77 rfl ic_1 ?_
        refine V_goto 160 78 rfl (by decide +kernel) ?_
        refine V_msk [true, true, true, true, true, true, true, false] (lc' := [some (rv (7, 99) 0), some (iv x1), some (iv x2), some (iv x3), some (iv x4), some (iv x5), some (iv x6), none]) rfl ?_
        exact w_X7_sherd_160 hR K59 K101 hK59 hK101 x1 x2 x3 x4 x5 x6 (nI 1) h17 e
      · refine V_icmp_ne 159 76 rfl (by decide +kernel) (fun _ => ?_) (fun q => absurd q c76) 
        refine V_msk [true, true, true, true, true, true, true, false] (lc' := [some (rv (7, 99) 0), some (iv x1), some (iv x2), some (iv x3), some (iv x4), some (iv x5), some (iv x6), none]) rfl ?_
        exact w_X7_sherd_159 hR K59 K101 hK59 hK101 x1 x2 x3 x4 x5 x6 h17 e
    · refine V_icmp_ne 159 68 rfl (by decide +kernel) (fun _ => ?_) (fun q => absurd q c68) 
      refine V_msk [true, true, true, true, true, true, true, false] (lc' := [some (rv (7, 99) 0), some (iv x1), some (iv x2), some (iv x3), some (iv x4), some (iv x5), some (iv x6), none]) rfl ?_
      exact w_X7_sherd_159 hR K59 K101 hK59 hK101 x1 x2 x3 x4 x5 x6 h17 e
set_option maxHeartbeats 4000000 in
theorem w_X7_sherd_59 {G : kG} {X : kX} {T : List kT} {r0 : Int32} {h0 : kH} (hR : k_R G M_X7_sherd X T 0 0 (some (iv r0)) h0) (K59 : Int32 × Int32 × Int32 × Int32 × Int32 × kH → Option (Int32 × kH)) (hK59 : ∀ (x1 : Int32) (x2 : Int32) (x3 : Int32) (x4 : Int32) (x5 : Int32) (h : kH), K59 (x1, x2, x3, x4, x5, h) = some (r0, h0) → V G M_X7_sherd X T 0 0 59 [some (rv (7, 99) 0), some (iv x1), some (iv x2), some (iv x3), some (iv x4), some (iv x5), none, none] [] h) (x1 : Int32) (x2 : Int32) (x3 : Int32) (x4 : Int32) (x5 : Int32) (h : kH) (e : p_X7_sherd_59 K59 x1 x2 x3 x4 x5 h = some (r0, h0)) : V G M_X7_sherd X T 0 0 59 [some (rv (7, 99) 0), some (iv x1), some (iv x2), some (iv x3), some (iv x4), some (iv x5), none, none] [] h := by
  unfold p_X7_sherd_59 at e
  refine V_iload 32 rfl rfl ?_
  refine V_bipush (nI 90) 33 rfl bp_90 ?_
  rcases if_e e with ⟨c34, e⟩ | ⟨c34, e⟩
  · refine V_icmp_gt 190 34 rfl (by decide +kernel) (fun _ => ?_) (fun q => absurd c34 q) 
    refine V_aload_n 92 rfl rfl ?_
    refine V_getR 134 93 rfl fr_RX7_70 ⟨Nat.le_of_ble_eq_true rfl, Or.inr rfl⟩ rfl ?_
    refine V_iload 94 rfl rfl ?_
    obtain ⟨v10, h8, d9, e⟩ := bd2_e e
    refine V_callVN (N := M_X6_told) (av := [iv x4]) (st := []) (r := some (iv v10)) (h' := h8) 95 rfl (c_X6_told d9) g_X6_told gv_X6_told nk_RX7_251 ⟨Nat.le_of_ble_eq_true rfl, Nat.le_of_ble_eq_true rfl⟩ rfl rfl (Nat.le_of_ble_eq_true rfl) ⟨Nat.zero_le _, Nat.zero_le _⟩ ?_
    show V G M_X7_sherd X T 0 0 199 [some (rv (7, 99) 0), some (iv x1), some (iv x2), some (iv x3), some (iv x4), some (iv x5), none, none] [iv v10] h8
    cases e
    exact V_iret 96 rfl hR rfl
  · refine V_icmp_gt 190 34 rfl (by decide +kernel) (fun q => absurd q c34) (fun _ => ?_)
    refine V_aload_n 35 rfl rfl ?_
    refine V_getR 71 36 rfl fr_RX7_41 ⟨Nat.le_of_ble_eq_true rfl, Or.inr rfl⟩ rfl ?_
    refine V_getR 79 37 rfl fr_RX7_120 ⟨Nat.le_of_ble_eq_true rfl, Or.inr rfl⟩ rfl ?_
    refine V_aload_n 38 rfl rfl ?_
    refine V_getR 31 39 rfl fr_RX7_34 ⟨Nat.le_of_ble_eq_true rfl, Or.inr rfl⟩ rfl ?_
    refine V_getR 39 40 rfl fr_RX7_120 ⟨Nat.le_of_ble_eq_true rfl, Or.inr rfl⟩ rfl ?_
    obtain ⟨h11, d12, e⟩ := bd_e e
    refine V_callVN (N := M_X4_copyFrom) (av := [rv (4, 99) 39]) (st := []) (r := none) (h' := h11) 41 rfl (c_X4_copyFrom d12) g_X4_copyFrom gv_X4_copyFrom nk_RX7_194 ⟨Nat.le_of_ble_eq_true rfl, Nat.le_of_ble_eq_true rfl⟩ rfl rfl (Nat.le_of_ble_eq_true rfl) ⟨Nat.zero_le _, Nat.zero_le _⟩ ?_
    show V G M_X7_sherd X T 0 0 83 [some (rv (7, 99) 0), some (iv x1), some (iv x2), some (iv x3), some (iv x4), some (iv x5), none, none] [] h11
    refine V_aload_n 42 rfl rfl ?_
    refine V_getR 71 43 rfl fr_RX7_41 ⟨Nat.le_of_ble_eq_true rfl, Or.inr rfl⟩ rfl ?_
    refine V_getR 79 44 rfl fr_RX7_120 ⟨Nat.le_of_ble_eq_true rfl, Or.inr rfl⟩ rfl ?_
    refine V_getR 82 45 rfl fr_RX7_139 ⟨Nat.le_of_ble_eq_true rfl, Or.inl (Nat.le_of_ble_eq_true rfl)⟩ rfl ?_
    refine V_iload_n 46 rfl rfl ?_
    refine V_iload 47 rfl rfl ?_
    obtain ⟨g13, e⟩ := gd_e e
    refine V_iast 48 rfl g13 ?_
    refine le_V (P := fun h14 => V G M_X7_sherd X T 0 0 97 [some (rv (7, 99) 0), some (iv x1), some (iv x2), some (iv x3), some (iv x4), some (iv x5), none, none] [] h14) e (fun h14 e => ?_)
    refine V_bipush (nI 30) 49 rfl bp_30 ?_
    refine V_istore 50 rfl (Nat.le_of_ble_eq_true rfl) rfl ?_
    show V G M_X7_sherd X T 0 0 101 [some (rv (7, 99) 0), some (iv x1), some (iv x2), some (iv x3), some (iv x4), some (iv x5), some (iv (nI 30)), none] [] h14
    refine V_msk [true, true, true, true, true, true, true, false] (lc' := [some (rv (7, 99) 0), some (iv x1), some (iv x2), some (iv x3), some (iv x4), some (iv x5), some (iv (nI 30)), none]) rfl ?_
    exact fx_e (P := fun s => V G M_X7_sherd X T 0 0 101 [some (rv (7, 99) 0), some (iv s.1), some (iv s.2.1), some (iv s.2.2.1), some (iv s.2.2.2.1), some (iv s.2.2.2.2.1), some (iv s.2.2.2.2.2.1), none] [] s.2.2.2.2.2.2) (fun K101 hK101 s e => w_X7_sherd_101 hR K59 K101 hK59 (fun x1 x2 x3 x4 x5 x6 h e => hK101 (x1, x2, x3, x4, x5, x6, h) e) s.1 s.2.1 s.2.2.1 s.2.2.2.1 s.2.2.2.2.1 s.2.2.2.2.2.1 s.2.2.2.2.2.2 e) FU (x1, x2, x3, x4, x5, (nI 30), h14) e
set_option maxHeartbeats 4000000 in
theorem c_X7_sherd {G : kG} {T : List kT} {x1 : Int32} {x2 : Int32} {x3 : Int32} {x4 : Int32} {h : kH} {r0 : Int32} {h0 : kH} (e : p_X7_sherd x1 x2 x3 x4 h = some (r0, h0)) : k_C G M_X7_sherd T [rv (7, 99) 0, iv x1, iv x2, iv x3, iv x4] h (some (iv r0)) h0 := by
  refine k_C_of 3 (by decide +kernel) rfl tb_X7_sherd rfl (fun X hR => ?_)
  show V G M_X7_sherd X T 0 0 0 [some (rv (7, 99) 0), some (iv x1), some (iv x2), some (iv x3), some (iv x4), none, none, none] [] h
  unfold p_X7_sherd at e
  refine V_aload_n 0 rfl rfl ?_
  refine V_iload_n 1 rfl rfl ?_
  obtain ⟨v3, h1, d2, e⟩ := bd2_e e
  refine V_callV (N := M_X7_isPot) (av := [iv x1]) (st := []) (r := some (iv v3)) (h' := h1) 2 rfl (c_X7_isPot d2) g_X7_isPot gv_X7_isPot lk_RX7_130 ⟨Nat.le_of_ble_eq_true rfl, Nat.le_of_ble_eq_true rfl⟩ rfl rfl (Nat.le_of_ble_eq_true rfl) ⟨Nat.zero_le _, Nat.zero_le _⟩ ?_
  show V G M_X7_sherd X T 0 0 5 [some (rv (7, 99) 0), some (iv x1), some (iv x2), some (iv x3), some (iv x4), none, none, none] [iv v3] h1
  rcases if_e e with ⟨c3, e⟩ | ⟨c3, e⟩
  · refine V_if_eq 17 3 rfl (by decide +kernel) (fun _ => ?_) (fun q => absurd c3 q) 
    refine V_iconst (-1 : Int32) 9 rfl ic_m1 ?_
    cases e
    exact V_iret 10 rfl hR rfl
  · refine V_if_eq 17 3 rfl (by decide +kernel) (fun q => absurd q c3) (fun _ => ?_)
    refine V_iload_n 4 rfl rfl ?_
    rcases if_e e with ⟨c5, e⟩ | ⟨c5, e⟩
    · refine V_if_lt 17 5 rfl (by decide +kernel) (fun _ => ?_) (fun q => absurd c5 q) 
      refine V_iconst (-1 : Int32) 9 rfl ic_m1 ?_
      cases e
      exact V_iret 10 rfl hR rfl
    · refine V_if_lt 17 5 rfl (by decide +kernel) (fun q => absurd q c5) (fun _ => ?_)
      refine V_iload_n 6 rfl rfl ?_
      refine V_iconst (nI 5) 7 rfl ic_5 ?_
      rcases if_e e with ⟨c8, e⟩ | ⟨c8, e⟩
      · refine V_icmp_le 19 8 rfl (by decide +kernel) (fun _ => ?_) (fun q => absurd c8 q) 
        refine V_iload_n 11 rfl rfl ?_
        rcases if_e e with ⟨c12, e⟩ | ⟨c12, e⟩
        · refine V_if_lt 39 12 rfl (by decide +kernel) (fun _ => ?_) (fun q => absurd c12 q) 
          refine V_iconst (-1 : Int32) 21 rfl ic_m1 ?_
          cases e
          exact V_iret 22 rfl hR rfl
        · refine V_if_lt 39 12 rfl (by decide +kernel) (fun q => absurd q c12) (fun _ => ?_)
          refine V_iload_n 13 rfl rfl ?_
          refine V_iconst (nI 2) 14 rfl ic_2 ?_
          rcases if_e e with ⟨c15, e⟩ | ⟨c15, e⟩
          · refine V_icmp_gt 39 15 rfl (by decide +kernel) (fun _ => ?_) (fun q => absurd c15 q) 
            refine V_iconst (-1 : Int32) 21 rfl ic_m1 ?_
            cases e
            exact V_iret 22 rfl hR rfl
          · refine V_icmp_gt 39 15 rfl (by decide +kernel) (fun q => absurd q c15) (fun _ => ?_)
            refine V_iload 16 rfl rfl ?_
            rcases if_e e with ⟨c17, e⟩ | ⟨c17, e⟩
            · refine V_if_lt 39 17 rfl (by decide +kernel) (fun _ => ?_) (fun q => absurd c17 q) 
              refine V_iconst (-1 : Int32) 21 rfl ic_m1 ?_
              cases e
              exact V_iret 22 rfl hR rfl
            · refine V_if_lt 39 17 rfl (by decide +kernel) (fun q => absurd q c17) (fun _ => ?_)
              refine V_iload 18 rfl rfl ?_
              refine V_iconst (nI 4) 19 rfl ic_4 ?_
              rcases if_e e with ⟨c20, e⟩ | ⟨c20, e⟩
              · refine V_icmp_le 41 20 rfl (by decide +kernel) (fun _ => ?_) (fun q => absurd c20 q) 
                refine V_aload_n 23 rfl rfl ?_
                refine V_sipush (nI 240) 24 rfl sp_240 ?_
                refine V_iconst (nI 0) 25 rfl ic_0 ?_
                obtain ⟨h4, d5, e⟩ := bd_e e
                refine V_callV (N := M_X7_burnAfresh) (av := [iv (nI 240), iv (nI 0)]) (st := []) (r := none) (h' := h4) 26 rfl (c_X7_burnAfresh d5) g_X7_burnAfresh gv_X7_burnAfresh lk_RX7_191 ⟨Nat.le_of_ble_eq_true rfl, Nat.le_of_ble_eq_true rfl⟩ rfl rfl (Nat.le_of_ble_eq_true rfl) ⟨Nat.zero_le _, Nat.zero_le _⟩ ?_
                show V G M_X7_sherd X T 0 0 49 [some (rv (7, 99) 0), some (iv x1), some (iv x2), some (iv x3), some (iv x4), none, none, none] [] h4
                refine V_aload_n 27 rfl rfl ?_
                refine V_getR 134 28 rfl fr_RX7_70 ⟨Nat.le_of_ble_eq_true rfl, Or.inr rfl⟩ rfl ?_
                obtain ⟨h6, d7, e⟩ := bd_e e
                refine V_callVN (N := M_X6_clear) (av := []) (st := []) (r := none) (h' := h6) 29 rfl (c_X6_clear d7) g_X6_clear gv_X6_clear nk_RX7_245 ⟨Nat.le_of_ble_eq_true rfl, Nat.le_of_ble_eq_true rfl⟩ rfl rfl (Nat.le_of_ble_eq_true rfl) ⟨Nat.zero_le _, Nat.zero_le _⟩ ?_
                show V G M_X7_sherd X T 0 0 56 [some (rv (7, 99) 0), some (iv x1), some (iv x2), some (iv x3), some (iv x4), none, none, none] [] h6
                refine V_iconst (nI 0) 30 rfl ic_0 ?_
                refine V_istore 31 rfl (Nat.le_of_ble_eq_true rfl) rfl ?_
                show V G M_X7_sherd X T 0 0 59 [some (rv (7, 99) 0), some (iv x1), some (iv x2), some (iv x3), some (iv x4), some (iv (nI 0)), none, none] [] h6
                refine V_msk [true, true, true, true, true, true, false, false] (lc' := [some (rv (7, 99) 0), some (iv x1), some (iv x2), some (iv x3), some (iv x4), some (iv (nI 0)), none, none]) rfl ?_
                exact fx_e (P := fun s => V G M_X7_sherd X T 0 0 59 [some (rv (7, 99) 0), some (iv s.1), some (iv s.2.1), some (iv s.2.2.1), some (iv s.2.2.2.1), some (iv s.2.2.2.2.1), none, none] [] s.2.2.2.2.2) (fun K59 hK59 s e => w_X7_sherd_59 hR K59 (fun x1 x2 x3 x4 x5 h e => hK59 (x1, x2, x3, x4, x5, h) e) s.1 s.2.1 s.2.2.1 s.2.2.2.1 s.2.2.2.2.1 s.2.2.2.2.2 e) FU (x1, x2, x3, x4, (nI 0), h6) e
              · refine V_icmp_le 41 20 rfl (by decide +kernel) (fun q => absurd q c20) (fun _ => ?_)
                refine V_iconst (-1 : Int32) 21 rfl ic_m1 ?_
                cases e
                exact V_iret 22 rfl hR rfl
      · refine V_icmp_le 19 8 rfl (by decide +kernel) (fun q => absurd q c8) (fun _ => ?_)
        refine V_iconst (-1 : Int32) 9 rfl ic_m1 ?_
        cases e
        exact V_iret 10 rfl hR rfl
set_option maxHeartbeats 4000000 in
theorem c_X7_keptAt {G : kG} {T : List kT} {x1 : Int32} {h : kH} {r0 : Nat} {h0 : kH} (e : p_X7_keptAt x1 h = some (r0, h0)) : k_C G M_X7_keptAt T [rv (7, 99) 0, iv x1] h (some (rv (2, 99) r0)) h0 := by
  refine k_C_of 0 (by decide +kernel) rfl tb_X7_keptAt rfl (fun X hR => ?_)
  show V G M_X7_keptAt X T 0 0 0 [some (rv (7, 99) 0), some (iv x1)] [] h
  unfold p_X7_keptAt at e
  refine V_iload_n 0 rfl rfl ?_
  rcases if_e e with ⟨c1, e⟩ | ⟨c1, e⟩
  · refine V_if_ne 11 1 rfl (by decide +kernel) (fun q => absurd c1 q) (fun _ => ?_)
    refine V_aload_n 2 rfl rfl ?_
    refine V_getR 91 3 rfl fr_RX7_44 ⟨Nat.le_of_ble_eq_true rfl, Or.inr rfl⟩ rfl ?_
    refine V_goto 15 4 rfl (by decide +kernel) ?_
    cases e
    exact V_aret 7 rfl hR rfl (Or.inl ⟨_, rfl⟩)
  · refine V_if_ne 11 1 rfl (by decide +kernel) (fun _ => ?_) (fun q => absurd q c1) 
    refine V_aload_n 5 rfl rfl ?_
    refine V_getR 111 6 rfl fr_RX7_47 ⟨Nat.le_of_ble_eq_true rfl, Or.inr rfl⟩ rfl ?_
    cases e
    exact V_aret 7 rfl hR rfl (Or.inl ⟨_, rfl⟩)
set_option maxHeartbeats 4000000 in
theorem c_X7_keep {G : kG} {T : List kT} {h : kH} {r0 : Int32} {h0 : kH} (e : p_X7_keep h = some (r0, h0)) : k_C G M_X7_keep T [rv (7, 99) 0] h (some (iv r0)) h0 := by
  refine k_C_of 0 (by decide +kernel) rfl tb_X7_keep rfl (fun X hR => ?_)
  show V G M_X7_keep X T 0 0 0 [some (rv (7, 99) 0)] [] h
  unfold p_X7_keep at e
  refine V_aload_n 0 rfl rfl ?_
  refine V_getI 1 rfl fi_RX7_50 ?_
  refine V_iconst (nI 2) 2 rfl ic_2 ?_
  rcases if_e e with ⟨c3, e⟩ | ⟨c3, e⟩
  · refine V_icmp_lt 11 3 rfl (by decide +kernel) (fun _ => ?_) (fun q => absurd c3 q) 
    refine V_aload_n 6 rfl rfl ?_
    refine V_aload_n 7 rfl rfl ?_
    refine V_getI 8 rfl fi_RX7_50 ?_
    obtain ⟨n3, h1, d2, e⟩ := bd2_e e
    refine V_callV (N := M_X7_keptAt) (av := [iv (h 0 9)]) (st := []) (r := some (rv (2, 99) n3)) (h' := h1) 9 rfl (c_X7_keptAt d2) g_X7_keptAt gv_X7_keptAt lk_RX7_254 ⟨Nat.le_of_ble_eq_true rfl, Nat.le_of_ble_eq_true rfl⟩ rfl rfl (Nat.le_of_ble_eq_true rfl) ⟨Nat.zero_le _, Nat.zero_le _⟩ ?_
    show V G M_X7_keep X T 0 0 19 [some (rv (7, 99) 0)] [rv (2, 99) n3] h1
    refine V_aload_n 10 rfl rfl ?_
    refine V_getR 31 11 rfl fr_RX7_34 ⟨Nat.le_of_ble_eq_true rfl, Or.inr rfl⟩ rfl ?_
    obtain ⟨h4, d5, e⟩ := bd_e e
    refine V_callVN (N := M_X2_copyFrom) (av := [rv (2, 99) 31]) (st := []) (r := none) (h' := h4) 12 rfl (c_X2_copyFrom d5) g_X2_copyFrom gv_X2_copyFrom nk_RX7_207 ⟨Nat.le_of_ble_eq_true rfl, Nat.le_of_ble_eq_true rfl⟩ rfl rfl (Nat.le_of_ble_eq_true rfl) ⟨Nat.zero_le _, Nat.zero_le _⟩ ?_
    show V G M_X7_keep X T 0 0 26 [some (rv (7, 99) 0)] [] h4
    refine V_aload_n 13 rfl rfl ?_
    refine V_dup 14 rfl nj_r ?_
    refine V_getI 15 rfl fi_RX7_50 ?_
    refine V_iconst (nI 1) 16 rfl ic_1 ?_
    refine V_iadd 17 rfl ?_
    refine V_putI 18 rfl fi_RX7_50 ?_
    refine le_V (P := fun h6 => V G M_X7_keep X T 0 0 36 [some (rv (7, 99) 0)] [] h6) e (fun h6 e => ?_)
    refine V_aload_n 19 rfl rfl ?_
    refine V_getI 20 rfl fi_RX7_50 ?_
    cases e
    exact V_iret 21 rfl hR rfl
  · refine V_icmp_lt 11 3 rfl (by decide +kernel) (fun q => absurd q c3) (fun _ => ?_)
    refine V_bipush (-3 : Int32) 4 rfl bp_m3 ?_
    cases e
    exact V_iret 5 rfl hR rfl
set_option maxHeartbeats 4000000 in
theorem c_X7_back {G : kG} {T : List kT} {h : kH} {r0 : Int32} {h0 : kH} (e : p_X7_back h = some (r0, h0)) : k_C G M_X7_back T [rv (7, 99) 0] h (some (iv r0)) h0 := by
  refine k_C_of 0 (by decide +kernel) rfl tb_X7_back rfl (fun X hR => ?_)
  show V G M_X7_back X T 0 0 0 [some (rv (7, 99) 0)] [] h
  unfold p_X7_back at e
  refine V_aload_n 0 rfl rfl ?_
  refine V_getI 1 rfl fi_RX7_50 ?_
  refine V_iconst (nI 1) 2 rfl ic_1 ?_
  rcases if_e e with ⟨c3, e⟩ | ⟨c3, e⟩
  · refine V_icmp_ge 11 3 rfl (by decide +kernel) (fun _ => ?_) (fun q => absurd c3 q) 
    refine V_aload_n 6 rfl rfl ?_
    refine V_dup 7 rfl nj_r ?_
    refine V_getI 8 rfl fi_RX7_50 ?_
    refine V_iconst (nI 1) 9 rfl ic_1 ?_
    refine V_isub 10 rfl ?_
    refine V_putI 11 rfl fi_RX7_50 ?_
    refine le_V (P := fun h1 => V G M_X7_back X T 0 0 21 [some (rv (7, 99) 0)] [] h1) e (fun h1 e => ?_)
    refine V_aload_n 12 rfl rfl ?_
    refine V_getR 31 13 rfl fr_RX7_34 ⟨Nat.le_of_ble_eq_true rfl, Or.inr rfl⟩ rfl ?_
    refine V_aload_n 14 rfl rfl ?_
    refine V_aload_n 15 rfl rfl ?_
    refine V_getI 16 rfl fi_RX7_50 ?_
    obtain ⟨n4, h2, d3, e⟩ := bd2_e e
    refine V_callV (N := M_X7_keptAt) (av := [iv (h1 0 9)]) (st := [rv (2, 99) 31]) (r := some (rv (2, 99) n4)) (h' := h2) 17 rfl (c_X7_keptAt d3) g_X7_keptAt gv_X7_keptAt lk_RX7_254 ⟨Nat.le_of_ble_eq_true rfl, Nat.le_of_ble_eq_true rfl⟩ rfl rfl (Nat.le_of_ble_eq_true rfl) ⟨Nat.zero_le _, Nat.zero_le _⟩ ?_
    show V G M_X7_back X T 0 0 33 [some (rv (7, 99) 0)] [rv (2, 99) n4, rv (2, 99) 31] h2
    obtain ⟨h5, d6, e⟩ := bd_e e
    refine V_callVN (N := M_X2_copyFrom) (av := [rv (2, 99) n4]) (st := []) (r := none) (h' := h5) 18 rfl (c_X2_copyFrom d6) g_X2_copyFrom gv_X2_copyFrom nk_RX7_207 ⟨Nat.le_of_ble_eq_true rfl, Nat.le_of_ble_eq_true rfl⟩ rfl rfl (Nat.le_of_ble_eq_true rfl) ⟨Nat.zero_le _, Nat.zero_le _⟩ ?_
    show V G M_X7_back X T 0 0 36 [some (rv (7, 99) 0)] [] h5
    refine V_aload_n 19 rfl rfl ?_
    refine V_getI 20 rfl fi_RX7_50 ?_
    cases e
    exact V_iret 21 rfl hR rfl
  · refine V_icmp_ge 11 3 rfl (by decide +kernel) (fun q => absurd q c3) (fun _ => ?_)
    refine V_bipush (-2 : Int32) 4 rfl bp_m2 ?_
    cases e
    exact V_iret 5 rfl hR rfl
set_option maxHeartbeats 4000000 in
theorem c_X7_count {G : kG} {T : List kT} {x1 : Int32} {h : kH} {r0 : Int32} {h0 : kH} (e : p_X7_count x1 h = some (r0, h0)) : k_C G M_X7_count T [rv (7, 99) 0, iv x1] h (some (iv r0)) h0 := by
  refine k_C_of 0 (by decide +kernel) rfl tb_X7_count rfl (fun X hR => ?_)
  show V G M_X7_count X T 0 0 0 [some (rv (7, 99) 0), some (iv x1)] [] h
  unfold p_X7_count at e
  refine V_iload_n 0 rfl rfl ?_
  rcases if_e e with ⟨c4, e⟩ | ⟨c4, e⟩
  · refine V_tab 40 1 rfl rfl (off := 39) (by rw [c4]; decide +kernel) (by decide +kernel) ?_
    refine V_aload_n 2 rfl rfl ?_
    refine V_getR 28 3 rfl fr_RX7_27 ⟨Nat.le_of_ble_eq_true rfl, Or.inr rfl⟩ rfl ?_
    obtain ⟨v3, h1, d2, e⟩ := bd2_e e
    refine V_callVN (N := M_X5_cells) (av := []) (st := []) (r := some (iv v3)) (h' := h1) 4 rfl (c_X5_cells d2) g_X5_cells gv_X5_cells nk_RX7_86 ⟨Nat.le_of_ble_eq_true rfl, Nat.le_of_ble_eq_true rfl⟩ rfl rfl (Nat.le_of_ble_eq_true rfl) ⟨Nat.zero_le _, Nat.zero_le _⟩ ?_
    show V G M_X7_count X T 0 0 47 [some (rv (7, 99) 0), some (iv x1)] [iv v3] h1
    cases e
    exact V_iret 5 rfl hR rfl
  rcases if_e e with ⟨c5, e⟩ | ⟨c5, e⟩
  · refine V_tab 48 1 rfl rfl (off := 47) (by rw [c5]; decide +kernel) (by decide +kernel) ?_
    refine V_aload_n 6 rfl rfl ?_
    refine V_getR 31 7 rfl fr_RX7_34 ⟨Nat.le_of_ble_eq_true rfl, Or.inr rfl⟩ rfl ?_
    refine V_getR 39 8 rfl fr_RX7_120 ⟨Nat.le_of_ble_eq_true rfl, Or.inr rfl⟩ rfl ?_
    refine V_getI 9 rfl fi_RX7_217 ?_
    cases e
    exact V_iret 10 rfl hR rfl
  rcases if_e e with ⟨c6, e⟩ | ⟨c6, e⟩
  · refine V_tab 59 1 rfl rfl (off := 58) (by rw [c6]; decide +kernel) (by decide +kernel) ?_
    refine V_aload_n 11 rfl rfl ?_
    refine V_getI 12 rfl fi_RX7_13 ?_
    cases e
    exact V_iret 13 rfl hR rfl
  rcases if_e e with ⟨c7, e⟩ | ⟨c7, e⟩
  · refine V_tab 64 1 rfl rfl (off := 63) (by rw [c7]; decide +kernel) (by decide +kernel) ?_
    refine V_aload_n 14 rfl rfl ?_
    refine V_getR 31 15 rfl fr_RX7_34 ⟨Nat.le_of_ble_eq_true rfl, Or.inr rfl⟩ rfl ?_
    refine V_getI 16 rfl fi_RX7_258 ?_
    cases e
    exact V_iret 17 rfl hR rfl
  rcases if_e e with ⟨c8, e⟩ | ⟨c8, e⟩
  · refine V_tab 72 1 rfl rfl (off := 71) (by rw [c8]; decide +kernel) (by decide +kernel) ?_
    refine V_aload_n 18 rfl rfl ?_
    refine V_getI 19 rfl fi_RX7_57 ?_
    cases e
    exact V_iret 20 rfl hR rfl
  rcases if_e e with ⟨c9, e⟩ | ⟨c9, e⟩
  · refine V_tab 77 1 rfl rfl (off := 76) (by rw [c9]; decide +kernel) (by decide +kernel) ?_
    refine V_aload_n 21 rfl rfl ?_
    refine V_getI 22 rfl fi_RX7_50 ?_
    cases e
    exact V_iret 23 rfl hR rfl
  refine V_tab 82 1 rfl rfl (tsel_d [0, 1, 2, 3, 4, 5] (List.forall_mem_cons.mpr ⟨c4, List.forall_mem_cons.mpr ⟨c5, List.forall_mem_cons.mpr ⟨c6, List.forall_mem_cons.mpr ⟨c7, List.forall_mem_cons.mpr ⟨c8, List.forall_mem_cons.mpr ⟨c9, fun k hk => by cases hk⟩⟩⟩⟩⟩⟩) (by decide +kernel)) (by decide +kernel) ?_
  refine V_iconst (-1 : Int32) 24 rfl ic_m1 ?_
  cases e
  exact V_iret 25 rfl hR rfl
