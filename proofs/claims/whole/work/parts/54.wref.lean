set_option maxHeartbeats 4000000 in
theorem c_X8_in {G : kG} {T : List kT} {y0 : Int64} {y2 : Int64} {y4 : Int64} {h : kH} {r0 : Int32} {h0 : kH} (e : p_X8_in y0 y2 y4 h = some (r0, h0)) : k_C G M_X8_in T [jv y0, jv y2, jv y4] h (some (iv r0)) h0 := by
  refine k_C_of 0 (by decide +kernel) rfl tb_X8_in rfl (fun X hR => ?_)
  show V G M_X8_in X T 0 0 0 [some (jv y0), none, some (jv y2), none, some (jv y4), none] [] h
  unfold p_X8_in at e
  refine V_lload_n 0 rfl rfl ?_
  refine V_lload_n 1 rfl rfl ?_
  refine V_lcmp 2 rfl ?_
  rcases if_e e with ⟨c3, e⟩ | ⟨c3, e⟩
  · refine V_if_lt 17 3 rfl (by decide +kernel) (fun _ => ?_) (fun q => absurd c3 q) 
    refine V_iconst (nI 0) 10 rfl ic_0 ?_
    cases e
    exact V_zret 11 rfl z_0 hR rfl
  · refine V_if_lt 17 3 rfl (by decide +kernel) (fun q => absurd q c3) (fun _ => ?_)
    refine V_lload_n 4 rfl rfl ?_
    refine V_lload 5 rfl rfl ?_
    refine V_lcmp 6 rfl ?_
    rcases if_e e with ⟨c7, e⟩ | ⟨c7, e⟩
    · refine V_if_gt 17 7 rfl (by decide +kernel) (fun _ => ?_) (fun q => absurd c7 q) 
      refine V_iconst (nI 0) 10 rfl ic_0 ?_
      cases e
      exact V_zret 11 rfl z_0 hR rfl
    · refine V_if_gt 17 7 rfl (by decide +kernel) (fun q => absurd q c7) (fun _ => ?_)
      refine V_iconst (nI 1) 8 rfl ic_1 ?_
      refine V_goto 18 9 rfl (by decide +kernel) ?_
      cases e
      exact V_zret 11 rfl z_1 hR rfl
set_option maxHeartbeats 4000000 in
theorem w_X8_write_34 {G : kG} {X : kX} {T : List kT} {r0 : Int32} {h0 : kH} (hR : k_R G M_X8_write X T 0 0 (some (iv r0)) h0) (K34 : Int64 × Int32 × kH → Option (Int32 × kH)) (hK34 : ∀ (x2 : Int64) (x4 : Int32) (h : kH), K34 (x2, x4, h) = some (r0, h0) → V G M_X8_write X T 0 0 34 [some (rv (8, 99) 135), none, some (jv x2), none, some (iv x4)] [] h) (x2 : Int64) (x4 : Int32) (h : kH) (e : p_X8_write_34 K34 x2 x4 h = some (r0, h0)) : V G M_X8_write X T 0 0 34 [some (rv (8, 99) 135), none, some (jv x2), none, some (iv x4)] [] h := by
  unfold p_X8_write_34 at e
  refine V_iload 20 rfl rfl ?_
  rcases if_e e with ⟨c21, e⟩ | ⟨c21, e⟩
  · refine V_if_lt 73 21 rfl (by decide +kernel) (fun _ => ?_) (fun q => absurd c21 q) 
    refine V_aload_n 42 rfl rfl ?_
    refine V_getI 43 rfl fi_RX8_72 ?_
    cases e
    exact V_iret 44 rfl hR rfl
  · refine V_if_lt 73 21 rfl (by decide +kernel) (fun q => absurd q c21) (fun _ => ?_)
    refine V_aload_n 22 rfl rfl ?_
    refine V_getR 136 23 rfl fr_RX8_7 ⟨Nat.le_of_ble_eq_true rfl, Or.inl (Nat.le_of_ble_eq_true rfl)⟩ rfl ?_
    refine V_aload_n 24 rfl rfl ?_
    refine V_getI 25 rfl fi_RX8_72 ?_
    refine V_lload_n 26 rfl rfl ?_
    refine V_bipush (nI 8) 27 rfl bp_8 ?_
    refine V_iload 28 rfl rfl ?_
    refine V_imul 29 rfl ?_
    refine V_lshr 30 rfl ?_
    refine V_l2i 31 rfl ?_
    refine V_i2b 32 rfl ?_
    obtain ⟨g4, e⟩ := gd_e e
    refine V_bast 33 rfl g4 ?_
    refine le_V (P := fun h5 => V G M_X8_write X T 0 0 57 [some (rv (8, 99) 135), none, some (jv x2), none, some (iv x4)] [] h5) e (fun h5 e => ?_)
    refine V_aload_n 34 rfl rfl ?_
    refine V_dup 35 rfl nj_r ?_
    refine V_getI 36 rfl fi_RX8_72 ?_
    refine V_iconst (nI 1) 37 rfl ic_1 ?_
    refine V_iadd 38 rfl ?_
    refine V_putI 39 rfl fi_RX8_72 ?_
    refine le_V (P := fun h6 => V G M_X8_write X T 0 0 67 [some (rv (8, 99) 135), none, some (jv x2), none, some (iv x4)] [] h6) e (fun h6 e => ?_)
    refine V_iinc (x4 + (-1 : Int32)) 40 rfl rfl (inc_m1 _) (Nat.le_of_ble_eq_true rfl) rfl ?_
    show V G M_X8_write X T 0 0 70 [some (rv (8, 99) 135), none, some (jv x2), none, some (iv (x4 + (-1 : Int32)))] [] h6
    refine V_goto 34 41 rfl (by decide +kernel) ?_
    refine V_msk [true, false, true, false, true] (lc' := [some (rv (8, 99) 135), none, some (jv x2), none, some (iv (x4 + (-1 : Int32)))]) rfl ?_
    exact hK34 x2 (x4 + (-1 : Int32)) h6 e
set_option maxHeartbeats 4000000 in
theorem c_X8_write {G : kG} {T : List kT} {x1 : Int32} {y2 : Int64} {h : kH} {r0 : Int32} {h0 : kH} (e : p_X8_write x1 y2 h = some (r0, h0)) : k_C G M_X8_write T [rv (8, 99) 135, iv x1, jv y2] h (some (iv r0)) h0 := by
  refine k_C_of 1 (by decide +kernel) rfl tb_X8_write rfl (fun X hR => ?_)
  show V G M_X8_write X T 0 0 0 [some (rv (8, 99) 135), some (iv x1), some (jv y2), none, none] [] h
  unfold p_X8_write at e
  refine V_iload_n 0 rfl rfl ?_
  refine V_i2l 1 rfl ?_
  refine V_lconst (1 : Int64) 2 rfl rfl ?_
  refine V_ldc2 (8 : Int64) 3 rfl kl_RX8_66 ?_
  obtain ⟨v3, h1, d2, e⟩ := bd2_e e
  refine V_callS (N := M_X8_in) (av := [jv (x1).toInt64, jv (1 : Int64), jv (8 : Int64)]) (st := []) (r := some (iv v3)) (h' := h1) 4 rfl (c_X8_in d2) g_X8_in gs_X8_in lk_RX8_68 ⟨Nat.le_of_ble_eq_true rfl, Nat.le_of_ble_eq_true rfl⟩ rfl (Nat.le_of_ble_eq_true rfl) ⟨Nat.zero_le _, Nat.zero_le _⟩ ?_
  show V G M_X8_write X T 0 0 9 [some (rv (8, 99) 135), some (iv x1), some (jv y2), none, none] [iv v3] h1
  rcases if_e e with ⟨c5, e⟩ | ⟨c5, e⟩
  · refine V_if_ne 14 5 rfl (by decide +kernel) (fun q => absurd c5 q) (fun _ => ?_)
    refine V_iconst (-1 : Int32) 6 rfl ic_m1 ?_
    cases e
    exact V_iret 7 rfl hR rfl
  · refine V_if_ne 14 5 rfl (by decide +kernel) (fun _ => ?_) (fun q => absurd q c5) 
    refine V_aload_n 8 rfl rfl ?_
    refine V_getI 9 rfl fi_RX8_72 ?_
    refine V_iload_n 10 rfl rfl ?_
    refine V_iadd 11 rfl ?_
    refine V_sipush (nI 500) 12 rfl sp_500 ?_
    rcases if_e e with ⟨c13, e⟩ | ⟨c13, e⟩
    · refine V_icmp_le 29 13 rfl (by decide +kernel) (fun _ => ?_) (fun q => absurd c13 q) 
      refine V_iload_n 16 rfl rfl ?_
      refine V_iconst (nI 1) 17 rfl ic_1 ?_
      refine V_isub 18 rfl ?_
      refine V_istore 19 rfl (Nat.le_of_ble_eq_true rfl) rfl ?_
      show V G M_X8_write X T 0 0 34 [some (rv (8, 99) 135), some (iv x1), some (jv y2), none, some (iv (x1 - (nI 1)))] [] h1
      refine V_msk [true, false, true, false, true] (lc' := [some (rv (8, 99) 135), none, some (jv y2), none, some (iv (x1 - (nI 1)))]) rfl ?_
      exact fx_e (P := fun s => V G M_X8_write X T 0 0 34 [some (rv (8, 99) 135), none, some (jv s.1), none, some (iv s.2.1)] [] s.2.2) (fun K34 hK34 s e => w_X8_write_34 hR K34 (fun x2 x4 h e => hK34 (x2, x4, h) e) s.1 s.2.1 s.2.2 e) FU (y2, (x1 - (nI 1)), h1) e
    · refine V_icmp_le 29 13 rfl (by decide +kernel) (fun q => absurd q c13) (fun _ => ?_)
      refine V_bipush (-3 : Int32) 14 rfl bp_m3 ?_
      cases e
      exact V_iret 15 rfl hR rfl
set_option maxHeartbeats 4000000 in
theorem c_X8_wipe {G : kG} {T : List kT} {h : kH} {r0 : Int32} {h0 : kH} (e : p_X8_wipe h = some (r0, h0)) : k_C G M_X8_wipe T [rv (8, 99) 135] h (some (iv r0)) h0 := by
  refine k_C_of 1 (by decide +kernel) rfl tb_X8_wipe rfl (fun X hR => ?_)
  show V G M_X8_wipe X T 0 0 0 [some (rv (8, 99) 135), none] [] h
  unfold p_X8_wipe at e
  refine V_aload_n 0 rfl rfl ?_
  refine V_getI 1 rfl fi_RX8_72 ?_
  refine V_istore_n 2 rfl (Nat.le_of_ble_eq_true rfl) rfl ?_
  refine le_V (P := fun v1 => V G M_X8_wipe X T 0 0 5 [some (rv (8, 99) 135), some (iv v1)] [] h) e (fun v1 e => ?_)
  refine V_aload_n 3 rfl rfl ?_
  refine V_iconst (nI 0) 4 rfl ic_0 ?_
  refine V_putI 5 rfl fi_RX8_72 ?_
  refine le_V (P := fun h2 => V G M_X8_wipe X T 0 0 10 [some (rv (8, 99) 135), some (iv v1)] [] h2) e (fun h2 e => ?_)
  refine V_iload_n 6 rfl rfl ?_
  cases e
  exact V_iret 7 rfl hR rfl
set_option maxHeartbeats 4000000 in
theorem w_X8_number_80 {G : kG} {X : kX} {T : List kT} {r0 : Int32} {h0 : kH} (hR : k_R G M_X8_number X T 0 0 (some (iv r0)) h0) (x1 : Int32) (x2 : Int32) (h : kH) (e : p_X8_number_80 x1 x2 h = some (r0, h0)) : V G M_X8_number X T 0 0 80 [none, some (iv x1), some (iv x2)] [] h := by
  unfold p_X8_number_80 at e
  refine V_iload_n 44 rfl rfl ?_
  refine V_i2l 45 rfl ?_
  refine V_lconst (1 : Int64) 46 rfl rfl ?_
  refine V_ldc2 (3 : Int64) 47 rfl kl_RX8_83 ?_
  obtain ⟨v3, h1, d2, e⟩ := bd2_e e
  refine V_callS (N := M_X8_in) (av := [jv (x2).toInt64, jv (1 : Int64), jv (3 : Int64)]) (st := []) (r := some (iv v3)) (h' := h1) 48 rfl (c_X8_in d2) g_X8_in gs_X8_in lk_RX8_68 ⟨Nat.le_of_ble_eq_true rfl, Nat.le_of_ble_eq_true rfl⟩ rfl (Nat.le_of_ble_eq_true rfl) ⟨Nat.zero_le _, Nat.zero_le _⟩ ?_
  show V G M_X8_number X T 0 0 89 [none, some (iv x1), some (iv x2)] [iv v3] h1
  rcases if_e e with ⟨c49, e⟩ | ⟨c49, e⟩
  · refine V_if_eq 96 49 rfl (by decide +kernel) (fun _ => ?_) (fun q => absurd c49 q) 
    refine V_iconst (-1 : Int32) 52 rfl ic_m1 ?_
    cases e
    exact V_iret 53 rfl hR rfl
  · refine V_if_eq 96 49 rfl (by decide +kernel) (fun q => absurd q c49) (fun _ => ?_)
    refine V_iload_n 50 rfl rfl ?_
    refine V_goto 97 51 rfl (by decide +kernel) ?_
    cases e
    exact V_iret 53 rfl hR rfl
set_option maxHeartbeats 4000000 in
theorem w_X8_number_63 {G : kG} {X : kX} {T : List kT} {r0 : Int32} {h0 : kH} (hR : k_R G M_X8_number X T 0 0 (some (iv r0)) h0) (K4 : Int32 × Int32 × kH → Option (Int32 × kH)) (hK4 : ∀ (x1 : Int32) (x2 : Int32) (h : kH), K4 (x1, x2, h) = some (r0, h0) → V G M_X8_number X T 0 0 4 [some (rv (8, 99) 135), some (iv x1), some (iv x2)] [] h) (x2 : Int32) (s0 : Int32) (h : kH) (e : p_X8_number_63 K4 x2 s0 h = some (r0, h0)) : V G M_X8_number X T 0 0 63 [some (rv (8, 99) 135), none, some (iv x2)] [iv s0] h := by
  unfold p_X8_number_63 at e
  refine V_istore_n 35 rfl (Nat.le_of_ble_eq_true rfl) rfl ?_
  show V G M_X8_number X T 0 0 64 [some (rv (8, 99) 135), some (iv s0), some (iv x2)] [] h
  refine V_iinc (x2 + (nI 1)) 36 rfl rfl (inc_1 _) (Nat.le_of_ble_eq_true rfl) rfl ?_
  show V G M_X8_number X T 0 0 67 [some (rv (8, 99) 135), some (iv s0), some (iv (x2 + (nI 1)))] [] h
  refine V_aload_n 37 rfl rfl ?_
  refine V_dup 38 rfl nj_r ?_
  refine V_getI 39 rfl fi_RX8_76 ?_
  refine V_iconst (nI 1) 40 rfl ic_1 ?_
  refine V_iadd 41 rfl ?_
  refine V_putI 42 rfl fi_RX8_76 ?_
  refine le_V (P := fun h8 => V G M_X8_number X T 0 0 77 [some (rv (8, 99) 135), some (iv s0), some (iv (x2 + (nI 1)))] [] h8) e (fun h8 e => ?_)
  refine V_goto 4 43 rfl (by decide +kernel) ?_
  refine V_msk [true, true, true] (lc' := [some (rv (8, 99) 135), some (iv s0), some (iv (x2 + (nI 1)))]) rfl ?_
  exact hK4 s0 (x2 + (nI 1)) h8 e
set_option maxHeartbeats 4000000 in
theorem w_X8_number_4 {G : kG} {X : kX} {T : List kT} {r0 : Int32} {h0 : kH} (hR : k_R G M_X8_number X T 0 0 (some (iv r0)) h0) (K4 : Int32 × Int32 × kH → Option (Int32 × kH)) (hK4 : ∀ (x1 : Int32) (x2 : Int32) (h : kH), K4 (x1, x2, h) = some (r0, h0) → V G M_X8_number X T 0 0 4 [some (rv (8, 99) 135), some (iv x1), some (iv x2)] [] h) (x1 : Int32) (x2 : Int32) (h : kH) (e : p_X8_number_4 K4 x1 x2 h = some (r0, h0)) : V G M_X8_number X T 0 0 4 [some (rv (8, 99) 135), some (iv x1), some (iv x2)] [] h := by
  unfold p_X8_number_4 at e
  refine V_aload_n 4 rfl rfl ?_
  refine V_getI 5 rfl fi_RX8_76 ?_
  refine V_aload_n 6 rfl rfl ?_
  refine V_getI 7 rfl fi_RX8_72 ?_
  rcases if_e e with ⟨c8, e⟩ | ⟨c8, e⟩
  · refine V_icmp_ge 80 8 rfl (by decide +kernel) (fun _ => ?_) (fun q => absurd c8 q) 
    refine V_msk [false, true, true] (lc' := [none, some (iv x1), some (iv x2)]) rfl ?_
    exact w_X8_number_80 hR x1 x2 h e
  · refine V_icmp_ge 80 8 rfl (by decide +kernel) (fun q => absurd q c8) (fun _ => ?_)
    refine V_aload_n 9 rfl rfl ?_
    refine V_getR 136 10 rfl fr_RX8_7 ⟨Nat.le_of_ble_eq_true rfl, Or.inl (Nat.le_of_ble_eq_true rfl)⟩ rfl ?_
    refine V_aload_n 11 rfl rfl ?_
    refine V_getI 12 rfl fi_RX8_76 ?_
    obtain ⟨g4, e⟩ := gd_e e
    refine V_bald 13 rfl g4 ?_
    refine V_i2l 14 rfl ?_
    refine V_ldc2 (48 : Int64) 15 rfl kl_RX8_79 ?_
    refine V_ldc2 (57 : Int64) 16 rfl kl_RX8_81 ?_
    obtain ⟨v7, h5, d6, e⟩ := bd2_e e
    refine V_callS (N := M_X8_in) (av := [jv ((h 136 ((h 135 2)).toNatClampNeg)).toInt64, jv (48 : Int64), jv (57 : Int64)]) (st := []) (r := some (iv v7)) (h' := h5) 17 rfl (c_X8_in d6) g_X8_in gs_X8_in lk_RX8_68 ⟨Nat.le_of_ble_eq_true rfl, Nat.le_of_ble_eq_true rfl⟩ rfl (Nat.le_of_ble_eq_true rfl) ⟨Nat.zero_le _, Nat.zero_le _⟩ ?_
    show V G M_X8_number X T 0 0 34 [some (rv (8, 99) 135), some (iv x1), some (iv x2)] [iv v7] h5
    rcases if_e e with ⟨c18, e⟩ | ⟨c18, e⟩
    · refine V_if_eq 80 18 rfl (by decide +kernel) (fun _ => ?_) (fun q => absurd c18 q) 
      refine V_msk [false, true, true] (lc' := [none, some (iv x1), some (iv x2)]) rfl ?_
      exact w_X8_number_80 hR x1 x2 h5 e
    · refine V_if_eq 80 18 rfl (by decide +kernel) (fun q => absurd q c18) (fun _ => ?_)
      refine V_iload_n 19 rfl rfl ?_
      refine V_iconst (nI 3) 20 rfl ic_3 ?_
      rcases if_e e with ⟨c21, e⟩ | ⟨c21, e⟩
      · refine V_icmp_ge 62 21 rfl (by decide +kernel) (fun _ => ?_) (fun q => absurd c21 q) 
        refine V_iload_n 34 rfl rfl ?_
        refine V_msk [true, false, true] (lc' := [some (rv (8, 99) 135), none, some (iv x2)]) rfl ?_
        exact w_X8_number_63 hR K4 hK4 x2 x1 h5 e
      · refine V_icmp_ge 62 21 rfl (by decide +kernel) (fun q => absurd q c21) (fun _ => ?_)
        refine V_bipush (nI 10) 22 rfl bp_10 ?_
        refine V_iload_n 23 rfl rfl ?_
        refine V_imul 24 rfl ?_
        refine V_aload_n 25 rfl rfl ?_
        refine V_getR 136 26 rfl fr_RX8_7 ⟨Nat.le_of_ble_eq_true rfl, Or.inl (Nat.le_of_ble_eq_true rfl)⟩ rfl ?_
        refine V_aload_n 27 rfl rfl ?_
        refine V_getI 28 rfl fi_RX8_76 ?_
        obtain ⟨g9, e⟩ := gd_e e
        refine V_bald 29 rfl g9 ?_
        refine V_iadd 30 rfl ?_
        refine V_bipush (nI 48) 31 rfl bp_48 ?_
        refine V_isub 32 rfl ?_
        refine V_goto 63 33 rfl (by decide +kernel) ?_
        refine V_msk [true, false, true] (lc' := [some (rv (8, 99) 135), none, some (iv x2)]) rfl ?_
        exact w_X8_number_63 hR K4 hK4 x2 ((((nI 10) * x1) + (h5 136 ((h5 135 2)).toNatClampNeg)) - (nI 48)) h5 e
set_option maxHeartbeats 4000000 in
theorem c_X8_number {G : kG} {T : List kT} {h : kH} {r0 : Int32} {h0 : kH} (e : p_X8_number h = some (r0, h0)) : k_C G M_X8_number T [rv (8, 99) 135] h (some (iv r0)) h0 := by
  refine k_C_of 2 (by decide +kernel) rfl tb_X8_number rfl (fun X hR => ?_)
  show V G M_X8_number X T 0 0 0 [some (rv (8, 99) 135), none, none] [] h
  unfold p_X8_number at e
  refine V_iconst (nI 0) 0 rfl ic_0 ?_
  refine V_istore_n 1 rfl (Nat.le_of_ble_eq_true rfl) rfl ?_
  show V G M_X8_number X T 0 0 2 [some (rv (8, 99) 135), some (iv (nI 0)), none] [] h
  refine V_iconst (nI 0) 2 rfl ic_0 ?_
  refine V_istore_n 3 rfl (Nat.le_of_ble_eq_true rfl) rfl ?_
  show V G M_X8_number X T 0 0 4 [some (rv (8, 99) 135), some (iv (nI 0)), some (iv (nI 0))] [] h
  refine V_msk [true, true, true] (lc' := [some (rv (8, 99) 135), some (iv (nI 0)), some (iv (nI 0))]) rfl ?_
  exact fx_e (P := fun s => V G M_X8_number X T 0 0 4 [some (rv (8, 99) 135), some (iv s.1), some (iv s.2.1)] [] s.2.2) (fun K4 hK4 s e => w_X8_number_4 hR K4 (fun x1 x2 h e => hK4 (x1, x2, h) e) s.1 s.2.1 s.2.2 e) FU ((nI 0), (nI 0), h) e
set_option maxHeartbeats 4000000 in
theorem c_X8_parts {G : kG} {T : List kT} {x0 : Int32} {h : kH} {r0 : Int32} {h0 : kH} (e : p_X8_parts x0 h = some (r0, h0)) : k_C G M_X8_parts T [iv x0] h (some (iv r0)) h0 := by
  refine k_C_of 0 (by decide +kernel) rfl tb_X8_parts rfl (fun X hR => ?_)
  show V G M_X8_parts X T 0 0 0 [some (iv x0)] [] h
  unfold p_X8_parts at e
  refine V_iload_n 0 rfl rfl ?_
  refine V_bipush (nI 112) 1 rfl bp_112 ?_
  rcases if_e e with ⟨c2, e⟩ | ⟨c2, e⟩
  · refine V_icmp_ne 11 2 rfl (by decide +kernel) (fun q => absurd c2 q) (fun _ => ?_)
    refine V_bipush (nI 6) 3 rfl bp_6 ?_
    refine V_goto 82 4 rfl (by decide +kernel) ?_
    cases e
    exact V_iret 41 rfl hR rfl
  · refine V_icmp_ne 11 2 rfl (by decide +kernel) (fun _ => ?_) (fun q => absurd q c2) 
    refine V_iload_n 5 rfl rfl ?_
    refine V_bipush (nI 99) 6 rfl bp_99 ?_
    rcases if_e e with ⟨c7, e⟩ | ⟨c7, e⟩
    · refine V_icmp_ne 21 7 rfl (by decide +kernel) (fun q => absurd c7 q) (fun _ => ?_)
      refine V_iconst (nI 4) 8 rfl ic_4 ?_
      refine V_goto 82 9 rfl (by decide +kernel) ?_
      cases e
      exact V_iret 41 rfl hR rfl
    · refine V_icmp_ne 21 7 rfl (by decide +kernel) (fun _ => ?_) (fun q => absurd q c7) 
      refine V_iload_n 10 rfl rfl ?_
      refine V_bipush (nI 107) 11 rfl bp_107 ?_
      rcases if_e e with ⟨c12, e⟩ | ⟨c12, e⟩
      · refine V_icmp_ne 31 12 rfl (by decide +kernel) (fun q => absurd c12 q) (fun _ => ?_)
        refine V_iconst (nI 3) 13 rfl ic_3 ?_
        refine V_goto 82 14 rfl (by decide +kernel) ?_
        cases e
        exact V_iret 41 rfl hR rfl
      · refine V_icmp_ne 31 12 rfl (by decide +kernel) (fun _ => ?_) (fun q => absurd q c12) 
        refine V_iload_n 15 rfl rfl ?_
        refine V_bipush (nI 119) 16 rfl bp_119 ?_
        rcases if_e e with ⟨c17, e⟩ | ⟨c17, e⟩
        · refine V_icmp_eq 61 17 rfl (by decide +kernel) (fun _ => ?_) (fun q => absurd c17 q) 
          refine V_iconst (nI 2) 30 rfl ic_2 ?_
          refine V_goto 82 31 rfl (by decide +kernel) ?_
          cases e
          exact V_iret 41 rfl hR rfl
        · refine V_icmp_eq 61 17 rfl (by decide +kernel) (fun q => absurd q c17) (fun _ => ?_)
          refine V_iload_n 18 rfl rfl ?_
          refine V_bipush (nI 111) 19 rfl bp_111 ?_
          rcases if_e e with ⟨c20, e⟩ | ⟨c20, e⟩
          · refine V_icmp_eq 61 20 rfl (by decide +kernel) (fun _ => ?_) (fun q => absurd c20 q) 
            refine V_iconst (nI 2) 30 rfl ic_2 ?_
            refine V_goto 82 31 rfl (by decide +kernel) ?_
            cases e
            exact V_iret 41 rfl hR rfl
          · refine V_icmp_eq 61 20 rfl (by decide +kernel) (fun q => absurd q c20) (fun _ => ?_)
            refine V_iload_n 21 rfl rfl ?_
            refine V_bipush (nI 115) 22 rfl bp_115 ?_
            rcases if_e e with ⟨c23, e⟩ | ⟨c23, e⟩
            · refine V_icmp_eq 61 23 rfl (by decide +kernel) (fun _ => ?_) (fun q => absurd c23 q) 
              refine V_iconst (nI 2) 30 rfl ic_2 ?_
              refine V_goto 82 31 rfl (by decide +kernel) ?_
              cases e
              exact V_iret 41 rfl hR rfl
            · refine V_icmp_eq 61 23 rfl (by decide +kernel) (fun q => absurd q c23) (fun _ => ?_)
              refine V_iload_n 24 rfl rfl ?_
              refine V_bipush (nI 104) 25 rfl bp_104 ?_
              rcases if_e e with ⟨c26, e⟩ | ⟨c26, e⟩
              · refine V_icmp_eq 61 26 rfl (by decide +kernel) (fun _ => ?_) (fun q => absurd c26 q) 
                refine V_iconst (nI 2) 30 rfl ic_2 ?_
                refine V_goto 82 31 rfl (by decide +kernel) ?_
                cases e
                exact V_iret 41 rfl hR rfl
              · refine V_icmp_eq 61 26 rfl (by decide +kernel) (fun q => absurd q c26) (fun _ => ?_)
                refine V_iload_n 27 rfl rfl ?_
                refine V_bipush (nI 100) 28 rfl bp_100 ?_
                rcases if_e e with ⟨c29, e⟩ | ⟨c29, e⟩
                · refine V_icmp_ne 65 29 rfl (by decide +kernel) (fun q => absurd c29 q) (fun _ => ?_)
                  refine V_iconst (nI 2) 30 rfl ic_2 ?_
                  refine V_goto 82 31 rfl (by decide +kernel) ?_
                  cases e
                  exact V_iret 41 rfl hR rfl
                · refine V_icmp_ne 65 29 rfl (by decide +kernel) (fun _ => ?_) (fun q => absurd q c29) 
                  refine V_iload_n 32 rfl rfl ?_
                  refine V_bipush (nI 108) 33 rfl bp_108 ?_
                  rcases if_e e with ⟨c34, e⟩ | ⟨c34, e⟩
                  · refine V_icmp_eq 77 34 rfl (by decide +kernel) (fun _ => ?_) (fun q => absurd c34 q) 
                    refine V_iconst (nI 1) 38 rfl ic_1 ?_
                    refine V_goto 82 39 rfl (by decide +kernel) ?_
                    cases e
                    exact V_iret 41 rfl hR rfl
                  · refine V_icmp_eq 77 34 rfl (by decide +kernel) (fun q => absurd q c34) (fun _ => ?_)
                    refine V_iload_n 35 rfl rfl ?_
                    refine V_bipush (nI 118) 36 rfl bp_118 ?_
                    rcases if_e e with ⟨c37, e⟩ | ⟨c37, e⟩
                    · refine V_icmp_ne 81 37 rfl (by decide +kernel) (fun q => absurd c37 q) (fun _ => ?_)
                      refine V_iconst (nI 1) 38 rfl ic_1 ?_
                      refine V_goto 82 39 rfl (by decide +kernel) ?_
                      cases e
                      exact V_iret 41 rfl hR rfl
                    · refine V_icmp_ne 81 37 rfl (by decide +kernel) (fun _ => ?_) (fun q => absurd q c37) 
                      refine V_iconst (nI 0) 40 rfl ic_0 ?_
                      cases e
                      exact V_iret 41 rfl hR rfl
set_option maxHeartbeats 4000000 in
theorem c_X8_isIn {G : kG} {T : List kT} {x1 : Int32} {x2 : Int32} {x3 : Int32} {h : kH} {r0 : Int32} {h0 : kH} (e : p_X8_isIn x1 x2 x3 h = some (r0, h0)) : k_C G M_X8_isIn T [rv (8, 99) 135, iv x1, iv x2, iv x3] h (some (iv r0)) h0 := by
  refine k_C_of 0 (by decide +kernel) rfl tb_X8_isIn rfl (fun X hR => ?_)
  show V G M_X8_isIn X T 0 0 0 [some (rv (8, 99) 135), some (iv x1), some (iv x2), some (iv x3)] [] h
  unfold p_X8_isIn at e
  refine V_aload_n 0 rfl rfl ?_
  refine V_getR 151 1 rfl fr_RX8_57 ⟨Nat.le_of_ble_eq_true rfl, Or.inl (Nat.le_of_ble_eq_true rfl)⟩ rfl ?_
  refine V_iload_n 2 rfl rfl ?_
  obtain ⟨g1, e⟩ := gd_e e
  refine V_iald 3 rfl g1 ?_
  refine V_i2l 4 rfl ?_
  refine V_iload_n 5 rfl rfl ?_
  refine V_i2l 6 rfl ?_
  refine V_iload_n 7 rfl rfl ?_
  refine V_i2l 8 rfl ?_
  obtain ⟨v4, h2, d3, e⟩ := bd2_e e
  refine V_callS (N := M_X8_in) (av := [jv ((h 151 (x1).toNatClampNeg)).toInt64, jv (x2).toInt64, jv (x3).toInt64]) (st := []) (r := some (iv v4)) (h' := h2) 9 rfl (c_X8_in d3) g_X8_in gs_X8_in lk_RX8_68 ⟨Nat.le_of_ble_eq_true rfl, Nat.le_of_ble_eq_true rfl⟩ rfl (Nat.le_of_ble_eq_true rfl) ⟨Nat.zero_le _, Nat.zero_le _⟩ ?_
  show V G M_X8_isIn X T 0 0 14 [some (rv (8, 99) 135), some (iv x1), some (iv x2), some (iv x3)] [iv v4] h2
  obtain ⟨g5, e⟩ := gd_e e
  cases e
  exact V_zret 10 rfl (of_decide_eq_true g5) hR rfl
set_option maxHeartbeats 4000000 in
theorem w_X8_isPlaced_206 {G : kG} {X : kX} {T : List kT} {r0 : Int32} {h0 : kH} (hR : k_R G M_X8_isPlaced X T 0 0 (some (iv r0)) h0) (x2 : Int32) (s0 : Int32) (h : kH) (e : p_X8_isPlaced_206 x2 s0 h = some (r0, h0)) : V G M_X8_isPlaced X T 0 0 206 [none, none, some (iv x2), none] [iv s0, rv (9, 120) 142] h := by
  unfold p_X8_isPlaced_206 at e
  refine V_iload_n 122 rfl rfl ?_
  refine V_iadd 123 rfl ?_
  refine V_iconst (nI 1) 124 rfl ic_1 ?_
  obtain ⟨g4, e⟩ := gd_e e
  refine V_iast 125 rfl g4 ?_
  refine le_V (P := fun h5 => V G M_X8_isPlaced X T 0 0 210 [none, none, some (iv x2), none] [] h5) e (fun h5 e => ?_)
  refine V_iconst (nI 1) 126 rfl ic_1 ?_
  cases e
  exact V_zret 127 rfl z_1 hR rfl
set_option maxHeartbeats 4000000 in
theorem w_X8_isPlaced_142 {G : kG} {X : kX} {T : List kT} {r0 : Int32} {h0 : kH} (hR : k_R G M_X8_isPlaced X T 0 0 (some (iv r0)) h0) (K142 : Int32 × kH → Option (Int32 × kH)) (hK142 : ∀ (x3 : Int32) (h : kH), K142 (x3, h) = some (r0, h0) → V G M_X8_isPlaced X T 0 0 142 [some (rv (8, 99) 135), none, none, some (iv x3)] [] h) (x3 : Int32) (h : kH) (e : p_X8_isPlaced_142 K142 x3 h = some (r0, h0)) : V G M_X8_isPlaced X T 0 0 142 [some (rv (8, 99) 135), none, none, some (iv x3)] [] h := by
  unfold p_X8_isPlaced_142 at e
  refine V_iload_n 85 rfl rfl ?_
  refine V_bipush (nI 6) 86 rfl bp_6 ?_
  rcases if_e e with ⟨c87, e⟩ | ⟨c87, e⟩
  · refine V_icmp_ge 176 87 rfl (by decide +kernel) (fun _ => ?_) (fun q => absurd c87 q) 
    refine V_aload_n 105 rfl rfl ?_
    refine V_getR 138 106 rfl fr_RX8_17 ⟨Nat.le_of_ble_eq_true rfl, Or.inl (Nat.le_of_ble_eq_true rfl)⟩ rfl ?_
    refine V_iconst (nI 1) 107 rfl ic_1 ?_
    refine V_dup2 108 rfl nj_i nj_r ?_
    obtain ⟨g19, e⟩ := gd_e e
    refine V_iald 109 rfl g19 ?_
    refine V_iconst (nI 1) 110 rfl ic_1 ?_
    refine V_iadd 111 rfl ?_
    refine V_iast 112 rfl g19 ?_
    refine le_V (P := fun h20 => V G M_X8_isPlaced X T 0 0 186 [some (rv (8, 99) 135), none, none, some (iv x3)] [] h20) e (fun h20 e => ?_)
    refine V_goto 210 113 rfl (by decide +kernel) ?_
    refine V_iconst (nI 1) 126 rfl ic_1 ?_
    cases e
    exact V_zret 127 rfl z_1 hR rfl
  · refine V_icmp_ge 176 87 rfl (by decide +kernel) (fun q => absurd q c87) (fun _ => ?_)
    refine V_aload_n 88 rfl rfl ?_
    refine V_getR 141 89 rfl fr_RX8_26 ⟨Nat.le_of_ble_eq_true rfl, Or.inl (Nat.le_of_ble_eq_true rfl)⟩ rfl ?_
    refine V_bipush (nI 6) 90 rfl bp_6 ?_
    refine V_aload_n 91 rfl rfl ?_
    refine V_getR 138 92 rfl fr_RX8_17 ⟨Nat.le_of_ble_eq_true rfl, Or.inl (Nat.le_of_ble_eq_true rfl)⟩ rfl ?_
    refine V_iconst (nI 1) 93 rfl ic_1 ?_
    obtain ⟨g21, e⟩ := gd_e e
    refine V_iald 94 rfl g21 ?_
    refine V_imul 95 rfl ?_
    refine V_iload_n 96 rfl rfl ?_
    refine V_iadd 97 rfl ?_
    refine V_aload_n 98 rfl rfl ?_
    refine V_getR 151 99 rfl fr_RX8_57 ⟨Nat.le_of_ble_eq_true rfl, Or.inl (Nat.le_of_ble_eq_true rfl)⟩ rfl ?_
    refine V_iload_n 100 rfl rfl ?_
    obtain ⟨g22, e⟩ := gd_e e
    refine V_iald 101 rfl g22 ?_
    obtain ⟨g23, e⟩ := gd_e e
    refine V_iast 102 rfl g23 ?_
    refine le_V (P := fun h24 => V G M_X8_isPlaced X T 0 0 170 [some (rv (8, 99) 135), none, none, some (iv x3)] [] h24) e (fun h24 e => ?_)
    refine V_iinc (x3 + (nI 1)) 103 rfl rfl (inc_1 _) (Nat.le_of_ble_eq_true rfl) rfl ?_
    show V G M_X8_isPlaced X T 0 0 173 [some (rv (8, 99) 135), none, none, some (iv (x3 + (nI 1)))] [] h24
    refine V_goto 142 104 rfl (by decide +kernel) ?_
    refine V_msk [true, false, false, true] (lc' := [some (rv (8, 99) 135), none, none, some (iv (x3 + (nI 1)))]) rfl ?_
    exact hK142 (x3 + (nI 1)) h24 e
set_option maxHeartbeats 4000000 in
theorem c_X8_isPlaced {G : kG} {T : List kT} {x1 : Int32} {h : kH} {r0 : Int32} {h0 : kH} (e : p_X8_isPlaced x1 h = some (r0, h0)) : k_C G M_X8_isPlaced T [rv (8, 99) 135, iv x1] h (some (iv r0)) h0 := by
  refine k_C_of 2 (by decide +kernel) rfl tb_X8_isPlaced rfl (fun X hR => ?_)
  show V G M_X8_isPlaced X T 0 0 0 [some (rv (8, 99) 135), some (iv x1), none, none] [] h
  unfold p_X8_isPlaced at e
  refine V_aload_n 0 rfl rfl ?_
  refine V_getR 151 1 rfl fr_RX8_57 ⟨Nat.le_of_ble_eq_true rfl, Or.inl (Nat.le_of_ble_eq_true rfl)⟩ rfl ?_
  refine V_iconst (nI 0) 2 rfl ic_0 ?_
  obtain ⟨g1, e⟩ := gd_e e
  refine V_iald 3 rfl g1 ?_
  refine V_bipush (nI 6) 4 rfl bp_6 ?_
  refine V_aload_n 5 rfl rfl ?_
  refine V_getR 151 6 rfl fr_RX8_57 ⟨Nat.le_of_ble_eq_true rfl, Or.inl (Nat.le_of_ble_eq_true rfl)⟩ rfl ?_
  refine V_iconst (nI 1) 7 rfl ic_1 ?_
  obtain ⟨g2, e⟩ := gd_e e
  refine V_iald 8 rfl g2 ?_
  refine V_imul 9 rfl ?_
  refine V_iadd 10 rfl ?_
  refine V_istore_n 11 rfl (Nat.le_of_ble_eq_true rfl) rfl ?_
  refine le_V (P := fun v3 => V G M_X8_isPlaced X T 0 0 17 [some (rv (8, 99) 135), some (iv x1), some (iv v3), none] [] h) e (fun v3 e => ?_)
  refine V_iload_n 12 rfl rfl ?_
  refine V_bipush (nI 99) 13 rfl bp_99 ?_
  rcases if_e e with ⟨c14, e⟩ | ⟨c14, e⟩
  · refine V_icmp_ne 77 14 rfl (by decide +kernel) (fun q => absurd c14 q) (fun _ => ?_)
    refine V_aload_n 15 rfl rfl ?_
    refine V_iconst (nI 2) 16 rfl ic_2 ?_
    refine V_iconst (nI 0) 17 rfl ic_0 ?_
    refine V_iconst (nI 2) 18 rfl ic_2 ?_
    obtain ⟨v27, h25, d26, e⟩ := bd2_e e
    refine V_callV (N := M_X8_isIn) (av := [iv (nI 2), iv (nI 0), iv (nI 2)]) (st := []) (r := some (iv v27)) (h' := h25) 19 rfl (c_X8_isIn d26) g_X8_isIn gv_X8_isIn lk_RX8_97 ⟨Nat.le_of_ble_eq_true rfl, Nat.le_of_ble_eq_true rfl⟩ rfl rfl (Nat.le_of_ble_eq_true rfl) ⟨Nat.zero_le _, Nat.zero_le _⟩ ?_
    show V G M_X8_isPlaced X T 0 0 30 [some (rv (8, 99) 135), some (iv x1), some (iv v3), none] [iv v27] h25
    rcases if_e e with ⟨c20, e⟩ | ⟨c20, e⟩
    · refine V_if_eq 45 20 rfl (by decide +kernel) (fun _ => ?_) (fun q => absurd c20 q) 
      refine V_iconst (nI 0) 27 rfl ic_0 ?_
      cases e
      exact V_zret 28 rfl z_0 hR rfl
    · refine V_if_eq 45 20 rfl (by decide +kernel) (fun q => absurd q c20) (fun _ => ?_)
      refine V_aload_n 21 rfl rfl ?_
      refine V_iconst (nI 3) 22 rfl ic_3 ?_
      refine V_iconst (nI 0) 23 rfl ic_0 ?_
      refine V_sipush (nI 199) 24 rfl sp_199 ?_
      obtain ⟨v30, h28, d29, e⟩ := bd2_e e
      refine V_callV (N := M_X8_isIn) (av := [iv (nI 3), iv (nI 0), iv (nI 199)]) (st := []) (r := some (iv v30)) (h' := h28) 25 rfl (c_X8_isIn d29) g_X8_isIn gv_X8_isIn lk_RX8_97 ⟨Nat.le_of_ble_eq_true rfl, Nat.le_of_ble_eq_true rfl⟩ rfl rfl (Nat.le_of_ble_eq_true rfl) ⟨Nat.zero_le _, Nat.zero_le _⟩ ?_
      show V G M_X8_isPlaced X T 0 0 42 [some (rv (8, 99) 135), some (iv x1), some (iv v3), none] [iv v30] h28
      rcases if_e e with ⟨c26, e⟩ | ⟨c26, e⟩
      · refine V_if_ne 47 26 rfl (by decide +kernel) (fun q => absurd c26 q) (fun _ => ?_)
        refine V_iconst (nI 0) 27 rfl ic_0 ?_
        cases e
        exact V_zret 28 rfl z_0 hR rfl
      · refine V_if_ne 47 26 rfl (by decide +kernel) (fun _ => ?_) (fun q => absurd q c26) 
        refine V_aload_n 29 rfl rfl ?_
        refine V_getR 142 30 rfl fr_RX8_29 ⟨Nat.le_of_ble_eq_true rfl, Or.inl (Nat.le_of_ble_eq_true rfl)⟩ rfl ?_
        refine V_iload_n 31 rfl rfl ?_
        refine V_aload_n 32 rfl rfl ?_
        refine V_getR 151 33 rfl fr_RX8_57 ⟨Nat.le_of_ble_eq_true rfl, Or.inl (Nat.le_of_ble_eq_true rfl)⟩ rfl ?_
        refine V_iconst (nI 3) 34 rfl ic_3 ?_
        obtain ⟨g31, e⟩ := gd_e e
        refine V_iald 35 rfl g31 ?_
        obtain ⟨g32, e⟩ := gd_e e
        refine V_iast 36 rfl g32 ?_
        refine le_V (P := fun h33 => V G M_X8_isPlaced X T 0 0 59 [some (rv (8, 99) 135), some (iv x1), some (iv v3), none] [] h33) e (fun h33 e => ?_)
        refine V_aload_n 37 rfl rfl ?_
        refine V_getR 142 38 rfl fr_RX8_29 ⟨Nat.le_of_ble_eq_true rfl, Or.inl (Nat.le_of_ble_eq_true rfl)⟩ rfl ?_
        refine V_bipush (nI 30) 39 rfl bp_30 ?_
        refine V_iload_n 40 rfl rfl ?_
        refine V_iadd 41 rfl ?_
        refine V_aload_n 42 rfl rfl ?_
        refine V_getR 151 43 rfl fr_RX8_57 ⟨Nat.le_of_ble_eq_true rfl, Or.inl (Nat.le_of_ble_eq_true rfl)⟩ rfl ?_
        refine V_iconst (nI 2) 44 rfl ic_2 ?_
        obtain ⟨g34, e⟩ := gd_e e
        refine V_iald 45 rfl g34 ?_
        obtain ⟨g35, e⟩ := gd_e e
        refine V_iast 46 rfl g35 ?_
        refine le_V (P := fun h36 => V G M_X8_isPlaced X T 0 0 74 [some (rv (8, 99) 135), some (iv x1), some (iv v3), none] [] h36) e (fun h36 e => ?_)
        refine V_goto 210 47 rfl (by decide +kernel) ?_
        refine V_iconst (nI 1) 126 rfl ic_1 ?_
        cases e
        exact V_zret 127 rfl z_1 hR rfl
  · refine V_icmp_ne 77 14 rfl (by decide +kernel) (fun _ => ?_) (fun q => absurd q c14) 
    refine V_iload_n 48 rfl rfl ?_
    refine V_bipush (nI 112) 49 rfl bp_112 ?_
    rcases if_e e with ⟨c50, e⟩ | ⟨c50, e⟩
    · refine V_icmp_ne 189 50 rfl (by decide +kernel) (fun q => absurd c50 q) (fun _ => ?_)
      refine V_aload_n 51 rfl rfl ?_
      refine V_iconst (nI 2) 52 rfl ic_2 ?_
      refine V_iconst (nI 1) 53 rfl ic_1 ?_
      refine V_bipush (nI 9) 54 rfl bp_9 ?_
      obtain ⟨v8, h6, d7, e⟩ := bd2_e e
      refine V_callV (N := M_X8_isIn) (av := [iv (nI 2), iv (nI 1), iv (nI 9)]) (st := []) (r := some (iv v8)) (h' := h6) 55 rfl (c_X8_isIn d7) g_X8_isIn gv_X8_isIn lk_RX8_97 ⟨Nat.le_of_ble_eq_true rfl, Nat.le_of_ble_eq_true rfl⟩ rfl rfl (Nat.le_of_ble_eq_true rfl) ⟨Nat.zero_le _, Nat.zero_le _⟩ ?_
      show V G M_X8_isPlaced X T 0 0 91 [some (rv (8, 99) 135), some (iv x1), some (iv v3), none] [iv v8] h6
      rcases if_e e with ⟨c56, e⟩ | ⟨c56, e⟩
      · refine V_if_eq 138 56 rfl (by decide +kernel) (fun _ => ?_) (fun q => absurd c56 q) 
        refine V_iconst (nI 0) 81 rfl ic_0 ?_
        cases e
        exact V_zret 82 rfl z_0 hR rfl
      · refine V_if_eq 138 56 rfl (by decide +kernel) (fun q => absurd q c56) (fun _ => ?_)
        refine V_aload_n 57 rfl rfl ?_
        refine V_iconst (nI 3) 58 rfl ic_3 ?_
        refine V_iconst (nI 0) 59 rfl ic_0 ?_
        refine V_bipush (nI 99) 60 rfl bp_99 ?_
        obtain ⟨v11, h9, d10, e⟩ := bd2_e e
        refine V_callV (N := M_X8_isIn) (av := [iv (nI 3), iv (nI 0), iv (nI 99)]) (st := []) (r := some (iv v11)) (h' := h9) 61 rfl (c_X8_isIn d10) g_X8_isIn gv_X8_isIn lk_RX8_97 ⟨Nat.le_of_ble_eq_true rfl, Nat.le_of_ble_eq_true rfl⟩ rfl rfl (Nat.le_of_ble_eq_true rfl) ⟨Nat.zero_le _, Nat.zero_le _⟩ ?_
        show V G M_X8_isPlaced X T 0 0 102 [some (rv (8, 99) 135), some (iv x1), some (iv v3), none] [iv v11] h9
        rcases if_e e with ⟨c62, e⟩ | ⟨c62, e⟩
        · refine V_if_eq 138 62 rfl (by decide +kernel) (fun _ => ?_) (fun q => absurd c62 q) 
          refine V_iconst (nI 0) 81 rfl ic_0 ?_
          cases e
          exact V_zret 82 rfl z_0 hR rfl
        · refine V_if_eq 138 62 rfl (by decide +kernel) (fun q => absurd q c62) (fun _ => ?_)
          refine V_aload_n 63 rfl rfl ?_
          refine V_iconst (nI 4) 64 rfl ic_4 ?_
          refine V_iconst (nI 0) 65 rfl ic_0 ?_
          refine V_bipush (nI 9) 66 rfl bp_9 ?_
          obtain ⟨v14, h12, d13, e⟩ := bd2_e e
          refine V_callV (N := M_X8_isIn) (av := [iv (nI 4), iv (nI 0), iv (nI 9)]) (st := []) (r := some (iv v14)) (h' := h12) 67 rfl (c_X8_isIn d13) g_X8_isIn gv_X8_isIn lk_RX8_97 ⟨Nat.le_of_ble_eq_true rfl, Nat.le_of_ble_eq_true rfl⟩ rfl rfl (Nat.le_of_ble_eq_true rfl) ⟨Nat.zero_le _, Nat.zero_le _⟩ ?_
          show V G M_X8_isPlaced X T 0 0 113 [some (rv (8, 99) 135), some (iv x1), some (iv v3), none] [iv v14] h12
          rcases if_e e with ⟨c68, e⟩ | ⟨c68, e⟩
          · refine V_if_eq 138 68 rfl (by decide +kernel) (fun _ => ?_) (fun q => absurd c68 q) 
            refine V_iconst (nI 0) 81 rfl ic_0 ?_
            cases e
            exact V_zret 82 rfl z_0 hR rfl
          · refine V_if_eq 138 68 rfl (by decide +kernel) (fun q => absurd q c68) (fun _ => ?_)
            refine V_aload_n 69 rfl rfl ?_
            refine V_iconst (nI 5) 70 rfl ic_5 ?_
            refine V_iconst (nI 1) 71 rfl ic_1 ?_
            refine V_bipush (nI 99) 72 rfl bp_99 ?_
            obtain ⟨v17, h15, d16, e⟩ := bd2_e e
            refine V_callV (N := M_X8_isIn) (av := [iv (nI 5), iv (nI 1), iv (nI 99)]) (st := []) (r := some (iv v17)) (h' := h15) 73 rfl (c_X8_isIn d16) g_X8_isIn gv_X8_isIn lk_RX8_97 ⟨Nat.le_of_ble_eq_true rfl, Nat.le_of_ble_eq_true rfl⟩ rfl rfl (Nat.le_of_ble_eq_true rfl) ⟨Nat.zero_le _, Nat.zero_le _⟩ ?_
            show V G M_X8_isPlaced X T 0 0 124 [some (rv (8, 99) 135), some (iv x1), some (iv v3), none] [iv v17] h15
            rcases if_e e with ⟨c74, e⟩ | ⟨c74, e⟩
            · refine V_if_eq 138 74 rfl (by decide +kernel) (fun _ => ?_) (fun q => absurd c74 q) 
              refine V_iconst (nI 0) 81 rfl ic_0 ?_
              cases e
              exact V_zret 82 rfl z_0 hR rfl
            · refine V_if_eq 138 74 rfl (by decide +kernel) (fun q => absurd q c74) (fun _ => ?_)
              refine V_aload_n 75 rfl rfl ?_
              refine V_getR 138 76 rfl fr_RX8_17 ⟨Nat.le_of_ble_eq_true rfl, Or.inl (Nat.le_of_ble_eq_true rfl)⟩ rfl ?_
              refine V_iconst (nI 1) 77 rfl ic_1 ?_
              obtain ⟨g18, e⟩ := gd_e e
              refine V_iald 78 rfl g18 ?_
              refine V_bipush (nI 6) 79 rfl bp_6 ?_
              rcases if_e e with ⟨c80, e⟩ | ⟨c80, e⟩
              · refine V_icmp_ne 140 80 rfl (by decide +kernel) (fun q => absurd c80 q) (fun _ => ?_)
                refine V_iconst (nI 0) 81 rfl ic_0 ?_
                cases e
                exact V_zret 82 rfl z_0 hR rfl
              · refine V_icmp_ne 140 80 rfl (by decide +kernel) (fun _ => ?_) (fun q => absurd q c80) 
                refine V_iconst (nI 0) 83 rfl ic_0 ?_
                refine V_istore_n 84 rfl (Nat.le_of_ble_eq_true rfl) rfl ?_
                show V G M_X8_isPlaced X T 0 0 142 [some (rv (8, 99) 135), some (iv x1), some (iv v3), some (iv (nI 0))] [] h15
                refine V_msk [true, false, false, true] (lc' := [some (rv (8, 99) 135), none, none, some (iv (nI 0))]) rfl ?_
                exact fx_e (P := fun s => V G M_X8_isPlaced X T 0 0 142 [some (rv (8, 99) 135), none, none, some (iv s.1)] [] s.2) (fun K142 hK142 s e => w_X8_isPlaced_142 hR K142 (fun x3 h e => hK142 (x3, h) e) s.1 s.2 e) FU ((nI 0), h15) e
    · refine V_icmp_ne 189 50 rfl (by decide +kernel) (fun _ => ?_) (fun q => absurd q c50) 
      refine V_aload_n 114 rfl rfl ?_
      refine V_getR 142 115 rfl fr_RX8_29 ⟨Nat.le_of_ble_eq_true rfl, Or.inl (Nat.le_of_ble_eq_true rfl)⟩ rfl ?_
      refine V_iload_n 116 rfl rfl ?_
      refine V_bipush (nI 111) 117 rfl bp_111 ?_
      rcases if_e e with ⟨c118, e⟩ | ⟨c118, e⟩
      · refine V_icmp_ne 204 118 rfl (by decide +kernel) (fun q => absurd c118 q) (fun _ => ?_)
        refine V_bipush (nI 60) 119 rfl bp_60 ?_
        refine V_goto 206 120 rfl (by decide +kernel) ?_
        refine V_msk [false, false, true, false] (lc' := [none, none, some (iv v3), none]) rfl ?_
        exact w_X8_isPlaced_206 hR v3 (nI 60) h e
      · refine V_icmp_ne 204 118 rfl (by decide +kernel) (fun _ => ?_) (fun q => absurd q c118) 
        refine V_bipush (nI 90) 121 rfl bp_90 ?_
        refine V_msk [false, false, true, false] (lc' := [none, none, some (iv v3), none]) rfl ?_
        exact w_X8_isPlaced_206 hR v3 (nI 90) h e
set_option maxHeartbeats 4000000 in
theorem c_X8_isGood {G : kG} {T : List kT} {x1 : Int32} {h : kH} {r0 : Int32} {h0 : kH} (e : p_X8_isGood x1 h = some (r0, h0)) : k_C G M_X8_isGood T [rv (8, 99) 135, iv x1] h (some (iv r0)) h0 := by
  refine k_C_of 0 (by decide +kernel) rfl tb_X8_isGood rfl (fun X hR => ?_)
  show V G M_X8_isGood X T 0 0 0 [some (rv (8, 99) 135), some (iv x1)] [] h
  unfold p_X8_isGood at e
  refine V_iload_n 0 rfl rfl ?_
  refine V_bipush (nI 119) 1 rfl bp_119 ?_
  rcases if_e e with ⟨c2, e⟩ | ⟨c2, e⟩
  · refine V_icmp_ne 59 2 rfl (by decide +kernel) (fun q => absurd c2 q) (fun _ => ?_)
    refine V_aload_n 3 rfl rfl ?_
    refine V_getR 137 4 rfl fr_RX8_13 ⟨Nat.le_of_ble_eq_true rfl, Or.inl (Nat.le_of_ble_eq_true rfl)⟩ rfl ?_
    refine V_bipush (nI 14) 5 rfl bp_14 ?_
    refine V_aload_n 6 rfl rfl ?_
    refine V_getR 151 7 rfl fr_RX8_57 ⟨Nat.le_of_ble_eq_true rfl, Or.inl (Nat.le_of_ble_eq_true rfl)⟩ rfl ?_
    refine V_iconst (nI 0) 8 rfl ic_0 ?_
    obtain ⟨g64, e⟩ := gd_e e
    refine V_iald 9 rfl g64 ?_
    obtain ⟨g65, e⟩ := gd_e e
    refine V_iast 10 rfl g65 ?_
    refine le_V (P := fun h66 => V G M_X8_isGood X T 0 0 19 [some (rv (8, 99) 135), some (iv x1)] [] h66) e (fun h66 e => ?_)
    refine V_aload_n 11 rfl rfl ?_
    refine V_getR 137 12 rfl fr_RX8_13 ⟨Nat.le_of_ble_eq_true rfl, Or.inl (Nat.le_of_ble_eq_true rfl)⟩ rfl ?_
    refine V_bipush (nI 15) 13 rfl bp_15 ?_
    refine V_aload_n 14 rfl rfl ?_
    refine V_getR 151 15 rfl fr_RX8_57 ⟨Nat.le_of_ble_eq_true rfl, Or.inl (Nat.le_of_ble_eq_true rfl)⟩ rfl ?_
    refine V_iconst (nI 1) 16 rfl ic_1 ?_
    obtain ⟨g67, e⟩ := gd_e e
    refine V_iald 17 rfl g67 ?_
    obtain ⟨g68, e⟩ := gd_e e
    refine V_iast 18 rfl g68 ?_
    refine le_V (P := fun h69 => V G M_X8_isGood X T 0 0 32 [some (rv (8, 99) 135), some (iv x1)] [] h69) e (fun h69 e => ?_)
    refine V_aload_n 19 rfl rfl ?_
    refine V_iconst (nI 0) 20 rfl ic_0 ?_
    refine V_iconst (nI 2) 21 rfl ic_2 ?_
    refine V_bipush (nI 6) 22 rfl bp_6 ?_
    obtain ⟨v72, h70, d71, e⟩ := bd2_e e
    refine V_callV (N := M_X8_isIn) (av := [iv (nI 0), iv (nI 2), iv (nI 6)]) (st := []) (r := some (iv v72)) (h' := h70) 23 rfl (c_X8_isIn d71) g_X8_isIn gv_X8_isIn lk_RX8_97 ⟨Nat.le_of_ble_eq_true rfl, Nat.le_of_ble_eq_true rfl⟩ rfl rfl (Nat.le_of_ble_eq_true rfl) ⟨Nat.zero_le _, Nat.zero_le _⟩ ?_
    show V G M_X8_isGood X T 0 0 40 [some (rv (8, 99) 135), some (iv x1)] [iv v72] h70
    rcases if_e e with ⟨c24, e⟩ | ⟨c24, e⟩
    · refine V_if_eq 57 24 rfl (by decide +kernel) (fun _ => ?_) (fun q => absurd c24 q) 
      refine V_iconst (nI 0) 33 rfl ic_0 ?_
      cases e
      exact V_zret 34 rfl z_0 hR rfl
    · refine V_if_eq 57 24 rfl (by decide +kernel) (fun q => absurd q c24) (fun _ => ?_)
      refine V_aload_n 25 rfl rfl ?_
      refine V_iconst (nI 1) 26 rfl ic_1 ?_
      refine V_iconst (nI 2) 27 rfl ic_2 ?_
      refine V_iconst (nI 5) 28 rfl ic_5 ?_
      obtain ⟨v75, h73, d74, e⟩ := bd2_e e
      refine V_callV (N := M_X8_isIn) (av := [iv (nI 1), iv (nI 2), iv (nI 5)]) (st := []) (r := some (iv v75)) (h' := h73) 29 rfl (c_X8_isIn d74) g_X8_isIn gv_X8_isIn lk_RX8_97 ⟨Nat.le_of_ble_eq_true rfl, Nat.le_of_ble_eq_true rfl⟩ rfl rfl (Nat.le_of_ble_eq_true rfl) ⟨Nat.zero_le _, Nat.zero_le _⟩ ?_
      show V G M_X8_isGood X T 0 0 50 [some (rv (8, 99) 135), some (iv x1)] [iv v75] h73
      rcases if_e e with ⟨c30, e⟩ | ⟨c30, e⟩
      · refine V_if_eq 57 30 rfl (by decide +kernel) (fun _ => ?_) (fun q => absurd c30 q) 
        refine V_iconst (nI 0) 33 rfl ic_0 ?_
        cases e
        exact V_zret 34 rfl z_0 hR rfl
      · refine V_if_eq 57 30 rfl (by decide +kernel) (fun q => absurd q c30) (fun _ => ?_)
        refine V_iconst (nI 1) 31 rfl ic_1 ?_
        refine V_goto 58 32 rfl (by decide +kernel) ?_
        cases e
        exact V_zret 34 rfl z_1 hR rfl
  · refine V_icmp_ne 59 2 rfl (by decide +kernel) (fun _ => ?_) (fun q => absurd q c2) 
    refine V_iload_n 35 rfl rfl ?_
    refine V_bipush (nI 107) 36 rfl bp_107 ?_
    rcases if_e e with ⟨c37, e⟩ | ⟨c37, e⟩
    · refine V_icmp_ne 145 37 rfl (by decide +kernel) (fun q => absurd c37 q) (fun _ => ?_)
      refine V_aload_n 38 rfl rfl ?_
      refine V_iconst (nI 0) 39 rfl ic_0 ?_
      refine V_iconst (nI 0) 40 rfl ic_0 ?_
      refine V_iconst (nI 2) 41 rfl ic_2 ?_
      obtain ⟨v50, h48, d49, e⟩ := bd2_e e
      refine V_callV (N := M_X8_isIn) (av := [iv (nI 0), iv (nI 0), iv (nI 2)]) (st := []) (r := some (iv v50)) (h' := h48) 42 rfl (c_X8_isIn d49) g_X8_isIn gv_X8_isIn lk_RX8_97 ⟨Nat.le_of_ble_eq_true rfl, Nat.le_of_ble_eq_true rfl⟩ rfl rfl (Nat.le_of_ble_eq_true rfl) ⟨Nat.zero_le _, Nat.zero_le _⟩ ?_
      show V G M_X8_isGood X T 0 0 72 [some (rv (8, 99) 135), some (iv x1)] [iv v50] h48
      rcases if_e e with ⟨c43, e⟩ | ⟨c43, e⟩
      · refine V_if_ne 77 43 rfl (by decide +kernel) (fun q => absurd c43 q) (fun _ => ?_)
        refine V_iconst (nI 0) 44 rfl ic_0 ?_
        cases e
        exact V_zret 45 rfl z_0 hR rfl
      · refine V_if_ne 77 43 rfl (by decide +kernel) (fun _ => ?_) (fun q => absurd q c43) 
        refine V_aload_n 46 rfl rfl ?_
        refine V_getR 137 47 rfl fr_RX8_13 ⟨Nat.le_of_ble_eq_true rfl, Or.inl (Nat.le_of_ble_eq_true rfl)⟩ rfl ?_
        refine V_bipush (nI 22) 48 rfl bp_22 ?_
        refine V_aload_n 49 rfl rfl ?_
        refine V_getR 151 50 rfl fr_RX8_57 ⟨Nat.le_of_ble_eq_true rfl, Or.inl (Nat.le_of_ble_eq_true rfl)⟩ rfl ?_
        refine V_iconst (nI 0) 51 rfl ic_0 ?_
        obtain ⟨g51, e⟩ := gd_e e
        refine V_iald 52 rfl g51 ?_
        refine V_iadd 53 rfl ?_
        refine V_aload_n 54 rfl rfl ?_
        refine V_getR 151 55 rfl fr_RX8_57 ⟨Nat.le_of_ble_eq_true rfl, Or.inl (Nat.le_of_ble_eq_true rfl)⟩ rfl ?_
        refine V_iconst (nI 1) 56 rfl ic_1 ?_
        obtain ⟨g52, e⟩ := gd_e e
        refine V_iald 57 rfl g52 ?_
        obtain ⟨g53, e⟩ := gd_e e
        refine V_iast 58 rfl g53 ?_
        refine le_V (P := fun h54 => V G M_X8_isGood X T 0 0 97 [some (rv (8, 99) 135), some (iv x1)] [] h54) e (fun h54 e => ?_)
        refine V_aload_n 59 rfl rfl ?_
        refine V_getR 137 60 rfl fr_RX8_13 ⟨Nat.le_of_ble_eq_true rfl, Or.inl (Nat.le_of_ble_eq_true rfl)⟩ rfl ?_
        refine V_bipush (nI 25) 61 rfl bp_25 ?_
        refine V_aload_n 62 rfl rfl ?_
        refine V_getR 151 63 rfl fr_RX8_57 ⟨Nat.le_of_ble_eq_true rfl, Or.inl (Nat.le_of_ble_eq_true rfl)⟩ rfl ?_
        refine V_iconst (nI 0) 64 rfl ic_0 ?_
        refine V_iald 65 rfl g51 ?_
        refine V_iadd 66 rfl ?_
        refine V_aload_n 67 rfl rfl ?_
        refine V_getR 151 68 rfl fr_RX8_57 ⟨Nat.le_of_ble_eq_true rfl, Or.inl (Nat.le_of_ble_eq_true rfl)⟩ rfl ?_
        refine V_iconst (nI 2) 69 rfl ic_2 ?_
        obtain ⟨g55, e⟩ := gd_e e
        refine V_iald 70 rfl g55 ?_
        obtain ⟨g56, e⟩ := gd_e e
        refine V_iast 71 rfl g56 ?_
        refine le_V (P := fun h57 => V G M_X8_isGood X T 0 0 117 [some (rv (8, 99) 135), some (iv x1)] [] h57) e (fun h57 e => ?_)
        refine V_aload_n 72 rfl rfl ?_
        refine V_iconst (nI 1) 73 rfl ic_1 ?_
        refine V_iconst (nI 1) 74 rfl ic_1 ?_
        refine V_bipush (nI 20) 75 rfl bp_20 ?_
        obtain ⟨v60, h58, d59, e⟩ := bd2_e e
        refine V_callV (N := M_X8_isIn) (av := [iv (nI 1), iv (nI 1), iv (nI 20)]) (st := []) (r := some (iv v60)) (h' := h58) 76 rfl (c_X8_isIn d59) g_X8_isIn gv_X8_isIn lk_RX8_97 ⟨Nat.le_of_ble_eq_true rfl, Nat.le_of_ble_eq_true rfl⟩ rfl rfl (Nat.le_of_ble_eq_true rfl) ⟨Nat.zero_le _, Nat.zero_le _⟩ ?_
        show V G M_X8_isGood X T 0 0 125 [some (rv (8, 99) 135), some (iv x1)] [iv v60] h58
        rcases if_e e with ⟨c77, e⟩ | ⟨c77, e⟩
        · refine V_if_eq 143 77 rfl (by decide +kernel) (fun _ => ?_) (fun q => absurd c77 q) 
          refine V_iconst (nI 0) 86 rfl ic_0 ?_
          cases e
          exact V_zret 87 rfl z_0 hR rfl
        · refine V_if_eq 143 77 rfl (by decide +kernel) (fun q => absurd q c77) (fun _ => ?_)
          refine V_aload_n 78 rfl rfl ?_
          refine V_iconst (nI 2) 79 rfl ic_2 ?_
          refine V_iconst (nI 1) 80 rfl ic_1 ?_
          refine V_bipush (nI 60) 81 rfl bp_60 ?_
          obtain ⟨v63, h61, d62, e⟩ := bd2_e e
          refine V_callV (N := M_X8_isIn) (av := [iv (nI 2), iv (nI 1), iv (nI 60)]) (st := []) (r := some (iv v63)) (h' := h61) 82 rfl (c_X8_isIn d62) g_X8_isIn gv_X8_isIn lk_RX8_97 ⟨Nat.le_of_ble_eq_true rfl, Nat.le_of_ble_eq_true rfl⟩ rfl rfl (Nat.le_of_ble_eq_true rfl) ⟨Nat.zero_le _, Nat.zero_le _⟩ ?_
          show V G M_X8_isGood X T 0 0 136 [some (rv (8, 99) 135), some (iv x1)] [iv v63] h61
          rcases if_e e with ⟨c83, e⟩ | ⟨c83, e⟩
          · refine V_if_eq 143 83 rfl (by decide +kernel) (fun _ => ?_) (fun q => absurd c83 q) 
            refine V_iconst (nI 0) 86 rfl ic_0 ?_
            cases e
            exact V_zret 87 rfl z_0 hR rfl
          · refine V_if_eq 143 83 rfl (by decide +kernel) (fun q => absurd q c83) (fun _ => ?_)
            refine V_iconst (nI 1) 84 rfl ic_1 ?_
            refine V_goto 144 85 rfl (by decide +kernel) ?_
            cases e
            exact V_zret 87 rfl z_1 hR rfl
    · refine V_icmp_ne 145 37 rfl (by decide +kernel) (fun _ => ?_) (fun q => absurd q c37) 
      refine V_iload_n 88 rfl rfl ?_
      refine V_bipush (nI 108) 89 rfl bp_108 ?_
      rcases if_e e with ⟨c90, e⟩ | ⟨c90, e⟩
      · refine V_icmp_ne 173 90 rfl (by decide +kernel) (fun q => absurd c90 q) (fun _ => ?_)
        refine V_aload_n 91 rfl rfl ?_
        refine V_getR 137 92 rfl fr_RX8_13 ⟨Nat.le_of_ble_eq_true rfl, Or.inl (Nat.le_of_ble_eq_true rfl)⟩ rfl ?_
        refine V_bipush (nI 16) 93 rfl bp_16 ?_
        refine V_aload_n 94 rfl rfl ?_
        refine V_getR 151 95 rfl fr_RX8_57 ⟨Nat.le_of_ble_eq_true rfl, Or.inl (Nat.le_of_ble_eq_true rfl)⟩ rfl ?_
        refine V_iconst (nI 0) 96 rfl ic_0 ?_
        obtain ⟨g41, e⟩ := gd_e e
        refine V_iald 97 rfl g41 ?_
        obtain ⟨g42, e⟩ := gd_e e
        refine V_iast 98 rfl g42 ?_
        refine le_V (P := fun h43 => V G M_X8_isGood X T 0 0 164 [some (rv (8, 99) 135), some (iv x1)] [] h43) e (fun h43 e => ?_)
        refine V_aload_n 99 rfl rfl ?_
        refine V_iconst (nI 0) 100 rfl ic_0 ?_
        refine V_iconst (nI 1) 101 rfl ic_1 ?_
        refine V_bipush (nI 30) 102 rfl bp_30 ?_
        obtain ⟨v46, h44, d45, e⟩ := bd2_e e
        refine V_callV (N := M_X8_isIn) (av := [iv (nI 0), iv (nI 1), iv (nI 30)]) (st := []) (r := some (iv v46)) (h' := h44) 103 rfl (c_X8_isIn d45) g_X8_isIn gv_X8_isIn lk_RX8_97 ⟨Nat.le_of_ble_eq_true rfl, Nat.le_of_ble_eq_true rfl⟩ rfl rfl (Nat.le_of_ble_eq_true rfl) ⟨Nat.zero_le _, Nat.zero_le _⟩ ?_
        show V G M_X8_isGood X T 0 0 172 [some (rv (8, 99) 135), some (iv x1)] [iv v46] h44
        obtain ⟨g47, e⟩ := gd_e e
        cases e
        exact V_zret 104 rfl (of_decide_eq_true g47) hR rfl
      · refine V_icmp_ne 173 90 rfl (by decide +kernel) (fun _ => ?_) (fun q => absurd q c90) 
        refine V_iload_n 105 rfl rfl ?_
        refine V_bipush (nI 118) 106 rfl bp_118 ?_
        rcases if_e e with ⟨c107, e⟩ | ⟨c107, e⟩
        · refine V_icmp_ne 201 107 rfl (by decide +kernel) (fun q => absurd c107 q) (fun _ => ?_)
          refine V_aload_n 108 rfl rfl ?_
          refine V_getR 137 109 rfl fr_RX8_13 ⟨Nat.le_of_ble_eq_true rfl, Or.inl (Nat.le_of_ble_eq_true rfl)⟩ rfl ?_
          refine V_bipush (nI 21) 110 rfl bp_21 ?_
          refine V_aload_n 111 rfl rfl ?_
          refine V_getR 151 112 rfl fr_RX8_57 ⟨Nat.le_of_ble_eq_true rfl, Or.inl (Nat.le_of_ble_eq_true rfl)⟩ rfl ?_
          refine V_iconst (nI 0) 113 rfl ic_0 ?_
          obtain ⟨g34, e⟩ := gd_e e
          refine V_iald 114 rfl g34 ?_
          obtain ⟨g35, e⟩ := gd_e e
          refine V_iast 115 rfl g35 ?_
          refine le_V (P := fun h36 => V G M_X8_isGood X T 0 0 192 [some (rv (8, 99) 135), some (iv x1)] [] h36) e (fun h36 e => ?_)
          refine V_aload_n 116 rfl rfl ?_
          refine V_iconst (nI 0) 117 rfl ic_0 ?_
          refine V_iconst (nI 0) 118 rfl ic_0 ?_
          refine V_bipush (nI 9) 119 rfl bp_9 ?_
          obtain ⟨v39, h37, d38, e⟩ := bd2_e e
          refine V_callV (N := M_X8_isIn) (av := [iv (nI 0), iv (nI 0), iv (nI 9)]) (st := []) (r := some (iv v39)) (h' := h37) 120 rfl (c_X8_isIn d38) g_X8_isIn gv_X8_isIn lk_RX8_97 ⟨Nat.le_of_ble_eq_true rfl, Nat.le_of_ble_eq_true rfl⟩ rfl rfl (Nat.le_of_ble_eq_true rfl) ⟨Nat.zero_le _, Nat.zero_le _⟩ ?_
          show V G M_X8_isGood X T 0 0 200 [some (rv (8, 99) 135), some (iv x1)] [iv v39] h37
          obtain ⟨g40, e⟩ := gd_e e
          cases e
          exact V_zret 121 rfl (of_decide_eq_true g40) hR rfl
        · refine V_icmp_ne 201 107 rfl (by decide +kernel) (fun _ => ?_) (fun q => absurd q c107) 
          refine V_iload_n 122 rfl rfl ?_
          refine V_bipush (nI 104) 123 rfl bp_104 ?_
          rcases if_e e with ⟨c124, e⟩ | ⟨c124, e⟩
          · refine V_icmp_ne 262 124 rfl (by decide +kernel) (fun q => absurd c124 q) (fun _ => ?_)
            refine V_aload_n 125 rfl rfl ?_
            refine V_getR 137 126 rfl fr_RX8_13 ⟨Nat.le_of_ble_eq_true rfl, Or.inl (Nat.le_of_ble_eq_true rfl)⟩ rfl ?_
            refine V_bipush (nI 17) 127 rfl bp_17 ?_
            refine V_aload_n 128 rfl rfl ?_
            refine V_getR 151 129 rfl fr_RX8_57 ⟨Nat.le_of_ble_eq_true rfl, Or.inl (Nat.le_of_ble_eq_true rfl)⟩ rfl ?_
            refine V_iconst (nI 0) 130 rfl ic_0 ?_
            obtain ⟨g22, e⟩ := gd_e e
            refine V_iald 131 rfl g22 ?_
            obtain ⟨g23, e⟩ := gd_e e
            refine V_iast 132 rfl g23 ?_
            refine le_V (P := fun h24 => V G M_X8_isGood X T 0 0 220 [some (rv (8, 99) 135), some (iv x1)] [] h24) e (fun h24 e => ?_)
            refine V_aload_n 133 rfl rfl ?_
            refine V_getR 137 134 rfl fr_RX8_13 ⟨Nat.le_of_ble_eq_true rfl, Or.inl (Nat.le_of_ble_eq_true rfl)⟩ rfl ?_
            refine V_bipush (nI 18) 135 rfl bp_18 ?_
            refine V_aload_n 136 rfl rfl ?_
            refine V_getR 151 137 rfl fr_RX8_57 ⟨Nat.le_of_ble_eq_true rfl, Or.inl (Nat.le_of_ble_eq_true rfl)⟩ rfl ?_
            refine V_iconst (nI 1) 138 rfl ic_1 ?_
            obtain ⟨g25, e⟩ := gd_e e
            refine V_iald 139 rfl g25 ?_
            obtain ⟨g26, e⟩ := gd_e e
            refine V_iast 140 rfl g26 ?_
            refine le_V (P := fun h27 => V G M_X8_isGood X T 0 0 233 [some (rv (8, 99) 135), some (iv x1)] [] h27) e (fun h27 e => ?_)
            refine V_aload_n 141 rfl rfl ?_
            refine V_iconst (nI 0) 142 rfl ic_0 ?_
            refine V_bipush (nI 30) 143 rfl bp_30 ?_
            refine V_bipush (nI 99) 144 rfl bp_99 ?_
            obtain ⟨v30, h28, d29, e⟩ := bd2_e e
            refine V_callV (N := M_X8_isIn) (av := [iv (nI 0), iv (nI 30), iv (nI 99)]) (st := []) (r := some (iv v30)) (h' := h28) 145 rfl (c_X8_isIn d29) g_X8_isIn gv_X8_isIn lk_RX8_97 ⟨Nat.le_of_ble_eq_true rfl, Nat.le_of_ble_eq_true rfl⟩ rfl rfl (Nat.le_of_ble_eq_true rfl) ⟨Nat.zero_le _, Nat.zero_le _⟩ ?_
            show V G M_X8_isGood X T 0 0 242 [some (rv (8, 99) 135), some (iv x1)] [iv v30] h28
            rcases if_e e with ⟨c146, e⟩ | ⟨c146, e⟩
            · refine V_if_eq 260 146 rfl (by decide +kernel) (fun _ => ?_) (fun q => absurd c146 q) 
              refine V_iconst (nI 0) 155 rfl ic_0 ?_
              cases e
              exact V_zret 156 rfl z_0 hR rfl
            · refine V_if_eq 260 146 rfl (by decide +kernel) (fun q => absurd q c146) (fun _ => ?_)
              refine V_aload_n 147 rfl rfl ?_
              refine V_iconst (nI 1) 148 rfl ic_1 ?_
              refine V_iconst (nI 1) 149 rfl ic_1 ?_
              refine V_bipush (nI 60) 150 rfl bp_60 ?_
              obtain ⟨v33, h31, d32, e⟩ := bd2_e e
              refine V_callV (N := M_X8_isIn) (av := [iv (nI 1), iv (nI 1), iv (nI 60)]) (st := []) (r := some (iv v33)) (h' := h31) 151 rfl (c_X8_isIn d32) g_X8_isIn gv_X8_isIn lk_RX8_97 ⟨Nat.le_of_ble_eq_true rfl, Nat.le_of_ble_eq_true rfl⟩ rfl rfl (Nat.le_of_ble_eq_true rfl) ⟨Nat.zero_le _, Nat.zero_le _⟩ ?_
              show V G M_X8_isGood X T 0 0 253 [some (rv (8, 99) 135), some (iv x1)] [iv v33] h31
              rcases if_e e with ⟨c152, e⟩ | ⟨c152, e⟩
              · refine V_if_eq 260 152 rfl (by decide +kernel) (fun _ => ?_) (fun q => absurd c152 q) 
                refine V_iconst (nI 0) 155 rfl ic_0 ?_
                cases e
                exact V_zret 156 rfl z_0 hR rfl
              · refine V_if_eq 260 152 rfl (by decide +kernel) (fun q => absurd q c152) (fun _ => ?_)
                refine V_iconst (nI 1) 153 rfl ic_1 ?_
                refine V_goto 261 154 rfl (by decide +kernel) ?_
                cases e
                exact V_zret 156 rfl z_1 hR rfl
          · refine V_icmp_ne 262 124 rfl (by decide +kernel) (fun _ => ?_) (fun q => absurd q c124) 
            refine V_iload_n 157 rfl rfl ?_
            refine V_bipush (nI 100) 158 rfl bp_100 ?_
            rcases if_e e with ⟨c159, e⟩ | ⟨c159, e⟩
            · refine V_icmp_ne 326 159 rfl (by decide +kernel) (fun q => absurd c159 q) (fun _ => ?_)
              refine V_aload_n 160 rfl rfl ?_
              refine V_getR 137 161 rfl fr_RX8_13 ⟨Nat.le_of_ble_eq_true rfl, Or.inl (Nat.le_of_ble_eq_true rfl)⟩ rfl ?_
              refine V_bipush (nI 19) 162 rfl bp_19 ?_
              refine V_aload_n 163 rfl rfl ?_
              refine V_getR 151 164 rfl fr_RX8_57 ⟨Nat.le_of_ble_eq_true rfl, Or.inl (Nat.le_of_ble_eq_true rfl)⟩ rfl ?_
              refine V_iconst (nI 0) 165 rfl ic_0 ?_
              obtain ⟨g10, e⟩ := gd_e e
              refine V_iald 166 rfl g10 ?_
              obtain ⟨g11, e⟩ := gd_e e
              refine V_iast 167 rfl g11 ?_
              refine le_V (P := fun h12 => V G M_X8_isGood X T 0 0 281 [some (rv (8, 99) 135), some (iv x1)] [] h12) e (fun h12 e => ?_)
              refine V_aload_n 168 rfl rfl ?_
              refine V_getR 137 169 rfl fr_RX8_13 ⟨Nat.le_of_ble_eq_true rfl, Or.inl (Nat.le_of_ble_eq_true rfl)⟩ rfl ?_
              refine V_bipush (nI 20) 170 rfl bp_20 ?_
              refine V_aload_n 171 rfl rfl ?_
              refine V_getR 151 172 rfl fr_RX8_57 ⟨Nat.le_of_ble_eq_true rfl, Or.inl (Nat.le_of_ble_eq_true rfl)⟩ rfl ?_
              refine V_iconst (nI 1) 173 rfl ic_1 ?_
              obtain ⟨g13, e⟩ := gd_e e
              refine V_iald 174 rfl g13 ?_
              obtain ⟨g14, e⟩ := gd_e e
              refine V_iast 175 rfl g14 ?_
              refine le_V (P := fun h15 => V G M_X8_isGood X T 0 0 294 [some (rv (8, 99) 135), some (iv x1)] [] h15) e (fun h15 e => ?_)
              refine V_aload_n 176 rfl rfl ?_
              refine V_iconst (nI 0) 177 rfl ic_0 ?_
              refine V_bipush (nI 10) 178 rfl bp_10 ?_
              refine V_sipush (nI 300) 179 rfl sp_300 ?_
              obtain ⟨v18, h16, d17, e⟩ := bd2_e e
              refine V_callV (N := M_X8_isIn) (av := [iv (nI 0), iv (nI 10), iv (nI 300)]) (st := []) (r := some (iv v18)) (h' := h16) 180 rfl (c_X8_isIn d17) g_X8_isIn gv_X8_isIn lk_RX8_97 ⟨Nat.le_of_ble_eq_true rfl, Nat.le_of_ble_eq_true rfl⟩ rfl rfl (Nat.le_of_ble_eq_true rfl) ⟨Nat.zero_le _, Nat.zero_le _⟩ ?_
              show V G M_X8_isGood X T 0 0 304 [some (rv (8, 99) 135), some (iv x1)] [iv v18] h16
              rcases if_e e with ⟨c181, e⟩ | ⟨c181, e⟩
              · refine V_if_eq 324 181 rfl (by decide +kernel) (fun _ => ?_) (fun q => absurd c181 q) 
                refine V_iconst (nI 0) 190 rfl ic_0 ?_
                cases e
                exact V_zret 191 rfl z_0 hR rfl
              · refine V_if_eq 324 181 rfl (by decide +kernel) (fun q => absurd q c181) (fun _ => ?_)
                refine V_aload_n 182 rfl rfl ?_
                refine V_iconst (nI 1) 183 rfl ic_1 ?_
                refine V_bipush (nI 10) 184 rfl bp_10 ?_
                refine V_sipush (nI 300) 185 rfl sp_300 ?_
                obtain ⟨v21, h19, d20, e⟩ := bd2_e e
                refine V_callV (N := M_X8_isIn) (av := [iv (nI 1), iv (nI 10), iv (nI 300)]) (st := []) (r := some (iv v21)) (h' := h19) 186 rfl (c_X8_isIn d20) g_X8_isIn gv_X8_isIn lk_RX8_97 ⟨Nat.le_of_ble_eq_true rfl, Nat.le_of_ble_eq_true rfl⟩ rfl rfl (Nat.le_of_ble_eq_true rfl) ⟨Nat.zero_le _, Nat.zero_le _⟩ ?_
                show V G M_X8_isGood X T 0 0 317 [some (rv (8, 99) 135), some (iv x1)] [iv v21] h19
                rcases if_e e with ⟨c187, e⟩ | ⟨c187, e⟩
                · refine V_if_eq 324 187 rfl (by decide +kernel) (fun _ => ?_) (fun q => absurd c187 q) 
                  refine V_iconst (nI 0) 190 rfl ic_0 ?_
                  cases e
                  exact V_zret 191 rfl z_0 hR rfl
                · refine V_if_eq 324 187 rfl (by decide +kernel) (fun q => absurd q c187) (fun _ => ?_)
                  refine V_iconst (nI 1) 188 rfl ic_1 ?_
                  refine V_goto 325 189 rfl (by decide +kernel) ?_
                  cases e
                  exact V_zret 191 rfl z_1 hR rfl
            · refine V_icmp_ne 326 159 rfl (by decide +kernel) (fun _ => ?_) (fun q => absurd q c159) 
              refine V_aload_n 192 rfl rfl ?_
              refine V_iconst (nI 0) 193 rfl ic_0 ?_
              refine V_iconst (nI 0) 194 rfl ic_0 ?_
              refine V_iconst (nI 5) 195 rfl ic_5 ?_
              obtain ⟨v3, h1, d2, e⟩ := bd2_e e
              refine V_callV (N := M_X8_isIn) (av := [iv (nI 0), iv (nI 0), iv (nI 5)]) (st := []) (r := some (iv v3)) (h' := h1) 196 rfl (c_X8_isIn d2) g_X8_isIn gv_X8_isIn lk_RX8_97 ⟨Nat.le_of_ble_eq_true rfl, Nat.le_of_ble_eq_true rfl⟩ rfl rfl (Nat.le_of_ble_eq_true rfl) ⟨Nat.zero_le _, Nat.zero_le _⟩ ?_
              show V G M_X8_isGood X T 0 0 333 [some (rv (8, 99) 135), some (iv x1)] [iv v3] h1
              rcases if_e e with ⟨c197, e⟩ | ⟨c197, e⟩
              · refine V_if_eq 358 197 rfl (by decide +kernel) (fun _ => ?_) (fun q => absurd c197 q) 
                refine V_iconst (nI 0) 210 rfl ic_0 ?_
                cases e
                exact V_zret 211 rfl z_0 hR rfl
              · refine V_if_eq 358 197 rfl (by decide +kernel) (fun q => absurd q c197) (fun _ => ?_)
                refine V_aload_n 198 rfl rfl ?_
                refine V_iconst (nI 1) 199 rfl ic_1 ?_
                refine V_iconst (nI 0) 200 rfl ic_0 ?_
                refine V_iconst (nI 4) 201 rfl ic_4 ?_
                obtain ⟨v6, h4, d5, e⟩ := bd2_e e
                refine V_callV (N := M_X8_isIn) (av := [iv (nI 1), iv (nI 0), iv (nI 4)]) (st := []) (r := some (iv v6)) (h' := h4) 202 rfl (c_X8_isIn d5) g_X8_isIn gv_X8_isIn lk_RX8_97 ⟨Nat.le_of_ble_eq_true rfl, Nat.le_of_ble_eq_true rfl⟩ rfl rfl (Nat.le_of_ble_eq_true rfl) ⟨Nat.zero_le _, Nat.zero_le _⟩ ?_
                show V G M_X8_isGood X T 0 0 343 [some (rv (8, 99) 135), some (iv x1)] [iv v6] h4
                rcases if_e e with ⟨c203, e⟩ | ⟨c203, e⟩
                · refine V_if_eq 358 203 rfl (by decide +kernel) (fun _ => ?_) (fun q => absurd c203 q) 
                  refine V_iconst (nI 0) 210 rfl ic_0 ?_
                  cases e
                  exact V_zret 211 rfl z_0 hR rfl
                · refine V_if_eq 358 203 rfl (by decide +kernel) (fun q => absurd q c203) (fun _ => ?_)
                  refine V_aload_n 204 rfl rfl ?_
                  refine V_iload_n 205 rfl rfl ?_
                  obtain ⟨v9, h7, d8, e⟩ := bd2_e e
                  refine V_callV (N := M_X8_isPlaced) (av := [iv x1]) (st := []) (r := some (iv v9)) (h' := h7) 206 rfl (c_X8_isPlaced d8) g_X8_isPlaced gv_X8_isPlaced lk_RX8_101 ⟨Nat.le_of_ble_eq_true rfl, Nat.le_of_ble_eq_true rfl⟩ rfl rfl (Nat.le_of_ble_eq_true rfl) ⟨Nat.zero_le _, Nat.zero_le _⟩ ?_
                  show V G M_X8_isGood X T 0 0 351 [some (rv (8, 99) 135), some (iv x1)] [iv v9] h7
                  rcases if_e e with ⟨c207, e⟩ | ⟨c207, e⟩
                  · refine V_if_eq 358 207 rfl (by decide +kernel) (fun _ => ?_) (fun q => absurd c207 q) 
                    refine V_iconst (nI 0) 210 rfl ic_0 ?_
                    cases e
                    exact V_zret 211 rfl z_0 hR rfl
                  · refine V_if_eq 358 207 rfl (by decide +kernel) (fun q => absurd q c207) (fun _ => ?_)
                    refine V_iconst (nI 1) 208 rfl ic_1 ?_
                    refine V_goto 359 209 rfl (by decide +kernel) ?_
                    cases e
                    exact V_zret 211 rfl z_1 hR rfl
set_option maxHeartbeats 4000000 in
theorem w_X8_isItem_178 {G : kG} {X : kX} {T : List kT} {r0 : Int32} {h0 : kH} (hR : k_R G M_X8_isItem X T 0 0 (some (iv r0)) h0) (x1 : Int32) (s0 : Int32) (h : kH) (e : p_X8_isItem_178 x1 s0 h = some (r0, h0)) : V G M_X8_isItem X T 0 0 178 [some (rv (8, 99) 135), some (iv x1), none, none, none] [iv s0] h := by
  unfold p_X8_isItem_178 at e
  refine V_istore_n 94 rfl (Nat.le_of_ble_eq_true rfl) rfl ?_
  show V G M_X8_isItem X T 0 0 179 [some (rv (8, 99) 135), some (iv x1), none, some (iv s0), none] [] h
  refine V_aload_n 95 rfl rfl ?_
  refine V_dup 96 rfl nj_r ?_
  refine V_getI 97 rfl fi_RX8_76 ?_
  refine V_iconst (nI 1) 98 rfl ic_1 ?_
  refine V_iadd 99 rfl ?_
  refine V_putI 100 rfl fi_RX8_76 ?_
  refine le_V (P := fun h7 => V G M_X8_isItem X T 0 0 189 [some (rv (8, 99) 135), some (iv x1), none, some (iv s0), none] [] h7) e (fun h7 e => ?_)
  refine V_iload_n 101 rfl rfl ?_
  rcases if_e e with ⟨c102, e⟩ | ⟨c102, e⟩
  · refine V_if_eq 205 102 rfl (by decide +kernel) (fun _ => ?_) (fun q => absurd c102 q) 
    refine V_iconst (nI 0) 109 rfl ic_0 ?_
    cases e
    exact V_zret 110 rfl z_0 hR rfl
  · refine V_if_eq 205 102 rfl (by decide +kernel) (fun q => absurd q c102) (fun _ => ?_)
    refine V_aload_n 103 rfl rfl ?_
    refine V_iload_n 104 rfl rfl ?_
    obtain ⟨v10, h8, d9, e⟩ := bd2_e e
    refine V_callV (N := M_X8_isGood) (av := [iv x1]) (st := []) (r := some (iv v10)) (h' := h8) 105 rfl (c_X8_isGood d9) g_X8_isGood gv_X8_isGood lk_RX8_93 ⟨Nat.le_of_ble_eq_true rfl, Nat.le_of_ble_eq_true rfl⟩ rfl rfl (Nat.le_of_ble_eq_true rfl) ⟨Nat.zero_le _, Nat.zero_le _⟩ ?_
    show V G M_X8_isItem X T 0 0 198 [some (rv (8, 99) 135), some (iv x1), none, some (iv s0), none] [iv v10] h8
    rcases if_e e with ⟨c106, e⟩ | ⟨c106, e⟩
    · refine V_if_eq 205 106 rfl (by decide +kernel) (fun _ => ?_) (fun q => absurd c106 q) 
      refine V_iconst (nI 0) 109 rfl ic_0 ?_
      cases e
      exact V_zret 110 rfl z_0 hR rfl
    · refine V_if_eq 205 106 rfl (by decide +kernel) (fun q => absurd q c106) (fun _ => ?_)
      refine V_iconst (nI 1) 107 rfl ic_1 ?_
      refine V_goto 206 108 rfl (by decide +kernel) ?_
      cases e
      exact V_zret 110 rfl z_1 hR rfl
set_option maxHeartbeats 4000000 in
theorem w_X8_isItem_177 {G : kG} {X : kX} {T : List kT} {r0 : Int32} {h0 : kH} (hR : k_R G M_X8_isItem X T 0 0 (some (iv r0)) h0) (x1 : Int32) (h : kH) (e : p_X8_isItem_177 x1 h = some (r0, h0)) : V G M_X8_isItem X T 0 0 177 [some (rv (8, 99) 135), some (iv x1), none, none, none] [] h := by
  unfold p_X8_isItem_177 at e
  refine V_iconst (nI 0) 93 rfl ic_0 ?_
  refine V_msk [true, true, false, false, false] (lc' := [some (rv (8, 99) 135), some (iv x1), none, none, none]) rfl ?_
  exact w_X8_isItem_178 hR x1 (nI 0) h e
set_option maxHeartbeats 4000000 in
theorem w_X8_isItem_144 {G : kG} {X : kX} {T : List kT} {r0 : Int32} {h0 : kH} (hR : k_R G M_X8_isItem X T 0 0 (some (iv r0)) h0) (x1 : Int32) (x3 : Int32) (h : kH) (e : p_X8_isItem_144 x1 x3 h = some (r0, h0)) : V G M_X8_isItem X T 0 0 144 [some (rv (8, 99) 135), some (iv x1), none, some (iv x3), none] [] h := by
  unfold p_X8_isItem_144 at e
  refine V_iload_n 77 rfl rfl ?_
  rcases if_e e with ⟨c78, e⟩ | ⟨c78, e⟩
  · refine V_if_eq 177 78 rfl (by decide +kernel) (fun _ => ?_) (fun q => absurd c78 q) 
    refine V_msk [true, true, false, false, false] (lc' := [some (rv (8, 99) 135), some (iv x1), none, none, none]) rfl ?_
    exact w_X8_isItem_177 hR x1 h e
  · refine V_if_eq 177 78 rfl (by decide +kernel) (fun q => absurd q c78) (fun _ => ?_)
    refine V_aload_n 79 rfl rfl ?_
    refine V_getI 80 rfl fi_RX8_76 ?_
    refine V_aload_n 81 rfl rfl ?_
    refine V_getI 82 rfl fi_RX8_72 ?_
    rcases if_e e with ⟨c83, e⟩ | ⟨c83, e⟩
    · refine V_icmp_ge 177 83 rfl (by decide +kernel) (fun _ => ?_) (fun q => absurd c83 q) 
      refine V_msk [true, true, false, false, false] (lc' := [some (rv (8, 99) 135), some (iv x1), none, none, none]) rfl ?_
      exact w_X8_isItem_177 hR x1 h e
    · refine V_icmp_ge 177 83 rfl (by decide +kernel) (fun q => absurd q c83) (fun _ => ?_)
      refine V_aload_n 84 rfl rfl ?_
      refine V_getR 136 85 rfl fr_RX8_7 ⟨Nat.le_of_ble_eq_true rfl, Or.inl (Nat.le_of_ble_eq_true rfl)⟩ rfl ?_
      refine V_aload_n 86 rfl rfl ?_
      refine V_getI 87 rfl fi_RX8_76 ?_
      obtain ⟨g11, e⟩ := gd_e e
      refine V_bald 88 rfl g11 ?_
      refine V_bipush (nI 59) 89 rfl bp_59 ?_
      rcases if_e e with ⟨c90, e⟩ | ⟨c90, e⟩
      · refine V_icmp_ne 177 90 rfl (by decide +kernel) (fun q => absurd c90 q) (fun _ => ?_)
        refine V_iconst (nI 1) 91 rfl ic_1 ?_
        refine V_goto 178 92 rfl (by decide +kernel) ?_
        refine V_msk [true, true, false, false, false] (lc' := [some (rv (8, 99) 135), some (iv x1), none, none, none]) rfl ?_
        exact w_X8_isItem_178 hR x1 (nI 1) h e
      · refine V_icmp_ne 177 90 rfl (by decide +kernel) (fun _ => ?_) (fun q => absurd q c90) 
        refine V_msk [true, true, false, false, false] (lc' := [some (rv (8, 99) 135), some (iv x1), none, none, none]) rfl ?_
        exact w_X8_isItem_177 hR x1 h e
set_option maxHeartbeats 4000000 in
theorem w_X8_isItem_137 {G : kG} {X : kX} {T : List kT} {r0 : Int32} {h0 : kH} (hR : k_R G M_X8_isItem X T 0 0 (some (iv r0)) h0) (K38 : Int32 × Int32 × Int32 × Int32 × kH → Option (Int32 × kH)) (hK38 : ∀ (x1 : Int32) (x2 : Int32) (x3 : Int32) (x4 : Int32) (h : kH), K38 (x1, x2, x3, x4, h) = some (r0, h0) → V G M_X8_isItem X T 0 0 38 [some (rv (8, 99) 135), some (iv x1), some (iv x2), some (iv x3), some (iv x4)] [] h) (x1 : Int32) (x2 : Int32) (x4 : Int32) (s0 : Int32) (h : kH) (e : p_X8_isItem_137 K38 x1 x2 x4 s0 h = some (r0, h0)) : V G M_X8_isItem X T 0 0 137 [some (rv (8, 99) 135), some (iv x1), some (iv x2), none, some (iv x4)] [iv s0] h := by
  unfold p_X8_isItem_137 at e
  refine V_istore_n 74 rfl (Nat.le_of_ble_eq_true rfl) rfl ?_
  show V G M_X8_isItem X T 0 0 138 [some (rv (8, 99) 135), some (iv x1), some (iv x2), some (iv s0), some (iv x4)] [] h
  refine V_iinc (x4 + (nI 1)) 75 rfl rfl (inc_1 _) (Nat.le_of_ble_eq_true rfl) rfl ?_
  show V G M_X8_isItem X T 0 0 141 [some (rv (8, 99) 135), some (iv x1), some (iv x2), some (iv s0), some (iv (x4 + (nI 1)))] [] h
  refine V_goto 38 76 rfl (by decide +kernel) ?_
  refine V_msk [true, true, true, true, true] (lc' := [some (rv (8, 99) 135), some (iv x1), some (iv x2), some (iv s0), some (iv (x4 + (nI 1)))]) rfl ?_
  exact hK38 x1 x2 s0 (x4 + (nI 1)) h e
set_option maxHeartbeats 4000000 in
theorem w_X8_isItem_121 {G : kG} {X : kX} {T : List kT} {r0 : Int32} {h0 : kH} (hR : k_R G M_X8_isItem X T 0 0 (some (iv r0)) h0) (K38 : Int32 × Int32 × Int32 × Int32 × kH → Option (Int32 × kH)) (hK38 : ∀ (x1 : Int32) (x2 : Int32) (x3 : Int32) (x4 : Int32) (h : kH), K38 (x1, x2, x3, x4, h) = some (r0, h0) → V G M_X8_isItem X T 0 0 38 [some (rv (8, 99) 135), some (iv x1), some (iv x2), some (iv x3), some (iv x4)] [] h) (x1 : Int32) (x2 : Int32) (x4 : Int32) (s0 : Int32) (s1 : Int32) (h : kH) (e : p_X8_isItem_121 K38 x1 x2 x4 s0 s1 h = some (r0, h0)) : V G M_X8_isItem X T 0 0 121 [some (rv (8, 99) 135), some (iv x1), some (iv x2), none, some (iv x4)] [iv s0, iv s1, rv (9, 6) 151] h := by
  unfold p_X8_isItem_121 at e
  obtain ⟨g13, e⟩ := gd_e e
  refine V_iast 65 rfl g13 ?_
  refine le_V (P := fun h14 => V G M_X8_isItem X T 0 0 122 [some (rv (8, 99) 135), some (iv x1), some (iv x2), none, some (iv x4)] [] h14) e (fun h14 e => ?_)
  refine V_aload_n 66 rfl rfl ?_
  refine V_getR 151 67 rfl fr_RX8_57 ⟨Nat.le_of_ble_eq_true rfl, Or.inl (Nat.le_of_ble_eq_true rfl)⟩ rfl ?_
  refine V_iload 68 rfl rfl ?_
  obtain ⟨g15, e⟩ := gd_e e
  refine V_iald 69 rfl g15 ?_
  rcases if_e e with ⟨c70, e⟩ | ⟨c70, e⟩
  · refine V_if_lt 136 70 rfl (by decide +kernel) (fun _ => ?_) (fun q => absurd c70 q) 
    refine V_iconst (nI 0) 73 rfl ic_0 ?_
    refine V_msk [true, true, true, false, true] (lc' := [some (rv (8, 99) 135), some (iv x1), some (iv x2), none, some (iv x4)]) rfl ?_
    exact w_X8_isItem_137 hR K38 hK38 x1 x2 x4 (nI 0) h14 e
  · refine V_if_lt 136 70 rfl (by decide +kernel) (fun q => absurd q c70) (fun _ => ?_)
    refine V_iconst (nI 1) 71 rfl ic_1 ?_
    refine V_goto 137 72 rfl (by decide +kernel) ?_
    refine V_msk [true, true, true, false, true] (lc' := [some (rv (8, 99) 135), some (iv x1), some (iv x2), none, some (iv x4)]) rfl ?_
    exact w_X8_isItem_137 hR K38 hK38 x1 x2 x4 (nI 1) h14 e
set_option maxHeartbeats 4000000 in
theorem w_X8_isItem_99 {G : kG} {X : kX} {T : List kT} {r0 : Int32} {h0 : kH} (hR : k_R G M_X8_isItem X T 0 0 (some (iv r0)) h0) (K38 : Int32 × Int32 × Int32 × Int32 × kH → Option (Int32 × kH)) (hK38 : ∀ (x1 : Int32) (x2 : Int32) (x3 : Int32) (x4 : Int32) (h : kH), K38 (x1, x2, x3, x4, h) = some (r0, h0) → V G M_X8_isItem X T 0 0 38 [some (rv (8, 99) 135), some (iv x1), some (iv x2), some (iv x3), some (iv x4)] [] h) (x1 : Int32) (x2 : Int32) (x3 : Int32) (x4 : Int32) (s0 : Int32) (s1 : Int32) (h : kH) (e : p_X8_isItem_99 K38 x1 x2 x3 x4 s0 s1 h = some (r0, h0)) : V G M_X8_isItem X T 0 0 99 [some (rv (8, 99) 135), some (iv x1), some (iv x2), some (iv x3), some (iv x4)] [iv s0, iv s1, rv (8, 99) 135] h := by
  unfold p_X8_isItem_99 at e
  refine V_iadd 54 rfl ?_
  refine V_putI 55 rfl fi_RX8_76 ?_
  refine le_V (P := fun h12 => V G M_X8_isItem X T 0 0 103 [some (rv (8, 99) 135), some (iv x1), some (iv x2), some (iv x3), some (iv x4)] [] h12) e (fun h12 e => ?_)
  refine V_aload_n 56 rfl rfl ?_
  refine V_getR 151 57 rfl fr_RX8_57 ⟨Nat.le_of_ble_eq_true rfl, Or.inl (Nat.le_of_ble_eq_true rfl)⟩ rfl ?_
  refine V_iload 58 rfl rfl ?_
  refine V_iload_n 59 rfl rfl ?_
  rcases if_e e with ⟨c60, e⟩ | ⟨c60, e⟩
  · refine V_if_eq 120 60 rfl (by decide +kernel) (fun _ => ?_) (fun q => absurd c60 q) 
    refine V_iconst (-1 : Int32) 64 rfl ic_m1 ?_
    refine V_msk [true, true, true, false, true] (lc' := [some (rv (8, 99) 135), some (iv x1), some (iv x2), none, some (iv x4)]) rfl ?_
    exact w_X8_isItem_121 hR K38 hK38 x1 x2 x4 (-1 : Int32) x4 h12 e
  · refine V_if_eq 120 60 rfl (by decide +kernel) (fun q => absurd q c60) (fun _ => ?_)
    refine V_aload_n 61 rfl rfl ?_
    obtain ⟨v18, h16, d17, e⟩ := bd2_e e
    refine V_callV (N := M_X8_number) (av := []) (st := [iv x4, rv (9, 6) 151]) (r := some (iv v18)) (h' := h16) 62 rfl (c_X8_number d17) g_X8_number gv_X8_number lk_RX8_89 ⟨Nat.le_of_ble_eq_true rfl, Nat.le_of_ble_eq_true rfl⟩ rfl rfl (Nat.le_of_ble_eq_true rfl) ⟨Nat.zero_le _, Nat.zero_le _⟩ ?_
    show V G M_X8_isItem X T 0 0 117 [some (rv (8, 99) 135), some (iv x1), some (iv x2), some (iv x3), some (iv x4)] [iv v18, iv x4, rv (9, 6) 151] h16
    refine V_goto 121 63 rfl (by decide +kernel) ?_
    refine V_msk [true, true, true, false, true] (lc' := [some (rv (8, 99) 135), some (iv x1), some (iv x2), none, some (iv x4)]) rfl ?_
    exact w_X8_isItem_121 hR K38 hK38 x1 x2 x4 v18 x4 h16 e
set_option maxHeartbeats 4000000 in
theorem w_X8_isItem_83 {G : kG} {X : kX} {T : List kT} {r0 : Int32} {h0 : kH} (hR : k_R G M_X8_isItem X T 0 0 (some (iv r0)) h0) (K38 : Int32 × Int32 × Int32 × Int32 × kH → Option (Int32 × kH)) (hK38 : ∀ (x1 : Int32) (x2 : Int32) (x3 : Int32) (x4 : Int32) (h : kH), K38 (x1, x2, x3, x4, h) = some (r0, h0) → V G M_X8_isItem X T 0 0 38 [some (rv (8, 99) 135), some (iv x1), some (iv x2), some (iv x3), some (iv x4)] [] h) (x1 : Int32) (x2 : Int32) (x4 : Int32) (s0 : Int32) (h : kH) (e : p_X8_isItem_83 K38 x1 x2 x4 s0 h = some (r0, h0)) : V G M_X8_isItem X T 0 0 83 [some (rv (8, 99) 135), some (iv x1), some (iv x2), none, some (iv x4)] [iv s0] h := by
  unfold p_X8_isItem_83 at e
  refine V_istore_n 45 rfl (Nat.le_of_ble_eq_true rfl) rfl ?_
  show V G M_X8_isItem X T 0 0 84 [some (rv (8, 99) 135), some (iv x1), some (iv x2), some (iv s0), some (iv x4)] [] h
  refine V_aload_n 46 rfl rfl ?_
  refine V_dup 47 rfl nj_r ?_
  refine V_getI 48 rfl fi_RX8_76 ?_
  refine V_iload 49 rfl rfl ?_
  rcases if_e e with ⟨c50, e⟩ | ⟨c50, e⟩
  · refine V_if_ne 98 50 rfl (by decide +kernel) (fun q => absurd c50 q) (fun _ => ?_)
    refine V_iconst (nI 0) 51 rfl ic_0 ?_
    refine V_goto 99 52 rfl (by decide +kernel) ?_
    refine V_msk [true, true, true, true, true] (lc' := [some (rv (8, 99) 135), some (iv x1), some (iv x2), some (iv s0), some (iv x4)]) rfl ?_
    exact w_X8_isItem_99 hR K38 hK38 x1 x2 s0 x4 (nI 0) (h 135 2) h e
  · refine V_if_ne 98 50 rfl (by decide +kernel) (fun _ => ?_) (fun q => absurd q c50) 
    refine V_iconst (nI 1) 53 rfl ic_1 ?_
    refine V_msk [true, true, true, true, true] (lc' := [some (rv (8, 99) 135), some (iv x1), some (iv x2), some (iv s0), some (iv x4)]) rfl ?_
    exact w_X8_isItem_99 hR K38 hK38 x1 x2 s0 x4 (nI 1) (h 135 2) h e
set_option maxHeartbeats 4000000 in
theorem w_X8_isItem_78 {G : kG} {X : kX} {T : List kT} {r0 : Int32} {h0 : kH} (hR : k_R G M_X8_isItem X T 0 0 (some (iv r0)) h0) (K38 : Int32 × Int32 × Int32 × Int32 × kH → Option (Int32 × kH)) (hK38 : ∀ (x1 : Int32) (x2 : Int32) (x3 : Int32) (x4 : Int32) (h : kH), K38 (x1, x2, x3, x4, h) = some (r0, h0) → V G M_X8_isItem X T 0 0 38 [some (rv (8, 99) 135), some (iv x1), some (iv x2), some (iv x3), some (iv x4)] [] h) (x1 : Int32) (x2 : Int32) (x4 : Int32) (h : kH) (e : p_X8_isItem_78 K38 x1 x2 x4 h = some (r0, h0)) : V G M_X8_isItem X T 0 0 78 [some (rv (8, 99) 135), some (iv x1), some (iv x2), none, some (iv x4)] [] h := by
  unfold p_X8_isItem_78 at e
  refine V_iconst (nI 1) 42 rfl ic_1 ?_
  refine V_goto 83 43 rfl (by decide +kernel) ?_
  refine V_msk [true, true, true, false, true] (lc' := [some (rv (8, 99) 135), some (iv x1), some (iv x2), none, some (iv x4)]) rfl ?_
  exact w_X8_isItem_83 hR K38 hK38 x1 x2 x4 (nI 1) h e
set_option maxHeartbeats 4000000 in
theorem w_X8_isItem_82 {G : kG} {X : kX} {T : List kT} {r0 : Int32} {h0 : kH} (hR : k_R G M_X8_isItem X T 0 0 (some (iv r0)) h0) (K38 : Int32 × Int32 × Int32 × Int32 × kH → Option (Int32 × kH)) (hK38 : ∀ (x1 : Int32) (x2 : Int32) (x3 : Int32) (x4 : Int32) (h : kH), K38 (x1, x2, x3, x4, h) = some (r0, h0) → V G M_X8_isItem X T 0 0 38 [some (rv (8, 99) 135), some (iv x1), some (iv x2), some (iv x3), some (iv x4)] [] h) (x1 : Int32) (x2 : Int32) (x4 : Int32) (h : kH) (e : p_X8_isItem_82 K38 x1 x2 x4 h = some (r0, h0)) : V G M_X8_isItem X T 0 0 82 [some (rv (8, 99) 135), some (iv x1), some (iv x2), none, some (iv x4)] [] h := by
  unfold p_X8_isItem_82 at e
  refine V_iconst (nI 0) 44 rfl ic_0 ?_
  refine V_msk [true, true, true, false, true] (lc' := [some (rv (8, 99) 135), some (iv x1), some (iv x2), none, some (iv x4)]) rfl ?_
  exact w_X8_isItem_83 hR K38 hK38 x1 x2 x4 (nI 0) h e
set_option maxHeartbeats 4000000 in
theorem w_X8_isItem_38 {G : kG} {X : kX} {T : List kT} {r0 : Int32} {h0 : kH} (hR : k_R G M_X8_isItem X T 0 0 (some (iv r0)) h0) (K38 : Int32 × Int32 × Int32 × Int32 × kH → Option (Int32 × kH)) (hK38 : ∀ (x1 : Int32) (x2 : Int32) (x3 : Int32) (x4 : Int32) (h : kH), K38 (x1, x2, x3, x4, h) = some (r0, h0) → V G M_X8_isItem X T 0 0 38 [some (rv (8, 99) 135), some (iv x1), some (iv x2), some (iv x3), some (iv x4)] [] h) (x1 : Int32) (x2 : Int32) (x3 : Int32) (x4 : Int32) (h : kH) (e : p_X8_isItem_38 K38 x1 x2 x3 x4 h = some (r0, h0)) : V G M_X8_isItem X T 0 0 38 [some (rv (8, 99) 135), some (iv x1), some (iv x2), some (iv x3), some (iv x4)] [] h := by
  unfold p_X8_isItem_38 at e
  refine V_iload 23 rfl rfl ?_
  refine V_iload_n 24 rfl rfl ?_
  rcases if_e e with ⟨c25, e⟩ | ⟨c25, e⟩
  · refine V_icmp_ge 144 25 rfl (by decide +kernel) (fun _ => ?_) (fun q => absurd c25 q) 
    refine V_msk [true, true, false, true, false] (lc' := [some (rv (8, 99) 135), some (iv x1), none, some (iv x3), none]) rfl ?_
    exact w_X8_isItem_144 hR x1 x3 h e
  · refine V_icmp_ge 144 25 rfl (by decide +kernel) (fun q => absurd q c25) (fun _ => ?_)
    refine V_iload_n 26 rfl rfl ?_
    rcases if_e e with ⟨c27, e⟩ | ⟨c27, e⟩
    · refine V_if_eq 144 27 rfl (by decide +kernel) (fun _ => ?_) (fun q => absurd c27 q) 
      refine V_msk [true, true, false, true, false] (lc' := [some (rv (8, 99) 135), some (iv x1), none, some (iv x3), none]) rfl ?_
      exact w_X8_isItem_144 hR x1 x3 h e
    · refine V_if_eq 144 27 rfl (by decide +kernel) (fun q => absurd q c27) (fun _ => ?_)
      refine V_iload 28 rfl rfl ?_
      rcases if_e e with ⟨c29, e⟩ | ⟨c29, e⟩
      · refine V_if_eq 78 29 rfl (by decide +kernel) (fun _ => ?_) (fun q => absurd c29 q) 
        refine V_msk [true, true, true, false, true] (lc' := [some (rv (8, 99) 135), some (iv x1), some (iv x2), none, some (iv x4)]) rfl ?_
        exact w_X8_isItem_78 hR K38 hK38 x1 x2 x4 h e
      · refine V_if_eq 78 29 rfl (by decide +kernel) (fun q => absurd q c29) (fun _ => ?_)
        refine V_aload_n 30 rfl rfl ?_
        refine V_getI 31 rfl fi_RX8_76 ?_
        refine V_aload_n 32 rfl rfl ?_
        refine V_getI 33 rfl fi_RX8_72 ?_
        rcases if_e e with ⟨c34, e⟩ | ⟨c34, e⟩
        · refine V_icmp_ge 82 34 rfl (by decide +kernel) (fun _ => ?_) (fun q => absurd c34 q) 
          refine V_msk [true, true, true, false, true] (lc' := [some (rv (8, 99) 135), some (iv x1), some (iv x2), none, some (iv x4)]) rfl ?_
          exact w_X8_isItem_82 hR K38 hK38 x1 x2 x4 h e
        · refine V_icmp_ge 82 34 rfl (by decide +kernel) (fun q => absurd q c34) (fun _ => ?_)
          refine V_aload_n 35 rfl rfl ?_
          refine V_getR 136 36 rfl fr_RX8_7 ⟨Nat.le_of_ble_eq_true rfl, Or.inl (Nat.le_of_ble_eq_true rfl)⟩ rfl ?_
          refine V_aload_n 37 rfl rfl ?_
          refine V_getI 38 rfl fi_RX8_76 ?_
          obtain ⟨g19, e⟩ := gd_e e
          refine V_bald 39 rfl g19 ?_
          refine V_bipush (nI 44) 40 rfl bp_44 ?_
          rcases if_e e with ⟨c41, e⟩ | ⟨c41, e⟩
          · refine V_icmp_ne 82 41 rfl (by decide +kernel) (fun q => absurd c41 q) (fun _ => ?_)
            refine V_msk [true, true, true, false, true] (lc' := [some (rv (8, 99) 135), some (iv x1), some (iv x2), none, some (iv x4)]) rfl ?_
            exact w_X8_isItem_78 hR K38 hK38 x1 x2 x4 h e
          · refine V_icmp_ne 82 41 rfl (by decide +kernel) (fun _ => ?_) (fun q => absurd q c41) 
            refine V_msk [true, true, true, false, true] (lc' := [some (rv (8, 99) 135), some (iv x1), some (iv x2), none, some (iv x4)]) rfl ?_
            exact w_X8_isItem_82 hR K38 hK38 x1 x2 x4 h e
set_option maxHeartbeats 4000000 in
theorem w_X8_isItem_34 {G : kG} {X : kX} {T : List kT} {r0 : Int32} {h0 : kH} (hR : k_R G M_X8_isItem X T 0 0 (some (iv r0)) h0) (x1 : Int32) (x2 : Int32) (s0 : Int32) (h : kH) (e : p_X8_isItem_34 x1 x2 s0 h = some (r0, h0)) : V G M_X8_isItem X T 0 0 34 [some (rv (8, 99) 135), some (iv x1), some (iv x2), none, none] [iv s0] h := by
  unfold p_X8_isItem_34 at e
  refine V_istore_n 20 rfl (Nat.le_of_ble_eq_true rfl) rfl ?_
  show V G M_X8_isItem X T 0 0 35 [some (rv (8, 99) 135), some (iv x1), some (iv x2), some (iv s0), none] [] h
  refine V_iconst (nI 0) 21 rfl ic_0 ?_
  refine V_istore 22 rfl (Nat.le_of_ble_eq_true rfl) rfl ?_
  show V G M_X8_isItem X T 0 0 38 [some (rv (8, 99) 135), some (iv x1), some (iv x2), some (iv s0), some (iv (nI 0))] [] h
  refine V_msk [true, true, true, true, true] (lc' := [some (rv (8, 99) 135), some (iv x1), some (iv x2), some (iv s0), some (iv (nI 0))]) rfl ?_
  exact fx_e (P := fun s => V G M_X8_isItem X T 0 0 38 [some (rv (8, 99) 135), some (iv s.1), some (iv s.2.1), some (iv s.2.2.1), some (iv s.2.2.2.1)] [] s.2.2.2.2) (fun K38 hK38 s e => w_X8_isItem_38 hR K38 (fun x1 x2 x3 x4 h e => hK38 (x1, x2, x3, x4, h) e) s.1 s.2.1 s.2.2.1 s.2.2.2.1 s.2.2.2.2 e) FU (x1, x2, s0, (nI 0), h) e
set_option maxHeartbeats 4000000 in
theorem c_X8_isItem {G : kG} {T : List kT} {h : kH} {r0 : Int32} {h0 : kH} (e : p_X8_isItem h = some (r0, h0)) : k_C G M_X8_isItem T [rv (8, 99) 135] h (some (iv r0)) h0 := by
  refine k_C_of 4 (by decide +kernel) rfl tb_X8_isItem rfl (fun X hR => ?_)
  show V G M_X8_isItem X T 0 0 0 [some (rv (8, 99) 135), none, none, none, none] [] h
  unfold p_X8_isItem at e
  refine V_aload_n 0 rfl rfl ?_
  refine V_getR 136 1 rfl fr_RX8_7 ⟨Nat.le_of_ble_eq_true rfl, Or.inl (Nat.le_of_ble_eq_true rfl)⟩ rfl ?_
  refine V_aload_n 2 rfl rfl ?_
  refine V_getI 3 rfl fi_RX8_76 ?_
  obtain ⟨g1, e⟩ := gd_e e
  refine V_bald 4 rfl g1 ?_
  refine V_istore_n 5 rfl (Nat.le_of_ble_eq_true rfl) rfl ?_
  refine le_V (P := fun v2 => V G M_X8_isItem X T 0 0 10 [some (rv (8, 99) 135), some (iv v2), none, none, none] [] h) e (fun v2 e => ?_)
  refine V_aload_n 6 rfl rfl ?_
  refine V_dup 7 rfl nj_r ?_
  refine V_getI 8 rfl fi_RX8_76 ?_
  refine V_iconst (nI 1) 9 rfl ic_1 ?_
  refine V_iadd 10 rfl ?_
  refine V_putI 11 rfl fi_RX8_76 ?_
  refine le_V (P := fun h3 => V G M_X8_isItem X T 0 0 20 [some (rv (8, 99) 135), some (iv v2), none, none, none] [] h3) e (fun h3 e => ?_)
  refine V_iload_n 12 rfl rfl ?_
  obtain ⟨v6, h4, d5, e⟩ := bd2_e e
  refine V_callS (N := M_X8_parts) (av := [iv v2]) (st := []) (r := some (iv v6)) (h' := h4) 13 rfl (c_X8_parts d5) g_X8_parts gs_X8_parts lk_RX8_85 ⟨Nat.le_of_ble_eq_true rfl, Nat.le_of_ble_eq_true rfl⟩ rfl (Nat.le_of_ble_eq_true rfl) ⟨Nat.zero_le _, Nat.zero_le _⟩ ?_
  show V G M_X8_isItem X T 0 0 24 [some (rv (8, 99) 135), some (iv v2), none, none, none] [iv v6] h4
  refine V_istore_n 14 rfl (Nat.le_of_ble_eq_true rfl) rfl ?_
  show V G M_X8_isItem X T 0 0 25 [some (rv (8, 99) 135), some (iv v2), some (iv v6), none, none] [] h4
  refine V_iload_n 15 rfl rfl ?_
  rcases if_e e with ⟨c16, e⟩ | ⟨c16, e⟩
  · refine V_if_le 33 16 rfl (by decide +kernel) (fun _ => ?_) (fun q => absurd c16 q) 
    refine V_iconst (nI 0) 19 rfl ic_0 ?_
    refine V_msk [true, true, true, false, false] (lc' := [some (rv (8, 99) 135), some (iv v2), some (iv v6), none, none]) rfl ?_
    exact w_X8_isItem_34 hR v2 v6 (nI 0) h4 e
  · refine V_if_le 33 16 rfl (by decide +kernel) (fun q => absurd q c16) (fun _ => ?_)
    refine V_iconst (nI 1) 17 rfl ic_1 ?_
    refine V_goto 34 18 rfl (by decide +kernel) ?_
    refine V_msk [true, true, true, false, false] (lc' := [some (rv (8, 99) 135), some (iv v2), some (iv v6), none, none]) rfl ?_
    exact w_X8_isItem_34 hR v2 v6 (nI 1) h4 e
set_option maxHeartbeats 4000000 in
theorem w_X8_begins_9 {G : kG} {X : kX} {T : List kT} {h0 : kH} (hR : k_R G M_X8_begins X T 0 0 none h0) (K9 : Int32 × kH → Option (kH)) (hK9 : ∀ (x1 : Int32) (h : kH), K9 (x1, h) = some h0 → V G M_X8_begins X T 0 0 9 [some (rv (8, 99) 135), some (iv x1)] [] h) (x1 : Int32) (h : kH) (e : p_X8_begins_9 K9 x1 h = some h0) : V G M_X8_begins X T 0 0 9 [some (rv (8, 99) 135), some (iv x1)] [] h := by
  unfold p_X8_begins_9 at e
  refine V_iload_n 7 rfl rfl ?_
  refine V_bipush (nI 120) 8 rfl bp_120 ?_
  rcases if_e e with ⟨c9, e⟩ | ⟨c9, e⟩
  · refine V_icmp_ge 28 9 rfl (by decide +kernel) (fun _ => ?_) (fun q => absurd c9 q) 
    refine V_aload_n 17 rfl rfl ?_
    refine V_getR 137 18 rfl fr_RX8_13 ⟨Nat.le_of_ble_eq_true rfl, Or.inl (Nat.le_of_ble_eq_true rfl)⟩ rfl ?_
    refine V_bipush (nI 14) 19 rfl bp_14 ?_
    refine V_iconst (nI 4) 20 rfl ic_4 ?_
    obtain ⟨g3, e⟩ := gd_e e
    refine V_iast 21 rfl g3 ?_
    refine le_V (P := fun h4 => V G M_X8_begins X T 0 0 36 [some (rv (8, 99) 135), some (iv x1)] [] h4) e (fun h4 e => ?_)
    refine V_aload_n 22 rfl rfl ?_
    refine V_getR 137 23 rfl fr_RX8_13 ⟨Nat.le_of_ble_eq_true rfl, Or.inl (Nat.le_of_ble_eq_true rfl)⟩ rfl ?_
    refine V_bipush (nI 15) 24 rfl bp_15 ?_
    refine V_iconst (nI 3) 25 rfl ic_3 ?_
    obtain ⟨g5, e⟩ := gd_e e
    refine V_iast 26 rfl g5 ?_
    refine le_V (P := fun h6 => V G M_X8_begins X T 0 0 44 [some (rv (8, 99) 135), some (iv x1)] [] h6) e (fun h6 e => ?_)
    refine V_aload_n 27 rfl rfl ?_
    refine V_getR 137 28 rfl fr_RX8_13 ⟨Nat.le_of_ble_eq_true rfl, Or.inl (Nat.le_of_ble_eq_true rfl)⟩ rfl ?_
    refine V_bipush (nI 16) 29 rfl bp_16 ?_
    refine V_bipush (nI 8) 30 rfl bp_8 ?_
    obtain ⟨g7, e⟩ := gd_e e
    refine V_iast 31 rfl g7 ?_
    refine le_V (P := fun h8 => V G M_X8_begins X T 0 0 53 [some (rv (8, 99) 135), some (iv x1)] [] h8) e (fun h8 e => ?_)
    refine V_aload_n 32 rfl rfl ?_
    refine V_getR 137 33 rfl fr_RX8_13 ⟨Nat.le_of_ble_eq_true rfl, Or.inl (Nat.le_of_ble_eq_true rfl)⟩ rfl ?_
    refine V_bipush (nI 17) 34 rfl bp_17 ?_
    refine V_bipush (nI 75) 35 rfl bp_75 ?_
    obtain ⟨g9, e⟩ := gd_e e
    refine V_iast 36 rfl g9 ?_
    refine le_V (P := fun h10 => V G M_X8_begins X T 0 0 62 [some (rv (8, 99) 135), some (iv x1)] [] h10) e (fun h10 e => ?_)
    refine V_aload_n 37 rfl rfl ?_
    refine V_getR 137 38 rfl fr_RX8_13 ⟨Nat.le_of_ble_eq_true rfl, Or.inl (Nat.le_of_ble_eq_true rfl)⟩ rfl ?_
    refine V_bipush (nI 18) 39 rfl bp_18 ?_
    refine V_bipush (nI 10) 40 rfl bp_10 ?_
    obtain ⟨g11, e⟩ := gd_e e
    refine V_iast 41 rfl g11 ?_
    refine le_V (P := fun h12 => V G M_X8_begins X T 0 0 71 [some (rv (8, 99) 135), some (iv x1)] [] h12) e (fun h12 e => ?_)
    refine V_aload_n 42 rfl rfl ?_
    refine V_getR 137 43 rfl fr_RX8_13 ⟨Nat.le_of_ble_eq_true rfl, Or.inl (Nat.le_of_ble_eq_true rfl)⟩ rfl ?_
    refine V_bipush (nI 19) 44 rfl bp_19 ?_
    refine V_bipush (nI 60) 45 rfl bp_60 ?_
    obtain ⟨g13, e⟩ := gd_e e
    refine V_iast 46 rfl g13 ?_
    refine le_V (P := fun h14 => V G M_X8_begins X T 0 0 80 [some (rv (8, 99) 135), some (iv x1)] [] h14) e (fun h14 e => ?_)
    refine V_aload_n 47 rfl rfl ?_
    refine V_getR 137 48 rfl fr_RX8_13 ⟨Nat.le_of_ble_eq_true rfl, Or.inl (Nat.le_of_ble_eq_true rfl)⟩ rfl ?_
    refine V_bipush (nI 20) 49 rfl bp_20 ?_
    refine V_bipush (nI 90) 50 rfl bp_90 ?_
    obtain ⟨g15, e⟩ := gd_e e
    refine V_iast 51 rfl g15 ?_
    refine le_V (P := fun h16 => V G M_X8_begins X T 0 0 89 [some (rv (8, 99) 135), some (iv x1)] [] h16) e (fun h16 e => ?_)
    refine V_aload_n 52 rfl rfl ?_
    refine V_getR 137 53 rfl fr_RX8_13 ⟨Nat.le_of_ble_eq_true rfl, Or.inl (Nat.le_of_ble_eq_true rfl)⟩ rfl ?_
    refine V_bipush (nI 21) 54 rfl bp_21 ?_
    refine V_iconst (nI 0) 55 rfl ic_0 ?_
    obtain ⟨g17, e⟩ := gd_e e
    refine V_iast 56 rfl g17 ?_
    refine le_V (P := fun h18 => V G M_X8_begins X T 0 0 97 [some (rv (8, 99) 135), some (iv x1)] [] h18) e (fun h18 e => ?_)
    refine V_aload_n 57 rfl rfl ?_
    refine V_getR 137 58 rfl fr_RX8_13 ⟨Nat.le_of_ble_eq_true rfl, Or.inl (Nat.le_of_ble_eq_true rfl)⟩ rfl ?_
    refine V_bipush (nI 22) 59 rfl bp_22 ?_
    refine V_bipush (nI 6) 60 rfl bp_6 ?_
    obtain ⟨g19, e⟩ := gd_e e
    refine V_iast 61 rfl g19 ?_
    refine le_V (P := fun h20 => V G M_X8_begins X T 0 0 106 [some (rv (8, 99) 135), some (iv x1)] [] h20) e (fun h20 e => ?_)
    refine V_aload_n 62 rfl rfl ?_
    refine V_getR 137 63 rfl fr_RX8_13 ⟨Nat.le_of_ble_eq_true rfl, Or.inl (Nat.le_of_ble_eq_true rfl)⟩ rfl ?_
    refine V_bipush (nI 23) 64 rfl bp_23 ?_
    refine V_iconst (nI 2) 65 rfl ic_2 ?_
    obtain ⟨g21, e⟩ := gd_e e
    refine V_iast 66 rfl g21 ?_
    refine le_V (P := fun h22 => V G M_X8_begins X T 0 0 114 [some (rv (8, 99) 135), some (iv x1)] [] h22) e (fun h22 e => ?_)
    refine V_aload_n 67 rfl rfl ?_
    refine V_getR 137 68 rfl fr_RX8_13 ⟨Nat.le_of_ble_eq_true rfl, Or.inl (Nat.le_of_ble_eq_true rfl)⟩ rfl ?_
    refine V_bipush (nI 24) 69 rfl bp_24 ?_
    refine V_bipush (nI 15) 70 rfl bp_15 ?_
    obtain ⟨g23, e⟩ := gd_e e
    refine V_iast 71 rfl g23 ?_
    refine le_V (P := fun h24 => V G M_X8_begins X T 0 0 123 [some (rv (8, 99) 135), some (iv x1)] [] h24) e (fun h24 e => ?_)
    refine V_aload_n 72 rfl rfl ?_
    refine V_getR 137 73 rfl fr_RX8_13 ⟨Nat.le_of_ble_eq_true rfl, Or.inl (Nat.le_of_ble_eq_true rfl)⟩ rfl ?_
    refine V_bipush (nI 25) 74 rfl bp_25 ?_
    refine V_bipush (nI 20) 75 rfl bp_20 ?_
    obtain ⟨g25, e⟩ := gd_e e
    refine V_iast 76 rfl g25 ?_
    refine le_V (P := fun h26 => V G M_X8_begins X T 0 0 132 [some (rv (8, 99) 135), some (iv x1)] [] h26) e (fun h26 e => ?_)
    refine V_aload_n 77 rfl rfl ?_
    refine V_getR 137 78 rfl fr_RX8_13 ⟨Nat.le_of_ble_eq_true rfl, Or.inl (Nat.le_of_ble_eq_true rfl)⟩ rfl ?_
    refine V_bipush (nI 26) 79 rfl bp_26 ?_
    refine V_bipush (nI 40) 80 rfl bp_40 ?_
    obtain ⟨g27, e⟩ := gd_e e
    refine V_iast 81 rfl g27 ?_
    refine le_V (P := fun h28 => V G M_X8_begins X T 0 0 141 [some (rv (8, 99) 135), some (iv x1)] [] h28) e (fun h28 e => ?_)
    refine V_aload_n 82 rfl rfl ?_
    refine V_getR 137 83 rfl fr_RX8_13 ⟨Nat.le_of_ble_eq_true rfl, Or.inl (Nat.le_of_ble_eq_true rfl)⟩ rfl ?_
    refine V_bipush (nI 27) 84 rfl bp_27 ?_
    refine V_bipush (nI 8) 85 rfl bp_8 ?_
    obtain ⟨g29, e⟩ := gd_e e
    refine V_iast 86 rfl g29 ?_
    refine le_V (P := fun h30 => V G M_X8_begins X T 0 0 150 [some (rv (8, 99) 135), some (iv x1)] [] h30) e (fun h30 e => ?_)
    cases e
    exact V_vret 87 rfl hR rfl
  · refine V_icmp_ge 28 9 rfl (by decide +kernel) (fun q => absurd q c9) (fun _ => ?_)
    refine V_aload_n 10 rfl rfl ?_
    refine V_getR 142 11 rfl fr_RX8_29 ⟨Nat.le_of_ble_eq_true rfl, Or.inl (Nat.le_of_ble_eq_true rfl)⟩ rfl ?_
    refine V_iload_n 12 rfl rfl ?_
    refine V_iconst (nI 0) 13 rfl ic_0 ?_
    obtain ⟨g31, e⟩ := gd_e e
    refine V_iast 14 rfl g31 ?_
    refine le_V (P := fun h32 => V G M_X8_begins X T 0 0 22 [some (rv (8, 99) 135), some (iv x1)] [] h32) e (fun h32 e => ?_)
    refine V_iinc (x1 + (nI 1)) 15 rfl rfl (inc_1 _) (Nat.le_of_ble_eq_true rfl) rfl ?_
    show V G M_X8_begins X T 0 0 25 [some (rv (8, 99) 135), some (iv (x1 + (nI 1)))] [] h32
    refine V_goto 9 16 rfl (by decide +kernel) ?_
    refine V_msk [true, true] (lc' := [some (rv (8, 99) 135), some (iv (x1 + (nI 1)))]) rfl ?_
    exact hK9 (x1 + (nI 1)) h32 e
set_option maxHeartbeats 4000000 in
theorem c_X8_begins {G : kG} {T : List kT} {h : kH} {h0 : kH} (e : p_X8_begins h = some h0) : k_C G M_X8_begins T [rv (8, 99) 135] h none h0 := by
  refine k_C_of 1 (by decide +kernel) rfl tb_X8_begins rfl (fun X hR => ?_)
  show V G M_X8_begins X T 0 0 0 [some (rv (8, 99) 135), none] [] h
  unfold p_X8_begins at e
  refine V_aload_n 0 rfl rfl ?_
  refine V_getR 138 1 rfl fr_RX8_17 ⟨Nat.le_of_ble_eq_true rfl, Or.inl (Nat.le_of_ble_eq_true rfl)⟩ rfl ?_
  refine V_iconst (nI 1) 2 rfl ic_1 ?_
  refine V_iconst (nI 0) 3 rfl ic_0 ?_
  obtain ⟨g1, e⟩ := gd_e e
  refine V_iast 4 rfl g1 ?_
  refine le_V (P := fun h2 => V G M_X8_begins X T 0 0 7 [some (rv (8, 99) 135), none] [] h2) e (fun h2 e => ?_)
  refine V_iconst (nI 0) 5 rfl ic_0 ?_
  refine V_istore_n 6 rfl (Nat.le_of_ble_eq_true rfl) rfl ?_
  show V G M_X8_begins X T 0 0 9 [some (rv (8, 99) 135), some (iv (nI 0))] [] h2
  refine V_msk [true, true] (lc' := [some (rv (8, 99) 135), some (iv (nI 0))]) rfl ?_
  exact fx_e (P := fun s => V G M_X8_begins X T 0 0 9 [some (rv (8, 99) 135), some (iv s.1)] [] s.2) (fun K9 hK9 s e => w_X8_begins_9 hR K9 (fun x1 h e => hK9 (x1, h) e) s.1 s.2 e) FU ((nI 0), h2) e
set_option maxHeartbeats 4000000 in
theorem c_X8_cells {G : kG} {T : List kT} {h : kH} {r0 : Int32} {h0 : kH} (e : p_X8_cells h = some (r0, h0)) : k_C G M_X8_cells T [rv (8, 99) 135] h (some (iv r0)) h0 := by
  refine k_C_of 0 (by decide +kernel) rfl tb_X8_cells rfl (fun X hR => ?_)
  show V G M_X8_cells X T 0 0 0 [some (rv (8, 99) 135)] [] h
  unfold p_X8_cells at e
  refine V_aload_n 0 rfl rfl ?_
  refine V_getR 137 1 rfl fr_RX8_13 ⟨Nat.le_of_ble_eq_true rfl, Or.inl (Nat.le_of_ble_eq_true rfl)⟩ rfl ?_
  refine V_iconst (nI 0) 2 rfl ic_0 ?_
  obtain ⟨g1, e⟩ := gd_e e
  refine V_iald 3 rfl g1 ?_
  refine V_aload_n 4 rfl rfl ?_
  refine V_getR 137 5 rfl fr_RX8_13 ⟨Nat.le_of_ble_eq_true rfl, Or.inl (Nat.le_of_ble_eq_true rfl)⟩ rfl ?_
  refine V_iconst (nI 1) 6 rfl ic_1 ?_
  obtain ⟨g2, e⟩ := gd_e e
  refine V_iald 7 rfl g2 ?_
  refine V_imul 8 rfl ?_
  cases e
  exact V_iret 9 rfl hR rfl
set_option maxHeartbeats 4000000 in
theorem w_X8_takes_179 {G : kG} {X : kX} {T : List kT} {h0 : kH} (hR : k_R G M_X8_takes X T 0 0 none h0) (K179 : Int32 × kH → Option (kH)) (hK179 : ∀ (x1 : Int32) (h : kH), K179 (x1, h) = some h0 → V G M_X8_takes X T 0 0 179 [some (rv (8, 99) 135), some (iv x1), none] [] h) (x1 : Int32) (h : kH) (e : p_X8_takes_179 K179 x1 h = some h0) : V G M_X8_takes X T 0 0 179 [some (rv (8, 99) 135), some (iv x1), none] [] h := by
  unfold p_X8_takes_179 at e
  refine V_iload_n 114 rfl rfl ?_
  refine V_aload_n 115 rfl rfl ?_
  refine V_getR 138 116 rfl fr_RX8_17 ⟨Nat.le_of_ble_eq_true rfl, Or.inl (Nat.le_of_ble_eq_true rfl)⟩ rfl ?_
  refine V_iconst (nI 0) 117 rfl ic_0 ?_
  obtain ⟨g7, e⟩ := gd_e e
  refine V_iald 118 rfl g7 ?_
  rcases if_e e with ⟨c119, e⟩ | ⟨c119, e⟩
  · refine V_icmp_ge 323 119 rfl (by decide +kernel) (fun _ => ?_) (fun q => absurd c119 q) 
    refine V_aload_n 213 rfl rfl ?_
    refine V_iconst (nI 0) 214 rfl ic_0 ?_
    refine V_putI 215 rfl fi_RX8_107 ?_
    refine le_V (P := fun h8 => V G M_X8_takes X T 0 0 328 [some (rv (8, 99) 135), some (iv x1), none] [] h8) e (fun h8 e => ?_)
    refine V_aload_n 216 rfl rfl ?_
    refine V_iconst (nI 0) 217 rfl ic_0 ?_
    refine V_putI 218 rfl fi_RX8_110 ?_
    refine le_V (P := fun h9 => V G M_X8_takes X T 0 0 333 [some (rv (8, 99) 135), some (iv x1), none] [] h9) e (fun h9 e => ?_)
    cases e
    exact V_vret 219 rfl hR rfl
  · refine V_icmp_ge 323 119 rfl (by decide +kernel) (fun q => absurd q c119) (fun _ => ?_)
    refine V_sipush (nI 150) 120 rfl sp_150 ?_
    refine V_bipush (nI 8) 121 rfl bp_8 ?_
    refine V_iload_n 122 rfl rfl ?_
    refine V_imul 123 rfl ?_
    refine V_iadd 124 rfl ?_
    refine V_istore_n 125 rfl (Nat.le_of_ble_eq_true rfl) rfl ?_
    refine le_V (P := fun v10 => V G M_X8_takes X T 0 0 198 [some (rv (8, 99) 135), some (iv x1), some (iv v10)] [] h) e (fun v10 e => ?_)
    refine V_aload_n 126 rfl rfl ?_
    refine V_getR 143 127 rfl fr_RX8_32 ⟨Nat.le_of_ble_eq_true rfl, Or.inl (Nat.le_of_ble_eq_true rfl)⟩ rfl ?_
    refine V_iload_n 128 rfl rfl ?_
    refine V_iconst (nI 0) 129 rfl ic_0 ?_
    refine V_iadd 130 rfl ?_
    refine V_aload_n 131 rfl rfl ?_
    refine V_getR 141 132 rfl fr_RX8_26 ⟨Nat.le_of_ble_eq_true rfl, Or.inl (Nat.le_of_ble_eq_true rfl)⟩ rfl ?_
    refine V_bipush (nI 6) 133 rfl bp_6 ?_
    refine V_iload_n 134 rfl rfl ?_
    refine V_imul 135 rfl ?_
    obtain ⟨g11, e⟩ := gd_e e
    refine V_iald 136 rfl g11 ?_
    refine V_aload_n 137 rfl rfl ?_
    refine V_getR 137 138 rfl fr_RX8_13 ⟨Nat.le_of_ble_eq_true rfl, Or.inl (Nat.le_of_ble_eq_true rfl)⟩ rfl ?_
    refine V_iconst (nI 0) 139 rfl ic_0 ?_
    obtain ⟨g12, e⟩ := gd_e e
    refine V_iald 140 rfl g12 ?_
    refine V_aload_n 141 rfl rfl ?_
    refine V_getR 141 142 rfl fr_RX8_26 ⟨Nat.le_of_ble_eq_true rfl, Or.inl (Nat.le_of_ble_eq_true rfl)⟩ rfl ?_
    refine V_bipush (nI 6) 143 rfl bp_6 ?_
    refine V_iload_n 144 rfl rfl ?_
    refine V_imul 145 rfl ?_
    refine V_iconst (nI 1) 146 rfl ic_1 ?_
    refine V_iadd 147 rfl ?_
    obtain ⟨g13, e⟩ := gd_e e
    refine V_iald 148 rfl g13 ?_
    refine V_imul 149 rfl ?_
    refine V_iadd 150 rfl ?_
    obtain ⟨g14, e⟩ := gd_e e
    refine V_iast 151 rfl g14 ?_
    refine le_V (P := fun h15 => V G M_X8_takes X T 0 0 234 [some (rv (8, 99) 135), some (iv x1), some (iv v10)] [] h15) e (fun h15 e => ?_)
    refine V_aload_n 152 rfl rfl ?_
    refine V_getR 143 153 rfl fr_RX8_32 ⟨Nat.le_of_ble_eq_true rfl, Or.inl (Nat.le_of_ble_eq_true rfl)⟩ rfl ?_
    refine V_iload_n 154 rfl rfl ?_
    refine V_iconst (nI 1) 155 rfl ic_1 ?_
    refine V_iadd 156 rfl ?_
    refine V_bipush (nI 20) 157 rfl bp_20 ?_
    obtain ⟨g16, e⟩ := gd_e e
    refine V_iast 158 rfl g16 ?_
    refine le_V (P := fun h17 => V G M_X8_takes X T 0 0 244 [some (rv (8, 99) 135), some (iv x1), some (iv v10)] [] h17) e (fun h17 e => ?_)
    refine V_aload_n 159 rfl rfl ?_
    refine V_getR 143 160 rfl fr_RX8_32 ⟨Nat.le_of_ble_eq_true rfl, Or.inl (Nat.le_of_ble_eq_true rfl)⟩ rfl ?_
    refine V_iload_n 161 rfl rfl ?_
    refine V_iconst (nI 2) 162 rfl ic_2 ?_
    refine V_iadd 163 rfl ?_
    refine V_aload_n 164 rfl rfl ?_
    refine V_getR 141 165 rfl fr_RX8_26 ⟨Nat.le_of_ble_eq_true rfl, Or.inl (Nat.le_of_ble_eq_true rfl)⟩ rfl ?_
    refine V_bipush (nI 6) 166 rfl bp_6 ?_
    refine V_iload_n 167 rfl rfl ?_
    refine V_imul 168 rfl ?_
    refine V_iconst (nI 3) 169 rfl ic_3 ?_
    refine V_iadd 170 rfl ?_
    obtain ⟨g18, e⟩ := gd_e e
    refine V_iald 171 rfl g18 ?_
    obtain ⟨g19, e⟩ := gd_e e
    refine V_iast 172 rfl g19 ?_
    refine le_V (P := fun h20 => V G M_X8_takes X T 0 0 263 [some (rv (8, 99) 135), some (iv x1), some (iv v10)] [] h20) e (fun h20 e => ?_)
    refine V_aload_n 173 rfl rfl ?_
    refine V_getR 143 174 rfl fr_RX8_32 ⟨Nat.le_of_ble_eq_true rfl, Or.inl (Nat.le_of_ble_eq_true rfl)⟩ rfl ?_
    refine V_iload_n 175 rfl rfl ?_
    refine V_bipush (nI 7) 176 rfl bp_7 ?_
    refine V_iadd 177 rfl ?_
    refine V_aload_n 178 rfl rfl ?_
    refine V_getR 141 179 rfl fr_RX8_26 ⟨Nat.le_of_ble_eq_true rfl, Or.inl (Nat.le_of_ble_eq_true rfl)⟩ rfl ?_
    refine V_bipush (nI 6) 180 rfl bp_6 ?_
    refine V_iload_n 181 rfl rfl ?_
    refine V_imul 182 rfl ?_
    refine V_iconst (nI 4) 183 rfl ic_4 ?_
    refine V_iadd 184 rfl ?_
    obtain ⟨g21, e⟩ := gd_e e
    refine V_iald 185 rfl g21 ?_
    obtain ⟨g22, e⟩ := gd_e e
    refine V_iast 186 rfl g22 ?_
    refine le_V (P := fun h23 => V G M_X8_takes X T 0 0 283 [some (rv (8, 99) 135), some (iv x1), some (iv v10)] [] h23) e (fun h23 e => ?_)
    refine V_aload_n 187 rfl rfl ?_
    refine V_getR 139 188 rfl fr_RX8_20 ⟨Nat.le_of_ble_eq_true rfl, Or.inl (Nat.le_of_ble_eq_true rfl)⟩ rfl ?_
    refine V_iload_n 189 rfl rfl ?_
    refine V_aload_n 190 rfl rfl ?_
    refine V_getR 141 191 rfl fr_RX8_26 ⟨Nat.le_of_ble_eq_true rfl, Or.inl (Nat.le_of_ble_eq_true rfl)⟩ rfl ?_
    refine V_bipush (nI 6) 192 rfl bp_6 ?_
    refine V_iload_n 193 rfl rfl ?_
    refine V_imul 194 rfl ?_
    refine V_iconst (nI 2) 195 rfl ic_2 ?_
    refine V_iadd 196 rfl ?_
    obtain ⟨g24, e⟩ := gd_e e
    refine V_iald 197 rfl g24 ?_
    obtain ⟨g25, e⟩ := gd_e e
    refine V_iast 198 rfl g25 ?_
    refine le_V (P := fun h26 => V G M_X8_takes X T 0 0 300 [some (rv (8, 99) 135), some (iv x1), some (iv v10)] [] h26) e (fun h26 e => ?_)
    refine V_aload_n 199 rfl rfl ?_
    refine V_getR 140 200 rfl fr_RX8_23 ⟨Nat.le_of_ble_eq_true rfl, Or.inl (Nat.le_of_ble_eq_true rfl)⟩ rfl ?_
    refine V_iload_n 201 rfl rfl ?_
    refine V_aload_n 202 rfl rfl ?_
    refine V_getR 141 203 rfl fr_RX8_26 ⟨Nat.le_of_ble_eq_true rfl, Or.inl (Nat.le_of_ble_eq_true rfl)⟩ rfl ?_
    refine V_bipush (nI 6) 204 rfl bp_6 ?_
    refine V_iload_n 205 rfl rfl ?_
    refine V_imul 206 rfl ?_
    refine V_iconst (nI 5) 207 rfl ic_5 ?_
    refine V_iadd 208 rfl ?_
    obtain ⟨g27, e⟩ := gd_e e
    refine V_iald 209 rfl g27 ?_
    refine V_iast 210 rfl g25 ?_
    refine le_V (P := fun h28 => V G M_X8_takes X T 0 0 317 [some (rv (8, 99) 135), some (iv x1), some (iv v10)] [] h28) e (fun h28 e => ?_)
    refine V_iinc (x1 + (nI 1)) 211 rfl rfl (inc_1 _) (Nat.le_of_ble_eq_true rfl) rfl ?_
    show V G M_X8_takes X T 0 0 320 [some (rv (8, 99) 135), some (iv (x1 + (nI 1))), some (iv v10)] [] h28
    refine V_goto 179 212 rfl (by decide +kernel) ?_
    refine V_msk [true, true, false] (lc' := [some (rv (8, 99) 135), some (iv (x1 + (nI 1))), none]) rfl ?_
    exact hK179 (x1 + (nI 1)) h28 e
set_option maxHeartbeats 4000000 in
theorem w_X8_takes_65 {G : kG} {X : kX} {T : List kT} {h0 : kH} (hR : k_R G M_X8_takes X T 0 0 none h0) (K65 : Int32 × kH → Option (kH)) (hK65 : ∀ (x1 : Int32) (h : kH), K65 (x1, h) = some h0 → V G M_X8_takes X T 0 0 65 [some (rv (8, 99) 135), some (iv x1), none] [] h) (x1 : Int32) (h : kH) (e : p_X8_takes_65 K65 x1 h = some h0) : V G M_X8_takes X T 0 0 65 [some (rv (8, 99) 135), some (iv x1), none] [] h := by
  unfold p_X8_takes_65 at e
  refine V_iload_n 39 rfl rfl ?_
  refine V_aload_n 40 rfl rfl ?_
  obtain ⟨v6, h4, d5, e⟩ := bd2_e e
  refine V_callV (N := M_X8_cells) (av := []) (st := [iv x1]) (r := some (iv v6)) (h' := h4) 41 rfl (c_X8_cells d5) g_X8_cells gv_X8_cells lk_RX8_104 ⟨Nat.le_of_ble_eq_true rfl, Nat.le_of_ble_eq_true rfl⟩ rfl rfl (Nat.le_of_ble_eq_true rfl) ⟨Nat.zero_le _, Nat.zero_le _⟩ ?_
  show V G M_X8_takes X T 0 0 70 [some (rv (8, 99) 135), some (iv x1), none] [iv v6, iv x1] h4
  rcases if_e e with ⟨c42, e⟩ | ⟨c42, e⟩
  · refine V_icmp_ge 177 42 rfl (by decide +kernel) (fun _ => ?_) (fun q => absurd c42 q) 
    refine V_iconst (nI 0) 112 rfl ic_0 ?_
    refine V_istore_n 113 rfl (Nat.le_of_ble_eq_true rfl) rfl ?_
    show V G M_X8_takes X T 0 0 179 [some (rv (8, 99) 135), some (iv (nI 0)), none] [] h4
    refine V_msk [true, true, false] (lc' := [some (rv (8, 99) 135), some (iv (nI 0)), none]) rfl ?_
    exact fx_e (P := fun s => V G M_X8_takes X T 0 0 179 [some (rv (8, 99) 135), some (iv s.1), none] [] s.2) (fun K179 hK179 s e => w_X8_takes_179 hR K179 (fun x1 h e => hK179 (x1, h) e) s.1 s.2 e) FU ((nI 0), h4) e
  · refine V_icmp_ge 177 42 rfl (by decide +kernel) (fun q => absurd q c42) (fun _ => ?_)
    refine V_iload_n 43 rfl rfl ?_
    refine V_aload_n 44 rfl rfl ?_
    refine V_getR 137 45 rfl fr_RX8_13 ⟨Nat.le_of_ble_eq_true rfl, Or.inl (Nat.le_of_ble_eq_true rfl)⟩ rfl ?_
    refine V_iconst (nI 0) 46 rfl ic_0 ?_
    obtain ⟨g29, e⟩ := gd_e e
    refine V_iald 47 rfl g29 ?_
    obtain ⟨g30, e⟩ := gd_e e
    refine V_rem 48 rfl (of_decide_eq_true g30) ?_
    refine V_bipush (nI 6) 49 rfl bp_6 ?_
    refine V_iload_n 50 rfl rfl ?_
    refine V_aload_n 51 rfl rfl ?_
    refine V_getR 137 52 rfl fr_RX8_13 ⟨Nat.le_of_ble_eq_true rfl, Or.inl (Nat.le_of_ble_eq_true rfl)⟩ rfl ?_
    refine V_iconst (nI 0) 53 rfl ic_0 ?_
    refine V_iald 54 rfl g29 ?_
    obtain ⟨g31, e⟩ := gd_e e
    refine V_idiv 55 rfl (of_decide_eq_true g31) ?_
    refine V_imul 56 rfl ?_
    refine V_iadd 57 rfl ?_
    refine V_istore_n 58 rfl (Nat.le_of_ble_eq_true rfl) rfl ?_
    refine le_V (P := fun v32 => V G M_X8_takes X T 0 0 94 [some (rv (8, 99) 135), some (iv x1), some (iv v32)] [] h4) e (fun v32 e => ?_)
    refine V_aload_n 59 rfl rfl ?_
    refine V_getR 143 60 rfl fr_RX8_32 ⟨Nat.le_of_ble_eq_true rfl, Or.inl (Nat.le_of_ble_eq_true rfl)⟩ rfl ?_
    refine V_iload_n 61 rfl rfl ?_
    refine V_bipush (nI 20) 62 rfl bp_20 ?_
    obtain ⟨g33, e⟩ := gd_e e
    refine V_iast 63 rfl g33 ?_
    refine le_V (P := fun h34 => V G M_X8_takes X T 0 0 102 [some (rv (8, 99) 135), some (iv x1), some (iv v32)] [] h34) e (fun h34 e => ?_)
    refine V_aload_n 64 rfl rfl ?_
    refine V_getR 143 65 rfl fr_RX8_32 ⟨Nat.le_of_ble_eq_true rfl, Or.inl (Nat.le_of_ble_eq_true rfl)⟩ rfl ?_
    refine V_bipush (nI 30) 66 rfl bp_30 ?_
    refine V_iload_n 67 rfl rfl ?_
    refine V_iadd 68 rfl ?_
    refine V_aload_n 69 rfl rfl ?_
    refine V_getR 142 70 rfl fr_RX8_29 ⟨Nat.le_of_ble_eq_true rfl, Or.inl (Nat.le_of_ble_eq_true rfl)⟩ rfl ?_
    refine V_iload_n 71 rfl rfl ?_
    obtain ⟨g35, e⟩ := gd_e e
    refine V_iald 72 rfl g35 ?_
    obtain ⟨g36, e⟩ := gd_e e
    refine V_iast 73 rfl g36 ?_
    refine le_V (P := fun h37 => V G M_X8_takes X T 0 0 117 [some (rv (8, 99) 135), some (iv x1), some (iv v32)] [] h37) e (fun h37 e => ?_)
    refine V_aload_n 74 rfl rfl ?_
    refine V_getR 143 75 rfl fr_RX8_32 ⟨Nat.le_of_ble_eq_true rfl, Or.inl (Nat.le_of_ble_eq_true rfl)⟩ rfl ?_
    refine V_bipush (nI 60) 76 rfl bp_60 ?_
    refine V_iload_n 77 rfl rfl ?_
    refine V_iadd 78 rfl ?_
    refine V_aload_n 79 rfl rfl ?_
    refine V_getR 142 80 rfl fr_RX8_29 ⟨Nat.le_of_ble_eq_true rfl, Or.inl (Nat.le_of_ble_eq_true rfl)⟩ rfl ?_
    refine V_bipush (nI 30) 81 rfl bp_30 ?_
    refine V_iload_n 82 rfl rfl ?_
    refine V_iadd 83 rfl ?_
    obtain ⟨g38, e⟩ := gd_e e
    refine V_iald 84 rfl g38 ?_
    obtain ⟨g39, e⟩ := gd_e e
    refine V_iast 85 rfl g39 ?_
    refine le_V (P := fun h40 => V G M_X8_takes X T 0 0 135 [some (rv (8, 99) 135), some (iv x1), some (iv v32)] [] h40) e (fun h40 e => ?_)
    refine V_aload_n 86 rfl rfl ?_
    refine V_getR 143 87 rfl fr_RX8_32 ⟨Nat.le_of_ble_eq_true rfl, Or.inl (Nat.le_of_ble_eq_true rfl)⟩ rfl ?_
    refine V_bipush (nI 90) 88 rfl bp_90 ?_
    refine V_iload_n 89 rfl rfl ?_
    refine V_iadd 90 rfl ?_
    refine V_aload_n 91 rfl rfl ?_
    refine V_getR 142 92 rfl fr_RX8_29 ⟨Nat.le_of_ble_eq_true rfl, Or.inl (Nat.le_of_ble_eq_true rfl)⟩ rfl ?_
    refine V_bipush (nI 60) 93 rfl bp_60 ?_
    refine V_iload_n 94 rfl rfl ?_
    refine V_iadd 95 rfl ?_
    obtain ⟨g41, e⟩ := gd_e e
    refine V_iald 96 rfl g41 ?_
    obtain ⟨g42, e⟩ := gd_e e
    refine V_iast 97 rfl g42 ?_
    refine le_V (P := fun h43 => V G M_X8_takes X T 0 0 153 [some (rv (8, 99) 135), some (iv x1), some (iv v32)] [] h43) e (fun h43 e => ?_)
    refine V_aload_n 98 rfl rfl ?_
    refine V_getR 143 99 rfl fr_RX8_32 ⟨Nat.le_of_ble_eq_true rfl, Or.inl (Nat.le_of_ble_eq_true rfl)⟩ rfl ?_
    refine V_bipush (nI 120) 100 rfl bp_120 ?_
    refine V_iload_n 101 rfl rfl ?_
    refine V_iadd 102 rfl ?_
    refine V_aload_n 103 rfl rfl ?_
    refine V_getR 142 104 rfl fr_RX8_29 ⟨Nat.le_of_ble_eq_true rfl, Or.inl (Nat.le_of_ble_eq_true rfl)⟩ rfl ?_
    refine V_bipush (nI 90) 105 rfl bp_90 ?_
    refine V_iload_n 106 rfl rfl ?_
    refine V_iadd 107 rfl ?_
    obtain ⟨g44, e⟩ := gd_e e
    refine V_iald 108 rfl g44 ?_
    obtain ⟨g45, e⟩ := gd_e e
    refine V_iast 109 rfl g45 ?_
    refine le_V (P := fun h46 => V G M_X8_takes X T 0 0 171 [some (rv (8, 99) 135), some (iv x1), some (iv v32)] [] h46) e (fun h46 e => ?_)
    refine V_iinc (x1 + (nI 1)) 110 rfl rfl (inc_1 _) (Nat.le_of_ble_eq_true rfl) rfl ?_
    show V G M_X8_takes X T 0 0 174 [some (rv (8, 99) 135), some (iv (x1 + (nI 1))), some (iv v32)] [] h46
    refine V_goto 65 111 rfl (by decide +kernel) ?_
    refine V_msk [true, true, false] (lc' := [some (rv (8, 99) 135), some (iv (x1 + (nI 1))), none]) rfl ?_
    exact hK65 (x1 + (nI 1)) h46 e
set_option maxHeartbeats 4000000 in
theorem w_X8_takes_43 {G : kG} {X : kX} {T : List kT} {h0 : kH} (hR : k_R G M_X8_takes X T 0 0 none h0) (K43 : Int32 × kH → Option (kH)) (hK43 : ∀ (x1 : Int32) (h : kH), K43 (x1, h) = some h0 → V G M_X8_takes X T 0 0 43 [some (rv (8, 99) 135), some (iv x1), none] [] h) (x1 : Int32) (h : kH) (e : p_X8_takes_43 K43 x1 h = some h0) : V G M_X8_takes X T 0 0 43 [some (rv (8, 99) 135), some (iv x1), none] [] h := by
  unfold p_X8_takes_43 at e
  refine V_iload_n 27 rfl rfl ?_
  refine V_sipush (nI 200) 28 rfl sp_200 ?_
  rcases if_e e with ⟨c29, e⟩ | ⟨c29, e⟩
  · refine V_icmp_ge 63 29 rfl (by decide +kernel) (fun _ => ?_) (fun q => absurd c29 q) 
    refine V_iconst (nI 0) 37 rfl ic_0 ?_
    refine V_istore_n 38 rfl (Nat.le_of_ble_eq_true rfl) rfl ?_
    show V G M_X8_takes X T 0 0 65 [some (rv (8, 99) 135), some (iv (nI 0)), none] [] h
    refine V_msk [true, true, false] (lc' := [some (rv (8, 99) 135), some (iv (nI 0)), none]) rfl ?_
    exact fx_e (P := fun s => V G M_X8_takes X T 0 0 65 [some (rv (8, 99) 135), some (iv s.1), none] [] s.2) (fun K65 hK65 s e => w_X8_takes_65 hR K65 (fun x1 h e => hK65 (x1, h) e) s.1 s.2 e) FU ((nI 0), h) e
  · refine V_icmp_ge 63 29 rfl (by decide +kernel) (fun q => absurd q c29) (fun _ => ?_)
    refine V_aload_n 30 rfl rfl ?_
    refine V_getR 143 31 rfl fr_RX8_32 ⟨Nat.le_of_ble_eq_true rfl, Or.inl (Nat.le_of_ble_eq_true rfl)⟩ rfl ?_
    refine V_iload_n 32 rfl rfl ?_
    refine V_iconst (nI 0) 33 rfl ic_0 ?_
    obtain ⟨g47, e⟩ := gd_e e
    refine V_iast 34 rfl g47 ?_
    refine le_V (P := fun h48 => V G M_X8_takes X T 0 0 57 [some (rv (8, 99) 135), some (iv x1), none] [] h48) e (fun h48 e => ?_)
    refine V_iinc (x1 + (nI 1)) 35 rfl rfl (inc_1 _) (Nat.le_of_ble_eq_true rfl) rfl ?_
    show V G M_X8_takes X T 0 0 60 [some (rv (8, 99) 135), some (iv (x1 + (nI 1))), none] [] h48
    refine V_goto 43 36 rfl (by decide +kernel) ?_
    refine V_msk [true, true, false] (lc' := [some (rv (8, 99) 135), some (iv (x1 + (nI 1))), none]) rfl ?_
    exact hK43 (x1 + (nI 1)) h48 e
set_option maxHeartbeats 4000000 in
theorem w_X8_takes_2 {G : kG} {X : kX} {T : List kT} {h0 : kH} (hR : k_R G M_X8_takes X T 0 0 none h0) (K2 : Int32 × kH → Option (kH)) (hK2 : ∀ (x1 : Int32) (h : kH), K2 (x1, h) = some h0 → V G M_X8_takes X T 0 0 2 [some (rv (8, 99) 135), some (iv x1), none] [] h) (x1 : Int32) (h : kH) (e : p_X8_takes_2 K2 x1 h = some h0) : V G M_X8_takes X T 0 0 2 [some (rv (8, 99) 135), some (iv x1), none] [] h := by
  unfold p_X8_takes_2 at e
  refine V_iload_n 2 rfl rfl ?_
  refine V_bipush (nI 14) 3 rfl bp_14 ?_
  rcases if_e e with ⟨c4, e⟩ | ⟨c4, e⟩
  · refine V_icmp_ge 29 4 rfl (by decide +kernel) (fun _ => ?_) (fun q => absurd c4 q) 
    refine V_aload_n 17 rfl rfl ?_
    refine V_getR 138 18 rfl fr_RX8_17 ⟨Nat.le_of_ble_eq_true rfl, Or.inl (Nat.le_of_ble_eq_true rfl)⟩ rfl ?_
    refine V_iconst (nI 0) 19 rfl ic_0 ?_
    refine V_aload_n 20 rfl rfl ?_
    refine V_getR 138 21 rfl fr_RX8_17 ⟨Nat.le_of_ble_eq_true rfl, Or.inl (Nat.le_of_ble_eq_true rfl)⟩ rfl ?_
    refine V_iconst (nI 1) 22 rfl ic_1 ?_
    obtain ⟨g1, e⟩ := gd_e e
    refine V_iald 23 rfl g1 ?_
    obtain ⟨g2, e⟩ := gd_e e
    refine V_iast 24 rfl g2 ?_
    refine le_V (P := fun h3 => V G M_X8_takes X T 0 0 41 [some (rv (8, 99) 135), some (iv x1), none] [] h3) e (fun h3 e => ?_)
    refine V_iconst (nI 0) 25 rfl ic_0 ?_
    refine V_istore_n 26 rfl (Nat.le_of_ble_eq_true rfl) rfl ?_
    show V G M_X8_takes X T 0 0 43 [some (rv (8, 99) 135), some (iv (nI 0)), none] [] h3
    refine V_msk [true, true, false] (lc' := [some (rv (8, 99) 135), some (iv (nI 0)), none]) rfl ?_
    exact fx_e (P := fun s => V G M_X8_takes X T 0 0 43 [some (rv (8, 99) 135), some (iv s.1), none] [] s.2) (fun K43 hK43 s e => w_X8_takes_43 hR K43 (fun x1 h e => hK43 (x1, h) e) s.1 s.2 e) FU ((nI 0), h3) e
  · refine V_icmp_ge 29 4 rfl (by decide +kernel) (fun q => absurd q c4) (fun _ => ?_)
    refine V_aload_n 5 rfl rfl ?_
    refine V_getR 137 6 rfl fr_RX8_13 ⟨Nat.le_of_ble_eq_true rfl, Or.inl (Nat.le_of_ble_eq_true rfl)⟩ rfl ?_
    refine V_iload_n 7 rfl rfl ?_
    refine V_aload_n 8 rfl rfl ?_
    refine V_getR 137 9 rfl fr_RX8_13 ⟨Nat.le_of_ble_eq_true rfl, Or.inl (Nat.le_of_ble_eq_true rfl)⟩ rfl ?_
    refine V_bipush (nI 14) 10 rfl bp_14 ?_
    refine V_iload_n 11 rfl rfl ?_
    refine V_iadd 12 rfl ?_
    obtain ⟨g49, e⟩ := gd_e e
    refine V_iald 13 rfl g49 ?_
    obtain ⟨g50, e⟩ := gd_e e
    refine V_iast 14 rfl g50 ?_
    refine le_V (P := fun h51 => V G M_X8_takes X T 0 0 23 [some (rv (8, 99) 135), some (iv x1), none] [] h51) e (fun h51 e => ?_)
    refine V_iinc (x1 + (nI 1)) 15 rfl rfl (inc_1 _) (Nat.le_of_ble_eq_true rfl) rfl ?_
    show V G M_X8_takes X T 0 0 26 [some (rv (8, 99) 135), some (iv (x1 + (nI 1))), none] [] h51
    refine V_goto 2 16 rfl (by decide +kernel) ?_
    refine V_msk [true, true, false] (lc' := [some (rv (8, 99) 135), some (iv (x1 + (nI 1))), none]) rfl ?_
    exact hK2 (x1 + (nI 1)) h51 e
set_option maxHeartbeats 4000000 in
theorem c_X8_takes {G : kG} {T : List kT} {h : kH} {h0 : kH} (e : p_X8_takes h = some h0) : k_C G M_X8_takes T [rv (8, 99) 135] h none h0 := by
  refine k_C_of 2 (by decide +kernel) rfl tb_X8_takes rfl (fun X hR => ?_)
  show V G M_X8_takes X T 0 0 0 [some (rv (8, 99) 135), none, none] [] h
  unfold p_X8_takes at e
  refine V_iconst (nI 0) 0 rfl ic_0 ?_
  refine V_istore_n 1 rfl (Nat.le_of_ble_eq_true rfl) rfl ?_
  show V G M_X8_takes X T 0 0 2 [some (rv (8, 99) 135), some (iv (nI 0)), none] [] h
  refine V_msk [true, true, false] (lc' := [some (rv (8, 99) 135), some (iv (nI 0)), none]) rfl ?_
  exact fx_e (P := fun s => V G M_X8_takes X T 0 0 2 [some (rv (8, 99) 135), some (iv s.1), none] [] s.2) (fun K2 hK2 s e => w_X8_takes_2 hR K2 (fun x1 h e => hK2 (x1, h) e) s.1 s.2 e) FU ((nI 0), h) e
set_option maxHeartbeats 4000000 in
theorem w_X8_fault_9 {G : kG} {X : kX} {T : List kT} {r0 : Int32} {h0 : kH} (hR : k_R G M_X8_fault X T 0 0 (some (iv r0)) h0) (K9 : kH → Option (Int32 × kH)) (hK9 : ∀  (h : kH), K9 (h) = some (r0, h0) → V G M_X8_fault X T 0 0 9 [some (rv (8, 99) 135), none] [] h) (h : kH) (e : p_X8_fault_9 K9 h = some (r0, h0)) : V G M_X8_fault X T 0 0 9 [some (rv (8, 99) 135), none] [] h := by
  unfold p_X8_fault_9 at e
  refine V_aload_n 5 rfl rfl ?_
  refine V_getI 6 rfl fi_RX8_76 ?_
  refine V_aload_n 7 rfl rfl ?_
  refine V_getI 8 rfl fi_RX8_72 ?_
  rcases if_e e with ⟨c9, e⟩ | ⟨c9, e⟩
  · refine V_icmp_ge 37 9 rfl (by decide +kernel) (fun _ => ?_) (fun q => absurd c9 q) 
    refine V_bipush (-4 : Int32) 19 rfl bp_m4 ?_
    cases e
    exact V_iret 20 rfl hR rfl
  · refine V_icmp_ge 37 9 rfl (by decide +kernel) (fun q => absurd q c9) (fun _ => ?_)
    refine V_aload_n 10 rfl rfl ?_
    refine V_getI 11 rfl fi_RX8_76 ?_
    refine V_istore_n 12 rfl (Nat.le_of_ble_eq_true rfl) rfl ?_
    refine le_V (P := fun v4 => V G M_X8_fault X T 0 0 25 [some (rv (8, 99) 135), some (iv v4)] [] h) e (fun v4 e => ?_)
    refine V_aload_n 13 rfl rfl ?_
    obtain ⟨v7, h5, d6, e⟩ := bd2_e e
    refine V_callV (N := M_X8_isItem) (av := []) (st := []) (r := some (iv v7)) (h' := h5) 14 rfl (c_X8_isItem d6) g_X8_isItem gv_X8_isItem lk_RX8_113 ⟨Nat.le_of_ble_eq_true rfl, Nat.le_of_ble_eq_true rfl⟩ rfl rfl (Nat.le_of_ble_eq_true rfl) ⟨Nat.zero_le _, Nat.zero_le _⟩ ?_
    show V G M_X8_fault X T 0 0 29 [some (rv (8, 99) 135), some (iv v4)] [iv v7] h5
    rcases if_e e with ⟨c15, e⟩ | ⟨c15, e⟩
    · refine V_if_ne 34 15 rfl (by decide +kernel) (fun q => absurd c15 q) (fun _ => ?_)
      refine V_iload_n 16 rfl rfl ?_
      cases e
      exact V_iret 17 rfl hR rfl
    · refine V_if_ne 34 15 rfl (by decide +kernel) (fun _ => ?_) (fun q => absurd q c15) 
      refine V_goto 9 18 rfl (by decide +kernel) ?_
      refine V_msk [true, false] (lc' := [some (rv (8, 99) 135), none]) rfl ?_
      exact hK9 h5 e
set_option maxHeartbeats 4000000 in
theorem c_X8_fault {G : kG} {T : List kT} {h : kH} {r0 : Int32} {h0 : kH} (e : p_X8_fault h = some (r0, h0)) : k_C G M_X8_fault T [rv (8, 99) 135] h (some (iv r0)) h0 := by
  refine k_C_of 1 (by decide +kernel) rfl tb_X8_fault rfl (fun X hR => ?_)
  show V G M_X8_fault X T 0 0 0 [some (rv (8, 99) 135), none] [] h
  unfold p_X8_fault at e
  refine V_aload_n 0 rfl rfl ?_
  refine V_iconst (nI 0) 1 rfl ic_0 ?_
  refine V_putI 2 rfl fi_RX8_76 ?_
  refine le_V (P := fun h1 => V G M_X8_fault X T 0 0 5 [some (rv (8, 99) 135), none] [] h1) e (fun h1 e => ?_)
  refine V_aload_n 3 rfl rfl ?_
  obtain ⟨h2, d3, e⟩ := bd_e e
  refine V_callV (N := M_X8_begins) (av := []) (st := []) (r := none) (h' := h2) 4 rfl (c_X8_begins d3) g_X8_begins gv_X8_begins lk_RX8_60 ⟨Nat.le_of_ble_eq_true rfl, Nat.le_of_ble_eq_true rfl⟩ rfl rfl (Nat.le_of_ble_eq_true rfl) ⟨Nat.zero_le _, Nat.zero_le _⟩ ?_
  show V G M_X8_fault X T 0 0 9 [some (rv (8, 99) 135), none] [] h2
  refine V_msk [true, false] (lc' := [some (rv (8, 99) 135), none]) rfl ?_
  exact fx_e (P := fun s => V G M_X8_fault X T 0 0 9 [some (rv (8, 99) 135), none] [] s) (fun K9 hK9 s e => w_X8_fault_9 hR K9 (fun h e => hK9 (h) e) s e) FU (h2) e
set_option maxHeartbeats 4000000 in
theorem w_X8_lay_139 {G : kG} {X : kX} {T : List kT} {r0 : Int32} {h0 : kH} (hR : k_R G M_X8_lay X T 0 0 (some (iv r0)) h0) (K14 : Int32 × kH → Option (Int32 × kH)) (hK14 : ∀ (x1 : Int32) (h : kH), K14 (x1, h) = some (r0, h0) → V G M_X8_lay X T 0 0 14 [some (rv (8, 99) 135), some (iv x1), none, none] [] h) (x1 : Int32) (x2 : Int32) (h : kH) (e : p_X8_lay_139 K14 x1 x2 h = some (r0, h0)) : V G M_X8_lay X T 0 0 139 [some (rv (8, 99) 135), some (iv x1), some (iv x2), none] [] h := by
  unfold p_X8_lay_139 at e
  refine V_iload_n 85 rfl rfl ?_
  rcases if_e e with ⟨c86, e⟩ | ⟨c86, e⟩
  · refine V_if_ne 146 86 rfl (by decide +kernel) (fun q => absurd c86 q) (fun _ => ?_)
    refine V_bipush (-2 : Int32) 87 rfl bp_m2 ?_
    cases e
    exact V_iret 88 rfl hR rfl
  · refine V_if_ne 146 86 rfl (by decide +kernel) (fun _ => ?_) (fun q => absurd q c86) 
    refine V_iinc (x1 + (nI 1)) 89 rfl rfl (inc_1 _) (Nat.le_of_ble_eq_true rfl) rfl ?_
    show V G M_X8_lay X T 0 0 149 [some (rv (8, 99) 135), some (iv (x1 + (nI 1))), some (iv x2), none] [] h
    refine V_goto 14 90 rfl (by decide +kernel) ?_
    refine V_msk [true, true, false, false] (lc' := [some (rv (8, 99) 135), some (iv (x1 + (nI 1))), none, none]) rfl ?_
    exact hK14 (x1 + (nI 1)) h e
set_option maxHeartbeats 4000000 in
theorem w_X8_lay_132 {G : kG} {X : kX} {T : List kT} {r0 : Int32} {h0 : kH} (hR : k_R G M_X8_lay X T 0 0 (some (iv r0)) h0) (K14 : Int32 × kH → Option (Int32 × kH)) (K72 : Int32 × Int32 × Int32 × kH → Option (Int32 × kH)) (hK14 : ∀ (x1 : Int32) (h : kH), K14 (x1, h) = some (r0, h0) → V G M_X8_lay X T 0 0 14 [some (rv (8, 99) 135), some (iv x1), none, none] [] h) (hK72 : ∀ (x1 : Int32) (x2 : Int32) (x3 : Int32) (h : kH), K72 (x1, x2, x3, h) = some (r0, h0) → V G M_X8_lay X T 0 0 72 [some (rv (8, 99) 135), some (iv x1), some (iv x2), some (iv x3)] [] h) (x1 : Int32) (x3 : Int32) (s0 : Int32) (h : kH) (e : p_X8_lay_132 K14 K72 x1 x3 s0 h = some (r0, h0)) : V G M_X8_lay X T 0 0 132 [some (rv (8, 99) 135), some (iv x1), none, some (iv x3)] [iv s0] h := by
  unfold p_X8_lay_132 at e
  refine V_istore_n 82 rfl (Nat.le_of_ble_eq_true rfl) rfl ?_
  show V G M_X8_lay X T 0 0 133 [some (rv (8, 99) 135), some (iv x1), some (iv s0), some (iv x3)] [] h
  refine V_iinc (x3 + (nI 1)) 83 rfl rfl (inc_1 _) (Nat.le_of_ble_eq_true rfl) rfl ?_
  show V G M_X8_lay X T 0 0 136 [some (rv (8, 99) 135), some (iv x1), some (iv s0), some (iv (x3 + (nI 1)))] [] h
  refine V_goto 72 84 rfl (by decide +kernel) ?_
  refine V_msk [true, true, true, true] (lc' := [some (rv (8, 99) 135), some (iv x1), some (iv s0), some (iv (x3 + (nI 1)))]) rfl ?_
  exact hK72 x1 s0 (x3 + (nI 1)) h e
set_option maxHeartbeats 4000000 in
theorem w_X8_lay_127 {G : kG} {X : kX} {T : List kT} {r0 : Int32} {h0 : kH} (hR : k_R G M_X8_lay X T 0 0 (some (iv r0)) h0) (K14 : Int32 × kH → Option (Int32 × kH)) (K72 : Int32 × Int32 × Int32 × kH → Option (Int32 × kH)) (hK14 : ∀ (x1 : Int32) (h : kH), K14 (x1, h) = some (r0, h0) → V G M_X8_lay X T 0 0 14 [some (rv (8, 99) 135), some (iv x1), none, none] [] h) (hK72 : ∀ (x1 : Int32) (x2 : Int32) (x3 : Int32) (h : kH), K72 (x1, x2, x3, h) = some (r0, h0) → V G M_X8_lay X T 0 0 72 [some (rv (8, 99) 135), some (iv x1), some (iv x2), some (iv x3)] [] h) (x1 : Int32) (x3 : Int32) (h : kH) (e : p_X8_lay_127 K14 K72 x1 x3 h = some (r0, h0)) : V G M_X8_lay X T 0 0 127 [some (rv (8, 99) 135), some (iv x1), none, some (iv x3)] [] h := by
  unfold p_X8_lay_127 at e
  refine V_iconst (nI 1) 79 rfl ic_1 ?_
  refine V_goto 132 80 rfl (by decide +kernel) ?_
  refine V_msk [true, true, false, true] (lc' := [some (rv (8, 99) 135), some (iv x1), none, some (iv x3)]) rfl ?_
  exact w_X8_lay_132 hR K14 K72 hK14 hK72 x1 x3 (nI 1) h e
set_option maxHeartbeats 4000000 in
theorem w_X8_lay_72 {G : kG} {X : kX} {T : List kT} {r0 : Int32} {h0 : kH} (hR : k_R G M_X8_lay X T 0 0 (some (iv r0)) h0) (K14 : Int32 × kH → Option (Int32 × kH)) (K72 : Int32 × Int32 × Int32 × kH → Option (Int32 × kH)) (hK14 : ∀ (x1 : Int32) (h : kH), K14 (x1, h) = some (r0, h0) → V G M_X8_lay X T 0 0 14 [some (rv (8, 99) 135), some (iv x1), none, none] [] h) (hK72 : ∀ (x1 : Int32) (x2 : Int32) (x3 : Int32) (h : kH), K72 (x1, x2, x3, h) = some (r0, h0) → V G M_X8_lay X T 0 0 72 [some (rv (8, 99) 135), some (iv x1), some (iv x2), some (iv x3)] [] h) (x1 : Int32) (x2 : Int32) (x3 : Int32) (h : kH) (e : p_X8_lay_72 K14 K72 x1 x2 x3 h = some (r0, h0)) : V G M_X8_lay X T 0 0 72 [some (rv (8, 99) 135), some (iv x1), some (iv x2), some (iv x3)] [] h := by
  unfold p_X8_lay_72 at e
  refine V_iload_n 44 rfl rfl ?_
  refine V_iload_n 45 rfl rfl ?_
  rcases if_e e with ⟨c46, e⟩ | ⟨c46, e⟩
  · refine V_icmp_ge 139 46 rfl (by decide +kernel) (fun _ => ?_) (fun q => absurd c46 q) 
    refine V_msk [true, true, true, false] (lc' := [some (rv (8, 99) 135), some (iv x1), some (iv x2), none]) rfl ?_
    exact w_X8_lay_139 hR K14 hK14 x1 x2 h e
  · refine V_icmp_ge 139 46 rfl (by decide +kernel) (fun q => absurd q c46) (fun _ => ?_)
    refine V_iload_n 47 rfl rfl ?_
    rcases if_e e with ⟨c48, e⟩ | ⟨c48, e⟩
    · refine V_if_eq 139 48 rfl (by decide +kernel) (fun _ => ?_) (fun q => absurd c48 q) 
      refine V_msk [true, true, true, false] (lc' := [some (rv (8, 99) 135), some (iv x1), some (iv x2), none]) rfl ?_
      exact w_X8_lay_139 hR K14 hK14 x1 x2 h e
    · refine V_if_eq 139 48 rfl (by decide +kernel) (fun q => absurd q c48) (fun _ => ?_)
      refine V_aload_n 49 rfl rfl ?_
      refine V_getR 141 50 rfl fr_RX8_26 ⟨Nat.le_of_ble_eq_true rfl, Or.inl (Nat.le_of_ble_eq_true rfl)⟩ rfl ?_
      refine V_bipush (nI 6) 51 rfl bp_6 ?_
      refine V_iload_n 52 rfl rfl ?_
      refine V_imul 53 rfl ?_
      obtain ⟨g12, e⟩ := gd_e e
      refine V_iald 54 rfl g12 ?_
      refine V_aload_n 55 rfl rfl ?_
      refine V_getR 141 56 rfl fr_RX8_26 ⟨Nat.le_of_ble_eq_true rfl, Or.inl (Nat.le_of_ble_eq_true rfl)⟩ rfl ?_
      refine V_bipush (nI 6) 57 rfl bp_6 ?_
      refine V_iload_n 58 rfl rfl ?_
      refine V_imul 59 rfl ?_
      obtain ⟨g13, e⟩ := gd_e e
      refine V_iald 60 rfl g13 ?_
      rcases if_e e with ⟨c61, e⟩ | ⟨c61, e⟩
      · refine V_icmp_ne 127 61 rfl (by decide +kernel) (fun q => absurd c61 q) (fun _ => ?_)
        refine V_aload_n 62 rfl rfl ?_
        refine V_getR 141 63 rfl fr_RX8_26 ⟨Nat.le_of_ble_eq_true rfl, Or.inl (Nat.le_of_ble_eq_true rfl)⟩ rfl ?_
        refine V_bipush (nI 6) 64 rfl bp_6 ?_
        refine V_iload_n 65 rfl rfl ?_
        refine V_imul 66 rfl ?_
        refine V_iconst (nI 1) 67 rfl ic_1 ?_
        refine V_iadd 68 rfl ?_
        obtain ⟨g14, e⟩ := gd_e e
        refine V_iald 69 rfl g14 ?_
        refine V_aload_n 70 rfl rfl ?_
        refine V_getR 141 71 rfl fr_RX8_26 ⟨Nat.le_of_ble_eq_true rfl, Or.inl (Nat.le_of_ble_eq_true rfl)⟩ rfl ?_
        refine V_bipush (nI 6) 72 rfl bp_6 ?_
        refine V_iload_n 73 rfl rfl ?_
        refine V_imul 74 rfl ?_
        refine V_iconst (nI 1) 75 rfl ic_1 ?_
        refine V_iadd 76 rfl ?_
        obtain ⟨g15, e⟩ := gd_e e
        refine V_iald 77 rfl g15 ?_
        rcases if_e e with ⟨c78, e⟩ | ⟨c78, e⟩
        · refine V_icmp_eq 131 78 rfl (by decide +kernel) (fun _ => ?_) (fun q => absurd c78 q) 
          refine V_iconst (nI 0) 81 rfl ic_0 ?_
          refine V_msk [true, true, false, true] (lc' := [some (rv (8, 99) 135), some (iv x1), none, some (iv x3)]) rfl ?_
          exact w_X8_lay_132 hR K14 K72 hK14 hK72 x1 x3 (nI 0) h e
        · refine V_icmp_eq 131 78 rfl (by decide +kernel) (fun q => absurd q c78) (fun _ => ?_)
          refine V_msk [true, true, false, true] (lc' := [some (rv (8, 99) 135), some (iv x1), none, some (iv x3)]) rfl ?_
          exact w_X8_lay_127 hR K14 K72 hK14 hK72 x1 x3 h e
      · refine V_icmp_ne 127 61 rfl (by decide +kernel) (fun _ => ?_) (fun q => absurd q c61) 
        refine V_msk [true, true, false, true] (lc' := [some (rv (8, 99) 135), some (iv x1), none, some (iv x3)]) rfl ?_
        exact w_X8_lay_127 hR K14 K72 hK14 hK72 x1 x3 h e
set_option maxHeartbeats 4000000 in
theorem w_X8_lay_69 {G : kG} {X : kX} {T : List kT} {r0 : Int32} {h0 : kH} (hR : k_R G M_X8_lay X T 0 0 (some (iv r0)) h0) (K14 : Int32 × kH → Option (Int32 × kH)) (hK14 : ∀ (x1 : Int32) (h : kH), K14 (x1, h) = some (r0, h0) → V G M_X8_lay X T 0 0 14 [some (rv (8, 99) 135), some (iv x1), none, none] [] h) (x1 : Int32) (s0 : Int32) (h : kH) (e : p_X8_lay_69 K14 x1 s0 h = some (r0, h0)) : V G M_X8_lay X T 0 0 69 [some (rv (8, 99) 135), some (iv x1), none, none] [iv s0] h := by
  unfold p_X8_lay_69 at e
  refine V_istore_n 41 rfl (Nat.le_of_ble_eq_true rfl) rfl ?_
  show V G M_X8_lay X T 0 0 70 [some (rv (8, 99) 135), some (iv x1), some (iv s0), none] [] h
  refine V_iconst (nI 0) 42 rfl ic_0 ?_
  refine V_istore_n 43 rfl (Nat.le_of_ble_eq_true rfl) rfl ?_
  show V G M_X8_lay X T 0 0 72 [some (rv (8, 99) 135), some (iv x1), some (iv s0), some (iv (nI 0))] [] h
  refine V_msk [true, true, true, true] (lc' := [some (rv (8, 99) 135), some (iv x1), some (iv s0), some (iv (nI 0))]) rfl ?_
  exact fx_e (P := fun s => V G M_X8_lay X T 0 0 72 [some (rv (8, 99) 135), some (iv s.1), some (iv s.2.1), some (iv s.2.2.1)] [] s.2.2.2) (fun K72 hK72 s e => w_X8_lay_72 hR K14 K72 hK14 (fun x1 x2 x3 h e => hK72 (x1, x2, x3, h) e) s.1 s.2.1 s.2.2.1 s.2.2.2 e) FU (x1, s0, (nI 0), h) e
set_option maxHeartbeats 4000000 in
theorem w_X8_lay_68 {G : kG} {X : kX} {T : List kT} {r0 : Int32} {h0 : kH} (hR : k_R G M_X8_lay X T 0 0 (some (iv r0)) h0) (K14 : Int32 × kH → Option (Int32 × kH)) (hK14 : ∀ (x1 : Int32) (h : kH), K14 (x1, h) = some (r0, h0) → V G M_X8_lay X T 0 0 14 [some (rv (8, 99) 135), some (iv x1), none, none] [] h) (x1 : Int32) (h : kH) (e : p_X8_lay_68 K14 x1 h = some (r0, h0)) : V G M_X8_lay X T 0 0 68 [some (rv (8, 99) 135), some (iv x1), none, none] [] h := by
  unfold p_X8_lay_68 at e
  refine V_iconst (nI 0) 40 rfl ic_0 ?_
  refine V_msk [true, true, false, false] (lc' := [some (rv (8, 99) 135), some (iv x1), none, none]) rfl ?_
  exact w_X8_lay_69 hR K14 hK14 x1 (nI 0) h e
set_option maxHeartbeats 4000000 in
theorem w_X8_lay_14 {G : kG} {X : kX} {T : List kT} {r0 : Int32} {h0 : kH} (hR : k_R G M_X8_lay X T 0 0 (some (iv r0)) h0) (K14 : Int32 × kH → Option (Int32 × kH)) (hK14 : ∀ (x1 : Int32) (h : kH), K14 (x1, h) = some (r0, h0) → V G M_X8_lay X T 0 0 14 [some (rv (8, 99) 135), some (iv x1), none, none] [] h) (x1 : Int32) (h : kH) (e : p_X8_lay_14 K14 x1 h = some (r0, h0)) : V G M_X8_lay X T 0 0 14 [some (rv (8, 99) 135), some (iv x1), none, none] [] h := by
  unfold p_X8_lay_14 at e
  refine V_iload_n 8 rfl rfl ?_
  refine V_aload_n 9 rfl rfl ?_
  refine V_getR 138 10 rfl fr_RX8_17 ⟨Nat.le_of_ble_eq_true rfl, Or.inl (Nat.le_of_ble_eq_true rfl)⟩ rfl ?_
  refine V_iconst (nI 1) 11 rfl ic_1 ?_
  obtain ⟨g4, e⟩ := gd_e e
  refine V_iald 12 rfl g4 ?_
  rcases if_e e with ⟨c13, e⟩ | ⟨c13, e⟩
  · refine V_icmp_ge 152 13 rfl (by decide +kernel) (fun _ => ?_) (fun q => absurd c13 q) 
    refine V_aload_n 91 rfl rfl ?_
    obtain ⟨h5, d6, e⟩ := bd_e e
    refine V_callV (N := M_X8_takes) (av := []) (st := []) (r := none) (h' := h5) 92 rfl (c_X8_takes d6) g_X8_takes gv_X8_takes lk_RX8_63 ⟨Nat.le_of_ble_eq_true rfl, Nat.le_of_ble_eq_true rfl⟩ rfl rfl (Nat.le_of_ble_eq_true rfl) ⟨Nat.zero_le _, Nat.zero_le _⟩ ?_
    show V G M_X8_lay X T 0 0 156 [some (rv (8, 99) 135), some (iv x1), none, none] [] h5
    refine V_aload_n 93 rfl rfl ?_
    obtain ⟨v9, h7, d8, e⟩ := bd2_e e
    refine V_callV (N := M_X8_cells) (av := []) (st := []) (r := some (iv v9)) (h' := h7) 94 rfl (c_X8_cells d8) g_X8_cells gv_X8_cells lk_RX8_104 ⟨Nat.le_of_ble_eq_true rfl, Nat.le_of_ble_eq_true rfl⟩ rfl rfl (Nat.le_of_ble_eq_true rfl) ⟨Nat.zero_le _, Nat.zero_le _⟩ ?_
    show V G M_X8_lay X T 0 0 160 [some (rv (8, 99) 135), some (iv x1), none, none] [iv v9] h7
    cases e
    exact V_iret 95 rfl hR rfl
  · refine V_icmp_ge 152 13 rfl (by decide +kernel) (fun q => absurd q c13) (fun _ => ?_)
    refine V_aload_n 14 rfl rfl ?_
    refine V_getR 141 15 rfl fr_RX8_26 ⟨Nat.le_of_ble_eq_true rfl, Or.inl (Nat.le_of_ble_eq_true rfl)⟩ rfl ?_
    refine V_bipush (nI 6) 16 rfl bp_6 ?_
    refine V_iload_n 17 rfl rfl ?_
    refine V_imul 18 rfl ?_
    obtain ⟨g10, e⟩ := gd_e e
    refine V_iald 19 rfl g10 ?_
    refine V_aload_n 20 rfl rfl ?_
    refine V_getR 137 21 rfl fr_RX8_13 ⟨Nat.le_of_ble_eq_true rfl, Or.inl (Nat.le_of_ble_eq_true rfl)⟩ rfl ?_
    refine V_bipush (nI 14) 22 rfl bp_14 ?_
    obtain ⟨g11, e⟩ := gd_e e
    refine V_iald 23 rfl g11 ?_
    rcases if_e e with ⟨c24, e⟩ | ⟨c24, e⟩
    · refine V_icmp_ge 68 24 rfl (by decide +kernel) (fun _ => ?_) (fun q => absurd c24 q) 
      refine V_msk [true, true, false, false] (lc' := [some (rv (8, 99) 135), some (iv x1), none, none]) rfl ?_
      exact w_X8_lay_68 hR K14 hK14 x1 h e
    · refine V_icmp_ge 68 24 rfl (by decide +kernel) (fun q => absurd q c24) (fun _ => ?_)
      refine V_aload_n 25 rfl rfl ?_
      refine V_getR 141 26 rfl fr_RX8_26 ⟨Nat.le_of_ble_eq_true rfl, Or.inl (Nat.le_of_ble_eq_true rfl)⟩ rfl ?_
      refine V_bipush (nI 6) 27 rfl bp_6 ?_
      refine V_iload_n 28 rfl rfl ?_
      refine V_imul 29 rfl ?_
      refine V_iconst (nI 1) 30 rfl ic_1 ?_
      refine V_iadd 31 rfl ?_
      obtain ⟨g16, e⟩ := gd_e e
      refine V_iald 32 rfl g16 ?_
      refine V_aload_n 33 rfl rfl ?_
      refine V_getR 137 34 rfl fr_RX8_13 ⟨Nat.le_of_ble_eq_true rfl, Or.inl (Nat.le_of_ble_eq_true rfl)⟩ rfl ?_
      refine V_bipush (nI 15) 35 rfl bp_15 ?_
      obtain ⟨g17, e⟩ := gd_e e
      refine V_iald 36 rfl g17 ?_
      rcases if_e e with ⟨c37, e⟩ | ⟨c37, e⟩
      · refine V_icmp_ge 68 37 rfl (by decide +kernel) (fun _ => ?_) (fun q => absurd c37 q) 
        refine V_msk [true, true, false, false] (lc' := [some (rv (8, 99) 135), some (iv x1), none, none]) rfl ?_
        exact w_X8_lay_68 hR K14 hK14 x1 h e
      · refine V_icmp_ge 68 37 rfl (by decide +kernel) (fun q => absurd q c37) (fun _ => ?_)
        refine V_iconst (nI 1) 38 rfl ic_1 ?_
        refine V_goto 69 39 rfl (by decide +kernel) ?_
        refine V_msk [true, true, false, false] (lc' := [some (rv (8, 99) 135), some (iv x1), none, none]) rfl ?_
        exact w_X8_lay_69 hR K14 hK14 x1 (nI 1) h e
set_option maxHeartbeats 4000000 in
theorem c_X8_lay {G : kG} {T : List kT} {h : kH} {r0 : Int32} {h0 : kH} (e : p_X8_lay h = some (r0, h0)) : k_C G M_X8_lay T [rv (8, 99) 135] h (some (iv r0)) h0 := by
  refine k_C_of 3 (by decide +kernel) rfl tb_X8_lay rfl (fun X hR => ?_)
  show V G M_X8_lay X T 0 0 0 [some (rv (8, 99) 135), none, none, none] [] h
  unfold p_X8_lay at e
  refine V_aload_n 0 rfl rfl ?_
  obtain ⟨v3, h1, d2, e⟩ := bd2_e e
  refine V_callV (N := M_X8_fault) (av := []) (st := []) (r := some (iv v3)) (h' := h1) 1 rfl (c_X8_fault d2) g_X8_fault gv_X8_fault lk_RX8_117 ⟨Nat.le_of_ble_eq_true rfl, Nat.le_of_ble_eq_true rfl⟩ rfl rfl (Nat.le_of_ble_eq_true rfl) ⟨Nat.zero_le _, Nat.zero_le _⟩ ?_
  show V G M_X8_lay X T 0 0 4 [some (rv (8, 99) 135), none, none, none] [iv v3] h1
  refine V_bipush (-4 : Int32) 2 rfl bp_m4 ?_
  rcases if_e e with ⟨c3, e⟩ | ⟨c3, e⟩
  · refine V_icmp_eq 12 3 rfl (by decide +kernel) (fun _ => ?_) (fun q => absurd c3 q) 
    refine V_iconst (nI 0) 6 rfl ic_0 ?_
    refine V_istore_n 7 rfl (Nat.le_of_ble_eq_true rfl) rfl ?_
    show V G M_X8_lay X T 0 0 14 [some (rv (8, 99) 135), some (iv (nI 0)), none, none] [] h1
    refine V_msk [true, true, false, false] (lc' := [some (rv (8, 99) 135), some (iv (nI 0)), none, none]) rfl ?_
    exact fx_e (P := fun s => V G M_X8_lay X T 0 0 14 [some (rv (8, 99) 135), some (iv s.1), none, none] [] s.2) (fun K14 hK14 s e => w_X8_lay_14 hR K14 (fun x1 h e => hK14 (x1, h) e) s.1 s.2 e) FU ((nI 0), h1) e
  · refine V_icmp_eq 12 3 rfl (by decide +kernel) (fun q => absurd q c3) (fun _ => ?_)
    refine V_bipush (-2 : Int32) 4 rfl bp_m2 ?_
    cases e
    exact V_iret 5 rfl hR rfl
set_option maxHeartbeats 4000000 in
theorem c_X8_isCell {G : kG} {T : List kT} {x1 : Int32} {h : kH} {r0 : Int32} {h0 : kH} (e : p_X8_isCell x1 h = some (r0, h0)) : k_C G M_X8_isCell T [rv (8, 99) 135, iv x1] h (some (iv r0)) h0 := by
  refine k_C_of 0 (by decide +kernel) rfl tb_X8_isCell rfl (fun X hR => ?_)
  show V G M_X8_isCell X T 0 0 0 [some (rv (8, 99) 135), some (iv x1)] [] h
  unfold p_X8_isCell at e
  refine V_iload_n 0 rfl rfl ?_
  refine V_i2l 1 rfl ?_
  refine V_lconst (0 : Int64) 2 rfl rfl ?_
  refine V_aload_n 3 rfl rfl ?_
  obtain ⟨v3, h1, d2, e⟩ := bd2_e e
  refine V_callV (N := M_X8_cells) (av := []) (st := [jv (0 : Int64), jv (x1).toInt64]) (r := some (iv v3)) (h' := h1) 4 rfl (c_X8_cells d2) g_X8_cells gv_X8_cells lk_RX8_104 ⟨Nat.le_of_ble_eq_true rfl, Nat.le_of_ble_eq_true rfl⟩ rfl rfl (Nat.le_of_ble_eq_true rfl) ⟨Nat.zero_le _, Nat.zero_le _⟩ ?_
  show V G M_X8_isCell X T 0 0 7 [some (rv (8, 99) 135), some (iv x1)] [iv v3, jv (0 : Int64), jv (x1).toInt64] h1
  refine V_iconst (nI 1) 5 rfl ic_1 ?_
  refine V_isub 6 rfl ?_
  refine V_i2l 7 rfl ?_
  obtain ⟨v6, h4, d5, e⟩ := bd2_e e
  refine V_callS (N := M_X8_in) (av := [jv (x1).toInt64, jv (0 : Int64), jv ((v3 - (nI 1))).toInt64]) (st := []) (r := some (iv v6)) (h' := h4) 8 rfl (c_X8_in d5) g_X8_in gs_X8_in lk_RX8_68 ⟨Nat.le_of_ble_eq_true rfl, Nat.le_of_ble_eq_true rfl⟩ rfl (Nat.le_of_ble_eq_true rfl) ⟨Nat.zero_le _, Nat.zero_le _⟩ ?_
  show V G M_X8_isCell X T 0 0 13 [some (rv (8, 99) 135), some (iv x1)] [iv v6] h4
  obtain ⟨g7, e⟩ := gd_e e
  cases e
  exact V_zret 9 rfl (of_decide_eq_true g7) hR rfl
set_option maxHeartbeats 4000000 in
theorem c_X8_isPot {G : kG} {T : List kT} {x1 : Int32} {h : kH} {r0 : Int32} {h0 : kH} (e : p_X8_isPot x1 h = some (r0, h0)) : k_C G M_X8_isPot T [rv (8, 99) 135, iv x1] h (some (iv r0)) h0 := by
  refine k_C_of 0 (by decide +kernel) rfl tb_X8_isPot rfl (fun X hR => ?_)
  show V G M_X8_isPot X T 0 0 0 [some (rv (8, 99) 135), some (iv x1)] [] h
  unfold p_X8_isPot at e
  refine V_iload_n 0 rfl rfl ?_
  refine V_i2l 1 rfl ?_
  refine V_lconst (0 : Int64) 2 rfl rfl ?_
  refine V_aload_n 3 rfl rfl ?_
  refine V_getR 138 4 rfl fr_RX8_17 ⟨Nat.le_of_ble_eq_true rfl, Or.inl (Nat.le_of_ble_eq_true rfl)⟩ rfl ?_
  refine V_iconst (nI 0) 5 rfl ic_0 ?_
  obtain ⟨g1, e⟩ := gd_e e
  refine V_iald 6 rfl g1 ?_
  refine V_iconst (nI 1) 7 rfl ic_1 ?_
  refine V_isub 8 rfl ?_
  refine V_i2l 9 rfl ?_
  obtain ⟨v4, h2, d3, e⟩ := bd2_e e
  refine V_callS (N := M_X8_in) (av := [jv (x1).toInt64, jv (0 : Int64), jv (((h 138 ((nI 0)).toNatClampNeg) - (nI 1))).toInt64]) (st := []) (r := some (iv v4)) (h' := h2) 10 rfl (c_X8_in d3) g_X8_in gs_X8_in lk_RX8_68 ⟨Nat.le_of_ble_eq_true rfl, Nat.le_of_ble_eq_true rfl⟩ rfl (Nat.le_of_ble_eq_true rfl) ⟨Nat.zero_le _, Nat.zero_le _⟩ ?_
  show V G M_X8_isPot X T 0 0 15 [some (rv (8, 99) 135), some (iv x1)] [iv v4] h2
  obtain ⟨g5, e⟩ := gd_e e
  cases e
  exact V_zret 11 rfl (of_decide_eq_true g5) hR rfl
set_option maxHeartbeats 4000000 in
theorem w_X8_copies_2 {G : kG} {X : kX} {T : List kT} {h0 : kH} (hR : k_R G M_X8_copies X T 0 0 none h0) (K2 : Int32 × Int32 × Int32 × kH → Option (kH)) (hK2 : ∀ (x1 : Int32) (x2 : Int32) (x3 : Int32) (h : kH), K2 (x1, x2, x3, h) = some h0 → V G M_X8_copies X T 0 0 2 [some (rv (8, 99) 135), some (iv x1), some (iv x2), some (iv x3)] [] h) (x1 : Int32) (x2 : Int32) (x3 : Int32) (h : kH) (e : p_X8_copies_2 K2 x1 x2 x3 h = some h0) : V G M_X8_copies X T 0 0 2 [some (rv (8, 99) 135), some (iv x1), some (iv x2), some (iv x3)] [] h := by
  unfold p_X8_copies_2 at e
  refine V_iload_n 2 rfl rfl ?_
  refine V_sipush (nI 200) 3 rfl sp_200 ?_
  rcases if_e e with ⟨c4, e⟩ | ⟨c4, e⟩
  · refine V_icmp_ge 39 4 rfl (by decide +kernel) (fun _ => ?_) (fun q => absurd c4 q) 
    cases e
    exact V_vret 23 rfl hR rfl
  · refine V_icmp_ge 39 4 rfl (by decide +kernel) (fun q => absurd q c4) (fun _ => ?_)
    refine V_aload_n 5 rfl rfl ?_
    refine V_getR 143 6 rfl fr_RX8_32 ⟨Nat.le_of_ble_eq_true rfl, Or.inl (Nat.le_of_ble_eq_true rfl)⟩ rfl ?_
    refine V_sipush (nI 200) 7 rfl sp_200 ?_
    refine V_iload_n 8 rfl rfl ?_
    refine V_imul 9 rfl ?_
    refine V_iload_n 10 rfl rfl ?_
    refine V_iadd 11 rfl ?_
    refine V_aload_n 12 rfl rfl ?_
    refine V_getR 143 13 rfl fr_RX8_32 ⟨Nat.le_of_ble_eq_true rfl, Or.inl (Nat.le_of_ble_eq_true rfl)⟩ rfl ?_
    refine V_sipush (nI 200) 14 rfl sp_200 ?_
    refine V_iload_n 15 rfl rfl ?_
    refine V_imul 16 rfl ?_
    refine V_iload_n 17 rfl rfl ?_
    refine V_iadd 18 rfl ?_
    obtain ⟨g1, e⟩ := gd_e e
    refine V_iald 19 rfl g1 ?_
    obtain ⟨g2, e⟩ := gd_e e
    refine V_iast 20 rfl g2 ?_
    refine le_V (P := fun h3 => V G M_X8_copies X T 0 0 33 [some (rv (8, 99) 135), some (iv x1), some (iv x2), some (iv x3)] [] h3) e (fun h3 e => ?_)
    refine V_iinc (x3 + (nI 1)) 21 rfl rfl (inc_1 _) (Nat.le_of_ble_eq_true rfl) rfl ?_
    show V G M_X8_copies X T 0 0 36 [some (rv (8, 99) 135), some (iv x1), some (iv x2), some (iv (x3 + (nI 1)))] [] h3
    refine V_goto 2 22 rfl (by decide +kernel) ?_
    refine V_msk [true, true, true, true] (lc' := [some (rv (8, 99) 135), some (iv x1), some (iv x2), some (iv (x3 + (nI 1)))]) rfl ?_
    exact hK2 x1 x2 (x3 + (nI 1)) h3 e
set_option maxHeartbeats 4000000 in
theorem c_X8_copies {G : kG} {T : List kT} {x1 : Int32} {x2 : Int32} {h : kH} {h0 : kH} (e : p_X8_copies x1 x2 h = some h0) : k_C G M_X8_copies T [rv (8, 99) 135, iv x1, iv x2] h none h0 := by
  refine k_C_of 1 (by decide +kernel) rfl tb_X8_copies rfl (fun X hR => ?_)
  show V G M_X8_copies X T 0 0 0 [some (rv (8, 99) 135), some (iv x1), some (iv x2), none] [] h
  unfold p_X8_copies at e
  refine V_iconst (nI 0) 0 rfl ic_0 ?_
  refine V_istore_n 1 rfl (Nat.le_of_ble_eq_true rfl) rfl ?_
  show V G M_X8_copies X T 0 0 2 [some (rv (8, 99) 135), some (iv x1), some (iv x2), some (iv (nI 0))] [] h
  refine V_msk [true, true, true, true] (lc' := [some (rv (8, 99) 135), some (iv x1), some (iv x2), some (iv (nI 0))]) rfl ?_
  exact fx_e (P := fun s => V G M_X8_copies X T 0 0 2 [some (rv (8, 99) 135), some (iv s.1), some (iv s.2.1), some (iv s.2.2.1)] [] s.2.2.2) (fun K2 hK2 s e => w_X8_copies_2 hR K2 (fun x1 x2 x3 h e => hK2 (x1, x2, x3, h) e) s.1 s.2.1 s.2.2.1 s.2.2.2 e) FU (x1, x2, (nI 0), h) e
set_option maxHeartbeats 4000000 in
theorem c_X8_potAt {G : kG} {T : List kT} {x0 : Int32} {x1 : Int32} {h : kH} {r0 : Int32} {h0 : kH} (e : p_X8_potAt x0 x1 h = some (r0, h0)) : k_C G M_X8_potAt T [iv x0, iv x1] h (some (iv r0)) h0 := by
  refine k_C_of 0 (by decide +kernel) rfl tb_X8_potAt rfl (fun X hR => ?_)
  show V G M_X8_potAt X T 0 0 0 [some (iv x0), some (iv x1)] [] h
  unfold p_X8_potAt at e
  refine V_sipush (nI 200) 0 rfl sp_200 ?_
  refine V_iload_n 1 rfl rfl ?_
  refine V_imul 2 rfl ?_
  refine V_sipush (nI 150) 3 rfl sp_150 ?_
  refine V_iadd 4 rfl ?_
  refine V_bipush (nI 8) 5 rfl bp_8 ?_
  refine V_iload_n 6 rfl rfl ?_
  refine V_imul 7 rfl ?_
  refine V_iadd 8 rfl ?_
  cases e
  exact V_iret 9 rfl hR rfl
set_option maxHeartbeats 4000000 in
theorem c_X8_isWhole {G : kG} {T : List kT} {x1 : Int32} {x2 : Int32} {h : kH} {r0 : Int32} {h0 : kH} (e : p_X8_isWhole x1 x2 h = some (r0, h0)) : k_C G M_X8_isWhole T [rv (8, 99) 135, iv x1, iv x2] h (some (iv r0)) h0 := by
  refine k_C_of 0 (by decide +kernel) rfl tb_X8_isWhole rfl (fun X hR => ?_)
  show V G M_X8_isWhole X T 0 0 0 [some (rv (8, 99) 135), some (iv x1), some (iv x2)] [] h
  unfold p_X8_isWhole at e
  refine V_aload_n 0 rfl rfl ?_
  refine V_getR 143 1 rfl fr_RX8_32 ⟨Nat.le_of_ble_eq_true rfl, Or.inl (Nat.le_of_ble_eq_true rfl)⟩ rfl ?_
  refine V_iload_n 2 rfl rfl ?_
  refine V_iload_n 3 rfl rfl ?_
  obtain ⟨v3, h1, d2, e⟩ := bd2_e e
  refine V_callS (N := M_X8_potAt) (av := [iv x1, iv x2]) (st := [rv (9, 800) 143]) (r := some (iv v3)) (h' := h1) 4 rfl (c_X8_potAt d2) g_X8_potAt gs_X8_potAt lk_RX8_120 ⟨Nat.le_of_ble_eq_true rfl, Nat.le_of_ble_eq_true rfl⟩ rfl (Nat.le_of_ble_eq_true rfl) ⟨Nat.zero_le _, Nat.zero_le _⟩ ?_
  show V G M_X8_isWhole X T 0 0 9 [some (rv (8, 99) 135), some (iv x1), some (iv x2)] [iv v3, rv (9, 800) 143] h1
  refine V_iconst (nI 4) 5 rfl ic_4 ?_
  refine V_iadd 6 rfl ?_
  obtain ⟨g4, e⟩ := gd_e e
  refine V_iald 7 rfl g4 ?_
  rcases if_e e with ⟨c8, e⟩ | ⟨c8, e⟩
  · refine V_if_ne 19 8 rfl (by decide +kernel) (fun q => absurd c8 q) (fun _ => ?_)
    refine V_iconst (nI 1) 9 rfl ic_1 ?_
    refine V_goto 20 10 rfl (by decide +kernel) ?_
    cases e
    exact V_zret 12 rfl z_1 hR rfl
  · refine V_if_ne 19 8 rfl (by decide +kernel) (fun _ => ?_) (fun q => absurd q c8) 
    refine V_iconst (nI 0) 11 rfl ic_0 ?_
    cases e
    exact V_zret 12 rfl z_0 hR rfl
set_option maxHeartbeats 4000000 in
theorem c_X8_lossOf {G : kG} {T : List kT} {x1 : Int32} {x2 : Int32} {h : kH} {r0 : Int32} {h0 : kH} (e : p_X8_lossOf x1 x2 h = some (r0, h0)) : k_C G M_X8_lossOf T [rv (8, 99) 135, iv x1, iv x2] h (some (iv r0)) h0 := by
  refine k_C_of 1 (by decide +kernel) rfl tb_X8_lossOf rfl (fun X hR => ?_)
  show V G M_X8_lossOf X T 0 0 0 [some (rv (8, 99) 135), some (iv x1), some (iv x2), none] [] h
  unfold p_X8_lossOf at e
  refine V_iload_n 0 rfl rfl ?_
  refine V_iload_n 1 rfl rfl ?_
  obtain ⟨v3, h1, d2, e⟩ := bd2_e e
  refine V_callS (N := M_X8_potAt) (av := [iv x1, iv x2]) (st := []) (r := some (iv v3)) (h' := h1) 2 rfl (c_X8_potAt d2) g_X8_potAt gs_X8_potAt lk_RX8_120 ⟨Nat.le_of_ble_eq_true rfl, Nat.le_of_ble_eq_true rfl⟩ rfl (Nat.le_of_ble_eq_true rfl) ⟨Nat.zero_le _, Nat.zero_le _⟩ ?_
  show V G M_X8_lossOf X T 0 0 5 [some (rv (8, 99) 135), some (iv x1), some (iv x2), none] [iv v3] h1
  refine V_istore_n 3 rfl (Nat.le_of_ble_eq_true rfl) rfl ?_
  show V G M_X8_lossOf X T 0 0 6 [some (rv (8, 99) 135), some (iv x1), some (iv x2), some (iv v3)] [] h1
  refine V_aload_n 4 rfl rfl ?_
  refine V_getR 143 5 rfl fr_RX8_32 ⟨Nat.le_of_ble_eq_true rfl, Or.inl (Nat.le_of_ble_eq_true rfl)⟩ rfl ?_
  refine V_iload_n 6 rfl rfl ?_
  refine V_iconst (nI 4) 7 rfl ic_4 ?_
  refine V_iadd 8 rfl ?_
  obtain ⟨g4, e⟩ := gd_e e
  refine V_iald 9 rfl g4 ?_
  rcases if_e e with ⟨c10, e⟩ | ⟨c10, e⟩
  · refine V_if_le 28 10 rfl (by decide +kernel) (fun _ => ?_) (fun q => absurd c10 q) 
    refine V_aload_n 18 rfl rfl ?_
    refine V_getR 143 19 rfl fr_RX8_32 ⟨Nat.le_of_ble_eq_true rfl, Or.inl (Nat.le_of_ble_eq_true rfl)⟩ rfl ?_
    refine V_iload_n 20 rfl rfl ?_
    refine V_iconst (nI 3) 21 rfl ic_3 ?_
    refine V_iadd 22 rfl ?_
    obtain ⟨g5, e⟩ := gd_e e
    refine V_iald 23 rfl g5 ?_
    refine V_aload_n 24 rfl rfl ?_
    refine V_getR 137 25 rfl fr_RX8_13 ⟨Nat.le_of_ble_eq_true rfl, Or.inl (Nat.le_of_ble_eq_true rfl)⟩ rfl ?_
    refine V_iconst (nI 4) 26 rfl ic_4 ?_
    obtain ⟨g6, e⟩ := gd_e e
    refine V_iald 27 rfl g6 ?_
    rcases if_e e with ⟨c28, e⟩ | ⟨c28, e⟩
    · refine V_icmp_lt 49 28 rfl (by decide +kernel) (fun _ => ?_) (fun q => absurd c28 q) 
      refine V_iconst (nI 5) 31 rfl ic_5 ?_
      cases e
      exact V_iret 32 rfl hR rfl
    · refine V_icmp_lt 49 28 rfl (by decide +kernel) (fun q => absurd q c28) (fun _ => ?_)
      refine V_iconst (nI 0) 29 rfl ic_0 ?_
      refine V_goto 50 30 rfl (by decide +kernel) ?_
      cases e
      exact V_iret 32 rfl hR rfl
  · refine V_if_le 28 10 rfl (by decide +kernel) (fun q => absurd q c10) (fun _ => ?_)
    refine V_aload_n 11 rfl rfl ?_
    refine V_getR 143 12 rfl fr_RX8_32 ⟨Nat.le_of_ble_eq_true rfl, Or.inl (Nat.le_of_ble_eq_true rfl)⟩ rfl ?_
    refine V_iload_n 13 rfl rfl ?_
    refine V_iconst (nI 4) 14 rfl ic_4 ?_
    refine V_iadd 15 rfl ?_
    refine V_iald 16 rfl g4 ?_
    refine V_goto 50 17 rfl (by decide +kernel) ?_
    cases e
    exact V_iret 32 rfl hR rfl
set_option maxHeartbeats 4000000 in
theorem w_X8_cell_41 {G : kG} {X : kX} {T : List kT} {r0 : Int32} {h0 : kH} (hR : k_R G M_X8_cell X T 0 0 (some (iv r0)) h0) (K41 : Int32 × Int32 × kH → Option (Int32 × kH)) (hK41 : ∀ (x1 : Int32) (x3 : Int32) (h : kH), K41 (x1, x3, h) = some (r0, h0) → V G M_X8_cell X T 0 0 41 [some (rv (8, 99) 135), some (iv x1), none, some (iv x3)] [] h) (x1 : Int32) (x3 : Int32) (h : kH) (e : p_X8_cell_41 K41 x1 x3 h = some (r0, h0)) : V G M_X8_cell X T 0 0 41 [some (rv (8, 99) 135), some (iv x1), none, some (iv x3)] [] h := by
  unfold p_X8_cell_41 at e
  refine V_iload_n 26 rfl rfl ?_
  refine V_aload_n 27 rfl rfl ?_
  refine V_getR 138 28 rfl fr_RX8_17 ⟨Nat.le_of_ble_eq_true rfl, Or.inl (Nat.le_of_ble_eq_true rfl)⟩ rfl ?_
  refine V_iconst (nI 0) 29 rfl ic_0 ?_
  obtain ⟨g7, e⟩ := gd_e e
  refine V_iald 30 rfl g7 ?_
  rcases if_e e with ⟨c31, e⟩ | ⟨c31, e⟩
  · refine V_icmp_ge 84 31 rfl (by decide +kernel) (fun _ => ?_) (fun q => absurd c31 q) 
    refine V_bipush (-4 : Int32) 51 rfl bp_m4 ?_
    cases e
    exact V_iret 52 rfl hR rfl
  · refine V_icmp_ge 84 31 rfl (by decide +kernel) (fun q => absurd q c31) (fun _ => ?_)
    refine V_aload_n 32 rfl rfl ?_
    refine V_iconst (nI 0) 33 rfl ic_0 ?_
    refine V_iload_n 34 rfl rfl ?_
    obtain ⟨v10, h8, d9, e⟩ := bd2_e e
    refine V_callV (N := M_X8_isWhole) (av := [iv (nI 0), iv x3]) (st := []) (r := some (iv v10)) (h' := h8) 35 rfl (c_X8_isWhole d9) g_X8_isWhole gv_X8_isWhole lk_RX8_129 ⟨Nat.le_of_ble_eq_true rfl, Nat.le_of_ble_eq_true rfl⟩ rfl rfl (Nat.le_of_ble_eq_true rfl) ⟨Nat.zero_le _, Nat.zero_le _⟩ ?_
    show V G M_X8_cell X T 0 0 57 [some (rv (8, 99) 135), some (iv x1), none, some (iv x3)] [iv v10] h8
    rcases if_e e with ⟨c36, e⟩ | ⟨c36, e⟩
    · refine V_if_eq 78 36 rfl (by decide +kernel) (fun _ => ?_) (fun q => absurd c36 q) 
      refine V_iinc (x3 + (nI 1)) 49 rfl rfl (inc_1 _) (Nat.le_of_ble_eq_true rfl) rfl ?_
      show V G M_X8_cell X T 0 0 81 [some (rv (8, 99) 135), some (iv x1), none, some (iv (x3 + (nI 1)))] [] h8
      refine V_goto 41 50 rfl (by decide +kernel) ?_
      refine V_msk [true, true, false, true] (lc' := [some (rv (8, 99) 135), some (iv x1), none, some (iv (x3 + (nI 1)))]) rfl ?_
      exact hK41 x1 (x3 + (nI 1)) h8 e
    · refine V_if_eq 78 36 rfl (by decide +kernel) (fun q => absurd q c36) (fun _ => ?_)
      refine V_aload_n 37 rfl rfl ?_
      refine V_getR 143 38 rfl fr_RX8_32 ⟨Nat.le_of_ble_eq_true rfl, Or.inl (Nat.le_of_ble_eq_true rfl)⟩ rfl ?_
      refine V_iconst (nI 0) 39 rfl ic_0 ?_
      refine V_iload_n 40 rfl rfl ?_
      obtain ⟨v13, h11, d12, e⟩ := bd2_e e
      refine V_callS (N := M_X8_potAt) (av := [iv (nI 0), iv x3]) (st := [rv (9, 800) 143]) (r := some (iv v13)) (h' := h11) 41 rfl (c_X8_potAt d12) g_X8_potAt gs_X8_potAt lk_RX8_120 ⟨Nat.le_of_ble_eq_true rfl, Nat.le_of_ble_eq_true rfl⟩ rfl (Nat.le_of_ble_eq_true rfl) ⟨Nat.zero_le _, Nat.zero_le _⟩ ?_
      show V G M_X8_cell X T 0 0 69 [some (rv (8, 99) 135), some (iv x1), none, some (iv x3)] [iv v13, rv (9, 800) 143] h11
      refine V_iconst (nI 0) 42 rfl ic_0 ?_
      refine V_iadd 43 rfl ?_
      obtain ⟨g14, e⟩ := gd_e e
      refine V_iald 44 rfl g14 ?_
      refine V_iload_n 45 rfl rfl ?_
      rcases if_e e with ⟨c46, e⟩ | ⟨c46, e⟩
      · refine V_icmp_ne 78 46 rfl (by decide +kernel) (fun q => absurd c46 q) (fun _ => ?_)
        refine V_iload_n 47 rfl rfl ?_
        cases e
        exact V_iret 48 rfl hR rfl
      · refine V_icmp_ne 78 46 rfl (by decide +kernel) (fun _ => ?_) (fun q => absurd q c46) 
        refine V_iinc (x3 + (nI 1)) 49 rfl rfl (inc_1 _) (Nat.le_of_ble_eq_true rfl) rfl ?_
        show V G M_X8_cell X T 0 0 81 [some (rv (8, 99) 135), some (iv x1), none, some (iv (x3 + (nI 1)))] [] h11
        refine V_goto 41 50 rfl (by decide +kernel) ?_
        refine V_msk [true, true, false, true] (lc' := [some (rv (8, 99) 135), some (iv x1), none, some (iv (x3 + (nI 1)))]) rfl ?_
        exact hK41 x1 (x3 + (nI 1)) h11 e
set_option maxHeartbeats 4000000 in
theorem c_X8_cell {G : kG} {T : List kT} {x1 : Int32} {x2 : Int32} {h : kH} {r0 : Int32} {h0 : kH} (e : p_X8_cell x1 x2 h = some (r0, h0)) : k_C G M_X8_cell T [rv (8, 99) 135, iv x1, iv x2] h (some (iv r0)) h0 := by
  refine k_C_of 1 (by decide +kernel) rfl tb_X8_cell rfl (fun X hR => ?_)
  show V G M_X8_cell X T 0 0 0 [some (rv (8, 99) 135), some (iv x1), some (iv x2), none] [] h
  unfold p_X8_cell at e
  refine V_aload_n 0 rfl rfl ?_
  refine V_iload_n 1 rfl rfl ?_
  obtain ⟨v3, h1, d2, e⟩ := bd2_e e
  refine V_callV (N := M_X8_isCell) (av := [iv x1]) (st := []) (r := some (iv v3)) (h' := h1) 2 rfl (c_X8_isCell d2) g_X8_isCell gv_X8_isCell lk_RX8_124 ⟨Nat.le_of_ble_eq_true rfl, Nat.le_of_ble_eq_true rfl⟩ rfl rfl (Nat.le_of_ble_eq_true rfl) ⟨Nat.zero_le _, Nat.zero_le _⟩ ?_
  show V G M_X8_cell X T 0 0 5 [some (rv (8, 99) 135), some (iv x1), some (iv x2), none] [iv v3] h1
  rcases if_e e with ⟨c3, e⟩ | ⟨c3, e⟩
  · refine V_if_eq 20 3 rfl (by decide +kernel) (fun _ => ?_) (fun q => absurd c3 q) 
    refine V_iconst (-1 : Int32) 10 rfl ic_m1 ?_
    cases e
    exact V_iret 11 rfl hR rfl
  · refine V_if_eq 20 3 rfl (by decide +kernel) (fun q => absurd q c3) (fun _ => ?_)
    refine V_iload_n 4 rfl rfl ?_
    refine V_i2l 5 rfl ?_
    refine V_lconst (0 : Int64) 6 rfl rfl ?_
    refine V_ldc2 (5 : Int64) 7 rfl kl_RX8_127 ?_
    obtain ⟨v6, h4, d5, e⟩ := bd2_e e
    refine V_callS (N := M_X8_in) (av := [jv (x2).toInt64, jv (0 : Int64), jv (5 : Int64)]) (st := []) (r := some (iv v6)) (h' := h4) 8 rfl (c_X8_in d5) g_X8_in gs_X8_in lk_RX8_68 ⟨Nat.le_of_ble_eq_true rfl, Nat.le_of_ble_eq_true rfl⟩ rfl (Nat.le_of_ble_eq_true rfl) ⟨Nat.zero_le _, Nat.zero_le _⟩ ?_
    show V G M_X8_cell X T 0 0 17 [some (rv (8, 99) 135), some (iv x1), some (iv x2), none] [iv v6] h4
    rcases if_e e with ⟨c9, e⟩ | ⟨c9, e⟩
    · refine V_if_ne 22 9 rfl (by decide +kernel) (fun q => absurd c9 q) (fun _ => ?_)
      refine V_iconst (-1 : Int32) 10 rfl ic_m1 ?_
      cases e
      exact V_iret 11 rfl hR rfl
    · refine V_if_ne 22 9 rfl (by decide +kernel) (fun _ => ?_) (fun q => absurd q c9) 
      refine V_iload_n 12 rfl rfl ?_
      refine V_iconst (nI 5) 13 rfl ic_5 ?_
      rcases if_e e with ⟨c14, e⟩ | ⟨c14, e⟩
      · refine V_icmp_ge 39 14 rfl (by decide +kernel) (fun _ => ?_) (fun q => absurd c14 q) 
        refine V_iconst (nI 0) 24 rfl ic_0 ?_
        refine V_istore_n 25 rfl (Nat.le_of_ble_eq_true rfl) rfl ?_
        show V G M_X8_cell X T 0 0 41 [some (rv (8, 99) 135), some (iv x1), some (iv x2), some (iv (nI 0))] [] h4
        refine V_msk [true, true, false, true] (lc' := [some (rv (8, 99) 135), some (iv x1), none, some (iv (nI 0))]) rfl ?_
        exact fx_e (P := fun s => V G M_X8_cell X T 0 0 41 [some (rv (8, 99) 135), some (iv s.1), none, some (iv s.2.1)] [] s.2.2) (fun K41 hK41 s e => w_X8_cell_41 hR K41 (fun x1 x3 h e => hK41 (x1, x3, h) e) s.1 s.2.1 s.2.2 e) FU (x1, (nI 0), h4) e
      · refine V_icmp_ge 39 14 rfl (by decide +kernel) (fun q => absurd q c14) (fun _ => ?_)
        refine V_aload_n 15 rfl rfl ?_
        refine V_getR 143 16 rfl fr_RX8_32 ⟨Nat.le_of_ble_eq_true rfl, Or.inl (Nat.le_of_ble_eq_true rfl)⟩ rfl ?_
        refine V_bipush (nI 30) 17 rfl bp_30 ?_
        refine V_iload_n 18 rfl rfl ?_
        refine V_imul 19 rfl ?_
        refine V_iload_n 20 rfl rfl ?_
        refine V_iadd 21 rfl ?_
        obtain ⟨g15, e⟩ := gd_e e
        refine V_iald 22 rfl g15 ?_
        cases e
        exact V_iret 23 rfl hR rfl
set_option maxHeartbeats 4000000 in
theorem c_X8_pot {G : kG} {T : List kT} {x1 : Int32} {x2 : Int32} {h : kH} {r0 : Int32} {h0 : kH} (e : p_X8_pot x1 x2 h = some (r0, h0)) : k_C G M_X8_pot T [rv (8, 99) 135, iv x1, iv x2] h (some (iv r0)) h0 := by
  refine k_C_of 0 (by decide +kernel) rfl tb_X8_pot rfl (fun X hR => ?_)
  show V G M_X8_pot X T 0 0 0 [some (rv (8, 99) 135), some (iv x1), some (iv x2)] [] h
  unfold p_X8_pot at e
  refine V_aload_n 0 rfl rfl ?_
  refine V_iload_n 1 rfl rfl ?_
  obtain ⟨v3, h1, d2, e⟩ := bd2_e e
  refine V_callV (N := M_X8_isPot) (av := [iv x1]) (st := []) (r := some (iv v3)) (h' := h1) 2 rfl (c_X8_isPot d2) g_X8_isPot gv_X8_isPot lk_RX8_133 ⟨Nat.le_of_ble_eq_true rfl, Nat.le_of_ble_eq_true rfl⟩ rfl rfl (Nat.le_of_ble_eq_true rfl) ⟨Nat.zero_le _, Nat.zero_le _⟩ ?_
  show V G M_X8_pot X T 0 0 5 [some (rv (8, 99) 135), some (iv x1), some (iv x2)] [iv v3] h1
  rcases if_e e with ⟨c3, e⟩ | ⟨c3, e⟩
  · refine V_if_eq 20 3 rfl (by decide +kernel) (fun _ => ?_) (fun q => absurd c3 q) 
    refine V_iconst (-1 : Int32) 10 rfl ic_m1 ?_
    cases e
    exact V_iret 11 rfl hR rfl
  · refine V_if_eq 20 3 rfl (by decide +kernel) (fun q => absurd q c3) (fun _ => ?_)
    refine V_iload_n 4 rfl rfl ?_
    refine V_i2l 5 rfl ?_
    refine V_lconst (0 : Int64) 6 rfl rfl ?_
    refine V_ldc2 (5 : Int64) 7 rfl kl_RX8_127 ?_
    obtain ⟨v6, h4, d5, e⟩ := bd2_e e
    refine V_callS (N := M_X8_in) (av := [jv (x2).toInt64, jv (0 : Int64), jv (5 : Int64)]) (st := []) (r := some (iv v6)) (h' := h4) 8 rfl (c_X8_in d5) g_X8_in gs_X8_in lk_RX8_68 ⟨Nat.le_of_ble_eq_true rfl, Nat.le_of_ble_eq_true rfl⟩ rfl (Nat.le_of_ble_eq_true rfl) ⟨Nat.zero_le _, Nat.zero_le _⟩ ?_
    show V G M_X8_pot X T 0 0 17 [some (rv (8, 99) 135), some (iv x1), some (iv x2)] [iv v6] h4
    rcases if_e e with ⟨c9, e⟩ | ⟨c9, e⟩
    · refine V_if_ne 22 9 rfl (by decide +kernel) (fun q => absurd c9 q) (fun _ => ?_)
      refine V_iconst (-1 : Int32) 10 rfl ic_m1 ?_
      cases e
      exact V_iret 11 rfl hR rfl
    · refine V_if_ne 22 9 rfl (by decide +kernel) (fun _ => ?_) (fun q => absurd q c9) 
      refine V_iload_n 12 rfl rfl ?_
      refine V_iconst (nI 4) 13 rfl ic_4 ?_
      rcases if_e e with ⟨c14, e⟩ | ⟨c14, e⟩
      · refine V_icmp_ne 36 14 rfl (by decide +kernel) (fun q => absurd c14 q) (fun _ => ?_)
        refine V_aload_n 15 rfl rfl ?_
        refine V_iconst (nI 0) 16 rfl ic_0 ?_
        refine V_iload_n 17 rfl rfl ?_
        obtain ⟨v13, h11, d12, e⟩ := bd2_e e
        refine V_callV (N := M_X8_lossOf) (av := [iv (nI 0), iv x1]) (st := []) (r := some (iv v13)) (h' := h11) 18 rfl (c_X8_lossOf d12) g_X8_lossOf gv_X8_lossOf lk_RX8_136 ⟨Nat.le_of_ble_eq_true rfl, Nat.le_of_ble_eq_true rfl⟩ rfl rfl (Nat.le_of_ble_eq_true rfl) ⟨Nat.zero_le _, Nat.zero_le _⟩ ?_
        show V G M_X8_pot X T 0 0 33 [some (rv (8, 99) 135), some (iv x1), some (iv x2)] [iv v13] h11
        refine V_goto 48 19 rfl (by decide +kernel) ?_
        cases e
        exact V_iret 28 rfl hR rfl
      · refine V_icmp_ne 36 14 rfl (by decide +kernel) (fun _ => ?_) (fun q => absurd q c14) 
        refine V_aload_n 20 rfl rfl ?_
        refine V_getR 143 21 rfl fr_RX8_32 ⟨Nat.le_of_ble_eq_true rfl, Or.inl (Nat.le_of_ble_eq_true rfl)⟩ rfl ?_
        refine V_iconst (nI 0) 22 rfl ic_0 ?_
        refine V_iload_n 23 rfl rfl ?_
        obtain ⟨v9, h7, d8, e⟩ := bd2_e e
        refine V_callS (N := M_X8_potAt) (av := [iv (nI 0), iv x1]) (st := [rv (9, 800) 143]) (r := some (iv v9)) (h' := h7) 24 rfl (c_X8_potAt d8) g_X8_potAt gs_X8_potAt lk_RX8_120 ⟨Nat.le_of_ble_eq_true rfl, Nat.le_of_ble_eq_true rfl⟩ rfl (Nat.le_of_ble_eq_true rfl) ⟨Nat.zero_le _, Nat.zero_le _⟩ ?_
        show V G M_X8_pot X T 0 0 45 [some (rv (8, 99) 135), some (iv x1), some (iv x2)] [iv v9, rv (9, 800) 143] h7
        refine V_iload_n 25 rfl rfl ?_
        refine V_iadd 26 rfl ?_
        obtain ⟨g10, e⟩ := gd_e e
        refine V_iald 27 rfl g10 ?_
        cases e
        exact V_iret 28 rfl hR rfl
set_option maxHeartbeats 4000000 in
theorem w_X8_burns_91 {G : kG} {X : kX} {T : List kT} {h0 : kH} (hR : k_R G M_X8_burns X T 0 0 none h0) (K8 : Int32 × Int32 × kH → Option (kH)) (hK8 : ∀ (x2 : Int32) (x3 : Int32) (h : kH), K8 (x2, x3, h) = some h0 → V G M_X8_burns X T 0 0 8 [some (rv (8, 99) 135), none, some (iv x2), some (iv x3), none, none] [] h) (x2 : Int32) (x3 : Int32) (x4 : Int32) (s0 : Int32) (h : kH) (e : p_X8_burns_91 K8 x2 x3 x4 s0 h = some h0) : V G M_X8_burns X T 0 0 91 [some (rv (8, 99) 135), none, some (iv x2), some (iv x3), some (iv x4), none] [iv s0] h := by
  unfold p_X8_burns_91 at e
  refine V_istore 57 rfl (Nat.le_of_ble_eq_true rfl) rfl ?_
  show V G M_X8_burns X T 0 0 93 [some (rv (8, 99) 135), none, some (iv x2), some (iv x3), some (iv x4), some (iv s0)] [] h
  refine V_aload_n 58 rfl rfl ?_
  refine V_getR 143 59 rfl fr_RX8_32 ⟨Nat.le_of_ble_eq_true rfl, Or.inl (Nat.le_of_ble_eq_true rfl)⟩ rfl ?_
  refine V_iload_n 60 rfl rfl ?_
  refine V_bipush (nI 30) 61 rfl bp_30 ?_
  refine V_iadd 62 rfl ?_
  refine V_iload_n 63 rfl rfl ?_
  refine V_iadd 64 rfl ?_
  refine V_dup2 65 rfl nj_i nj_r ?_
  obtain ⟨g10, e⟩ := gd_e e
  refine V_iald 66 rfl g10 ?_
  refine V_iload 67 rfl rfl ?_
  refine V_isub 68 rfl ?_
  refine V_iast 69 rfl g10 ?_
  refine le_V (P := fun h11 => V G M_X8_burns X T 0 0 109 [some (rv (8, 99) 135), none, some (iv x2), some (iv x3), some (iv x4), some (iv s0)] [] h11) e (fun h11 e => ?_)
  refine V_aload_n 70 rfl rfl ?_
  refine V_getR 143 71 rfl fr_RX8_32 ⟨Nat.le_of_ble_eq_true rfl, Or.inl (Nat.le_of_ble_eq_true rfl)⟩ rfl ?_
  refine V_iload_n 72 rfl rfl ?_
  refine V_iload_n 73 rfl rfl ?_
  refine V_iadd 74 rfl ?_
  refine V_dup2 75 rfl nj_i nj_r ?_
  obtain ⟨g12, e⟩ := gd_e e
  refine V_iald 76 rfl g12 ?_
  refine V_iload 77 rfl rfl ?_
  refine V_aload_n 78 rfl rfl ?_
  refine V_getR 137 79 rfl fr_RX8_13 ⟨Nat.le_of_ble_eq_true rfl, Or.inl (Nat.le_of_ble_eq_true rfl)⟩ rfl ?_
  refine V_bipush (nI 11) 80 rfl bp_11 ?_
  refine V_iload 81 rfl rfl ?_
  refine V_iadd 82 rfl ?_
  obtain ⟨g13, e⟩ := gd_e e
  refine V_iald 83 rfl g13 ?_
  refine V_imul 84 rfl ?_
  refine V_iadd 85 rfl ?_
  refine V_iast 86 rfl g12 ?_
  refine le_V (P := fun h14 => V G M_X8_burns X T 0 0 133 [some (rv (8, 99) 135), none, some (iv x2), some (iv x3), some (iv x4), some (iv s0)] [] h14) e (fun h14 e => ?_)
  refine V_aload_n 87 rfl rfl ?_
  refine V_getR 145 88 rfl fr_RX8_38 ⟨Nat.le_of_ble_eq_true rfl, Or.inl (Nat.le_of_ble_eq_true rfl)⟩ rfl ?_
  refine V_iload_n 89 rfl rfl ?_
  refine V_iconst (nI 0) 90 rfl ic_0 ?_
  obtain ⟨g15, e⟩ := gd_e e
  refine V_iast 91 rfl g15 ?_
  refine le_V (P := fun h16 => V G M_X8_burns X T 0 0 140 [some (rv (8, 99) 135), none, some (iv x2), some (iv x3), some (iv x4), some (iv s0)] [] h16) e (fun h16 e => ?_)
  refine V_iinc (x3 + (nI 1)) 92 rfl rfl (inc_1 _) (Nat.le_of_ble_eq_true rfl) rfl ?_
  show V G M_X8_burns X T 0 0 143 [some (rv (8, 99) 135), none, some (iv x2), some (iv (x3 + (nI 1))), some (iv x4), some (iv s0)] [] h16
  refine V_goto 8 93 rfl (by decide +kernel) ?_
  refine V_msk [true, false, true, true, false, false] (lc' := [some (rv (8, 99) 135), none, some (iv x2), some (iv (x3 + (nI 1))), none, none]) rfl ?_
  exact hK8 x2 (x3 + (nI 1)) h16 e
set_option maxHeartbeats 4000000 in
theorem w_X8_burns_57 {G : kG} {X : kX} {T : List kT} {h0 : kH} (hR : k_R G M_X8_burns X T 0 0 none h0) (K8 : Int32 × Int32 × kH → Option (kH)) (hK8 : ∀ (x2 : Int32) (x3 : Int32) (h : kH), K8 (x2, x3, h) = some h0 → V G M_X8_burns X T 0 0 8 [some (rv (8, 99) 135), none, some (iv x2), some (iv x3), none, none] [] h) (x2 : Int32) (x3 : Int32) (x4 : Int32) (s0 : Int32) (h : kH) (e : p_X8_burns_57 K8 x2 x3 x4 s0 h = some h0) : V G M_X8_burns X T 0 0 57 [some (rv (8, 99) 135), none, some (iv x2), some (iv x3), some (iv x4), none] [iv s0] h := by
  unfold p_X8_burns_57 at e
  refine V_istore 36 rfl (Nat.le_of_ble_eq_true rfl) rfl ?_
  show V G M_X8_burns X T 0 0 59 [some (rv (8, 99) 135), none, some (iv x2), some (iv x3), some (iv x4), some (iv s0)] [] h
  refine V_iload 37 rfl rfl ?_
  refine V_aload_n 38 rfl rfl ?_
  refine V_getR 143 39 rfl fr_RX8_32 ⟨Nat.le_of_ble_eq_true rfl, Or.inl (Nat.le_of_ble_eq_true rfl)⟩ rfl ?_
  refine V_iload_n 40 rfl rfl ?_
  refine V_bipush (nI 30) 41 rfl bp_30 ?_
  refine V_iadd 42 rfl ?_
  refine V_iload_n 43 rfl rfl ?_
  refine V_iadd 44 rfl ?_
  obtain ⟨g9, e⟩ := gd_e e
  refine V_iald 45 rfl g9 ?_
  rcases if_e e with ⟨c46, e⟩ | ⟨c46, e⟩
  · refine V_icmp_le 89 46 rfl (by decide +kernel) (fun _ => ?_) (fun q => absurd c46 q) 
    refine V_iload 56 rfl rfl ?_
    refine V_msk [true, false, true, true, true, false] (lc' := [some (rv (8, 99) 135), none, some (iv x2), some (iv x3), some (iv x4), none]) rfl ?_
    exact w_X8_burns_91 hR K8 hK8 x2 x3 x4 s0 h e
  · refine V_icmp_le 89 46 rfl (by decide +kernel) (fun q => absurd q c46) (fun _ => ?_)
    refine V_aload_n 47 rfl rfl ?_
    refine V_getR 143 48 rfl fr_RX8_32 ⟨Nat.le_of_ble_eq_true rfl, Or.inl (Nat.le_of_ble_eq_true rfl)⟩ rfl ?_
    refine V_iload_n 49 rfl rfl ?_
    refine V_bipush (nI 30) 50 rfl bp_30 ?_
    refine V_iadd 51 rfl ?_
    refine V_iload_n 52 rfl rfl ?_
    refine V_iadd 53 rfl ?_
    refine V_iald 54 rfl g9 ?_
    refine V_goto 91 55 rfl (by decide +kernel) ?_
    refine V_msk [true, false, true, true, true, false] (lc' := [some (rv (8, 99) 135), none, some (iv x2), some (iv x3), some (iv x4), none]) rfl ?_
    exact w_X8_burns_91 hR K8 hK8 x2 x3 x4 (h 143 (((x2 + (nI 30)) + x3)).toNatClampNeg) h e
set_option maxHeartbeats 4000000 in
theorem w_X8_burns_8 {G : kG} {X : kX} {T : List kT} {h0 : kH} (hR : k_R G M_X8_burns X T 0 0 none h0) (K8 : Int32 × Int32 × kH → Option (kH)) (hK8 : ∀ (x2 : Int32) (x3 : Int32) (h : kH), K8 (x2, x3, h) = some h0 → V G M_X8_burns X T 0 0 8 [some (rv (8, 99) 135), none, some (iv x2), some (iv x3), none, none] [] h) (x2 : Int32) (x3 : Int32) (h : kH) (e : p_X8_burns_8 K8 x2 x3 h = some h0) : V G M_X8_burns X T 0 0 8 [some (rv (8, 99) 135), none, some (iv x2), some (iv x3), none, none] [] h := by
  unfold p_X8_burns_8 at e
  refine V_iload_n 6 rfl rfl ?_
  refine V_aload_n 7 rfl rfl ?_
  obtain ⟨v4, h2, d3, e⟩ := bd2_e e
  refine V_callV (N := M_X8_cells) (av := []) (st := [iv x3]) (r := some (iv v4)) (h' := h2) 8 rfl (c_X8_cells d3) g_X8_cells gv_X8_cells lk_RX8_104 ⟨Nat.le_of_ble_eq_true rfl, Nat.le_of_ble_eq_true rfl⟩ rfl rfl (Nat.le_of_ble_eq_true rfl) ⟨Nat.zero_le _, Nat.zero_le _⟩ ?_
  show V G M_X8_burns X T 0 0 13 [some (rv (8, 99) 135), none, some (iv x2), some (iv x3), none, none] [iv v4, iv x3] h2
  rcases if_e e with ⟨c9, e⟩ | ⟨c9, e⟩
  · refine V_icmp_ge 146 9 rfl (by decide +kernel) (fun _ => ?_) (fun q => absurd c9 q) 
    cases e
    exact V_vret 94 rfl hR rfl
  · refine V_icmp_ge 146 9 rfl (by decide +kernel) (fun q => absurd q c9) (fun _ => ?_)
    refine V_aload_n 10 rfl rfl ?_
    refine V_getR 143 11 rfl fr_RX8_32 ⟨Nat.le_of_ble_eq_true rfl, Or.inl (Nat.le_of_ble_eq_true rfl)⟩ rfl ?_
    refine V_iload_n 12 rfl rfl ?_
    refine V_bipush (nI 60) 13 rfl bp_60 ?_
    refine V_iadd 14 rfl ?_
    refine V_iload_n 15 rfl rfl ?_
    refine V_iadd 16 rfl ?_
    obtain ⟨g5, e⟩ := gd_e e
    refine V_iald 17 rfl g5 ?_
    refine V_istore 18 rfl (Nat.le_of_ble_eq_true rfl) rfl ?_
    refine le_V (P := fun v6 => V G M_X8_burns X T 0 0 29 [some (rv (8, 99) 135), none, some (iv x2), some (iv x3), some (iv v6), none] [] h2) e (fun v6 e => ?_)
    refine V_aload_n 19 rfl rfl ?_
    refine V_getR 143 20 rfl fr_RX8_32 ⟨Nat.le_of_ble_eq_true rfl, Or.inl (Nat.le_of_ble_eq_true rfl)⟩ rfl ?_
    refine V_iload_n 21 rfl rfl ?_
    refine V_bipush (nI 90) 22 rfl bp_90 ?_
    refine V_iadd 23 rfl ?_
    refine V_iload_n 24 rfl rfl ?_
    refine V_iadd 25 rfl ?_
    obtain ⟨g7, e⟩ := gd_e e
    refine V_iald 26 rfl g7 ?_
    rcases if_e e with ⟨c27, e⟩ | ⟨c27, e⟩
    · refine V_if_ne 47 27 rfl (by decide +kernel) (fun q => absurd c27 q) (fun _ => ?_)
      refine V_iconst (nI 0) 28 rfl ic_0 ?_
      refine V_goto 57 29 rfl (by decide +kernel) ?_
      refine V_msk [true, false, true, true, true, false] (lc' := [some (rv (8, 99) 135), none, some (iv x2), some (iv x3), some (iv v6), none]) rfl ?_
      exact w_X8_burns_57 hR K8 hK8 x2 x3 v6 (nI 0) h2 e
    · refine V_if_ne 47 27 rfl (by decide +kernel) (fun _ => ?_) (fun q => absurd q c27) 
      refine V_aload_n 30 rfl rfl ?_
      refine V_getR 137 31 rfl fr_RX8_13 ⟨Nat.le_of_ble_eq_true rfl, Or.inl (Nat.le_of_ble_eq_true rfl)⟩ rfl ?_
      refine V_bipush (nI 8) 32 rfl bp_8 ?_
      refine V_iload 33 rfl rfl ?_
      refine V_iadd 34 rfl ?_
      obtain ⟨g8, e⟩ := gd_e e
      refine V_iald 35 rfl g8 ?_
      refine V_msk [true, false, true, true, true, false] (lc' := [some (rv (8, 99) 135), none, some (iv x2), some (iv x3), some (iv v6), none]) rfl ?_
      exact w_X8_burns_57 hR K8 hK8 x2 x3 v6 (h2 137 (((nI 8) + v6)).toNatClampNeg) h2 e
set_option maxHeartbeats 4000000 in
theorem c_X8_burns {G : kG} {T : List kT} {x1 : Int32} {h : kH} {h0 : kH} (e : p_X8_burns x1 h = some h0) : k_C G M_X8_burns T [rv (8, 99) 135, iv x1] h none h0 := by
  refine k_C_of 4 (by decide +kernel) rfl tb_X8_burns rfl (fun X hR => ?_)
  show V G M_X8_burns X T 0 0 0 [some (rv (8, 99) 135), some (iv x1), none, none, none, none] [] h
  unfold p_X8_burns at e
  refine V_sipush (nI 200) 0 rfl sp_200 ?_
  refine V_iload_n 1 rfl rfl ?_
  refine V_imul 2 rfl ?_
  refine V_istore_n 3 rfl (Nat.le_of_ble_eq_true rfl) rfl ?_
  refine le_V (P := fun v1 => V G M_X8_burns X T 0 0 6 [some (rv (8, 99) 135), some (iv x1), some (iv v1), none, none, none] [] h) e (fun v1 e => ?_)
  refine V_iconst (nI 0) 4 rfl ic_0 ?_
  refine V_istore_n 5 rfl (Nat.le_of_ble_eq_true rfl) rfl ?_
  show V G M_X8_burns X T 0 0 8 [some (rv (8, 99) 135), some (iv x1), some (iv v1), some (iv (nI 0)), none, none] [] h
  refine V_msk [true, false, true, true, false, false] (lc' := [some (rv (8, 99) 135), none, some (iv v1), some (iv (nI 0)), none, none]) rfl ?_
  exact fx_e (P := fun s => V G M_X8_burns X T 0 0 8 [some (rv (8, 99) 135), none, some (iv s.1), some (iv s.2.1), none, none] [] s.2.2) (fun K8 hK8 s e => w_X8_burns_8 hR K8 (fun x2 x3 h e => hK8 (x2, x3, h) e) s.1 s.2.1 s.2.2 e) FU (v1, (nI 0), h) e
set_option maxHeartbeats 4000000 in
theorem w_X8_spreads_333 {G : kG} {X : kX} {T : List kT} {h0 : kH} (hR : k_R G M_X8_spreads X T 0 0 none h0) (K177 : Int32 × Int32 × Int32 × kH → Option (kH)) (hK177 : ∀ (x2 : Int32) (x3 : Int32) (x4 : Int32) (h : kH), K177 (x2, x3, x4, h) = some h0 → V G M_X8_spreads X T 0 0 177 [some (rv (8, 99) 135), none, some (iv x2), some (iv x3), some (iv x4), none, none] [] h) (x2 : Int32) (x3 : Int32) (x4 : Int32) (s0 : Int32) (s1 : Int32) (h : kH) (e : p_X8_spreads_333 K177 x2 x3 x4 s0 s1 h = some h0) : V G M_X8_spreads X T 0 0 333 [some (rv (8, 99) 135), none, some (iv x2), some (iv x3), some (iv x4), none, none] [iv s0, iv s1, rv (9, 800) 143] h := by
  unfold p_X8_spreads_333 at e
  obtain ⟨g19, e⟩ := gd_e e
  refine V_iast 203 rfl g19 ?_
  refine le_V (P := fun h20 => V G M_X8_spreads X T 0 0 334 [some (rv (8, 99) 135), none, some (iv x2), some (iv x3), some (iv x4), none, none] [] h20) e (fun h20 e => ?_)
  refine V_iinc (x4 + (nI 1)) 204 rfl rfl (inc_1 _) (Nat.le_of_ble_eq_true rfl) rfl ?_
  show V G M_X8_spreads X T 0 0 337 [some (rv (8, 99) 135), none, some (iv x2), some (iv x3), some (iv (x4 + (nI 1))), none, none] [] h20
  refine V_goto 177 205 rfl (by decide +kernel) ?_
  refine V_msk [true, false, true, true, true, false, false] (lc' := [some (rv (8, 99) 135), none, some (iv x2), some (iv x3), some (iv (x4 + (nI 1))), none, none]) rfl ?_
  exact hK177 x2 x3 (x4 + (nI 1)) h20 e
set_option maxHeartbeats 4000000 in
theorem w_X8_spreads_290 {G : kG} {X : kX} {T : List kT} {h0 : kH} (hR : k_R G M_X8_spreads X T 0 0 none h0) (K177 : Int32 × Int32 × Int32 × kH → Option (kH)) (hK177 : ∀ (x2 : Int32) (x3 : Int32) (x4 : Int32) (h : kH), K177 (x2, x3, x4, h) = some h0 → V G M_X8_spreads X T 0 0 177 [some (rv (8, 99) 135), none, some (iv x2), some (iv x3), some (iv x4), none, none] [] h) (x2 : Int32) (x3 : Int32) (x4 : Int32) (s0 : Int32) (s1 : Int32) (h : kH) (e : p_X8_spreads_290 K177 x2 x3 x4 s0 s1 h = some h0) : V G M_X8_spreads X T 0 0 290 [some (rv (8, 99) 135), none, some (iv x2), some (iv x3), some (iv x4), none, none] [iv s0, iv s1, rv (9, 800) 143] h := by
  unfold p_X8_spreads_290 at e
  obtain ⟨g15, e⟩ := gd_e e
  refine V_iast 177 rfl g15 ?_
  refine le_V (P := fun h16 => V G M_X8_spreads X T 0 0 291 [some (rv (8, 99) 135), none, some (iv x2), some (iv x3), some (iv x4), none, none] [] h16) e (fun h16 e => ?_)
  refine V_aload_n 178 rfl rfl ?_
  refine V_getR 143 179 rfl fr_RX8_32 ⟨Nat.le_of_ble_eq_true rfl, Or.inl (Nat.le_of_ble_eq_true rfl)⟩ rfl ?_
  refine V_iload_n 180 rfl rfl ?_
  refine V_bipush (nI 90) 181 rfl bp_90 ?_
  refine V_iadd 182 rfl ?_
  refine V_iload 183 rfl rfl ?_
  refine V_iadd 184 rfl ?_
  refine V_aload_n 185 rfl rfl ?_
  refine V_getR 143 186 rfl fr_RX8_32 ⟨Nat.le_of_ble_eq_true rfl, Or.inl (Nat.le_of_ble_eq_true rfl)⟩ rfl ?_
  refine V_iload_n 187 rfl rfl ?_
  refine V_iload 188 rfl rfl ?_
  refine V_iadd 189 rfl ?_
  obtain ⟨g17, e⟩ := gd_e e
  refine V_iald 190 rfl g17 ?_
  refine V_sipush (nI 200) 191 rfl sp_200 ?_
  rcases if_e e with ⟨c192, e⟩ | ⟨c192, e⟩
  · refine V_icmp_lt 321 192 rfl (by decide +kernel) (fun _ => ?_) (fun q => absurd c192 q) 
    refine V_aload_n 195 rfl rfl ?_
    refine V_getR 143 196 rfl fr_RX8_32 ⟨Nat.le_of_ble_eq_true rfl, Or.inl (Nat.le_of_ble_eq_true rfl)⟩ rfl ?_
    refine V_iload_n 197 rfl rfl ?_
    refine V_bipush (nI 90) 198 rfl bp_90 ?_
    refine V_iadd 199 rfl ?_
    refine V_iload 200 rfl rfl ?_
    refine V_iadd 201 rfl ?_
    obtain ⟨g18, e⟩ := gd_e e
    refine V_iald 202 rfl g18 ?_
    refine V_msk [true, false, true, true, true, false, false] (lc' := [some (rv (8, 99) 135), none, some (iv x2), some (iv x3), some (iv x4), none, none]) rfl ?_
    exact w_X8_spreads_333 hR K177 hK177 x2 x3 x4 (h16 143 (((x3 + (nI 90)) + x4)).toNatClampNeg) ((x3 + (nI 90)) + x4) h16 e
  · refine V_icmp_lt 321 192 rfl (by decide +kernel) (fun q => absurd q c192) (fun _ => ?_)
    refine V_iconst (nI 1) 193 rfl ic_1 ?_
    refine V_goto 333 194 rfl (by decide +kernel) ?_
    refine V_msk [true, false, true, true, true, false, false] (lc' := [some (rv (8, 99) 135), none, some (iv x2), some (iv x3), some (iv x4), none, none]) rfl ?_
    exact w_X8_spreads_333 hR K177 hK177 x2 x3 x4 (nI 1) ((x3 + (nI 90)) + x4) h16 e
set_option maxHeartbeats 4000000 in
theorem w_X8_spreads_251 {G : kG} {X : kX} {T : List kT} {h0 : kH} (hR : k_R G M_X8_spreads X T 0 0 none h0) (K177 : Int32 × Int32 × Int32 × kH → Option (kH)) (hK177 : ∀ (x2 : Int32) (x3 : Int32) (x4 : Int32) (h : kH), K177 (x2, x3, x4, h) = some h0 → V G M_X8_spreads X T 0 0 177 [some (rv (8, 99) 135), none, some (iv x2), some (iv x3), some (iv x4), none, none] [] h) (x2 : Int32) (x3 : Int32) (x4 : Int32) (s0 : Int32) (s1 : Int32) (h : kH) (e : p_X8_spreads_251 K177 x2 x3 x4 s0 s1 h = some h0) : V G M_X8_spreads X T 0 0 251 [some (rv (8, 99) 135), none, some (iv x2), some (iv x3), some (iv x4), none, none] [iv s0, iv s1] h := by
  unfold p_X8_spreads_251 at e
  refine V_isub 159 rfl ?_
  refine V_istore 160 rfl (Nat.le_of_ble_eq_true rfl) rfl ?_
  refine le_V (P := fun v14 => V G M_X8_spreads X T 0 0 254 [some (rv (8, 99) 135), none, some (iv x2), some (iv x3), some (iv x4), some (iv v14), none] [] h) e (fun v14 e => ?_)
  refine V_aload_n 161 rfl rfl ?_
  refine V_getR 143 162 rfl fr_RX8_32 ⟨Nat.le_of_ble_eq_true rfl, Or.inl (Nat.le_of_ble_eq_true rfl)⟩ rfl ?_
  refine V_iload_n 163 rfl rfl ?_
  refine V_iload 164 rfl rfl ?_
  refine V_iadd 165 rfl ?_
  refine V_iload 166 rfl rfl ?_
  refine V_sipush (nI 3000) 167 rfl sp_3000 ?_
  rcases if_e e with ⟨c168, e⟩ | ⟨c168, e⟩
  · refine V_icmp_le 276 168 rfl (by decide +kernel) (fun _ => ?_) (fun q => absurd c168 q) 
    refine V_iload 171 rfl rfl ?_
    refine V_bipush (nI 20) 172 rfl bp_20 ?_
    rcases if_e e with ⟨c173, e⟩ | ⟨c173, e⟩
    · refine V_icmp_ge 288 173 rfl (by decide +kernel) (fun _ => ?_) (fun q => absurd c173 q) 
      refine V_iload 176 rfl rfl ?_
      refine V_msk [true, false, true, true, true, false, false] (lc' := [some (rv (8, 99) 135), none, some (iv x2), some (iv x3), some (iv x4), none, none]) rfl ?_
      exact w_X8_spreads_290 hR K177 hK177 x2 x3 x4 v14 (x3 + x4) h e
    · refine V_icmp_ge 288 173 rfl (by decide +kernel) (fun q => absurd q c173) (fun _ => ?_)
      refine V_bipush (nI 20) 174 rfl bp_20 ?_
      refine V_goto 290 175 rfl (by decide +kernel) ?_
      refine V_msk [true, false, true, true, true, false, false] (lc' := [some (rv (8, 99) 135), none, some (iv x2), some (iv x3), some (iv x4), none, none]) rfl ?_
      exact w_X8_spreads_290 hR K177 hK177 x2 x3 x4 (nI 20) (x3 + x4) h e
  · refine V_icmp_le 276 168 rfl (by decide +kernel) (fun q => absurd q c168) (fun _ => ?_)
    refine V_sipush (nI 3000) 169 rfl sp_3000 ?_
    refine V_goto 290 170 rfl (by decide +kernel) ?_
    refine V_msk [true, false, true, true, true, false, false] (lc' := [some (rv (8, 99) 135), none, some (iv x2), some (iv x3), some (iv x4), none, none]) rfl ?_
    exact w_X8_spreads_290 hR K177 hK177 x2 x3 x4 (nI 3000) (x3 + x4) h e
set_option maxHeartbeats 4000000 in
theorem w_X8_spreads_177 {G : kG} {X : kX} {T : List kT} {h0 : kH} (hR : k_R G M_X8_spreads X T 0 0 none h0) (K177 : Int32 × Int32 × Int32 × kH → Option (kH)) (hK177 : ∀ (x2 : Int32) (x3 : Int32) (x4 : Int32) (h : kH), K177 (x2, x3, x4, h) = some h0 → V G M_X8_spreads X T 0 0 177 [some (rv (8, 99) 135), none, some (iv x2), some (iv x3), some (iv x4), none, none] [] h) (x2 : Int32) (x3 : Int32) (x4 : Int32) (h : kH) (e : p_X8_spreads_177 K177 x2 x3 x4 h = some h0) : V G M_X8_spreads X T 0 0 177 [some (rv (8, 99) 135), none, some (iv x2), some (iv x3), some (iv x4), none, none] [] h := by
  unfold p_X8_spreads_177 at e
  refine V_iload 114 rfl rfl ?_
  refine V_aload_n 115 rfl rfl ?_
  obtain ⟨v7, h5, d6, e⟩ := bd2_e e
  refine V_callV (N := M_X8_cells) (av := []) (st := [iv x4]) (r := some (iv v7)) (h' := h5) 116 rfl (c_X8_cells d6) g_X8_cells gv_X8_cells lk_RX8_104 ⟨Nat.le_of_ble_eq_true rfl, Nat.le_of_ble_eq_true rfl⟩ rfl rfl (Nat.le_of_ble_eq_true rfl) ⟨Nat.zero_le _, Nat.zero_le _⟩ ?_
  show V G M_X8_spreads X T 0 0 183 [some (rv (8, 99) 135), none, some (iv x2), some (iv x3), some (iv x4), none, none] [iv v7, iv x4] h5
  rcases if_e e with ⟨c117, e⟩ | ⟨c117, e⟩
  · refine V_icmp_ge 340 117 rfl (by decide +kernel) (fun _ => ?_) (fun q => absurd c117 q) 
    cases e
    exact V_vret 206 rfl hR rfl
  · refine V_icmp_ge 340 117 rfl (by decide +kernel) (fun q => absurd q c117) (fun _ => ?_)
    refine V_aload_n 118 rfl rfl ?_
    refine V_getR 143 119 rfl fr_RX8_32 ⟨Nat.le_of_ble_eq_true rfl, Or.inl (Nat.le_of_ble_eq_true rfl)⟩ rfl ?_
    refine V_iload_n 120 rfl rfl ?_
    refine V_iload 121 rfl rfl ?_
    refine V_iadd 122 rfl ?_
    obtain ⟨g8, e⟩ := gd_e e
    refine V_iald 123 rfl g8 ?_
    refine V_aload_n 124 rfl rfl ?_
    refine V_getR 145 125 rfl fr_RX8_38 ⟨Nat.le_of_ble_eq_true rfl, Or.inl (Nat.le_of_ble_eq_true rfl)⟩ rfl ?_
    refine V_iload 126 rfl rfl ?_
    obtain ⟨g9, e⟩ := gd_e e
    refine V_iald 127 rfl g9 ?_
    refine V_iadd 128 rfl ?_
    refine V_istore 129 rfl (Nat.le_of_ble_eq_true rfl) rfl ?_
    refine le_V (P := fun v10 => V G M_X8_spreads X T 0 0 205 [some (rv (8, 99) 135), none, some (iv x2), some (iv x3), some (iv x4), some (iv v10), none] [] h5) e (fun v10 e => ?_)
    refine V_iload 130 rfl rfl ?_
    refine V_bipush (nI 20) 131 rfl bp_20 ?_
    refine V_isub 132 rfl ?_
    refine V_aload_n 133 rfl rfl ?_
    refine V_getR 137 134 rfl fr_RX8_13 ⟨Nat.le_of_ble_eq_true rfl, Or.inl (Nat.le_of_ble_eq_true rfl)⟩ rfl ?_
    refine V_iconst (nI 2) 135 rfl ic_2 ?_
    obtain ⟨g11, e⟩ := gd_e e
    refine V_iald 136 rfl g11 ?_
    refine V_iload_n 137 rfl rfl ?_
    refine V_iadd 138 rfl ?_
    refine V_imul 139 rfl ?_
    refine V_bipush (nI 100) 140 rfl bp_100 ?_
    refine V_idiv 141 rfl (by decide +kernel) ?_
    refine V_istore 142 rfl (Nat.le_of_ble_eq_true rfl) rfl ?_
    refine le_V (P := fun v12 => V G M_X8_spreads X T 0 0 224 [some (rv (8, 99) 135), none, some (iv x2), some (iv x3), some (iv x4), some (iv v10), some (iv v12)] [] h5) e (fun v12 e => ?_)
    refine V_iload 143 rfl rfl ?_
    refine V_aload_n 144 rfl rfl ?_
    refine V_getR 143 145 rfl fr_RX8_32 ⟨Nat.le_of_ble_eq_true rfl, Or.inl (Nat.le_of_ble_eq_true rfl)⟩ rfl ?_
    refine V_iload_n 146 rfl rfl ?_
    refine V_bipush (nI 120) 147 rfl bp_120 ?_
    refine V_iadd 148 rfl ?_
    refine V_iload 149 rfl rfl ?_
    refine V_iadd 150 rfl ?_
    obtain ⟨g13, e⟩ := gd_e e
    refine V_iald 151 rfl g13 ?_
    refine V_iconst (nI 1) 152 rfl ic_1 ?_
    rcases if_e e with ⟨c153, e⟩ | ⟨c153, e⟩
    · refine V_icmp_ne 249 153 rfl (by decide +kernel) (fun q => absurd c153 q) (fun _ => ?_)
      refine V_iload 154 rfl rfl ?_
      refine V_iconst (nI 2) 155 rfl ic_2 ?_
      refine V_idiv 156 rfl (by decide +kernel) ?_
      refine V_goto 251 157 rfl (by decide +kernel) ?_
      refine V_msk [true, false, true, true, true, false, false] (lc' := [some (rv (8, 99) 135), none, some (iv x2), some (iv x3), some (iv x4), none, none]) rfl ?_
      exact w_X8_spreads_251 hR K177 hK177 x2 x3 x4 (v12 / (nI 2)) v10 h5 e
    · refine V_icmp_ne 249 153 rfl (by decide +kernel) (fun _ => ?_) (fun q => absurd q c153) 
      refine V_iload 158 rfl rfl ?_
      refine V_msk [true, false, true, true, true, false, false] (lc' := [some (rv (8, 99) 135), none, some (iv x2), some (iv x3), some (iv x4), none, none]) rfl ?_
      exact w_X8_spreads_251 hR K177 hK177 x2 x3 x4 v12 v10 h5 e
set_option maxHeartbeats 4000000 in
theorem w_X8_spreads_90 {G : kG} {X : kX} {T : List kT} {h0 : kH} (hR : k_R G M_X8_spreads X T 0 0 none h0) (K9 : Int32 × Int32 × Int32 × kH → Option (kH)) (hK9 : ∀ (x2 : Int32) (x3 : Int32) (x4 : Int32) (h : kH), K9 (x2, x3, x4, h) = some h0 → V G M_X8_spreads X T 0 0 9 [some (rv (8, 99) 135), none, some (iv x2), some (iv x3), some (iv x4), none, none] [] h) (x2 : Int32) (x3 : Int32) (x4 : Int32) (h : kH) (e : p_X8_spreads_90 K9 x2 x3 x4 h = some h0) : V G M_X8_spreads X T 0 0 90 [some (rv (8, 99) 135), none, some (iv x2), some (iv x3), some (iv x4), none, none] [] h := by
  unfold p_X8_spreads_90 at e
  refine V_iload 59 rfl rfl ?_
  refine V_aload_n 60 rfl rfl ?_
  refine V_getR 137 61 rfl fr_RX8_13 ⟨Nat.le_of_ble_eq_true rfl, Or.inl (Nat.le_of_ble_eq_true rfl)⟩ rfl ?_
  refine V_iconst (nI 0) 62 rfl ic_0 ?_
  obtain ⟨g23, e⟩ := gd_e e
  refine V_iald 63 rfl g23 ?_
  refine V_iadd 64 rfl ?_
  refine V_aload_n 65 rfl rfl ?_
  obtain ⟨v26, h24, d25, e⟩ := bd2_e e
  refine V_callV (N := M_X8_cells) (av := []) (st := [iv (x4 + (h 137 ((nI 0)).toNatClampNeg))]) (r := some (iv v26)) (h' := h24) 66 rfl (c_X8_cells d25) g_X8_cells gv_X8_cells lk_RX8_104 ⟨Nat.le_of_ble_eq_true rfl, Nat.le_of_ble_eq_true rfl⟩ rfl rfl (Nat.le_of_ble_eq_true rfl) ⟨Nat.zero_le _, Nat.zero_le _⟩ ?_
  show V G M_X8_spreads X T 0 0 103 [some (rv (8, 99) 135), none, some (iv x2), some (iv x3), some (iv x4), none, none] [iv v26, iv (x4 + (h 137 ((nI 0)).toNatClampNeg))] h24
  rcases if_e e with ⟨c67, e⟩ | ⟨c67, e⟩
  · refine V_icmp_ge 168 67 rfl (by decide +kernel) (fun _ => ?_) (fun q => absurd c67 q) 
    refine V_iinc (x4 + (nI 1)) 110 rfl rfl (inc_1 _) (Nat.le_of_ble_eq_true rfl) rfl ?_
    show V G M_X8_spreads X T 0 0 171 [some (rv (8, 99) 135), none, some (iv x2), some (iv x3), some (iv (x4 + (nI 1))), none, none] [] h24
    refine V_goto 9 111 rfl (by decide +kernel) ?_
    refine V_msk [true, false, true, true, true, false, false] (lc' := [some (rv (8, 99) 135), none, some (iv x2), some (iv x3), some (iv (x4 + (nI 1))), none, none]) rfl ?_
    exact hK9 x2 x3 (x4 + (nI 1)) h24 e
  · refine V_icmp_ge 168 67 rfl (by decide +kernel) (fun q => absurd q c67) (fun _ => ?_)
    refine V_aload_n 68 rfl rfl ?_
    refine V_getR 143 69 rfl fr_RX8_32 ⟨Nat.le_of_ble_eq_true rfl, Or.inl (Nat.le_of_ble_eq_true rfl)⟩ rfl ?_
    refine V_iload_n 70 rfl rfl ?_
    refine V_iload 71 rfl rfl ?_
    refine V_iadd 72 rfl ?_
    obtain ⟨g27, e⟩ := gd_e e
    refine V_iald 73 rfl g27 ?_
    refine V_aload_n 74 rfl rfl ?_
    refine V_getR 143 75 rfl fr_RX8_32 ⟨Nat.le_of_ble_eq_true rfl, Or.inl (Nat.le_of_ble_eq_true rfl)⟩ rfl ?_
    refine V_iload_n 76 rfl rfl ?_
    refine V_iload 77 rfl rfl ?_
    refine V_iadd 78 rfl ?_
    refine V_aload_n 79 rfl rfl ?_
    refine V_getR 137 80 rfl fr_RX8_13 ⟨Nat.le_of_ble_eq_true rfl, Or.inl (Nat.le_of_ble_eq_true rfl)⟩ rfl ?_
    refine V_iconst (nI 0) 81 rfl ic_0 ?_
    refine V_iald 82 rfl g23 ?_
    refine V_iadd 83 rfl ?_
    obtain ⟨g28, e⟩ := gd_e e
    refine V_iald 84 rfl g28 ?_
    refine V_isub 85 rfl ?_
    refine V_bipush (nI 10) 86 rfl bp_10 ?_
    refine V_idiv 87 rfl (by decide +kernel) ?_
    refine V_istore 88 rfl (Nat.le_of_ble_eq_true rfl) rfl ?_
    refine le_V (P := fun v29 => V G M_X8_spreads X T 0 0 137 [some (rv (8, 99) 135), none, some (iv x2), some (iv x3), some (iv x4), some (iv v29), none] [] h24) e (fun v29 e => ?_)
    refine V_aload_n 89 rfl rfl ?_
    refine V_getR 145 90 rfl fr_RX8_38 ⟨Nat.le_of_ble_eq_true rfl, Or.inl (Nat.le_of_ble_eq_true rfl)⟩ rfl ?_
    refine V_iload 91 rfl rfl ?_
    refine V_dup2 92 rfl nj_i nj_r ?_
    obtain ⟨g30, e⟩ := gd_e e
    refine V_iald 93 rfl g30 ?_
    refine V_iload 94 rfl rfl ?_
    refine V_isub 95 rfl ?_
    refine V_iast 96 rfl g30 ?_
    refine le_V (P := fun h31 => V G M_X8_spreads X T 0 0 149 [some (rv (8, 99) 135), none, some (iv x2), some (iv x3), some (iv x4), some (iv v29), none] [] h31) e (fun h31 e => ?_)
    refine V_aload_n 97 rfl rfl ?_
    refine V_getR 145 98 rfl fr_RX8_38 ⟨Nat.le_of_ble_eq_true rfl, Or.inl (Nat.le_of_ble_eq_true rfl)⟩ rfl ?_
    refine V_iload 99 rfl rfl ?_
    refine V_aload_n 100 rfl rfl ?_
    refine V_getR 137 101 rfl fr_RX8_13 ⟨Nat.le_of_ble_eq_true rfl, Or.inl (Nat.le_of_ble_eq_true rfl)⟩ rfl ?_
    refine V_iconst (nI 0) 102 rfl ic_0 ?_
    refine V_iald 103 rfl g23 ?_
    refine V_iadd 104 rfl ?_
    refine V_dup2 105 rfl nj_i nj_r ?_
    obtain ⟨g32, e⟩ := gd_e e
    refine V_iald 106 rfl g32 ?_
    refine V_iload 107 rfl rfl ?_
    refine V_iadd 108 rfl ?_
    refine V_iast 109 rfl g32 ?_
    refine le_V (P := fun h33 => V G M_X8_spreads X T 0 0 168 [some (rv (8, 99) 135), none, some (iv x2), some (iv x3), some (iv x4), some (iv v29), none] [] h33) e (fun h33 e => ?_)
    refine V_iinc (x4 + (nI 1)) 110 rfl rfl (inc_1 _) (Nat.le_of_ble_eq_true rfl) rfl ?_
    show V G M_X8_spreads X T 0 0 171 [some (rv (8, 99) 135), none, some (iv x2), some (iv x3), some (iv (x4 + (nI 1))), some (iv v29), none] [] h33
    refine V_goto 9 111 rfl (by decide +kernel) ?_
    refine V_msk [true, false, true, true, true, false, false] (lc' := [some (rv (8, 99) 135), none, some (iv x2), some (iv x3), some (iv (x4 + (nI 1))), none, none]) rfl ?_
    exact hK9 x2 x3 (x4 + (nI 1)) h33 e
set_option maxHeartbeats 4000000 in
theorem w_X8_spreads_9 {G : kG} {X : kX} {T : List kT} {h0 : kH} (hR : k_R G M_X8_spreads X T 0 0 none h0) (K9 : Int32 × Int32 × Int32 × kH → Option (kH)) (hK9 : ∀ (x2 : Int32) (x3 : Int32) (x4 : Int32) (h : kH), K9 (x2, x3, x4, h) = some h0 → V G M_X8_spreads X T 0 0 9 [some (rv (8, 99) 135), none, some (iv x2), some (iv x3), some (iv x4), none, none] [] h) (x2 : Int32) (x3 : Int32) (x4 : Int32) (h : kH) (e : p_X8_spreads_9 K9 x2 x3 x4 h = some h0) : V G M_X8_spreads X T 0 0 9 [some (rv (8, 99) 135), none, some (iv x2), some (iv x3), some (iv x4), none, none] [] h := by
  unfold p_X8_spreads_9 at e
  refine V_iload 6 rfl rfl ?_
  refine V_aload_n 7 rfl rfl ?_
  obtain ⟨v4, h2, d3, e⟩ := bd2_e e
  refine V_callV (N := M_X8_cells) (av := []) (st := [iv x4]) (r := some (iv v4)) (h' := h2) 8 rfl (c_X8_cells d3) g_X8_cells gv_X8_cells lk_RX8_104 ⟨Nat.le_of_ble_eq_true rfl, Nat.le_of_ble_eq_true rfl⟩ rfl rfl (Nat.le_of_ble_eq_true rfl) ⟨Nat.zero_le _, Nat.zero_le _⟩ ?_
  show V G M_X8_spreads X T 0 0 15 [some (rv (8, 99) 135), none, some (iv x2), some (iv x3), some (iv x4), none, none] [iv v4, iv x4] h2
  rcases if_e e with ⟨c9, e⟩ | ⟨c9, e⟩
  · refine V_icmp_ge 174 9 rfl (by decide +kernel) (fun _ => ?_) (fun q => absurd c9 q) 
    refine V_iconst (nI 0) 112 rfl ic_0 ?_
    refine V_istore 113 rfl (Nat.le_of_ble_eq_true rfl) rfl ?_
    show V G M_X8_spreads X T 0 0 177 [some (rv (8, 99) 135), none, some (iv x2), some (iv x3), some (iv (nI 0)), none, none] [] h2
    refine V_msk [true, false, true, true, true, false, false] (lc' := [some (rv (8, 99) 135), none, some (iv x2), some (iv x3), some (iv (nI 0)), none, none]) rfl ?_
    exact fx_e (P := fun s => V G M_X8_spreads X T 0 0 177 [some (rv (8, 99) 135), none, some (iv s.1), some (iv s.2.1), some (iv s.2.2.1), none, none] [] s.2.2.2) (fun K177 hK177 s e => w_X8_spreads_177 hR K177 (fun x2 x3 x4 h e => hK177 (x2, x3, x4, h) e) s.1 s.2.1 s.2.2.1 s.2.2.2 e) FU (x2, x3, (nI 0), h2) e
  · refine V_icmp_ge 174 9 rfl (by decide +kernel) (fun q => absurd q c9) (fun _ => ?_)
    refine V_iload 10 rfl rfl ?_
    refine V_aload_n 11 rfl rfl ?_
    refine V_getR 137 12 rfl fr_RX8_13 ⟨Nat.le_of_ble_eq_true rfl, Or.inl (Nat.le_of_ble_eq_true rfl)⟩ rfl ?_
    refine V_iconst (nI 0) 13 rfl ic_0 ?_
    obtain ⟨g21, e⟩ := gd_e e
    refine V_iald 14 rfl g21 ?_
    obtain ⟨g22, e⟩ := gd_e e
    refine V_rem 15 rfl (of_decide_eq_true g22) ?_
    refine V_aload_n 16 rfl rfl ?_
    refine V_getR 137 17 rfl fr_RX8_13 ⟨Nat.le_of_ble_eq_true rfl, Or.inl (Nat.le_of_ble_eq_true rfl)⟩ rfl ?_
    refine V_iconst (nI 0) 18 rfl ic_0 ?_
    refine V_iald 19 rfl g21 ?_
    refine V_iconst (nI 1) 20 rfl ic_1 ?_
    refine V_isub 21 rfl ?_
    rcases if_e e with ⟨c22, e⟩ | ⟨c22, e⟩
    · refine V_icmp_ge 90 22 rfl (by decide +kernel) (fun _ => ?_) (fun q => absurd c22 q) 
      refine V_msk [true, false, true, true, true, false, false] (lc' := [some (rv (8, 99) 135), none, some (iv x2), some (iv x3), some (iv x4), none, none]) rfl ?_
      exact w_X8_spreads_90 hR K9 hK9 x2 x3 x4 h2 e
    · refine V_icmp_ge 90 22 rfl (by decide +kernel) (fun q => absurd q c22) (fun _ => ?_)
      refine V_aload_n 23 rfl rfl ?_
      refine V_getR 143 24 rfl fr_RX8_32 ⟨Nat.le_of_ble_eq_true rfl, Or.inl (Nat.le_of_ble_eq_true rfl)⟩ rfl ?_
      refine V_iload_n 25 rfl rfl ?_
      refine V_iload 26 rfl rfl ?_
      refine V_iadd 27 rfl ?_
      obtain ⟨g34, e⟩ := gd_e e
      refine V_iald 28 rfl g34 ?_
      refine V_aload_n 29 rfl rfl ?_
      refine V_getR 143 30 rfl fr_RX8_32 ⟨Nat.le_of_ble_eq_true rfl, Or.inl (Nat.le_of_ble_eq_true rfl)⟩ rfl ?_
      refine V_iload_n 31 rfl rfl ?_
      refine V_iload 32 rfl rfl ?_
      refine V_iadd 33 rfl ?_
      refine V_iconst (nI 1) 34 rfl ic_1 ?_
      refine V_iadd 35 rfl ?_
      obtain ⟨g35, e⟩ := gd_e e
      refine V_iald 36 rfl g35 ?_
      refine V_isub 37 rfl ?_
      refine V_bipush (nI 10) 38 rfl bp_10 ?_
      refine V_idiv 39 rfl (by decide +kernel) ?_
      refine V_istore 40 rfl (Nat.le_of_ble_eq_true rfl) rfl ?_
      refine le_V (P := fun v36 => V G M_X8_spreads X T 0 0 64 [some (rv (8, 99) 135), none, some (iv x2), some (iv x3), some (iv x4), some (iv v36), none] [] h2) e (fun v36 e => ?_)
      refine V_aload_n 41 rfl rfl ?_
      refine V_getR 145 42 rfl fr_RX8_38 ⟨Nat.le_of_ble_eq_true rfl, Or.inl (Nat.le_of_ble_eq_true rfl)⟩ rfl ?_
      refine V_iload 43 rfl rfl ?_
      refine V_dup2 44 rfl nj_i nj_r ?_
      obtain ⟨g37, e⟩ := gd_e e
      refine V_iald 45 rfl g37 ?_
      refine V_iload 46 rfl rfl ?_
      refine V_isub 47 rfl ?_
      refine V_iast 48 rfl g37 ?_
      refine le_V (P := fun h38 => V G M_X8_spreads X T 0 0 76 [some (rv (8, 99) 135), none, some (iv x2), some (iv x3), some (iv x4), some (iv v36), none] [] h38) e (fun h38 e => ?_)
      refine V_aload_n 49 rfl rfl ?_
      refine V_getR 145 50 rfl fr_RX8_38 ⟨Nat.le_of_ble_eq_true rfl, Or.inl (Nat.le_of_ble_eq_true rfl)⟩ rfl ?_
      refine V_iload 51 rfl rfl ?_
      refine V_iconst (nI 1) 52 rfl ic_1 ?_
      refine V_iadd 53 rfl ?_
      refine V_dup2 54 rfl nj_i nj_r ?_
      obtain ⟨g39, e⟩ := gd_e e
      refine V_iald 55 rfl g39 ?_
      refine V_iload 56 rfl rfl ?_
      refine V_iadd 57 rfl ?_
      refine V_iast 58 rfl g39 ?_
      refine le_V (P := fun h40 => V G M_X8_spreads X T 0 0 90 [some (rv (8, 99) 135), none, some (iv x2), some (iv x3), some (iv x4), some (iv v36), none] [] h40) e (fun h40 e => ?_)
      refine V_msk [true, false, true, true, true, false, false] (lc' := [some (rv (8, 99) 135), none, some (iv x2), some (iv x3), some (iv x4), none, none]) rfl ?_
      exact w_X8_spreads_90 hR K9 hK9 x2 x3 x4 h40 e
set_option maxHeartbeats 4000000 in
theorem c_X8_spreads {G : kG} {T : List kT} {x1 : Int32} {x2 : Int32} {h : kH} {h0 : kH} (e : p_X8_spreads x1 x2 h = some h0) : k_C G M_X8_spreads T [rv (8, 99) 135, iv x1, iv x2] h none h0 := by
  refine k_C_of 4 (by decide +kernel) rfl tb_X8_spreads rfl (fun X hR => ?_)
  show V G M_X8_spreads X T 0 0 0 [some (rv (8, 99) 135), some (iv x1), some (iv x2), none, none, none, none] [] h
  unfold p_X8_spreads at e
  refine V_sipush (nI 200) 0 rfl sp_200 ?_
  refine V_iload_n 1 rfl rfl ?_
  refine V_imul 2 rfl ?_
  refine V_istore_n 3 rfl (Nat.le_of_ble_eq_true rfl) rfl ?_
  refine le_V (P := fun v1 => V G M_X8_spreads X T 0 0 6 [some (rv (8, 99) 135), some (iv x1), some (iv x2), some (iv v1), none, none, none] [] h) e (fun v1 e => ?_)
  refine V_iconst (nI 0) 4 rfl ic_0 ?_
  refine V_istore 5 rfl (Nat.le_of_ble_eq_true rfl) rfl ?_
  show V G M_X8_spreads X T 0 0 9 [some (rv (8, 99) 135), some (iv x1), some (iv x2), some (iv v1), some (iv (nI 0)), none, none] [] h
  refine V_msk [true, false, true, true, true, false, false] (lc' := [some (rv (8, 99) 135), none, some (iv x2), some (iv v1), some (iv (nI 0)), none, none]) rfl ?_
  exact fx_e (P := fun s => V G M_X8_spreads X T 0 0 9 [some (rv (8, 99) 135), none, some (iv s.1), some (iv s.2.1), some (iv s.2.2.1), none, none] [] s.2.2.2) (fun K9 hK9 s e => w_X8_spreads_9 hR K9 (fun x2 x3 x4 h e => hK9 (x2, x3, x4, h) e) s.1 s.2.1 s.2.2.1 s.2.2.2 e) FU (x2, v1, (nI 0), h) e
