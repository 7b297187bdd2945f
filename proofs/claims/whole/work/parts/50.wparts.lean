set_option maxHeartbeats 4000000 in
theorem w_X0_place_26 {G : kG} {X : kX} {T : List kT} {r0 : Int32} {h0 : kH} (hR : k_R G M_X0_place X T 0 0 (some (iv r0)) h0) (x0 : Int32) (x1 : Int32) (s0 : Int32) (h : kH) (e : p_X0_place_26 x0 x1 s0 h = some (r0, h0)) : V G M_X0_place X T 0 0 26 [some (iv x0), some (iv x1), none] [iv s0] h := by
  unfold p_X0_place_26 at e
  refine V_istore_n 13 rfl (Nat.le_of_ble_eq_true rfl) rfl ?_
  show V G M_X0_place X T 0 0 27 [some (iv x0), some (iv x1), some (iv s0)] [] h
  refine V_iload_n 14 rfl rfl ?_
  rcases if_e e with ⟨c15, e⟩ | ⟨c15, e⟩
  · refine V_if_eq 40 15 rfl (by decide +kernel) (fun _ => ?_) (fun q => absurd c15 q) 
    refine V_iconst (nI 0) 22 rfl ic_0 ?_
    cases e
    exact V_iret 23 rfl hR rfl
  · refine V_if_eq 40 15 rfl (by decide +kernel) (fun q => absurd q c15) (fun _ => ?_)
    refine V_iload_n 16 rfl rfl ?_
    refine V_bipush (nI 30) 17 rfl bp_30 ?_
    refine V_imul 18 rfl ?_
    refine V_iload_n 19 rfl rfl ?_
    refine V_iadd 20 rfl ?_
    refine V_goto 41 21 rfl (by decide +kernel) ?_
    cases e
    exact V_iret 23 rfl hR rfl
set_option maxHeartbeats 4000000 in
theorem w_X0_place_25 {G : kG} {X : kX} {T : List kT} {r0 : Int32} {h0 : kH} (hR : k_R G M_X0_place X T 0 0 (some (iv r0)) h0) (x0 : Int32) (x1 : Int32) (h : kH) (e : p_X0_place_25 x0 x1 h = some (r0, h0)) : V G M_X0_place X T 0 0 25 [some (iv x0), some (iv x1), none] [] h := by
  unfold p_X0_place_25 at e
  refine V_iconst (nI 0) 12 rfl ic_0 ?_
  refine V_msk [true, true, false] (lc' := [some (iv x0), some (iv x1), none]) rfl ?_
  exact w_X0_place_26 hR x0 x1 (nI 0) h e
set_option maxHeartbeats 4000000 in
theorem c_X0_place {G : kG} {T : List kT} {x0 : Int32} {x1 : Int32} {h : kH} {r0 : Int32} {h0 : kH} (e : p_X0_place x0 x1 h = some (r0, h0)) : k_C G M_X0_place T [iv x0, iv x1] h (some (iv r0)) h0 := by
  refine k_C_of 1 (by decide +kernel) rfl tb_X0_place rfl (fun X hR => ?_)
  show V G M_X0_place X T 0 0 0 [some (iv x0), some (iv x1), none] [] h
  unfold p_X0_place at e
  refine V_iload_n 0 rfl rfl ?_
  rcases if_e e with ⟨c1, e⟩ | ⟨c1, e⟩
  · refine V_if_lt 25 1 rfl (by decide +kernel) (fun _ => ?_) (fun q => absurd c1 q) 
    refine V_msk [true, true, false] (lc' := [some (iv x0), some (iv x1), none]) rfl ?_
    exact w_X0_place_25 hR x0 x1 h e
  · refine V_if_lt 25 1 rfl (by decide +kernel) (fun q => absurd q c1) (fun _ => ?_)
    refine V_iload_n 2 rfl rfl ?_
    refine V_sipush (nI 240) 3 rfl sp_240 ?_
    rcases if_e e with ⟨c4, e⟩ | ⟨c4, e⟩
    · refine V_icmp_ge 25 4 rfl (by decide +kernel) (fun _ => ?_) (fun q => absurd c4 q) 
      refine V_msk [true, true, false] (lc' := [some (iv x0), some (iv x1), none]) rfl ?_
      exact w_X0_place_25 hR x0 x1 h e
    · refine V_icmp_ge 25 4 rfl (by decide +kernel) (fun q => absurd q c4) (fun _ => ?_)
      refine V_iload_n 5 rfl rfl ?_
      rcases if_e e with ⟨c6, e⟩ | ⟨c6, e⟩
      · refine V_if_lt 25 6 rfl (by decide +kernel) (fun _ => ?_) (fun q => absurd c6 q) 
        refine V_msk [true, true, false] (lc' := [some (iv x0), some (iv x1), none]) rfl ?_
        exact w_X0_place_25 hR x0 x1 h e
      · refine V_if_lt 25 6 rfl (by decide +kernel) (fun q => absurd q c6) (fun _ => ?_)
        refine V_iload_n 7 rfl rfl ?_
        refine V_bipush (nI 30) 8 rfl bp_30 ?_
        rcases if_e e with ⟨c9, e⟩ | ⟨c9, e⟩
        · refine V_icmp_ge 25 9 rfl (by decide +kernel) (fun _ => ?_) (fun q => absurd c9 q) 
          refine V_msk [true, true, false] (lc' := [some (iv x0), some (iv x1), none]) rfl ?_
          exact w_X0_place_25 hR x0 x1 h e
        · refine V_icmp_ge 25 9 rfl (by decide +kernel) (fun q => absurd q c9) (fun _ => ?_)
          refine V_iconst (nI 1) 10 rfl ic_1 ?_
          refine V_goto 26 11 rfl (by decide +kernel) ?_
          refine V_msk [true, true, false] (lc' := [some (iv x0), some (iv x1), none]) rfl ?_
          exact w_X0_place_26 hR x0 x1 (nI 1) h e
set_option maxHeartbeats 4000000 in
theorem c_X7_oneIf {G : kG} {T : List kT} {x0 : Int32} {h : kH} {r0 : Int32} {h0 : kH} (e : p_X7_oneIf x0 h = some (r0, h0)) : k_C G M_X7_oneIf T [iv x0] h (some (iv r0)) h0 := by
  refine k_C_of 0 (by decide +kernel) rfl tb_X7_oneIf rfl (fun X hR => ?_)
  show V G M_X7_oneIf X T 0 0 0 [some (iv x0)] [] h
  unfold p_X7_oneIf at e
  refine V_iload_n 0 rfl rfl ?_
  rcases if_e e with ⟨c1, e⟩ | ⟨c1, e⟩
  · refine V_if_eq 8 1 rfl (by decide +kernel) (fun _ => ?_) (fun q => absurd c1 q) 
    refine V_iconst (nI 0) 4 rfl ic_0 ?_
    cases e
    exact V_iret 5 rfl hR rfl
  · refine V_if_eq 8 1 rfl (by decide +kernel) (fun q => absurd q c1) (fun _ => ?_)
    refine V_iconst (nI 1) 2 rfl ic_1 ?_
    refine V_goto 9 3 rfl (by decide +kernel) ?_
    cases e
    exact V_iret 5 rfl hR rfl
set_option maxHeartbeats 4000000 in
theorem c_X0_put {G : kG} {T : List kT} {x1 : Int32} {x2 : Int32} {x3 : Int32} {x4 : Int32} {h : kH} {h0 : kH} (e : p_X0_put x1 x2 x3 x4 h = some h0) : k_C G M_X0_put T [rv (0, 99) 132, iv x1, iv x2, iv x3, iv x4] h none h0 := by
  refine k_C_of 0 (by decide +kernel) rfl tb_X0_put rfl (fun X hR => ?_)
  show V G M_X0_put X T 0 0 0 [some (rv (0, 99) 132), some (iv x1), some (iv x2), some (iv x3), some (iv x4)] [] h
  unfold p_X0_put at e
  refine V_aload_n 0 rfl rfl ?_
  refine V_getR 133 1 rfl fr_RX0_9 ⟨Nat.le_of_ble_eq_true rfl, Or.inl (Nat.le_of_ble_eq_true rfl)⟩ rfl ?_
  refine V_iload_n 2 rfl rfl ?_
  refine V_iload_n 3 rfl rfl ?_
  obtain ⟨v3, h1, d2, e⟩ := bd2_e e
  refine V_callS (N := M_X0_place) (av := [iv x1, iv x2]) (st := [rv (9, 7200) 133]) (r := some (iv v3)) (h' := h1) 4 rfl (c_X0_place d2) g_X0_place gs_X0_place lk_RX0_15 ⟨Nat.le_of_ble_eq_true rfl, Nat.le_of_ble_eq_true rfl⟩ rfl (Nat.le_of_ble_eq_true rfl) ⟨Nat.zero_le _, Nat.zero_le _⟩ ?_
  show V G M_X0_put X T 0 0 9 [some (rv (0, 99) 132), some (iv x1), some (iv x2), some (iv x3), some (iv x4)] [iv v3, rv (9, 7200) 133] h1
  refine V_iconst (nI 2) 5 rfl ic_2 ?_
  refine V_iload_n 6 rfl rfl ?_
  refine V_imul 7 rfl ?_
  refine V_iload 8 rfl rfl ?_
  obtain ⟨v6, h4, d5, e⟩ := bd2_e e
  refine V_callSN (N := M_X7_oneIf) (av := [iv x4]) (st := [iv ((nI 2) * x3), iv v3, rv (9, 7200) 133]) (r := some (iv v6)) (h' := h4) 9 rfl (c_X7_oneIf d5) g_X7_oneIf gs_X7_oneIf nk_RX0_19 ⟨Nat.le_of_ble_eq_true rfl, Nat.le_of_ble_eq_true rfl⟩ rfl (Nat.le_of_ble_eq_true rfl) ⟨Nat.zero_le _, Nat.zero_le _⟩ ?_
  show V G M_X0_put X T 0 0 17 [some (rv (0, 99) 132), some (iv x1), some (iv x2), some (iv x3), some (iv x4)] [iv v6, iv ((nI 2) * x3), iv v3, rv (9, 7200) 133] h4
  refine V_iadd 10 rfl ?_
  obtain ⟨g7, e⟩ := gd_e e
  refine V_iast 11 rfl g7 ?_
  refine le_V (P := fun h8 => V G M_X0_put X T 0 0 19 [some (rv (0, 99) 132), some (iv x1), some (iv x2), some (iv x3), some (iv x4)] [] h8) e (fun h8 e => ?_)
  cases e
  exact V_vret 12 rfl hR rfl
set_option maxHeartbeats 4000000 in
theorem c_X0_heatAt {G : kG} {T : List kT} {x1 : Int32} {x2 : Int32} {h : kH} {r0 : Int32} {h0 : kH} (e : p_X0_heatAt x1 x2 h = some (r0, h0)) : k_C G M_X0_heatAt T [rv (0, 99) 132, iv x1, iv x2] h (some (iv r0)) h0 := by
  refine k_C_of 0 (by decide +kernel) rfl tb_X0_heatAt rfl (fun X hR => ?_)
  show V G M_X0_heatAt X T 0 0 0 [some (rv (0, 99) 132), some (iv x1), some (iv x2)] [] h
  unfold p_X0_heatAt at e
  refine V_aload_n 0 rfl rfl ?_
  refine V_getR 133 1 rfl fr_RX0_9 ⟨Nat.le_of_ble_eq_true rfl, Or.inl (Nat.le_of_ble_eq_true rfl)⟩ rfl ?_
  refine V_iload_n 2 rfl rfl ?_
  refine V_iload_n 3 rfl rfl ?_
  obtain ⟨v3, h1, d2, e⟩ := bd2_e e
  refine V_callS (N := M_X0_place) (av := [iv x1, iv x2]) (st := [rv (9, 7200) 133]) (r := some (iv v3)) (h' := h1) 4 rfl (c_X0_place d2) g_X0_place gs_X0_place lk_RX0_15 ⟨Nat.le_of_ble_eq_true rfl, Nat.le_of_ble_eq_true rfl⟩ rfl (Nat.le_of_ble_eq_true rfl) ⟨Nat.zero_le _, Nat.zero_le _⟩ ?_
  show V G M_X0_heatAt X T 0 0 9 [some (rv (0, 99) 132), some (iv x1), some (iv x2)] [iv v3, rv (9, 7200) 133] h1
  obtain ⟨g4, e⟩ := gd_e e
  refine V_iald 5 rfl g4 ?_
  refine V_iconst (nI 2) 6 rfl ic_2 ?_
  refine V_idiv 7 rfl (by decide +kernel) ?_
  cases e
  exact V_iret 8 rfl hR rfl
set_option maxHeartbeats 4000000 in
theorem c_X0_blackensAt {G : kG} {T : List kT} {x1 : Int32} {x2 : Int32} {h : kH} {r0 : Int32} {h0 : kH} (e : p_X0_blackensAt x1 x2 h = some (r0, h0)) : k_C G M_X0_blackensAt T [rv (0, 99) 132, iv x1, iv x2] h (some (iv r0)) h0 := by
  refine k_C_of 0 (by decide +kernel) rfl tb_X0_blackensAt rfl (fun X hR => ?_)
  show V G M_X0_blackensAt X T 0 0 0 [some (rv (0, 99) 132), some (iv x1), some (iv x2)] [] h
  unfold p_X0_blackensAt at e
  refine V_aload_n 0 rfl rfl ?_
  refine V_getR 133 1 rfl fr_RX0_9 ⟨Nat.le_of_ble_eq_true rfl, Or.inl (Nat.le_of_ble_eq_true rfl)⟩ rfl ?_
  refine V_iload_n 2 rfl rfl ?_
  refine V_iload_n 3 rfl rfl ?_
  obtain ⟨v3, h1, d2, e⟩ := bd2_e e
  refine V_callS (N := M_X0_place) (av := [iv x1, iv x2]) (st := [rv (9, 7200) 133]) (r := some (iv v3)) (h' := h1) 4 rfl (c_X0_place d2) g_X0_place gs_X0_place lk_RX0_15 ⟨Nat.le_of_ble_eq_true rfl, Nat.le_of_ble_eq_true rfl⟩ rfl (Nat.le_of_ble_eq_true rfl) ⟨Nat.zero_le _, Nat.zero_le _⟩ ?_
  show V G M_X0_blackensAt X T 0 0 9 [some (rv (0, 99) 132), some (iv x1), some (iv x2)] [iv v3, rv (9, 7200) 133] h1
  obtain ⟨g4, e⟩ := gd_e e
  refine V_iald 5 rfl g4 ?_
  refine V_iconst (nI 2) 6 rfl ic_2 ?_
  refine V_rem 7 rfl (by decide +kernel) ?_
  refine V_iconst (nI 1) 8 rfl ic_1 ?_
  rcases if_e e with ⟨c9, e⟩ | ⟨c9, e⟩
  · refine V_icmp_ne 20 9 rfl (by decide +kernel) (fun q => absurd c9 q) (fun _ => ?_)
    refine V_iconst (nI 1) 10 rfl ic_1 ?_
    refine V_goto 21 11 rfl (by decide +kernel) ?_
    cases e
    exact V_zret 13 rfl z_1 hR rfl
  · refine V_icmp_ne 20 9 rfl (by decide +kernel) (fun _ => ?_) (fun q => absurd q c9) 
    refine V_iconst (nI 0) 12 rfl ic_0 ?_
    cases e
    exact V_zret 13 rfl z_0 hR rfl
set_option maxHeartbeats 4000000 in
theorem w_X1_clear_2 {G : kG} {X : kX} {T : List kT} {h0 : kH} (hR : k_R G M_X1_clear X T 0 0 none h0) (F : Nat) (K2 : Int32 × kH → Option (kH)) (hK2 : ∀ (x1 : Int32) (h : kH), K2 (x1, h) = some h0 → V G M_X1_clear X T 0 0 2 [some (rv (1, 99) F), some (iv x1)] [] h) (x1 : Int32) (h : kH) (e : p_X1_clear_2 K2 F x1 h = some h0) : V G M_X1_clear X T 0 0 2 [some (rv (1, 99) F), some (iv x1)] [] h := by
  unfold p_X1_clear_2 at e
  refine V_iload_n 2 rfl rfl ?_
  refine V_bipush (nI 30) 3 rfl bp_30 ?_
  rcases if_e e with ⟨c4, e⟩ | ⟨c4, e⟩
  · refine V_icmp_ge 50 4 rfl (by decide +kernel) (fun _ => ?_) (fun q => absurd c4 q) 
    cases e
    exact V_vret 32 rfl hR rfl
  · refine V_icmp_ge 50 4 rfl (by decide +kernel) (fun q => absurd q c4) (fun _ => ?_)
    refine V_aload_n 5 rfl rfl ?_
    refine V_getR (F + 1) 6 rfl fr_RX1_9 ⟨Nat.le_of_ble_eq_true rfl, Or.inl (Nat.le_of_ble_eq_true rfl)⟩ rfl ?_
    refine V_iload_n 7 rfl rfl ?_
    refine V_bipush (nI 20) 8 rfl bp_20 ?_
    obtain ⟨g1, e⟩ := gd_e e
    refine V_iast 9 rfl g1 ?_
    refine le_V (P := fun h2 => V G M_X1_clear X T 0 0 16 [some (rv (1, 99) F), some (iv x1)] [] h2) e (fun h2 e => ?_)
    refine V_aload_n 10 rfl rfl ?_
    refine V_getR (F + 2) 11 rfl fr_RX1_15 ⟨Nat.le_of_ble_eq_true rfl, Or.inl (Nat.le_of_ble_eq_true rfl)⟩ rfl ?_
    refine V_iload_n 12 rfl rfl ?_
    refine V_iconst (nI 0) 13 rfl ic_0 ?_
    refine V_iast 14 rfl g1 ?_
    refine le_V (P := fun h3 => V G M_X1_clear X T 0 0 23 [some (rv (1, 99) F), some (iv x1)] [] h3) e (fun h3 e => ?_)
    refine V_aload_n 15 rfl rfl ?_
    refine V_getR (F + 3) 16 rfl fr_RX1_18 ⟨Nat.le_of_ble_eq_true rfl, Or.inl (Nat.le_of_ble_eq_true rfl)⟩ rfl ?_
    refine V_iload_n 17 rfl rfl ?_
    refine V_iconst (nI 0) 18 rfl ic_0 ?_
    refine V_iast 19 rfl g1 ?_
    refine le_V (P := fun h4 => V G M_X1_clear X T 0 0 30 [some (rv (1, 99) F), some (iv x1)] [] h4) e (fun h4 e => ?_)
    refine V_aload_n 20 rfl rfl ?_
    refine V_getR (F + 4) 21 rfl fr_RX1_21 ⟨Nat.le_of_ble_eq_true rfl, Or.inl (Nat.le_of_ble_eq_true rfl)⟩ rfl ?_
    refine V_iload_n 22 rfl rfl ?_
    refine V_iconst (nI 0) 23 rfl ic_0 ?_
    refine V_zast 24 rfl g1 ?_
    refine le_V (P := fun h5 => V G M_X1_clear X T 0 0 37 [some (rv (1, 99) F), some (iv x1)] [] h5) e (fun h5 e => ?_)
    refine V_aload_n 25 rfl rfl ?_
    refine V_getR (F + 5) 26 rfl fr_RX1_25 ⟨Nat.le_of_ble_eq_true rfl, Or.inl (Nat.le_of_ble_eq_true rfl)⟩ rfl ?_
    refine V_iload_n 27 rfl rfl ?_
    refine V_iconst (nI 0) 28 rfl ic_0 ?_
    refine V_zast 29 rfl g1 ?_
    refine le_V (P := fun h6 => V G M_X1_clear X T 0 0 44 [some (rv (1, 99) F), some (iv x1)] [] h6) e (fun h6 e => ?_)
    refine V_iinc (x1 + (nI 1)) 30 rfl rfl (inc_1 _) (Nat.le_of_ble_eq_true rfl) rfl ?_
    show V G M_X1_clear X T 0 0 47 [some (rv (1, 99) F), some (iv (x1 + (nI 1)))] [] h6
    refine V_goto 2 31 rfl (by decide +kernel) ?_
    refine V_msk [true, true] (lc' := [some (rv (1, 99) F), some (iv (x1 + (nI 1)))]) rfl ?_
    exact hK2 (x1 + (nI 1)) h6 e
set_option maxHeartbeats 4000000 in
theorem c_X1_clear {G : kG} {T : List kT} {F : Nat} {h : kH} {h0 : kH} (e : p_X1_clear F h = some h0) : k_C G M_X1_clear T [rv (1, 99) F] h none h0 := by
  refine k_C_of 1 (by decide +kernel) rfl tb_X1_clear rfl (fun X hR => ?_)
  show V G M_X1_clear X T 0 0 0 [some (rv (1, 99) F), none] [] h
  unfold p_X1_clear at e
  refine V_iconst (nI 0) 0 rfl ic_0 ?_
  refine V_istore_n 1 rfl (Nat.le_of_ble_eq_true rfl) rfl ?_
  show V G M_X1_clear X T 0 0 2 [some (rv (1, 99) F), some (iv (nI 0))] [] h
  refine V_msk [true, true] (lc' := [some (rv (1, 99) F), some (iv (nI 0))]) rfl ?_
  exact fx_e (P := fun s => V G M_X1_clear X T 0 0 2 [some (rv (1, 99) F), some (iv s.1)] [] s.2) (fun K2 hK2 s e => w_X1_clear_2 hR F K2 (fun x1 h e => hK2 (x1, h) e) s.1 s.2 e) FU ((nI 0), h) e
set_option maxHeartbeats 4000000 in
theorem c_X1_copyCell {G : kG} {T : List kT} {F : Nat} {F2 : Nat} {x1 : Int32} {x3 : Int32} {h : kH} {h0 : kH} (e : p_X1_copyCell F F2 x1 x3 h = some h0) : k_C G M_X1_copyCell T [rv (1, 99) F, iv x1, rv (1, 99) F2, iv x3] h none h0 := by
  refine k_C_of 0 (by decide +kernel) rfl tb_X1_copyCell rfl (fun X hR => ?_)
  show V G M_X1_copyCell X T 0 0 0 [some (rv (1, 99) F), some (iv x1), some (rv (1, 99) F2), some (iv x3)] [] h
  unfold p_X1_copyCell at e
  refine V_aload_n 0 rfl rfl ?_
  refine V_getR (F + 1) 1 rfl fr_RX1_9 ⟨Nat.le_of_ble_eq_true rfl, Or.inl (Nat.le_of_ble_eq_true rfl)⟩ rfl ?_
  refine V_iload_n 2 rfl rfl ?_
  refine V_aload_n 3 rfl rfl ?_
  refine V_getR (F2 + 1) 4 rfl fr_RX1_9 ⟨Nat.le_of_ble_eq_true rfl, Or.inl (Nat.le_of_ble_eq_true rfl)⟩ rfl ?_
  refine V_iload_n 5 rfl rfl ?_
  obtain ⟨g1, e⟩ := gd_e e
  refine V_iald 6 rfl g1 ?_
  obtain ⟨g2, e⟩ := gd_e e
  refine V_iast 7 rfl g2 ?_
  refine le_V (P := fun h3 => V G M_X1_copyCell X T 0 0 12 [some (rv (1, 99) F), some (iv x1), some (rv (1, 99) F2), some (iv x3)] [] h3) e (fun h3 e => ?_)
  refine V_aload_n 8 rfl rfl ?_
  refine V_getR (F + 2) 9 rfl fr_RX1_15 ⟨Nat.le_of_ble_eq_true rfl, Or.inl (Nat.le_of_ble_eq_true rfl)⟩ rfl ?_
  refine V_iload_n 10 rfl rfl ?_
  refine V_aload_n 11 rfl rfl ?_
  refine V_getR (F2 + 2) 12 rfl fr_RX1_15 ⟨Nat.le_of_ble_eq_true rfl, Or.inl (Nat.le_of_ble_eq_true rfl)⟩ rfl ?_
  refine V_iload_n 13 rfl rfl ?_
  refine V_iald 14 rfl g1 ?_
  refine V_iast 15 rfl g2 ?_
  refine le_V (P := fun h4 => V G M_X1_copyCell X T 0 0 24 [some (rv (1, 99) F), some (iv x1), some (rv (1, 99) F2), some (iv x3)] [] h4) e (fun h4 e => ?_)
  refine V_aload_n 16 rfl rfl ?_
  refine V_getR (F + 3) 17 rfl fr_RX1_18 ⟨Nat.le_of_ble_eq_true rfl, Or.inl (Nat.le_of_ble_eq_true rfl)⟩ rfl ?_
  refine V_iload_n 18 rfl rfl ?_
  refine V_aload_n 19 rfl rfl ?_
  refine V_getR (F2 + 3) 20 rfl fr_RX1_18 ⟨Nat.le_of_ble_eq_true rfl, Or.inl (Nat.le_of_ble_eq_true rfl)⟩ rfl ?_
  refine V_iload_n 21 rfl rfl ?_
  refine V_iald 22 rfl g1 ?_
  refine V_iast 23 rfl g2 ?_
  refine le_V (P := fun h5 => V G M_X1_copyCell X T 0 0 36 [some (rv (1, 99) F), some (iv x1), some (rv (1, 99) F2), some (iv x3)] [] h5) e (fun h5 e => ?_)
  refine V_aload_n 24 rfl rfl ?_
  refine V_getR (F + 4) 25 rfl fr_RX1_21 ⟨Nat.le_of_ble_eq_true rfl, Or.inl (Nat.le_of_ble_eq_true rfl)⟩ rfl ?_
  refine V_iload_n 26 rfl rfl ?_
  refine V_aload_n 27 rfl rfl ?_
  refine V_getR (F2 + 4) 28 rfl fr_RX1_21 ⟨Nat.le_of_ble_eq_true rfl, Or.inl (Nat.le_of_ble_eq_true rfl)⟩ rfl ?_
  refine V_iload_n 29 rfl rfl ?_
  refine V_zald 30 rfl g1 ?_
  refine V_zast 31 rfl g2 ?_
  refine le_V (P := fun h6 => V G M_X1_copyCell X T 0 0 48 [some (rv (1, 99) F), some (iv x1), some (rv (1, 99) F2), some (iv x3)] [] h6) e (fun h6 e => ?_)
  refine V_aload_n 32 rfl rfl ?_
  refine V_getR (F + 5) 33 rfl fr_RX1_25 ⟨Nat.le_of_ble_eq_true rfl, Or.inl (Nat.le_of_ble_eq_true rfl)⟩ rfl ?_
  refine V_iload_n 34 rfl rfl ?_
  refine V_aload_n 35 rfl rfl ?_
  refine V_getR (F2 + 5) 36 rfl fr_RX1_25 ⟨Nat.le_of_ble_eq_true rfl, Or.inl (Nat.le_of_ble_eq_true rfl)⟩ rfl ?_
  refine V_iload_n 37 rfl rfl ?_
  refine V_zald 38 rfl g1 ?_
  refine V_zast 39 rfl g2 ?_
  refine le_V (P := fun h7 => V G M_X1_copyCell X T 0 0 60 [some (rv (1, 99) F), some (iv x1), some (rv (1, 99) F2), some (iv x3)] [] h7) e (fun h7 e => ?_)
  cases e
  exact V_vret 40 rfl hR rfl
set_option maxHeartbeats 4000000 in
theorem w_X1_copyFrom_2 {G : kG} {X : kX} {T : List kT} {h0 : kH} (hR : k_R G M_X1_copyFrom X T 0 0 none h0) (F : Nat) (F2 : Nat) (K2 : Int32 × kH → Option (kH)) (hK2 : ∀ (x2 : Int32) (h : kH), K2 (x2, h) = some h0 → V G M_X1_copyFrom X T 0 0 2 [some (rv (1, 99) F), some (rv (1, 99) F2), some (iv x2)] [] h) (x2 : Int32) (h : kH) (e : p_X1_copyFrom_2 K2 F F2 x2 h = some h0) : V G M_X1_copyFrom X T 0 0 2 [some (rv (1, 99) F), some (rv (1, 99) F2), some (iv x2)] [] h := by
  unfold p_X1_copyFrom_2 at e
  refine V_iload_n 2 rfl rfl ?_
  refine V_bipush (nI 30) 3 rfl bp_30 ?_
  rcases if_e e with ⟨c4, e⟩ | ⟨c4, e⟩
  · refine V_icmp_ge 21 4 rfl (by decide +kernel) (fun _ => ?_) (fun q => absurd c4 q) 
    cases e
    exact V_vret 12 rfl hR rfl
  · refine V_icmp_ge 21 4 rfl (by decide +kernel) (fun q => absurd q c4) (fun _ => ?_)
    refine V_aload_n 5 rfl rfl ?_
    refine V_iload_n 6 rfl rfl ?_
    refine V_aload_n 7 rfl rfl ?_
    refine V_iload_n 8 rfl rfl ?_
    obtain ⟨h1, d2, e⟩ := bd_e e
    refine V_callV (N := M_X1_copyCell) (av := [iv x2, rv (1, 99) F2, iv x2]) (st := []) (r := none) (h' := h1) 9 rfl (c_X1_copyCell d2) g_X1_copyCell gv_X1_copyCell lk_RX1_31 ⟨Nat.le_of_ble_eq_true rfl, Nat.le_of_ble_eq_true rfl⟩ rfl rfl (Nat.le_of_ble_eq_true rfl) ⟨Nat.zero_le _, Nat.zero_le _⟩ ?_
    show V G M_X1_copyFrom X T 0 0 15 [some (rv (1, 99) F), some (rv (1, 99) F2), some (iv x2)] [] h1
    refine V_iinc (x2 + (nI 1)) 10 rfl rfl (inc_1 _) (Nat.le_of_ble_eq_true rfl) rfl ?_
    show V G M_X1_copyFrom X T 0 0 18 [some (rv (1, 99) F), some (rv (1, 99) F2), some (iv (x2 + (nI 1)))] [] h1
    refine V_goto 2 11 rfl (by decide +kernel) ?_
    refine V_msk [true, true, true] (lc' := [some (rv (1, 99) F), some (rv (1, 99) F2), some (iv (x2 + (nI 1)))]) rfl ?_
    exact hK2 (x2 + (nI 1)) h1 e
set_option maxHeartbeats 4000000 in
theorem c_X1_copyFrom {G : kG} {T : List kT} {F : Nat} {F2 : Nat} {h : kH} {h0 : kH} (e : p_X1_copyFrom F F2 h = some h0) : k_C G M_X1_copyFrom T [rv (1, 99) F, rv (1, 99) F2] h none h0 := by
  refine k_C_of 1 (by decide +kernel) rfl tb_X1_copyFrom rfl (fun X hR => ?_)
  show V G M_X1_copyFrom X T 0 0 0 [some (rv (1, 99) F), some (rv (1, 99) F2), none] [] h
  unfold p_X1_copyFrom at e
  refine V_iconst (nI 0) 0 rfl ic_0 ?_
  refine V_istore_n 1 rfl (Nat.le_of_ble_eq_true rfl) rfl ?_
  show V G M_X1_copyFrom X T 0 0 2 [some (rv (1, 99) F), some (rv (1, 99) F2), some (iv (nI 0))] [] h
  refine V_msk [true, true, true] (lc' := [some (rv (1, 99) F), some (rv (1, 99) F2), some (iv (nI 0))]) rfl ?_
  exact fx_e (P := fun s => V G M_X1_copyFrom X T 0 0 2 [some (rv (1, 99) F), some (rv (1, 99) F2), some (iv s.1)] [] s.2) (fun K2 hK2 s e => w_X1_copyFrom_2 hR F F2 K2 (fun x2 h e => hK2 (x2, h) e) s.1 s.2 e) FU ((nI 0), h) e
set_option maxHeartbeats 4000000 in
theorem c_X5_cells {G : kG} {T : List kT} {R : Nat} {h : kH} {r0 : Int32} {h0 : kH} (e : p_X5_cells R h = some (r0, h0)) : k_C G M_X5_cells T [rv (5, 99) R] h (some (iv r0)) h0 := by
  refine k_C_of 0 (by decide +kernel) rfl tb_X5_cells rfl (fun X hR => ?_)
  show V G M_X5_cells X T 0 0 0 [some (rv (5, 99) R)] [] h
  unfold p_X5_cells at e
  refine V_aload_n 0 rfl rfl ?_
  refine V_getI 1 rfl fi_RX5_21 ?_
  refine V_aload_n 2 rfl rfl ?_
  refine V_getI 3 rfl fi_RX5_25 ?_
  refine V_imul 4 rfl ?_
  cases e
  exact V_iret 5 rfl hR rfl
set_option maxHeartbeats 4000000 in
theorem w_X1_burnFuel_2 {G : kG} {X : kX} {T : List kT} {h0 : kH} (hR : k_R G M_X1_burnFuel X T 0 0 none h0) (F : Nat) (R : Nat) (K2 : Int32 × kH → Option (kH)) (hK2 : ∀ (x2 : Int32) (h : kH), K2 (x2, h) = some h0 → V G M_X1_burnFuel X T 0 0 2 [some (rv (1, 99) F), some (rv (5, 99) R), some (iv x2), none] [] h) (x2 : Int32) (h : kH) (e : p_X1_burnFuel_2 K2 F R x2 h = some h0) : V G M_X1_burnFuel X T 0 0 2 [some (rv (1, 99) F), some (rv (5, 99) R), some (iv x2), none] [] h := by
  unfold p_X1_burnFuel_2 at e
  refine V_iload_n 2 rfl rfl ?_
  refine V_aload_n 3 rfl rfl ?_
  obtain ⟨v3, h1, d2, e⟩ := bd2_e e
  refine V_callVN (N := M_X5_cells) (av := []) (st := [iv x2]) (r := some (iv v3)) (h' := h1) 4 rfl (c_X5_cells d2) g_X5_cells gv_X5_cells nk_RX1_46 ⟨Nat.le_of_ble_eq_true rfl, Nat.le_of_ble_eq_true rfl⟩ rfl rfl (Nat.le_of_ble_eq_true rfl) ⟨Nat.zero_le _, Nat.zero_le _⟩ ?_
  show V G M_X1_burnFuel X T 0 0 7 [some (rv (1, 99) F), some (rv (5, 99) R), some (iv x2), none] [iv v3, iv x2] h1
  rcases if_e e with ⟨c5, e⟩ | ⟨c5, e⟩
  · refine V_icmp_ge 81 5 rfl (by decide +kernel) (fun _ => ?_) (fun q => absurd c5 q) 
    cases e
    exact V_vret 51 rfl hR rfl
  · refine V_icmp_ge 81 5 rfl (by decide +kernel) (fun q => absurd q c5) (fun _ => ?_)
    refine V_aload_n 6 rfl rfl ?_
    refine V_getR (F + 4) 7 rfl fr_RX1_21 ⟨Nat.le_of_ble_eq_true rfl, Or.inl (Nat.le_of_ble_eq_true rfl)⟩ rfl ?_
    refine V_iload_n 8 rfl rfl ?_
    obtain ⟨g4, e⟩ := gd_e e
    refine V_zald 9 rfl g4 ?_
    rcases if_e e with ⟨c10, e⟩ | ⟨c10, e⟩
    · refine V_if_ne 22 10 rfl (by decide +kernel) (fun q => absurd c10 q) (fun _ => ?_)
      refine V_goto 75 11 rfl (by decide +kernel) ?_
      refine V_iinc (x2 + (nI 1)) 49 rfl rfl (inc_1 _) (Nat.le_of_ble_eq_true rfl) rfl ?_
      show V G M_X1_burnFuel X T 0 0 78 [some (rv (1, 99) F), some (rv (5, 99) R), some (iv (x2 + (nI 1))), none] [] h1
      refine V_goto 2 50 rfl (by decide +kernel) ?_
      refine V_msk [true, true, true, false] (lc' := [some (rv (1, 99) F), some (rv (5, 99) R), some (iv (x2 + (nI 1))), none]) rfl ?_
      exact hK2 (x2 + (nI 1)) h1 e
    · refine V_if_ne 22 10 rfl (by decide +kernel) (fun _ => ?_) (fun q => absurd q c10) 
      refine V_aload_n 12 rfl rfl ?_
      refine V_getR (F + 2) 13 rfl fr_RX1_15 ⟨Nat.le_of_ble_eq_true rfl, Or.inl (Nat.le_of_ble_eq_true rfl)⟩ rfl ?_
      refine V_iload_n 14 rfl rfl ?_
      refine V_iald 15 rfl g4 ?_
      refine V_aload_n 16 rfl rfl ?_
      refine V_getR (R + 1) 17 rfl fr_RX1_52 ⟨Nat.le_of_ble_eq_true rfl, Or.inl (Nat.le_of_ble_eq_true rfl)⟩ rfl ?_
      refine V_aload_n 18 rfl rfl ?_
      refine V_getR (F + 3) 19 rfl fr_RX1_18 ⟨Nat.le_of_ble_eq_true rfl, Or.inl (Nat.le_of_ble_eq_true rfl)⟩ rfl ?_
      refine V_iload_n 20 rfl rfl ?_
      refine V_iald 21 rfl g4 ?_
      obtain ⟨g5, e⟩ := gd_e e
      refine V_iald 22 rfl g5 ?_
      refine V_mmin 23 rfl lm_RX1_55 mmin_1 mmin_2 mmin_3 ⟨Nat.le_of_ble_eq_true rfl, Nat.le_of_ble_eq_true rfl⟩ ⟨Nat.zero_le _, Nat.zero_le _⟩ ?_
      refine V_istore_n 24 rfl (Nat.le_of_ble_eq_true rfl) rfl ?_
      refine le_V (P := fun v6 => V G M_X1_burnFuel X T 0 0 43 [some (rv (1, 99) F), some (rv (5, 99) R), some (iv x2), some (iv v6)] [] h1) e (fun v6 e => ?_)
      refine V_aload_n 25 rfl rfl ?_
      refine V_getR (F + 2) 26 rfl fr_RX1_15 ⟨Nat.le_of_ble_eq_true rfl, Or.inl (Nat.le_of_ble_eq_true rfl)⟩ rfl ?_
      refine V_iload_n 27 rfl rfl ?_
      refine V_dup2 28 rfl nj_i nj_r ?_
      refine V_iald 29 rfl g4 ?_
      refine V_iload_n 30 rfl rfl ?_
      refine V_isub 31 rfl ?_
      refine V_iast 32 rfl g4 ?_
      refine le_V (P := fun h7 => V G M_X1_burnFuel X T 0 0 53 [some (rv (1, 99) F), some (rv (5, 99) R), some (iv x2), some (iv v6)] [] h7) e (fun h7 e => ?_)
      refine V_aload_n 33 rfl rfl ?_
      refine V_getR (F + 1) 34 rfl fr_RX1_9 ⟨Nat.le_of_ble_eq_true rfl, Or.inl (Nat.le_of_ble_eq_true rfl)⟩ rfl ?_
      refine V_iload_n 35 rfl rfl ?_
      refine V_dup2 36 rfl nj_i nj_r ?_
      refine V_iald 37 rfl g4 ?_
      refine V_iload_n 38 rfl rfl ?_
      refine V_aload_n 39 rfl rfl ?_
      refine V_getR (R + 2) 40 rfl fr_RX1_61 ⟨Nat.le_of_ble_eq_true rfl, Or.inl (Nat.le_of_ble_eq_true rfl)⟩ rfl ?_
      refine V_aload_n 41 rfl rfl ?_
      refine V_getR (F + 3) 42 rfl fr_RX1_18 ⟨Nat.le_of_ble_eq_true rfl, Or.inl (Nat.le_of_ble_eq_true rfl)⟩ rfl ?_
      refine V_iload_n 43 rfl rfl ?_
      refine V_iald 44 rfl g4 ?_
      obtain ⟨g8, e⟩ := gd_e e
      refine V_iald 45 rfl g8 ?_
      refine V_imul 46 rfl ?_
      refine V_iadd 47 rfl ?_
      refine V_iast 48 rfl g4 ?_
      refine le_V (P := fun h9 => V G M_X1_burnFuel X T 0 0 75 [some (rv (1, 99) F), some (rv (5, 99) R), some (iv x2), some (iv v6)] [] h9) e (fun h9 e => ?_)
      refine V_iinc (x2 + (nI 1)) 49 rfl rfl (inc_1 _) (Nat.le_of_ble_eq_true rfl) rfl ?_
      show V G M_X1_burnFuel X T 0 0 78 [some (rv (1, 99) F), some (rv (5, 99) R), some (iv (x2 + (nI 1))), some (iv v6)] [] h9
      refine V_goto 2 50 rfl (by decide +kernel) ?_
      refine V_msk [true, true, true, false] (lc' := [some (rv (1, 99) F), some (rv (5, 99) R), some (iv (x2 + (nI 1))), none]) rfl ?_
      exact hK2 (x2 + (nI 1)) h9 e
set_option maxHeartbeats 4000000 in
theorem c_X1_burnFuel {G : kG} {T : List kT} {F : Nat} {R : Nat} {h : kH} {h0 : kH} (e : p_X1_burnFuel F R h = some h0) : k_C G M_X1_burnFuel T [rv (1, 99) F, rv (5, 99) R] h none h0 := by
  refine k_C_of 2 (by decide +kernel) rfl tb_X1_burnFuel rfl (fun X hR => ?_)
  show V G M_X1_burnFuel X T 0 0 0 [some (rv (1, 99) F), some (rv (5, 99) R), none, none] [] h
  unfold p_X1_burnFuel at e
  refine V_iconst (nI 0) 0 rfl ic_0 ?_
  refine V_istore_n 1 rfl (Nat.le_of_ble_eq_true rfl) rfl ?_
  show V G M_X1_burnFuel X T 0 0 2 [some (rv (1, 99) F), some (rv (5, 99) R), some (iv (nI 0)), none] [] h
  refine V_msk [true, true, true, false] (lc' := [some (rv (1, 99) F), some (rv (5, 99) R), some (iv (nI 0)), none]) rfl ?_
  exact fx_e (P := fun s => V G M_X1_burnFuel X T 0 0 2 [some (rv (1, 99) F), some (rv (5, 99) R), some (iv s.1), none] [] s.2) (fun K2 hK2 s e => w_X1_burnFuel_2 hR F R K2 (fun x2 h e => hK2 (x2, h) e) s.1 s.2 e) FU ((nI 0), h) e
set_option maxHeartbeats 4000000 in
theorem w_J7_fill_53178_5 {G : kG} {X : kX} {T : List kT} {h0 : kH} (hR : k_R G M_J7_fill_53178 X T 0 0 none h0) (A : Nat) (K5 : Int32 × Int32 × Int32 × kH → Option (kH)) (hK5 : ∀ (x1 : Int32) (x2 : Int32) (x3 : Int32) (h : kH), K5 (x1, x2, x3, h) = some h0 → V G M_J7_fill_53178 X T 0 0 5 [some (rv (9, 30) A), some (iv x1), some (iv x2), some (iv x3)] [] h) (x1 : Int32) (x2 : Int32) (x3 : Int32) (h : kH) (e : p_J7_fill_53178_5 K5 A x1 x2 x3 h = some h0) : V G M_J7_fill_53178 X T 0 0 5 [some (rv (9, 30) A), some (iv x1), some (iv x2), some (iv x3)] [] h := by
  unfold p_J7_fill_53178_5 at e
  refine V_iload_n 5 rfl rfl ?_
  refine V_iload_n 6 rfl rfl ?_
  rcases if_e e with ⟨c7, e⟩ | ⟨c7, e⟩
  · refine V_icmp_ge 20 7 rfl (by decide +kernel) (fun _ => ?_) (fun q => absurd c7 q) 
    cases e
    exact V_vret 14 rfl hR rfl
  · refine V_icmp_ge 20 7 rfl (by decide +kernel) (fun q => absurd q c7) (fun _ => ?_)
    refine V_aload_n 8 rfl rfl ?_
    refine V_iload_n 9 rfl rfl ?_
    refine V_iload_n 10 rfl rfl ?_
    obtain ⟨g1, e⟩ := gd_e e
    refine V_iast 11 rfl g1 ?_
    refine le_V (P := fun h2 => V G M_J7_fill_53178 X T 0 0 14 [some (rv (9, 30) A), some (iv x1), some (iv x2), some (iv x3)] [] h2) e (fun h2 e => ?_)
    refine V_iinc (x2 + (nI 1)) 12 rfl rfl (inc_1 _) (Nat.le_of_ble_eq_true rfl) rfl ?_
    show V G M_J7_fill_53178 X T 0 0 17 [some (rv (9, 30) A), some (iv x1), some (iv (x2 + (nI 1))), some (iv x3)] [] h2
    refine V_goto 5 13 rfl (by decide +kernel) ?_
    refine V_msk [true, true, true, true] (lc' := [some (rv (9, 30) A), some (iv x1), some (iv (x2 + (nI 1))), some (iv x3)]) rfl ?_
    exact hK5 x1 (x2 + (nI 1)) x3 h2 e
set_option maxHeartbeats 4000000 in
theorem c_J7_fill_53178 {G : kG} {T : List kT} {A : Nat} {x1 : Int32} {h : kH} {h0 : kH} (e : p_J7_fill_53178 A x1 h = some h0) : k_C G M_J7_fill_53178 T [rv (9, 30) A, iv x1] h none h0 := by
  refine k_C_of 2 (by decide +kernel) rfl tb_J7_fill_53178 rfl (fun X hR => ?_)
  show V G M_J7_fill_53178 X T 0 0 0 [some (rv (9, 30) A), some (iv x1), none, none] [] h
  unfold p_J7_fill_53178 at e
  refine V_iconst (nI 0) 0 rfl ic_0 ?_
  refine V_istore_n 1 rfl (Nat.le_of_ble_eq_true rfl) rfl ?_
  show V G M_J7_fill_53178 X T 0 0 2 [some (rv (9, 30) A), some (iv x1), some (iv (nI 0)), none] [] h
  refine V_aload_n 2 rfl rfl ?_
  refine V_alen (nI 30) 3 rfl (by decide +kernel) ?_
  refine V_istore_n 4 rfl (Nat.le_of_ble_eq_true rfl) rfl ?_
  show V G M_J7_fill_53178 X T 0 0 5 [some (rv (9, 30) A), some (iv x1), some (iv (nI 0)), some (iv (nI 30))] [] h
  refine V_msk [true, true, true, true] (lc' := [some (rv (9, 30) A), some (iv x1), some (iv (nI 0)), some (iv (nI 30))]) rfl ?_
  exact fx_e (P := fun s => V G M_J7_fill_53178 X T 0 0 5 [some (rv (9, 30) A), some (iv s.1), some (iv s.2.1), some (iv s.2.2.1)] [] s.2.2.2) (fun K5 hK5 s e => w_J7_fill_53178_5 hR A K5 (fun x1 x2 x3 h e => hK5 (x1, x2, x3, h) e) s.1 s.2.1 s.2.2.1 s.2.2.2 e) FU (x1, (nI 0), (nI 30), h) e
set_option maxHeartbeats 4000000 in
theorem c_X1_flow {G : kG} {T : List kT} {F : Nat} {x1 : Int32} {x2 : Int32} {h : kH} {h0 : kH} (e : p_X1_flow F x1 x2 h = some h0) : k_C G M_X1_flow T [rv (1, 99) F, iv x1, iv x2] h none h0 := by
  refine k_C_of 1 (by decide +kernel) rfl tb_X1_flow rfl (fun X hR => ?_)
  show V G M_X1_flow X T 0 0 0 [some (rv (1, 99) F), some (iv x1), some (iv x2), none] [] h
  unfold p_X1_flow at e
  refine V_aload_n 0 rfl rfl ?_
  refine V_getR (F + 1) 1 rfl fr_RX1_9 ⟨Nat.le_of_ble_eq_true rfl, Or.inl (Nat.le_of_ble_eq_true rfl)⟩ rfl ?_
  refine V_iload_n 2 rfl rfl ?_
  obtain ⟨g1, e⟩ := gd_e e
  refine V_iald 3 rfl g1 ?_
  refine V_aload_n 4 rfl rfl ?_
  refine V_getR (F + 1) 5 rfl fr_RX1_9 ⟨Nat.le_of_ble_eq_true rfl, Or.inl (Nat.le_of_ble_eq_true rfl)⟩ rfl ?_
  refine V_iload_n 6 rfl rfl ?_
  obtain ⟨g2, e⟩ := gd_e e
  refine V_iald 7 rfl g2 ?_
  refine V_isub 8 rfl ?_
  refine V_bipush (nI 10) 9 rfl bp_10 ?_
  refine V_idiv 10 rfl (by decide +kernel) ?_
  refine V_istore_n 11 rfl (Nat.le_of_ble_eq_true rfl) rfl ?_
  refine le_V (P := fun v3 => V G M_X1_flow X T 0 0 17 [some (rv (1, 99) F), some (iv x1), some (iv x2), some (iv v3)] [] h) e (fun v3 e => ?_)
  refine V_aload_n 12 rfl rfl ?_
  refine V_getR (F + 6) 13 rfl fr_RX1_28 ⟨Nat.le_of_ble_eq_true rfl, Or.inl (Nat.le_of_ble_eq_true rfl)⟩ rfl ?_
  refine V_iload_n 14 rfl rfl ?_
  refine V_dup2 15 rfl nj_i nj_r ?_
  refine V_iald 16 rfl g1 ?_
  refine V_iload_n 17 rfl rfl ?_
  refine V_isub 18 rfl ?_
  refine V_iast 19 rfl g1 ?_
  refine le_V (P := fun h4 => V G M_X1_flow X T 0 0 27 [some (rv (1, 99) F), some (iv x1), some (iv x2), some (iv v3)] [] h4) e (fun h4 e => ?_)
  refine V_aload_n 20 rfl rfl ?_
  refine V_getR (F + 6) 21 rfl fr_RX1_28 ⟨Nat.le_of_ble_eq_true rfl, Or.inl (Nat.le_of_ble_eq_true rfl)⟩ rfl ?_
  refine V_iload_n 22 rfl rfl ?_
  refine V_dup2 23 rfl nj_i nj_r ?_
  refine V_iald 24 rfl g2 ?_
  refine V_iload_n 25 rfl rfl ?_
  refine V_iadd 26 rfl ?_
  refine V_iast 27 rfl g2 ?_
  refine le_V (P := fun h5 => V G M_X1_flow X T 0 0 37 [some (rv (1, 99) F), some (iv x1), some (iv x2), some (iv v3)] [] h5) e (fun h5 e => ?_)
  cases e
  exact V_vret 28 rfl hR rfl
set_option maxHeartbeats 4000000 in
theorem w_X1_spread_95 {G : kG} {X : kX} {T : List kT} {h0 : kH} (hR : k_R G M_X1_spread X T 0 0 none h0) (F : Nat) (R : Nat) (K95 : Int32 × kH → Option (kH)) (hK95 : ∀ (x2 : Int32) (h : kH), K95 (x2, h) = some h0 → V G M_X1_spread X T 0 0 95 [some (rv (1, 99) F), some (rv (5, 99) R), some (iv x2), none, none] [] h) (x2 : Int32) (h : kH) (e : p_X1_spread_95 K95 F R x2 h = some h0) : V G M_X1_spread X T 0 0 95 [some (rv (1, 99) F), some (rv (5, 99) R), some (iv x2), none, none] [] h := by
  unfold p_X1_spread_95 at e
  refine V_iload_n 54 rfl rfl ?_
  refine V_aload_n 55 rfl rfl ?_
  obtain ⟨v5, h3, d4, e⟩ := bd2_e e
  refine V_callVN (N := M_X5_cells) (av := []) (st := [iv x2]) (r := some (iv v5)) (h' := h3) 56 rfl (c_X5_cells d4) g_X5_cells gv_X5_cells nk_RX1_46 ⟨Nat.le_of_ble_eq_true rfl, Nat.le_of_ble_eq_true rfl⟩ rfl rfl (Nat.le_of_ble_eq_true rfl) ⟨Nat.zero_le _, Nat.zero_le _⟩ ?_
  show V G M_X1_spread X T 0 0 100 [some (rv (1, 99) F), some (rv (5, 99) R), some (iv x2), none, none] [iv v5, iv x2] h3
  rcases if_e e with ⟨c57, e⟩ | ⟨c57, e⟩
  · refine V_icmp_ge 124 57 rfl (by decide +kernel) (fun _ => ?_) (fun q => absurd c57 q) 
    cases e
    exact V_vret 71 rfl hR rfl
  · refine V_icmp_ge 124 57 rfl (by decide +kernel) (fun q => absurd q c57) (fun _ => ?_)
    refine V_aload_n 58 rfl rfl ?_
    refine V_getR (F + 1) 59 rfl fr_RX1_9 ⟨Nat.le_of_ble_eq_true rfl, Or.inl (Nat.le_of_ble_eq_true rfl)⟩ rfl ?_
    refine V_iload_n 60 rfl rfl ?_
    refine V_dup2 61 rfl nj_i nj_r ?_
    obtain ⟨g6, e⟩ := gd_e e
    refine V_iald 62 rfl g6 ?_
    refine V_aload_n 63 rfl rfl ?_
    refine V_getR (F + 6) 64 rfl fr_RX1_28 ⟨Nat.le_of_ble_eq_true rfl, Or.inl (Nat.le_of_ble_eq_true rfl)⟩ rfl ?_
    refine V_iload_n 65 rfl rfl ?_
    refine V_iald 66 rfl g6 ?_
    refine V_iadd 67 rfl ?_
    refine V_iast 68 rfl g6 ?_
    refine le_V (P := fun h7 => V G M_X1_spread X T 0 0 118 [some (rv (1, 99) F), some (rv (5, 99) R), some (iv x2), none, none] [] h7) e (fun h7 e => ?_)
    refine V_iinc (x2 + (nI 1)) 69 rfl rfl (inc_1 _) (Nat.le_of_ble_eq_true rfl) rfl ?_
    show V G M_X1_spread X T 0 0 121 [some (rv (1, 99) F), some (rv (5, 99) R), some (iv (x2 + (nI 1))), none, none] [] h7
    refine V_goto 95 70 rfl (by decide +kernel) ?_
    refine V_msk [true, true, true, false, false] (lc' := [some (rv (1, 99) F), some (rv (5, 99) R), some (iv (x2 + (nI 1))), none, none]) rfl ?_
    exact hK95 (x2 + (nI 1)) h7 e
set_option maxHeartbeats 4000000 in
theorem w_X1_spread_58 {G : kG} {X : kX} {T : List kT} {h0 : kH} (hR : k_R G M_X1_spread X T 0 0 none h0) (F : Nat) (R : Nat) (K10 : Int32 × kH → Option (kH)) (K20 : Int32 × Int32 × kH → Option (kH)) (hK10 : ∀ (x2 : Int32) (h : kH), K10 (x2, h) = some h0 → V G M_X1_spread X T 0 0 10 [some (rv (1, 99) F), some (rv (5, 99) R), some (iv x2), none, none] [] h) (hK20 : ∀ (x2 : Int32) (x3 : Int32) (h : kH), K20 (x2, x3, h) = some h0 → V G M_X1_spread X T 0 0 20 [some (rv (1, 99) F), some (rv (5, 99) R), some (iv x2), some (iv x3), none] [] h) (x2 : Int32) (x3 : Int32) (x4 : Int32) (h : kH) (e : p_X1_spread_58 K10 K20 F R x2 x3 x4 h = some h0) : V G M_X1_spread X T 0 0 58 [some (rv (1, 99) F), some (rv (5, 99) R), some (iv x2), some (iv x3), some (iv x4)] [] h := by
  unfold p_X1_spread_58 at e
  refine V_iload_n 35 rfl rfl ?_
  refine V_iconst (nI 1) 36 rfl ic_1 ?_
  refine V_iadd 37 rfl ?_
  refine V_aload_n 38 rfl rfl ?_
  refine V_getI 39 rfl fi_RX1_70 ?_
  rcases if_e e with ⟨c40, e⟩ | ⟨c40, e⟩
  · refine V_icmp_ge 81 40 rfl (by decide +kernel) (fun _ => ?_) (fun q => absurd c40 q) 
    refine V_iinc (x3 + (nI 1)) 48 rfl rfl (inc_1 _) (Nat.le_of_ble_eq_true rfl) rfl ?_
    show V G M_X1_spread X T 0 0 84 [some (rv (1, 99) F), some (rv (5, 99) R), some (iv x2), some (iv (x3 + (nI 1))), some (iv x4)] [] h
    refine V_goto 20 49 rfl (by decide +kernel) ?_
    refine V_msk [true, true, true, true, false] (lc' := [some (rv (1, 99) F), some (rv (5, 99) R), some (iv x2), some (iv (x3 + (nI 1))), none]) rfl ?_
    exact hK20 x2 (x3 + (nI 1)) h e
  · refine V_icmp_ge 81 40 rfl (by decide +kernel) (fun q => absurd q c40) (fun _ => ?_)
    refine V_aload_n 41 rfl rfl ?_
    refine V_iload 42 rfl rfl ?_
    refine V_iload 43 rfl rfl ?_
    refine V_aload_n 44 rfl rfl ?_
    refine V_getI 45 rfl fi_RX1_74 ?_
    refine V_iadd 46 rfl ?_
    obtain ⟨h9, d10, e⟩ := bd_e e
    refine V_callV (N := M_X1_flow) (av := [iv x4, iv (x4 + (h R 0))]) (st := []) (r := none) (h' := h9) 47 rfl (c_X1_flow d10) g_X1_flow gv_X1_flow lk_RX1_77 ⟨Nat.le_of_ble_eq_true rfl, Nat.le_of_ble_eq_true rfl⟩ rfl rfl (Nat.le_of_ble_eq_true rfl) ⟨Nat.zero_le _, Nat.zero_le _⟩ ?_
    show V G M_X1_spread X T 0 0 81 [some (rv (1, 99) F), some (rv (5, 99) R), some (iv x2), some (iv x3), some (iv x4)] [] h9
    refine V_iinc (x3 + (nI 1)) 48 rfl rfl (inc_1 _) (Nat.le_of_ble_eq_true rfl) rfl ?_
    show V G M_X1_spread X T 0 0 84 [some (rv (1, 99) F), some (rv (5, 99) R), some (iv x2), some (iv (x3 + (nI 1))), some (iv x4)] [] h9
    refine V_goto 20 49 rfl (by decide +kernel) ?_
    refine V_msk [true, true, true, true, false] (lc' := [some (rv (1, 99) F), some (rv (5, 99) R), some (iv x2), some (iv (x3 + (nI 1))), none]) rfl ?_
    exact hK20 x2 (x3 + (nI 1)) h9 e
set_option maxHeartbeats 4000000 in
theorem w_X1_spread_20 {G : kG} {X : kX} {T : List kT} {h0 : kH} (hR : k_R G M_X1_spread X T 0 0 none h0) (F : Nat) (R : Nat) (K10 : Int32 × kH → Option (kH)) (K20 : Int32 × Int32 × kH → Option (kH)) (hK10 : ∀ (x2 : Int32) (h : kH), K10 (x2, h) = some h0 → V G M_X1_spread X T 0 0 10 [some (rv (1, 99) F), some (rv (5, 99) R), some (iv x2), none, none] [] h) (hK20 : ∀ (x2 : Int32) (x3 : Int32) (h : kH), K20 (x2, x3, h) = some h0 → V G M_X1_spread X T 0 0 20 [some (rv (1, 99) F), some (rv (5, 99) R), some (iv x2), some (iv x3), none] [] h) (x2 : Int32) (x3 : Int32) (h : kH) (e : p_X1_spread_20 K10 K20 F R x2 x3 h = some h0) : V G M_X1_spread X T 0 0 20 [some (rv (1, 99) F), some (rv (5, 99) R), some (iv x2), some (iv x3), none] [] h := by
  unfold p_X1_spread_20 at e
  refine V_iload_n 12 rfl rfl ?_
  refine V_aload_n 13 rfl rfl ?_
  refine V_getI 14 rfl fi_RX1_74 ?_
  rcases if_e e with ⟨c15, e⟩ | ⟨c15, e⟩
  · refine V_icmp_ge 87 15 rfl (by decide +kernel) (fun _ => ?_) (fun q => absurd c15 q) 
    refine V_iinc (x2 + (nI 1)) 50 rfl rfl (inc_1 _) (Nat.le_of_ble_eq_true rfl) rfl ?_
    show V G M_X1_spread X T 0 0 90 [some (rv (1, 99) F), some (rv (5, 99) R), some (iv (x2 + (nI 1))), some (iv x3), none] [] h
    refine V_goto 10 51 rfl (by decide +kernel) ?_
    refine V_msk [true, true, true, false, false] (lc' := [some (rv (1, 99) F), some (rv (5, 99) R), some (iv (x2 + (nI 1))), none, none]) rfl ?_
    exact hK10 (x2 + (nI 1)) h e
  · refine V_icmp_ge 87 15 rfl (by decide +kernel) (fun q => absurd q c15) (fun _ => ?_)
    refine V_iload_n 16 rfl rfl ?_
    refine V_aload_n 17 rfl rfl ?_
    refine V_getI 18 rfl fi_RX1_74 ?_
    refine V_iload_n 19 rfl rfl ?_
    refine V_imul 20 rfl ?_
    refine V_iadd 21 rfl ?_
    refine V_istore 22 rfl (Nat.le_of_ble_eq_true rfl) rfl ?_
    refine le_V (P := fun v8 => V G M_X1_spread X T 0 0 38 [some (rv (1, 99) F), some (rv (5, 99) R), some (iv x2), some (iv x3), some (iv v8)] [] h) e (fun v8 e => ?_)
    refine V_iload_n 23 rfl rfl ?_
    refine V_iconst (nI 1) 24 rfl ic_1 ?_
    refine V_iadd 25 rfl ?_
    refine V_aload_n 26 rfl rfl ?_
    refine V_getI 27 rfl fi_RX1_74 ?_
    rcases if_e e with ⟨c28, e⟩ | ⟨c28, e⟩
    · refine V_icmp_ge 58 28 rfl (by decide +kernel) (fun _ => ?_) (fun q => absurd c28 q) 
      refine V_msk [true, true, true, true, true] (lc' := [some (rv (1, 99) F), some (rv (5, 99) R), some (iv x2), some (iv x3), some (iv v8)]) rfl ?_
      exact w_X1_spread_58 hR F R K10 K20 hK10 hK20 x2 x3 v8 h e
    · refine V_icmp_ge 58 28 rfl (by decide +kernel) (fun q => absurd q c28) (fun _ => ?_)
      refine V_aload_n 29 rfl rfl ?_
      refine V_iload 30 rfl rfl ?_
      refine V_iload 31 rfl rfl ?_
      refine V_iconst (nI 1) 32 rfl ic_1 ?_
      refine V_iadd 33 rfl ?_
      obtain ⟨h11, d12, e⟩ := bd_e e
      refine V_callV (N := M_X1_flow) (av := [iv v8, iv (v8 + (nI 1))]) (st := []) (r := none) (h' := h11) 34 rfl (c_X1_flow d12) g_X1_flow gv_X1_flow lk_RX1_77 ⟨Nat.le_of_ble_eq_true rfl, Nat.le_of_ble_eq_true rfl⟩ rfl rfl (Nat.le_of_ble_eq_true rfl) ⟨Nat.zero_le _, Nat.zero_le _⟩ ?_
      show V G M_X1_spread X T 0 0 58 [some (rv (1, 99) F), some (rv (5, 99) R), some (iv x2), some (iv x3), some (iv v8)] [] h11
      refine V_msk [true, true, true, true, true] (lc' := [some (rv (1, 99) F), some (rv (5, 99) R), some (iv x2), some (iv x3), some (iv v8)]) rfl ?_
      exact w_X1_spread_58 hR F R K10 K20 hK10 hK20 x2 x3 v8 h11 e
set_option maxHeartbeats 4000000 in
theorem w_X1_spread_10 {G : kG} {X : kX} {T : List kT} {h0 : kH} (hR : k_R G M_X1_spread X T 0 0 none h0) (F : Nat) (R : Nat) (K10 : Int32 × kH → Option (kH)) (hK10 : ∀ (x2 : Int32) (h : kH), K10 (x2, h) = some h0 → V G M_X1_spread X T 0 0 10 [some (rv (1, 99) F), some (rv (5, 99) R), some (iv x2), none, none] [] h) (x2 : Int32) (h : kH) (e : p_X1_spread_10 K10 F R x2 h = some h0) : V G M_X1_spread X T 0 0 10 [some (rv (1, 99) F), some (rv (5, 99) R), some (iv x2), none, none] [] h := by
  unfold p_X1_spread_10 at e
  refine V_iload_n 6 rfl rfl ?_
  refine V_aload_n 7 rfl rfl ?_
  refine V_getI 8 rfl fi_RX1_70 ?_
  rcases if_e e with ⟨c9, e⟩ | ⟨c9, e⟩
  · refine V_icmp_ge 93 9 rfl (by decide +kernel) (fun _ => ?_) (fun q => absurd c9 q) 
    refine V_iconst (nI 0) 52 rfl ic_0 ?_
    refine V_istore_n 53 rfl (Nat.le_of_ble_eq_true rfl) rfl ?_
    show V G M_X1_spread X T 0 0 95 [some (rv (1, 99) F), some (rv (5, 99) R), some (iv (nI 0)), none, none] [] h
    refine V_msk [true, true, true, false, false] (lc' := [some (rv (1, 99) F), some (rv (5, 99) R), some (iv (nI 0)), none, none]) rfl ?_
    exact fx_e (P := fun s => V G M_X1_spread X T 0 0 95 [some (rv (1, 99) F), some (rv (5, 99) R), some (iv s.1), none, none] [] s.2) (fun K95 hK95 s e => w_X1_spread_95 hR F R K95 (fun x2 h e => hK95 (x2, h) e) s.1 s.2 e) FU ((nI 0), h) e
  · refine V_icmp_ge 93 9 rfl (by decide +kernel) (fun q => absurd q c9) (fun _ => ?_)
    refine V_iconst (nI 0) 10 rfl ic_0 ?_
    refine V_istore_n 11 rfl (Nat.le_of_ble_eq_true rfl) rfl ?_
    show V G M_X1_spread X T 0 0 20 [some (rv (1, 99) F), some (rv (5, 99) R), some (iv x2), some (iv (nI 0)), none] [] h
    refine V_msk [true, true, true, true, false] (lc' := [some (rv (1, 99) F), some (rv (5, 99) R), some (iv x2), some (iv (nI 0)), none]) rfl ?_
    exact fx_e (P := fun s => V G M_X1_spread X T 0 0 20 [some (rv (1, 99) F), some (rv (5, 99) R), some (iv s.1), some (iv s.2.1), none] [] s.2.2) (fun K20 hK20 s e => w_X1_spread_20 hR F R K10 K20 hK10 (fun x2 x3 h e => hK20 (x2, x3, h) e) s.1 s.2.1 s.2.2 e) FU (x2, (nI 0), h) e
set_option maxHeartbeats 4000000 in
theorem c_X1_spread {G : kG} {T : List kT} {F : Nat} {R : Nat} {h : kH} {h0 : kH} (e : p_X1_spread F R h = some h0) : k_C G M_X1_spread T [rv (1, 99) F, rv (5, 99) R] h none h0 := by
  refine k_C_of 3 (by decide +kernel) rfl tb_X1_spread rfl (fun X hR => ?_)
  show V G M_X1_spread X T 0 0 0 [some (rv (1, 99) F), some (rv (5, 99) R), none, none, none] [] h
  unfold p_X1_spread at e
  refine V_aload_n 0 rfl rfl ?_
  refine V_getR (F + 6) 1 rfl fr_RX1_28 ⟨Nat.le_of_ble_eq_true rfl, Or.inl (Nat.le_of_ble_eq_true rfl)⟩ rfl ?_
  refine V_iconst (nI 0) 2 rfl ic_0 ?_
  obtain ⟨h1, d2, e⟩ := bd_e e
  refine V_callS (N := M_J7_fill_53178) (av := [rv (9, 30) (F + 6), iv (nI 0)]) (st := []) (r := none) (h' := h1) 3 rfl (c_J7_fill_53178 d2) g_J7_fill_53178 gs_J7_fill_53178 lk_RX1_64 ⟨Nat.le_of_ble_eq_true rfl, Nat.le_of_ble_eq_true rfl⟩ rfl (Nat.le_of_ble_eq_true rfl) ⟨Nat.zero_le _, Nat.zero_le _⟩ ?_
  show V G M_X1_spread X T 0 0 8 [some (rv (1, 99) F), some (rv (5, 99) R), none, none, none] [] h1
  refine V_iconst (nI 0) 4 rfl ic_0 ?_
  refine V_istore_n 5 rfl (Nat.le_of_ble_eq_true rfl) rfl ?_
  show V G M_X1_spread X T 0 0 10 [some (rv (1, 99) F), some (rv (5, 99) R), some (iv (nI 0)), none, none] [] h1
  refine V_msk [true, true, true, false, false] (lc' := [some (rv (1, 99) F), some (rv (5, 99) R), some (iv (nI 0)), none, none]) rfl ?_
  exact fx_e (P := fun s => V G M_X1_spread X T 0 0 10 [some (rv (1, 99) F), some (rv (5, 99) R), some (iv s.1), none, none] [] s.2) (fun K10 hK10 s e => w_X1_spread_10 hR F R K10 (fun x2 h e => hK10 (x2, h) e) s.1 s.2 e) FU ((nI 0), h1) e
set_option maxHeartbeats 4000000 in
theorem w_X1_cool_46 {G : kG} {X : kX} {T : List kT} {h0 : kH} (hR : k_R G M_X1_cool X T 0 0 none h0) (F : Nat) (R : Nat) (K2 : Int32 × Int32 × kH → Option (kH)) (hK2 : ∀ (x2 : Int32) (x3 : Int32) (h : kH), K2 (x2, x3, h) = some h0 → V G M_X1_cool X T 0 0 2 [some (rv (1, 99) F), some (rv (5, 99) R), some (iv x2), some (iv x3), none] [] h) (x2 : Int32) (x3 : Int32) (x4 : Int32) (h : kH) (e : p_X1_cool_46 K2 F R x2 x3 x4 h = some h0) : V G M_X1_cool X T 0 0 46 [some (rv (1, 99) F), some (rv (5, 99) R), some (iv x2), some (iv x3), some (iv x4)] [] h := by
  unfold p_X1_cool_46 at e
  refine V_aload_n 29 rfl rfl ?_
  refine V_getR (F + 1) 30 rfl fr_RX1_9 ⟨Nat.le_of_ble_eq_true rfl, Or.inl (Nat.le_of_ble_eq_true rfl)⟩ rfl ?_
  refine V_iload_n 31 rfl rfl ?_
  refine V_sipush (nI 3000) 32 rfl sp_3000 ?_
  refine V_aload_n 33 rfl rfl ?_
  refine V_getR (F + 1) 34 rfl fr_RX1_9 ⟨Nat.le_of_ble_eq_true rfl, Or.inl (Nat.le_of_ble_eq_true rfl)⟩ rfl ?_
  refine V_iload_n 35 rfl rfl ?_
  obtain ⟨g6, e⟩ := gd_e e
  refine V_iald 36 rfl g6 ?_
  refine V_iload 37 rfl rfl ?_
  refine V_isub 38 rfl ?_
  refine V_mmin 39 rfl lm_RX1_55 mmin_1 mmin_2 mmin_3 ⟨Nat.le_of_ble_eq_true rfl, Nat.le_of_ble_eq_true rfl⟩ ⟨Nat.zero_le _, Nat.zero_le _⟩ ?_
  refine V_iast 40 rfl g6 ?_
  refine le_V (P := fun h7 => V G M_X1_cool X T 0 0 67 [some (rv (1, 99) F), some (rv (5, 99) R), some (iv x2), some (iv x3), some (iv x4)] [] h7) e (fun h7 e => ?_)
  refine V_aload_n 41 rfl rfl ?_
  refine V_getR (F + 1) 42 rfl fr_RX1_9 ⟨Nat.le_of_ble_eq_true rfl, Or.inl (Nat.le_of_ble_eq_true rfl)⟩ rfl ?_
  refine V_iload_n 43 rfl rfl ?_
  refine V_iald 44 rfl g6 ?_
  refine V_sipush (nI 200) 45 rfl sp_200 ?_
  rcases if_e e with ⟨c46, e⟩ | ⟨c46, e⟩
  · refine V_icmp_lt 86 46 rfl (by decide +kernel) (fun _ => ?_) (fun q => absurd c46 q) 
    refine V_iinc (x3 + (nI 1)) 52 rfl rfl (inc_1 _) (Nat.le_of_ble_eq_true rfl) rfl ?_
    show V G M_X1_cool X T 0 0 89 [some (rv (1, 99) F), some (rv (5, 99) R), some (iv x2), some (iv (x3 + (nI 1))), some (iv x4)] [] h7
    refine V_goto 2 53 rfl (by decide +kernel) ?_
    refine V_msk [true, true, true, true, false] (lc' := [some (rv (1, 99) F), some (rv (5, 99) R), some (iv x2), some (iv (x3 + (nI 1))), none]) rfl ?_
    exact hK2 x2 (x3 + (nI 1)) h7 e
  · refine V_icmp_lt 86 46 rfl (by decide +kernel) (fun q => absurd q c46) (fun _ => ?_)
    refine V_aload_n 47 rfl rfl ?_
    refine V_getR (F + 4) 48 rfl fr_RX1_21 ⟨Nat.le_of_ble_eq_true rfl, Or.inl (Nat.le_of_ble_eq_true rfl)⟩ rfl ?_
    refine V_iload_n 49 rfl rfl ?_
    refine V_iconst (nI 1) 50 rfl ic_1 ?_
    refine V_zast 51 rfl g6 ?_
    refine le_V (P := fun h8 => V G M_X1_cool X T 0 0 86 [some (rv (1, 99) F), some (rv (5, 99) R), some (iv x2), some (iv x3), some (iv x4)] [] h8) e (fun h8 e => ?_)
    refine V_iinc (x3 + (nI 1)) 52 rfl rfl (inc_1 _) (Nat.le_of_ble_eq_true rfl) rfl ?_
    show V G M_X1_cool X T 0 0 89 [some (rv (1, 99) F), some (rv (5, 99) R), some (iv x2), some (iv (x3 + (nI 1))), some (iv x4)] [] h8
    refine V_goto 2 53 rfl (by decide +kernel) ?_
    refine V_msk [true, true, true, true, false] (lc' := [some (rv (1, 99) F), some (rv (5, 99) R), some (iv x2), some (iv (x3 + (nI 1))), none]) rfl ?_
    exact hK2 x2 (x3 + (nI 1)) h8 e
set_option maxHeartbeats 4000000 in
theorem w_X1_cool_2 {G : kG} {X : kX} {T : List kT} {h0 : kH} (hR : k_R G M_X1_cool X T 0 0 none h0) (F : Nat) (R : Nat) (K2 : Int32 × Int32 × kH → Option (kH)) (hK2 : ∀ (x2 : Int32) (x3 : Int32) (h : kH), K2 (x2, x3, h) = some h0 → V G M_X1_cool X T 0 0 2 [some (rv (1, 99) F), some (rv (5, 99) R), some (iv x2), some (iv x3), none] [] h) (x2 : Int32) (x3 : Int32) (h : kH) (e : p_X1_cool_2 K2 F R x2 x3 h = some h0) : V G M_X1_cool X T 0 0 2 [some (rv (1, 99) F), some (rv (5, 99) R), some (iv x2), some (iv x3), none] [] h := by
  unfold p_X1_cool_2 at e
  refine V_iload_n 2 rfl rfl ?_
  refine V_aload_n 3 rfl rfl ?_
  obtain ⟨v3, h1, d2, e⟩ := bd2_e e
  refine V_callVN (N := M_X5_cells) (av := []) (st := [iv x3]) (r := some (iv v3)) (h' := h1) 4 rfl (c_X5_cells d2) g_X5_cells gv_X5_cells nk_RX1_46 ⟨Nat.le_of_ble_eq_true rfl, Nat.le_of_ble_eq_true rfl⟩ rfl rfl (Nat.le_of_ble_eq_true rfl) ⟨Nat.zero_le _, Nat.zero_le _⟩ ?_
  show V G M_X1_cool X T 0 0 7 [some (rv (1, 99) F), some (rv (5, 99) R), some (iv x2), some (iv x3), none] [iv v3, iv x3] h1
  rcases if_e e with ⟨c5, e⟩ | ⟨c5, e⟩
  · refine V_icmp_ge 92 5 rfl (by decide +kernel) (fun _ => ?_) (fun q => absurd c5 q) 
    cases e
    exact V_vret 54 rfl hR rfl
  · refine V_icmp_ge 92 5 rfl (by decide +kernel) (fun q => absurd q c5) (fun _ => ?_)
    refine V_aload_n 6 rfl rfl ?_
    refine V_getR (F + 1) 7 rfl fr_RX1_9 ⟨Nat.le_of_ble_eq_true rfl, Or.inl (Nat.le_of_ble_eq_true rfl)⟩ rfl ?_
    refine V_iload_n 8 rfl rfl ?_
    obtain ⟨g4, e⟩ := gd_e e
    refine V_iald 9 rfl g4 ?_
    refine V_bipush (nI 20) 10 rfl bp_20 ?_
    refine V_isub 11 rfl ?_
    refine V_aload_n 12 rfl rfl ?_
    refine V_getI 13 rfl fi_RX1_81 ?_
    refine V_iload_n 14 rfl rfl ?_
    refine V_iadd 15 rfl ?_
    refine V_imul 16 rfl ?_
    refine V_bipush (nI 100) 17 rfl bp_100 ?_
    refine V_idiv 18 rfl (by decide +kernel) ?_
    refine V_istore 19 rfl (Nat.le_of_ble_eq_true rfl) rfl ?_
    refine le_V (P := fun v5 => V G M_X1_cool X T 0 0 31 [some (rv (1, 99) F), some (rv (5, 99) R), some (iv x2), some (iv x3), some (iv v5)] [] h1) e (fun v5 e => ?_)
    refine V_aload_n 20 rfl rfl ?_
    refine V_getR (F + 5) 21 rfl fr_RX1_25 ⟨Nat.le_of_ble_eq_true rfl, Or.inl (Nat.le_of_ble_eq_true rfl)⟩ rfl ?_
    refine V_iload_n 22 rfl rfl ?_
    refine V_zald 23 rfl g4 ?_
    rcases if_e e with ⟨c24, e⟩ | ⟨c24, e⟩
    · refine V_if_eq 46 24 rfl (by decide +kernel) (fun _ => ?_) (fun q => absurd c24 q) 
      refine V_msk [true, true, true, true, true] (lc' := [some (rv (1, 99) F), some (rv (5, 99) R), some (iv x2), some (iv x3), some (iv v5)]) rfl ?_
      exact w_X1_cool_46 hR F R K2 hK2 x2 x3 v5 h1 e
    · refine V_if_eq 46 24 rfl (by decide +kernel) (fun q => absurd q c24) (fun _ => ?_)
      refine V_iload 25 rfl rfl ?_
      refine V_iconst (nI 2) 26 rfl ic_2 ?_
      refine V_idiv 27 rfl (by decide +kernel) ?_
      refine V_istore 28 rfl (Nat.le_of_ble_eq_true rfl) rfl ?_
      refine le_V (P := fun v9 => V G M_X1_cool X T 0 0 46 [some (rv (1, 99) F), some (rv (5, 99) R), some (iv x2), some (iv x3), some (iv v9)] [] h1) e (fun v9 e => ?_)
      refine V_msk [true, true, true, true, true] (lc' := [some (rv (1, 99) F), some (rv (5, 99) R), some (iv x2), some (iv x3), some (iv v9)]) rfl ?_
      exact w_X1_cool_46 hR F R K2 hK2 x2 x3 v9 h1 e
set_option maxHeartbeats 4000000 in
theorem c_X1_cool {G : kG} {T : List kT} {F : Nat} {R : Nat} {x2 : Int32} {h : kH} {h0 : kH} (e : p_X1_cool F R x2 h = some h0) : k_C G M_X1_cool T [rv (1, 99) F, rv (5, 99) R, iv x2] h none h0 := by
  refine k_C_of 2 (by decide +kernel) rfl tb_X1_cool rfl (fun X hR => ?_)
  show V G M_X1_cool X T 0 0 0 [some (rv (1, 99) F), some (rv (5, 99) R), some (iv x2), none, none] [] h
  unfold p_X1_cool at e
  refine V_iconst (nI 0) 0 rfl ic_0 ?_
  refine V_istore_n 1 rfl (Nat.le_of_ble_eq_true rfl) rfl ?_
  show V G M_X1_cool X T 0 0 2 [some (rv (1, 99) F), some (rv (5, 99) R), some (iv x2), some (iv (nI 0)), none] [] h
  refine V_msk [true, true, true, true, false] (lc' := [some (rv (1, 99) F), some (rv (5, 99) R), some (iv x2), some (iv (nI 0)), none]) rfl ?_
  exact fx_e (P := fun s => V G M_X1_cool X T 0 0 2 [some (rv (1, 99) F), some (rv (5, 99) R), some (iv s.1), some (iv s.2.1), none] [] s.2.2) (fun K2 hK2 s e => w_X1_cool_2 hR F R K2 (fun x2 x3 h e => hK2 (x2, x3, h) e) s.1 s.2.1 s.2.2 e) FU (x2, (nI 0), h) e
set_option maxHeartbeats 4000000 in
theorem c_X1_burn {G : kG} {T : List kT} {F : Nat} {R : Nat} {x2 : Int32} {h : kH} {h0 : kH} (e : p_X1_burn F R x2 h = some h0) : k_C G M_X1_burn T [rv (1, 99) F, rv (5, 99) R, iv x2] h none h0 := by
  refine k_C_of 0 (by decide +kernel) rfl tb_X1_burn rfl (fun X hR => ?_)
  show V G M_X1_burn X T 0 0 0 [some (rv (1, 99) F), some (rv (5, 99) R), some (iv x2)] [] h
  unfold p_X1_burn at e
  refine V_aload_n 0 rfl rfl ?_
  refine V_aload_n 1 rfl rfl ?_
  obtain ⟨h1, d2, e⟩ := bd_e e
  refine V_callV (N := M_X1_burnFuel) (av := [rv (5, 99) R]) (st := []) (r := none) (h' := h1) 2 rfl (c_X1_burnFuel d2) g_X1_burnFuel gv_X1_burnFuel lk_RX1_35 ⟨Nat.le_of_ble_eq_true rfl, Nat.le_of_ble_eq_true rfl⟩ rfl rfl (Nat.le_of_ble_eq_true rfl) ⟨Nat.zero_le _, Nat.zero_le _⟩ ?_
  show V G M_X1_burn X T 0 0 5 [some (rv (1, 99) F), some (rv (5, 99) R), some (iv x2)] [] h1
  refine V_aload_n 3 rfl rfl ?_
  refine V_aload_n 4 rfl rfl ?_
  obtain ⟨h3, d4, e⟩ := bd_e e
  refine V_callV (N := M_X1_spread) (av := [rv (5, 99) R]) (st := []) (r := none) (h' := h3) 5 rfl (c_X1_spread d4) g_X1_spread gv_X1_spread lk_RX1_39 ⟨Nat.le_of_ble_eq_true rfl, Nat.le_of_ble_eq_true rfl⟩ rfl rfl (Nat.le_of_ble_eq_true rfl) ⟨Nat.zero_le _, Nat.zero_le _⟩ ?_
  show V G M_X1_burn X T 0 0 10 [some (rv (1, 99) F), some (rv (5, 99) R), some (iv x2)] [] h3
  refine V_aload_n 6 rfl rfl ?_
  refine V_aload_n 7 rfl rfl ?_
  refine V_iload_n 8 rfl rfl ?_
  obtain ⟨h5, d6, e⟩ := bd_e e
  refine V_callV (N := M_X1_cool) (av := [rv (5, 99) R, iv x2]) (st := []) (r := none) (h' := h5) 9 rfl (c_X1_cool d6) g_X1_cool gv_X1_cool lk_RX1_42 ⟨Nat.le_of_ble_eq_true rfl, Nat.le_of_ble_eq_true rfl⟩ rfl rfl (Nat.le_of_ble_eq_true rfl) ⟨Nat.zero_le _, Nat.zero_le _⟩ ?_
  show V G M_X1_burn X T 0 0 16 [some (rv (1, 99) F), some (rv (5, 99) R), some (iv x2)] [] h5
  cases e
  exact V_vret 10 rfl hR rfl
set_option maxHeartbeats 4000000 in
theorem w_X1_tell_40 {G : kG} {X : kX} {T : List kT} {h0 : kH} (hR : k_R G M_X1_tell X T 0 0 none h0) (F : Nat) (K2 : Int32 × Int32 × kH → Option (kH)) (hK2 : ∀ (x2 : Int32) (x3 : Int32) (h : kH), K2 (x2, x3, h) = some h0 → V G M_X1_tell X T 0 0 2 [some (rv (1, 99) F), some (rv (0, 99) 132), some (iv x2), some (iv x3)] [] h) (x2 : Int32) (x3 : Int32) (s0 : Int32) (s1 : Int32) (s2 : Int32) (s3 : Int32) (h : kH) (e : p_X1_tell_40 K2 F x2 x3 s0 s1 s2 s3 h = some h0) : V G M_X1_tell X T 0 0 40 [some (rv (1, 99) F), some (rv (0, 99) 132), some (iv x2), some (iv x3)] [iv s0, iv s1, iv s2, iv s3, rv (0, 99) 132] h := by
  unfold p_X1_tell_40 at e
  obtain ⟨h2, d3, e⟩ := bd_e e
  refine V_callVN (N := M_X0_put) (av := [iv s3, iv s2, iv s1, iv s0]) (st := []) (r := none) (h' := h2) 25 rfl (c_X0_put d3) g_X0_put gv_X0_put nk_RX1_84 ⟨Nat.le_of_ble_eq_true rfl, Nat.le_of_ble_eq_true rfl⟩ rfl rfl (Nat.le_of_ble_eq_true rfl) ⟨Nat.zero_le _, Nat.zero_le _⟩ ?_
  show V G M_X1_tell X T 0 0 43 [some (rv (1, 99) F), some (rv (0, 99) 132), some (iv x2), some (iv x3)] [] h2
  refine V_iinc (x3 + (nI 1)) 26 rfl rfl (inc_1 _) (Nat.le_of_ble_eq_true rfl) rfl ?_
  show V G M_X1_tell X T 0 0 46 [some (rv (1, 99) F), some (rv (0, 99) 132), some (iv x2), some (iv (x3 + (nI 1)))] [] h2
  refine V_goto 2 27 rfl (by decide +kernel) ?_
  refine V_msk [true, true, true, true] (lc' := [some (rv (1, 99) F), some (rv (0, 99) 132), some (iv x2), some (iv (x3 + (nI 1)))]) rfl ?_
  exact hK2 x2 (x3 + (nI 1)) h2 e
set_option maxHeartbeats 4000000 in
theorem w_X1_tell_35 {G : kG} {X : kX} {T : List kT} {h0 : kH} (hR : k_R G M_X1_tell X T 0 0 none h0) (F : Nat) (K2 : Int32 × Int32 × kH → Option (kH)) (hK2 : ∀ (x2 : Int32) (x3 : Int32) (h : kH), K2 (x2, x3, h) = some h0 → V G M_X1_tell X T 0 0 2 [some (rv (1, 99) F), some (rv (0, 99) 132), some (iv x2), some (iv x3)] [] h) (x2 : Int32) (x3 : Int32) (s0 : Int32) (s1 : Int32) (s2 : Int32) (h : kH) (e : p_X1_tell_35 K2 F x2 x3 s0 s1 s2 h = some h0) : V G M_X1_tell X T 0 0 35 [some (rv (1, 99) F), some (rv (0, 99) 132), some (iv x2), some (iv x3)] [iv s0, iv s1, iv s2, rv (0, 99) 132] h := by
  unfold p_X1_tell_35 at e
  refine V_iconst (nI 1) 22 rfl ic_1 ?_
  refine V_goto 40 23 rfl (by decide +kernel) ?_
  refine V_msk [true, true, true, true] (lc' := [some (rv (1, 99) F), some (rv (0, 99) 132), some (iv x2), some (iv x3)]) rfl ?_
  exact w_X1_tell_40 hR F K2 hK2 x2 x3 (nI 1) s0 s1 s2 h e
set_option maxHeartbeats 4000000 in
theorem w_X1_tell_2 {G : kG} {X : kX} {T : List kT} {h0 : kH} (hR : k_R G M_X1_tell X T 0 0 none h0) (F : Nat) (K2 : Int32 × Int32 × kH → Option (kH)) (hK2 : ∀ (x2 : Int32) (x3 : Int32) (h : kH), K2 (x2, x3, h) = some h0 → V G M_X1_tell X T 0 0 2 [some (rv (1, 99) F), some (rv (0, 99) 132), some (iv x2), some (iv x3)] [] h) (x2 : Int32) (x3 : Int32) (h : kH) (e : p_X1_tell_2 K2 F x2 x3 h = some h0) : V G M_X1_tell X T 0 0 2 [some (rv (1, 99) F), some (rv (0, 99) 132), some (iv x2), some (iv x3)] [] h := by
  unfold p_X1_tell_2 at e
  refine V_iload_n 2 rfl rfl ?_
  refine V_bipush (nI 30) 3 rfl bp_30 ?_
  rcases if_e e with ⟨c4, e⟩ | ⟨c4, e⟩
  · refine V_icmp_ge 49 4 rfl (by decide +kernel) (fun _ => ?_) (fun q => absurd c4 q) 
    cases e
    exact V_vret 28 rfl hR rfl
  · refine V_icmp_ge 49 4 rfl (by decide +kernel) (fun q => absurd q c4) (fun _ => ?_)
    refine V_aload_n 5 rfl rfl ?_
    refine V_iload_n 6 rfl rfl ?_
    refine V_iload_n 7 rfl rfl ?_
    refine V_aload_n 8 rfl rfl ?_
    refine V_getR (F + 1) 9 rfl fr_RX1_9 ⟨Nat.le_of_ble_eq_true rfl, Or.inl (Nat.le_of_ble_eq_true rfl)⟩ rfl ?_
    refine V_iload_n 10 rfl rfl ?_
    obtain ⟨g1, e⟩ := gd_e e
    refine V_iald 11 rfl g1 ?_
    refine V_aload_n 12 rfl rfl ?_
    refine V_getR (F + 5) 13 rfl fr_RX1_25 ⟨Nat.le_of_ble_eq_true rfl, Or.inl (Nat.le_of_ble_eq_true rfl)⟩ rfl ?_
    refine V_iload_n 14 rfl rfl ?_
    refine V_zald 15 rfl g1 ?_
    rcases if_e e with ⟨c16, e⟩ | ⟨c16, e⟩
    · refine V_if_ne 35 16 rfl (by decide +kernel) (fun q => absurd c16 q) (fun _ => ?_)
      refine V_aload_n 17 rfl rfl ?_
      refine V_getR (F + 2) 18 rfl fr_RX1_15 ⟨Nat.le_of_ble_eq_true rfl, Or.inl (Nat.le_of_ble_eq_true rfl)⟩ rfl ?_
      refine V_iload_n 19 rfl rfl ?_
      refine V_iald 20 rfl g1 ?_
      rcases if_e e with ⟨c21, e⟩ | ⟨c21, e⟩
      · refine V_if_le 39 21 rfl (by decide +kernel) (fun _ => ?_) (fun q => absurd c21 q) 
        refine V_iconst (nI 0) 24 rfl ic_0 ?_
        refine V_msk [true, true, true, true] (lc' := [some (rv (1, 99) F), some (rv (0, 99) 132), some (iv x2), some (iv x3)]) rfl ?_
        exact w_X1_tell_40 hR F K2 hK2 x2 x3 (nI 0) (h (F + 1) (x3).toNatClampNeg) x3 x2 h e
      · refine V_if_le 39 21 rfl (by decide +kernel) (fun q => absurd q c21) (fun _ => ?_)
        refine V_msk [true, true, true, true] (lc' := [some (rv (1, 99) F), some (rv (0, 99) 132), some (iv x2), some (iv x3)]) rfl ?_
        exact w_X1_tell_35 hR F K2 hK2 x2 x3 (h (F + 1) (x3).toNatClampNeg) x3 x2 h e
    · refine V_if_ne 35 16 rfl (by decide +kernel) (fun _ => ?_) (fun q => absurd q c16) 
      refine V_msk [true, true, true, true] (lc' := [some (rv (1, 99) F), some (rv (0, 99) 132), some (iv x2), some (iv x3)]) rfl ?_
      exact w_X1_tell_35 hR F K2 hK2 x2 x3 (h (F + 1) (x3).toNatClampNeg) x3 x2 h e
set_option maxHeartbeats 4000000 in
theorem c_X1_tell {G : kG} {T : List kT} {F : Nat} {x2 : Int32} {h : kH} {h0 : kH} (e : p_X1_tell F x2 h = some h0) : k_C G M_X1_tell T [rv (1, 99) F, rv (0, 99) 132, iv x2] h none h0 := by
  refine k_C_of 1 (by decide +kernel) rfl tb_X1_tell rfl (fun X hR => ?_)
  show V G M_X1_tell X T 0 0 0 [some (rv (1, 99) F), some (rv (0, 99) 132), some (iv x2), none] [] h
  unfold p_X1_tell at e
  refine V_iconst (nI 0) 0 rfl ic_0 ?_
  refine V_istore_n 1 rfl (Nat.le_of_ble_eq_true rfl) rfl ?_
  show V G M_X1_tell X T 0 0 2 [some (rv (1, 99) F), some (rv (0, 99) 132), some (iv x2), some (iv (nI 0))] [] h
  refine V_msk [true, true, true, true] (lc' := [some (rv (1, 99) F), some (rv (0, 99) 132), some (iv x2), some (iv (nI 0))]) rfl ?_
  exact fx_e (P := fun s => V G M_X1_tell X T 0 0 2 [some (rv (1, 99) F), some (rv (0, 99) 132), some (iv s.1), some (iv s.2.1)] [] s.2.2) (fun K2 hK2 s e => w_X1_tell_2 hR F K2 (fun x2 x3 h e => hK2 (x2, x3, h) e) s.1 s.2.1 s.2.2 e) FU (x2, (nI 0), h) e
set_option maxHeartbeats 4000000 in
theorem w_X1_shareFuel_2 {G : kG} {X : kX} {T : List kT} {h0 : kH} (hR : k_R G M_X1_shareFuel X T 0 0 none h0) (F : Nat) (K2 : Int32 × Int32 × kH → Option (kH)) (hK2 : ∀ (x1 : Int32) (x2 : Int32) (h : kH), K2 (x1, x2, h) = some h0 → V G M_X1_shareFuel X T 0 0 2 [some (rv (1, 99) F), some (iv x1), some (iv x2)] [] h) (x1 : Int32) (x2 : Int32) (h : kH) (e : p_X1_shareFuel_2 K2 F x1 x2 h = some h0) : V G M_X1_shareFuel X T 0 0 2 [some (rv (1, 99) F), some (iv x1), some (iv x2)] [] h := by
  unfold p_X1_shareFuel_2 at e
  refine V_iload_n 2 rfl rfl ?_
  refine V_bipush (nI 30) 3 rfl bp_30 ?_
  rcases if_e e with ⟨c4, e⟩ | ⟨c4, e⟩
  · refine V_icmp_ge 31 4 rfl (by decide +kernel) (fun _ => ?_) (fun q => absurd c4 q) 
    cases e
    exact V_vret 19 rfl hR rfl
  · refine V_icmp_ge 31 4 rfl (by decide +kernel) (fun q => absurd q c4) (fun _ => ?_)
    refine V_aload_n 5 rfl rfl ?_
    refine V_getR (F + 2) 6 rfl fr_RX1_15 ⟨Nat.le_of_ble_eq_true rfl, Or.inl (Nat.le_of_ble_eq_true rfl)⟩ rfl ?_
    refine V_iload_n 7 rfl rfl ?_
    refine V_aload_n 8 rfl rfl ?_
    refine V_getR (F + 2) 9 rfl fr_RX1_15 ⟨Nat.le_of_ble_eq_true rfl, Or.inl (Nat.le_of_ble_eq_true rfl)⟩ rfl ?_
    refine V_iload_n 10 rfl rfl ?_
    obtain ⟨g1, e⟩ := gd_e e
    refine V_iald 11 rfl g1 ?_
    refine V_iload_n 12 rfl rfl ?_
    refine V_imul 13 rfl ?_
    refine V_bipush (nI 100) 14 rfl bp_100 ?_
    refine V_idiv 15 rfl (by decide +kernel) ?_
    refine V_iast 16 rfl g1 ?_
    refine le_V (P := fun h2 => V G M_X1_shareFuel X T 0 0 25 [some (rv (1, 99) F), some (iv x1), some (iv x2)] [] h2) e (fun h2 e => ?_)
    refine V_iinc (x2 + (nI 1)) 17 rfl rfl (inc_1 _) (Nat.le_of_ble_eq_true rfl) rfl ?_
    show V G M_X1_shareFuel X T 0 0 28 [some (rv (1, 99) F), some (iv x1), some (iv (x2 + (nI 1)))] [] h2
    refine V_goto 2 18 rfl (by decide +kernel) ?_
    refine V_msk [true, true, true] (lc' := [some (rv (1, 99) F), some (iv x1), some (iv (x2 + (nI 1)))]) rfl ?_
    exact hK2 x1 (x2 + (nI 1)) h2 e
set_option maxHeartbeats 4000000 in
theorem c_X1_shareFuel {G : kG} {T : List kT} {F : Nat} {x1 : Int32} {h : kH} {h0 : kH} (e : p_X1_shareFuel F x1 h = some h0) : k_C G M_X1_shareFuel T [rv (1, 99) F, iv x1] h none h0 := by
  refine k_C_of 1 (by decide +kernel) rfl tb_X1_shareFuel rfl (fun X hR => ?_)
  show V G M_X1_shareFuel X T 0 0 0 [some (rv (1, 99) F), some (iv x1), none] [] h
  unfold p_X1_shareFuel at e
  refine V_iconst (nI 0) 0 rfl ic_0 ?_
  refine V_istore_n 1 rfl (Nat.le_of_ble_eq_true rfl) rfl ?_
  show V G M_X1_shareFuel X T 0 0 2 [some (rv (1, 99) F), some (iv x1), some (iv (nI 0))] [] h
  refine V_msk [true, true, true] (lc' := [some (rv (1, 99) F), some (iv x1), some (iv (nI 0))]) rfl ?_
  exact fx_e (P := fun s => V G M_X1_shareFuel X T 0 0 2 [some (rv (1, 99) F), some (iv s.1), some (iv s.2.1)] [] s.2.2) (fun K2 hK2 s e => w_X1_shareFuel_2 hR F K2 (fun x1 x2 h e => hK2 (x1, x2, h) e) s.1 s.2.1 s.2.2 e) FU (x1, (nI 0), h) e
set_option maxHeartbeats 4000000 in
theorem w_X1_rakeOff_10 {G : kG} {X : kX} {T : List kT} {h0 : kH} (hR : k_R G M_X1_rakeOff X T 0 0 none h0) (F : Nat) (K10 : Int32 × kH → Option (kH)) (hK10 : ∀ (x1 : Int32) (h : kH), K10 (x1, h) = some h0 → V G M_X1_rakeOff X T 0 0 10 [some (rv (1, 99) F), some (iv x1)] [] h) (x1 : Int32) (h : kH) (e : p_X1_rakeOff_10 K10 F x1 h = some h0) : V G M_X1_rakeOff X T 0 0 10 [some (rv (1, 99) F), some (iv x1)] [] h := by
  unfold p_X1_rakeOff_10 at e
  refine V_iload_n 6 rfl rfl ?_
  refine V_bipush (nI 30) 7 rfl bp_30 ?_
  rcases if_e e with ⟨c8, e⟩ | ⟨c8, e⟩
  · refine V_icmp_ge 29 8 rfl (by decide +kernel) (fun _ => ?_) (fun q => absurd c8 q) 
    cases e
    exact V_vret 16 rfl hR rfl
  · refine V_icmp_ge 29 8 rfl (by decide +kernel) (fun q => absurd q c8) (fun _ => ?_)
    refine V_aload_n 9 rfl rfl ?_
    refine V_getR (F + 5) 10 rfl fr_RX1_25 ⟨Nat.le_of_ble_eq_true rfl, Or.inl (Nat.le_of_ble_eq_true rfl)⟩ rfl ?_
    refine V_iload_n 11 rfl rfl ?_
    refine V_iconst (nI 0) 12 rfl ic_0 ?_
    obtain ⟨g3, e⟩ := gd_e e
    refine V_zast 13 rfl g3 ?_
    refine le_V (P := fun h4 => V G M_X1_rakeOff X T 0 0 23 [some (rv (1, 99) F), some (iv x1)] [] h4) e (fun h4 e => ?_)
    refine V_iinc (x1 + (nI 1)) 14 rfl rfl (inc_1 _) (Nat.le_of_ble_eq_true rfl) rfl ?_
    show V G M_X1_rakeOff X T 0 0 26 [some (rv (1, 99) F), some (iv (x1 + (nI 1)))] [] h4
    refine V_goto 10 15 rfl (by decide +kernel) ?_
    refine V_msk [true, true] (lc' := [some (rv (1, 99) F), some (iv (x1 + (nI 1)))]) rfl ?_
    exact hK10 (x1 + (nI 1)) h4 e
set_option maxHeartbeats 4000000 in
theorem c_X1_rakeOff {G : kG} {T : List kT} {F : Nat} {h : kH} {h0 : kH} (e : p_X1_rakeOff F h = some h0) : k_C G M_X1_rakeOff T [rv (1, 99) F] h none h0 := by
  refine k_C_of 1 (by decide +kernel) rfl tb_X1_rakeOff rfl (fun X hR => ?_)
  show V G M_X1_rakeOff X T 0 0 0 [some (rv (1, 99) F), none] [] h
  unfold p_X1_rakeOff at e
  refine V_aload_n 0 rfl rfl ?_
  refine V_getR (F + 2) 1 rfl fr_RX1_15 ⟨Nat.le_of_ble_eq_true rfl, Or.inl (Nat.le_of_ble_eq_true rfl)⟩ rfl ?_
  refine V_iconst (nI 0) 2 rfl ic_0 ?_
  obtain ⟨h1, d2, e⟩ := bd_e e
  refine V_callS (N := M_J7_fill_53178) (av := [rv (9, 30) (F + 2), iv (nI 0)]) (st := []) (r := none) (h' := h1) 3 rfl (c_J7_fill_53178 d2) g_J7_fill_53178 gs_J7_fill_53178 lk_RX1_64 ⟨Nat.le_of_ble_eq_true rfl, Nat.le_of_ble_eq_true rfl⟩ rfl (Nat.le_of_ble_eq_true rfl) ⟨Nat.zero_le _, Nat.zero_le _⟩ ?_
  show V G M_X1_rakeOff X T 0 0 8 [some (rv (1, 99) F), none] [] h1
  refine V_iconst (nI 0) 4 rfl ic_0 ?_
  refine V_istore_n 5 rfl (Nat.le_of_ble_eq_true rfl) rfl ?_
  show V G M_X1_rakeOff X T 0 0 10 [some (rv (1, 99) F), some (iv (nI 0))] [] h1
  refine V_msk [true, true] (lc' := [some (rv (1, 99) F), some (iv (nI 0))]) rfl ?_
  exact fx_e (P := fun s => V G M_X1_rakeOff X T 0 0 10 [some (rv (1, 99) F), some (iv s.1)] [] s.2) (fun K10 hK10 s e => w_X1_rakeOff_10 hR F K10 (fun x1 h e => hK10 (x1, h) e) s.1 s.2 e) FU ((nI 0), h1) e
set_option maxHeartbeats 4000000 in
theorem w_X1_coverAll_2 {G : kG} {X : kX} {T : List kT} {h0 : kH} (hR : k_R G M_X1_coverAll X T 0 0 none h0) (F : Nat) (K2 : Int32 × kH → Option (kH)) (hK2 : ∀ (x1 : Int32) (h : kH), K2 (x1, h) = some h0 → V G M_X1_coverAll X T 0 0 2 [some (rv (1, 99) F), some (iv x1)] [] h) (x1 : Int32) (h : kH) (e : p_X1_coverAll_2 K2 F x1 h = some h0) : V G M_X1_coverAll X T 0 0 2 [some (rv (1, 99) F), some (iv x1)] [] h := by
  unfold p_X1_coverAll_2 at e
  refine V_iload_n 2 rfl rfl ?_
  refine V_bipush (nI 30) 3 rfl bp_30 ?_
  rcases if_e e with ⟨c4, e⟩ | ⟨c4, e⟩
  · refine V_icmp_ge 21 4 rfl (by decide +kernel) (fun _ => ?_) (fun q => absurd c4 q) 
    cases e
    exact V_vret 12 rfl hR rfl
  · refine V_icmp_ge 21 4 rfl (by decide +kernel) (fun q => absurd q c4) (fun _ => ?_)
    refine V_aload_n 5 rfl rfl ?_
    refine V_getR (F + 5) 6 rfl fr_RX1_25 ⟨Nat.le_of_ble_eq_true rfl, Or.inl (Nat.le_of_ble_eq_true rfl)⟩ rfl ?_
    refine V_iload_n 7 rfl rfl ?_
    refine V_iconst (nI 1) 8 rfl ic_1 ?_
    obtain ⟨g1, e⟩ := gd_e e
    refine V_zast 9 rfl g1 ?_
    refine le_V (P := fun h2 => V G M_X1_coverAll X T 0 0 15 [some (rv (1, 99) F), some (iv x1)] [] h2) e (fun h2 e => ?_)
    refine V_iinc (x1 + (nI 1)) 10 rfl rfl (inc_1 _) (Nat.le_of_ble_eq_true rfl) rfl ?_
    show V G M_X1_coverAll X T 0 0 18 [some (rv (1, 99) F), some (iv (x1 + (nI 1)))] [] h2
    refine V_goto 2 11 rfl (by decide +kernel) ?_
    refine V_msk [true, true] (lc' := [some (rv (1, 99) F), some (iv (x1 + (nI 1)))]) rfl ?_
    exact hK2 (x1 + (nI 1)) h2 e
set_option maxHeartbeats 4000000 in
theorem c_X1_coverAll {G : kG} {T : List kT} {F : Nat} {h : kH} {h0 : kH} (e : p_X1_coverAll F h = some h0) : k_C G M_X1_coverAll T [rv (1, 99) F] h none h0 := by
  refine k_C_of 1 (by decide +kernel) rfl tb_X1_coverAll rfl (fun X hR => ?_)
  show V G M_X1_coverAll X T 0 0 0 [some (rv (1, 99) F), none] [] h
  unfold p_X1_coverAll at e
  refine V_iconst (nI 0) 0 rfl ic_0 ?_
  refine V_istore_n 1 rfl (Nat.le_of_ble_eq_true rfl) rfl ?_
  show V G M_X1_coverAll X T 0 0 2 [some (rv (1, 99) F), some (iv (nI 0))] [] h
  refine V_msk [true, true] (lc' := [some (rv (1, 99) F), some (iv (nI 0))]) rfl ?_
  exact fx_e (P := fun s => V G M_X1_coverAll X T 0 0 2 [some (rv (1, 99) F), some (iv s.1)] [] s.2) (fun K2 hK2 s e => w_X1_coverAll_2 hR F K2 (fun x1 h e => hK2 (x1, h) e) s.1 s.2 e) FU ((nI 0), h) e
set_option maxHeartbeats 4000000 in
theorem c_X5_areBeside {G : kG} {T : List kT} {R : Nat} {x1 : Int32} {x2 : Int32} {h : kH} {r0 : Int32} {h0 : kH} (e : p_X5_areBeside R x1 x2 h = some (r0, h0)) : k_C G M_X5_areBeside T [rv (5, 99) R, iv x1, iv x2] h (some (iv r0)) h0 := by
  refine k_C_of 2 (by decide +kernel) rfl tb_X5_areBeside rfl (fun X hR => ?_)
  show V G M_X5_areBeside X T 0 0 0 [some (rv (5, 99) R), some (iv x1), some (iv x2), none, none] [] h
  unfold p_X5_areBeside at e
  refine V_aload_n 0 rfl rfl ?_
  refine V_getI 1 rfl fi_RX5_21 ?_
  refine V_iconst (nI 1) 2 rfl ic_1 ?_
  rcases if_e e with ⟨c3, e⟩ | ⟨c3, e⟩
  · refine V_icmp_ge 10 3 rfl (by decide +kernel) (fun _ => ?_) (fun q => absurd c3 q) 
    refine V_iload_n 6 rfl rfl ?_
    refine V_aload_n 7 rfl rfl ?_
    refine V_getI 8 rfl fi_RX5_21 ?_
    obtain ⟨g1, e⟩ := gd_e e
    refine V_rem 9 rfl (of_decide_eq_true g1) ?_
    refine V_iload_n 10 rfl rfl ?_
    refine V_aload_n 11 rfl rfl ?_
    refine V_getI 12 rfl fi_RX5_21 ?_
    obtain ⟨g2, e⟩ := gd_e e
    refine V_rem 13 rfl (of_decide_eq_true g2) ?_
    refine V_isub 14 rfl ?_
    refine V_istore_n 15 rfl (Nat.le_of_ble_eq_true rfl) rfl ?_
    refine le_V (P := fun v3 => V G M_X5_areBeside X T 0 0 24 [some (rv (5, 99) R), some (iv x1), some (iv x2), some (iv v3), none] [] h) e (fun v3 e => ?_)
    refine V_iload_n 16 rfl rfl ?_
    refine V_aload_n 17 rfl rfl ?_
    refine V_getI 18 rfl fi_RX5_21 ?_
    obtain ⟨g4, e⟩ := gd_e e
    refine V_idiv 19 rfl (of_decide_eq_true g4) ?_
    refine V_iload_n 20 rfl rfl ?_
    refine V_aload_n 21 rfl rfl ?_
    refine V_getI 22 rfl fi_RX5_21 ?_
    obtain ⟨g5, e⟩ := gd_e e
    refine V_idiv 23 rfl (of_decide_eq_true g5) ?_
    refine V_isub 24 rfl ?_
    refine V_istore 25 rfl (Nat.le_of_ble_eq_true rfl) rfl ?_
    refine le_V (P := fun v6 => V G M_X5_areBeside X T 0 0 39 [some (rv (5, 99) R), some (iv x1), some (iv x2), some (iv v3), some (iv v6)] [] h) e (fun v6 e => ?_)
    refine V_iload_n 26 rfl rfl ?_
    refine V_iconst (-1 : Int32) 27 rfl ic_m1 ?_
    rcases if_e e with ⟨c28, e⟩ | ⟨c28, e⟩
    · refine V_icmp_lt 65 28 rfl (by decide +kernel) (fun _ => ?_) (fun q => absurd c28 q) 
      refine V_iconst (nI 0) 40 rfl ic_0 ?_
      cases e
      exact V_zret 41 rfl z_0 hR rfl
    · refine V_icmp_lt 65 28 rfl (by decide +kernel) (fun q => absurd q c28) (fun _ => ?_)
      refine V_iload_n 29 rfl rfl ?_
      refine V_iconst (nI 1) 30 rfl ic_1 ?_
      rcases if_e e with ⟨c31, e⟩ | ⟨c31, e⟩
      · refine V_icmp_gt 65 31 rfl (by decide +kernel) (fun _ => ?_) (fun q => absurd c31 q) 
        refine V_iconst (nI 0) 40 rfl ic_0 ?_
        cases e
        exact V_zret 41 rfl z_0 hR rfl
      · refine V_icmp_gt 65 31 rfl (by decide +kernel) (fun q => absurd q c31) (fun _ => ?_)
        refine V_iload 32 rfl rfl ?_
        refine V_iconst (-1 : Int32) 33 rfl ic_m1 ?_
        rcases if_e e with ⟨c34, e⟩ | ⟨c34, e⟩
        · refine V_icmp_lt 65 34 rfl (by decide +kernel) (fun _ => ?_) (fun q => absurd c34 q) 
          refine V_iconst (nI 0) 40 rfl ic_0 ?_
          cases e
          exact V_zret 41 rfl z_0 hR rfl
        · refine V_icmp_lt 65 34 rfl (by decide +kernel) (fun q => absurd q c34) (fun _ => ?_)
          refine V_iload 35 rfl rfl ?_
          refine V_iconst (nI 1) 36 rfl ic_1 ?_
          rcases if_e e with ⟨c37, e⟩ | ⟨c37, e⟩
          · refine V_icmp_gt 65 37 rfl (by decide +kernel) (fun _ => ?_) (fun q => absurd c37 q) 
            refine V_iconst (nI 0) 40 rfl ic_0 ?_
            cases e
            exact V_zret 41 rfl z_0 hR rfl
          · refine V_icmp_gt 65 37 rfl (by decide +kernel) (fun q => absurd q c37) (fun _ => ?_)
            refine V_iconst (nI 1) 38 rfl ic_1 ?_
            refine V_goto 66 39 rfl (by decide +kernel) ?_
            cases e
            exact V_zret 41 rfl z_1 hR rfl
  · refine V_icmp_ge 10 3 rfl (by decide +kernel) (fun q => absurd q c3) (fun _ => ?_)
    refine V_iconst (nI 0) 4 rfl ic_0 ?_
    cases e
    exact V_zret 5 rfl z_0 hR rfl
set_option maxHeartbeats 4000000 in
theorem c_X5_setKind {G : kG} {T : List kT} {R : Nat} {x1 : Int32} {x2 : Int32} {x3 : Int32} {h : kH} {h0 : kH} (e : p_X5_setKind R x1 x2 x3 h = some h0) : k_C G M_X5_setKind T [rv (5, 99) R, iv x1, iv x2, iv x3] h none h0 := by
  refine k_C_of 0 (by decide +kernel) rfl tb_X5_setKind rfl (fun X hR => ?_)
  show V G M_X5_setKind X T 0 0 0 [some (rv (5, 99) R), some (iv x1), some (iv x2), some (iv x3)] [] h
  unfold p_X5_setKind at e
  refine V_aload_n 0 rfl rfl ?_
  refine V_getR (R + 1) 1 rfl fr_RX5_9 ⟨Nat.le_of_ble_eq_true rfl, Or.inl (Nat.le_of_ble_eq_true rfl)⟩ rfl ?_
  refine V_iload_n 2 rfl rfl ?_
  refine V_iload_n 3 rfl rfl ?_
  obtain ⟨g1, e⟩ := gd_e e
  refine V_iast 4 rfl g1 ?_
  refine le_V (P := fun h2 => V G M_X5_setKind X T 0 0 7 [some (rv (5, 99) R), some (iv x1), some (iv x2), some (iv x3)] [] h2) e (fun h2 e => ?_)
  refine V_aload_n 5 rfl rfl ?_
  refine V_getR (R + 2) 6 rfl fr_RX5_15 ⟨Nat.le_of_ble_eq_true rfl, Or.inl (Nat.le_of_ble_eq_true rfl)⟩ rfl ?_
  refine V_iload_n 7 rfl rfl ?_
  refine V_iload_n 8 rfl rfl ?_
  refine V_iast 9 rfl g1 ?_
  refine le_V (P := fun h3 => V G M_X5_setKind X T 0 0 14 [some (rv (5, 99) R), some (iv x1), some (iv x2), some (iv x3)] [] h3) e (fun h3 e => ?_)
  cases e
  exact V_vret 10 rfl hR rfl
set_option maxHeartbeats 4000000 in
theorem c_X5_setDefaults {G : kG} {T : List kT} {R : Nat} {h : kH} {h0 : kH} (e : p_X5_setDefaults R h = some h0) : k_C G M_X5_setDefaults T [rv (5, 99) R] h none h0 := by
  refine k_C_of 0 (by decide +kernel) rfl tb_X5_setDefaults rfl (fun X hR => ?_)
  show V G M_X5_setDefaults X T 0 0 0 [some (rv (5, 99) R)] [] h
  unfold p_X5_setDefaults at e
  refine V_aload_n 0 rfl rfl ?_
  refine V_iconst (nI 4) 1 rfl ic_4 ?_
  refine V_putI 2 rfl fi_RX5_21 ?_
  refine le_V (P := fun h1 => V G M_X5_setDefaults X T 0 0 5 [some (rv (5, 99) R)] [] h1) e (fun h1 e => ?_)
  refine V_aload_n 3 rfl rfl ?_
  refine V_iconst (nI 3) 4 rfl ic_3 ?_
  refine V_putI 5 rfl fi_RX5_25 ?_
  refine le_V (P := fun h2 => V G M_X5_setDefaults X T 0 0 10 [some (rv (5, 99) R)] [] h2) e (fun h2 e => ?_)
  refine V_aload_n 6 rfl rfl ?_
  refine V_iconst (nI 0) 7 rfl ic_0 ?_
  refine V_bipush (nI 6) 8 rfl bp_6 ?_
  refine V_bipush (nI 20) 9 rfl bp_20 ?_
  obtain ⟨h3, d4, e⟩ := bd_e e
  refine V_callV (N := M_X5_setKind) (av := [iv (nI 0), iv (nI 6), iv (nI 20)]) (st := []) (r := none) (h' := h3) 10 rfl (c_X5_setKind d4) g_X5_setKind gv_X5_setKind lk_RX5_28 ⟨Nat.le_of_ble_eq_true rfl, Nat.le_of_ble_eq_true rfl⟩ rfl rfl (Nat.le_of_ble_eq_true rfl) ⟨Nat.zero_le _, Nat.zero_le _⟩ ?_
  show V G M_X5_setDefaults X T 0 0 19 [some (rv (5, 99) R)] [] h3
  refine V_aload_n 11 rfl rfl ?_
  refine V_iconst (nI 1) 12 rfl ic_1 ?_
  refine V_iconst (nI 2) 13 rfl ic_2 ?_
  refine V_bipush (nI 40) 14 rfl bp_40 ?_
  obtain ⟨h5, d6, e⟩ := bd_e e
  refine V_callV (N := M_X5_setKind) (av := [iv (nI 1), iv (nI 2), iv (nI 40)]) (st := []) (r := none) (h' := h5) 15 rfl (c_X5_setKind d6) g_X5_setKind gv_X5_setKind lk_RX5_28 ⟨Nat.le_of_ble_eq_true rfl, Nat.le_of_ble_eq_true rfl⟩ rfl rfl (Nat.le_of_ble_eq_true rfl) ⟨Nat.zero_le _, Nat.zero_le _⟩ ?_
  show V G M_X5_setDefaults X T 0 0 27 [some (rv (5, 99) R)] [] h5
  refine V_aload_n 16 rfl rfl ?_
  refine V_iconst (nI 2) 17 rfl ic_2 ?_
  refine V_bipush (nI 15) 18 rfl bp_15 ?_
  refine V_bipush (nI 8) 19 rfl bp_8 ?_
  obtain ⟨h7, d8, e⟩ := bd_e e
  refine V_callV (N := M_X5_setKind) (av := [iv (nI 2), iv (nI 15), iv (nI 8)]) (st := []) (r := none) (h' := h7) 20 rfl (c_X5_setKind d8) g_X5_setKind gv_X5_setKind lk_RX5_28 ⟨Nat.le_of_ble_eq_true rfl, Nat.le_of_ble_eq_true rfl⟩ rfl rfl (Nat.le_of_ble_eq_true rfl) ⟨Nat.zero_le _, Nat.zero_le _⟩ ?_
  show V G M_X5_setDefaults X T 0 0 36 [some (rv (5, 99) R)] [] h7
  refine V_aload_n 21 rfl rfl ?_
  refine V_bipush (nI 8) 22 rfl bp_8 ?_
  refine V_putI 23 rfl fi_RX5_32 ?_
  refine le_V (P := fun h9 => V G M_X5_setDefaults X T 0 0 42 [some (rv (5, 99) R)] [] h9) e (fun h9 e => ?_)
  refine V_aload_n 24 rfl rfl ?_
  refine V_bipush (nI 75) 25 rfl bp_75 ?_
  refine V_putI 26 rfl fi_RX5_35 ?_
  refine le_V (P := fun h10 => V G M_X5_setDefaults X T 0 0 48 [some (rv (5, 99) R)] [] h10) e (fun h10 e => ?_)
  refine V_aload_n 27 rfl rfl ?_
  refine V_bipush (nI 10) 28 rfl bp_10 ?_
  refine V_putI 29 rfl fi_RX5_38 ?_
  refine le_V (P := fun h11 => V G M_X5_setDefaults X T 0 0 54 [some (rv (5, 99) R)] [] h11) e (fun h11 e => ?_)
  refine V_aload_n 30 rfl rfl ?_
  refine V_bipush (nI 60) 31 rfl bp_60 ?_
  refine V_putI 32 rfl fi_RX5_41 ?_
  refine le_V (P := fun h12 => V G M_X5_setDefaults X T 0 0 60 [some (rv (5, 99) R)] [] h12) e (fun h12 e => ?_)
  refine V_aload_n 33 rfl rfl ?_
  refine V_bipush (nI 90) 34 rfl bp_90 ?_
  refine V_putI 35 rfl fi_RX5_44 ?_
  refine le_V (P := fun h13 => V G M_X5_setDefaults X T 0 0 66 [some (rv (5, 99) R)] [] h13) e (fun h13 e => ?_)
  refine V_aload_n 36 rfl rfl ?_
  refine V_iconst (nI 0) 37 rfl ic_0 ?_
  refine V_putI 38 rfl fi_RX5_47 ?_
  refine le_V (P := fun h14 => V G M_X5_setDefaults X T 0 0 71 [some (rv (5, 99) R)] [] h14) e (fun h14 e => ?_)
  cases e
  exact V_vret 39 rfl hR rfl
set_option maxHeartbeats 4000000 in
theorem w_X5_copyFrom_18 {G : kG} {X : kX} {T : List kT} {h0 : kH} (hR : k_R G M_X5_copyFrom X T 0 0 none h0) (R : Nat) (R2 : Nat) (K18 : Int32 × kH → Option (kH)) (hK18 : ∀ (x2 : Int32) (h : kH), K18 (x2, h) = some h0 → V G M_X5_copyFrom X T 0 0 18 [some (rv (5, 99) R), some (rv (5, 99) R2), some (iv x2)] [] h) (x2 : Int32) (h : kH) (e : p_X5_copyFrom_18 K18 R R2 x2 h = some h0) : V G M_X5_copyFrom X T 0 0 18 [some (rv (5, 99) R), some (rv (5, 99) R2), some (iv x2)] [] h := by
  unfold p_X5_copyFrom_18 at e
  refine V_iload_n 10 rfl rfl ?_
  refine V_iconst (nI 3) 11 rfl ic_3 ?_
  rcases if_e e with ⟨c12, e⟩ | ⟨c12, e⟩
  · refine V_icmp_ge 46 12 rfl (by decide +kernel) (fun _ => ?_) (fun q => absurd c12 q) 
    refine V_aload_n 26 rfl rfl ?_
    refine V_aload_n 27 rfl rfl ?_
    refine V_getI 28 rfl fi_RX5_32 ?_
    refine V_putI 29 rfl fi_RX5_32 ?_
    refine le_V (P := fun h3 => V G M_X5_copyFrom X T 0 0 54 [some (rv (5, 99) R), some (rv (5, 99) R2), some (iv x2)] [] h3) e (fun h3 e => ?_)
    refine V_aload_n 30 rfl rfl ?_
    refine V_aload_n 31 rfl rfl ?_
    refine V_getI 32 rfl fi_RX5_35 ?_
    refine V_putI 33 rfl fi_RX5_35 ?_
    refine le_V (P := fun h4 => V G M_X5_copyFrom X T 0 0 62 [some (rv (5, 99) R), some (rv (5, 99) R2), some (iv x2)] [] h4) e (fun h4 e => ?_)
    refine V_aload_n 34 rfl rfl ?_
    refine V_aload_n 35 rfl rfl ?_
    refine V_getI 36 rfl fi_RX5_38 ?_
    refine V_putI 37 rfl fi_RX5_38 ?_
    refine le_V (P := fun h5 => V G M_X5_copyFrom X T 0 0 70 [some (rv (5, 99) R), some (rv (5, 99) R2), some (iv x2)] [] h5) e (fun h5 e => ?_)
    refine V_aload_n 38 rfl rfl ?_
    refine V_aload_n 39 rfl rfl ?_
    refine V_getI 40 rfl fi_RX5_41 ?_
    refine V_putI 41 rfl fi_RX5_41 ?_
    refine le_V (P := fun h6 => V G M_X5_copyFrom X T 0 0 78 [some (rv (5, 99) R), some (rv (5, 99) R2), some (iv x2)] [] h6) e (fun h6 e => ?_)
    refine V_aload_n 42 rfl rfl ?_
    refine V_aload_n 43 rfl rfl ?_
    refine V_getI 44 rfl fi_RX5_44 ?_
    refine V_putI 45 rfl fi_RX5_44 ?_
    refine le_V (P := fun h7 => V G M_X5_copyFrom X T 0 0 86 [some (rv (5, 99) R), some (rv (5, 99) R2), some (iv x2)] [] h7) e (fun h7 e => ?_)
    refine V_aload_n 46 rfl rfl ?_
    refine V_aload_n 47 rfl rfl ?_
    refine V_getI 48 rfl fi_RX5_47 ?_
    refine V_putI 49 rfl fi_RX5_47 ?_
    refine le_V (P := fun h8 => V G M_X5_copyFrom X T 0 0 94 [some (rv (5, 99) R), some (rv (5, 99) R2), some (iv x2)] [] h8) e (fun h8 e => ?_)
    cases e
    exact V_vret 50 rfl hR rfl
  · refine V_icmp_ge 46 12 rfl (by decide +kernel) (fun q => absurd q c12) (fun _ => ?_)
    refine V_aload_n 13 rfl rfl ?_
    refine V_iload_n 14 rfl rfl ?_
    refine V_aload_n 15 rfl rfl ?_
    refine V_getR (R2 + 1) 16 rfl fr_RX5_9 ⟨Nat.le_of_ble_eq_true rfl, Or.inl (Nat.le_of_ble_eq_true rfl)⟩ rfl ?_
    refine V_iload_n 17 rfl rfl ?_
    obtain ⟨g9, e⟩ := gd_e e
    refine V_iald 18 rfl g9 ?_
    refine V_aload_n 19 rfl rfl ?_
    refine V_getR (R2 + 2) 20 rfl fr_RX5_15 ⟨Nat.le_of_ble_eq_true rfl, Or.inl (Nat.le_of_ble_eq_true rfl)⟩ rfl ?_
    refine V_iload_n 21 rfl rfl ?_
    refine V_iald 22 rfl g9 ?_
    obtain ⟨h10, d11, e⟩ := bd_e e
    refine V_callV (N := M_X5_setKind) (av := [iv x2, iv (h (R2 + 1) (x2).toNatClampNeg), iv (h (R2 + 2) (x2).toNatClampNeg)]) (st := []) (r := none) (h' := h10) 23 rfl (c_X5_setKind d11) g_X5_setKind gv_X5_setKind lk_RX5_28 ⟨Nat.le_of_ble_eq_true rfl, Nat.le_of_ble_eq_true rfl⟩ rfl rfl (Nat.le_of_ble_eq_true rfl) ⟨Nat.zero_le _, Nat.zero_le _⟩ ?_
    show V G M_X5_copyFrom X T 0 0 40 [some (rv (5, 99) R), some (rv (5, 99) R2), some (iv x2)] [] h10
    refine V_iinc (x2 + (nI 1)) 24 rfl rfl (inc_1 _) (Nat.le_of_ble_eq_true rfl) rfl ?_
    show V G M_X5_copyFrom X T 0 0 43 [some (rv (5, 99) R), some (rv (5, 99) R2), some (iv (x2 + (nI 1)))] [] h10
    refine V_goto 18 25 rfl (by decide +kernel) ?_
    refine V_msk [true, true, true] (lc' := [some (rv (5, 99) R), some (rv (5, 99) R2), some (iv (x2 + (nI 1)))]) rfl ?_
    exact hK18 (x2 + (nI 1)) h10 e
set_option maxHeartbeats 4000000 in
theorem c_X5_copyFrom {G : kG} {T : List kT} {R : Nat} {R2 : Nat} {h : kH} {h0 : kH} (e : p_X5_copyFrom R R2 h = some h0) : k_C G M_X5_copyFrom T [rv (5, 99) R, rv (5, 99) R2] h none h0 := by
  refine k_C_of 1 (by decide +kernel) rfl tb_X5_copyFrom rfl (fun X hR => ?_)
  show V G M_X5_copyFrom X T 0 0 0 [some (rv (5, 99) R), some (rv (5, 99) R2), none] [] h
  unfold p_X5_copyFrom at e
  refine V_aload_n 0 rfl rfl ?_
  refine V_aload_n 1 rfl rfl ?_
  refine V_getI 2 rfl fi_RX5_21 ?_
  refine V_putI 3 rfl fi_RX5_21 ?_
  refine le_V (P := fun h1 => V G M_X5_copyFrom X T 0 0 8 [some (rv (5, 99) R), some (rv (5, 99) R2), none] [] h1) e (fun h1 e => ?_)
  refine V_aload_n 4 rfl rfl ?_
  refine V_aload_n 5 rfl rfl ?_
  refine V_getI 6 rfl fi_RX5_25 ?_
  refine V_putI 7 rfl fi_RX5_25 ?_
  refine le_V (P := fun h2 => V G M_X5_copyFrom X T 0 0 16 [some (rv (5, 99) R), some (rv (5, 99) R2), none] [] h2) e (fun h2 e => ?_)
  refine V_iconst (nI 0) 8 rfl ic_0 ?_
  refine V_istore_n 9 rfl (Nat.le_of_ble_eq_true rfl) rfl ?_
  show V G M_X5_copyFrom X T 0 0 18 [some (rv (5, 99) R), some (rv (5, 99) R2), some (iv (nI 0))] [] h2
  refine V_msk [true, true, true] (lc' := [some (rv (5, 99) R), some (rv (5, 99) R2), some (iv (nI 0))]) rfl ?_
  exact fx_e (P := fun s => V G M_X5_copyFrom X T 0 0 18 [some (rv (5, 99) R), some (rv (5, 99) R2), some (iv s.1)] [] s.2) (fun K18 hK18 s e => w_X5_copyFrom_18 hR R R2 K18 (fun x2 h e => hK18 (x2, h) e) s.1 s.2 e) FU ((nI 0), h2) e
set_option maxHeartbeats 4000000 in
theorem c_X5_drawnWind {G : kG} {T : List kT} {R : Nat} {x1 : Int32} {x2 : Int32} {h : kH} {r0 : Int32} {h0 : kH} (e : p_X5_drawnWind R x1 x2 h = some (r0, h0)) : k_C G M_X5_drawnWind T [rv (5, 99) R, iv x1, iv x2] h (some (iv r0)) h0 := by
  refine k_C_of 2 (by decide +kernel) rfl tb_X5_drawnWind rfl (fun X hR => ?_)
  show V G M_X5_drawnWind X T 0 0 0 [some (rv (5, 99) R), some (iv x1), some (iv x2), none, none] [] h
  unfold p_X5_drawnWind at e
  refine V_aload_n 0 rfl rfl ?_
  refine V_getI 1 rfl fi_RX5_47 ?_
  rcases if_e e with ⟨c2, e⟩ | ⟨c2, e⟩
  · refine V_if_ge 9 2 rfl (by decide +kernel) (fun _ => ?_) (fun q => absurd c2 q) 
    refine V_ldc2 (7919 : Int64) 5 rfl kl_RX5_50 ?_
    refine V_iload_n 6 rfl rfl ?_
    refine V_i2l 7 rfl ?_
    refine V_lmul 8 rfl ?_
    refine V_ldc2 (6151 : Int64) 9 rfl kl_RX5_52 ?_
    refine V_iload_n 10 rfl rfl ?_
    refine V_i2l 11 rfl ?_
    refine V_lmul 12 rfl ?_
    refine V_ladd 13 rfl ?_
    refine V_lconst (1 : Int64) 14 rfl rfl ?_
    refine V_ladd 15 rfl ?_
    refine V_lstore_n 16 rfl (Nat.le_of_ble_eq_true rfl) rfl ?_
    refine le_V (P := fun v1 => V G M_X5_drawnWind X T 0 0 25 [some (rv (5, 99) R), some (iv x1), some (iv x2), some (jv v1), none] [] h) e (fun v1 e => ?_)
    refine V_lload_n 17 rfl rfl ?_
    refine V_lload_n 18 rfl rfl ?_
    refine V_lmul 19 rfl ?_
    refine V_ldc2 (65521 : Int64) 20 rfl kl_RX5_54 ?_
    refine V_remL 21 rfl (by decide +kernel) ?_
    refine V_aload_n 22 rfl rfl ?_
    refine V_getI 23 rfl fi_RX5_47 ?_
    refine V_iconst (nI 1) 24 rfl ic_1 ?_
    refine V_iadd 25 rfl ?_
    refine V_i2l 26 rfl ?_
    obtain ⟨g2, e⟩ := gd_e e
    refine V_remL 27 rfl (of_decide_eq_true g2) ?_
    refine V_l2i 28 rfl ?_
    cases e
    exact V_iret 29 rfl hR rfl
  · refine V_if_ge 9 2 rfl (by decide +kernel) (fun q => absurd q c2) (fun _ => ?_)
    refine V_iconst (nI 0) 3 rfl ic_0 ?_
    cases e
    exact V_iret 4 rfl hR rfl
set_option maxHeartbeats 4000000 in
theorem c_X6_clear {G : kG} {T : List kT} {h : kH} {h0 : kH} (e : p_X6_clear h = some h0) : k_C G M_X6_clear T [rv (6, 99) 134] h none h0 := by
  refine k_C_of 0 (by decide +kernel) rfl tb_X6_clear rfl (fun X hR => ?_)
  show V G M_X6_clear X T 0 0 0 [some (rv (6, 99) 134)] [] h
  unfold p_X6_clear at e
  refine V_aload_n 0 rfl rfl ?_
  refine V_iconst (nI 0) 1 rfl ic_0 ?_
  refine V_putI 2 rfl fi_RX6_9 ?_
  refine le_V (P := fun h1 => V G M_X6_clear X T 0 0 5 [some (rv (6, 99) 134)] [] h1) e (fun h1 e => ?_)
  cases e
  exact V_vret 3 rfl hR rfl
set_option maxHeartbeats 4000000 in
theorem w_X6_add_90 {G : kG} {X : kX} {T : List kT} {h0 : kH} (hR : k_R G M_X6_add X T 0 0 none h0) (s0 : Int32) (h : kH) (e : p_X6_add_90 s0 h = some h0) : V G M_X6_add X T 0 0 90 [some (rv (6, 99) 134), none, none, none] [iv s0, rv (6, 99) 134] h := by
  unfold p_X6_add_90 at e
  refine V_putI 46 rfl fi_RX6_33 ?_
  refine le_V (P := fun h4 => V G M_X6_add X T 0 0 93 [some (rv (6, 99) 134), none, none, none] [] h4) e (fun h4 e => ?_)
  refine V_aload_n 47 rfl rfl ?_
  refine V_dup 48 rfl nj_r ?_
  refine V_getI 49 rfl fi_RX6_9 ?_
  refine V_iconst (nI 1) 50 rfl ic_1 ?_
  refine V_iadd 51 rfl ?_
  refine V_putI 52 rfl fi_RX6_9 ?_
  refine le_V (P := fun h5 => V G M_X6_add X T 0 0 103 [some (rv (6, 99) 134), none, none, none] [] h5) e (fun h5 e => ?_)
  cases e
  exact V_vret 53 rfl hR rfl
set_option maxHeartbeats 4000000 in
theorem w_X6_add_70 {G : kG} {X : kX} {T : List kT} {h0 : kH} (hR : k_R G M_X6_add X T 0 0 none h0) (x2 : Int32) (x3 : Int32) (s0 : Int32) (h : kH) (e : p_X6_add_70 x2 x3 s0 h = some h0) : V G M_X6_add X T 0 0 70 [some (rv (6, 99) 134), none, some (iv x2), some (iv x3)] [iv s0, rv (6, 99) 134] h := by
  unfold p_X6_add_70 at e
  refine V_putI 36 rfl fi_RX6_30 ?_
  refine le_V (P := fun h3 => V G M_X6_add X T 0 0 73 [some (rv (6, 99) 134), none, some (iv x2), some (iv x3)] [] h3) e (fun h3 e => ?_)
  refine V_aload_n 37 rfl rfl ?_
  refine V_iload_n 38 rfl rfl ?_
  rcases if_e e with ⟨c39, e⟩ | ⟨c39, e⟩
  · refine V_if_eq 82 39 rfl (by decide +kernel) (fun _ => ?_) (fun q => absurd c39 q) 
    refine V_aload_n 42 rfl rfl ?_
    refine V_getI 43 rfl fi_RX6_33 ?_
    refine V_iload_n 44 rfl rfl ?_
    refine V_mmax 45 rfl lm_RX6_27 mmax_1 mmax_2 mmax_3 ⟨Nat.le_of_ble_eq_true rfl, Nat.le_of_ble_eq_true rfl⟩ ⟨Nat.zero_le _, Nat.zero_le _⟩ ?_
    refine V_msk [true, false, false, false] (lc' := [some (rv (6, 99) 134), none, none, none]) rfl ?_
    exact w_X6_add_90 hR (if (h3 134 4) < x2 then x2 else (h3 134 4)) h3 e
  · refine V_if_eq 82 39 rfl (by decide +kernel) (fun q => absurd q c39) (fun _ => ?_)
    refine V_iload_n 40 rfl rfl ?_
    refine V_goto 90 41 rfl (by decide +kernel) ?_
    refine V_msk [true, false, false, false] (lc' := [some (rv (6, 99) 134), none, none, none]) rfl ?_
    exact w_X6_add_90 hR x2 h3 e
set_option maxHeartbeats 4000000 in
theorem w_X6_add_50 {G : kG} {X : kX} {T : List kT} {h0 : kH} (hR : k_R G M_X6_add X T 0 0 none h0) (x2 : Int32) (x3 : Int32) (s0 : Int32) (h : kH) (e : p_X6_add_50 x2 x3 s0 h = some h0) : V G M_X6_add X T 0 0 50 [some (rv (6, 99) 134), none, some (iv x2), some (iv x3)] [iv s0, rv (6, 99) 134] h := by
  unfold p_X6_add_50 at e
  refine V_putI 26 rfl fi_RX6_24 ?_
  refine le_V (P := fun h2 => V G M_X6_add X T 0 0 53 [some (rv (6, 99) 134), none, some (iv x2), some (iv x3)] [] h2) e (fun h2 e => ?_)
  refine V_aload_n 27 rfl rfl ?_
  refine V_iload_n 28 rfl rfl ?_
  rcases if_e e with ⟨c29, e⟩ | ⟨c29, e⟩
  · refine V_if_eq 62 29 rfl (by decide +kernel) (fun _ => ?_) (fun q => absurd c29 q) 
    refine V_aload_n 32 rfl rfl ?_
    refine V_getI 33 rfl fi_RX6_30 ?_
    refine V_iload_n 34 rfl rfl ?_
    refine V_mmin 35 rfl lm_RX6_18 mmin_1 mmin_2 mmin_3 ⟨Nat.le_of_ble_eq_true rfl, Nat.le_of_ble_eq_true rfl⟩ ⟨Nat.zero_le _, Nat.zero_le _⟩ ?_
    refine V_msk [true, false, true, true] (lc' := [some (rv (6, 99) 134), none, some (iv x2), some (iv x3)]) rfl ?_
    exact w_X6_add_70 hR x2 x3 (if x2 < (h2 134 3) then x2 else (h2 134 3)) h2 e
  · refine V_if_eq 62 29 rfl (by decide +kernel) (fun q => absurd q c29) (fun _ => ?_)
    refine V_iload_n 30 rfl rfl ?_
    refine V_goto 70 31 rfl (by decide +kernel) ?_
    refine V_msk [true, false, true, true] (lc' := [some (rv (6, 99) 134), none, some (iv x2), some (iv x3)]) rfl ?_
    exact w_X6_add_70 hR x2 x3 x2 h2 e
set_option maxHeartbeats 4000000 in
theorem w_X6_add_30 {G : kG} {X : kX} {T : List kT} {h0 : kH} (hR : k_R G M_X6_add X T 0 0 none h0) (x1 : Int32) (x2 : Int32) (x3 : Int32) (s0 : Int32) (h : kH) (e : p_X6_add_30 x1 x2 x3 s0 h = some h0) : V G M_X6_add X T 0 0 30 [some (rv (6, 99) 134), some (iv x1), some (iv x2), some (iv x3)] [iv s0, rv (6, 99) 134] h := by
  unfold p_X6_add_30 at e
  refine V_putI 16 rfl fi_RX6_15 ?_
  refine le_V (P := fun h1 => V G M_X6_add X T 0 0 33 [some (rv (6, 99) 134), some (iv x1), some (iv x2), some (iv x3)] [] h1) e (fun h1 e => ?_)
  refine V_aload_n 17 rfl rfl ?_
  refine V_iload_n 18 rfl rfl ?_
  rcases if_e e with ⟨c19, e⟩ | ⟨c19, e⟩
  · refine V_if_eq 42 19 rfl (by decide +kernel) (fun _ => ?_) (fun q => absurd c19 q) 
    refine V_aload_n 22 rfl rfl ?_
    refine V_getI 23 rfl fi_RX6_24 ?_
    refine V_iload_n 24 rfl rfl ?_
    refine V_mmax 25 rfl lm_RX6_27 mmax_1 mmax_2 mmax_3 ⟨Nat.le_of_ble_eq_true rfl, Nat.le_of_ble_eq_true rfl⟩ ⟨Nat.zero_le _, Nat.zero_le _⟩ ?_
    refine V_msk [true, false, true, true] (lc' := [some (rv (6, 99) 134), none, some (iv x2), some (iv x3)]) rfl ?_
    exact w_X6_add_50 hR x2 x3 (if (h1 134 2) < x1 then x1 else (h1 134 2)) h1 e
  · refine V_if_eq 42 19 rfl (by decide +kernel) (fun q => absurd q c19) (fun _ => ?_)
    refine V_iload_n 20 rfl rfl ?_
    refine V_goto 50 21 rfl (by decide +kernel) ?_
    refine V_msk [true, false, true, true] (lc' := [some (rv (6, 99) 134), none, some (iv x2), some (iv x3)]) rfl ?_
    exact w_X6_add_50 hR x2 x3 x1 h1 e
set_option maxHeartbeats 4000000 in
theorem w_X6_add_12 {G : kG} {X : kX} {T : List kT} {h0 : kH} (hR : k_R G M_X6_add X T 0 0 none h0) (x1 : Int32) (x2 : Int32) (s0 : Int32) (h : kH) (e : p_X6_add_12 x1 x2 s0 h = some h0) : V G M_X6_add X T 0 0 12 [some (rv (6, 99) 134), some (iv x1), some (iv x2), none] [iv s0] h := by
  unfold p_X6_add_12 at e
  refine V_istore_n 6 rfl (Nat.le_of_ble_eq_true rfl) rfl ?_
  show V G M_X6_add X T 0 0 13 [some (rv (6, 99) 134), some (iv x1), some (iv x2), some (iv s0)] [] h
  refine V_aload_n 7 rfl rfl ?_
  refine V_iload_n 8 rfl rfl ?_
  rcases if_e e with ⟨c9, e⟩ | ⟨c9, e⟩
  · refine V_if_eq 22 9 rfl (by decide +kernel) (fun _ => ?_) (fun q => absurd c9 q) 
    refine V_aload_n 12 rfl rfl ?_
    refine V_getI 13 rfl fi_RX6_15 ?_
    refine V_iload_n 14 rfl rfl ?_
    refine V_mmin 15 rfl lm_RX6_18 mmin_1 mmin_2 mmin_3 ⟨Nat.le_of_ble_eq_true rfl, Nat.le_of_ble_eq_true rfl⟩ ⟨Nat.zero_le _, Nat.zero_le _⟩ ?_
    refine V_msk [true, true, true, true] (lc' := [some (rv (6, 99) 134), some (iv x1), some (iv x2), some (iv s0)]) rfl ?_
    exact w_X6_add_30 hR x1 x2 s0 (if x1 < (h 134 1) then x1 else (h 134 1)) h e
  · refine V_if_eq 22 9 rfl (by decide +kernel) (fun q => absurd q c9) (fun _ => ?_)
    refine V_iload_n 10 rfl rfl ?_
    refine V_goto 30 11 rfl (by decide +kernel) ?_
    refine V_msk [true, true, true, true] (lc' := [some (rv (6, 99) 134), some (iv x1), some (iv x2), some (iv s0)]) rfl ?_
    exact w_X6_add_30 hR x1 x2 s0 x1 h e
set_option maxHeartbeats 4000000 in
theorem c_X6_add {G : kG} {T : List kT} {x1 : Int32} {x2 : Int32} {h : kH} {h0 : kH} (e : p_X6_add x1 x2 h = some h0) : k_C G M_X6_add T [rv (6, 99) 134, iv x1, iv x2] h none h0 := by
  refine k_C_of 1 (by decide +kernel) rfl tb_X6_add rfl (fun X hR => ?_)
  show V G M_X6_add X T 0 0 0 [some (rv (6, 99) 134), some (iv x1), some (iv x2), none] [] h
  unfold p_X6_add at e
  refine V_aload_n 0 rfl rfl ?_
  refine V_getI 1 rfl fi_RX6_9 ?_
  rcases if_e e with ⟨c2, e⟩ | ⟨c2, e⟩
  · refine V_if_ne 11 2 rfl (by decide +kernel) (fun q => absurd c2 q) (fun _ => ?_)
    refine V_iconst (nI 1) 3 rfl ic_1 ?_
    refine V_goto 12 4 rfl (by decide +kernel) ?_
    refine V_msk [true, true, true, false] (lc' := [some (rv (6, 99) 134), some (iv x1), some (iv x2), none]) rfl ?_
    exact w_X6_add_12 hR x1 x2 (nI 1) h e
  · refine V_if_ne 11 2 rfl (by decide +kernel) (fun _ => ?_) (fun q => absurd q c2) 
    refine V_iconst (nI 0) 5 rfl ic_0 ?_
    refine V_msk [true, true, true, false] (lc' := [some (rv (6, 99) 134), some (iv x1), some (iv x2), none]) rfl ?_
    exact w_X6_add_12 hR x1 x2 (nI 0) h e
set_option maxHeartbeats 4000000 in
theorem c_X6_told {G : kG} {T : List kT} {x1 : Int32} {h : kH} {r0 : Int32} {h0 : kH} (e : p_X6_told x1 h = some (r0, h0)) : k_C G M_X6_told T [rv (6, 99) 134, iv x1] h (some (iv r0)) h0 := by
  refine k_C_of 0 (by decide +kernel) rfl tb_X6_told rfl (fun X hR => ?_)
  show V G M_X6_told X T 0 0 0 [some (rv (6, 99) 134), some (iv x1)] [] h
  unfold p_X6_told at e
  refine V_iload_n 0 rfl rfl ?_
  rcases if_e e with ⟨c1, e⟩ | ⟨c1, e⟩
  · refine V_if_ne 9 1 rfl (by decide +kernel) (fun q => absurd c1 q) (fun _ => ?_)
    refine V_aload_n 2 rfl rfl ?_
    refine V_getI 3 rfl fi_RX6_9 ?_
    cases e
    exact V_iret 4 rfl hR rfl
  · refine V_if_ne 9 1 rfl (by decide +kernel) (fun _ => ?_) (fun q => absurd q c1) 
    refine V_aload_n 5 rfl rfl ?_
    refine V_getI 6 rfl fi_RX6_9 ?_
    rcases if_e e with ⟨c7, e⟩ | ⟨c7, e⟩
    · refine V_if_ne 19 7 rfl (by decide +kernel) (fun q => absurd c7 q) (fun _ => ?_)
      refine V_bipush (-4 : Int32) 8 rfl bp_m4 ?_
      cases e
      exact V_iret 9 rfl hR rfl
    · refine V_if_ne 19 7 rfl (by decide +kernel) (fun _ => ?_) (fun q => absurd q c7) 
      refine V_iload_n 10 rfl rfl ?_
      rcases if_e e with ⟨c1, e⟩ | ⟨c1, e⟩
      · refine V_tab 48 11 rfl rfl (off := 28) (by rw [c1]; decide +kernel) (by decide +kernel) ?_
        refine V_aload_n 12 rfl rfl ?_
        refine V_getI 13 rfl fi_RX6_15 ?_
        cases e
        exact V_iret 14 rfl hR rfl
      rcases if_e e with ⟨c2, e⟩ | ⟨c2, e⟩
      · refine V_tab 53 11 rfl rfl (off := 33) (by rw [c2]; decide +kernel) (by decide +kernel) ?_
        refine V_aload_n 15 rfl rfl ?_
        refine V_getI 16 rfl fi_RX6_24 ?_
        cases e
        exact V_iret 17 rfl hR rfl
      rcases if_e e with ⟨c3, e⟩ | ⟨c3, e⟩
      · refine V_tab 58 11 rfl rfl (off := 38) (by rw [c3]; decide +kernel) (by decide +kernel) ?_
        refine V_aload_n 18 rfl rfl ?_
        refine V_getI 19 rfl fi_RX6_30 ?_
        cases e
        exact V_iret 20 rfl hR rfl
      refine V_tab 63 11 rfl rfl (tsel_d [1, 2, 3] (List.forall_mem_cons.mpr ⟨c1, List.forall_mem_cons.mpr ⟨c2, List.forall_mem_cons.mpr ⟨c3, fun k hk => by cases hk⟩⟩⟩) (by decide +kernel)) (by decide +kernel) ?_
      refine V_aload_n 21 rfl rfl ?_
      refine V_getI 22 rfl fi_RX6_33 ?_
      cases e
      exact V_iret 23 rfl hR rfl
