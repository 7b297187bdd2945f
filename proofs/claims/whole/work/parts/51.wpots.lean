set_option maxHeartbeats 4000000 in
theorem w_X4_copyFrom_10 {G : kG} {X : kX} {T : List kT} {h0 : kH} (hR : k_R G M_X4_copyFrom X T 0 0 none h0) (P : Nat) (P2 : Nat) (K10 : Int32 × kH → Option (kH)) (hK10 : ∀ (x2 : Int32) (h : kH), K10 (x2, h) = some h0 → V G M_X4_copyFrom X T 0 0 10 [some (rv (4, 99) P), some (rv (4, 99) P2), some (iv x2)] [] h) (x2 : Int32) (h : kH) (e : p_X4_copyFrom_10 K10 P P2 x2 h = some h0) : V G M_X4_copyFrom X T 0 0 10 [some (rv (4, 99) P), some (rv (4, 99) P2), some (iv x2)] [] h := by
  unfold p_X4_copyFrom_10 at e
  refine V_iload_n 6 rfl rfl ?_
  refine V_bipush (nI 6) 7 rfl bp_6 ?_
  rcases if_e e with ⟨c8, e⟩ | ⟨c8, e⟩
  · refine V_icmp_ge 142 8 rfl (by decide +kernel) (fun _ => ?_) (fun q => absurd c8 q) 
    cases e
    exact V_vret 91 rfl hR rfl
  · refine V_icmp_ge 142 8 rfl (by decide +kernel) (fun q => absurd q c8) (fun _ => ?_)
    refine V_aload_n 9 rfl rfl ?_
    refine V_getR (P + 1) 10 rfl fr_RX4_15 ⟨Nat.le_of_ble_eq_true rfl, Or.inl (Nat.le_of_ble_eq_true rfl)⟩ rfl ?_
    refine V_iload_n 11 rfl rfl ?_
    refine V_aload_n 12 rfl rfl ?_
    refine V_getR (P2 + 1) 13 rfl fr_RX4_15 ⟨Nat.le_of_ble_eq_true rfl, Or.inl (Nat.le_of_ble_eq_true rfl)⟩ rfl ?_
    refine V_iload_n 14 rfl rfl ?_
    obtain ⟨g2, e⟩ := gd_e e
    refine V_iald 15 rfl g2 ?_
    refine V_iast 16 rfl g2 ?_
    refine le_V (P := fun h3 => V G M_X4_copyFrom X T 0 0 28 [some (rv (4, 99) P), some (rv (4, 99) P2), some (iv x2)] [] h3) e (fun h3 e => ?_)
    refine V_aload_n 17 rfl rfl ?_
    refine V_getR (P + 2) 18 rfl fr_RX4_19 ⟨Nat.le_of_ble_eq_true rfl, Or.inl (Nat.le_of_ble_eq_true rfl)⟩ rfl ?_
    refine V_iload_n 19 rfl rfl ?_
    refine V_aload_n 20 rfl rfl ?_
    refine V_getR (P2 + 2) 21 rfl fr_RX4_19 ⟨Nat.le_of_ble_eq_true rfl, Or.inl (Nat.le_of_ble_eq_true rfl)⟩ rfl ?_
    refine V_iload_n 22 rfl rfl ?_
    refine V_iald 23 rfl g2 ?_
    refine V_iast 24 rfl g2 ?_
    refine le_V (P := fun h4 => V G M_X4_copyFrom X T 0 0 40 [some (rv (4, 99) P), some (rv (4, 99) P2), some (iv x2)] [] h4) e (fun h4 e => ?_)
    refine V_aload_n 25 rfl rfl ?_
    refine V_getR (P + 3) 26 rfl fr_RX4_22 ⟨Nat.le_of_ble_eq_true rfl, Or.inl (Nat.le_of_ble_eq_true rfl)⟩ rfl ?_
    refine V_iload_n 27 rfl rfl ?_
    refine V_aload_n 28 rfl rfl ?_
    refine V_getR (P2 + 3) 29 rfl fr_RX4_22 ⟨Nat.le_of_ble_eq_true rfl, Or.inl (Nat.le_of_ble_eq_true rfl)⟩ rfl ?_
    refine V_iload_n 30 rfl rfl ?_
    refine V_iald 31 rfl g2 ?_
    refine V_iast 32 rfl g2 ?_
    refine le_V (P := fun h5 => V G M_X4_copyFrom X T 0 0 52 [some (rv (4, 99) P), some (rv (4, 99) P2), some (iv x2)] [] h5) e (fun h5 e => ?_)
    refine V_aload_n 33 rfl rfl ?_
    refine V_getR (P + 4) 34 rfl fr_RX4_25 ⟨Nat.le_of_ble_eq_true rfl, Or.inl (Nat.le_of_ble_eq_true rfl)⟩ rfl ?_
    refine V_iload_n 35 rfl rfl ?_
    refine V_aload_n 36 rfl rfl ?_
    refine V_getR (P2 + 4) 37 rfl fr_RX4_25 ⟨Nat.le_of_ble_eq_true rfl, Or.inl (Nat.le_of_ble_eq_true rfl)⟩ rfl ?_
    refine V_iload_n 38 rfl rfl ?_
    refine V_iald 39 rfl g2 ?_
    refine V_iast 40 rfl g2 ?_
    refine le_V (P := fun h6 => V G M_X4_copyFrom X T 0 0 64 [some (rv (4, 99) P), some (rv (4, 99) P2), some (iv x2)] [] h6) e (fun h6 e => ?_)
    refine V_aload_n 41 rfl rfl ?_
    refine V_getR (P + 5) 42 rfl fr_RX4_28 ⟨Nat.le_of_ble_eq_true rfl, Or.inl (Nat.le_of_ble_eq_true rfl)⟩ rfl ?_
    refine V_iload_n 43 rfl rfl ?_
    refine V_aload_n 44 rfl rfl ?_
    refine V_getR (P2 + 5) 45 rfl fr_RX4_28 ⟨Nat.le_of_ble_eq_true rfl, Or.inl (Nat.le_of_ble_eq_true rfl)⟩ rfl ?_
    refine V_iload_n 46 rfl rfl ?_
    refine V_iald 47 rfl g2 ?_
    refine V_iast 48 rfl g2 ?_
    refine le_V (P := fun h7 => V G M_X4_copyFrom X T 0 0 76 [some (rv (4, 99) P), some (rv (4, 99) P2), some (iv x2)] [] h7) e (fun h7 e => ?_)
    refine V_aload_n 49 rfl rfl ?_
    refine V_getR (P + 6) 50 rfl fr_RX4_31 ⟨Nat.le_of_ble_eq_true rfl, Or.inl (Nat.le_of_ble_eq_true rfl)⟩ rfl ?_
    refine V_iload_n 51 rfl rfl ?_
    refine V_aload_n 52 rfl rfl ?_
    refine V_getR (P2 + 6) 53 rfl fr_RX4_31 ⟨Nat.le_of_ble_eq_true rfl, Or.inl (Nat.le_of_ble_eq_true rfl)⟩ rfl ?_
    refine V_iload_n 54 rfl rfl ?_
    refine V_iald 55 rfl g2 ?_
    refine V_iast 56 rfl g2 ?_
    refine le_V (P := fun h8 => V G M_X4_copyFrom X T 0 0 88 [some (rv (4, 99) P), some (rv (4, 99) P2), some (iv x2)] [] h8) e (fun h8 e => ?_)
    refine V_aload_n 57 rfl rfl ?_
    refine V_getR (P + 7) 58 rfl fr_RX4_34 ⟨Nat.le_of_ble_eq_true rfl, Or.inl (Nat.le_of_ble_eq_true rfl)⟩ rfl ?_
    refine V_iload_n 59 rfl rfl ?_
    refine V_aload_n 60 rfl rfl ?_
    refine V_getR (P2 + 7) 61 rfl fr_RX4_34 ⟨Nat.le_of_ble_eq_true rfl, Or.inl (Nat.le_of_ble_eq_true rfl)⟩ rfl ?_
    refine V_iload_n 62 rfl rfl ?_
    refine V_iald 63 rfl g2 ?_
    refine V_iast 64 rfl g2 ?_
    refine le_V (P := fun h9 => V G M_X4_copyFrom X T 0 0 100 [some (rv (4, 99) P), some (rv (4, 99) P2), some (iv x2)] [] h9) e (fun h9 e => ?_)
    refine V_aload_n 65 rfl rfl ?_
    refine V_getR (P + 8) 66 rfl fr_RX4_37 ⟨Nat.le_of_ble_eq_true rfl, Or.inl (Nat.le_of_ble_eq_true rfl)⟩ rfl ?_
    refine V_iload_n 67 rfl rfl ?_
    refine V_aload_n 68 rfl rfl ?_
    refine V_getR (P2 + 8) 69 rfl fr_RX4_37 ⟨Nat.le_of_ble_eq_true rfl, Or.inl (Nat.le_of_ble_eq_true rfl)⟩ rfl ?_
    refine V_iload_n 70 rfl rfl ?_
    refine V_iald 71 rfl g2 ?_
    refine V_iast 72 rfl g2 ?_
    refine le_V (P := fun h10 => V G M_X4_copyFrom X T 0 0 112 [some (rv (4, 99) P), some (rv (4, 99) P2), some (iv x2)] [] h10) e (fun h10 e => ?_)
    refine V_aload_n 73 rfl rfl ?_
    refine V_getR (P + 9) 74 rfl fr_RX4_40 ⟨Nat.le_of_ble_eq_true rfl, Or.inl (Nat.le_of_ble_eq_true rfl)⟩ rfl ?_
    refine V_iload_n 75 rfl rfl ?_
    refine V_aload_n 76 rfl rfl ?_
    refine V_getR (P2 + 9) 77 rfl fr_RX4_40 ⟨Nat.le_of_ble_eq_true rfl, Or.inl (Nat.le_of_ble_eq_true rfl)⟩ rfl ?_
    refine V_iload_n 78 rfl rfl ?_
    refine V_iald 79 rfl g2 ?_
    refine V_iast 80 rfl g2 ?_
    refine le_V (P := fun h11 => V G M_X4_copyFrom X T 0 0 124 [some (rv (4, 99) P), some (rv (4, 99) P2), some (iv x2)] [] h11) e (fun h11 e => ?_)
    refine V_aload_n 81 rfl rfl ?_
    refine V_getR (P + 10) 82 rfl fr_RX4_43 ⟨Nat.le_of_ble_eq_true rfl, Or.inl (Nat.le_of_ble_eq_true rfl)⟩ rfl ?_
    refine V_iload_n 83 rfl rfl ?_
    refine V_aload_n 84 rfl rfl ?_
    refine V_getR (P2 + 10) 85 rfl fr_RX4_43 ⟨Nat.le_of_ble_eq_true rfl, Or.inl (Nat.le_of_ble_eq_true rfl)⟩ rfl ?_
    refine V_iload_n 86 rfl rfl ?_
    refine V_zald 87 rfl g2 ?_
    refine V_zast 88 rfl g2 ?_
    refine le_V (P := fun h12 => V G M_X4_copyFrom X T 0 0 136 [some (rv (4, 99) P), some (rv (4, 99) P2), some (iv x2)] [] h12) e (fun h12 e => ?_)
    refine V_iinc (x2 + (nI 1)) 89 rfl rfl (inc_1 _) (Nat.le_of_ble_eq_true rfl) rfl ?_
    show V G M_X4_copyFrom X T 0 0 139 [some (rv (4, 99) P), some (rv (4, 99) P2), some (iv (x2 + (nI 1)))] [] h12
    refine V_goto 10 90 rfl (by decide +kernel) ?_
    refine V_msk [true, true, true] (lc' := [some (rv (4, 99) P), some (rv (4, 99) P2), some (iv (x2 + (nI 1)))]) rfl ?_
    exact hK10 (x2 + (nI 1)) h12 e
set_option maxHeartbeats 4000000 in
theorem c_X4_copyFrom {G : kG} {T : List kT} {P : Nat} {P2 : Nat} {h : kH} {h0 : kH} (e : p_X4_copyFrom P P2 h = some h0) : k_C G M_X4_copyFrom T [rv (4, 99) P, rv (4, 99) P2] h none h0 := by
  refine k_C_of 1 (by decide +kernel) rfl tb_X4_copyFrom rfl (fun X hR => ?_)
  show V G M_X4_copyFrom X T 0 0 0 [some (rv (4, 99) P), some (rv (4, 99) P2), none] [] h
  unfold p_X4_copyFrom at e
  refine V_aload_n 0 rfl rfl ?_
  refine V_aload_n 1 rfl rfl ?_
  refine V_getI 2 rfl fi_RX4_9 ?_
  refine V_putI 3 rfl fi_RX4_9 ?_
  refine le_V (P := fun h1 => V G M_X4_copyFrom X T 0 0 8 [some (rv (4, 99) P), some (rv (4, 99) P2), none] [] h1) e (fun h1 e => ?_)
  refine V_iconst (nI 0) 4 rfl ic_0 ?_
  refine V_istore_n 5 rfl (Nat.le_of_ble_eq_true rfl) rfl ?_
  show V G M_X4_copyFrom X T 0 0 10 [some (rv (4, 99) P), some (rv (4, 99) P2), some (iv (nI 0))] [] h1
  refine V_msk [true, true, true] (lc' := [some (rv (4, 99) P), some (rv (4, 99) P2), some (iv (nI 0))]) rfl ?_
  exact fx_e (P := fun s => V G M_X4_copyFrom X T 0 0 10 [some (rv (4, 99) P), some (rv (4, 99) P2), some (iv s.1)] [] s.2) (fun K10 hK10 s e => w_X4_copyFrom_10 hR P P2 K10 (fun x2 h e => hK10 (x2, h) e) s.1 s.2 e) FU ((nI 0), h1) e
set_option maxHeartbeats 4000000 in
theorem c_X2_copyFrom {G : kG} {T : List kT} {H : Nat} {H2 : Nat} {h : kH} {h0 : kH} (e : p_X2_copyFrom H H2 h = some h0) : k_C G M_X2_copyFrom T [rv (2, 99) H, rv (2, 99) H2] h none h0 := by
  refine k_C_of 0 (by decide +kernel) rfl tb_X2_copyFrom rfl (fun X hR => ?_)
  show V G M_X2_copyFrom X T 0 0 0 [some (rv (2, 99) H), some (rv (2, 99) H2)] [] h
  unfold p_X2_copyFrom at e
  refine V_aload_n 0 rfl rfl ?_
  refine V_getR (H + 1) 1 rfl fr_RX2_10 ⟨Nat.le_of_ble_eq_true rfl, Or.inr rfl⟩ rfl ?_
  refine V_aload_n 2 rfl rfl ?_
  refine V_getR (H2 + 1) 3 rfl fr_RX2_10 ⟨Nat.le_of_ble_eq_true rfl, Or.inr rfl⟩ rfl ?_
  obtain ⟨h1, d2, e⟩ := bd_e e
  refine V_callVN (N := M_X1_copyFrom) (av := [rv (1, 99) (H2 + 1)]) (st := []) (r := none) (h' := h1) 4 rfl (c_X1_copyFrom d2) g_X1_copyFrom gv_X1_copyFrom nk_RX2_27 ⟨Nat.le_of_ble_eq_true rfl, Nat.le_of_ble_eq_true rfl⟩ rfl rfl (Nat.le_of_ble_eq_true rfl) ⟨Nat.zero_le _, Nat.zero_le _⟩ ?_
  show V G M_X2_copyFrom X T 0 0 11 [some (rv (2, 99) H), some (rv (2, 99) H2)] [] h1
  refine V_aload_n 5 rfl rfl ?_
  refine V_getR (H + 8) 6 rfl fr_RX2_19 ⟨Nat.le_of_ble_eq_true rfl, Or.inr rfl⟩ rfl ?_
  refine V_aload_n 7 rfl rfl ?_
  refine V_getR (H2 + 8) 8 rfl fr_RX2_19 ⟨Nat.le_of_ble_eq_true rfl, Or.inr rfl⟩ rfl ?_
  obtain ⟨h3, d4, e⟩ := bd_e e
  refine V_callVN (N := M_X4_copyFrom) (av := [rv (4, 99) (H2 + 8)]) (st := []) (r := none) (h' := h3) 9 rfl (c_X4_copyFrom d4) g_X4_copyFrom gv_X4_copyFrom nk_RX2_31 ⟨Nat.le_of_ble_eq_true rfl, Nat.le_of_ble_eq_true rfl⟩ rfl rfl (Nat.le_of_ble_eq_true rfl) ⟨Nat.zero_le _, Nat.zero_le _⟩ ?_
  show V G M_X2_copyFrom X T 0 0 22 [some (rv (2, 99) H), some (rv (2, 99) H2)] [] h3
  refine V_aload_n 10 rfl rfl ?_
  refine V_aload_n 11 rfl rfl ?_
  refine V_getI 12 rfl fi_RX2_23 ?_
  refine V_putI 13 rfl fi_RX2_23 ?_
  refine le_V (P := fun h5 => V G M_X2_copyFrom X T 0 0 30 [some (rv (2, 99) H), some (rv (2, 99) H2)] [] h5) e (fun h5 e => ?_)
  cases e
  exact V_vret 14 rfl hR rfl
set_option maxHeartbeats 4000000 in
theorem c_X4_isBursting {G : kG} {T : List kT} {P : Nat} {x1 : Int32} {h : kH} {r0 : Int32} {h0 : kH} (e : p_X4_isBursting P x1 h = some (r0, h0)) : k_C G M_X4_isBursting T [rv (4, 99) P, iv x1] h (some (iv r0)) h0 := by
  refine k_C_of 1 (by decide +kernel) rfl tb_X4_isBursting rfl (fun X hR => ?_)
  show V G M_X4_isBursting X T 0 0 0 [some (rv (4, 99) P), some (iv x1), none] [] h
  unfold p_X4_isBursting at e
  refine V_bipush (nI 10) 0 rfl bp_10 ?_
  refine V_aload_n 1 rfl rfl ?_
  refine V_getR (P + 4) 2 rfl fr_RX4_25 ⟨Nat.le_of_ble_eq_true rfl, Or.inl (Nat.le_of_ble_eq_true rfl)⟩ rfl ?_
  refine V_iload_n 3 rfl rfl ?_
  obtain ⟨g1, e⟩ := gd_e e
  refine V_iald 4 rfl g1 ?_
  refine V_iconst (nI 1) 5 rfl ic_1 ?_
  refine V_iadd 6 rfl ?_
  refine V_imul 7 rfl ?_
  refine V_istore_n 8 rfl (Nat.le_of_ble_eq_true rfl) rfl ?_
  refine le_V (P := fun v2 => V G M_X4_isBursting X T 0 0 12 [some (rv (4, 99) P), some (iv x1), some (iv v2)] [] h) e (fun v2 e => ?_)
  refine V_iload_n 9 rfl rfl ?_
  refine V_iconst (nI 1) 10 rfl ic_1 ?_
  rcases if_e e with ⟨c11, e⟩ | ⟨c11, e⟩
  · refine V_icmp_lt 28 11 rfl (by decide +kernel) (fun _ => ?_) (fun q => absurd c11 q) 
    refine V_iconst (nI 0) 18 rfl ic_0 ?_
    cases e
    exact V_zret 19 rfl z_0 hR rfl
  · refine V_icmp_lt 28 11 rfl (by decide +kernel) (fun q => absurd q c11) (fun _ => ?_)
    refine V_aload_n 12 rfl rfl ?_
    refine V_getR (P + 6) 13 rfl fr_RX4_31 ⟨Nat.le_of_ble_eq_true rfl, Or.inl (Nat.le_of_ble_eq_true rfl)⟩ rfl ?_
    refine V_iload_n 14 rfl rfl ?_
    refine V_iald 15 rfl g1 ?_
    refine V_bipush (nI 100) 16 rfl bp_100 ?_
    rcases if_e e with ⟨c17, e⟩ | ⟨c17, e⟩
    · refine V_icmp_gt 30 17 rfl (by decide +kernel) (fun _ => ?_) (fun q => absurd c17 q) 
      refine V_aload_n 20 rfl rfl ?_
      refine V_getR (P + 3) 21 rfl fr_RX4_22 ⟨Nat.le_of_ble_eq_true rfl, Or.inl (Nat.le_of_ble_eq_true rfl)⟩ rfl ?_
      refine V_iload_n 22 rfl rfl ?_
      refine V_iald 23 rfl g1 ?_
      refine V_aload_n 24 rfl rfl ?_
      refine V_getR (P + 6) 25 rfl fr_RX4_31 ⟨Nat.le_of_ble_eq_true rfl, Or.inl (Nat.le_of_ble_eq_true rfl)⟩ rfl ?_
      refine V_iload_n 26 rfl rfl ?_
      refine V_iald 27 rfl g1 ?_
      refine V_bipush (nI 100) 28 rfl bp_100 ?_
      refine V_isub 29 rfl ?_
      refine V_imul 30 rfl ?_
      refine V_iload_n 31 rfl rfl ?_
      obtain ⟨g3, e⟩ := gd_e e
      refine V_idiv 32 rfl (of_decide_eq_true g3) ?_
      refine V_aload_n 33 rfl rfl ?_
      refine V_getR (P + 5) 34 rfl fr_RX4_28 ⟨Nat.le_of_ble_eq_true rfl, Or.inl (Nat.le_of_ble_eq_true rfl)⟩ rfl ?_
      refine V_iload_n 35 rfl rfl ?_
      refine V_iald 36 rfl g1 ?_
      rcases if_e e with ⟨c37, e⟩ | ⟨c37, e⟩
      · refine V_icmp_le 61 37 rfl (by decide +kernel) (fun _ => ?_) (fun q => absurd c37 q) 
        refine V_iconst (nI 0) 40 rfl ic_0 ?_
        cases e
        exact V_zret 41 rfl z_0 hR rfl
      · refine V_icmp_le 61 37 rfl (by decide +kernel) (fun q => absurd q c37) (fun _ => ?_)
        refine V_iconst (nI 1) 38 rfl ic_1 ?_
        refine V_goto 62 39 rfl (by decide +kernel) ?_
        cases e
        exact V_zret 41 rfl z_1 hR rfl
    · refine V_icmp_gt 30 17 rfl (by decide +kernel) (fun q => absurd q c17) (fun _ => ?_)
      refine V_iconst (nI 0) 18 rfl ic_0 ?_
      cases e
      exact V_zret 19 rfl z_0 hR rfl
set_option maxHeartbeats 4000000 in
theorem c_X4_loseWater {G : kG} {T : List kT} {P : Nat} {x1 : Int32} {x2 : Int32} {h : kH} {h0 : kH} (e : p_X4_loseWater P x1 x2 h = some h0) : k_C G M_X4_loseWater T [rv (4, 99) P, iv x1, iv x2] h none h0 := by
  refine k_C_of 0 (by decide +kernel) rfl tb_X4_loseWater rfl (fun X hR => ?_)
  show V G M_X4_loseWater X T 0 0 0 [some (rv (4, 99) P), some (iv x1), some (iv x2)] [] h
  unfold p_X4_loseWater at e
  refine V_aload_n 0 rfl rfl ?_
  refine V_getR (P + 3) 1 rfl fr_RX4_22 ⟨Nat.le_of_ble_eq_true rfl, Or.inl (Nat.le_of_ble_eq_true rfl)⟩ rfl ?_
  refine V_iload_n 2 rfl rfl ?_
  refine V_dup2 3 rfl nj_i nj_r ?_
  obtain ⟨g1, e⟩ := gd_e e
  refine V_iald 4 rfl g1 ?_
  refine V_aload_n 5 rfl rfl ?_
  refine V_getR (P + 3) 6 rfl fr_RX4_22 ⟨Nat.le_of_ble_eq_true rfl, Or.inl (Nat.le_of_ble_eq_true rfl)⟩ rfl ?_
  refine V_iload_n 7 rfl rfl ?_
  refine V_iald 8 rfl g1 ?_
  refine V_iload_n 9 rfl rfl ?_
  refine V_mmin 10 rfl lm_RX4_95 mmin_1 mmin_2 mmin_3 ⟨Nat.le_of_ble_eq_true rfl, Nat.le_of_ble_eq_true rfl⟩ ⟨Nat.zero_le _, Nat.zero_le _⟩ ?_
  refine V_isub 11 rfl ?_
  refine V_iast 12 rfl g1 ?_
  refine le_V (P := fun h2 => V G M_X4_loseWater X T 0 0 19 [some (rv (4, 99) P), some (iv x1), some (iv x2)] [] h2) e (fun h2 e => ?_)
  cases e
  exact V_vret 13 rfl hR rfl
set_option maxHeartbeats 4000000 in
theorem w_X4_steamAndHarden_37 {G : kG} {X : kX} {T : List kT} {h0 : kH} (hR : k_R G M_X4_steamAndHarden X T 0 0 none h0) (P : Nat) (R : Nat) (x1 : Int32) (h : kH) (e : p_X4_steamAndHarden_37 P R x1 h = some h0) : V G M_X4_steamAndHarden X T 0 0 37 [some (rv (4, 99) P), some (iv x1), some (rv (5, 99) R)] [] h := by
  unfold p_X4_steamAndHarden_37 at e
  refine V_aload_n 24 rfl rfl ?_
  refine V_getR (P + 6) 25 rfl fr_RX4_31 ⟨Nat.le_of_ble_eq_true rfl, Or.inl (Nat.le_of_ble_eq_true rfl)⟩ rfl ?_
  refine V_iload_n 26 rfl rfl ?_
  obtain ⟨g2, e⟩ := gd_e e
  refine V_iald 27 rfl g2 ?_
  refine V_bipush (nI 10) 28 rfl bp_10 ?_
  refine V_aload_n 29 rfl rfl ?_
  refine V_getI 30 rfl fi_RX4_92 ?_
  refine V_imul 31 rfl ?_
  rcases if_e e with ⟨c32, e⟩ | ⟨c32, e⟩
  · refine V_icmp_lt 63 32 rfl (by decide +kernel) (fun _ => ?_) (fun q => absurd c32 q) 
    cases e
    exact V_vret 41 rfl hR rfl
  · refine V_icmp_lt 63 32 rfl (by decide +kernel) (fun q => absurd q c32) (fun _ => ?_)
    refine V_aload_n 33 rfl rfl ?_
    refine V_getR (P + 7) 34 rfl fr_RX4_34 ⟨Nat.le_of_ble_eq_true rfl, Or.inl (Nat.le_of_ble_eq_true rfl)⟩ rfl ?_
    refine V_iload_n 35 rfl rfl ?_
    refine V_dup2 36 rfl nj_i nj_r ?_
    refine V_iald 37 rfl g2 ?_
    refine V_iconst (nI 1) 38 rfl ic_1 ?_
    refine V_iadd 39 rfl ?_
    refine V_iast 40 rfl g2 ?_
    refine le_V (P := fun h3 => V G M_X4_steamAndHarden X T 0 0 63 [some (rv (4, 99) P), some (iv x1), some (rv (5, 99) R)] [] h3) e (fun h3 e => ?_)
    cases e
    exact V_vret 41 rfl hR rfl
set_option maxHeartbeats 4000000 in
theorem c_X4_steamAndHarden {G : kG} {T : List kT} {P : Nat} {R : Nat} {x1 : Int32} {h : kH} {h0 : kH} (e : p_X4_steamAndHarden P R x1 h = some h0) : k_C G M_X4_steamAndHarden T [rv (4, 99) P, iv x1, rv (5, 99) R] h none h0 := by
  refine k_C_of 0 (by decide +kernel) rfl tb_X4_steamAndHarden rfl (fun X hR => ?_)
  show V G M_X4_steamAndHarden X T 0 0 0 [some (rv (4, 99) P), some (iv x1), some (rv (5, 99) R)] [] h
  unfold p_X4_steamAndHarden at e
  refine V_aload_n 0 rfl rfl ?_
  refine V_getR (P + 6) 1 rfl fr_RX4_31 ⟨Nat.le_of_ble_eq_true rfl, Or.inl (Nat.le_of_ble_eq_true rfl)⟩ rfl ?_
  refine V_iload_n 2 rfl rfl ?_
  obtain ⟨g1, e⟩ := gd_e e
  refine V_iald 3 rfl g1 ?_
  refine V_bipush (nI 60) 4 rfl bp_60 ?_
  rcases if_e e with ⟨c5, e⟩ | ⟨c5, e⟩
  · refine V_icmp_le 37 5 rfl (by decide +kernel) (fun _ => ?_) (fun q => absurd c5 q) 
    refine V_msk [true, true, true] (lc' := [some (rv (4, 99) P), some (iv x1), some (rv (5, 99) R)]) rfl ?_
    exact w_X4_steamAndHarden_37 hR P R x1 h e
  · refine V_icmp_le 37 5 rfl (by decide +kernel) (fun q => absurd q c5) (fun _ => ?_)
    refine V_aload_n 6 rfl rfl ?_
    refine V_iload_n 7 rfl rfl ?_
    refine V_aload_n 8 rfl rfl ?_
    refine V_getR (P + 4) 9 rfl fr_RX4_25 ⟨Nat.le_of_ble_eq_true rfl, Or.inl (Nat.le_of_ble_eq_true rfl)⟩ rfl ?_
    refine V_iload_n 10 rfl rfl ?_
    refine V_iald 11 rfl g1 ?_
    refine V_iconst (nI 1) 12 rfl ic_1 ?_
    refine V_iadd 13 rfl ?_
    refine V_aload_n 14 rfl rfl ?_
    refine V_getR (P + 6) 15 rfl fr_RX4_31 ⟨Nat.le_of_ble_eq_true rfl, Or.inl (Nat.le_of_ble_eq_true rfl)⟩ rfl ?_
    refine V_iload_n 16 rfl rfl ?_
    refine V_iald 17 rfl g1 ?_
    refine V_bipush (nI 60) 18 rfl bp_60 ?_
    refine V_isub 19 rfl ?_
    refine V_imul 20 rfl ?_
    refine V_bipush (nI 100) 21 rfl bp_100 ?_
    refine V_idiv 22 rfl (by decide +kernel) ?_
    obtain ⟨h4, d5, e⟩ := bd_e e
    refine V_callV (N := M_X4_loseWater) (av := [iv x1, iv ((((h (P + 4) (x1).toNatClampNeg) + (nI 1)) * ((h (P + 6) (x1).toNatClampNeg) - (nI 60))) / (nI 100))]) (st := []) (r := none) (h' := h4) 23 rfl (c_X4_loseWater d5) g_X4_loseWater gv_X4_loseWater lk_RX4_88 ⟨Nat.le_of_ble_eq_true rfl, Nat.le_of_ble_eq_true rfl⟩ rfl rfl (Nat.le_of_ble_eq_true rfl) ⟨Nat.zero_le _, Nat.zero_le _⟩ ?_
    show V G M_X4_steamAndHarden X T 0 0 37 [some (rv (4, 99) P), some (iv x1), some (rv (5, 99) R)] [] h4
    refine V_msk [true, true, true] (lc' := [some (rv (4, 99) P), some (iv x1), some (rv (5, 99) R)]) rfl ?_
    exact w_X4_steamAndHarden_37 hR P R x1 h4 e
set_option maxHeartbeats 4000000 in
theorem w_X4_warm_126 {G : kG} {X : kX} {T : List kT} {h0 : kH} (hR : k_R G M_X4_warm X T 0 0 none h0) (P : Nat) (R : Nat) (x1 : Int32) (h : kH) (e : p_X4_warm_126 P R x1 h = some h0) : V G M_X4_warm X T 0 0 126 [some (rv (4, 99) P), some (iv x1), some (rv (5, 99) R), none, none, none] [] h := by
  unfold p_X4_warm_126 at e
  refine V_aload_n 75 rfl rfl ?_
  refine V_iload_n 76 rfl rfl ?_
  refine V_aload_n 77 rfl rfl ?_
  obtain ⟨h9, d10, e⟩ := bd_e e
  refine V_callV (N := M_X4_steamAndHarden) (av := [iv x1, rv (5, 99) R]) (st := []) (r := none) (h' := h9) 78 rfl (c_X4_steamAndHarden d10) g_X4_steamAndHarden gv_X4_steamAndHarden lk_RX4_84 ⟨Nat.le_of_ble_eq_true rfl, Nat.le_of_ble_eq_true rfl⟩ rfl rfl (Nat.le_of_ble_eq_true rfl) ⟨Nat.zero_le _, Nat.zero_le _⟩ ?_
  show V G M_X4_warm X T 0 0 132 [some (rv (4, 99) P), some (iv x1), some (rv (5, 99) R), none, none, none] [] h9
  cases e
  exact V_vret 79 rfl hR rfl
set_option maxHeartbeats 4000000 in
theorem w_X4_warm_78 {G : kG} {X : kX} {T : List kT} {h0 : kH} (hR : k_R G M_X4_warm X T 0 0 none h0) (P : Nat) (R : Nat) (x1 : Int32) (x5 : Int32) (h : kH) (e : p_X4_warm_78 P R x1 x5 h = some h0) : V G M_X4_warm X T 0 0 78 [some (rv (4, 99) P), some (iv x1), some (rv (5, 99) R), none, none, some (iv x5)] [] h := by
  unfold p_X4_warm_78 at e
  refine V_aload_n 48 rfl rfl ?_
  refine V_iload_n 49 rfl rfl ?_
  obtain ⟨v8, h6, d7, e⟩ := bd2_e e
  refine V_callV (N := M_X4_isBursting) (av := [iv x1]) (st := []) (r := some (iv v8)) (h' := h6) 50 rfl (c_X4_isBursting d7) g_X4_isBursting gv_X4_isBursting lk_RX4_77 ⟨Nat.le_of_ble_eq_true rfl, Nat.le_of_ble_eq_true rfl⟩ rfl rfl (Nat.le_of_ble_eq_true rfl) ⟨Nat.zero_le _, Nat.zero_le _⟩ ?_
  show V G M_X4_warm X T 0 0 83 [some (rv (4, 99) P), some (iv x1), some (rv (5, 99) R), none, none, some (iv x5)] [iv v8] h6
  rcases if_e e with ⟨c51, e⟩ | ⟨c51, e⟩
  · refine V_if_eq 96 51 rfl (by decide +kernel) (fun _ => ?_) (fun q => absurd c51 q) 
    refine V_iload 58 rfl rfl ?_
    refine V_ineg 59 rfl ?_
    refine V_aload_n 60 rfl rfl ?_
    refine V_getI 61 rfl fi_RX4_81 ?_
    rcases if_e e with ⟨c62, e⟩ | ⟨c62, e⟩
    · refine V_icmp_le 126 62 rfl (by decide +kernel) (fun _ => ?_) (fun q => absurd c62 q) 
      refine V_msk [true, true, true, false, false, false] (lc' := [some (rv (4, 99) P), some (iv x1), some (rv (5, 99) R), none, none, none]) rfl ?_
      exact w_X4_warm_126 hR P R x1 h6 e
    · refine V_icmp_le 126 62 rfl (by decide +kernel) (fun q => absurd q c62) (fun _ => ?_)
      refine V_aload_n 63 rfl rfl ?_
      refine V_getR (P + 7) 64 rfl fr_RX4_34 ⟨Nat.le_of_ble_eq_true rfl, Or.inl (Nat.le_of_ble_eq_true rfl)⟩ rfl ?_
      refine V_iload_n 65 rfl rfl ?_
      obtain ⟨g11, e⟩ := gd_e e
      refine V_iald 66 rfl g11 ?_
      refine V_iconst (nI 1) 67 rfl ic_1 ?_
      rcases if_e e with ⟨c68, e⟩ | ⟨c68, e⟩
      · refine V_icmp_lt 126 68 rfl (by decide +kernel) (fun _ => ?_) (fun q => absurd c68 q) 
        refine V_msk [true, true, true, false, false, false] (lc' := [some (rv (4, 99) P), some (iv x1), some (rv (5, 99) R), none, none, none]) rfl ?_
        exact w_X4_warm_126 hR P R x1 h6 e
      · refine V_icmp_lt 126 68 rfl (by decide +kernel) (fun q => absurd q c68) (fun _ => ?_)
        refine V_aload_n 69 rfl rfl ?_
        refine V_getR (P + 8) 70 rfl fr_RX4_37 ⟨Nat.le_of_ble_eq_true rfl, Or.inl (Nat.le_of_ble_eq_true rfl)⟩ rfl ?_
        refine V_iload_n 71 rfl rfl ?_
        refine V_iconst (nI 4) 72 rfl ic_4 ?_
        refine V_iast 73 rfl g11 ?_
        refine le_V (P := fun h12 => V G M_X4_warm X T 0 0 123 [some (rv (4, 99) P), some (iv x1), some (rv (5, 99) R), none, none, some (iv x5)] [] h12) e (fun h12 e => ?_)
        refine V_goto 132 74 rfl (by decide +kernel) ?_
        cases e
        exact V_vret 79 rfl hR rfl
  · refine V_if_eq 96 51 rfl (by decide +kernel) (fun q => absurd q c51) (fun _ => ?_)
    refine V_aload_n 52 rfl rfl ?_
    refine V_getR (P + 8) 53 rfl fr_RX4_37 ⟨Nat.le_of_ble_eq_true rfl, Or.inl (Nat.le_of_ble_eq_true rfl)⟩ rfl ?_
    refine V_iload_n 54 rfl rfl ?_
    refine V_iconst (nI 1) 55 rfl ic_1 ?_
    obtain ⟨g13, e⟩ := gd_e e
    refine V_iast 56 rfl g13 ?_
    refine le_V (P := fun h14 => V G M_X4_warm X T 0 0 93 [some (rv (4, 99) P), some (iv x1), some (rv (5, 99) R), none, none, some (iv x5)] [] h14) e (fun h14 e => ?_)
    refine V_goto 132 57 rfl (by decide +kernel) ?_
    cases e
    exact V_vret 79 rfl hR rfl
set_option maxHeartbeats 4000000 in
theorem w_X4_warm_31 {G : kG} {X : kX} {T : List kT} {h0 : kH} (hR : k_R G M_X4_warm X T 0 0 none h0) (P : Nat) (R : Nat) (x1 : Int32) (s0 : Int32) (h : kH) (e : p_X4_warm_31 P R x1 s0 h = some h0) : V G M_X4_warm X T 0 0 31 [some (rv (4, 99) P), some (iv x1), some (rv (5, 99) R), none, none, none] [iv s0] h := by
  unfold p_X4_warm_31 at e
  refine V_istore 20 rfl (Nat.le_of_ble_eq_true rfl) rfl ?_
  show V G M_X4_warm X T 0 0 33 [some (rv (4, 99) P), some (iv x1), some (rv (5, 99) R), none, none, some (iv s0)] [] h
  refine V_aload_n 21 rfl rfl ?_
  refine V_getR (P + 6) 22 rfl fr_RX4_31 ⟨Nat.le_of_ble_eq_true rfl, Or.inl (Nat.le_of_ble_eq_true rfl)⟩ rfl ?_
  refine V_iload_n 23 rfl rfl ?_
  refine V_dup2 24 rfl nj_i nj_r ?_
  obtain ⟨g4, e⟩ := gd_e e
  refine V_iald 25 rfl g4 ?_
  refine V_iload 26 rfl rfl ?_
  refine V_iadd 27 rfl ?_
  refine V_iast 28 rfl g4 ?_
  refine le_V (P := fun h5 => V G M_X4_warm X T 0 0 44 [some (rv (4, 99) P), some (iv x1), some (rv (5, 99) R), none, none, some (iv s0)] [] h5) e (fun h5 e => ?_)
  refine V_iload 29 rfl rfl ?_
  rcases if_e e with ⟨c30, e⟩ | ⟨c30, e⟩
  · refine V_if_le 78 30 rfl (by decide +kernel) (fun _ => ?_) (fun q => absurd c30 q) 
    refine V_msk [true, true, true, false, false, true] (lc' := [some (rv (4, 99) P), some (iv x1), some (rv (5, 99) R), none, none, some (iv s0)]) rfl ?_
    exact w_X4_warm_78 hR P R x1 s0 h5 e
  · refine V_if_le 78 30 rfl (by decide +kernel) (fun q => absurd q c30) (fun _ => ?_)
    refine V_iload 31 rfl rfl ?_
    refine V_aload_n 32 rfl rfl ?_
    refine V_getR (P + 2) 33 rfl fr_RX4_19 ⟨Nat.le_of_ble_eq_true rfl, Or.inl (Nat.le_of_ble_eq_true rfl)⟩ rfl ?_
    refine V_iload_n 34 rfl rfl ?_
    refine V_iald 35 rfl g4 ?_
    refine V_imul 36 rfl ?_
    refine V_bipush (nI 10) 37 rfl bp_10 ?_
    refine V_aload_n 38 rfl rfl ?_
    refine V_getI 39 rfl fi_RX4_72 ?_
    refine V_imul 40 rfl ?_
    rcases if_e e with ⟨c41, e⟩ | ⟨c41, e⟩
    · refine V_icmp_le 78 41 rfl (by decide +kernel) (fun _ => ?_) (fun q => absurd c41 q) 
      refine V_msk [true, true, true, false, false, true] (lc' := [some (rv (4, 99) P), some (iv x1), some (rv (5, 99) R), none, none, some (iv s0)]) rfl ?_
      exact w_X4_warm_78 hR P R x1 s0 h5 e
    · refine V_icmp_le 78 41 rfl (by decide +kernel) (fun q => absurd q c41) (fun _ => ?_)
      refine V_aload_n 42 rfl rfl ?_
      refine V_getR (P + 8) 43 rfl fr_RX4_37 ⟨Nat.le_of_ble_eq_true rfl, Or.inl (Nat.le_of_ble_eq_true rfl)⟩ rfl ?_
      refine V_iload_n 44 rfl rfl ?_
      refine V_iconst (nI 3) 45 rfl ic_3 ?_
      refine V_iast 46 rfl g4 ?_
      refine le_V (P := fun h15 => V G M_X4_warm X T 0 0 75 [some (rv (4, 99) P), some (iv x1), some (rv (5, 99) R), none, none, some (iv s0)] [] h15) e (fun h15 e => ?_)
      refine V_goto 132 47 rfl (by decide +kernel) ?_
      cases e
      exact V_vret 79 rfl hR rfl
set_option maxHeartbeats 4000000 in
theorem c_X4_warm {G : kG} {T : List kT} {P : Nat} {R : Nat} {x1 : Int32} {x3 : Int32} {h : kH} {h0 : kH} (e : p_X4_warm P R x1 x3 h = some h0) : k_C G M_X4_warm T [rv (4, 99) P, iv x1, rv (5, 99) R, iv x3] h none h0 := by
  refine k_C_of 2 (by decide +kernel) rfl tb_X4_warm rfl (fun X hR => ?_)
  show V G M_X4_warm X T 0 0 0 [some (rv (4, 99) P), some (iv x1), some (rv (5, 99) R), some (iv x3), none, none] [] h
  unfold p_X4_warm at e
  refine V_aload_n 0 rfl rfl ?_
  refine V_getR (P + 2) 1 rfl fr_RX4_19 ⟨Nat.le_of_ble_eq_true rfl, Or.inl (Nat.le_of_ble_eq_true rfl)⟩ rfl ?_
  refine V_iload_n 2 rfl rfl ?_
  obtain ⟨g1, e⟩ := gd_e e
  refine V_iald 3 rfl g1 ?_
  refine V_iconst (nI 1) 4 rfl ic_1 ?_
  refine V_iadd 5 rfl ?_
  refine V_istore 6 rfl (Nat.le_of_ble_eq_true rfl) rfl ?_
  refine le_V (P := fun v2 => V G M_X4_warm X T 0 0 10 [some (rv (4, 99) P), some (iv x1), some (rv (5, 99) R), some (iv x3), some (iv v2), none] [] h) e (fun v2 e => ?_)
  refine V_iload 7 rfl rfl ?_
  refine V_iconst (nI 1) 8 rfl ic_1 ?_
  rcases if_e e with ⟨c9, e⟩ | ⟨c9, e⟩
  · refine V_icmp_ge 20 9 rfl (by decide +kernel) (fun _ => ?_) (fun q => absurd c9 q) 
    refine V_iload_n 12 rfl rfl ?_
    refine V_aload_n 13 rfl rfl ?_
    refine V_getR (P + 6) 14 rfl fr_RX4_31 ⟨Nat.le_of_ble_eq_true rfl, Or.inl (Nat.le_of_ble_eq_true rfl)⟩ rfl ?_
    refine V_iload_n 15 rfl rfl ?_
    refine V_iald 16 rfl g1 ?_
    refine V_isub 17 rfl ?_
    refine V_iload 18 rfl rfl ?_
    obtain ⟨g3, e⟩ := gd_e e
    refine V_idiv 19 rfl (of_decide_eq_true g3) ?_
    refine V_msk [true, true, true, false, false, false] (lc' := [some (rv (4, 99) P), some (iv x1), some (rv (5, 99) R), none, none, none]) rfl ?_
    exact w_X4_warm_31 hR P R x1 ((x3 - (h (P + 6) (x1).toNatClampNeg)) / v2) h e
  · refine V_icmp_ge 20 9 rfl (by decide +kernel) (fun q => absurd q c9) (fun _ => ?_)
    refine V_iconst (nI 0) 10 rfl ic_0 ?_
    refine V_goto 31 11 rfl (by decide +kernel) ?_
    refine V_msk [true, true, true, false, false, false] (lc' := [some (rv (4, 99) P), some (iv x1), some (rv (5, 99) R), none, none, none]) rfl ?_
    exact w_X4_warm_31 hR P R x1 (nI 0) h e
set_option maxHeartbeats 4000000 in
theorem w_X4_isBesideBurst_2 {G : kG} {X : kX} {T : List kT} {r0 : Int32} {h0 : kH} (hR : k_R G M_X4_isBesideBurst X T 0 0 (some (iv r0)) h0) (P : Nat) (R : Nat) (K2 : Int32 × Int32 × kH → Option (Int32 × kH)) (hK2 : ∀ (x1 : Int32) (x3 : Int32) (h : kH), K2 (x1, x3, h) = some (r0, h0) → V G M_X4_isBesideBurst X T 0 0 2 [some (rv (4, 99) P), some (iv x1), some (rv (5, 99) R), some (iv x3)] [] h) (x1 : Int32) (x3 : Int32) (h : kH) (e : p_X4_isBesideBurst_2 K2 P R x1 x3 h = some (r0, h0)) : V G M_X4_isBesideBurst X T 0 0 2 [some (rv (4, 99) P), some (iv x1), some (rv (5, 99) R), some (iv x3)] [] h := by
  unfold p_X4_isBesideBurst_2 at e
  refine V_iload_n 2 rfl rfl ?_
  refine V_aload_n 3 rfl rfl ?_
  refine V_getI 4 rfl fi_RX4_9 ?_
  rcases if_e e with ⟨c5, e⟩ | ⟨c5, e⟩
  · refine V_icmp_ge 46 5 rfl (by decide +kernel) (fun _ => ?_) (fun q => absurd c5 q) 
    refine V_iconst (nI 0) 26 rfl ic_0 ?_
    cases e
    exact V_zret 27 rfl z_0 hR rfl
  · refine V_icmp_ge 46 5 rfl (by decide +kernel) (fun q => absurd q c5) (fun _ => ?_)
    refine V_aload_n 6 rfl rfl ?_
    refine V_getR (P + 11) 7 rfl fr_RX4_47 ⟨Nat.le_of_ble_eq_true rfl, Or.inl (Nat.le_of_ble_eq_true rfl)⟩ rfl ?_
    refine V_iload_n 8 rfl rfl ?_
    obtain ⟨g1, e⟩ := gd_e e
    refine V_zald 9 rfl g1 ?_
    rcases if_e e with ⟨c10, e⟩ | ⟨c10, e⟩
    · refine V_if_eq 40 10 rfl (by decide +kernel) (fun _ => ?_) (fun q => absurd c10 q) 
      refine V_iinc (x3 + (nI 1)) 24 rfl rfl (inc_1 _) (Nat.le_of_ble_eq_true rfl) rfl ?_
      show V G M_X4_isBesideBurst X T 0 0 43 [some (rv (4, 99) P), some (iv x1), some (rv (5, 99) R), some (iv (x3 + (nI 1)))] [] h
      refine V_goto 2 25 rfl (by decide +kernel) ?_
      refine V_msk [true, true, true, true] (lc' := [some (rv (4, 99) P), some (iv x1), some (rv (5, 99) R), some (iv (x3 + (nI 1)))]) rfl ?_
      exact hK2 x1 (x3 + (nI 1)) h e
    · refine V_if_eq 40 10 rfl (by decide +kernel) (fun q => absurd q c10) (fun _ => ?_)
      refine V_aload_n 11 rfl rfl ?_
      refine V_aload_n 12 rfl rfl ?_
      refine V_getR (P + 1) 13 rfl fr_RX4_15 ⟨Nat.le_of_ble_eq_true rfl, Or.inl (Nat.le_of_ble_eq_true rfl)⟩ rfl ?_
      refine V_iload_n 14 rfl rfl ?_
      obtain ⟨g2, e⟩ := gd_e e
      refine V_iald 15 rfl g2 ?_
      refine V_aload_n 16 rfl rfl ?_
      refine V_getR (P + 1) 17 rfl fr_RX4_15 ⟨Nat.le_of_ble_eq_true rfl, Or.inl (Nat.le_of_ble_eq_true rfl)⟩ rfl ?_
      refine V_iload_n 18 rfl rfl ?_
      refine V_iald 19 rfl g1 ?_
      obtain ⟨v5, h3, d4, e⟩ := bd2_e e
      refine V_callVN (N := M_X5_areBeside) (av := [iv (h (P + 1) (x1).toNatClampNeg), iv (h (P + 1) (x3).toNatClampNeg)]) (st := []) (r := some (iv v5)) (h' := h3) 20 rfl (c_X5_areBeside d4) g_X5_areBeside gv_X5_areBeside nk_RX4_107 ⟨Nat.le_of_ble_eq_true rfl, Nat.le_of_ble_eq_true rfl⟩ rfl rfl (Nat.le_of_ble_eq_true rfl) ⟨Nat.zero_le _, Nat.zero_le _⟩ ?_
      show V G M_X4_isBesideBurst X T 0 0 35 [some (rv (4, 99) P), some (iv x1), some (rv (5, 99) R), some (iv x3)] [iv v5] h3
      rcases if_e e with ⟨c21, e⟩ | ⟨c21, e⟩
      · refine V_if_eq 40 21 rfl (by decide +kernel) (fun _ => ?_) (fun q => absurd c21 q) 
        refine V_iinc (x3 + (nI 1)) 24 rfl rfl (inc_1 _) (Nat.le_of_ble_eq_true rfl) rfl ?_
        show V G M_X4_isBesideBurst X T 0 0 43 [some (rv (4, 99) P), some (iv x1), some (rv (5, 99) R), some (iv (x3 + (nI 1)))] [] h3
        refine V_goto 2 25 rfl (by decide +kernel) ?_
        refine V_msk [true, true, true, true] (lc' := [some (rv (4, 99) P), some (iv x1), some (rv (5, 99) R), some (iv (x3 + (nI 1)))]) rfl ?_
        exact hK2 x1 (x3 + (nI 1)) h3 e
      · refine V_if_eq 40 21 rfl (by decide +kernel) (fun q => absurd q c21) (fun _ => ?_)
        refine V_iconst (nI 1) 22 rfl ic_1 ?_
        cases e
        exact V_zret 23 rfl z_1 hR rfl
set_option maxHeartbeats 4000000 in
theorem c_X4_isBesideBurst {G : kG} {T : List kT} {P : Nat} {R : Nat} {x1 : Int32} {h : kH} {r0 : Int32} {h0 : kH} (e : p_X4_isBesideBurst P R x1 h = some (r0, h0)) : k_C G M_X4_isBesideBurst T [rv (4, 99) P, iv x1, rv (5, 99) R] h (some (iv r0)) h0 := by
  refine k_C_of 1 (by decide +kernel) rfl tb_X4_isBesideBurst rfl (fun X hR => ?_)
  show V G M_X4_isBesideBurst X T 0 0 0 [some (rv (4, 99) P), some (iv x1), some (rv (5, 99) R), none] [] h
  unfold p_X4_isBesideBurst at e
  refine V_iconst (nI 0) 0 rfl ic_0 ?_
  refine V_istore_n 1 rfl (Nat.le_of_ble_eq_true rfl) rfl ?_
  show V G M_X4_isBesideBurst X T 0 0 2 [some (rv (4, 99) P), some (iv x1), some (rv (5, 99) R), some (iv (nI 0))] [] h
  refine V_msk [true, true, true, true] (lc' := [some (rv (4, 99) P), some (iv x1), some (rv (5, 99) R), some (iv (nI 0))]) rfl ?_
  exact fx_e (P := fun s => V G M_X4_isBesideBurst X T 0 0 2 [some (rv (4, 99) P), some (iv s.1), some (rv (5, 99) R), some (iv s.2.1)] [] s.2.2) (fun K2 hK2 s e => w_X4_isBesideBurst_2 hR P R K2 (fun x1 x3 h e => hK2 (x1, x3, h) e) s.1 s.2.1 s.2.2 e) FU (x1, (nI 0), h) e
set_option maxHeartbeats 4000000 in
theorem w_X4_strike_37 {G : kG} {X : kX} {T : List kT} {h0 : kH} (hR : k_R G M_X4_strike X T 0 0 none h0) (P : Nat) (R : Nat) (K2 : Int32 × kH → Option (kH)) (hK2 : ∀ (x2 : Int32) (h : kH), K2 (x2, h) = some h0 → V G M_X4_strike X T 0 0 2 [some (rv (4, 99) P), some (rv (5, 99) R), some (iv x2), none] [] h) (x2 : Int32) (s0 : Int32) (h : kH) (e : p_X4_strike_37 K2 P R x2 s0 h = some h0) : V G M_X4_strike X T 0 0 37 [some (rv (4, 99) P), some (rv (5, 99) R), some (iv x2), none] [iv s0] h := by
  unfold p_X4_strike_37 at e
  refine V_istore_n 21 rfl (Nat.le_of_ble_eq_true rfl) rfl ?_
  show V G M_X4_strike X T 0 0 38 [some (rv (4, 99) P), some (rv (5, 99) R), some (iv x2), some (iv s0)] [] h
  refine V_iload_n 22 rfl rfl ?_
  rcases if_e e with ⟨c23, e⟩ | ⟨c23, e⟩
  · refine V_if_eq 58 23 rfl (by decide +kernel) (fun _ => ?_) (fun q => absurd c23 q) 
    refine V_iinc (x2 + (nI 1)) 34 rfl rfl (inc_1 _) (Nat.le_of_ble_eq_true rfl) rfl ?_
    show V G M_X4_strike X T 0 0 61 [some (rv (4, 99) P), some (rv (5, 99) R), some (iv (x2 + (nI 1))), some (iv s0)] [] h
    refine V_goto 2 35 rfl (by decide +kernel) ?_
    refine V_msk [true, true, true, false] (lc' := [some (rv (4, 99) P), some (rv (5, 99) R), some (iv (x2 + (nI 1))), none]) rfl ?_
    exact hK2 (x2 + (nI 1)) h e
  · refine V_if_eq 58 23 rfl (by decide +kernel) (fun q => absurd q c23) (fun _ => ?_)
    refine V_aload_n 24 rfl rfl ?_
    refine V_iload_n 25 rfl rfl ?_
    refine V_aload_n 26 rfl rfl ?_
    obtain ⟨v4, h2, d3, e⟩ := bd2_e e
    refine V_callV (N := M_X4_isBesideBurst) (av := [iv x2, rv (5, 99) R]) (st := []) (r := some (iv v4)) (h' := h2) 27 rfl (c_X4_isBesideBurst d3) g_X4_isBesideBurst gv_X4_isBesideBurst lk_RX4_103 ⟨Nat.le_of_ble_eq_true rfl, Nat.le_of_ble_eq_true rfl⟩ rfl rfl (Nat.le_of_ble_eq_true rfl) ⟨Nat.zero_le _, Nat.zero_le _⟩ ?_
    show V G M_X4_strike X T 0 0 48 [some (rv (4, 99) P), some (rv (5, 99) R), some (iv x2), some (iv s0)] [iv v4] h2
    rcases if_e e with ⟨c28, e⟩ | ⟨c28, e⟩
    · refine V_if_eq 58 28 rfl (by decide +kernel) (fun _ => ?_) (fun q => absurd c28 q) 
      refine V_iinc (x2 + (nI 1)) 34 rfl rfl (inc_1 _) (Nat.le_of_ble_eq_true rfl) rfl ?_
      show V G M_X4_strike X T 0 0 61 [some (rv (4, 99) P), some (rv (5, 99) R), some (iv (x2 + (nI 1))), some (iv s0)] [] h2
      refine V_goto 2 35 rfl (by decide +kernel) ?_
      refine V_msk [true, true, true, false] (lc' := [some (rv (4, 99) P), some (rv (5, 99) R), some (iv (x2 + (nI 1))), none]) rfl ?_
      exact hK2 (x2 + (nI 1)) h2 e
    · refine V_if_eq 58 28 rfl (by decide +kernel) (fun q => absurd q c28) (fun _ => ?_)
      refine V_aload_n 29 rfl rfl ?_
      refine V_getR (P + 8) 30 rfl fr_RX4_37 ⟨Nat.le_of_ble_eq_true rfl, Or.inl (Nat.le_of_ble_eq_true rfl)⟩ rfl ?_
      refine V_iload_n 31 rfl rfl ?_
      refine V_iconst (nI 2) 32 rfl ic_2 ?_
      obtain ⟨g5, e⟩ := gd_e e
      refine V_iast 33 rfl g5 ?_
      refine le_V (P := fun h6 => V G M_X4_strike X T 0 0 58 [some (rv (4, 99) P), some (rv (5, 99) R), some (iv x2), some (iv s0)] [] h6) e (fun h6 e => ?_)
      refine V_iinc (x2 + (nI 1)) 34 rfl rfl (inc_1 _) (Nat.le_of_ble_eq_true rfl) rfl ?_
      show V G M_X4_strike X T 0 0 61 [some (rv (4, 99) P), some (rv (5, 99) R), some (iv (x2 + (nI 1))), some (iv s0)] [] h6
      refine V_goto 2 35 rfl (by decide +kernel) ?_
      refine V_msk [true, true, true, false] (lc' := [some (rv (4, 99) P), some (rv (5, 99) R), some (iv (x2 + (nI 1))), none]) rfl ?_
      exact hK2 (x2 + (nI 1)) h6 e
set_option maxHeartbeats 4000000 in
theorem w_X4_strike_36 {G : kG} {X : kX} {T : List kT} {h0 : kH} (hR : k_R G M_X4_strike X T 0 0 none h0) (P : Nat) (R : Nat) (K2 : Int32 × kH → Option (kH)) (hK2 : ∀ (x2 : Int32) (h : kH), K2 (x2, h) = some h0 → V G M_X4_strike X T 0 0 2 [some (rv (4, 99) P), some (rv (5, 99) R), some (iv x2), none] [] h) (x2 : Int32) (h : kH) (e : p_X4_strike_36 K2 P R x2 h = some h0) : V G M_X4_strike X T 0 0 36 [some (rv (4, 99) P), some (rv (5, 99) R), some (iv x2), none] [] h := by
  unfold p_X4_strike_36 at e
  refine V_iconst (nI 0) 20 rfl ic_0 ?_
  refine V_msk [true, true, true, false] (lc' := [some (rv (4, 99) P), some (rv (5, 99) R), some (iv x2), none]) rfl ?_
  exact w_X4_strike_37 hR P R K2 hK2 x2 (nI 0) h e
set_option maxHeartbeats 4000000 in
theorem w_X4_strike_2 {G : kG} {X : kX} {T : List kT} {h0 : kH} (hR : k_R G M_X4_strike X T 0 0 none h0) (P : Nat) (R : Nat) (K2 : Int32 × kH → Option (kH)) (hK2 : ∀ (x2 : Int32) (h : kH), K2 (x2, h) = some h0 → V G M_X4_strike X T 0 0 2 [some (rv (4, 99) P), some (rv (5, 99) R), some (iv x2), none] [] h) (x2 : Int32) (h : kH) (e : p_X4_strike_2 K2 P R x2 h = some h0) : V G M_X4_strike X T 0 0 2 [some (rv (4, 99) P), some (rv (5, 99) R), some (iv x2), none] [] h := by
  unfold p_X4_strike_2 at e
  refine V_iload_n 2 rfl rfl ?_
  refine V_aload_n 3 rfl rfl ?_
  refine V_getI 4 rfl fi_RX4_9 ?_
  rcases if_e e with ⟨c5, e⟩ | ⟨c5, e⟩
  · refine V_icmp_ge 64 5 rfl (by decide +kernel) (fun _ => ?_) (fun q => absurd c5 q) 
    cases e
    exact V_vret 36 rfl hR rfl
  · refine V_icmp_ge 64 5 rfl (by decide +kernel) (fun q => absurd q c5) (fun _ => ?_)
    refine V_aload_n 6 rfl rfl ?_
    refine V_getR (P + 8) 7 rfl fr_RX4_37 ⟨Nat.le_of_ble_eq_true rfl, Or.inl (Nat.le_of_ble_eq_true rfl)⟩ rfl ?_
    refine V_iload_n 8 rfl rfl ?_
    obtain ⟨g1, e⟩ := gd_e e
    refine V_iald 9 rfl g1 ?_
    rcases if_e e with ⟨c10, e⟩ | ⟨c10, e⟩
    · refine V_if_ne 36 10 rfl (by decide +kernel) (fun q => absurd c10 q) (fun _ => ?_)
      refine V_aload_n 11 rfl rfl ?_
      refine V_getR (P + 7) 12 rfl fr_RX4_34 ⟨Nat.le_of_ble_eq_true rfl, Or.inl (Nat.le_of_ble_eq_true rfl)⟩ rfl ?_
      refine V_iload_n 13 rfl rfl ?_
      refine V_iald 14 rfl g1 ?_
      refine V_aload_n 15 rfl rfl ?_
      refine V_getI 16 rfl fi_RX4_100 ?_
      rcases if_e e with ⟨c17, e⟩ | ⟨c17, e⟩
      · refine V_icmp_ge 36 17 rfl (by decide +kernel) (fun _ => ?_) (fun q => absurd c17 q) 
        refine V_msk [true, true, true, false] (lc' := [some (rv (4, 99) P), some (rv (5, 99) R), some (iv x2), none]) rfl ?_
        exact w_X4_strike_36 hR P R K2 hK2 x2 h e
      · refine V_icmp_ge 36 17 rfl (by decide +kernel) (fun q => absurd q c17) (fun _ => ?_)
        refine V_iconst (nI 1) 18 rfl ic_1 ?_
        refine V_goto 37 19 rfl (by decide +kernel) ?_
        refine V_msk [true, true, true, false] (lc' := [some (rv (4, 99) P), some (rv (5, 99) R), some (iv x2), none]) rfl ?_
        exact w_X4_strike_37 hR P R K2 hK2 x2 (nI 1) h e
    · refine V_if_ne 36 10 rfl (by decide +kernel) (fun _ => ?_) (fun q => absurd q c10) 
      refine V_msk [true, true, true, false] (lc' := [some (rv (4, 99) P), some (rv (5, 99) R), some (iv x2), none]) rfl ?_
      exact w_X4_strike_36 hR P R K2 hK2 x2 h e
set_option maxHeartbeats 4000000 in
theorem c_X4_strike {G : kG} {T : List kT} {P : Nat} {R : Nat} {h : kH} {h0 : kH} (e : p_X4_strike P R h = some h0) : k_C G M_X4_strike T [rv (4, 99) P, rv (5, 99) R] h none h0 := by
  refine k_C_of 2 (by decide +kernel) rfl tb_X4_strike rfl (fun X hR => ?_)
  show V G M_X4_strike X T 0 0 0 [some (rv (4, 99) P), some (rv (5, 99) R), none, none] [] h
  unfold p_X4_strike at e
  refine V_iconst (nI 0) 0 rfl ic_0 ?_
  refine V_istore_n 1 rfl (Nat.le_of_ble_eq_true rfl) rfl ?_
  show V G M_X4_strike X T 0 0 2 [some (rv (4, 99) P), some (rv (5, 99) R), some (iv (nI 0)), none] [] h
  refine V_msk [true, true, true, false] (lc' := [some (rv (4, 99) P), some (rv (5, 99) R), some (iv (nI 0)), none]) rfl ?_
  exact fx_e (P := fun s => V G M_X4_strike X T 0 0 2 [some (rv (4, 99) P), some (rv (5, 99) R), some (iv s.1), none] [] s.2) (fun K2 hK2 s e => w_X4_strike_2 hR P R K2 (fun x2 h e => hK2 (x2, h) e) s.1 s.2 e) FU ((nI 0), h) e
set_option maxHeartbeats 4000000 in
theorem w_X4_takeColour_54 {G : kG} {X : kX} {T : List kT} {h0 : kH} (hR : k_R G M_X4_takeColour X T 0 0 none h0) (P : Nat) (s0 : Int32) (s1 : Int32) (h : kH) (e : p_X4_takeColour_54 P s0 s1 h = some h0) : V G M_X4_takeColour X T 0 0 54 [none, none, none] [iv s0, iv s1, rv (9, 6) (P + 9)] h := by
  unfold p_X4_takeColour_54 at e
  obtain ⟨g2, e⟩ := gd_e e
  refine V_iast 30 rfl g2 ?_
  refine le_V (P := fun h3 => V G M_X4_takeColour X T 0 0 55 [none, none, none] [] h3) e (fun h3 e => ?_)
  cases e
  exact V_vret 31 rfl hR rfl
set_option maxHeartbeats 4000000 in
theorem c_X4_takeColour {G : kG} {T : List kT} {P : Nat} {x1 : Int32} {x2 : Int32} {h : kH} {h0 : kH} (e : p_X4_takeColour P x1 x2 h = some h0) : k_C G M_X4_takeColour T [rv (4, 99) P, iv x1, iv x2] h none h0 := by
  refine k_C_of 0 (by decide +kernel) rfl tb_X4_takeColour rfl (fun X hR => ?_)
  show V G M_X4_takeColour X T 0 0 0 [some (rv (4, 99) P), some (iv x1), some (iv x2)] [] h
  unfold p_X4_takeColour at e
  refine V_aload_n 0 rfl rfl ?_
  refine V_getR (P + 6) 1 rfl fr_RX4_31 ⟨Nat.le_of_ble_eq_true rfl, Or.inl (Nat.le_of_ble_eq_true rfl)⟩ rfl ?_
  refine V_iload_n 2 rfl rfl ?_
  obtain ⟨g1, e⟩ := gd_e e
  refine V_iald 3 rfl g1 ?_
  refine V_sipush (nI 500) 4 rfl sp_500 ?_
  rcases if_e e with ⟨c5, e⟩ | ⟨c5, e⟩
  · refine V_icmp_lt 22 5 rfl (by decide +kernel) (fun _ => ?_) (fun q => absurd c5 q) 
    refine V_aload_n 12 rfl rfl ?_
    refine V_getR (P + 10) 13 rfl fr_RX4_43 ⟨Nat.le_of_ble_eq_true rfl, Or.inl (Nat.le_of_ble_eq_true rfl)⟩ rfl ?_
    refine V_iload_n 14 rfl rfl ?_
    refine V_zald 15 rfl g1 ?_
    rcases if_e e with ⟨c16, e⟩ | ⟨c16, e⟩
    · refine V_if_eq 55 16 rfl (by decide +kernel) (fun _ => ?_) (fun q => absurd c16 q) 
      cases e
      exact V_vret 31 rfl hR rfl
    · refine V_if_eq 55 16 rfl (by decide +kernel) (fun q => absurd q c16) (fun _ => ?_)
      refine V_aload_n 17 rfl rfl ?_
      refine V_getR (P + 9) 18 rfl fr_RX4_40 ⟨Nat.le_of_ble_eq_true rfl, Or.inl (Nat.le_of_ble_eq_true rfl)⟩ rfl ?_
      refine V_iload_n 19 rfl rfl ?_
      refine V_iald 20 rfl g1 ?_
      rcases if_e e with ⟨c21, e⟩ | ⟨c21, e⟩
      · refine V_if_ne 55 21 rfl (by decide +kernel) (fun q => absurd c21 q) (fun _ => ?_)
        refine V_aload_n 22 rfl rfl ?_
        refine V_getR (P + 9) 23 rfl fr_RX4_40 ⟨Nat.le_of_ble_eq_true rfl, Or.inl (Nat.le_of_ble_eq_true rfl)⟩ rfl ?_
        refine V_iload_n 24 rfl rfl ?_
        refine V_iload_n 25 rfl rfl ?_
        rcases if_e e with ⟨c26, e⟩ | ⟨c26, e⟩
        · refine V_if_eq 53 26 rfl (by decide +kernel) (fun _ => ?_) (fun q => absurd c26 q) 
          refine V_iconst (nI 1) 29 rfl ic_1 ?_
          refine V_msk [false, false, false] (lc' := [none, none, none]) rfl ?_
          exact w_X4_takeColour_54 hR P (nI 1) x1 h e
        · refine V_if_eq 53 26 rfl (by decide +kernel) (fun q => absurd q c26) (fun _ => ?_)
          refine V_iconst (nI 2) 27 rfl ic_2 ?_
          refine V_goto 54 28 rfl (by decide +kernel) ?_
          refine V_msk [false, false, false] (lc' := [none, none, none]) rfl ?_
          exact w_X4_takeColour_54 hR P (nI 2) x1 h e
      · refine V_if_ne 55 21 rfl (by decide +kernel) (fun _ => ?_) (fun q => absurd q c21) 
        cases e
        exact V_vret 31 rfl hR rfl
  · refine V_icmp_lt 22 5 rfl (by decide +kernel) (fun q => absurd q c5) (fun _ => ?_)
    refine V_aload_n 6 rfl rfl ?_
    refine V_getR (P + 10) 7 rfl fr_RX4_43 ⟨Nat.le_of_ble_eq_true rfl, Or.inl (Nat.le_of_ble_eq_true rfl)⟩ rfl ?_
    refine V_iload_n 8 rfl rfl ?_
    refine V_iconst (nI 1) 9 rfl ic_1 ?_
    refine V_zast 10 rfl g1 ?_
    refine le_V (P := fun h4 => V G M_X4_takeColour X T 0 0 19 [some (rv (4, 99) P), some (iv x1), some (iv x2)] [] h4) e (fun h4 e => ?_)
    refine V_goto 55 11 rfl (by decide +kernel) ?_
    cases e
    exact V_vret 31 rfl hR rfl
set_option maxHeartbeats 4000000 in
theorem w_X4_feel_110 {G : kG} {X : kX} {T : List kT} {r0 : Int32} {h0 : kH} (hR : k_R G M_X4_feel X T 0 0 (some (iv r0)) h0) (P : Nat) (R : Nat) (K110 : Int32 × Int32 × Int32 × kH → Option (Int32 × kH)) (hK110 : ∀ (x3 : Int32) (x4 : Int32) (x5 : Int32) (h : kH), K110 (x3, x4, x5, h) = some (r0, h0) → V G M_X4_feel X T 0 0 110 [some (rv (4, 99) P), none, some (rv (0, 99) 132), some (iv x3), some (iv x4), some (iv x5)] [] h) (x3 : Int32) (x4 : Int32) (x5 : Int32) (h : kH) (e : p_X4_feel_110 K110 P R x3 x4 x5 h = some (r0, h0)) : V G M_X4_feel X T 0 0 110 [some (rv (4, 99) P), none, some (rv (0, 99) 132), some (iv x3), some (iv x4), some (iv x5)] [] h := by
  unfold p_X4_feel_110 at e
  refine V_iload 59 rfl rfl ?_
  refine V_aload_n 60 rfl rfl ?_
  refine V_getI 61 rfl fi_RX4_9 ?_
  rcases if_e e with ⟨c62, e⟩ | ⟨c62, e⟩
  · refine V_icmp_ge 153 62 rfl (by decide +kernel) (fun _ => ?_) (fun q => absurd c62 q) 
    refine V_iload 80 rfl rfl ?_
    obtain ⟨g1, e⟩ := gd_e e
    cases e
    exact V_zret 81 rfl (of_decide_eq_true g1) hR rfl
  · refine V_icmp_ge 153 62 rfl (by decide +kernel) (fun q => absurd q c62) (fun _ => ?_)
    refine V_aload_n 63 rfl rfl ?_
    refine V_getR (P + 8) 64 rfl fr_RX4_37 ⟨Nat.le_of_ble_eq_true rfl, Or.inl (Nat.le_of_ble_eq_true rfl)⟩ rfl ?_
    refine V_iload 65 rfl rfl ?_
    obtain ⟨g2, e⟩ := gd_e e
    refine V_iald 66 rfl g2 ?_
    rcases if_e e with ⟨c67, e⟩ | ⟨c67, e⟩
    · refine V_if_ne 147 67 rfl (by decide +kernel) (fun q => absurd c67 q) (fun _ => ?_)
      refine V_aload_n 68 rfl rfl ?_
      refine V_iload 69 rfl rfl ?_
      refine V_aload_n 70 rfl rfl ?_
      refine V_iload_n 71 rfl rfl ?_
      refine V_aload_n 72 rfl rfl ?_
      refine V_getR (P + 1) 73 rfl fr_RX4_15 ⟨Nat.le_of_ble_eq_true rfl, Or.inl (Nat.le_of_ble_eq_true rfl)⟩ rfl ?_
      refine V_iload 74 rfl rfl ?_
      refine V_iald 75 rfl g2 ?_
      obtain ⟨v5, h3, d4, e⟩ := bd2_e e
      refine V_callVN (N := M_X0_blackensAt) (av := [iv x3, iv (h (P + 1) (x5).toNatClampNeg)]) (st := [iv x5, rv (4, 99) P]) (r := some (iv v5)) (h' := h3) 76 rfl (c_X0_blackensAt d4) g_X0_blackensAt gv_X0_blackensAt nk_RX4_64 ⟨Nat.le_of_ble_eq_true rfl, Nat.le_of_ble_eq_true rfl⟩ rfl rfl (Nat.le_of_ble_eq_true rfl) ⟨Nat.zero_le _, Nat.zero_le _⟩ ?_
      show V G M_X4_feel X T 0 0 144 [some (rv (4, 99) P), none, some (rv (0, 99) 132), some (iv x3), some (iv x4), some (iv x5)] [iv v5, iv x5, rv (4, 99) P] h3
      obtain ⟨h6, d7, e⟩ := bd_e e
      refine V_callV (N := M_X4_takeColour) (av := [iv x5, iv v5]) (st := []) (r := none) (h' := h6) 77 rfl (c_X4_takeColour d7) g_X4_takeColour gv_X4_takeColour lk_RX4_68 ⟨Nat.le_of_ble_eq_true rfl, Nat.le_of_ble_eq_true rfl⟩ rfl rfl (Nat.le_of_ble_eq_true rfl) ⟨Nat.zero_le _, Nat.zero_le _⟩ ?_
      show V G M_X4_feel X T 0 0 147 [some (rv (4, 99) P), none, some (rv (0, 99) 132), some (iv x3), some (iv x4), some (iv x5)] [] h6
      refine V_iinc (x5 + (nI 1)) 78 rfl rfl (inc_1 _) (Nat.le_of_ble_eq_true rfl) rfl ?_
      show V G M_X4_feel X T 0 0 150 [some (rv (4, 99) P), none, some (rv (0, 99) 132), some (iv x3), some (iv x4), some (iv (x5 + (nI 1)))] [] h6
      refine V_goto 110 79 rfl (by decide +kernel) ?_
      refine V_msk [true, false, true, true, true, true] (lc' := [some (rv (4, 99) P), none, some (rv (0, 99) 132), some (iv x3), some (iv x4), some (iv (x5 + (nI 1)))]) rfl ?_
      exact hK110 x3 x4 (x5 + (nI 1)) h6 e
    · refine V_if_ne 147 67 rfl (by decide +kernel) (fun _ => ?_) (fun q => absurd q c67) 
      refine V_iinc (x5 + (nI 1)) 78 rfl rfl (inc_1 _) (Nat.le_of_ble_eq_true rfl) rfl ?_
      show V G M_X4_feel X T 0 0 150 [some (rv (4, 99) P), none, some (rv (0, 99) 132), some (iv x3), some (iv x4), some (iv (x5 + (nI 1)))] [] h
      refine V_goto 110 79 rfl (by decide +kernel) ?_
      refine V_msk [true, false, true, true, true, true] (lc' := [some (rv (4, 99) P), none, some (rv (0, 99) 132), some (iv x3), some (iv x4), some (iv (x5 + (nI 1)))]) rfl ?_
      exact hK110 x3 x4 (x5 + (nI 1)) h e
set_option maxHeartbeats 4000000 in
theorem w_X4_feel_107 {G : kG} {X : kX} {T : List kT} {r0 : Int32} {h0 : kH} (hR : k_R G M_X4_feel X T 0 0 (some (iv r0)) h0) (P : Nat) (R : Nat) (x3 : Int32) (x4 : Int32) (h : kH) (e : p_X4_feel_107 P R x3 x4 h = some (r0, h0)) : V G M_X4_feel X T 0 0 107 [some (rv (4, 99) P), none, some (rv (0, 99) 132), some (iv x3), some (iv x4), none] [] h := by
  unfold p_X4_feel_107 at e
  refine V_iconst (nI 0) 57 rfl ic_0 ?_
  refine V_istore 58 rfl (Nat.le_of_ble_eq_true rfl) rfl ?_
  show V G M_X4_feel X T 0 0 110 [some (rv (4, 99) P), none, some (rv (0, 99) 132), some (iv x3), some (iv x4), some (iv (nI 0))] [] h
  refine V_msk [true, false, true, true, true, true] (lc' := [some (rv (4, 99) P), none, some (rv (0, 99) 132), some (iv x3), some (iv x4), some (iv (nI 0))]) rfl ?_
  exact fx_e (P := fun s => V G M_X4_feel X T 0 0 110 [some (rv (4, 99) P), none, some (rv (0, 99) 132), some (iv s.1), some (iv s.2.1), some (iv s.2.2.1)] [] s.2.2.2) (fun K110 hK110 s e => w_X4_feel_110 hR P R K110 (fun x3 x4 x5 h e => hK110 (x3, x4, x5, h) e) s.1 s.2.1 s.2.2.1 s.2.2.2 e) FU (x3, x4, (nI 0), h) e
set_option maxHeartbeats 4000000 in
theorem w_X4_feel_77 {G : kG} {X : kX} {T : List kT} {r0 : Int32} {h0 : kH} (hR : k_R G M_X4_feel X T 0 0 (some (iv r0)) h0) (P : Nat) (R : Nat) (K6 : Int32 × Int32 × Int32 × kH → Option (Int32 × kH)) (hK6 : ∀ (x3 : Int32) (x4 : Int32) (x5 : Int32) (h : kH), K6 (x3, x4, x5, h) = some (r0, h0) → V G M_X4_feel X T 0 0 6 [some (rv (4, 99) P), some (rv (5, 99) R), some (rv (0, 99) 132), some (iv x3), some (iv x4), some (iv x5)] [] h) (x3 : Int32) (x4 : Int32) (x5 : Int32) (s0 : Int32) (s1 : Int32) (h : kH) (e : p_X4_feel_77 K6 P R x3 x4 x5 s0 s1 h = some (r0, h0)) : V G M_X4_feel X T 0 0 77 [some (rv (4, 99) P), some (rv (5, 99) R), some (rv (0, 99) 132), some (iv x3), some (iv x4), some (iv x5)] [iv s0, iv s1, rv (11, 6) (P + 11)] h := by
  unfold p_X4_feel_77 at e
  obtain ⟨g17, e⟩ := gd_e e
  refine V_zast 42 rfl g17 ?_
  refine le_V (P := fun h18 => V G M_X4_feel X T 0 0 78 [some (rv (4, 99) P), some (rv (5, 99) R), some (rv (0, 99) 132), some (iv x3), some (iv x4), some (iv x5)] [] h18) e (fun h18 e => ?_)
  refine V_aload_n 43 rfl rfl ?_
  refine V_getR (P + 11) 44 rfl fr_RX4_47 ⟨Nat.le_of_ble_eq_true rfl, Or.inl (Nat.le_of_ble_eq_true rfl)⟩ rfl ?_
  refine V_iload 45 rfl rfl ?_
  obtain ⟨g19, e⟩ := gd_e e
  refine V_zald 46 rfl g19 ?_
  rcases if_e e with ⟨c47, e⟩ | ⟨c47, e⟩
  · refine V_if_eq 91 47 rfl (by decide +kernel) (fun _ => ?_) (fun q => absurd c47 q) 
    refine V_iinc (x5 + (nI 1)) 50 rfl rfl (inc_1 _) (Nat.le_of_ble_eq_true rfl) rfl ?_
    show V G M_X4_feel X T 0 0 94 [some (rv (4, 99) P), some (rv (5, 99) R), some (rv (0, 99) 132), some (iv x3), some (iv x4), some (iv (x5 + (nI 1)))] [] h18
    refine V_goto 6 51 rfl (by decide +kernel) ?_
    refine V_msk [true, true, true, true, true, true] (lc' := [some (rv (4, 99) P), some (rv (5, 99) R), some (rv (0, 99) 132), some (iv x3), some (iv x4), some (iv (x5 + (nI 1)))]) rfl ?_
    exact hK6 x3 x4 (x5 + (nI 1)) h18 e
  · refine V_if_eq 91 47 rfl (by decide +kernel) (fun q => absurd q c47) (fun _ => ?_)
    refine V_iconst (nI 1) 48 rfl ic_1 ?_
    refine V_istore 49 rfl (Nat.le_of_ble_eq_true rfl) rfl ?_
    show V G M_X4_feel X T 0 0 91 [some (rv (4, 99) P), some (rv (5, 99) R), some (rv (0, 99) 132), some (iv x3), some (iv (nI 1)), some (iv x5)] [] h18
    refine V_iinc (x5 + (nI 1)) 50 rfl rfl (inc_1 _) (Nat.le_of_ble_eq_true rfl) rfl ?_
    show V G M_X4_feel X T 0 0 94 [some (rv (4, 99) P), some (rv (5, 99) R), some (rv (0, 99) 132), some (iv x3), some (iv (nI 1)), some (iv (x5 + (nI 1)))] [] h18
    refine V_goto 6 51 rfl (by decide +kernel) ?_
    refine V_msk [true, true, true, true, true, true] (lc' := [some (rv (4, 99) P), some (rv (5, 99) R), some (rv (0, 99) 132), some (iv x3), some (iv (nI 1)), some (iv (x5 + (nI 1)))]) rfl ?_
    exact hK6 x3 (nI 1) (x5 + (nI 1)) h18 e
set_option maxHeartbeats 4000000 in
theorem w_X4_feel_6 {G : kG} {X : kX} {T : List kT} {r0 : Int32} {h0 : kH} (hR : k_R G M_X4_feel X T 0 0 (some (iv r0)) h0) (P : Nat) (R : Nat) (K6 : Int32 × Int32 × Int32 × kH → Option (Int32 × kH)) (hK6 : ∀ (x3 : Int32) (x4 : Int32) (x5 : Int32) (h : kH), K6 (x3, x4, x5, h) = some (r0, h0) → V G M_X4_feel X T 0 0 6 [some (rv (4, 99) P), some (rv (5, 99) R), some (rv (0, 99) 132), some (iv x3), some (iv x4), some (iv x5)] [] h) (x3 : Int32) (x4 : Int32) (x5 : Int32) (h : kH) (e : p_X4_feel_6 K6 P R x3 x4 x5 h = some (r0, h0)) : V G M_X4_feel X T 0 0 6 [some (rv (4, 99) P), some (rv (5, 99) R), some (rv (0, 99) 132), some (iv x3), some (iv x4), some (iv x5)] [] h := by
  unfold p_X4_feel_6 at e
  refine V_iload 4 rfl rfl ?_
  refine V_aload_n 5 rfl rfl ?_
  refine V_getI 6 rfl fi_RX4_9 ?_
  rcases if_e e with ⟨c7, e⟩ | ⟨c7, e⟩
  · refine V_icmp_ge 97 7 rfl (by decide +kernel) (fun _ => ?_) (fun q => absurd c7 q) 
    refine V_iload 52 rfl rfl ?_
    rcases if_e e with ⟨c53, e⟩ | ⟨c53, e⟩
    · refine V_if_eq 107 53 rfl (by decide +kernel) (fun _ => ?_) (fun q => absurd c53 q) 
      refine V_msk [true, false, true, true, true, false] (lc' := [some (rv (4, 99) P), none, some (rv (0, 99) 132), some (iv x3), some (iv x4), none]) rfl ?_
      exact w_X4_feel_107 hR P R x3 x4 h e
    · refine V_if_eq 107 53 rfl (by decide +kernel) (fun q => absurd q c53) (fun _ => ?_)
      refine V_aload_n 54 rfl rfl ?_
      refine V_aload_n 55 rfl rfl ?_
      obtain ⟨h8, d9, e⟩ := bd_e e
      refine V_callV (N := M_X4_strike) (av := [rv (5, 99) R]) (st := []) (r := none) (h' := h8) 56 rfl (c_X4_strike d9) g_X4_strike gv_X4_strike lk_RX4_60 ⟨Nat.le_of_ble_eq_true rfl, Nat.le_of_ble_eq_true rfl⟩ rfl rfl (Nat.le_of_ble_eq_true rfl) ⟨Nat.zero_le _, Nat.zero_le _⟩ ?_
      show V G M_X4_feel X T 0 0 107 [some (rv (4, 99) P), some (rv (5, 99) R), some (rv (0, 99) 132), some (iv x3), some (iv x4), some (iv x5)] [] h8
      refine V_msk [true, false, true, true, true, false] (lc' := [some (rv (4, 99) P), none, some (rv (0, 99) 132), some (iv x3), some (iv x4), none]) rfl ?_
      exact w_X4_feel_107 hR P R x3 x4 h8 e
  · refine V_icmp_ge 97 7 rfl (by decide +kernel) (fun q => absurd q c7) (fun _ => ?_)
    refine V_aload_n 8 rfl rfl ?_
    refine V_getR (P + 11) 9 rfl fr_RX4_47 ⟨Nat.le_of_ble_eq_true rfl, Or.inl (Nat.le_of_ble_eq_true rfl)⟩ rfl ?_
    refine V_iload 10 rfl rfl ?_
    refine V_iconst (nI 0) 11 rfl ic_0 ?_
    obtain ⟨g10, e⟩ := gd_e e
    refine V_zast 12 rfl g10 ?_
    refine le_V (P := fun h11 => V G M_X4_feel X T 0 0 23 [some (rv (4, 99) P), some (rv (5, 99) R), some (rv (0, 99) 132), some (iv x3), some (iv x4), some (iv x5)] [] h11) e (fun h11 e => ?_)
    refine V_aload_n 13 rfl rfl ?_
    refine V_getR (P + 8) 14 rfl fr_RX4_37 ⟨Nat.le_of_ble_eq_true rfl, Or.inl (Nat.le_of_ble_eq_true rfl)⟩ rfl ?_
    refine V_iload 15 rfl rfl ?_
    refine V_iald 16 rfl g10 ?_
    rcases if_e e with ⟨c17, e⟩ | ⟨c17, e⟩
    · refine V_if_eq 36 17 rfl (by decide +kernel) (fun _ => ?_) (fun q => absurd c17 q) 
      refine V_aload_n 19 rfl rfl ?_
      refine V_iload 20 rfl rfl ?_
      refine V_aload_n 21 rfl rfl ?_
      refine V_aload_n 22 rfl rfl ?_
      refine V_iload_n 23 rfl rfl ?_
      refine V_aload_n 24 rfl rfl ?_
      refine V_getR (P + 1) 25 rfl fr_RX4_15 ⟨Nat.le_of_ble_eq_true rfl, Or.inl (Nat.le_of_ble_eq_true rfl)⟩ rfl ?_
      refine V_iload 26 rfl rfl ?_
      refine V_iald 27 rfl g10 ?_
      obtain ⟨v14, h12, d13, e⟩ := bd2_e e
      refine V_callVN (N := M_X0_heatAt) (av := [iv x3, iv (h11 (P + 1) (x5).toNatClampNeg)]) (st := [rv (5, 99) R, iv x5, rv (4, 99) P]) (r := some (iv v14)) (h' := h12) 28 rfl (c_X0_heatAt d13) g_X0_heatAt gv_X0_heatAt nk_RX4_50 ⟨Nat.le_of_ble_eq_true rfl, Nat.le_of_ble_eq_true rfl⟩ rfl rfl (Nat.le_of_ble_eq_true rfl) ⟨Nat.zero_le _, Nat.zero_le _⟩ ?_
      show V G M_X4_feel X T 0 0 52 [some (rv (4, 99) P), some (rv (5, 99) R), some (rv (0, 99) 132), some (iv x3), some (iv x4), some (iv x5)] [iv v14, rv (5, 99) R, iv x5, rv (4, 99) P] h12
      obtain ⟨h15, d16, e⟩ := bd_e e
      refine V_callV (N := M_X4_warm) (av := [iv x5, rv (5, 99) R, iv v14]) (st := []) (r := none) (h' := h15) 29 rfl (c_X4_warm d16) g_X4_warm gv_X4_warm lk_RX4_56 ⟨Nat.le_of_ble_eq_true rfl, Nat.le_of_ble_eq_true rfl⟩ rfl rfl (Nat.le_of_ble_eq_true rfl) ⟨Nat.zero_le _, Nat.zero_le _⟩ ?_
      show V G M_X4_feel X T 0 0 55 [some (rv (4, 99) P), some (rv (5, 99) R), some (rv (0, 99) 132), some (iv x3), some (iv x4), some (iv x5)] [] h15
      refine V_aload_n 30 rfl rfl ?_
      refine V_getR (P + 11) 31 rfl fr_RX4_47 ⟨Nat.le_of_ble_eq_true rfl, Or.inl (Nat.le_of_ble_eq_true rfl)⟩ rfl ?_
      refine V_iload 32 rfl rfl ?_
      refine V_aload_n 33 rfl rfl ?_
      refine V_getR (P + 8) 34 rfl fr_RX4_37 ⟨Nat.le_of_ble_eq_true rfl, Or.inl (Nat.le_of_ble_eq_true rfl)⟩ rfl ?_
      refine V_iload 35 rfl rfl ?_
      refine V_iald 36 rfl g10 ?_
      refine V_iconst (nI 1) 37 rfl ic_1 ?_
      rcases if_e e with ⟨c38, e⟩ | ⟨c38, e⟩
      · refine V_icmp_ne 76 38 rfl (by decide +kernel) (fun q => absurd c38 q) (fun _ => ?_)
        refine V_iconst (nI 1) 39 rfl ic_1 ?_
        refine V_goto 77 40 rfl (by decide +kernel) ?_
        refine V_msk [true, true, true, true, true, true] (lc' := [some (rv (4, 99) P), some (rv (5, 99) R), some (rv (0, 99) 132), some (iv x3), some (iv x4), some (iv x5)]) rfl ?_
        exact w_X4_feel_77 hR P R K6 hK6 x3 x4 x5 (nI 1) x5 h15 e
      · refine V_icmp_ne 76 38 rfl (by decide +kernel) (fun _ => ?_) (fun q => absurd q c38) 
        refine V_iconst (nI 0) 41 rfl ic_0 ?_
        refine V_msk [true, true, true, true, true, true] (lc' := [some (rv (4, 99) P), some (rv (5, 99) R), some (rv (0, 99) 132), some (iv x3), some (iv x4), some (iv x5)]) rfl ?_
        exact w_X4_feel_77 hR P R K6 hK6 x3 x4 x5 (nI 0) x5 h15 e
    · refine V_if_eq 36 17 rfl (by decide +kernel) (fun q => absurd q c17) (fun _ => ?_)
      refine V_goto 91 18 rfl (by decide +kernel) ?_
      refine V_iinc (x5 + (nI 1)) 50 rfl rfl (inc_1 _) (Nat.le_of_ble_eq_true rfl) rfl ?_
      show V G M_X4_feel X T 0 0 94 [some (rv (4, 99) P), some (rv (5, 99) R), some (rv (0, 99) 132), some (iv x3), some (iv x4), some (iv (x5 + (nI 1)))] [] h11
      refine V_goto 6 51 rfl (by decide +kernel) ?_
      refine V_msk [true, true, true, true, true, true] (lc' := [some (rv (4, 99) P), some (rv (5, 99) R), some (rv (0, 99) 132), some (iv x3), some (iv x4), some (iv (x5 + (nI 1)))]) rfl ?_
      exact hK6 x3 x4 (x5 + (nI 1)) h11 e
set_option maxHeartbeats 4000000 in
theorem c_X4_feel {G : kG} {T : List kT} {P : Nat} {R : Nat} {x3 : Int32} {h : kH} {r0 : Int32} {h0 : kH} (e : p_X4_feel P R x3 h = some (r0, h0)) : k_C G M_X4_feel T [rv (4, 99) P, rv (5, 99) R, rv (0, 99) 132, iv x3] h (some (iv r0)) h0 := by
  refine k_C_of 2 (by decide +kernel) rfl tb_X4_feel rfl (fun X hR => ?_)
  show V G M_X4_feel X T 0 0 0 [some (rv (4, 99) P), some (rv (5, 99) R), some (rv (0, 99) 132), some (iv x3), none, none] [] h
  unfold p_X4_feel at e
  refine V_iconst (nI 0) 0 rfl ic_0 ?_
  refine V_istore 1 rfl (Nat.le_of_ble_eq_true rfl) rfl ?_
  show V G M_X4_feel X T 0 0 3 [some (rv (4, 99) P), some (rv (5, 99) R), some (rv (0, 99) 132), some (iv x3), some (iv (nI 0)), none] [] h
  refine V_iconst (nI 0) 2 rfl ic_0 ?_
  refine V_istore 3 rfl (Nat.le_of_ble_eq_true rfl) rfl ?_
  show V G M_X4_feel X T 0 0 6 [some (rv (4, 99) P), some (rv (5, 99) R), some (rv (0, 99) 132), some (iv x3), some (iv (nI 0)), some (iv (nI 0))] [] h
  refine V_msk [true, true, true, true, true, true] (lc' := [some (rv (4, 99) P), some (rv (5, 99) R), some (rv (0, 99) 132), some (iv x3), some (iv (nI 0)), some (iv (nI 0))]) rfl ?_
  exact fx_e (P := fun s => V G M_X4_feel X T 0 0 6 [some (rv (4, 99) P), some (rv (5, 99) R), some (rv (0, 99) 132), some (iv s.1), some (iv s.2.1), some (iv s.2.2.1)] [] s.2.2.2) (fun K6 hK6 s e => w_X4_feel_6 hR P R K6 (fun x3 x4 x5 h e => hK6 (x3, x4, x5, h) e) s.1 s.2.1 s.2.2.1 s.2.2.2 e) FU (x3, (nI 0), (nI 0), h) e
set_option maxHeartbeats 4000000 in
theorem c_X2_pass {G : kG} {T : List kT} {H : Nat} {R : Nat} {x2 : Int32} {h : kH} {h0 : kH} (e : p_X2_pass H R x2 h = some h0) : k_C G M_X2_pass T [rv (2, 99) H, rv (5, 99) R, iv x2, rv (0, 99) 132] h none h0 := by
  refine k_C_of 0 (by decide +kernel) rfl tb_X2_pass rfl (fun X hR => ?_)
  show V G M_X2_pass X T 0 0 0 [some (rv (2, 99) H), some (rv (5, 99) R), some (iv x2), some (rv (0, 99) 132)] [] h
  unfold p_X2_pass at e
  refine V_aload_n 0 rfl rfl ?_
  refine V_getR (H + 1) 1 rfl fr_RX2_10 ⟨Nat.le_of_ble_eq_true rfl, Or.inr rfl⟩ rfl ?_
  refine V_aload_n 2 rfl rfl ?_
  refine V_iload_n 3 rfl rfl ?_
  obtain ⟨h1, d2, e⟩ := bd_e e
  refine V_callVN (N := M_X1_burn) (av := [rv (5, 99) R, iv x2]) (st := []) (r := none) (h' := h1) 4 rfl (c_X1_burn d2) g_X1_burn gv_X1_burn nk_RX2_34 ⟨Nat.le_of_ble_eq_true rfl, Nat.le_of_ble_eq_true rfl⟩ rfl rfl (Nat.le_of_ble_eq_true rfl) ⟨Nat.zero_le _, Nat.zero_le _⟩ ?_
  show V G M_X2_pass X T 0 0 9 [some (rv (2, 99) H), some (rv (5, 99) R), some (iv x2), some (rv (0, 99) 132)] [] h1
  refine V_aload_n 5 rfl rfl ?_
  refine V_getR (H + 1) 6 rfl fr_RX2_10 ⟨Nat.le_of_ble_eq_true rfl, Or.inr rfl⟩ rfl ?_
  refine V_aload_n 7 rfl rfl ?_
  refine V_iconst (nI 0) 8 rfl ic_0 ?_
  obtain ⟨h3, d4, e⟩ := bd_e e
  refine V_callVN (N := M_X1_tell) (av := [rv (0, 99) 132, iv (nI 0)]) (st := []) (r := none) (h' := h3) 9 rfl (c_X1_tell d4) g_X1_tell gv_X1_tell nk_RX2_38 ⟨Nat.le_of_ble_eq_true rfl, Nat.le_of_ble_eq_true rfl⟩ rfl rfl (Nat.le_of_ble_eq_true rfl) ⟨Nat.zero_le _, Nat.zero_le _⟩ ?_
  show V G M_X2_pass X T 0 0 18 [some (rv (2, 99) H), some (rv (5, 99) R), some (iv x2), some (rv (0, 99) 132)] [] h3
  refine V_aload_n 10 rfl rfl ?_
  refine V_getR (H + 8) 11 rfl fr_RX2_19 ⟨Nat.le_of_ble_eq_true rfl, Or.inr rfl⟩ rfl ?_
  refine V_aload_n 12 rfl rfl ?_
  refine V_aload_n 13 rfl rfl ?_
  refine V_iconst (nI 0) 14 rfl ic_0 ?_
  obtain ⟨v7, h5, d6, e⟩ := bd2_e e
  refine V_callVN (N := M_X4_feel) (av := [rv (5, 99) R, rv (0, 99) 132, iv (nI 0)]) (st := []) (r := some (iv v7)) (h' := h5) 15 rfl (c_X4_feel d6) g_X4_feel gv_X4_feel nk_RX2_42 ⟨Nat.le_of_ble_eq_true rfl, Nat.le_of_ble_eq_true rfl⟩ rfl rfl (Nat.le_of_ble_eq_true rfl) ⟨Nat.zero_le _, Nat.zero_le _⟩ ?_
  show V G M_X2_pass X T 0 0 28 [some (rv (2, 99) H), some (rv (5, 99) R), some (iv x2), some (rv (0, 99) 132)] [iv v7] h5
  refine V_pop 16 rfl nj_i ?_
  refine V_aload_n 17 rfl rfl ?_
  refine V_dup 18 rfl nj_r ?_
  refine V_getI 19 rfl fi_RX2_23 ?_
  refine V_iconst (nI 1) 20 rfl ic_1 ?_
  refine V_iadd 21 rfl ?_
  refine V_putI 22 rfl fi_RX2_23 ?_
  refine le_V (P := fun h8 => V G M_X2_pass X T 0 0 39 [some (rv (2, 99) H), some (rv (5, 99) R), some (iv x2), some (rv (0, 99) 132)] [] h8) e (fun h8 e => ?_)
  cases e
  exact V_vret 23 rfl hR rfl
set_option maxHeartbeats 4000000 in
theorem c_X4_add {G : kG} {T : List kT} {P : Nat} {A : Nat} {h : kH} {h0 : kH} (e : p_X4_add P A h = some h0) : k_C G M_X4_add T [rv (4, 99) P, rv (9, 6) A] h none h0 := by
  refine k_C_of 1 (by decide +kernel) rfl tb_X4_add rfl (fun X hR => ?_)
  show V G M_X4_add X T 0 0 0 [some (rv (4, 99) P), some (rv (9, 6) A), none] [] h
  unfold p_X4_add at e
  refine V_aload_n 0 rfl rfl ?_
  refine V_getI 1 rfl fi_RX4_9 ?_
  refine V_bipush (nI 6) 2 rfl bp_6 ?_
  rcases if_e e with ⟨c3, e⟩ | ⟨c3, e⟩
  · refine V_icmp_ge 16 3 rfl (by decide +kernel) (fun _ => ?_) (fun q => absurd c3 q) 
    cases e
    exact V_vret 8 rfl hR rfl
  · refine V_icmp_ge 16 3 rfl (by decide +kernel) (fun q => absurd q c3) (fun _ => ?_)
    refine V_aload_n 4 rfl rfl ?_
    refine V_alen (nI 6) 5 rfl (by decide +kernel) ?_
    refine V_bipush (nI 6) 6 rfl bp_6 ?_
    rcases if_e e with ⟨c7, e⟩ | ⟨c7, e⟩
    · refine V_icmp_ge 17 7 rfl (by decide +kernel) (fun _ => ?_) (fun q => absurd c7 q) 
      refine V_aload_n 9 rfl rfl ?_
      refine V_getI 10 rfl fi_RX4_9 ?_
      refine V_istore_n 11 rfl (Nat.le_of_ble_eq_true rfl) rfl ?_
      refine le_V (P := fun v1 => V G M_X4_add X T 0 0 22 [some (rv (4, 99) P), some (rv (9, 6) A), some (iv v1)] [] h) e (fun v1 e => ?_)
      refine V_aload_n 12 rfl rfl ?_
      refine V_getR (P + 1) 13 rfl fr_RX4_15 ⟨Nat.le_of_ble_eq_true rfl, Or.inl (Nat.le_of_ble_eq_true rfl)⟩ rfl ?_
      refine V_iload_n 14 rfl rfl ?_
      refine V_iconst (nI 0) 15 rfl ic_0 ?_
      obtain ⟨g2, e⟩ := gd_e e
      refine V_iast 16 rfl g2 ?_
      refine le_V (P := fun h3 => V G M_X4_add X T 0 0 29 [some (rv (4, 99) P), some (rv (9, 6) A), some (iv v1)] [] h3) e (fun h3 e => ?_)
      refine V_aload_n 17 rfl rfl ?_
      refine V_getR (P + 2) 18 rfl fr_RX4_19 ⟨Nat.le_of_ble_eq_true rfl, Or.inl (Nat.le_of_ble_eq_true rfl)⟩ rfl ?_
      refine V_iload_n 19 rfl rfl ?_
      refine V_aload_n 20 rfl rfl ?_
      refine V_iconst (nI 2) 21 rfl ic_2 ?_
      obtain ⟨g4, e⟩ := gd_e e
      refine V_iald 22 rfl g4 ?_
      refine V_iast 23 rfl g2 ?_
      refine le_V (P := fun h5 => V G M_X4_add X T 0 0 38 [some (rv (4, 99) P), some (rv (9, 6) A), some (iv v1)] [] h5) e (fun h5 e => ?_)
      refine V_aload_n 24 rfl rfl ?_
      refine V_getR (P + 3) 25 rfl fr_RX4_22 ⟨Nat.le_of_ble_eq_true rfl, Or.inl (Nat.le_of_ble_eq_true rfl)⟩ rfl ?_
      refine V_iload_n 26 rfl rfl ?_
      refine V_aload_n 27 rfl rfl ?_
      refine V_iconst (nI 3) 28 rfl ic_3 ?_
      obtain ⟨g6, e⟩ := gd_e e
      refine V_iald 29 rfl g6 ?_
      refine V_iast 30 rfl g2 ?_
      refine le_V (P := fun h7 => V G M_X4_add X T 0 0 47 [some (rv (4, 99) P), some (rv (9, 6) A), some (iv v1)] [] h7) e (fun h7 e => ?_)
      refine V_aload_n 31 rfl rfl ?_
      refine V_getR (P + 4) 32 rfl fr_RX4_25 ⟨Nat.le_of_ble_eq_true rfl, Or.inl (Nat.le_of_ble_eq_true rfl)⟩ rfl ?_
      refine V_iload_n 33 rfl rfl ?_
      refine V_aload_n 34 rfl rfl ?_
      refine V_iconst (nI 4) 35 rfl ic_4 ?_
      obtain ⟨g8, e⟩ := gd_e e
      refine V_iald 36 rfl g8 ?_
      refine V_iast 37 rfl g2 ?_
      refine le_V (P := fun h9 => V G M_X4_add X T 0 0 56 [some (rv (4, 99) P), some (rv (9, 6) A), some (iv v1)] [] h9) e (fun h9 e => ?_)
      refine V_aload_n 38 rfl rfl ?_
      refine V_getR (P + 5) 39 rfl fr_RX4_28 ⟨Nat.le_of_ble_eq_true rfl, Or.inl (Nat.le_of_ble_eq_true rfl)⟩ rfl ?_
      refine V_iload_n 40 rfl rfl ?_
      refine V_aload_n 41 rfl rfl ?_
      refine V_iconst (nI 5) 42 rfl ic_5 ?_
      obtain ⟨g10, e⟩ := gd_e e
      refine V_iald 43 rfl g10 ?_
      refine V_iast 44 rfl g2 ?_
      refine le_V (P := fun h11 => V G M_X4_add X T 0 0 65 [some (rv (4, 99) P), some (rv (9, 6) A), some (iv v1)] [] h11) e (fun h11 e => ?_)
      refine V_aload_n 45 rfl rfl ?_
      refine V_getR (P + 6) 46 rfl fr_RX4_31 ⟨Nat.le_of_ble_eq_true rfl, Or.inl (Nat.le_of_ble_eq_true rfl)⟩ rfl ?_
      refine V_iload_n 47 rfl rfl ?_
      refine V_bipush (nI 20) 48 rfl bp_20 ?_
      refine V_iast 49 rfl g2 ?_
      refine le_V (P := fun h12 => V G M_X4_add X T 0 0 73 [some (rv (4, 99) P), some (rv (9, 6) A), some (iv v1)] [] h12) e (fun h12 e => ?_)
      refine V_aload_n 50 rfl rfl ?_
      refine V_getR (P + 7) 51 rfl fr_RX4_34 ⟨Nat.le_of_ble_eq_true rfl, Or.inl (Nat.le_of_ble_eq_true rfl)⟩ rfl ?_
      refine V_iload_n 52 rfl rfl ?_
      refine V_iconst (nI 0) 53 rfl ic_0 ?_
      refine V_iast 54 rfl g2 ?_
      refine le_V (P := fun h13 => V G M_X4_add X T 0 0 80 [some (rv (4, 99) P), some (rv (9, 6) A), some (iv v1)] [] h13) e (fun h13 e => ?_)
      refine V_aload_n 55 rfl rfl ?_
      refine V_getR (P + 8) 56 rfl fr_RX4_37 ⟨Nat.le_of_ble_eq_true rfl, Or.inl (Nat.le_of_ble_eq_true rfl)⟩ rfl ?_
      refine V_iload_n 57 rfl rfl ?_
      refine V_iconst (nI 0) 58 rfl ic_0 ?_
      refine V_iast 59 rfl g2 ?_
      refine le_V (P := fun h14 => V G M_X4_add X T 0 0 87 [some (rv (4, 99) P), some (rv (9, 6) A), some (iv v1)] [] h14) e (fun h14 e => ?_)
      refine V_aload_n 60 rfl rfl ?_
      refine V_getR (P + 9) 61 rfl fr_RX4_40 ⟨Nat.le_of_ble_eq_true rfl, Or.inl (Nat.le_of_ble_eq_true rfl)⟩ rfl ?_
      refine V_iload_n 62 rfl rfl ?_
      refine V_iconst (nI 0) 63 rfl ic_0 ?_
      refine V_iast 64 rfl g2 ?_
      refine le_V (P := fun h15 => V G M_X4_add X T 0 0 94 [some (rv (4, 99) P), some (rv (9, 6) A), some (iv v1)] [] h15) e (fun h15 e => ?_)
      refine V_aload_n 65 rfl rfl ?_
      refine V_getR (P + 10) 66 rfl fr_RX4_43 ⟨Nat.le_of_ble_eq_true rfl, Or.inl (Nat.le_of_ble_eq_true rfl)⟩ rfl ?_
      refine V_iload_n 67 rfl rfl ?_
      refine V_iconst (nI 0) 68 rfl ic_0 ?_
      refine V_zast 69 rfl g2 ?_
      refine le_V (P := fun h16 => V G M_X4_add X T 0 0 101 [some (rv (4, 99) P), some (rv (9, 6) A), some (iv v1)] [] h16) e (fun h16 e => ?_)
      refine V_aload_n 70 rfl rfl ?_
      refine V_dup 71 rfl nj_r ?_
      refine V_getI 72 rfl fi_RX4_9 ?_
      refine V_iconst (nI 1) 73 rfl ic_1 ?_
      refine V_iadd 74 rfl ?_
      refine V_putI 75 rfl fi_RX4_9 ?_
      refine le_V (P := fun h17 => V G M_X4_add X T 0 0 111 [some (rv (4, 99) P), some (rv (9, 6) A), some (iv v1)] [] h17) e (fun h17 e => ?_)
      cases e
      exact V_vret 76 rfl hR rfl
    · refine V_icmp_ge 17 7 rfl (by decide +kernel) (fun q => absurd q c7) (fun _ => ?_)
      cases e
      exact V_vret 8 rfl hR rfl
set_option maxHeartbeats 4000000 in
theorem w_X4_anyTwoInOne_14 {G : kG} {X : kX} {T : List kT} {r0 : Int32} {h0 : kH} (hR : k_R G M_X4_anyTwoInOne X T 0 0 (some (iv r0)) h0) (P : Nat) (K2 : Int32 × kH → Option (Int32 × kH)) (K14 : Int32 × Int32 × kH → Option (Int32 × kH)) (hK2 : ∀ (x1 : Int32) (h : kH), K2 (x1, h) = some (r0, h0) → V G M_X4_anyTwoInOne X T 0 0 2 [some (rv (4, 99) P), some (iv x1), none] [] h) (hK14 : ∀ (x1 : Int32) (x2 : Int32) (h : kH), K14 (x1, x2, h) = some (r0, h0) → V G M_X4_anyTwoInOne X T 0 0 14 [some (rv (4, 99) P), some (iv x1), some (iv x2)] [] h) (x1 : Int32) (x2 : Int32) (h : kH) (e : p_X4_anyTwoInOne_14 K2 K14 P x1 x2 h = some (r0, h0)) : V G M_X4_anyTwoInOne X T 0 0 14 [some (rv (4, 99) P), some (iv x1), some (iv x2)] [] h := by
  unfold p_X4_anyTwoInOne_14 at e
  refine V_iload_n 10 rfl rfl ?_
  refine V_aload_n 11 rfl rfl ?_
  refine V_getI 12 rfl fi_RX4_9 ?_
  rcases if_e e with ⟨c13, e⟩ | ⟨c13, e⟩
  · refine V_icmp_ge 45 13 rfl (by decide +kernel) (fun _ => ?_) (fun q => absurd c13 q) 
    refine V_iinc (x1 + (nI 1)) 27 rfl rfl (inc_1 _) (Nat.le_of_ble_eq_true rfl) rfl ?_
    show V G M_X4_anyTwoInOne X T 0 0 48 [some (rv (4, 99) P), some (iv (x1 + (nI 1))), some (iv x2)] [] h
    refine V_goto 2 28 rfl (by decide +kernel) ?_
    refine V_msk [true, true, false] (lc' := [some (rv (4, 99) P), some (iv (x1 + (nI 1))), none]) rfl ?_
    exact hK2 (x1 + (nI 1)) h e
  · refine V_icmp_ge 45 13 rfl (by decide +kernel) (fun q => absurd q c13) (fun _ => ?_)
    refine V_aload_n 14 rfl rfl ?_
    refine V_getR (P + 1) 15 rfl fr_RX4_15 ⟨Nat.le_of_ble_eq_true rfl, Or.inl (Nat.le_of_ble_eq_true rfl)⟩ rfl ?_
    refine V_iload_n 16 rfl rfl ?_
    obtain ⟨g1, e⟩ := gd_e e
    refine V_iald 17 rfl g1 ?_
    refine V_aload_n 18 rfl rfl ?_
    refine V_getR (P + 1) 19 rfl fr_RX4_15 ⟨Nat.le_of_ble_eq_true rfl, Or.inl (Nat.le_of_ble_eq_true rfl)⟩ rfl ?_
    refine V_iload_n 20 rfl rfl ?_
    obtain ⟨g2, e⟩ := gd_e e
    refine V_iald 21 rfl g2 ?_
    rcases if_e e with ⟨c22, e⟩ | ⟨c22, e⟩
    · refine V_icmp_ne 39 22 rfl (by decide +kernel) (fun q => absurd c22 q) (fun _ => ?_)
      refine V_iconst (nI 1) 23 rfl ic_1 ?_
      cases e
      exact V_zret 24 rfl z_1 hR rfl
    · refine V_icmp_ne 39 22 rfl (by decide +kernel) (fun _ => ?_) (fun q => absurd q c22) 
      refine V_iinc (x2 + (nI 1)) 25 rfl rfl (inc_1 _) (Nat.le_of_ble_eq_true rfl) rfl ?_
      show V G M_X4_anyTwoInOne X T 0 0 42 [some (rv (4, 99) P), some (iv x1), some (iv (x2 + (nI 1)))] [] h
      refine V_goto 14 26 rfl (by decide +kernel) ?_
      refine V_msk [true, true, true] (lc' := [some (rv (4, 99) P), some (iv x1), some (iv (x2 + (nI 1)))]) rfl ?_
      exact hK14 x1 (x2 + (nI 1)) h e
set_option maxHeartbeats 4000000 in
theorem w_X4_anyTwoInOne_2 {G : kG} {X : kX} {T : List kT} {r0 : Int32} {h0 : kH} (hR : k_R G M_X4_anyTwoInOne X T 0 0 (some (iv r0)) h0) (P : Nat) (K2 : Int32 × kH → Option (Int32 × kH)) (hK2 : ∀ (x1 : Int32) (h : kH), K2 (x1, h) = some (r0, h0) → V G M_X4_anyTwoInOne X T 0 0 2 [some (rv (4, 99) P), some (iv x1), none] [] h) (x1 : Int32) (h : kH) (e : p_X4_anyTwoInOne_2 K2 P x1 h = some (r0, h0)) : V G M_X4_anyTwoInOne X T 0 0 2 [some (rv (4, 99) P), some (iv x1), none] [] h := by
  unfold p_X4_anyTwoInOne_2 at e
  refine V_iload_n 2 rfl rfl ?_
  refine V_aload_n 3 rfl rfl ?_
  refine V_getI 4 rfl fi_RX4_9 ?_
  rcases if_e e with ⟨c5, e⟩ | ⟨c5, e⟩
  · refine V_icmp_ge 51 5 rfl (by decide +kernel) (fun _ => ?_) (fun q => absurd c5 q) 
    refine V_iconst (nI 0) 29 rfl ic_0 ?_
    cases e
    exact V_zret 30 rfl z_0 hR rfl
  · refine V_icmp_ge 51 5 rfl (by decide +kernel) (fun q => absurd q c5) (fun _ => ?_)
    refine V_iload_n 6 rfl rfl ?_
    refine V_iconst (nI 1) 7 rfl ic_1 ?_
    refine V_iadd 8 rfl ?_
    refine V_istore_n 9 rfl (Nat.le_of_ble_eq_true rfl) rfl ?_
    show V G M_X4_anyTwoInOne X T 0 0 14 [some (rv (4, 99) P), some (iv x1), some (iv (x1 + (nI 1)))] [] h
    refine V_msk [true, true, true] (lc' := [some (rv (4, 99) P), some (iv x1), some (iv (x1 + (nI 1)))]) rfl ?_
    exact fx_e (P := fun s => V G M_X4_anyTwoInOne X T 0 0 14 [some (rv (4, 99) P), some (iv s.1), some (iv s.2.1)] [] s.2.2) (fun K14 hK14 s e => w_X4_anyTwoInOne_14 hR P K2 K14 hK2 (fun x1 x2 h e => hK14 (x1, x2, h) e) s.1 s.2.1 s.2.2 e) FU (x1, (x1 + (nI 1)), h) e
set_option maxHeartbeats 4000000 in
theorem c_X4_anyTwoInOne {G : kG} {T : List kT} {P : Nat} {h : kH} {r0 : Int32} {h0 : kH} (e : p_X4_anyTwoInOne P h = some (r0, h0)) : k_C G M_X4_anyTwoInOne T [rv (4, 99) P] h (some (iv r0)) h0 := by
  refine k_C_of 2 (by decide +kernel) rfl tb_X4_anyTwoInOne rfl (fun X hR => ?_)
  show V G M_X4_anyTwoInOne X T 0 0 0 [some (rv (4, 99) P), none, none] [] h
  unfold p_X4_anyTwoInOne at e
  refine V_iconst (nI 0) 0 rfl ic_0 ?_
  refine V_istore_n 1 rfl (Nat.le_of_ble_eq_true rfl) rfl ?_
  show V G M_X4_anyTwoInOne X T 0 0 2 [some (rv (4, 99) P), some (iv (nI 0)), none] [] h
  refine V_msk [true, true, false] (lc' := [some (rv (4, 99) P), some (iv (nI 0)), none]) rfl ?_
  exact fx_e (P := fun s => V G M_X4_anyTwoInOne X T 0 0 2 [some (rv (4, 99) P), some (iv s.1), none] [] s.2) (fun K2 hK2 s e => w_X4_anyTwoInOne_2 hR P K2 (fun x1 h e => hK2 (x1, h) e) s.1 s.2 e) FU ((nI 0), h) e
set_option maxHeartbeats 4000000 in
theorem w_X4_dryFor_2 {G : kG} {X : kX} {T : List kT} {h0 : kH} (hR : k_R G M_X4_dryFor X T 0 0 none h0) (P : Nat) (K2 : Int32 × Int32 × kH → Option (kH)) (hK2 : ∀ (x1 : Int32) (x2 : Int32) (h : kH), K2 (x1, x2, h) = some h0 → V G M_X4_dryFor X T 0 0 2 [some (rv (4, 99) P), some (iv x1), some (iv x2)] [] h) (x1 : Int32) (x2 : Int32) (h : kH) (e : p_X4_dryFor_2 K2 P x1 x2 h = some h0) : V G M_X4_dryFor X T 0 0 2 [some (rv (4, 99) P), some (iv x1), some (iv x2)] [] h := by
  unfold p_X4_dryFor_2 at e
  refine V_iload_n 2 rfl rfl ?_
  refine V_aload_n 3 rfl rfl ?_
  refine V_getI 4 rfl fi_RX4_9 ?_
  rcases if_e e with ⟨c5, e⟩ | ⟨c5, e⟩
  · refine V_icmp_ge 42 5 rfl (by decide +kernel) (fun _ => ?_) (fun q => absurd c5 q) 
    cases e
    exact V_vret 26 rfl hR rfl
  · refine V_icmp_ge 42 5 rfl (by decide +kernel) (fun q => absurd q c5) (fun _ => ?_)
    refine V_aload_n 6 rfl rfl ?_
    refine V_getR (P + 8) 7 rfl fr_RX4_37 ⟨Nat.le_of_ble_eq_true rfl, Or.inl (Nat.le_of_ble_eq_true rfl)⟩ rfl ?_
    refine V_iload_n 8 rfl rfl ?_
    obtain ⟨g1, e⟩ := gd_e e
    refine V_iald 9 rfl g1 ?_
    rcases if_e e with ⟨c10, e⟩ | ⟨c10, e⟩
    · refine V_if_ne 36 10 rfl (by decide +kernel) (fun q => absurd c10 q) (fun _ => ?_)
      refine V_aload_n 11 rfl rfl ?_
      refine V_iload_n 12 rfl rfl ?_
      refine V_iload_n 13 rfl rfl ?_
      refine V_aload_n 14 rfl rfl ?_
      refine V_getR (P + 4) 15 rfl fr_RX4_25 ⟨Nat.le_of_ble_eq_true rfl, Or.inl (Nat.le_of_ble_eq_true rfl)⟩ rfl ?_
      refine V_iload_n 16 rfl rfl ?_
      refine V_iald 17 rfl g1 ?_
      refine V_iconst (nI 1) 18 rfl ic_1 ?_
      refine V_iadd 19 rfl ?_
      refine V_imul 20 rfl ?_
      refine V_iconst (nI 4) 21 rfl ic_4 ?_
      refine V_idiv 22 rfl (by decide +kernel) ?_
      obtain ⟨h2, d3, e⟩ := bd_e e
      refine V_callV (N := M_X4_loseWater) (av := [iv x2, iv ((x1 * ((h (P + 4) (x2).toNatClampNeg) + (nI 1))) / (nI 4))]) (st := []) (r := none) (h' := h2) 23 rfl (c_X4_loseWater d3) g_X4_loseWater gv_X4_loseWater lk_RX4_88 ⟨Nat.le_of_ble_eq_true rfl, Nat.le_of_ble_eq_true rfl⟩ rfl rfl (Nat.le_of_ble_eq_true rfl) ⟨Nat.zero_le _, Nat.zero_le _⟩ ?_
      show V G M_X4_dryFor X T 0 0 36 [some (rv (4, 99) P), some (iv x1), some (iv x2)] [] h2
      refine V_iinc (x2 + (nI 1)) 24 rfl rfl (inc_1 _) (Nat.le_of_ble_eq_true rfl) rfl ?_
      show V G M_X4_dryFor X T 0 0 39 [some (rv (4, 99) P), some (iv x1), some (iv (x2 + (nI 1)))] [] h2
      refine V_goto 2 25 rfl (by decide +kernel) ?_
      refine V_msk [true, true, true] (lc' := [some (rv (4, 99) P), some (iv x1), some (iv (x2 + (nI 1)))]) rfl ?_
      exact hK2 x1 (x2 + (nI 1)) h2 e
    · refine V_if_ne 36 10 rfl (by decide +kernel) (fun _ => ?_) (fun q => absurd q c10) 
      refine V_iinc (x2 + (nI 1)) 24 rfl rfl (inc_1 _) (Nat.le_of_ble_eq_true rfl) rfl ?_
      show V G M_X4_dryFor X T 0 0 39 [some (rv (4, 99) P), some (iv x1), some (iv (x2 + (nI 1)))] [] h
      refine V_goto 2 25 rfl (by decide +kernel) ?_
      refine V_msk [true, true, true] (lc' := [some (rv (4, 99) P), some (iv x1), some (iv (x2 + (nI 1)))]) rfl ?_
      exact hK2 x1 (x2 + (nI 1)) h e
set_option maxHeartbeats 4000000 in
theorem c_X4_dryFor {G : kG} {T : List kT} {P : Nat} {x1 : Int32} {h : kH} {h0 : kH} (e : p_X4_dryFor P x1 h = some h0) : k_C G M_X4_dryFor T [rv (4, 99) P, iv x1] h none h0 := by
  refine k_C_of 1 (by decide +kernel) rfl tb_X4_dryFor rfl (fun X hR => ?_)
  show V G M_X4_dryFor X T 0 0 0 [some (rv (4, 99) P), some (iv x1), none] [] h
  unfold p_X4_dryFor at e
  refine V_iconst (nI 0) 0 rfl ic_0 ?_
  refine V_istore_n 1 rfl (Nat.le_of_ble_eq_true rfl) rfl ?_
  show V G M_X4_dryFor X T 0 0 2 [some (rv (4, 99) P), some (iv x1), some (iv (nI 0))] [] h
  refine V_msk [true, true, true] (lc' := [some (rv (4, 99) P), some (iv x1), some (iv (nI 0))]) rfl ?_
  exact fx_e (P := fun s => V G M_X4_dryFor X T 0 0 2 [some (rv (4, 99) P), some (iv s.1), some (iv s.2.1)] [] s.2.2) (fun K2 hK2 s e => w_X4_dryFor_2 hR P K2 (fun x1 x2 h e => hK2 (x1, x2, h) e) s.1 s.2.1 s.2.2 e) FU (x1, (nI 0), h) e
set_option maxHeartbeats 4000000 in
theorem w_X4_allWater_4 {G : kG} {X : kX} {T : List kT} {r0 : Int32} {h0 : kH} (hR : k_R G M_X4_allWater X T 0 0 (some (iv r0)) h0) (P : Nat) (K4 : Int32 × Int32 × kH → Option (Int32 × kH)) (hK4 : ∀ (x1 : Int32) (x2 : Int32) (h : kH), K4 (x1, x2, h) = some (r0, h0) → V G M_X4_allWater X T 0 0 4 [some (rv (4, 99) P), some (iv x1), some (iv x2)] [] h) (x1 : Int32) (x2 : Int32) (h : kH) (e : p_X4_allWater_4 K4 P x1 x2 h = some (r0, h0)) : V G M_X4_allWater X T 0 0 4 [some (rv (4, 99) P), some (iv x1), some (iv x2)] [] h := by
  unfold p_X4_allWater_4 at e
  refine V_iload_n 4 rfl rfl ?_
  refine V_aload_n 5 rfl rfl ?_
  refine V_getI 6 rfl fi_RX4_9 ?_
  rcases if_e e with ⟨c7, e⟩ | ⟨c7, e⟩
  · refine V_icmp_ge 27 7 rfl (by decide +kernel) (fun _ => ?_) (fun q => absurd c7 q) 
    refine V_iload_n 17 rfl rfl ?_
    cases e
    exact V_iret 18 rfl hR rfl
  · refine V_icmp_ge 27 7 rfl (by decide +kernel) (fun q => absurd q c7) (fun _ => ?_)
    refine V_iload_n 8 rfl rfl ?_
    refine V_aload_n 9 rfl rfl ?_
    refine V_getR (P + 3) 10 rfl fr_RX4_22 ⟨Nat.le_of_ble_eq_true rfl, Or.inl (Nat.le_of_ble_eq_true rfl)⟩ rfl ?_
    refine V_iload_n 11 rfl rfl ?_
    obtain ⟨g1, e⟩ := gd_e e
    refine V_iald 12 rfl g1 ?_
    refine V_iadd 13 rfl ?_
    refine V_istore_n 14 rfl (Nat.le_of_ble_eq_true rfl) rfl ?_
    refine le_V (P := fun v2 => V G M_X4_allWater X T 0 0 21 [some (rv (4, 99) P), some (iv v2), some (iv x2)] [] h) e (fun v2 e => ?_)
    refine V_iinc (x2 + (nI 1)) 15 rfl rfl (inc_1 _) (Nat.le_of_ble_eq_true rfl) rfl ?_
    show V G M_X4_allWater X T 0 0 24 [some (rv (4, 99) P), some (iv v2), some (iv (x2 + (nI 1)))] [] h
    refine V_goto 4 16 rfl (by decide +kernel) ?_
    refine V_msk [true, true, true] (lc' := [some (rv (4, 99) P), some (iv v2), some (iv (x2 + (nI 1)))]) rfl ?_
    exact hK4 v2 (x2 + (nI 1)) h e
set_option maxHeartbeats 4000000 in
theorem c_X4_allWater {G : kG} {T : List kT} {P : Nat} {h : kH} {r0 : Int32} {h0 : kH} (e : p_X4_allWater P h = some (r0, h0)) : k_C G M_X4_allWater T [rv (4, 99) P] h (some (iv r0)) h0 := by
  refine k_C_of 2 (by decide +kernel) rfl tb_X4_allWater rfl (fun X hR => ?_)
  show V G M_X4_allWater X T 0 0 0 [some (rv (4, 99) P), none, none] [] h
  unfold p_X4_allWater at e
  refine V_iconst (nI 0) 0 rfl ic_0 ?_
  refine V_istore_n 1 rfl (Nat.le_of_ble_eq_true rfl) rfl ?_
  show V G M_X4_allWater X T 0 0 2 [some (rv (4, 99) P), some (iv (nI 0)), none] [] h
  refine V_iconst (nI 0) 2 rfl ic_0 ?_
  refine V_istore_n 3 rfl (Nat.le_of_ble_eq_true rfl) rfl ?_
  show V G M_X4_allWater X T 0 0 4 [some (rv (4, 99) P), some (iv (nI 0)), some (iv (nI 0))] [] h
  refine V_msk [true, true, true] (lc' := [some (rv (4, 99) P), some (iv (nI 0)), some (iv (nI 0))]) rfl ?_
  exact fx_e (P := fun s => V G M_X4_allWater X T 0 0 4 [some (rv (4, 99) P), some (iv s.1), some (iv s.2.1)] [] s.2.2) (fun K4 hK4 s e => w_X4_allWater_4 hR P K4 (fun x1 x2 h e => hK4 (x1, x2, h) e) s.1 s.2.1 s.2.2 e) FU ((nI 0), (nI 0), h) e
set_option maxHeartbeats 4000000 in
theorem c_X4_lossOf {G : kG} {T : List kT} {P : Nat} {R : Nat} {x1 : Int32} {h : kH} {r0 : Int32} {h0 : kH} (e : p_X4_lossOf P R x1 h = some (r0, h0)) : k_C G M_X4_lossOf T [rv (4, 99) P, iv x1, rv (5, 99) R] h (some (iv r0)) h0 := by
  refine k_C_of 0 (by decide +kernel) rfl tb_X4_lossOf rfl (fun X hR => ?_)
  show V G M_X4_lossOf X T 0 0 0 [some (rv (4, 99) P), some (iv x1), some (rv (5, 99) R)] [] h
  unfold p_X4_lossOf at e
  refine V_aload_n 0 rfl rfl ?_
  refine V_getR (P + 8) 1 rfl fr_RX4_37 ⟨Nat.le_of_ble_eq_true rfl, Or.inl (Nat.le_of_ble_eq_true rfl)⟩ rfl ?_
  refine V_iload_n 2 rfl rfl ?_
  obtain ⟨g1, e⟩ := gd_e e
  refine V_iald 3 rfl g1 ?_
  rcases if_e e with ⟨c4, e⟩ | ⟨c4, e⟩
  · refine V_if_eq 16 4 rfl (by decide +kernel) (fun _ => ?_) (fun q => absurd c4 q) 
    refine V_aload_n 10 rfl rfl ?_
    refine V_getR (P + 7) 11 rfl fr_RX4_34 ⟨Nat.le_of_ble_eq_true rfl, Or.inl (Nat.le_of_ble_eq_true rfl)⟩ rfl ?_
    refine V_iload_n 12 rfl rfl ?_
    refine V_iald 13 rfl g1 ?_
    refine V_aload_n 14 rfl rfl ?_
    refine V_getI 15 rfl fi_RX4_100 ?_
    rcases if_e e with ⟨c16, e⟩ | ⟨c16, e⟩
    · refine V_icmp_lt 33 16 rfl (by decide +kernel) (fun _ => ?_) (fun q => absurd c16 q) 
      refine V_iconst (nI 5) 19 rfl ic_5 ?_
      cases e
      exact V_iret 20 rfl hR rfl
    · refine V_icmp_lt 33 16 rfl (by decide +kernel) (fun q => absurd q c16) (fun _ => ?_)
      refine V_iconst (nI 0) 17 rfl ic_0 ?_
      refine V_goto 34 18 rfl (by decide +kernel) ?_
      cases e
      exact V_iret 20 rfl hR rfl
  · refine V_if_eq 16 4 rfl (by decide +kernel) (fun q => absurd q c4) (fun _ => ?_)
    refine V_aload_n 5 rfl rfl ?_
    refine V_getR (P + 8) 6 rfl fr_RX4_37 ⟨Nat.le_of_ble_eq_true rfl, Or.inl (Nat.le_of_ble_eq_true rfl)⟩ rfl ?_
    refine V_iload_n 7 rfl rfl ?_
    refine V_iald 8 rfl g1 ?_
    cases e
    exact V_iret 9 rfl hR rfl
set_option maxHeartbeats 4000000 in
theorem w_X4_countGood_4 {G : kG} {X : kX} {T : List kT} {r0 : Int32} {h0 : kH} (hR : k_R G M_X4_countGood X T 0 0 (some (iv r0)) h0) (P : Nat) (R : Nat) (K4 : Int32 × Int32 × kH → Option (Int32 × kH)) (hK4 : ∀ (x2 : Int32) (x3 : Int32) (h : kH), K4 (x2, x3, h) = some (r0, h0) → V G M_X4_countGood X T 0 0 4 [some (rv (4, 99) P), some (rv (5, 99) R), some (iv x2), some (iv x3)] [] h) (x2 : Int32) (x3 : Int32) (h : kH) (e : p_X4_countGood_4 K4 P R x2 x3 h = some (r0, h0)) : V G M_X4_countGood X T 0 0 4 [some (rv (4, 99) P), some (rv (5, 99) R), some (iv x2), some (iv x3)] [] h := by
  unfold p_X4_countGood_4 at e
  refine V_iload_n 4 rfl rfl ?_
  refine V_aload_n 5 rfl rfl ?_
  refine V_getI 6 rfl fi_RX4_9 ?_
  rcases if_e e with ⟨c7, e⟩ | ⟨c7, e⟩
  · refine V_icmp_ge 30 7 rfl (by decide +kernel) (fun _ => ?_) (fun q => absurd c7 q) 
    refine V_iload_n 16 rfl rfl ?_
    cases e
    exact V_iret 17 rfl hR rfl
  · refine V_icmp_ge 30 7 rfl (by decide +kernel) (fun q => absurd q c7) (fun _ => ?_)
    refine V_aload_n 8 rfl rfl ?_
    refine V_iload_n 9 rfl rfl ?_
    refine V_aload_n 10 rfl rfl ?_
    obtain ⟨v3, h1, d2, e⟩ := bd2_e e
    refine V_callV (N := M_X4_lossOf) (av := [iv x3, rv (5, 99) R]) (st := []) (r := some (iv v3)) (h' := h1) 11 rfl (c_X4_lossOf d2) g_X4_lossOf gv_X4_lossOf lk_RX4_110 ⟨Nat.le_of_ble_eq_true rfl, Nat.le_of_ble_eq_true rfl⟩ rfl rfl (Nat.le_of_ble_eq_true rfl) ⟨Nat.zero_le _, Nat.zero_le _⟩ ?_
    show V G M_X4_countGood X T 0 0 18 [some (rv (4, 99) P), some (rv (5, 99) R), some (iv x2), some (iv x3)] [iv v3] h1
    rcases if_e e with ⟨c12, e⟩ | ⟨c12, e⟩
    · refine V_if_ne 24 12 rfl (by decide +kernel) (fun q => absurd c12 q) (fun _ => ?_)
      refine V_iinc (x2 + (nI 1)) 13 rfl rfl (inc_1 _) (Nat.le_of_ble_eq_true rfl) rfl ?_
      show V G M_X4_countGood X T 0 0 24 [some (rv (4, 99) P), some (rv (5, 99) R), some (iv (x2 + (nI 1))), some (iv x3)] [] h1
      refine V_iinc (x3 + (nI 1)) 14 rfl rfl (inc_1 _) (Nat.le_of_ble_eq_true rfl) rfl ?_
      show V G M_X4_countGood X T 0 0 27 [some (rv (4, 99) P), some (rv (5, 99) R), some (iv (x2 + (nI 1))), some (iv (x3 + (nI 1)))] [] h1
      refine V_goto 4 15 rfl (by decide +kernel) ?_
      refine V_msk [true, true, true, true] (lc' := [some (rv (4, 99) P), some (rv (5, 99) R), some (iv (x2 + (nI 1))), some (iv (x3 + (nI 1)))]) rfl ?_
      exact hK4 (x2 + (nI 1)) (x3 + (nI 1)) h1 e
    · refine V_if_ne 24 12 rfl (by decide +kernel) (fun _ => ?_) (fun q => absurd q c12) 
      refine V_iinc (x3 + (nI 1)) 14 rfl rfl (inc_1 _) (Nat.le_of_ble_eq_true rfl) rfl ?_
      show V G M_X4_countGood X T 0 0 27 [some (rv (4, 99) P), some (rv (5, 99) R), some (iv x2), some (iv (x3 + (nI 1)))] [] h1
      refine V_goto 4 15 rfl (by decide +kernel) ?_
      refine V_msk [true, true, true, true] (lc' := [some (rv (4, 99) P), some (rv (5, 99) R), some (iv x2), some (iv (x3 + (nI 1)))]) rfl ?_
      exact hK4 x2 (x3 + (nI 1)) h1 e
set_option maxHeartbeats 4000000 in
theorem c_X4_countGood {G : kG} {T : List kT} {P : Nat} {R : Nat} {h : kH} {r0 : Int32} {h0 : kH} (e : p_X4_countGood P R h = some (r0, h0)) : k_C G M_X4_countGood T [rv (4, 99) P, rv (5, 99) R] h (some (iv r0)) h0 := by
  refine k_C_of 2 (by decide +kernel) rfl tb_X4_countGood rfl (fun X hR => ?_)
  show V G M_X4_countGood X T 0 0 0 [some (rv (4, 99) P), some (rv (5, 99) R), none, none] [] h
  unfold p_X4_countGood at e
  refine V_iconst (nI 0) 0 rfl ic_0 ?_
  refine V_istore_n 1 rfl (Nat.le_of_ble_eq_true rfl) rfl ?_
  show V G M_X4_countGood X T 0 0 2 [some (rv (4, 99) P), some (rv (5, 99) R), some (iv (nI 0)), none] [] h
  refine V_iconst (nI 0) 2 rfl ic_0 ?_
  refine V_istore_n 3 rfl (Nat.le_of_ble_eq_true rfl) rfl ?_
  show V G M_X4_countGood X T 0 0 4 [some (rv (4, 99) P), some (rv (5, 99) R), some (iv (nI 0)), some (iv (nI 0))] [] h
  refine V_msk [true, true, true, true] (lc' := [some (rv (4, 99) P), some (rv (5, 99) R), some (iv (nI 0)), some (iv (nI 0))]) rfl ?_
  exact fx_e (P := fun s => V G M_X4_countGood X T 0 0 4 [some (rv (4, 99) P), some (rv (5, 99) R), some (iv s.1), some (iv s.2.1)] [] s.2.2) (fun K4 hK4 s e => w_X4_countGood_4 hR P R K4 (fun x2 x3 h e => hK4 (x2, x3, h) e) s.1 s.2.1 s.2.2 e) FU ((nI 0), (nI 0), h) e
set_option maxHeartbeats 4000000 in
theorem w_X4_countLost_4 {G : kG} {X : kX} {T : List kT} {r0 : Int32} {h0 : kH} (hR : k_R G M_X4_countLost X T 0 0 (some (iv r0)) h0) (P : Nat) (K4 : Int32 × Int32 × kH → Option (Int32 × kH)) (hK4 : ∀ (x1 : Int32) (x2 : Int32) (h : kH), K4 (x1, x2, h) = some (r0, h0) → V G M_X4_countLost X T 0 0 4 [some (rv (4, 99) P), some (iv x1), some (iv x2)] [] h) (x1 : Int32) (x2 : Int32) (h : kH) (e : p_X4_countLost_4 K4 P x1 x2 h = some (r0, h0)) : V G M_X4_countLost X T 0 0 4 [some (rv (4, 99) P), some (iv x1), some (iv x2)] [] h := by
  unfold p_X4_countLost_4 at e
  refine V_iload_n 4 rfl rfl ?_
  refine V_aload_n 5 rfl rfl ?_
  refine V_getI 6 rfl fi_RX4_9 ?_
  rcases if_e e with ⟨c7, e⟩ | ⟨c7, e⟩
  · refine V_icmp_ge 41 7 rfl (by decide +kernel) (fun _ => ?_) (fun q => absurd c7 q) 
    refine V_iload_n 23 rfl rfl ?_
    cases e
    exact V_iret 24 rfl hR rfl
  · refine V_icmp_ge 41 7 rfl (by decide +kernel) (fun q => absurd q c7) (fun _ => ?_)
    refine V_aload_n 8 rfl rfl ?_
    refine V_getR (P + 8) 9 rfl fr_RX4_37 ⟨Nat.le_of_ble_eq_true rfl, Or.inl (Nat.le_of_ble_eq_true rfl)⟩ rfl ?_
    refine V_iload_n 10 rfl rfl ?_
    obtain ⟨g1, e⟩ := gd_e e
    refine V_iald 11 rfl g1 ?_
    refine V_iconst (nI 1) 12 rfl ic_1 ?_
    rcases if_e e with ⟨c13, e⟩ | ⟨c13, e⟩
    · refine V_icmp_lt 35 13 rfl (by decide +kernel) (fun _ => ?_) (fun q => absurd c13 q) 
      refine V_iinc (x2 + (nI 1)) 21 rfl rfl (inc_1 _) (Nat.le_of_ble_eq_true rfl) rfl ?_
      show V G M_X4_countLost X T 0 0 38 [some (rv (4, 99) P), some (iv x1), some (iv (x2 + (nI 1)))] [] h
      refine V_goto 4 22 rfl (by decide +kernel) ?_
      refine V_msk [true, true, true] (lc' := [some (rv (4, 99) P), some (iv x1), some (iv (x2 + (nI 1)))]) rfl ?_
      exact hK4 x1 (x2 + (nI 1)) h e
    · refine V_icmp_lt 35 13 rfl (by decide +kernel) (fun q => absurd q c13) (fun _ => ?_)
      refine V_aload_n 14 rfl rfl ?_
      refine V_getR (P + 8) 15 rfl fr_RX4_37 ⟨Nat.le_of_ble_eq_true rfl, Or.inl (Nat.le_of_ble_eq_true rfl)⟩ rfl ?_
      refine V_iload_n 16 rfl rfl ?_
      refine V_iald 17 rfl g1 ?_
      refine V_iconst (nI 4) 18 rfl ic_4 ?_
      rcases if_e e with ⟨c19, e⟩ | ⟨c19, e⟩
      · refine V_icmp_gt 35 19 rfl (by decide +kernel) (fun _ => ?_) (fun q => absurd c19 q) 
        refine V_iinc (x2 + (nI 1)) 21 rfl rfl (inc_1 _) (Nat.le_of_ble_eq_true rfl) rfl ?_
        show V G M_X4_countLost X T 0 0 38 [some (rv (4, 99) P), some (iv x1), some (iv (x2 + (nI 1)))] [] h
        refine V_goto 4 22 rfl (by decide +kernel) ?_
        refine V_msk [true, true, true] (lc' := [some (rv (4, 99) P), some (iv x1), some (iv (x2 + (nI 1)))]) rfl ?_
        exact hK4 x1 (x2 + (nI 1)) h e
      · refine V_icmp_gt 35 19 rfl (by decide +kernel) (fun q => absurd q c19) (fun _ => ?_)
        refine V_iinc (x1 + (nI 1)) 20 rfl rfl (inc_1 _) (Nat.le_of_ble_eq_true rfl) rfl ?_
        show V G M_X4_countLost X T 0 0 35 [some (rv (4, 99) P), some (iv (x1 + (nI 1))), some (iv x2)] [] h
        refine V_iinc (x2 + (nI 1)) 21 rfl rfl (inc_1 _) (Nat.le_of_ble_eq_true rfl) rfl ?_
        show V G M_X4_countLost X T 0 0 38 [some (rv (4, 99) P), some (iv (x1 + (nI 1))), some (iv (x2 + (nI 1)))] [] h
        refine V_goto 4 22 rfl (by decide +kernel) ?_
        refine V_msk [true, true, true] (lc' := [some (rv (4, 99) P), some (iv (x1 + (nI 1))), some (iv (x2 + (nI 1)))]) rfl ?_
        exact hK4 (x1 + (nI 1)) (x2 + (nI 1)) h e
set_option maxHeartbeats 4000000 in
theorem c_X4_countLost {G : kG} {T : List kT} {P : Nat} {h : kH} {r0 : Int32} {h0 : kH} (e : p_X4_countLost P h = some (r0, h0)) : k_C G M_X4_countLost T [rv (4, 99) P] h (some (iv r0)) h0 := by
  refine k_C_of 2 (by decide +kernel) rfl tb_X4_countLost rfl (fun X hR => ?_)
  show V G M_X4_countLost X T 0 0 0 [some (rv (4, 99) P), none, none] [] h
  unfold p_X4_countLost at e
  refine V_iconst (nI 0) 0 rfl ic_0 ?_
  refine V_istore_n 1 rfl (Nat.le_of_ble_eq_true rfl) rfl ?_
  show V G M_X4_countLost X T 0 0 2 [some (rv (4, 99) P), some (iv (nI 0)), none] [] h
  refine V_iconst (nI 0) 2 rfl ic_0 ?_
  refine V_istore_n 3 rfl (Nat.le_of_ble_eq_true rfl) rfl ?_
  show V G M_X4_countLost X T 0 0 4 [some (rv (4, 99) P), some (iv (nI 0)), some (iv (nI 0))] [] h
  refine V_msk [true, true, true] (lc' := [some (rv (4, 99) P), some (iv (nI 0)), some (iv (nI 0))]) rfl ?_
  exact fx_e (P := fun s => V G M_X4_countLost X T 0 0 4 [some (rv (4, 99) P), some (iv s.1), some (iv s.2.1)] [] s.2.2) (fun K4 hK4 s e => w_X4_countLost_4 hR P K4 (fun x1 x2 h e => hK4 (x1, x2, h) e) s.1 s.2.1 s.2.2 e) FU ((nI 0), (nI 0), h) e
set_option maxHeartbeats 4000000 in
theorem w_X4_countWhole_4 {G : kG} {X : kX} {T : List kT} {r0 : Int32} {h0 : kH} (hR : k_R G M_X4_countWhole X T 0 0 (some (iv r0)) h0) (P : Nat) (K4 : Int32 × Int32 × kH → Option (Int32 × kH)) (hK4 : ∀ (x1 : Int32) (x2 : Int32) (h : kH), K4 (x1, x2, h) = some (r0, h0) → V G M_X4_countWhole X T 0 0 4 [some (rv (4, 99) P), some (iv x1), some (iv x2)] [] h) (x1 : Int32) (x2 : Int32) (h : kH) (e : p_X4_countWhole_4 K4 P x1 x2 h = some (r0, h0)) : V G M_X4_countWhole X T 0 0 4 [some (rv (4, 99) P), some (iv x1), some (iv x2)] [] h := by
  unfold p_X4_countWhole_4 at e
  refine V_iload_n 4 rfl rfl ?_
  refine V_aload_n 5 rfl rfl ?_
  refine V_getI 6 rfl fi_RX4_9 ?_
  rcases if_e e with ⟨c7, e⟩ | ⟨c7, e⟩
  · refine V_icmp_ge 30 7 rfl (by decide +kernel) (fun _ => ?_) (fun q => absurd c7 q) 
    refine V_iload_n 16 rfl rfl ?_
    cases e
    exact V_iret 17 rfl hR rfl
  · refine V_icmp_ge 30 7 rfl (by decide +kernel) (fun q => absurd q c7) (fun _ => ?_)
    refine V_aload_n 8 rfl rfl ?_
    refine V_getR (P + 8) 9 rfl fr_RX4_37 ⟨Nat.le_of_ble_eq_true rfl, Or.inl (Nat.le_of_ble_eq_true rfl)⟩ rfl ?_
    refine V_iload_n 10 rfl rfl ?_
    obtain ⟨g1, e⟩ := gd_e e
    refine V_iald 11 rfl g1 ?_
    rcases if_e e with ⟨c12, e⟩ | ⟨c12, e⟩
    · refine V_if_ne 24 12 rfl (by decide +kernel) (fun q => absurd c12 q) (fun _ => ?_)
      refine V_iinc (x1 + (nI 1)) 13 rfl rfl (inc_1 _) (Nat.le_of_ble_eq_true rfl) rfl ?_
      show V G M_X4_countWhole X T 0 0 24 [some (rv (4, 99) P), some (iv (x1 + (nI 1))), some (iv x2)] [] h
      refine V_iinc (x2 + (nI 1)) 14 rfl rfl (inc_1 _) (Nat.le_of_ble_eq_true rfl) rfl ?_
      show V G M_X4_countWhole X T 0 0 27 [some (rv (4, 99) P), some (iv (x1 + (nI 1))), some (iv (x2 + (nI 1)))] [] h
      refine V_goto 4 15 rfl (by decide +kernel) ?_
      refine V_msk [true, true, true] (lc' := [some (rv (4, 99) P), some (iv (x1 + (nI 1))), some (iv (x2 + (nI 1)))]) rfl ?_
      exact hK4 (x1 + (nI 1)) (x2 + (nI 1)) h e
    · refine V_if_ne 24 12 rfl (by decide +kernel) (fun _ => ?_) (fun q => absurd q c12) 
      refine V_iinc (x2 + (nI 1)) 14 rfl rfl (inc_1 _) (Nat.le_of_ble_eq_true rfl) rfl ?_
      show V G M_X4_countWhole X T 0 0 27 [some (rv (4, 99) P), some (iv x1), some (iv (x2 + (nI 1)))] [] h
      refine V_goto 4 15 rfl (by decide +kernel) ?_
      refine V_msk [true, true, true] (lc' := [some (rv (4, 99) P), some (iv x1), some (iv (x2 + (nI 1)))]) rfl ?_
      exact hK4 x1 (x2 + (nI 1)) h e
set_option maxHeartbeats 4000000 in
theorem c_X4_countWhole {G : kG} {T : List kT} {P : Nat} {h : kH} {r0 : Int32} {h0 : kH} (e : p_X4_countWhole P h = some (r0, h0)) : k_C G M_X4_countWhole T [rv (4, 99) P] h (some (iv r0)) h0 := by
  refine k_C_of 2 (by decide +kernel) rfl tb_X4_countWhole rfl (fun X hR => ?_)
  show V G M_X4_countWhole X T 0 0 0 [some (rv (4, 99) P), none, none] [] h
  unfold p_X4_countWhole at e
  refine V_iconst (nI 0) 0 rfl ic_0 ?_
  refine V_istore_n 1 rfl (Nat.le_of_ble_eq_true rfl) rfl ?_
  show V G M_X4_countWhole X T 0 0 2 [some (rv (4, 99) P), some (iv (nI 0)), none] [] h
  refine V_iconst (nI 0) 2 rfl ic_0 ?_
  refine V_istore_n 3 rfl (Nat.le_of_ble_eq_true rfl) rfl ?_
  show V G M_X4_countWhole X T 0 0 4 [some (rv (4, 99) P), some (iv (nI 0)), some (iv (nI 0))] [] h
  refine V_msk [true, true, true] (lc' := [some (rv (4, 99) P), some (iv (nI 0)), some (iv (nI 0))]) rfl ?_
  exact fx_e (P := fun s => V G M_X4_countWhole X T 0 0 4 [some (rv (4, 99) P), some (iv s.1), some (iv s.2.1)] [] s.2.2) (fun K4 hK4 s e => w_X4_countWhole_4 hR P K4 (fun x1 x2 h e => hK4 (x1, x2, h) e) s.1 s.2.1 s.2.2 e) FU ((nI 0), (nI 0), h) e
set_option maxHeartbeats 4000000 in
theorem w_X4_wholeIn_2 {G : kG} {X : kX} {T : List kT} {r0 : Int32} {h0 : kH} (hR : k_R G M_X4_wholeIn X T 0 0 (some (iv r0)) h0) (P : Nat) (K2 : Int32 × Int32 × kH → Option (Int32 × kH)) (hK2 : ∀ (x1 : Int32) (x2 : Int32) (h : kH), K2 (x1, x2, h) = some (r0, h0) → V G M_X4_wholeIn X T 0 0 2 [some (rv (4, 99) P), some (iv x1), some (iv x2)] [] h) (x1 : Int32) (x2 : Int32) (h : kH) (e : p_X4_wholeIn_2 K2 P x1 x2 h = some (r0, h0)) : V G M_X4_wholeIn X T 0 0 2 [some (rv (4, 99) P), some (iv x1), some (iv x2)] [] h := by
  unfold p_X4_wholeIn_2 at e
  refine V_iload_n 2 rfl rfl ?_
  refine V_aload_n 3 rfl rfl ?_
  refine V_getI 4 rfl fi_RX4_9 ?_
  rcases if_e e with ⟨c5, e⟩ | ⟨c5, e⟩
  · refine V_icmp_ge 37 5 rfl (by decide +kernel) (fun _ => ?_) (fun q => absurd c5 q) 
    refine V_bipush (-4 : Int32) 21 rfl bp_m4 ?_
    cases e
    exact V_iret 22 rfl hR rfl
  · refine V_icmp_ge 37 5 rfl (by decide +kernel) (fun q => absurd q c5) (fun _ => ?_)
    refine V_aload_n 6 rfl rfl ?_
    refine V_getR (P + 8) 7 rfl fr_RX4_37 ⟨Nat.le_of_ble_eq_true rfl, Or.inl (Nat.le_of_ble_eq_true rfl)⟩ rfl ?_
    refine V_iload_n 8 rfl rfl ?_
    obtain ⟨g1, e⟩ := gd_e e
    refine V_iald 9 rfl g1 ?_
    rcases if_e e with ⟨c10, e⟩ | ⟨c10, e⟩
    · refine V_if_ne 31 10 rfl (by decide +kernel) (fun q => absurd c10 q) (fun _ => ?_)
      refine V_aload_n 11 rfl rfl ?_
      refine V_getR (P + 1) 12 rfl fr_RX4_15 ⟨Nat.le_of_ble_eq_true rfl, Or.inl (Nat.le_of_ble_eq_true rfl)⟩ rfl ?_
      refine V_iload_n 13 rfl rfl ?_
      refine V_iald 14 rfl g1 ?_
      refine V_iload_n 15 rfl rfl ?_
      rcases if_e e with ⟨c16, e⟩ | ⟨c16, e⟩
      · refine V_icmp_ne 31 16 rfl (by decide +kernel) (fun q => absurd c16 q) (fun _ => ?_)
        refine V_iload_n 17 rfl rfl ?_
        cases e
        exact V_iret 18 rfl hR rfl
      · refine V_icmp_ne 31 16 rfl (by decide +kernel) (fun _ => ?_) (fun q => absurd q c16) 
        refine V_iinc (x2 + (nI 1)) 19 rfl rfl (inc_1 _) (Nat.le_of_ble_eq_true rfl) rfl ?_
        show V G M_X4_wholeIn X T 0 0 34 [some (rv (4, 99) P), some (iv x1), some (iv (x2 + (nI 1)))] [] h
        refine V_goto 2 20 rfl (by decide +kernel) ?_
        refine V_msk [true, true, true] (lc' := [some (rv (4, 99) P), some (iv x1), some (iv (x2 + (nI 1)))]) rfl ?_
        exact hK2 x1 (x2 + (nI 1)) h e
    · refine V_if_ne 31 10 rfl (by decide +kernel) (fun _ => ?_) (fun q => absurd q c10) 
      refine V_iinc (x2 + (nI 1)) 19 rfl rfl (inc_1 _) (Nat.le_of_ble_eq_true rfl) rfl ?_
      show V G M_X4_wholeIn X T 0 0 34 [some (rv (4, 99) P), some (iv x1), some (iv (x2 + (nI 1)))] [] h
      refine V_goto 2 20 rfl (by decide +kernel) ?_
      refine V_msk [true, true, true] (lc' := [some (rv (4, 99) P), some (iv x1), some (iv (x2 + (nI 1)))]) rfl ?_
      exact hK2 x1 (x2 + (nI 1)) h e
set_option maxHeartbeats 4000000 in
theorem c_X4_wholeIn {G : kG} {T : List kT} {P : Nat} {x1 : Int32} {h : kH} {r0 : Int32} {h0 : kH} (e : p_X4_wholeIn P x1 h = some (r0, h0)) : k_C G M_X4_wholeIn T [rv (4, 99) P, iv x1] h (some (iv r0)) h0 := by
  refine k_C_of 1 (by decide +kernel) rfl tb_X4_wholeIn rfl (fun X hR => ?_)
  show V G M_X4_wholeIn X T 0 0 0 [some (rv (4, 99) P), some (iv x1), none] [] h
  unfold p_X4_wholeIn at e
  refine V_iconst (nI 0) 0 rfl ic_0 ?_
  refine V_istore_n 1 rfl (Nat.le_of_ble_eq_true rfl) rfl ?_
  show V G M_X4_wholeIn X T 0 0 2 [some (rv (4, 99) P), some (iv x1), some (iv (nI 0))] [] h
  refine V_msk [true, true, true] (lc' := [some (rv (4, 99) P), some (iv x1), some (iv (nI 0))]) rfl ?_
  exact fx_e (P := fun s => V G M_X4_wholeIn X T 0 0 2 [some (rv (4, 99) P), some (iv s.1), some (iv s.2.1)] [] s.2.2) (fun K2 hK2 s e => w_X4_wholeIn_2 hR P K2 (fun x1 x2 h e => hK2 (x1, x2, h) e) s.1 s.2.1 s.2.2 e) FU (x1, (nI 0), h) e
