set_option maxHeartbeats 4000000 in
theorem w_X8_isWay_147 {G : kG} {X : kX} {T : List kT} {r0 : Int32} {h0 : kH} (hR : k_R G M_X8_isWay X T 0 0 (some (iv r0)) h0) (K44 : Int32 × Int32 × Int32 × kH → Option (Int32 × kH)) (K98 : Int32 × Int32 × Int32 × Int32 × kH → Option (Int32 × kH)) (hK44 : ∀ (x2 : Int32) (x4 : Int32) (x5 : Int32) (h : kH), K44 (x2, x4, x5, h) = some (r0, h0) → V G M_X8_isWay X T 0 0 44 [some (rv (8, 99) 135), none, some (iv x2), none, some (iv x4), some (iv x5), none] [] h) (hK98 : ∀ (x2 : Int32) (x4 : Int32) (x5 : Int32) (x6 : Int32) (h : kH), K98 (x2, x4, x5, x6, h) = some (r0, h0) → V G M_X8_isWay X T 0 0 98 [some (rv (8, 99) 135), none, some (iv x2), none, some (iv x4), some (iv x5), some (iv x6)] [] h) (x2 : Int32) (x5 : Int32) (x6 : Int32) (s0 : Int32) (h : kH) (e : p_X8_isWay_147 K44 K98 x2 x5 x6 s0 h = some (r0, h0)) : V G M_X8_isWay X T 0 0 147 [some (rv (8, 99) 135), none, some (iv x2), none, none, some (iv x5), some (iv x6)] [iv s0] h := by
  unfold p_X8_isWay_147 at e
  refine V_istore 81 rfl (Nat.le_of_ble_eq_true rfl) rfl ?_
  show V G M_X8_isWay X T 0 0 149 [some (rv (8, 99) 135), none, some (iv x2), none, some (iv s0), some (iv x5), some (iv x6)] [] h
  refine V_iinc (x6 + (nI 1)) 82 rfl rfl (inc_1 _) (Nat.le_of_ble_eq_true rfl) rfl ?_
  show V G M_X8_isWay X T 0 0 152 [some (rv (8, 99) 135), none, some (iv x2), none, some (iv s0), some (iv x5), some (iv (x6 + (nI 1)))] [] h
  refine V_goto 98 83 rfl (by decide +kernel) ?_
  refine V_msk [true, false, true, false, true, true, true] (lc' := [some (rv (8, 99) 135), none, some (iv x2), none, some (iv s0), some (iv x5), some (iv (x6 + (nI 1)))]) rfl ?_
  exact hK98 x2 s0 x5 (x6 + (nI 1)) h e
set_option maxHeartbeats 4000000 in
theorem w_X8_isWay_146 {G : kG} {X : kX} {T : List kT} {r0 : Int32} {h0 : kH} (hR : k_R G M_X8_isWay X T 0 0 (some (iv r0)) h0) (K44 : Int32 × Int32 × Int32 × kH → Option (Int32 × kH)) (K98 : Int32 × Int32 × Int32 × Int32 × kH → Option (Int32 × kH)) (hK44 : ∀ (x2 : Int32) (x4 : Int32) (x5 : Int32) (h : kH), K44 (x2, x4, x5, h) = some (r0, h0) → V G M_X8_isWay X T 0 0 44 [some (rv (8, 99) 135), none, some (iv x2), none, some (iv x4), some (iv x5), none] [] h) (hK98 : ∀ (x2 : Int32) (x4 : Int32) (x5 : Int32) (x6 : Int32) (h : kH), K98 (x2, x4, x5, x6, h) = some (r0, h0) → V G M_X8_isWay X T 0 0 98 [some (rv (8, 99) 135), none, some (iv x2), none, some (iv x4), some (iv x5), some (iv x6)] [] h) (x2 : Int32) (x5 : Int32) (x6 : Int32) (h : kH) (e : p_X8_isWay_146 K44 K98 x2 x5 x6 h = some (r0, h0)) : V G M_X8_isWay X T 0 0 146 [some (rv (8, 99) 135), none, some (iv x2), none, none, some (iv x5), some (iv x6)] [] h := by
  unfold p_X8_isWay_146 at e
  refine V_iconst (nI 0) 80 rfl ic_0 ?_
  refine V_msk [true, false, true, false, false, true, true] (lc' := [some (rv (8, 99) 135), none, some (iv x2), none, none, some (iv x5), some (iv x6)]) rfl ?_
  exact w_X8_isWay_147 hR K44 K98 hK44 hK98 x2 x5 x6 (nI 0) h e
set_option maxHeartbeats 4000000 in
theorem w_X8_isWay_98 {G : kG} {X : kX} {T : List kT} {r0 : Int32} {h0 : kH} (hR : k_R G M_X8_isWay X T 0 0 (some (iv r0)) h0) (K44 : Int32 × Int32 × Int32 × kH → Option (Int32 × kH)) (K98 : Int32 × Int32 × Int32 × Int32 × kH → Option (Int32 × kH)) (hK44 : ∀ (x2 : Int32) (x4 : Int32) (x5 : Int32) (h : kH), K44 (x2, x4, x5, h) = some (r0, h0) → V G M_X8_isWay X T 0 0 44 [some (rv (8, 99) 135), none, some (iv x2), none, some (iv x4), some (iv x5), none] [] h) (hK98 : ∀ (x2 : Int32) (x4 : Int32) (x5 : Int32) (x6 : Int32) (h : kH), K98 (x2, x4, x5, x6, h) = some (r0, h0) → V G M_X8_isWay X T 0 0 98 [some (rv (8, 99) 135), none, some (iv x2), none, some (iv x4), some (iv x5), some (iv x6)] [] h) (x2 : Int32) (x4 : Int32) (x5 : Int32) (x6 : Int32) (h : kH) (e : p_X8_isWay_98 K44 K98 x2 x4 x5 x6 h = some (r0, h0)) : V G M_X8_isWay X T 0 0 98 [some (rv (8, 99) 135), none, some (iv x2), none, some (iv x4), some (iv x5), some (iv x6)] [] h := by
  unfold p_X8_isWay_98 at e
  refine V_iload 54 rfl rfl ?_
  refine V_aload_n 55 rfl rfl ?_
  refine V_getR 138 56 rfl fr_RX8_17 ⟨Nat.le_of_ble_eq_true rfl, Or.inl (Nat.le_of_ble_eq_true rfl)⟩ rfl ?_
  refine V_iconst (nI 0) 57 rfl ic_0 ?_
  obtain ⟨g2, e⟩ := gd_e e
  refine V_iald 58 rfl g2 ?_
  rcases if_e e with ⟨c59, e⟩ | ⟨c59, e⟩
  · refine V_icmp_ge 155 59 rfl (by decide +kernel) (fun _ => ?_) (fun q => absurd c59 q) 
    refine V_iinc (x5 + (nI 1)) 84 rfl rfl (inc_1 _) (Nat.le_of_ble_eq_true rfl) rfl ?_
    show V G M_X8_isWay X T 0 0 158 [some (rv (8, 99) 135), none, some (iv x2), none, some (iv x4), some (iv (x5 + (nI 1))), some (iv x6)] [] h
    refine V_goto 44 85 rfl (by decide +kernel) ?_
    refine V_msk [true, false, true, false, true, true, false] (lc' := [some (rv (8, 99) 135), none, some (iv x2), none, some (iv x4), some (iv (x5 + (nI 1))), none]) rfl ?_
    exact hK44 x2 x4 (x5 + (nI 1)) h e
  · refine V_icmp_ge 155 59 rfl (by decide +kernel) (fun q => absurd q c59) (fun _ => ?_)
    refine V_iload 60 rfl rfl ?_
    rcases if_e e with ⟨c61, e⟩ | ⟨c61, e⟩
    · refine V_if_eq 146 61 rfl (by decide +kernel) (fun _ => ?_) (fun q => absurd c61 q) 
      refine V_msk [true, false, true, false, false, true, true] (lc' := [some (rv (8, 99) 135), none, some (iv x2), none, none, some (iv x5), some (iv x6)]) rfl ?_
      exact w_X8_isWay_146 hR K44 K98 hK44 hK98 x2 x5 x6 h e
    · refine V_if_eq 146 61 rfl (by decide +kernel) (fun q => absurd q c61) (fun _ => ?_)
      refine V_aload_n 62 rfl rfl ?_
      refine V_getR 144 63 rfl fr_RX8_35 ⟨Nat.le_of_ble_eq_true rfl, Or.inl (Nat.le_of_ble_eq_true rfl)⟩ rfl ?_
      refine V_aload_n 64 rfl rfl ?_
      refine V_getR 148 65 rfl fr_RX8_48 ⟨Nat.le_of_ble_eq_true rfl, Or.inl (Nat.le_of_ble_eq_true rfl)⟩ rfl ?_
      refine V_iload 66 rfl rfl ?_
      obtain ⟨g3, e⟩ := gd_e e
      refine V_iald 67 rfl g3 ?_
      obtain ⟨g4, e⟩ := gd_e e
      refine V_iald 68 rfl g4 ?_
      refine V_aload_n 69 rfl rfl ?_
      refine V_getR 143 70 rfl fr_RX8_32 ⟨Nat.le_of_ble_eq_true rfl, Or.inl (Nat.le_of_ble_eq_true rfl)⟩ rfl ?_
      refine V_iconst (nI 0) 71 rfl ic_0 ?_
      refine V_iload 72 rfl rfl ?_
      obtain ⟨v7, h5, d6, e⟩ := bd2_e e
      refine V_callS (N := M_X8_potAt) (av := [iv (nI 0), iv x6]) (st := [rv (9, 800) 143, iv (h 144 ((h 148 (x5).toNatClampNeg)).toNatClampNeg)]) (r := some (iv v7)) (h' := h5) 73 rfl (c_X8_potAt d6) g_X8_potAt gs_X8_potAt lk_RX8_120 ⟨Nat.le_of_ble_eq_true rfl, Nat.le_of_ble_eq_true rfl⟩ rfl (Nat.le_of_ble_eq_true rfl) ⟨Nat.zero_le _, Nat.zero_le _⟩ ?_
      show V G M_X8_isWay X T 0 0 136 [some (rv (8, 99) 135), none, some (iv x2), none, some (iv x4), some (iv x5), some (iv x6)] [iv v7, rv (9, 800) 143, iv (h 144 ((h 148 (x5).toNatClampNeg)).toNatClampNeg)] h5
      refine V_iconst (nI 0) 74 rfl ic_0 ?_
      refine V_iadd 75 rfl ?_
      obtain ⟨g8, e⟩ := gd_e e
      refine V_iald 76 rfl g8 ?_
      rcases if_e e with ⟨c77, e⟩ | ⟨c77, e⟩
      · refine V_icmp_eq 146 77 rfl (by decide +kernel) (fun _ => ?_) (fun q => absurd c77 q) 
        refine V_msk [true, false, true, false, false, true, true] (lc' := [some (rv (8, 99) 135), none, some (iv x2), none, none, some (iv x5), some (iv x6)]) rfl ?_
        exact w_X8_isWay_146 hR K44 K98 hK44 hK98 x2 x5 x6 h5 e
      · refine V_icmp_eq 146 77 rfl (by decide +kernel) (fun q => absurd q c77) (fun _ => ?_)
        refine V_iconst (nI 1) 78 rfl ic_1 ?_
        refine V_goto 147 79 rfl (by decide +kernel) ?_
        refine V_msk [true, false, true, false, false, true, true] (lc' := [some (rv (8, 99) 135), none, some (iv x2), none, none, some (iv x5), some (iv x6)]) rfl ?_
        exact w_X8_isWay_147 hR K44 K98 hK44 hK98 x2 x5 x6 (nI 1) h5 e
set_option maxHeartbeats 4000000 in
theorem w_X8_isWay_87 {G : kG} {X : kX} {T : List kT} {r0 : Int32} {h0 : kH} (hR : k_R G M_X8_isWay X T 0 0 (some (iv r0)) h0) (K44 : Int32 × Int32 × Int32 × kH → Option (Int32 × kH)) (K53 : Int32 × Int32 × Int32 × Int32 × kH → Option (Int32 × kH)) (hK44 : ∀ (x2 : Int32) (x4 : Int32) (x5 : Int32) (h : kH), K44 (x2, x4, x5, h) = some (r0, h0) → V G M_X8_isWay X T 0 0 44 [some (rv (8, 99) 135), none, some (iv x2), none, some (iv x4), some (iv x5), none] [] h) (hK53 : ∀ (x2 : Int32) (x4 : Int32) (x5 : Int32) (x6 : Int32) (h : kH), K53 (x2, x4, x5, x6, h) = some (r0, h0) → V G M_X8_isWay X T 0 0 53 [some (rv (8, 99) 135), none, some (iv x2), none, some (iv x4), some (iv x5), some (iv x6)] [] h) (x2 : Int32) (x5 : Int32) (x6 : Int32) (s0 : Int32) (h : kH) (e : p_X8_isWay_87 K44 K53 x2 x5 x6 s0 h = some (r0, h0)) : V G M_X8_isWay X T 0 0 87 [some (rv (8, 99) 135), none, some (iv x2), none, none, some (iv x5), some (iv x6)] [iv s0] h := by
  unfold p_X8_isWay_87 at e
  refine V_istore 49 rfl (Nat.le_of_ble_eq_true rfl) rfl ?_
  show V G M_X8_isWay X T 0 0 89 [some (rv (8, 99) 135), none, some (iv x2), none, some (iv s0), some (iv x5), some (iv x6)] [] h
  refine V_iinc (x6 + (nI 1)) 50 rfl rfl (inc_1 _) (Nat.le_of_ble_eq_true rfl) rfl ?_
  show V G M_X8_isWay X T 0 0 92 [some (rv (8, 99) 135), none, some (iv x2), none, some (iv s0), some (iv x5), some (iv (x6 + (nI 1)))] [] h
  refine V_goto 53 51 rfl (by decide +kernel) ?_
  refine V_msk [true, false, true, false, true, true, true] (lc' := [some (rv (8, 99) 135), none, some (iv x2), none, some (iv s0), some (iv x5), some (iv (x6 + (nI 1)))]) rfl ?_
  exact hK53 x2 s0 x5 (x6 + (nI 1)) h e
set_option maxHeartbeats 4000000 in
theorem w_X8_isWay_86 {G : kG} {X : kX} {T : List kT} {r0 : Int32} {h0 : kH} (hR : k_R G M_X8_isWay X T 0 0 (some (iv r0)) h0) (K44 : Int32 × Int32 × Int32 × kH → Option (Int32 × kH)) (K53 : Int32 × Int32 × Int32 × Int32 × kH → Option (Int32 × kH)) (hK44 : ∀ (x2 : Int32) (x4 : Int32) (x5 : Int32) (h : kH), K44 (x2, x4, x5, h) = some (r0, h0) → V G M_X8_isWay X T 0 0 44 [some (rv (8, 99) 135), none, some (iv x2), none, some (iv x4), some (iv x5), none] [] h) (hK53 : ∀ (x2 : Int32) (x4 : Int32) (x5 : Int32) (x6 : Int32) (h : kH), K53 (x2, x4, x5, x6, h) = some (r0, h0) → V G M_X8_isWay X T 0 0 53 [some (rv (8, 99) 135), none, some (iv x2), none, some (iv x4), some (iv x5), some (iv x6)] [] h) (x2 : Int32) (x5 : Int32) (x6 : Int32) (h : kH) (e : p_X8_isWay_86 K44 K53 x2 x5 x6 h = some (r0, h0)) : V G M_X8_isWay X T 0 0 86 [some (rv (8, 99) 135), none, some (iv x2), none, none, some (iv x5), some (iv x6)] [] h := by
  unfold p_X8_isWay_86 at e
  refine V_iconst (nI 0) 48 rfl ic_0 ?_
  refine V_msk [true, false, true, false, false, true, true] (lc' := [some (rv (8, 99) 135), none, some (iv x2), none, none, some (iv x5), some (iv x6)]) rfl ?_
  exact w_X8_isWay_87 hR K44 K53 hK44 hK53 x2 x5 x6 (nI 0) h e
set_option maxHeartbeats 4000000 in
theorem w_X8_isWay_53 {G : kG} {X : kX} {T : List kT} {r0 : Int32} {h0 : kH} (hR : k_R G M_X8_isWay X T 0 0 (some (iv r0)) h0) (K44 : Int32 × Int32 × Int32 × kH → Option (Int32 × kH)) (K53 : Int32 × Int32 × Int32 × Int32 × kH → Option (Int32 × kH)) (hK44 : ∀ (x2 : Int32) (x4 : Int32) (x5 : Int32) (h : kH), K44 (x2, x4, x5, h) = some (r0, h0) → V G M_X8_isWay X T 0 0 44 [some (rv (8, 99) 135), none, some (iv x2), none, some (iv x4), some (iv x5), none] [] h) (hK53 : ∀ (x2 : Int32) (x4 : Int32) (x5 : Int32) (x6 : Int32) (h : kH), K53 (x2, x4, x5, x6, h) = some (r0, h0) → V G M_X8_isWay X T 0 0 53 [some (rv (8, 99) 135), none, some (iv x2), none, some (iv x4), some (iv x5), some (iv x6)] [] h) (x2 : Int32) (x4 : Int32) (x5 : Int32) (x6 : Int32) (h : kH) (e : p_X8_isWay_53 K44 K53 x2 x4 x5 x6 h = some (r0, h0)) : V G M_X8_isWay X T 0 0 53 [some (rv (8, 99) 135), none, some (iv x2), none, some (iv x4), some (iv x5), some (iv x6)] [] h := by
  unfold p_X8_isWay_53 at e
  refine V_iload 32 rfl rfl ?_
  refine V_iload 33 rfl rfl ?_
  rcases if_e e with ⟨c34, e⟩ | ⟨c34, e⟩
  · refine V_icmp_ge 95 34 rfl (by decide +kernel) (fun _ => ?_) (fun q => absurd c34 q) 
    refine V_iload_n 52 rfl rfl ?_
    refine V_istore 53 rfl (Nat.le_of_ble_eq_true rfl) rfl ?_
    show V G M_X8_isWay X T 0 0 98 [some (rv (8, 99) 135), none, some (iv x2), none, some (iv x4), some (iv x5), some (iv x2)] [] h
    refine V_msk [true, false, true, false, true, true, true] (lc' := [some (rv (8, 99) 135), none, some (iv x2), none, some (iv x4), some (iv x5), some (iv x2)]) rfl ?_
    exact fx_e (P := fun s => V G M_X8_isWay X T 0 0 98 [some (rv (8, 99) 135), none, some (iv s.1), none, some (iv s.2.1), some (iv s.2.2.1), some (iv s.2.2.2.1)] [] s.2.2.2.2) (fun K98 hK98 s e => w_X8_isWay_98 hR K44 K98 hK44 (fun x2 x4 x5 x6 h e => hK98 (x2, x4, x5, x6, h) e) s.1 s.2.1 s.2.2.1 s.2.2.2.1 s.2.2.2.2 e) FU (x2, x4, x5, x2, h) e
  · refine V_icmp_ge 95 34 rfl (by decide +kernel) (fun q => absurd q c34) (fun _ => ?_)
    refine V_iload 35 rfl rfl ?_
    rcases if_e e with ⟨c36, e⟩ | ⟨c36, e⟩
    · refine V_if_eq 86 36 rfl (by decide +kernel) (fun _ => ?_) (fun q => absurd c36 q) 
      refine V_msk [true, false, true, false, false, true, true] (lc' := [some (rv (8, 99) 135), none, some (iv x2), none, none, some (iv x5), some (iv x6)]) rfl ?_
      exact w_X8_isWay_86 hR K44 K53 hK44 hK53 x2 x5 x6 h e
    · refine V_if_eq 86 36 rfl (by decide +kernel) (fun q => absurd q c36) (fun _ => ?_)
      refine V_aload_n 37 rfl rfl ?_
      refine V_getR 148 38 rfl fr_RX8_48 ⟨Nat.le_of_ble_eq_true rfl, Or.inl (Nat.le_of_ble_eq_true rfl)⟩ rfl ?_
      refine V_iload 39 rfl rfl ?_
      obtain ⟨g9, e⟩ := gd_e e
      refine V_iald 40 rfl g9 ?_
      refine V_aload_n 41 rfl rfl ?_
      refine V_getR 148 42 rfl fr_RX8_48 ⟨Nat.le_of_ble_eq_true rfl, Or.inl (Nat.le_of_ble_eq_true rfl)⟩ rfl ?_
      refine V_iload 43 rfl rfl ?_
      obtain ⟨g10, e⟩ := gd_e e
      refine V_iald 44 rfl g10 ?_
      rcases if_e e with ⟨c45, e⟩ | ⟨c45, e⟩
      · refine V_icmp_eq 86 45 rfl (by decide +kernel) (fun _ => ?_) (fun q => absurd c45 q) 
        refine V_msk [true, false, true, false, false, true, true] (lc' := [some (rv (8, 99) 135), none, some (iv x2), none, none, some (iv x5), some (iv x6)]) rfl ?_
        exact w_X8_isWay_86 hR K44 K53 hK44 hK53 x2 x5 x6 h e
      · refine V_icmp_eq 86 45 rfl (by decide +kernel) (fun q => absurd q c45) (fun _ => ?_)
        refine V_iconst (nI 1) 46 rfl ic_1 ?_
        refine V_goto 87 47 rfl (by decide +kernel) ?_
        refine V_msk [true, false, true, false, false, true, true] (lc' := [some (rv (8, 99) 135), none, some (iv x2), none, none, some (iv x5), some (iv x6)]) rfl ?_
        exact w_X8_isWay_87 hR K44 K53 hK44 hK53 x2 x5 x6 (nI 1) h e
set_option maxHeartbeats 4000000 in
theorem w_X8_isWay_44 {G : kG} {X : kX} {T : List kT} {r0 : Int32} {h0 : kH} (hR : k_R G M_X8_isWay X T 0 0 (some (iv r0)) h0) (K44 : Int32 × Int32 × Int32 × kH → Option (Int32 × kH)) (hK44 : ∀ (x2 : Int32) (x4 : Int32) (x5 : Int32) (h : kH), K44 (x2, x4, x5, h) = some (r0, h0) → V G M_X8_isWay X T 0 0 44 [some (rv (8, 99) 135), none, some (iv x2), none, some (iv x4), some (iv x5), none] [] h) (x2 : Int32) (x4 : Int32) (x5 : Int32) (h : kH) (e : p_X8_isWay_44 K44 x2 x4 x5 h = some (r0, h0)) : V G M_X8_isWay X T 0 0 44 [some (rv (8, 99) 135), none, some (iv x2), none, some (iv x4), some (iv x5), none] [] h := by
  unfold p_X8_isWay_44 at e
  refine V_iload 27 rfl rfl ?_
  refine V_iload_n 28 rfl rfl ?_
  rcases if_e e with ⟨c29, e⟩ | ⟨c29, e⟩
  · refine V_icmp_ge 161 29 rfl (by decide +kernel) (fun _ => ?_) (fun q => absurd c29 q) 
    refine V_iload 86 rfl rfl ?_
    obtain ⟨g1, e⟩ := gd_e e
    cases e
    exact V_zret 87 rfl (of_decide_eq_true g1) hR rfl
  · refine V_icmp_ge 161 29 rfl (by decide +kernel) (fun q => absurd q c29) (fun _ => ?_)
    refine V_iconst (nI 0) 30 rfl ic_0 ?_
    refine V_istore 31 rfl (Nat.le_of_ble_eq_true rfl) rfl ?_
    show V G M_X8_isWay X T 0 0 53 [some (rv (8, 99) 135), none, some (iv x2), none, some (iv x4), some (iv x5), some (iv (nI 0))] [] h
    refine V_msk [true, false, true, false, true, true, true] (lc' := [some (rv (8, 99) 135), none, some (iv x2), none, some (iv x4), some (iv x5), some (iv (nI 0))]) rfl ?_
    exact fx_e (P := fun s => V G M_X8_isWay X T 0 0 53 [some (rv (8, 99) 135), none, some (iv s.1), none, some (iv s.2.1), some (iv s.2.2.1), some (iv s.2.2.2.1)] [] s.2.2.2.2) (fun K53 hK53 s e => w_X8_isWay_53 hR K44 K53 hK44 (fun x2 x4 x5 x6 h e => hK53 (x2, x4, x5, x6, h) e) s.1 s.2.1 s.2.2.1 s.2.2.2.1 s.2.2.2.2 e) FU (x2, x4, x5, (nI 0), h) e
set_option maxHeartbeats 4000000 in
theorem w_X8_isWay_10 {G : kG} {X : kX} {T : List kT} {r0 : Int32} {h0 : kH} (hR : k_R G M_X8_isWay X T 0 0 (some (iv r0)) h0) (K10 : Int32 × Int32 × Int32 × Int32 × kH → Option (Int32 × kH)) (hK10 : ∀ (x2 : Int32) (x3 : Int32) (x4 : Int32) (x5 : Int32) (h : kH), K10 (x2, x3, x4, x5, h) = some (r0, h0) → V G M_X8_isWay X T 0 0 10 [some (rv (8, 99) 135), none, some (iv x2), some (iv x3), some (iv x4), some (iv x5), none] [] h) (x2 : Int32) (x3 : Int32) (x4 : Int32) (x5 : Int32) (h : kH) (e : p_X8_isWay_10 K10 x2 x3 x4 x5 h = some (r0, h0)) : V G M_X8_isWay X T 0 0 10 [some (rv (8, 99) 135), none, some (iv x2), some (iv x3), some (iv x4), some (iv x5), none] [] h := by
  unfold p_X8_isWay_10 at e
  refine V_iload 8 rfl rfl ?_
  rcases if_e e with ⟨c9, e⟩ | ⟨c9, e⟩
  · refine V_if_lt 41 9 rfl (by decide +kernel) (fun _ => ?_) (fun q => absurd c9 q) 
    refine V_iconst (nI 0) 25 rfl ic_0 ?_
    refine V_istore 26 rfl (Nat.le_of_ble_eq_true rfl) rfl ?_
    show V G M_X8_isWay X T 0 0 44 [some (rv (8, 99) 135), none, some (iv x2), some (iv x3), some (iv x4), some (iv (nI 0)), none] [] h
    refine V_msk [true, false, true, false, true, true, false] (lc' := [some (rv (8, 99) 135), none, some (iv x2), none, some (iv x4), some (iv (nI 0)), none]) rfl ?_
    exact fx_e (P := fun s => V G M_X8_isWay X T 0 0 44 [some (rv (8, 99) 135), none, some (iv s.1), none, some (iv s.2.1), some (iv s.2.2.1), none] [] s.2.2.2) (fun K44 hK44 s e => w_X8_isWay_44 hR K44 (fun x2 x4 x5 h e => hK44 (x2, x4, x5, h) e) s.1 s.2.1 s.2.2.1 s.2.2.2 e) FU (x2, x4, (nI 0), h) e
  · refine V_if_lt 41 9 rfl (by decide +kernel) (fun q => absurd q c9) (fun _ => ?_)
    refine V_aload_n 10 rfl rfl ?_
    refine V_getR 148 11 rfl fr_RX8_48 ⟨Nat.le_of_ble_eq_true rfl, Or.inl (Nat.le_of_ble_eq_true rfl)⟩ rfl ?_
    refine V_iload 12 rfl rfl ?_
    refine V_iload_n 13 rfl rfl ?_
    refine V_aload_n 14 rfl rfl ?_
    refine V_getI 15 rfl fi_RX8_107 ?_
    obtain ⟨g11, e⟩ := gd_e e
    refine V_rem 16 rfl (of_decide_eq_true g11) ?_
    obtain ⟨g12, e⟩ := gd_e e
    refine V_iast 17 rfl g12 ?_
    refine le_V (P := fun h13 => V G M_X8_isWay X T 0 0 28 [some (rv (8, 99) 135), none, some (iv x2), some (iv x3), some (iv x4), some (iv x5), none] [] h13) e (fun h13 e => ?_)
    refine V_iload_n 18 rfl rfl ?_
    refine V_aload_n 19 rfl rfl ?_
    refine V_getI 20 rfl fi_RX8_107 ?_
    obtain ⟨g14, e⟩ := gd_e e
    refine V_idiv 21 rfl (of_decide_eq_true g14) ?_
    refine V_istore_n 22 rfl (Nat.le_of_ble_eq_true rfl) rfl ?_
    refine le_V (P := fun v15 => V G M_X8_isWay X T 0 0 35 [some (rv (8, 99) 135), none, some (iv x2), some (iv v15), some (iv x4), some (iv x5), none] [] h13) e (fun v15 e => ?_)
    refine V_iinc (x5 + (-1 : Int32)) 23 rfl rfl (inc_m1 _) (Nat.le_of_ble_eq_true rfl) rfl ?_
    show V G M_X8_isWay X T 0 0 38 [some (rv (8, 99) 135), none, some (iv x2), some (iv v15), some (iv x4), some (iv (x5 + (-1 : Int32))), none] [] h13
    refine V_goto 10 24 rfl (by decide +kernel) ?_
    refine V_msk [true, false, true, true, true, true, false] (lc' := [some (rv (8, 99) 135), none, some (iv x2), some (iv v15), some (iv x4), some (iv (x5 + (-1 : Int32))), none]) rfl ?_
    exact hK10 x2 v15 x4 (x5 + (-1 : Int32)) h13 e
set_option maxHeartbeats 4000000 in
theorem c_X8_isWay {G : kG} {T : List kT} {x1 : Int32} {x2 : Int32} {h : kH} {r0 : Int32} {h0 : kH} (e : p_X8_isWay x1 x2 h = some (r0, h0)) : k_C G M_X8_isWay T [rv (8, 99) 135, iv x1, iv x2] h (some (iv r0)) h0 := by
  refine k_C_of 4 (by decide +kernel) rfl tb_X8_isWay rfl (fun X hR => ?_)
  show V G M_X8_isWay X T 0 0 0 [some (rv (8, 99) 135), some (iv x1), some (iv x2), none, none, none, none] [] h
  unfold p_X8_isWay at e
  refine V_iload_n 0 rfl rfl ?_
  refine V_istore_n 1 rfl (Nat.le_of_ble_eq_true rfl) rfl ?_
  show V G M_X8_isWay X T 0 0 2 [some (rv (8, 99) 135), some (iv x1), some (iv x2), some (iv x1), none, none, none] [] h
  refine V_iconst (nI 1) 2 rfl ic_1 ?_
  refine V_istore 3 rfl (Nat.le_of_ble_eq_true rfl) rfl ?_
  show V G M_X8_isWay X T 0 0 5 [some (rv (8, 99) 135), some (iv x1), some (iv x2), some (iv x1), some (iv (nI 1)), none, none] [] h
  refine V_iload_n 4 rfl rfl ?_
  refine V_iconst (nI 1) 5 rfl ic_1 ?_
  refine V_isub 6 rfl ?_
  refine V_istore 7 rfl (Nat.le_of_ble_eq_true rfl) rfl ?_
  show V G M_X8_isWay X T 0 0 10 [some (rv (8, 99) 135), some (iv x1), some (iv x2), some (iv x1), some (iv (nI 1)), some (iv (x2 - (nI 1))), none] [] h
  refine V_msk [true, false, true, true, true, true, false] (lc' := [some (rv (8, 99) 135), none, some (iv x2), some (iv x1), some (iv (nI 1)), some (iv (x2 - (nI 1))), none]) rfl ?_
  exact fx_e (P := fun s => V G M_X8_isWay X T 0 0 10 [some (rv (8, 99) 135), none, some (iv s.1), some (iv s.2.1), some (iv s.2.2.1), some (iv s.2.2.2.1), none] [] s.2.2.2.2) (fun K10 hK10 s e => w_X8_isWay_10 hR K10 (fun x2 x3 x4 x5 h e => hK10 (x2, x3, x4, x5, h) e) s.1 s.2.1 s.2.2.1 s.2.2.2.1 s.2.2.2.2 e) FU (x2, x1, (nI 1), (x2 - (nI 1)), h) e
set_option maxHeartbeats 4000000 in
theorem w_X8_lies_201 {G : kG} {X : kX} {T : List kT} {r0 : Int32} {h0 : kH} (hR : k_R G M_X8_lies X T 0 0 (some (iv r0)) h0) (K82 : Int32 × Int32 × Int32 × Int32 × Int32 × Int32 × Int32 × kH → Option (Int32 × kH)) (hK82 : ∀ (x1 : Int32) (x2 : Int32) (x3 : Int32) (x4 : Int32) (x5 : Int32) (x6 : Int32) (x7 : Int32) (h : kH), K82 (x1, x2, x3, x4, x5, x6, x7, h) = some (r0, h0) → V G M_X8_lies X T 0 0 82 [some (rv (8, 99) 135), some (iv x1), some (iv x2), some (iv x3), some (iv x4), some (iv x5), some (iv x6), some (iv x7), none, none] [] h) (x1 : Int32) (x2 : Int32) (x3 : Int32) (x4 : Int32) (x5 : Int32) (x7 : Int32) (s0 : Int32) (h : kH) (e : p_X8_lies_201 K82 x1 x2 x3 x4 x5 x7 s0 h = some (r0, h0)) : V G M_X8_lies X T 0 0 201 [some (rv (8, 99) 135), some (iv x1), some (iv x2), some (iv x3), some (iv x4), some (iv x5), none, some (iv x7), none, none] [iv s0] h := by
  unfold p_X8_lies_201 at e
  refine V_istore 106 rfl (Nat.le_of_ble_eq_true rfl) rfl ?_
  show V G M_X8_lies X T 0 0 203 [some (rv (8, 99) 135), some (iv x1), some (iv x2), some (iv x3), some (iv x4), some (iv x5), some (iv s0), some (iv x7), none, none] [] h
  refine V_iinc (x7 + (nI 1)) 107 rfl rfl (inc_1 _) (Nat.le_of_ble_eq_true rfl) rfl ?_
  show V G M_X8_lies X T 0 0 206 [some (rv (8, 99) 135), some (iv x1), some (iv x2), some (iv x3), some (iv x4), some (iv x5), some (iv s0), some (iv (x7 + (nI 1))), none, none] [] h
  refine V_goto 82 108 rfl (by decide +kernel) ?_
  refine V_msk [true, true, true, true, true, true, true, true, false, false] (lc' := [some (rv (8, 99) 135), some (iv x1), some (iv x2), some (iv x3), some (iv x4), some (iv x5), some (iv s0), some (iv (x7 + (nI 1))), none, none]) rfl ?_
  exact hK82 x1 x2 x3 x4 x5 s0 (x7 + (nI 1)) h e
set_option maxHeartbeats 4000000 in
theorem w_X8_lies_187 {G : kG} {X : kX} {T : List kT} {r0 : Int32} {h0 : kH} (hR : k_R G M_X8_lies X T 0 0 (some (iv r0)) h0) (K82 : Int32 × Int32 × Int32 × Int32 × Int32 × Int32 × Int32 × kH → Option (Int32 × kH)) (hK82 : ∀ (x1 : Int32) (x2 : Int32) (x3 : Int32) (x4 : Int32) (x5 : Int32) (x6 : Int32) (x7 : Int32) (h : kH), K82 (x1, x2, x3, x4, x5, x6, x7, h) = some (r0, h0) → V G M_X8_lies X T 0 0 82 [some (rv (8, 99) 135), some (iv x1), some (iv x2), some (iv x3), some (iv x4), some (iv x5), some (iv x6), some (iv x7), none, none] [] h) (x1 : Int32) (x2 : Int32) (x3 : Int32) (x4 : Int32) (x5 : Int32) (x6 : Int32) (x7 : Int32) (x8 : Int32) (h : kH) (e : p_X8_lies_187 K82 x1 x2 x3 x4 x5 x6 x7 x8 h = some (r0, h0)) : V G M_X8_lies X T 0 0 187 [some (rv (8, 99) 135), some (iv x1), some (iv x2), some (iv x3), some (iv x4), some (iv x5), some (iv x6), some (iv x7), some (iv x8), none] [] h := by
  unfold p_X8_lies_187 at e
  refine V_iload 100 rfl rfl ?_
  refine V_iload 101 rfl rfl ?_
  rcases if_e e with ⟨c102, e⟩ | ⟨c102, e⟩
  · refine V_icmp_le 199 102 rfl (by decide +kernel) (fun _ => ?_) (fun q => absurd c102 q) 
    refine V_iload 105 rfl rfl ?_
    refine V_msk [true, true, true, true, true, true, false, true, false, false] (lc' := [some (rv (8, 99) 135), some (iv x1), some (iv x2), some (iv x3), some (iv x4), some (iv x5), none, some (iv x7), none, none]) rfl ?_
    exact w_X8_lies_201 hR K82 hK82 x1 x2 x3 x4 x5 x7 x6 h e
  · refine V_icmp_le 199 102 rfl (by decide +kernel) (fun q => absurd q c102) (fun _ => ?_)
    refine V_iload 103 rfl rfl ?_
    refine V_goto 201 104 rfl (by decide +kernel) ?_
    refine V_msk [true, true, true, true, true, true, false, true, false, false] (lc' := [some (rv (8, 99) 135), some (iv x1), some (iv x2), some (iv x3), some (iv x4), some (iv x5), none, some (iv x7), none, none]) rfl ?_
    exact w_X8_lies_201 hR K82 hK82 x1 x2 x3 x4 x5 x7 x8 h e
set_option maxHeartbeats 4000000 in
theorem w_X8_lies_154 {G : kG} {X : kX} {T : List kT} {r0 : Int32} {h0 : kH} (hR : k_R G M_X8_lies X T 0 0 (some (iv r0)) h0) (K82 : Int32 × Int32 × Int32 × Int32 × Int32 × Int32 × Int32 × kH → Option (Int32 × kH)) (K154 : Int32 × Int32 × Int32 × Int32 × Int32 × Int32 × Int32 × Int32 × Int32 × kH → Option (Int32 × kH)) (hK82 : ∀ (x1 : Int32) (x2 : Int32) (x3 : Int32) (x4 : Int32) (x5 : Int32) (x6 : Int32) (x7 : Int32) (h : kH), K82 (x1, x2, x3, x4, x5, x6, x7, h) = some (r0, h0) → V G M_X8_lies X T 0 0 82 [some (rv (8, 99) 135), some (iv x1), some (iv x2), some (iv x3), some (iv x4), some (iv x5), some (iv x6), some (iv x7), none, none] [] h) (hK154 : ∀ (x1 : Int32) (x2 : Int32) (x3 : Int32) (x4 : Int32) (x5 : Int32) (x6 : Int32) (x7 : Int32) (x8 : Int32) (x9 : Int32) (h : kH), K154 (x1, x2, x3, x4, x5, x6, x7, x8, x9, h) = some (r0, h0) → V G M_X8_lies X T 0 0 154 [some (rv (8, 99) 135), some (iv x1), some (iv x2), some (iv x3), some (iv x4), some (iv x5), some (iv x6), some (iv x7), some (iv x8), some (iv x9)] [] h) (x1 : Int32) (x2 : Int32) (x3 : Int32) (x4 : Int32) (x5 : Int32) (x6 : Int32) (x7 : Int32) (x8 : Int32) (x9 : Int32) (h : kH) (e : p_X8_lies_154 K82 K154 x1 x2 x3 x4 x5 x6 x7 x8 x9 h = some (r0, h0)) : V G M_X8_lies X T 0 0 154 [some (rv (8, 99) 135), some (iv x1), some (iv x2), some (iv x3), some (iv x4), some (iv x5), some (iv x6), some (iv x7), some (iv x8), some (iv x9)] [] h := by
  unfold p_X8_lies_154 at e
  refine V_iload 84 rfl rfl ?_
  refine V_iload_n 85 rfl rfl ?_
  rcases if_e e with ⟨c86, e⟩ | ⟨c86, e⟩
  · refine V_icmp_ge 187 86 rfl (by decide +kernel) (fun _ => ?_) (fun q => absurd c86 q) 
    refine V_msk [true, true, true, true, true, true, true, true, true, false] (lc' := [some (rv (8, 99) 135), some (iv x1), some (iv x2), some (iv x3), some (iv x4), some (iv x5), some (iv x6), some (iv x7), some (iv x8), none]) rfl ?_
    exact w_X8_lies_187 hR K82 hK82 x1 x2 x3 x4 x5 x6 x7 x8 h e
  · refine V_icmp_ge 187 86 rfl (by decide +kernel) (fun q => absurd q c86) (fun _ => ?_)
    refine V_iload 87 rfl rfl ?_
    refine V_iload 88 rfl rfl ?_
    rcases if_e e with ⟨c89, e⟩ | ⟨c89, e⟩
    · refine V_icmp_le 187 89 rfl (by decide +kernel) (fun _ => ?_) (fun q => absurd c89 q) 
      refine V_msk [true, true, true, true, true, true, true, true, true, false] (lc' := [some (rv (8, 99) 135), some (iv x1), some (iv x2), some (iv x3), some (iv x4), some (iv x5), some (iv x6), some (iv x7), some (iv x8), none]) rfl ?_
      exact w_X8_lies_187 hR K82 hK82 x1 x2 x3 x4 x5 x6 x7 x8 h e
    · refine V_icmp_le 187 89 rfl (by decide +kernel) (fun q => absurd q c89) (fun _ => ?_)
      refine V_aload_n 90 rfl rfl ?_
      refine V_getR 149 91 rfl fr_RX8_51 ⟨Nat.le_of_ble_eq_true rfl, Or.inl (Nat.le_of_ble_eq_true rfl)⟩ rfl ?_
      refine V_iload 92 rfl rfl ?_
      refine V_aload_n 93 rfl rfl ?_
      refine V_getR 148 94 rfl fr_RX8_48 ⟨Nat.le_of_ble_eq_true rfl, Or.inl (Nat.le_of_ble_eq_true rfl)⟩ rfl ?_
      refine V_iload 95 rfl rfl ?_
      obtain ⟨g20, e⟩ := gd_e e
      refine V_iald 96 rfl g20 ?_
      refine V_iast 97 rfl g20 ?_
      refine le_V (P := fun h21 => V G M_X8_lies X T 0 0 181 [some (rv (8, 99) 135), some (iv x1), some (iv x2), some (iv x3), some (iv x4), some (iv x5), some (iv x6), some (iv x7), some (iv x8), some (iv x9)] [] h21) e (fun h21 e => ?_)
      refine V_iinc (x9 + (nI 1)) 98 rfl rfl (inc_1 _) (Nat.le_of_ble_eq_true rfl) rfl ?_
      show V G M_X8_lies X T 0 0 184 [some (rv (8, 99) 135), some (iv x1), some (iv x2), some (iv x3), some (iv x4), some (iv x5), some (iv x6), some (iv x7), some (iv x8), some (iv (x9 + (nI 1)))] [] h21
      refine V_goto 154 99 rfl (by decide +kernel) ?_
      refine V_msk [true, true, true, true, true, true, true, true, true, true] (lc' := [some (rv (8, 99) 135), some (iv x1), some (iv x2), some (iv x3), some (iv x4), some (iv x5), some (iv x6), some (iv x7), some (iv x8), some (iv (x9 + (nI 1)))]) rfl ?_
      exact hK154 x1 x2 x3 x4 x5 x6 x7 x8 (x9 + (nI 1)) h21 e
set_option maxHeartbeats 4000000 in
theorem w_X8_lies_106 {G : kG} {X : kX} {T : List kT} {r0 : Int32} {h0 : kH} (hR : k_R G M_X8_lies X T 0 0 (some (iv r0)) h0) (K82 : Int32 × Int32 × Int32 × Int32 × Int32 × Int32 × Int32 × kH → Option (Int32 × kH)) (K106 : Int32 × Int32 × Int32 × Int32 × Int32 × Int32 × Int32 × Int32 × kH → Option (Int32 × kH)) (hK82 : ∀ (x1 : Int32) (x2 : Int32) (x3 : Int32) (x4 : Int32) (x5 : Int32) (x6 : Int32) (x7 : Int32) (h : kH), K82 (x1, x2, x3, x4, x5, x6, x7, h) = some (r0, h0) → V G M_X8_lies X T 0 0 82 [some (rv (8, 99) 135), some (iv x1), some (iv x2), some (iv x3), some (iv x4), some (iv x5), some (iv x6), some (iv x7), none, none] [] h) (hK106 : ∀ (x1 : Int32) (x2 : Int32) (x3 : Int32) (x4 : Int32) (x5 : Int32) (x6 : Int32) (x7 : Int32) (x8 : Int32) (h : kH), K106 (x1, x2, x3, x4, x5, x6, x7, x8, h) = some (r0, h0) → V G M_X8_lies X T 0 0 106 [some (rv (8, 99) 135), some (iv x1), some (iv x2), some (iv x3), some (iv x4), some (iv x5), some (iv x6), some (iv x7), some (iv x8), none] [] h) (x1 : Int32) (x2 : Int32) (x3 : Int32) (x4 : Int32) (x5 : Int32) (x6 : Int32) (x7 : Int32) (x8 : Int32) (h : kH) (e : p_X8_lies_106 K82 K106 x1 x2 x3 x4 x5 x6 x7 x8 h = some (r0, h0)) : V G M_X8_lies X T 0 0 106 [some (rv (8, 99) 135), some (iv x1), some (iv x2), some (iv x3), some (iv x4), some (iv x5), some (iv x6), some (iv x7), some (iv x8), none] [] h := by
  unfold p_X8_lies_106 at e
  refine V_iload 57 rfl rfl ?_
  refine V_iload_n 58 rfl rfl ?_
  rcases if_e e with ⟨c59, e⟩ | ⟨c59, e⟩
  · refine V_icmp_ge 143 59 rfl (by decide +kernel) (fun _ => ?_) (fun q => absurd c59 q) 
    refine V_aload_n 77 rfl rfl ?_
    refine V_iload_n 78 rfl rfl ?_
    refine V_iload_n 79 rfl rfl ?_
    obtain ⟨v19, h17, d18, e⟩ := bd2_e e
    refine V_callV (N := M_X8_runs) (av := [iv x2, iv x3]) (st := []) (r := some (iv v19)) (h' := h17) 80 rfl (c_X8_runs d18) g_X8_runs gv_X8_runs lk_RX8_193 ⟨Nat.le_of_ble_eq_true rfl, Nat.le_of_ble_eq_true rfl⟩ rfl rfl (Nat.le_of_ble_eq_true rfl) ⟨Nat.zero_le _, Nat.zero_le _⟩ ?_
    show V G M_X8_lies X T 0 0 149 [some (rv (8, 99) 135), some (iv x1), some (iv x2), some (iv x3), some (iv x4), some (iv x5), some (iv x6), some (iv x7), some (iv x8), none] [iv v19] h17
    refine V_istore 81 rfl (Nat.le_of_ble_eq_true rfl) rfl ?_
    show V G M_X8_lies X T 0 0 151 [some (rv (8, 99) 135), some (iv x1), some (iv x2), some (iv x3), some (iv x4), some (iv x5), some (iv x6), some (iv x7), some (iv v19), none] [] h17
    refine V_iconst (nI 0) 82 rfl ic_0 ?_
    refine V_istore 83 rfl (Nat.le_of_ble_eq_true rfl) rfl ?_
    show V G M_X8_lies X T 0 0 154 [some (rv (8, 99) 135), some (iv x1), some (iv x2), some (iv x3), some (iv x4), some (iv x5), some (iv x6), some (iv x7), some (iv v19), some (iv (nI 0))] [] h17
    refine V_msk [true, true, true, true, true, true, true, true, true, true] (lc' := [some (rv (8, 99) 135), some (iv x1), some (iv x2), some (iv x3), some (iv x4), some (iv x5), some (iv x6), some (iv x7), some (iv v19), some (iv (nI 0))]) rfl ?_
    exact fx_e (P := fun s => V G M_X8_lies X T 0 0 154 [some (rv (8, 99) 135), some (iv s.1), some (iv s.2.1), some (iv s.2.2.1), some (iv s.2.2.2.1), some (iv s.2.2.2.2.1), some (iv s.2.2.2.2.2.1), some (iv s.2.2.2.2.2.2.1), some (iv s.2.2.2.2.2.2.2.1), some (iv s.2.2.2.2.2.2.2.2.1)] [] s.2.2.2.2.2.2.2.2.2) (fun K154 hK154 s e => w_X8_lies_154 hR K82 K154 hK82 (fun x1 x2 x3 x4 x5 x6 x7 x8 x9 h e => hK154 (x1, x2, x3, x4, x5, x6, x7, x8, x9, h) e) s.1 s.2.1 s.2.2.1 s.2.2.2.1 s.2.2.2.2.1 s.2.2.2.2.2.1 s.2.2.2.2.2.2.1 s.2.2.2.2.2.2.2.1 s.2.2.2.2.2.2.2.2.1 s.2.2.2.2.2.2.2.2.2 e) FU (x1, x2, x3, x4, x5, x6, x7, v19, (nI 0), h17) e
  · refine V_icmp_ge 143 59 rfl (by decide +kernel) (fun q => absurd q c59) (fun _ => ?_)
    refine V_aload_n 60 rfl rfl ?_
    refine V_getR 143 61 rfl fr_RX8_32 ⟨Nat.le_of_ble_eq_true rfl, Or.inl (Nat.le_of_ble_eq_true rfl)⟩ rfl ?_
    refine V_iconst (nI 3) 62 rfl ic_3 ?_
    refine V_iload 63 rfl rfl ?_
    obtain ⟨v24, h22, d23, e⟩ := bd2_e e
    refine V_callS (N := M_X8_potAt) (av := [iv (nI 3), iv x8]) (st := [rv (9, 800) 143]) (r := some (iv v24)) (h' := h22) 64 rfl (c_X8_potAt d23) g_X8_potAt gs_X8_potAt lk_RX8_120 ⟨Nat.le_of_ble_eq_true rfl, Nat.le_of_ble_eq_true rfl⟩ rfl (Nat.le_of_ble_eq_true rfl) ⟨Nat.zero_le _, Nat.zero_le _⟩ ?_
    show V G M_X8_lies X T 0 0 122 [some (rv (8, 99) 135), some (iv x1), some (iv x2), some (iv x3), some (iv x4), some (iv x5), some (iv x6), some (iv x7), some (iv x8), none] [iv v24, rv (9, 800) 143] h22
    refine V_iconst (nI 0) 65 rfl ic_0 ?_
    refine V_iadd 66 rfl ?_
    refine V_aload_n 67 rfl rfl ?_
    refine V_getR 144 68 rfl fr_RX8_35 ⟨Nat.le_of_ble_eq_true rfl, Or.inl (Nat.le_of_ble_eq_true rfl)⟩ rfl ?_
    refine V_aload_n 69 rfl rfl ?_
    refine V_getR 148 70 rfl fr_RX8_48 ⟨Nat.le_of_ble_eq_true rfl, Or.inl (Nat.le_of_ble_eq_true rfl)⟩ rfl ?_
    refine V_iload 71 rfl rfl ?_
    obtain ⟨g25, e⟩ := gd_e e
    refine V_iald 72 rfl g25 ?_
    obtain ⟨g26, e⟩ := gd_e e
    refine V_iald 73 rfl g26 ?_
    obtain ⟨g27, e⟩ := gd_e e
    refine V_iast 74 rfl g27 ?_
    refine le_V (P := fun h28 => V G M_X8_lies X T 0 0 137 [some (rv (8, 99) 135), some (iv x1), some (iv x2), some (iv x3), some (iv x4), some (iv x5), some (iv x6), some (iv x7), some (iv x8), none] [] h28) e (fun h28 e => ?_)
    refine V_iinc (x8 + (nI 1)) 75 rfl rfl (inc_1 _) (Nat.le_of_ble_eq_true rfl) rfl ?_
    show V G M_X8_lies X T 0 0 140 [some (rv (8, 99) 135), some (iv x1), some (iv x2), some (iv x3), some (iv x4), some (iv x5), some (iv x6), some (iv x7), some (iv (x8 + (nI 1))), none] [] h28
    refine V_goto 106 76 rfl (by decide +kernel) ?_
    refine V_msk [true, true, true, true, true, true, true, true, true, false] (lc' := [some (rv (8, 99) 135), some (iv x1), some (iv x2), some (iv x3), some (iv x4), some (iv x5), some (iv x6), some (iv x7), some (iv (x8 + (nI 1))), none]) rfl ?_
    exact hK106 x1 x2 x3 x4 x5 x6 x7 (x8 + (nI 1)) h28 e
set_option maxHeartbeats 4000000 in
theorem w_X8_lies_82 {G : kG} {X : kX} {T : List kT} {r0 : Int32} {h0 : kH} (hR : k_R G M_X8_lies X T 0 0 (some (iv r0)) h0) (K82 : Int32 × Int32 × Int32 × Int32 × Int32 × Int32 × Int32 × kH → Option (Int32 × kH)) (hK82 : ∀ (x1 : Int32) (x2 : Int32) (x3 : Int32) (x4 : Int32) (x5 : Int32) (x6 : Int32) (x7 : Int32) (h : kH), K82 (x1, x2, x3, x4, x5, x6, x7, h) = some (r0, h0) → V G M_X8_lies X T 0 0 82 [some (rv (8, 99) 135), some (iv x1), some (iv x2), some (iv x3), some (iv x4), some (iv x5), some (iv x6), some (iv x7), none, none] [] h) (x1 : Int32) (x2 : Int32) (x3 : Int32) (x4 : Int32) (x5 : Int32) (x6 : Int32) (x7 : Int32) (h : kH) (e : p_X8_lies_82 K82 x1 x2 x3 x4 x5 x6 x7 h = some (r0, h0)) : V G M_X8_lies X T 0 0 82 [some (rv (8, 99) 135), some (iv x1), some (iv x2), some (iv x3), some (iv x4), some (iv x5), some (iv x6), some (iv x7), none, none] [] h := by
  unfold p_X8_lies_82 at e
  refine V_iload 45 rfl rfl ?_
  refine V_iload 46 rfl rfl ?_
  rcases if_e e with ⟨c47, e⟩ | ⟨c47, e⟩
  · refine V_icmp_ge 209 47 rfl (by decide +kernel) (fun _ => ?_) (fun q => absurd c47 q) 
    refine V_iload 109 rfl rfl ?_
    rcases if_e e with ⟨c110, e⟩ | ⟨c110, e⟩
    · refine V_if_lt 219 110 rfl (by decide +kernel) (fun _ => ?_) (fun q => absurd c110 q) 
      refine V_iload 113 rfl rfl ?_
      refine V_goto 231 114 rfl (by decide +kernel) ?_
      cases e
      exact V_iret 119 rfl hR rfl
    · refine V_if_lt 219 110 rfl (by decide +kernel) (fun q => absurd q c110) (fun _ => ?_)
      refine V_iload 111 rfl rfl ?_
      rcases if_e e with ⟨c112, e⟩ | ⟨c112, e⟩
      · refine V_if_ge 224 112 rfl (by decide +kernel) (fun _ => ?_) (fun q => absurd c112 q) 
        refine V_aload_n 115 rfl rfl ?_
        refine V_getR 149 116 rfl fr_RX8_51 ⟨Nat.le_of_ble_eq_true rfl, Or.inl (Nat.le_of_ble_eq_true rfl)⟩ rfl ?_
        refine V_iload 117 rfl rfl ?_
        obtain ⟨g11, e⟩ := gd_e e
        refine V_iald 118 rfl g11 ?_
        cases e
        exact V_iret 119 rfl hR rfl
      · refine V_if_ge 224 112 rfl (by decide +kernel) (fun q => absurd q c112) (fun _ => ?_)
        refine V_iload 113 rfl rfl ?_
        refine V_goto 231 114 rfl (by decide +kernel) ?_
        cases e
        exact V_iret 119 rfl hR rfl
  · refine V_icmp_ge 209 47 rfl (by decide +kernel) (fun q => absurd q c47) (fun _ => ?_)
    refine V_aload_n 48 rfl rfl ?_
    refine V_iload 49 rfl rfl ?_
    refine V_iload_n 50 rfl rfl ?_
    obtain ⟨v14, h12, d13, e⟩ := bd2_e e
    refine V_callV (N := M_X8_isWay) (av := [iv x7, iv x1]) (st := []) (r := some (iv v14)) (h' := h12) 51 rfl (c_X8_isWay d13) g_X8_isWay gv_X8_isWay lk_RX8_201 ⟨Nat.le_of_ble_eq_true rfl, Nat.le_of_ble_eq_true rfl⟩ rfl rfl (Nat.le_of_ble_eq_true rfl) ⟨Nat.zero_le _, Nat.zero_le _⟩ ?_
    show V G M_X8_lies X T 0 0 96 [some (rv (8, 99) 135), some (iv x1), some (iv x2), some (iv x3), some (iv x4), some (iv x5), some (iv x6), some (iv x7), none, none] [iv v14] h12
    rcases if_e e with ⟨c52, e⟩ | ⟨c52, e⟩
    · refine V_if_eq 203 52 rfl (by decide +kernel) (fun _ => ?_) (fun q => absurd c52 q) 
      refine V_iinc (x7 + (nI 1)) 107 rfl rfl (inc_1 _) (Nat.le_of_ble_eq_true rfl) rfl ?_
      show V G M_X8_lies X T 0 0 206 [some (rv (8, 99) 135), some (iv x1), some (iv x2), some (iv x3), some (iv x4), some (iv x5), some (iv x6), some (iv (x7 + (nI 1))), none, none] [] h12
      refine V_goto 82 108 rfl (by decide +kernel) ?_
      refine V_msk [true, true, true, true, true, true, true, true, false, false] (lc' := [some (rv (8, 99) 135), some (iv x1), some (iv x2), some (iv x3), some (iv x4), some (iv x5), some (iv x6), some (iv (x7 + (nI 1))), none, none]) rfl ?_
      exact hK82 x1 x2 x3 x4 x5 x6 (x7 + (nI 1)) h12 e
    · refine V_if_eq 203 52 rfl (by decide +kernel) (fun q => absurd q c52) (fun _ => ?_)
      refine V_aload_n 53 rfl rfl ?_
      obtain ⟨h15, d16, e⟩ := bd_e e
      refine V_callV (N := M_X8_tries) (av := []) (st := []) (r := none) (h' := h15) 54 rfl (c_X8_tries d16) g_X8_tries gv_X8_tries lk_RX8_190 ⟨Nat.le_of_ble_eq_true rfl, Nat.le_of_ble_eq_true rfl⟩ rfl rfl (Nat.le_of_ble_eq_true rfl) ⟨Nat.zero_le _, Nat.zero_le _⟩ ?_
      show V G M_X8_lies X T 0 0 103 [some (rv (8, 99) 135), some (iv x1), some (iv x2), some (iv x3), some (iv x4), some (iv x5), some (iv x6), some (iv x7), none, none] [] h15
      refine V_iconst (nI 0) 55 rfl ic_0 ?_
      refine V_istore 56 rfl (Nat.le_of_ble_eq_true rfl) rfl ?_
      show V G M_X8_lies X T 0 0 106 [some (rv (8, 99) 135), some (iv x1), some (iv x2), some (iv x3), some (iv x4), some (iv x5), some (iv x6), some (iv x7), some (iv (nI 0)), none] [] h15
      refine V_msk [true, true, true, true, true, true, true, true, true, false] (lc' := [some (rv (8, 99) 135), some (iv x1), some (iv x2), some (iv x3), some (iv x4), some (iv x5), some (iv x6), some (iv x7), some (iv (nI 0)), none]) rfl ?_
      exact fx_e (P := fun s => V G M_X8_lies X T 0 0 106 [some (rv (8, 99) 135), some (iv s.1), some (iv s.2.1), some (iv s.2.2.1), some (iv s.2.2.2.1), some (iv s.2.2.2.2.1), some (iv s.2.2.2.2.2.1), some (iv s.2.2.2.2.2.2.1), some (iv s.2.2.2.2.2.2.2.1), none] [] s.2.2.2.2.2.2.2.2) (fun K106 hK106 s e => w_X8_lies_106 hR K82 K106 hK82 (fun x1 x2 x3 x4 x5 x6 x7 x8 h e => hK106 (x1, x2, x3, x4, x5, x6, x7, x8, h) e) s.1 s.2.1 s.2.2.1 s.2.2.2.1 s.2.2.2.2.1 s.2.2.2.2.2.1 s.2.2.2.2.2.2.1 s.2.2.2.2.2.2.2.1 s.2.2.2.2.2.2.2.2 e) FU (x1, x2, x3, x4, x5, x6, x7, (nI 0), h15) e
set_option maxHeartbeats 4000000 in
theorem w_X8_lies_54 {G : kG} {X : kX} {T : List kT} {r0 : Int32} {h0 : kH} (hR : k_R G M_X8_lies X T 0 0 (some (iv r0)) h0) (K54 : Int32 × Int32 × Int32 × Int32 × Int32 × Int32 × kH → Option (Int32 × kH)) (hK54 : ∀ (x1 : Int32) (x2 : Int32) (x3 : Int32) (x4 : Int32) (x5 : Int32) (x6 : Int32) (h : kH), K54 (x1, x2, x3, x4, x5, x6, h) = some (r0, h0) → V G M_X8_lies X T 0 0 54 [some (rv (8, 99) 135), some (iv x1), some (iv x2), some (iv x3), some (iv x4), some (iv x5), some (iv x6), none, none, none] [] h) (x1 : Int32) (x2 : Int32) (x3 : Int32) (x4 : Int32) (x5 : Int32) (x6 : Int32) (h : kH) (e : p_X8_lies_54 K54 x1 x2 x3 x4 x5 x6 h = some (r0, h0)) : V G M_X8_lies X T 0 0 54 [some (rv (8, 99) 135), some (iv x1), some (iv x2), some (iv x3), some (iv x4), some (iv x5), some (iv x6), none, none, none] [] h := by
  unfold p_X8_lies_54 at e
  refine V_iload 31 rfl rfl ?_
  refine V_iload_n 32 rfl rfl ?_
  rcases if_e e with ⟨c33, e⟩ | ⟨c33, e⟩
  · refine V_icmp_ge 75 33 rfl (by decide +kernel) (fun _ => ?_) (fun q => absurd c33 q) 
    refine V_bipush (-4 : Int32) 41 rfl bp_m4 ?_
    refine V_istore 42 rfl (Nat.le_of_ble_eq_true rfl) rfl ?_
    show V G M_X8_lies X T 0 0 79 [some (rv (8, 99) 135), some (iv x1), some (iv x2), some (iv x3), some (iv x4), some (iv x5), some (iv (-4 : Int32)), none, none, none] [] h
    refine V_iconst (nI 0) 43 rfl ic_0 ?_
    refine V_istore 44 rfl (Nat.le_of_ble_eq_true rfl) rfl ?_
    show V G M_X8_lies X T 0 0 82 [some (rv (8, 99) 135), some (iv x1), some (iv x2), some (iv x3), some (iv x4), some (iv x5), some (iv (-4 : Int32)), some (iv (nI 0)), none, none] [] h
    refine V_msk [true, true, true, true, true, true, true, true, false, false] (lc' := [some (rv (8, 99) 135), some (iv x1), some (iv x2), some (iv x3), some (iv x4), some (iv x5), some (iv (-4 : Int32)), some (iv (nI 0)), none, none]) rfl ?_
    exact fx_e (P := fun s => V G M_X8_lies X T 0 0 82 [some (rv (8, 99) 135), some (iv s.1), some (iv s.2.1), some (iv s.2.2.1), some (iv s.2.2.2.1), some (iv s.2.2.2.2.1), some (iv s.2.2.2.2.2.1), some (iv s.2.2.2.2.2.2.1), none, none] [] s.2.2.2.2.2.2.2) (fun K82 hK82 s e => w_X8_lies_82 hR K82 (fun x1 x2 x3 x4 x5 x6 x7 h e => hK82 (x1, x2, x3, x4, x5, x6, x7, h) e) s.1 s.2.1 s.2.2.1 s.2.2.2.1 s.2.2.2.2.1 s.2.2.2.2.2.1 s.2.2.2.2.2.2.1 s.2.2.2.2.2.2.2 e) FU (x1, x2, x3, x4, x5, (-4 : Int32), (nI 0), h) e
  · refine V_icmp_ge 75 33 rfl (by decide +kernel) (fun q => absurd q c33) (fun _ => ?_)
    refine V_iload 34 rfl rfl ?_
    refine V_aload_n 35 rfl rfl ?_
    refine V_getI 36 rfl fi_RX8_107 ?_
    refine V_imul 37 rfl ?_
    refine V_istore 38 rfl (Nat.le_of_ble_eq_true rfl) rfl ?_
    refine le_V (P := fun v29 => V G M_X8_lies X T 0 0 69 [some (rv (8, 99) 135), some (iv x1), some (iv x2), some (iv x3), some (iv x4), some (iv v29), some (iv x6), none, none, none] [] h) e (fun v29 e => ?_)
    refine V_iinc (x6 + (nI 1)) 39 rfl rfl (inc_1 _) (Nat.le_of_ble_eq_true rfl) rfl ?_
    show V G M_X8_lies X T 0 0 72 [some (rv (8, 99) 135), some (iv x1), some (iv x2), some (iv x3), some (iv x4), some (iv v29), some (iv (x6 + (nI 1))), none, none, none] [] h
    refine V_goto 54 40 rfl (by decide +kernel) ?_
    refine V_msk [true, true, true, true, true, true, true, false, false, false] (lc' := [some (rv (8, 99) 135), some (iv x1), some (iv x2), some (iv x3), some (iv x4), some (iv v29), some (iv (x6 + (nI 1))), none, none, none]) rfl ?_
    exact hK54 x1 x2 x3 x4 v29 (x6 + (nI 1)) h e
set_option maxHeartbeats 4000000 in
theorem c_X8_lies {G : kG} {T : List kT} {x1 : Int32} {x2 : Int32} {x3 : Int32} {x4 : Int32} {h : kH} {r0 : Int32} {h0 : kH} (e : p_X8_lies x1 x2 x3 x4 h = some (r0, h0)) : k_C G M_X8_lies T [rv (8, 99) 135, iv x1, iv x2, iv x3, iv x4] h (some (iv r0)) h0 := by
  refine k_C_of 5 (by decide +kernel) rfl tb_X8_lies rfl (fun X hR => ?_)
  show V G M_X8_lies X T 0 0 0 [some (rv (8, 99) 135), some (iv x1), some (iv x2), some (iv x3), some (iv x4), none, none, none, none, none] [] h
  unfold p_X8_lies at e
  refine V_iload_n 0 rfl rfl ?_
  refine V_i2l 1 rfl ?_
  refine V_lconst (1 : Int64) 2 rfl rfl ?_
  refine V_ldc2 (4 : Int64) 3 rfl kl_RX8_185 ?_
  obtain ⟨v3, h1, d2, e⟩ := bd2_e e
  refine V_callS (N := M_X8_in) (av := [jv (x1).toInt64, jv (1 : Int64), jv (4 : Int64)]) (st := []) (r := some (iv v3)) (h' := h1) 4 rfl (c_X8_in d2) g_X8_in gs_X8_in lk_RX8_68 ⟨Nat.le_of_ble_eq_true rfl, Nat.le_of_ble_eq_true rfl⟩ rfl (Nat.le_of_ble_eq_true rfl) ⟨Nat.zero_le _, Nat.zero_le _⟩ ?_
  show V G M_X8_lies X T 0 0 9 [some (rv (8, 99) 135), some (iv x1), some (iv x2), some (iv x3), some (iv x4), none, none, none, none, none] [iv v3] h1
  rcases if_e e with ⟨c5, e⟩ | ⟨c5, e⟩
  · refine V_if_eq 46 5 rfl (by decide +kernel) (fun _ => ?_) (fun q => absurd c5 q) 
    refine V_iconst (-1 : Int32) 25 rfl ic_m1 ?_
    cases e
    exact V_iret 26 rfl hR rfl
  · refine V_if_eq 46 5 rfl (by decide +kernel) (fun q => absurd q c5) (fun _ => ?_)
    refine V_iload_n 6 rfl rfl ?_
    refine V_aload_n 7 rfl rfl ?_
    refine V_getR 138 8 rfl fr_RX8_17 ⟨Nat.le_of_ble_eq_true rfl, Or.inl (Nat.le_of_ble_eq_true rfl)⟩ rfl ?_
    refine V_iconst (nI 0) 9 rfl ic_0 ?_
    obtain ⟨g4, e⟩ := gd_e e
    refine V_iald 10 rfl g4 ?_
    rcases if_e e with ⟨c11, e⟩ | ⟨c11, e⟩
    · refine V_icmp_gt 46 11 rfl (by decide +kernel) (fun _ => ?_) (fun q => absurd c11 q) 
      refine V_iconst (-1 : Int32) 25 rfl ic_m1 ?_
      cases e
      exact V_iret 26 rfl hR rfl
    · refine V_icmp_gt 46 11 rfl (by decide +kernel) (fun q => absurd q c11) (fun _ => ?_)
      refine V_iload_n 12 rfl rfl ?_
      refine V_iload_n 13 rfl rfl ?_
      obtain ⟨v7, h5, d6, e⟩ := bd2_e e
      refine V_callS (N := M_X8_isRun) (av := [iv x2, iv x3]) (st := []) (r := some (iv v7)) (h' := h5) 14 rfl (c_X8_isRun d6) g_X8_isRun gs_X8_isRun lk_RX8_187 ⟨Nat.le_of_ble_eq_true rfl, Nat.le_of_ble_eq_true rfl⟩ rfl (Nat.le_of_ble_eq_true rfl) ⟨Nat.zero_le _, Nat.zero_le _⟩ ?_
      show V G M_X8_lies X T 0 0 27 [some (rv (8, 99) 135), some (iv x1), some (iv x2), some (iv x3), some (iv x4), none, none, none, none, none] [iv v7] h5
      rcases if_e e with ⟨c15, e⟩ | ⟨c15, e⟩
      · refine V_if_eq 46 15 rfl (by decide +kernel) (fun _ => ?_) (fun q => absurd c15 q) 
        refine V_iconst (-1 : Int32) 25 rfl ic_m1 ?_
        cases e
        exact V_iret 26 rfl hR rfl
      · refine V_if_eq 46 15 rfl (by decide +kernel) (fun q => absurd q c15) (fun _ => ?_)
        refine V_iload 16 rfl rfl ?_
        refine V_i2l 17 rfl ?_
        refine V_ldc2 (-1 : Int64) 18 rfl kl_RX8_139 ?_
        refine V_iload_n 19 rfl rfl ?_
        refine V_iconst (nI 1) 20 rfl ic_1 ?_
        refine V_isub 21 rfl ?_
        refine V_i2l 22 rfl ?_
        obtain ⟨v10, h8, d9, e⟩ := bd2_e e
        refine V_callS (N := M_X8_in) (av := [jv (x4).toInt64, jv (-1 : Int64), jv ((x1 - (nI 1))).toInt64]) (st := []) (r := some (iv v10)) (h' := h8) 23 rfl (c_X8_in d9) g_X8_in gs_X8_in lk_RX8_68 ⟨Nat.le_of_ble_eq_true rfl, Nat.le_of_ble_eq_true rfl⟩ rfl (Nat.le_of_ble_eq_true rfl) ⟨Nat.zero_le _, Nat.zero_le _⟩ ?_
        show V G M_X8_lies X T 0 0 43 [some (rv (8, 99) 135), some (iv x1), some (iv x2), some (iv x3), some (iv x4), none, none, none, none, none] [iv v10] h8
        rcases if_e e with ⟨c24, e⟩ | ⟨c24, e⟩
        · refine V_if_ne 48 24 rfl (by decide +kernel) (fun q => absurd c24 q) (fun _ => ?_)
          refine V_iconst (-1 : Int32) 25 rfl ic_m1 ?_
          cases e
          exact V_iret 26 rfl hR rfl
        · refine V_if_ne 48 24 rfl (by decide +kernel) (fun _ => ?_) (fun q => absurd q c24) 
          refine V_iconst (nI 1) 27 rfl ic_1 ?_
          refine V_istore 28 rfl (Nat.le_of_ble_eq_true rfl) rfl ?_
          show V G M_X8_lies X T 0 0 51 [some (rv (8, 99) 135), some (iv x1), some (iv x2), some (iv x3), some (iv x4), some (iv (nI 1)), none, none, none, none] [] h8
          refine V_iconst (nI 0) 29 rfl ic_0 ?_
          refine V_istore 30 rfl (Nat.le_of_ble_eq_true rfl) rfl ?_
          show V G M_X8_lies X T 0 0 54 [some (rv (8, 99) 135), some (iv x1), some (iv x2), some (iv x3), some (iv x4), some (iv (nI 1)), some (iv (nI 0)), none, none, none] [] h8
          refine V_msk [true, true, true, true, true, true, true, false, false, false] (lc' := [some (rv (8, 99) 135), some (iv x1), some (iv x2), some (iv x3), some (iv x4), some (iv (nI 1)), some (iv (nI 0)), none, none, none]) rfl ?_
          exact fx_e (P := fun s => V G M_X8_lies X T 0 0 54 [some (rv (8, 99) 135), some (iv s.1), some (iv s.2.1), some (iv s.2.2.1), some (iv s.2.2.2.1), some (iv s.2.2.2.2.1), some (iv s.2.2.2.2.2.1), none, none, none] [] s.2.2.2.2.2.2) (fun K54 hK54 s e => w_X8_lies_54 hR K54 (fun x1 x2 x3 x4 x5 x6 h e => hK54 (x1, x2, x3, x4, x5, x6, h) e) s.1 s.2.1 s.2.2.1 s.2.2.2.1 s.2.2.2.2.1 s.2.2.2.2.2.1 s.2.2.2.2.2.2 e) FU (x1, x2, x3, x4, (nI 1), (nI 0), h8) e
set_option maxHeartbeats 4000000 in
theorem w_X8_raked_15 {G : kG} {X : kX} {T : List kT} {r0 : Int32} {h0 : kH} (hR : k_R G M_X8_raked X T 0 0 (some (iv r0)) h0) (K15 : Int32 × Int32 × Int32 × Int32 × kH → Option (Int32 × kH)) (hK15 : ∀ (x1 : Int32) (x2 : Int32) (x3 : Int32) (x5 : Int32) (h : kH), K15 (x1, x2, x3, x5, h) = some (r0, h0) → V G M_X8_raked X T 0 0 15 [some (rv (8, 99) 135), some (iv x1), some (iv x2), some (iv x3), none, some (iv x5)] [] h) (x1 : Int32) (x2 : Int32) (x3 : Int32) (x5 : Int32) (h : kH) (e : p_X8_raked_15 K15 x1 x2 x3 x5 h = some (r0, h0)) : V G M_X8_raked X T 0 0 15 [some (rv (8, 99) 135), some (iv x1), some (iv x2), some (iv x3), none, some (iv x5)] [] h := by
  unfold p_X8_raked_15 at e
  refine V_iload 9 rfl rfl ?_
  refine V_aload_n 10 rfl rfl ?_
  obtain ⟨v8, h6, d7, e⟩ := bd2_e e
  refine V_callV (N := M_X8_cells) (av := []) (st := [iv x5]) (r := some (iv v8)) (h' := h6) 11 rfl (c_X8_cells d7) g_X8_cells gv_X8_cells lk_RX8_104 ⟨Nat.le_of_ble_eq_true rfl, Nat.le_of_ble_eq_true rfl⟩ rfl rfl (Nat.le_of_ble_eq_true rfl) ⟨Nat.zero_le _, Nat.zero_le _⟩ ?_
  show V G M_X8_raked X T 0 0 21 [some (rv (8, 99) 135), some (iv x1), some (iv x2), some (iv x3), none, some (iv x5)] [iv v8, iv x5] h6
  rcases if_e e with ⟨c12, e⟩ | ⟨c12, e⟩
  · refine V_icmp_ge 54 12 rfl (by decide +kernel) (fun _ => ?_) (fun q => absurd c12 q) 
    refine V_aload_n 29 rfl rfl ?_
    refine V_iload_n 30 rfl rfl ?_
    refine V_iload_n 31 rfl rfl ?_
    refine V_isub 32 rfl ?_
    refine V_iload_n 33 rfl rfl ?_
    obtain ⟨v11, h9, d10, e⟩ := bd2_e e
    refine V_callV (N := M_X8_runs) (av := [iv (x2 - x1), iv x3]) (st := []) (r := some (iv v11)) (h' := h9) 34 rfl (c_X8_runs d10) g_X8_runs gv_X8_runs lk_RX8_193 ⟨Nat.le_of_ble_eq_true rfl, Nat.le_of_ble_eq_true rfl⟩ rfl rfl (Nat.le_of_ble_eq_true rfl) ⟨Nat.zero_le _, Nat.zero_le _⟩ ?_
    show V G M_X8_raked X T 0 0 62 [some (rv (8, 99) 135), some (iv x1), some (iv x2), some (iv x3), none, some (iv x5)] [iv v11] h9
    refine V_istore 35 rfl (Nat.le_of_ble_eq_true rfl) rfl ?_
    show V G M_X8_raked X T 0 0 64 [some (rv (8, 99) 135), some (iv x1), some (iv x2), some (iv x3), some (iv v11), some (iv x5)] [] h9
    refine V_iload 36 rfl rfl ?_
    cases e
    exact V_iret 37 rfl hR rfl
  · refine V_icmp_ge 54 12 rfl (by decide +kernel) (fun q => absurd q c12) (fun _ => ?_)
    refine V_aload_n 13 rfl rfl ?_
    refine V_getR 143 14 rfl fr_RX8_32 ⟨Nat.le_of_ble_eq_true rfl, Or.inl (Nat.le_of_ble_eq_true rfl)⟩ rfl ?_
    refine V_sipush (nI 630) 15 rfl sp_630 ?_
    refine V_iload 16 rfl rfl ?_
    refine V_iadd 17 rfl ?_
    refine V_iconst (nI 0) 18 rfl ic_0 ?_
    obtain ⟨g12, e⟩ := gd_e e
    refine V_iast 19 rfl g12 ?_
    refine le_V (P := fun h13 => V G M_X8_raked X T 0 0 36 [some (rv (8, 99) 135), some (iv x1), some (iv x2), some (iv x3), none, some (iv x5)] [] h13) e (fun h13 e => ?_)
    refine V_aload_n 20 rfl rfl ?_
    refine V_getR 143 21 rfl fr_RX8_32 ⟨Nat.le_of_ble_eq_true rfl, Or.inl (Nat.le_of_ble_eq_true rfl)⟩ rfl ?_
    refine V_sipush (nI 720) 22 rfl sp_720 ?_
    refine V_iload 23 rfl rfl ?_
    refine V_iadd 24 rfl ?_
    refine V_iconst (nI 0) 25 rfl ic_0 ?_
    obtain ⟨g14, e⟩ := gd_e e
    refine V_iast 26 rfl g14 ?_
    refine le_V (P := fun h15 => V G M_X8_raked X T 0 0 48 [some (rv (8, 99) 135), some (iv x1), some (iv x2), some (iv x3), none, some (iv x5)] [] h15) e (fun h15 e => ?_)
    refine V_iinc (x5 + (nI 1)) 27 rfl rfl (inc_1 _) (Nat.le_of_ble_eq_true rfl) rfl ?_
    show V G M_X8_raked X T 0 0 51 [some (rv (8, 99) 135), some (iv x1), some (iv x2), some (iv x3), none, some (iv (x5 + (nI 1)))] [] h15
    refine V_goto 15 28 rfl (by decide +kernel) ?_
    refine V_msk [true, true, true, true, false, true] (lc' := [some (rv (8, 99) 135), some (iv x1), some (iv x2), some (iv x3), none, some (iv (x5 + (nI 1)))]) rfl ?_
    exact hK15 x1 x2 x3 (x5 + (nI 1)) h15 e
set_option maxHeartbeats 4000000 in
theorem c_X8_raked {G : kG} {T : List kT} {x1 : Int32} {x2 : Int32} {x3 : Int32} {h : kH} {r0 : Int32} {h0 : kH} (e : p_X8_raked x1 x2 x3 h = some (r0, h0)) : k_C G M_X8_raked T [rv (8, 99) 135, iv x1, iv x2, iv x3] h (some (iv r0)) h0 := by
  refine k_C_of 2 (by decide +kernel) rfl tb_X8_raked rfl (fun X hR => ?_)
  show V G M_X8_raked X T 0 0 0 [some (rv (8, 99) 135), some (iv x1), some (iv x2), some (iv x3), none, none] [] h
  unfold p_X8_raked at e
  refine V_aload_n 0 rfl rfl ?_
  obtain ⟨h1, d2, e⟩ := bd_e e
  refine V_callV (N := M_X8_tries) (av := []) (st := []) (r := none) (h' := h1) 1 rfl (c_X8_tries d2) g_X8_tries gv_X8_tries lk_RX8_190 ⟨Nat.le_of_ble_eq_true rfl, Nat.le_of_ble_eq_true rfl⟩ rfl rfl (Nat.le_of_ble_eq_true rfl) ⟨Nat.zero_le _, Nat.zero_le _⟩ ?_
  show V G M_X8_raked X T 0 0 4 [some (rv (8, 99) 135), some (iv x1), some (iv x2), some (iv x3), none, none] [] h1
  refine V_aload_n 2 rfl rfl ?_
  refine V_iload_n 3 rfl rfl ?_
  refine V_iload_n 4 rfl rfl ?_
  obtain ⟨v5, h3, d4, e⟩ := bd2_e e
  refine V_callV (N := M_X8_runs) (av := [iv x1, iv x3]) (st := []) (r := some (iv v5)) (h' := h3) 5 rfl (c_X8_runs d4) g_X8_runs gv_X8_runs lk_RX8_193 ⟨Nat.le_of_ble_eq_true rfl, Nat.le_of_ble_eq_true rfl⟩ rfl rfl (Nat.le_of_ble_eq_true rfl) ⟨Nat.zero_le _, Nat.zero_le _⟩ ?_
  show V G M_X8_raked X T 0 0 10 [some (rv (8, 99) 135), some (iv x1), some (iv x2), some (iv x3), none, none] [iv v5] h3
  refine V_istore 6 rfl (Nat.le_of_ble_eq_true rfl) rfl ?_
  show V G M_X8_raked X T 0 0 12 [some (rv (8, 99) 135), some (iv x1), some (iv x2), some (iv x3), some (iv v5), none] [] h3
  refine V_iconst (nI 0) 7 rfl ic_0 ?_
  refine V_istore 8 rfl (Nat.le_of_ble_eq_true rfl) rfl ?_
  show V G M_X8_raked X T 0 0 15 [some (rv (8, 99) 135), some (iv x1), some (iv x2), some (iv x3), some (iv v5), some (iv (nI 0))] [] h3
  refine V_msk [true, true, true, true, false, true] (lc' := [some (rv (8, 99) 135), some (iv x1), some (iv x2), some (iv x3), none, some (iv (nI 0))]) rfl ?_
  exact fx_e (P := fun s => V G M_X8_raked X T 0 0 15 [some (rv (8, 99) 135), some (iv s.1), some (iv s.2.1), some (iv s.2.2.1), none, some (iv s.2.2.2.1)] [] s.2.2.2.2) (fun K15 hK15 s e => w_X8_raked_15 hR K15 (fun x1 x2 x3 x5 h e => hK15 (x1, x2, x3, x5, h) e) s.1 s.2.1 s.2.2.1 s.2.2.2.1 s.2.2.2.2 e) FU (x1, x2, x3, (nI 0), h3) e
set_option maxHeartbeats 4000000 in
theorem w_X8_rake_24 {G : kG} {X : kX} {T : List kT} {r0 : Int32} {h0 : kH} (hR : k_R G M_X8_rake X T 0 0 (some (iv r0)) h0) (K24 : Int32 × Int32 × Int32 × Int32 × kH → Option (Int32 × kH)) (hK24 : ∀ (x1 : Int32) (x2 : Int32) (x3 : Int32) (x4 : Int32) (h : kH), K24 (x1, x2, x3, x4, h) = some (r0, h0) → V G M_X8_rake X T 0 0 24 [some (rv (8, 99) 135), some (iv x1), some (iv x2), some (iv x3), some (iv x4)] [] h) (x1 : Int32) (x2 : Int32) (x3 : Int32) (x4 : Int32) (h : kH) (e : p_X8_rake_24 K24 x1 x2 x3 x4 h = some (r0, h0)) : V G M_X8_rake X T 0 0 24 [some (rv (8, 99) 135), some (iv x1), some (iv x2), some (iv x3), some (iv x4)] [] h := by
  unfold p_X8_rake_24 at e
  refine V_aload_n 15 rfl rfl ?_
  refine V_iload 16 rfl rfl ?_
  refine V_iload_n 17 rfl rfl ?_
  refine V_iload_n 18 rfl rfl ?_
  obtain ⟨v11, h9, d10, e⟩ := bd2_e e
  refine V_callV (N := M_X8_raked) (av := [iv x4, iv x1, iv x2]) (st := []) (r := some (iv v11)) (h' := h9) 19 rfl (c_X8_raked d10) g_X8_raked gv_X8_raked lk_RX8_204 ⟨Nat.le_of_ble_eq_true rfl, Nat.le_of_ble_eq_true rfl⟩ rfl rfl (Nat.le_of_ble_eq_true rfl) ⟨Nat.zero_le _, Nat.zero_le _⟩ ?_
  show V G M_X8_rake X T 0 0 32 [some (rv (8, 99) 135), some (iv x1), some (iv x2), some (iv x3), some (iv x4)] [iv v11] h9
  refine V_iload_n 20 rfl rfl ?_
  rcases if_e e with ⟨c21, e⟩ | ⟨c21, e⟩
  · refine V_icmp_ge 42 21 rfl (by decide +kernel) (fun _ => ?_) (fun q => absurd c21 q) 
    refine V_iload 24 rfl rfl ?_
    cases e
    exact V_iret 25 rfl hR rfl
  · refine V_icmp_ge 42 21 rfl (by decide +kernel) (fun q => absurd q c21) (fun _ => ?_)
    refine V_iinc (x4 + (nI 1)) 22 rfl rfl (inc_1 _) (Nat.le_of_ble_eq_true rfl) rfl ?_
    show V G M_X8_rake X T 0 0 39 [some (rv (8, 99) 135), some (iv x1), some (iv x2), some (iv x3), some (iv (x4 + (nI 1)))] [] h9
    refine V_goto 24 23 rfl (by decide +kernel) ?_
    refine V_msk [true, true, true, true, true] (lc' := [some (rv (8, 99) 135), some (iv x1), some (iv x2), some (iv x3), some (iv (x4 + (nI 1)))]) rfl ?_
    exact hK24 x1 x2 x3 (x4 + (nI 1)) h9 e
set_option maxHeartbeats 4000000 in
theorem c_X8_rake {G : kG} {T : List kT} {x1 : Int32} {x2 : Int32} {h : kH} {r0 : Int32} {h0 : kH} (e : p_X8_rake x1 x2 h = some (r0, h0)) : k_C G M_X8_rake T [rv (8, 99) 135, iv x1, iv x2] h (some (iv r0)) h0 := by
  refine k_C_of 2 (by decide +kernel) rfl tb_X8_rake rfl (fun X hR => ?_)
  show V G M_X8_rake X T 0 0 0 [some (rv (8, 99) 135), some (iv x1), some (iv x2), none, none] [] h
  unfold p_X8_rake at e
  refine V_iload_n 0 rfl rfl ?_
  refine V_iload_n 1 rfl rfl ?_
  obtain ⟨v3, h1, d2, e⟩ := bd2_e e
  refine V_callS (N := M_X8_isRun) (av := [iv x1, iv x2]) (st := []) (r := some (iv v3)) (h' := h1) 2 rfl (c_X8_isRun d2) g_X8_isRun gs_X8_isRun lk_RX8_187 ⟨Nat.le_of_ble_eq_true rfl, Nat.le_of_ble_eq_true rfl⟩ rfl (Nat.le_of_ble_eq_true rfl) ⟨Nat.zero_le _, Nat.zero_le _⟩ ?_
  show V G M_X8_rake X T 0 0 5 [some (rv (8, 99) 135), some (iv x1), some (iv x2), none, none] [iv v3] h1
  rcases if_e e with ⟨c3, e⟩ | ⟨c3, e⟩
  · refine V_if_ne 10 3 rfl (by decide +kernel) (fun q => absurd c3 q) (fun _ => ?_)
    refine V_iconst (-1 : Int32) 4 rfl ic_m1 ?_
    cases e
    exact V_iret 5 rfl hR rfl
  · refine V_if_ne 10 3 rfl (by decide +kernel) (fun _ => ?_) (fun q => absurd q c3) 
    refine V_aload_n 6 rfl rfl ?_
    obtain ⟨h4, d5, e⟩ := bd_e e
    refine V_callV (N := M_X8_tries) (av := []) (st := []) (r := none) (h' := h4) 7 rfl (c_X8_tries d5) g_X8_tries gv_X8_tries lk_RX8_190 ⟨Nat.le_of_ble_eq_true rfl, Nat.le_of_ble_eq_true rfl⟩ rfl rfl (Nat.le_of_ble_eq_true rfl) ⟨Nat.zero_le _, Nat.zero_le _⟩ ?_
    show V G M_X8_rake X T 0 0 14 [some (rv (8, 99) 135), some (iv x1), some (iv x2), none, none] [] h4
    refine V_aload_n 8 rfl rfl ?_
    refine V_iload_n 9 rfl rfl ?_
    refine V_iload_n 10 rfl rfl ?_
    obtain ⟨v8, h6, d7, e⟩ := bd2_e e
    refine V_callV (N := M_X8_runs) (av := [iv x1, iv x2]) (st := []) (r := some (iv v8)) (h' := h6) 11 rfl (c_X8_runs d7) g_X8_runs gv_X8_runs lk_RX8_193 ⟨Nat.le_of_ble_eq_true rfl, Nat.le_of_ble_eq_true rfl⟩ rfl rfl (Nat.le_of_ble_eq_true rfl) ⟨Nat.zero_le _, Nat.zero_le _⟩ ?_
    show V G M_X8_rake X T 0 0 20 [some (rv (8, 99) 135), some (iv x1), some (iv x2), none, none] [iv v8] h6
    refine V_istore_n 12 rfl (Nat.le_of_ble_eq_true rfl) rfl ?_
    show V G M_X8_rake X T 0 0 21 [some (rv (8, 99) 135), some (iv x1), some (iv x2), some (iv v8), none] [] h6
    refine V_iconst (nI 0) 13 rfl ic_0 ?_
    refine V_istore 14 rfl (Nat.le_of_ble_eq_true rfl) rfl ?_
    show V G M_X8_rake X T 0 0 24 [some (rv (8, 99) 135), some (iv x1), some (iv x2), some (iv v8), some (iv (nI 0))] [] h6
    refine V_msk [true, true, true, true, true] (lc' := [some (rv (8, 99) 135), some (iv x1), some (iv x2), some (iv v8), some (iv (nI 0))]) rfl ?_
    exact fx_e (P := fun s => V G M_X8_rake X T 0 0 24 [some (rv (8, 99) 135), some (iv s.1), some (iv s.2.1), some (iv s.2.2.1), some (iv s.2.2.2.1)] [] s.2.2.2.2) (fun K24 hK24 s e => w_X8_rake_24 hR K24 (fun x1 x2 x3 x4 h e => hK24 (x1, x2, x3, x4, h) e) s.1 s.2.1 s.2.2.1 s.2.2.2.1 s.2.2.2.2 e) FU (x1, x2, v8, (nI 0), h6) e
set_option maxHeartbeats 4000000 in
theorem w_X8_black_43 {G : kG} {X : kX} {T : List kT} {r0 : Int32} {h0 : kH} (hR : k_R G M_X8_black X T 0 0 (some (iv r0)) h0) (K21 : Int32 × Int32 × Int32 × Int32 × kH → Option (Int32 × kH)) (K43 : Int32 × Int32 × Int32 × Int32 × Int32 × kH → Option (Int32 × kH)) (hK21 : ∀ (x1 : Int32) (x2 : Int32) (x3 : Int32) (x4 : Int32) (h : kH), K21 (x1, x2, x3, x4, h) = some (r0, h0) → V G M_X8_black X T 0 0 21 [some (rv (8, 99) 135), some (iv x1), some (iv x2), some (iv x3), some (iv x4), none, none] [] h) (hK43 : ∀ (x1 : Int32) (x2 : Int32) (x3 : Int32) (x4 : Int32) (x6 : Int32) (h : kH), K43 (x1, x2, x3, x4, x6, h) = some (r0, h0) → V G M_X8_black X T 0 0 43 [some (rv (8, 99) 135), some (iv x1), some (iv x2), some (iv x3), some (iv x4), none, some (iv x6)] [] h) (x1 : Int32) (x2 : Int32) (x3 : Int32) (x4 : Int32) (x6 : Int32) (h : kH) (e : p_X8_black_43 K21 K43 x1 x2 x3 x4 x6 h = some (r0, h0)) : V G M_X8_black X T 0 0 43 [some (rv (8, 99) 135), some (iv x1), some (iv x2), some (iv x3), some (iv x4), none, some (iv x6)] [] h := by
  unfold p_X8_black_43 at e
  refine V_iload 24 rfl rfl ?_
  refine V_aload_n 25 rfl rfl ?_
  obtain ⟨v14, h12, d13, e⟩ := bd2_e e
  refine V_callV (N := M_X8_cells) (av := []) (st := [iv x6]) (r := some (iv v14)) (h' := h12) 26 rfl (c_X8_cells d13) g_X8_cells gv_X8_cells lk_RX8_104 ⟨Nat.le_of_ble_eq_true rfl, Nat.le_of_ble_eq_true rfl⟩ rfl rfl (Nat.le_of_ble_eq_true rfl) ⟨Nat.zero_le _, Nat.zero_le _⟩ ?_
  show V G M_X8_black X T 0 0 49 [some (rv (8, 99) 135), some (iv x1), some (iv x2), some (iv x3), some (iv x4), none, some (iv x6)] [iv v14, iv x6] h12
  rcases if_e e with ⟨c27, e⟩ | ⟨c27, e⟩
  · refine V_icmp_ge 70 27 rfl (by decide +kernel) (fun _ => ?_) (fun q => absurd c27 q) 
    refine V_aload_n 37 rfl rfl ?_
    refine V_iload_n 38 rfl rfl ?_
    refine V_iload 39 rfl rfl ?_
    refine V_isub 40 rfl ?_
    refine V_iload_n 41 rfl rfl ?_
    obtain ⟨v17, h15, d16, e⟩ := bd2_e e
    refine V_callV (N := M_X8_runs) (av := [iv (x2 - x4), iv x3]) (st := []) (r := some (iv v17)) (h' := h15) 42 rfl (c_X8_runs d16) g_X8_runs gv_X8_runs lk_RX8_193 ⟨Nat.le_of_ble_eq_true rfl, Nat.le_of_ble_eq_true rfl⟩ rfl rfl (Nat.le_of_ble_eq_true rfl) ⟨Nat.zero_le _, Nat.zero_le _⟩ ?_
    show V G M_X8_black X T 0 0 79 [some (rv (8, 99) 135), some (iv x1), some (iv x2), some (iv x3), some (iv x4), none, some (iv x6)] [iv v17] h15
    refine V_istore 43 rfl (Nat.le_of_ble_eq_true rfl) rfl ?_
    show V G M_X8_black X T 0 0 81 [some (rv (8, 99) 135), some (iv x1), some (iv x2), some (iv x3), some (iv x4), some (iv v17), some (iv x6)] [] h15
    refine V_iload 44 rfl rfl ?_
    rcases if_e e with ⟨c45, e⟩ | ⟨c45, e⟩
    · refine V_if_le 114 45 rfl (by decide +kernel) (fun _ => ?_) (fun q => absurd c45 q) 
      refine V_iinc (x4 + (nI 1)) 63 rfl rfl (inc_1 _) (Nat.le_of_ble_eq_true rfl) rfl ?_
      show V G M_X8_black X T 0 0 117 [some (rv (8, 99) 135), some (iv x1), some (iv x2), some (iv x3), some (iv (x4 + (nI 1))), some (iv v17), some (iv x6)] [] h15
      refine V_goto 21 64 rfl (by decide +kernel) ?_
      refine V_msk [true, true, true, true, true, false, false] (lc' := [some (rv (8, 99) 135), some (iv x1), some (iv x2), some (iv x3), some (iv (x4 + (nI 1))), none, none]) rfl ?_
      exact hK21 x1 x2 x3 (x4 + (nI 1)) h15 e
    · refine V_if_le 114 45 rfl (by decide +kernel) (fun q => absurd q c45) (fun _ => ?_)
      refine V_aload_n 46 rfl rfl ?_
      refine V_iconst (nI 3) 47 rfl ic_3 ?_
      refine V_iload_n 48 rfl rfl ?_
      obtain ⟨v20, h18, d19, e⟩ := bd2_e e
      refine V_callV (N := M_X8_lossOf) (av := [iv (nI 3), iv x1]) (st := []) (r := some (iv v20)) (h' := h18) 49 rfl (c_X8_lossOf d19) g_X8_lossOf gv_X8_lossOf lk_RX8_136 ⟨Nat.le_of_ble_eq_true rfl, Nat.le_of_ble_eq_true rfl⟩ rfl rfl (Nat.le_of_ble_eq_true rfl) ⟨Nat.zero_le _, Nat.zero_le _⟩ ?_
      show V G M_X8_black X T 0 0 92 [some (rv (8, 99) 135), some (iv x1), some (iv x2), some (iv x3), some (iv x4), some (iv v17), some (iv x6)] [iv v20] h18
      rcases if_e e with ⟨c50, e⟩ | ⟨c50, e⟩
      · refine V_if_ne 114 50 rfl (by decide +kernel) (fun q => absurd c50 q) (fun _ => ?_)
        refine V_aload_n 51 rfl rfl ?_
        refine V_getR 143 52 rfl fr_RX8_32 ⟨Nat.le_of_ble_eq_true rfl, Or.inl (Nat.le_of_ble_eq_true rfl)⟩ rfl ?_
        refine V_iconst (nI 3) 53 rfl ic_3 ?_
        refine V_iload_n 54 rfl rfl ?_
        obtain ⟨v23, h21, d22, e⟩ := bd2_e e
        refine V_callS (N := M_X8_potAt) (av := [iv (nI 3), iv x1]) (st := [rv (9, 800) 143]) (r := some (iv v23)) (h' := h21) 55 rfl (c_X8_potAt d22) g_X8_potAt gs_X8_potAt lk_RX8_120 ⟨Nat.le_of_ble_eq_true rfl, Nat.le_of_ble_eq_true rfl⟩ rfl (Nat.le_of_ble_eq_true rfl) ⟨Nat.zero_le _, Nat.zero_le _⟩ ?_
        show V G M_X8_black X T 0 0 104 [some (rv (8, 99) 135), some (iv x1), some (iv x2), some (iv x3), some (iv x4), some (iv v17), some (iv x6)] [iv v23, rv (9, 800) 143] h21
        refine V_iconst (nI 5) 56 rfl ic_5 ?_
        refine V_iadd 57 rfl ?_
        obtain ⟨g24, e⟩ := gd_e e
        refine V_iald 58 rfl g24 ?_
        refine V_iconst (nI 2) 59 rfl ic_2 ?_
        rcases if_e e with ⟨c60, e⟩ | ⟨c60, e⟩
        · refine V_icmp_ne 114 60 rfl (by decide +kernel) (fun q => absurd c60 q) (fun _ => ?_)
          refine V_iload 61 rfl rfl ?_
          cases e
          exact V_iret 62 rfl hR rfl
        · refine V_icmp_ne 114 60 rfl (by decide +kernel) (fun _ => ?_) (fun q => absurd q c60) 
          refine V_iinc (x4 + (nI 1)) 63 rfl rfl (inc_1 _) (Nat.le_of_ble_eq_true rfl) rfl ?_
          show V G M_X8_black X T 0 0 117 [some (rv (8, 99) 135), some (iv x1), some (iv x2), some (iv x3), some (iv (x4 + (nI 1))), some (iv v17), some (iv x6)] [] h21
          refine V_goto 21 64 rfl (by decide +kernel) ?_
          refine V_msk [true, true, true, true, true, false, false] (lc' := [some (rv (8, 99) 135), some (iv x1), some (iv x2), some (iv x3), some (iv (x4 + (nI 1))), none, none]) rfl ?_
          exact hK21 x1 x2 x3 (x4 + (nI 1)) h21 e
      · refine V_if_ne 114 50 rfl (by decide +kernel) (fun _ => ?_) (fun q => absurd q c50) 
        refine V_iinc (x4 + (nI 1)) 63 rfl rfl (inc_1 _) (Nat.le_of_ble_eq_true rfl) rfl ?_
        show V G M_X8_black X T 0 0 117 [some (rv (8, 99) 135), some (iv x1), some (iv x2), some (iv x3), some (iv (x4 + (nI 1))), some (iv v17), some (iv x6)] [] h18
        refine V_goto 21 64 rfl (by decide +kernel) ?_
        refine V_msk [true, true, true, true, true, false, false] (lc' := [some (rv (8, 99) 135), some (iv x1), some (iv x2), some (iv x3), some (iv (x4 + (nI 1))), none, none]) rfl ?_
        exact hK21 x1 x2 x3 (x4 + (nI 1)) h18 e
  · refine V_icmp_ge 70 27 rfl (by decide +kernel) (fun q => absurd q c27) (fun _ => ?_)
    refine V_aload_n 28 rfl rfl ?_
    refine V_getR 143 29 rfl fr_RX8_32 ⟨Nat.le_of_ble_eq_true rfl, Or.inl (Nat.le_of_ble_eq_true rfl)⟩ rfl ?_
    refine V_sipush (nI 720) 30 rfl sp_720 ?_
    refine V_iload 31 rfl rfl ?_
    refine V_iadd 32 rfl ?_
    refine V_iconst (nI 1) 33 rfl ic_1 ?_
    obtain ⟨g25, e⟩ := gd_e e
    refine V_iast 34 rfl g25 ?_
    refine le_V (P := fun h26 => V G M_X8_black X T 0 0 64 [some (rv (8, 99) 135), some (iv x1), some (iv x2), some (iv x3), some (iv x4), none, some (iv x6)] [] h26) e (fun h26 e => ?_)
    refine V_iinc (x6 + (nI 1)) 35 rfl rfl (inc_1 _) (Nat.le_of_ble_eq_true rfl) rfl ?_
    show V G M_X8_black X T 0 0 67 [some (rv (8, 99) 135), some (iv x1), some (iv x2), some (iv x3), some (iv x4), none, some (iv (x6 + (nI 1)))] [] h26
    refine V_goto 43 36 rfl (by decide +kernel) ?_
    refine V_msk [true, true, true, true, true, false, true] (lc' := [some (rv (8, 99) 135), some (iv x1), some (iv x2), some (iv x3), some (iv x4), none, some (iv (x6 + (nI 1)))]) rfl ?_
    exact hK43 x1 x2 x3 x4 (x6 + (nI 1)) h26 e
set_option maxHeartbeats 4000000 in
theorem w_X8_black_21 {G : kG} {X : kX} {T : List kT} {r0 : Int32} {h0 : kH} (hR : k_R G M_X8_black X T 0 0 (some (iv r0)) h0) (K21 : Int32 × Int32 × Int32 × Int32 × kH → Option (Int32 × kH)) (hK21 : ∀ (x1 : Int32) (x2 : Int32) (x3 : Int32) (x4 : Int32) (h : kH), K21 (x1, x2, x3, x4, h) = some (r0, h0) → V G M_X8_black X T 0 0 21 [some (rv (8, 99) 135), some (iv x1), some (iv x2), some (iv x3), some (iv x4), none, none] [] h) (x1 : Int32) (x2 : Int32) (x3 : Int32) (x4 : Int32) (h : kH) (e : p_X8_black_21 K21 x1 x2 x3 x4 h = some (r0, h0)) : V G M_X8_black X T 0 0 21 [some (rv (8, 99) 135), some (iv x1), some (iv x2), some (iv x3), some (iv x4), none, none] [] h := by
  unfold p_X8_black_21 at e
  refine V_iload 12 rfl rfl ?_
  refine V_iload_n 13 rfl rfl ?_
  rcases if_e e with ⟨c14, e⟩ | ⟨c14, e⟩
  · refine V_icmp_gt 120 14 rfl (by decide +kernel) (fun _ => ?_) (fun q => absurd c14 q) 
    refine V_bipush (-4 : Int32) 65 rfl bp_m4 ?_
    cases e
    exact V_iret 66 rfl hR rfl
  · refine V_icmp_gt 120 14 rfl (by decide +kernel) (fun q => absurd q c14) (fun _ => ?_)
    refine V_aload_n 15 rfl rfl ?_
    obtain ⟨h7, d8, e⟩ := bd_e e
    refine V_callV (N := M_X8_tries) (av := []) (st := []) (r := none) (h' := h7) 16 rfl (c_X8_tries d8) g_X8_tries gv_X8_tries lk_RX8_190 ⟨Nat.le_of_ble_eq_true rfl, Nat.le_of_ble_eq_true rfl⟩ rfl rfl (Nat.le_of_ble_eq_true rfl) ⟨Nat.zero_le _, Nat.zero_le _⟩ ?_
    show V G M_X8_black X T 0 0 31 [some (rv (8, 99) 135), some (iv x1), some (iv x2), some (iv x3), some (iv x4), none, none] [] h7
    refine V_aload_n 17 rfl rfl ?_
    refine V_iload 18 rfl rfl ?_
    refine V_iload_n 19 rfl rfl ?_
    obtain ⟨v11, h9, d10, e⟩ := bd2_e e
    refine V_callV (N := M_X8_runs) (av := [iv x4, iv x3]) (st := []) (r := some (iv v11)) (h' := h9) 20 rfl (c_X8_runs d10) g_X8_runs gv_X8_runs lk_RX8_193 ⟨Nat.le_of_ble_eq_true rfl, Nat.le_of_ble_eq_true rfl⟩ rfl rfl (Nat.le_of_ble_eq_true rfl) ⟨Nat.zero_le _, Nat.zero_le _⟩ ?_
    show V G M_X8_black X T 0 0 38 [some (rv (8, 99) 135), some (iv x1), some (iv x2), some (iv x3), some (iv x4), none, none] [iv v11] h9
    refine V_istore 21 rfl (Nat.le_of_ble_eq_true rfl) rfl ?_
    show V G M_X8_black X T 0 0 40 [some (rv (8, 99) 135), some (iv x1), some (iv x2), some (iv x3), some (iv x4), some (iv v11), none] [] h9
    refine V_iconst (nI 0) 22 rfl ic_0 ?_
    refine V_istore 23 rfl (Nat.le_of_ble_eq_true rfl) rfl ?_
    show V G M_X8_black X T 0 0 43 [some (rv (8, 99) 135), some (iv x1), some (iv x2), some (iv x3), some (iv x4), some (iv v11), some (iv (nI 0))] [] h9
    refine V_msk [true, true, true, true, true, false, true] (lc' := [some (rv (8, 99) 135), some (iv x1), some (iv x2), some (iv x3), some (iv x4), none, some (iv (nI 0))]) rfl ?_
    exact fx_e (P := fun s => V G M_X8_black X T 0 0 43 [some (rv (8, 99) 135), some (iv s.1), some (iv s.2.1), some (iv s.2.2.1), some (iv s.2.2.2.1), none, some (iv s.2.2.2.2.1)] [] s.2.2.2.2.2) (fun K43 hK43 s e => w_X8_black_43 hR K21 K43 hK21 (fun x1 x2 x3 x4 x6 h e => hK43 (x1, x2, x3, x4, x6, h) e) s.1 s.2.1 s.2.2.1 s.2.2.2.1 s.2.2.2.2.1 s.2.2.2.2.2 e) FU (x1, x2, x3, x4, (nI 0), h9) e
set_option maxHeartbeats 4000000 in
theorem c_X8_black {G : kG} {T : List kT} {x1 : Int32} {x2 : Int32} {x3 : Int32} {h : kH} {r0 : Int32} {h0 : kH} (e : p_X8_black x1 x2 x3 h = some (r0, h0)) : k_C G M_X8_black T [rv (8, 99) 135, iv x1, iv x2, iv x3] h (some (iv r0)) h0 := by
  refine k_C_of 3 (by decide +kernel) rfl tb_X8_black rfl (fun X hR => ?_)
  show V G M_X8_black X T 0 0 0 [some (rv (8, 99) 135), some (iv x1), some (iv x2), some (iv x3), none, none, none] [] h
  unfold p_X8_black at e
  refine V_aload_n 0 rfl rfl ?_
  refine V_iload_n 1 rfl rfl ?_
  obtain ⟨v3, h1, d2, e⟩ := bd2_e e
  refine V_callV (N := M_X8_isPot) (av := [iv x1]) (st := []) (r := some (iv v3)) (h' := h1) 2 rfl (c_X8_isPot d2) g_X8_isPot gv_X8_isPot lk_RX8_133 ⟨Nat.le_of_ble_eq_true rfl, Nat.le_of_ble_eq_true rfl⟩ rfl rfl (Nat.le_of_ble_eq_true rfl) ⟨Nat.zero_le _, Nat.zero_le _⟩ ?_
  show V G M_X8_black X T 0 0 5 [some (rv (8, 99) 135), some (iv x1), some (iv x2), some (iv x3), none, none, none] [iv v3] h1
  rcases if_e e with ⟨c3, e⟩ | ⟨c3, e⟩
  · refine V_if_eq 16 3 rfl (by decide +kernel) (fun _ => ?_) (fun q => absurd c3 q) 
    refine V_iconst (-1 : Int32) 8 rfl ic_m1 ?_
    cases e
    exact V_iret 9 rfl hR rfl
  · refine V_if_eq 16 3 rfl (by decide +kernel) (fun q => absurd q c3) (fun _ => ?_)
    refine V_iload_n 4 rfl rfl ?_
    refine V_iload_n 5 rfl rfl ?_
    obtain ⟨v6, h4, d5, e⟩ := bd2_e e
    refine V_callS (N := M_X8_isRun) (av := [iv x2, iv x3]) (st := []) (r := some (iv v6)) (h' := h4) 6 rfl (c_X8_isRun d5) g_X8_isRun gs_X8_isRun lk_RX8_187 ⟨Nat.le_of_ble_eq_true rfl, Nat.le_of_ble_eq_true rfl⟩ rfl (Nat.le_of_ble_eq_true rfl) ⟨Nat.zero_le _, Nat.zero_le _⟩ ?_
    show V G M_X8_black X T 0 0 13 [some (rv (8, 99) 135), some (iv x1), some (iv x2), some (iv x3), none, none, none] [iv v6] h4
    rcases if_e e with ⟨c7, e⟩ | ⟨c7, e⟩
    · refine V_if_ne 18 7 rfl (by decide +kernel) (fun q => absurd c7 q) (fun _ => ?_)
      refine V_iconst (-1 : Int32) 8 rfl ic_m1 ?_
      cases e
      exact V_iret 9 rfl hR rfl
    · refine V_if_ne 18 7 rfl (by decide +kernel) (fun _ => ?_) (fun q => absurd q c7) 
      refine V_iconst (nI 0) 10 rfl ic_0 ?_
      refine V_istore 11 rfl (Nat.le_of_ble_eq_true rfl) rfl ?_
      show V G M_X8_black X T 0 0 21 [some (rv (8, 99) 135), some (iv x1), some (iv x2), some (iv x3), some (iv (nI 0)), none, none] [] h4
      refine V_msk [true, true, true, true, true, false, false] (lc' := [some (rv (8, 99) 135), some (iv x1), some (iv x2), some (iv x3), some (iv (nI 0)), none, none]) rfl ?_
      exact fx_e (P := fun s => V G M_X8_black X T 0 0 21 [some (rv (8, 99) 135), some (iv s.1), some (iv s.2.1), some (iv s.2.2.1), some (iv s.2.2.2.1), none, none] [] s.2.2.2.2) (fun K21 hK21 s e => w_X8_black_21 hR K21 (fun x1 x2 x3 x4 h e => hK21 (x1, x2, x3, x4, h) e) s.1 s.2.1 s.2.2.1 s.2.2.2.1 s.2.2.2.2 e) FU (x1, x2, x3, (nI 0), h4) e
set_option maxHeartbeats 4000000 in
theorem c_X8_wind {G : kG} {T : List kT} {x1 : Int32} {x2 : Int32} {h : kH} {r0 : Int32} {h0 : kH} (e : p_X8_wind x1 x2 h = some (r0, h0)) : k_C G M_X8_wind T [rv (8, 99) 135, iv x1, iv x2] h (some (iv r0)) h0 := by
  refine k_C_of 2 (by decide +kernel) rfl tb_X8_wind rfl (fun X hR => ?_)
  show V G M_X8_wind X T 0 0 0 [some (rv (8, 99) 135), some (iv x1), some (iv x2), none, none] [] h
  unfold p_X8_wind at e
  refine V_ldc2 (7919 : Int64) 0 rfl kl_RX8_208 ?_
  refine V_iload_n 1 rfl rfl ?_
  refine V_i2l 2 rfl ?_
  refine V_lmul 3 rfl ?_
  refine V_ldc2 (6151 : Int64) 4 rfl kl_RX8_210 ?_
  refine V_iload_n 5 rfl rfl ?_
  refine V_i2l 6 rfl ?_
  refine V_lmul 7 rfl ?_
  refine V_ladd 8 rfl ?_
  refine V_lconst (1 : Int64) 9 rfl rfl ?_
  refine V_ladd 10 rfl ?_
  refine V_lstore_n 11 rfl (Nat.le_of_ble_eq_true rfl) rfl ?_
  refine le_V (P := fun v1 => V G M_X8_wind X T 0 0 16 [some (rv (8, 99) 135), some (iv x1), some (iv x2), some (jv v1), none] [] h) e (fun v1 e => ?_)
  refine V_lload_n 12 rfl rfl ?_
  refine V_lload_n 13 rfl rfl ?_
  refine V_lmul 14 rfl ?_
  refine V_ldc2 (65521 : Int64) 15 rfl kl_RX8_212 ?_
  refine V_remL 16 rfl (by decide +kernel) ?_
  refine V_aload_n 17 rfl rfl ?_
  refine V_getR 137 18 rfl fr_RX8_13 ⟨Nat.le_of_ble_eq_true rfl, Or.inl (Nat.le_of_ble_eq_true rfl)⟩ rfl ?_
  refine V_bipush (nI 7) 19 rfl bp_7 ?_
  obtain ⟨g2, e⟩ := gd_e e
  refine V_iald 20 rfl g2 ?_
  refine V_iconst (nI 1) 21 rfl ic_1 ?_
  refine V_iadd 22 rfl ?_
  refine V_i2l 23 rfl ?_
  obtain ⟨g3, e⟩ := gd_e e
  refine V_remL 24 rfl (of_decide_eq_true g3) ?_
  refine V_l2i 25 rfl ?_
  cases e
  exact V_iret 26 rfl hR rfl
set_option maxHeartbeats 4000000 in
theorem w_X8_evenings_6 {G : kG} {X : kX} {T : List kT} {r0 : Int32} {h0 : kH} (hR : k_R G M_X8_evenings X T 0 0 (some (iv r0)) h0) (K6 : Int32 × Int32 × Int32 × kH → Option (Int32 × kH)) (hK6 : ∀ (x1 : Int32) (x2 : Int32) (x3 : Int32) (h : kH), K6 (x1, x2, x3, h) = some (r0, h0) → V G M_X8_evenings X T 0 0 6 [some (rv (8, 99) 135), some (iv x1), some (iv x2), some (iv x3)] [] h) (x1 : Int32) (x2 : Int32) (x3 : Int32) (h : kH) (e : p_X8_evenings_6 K6 x1 x2 x3 h = some (r0, h0)) : V G M_X8_evenings X T 0 0 6 [some (rv (8, 99) 135), some (iv x1), some (iv x2), some (iv x3)] [] h := by
  unfold p_X8_evenings_6 at e
  refine V_iload_n 4 rfl rfl ?_
  refine V_iload_n 5 rfl rfl ?_
  rcases if_e e with ⟨c6, e⟩ | ⟨c6, e⟩
  · refine V_icmp_ge 28 6 rfl (by decide +kernel) (fun _ => ?_) (fun q => absurd c6 q) 
    refine V_aload_n 16 rfl rfl ?_
    refine V_iconst (nI 0) 17 rfl ic_0 ?_
    obtain ⟨v5, h3, d4, e⟩ := bd2_e e
    refine V_callV (N := M_X8_good) (av := [iv (nI 0)]) (st := []) (r := some (iv v5)) (h' := h3) 18 rfl (c_X8_good d4) g_X8_good gv_X8_good lk_RX8_179 ⟨Nat.le_of_ble_eq_true rfl, Nat.le_of_ble_eq_true rfl⟩ rfl rfl (Nat.le_of_ble_eq_true rfl) ⟨Nat.zero_le _, Nat.zero_le _⟩ ?_
    show V G M_X8_evenings X T 0 0 33 [some (rv (8, 99) 135), some (iv x1), some (iv x2), some (iv x3)] [iv v5] h3
    cases e
    exact V_iret 19 rfl hR rfl
  · refine V_icmp_ge 28 6 rfl (by decide +kernel) (fun q => absurd q c6) (fun _ => ?_)
    refine V_aload_n 7 rfl rfl ?_
    refine V_iconst (nI 3) 8 rfl ic_3 ?_
    refine V_aload_n 9 rfl rfl ?_
    refine V_iload_n 10 rfl rfl ?_
    refine V_iload_n 11 rfl rfl ?_
    obtain ⟨v8, h6, d7, e⟩ := bd2_e e
    refine V_callV (N := M_X8_wind) (av := [iv x1, iv x3]) (st := [iv (nI 3), rv (8, 99) 135]) (r := some (iv v8)) (h' := h6) 12 rfl (c_X8_wind d7) g_X8_wind gv_X8_wind lk_RX8_214 ⟨Nat.le_of_ble_eq_true rfl, Nat.le_of_ble_eq_true rfl⟩ rfl rfl (Nat.le_of_ble_eq_true rfl) ⟨Nat.zero_le _, Nat.zero_le _⟩ ?_
    show V G M_X8_evenings X T 0 0 19 [some (rv (8, 99) 135), some (iv x1), some (iv x2), some (iv x3)] [iv v8, iv (nI 3), rv (8, 99) 135] h6
    obtain ⟨h9, d10, e⟩ := bd_e e
    refine V_callV (N := M_X8_goes) (av := [iv (nI 3), iv v8]) (st := []) (r := none) (h' := h9) 13 rfl (c_X8_goes d10) g_X8_goes gv_X8_goes lk_RX8_166 ⟨Nat.le_of_ble_eq_true rfl, Nat.le_of_ble_eq_true rfl⟩ rfl rfl (Nat.le_of_ble_eq_true rfl) ⟨Nat.zero_le _, Nat.zero_le _⟩ ?_
    show V G M_X8_evenings X T 0 0 22 [some (rv (8, 99) 135), some (iv x1), some (iv x2), some (iv x3)] [] h9
    refine V_iinc (x3 + (nI 1)) 14 rfl rfl (inc_1 _) (Nat.le_of_ble_eq_true rfl) rfl ?_
    show V G M_X8_evenings X T 0 0 25 [some (rv (8, 99) 135), some (iv x1), some (iv x2), some (iv (x3 + (nI 1)))] [] h9
    refine V_goto 6 15 rfl (by decide +kernel) ?_
    refine V_msk [true, true, true, true] (lc' := [some (rv (8, 99) 135), some (iv x1), some (iv x2), some (iv (x3 + (nI 1)))]) rfl ?_
    exact hK6 x1 x2 (x3 + (nI 1)) h9 e
set_option maxHeartbeats 4000000 in
theorem c_X8_evenings {G : kG} {T : List kT} {x1 : Int32} {x2 : Int32} {h : kH} {r0 : Int32} {h0 : kH} (e : p_X8_evenings x1 x2 h = some (r0, h0)) : k_C G M_X8_evenings T [rv (8, 99) 135, iv x1, iv x2] h (some (iv r0)) h0 := by
  refine k_C_of 1 (by decide +kernel) rfl tb_X8_evenings rfl (fun X hR => ?_)
  show V G M_X8_evenings X T 0 0 0 [some (rv (8, 99) 135), some (iv x1), some (iv x2), none] [] h
  unfold p_X8_evenings at e
  refine V_aload_n 0 rfl rfl ?_
  obtain ⟨h1, d2, e⟩ := bd_e e
  refine V_callV (N := M_X8_tries) (av := []) (st := []) (r := none) (h' := h1) 1 rfl (c_X8_tries d2) g_X8_tries gv_X8_tries lk_RX8_190 ⟨Nat.le_of_ble_eq_true rfl, Nat.le_of_ble_eq_true rfl⟩ rfl rfl (Nat.le_of_ble_eq_true rfl) ⟨Nat.zero_le _, Nat.zero_le _⟩ ?_
  show V G M_X8_evenings X T 0 0 4 [some (rv (8, 99) 135), some (iv x1), some (iv x2), none] [] h1
  refine V_iconst (nI 0) 2 rfl ic_0 ?_
  refine V_istore_n 3 rfl (Nat.le_of_ble_eq_true rfl) rfl ?_
  show V G M_X8_evenings X T 0 0 6 [some (rv (8, 99) 135), some (iv x1), some (iv x2), some (iv (nI 0))] [] h1
  refine V_msk [true, true, true, true] (lc' := [some (rv (8, 99) 135), some (iv x1), some (iv x2), some (iv (nI 0))]) rfl ?_
  exact fx_e (P := fun s => V G M_X8_evenings X T 0 0 6 [some (rv (8, 99) 135), some (iv s.1), some (iv s.2.1), some (iv s.2.2.1)] [] s.2.2.2) (fun K6 hK6 s e => w_X8_evenings_6 hR K6 (fun x1 x2 x3 h e => hK6 (x1, x2, x3, h) e) s.1 s.2.1 s.2.2.1 s.2.2.2 e) FU (x1, x2, (nI 0), h1) e
set_option maxHeartbeats 4000000 in
theorem c_X8_isEvening {G : kG} {T : List kT} {x0 : Int32} {x1 : Int32} {h : kH} {r0 : Int32} {h0 : kH} (e : p_X8_isEvening x0 x1 h = some (r0, h0)) : k_C G M_X8_isEvening T [iv x0, iv x1] h (some (iv r0)) h0 := by
  refine k_C_of 0 (by decide +kernel) rfl tb_X8_isEvening rfl (fun X hR => ?_)
  show V G M_X8_isEvening X T 0 0 0 [some (iv x0), some (iv x1)] [] h
  unfold p_X8_isEvening at e
  refine V_iload_n 0 rfl rfl ?_
  refine V_i2l 1 rfl ?_
  refine V_lconst (0 : Int64) 2 rfl rfl ?_
  refine V_ldc2 (9999 : Int64) 3 rfl kl_RX8_217 ?_
  obtain ⟨v3, h1, d2, e⟩ := bd2_e e
  refine V_callS (N := M_X8_in) (av := [jv (x0).toInt64, jv (0 : Int64), jv (9999 : Int64)]) (st := []) (r := some (iv v3)) (h' := h1) 4 rfl (c_X8_in d2) g_X8_in gs_X8_in lk_RX8_68 ⟨Nat.le_of_ble_eq_true rfl, Nat.le_of_ble_eq_true rfl⟩ rfl (Nat.le_of_ble_eq_true rfl) ⟨Nat.zero_le _, Nat.zero_le _⟩ ?_
  show V G M_X8_isEvening X T 0 0 9 [some (iv x0), some (iv x1)] [iv v3] h1
  rcases if_e e with ⟨c5, e⟩ | ⟨c5, e⟩
  · refine V_if_eq 28 5 rfl (by decide +kernel) (fun _ => ?_) (fun q => absurd c5 q) 
    refine V_iconst (nI 0) 14 rfl ic_0 ?_
    cases e
    exact V_zret 15 rfl z_0 hR rfl
  · refine V_if_eq 28 5 rfl (by decide +kernel) (fun q => absurd q c5) (fun _ => ?_)
    refine V_iload_n 6 rfl rfl ?_
    refine V_i2l 7 rfl ?_
    refine V_lconst (0 : Int64) 8 rfl rfl ?_
    refine V_ldc2 (240 : Int64) 9 rfl kl_RX8_171 ?_
    obtain ⟨v6, h4, d5, e⟩ := bd2_e e
    refine V_callS (N := M_X8_in) (av := [jv (x1).toInt64, jv (0 : Int64), jv (240 : Int64)]) (st := []) (r := some (iv v6)) (h' := h4) 10 rfl (c_X8_in d5) g_X8_in gs_X8_in lk_RX8_68 ⟨Nat.le_of_ble_eq_true rfl, Nat.le_of_ble_eq_true rfl⟩ rfl (Nat.le_of_ble_eq_true rfl) ⟨Nat.zero_le _, Nat.zero_le _⟩ ?_
    show V G M_X8_isEvening X T 0 0 21 [some (iv x0), some (iv x1)] [iv v6] h4
    rcases if_e e with ⟨c11, e⟩ | ⟨c11, e⟩
    · refine V_if_eq 28 11 rfl (by decide +kernel) (fun _ => ?_) (fun q => absurd c11 q) 
      refine V_iconst (nI 0) 14 rfl ic_0 ?_
      cases e
      exact V_zret 15 rfl z_0 hR rfl
    · refine V_if_eq 28 11 rfl (by decide +kernel) (fun q => absurd q c11) (fun _ => ?_)
      refine V_iconst (nI 1) 12 rfl ic_1 ?_
      refine V_goto 29 13 rfl (by decide +kernel) ?_
      cases e
      exact V_zret 15 rfl z_1 hR rfl
set_option maxHeartbeats 4000000 in
theorem c_X8_evening {G : kG} {T : List kT} {x1 : Int32} {x2 : Int32} {h : kH} {r0 : Int32} {h0 : kH} (e : p_X8_evening x1 x2 h = some (r0, h0)) : k_C G M_X8_evening T [rv (8, 99) 135, iv x1, iv x2] h (some (iv r0)) h0 := by
  refine k_C_of 0 (by decide +kernel) rfl tb_X8_evening rfl (fun X hR => ?_)
  show V G M_X8_evening X T 0 0 0 [some (rv (8, 99) 135), some (iv x1), some (iv x2)] [] h
  unfold p_X8_evening at e
  refine V_iload_n 0 rfl rfl ?_
  refine V_iload_n 1 rfl rfl ?_
  obtain ⟨v3, h1, d2, e⟩ := bd2_e e
  refine V_callS (N := M_X8_isEvening) (av := [iv x1, iv x2]) (st := []) (r := some (iv v3)) (h' := h1) 2 rfl (c_X8_isEvening d2) g_X8_isEvening gs_X8_isEvening lk_RX8_219 ⟨Nat.le_of_ble_eq_true rfl, Nat.le_of_ble_eq_true rfl⟩ rfl (Nat.le_of_ble_eq_true rfl) ⟨Nat.zero_le _, Nat.zero_le _⟩ ?_
  show V G M_X8_evening X T 0 0 5 [some (rv (8, 99) 135), some (iv x1), some (iv x2)] [iv v3] h1
  rcases if_e e with ⟨c3, e⟩ | ⟨c3, e⟩
  · refine V_if_eq 17 3 rfl (by decide +kernel) (fun _ => ?_) (fun q => absurd c3 q) 
    refine V_iconst (-1 : Int32) 9 rfl ic_m1 ?_
    cases e
    exact V_iret 10 rfl hR rfl
  · refine V_if_eq 17 3 rfl (by decide +kernel) (fun q => absurd q c3) (fun _ => ?_)
    refine V_aload_n 4 rfl rfl ?_
    refine V_iload_n 5 rfl rfl ?_
    refine V_iload_n 6 rfl rfl ?_
    obtain ⟨v6, h4, d5, e⟩ := bd2_e e
    refine V_callV (N := M_X8_evenings) (av := [iv x1, iv x2]) (st := []) (r := some (iv v6)) (h' := h4) 7 rfl (c_X8_evenings d5) g_X8_evenings gv_X8_evenings lk_RX8_222 ⟨Nat.le_of_ble_eq_true rfl, Nat.le_of_ble_eq_true rfl⟩ rfl rfl (Nat.le_of_ble_eq_true rfl) ⟨Nat.zero_le _, Nat.zero_le _⟩ ?_
    show V G M_X8_evening X T 0 0 14 [some (rv (8, 99) 135), some (iv x1), some (iv x2)] [iv v6] h4
    refine V_goto 18 8 rfl (by decide +kernel) ?_
    cases e
    exact V_iret 10 rfl hR rfl
set_option maxHeartbeats 4000000 in
theorem w_X8_ten_67 {G : kG} {X : kX} {T : List kT} {r0 : Int32} {h0 : kH} (hR : k_R G M_X8_ten X T 0 0 (some (iv r0)) h0) (K24 : Int32 × Int32 × Int32 × Int32 × Int32 × kH → Option (Int32 × kH)) (hK24 : ∀ (x1 : Int32) (x2 : Int32) (x3 : Int32) (x4 : Int32) (x5 : Int32) (h : kH), K24 (x1, x2, x3, x4, x5, h) = some (r0, h0) → V G M_X8_ten X T 0 0 24 [some (rv (8, 99) 135), some (iv x1), some (iv x2), some (iv x3), some (iv x4), some (iv x5), none] [] h) (x1 : Int32) (x2 : Int32) (x3 : Int32) (x5 : Int32) (s0 : Int32) (s1 : Int32) (h : kH) (e : p_X8_ten_67 K24 x1 x2 x3 x5 s0 s1 h = some (r0, h0)) : V G M_X8_ten X T 0 0 67 [some (rv (8, 99) 135), some (iv x1), some (iv x2), some (iv x3), none, some (iv x5), none] [iv s0, iv s1] h := by
  unfold p_X8_ten_67 at e
  refine V_iadd 37 rfl ?_
  refine V_istore 38 rfl (Nat.le_of_ble_eq_true rfl) rfl ?_
  refine le_V (P := fun v10 => V G M_X8_ten X T 0 0 70 [some (rv (8, 99) 135), some (iv x1), some (iv x2), some (iv x3), some (iv v10), some (iv x5), none] [] h) e (fun v10 e => ?_)
  refine V_iinc (x5 + (nI 1)) 39 rfl rfl (inc_1 _) (Nat.le_of_ble_eq_true rfl) rfl ?_
  show V G M_X8_ten X T 0 0 73 [some (rv (8, 99) 135), some (iv x1), some (iv x2), some (iv x3), some (iv v10), some (iv (x5 + (nI 1))), none] [] h
  refine V_goto 24 40 rfl (by decide +kernel) ?_
  refine V_msk [true, true, true, true, true, true, false] (lc' := [some (rv (8, 99) 135), some (iv x1), some (iv x2), some (iv x3), some (iv v10), some (iv (x5 + (nI 1))), none]) rfl ?_
  exact hK24 x1 x2 x3 v10 (x5 + (nI 1)) h e
set_option maxHeartbeats 4000000 in
theorem w_X8_ten_66 {G : kG} {X : kX} {T : List kT} {r0 : Int32} {h0 : kH} (hR : k_R G M_X8_ten X T 0 0 (some (iv r0)) h0) (K24 : Int32 × Int32 × Int32 × Int32 × Int32 × kH → Option (Int32 × kH)) (hK24 : ∀ (x1 : Int32) (x2 : Int32) (x3 : Int32) (x4 : Int32) (x5 : Int32) (h : kH), K24 (x1, x2, x3, x4, x5, h) = some (r0, h0) → V G M_X8_ten X T 0 0 24 [some (rv (8, 99) 135), some (iv x1), some (iv x2), some (iv x3), some (iv x4), some (iv x5), none] [] h) (x1 : Int32) (x2 : Int32) (x3 : Int32) (x5 : Int32) (s0 : Int32) (h : kH) (e : p_X8_ten_66 K24 x1 x2 x3 x5 s0 h = some (r0, h0)) : V G M_X8_ten X T 0 0 66 [some (rv (8, 99) 135), some (iv x1), some (iv x2), some (iv x3), none, some (iv x5), none] [iv s0] h := by
  unfold p_X8_ten_66 at e
  refine V_iconst (nI 0) 36 rfl ic_0 ?_
  refine V_msk [true, true, true, true, false, true, false] (lc' := [some (rv (8, 99) 135), some (iv x1), some (iv x2), some (iv x3), none, some (iv x5), none]) rfl ?_
  exact w_X8_ten_67 hR K24 hK24 x1 x2 x3 x5 (nI 0) s0 h e
set_option maxHeartbeats 4000000 in
theorem w_X8_ten_24 {G : kG} {X : kX} {T : List kT} {r0 : Int32} {h0 : kH} (hR : k_R G M_X8_ten X T 0 0 (some (iv r0)) h0) (K24 : Int32 × Int32 × Int32 × Int32 × Int32 × kH → Option (Int32 × kH)) (hK24 : ∀ (x1 : Int32) (x2 : Int32) (x3 : Int32) (x4 : Int32) (x5 : Int32) (h : kH), K24 (x1, x2, x3, x4, x5, h) = some (r0, h0) → V G M_X8_ten X T 0 0 24 [some (rv (8, 99) 135), some (iv x1), some (iv x2), some (iv x3), some (iv x4), some (iv x5), none] [] h) (x1 : Int32) (x2 : Int32) (x3 : Int32) (x4 : Int32) (x5 : Int32) (h : kH) (e : p_X8_ten_24 K24 x1 x2 x3 x4 x5 h = some (r0, h0)) : V G M_X8_ten X T 0 0 24 [some (rv (8, 99) 135), some (iv x1), some (iv x2), some (iv x3), some (iv x4), some (iv x5), none] [] h := by
  unfold p_X8_ten_24 at e
  refine V_iload 14 rfl rfl ?_
  refine V_bipush (nI 10) 15 rfl bp_10 ?_
  rcases if_e e with ⟨c16, e⟩ | ⟨c16, e⟩
  · refine V_icmp_ge 76 16 rfl (by decide +kernel) (fun _ => ?_) (fun q => absurd c16 q) 
    refine V_iload 41 rfl rfl ?_
    cases e
    exact V_iret 42 rfl hR rfl
  · refine V_icmp_ge 76 16 rfl (by decide +kernel) (fun q => absurd q c16) (fun _ => ?_)
    refine V_aload_n 17 rfl rfl ?_
    refine V_iload_n 18 rfl rfl ?_
    refine V_iload 19 rfl rfl ?_
    refine V_iadd 20 rfl ?_
    refine V_sipush (nI 10000) 21 rfl sp_10000 ?_
    refine V_rem 22 rfl (by decide +kernel) ?_
    refine V_iload_n 23 rfl rfl ?_
    obtain ⟨v9, h7, d8, e⟩ := bd2_e e
    refine V_callV (N := M_X8_evenings) (av := [iv (krem (x1 + x5) (nI 10000)), iv x2]) (st := []) (r := some (iv v9)) (h' := h7) 24 rfl (c_X8_evenings d8) g_X8_evenings gv_X8_evenings lk_RX8_222 ⟨Nat.le_of_ble_eq_true rfl, Nat.le_of_ble_eq_true rfl⟩ rfl rfl (Nat.le_of_ble_eq_true rfl) ⟨Nat.zero_le _, Nat.zero_le _⟩ ?_
    show V G M_X8_ten X T 0 0 44 [some (rv (8, 99) 135), some (iv x1), some (iv x2), some (iv x3), some (iv x4), some (iv x5), none] [iv v9] h7
    refine V_istore 25 rfl (Nat.le_of_ble_eq_true rfl) rfl ?_
    show V G M_X8_ten X T 0 0 46 [some (rv (8, 99) 135), some (iv x1), some (iv x2), some (iv x3), some (iv x4), some (iv x5), some (iv v9)] [] h7
    refine V_iload 26 rfl rfl ?_
    refine V_iload 27 rfl rfl ?_
    rcases if_e e with ⟨c28, e⟩ | ⟨c28, e⟩
    · refine V_if_le 66 28 rfl (by decide +kernel) (fun _ => ?_) (fun q => absurd c28 q) 
      refine V_msk [true, true, true, true, false, true, false] (lc' := [some (rv (8, 99) 135), some (iv x1), some (iv x2), some (iv x3), none, some (iv x5), none]) rfl ?_
      exact w_X8_ten_66 hR K24 hK24 x1 x2 x3 x5 x4 h7 e
    · refine V_if_le 66 28 rfl (by decide +kernel) (fun q => absurd q c28) (fun _ => ?_)
      refine V_aload_n 29 rfl rfl ?_
      refine V_iconst (nI 3) 30 rfl ic_3 ?_
      refine V_iload_n 31 rfl rfl ?_
      obtain ⟨v13, h11, d12, e⟩ := bd2_e e
      refine V_callV (N := M_X8_lossOf) (av := [iv (nI 3), iv x3]) (st := [iv x4]) (r := some (iv v13)) (h' := h11) 32 rfl (c_X8_lossOf d12) g_X8_lossOf gv_X8_lossOf lk_RX8_136 ⟨Nat.le_of_ble_eq_true rfl, Nat.le_of_ble_eq_true rfl⟩ rfl rfl (Nat.le_of_ble_eq_true rfl) ⟨Nat.zero_le _, Nat.zero_le _⟩ ?_
      show V G M_X8_ten X T 0 0 59 [some (rv (8, 99) 135), some (iv x1), some (iv x2), some (iv x3), some (iv x4), some (iv x5), some (iv v9)] [iv v13, iv x4] h11
      rcases if_e e with ⟨c33, e⟩ | ⟨c33, e⟩
      · refine V_if_ne 66 33 rfl (by decide +kernel) (fun q => absurd c33 q) (fun _ => ?_)
        refine V_iconst (nI 1) 34 rfl ic_1 ?_
        refine V_goto 67 35 rfl (by decide +kernel) ?_
        refine V_msk [true, true, true, true, false, true, false] (lc' := [some (rv (8, 99) 135), some (iv x1), some (iv x2), some (iv x3), none, some (iv x5), none]) rfl ?_
        exact w_X8_ten_67 hR K24 hK24 x1 x2 x3 x5 (nI 1) x4 h11 e
      · refine V_if_ne 66 33 rfl (by decide +kernel) (fun _ => ?_) (fun q => absurd q c33) 
        refine V_msk [true, true, true, true, false, true, false] (lc' := [some (rv (8, 99) 135), some (iv x1), some (iv x2), some (iv x3), none, some (iv x5), none]) rfl ?_
        exact w_X8_ten_66 hR K24 hK24 x1 x2 x3 x5 x4 h11 e
set_option maxHeartbeats 4000000 in
theorem c_X8_ten {G : kG} {T : List kT} {x1 : Int32} {x2 : Int32} {x3 : Int32} {h : kH} {r0 : Int32} {h0 : kH} (e : p_X8_ten x1 x2 x3 h = some (r0, h0)) : k_C G M_X8_ten T [rv (8, 99) 135, iv x1, iv x2, iv x3] h (some (iv r0)) h0 := by
  refine k_C_of 3 (by decide +kernel) rfl tb_X8_ten rfl (fun X hR => ?_)
  show V G M_X8_ten X T 0 0 0 [some (rv (8, 99) 135), some (iv x1), some (iv x2), some (iv x3), none, none, none] [] h
  unfold p_X8_ten at e
  refine V_iload_n 0 rfl rfl ?_
  refine V_iload_n 1 rfl rfl ?_
  obtain ⟨v3, h1, d2, e⟩ := bd2_e e
  refine V_callS (N := M_X8_isEvening) (av := [iv x1, iv x2]) (st := []) (r := some (iv v3)) (h' := h1) 2 rfl (c_X8_isEvening d2) g_X8_isEvening gs_X8_isEvening lk_RX8_219 ⟨Nat.le_of_ble_eq_true rfl, Nat.le_of_ble_eq_true rfl⟩ rfl (Nat.le_of_ble_eq_true rfl) ⟨Nat.zero_le _, Nat.zero_le _⟩ ?_
  show V G M_X8_ten X T 0 0 5 [some (rv (8, 99) 135), some (iv x1), some (iv x2), some (iv x3), none, none, none] [iv v3] h1
  rcases if_e e with ⟨c3, e⟩ | ⟨c3, e⟩
  · refine V_if_eq 16 3 rfl (by decide +kernel) (fun _ => ?_) (fun q => absurd c3 q) 
    refine V_iconst (-1 : Int32) 8 rfl ic_m1 ?_
    cases e
    exact V_iret 9 rfl hR rfl
  · refine V_if_eq 16 3 rfl (by decide +kernel) (fun q => absurd q c3) (fun _ => ?_)
    refine V_aload_n 4 rfl rfl ?_
    refine V_iload_n 5 rfl rfl ?_
    obtain ⟨v6, h4, d5, e⟩ := bd2_e e
    refine V_callV (N := M_X8_isPot) (av := [iv x3]) (st := []) (r := some (iv v6)) (h' := h4) 6 rfl (c_X8_isPot d5) g_X8_isPot gv_X8_isPot lk_RX8_133 ⟨Nat.le_of_ble_eq_true rfl, Nat.le_of_ble_eq_true rfl⟩ rfl rfl (Nat.le_of_ble_eq_true rfl) ⟨Nat.zero_le _, Nat.zero_le _⟩ ?_
    show V G M_X8_ten X T 0 0 13 [some (rv (8, 99) 135), some (iv x1), some (iv x2), some (iv x3), none, none, none] [iv v6] h4
    rcases if_e e with ⟨c7, e⟩ | ⟨c7, e⟩
    · refine V_if_ne 18 7 rfl (by decide +kernel) (fun q => absurd c7 q) (fun _ => ?_)
      refine V_iconst (-1 : Int32) 8 rfl ic_m1 ?_
      cases e
      exact V_iret 9 rfl hR rfl
    · refine V_if_ne 18 7 rfl (by decide +kernel) (fun _ => ?_) (fun q => absurd q c7) 
      refine V_iconst (nI 0) 10 rfl ic_0 ?_
      refine V_istore 11 rfl (Nat.le_of_ble_eq_true rfl) rfl ?_
      show V G M_X8_ten X T 0 0 21 [some (rv (8, 99) 135), some (iv x1), some (iv x2), some (iv x3), some (iv (nI 0)), none, none] [] h4
      refine V_iconst (nI 0) 12 rfl ic_0 ?_
      refine V_istore 13 rfl (Nat.le_of_ble_eq_true rfl) rfl ?_
      show V G M_X8_ten X T 0 0 24 [some (rv (8, 99) 135), some (iv x1), some (iv x2), some (iv x3), some (iv (nI 0)), some (iv (nI 0)), none] [] h4
      refine V_msk [true, true, true, true, true, true, false] (lc' := [some (rv (8, 99) 135), some (iv x1), some (iv x2), some (iv x3), some (iv (nI 0)), some (iv (nI 0)), none]) rfl ?_
      exact fx_e (P := fun s => V G M_X8_ten X T 0 0 24 [some (rv (8, 99) 135), some (iv s.1), some (iv s.2.1), some (iv s.2.2.1), some (iv s.2.2.2.1), some (iv s.2.2.2.2.1), none] [] s.2.2.2.2.2) (fun K24 hK24 s e => w_X8_ten_24 hR K24 (fun x1 x2 x3 x4 x5 h e => hK24 (x1, x2, x3, x4, x5, h) e) s.1 s.2.1 s.2.2.1 s.2.2.2.1 s.2.2.2.2.1 s.2.2.2.2.2 e) FU (x1, x2, x3, (nI 0), (nI 0), h4) e
set_option maxHeartbeats 4000000 in
theorem w_X8_found_144 {G : kG} {X : kX} {T : List kT} {h0 : kH} (hR : k_R G M_X8_found X T 0 0 none h0) (s0 : Int32) (s1 : Int32) (h : kH) (e : p_X8_found_144 s0 s1 h = some h0) : V G M_X8_found X T 0 0 144 [none, none, none, none] [iv s0, iv s1, rv (9, 5) 150] h := by
  unfold p_X8_found_144 at e
  obtain ⟨g10, e⟩ := gd_e e
  refine V_iast 88 rfl g10 ?_
  refine le_V (P := fun h11 => V G M_X8_found X T 0 0 145 [none, none, none, none] [] h11) e (fun h11 e => ?_)
  cases e
  exact V_vret 89 rfl hR rfl
set_option maxHeartbeats 4000000 in
theorem w_X8_found_134 {G : kG} {X : kX} {T : List kT} {h0 : kH} (hR : k_R G M_X8_found X T 0 0 none h0) (x2 : Int32) (s0 : Int32) (h : kH) (e : p_X8_found_134 x2 s0 h = some h0) : V G M_X8_found X T 0 0 134 [none, none, some (iv x2), none] [iv s0, rv (9, 5) 150] h := by
  unfold p_X8_found_134 at e
  refine V_iload_n 82 rfl rfl ?_
  refine V_goto 144 83 rfl (by decide +kernel) ?_
  refine V_msk [false, false, false, false] (lc' := [none, none, none, none]) rfl ?_
  exact w_X8_found_144 hR x2 s0 h e
set_option maxHeartbeats 4000000 in
theorem w_X8_found_114 {G : kG} {X : kX} {T : List kT} {h0 : kH} (hR : k_R G M_X8_found X T 0 0 none h0) (x2 : Int32) (x3 : Int32) (s0 : Int32) (s1 : Int32) (h : kH) (e : p_X8_found_114 x2 x3 s0 s1 h = some h0) : V G M_X8_found X T 0 0 114 [some (rv (8, 99) 135), none, some (iv x2), some (iv x3)] [iv s0, iv s1, rv (9, 5) 150] h := by
  unfold p_X8_found_114 at e
  obtain ⟨g8, e⟩ := gd_e e
  refine V_iast 70 rfl g8 ?_
  refine le_V (P := fun h9 => V G M_X8_found X T 0 0 115 [some (rv (8, 99) 135), none, some (iv x2), some (iv x3)] [] h9) e (fun h9 e => ?_)
  refine V_aload_n 71 rfl rfl ?_
  refine V_getR 150 72 rfl fr_RX8_54 ⟨Nat.le_of_ble_eq_true rfl, Or.inl (Nat.le_of_ble_eq_true rfl)⟩ rfl ?_
  refine V_iconst (nI 4) 73 rfl ic_4 ?_
  refine V_iload_n 74 rfl rfl ?_
  rcases if_e e with ⟨c75, e⟩ | ⟨c75, e⟩
  · refine V_if_ne 134 75 rfl (by decide +kernel) (fun q => absurd c75 q) (fun _ => ?_)
    refine V_iload_n 76 rfl rfl ?_
    refine V_aload_n 77 rfl rfl ?_
    refine V_getR 150 78 rfl fr_RX8_54 ⟨Nat.le_of_ble_eq_true rfl, Or.inl (Nat.le_of_ble_eq_true rfl)⟩ rfl ?_
    refine V_iconst (nI 4) 79 rfl ic_4 ?_
    obtain ⟨g12, e⟩ := gd_e e
    refine V_iald 80 rfl g12 ?_
    rcases if_e e with ⟨c81, e⟩ | ⟨c81, e⟩
    · refine V_icmp_le 138 81 rfl (by decide +kernel) (fun _ => ?_) (fun q => absurd c81 q) 
      refine V_aload_n 84 rfl rfl ?_
      refine V_getR 150 85 rfl fr_RX8_54 ⟨Nat.le_of_ble_eq_true rfl, Or.inl (Nat.le_of_ble_eq_true rfl)⟩ rfl ?_
      refine V_iconst (nI 4) 86 rfl ic_4 ?_
      refine V_iald 87 rfl g12 ?_
      refine V_msk [false, false, false, false] (lc' := [none, none, none, none]) rfl ?_
      exact w_X8_found_144 hR (h9 150 ((nI 4)).toNatClampNeg) (nI 4) h9 e
    · refine V_icmp_le 138 81 rfl (by decide +kernel) (fun q => absurd q c81) (fun _ => ?_)
      refine V_msk [false, false, true, false] (lc' := [none, none, some (iv x2), none]) rfl ?_
      exact w_X8_found_134 hR x2 (nI 4) h9 e
  · refine V_if_ne 134 75 rfl (by decide +kernel) (fun _ => ?_) (fun q => absurd q c75) 
    refine V_msk [false, false, true, false] (lc' := [none, none, some (iv x2), none]) rfl ?_
    exact w_X8_found_134 hR x2 (nI 4) h9 e
set_option maxHeartbeats 4000000 in
theorem w_X8_found_104 {G : kG} {X : kX} {T : List kT} {h0 : kH} (hR : k_R G M_X8_found X T 0 0 none h0) (x2 : Int32) (x3 : Int32) (s0 : Int32) (h : kH) (e : p_X8_found_104 x2 x3 s0 h = some h0) : V G M_X8_found X T 0 0 104 [some (rv (8, 99) 135), none, some (iv x2), some (iv x3)] [iv s0, rv (9, 5) 150] h := by
  unfold p_X8_found_104 at e
  refine V_iload_n 64 rfl rfl ?_
  refine V_goto 114 65 rfl (by decide +kernel) ?_
  refine V_msk [true, false, true, true] (lc' := [some (rv (8, 99) 135), none, some (iv x2), some (iv x3)]) rfl ?_
  exact w_X8_found_114 hR x2 x3 x2 s0 h e
set_option maxHeartbeats 4000000 in
theorem w_X8_found_84 {G : kG} {X : kX} {T : List kT} {h0 : kH} (hR : k_R G M_X8_found X T 0 0 none h0) (x2 : Int32) (x3 : Int32) (s0 : Int32) (s1 : Int32) (h : kH) (e : p_X8_found_84 x2 x3 s0 s1 h = some h0) : V G M_X8_found X T 0 0 84 [some (rv (8, 99) 135), none, some (iv x2), some (iv x3)] [iv s0, iv s1, rv (9, 5) 150] h := by
  unfold p_X8_found_84 at e
  obtain ⟨g6, e⟩ := gd_e e
  refine V_iast 52 rfl g6 ?_
  refine le_V (P := fun h7 => V G M_X8_found X T 0 0 85 [some (rv (8, 99) 135), none, some (iv x2), some (iv x3)] [] h7) e (fun h7 e => ?_)
  refine V_aload_n 53 rfl rfl ?_
  refine V_getR 150 54 rfl fr_RX8_54 ⟨Nat.le_of_ble_eq_true rfl, Or.inl (Nat.le_of_ble_eq_true rfl)⟩ rfl ?_
  refine V_iconst (nI 3) 55 rfl ic_3 ?_
  refine V_iload_n 56 rfl rfl ?_
  rcases if_e e with ⟨c57, e⟩ | ⟨c57, e⟩
  · refine V_if_ne 104 57 rfl (by decide +kernel) (fun q => absurd c57 q) (fun _ => ?_)
    refine V_iload_n 58 rfl rfl ?_
    refine V_aload_n 59 rfl rfl ?_
    refine V_getR 150 60 rfl fr_RX8_54 ⟨Nat.le_of_ble_eq_true rfl, Or.inl (Nat.le_of_ble_eq_true rfl)⟩ rfl ?_
    refine V_iconst (nI 3) 61 rfl ic_3 ?_
    obtain ⟨g13, e⟩ := gd_e e
    refine V_iald 62 rfl g13 ?_
    rcases if_e e with ⟨c63, e⟩ | ⟨c63, e⟩
    · refine V_icmp_ge 108 63 rfl (by decide +kernel) (fun _ => ?_) (fun q => absurd c63 q) 
      refine V_aload_n 66 rfl rfl ?_
      refine V_getR 150 67 rfl fr_RX8_54 ⟨Nat.le_of_ble_eq_true rfl, Or.inl (Nat.le_of_ble_eq_true rfl)⟩ rfl ?_
      refine V_iconst (nI 3) 68 rfl ic_3 ?_
      refine V_iald 69 rfl g13 ?_
      refine V_msk [true, false, true, true] (lc' := [some (rv (8, 99) 135), none, some (iv x2), some (iv x3)]) rfl ?_
      exact w_X8_found_114 hR x2 x3 (h7 150 ((nI 3)).toNatClampNeg) (nI 3) h7 e
    · refine V_icmp_ge 108 63 rfl (by decide +kernel) (fun q => absurd q c63) (fun _ => ?_)
      refine V_msk [true, false, true, true] (lc' := [some (rv (8, 99) 135), none, some (iv x2), some (iv x3)]) rfl ?_
      exact w_X8_found_104 hR x2 x3 (nI 3) h7 e
  · refine V_if_ne 104 57 rfl (by decide +kernel) (fun _ => ?_) (fun q => absurd q c57) 
    refine V_msk [true, false, true, true] (lc' := [some (rv (8, 99) 135), none, some (iv x2), some (iv x3)]) rfl ?_
    exact w_X8_found_104 hR x2 x3 (nI 3) h7 e
set_option maxHeartbeats 4000000 in
theorem w_X8_found_74 {G : kG} {X : kX} {T : List kT} {h0 : kH} (hR : k_R G M_X8_found X T 0 0 none h0) (x1 : Int32) (x2 : Int32) (x3 : Int32) (s0 : Int32) (h : kH) (e : p_X8_found_74 x1 x2 x3 s0 h = some h0) : V G M_X8_found X T 0 0 74 [some (rv (8, 99) 135), some (iv x1), some (iv x2), some (iv x3)] [iv s0, rv (9, 5) 150] h := by
  unfold p_X8_found_74 at e
  refine V_iload_n 46 rfl rfl ?_
  refine V_goto 84 47 rfl (by decide +kernel) ?_
  refine V_msk [true, false, true, true] (lc' := [some (rv (8, 99) 135), none, some (iv x2), some (iv x3)]) rfl ?_
  exact w_X8_found_84 hR x2 x3 x1 s0 h e
set_option maxHeartbeats 4000000 in
theorem w_X8_found_54 {G : kG} {X : kX} {T : List kT} {h0 : kH} (hR : k_R G M_X8_found X T 0 0 none h0) (x1 : Int32) (x2 : Int32) (x3 : Int32) (s0 : Int32) (s1 : Int32) (h : kH) (e : p_X8_found_54 x1 x2 x3 s0 s1 h = some h0) : V G M_X8_found X T 0 0 54 [some (rv (8, 99) 135), some (iv x1), some (iv x2), some (iv x3)] [iv s0, iv s1, rv (9, 5) 150] h := by
  unfold p_X8_found_54 at e
  obtain ⟨g4, e⟩ := gd_e e
  refine V_iast 34 rfl g4 ?_
  refine le_V (P := fun h5 => V G M_X8_found X T 0 0 55 [some (rv (8, 99) 135), some (iv x1), some (iv x2), some (iv x3)] [] h5) e (fun h5 e => ?_)
  refine V_aload_n 35 rfl rfl ?_
  refine V_getR 150 36 rfl fr_RX8_54 ⟨Nat.le_of_ble_eq_true rfl, Or.inl (Nat.le_of_ble_eq_true rfl)⟩ rfl ?_
  refine V_iconst (nI 2) 37 rfl ic_2 ?_
  refine V_iload_n 38 rfl rfl ?_
  rcases if_e e with ⟨c39, e⟩ | ⟨c39, e⟩
  · refine V_if_ne 74 39 rfl (by decide +kernel) (fun q => absurd c39 q) (fun _ => ?_)
    refine V_iload_n 40 rfl rfl ?_
    refine V_aload_n 41 rfl rfl ?_
    refine V_getR 150 42 rfl fr_RX8_54 ⟨Nat.le_of_ble_eq_true rfl, Or.inl (Nat.le_of_ble_eq_true rfl)⟩ rfl ?_
    refine V_iconst (nI 2) 43 rfl ic_2 ?_
    obtain ⟨g14, e⟩ := gd_e e
    refine V_iald 44 rfl g14 ?_
    rcases if_e e with ⟨c45, e⟩ | ⟨c45, e⟩
    · refine V_icmp_le 78 45 rfl (by decide +kernel) (fun _ => ?_) (fun q => absurd c45 q) 
      refine V_aload_n 48 rfl rfl ?_
      refine V_getR 150 49 rfl fr_RX8_54 ⟨Nat.le_of_ble_eq_true rfl, Or.inl (Nat.le_of_ble_eq_true rfl)⟩ rfl ?_
      refine V_iconst (nI 2) 50 rfl ic_2 ?_
      refine V_iald 51 rfl g14 ?_
      refine V_msk [true, false, true, true] (lc' := [some (rv (8, 99) 135), none, some (iv x2), some (iv x3)]) rfl ?_
      exact w_X8_found_84 hR x2 x3 (h5 150 ((nI 2)).toNatClampNeg) (nI 2) h5 e
    · refine V_icmp_le 78 45 rfl (by decide +kernel) (fun q => absurd q c45) (fun _ => ?_)
      refine V_msk [true, true, true, true] (lc' := [some (rv (8, 99) 135), some (iv x1), some (iv x2), some (iv x3)]) rfl ?_
      exact w_X8_found_74 hR x1 x2 x3 (nI 2) h5 e
  · refine V_if_ne 74 39 rfl (by decide +kernel) (fun _ => ?_) (fun q => absurd q c39) 
    refine V_msk [true, true, true, true] (lc' := [some (rv (8, 99) 135), some (iv x1), some (iv x2), some (iv x3)]) rfl ?_
    exact w_X8_found_74 hR x1 x2 x3 (nI 2) h5 e
set_option maxHeartbeats 4000000 in
theorem w_X8_found_44 {G : kG} {X : kX} {T : List kT} {h0 : kH} (hR : k_R G M_X8_found X T 0 0 none h0) (x1 : Int32) (x2 : Int32) (x3 : Int32) (s0 : Int32) (h : kH) (e : p_X8_found_44 x1 x2 x3 s0 h = some h0) : V G M_X8_found X T 0 0 44 [some (rv (8, 99) 135), some (iv x1), some (iv x2), some (iv x3)] [iv s0, rv (9, 5) 150] h := by
  unfold p_X8_found_44 at e
  refine V_iload_n 28 rfl rfl ?_
  refine V_goto 54 29 rfl (by decide +kernel) ?_
  refine V_msk [true, true, true, true] (lc' := [some (rv (8, 99) 135), some (iv x1), some (iv x2), some (iv x3)]) rfl ?_
  exact w_X8_found_54 hR x1 x2 x3 x1 s0 h e
set_option maxHeartbeats 4000000 in
theorem w_X8_found_14 {G : kG} {X : kX} {T : List kT} {h0 : kH} (hR : k_R G M_X8_found X T 0 0 none h0) (x1 : Int32) (x2 : Int32) (s0 : Int32) (h : kH) (e : p_X8_found_14 x1 x2 s0 h = some h0) : V G M_X8_found X T 0 0 14 [some (rv (8, 99) 135), some (iv x1), some (iv x2), none] [iv s0] h := by
  unfold p_X8_found_14 at e
  refine V_istore_n 8 rfl (Nat.le_of_ble_eq_true rfl) rfl ?_
  show V G M_X8_found X T 0 0 15 [some (rv (8, 99) 135), some (iv x1), some (iv x2), some (iv s0)] [] h
  refine V_aload_n 9 rfl rfl ?_
  refine V_getR 150 10 rfl fr_RX8_54 ⟨Nat.le_of_ble_eq_true rfl, Or.inl (Nat.le_of_ble_eq_true rfl)⟩ rfl ?_
  refine V_iconst (nI 0) 11 rfl ic_0 ?_
  refine V_dup2 12 rfl nj_i nj_r ?_
  obtain ⟨g2, e⟩ := gd_e e
  refine V_iald 13 rfl g2 ?_
  refine V_iconst (nI 1) 14 rfl ic_1 ?_
  refine V_iadd 15 rfl ?_
  refine V_iast 16 rfl g2 ?_
  refine le_V (P := fun h3 => V G M_X8_found X T 0 0 25 [some (rv (8, 99) 135), some (iv x1), some (iv x2), some (iv s0)] [] h3) e (fun h3 e => ?_)
  refine V_aload_n 17 rfl rfl ?_
  refine V_getR 150 18 rfl fr_RX8_54 ⟨Nat.le_of_ble_eq_true rfl, Or.inl (Nat.le_of_ble_eq_true rfl)⟩ rfl ?_
  refine V_iconst (nI 1) 19 rfl ic_1 ?_
  refine V_iload_n 20 rfl rfl ?_
  rcases if_e e with ⟨c21, e⟩ | ⟨c21, e⟩
  · refine V_if_ne 44 21 rfl (by decide +kernel) (fun q => absurd c21 q) (fun _ => ?_)
    refine V_iload_n 22 rfl rfl ?_
    refine V_aload_n 23 rfl rfl ?_
    refine V_getR 150 24 rfl fr_RX8_54 ⟨Nat.le_of_ble_eq_true rfl, Or.inl (Nat.le_of_ble_eq_true rfl)⟩ rfl ?_
    refine V_iconst (nI 1) 25 rfl ic_1 ?_
    obtain ⟨g15, e⟩ := gd_e e
    refine V_iald 26 rfl g15 ?_
    rcases if_e e with ⟨c27, e⟩ | ⟨c27, e⟩
    · refine V_icmp_ge 48 27 rfl (by decide +kernel) (fun _ => ?_) (fun q => absurd c27 q) 
      refine V_aload_n 30 rfl rfl ?_
      refine V_getR 150 31 rfl fr_RX8_54 ⟨Nat.le_of_ble_eq_true rfl, Or.inl (Nat.le_of_ble_eq_true rfl)⟩ rfl ?_
      refine V_iconst (nI 1) 32 rfl ic_1 ?_
      refine V_iald 33 rfl g15 ?_
      refine V_msk [true, true, true, true] (lc' := [some (rv (8, 99) 135), some (iv x1), some (iv x2), some (iv s0)]) rfl ?_
      exact w_X8_found_54 hR x1 x2 s0 (h3 150 ((nI 1)).toNatClampNeg) (nI 1) h3 e
    · refine V_icmp_ge 48 27 rfl (by decide +kernel) (fun q => absurd q c27) (fun _ => ?_)
      refine V_msk [true, true, true, true] (lc' := [some (rv (8, 99) 135), some (iv x1), some (iv x2), some (iv s0)]) rfl ?_
      exact w_X8_found_44 hR x1 x2 s0 (nI 1) h3 e
  · refine V_if_ne 44 21 rfl (by decide +kernel) (fun _ => ?_) (fun q => absurd q c21) 
    refine V_msk [true, true, true, true] (lc' := [some (rv (8, 99) 135), some (iv x1), some (iv x2), some (iv s0)]) rfl ?_
    exact w_X8_found_44 hR x1 x2 s0 (nI 1) h3 e
set_option maxHeartbeats 4000000 in
theorem c_X8_found {G : kG} {T : List kT} {x1 : Int32} {x2 : Int32} {h : kH} {h0 : kH} (e : p_X8_found x1 x2 h = some h0) : k_C G M_X8_found T [rv (8, 99) 135, iv x1, iv x2] h none h0 := by
  refine k_C_of 1 (by decide +kernel) rfl tb_X8_found rfl (fun X hR => ?_)
  show V G M_X8_found X T 0 0 0 [some (rv (8, 99) 135), some (iv x1), some (iv x2), none] [] h
  unfold p_X8_found at e
  refine V_aload_n 0 rfl rfl ?_
  refine V_getR 150 1 rfl fr_RX8_54 ⟨Nat.le_of_ble_eq_true rfl, Or.inl (Nat.le_of_ble_eq_true rfl)⟩ rfl ?_
  refine V_iconst (nI 0) 2 rfl ic_0 ?_
  obtain ⟨g1, e⟩ := gd_e e
  refine V_iald 3 rfl g1 ?_
  rcases if_e e with ⟨c4, e⟩ | ⟨c4, e⟩
  · refine V_if_ne 13 4 rfl (by decide +kernel) (fun q => absurd c4 q) (fun _ => ?_)
    refine V_iconst (nI 1) 5 rfl ic_1 ?_
    refine V_goto 14 6 rfl (by decide +kernel) ?_
    refine V_msk [true, true, true, false] (lc' := [some (rv (8, 99) 135), some (iv x1), some (iv x2), none]) rfl ?_
    exact w_X8_found_14 hR x1 x2 (nI 1) h e
  · refine V_if_ne 13 4 rfl (by decide +kernel) (fun _ => ?_) (fun q => absurd q c4) 
    refine V_iconst (nI 0) 7 rfl ic_0 ?_
    refine V_msk [true, true, true, false] (lc' := [some (rv (8, 99) 135), some (iv x1), some (iv x2), none]) rfl ?_
    exact w_X8_found_14 hR x1 x2 (nI 0) h e
set_option maxHeartbeats 4000000 in
theorem w_X8_sherd_168 {G : kG} {X : kX} {T : List kT} {r0 : Int32} {h0 : kH} (hR : k_R G M_X8_sherd X T 0 0 (some (iv r0)) h0) (x4 : Int32) (h : kH) (e : p_X8_sherd_168 x4 h = some (r0, h0)) : V G M_X8_sherd X T 0 0 168 [some (rv (8, 99) 135), none, none, none, some (iv x4), none, none, none] [] h := by
  unfold p_X8_sherd_168 at e
  refine V_aload_n 88 rfl rfl ?_
  refine V_getR 150 89 rfl fr_RX8_54 ⟨Nat.le_of_ble_eq_true rfl, Or.inl (Nat.le_of_ble_eq_true rfl)⟩ rfl ?_
  refine V_iload 90 rfl rfl ?_
  obtain ⟨g15, e⟩ := gd_e e
  refine V_iald 91 rfl g15 ?_
  refine V_goto 180 92 rfl (by decide +kernel) ?_
  cases e
  exact V_iret 94 rfl hR rfl
set_option maxHeartbeats 4000000 in
theorem w_X8_sherd_86 {G : kG} {X : kX} {T : List kT} {r0 : Int32} {h0 : kH} (hR : k_R G M_X8_sherd X T 0 0 (some (iv r0)) h0) (K57 : Int32 × Int32 × Int32 × Int32 × Int32 × kH → Option (Int32 × kH)) (K86 : Int32 × Int32 × Int32 × Int32 × Int32 × Int32 × kH → Option (Int32 × kH)) (hK57 : ∀ (x1 : Int32) (x2 : Int32) (x3 : Int32) (x4 : Int32) (x5 : Int32) (h : kH), K57 (x1, x2, x3, x4, x5, h) = some (r0, h0) → V G M_X8_sherd X T 0 0 57 [some (rv (8, 99) 135), some (iv x1), some (iv x2), some (iv x3), some (iv x4), some (iv x5), none, none] [] h) (hK86 : ∀ (x1 : Int32) (x2 : Int32) (x3 : Int32) (x4 : Int32) (x5 : Int32) (x6 : Int32) (h : kH), K86 (x1, x2, x3, x4, x5, x6, h) = some (r0, h0) → V G M_X8_sherd X T 0 0 86 [some (rv (8, 99) 135), some (iv x1), some (iv x2), some (iv x3), some (iv x4), some (iv x5), some (iv x6), none] [] h) (x1 : Int32) (x2 : Int32) (x3 : Int32) (x4 : Int32) (x5 : Int32) (x6 : Int32) (h : kH) (e : p_X8_sherd_86 K57 K86 x1 x2 x3 x4 x5 x6 h = some (r0, h0)) : V G M_X8_sherd X T 0 0 86 [some (rv (8, 99) 135), some (iv x1), some (iv x2), some (iv x3), some (iv x4), some (iv x5), some (iv x6), none] [] h := by
  unfold p_X8_sherd_86 at e
  refine V_iload 47 rfl rfl ?_
  refine V_sipush (nI 240) 48 rfl sp_240 ?_
  rcases if_e e with ⟨c49, e⟩ | ⟨c49, e⟩
  · refine V_icmp_gt 148 49 rfl (by decide +kernel) (fun _ => ?_) (fun q => absurd c49 q) 
    refine V_iinc (x5 + (nI 10)) 79 rfl rfl (inc_10 _) (Nat.le_of_ble_eq_true rfl) rfl ?_
    show V G M_X8_sherd X T 0 0 151 [some (rv (8, 99) 135), some (iv x1), some (iv x2), some (iv x3), some (iv x4), some (iv (x5 + (nI 10))), some (iv x6), none] [] h
    refine V_goto 57 80 rfl (by decide +kernel) ?_
    refine V_msk [true, true, true, true, true, true, false, false] (lc' := [some (rv (8, 99) 135), some (iv x1), some (iv x2), some (iv x3), some (iv x4), some (iv (x5 + (nI 10))), none, none]) rfl ?_
    exact hK57 x1 x2 x3 x4 (x5 + (nI 10)) h e
  · refine V_icmp_gt 148 49 rfl (by decide +kernel) (fun q => absurd q c49) (fun _ => ?_)
    refine V_aload_n 50 rfl rfl ?_
    refine V_bipush (nI 30) 51 rfl bp_30 ?_
    refine V_iconst (nI 0) 52 rfl ic_0 ?_
    obtain ⟨v26, h24, d25, e⟩ := bd2_e e
    refine V_callV (N := M_X8_runs) (av := [iv (nI 30), iv (nI 0)]) (st := []) (r := some (iv v26)) (h' := h24) 53 rfl (c_X8_runs d25) g_X8_runs gv_X8_runs lk_RX8_193 ⟨Nat.le_of_ble_eq_true rfl, Nat.le_of_ble_eq_true rfl⟩ rfl rfl (Nat.le_of_ble_eq_true rfl) ⟨Nat.zero_le _, Nat.zero_le _⟩ ?_
    show V G M_X8_sherd X T 0 0 101 [some (rv (8, 99) 135), some (iv x1), some (iv x2), some (iv x3), some (iv x4), some (iv x5), some (iv x6), none] [iv v26] h24
    refine V_istore 54 rfl (Nat.le_of_ble_eq_true rfl) rfl ?_
    show V G M_X8_sherd X T 0 0 103 [some (rv (8, 99) 135), some (iv x1), some (iv x2), some (iv x3), some (iv x4), some (iv x5), some (iv x6), some (iv v26)] [] h24
    refine V_iload 55 rfl rfl ?_
    rcases if_e e with ⟨c56, e⟩ | ⟨c56, e⟩
    · refine V_if_lt 142 56 rfl (by decide +kernel) (fun _ => ?_) (fun q => absurd c56 q) 
      refine V_iinc (x6 + (nI 30)) 77 rfl rfl (inc_30 _) (Nat.le_of_ble_eq_true rfl) rfl ?_
      show V G M_X8_sherd X T 0 0 145 [some (rv (8, 99) 135), some (iv x1), some (iv x2), some (iv x3), some (iv x4), some (iv x5), some (iv (x6 + (nI 30))), some (iv v26)] [] h24
      refine V_goto 86 78 rfl (by decide +kernel) ?_
      refine V_msk [true, true, true, true, true, true, true, false] (lc' := [some (rv (8, 99) 135), some (iv x1), some (iv x2), some (iv x3), some (iv x4), some (iv x5), some (iv (x6 + (nI 30))), none]) rfl ?_
      exact hK86 x1 x2 x3 x4 x5 (x6 + (nI 30)) h24 e
    · refine V_if_lt 142 56 rfl (by decide +kernel) (fun q => absurd q c56) (fun _ => ?_)
      refine V_aload_n 57 rfl rfl ?_
      refine V_iconst (nI 3) 58 rfl ic_3 ?_
      refine V_iload_n 59 rfl rfl ?_
      obtain ⟨v29, h27, d28, e⟩ := bd2_e e
      refine V_callV (N := M_X8_lossOf) (av := [iv (nI 3), iv x1]) (st := []) (r := some (iv v29)) (h' := h27) 60 rfl (c_X8_lossOf d28) g_X8_lossOf gv_X8_lossOf lk_RX8_136 ⟨Nat.le_of_ble_eq_true rfl, Nat.le_of_ble_eq_true rfl⟩ rfl rfl (Nat.le_of_ble_eq_true rfl) ⟨Nat.zero_le _, Nat.zero_le _⟩ ?_
      show V G M_X8_sherd X T 0 0 114 [some (rv (8, 99) 135), some (iv x1), some (iv x2), some (iv x3), some (iv x4), some (iv x5), some (iv x6), some (iv v26)] [iv v29] h27
      refine V_iload_n 61 rfl rfl ?_
      rcases if_e e with ⟨c62, e⟩ | ⟨c62, e⟩
      · refine V_icmp_ne 142 62 rfl (by decide +kernel) (fun q => absurd c62 q) (fun _ => ?_)
        refine V_aload_n 63 rfl rfl ?_
        refine V_getR 143 64 rfl fr_RX8_32 ⟨Nat.le_of_ble_eq_true rfl, Or.inl (Nat.le_of_ble_eq_true rfl)⟩ rfl ?_
        refine V_iconst (nI 3) 65 rfl ic_3 ?_
        refine V_iload_n 66 rfl rfl ?_
        obtain ⟨v32, h30, d31, e⟩ := bd2_e e
        refine V_callS (N := M_X8_potAt) (av := [iv (nI 3), iv x1]) (st := [rv (9, 800) 143]) (r := some (iv v32)) (h' := h30) 67 rfl (c_X8_potAt d31) g_X8_potAt gs_X8_potAt lk_RX8_120 ⟨Nat.le_of_ble_eq_true rfl, Nat.le_of_ble_eq_true rfl⟩ rfl (Nat.le_of_ble_eq_true rfl) ⟨Nat.zero_le _, Nat.zero_le _⟩ ?_
        show V G M_X8_sherd X T 0 0 127 [some (rv (8, 99) 135), some (iv x1), some (iv x2), some (iv x3), some (iv x4), some (iv x5), some (iv x6), some (iv v26)] [iv v32, rv (9, 800) 143] h30
        refine V_iconst (nI 5) 68 rfl ic_5 ?_
        refine V_iadd 69 rfl ?_
        obtain ⟨g33, e⟩ := gd_e e
        refine V_iald 70 rfl g33 ?_
        refine V_iload_n 71 rfl rfl ?_
        rcases if_e e with ⟨c72, e⟩ | ⟨c72, e⟩
        · refine V_icmp_ne 142 72 rfl (by decide +kernel) (fun q => absurd c72 q) (fun _ => ?_)
          refine V_aload_n 73 rfl rfl ?_
          refine V_iload 74 rfl rfl ?_
          refine V_iload 75 rfl rfl ?_
          obtain ⟨h34, d35, e⟩ := bd_e e
          refine V_callV (N := M_X8_found) (av := [iv x5, iv x6]) (st := []) (r := none) (h' := h34) 76 rfl (c_X8_found d35) g_X8_found gv_X8_found lk_RX8_227 ⟨Nat.le_of_ble_eq_true rfl, Nat.le_of_ble_eq_true rfl⟩ rfl rfl (Nat.le_of_ble_eq_true rfl) ⟨Nat.zero_le _, Nat.zero_le _⟩ ?_
          show V G M_X8_sherd X T 0 0 142 [some (rv (8, 99) 135), some (iv x1), some (iv x2), some (iv x3), some (iv x4), some (iv x5), some (iv x6), some (iv v26)] [] h34
          refine V_iinc (x6 + (nI 30)) 77 rfl rfl (inc_30 _) (Nat.le_of_ble_eq_true rfl) rfl ?_
          show V G M_X8_sherd X T 0 0 145 [some (rv (8, 99) 135), some (iv x1), some (iv x2), some (iv x3), some (iv x4), some (iv x5), some (iv (x6 + (nI 30))), some (iv v26)] [] h34
          refine V_goto 86 78 rfl (by decide +kernel) ?_
          refine V_msk [true, true, true, true, true, true, true, false] (lc' := [some (rv (8, 99) 135), some (iv x1), some (iv x2), some (iv x3), some (iv x4), some (iv x5), some (iv (x6 + (nI 30))), none]) rfl ?_
          exact hK86 x1 x2 x3 x4 x5 (x6 + (nI 30)) h34 e
        · refine V_icmp_ne 142 72 rfl (by decide +kernel) (fun _ => ?_) (fun q => absurd q c72) 
          refine V_iinc (x6 + (nI 30)) 77 rfl rfl (inc_30 _) (Nat.le_of_ble_eq_true rfl) rfl ?_
          show V G M_X8_sherd X T 0 0 145 [some (rv (8, 99) 135), some (iv x1), some (iv x2), some (iv x3), some (iv x4), some (iv x5), some (iv (x6 + (nI 30))), some (iv v26)] [] h30
          refine V_goto 86 78 rfl (by decide +kernel) ?_
          refine V_msk [true, true, true, true, true, true, true, false] (lc' := [some (rv (8, 99) 135), some (iv x1), some (iv x2), some (iv x3), some (iv x4), some (iv x5), some (iv (x6 + (nI 30))), none]) rfl ?_
          exact hK86 x1 x2 x3 x4 x5 (x6 + (nI 30)) h30 e
      · refine V_icmp_ne 142 62 rfl (by decide +kernel) (fun _ => ?_) (fun q => absurd q c62) 
        refine V_iinc (x6 + (nI 30)) 77 rfl rfl (inc_30 _) (Nat.le_of_ble_eq_true rfl) rfl ?_
        show V G M_X8_sherd X T 0 0 145 [some (rv (8, 99) 135), some (iv x1), some (iv x2), some (iv x3), some (iv x4), some (iv x5), some (iv (x6 + (nI 30))), some (iv v26)] [] h27
        refine V_goto 86 78 rfl (by decide +kernel) ?_
        refine V_msk [true, true, true, true, true, true, true, false] (lc' := [some (rv (8, 99) 135), some (iv x1), some (iv x2), some (iv x3), some (iv x4), some (iv x5), some (iv (x6 + (nI 30))), none]) rfl ?_
        exact hK86 x1 x2 x3 x4 x5 (x6 + (nI 30)) h27 e
set_option maxHeartbeats 4000000 in
theorem w_X8_sherd_57 {G : kG} {X : kX} {T : List kT} {r0 : Int32} {h0 : kH} (hR : k_R G M_X8_sherd X T 0 0 (some (iv r0)) h0) (K57 : Int32 × Int32 × Int32 × Int32 × Int32 × kH → Option (Int32 × kH)) (hK57 : ∀ (x1 : Int32) (x2 : Int32) (x3 : Int32) (x4 : Int32) (x5 : Int32) (h : kH), K57 (x1, x2, x3, x4, x5, h) = some (r0, h0) → V G M_X8_sherd X T 0 0 57 [some (rv (8, 99) 135), some (iv x1), some (iv x2), some (iv x3), some (iv x4), some (iv x5), none, none] [] h) (x1 : Int32) (x2 : Int32) (x3 : Int32) (x4 : Int32) (x5 : Int32) (h : kH) (e : p_X8_sherd_57 K57 x1 x2 x3 x4 x5 h = some (r0, h0)) : V G M_X8_sherd X T 0 0 57 [some (rv (8, 99) 135), some (iv x1), some (iv x2), some (iv x3), some (iv x4), some (iv x5), none, none] [] h := by
  unfold p_X8_sherd_57 at e
  refine V_iload 31 rfl rfl ?_
  refine V_bipush (nI 100) 32 rfl bp_100 ?_
  rcases if_e e with ⟨c33, e⟩ | ⟨c33, e⟩
  · refine V_icmp_ge 154 33 rfl (by decide +kernel) (fun _ => ?_) (fun q => absurd c33 q) 
    refine V_iload 81 rfl rfl ?_
    rcases if_e e with ⟨c82, e⟩ | ⟨c82, e⟩
    · refine V_if_eq 168 82 rfl (by decide +kernel) (fun _ => ?_) (fun q => absurd c82 q) 
      refine V_msk [true, false, false, false, true, false, false, false] (lc' := [some (rv (8, 99) 135), none, none, none, some (iv x4), none, none, none]) rfl ?_
      exact w_X8_sherd_168 hR x4 h e
    · refine V_if_eq 168 82 rfl (by decide +kernel) (fun q => absurd q c82) (fun _ => ?_)
      refine V_aload_n 83 rfl rfl ?_
      refine V_getR 150 84 rfl fr_RX8_54 ⟨Nat.le_of_ble_eq_true rfl, Or.inl (Nat.le_of_ble_eq_true rfl)⟩ rfl ?_
      refine V_iconst (nI 0) 85 rfl ic_0 ?_
      obtain ⟨g16, e⟩ := gd_e e
      refine V_iald 86 rfl g16 ?_
      rcases if_e e with ⟨c87, e⟩ | ⟨c87, e⟩
      · refine V_if_le 178 87 rfl (by decide +kernel) (fun _ => ?_) (fun q => absurd c87 q) 
        refine V_bipush (-4 : Int32) 93 rfl bp_m4 ?_
        cases e
        exact V_iret 94 rfl hR rfl
      · refine V_if_le 178 87 rfl (by decide +kernel) (fun q => absurd q c87) (fun _ => ?_)
        refine V_msk [true, false, false, false, true, false, false, false] (lc' := [some (rv (8, 99) 135), none, none, none, some (iv x4), none, none, none]) rfl ?_
        exact w_X8_sherd_168 hR x4 h e
  · refine V_icmp_ge 154 33 rfl (by decide +kernel) (fun q => absurd q c33) (fun _ => ?_)
    refine V_aload_n 34 rfl rfl ?_
    obtain ⟨h17, d18, e⟩ := bd_e e
    refine V_callV (N := M_X8_tries) (av := []) (st := []) (r := none) (h' := h17) 35 rfl (c_X8_tries d18) g_X8_tries gv_X8_tries lk_RX8_190 ⟨Nat.le_of_ble_eq_true rfl, Nat.le_of_ble_eq_true rfl⟩ rfl rfl (Nat.le_of_ble_eq_true rfl) ⟨Nat.zero_le _, Nat.zero_le _⟩ ?_
    show V G M_X8_sherd X T 0 0 68 [some (rv (8, 99) 135), some (iv x1), some (iv x2), some (iv x3), some (iv x4), some (iv x5), none, none] [] h17
    refine V_aload_n 36 rfl rfl ?_
    refine V_getR 143 37 rfl fr_RX8_32 ⟨Nat.le_of_ble_eq_true rfl, Or.inl (Nat.le_of_ble_eq_true rfl)⟩ rfl ?_
    refine V_iconst (nI 3) 38 rfl ic_3 ?_
    refine V_iload_n 39 rfl rfl ?_
    obtain ⟨v21, h19, d20, e⟩ := bd2_e e
    refine V_callS (N := M_X8_potAt) (av := [iv (nI 3), iv x1]) (st := [rv (9, 800) 143]) (r := some (iv v21)) (h' := h19) 40 rfl (c_X8_potAt d20) g_X8_potAt gs_X8_potAt lk_RX8_120 ⟨Nat.le_of_ble_eq_true rfl, Nat.le_of_ble_eq_true rfl⟩ rfl (Nat.le_of_ble_eq_true rfl) ⟨Nat.zero_le _, Nat.zero_le _⟩ ?_
    show V G M_X8_sherd X T 0 0 77 [some (rv (8, 99) 135), some (iv x1), some (iv x2), some (iv x3), some (iv x4), some (iv x5), none, none] [iv v21, rv (9, 800) 143] h19
    refine V_iconst (nI 2) 41 rfl ic_2 ?_
    refine V_iadd 42 rfl ?_
    refine V_iload 43 rfl rfl ?_
    obtain ⟨g22, e⟩ := gd_e e
    refine V_iast 44 rfl g22 ?_
    refine le_V (P := fun h23 => V G M_X8_sherd X T 0 0 82 [some (rv (8, 99) 135), some (iv x1), some (iv x2), some (iv x3), some (iv x4), some (iv x5), none, none] [] h23) e (fun h23 e => ?_)
    refine V_bipush (nI 30) 45 rfl bp_30 ?_
    refine V_istore 46 rfl (Nat.le_of_ble_eq_true rfl) rfl ?_
    show V G M_X8_sherd X T 0 0 86 [some (rv (8, 99) 135), some (iv x1), some (iv x2), some (iv x3), some (iv x4), some (iv x5), some (iv (nI 30)), none] [] h23
    refine V_msk [true, true, true, true, true, true, true, false] (lc' := [some (rv (8, 99) 135), some (iv x1), some (iv x2), some (iv x3), some (iv x4), some (iv x5), some (iv (nI 30)), none]) rfl ?_
    exact fx_e (P := fun s => V G M_X8_sherd X T 0 0 86 [some (rv (8, 99) 135), some (iv s.1), some (iv s.2.1), some (iv s.2.2.1), some (iv s.2.2.2.1), some (iv s.2.2.2.2.1), some (iv s.2.2.2.2.2.1), none] [] s.2.2.2.2.2.2) (fun K86 hK86 s e => w_X8_sherd_86 hR K57 K86 hK57 (fun x1 x2 x3 x4 x5 x6 h e => hK86 (x1, x2, x3, x4, x5, x6, h) e) s.1 s.2.1 s.2.2.1 s.2.2.2.1 s.2.2.2.2.1 s.2.2.2.2.2.1 s.2.2.2.2.2.2 e) FU (x1, x2, x3, x4, x5, (nI 30), h23) e
set_option maxHeartbeats 4000000 in
theorem c_X8_sherd {G : kG} {T : List kT} {x1 : Int32} {x2 : Int32} {x3 : Int32} {x4 : Int32} {h : kH} {r0 : Int32} {h0 : kH} (e : p_X8_sherd x1 x2 x3 x4 h = some (r0, h0)) : k_C G M_X8_sherd T [rv (8, 99) 135, iv x1, iv x2, iv x3, iv x4] h (some (iv r0)) h0 := by
  refine k_C_of 3 (by decide +kernel) rfl tb_X8_sherd rfl (fun X hR => ?_)
  show V G M_X8_sherd X T 0 0 0 [some (rv (8, 99) 135), some (iv x1), some (iv x2), some (iv x3), some (iv x4), none, none, none] [] h
  unfold p_X8_sherd at e
  refine V_aload_n 0 rfl rfl ?_
  refine V_iload_n 1 rfl rfl ?_
  obtain ⟨v3, h1, d2, e⟩ := bd2_e e
  refine V_callV (N := M_X8_isPot) (av := [iv x1]) (st := []) (r := some (iv v3)) (h' := h1) 2 rfl (c_X8_isPot d2) g_X8_isPot gv_X8_isPot lk_RX8_133 ⟨Nat.le_of_ble_eq_true rfl, Nat.le_of_ble_eq_true rfl⟩ rfl rfl (Nat.le_of_ble_eq_true rfl) ⟨Nat.zero_le _, Nat.zero_le _⟩ ?_
  show V G M_X8_sherd X T 0 0 5 [some (rv (8, 99) 135), some (iv x1), some (iv x2), some (iv x3), some (iv x4), none, none, none] [iv v3] h1
  rcases if_e e with ⟨c3, e⟩ | ⟨c3, e⟩
  · refine V_if_eq 45 3 rfl (by decide +kernel) (fun _ => ?_) (fun q => absurd c3 q) 
    refine V_iconst (-1 : Int32) 22 rfl ic_m1 ?_
    cases e
    exact V_iret 23 rfl hR rfl
  · refine V_if_eq 45 3 rfl (by decide +kernel) (fun q => absurd q c3) (fun _ => ?_)
    refine V_iload_n 4 rfl rfl ?_
    refine V_i2l 5 rfl ?_
    refine V_lconst (0 : Int64) 6 rfl rfl ?_
    refine V_ldc2 (5 : Int64) 7 rfl kl_RX8_127 ?_
    obtain ⟨v6, h4, d5, e⟩ := bd2_e e
    refine V_callS (N := M_X8_in) (av := [jv (x2).toInt64, jv (0 : Int64), jv (5 : Int64)]) (st := []) (r := some (iv v6)) (h' := h4) 8 rfl (c_X8_in d5) g_X8_in gs_X8_in lk_RX8_68 ⟨Nat.le_of_ble_eq_true rfl, Nat.le_of_ble_eq_true rfl⟩ rfl (Nat.le_of_ble_eq_true rfl) ⟨Nat.zero_le _, Nat.zero_le _⟩ ?_
    show V G M_X8_sherd X T 0 0 17 [some (rv (8, 99) 135), some (iv x1), some (iv x2), some (iv x3), some (iv x4), none, none, none] [iv v6] h4
    rcases if_e e with ⟨c9, e⟩ | ⟨c9, e⟩
    · refine V_if_eq 45 9 rfl (by decide +kernel) (fun _ => ?_) (fun q => absurd c9 q) 
      refine V_iconst (-1 : Int32) 22 rfl ic_m1 ?_
      cases e
      exact V_iret 23 rfl hR rfl
    · refine V_if_eq 45 9 rfl (by decide +kernel) (fun q => absurd q c9) (fun _ => ?_)
      refine V_iload_n 10 rfl rfl ?_
      refine V_i2l 11 rfl ?_
      refine V_lconst (0 : Int64) 12 rfl rfl ?_
      refine V_ldc2 (2 : Int64) 13 rfl kl_RX8_225 ?_
      obtain ⟨v9, h7, d8, e⟩ := bd2_e e
      refine V_callS (N := M_X8_in) (av := [jv (x3).toInt64, jv (0 : Int64), jv (2 : Int64)]) (st := []) (r := some (iv v9)) (h' := h7) 14 rfl (c_X8_in d8) g_X8_in gs_X8_in lk_RX8_68 ⟨Nat.le_of_ble_eq_true rfl, Nat.le_of_ble_eq_true rfl⟩ rfl (Nat.le_of_ble_eq_true rfl) ⟨Nat.zero_le _, Nat.zero_le _⟩ ?_
      show V G M_X8_sherd X T 0 0 29 [some (rv (8, 99) 135), some (iv x1), some (iv x2), some (iv x3), some (iv x4), none, none, none] [iv v9] h7
      rcases if_e e with ⟨c15, e⟩ | ⟨c15, e⟩
      · refine V_if_eq 45 15 rfl (by decide +kernel) (fun _ => ?_) (fun q => absurd c15 q) 
        refine V_iconst (-1 : Int32) 22 rfl ic_m1 ?_
        cases e
        exact V_iret 23 rfl hR rfl
      · refine V_if_eq 45 15 rfl (by decide +kernel) (fun q => absurd q c15) (fun _ => ?_)
        refine V_iload 16 rfl rfl ?_
        refine V_i2l 17 rfl ?_
        refine V_lconst (0 : Int64) 18 rfl rfl ?_
        refine V_ldc2 (4 : Int64) 19 rfl kl_RX8_185 ?_
        obtain ⟨v12, h10, d11, e⟩ := bd2_e e
        refine V_callS (N := M_X8_in) (av := [jv (x4).toInt64, jv (0 : Int64), jv (4 : Int64)]) (st := []) (r := some (iv v12)) (h' := h10) 20 rfl (c_X8_in d11) g_X8_in gs_X8_in lk_RX8_68 ⟨Nat.le_of_ble_eq_true rfl, Nat.le_of_ble_eq_true rfl⟩ rfl (Nat.le_of_ble_eq_true rfl) ⟨Nat.zero_le _, Nat.zero_le _⟩ ?_
        show V G M_X8_sherd X T 0 0 42 [some (rv (8, 99) 135), some (iv x1), some (iv x2), some (iv x3), some (iv x4), none, none, none] [iv v12] h10
        rcases if_e e with ⟨c21, e⟩ | ⟨c21, e⟩
        · refine V_if_ne 47 21 rfl (by decide +kernel) (fun q => absurd c21 q) (fun _ => ?_)
          refine V_iconst (-1 : Int32) 22 rfl ic_m1 ?_
          cases e
          exact V_iret 23 rfl hR rfl
        · refine V_if_ne 47 21 rfl (by decide +kernel) (fun _ => ?_) (fun q => absurd q c21) 
          refine V_aload_n 24 rfl rfl ?_
          refine V_getR 150 25 rfl fr_RX8_54 ⟨Nat.le_of_ble_eq_true rfl, Or.inl (Nat.le_of_ble_eq_true rfl)⟩ rfl ?_
          refine V_iconst (nI 0) 26 rfl ic_0 ?_
          refine V_iconst (nI 0) 27 rfl ic_0 ?_
          obtain ⟨g13, e⟩ := gd_e e
          refine V_iast 28 rfl g13 ?_
          refine le_V (P := fun h14 => V G M_X8_sherd X T 0 0 54 [some (rv (8, 99) 135), some (iv x1), some (iv x2), some (iv x3), some (iv x4), none, none, none] [] h14) e (fun h14 e => ?_)
          refine V_iconst (nI 0) 29 rfl ic_0 ?_
          refine V_istore 30 rfl (Nat.le_of_ble_eq_true rfl) rfl ?_
          show V G M_X8_sherd X T 0 0 57 [some (rv (8, 99) 135), some (iv x1), some (iv x2), some (iv x3), some (iv x4), some (iv (nI 0)), none, none] [] h14
          refine V_msk [true, true, true, true, true, true, false, false] (lc' := [some (rv (8, 99) 135), some (iv x1), some (iv x2), some (iv x3), some (iv x4), some (iv (nI 0)), none, none]) rfl ?_
          exact fx_e (P := fun s => V G M_X8_sherd X T 0 0 57 [some (rv (8, 99) 135), some (iv s.1), some (iv s.2.1), some (iv s.2.2.1), some (iv s.2.2.2.1), some (iv s.2.2.2.2.1), none, none] [] s.2.2.2.2.2) (fun K57 hK57 s e => w_X8_sherd_57 hR K57 (fun x1 x2 x3 x4 x5 h e => hK57 (x1, x2, x3, x4, x5, h) e) s.1 s.2.1 s.2.2.1 s.2.2.2.1 s.2.2.2.2.1 s.2.2.2.2.2 e) FU (x1, x2, x3, x4, (nI 0), h14) e
set_option maxHeartbeats 4000000 in
theorem c_X8_keep {G : kG} {T : List kT} {h : kH} {r0 : Int32} {h0 : kH} (e : p_X8_keep h = some (r0, h0)) : k_C G M_X8_keep T [rv (8, 99) 135] h (some (iv r0)) h0 := by
  refine k_C_of 0 (by decide +kernel) rfl tb_X8_keep rfl (fun X hR => ?_)
  show V G M_X8_keep X T 0 0 0 [some (rv (8, 99) 135)] [] h
  unfold p_X8_keep at e
  refine V_aload_n 0 rfl rfl ?_
  refine V_getI 1 rfl fi_RX8_110 ?_
  refine V_iconst (nI 2) 2 rfl ic_2 ?_
  rcases if_e e with ⟨c3, e⟩ | ⟨c3, e⟩
  · refine V_icmp_ne 11 3 rfl (by decide +kernel) (fun q => absurd c3 q) (fun _ => ?_)
    refine V_bipush (-3 : Int32) 4 rfl bp_m3 ?_
    cases e
    exact V_iret 5 rfl hR rfl
  · refine V_icmp_ne 11 3 rfl (by decide +kernel) (fun _ => ?_) (fun q => absurd q c3) 
    refine V_aload_n 6 rfl rfl ?_
    refine V_dup 7 rfl nj_r ?_
    refine V_getI 8 rfl fi_RX8_110 ?_
    refine V_iconst (nI 1) 9 rfl ic_1 ?_
    refine V_iadd 10 rfl ?_
    refine V_putI 11 rfl fi_RX8_110 ?_
    refine le_V (P := fun h1 => V G M_X8_keep X T 0 0 21 [some (rv (8, 99) 135)] [] h1) e (fun h1 e => ?_)
    refine V_aload_n 12 rfl rfl ?_
    refine V_iconst (nI 0) 13 rfl ic_0 ?_
    refine V_aload_n 14 rfl rfl ?_
    refine V_getI 15 rfl fi_RX8_110 ?_
    obtain ⟨h2, d3, e⟩ := bd_e e
    refine V_callV (N := M_X8_copies) (av := [iv (nI 0), iv (h1 135 10)]) (st := []) (r := none) (h' := h2) 16 rfl (c_X8_copies d3) g_X8_copies gv_X8_copies lk_RX8_182 ⟨Nat.le_of_ble_eq_true rfl, Nat.le_of_ble_eq_true rfl⟩ rfl rfl (Nat.le_of_ble_eq_true rfl) ⟨Nat.zero_le _, Nat.zero_le _⟩ ?_
    show V G M_X8_keep X T 0 0 30 [some (rv (8, 99) 135)] [] h2
    refine V_aload_n 17 rfl rfl ?_
    refine V_getI 18 rfl fi_RX8_110 ?_
    cases e
    exact V_iret 19 rfl hR rfl
set_option maxHeartbeats 4000000 in
theorem c_X8_back {G : kG} {T : List kT} {h : kH} {r0 : Int32} {h0 : kH} (e : p_X8_back h = some (r0, h0)) : k_C G M_X8_back T [rv (8, 99) 135] h (some (iv r0)) h0 := by
  refine k_C_of 0 (by decide +kernel) rfl tb_X8_back rfl (fun X hR => ?_)
  show V G M_X8_back X T 0 0 0 [some (rv (8, 99) 135)] [] h
  unfold p_X8_back at e
  refine V_aload_n 0 rfl rfl ?_
  refine V_getI 1 rfl fi_RX8_110 ?_
  rcases if_e e with ⟨c2, e⟩ | ⟨c2, e⟩
  · refine V_if_ne 10 2 rfl (by decide +kernel) (fun q => absurd c2 q) (fun _ => ?_)
    refine V_bipush (-2 : Int32) 3 rfl bp_m2 ?_
    cases e
    exact V_iret 4 rfl hR rfl
  · refine V_if_ne 10 2 rfl (by decide +kernel) (fun _ => ?_) (fun q => absurd q c2) 
    refine V_aload_n 5 rfl rfl ?_
    refine V_aload_n 6 rfl rfl ?_
    refine V_getI 7 rfl fi_RX8_110 ?_
    refine V_iconst (nI 0) 8 rfl ic_0 ?_
    obtain ⟨h1, d2, e⟩ := bd_e e
    refine V_callV (N := M_X8_copies) (av := [iv (h 135 10), iv (nI 0)]) (st := []) (r := none) (h' := h1) 9 rfl (c_X8_copies d2) g_X8_copies gv_X8_copies lk_RX8_182 ⟨Nat.le_of_ble_eq_true rfl, Nat.le_of_ble_eq_true rfl⟩ rfl rfl (Nat.le_of_ble_eq_true rfl) ⟨Nat.zero_le _, Nat.zero_le _⟩ ?_
    show V G M_X8_back X T 0 0 19 [some (rv (8, 99) 135)] [] h1
    refine V_aload_n 10 rfl rfl ?_
    refine V_dup 11 rfl nj_r ?_
    refine V_getI 12 rfl fi_RX8_110 ?_
    refine V_iconst (nI 1) 13 rfl ic_1 ?_
    refine V_isub 14 rfl ?_
    refine V_putI 15 rfl fi_RX8_110 ?_
    refine le_V (P := fun h3 => V G M_X8_back X T 0 0 29 [some (rv (8, 99) 135)] [] h3) e (fun h3 e => ?_)
    refine V_aload_n 16 rfl rfl ?_
    refine V_getI 17 rfl fi_RX8_110 ?_
    cases e
    exact V_iret 18 rfl hR rfl
set_option maxHeartbeats 4000000 in
theorem c_X8_count {G : kG} {T : List kT} {x1 : Int32} {h : kH} {r0 : Int32} {h0 : kH} (e : p_X8_count x1 h = some (r0, h0)) : k_C G M_X8_count T [rv (8, 99) 135, iv x1] h (some (iv r0)) h0 := by
  refine k_C_of 0 (by decide +kernel) rfl tb_X8_count rfl (fun X hR => ?_)
  show V G M_X8_count X T 0 0 0 [some (rv (8, 99) 135), some (iv x1)] [] h
  unfold p_X8_count at e
  refine V_iload_n 0 rfl rfl ?_
  rcases if_e e with ⟨c1, e⟩ | ⟨c1, e⟩
  · refine V_if_ne 11 1 rfl (by decide +kernel) (fun q => absurd c1 q) (fun _ => ?_)
    refine V_aload_n 2 rfl rfl ?_
    obtain ⟨v5, h3, d4, e⟩ := bd2_e e
    refine V_callV (N := M_X8_cells) (av := []) (st := []) (r := some (iv v5)) (h' := h3) 3 rfl (c_X8_cells d4) g_X8_cells gv_X8_cells lk_RX8_104 ⟨Nat.le_of_ble_eq_true rfl, Nat.le_of_ble_eq_true rfl⟩ rfl rfl (Nat.le_of_ble_eq_true rfl) ⟨Nat.zero_le _, Nat.zero_le _⟩ ?_
    show V G M_X8_count X T 0 0 8 [some (rv (8, 99) 135), some (iv x1)] [iv v5] h3
    refine V_goto 78 4 rfl (by decide +kernel) ?_
    cases e
    exact V_iret 40 rfl hR rfl
  · refine V_if_ne 11 1 rfl (by decide +kernel) (fun _ => ?_) (fun q => absurd q c1) 
    refine V_iload_n 5 rfl rfl ?_
    refine V_iconst (nI 1) 6 rfl ic_1 ?_
    rcases if_e e with ⟨c7, e⟩ | ⟨c7, e⟩
    · refine V_icmp_ne 25 7 rfl (by decide +kernel) (fun q => absurd c7 q) (fun _ => ?_)
      refine V_aload_n 8 rfl rfl ?_
      refine V_getR 138 9 rfl fr_RX8_17 ⟨Nat.le_of_ble_eq_true rfl, Or.inl (Nat.le_of_ble_eq_true rfl)⟩ rfl ?_
      refine V_iconst (nI 0) 10 rfl ic_0 ?_
      obtain ⟨g2, e⟩ := gd_e e
      refine V_iald 11 rfl g2 ?_
      refine V_goto 78 12 rfl (by decide +kernel) ?_
      cases e
      exact V_iret 40 rfl hR rfl
    · refine V_icmp_ne 25 7 rfl (by decide +kernel) (fun _ => ?_) (fun q => absurd q c7) 
      refine V_iload_n 13 rfl rfl ?_
      refine V_iconst (nI 2) 14 rfl ic_2 ?_
      rcases if_e e with ⟨c15, e⟩ | ⟨c15, e⟩
      · refine V_icmp_ne 37 15 rfl (by decide +kernel) (fun q => absurd c15 q) (fun _ => ?_)
        refine V_aload_n 16 rfl rfl ?_
        refine V_getI 17 rfl fi_RX8_72 ?_
        refine V_goto 78 18 rfl (by decide +kernel) ?_
        cases e
        exact V_iret 40 rfl hR rfl
      · refine V_icmp_ne 37 15 rfl (by decide +kernel) (fun _ => ?_) (fun q => absurd q c15) 
        refine V_iload_n 19 rfl rfl ?_
        refine V_iconst (nI 3) 20 rfl ic_3 ?_
        rcases if_e e with ⟨c21, e⟩ | ⟨c21, e⟩
        · refine V_icmp_ne 53 21 rfl (by decide +kernel) (fun q => absurd c21 q) (fun _ => ?_)
          refine V_aload_n 22 rfl rfl ?_
          refine V_getR 143 23 rfl fr_RX8_32 ⟨Nat.le_of_ble_eq_true rfl, Or.inl (Nat.le_of_ble_eq_true rfl)⟩ rfl ?_
          refine V_sipush (nI 198) 24 rfl sp_198 ?_
          obtain ⟨g1, e⟩ := gd_e e
          refine V_iald 25 rfl g1 ?_
          refine V_goto 78 26 rfl (by decide +kernel) ?_
          cases e
          exact V_iret 40 rfl hR rfl
        · refine V_icmp_ne 53 21 rfl (by decide +kernel) (fun _ => ?_) (fun q => absurd q c21) 
          refine V_iload_n 27 rfl rfl ?_
          refine V_iconst (nI 4) 28 rfl ic_4 ?_
          rcases if_e e with ⟨c29, e⟩ | ⟨c29, e⟩
          · refine V_icmp_ne 65 29 rfl (by decide +kernel) (fun q => absurd c29 q) (fun _ => ?_)
            refine V_aload_n 30 rfl rfl ?_
            refine V_getI 31 rfl fi_RX8_107 ?_
            refine V_goto 78 32 rfl (by decide +kernel) ?_
            cases e
            exact V_iret 40 rfl hR rfl
          · refine V_icmp_ne 65 29 rfl (by decide +kernel) (fun _ => ?_) (fun q => absurd q c29) 
            refine V_iload_n 33 rfl rfl ?_
            refine V_iconst (nI 5) 34 rfl ic_5 ?_
            rcases if_e e with ⟨c35, e⟩ | ⟨c35, e⟩
            · refine V_icmp_ne 77 35 rfl (by decide +kernel) (fun q => absurd c35 q) (fun _ => ?_)
              refine V_aload_n 36 rfl rfl ?_
              refine V_getI 37 rfl fi_RX8_110 ?_
              refine V_goto 78 38 rfl (by decide +kernel) ?_
              cases e
              exact V_iret 40 rfl hR rfl
            · refine V_icmp_ne 77 35 rfl (by decide +kernel) (fun _ => ?_) (fun q => absurd q c35) 
              refine V_iconst (-1 : Int32) 39 rfl ic_m1 ?_
              cases e
              exact V_iret 40 rfl hR rfl
