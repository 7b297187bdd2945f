set_option maxHeartbeats 4000000 in
theorem c_X3_forget {G : kG} {T : List kT} {h : kH} {h0 : kH} (e : p_X3_forget h = some h0) : k_C G M_X3_forget T [rv (3, 99) 2] h none h0 := by
  refine k_C_of 0 (by decide +kernel) rfl tb_X3_forget rfl (fun X hR => ?_)
  show V G M_X3_forget X T 0 0 0 [some (rv (3, 99) 2)] [] h
  unfold p_X3_forget at e
  refine V_aload_n 0 rfl rfl ?_
  refine V_getR 3 1 rfl fr_RX3_12 ⟨Nat.le_of_ble_eq_true rfl, Or.inr rfl⟩ rfl ?_
  obtain ⟨h1, d2, e⟩ := bd_e e
  refine V_callVN (N := M_X5_setDefaults) (av := []) (st := []) (r := none) (h' := h1) 2 rfl (c_X5_setDefaults d2) g_X5_setDefaults gv_X5_setDefaults nk_RX3_45 ⟨Nat.le_of_ble_eq_true rfl, Nat.le_of_ble_eq_true rfl⟩ rfl rfl (Nat.le_of_ble_eq_true rfl) ⟨Nat.zero_le _, Nat.zero_le _⟩ ?_
  show V G M_X3_forget X T 0 0 7 [some (rv (3, 99) 2)] [] h1
  refine V_aload_n 3 rfl rfl ?_
  refine V_getR 6 4 rfl fr_RX3_21 ⟨Nat.le_of_ble_eq_true rfl, Or.inr rfl⟩ rfl ?_
  obtain ⟨h3, d4, e⟩ := bd_e e
  refine V_callVN (N := M_X1_clear) (av := []) (st := []) (r := none) (h' := h3) 5 rfl (c_X1_clear d4) g_X1_clear gv_X1_clear nk_RX3_48 ⟨Nat.le_of_ble_eq_true rfl, Nat.le_of_ble_eq_true rfl⟩ rfl rfl (Nat.le_of_ble_eq_true rfl) ⟨Nat.zero_le _, Nat.zero_le _⟩ ?_
  show V G M_X3_forget X T 0 0 14 [some (rv (3, 99) 2)] [] h3
  refine V_aload_n 6 rfl rfl ?_
  refine V_getR 13 7 rfl fr_RX3_28 ⟨Nat.le_of_ble_eq_true rfl, Or.inr rfl⟩ rfl ?_
  refine V_iconst (nI 0) 8 rfl ic_0 ?_
  refine V_putI 9 rfl fi_RX3_51 ?_
  refine le_V (P := fun h5 => V G M_X3_forget X T 0 0 22 [some (rv (3, 99) 2)] [] h5) e (fun h5 e => ?_)
  cases e
  exact V_vret 10 rfl hR rfl
set_option maxHeartbeats 4000000 in
theorem c_X3_boundsOf {G : kG} {T : List kT} {x0 : Int32} {h : kH} {r0 : Nat} {h0 : kH} (e : p_X3_boundsOf x0 h = some (r0, h0)) : k_C G M_X3_boundsOf T [iv x0] h (some (rv (12, r0) 0)) h0 := by
  refine k_C_of 0 (by decide +kernel) rfl tb_X3_boundsOf rfl (fun X hR => ?_)
  show V G M_X3_boundsOf X T 0 0 0 [some (iv x0)] [] h
  unfold p_X3_boundsOf at e
  refine V_iload_n 0 rfl rfl ?_
  rcases if_e e with ⟨c1, e⟩ | ⟨c1, e⟩
  · refine V_tab 104 1 rfl rfl (off := 103) (by rw [c1]; decide +kernel) (by decide +kernel) ?_
    refine V_gets 1 4 rfl (by decide) fs_RX3_76 ?_
    cases e
    exact V_aret 5 rfl hR rfl (Or.inr ⟨_, rfl⟩)
  rcases if_e e with ⟨c2, e⟩ | ⟨c2, e⟩
  · refine V_tab 132 1 rfl rfl (off := 131) (by rw [c2]; decide +kernel) (by decide +kernel) ?_
    refine V_gets 7 18 rfl (by decide) fs_RX3_94 ?_
    cases e
    exact V_aret 19 rfl hR rfl (Or.inr ⟨_, rfl⟩)
  rcases if_e e with ⟨c3, e⟩ | ⟨c3, e⟩
  · refine V_tab 128 1 rfl rfl (off := 127) (by rw [c3]; decide +kernel) (by decide +kernel) ?_
    refine V_gets 6 16 rfl (by decide) fs_RX3_91 ?_
    cases e
    exact V_aret 17 rfl hR rfl (Or.inr ⟨_, rfl⟩)
  rcases if_e e with ⟨c4, e⟩ | ⟨c4, e⟩
  · refine V_tab 120 1 rfl rfl (off := 119) (by rw [c4]; decide +kernel) (by decide +kernel) ?_
    refine V_gets 4 12 rfl (by decide) fs_RX3_85 ?_
    cases e
    exact V_aret 13 rfl hR rfl (Or.inr ⟨_, rfl⟩)
  rcases if_e e with ⟨c5, e⟩ | ⟨c5, e⟩
  · refine V_tab 124 1 rfl rfl (off := 123) (by rw [c5]; decide +kernel) (by decide +kernel) ?_
    refine V_gets 5 14 rfl (by decide) fs_RX3_88 ?_
    cases e
    exact V_aret 15 rfl hR rfl (Or.inr ⟨_, rfl⟩)
  rcases if_e e with ⟨c6, e⟩ | ⟨c6, e⟩
  · refine V_tab 108 1 rfl rfl (off := 107) (by rw [c6]; decide +kernel) (by decide +kernel) ?_
    refine V_gets 2 6 rfl (by decide) fs_RX3_79 ?_
    cases e
    exact V_aret 7 rfl hR rfl (Or.inr ⟨_, rfl⟩)
  rcases if_e e with ⟨c7, e⟩ | ⟨c7, e⟩
  · refine V_tab 116 1 rfl rfl (off := 115) (by rw [c7]; decide +kernel) (by decide +kernel) ?_
    refine V_gets 3 10 rfl (by decide) fs_RX3_82 ?_
    cases e
    exact V_aret 11 rfl hR rfl (Or.inr ⟨_, rfl⟩)
  rcases if_e e with ⟨c8, e⟩ | ⟨c8, e⟩
  · refine V_tab 112 1 rfl rfl (off := 111) (by rw [c8]; decide +kernel) (by decide +kernel) ?_
    refine V_gets 2 8 rfl (by decide) fs_RX3_79 ?_
    cases e
    exact V_aret 9 rfl hR rfl (Or.inr ⟨_, rfl⟩)
  rcases if_e e with ⟨c9, e⟩ | ⟨c9, e⟩
  · refine V_tab 136 1 rfl rfl (off := 135) (by rw [c9]; decide +kernel) (by decide +kernel) ?_
    refine V_gets 8 20 rfl (by decide) fs_RX3_97 ?_
    cases e
    exact V_aret 21 rfl hR rfl (Or.inr ⟨_, rfl⟩)
  rcases if_e e with ⟨c10, e⟩ | ⟨c10, e⟩
  · refine V_tab 100 1 rfl rfl (off := 99) (by rw [c10]; decide +kernel) (by decide +kernel) ?_
    refine V_gets 0 2 rfl (by decide) fs_RX3_73 ?_
    cases e
    exact V_aret 3 rfl hR rfl (Or.inr ⟨_, rfl⟩)
  refine V_tab 140 1 rfl rfl (tsel_d [99, 100, 104, 107, 108, 111, 112, 115, 118, 119] (List.forall_mem_cons.mpr ⟨c1, List.forall_mem_cons.mpr ⟨c2, List.forall_mem_cons.mpr ⟨c3, List.forall_mem_cons.mpr ⟨c4, List.forall_mem_cons.mpr ⟨c5, List.forall_mem_cons.mpr ⟨c6, List.forall_mem_cons.mpr ⟨c7, List.forall_mem_cons.mpr ⟨c8, List.forall_mem_cons.mpr ⟨c9, List.forall_mem_cons.mpr ⟨c10, fun k hk => by cases hk⟩⟩⟩⟩⟩⟩⟩⟩⟩⟩) (by decide +kernel)) (by decide +kernel) ?_
  refine V_gets 9 22 rfl (by decide) fs_RX3_100 ?_
  cases e
  exact V_aret 23 rfl hR rfl (Or.inr ⟨_, rfl⟩)
set_option maxHeartbeats 4000000 in
theorem w_X3_countFigures_5 {G : kG} {X : kX} {T : List kT} {r0 : Int32} {h0 : kH} (hR : k_R G M_X3_countFigures X T 0 0 (some (iv r0)) h0) (A : Nat) (K5 : Int32 × Int32 × Int32 × kH → Option (Int32 × kH)) (hK5 : ∀ (x2 : Int32) (x3 : Int32) (x4 : Int32) (h : kH), K5 (x2, x3, x4, h) = some (r0, h0) → V G M_X3_countFigures X T 0 0 5 [some (rv (10, 500) A), none, some (iv x2), some (iv x3), some (iv x4)] [] h) (x2 : Int32) (x3 : Int32) (x4 : Int32) (h : kH) (e : p_X3_countFigures_5 K5 A x2 x3 x4 h = some (r0, h0)) : V G M_X3_countFigures X T 0 0 5 [some (rv (10, 500) A), none, some (iv x2), some (iv x3), some (iv x4)] [] h := by
  unfold p_X3_countFigures_5 at e
  refine V_iload 4 rfl rfl ?_
  refine V_iload_n 5 rfl rfl ?_
  rcases if_e e with ⟨c6, e⟩ | ⟨c6, e⟩
  · refine V_icmp_ge 41 6 rfl (by decide +kernel) (fun _ => ?_) (fun q => absurd c6 q) 
    refine V_iload_n 21 rfl rfl ?_
    cases e
    exact V_iret 22 rfl hR rfl
  · refine V_icmp_ge 41 6 rfl (by decide +kernel) (fun q => absurd q c6) (fun _ => ?_)
    refine V_aload_n 7 rfl rfl ?_
    refine V_iload 8 rfl rfl ?_
    obtain ⟨g1, e⟩ := gd_e e
    refine V_bald 9 rfl g1 ?_
    refine V_bipush (nI 48) 10 rfl bp_48 ?_
    rcases if_e e with ⟨c11, e⟩ | ⟨c11, e⟩
    · refine V_icmp_lt 41 11 rfl (by decide +kernel) (fun _ => ?_) (fun q => absurd c11 q) 
      refine V_iload_n 21 rfl rfl ?_
      cases e
      exact V_iret 22 rfl hR rfl
    · refine V_icmp_lt 41 11 rfl (by decide +kernel) (fun q => absurd q c11) (fun _ => ?_)
      refine V_aload_n 12 rfl rfl ?_
      refine V_iload 13 rfl rfl ?_
      refine V_bald 14 rfl g1 ?_
      refine V_bipush (nI 57) 15 rfl bp_57 ?_
      rcases if_e e with ⟨c16, e⟩ | ⟨c16, e⟩
      · refine V_icmp_le 32 16 rfl (by decide +kernel) (fun _ => ?_) (fun q => absurd c16 q) 
        refine V_iinc (x3 + (nI 1)) 18 rfl rfl (inc_1 _) (Nat.le_of_ble_eq_true rfl) rfl ?_
        show V G M_X3_countFigures X T 0 0 35 [some (rv (10, 500) A), none, some (iv x2), some (iv (x3 + (nI 1))), some (iv x4)] [] h
        refine V_iinc (x4 + (nI 1)) 19 rfl rfl (inc_1 _) (Nat.le_of_ble_eq_true rfl) rfl ?_
        show V G M_X3_countFigures X T 0 0 38 [some (rv (10, 500) A), none, some (iv x2), some (iv (x3 + (nI 1))), some (iv (x4 + (nI 1)))] [] h
        refine V_goto 5 20 rfl (by decide +kernel) ?_
        refine V_msk [true, false, true, true, true] (lc' := [some (rv (10, 500) A), none, some (iv x2), some (iv (x3 + (nI 1))), some (iv (x4 + (nI 1)))]) rfl ?_
        exact hK5 x2 (x3 + (nI 1)) (x4 + (nI 1)) h e
      · refine V_icmp_le 32 16 rfl (by decide +kernel) (fun q => absurd q c16) (fun _ => ?_)
        refine V_goto 41 17 rfl (by decide +kernel) ?_
        refine V_iload_n 21 rfl rfl ?_
        cases e
        exact V_iret 22 rfl hR rfl
set_option maxHeartbeats 4000000 in
theorem c_X3_countFigures {G : kG} {T : List kT} {A : Nat} {x1 : Int32} {x2 : Int32} {h : kH} {r0 : Int32} {h0 : kH} (e : p_X3_countFigures A x1 x2 h = some (r0, h0)) : k_C G M_X3_countFigures T [rv (10, 500) A, iv x1, iv x2] h (some (iv r0)) h0 := by
  refine k_C_of 2 (by decide +kernel) rfl tb_X3_countFigures rfl (fun X hR => ?_)
  show V G M_X3_countFigures X T 0 0 0 [some (rv (10, 500) A), some (iv x1), some (iv x2), none, none] [] h
  unfold p_X3_countFigures at e
  refine V_iconst (nI 0) 0 rfl ic_0 ?_
  refine V_istore_n 1 rfl (Nat.le_of_ble_eq_true rfl) rfl ?_
  show V G M_X3_countFigures X T 0 0 2 [some (rv (10, 500) A), some (iv x1), some (iv x2), some (iv (nI 0)), none] [] h
  refine V_iload_n 2 rfl rfl ?_
  refine V_istore 3 rfl (Nat.le_of_ble_eq_true rfl) rfl ?_
  show V G M_X3_countFigures X T 0 0 5 [some (rv (10, 500) A), some (iv x1), some (iv x2), some (iv (nI 0)), some (iv x1)] [] h
  refine V_msk [true, false, true, true, true] (lc' := [some (rv (10, 500) A), none, some (iv x2), some (iv (nI 0)), some (iv x1)]) rfl ?_
  exact fx_e (P := fun s => V G M_X3_countFigures X T 0 0 5 [some (rv (10, 500) A), none, some (iv s.1), some (iv s.2.1), some (iv s.2.2.1)] [] s.2.2.2) (fun K5 hK5 s e => w_X3_countFigures_5 hR A K5 (fun x2 x3 x4 h e => hK5 (x2, x3, x4, h) e) s.1 s.2.1 s.2.2.1 s.2.2.2 e) FU (x2, (nI 0), x1, h) e
set_option maxHeartbeats 4000000 in
theorem w_X3_numberOf_5 {G : kG} {X : kX} {T : List kT} {r0 : Int32} {h0 : kH} (hR : k_R G M_X3_numberOf X T 0 0 (some (iv r0)) h0) (A : Nat) (K5 : Int32 × Int32 × Int32 × kH → Option (Int32 × kH)) (hK5 : ∀ (x2 : Int32) (x3 : Int32) (x4 : Int32) (h : kH), K5 (x2, x3, x4, h) = some (r0, h0) → V G M_X3_numberOf X T 0 0 5 [some (rv (10, 500) A), none, some (iv x2), some (iv x3), some (iv x4)] [] h) (x2 : Int32) (x3 : Int32) (x4 : Int32) (h : kH) (e : p_X3_numberOf_5 K5 A x2 x3 x4 h = some (r0, h0)) : V G M_X3_numberOf X T 0 0 5 [some (rv (10, 500) A), none, some (iv x2), some (iv x3), some (iv x4)] [] h := by
  unfold p_X3_numberOf_5 at e
  refine V_iload 4 rfl rfl ?_
  refine V_iload_n 5 rfl rfl ?_
  rcases if_e e with ⟨c6, e⟩ | ⟨c6, e⟩
  · refine V_icmp_ge 30 6 rfl (by decide +kernel) (fun _ => ?_) (fun q => absurd c6 q) 
    refine V_iload_n 19 rfl rfl ?_
    cases e
    exact V_iret 20 rfl hR rfl
  · refine V_icmp_ge 30 6 rfl (by decide +kernel) (fun q => absurd q c6) (fun _ => ?_)
    refine V_bipush (nI 10) 7 rfl bp_10 ?_
    refine V_iload_n 8 rfl rfl ?_
    refine V_imul 9 rfl ?_
    refine V_aload_n 10 rfl rfl ?_
    refine V_iload 11 rfl rfl ?_
    obtain ⟨g1, e⟩ := gd_e e
    refine V_bald 12 rfl g1 ?_
    refine V_bipush (nI 48) 13 rfl bp_48 ?_
    refine V_isub 14 rfl ?_
    refine V_iadd 15 rfl ?_
    refine V_istore_n 16 rfl (Nat.le_of_ble_eq_true rfl) rfl ?_
    refine le_V (P := fun v2 => V G M_X3_numberOf X T 0 0 24 [some (rv (10, 500) A), none, some (iv x2), some (iv v2), some (iv x4)] [] h) e (fun v2 e => ?_)
    refine V_iinc (x4 + (nI 1)) 17 rfl rfl (inc_1 _) (Nat.le_of_ble_eq_true rfl) rfl ?_
    show V G M_X3_numberOf X T 0 0 27 [some (rv (10, 500) A), none, some (iv x2), some (iv v2), some (iv (x4 + (nI 1)))] [] h
    refine V_goto 5 18 rfl (by decide +kernel) ?_
    refine V_msk [true, false, true, true, true] (lc' := [some (rv (10, 500) A), none, some (iv x2), some (iv v2), some (iv (x4 + (nI 1)))]) rfl ?_
    exact hK5 x2 v2 (x4 + (nI 1)) h e
set_option maxHeartbeats 4000000 in
theorem c_X3_numberOf {G : kG} {T : List kT} {A : Nat} {x1 : Int32} {x2 : Int32} {h : kH} {r0 : Int32} {h0 : kH} (e : p_X3_numberOf A x1 x2 h = some (r0, h0)) : k_C G M_X3_numberOf T [rv (10, 500) A, iv x1, iv x2] h (some (iv r0)) h0 := by
  refine k_C_of 2 (by decide +kernel) rfl tb_X3_numberOf rfl (fun X hR => ?_)
  show V G M_X3_numberOf X T 0 0 0 [some (rv (10, 500) A), some (iv x1), some (iv x2), none, none] [] h
  unfold p_X3_numberOf at e
  refine V_iconst (nI 0) 0 rfl ic_0 ?_
  refine V_istore_n 1 rfl (Nat.le_of_ble_eq_true rfl) rfl ?_
  show V G M_X3_numberOf X T 0 0 2 [some (rv (10, 500) A), some (iv x1), some (iv x2), some (iv (nI 0)), none] [] h
  refine V_iload_n 2 rfl rfl ?_
  refine V_istore 3 rfl (Nat.le_of_ble_eq_true rfl) rfl ?_
  show V G M_X3_numberOf X T 0 0 5 [some (rv (10, 500) A), some (iv x1), some (iv x2), some (iv (nI 0)), some (iv x1)] [] h
  refine V_msk [true, false, true, true, true] (lc' := [some (rv (10, 500) A), none, some (iv x2), some (iv (nI 0)), some (iv x1)]) rfl ?_
  exact fx_e (P := fun s => V G M_X3_numberOf X T 0 0 5 [some (rv (10, 500) A), none, some (iv s.1), some (iv s.2.1), some (iv s.2.2.1)] [] s.2.2.2) (fun K5 hK5 s e => w_X3_numberOf_5 hR A K5 (fun x2 x3 x4 h e => hK5 (x2, x3, x4, h) e) s.1 s.2.1 s.2.2.1 s.2.2.2 e) FU (x2, (nI 0), x1, h) e
set_option maxHeartbeats 4000000 in
theorem w_X3_readNumbers_142 {G : kG} {X : kX} {T : List kT} {r0 : Int32} {h0 : kH} (hR : k_R G M_X3_readNumbers X T 0 0 (some (iv r0)) h0) (A : Nat) (K39 : Int32 × Nat × Int32 × Int32 × Int32 × kH → Option (Int32 × kH)) (hK39 : ∀ (x3 : Int32) (j4 : Nat) (x5 : Int32) (x6 : Int32) (x7 : Int32) (h : kH), K39 (x3, j4, x5, x6, x7, h) = some (r0, h0) → V G M_X3_readNumbers X T 0 0 39 [some (rv (3, 99) 2), some (rv (10, 500) A), none, some (iv x3), some (rv (12, j4) 0), some (iv x5), some (iv x6), some (iv x7), none, none, none] [] h) (x3 : Int32) (j4 : Nat) (x5 : Int32) (x7 : Int32) (x9 : Int32) (x10 : Int32) (s0 : Int32) (s1 : Int32) (h : kH) (e : p_X3_readNumbers_142 K39 A x3 j4 x5 x7 x9 x10 s0 s1 h = some (r0, h0)) : V G M_X3_readNumbers X T 0 0 142 [some (rv (3, 99) 2), some (rv (10, 500) A), none, some (iv x3), some (rv (12, j4) 0), some (iv x5), none, some (iv x7), none, some (iv x9), some (iv x10)] [iv s0, iv s1] h := by
  unfold p_X3_readNumbers_142 at e
  rcases if_e e with ⟨c81, e⟩ | ⟨c81, e⟩
  · refine V_icmp_eq 148 81 rfl (by decide +kernel) (fun _ => ?_) (fun q => absurd c81 q) 
    refine V_aload_n 84 rfl rfl ?_
    refine V_getR 27 85 rfl fr_RX3_39 ⟨Nat.le_of_ble_eq_true rfl, Or.inl (Nat.le_of_ble_eq_true rfl)⟩ rfl ?_
    refine V_iload 86 rfl rfl ?_
    refine V_iload 87 rfl rfl ?_
    obtain ⟨g18, e⟩ := gd_e e
    refine V_iast 88 rfl g18 ?_
    refine le_V (P := fun h19 => V G M_X3_readNumbers X T 0 0 157 [some (rv (3, 99) 2), some (rv (10, 500) A), none, some (iv x3), some (rv (12, j4) 0), some (iv x5), none, some (iv x7), none, some (iv x9), some (iv x10)] [] h19) e (fun h19 e => ?_)
    refine V_iload 89 rfl rfl ?_
    refine V_iconst (nI 1) 90 rfl ic_1 ?_
    refine V_iadd 91 rfl ?_
    refine V_istore 92 rfl (Nat.le_of_ble_eq_true rfl) rfl ?_
    show V G M_X3_readNumbers X T 0 0 163 [some (rv (3, 99) 2), some (rv (10, 500) A), none, some (iv x3), some (rv (12, j4) 0), some (iv x5), some (iv (x9 + (nI 1))), some (iv x7), none, some (iv x9), some (iv x10)] [] h19
    refine V_iinc (x7 + (nI 1)) 93 rfl rfl (inc_1 _) (Nat.le_of_ble_eq_true rfl) rfl ?_
    show V G M_X3_readNumbers X T 0 0 166 [some (rv (3, 99) 2), some (rv (10, 500) A), none, some (iv x3), some (rv (12, j4) 0), some (iv x5), some (iv (x9 + (nI 1))), some (iv (x7 + (nI 1))), none, some (iv x9), some (iv x10)] [] h19
    refine V_goto 39 94 rfl (by decide +kernel) ?_
    refine V_msk [true, true, false, true, true, true, true, true, false, false, false] (lc' := [some (rv (3, 99) 2), some (rv (10, 500) A), none, some (iv x3), some (rv (12, j4) 0), some (iv x5), some (iv (x9 + (nI 1))), some (iv (x7 + (nI 1))), none, none, none]) rfl ?_
    exact hK39 x3 j4 x5 (x9 + (nI 1)) (x7 + (nI 1)) h19 e
  · refine V_icmp_eq 148 81 rfl (by decide +kernel) (fun q => absurd q c81) (fun _ => ?_)
    refine V_bipush (-4 : Int32) 82 rfl bp_m4 ?_
    cases e
    exact V_iret 83 rfl hR rfl
set_option maxHeartbeats 4000000 in
theorem w_X3_readNumbers_39 {G : kG} {X : kX} {T : List kT} {r0 : Int32} {h0 : kH} (hR : k_R G M_X3_readNumbers X T 0 0 (some (iv r0)) h0) (A : Nat) (K39 : Int32 × Nat × Int32 × Int32 × Int32 × kH → Option (Int32 × kH)) (hK39 : ∀ (x3 : Int32) (j4 : Nat) (x5 : Int32) (x6 : Int32) (x7 : Int32) (h : kH), K39 (x3, j4, x5, x6, x7, h) = some (r0, h0) → V G M_X3_readNumbers X T 0 0 39 [some (rv (3, 99) 2), some (rv (10, 500) A), none, some (iv x3), some (rv (12, j4) 0), some (iv x5), some (iv x6), some (iv x7), none, none, none] [] h) (x3 : Int32) (j4 : Nat) (x5 : Int32) (x6 : Int32) (x7 : Int32) (h : kH) (e : p_X3_readNumbers_39 K39 A x3 j4 x5 x6 x7 h = some (r0, h0)) : V G M_X3_readNumbers X T 0 0 39 [some (rv (3, 99) 2), some (rv (10, 500) A), none, some (iv x3), some (rv (12, j4) 0), some (iv x5), some (iv x6), some (iv x7), none, none, none] [] h := by
  unfold p_X3_readNumbers_39 at e
  refine V_iload 24 rfl rfl ?_
  refine V_iload 25 rfl rfl ?_
  rcases if_e e with ⟨c26, e⟩ | ⟨c26, e⟩
  · refine V_icmp_ge 169 26 rfl (by decide +kernel) (fun _ => ?_) (fun q => absurd c26 q) 
    refine V_iload 95 rfl rfl ?_
    cases e
    exact V_iret 96 rfl hR rfl
  · refine V_icmp_ge 169 26 rfl (by decide +kernel) (fun q => absurd q c26) (fun _ => ?_)
    refine V_aload_n 27 rfl rfl ?_
    refine V_iload 28 rfl rfl ?_
    refine V_iload_n 29 rfl rfl ?_
    obtain ⟨v9, h7, d8, e⟩ := bd2_e e
    refine V_callS (N := M_X3_countFigures) (av := [rv (10, 500) A, iv x6, iv x3]) (st := []) (r := some (iv v9)) (h' := h7) 30 rfl (c_X3_countFigures d8) g_X3_countFigures gs_X3_countFigures lk_RX3_67 ⟨Nat.le_of_ble_eq_true rfl, Nat.le_of_ble_eq_true rfl⟩ rfl (Nat.le_of_ble_eq_true rfl) ⟨Nat.zero_le _, Nat.zero_le _⟩ ?_
    show V G M_X3_readNumbers X T 0 0 53 [some (rv (3, 99) 2), some (rv (10, 500) A), none, some (iv x3), some (rv (12, j4) 0), some (iv x5), some (iv x6), some (iv x7), none, none, none] [iv v9] h7
    refine V_istore 31 rfl (Nat.le_of_ble_eq_true rfl) rfl ?_
    show V G M_X3_readNumbers X T 0 0 55 [some (rv (3, 99) 2), some (rv (10, 500) A), none, some (iv x3), some (rv (12, j4) 0), some (iv x5), some (iv x6), some (iv x7), some (iv v9), none, none] [] h7
    refine V_iload 32 rfl rfl ?_
    refine V_iload 33 rfl rfl ?_
    refine V_iadd 34 rfl ?_
    refine V_istore 35 rfl (Nat.le_of_ble_eq_true rfl) rfl ?_
    refine le_V (P := fun v10 => V G M_X3_readNumbers X T 0 0 62 [some (rv (3, 99) 2), some (rv (10, 500) A), none, some (iv x3), some (rv (12, j4) 0), some (iv x5), some (iv x6), some (iv x7), some (iv v9), some (iv v10), none] [] h7) e (fun v10 e => ?_)
    refine V_iload 36 rfl rfl ?_
    refine V_iconst (nI 1) 37 rfl ic_1 ?_
    rcases if_e e with ⟨c38, e⟩ | ⟨c38, e⟩
    · refine V_icmp_lt 80 38 rfl (by decide +kernel) (fun _ => ?_) (fun q => absurd c38 q) 
      refine V_bipush (-4 : Int32) 45 rfl bp_m4 ?_
      cases e
      exact V_iret 46 rfl hR rfl
    · refine V_icmp_lt 80 38 rfl (by decide +kernel) (fun q => absurd q c38) (fun _ => ?_)
      refine V_iload 39 rfl rfl ?_
      refine V_iconst (nI 3) 40 rfl ic_3 ?_
      rcases if_e e with ⟨c41, e⟩ | ⟨c41, e⟩
      · refine V_icmp_gt 80 41 rfl (by decide +kernel) (fun _ => ?_) (fun q => absurd c41 q) 
        refine V_bipush (-4 : Int32) 45 rfl bp_m4 ?_
        cases e
        exact V_iret 46 rfl hR rfl
      · refine V_icmp_gt 80 41 rfl (by decide +kernel) (fun q => absurd q c41) (fun _ => ?_)
        refine V_iload 42 rfl rfl ?_
        refine V_iload_n 43 rfl rfl ?_
        rcases if_e e with ⟨c44, e⟩ | ⟨c44, e⟩
        · refine V_icmp_lt 83 44 rfl (by decide +kernel) (fun _ => ?_) (fun q => absurd c44 q) 
          refine V_aload_n 47 rfl rfl ?_
          refine V_iload 48 rfl rfl ?_
          refine V_iload 49 rfl rfl ?_
          obtain ⟨v13, h11, d12, e⟩ := bd2_e e
          refine V_callS (N := M_X3_numberOf) (av := [rv (10, 500) A, iv x6, iv v10]) (st := []) (r := some (iv v13)) (h' := h11) 50 rfl (c_X3_numberOf d12) g_X3_numberOf gs_X3_numberOf lk_RX3_70 ⟨Nat.le_of_ble_eq_true rfl, Nat.le_of_ble_eq_true rfl⟩ rfl (Nat.le_of_ble_eq_true rfl) ⟨Nat.zero_le _, Nat.zero_le _⟩ ?_
          show V G M_X3_readNumbers X T 0 0 91 [some (rv (3, 99) 2), some (rv (10, 500) A), none, some (iv x3), some (rv (12, j4) 0), some (iv x5), some (iv x6), some (iv x7), some (iv v9), some (iv v10), none] [iv v13] h11
          refine V_istore 51 rfl (Nat.le_of_ble_eq_true rfl) rfl ?_
          show V G M_X3_readNumbers X T 0 0 93 [some (rv (3, 99) 2), some (rv (10, 500) A), none, some (iv x3), some (rv (12, j4) 0), some (iv x5), some (iv x6), some (iv x7), some (iv v9), some (iv v10), some (iv v13)] [] h11
          refine V_iload 52 rfl rfl ?_
          refine V_aload 53 rfl rfl ?_
          refine V_iconst (nI 2) 54 rfl ic_2 ?_
          refine V_iload 55 rfl rfl ?_
          refine V_imul 56 rfl ?_
          obtain ⟨g14, e⟩ := gd_e e
          obtain ⟨g15, e⟩ := gd_e e
          refine V_taldC 57 rfl g15 g14 ?_
          rcases if_e e with ⟨c58, e⟩ | ⟨c58, e⟩
          · refine V_icmp_lt 119 58 rfl (by decide +kernel) (fun _ => ?_) (fun q => absurd c58 q) 
            refine V_bipush (-4 : Int32) 68 rfl bp_m4 ?_
            cases e
            exact V_iret 69 rfl hR rfl
          · refine V_icmp_lt 119 58 rfl (by decide +kernel) (fun q => absurd q c58) (fun _ => ?_)
            refine V_iload 59 rfl rfl ?_
            refine V_aload 60 rfl rfl ?_
            refine V_iconst (nI 2) 61 rfl ic_2 ?_
            refine V_iload 62 rfl rfl ?_
            refine V_imul 63 rfl ?_
            refine V_iconst (nI 1) 64 rfl ic_1 ?_
            refine V_iadd 65 rfl ?_
            obtain ⟨g16, e⟩ := gd_e e
            refine V_taldC 66 rfl g15 g16 ?_
            rcases if_e e with ⟨c67, e⟩ | ⟨c67, e⟩
            · refine V_icmp_le 122 67 rfl (by decide +kernel) (fun _ => ?_) (fun q => absurd c67 q) 
              refine V_aload_n 70 rfl rfl ?_
              refine V_iload 71 rfl rfl ?_
              obtain ⟨g17, e⟩ := gd_e e
              refine V_bald 72 rfl g17 ?_
              refine V_iload 73 rfl rfl ?_
              refine V_iconst (nI 1) 74 rfl ic_1 ?_
              refine V_iadd 75 rfl ?_
              refine V_iload 76 rfl rfl ?_
              rcases if_e e with ⟨c77, e⟩ | ⟨c77, e⟩
              · refine V_icmp_ge 140 77 rfl (by decide +kernel) (fun _ => ?_) (fun q => absurd c77 q) 
                refine V_bipush (nI 59) 80 rfl bp_59 ?_
                refine V_msk [true, true, false, true, true, true, false, true, false, true, true] (lc' := [some (rv (3, 99) 2), some (rv (10, 500) A), none, some (iv x3), some (rv (12, j4) 0), some (iv x5), none, some (iv x7), none, some (iv v10), some (iv v13)]) rfl ?_
                exact w_X3_readNumbers_142 hR A K39 hK39 x3 j4 x5 x7 v10 v13 (nI 59) (h11 A (v10).toNatClampNeg) h11 e
              · refine V_icmp_ge 140 77 rfl (by decide +kernel) (fun q => absurd q c77) (fun _ => ?_)
                refine V_bipush (nI 44) 78 rfl bp_44 ?_
                refine V_goto 142 79 rfl (by decide +kernel) ?_
                refine V_msk [true, true, false, true, true, true, false, true, false, true, true] (lc' := [some (rv (3, 99) 2), some (rv (10, 500) A), none, some (iv x3), some (rv (12, j4) 0), some (iv x5), none, some (iv x7), none, some (iv v10), some (iv v13)]) rfl ?_
                exact w_X3_readNumbers_142 hR A K39 hK39 x3 j4 x5 x7 v10 v13 (nI 44) (h11 A (v10).toNatClampNeg) h11 e
            · refine V_icmp_le 122 67 rfl (by decide +kernel) (fun q => absurd q c67) (fun _ => ?_)
              refine V_bipush (-4 : Int32) 68 rfl bp_m4 ?_
              cases e
              exact V_iret 69 rfl hR rfl
        · refine V_icmp_lt 83 44 rfl (by decide +kernel) (fun q => absurd q c44) (fun _ => ?_)
          refine V_bipush (-4 : Int32) 45 rfl bp_m4 ?_
          cases e
          exact V_iret 46 rfl hR rfl
set_option maxHeartbeats 4000000 in
theorem c_X3_readNumbers {G : kG} {T : List kT} {A : Nat} {x2 : Int32} {x3 : Int32} {h : kH} {r0 : Int32} {h0 : kH} (e : p_X3_readNumbers A x2 x3 h = some (r0, h0)) : k_C G M_X3_readNumbers T [rv (3, 99) 2, rv (10, 500) A, iv x2, iv x3] h (some (iv r0)) h0 := by
  refine k_C_of 7 (by decide +kernel) rfl tb_X3_readNumbers rfl (fun X hR => ?_)
  show V G M_X3_readNumbers X T 0 0 0 [some (rv (3, 99) 2), some (rv (10, 500) A), some (iv x2), some (iv x3), none, none, none, none, none, none, none] [] h
  unfold p_X3_readNumbers at e
  refine V_aload_n 0 rfl rfl ?_
  refine V_iload_n 1 rfl rfl ?_
  obtain ⟨g1, e⟩ := gd_e e
  refine V_bald 2 rfl g1 ?_
  obtain ⟨n4, h2, d3, e⟩ := bd2_e e
  refine V_callS (N := M_X3_boundsOf) (av := [iv (h A (x2).toNatClampNeg)]) (st := []) (r := some (rv (12, n4) 0)) (h' := h2) 3 rfl (c_X3_boundsOf d3) g_X3_boundsOf gs_X3_boundsOf lk_RX3_63 ⟨Nat.le_of_ble_eq_true rfl, Nat.le_of_ble_eq_true rfl⟩ rfl (Nat.le_of_ble_eq_true rfl) ⟨Nat.zero_le _, Nat.zero_le _⟩ ?_
  show V G M_X3_readNumbers X T 0 0 6 [some (rv (3, 99) 2), some (rv (10, 500) A), some (iv x2), some (iv x3), none, none, none, none, none, none, none] [rv (12, n4) 0] h2
  refine V_astore 4 rfl (Nat.le_of_ble_eq_true rfl) rfl ?_
  show V G M_X3_readNumbers X T 0 0 8 [some (rv (3, 99) 2), some (rv (10, 500) A), some (iv x2), some (iv x3), some (rv (12, n4) 0), none, none, none, none, none, none] [] h2
  refine V_aload 5 rfl rfl ?_
  obtain ⟨g5, e⟩ := gd_e e
  refine V_tlenC 6 rfl g5 ?_
  refine V_iconst (nI 2) 7 rfl ic_2 ?_
  refine V_idiv 8 rfl (by decide +kernel) ?_
  refine V_istore 9 rfl (Nat.le_of_ble_eq_true rfl) rfl ?_
  refine le_V (P := fun v6 => V G M_X3_readNumbers X T 0 0 15 [some (rv (3, 99) 2), some (rv (10, 500) A), some (iv x2), some (iv x3), some (rv (12, n4) 0), some (iv v6), none, none, none, none, none] [] h2) e (fun v6 e => ?_)
  refine V_iload 10 rfl rfl ?_
  refine V_iconst (nI 1) 11 rfl ic_1 ?_
  rcases if_e e with ⟨c12, e⟩ | ⟨c12, e⟩
  · refine V_icmp_lt 28 12 rfl (by decide +kernel) (fun _ => ?_) (fun q => absurd c12 q) 
    refine V_bipush (-4 : Int32) 16 rfl bp_m4 ?_
    cases e
    exact V_iret 17 rfl hR rfl
  · refine V_icmp_lt 28 12 rfl (by decide +kernel) (fun q => absurd q c12) (fun _ => ?_)
    refine V_iload 13 rfl rfl ?_
    refine V_bipush (nI 6) 14 rfl bp_6 ?_
    rcases if_e e with ⟨c15, e⟩ | ⟨c15, e⟩
    · refine V_icmp_le 31 15 rfl (by decide +kernel) (fun _ => ?_) (fun q => absurd c15 q) 
      refine V_iload_n 18 rfl rfl ?_
      refine V_iconst (nI 1) 19 rfl ic_1 ?_
      refine V_iadd 20 rfl ?_
      refine V_istore 21 rfl (Nat.le_of_ble_eq_true rfl) rfl ?_
      show V G M_X3_readNumbers X T 0 0 36 [some (rv (3, 99) 2), some (rv (10, 500) A), some (iv x2), some (iv x3), some (rv (12, n4) 0), some (iv v6), some (iv (x2 + (nI 1))), none, none, none, none] [] h2
      refine V_iconst (nI 0) 22 rfl ic_0 ?_
      refine V_istore 23 rfl (Nat.le_of_ble_eq_true rfl) rfl ?_
      show V G M_X3_readNumbers X T 0 0 39 [some (rv (3, 99) 2), some (rv (10, 500) A), some (iv x2), some (iv x3), some (rv (12, n4) 0), some (iv v6), some (iv (x2 + (nI 1))), some (iv (nI 0)), none, none, none] [] h2
      refine V_msk [true, true, false, true, true, true, true, true, false, false, false] (lc' := [some (rv (3, 99) 2), some (rv (10, 500) A), none, some (iv x3), some (rv (12, n4) 0), some (iv v6), some (iv (x2 + (nI 1))), some (iv (nI 0)), none, none, none]) rfl ?_
      exact fx_e (P := fun s => V G M_X3_readNumbers X T 0 0 39 [some (rv (3, 99) 2), some (rv (10, 500) A), none, some (iv s.1), some (rv (12, s.2.1) 0), some (iv s.2.2.1), some (iv s.2.2.2.1), some (iv s.2.2.2.2.1), none, none, none] [] s.2.2.2.2.2) (fun K39 hK39 s e => w_X3_readNumbers_39 hR A K39 (fun x3 j4 x5 x6 x7 h e => hK39 (x3, j4, x5, x6, x7, h) e) s.1 s.2.1 s.2.2.1 s.2.2.2.1 s.2.2.2.2.1 s.2.2.2.2.2 e) FU (x3, n4, v6, (x2 + (nI 1)), (nI 0), h2) e
    · refine V_icmp_le 31 15 rfl (by decide +kernel) (fun q => absurd q c15) (fun _ => ?_)
      refine V_bipush (-4 : Int32) 16 rfl bp_m4 ?_
      cases e
      exact V_iret 17 rfl hR rfl
set_option maxHeartbeats 4000000 in
theorem c_X3_takeCell {G : kG} {T : List kT} {h : kH} {h0 : kH} (e : p_X3_takeCell h = some h0) : k_C G M_X3_takeCell T [rv (3, 99) 2] h none h0 := by
  refine k_C_of 1 (by decide +kernel) rfl tb_X3_takeCell rfl (fun X hR => ?_)
  show V G M_X3_takeCell X T 0 0 0 [some (rv (3, 99) 2), none] [] h
  unfold p_X3_takeCell at e
  refine V_aload_n 0 rfl rfl ?_
  refine V_getR 27 1 rfl fr_RX3_39 ⟨Nat.le_of_ble_eq_true rfl, Or.inl (Nat.le_of_ble_eq_true rfl)⟩ rfl ?_
  refine V_iconst (nI 0) 2 rfl ic_0 ?_
  obtain ⟨g1, e⟩ := gd_e e
  refine V_iald 3 rfl g1 ?_
  refine V_bipush (nI 6) 4 rfl bp_6 ?_
  refine V_aload_n 5 rfl rfl ?_
  refine V_getR 27 6 rfl fr_RX3_39 ⟨Nat.le_of_ble_eq_true rfl, Or.inl (Nat.le_of_ble_eq_true rfl)⟩ rfl ?_
  refine V_iconst (nI 1) 7 rfl ic_1 ?_
  obtain ⟨g2, e⟩ := gd_e e
  refine V_iald 8 rfl g2 ?_
  refine V_imul 9 rfl ?_
  refine V_iadd 10 rfl ?_
  refine V_istore_n 11 rfl (Nat.le_of_ble_eq_true rfl) rfl ?_
  refine le_V (P := fun v3 => V G M_X3_takeCell X T 0 0 17 [some (rv (3, 99) 2), some (iv v3)] [] h) e (fun v3 e => ?_)
  refine V_aload_n 12 rfl rfl ?_
  refine V_getR 6 13 rfl fr_RX3_21 ⟨Nat.le_of_ble_eq_true rfl, Or.inr rfl⟩ rfl ?_
  refine V_getR 9 14 rfl fr_RX3_145 ⟨Nat.le_of_ble_eq_true rfl, Or.inl (Nat.le_of_ble_eq_true rfl)⟩ rfl ?_
  refine V_iload_n 15 rfl rfl ?_
  refine V_aload_n 16 rfl rfl ?_
  refine V_getR 27 17 rfl fr_RX3_39 ⟨Nat.le_of_ble_eq_true rfl, Or.inl (Nat.le_of_ble_eq_true rfl)⟩ rfl ?_
  refine V_iconst (nI 2) 18 rfl ic_2 ?_
  obtain ⟨g4, e⟩ := gd_e e
  refine V_iald 19 rfl g4 ?_
  obtain ⟨g5, e⟩ := gd_e e
  refine V_iast 20 rfl g5 ?_
  refine le_V (P := fun h6 => V G M_X3_takeCell X T 0 0 32 [some (rv (3, 99) 2), some (iv v3)] [] h6) e (fun h6 e => ?_)
  refine V_aload_n 21 rfl rfl ?_
  refine V_getR 6 22 rfl fr_RX3_21 ⟨Nat.le_of_ble_eq_true rfl, Or.inr rfl⟩ rfl ?_
  refine V_getR 8 23 rfl fr_RX3_148 ⟨Nat.le_of_ble_eq_true rfl, Or.inl (Nat.le_of_ble_eq_true rfl)⟩ rfl ?_
  refine V_iload_n 24 rfl rfl ?_
  refine V_aload_n 25 rfl rfl ?_
  refine V_getR 27 26 rfl fr_RX3_39 ⟨Nat.le_of_ble_eq_true rfl, Or.inl (Nat.le_of_ble_eq_true rfl)⟩ rfl ?_
  refine V_iconst (nI 3) 27 rfl ic_3 ?_
  obtain ⟨g7, e⟩ := gd_e e
  refine V_iald 28 rfl g7 ?_
  refine V_iast 29 rfl g5 ?_
  refine le_V (P := fun h8 => V G M_X3_takeCell X T 0 0 47 [some (rv (3, 99) 2), some (iv v3)] [] h8) e (fun h8 e => ?_)
  cases e
  exact V_vret 30 rfl hR rfl
set_option maxHeartbeats 4000000 in
theorem c_X3_takePot {G : kG} {T : List kT} {h : kH} {r0 : Int32} {h0 : kH} (e : p_X3_takePot h = some (r0, h0)) : k_C G M_X3_takePot T [rv (3, 99) 2] h (some (iv r0)) h0 := by
  refine k_C_of 0 (by decide +kernel) rfl tb_X3_takePot rfl (fun X hR => ?_)
  show V G M_X3_takePot X T 0 0 0 [some (rv (3, 99) 2)] [] h
  unfold p_X3_takePot at e
  refine V_aload_n 0 rfl rfl ?_
  refine V_getR 13 1 rfl fr_RX3_28 ⟨Nat.le_of_ble_eq_true rfl, Or.inr rfl⟩ rfl ?_
  refine V_getI 2 rfl fi_RX3_51 ?_
  refine V_bipush (nI 6) 3 rfl bp_6 ?_
  rcases if_e e with ⟨c4, e⟩ | ⟨c4, e⟩
  · refine V_icmp_lt 14 4 rfl (by decide +kernel) (fun _ => ?_) (fun q => absurd c4 q) 
    refine V_aload_n 7 rfl rfl ?_
    refine V_getR 25 8 rfl fr_RX3_32 ⟨Nat.le_of_ble_eq_true rfl, Or.inl (Nat.le_of_ble_eq_true rfl)⟩ rfl ?_
    refine V_aload_n 9 rfl rfl ?_
    refine V_getR 13 10 rfl fr_RX3_28 ⟨Nat.le_of_ble_eq_true rfl, Or.inr rfl⟩ rfl ?_
    refine V_getI 11 rfl fi_RX3_51 ?_
    refine V_aload_n 12 rfl rfl ?_
    refine V_getR 27 13 rfl fr_RX3_39 ⟨Nat.le_of_ble_eq_true rfl, Or.inl (Nat.le_of_ble_eq_true rfl)⟩ rfl ?_
    refine V_iconst (nI 0) 14 rfl ic_0 ?_
    obtain ⟨g1, e⟩ := gd_e e
    refine V_iald 15 rfl g1 ?_
    obtain ⟨g2, e⟩ := gd_e e
    refine V_iast 16 rfl g2 ?_
    refine le_V (P := fun h3 => V G M_X3_takePot X T 0 0 32 [some (rv (3, 99) 2)] [] h3) e (fun h3 e => ?_)
    refine V_aload_n 17 rfl rfl ?_
    refine V_getR 26 18 rfl fr_RX3_36 ⟨Nat.le_of_ble_eq_true rfl, Or.inl (Nat.le_of_ble_eq_true rfl)⟩ rfl ?_
    refine V_aload_n 19 rfl rfl ?_
    refine V_getR 13 20 rfl fr_RX3_28 ⟨Nat.le_of_ble_eq_true rfl, Or.inr rfl⟩ rfl ?_
    refine V_getI 21 rfl fi_RX3_51 ?_
    refine V_aload_n 22 rfl rfl ?_
    refine V_getR 27 23 rfl fr_RX3_39 ⟨Nat.le_of_ble_eq_true rfl, Or.inl (Nat.le_of_ble_eq_true rfl)⟩ rfl ?_
    refine V_iconst (nI 1) 24 rfl ic_1 ?_
    obtain ⟨g4, e⟩ := gd_e e
    refine V_iald 25 rfl g4 ?_
    obtain ⟨g5, e⟩ := gd_e e
    refine V_iast 26 rfl g5 ?_
    refine le_V (P := fun h6 => V G M_X3_takePot X T 0 0 50 [some (rv (3, 99) 2)] [] h6) e (fun h6 e => ?_)
    refine V_aload_n 27 rfl rfl ?_
    refine V_getR 13 28 rfl fr_RX3_28 ⟨Nat.le_of_ble_eq_true rfl, Or.inr rfl⟩ rfl ?_
    refine V_aload_n 29 rfl rfl ?_
    refine V_getR 27 30 rfl fr_RX3_39 ⟨Nat.le_of_ble_eq_true rfl, Or.inl (Nat.le_of_ble_eq_true rfl)⟩ rfl ?_
    obtain ⟨h7, d8, e⟩ := bd_e e
    refine V_callVN (N := M_X4_add) (av := [rv (9, 6) 27]) (st := []) (r := none) (h' := h7) 31 rfl (c_X4_add d8) g_X4_add gv_X4_add nk_RX3_151 ⟨Nat.le_of_ble_eq_true rfl, Nat.le_of_ble_eq_true rfl⟩ rfl rfl (Nat.le_of_ble_eq_true rfl) ⟨Nat.zero_le _, Nat.zero_le _⟩ ?_
    show V G M_X3_takePot X T 0 0 61 [some (rv (3, 99) 2)] [] h7
    refine V_iconst (nI 1) 32 rfl ic_1 ?_
    cases e
    exact V_zret 33 rfl z_1 hR rfl
  · refine V_icmp_lt 14 4 rfl (by decide +kernel) (fun q => absurd q c4) (fun _ => ?_)
    refine V_iconst (nI 0) 5 rfl ic_0 ?_
    cases e
    exact V_zret 6 rfl z_0 hR rfl
set_option maxHeartbeats 4000000 in
theorem c_X3_takeItem {G : kG} {T : List kT} {x1 : Int32} {h : kH} {r0 : Int32} {h0 : kH} (e : p_X3_takeItem x1 h = some (r0, h0)) : k_C G M_X3_takeItem T [rv (3, 99) 2, iv x1] h (some (iv r0)) h0 := by
  refine k_C_of 0 (by decide +kernel) rfl tb_X3_takeItem rfl (fun X hR => ?_)
  show V G M_X3_takeItem X T 0 0 0 [some (rv (3, 99) 2), some (iv x1)] [] h
  unfold p_X3_takeItem at e
  refine V_iload_n 0 rfl rfl ?_
  rcases if_e e with ⟨c3, e⟩ | ⟨c3, e⟩
  · refine V_tab 128 1 rfl rfl (off := 127) (by rw [c3]; decide +kernel) (by decide +kernel) ?_
    refine V_aload_n 18 rfl rfl ?_
    obtain ⟨h1, d2, e⟩ := bd_e e
    refine V_callV (N := M_X3_takeCell) (av := []) (st := []) (r := none) (h' := h1) 19 rfl (c_X3_takeCell d2) g_X3_takeCell gv_X3_takeCell lk_RX3_109 ⟨Nat.le_of_ble_eq_true rfl, Nat.le_of_ble_eq_true rfl⟩ rfl rfl (Nat.le_of_ble_eq_true rfl) ⟨Nat.zero_le _, Nat.zero_le _⟩ ?_
    show V G M_X3_takeItem X T 0 0 132 [some (rv (3, 99) 2), some (iv x1)] [] h1
    refine V_iconst (nI 1) 20 rfl ic_1 ?_
    cases e
    exact V_zret 21 rfl z_1 hR rfl
  rcases if_e e with ⟨c8, e⟩ | ⟨c8, e⟩
  · refine V_tab 263 1 rfl rfl (off := 262) (by rw [c8]; decide +kernel) (by decide +kernel) ?_
    refine V_aload_n 103 rfl rfl ?_
    refine V_getR 3 104 rfl fr_RX3_12 ⟨Nat.le_of_ble_eq_true rfl, Or.inr rfl⟩ rfl ?_
    refine V_aload_n 105 rfl rfl ?_
    refine V_getR 27 106 rfl fr_RX3_39 ⟨Nat.le_of_ble_eq_true rfl, Or.inl (Nat.le_of_ble_eq_true rfl)⟩ rfl ?_
    refine V_iconst (nI 0) 107 rfl ic_0 ?_
    obtain ⟨g4, e⟩ := gd_e e
    refine V_iald 108 rfl g4 ?_
    refine V_putI 109 rfl fi_RX3_136 ?_
    refine le_V (P := fun h5 => V G M_X3_takeItem X T 0 0 276 [some (rv (3, 99) 2), some (iv x1)] [] h5) e (fun h5 e => ?_)
    refine V_aload_n 110 rfl rfl ?_
    refine V_getR 3 111 rfl fr_RX3_12 ⟨Nat.le_of_ble_eq_true rfl, Or.inr rfl⟩ rfl ?_
    refine V_aload_n 112 rfl rfl ?_
    refine V_getR 27 113 rfl fr_RX3_39 ⟨Nat.le_of_ble_eq_true rfl, Or.inl (Nat.le_of_ble_eq_true rfl)⟩ rfl ?_
    refine V_iconst (nI 1) 114 rfl ic_1 ?_
    obtain ⟨g6, e⟩ := gd_e e
    refine V_iald 115 rfl g6 ?_
    refine V_putI 116 rfl fi_RX3_139 ?_
    refine le_V (P := fun h7 => V G M_X3_takeItem X T 0 0 289 [some (rv (3, 99) 2), some (iv x1)] [] h7) e (fun h7 e => ?_)
    refine V_iconst (nI 1) 117 rfl ic_1 ?_
    cases e
    exact V_zret 118 rfl z_1 hR rfl
  rcases if_e e with ⟨c13, e⟩ | ⟨c13, e⟩
  · refine V_tab 235 1 rfl rfl (off := 234) (by rw [c13]; decide +kernel) (by decide +kernel) ?_
    refine V_aload_n 87 rfl rfl ?_
    refine V_getR 3 88 rfl fr_RX3_12 ⟨Nat.le_of_ble_eq_true rfl, Or.inr rfl⟩ rfl ?_
    refine V_aload_n 89 rfl rfl ?_
    refine V_getR 27 90 rfl fr_RX3_39 ⟨Nat.le_of_ble_eq_true rfl, Or.inl (Nat.le_of_ble_eq_true rfl)⟩ rfl ?_
    refine V_iconst (nI 0) 91 rfl ic_0 ?_
    obtain ⟨g9, e⟩ := gd_e e
    refine V_iald 92 rfl g9 ?_
    refine V_putI 93 rfl fi_RX3_130 ?_
    refine le_V (P := fun h10 => V G M_X3_takeItem X T 0 0 248 [some (rv (3, 99) 2), some (iv x1)] [] h10) e (fun h10 e => ?_)
    refine V_aload_n 94 rfl rfl ?_
    refine V_getR 3 95 rfl fr_RX3_12 ⟨Nat.le_of_ble_eq_true rfl, Or.inr rfl⟩ rfl ?_
    refine V_aload_n 96 rfl rfl ?_
    refine V_getR 27 97 rfl fr_RX3_39 ⟨Nat.le_of_ble_eq_true rfl, Or.inl (Nat.le_of_ble_eq_true rfl)⟩ rfl ?_
    refine V_iconst (nI 1) 98 rfl ic_1 ?_
    obtain ⟨g11, e⟩ := gd_e e
    refine V_iald 99 rfl g11 ?_
    refine V_putI 100 rfl fi_RX3_133 ?_
    refine le_V (P := fun h12 => V G M_X3_takeItem X T 0 0 261 [some (rv (3, 99) 2), some (iv x1)] [] h12) e (fun h12 e => ?_)
    refine V_iconst (nI 1) 101 rfl ic_1 ?_
    cases e
    exact V_zret 102 rfl z_1 hR rfl
  rcases if_e e with ⟨c19, e⟩ | ⟨c19, e⟩
  · refine V_tab 193 1 rfl rfl (off := 192) (by rw [c19]; decide +kernel) (by decide +kernel) ?_
    refine V_aload_n 61 rfl rfl ?_
    refine V_getR 3 62 rfl fr_RX3_12 ⟨Nat.le_of_ble_eq_true rfl, Or.inr rfl⟩ rfl ?_
    refine V_aload_n 63 rfl rfl ?_
    refine V_getR 27 64 rfl fr_RX3_39 ⟨Nat.le_of_ble_eq_true rfl, Or.inl (Nat.le_of_ble_eq_true rfl)⟩ rfl ?_
    refine V_iconst (nI 0) 65 rfl ic_0 ?_
    obtain ⟨g14, e⟩ := gd_e e
    refine V_iald 66 rfl g14 ?_
    refine V_aload_n 67 rfl rfl ?_
    refine V_getR 27 68 rfl fr_RX3_39 ⟨Nat.le_of_ble_eq_true rfl, Or.inl (Nat.le_of_ble_eq_true rfl)⟩ rfl ?_
    refine V_iconst (nI 1) 69 rfl ic_1 ?_
    obtain ⟨g15, e⟩ := gd_e e
    refine V_iald 70 rfl g15 ?_
    refine V_aload_n 71 rfl rfl ?_
    refine V_getR 27 72 rfl fr_RX3_39 ⟨Nat.le_of_ble_eq_true rfl, Or.inl (Nat.le_of_ble_eq_true rfl)⟩ rfl ?_
    refine V_iconst (nI 2) 73 rfl ic_2 ?_
    obtain ⟨g16, e⟩ := gd_e e
    refine V_iald 74 rfl g16 ?_
    obtain ⟨h17, d18, e⟩ := bd_e e
    refine V_callVN (N := M_X5_setKind) (av := [iv (h 27 ((nI 0)).toNatClampNeg), iv (h 27 ((nI 1)).toNatClampNeg), iv (h 27 ((nI 2)).toNatClampNeg)]) (st := []) (r := none) (h' := h17) 75 rfl (c_X5_setKind d18) g_X5_setKind gv_X5_setKind nk_RX3_123 ⟨Nat.le_of_ble_eq_true rfl, Nat.le_of_ble_eq_true rfl⟩ rfl rfl (Nat.le_of_ble_eq_true rfl) ⟨Nat.zero_le _, Nat.zero_le _⟩ ?_
    show V G M_X3_takeItem X T 0 0 218 [some (rv (3, 99) 2), some (iv x1)] [] h17
    refine V_iconst (nI 1) 76 rfl ic_1 ?_
    cases e
    exact V_zret 77 rfl z_1 hR rfl
  rcases if_e e with ⟨c22, e⟩ | ⟨c22, e⟩
  · refine V_tab 220 1 rfl rfl (off := 219) (by rw [c22]; decide +kernel) (by decide +kernel) ?_
    refine V_aload_n 78 rfl rfl ?_
    refine V_getR 3 79 rfl fr_RX3_12 ⟨Nat.le_of_ble_eq_true rfl, Or.inr rfl⟩ rfl ?_
    refine V_aload_n 80 rfl rfl ?_
    refine V_getR 27 81 rfl fr_RX3_39 ⟨Nat.le_of_ble_eq_true rfl, Or.inl (Nat.le_of_ble_eq_true rfl)⟩ rfl ?_
    refine V_iconst (nI 0) 82 rfl ic_0 ?_
    obtain ⟨g20, e⟩ := gd_e e
    refine V_iald 83 rfl g20 ?_
    refine V_putI 84 rfl fi_RX3_127 ?_
    refine le_V (P := fun h21 => V G M_X3_takeItem X T 0 0 233 [some (rv (3, 99) 2), some (iv x1)] [] h21) e (fun h21 e => ?_)
    refine V_iconst (nI 1) 85 rfl ic_1 ?_
    cases e
    exact V_zret 86 rfl z_1 hR rfl
  rcases if_e e with ⟨c27, e⟩ | ⟨c27, e⟩
  · refine V_tab 134 1 rfl rfl (off := 133) (by rw [c27]; decide +kernel) (by decide +kernel) ?_
    refine V_aload_n 22 rfl rfl ?_
    refine V_getR 6 23 rfl fr_RX3_21 ⟨Nat.le_of_ble_eq_true rfl, Or.inr rfl⟩ rfl ?_
    refine V_getR 10 24 rfl fr_RX3_112 ⟨Nat.le_of_ble_eq_true rfl, Or.inl (Nat.le_of_ble_eq_true rfl)⟩ rfl ?_
    refine V_aload_n 25 rfl rfl ?_
    refine V_getR 27 26 rfl fr_RX3_39 ⟨Nat.le_of_ble_eq_true rfl, Or.inl (Nat.le_of_ble_eq_true rfl)⟩ rfl ?_
    refine V_iconst (nI 0) 27 rfl ic_0 ?_
    obtain ⟨g23, e⟩ := gd_e e
    refine V_iald 28 rfl g23 ?_
    refine V_bipush (nI 6) 29 rfl bp_6 ?_
    refine V_aload_n 30 rfl rfl ?_
    refine V_getR 27 31 rfl fr_RX3_39 ⟨Nat.le_of_ble_eq_true rfl, Or.inl (Nat.le_of_ble_eq_true rfl)⟩ rfl ?_
    refine V_iconst (nI 1) 32 rfl ic_1 ?_
    obtain ⟨g24, e⟩ := gd_e e
    refine V_iald 33 rfl g24 ?_
    refine V_imul 34 rfl ?_
    refine V_iadd 35 rfl ?_
    refine V_iconst (nI 1) 36 rfl ic_1 ?_
    obtain ⟨g25, e⟩ := gd_e e
    refine V_zast 37 rfl g25 ?_
    refine le_V (P := fun h26 => V G M_X3_takeItem X T 0 0 159 [some (rv (3, 99) 2), some (iv x1)] [] h26) e (fun h26 e => ?_)
    refine V_iconst (nI 1) 38 rfl ic_1 ?_
    cases e
    exact V_zret 39 rfl z_1 hR rfl
  rcases if_e e with ⟨c32, e⟩ | ⟨c32, e⟩
  · refine V_tab 188 1 rfl rfl (off := 187) (by rw [c32]; decide +kernel) (by decide +kernel) ?_
    refine V_aload_n 58 rfl rfl ?_
    obtain ⟨v30, h28, d29, e⟩ := bd2_e e
    refine V_callV (N := M_X3_takePot) (av := []) (st := []) (r := some (iv v30)) (h' := h28) 59 rfl (c_X3_takePot d29) g_X3_takePot gv_X3_takePot lk_RX3_119 ⟨Nat.le_of_ble_eq_true rfl, Nat.le_of_ble_eq_true rfl⟩ rfl rfl (Nat.le_of_ble_eq_true rfl) ⟨Nat.zero_le _, Nat.zero_le _⟩ ?_
    show V G M_X3_takeItem X T 0 0 192 [some (rv (3, 99) 2), some (iv x1)] [iv v30] h28
    obtain ⟨g31, e⟩ := gd_e e
    cases e
    exact V_zret 60 rfl (of_decide_eq_true g31) hR rfl
  rcases if_e e with ⟨c37, e⟩ | ⟨c37, e⟩
  · refine V_tab 161 1 rfl rfl (off := 160) (by rw [c37]; decide +kernel) (by decide +kernel) ?_
    refine V_aload_n 40 rfl rfl ?_
    refine V_getR 6 41 rfl fr_RX3_21 ⟨Nat.le_of_ble_eq_true rfl, Or.inr rfl⟩ rfl ?_
    refine V_getR 11 42 rfl fr_RX3_116 ⟨Nat.le_of_ble_eq_true rfl, Or.inl (Nat.le_of_ble_eq_true rfl)⟩ rfl ?_
    refine V_aload_n 43 rfl rfl ?_
    refine V_getR 27 44 rfl fr_RX3_39 ⟨Nat.le_of_ble_eq_true rfl, Or.inl (Nat.le_of_ble_eq_true rfl)⟩ rfl ?_
    refine V_iconst (nI 0) 45 rfl ic_0 ?_
    obtain ⟨g33, e⟩ := gd_e e
    refine V_iald 46 rfl g33 ?_
    refine V_bipush (nI 6) 47 rfl bp_6 ?_
    refine V_aload_n 48 rfl rfl ?_
    refine V_getR 27 49 rfl fr_RX3_39 ⟨Nat.le_of_ble_eq_true rfl, Or.inl (Nat.le_of_ble_eq_true rfl)⟩ rfl ?_
    refine V_iconst (nI 1) 50 rfl ic_1 ?_
    obtain ⟨g34, e⟩ := gd_e e
    refine V_iald 51 rfl g34 ?_
    refine V_imul 52 rfl ?_
    refine V_iadd 53 rfl ?_
    refine V_iconst (nI 1) 54 rfl ic_1 ?_
    obtain ⟨g35, e⟩ := gd_e e
    refine V_zast 55 rfl g35 ?_
    refine le_V (P := fun h36 => V G M_X3_takeItem X T 0 0 186 [some (rv (3, 99) 2), some (iv x1)] [] h36) e (fun h36 e => ?_)
    refine V_iconst (nI 1) 56 rfl ic_1 ?_
    cases e
    exact V_zret 57 rfl z_1 hR rfl
  rcases if_e e with ⟨c40, e⟩ | ⟨c40, e⟩
  · refine V_tab 291 1 rfl rfl (off := 290) (by rw [c40]; decide +kernel) (by decide +kernel) ?_
    refine V_aload_n 119 rfl rfl ?_
    refine V_getR 3 120 rfl fr_RX3_12 ⟨Nat.le_of_ble_eq_true rfl, Or.inr rfl⟩ rfl ?_
    refine V_aload_n 121 rfl rfl ?_
    refine V_getR 27 122 rfl fr_RX3_39 ⟨Nat.le_of_ble_eq_true rfl, Or.inl (Nat.le_of_ble_eq_true rfl)⟩ rfl ?_
    refine V_iconst (nI 0) 123 rfl ic_0 ?_
    obtain ⟨g38, e⟩ := gd_e e
    refine V_iald 124 rfl g38 ?_
    refine V_putI 125 rfl fi_RX3_142 ?_
    refine le_V (P := fun h39 => V G M_X3_takeItem X T 0 0 304 [some (rv (3, 99) 2), some (iv x1)] [] h39) e (fun h39 e => ?_)
    refine V_iconst (nI 1) 126 rfl ic_1 ?_
    cases e
    exact V_zret 127 rfl z_1 hR rfl
  rcases if_e e with ⟨c45, e⟩ | ⟨c45, e⟩
  · refine V_tab 100 1 rfl rfl (off := 99) (by rw [c45]; decide +kernel) (by decide +kernel) ?_
    refine V_aload_n 2 rfl rfl ?_
    refine V_getR 3 3 rfl fr_RX3_12 ⟨Nat.le_of_ble_eq_true rfl, Or.inr rfl⟩ rfl ?_
    refine V_aload_n 4 rfl rfl ?_
    refine V_getR 27 5 rfl fr_RX3_39 ⟨Nat.le_of_ble_eq_true rfl, Or.inl (Nat.le_of_ble_eq_true rfl)⟩ rfl ?_
    refine V_iconst (nI 0) 6 rfl ic_0 ?_
    obtain ⟨g41, e⟩ := gd_e e
    refine V_iald 7 rfl g41 ?_
    refine V_putI 8 rfl fi_RX3_103 ?_
    refine le_V (P := fun h42 => V G M_X3_takeItem X T 0 0 113 [some (rv (3, 99) 2), some (iv x1)] [] h42) e (fun h42 e => ?_)
    refine V_aload_n 9 rfl rfl ?_
    refine V_getR 3 10 rfl fr_RX3_12 ⟨Nat.le_of_ble_eq_true rfl, Or.inr rfl⟩ rfl ?_
    refine V_aload_n 11 rfl rfl ?_
    refine V_getR 27 12 rfl fr_RX3_39 ⟨Nat.le_of_ble_eq_true rfl, Or.inl (Nat.le_of_ble_eq_true rfl)⟩ rfl ?_
    refine V_iconst (nI 1) 13 rfl ic_1 ?_
    obtain ⟨g43, e⟩ := gd_e e
    refine V_iald 14 rfl g43 ?_
    refine V_putI 15 rfl fi_RX3_106 ?_
    refine le_V (P := fun h44 => V G M_X3_takeItem X T 0 0 126 [some (rv (3, 99) 2), some (iv x1)] [] h44) e (fun h44 e => ?_)
    refine V_iconst (nI 1) 16 rfl ic_1 ?_
    cases e
    exact V_zret 17 rfl z_1 hR rfl
  refine V_tab 306 1 rfl rfl (tsel_d [99, 100, 104, 107, 108, 111, 112, 115, 118, 119] (List.forall_mem_cons.mpr ⟨c3, List.forall_mem_cons.mpr ⟨c8, List.forall_mem_cons.mpr ⟨c13, List.forall_mem_cons.mpr ⟨c19, List.forall_mem_cons.mpr ⟨c22, List.forall_mem_cons.mpr ⟨c27, List.forall_mem_cons.mpr ⟨c32, List.forall_mem_cons.mpr ⟨c37, List.forall_mem_cons.mpr ⟨c40, List.forall_mem_cons.mpr ⟨c45, fun k hk => by cases hk⟩⟩⟩⟩⟩⟩⟩⟩⟩⟩) (by decide +kernel)) (by decide +kernel) ?_
  refine V_iconst (nI 0) 128 rfl ic_0 ?_
  cases e
  exact V_zret 129 rfl z_0 hR rfl
set_option maxHeartbeats 4000000 in
theorem w_X3_read_9 {G : kG} {X : kX} {T : List kT} {r0 : Int32} {h0 : kH} (hR : k_R G M_X3_read X T 0 0 (some (iv r0)) h0) (A : Nat) (K9 : Int32 × Int32 × Int32 × kH → Option (Int32 × kH)) (hK9 : ∀ (x2 : Int32) (x3 : Int32) (x4 : Int32) (h : kH), K9 (x2, x3, x4, h) = some (r0, h0) → V G M_X3_read X T 0 0 9 [some (rv (3, 99) 2), some (rv (10, 500) A), some (iv x2), some (iv x3), some (iv x4), none] [] h) (x2 : Int32) (x3 : Int32) (x4 : Int32) (h : kH) (e : p_X3_read_9 K9 A x2 x3 x4 h = some (r0, h0)) : V G M_X3_read X T 0 0 9 [some (rv (3, 99) 2), some (rv (10, 500) A), some (iv x2), some (iv x3), some (iv x4), none] [] h := by
  unfold p_X3_read_9 at e
  refine V_iload 6 rfl rfl ?_
  refine V_iload_n 7 rfl rfl ?_
  rcases if_e e with ⟨c8, e⟩ | ⟨c8, e⟩
  · refine V_icmp_ge 57 8 rfl (by decide +kernel) (fun _ => ?_) (fun q => absurd c8 q) 
    refine V_bipush (-4 : Int32) 33 rfl bp_m4 ?_
    cases e
    exact V_iret 34 rfl hR rfl
  · refine V_icmp_ge 57 8 rfl (by decide +kernel) (fun q => absurd q c8) (fun _ => ?_)
    refine V_iload_n 9 rfl rfl ?_
    refine V_iload_n 10 rfl rfl ?_
    rcases if_e e with ⟨c11, e⟩ | ⟨c11, e⟩
    · refine V_icmp_ge 57 11 rfl (by decide +kernel) (fun _ => ?_) (fun q => absurd c11 q) 
      refine V_bipush (-4 : Int32) 33 rfl bp_m4 ?_
      cases e
      exact V_iret 34 rfl hR rfl
    · refine V_icmp_ge 57 11 rfl (by decide +kernel) (fun q => absurd q c11) (fun _ => ?_)
      refine V_aload_n 12 rfl rfl ?_
      refine V_aload_n 13 rfl rfl ?_
      refine V_iload_n 14 rfl rfl ?_
      refine V_iload_n 15 rfl rfl ?_
      obtain ⟨v5, h3, d4, e⟩ := bd2_e e
      refine V_callV (N := M_X3_readNumbers) (av := [rv (10, 500) A, iv x3, iv x2]) (st := []) (r := some (iv v5)) (h' := h3) 16 rfl (c_X3_readNumbers d4) g_X3_readNumbers gv_X3_readNumbers lk_RX3_55 ⟨Nat.le_of_ble_eq_true rfl, Nat.le_of_ble_eq_true rfl⟩ rfl rfl (Nat.le_of_ble_eq_true rfl) ⟨Nat.zero_le _, Nat.zero_le _⟩ ?_
      show V G M_X3_read X T 0 0 27 [some (rv (3, 99) 2), some (rv (10, 500) A), some (iv x2), some (iv x3), some (iv x4), none] [iv v5] h3
      refine V_istore 17 rfl (Nat.le_of_ble_eq_true rfl) rfl ?_
      show V G M_X3_read X T 0 0 29 [some (rv (3, 99) 2), some (rv (10, 500) A), some (iv x2), some (iv x3), some (iv x4), some (iv v5)] [] h3
      refine V_iload 18 rfl rfl ?_
      refine V_bipush (-4 : Int32) 19 rfl bp_m4 ?_
      rcases if_e e with ⟨c20, e⟩ | ⟨c20, e⟩
      · refine V_icmp_eq 46 20 rfl (by decide +kernel) (fun _ => ?_) (fun q => absurd c20 q) 
        refine V_iload_n 27 rfl rfl ?_
        cases e
        exact V_iret 28 rfl hR rfl
      · refine V_icmp_eq 46 20 rfl (by decide +kernel) (fun q => absurd q c20) (fun _ => ?_)
        refine V_aload_n 21 rfl rfl ?_
        refine V_aload_n 22 rfl rfl ?_
        refine V_iload_n 23 rfl rfl ?_
        obtain ⟨g6, e⟩ := gd_e e
        refine V_bald 24 rfl g6 ?_
        obtain ⟨v9, h7, d8, e⟩ := bd2_e e
        refine V_callV (N := M_X3_takeItem) (av := [iv (h3 A (x3).toNatClampNeg)]) (st := []) (r := some (iv v9)) (h' := h7) 25 rfl (c_X3_takeItem d8) g_X3_takeItem gv_X3_takeItem lk_RX3_59 ⟨Nat.le_of_ble_eq_true rfl, Nat.le_of_ble_eq_true rfl⟩ rfl rfl (Nat.le_of_ble_eq_true rfl) ⟨Nat.zero_le _, Nat.zero_le _⟩ ?_
        show V G M_X3_read X T 0 0 43 [some (rv (3, 99) 2), some (rv (10, 500) A), some (iv x2), some (iv x3), some (iv x4), some (iv v5)] [iv v9] h7
        rcases if_e e with ⟨c26, e⟩ | ⟨c26, e⟩
        · refine V_if_ne 48 26 rfl (by decide +kernel) (fun q => absurd c26 q) (fun _ => ?_)
          refine V_iload_n 27 rfl rfl ?_
          cases e
          exact V_iret 28 rfl hR rfl
        · refine V_if_ne 48 26 rfl (by decide +kernel) (fun _ => ?_) (fun q => absurd q c26) 
          refine V_iload 29 rfl rfl ?_
          refine V_istore_n 30 rfl (Nat.le_of_ble_eq_true rfl) rfl ?_
          show V G M_X3_read X T 0 0 51 [some (rv (3, 99) 2), some (rv (10, 500) A), some (iv x2), some (iv v5), some (iv x4), some (iv v5)] [] h7
          refine V_iinc (x4 + (nI 1)) 31 rfl rfl (inc_1 _) (Nat.le_of_ble_eq_true rfl) rfl ?_
          show V G M_X3_read X T 0 0 54 [some (rv (3, 99) 2), some (rv (10, 500) A), some (iv x2), some (iv v5), some (iv (x4 + (nI 1))), some (iv v5)] [] h7
          refine V_goto 9 32 rfl (by decide +kernel) ?_
          refine V_msk [true, true, true, true, true, false] (lc' := [some (rv (3, 99) 2), some (rv (10, 500) A), some (iv x2), some (iv v5), some (iv (x4 + (nI 1))), none]) rfl ?_
          exact hK9 x2 v5 (x4 + (nI 1)) h7 e
set_option maxHeartbeats 4000000 in
theorem c_X3_read {G : kG} {T : List kT} {A : Nat} {x2 : Int32} {h : kH} {r0 : Int32} {h0 : kH} (e : p_X3_read A x2 h = some (r0, h0)) : k_C G M_X3_read T [rv (3, 99) 2, rv (10, 500) A, iv x2] h (some (iv r0)) h0 := by
  refine k_C_of 3 (by decide +kernel) rfl tb_X3_read rfl (fun X hR => ?_)
  show V G M_X3_read X T 0 0 0 [some (rv (3, 99) 2), some (rv (10, 500) A), some (iv x2), none, none, none] [] h
  unfold p_X3_read at e
  refine V_aload_n 0 rfl rfl ?_
  obtain ⟨h1, d2, e⟩ := bd_e e
  refine V_callV (N := M_X3_forget) (av := []) (st := []) (r := none) (h' := h1) 1 rfl (c_X3_forget d2) g_X3_forget gv_X3_forget lk_RX3_42 ⟨Nat.le_of_ble_eq_true rfl, Nat.le_of_ble_eq_true rfl⟩ rfl rfl (Nat.le_of_ble_eq_true rfl) ⟨Nat.zero_le _, Nat.zero_le _⟩ ?_
  show V G M_X3_read X T 0 0 4 [some (rv (3, 99) 2), some (rv (10, 500) A), some (iv x2), none, none, none] [] h1
  refine V_iconst (nI 0) 2 rfl ic_0 ?_
  refine V_istore_n 3 rfl (Nat.le_of_ble_eq_true rfl) rfl ?_
  show V G M_X3_read X T 0 0 6 [some (rv (3, 99) 2), some (rv (10, 500) A), some (iv x2), some (iv (nI 0)), none, none] [] h1
  refine V_iconst (nI 0) 4 rfl ic_0 ?_
  refine V_istore 5 rfl (Nat.le_of_ble_eq_true rfl) rfl ?_
  show V G M_X3_read X T 0 0 9 [some (rv (3, 99) 2), some (rv (10, 500) A), some (iv x2), some (iv (nI 0)), some (iv (nI 0)), none] [] h1
  refine V_msk [true, true, true, true, true, false] (lc' := [some (rv (3, 99) 2), some (rv (10, 500) A), some (iv x2), some (iv (nI 0)), some (iv (nI 0)), none]) rfl ?_
  exact fx_e (P := fun s => V G M_X3_read X T 0 0 9 [some (rv (3, 99) 2), some (rv (10, 500) A), some (iv s.1), some (iv s.2.1), some (iv s.2.2.1), none] [] s.2.2.2) (fun K9 hK9 s e => w_X3_read_9 hR A K9 (fun x2 x3 x4 h e => hK9 (x2, x3, x4, h) e) s.1 s.2.1 s.2.2.1 s.2.2.2 e) FU (x2, (nI 0), (nI 0), h1) e
set_option maxHeartbeats 4000000 in
theorem w_X3_isLayable_2 {G : kG} {X : kX} {T : List kT} {r0 : Int32} {h0 : kH} (hR : k_R G M_X3_isLayable X T 0 0 (some (iv r0)) h0) (K2 : Int32 × kH → Option (Int32 × kH)) (hK2 : ∀ (x1 : Int32) (h : kH), K2 (x1, h) = some (r0, h0) → V G M_X3_isLayable X T 0 0 2 [some (rv (3, 99) 2), some (iv x1)] [] h) (x1 : Int32) (h : kH) (e : p_X3_isLayable_2 K2 x1 h = some (r0, h0)) : V G M_X3_isLayable X T 0 0 2 [some (rv (3, 99) 2), some (iv x1)] [] h := by
  unfold p_X3_isLayable_2 at e
  refine V_iload_n 2 rfl rfl ?_
  refine V_aload_n 3 rfl rfl ?_
  refine V_getR 13 4 rfl fr_RX3_28 ⟨Nat.le_of_ble_eq_true rfl, Or.inr rfl⟩ rfl ?_
  refine V_getI 5 rfl fi_RX3_51 ?_
  rcases if_e e with ⟨c6, e⟩ | ⟨c6, e⟩
  · refine V_icmp_ge 83 6 rfl (by decide +kernel) (fun _ => ?_) (fun q => absurd c6 q) 
    refine V_aload_n 45 rfl rfl ?_
    refine V_getR 13 46 rfl fr_RX3_28 ⟨Nat.le_of_ble_eq_true rfl, Or.inr rfl⟩ rfl ?_
    obtain ⟨v3, h1, d2, e⟩ := bd2_e e
    refine V_callVN (N := M_X4_anyTwoInOne) (av := []) (st := []) (r := some (iv v3)) (h' := h1) 47 rfl (c_X4_anyTwoInOne d2) g_X4_anyTwoInOne gv_X4_anyTwoInOne nk_RX3_158 ⟨Nat.le_of_ble_eq_true rfl, Nat.le_of_ble_eq_true rfl⟩ rfl rfl (Nat.le_of_ble_eq_true rfl) ⟨Nat.zero_le _, Nat.zero_le _⟩ ?_
    show V G M_X3_isLayable X T 0 0 90 [some (rv (3, 99) 2), some (iv x1)] [iv v3] h1
    rcases if_e e with ⟨c48, e⟩ | ⟨c48, e⟩
    · refine V_if_ne 97 48 rfl (by decide +kernel) (fun q => absurd c48 q) (fun _ => ?_)
      refine V_iconst (nI 1) 49 rfl ic_1 ?_
      refine V_goto 98 50 rfl (by decide +kernel) ?_
      cases e
      exact V_zret 52 rfl z_1 hR rfl
    · refine V_if_ne 97 48 rfl (by decide +kernel) (fun _ => ?_) (fun q => absurd q c48) 
      refine V_iconst (nI 0) 51 rfl ic_0 ?_
      cases e
      exact V_zret 52 rfl z_0 hR rfl
  · refine V_icmp_ge 83 6 rfl (by decide +kernel) (fun q => absurd q c6) (fun _ => ?_)
    refine V_aload_n 7 rfl rfl ?_
    refine V_getR 25 8 rfl fr_RX3_32 ⟨Nat.le_of_ble_eq_true rfl, Or.inl (Nat.le_of_ble_eq_true rfl)⟩ rfl ?_
    refine V_iload_n 9 rfl rfl ?_
    obtain ⟨g4, e⟩ := gd_e e
    refine V_iald 10 rfl g4 ?_
    refine V_aload_n 11 rfl rfl ?_
    refine V_getR 3 12 rfl fr_RX3_12 ⟨Nat.le_of_ble_eq_true rfl, Or.inr rfl⟩ rfl ?_
    refine V_getI 13 rfl fi_RX3_103 ?_
    rcases if_e e with ⟨c14, e⟩ | ⟨c14, e⟩
    · refine V_icmp_ge 45 14 rfl (by decide +kernel) (fun _ => ?_) (fun q => absurd c14 q) 
      refine V_iconst (nI 0) 23 rfl ic_0 ?_
      cases e
      exact V_zret 24 rfl z_0 hR rfl
    · refine V_icmp_ge 45 14 rfl (by decide +kernel) (fun q => absurd q c14) (fun _ => ?_)
      refine V_aload_n 15 rfl rfl ?_
      refine V_getR 26 16 rfl fr_RX3_36 ⟨Nat.le_of_ble_eq_true rfl, Or.inl (Nat.le_of_ble_eq_true rfl)⟩ rfl ?_
      refine V_iload_n 17 rfl rfl ?_
      refine V_iald 18 rfl g4 ?_
      refine V_aload_n 19 rfl rfl ?_
      refine V_getR 3 20 rfl fr_RX3_12 ⟨Nat.le_of_ble_eq_true rfl, Or.inr rfl⟩ rfl ?_
      refine V_getI 21 rfl fi_RX3_106 ?_
      rcases if_e e with ⟨c22, e⟩ | ⟨c22, e⟩
      · refine V_icmp_lt 47 22 rfl (by decide +kernel) (fun _ => ?_) (fun q => absurd c22 q) 
        refine V_aload_n 25 rfl rfl ?_
        refine V_getR 13 26 rfl fr_RX3_28 ⟨Nat.le_of_ble_eq_true rfl, Or.inr rfl⟩ rfl ?_
        refine V_getR 14 27 rfl fr_RX3_155 ⟨Nat.le_of_ble_eq_true rfl, Or.inl (Nat.le_of_ble_eq_true rfl)⟩ rfl ?_
        refine V_iload_n 28 rfl rfl ?_
        refine V_aload_n 29 rfl rfl ?_
        refine V_getR 25 30 rfl fr_RX3_32 ⟨Nat.le_of_ble_eq_true rfl, Or.inl (Nat.le_of_ble_eq_true rfl)⟩ rfl ?_
        refine V_iload_n 31 rfl rfl ?_
        refine V_iald 32 rfl g4 ?_
        refine V_aload_n 33 rfl rfl ?_
        refine V_getR 3 34 rfl fr_RX3_12 ⟨Nat.le_of_ble_eq_true rfl, Or.inr rfl⟩ rfl ?_
        refine V_getI 35 rfl fi_RX3_103 ?_
        refine V_aload_n 36 rfl rfl ?_
        refine V_getR 26 37 rfl fr_RX3_36 ⟨Nat.le_of_ble_eq_true rfl, Or.inl (Nat.le_of_ble_eq_true rfl)⟩ rfl ?_
        refine V_iload_n 38 rfl rfl ?_
        refine V_iald 39 rfl g4 ?_
        refine V_imul 40 rfl ?_
        refine V_iadd 41 rfl ?_
        refine V_iast 42 rfl g4 ?_
        refine le_V (P := fun h5 => V G M_X3_isLayable X T 0 0 77 [some (rv (3, 99) 2), some (iv x1)] [] h5) e (fun h5 e => ?_)
        refine V_iinc (x1 + (nI 1)) 43 rfl rfl (inc_1 _) (Nat.le_of_ble_eq_true rfl) rfl ?_
        show V G M_X3_isLayable X T 0 0 80 [some (rv (3, 99) 2), some (iv (x1 + (nI 1)))] [] h5
        refine V_goto 2 44 rfl (by decide +kernel) ?_
        refine V_msk [true, true] (lc' := [some (rv (3, 99) 2), some (iv (x1 + (nI 1)))]) rfl ?_
        exact hK2 (x1 + (nI 1)) h5 e
      · refine V_icmp_lt 47 22 rfl (by decide +kernel) (fun q => absurd q c22) (fun _ => ?_)
        refine V_iconst (nI 0) 23 rfl ic_0 ?_
        cases e
        exact V_zret 24 rfl z_0 hR rfl
set_option maxHeartbeats 4000000 in
theorem c_X3_isLayable {G : kG} {T : List kT} {h : kH} {r0 : Int32} {h0 : kH} (e : p_X3_isLayable h = some (r0, h0)) : k_C G M_X3_isLayable T [rv (3, 99) 2] h (some (iv r0)) h0 := by
  refine k_C_of 1 (by decide +kernel) rfl tb_X3_isLayable rfl (fun X hR => ?_)
  show V G M_X3_isLayable X T 0 0 0 [some (rv (3, 99) 2), none] [] h
  unfold p_X3_isLayable at e
  refine V_iconst (nI 0) 0 rfl ic_0 ?_
  refine V_istore_n 1 rfl (Nat.le_of_ble_eq_true rfl) rfl ?_
  show V G M_X3_isLayable X T 0 0 2 [some (rv (3, 99) 2), some (iv (nI 0))] [] h
  refine V_msk [true, true] (lc' := [some (rv (3, 99) 2), some (iv (nI 0))]) rfl ?_
  exact fx_e (P := fun s => V G M_X3_isLayable X T 0 0 2 [some (rv (3, 99) 2), some (iv s.1)] [] s.2) (fun K2 hK2 s e => w_X3_isLayable_2 hR K2 (fun x1 h e => hK2 (x1, h) e) s.1 s.2 e) FU ((nI 0), h) e
set_option maxHeartbeats 4000000 in
theorem w_X3_layOn_31 {G : kG} {X : kX} {T : List kT} {h0 : kH} (hR : k_R G M_X3_layOn X T 0 0 none h0) (R : Nat) (H : Nat) (K17 : Int32 × kH → Option (kH)) (K31 : Int32 × Int32 × kH → Option (kH)) (hK17 : ∀ (x3 : Int32) (h : kH), K17 (x3, h) = some h0 → V G M_X3_layOn X T 0 0 17 [some (rv (3, 99) 2), none, some (rv (2, 99) H), some (iv x3), none] [] h) (hK31 : ∀ (x3 : Int32) (x4 : Int32) (h : kH), K31 (x3, x4, h) = some h0 → V G M_X3_layOn X T 0 0 31 [some (rv (3, 99) 2), none, some (rv (2, 99) H), some (iv x3), some (iv x4)] [] h) (x3 : Int32) (x4 : Int32) (h : kH) (e : p_X3_layOn_31 K17 K31 R H x3 x4 h = some h0) : V G M_X3_layOn X T 0 0 31 [some (rv (3, 99) 2), none, some (rv (2, 99) H), some (iv x3), some (iv x4)] [] h := by
  unfold p_X3_layOn_31 at e
  refine V_iload 16 rfl rfl ?_
  refine V_aload_n 17 rfl rfl ?_
  refine V_getR 3 18 rfl fr_RX3_12 ⟨Nat.le_of_ble_eq_true rfl, Or.inr rfl⟩ rfl ?_
  refine V_getI 19 rfl fi_RX3_103 ?_
  rcases if_e e with ⟨c20, e⟩ | ⟨c20, e⟩
  · refine V_icmp_ge 79 20 rfl (by decide +kernel) (fun _ => ?_) (fun q => absurd c20 q) 
    refine V_iinc (x3 + (nI 1)) 40 rfl rfl (inc_1 _) (Nat.le_of_ble_eq_true rfl) rfl ?_
    show V G M_X3_layOn X T 0 0 82 [some (rv (3, 99) 2), none, some (rv (2, 99) H), some (iv (x3 + (nI 1))), some (iv x4)] [] h
    refine V_goto 17 41 rfl (by decide +kernel) ?_
    refine V_msk [true, false, true, true, false] (lc' := [some (rv (3, 99) 2), none, some (rv (2, 99) H), some (iv (x3 + (nI 1))), none]) rfl ?_
    exact hK17 (x3 + (nI 1)) h e
  · refine V_icmp_ge 79 20 rfl (by decide +kernel) (fun q => absurd q c20) (fun _ => ?_)
    refine V_aload_n 21 rfl rfl ?_
    refine V_getR (H + 1) 22 rfl fr_RX3_165 ⟨Nat.le_of_ble_eq_true rfl, Or.inr rfl⟩ rfl ?_
    refine V_iload 23 rfl rfl ?_
    refine V_aload_n 24 rfl rfl ?_
    refine V_getR 3 25 rfl fr_RX3_12 ⟨Nat.le_of_ble_eq_true rfl, Or.inr rfl⟩ rfl ?_
    refine V_getI 26 rfl fi_RX3_103 ?_
    refine V_iload_n 27 rfl rfl ?_
    refine V_imul 28 rfl ?_
    refine V_iadd 29 rfl ?_
    refine V_aload_n 30 rfl rfl ?_
    refine V_getR 6 31 rfl fr_RX3_21 ⟨Nat.le_of_ble_eq_true rfl, Or.inr rfl⟩ rfl ?_
    refine V_iload 32 rfl rfl ?_
    refine V_bipush (nI 6) 33 rfl bp_6 ?_
    refine V_iload_n 34 rfl rfl ?_
    refine V_imul 35 rfl ?_
    refine V_iadd 36 rfl ?_
    obtain ⟨h8, d9, e⟩ := bd_e e
    refine V_callVN (N := M_X1_copyCell) (av := [iv (x4 + ((h 3 0) * x3)), rv (1, 99) 6, iv (x4 + ((nI 6) * x3))]) (st := []) (r := none) (h' := h8) 37 rfl (c_X1_copyCell d9) g_X1_copyCell gv_X1_copyCell nk_RX3_170 ⟨Nat.le_of_ble_eq_true rfl, Nat.le_of_ble_eq_true rfl⟩ rfl rfl (Nat.le_of_ble_eq_true rfl) ⟨Nat.zero_le _, Nat.zero_le _⟩ ?_
    show V G M_X3_layOn X T 0 0 73 [some (rv (3, 99) 2), none, some (rv (2, 99) H), some (iv x3), some (iv x4)] [] h8
    refine V_iinc (x4 + (nI 1)) 38 rfl rfl (inc_1 _) (Nat.le_of_ble_eq_true rfl) rfl ?_
    show V G M_X3_layOn X T 0 0 76 [some (rv (3, 99) 2), none, some (rv (2, 99) H), some (iv x3), some (iv (x4 + (nI 1)))] [] h8
    refine V_goto 31 39 rfl (by decide +kernel) ?_
    refine V_msk [true, false, true, true, true] (lc' := [some (rv (3, 99) 2), none, some (rv (2, 99) H), some (iv x3), some (iv (x4 + (nI 1)))]) rfl ?_
    exact hK31 x3 (x4 + (nI 1)) h8 e
set_option maxHeartbeats 4000000 in
theorem w_X3_layOn_17 {G : kG} {X : kX} {T : List kT} {h0 : kH} (hR : k_R G M_X3_layOn X T 0 0 none h0) (R : Nat) (H : Nat) (K17 : Int32 × kH → Option (kH)) (hK17 : ∀ (x3 : Int32) (h : kH), K17 (x3, h) = some h0 → V G M_X3_layOn X T 0 0 17 [some (rv (3, 99) 2), none, some (rv (2, 99) H), some (iv x3), none] [] h) (x3 : Int32) (h : kH) (e : p_X3_layOn_17 K17 R H x3 h = some h0) : V G M_X3_layOn X T 0 0 17 [some (rv (3, 99) 2), none, some (rv (2, 99) H), some (iv x3), none] [] h := by
  unfold p_X3_layOn_17 at e
  refine V_iload_n 9 rfl rfl ?_
  refine V_aload_n 10 rfl rfl ?_
  refine V_getR 3 11 rfl fr_RX3_12 ⟨Nat.le_of_ble_eq_true rfl, Or.inr rfl⟩ rfl ?_
  refine V_getI 12 rfl fi_RX3_106 ?_
  rcases if_e e with ⟨c13, e⟩ | ⟨c13, e⟩
  · refine V_icmp_ge 85 13 rfl (by decide +kernel) (fun _ => ?_) (fun q => absurd c13 q) 
    refine V_aload_n 42 rfl rfl ?_
    refine V_getR (H + 8) 43 rfl fr_RX3_174 ⟨Nat.le_of_ble_eq_true rfl, Or.inr rfl⟩ rfl ?_
    refine V_aload_n 44 rfl rfl ?_
    refine V_getR 13 45 rfl fr_RX3_28 ⟨Nat.le_of_ble_eq_true rfl, Or.inr rfl⟩ rfl ?_
    obtain ⟨h5, d6, e⟩ := bd_e e
    refine V_callVN (N := M_X4_copyFrom) (av := [rv (4, 99) 13]) (st := []) (r := none) (h' := h5) 46 rfl (c_X4_copyFrom d6) g_X4_copyFrom gv_X4_copyFrom nk_RX3_175 ⟨Nat.le_of_ble_eq_true rfl, Nat.le_of_ble_eq_true rfl⟩ rfl rfl (Nat.le_of_ble_eq_true rfl) ⟨Nat.zero_le _, Nat.zero_le _⟩ ?_
    show V G M_X3_layOn X T 0 0 96 [some (rv (3, 99) 2), none, some (rv (2, 99) H), some (iv x3), none] [] h5
    refine V_aload_n 47 rfl rfl ?_
    refine V_iconst (nI 0) 48 rfl ic_0 ?_
    refine V_putI 49 rfl fi_RX3_178 ?_
    refine le_V (P := fun h7 => V G M_X3_layOn X T 0 0 101 [some (rv (3, 99) 2), none, some (rv (2, 99) H), some (iv x3), none] [] h7) e (fun h7 e => ?_)
    cases e
    exact V_vret 50 rfl hR rfl
  · refine V_icmp_ge 85 13 rfl (by decide +kernel) (fun q => absurd q c13) (fun _ => ?_)
    refine V_iconst (nI 0) 14 rfl ic_0 ?_
    refine V_istore 15 rfl (Nat.le_of_ble_eq_true rfl) rfl ?_
    show V G M_X3_layOn X T 0 0 31 [some (rv (3, 99) 2), none, some (rv (2, 99) H), some (iv x3), some (iv (nI 0))] [] h
    refine V_msk [true, false, true, true, true] (lc' := [some (rv (3, 99) 2), none, some (rv (2, 99) H), some (iv x3), some (iv (nI 0))]) rfl ?_
    exact fx_e (P := fun s => V G M_X3_layOn X T 0 0 31 [some (rv (3, 99) 2), none, some (rv (2, 99) H), some (iv s.1), some (iv s.2.1)] [] s.2.2) (fun K31 hK31 s e => w_X3_layOn_31 hR R H K17 K31 hK17 (fun x3 x4 h e => hK31 (x3, x4, h) e) s.1 s.2.1 s.2.2 e) FU (x3, (nI 0), h) e
set_option maxHeartbeats 4000000 in
theorem c_X3_layOn {G : kG} {T : List kT} {R : Nat} {H : Nat} {h : kH} {h0 : kH} (e : p_X3_layOn R H h = some h0) : k_C G M_X3_layOn T [rv (3, 99) 2, rv (5, 99) R, rv (2, 99) H] h none h0 := by
  refine k_C_of 2 (by decide +kernel) rfl tb_X3_layOn rfl (fun X hR => ?_)
  show V G M_X3_layOn X T 0 0 0 [some (rv (3, 99) 2), some (rv (5, 99) R), some (rv (2, 99) H), none, none] [] h
  unfold p_X3_layOn at e
  refine V_aload_n 0 rfl rfl ?_
  refine V_aload_n 1 rfl rfl ?_
  refine V_getR 3 2 rfl fr_RX3_12 ⟨Nat.le_of_ble_eq_true rfl, Or.inr rfl⟩ rfl ?_
  obtain ⟨h1, d2, e⟩ := bd_e e
  refine V_callVN (N := M_X5_copyFrom) (av := [rv (5, 99) 3]) (st := []) (r := none) (h' := h1) 3 rfl (c_X5_copyFrom d2) g_X5_copyFrom gv_X5_copyFrom nk_RX3_161 ⟨Nat.le_of_ble_eq_true rfl, Nat.le_of_ble_eq_true rfl⟩ rfl rfl (Nat.le_of_ble_eq_true rfl) ⟨Nat.zero_le _, Nat.zero_le _⟩ ?_
  show V G M_X3_layOn X T 0 0 8 [some (rv (3, 99) 2), some (rv (5, 99) R), some (rv (2, 99) H), none, none] [] h1
  refine V_aload_n 4 rfl rfl ?_
  refine V_getR (H + 1) 5 rfl fr_RX3_165 ⟨Nat.le_of_ble_eq_true rfl, Or.inr rfl⟩ rfl ?_
  obtain ⟨h3, d4, e⟩ := bd_e e
  refine V_callVN (N := M_X1_clear) (av := []) (st := []) (r := none) (h' := h3) 6 rfl (c_X1_clear d4) g_X1_clear gv_X1_clear nk_RX3_48 ⟨Nat.le_of_ble_eq_true rfl, Nat.le_of_ble_eq_true rfl⟩ rfl rfl (Nat.le_of_ble_eq_true rfl) ⟨Nat.zero_le _, Nat.zero_le _⟩ ?_
  show V G M_X3_layOn X T 0 0 15 [some (rv (3, 99) 2), some (rv (5, 99) R), some (rv (2, 99) H), none, none] [] h3
  refine V_iconst (nI 0) 7 rfl ic_0 ?_
  refine V_istore_n 8 rfl (Nat.le_of_ble_eq_true rfl) rfl ?_
  show V G M_X3_layOn X T 0 0 17 [some (rv (3, 99) 2), some (rv (5, 99) R), some (rv (2, 99) H), some (iv (nI 0)), none] [] h3
  refine V_msk [true, false, true, true, false] (lc' := [some (rv (3, 99) 2), none, some (rv (2, 99) H), some (iv (nI 0)), none]) rfl ?_
  exact fx_e (P := fun s => V G M_X3_layOn X T 0 0 17 [some (rv (3, 99) 2), none, some (rv (2, 99) H), some (iv s.1), none] [] s.2) (fun K17 hK17 s e => w_X3_layOn_17 hR R H K17 (fun x3 h e => hK17 (x3, h) e) s.1 s.2 e) FU ((nI 0), h3) e
