set_option maxHeartbeats 4000000 in
theorem w_X8_fires_299 {G : kG} {X : kX} {T : List kT} {h0 : kH} (hR : k_R G M_X8_fires X T 0 0 none h0) (s0 : Int32) (s1 : Int32) (s2 : Int32) (h : kH) (e : p_X8_fires_299 s0 s1 s2 h = some h0) : V G M_X8_fires X T 0 0 299 [none, none, none, none, none, none, none, none] [iv s0, iv s1, iv s2, rv (9, 800) 143] h := by
  unfold p_X8_fires_299 at e
  refine V_iadd 194 rfl ?_
  obtain ⟨g20, e⟩ := gd_e e
  refine V_iast 195 rfl g20 ?_
  refine le_V (P := fun h21 => V G M_X8_fires X T 0 0 301 [none, none, none, none, none, none, none, none] [] h21) e (fun h21 e => ?_)
  cases e
  exact V_vret 196 rfl hR rfl
set_option maxHeartbeats 4000000 in
theorem w_X8_fires_269 {G : kG} {X : kX} {T : List kT} {h0 : kH} (hR : k_R G M_X8_fires X T 0 0 none h0) (x3 : Int32) (x5 : Int32) (s0 : Int32) (s1 : Int32) (s2 : Int32) (h : kH) (e : p_X8_fires_269 x3 x5 s0 s1 s2 h = some h0) : V G M_X8_fires X T 0 0 269 [some (rv (8, 99) 135), none, none, some (iv x3), none, some (iv x5), none, none] [iv s0, iv s1, iv s2, rv (9, 800) 143] h := by
  unfold p_X8_fires_269 at e
  refine V_isub 174 rfl ?_
  obtain ⟨g16, e⟩ := gd_e e
  refine V_iast 175 rfl g16 ?_
  refine le_V (P := fun h17 => V G M_X8_fires X T 0 0 271 [some (rv (8, 99) 135), none, none, some (iv x3), none, some (iv x5), none, none] [] h17) e (fun h17 e => ?_)
  refine V_aload_n 176 rfl rfl ?_
  refine V_getR 143 177 rfl fr_RX8_32 ⟨Nat.le_of_ble_eq_true rfl, Or.inl (Nat.le_of_ble_eq_true rfl)⟩ rfl ?_
  refine V_iload_n 178 rfl rfl ?_
  refine V_iconst (nI 3) 179 rfl ic_3 ?_
  refine V_iadd 180 rfl ?_
  refine V_dup2 181 rfl nj_i nj_r ?_
  obtain ⟨g18, e⟩ := gd_e e
  refine V_iald 182 rfl g18 ?_
  refine V_iload 183 rfl rfl ?_
  refine V_bipush (nI 10) 184 rfl bp_10 ?_
  refine V_aload_n 185 rfl rfl ?_
  refine V_getR 137 186 rfl fr_RX8_13 ⟨Nat.le_of_ble_eq_true rfl, Or.inl (Nat.le_of_ble_eq_true rfl)⟩ rfl ?_
  refine V_iconst (nI 3) 187 rfl ic_3 ?_
  obtain ⟨g19, e⟩ := gd_e e
  refine V_iald 188 rfl g19 ?_
  refine V_imul 189 rfl ?_
  rcases if_e e with ⟨c190, e⟩ | ⟨c190, e⟩
  · refine V_icmp_lt 298 190 rfl (by decide +kernel) (fun _ => ?_) (fun q => absurd c190 q) 
    refine V_iconst (nI 0) 193 rfl ic_0 ?_
    refine V_msk [false, false, false, false, false, false, false, false] (lc' := [none, none, none, none, none, none, none, none]) rfl ?_
    exact w_X8_fires_299 hR (nI 0) (h17 143 ((x3 + (nI 3))).toNatClampNeg) (x3 + (nI 3)) h17 e
  · refine V_icmp_lt 298 190 rfl (by decide +kernel) (fun q => absurd q c190) (fun _ => ?_)
    refine V_iconst (nI 1) 191 rfl ic_1 ?_
    refine V_goto 299 192 rfl (by decide +kernel) ?_
    refine V_msk [false, false, false, false, false, false, false, false] (lc' := [none, none, none, none, none, none, none, none]) rfl ?_
    exact w_X8_fires_299 hR (nI 1) (h17 143 ((x3 + (nI 3))).toNatClampNeg) (x3 + (nI 3)) h17 e
set_option maxHeartbeats 4000000 in
theorem w_X8_fires_232 {G : kG} {X : kX} {T : List kT} {h0 : kH} (hR : k_R G M_X8_fires X T 0 0 none h0) (x3 : Int32) (x5 : Int32) (s0 : Int32) (h : kH) (e : p_X8_fires_232 x3 x5 s0 h = some h0) : V G M_X8_fires X T 0 0 232 [some (rv (8, 99) 135), none, none, some (iv x3), none, some (iv x5), none, none] [iv s0] h := by
  unfold p_X8_fires_232 at e
  refine V_istore 150 rfl (Nat.le_of_ble_eq_true rfl) rfl ?_
  show V G M_X8_fires X T 0 0 234 [some (rv (8, 99) 135), none, none, some (iv x3), none, some (iv x5), none, some (iv s0)] [] h
  refine V_aload_n 151 rfl rfl ?_
  refine V_getR 143 152 rfl fr_RX8_32 ⟨Nat.le_of_ble_eq_true rfl, Or.inl (Nat.le_of_ble_eq_true rfl)⟩ rfl ?_
  refine V_iload_n 153 rfl rfl ?_
  refine V_iconst (nI 2) 154 rfl ic_2 ?_
  refine V_iadd 155 rfl ?_
  refine V_dup2 156 rfl nj_i nj_r ?_
  obtain ⟨g15, e⟩ := gd_e e
  refine V_iald 157 rfl g15 ?_
  refine V_iload 158 rfl rfl ?_
  refine V_aload_n 159 rfl rfl ?_
  refine V_getR 143 160 rfl fr_RX8_32 ⟨Nat.le_of_ble_eq_true rfl, Or.inl (Nat.le_of_ble_eq_true rfl)⟩ rfl ?_
  refine V_iload_n 161 rfl rfl ?_
  refine V_iconst (nI 2) 162 rfl ic_2 ?_
  refine V_iadd 163 rfl ?_
  refine V_iald 164 rfl g15 ?_
  rcases if_e e with ⟨c165, e⟩ | ⟨c165, e⟩
  · refine V_icmp_le 267 165 rfl (by decide +kernel) (fun _ => ?_) (fun q => absurd c165 q) 
    refine V_iload 173 rfl rfl ?_
    refine V_msk [true, false, false, true, false, true, false, false] (lc' := [some (rv (8, 99) 135), none, none, some (iv x3), none, some (iv x5), none, none]) rfl ?_
    exact w_X8_fires_269 hR x3 x5 s0 (h 143 ((x3 + (nI 2))).toNatClampNeg) (x3 + (nI 2)) h e
  · refine V_icmp_le 267 165 rfl (by decide +kernel) (fun q => absurd q c165) (fun _ => ?_)
    refine V_aload_n 166 rfl rfl ?_
    refine V_getR 143 167 rfl fr_RX8_32 ⟨Nat.le_of_ble_eq_true rfl, Or.inl (Nat.le_of_ble_eq_true rfl)⟩ rfl ?_
    refine V_iload_n 168 rfl rfl ?_
    refine V_iconst (nI 2) 169 rfl ic_2 ?_
    refine V_iadd 170 rfl ?_
    refine V_iald 171 rfl g15 ?_
    refine V_goto 269 172 rfl (by decide +kernel) ?_
    refine V_msk [true, false, false, true, false, true, false, false] (lc' := [some (rv (8, 99) 135), none, none, some (iv x3), none, some (iv x5), none, none]) rfl ?_
    exact w_X8_fires_269 hR x3 x5 (h 143 ((x3 + (nI 2))).toNatClampNeg) (h 143 ((x3 + (nI 2))).toNatClampNeg) (x3 + (nI 2)) h e
set_option maxHeartbeats 4000000 in
theorem w_X8_fires_210 {G : kG} {X : kX} {T : List kT} {h0 : kH} (hR : k_R G M_X8_fires X T 0 0 none h0) (x3 : Int32) (x5 : Int32) (x6 : Int32) (h : kH) (e : p_X8_fires_210 x3 x5 x6 h = some h0) : V G M_X8_fires X T 0 0 210 [some (rv (8, 99) 135), none, none, some (iv x3), none, some (iv x5), some (iv x6), none] [] h := by
  unfold p_X8_fires_210 at e
  refine V_iload 138 rfl rfl ?_
  refine V_bipush (nI 60) 139 rfl bp_60 ?_
  rcases if_e e with ⟨c140, e⟩ | ⟨c140, e⟩
  · refine V_icmp_le 231 140 rfl (by decide +kernel) (fun _ => ?_) (fun q => absurd c140 q) 
    refine V_iconst (nI 0) 149 rfl ic_0 ?_
    refine V_msk [true, false, false, true, false, true, false, false] (lc' := [some (rv (8, 99) 135), none, none, some (iv x3), none, some (iv x5), none, none]) rfl ?_
    exact w_X8_fires_232 hR x3 x5 (nI 0) h e
  · refine V_icmp_le 231 140 rfl (by decide +kernel) (fun q => absurd q c140) (fun _ => ?_)
    refine V_iload 141 rfl rfl ?_
    refine V_iload 142 rfl rfl ?_
    refine V_bipush (nI 60) 143 rfl bp_60 ?_
    refine V_isub 144 rfl ?_
    refine V_imul 145 rfl ?_
    refine V_bipush (nI 100) 146 rfl bp_100 ?_
    refine V_idiv 147 rfl (by decide +kernel) ?_
    refine V_goto 232 148 rfl (by decide +kernel) ?_
    refine V_msk [true, false, false, true, false, true, false, false] (lc' := [some (rv (8, 99) 135), none, none, some (iv x3), none, some (iv x5), none, none]) rfl ?_
    exact w_X8_fires_232 hR x3 x5 ((x6 * (x5 - (nI 60))) / (nI 100)) h e
set_option maxHeartbeats 4000000 in
theorem w_X8_fires_175 {G : kG} {X : kX} {T : List kT} {h0 : kH} (hR : k_R G M_X8_fires X T 0 0 none h0) (x3 : Int32) (x4 : Int32) (x5 : Int32) (x6 : Int32) (h : kH) (e : p_X8_fires_175 x3 x4 x5 x6 h = some h0) : V G M_X8_fires X T 0 0 175 [some (rv (8, 99) 135), none, none, some (iv x3), some (iv x4), some (iv x5), some (iv x6), none] [] h := by
  unfold p_X8_fires_175 at e
  refine V_iload 116 rfl rfl ?_
  refine V_ineg 117 rfl ?_
  refine V_aload_n 118 rfl rfl ?_
  refine V_getR 137 119 rfl fr_RX8_13 ⟨Nat.le_of_ble_eq_true rfl, Or.inl (Nat.le_of_ble_eq_true rfl)⟩ rfl ?_
  refine V_iconst (nI 5) 120 rfl ic_5 ?_
  obtain ⟨g14, e⟩ := gd_e e
  refine V_iald 121 rfl g14 ?_
  rcases if_e e with ⟨c122, e⟩ | ⟨c122, e⟩
  · refine V_icmp_le 210 122 rfl (by decide +kernel) (fun _ => ?_) (fun q => absurd c122 q) 
    refine V_msk [true, false, false, true, false, true, true, false] (lc' := [some (rv (8, 99) 135), none, none, some (iv x3), none, some (iv x5), some (iv x6), none]) rfl ?_
    exact w_X8_fires_210 hR x3 x5 x6 h e
  · refine V_icmp_le 210 122 rfl (by decide +kernel) (fun q => absurd q c122) (fun _ => ?_)
    refine V_aload_n 123 rfl rfl ?_
    refine V_getR 143 124 rfl fr_RX8_32 ⟨Nat.le_of_ble_eq_true rfl, Or.inl (Nat.le_of_ble_eq_true rfl)⟩ rfl ?_
    refine V_iload_n 125 rfl rfl ?_
    refine V_iconst (nI 3) 126 rfl ic_3 ?_
    refine V_iadd 127 rfl ?_
    obtain ⟨g22, e⟩ := gd_e e
    refine V_iald 128 rfl g22 ?_
    rcases if_e e with ⟨c129, e⟩ | ⟨c129, e⟩
    · refine V_if_le 210 129 rfl (by decide +kernel) (fun _ => ?_) (fun q => absurd c129 q) 
      refine V_msk [true, false, false, true, false, true, true, false] (lc' := [some (rv (8, 99) 135), none, none, some (iv x3), none, some (iv x5), some (iv x6), none]) rfl ?_
      exact w_X8_fires_210 hR x3 x5 x6 h e
    · refine V_if_le 210 129 rfl (by decide +kernel) (fun q => absurd q c129) (fun _ => ?_)
      refine V_aload_n 130 rfl rfl ?_
      refine V_getR 143 131 rfl fr_RX8_32 ⟨Nat.le_of_ble_eq_true rfl, Or.inl (Nat.le_of_ble_eq_true rfl)⟩ rfl ?_
      refine V_iload_n 132 rfl rfl ?_
      refine V_iconst (nI 4) 133 rfl ic_4 ?_
      refine V_iadd 134 rfl ?_
      refine V_iconst (nI 4) 135 rfl ic_4 ?_
      obtain ⟨g23, e⟩ := gd_e e
      refine V_iast 136 rfl g23 ?_
      refine le_V (P := fun h24 => V G M_X8_fires X T 0 0 207 [some (rv (8, 99) 135), none, none, some (iv x3), some (iv x4), some (iv x5), some (iv x6), none] [] h24) e (fun h24 e => ?_)
      refine V_goto 301 137 rfl (by decide +kernel) ?_
      cases e
      exact V_vret 196 rfl hR rfl
set_option maxHeartbeats 4000000 in
theorem w_X8_fires_120 {G : kG} {X : kX} {T : List kT} {h0 : kH} (hR : k_R G M_X8_fires X T 0 0 none h0) (x2 : Int32) (x3 : Int32) (x4 : Int32) (x5 : Int32) (x6 : Int32) (h : kH) (e : p_X8_fires_120 x2 x3 x4 x5 x6 h = some h0) : V G M_X8_fires X T 0 0 120 [some (rv (8, 99) 135), none, some (iv x2), some (iv x3), some (iv x4), some (iv x5), some (iv x6), none] [] h := by
  unfold p_X8_fires_120 at e
  refine V_iload 81 rfl rfl ?_
  refine V_bipush (nI 100) 82 rfl bp_100 ?_
  rcases if_e e with ⟨c83, e⟩ | ⟨c83, e⟩
  · refine V_icmp_le 175 83 rfl (by decide +kernel) (fun _ => ?_) (fun q => absurd c83 q) 
    refine V_msk [true, false, false, true, true, true, true, false] (lc' := [some (rv (8, 99) 135), none, none, some (iv x3), some (iv x4), some (iv x5), some (iv x6), none]) rfl ?_
    exact w_X8_fires_175 hR x3 x4 x5 x6 h e
  · refine V_icmp_le 175 83 rfl (by decide +kernel) (fun q => absurd q c83) (fun _ => ?_)
    refine V_aload_n 84 rfl rfl ?_
    refine V_getR 143 85 rfl fr_RX8_32 ⟨Nat.le_of_ble_eq_true rfl, Or.inl (Nat.le_of_ble_eq_true rfl)⟩ rfl ?_
    refine V_iload_n 86 rfl rfl ?_
    refine V_iconst (nI 2) 87 rfl ic_2 ?_
    refine V_iadd 88 rfl ?_
    obtain ⟨g25, e⟩ := gd_e e
    refine V_iald 89 rfl g25 ?_
    refine V_iload 90 rfl rfl ?_
    refine V_bipush (nI 100) 91 rfl bp_100 ?_
    refine V_isub 92 rfl ?_
    refine V_imul 93 rfl ?_
    refine V_bipush (nI 10) 94 rfl bp_10 ?_
    refine V_iload 95 rfl rfl ?_
    refine V_imul 96 rfl ?_
    obtain ⟨g26, e⟩ := gd_e e
    refine V_idiv 97 rfl (of_decide_eq_true g26) ?_
    refine V_aload_n 98 rfl rfl ?_
    refine V_getR 140 99 rfl fr_RX8_23 ⟨Nat.le_of_ble_eq_true rfl, Or.inl (Nat.le_of_ble_eq_true rfl)⟩ rfl ?_
    refine V_iload_n 100 rfl rfl ?_
    obtain ⟨g27, e⟩ := gd_e e
    refine V_iald 101 rfl g27 ?_
    rcases if_e e with ⟨c102, e⟩ | ⟨c102, e⟩
    · refine V_icmp_le 175 102 rfl (by decide +kernel) (fun _ => ?_) (fun q => absurd c102 q) 
      refine V_msk [true, false, false, true, true, true, true, false] (lc' := [some (rv (8, 99) 135), none, none, some (iv x3), some (iv x4), some (iv x5), some (iv x6), none]) rfl ?_
      exact w_X8_fires_175 hR x3 x4 x5 x6 h e
    · refine V_icmp_le 175 102 rfl (by decide +kernel) (fun q => absurd q c102) (fun _ => ?_)
      refine V_aload_n 103 rfl rfl ?_
      refine V_getR 143 104 rfl fr_RX8_32 ⟨Nat.le_of_ble_eq_true rfl, Or.inl (Nat.le_of_ble_eq_true rfl)⟩ rfl ?_
      refine V_iload_n 105 rfl rfl ?_
      refine V_iconst (nI 4) 106 rfl ic_4 ?_
      refine V_iadd 107 rfl ?_
      refine V_iconst (nI 1) 108 rfl ic_1 ?_
      obtain ⟨g28, e⟩ := gd_e e
      refine V_iast 109 rfl g28 ?_
      refine le_V (P := fun h29 => V G M_X8_fires X T 0 0 165 [some (rv (8, 99) 135), none, some (iv x2), some (iv x3), some (iv x4), some (iv x5), some (iv x6), none] [] h29) e (fun h29 e => ?_)
      refine V_aload_n 110 rfl rfl ?_
      refine V_getR 147 111 rfl fr_RX8_44 ⟨Nat.le_of_ble_eq_true rfl, Or.inl (Nat.le_of_ble_eq_true rfl)⟩ rfl ?_
      refine V_iload_n 112 rfl rfl ?_
      refine V_iconst (nI 1) 113 rfl ic_1 ?_
      refine V_zast 114 rfl g27 ?_
      refine le_V (P := fun h30 => V G M_X8_fires X T 0 0 172 [some (rv (8, 99) 135), none, some (iv x2), some (iv x3), some (iv x4), some (iv x5), some (iv x6), none] [] h30) e (fun h30 e => ?_)
      refine V_goto 301 115 rfl (by decide +kernel) ?_
      cases e
      exact V_vret 196 rfl hR rfl
set_option maxHeartbeats 4000000 in
theorem c_X8_fires {G : kG} {T : List kT} {x1 : Int32} {x2 : Int32} {h : kH} {h0 : kH} (e : p_X8_fires x1 x2 h = some h0) : k_C G M_X8_fires T [rv (8, 99) 135, iv x1, iv x2] h none h0 := by
  refine k_C_of 5 (by decide +kernel) rfl tb_X8_fires rfl (fun X hR => ?_)
  show V G M_X8_fires X T 0 0 0 [some (rv (8, 99) 135), some (iv x1), some (iv x2), none, none, none, none, none] [] h
  unfold p_X8_fires at e
  refine V_iload_n 0 rfl rfl ?_
  refine V_iload_n 1 rfl rfl ?_
  obtain ⟨v3, h1, d2, e⟩ := bd2_e e
  refine V_callS (N := M_X8_potAt) (av := [iv x1, iv x2]) (st := []) (r := some (iv v3)) (h' := h1) 2 rfl (c_X8_potAt d2) g_X8_potAt gs_X8_potAt lk_RX8_120 ⟨Nat.le_of_ble_eq_true rfl, Nat.le_of_ble_eq_true rfl⟩ rfl (Nat.le_of_ble_eq_true rfl) ⟨Nat.zero_le _, Nat.zero_le _⟩ ?_
  show V G M_X8_fires X T 0 0 5 [some (rv (8, 99) 135), some (iv x1), some (iv x2), none, none, none, none, none] [iv v3] h1
  refine V_istore_n 3 rfl (Nat.le_of_ble_eq_true rfl) rfl ?_
  show V G M_X8_fires X T 0 0 6 [some (rv (8, 99) 135), some (iv x1), some (iv x2), some (iv v3), none, none, none, none] [] h1
  refine V_aload_n 4 rfl rfl ?_
  refine V_getR 143 5 rfl fr_RX8_32 ⟨Nat.le_of_ble_eq_true rfl, Or.inl (Nat.le_of_ble_eq_true rfl)⟩ rfl ?_
  refine V_sipush (nI 200) 6 rfl sp_200 ?_
  refine V_iload_n 7 rfl rfl ?_
  refine V_imul 8 rfl ?_
  refine V_aload_n 9 rfl rfl ?_
  refine V_getR 143 10 rfl fr_RX8_32 ⟨Nat.le_of_ble_eq_true rfl, Or.inl (Nat.le_of_ble_eq_true rfl)⟩ rfl ?_
  refine V_iload_n 11 rfl rfl ?_
  refine V_iconst (nI 0) 12 rfl ic_0 ?_
  refine V_iadd 13 rfl ?_
  obtain ⟨g4, e⟩ := gd_e e
  refine V_iald 14 rfl g4 ?_
  refine V_iadd 15 rfl ?_
  obtain ⟨g5, e⟩ := gd_e e
  refine V_iald 16 rfl g5 ?_
  refine V_aload_n 17 rfl rfl ?_
  refine V_getR 143 18 rfl fr_RX8_32 ⟨Nat.le_of_ble_eq_true rfl, Or.inl (Nat.le_of_ble_eq_true rfl)⟩ rfl ?_
  refine V_iload_n 19 rfl rfl ?_
  refine V_iconst (nI 1) 20 rfl ic_1 ?_
  refine V_iadd 21 rfl ?_
  obtain ⟨g6, e⟩ := gd_e e
  refine V_iald 22 rfl g6 ?_
  refine V_isub 23 rfl ?_
  refine V_aload_n 24 rfl rfl ?_
  refine V_getR 139 25 rfl fr_RX8_20 ⟨Nat.le_of_ble_eq_true rfl, Or.inl (Nat.le_of_ble_eq_true rfl)⟩ rfl ?_
  refine V_iload_n 26 rfl rfl ?_
  obtain ⟨g7, e⟩ := gd_e e
  refine V_iald 27 rfl g7 ?_
  refine V_iconst (nI 1) 28 rfl ic_1 ?_
  refine V_iadd 29 rfl ?_
  obtain ⟨g8, e⟩ := gd_e e
  refine V_idiv 30 rfl (of_decide_eq_true g8) ?_
  refine V_istore 31 rfl (Nat.le_of_ble_eq_true rfl) rfl ?_
  refine le_V (P := fun v9 => V G M_X8_fires X T 0 0 45 [some (rv (8, 99) 135), some (iv x1), some (iv x2), some (iv v3), some (iv v9), none, none, none] [] h1) e (fun v9 e => ?_)
  refine V_aload_n 32 rfl rfl ?_
  refine V_getR 143 33 rfl fr_RX8_32 ⟨Nat.le_of_ble_eq_true rfl, Or.inl (Nat.le_of_ble_eq_true rfl)⟩ rfl ?_
  refine V_iload_n 34 rfl rfl ?_
  refine V_iconst (nI 1) 35 rfl ic_1 ?_
  refine V_iadd 36 rfl ?_
  refine V_dup2 37 rfl nj_i nj_r ?_
  refine V_iald 38 rfl g6 ?_
  refine V_iload 39 rfl rfl ?_
  refine V_iadd 40 rfl ?_
  refine V_iast 41 rfl g6 ?_
  refine le_V (P := fun h10 => V G M_X8_fires X T 0 0 58 [some (rv (8, 99) 135), some (iv x1), some (iv x2), some (iv v3), some (iv v9), none, none, none] [] h10) e (fun h10 e => ?_)
  refine V_aload_n 42 rfl rfl ?_
  refine V_getR 143 43 rfl fr_RX8_32 ⟨Nat.le_of_ble_eq_true rfl, Or.inl (Nat.le_of_ble_eq_true rfl)⟩ rfl ?_
  refine V_iload_n 44 rfl rfl ?_
  refine V_iconst (nI 1) 45 rfl ic_1 ?_
  refine V_iadd 46 rfl ?_
  refine V_iald 47 rfl g6 ?_
  refine V_istore 48 rfl (Nat.le_of_ble_eq_true rfl) rfl ?_
  refine le_V (P := fun v11 => V G M_X8_fires X T 0 0 68 [some (rv (8, 99) 135), some (iv x1), some (iv x2), some (iv v3), some (iv v9), some (iv v11), none, none] [] h10) e (fun v11 e => ?_)
  refine V_aload_n 49 rfl rfl ?_
  refine V_getR 143 50 rfl fr_RX8_32 ⟨Nat.le_of_ble_eq_true rfl, Or.inl (Nat.le_of_ble_eq_true rfl)⟩ rfl ?_
  refine V_iload_n 51 rfl rfl ?_
  refine V_bipush (nI 7) 52 rfl bp_7 ?_
  refine V_iadd 53 rfl ?_
  obtain ⟨g12, e⟩ := gd_e e
  refine V_iald 54 rfl g12 ?_
  refine V_iconst (nI 1) 55 rfl ic_1 ?_
  refine V_iadd 56 rfl ?_
  refine V_istore 57 rfl (Nat.le_of_ble_eq_true rfl) rfl ?_
  refine le_V (P := fun v13 => V G M_X8_fires X T 0 0 81 [some (rv (8, 99) 135), some (iv x1), some (iv x2), some (iv v3), some (iv v9), some (iv v11), some (iv v13), none] [] h10) e (fun v13 e => ?_)
  refine V_iload 58 rfl rfl ?_
  rcases if_e e with ⟨c59, e⟩ | ⟨c59, e⟩
  · refine V_if_le 120 59 rfl (by decide +kernel) (fun _ => ?_) (fun q => absurd c59 q) 
    refine V_msk [true, false, true, true, true, true, true, false] (lc' := [some (rv (8, 99) 135), none, some (iv x2), some (iv v3), some (iv v9), some (iv v11), some (iv v13), none]) rfl ?_
    exact w_X8_fires_120 hR x2 v3 v9 v11 v13 h10 e
  · refine V_if_le 120 59 rfl (by decide +kernel) (fun q => absurd q c59) (fun _ => ?_)
    refine V_iload 60 rfl rfl ?_
    refine V_aload_n 61 rfl rfl ?_
    refine V_getR 139 62 rfl fr_RX8_20 ⟨Nat.le_of_ble_eq_true rfl, Or.inl (Nat.le_of_ble_eq_true rfl)⟩ rfl ?_
    refine V_iload_n 63 rfl rfl ?_
    refine V_iald 64 rfl g7 ?_
    refine V_imul 65 rfl ?_
    refine V_bipush (nI 10) 66 rfl bp_10 ?_
    refine V_aload_n 67 rfl rfl ?_
    refine V_getR 137 68 rfl fr_RX8_13 ⟨Nat.le_of_ble_eq_true rfl, Or.inl (Nat.le_of_ble_eq_true rfl)⟩ rfl ?_
    refine V_bipush (nI 6) 69 rfl bp_6 ?_
    obtain ⟨g31, e⟩ := gd_e e
    refine V_iald 70 rfl g31 ?_
    refine V_imul 71 rfl ?_
    rcases if_e e with ⟨c72, e⟩ | ⟨c72, e⟩
    · refine V_icmp_le 120 72 rfl (by decide +kernel) (fun _ => ?_) (fun q => absurd c72 q) 
      refine V_msk [true, false, true, true, true, true, true, false] (lc' := [some (rv (8, 99) 135), none, some (iv x2), some (iv v3), some (iv v9), some (iv v11), some (iv v13), none]) rfl ?_
      exact w_X8_fires_120 hR x2 v3 v9 v11 v13 h10 e
    · refine V_icmp_le 120 72 rfl (by decide +kernel) (fun q => absurd q c72) (fun _ => ?_)
      refine V_aload_n 73 rfl rfl ?_
      refine V_getR 143 74 rfl fr_RX8_32 ⟨Nat.le_of_ble_eq_true rfl, Or.inl (Nat.le_of_ble_eq_true rfl)⟩ rfl ?_
      refine V_iload_n 75 rfl rfl ?_
      refine V_iconst (nI 4) 76 rfl ic_4 ?_
      refine V_iadd 77 rfl ?_
      refine V_iconst (nI 3) 78 rfl ic_3 ?_
      obtain ⟨g32, e⟩ := gd_e e
      refine V_iast 79 rfl g32 ?_
      refine le_V (P := fun h33 => V G M_X8_fires X T 0 0 117 [some (rv (8, 99) 135), some (iv x1), some (iv x2), some (iv v3), some (iv v9), some (iv v11), some (iv v13), none] [] h33) e (fun h33 e => ?_)
      refine V_goto 301 80 rfl (by decide +kernel) ?_
      cases e
      exact V_vret 196 rfl hR rfl
set_option maxHeartbeats 4000000 in
theorem c_X8_isNear {G : kG} {T : List kT} {x1 : Int32} {x2 : Int32} {h : kH} {r0 : Int32} {h0 : kH} (e : p_X8_isNear x1 x2 h = some (r0, h0)) : k_C G M_X8_isNear T [rv (8, 99) 135, iv x1, iv x2] h (some (iv r0)) h0 := by
  refine k_C_of 2 (by decide +kernel) rfl tb_X8_isNear rfl (fun X hR => ?_)
  show V G M_X8_isNear X T 0 0 0 [some (rv (8, 99) 135), some (iv x1), some (iv x2), none, none] [] h
  unfold p_X8_isNear at e
  refine V_iload_n 0 rfl rfl ?_
  refine V_aload_n 1 rfl rfl ?_
  refine V_getR 137 2 rfl fr_RX8_13 ⟨Nat.le_of_ble_eq_true rfl, Or.inl (Nat.le_of_ble_eq_true rfl)⟩ rfl ?_
  refine V_iconst (nI 0) 3 rfl ic_0 ?_
  obtain ⟨g1, e⟩ := gd_e e
  refine V_iald 4 rfl g1 ?_
  obtain ⟨g2, e⟩ := gd_e e
  refine V_rem 5 rfl (of_decide_eq_true g2) ?_
  refine V_iload_n 6 rfl rfl ?_
  refine V_aload_n 7 rfl rfl ?_
  refine V_getR 137 8 rfl fr_RX8_13 ⟨Nat.le_of_ble_eq_true rfl, Or.inl (Nat.le_of_ble_eq_true rfl)⟩ rfl ?_
  refine V_iconst (nI 0) 9 rfl ic_0 ?_
  refine V_iald 10 rfl g1 ?_
  obtain ⟨g3, e⟩ := gd_e e
  refine V_rem 11 rfl (of_decide_eq_true g3) ?_
  refine V_isub 12 rfl ?_
  refine V_istore_n 13 rfl (Nat.le_of_ble_eq_true rfl) rfl ?_
  refine le_V (P := fun v4 => V G M_X8_isNear X T 0 0 18 [some (rv (8, 99) 135), some (iv x1), some (iv x2), some (iv v4), none] [] h) e (fun v4 e => ?_)
  refine V_iload_n 14 rfl rfl ?_
  refine V_aload_n 15 rfl rfl ?_
  refine V_getR 137 16 rfl fr_RX8_13 ⟨Nat.le_of_ble_eq_true rfl, Or.inl (Nat.le_of_ble_eq_true rfl)⟩ rfl ?_
  refine V_iconst (nI 0) 17 rfl ic_0 ?_
  refine V_iald 18 rfl g1 ?_
  obtain ⟨g5, e⟩ := gd_e e
  refine V_idiv 19 rfl (of_decide_eq_true g5) ?_
  refine V_iload_n 20 rfl rfl ?_
  refine V_aload_n 21 rfl rfl ?_
  refine V_getR 137 22 rfl fr_RX8_13 ⟨Nat.le_of_ble_eq_true rfl, Or.inl (Nat.le_of_ble_eq_true rfl)⟩ rfl ?_
  refine V_iconst (nI 0) 23 rfl ic_0 ?_
  refine V_iald 24 rfl g1 ?_
  obtain ⟨g6, e⟩ := gd_e e
  refine V_idiv 25 rfl (of_decide_eq_true g6) ?_
  refine V_isub 26 rfl ?_
  refine V_istore 27 rfl (Nat.le_of_ble_eq_true rfl) rfl ?_
  refine le_V (P := fun v7 => V G M_X8_isNear X T 0 0 37 [some (rv (8, 99) 135), some (iv x1), some (iv x2), some (iv v4), some (iv v7)] [] h) e (fun v7 e => ?_)
  refine V_iload_n 28 rfl rfl ?_
  refine V_i2l 29 rfl ?_
  refine V_ldc2 (-1 : Int64) 30 rfl kl_RX8_139 ?_
  refine V_lconst (1 : Int64) 31 rfl rfl ?_
  obtain ⟨v10, h8, d9, e⟩ := bd2_e e
  refine V_callS (N := M_X8_in) (av := [jv (v4).toInt64, jv (-1 : Int64), jv (1 : Int64)]) (st := []) (r := some (iv v10)) (h' := h8) 32 rfl (c_X8_in d9) g_X8_in gs_X8_in lk_RX8_68 ⟨Nat.le_of_ble_eq_true rfl, Nat.le_of_ble_eq_true rfl⟩ rfl (Nat.le_of_ble_eq_true rfl) ⟨Nat.zero_le _, Nat.zero_le _⟩ ?_
  show V G M_X8_isNear X T 0 0 46 [some (rv (8, 99) 135), some (iv x1), some (iv x2), some (iv v4), some (iv v7)] [iv v10] h8
  rcases if_e e with ⟨c33, e⟩ | ⟨c33, e⟩
  · refine V_if_eq 66 33 rfl (by decide +kernel) (fun _ => ?_) (fun q => absurd c33 q) 
    refine V_iconst (nI 0) 42 rfl ic_0 ?_
    cases e
    exact V_zret 43 rfl z_0 hR rfl
  · refine V_if_eq 66 33 rfl (by decide +kernel) (fun q => absurd q c33) (fun _ => ?_)
    refine V_iload 34 rfl rfl ?_
    refine V_i2l 35 rfl ?_
    refine V_ldc2 (-1 : Int64) 36 rfl kl_RX8_139 ?_
    refine V_lconst (1 : Int64) 37 rfl rfl ?_
    obtain ⟨v13, h11, d12, e⟩ := bd2_e e
    refine V_callS (N := M_X8_in) (av := [jv (v7).toInt64, jv (-1 : Int64), jv (1 : Int64)]) (st := []) (r := some (iv v13)) (h' := h11) 38 rfl (c_X8_in d12) g_X8_in gs_X8_in lk_RX8_68 ⟨Nat.le_of_ble_eq_true rfl, Nat.le_of_ble_eq_true rfl⟩ rfl (Nat.le_of_ble_eq_true rfl) ⟨Nat.zero_le _, Nat.zero_le _⟩ ?_
    show V G M_X8_isNear X T 0 0 59 [some (rv (8, 99) 135), some (iv x1), some (iv x2), some (iv v4), some (iv v7)] [iv v13] h11
    rcases if_e e with ⟨c39, e⟩ | ⟨c39, e⟩
    · refine V_if_eq 66 39 rfl (by decide +kernel) (fun _ => ?_) (fun q => absurd c39 q) 
      refine V_iconst (nI 0) 42 rfl ic_0 ?_
      cases e
      exact V_zret 43 rfl z_0 hR rfl
    · refine V_if_eq 66 39 rfl (by decide +kernel) (fun q => absurd q c39) (fun _ => ?_)
      refine V_iconst (nI 1) 40 rfl ic_1 ?_
      refine V_goto 67 41 rfl (by decide +kernel) ?_
      cases e
      exact V_zret 43 rfl z_1 hR rfl
set_option maxHeartbeats 4000000 in
theorem w_X8_strikes_143 {G : kG} {X : kX} {T : List kT} {h0 : kH} (hR : k_R G M_X8_strikes X T 0 0 none h0) (K2 : Int32 × Int32 × kH → Option (kH)) (hK2 : ∀ (x1 : Int32) (x2 : Int32) (h : kH), K2 (x1, x2, h) = some h0 → V G M_X8_strikes X T 0 0 2 [some (rv (8, 99) 135), some (iv x1), some (iv x2), none, none, none] [] h) (x1 : Int32) (x2 : Int32) (s0 : Int32) (s1 : Int32) (h : kH) (e : p_X8_strikes_143 K2 x1 x2 s0 s1 h = some h0) : V G M_X8_strikes X T 0 0 143 [some (rv (8, 99) 135), some (iv x1), some (iv x2), none, none, none] [iv s0, iv s1, rv (9, 800) 143] h := by
  unfold p_X8_strikes_143 at e
  obtain ⟨g7, e⟩ := gd_e e
  refine V_iast 85 rfl g7 ?_
  refine le_V (P := fun h8 => V G M_X8_strikes X T 0 0 144 [some (rv (8, 99) 135), some (iv x1), some (iv x2), none, none, none] [] h8) e (fun h8 e => ?_)
  refine V_iinc (x2 + (nI 1)) 86 rfl rfl (inc_1 _) (Nat.le_of_ble_eq_true rfl) rfl ?_
  show V G M_X8_strikes X T 0 0 147 [some (rv (8, 99) 135), some (iv x1), some (iv (x2 + (nI 1))), none, none, none] [] h8
  refine V_goto 2 87 rfl (by decide +kernel) ?_
  refine V_msk [true, true, true, false, false, false] (lc' := [some (rv (8, 99) 135), some (iv x1), some (iv (x2 + (nI 1))), none, none, none]) rfl ?_
  exact hK2 x1 (x2 + (nI 1)) h8 e
set_option maxHeartbeats 4000000 in
theorem w_X8_strikes_135 {G : kG} {X : kX} {T : List kT} {h0 : kH} (hR : k_R G M_X8_strikes X T 0 0 none h0) (K2 : Int32 × Int32 × kH → Option (kH)) (hK2 : ∀ (x1 : Int32) (x2 : Int32) (h : kH), K2 (x1, x2, h) = some h0 → V G M_X8_strikes X T 0 0 2 [some (rv (8, 99) 135), some (iv x1), some (iv x2), none, none, none] [] h) (x1 : Int32) (x2 : Int32) (x3 : Int32) (s0 : Int32) (h : kH) (e : p_X8_strikes_135 K2 x1 x2 x3 s0 h = some h0) : V G M_X8_strikes X T 0 0 135 [some (rv (8, 99) 135), some (iv x1), some (iv x2), some (iv x3), none, none] [iv s0, rv (9, 800) 143] h := by
  unfold p_X8_strikes_135 at e
  refine V_aload_n 79 rfl rfl ?_
  refine V_getR 143 80 rfl fr_RX8_32 ⟨Nat.le_of_ble_eq_true rfl, Or.inl (Nat.le_of_ble_eq_true rfl)⟩ rfl ?_
  refine V_iload_n 81 rfl rfl ?_
  refine V_iconst (nI 4) 82 rfl ic_4 ?_
  refine V_iadd 83 rfl ?_
  obtain ⟨g6, e⟩ := gd_e e
  refine V_iald 84 rfl g6 ?_
  refine V_msk [true, true, true, false, false, false] (lc' := [some (rv (8, 99) 135), some (iv x1), some (iv x2), none, none, none]) rfl ?_
  exact w_X8_strikes_143 hR K2 hK2 x1 x2 (h 143 ((x3 + (nI 4))).toNatClampNeg) s0 h e
set_option maxHeartbeats 4000000 in
theorem w_X8_strikes_83 {G : kG} {X : kX} {T : List kT} {h0 : kH} (hR : k_R G M_X8_strikes X T 0 0 none h0) (K2 : Int32 × Int32 × kH → Option (kH)) (K24 : Int32 × Int32 × Int32 × Int32 × Int32 × kH → Option (kH)) (hK2 : ∀ (x1 : Int32) (x2 : Int32) (h : kH), K2 (x1, x2, h) = some h0 → V G M_X8_strikes X T 0 0 2 [some (rv (8, 99) 135), some (iv x1), some (iv x2), none, none, none] [] h) (hK24 : ∀ (x1 : Int32) (x2 : Int32) (x3 : Int32) (x4 : Int32) (x5 : Int32) (h : kH), K24 (x1, x2, x3, x4, x5, h) = some h0 → V G M_X8_strikes X T 0 0 24 [some (rv (8, 99) 135), some (iv x1), some (iv x2), some (iv x3), some (iv x4), some (iv x5)] [] h) (x1 : Int32) (x2 : Int32) (x3 : Int32) (x5 : Int32) (s0 : Int32) (h : kH) (e : p_X8_strikes_83 K2 K24 x1 x2 x3 x5 s0 h = some h0) : V G M_X8_strikes X T 0 0 83 [some (rv (8, 99) 135), some (iv x1), some (iv x2), some (iv x3), none, some (iv x5)] [iv s0] h := by
  unfold p_X8_strikes_83 at e
  refine V_istore 49 rfl (Nat.le_of_ble_eq_true rfl) rfl ?_
  show V G M_X8_strikes X T 0 0 85 [some (rv (8, 99) 135), some (iv x1), some (iv x2), some (iv x3), some (iv s0), some (iv x5)] [] h
  refine V_iinc (x5 + (nI 1)) 50 rfl rfl (inc_1 _) (Nat.le_of_ble_eq_true rfl) rfl ?_
  show V G M_X8_strikes X T 0 0 88 [some (rv (8, 99) 135), some (iv x1), some (iv x2), some (iv x3), some (iv s0), some (iv (x5 + (nI 1)))] [] h
  refine V_goto 24 51 rfl (by decide +kernel) ?_
  refine V_msk [true, true, true, true, true, true] (lc' := [some (rv (8, 99) 135), some (iv x1), some (iv x2), some (iv x3), some (iv s0), some (iv (x5 + (nI 1)))]) rfl ?_
  exact hK24 x1 x2 x3 s0 (x5 + (nI 1)) h e
set_option maxHeartbeats 4000000 in
theorem w_X8_strikes_78 {G : kG} {X : kX} {T : List kT} {h0 : kH} (hR : k_R G M_X8_strikes X T 0 0 none h0) (K2 : Int32 × Int32 × kH → Option (kH)) (K24 : Int32 × Int32 × Int32 × Int32 × Int32 × kH → Option (kH)) (hK2 : ∀ (x1 : Int32) (x2 : Int32) (h : kH), K2 (x1, x2, h) = some h0 → V G M_X8_strikes X T 0 0 2 [some (rv (8, 99) 135), some (iv x1), some (iv x2), none, none, none] [] h) (hK24 : ∀ (x1 : Int32) (x2 : Int32) (x3 : Int32) (x4 : Int32) (x5 : Int32) (h : kH), K24 (x1, x2, x3, x4, x5, h) = some h0 → V G M_X8_strikes X T 0 0 24 [some (rv (8, 99) 135), some (iv x1), some (iv x2), some (iv x3), some (iv x4), some (iv x5)] [] h) (x1 : Int32) (x2 : Int32) (x3 : Int32) (x5 : Int32) (h : kH) (e : p_X8_strikes_78 K2 K24 x1 x2 x3 x5 h = some h0) : V G M_X8_strikes X T 0 0 78 [some (rv (8, 99) 135), some (iv x1), some (iv x2), some (iv x3), none, some (iv x5)] [] h := by
  unfold p_X8_strikes_78 at e
  refine V_iconst (nI 1) 46 rfl ic_1 ?_
  refine V_goto 83 47 rfl (by decide +kernel) ?_
  refine V_msk [true, true, true, true, false, true] (lc' := [some (rv (8, 99) 135), some (iv x1), some (iv x2), some (iv x3), none, some (iv x5)]) rfl ?_
  exact w_X8_strikes_83 hR K2 K24 hK2 hK24 x1 x2 x3 x5 (nI 1) h e
set_option maxHeartbeats 4000000 in
theorem w_X8_strikes_82 {G : kG} {X : kX} {T : List kT} {h0 : kH} (hR : k_R G M_X8_strikes X T 0 0 none h0) (K2 : Int32 × Int32 × kH → Option (kH)) (K24 : Int32 × Int32 × Int32 × Int32 × Int32 × kH → Option (kH)) (hK2 : ∀ (x1 : Int32) (x2 : Int32) (h : kH), K2 (x1, x2, h) = some h0 → V G M_X8_strikes X T 0 0 2 [some (rv (8, 99) 135), some (iv x1), some (iv x2), none, none, none] [] h) (hK24 : ∀ (x1 : Int32) (x2 : Int32) (x3 : Int32) (x4 : Int32) (x5 : Int32) (h : kH), K24 (x1, x2, x3, x4, x5, h) = some h0 → V G M_X8_strikes X T 0 0 24 [some (rv (8, 99) 135), some (iv x1), some (iv x2), some (iv x3), some (iv x4), some (iv x5)] [] h) (x1 : Int32) (x2 : Int32) (x3 : Int32) (x5 : Int32) (h : kH) (e : p_X8_strikes_82 K2 K24 x1 x2 x3 x5 h = some h0) : V G M_X8_strikes X T 0 0 82 [some (rv (8, 99) 135), some (iv x1), some (iv x2), some (iv x3), none, some (iv x5)] [] h := by
  unfold p_X8_strikes_82 at e
  refine V_iconst (nI 0) 48 rfl ic_0 ?_
  refine V_msk [true, true, true, true, false, true] (lc' := [some (rv (8, 99) 135), some (iv x1), some (iv x2), some (iv x3), none, some (iv x5)]) rfl ?_
  exact w_X8_strikes_83 hR K2 K24 hK2 hK24 x1 x2 x3 x5 (nI 0) h e
set_option maxHeartbeats 4000000 in
theorem w_X8_strikes_24 {G : kG} {X : kX} {T : List kT} {h0 : kH} (hR : k_R G M_X8_strikes X T 0 0 none h0) (K2 : Int32 × Int32 × kH → Option (kH)) (K24 : Int32 × Int32 × Int32 × Int32 × Int32 × kH → Option (kH)) (hK2 : ∀ (x1 : Int32) (x2 : Int32) (h : kH), K2 (x1, x2, h) = some h0 → V G M_X8_strikes X T 0 0 2 [some (rv (8, 99) 135), some (iv x1), some (iv x2), none, none, none] [] h) (hK24 : ∀ (x1 : Int32) (x2 : Int32) (x3 : Int32) (x4 : Int32) (x5 : Int32) (h : kH), K24 (x1, x2, x3, x4, x5, h) = some h0 → V G M_X8_strikes X T 0 0 24 [some (rv (8, 99) 135), some (iv x1), some (iv x2), some (iv x3), some (iv x4), some (iv x5)] [] h) (x1 : Int32) (x2 : Int32) (x3 : Int32) (x4 : Int32) (x5 : Int32) (h : kH) (e : p_X8_strikes_24 K2 K24 x1 x2 x3 x4 x5 h = some h0) : V G M_X8_strikes X T 0 0 24 [some (rv (8, 99) 135), some (iv x1), some (iv x2), some (iv x3), some (iv x4), some (iv x5)] [] h := by
  unfold p_X8_strikes_24 at e
  refine V_iload 16 rfl rfl ?_
  refine V_aload_n 17 rfl rfl ?_
  refine V_getR 138 18 rfl fr_RX8_17 ⟨Nat.le_of_ble_eq_true rfl, Or.inl (Nat.le_of_ble_eq_true rfl)⟩ rfl ?_
  refine V_iconst (nI 0) 19 rfl ic_0 ?_
  obtain ⟨g5, e⟩ := gd_e e
  refine V_iald 20 rfl g5 ?_
  rcases if_e e with ⟨c21, e⟩ | ⟨c21, e⟩
  · refine V_icmp_ge 91 21 rfl (by decide +kernel) (fun _ => ?_) (fun q => absurd c21 q) 
    refine V_aload_n 52 rfl rfl ?_
    refine V_getR 143 53 rfl fr_RX8_32 ⟨Nat.le_of_ble_eq_true rfl, Or.inl (Nat.le_of_ble_eq_true rfl)⟩ rfl ?_
    refine V_iload_n 54 rfl rfl ?_
    refine V_iconst (nI 4) 55 rfl ic_4 ?_
    refine V_iadd 56 rfl ?_
    refine V_iload 57 rfl rfl ?_
    rcases if_e e with ⟨c58, e⟩ | ⟨c58, e⟩
    · refine V_if_eq 135 58 rfl (by decide +kernel) (fun _ => ?_) (fun q => absurd c58 q) 
      refine V_msk [true, true, true, true, false, false] (lc' := [some (rv (8, 99) 135), some (iv x1), some (iv x2), some (iv x3), none, none]) rfl ?_
      exact w_X8_strikes_135 hR K2 hK2 x1 x2 x3 (x3 + (nI 4)) h e
    · refine V_if_eq 135 58 rfl (by decide +kernel) (fun q => absurd q c58) (fun _ => ?_)
      refine V_aload_n 59 rfl rfl ?_
      refine V_getR 143 60 rfl fr_RX8_32 ⟨Nat.le_of_ble_eq_true rfl, Or.inl (Nat.le_of_ble_eq_true rfl)⟩ rfl ?_
      refine V_iload_n 61 rfl rfl ?_
      refine V_iconst (nI 4) 62 rfl ic_4 ?_
      refine V_iadd 63 rfl ?_
      obtain ⟨g9, e⟩ := gd_e e
      refine V_iald 64 rfl g9 ?_
      rcases if_e e with ⟨c65, e⟩ | ⟨c65, e⟩
      · refine V_if_ne 135 65 rfl (by decide +kernel) (fun q => absurd c65 q) (fun _ => ?_)
        refine V_aload_n 66 rfl rfl ?_
        refine V_getR 143 67 rfl fr_RX8_32 ⟨Nat.le_of_ble_eq_true rfl, Or.inl (Nat.le_of_ble_eq_true rfl)⟩ rfl ?_
        refine V_iload_n 68 rfl rfl ?_
        refine V_iconst (nI 3) 69 rfl ic_3 ?_
        refine V_iadd 70 rfl ?_
        obtain ⟨g10, e⟩ := gd_e e
        refine V_iald 71 rfl g10 ?_
        refine V_aload_n 72 rfl rfl ?_
        refine V_getR 137 73 rfl fr_RX8_13 ⟨Nat.le_of_ble_eq_true rfl, Or.inl (Nat.le_of_ble_eq_true rfl)⟩ rfl ?_
        refine V_iconst (nI 4) 74 rfl ic_4 ?_
        obtain ⟨g11, e⟩ := gd_e e
        refine V_iald 75 rfl g11 ?_
        rcases if_e e with ⟨c76, e⟩ | ⟨c76, e⟩
        · refine V_icmp_ge 135 76 rfl (by decide +kernel) (fun _ => ?_) (fun q => absurd c76 q) 
          refine V_msk [true, true, true, true, false, false] (lc' := [some (rv (8, 99) 135), some (iv x1), some (iv x2), some (iv x3), none, none]) rfl ?_
          exact w_X8_strikes_135 hR K2 hK2 x1 x2 x3 (x3 + (nI 4)) h e
        · refine V_icmp_ge 135 76 rfl (by decide +kernel) (fun q => absurd q c76) (fun _ => ?_)
          refine V_iconst (nI 2) 77 rfl ic_2 ?_
          refine V_goto 143 78 rfl (by decide +kernel) ?_
          refine V_msk [true, true, true, false, false, false] (lc' := [some (rv (8, 99) 135), some (iv x1), some (iv x2), none, none, none]) rfl ?_
          exact w_X8_strikes_143 hR K2 hK2 x1 x2 (nI 2) (x3 + (nI 4)) h e
      · refine V_if_ne 135 65 rfl (by decide +kernel) (fun _ => ?_) (fun q => absurd q c65) 
        refine V_msk [true, true, true, true, false, false] (lc' := [some (rv (8, 99) 135), some (iv x1), some (iv x2), some (iv x3), none, none]) rfl ?_
        exact w_X8_strikes_135 hR K2 hK2 x1 x2 x3 (x3 + (nI 4)) h e
  · refine V_icmp_ge 91 21 rfl (by decide +kernel) (fun q => absurd q c21) (fun _ => ?_)
    refine V_iload 22 rfl rfl ?_
    rcases if_e e with ⟨c23, e⟩ | ⟨c23, e⟩
    · refine V_if_ne 78 23 rfl (by decide +kernel) (fun q => absurd c23 q) (fun _ => ?_)
      refine V_aload_n 24 rfl rfl ?_
      refine V_getR 147 25 rfl fr_RX8_44 ⟨Nat.le_of_ble_eq_true rfl, Or.inl (Nat.le_of_ble_eq_true rfl)⟩ rfl ?_
      refine V_iload 26 rfl rfl ?_
      obtain ⟨g12, e⟩ := gd_e e
      refine V_zald 27 rfl g12 ?_
      rcases if_e e with ⟨c28, e⟩ | ⟨c28, e⟩
      · refine V_if_eq 82 28 rfl (by decide +kernel) (fun _ => ?_) (fun q => absurd c28 q) 
        refine V_msk [true, true, true, true, false, true] (lc' := [some (rv (8, 99) 135), some (iv x1), some (iv x2), some (iv x3), none, some (iv x5)]) rfl ?_
        exact w_X8_strikes_82 hR K2 K24 hK2 hK24 x1 x2 x3 x5 h e
      · refine V_if_eq 82 28 rfl (by decide +kernel) (fun q => absurd q c28) (fun _ => ?_)
        refine V_aload_n 29 rfl rfl ?_
        refine V_aload_n 30 rfl rfl ?_
        refine V_getR 143 31 rfl fr_RX8_32 ⟨Nat.le_of_ble_eq_true rfl, Or.inl (Nat.le_of_ble_eq_true rfl)⟩ rfl ?_
        refine V_iload_n 32 rfl rfl ?_
        refine V_iconst (nI 0) 33 rfl ic_0 ?_
        refine V_iadd 34 rfl ?_
        obtain ⟨g13, e⟩ := gd_e e
        refine V_iald 35 rfl g13 ?_
        refine V_aload_n 36 rfl rfl ?_
        refine V_getR 143 37 rfl fr_RX8_32 ⟨Nat.le_of_ble_eq_true rfl, Or.inl (Nat.le_of_ble_eq_true rfl)⟩ rfl ?_
        refine V_iload_n 38 rfl rfl ?_
        refine V_iload 39 rfl rfl ?_
        obtain ⟨v16, h14, d15, e⟩ := bd2_e e
        refine V_callS (N := M_X8_potAt) (av := [iv x1, iv x5]) (st := [rv (9, 800) 143, iv (h 143 ((x3 + (nI 0))).toNatClampNeg), rv (8, 99) 135]) (r := some (iv v16)) (h' := h14) 40 rfl (c_X8_potAt d15) g_X8_potAt gs_X8_potAt lk_RX8_120 ⟨Nat.le_of_ble_eq_true rfl, Nat.le_of_ble_eq_true rfl⟩ rfl (Nat.le_of_ble_eq_true rfl) ⟨Nat.zero_le _, Nat.zero_le _⟩ ?_
        show V G M_X8_strikes X T 0 0 69 [some (rv (8, 99) 135), some (iv x1), some (iv x2), some (iv x3), some (iv x4), some (iv x5)] [iv v16, rv (9, 800) 143, iv (h 143 ((x3 + (nI 0))).toNatClampNeg), rv (8, 99) 135] h14
        refine V_iconst (nI 0) 41 rfl ic_0 ?_
        refine V_iadd 42 rfl ?_
        obtain ⟨g17, e⟩ := gd_e e
        refine V_iald 43 rfl g17 ?_
        obtain ⟨v20, h18, d19, e⟩ := bd2_e e
        refine V_callV (N := M_X8_isNear) (av := [iv (h 143 ((x3 + (nI 0))).toNatClampNeg), iv (h14 143 ((v16 + (nI 0))).toNatClampNeg)]) (st := []) (r := some (iv v20)) (h' := h18) 44 rfl (c_X8_isNear d19) g_X8_isNear gv_X8_isNear lk_RX8_141 ⟨Nat.le_of_ble_eq_true rfl, Nat.le_of_ble_eq_true rfl⟩ rfl rfl (Nat.le_of_ble_eq_true rfl) ⟨Nat.zero_le _, Nat.zero_le _⟩ ?_
        show V G M_X8_strikes X T 0 0 75 [some (rv (8, 99) 135), some (iv x1), some (iv x2), some (iv x3), some (iv x4), some (iv x5)] [iv v20] h18
        rcases if_e e with ⟨c45, e⟩ | ⟨c45, e⟩
        · refine V_if_eq 82 45 rfl (by decide +kernel) (fun _ => ?_) (fun q => absurd c45 q) 
          refine V_msk [true, true, true, true, false, true] (lc' := [some (rv (8, 99) 135), some (iv x1), some (iv x2), some (iv x3), none, some (iv x5)]) rfl ?_
          exact w_X8_strikes_82 hR K2 K24 hK2 hK24 x1 x2 x3 x5 h18 e
        · refine V_if_eq 82 45 rfl (by decide +kernel) (fun q => absurd q c45) (fun _ => ?_)
          refine V_msk [true, true, true, true, false, true] (lc' := [some (rv (8, 99) 135), some (iv x1), some (iv x2), some (iv x3), none, some (iv x5)]) rfl ?_
          exact w_X8_strikes_78 hR K2 K24 hK2 hK24 x1 x2 x3 x5 h18 e
    · refine V_if_ne 78 23 rfl (by decide +kernel) (fun _ => ?_) (fun q => absurd q c23) 
      refine V_msk [true, true, true, true, false, true] (lc' := [some (rv (8, 99) 135), some (iv x1), some (iv x2), some (iv x3), none, some (iv x5)]) rfl ?_
      exact w_X8_strikes_78 hR K2 K24 hK2 hK24 x1 x2 x3 x5 h e
set_option maxHeartbeats 4000000 in
theorem w_X8_strikes_2 {G : kG} {X : kX} {T : List kT} {h0 : kH} (hR : k_R G M_X8_strikes X T 0 0 none h0) (K2 : Int32 × Int32 × kH → Option (kH)) (hK2 : ∀ (x1 : Int32) (x2 : Int32) (h : kH), K2 (x1, x2, h) = some h0 → V G M_X8_strikes X T 0 0 2 [some (rv (8, 99) 135), some (iv x1), some (iv x2), none, none, none] [] h) (x1 : Int32) (x2 : Int32) (h : kH) (e : p_X8_strikes_2 K2 x1 x2 h = some h0) : V G M_X8_strikes X T 0 0 2 [some (rv (8, 99) 135), some (iv x1), some (iv x2), none, none, none] [] h := by
  unfold p_X8_strikes_2 at e
  refine V_iload_n 2 rfl rfl ?_
  refine V_aload_n 3 rfl rfl ?_
  refine V_getR 138 4 rfl fr_RX8_17 ⟨Nat.le_of_ble_eq_true rfl, Or.inl (Nat.le_of_ble_eq_true rfl)⟩ rfl ?_
  refine V_iconst (nI 0) 5 rfl ic_0 ?_
  obtain ⟨g1, e⟩ := gd_e e
  refine V_iald 6 rfl g1 ?_
  rcases if_e e with ⟨c7, e⟩ | ⟨c7, e⟩
  · refine V_icmp_ge 150 7 rfl (by decide +kernel) (fun _ => ?_) (fun q => absurd c7 q) 
    cases e
    exact V_vret 88 rfl hR rfl
  · refine V_icmp_ge 150 7 rfl (by decide +kernel) (fun q => absurd q c7) (fun _ => ?_)
    refine V_iload_n 8 rfl rfl ?_
    refine V_iload_n 9 rfl rfl ?_
    obtain ⟨v4, h2, d3, e⟩ := bd2_e e
    refine V_callS (N := M_X8_potAt) (av := [iv x1, iv x2]) (st := []) (r := some (iv v4)) (h' := h2) 10 rfl (c_X8_potAt d3) g_X8_potAt gs_X8_potAt lk_RX8_120 ⟨Nat.le_of_ble_eq_true rfl, Nat.le_of_ble_eq_true rfl⟩ rfl (Nat.le_of_ble_eq_true rfl) ⟨Nat.zero_le _, Nat.zero_le _⟩ ?_
    show V G M_X8_strikes X T 0 0 17 [some (rv (8, 99) 135), some (iv x1), some (iv x2), none, none, none] [iv v4] h2
    refine V_istore_n 11 rfl (Nat.le_of_ble_eq_true rfl) rfl ?_
    show V G M_X8_strikes X T 0 0 18 [some (rv (8, 99) 135), some (iv x1), some (iv x2), some (iv v4), none, none] [] h2
    refine V_iconst (nI 0) 12 rfl ic_0 ?_
    refine V_istore 13 rfl (Nat.le_of_ble_eq_true rfl) rfl ?_
    show V G M_X8_strikes X T 0 0 21 [some (rv (8, 99) 135), some (iv x1), some (iv x2), some (iv v4), some (iv (nI 0)), none] [] h2
    refine V_iconst (nI 0) 14 rfl ic_0 ?_
    refine V_istore 15 rfl (Nat.le_of_ble_eq_true rfl) rfl ?_
    show V G M_X8_strikes X T 0 0 24 [some (rv (8, 99) 135), some (iv x1), some (iv x2), some (iv v4), some (iv (nI 0)), some (iv (nI 0))] [] h2
    refine V_msk [true, true, true, true, true, true] (lc' := [some (rv (8, 99) 135), some (iv x1), some (iv x2), some (iv v4), some (iv (nI 0)), some (iv (nI 0))]) rfl ?_
    exact fx_e (P := fun s => V G M_X8_strikes X T 0 0 24 [some (rv (8, 99) 135), some (iv s.1), some (iv s.2.1), some (iv s.2.2.1), some (iv s.2.2.2.1), some (iv s.2.2.2.2.1)] [] s.2.2.2.2.2) (fun K24 hK24 s e => w_X8_strikes_24 hR K2 K24 hK2 (fun x1 x2 x3 x4 x5 h e => hK24 (x1, x2, x3, x4, x5, h) e) s.1 s.2.1 s.2.2.1 s.2.2.2.1 s.2.2.2.2.1 s.2.2.2.2.2 e) FU (x1, x2, v4, (nI 0), (nI 0), h2) e
set_option maxHeartbeats 4000000 in
theorem c_X8_strikes {G : kG} {T : List kT} {x1 : Int32} {h : kH} {h0 : kH} (e : p_X8_strikes x1 h = some h0) : k_C G M_X8_strikes T [rv (8, 99) 135, iv x1] h none h0 := by
  refine k_C_of 4 (by decide +kernel) rfl tb_X8_strikes rfl (fun X hR => ?_)
  show V G M_X8_strikes X T 0 0 0 [some (rv (8, 99) 135), some (iv x1), none, none, none, none] [] h
  unfold p_X8_strikes at e
  refine V_iconst (nI 0) 0 rfl ic_0 ?_
  refine V_istore_n 1 rfl (Nat.le_of_ble_eq_true rfl) rfl ?_
  show V G M_X8_strikes X T 0 0 2 [some (rv (8, 99) 135), some (iv x1), some (iv (nI 0)), none, none, none] [] h
  refine V_msk [true, true, true, false, false, false] (lc' := [some (rv (8, 99) 135), some (iv x1), some (iv (nI 0)), none, none, none]) rfl ?_
  exact fx_e (P := fun s => V G M_X8_strikes X T 0 0 2 [some (rv (8, 99) 135), some (iv s.1), some (iv s.2.1), none, none, none] [] s.2.2) (fun K2 hK2 s e => w_X8_strikes_2 hR K2 (fun x1 x2 h e => hK2 (x1, x2, h) e) s.1 s.2.1 s.2.2 e) FU (x1, (nI 0), h) e
set_option maxHeartbeats 4000000 in
theorem w_X8_colours_112 {G : kG} {X : kX} {T : List kT} {h0 : kH} (hR : k_R G M_X8_colours X T 0 0 none h0) (s0 : Int32) (s1 : Int32) (h : kH) (e : p_X8_colours_112 s0 s1 h = some h0) : V G M_X8_colours X T 0 0 112 [none, none, none, none, none] [iv s0, iv s1, rv (9, 800) 143] h := by
  unfold p_X8_colours_112 at e
  obtain ⟨g10, e⟩ := gd_e e
  refine V_iast 69 rfl g10 ?_
  refine le_V (P := fun h11 => V G M_X8_colours X T 0 0 113 [none, none, none, none, none] [] h11) e (fun h11 e => ?_)
  cases e
  exact V_vret 70 rfl hR rfl
set_option maxHeartbeats 4000000 in
theorem w_X8_colours_107 {G : kG} {X : kX} {T : List kT} {h0 : kH} (hR : k_R G M_X8_colours X T 0 0 none h0) (s0 : Int32) (h : kH) (e : p_X8_colours_107 s0 h = some h0) : V G M_X8_colours X T 0 0 107 [none, none, none, none, none] [iv s0, rv (9, 800) 143] h := by
  unfold p_X8_colours_107 at e
  refine V_iconst (nI 2) 66 rfl ic_2 ?_
  refine V_goto 112 67 rfl (by decide +kernel) ?_
  refine V_msk [false, false, false, false, false] (lc' := [none, none, none, none, none]) rfl ?_
  exact w_X8_colours_112 hR (nI 2) s0 h e
set_option maxHeartbeats 4000000 in
theorem c_X8_colours {G : kG} {T : List kT} {x1 : Int32} {x2 : Int32} {h : kH} {h0 : kH} (e : p_X8_colours x1 x2 h = some h0) : k_C G M_X8_colours T [rv (8, 99) 135, iv x1, iv x2] h none h0 := by
  refine k_C_of 2 (by decide +kernel) rfl tb_X8_colours rfl (fun X hR => ?_)
  show V G M_X8_colours X T 0 0 0 [some (rv (8, 99) 135), some (iv x1), some (iv x2), none, none] [] h
  unfold p_X8_colours at e
  refine V_iload_n 0 rfl rfl ?_
  refine V_iload_n 1 rfl rfl ?_
  obtain ⟨v3, h1, d2, e⟩ := bd2_e e
  refine V_callS (N := M_X8_potAt) (av := [iv x1, iv x2]) (st := []) (r := some (iv v3)) (h' := h1) 2 rfl (c_X8_potAt d2) g_X8_potAt gs_X8_potAt lk_RX8_120 ⟨Nat.le_of_ble_eq_true rfl, Nat.le_of_ble_eq_true rfl⟩ rfl (Nat.le_of_ble_eq_true rfl) ⟨Nat.zero_le _, Nat.zero_le _⟩ ?_
  show V G M_X8_colours X T 0 0 5 [some (rv (8, 99) 135), some (iv x1), some (iv x2), none, none] [iv v3] h1
  refine V_istore_n 3 rfl (Nat.le_of_ble_eq_true rfl) rfl ?_
  show V G M_X8_colours X T 0 0 6 [some (rv (8, 99) 135), some (iv x1), some (iv x2), some (iv v3), none] [] h1
  refine V_sipush (nI 200) 4 rfl sp_200 ?_
  refine V_iload_n 5 rfl rfl ?_
  refine V_imul 6 rfl ?_
  refine V_aload_n 7 rfl rfl ?_
  refine V_getR 143 8 rfl fr_RX8_32 ⟨Nat.le_of_ble_eq_true rfl, Or.inl (Nat.le_of_ble_eq_true rfl)⟩ rfl ?_
  refine V_iload_n 9 rfl rfl ?_
  refine V_iconst (nI 0) 10 rfl ic_0 ?_
  refine V_iadd 11 rfl ?_
  obtain ⟨g4, e⟩ := gd_e e
  refine V_iald 12 rfl g4 ?_
  refine V_iadd 13 rfl ?_
  refine V_istore 14 rfl (Nat.le_of_ble_eq_true rfl) rfl ?_
  refine le_V (P := fun v5 => V G M_X8_colours X T 0 0 22 [some (rv (8, 99) 135), some (iv x1), some (iv x2), some (iv v3), some (iv v5)] [] h1) e (fun v5 e => ?_)
  refine V_aload_n 15 rfl rfl ?_
  refine V_getR 143 16 rfl fr_RX8_32 ⟨Nat.le_of_ble_eq_true rfl, Or.inl (Nat.le_of_ble_eq_true rfl)⟩ rfl ?_
  refine V_iload_n 17 rfl rfl ?_
  refine V_iconst (nI 1) 18 rfl ic_1 ?_
  refine V_iadd 19 rfl ?_
  obtain ⟨g6, e⟩ := gd_e e
  refine V_iald 20 rfl g6 ?_
  refine V_sipush (nI 500) 21 rfl sp_500 ?_
  rcases if_e e with ⟨c22, e⟩ | ⟨c22, e⟩
  · refine V_icmp_lt 49 22 rfl (by decide +kernel) (fun _ => ?_) (fun q => absurd c22 q) 
    refine V_aload_n 31 rfl rfl ?_
    refine V_getR 143 32 rfl fr_RX8_32 ⟨Nat.le_of_ble_eq_true rfl, Or.inl (Nat.le_of_ble_eq_true rfl)⟩ rfl ?_
    refine V_iload_n 33 rfl rfl ?_
    refine V_bipush (nI 6) 34 rfl bp_6 ?_
    refine V_iadd 35 rfl ?_
    obtain ⟨g7, e⟩ := gd_e e
    refine V_iald 36 rfl g7 ?_
    refine V_iconst (nI 1) 37 rfl ic_1 ?_
    rcases if_e e with ⟨c38, e⟩ | ⟨c38, e⟩
    · refine V_icmp_ne 113 38 rfl (by decide +kernel) (fun q => absurd c38 q) (fun _ => ?_)
      refine V_aload_n 39 rfl rfl ?_
      refine V_getR 143 40 rfl fr_RX8_32 ⟨Nat.le_of_ble_eq_true rfl, Or.inl (Nat.le_of_ble_eq_true rfl)⟩ rfl ?_
      refine V_iload_n 41 rfl rfl ?_
      refine V_iconst (nI 5) 42 rfl ic_5 ?_
      refine V_iadd 43 rfl ?_
      obtain ⟨g8, e⟩ := gd_e e
      refine V_iald 44 rfl g8 ?_
      rcases if_e e with ⟨c45, e⟩ | ⟨c45, e⟩
      · refine V_if_ne 113 45 rfl (by decide +kernel) (fun q => absurd c45 q) (fun _ => ?_)
        refine V_aload_n 46 rfl rfl ?_
        refine V_getR 143 47 rfl fr_RX8_32 ⟨Nat.le_of_ble_eq_true rfl, Or.inl (Nat.le_of_ble_eq_true rfl)⟩ rfl ?_
        refine V_iload_n 48 rfl rfl ?_
        refine V_iconst (nI 5) 49 rfl ic_5 ?_
        refine V_iadd 50 rfl ?_
        refine V_aload_n 51 rfl rfl ?_
        refine V_getR 143 52 rfl fr_RX8_32 ⟨Nat.le_of_ble_eq_true rfl, Or.inl (Nat.le_of_ble_eq_true rfl)⟩ rfl ?_
        refine V_iload 53 rfl rfl ?_
        refine V_bipush (nI 120) 54 rfl bp_120 ?_
        refine V_iadd 55 rfl ?_
        obtain ⟨g9, e⟩ := gd_e e
        refine V_iald 56 rfl g9 ?_
        refine V_iconst (nI 1) 57 rfl ic_1 ?_
        rcases if_e e with ⟨c58, e⟩ | ⟨c58, e⟩
        · refine V_icmp_eq 107 58 rfl (by decide +kernel) (fun _ => ?_) (fun q => absurd c58 q) 
          refine V_msk [false, false, false, false, false] (lc' := [none, none, none, none, none]) rfl ?_
          exact w_X8_colours_107 hR (v3 + (nI 5)) h1 e
        · refine V_icmp_eq 107 58 rfl (by decide +kernel) (fun q => absurd q c58) (fun _ => ?_)
          refine V_aload_n 59 rfl rfl ?_
          refine V_getR 143 60 rfl fr_RX8_32 ⟨Nat.le_of_ble_eq_true rfl, Or.inl (Nat.le_of_ble_eq_true rfl)⟩ rfl ?_
          refine V_iload 61 rfl rfl ?_
          refine V_bipush (nI 30) 62 rfl bp_30 ?_
          refine V_iadd 63 rfl ?_
          obtain ⟨g12, e⟩ := gd_e e
          refine V_iald 64 rfl g12 ?_
          rcases if_e e with ⟨c65, e⟩ | ⟨c65, e⟩
          · refine V_if_le 111 65 rfl (by decide +kernel) (fun _ => ?_) (fun q => absurd c65 q) 
            refine V_iconst (nI 1) 68 rfl ic_1 ?_
            refine V_msk [false, false, false, false, false] (lc' := [none, none, none, none, none]) rfl ?_
            exact w_X8_colours_112 hR (nI 1) (v3 + (nI 5)) h1 e
          · refine V_if_le 111 65 rfl (by decide +kernel) (fun q => absurd q c65) (fun _ => ?_)
            refine V_msk [false, false, false, false, false] (lc' := [none, none, none, none, none]) rfl ?_
            exact w_X8_colours_107 hR (v3 + (nI 5)) h1 e
      · refine V_if_ne 113 45 rfl (by decide +kernel) (fun _ => ?_) (fun q => absurd q c45) 
        cases e
        exact V_vret 70 rfl hR rfl
    · refine V_icmp_ne 113 38 rfl (by decide +kernel) (fun _ => ?_) (fun q => absurd q c38) 
      cases e
      exact V_vret 70 rfl hR rfl
  · refine V_icmp_lt 49 22 rfl (by decide +kernel) (fun q => absurd q c22) (fun _ => ?_)
    refine V_aload_n 23 rfl rfl ?_
    refine V_getR 143 24 rfl fr_RX8_32 ⟨Nat.le_of_ble_eq_true rfl, Or.inl (Nat.le_of_ble_eq_true rfl)⟩ rfl ?_
    refine V_iload_n 25 rfl rfl ?_
    refine V_bipush (nI 6) 26 rfl bp_6 ?_
    refine V_iadd 27 rfl ?_
    refine V_iconst (nI 1) 28 rfl ic_1 ?_
    obtain ⟨g13, e⟩ := gd_e e
    refine V_iast 29 rfl g13 ?_
    refine le_V (P := fun h14 => V G M_X8_colours X T 0 0 46 [some (rv (8, 99) 135), some (iv x1), some (iv x2), some (iv v3), some (iv v5)] [] h14) e (fun h14 e => ?_)
    refine V_goto 113 30 rfl (by decide +kernel) ?_
    cases e
    exact V_vret 70 rfl hR rfl
set_option maxHeartbeats 4000000 in
theorem w_X8_goes_58 {G : kG} {X : kX} {T : List kT} {h0 : kH} (hR : k_R G M_X8_goes X T 0 0 none h0) (K58 : Int32 × Int32 × kH → Option (kH)) (hK58 : ∀ (x1 : Int32) (x3 : Int32) (h : kH), K58 (x1, x3, h) = some h0 → V G M_X8_goes X T 0 0 58 [some (rv (8, 99) 135), some (iv x1), none, some (iv x3)] [] h) (x1 : Int32) (x3 : Int32) (h : kH) (e : p_X8_goes_58 K58 x1 x3 h = some h0) : V G M_X8_goes X T 0 0 58 [some (rv (8, 99) 135), some (iv x1), none, some (iv x3)] [] h := by
  unfold p_X8_goes_58 at e
  refine V_iload_n 36 rfl rfl ?_
  refine V_aload_n 37 rfl rfl ?_
  refine V_getR 138 38 rfl fr_RX8_17 ⟨Nat.le_of_ble_eq_true rfl, Or.inl (Nat.le_of_ble_eq_true rfl)⟩ rfl ?_
  refine V_iconst (nI 0) 39 rfl ic_0 ?_
  obtain ⟨g8, e⟩ := gd_e e
  refine V_iald 40 rfl g8 ?_
  rcases if_e e with ⟨c41, e⟩ | ⟨c41, e⟩
  · refine V_icmp_ge 89 41 rfl (by decide +kernel) (fun _ => ?_) (fun q => absurd c41 q) 
    refine V_aload_n 53 rfl rfl ?_
    refine V_getR 143 54 rfl fr_RX8_32 ⟨Nat.le_of_ble_eq_true rfl, Or.inl (Nat.le_of_ble_eq_true rfl)⟩ rfl ?_
    refine V_sipush (nI 200) 55 rfl sp_200 ?_
    refine V_iload_n 56 rfl rfl ?_
    refine V_imul 57 rfl ?_
    refine V_sipush (nI 198) 58 rfl sp_198 ?_
    refine V_iadd 59 rfl ?_
    refine V_dup2 60 rfl nj_i nj_r ?_
    obtain ⟨g9, e⟩ := gd_e e
    refine V_iald 61 rfl g9 ?_
    refine V_iconst (nI 1) 62 rfl ic_1 ?_
    refine V_iadd 63 rfl ?_
    refine V_iast 64 rfl g9 ?_
    refine le_V (P := fun h10 => V G M_X8_goes X T 0 0 107 [some (rv (8, 99) 135), some (iv x1), none, some (iv x3)] [] h10) e (fun h10 e => ?_)
    cases e
    exact V_vret 65 rfl hR rfl
  · refine V_icmp_ge 89 41 rfl (by decide +kernel) (fun q => absurd q c41) (fun _ => ?_)
    refine V_aload_n 42 rfl rfl ?_
    refine V_iload_n 43 rfl rfl ?_
    refine V_iload_n 44 rfl rfl ?_
    obtain ⟨v13, h11, d12, e⟩ := bd2_e e
    refine V_callV (N := M_X8_isWhole) (av := [iv x1, iv x3]) (st := []) (r := some (iv v13)) (h' := h11) 45 rfl (c_X8_isWhole d12) g_X8_isWhole gv_X8_isWhole lk_RX8_129 ⟨Nat.le_of_ble_eq_true rfl, Nat.le_of_ble_eq_true rfl⟩ rfl rfl (Nat.le_of_ble_eq_true rfl) ⟨Nat.zero_le _, Nat.zero_le _⟩ ?_
    show V G M_X8_goes X T 0 0 74 [some (rv (8, 99) 135), some (iv x1), none, some (iv x3)] [iv v13] h11
    rcases if_e e with ⟨c46, e⟩ | ⟨c46, e⟩
    · refine V_if_eq 83 46 rfl (by decide +kernel) (fun _ => ?_) (fun q => absurd c46 q) 
      refine V_iinc (x3 + (nI 1)) 51 rfl rfl (inc_1 _) (Nat.le_of_ble_eq_true rfl) rfl ?_
      show V G M_X8_goes X T 0 0 86 [some (rv (8, 99) 135), some (iv x1), none, some (iv (x3 + (nI 1)))] [] h11
      refine V_goto 58 52 rfl (by decide +kernel) ?_
      refine V_msk [true, true, false, true] (lc' := [some (rv (8, 99) 135), some (iv x1), none, some (iv (x3 + (nI 1)))]) rfl ?_
      exact hK58 x1 (x3 + (nI 1)) h11 e
    · refine V_if_eq 83 46 rfl (by decide +kernel) (fun q => absurd q c46) (fun _ => ?_)
      refine V_aload_n 47 rfl rfl ?_
      refine V_iload_n 48 rfl rfl ?_
      refine V_iload_n 49 rfl rfl ?_
      obtain ⟨h14, d15, e⟩ := bd_e e
      refine V_callV (N := M_X8_colours) (av := [iv x1, iv x3]) (st := []) (r := none) (h' := h14) 50 rfl (c_X8_colours d15) g_X8_colours gv_X8_colours lk_RX8_158 ⟨Nat.le_of_ble_eq_true rfl, Nat.le_of_ble_eq_true rfl⟩ rfl rfl (Nat.le_of_ble_eq_true rfl) ⟨Nat.zero_le _, Nat.zero_le _⟩ ?_
      show V G M_X8_goes X T 0 0 83 [some (rv (8, 99) 135), some (iv x1), none, some (iv x3)] [] h14
      refine V_iinc (x3 + (nI 1)) 51 rfl rfl (inc_1 _) (Nat.le_of_ble_eq_true rfl) rfl ?_
      show V G M_X8_goes X T 0 0 86 [some (rv (8, 99) 135), some (iv x1), none, some (iv (x3 + (nI 1)))] [] h14
      refine V_goto 58 52 rfl (by decide +kernel) ?_
      refine V_msk [true, true, false, true] (lc' := [some (rv (8, 99) 135), some (iv x1), none, some (iv (x3 + (nI 1)))]) rfl ?_
      exact hK58 x1 (x3 + (nI 1)) h14 e
set_option maxHeartbeats 4000000 in
theorem w_X8_goes_13 {G : kG} {X : kX} {T : List kT} {h0 : kH} (hR : k_R G M_X8_goes X T 0 0 none h0) (K13 : Int32 × Int32 × kH → Option (kH)) (hK13 : ∀ (x1 : Int32) (x3 : Int32) (h : kH), K13 (x1, x3, h) = some h0 → V G M_X8_goes X T 0 0 13 [some (rv (8, 99) 135), some (iv x1), none, some (iv x3)] [] h) (x1 : Int32) (x3 : Int32) (h : kH) (e : p_X8_goes_13 K13 x1 x3 h = some h0) : V G M_X8_goes X T 0 0 13 [some (rv (8, 99) 135), some (iv x1), none, some (iv x3)] [] h := by
  unfold p_X8_goes_13 at e
  refine V_iload_n 9 rfl rfl ?_
  refine V_aload_n 10 rfl rfl ?_
  refine V_getR 138 11 rfl fr_RX8_17 ⟨Nat.le_of_ble_eq_true rfl, Or.inl (Nat.le_of_ble_eq_true rfl)⟩ rfl ?_
  refine V_iconst (nI 0) 12 rfl ic_0 ?_
  obtain ⟨g5, e⟩ := gd_e e
  refine V_iald 13 rfl g5 ?_
  rcases if_e e with ⟨c14, e⟩ | ⟨c14, e⟩
  · refine V_icmp_ge 51 14 rfl (by decide +kernel) (fun _ => ?_) (fun q => absurd c14 q) 
    refine V_aload_n 31 rfl rfl ?_
    refine V_iload_n 32 rfl rfl ?_
    obtain ⟨h6, d7, e⟩ := bd_e e
    refine V_callV (N := M_X8_strikes) (av := [iv x1]) (st := []) (r := none) (h' := h6) 33 rfl (c_X8_strikes d7) g_X8_strikes gv_X8_strikes lk_RX8_155 ⟨Nat.le_of_ble_eq_true rfl, Nat.le_of_ble_eq_true rfl⟩ rfl rfl (Nat.le_of_ble_eq_true rfl) ⟨Nat.zero_le _, Nat.zero_le _⟩ ?_
    show V G M_X8_goes X T 0 0 56 [some (rv (8, 99) 135), some (iv x1), none, some (iv x3)] [] h6
    refine V_iconst (nI 0) 34 rfl ic_0 ?_
    refine V_istore_n 35 rfl (Nat.le_of_ble_eq_true rfl) rfl ?_
    show V G M_X8_goes X T 0 0 58 [some (rv (8, 99) 135), some (iv x1), none, some (iv (nI 0))] [] h6
    refine V_msk [true, true, false, true] (lc' := [some (rv (8, 99) 135), some (iv x1), none, some (iv (nI 0))]) rfl ?_
    exact fx_e (P := fun s => V G M_X8_goes X T 0 0 58 [some (rv (8, 99) 135), some (iv s.1), none, some (iv s.2.1)] [] s.2.2) (fun K58 hK58 s e => w_X8_goes_58 hR K58 (fun x1 x3 h e => hK58 (x1, x3, h) e) s.1 s.2.1 s.2.2 e) FU (x1, (nI 0), h6) e
  · refine V_icmp_ge 51 14 rfl (by decide +kernel) (fun q => absurd q c14) (fun _ => ?_)
    refine V_aload_n 15 rfl rfl ?_
    refine V_getR 147 16 rfl fr_RX8_44 ⟨Nat.le_of_ble_eq_true rfl, Or.inl (Nat.le_of_ble_eq_true rfl)⟩ rfl ?_
    refine V_iload_n 17 rfl rfl ?_
    refine V_iconst (nI 0) 18 rfl ic_0 ?_
    obtain ⟨g16, e⟩ := gd_e e
    refine V_zast 19 rfl g16 ?_
    refine le_V (P := fun h17 => V G M_X8_goes X T 0 0 30 [some (rv (8, 99) 135), some (iv x1), none, some (iv x3)] [] h17) e (fun h17 e => ?_)
    refine V_aload_n 20 rfl rfl ?_
    refine V_iload_n 21 rfl rfl ?_
    refine V_iload_n 22 rfl rfl ?_
    obtain ⟨v20, h18, d19, e⟩ := bd2_e e
    refine V_callV (N := M_X8_isWhole) (av := [iv x1, iv x3]) (st := []) (r := some (iv v20)) (h' := h18) 23 rfl (c_X8_isWhole d19) g_X8_isWhole gv_X8_isWhole lk_RX8_129 ⟨Nat.le_of_ble_eq_true rfl, Nat.le_of_ble_eq_true rfl⟩ rfl rfl (Nat.le_of_ble_eq_true rfl) ⟨Nat.zero_le _, Nat.zero_le _⟩ ?_
    show V G M_X8_goes X T 0 0 36 [some (rv (8, 99) 135), some (iv x1), none, some (iv x3)] [iv v20] h18
    rcases if_e e with ⟨c24, e⟩ | ⟨c24, e⟩
    · refine V_if_eq 45 24 rfl (by decide +kernel) (fun _ => ?_) (fun q => absurd c24 q) 
      refine V_iinc (x3 + (nI 1)) 29 rfl rfl (inc_1 _) (Nat.le_of_ble_eq_true rfl) rfl ?_
      show V G M_X8_goes X T 0 0 48 [some (rv (8, 99) 135), some (iv x1), none, some (iv (x3 + (nI 1)))] [] h18
      refine V_goto 13 30 rfl (by decide +kernel) ?_
      refine V_msk [true, true, false, true] (lc' := [some (rv (8, 99) 135), some (iv x1), none, some (iv (x3 + (nI 1)))]) rfl ?_
      exact hK13 x1 (x3 + (nI 1)) h18 e
    · refine V_if_eq 45 24 rfl (by decide +kernel) (fun q => absurd q c24) (fun _ => ?_)
      refine V_aload_n 25 rfl rfl ?_
      refine V_iload_n 26 rfl rfl ?_
      refine V_iload_n 27 rfl rfl ?_
      obtain ⟨h21, d22, e⟩ := bd_e e
      refine V_callV (N := M_X8_fires) (av := [iv x1, iv x3]) (st := []) (r := none) (h' := h21) 28 rfl (c_X8_fires d22) g_X8_fires gv_X8_fires lk_RX8_152 ⟨Nat.le_of_ble_eq_true rfl, Nat.le_of_ble_eq_true rfl⟩ rfl rfl (Nat.le_of_ble_eq_true rfl) ⟨Nat.zero_le _, Nat.zero_le _⟩ ?_
      show V G M_X8_goes X T 0 0 45 [some (rv (8, 99) 135), some (iv x1), none, some (iv x3)] [] h21
      refine V_iinc (x3 + (nI 1)) 29 rfl rfl (inc_1 _) (Nat.le_of_ble_eq_true rfl) rfl ?_
      show V G M_X8_goes X T 0 0 48 [some (rv (8, 99) 135), some (iv x1), none, some (iv (x3 + (nI 1)))] [] h21
      refine V_goto 13 30 rfl (by decide +kernel) ?_
      refine V_msk [true, true, false, true] (lc' := [some (rv (8, 99) 135), some (iv x1), none, some (iv (x3 + (nI 1)))]) rfl ?_
      exact hK13 x1 (x3 + (nI 1)) h21 e
set_option maxHeartbeats 4000000 in
theorem c_X8_goes {G : kG} {T : List kT} {x1 : Int32} {x2 : Int32} {h : kH} {h0 : kH} (e : p_X8_goes x1 x2 h = some h0) : k_C G M_X8_goes T [rv (8, 99) 135, iv x1, iv x2] h none h0 := by
  refine k_C_of 1 (by decide +kernel) rfl tb_X8_goes rfl (fun X hR => ?_)
  show V G M_X8_goes X T 0 0 0 [some (rv (8, 99) 135), some (iv x1), some (iv x2), none] [] h
  unfold p_X8_goes at e
  refine V_aload_n 0 rfl rfl ?_
  refine V_iload_n 1 rfl rfl ?_
  obtain ⟨h1, d2, e⟩ := bd_e e
  refine V_callV (N := M_X8_burns) (av := [iv x1]) (st := []) (r := none) (h' := h1) 2 rfl (c_X8_burns d2) g_X8_burns gv_X8_burns lk_RX8_144 ⟨Nat.le_of_ble_eq_true rfl, Nat.le_of_ble_eq_true rfl⟩ rfl rfl (Nat.le_of_ble_eq_true rfl) ⟨Nat.zero_le _, Nat.zero_le _⟩ ?_
  show V G M_X8_goes X T 0 0 5 [some (rv (8, 99) 135), some (iv x1), some (iv x2), none] [] h1
  refine V_aload_n 3 rfl rfl ?_
  refine V_iload_n 4 rfl rfl ?_
  refine V_iload_n 5 rfl rfl ?_
  obtain ⟨h3, d4, e⟩ := bd_e e
  refine V_callV (N := M_X8_spreads) (av := [iv x1, iv x2]) (st := []) (r := none) (h' := h3) 6 rfl (c_X8_spreads d4) g_X8_spreads gv_X8_spreads lk_RX8_148 ⟨Nat.le_of_ble_eq_true rfl, Nat.le_of_ble_eq_true rfl⟩ rfl rfl (Nat.le_of_ble_eq_true rfl) ⟨Nat.zero_le _, Nat.zero_le _⟩ ?_
  show V G M_X8_goes X T 0 0 11 [some (rv (8, 99) 135), some (iv x1), some (iv x2), none] [] h3
  refine V_iconst (nI 0) 7 rfl ic_0 ?_
  refine V_istore_n 8 rfl (Nat.le_of_ble_eq_true rfl) rfl ?_
  show V G M_X8_goes X T 0 0 13 [some (rv (8, 99) 135), some (iv x1), some (iv x2), some (iv (nI 0))] [] h3
  refine V_msk [true, true, false, true] (lc' := [some (rv (8, 99) 135), some (iv x1), none, some (iv (nI 0))]) rfl ?_
  exact fx_e (P := fun s => V G M_X8_goes X T 0 0 13 [some (rv (8, 99) 135), some (iv s.1), none, some (iv s.2.1)] [] s.2.2) (fun K13 hK13 s e => w_X8_goes_13 hR K13 (fun x1 x3 h e => hK13 (x1, x3, h) e) s.1 s.2.1 s.2.2 e) FU (x1, (nI 0), h3) e
set_option maxHeartbeats 4000000 in
theorem c_X8_isWind {G : kG} {T : List kT} {x0 : Int32} {h : kH} {r0 : Int32} {h0 : kH} (e : p_X8_isWind x0 h = some (r0, h0)) : k_C G M_X8_isWind T [iv x0] h (some (iv r0)) h0 := by
  refine k_C_of 0 (by decide +kernel) rfl tb_X8_isWind rfl (fun X hR => ?_)
  show V G M_X8_isWind X T 0 0 0 [some (iv x0)] [] h
  unfold p_X8_isWind at e
  refine V_iload_n 0 rfl rfl ?_
  refine V_i2l 1 rfl ?_
  refine V_lconst (0 : Int64) 2 rfl rfl ?_
  refine V_ldc2 (9 : Int64) 3 rfl kl_RX8_161 ?_
  obtain ⟨v3, h1, d2, e⟩ := bd2_e e
  refine V_callS (N := M_X8_in) (av := [jv (x0).toInt64, jv (0 : Int64), jv (9 : Int64)]) (st := []) (r := some (iv v3)) (h' := h1) 4 rfl (c_X8_in d2) g_X8_in gs_X8_in lk_RX8_68 ⟨Nat.le_of_ble_eq_true rfl, Nat.le_of_ble_eq_true rfl⟩ rfl (Nat.le_of_ble_eq_true rfl) ⟨Nat.zero_le _, Nat.zero_le _⟩ ?_
  show V G M_X8_isWind X T 0 0 9 [some (iv x0)] [iv v3] h1
  obtain ⟨g4, e⟩ := gd_e e
  cases e
  exact V_zret 5 rfl (of_decide_eq_true g4) hR rfl
set_option maxHeartbeats 4000000 in
theorem w_X8_minute_44 {G : kG} {X : kX} {T : List kT} {r0 : Int32} {h0 : kH} (hR : k_R G M_X8_minute X T 0 0 (some (iv r0)) h0) (K19 : Int32 × Int32 × kH → Option (Int32 × kH)) (hK19 : ∀ (x2 : Int32) (x3 : Int32) (h : kH), K19 (x2, x3, h) = some (r0, h0) → V G M_X8_minute X T 0 0 19 [some (rv (8, 99) 135), none, some (iv x2), some (iv x3)] [] h) (x3 : Int32) (s0 : Int32) (s1 : Int32) (h : kH) (e : p_X8_minute_44 K19 x3 s0 s1 h = some (r0, h0)) : V G M_X8_minute X T 0 0 44 [some (rv (8, 99) 135), none, none, some (iv x3)] [iv s0, iv s1] h := by
  unfold p_X8_minute_44 at e
  refine V_iadd 28 rfl ?_
  refine V_istore_n 29 rfl (Nat.le_of_ble_eq_true rfl) rfl ?_
  refine le_V (P := fun v10 => V G M_X8_minute X T 0 0 46 [some (rv (8, 99) 135), none, some (iv v10), some (iv x3)] [] h) e (fun v10 e => ?_)
  refine V_iinc (x3 + (nI 1)) 30 rfl rfl (inc_1 _) (Nat.le_of_ble_eq_true rfl) rfl ?_
  show V G M_X8_minute X T 0 0 49 [some (rv (8, 99) 135), none, some (iv v10), some (iv (x3 + (nI 1)))] [] h
  refine V_goto 19 31 rfl (by decide +kernel) ?_
  refine V_msk [true, false, true, true] (lc' := [some (rv (8, 99) 135), none, some (iv v10), some (iv (x3 + (nI 1)))]) rfl ?_
  exact hK19 v10 (x3 + (nI 1)) h e
set_option maxHeartbeats 4000000 in
theorem w_X8_minute_19 {G : kG} {X : kX} {T : List kT} {r0 : Int32} {h0 : kH} (hR : k_R G M_X8_minute X T 0 0 (some (iv r0)) h0) (K19 : Int32 × Int32 × kH → Option (Int32 × kH)) (hK19 : ∀ (x2 : Int32) (x3 : Int32) (h : kH), K19 (x2, x3, h) = some (r0, h0) → V G M_X8_minute X T 0 0 19 [some (rv (8, 99) 135), none, some (iv x2), some (iv x3)] [] h) (x2 : Int32) (x3 : Int32) (h : kH) (e : p_X8_minute_19 K19 x2 x3 h = some (r0, h0)) : V G M_X8_minute X T 0 0 19 [some (rv (8, 99) 135), none, some (iv x2), some (iv x3)] [] h := by
  unfold p_X8_minute_19 at e
  refine V_iload_n 13 rfl rfl ?_
  refine V_aload_n 14 rfl rfl ?_
  refine V_getR 138 15 rfl fr_RX8_17 ⟨Nat.le_of_ble_eq_true rfl, Or.inl (Nat.le_of_ble_eq_true rfl)⟩ rfl ?_
  refine V_iconst (nI 0) 16 rfl ic_0 ?_
  obtain ⟨g6, e⟩ := gd_e e
  refine V_iald 17 rfl g6 ?_
  rcases if_e e with ⟨c18, e⟩ | ⟨c18, e⟩
  · refine V_icmp_ge 52 18 rfl (by decide +kernel) (fun _ => ?_) (fun q => absurd c18 q) 
    refine V_iload_n 32 rfl rfl ?_
    cases e
    exact V_iret 33 rfl hR rfl
  · refine V_icmp_ge 52 18 rfl (by decide +kernel) (fun q => absurd q c18) (fun _ => ?_)
    refine V_iload_n 19 rfl rfl ?_
    refine V_aload_n 20 rfl rfl ?_
    refine V_iconst (nI 0) 21 rfl ic_0 ?_
    refine V_iload_n 22 rfl rfl ?_
    obtain ⟨v9, h7, d8, e⟩ := bd2_e e
    refine V_callV (N := M_X8_isWhole) (av := [iv (nI 0), iv x3]) (st := [iv x2]) (r := some (iv v9)) (h' := h7) 23 rfl (c_X8_isWhole d8) g_X8_isWhole gv_X8_isWhole lk_RX8_129 ⟨Nat.le_of_ble_eq_true rfl, Nat.le_of_ble_eq_true rfl⟩ rfl rfl (Nat.le_of_ble_eq_true rfl) ⟨Nat.zero_le _, Nat.zero_le _⟩ ?_
    show V G M_X8_minute X T 0 0 36 [some (rv (8, 99) 135), none, some (iv x2), some (iv x3)] [iv v9, iv x2] h7
    rcases if_e e with ⟨c24, e⟩ | ⟨c24, e⟩
    · refine V_if_eq 43 24 rfl (by decide +kernel) (fun _ => ?_) (fun q => absurd c24 q) 
      refine V_iconst (nI 0) 27 rfl ic_0 ?_
      refine V_msk [true, false, false, true] (lc' := [some (rv (8, 99) 135), none, none, some (iv x3)]) rfl ?_
      exact w_X8_minute_44 hR K19 hK19 x3 (nI 0) x2 h7 e
    · refine V_if_eq 43 24 rfl (by decide +kernel) (fun q => absurd q c24) (fun _ => ?_)
      refine V_iconst (nI 1) 25 rfl ic_1 ?_
      refine V_goto 44 26 rfl (by decide +kernel) ?_
      refine V_msk [true, false, false, true] (lc' := [some (rv (8, 99) 135), none, none, some (iv x3)]) rfl ?_
      exact w_X8_minute_44 hR K19 hK19 x3 (nI 1) x2 h7 e
set_option maxHeartbeats 4000000 in
theorem c_X8_minute {G : kG} {T : List kT} {x1 : Int32} {h : kH} {r0 : Int32} {h0 : kH} (e : p_X8_minute x1 h = some (r0, h0)) : k_C G M_X8_minute T [rv (8, 99) 135, iv x1] h (some (iv r0)) h0 := by
  refine k_C_of 2 (by decide +kernel) rfl tb_X8_minute rfl (fun X hR => ?_)
  show V G M_X8_minute X T 0 0 0 [some (rv (8, 99) 135), some (iv x1), none, none] [] h
  unfold p_X8_minute at e
  refine V_iload_n 0 rfl rfl ?_
  obtain ⟨v3, h1, d2, e⟩ := bd2_e e
  refine V_callS (N := M_X8_isWind) (av := [iv x1]) (st := []) (r := some (iv v3)) (h' := h1) 1 rfl (c_X8_isWind d2) g_X8_isWind gs_X8_isWind lk_RX8_163 ⟨Nat.le_of_ble_eq_true rfl, Nat.le_of_ble_eq_true rfl⟩ rfl (Nat.le_of_ble_eq_true rfl) ⟨Nat.zero_le _, Nat.zero_le _⟩ ?_
  show V G M_X8_minute X T 0 0 4 [some (rv (8, 99) 135), some (iv x1), none, none] [iv v3] h1
  rcases if_e e with ⟨c2, e⟩ | ⟨c2, e⟩
  · refine V_if_ne 9 2 rfl (by decide +kernel) (fun q => absurd c2 q) (fun _ => ?_)
    refine V_iconst (-1 : Int32) 3 rfl ic_m1 ?_
    cases e
    exact V_iret 4 rfl hR rfl
  · refine V_if_ne 9 2 rfl (by decide +kernel) (fun _ => ?_) (fun q => absurd q c2) 
    refine V_aload_n 5 rfl rfl ?_
    refine V_iconst (nI 0) 6 rfl ic_0 ?_
    refine V_iload_n 7 rfl rfl ?_
    obtain ⟨h4, d5, e⟩ := bd_e e
    refine V_callV (N := M_X8_goes) (av := [iv (nI 0), iv x1]) (st := []) (r := none) (h' := h4) 8 rfl (c_X8_goes d5) g_X8_goes gv_X8_goes lk_RX8_166 ⟨Nat.le_of_ble_eq_true rfl, Nat.le_of_ble_eq_true rfl⟩ rfl rfl (Nat.le_of_ble_eq_true rfl) ⟨Nat.zero_le _, Nat.zero_le _⟩ ?_
    show V G M_X8_minute X T 0 0 15 [some (rv (8, 99) 135), some (iv x1), none, none] [] h4
    refine V_iconst (nI 0) 9 rfl ic_0 ?_
    refine V_istore_n 10 rfl (Nat.le_of_ble_eq_true rfl) rfl ?_
    show V G M_X8_minute X T 0 0 17 [some (rv (8, 99) 135), some (iv x1), some (iv (nI 0)), none] [] h4
    refine V_iconst (nI 0) 11 rfl ic_0 ?_
    refine V_istore_n 12 rfl (Nat.le_of_ble_eq_true rfl) rfl ?_
    show V G M_X8_minute X T 0 0 19 [some (rv (8, 99) 135), some (iv x1), some (iv (nI 0)), some (iv (nI 0))] [] h4
    refine V_msk [true, false, true, true] (lc' := [some (rv (8, 99) 135), none, some (iv (nI 0)), some (iv (nI 0))]) rfl ?_
    exact fx_e (P := fun s => V G M_X8_minute X T 0 0 19 [some (rv (8, 99) 135), none, some (iv s.1), some (iv s.2.1)] [] s.2.2) (fun K19 hK19 s e => w_X8_minute_19 hR K19 (fun x2 x3 h e => hK19 (x2, x3, h) e) s.1 s.2.1 s.2.2 e) FU ((nI 0), (nI 0), h4) e
set_option maxHeartbeats 4000000 in
theorem c_X8_fuel {G : kG} {T : List kT} {x1 : Int32} {x2 : Int32} {h : kH} {r0 : Int32} {h0 : kH} (e : p_X8_fuel x1 x2 h = some (r0, h0)) : k_C G M_X8_fuel T [rv (8, 99) 135, iv x1, iv x2] h (some (iv r0)) h0 := by
  refine k_C_of 0 (by decide +kernel) rfl tb_X8_fuel rfl (fun X hR => ?_)
  show V G M_X8_fuel X T 0 0 0 [some (rv (8, 99) 135), some (iv x1), some (iv x2)] [] h
  unfold p_X8_fuel at e
  refine V_aload_n 0 rfl rfl ?_
  refine V_iload_n 1 rfl rfl ?_
  obtain ⟨v3, h1, d2, e⟩ := bd2_e e
  refine V_callV (N := M_X8_isCell) (av := [iv x1]) (st := []) (r := some (iv v3)) (h' := h1) 2 rfl (c_X8_isCell d2) g_X8_isCell gv_X8_isCell lk_RX8_124 ⟨Nat.le_of_ble_eq_true rfl, Nat.le_of_ble_eq_true rfl⟩ rfl rfl (Nat.le_of_ble_eq_true rfl) ⟨Nat.zero_le _, Nat.zero_le _⟩ ?_
  show V G M_X8_fuel X T 0 0 5 [some (rv (8, 99) 135), some (iv x1), some (iv x2)] [iv v3] h1
  rcases if_e e with ⟨c3, e⟩ | ⟨c3, e⟩
  · refine V_if_eq 20 3 rfl (by decide +kernel) (fun _ => ?_) (fun q => absurd c3 q) 
    refine V_iconst (-1 : Int32) 10 rfl ic_m1 ?_
    cases e
    exact V_iret 11 rfl hR rfl
  · refine V_if_eq 20 3 rfl (by decide +kernel) (fun q => absurd q c3) (fun _ => ?_)
    refine V_iload_n 4 rfl rfl ?_
    refine V_i2l 5 rfl ?_
    refine V_lconst (1 : Int64) 6 rfl rfl ?_
    refine V_ldc2 (99 : Int64) 7 rfl kl_RX8_169 ?_
    obtain ⟨v6, h4, d5, e⟩ := bd2_e e
    refine V_callS (N := M_X8_in) (av := [jv (x2).toInt64, jv (1 : Int64), jv (99 : Int64)]) (st := []) (r := some (iv v6)) (h' := h4) 8 rfl (c_X8_in d5) g_X8_in gs_X8_in lk_RX8_68 ⟨Nat.le_of_ble_eq_true rfl, Nat.le_of_ble_eq_true rfl⟩ rfl (Nat.le_of_ble_eq_true rfl) ⟨Nat.zero_le _, Nat.zero_le _⟩ ?_
    show V G M_X8_fuel X T 0 0 17 [some (rv (8, 99) 135), some (iv x1), some (iv x2)] [iv v6] h4
    rcases if_e e with ⟨c9, e⟩ | ⟨c9, e⟩
    · refine V_if_ne 22 9 rfl (by decide +kernel) (fun q => absurd c9 q) (fun _ => ?_)
      refine V_iconst (-1 : Int32) 10 rfl ic_m1 ?_
      cases e
      exact V_iret 11 rfl hR rfl
    · refine V_if_ne 22 9 rfl (by decide +kernel) (fun _ => ?_) (fun q => absurd q c9) 
      refine V_aload_n 12 rfl rfl ?_
      refine V_getR 143 13 rfl fr_RX8_32 ⟨Nat.le_of_ble_eq_true rfl, Or.inl (Nat.le_of_ble_eq_true rfl)⟩ rfl ?_
      refine V_bipush (nI 30) 14 rfl bp_30 ?_
      refine V_iload_n 15 rfl rfl ?_
      refine V_iadd 16 rfl ?_
      obtain ⟨g7, e⟩ := gd_e e
      refine V_iald 17 rfl g7 ?_
      refine V_iload_n 18 rfl rfl ?_
      refine V_iadd 19 rfl ?_
      refine V_sipush (nI 999) 20 rfl sp_999 ?_
      rcases if_e e with ⟨c21, e⟩ | ⟨c21, e⟩
      · refine V_icmp_le 42 21 rfl (by decide +kernel) (fun _ => ?_) (fun q => absurd c21 q) 
        refine V_aload_n 24 rfl rfl ?_
        refine V_getR 143 25 rfl fr_RX8_32 ⟨Nat.le_of_ble_eq_true rfl, Or.inl (Nat.le_of_ble_eq_true rfl)⟩ rfl ?_
        refine V_bipush (nI 30) 26 rfl bp_30 ?_
        refine V_iload_n 27 rfl rfl ?_
        refine V_iadd 28 rfl ?_
        refine V_dup2 29 rfl nj_i nj_r ?_
        refine V_iald 30 rfl g7 ?_
        refine V_iload_n 31 rfl rfl ?_
        refine V_iadd 32 rfl ?_
        refine V_iast 33 rfl g7 ?_
        refine le_V (P := fun h8 => V G M_X8_fuel X T 0 0 55 [some (rv (8, 99) 135), some (iv x1), some (iv x2)] [] h8) e (fun h8 e => ?_)
        refine V_aload_n 34 rfl rfl ?_
        refine V_getR 143 35 rfl fr_RX8_32 ⟨Nat.le_of_ble_eq_true rfl, Or.inl (Nat.le_of_ble_eq_true rfl)⟩ rfl ?_
        refine V_bipush (nI 30) 36 rfl bp_30 ?_
        refine V_iload_n 37 rfl rfl ?_
        refine V_iadd 38 rfl ?_
        refine V_iald 39 rfl g7 ?_
        cases e
        exact V_iret 40 rfl hR rfl
      · refine V_icmp_le 42 21 rfl (by decide +kernel) (fun q => absurd q c21) (fun _ => ?_)
        refine V_bipush (-2 : Int32) 22 rfl bp_m2 ?_
        cases e
        exact V_iret 23 rfl hR rfl
set_option maxHeartbeats 4000000 in
theorem w_X8_cover_37 {G : kG} {X : kX} {T : List kT} {r0 : Int32} {h0 : kH} (hR : k_R G M_X8_cover X T 0 0 (some (iv r0)) h0) (x3 : Int32) (s0 : Int32) (s1 : Int32) (h : kH) (e : p_X8_cover_37 x3 s0 s1 h = some (r0, h0)) : V G M_X8_cover X T 0 0 37 [none, none, none, some (iv x3)] [iv s0, iv s1, rv (9, 800) 143] h := by
  unfold p_X8_cover_37 at e
  obtain ⟨g6, e⟩ := gd_e e
  refine V_iast 23 rfl g6 ?_
  refine le_V (P := fun h7 => V G M_X8_cover X T 0 0 38 [none, none, none, some (iv x3)] [] h7) e (fun h7 e => ?_)
  refine V_iload_n 24 rfl rfl ?_
  cases e
  exact V_iret 25 rfl hR rfl
set_option maxHeartbeats 4000000 in
theorem c_X8_cover {G : kG} {T : List kT} {x1 : Int32} {x2 : Int32} {h : kH} {r0 : Int32} {h0 : kH} (e : p_X8_cover x1 x2 h = some (r0, h0)) : k_C G M_X8_cover T [rv (8, 99) 135, iv x1, iv x2] h (some (iv r0)) h0 := by
  refine k_C_of 1 (by decide +kernel) rfl tb_X8_cover rfl (fun X hR => ?_)
  show V G M_X8_cover X T 0 0 0 [some (rv (8, 99) 135), some (iv x1), some (iv x2), none] [] h
  unfold p_X8_cover at e
  refine V_aload_n 0 rfl rfl ?_
  refine V_iload_n 1 rfl rfl ?_
  obtain ⟨v3, h1, d2, e⟩ := bd2_e e
  refine V_callV (N := M_X8_isCell) (av := [iv x1]) (st := []) (r := some (iv v3)) (h' := h1) 2 rfl (c_X8_isCell d2) g_X8_isCell gv_X8_isCell lk_RX8_124 ⟨Nat.le_of_ble_eq_true rfl, Nat.le_of_ble_eq_true rfl⟩ rfl rfl (Nat.le_of_ble_eq_true rfl) ⟨Nat.zero_le _, Nat.zero_le _⟩ ?_
  show V G M_X8_cover X T 0 0 5 [some (rv (8, 99) 135), some (iv x1), some (iv x2), none] [iv v3] h1
  rcases if_e e with ⟨c3, e⟩ | ⟨c3, e⟩
  · refine V_if_ne 10 3 rfl (by decide +kernel) (fun q => absurd c3 q) (fun _ => ?_)
    refine V_iconst (-1 : Int32) 4 rfl ic_m1 ?_
    cases e
    exact V_iret 5 rfl hR rfl
  · refine V_if_ne 10 3 rfl (by decide +kernel) (fun _ => ?_) (fun q => absurd q c3) 
    refine V_aload_n 6 rfl rfl ?_
    refine V_getR 143 7 rfl fr_RX8_32 ⟨Nat.le_of_ble_eq_true rfl, Or.inl (Nat.le_of_ble_eq_true rfl)⟩ rfl ?_
    refine V_bipush (nI 120) 8 rfl bp_120 ?_
    refine V_iload_n 9 rfl rfl ?_
    refine V_iadd 10 rfl ?_
    obtain ⟨g4, e⟩ := gd_e e
    refine V_iald 11 rfl g4 ?_
    refine V_istore_n 12 rfl (Nat.le_of_ble_eq_true rfl) rfl ?_
    refine le_V (P := fun v5 => V G M_X8_cover X T 0 0 20 [some (rv (8, 99) 135), some (iv x1), some (iv x2), some (iv v5)] [] h1) e (fun v5 e => ?_)
    refine V_aload_n 13 rfl rfl ?_
    refine V_getR 143 14 rfl fr_RX8_32 ⟨Nat.le_of_ble_eq_true rfl, Or.inl (Nat.le_of_ble_eq_true rfl)⟩ rfl ?_
    refine V_bipush (nI 120) 15 rfl bp_120 ?_
    refine V_iload_n 16 rfl rfl ?_
    refine V_iadd 17 rfl ?_
    refine V_iload_n 18 rfl rfl ?_
    rcases if_e e with ⟨c19, e⟩ | ⟨c19, e⟩
    · refine V_if_eq 36 19 rfl (by decide +kernel) (fun _ => ?_) (fun q => absurd c19 q) 
      refine V_iconst (nI 0) 22 rfl ic_0 ?_
      refine V_msk [false, false, false, true] (lc' := [none, none, none, some (iv v5)]) rfl ?_
      exact w_X8_cover_37 hR v5 (nI 0) ((nI 120) + x1) h1 e
    · refine V_if_eq 36 19 rfl (by decide +kernel) (fun q => absurd q c19) (fun _ => ?_)
      refine V_iconst (nI 1) 20 rfl ic_1 ?_
      refine V_goto 37 21 rfl (by decide +kernel) ?_
      refine V_msk [false, false, false, true] (lc' := [none, none, none, some (iv v5)]) rfl ?_
      exact w_X8_cover_37 hR v5 (nI 1) ((nI 120) + x1) h1 e
set_option maxHeartbeats 4000000 in
theorem c_X8_light {G : kG} {T : List kT} {x1 : Int32} {h : kH} {r0 : Int32} {h0 : kH} (e : p_X8_light x1 h = some (r0, h0)) : k_C G M_X8_light T [rv (8, 99) 135, iv x1] h (some (iv r0)) h0 := by
  refine k_C_of 1 (by decide +kernel) rfl tb_X8_light rfl (fun X hR => ?_)
  show V G M_X8_light X T 0 0 0 [some (rv (8, 99) 135), some (iv x1), none] [] h
  unfold p_X8_light at e
  refine V_aload_n 0 rfl rfl ?_
  refine V_iload_n 1 rfl rfl ?_
  obtain ⟨v3, h1, d2, e⟩ := bd2_e e
  refine V_callV (N := M_X8_isCell) (av := [iv x1]) (st := []) (r := some (iv v3)) (h' := h1) 2 rfl (c_X8_isCell d2) g_X8_isCell gv_X8_isCell lk_RX8_124 ⟨Nat.le_of_ble_eq_true rfl, Nat.le_of_ble_eq_true rfl⟩ rfl rfl (Nat.le_of_ble_eq_true rfl) ⟨Nat.zero_le _, Nat.zero_le _⟩ ?_
  show V G M_X8_light X T 0 0 5 [some (rv (8, 99) 135), some (iv x1), none] [iv v3] h1
  rcases if_e e with ⟨c3, e⟩ | ⟨c3, e⟩
  · refine V_if_ne 10 3 rfl (by decide +kernel) (fun q => absurd c3 q) (fun _ => ?_)
    refine V_iconst (-1 : Int32) 4 rfl ic_m1 ?_
    cases e
    exact V_iret 5 rfl hR rfl
  · refine V_if_ne 10 3 rfl (by decide +kernel) (fun _ => ?_) (fun q => absurd q c3) 
    refine V_aload_n 6 rfl rfl ?_
    refine V_getR 143 7 rfl fr_RX8_32 ⟨Nat.le_of_ble_eq_true rfl, Or.inl (Nat.le_of_ble_eq_true rfl)⟩ rfl ?_
    refine V_bipush (nI 90) 8 rfl bp_90 ?_
    refine V_iload_n 9 rfl rfl ?_
    refine V_iadd 10 rfl ?_
    obtain ⟨g4, e⟩ := gd_e e
    refine V_iald 11 rfl g4 ?_
    refine V_istore_n 12 rfl (Nat.le_of_ble_eq_true rfl) rfl ?_
    refine le_V (P := fun v5 => V G M_X8_light X T 0 0 20 [some (rv (8, 99) 135), some (iv x1), some (iv v5)] [] h1) e (fun v5 e => ?_)
    refine V_aload_n 13 rfl rfl ?_
    refine V_getR 143 14 rfl fr_RX8_32 ⟨Nat.le_of_ble_eq_true rfl, Or.inl (Nat.le_of_ble_eq_true rfl)⟩ rfl ?_
    refine V_bipush (nI 90) 15 rfl bp_90 ?_
    refine V_iload_n 16 rfl rfl ?_
    refine V_iadd 17 rfl ?_
    refine V_iconst (nI 1) 18 rfl ic_1 ?_
    refine V_iast 19 rfl g4 ?_
    refine le_V (P := fun h6 => V G M_X8_light X T 0 0 30 [some (rv (8, 99) 135), some (iv x1), some (iv v5)] [] h6) e (fun h6 e => ?_)
    refine V_iload_n 20 rfl rfl ?_
    cases e
    exact V_iret 21 rfl hR rfl
set_option maxHeartbeats 4000000 in
theorem c_X8_take {G : kG} {T : List kT} {x1 : Int32} {h : kH} {r0 : Int32} {h0 : kH} (e : p_X8_take x1 h = some (r0, h0)) : k_C G M_X8_take T [rv (8, 99) 135, iv x1] h (some (iv r0)) h0 := by
  refine k_C_of 1 (by decide +kernel) rfl tb_X8_take rfl (fun X hR => ?_)
  show V G M_X8_take X T 0 0 0 [some (rv (8, 99) 135), some (iv x1), none] [] h
  unfold p_X8_take at e
  refine V_aload_n 0 rfl rfl ?_
  refine V_iload_n 1 rfl rfl ?_
  obtain ⟨v3, h1, d2, e⟩ := bd2_e e
  refine V_callV (N := M_X8_isPot) (av := [iv x1]) (st := []) (r := some (iv v3)) (h' := h1) 2 rfl (c_X8_isPot d2) g_X8_isPot gv_X8_isPot lk_RX8_133 ⟨Nat.le_of_ble_eq_true rfl, Nat.le_of_ble_eq_true rfl⟩ rfl rfl (Nat.le_of_ble_eq_true rfl) ⟨Nat.zero_le _, Nat.zero_le _⟩ ?_
  show V G M_X8_take X T 0 0 5 [some (rv (8, 99) 135), some (iv x1), none] [iv v3] h1
  rcases if_e e with ⟨c3, e⟩ | ⟨c3, e⟩
  · refine V_if_ne 10 3 rfl (by decide +kernel) (fun q => absurd c3 q) (fun _ => ?_)
    refine V_iconst (-1 : Int32) 4 rfl ic_m1 ?_
    cases e
    exact V_iret 5 rfl hR rfl
  · refine V_if_ne 10 3 rfl (by decide +kernel) (fun _ => ?_) (fun q => absurd q c3) 
    refine V_aload_n 6 rfl rfl ?_
    refine V_iconst (nI 0) 7 rfl ic_0 ?_
    refine V_iload_n 8 rfl rfl ?_
    obtain ⟨v6, h4, d5, e⟩ := bd2_e e
    refine V_callV (N := M_X8_isWhole) (av := [iv (nI 0), iv x1]) (st := []) (r := some (iv v6)) (h' := h4) 9 rfl (c_X8_isWhole d5) g_X8_isWhole gv_X8_isWhole lk_RX8_129 ⟨Nat.le_of_ble_eq_true rfl, Nat.le_of_ble_eq_true rfl⟩ rfl rfl (Nat.le_of_ble_eq_true rfl) ⟨Nat.zero_le _, Nat.zero_le _⟩ ?_
    show V G M_X8_take X T 0 0 16 [some (rv (8, 99) 135), some (iv x1), none] [iv v6] h4
    rcases if_e e with ⟨c10, e⟩ | ⟨c10, e⟩
    · refine V_if_ne 22 10 rfl (by decide +kernel) (fun q => absurd c10 q) (fun _ => ?_)
      refine V_bipush (-2 : Int32) 11 rfl bp_m2 ?_
      cases e
      exact V_iret 12 rfl hR rfl
    · refine V_if_ne 22 10 rfl (by decide +kernel) (fun _ => ?_) (fun q => absurd q c10) 
      refine V_aload_n 13 rfl rfl ?_
      refine V_iconst (nI 0) 14 rfl ic_0 ?_
      refine V_iload_n 15 rfl rfl ?_
      obtain ⟨v9, h7, d8, e⟩ := bd2_e e
      refine V_callV (N := M_X8_lossOf) (av := [iv (nI 0), iv x1]) (st := []) (r := some (iv v9)) (h' := h7) 16 rfl (c_X8_lossOf d8) g_X8_lossOf gv_X8_lossOf lk_RX8_136 ⟨Nat.le_of_ble_eq_true rfl, Nat.le_of_ble_eq_true rfl⟩ rfl rfl (Nat.le_of_ble_eq_true rfl) ⟨Nat.zero_le _, Nat.zero_le _⟩ ?_
      show V G M_X8_take X T 0 0 28 [some (rv (8, 99) 135), some (iv x1), none] [iv v9] h7
      refine V_istore_n 17 rfl (Nat.le_of_ble_eq_true rfl) rfl ?_
      show V G M_X8_take X T 0 0 29 [some (rv (8, 99) 135), some (iv x1), some (iv v9)] [] h7
      refine V_aload_n 18 rfl rfl ?_
      refine V_getR 143 19 rfl fr_RX8_32 ⟨Nat.le_of_ble_eq_true rfl, Or.inl (Nat.le_of_ble_eq_true rfl)⟩ rfl ?_
      refine V_iconst (nI 0) 20 rfl ic_0 ?_
      refine V_iload_n 21 rfl rfl ?_
      obtain ⟨v12, h10, d11, e⟩ := bd2_e e
      refine V_callS (N := M_X8_potAt) (av := [iv (nI 0), iv x1]) (st := [rv (9, 800) 143]) (r := some (iv v12)) (h' := h10) 22 rfl (c_X8_potAt d11) g_X8_potAt gs_X8_potAt lk_RX8_120 ⟨Nat.le_of_ble_eq_true rfl, Nat.le_of_ble_eq_true rfl⟩ rfl (Nat.le_of_ble_eq_true rfl) ⟨Nat.zero_le _, Nat.zero_le _⟩ ?_
      show V G M_X8_take X T 0 0 38 [some (rv (8, 99) 135), some (iv x1), some (iv v9)] [iv v12, rv (9, 800) 143] h10
      refine V_iconst (nI 4) 23 rfl ic_4 ?_
      refine V_iadd 24 rfl ?_
      refine V_bipush (nI 6) 25 rfl bp_6 ?_
      obtain ⟨g13, e⟩ := gd_e e
      refine V_iast 26 rfl g13 ?_
      refine le_V (P := fun h14 => V G M_X8_take X T 0 0 43 [some (rv (8, 99) 135), some (iv x1), some (iv v9)] [] h14) e (fun h14 e => ?_)
      refine V_iload_n 27 rfl rfl ?_
      cases e
      exact V_iret 28 rfl hR rfl
set_option maxHeartbeats 4000000 in
theorem w_X8_dries_94 {G : kG} {X : kX} {T : List kT} {r0 : Int32} {h0 : kH} (hR : k_R G M_X8_dries X T 0 0 (some (iv r0)) h0) (K5 : Int32 × Int32 × Int32 × Int32 × kH → Option (Int32 × kH)) (hK5 : ∀ (x1 : Int32) (x2 : Int32) (x3 : Int32) (x4 : Int32) (h : kH), K5 (x1, x2, x3, x4, h) = some (r0, h0) → V G M_X8_dries X T 0 0 5 [some (rv (8, 99) 135), some (iv x1), some (iv x2), some (iv x3), some (iv x4), none, none] [] h) (x1 : Int32) (x2 : Int32) (x3 : Int32) (x4 : Int32) (x5 : Int32) (s0 : Int32) (s1 : Int32) (s2 : Int32) (h : kH) (e : p_X8_dries_94 K5 x1 x2 x3 x4 x5 s0 s1 s2 h = some (r0, h0)) : V G M_X8_dries X T 0 0 94 [some (rv (8, 99) 135), some (iv x1), some (iv x2), some (iv x3), some (iv x4), some (iv x5), none] [iv s0, iv s1, iv s2, rv (9, 800) 143] h := by
  unfold p_X8_dries_94 at e
  refine V_isub 57 rfl ?_
  obtain ⟨g9, e⟩ := gd_e e
  refine V_iast 58 rfl g9 ?_
  refine le_V (P := fun h10 => V G M_X8_dries X T 0 0 96 [some (rv (8, 99) 135), some (iv x1), some (iv x2), some (iv x3), some (iv x4), some (iv x5), none] [] h10) e (fun h10 e => ?_)
  refine V_iload_n 59 rfl rfl ?_
  refine V_aload_n 60 rfl rfl ?_
  refine V_getR 143 61 rfl fr_RX8_32 ⟨Nat.le_of_ble_eq_true rfl, Or.inl (Nat.le_of_ble_eq_true rfl)⟩ rfl ?_
  refine V_iload 62 rfl rfl ?_
  refine V_iconst (nI 2) 63 rfl ic_2 ?_
  refine V_iadd 64 rfl ?_
  obtain ⟨g11, e⟩ := gd_e e
  refine V_iald 65 rfl g11 ?_
  refine V_iadd 66 rfl ?_
  refine V_istore_n 67 rfl (Nat.le_of_ble_eq_true rfl) rfl ?_
  refine le_V (P := fun v12 => V G M_X8_dries X T 0 0 108 [some (rv (8, 99) 135), some (iv x1), some (iv x2), some (iv v12), some (iv x4), some (iv x5), none] [] h10) e (fun v12 e => ?_)
  refine V_iinc (x4 + (nI 1)) 68 rfl rfl (inc_1 _) (Nat.le_of_ble_eq_true rfl) rfl ?_
  show V G M_X8_dries X T 0 0 111 [some (rv (8, 99) 135), some (iv x1), some (iv x2), some (iv v12), some (iv (x4 + (nI 1))), some (iv x5), none] [] h10
  refine V_goto 5 69 rfl (by decide +kernel) ?_
  refine V_msk [true, true, true, true, true, false, false] (lc' := [some (rv (8, 99) 135), some (iv x1), some (iv x2), some (iv v12), some (iv (x4 + (nI 1))), none, none]) rfl ?_
  exact hK5 x1 x2 v12 (x4 + (nI 1)) h10 e
set_option maxHeartbeats 4000000 in
theorem w_X8_dries_54 {G : kG} {X : kX} {T : List kT} {r0 : Int32} {h0 : kH} (hR : k_R G M_X8_dries X T 0 0 (some (iv r0)) h0) (K5 : Int32 × Int32 × Int32 × Int32 × kH → Option (Int32 × kH)) (hK5 : ∀ (x1 : Int32) (x2 : Int32) (x3 : Int32) (x4 : Int32) (h : kH), K5 (x1, x2, x3, x4, h) = some (r0, h0) → V G M_X8_dries X T 0 0 5 [some (rv (8, 99) 135), some (iv x1), some (iv x2), some (iv x3), some (iv x4), none, none] [] h) (x1 : Int32) (x2 : Int32) (x3 : Int32) (x4 : Int32) (x5 : Int32) (s0 : Int32) (h : kH) (e : p_X8_dries_54 K5 x1 x2 x3 x4 x5 s0 h = some (r0, h0)) : V G M_X8_dries X T 0 0 54 [some (rv (8, 99) 135), some (iv x1), some (iv x2), some (iv x3), some (iv x4), some (iv x5), none] [iv s0] h := by
  unfold p_X8_dries_54 at e
  refine V_istore 33 rfl (Nat.le_of_ble_eq_true rfl) rfl ?_
  show V G M_X8_dries X T 0 0 56 [some (rv (8, 99) 135), some (iv x1), some (iv x2), some (iv x3), some (iv x4), some (iv x5), some (iv s0)] [] h
  refine V_aload_n 34 rfl rfl ?_
  refine V_getR 143 35 rfl fr_RX8_32 ⟨Nat.le_of_ble_eq_true rfl, Or.inl (Nat.le_of_ble_eq_true rfl)⟩ rfl ?_
  refine V_iload 36 rfl rfl ?_
  refine V_iconst (nI 2) 37 rfl ic_2 ?_
  refine V_iadd 38 rfl ?_
  refine V_dup2 39 rfl nj_i nj_r ?_
  obtain ⟨g8, e⟩ := gd_e e
  refine V_iald 40 rfl g8 ?_
  refine V_iload 41 rfl rfl ?_
  refine V_aload_n 42 rfl rfl ?_
  refine V_getR 143 43 rfl fr_RX8_32 ⟨Nat.le_of_ble_eq_true rfl, Or.inl (Nat.le_of_ble_eq_true rfl)⟩ rfl ?_
  refine V_iload 44 rfl rfl ?_
  refine V_iconst (nI 2) 45 rfl ic_2 ?_
  refine V_iadd 46 rfl ?_
  refine V_iald 47 rfl g8 ?_
  rcases if_e e with ⟨c48, e⟩ | ⟨c48, e⟩
  · refine V_icmp_le 92 48 rfl (by decide +kernel) (fun _ => ?_) (fun q => absurd c48 q) 
    refine V_iload 56 rfl rfl ?_
    refine V_msk [true, true, true, true, true, true, false] (lc' := [some (rv (8, 99) 135), some (iv x1), some (iv x2), some (iv x3), some (iv x4), some (iv x5), none]) rfl ?_
    exact w_X8_dries_94 hR K5 hK5 x1 x2 x3 x4 x5 s0 (h 143 ((x5 + (nI 2))).toNatClampNeg) (x5 + (nI 2)) h e
  · refine V_icmp_le 92 48 rfl (by decide +kernel) (fun q => absurd q c48) (fun _ => ?_)
    refine V_aload_n 49 rfl rfl ?_
    refine V_getR 143 50 rfl fr_RX8_32 ⟨Nat.le_of_ble_eq_true rfl, Or.inl (Nat.le_of_ble_eq_true rfl)⟩ rfl ?_
    refine V_iload 51 rfl rfl ?_
    refine V_iconst (nI 2) 52 rfl ic_2 ?_
    refine V_iadd 53 rfl ?_
    refine V_iald 54 rfl g8 ?_
    refine V_goto 94 55 rfl (by decide +kernel) ?_
    refine V_msk [true, true, true, true, true, true, false] (lc' := [some (rv (8, 99) 135), some (iv x1), some (iv x2), some (iv x3), some (iv x4), some (iv x5), none]) rfl ?_
    exact w_X8_dries_94 hR K5 hK5 x1 x2 x3 x4 x5 (h 143 ((x5 + (nI 2))).toNatClampNeg) (h 143 ((x5 + (nI 2))).toNatClampNeg) (x5 + (nI 2)) h e
set_option maxHeartbeats 4000000 in
theorem w_X8_dries_5 {G : kG} {X : kX} {T : List kT} {r0 : Int32} {h0 : kH} (hR : k_R G M_X8_dries X T 0 0 (some (iv r0)) h0) (K5 : Int32 × Int32 × Int32 × Int32 × kH → Option (Int32 × kH)) (hK5 : ∀ (x1 : Int32) (x2 : Int32) (x3 : Int32) (x4 : Int32) (h : kH), K5 (x1, x2, x3, x4, h) = some (r0, h0) → V G M_X8_dries X T 0 0 5 [some (rv (8, 99) 135), some (iv x1), some (iv x2), some (iv x3), some (iv x4), none, none] [] h) (x1 : Int32) (x2 : Int32) (x3 : Int32) (x4 : Int32) (h : kH) (e : p_X8_dries_5 K5 x1 x2 x3 x4 h = some (r0, h0)) : V G M_X8_dries X T 0 0 5 [some (rv (8, 99) 135), some (iv x1), some (iv x2), some (iv x3), some (iv x4), none, none] [] h := by
  unfold p_X8_dries_5 at e
  refine V_iload 4 rfl rfl ?_
  refine V_aload_n 5 rfl rfl ?_
  refine V_getR 138 6 rfl fr_RX8_17 ⟨Nat.le_of_ble_eq_true rfl, Or.inl (Nat.le_of_ble_eq_true rfl)⟩ rfl ?_
  refine V_iconst (nI 0) 7 rfl ic_0 ?_
  obtain ⟨g1, e⟩ := gd_e e
  refine V_iald 8 rfl g1 ?_
  rcases if_e e with ⟨c9, e⟩ | ⟨c9, e⟩
  · refine V_icmp_ge 114 9 rfl (by decide +kernel) (fun _ => ?_) (fun q => absurd c9 q) 
    refine V_iload_n 70 rfl rfl ?_
    cases e
    exact V_iret 71 rfl hR rfl
  · refine V_icmp_ge 114 9 rfl (by decide +kernel) (fun q => absurd q c9) (fun _ => ?_)
    refine V_iload_n 10 rfl rfl ?_
    refine V_iload 11 rfl rfl ?_
    obtain ⟨v4, h2, d3, e⟩ := bd2_e e
    refine V_callS (N := M_X8_potAt) (av := [iv x1, iv x4]) (st := []) (r := some (iv v4)) (h' := h2) 12 rfl (c_X8_potAt d3) g_X8_potAt gs_X8_potAt lk_RX8_120 ⟨Nat.le_of_ble_eq_true rfl, Nat.le_of_ble_eq_true rfl⟩ rfl (Nat.le_of_ble_eq_true rfl) ⟨Nat.zero_le _, Nat.zero_le _⟩ ?_
    show V G M_X8_dries X T 0 0 22 [some (rv (8, 99) 135), some (iv x1), some (iv x2), some (iv x3), some (iv x4), none, none] [iv v4] h2
    refine V_istore 13 rfl (Nat.le_of_ble_eq_true rfl) rfl ?_
    show V G M_X8_dries X T 0 0 24 [some (rv (8, 99) 135), some (iv x1), some (iv x2), some (iv x3), some (iv x4), some (iv v4), none] [] h2
    refine V_aload_n 14 rfl rfl ?_
    refine V_iload_n 15 rfl rfl ?_
    refine V_iload 16 rfl rfl ?_
    obtain ⟨v7, h5, d6, e⟩ := bd2_e e
    refine V_callV (N := M_X8_isWhole) (av := [iv x1, iv x4]) (st := []) (r := some (iv v7)) (h' := h5) 17 rfl (c_X8_isWhole d6) g_X8_isWhole gv_X8_isWhole lk_RX8_129 ⟨Nat.le_of_ble_eq_true rfl, Nat.le_of_ble_eq_true rfl⟩ rfl rfl (Nat.le_of_ble_eq_true rfl) ⟨Nat.zero_le _, Nat.zero_le _⟩ ?_
    show V G M_X8_dries X T 0 0 31 [some (rv (8, 99) 135), some (iv x1), some (iv x2), some (iv x3), some (iv x4), some (iv v4), none] [iv v7] h5
    rcases if_e e with ⟨c18, e⟩ | ⟨c18, e⟩
    · refine V_if_eq 53 18 rfl (by decide +kernel) (fun _ => ?_) (fun q => absurd c18 q) 
      refine V_iconst (nI 0) 32 rfl ic_0 ?_
      refine V_msk [true, true, true, true, true, true, false] (lc' := [some (rv (8, 99) 135), some (iv x1), some (iv x2), some (iv x3), some (iv x4), some (iv v4), none]) rfl ?_
      exact w_X8_dries_54 hR K5 hK5 x1 x2 x3 x4 v4 (nI 0) h5 e
    · refine V_if_eq 53 18 rfl (by decide +kernel) (fun q => absurd q c18) (fun _ => ?_)
      refine V_iload_n 19 rfl rfl ?_
      refine V_aload_n 20 rfl rfl ?_
      refine V_getR 143 21 rfl fr_RX8_32 ⟨Nat.le_of_ble_eq_true rfl, Or.inl (Nat.le_of_ble_eq_true rfl)⟩ rfl ?_
      refine V_iload 22 rfl rfl ?_
      refine V_bipush (nI 7) 23 rfl bp_7 ?_
      refine V_iadd 24 rfl ?_
      obtain ⟨g13, e⟩ := gd_e e
      refine V_iald 25 rfl g13 ?_
      refine V_iconst (nI 1) 26 rfl ic_1 ?_
      refine V_iadd 27 rfl ?_
      refine V_imul 28 rfl ?_
      refine V_iconst (nI 4) 29 rfl ic_4 ?_
      refine V_idiv 30 rfl (by decide +kernel) ?_
      refine V_goto 54 31 rfl (by decide +kernel) ?_
      refine V_msk [true, true, true, true, true, true, false] (lc' := [some (rv (8, 99) 135), some (iv x1), some (iv x2), some (iv x3), some (iv x4), some (iv v4), none]) rfl ?_
      exact w_X8_dries_54 hR K5 hK5 x1 x2 x3 x4 v4 ((x2 * ((h5 143 ((v4 + (nI 7))).toNatClampNeg) + (nI 1))) / (nI 4)) h5 e
set_option maxHeartbeats 4000000 in
theorem c_X8_dries {G : kG} {T : List kT} {x1 : Int32} {x2 : Int32} {h : kH} {r0 : Int32} {h0 : kH} (e : p_X8_dries x1 x2 h = some (r0, h0)) : k_C G M_X8_dries T [rv (8, 99) 135, iv x1, iv x2] h (some (iv r0)) h0 := by
  refine k_C_of 4 (by decide +kernel) rfl tb_X8_dries rfl (fun X hR => ?_)
  show V G M_X8_dries X T 0 0 0 [some (rv (8, 99) 135), some (iv x1), some (iv x2), none, none, none, none] [] h
  unfold p_X8_dries at e
  refine V_iconst (nI 0) 0 rfl ic_0 ?_
  refine V_istore_n 1 rfl (Nat.le_of_ble_eq_true rfl) rfl ?_
  show V G M_X8_dries X T 0 0 2 [some (rv (8, 99) 135), some (iv x1), some (iv x2), some (iv (nI 0)), none, none, none] [] h
  refine V_iconst (nI 0) 2 rfl ic_0 ?_
  refine V_istore 3 rfl (Nat.le_of_ble_eq_true rfl) rfl ?_
  show V G M_X8_dries X T 0 0 5 [some (rv (8, 99) 135), some (iv x1), some (iv x2), some (iv (nI 0)), some (iv (nI 0)), none, none] [] h
  refine V_msk [true, true, true, true, true, false, false] (lc' := [some (rv (8, 99) 135), some (iv x1), some (iv x2), some (iv (nI 0)), some (iv (nI 0)), none, none]) rfl ?_
  exact fx_e (P := fun s => V G M_X8_dries X T 0 0 5 [some (rv (8, 99) 135), some (iv s.1), some (iv s.2.1), some (iv s.2.2.1), some (iv s.2.2.2.1), none, none] [] s.2.2.2.2) (fun K5 hK5 s e => w_X8_dries_5 hR K5 (fun x1 x2 x3 x4 h e => hK5 (x1, x2, x3, x4, h) e) s.1 s.2.1 s.2.2.1 s.2.2.2.1 s.2.2.2.2 e) FU (x1, x2, (nI 0), (nI 0), h) e
set_option maxHeartbeats 4000000 in
theorem c_X8_dry {G : kG} {T : List kT} {x1 : Int32} {h : kH} {r0 : Int32} {h0 : kH} (e : p_X8_dry x1 h = some (r0, h0)) : k_C G M_X8_dry T [rv (8, 99) 135, iv x1] h (some (iv r0)) h0 := by
  refine k_C_of 0 (by decide +kernel) rfl tb_X8_dry rfl (fun X hR => ?_)
  show V G M_X8_dry X T 0 0 0 [some (rv (8, 99) 135), some (iv x1)] [] h
  unfold p_X8_dry at e
  refine V_iload_n 0 rfl rfl ?_
  refine V_i2l 1 rfl ?_
  refine V_lconst (1 : Int64) 2 rfl rfl ?_
  refine V_ldc2 (240 : Int64) 3 rfl kl_RX8_171 ?_
  obtain ⟨v3, h1, d2, e⟩ := bd2_e e
  refine V_callS (N := M_X8_in) (av := [jv (x1).toInt64, jv (1 : Int64), jv (240 : Int64)]) (st := []) (r := some (iv v3)) (h' := h1) 4 rfl (c_X8_in d2) g_X8_in gs_X8_in lk_RX8_68 ⟨Nat.le_of_ble_eq_true rfl, Nat.le_of_ble_eq_true rfl⟩ rfl (Nat.le_of_ble_eq_true rfl) ⟨Nat.zero_le _, Nat.zero_le _⟩ ?_
  show V G M_X8_dry X T 0 0 9 [some (rv (8, 99) 135), some (iv x1)] [iv v3] h1
  rcases if_e e with ⟨c5, e⟩ | ⟨c5, e⟩
  · refine V_if_eq 21 5 rfl (by decide +kernel) (fun _ => ?_) (fun q => absurd c5 q) 
    refine V_iconst (-1 : Int32) 11 rfl ic_m1 ?_
    cases e
    exact V_iret 12 rfl hR rfl
  · refine V_if_eq 21 5 rfl (by decide +kernel) (fun q => absurd q c5) (fun _ => ?_)
    refine V_aload_n 6 rfl rfl ?_
    refine V_iconst (nI 0) 7 rfl ic_0 ?_
    refine V_iload_n 8 rfl rfl ?_
    obtain ⟨v6, h4, d5, e⟩ := bd2_e e
    refine V_callV (N := M_X8_dries) (av := [iv (nI 0), iv x1]) (st := []) (r := some (iv v6)) (h' := h4) 9 rfl (c_X8_dries d5) g_X8_dries gv_X8_dries lk_RX8_173 ⟨Nat.le_of_ble_eq_true rfl, Nat.le_of_ble_eq_true rfl⟩ rfl rfl (Nat.le_of_ble_eq_true rfl) ⟨Nat.zero_le _, Nat.zero_le _⟩ ?_
    show V G M_X8_dry X T 0 0 18 [some (rv (8, 99) 135), some (iv x1)] [iv v6] h4
    refine V_goto 22 10 rfl (by decide +kernel) ?_
    cases e
    exact V_iret 12 rfl hR rfl
set_option maxHeartbeats 4000000 in
theorem w_X8_looks_59 {G : kG} {X : kX} {T : List kT} {h0 : kH} (hR : k_R G M_X8_looks X T 0 0 none h0) (K2 : Int32 × kH → Option (kH)) (hK2 : ∀ (x1 : Int32) (h : kH), K2 (x1, h) = some h0 → V G M_X8_looks X T 0 0 2 [some (rv (8, 99) 135), some (iv x1), none] [] h) (x1 : Int32) (s0 : Int32) (s1 : Int32) (h : kH) (e : p_X8_looks_59 K2 x1 s0 s1 h = some h0) : V G M_X8_looks X T 0 0 59 [some (rv (8, 99) 135), some (iv x1), none] [iv s0, iv s1, rv (9, 6) 146] h := by
  unfold p_X8_looks_59 at e
  obtain ⟨g9, e⟩ := gd_e e
  refine V_iast 37 rfl g9 ?_
  refine le_V (P := fun h10 => V G M_X8_looks X T 0 0 60 [some (rv (8, 99) 135), some (iv x1), none] [] h10) e (fun h10 e => ?_)
  refine V_iinc (x1 + (nI 1)) 38 rfl rfl (inc_1 _) (Nat.le_of_ble_eq_true rfl) rfl ?_
  show V G M_X8_looks X T 0 0 63 [some (rv (8, 99) 135), some (iv (x1 + (nI 1))), none] [] h10
  refine V_goto 2 39 rfl (by decide +kernel) ?_
  refine V_msk [true, true, false] (lc' := [some (rv (8, 99) 135), some (iv (x1 + (nI 1))), none]) rfl ?_
  exact hK2 (x1 + (nI 1)) h10 e
set_option maxHeartbeats 4000000 in
theorem w_X8_looks_2 {G : kG} {X : kX} {T : List kT} {h0 : kH} (hR : k_R G M_X8_looks X T 0 0 none h0) (K2 : Int32 × kH → Option (kH)) (hK2 : ∀ (x1 : Int32) (h : kH), K2 (x1, h) = some h0 → V G M_X8_looks X T 0 0 2 [some (rv (8, 99) 135), some (iv x1), none] [] h) (x1 : Int32) (h : kH) (e : p_X8_looks_2 K2 x1 h = some h0) : V G M_X8_looks X T 0 0 2 [some (rv (8, 99) 135), some (iv x1), none] [] h := by
  unfold p_X8_looks_2 at e
  refine V_iload_n 2 rfl rfl ?_
  refine V_aload_n 3 rfl rfl ?_
  refine V_getR 138 4 rfl fr_RX8_17 ⟨Nat.le_of_ble_eq_true rfl, Or.inl (Nat.le_of_ble_eq_true rfl)⟩ rfl ?_
  refine V_iconst (nI 0) 5 rfl ic_0 ?_
  obtain ⟨g1, e⟩ := gd_e e
  refine V_iald 6 rfl g1 ?_
  rcases if_e e with ⟨c7, e⟩ | ⟨c7, e⟩
  · refine V_icmp_ge 66 7 rfl (by decide +kernel) (fun _ => ?_) (fun q => absurd c7 q) 
    cases e
    exact V_vret 40 rfl hR rfl
  · refine V_icmp_ge 66 7 rfl (by decide +kernel) (fun q => absurd q c7) (fun _ => ?_)
    refine V_aload_n 8 rfl rfl ?_
    refine V_getR 143 9 rfl fr_RX8_32 ⟨Nat.le_of_ble_eq_true rfl, Or.inl (Nat.le_of_ble_eq_true rfl)⟩ rfl ?_
    refine V_sipush (nI 600) 10 rfl sp_600 ?_
    refine V_aload_n 11 rfl rfl ?_
    refine V_getR 143 12 rfl fr_RX8_32 ⟨Nat.le_of_ble_eq_true rfl, Or.inl (Nat.le_of_ble_eq_true rfl)⟩ rfl ?_
    refine V_iconst (nI 3) 13 rfl ic_3 ?_
    refine V_iload_n 14 rfl rfl ?_
    obtain ⟨v4, h2, d3, e⟩ := bd2_e e
    refine V_callS (N := M_X8_potAt) (av := [iv (nI 3), iv x1]) (st := [rv (9, 800) 143, iv (nI 600), rv (9, 800) 143]) (r := some (iv v4)) (h' := h2) 15 rfl (c_X8_potAt d3) g_X8_potAt gs_X8_potAt lk_RX8_120 ⟨Nat.le_of_ble_eq_true rfl, Nat.le_of_ble_eq_true rfl⟩ rfl (Nat.le_of_ble_eq_true rfl) ⟨Nat.zero_le _, Nat.zero_le _⟩ ?_
    show V G M_X8_looks X T 0 0 28 [some (rv (8, 99) 135), some (iv x1), none] [iv v4, rv (9, 800) 143, iv (nI 600), rv (9, 800) 143] h2
    refine V_iconst (nI 0) 16 rfl ic_0 ?_
    refine V_iadd 17 rfl ?_
    obtain ⟨g5, e⟩ := gd_e e
    refine V_iald 18 rfl g5 ?_
    refine V_iadd 19 rfl ?_
    obtain ⟨g6, e⟩ := gd_e e
    refine V_iald 20 rfl g6 ?_
    refine V_istore_n 21 rfl (Nat.le_of_ble_eq_true rfl) rfl ?_
    refine le_V (P := fun v7 => V G M_X8_looks X T 0 0 34 [some (rv (8, 99) 135), some (iv x1), some (iv v7)] [] h2) e (fun v7 e => ?_)
    refine V_aload_n 22 rfl rfl ?_
    refine V_getR 146 23 rfl fr_RX8_41 ⟨Nat.le_of_ble_eq_true rfl, Or.inl (Nat.le_of_ble_eq_true rfl)⟩ rfl ?_
    refine V_iload_n 24 rfl rfl ?_
    refine V_iload_n 25 rfl rfl ?_
    refine V_aload_n 26 rfl rfl ?_
    refine V_getR 146 27 rfl fr_RX8_41 ⟨Nat.le_of_ble_eq_true rfl, Or.inl (Nat.le_of_ble_eq_true rfl)⟩ rfl ?_
    refine V_iload_n 28 rfl rfl ?_
    obtain ⟨g8, e⟩ := gd_e e
    refine V_iald 29 rfl g8 ?_
    rcases if_e e with ⟨c30, e⟩ | ⟨c30, e⟩
    · refine V_icmp_le 53 30 rfl (by decide +kernel) (fun _ => ?_) (fun q => absurd c30 q) 
      refine V_aload_n 33 rfl rfl ?_
      refine V_getR 146 34 rfl fr_RX8_41 ⟨Nat.le_of_ble_eq_true rfl, Or.inl (Nat.le_of_ble_eq_true rfl)⟩ rfl ?_
      refine V_iload_n 35 rfl rfl ?_
      refine V_iald 36 rfl g8 ?_
      refine V_msk [true, true, false] (lc' := [some (rv (8, 99) 135), some (iv x1), none]) rfl ?_
      exact w_X8_looks_59 hR K2 hK2 x1 (h2 146 (x1).toNatClampNeg) x1 h2 e
    · refine V_icmp_le 53 30 rfl (by decide +kernel) (fun q => absurd q c30) (fun _ => ?_)
      refine V_iload_n 31 rfl rfl ?_
      refine V_goto 59 32 rfl (by decide +kernel) ?_
      refine V_msk [true, true, false] (lc' := [some (rv (8, 99) 135), some (iv x1), none]) rfl ?_
      exact w_X8_looks_59 hR K2 hK2 x1 v7 x1 h2 e
set_option maxHeartbeats 4000000 in
theorem c_X8_looks {G : kG} {T : List kT} {h : kH} {h0 : kH} (e : p_X8_looks h = some h0) : k_C G M_X8_looks T [rv (8, 99) 135] h none h0 := by
  refine k_C_of 2 (by decide +kernel) rfl tb_X8_looks rfl (fun X hR => ?_)
  show V G M_X8_looks X T 0 0 0 [some (rv (8, 99) 135), none, none] [] h
  unfold p_X8_looks at e
  refine V_iconst (nI 0) 0 rfl ic_0 ?_
  refine V_istore_n 1 rfl (Nat.le_of_ble_eq_true rfl) rfl ?_
  show V G M_X8_looks X T 0 0 2 [some (rv (8, 99) 135), some (iv (nI 0)), none] [] h
  refine V_msk [true, true, false] (lc' := [some (rv (8, 99) 135), some (iv (nI 0)), none]) rfl ?_
  exact fx_e (P := fun s => V G M_X8_looks X T 0 0 2 [some (rv (8, 99) 135), some (iv s.1), none] [] s.2) (fun K2 hK2 s e => w_X8_looks_2 hR K2 (fun x1 h e => hK2 (x1, h) e) s.1 s.2 e) FU ((nI 0), h) e
set_option maxHeartbeats 4000000 in
theorem w_X8_good_29 {G : kG} {X : kX} {T : List kT} {r0 : Int32} {h0 : kH} (hR : k_R G M_X8_good X T 0 0 (some (iv r0)) h0) (K4 : Int32 × Int32 × kH → Option (Int32 × kH)) (hK4 : ∀ (x2 : Int32) (x3 : Int32) (h : kH), K4 (x2, x3, h) = some (r0, h0) → V G M_X8_good X T 0 0 4 [some (rv (8, 99) 135), none, some (iv x2), some (iv x3)] [] h) (x3 : Int32) (s0 : Int32) (s1 : Int32) (h : kH) (e : p_X8_good_29 K4 x3 s0 s1 h = some (r0, h0)) : V G M_X8_good X T 0 0 29 [some (rv (8, 99) 135), none, none, some (iv x3)] [iv s0, iv s1] h := by
  unfold p_X8_good_29 at e
  refine V_iadd 19 rfl ?_
  refine V_istore_n 20 rfl (Nat.le_of_ble_eq_true rfl) rfl ?_
  refine le_V (P := fun v5 => V G M_X8_good X T 0 0 31 [some (rv (8, 99) 135), none, some (iv v5), some (iv x3)] [] h) e (fun v5 e => ?_)
  refine V_iinc (x3 + (nI 1)) 21 rfl rfl (inc_1 _) (Nat.le_of_ble_eq_true rfl) rfl ?_
  show V G M_X8_good X T 0 0 34 [some (rv (8, 99) 135), none, some (iv v5), some (iv (x3 + (nI 1)))] [] h
  refine V_goto 4 22 rfl (by decide +kernel) ?_
  refine V_msk [true, false, true, true] (lc' := [some (rv (8, 99) 135), none, some (iv v5), some (iv (x3 + (nI 1)))]) rfl ?_
  exact hK4 v5 (x3 + (nI 1)) h e
set_option maxHeartbeats 4000000 in
theorem w_X8_good_4 {G : kG} {X : kX} {T : List kT} {r0 : Int32} {h0 : kH} (hR : k_R G M_X8_good X T 0 0 (some (iv r0)) h0) (K4 : Int32 × Int32 × kH → Option (Int32 × kH)) (hK4 : ∀ (x2 : Int32) (x3 : Int32) (h : kH), K4 (x2, x3, h) = some (r0, h0) → V G M_X8_good X T 0 0 4 [some (rv (8, 99) 135), none, some (iv x2), some (iv x3)] [] h) (x2 : Int32) (x3 : Int32) (h : kH) (e : p_X8_good_4 K4 x2 x3 h = some (r0, h0)) : V G M_X8_good X T 0 0 4 [some (rv (8, 99) 135), none, some (iv x2), some (iv x3)] [] h := by
  unfold p_X8_good_4 at e
  refine V_iload_n 4 rfl rfl ?_
  refine V_aload_n 5 rfl rfl ?_
  refine V_getR 138 6 rfl fr_RX8_17 ⟨Nat.le_of_ble_eq_true rfl, Or.inl (Nat.le_of_ble_eq_true rfl)⟩ rfl ?_
  refine V_iconst (nI 0) 7 rfl ic_0 ?_
  obtain ⟨g1, e⟩ := gd_e e
  refine V_iald 8 rfl g1 ?_
  rcases if_e e with ⟨c9, e⟩ | ⟨c9, e⟩
  · refine V_icmp_ge 37 9 rfl (by decide +kernel) (fun _ => ?_) (fun q => absurd c9 q) 
    refine V_iload_n 23 rfl rfl ?_
    cases e
    exact V_iret 24 rfl hR rfl
  · refine V_icmp_ge 37 9 rfl (by decide +kernel) (fun q => absurd q c9) (fun _ => ?_)
    refine V_iload_n 10 rfl rfl ?_
    refine V_aload_n 11 rfl rfl ?_
    refine V_iconst (nI 3) 12 rfl ic_3 ?_
    refine V_iload_n 13 rfl rfl ?_
    obtain ⟨v4, h2, d3, e⟩ := bd2_e e
    refine V_callV (N := M_X8_lossOf) (av := [iv (nI 3), iv x3]) (st := [iv x2]) (r := some (iv v4)) (h' := h2) 14 rfl (c_X8_lossOf d3) g_X8_lossOf gv_X8_lossOf lk_RX8_136 ⟨Nat.le_of_ble_eq_true rfl, Nat.le_of_ble_eq_true rfl⟩ rfl rfl (Nat.le_of_ble_eq_true rfl) ⟨Nat.zero_le _, Nat.zero_le _⟩ ?_
    show V G M_X8_good X T 0 0 21 [some (rv (8, 99) 135), none, some (iv x2), some (iv x3)] [iv v4, iv x2] h2
    rcases if_e e with ⟨c15, e⟩ | ⟨c15, e⟩
    · refine V_if_ne 28 15 rfl (by decide +kernel) (fun q => absurd c15 q) (fun _ => ?_)
      refine V_iconst (nI 1) 16 rfl ic_1 ?_
      refine V_goto 29 17 rfl (by decide +kernel) ?_
      refine V_msk [true, false, false, true] (lc' := [some (rv (8, 99) 135), none, none, some (iv x3)]) rfl ?_
      exact w_X8_good_29 hR K4 hK4 x3 (nI 1) x2 h2 e
    · refine V_if_ne 28 15 rfl (by decide +kernel) (fun _ => ?_) (fun q => absurd q c15) 
      refine V_iconst (nI 0) 18 rfl ic_0 ?_
      refine V_msk [true, false, false, true] (lc' := [some (rv (8, 99) 135), none, none, some (iv x3)]) rfl ?_
      exact w_X8_good_29 hR K4 hK4 x3 (nI 0) x2 h2 e
set_option maxHeartbeats 4000000 in
theorem c_X8_good {G : kG} {T : List kT} {x1 : Int32} {h : kH} {r0 : Int32} {h0 : kH} (e : p_X8_good x1 h = some (r0, h0)) : k_C G M_X8_good T [rv (8, 99) 135, iv x1] h (some (iv r0)) h0 := by
  refine k_C_of 2 (by decide +kernel) rfl tb_X8_good rfl (fun X hR => ?_)
  show V G M_X8_good X T 0 0 0 [some (rv (8, 99) 135), some (iv x1), none, none] [] h
  unfold p_X8_good at e
  refine V_iconst (nI 0) 0 rfl ic_0 ?_
  refine V_istore_n 1 rfl (Nat.le_of_ble_eq_true rfl) rfl ?_
  show V G M_X8_good X T 0 0 2 [some (rv (8, 99) 135), some (iv x1), some (iv (nI 0)), none] [] h
  refine V_iload_n 2 rfl rfl ?_
  refine V_istore_n 3 rfl (Nat.le_of_ble_eq_true rfl) rfl ?_
  show V G M_X8_good X T 0 0 4 [some (rv (8, 99) 135), some (iv x1), some (iv (nI 0)), some (iv x1)] [] h
  refine V_msk [true, false, true, true] (lc' := [some (rv (8, 99) 135), none, some (iv (nI 0)), some (iv x1)]) rfl ?_
  exact fx_e (P := fun s => V G M_X8_good X T 0 0 4 [some (rv (8, 99) 135), none, some (iv s.1), some (iv s.2.1)] [] s.2.2) (fun K4 hK4 s e => w_X8_good_4 hR K4 (fun x2 x3 h e => hK4 (x2, x3, h) e) s.1 s.2.1 s.2.2 e) FU ((nI 0), x1, h) e
set_option maxHeartbeats 4000000 in
theorem w_X8_runs_2 {G : kG} {X : kX} {T : List kT} {r0 : Int32} {h0 : kH} (hR : k_R G M_X8_runs X T 0 0 (some (iv r0)) h0) (K2 : Int32 × Int32 × Int32 × kH → Option (Int32 × kH)) (hK2 : ∀ (x1 : Int32) (x2 : Int32) (x3 : Int32) (h : kH), K2 (x1, x2, x3, h) = some (r0, h0) → V G M_X8_runs X T 0 0 2 [some (rv (8, 99) 135), some (iv x1), some (iv x2), some (iv x3)] [] h) (x1 : Int32) (x2 : Int32) (x3 : Int32) (h : kH) (e : p_X8_runs_2 K2 x1 x2 x3 h = some (r0, h0)) : V G M_X8_runs X T 0 0 2 [some (rv (8, 99) 135), some (iv x1), some (iv x2), some (iv x3)] [] h := by
  unfold p_X8_runs_2 at e
  refine V_iload_n 2 rfl rfl ?_
  refine V_iload_n 3 rfl rfl ?_
  rcases if_e e with ⟨c4, e⟩ | ⟨c4, e⟩
  · refine V_icmp_ge 23 4 rfl (by decide +kernel) (fun _ => ?_) (fun q => absurd c4 q) 
    refine V_aload_n 13 rfl rfl ?_
    refine V_iconst (nI 0) 14 rfl ic_0 ?_
    obtain ⟨v3, h1, d2, e⟩ := bd2_e e
    refine V_callV (N := M_X8_good) (av := [iv (nI 0)]) (st := []) (r := some (iv v3)) (h' := h1) 15 rfl (c_X8_good d2) g_X8_good gv_X8_good lk_RX8_179 ⟨Nat.le_of_ble_eq_true rfl, Nat.le_of_ble_eq_true rfl⟩ rfl rfl (Nat.le_of_ble_eq_true rfl) ⟨Nat.zero_le _, Nat.zero_le _⟩ ?_
    show V G M_X8_runs X T 0 0 28 [some (rv (8, 99) 135), some (iv x1), some (iv x2), some (iv x3)] [iv v3] h1
    cases e
    exact V_iret 16 rfl hR rfl
  · refine V_icmp_ge 23 4 rfl (by decide +kernel) (fun q => absurd q c4) (fun _ => ?_)
    refine V_aload_n 5 rfl rfl ?_
    refine V_iconst (nI 3) 6 rfl ic_3 ?_
    refine V_iload_n 7 rfl rfl ?_
    obtain ⟨h4, d5, e⟩ := bd_e e
    refine V_callV (N := M_X8_goes) (av := [iv (nI 3), iv x2]) (st := []) (r := none) (h' := h4) 8 rfl (c_X8_goes d5) g_X8_goes gv_X8_goes lk_RX8_166 ⟨Nat.le_of_ble_eq_true rfl, Nat.le_of_ble_eq_true rfl⟩ rfl rfl (Nat.le_of_ble_eq_true rfl) ⟨Nat.zero_le _, Nat.zero_le _⟩ ?_
    show V G M_X8_runs X T 0 0 13 [some (rv (8, 99) 135), some (iv x1), some (iv x2), some (iv x3)] [] h4
    refine V_aload_n 9 rfl rfl ?_
    obtain ⟨h6, d7, e⟩ := bd_e e
    refine V_callV (N := M_X8_looks) (av := []) (st := []) (r := none) (h' := h6) 10 rfl (c_X8_looks d7) g_X8_looks gv_X8_looks lk_RX8_176 ⟨Nat.le_of_ble_eq_true rfl, Nat.le_of_ble_eq_true rfl⟩ rfl rfl (Nat.le_of_ble_eq_true rfl) ⟨Nat.zero_le _, Nat.zero_le _⟩ ?_
    show V G M_X8_runs X T 0 0 17 [some (rv (8, 99) 135), some (iv x1), some (iv x2), some (iv x3)] [] h6
    refine V_iinc (x3 + (nI 1)) 11 rfl rfl (inc_1 _) (Nat.le_of_ble_eq_true rfl) rfl ?_
    show V G M_X8_runs X T 0 0 20 [some (rv (8, 99) 135), some (iv x1), some (iv x2), some (iv (x3 + (nI 1)))] [] h6
    refine V_goto 2 12 rfl (by decide +kernel) ?_
    refine V_msk [true, true, true, true] (lc' := [some (rv (8, 99) 135), some (iv x1), some (iv x2), some (iv (x3 + (nI 1)))]) rfl ?_
    exact hK2 x1 x2 (x3 + (nI 1)) h6 e
set_option maxHeartbeats 4000000 in
theorem c_X8_runs {G : kG} {T : List kT} {x1 : Int32} {x2 : Int32} {h : kH} {r0 : Int32} {h0 : kH} (e : p_X8_runs x1 x2 h = some (r0, h0)) : k_C G M_X8_runs T [rv (8, 99) 135, iv x1, iv x2] h (some (iv r0)) h0 := by
  refine k_C_of 1 (by decide +kernel) rfl tb_X8_runs rfl (fun X hR => ?_)
  show V G M_X8_runs X T 0 0 0 [some (rv (8, 99) 135), some (iv x1), some (iv x2), none] [] h
  unfold p_X8_runs at e
  refine V_iconst (nI 0) 0 rfl ic_0 ?_
  refine V_istore_n 1 rfl (Nat.le_of_ble_eq_true rfl) rfl ?_
  show V G M_X8_runs X T 0 0 2 [some (rv (8, 99) 135), some (iv x1), some (iv x2), some (iv (nI 0))] [] h
  refine V_msk [true, true, true, true] (lc' := [some (rv (8, 99) 135), some (iv x1), some (iv x2), some (iv (nI 0))]) rfl ?_
  exact fx_e (P := fun s => V G M_X8_runs X T 0 0 2 [some (rv (8, 99) 135), some (iv s.1), some (iv s.2.1), some (iv s.2.2.1)] [] s.2.2.2) (fun K2 hK2 s e => w_X8_runs_2 hR K2 (fun x1 x2 x3 h e => hK2 (x1, x2, x3, h) e) s.1 s.2.1 s.2.2.1 s.2.2.2 e) FU (x1, x2, (nI 0), h) e
set_option maxHeartbeats 4000000 in
theorem w_X8_tries_8 {G : kG} {X : kX} {T : List kT} {h0 : kH} (hR : k_R G M_X8_tries X T 0 0 none h0) (K8 : Int32 × kH → Option (kH)) (hK8 : ∀ (x1 : Int32) (h : kH), K8 (x1, h) = some h0 → V G M_X8_tries X T 0 0 8 [some (rv (8, 99) 135), some (iv x1)] [] h) (x1 : Int32) (h : kH) (e : p_X8_tries_8 K8 x1 h = some h0) : V G M_X8_tries X T 0 0 8 [some (rv (8, 99) 135), some (iv x1)] [] h := by
  unfold p_X8_tries_8 at e
  refine V_iload_n 6 rfl rfl ?_
  refine V_bipush (nI 6) 7 rfl bp_6 ?_
  rcases if_e e with ⟨c8, e⟩ | ⟨c8, e⟩
  · refine V_icmp_ge 27 8 rfl (by decide +kernel) (fun _ => ?_) (fun q => absurd c8 q) 
    refine V_aload_n 16 rfl rfl ?_
    obtain ⟨h3, d4, e⟩ := bd_e e
    refine V_callV (N := M_X8_looks) (av := []) (st := []) (r := none) (h' := h3) 17 rfl (c_X8_looks d4) g_X8_looks gv_X8_looks lk_RX8_176 ⟨Nat.le_of_ble_eq_true rfl, Nat.le_of_ble_eq_true rfl⟩ rfl rfl (Nat.le_of_ble_eq_true rfl) ⟨Nat.zero_le _, Nat.zero_le _⟩ ?_
    show V G M_X8_tries X T 0 0 31 [some (rv (8, 99) 135), some (iv x1)] [] h3
    cases e
    exact V_vret 18 rfl hR rfl
  · refine V_icmp_ge 27 8 rfl (by decide +kernel) (fun q => absurd q c8) (fun _ => ?_)
    refine V_aload_n 9 rfl rfl ?_
    refine V_getR 146 10 rfl fr_RX8_41 ⟨Nat.le_of_ble_eq_true rfl, Or.inl (Nat.le_of_ble_eq_true rfl)⟩ rfl ?_
    refine V_iload_n 11 rfl rfl ?_
    refine V_iconst (nI 0) 12 rfl ic_0 ?_
    obtain ⟨g5, e⟩ := gd_e e
    refine V_iast 13 rfl g5 ?_
    refine le_V (P := fun h6 => V G M_X8_tries X T 0 0 21 [some (rv (8, 99) 135), some (iv x1)] [] h6) e (fun h6 e => ?_)
    refine V_iinc (x1 + (nI 1)) 14 rfl rfl (inc_1 _) (Nat.le_of_ble_eq_true rfl) rfl ?_
    show V G M_X8_tries X T 0 0 24 [some (rv (8, 99) 135), some (iv (x1 + (nI 1)))] [] h6
    refine V_goto 8 15 rfl (by decide +kernel) ?_
    refine V_msk [true, true] (lc' := [some (rv (8, 99) 135), some (iv (x1 + (nI 1)))]) rfl ?_
    exact hK8 (x1 + (nI 1)) h6 e
set_option maxHeartbeats 4000000 in
theorem c_X8_tries {G : kG} {T : List kT} {h : kH} {h0 : kH} (e : p_X8_tries h = some h0) : k_C G M_X8_tries T [rv (8, 99) 135] h none h0 := by
  refine k_C_of 1 (by decide +kernel) rfl tb_X8_tries rfl (fun X hR => ?_)
  show V G M_X8_tries X T 0 0 0 [some (rv (8, 99) 135), none] [] h
  unfold p_X8_tries at e
  refine V_aload_n 0 rfl rfl ?_
  refine V_iconst (nI 0) 1 rfl ic_0 ?_
  refine V_iconst (nI 3) 2 rfl ic_3 ?_
  obtain ⟨h1, d2, e⟩ := bd_e e
  refine V_callV (N := M_X8_copies) (av := [iv (nI 0), iv (nI 3)]) (st := []) (r := none) (h' := h1) 3 rfl (c_X8_copies d2) g_X8_copies gv_X8_copies lk_RX8_182 ⟨Nat.le_of_ble_eq_true rfl, Nat.le_of_ble_eq_true rfl⟩ rfl rfl (Nat.le_of_ble_eq_true rfl) ⟨Nat.zero_le _, Nat.zero_le _⟩ ?_
  show V G M_X8_tries X T 0 0 6 [some (rv (8, 99) 135), none] [] h1
  refine V_iconst (nI 0) 4 rfl ic_0 ?_
  refine V_istore_n 5 rfl (Nat.le_of_ble_eq_true rfl) rfl ?_
  show V G M_X8_tries X T 0 0 8 [some (rv (8, 99) 135), some (iv (nI 0))] [] h1
  refine V_msk [true, true] (lc' := [some (rv (8, 99) 135), some (iv (nI 0))]) rfl ?_
  exact fx_e (P := fun s => V G M_X8_tries X T 0 0 8 [some (rv (8, 99) 135), some (iv s.1)] [] s.2) (fun K8 hK8 s e => w_X8_tries_8 hR K8 (fun x1 h e => hK8 (x1, h) e) s.1 s.2 e) FU ((nI 0), h1) e
set_option maxHeartbeats 4000000 in
theorem c_X8_isRun {G : kG} {T : List kT} {x0 : Int32} {x1 : Int32} {h : kH} {r0 : Int32} {h0 : kH} (e : p_X8_isRun x0 x1 h = some (r0, h0)) : k_C G M_X8_isRun T [iv x0, iv x1] h (some (iv r0)) h0 := by
  refine k_C_of 0 (by decide +kernel) rfl tb_X8_isRun rfl (fun X hR => ?_)
  show V G M_X8_isRun X T 0 0 0 [some (iv x0), some (iv x1)] [] h
  unfold p_X8_isRun at e
  refine V_iload_n 0 rfl rfl ?_
  refine V_i2l 1 rfl ?_
  refine V_lconst (0 : Int64) 2 rfl rfl ?_
  refine V_ldc2 (240 : Int64) 3 rfl kl_RX8_171 ?_
  obtain ⟨v3, h1, d2, e⟩ := bd2_e e
  refine V_callS (N := M_X8_in) (av := [jv (x0).toInt64, jv (0 : Int64), jv (240 : Int64)]) (st := []) (r := some (iv v3)) (h' := h1) 4 rfl (c_X8_in d2) g_X8_in gs_X8_in lk_RX8_68 ⟨Nat.le_of_ble_eq_true rfl, Nat.le_of_ble_eq_true rfl⟩ rfl (Nat.le_of_ble_eq_true rfl) ⟨Nat.zero_le _, Nat.zero_le _⟩ ?_
  show V G M_X8_isRun X T 0 0 9 [some (iv x0), some (iv x1)] [iv v3] h1
  rcases if_e e with ⟨c5, e⟩ | ⟨c5, e⟩
  · refine V_if_eq 23 5 rfl (by decide +kernel) (fun _ => ?_) (fun q => absurd c5 q) 
    refine V_iconst (nI 0) 11 rfl ic_0 ?_
    cases e
    exact V_zret 12 rfl z_0 hR rfl
  · refine V_if_eq 23 5 rfl (by decide +kernel) (fun q => absurd q c5) (fun _ => ?_)
    refine V_iload_n 6 rfl rfl ?_
    obtain ⟨v6, h4, d5, e⟩ := bd2_e e
    refine V_callS (N := M_X8_isWind) (av := [iv x1]) (st := []) (r := some (iv v6)) (h' := h4) 7 rfl (c_X8_isWind d5) g_X8_isWind gs_X8_isWind lk_RX8_163 ⟨Nat.le_of_ble_eq_true rfl, Nat.le_of_ble_eq_true rfl⟩ rfl (Nat.le_of_ble_eq_true rfl) ⟨Nat.zero_le _, Nat.zero_le _⟩ ?_
    show V G M_X8_isRun X T 0 0 16 [some (iv x0), some (iv x1)] [iv v6] h4
    rcases if_e e with ⟨c8, e⟩ | ⟨c8, e⟩
    · refine V_if_eq 23 8 rfl (by decide +kernel) (fun _ => ?_) (fun q => absurd c8 q) 
      refine V_iconst (nI 0) 11 rfl ic_0 ?_
      cases e
      exact V_zret 12 rfl z_0 hR rfl
    · refine V_if_eq 23 8 rfl (by decide +kernel) (fun q => absurd q c8) (fun _ => ?_)
      refine V_iconst (nI 1) 9 rfl ic_1 ?_
      refine V_goto 24 10 rfl (by decide +kernel) ?_
      cases e
      exact V_zret 12 rfl z_1 hR rfl
set_option maxHeartbeats 4000000 in
theorem w_X8_lossed_65 {G : kG} {X : kX} {T : List kT} {r0 : Int32} {h0 : kH} (hR : k_R G M_X8_lossed X T 0 0 (some (iv r0)) h0) (K4 : Int32 × Int32 × Int32 × kH → Option (Int32 × kH)) (hK4 : ∀ (x1 : Int32) (x2 : Int32) (x3 : Int32) (h : kH), K4 (x1, x2, x3, h) = some (r0, h0) → V G M_X8_lossed X T 0 0 4 [some (rv (8, 99) 135), some (iv x1), some (iv x2), some (iv x3)] [] h) (x1 : Int32) (x3 : Int32) (s0 : Int32) (s1 : Int32) (h : kH) (e : p_X8_lossed_65 K4 x1 x3 s0 s1 h = some (r0, h0)) : V G M_X8_lossed X T 0 0 65 [some (rv (8, 99) 135), some (iv x1), none, some (iv x3)] [iv s0, iv s1] h := by
  unfold p_X8_lossed_65 at e
  refine V_iadd 39 rfl ?_
  refine V_istore_n 40 rfl (Nat.le_of_ble_eq_true rfl) rfl ?_
  refine le_V (P := fun v6 => V G M_X8_lossed X T 0 0 67 [some (rv (8, 99) 135), some (iv x1), some (iv v6), some (iv x3)] [] h) e (fun v6 e => ?_)
  refine V_iinc (x3 + (nI 1)) 41 rfl rfl (inc_1 _) (Nat.le_of_ble_eq_true rfl) rfl ?_
  show V G M_X8_lossed X T 0 0 70 [some (rv (8, 99) 135), some (iv x1), some (iv v6), some (iv (x3 + (nI 1)))] [] h
  refine V_goto 4 42 rfl (by decide +kernel) ?_
  refine V_msk [true, true, true, true] (lc' := [some (rv (8, 99) 135), some (iv x1), some (iv v6), some (iv (x3 + (nI 1)))]) rfl ?_
  exact hK4 x1 v6 (x3 + (nI 1)) h e
set_option maxHeartbeats 4000000 in
theorem w_X8_lossed_4 {G : kG} {X : kX} {T : List kT} {r0 : Int32} {h0 : kH} (hR : k_R G M_X8_lossed X T 0 0 (some (iv r0)) h0) (K4 : Int32 × Int32 × Int32 × kH → Option (Int32 × kH)) (hK4 : ∀ (x1 : Int32) (x2 : Int32) (x3 : Int32) (h : kH), K4 (x1, x2, x3, h) = some (r0, h0) → V G M_X8_lossed X T 0 0 4 [some (rv (8, 99) 135), some (iv x1), some (iv x2), some (iv x3)] [] h) (x1 : Int32) (x2 : Int32) (x3 : Int32) (h : kH) (e : p_X8_lossed_4 K4 x1 x2 x3 h = some (r0, h0)) : V G M_X8_lossed X T 0 0 4 [some (rv (8, 99) 135), some (iv x1), some (iv x2), some (iv x3)] [] h := by
  unfold p_X8_lossed_4 at e
  refine V_iload_n 4 rfl rfl ?_
  refine V_aload_n 5 rfl rfl ?_
  refine V_getR 138 6 rfl fr_RX8_17 ⟨Nat.le_of_ble_eq_true rfl, Or.inl (Nat.le_of_ble_eq_true rfl)⟩ rfl ?_
  refine V_iconst (nI 0) 7 rfl ic_0 ?_
  obtain ⟨g1, e⟩ := gd_e e
  refine V_iald 8 rfl g1 ?_
  rcases if_e e with ⟨c9, e⟩ | ⟨c9, e⟩
  · refine V_icmp_ge 73 9 rfl (by decide +kernel) (fun _ => ?_) (fun q => absurd c9 q) 
    refine V_iload_n 43 rfl rfl ?_
    cases e
    exact V_iret 44 rfl hR rfl
  · refine V_icmp_ge 73 9 rfl (by decide +kernel) (fun q => absurd q c9) (fun _ => ?_)
    refine V_iload_n 10 rfl rfl ?_
    refine V_iload_n 11 rfl rfl ?_
    rcases if_e e with ⟨c12, e⟩ | ⟨c12, e⟩
    · refine V_if_ne 44 12 rfl (by decide +kernel) (fun q => absurd c12 q) (fun _ => ?_)
      refine V_aload_n 13 rfl rfl ?_
      refine V_iconst (nI 3) 14 rfl ic_3 ?_
      refine V_iload_n 15 rfl rfl ?_
      obtain ⟨v9, h7, d8, e⟩ := bd2_e e
      refine V_callV (N := M_X8_lossOf) (av := [iv (nI 3), iv x3]) (st := [iv x2]) (r := some (iv v9)) (h' := h7) 16 rfl (c_X8_lossOf d8) g_X8_lossOf gv_X8_lossOf lk_RX8_136 ⟨Nat.le_of_ble_eq_true rfl, Nat.le_of_ble_eq_true rfl⟩ rfl rfl (Nat.le_of_ble_eq_true rfl) ⟨Nat.zero_le _, Nat.zero_le _⟩ ?_
      show V G M_X8_lossed X T 0 0 25 [some (rv (8, 99) 135), some (iv x1), some (iv x2), some (iv x3)] [iv v9, iv x2] h7
      refine V_i2l 17 rfl ?_
      refine V_lconst (1 : Int64) 18 rfl rfl ?_
      refine V_ldc2 (4 : Int64) 19 rfl kl_RX8_185 ?_
      obtain ⟨v12, h10, d11, e⟩ := bd2_e e
      refine V_callS (N := M_X8_in) (av := [jv (v9).toInt64, jv (1 : Int64), jv (4 : Int64)]) (st := [iv x2]) (r := some (iv v12)) (h' := h10) 20 rfl (c_X8_in d11) g_X8_in gs_X8_in lk_RX8_68 ⟨Nat.le_of_ble_eq_true rfl, Nat.le_of_ble_eq_true rfl⟩ rfl (Nat.le_of_ble_eq_true rfl) ⟨Nat.zero_le _, Nat.zero_le _⟩ ?_
      show V G M_X8_lossed X T 0 0 33 [some (rv (8, 99) 135), some (iv x1), some (iv x2), some (iv x3)] [iv v12, iv x2] h10
      rcases if_e e with ⟨c21, e⟩ | ⟨c21, e⟩
      · refine V_if_eq 40 21 rfl (by decide +kernel) (fun _ => ?_) (fun q => absurd c21 q) 
        refine V_iconst (nI 0) 24 rfl ic_0 ?_
        refine V_goto 65 25 rfl (by decide +kernel) ?_
        refine V_msk [true, true, false, true] (lc' := [some (rv (8, 99) 135), some (iv x1), none, some (iv x3)]) rfl ?_
        exact w_X8_lossed_65 hR K4 hK4 x1 x3 (nI 0) x2 h10 e
      · refine V_if_eq 40 21 rfl (by decide +kernel) (fun q => absurd q c21) (fun _ => ?_)
        refine V_iconst (nI 1) 22 rfl ic_1 ?_
        refine V_goto 65 23 rfl (by decide +kernel) ?_
        refine V_msk [true, true, false, true] (lc' := [some (rv (8, 99) 135), some (iv x1), none, some (iv x3)]) rfl ?_
        exact w_X8_lossed_65 hR K4 hK4 x1 x3 (nI 1) x2 h10 e
    · refine V_if_ne 44 12 rfl (by decide +kernel) (fun _ => ?_) (fun q => absurd q c12) 
      refine V_aload_n 26 rfl rfl ?_
      refine V_getR 143 27 rfl fr_RX8_32 ⟨Nat.le_of_ble_eq_true rfl, Or.inl (Nat.le_of_ble_eq_true rfl)⟩ rfl ?_
      refine V_iconst (nI 3) 28 rfl ic_3 ?_
      refine V_iload_n 29 rfl rfl ?_
      obtain ⟨v4, h2, d3, e⟩ := bd2_e e
      refine V_callS (N := M_X8_potAt) (av := [iv (nI 3), iv x3]) (st := [rv (9, 800) 143, iv x2]) (r := some (iv v4)) (h' := h2) 30 rfl (c_X8_potAt d3) g_X8_potAt gs_X8_potAt lk_RX8_120 ⟨Nat.le_of_ble_eq_true rfl, Nat.le_of_ble_eq_true rfl⟩ rfl (Nat.le_of_ble_eq_true rfl) ⟨Nat.zero_le _, Nat.zero_le _⟩ ?_
      show V G M_X8_lossed X T 0 0 53 [some (rv (8, 99) 135), some (iv x1), some (iv x2), some (iv x3)] [iv v4, rv (9, 800) 143, iv x2] h2
      refine V_iconst (nI 4) 31 rfl ic_4 ?_
      refine V_iadd 32 rfl ?_
      obtain ⟨g5, e⟩ := gd_e e
      refine V_iald 33 rfl g5 ?_
      refine V_iload_n 34 rfl rfl ?_
      rcases if_e e with ⟨c35, e⟩ | ⟨c35, e⟩
      · refine V_icmp_ne 64 35 rfl (by decide +kernel) (fun q => absurd c35 q) (fun _ => ?_)
        refine V_iconst (nI 1) 36 rfl ic_1 ?_
        refine V_goto 65 37 rfl (by decide +kernel) ?_
        refine V_msk [true, true, false, true] (lc' := [some (rv (8, 99) 135), some (iv x1), none, some (iv x3)]) rfl ?_
        exact w_X8_lossed_65 hR K4 hK4 x1 x3 (nI 1) x2 h2 e
      · refine V_icmp_ne 64 35 rfl (by decide +kernel) (fun _ => ?_) (fun q => absurd q c35) 
        refine V_iconst (nI 0) 38 rfl ic_0 ?_
        refine V_msk [true, true, false, true] (lc' := [some (rv (8, 99) 135), some (iv x1), none, some (iv x3)]) rfl ?_
        exact w_X8_lossed_65 hR K4 hK4 x1 x3 (nI 0) x2 h2 e
set_option maxHeartbeats 4000000 in
theorem c_X8_lossed {G : kG} {T : List kT} {x1 : Int32} {h : kH} {r0 : Int32} {h0 : kH} (e : p_X8_lossed x1 h = some (r0, h0)) : k_C G M_X8_lossed T [rv (8, 99) 135, iv x1] h (some (iv r0)) h0 := by
  refine k_C_of 2 (by decide +kernel) rfl tb_X8_lossed rfl (fun X hR => ?_)
  show V G M_X8_lossed X T 0 0 0 [some (rv (8, 99) 135), some (iv x1), none, none] [] h
  unfold p_X8_lossed at e
  refine V_iconst (nI 0) 0 rfl ic_0 ?_
  refine V_istore_n 1 rfl (Nat.le_of_ble_eq_true rfl) rfl ?_
  show V G M_X8_lossed X T 0 0 2 [some (rv (8, 99) 135), some (iv x1), some (iv (nI 0)), none] [] h
  refine V_iconst (nI 0) 2 rfl ic_0 ?_
  refine V_istore_n 3 rfl (Nat.le_of_ble_eq_true rfl) rfl ?_
  show V G M_X8_lossed X T 0 0 4 [some (rv (8, 99) 135), some (iv x1), some (iv (nI 0)), some (iv (nI 0))] [] h
  refine V_msk [true, true, true, true] (lc' := [some (rv (8, 99) 135), some (iv x1), some (iv (nI 0)), some (iv (nI 0))]) rfl ?_
  exact fx_e (P := fun s => V G M_X8_lossed X T 0 0 4 [some (rv (8, 99) 135), some (iv s.1), some (iv s.2.1), some (iv s.2.2.1)] [] s.2.2.2) (fun K4 hK4 s e => w_X8_lossed_4 hR K4 (fun x1 x2 x3 h e => hK4 (x1, x2, x3, h) e) s.1 s.2.1 s.2.2.1 s.2.2.2 e) FU (x1, (nI 0), (nI 0), h) e
set_option maxHeartbeats 4000000 in
theorem c_X8_run {G : kG} {T : List kT} {x1 : Int32} {x2 : Int32} {x3 : Int32} {h : kH} {r0 : Int32} {h0 : kH} (e : p_X8_run x1 x2 x3 h = some (r0, h0)) : k_C G M_X8_run T [rv (8, 99) 135, iv x1, iv x2, iv x3] h (some (iv r0)) h0 := by
  refine k_C_of 1 (by decide +kernel) rfl tb_X8_run rfl (fun X hR => ?_)
  show V G M_X8_run X T 0 0 0 [some (rv (8, 99) 135), some (iv x1), some (iv x2), some (iv x3), none] [] h
  unfold p_X8_run at e
  refine V_iload_n 0 rfl rfl ?_
  refine V_iload_n 1 rfl rfl ?_
  obtain ⟨v3, h1, d2, e⟩ := bd2_e e
  refine V_callS (N := M_X8_isRun) (av := [iv x1, iv x2]) (st := []) (r := some (iv v3)) (h' := h1) 2 rfl (c_X8_isRun d2) g_X8_isRun gs_X8_isRun lk_RX8_187 ⟨Nat.le_of_ble_eq_true rfl, Nat.le_of_ble_eq_true rfl⟩ rfl (Nat.le_of_ble_eq_true rfl) ⟨Nat.zero_le _, Nat.zero_le _⟩ ?_
  show V G M_X8_run X T 0 0 5 [some (rv (8, 99) 135), some (iv x1), some (iv x2), some (iv x3), none] [iv v3] h1
  rcases if_e e with ⟨c3, e⟩ | ⟨c3, e⟩
  · refine V_if_eq 18 3 rfl (by decide +kernel) (fun _ => ?_) (fun q => absurd c3 q) 
    refine V_iconst (-1 : Int32) 10 rfl ic_m1 ?_
    cases e
    exact V_iret 11 rfl hR rfl
  · refine V_if_eq 18 3 rfl (by decide +kernel) (fun q => absurd q c3) (fun _ => ?_)
    refine V_iload_n 4 rfl rfl ?_
    refine V_i2l 5 rfl ?_
    refine V_lconst (0 : Int64) 6 rfl rfl ?_
    refine V_lconst (1 : Int64) 7 rfl rfl ?_
    obtain ⟨v6, h4, d5, e⟩ := bd2_e e
    refine V_callS (N := M_X8_in) (av := [jv (x3).toInt64, jv (0 : Int64), jv (1 : Int64)]) (st := []) (r := some (iv v6)) (h' := h4) 8 rfl (c_X8_in d5) g_X8_in gs_X8_in lk_RX8_68 ⟨Nat.le_of_ble_eq_true rfl, Nat.le_of_ble_eq_true rfl⟩ rfl (Nat.le_of_ble_eq_true rfl) ⟨Nat.zero_le _, Nat.zero_le _⟩ ?_
    show V G M_X8_run X T 0 0 15 [some (rv (8, 99) 135), some (iv x1), some (iv x2), some (iv x3), none] [iv v6] h4
    rcases if_e e with ⟨c9, e⟩ | ⟨c9, e⟩
    · refine V_if_ne 20 9 rfl (by decide +kernel) (fun q => absurd c9 q) (fun _ => ?_)
      refine V_iconst (-1 : Int32) 10 rfl ic_m1 ?_
      cases e
      exact V_iret 11 rfl hR rfl
    · refine V_if_ne 20 9 rfl (by decide +kernel) (fun _ => ?_) (fun q => absurd q c9) 
      refine V_aload_n 12 rfl rfl ?_
      obtain ⟨h7, d8, e⟩ := bd_e e
      refine V_callV (N := M_X8_tries) (av := []) (st := []) (r := none) (h' := h7) 13 rfl (c_X8_tries d8) g_X8_tries gv_X8_tries lk_RX8_190 ⟨Nat.le_of_ble_eq_true rfl, Nat.le_of_ble_eq_true rfl⟩ rfl rfl (Nat.le_of_ble_eq_true rfl) ⟨Nat.zero_le _, Nat.zero_le _⟩ ?_
      show V G M_X8_run X T 0 0 24 [some (rv (8, 99) 135), some (iv x1), some (iv x2), some (iv x3), none] [] h7
      refine V_aload_n 14 rfl rfl ?_
      refine V_iload_n 15 rfl rfl ?_
      refine V_iload_n 16 rfl rfl ?_
      obtain ⟨v11, h9, d10, e⟩ := bd2_e e
      refine V_callV (N := M_X8_runs) (av := [iv x1, iv x2]) (st := []) (r := some (iv v11)) (h' := h9) 17 rfl (c_X8_runs d10) g_X8_runs gv_X8_runs lk_RX8_193 ⟨Nat.le_of_ble_eq_true rfl, Nat.le_of_ble_eq_true rfl⟩ rfl rfl (Nat.le_of_ble_eq_true rfl) ⟨Nat.zero_le _, Nat.zero_le _⟩ ?_
      show V G M_X8_run X T 0 0 30 [some (rv (8, 99) 135), some (iv x1), some (iv x2), some (iv x3), none] [iv v11] h9
      refine V_istore 18 rfl (Nat.le_of_ble_eq_true rfl) rfl ?_
      show V G M_X8_run X T 0 0 32 [some (rv (8, 99) 135), some (iv x1), some (iv x2), some (iv x3), some (iv v11)] [] h9
      refine V_iload_n 19 rfl rfl ?_
      rcases if_e e with ⟨c20, e⟩ | ⟨c20, e⟩
      · refine V_if_ne 41 20 rfl (by decide +kernel) (fun q => absurd c20 q) (fun _ => ?_)
        refine V_iload 21 rfl rfl ?_
        refine V_goto 46 22 rfl (by decide +kernel) ?_
        cases e
        exact V_iret 26 rfl hR rfl
      · refine V_if_ne 41 20 rfl (by decide +kernel) (fun _ => ?_) (fun q => absurd q c20) 
        refine V_aload_n 23 rfl rfl ?_
        refine V_iconst (nI 0) 24 rfl ic_0 ?_
        obtain ⟨v14, h12, d13, e⟩ := bd2_e e
        refine V_callV (N := M_X8_lossed) (av := [iv (nI 0)]) (st := []) (r := some (iv v14)) (h' := h12) 25 rfl (c_X8_lossed d13) g_X8_lossed gv_X8_lossed lk_RX8_196 ⟨Nat.le_of_ble_eq_true rfl, Nat.le_of_ble_eq_true rfl⟩ rfl rfl (Nat.le_of_ble_eq_true rfl) ⟨Nat.zero_le _, Nat.zero_le _⟩ ?_
        show V G M_X8_run X T 0 0 46 [some (rv (8, 99) 135), some (iv x1), some (iv x2), some (iv x3), some (iv v11)] [iv v14] h12
        cases e
        exact V_iret 26 rfl hR rfl
set_option maxHeartbeats 4000000 in
theorem c_X8_of {G : kG} {T : List kT} {x1 : Int32} {x2 : Int32} {x3 : Int32} {x4 : Int32} {h : kH} {r0 : Int32} {h0 : kH} (e : p_X8_of x1 x2 x3 x4 h = some (r0, h0)) : k_C G M_X8_of T [rv (8, 99) 135, iv x1, iv x2, iv x3, iv x4] h (some (iv r0)) h0 := by
  refine k_C_of 2 (by decide +kernel) rfl tb_X8_of rfl (fun X hR => ?_)
  show V G M_X8_of X T 0 0 0 [some (rv (8, 99) 135), some (iv x1), some (iv x2), some (iv x3), some (iv x4), none, none] [] h
  unfold p_X8_of at e
  refine V_iload_n 0 rfl rfl ?_
  refine V_iload_n 1 rfl rfl ?_
  obtain ⟨v3, h1, d2, e⟩ := bd2_e e
  refine V_callS (N := M_X8_isRun) (av := [iv x1, iv x2]) (st := []) (r := some (iv v3)) (h' := h1) 2 rfl (c_X8_isRun d2) g_X8_isRun gs_X8_isRun lk_RX8_187 ⟨Nat.le_of_ble_eq_true rfl, Nat.le_of_ble_eq_true rfl⟩ rfl (Nat.le_of_ble_eq_true rfl) ⟨Nat.zero_le _, Nat.zero_le _⟩ ?_
  show V G M_X8_of X T 0 0 5 [some (rv (8, 99) 135), some (iv x1), some (iv x2), some (iv x3), some (iv x4), none, none] [iv v3] h1
  rcases if_e e with ⟨c3, e⟩ | ⟨c3, e⟩
  · refine V_if_eq 29 3 rfl (by decide +kernel) (fun _ => ?_) (fun q => absurd c3 q) 
    refine V_iconst (-1 : Int32) 14 rfl ic_m1 ?_
    cases e
    exact V_iret 15 rfl hR rfl
  · refine V_if_eq 29 3 rfl (by decide +kernel) (fun q => absurd q c3) (fun _ => ?_)
    refine V_aload_n 4 rfl rfl ?_
    refine V_iload_n 5 rfl rfl ?_
    obtain ⟨v6, h4, d5, e⟩ := bd2_e e
    refine V_callV (N := M_X8_isPot) (av := [iv x3]) (st := []) (r := some (iv v6)) (h' := h4) 6 rfl (c_X8_isPot d5) g_X8_isPot gv_X8_isPot lk_RX8_133 ⟨Nat.le_of_ble_eq_true rfl, Nat.le_of_ble_eq_true rfl⟩ rfl rfl (Nat.le_of_ble_eq_true rfl) ⟨Nat.zero_le _, Nat.zero_le _⟩ ?_
    show V G M_X8_of X T 0 0 13 [some (rv (8, 99) 135), some (iv x1), some (iv x2), some (iv x3), some (iv x4), none, none] [iv v6] h4
    rcases if_e e with ⟨c7, e⟩ | ⟨c7, e⟩
    · refine V_if_eq 29 7 rfl (by decide +kernel) (fun _ => ?_) (fun q => absurd c7 q) 
      refine V_iconst (-1 : Int32) 14 rfl ic_m1 ?_
      cases e
      exact V_iret 15 rfl hR rfl
    · refine V_if_eq 29 7 rfl (by decide +kernel) (fun q => absurd q c7) (fun _ => ?_)
      refine V_iload 8 rfl rfl ?_
      refine V_i2l 9 rfl ?_
      refine V_lconst (0 : Int64) 10 rfl rfl ?_
      refine V_ldc2 (3 : Int64) 11 rfl kl_RX8_83 ?_
      obtain ⟨v9, h7, d8, e⟩ := bd2_e e
      refine V_callS (N := M_X8_in) (av := [jv (x4).toInt64, jv (0 : Int64), jv (3 : Int64)]) (st := []) (r := some (iv v9)) (h' := h7) 12 rfl (c_X8_in d8) g_X8_in gs_X8_in lk_RX8_68 ⟨Nat.le_of_ble_eq_true rfl, Nat.le_of_ble_eq_true rfl⟩ rfl (Nat.le_of_ble_eq_true rfl) ⟨Nat.zero_le _, Nat.zero_le _⟩ ?_
      show V G M_X8_of X T 0 0 26 [some (rv (8, 99) 135), some (iv x1), some (iv x2), some (iv x3), some (iv x4), none, none] [iv v9] h7
      rcases if_e e with ⟨c13, e⟩ | ⟨c13, e⟩
      · refine V_if_ne 31 13 rfl (by decide +kernel) (fun q => absurd c13 q) (fun _ => ?_)
        refine V_iconst (-1 : Int32) 14 rfl ic_m1 ?_
        cases e
        exact V_iret 15 rfl hR rfl
      · refine V_if_ne 31 13 rfl (by decide +kernel) (fun _ => ?_) (fun q => absurd q c13) 
        refine V_aload_n 16 rfl rfl ?_
        obtain ⟨h10, d11, e⟩ := bd_e e
        refine V_callV (N := M_X8_tries) (av := []) (st := []) (r := none) (h' := h10) 17 rfl (c_X8_tries d11) g_X8_tries gv_X8_tries lk_RX8_190 ⟨Nat.le_of_ble_eq_true rfl, Nat.le_of_ble_eq_true rfl⟩ rfl rfl (Nat.le_of_ble_eq_true rfl) ⟨Nat.zero_le _, Nat.zero_le _⟩ ?_
        show V G M_X8_of X T 0 0 35 [some (rv (8, 99) 135), some (iv x1), some (iv x2), some (iv x3), some (iv x4), none, none] [] h10
        refine V_aload_n 18 rfl rfl ?_
        refine V_iload_n 19 rfl rfl ?_
        refine V_iload_n 20 rfl rfl ?_
        obtain ⟨v14, h12, d13, e⟩ := bd2_e e
        refine V_callV (N := M_X8_runs) (av := [iv x1, iv x2]) (st := []) (r := some (iv v14)) (h' := h12) 21 rfl (c_X8_runs d13) g_X8_runs gv_X8_runs lk_RX8_193 ⟨Nat.le_of_ble_eq_true rfl, Nat.le_of_ble_eq_true rfl⟩ rfl rfl (Nat.le_of_ble_eq_true rfl) ⟨Nat.zero_le _, Nat.zero_le _⟩ ?_
        show V G M_X8_of X T 0 0 41 [some (rv (8, 99) 135), some (iv x1), some (iv x2), some (iv x3), some (iv x4), none, none] [iv v14] h12
        refine V_istore 22 rfl (Nat.le_of_ble_eq_true rfl) rfl ?_
        show V G M_X8_of X T 0 0 43 [some (rv (8, 99) 135), some (iv x1), some (iv x2), some (iv x3), some (iv x4), some (iv v14), none] [] h12
        refine V_iconst (nI 3) 23 rfl ic_3 ?_
        refine V_iload_n 24 rfl rfl ?_
        obtain ⟨v17, h15, d16, e⟩ := bd2_e e
        refine V_callS (N := M_X8_potAt) (av := [iv (nI 3), iv x3]) (st := []) (r := some (iv v17)) (h' := h15) 25 rfl (c_X8_potAt d16) g_X8_potAt gs_X8_potAt lk_RX8_120 ⟨Nat.le_of_ble_eq_true rfl, Nat.le_of_ble_eq_true rfl⟩ rfl (Nat.le_of_ble_eq_true rfl) ⟨Nat.zero_le _, Nat.zero_le _⟩ ?_
        show V G M_X8_of X T 0 0 48 [some (rv (8, 99) 135), some (iv x1), some (iv x2), some (iv x3), some (iv x4), some (iv v14), none] [iv v17] h15
        refine V_istore 26 rfl (Nat.le_of_ble_eq_true rfl) rfl ?_
        show V G M_X8_of X T 0 0 50 [some (rv (8, 99) 135), some (iv x1), some (iv x2), some (iv x3), some (iv x4), some (iv v14), some (iv v17)] [] h15
        refine V_iload 27 rfl rfl ?_
        rcases if_e e with ⟨c28, e⟩ | ⟨c28, e⟩
        · refine V_if_ge 59 28 rfl (by decide +kernel) (fun _ => ?_) (fun q => absurd c28 q) 
          refine V_iload 31 rfl rfl ?_
          rcases if_e e with ⟨c32, e⟩ | ⟨c32, e⟩
          · refine V_if_ne 73 32 rfl (by decide +kernel) (fun q => absurd c32 q) (fun _ => ?_)
            refine V_aload_n 33 rfl rfl ?_
            refine V_iconst (nI 3) 34 rfl ic_3 ?_
            refine V_iload_n 35 rfl rfl ?_
            obtain ⟨v23, h21, d22, e⟩ := bd2_e e
            refine V_callV (N := M_X8_lossOf) (av := [iv (nI 3), iv x3]) (st := []) (r := some (iv v23)) (h' := h21) 36 rfl (c_X8_lossOf d22) g_X8_lossOf gv_X8_lossOf lk_RX8_136 ⟨Nat.le_of_ble_eq_true rfl, Nat.le_of_ble_eq_true rfl⟩ rfl rfl (Nat.le_of_ble_eq_true rfl) ⟨Nat.zero_le _, Nat.zero_le _⟩ ?_
            show V G M_X8_of X T 0 0 70 [some (rv (8, 99) 135), some (iv x1), some (iv x2), some (iv x3), some (iv x4), some (iv v14), some (iv v17)] [iv v23] h21
            refine V_goto 115 37 rfl (by decide +kernel) ?_
            cases e
            exact V_iret 62 rfl hR rfl
          · refine V_if_ne 73 32 rfl (by decide +kernel) (fun _ => ?_) (fun q => absurd q c32) 
            refine V_iload 38 rfl rfl ?_
            refine V_iconst (nI 1) 39 rfl ic_1 ?_
            rcases if_e e with ⟨c40, e⟩ | ⟨c40, e⟩
            · refine V_icmp_ne 88 40 rfl (by decide +kernel) (fun q => absurd c40 q) (fun _ => ?_)
              refine V_aload_n 41 rfl rfl ?_
              refine V_getR 146 42 rfl fr_RX8_41 ⟨Nat.le_of_ble_eq_true rfl, Or.inl (Nat.le_of_ble_eq_true rfl)⟩ rfl ?_
              refine V_iload_n 43 rfl rfl ?_
              obtain ⟨g20, e⟩ := gd_e e
              refine V_iald 44 rfl g20 ?_
              refine V_goto 115 45 rfl (by decide +kernel) ?_
              cases e
              exact V_iret 62 rfl hR rfl
            · refine V_icmp_ne 88 40 rfl (by decide +kernel) (fun _ => ?_) (fun q => absurd q c40) 
              refine V_iload 46 rfl rfl ?_
              refine V_iconst (nI 2) 47 rfl ic_2 ?_
              rcases if_e e with ⟨c48, e⟩ | ⟨c48, e⟩
              · refine V_icmp_ne 106 48 rfl (by decide +kernel) (fun q => absurd c48 q) (fun _ => ?_)
                refine V_aload_n 49 rfl rfl ?_
                refine V_getR 143 50 rfl fr_RX8_32 ⟨Nat.le_of_ble_eq_true rfl, Or.inl (Nat.le_of_ble_eq_true rfl)⟩ rfl ?_
                refine V_iload 51 rfl rfl ?_
                refine V_iconst (nI 5) 52 rfl ic_5 ?_
                refine V_iadd 53 rfl ?_
                obtain ⟨g19, e⟩ := gd_e e
                refine V_iald 54 rfl g19 ?_
                refine V_goto 115 55 rfl (by decide +kernel) ?_
                cases e
                exact V_iret 62 rfl hR rfl
              · refine V_icmp_ne 106 48 rfl (by decide +kernel) (fun _ => ?_) (fun q => absurd q c48) 
                refine V_aload_n 56 rfl rfl ?_
                refine V_getR 143 57 rfl fr_RX8_32 ⟨Nat.le_of_ble_eq_true rfl, Or.inl (Nat.le_of_ble_eq_true rfl)⟩ rfl ?_
                refine V_iload 58 rfl rfl ?_
                refine V_iconst (nI 3) 59 rfl ic_3 ?_
                refine V_iadd 60 rfl ?_
                obtain ⟨g18, e⟩ := gd_e e
                refine V_iald 61 rfl g18 ?_
                cases e
                exact V_iret 62 rfl hR rfl
        · refine V_if_ge 59 28 rfl (by decide +kernel) (fun q => absurd q c28) (fun _ => ?_)
          refine V_iconst (-1 : Int32) 29 rfl ic_m1 ?_
          refine V_goto 115 30 rfl (by decide +kernel) ?_
          cases e
          exact V_iret 62 rfl hR rfl
set_option maxHeartbeats 4000000 in
theorem w_X8_drying_12 {G : kG} {X : kX} {T : List kT} {r0 : Int32} {h0 : kH} (hR : k_R G M_X8_drying X T 0 0 (some (iv r0)) h0) (K12 : Int32 × Int32 × Int32 × kH → Option (Int32 × kH)) (hK12 : ∀ (x1 : Int32) (x2 : Int32) (x3 : Int32) (h : kH), K12 (x1, x2, x3, h) = some (r0, h0) → V G M_X8_drying X T 0 0 12 [some (rv (8, 99) 135), some (iv x1), some (iv x2), some (iv x3), none, none] [] h) (x1 : Int32) (x2 : Int32) (x3 : Int32) (h : kH) (e : p_X8_drying_12 K12 x1 x2 x3 h = some (r0, h0)) : V G M_X8_drying X T 0 0 12 [some (rv (8, 99) 135), some (iv x1), some (iv x2), some (iv x3), none, none] [] h := by
  unfold p_X8_drying_12 at e
  refine V_iload_n 8 rfl rfl ?_
  refine V_sipush (nI 240) 9 rfl sp_240 ?_
  rcases if_e e with ⟨c10, e⟩ | ⟨c10, e⟩
  · refine V_icmp_gt 72 10 rfl (by decide +kernel) (fun _ => ?_) (fun q => absurd c10 q) 
    refine V_bipush (-4 : Int32) 40 rfl bp_m4 ?_
    cases e
    exact V_iret 41 rfl hR rfl
  · refine V_icmp_gt 72 10 rfl (by decide +kernel) (fun q => absurd q c10) (fun _ => ?_)
    refine V_aload_n 11 rfl rfl ?_
    obtain ⟨h4, d5, e⟩ := bd_e e
    refine V_callV (N := M_X8_tries) (av := []) (st := []) (r := none) (h' := h4) 12 rfl (c_X8_tries d5) g_X8_tries gv_X8_tries lk_RX8_190 ⟨Nat.le_of_ble_eq_true rfl, Nat.le_of_ble_eq_true rfl⟩ rfl rfl (Nat.le_of_ble_eq_true rfl) ⟨Nat.zero_le _, Nat.zero_le _⟩ ?_
    show V G M_X8_drying X T 0 0 23 [some (rv (8, 99) 135), some (iv x1), some (iv x2), some (iv x3), none, none] [] h4
    refine V_aload_n 13 rfl rfl ?_
    refine V_iconst (nI 1) 14 rfl ic_1 ?_
    obtain ⟨v8, h6, d7, e⟩ := bd2_e e
    refine V_callV (N := M_X8_lossed) (av := [iv (nI 1)]) (st := []) (r := some (iv v8)) (h' := h6) 15 rfl (c_X8_lossed d7) g_X8_lossed gv_X8_lossed lk_RX8_196 ⟨Nat.le_of_ble_eq_true rfl, Nat.le_of_ble_eq_true rfl⟩ rfl rfl (Nat.le_of_ble_eq_true rfl) ⟨Nat.zero_le _, Nat.zero_le _⟩ ?_
    show V G M_X8_drying X T 0 0 28 [some (rv (8, 99) 135), some (iv x1), some (iv x2), some (iv x3), none, none] [iv v8] h6
    refine V_istore 16 rfl (Nat.le_of_ble_eq_true rfl) rfl ?_
    show V G M_X8_drying X T 0 0 30 [some (rv (8, 99) 135), some (iv x1), some (iv x2), some (iv x3), some (iv v8), none] [] h6
    refine V_aload_n 17 rfl rfl ?_
    refine V_iconst (nI 3) 18 rfl ic_3 ?_
    refine V_iload_n 19 rfl rfl ?_
    obtain ⟨v11, h9, d10, e⟩ := bd2_e e
    refine V_callV (N := M_X8_dries) (av := [iv (nI 3), iv x3]) (st := []) (r := some (iv v11)) (h' := h9) 20 rfl (c_X8_dries d10) g_X8_dries gv_X8_dries lk_RX8_173 ⟨Nat.le_of_ble_eq_true rfl, Nat.le_of_ble_eq_true rfl⟩ rfl rfl (Nat.le_of_ble_eq_true rfl) ⟨Nat.zero_le _, Nat.zero_le _⟩ ?_
    show V G M_X8_drying X T 0 0 36 [some (rv (8, 99) 135), some (iv x1), some (iv x2), some (iv x3), some (iv v8), none] [iv v11] h9
    refine V_istore 21 rfl (Nat.le_of_ble_eq_true rfl) rfl ?_
    show V G M_X8_drying X T 0 0 38 [some (rv (8, 99) 135), some (iv x1), some (iv x2), some (iv x3), some (iv v8), some (iv v11)] [] h9
    refine V_iload 22 rfl rfl ?_
    refine V_aload_n 23 rfl rfl ?_
    refine V_iload_n 24 rfl rfl ?_
    refine V_iload_n 25 rfl rfl ?_
    obtain ⟨v14, h12, d13, e⟩ := bd2_e e
    refine V_callV (N := M_X8_runs) (av := [iv x1, iv x2]) (st := [iv v11]) (r := some (iv v14)) (h' := h12) 26 rfl (c_X8_runs d13) g_X8_runs gv_X8_runs lk_RX8_193 ⟨Nat.le_of_ble_eq_true rfl, Nat.le_of_ble_eq_true rfl⟩ rfl rfl (Nat.le_of_ble_eq_true rfl) ⟨Nat.zero_le _, Nat.zero_le _⟩ ?_
    show V G M_X8_drying X T 0 0 46 [some (rv (8, 99) 135), some (iv x1), some (iv x2), some (iv x3), some (iv v8), some (iv v11)] [iv v14, iv v11] h12
    refine V_iadd 27 rfl ?_
    refine V_istore 28 rfl (Nat.le_of_ble_eq_true rfl) rfl ?_
    refine le_V (P := fun v15 => V G M_X8_drying X T 0 0 49 [some (rv (8, 99) 135), some (iv x1), some (iv x2), some (iv x3), some (iv v8), some (iv v15)] [] h12) e (fun v15 e => ?_)
    refine V_iload 29 rfl rfl ?_
    rcases if_e e with ⟨c30, e⟩ | ⟨c30, e⟩
    · refine V_if_lt 66 30 rfl (by decide +kernel) (fun _ => ?_) (fun q => absurd c30 q) 
      refine V_iinc (x3 + (nI 1)) 38 rfl rfl (inc_1 _) (Nat.le_of_ble_eq_true rfl) rfl ?_
      show V G M_X8_drying X T 0 0 69 [some (rv (8, 99) 135), some (iv x1), some (iv x2), some (iv (x3 + (nI 1))), some (iv v8), some (iv v15)] [] h12
      refine V_goto 12 39 rfl (by decide +kernel) ?_
      refine V_msk [true, true, true, true, false, false] (lc' := [some (rv (8, 99) 135), some (iv x1), some (iv x2), some (iv (x3 + (nI 1))), none, none]) rfl ?_
      exact hK12 x1 x2 (x3 + (nI 1)) h12 e
    · refine V_if_lt 66 30 rfl (by decide +kernel) (fun q => absurd q c30) (fun _ => ?_)
      refine V_aload_n 31 rfl rfl ?_
      refine V_iconst (nI 1) 32 rfl ic_1 ?_
      obtain ⟨v18, h16, d17, e⟩ := bd2_e e
      refine V_callV (N := M_X8_lossed) (av := [iv (nI 1)]) (st := []) (r := some (iv v18)) (h' := h16) 33 rfl (c_X8_lossed d17) g_X8_lossed gv_X8_lossed lk_RX8_196 ⟨Nat.le_of_ble_eq_true rfl, Nat.le_of_ble_eq_true rfl⟩ rfl rfl (Nat.le_of_ble_eq_true rfl) ⟨Nat.zero_le _, Nat.zero_le _⟩ ?_
      show V G M_X8_drying X T 0 0 59 [some (rv (8, 99) 135), some (iv x1), some (iv x2), some (iv x3), some (iv v8), some (iv v15)] [iv v18] h16
      refine V_iload 34 rfl rfl ?_
      rcases if_e e with ⟨c35, e⟩ | ⟨c35, e⟩
      · refine V_icmp_ne 66 35 rfl (by decide +kernel) (fun q => absurd c35 q) (fun _ => ?_)
        refine V_iload_n 36 rfl rfl ?_
        cases e
        exact V_iret 37 rfl hR rfl
      · refine V_icmp_ne 66 35 rfl (by decide +kernel) (fun _ => ?_) (fun q => absurd q c35) 
        refine V_iinc (x3 + (nI 1)) 38 rfl rfl (inc_1 _) (Nat.le_of_ble_eq_true rfl) rfl ?_
        show V G M_X8_drying X T 0 0 69 [some (rv (8, 99) 135), some (iv x1), some (iv x2), some (iv (x3 + (nI 1))), some (iv v8), some (iv v15)] [] h16
        refine V_goto 12 39 rfl (by decide +kernel) ?_
        refine V_msk [true, true, true, true, false, false] (lc' := [some (rv (8, 99) 135), some (iv x1), some (iv x2), some (iv (x3 + (nI 1))), none, none]) rfl ?_
        exact hK12 x1 x2 (x3 + (nI 1)) h16 e
set_option maxHeartbeats 4000000 in
theorem c_X8_drying {G : kG} {T : List kT} {x1 : Int32} {x2 : Int32} {h : kH} {r0 : Int32} {h0 : kH} (e : p_X8_drying x1 x2 h = some (r0, h0)) : k_C G M_X8_drying T [rv (8, 99) 135, iv x1, iv x2] h (some (iv r0)) h0 := by
  refine k_C_of 3 (by decide +kernel) rfl tb_X8_drying rfl (fun X hR => ?_)
  show V G M_X8_drying X T 0 0 0 [some (rv (8, 99) 135), some (iv x1), some (iv x2), none, none, none] [] h
  unfold p_X8_drying at e
  refine V_iload_n 0 rfl rfl ?_
  refine V_iload_n 1 rfl rfl ?_
  obtain ⟨v3, h1, d2, e⟩ := bd2_e e
  refine V_callS (N := M_X8_isRun) (av := [iv x1, iv x2]) (st := []) (r := some (iv v3)) (h' := h1) 2 rfl (c_X8_isRun d2) g_X8_isRun gs_X8_isRun lk_RX8_187 ⟨Nat.le_of_ble_eq_true rfl, Nat.le_of_ble_eq_true rfl⟩ rfl (Nat.le_of_ble_eq_true rfl) ⟨Nat.zero_le _, Nat.zero_le _⟩ ?_
  show V G M_X8_drying X T 0 0 5 [some (rv (8, 99) 135), some (iv x1), some (iv x2), none, none, none] [iv v3] h1
  rcases if_e e with ⟨c3, e⟩ | ⟨c3, e⟩
  · refine V_if_ne 10 3 rfl (by decide +kernel) (fun q => absurd c3 q) (fun _ => ?_)
    refine V_iconst (-1 : Int32) 4 rfl ic_m1 ?_
    cases e
    exact V_iret 5 rfl hR rfl
  · refine V_if_ne 10 3 rfl (by decide +kernel) (fun _ => ?_) (fun q => absurd q c3) 
    refine V_iconst (nI 0) 6 rfl ic_0 ?_
    refine V_istore_n 7 rfl (Nat.le_of_ble_eq_true rfl) rfl ?_
    show V G M_X8_drying X T 0 0 12 [some (rv (8, 99) 135), some (iv x1), some (iv x2), some (iv (nI 0)), none, none] [] h1
    refine V_msk [true, true, true, true, false, false] (lc' := [some (rv (8, 99) 135), some (iv x1), some (iv x2), some (iv (nI 0)), none, none]) rfl ?_
    exact fx_e (P := fun s => V G M_X8_drying X T 0 0 12 [some (rv (8, 99) 135), some (iv s.1), some (iv s.2.1), some (iv s.2.2.1), none, none] [] s.2.2.2) (fun K12 hK12 s e => w_X8_drying_12 hR K12 (fun x1 x2 x3 h e => hK12 (x1, x2, x3, h) e) s.1 s.2.1 s.2.2.1 s.2.2.2 e) FU (x1, x2, (nI 0), h1) e
set_option maxHeartbeats 4000000 in
theorem w_X8_grit_28 {G : kG} {X : kX} {T : List kT} {r0 : Int32} {h0 : kH} (hR : k_R G M_X8_grit X T 0 0 (some (iv r0)) h0) (K28 : Int32 × Int32 × Int32 × Int32 × Int32 × Int32 × kH → Option (Int32 × kH)) (hK28 : ∀ (x1 : Int32) (x2 : Int32) (x3 : Int32) (x4 : Int32) (x5 : Int32) (x6 : Int32) (h : kH), K28 (x1, x2, x3, x4, x5, x6, h) = some (r0, h0) → V G M_X8_grit X T 0 0 28 [some (rv (8, 99) 135), some (iv x1), some (iv x2), some (iv x3), some (iv x4), some (iv x5), some (iv x6), none, none] [] h) (x1 : Int32) (x2 : Int32) (x3 : Int32) (x4 : Int32) (x5 : Int32) (x6 : Int32) (h : kH) (e : p_X8_grit_28 K28 x1 x2 x3 x4 x5 x6 h = some (r0, h0)) : V G M_X8_grit X T 0 0 28 [some (rv (8, 99) 135), some (iv x1), some (iv x2), some (iv x3), some (iv x4), some (iv x5), some (iv x6), none, none] [] h := by
  unfold p_X8_grit_28 at e
  refine V_iload 16 rfl rfl ?_
  refine V_bipush (nI 10) 17 rfl bp_10 ?_
  rcases if_e e with ⟨c18, e⟩ | ⟨c18, e⟩
  · refine V_icmp_ge 111 18 rfl (by decide +kernel) (fun _ => ?_) (fun q => absurd c18 q) 
    refine V_iload 60 rfl rfl ?_
    cases e
    exact V_iret 61 rfl hR rfl
  · refine V_icmp_ge 111 18 rfl (by decide +kernel) (fun q => absurd q c18) (fun _ => ?_)
    refine V_aload_n 19 rfl rfl ?_
    obtain ⟨h7, d8, e⟩ := bd_e e
    refine V_callV (N := M_X8_tries) (av := []) (st := []) (r := none) (h' := h7) 20 rfl (c_X8_tries d8) g_X8_tries gv_X8_tries lk_RX8_190 ⟨Nat.le_of_ble_eq_true rfl, Nat.le_of_ble_eq_true rfl⟩ rfl rfl (Nat.le_of_ble_eq_true rfl) ⟨Nat.zero_le _, Nat.zero_le _⟩ ?_
    show V G M_X8_grit X T 0 0 39 [some (rv (8, 99) 135), some (iv x1), some (iv x2), some (iv x3), some (iv x4), some (iv x5), some (iv x6), none, none] [] h7
    refine V_aload_n 21 rfl rfl ?_
    refine V_getR 143 22 rfl fr_RX8_32 ⟨Nat.le_of_ble_eq_true rfl, Or.inl (Nat.le_of_ble_eq_true rfl)⟩ rfl ?_
    refine V_iconst (nI 3) 23 rfl ic_3 ?_
    refine V_iload_n 24 rfl rfl ?_
    obtain ⟨v11, h9, d10, e⟩ := bd2_e e
    refine V_callS (N := M_X8_potAt) (av := [iv (nI 3), iv x1]) (st := [rv (9, 800) 143]) (r := some (iv v11)) (h' := h9) 25 rfl (c_X8_potAt d10) g_X8_potAt gs_X8_potAt lk_RX8_120 ⟨Nat.le_of_ble_eq_true rfl, Nat.le_of_ble_eq_true rfl⟩ rfl (Nat.le_of_ble_eq_true rfl) ⟨Nat.zero_le _, Nat.zero_le _⟩ ?_
    show V G M_X8_grit X T 0 0 48 [some (rv (8, 99) 135), some (iv x1), some (iv x2), some (iv x3), some (iv x4), some (iv x5), some (iv x6), none, none] [iv v11, rv (9, 800) 143] h9
    refine V_bipush (nI 7) 26 rfl bp_7 ?_
    refine V_iadd 27 rfl ?_
    refine V_iload 28 rfl rfl ?_
    obtain ⟨g12, e⟩ := gd_e e
    refine V_iast 29 rfl g12 ?_
    refine le_V (P := fun h13 => V G M_X8_grit X T 0 0 54 [some (rv (8, 99) 135), some (iv x1), some (iv x2), some (iv x3), some (iv x4), some (iv x5), some (iv x6), none, none] [] h13) e (fun h13 e => ?_)
    refine V_aload_n 30 rfl rfl ?_
    refine V_iload_n 31 rfl rfl ?_
    refine V_iload_n 32 rfl rfl ?_
    obtain ⟨v16, h14, d15, e⟩ := bd2_e e
    refine V_callV (N := M_X8_runs) (av := [iv x2, iv x3]) (st := []) (r := some (iv v16)) (h' := h14) 33 rfl (c_X8_runs d15) g_X8_runs gv_X8_runs lk_RX8_193 ⟨Nat.le_of_ble_eq_true rfl, Nat.le_of_ble_eq_true rfl⟩ rfl rfl (Nat.le_of_ble_eq_true rfl) ⟨Nat.zero_le _, Nat.zero_le _⟩ ?_
    show V G M_X8_grit X T 0 0 60 [some (rv (8, 99) 135), some (iv x1), some (iv x2), some (iv x3), some (iv x4), some (iv x5), some (iv x6), none, none] [iv v16] h14
    refine V_istore 34 rfl (Nat.le_of_ble_eq_true rfl) rfl ?_
    show V G M_X8_grit X T 0 0 62 [some (rv (8, 99) 135), some (iv x1), some (iv x2), some (iv x3), some (iv x4), some (iv x5), some (iv x6), some (iv v16), none] [] h14
    refine V_aload_n 35 rfl rfl ?_
    refine V_getR 143 36 rfl fr_RX8_32 ⟨Nat.le_of_ble_eq_true rfl, Or.inl (Nat.le_of_ble_eq_true rfl)⟩ rfl ?_
    refine V_iconst (nI 3) 37 rfl ic_3 ?_
    refine V_iload_n 38 rfl rfl ?_
    obtain ⟨v19, h17, d18, e⟩ := bd2_e e
    refine V_callS (N := M_X8_potAt) (av := [iv (nI 3), iv x1]) (st := [rv (9, 800) 143]) (r := some (iv v19)) (h' := h17) 39 rfl (c_X8_potAt d18) g_X8_potAt gs_X8_potAt lk_RX8_120 ⟨Nat.le_of_ble_eq_true rfl, Nat.le_of_ble_eq_true rfl⟩ rfl (Nat.le_of_ble_eq_true rfl) ⟨Nat.zero_le _, Nat.zero_le _⟩ ?_
    show V G M_X8_grit X T 0 0 71 [some (rv (8, 99) 135), some (iv x1), some (iv x2), some (iv x3), some (iv x4), some (iv x5), some (iv x6), some (iv v16), none] [iv v19, rv (9, 800) 143] h17
    refine V_iconst (nI 3) 40 rfl ic_3 ?_
    refine V_iadd 41 rfl ?_
    obtain ⟨g20, e⟩ := gd_e e
    refine V_iald 42 rfl g20 ?_
    refine V_istore 43 rfl (Nat.le_of_ble_eq_true rfl) rfl ?_
    refine le_V (P := fun v21 => V G M_X8_grit X T 0 0 76 [some (rv (8, 99) 135), some (iv x1), some (iv x2), some (iv x3), some (iv x4), some (iv x5), some (iv x6), some (iv v16), some (iv v21)] [] h17) e (fun v21 e => ?_)
    refine V_iload 44 rfl rfl ?_
    rcases if_e e with ⟨c45, e⟩ | ⟨c45, e⟩
    · refine V_if_le 105 45 rfl (by decide +kernel) (fun _ => ?_) (fun q => absurd c45 q) 
      refine V_iinc (x6 + (nI 1)) 58 rfl rfl (inc_1 _) (Nat.le_of_ble_eq_true rfl) rfl ?_
      show V G M_X8_grit X T 0 0 108 [some (rv (8, 99) 135), some (iv x1), some (iv x2), some (iv x3), some (iv x4), some (iv x5), some (iv (x6 + (nI 1))), some (iv v16), some (iv v21)] [] h17
      refine V_goto 28 59 rfl (by decide +kernel) ?_
      refine V_msk [true, true, true, true, true, true, true, false, false] (lc' := [some (rv (8, 99) 135), some (iv x1), some (iv x2), some (iv x3), some (iv x4), some (iv x5), some (iv (x6 + (nI 1))), none, none]) rfl ?_
      exact hK28 x1 x2 x3 x4 x5 (x6 + (nI 1)) h17 e
    · refine V_if_le 105 45 rfl (by decide +kernel) (fun q => absurd q c45) (fun _ => ?_)
      refine V_aload_n 46 rfl rfl ?_
      refine V_iconst (nI 3) 47 rfl ic_3 ?_
      refine V_iload_n 48 rfl rfl ?_
      obtain ⟨v24, h22, d23, e⟩ := bd2_e e
      refine V_callV (N := M_X8_lossOf) (av := [iv (nI 3), iv x1]) (st := []) (r := some (iv v24)) (h' := h22) 49 rfl (c_X8_lossOf d23) g_X8_lossOf gv_X8_lossOf lk_RX8_136 ⟨Nat.le_of_ble_eq_true rfl, Nat.le_of_ble_eq_true rfl⟩ rfl rfl (Nat.le_of_ble_eq_true rfl) ⟨Nat.zero_le _, Nat.zero_le _⟩ ?_
      show V G M_X8_grit X T 0 0 87 [some (rv (8, 99) 135), some (iv x1), some (iv x2), some (iv x3), some (iv x4), some (iv x5), some (iv x6), some (iv v16), some (iv v21)] [iv v24] h22
      rcases if_e e with ⟨c50, e⟩ | ⟨c50, e⟩
      · refine V_if_ne 105 50 rfl (by decide +kernel) (fun q => absurd c50 q) (fun _ => ?_)
        refine V_iload 51 rfl rfl ?_
        refine V_iload 52 rfl rfl ?_
        rcases if_e e with ⟨c53, e⟩ | ⟨c53, e⟩
        · refine V_icmp_le 105 53 rfl (by decide +kernel) (fun _ => ?_) (fun q => absurd c53 q) 
          refine V_iinc (x6 + (nI 1)) 58 rfl rfl (inc_1 _) (Nat.le_of_ble_eq_true rfl) rfl ?_
          show V G M_X8_grit X T 0 0 108 [some (rv (8, 99) 135), some (iv x1), some (iv x2), some (iv x3), some (iv x4), some (iv x5), some (iv (x6 + (nI 1))), some (iv v16), some (iv v21)] [] h22
          refine V_goto 28 59 rfl (by decide +kernel) ?_
          refine V_msk [true, true, true, true, true, true, true, false, false] (lc' := [some (rv (8, 99) 135), some (iv x1), some (iv x2), some (iv x3), some (iv x4), some (iv x5), some (iv (x6 + (nI 1))), none, none]) rfl ?_
          exact hK28 x1 x2 x3 x4 x5 (x6 + (nI 1)) h22 e
        · refine V_icmp_le 105 53 rfl (by decide +kernel) (fun q => absurd q c53) (fun _ => ?_)
          refine V_iload 54 rfl rfl ?_
          refine V_istore 55 rfl (Nat.le_of_ble_eq_true rfl) rfl ?_
          show V G M_X8_grit X T 0 0 101 [some (rv (8, 99) 135), some (iv x1), some (iv x2), some (iv x3), some (iv x6), some (iv x5), some (iv x6), some (iv v16), some (iv v21)] [] h22
          refine V_iload 56 rfl rfl ?_
          refine V_istore 57 rfl (Nat.le_of_ble_eq_true rfl) rfl ?_
          show V G M_X8_grit X T 0 0 105 [some (rv (8, 99) 135), some (iv x1), some (iv x2), some (iv x3), some (iv x6), some (iv v21), some (iv x6), some (iv v16), some (iv v21)] [] h22
          refine V_iinc (x6 + (nI 1)) 58 rfl rfl (inc_1 _) (Nat.le_of_ble_eq_true rfl) rfl ?_
          show V G M_X8_grit X T 0 0 108 [some (rv (8, 99) 135), some (iv x1), some (iv x2), some (iv x3), some (iv x6), some (iv v21), some (iv (x6 + (nI 1))), some (iv v16), some (iv v21)] [] h22
          refine V_goto 28 59 rfl (by decide +kernel) ?_
          refine V_msk [true, true, true, true, true, true, true, false, false] (lc' := [some (rv (8, 99) 135), some (iv x1), some (iv x2), some (iv x3), some (iv x6), some (iv v21), some (iv (x6 + (nI 1))), none, none]) rfl ?_
          exact hK28 x1 x2 x3 x6 v21 (x6 + (nI 1)) h22 e
      · refine V_if_ne 105 50 rfl (by decide +kernel) (fun _ => ?_) (fun q => absurd q c50) 
        refine V_iinc (x6 + (nI 1)) 58 rfl rfl (inc_1 _) (Nat.le_of_ble_eq_true rfl) rfl ?_
        show V G M_X8_grit X T 0 0 108 [some (rv (8, 99) 135), some (iv x1), some (iv x2), some (iv x3), some (iv x4), some (iv x5), some (iv (x6 + (nI 1))), some (iv v16), some (iv v21)] [] h22
        refine V_goto 28 59 rfl (by decide +kernel) ?_
        refine V_msk [true, true, true, true, true, true, true, false, false] (lc' := [some (rv (8, 99) 135), some (iv x1), some (iv x2), some (iv x3), some (iv x4), some (iv x5), some (iv (x6 + (nI 1))), none, none]) rfl ?_
        exact hK28 x1 x2 x3 x4 x5 (x6 + (nI 1)) h22 e
set_option maxHeartbeats 4000000 in
theorem c_X8_grit {G : kG} {T : List kT} {x1 : Int32} {x2 : Int32} {x3 : Int32} {h : kH} {r0 : Int32} {h0 : kH} (e : p_X8_grit x1 x2 x3 h = some (r0, h0)) : k_C G M_X8_grit T [rv (8, 99) 135, iv x1, iv x2, iv x3] h (some (iv r0)) h0 := by
  refine k_C_of 5 (by decide +kernel) rfl tb_X8_grit rfl (fun X hR => ?_)
  show V G M_X8_grit X T 0 0 0 [some (rv (8, 99) 135), some (iv x1), some (iv x2), some (iv x3), none, none, none, none, none] [] h
  unfold p_X8_grit at e
  refine V_aload_n 0 rfl rfl ?_
  refine V_iload_n 1 rfl rfl ?_
  obtain ⟨v3, h1, d2, e⟩ := bd2_e e
  refine V_callV (N := M_X8_isPot) (av := [iv x1]) (st := []) (r := some (iv v3)) (h' := h1) 2 rfl (c_X8_isPot d2) g_X8_isPot gv_X8_isPot lk_RX8_133 ⟨Nat.le_of_ble_eq_true rfl, Nat.le_of_ble_eq_true rfl⟩ rfl rfl (Nat.le_of_ble_eq_true rfl) ⟨Nat.zero_le _, Nat.zero_le _⟩ ?_
  show V G M_X8_grit X T 0 0 5 [some (rv (8, 99) 135), some (iv x1), some (iv x2), some (iv x3), none, none, none, none, none] [iv v3] h1
  rcases if_e e with ⟨c3, e⟩ | ⟨c3, e⟩
  · refine V_if_eq 16 3 rfl (by decide +kernel) (fun _ => ?_) (fun q => absurd c3 q) 
    refine V_iconst (-1 : Int32) 8 rfl ic_m1 ?_
    cases e
    exact V_iret 9 rfl hR rfl
  · refine V_if_eq 16 3 rfl (by decide +kernel) (fun q => absurd q c3) (fun _ => ?_)
    refine V_iload_n 4 rfl rfl ?_
    refine V_iload_n 5 rfl rfl ?_
    obtain ⟨v6, h4, d5, e⟩ := bd2_e e
    refine V_callS (N := M_X8_isRun) (av := [iv x2, iv x3]) (st := []) (r := some (iv v6)) (h' := h4) 6 rfl (c_X8_isRun d5) g_X8_isRun gs_X8_isRun lk_RX8_187 ⟨Nat.le_of_ble_eq_true rfl, Nat.le_of_ble_eq_true rfl⟩ rfl (Nat.le_of_ble_eq_true rfl) ⟨Nat.zero_le _, Nat.zero_le _⟩ ?_
    show V G M_X8_grit X T 0 0 13 [some (rv (8, 99) 135), some (iv x1), some (iv x2), some (iv x3), none, none, none, none, none] [iv v6] h4
    rcases if_e e with ⟨c7, e⟩ | ⟨c7, e⟩
    · refine V_if_ne 18 7 rfl (by decide +kernel) (fun q => absurd c7 q) (fun _ => ?_)
      refine V_iconst (-1 : Int32) 8 rfl ic_m1 ?_
      cases e
      exact V_iret 9 rfl hR rfl
    · refine V_if_ne 18 7 rfl (by decide +kernel) (fun _ => ?_) (fun q => absurd q c7) 
      refine V_bipush (-4 : Int32) 10 rfl bp_m4 ?_
      refine V_istore 11 rfl (Nat.le_of_ble_eq_true rfl) rfl ?_
      show V G M_X8_grit X T 0 0 22 [some (rv (8, 99) 135), some (iv x1), some (iv x2), some (iv x3), some (iv (-4 : Int32)), none, none, none, none] [] h4
      refine V_iconst (-1 : Int32) 12 rfl ic_m1 ?_
      refine V_istore 13 rfl (Nat.le_of_ble_eq_true rfl) rfl ?_
      show V G M_X8_grit X T 0 0 25 [some (rv (8, 99) 135), some (iv x1), some (iv x2), some (iv x3), some (iv (-4 : Int32)), some (iv (-1 : Int32)), none, none, none] [] h4
      refine V_iconst (nI 0) 14 rfl ic_0 ?_
      refine V_istore 15 rfl (Nat.le_of_ble_eq_true rfl) rfl ?_
      show V G M_X8_grit X T 0 0 28 [some (rv (8, 99) 135), some (iv x1), some (iv x2), some (iv x3), some (iv (-4 : Int32)), some (iv (-1 : Int32)), some (iv (nI 0)), none, none] [] h4
      refine V_msk [true, true, true, true, true, true, true, false, false] (lc' := [some (rv (8, 99) 135), some (iv x1), some (iv x2), some (iv x3), some (iv (-4 : Int32)), some (iv (-1 : Int32)), some (iv (nI 0)), none, none]) rfl ?_
      exact fx_e (P := fun s => V G M_X8_grit X T 0 0 28 [some (rv (8, 99) 135), some (iv s.1), some (iv s.2.1), some (iv s.2.2.1), some (iv s.2.2.2.1), some (iv s.2.2.2.2.1), some (iv s.2.2.2.2.2.1), none, none] [] s.2.2.2.2.2.2) (fun K28 hK28 s e => w_X8_grit_28 hR K28 (fun x1 x2 x3 x4 x5 x6 h e => hK28 (x1, x2, x3, x4, x5, x6, h) e) s.1 s.2.1 s.2.2.1 s.2.2.2.1 s.2.2.2.2.1 s.2.2.2.2.2.1 s.2.2.2.2.2.2 e) FU (x1, x2, x3, (-4 : Int32), (-1 : Int32), (nI 0), h4) e
set_option maxHeartbeats 4000000 in
theorem w_X8_enough_41 {G : kG} {X : kX} {T : List kT} {r0 : Int32} {h0 : kH} (hR : k_R G M_X8_enough X T 0 0 (some (iv r0)) h0) (K26 : Int32 × Int32 × Int32 × Int32 × kH → Option (Int32 × kH)) (K41 : Int32 × Int32 × Int32 × Int32 × Int32 × kH → Option (Int32 × kH)) (hK26 : ∀ (x1 : Int32) (x2 : Int32) (x3 : Int32) (x4 : Int32) (h : kH), K26 (x1, x2, x3, x4, h) = some (r0, h0) → V G M_X8_enough X T 0 0 26 [some (rv (8, 99) 135), some (iv x1), some (iv x2), some (iv x3), some (iv x4), none] [] h) (hK41 : ∀ (x1 : Int32) (x2 : Int32) (x3 : Int32) (x4 : Int32) (x5 : Int32) (h : kH), K41 (x1, x2, x3, x4, x5, h) = some (r0, h0) → V G M_X8_enough X T 0 0 41 [some (rv (8, 99) 135), some (iv x1), some (iv x2), some (iv x3), some (iv x4), some (iv x5)] [] h) (x1 : Int32) (x2 : Int32) (x3 : Int32) (x4 : Int32) (x5 : Int32) (h : kH) (e : p_X8_enough_41 K26 K41 x1 x2 x3 x4 x5 h = some (r0, h0)) : V G M_X8_enough X T 0 0 41 [some (rv (8, 99) 135), some (iv x1), some (iv x2), some (iv x3), some (iv x4), some (iv x5)] [] h := by
  unfold p_X8_enough_41 at e
  refine V_iload 21 rfl rfl ?_
  refine V_aload_n 22 rfl rfl ?_
  obtain ⟨v11, h9, d10, e⟩ := bd2_e e
  refine V_callV (N := M_X8_cells) (av := []) (st := [iv x5]) (r := some (iv v11)) (h' := h9) 23 rfl (c_X8_cells d10) g_X8_cells gv_X8_cells lk_RX8_104 ⟨Nat.le_of_ble_eq_true rfl, Nat.le_of_ble_eq_true rfl⟩ rfl rfl (Nat.le_of_ble_eq_true rfl) ⟨Nat.zero_le _, Nat.zero_le _⟩ ?_
  show V G M_X8_enough X T 0 0 47 [some (rv (8, 99) 135), some (iv x1), some (iv x2), some (iv x3), some (iv x4), some (iv x5)] [iv v11, iv x5] h9
  rcases if_e e with ⟨c24, e⟩ | ⟨c24, e⟩
  · refine V_icmp_ge 83 24 rfl (by decide +kernel) (fun _ => ?_) (fun q => absurd c24 q) 
    refine V_aload_n 43 rfl rfl ?_
    refine V_iload_n 44 rfl rfl ?_
    refine V_iload_n 45 rfl rfl ?_
    obtain ⟨v14, h12, d13, e⟩ := bd2_e e
    refine V_callV (N := M_X8_runs) (av := [iv x2, iv x3]) (st := []) (r := some (iv v14)) (h' := h12) 46 rfl (c_X8_runs d13) g_X8_runs gv_X8_runs lk_RX8_193 ⟨Nat.le_of_ble_eq_true rfl, Nat.le_of_ble_eq_true rfl⟩ rfl rfl (Nat.le_of_ble_eq_true rfl) ⟨Nat.zero_le _, Nat.zero_le _⟩ ?_
    show V G M_X8_enough X T 0 0 89 [some (rv (8, 99) 135), some (iv x1), some (iv x2), some (iv x3), some (iv x4), some (iv x5)] [iv v14] h12
    refine V_iload_n 47 rfl rfl ?_
    rcases if_e e with ⟨c48, e⟩ | ⟨c48, e⟩
    · refine V_icmp_lt 96 48 rfl (by decide +kernel) (fun _ => ?_) (fun q => absurd c48 q) 
      refine V_iinc (x4 + (nI 10)) 51 rfl rfl (inc_10 _) (Nat.le_of_ble_eq_true rfl) rfl ?_
      show V G M_X8_enough X T 0 0 99 [some (rv (8, 99) 135), some (iv x1), some (iv x2), some (iv x3), some (iv (x4 + (nI 10))), some (iv x5)] [] h12
      refine V_goto 26 52 rfl (by decide +kernel) ?_
      refine V_msk [true, true, true, true, true, false] (lc' := [some (rv (8, 99) 135), some (iv x1), some (iv x2), some (iv x3), some (iv (x4 + (nI 10))), none]) rfl ?_
      exact hK26 x1 x2 x3 (x4 + (nI 10)) h12 e
    · refine V_icmp_lt 96 48 rfl (by decide +kernel) (fun q => absurd q c48) (fun _ => ?_)
      refine V_iload 49 rfl rfl ?_
      cases e
      exact V_iret 50 rfl hR rfl
  · refine V_icmp_ge 83 24 rfl (by decide +kernel) (fun q => absurd q c24) (fun _ => ?_)
    refine V_aload_n 25 rfl rfl ?_
    refine V_getR 143 26 rfl fr_RX8_32 ⟨Nat.le_of_ble_eq_true rfl, Or.inl (Nat.le_of_ble_eq_true rfl)⟩ rfl ?_
    refine V_sipush (nI 630) 27 rfl sp_630 ?_
    refine V_iload 28 rfl rfl ?_
    refine V_iadd 29 rfl ?_
    refine V_aload_n 30 rfl rfl ?_
    refine V_getR 143 31 rfl fr_RX8_32 ⟨Nat.le_of_ble_eq_true rfl, Or.inl (Nat.le_of_ble_eq_true rfl)⟩ rfl ?_
    refine V_bipush (nI 30) 32 rfl bp_30 ?_
    refine V_iload 33 rfl rfl ?_
    refine V_iadd 34 rfl ?_
    obtain ⟨g15, e⟩ := gd_e e
    refine V_iald 35 rfl g15 ?_
    refine V_iload 36 rfl rfl ?_
    refine V_imul 37 rfl ?_
    refine V_bipush (nI 100) 38 rfl bp_100 ?_
    refine V_idiv 39 rfl (by decide +kernel) ?_
    obtain ⟨g16, e⟩ := gd_e e
    refine V_iast 40 rfl g16 ?_
    refine le_V (P := fun h17 => V G M_X8_enough X T 0 0 77 [some (rv (8, 99) 135), some (iv x1), some (iv x2), some (iv x3), some (iv x4), some (iv x5)] [] h17) e (fun h17 e => ?_)
    refine V_iinc (x5 + (nI 1)) 41 rfl rfl (inc_1 _) (Nat.le_of_ble_eq_true rfl) rfl ?_
    show V G M_X8_enough X T 0 0 80 [some (rv (8, 99) 135), some (iv x1), some (iv x2), some (iv x3), some (iv x4), some (iv (x5 + (nI 1)))] [] h17
    refine V_goto 41 42 rfl (by decide +kernel) ?_
    refine V_msk [true, true, true, true, true, true] (lc' := [some (rv (8, 99) 135), some (iv x1), some (iv x2), some (iv x3), some (iv x4), some (iv (x5 + (nI 1)))]) rfl ?_
    exact hK41 x1 x2 x3 x4 (x5 + (nI 1)) h17 e
set_option maxHeartbeats 4000000 in
theorem w_X8_enough_26 {G : kG} {X : kX} {T : List kT} {r0 : Int32} {h0 : kH} (hR : k_R G M_X8_enough X T 0 0 (some (iv r0)) h0) (K26 : Int32 × Int32 × Int32 × Int32 × kH → Option (Int32 × kH)) (hK26 : ∀ (x1 : Int32) (x2 : Int32) (x3 : Int32) (x4 : Int32) (h : kH), K26 (x1, x2, x3, x4, h) = some (r0, h0) → V G M_X8_enough X T 0 0 26 [some (rv (8, 99) 135), some (iv x1), some (iv x2), some (iv x3), some (iv x4), none] [] h) (x1 : Int32) (x2 : Int32) (x3 : Int32) (x4 : Int32) (h : kH) (e : p_X8_enough_26 K26 x1 x2 x3 x4 h = some (r0, h0)) : V G M_X8_enough X T 0 0 26 [some (rv (8, 99) 135), some (iv x1), some (iv x2), some (iv x3), some (iv x4), none] [] h := by
  unfold p_X8_enough_26 at e
  refine V_iload 14 rfl rfl ?_
  refine V_sipush (nI 200) 15 rfl sp_200 ?_
  rcases if_e e with ⟨c16, e⟩ | ⟨c16, e⟩
  · refine V_icmp_gt 102 16 rfl (by decide +kernel) (fun _ => ?_) (fun q => absurd c16 q) 
    refine V_bipush (-4 : Int32) 53 rfl bp_m4 ?_
    cases e
    exact V_iret 54 rfl hR rfl
  · refine V_icmp_gt 102 16 rfl (by decide +kernel) (fun q => absurd q c16) (fun _ => ?_)
    refine V_aload_n 17 rfl rfl ?_
    obtain ⟨h7, d8, e⟩ := bd_e e
    refine V_callV (N := M_X8_tries) (av := []) (st := []) (r := none) (h' := h7) 18 rfl (c_X8_tries d8) g_X8_tries gv_X8_tries lk_RX8_190 ⟨Nat.le_of_ble_eq_true rfl, Nat.le_of_ble_eq_true rfl⟩ rfl rfl (Nat.le_of_ble_eq_true rfl) ⟨Nat.zero_le _, Nat.zero_le _⟩ ?_
    show V G M_X8_enough X T 0 0 38 [some (rv (8, 99) 135), some (iv x1), some (iv x2), some (iv x3), some (iv x4), none] [] h7
    refine V_iconst (nI 0) 19 rfl ic_0 ?_
    refine V_istore 20 rfl (Nat.le_of_ble_eq_true rfl) rfl ?_
    show V G M_X8_enough X T 0 0 41 [some (rv (8, 99) 135), some (iv x1), some (iv x2), some (iv x3), some (iv x4), some (iv (nI 0))] [] h7
    refine V_msk [true, true, true, true, true, true] (lc' := [some (rv (8, 99) 135), some (iv x1), some (iv x2), some (iv x3), some (iv x4), some (iv (nI 0))]) rfl ?_
    exact fx_e (P := fun s => V G M_X8_enough X T 0 0 41 [some (rv (8, 99) 135), some (iv s.1), some (iv s.2.1), some (iv s.2.2.1), some (iv s.2.2.2.1), some (iv s.2.2.2.2.1)] [] s.2.2.2.2.2) (fun K41 hK41 s e => w_X8_enough_41 hR K26 K41 hK26 (fun x1 x2 x3 x4 x5 h e => hK41 (x1, x2, x3, x4, x5, h) e) s.1 s.2.1 s.2.2.1 s.2.2.2.1 s.2.2.2.2.1 s.2.2.2.2.2 e) FU (x1, x2, x3, x4, (nI 0), h7) e
set_option maxHeartbeats 4000000 in
theorem c_X8_enough {G : kG} {T : List kT} {x1 : Int32} {x2 : Int32} {x3 : Int32} {h : kH} {r0 : Int32} {h0 : kH} (e : p_X8_enough x1 x2 x3 h = some (r0, h0)) : k_C G M_X8_enough T [rv (8, 99) 135, iv x1, iv x2, iv x3] h (some (iv r0)) h0 := by
  refine k_C_of 2 (by decide +kernel) rfl tb_X8_enough rfl (fun X hR => ?_)
  show V G M_X8_enough X T 0 0 0 [some (rv (8, 99) 135), some (iv x1), some (iv x2), some (iv x3), none, none] [] h
  unfold p_X8_enough at e
  refine V_iload_n 0 rfl rfl ?_
  refine V_i2l 1 rfl ?_
  refine V_lconst (1 : Int64) 2 rfl rfl ?_
  refine V_ldc2 (6 : Int64) 3 rfl kl_RX8_199 ?_
  obtain ⟨v3, h1, d2, e⟩ := bd2_e e
  refine V_callS (N := M_X8_in) (av := [jv (x1).toInt64, jv (1 : Int64), jv (6 : Int64)]) (st := []) (r := some (iv v3)) (h' := h1) 4 rfl (c_X8_in d2) g_X8_in gs_X8_in lk_RX8_68 ⟨Nat.le_of_ble_eq_true rfl, Nat.le_of_ble_eq_true rfl⟩ rfl (Nat.le_of_ble_eq_true rfl) ⟨Nat.zero_le _, Nat.zero_le _⟩ ?_
  show V G M_X8_enough X T 0 0 9 [some (rv (8, 99) 135), some (iv x1), some (iv x2), some (iv x3), none, none] [iv v3] h1
  rcases if_e e with ⟨c5, e⟩ | ⟨c5, e⟩
  · refine V_if_eq 20 5 rfl (by decide +kernel) (fun _ => ?_) (fun q => absurd c5 q) 
    refine V_iconst (-1 : Int32) 10 rfl ic_m1 ?_
    cases e
    exact V_iret 11 rfl hR rfl
  · refine V_if_eq 20 5 rfl (by decide +kernel) (fun q => absurd q c5) (fun _ => ?_)
    refine V_iload_n 6 rfl rfl ?_
    refine V_iload_n 7 rfl rfl ?_
    obtain ⟨v6, h4, d5, e⟩ := bd2_e e
    refine V_callS (N := M_X8_isRun) (av := [iv x2, iv x3]) (st := []) (r := some (iv v6)) (h' := h4) 8 rfl (c_X8_isRun d5) g_X8_isRun gs_X8_isRun lk_RX8_187 ⟨Nat.le_of_ble_eq_true rfl, Nat.le_of_ble_eq_true rfl⟩ rfl (Nat.le_of_ble_eq_true rfl) ⟨Nat.zero_le _, Nat.zero_le _⟩ ?_
    show V G M_X8_enough X T 0 0 17 [some (rv (8, 99) 135), some (iv x1), some (iv x2), some (iv x3), none, none] [iv v6] h4
    rcases if_e e with ⟨c9, e⟩ | ⟨c9, e⟩
    · refine V_if_ne 22 9 rfl (by decide +kernel) (fun q => absurd c9 q) (fun _ => ?_)
      refine V_iconst (-1 : Int32) 10 rfl ic_m1 ?_
      cases e
      exact V_iret 11 rfl hR rfl
    · refine V_if_ne 22 9 rfl (by decide +kernel) (fun _ => ?_) (fun q => absurd q c9) 
      refine V_bipush (nI 10) 12 rfl bp_10 ?_
      refine V_istore 13 rfl (Nat.le_of_ble_eq_true rfl) rfl ?_
      show V G M_X8_enough X T 0 0 26 [some (rv (8, 99) 135), some (iv x1), some (iv x2), some (iv x3), some (iv (nI 10)), none] [] h4
      refine V_msk [true, true, true, true, true, false] (lc' := [some (rv (8, 99) 135), some (iv x1), some (iv x2), some (iv x3), some (iv (nI 10)), none]) rfl ?_
      exact fx_e (P := fun s => V G M_X8_enough X T 0 0 26 [some (rv (8, 99) 135), some (iv s.1), some (iv s.2.1), some (iv s.2.2.1), some (iv s.2.2.2.1), none] [] s.2.2.2.2) (fun K26 hK26 s e => w_X8_enough_26 hR K26 (fun x1 x2 x3 x4 h e => hK26 (x1, x2, x3, x4, h) e) s.1 s.2.1 s.2.2.1 s.2.2.2.1 s.2.2.2.2 e) FU (x1, x2, x3, (nI 10), h4) e
set_option maxHeartbeats 4000000 in
theorem w_X8_spot_12 {G : kG} {X : kX} {T : List kT} {r0 : Int32} {h0 : kH} (hR : k_R G M_X8_spot X T 0 0 (some (iv r0)) h0) (K12 : Int32 × Int32 × kH → Option (Int32 × kH)) (hK12 : ∀ (x1 : Int32) (x2 : Int32) (h : kH), K12 (x1, x2, h) = some (r0, h0) → V G M_X8_spot X T 0 0 12 [some (rv (8, 99) 135), some (iv x1), some (iv x2)] [] h) (x1 : Int32) (x2 : Int32) (h : kH) (e : p_X8_spot_12 K12 x1 x2 h = some (r0, h0)) : V G M_X8_spot X T 0 0 12 [some (rv (8, 99) 135), some (iv x1), some (iv x2)] [] h := by
  unfold p_X8_spot_12 at e
  refine V_iload_n 8 rfl rfl ?_
  refine V_aload_n 9 rfl rfl ?_
  refine V_getI 10 rfl fi_RX8_107 ?_
  rcases if_e e with ⟨c11, e⟩ | ⟨c11, e⟩
  · refine V_icmp_ge 39 11 rfl (by decide +kernel) (fun _ => ?_) (fun q => absurd c11 q) 
    refine V_aload_n 22 rfl rfl ?_
    refine V_getI 23 rfl fi_RX8_107 ?_
    refine V_bipush (nI 6) 24 rfl bp_6 ?_
    rcases if_e e with ⟨c25, e⟩ | ⟨c25, e⟩
    · refine V_icmp_ne 51 25 rfl (by decide +kernel) (fun q => absurd c25 q) (fun _ => ?_)
      refine V_bipush (-3 : Int32) 26 rfl bp_m3 ?_
      cases e
      exact V_iret 27 rfl hR rfl
    · refine V_icmp_ne 51 25 rfl (by decide +kernel) (fun _ => ?_) (fun q => absurd q c25) 
      refine V_aload_n 28 rfl rfl ?_
      refine V_getR 144 29 rfl fr_RX8_35 ⟨Nat.le_of_ble_eq_true rfl, Or.inl (Nat.le_of_ble_eq_true rfl)⟩ rfl ?_
      refine V_aload_n 30 rfl rfl ?_
      refine V_getI 31 rfl fi_RX8_107 ?_
      refine V_iload_n 32 rfl rfl ?_
      obtain ⟨g4, e⟩ := gd_e e
      refine V_iast 33 rfl g4 ?_
      refine le_V (P := fun h5 => V G M_X8_spot X T 0 0 61 [some (rv (8, 99) 135), some (iv x1), some (iv x2)] [] h5) e (fun h5 e => ?_)
      refine V_aload_n 34 rfl rfl ?_
      refine V_dup 35 rfl nj_r ?_
      refine V_getI 36 rfl fi_RX8_107 ?_
      refine V_iconst (nI 1) 37 rfl ic_1 ?_
      refine V_iadd 38 rfl ?_
      refine V_putI 39 rfl fi_RX8_107 ?_
      refine le_V (P := fun h6 => V G M_X8_spot X T 0 0 71 [some (rv (8, 99) 135), some (iv x1), some (iv x2)] [] h6) e (fun h6 e => ?_)
      refine V_aload_n 40 rfl rfl ?_
      refine V_getI 41 rfl fi_RX8_107 ?_
      cases e
      exact V_iret 42 rfl hR rfl
  · refine V_icmp_ge 39 11 rfl (by decide +kernel) (fun q => absurd q c11) (fun _ => ?_)
    refine V_aload_n 12 rfl rfl ?_
    refine V_getR 144 13 rfl fr_RX8_35 ⟨Nat.le_of_ble_eq_true rfl, Or.inl (Nat.le_of_ble_eq_true rfl)⟩ rfl ?_
    refine V_iload_n 14 rfl rfl ?_
    obtain ⟨g7, e⟩ := gd_e e
    refine V_iald 15 rfl g7 ?_
    refine V_iload_n 16 rfl rfl ?_
    rcases if_e e with ⟨c17, e⟩ | ⟨c17, e⟩
    · refine V_icmp_ne 33 17 rfl (by decide +kernel) (fun q => absurd c17 q) (fun _ => ?_)
      refine V_bipush (-2 : Int32) 18 rfl bp_m2 ?_
      cases e
      exact V_iret 19 rfl hR rfl
    · refine V_icmp_ne 33 17 rfl (by decide +kernel) (fun _ => ?_) (fun q => absurd q c17) 
      refine V_iinc (x2 + (nI 1)) 20 rfl rfl (inc_1 _) (Nat.le_of_ble_eq_true rfl) rfl ?_
      show V G M_X8_spot X T 0 0 36 [some (rv (8, 99) 135), some (iv x1), some (iv (x2 + (nI 1)))] [] h
      refine V_goto 12 21 rfl (by decide +kernel) ?_
      refine V_msk [true, true, true] (lc' := [some (rv (8, 99) 135), some (iv x1), some (iv (x2 + (nI 1)))]) rfl ?_
      exact hK12 x1 (x2 + (nI 1)) h e
set_option maxHeartbeats 4000000 in
theorem c_X8_spot {G : kG} {T : List kT} {x1 : Int32} {h : kH} {r0 : Int32} {h0 : kH} (e : p_X8_spot x1 h = some (r0, h0)) : k_C G M_X8_spot T [rv (8, 99) 135, iv x1] h (some (iv r0)) h0 := by
  refine k_C_of 1 (by decide +kernel) rfl tb_X8_spot rfl (fun X hR => ?_)
  show V G M_X8_spot X T 0 0 0 [some (rv (8, 99) 135), some (iv x1), none] [] h
  unfold p_X8_spot at e
  refine V_aload_n 0 rfl rfl ?_
  refine V_iload_n 1 rfl rfl ?_
  obtain ⟨v3, h1, d2, e⟩ := bd2_e e
  refine V_callV (N := M_X8_isCell) (av := [iv x1]) (st := []) (r := some (iv v3)) (h' := h1) 2 rfl (c_X8_isCell d2) g_X8_isCell gv_X8_isCell lk_RX8_124 ⟨Nat.le_of_ble_eq_true rfl, Nat.le_of_ble_eq_true rfl⟩ rfl rfl (Nat.le_of_ble_eq_true rfl) ⟨Nat.zero_le _, Nat.zero_le _⟩ ?_
  show V G M_X8_spot X T 0 0 5 [some (rv (8, 99) 135), some (iv x1), none] [iv v3] h1
  rcases if_e e with ⟨c3, e⟩ | ⟨c3, e⟩
  · refine V_if_ne 10 3 rfl (by decide +kernel) (fun q => absurd c3 q) (fun _ => ?_)
    refine V_iconst (-1 : Int32) 4 rfl ic_m1 ?_
    cases e
    exact V_iret 5 rfl hR rfl
  · refine V_if_ne 10 3 rfl (by decide +kernel) (fun _ => ?_) (fun q => absurd q c3) 
    refine V_iconst (nI 0) 6 rfl ic_0 ?_
    refine V_istore_n 7 rfl (Nat.le_of_ble_eq_true rfl) rfl ?_
    show V G M_X8_spot X T 0 0 12 [some (rv (8, 99) 135), some (iv x1), some (iv (nI 0))] [] h1
    refine V_msk [true, true, true] (lc' := [some (rv (8, 99) 135), some (iv x1), some (iv (nI 0))]) rfl ?_
    exact fx_e (P := fun s => V G M_X8_spot X T 0 0 12 [some (rv (8, 99) 135), some (iv s.1), some (iv s.2.1)] [] s.2.2) (fun K12 hK12 s e => w_X8_spot_12 hR K12 (fun x1 x2 h e => hK12 (x1, x2, h) e) s.1 s.2.1 s.2.2 e) FU (x1, (nI 0), h1) e
set_option maxHeartbeats 4000000 in
theorem c_X8_noSpots {G : kG} {T : List kT} {h : kH} {r0 : Int32} {h0 : kH} (e : p_X8_noSpots h = some (r0, h0)) : k_C G M_X8_noSpots T [rv (8, 99) 135] h (some (iv r0)) h0 := by
  refine k_C_of 1 (by decide +kernel) rfl tb_X8_noSpots rfl (fun X hR => ?_)
  show V G M_X8_noSpots X T 0 0 0 [some (rv (8, 99) 135), none] [] h
  unfold p_X8_noSpots at e
  refine V_aload_n 0 rfl rfl ?_
  refine V_getI 1 rfl fi_RX8_107 ?_
  refine V_istore_n 2 rfl (Nat.le_of_ble_eq_true rfl) rfl ?_
  refine le_V (P := fun v1 => V G M_X8_noSpots X T 0 0 5 [some (rv (8, 99) 135), some (iv v1)] [] h) e (fun v1 e => ?_)
  refine V_aload_n 3 rfl rfl ?_
  refine V_iconst (nI 0) 4 rfl ic_0 ?_
  refine V_putI 5 rfl fi_RX8_107 ?_
  refine le_V (P := fun h2 => V G M_X8_noSpots X T 0 0 10 [some (rv (8, 99) 135), some (iv v1)] [] h2) e (fun h2 e => ?_)
  refine V_iload_n 6 rfl rfl ?_
  cases e
  exact V_iret 7 rfl hR rfl
