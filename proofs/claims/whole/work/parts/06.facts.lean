/-! rows in the generator's words -/
def krem (x y : Int32) : Int32 := x - x / y * y
def lrem_ (x y : Int64) : Int64 := x - x / y * y
def bd2 {α β γ : Type} (x : Option (α × β)) (f : α → β → Option γ) : Option γ := match x with
  | some (a, b) => f a b
  | none => none
theorem bd2_e {α β γ : Type} {x : Option (α × β)} {f : α → β → Option γ} {r : γ} (e : bd2 x f = some r) : ∃ a b, x = some (a, b) ∧ f a b = some r := by
  rcases x with _ | ⟨a, b⟩
  · cases e
  · exact ⟨a, b, rfl, e⟩
theorem le_V {α β : Type} {v : α} {f : α → Option β} {r : β} {P : α → Prop} (e : le_ v f = some r) (k : ∀ x, f x = some r → P x) : P v := k v e
def tsel (dflt lo hi : Int) (offs : Array Int) (x : Int) : Int := if x < lo ∨ hi < x then dflt else offs[(x - lo).toNat]?.getD dflt
theorem tsel_d {dflt lo hi : Int} {offs : Array Int} {x : Int32} (keys : List Int) (hk : ∀ k ∈ keys, ¬ x = Int32.ofInt k) (hc : ∀ j, j < offs.size → offs[j]?.getD dflt = dflt ∨ (lo + (j : Int)) ∈ keys) : tsel dflt lo hi offs x.toInt = dflt := by
  unfold tsel
  by_cases h1 : x.toInt < lo ∨ hi < x.toInt
  · rw [if_pos h1]
  · rw [if_neg h1]
    by_cases h2 : (x.toInt - lo).toNat < offs.size
    · rcases hc _ h2 with h3 | h3
      · exact h3
      · exfalso
        have h4 : lo + ((x.toInt - lo).toNat : Int) = x.toInt := by omega
        rw [h4] at h3
        exact hk _ h3 (Int32.ofInt_toInt x).symm
    · rw [Array.getElem?_eq_none (by omega)]; rfl
section
variable {G : kG} {M N : kM} {X : kX} {T : List kT} {kc ks pc : Nat} {lc : List (Option kV)} {st : List kV} {h h' : kH}
theorem V_rem {x y : Int32} (i : Nat) (hd : (m_tab M)[i]? = some (pc, .irem, 1)) (hne : ¬ y = 0) (k : V G M X T kc ks (pc + 1) lc (iv (krem x y) :: st) h) : V G M X T kc ks pc lc (iv y :: iv x :: st) h := V_irem i hd hne k
theorem V_remL {x y : Int64} (i : Nat) (hd : (m_tab M)[i]? = some (pc, .lrem, 1)) (hne : ¬ y = 0) (k : V G M X T kc ks (pc + 1) lc (jv (lrem_ x y) :: st) h) : V G M X T kc ks pc lc (jv y :: jv x :: st) h := V_lrem i hd hne k
theorem V_tab {dflt lo hi off : Int} {offs : Array Int} {len : Nat} {x : Int32} (tgt : Nat) (i : Nat) (hd : (m_tab M)[i]? = some (pc, .tableswitch dflt lo hi offs, len)) (hs : offs.size = (hi - lo + 1).toNat) (ho : tsel dflt lo hi offs x.toInt = off) (ht : (pc : Int) + off = (tgt : Int)) (k : V G M X T kc ks tgt lc st h) : V G M X T kc ks pc lc (iv x :: st) h := by
  unfold tsel at ho
  by_cases h1 : x.toInt < lo ∨ hi < x.toInt
  · rw [if_pos h1] at ho
    subst ho
    exact V_tabOut tgt i hd h1 ht k
  · rw [if_neg h1] at ho
    have h2 : (x.toInt - lo).toNat < offs.size := by omega
    rw [Array.getElem?_eq_getElem h2] at ho
    exact V_tabIn tgt i hd (fun q => h1 (Or.inl q)) (fun q => h1 (Or.inr q)) (by rw [Array.getElem?_eq_getElem h2]; exact congrArg some ho) ht k
theorem V_tlenC {j k : Nat} (i : Nat) (hd : (m_tab M)[i]? = some (pc, .arraylength, 1)) (hj : decide (j < 10) = true) (kk : V G M X T kc ks (pc + 1) lc (iv (Int32.ofNat (k_sl j).length) :: st) h) : V G M X T kc ks pc lc (rv (12, j) k :: st) h := by
  have hj : ¬ j = 10 := by have := of_decide_eq_true hj; omega
  refine V_tlen i hd ?_
  rw [show k_tl G j = (k_sl j).length from if_neg hj]
  exact kk
theorem V_taldC {j k : Nat} {x : Int32} (i : Nat) (hd : (m_tab M)[i]? = some (pc, .iaload, 1)) (hj : decide (j < 10) = true) (hg : inb x (k_sl j).length = true) (kk : V G M X T kc ks (pc + 1) lc (iv ((k_sl j).getD x.toNatClampNeg 0) :: st) h) : V G M X T kc ks pc lc (iv x :: rv (12, j) k :: st) h := by
  have hj : ¬ j = 10 := by have := of_decide_eq_true hj; omega
  refine V_tald i hd ?_ ?_
  · rw [show k_tl G j = (k_sl j).length from if_neg hj]
    exact hg
  · rw [show k_tb G j x.toNatClampNeg = (k_sl j).getD x.toNatClampNeg 0 from if_neg hj]
    exact kk
theorem V_slen {k : Nat} (i : Nat) (hd : (m_tab M)[i]? = some (pc, .arraylength, 1)) (kk : V G M X T kc ks (pc + 1) lc (iv (Int32.ofNat (g_n G)) :: st) h) : V G M X T kc ks pc lc (rv (12, 10) k :: st) h := V_tlen i hd kk
theorem V_sld {k : Nat} {x : Int32} (i : Nat) (hd : (m_tab M)[i]? = some (pc, .iaload, 1)) (hg : inb x (g_n G) = true) (kk : V G M X T kc ks (pc + 1) lc (iv (g_xs G x.toNatClampNeg) :: st) h) : V G M X T kc ks pc lc (iv x :: rv (12, 10) k :: st) h := V_tald i hd hg kk
end
theorem ic_m1 : Int32.ofInt (-1) = (-1 : Int32) := by decide +kernel
theorem ic_0 : Int32.ofInt (0) = nI 0 := by decide +kernel
theorem ic_1 : Int32.ofInt (1) = nI 1 := by decide +kernel
theorem ic_2 : Int32.ofInt (2) = nI 2 := by decide +kernel
theorem ic_3 : Int32.ofInt (3) = nI 3 := by decide +kernel
theorem ic_4 : Int32.ofInt (4) = nI 4 := by decide +kernel
theorem ic_5 : Int32.ofInt (5) = nI 5 := by decide +kernel
theorem ic_10 : Int32.ofInt (10) = nI 10 := by decide +kernel
theorem ic_30 : Int32.ofInt (30) = nI 30 := by decide +kernel
theorem bp_m4 : (Int8.ofInt (-4)).toInt32 = (-4 : Int32) := by decide +kernel
theorem bp_m3 : (Int8.ofInt (-3)).toInt32 = (-3 : Int32) := by decide +kernel
theorem bp_m2 : (Int8.ofInt (-2)).toInt32 = (-2 : Int32) := by decide +kernel
theorem bp_6 : (Int8.ofInt (6)).toInt32 = nI 6 := by decide +kernel
theorem bp_7 : (Int8.ofInt (7)).toInt32 = nI 7 := by decide +kernel
theorem bp_8 : (Int8.ofInt (8)).toInt32 = nI 8 := by decide +kernel
theorem bp_9 : (Int8.ofInt (9)).toInt32 = nI 9 := by decide +kernel
theorem bp_10 : (Int8.ofInt (10)).toInt32 = nI 10 := by decide +kernel
theorem bp_11 : (Int8.ofInt (11)).toInt32 = nI 11 := by decide +kernel
theorem bp_14 : (Int8.ofInt (14)).toInt32 = nI 14 := by decide +kernel
theorem bp_15 : (Int8.ofInt (15)).toInt32 = nI 15 := by decide +kernel
theorem bp_16 : (Int8.ofInt (16)).toInt32 = nI 16 := by decide +kernel
theorem bp_17 : (Int8.ofInt (17)).toInt32 = nI 17 := by decide +kernel
theorem bp_18 : (Int8.ofInt (18)).toInt32 = nI 18 := by decide +kernel
theorem bp_19 : (Int8.ofInt (19)).toInt32 = nI 19 := by decide +kernel
theorem bp_20 : (Int8.ofInt (20)).toInt32 = nI 20 := by decide +kernel
theorem bp_21 : (Int8.ofInt (21)).toInt32 = nI 21 := by decide +kernel
theorem bp_22 : (Int8.ofInt (22)).toInt32 = nI 22 := by decide +kernel
theorem bp_23 : (Int8.ofInt (23)).toInt32 = nI 23 := by decide +kernel
theorem bp_24 : (Int8.ofInt (24)).toInt32 = nI 24 := by decide +kernel
theorem bp_25 : (Int8.ofInt (25)).toInt32 = nI 25 := by decide +kernel
theorem bp_26 : (Int8.ofInt (26)).toInt32 = nI 26 := by decide +kernel
theorem bp_27 : (Int8.ofInt (27)).toInt32 = nI 27 := by decide +kernel
theorem bp_28 : (Int8.ofInt (28)).toInt32 = nI 28 := by decide +kernel
theorem bp_30 : (Int8.ofInt (30)).toInt32 = nI 30 := by decide +kernel
theorem bp_31 : (Int8.ofInt (31)).toInt32 = nI 31 := by decide +kernel
theorem bp_32 : (Int8.ofInt (32)).toInt32 = nI 32 := by decide +kernel
theorem bp_36 : (Int8.ofInt (36)).toInt32 = nI 36 := by decide +kernel
theorem bp_40 : (Int8.ofInt (40)).toInt32 = nI 40 := by decide +kernel
theorem bp_44 : (Int8.ofInt (44)).toInt32 = nI 44 := by decide +kernel
theorem bp_48 : (Int8.ofInt (48)).toInt32 = nI 48 := by decide +kernel
theorem bp_57 : (Int8.ofInt (57)).toInt32 = nI 57 := by decide +kernel
theorem bp_59 : (Int8.ofInt (59)).toInt32 = nI 59 := by decide +kernel
theorem bp_60 : (Int8.ofInt (60)).toInt32 = nI 60 := by decide +kernel
theorem bp_75 : (Int8.ofInt (75)).toInt32 = nI 75 := by decide +kernel
theorem bp_90 : (Int8.ofInt (90)).toInt32 = nI 90 := by decide +kernel
theorem bp_99 : (Int8.ofInt (99)).toInt32 = nI 99 := by decide +kernel
theorem bp_100 : (Int8.ofInt (100)).toInt32 = nI 100 := by decide +kernel
theorem bp_104 : (Int8.ofInt (104)).toInt32 = nI 104 := by decide +kernel
theorem bp_107 : (Int8.ofInt (107)).toInt32 = nI 107 := by decide +kernel
theorem bp_108 : (Int8.ofInt (108)).toInt32 = nI 108 := by decide +kernel
theorem bp_111 : (Int8.ofInt (111)).toInt32 = nI 111 := by decide +kernel
theorem bp_112 : (Int8.ofInt (112)).toInt32 = nI 112 := by decide +kernel
theorem bp_115 : (Int8.ofInt (115)).toInt32 = nI 115 := by decide +kernel
theorem bp_118 : (Int8.ofInt (118)).toInt32 = nI 118 := by decide +kernel
theorem bp_119 : (Int8.ofInt (119)).toInt32 = nI 119 := by decide +kernel
theorem bp_120 : (Int8.ofInt (120)).toInt32 = nI 120 := by decide +kernel
theorem sp_150 : (Int16.ofInt (150)).toInt32 = nI 150 := by decide +kernel
theorem sp_198 : (Int16.ofInt (198)).toInt32 = nI 198 := by decide +kernel
theorem sp_199 : (Int16.ofInt (199)).toInt32 = nI 199 := by decide +kernel
theorem sp_200 : (Int16.ofInt (200)).toInt32 = nI 200 := by decide +kernel
theorem sp_240 : (Int16.ofInt (240)).toInt32 = nI 240 := by decide +kernel
theorem sp_300 : (Int16.ofInt (300)).toInt32 = nI 300 := by decide +kernel
theorem sp_500 : (Int16.ofInt (500)).toInt32 = nI 500 := by decide +kernel
theorem sp_600 : (Int16.ofInt (600)).toInt32 = nI 600 := by decide +kernel
theorem sp_630 : (Int16.ofInt (630)).toInt32 = nI 630 := by decide +kernel
theorem sp_720 : (Int16.ofInt (720)).toInt32 = nI 720 := by decide +kernel
theorem sp_800 : (Int16.ofInt (800)).toInt32 = nI 800 := by decide +kernel
theorem sp_999 : (Int16.ofInt (999)).toInt32 = nI 999 := by decide +kernel
theorem sp_3000 : (Int16.ofInt (3000)).toInt32 = nI 3000 := by decide +kernel
theorem sp_7200 : (Int16.ofInt (7200)).toInt32 = nI 7200 := by decide +kernel
theorem sp_10000 : (Int16.ofInt (10000)).toInt32 = nI 10000 := by decide +kernel
theorem inc_m1 (x : Int32) : x + Int32.ofInt (-1) = x + ((-1 : Int32)) := by rw [ic_m1]
theorem inc_1 (x : Int32) : x + Int32.ofInt (1) = x + (nI 1) := by rw [ic_1]
theorem inc_5 (x : Int32) : x + Int32.ofInt (5) = x + (nI 5) := by rw [ic_5]
theorem inc_10 (x : Int32) : x + Int32.ofInt (10) = x + (nI 10) := by rw [ic_10]
theorem inc_30 (x : Int32) : x + Int32.ofInt (30) = x + (nI 30) := by rw [ic_30]
theorem z_0 : nI 0 &&& 1 = nI 0 := by decide +kernel
theorem z_1 : nI 1 &&& 1 = nI 1 := by decide +kernel
theorem kl_RX5_50 : Cond.constantLong RX5 50 (7919 : Int64) ∈ kw := kw_w 800 (by decide +kernel) (by decide +kernel)
theorem kl_RX5_52 : Cond.constantLong RX5 52 (6151 : Int64) ∈ kw := kw_w 801 (by decide +kernel) (by decide +kernel)
theorem kl_RX5_54 : Cond.constantLong RX5 54 (65521 : Int64) ∈ kw := kw_w 802 (by decide +kernel) (by decide +kernel)
theorem kl_RX8_66 : Cond.constantLong RX8 66 (8 : Int64) ∈ kw := kw_w 924 (by decide +kernel) (by decide +kernel)
theorem kl_RX8_79 : Cond.constantLong RX8 79 (48 : Int64) ∈ kw := kw_w 947 (by decide +kernel) (by decide +kernel)
theorem kl_RX8_81 : Cond.constantLong RX8 81 (57 : Int64) ∈ kw := kw_w 948 (by decide +kernel) (by decide +kernel)
theorem kl_RX8_83 : Cond.constantLong RX8 83 (3 : Int64) ∈ kw := kw_w 949 (by decide +kernel) (by decide +kernel)
theorem kl_RX8_127 : Cond.constantLong RX8 127 (5 : Int64) ∈ kw := kw_w 975 (by decide +kernel) (by decide +kernel)
theorem kl_RX8_161 : Cond.constantLong RX8 161 (9 : Int64) ∈ kw := kw_w 1002 (by decide +kernel) (by decide +kernel)
theorem kl_RX8_139 : Cond.constantLong RX8 139 (-1 : Int64) ∈ kw := kw_w 1027 (by decide +kernel) (by decide +kernel)
theorem kl_RX8_169 : Cond.constantLong RX8 169 (99 : Int64) ∈ kw := kw_w 1036 (by decide +kernel) (by decide +kernel)
theorem kl_RX8_171 : Cond.constantLong RX8 171 (240 : Int64) ∈ kw := kw_w 1053 (by decide +kernel) (by decide +kernel)
theorem kl_RX8_185 : Cond.constantLong RX8 185 (4 : Int64) ∈ kw := kw_w 1089 (by decide +kernel) (by decide +kernel)
theorem kl_RX8_199 : Cond.constantLong RX8 199 (6 : Int64) ∈ kw := kw_w 1106 (by decide +kernel) (by decide +kernel)
theorem kl_RX8_217 : Cond.constantLong RX8 217 (9999 : Int64) ∈ kw := kw_w 1142 (by decide +kernel) (by decide +kernel)
theorem kl_RX8_208 : Cond.constantLong RX8 208 (7919 : Int64) ∈ kw := kw_w 1151 (by decide +kernel) (by decide +kernel)
theorem kl_RX8_210 : Cond.constantLong RX8 210 (6151 : Int64) ∈ kw := kw_w 1152 (by decide +kernel) (by decide +kernel)
theorem kl_RX8_212 : Cond.constantLong RX8 212 (65521 : Int64) ∈ kw := kw_w 1153 (by decide +kernel) (by decide +kernel)
theorem kl_RX8_225 : Cond.constantLong RX8 225 (2 : Int64) ∈ kw := kw_w 1162 (by decide +kernel) (by decide +kernel)
theorem kl_RL_13 : Cond.constantLong RL 13 (4294967295 : Int64) ∈ kw := kw_w 1179 (by decide +kernel) (by decide +kernel)
theorem fr_RX7_98 : k_Fr RX7 98 1 0 1 (9, 30) := ⟨RX1, TX1, 6, tyX1, k_cls1, by decide, rfl, kw_w 194 (by decide +kernel) (by decide +kernel), by decide⟩
theorem fr_RX7_103 : k_Fr RX7 103 1 1 2 (9, 30) := ⟨RX1, TX1, 6, tyX1, k_cls1, by decide, rfl, kw_w 196 (by decide +kernel) (by decide +kernel), by decide⟩
theorem fr_RX7_106 : k_Fr RX7 106 1 2 3 (9, 30) := ⟨RX1, TX1, 6, tyX1, k_cls1, by decide, rfl, kw_w 199 (by decide +kernel) (by decide +kernel), by decide⟩
theorem fr_RX7_109 : k_Fr RX7 109 1 3 4 (11, 30) := ⟨RX1, TX1, 6, tyX1, k_cls1, by decide, rfl, kw_w 202 (by decide +kernel) (by decide +kernel), by decide⟩
theorem fr_RX7_117 : k_Fr RX7 117 1 4 5 (11, 30) := ⟨RX1, TX1, 6, tyX1, k_cls1, by decide, rfl, kw_w 205 (by decide +kernel) (by decide +kernel), by decide⟩
theorem fi_RX7_217 : k_Fi RX7 217 4 0 := ⟨RX4, TX4, 12, tyX4, k_cls4, by decide, rfl, kw_w 230 (by decide +kernel) (by decide +kernel), rfl, rfl⟩
theorem fr_RX7_133 : k_Fr RX7 133 4 1 1 (9, 6) := ⟨RX4, TX4, 12, tyX4, k_cls4, by decide, rfl, kw_w 232 (by decide +kernel) (by decide +kernel), by decide⟩
theorem fr_RX7_139 : k_Fr RX7 139 4 3 3 (9, 6) := ⟨RX4, TX4, 12, tyX4, k_cls4, by decide, rfl, kw_w 236 (by decide +kernel) (by decide +kernel), by decide⟩
theorem fr_RX7_201 : k_Fr RX7 201 4 4 4 (9, 6) := ⟨RX4, TX4, 12, tyX4, k_cls4, by decide, rfl, kw_w 238 (by decide +kernel) (by decide +kernel), by decide⟩
theorem fr_RX7_136 : k_Fr RX7 136 4 6 6 (9, 6) := ⟨RX4, TX4, 12, tyX4, k_cls4, by decide, rfl, kw_w 241 (by decide +kernel) (by decide +kernel), by decide⟩
theorem fr_RX7_142 : k_Fr RX7 142 4 7 7 (9, 6) := ⟨RX4, TX4, 12, tyX4, k_cls4, by decide, rfl, kw_w 243 (by decide +kernel) (by decide +kernel), by decide⟩
theorem fr_RX7_162 : k_Fr RX7 162 4 8 8 (9, 6) := ⟨RX4, TX4, 12, tyX4, k_cls4, by decide, rfl, kw_w 245 (by decide +kernel) (by decide +kernel), by decide⟩
theorem fr_RX7_149 : k_Fr RX7 149 4 9 9 (9, 6) := ⟨RX4, TX4, 12, tyX4, k_cls4, by decide, rfl, kw_w 247 (by decide +kernel) (by decide +kernel), by decide⟩
theorem fr_RX7_94 : k_Fr RX7 94 2 0 1 (1, 99) := ⟨RX2, TX2, 3, tyX2, k_cls2, by decide, rfl, kw_w 316 (by decide +kernel) (by decide +kernel), by decide⟩
theorem fr_RX7_120 : k_Fr RX7 120 2 1 8 (4, 99) := ⟨RX2, TX2, 3, tyX2, k_cls2, by decide, rfl, kw_w 319 (by decide +kernel) (by decide +kernel), by decide⟩
theorem fi_RX7_258 : k_Fi RX7 258 2 2 := ⟨RX2, TX2, 3, tyX2, k_cls2, by decide, rfl, kw_w 323 (by decide +kernel) (by decide +kernel), rfl, rfl⟩
theorem fr_RX7_9 : k_Fr RX7 9 7 0 1 (10, 500) := ⟨RX7, TX7, 14, tyX7, k_cls7, by decide, rfl, kw_w 379 (by decide +kernel) (by decide +kernel), by decide⟩
theorem fi_RX7_13 : k_Fi RX7 13 7 1 := ⟨RX7, TX7, 14, tyX7, k_cls7, by decide, rfl, kw_w 380 (by decide +kernel) (by decide +kernel), rfl, rfl⟩
theorem fr_RX7_20 : k_Fr RX7 20 7 2 2 (3, 99) := ⟨RX7, TX7, 14, tyX7, k_cls7, by decide, rfl, kw_w 381 (by decide +kernel) (by decide +kernel), by decide⟩
theorem fr_RX7_27 : k_Fr RX7 27 7 3 28 (5, 99) := ⟨RX7, TX7, 14, tyX7, k_cls7, by decide, rfl, kw_w 382 (by decide +kernel) (by decide +kernel), by decide⟩
theorem fr_RX7_34 : k_Fr RX7 34 7 4 31 (2, 99) := ⟨RX7, TX7, 14, tyX7, k_cls7, by decide, rfl, kw_w 383 (by decide +kernel) (by decide +kernel), by decide⟩
theorem fr_RX7_38 : k_Fr RX7 38 7 5 51 (2, 99) := ⟨RX7, TX7, 14, tyX7, k_cls7, by decide, rfl, kw_w 384 (by decide +kernel) (by decide +kernel), by decide⟩
theorem fr_RX7_41 : k_Fr RX7 41 7 6 71 (2, 99) := ⟨RX7, TX7, 14, tyX7, k_cls7, by decide, rfl, kw_w 385 (by decide +kernel) (by decide +kernel), by decide⟩
theorem fr_RX7_44 : k_Fr RX7 44 7 7 91 (2, 99) := ⟨RX7, TX7, 14, tyX7, k_cls7, by decide, rfl, kw_w 386 (by decide +kernel) (by decide +kernel), by decide⟩
theorem fr_RX7_47 : k_Fr RX7 47 7 8 111 (2, 99) := ⟨RX7, TX7, 14, tyX7, k_cls7, by decide, rfl, kw_w 387 (by decide +kernel) (by decide +kernel), by decide⟩
theorem fi_RX7_50 : k_Fi RX7 50 7 9 := ⟨RX7, TX7, 14, tyX7, k_cls7, by decide, rfl, kw_w 388 (by decide +kernel) (by decide +kernel), rfl, rfl⟩
theorem fr_RX7_53 : k_Fr RX7 53 7 10 131 (9, 6) := ⟨RX7, TX7, 14, tyX7, k_cls7, by decide, rfl, kw_w 389 (by decide +kernel) (by decide +kernel), by decide⟩
theorem fi_RX7_57 : k_Fi RX7 57 7 11 := ⟨RX7, TX7, 14, tyX7, k_cls7, by decide, rfl, kw_w 390 (by decide +kernel) (by decide +kernel), rfl, rfl⟩
theorem fr_RX7_63 : k_Fr RX7 63 7 12 132 (0, 99) := ⟨RX7, TX7, 14, tyX7, k_cls7, by decide, rfl, kw_w 391 (by decide +kernel) (by decide +kernel), by decide⟩
theorem fr_RX7_70 : k_Fr RX7 70 7 13 134 (6, 99) := ⟨RX7, TX7, 14, tyX7, k_cls7, by decide, rfl, kw_w 392 (by decide +kernel) (by decide +kernel), by decide⟩
theorem fr_RX0_9 : k_Fr RX0 9 0 0 1 (9, 7200) := ⟨RX0, TX0, 1, tyX0, k_cls0, by decide, rfl, kw_w 337 (by decide +kernel) (by decide +kernel), by decide⟩
theorem fi_RX1_74 : k_Fi RX1 74 5 0 := ⟨RX5, TX5, 10, tyX5, k_cls5, by decide, rfl, kw_w 138 (by decide +kernel) (by decide +kernel), rfl, rfl⟩
theorem fi_RX1_70 : k_Fi RX1 70 5 1 := ⟨RX5, TX5, 10, tyX5, k_cls5, by decide, rfl, kw_w 141 (by decide +kernel) (by decide +kernel), rfl, rfl⟩
theorem fr_RX1_52 : k_Fr RX1 52 5 2 1 (9, 3) := ⟨RX5, TX5, 10, tyX5, k_cls5, by decide, rfl, kw_w 144 (by decide +kernel) (by decide +kernel), by decide⟩
theorem fr_RX1_61 : k_Fr RX1 61 5 3 2 (9, 3) := ⟨RX5, TX5, 10, tyX5, k_cls5, by decide, rfl, kw_w 146 (by decide +kernel) (by decide +kernel), by decide⟩
theorem fi_RX1_81 : k_Fi RX1 81 5 4 := ⟨RX5, TX5, 10, tyX5, k_cls5, by decide, rfl, kw_w 149 (by decide +kernel) (by decide +kernel), rfl, rfl⟩
theorem fr_RX1_9 : k_Fr RX1 9 1 0 1 (9, 30) := ⟨RX1, TX1, 6, tyX1, k_cls1, by decide, rfl, kw_w 193 (by decide +kernel) (by decide +kernel), by decide⟩
theorem fr_RX1_15 : k_Fr RX1 15 1 1 2 (9, 30) := ⟨RX1, TX1, 6, tyX1, k_cls1, by decide, rfl, kw_w 195 (by decide +kernel) (by decide +kernel), by decide⟩
theorem fr_RX1_18 : k_Fr RX1 18 1 2 3 (9, 30) := ⟨RX1, TX1, 6, tyX1, k_cls1, by decide, rfl, kw_w 198 (by decide +kernel) (by decide +kernel), by decide⟩
theorem fr_RX1_21 : k_Fr RX1 21 1 3 4 (11, 30) := ⟨RX1, TX1, 6, tyX1, k_cls1, by decide, rfl, kw_w 201 (by decide +kernel) (by decide +kernel), by decide⟩
theorem fr_RX1_25 : k_Fr RX1 25 1 4 5 (11, 30) := ⟨RX1, TX1, 6, tyX1, k_cls1, by decide, rfl, kw_w 204 (by decide +kernel) (by decide +kernel), by decide⟩
theorem fr_RX1_28 : k_Fr RX1 28 1 5 6 (9, 30) := ⟨RX1, TX1, 6, tyX1, k_cls1, by decide, rfl, kw_w 207 (by decide +kernel) (by decide +kernel), by decide⟩
theorem fr_RX2_10 : k_Fr RX2 10 2 0 1 (1, 99) := ⟨RX2, TX2, 3, tyX2, k_cls2, by decide, rfl, kw_w 315 (by decide +kernel) (by decide +kernel), by decide⟩
theorem fr_RX2_19 : k_Fr RX2 19 2 1 8 (4, 99) := ⟨RX2, TX2, 3, tyX2, k_cls2, by decide, rfl, kw_w 318 (by decide +kernel) (by decide +kernel), by decide⟩
theorem fi_RX2_23 : k_Fi RX2 23 2 2 := ⟨RX2, TX2, 3, tyX2, k_cls2, by decide, rfl, kw_w 321 (by decide +kernel) (by decide +kernel), rfl, rfl⟩
theorem fi_RX3_103 : k_Fi RX3 103 5 0 := ⟨RX5, TX5, 10, tyX5, k_cls5, by decide, rfl, kw_w 139 (by decide +kernel) (by decide +kernel), rfl, rfl⟩
theorem fi_RX3_106 : k_Fi RX3 106 5 1 := ⟨RX5, TX5, 10, tyX5, k_cls5, by decide, rfl, kw_w 142 (by decide +kernel) (by decide +kernel), rfl, rfl⟩
theorem fi_RX3_127 : k_Fi RX3 127 5 4 := ⟨RX5, TX5, 10, tyX5, k_cls5, by decide, rfl, kw_w 148 (by decide +kernel) (by decide +kernel), rfl, rfl⟩
theorem fi_RX3_130 : k_Fi RX3 130 5 5 := ⟨RX5, TX5, 10, tyX5, k_cls5, by decide, rfl, kw_w 152 (by decide +kernel) (by decide +kernel), rfl, rfl⟩
theorem fi_RX3_133 : k_Fi RX3 133 5 6 := ⟨RX5, TX5, 10, tyX5, k_cls5, by decide, rfl, kw_w 154 (by decide +kernel) (by decide +kernel), rfl, rfl⟩
theorem fi_RX3_136 : k_Fi RX3 136 5 7 := ⟨RX5, TX5, 10, tyX5, k_cls5, by decide, rfl, kw_w 158 (by decide +kernel) (by decide +kernel), rfl, rfl⟩
theorem fi_RX3_139 : k_Fi RX3 139 5 8 := ⟨RX5, TX5, 10, tyX5, k_cls5, by decide, rfl, kw_w 161 (by decide +kernel) (by decide +kernel), rfl, rfl⟩
theorem fi_RX3_142 : k_Fi RX3 142 5 9 := ⟨RX5, TX5, 10, tyX5, k_cls5, by decide, rfl, kw_w 163 (by decide +kernel) (by decide +kernel), rfl, rfl⟩
theorem fr_RX3_148 : k_Fr RX3 148 1 1 2 (9, 30) := ⟨RX1, TX1, 6, tyX1, k_cls1, by decide, rfl, kw_w 197 (by decide +kernel) (by decide +kernel), by decide⟩
theorem fr_RX3_145 : k_Fr RX3 145 1 2 3 (9, 30) := ⟨RX1, TX1, 6, tyX1, k_cls1, by decide, rfl, kw_w 200 (by decide +kernel) (by decide +kernel), by decide⟩
theorem fr_RX3_112 : k_Fr RX3 112 1 3 4 (11, 30) := ⟨RX1, TX1, 6, tyX1, k_cls1, by decide, rfl, kw_w 203 (by decide +kernel) (by decide +kernel), by decide⟩
theorem fr_RX3_116 : k_Fr RX3 116 1 4 5 (11, 30) := ⟨RX1, TX1, 6, tyX1, k_cls1, by decide, rfl, kw_w 206 (by decide +kernel) (by decide +kernel), by decide⟩
theorem fi_RX3_51 : k_Fi RX3 51 4 0 := ⟨RX4, TX4, 12, tyX4, k_cls4, by decide, rfl, kw_w 229 (by decide +kernel) (by decide +kernel), rfl, rfl⟩
theorem fr_RX3_155 : k_Fr RX3 155 4 1 1 (9, 6) := ⟨RX4, TX4, 12, tyX4, k_cls4, by decide, rfl, kw_w 233 (by decide +kernel) (by decide +kernel), by decide⟩
theorem fr_RX3_12 : k_Fr RX3 12 3 0 1 (5, 99) := ⟨RX3, TX3, 6, tyX3, k_cls3, by decide, rfl, kw_w 284 (by decide +kernel) (by decide +kernel), by decide⟩
theorem fr_RX3_21 : k_Fr RX3 21 3 1 4 (1, 99) := ⟨RX3, TX3, 6, tyX3, k_cls3, by decide, rfl, kw_w 285 (by decide +kernel) (by decide +kernel), by decide⟩
theorem fr_RX3_28 : k_Fr RX3 28 3 2 11 (4, 99) := ⟨RX3, TX3, 6, tyX3, k_cls3, by decide, rfl, kw_w 286 (by decide +kernel) (by decide +kernel), by decide⟩
theorem fr_RX3_32 : k_Fr RX3 32 3 3 23 (9, 6) := ⟨RX3, TX3, 6, tyX3, k_cls3, by decide, rfl, kw_w 287 (by decide +kernel) (by decide +kernel), by decide⟩
theorem fr_RX3_36 : k_Fr RX3 36 3 4 24 (9, 6) := ⟨RX3, TX3, 6, tyX3, k_cls3, by decide, rfl, kw_w 288 (by decide +kernel) (by decide +kernel), by decide⟩
theorem fr_RX3_39 : k_Fr RX3 39 3 5 25 (9, 6) := ⟨RX3, TX3, 6, tyX3, k_cls3, by decide, rfl, kw_w 289 (by decide +kernel) (by decide +kernel), by decide⟩
theorem fr_RX3_165 : k_Fr RX3 165 2 0 1 (1, 99) := ⟨RX2, TX2, 3, tyX2, k_cls2, by decide, rfl, kw_w 317 (by decide +kernel) (by decide +kernel), by decide⟩
theorem fr_RX3_174 : k_Fr RX3 174 2 1 8 (4, 99) := ⟨RX2, TX2, 3, tyX2, k_cls2, by decide, rfl, kw_w 320 (by decide +kernel) (by decide +kernel), by decide⟩
theorem fi_RX3_178 : k_Fi RX3 178 2 2 := ⟨RX2, TX2, 3, tyX2, k_cls2, by decide, rfl, kw_w 322 (by decide +kernel) (by decide +kernel), rfl, rfl⟩
theorem fs_RX3_73 : Cond.fieldLink RX3 73 RX3 (k_sn 0) "[I" ∈ kw := kw_w 445 (by decide +kernel) (by decide +kernel)
theorem fs_RX3_76 : Cond.fieldLink RX3 76 RX3 (k_sn 1) "[I" ∈ kw := kw_w 447 (by decide +kernel) (by decide +kernel)
theorem fs_RX3_79 : Cond.fieldLink RX3 79 RX3 (k_sn 2) "[I" ∈ kw := kw_w 449 (by decide +kernel) (by decide +kernel)
theorem fs_RX3_82 : Cond.fieldLink RX3 82 RX3 (k_sn 3) "[I" ∈ kw := kw_w 451 (by decide +kernel) (by decide +kernel)
theorem fs_RX3_85 : Cond.fieldLink RX3 85 RX3 (k_sn 4) "[I" ∈ kw := kw_w 453 (by decide +kernel) (by decide +kernel)
theorem fs_RX3_88 : Cond.fieldLink RX3 88 RX3 (k_sn 5) "[I" ∈ kw := kw_w 455 (by decide +kernel) (by decide +kernel)
theorem fs_RX3_91 : Cond.fieldLink RX3 91 RX3 (k_sn 6) "[I" ∈ kw := kw_w 457 (by decide +kernel) (by decide +kernel)
theorem fs_RX3_94 : Cond.fieldLink RX3 94 RX3 (k_sn 7) "[I" ∈ kw := kw_w 459 (by decide +kernel) (by decide +kernel)
theorem fs_RX3_97 : Cond.fieldLink RX3 97 RX3 (k_sn 8) "[I" ∈ kw := kw_w 461 (by decide +kernel) (by decide +kernel)
theorem fs_RX3_100 : Cond.fieldLink RX3 100 RX3 (k_sn 9) "[I" ∈ kw := kw_w 463 (by decide +kernel) (by decide +kernel)
theorem fi_RX4_92 : k_Fi RX4 92 5 5 := ⟨RX5, TX5, 10, tyX5, k_cls5, by decide, rfl, kw_w 151 (by decide +kernel) (by decide +kernel), rfl, rfl⟩
theorem fi_RX4_100 : k_Fi RX4 100 5 6 := ⟨RX5, TX5, 10, tyX5, k_cls5, by decide, rfl, kw_w 155 (by decide +kernel) (by decide +kernel), rfl, rfl⟩
theorem fi_RX4_81 : k_Fi RX4 81 5 7 := ⟨RX5, TX5, 10, tyX5, k_cls5, by decide, rfl, kw_w 157 (by decide +kernel) (by decide +kernel), rfl, rfl⟩
theorem fi_RX4_72 : k_Fi RX4 72 5 8 := ⟨RX5, TX5, 10, tyX5, k_cls5, by decide, rfl, kw_w 160 (by decide +kernel) (by decide +kernel), rfl, rfl⟩
theorem fi_RX4_9 : k_Fi RX4 9 4 0 := ⟨RX4, TX4, 12, tyX4, k_cls4, by decide, rfl, kw_w 228 (by decide +kernel) (by decide +kernel), rfl, rfl⟩
theorem fr_RX4_15 : k_Fr RX4 15 4 1 1 (9, 6) := ⟨RX4, TX4, 12, tyX4, k_cls4, by decide, rfl, kw_w 231 (by decide +kernel) (by decide +kernel), by decide⟩
theorem fr_RX4_19 : k_Fr RX4 19 4 2 2 (9, 6) := ⟨RX4, TX4, 12, tyX4, k_cls4, by decide, rfl, kw_w 234 (by decide +kernel) (by decide +kernel), by decide⟩
theorem fr_RX4_22 : k_Fr RX4 22 4 3 3 (9, 6) := ⟨RX4, TX4, 12, tyX4, k_cls4, by decide, rfl, kw_w 235 (by decide +kernel) (by decide +kernel), by decide⟩
theorem fr_RX4_25 : k_Fr RX4 25 4 4 4 (9, 6) := ⟨RX4, TX4, 12, tyX4, k_cls4, by decide, rfl, kw_w 237 (by decide +kernel) (by decide +kernel), by decide⟩
theorem fr_RX4_28 : k_Fr RX4 28 4 5 5 (9, 6) := ⟨RX4, TX4, 12, tyX4, k_cls4, by decide, rfl, kw_w 239 (by decide +kernel) (by decide +kernel), by decide⟩
theorem fr_RX4_31 : k_Fr RX4 31 4 6 6 (9, 6) := ⟨RX4, TX4, 12, tyX4, k_cls4, by decide, rfl, kw_w 240 (by decide +kernel) (by decide +kernel), by decide⟩
theorem fr_RX4_34 : k_Fr RX4 34 4 7 7 (9, 6) := ⟨RX4, TX4, 12, tyX4, k_cls4, by decide, rfl, kw_w 242 (by decide +kernel) (by decide +kernel), by decide⟩
theorem fr_RX4_37 : k_Fr RX4 37 4 8 8 (9, 6) := ⟨RX4, TX4, 12, tyX4, k_cls4, by decide, rfl, kw_w 244 (by decide +kernel) (by decide +kernel), by decide⟩
theorem fr_RX4_40 : k_Fr RX4 40 4 9 9 (9, 6) := ⟨RX4, TX4, 12, tyX4, k_cls4, by decide, rfl, kw_w 246 (by decide +kernel) (by decide +kernel), by decide⟩
theorem fr_RX4_43 : k_Fr RX4 43 4 10 10 (11, 6) := ⟨RX4, TX4, 12, tyX4, k_cls4, by decide, rfl, kw_w 248 (by decide +kernel) (by decide +kernel), by decide⟩
theorem fr_RX4_47 : k_Fr RX4 47 4 11 11 (11, 6) := ⟨RX4, TX4, 12, tyX4, k_cls4, by decide, rfl, kw_w 249 (by decide +kernel) (by decide +kernel), by decide⟩
theorem fi_RX5_21 : k_Fi RX5 21 5 0 := ⟨RX5, TX5, 10, tyX5, k_cls5, by decide, rfl, kw_w 137 (by decide +kernel) (by decide +kernel), rfl, rfl⟩
theorem fi_RX5_25 : k_Fi RX5 25 5 1 := ⟨RX5, TX5, 10, tyX5, k_cls5, by decide, rfl, kw_w 140 (by decide +kernel) (by decide +kernel), rfl, rfl⟩
theorem fr_RX5_9 : k_Fr RX5 9 5 2 1 (9, 3) := ⟨RX5, TX5, 10, tyX5, k_cls5, by decide, rfl, kw_w 143 (by decide +kernel) (by decide +kernel), by decide⟩
theorem fr_RX5_15 : k_Fr RX5 15 5 3 2 (9, 3) := ⟨RX5, TX5, 10, tyX5, k_cls5, by decide, rfl, kw_w 145 (by decide +kernel) (by decide +kernel), by decide⟩
theorem fi_RX5_32 : k_Fi RX5 32 5 4 := ⟨RX5, TX5, 10, tyX5, k_cls5, by decide, rfl, kw_w 147 (by decide +kernel) (by decide +kernel), rfl, rfl⟩
theorem fi_RX5_35 : k_Fi RX5 35 5 5 := ⟨RX5, TX5, 10, tyX5, k_cls5, by decide, rfl, kw_w 150 (by decide +kernel) (by decide +kernel), rfl, rfl⟩
theorem fi_RX5_38 : k_Fi RX5 38 5 6 := ⟨RX5, TX5, 10, tyX5, k_cls5, by decide, rfl, kw_w 153 (by decide +kernel) (by decide +kernel), rfl, rfl⟩
theorem fi_RX5_41 : k_Fi RX5 41 5 7 := ⟨RX5, TX5, 10, tyX5, k_cls5, by decide, rfl, kw_w 156 (by decide +kernel) (by decide +kernel), rfl, rfl⟩
theorem fi_RX5_44 : k_Fi RX5 44 5 8 := ⟨RX5, TX5, 10, tyX5, k_cls5, by decide, rfl, kw_w 159 (by decide +kernel) (by decide +kernel), rfl, rfl⟩
theorem fi_RX5_47 : k_Fi RX5 47 5 9 := ⟨RX5, TX5, 10, tyX5, k_cls5, by decide, rfl, kw_w 162 (by decide +kernel) (by decide +kernel), rfl, rfl⟩
theorem fi_RX6_9 : k_Fi RX6 9 6 0 := ⟨RX6, TX6, 5, tyX6, k_cls6, by decide, rfl, kw_w 347 (by decide +kernel) (by decide +kernel), rfl, rfl⟩
theorem fi_RX6_15 : k_Fi RX6 15 6 1 := ⟨RX6, TX6, 5, tyX6, k_cls6, by decide, rfl, kw_w 348 (by decide +kernel) (by decide +kernel), rfl, rfl⟩
theorem fi_RX6_24 : k_Fi RX6 24 6 2 := ⟨RX6, TX6, 5, tyX6, k_cls6, by decide, rfl, kw_w 349 (by decide +kernel) (by decide +kernel), rfl, rfl⟩
theorem fi_RX6_30 : k_Fi RX6 30 6 3 := ⟨RX6, TX6, 5, tyX6, k_cls6, by decide, rfl, kw_w 350 (by decide +kernel) (by decide +kernel), rfl, rfl⟩
theorem fi_RX6_33 : k_Fi RX6 33 6 4 := ⟨RX6, TX6, 5, tyX6, k_cls6, by decide, rfl, kw_w 351 (by decide +kernel) (by decide +kernel), rfl, rfl⟩
theorem fi_RX8_72 : k_Fi RX8 72 8 0 := ⟨RX8, TX8, 20, tyX8, k_cls8, by decide, rfl, kw_w 859 (by decide +kernel) (by decide +kernel), rfl, rfl⟩
theorem fr_RX8_7 : k_Fr RX8 7 8 1 1 (10, 500) := ⟨RX8, TX8, 20, tyX8, k_cls8, by decide, rfl, kw_w 860 (by decide +kernel) (by decide +kernel), by decide⟩
theorem fi_RX8_76 : k_Fi RX8 76 8 2 := ⟨RX8, TX8, 20, tyX8, k_cls8, by decide, rfl, kw_w 861 (by decide +kernel) (by decide +kernel), rfl, rfl⟩
theorem fr_RX8_13 : k_Fr RX8 13 8 3 2 (9, 28) := ⟨RX8, TX8, 20, tyX8, k_cls8, by decide, rfl, kw_w 862 (by decide +kernel) (by decide +kernel), by decide⟩
theorem fr_RX8_17 : k_Fr RX8 17 8 4 3 (9, 2) := ⟨RX8, TX8, 20, tyX8, k_cls8, by decide, rfl, kw_w 863 (by decide +kernel) (by decide +kernel), by decide⟩
theorem fr_RX8_20 : k_Fr RX8 20 8 5 4 (9, 6) := ⟨RX8, TX8, 20, tyX8, k_cls8, by decide, rfl, kw_w 864 (by decide +kernel) (by decide +kernel), by decide⟩
theorem fr_RX8_23 : k_Fr RX8 23 8 6 5 (9, 6) := ⟨RX8, TX8, 20, tyX8, k_cls8, by decide, rfl, kw_w 865 (by decide +kernel) (by decide +kernel), by decide⟩
theorem fr_RX8_26 : k_Fr RX8 26 8 7 6 (9, 36) := ⟨RX8, TX8, 20, tyX8, k_cls8, by decide, rfl, kw_w 866 (by decide +kernel) (by decide +kernel), by decide⟩
theorem fr_RX8_29 : k_Fr RX8 29 8 8 7 (9, 120) := ⟨RX8, TX8, 20, tyX8, k_cls8, by decide, rfl, kw_w 867 (by decide +kernel) (by decide +kernel), by decide⟩
theorem fr_RX8_32 : k_Fr RX8 32 8 9 8 (9, 800) := ⟨RX8, TX8, 20, tyX8, k_cls8, by decide, rfl, kw_w 868 (by decide +kernel) (by decide +kernel), by decide⟩
theorem fi_RX8_110 : k_Fi RX8 110 8 10 := ⟨RX8, TX8, 20, tyX8, k_cls8, by decide, rfl, kw_w 869 (by decide +kernel) (by decide +kernel), rfl, rfl⟩
theorem fi_RX8_107 : k_Fi RX8 107 8 11 := ⟨RX8, TX8, 20, tyX8, k_cls8, by decide, rfl, kw_w 870 (by decide +kernel) (by decide +kernel), rfl, rfl⟩
theorem fr_RX8_35 : k_Fr RX8 35 8 12 9 (9, 6) := ⟨RX8, TX8, 20, tyX8, k_cls8, by decide, rfl, kw_w 871 (by decide +kernel) (by decide +kernel), by decide⟩
theorem fr_RX8_38 : k_Fr RX8 38 8 13 10 (9, 30) := ⟨RX8, TX8, 20, tyX8, k_cls8, by decide, rfl, kw_w 872 (by decide +kernel) (by decide +kernel), by decide⟩
theorem fr_RX8_41 : k_Fr RX8 41 8 14 11 (9, 6) := ⟨RX8, TX8, 20, tyX8, k_cls8, by decide, rfl, kw_w 873 (by decide +kernel) (by decide +kernel), by decide⟩
theorem fr_RX8_44 : k_Fr RX8 44 8 15 12 (11, 6) := ⟨RX8, TX8, 20, tyX8, k_cls8, by decide, rfl, kw_w 874 (by decide +kernel) (by decide +kernel), by decide⟩
theorem fr_RX8_48 : k_Fr RX8 48 8 16 13 (9, 4) := ⟨RX8, TX8, 20, tyX8, k_cls8, by decide, rfl, kw_w 875 (by decide +kernel) (by decide +kernel), by decide⟩
theorem fr_RX8_51 : k_Fr RX8 51 8 17 14 (9, 4) := ⟨RX8, TX8, 20, tyX8, k_cls8, by decide, rfl, kw_w 876 (by decide +kernel) (by decide +kernel), by decide⟩
theorem fr_RX8_54 : k_Fr RX8 54 8 18 15 (9, 5) := ⟨RX8, TX8, 20, tyX8, k_cls8, by decide, rfl, kw_w 877 (by decide +kernel) (by decide +kernel), by decide⟩
theorem fr_RX8_57 : k_Fr RX8 57 8 19 16 (9, 6) := ⟨RX8, TX8, 20, tyX8, k_cls8, by decide, rfl, kw_w 878 (by decide +kernel) (by decide +kernel), by decide⟩
