/-! the constructors as data, and what the tables say for them -/
theorem oi_1 : Cond.instanceMethod Lib.objectInit ∈ kw := kw_w 115 (by decide +kernel) (by decide +kernel)
theorem oi_2 : Cond.code Lib.objectInit ⟨#[0xb1]⟩ 1 none ∈ kw := kw_w 116 (by decide +kernel) (by decide +kernel)
theorem ac_I : Cond.arrayClass .int ∈ kw := kw_w 186 (by decide +kernel) (by decide +kernel)
theorem ac_B : Cond.arrayClass .byte ∈ kw := kw_w 185 (by decide +kernel) (by decide +kernel)
theorem ac_Z : Cond.arrayClass .boolean ∈ kw := kw_w 221 (by decide +kernel) (by decide +kernel)
theorem nw_RL_7 : k_nw RL 7 7 14 := ⟨RX7, TX7, tyX7, k_cls7, kw_w 109 (by decide +kernel) (by decide +kernel), kw_w 110 (by decide +kernel) (by decide +kernel), kw_w 98 (by decide +kernel) (by decide +kernel), by decide +kernel⟩
theorem li_RL_9 : Cond.methodLink RL 9 yX7_init ∈ kw := kw_w 111 (by decide +kernel) (by decide +kernel)
theorem lo_RX7_3 : Cond.methodLink RX7 3 Lib.objectInit ∈ kw := kw_w 114 (by decide +kernel) (by decide +kernel)
theorem nw_RX7_17 : k_nw RX7 17 3 6 := ⟨RX3, TX3, tyX3, k_cls3, kw_w 117 (by decide +kernel) (by decide +kernel), kw_w 118 (by decide +kernel) (by decide +kernel), kw_w 99 (by decide +kernel) (by decide +kernel), by decide +kernel⟩
theorem li_RX7_19 : Cond.methodLink RX7 19 yX3_init ∈ kw := kw_w 119 (by decide +kernel) (by decide +kernel)
theorem lo_RX3_3 : Cond.methodLink RX3 3 Lib.objectInit ∈ kw := kw_w 122 (by decide +kernel) (by decide +kernel)
theorem nw_RX3_9 : k_nw RX3 9 5 10 := ⟨RX5, TX5, tyX5, k_cls5, kw_w 123 (by decide +kernel) (by decide +kernel), kw_w 124 (by decide +kernel) (by decide +kernel), kw_w 100 (by decide +kernel) (by decide +kernel), by decide +kernel⟩
theorem li_RX3_11 : Cond.methodLink RX3 11 yX5_init ∈ kw := kw_w 125 (by decide +kernel) (by decide +kernel)
theorem lo_RX5_3 : Cond.methodLink RX5 3 Lib.objectInit ∈ kw := kw_w 128 (by decide +kernel) (by decide +kernel)
theorem nw_RX3_18 : k_nw RX3 18 1 6 := ⟨RX1, TX1, tyX1, k_cls1, kw_w 187 (by decide +kernel) (by decide +kernel), kw_w 188 (by decide +kernel) (by decide +kernel), kw_w 101 (by decide +kernel) (by decide +kernel), by decide +kernel⟩
theorem lo_RX1_3 : Cond.methodLink RX1 3 Lib.objectInit ∈ kw := kw_w 192 (by decide +kernel) (by decide +kernel)
theorem nw_RX3_25 : k_nw RX3 25 4 12 := ⟨RX4, TX4, tyX4, k_cls4, kw_w 222 (by decide +kernel) (by decide +kernel), kw_w 223 (by decide +kernel) (by decide +kernel), kw_w 102 (by decide +kernel) (by decide +kernel), by decide +kernel⟩
theorem lo_RX4_3 : Cond.methodLink RX4 3 Lib.objectInit ∈ kw := kw_w 227 (by decide +kernel) (by decide +kernel)
theorem nw_RX7_24 : k_nw RX7 24 5 10 := ⟨RX5, TX5, tyX5, k_cls5, kw_w 303 (by decide +kernel) (by decide +kernel), kw_w 124 (by decide +kernel) (by decide +kernel), kw_w 100 (by decide +kernel) (by decide +kernel), by decide +kernel⟩
theorem li_RX7_26 : Cond.methodLink RX7 26 yX5_init ∈ kw := kw_w 304 (by decide +kernel) (by decide +kernel)
theorem nw_RX7_31 : k_nw RX7 31 2 3 := ⟨RX2, TX2, tyX2, k_cls2, kw_w 305 (by decide +kernel) (by decide +kernel), kw_w 306 (by decide +kernel) (by decide +kernel), kw_w 103 (by decide +kernel) (by decide +kernel), by decide +kernel⟩
theorem lo_RX2_1 : Cond.methodLink RX2 1 Lib.objectInit ∈ kw := kw_w 310 (by decide +kernel) (by decide +kernel)
theorem nw_RX2_7 : k_nw RX2 7 1 6 := ⟨RX1, TX1, tyX1, k_cls1, kw_w 311 (by decide +kernel) (by decide +kernel), kw_w 188 (by decide +kernel) (by decide +kernel), kw_w 101 (by decide +kernel) (by decide +kernel), by decide +kernel⟩
theorem nw_RX2_16 : k_nw RX2 16 4 12 := ⟨RX4, TX4, tyX4, k_cls4, kw_w 313 (by decide +kernel) (by decide +kernel), kw_w 223 (by decide +kernel) (by decide +kernel), kw_w 102 (by decide +kernel) (by decide +kernel), by decide +kernel⟩
theorem nw_RX7_60 : k_nw RX7 60 0 1 := ⟨RX0, TX0, tyX0, k_cls0, kw_w 331 (by decide +kernel) (by decide +kernel), kw_w 332 (by decide +kernel) (by decide +kernel), kw_w 104 (by decide +kernel) (by decide +kernel), by decide +kernel⟩
theorem lo_RX0_3 : Cond.methodLink RX0 3 Lib.objectInit ∈ kw := kw_w 336 (by decide +kernel) (by decide +kernel)
theorem nw_RX7_67 : k_nw RX7 67 6 5 := ⟨RX6, TX6, tyX6, k_cls6, kw_w 341 (by decide +kernel) (by decide +kernel), kw_w 342 (by decide +kernel) (by decide +kernel), kw_w 105 (by decide +kernel) (by decide +kernel), by decide +kernel⟩
theorem lo_RX6_3 : Cond.methodLink RX6 3 Lib.objectInit ∈ kw := kw_w 346 (by decide +kernel) (by decide +kernel)
theorem nw_RL_10 : k_nw RL 10 8 20 := ⟨RX8, TX8, tyX8, k_cls8, kw_w 841 (by decide +kernel) (by decide +kernel), kw_w 842 (by decide +kernel) (by decide +kernel), kw_w 106 (by decide +kernel) (by decide +kernel), by decide +kernel⟩
theorem li_RL_12 : Cond.methodLink RL 12 yX8_init ∈ kw := kw_w 843 (by decide +kernel) (by decide +kernel)
theorem lo_RX8_1 : Cond.methodLink RX8 1 Lib.objectInit ∈ kw := kw_w 846 (by decide +kernel) (by decide +kernel)
def tab_X0_init : List (Nat × Instr × Nat) := [(0, .aload_n 0, 1), (1, .invokespecial 3, 3), (4, .aload_n 0, 1), (5, .sipush 7200, 3), (8, .newarray .int, 2), (10, .putfield 9, 3), (13, .return_, 1)]
def M_X0_init : kM := (yX0_init, RX0, cX0_init, tab_X0_init, 1, none, { frames := 1, cells := 1, slots := 7200, locals := 20 })
theorem tb_X0_init : ∀ q ∈ m_tab M_X0_init, decode (m_cc M_X0_init) q.1 = .ok q.2 := by decide +kernel
theorem gI_X0_init : k_gI M_X0_init 1 7200 := ⟨kw_w 335 (by decide +kernel) (by decide +kernel), kw_w 104 (by decide +kernel) (by decide +kernel), ⟨by decide +kernel, by decide +kernel, by decide +kernel⟩, rfl, rfl, rfl, kw_w 334 (by decide +kernel) (by decide +kernel), rfl⟩
theorem fp_RX0_9 : k_Fp RX0 9 0 0 1 (9, 7200) := ⟨RX0, TX0, 1, tyX0, (.array .int), k_cls0, by decide, rfl, kw_w 337 (by decide +kernel) (by decide +kernel), rfl, rfl, by decide +kernel, fun q => ⟨rfl, rfl⟩⟩
def tab_X1_init : List (Nat × Instr × Nat) := [(0, .aload_n 0, 1), (1, .invokespecial 3, 3), (4, .aload_n 0, 1), (5, .bipush 30, 2), (7, .newarray .int, 2), (9, .putfield 9, 3), (12, .aload_n 0, 1), (13, .bipush 30, 2), (15, .newarray .int, 2), (17, .putfield 15, 3), (20, .aload_n 0, 1), (21, .bipush 30, 2), (23, .newarray .int, 2), (25, .putfield 18, 3), (28, .aload_n 0, 1), (29, .bipush 30, 2), (31, .newarray .boolean, 2), (33, .putfield 21, 3), (36, .aload_n 0, 1), (37, .bipush 30, 2), (39, .newarray .boolean, 2), (41, .putfield 25, 3), (44, .aload_n 0, 1), (45, .bipush 30, 2), (47, .newarray .int, 2), (49, .putfield 28, 3), (52, .return_, 1)]
def M_X1_init : kM := (yX1_init, RX1, cX1_init, tab_X1_init, 1, none, { frames := 1, cells := 6, slots := 180, locals := 20 })
theorem tb_X1_init : ∀ q ∈ m_tab M_X1_init, decode (m_cc M_X1_init) q.1 = .ok q.2 := by decide +kernel
theorem gI_X1_init : k_gI M_X1_init 6 180 := ⟨kw_w 191 (by decide +kernel) (by decide +kernel), kw_w 101 (by decide +kernel) (by decide +kernel), ⟨by decide +kernel, by decide +kernel, by decide +kernel⟩, rfl, rfl, rfl, kw_w 190 (by decide +kernel) (by decide +kernel), rfl⟩
theorem fp_RX1_9 : k_Fp RX1 9 1 0 1 (9, 30) := ⟨RX1, TX1, 6, tyX1, (.array .int), k_cls1, by decide, rfl, kw_w 193 (by decide +kernel) (by decide +kernel), rfl, rfl, by decide +kernel, fun q => ⟨rfl, rfl⟩⟩
theorem fp_RX1_15 : k_Fp RX1 15 1 1 2 (9, 30) := ⟨RX1, TX1, 6, tyX1, (.array .int), k_cls1, by decide, rfl, kw_w 195 (by decide +kernel) (by decide +kernel), rfl, rfl, by decide +kernel, fun q => ⟨rfl, rfl⟩⟩
theorem fp_RX1_18 : k_Fp RX1 18 1 2 3 (9, 30) := ⟨RX1, TX1, 6, tyX1, (.array .int), k_cls1, by decide, rfl, kw_w 198 (by decide +kernel) (by decide +kernel), rfl, rfl, by decide +kernel, fun q => ⟨rfl, rfl⟩⟩
theorem fp_RX1_21 : k_Fp RX1 21 1 3 4 (11, 30) := ⟨RX1, TX1, 6, tyX1, (.array .boolean), k_cls1, by decide, rfl, kw_w 201 (by decide +kernel) (by decide +kernel), rfl, rfl, by decide +kernel, fun q => ⟨rfl, rfl⟩⟩
theorem fp_RX1_25 : k_Fp RX1 25 1 4 5 (11, 30) := ⟨RX1, TX1, 6, tyX1, (.array .boolean), k_cls1, by decide, rfl, kw_w 204 (by decide +kernel) (by decide +kernel), rfl, rfl, by decide +kernel, fun q => ⟨rfl, rfl⟩⟩
theorem fp_RX1_28 : k_Fp RX1 28 1 5 6 (9, 30) := ⟨RX1, TX1, 6, tyX1, (.array .int), k_cls1, by decide, rfl, kw_w 207 (by decide +kernel) (by decide +kernel), rfl, rfl, by decide +kernel, fun q => ⟨rfl, rfl⟩⟩
def tab_X2_init : List (Nat × Instr × Nat) := [(0, .aload_n 0, 1), (1, .invokespecial 1, 3), (4, .aload_n 0, 1), (5, .new 7, 3), (8, .dup, 1), (9, .invokespecial 9, 3), (12, .putfield 10, 3), (15, .aload_n 0, 1), (16, .new 16, 3), (19, .dup, 1), (20, .invokespecial 18, 3), (23, .putfield 19, 3), (26, .aload_n 0, 1), (27, .iconst 0, 1), (28, .putfield 23, 3), (31, .return_, 1)]
def M_X2_init : kM := (yX2_init, RX2, cX2_init, tab_X2_init, 1, none, { frames := 2, cells := 19, slots := 264, locals := 40 })
theorem tb_X2_init : ∀ q ∈ m_tab M_X2_init, decode (m_cc M_X2_init) q.1 = .ok q.2 := by decide +kernel
theorem gI_X2_init : k_gI M_X2_init 19 264 := ⟨kw_w 309 (by decide +kernel) (by decide +kernel), kw_w 103 (by decide +kernel) (by decide +kernel), ⟨by decide +kernel, by decide +kernel, by decide +kernel⟩, rfl, rfl, rfl, kw_w 308 (by decide +kernel) (by decide +kernel), rfl⟩
theorem fp_RX2_10 : k_Fp RX2 10 2 0 1 (1, 99) := ⟨RX2, TX2, 3, tyX2, (.object "PotBonfire$Fire"), k_cls2, by decide, rfl, kw_w 315 (by decide +kernel) (by decide +kernel), rfl, rfl, by decide +kernel, fun q => ⟨rfl, rfl⟩⟩
theorem fp_RX2_19 : k_Fp RX2 19 2 1 8 (4, 99) := ⟨RX2, TX2, 3, tyX2, (.object "PotBonfire$Pots"), k_cls2, by decide, rfl, kw_w 318 (by decide +kernel) (by decide +kernel), rfl, rfl, by decide +kernel, fun q => ⟨rfl, rfl⟩⟩
def tab_X3_init : List (Nat × Instr × Nat) := [(0, .aload_n 0, 1), (1, .invokespecial 3, 3), (4, .aload_n 0, 1), (5, .new 9, 3), (8, .dup, 1), (9, .invokespecial 11, 3), (12, .putfield 12, 3), (15, .aload_n 0, 1), (16, .new 18, 3), (19, .dup, 1), (20, .invokespecial 20, 3), (23, .putfield 21, 3), (26, .aload_n 0, 1), (27, .new 25, 3), (30, .dup, 1), (31, .invokespecial 27, 3), (34, .putfield 28, 3), (37, .aload_n 0, 1), (38, .bipush 6, 2), (40, .newarray .int, 2), (42, .putfield 32, 3), (45, .aload_n 0, 1), (46, .bipush 6, 2), (48, .newarray .int, 2), (50, .putfield 36, 3), (53, .aload_n 0, 1), (54, .bipush 6, 2), (56, .newarray .int, 2), (58, .putfield 39, 3), (61, .aload_n 0, 1), (62, .invokevirtual 42, 3), (65, .return_, 1)]
def M_X3_init : kM := (yX3_init, RX3, cX3_init, tab_X3_init, 1, none, { frames := 3, cells := 25, slots := 298, locals := 63 })
theorem tb_X3_init : ∀ q ∈ m_tab M_X3_init, decode (m_cc M_X3_init) q.1 = .ok q.2 := by decide +kernel
theorem gI_X3_init : k_gI M_X3_init 25 298 := ⟨kw_w 121 (by decide +kernel) (by decide +kernel), kw_w 99 (by decide +kernel) (by decide +kernel), ⟨by decide +kernel, by decide +kernel, by decide +kernel⟩, rfl, rfl, rfl, kw_w 120 (by decide +kernel) (by decide +kernel), rfl⟩
theorem fp_RX3_12 : k_Fp RX3 12 3 0 1 (5, 99) := ⟨RX3, TX3, 6, tyX3, (.object "PotBonfire$Rules"), k_cls3, by decide, rfl, kw_w 284 (by decide +kernel) (by decide +kernel), rfl, rfl, by decide +kernel, fun q => ⟨rfl, rfl⟩⟩
theorem fp_RX3_21 : k_Fp RX3 21 3 1 4 (1, 99) := ⟨RX3, TX3, 6, tyX3, (.object "PotBonfire$Fire"), k_cls3, by decide, rfl, kw_w 285 (by decide +kernel) (by decide +kernel), rfl, rfl, by decide +kernel, fun q => ⟨rfl, rfl⟩⟩
theorem fp_RX3_28 : k_Fp RX3 28 3 2 11 (4, 99) := ⟨RX3, TX3, 6, tyX3, (.object "PotBonfire$Pots"), k_cls3, by decide, rfl, kw_w 286 (by decide +kernel) (by decide +kernel), rfl, rfl, by decide +kernel, fun q => ⟨rfl, rfl⟩⟩
theorem fp_RX3_32 : k_Fp RX3 32 3 3 23 (9, 6) := ⟨RX3, TX3, 6, tyX3, (.array .int), k_cls3, by decide, rfl, kw_w 287 (by decide +kernel) (by decide +kernel), rfl, rfl, by decide +kernel, fun q => ⟨rfl, rfl⟩⟩
theorem fp_RX3_36 : k_Fp RX3 36 3 4 24 (9, 6) := ⟨RX3, TX3, 6, tyX3, (.array .int), k_cls3, by decide, rfl, kw_w 288 (by decide +kernel) (by decide +kernel), rfl, rfl, by decide +kernel, fun q => ⟨rfl, rfl⟩⟩
theorem fp_RX3_39 : k_Fp RX3 39 3 5 25 (9, 6) := ⟨RX3, TX3, 6, tyX3, (.array .int), k_cls3, by decide, rfl, kw_w 289 (by decide +kernel) (by decide +kernel), rfl, rfl, by decide +kernel, fun q => ⟨rfl, rfl⟩⟩
def tab_X4_init : List (Nat × Instr × Nat) := [(0, .aload_n 0, 1), (1, .invokespecial 3, 3), (4, .aload_n 0, 1), (5, .iconst 0, 1), (6, .putfield 9, 3), (9, .aload_n 0, 1), (10, .bipush 6, 2), (12, .newarray .int, 2), (14, .putfield 15, 3), (17, .aload_n 0, 1), (18, .bipush 6, 2), (20, .newarray .int, 2), (22, .putfield 19, 3), (25, .aload_n 0, 1), (26, .bipush 6, 2), (28, .newarray .int, 2), (30, .putfield 22, 3), (33, .aload_n 0, 1), (34, .bipush 6, 2), (36, .newarray .int, 2), (38, .putfield 25, 3), (41, .aload_n 0, 1), (42, .bipush 6, 2), (44, .newarray .int, 2), (46, .putfield 28, 3), (49, .aload_n 0, 1), (50, .bipush 6, 2), (52, .newarray .int, 2), (54, .putfield 31, 3), (57, .aload_n 0, 1), (58, .bipush 6, 2), (60, .newarray .int, 2), (62, .putfield 34, 3), (65, .aload_n 0, 1), (66, .bipush 6, 2), (68, .newarray .int, 2), (70, .putfield 37, 3), (73, .aload_n 0, 1), (74, .bipush 6, 2), (76, .newarray .int, 2), (78, .putfield 40, 3), (81, .aload_n 0, 1), (82, .bipush 6, 2), (84, .newarray .boolean, 2), (86, .putfield 43, 3), (89, .aload_n 0, 1), (90, .bipush 6, 2), (92, .newarray .boolean, 2), (94, .putfield 47, 3), (97, .return_, 1)]
def M_X4_init : kM := (yX4_init, RX4, cX4_init, tab_X4_init, 1, none, { frames := 1, cells := 11, slots := 66, locals := 20 })
theorem tb_X4_init : ∀ q ∈ m_tab M_X4_init, decode (m_cc M_X4_init) q.1 = .ok q.2 := by decide +kernel
theorem gI_X4_init : k_gI M_X4_init 11 66 := ⟨kw_w 226 (by decide +kernel) (by decide +kernel), kw_w 102 (by decide +kernel) (by decide +kernel), ⟨by decide +kernel, by decide +kernel, by decide +kernel⟩, rfl, rfl, rfl, kw_w 225 (by decide +kernel) (by decide +kernel), rfl⟩
theorem fp_RX4_15 : k_Fp RX4 15 4 1 1 (9, 6) := ⟨RX4, TX4, 12, tyX4, (.array .int), k_cls4, by decide, rfl, kw_w 231 (by decide +kernel) (by decide +kernel), rfl, rfl, by decide +kernel, fun q => ⟨rfl, rfl⟩⟩
theorem fp_RX4_19 : k_Fp RX4 19 4 2 2 (9, 6) := ⟨RX4, TX4, 12, tyX4, (.array .int), k_cls4, by decide, rfl, kw_w 234 (by decide +kernel) (by decide +kernel), rfl, rfl, by decide +kernel, fun q => ⟨rfl, rfl⟩⟩
theorem fp_RX4_22 : k_Fp RX4 22 4 3 3 (9, 6) := ⟨RX4, TX4, 12, tyX4, (.array .int), k_cls4, by decide, rfl, kw_w 235 (by decide +kernel) (by decide +kernel), rfl, rfl, by decide +kernel, fun q => ⟨rfl, rfl⟩⟩
theorem fp_RX4_25 : k_Fp RX4 25 4 4 4 (9, 6) := ⟨RX4, TX4, 12, tyX4, (.array .int), k_cls4, by decide, rfl, kw_w 237 (by decide +kernel) (by decide +kernel), rfl, rfl, by decide +kernel, fun q => ⟨rfl, rfl⟩⟩
theorem fp_RX4_28 : k_Fp RX4 28 4 5 5 (9, 6) := ⟨RX4, TX4, 12, tyX4, (.array .int), k_cls4, by decide, rfl, kw_w 239 (by decide +kernel) (by decide +kernel), rfl, rfl, by decide +kernel, fun q => ⟨rfl, rfl⟩⟩
theorem fp_RX4_31 : k_Fp RX4 31 4 6 6 (9, 6) := ⟨RX4, TX4, 12, tyX4, (.array .int), k_cls4, by decide, rfl, kw_w 240 (by decide +kernel) (by decide +kernel), rfl, rfl, by decide +kernel, fun q => ⟨rfl, rfl⟩⟩
theorem fp_RX4_34 : k_Fp RX4 34 4 7 7 (9, 6) := ⟨RX4, TX4, 12, tyX4, (.array .int), k_cls4, by decide, rfl, kw_w 242 (by decide +kernel) (by decide +kernel), rfl, rfl, by decide +kernel, fun q => ⟨rfl, rfl⟩⟩
theorem fp_RX4_37 : k_Fp RX4 37 4 8 8 (9, 6) := ⟨RX4, TX4, 12, tyX4, (.array .int), k_cls4, by decide, rfl, kw_w 244 (by decide +kernel) (by decide +kernel), rfl, rfl, by decide +kernel, fun q => ⟨rfl, rfl⟩⟩
theorem fp_RX4_40 : k_Fp RX4 40 4 9 9 (9, 6) := ⟨RX4, TX4, 12, tyX4, (.array .int), k_cls4, by decide, rfl, kw_w 246 (by decide +kernel) (by decide +kernel), rfl, rfl, by decide +kernel, fun q => ⟨rfl, rfl⟩⟩
theorem fp_RX4_43 : k_Fp RX4 43 4 10 10 (11, 6) := ⟨RX4, TX4, 12, tyX4, (.array .boolean), k_cls4, by decide, rfl, kw_w 248 (by decide +kernel) (by decide +kernel), rfl, rfl, by decide +kernel, fun q => ⟨rfl, rfl⟩⟩
theorem fp_RX4_47 : k_Fp RX4 47 4 11 11 (11, 6) := ⟨RX4, TX4, 12, tyX4, (.array .boolean), k_cls4, by decide, rfl, kw_w 249 (by decide +kernel) (by decide +kernel), rfl, rfl, by decide +kernel, fun q => ⟨rfl, rfl⟩⟩
def tab_X5_init : List (Nat × Instr × Nat) := [(0, .aload_n 0, 1), (1, .invokespecial 3, 3), (4, .aload_n 0, 1), (5, .iconst 3, 1), (6, .newarray .int, 2), (8, .putfield 9, 3), (11, .aload_n 0, 1), (12, .iconst 3, 1), (13, .newarray .int, 2), (15, .putfield 15, 3), (18, .aload_n 0, 1), (19, .invokevirtual 18, 3), (22, .return_, 1)]
def M_X5_init : kM := (yX5_init, RX5, cX5_init, tab_X5_init, 1, none, { frames := 2, cells := 2, slots := 6, locals := 43 })
theorem tb_X5_init : ∀ q ∈ m_tab M_X5_init, decode (m_cc M_X5_init) q.1 = .ok q.2 := by decide +kernel
theorem gI_X5_init : k_gI M_X5_init 2 6 := ⟨kw_w 127 (by decide +kernel) (by decide +kernel), kw_w 100 (by decide +kernel) (by decide +kernel), ⟨by decide +kernel, by decide +kernel, by decide +kernel⟩, rfl, rfl, rfl, kw_w 126 (by decide +kernel) (by decide +kernel), rfl⟩
theorem fp_RX5_9 : k_Fp RX5 9 5 2 1 (9, 3) := ⟨RX5, TX5, 10, tyX5, (.array .int), k_cls5, by decide, rfl, kw_w 143 (by decide +kernel) (by decide +kernel), rfl, rfl, by decide +kernel, fun q => ⟨rfl, rfl⟩⟩
theorem fp_RX5_15 : k_Fp RX5 15 5 3 2 (9, 3) := ⟨RX5, TX5, 10, tyX5, (.array .int), k_cls5, by decide, rfl, kw_w 145 (by decide +kernel) (by decide +kernel), rfl, rfl, by decide +kernel, fun q => ⟨rfl, rfl⟩⟩
def tab_X6_init : List (Nat × Instr × Nat) := [(0, .aload_n 0, 1), (1, .invokespecial 3, 3), (4, .return_, 1)]
def M_X6_init : kM := (yX6_init, RX6, cX6_init, tab_X6_init, 1, none, { frames := 1, cells := 0, slots := 0, locals := 20 })
theorem tb_X6_init : ∀ q ∈ m_tab M_X6_init, decode (m_cc M_X6_init) q.1 = .ok q.2 := by decide +kernel
theorem gI_X6_init : k_gI M_X6_init 0 0 := ⟨kw_w 345 (by decide +kernel) (by decide +kernel), kw_w 105 (by decide +kernel) (by decide +kernel), ⟨by decide +kernel, by decide +kernel, by decide +kernel⟩, rfl, rfl, rfl, kw_w 344 (by decide +kernel) (by decide +kernel), rfl⟩
def tab_X7_init : List (Nat × Instr × Nat) := [(0, .aload_n 0, 1), (1, .invokespecial 3, 3), (4, .aload_n 0, 1), (5, .sipush 500, 3), (8, .newarray .byte, 2), (10, .putfield 9, 3), (13, .aload_n 0, 1), (14, .iconst 0, 1), (15, .putfield 13, 3), (18, .aload_n 0, 1), (19, .new 17, 3), (22, .dup, 1), (23, .invokespecial 19, 3), (26, .putfield 20, 3), (29, .aload_n 0, 1), (30, .new 24, 3), (33, .dup, 1), (34, .invokespecial 26, 3), (37, .putfield 27, 3), (40, .aload_n 0, 1), (41, .new 31, 3), (44, .dup, 1), (45, .invokespecial 33, 3), (48, .putfield 34, 3), (51, .aload_n 0, 1), (52, .new 31, 3), (55, .dup, 1), (56, .invokespecial 33, 3), (59, .putfield 38, 3), (62, .aload_n 0, 1), (63, .new 31, 3), (66, .dup, 1), (67, .invokespecial 33, 3), (70, .putfield 41, 3), (73, .aload_n 0, 1), (74, .new 31, 3), (77, .dup, 1), (78, .invokespecial 33, 3), (81, .putfield 44, 3), (84, .aload_n 0, 1), (85, .new 31, 3), (88, .dup, 1), (89, .invokespecial 33, 3), (92, .putfield 47, 3), (95, .aload_n 0, 1), (96, .iconst 0, 1), (97, .putfield 50, 3), (100, .aload_n 0, 1), (101, .bipush 6, 2), (103, .newarray .int, 2), (105, .putfield 53, 3), (108, .aload_n 0, 1), (109, .iconst 0, 1), (110, .putfield 57, 3), (113, .aload_n 0, 1), (114, .new 60, 3), (117, .dup, 1), (118, .invokespecial 62, 3), (121, .putfield 63, 3), (124, .aload_n 0, 1), (125, .new 67, 3), (128, .dup, 1), (129, .invokespecial 69, 3), (132, .putfield 70, 3), (135, .aload_n 0, 1), (136, .getfield 20, 3), (139, .aload_n 0, 1), (140, .getfield 27, 3), (143, .aload_n 0, 1), (144, .getfield 34, 3), (147, .invokevirtual 74, 3), (150, .return_, 1)]
def M_X7_init : kM := (yX7_init, RX7, cX7_init, tab_X7_init, 1, none, { frames := 4, cells := 134, slots := 9367, locals := 83 })
theorem tb_X7_init : ∀ q ∈ m_tab M_X7_init, decode (m_cc M_X7_init) q.1 = .ok q.2 := by decide +kernel
theorem gI_X7_init : k_gI M_X7_init 134 9367 := ⟨kw_w 113 (by decide +kernel) (by decide +kernel), kw_w 98 (by decide +kernel) (by decide +kernel), ⟨by decide +kernel, by decide +kernel, by decide +kernel⟩, rfl, rfl, rfl, kw_w 112 (by decide +kernel) (by decide +kernel), rfl⟩
theorem fp_RX7_9 : k_Fp RX7 9 7 0 1 (10, 500) := ⟨RX7, TX7, 14, tyX7, (.array .byte), k_cls7, by decide, rfl, kw_w 379 (by decide +kernel) (by decide +kernel), rfl, rfl, by decide +kernel, fun q => ⟨rfl, rfl⟩⟩
theorem fp_RX7_20 : k_Fp RX7 20 7 2 2 (3, 99) := ⟨RX7, TX7, 14, tyX7, (.object "PotBonfire$Plan"), k_cls7, by decide, rfl, kw_w 381 (by decide +kernel) (by decide +kernel), rfl, rfl, by decide +kernel, fun q => ⟨rfl, rfl⟩⟩
theorem fp_RX7_27 : k_Fp RX7 27 7 3 28 (5, 99) := ⟨RX7, TX7, 14, tyX7, (.object "PotBonfire$Rules"), k_cls7, by decide, rfl, kw_w 382 (by decide +kernel) (by decide +kernel), rfl, rfl, by decide +kernel, fun q => ⟨rfl, rfl⟩⟩
theorem fp_RX7_34 : k_Fp RX7 34 7 4 31 (2, 99) := ⟨RX7, TX7, 14, tyX7, (.object "PotBonfire$Heap"), k_cls7, by decide, rfl, kw_w 383 (by decide +kernel) (by decide +kernel), rfl, rfl, by decide +kernel, fun q => ⟨rfl, rfl⟩⟩
theorem fp_RX7_38 : k_Fp RX7 38 7 5 51 (2, 99) := ⟨RX7, TX7, 14, tyX7, (.object "PotBonfire$Heap"), k_cls7, by decide, rfl, kw_w 384 (by decide +kernel) (by decide +kernel), rfl, rfl, by decide +kernel, fun q => ⟨rfl, rfl⟩⟩
theorem fp_RX7_41 : k_Fp RX7 41 7 6 71 (2, 99) := ⟨RX7, TX7, 14, tyX7, (.object "PotBonfire$Heap"), k_cls7, by decide, rfl, kw_w 385 (by decide +kernel) (by decide +kernel), rfl, rfl, by decide +kernel, fun q => ⟨rfl, rfl⟩⟩
theorem fp_RX7_44 : k_Fp RX7 44 7 7 91 (2, 99) := ⟨RX7, TX7, 14, tyX7, (.object "PotBonfire$Heap"), k_cls7, by decide, rfl, kw_w 386 (by decide +kernel) (by decide +kernel), rfl, rfl, by decide +kernel, fun q => ⟨rfl, rfl⟩⟩
theorem fp_RX7_47 : k_Fp RX7 47 7 8 111 (2, 99) := ⟨RX7, TX7, 14, tyX7, (.object "PotBonfire$Heap"), k_cls7, by decide, rfl, kw_w 387 (by decide +kernel) (by decide +kernel), rfl, rfl, by decide +kernel, fun q => ⟨rfl, rfl⟩⟩
theorem fp_RX7_53 : k_Fp RX7 53 7 10 131 (9, 6) := ⟨RX7, TX7, 14, tyX7, (.array .int), k_cls7, by decide, rfl, kw_w 389 (by decide +kernel) (by decide +kernel), rfl, rfl, by decide +kernel, fun q => ⟨rfl, rfl⟩⟩
theorem fp_RX7_63 : k_Fp RX7 63 7 12 132 (0, 99) := ⟨RX7, TX7, 14, tyX7, (.object "PotBonfire$Air"), k_cls7, by decide, rfl, kw_w 391 (by decide +kernel) (by decide +kernel), rfl, rfl, by decide +kernel, fun q => ⟨rfl, rfl⟩⟩
theorem fp_RX7_70 : k_Fp RX7 70 7 13 134 (6, 99) := ⟨RX7, TX7, 14, tyX7, (.object "PotBonfire$Tally"), k_cls7, by decide, rfl, kw_w 392 (by decide +kernel) (by decide +kernel), rfl, rfl, by decide +kernel, fun q => ⟨rfl, rfl⟩⟩
def tab_X8_init : List (Nat × Instr × Nat) := [(0, .aload_n 0, 1), (1, .invokespecial 1, 3), (4, .aload_n 0, 1), (5, .sipush 500, 3), (8, .newarray .byte, 2), (10, .putfield 7, 3), (13, .aload_n 0, 1), (14, .bipush 28, 2), (16, .newarray .int, 2), (18, .putfield 13, 3), (21, .aload_n 0, 1), (22, .iconst 2, 1), (23, .newarray .int, 2), (25, .putfield 17, 3), (28, .aload_n 0, 1), (29, .bipush 6, 2), (31, .newarray .int, 2), (33, .putfield 20, 3), (36, .aload_n 0, 1), (37, .bipush 6, 2), (39, .newarray .int, 2), (41, .putfield 23, 3), (44, .aload_n 0, 1), (45, .bipush 36, 2), (47, .newarray .int, 2), (49, .putfield 26, 3), (52, .aload_n 0, 1), (53, .bipush 120, 2), (55, .newarray .int, 2), (57, .putfield 29, 3), (60, .aload_n 0, 1), (61, .sipush 800, 3), (64, .newarray .int, 2), (66, .putfield 32, 3), (69, .aload_n 0, 1), (70, .bipush 6, 2), (72, .newarray .int, 2), (74, .putfield 35, 3), (77, .aload_n 0, 1), (78, .bipush 30, 2), (80, .newarray .int, 2), (82, .putfield 38, 3), (85, .aload_n 0, 1), (86, .bipush 6, 2), (88, .newarray .int, 2), (90, .putfield 41, 3), (93, .aload_n 0, 1), (94, .bipush 6, 2), (96, .newarray .boolean, 2), (98, .putfield 44, 3), (101, .aload_n 0, 1), (102, .iconst 4, 1), (103, .newarray .int, 2), (105, .putfield 48, 3), (108, .aload_n 0, 1), (109, .iconst 4, 1), (110, .newarray .int, 2), (112, .putfield 51, 3), (115, .aload_n 0, 1), (116, .iconst 5, 1), (117, .newarray .int, 2), (119, .putfield 54, 3), (122, .aload_n 0, 1), (123, .bipush 6, 2), (125, .newarray .int, 2), (127, .putfield 57, 3), (130, .aload_n 0, 1), (131, .invokevirtual 60, 3), (134, .aload_n 0, 1), (135, .invokevirtual 63, 3), (138, .return_, 1)]
def M_X8_init : kM := (yX8_init, RX8, cX8_init, tab_X8_init, 1, none, { frames := 2, cells := 16, slots := 1565, locals := 42 })
theorem tb_X8_init : ∀ q ∈ m_tab M_X8_init, decode (m_cc M_X8_init) q.1 = .ok q.2 := by decide +kernel
theorem gI_X8_init : k_gI M_X8_init 16 1565 := ⟨kw_w 845 (by decide +kernel) (by decide +kernel), kw_w 106 (by decide +kernel) (by decide +kernel), ⟨by decide +kernel, by decide +kernel, by decide +kernel⟩, rfl, rfl, rfl, kw_w 844 (by decide +kernel) (by decide +kernel), rfl⟩
theorem fp_RX8_7 : k_Fp RX8 7 8 1 1 (10, 500) := ⟨RX8, TX8, 20, tyX8, (.array .byte), k_cls8, by decide, rfl, kw_w 860 (by decide +kernel) (by decide +kernel), rfl, rfl, by decide +kernel, fun q => ⟨rfl, rfl⟩⟩
theorem fp_RX8_13 : k_Fp RX8 13 8 3 2 (9, 28) := ⟨RX8, TX8, 20, tyX8, (.array .int), k_cls8, by decide, rfl, kw_w 862 (by decide +kernel) (by decide +kernel), rfl, rfl, by decide +kernel, fun q => ⟨rfl, rfl⟩⟩
theorem fp_RX8_17 : k_Fp RX8 17 8 4 3 (9, 2) := ⟨RX8, TX8, 20, tyX8, (.array .int), k_cls8, by decide, rfl, kw_w 863 (by decide +kernel) (by decide +kernel), rfl, rfl, by decide +kernel, fun q => ⟨rfl, rfl⟩⟩
theorem fp_RX8_20 : k_Fp RX8 20 8 5 4 (9, 6) := ⟨RX8, TX8, 20, tyX8, (.array .int), k_cls8, by decide, rfl, kw_w 864 (by decide +kernel) (by decide +kernel), rfl, rfl, by decide +kernel, fun q => ⟨rfl, rfl⟩⟩
theorem fp_RX8_23 : k_Fp RX8 23 8 6 5 (9, 6) := ⟨RX8, TX8, 20, tyX8, (.array .int), k_cls8, by decide, rfl, kw_w 865 (by decide +kernel) (by decide +kernel), rfl, rfl, by decide +kernel, fun q => ⟨rfl, rfl⟩⟩
theorem fp_RX8_26 : k_Fp RX8 26 8 7 6 (9, 36) := ⟨RX8, TX8, 20, tyX8, (.array .int), k_cls8, by decide, rfl, kw_w 866 (by decide +kernel) (by decide +kernel), rfl, rfl, by decide +kernel, fun q => ⟨rfl, rfl⟩⟩
theorem fp_RX8_29 : k_Fp RX8 29 8 8 7 (9, 120) := ⟨RX8, TX8, 20, tyX8, (.array .int), k_cls8, by decide, rfl, kw_w 867 (by decide +kernel) (by decide +kernel), rfl, rfl, by decide +kernel, fun q => ⟨rfl, rfl⟩⟩
theorem fp_RX8_32 : k_Fp RX8 32 8 9 8 (9, 800) := ⟨RX8, TX8, 20, tyX8, (.array .int), k_cls8, by decide, rfl, kw_w 868 (by decide +kernel) (by decide +kernel), rfl, rfl, by decide +kernel, fun q => ⟨rfl, rfl⟩⟩
theorem fp_RX8_35 : k_Fp RX8 35 8 12 9 (9, 6) := ⟨RX8, TX8, 20, tyX8, (.array .int), k_cls8, by decide, rfl, kw_w 871 (by decide +kernel) (by decide +kernel), rfl, rfl, by decide +kernel, fun q => ⟨rfl, rfl⟩⟩
theorem fp_RX8_38 : k_Fp RX8 38 8 13 10 (9, 30) := ⟨RX8, TX8, 20, tyX8, (.array .int), k_cls8, by decide, rfl, kw_w 872 (by decide +kernel) (by decide +kernel), rfl, rfl, by decide +kernel, fun q => ⟨rfl, rfl⟩⟩
theorem fp_RX8_41 : k_Fp RX8 41 8 14 11 (9, 6) := ⟨RX8, TX8, 20, tyX8, (.array .int), k_cls8, by decide, rfl, kw_w 873 (by decide +kernel) (by decide +kernel), rfl, rfl, by decide +kernel, fun q => ⟨rfl, rfl⟩⟩
theorem fp_RX8_44 : k_Fp RX8 44 8 15 12 (11, 6) := ⟨RX8, TX8, 20, tyX8, (.array .boolean), k_cls8, by decide, rfl, kw_w 874 (by decide +kernel) (by decide +kernel), rfl, rfl, by decide +kernel, fun q => ⟨rfl, rfl⟩⟩
theorem fp_RX8_48 : k_Fp RX8 48 8 16 13 (9, 4) := ⟨RX8, TX8, 20, tyX8, (.array .int), k_cls8, by decide, rfl, kw_w 875 (by decide +kernel) (by decide +kernel), rfl, rfl, by decide +kernel, fun q => ⟨rfl, rfl⟩⟩
theorem fp_RX8_51 : k_Fp RX8 51 8 17 14 (9, 4) := ⟨RX8, TX8, 20, tyX8, (.array .int), k_cls8, by decide, rfl, kw_w 876 (by decide +kernel) (by decide +kernel), rfl, rfl, by decide +kernel, fun q => ⟨rfl, rfl⟩⟩
theorem fp_RX8_54 : k_Fp RX8 54 8 18 15 (9, 5) := ⟨RX8, TX8, 20, tyX8, (.array .int), k_cls8, by decide, rfl, kw_w 877 (by decide +kernel) (by decide +kernel), rfl, rfl, by decide +kernel, fun q => ⟨rfl, rfl⟩⟩
theorem fp_RX8_57 : k_Fp RX8 57 8 19 16 (9, 6) := ⟨RX8, TX8, 20, tyX8, (.array .int), k_cls8, by decide, rfl, kw_w 878 (by decide +kernel) (by decide +kernel), rfl, rfl, by decide +kernel, fun q => ⟨rfl, rfl⟩⟩
def isP (ci i : Nat) : Bool := match (k_fd ci)[i]? with
  | some (some _) => true
  | _ => false
theorem k_fd_20 {c i : Nat} (h : i < (k_fd c).length) : i < 20 := by
  have h9 := k_fd_9 h
  have all : ∀ c, c < 9 → (k_fd c).length ≤ 20 := by decide
  have := all c h9
  omega
theorem hm_of {ci m m' j : Nat} (hh : ∀ i, i < 20 → isP ci i = true → (i < m' ↔ i < m ∨ i = j)) : ∀ (i : Nat) (q : Nat × kT), (k_fd ci)[i]? = some (some q) → (i < m' ↔ i < m ∨ i = j) := fun i q hq => hh i (k_fd_20 (List.getElem?_eq_some_iff.mp hq).1) (by unfold isP; rw [hq])
theorem tr_ha {n n' : Nat} {a a' g : Nat → Nat} (hn : n ≤ n') (ha : ∀ i, i < n → a i = g i) (ha' : ∀ i, i < n' → a' i = a i) : ∀ i, i < n → a' i = g i := fun i hi => (ha' i (Nat.lt_of_lt_of_le hi hn)).trans (ha i hi)
theorem V_seal {G : kG} {M : kM} {X : kX} {T : List kT} {kc ks pc : Nat} {lc : List (Option kV)} {st : List kV} {h : kH} {ci m k : Nat} (hT : T[k]? = some (ci, m)) (hc : ci < 9) (hm : ∀ (i : Nat) (q : Nat × kT), (k_fd ci)[i]? = some (some q) → i < m) (kk : V G M X (T.set k (ci, 99)) kc ks pc lc st h) : V G M X T kc ks pc lc st h := by
  intro C hW hs hl H ls locs hP hA hS hL
  have hle : k_le T (T.set k (ci, 99)) := k_le_set hT hc (fun _ => rfl)
  have hlT := (List.getElem?_eq_some_iff.mp hT).1
  have e1 : k_wl G T h = k_wl G (T.set k (ci, 99)) h := by
    refine k_ext fun i => ?_
    by_cases hi : i < T.length
    · rw [k_wl_at (List.getElem?_eq_getElem hi)]
      by_cases e : i = k
      · subst e
        have e3 : T[i] = (ci, m) := Option.some.inj ((List.getElem?_eq_getElem hi).symm.trans hT)
        rw [k_wl_at (t := (ci, 99)) (by rw [List.getElem?_set_self hlT]), e3]
        congr 2
        rw [k_ce, k_ce, if_neg (show ¬ ci = 9 by omega), if_neg (show ¬ ci = 10 by omega), if_neg (show ¬ ci = 11 by omega), if_neg (show ¬ ci = 9 by omega), if_neg (show ¬ ci = 10 by omega), if_neg (show ¬ ci = 11 by omega)]
        congr 2
        refine k_ext fun x => ?_
        by_cases hx : x < (k_fd ci).length
        · cases e : (k_fd ci)[x] with
          | none => rw [k_fv_i (t := (ci, m)) (by rw [List.getElem?_eq_getElem hx, e]), k_fv_i (t := (ci, 99)) (by rw [List.getElem?_eq_getElem hx, e])]
          | some q =>
            have hq : (k_fd ci)[x]? = some (some q) := by rw [List.getElem?_eq_getElem hx, e]
            have h20 := k_fd_20 hx
            rw [k_fv_r (t := (ci, m)) (off := q.1) (u := q.2) hq, k_fv_r (t := (ci, 99)) (off := q.1) (u := q.2) hq, if_pos (show x < m from hm x q hq), if_pos (show x < 99 by omega)]
        · rw [List.getElem?_eq_none (by rw [k_fv_len]; exact Nat.le_of_not_lt hx), List.getElem?_eq_none (by rw [k_fv_len]; exact Nat.le_of_not_lt hx)]
      · rw [k_wl_at (t := T[i]) (by rw [List.getElem?_set_ne (Ne.symm e)]; exact List.getElem?_eq_getElem hi)]
    · rw [List.getElem?_eq_none (by rw [k_wl_len]; omega), List.getElem?_eq_none (by rw [k_wl_len, List.length_set]; omega)]
  have hW2 : k_WF (T.set k (ci, 99)) := by
    intro i t' hi h9 x q hq hx
    obtain ⟨q0, q9, -⟩ := k_fd_ok hq
    by_cases e : i = k
    · subst e
      rw [List.getElem?_set_self hlT] at hi
      have e2 : (ci, 99) = t' := Option.some.inj hi
      subst e2
      rw [List.getElem?_set_ne (by omega)]
      exact hW i _ hT h9 x q hq (hm x q hq)
    · rw [List.getElem?_set_ne (Ne.symm e)] at hi
      have w := hW i t' hi h9 x q hq hx
      by_cases e3 : i + q.1 = k
      · rw [e3, hT] at w
        have e4 : (ci, m) = q.2 := Option.some.inj w
        have e5 : q.2.2 = 99 := q9 (by rw [← e4]; exact hc)
        rw [e3, List.getElem?_set_self hlT, ← e4]
        rw [← e4] at e5
        rw [show m = 99 from e5]
      · rw [List.getElem?_set_ne (fun z => e3 z.symm)]
        exact w
  have hA2 : k_AD G (T.set k (ci, 99)) := by
    unfold k_AD
    rw [List.length_set]
    exact hA
  rw [e1] at hP
  exact kk C hW2 (fun v hv => ok_le hle (hs v hv)) (fun v hv => ok_le hle (hl v hv)) H ls locs hP hA2 hS hL
theorem no_parts6 : ∀ (i : Nat) (q : Nat × kT), (k_fd 6)[i]? = some (some q) → i < 0 := by
  intro i q hq
  have h20 := k_fd_20 (List.getElem?_eq_some_iff.mp hq).1
  have e6 : isP 6 i = true := by unfold isP; rw [hq]
  have all : ∀ i, i < 20 → isP 6 i = false := by decide
  rw [all i h20] at e6
  cases e6
