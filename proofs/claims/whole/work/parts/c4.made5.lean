/-! the constructors walked -/
set_option maxHeartbeats 4000000 in
set_option maxRecDepth 100000 in
theorem k_i0 {G : kG} {T0 : List kT} {R : Nat} {h : kH} (hR0 : T0.length = R) (hz : ∀ k, R ≤ k → h k = fun _ => 0) : k_CI G M_X0_init (T0 ++ [(0, 0)]) (0, 0) R h (T0 ++ [(0, 99), (9, 7200)]) h 1 7200 := by
  refine k_CI_of (by decide +kernel) rfl tb_X0_init rfl rfl (fun X hin hRI => ?_)
  have ha : ∀ i, i < (T0 ++ [(0, 0)]).length → g_a G i = g_a G i := fun _ _ => rfl
  have hn : (T0 ++ [(0, 0)]).length = R + 1 := app_len hR0 rfl
  suffices H : ∀ a : Nat → Nat, (∀ i, i < (T0 ++ [(0, 0)]).length → a i = g_a G i) → V (ga G a) M_X0_init X (T0 ++ [(0, 0)]) 0 0 0 [some (rv (0, 0) R)] [] h from H (g_a G) ha
  clear ha
  intro a ha
  refine V_aload_n 0 rfl rfl ?_
  refine V_objInit 1 rfl lo_RX0_3 oi_1 oi_2 ⟨Nat.le_of_ble_eq_true rfl, Nat.le_of_ble_eq_true rfl⟩ ?_
  refine V_aload_n 2 rfl rfl ?_
  refine V_sipush (nI 7200) 3 rfl sp_7200 ?_
  refine V_newI (F := 7200) (n := R + 1) 4 rfl ac_I (by decide +kernel) (by decide +kernel) (Nat.le_of_ble_eq_true rfl) (app_len hR0 rfl) (hz _ (by omega)) ⟨Nat.le_of_ble_eq_true rfl, Nat.le_of_ble_eq_true rfl⟩ (fun a' ha' => ?_)
  replace ha := tr_ha (by rw [hn]; omega) ha ha'
  clear ha'
  rw [List.append_assoc]
  show V (ga G a') M_X0_init X (T0 ++ [(0, 0), (9, 7200)]) 1 7200 10 [some (rv (0, 0) R)] [rv (9, 7200) (R + 1), rv (0, 0) R] h
  revert a'
  clear a
  intro a ha
  refine V_putR (t := (9, 7200)) (off := 1) (j := 0) (m := 0) 99 5 rfl fp_RX0_9 hin (app_0 hR0) (by decide) rfl (app_at hR0 1) (Nat.le_of_ble_eq_true rfl) (hm_of (by decide)) ?_
  rw [app_set hR0]
  show V (ga G a) M_X0_init X (T0 ++ [(0, 99), (9, 7200)]) 1 7200 13 [some (rv (0, 0) R)] [] h
  refine V_up0 (app_0 hR0) (Nat.le_of_ble_eq_true rfl) ?_
  exact V_vretI 6 rfl hRI rfl ha
set_option maxHeartbeats 4000000 in
set_option maxRecDepth 100000 in
theorem k_i1 {G : kG} {T0 : List kT} {R : Nat} {h : kH} (hR0 : T0.length = R) (hz : ∀ k, R ≤ k → h k = fun _ => 0) : k_CI G M_X1_init (T0 ++ [(1, 0)]) (1, 0) R h (T0 ++ [(1, 99), (9, 30), (9, 30), (9, 30), (11, 30), (11, 30), (9, 30)]) h 6 180 := by
  refine k_CI_of (by decide +kernel) rfl tb_X1_init rfl rfl (fun X hin hRI => ?_)
  have ha : ∀ i, i < (T0 ++ [(1, 0)]).length → g_a G i = g_a G i := fun _ _ => rfl
  have hn : (T0 ++ [(1, 0)]).length = R + 1 := app_len hR0 rfl
  suffices H : ∀ a : Nat → Nat, (∀ i, i < (T0 ++ [(1, 0)]).length → a i = g_a G i) → V (ga G a) M_X1_init X (T0 ++ [(1, 0)]) 0 0 0 [some (rv (1, 0) R)] [] h from H (g_a G) ha
  clear ha
  intro a ha
  refine V_aload_n 0 rfl rfl ?_
  refine V_objInit 1 rfl lo_RX1_3 oi_1 oi_2 ⟨Nat.le_of_ble_eq_true rfl, Nat.le_of_ble_eq_true rfl⟩ ?_
  refine V_aload_n 2 rfl rfl ?_
  refine V_bipush (nI 30) 3 rfl bp_30 ?_
  refine V_newI (F := 30) (n := R + 1) 4 rfl ac_I (by decide +kernel) (by decide +kernel) (Nat.le_of_ble_eq_true rfl) (app_len hR0 rfl) (hz _ (by omega)) ⟨Nat.le_of_ble_eq_true rfl, Nat.le_of_ble_eq_true rfl⟩ (fun a' ha' => ?_)
  replace ha := tr_ha (by rw [hn]; omega) ha ha'
  clear ha'
  rw [List.append_assoc]
  show V (ga G a') M_X1_init X (T0 ++ [(1, 0), (9, 30)]) 1 30 9 [some (rv (1, 0) R)] [rv (9, 30) (R + 1), rv (1, 0) R] h
  revert a'
  clear a
  intro a ha
  refine V_putR (t := (9, 30)) (off := 1) (j := 0) (m := 0) 1 5 rfl fp_RX1_9 hin (app_0 hR0) (by decide) rfl (app_at hR0 1) (Nat.le_of_ble_eq_true rfl) (hm_of (by decide)) ?_
  rw [app_set hR0]
  show V (ga G a) M_X1_init X (T0 ++ [(1, 1), (9, 30)]) 1 30 12 [some (rv (1, 0) R)] [] h
  refine V_aload_n 6 rfl rfl ?_
  refine V_bipush (nI 30) 7 rfl bp_30 ?_
  refine V_newI (F := 30) (n := R + 2) 8 rfl ac_I (by decide +kernel) (by decide +kernel) (Nat.le_of_ble_eq_true rfl) (app_len hR0 rfl) (hz _ (by omega)) ⟨Nat.le_of_ble_eq_true rfl, Nat.le_of_ble_eq_true rfl⟩ (fun a' ha' => ?_)
  replace ha := tr_ha (by rw [hn]; omega) ha ha'
  clear ha'
  rw [List.append_assoc]
  show V (ga G a') M_X1_init X (T0 ++ [(1, 1), (9, 30), (9, 30)]) 2 60 17 [some (rv (1, 0) R)] [rv (9, 30) (R + 2), rv (1, 0) R] h
  revert a'
  clear a
  intro a ha
  refine V_putR (t := (9, 30)) (off := 2) (j := 1) (m := 1) 2 9 rfl fp_RX1_15 hin (app_0 hR0) (by decide) rfl (app_at hR0 2) (Nat.le_of_ble_eq_true rfl) (hm_of (by decide)) ?_
  rw [app_set hR0]
  show V (ga G a) M_X1_init X (T0 ++ [(1, 2), (9, 30), (9, 30)]) 2 60 20 [some (rv (1, 0) R)] [] h
  refine V_aload_n 10 rfl rfl ?_
  refine V_bipush (nI 30) 11 rfl bp_30 ?_
  refine V_newI (F := 30) (n := R + 3) 12 rfl ac_I (by decide +kernel) (by decide +kernel) (Nat.le_of_ble_eq_true rfl) (app_len hR0 rfl) (hz _ (by omega)) ⟨Nat.le_of_ble_eq_true rfl, Nat.le_of_ble_eq_true rfl⟩ (fun a' ha' => ?_)
  replace ha := tr_ha (by rw [hn]; omega) ha ha'
  clear ha'
  rw [List.append_assoc]
  show V (ga G a') M_X1_init X (T0 ++ [(1, 2), (9, 30), (9, 30), (9, 30)]) 3 90 25 [some (rv (1, 0) R)] [rv (9, 30) (R + 3), rv (1, 0) R] h
  revert a'
  clear a
  intro a ha
  refine V_putR (t := (9, 30)) (off := 3) (j := 2) (m := 2) 3 13 rfl fp_RX1_18 hin (app_0 hR0) (by decide) rfl (app_at hR0 3) (Nat.le_of_ble_eq_true rfl) (hm_of (by decide)) ?_
  rw [app_set hR0]
  show V (ga G a) M_X1_init X (T0 ++ [(1, 3), (9, 30), (9, 30), (9, 30)]) 3 90 28 [some (rv (1, 0) R)] [] h
  refine V_aload_n 14 rfl rfl ?_
  refine V_bipush (nI 30) 15 rfl bp_30 ?_
  refine V_newZ (F := 30) (n := R + 4) 16 rfl ac_Z (by decide +kernel) (by decide +kernel) (Nat.le_of_ble_eq_true rfl) (app_len hR0 rfl) (hz _ (by omega)) ⟨Nat.le_of_ble_eq_true rfl, Nat.le_of_ble_eq_true rfl⟩ (fun a' ha' => ?_)
  replace ha := tr_ha (by rw [hn]; omega) ha ha'
  clear ha'
  rw [List.append_assoc]
  show V (ga G a') M_X1_init X (T0 ++ [(1, 3), (9, 30), (9, 30), (9, 30), (11, 30)]) 4 120 33 [some (rv (1, 0) R)] [rv (11, 30) (R + 4), rv (1, 0) R] h
  revert a'
  clear a
  intro a ha
  refine V_putR (t := (11, 30)) (off := 4) (j := 3) (m := 3) 4 17 rfl fp_RX1_21 hin (app_0 hR0) (by decide) rfl (app_at hR0 4) (Nat.le_of_ble_eq_true rfl) (hm_of (by decide)) ?_
  rw [app_set hR0]
  show V (ga G a) M_X1_init X (T0 ++ [(1, 4), (9, 30), (9, 30), (9, 30), (11, 30)]) 4 120 36 [some (rv (1, 0) R)] [] h
  refine V_aload_n 18 rfl rfl ?_
  refine V_bipush (nI 30) 19 rfl bp_30 ?_
  refine V_newZ (F := 30) (n := R + 5) 20 rfl ac_Z (by decide +kernel) (by decide +kernel) (Nat.le_of_ble_eq_true rfl) (app_len hR0 rfl) (hz _ (by omega)) ⟨Nat.le_of_ble_eq_true rfl, Nat.le_of_ble_eq_true rfl⟩ (fun a' ha' => ?_)
  replace ha := tr_ha (by rw [hn]; omega) ha ha'
  clear ha'
  rw [List.append_assoc]
  show V (ga G a') M_X1_init X (T0 ++ [(1, 4), (9, 30), (9, 30), (9, 30), (11, 30), (11, 30)]) 5 150 41 [some (rv (1, 0) R)] [rv (11, 30) (R + 5), rv (1, 0) R] h
  revert a'
  clear a
  intro a ha
  refine V_putR (t := (11, 30)) (off := 5) (j := 4) (m := 4) 5 21 rfl fp_RX1_25 hin (app_0 hR0) (by decide) rfl (app_at hR0 5) (Nat.le_of_ble_eq_true rfl) (hm_of (by decide)) ?_
  rw [app_set hR0]
  show V (ga G a) M_X1_init X (T0 ++ [(1, 5), (9, 30), (9, 30), (9, 30), (11, 30), (11, 30)]) 5 150 44 [some (rv (1, 0) R)] [] h
  refine V_aload_n 22 rfl rfl ?_
  refine V_bipush (nI 30) 23 rfl bp_30 ?_
  refine V_newI (F := 30) (n := R + 6) 24 rfl ac_I (by decide +kernel) (by decide +kernel) (Nat.le_of_ble_eq_true rfl) (app_len hR0 rfl) (hz _ (by omega)) ⟨Nat.le_of_ble_eq_true rfl, Nat.le_of_ble_eq_true rfl⟩ (fun a' ha' => ?_)
  replace ha := tr_ha (by rw [hn]; omega) ha ha'
  clear ha'
  rw [List.append_assoc]
  show V (ga G a') M_X1_init X (T0 ++ [(1, 5), (9, 30), (9, 30), (9, 30), (11, 30), (11, 30), (9, 30)]) 6 180 49 [some (rv (1, 0) R)] [rv (9, 30) (R + 6), rv (1, 0) R] h
  revert a'
  clear a
  intro a ha
  refine V_putR (t := (9, 30)) (off := 6) (j := 5) (m := 5) 99 25 rfl fp_RX1_28 hin (app_0 hR0) (by decide) rfl (app_at hR0 6) (Nat.le_of_ble_eq_true rfl) (hm_of (by decide)) ?_
  rw [app_set hR0]
  show V (ga G a) M_X1_init X (T0 ++ [(1, 99), (9, 30), (9, 30), (9, 30), (11, 30), (11, 30), (9, 30)]) 6 180 52 [some (rv (1, 0) R)] [] h
  refine V_up0 (app_0 hR0) (Nat.le_of_ble_eq_true rfl) ?_
  exact V_vretI 26 rfl hRI rfl ha
set_option maxHeartbeats 4000000 in
set_option maxRecDepth 100000 in
theorem k_i4 {G : kG} {T0 : List kT} {R : Nat} {h : kH} (hR0 : T0.length = R) (hz : ∀ k, R ≤ k → h k = fun _ => 0) : k_CI G M_X4_init (T0 ++ [(4, 0)]) (4, 0) R h (T0 ++ [(4, 99), (9, 6), (9, 6), (9, 6), (9, 6), (9, 6), (9, 6), (9, 6), (9, 6), (9, 6), (11, 6), (11, 6)]) h 11 66 := by
  refine k_CI_of (by decide +kernel) rfl tb_X4_init rfl rfl (fun X hin hRI => ?_)
  have ha : ∀ i, i < (T0 ++ [(4, 0)]).length → g_a G i = g_a G i := fun _ _ => rfl
  have hn : (T0 ++ [(4, 0)]).length = R + 1 := app_len hR0 rfl
  suffices H : ∀ a : Nat → Nat, (∀ i, i < (T0 ++ [(4, 0)]).length → a i = g_a G i) → V (ga G a) M_X4_init X (T0 ++ [(4, 0)]) 0 0 0 [some (rv (4, 0) R)] [] h from H (g_a G) ha
  clear ha
  intro a ha
  refine V_aload_n 0 rfl rfl ?_
  refine V_objInit 1 rfl lo_RX4_3 oi_1 oi_2 ⟨Nat.le_of_ble_eq_true rfl, Nat.le_of_ble_eq_true rfl⟩ ?_
  refine V_aload_n 2 rfl rfl ?_
  refine V_iconst (nI 0) 3 rfl ic_0 ?_
  refine V_putI 4 rfl fi_RX4_9 ?_
  rw [hs_z (hz _ (by omega))]
  show V (ga G a) M_X4_init X (T0 ++ [(4, 0)]) 0 0 9 [some (rv (4, 0) R)] [] h
  refine V_aload_n 5 rfl rfl ?_
  refine V_bipush (nI 6) 6 rfl bp_6 ?_
  refine V_newI (F := 6) (n := R + 1) 7 rfl ac_I (by decide +kernel) (by decide +kernel) (Nat.le_of_ble_eq_true rfl) (app_len hR0 rfl) (hz _ (by omega)) ⟨Nat.le_of_ble_eq_true rfl, Nat.le_of_ble_eq_true rfl⟩ (fun a' ha' => ?_)
  replace ha := tr_ha (by rw [hn]; omega) ha ha'
  clear ha'
  rw [List.append_assoc]
  show V (ga G a') M_X4_init X (T0 ++ [(4, 0), (9, 6)]) 1 6 14 [some (rv (4, 0) R)] [rv (9, 6) (R + 1), rv (4, 0) R] h
  revert a'
  clear a
  intro a ha
  refine V_putR (t := (9, 6)) (off := 1) (j := 1) (m := 0) 2 8 rfl fp_RX4_15 hin (app_0 hR0) (by decide) rfl (app_at hR0 1) (Nat.le_of_ble_eq_true rfl) (hm_of (by decide)) ?_
  rw [app_set hR0]
  show V (ga G a) M_X4_init X (T0 ++ [(4, 2), (9, 6)]) 1 6 17 [some (rv (4, 0) R)] [] h
  refine V_aload_n 9 rfl rfl ?_
  refine V_bipush (nI 6) 10 rfl bp_6 ?_
  refine V_newI (F := 6) (n := R + 2) 11 rfl ac_I (by decide +kernel) (by decide +kernel) (Nat.le_of_ble_eq_true rfl) (app_len hR0 rfl) (hz _ (by omega)) ⟨Nat.le_of_ble_eq_true rfl, Nat.le_of_ble_eq_true rfl⟩ (fun a' ha' => ?_)
  replace ha := tr_ha (by rw [hn]; omega) ha ha'
  clear ha'
  rw [List.append_assoc]
  show V (ga G a') M_X4_init X (T0 ++ [(4, 2), (9, 6), (9, 6)]) 2 12 22 [some (rv (4, 0) R)] [rv (9, 6) (R + 2), rv (4, 0) R] h
  revert a'
  clear a
  intro a ha
  refine V_putR (t := (9, 6)) (off := 2) (j := 2) (m := 2) 3 12 rfl fp_RX4_19 hin (app_0 hR0) (by decide) rfl (app_at hR0 2) (Nat.le_of_ble_eq_true rfl) (hm_of (by decide)) ?_
  rw [app_set hR0]
  show V (ga G a) M_X4_init X (T0 ++ [(4, 3), (9, 6), (9, 6)]) 2 12 25 [some (rv (4, 0) R)] [] h
  refine V_aload_n 13 rfl rfl ?_
  refine V_bipush (nI 6) 14 rfl bp_6 ?_
  refine V_newI (F := 6) (n := R + 3) 15 rfl ac_I (by decide +kernel) (by decide +kernel) (Nat.le_of_ble_eq_true rfl) (app_len hR0 rfl) (hz _ (by omega)) ⟨Nat.le_of_ble_eq_true rfl, Nat.le_of_ble_eq_true rfl⟩ (fun a' ha' => ?_)
  replace ha := tr_ha (by rw [hn]; omega) ha ha'
  clear ha'
  rw [List.append_assoc]
  show V (ga G a') M_X4_init X (T0 ++ [(4, 3), (9, 6), (9, 6), (9, 6)]) 3 18 30 [some (rv (4, 0) R)] [rv (9, 6) (R + 3), rv (4, 0) R] h
  revert a'
  clear a
  intro a ha
  refine V_putR (t := (9, 6)) (off := 3) (j := 3) (m := 3) 4 16 rfl fp_RX4_22 hin (app_0 hR0) (by decide) rfl (app_at hR0 3) (Nat.le_of_ble_eq_true rfl) (hm_of (by decide)) ?_
  rw [app_set hR0]
  show V (ga G a) M_X4_init X (T0 ++ [(4, 4), (9, 6), (9, 6), (9, 6)]) 3 18 33 [some (rv (4, 0) R)] [] h
  refine V_aload_n 17 rfl rfl ?_
  refine V_bipush (nI 6) 18 rfl bp_6 ?_
  refine V_newI (F := 6) (n := R + 4) 19 rfl ac_I (by decide +kernel) (by decide +kernel) (Nat.le_of_ble_eq_true rfl) (app_len hR0 rfl) (hz _ (by omega)) ⟨Nat.le_of_ble_eq_true rfl, Nat.le_of_ble_eq_true rfl⟩ (fun a' ha' => ?_)
  replace ha := tr_ha (by rw [hn]; omega) ha ha'
  clear ha'
  rw [List.append_assoc]
  show V (ga G a') M_X4_init X (T0 ++ [(4, 4), (9, 6), (9, 6), (9, 6), (9, 6)]) 4 24 38 [some (rv (4, 0) R)] [rv (9, 6) (R + 4), rv (4, 0) R] h
  revert a'
  clear a
  intro a ha
  refine V_putR (t := (9, 6)) (off := 4) (j := 4) (m := 4) 5 20 rfl fp_RX4_25 hin (app_0 hR0) (by decide) rfl (app_at hR0 4) (Nat.le_of_ble_eq_true rfl) (hm_of (by decide)) ?_
  rw [app_set hR0]
  show V (ga G a) M_X4_init X (T0 ++ [(4, 5), (9, 6), (9, 6), (9, 6), (9, 6)]) 4 24 41 [some (rv (4, 0) R)] [] h
  refine V_aload_n 21 rfl rfl ?_
  refine V_bipush (nI 6) 22 rfl bp_6 ?_
  refine V_newI (F := 6) (n := R + 5) 23 rfl ac_I (by decide +kernel) (by decide +kernel) (Nat.le_of_ble_eq_true rfl) (app_len hR0 rfl) (hz _ (by omega)) ⟨Nat.le_of_ble_eq_true rfl, Nat.le_of_ble_eq_true rfl⟩ (fun a' ha' => ?_)
  replace ha := tr_ha (by rw [hn]; omega) ha ha'
  clear ha'
  rw [List.append_assoc]
  show V (ga G a') M_X4_init X (T0 ++ [(4, 5), (9, 6), (9, 6), (9, 6), (9, 6), (9, 6)]) 5 30 46 [some (rv (4, 0) R)] [rv (9, 6) (R + 5), rv (4, 0) R] h
  revert a'
  clear a
  intro a ha
  refine V_putR (t := (9, 6)) (off := 5) (j := 5) (m := 5) 6 24 rfl fp_RX4_28 hin (app_0 hR0) (by decide) rfl (app_at hR0 5) (Nat.le_of_ble_eq_true rfl) (hm_of (by decide)) ?_
  rw [app_set hR0]
  show V (ga G a) M_X4_init X (T0 ++ [(4, 6), (9, 6), (9, 6), (9, 6), (9, 6), (9, 6)]) 5 30 49 [some (rv (4, 0) R)] [] h
  refine V_aload_n 25 rfl rfl ?_
  refine V_bipush (nI 6) 26 rfl bp_6 ?_
  refine V_newI (F := 6) (n := R + 6) 27 rfl ac_I (by decide +kernel) (by decide +kernel) (Nat.le_of_ble_eq_true rfl) (app_len hR0 rfl) (hz _ (by omega)) ⟨Nat.le_of_ble_eq_true rfl, Nat.le_of_ble_eq_true rfl⟩ (fun a' ha' => ?_)
  replace ha := tr_ha (by rw [hn]; omega) ha ha'
  clear ha'
  rw [List.append_assoc]
  show V (ga G a') M_X4_init X (T0 ++ [(4, 6), (9, 6), (9, 6), (9, 6), (9, 6), (9, 6), (9, 6)]) 6 36 54 [some (rv (4, 0) R)] [rv (9, 6) (R + 6), rv (4, 0) R] h
  revert a'
  clear a
  intro a ha
  refine V_putR (t := (9, 6)) (off := 6) (j := 6) (m := 6) 7 28 rfl fp_RX4_31 hin (app_0 hR0) (by decide) rfl (app_at hR0 6) (Nat.le_of_ble_eq_true rfl) (hm_of (by decide)) ?_
  rw [app_set hR0]
  show V (ga G a) M_X4_init X (T0 ++ [(4, 7), (9, 6), (9, 6), (9, 6), (9, 6), (9, 6), (9, 6)]) 6 36 57 [some (rv (4, 0) R)] [] h
  refine V_aload_n 29 rfl rfl ?_
  refine V_bipush (nI 6) 30 rfl bp_6 ?_
  refine V_newI (F := 6) (n := R + 7) 31 rfl ac_I (by decide +kernel) (by decide +kernel) (Nat.le_of_ble_eq_true rfl) (app_len hR0 rfl) (hz _ (by omega)) ⟨Nat.le_of_ble_eq_true rfl, Nat.le_of_ble_eq_true rfl⟩ (fun a' ha' => ?_)
  replace ha := tr_ha (by rw [hn]; omega) ha ha'
  clear ha'
  rw [List.append_assoc]
  show V (ga G a') M_X4_init X (T0 ++ [(4, 7), (9, 6), (9, 6), (9, 6), (9, 6), (9, 6), (9, 6), (9, 6)]) 7 42 62 [some (rv (4, 0) R)] [rv (9, 6) (R + 7), rv (4, 0) R] h
  revert a'
  clear a
  intro a ha
  refine V_putR (t := (9, 6)) (off := 7) (j := 7) (m := 7) 8 32 rfl fp_RX4_34 hin (app_0 hR0) (by decide) rfl (app_at hR0 7) (Nat.le_of_ble_eq_true rfl) (hm_of (by decide)) ?_
  rw [app_set hR0]
  show V (ga G a) M_X4_init X (T0 ++ [(4, 8), (9, 6), (9, 6), (9, 6), (9, 6), (9, 6), (9, 6), (9, 6)]) 7 42 65 [some (rv (4, 0) R)] [] h
  refine V_aload_n 33 rfl rfl ?_
  refine V_bipush (nI 6) 34 rfl bp_6 ?_
  refine V_newI (F := 6) (n := R + 8) 35 rfl ac_I (by decide +kernel) (by decide +kernel) (Nat.le_of_ble_eq_true rfl) (app_len hR0 rfl) (hz _ (by omega)) ⟨Nat.le_of_ble_eq_true rfl, Nat.le_of_ble_eq_true rfl⟩ (fun a' ha' => ?_)
  replace ha := tr_ha (by rw [hn]; omega) ha ha'
  clear ha'
  rw [List.append_assoc]
  show V (ga G a') M_X4_init X (T0 ++ [(4, 8), (9, 6), (9, 6), (9, 6), (9, 6), (9, 6), (9, 6), (9, 6), (9, 6)]) 8 48 70 [some (rv (4, 0) R)] [rv (9, 6) (R + 8), rv (4, 0) R] h
  revert a'
  clear a
  intro a ha
  refine V_putR (t := (9, 6)) (off := 8) (j := 8) (m := 8) 9 36 rfl fp_RX4_37 hin (app_0 hR0) (by decide) rfl (app_at hR0 8) (Nat.le_of_ble_eq_true rfl) (hm_of (by decide)) ?_
  rw [app_set hR0]
  show V (ga G a) M_X4_init X (T0 ++ [(4, 9), (9, 6), (9, 6), (9, 6), (9, 6), (9, 6), (9, 6), (9, 6), (9, 6)]) 8 48 73 [some (rv (4, 0) R)] [] h
  refine V_aload_n 37 rfl rfl ?_
  refine V_bipush (nI 6) 38 rfl bp_6 ?_
  refine V_newI (F := 6) (n := R + 9) 39 rfl ac_I (by decide +kernel) (by decide +kernel) (Nat.le_of_ble_eq_true rfl) (app_len hR0 rfl) (hz _ (by omega)) ⟨Nat.le_of_ble_eq_true rfl, Nat.le_of_ble_eq_true rfl⟩ (fun a' ha' => ?_)
  replace ha := tr_ha (by rw [hn]; omega) ha ha'
  clear ha'
  rw [List.append_assoc]
  show V (ga G a') M_X4_init X (T0 ++ [(4, 9), (9, 6), (9, 6), (9, 6), (9, 6), (9, 6), (9, 6), (9, 6), (9, 6), (9, 6)]) 9 54 78 [some (rv (4, 0) R)] [rv (9, 6) (R + 9), rv (4, 0) R] h
  revert a'
  clear a
  intro a ha
  refine V_putR (t := (9, 6)) (off := 9) (j := 9) (m := 9) 10 40 rfl fp_RX4_40 hin (app_0 hR0) (by decide) rfl (app_at hR0 9) (Nat.le_of_ble_eq_true rfl) (hm_of (by decide)) ?_
  rw [app_set hR0]
  show V (ga G a) M_X4_init X (T0 ++ [(4, 10), (9, 6), (9, 6), (9, 6), (9, 6), (9, 6), (9, 6), (9, 6), (9, 6), (9, 6)]) 9 54 81 [some (rv (4, 0) R)] [] h
  refine V_aload_n 41 rfl rfl ?_
  refine V_bipush (nI 6) 42 rfl bp_6 ?_
  refine V_newZ (F := 6) (n := R + 10) 43 rfl ac_Z (by decide +kernel) (by decide +kernel) (Nat.le_of_ble_eq_true rfl) (app_len hR0 rfl) (hz _ (by omega)) ⟨Nat.le_of_ble_eq_true rfl, Nat.le_of_ble_eq_true rfl⟩ (fun a' ha' => ?_)
  replace ha := tr_ha (by rw [hn]; omega) ha ha'
  clear ha'
  rw [List.append_assoc]
  show V (ga G a') M_X4_init X (T0 ++ [(4, 10), (9, 6), (9, 6), (9, 6), (9, 6), (9, 6), (9, 6), (9, 6), (9, 6), (9, 6), (11, 6)]) 10 60 86 [some (rv (4, 0) R)] [rv (11, 6) (R + 10), rv (4, 0) R] h
  revert a'
  clear a
  intro a ha
  refine V_putR (t := (11, 6)) (off := 10) (j := 10) (m := 10) 11 44 rfl fp_RX4_43 hin (app_0 hR0) (by decide) rfl (app_at hR0 10) (Nat.le_of_ble_eq_true rfl) (hm_of (by decide)) ?_
  rw [app_set hR0]
  show V (ga G a) M_X4_init X (T0 ++ [(4, 11), (9, 6), (9, 6), (9, 6), (9, 6), (9, 6), (9, 6), (9, 6), (9, 6), (9, 6), (11, 6)]) 10 60 89 [some (rv (4, 0) R)] [] h
  refine V_aload_n 45 rfl rfl ?_
  refine V_bipush (nI 6) 46 rfl bp_6 ?_
  refine V_newZ (F := 6) (n := R + 11) 47 rfl ac_Z (by decide +kernel) (by decide +kernel) (Nat.le_of_ble_eq_true rfl) (app_len hR0 rfl) (hz _ (by omega)) ⟨Nat.le_of_ble_eq_true rfl, Nat.le_of_ble_eq_true rfl⟩ (fun a' ha' => ?_)
  replace ha := tr_ha (by rw [hn]; omega) ha ha'
  clear ha'
  rw [List.append_assoc]
  show V (ga G a') M_X4_init X (T0 ++ [(4, 11), (9, 6), (9, 6), (9, 6), (9, 6), (9, 6), (9, 6), (9, 6), (9, 6), (9, 6), (11, 6), (11, 6)]) 11 66 94 [some (rv (4, 0) R)] [rv (11, 6) (R + 11), rv (4, 0) R] h
  revert a'
  clear a
  intro a ha
  refine V_putR (t := (11, 6)) (off := 11) (j := 11) (m := 11) 99 48 rfl fp_RX4_47 hin (app_0 hR0) (by decide) rfl (app_at hR0 11) (Nat.le_of_ble_eq_true rfl) (hm_of (by decide)) ?_
  rw [app_set hR0]
  show V (ga G a) M_X4_init X (T0 ++ [(4, 99), (9, 6), (9, 6), (9, 6), (9, 6), (9, 6), (9, 6), (9, 6), (9, 6), (9, 6), (11, 6), (11, 6)]) 11 66 97 [some (rv (4, 0) R)] [] h
  refine V_up0 (app_0 hR0) (Nat.le_of_ble_eq_true rfl) ?_
  exact V_vretI 49 rfl hRI rfl ha
set_option maxHeartbeats 4000000 in
set_option maxRecDepth 100000 in
theorem k_i6 {G : kG} {T0 : List kT} {R : Nat} {h : kH} (hR0 : T0.length = R) (hz : ∀ k, R ≤ k → h k = fun _ => 0) : k_CI G M_X6_init (T0 ++ [(6, 0)]) (6, 0) R h (T0 ++ [(6, 99)]) h 0 0 := by
  refine k_CI_of (by decide +kernel) rfl tb_X6_init rfl rfl (fun X hin hRI => ?_)
  have ha : ∀ i, i < (T0 ++ [(6, 0)]).length → g_a G i = g_a G i := fun _ _ => rfl
  have hn : (T0 ++ [(6, 0)]).length = R + 1 := app_len hR0 rfl
  suffices H : ∀ a : Nat → Nat, (∀ i, i < (T0 ++ [(6, 0)]).length → a i = g_a G i) → V (ga G a) M_X6_init X (T0 ++ [(6, 0)]) 0 0 0 [some (rv (6, 0) R)] [] h from H (g_a G) ha
  clear ha
  intro a ha
  refine V_aload_n 0 rfl rfl ?_
  refine V_objInit 1 rfl lo_RX6_3 oi_1 oi_2 ⟨Nat.le_of_ble_eq_true rfl, Nat.le_of_ble_eq_true rfl⟩ ?_
  refine V_seal (m := 0) (app_0 hR0) (Nat.le_of_ble_eq_true rfl) no_parts6 ?_
  rw [app_set hR0]
  exact V_vretI 2 rfl hRI rfl ha
set_option maxHeartbeats 4000000 in
set_option maxRecDepth 100000 in
theorem k_i2 {G : kG} {T0 : List kT} {R : Nat} {h : kH} (hR0 : T0.length = R) (hz : ∀ k, R ≤ k → h k = fun _ => 0) : k_CI G M_X2_init (T0 ++ [(2, 0)]) (2, 0) R h (T0 ++ [(2, 99), (1, 99), (9, 30), (9, 30), (9, 30), (11, 30), (11, 30), (9, 30), (4, 99), (9, 6), (9, 6), (9, 6), (9, 6), (9, 6), (9, 6), (9, 6), (9, 6), (9, 6), (11, 6), (11, 6)]) h 19 264 := by
  refine k_CI_of (by decide +kernel) rfl tb_X2_init rfl rfl (fun X hin hRI => ?_)
  have ha : ∀ i, i < (T0 ++ [(2, 0)]).length → g_a G i = g_a G i := fun _ _ => rfl
  have hn : (T0 ++ [(2, 0)]).length = R + 1 := app_len hR0 rfl
  suffices H : ∀ a : Nat → Nat, (∀ i, i < (T0 ++ [(2, 0)]).length → a i = g_a G i) → V (ga G a) M_X2_init X (T0 ++ [(2, 0)]) 0 0 0 [some (rv (2, 0) R)] [] h from H (g_a G) ha
  clear ha
  intro a ha
  refine V_aload_n 0 rfl rfl ?_
  refine V_objInit 1 rfl lo_RX2_1 oi_1 oi_2 ⟨Nat.le_of_ble_eq_true rfl, Nat.le_of_ble_eq_true rfl⟩ ?_
  refine V_aload_n 2 rfl rfl ?_
  refine V_new (n := R + 1) 3 rfl nw_RX2_7 (app_len hR0 rfl) (hz _ (by omega)) ⟨Nat.le_of_ble_eq_true rfl, Nat.le_of_ble_eq_true rfl⟩ (fun a' ha' => ?_)
  replace ha := tr_ha (by rw [hn]; omega) ha ha'
  clear ha'
  revert a'
  clear a
  intro a ha
  refine V_dup 4 rfl nj_r ?_
  refine V_callIN (N := M_X1_init) (T' := (T0 ++ [(2, 0)]) ++ [(1, 99), (9, 30), (9, 30), (9, 30), (11, 30), (11, 30), (9, 30)]) (h' := h) 5 rfl (k_i1 (T0 := (T0 ++ [(2, 0)])) (R := (R + 1)) (app_len hR0 rfl) (fun k hk => hz k (by omega))) (k_le_mk (Nat.le_of_ble_eq_true rfl)) gI_X1_init nk_RX2_9 ⟨Nat.le_of_ble_eq_true rfl, Nat.le_of_ble_eq_true rfl⟩ (Nat.le_of_ble_eq_true rfl) (Nat.le_of_ble_eq_true rfl) ⟨Nat.le_of_ble_eq_true rfl, Nat.le_of_ble_eq_true rfl⟩ (fun a' ha' => ?_)
  replace ha := tr_ha (by rw [hn, List.length_append, app_len (n := R + 1) hR0 rfl]; show _ ≤ R + 1 + 1; omega) ha ha'
  clear ha'
  rw [List.append_assoc]
  show V (ga G a') M_X2_init X (T0 ++ [(2, 0), (1, 99), (9, 30), (9, 30), (9, 30), (11, 30), (11, 30), (9, 30)]) 7 186 12 [some (rv (2, 0) R)] [rv (1, 0) (R + 1), rv (2, 0) R] h
  revert a'
  clear a
  intro a ha
  refine V_putR (t := (1, 99)) (off := 1) (j := 0) (m := 0) 1 6 rfl fp_RX2_10 hin (app_0 hR0) (by decide) rfl (app_at hR0 1) (Nat.le_of_ble_eq_true rfl) (hm_of (by decide)) ?_
  rw [app_set hR0]
  show V (ga G a) M_X2_init X (T0 ++ [(2, 1), (1, 99), (9, 30), (9, 30), (9, 30), (11, 30), (11, 30), (9, 30)]) 7 186 15 [some (rv (2, 0) R)] [] h
  refine V_aload_n 7 rfl rfl ?_
  refine V_new (n := R + 8) 8 rfl nw_RX2_16 (app_len hR0 rfl) (hz _ (by omega)) ⟨Nat.le_of_ble_eq_true rfl, Nat.le_of_ble_eq_true rfl⟩ (fun a' ha' => ?_)
  replace ha := tr_ha (by rw [hn]; omega) ha ha'
  clear ha'
  revert a'
  clear a
  intro a ha
  refine V_dup 9 rfl nj_r ?_
  refine V_callIN (N := M_X4_init) (T' := (T0 ++ [(2, 1), (1, 99), (9, 30), (9, 30), (9, 30), (11, 30), (11, 30), (9, 30)]) ++ [(4, 99), (9, 6), (9, 6), (9, 6), (9, 6), (9, 6), (9, 6), (9, 6), (9, 6), (9, 6), (11, 6), (11, 6)]) (h' := h) 10 rfl (k_i4 (T0 := (T0 ++ [(2, 1), (1, 99), (9, 30), (9, 30), (9, 30), (11, 30), (11, 30), (9, 30)])) (R := (R + 8)) (app_len hR0 rfl) (fun k hk => hz k (by omega))) (k_le_mk (Nat.le_of_ble_eq_true rfl)) gI_X4_init nk_RX2_18 ⟨Nat.le_of_ble_eq_true rfl, Nat.le_of_ble_eq_true rfl⟩ (Nat.le_of_ble_eq_true rfl) (Nat.le_of_ble_eq_true rfl) ⟨Nat.le_of_ble_eq_true rfl, Nat.le_of_ble_eq_true rfl⟩ (fun a' ha' => ?_)
  replace ha := tr_ha (by rw [hn, List.length_append, app_len (n := R + 8) hR0 rfl]; show _ ≤ R + 8 + 1; omega) ha ha'
  clear ha'
  rw [List.append_assoc]
  show V (ga G a') M_X2_init X (T0 ++ [(2, 1), (1, 99), (9, 30), (9, 30), (9, 30), (11, 30), (11, 30), (9, 30), (4, 99), (9, 6), (9, 6), (9, 6), (9, 6), (9, 6), (9, 6), (9, 6), (9, 6), (9, 6), (11, 6), (11, 6)]) 19 264 23 [some (rv (2, 0) R)] [rv (4, 0) (R + 8), rv (2, 0) R] h
  revert a'
  clear a
  intro a ha
  refine V_putR (t := (4, 99)) (off := 8) (j := 1) (m := 1) 99 11 rfl fp_RX2_19 hin (app_0 hR0) (by decide) rfl (app_at hR0 8) (Nat.le_of_ble_eq_true rfl) (hm_of (by decide)) ?_
  rw [app_set hR0]
  show V (ga G a) M_X2_init X (T0 ++ [(2, 99), (1, 99), (9, 30), (9, 30), (9, 30), (11, 30), (11, 30), (9, 30), (4, 99), (9, 6), (9, 6), (9, 6), (9, 6), (9, 6), (9, 6), (9, 6), (9, 6), (9, 6), (11, 6), (11, 6)]) 19 264 26 [some (rv (2, 0) R)] [] h
  refine V_up0 (app_0 hR0) (Nat.le_of_ble_eq_true rfl) ?_
  refine V_aload_n 12 rfl rfl ?_
  refine V_iconst (nI 0) 13 rfl ic_0 ?_
  refine V_putI 14 rfl fi_RX2_23 ?_
  rw [hs_z (hz _ (by omega))]
  show V (ga G a) M_X2_init X (T0 ++ [(2, 99), (1, 99), (9, 30), (9, 30), (9, 30), (11, 30), (11, 30), (9, 30), (4, 99), (9, 6), (9, 6), (9, 6), (9, 6), (9, 6), (9, 6), (9, 6), (9, 6), (9, 6), (11, 6), (11, 6)]) 19 264 31 [some (rv (2, 99) R)] [] h
  exact V_vretI 15 rfl hRI rfl ha
set_option maxHeartbeats 4000000 in
set_option maxRecDepth 100000 in
theorem k_i5 {G : kG} {T0 : List kT} {R : Nat} {h : kH} {h1 : kH} (hR0 : T0.length = R) (hz : ∀ k, R ≤ k → h k = fun _ => 0) (e1 : p_X5_setDefaults R h = some h1) : k_CI G M_X5_init (T0 ++ [(5, 0)]) (5, 0) R h (T0 ++ [(5, 99), (9, 3), (9, 3)]) h1 2 6 := by
  refine k_CI_of (by decide +kernel) rfl tb_X5_init rfl rfl (fun X hin hRI => ?_)
  have ha : ∀ i, i < (T0 ++ [(5, 0)]).length → g_a G i = g_a G i := fun _ _ => rfl
  have hn : (T0 ++ [(5, 0)]).length = R + 1 := app_len hR0 rfl
  suffices H : ∀ a : Nat → Nat, (∀ i, i < (T0 ++ [(5, 0)]).length → a i = g_a G i) → V (ga G a) M_X5_init X (T0 ++ [(5, 0)]) 0 0 0 [some (rv (5, 0) R)] [] h from H (g_a G) ha
  clear ha
  intro a ha
  refine V_aload_n 0 rfl rfl ?_
  refine V_objInit 1 rfl lo_RX5_3 oi_1 oi_2 ⟨Nat.le_of_ble_eq_true rfl, Nat.le_of_ble_eq_true rfl⟩ ?_
  refine V_aload_n 2 rfl rfl ?_
  refine V_iconst (nI 3) 3 rfl ic_3 ?_
  refine V_newI (F := 3) (n := R + 1) 4 rfl ac_I (by decide +kernel) (by decide +kernel) (Nat.le_of_ble_eq_true rfl) (app_len hR0 rfl) (hz _ (by omega)) ⟨Nat.le_of_ble_eq_true rfl, Nat.le_of_ble_eq_true rfl⟩ (fun a' ha' => ?_)
  replace ha := tr_ha (by rw [hn]; omega) ha ha'
  clear ha'
  rw [List.append_assoc]
  show V (ga G a') M_X5_init X (T0 ++ [(5, 0), (9, 3)]) 1 3 8 [some (rv (5, 0) R)] [rv (9, 3) (R + 1), rv (5, 0) R] h
  revert a'
  clear a
  intro a ha
  refine V_putR (t := (9, 3)) (off := 1) (j := 2) (m := 0) 3 5 rfl fp_RX5_9 hin (app_0 hR0) (by decide) rfl (app_at hR0 1) (Nat.le_of_ble_eq_true rfl) (hm_of (by decide)) ?_
  rw [app_set hR0]
  show V (ga G a) M_X5_init X (T0 ++ [(5, 3), (9, 3)]) 1 3 11 [some (rv (5, 0) R)] [] h
  refine V_aload_n 6 rfl rfl ?_
  refine V_iconst (nI 3) 7 rfl ic_3 ?_
  refine V_newI (F := 3) (n := R + 2) 8 rfl ac_I (by decide +kernel) (by decide +kernel) (Nat.le_of_ble_eq_true rfl) (app_len hR0 rfl) (hz _ (by omega)) ⟨Nat.le_of_ble_eq_true rfl, Nat.le_of_ble_eq_true rfl⟩ (fun a' ha' => ?_)
  replace ha := tr_ha (by rw [hn]; omega) ha ha'
  clear ha'
  rw [List.append_assoc]
  show V (ga G a') M_X5_init X (T0 ++ [(5, 3), (9, 3), (9, 3)]) 2 6 15 [some (rv (5, 0) R)] [rv (9, 3) (R + 2), rv (5, 0) R] h
  revert a'
  clear a
  intro a ha
  refine V_putR (t := (9, 3)) (off := 2) (j := 3) (m := 3) 99 9 rfl fp_RX5_15 hin (app_0 hR0) (by decide) rfl (app_at hR0 2) (Nat.le_of_ble_eq_true rfl) (hm_of (by decide)) ?_
  rw [app_set hR0]
  show V (ga G a) M_X5_init X (T0 ++ [(5, 99), (9, 3), (9, 3)]) 2 6 18 [some (rv (5, 0) R)] [] h
  refine V_up0 (app_0 hR0) (Nat.le_of_ble_eq_true rfl) ?_
  refine V_aload_n 10 rfl rfl ?_
  refine V_callV (N := M_X5_setDefaults) (av := []) (st := []) (r := none) (h' := h1) 11 rfl (c_X5_setDefaults e1) g_X5_setDefaults gv_X5_setDefaults lk_RX5_18 ⟨Nat.le_of_ble_eq_true rfl, Nat.le_of_ble_eq_true rfl⟩ rfl rfl (Nat.le_of_ble_eq_true rfl) ⟨Nat.le_of_ble_eq_true rfl, Nat.le_of_ble_eq_true rfl⟩ ?_
  show V (ga G a) M_X5_init X (T0 ++ [(5, 99), (9, 3), (9, 3)]) 2 6 22 [some (rv (5, 99) R)] [] h1
  exact V_vretI 12 rfl hRI rfl ha
set_option maxHeartbeats 4000000 in
set_option maxRecDepth 100000 in
theorem k_i3 {G : kG} {T0 : List kT} {h : kH} {h1 h2 : kH} (hR0 : T0.length = 2) (hz : ∀ k, 2 ≤ k → h k = fun _ => 0) (e1 : p_X5_setDefaults 3 h = some h1) (hz1 : ∀ k, 6 ≤ k → h1 k = fun _ => 0) (e2 : p_X3_forget h1 = some h2) : k_CI G M_X3_init (T0 ++ [(3, 0)]) (3, 0) 2 h (T0 ++ [(3, 99), (5, 99), (9, 3), (9, 3), (1, 99), (9, 30), (9, 30), (9, 30), (11, 30), (11, 30), (9, 30), (4, 99), (9, 6), (9, 6), (9, 6), (9, 6), (9, 6), (9, 6), (9, 6), (9, 6), (9, 6), (11, 6), (11, 6), (9, 6), (9, 6), (9, 6)]) h2 25 298 := by
  refine k_CI_of (by decide +kernel) rfl tb_X3_init rfl rfl (fun X hin hRI => ?_)
  have ha : ∀ i, i < (T0 ++ [(3, 0)]).length → g_a G i = g_a G i := fun _ _ => rfl
  have hn : (T0 ++ [(3, 0)]).length = 3 := app_len hR0 rfl
  suffices H : ∀ a : Nat → Nat, (∀ i, i < (T0 ++ [(3, 0)]).length → a i = g_a G i) → V (ga G a) M_X3_init X (T0 ++ [(3, 0)]) 0 0 0 [some (rv (3, 0) 2)] [] h from H (g_a G) ha
  clear ha
  intro a ha
  refine V_aload_n 0 rfl rfl ?_
  refine V_objInit 1 rfl lo_RX3_3 oi_1 oi_2 ⟨Nat.le_of_ble_eq_true rfl, Nat.le_of_ble_eq_true rfl⟩ ?_
  refine V_aload_n 2 rfl rfl ?_
  refine V_new (n := 3) 3 rfl nw_RX3_9 (app_len hR0 rfl) (hz _ (by omega)) ⟨Nat.le_of_ble_eq_true rfl, Nat.le_of_ble_eq_true rfl⟩ (fun a' ha' => ?_)
  replace ha := tr_ha (by rw [hn]; omega) ha ha'
  clear ha'
  revert a'
  clear a
  intro a ha
  refine V_dup 4 rfl nj_r ?_
  refine V_callI (N := M_X5_init) (T' := (T0 ++ [(3, 0)]) ++ [(5, 99), (9, 3), (9, 3)]) (h' := h1) 5 rfl (k_i5 (T0 := (T0 ++ [(3, 0)])) (R := 3) (app_len hR0 rfl) (fun k hk => hz k (by omega)) e1) (k_le_mk (Nat.le_of_ble_eq_true rfl)) gI_X5_init li_RX3_11 ⟨Nat.le_of_ble_eq_true rfl, Nat.le_of_ble_eq_true rfl⟩ (Nat.le_of_ble_eq_true rfl) (Nat.le_of_ble_eq_true rfl) ⟨Nat.le_of_ble_eq_true rfl, Nat.le_of_ble_eq_true rfl⟩ (fun a' ha' => ?_)
  replace ha := tr_ha (by rw [hn, List.length_append, app_len (n := 3) hR0 rfl]; show _ ≤ 3 + 1; omega) ha ha'
  clear ha'
  rw [List.append_assoc]
  show V (ga G a') M_X3_init X (T0 ++ [(3, 0), (5, 99), (9, 3), (9, 3)]) 3 16 12 [some (rv (3, 0) 2)] [rv (5, 0) 3, rv (3, 0) 2] h1
  revert a'
  clear a
  intro a ha
  refine V_putR (t := (5, 99)) (off := 1) (j := 0) (m := 0) 1 6 rfl fp_RX3_12 hin (app_0 hR0) (by decide) rfl (app_at hR0 1) (Nat.le_of_ble_eq_true rfl) (hm_of (by decide)) ?_
  rw [app_set hR0]
  show V (ga G a) M_X3_init X (T0 ++ [(3, 1), (5, 99), (9, 3), (9, 3)]) 3 16 15 [some (rv (3, 0) 2)] [] h1
  refine V_aload_n 7 rfl rfl ?_
  refine V_new (n := 6) 8 rfl nw_RX3_18 (app_len hR0 rfl) (hz1 _ (by omega)) ⟨Nat.le_of_ble_eq_true rfl, Nat.le_of_ble_eq_true rfl⟩ (fun a' ha' => ?_)
  replace ha := tr_ha (by rw [hn]; omega) ha ha'
  clear ha'
  revert a'
  clear a
  intro a ha
  refine V_dup 9 rfl nj_r ?_
  refine V_callIN (N := M_X1_init) (T' := (T0 ++ [(3, 1), (5, 99), (9, 3), (9, 3)]) ++ [(1, 99), (9, 30), (9, 30), (9, 30), (11, 30), (11, 30), (9, 30)]) (h' := h1) 10 rfl (k_i1 (T0 := (T0 ++ [(3, 1), (5, 99), (9, 3), (9, 3)])) (R := 6) (app_len hR0 rfl) (fun k hk => hz1 k (by omega))) (k_le_mk (Nat.le_of_ble_eq_true rfl)) gI_X1_init nk_RX3_20 ⟨Nat.le_of_ble_eq_true rfl, Nat.le_of_ble_eq_true rfl⟩ (Nat.le_of_ble_eq_true rfl) (Nat.le_of_ble_eq_true rfl) ⟨Nat.le_of_ble_eq_true rfl, Nat.le_of_ble_eq_true rfl⟩ (fun a' ha' => ?_)
  replace ha := tr_ha (by rw [hn, List.length_append, app_len (n := 6) hR0 rfl]; show _ ≤ 6 + 1; omega) ha ha'
  clear ha'
  rw [List.append_assoc]
  show V (ga G a') M_X3_init X (T0 ++ [(3, 1), (5, 99), (9, 3), (9, 3), (1, 99), (9, 30), (9, 30), (9, 30), (11, 30), (11, 30), (9, 30)]) 10 202 23 [some (rv (3, 0) 2)] [rv (1, 0) 6, rv (3, 0) 2] h1
  revert a'
  clear a
  intro a ha
  refine V_putR (t := (1, 99)) (off := 4) (j := 1) (m := 1) 2 11 rfl fp_RX3_21 hin (app_0 hR0) (by decide) rfl (app_at hR0 4) (Nat.le_of_ble_eq_true rfl) (hm_of (by decide)) ?_
  rw [app_set hR0]
  show V (ga G a) M_X3_init X (T0 ++ [(3, 2), (5, 99), (9, 3), (9, 3), (1, 99), (9, 30), (9, 30), (9, 30), (11, 30), (11, 30), (9, 30)]) 10 202 26 [some (rv (3, 0) 2)] [] h1
  refine V_aload_n 12 rfl rfl ?_
  refine V_new (n := 13) 13 rfl nw_RX3_25 (app_len hR0 rfl) (hz1 _ (by omega)) ⟨Nat.le_of_ble_eq_true rfl, Nat.le_of_ble_eq_true rfl⟩ (fun a' ha' => ?_)
  replace ha := tr_ha (by rw [hn]; omega) ha ha'
  clear ha'
  revert a'
  clear a
  intro a ha
  refine V_dup 14 rfl nj_r ?_
  refine V_callIN (N := M_X4_init) (T' := (T0 ++ [(3, 2), (5, 99), (9, 3), (9, 3), (1, 99), (9, 30), (9, 30), (9, 30), (11, 30), (11, 30), (9, 30)]) ++ [(4, 99), (9, 6), (9, 6), (9, 6), (9, 6), (9, 6), (9, 6), (9, 6), (9, 6), (9, 6), (11, 6), (11, 6)]) (h' := h1) 15 rfl (k_i4 (T0 := (T0 ++ [(3, 2), (5, 99), (9, 3), (9, 3), (1, 99), (9, 30), (9, 30), (9, 30), (11, 30), (11, 30), (9, 30)])) (R := 13) (app_len hR0 rfl) (fun k hk => hz1 k (by omega))) (k_le_mk (Nat.le_of_ble_eq_true rfl)) gI_X4_init nk_RX3_27 ⟨Nat.le_of_ble_eq_true rfl, Nat.le_of_ble_eq_true rfl⟩ (Nat.le_of_ble_eq_true rfl) (Nat.le_of_ble_eq_true rfl) ⟨Nat.le_of_ble_eq_true rfl, Nat.le_of_ble_eq_true rfl⟩ (fun a' ha' => ?_)
  replace ha := tr_ha (by rw [hn, List.length_append, app_len (n := 13) hR0 rfl]; show _ ≤ 13 + 1; omega) ha ha'
  clear ha'
  rw [List.append_assoc]
  show V (ga G a') M_X3_init X (T0 ++ [(3, 2), (5, 99), (9, 3), (9, 3), (1, 99), (9, 30), (9, 30), (9, 30), (11, 30), (11, 30), (9, 30), (4, 99), (9, 6), (9, 6), (9, 6), (9, 6), (9, 6), (9, 6), (9, 6), (9, 6), (9, 6), (11, 6), (11, 6)]) 22 280 34 [some (rv (3, 0) 2)] [rv (4, 0) 13, rv (3, 0) 2] h1
  revert a'
  clear a
  intro a ha
  refine V_putR (t := (4, 99)) (off := 11) (j := 2) (m := 2) 3 16 rfl fp_RX3_28 hin (app_0 hR0) (by decide) rfl (app_at hR0 11) (Nat.le_of_ble_eq_true rfl) (hm_of (by decide)) ?_
  rw [app_set hR0]
  show V (ga G a) M_X3_init X (T0 ++ [(3, 3), (5, 99), (9, 3), (9, 3), (1, 99), (9, 30), (9, 30), (9, 30), (11, 30), (11, 30), (9, 30), (4, 99), (9, 6), (9, 6), (9, 6), (9, 6), (9, 6), (9, 6), (9, 6), (9, 6), (9, 6), (11, 6), (11, 6)]) 22 280 37 [some (rv (3, 0) 2)] [] h1
  refine V_aload_n 17 rfl rfl ?_
  refine V_bipush (nI 6) 18 rfl bp_6 ?_
  refine V_newI (F := 6) (n := 25) 19 rfl ac_I (by decide +kernel) (by decide +kernel) (Nat.le_of_ble_eq_true rfl) (app_len hR0 rfl) (hz1 _ (by omega)) ⟨Nat.le_of_ble_eq_true rfl, Nat.le_of_ble_eq_true rfl⟩ (fun a' ha' => ?_)
  replace ha := tr_ha (by rw [hn]; omega) ha ha'
  clear ha'
  rw [List.append_assoc]
  show V (ga G a') M_X3_init X (T0 ++ [(3, 3), (5, 99), (9, 3), (9, 3), (1, 99), (9, 30), (9, 30), (9, 30), (11, 30), (11, 30), (9, 30), (4, 99), (9, 6), (9, 6), (9, 6), (9, 6), (9, 6), (9, 6), (9, 6), (9, 6), (9, 6), (11, 6), (11, 6), (9, 6)]) 23 286 42 [some (rv (3, 0) 2)] [rv (9, 6) 25, rv (3, 0) 2] h1
  revert a'
  clear a
  intro a ha
  refine V_putR (t := (9, 6)) (off := 23) (j := 3) (m := 3) 4 20 rfl fp_RX3_32 hin (app_0 hR0) (by decide) rfl (app_at hR0 23) (Nat.le_of_ble_eq_true rfl) (hm_of (by decide)) ?_
  rw [app_set hR0]
  show V (ga G a) M_X3_init X (T0 ++ [(3, 4), (5, 99), (9, 3), (9, 3), (1, 99), (9, 30), (9, 30), (9, 30), (11, 30), (11, 30), (9, 30), (4, 99), (9, 6), (9, 6), (9, 6), (9, 6), (9, 6), (9, 6), (9, 6), (9, 6), (9, 6), (11, 6), (11, 6), (9, 6)]) 23 286 45 [some (rv (3, 0) 2)] [] h1
  refine V_aload_n 21 rfl rfl ?_
  refine V_bipush (nI 6) 22 rfl bp_6 ?_
  refine V_newI (F := 6) (n := 26) 23 rfl ac_I (by decide +kernel) (by decide +kernel) (Nat.le_of_ble_eq_true rfl) (app_len hR0 rfl) (hz1 _ (by omega)) ⟨Nat.le_of_ble_eq_true rfl, Nat.le_of_ble_eq_true rfl⟩ (fun a' ha' => ?_)
  replace ha := tr_ha (by rw [hn]; omega) ha ha'
  clear ha'
  rw [List.append_assoc]
  show V (ga G a') M_X3_init X (T0 ++ [(3, 4), (5, 99), (9, 3), (9, 3), (1, 99), (9, 30), (9, 30), (9, 30), (11, 30), (11, 30), (9, 30), (4, 99), (9, 6), (9, 6), (9, 6), (9, 6), (9, 6), (9, 6), (9, 6), (9, 6), (9, 6), (11, 6), (11, 6), (9, 6), (9, 6)]) 24 292 50 [some (rv (3, 0) 2)] [rv (9, 6) 26, rv (3, 0) 2] h1
  revert a'
  clear a
  intro a ha
  refine V_putR (t := (9, 6)) (off := 24) (j := 4) (m := 4) 5 24 rfl fp_RX3_36 hin (app_0 hR0) (by decide) rfl (app_at hR0 24) (Nat.le_of_ble_eq_true rfl) (hm_of (by decide)) ?_
  rw [app_set hR0]
  show V (ga G a) M_X3_init X (T0 ++ [(3, 5), (5, 99), (9, 3), (9, 3), (1, 99), (9, 30), (9, 30), (9, 30), (11, 30), (11, 30), (9, 30), (4, 99), (9, 6), (9, 6), (9, 6), (9, 6), (9, 6), (9, 6), (9, 6), (9, 6), (9, 6), (11, 6), (11, 6), (9, 6), (9, 6)]) 24 292 53 [some (rv (3, 0) 2)] [] h1
  refine V_aload_n 25 rfl rfl ?_
  refine V_bipush (nI 6) 26 rfl bp_6 ?_
  refine V_newI (F := 6) (n := 27) 27 rfl ac_I (by decide +kernel) (by decide +kernel) (Nat.le_of_ble_eq_true rfl) (app_len hR0 rfl) (hz1 _ (by omega)) ⟨Nat.le_of_ble_eq_true rfl, Nat.le_of_ble_eq_true rfl⟩ (fun a' ha' => ?_)
  replace ha := tr_ha (by rw [hn]; omega) ha ha'
  clear ha'
  rw [List.append_assoc]
  show V (ga G a') M_X3_init X (T0 ++ [(3, 5), (5, 99), (9, 3), (9, 3), (1, 99), (9, 30), (9, 30), (9, 30), (11, 30), (11, 30), (9, 30), (4, 99), (9, 6), (9, 6), (9, 6), (9, 6), (9, 6), (9, 6), (9, 6), (9, 6), (9, 6), (11, 6), (11, 6), (9, 6), (9, 6), (9, 6)]) 25 298 58 [some (rv (3, 0) 2)] [rv (9, 6) 27, rv (3, 0) 2] h1
  revert a'
  clear a
  intro a ha
  refine V_putR (t := (9, 6)) (off := 25) (j := 5) (m := 5) 99 28 rfl fp_RX3_39 hin (app_0 hR0) (by decide) rfl (app_at hR0 25) (Nat.le_of_ble_eq_true rfl) (hm_of (by decide)) ?_
  rw [app_set hR0]
  show V (ga G a) M_X3_init X (T0 ++ [(3, 99), (5, 99), (9, 3), (9, 3), (1, 99), (9, 30), (9, 30), (9, 30), (11, 30), (11, 30), (9, 30), (4, 99), (9, 6), (9, 6), (9, 6), (9, 6), (9, 6), (9, 6), (9, 6), (9, 6), (9, 6), (11, 6), (11, 6), (9, 6), (9, 6), (9, 6)]) 25 298 61 [some (rv (3, 0) 2)] [] h1
  refine V_up0 (app_0 hR0) (Nat.le_of_ble_eq_true rfl) ?_
  refine V_aload_n 29 rfl rfl ?_
  refine V_callV (N := M_X3_forget) (av := []) (st := []) (r := none) (h' := h2) 30 rfl (c_X3_forget e2) g_X3_forget gv_X3_forget lk_RX3_42 ⟨Nat.le_of_ble_eq_true rfl, Nat.le_of_ble_eq_true rfl⟩ rfl rfl (Nat.le_of_ble_eq_true rfl) ⟨Nat.le_of_ble_eq_true rfl, Nat.le_of_ble_eq_true rfl⟩ ?_
  show V (ga G a) M_X3_init X (T0 ++ [(3, 99), (5, 99), (9, 3), (9, 3), (1, 99), (9, 30), (9, 30), (9, 30), (11, 30), (11, 30), (9, 30), (4, 99), (9, 6), (9, 6), (9, 6), (9, 6), (9, 6), (9, 6), (9, 6), (9, 6), (9, 6), (11, 6), (11, 6), (9, 6), (9, 6), (9, 6)]) 25 298 65 [some (rv (3, 99) 2)] [] h2
  exact V_vretI 31 rfl hRI rfl ha
set_option maxHeartbeats 4000000 in
set_option maxRecDepth 100000 in
theorem k_i7 {G : kG} {T0 : List kT} {h : kH} {h1 h2 h3 h4 : kH} (hR0 : T0.length = 0) (hz : ∀ k, 0 ≤ k → h k = fun _ => 0) (e1 : p_X5_setDefaults 3 h = some h1) (hz1 : ∀ k, 6 ≤ k → h1 k = fun _ => 0) (e2 : p_X3_forget h1 = some h2) (hz2 : ∀ k, 28 ≤ k → h2 k = fun _ => 0) (e3 : p_X5_setDefaults 28 h2 = some h3) (hz3 : ∀ k, 31 ≤ k ∨ k = 0 → h3 k = fun _ => 0) (e4 : p_X3_layOn 28 31 h3 = some h4) : k_CI G M_X7_init (T0 ++ [(7, 0)]) (7, 0) 0 h (T0 ++ [(7, 99), (10, 500), (3, 99), (5, 99), (9, 3), (9, 3), (1, 99), (9, 30), (9, 30), (9, 30), (11, 30), (11, 30), (9, 30), (4, 99), (9, 6), (9, 6), (9, 6), (9, 6), (9, 6), (9, 6), (9, 6), (9, 6), (9, 6), (11, 6), (11, 6), (9, 6), (9, 6), (9, 6), (5, 99), (9, 3), (9, 3), (2, 99), (1, 99), (9, 30), (9, 30), (9, 30), (11, 30), (11, 30), (9, 30), (4, 99), (9, 6), (9, 6), (9, 6), (9, 6), (9, 6), (9, 6), (9, 6), (9, 6), (9, 6), (11, 6), (11, 6), (2, 99), (1, 99), (9, 30), (9, 30), (9, 30), (11, 30), (11, 30), (9, 30), (4, 99), (9, 6), (9, 6), (9, 6), (9, 6), (9, 6), (9, 6), (9, 6), (9, 6), (9, 6), (11, 6), (11, 6), (2, 99), (1, 99), (9, 30), (9, 30), (9, 30), (11, 30), (11, 30), (9, 30), (4, 99), (9, 6), (9, 6), (9, 6), (9, 6), (9, 6), (9, 6), (9, 6), (9, 6), (9, 6), (11, 6), (11, 6), (2, 99), (1, 99), (9, 30), (9, 30), (9, 30), (11, 30), (11, 30), (9, 30), (4, 99), (9, 6), (9, 6), (9, 6), (9, 6), (9, 6), (9, 6), (9, 6), (9, 6), (9, 6), (11, 6), (11, 6), (2, 99), (1, 99), (9, 30), (9, 30), (9, 30), (11, 30), (11, 30), (9, 30), (4, 99), (9, 6), (9, 6), (9, 6), (9, 6), (9, 6), (9, 6), (9, 6), (9, 6), (9, 6), (11, 6), (11, 6), (9, 6), (0, 99), (9, 7200), (6, 99)]) h4 134 9367 := by
  refine k_CI_of (by decide +kernel) rfl tb_X7_init rfl rfl (fun X hin hRI => ?_)
  have ha : ∀ i, i < (T0 ++ [(7, 0)]).length → g_a G i = g_a G i := fun _ _ => rfl
  have hn : (T0 ++ [(7, 0)]).length = 1 := app_len hR0 rfl
  suffices H : ∀ a : Nat → Nat, (∀ i, i < (T0 ++ [(7, 0)]).length → a i = g_a G i) → V (ga G a) M_X7_init X (T0 ++ [(7, 0)]) 0 0 0 [some (rv (7, 0) 0)] [] h from H (g_a G) ha
  clear ha
  intro a ha
  refine V_aload_n 0 rfl rfl ?_
  refine V_objInit 1 rfl lo_RX7_3 oi_1 oi_2 ⟨Nat.le_of_ble_eq_true rfl, Nat.le_of_ble_eq_true rfl⟩ ?_
  refine V_aload_n 2 rfl rfl ?_
  refine V_sipush (nI 500) 3 rfl sp_500 ?_
  refine V_newB (F := 500) (n := 1) 4 rfl ac_B (by decide +kernel) (by decide +kernel) (Nat.le_of_ble_eq_true rfl) (app_len hR0 rfl) (hz _ (by omega)) ⟨Nat.le_of_ble_eq_true rfl, Nat.le_of_ble_eq_true rfl⟩ (fun a' ha' => ?_)
  replace ha := tr_ha (by rw [hn]; omega) ha ha'
  clear ha'
  rw [List.append_assoc]
  show V (ga G a') M_X7_init X (T0 ++ [(7, 0), (10, 500)]) 1 500 10 [some (rv (7, 0) 0)] [rv (10, 500) 1, rv (7, 0) 0] h
  revert a'
  clear a
  intro a ha
  refine V_putR (t := (10, 500)) (off := 1) (j := 0) (m := 0) 1 5 rfl fp_RX7_9 hin (app_0 hR0) (by decide) rfl (app_at hR0 1) (Nat.le_of_ble_eq_true rfl) (hm_of (by decide)) ?_
  rw [app_set hR0]
  show V (ga G a) M_X7_init X (T0 ++ [(7, 1), (10, 500)]) 1 500 13 [some (rv (7, 0) 0)] [] h
  refine V_aload_n 6 rfl rfl ?_
  refine V_iconst (nI 0) 7 rfl ic_0 ?_
  refine V_putI 8 rfl fi_RX7_13 ?_
  rw [hs_z (hz _ (by omega))]
  show V (ga G a) M_X7_init X (T0 ++ [(7, 1), (10, 500)]) 1 500 18 [some (rv (7, 0) 0)] [] h
  refine V_aload_n 9 rfl rfl ?_
  refine V_new (n := 2) 10 rfl nw_RX7_17 (app_len hR0 rfl) (hz _ (by omega)) ⟨Nat.le_of_ble_eq_true rfl, Nat.le_of_ble_eq_true rfl⟩ (fun a' ha' => ?_)
  replace ha := tr_ha (by rw [hn]; omega) ha ha'
  clear ha'
  revert a'
  clear a
  intro a ha
  refine V_dup 11 rfl nj_r ?_
  refine V_callI (N := M_X3_init) (T' := (T0 ++ [(7, 1), (10, 500)]) ++ [(3, 99), (5, 99), (9, 3), (9, 3), (1, 99), (9, 30), (9, 30), (9, 30), (11, 30), (11, 30), (9, 30), (4, 99), (9, 6), (9, 6), (9, 6), (9, 6), (9, 6), (9, 6), (9, 6), (9, 6), (9, 6), (11, 6), (11, 6), (9, 6), (9, 6), (9, 6)]) (h' := h2) 12 rfl (k_i3 (T0 := (T0 ++ [(7, 1), (10, 500)])) (app_len hR0 rfl) (fun k hk => hz k (by omega)) e1 hz1 e2) (k_le_mk (Nat.le_of_ble_eq_true rfl)) gI_X3_init li_RX7_19 ⟨Nat.le_of_ble_eq_true rfl, Nat.le_of_ble_eq_true rfl⟩ (Nat.le_of_ble_eq_true rfl) (Nat.le_of_ble_eq_true rfl) ⟨Nat.le_of_ble_eq_true rfl, Nat.le_of_ble_eq_true rfl⟩ (fun a' ha' => ?_)
  replace ha := tr_ha (by rw [hn, List.length_append, app_len (n := 2) hR0 rfl]; show _ ≤ 2 + 1; omega) ha ha'
  clear ha'
  rw [List.append_assoc]
  show V (ga G a') M_X7_init X (T0 ++ [(7, 1), (10, 500), (3, 99), (5, 99), (9, 3), (9, 3), (1, 99), (9, 30), (9, 30), (9, 30), (11, 30), (11, 30), (9, 30), (4, 99), (9, 6), (9, 6), (9, 6), (9, 6), (9, 6), (9, 6), (9, 6), (9, 6), (9, 6), (11, 6), (11, 6), (9, 6), (9, 6), (9, 6)]) 27 804 26 [some (rv (7, 0) 0)] [rv (3, 0) 2, rv (7, 0) 0] h2
  revert a'
  clear a
  intro a ha
  refine V_putR (t := (3, 99)) (off := 2) (j := 2) (m := 1) 3 13 rfl fp_RX7_20 hin (app_0 hR0) (by decide) rfl (app_at hR0 2) (Nat.le_of_ble_eq_true rfl) (hm_of (by decide)) ?_
  rw [app_set hR0]
  show V (ga G a) M_X7_init X (T0 ++ [(7, 3), (10, 500), (3, 99), (5, 99), (9, 3), (9, 3), (1, 99), (9, 30), (9, 30), (9, 30), (11, 30), (11, 30), (9, 30), (4, 99), (9, 6), (9, 6), (9, 6), (9, 6), (9, 6), (9, 6), (9, 6), (9, 6), (9, 6), (11, 6), (11, 6), (9, 6), (9, 6), (9, 6)]) 27 804 29 [some (rv (7, 0) 0)] [] h2
  refine V_aload_n 14 rfl rfl ?_
  refine V_new (n := 28) 15 rfl nw_RX7_24 (app_len hR0 rfl) (hz2 _ (by omega)) ⟨Nat.le_of_ble_eq_true rfl, Nat.le_of_ble_eq_true rfl⟩ (fun a' ha' => ?_)
  replace ha := tr_ha (by rw [hn]; omega) ha ha'
  clear ha'
  revert a'
  clear a
  intro a ha
  refine V_dup 16 rfl nj_r ?_
  refine V_callI (N := M_X5_init) (T' := (T0 ++ [(7, 3), (10, 500), (3, 99), (5, 99), (9, 3), (9, 3), (1, 99), (9, 30), (9, 30), (9, 30), (11, 30), (11, 30), (9, 30), (4, 99), (9, 6), (9, 6), (9, 6), (9, 6), (9, 6), (9, 6), (9, 6), (9, 6), (9, 6), (11, 6), (11, 6), (9, 6), (9, 6), (9, 6)]) ++ [(5, 99), (9, 3), (9, 3)]) (h' := h3) 17 rfl (k_i5 (T0 := (T0 ++ [(7, 3), (10, 500), (3, 99), (5, 99), (9, 3), (9, 3), (1, 99), (9, 30), (9, 30), (9, 30), (11, 30), (11, 30), (9, 30), (4, 99), (9, 6), (9, 6), (9, 6), (9, 6), (9, 6), (9, 6), (9, 6), (9, 6), (9, 6), (11, 6), (11, 6), (9, 6), (9, 6), (9, 6)])) (R := 28) (app_len hR0 rfl) (fun k hk => hz2 k (by omega)) e3) (k_le_mk (Nat.le_of_ble_eq_true rfl)) gI_X5_init li_RX7_26 ⟨Nat.le_of_ble_eq_true rfl, Nat.le_of_ble_eq_true rfl⟩ (Nat.le_of_ble_eq_true rfl) (Nat.le_of_ble_eq_true rfl) ⟨Nat.le_of_ble_eq_true rfl, Nat.le_of_ble_eq_true rfl⟩ (fun a' ha' => ?_)
  replace ha := tr_ha (by rw [hn, List.length_append, app_len (n := 28) hR0 rfl]; show _ ≤ 28 + 1; omega) ha ha'
  clear ha'
  rw [List.append_assoc]
  show V (ga G a') M_X7_init X (T0 ++ [(7, 3), (10, 500), (3, 99), (5, 99), (9, 3), (9, 3), (1, 99), (9, 30), (9, 30), (9, 30), (11, 30), (11, 30), (9, 30), (4, 99), (9, 6), (9, 6), (9, 6), (9, 6), (9, 6), (9, 6), (9, 6), (9, 6), (9, 6), (11, 6), (11, 6), (9, 6), (9, 6), (9, 6), (5, 99), (9, 3), (9, 3)]) 30 820 37 [some (rv (7, 0) 0)] [rv (5, 0) 28, rv (7, 0) 0] h3
  revert a'
  clear a
  intro a ha
  refine V_putR (t := (5, 99)) (off := 28) (j := 3) (m := 3) 4 18 rfl fp_RX7_27 hin (app_0 hR0) (by decide) rfl (app_at hR0 28) (Nat.le_of_ble_eq_true rfl) (hm_of (by decide)) ?_
  rw [app_set hR0]
  show V (ga G a) M_X7_init X (T0 ++ [(7, 4), (10, 500), (3, 99), (5, 99), (9, 3), (9, 3), (1, 99), (9, 30), (9, 30), (9, 30), (11, 30), (11, 30), (9, 30), (4, 99), (9, 6), (9, 6), (9, 6), (9, 6), (9, 6), (9, 6), (9, 6), (9, 6), (9, 6), (11, 6), (11, 6), (9, 6), (9, 6), (9, 6), (5, 99), (9, 3), (9, 3)]) 30 820 40 [some (rv (7, 0) 0)] [] h3
  refine V_aload_n 19 rfl rfl ?_
  refine V_new (n := 31) 20 rfl nw_RX7_31 (app_len hR0 rfl) (hz3 _ (by omega)) ⟨Nat.le_of_ble_eq_true rfl, Nat.le_of_ble_eq_true rfl⟩ (fun a' ha' => ?_)
  replace ha := tr_ha (by rw [hn]; omega) ha ha'
  clear ha'
  revert a'
  clear a
  intro a ha
  refine V_dup 21 rfl nj_r ?_
  refine V_callIN (N := M_X2_init) (T' := (T0 ++ [(7, 4), (10, 500), (3, 99), (5, 99), (9, 3), (9, 3), (1, 99), (9, 30), (9, 30), (9, 30), (11, 30), (11, 30), (9, 30), (4, 99), (9, 6), (9, 6), (9, 6), (9, 6), (9, 6), (9, 6), (9, 6), (9, 6), (9, 6), (11, 6), (11, 6), (9, 6), (9, 6), (9, 6), (5, 99), (9, 3), (9, 3)]) ++ [(2, 99), (1, 99), (9, 30), (9, 30), (9, 30), (11, 30), (11, 30), (9, 30), (4, 99), (9, 6), (9, 6), (9, 6), (9, 6), (9, 6), (9, 6), (9, 6), (9, 6), (9, 6), (11, 6), (11, 6)]) (h' := h3) 22 rfl (k_i2 (T0 := (T0 ++ [(7, 4), (10, 500), (3, 99), (5, 99), (9, 3), (9, 3), (1, 99), (9, 30), (9, 30), (9, 30), (11, 30), (11, 30), (9, 30), (4, 99), (9, 6), (9, 6), (9, 6), (9, 6), (9, 6), (9, 6), (9, 6), (9, 6), (9, 6), (11, 6), (11, 6), (9, 6), (9, 6), (9, 6), (5, 99), (9, 3), (9, 3)])) (R := 31) (app_len hR0 rfl) (fun k hk => hz3 k (by omega))) (k_le_mk (Nat.le_of_ble_eq_true rfl)) gI_X2_init nk_RX7_33 ⟨Nat.le_of_ble_eq_true rfl, Nat.le_of_ble_eq_true rfl⟩ (Nat.le_of_ble_eq_true rfl) (Nat.le_of_ble_eq_true rfl) ⟨Nat.le_of_ble_eq_true rfl, Nat.le_of_ble_eq_true rfl⟩ (fun a' ha' => ?_)
  replace ha := tr_ha (by rw [hn, List.length_append, app_len (n := 31) hR0 rfl]; show _ ≤ 31 + 1; omega) ha ha'
  clear ha'
  rw [List.append_assoc]
  show V (ga G a') M_X7_init X (T0 ++ [(7, 4), (10, 500), (3, 99), (5, 99), (9, 3), (9, 3), (1, 99), (9, 30), (9, 30), (9, 30), (11, 30), (11, 30), (9, 30), (4, 99), (9, 6), (9, 6), (9, 6), (9, 6), (9, 6), (9, 6), (9, 6), (9, 6), (9, 6), (11, 6), (11, 6), (9, 6), (9, 6), (9, 6), (5, 99), (9, 3), (9, 3), (2, 99), (1, 99), (9, 30), (9, 30), (9, 30), (11, 30), (11, 30), (9, 30), (4, 99), (9, 6), (9, 6), (9, 6), (9, 6), (9, 6), (9, 6), (9, 6), (9, 6), (9, 6), (11, 6), (11, 6)]) 50 1087 48 [some (rv (7, 0) 0)] [rv (2, 0) 31, rv (7, 0) 0] h3
  revert a'
  clear a
  intro a ha
  refine V_putR (t := (2, 99)) (off := 31) (j := 4) (m := 4) 5 23 rfl fp_RX7_34 hin (app_0 hR0) (by decide) rfl (app_at hR0 31) (Nat.le_of_ble_eq_true rfl) (hm_of (by decide)) ?_
  rw [app_set hR0]
  show V (ga G a) M_X7_init X (T0 ++ [(7, 5), (10, 500), (3, 99), (5, 99), (9, 3), (9, 3), (1, 99), (9, 30), (9, 30), (9, 30), (11, 30), (11, 30), (9, 30), (4, 99), (9, 6), (9, 6), (9, 6), (9, 6), (9, 6), (9, 6), (9, 6), (9, 6), (9, 6), (11, 6), (11, 6), (9, 6), (9, 6), (9, 6), (5, 99), (9, 3), (9, 3), (2, 99), (1, 99), (9, 30), (9, 30), (9, 30), (11, 30), (11, 30), (9, 30), (4, 99), (9, 6), (9, 6), (9, 6), (9, 6), (9, 6), (9, 6), (9, 6), (9, 6), (9, 6), (11, 6), (11, 6)]) 50 1087 51 [some (rv (7, 0) 0)] [] h3
  refine V_aload_n 24 rfl rfl ?_
  refine V_new (n := 51) 25 rfl nw_RX7_31 (app_len hR0 rfl) (hz3 _ (by omega)) ⟨Nat.le_of_ble_eq_true rfl, Nat.le_of_ble_eq_true rfl⟩ (fun a' ha' => ?_)
  replace ha := tr_ha (by rw [hn]; omega) ha ha'
  clear ha'
  revert a'
  clear a
  intro a ha
  refine V_dup 26 rfl nj_r ?_
  refine V_callIN (N := M_X2_init) (T' := (T0 ++ [(7, 5), (10, 500), (3, 99), (5, 99), (9, 3), (9, 3), (1, 99), (9, 30), (9, 30), (9, 30), (11, 30), (11, 30), (9, 30), (4, 99), (9, 6), (9, 6), (9, 6), (9, 6), (9, 6), (9, 6), (9, 6), (9, 6), (9, 6), (11, 6), (11, 6), (9, 6), (9, 6), (9, 6), (5, 99), (9, 3), (9, 3), (2, 99), (1, 99), (9, 30), (9, 30), (9, 30), (11, 30), (11, 30), (9, 30), (4, 99), (9, 6), (9, 6), (9, 6), (9, 6), (9, 6), (9, 6), (9, 6), (9, 6), (9, 6), (11, 6), (11, 6)]) ++ [(2, 99), (1, 99), (9, 30), (9, 30), (9, 30), (11, 30), (11, 30), (9, 30), (4, 99), (9, 6), (9, 6), (9, 6), (9, 6), (9, 6), (9, 6), (9, 6), (9, 6), (9, 6), (11, 6), (11, 6)]) (h' := h3) 27 rfl (k_i2 (T0 := (T0 ++ [(7, 5), (10, 500), (3, 99), (5, 99), (9, 3), (9, 3), (1, 99), (9, 30), (9, 30), (9, 30), (11, 30), (11, 30), (9, 30), (4, 99), (9, 6), (9, 6), (9, 6), (9, 6), (9, 6), (9, 6), (9, 6), (9, 6), (9, 6), (11, 6), (11, 6), (9, 6), (9, 6), (9, 6), (5, 99), (9, 3), (9, 3), (2, 99), (1, 99), (9, 30), (9, 30), (9, 30), (11, 30), (11, 30), (9, 30), (4, 99), (9, 6), (9, 6), (9, 6), (9, 6), (9, 6), (9, 6), (9, 6), (9, 6), (9, 6), (11, 6), (11, 6)])) (R := 51) (app_len hR0 rfl) (fun k hk => hz3 k (by omega))) (k_le_mk (Nat.le_of_ble_eq_true rfl)) gI_X2_init nk_RX7_33 ⟨Nat.le_of_ble_eq_true rfl, Nat.le_of_ble_eq_true rfl⟩ (Nat.le_of_ble_eq_true rfl) (Nat.le_of_ble_eq_true rfl) ⟨Nat.le_of_ble_eq_true rfl, Nat.le_of_ble_eq_true rfl⟩ (fun a' ha' => ?_)
  replace ha := tr_ha (by rw [hn, List.length_append, app_len (n := 51) hR0 rfl]; show _ ≤ 51 + 1; omega) ha ha'
  clear ha'
  rw [List.append_assoc]
  show V (ga G a') M_X7_init X (T0 ++ [(7, 5), (10, 500), (3, 99), (5, 99), (9, 3), (9, 3), (1, 99), (9, 30), (9, 30), (9, 30), (11, 30), (11, 30), (9, 30), (4, 99), (9, 6), (9, 6), (9, 6), (9, 6), (9, 6), (9, 6), (9, 6), (9, 6), (9, 6), (11, 6), (11, 6), (9, 6), (9, 6), (9, 6), (5, 99), (9, 3), (9, 3), (2, 99), (1, 99), (9, 30), (9, 30), (9, 30), (11, 30), (11, 30), (9, 30), (4, 99), (9, 6), (9, 6), (9, 6), (9, 6), (9, 6), (9, 6), (9, 6), (9, 6), (9, 6), (11, 6), (11, 6), (2, 99), (1, 99), (9, 30), (9, 30), (9, 30), (11, 30), (11, 30), (9, 30), (4, 99), (9, 6), (9, 6), (9, 6), (9, 6), (9, 6), (9, 6), (9, 6), (9, 6), (9, 6), (11, 6), (11, 6)]) 70 1354 59 [some (rv (7, 0) 0)] [rv (2, 0) 51, rv (7, 0) 0] h3
  revert a'
  clear a
  intro a ha
  refine V_putR (t := (2, 99)) (off := 51) (j := 5) (m := 5) 6 28 rfl fp_RX7_38 hin (app_0 hR0) (by decide) rfl (app_at hR0 51) (Nat.le_of_ble_eq_true rfl) (hm_of (by decide)) ?_
  rw [app_set hR0]
  show V (ga G a) M_X7_init X (T0 ++ [(7, 6), (10, 500), (3, 99), (5, 99), (9, 3), (9, 3), (1, 99), (9, 30), (9, 30), (9, 30), (11, 30), (11, 30), (9, 30), (4, 99), (9, 6), (9, 6), (9, 6), (9, 6), (9, 6), (9, 6), (9, 6), (9, 6), (9, 6), (11, 6), (11, 6), (9, 6), (9, 6), (9, 6), (5, 99), (9, 3), (9, 3), (2, 99), (1, 99), (9, 30), (9, 30), (9, 30), (11, 30), (11, 30), (9, 30), (4, 99), (9, 6), (9, 6), (9, 6), (9, 6), (9, 6), (9, 6), (9, 6), (9, 6), (9, 6), (11, 6), (11, 6), (2, 99), (1, 99), (9, 30), (9, 30), (9, 30), (11, 30), (11, 30), (9, 30), (4, 99), (9, 6), (9, 6), (9, 6), (9, 6), (9, 6), (9, 6), (9, 6), (9, 6), (9, 6), (11, 6), (11, 6)]) 70 1354 62 [some (rv (7, 0) 0)] [] h3
  refine V_aload_n 29 rfl rfl ?_
  refine V_new (n := 71) 30 rfl nw_RX7_31 (app_len hR0 rfl) (hz3 _ (by omega)) ⟨Nat.le_of_ble_eq_true rfl, Nat.le_of_ble_eq_true rfl⟩ (fun a' ha' => ?_)
  replace ha := tr_ha (by rw [hn]; omega) ha ha'
  clear ha'
  revert a'
  clear a
  intro a ha
  refine V_dup 31 rfl nj_r ?_
  refine V_callIN (N := M_X2_init) (T' := (T0 ++ [(7, 6), (10, 500), (3, 99), (5, 99), (9, 3), (9, 3), (1, 99), (9, 30), (9, 30), (9, 30), (11, 30), (11, 30), (9, 30), (4, 99), (9, 6), (9, 6), (9, 6), (9, 6), (9, 6), (9, 6), (9, 6), (9, 6), (9, 6), (11, 6), (11, 6), (9, 6), (9, 6), (9, 6), (5, 99), (9, 3), (9, 3), (2, 99), (1, 99), (9, 30), (9, 30), (9, 30), (11, 30), (11, 30), (9, 30), (4, 99), (9, 6), (9, 6), (9, 6), (9, 6), (9, 6), (9, 6), (9, 6), (9, 6), (9, 6), (11, 6), (11, 6), (2, 99), (1, 99), (9, 30), (9, 30), (9, 30), (11, 30), (11, 30), (9, 30), (4, 99), (9, 6), (9, 6), (9, 6), (9, 6), (9, 6), (9, 6), (9, 6), (9, 6), (9, 6), (11, 6), (11, 6)]) ++ [(2, 99), (1, 99), (9, 30), (9, 30), (9, 30), (11, 30), (11, 30), (9, 30), (4, 99), (9, 6), (9, 6), (9, 6), (9, 6), (9, 6), (9, 6), (9, 6), (9, 6), (9, 6), (11, 6), (11, 6)]) (h' := h3) 32 rfl (k_i2 (T0 := (T0 ++ [(7, 6), (10, 500), (3, 99), (5, 99), (9, 3), (9, 3), (1, 99), (9, 30), (9, 30), (9, 30), (11, 30), (11, 30), (9, 30), (4, 99), (9, 6), (9, 6), (9, 6), (9, 6), (9, 6), (9, 6), (9, 6), (9, 6), (9, 6), (11, 6), (11, 6), (9, 6), (9, 6), (9, 6), (5, 99), (9, 3), (9, 3), (2, 99), (1, 99), (9, 30), (9, 30), (9, 30), (11, 30), (11, 30), (9, 30), (4, 99), (9, 6), (9, 6), (9, 6), (9, 6), (9, 6), (9, 6), (9, 6), (9, 6), (9, 6), (11, 6), (11, 6), (2, 99), (1, 99), (9, 30), (9, 30), (9, 30), (11, 30), (11, 30), (9, 30), (4, 99), (9, 6), (9, 6), (9, 6), (9, 6), (9, 6), (9, 6), (9, 6), (9, 6), (9, 6), (11, 6), (11, 6)])) (R := 71) (app_len hR0 rfl) (fun k hk => hz3 k (by omega))) (k_le_mk (Nat.le_of_ble_eq_true rfl)) gI_X2_init nk_RX7_33 ⟨Nat.le_of_ble_eq_true rfl, Nat.le_of_ble_eq_true rfl⟩ (Nat.le_of_ble_eq_true rfl) (Nat.le_of_ble_eq_true rfl) ⟨Nat.le_of_ble_eq_true rfl, Nat.le_of_ble_eq_true rfl⟩ (fun a' ha' => ?_)
  replace ha := tr_ha (by rw [hn, List.length_append, app_len (n := 71) hR0 rfl]; show _ ≤ 71 + 1; omega) ha ha'
  clear ha'
  rw [List.append_assoc]
  show V (ga G a') M_X7_init X (T0 ++ [(7, 6), (10, 500), (3, 99), (5, 99), (9, 3), (9, 3), (1, 99), (9, 30), (9, 30), (9, 30), (11, 30), (11, 30), (9, 30), (4, 99), (9, 6), (9, 6), (9, 6), (9, 6), (9, 6), (9, 6), (9, 6), (9, 6), (9, 6), (11, 6), (11, 6), (9, 6), (9, 6), (9, 6), (5, 99), (9, 3), (9, 3), (2, 99), (1, 99), (9, 30), (9, 30), (9, 30), (11, 30), (11, 30), (9, 30), (4, 99), (9, 6), (9, 6), (9, 6), (9, 6), (9, 6), (9, 6), (9, 6), (9, 6), (9, 6), (11, 6), (11, 6), (2, 99), (1, 99), (9, 30), (9, 30), (9, 30), (11, 30), (11, 30), (9, 30), (4, 99), (9, 6), (9, 6), (9, 6), (9, 6), (9, 6), (9, 6), (9, 6), (9, 6), (9, 6), (11, 6), (11, 6), (2, 99), (1, 99), (9, 30), (9, 30), (9, 30), (11, 30), (11, 30), (9, 30), (4, 99), (9, 6), (9, 6), (9, 6), (9, 6), (9, 6), (9, 6), (9, 6), (9, 6), (9, 6), (11, 6), (11, 6)]) 90 1621 70 [some (rv (7, 0) 0)] [rv (2, 0) 71, rv (7, 0) 0] h3
  revert a'
  clear a
  intro a ha
  refine V_putR (t := (2, 99)) (off := 71) (j := 6) (m := 6) 7 33 rfl fp_RX7_41 hin (app_0 hR0) (by decide) rfl (app_at hR0 71) (Nat.le_of_ble_eq_true rfl) (hm_of (by decide)) ?_
  rw [app_set hR0]
  show V (ga G a) M_X7_init X (T0 ++ [(7, 7), (10, 500), (3, 99), (5, 99), (9, 3), (9, 3), (1, 99), (9, 30), (9, 30), (9, 30), (11, 30), (11, 30), (9, 30), (4, 99), (9, 6), (9, 6), (9, 6), (9, 6), (9, 6), (9, 6), (9, 6), (9, 6), (9, 6), (11, 6), (11, 6), (9, 6), (9, 6), (9, 6), (5, 99), (9, 3), (9, 3), (2, 99), (1, 99), (9, 30), (9, 30), (9, 30), (11, 30), (11, 30), (9, 30), (4, 99), (9, 6), (9, 6), (9, 6), (9, 6), (9, 6), (9, 6), (9, 6), (9, 6), (9, 6), (11, 6), (11, 6), (2, 99), (1, 99), (9, 30), (9, 30), (9, 30), (11, 30), (11, 30), (9, 30), (4, 99), (9, 6), (9, 6), (9, 6), (9, 6), (9, 6), (9, 6), (9, 6), (9, 6), (9, 6), (11, 6), (11, 6), (2, 99), (1, 99), (9, 30), (9, 30), (9, 30), (11, 30), (11, 30), (9, 30), (4, 99), (9, 6), (9, 6), (9, 6), (9, 6), (9, 6), (9, 6), (9, 6), (9, 6), (9, 6), (11, 6), (11, 6)]) 90 1621 73 [some (rv (7, 0) 0)] [] h3
  refine V_aload_n 34 rfl rfl ?_
  refine V_new (n := 91) 35 rfl nw_RX7_31 (app_len hR0 rfl) (hz3 _ (by omega)) ⟨Nat.le_of_ble_eq_true rfl, Nat.le_of_ble_eq_true rfl⟩ (fun a' ha' => ?_)
  replace ha := tr_ha (by rw [hn]; omega) ha ha'
  clear ha'
  revert a'
  clear a
  intro a ha
  refine V_dup 36 rfl nj_r ?_
  refine V_callIN (N := M_X2_init) (T' := (T0 ++ [(7, 7), (10, 500), (3, 99), (5, 99), (9, 3), (9, 3), (1, 99), (9, 30), (9, 30), (9, 30), (11, 30), (11, 30), (9, 30), (4, 99), (9, 6), (9, 6), (9, 6), (9, 6), (9, 6), (9, 6), (9, 6), (9, 6), (9, 6), (11, 6), (11, 6), (9, 6), (9, 6), (9, 6), (5, 99), (9, 3), (9, 3), (2, 99), (1, 99), (9, 30), (9, 30), (9, 30), (11, 30), (11, 30), (9, 30), (4, 99), (9, 6), (9, 6), (9, 6), (9, 6), (9, 6), (9, 6), (9, 6), (9, 6), (9, 6), (11, 6), (11, 6), (2, 99), (1, 99), (9, 30), (9, 30), (9, 30), (11, 30), (11, 30), (9, 30), (4, 99), (9, 6), (9, 6), (9, 6), (9, 6), (9, 6), (9, 6), (9, 6), (9, 6), (9, 6), (11, 6), (11, 6), (2, 99), (1, 99), (9, 30), (9, 30), (9, 30), (11, 30), (11, 30), (9, 30), (4, 99), (9, 6), (9, 6), (9, 6), (9, 6), (9, 6), (9, 6), (9, 6), (9, 6), (9, 6), (11, 6), (11, 6)]) ++ [(2, 99), (1, 99), (9, 30), (9, 30), (9, 30), (11, 30), (11, 30), (9, 30), (4, 99), (9, 6), (9, 6), (9, 6), (9, 6), (9, 6), (9, 6), (9, 6), (9, 6), (9, 6), (11, 6), (11, 6)]) (h' := h3) 37 rfl (k_i2 (T0 := (T0 ++ [(7, 7), (10, 500), (3, 99), (5, 99), (9, 3), (9, 3), (1, 99), (9, 30), (9, 30), (9, 30), (11, 30), (11, 30), (9, 30), (4, 99), (9, 6), (9, 6), (9, 6), (9, 6), (9, 6), (9, 6), (9, 6), (9, 6), (9, 6), (11, 6), (11, 6), (9, 6), (9, 6), (9, 6), (5, 99), (9, 3), (9, 3), (2, 99), (1, 99), (9, 30), (9, 30), (9, 30), (11, 30), (11, 30), (9, 30), (4, 99), (9, 6), (9, 6), (9, 6), (9, 6), (9, 6), (9, 6), (9, 6), (9, 6), (9, 6), (11, 6), (11, 6), (2, 99), (1, 99), (9, 30), (9, 30), (9, 30), (11, 30), (11, 30), (9, 30), (4, 99), (9, 6), (9, 6), (9, 6), (9, 6), (9, 6), (9, 6), (9, 6), (9, 6), (9, 6), (11, 6), (11, 6), (2, 99), (1, 99), (9, 30), (9, 30), (9, 30), (11, 30), (11, 30), (9, 30), (4, 99), (9, 6), (9, 6), (9, 6), (9, 6), (9, 6), (9, 6), (9, 6), (9, 6), (9, 6), (11, 6), (11, 6)])) (R := 91) (app_len hR0 rfl) (fun k hk => hz3 k (by omega))) (k_le_mk (Nat.le_of_ble_eq_true rfl)) gI_X2_init nk_RX7_33 ⟨Nat.le_of_ble_eq_true rfl, Nat.le_of_ble_eq_true rfl⟩ (Nat.le_of_ble_eq_true rfl) (Nat.le_of_ble_eq_true rfl) ⟨Nat.le_of_ble_eq_true rfl, Nat.le_of_ble_eq_true rfl⟩ (fun a' ha' => ?_)
  replace ha := tr_ha (by rw [hn, List.length_append, app_len (n := 91) hR0 rfl]; show _ ≤ 91 + 1; omega) ha ha'
  clear ha'
  rw [List.append_assoc]
  show V (ga G a') M_X7_init X (T0 ++ [(7, 7), (10, 500), (3, 99), (5, 99), (9, 3), (9, 3), (1, 99), (9, 30), (9, 30), (9, 30), (11, 30), (11, 30), (9, 30), (4, 99), (9, 6), (9, 6), (9, 6), (9, 6), (9, 6), (9, 6), (9, 6), (9, 6), (9, 6), (11, 6), (11, 6), (9, 6), (9, 6), (9, 6), (5, 99), (9, 3), (9, 3), (2, 99), (1, 99), (9, 30), (9, 30), (9, 30), (11, 30), (11, 30), (9, 30), (4, 99), (9, 6), (9, 6), (9, 6), (9, 6), (9, 6), (9, 6), (9, 6), (9, 6), (9, 6), (11, 6), (11, 6), (2, 99), (1, 99), (9, 30), (9, 30), (9, 30), (11, 30), (11, 30), (9, 30), (4, 99), (9, 6), (9, 6), (9, 6), (9, 6), (9, 6), (9, 6), (9, 6), (9, 6), (9, 6), (11, 6), (11, 6), (2, 99), (1, 99), (9, 30), (9, 30), (9, 30), (11, 30), (11, 30), (9, 30), (4, 99), (9, 6), (9, 6), (9, 6), (9, 6), (9, 6), (9, 6), (9, 6), (9, 6), (9, 6), (11, 6), (11, 6), (2, 99), (1, 99), (9, 30), (9, 30), (9, 30), (11, 30), (11, 30), (9, 30), (4, 99), (9, 6), (9, 6), (9, 6), (9, 6), (9, 6), (9, 6), (9, 6), (9, 6), (9, 6), (11, 6), (11, 6)]) 110 1888 81 [some (rv (7, 0) 0)] [rv (2, 0) 91, rv (7, 0) 0] h3
  revert a'
  clear a
  intro a ha
  refine V_putR (t := (2, 99)) (off := 91) (j := 7) (m := 7) 8 38 rfl fp_RX7_44 hin (app_0 hR0) (by decide) rfl (app_at hR0 91) (Nat.le_of_ble_eq_true rfl) (hm_of (by decide)) ?_
  rw [app_set hR0]
  show V (ga G a) M_X7_init X (T0 ++ [(7, 8), (10, 500), (3, 99), (5, 99), (9, 3), (9, 3), (1, 99), (9, 30), (9, 30), (9, 30), (11, 30), (11, 30), (9, 30), (4, 99), (9, 6), (9, 6), (9, 6), (9, 6), (9, 6), (9, 6), (9, 6), (9, 6), (9, 6), (11, 6), (11, 6), (9, 6), (9, 6), (9, 6), (5, 99), (9, 3), (9, 3), (2, 99), (1, 99), (9, 30), (9, 30), (9, 30), (11, 30), (11, 30), (9, 30), (4, 99), (9, 6), (9, 6), (9, 6), (9, 6), (9, 6), (9, 6), (9, 6), (9, 6), (9, 6), (11, 6), (11, 6), (2, 99), (1, 99), (9, 30), (9, 30), (9, 30), (11, 30), (11, 30), (9, 30), (4, 99), (9, 6), (9, 6), (9, 6), (9, 6), (9, 6), (9, 6), (9, 6), (9, 6), (9, 6), (11, 6), (11, 6), (2, 99), (1, 99), (9, 30), (9, 30), (9, 30), (11, 30), (11, 30), (9, 30), (4, 99), (9, 6), (9, 6), (9, 6), (9, 6), (9, 6), (9, 6), (9, 6), (9, 6), (9, 6), (11, 6), (11, 6), (2, 99), (1, 99), (9, 30), (9, 30), (9, 30), (11, 30), (11, 30), (9, 30), (4, 99), (9, 6), (9, 6), (9, 6), (9, 6), (9, 6), (9, 6), (9, 6), (9, 6), (9, 6), (11, 6), (11, 6)]) 110 1888 84 [some (rv (7, 0) 0)] [] h3
  refine V_aload_n 39 rfl rfl ?_
  refine V_new (n := 111) 40 rfl nw_RX7_31 (app_len hR0 rfl) (hz3 _ (by omega)) ⟨Nat.le_of_ble_eq_true rfl, Nat.le_of_ble_eq_true rfl⟩ (fun a' ha' => ?_)
  replace ha := tr_ha (by rw [hn]; omega) ha ha'
  clear ha'
  revert a'
  clear a
  intro a ha
  refine V_dup 41 rfl nj_r ?_
  refine V_callIN (N := M_X2_init) (T' := (T0 ++ [(7, 8), (10, 500), (3, 99), (5, 99), (9, 3), (9, 3), (1, 99), (9, 30), (9, 30), (9, 30), (11, 30), (11, 30), (9, 30), (4, 99), (9, 6), (9, 6), (9, 6), (9, 6), (9, 6), (9, 6), (9, 6), (9, 6), (9, 6), (11, 6), (11, 6), (9, 6), (9, 6), (9, 6), (5, 99), (9, 3), (9, 3), (2, 99), (1, 99), (9, 30), (9, 30), (9, 30), (11, 30), (11, 30), (9, 30), (4, 99), (9, 6), (9, 6), (9, 6), (9, 6), (9, 6), (9, 6), (9, 6), (9, 6), (9, 6), (11, 6), (11, 6), (2, 99), (1, 99), (9, 30), (9, 30), (9, 30), (11, 30), (11, 30), (9, 30), (4, 99), (9, 6), (9, 6), (9, 6), (9, 6), (9, 6), (9, 6), (9, 6), (9, 6), (9, 6), (11, 6), (11, 6), (2, 99), (1, 99), (9, 30), (9, 30), (9, 30), (11, 30), (11, 30), (9, 30), (4, 99), (9, 6), (9, 6), (9, 6), (9, 6), (9, 6), (9, 6), (9, 6), (9, 6), (9, 6), (11, 6), (11, 6), (2, 99), (1, 99), (9, 30), (9, 30), (9, 30), (11, 30), (11, 30), (9, 30), (4, 99), (9, 6), (9, 6), (9, 6), (9, 6), (9, 6), (9, 6), (9, 6), (9, 6), (9, 6), (11, 6), (11, 6)]) ++ [(2, 99), (1, 99), (9, 30), (9, 30), (9, 30), (11, 30), (11, 30), (9, 30), (4, 99), (9, 6), (9, 6), (9, 6), (9, 6), (9, 6), (9, 6), (9, 6), (9, 6), (9, 6), (11, 6), (11, 6)]) (h' := h3) 42 rfl (k_i2 (T0 := (T0 ++ [(7, 8), (10, 500), (3, 99), (5, 99), (9, 3), (9, 3), (1, 99), (9, 30), (9, 30), (9, 30), (11, 30), (11, 30), (9, 30), (4, 99), (9, 6), (9, 6), (9, 6), (9, 6), (9, 6), (9, 6), (9, 6), (9, 6), (9, 6), (11, 6), (11, 6), (9, 6), (9, 6), (9, 6), (5, 99), (9, 3), (9, 3), (2, 99), (1, 99), (9, 30), (9, 30), (9, 30), (11, 30), (11, 30), (9, 30), (4, 99), (9, 6), (9, 6), (9, 6), (9, 6), (9, 6), (9, 6), (9, 6), (9, 6), (9, 6), (11, 6), (11, 6), (2, 99), (1, 99), (9, 30), (9, 30), (9, 30), (11, 30), (11, 30), (9, 30), (4, 99), (9, 6), (9, 6), (9, 6), (9, 6), (9, 6), (9, 6), (9, 6), (9, 6), (9, 6), (11, 6), (11, 6), (2, 99), (1, 99), (9, 30), (9, 30), (9, 30), (11, 30), (11, 30), (9, 30), (4, 99), (9, 6), (9, 6), (9, 6), (9, 6), (9, 6), (9, 6), (9, 6), (9, 6), (9, 6), (11, 6), (11, 6), (2, 99), (1, 99), (9, 30), (9, 30), (9, 30), (11, 30), (11, 30), (9, 30), (4, 99), (9, 6), (9, 6), (9, 6), (9, 6), (9, 6), (9, 6), (9, 6), (9, 6), (9, 6), (11, 6), (11, 6)])) (R := 111) (app_len hR0 rfl) (fun k hk => hz3 k (by omega))) (k_le_mk (Nat.le_of_ble_eq_true rfl)) gI_X2_init nk_RX7_33 ⟨Nat.le_of_ble_eq_true rfl, Nat.le_of_ble_eq_true rfl⟩ (Nat.le_of_ble_eq_true rfl) (Nat.le_of_ble_eq_true rfl) ⟨Nat.le_of_ble_eq_true rfl, Nat.le_of_ble_eq_true rfl⟩ (fun a' ha' => ?_)
  replace ha := tr_ha (by rw [hn, List.length_append, app_len (n := 111) hR0 rfl]; show _ ≤ 111 + 1; omega) ha ha'
  clear ha'
  rw [List.append_assoc]
  show V (ga G a') M_X7_init X (T0 ++ [(7, 8), (10, 500), (3, 99), (5, 99), (9, 3), (9, 3), (1, 99), (9, 30), (9, 30), (9, 30), (11, 30), (11, 30), (9, 30), (4, 99), (9, 6), (9, 6), (9, 6), (9, 6), (9, 6), (9, 6), (9, 6), (9, 6), (9, 6), (11, 6), (11, 6), (9, 6), (9, 6), (9, 6), (5, 99), (9, 3), (9, 3), (2, 99), (1, 99), (9, 30), (9, 30), (9, 30), (11, 30), (11, 30), (9, 30), (4, 99), (9, 6), (9, 6), (9, 6), (9, 6), (9, 6), (9, 6), (9, 6), (9, 6), (9, 6), (11, 6), (11, 6), (2, 99), (1, 99), (9, 30), (9, 30), (9, 30), (11, 30), (11, 30), (9, 30), (4, 99), (9, 6), (9, 6), (9, 6), (9, 6), (9, 6), (9, 6), (9, 6), (9, 6), (9, 6), (11, 6), (11, 6), (2, 99), (1, 99), (9, 30), (9, 30), (9, 30), (11, 30), (11, 30), (9, 30), (4, 99), (9, 6), (9, 6), (9, 6), (9, 6), (9, 6), (9, 6), (9, 6), (9, 6), (9, 6), (11, 6), (11, 6), (2, 99), (1, 99), (9, 30), (9, 30), (9, 30), (11, 30), (11, 30), (9, 30), (4, 99), (9, 6), (9, 6), (9, 6), (9, 6), (9, 6), (9, 6), (9, 6), (9, 6), (9, 6), (11, 6), (11, 6), (2, 99), (1, 99), (9, 30), (9, 30), (9, 30), (11, 30), (11, 30), (9, 30), (4, 99), (9, 6), (9, 6), (9, 6), (9, 6), (9, 6), (9, 6), (9, 6), (9, 6), (9, 6), (11, 6), (11, 6)]) 130 2155 92 [some (rv (7, 0) 0)] [rv (2, 0) 111, rv (7, 0) 0] h3
  revert a'
  clear a
  intro a ha
  refine V_putR (t := (2, 99)) (off := 111) (j := 8) (m := 8) 9 43 rfl fp_RX7_47 hin (app_0 hR0) (by decide) rfl (app_at hR0 111) (Nat.le_of_ble_eq_true rfl) (hm_of (by decide)) ?_
  rw [app_set hR0]
  show V (ga G a) M_X7_init X (T0 ++ [(7, 9), (10, 500), (3, 99), (5, 99), (9, 3), (9, 3), (1, 99), (9, 30), (9, 30), (9, 30), (11, 30), (11, 30), (9, 30), (4, 99), (9, 6), (9, 6), (9, 6), (9, 6), (9, 6), (9, 6), (9, 6), (9, 6), (9, 6), (11, 6), (11, 6), (9, 6), (9, 6), (9, 6), (5, 99), (9, 3), (9, 3), (2, 99), (1, 99), (9, 30), (9, 30), (9, 30), (11, 30), (11, 30), (9, 30), (4, 99), (9, 6), (9, 6), (9, 6), (9, 6), (9, 6), (9, 6), (9, 6), (9, 6), (9, 6), (11, 6), (11, 6), (2, 99), (1, 99), (9, 30), (9, 30), (9, 30), (11, 30), (11, 30), (9, 30), (4, 99), (9, 6), (9, 6), (9, 6), (9, 6), (9, 6), (9, 6), (9, 6), (9, 6), (9, 6), (11, 6), (11, 6), (2, 99), (1, 99), (9, 30), (9, 30), (9, 30), (11, 30), (11, 30), (9, 30), (4, 99), (9, 6), (9, 6), (9, 6), (9, 6), (9, 6), (9, 6), (9, 6), (9, 6), (9, 6), (11, 6), (11, 6), (2, 99), (1, 99), (9, 30), (9, 30), (9, 30), (11, 30), (11, 30), (9, 30), (4, 99), (9, 6), (9, 6), (9, 6), (9, 6), (9, 6), (9, 6), (9, 6), (9, 6), (9, 6), (11, 6), (11, 6), (2, 99), (1, 99), (9, 30), (9, 30), (9, 30), (11, 30), (11, 30), (9, 30), (4, 99), (9, 6), (9, 6), (9, 6), (9, 6), (9, 6), (9, 6), (9, 6), (9, 6), (9, 6), (11, 6), (11, 6)]) 130 2155 95 [some (rv (7, 0) 0)] [] h3
  refine V_aload_n 44 rfl rfl ?_
  refine V_iconst (nI 0) 45 rfl ic_0 ?_
  refine V_putI 46 rfl fi_RX7_50 ?_
  rw [hs_z (hz3 _ (by omega))]
  show V (ga G a) M_X7_init X (T0 ++ [(7, 9), (10, 500), (3, 99), (5, 99), (9, 3), (9, 3), (1, 99), (9, 30), (9, 30), (9, 30), (11, 30), (11, 30), (9, 30), (4, 99), (9, 6), (9, 6), (9, 6), (9, 6), (9, 6), (9, 6), (9, 6), (9, 6), (9, 6), (11, 6), (11, 6), (9, 6), (9, 6), (9, 6), (5, 99), (9, 3), (9, 3), (2, 99), (1, 99), (9, 30), (9, 30), (9, 30), (11, 30), (11, 30), (9, 30), (4, 99), (9, 6), (9, 6), (9, 6), (9, 6), (9, 6), (9, 6), (9, 6), (9, 6), (9, 6), (11, 6), (11, 6), (2, 99), (1, 99), (9, 30), (9, 30), (9, 30), (11, 30), (11, 30), (9, 30), (4, 99), (9, 6), (9, 6), (9, 6), (9, 6), (9, 6), (9, 6), (9, 6), (9, 6), (9, 6), (11, 6), (11, 6), (2, 99), (1, 99), (9, 30), (9, 30), (9, 30), (11, 30), (11, 30), (9, 30), (4, 99), (9, 6), (9, 6), (9, 6), (9, 6), (9, 6), (9, 6), (9, 6), (9, 6), (9, 6), (11, 6), (11, 6), (2, 99), (1, 99), (9, 30), (9, 30), (9, 30), (11, 30), (11, 30), (9, 30), (4, 99), (9, 6), (9, 6), (9, 6), (9, 6), (9, 6), (9, 6), (9, 6), (9, 6), (9, 6), (11, 6), (11, 6), (2, 99), (1, 99), (9, 30), (9, 30), (9, 30), (11, 30), (11, 30), (9, 30), (4, 99), (9, 6), (9, 6), (9, 6), (9, 6), (9, 6), (9, 6), (9, 6), (9, 6), (9, 6), (11, 6), (11, 6)]) 130 2155 100 [some (rv (7, 0) 0)] [] h3
  refine V_aload_n 47 rfl rfl ?_
  refine V_bipush (nI 6) 48 rfl bp_6 ?_
  refine V_newI (F := 6) (n := 131) 49 rfl ac_I (by decide +kernel) (by decide +kernel) (Nat.le_of_ble_eq_true rfl) (app_len hR0 rfl) (hz3 _ (by omega)) ⟨Nat.le_of_ble_eq_true rfl, Nat.le_of_ble_eq_true rfl⟩ (fun a' ha' => ?_)
  replace ha := tr_ha (by rw [hn]; omega) ha ha'
  clear ha'
  rw [List.append_assoc]
  show V (ga G a') M_X7_init X (T0 ++ [(7, 9), (10, 500), (3, 99), (5, 99), (9, 3), (9, 3), (1, 99), (9, 30), (9, 30), (9, 30), (11, 30), (11, 30), (9, 30), (4, 99), (9, 6), (9, 6), (9, 6), (9, 6), (9, 6), (9, 6), (9, 6), (9, 6), (9, 6), (11, 6), (11, 6), (9, 6), (9, 6), (9, 6), (5, 99), (9, 3), (9, 3), (2, 99), (1, 99), (9, 30), (9, 30), (9, 30), (11, 30), (11, 30), (9, 30), (4, 99), (9, 6), (9, 6), (9, 6), (9, 6), (9, 6), (9, 6), (9, 6), (9, 6), (9, 6), (11, 6), (11, 6), (2, 99), (1, 99), (9, 30), (9, 30), (9, 30), (11, 30), (11, 30), (9, 30), (4, 99), (9, 6), (9, 6), (9, 6), (9, 6), (9, 6), (9, 6), (9, 6), (9, 6), (9, 6), (11, 6), (11, 6), (2, 99), (1, 99), (9, 30), (9, 30), (9, 30), (11, 30), (11, 30), (9, 30), (4, 99), (9, 6), (9, 6), (9, 6), (9, 6), (9, 6), (9, 6), (9, 6), (9, 6), (9, 6), (11, 6), (11, 6), (2, 99), (1, 99), (9, 30), (9, 30), (9, 30), (11, 30), (11, 30), (9, 30), (4, 99), (9, 6), (9, 6), (9, 6), (9, 6), (9, 6), (9, 6), (9, 6), (9, 6), (9, 6), (11, 6), (11, 6), (2, 99), (1, 99), (9, 30), (9, 30), (9, 30), (11, 30), (11, 30), (9, 30), (4, 99), (9, 6), (9, 6), (9, 6), (9, 6), (9, 6), (9, 6), (9, 6), (9, 6), (9, 6), (11, 6), (11, 6), (9, 6)]) 131 2161 105 [some (rv (7, 0) 0)] [rv (9, 6) 131, rv (7, 0) 0] h3
  revert a'
  clear a
  intro a ha
  refine V_putR (t := (9, 6)) (off := 131) (j := 10) (m := 9) 11 50 rfl fp_RX7_53 hin (app_0 hR0) (by decide) rfl (app_at hR0 131) (Nat.le_of_ble_eq_true rfl) (hm_of (by decide)) ?_
  rw [app_set hR0]
  show V (ga G a) M_X7_init X (T0 ++ [(7, 11), (10, 500), (3, 99), (5, 99), (9, 3), (9, 3), (1, 99), (9, 30), (9, 30), (9, 30), (11, 30), (11, 30), (9, 30), (4, 99), (9, 6), (9, 6), (9, 6), (9, 6), (9, 6), (9, 6), (9, 6), (9, 6), (9, 6), (11, 6), (11, 6), (9, 6), (9, 6), (9, 6), (5, 99), (9, 3), (9, 3), (2, 99), (1, 99), (9, 30), (9, 30), (9, 30), (11, 30), (11, 30), (9, 30), (4, 99), (9, 6), (9, 6), (9, 6), (9, 6), (9, 6), (9, 6), (9, 6), (9, 6), (9, 6), (11, 6), (11, 6), (2, 99), (1, 99), (9, 30), (9, 30), (9, 30), (11, 30), (11, 30), (9, 30), (4, 99), (9, 6), (9, 6), (9, 6), (9, 6), (9, 6), (9, 6), (9, 6), (9, 6), (9, 6), (11, 6), (11, 6), (2, 99), (1, 99), (9, 30), (9, 30), (9, 30), (11, 30), (11, 30), (9, 30), (4, 99), (9, 6), (9, 6), (9, 6), (9, 6), (9, 6), (9, 6), (9, 6), (9, 6), (9, 6), (11, 6), (11, 6), (2, 99), (1, 99), (9, 30), (9, 30), (9, 30), (11, 30), (11, 30), (9, 30), (4, 99), (9, 6), (9, 6), (9, 6), (9, 6), (9, 6), (9, 6), (9, 6), (9, 6), (9, 6), (11, 6), (11, 6), (2, 99), (1, 99), (9, 30), (9, 30), (9, 30), (11, 30), (11, 30), (9, 30), (4, 99), (9, 6), (9, 6), (9, 6), (9, 6), (9, 6), (9, 6), (9, 6), (9, 6), (9, 6), (11, 6), (11, 6), (9, 6)]) 131 2161 108 [some (rv (7, 0) 0)] [] h3
  refine V_aload_n 51 rfl rfl ?_
  refine V_iconst (nI 0) 52 rfl ic_0 ?_
  refine V_putI 53 rfl fi_RX7_57 ?_
  rw [hs_z (hz3 _ (by omega))]
  show V (ga G a) M_X7_init X (T0 ++ [(7, 11), (10, 500), (3, 99), (5, 99), (9, 3), (9, 3), (1, 99), (9, 30), (9, 30), (9, 30), (11, 30), (11, 30), (9, 30), (4, 99), (9, 6), (9, 6), (9, 6), (9, 6), (9, 6), (9, 6), (9, 6), (9, 6), (9, 6), (11, 6), (11, 6), (9, 6), (9, 6), (9, 6), (5, 99), (9, 3), (9, 3), (2, 99), (1, 99), (9, 30), (9, 30), (9, 30), (11, 30), (11, 30), (9, 30), (4, 99), (9, 6), (9, 6), (9, 6), (9, 6), (9, 6), (9, 6), (9, 6), (9, 6), (9, 6), (11, 6), (11, 6), (2, 99), (1, 99), (9, 30), (9, 30), (9, 30), (11, 30), (11, 30), (9, 30), (4, 99), (9, 6), (9, 6), (9, 6), (9, 6), (9, 6), (9, 6), (9, 6), (9, 6), (9, 6), (11, 6), (11, 6), (2, 99), (1, 99), (9, 30), (9, 30), (9, 30), (11, 30), (11, 30), (9, 30), (4, 99), (9, 6), (9, 6), (9, 6), (9, 6), (9, 6), (9, 6), (9, 6), (9, 6), (9, 6), (11, 6), (11, 6), (2, 99), (1, 99), (9, 30), (9, 30), (9, 30), (11, 30), (11, 30), (9, 30), (4, 99), (9, 6), (9, 6), (9, 6), (9, 6), (9, 6), (9, 6), (9, 6), (9, 6), (9, 6), (11, 6), (11, 6), (2, 99), (1, 99), (9, 30), (9, 30), (9, 30), (11, 30), (11, 30), (9, 30), (4, 99), (9, 6), (9, 6), (9, 6), (9, 6), (9, 6), (9, 6), (9, 6), (9, 6), (9, 6), (11, 6), (11, 6), (9, 6)]) 131 2161 113 [some (rv (7, 0) 0)] [] h3
  refine V_aload_n 54 rfl rfl ?_
  refine V_new (n := 132) 55 rfl nw_RX7_60 (app_len hR0 rfl) (hz3 _ (by omega)) ⟨Nat.le_of_ble_eq_true rfl, Nat.le_of_ble_eq_true rfl⟩ (fun a' ha' => ?_)
  replace ha := tr_ha (by rw [hn]; omega) ha ha'
  clear ha'
  revert a'
  clear a
  intro a ha
  refine V_dup 56 rfl nj_r ?_
  refine V_callIN (N := M_X0_init) (T' := (T0 ++ [(7, 11), (10, 500), (3, 99), (5, 99), (9, 3), (9, 3), (1, 99), (9, 30), (9, 30), (9, 30), (11, 30), (11, 30), (9, 30), (4, 99), (9, 6), (9, 6), (9, 6), (9, 6), (9, 6), (9, 6), (9, 6), (9, 6), (9, 6), (11, 6), (11, 6), (9, 6), (9, 6), (9, 6), (5, 99), (9, 3), (9, 3), (2, 99), (1, 99), (9, 30), (9, 30), (9, 30), (11, 30), (11, 30), (9, 30), (4, 99), (9, 6), (9, 6), (9, 6), (9, 6), (9, 6), (9, 6), (9, 6), (9, 6), (9, 6), (11, 6), (11, 6), (2, 99), (1, 99), (9, 30), (9, 30), (9, 30), (11, 30), (11, 30), (9, 30), (4, 99), (9, 6), (9, 6), (9, 6), (9, 6), (9, 6), (9, 6), (9, 6), (9, 6), (9, 6), (11, 6), (11, 6), (2, 99), (1, 99), (9, 30), (9, 30), (9, 30), (11, 30), (11, 30), (9, 30), (4, 99), (9, 6), (9, 6), (9, 6), (9, 6), (9, 6), (9, 6), (9, 6), (9, 6), (9, 6), (11, 6), (11, 6), (2, 99), (1, 99), (9, 30), (9, 30), (9, 30), (11, 30), (11, 30), (9, 30), (4, 99), (9, 6), (9, 6), (9, 6), (9, 6), (9, 6), (9, 6), (9, 6), (9, 6), (9, 6), (11, 6), (11, 6), (2, 99), (1, 99), (9, 30), (9, 30), (9, 30), (11, 30), (11, 30), (9, 30), (4, 99), (9, 6), (9, 6), (9, 6), (9, 6), (9, 6), (9, 6), (9, 6), (9, 6), (9, 6), (11, 6), (11, 6), (9, 6)]) ++ [(0, 99), (9, 7200)]) (h' := h3) 57 rfl (k_i0 (T0 := (T0 ++ [(7, 11), (10, 500), (3, 99), (5, 99), (9, 3), (9, 3), (1, 99), (9, 30), (9, 30), (9, 30), (11, 30), (11, 30), (9, 30), (4, 99), (9, 6), (9, 6), (9, 6), (9, 6), (9, 6), (9, 6), (9, 6), (9, 6), (9, 6), (11, 6), (11, 6), (9, 6), (9, 6), (9, 6), (5, 99), (9, 3), (9, 3), (2, 99), (1, 99), (9, 30), (9, 30), (9, 30), (11, 30), (11, 30), (9, 30), (4, 99), (9, 6), (9, 6), (9, 6), (9, 6), (9, 6), (9, 6), (9, 6), (9, 6), (9, 6), (11, 6), (11, 6), (2, 99), (1, 99), (9, 30), (9, 30), (9, 30), (11, 30), (11, 30), (9, 30), (4, 99), (9, 6), (9, 6), (9, 6), (9, 6), (9, 6), (9, 6), (9, 6), (9, 6), (9, 6), (11, 6), (11, 6), (2, 99), (1, 99), (9, 30), (9, 30), (9, 30), (11, 30), (11, 30), (9, 30), (4, 99), (9, 6), (9, 6), (9, 6), (9, 6), (9, 6), (9, 6), (9, 6), (9, 6), (9, 6), (11, 6), (11, 6), (2, 99), (1, 99), (9, 30), (9, 30), (9, 30), (11, 30), (11, 30), (9, 30), (4, 99), (9, 6), (9, 6), (9, 6), (9, 6), (9, 6), (9, 6), (9, 6), (9, 6), (9, 6), (11, 6), (11, 6), (2, 99), (1, 99), (9, 30), (9, 30), (9, 30), (11, 30), (11, 30), (9, 30), (4, 99), (9, 6), (9, 6), (9, 6), (9, 6), (9, 6), (9, 6), (9, 6), (9, 6), (9, 6), (11, 6), (11, 6), (9, 6)])) (R := 132) (app_len hR0 rfl) (fun k hk => hz3 k (by omega))) (k_le_mk (Nat.le_of_ble_eq_true rfl)) gI_X0_init nk_RX7_62 ⟨Nat.le_of_ble_eq_true rfl, Nat.le_of_ble_eq_true rfl⟩ (Nat.le_of_ble_eq_true rfl) (Nat.le_of_ble_eq_true rfl) ⟨Nat.le_of_ble_eq_true rfl, Nat.le_of_ble_eq_true rfl⟩ (fun a' ha' => ?_)
  replace ha := tr_ha (by rw [hn, List.length_append, app_len (n := 132) hR0 rfl]; show _ ≤ 132 + 1; omega) ha ha'
  clear ha'
  rw [List.append_assoc]
  show V (ga G a') M_X7_init X (T0 ++ [(7, 11), (10, 500), (3, 99), (5, 99), (9, 3), (9, 3), (1, 99), (9, 30), (9, 30), (9, 30), (11, 30), (11, 30), (9, 30), (4, 99), (9, 6), (9, 6), (9, 6), (9, 6), (9, 6), (9, 6), (9, 6), (9, 6), (9, 6), (11, 6), (11, 6), (9, 6), (9, 6), (9, 6), (5, 99), (9, 3), (9, 3), (2, 99), (1, 99), (9, 30), (9, 30), (9, 30), (11, 30), (11, 30), (9, 30), (4, 99), (9, 6), (9, 6), (9, 6), (9, 6), (9, 6), (9, 6), (9, 6), (9, 6), (9, 6), (11, 6), (11, 6), (2, 99), (1, 99), (9, 30), (9, 30), (9, 30), (11, 30), (11, 30), (9, 30), (4, 99), (9, 6), (9, 6), (9, 6), (9, 6), (9, 6), (9, 6), (9, 6), (9, 6), (9, 6), (11, 6), (11, 6), (2, 99), (1, 99), (9, 30), (9, 30), (9, 30), (11, 30), (11, 30), (9, 30), (4, 99), (9, 6), (9, 6), (9, 6), (9, 6), (9, 6), (9, 6), (9, 6), (9, 6), (9, 6), (11, 6), (11, 6), (2, 99), (1, 99), (9, 30), (9, 30), (9, 30), (11, 30), (11, 30), (9, 30), (4, 99), (9, 6), (9, 6), (9, 6), (9, 6), (9, 6), (9, 6), (9, 6), (9, 6), (9, 6), (11, 6), (11, 6), (2, 99), (1, 99), (9, 30), (9, 30), (9, 30), (11, 30), (11, 30), (9, 30), (4, 99), (9, 6), (9, 6), (9, 6), (9, 6), (9, 6), (9, 6), (9, 6), (9, 6), (9, 6), (11, 6), (11, 6), (9, 6), (0, 99), (9, 7200)]) 133 9362 121 [some (rv (7, 0) 0)] [rv (0, 0) 132, rv (7, 0) 0] h3
  revert a'
  clear a
  intro a ha
  refine V_putR (t := (0, 99)) (off := 132) (j := 12) (m := 11) 13 58 rfl fp_RX7_63 hin (app_0 hR0) (by decide) rfl (app_at hR0 132) (Nat.le_of_ble_eq_true rfl) (hm_of (by decide)) ?_
  rw [app_set hR0]
  show V (ga G a) M_X7_init X (T0 ++ [(7, 13), (10, 500), (3, 99), (5, 99), (9, 3), (9, 3), (1, 99), (9, 30), (9, 30), (9, 30), (11, 30), (11, 30), (9, 30), (4, 99), (9, 6), (9, 6), (9, 6), (9, 6), (9, 6), (9, 6), (9, 6), (9, 6), (9, 6), (11, 6), (11, 6), (9, 6), (9, 6), (9, 6), (5, 99), (9, 3), (9, 3), (2, 99), (1, 99), (9, 30), (9, 30), (9, 30), (11, 30), (11, 30), (9, 30), (4, 99), (9, 6), (9, 6), (9, 6), (9, 6), (9, 6), (9, 6), (9, 6), (9, 6), (9, 6), (11, 6), (11, 6), (2, 99), (1, 99), (9, 30), (9, 30), (9, 30), (11, 30), (11, 30), (9, 30), (4, 99), (9, 6), (9, 6), (9, 6), (9, 6), (9, 6), (9, 6), (9, 6), (9, 6), (9, 6), (11, 6), (11, 6), (2, 99), (1, 99), (9, 30), (9, 30), (9, 30), (11, 30), (11, 30), (9, 30), (4, 99), (9, 6), (9, 6), (9, 6), (9, 6), (9, 6), (9, 6), (9, 6), (9, 6), (9, 6), (11, 6), (11, 6), (2, 99), (1, 99), (9, 30), (9, 30), (9, 30), (11, 30), (11, 30), (9, 30), (4, 99), (9, 6), (9, 6), (9, 6), (9, 6), (9, 6), (9, 6), (9, 6), (9, 6), (9, 6), (11, 6), (11, 6), (2, 99), (1, 99), (9, 30), (9, 30), (9, 30), (11, 30), (11, 30), (9, 30), (4, 99), (9, 6), (9, 6), (9, 6), (9, 6), (9, 6), (9, 6), (9, 6), (9, 6), (9, 6), (11, 6), (11, 6), (9, 6), (0, 99), (9, 7200)]) 133 9362 124 [some (rv (7, 0) 0)] [] h3
  refine V_aload_n 59 rfl rfl ?_
  refine V_new (n := 134) 60 rfl nw_RX7_67 (app_len hR0 rfl) (hz3 _ (by omega)) ⟨Nat.le_of_ble_eq_true rfl, Nat.le_of_ble_eq_true rfl⟩ (fun a' ha' => ?_)
  replace ha := tr_ha (by rw [hn]; omega) ha ha'
  clear ha'
  revert a'
  clear a
  intro a ha
  refine V_dup 61 rfl nj_r ?_
  refine V_callIN (N := M_X6_init) (T' := (T0 ++ [(7, 13), (10, 500), (3, 99), (5, 99), (9, 3), (9, 3), (1, 99), (9, 30), (9, 30), (9, 30), (11, 30), (11, 30), (9, 30), (4, 99), (9, 6), (9, 6), (9, 6), (9, 6), (9, 6), (9, 6), (9, 6), (9, 6), (9, 6), (11, 6), (11, 6), (9, 6), (9, 6), (9, 6), (5, 99), (9, 3), (9, 3), (2, 99), (1, 99), (9, 30), (9, 30), (9, 30), (11, 30), (11, 30), (9, 30), (4, 99), (9, 6), (9, 6), (9, 6), (9, 6), (9, 6), (9, 6), (9, 6), (9, 6), (9, 6), (11, 6), (11, 6), (2, 99), (1, 99), (9, 30), (9, 30), (9, 30), (11, 30), (11, 30), (9, 30), (4, 99), (9, 6), (9, 6), (9, 6), (9, 6), (9, 6), (9, 6), (9, 6), (9, 6), (9, 6), (11, 6), (11, 6), (2, 99), (1, 99), (9, 30), (9, 30), (9, 30), (11, 30), (11, 30), (9, 30), (4, 99), (9, 6), (9, 6), (9, 6), (9, 6), (9, 6), (9, 6), (9, 6), (9, 6), (9, 6), (11, 6), (11, 6), (2, 99), (1, 99), (9, 30), (9, 30), (9, 30), (11, 30), (11, 30), (9, 30), (4, 99), (9, 6), (9, 6), (9, 6), (9, 6), (9, 6), (9, 6), (9, 6), (9, 6), (9, 6), (11, 6), (11, 6), (2, 99), (1, 99), (9, 30), (9, 30), (9, 30), (11, 30), (11, 30), (9, 30), (4, 99), (9, 6), (9, 6), (9, 6), (9, 6), (9, 6), (9, 6), (9, 6), (9, 6), (9, 6), (11, 6), (11, 6), (9, 6), (0, 99), (9, 7200)]) ++ [(6, 99)]) (h' := h3) 62 rfl (k_i6 (T0 := (T0 ++ [(7, 13), (10, 500), (3, 99), (5, 99), (9, 3), (9, 3), (1, 99), (9, 30), (9, 30), (9, 30), (11, 30), (11, 30), (9, 30), (4, 99), (9, 6), (9, 6), (9, 6), (9, 6), (9, 6), (9, 6), (9, 6), (9, 6), (9, 6), (11, 6), (11, 6), (9, 6), (9, 6), (9, 6), (5, 99), (9, 3), (9, 3), (2, 99), (1, 99), (9, 30), (9, 30), (9, 30), (11, 30), (11, 30), (9, 30), (4, 99), (9, 6), (9, 6), (9, 6), (9, 6), (9, 6), (9, 6), (9, 6), (9, 6), (9, 6), (11, 6), (11, 6), (2, 99), (1, 99), (9, 30), (9, 30), (9, 30), (11, 30), (11, 30), (9, 30), (4, 99), (9, 6), (9, 6), (9, 6), (9, 6), (9, 6), (9, 6), (9, 6), (9, 6), (9, 6), (11, 6), (11, 6), (2, 99), (1, 99), (9, 30), (9, 30), (9, 30), (11, 30), (11, 30), (9, 30), (4, 99), (9, 6), (9, 6), (9, 6), (9, 6), (9, 6), (9, 6), (9, 6), (9, 6), (9, 6), (11, 6), (11, 6), (2, 99), (1, 99), (9, 30), (9, 30), (9, 30), (11, 30), (11, 30), (9, 30), (4, 99), (9, 6), (9, 6), (9, 6), (9, 6), (9, 6), (9, 6), (9, 6), (9, 6), (9, 6), (11, 6), (11, 6), (2, 99), (1, 99), (9, 30), (9, 30), (9, 30), (11, 30), (11, 30), (9, 30), (4, 99), (9, 6), (9, 6), (9, 6), (9, 6), (9, 6), (9, 6), (9, 6), (9, 6), (9, 6), (11, 6), (11, 6), (9, 6), (0, 99), (9, 7200)])) (R := 134) (app_len hR0 rfl) (fun k hk => hz3 k (by omega))) (k_le_mk (Nat.le_of_ble_eq_true rfl)) gI_X6_init nk_RX7_69 ⟨Nat.le_of_ble_eq_true rfl, Nat.le_of_ble_eq_true rfl⟩ (Nat.le_of_ble_eq_true rfl) (Nat.le_of_ble_eq_true rfl) ⟨Nat.le_of_ble_eq_true rfl, Nat.le_of_ble_eq_true rfl⟩ (fun a' ha' => ?_)
  replace ha := tr_ha (by rw [hn, List.length_append, app_len (n := 134) hR0 rfl]; show _ ≤ 134 + 1; omega) ha ha'
  clear ha'
  rw [List.append_assoc]
  show V (ga G a') M_X7_init X (T0 ++ [(7, 13), (10, 500), (3, 99), (5, 99), (9, 3), (9, 3), (1, 99), (9, 30), (9, 30), (9, 30), (11, 30), (11, 30), (9, 30), (4, 99), (9, 6), (9, 6), (9, 6), (9, 6), (9, 6), (9, 6), (9, 6), (9, 6), (9, 6), (11, 6), (11, 6), (9, 6), (9, 6), (9, 6), (5, 99), (9, 3), (9, 3), (2, 99), (1, 99), (9, 30), (9, 30), (9, 30), (11, 30), (11, 30), (9, 30), (4, 99), (9, 6), (9, 6), (9, 6), (9, 6), (9, 6), (9, 6), (9, 6), (9, 6), (9, 6), (11, 6), (11, 6), (2, 99), (1, 99), (9, 30), (9, 30), (9, 30), (11, 30), (11, 30), (9, 30), (4, 99), (9, 6), (9, 6), (9, 6), (9, 6), (9, 6), (9, 6), (9, 6), (9, 6), (9, 6), (11, 6), (11, 6), (2, 99), (1, 99), (9, 30), (9, 30), (9, 30), (11, 30), (11, 30), (9, 30), (4, 99), (9, 6), (9, 6), (9, 6), (9, 6), (9, 6), (9, 6), (9, 6), (9, 6), (9, 6), (11, 6), (11, 6), (2, 99), (1, 99), (9, 30), (9, 30), (9, 30), (11, 30), (11, 30), (9, 30), (4, 99), (9, 6), (9, 6), (9, 6), (9, 6), (9, 6), (9, 6), (9, 6), (9, 6), (9, 6), (11, 6), (11, 6), (2, 99), (1, 99), (9, 30), (9, 30), (9, 30), (11, 30), (11, 30), (9, 30), (4, 99), (9, 6), (9, 6), (9, 6), (9, 6), (9, 6), (9, 6), (9, 6), (9, 6), (9, 6), (11, 6), (11, 6), (9, 6), (0, 99), (9, 7200), (6, 99)]) 134 9367 132 [some (rv (7, 0) 0)] [rv (6, 0) 134, rv (7, 0) 0] h3
  revert a'
  clear a
  intro a ha
  refine V_putR (t := (6, 99)) (off := 134) (j := 13) (m := 13) 99 63 rfl fp_RX7_70 hin (app_0 hR0) (by decide) rfl (app_at hR0 134) (Nat.le_of_ble_eq_true rfl) (hm_of (by decide)) ?_
  rw [app_set hR0]
  show V (ga G a) M_X7_init X (T0 ++ [(7, 99), (10, 500), (3, 99), (5, 99), (9, 3), (9, 3), (1, 99), (9, 30), (9, 30), (9, 30), (11, 30), (11, 30), (9, 30), (4, 99), (9, 6), (9, 6), (9, 6), (9, 6), (9, 6), (9, 6), (9, 6), (9, 6), (9, 6), (11, 6), (11, 6), (9, 6), (9, 6), (9, 6), (5, 99), (9, 3), (9, 3), (2, 99), (1, 99), (9, 30), (9, 30), (9, 30), (11, 30), (11, 30), (9, 30), (4, 99), (9, 6), (9, 6), (9, 6), (9, 6), (9, 6), (9, 6), (9, 6), (9, 6), (9, 6), (11, 6), (11, 6), (2, 99), (1, 99), (9, 30), (9, 30), (9, 30), (11, 30), (11, 30), (9, 30), (4, 99), (9, 6), (9, 6), (9, 6), (9, 6), (9, 6), (9, 6), (9, 6), (9, 6), (9, 6), (11, 6), (11, 6), (2, 99), (1, 99), (9, 30), (9, 30), (9, 30), (11, 30), (11, 30), (9, 30), (4, 99), (9, 6), (9, 6), (9, 6), (9, 6), (9, 6), (9, 6), (9, 6), (9, 6), (9, 6), (11, 6), (11, 6), (2, 99), (1, 99), (9, 30), (9, 30), (9, 30), (11, 30), (11, 30), (9, 30), (4, 99), (9, 6), (9, 6), (9, 6), (9, 6), (9, 6), (9, 6), (9, 6), (9, 6), (9, 6), (11, 6), (11, 6), (2, 99), (1, 99), (9, 30), (9, 30), (9, 30), (11, 30), (11, 30), (9, 30), (4, 99), (9, 6), (9, 6), (9, 6), (9, 6), (9, 6), (9, 6), (9, 6), (9, 6), (9, 6), (11, 6), (11, 6), (9, 6), (0, 99), (9, 7200), (6, 99)]) 134 9367 135 [some (rv (7, 0) 0)] [] h3
  refine V_up0 (app_0 hR0) (Nat.le_of_ble_eq_true rfl) ?_
  refine V_aload_n 64 rfl rfl ?_
  refine V_getR 2 65 rfl fr_RX7_20 ⟨Nat.le_of_ble_eq_true rfl, Or.inr rfl⟩ rfl ?_
  refine V_aload_n 66 rfl rfl ?_
  refine V_getR 28 67 rfl fr_RX7_27 ⟨Nat.le_of_ble_eq_true rfl, Or.inr rfl⟩ rfl ?_
  refine V_aload_n 68 rfl rfl ?_
  refine V_getR 31 69 rfl fr_RX7_34 ⟨Nat.le_of_ble_eq_true rfl, Or.inr rfl⟩ rfl ?_
  refine V_callVN (N := M_X3_layOn) (av := [rv (5, 99) 28, rv (2, 99) 31]) (st := []) (r := none) (h' := h4) 70 rfl (c_X3_layOn e4) g_X3_layOn gv_X3_layOn nk_RX7_74 ⟨Nat.le_of_ble_eq_true rfl, Nat.le_of_ble_eq_true rfl⟩ rfl rfl (Nat.le_of_ble_eq_true rfl) ⟨Nat.le_of_ble_eq_true rfl, Nat.le_of_ble_eq_true rfl⟩ ?_
  show V (ga G a) M_X7_init X (T0 ++ [(7, 99), (10, 500), (3, 99), (5, 99), (9, 3), (9, 3), (1, 99), (9, 30), (9, 30), (9, 30), (11, 30), (11, 30), (9, 30), (4, 99), (9, 6), (9, 6), (9, 6), (9, 6), (9, 6), (9, 6), (9, 6), (9, 6), (9, 6), (11, 6), (11, 6), (9, 6), (9, 6), (9, 6), (5, 99), (9, 3), (9, 3), (2, 99), (1, 99), (9, 30), (9, 30), (9, 30), (11, 30), (11, 30), (9, 30), (4, 99), (9, 6), (9, 6), (9, 6), (9, 6), (9, 6), (9, 6), (9, 6), (9, 6), (9, 6), (11, 6), (11, 6), (2, 99), (1, 99), (9, 30), (9, 30), (9, 30), (11, 30), (11, 30), (9, 30), (4, 99), (9, 6), (9, 6), (9, 6), (9, 6), (9, 6), (9, 6), (9, 6), (9, 6), (9, 6), (11, 6), (11, 6), (2, 99), (1, 99), (9, 30), (9, 30), (9, 30), (11, 30), (11, 30), (9, 30), (4, 99), (9, 6), (9, 6), (9, 6), (9, 6), (9, 6), (9, 6), (9, 6), (9, 6), (9, 6), (11, 6), (11, 6), (2, 99), (1, 99), (9, 30), (9, 30), (9, 30), (11, 30), (11, 30), (9, 30), (4, 99), (9, 6), (9, 6), (9, 6), (9, 6), (9, 6), (9, 6), (9, 6), (9, 6), (9, 6), (11, 6), (11, 6), (2, 99), (1, 99), (9, 30), (9, 30), (9, 30), (11, 30), (11, 30), (9, 30), (4, 99), (9, 6), (9, 6), (9, 6), (9, 6), (9, 6), (9, 6), (9, 6), (9, 6), (9, 6), (11, 6), (11, 6), (9, 6), (0, 99), (9, 7200), (6, 99)]) 134 9367 150 [some (rv (7, 99) 0)] [] h4
  exact V_vretI 71 rfl hRI rfl ha
set_option maxHeartbeats 4000000 in
set_option maxRecDepth 100000 in
theorem k_i8 {G : kG} {T0 : List kT} {h : kH} {h1 h2 : kH} (hR0 : T0.length = 135) (hz : ∀ k, 135 ≤ k → h k = fun _ => 0) (e1 : p_X8_begins h = some h1) (e2 : p_X8_takes h1 = some h2) : k_CI G M_X8_init (T0 ++ [(8, 0)]) (8, 0) 135 h (T0 ++ [(8, 99), (10, 500), (9, 28), (9, 2), (9, 6), (9, 6), (9, 36), (9, 120), (9, 800), (9, 6), (9, 30), (9, 6), (11, 6), (9, 4), (9, 4), (9, 5), (9, 6)]) h2 16 1565 := by
  refine k_CI_of (by decide +kernel) rfl tb_X8_init rfl rfl (fun X hin hRI => ?_)
  have ha : ∀ i, i < (T0 ++ [(8, 0)]).length → g_a G i = g_a G i := fun _ _ => rfl
  have hn : (T0 ++ [(8, 0)]).length = 136 := app_len hR0 rfl
  suffices H : ∀ a : Nat → Nat, (∀ i, i < (T0 ++ [(8, 0)]).length → a i = g_a G i) → V (ga G a) M_X8_init X (T0 ++ [(8, 0)]) 0 0 0 [some (rv (8, 0) 135)] [] h from H (g_a G) ha
  clear ha
  intro a ha
  refine V_aload_n 0 rfl rfl ?_
  refine V_objInit 1 rfl lo_RX8_1 oi_1 oi_2 ⟨Nat.le_of_ble_eq_true rfl, Nat.le_of_ble_eq_true rfl⟩ ?_
  refine V_aload_n 2 rfl rfl ?_
  refine V_sipush (nI 500) 3 rfl sp_500 ?_
  refine V_newB (F := 500) (n := 136) 4 rfl ac_B (by decide +kernel) (by decide +kernel) (Nat.le_of_ble_eq_true rfl) (app_len hR0 rfl) (hz _ (by omega)) ⟨Nat.le_of_ble_eq_true rfl, Nat.le_of_ble_eq_true rfl⟩ (fun a' ha' => ?_)
  replace ha := tr_ha (by rw [hn]; omega) ha ha'
  clear ha'
  rw [List.append_assoc]
  show V (ga G a') M_X8_init X (T0 ++ [(8, 0), (10, 500)]) 1 500 10 [some (rv (8, 0) 135)] [rv (10, 500) 136, rv (8, 0) 135] h
  revert a'
  clear a
  intro a ha
  refine V_putR (t := (10, 500)) (off := 1) (j := 1) (m := 0) 2 5 rfl fp_RX8_7 hin (app_0 hR0) (by decide) rfl (app_at hR0 1) (Nat.le_of_ble_eq_true rfl) (hm_of (by decide)) ?_
  rw [app_set hR0]
  show V (ga G a) M_X8_init X (T0 ++ [(8, 2), (10, 500)]) 1 500 13 [some (rv (8, 0) 135)] [] h
  refine V_aload_n 6 rfl rfl ?_
  refine V_bipush (nI 28) 7 rfl bp_28 ?_
  refine V_newI (F := 28) (n := 137) 8 rfl ac_I (by decide +kernel) (by decide +kernel) (Nat.le_of_ble_eq_true rfl) (app_len hR0 rfl) (hz _ (by omega)) ⟨Nat.le_of_ble_eq_true rfl, Nat.le_of_ble_eq_true rfl⟩ (fun a' ha' => ?_)
  replace ha := tr_ha (by rw [hn]; omega) ha ha'
  clear ha'
  rw [List.append_assoc]
  show V (ga G a') M_X8_init X (T0 ++ [(8, 2), (10, 500), (9, 28)]) 2 528 18 [some (rv (8, 0) 135)] [rv (9, 28) 137, rv (8, 0) 135] h
  revert a'
  clear a
  intro a ha
  refine V_putR (t := (9, 28)) (off := 2) (j := 3) (m := 2) 4 9 rfl fp_RX8_13 hin (app_0 hR0) (by decide) rfl (app_at hR0 2) (Nat.le_of_ble_eq_true rfl) (hm_of (by decide)) ?_
  rw [app_set hR0]
  show V (ga G a) M_X8_init X (T0 ++ [(8, 4), (10, 500), (9, 28)]) 2 528 21 [some (rv (8, 0) 135)] [] h
  refine V_aload_n 10 rfl rfl ?_
  refine V_iconst (nI 2) 11 rfl ic_2 ?_
  refine V_newI (F := 2) (n := 138) 12 rfl ac_I (by decide +kernel) (by decide +kernel) (Nat.le_of_ble_eq_true rfl) (app_len hR0 rfl) (hz _ (by omega)) ⟨Nat.le_of_ble_eq_true rfl, Nat.le_of_ble_eq_true rfl⟩ (fun a' ha' => ?_)
  replace ha := tr_ha (by rw [hn]; omega) ha ha'
  clear ha'
  rw [List.append_assoc]
  show V (ga G a') M_X8_init X (T0 ++ [(8, 4), (10, 500), (9, 28), (9, 2)]) 3 530 25 [some (rv (8, 0) 135)] [rv (9, 2) 138, rv (8, 0) 135] h
  revert a'
  clear a
  intro a ha
  refine V_putR (t := (9, 2)) (off := 3) (j := 4) (m := 4) 5 13 rfl fp_RX8_17 hin (app_0 hR0) (by decide) rfl (app_at hR0 3) (Nat.le_of_ble_eq_true rfl) (hm_of (by decide)) ?_
  rw [app_set hR0]
  show V (ga G a) M_X8_init X (T0 ++ [(8, 5), (10, 500), (9, 28), (9, 2)]) 3 530 28 [some (rv (8, 0) 135)] [] h
  refine V_aload_n 14 rfl rfl ?_
  refine V_bipush (nI 6) 15 rfl bp_6 ?_
  refine V_newI (F := 6) (n := 139) 16 rfl ac_I (by decide +kernel) (by decide +kernel) (Nat.le_of_ble_eq_true rfl) (app_len hR0 rfl) (hz _ (by omega)) ⟨Nat.le_of_ble_eq_true rfl, Nat.le_of_ble_eq_true rfl⟩ (fun a' ha' => ?_)
  replace ha := tr_ha (by rw [hn]; omega) ha ha'
  clear ha'
  rw [List.append_assoc]
  show V (ga G a') M_X8_init X (T0 ++ [(8, 5), (10, 500), (9, 28), (9, 2), (9, 6)]) 4 536 33 [some (rv (8, 0) 135)] [rv (9, 6) 139, rv (8, 0) 135] h
  revert a'
  clear a
  intro a ha
  refine V_putR (t := (9, 6)) (off := 4) (j := 5) (m := 5) 6 17 rfl fp_RX8_20 hin (app_0 hR0) (by decide) rfl (app_at hR0 4) (Nat.le_of_ble_eq_true rfl) (hm_of (by decide)) ?_
  rw [app_set hR0]
  show V (ga G a) M_X8_init X (T0 ++ [(8, 6), (10, 500), (9, 28), (9, 2), (9, 6)]) 4 536 36 [some (rv (8, 0) 135)] [] h
  refine V_aload_n 18 rfl rfl ?_
  refine V_bipush (nI 6) 19 rfl bp_6 ?_
  refine V_newI (F := 6) (n := 140) 20 rfl ac_I (by decide +kernel) (by decide +kernel) (Nat.le_of_ble_eq_true rfl) (app_len hR0 rfl) (hz _ (by omega)) ⟨Nat.le_of_ble_eq_true rfl, Nat.le_of_ble_eq_true rfl⟩ (fun a' ha' => ?_)
  replace ha := tr_ha (by rw [hn]; omega) ha ha'
  clear ha'
  rw [List.append_assoc]
  show V (ga G a') M_X8_init X (T0 ++ [(8, 6), (10, 500), (9, 28), (9, 2), (9, 6), (9, 6)]) 5 542 41 [some (rv (8, 0) 135)] [rv (9, 6) 140, rv (8, 0) 135] h
  revert a'
  clear a
  intro a ha
  refine V_putR (t := (9, 6)) (off := 5) (j := 6) (m := 6) 7 21 rfl fp_RX8_23 hin (app_0 hR0) (by decide) rfl (app_at hR0 5) (Nat.le_of_ble_eq_true rfl) (hm_of (by decide)) ?_
  rw [app_set hR0]
  show V (ga G a) M_X8_init X (T0 ++ [(8, 7), (10, 500), (9, 28), (9, 2), (9, 6), (9, 6)]) 5 542 44 [some (rv (8, 0) 135)] [] h
  refine V_aload_n 22 rfl rfl ?_
  refine V_bipush (nI 36) 23 rfl bp_36 ?_
  refine V_newI (F := 36) (n := 141) 24 rfl ac_I (by decide +kernel) (by decide +kernel) (Nat.le_of_ble_eq_true rfl) (app_len hR0 rfl) (hz _ (by omega)) ⟨Nat.le_of_ble_eq_true rfl, Nat.le_of_ble_eq_true rfl⟩ (fun a' ha' => ?_)
  replace ha := tr_ha (by rw [hn]; omega) ha ha'
  clear ha'
  rw [List.append_assoc]
  show V (ga G a') M_X8_init X (T0 ++ [(8, 7), (10, 500), (9, 28), (9, 2), (9, 6), (9, 6), (9, 36)]) 6 578 49 [some (rv (8, 0) 135)] [rv (9, 36) 141, rv (8, 0) 135] h
  revert a'
  clear a
  intro a ha
  refine V_putR (t := (9, 36)) (off := 6) (j := 7) (m := 7) 8 25 rfl fp_RX8_26 hin (app_0 hR0) (by decide) rfl (app_at hR0 6) (Nat.le_of_ble_eq_true rfl) (hm_of (by decide)) ?_
  rw [app_set hR0]
  show V (ga G a) M_X8_init X (T0 ++ [(8, 8), (10, 500), (9, 28), (9, 2), (9, 6), (9, 6), (9, 36)]) 6 578 52 [some (rv (8, 0) 135)] [] h
  refine V_aload_n 26 rfl rfl ?_
  refine V_bipush (nI 120) 27 rfl bp_120 ?_
  refine V_newI (F := 120) (n := 142) 28 rfl ac_I (by decide +kernel) (by decide +kernel) (Nat.le_of_ble_eq_true rfl) (app_len hR0 rfl) (hz _ (by omega)) ⟨Nat.le_of_ble_eq_true rfl, Nat.le_of_ble_eq_true rfl⟩ (fun a' ha' => ?_)
  replace ha := tr_ha (by rw [hn]; omega) ha ha'
  clear ha'
  rw [List.append_assoc]
  show V (ga G a') M_X8_init X (T0 ++ [(8, 8), (10, 500), (9, 28), (9, 2), (9, 6), (9, 6), (9, 36), (9, 120)]) 7 698 57 [some (rv (8, 0) 135)] [rv (9, 120) 142, rv (8, 0) 135] h
  revert a'
  clear a
  intro a ha
  refine V_putR (t := (9, 120)) (off := 7) (j := 8) (m := 8) 9 29 rfl fp_RX8_29 hin (app_0 hR0) (by decide) rfl (app_at hR0 7) (Nat.le_of_ble_eq_true rfl) (hm_of (by decide)) ?_
  rw [app_set hR0]
  show V (ga G a) M_X8_init X (T0 ++ [(8, 9), (10, 500), (9, 28), (9, 2), (9, 6), (9, 6), (9, 36), (9, 120)]) 7 698 60 [some (rv (8, 0) 135)] [] h
  refine V_aload_n 30 rfl rfl ?_
  refine V_sipush (nI 800) 31 rfl sp_800 ?_
  refine V_newI (F := 800) (n := 143) 32 rfl ac_I (by decide +kernel) (by decide +kernel) (Nat.le_of_ble_eq_true rfl) (app_len hR0 rfl) (hz _ (by omega)) ⟨Nat.le_of_ble_eq_true rfl, Nat.le_of_ble_eq_true rfl⟩ (fun a' ha' => ?_)
  replace ha := tr_ha (by rw [hn]; omega) ha ha'
  clear ha'
  rw [List.append_assoc]
  show V (ga G a') M_X8_init X (T0 ++ [(8, 9), (10, 500), (9, 28), (9, 2), (9, 6), (9, 6), (9, 36), (9, 120), (9, 800)]) 8 1498 66 [some (rv (8, 0) 135)] [rv (9, 800) 143, rv (8, 0) 135] h
  revert a'
  clear a
  intro a ha
  refine V_putR (t := (9, 800)) (off := 8) (j := 9) (m := 9) 10 33 rfl fp_RX8_32 hin (app_0 hR0) (by decide) rfl (app_at hR0 8) (Nat.le_of_ble_eq_true rfl) (hm_of (by decide)) ?_
  rw [app_set hR0]
  show V (ga G a) M_X8_init X (T0 ++ [(8, 10), (10, 500), (9, 28), (9, 2), (9, 6), (9, 6), (9, 36), (9, 120), (9, 800)]) 8 1498 69 [some (rv (8, 0) 135)] [] h
  refine V_aload_n 34 rfl rfl ?_
  refine V_bipush (nI 6) 35 rfl bp_6 ?_
  refine V_newI (F := 6) (n := 144) 36 rfl ac_I (by decide +kernel) (by decide +kernel) (Nat.le_of_ble_eq_true rfl) (app_len hR0 rfl) (hz _ (by omega)) ⟨Nat.le_of_ble_eq_true rfl, Nat.le_of_ble_eq_true rfl⟩ (fun a' ha' => ?_)
  replace ha := tr_ha (by rw [hn]; omega) ha ha'
  clear ha'
  rw [List.append_assoc]
  show V (ga G a') M_X8_init X (T0 ++ [(8, 10), (10, 500), (9, 28), (9, 2), (9, 6), (9, 6), (9, 36), (9, 120), (9, 800), (9, 6)]) 9 1504 74 [some (rv (8, 0) 135)] [rv (9, 6) 144, rv (8, 0) 135] h
  revert a'
  clear a
  intro a ha
  refine V_putR (t := (9, 6)) (off := 9) (j := 12) (m := 10) 13 37 rfl fp_RX8_35 hin (app_0 hR0) (by decide) rfl (app_at hR0 9) (Nat.le_of_ble_eq_true rfl) (hm_of (by decide)) ?_
  rw [app_set hR0]
  show V (ga G a) M_X8_init X (T0 ++ [(8, 13), (10, 500), (9, 28), (9, 2), (9, 6), (9, 6), (9, 36), (9, 120), (9, 800), (9, 6)]) 9 1504 77 [some (rv (8, 0) 135)] [] h
  refine V_aload_n 38 rfl rfl ?_
  refine V_bipush (nI 30) 39 rfl bp_30 ?_
  refine V_newI (F := 30) (n := 145) 40 rfl ac_I (by decide +kernel) (by decide +kernel) (Nat.le_of_ble_eq_true rfl) (app_len hR0 rfl) (hz _ (by omega)) ⟨Nat.le_of_ble_eq_true rfl, Nat.le_of_ble_eq_true rfl⟩ (fun a' ha' => ?_)
  replace ha := tr_ha (by rw [hn]; omega) ha ha'
  clear ha'
  rw [List.append_assoc]
  show V (ga G a') M_X8_init X (T0 ++ [(8, 13), (10, 500), (9, 28), (9, 2), (9, 6), (9, 6), (9, 36), (9, 120), (9, 800), (9, 6), (9, 30)]) 10 1534 82 [some (rv (8, 0) 135)] [rv (9, 30) 145, rv (8, 0) 135] h
  revert a'
  clear a
  intro a ha
  refine V_putR (t := (9, 30)) (off := 10) (j := 13) (m := 13) 14 41 rfl fp_RX8_38 hin (app_0 hR0) (by decide) rfl (app_at hR0 10) (Nat.le_of_ble_eq_true rfl) (hm_of (by decide)) ?_
  rw [app_set hR0]
  show V (ga G a) M_X8_init X (T0 ++ [(8, 14), (10, 500), (9, 28), (9, 2), (9, 6), (9, 6), (9, 36), (9, 120), (9, 800), (9, 6), (9, 30)]) 10 1534 85 [some (rv (8, 0) 135)] [] h
  refine V_aload_n 42 rfl rfl ?_
  refine V_bipush (nI 6) 43 rfl bp_6 ?_
  refine V_newI (F := 6) (n := 146) 44 rfl ac_I (by decide +kernel) (by decide +kernel) (Nat.le_of_ble_eq_true rfl) (app_len hR0 rfl) (hz _ (by omega)) ⟨Nat.le_of_ble_eq_true rfl, Nat.le_of_ble_eq_true rfl⟩ (fun a' ha' => ?_)
  replace ha := tr_ha (by rw [hn]; omega) ha ha'
  clear ha'
  rw [List.append_assoc]
  show V (ga G a') M_X8_init X (T0 ++ [(8, 14), (10, 500), (9, 28), (9, 2), (9, 6), (9, 6), (9, 36), (9, 120), (9, 800), (9, 6), (9, 30), (9, 6)]) 11 1540 90 [some (rv (8, 0) 135)] [rv (9, 6) 146, rv (8, 0) 135] h
  revert a'
  clear a
  intro a ha
  refine V_putR (t := (9, 6)) (off := 11) (j := 14) (m := 14) 15 45 rfl fp_RX8_41 hin (app_0 hR0) (by decide) rfl (app_at hR0 11) (Nat.le_of_ble_eq_true rfl) (hm_of (by decide)) ?_
  rw [app_set hR0]
  show V (ga G a) M_X8_init X (T0 ++ [(8, 15), (10, 500), (9, 28), (9, 2), (9, 6), (9, 6), (9, 36), (9, 120), (9, 800), (9, 6), (9, 30), (9, 6)]) 11 1540 93 [some (rv (8, 0) 135)] [] h
  refine V_aload_n 46 rfl rfl ?_
  refine V_bipush (nI 6) 47 rfl bp_6 ?_
  refine V_newZ (F := 6) (n := 147) 48 rfl ac_Z (by decide +kernel) (by decide +kernel) (Nat.le_of_ble_eq_true rfl) (app_len hR0 rfl) (hz _ (by omega)) ⟨Nat.le_of_ble_eq_true rfl, Nat.le_of_ble_eq_true rfl⟩ (fun a' ha' => ?_)
  replace ha := tr_ha (by rw [hn]; omega) ha ha'
  clear ha'
  rw [List.append_assoc]
  show V (ga G a') M_X8_init X (T0 ++ [(8, 15), (10, 500), (9, 28), (9, 2), (9, 6), (9, 6), (9, 36), (9, 120), (9, 800), (9, 6), (9, 30), (9, 6), (11, 6)]) 12 1546 98 [some (rv (8, 0) 135)] [rv (11, 6) 147, rv (8, 0) 135] h
  revert a'
  clear a
  intro a ha
  refine V_putR (t := (11, 6)) (off := 12) (j := 15) (m := 15) 16 49 rfl fp_RX8_44 hin (app_0 hR0) (by decide) rfl (app_at hR0 12) (Nat.le_of_ble_eq_true rfl) (hm_of (by decide)) ?_
  rw [app_set hR0]
  show V (ga G a) M_X8_init X (T0 ++ [(8, 16), (10, 500), (9, 28), (9, 2), (9, 6), (9, 6), (9, 36), (9, 120), (9, 800), (9, 6), (9, 30), (9, 6), (11, 6)]) 12 1546 101 [some (rv (8, 0) 135)] [] h
  refine V_aload_n 50 rfl rfl ?_
  refine V_iconst (nI 4) 51 rfl ic_4 ?_
  refine V_newI (F := 4) (n := 148) 52 rfl ac_I (by decide +kernel) (by decide +kernel) (Nat.le_of_ble_eq_true rfl) (app_len hR0 rfl) (hz _ (by omega)) ⟨Nat.le_of_ble_eq_true rfl, Nat.le_of_ble_eq_true rfl⟩ (fun a' ha' => ?_)
  replace ha := tr_ha (by rw [hn]; omega) ha ha'
  clear ha'
  rw [List.append_assoc]
  show V (ga G a') M_X8_init X (T0 ++ [(8, 16), (10, 500), (9, 28), (9, 2), (9, 6), (9, 6), (9, 36), (9, 120), (9, 800), (9, 6), (9, 30), (9, 6), (11, 6), (9, 4)]) 13 1550 105 [some (rv (8, 0) 135)] [rv (9, 4) 148, rv (8, 0) 135] h
  revert a'
  clear a
  intro a ha
  refine V_putR (t := (9, 4)) (off := 13) (j := 16) (m := 16) 17 53 rfl fp_RX8_48 hin (app_0 hR0) (by decide) rfl (app_at hR0 13) (Nat.le_of_ble_eq_true rfl) (hm_of (by decide)) ?_
  rw [app_set hR0]
  show V (ga G a) M_X8_init X (T0 ++ [(8, 17), (10, 500), (9, 28), (9, 2), (9, 6), (9, 6), (9, 36), (9, 120), (9, 800), (9, 6), (9, 30), (9, 6), (11, 6), (9, 4)]) 13 1550 108 [some (rv (8, 0) 135)] [] h
  refine V_aload_n 54 rfl rfl ?_
  refine V_iconst (nI 4) 55 rfl ic_4 ?_
  refine V_newI (F := 4) (n := 149) 56 rfl ac_I (by decide +kernel) (by decide +kernel) (Nat.le_of_ble_eq_true rfl) (app_len hR0 rfl) (hz _ (by omega)) ⟨Nat.le_of_ble_eq_true rfl, Nat.le_of_ble_eq_true rfl⟩ (fun a' ha' => ?_)
  replace ha := tr_ha (by rw [hn]; omega) ha ha'
  clear ha'
  rw [List.append_assoc]
  show V (ga G a') M_X8_init X (T0 ++ [(8, 17), (10, 500), (9, 28), (9, 2), (9, 6), (9, 6), (9, 36), (9, 120), (9, 800), (9, 6), (9, 30), (9, 6), (11, 6), (9, 4), (9, 4)]) 14 1554 112 [some (rv (8, 0) 135)] [rv (9, 4) 149, rv (8, 0) 135] h
  revert a'
  clear a
  intro a ha
  refine V_putR (t := (9, 4)) (off := 14) (j := 17) (m := 17) 18 57 rfl fp_RX8_51 hin (app_0 hR0) (by decide) rfl (app_at hR0 14) (Nat.le_of_ble_eq_true rfl) (hm_of (by decide)) ?_
  rw [app_set hR0]
  show V (ga G a) M_X8_init X (T0 ++ [(8, 18), (10, 500), (9, 28), (9, 2), (9, 6), (9, 6), (9, 36), (9, 120), (9, 800), (9, 6), (9, 30), (9, 6), (11, 6), (9, 4), (9, 4)]) 14 1554 115 [some (rv (8, 0) 135)] [] h
  refine V_aload_n 58 rfl rfl ?_
  refine V_iconst (nI 5) 59 rfl ic_5 ?_
  refine V_newI (F := 5) (n := 150) 60 rfl ac_I (by decide +kernel) (by decide +kernel) (Nat.le_of_ble_eq_true rfl) (app_len hR0 rfl) (hz _ (by omega)) ⟨Nat.le_of_ble_eq_true rfl, Nat.le_of_ble_eq_true rfl⟩ (fun a' ha' => ?_)
  replace ha := tr_ha (by rw [hn]; omega) ha ha'
  clear ha'
  rw [List.append_assoc]
  show V (ga G a') M_X8_init X (T0 ++ [(8, 18), (10, 500), (9, 28), (9, 2), (9, 6), (9, 6), (9, 36), (9, 120), (9, 800), (9, 6), (9, 30), (9, 6), (11, 6), (9, 4), (9, 4), (9, 5)]) 15 1559 119 [some (rv (8, 0) 135)] [rv (9, 5) 150, rv (8, 0) 135] h
  revert a'
  clear a
  intro a ha
  refine V_putR (t := (9, 5)) (off := 15) (j := 18) (m := 18) 19 61 rfl fp_RX8_54 hin (app_0 hR0) (by decide) rfl (app_at hR0 15) (Nat.le_of_ble_eq_true rfl) (hm_of (by decide)) ?_
  rw [app_set hR0]
  show V (ga G a) M_X8_init X (T0 ++ [(8, 19), (10, 500), (9, 28), (9, 2), (9, 6), (9, 6), (9, 36), (9, 120), (9, 800), (9, 6), (9, 30), (9, 6), (11, 6), (9, 4), (9, 4), (9, 5)]) 15 1559 122 [some (rv (8, 0) 135)] [] h
  refine V_aload_n 62 rfl rfl ?_
  refine V_bipush (nI 6) 63 rfl bp_6 ?_
  refine V_newI (F := 6) (n := 151) 64 rfl ac_I (by decide +kernel) (by decide +kernel) (Nat.le_of_ble_eq_true rfl) (app_len hR0 rfl) (hz _ (by omega)) ⟨Nat.le_of_ble_eq_true rfl, Nat.le_of_ble_eq_true rfl⟩ (fun a' ha' => ?_)
  replace ha := tr_ha (by rw [hn]; omega) ha ha'
  clear ha'
  rw [List.append_assoc]
  show V (ga G a') M_X8_init X (T0 ++ [(8, 19), (10, 500), (9, 28), (9, 2), (9, 6), (9, 6), (9, 36), (9, 120), (9, 800), (9, 6), (9, 30), (9, 6), (11, 6), (9, 4), (9, 4), (9, 5), (9, 6)]) 16 1565 127 [some (rv (8, 0) 135)] [rv (9, 6) 151, rv (8, 0) 135] h
  revert a'
  clear a
  intro a ha
  refine V_putR (t := (9, 6)) (off := 16) (j := 19) (m := 19) 99 65 rfl fp_RX8_57 hin (app_0 hR0) (by decide) rfl (app_at hR0 16) (Nat.le_of_ble_eq_true rfl) (hm_of (by decide)) ?_
  rw [app_set hR0]
  show V (ga G a) M_X8_init X (T0 ++ [(8, 99), (10, 500), (9, 28), (9, 2), (9, 6), (9, 6), (9, 36), (9, 120), (9, 800), (9, 6), (9, 30), (9, 6), (11, 6), (9, 4), (9, 4), (9, 5), (9, 6)]) 16 1565 130 [some (rv (8, 0) 135)] [] h
  refine V_up0 (app_0 hR0) (Nat.le_of_ble_eq_true rfl) ?_
  refine V_aload_n 66 rfl rfl ?_
  refine V_callV (N := M_X8_begins) (av := []) (st := []) (r := none) (h' := h1) 67 rfl (c_X8_begins e1) g_X8_begins gv_X8_begins lk_RX8_60 ⟨Nat.le_of_ble_eq_true rfl, Nat.le_of_ble_eq_true rfl⟩ rfl rfl (Nat.le_of_ble_eq_true rfl) ⟨Nat.le_of_ble_eq_true rfl, Nat.le_of_ble_eq_true rfl⟩ ?_
  show V (ga G a) M_X8_init X (T0 ++ [(8, 99), (10, 500), (9, 28), (9, 2), (9, 6), (9, 6), (9, 36), (9, 120), (9, 800), (9, 6), (9, 30), (9, 6), (11, 6), (9, 4), (9, 4), (9, 5), (9, 6)]) 16 1565 134 [some (rv (8, 99) 135)] [] h1
  refine V_aload_n 68 rfl rfl ?_
  refine V_callV (N := M_X8_takes) (av := []) (st := []) (r := none) (h' := h2) 69 rfl (c_X8_takes e2) g_X8_takes gv_X8_takes lk_RX8_63 ⟨Nat.le_of_ble_eq_true rfl, Nat.le_of_ble_eq_true rfl⟩ rfl rfl (Nat.le_of_ble_eq_true rfl) ⟨Nat.le_of_ble_eq_true rfl, Nat.le_of_ble_eq_true rfl⟩ ?_
  show V (ga G a) M_X8_init X (T0 ++ [(8, 99), (10, 500), (9, 28), (9, 2), (9, 6), (9, 6), (9, 36), (9, 120), (9, 800), (9, 6), (9, 30), (9, 6), (11, 6), (9, 4), (9, 4), (9, 5), (9, 6)]) 16 1565 138 [some (rv (8, 99) 135)] [] h2
  exact V_vretI 70 rfl hRI rfl ha
