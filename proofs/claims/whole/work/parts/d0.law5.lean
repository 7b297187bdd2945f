/-! the machine's start -/
theorem fl_st : ∀ j, j < 10 → (Cond.arrayOf (.static RX3 (k_sn j) "[I") .int ∈ flatC (Jvm.Cond.and given_1 narrow_1) ∧ Cond.eq (.length (.static RX3 (k_sn j) "[I")) (.int (Int32.ofNat (k_sl j).length)) ∈ flatC (Jvm.Cond.and given_1 narrow_1)) ∧ ∀ i, i < (k_sl j).length → Cond.eq (.elem (.static RX3 (k_sn j) "[I") (.int (Int32.ofNat i))) (.int ((k_sl j).getD i 0)) ∈ flatC (Jvm.Cond.and given_1 narrow_1) := by decide +kernel
theorem ls_0 : Cond.laysStatic RX3 (k_sn 0) "[I" ∈ lw_tbl := List.mem_of_getElem? (i := 446) (by decide +kernel)
theorem ls_1 : Cond.laysStatic RX3 (k_sn 1) "[I" ∈ lw_tbl := List.mem_of_getElem? (i := 448) (by decide +kernel)
theorem ls_2 : Cond.laysStatic RX3 (k_sn 2) "[I" ∈ lw_tbl := List.mem_of_getElem? (i := 450) (by decide +kernel)
theorem ls_3 : Cond.laysStatic RX3 (k_sn 3) "[I" ∈ lw_tbl := List.mem_of_getElem? (i := 452) (by decide +kernel)
theorem ls_4 : Cond.laysStatic RX3 (k_sn 4) "[I" ∈ lw_tbl := List.mem_of_getElem? (i := 454) (by decide +kernel)
theorem ls_5 : Cond.laysStatic RX3 (k_sn 5) "[I" ∈ lw_tbl := List.mem_of_getElem? (i := 456) (by decide +kernel)
theorem ls_6 : Cond.laysStatic RX3 (k_sn 6) "[I" ∈ lw_tbl := List.mem_of_getElem? (i := 458) (by decide +kernel)
theorem ls_7 : Cond.laysStatic RX3 (k_sn 7) "[I" ∈ lw_tbl := List.mem_of_getElem? (i := 460) (by decide +kernel)
theorem ls_8 : Cond.laysStatic RX3 (k_sn 8) "[I" ∈ lw_tbl := List.mem_of_getElem? (i := 462) (by decide +kernel)
theorem ls_9 : Cond.laysStatic RX3 (k_sn 9) "[I" ∈ lw_tbl := List.mem_of_getElem? (i := 464) (by decide +kernel)
theorem ls_all : ∀ j, j < 10 → Cond.laysStatic RX3 (k_sn j) "[I" ∈ lw_tbl := by
  intro j hj
  rcases lt10 hj with rfl | rfl | rfl | rfl | rfl | rfl | rfl | rfl | rfl | rfl
  · exact ls_0
  · exact ls_1
  · exact ls_2
  · exact ls_3
  · exact ls_4
  · exact ls_5
  · exact ls_6
  · exact ls_7
  · exact ls_8
  · exact ls_9
theorem ini_3 : Cond.initialized RX3 ∈ lw_tbl := List.mem_of_getElem? (i := 99) (by decide +kernel)
theorem inst_0 : Cond.instantiable RX0 1 ∈ kw := kw_w 332 (by decide +kernel) (by decide +kernel)
theorem inst_1 : Cond.instantiable RX1 6 ∈ kw := kw_w 188 (by decide +kernel) (by decide +kernel)
theorem inst_2 : Cond.instantiable RX2 3 ∈ kw := kw_w 306 (by decide +kernel) (by decide +kernel)
theorem inst_3 : Cond.instantiable RX3 6 ∈ kw := kw_w 118 (by decide +kernel) (by decide +kernel)
theorem inst_4 : Cond.instantiable RX4 12 ∈ kw := kw_w 223 (by decide +kernel) (by decide +kernel)
theorem inst_5 : Cond.instantiable RX5 10 ∈ kw := kw_w 124 (by decide +kernel) (by decide +kernel)
theorem inst_6 : Cond.instantiable RX6 5 ∈ kw := kw_w 342 (by decide +kernel) (by decide +kernel)
theorem inst_7 : Cond.instantiable RX7 14 ∈ kw := kw_w 110 (by decide +kernel) (by decide +kernel)
theorem inst_8 : Cond.instantiable RX8 20 ∈ kw := kw_w 842 (by decide +kernel) (by decide +kernel)
theorem lw_statics {s : State} {b : Nat} (hts : ∀ w ∈ lw_tbl, w.before #[Value.ref b] s = true) (hgv : (Jvm.Cond.and given_1 narrow_1).before #[Value.ref b] s = true) (A : Nat → Prop) (hA : ∀ a : Nat, a < s.heap.size → ¬ A a) : ∃ f : Nat → Nat, ∀ j, j < 10 → va_Z RX3 (k_sn j) "[I" (.ref (f j)) A s s.heap ∧ va_T .int (f j) (k_sl j).length (fun i => .int ((k_sl j).getD i 0)) A s s.heap := by
  have hs := flat_of_before _ hgv
  have ex : ∀ j, j < 10 → ∃ t : Nat, va_Z RX3 (k_sn j) "[I" (.ref t) A s s.heap ∧ va_T .int t (k_sl j).length (fun i => .int ((k_sl j).getD i 0)) A s s.heap := by
    intro j hj
    obtain ⟨⟨f1, f2⟩, f3⟩ := fl_st j hj
    have l12 : (k_sl j).length < 2 ^ 31 := by
      have : ∀ j, j < 10 → (k_sl j).length ≤ 12 := by decide
      have := this j hj
      omega
    obtain ⟨t, ht, hT⟩ := va_Tof (f := fun i => .int ((k_sl j).getD i 0)) (A := A) l12 (hs _ f1) (va_eqt (hs _ f2)) (fun i hi => va_eqt (hs _ (f3 i hi))) hA
    exact ⟨t, va_Zof (hts _ (ls_all j hj)) (hts _ ini_3) ht hA, hT⟩
  refine ⟨fun j => if h : j < 10 then (ex j h).choose else 0, fun j hj => ?_⟩
  have e : (fun j => if h : j < 10 then (ex j h).choose else 0) j = (ex j hj).choose := dif_pos hj
  rw [e]
  exact (ex j hj).choose_spec
theorem lw_arr {s : State} {args : Array Value} {ty : FieldType} (h : (Cond.arrayClass ty).before args s = true) (hty : ty = .int ∨ ty = .byte ∨ ty = .boolean) : ∃ cA : ClassId, ArrOfT s cA ty ∧ va_RA s cA ty := by
  obtain ⟨cA, kA, comp, h1, h2, h3⟩ := Cond.arrayClass_spec h
  refine ⟨cA, fun n z => ⟨fun k h => (by cases h), kA, h2, comp, h3⟩, ?_⟩
  rcases hty with rfl | rfl | rfl
  · exact h1
  · exact h1
  · exact h1
theorem lw_nest {s : State} {b : Nat} (hts : ∀ w ∈ lw_tbl, w.before #[Value.ref b] s = true) : k_NN s := by
  intro q hq
  refine va_Nw.of rfl (A := #[Value.ref b]) (hts _ ?_)
  have hm : Cond.methodLinkNest q.1 q.2.1 q.2.2.1 q.2.2.2 ∈ kw_nest.map (fun q => Cond.methodLinkNest q.1 q.2.1 q.2.2.1 q.2.2.2) := List.mem_map.mpr ⟨q, hq, rfl⟩
  rw [kw_nest_in] at hm
  obtain ⟨i, -, hi⟩ := List.mem_filterMap.mp hm
  exact List.mem_of_getElem? hi
set_option maxHeartbeats 4000000 in
theorem lw_known {s : State} {b : Nat} (hts : ∀ w ∈ kw, w.before #[Value.ref b] s = true) : ∃ (dC : Nat → ClassId) (dI : Nat → Nat → Nat), ∀ (k : Nat) (q : vw_C), vwCl[k]? = some q → u_Kn s q.1 q.2.1 q.2.2 (dC k) (dI k) := by
  obtain ⟨c0, i0, k0⟩ := u_known (C := RX0) (T := TX0) (N := 1) (n := 1) hts kw_X0 (hts _ inst_0)
  obtain ⟨c1, i1, k1⟩ := u_known (C := RX1) (T := TX1) (N := 6) (n := 6) hts kw_X1 (hts _ inst_1)
  obtain ⟨c2, i2, k2⟩ := u_known (C := RX2) (T := TX2) (N := 3) (n := 3) hts kw_X2 (hts _ inst_2)
  obtain ⟨c3, i3, k3⟩ := u_known (C := RX3) (T := TX3) (N := 6) (n := 6) hts kw_X3 (hts _ inst_3)
  obtain ⟨c4, i4, k4⟩ := u_known (C := RX4) (T := TX4) (N := 12) (n := 12) hts kw_X4 (hts _ inst_4)
  obtain ⟨c5, i5, k5⟩ := u_known (C := RX5) (T := TX5) (N := 10) (n := 10) hts kw_X5 (hts _ inst_5)
  obtain ⟨c6, i6, k6⟩ := u_known (C := RX6) (T := TX6) (N := 5) (n := 5) hts kw_X6 (hts _ inst_6)
  obtain ⟨c7, i7, k7⟩ := u_known (C := RX7) (T := TX7) (N := 14) (n := 14) hts kw_X7 (hts _ inst_7)
  obtain ⟨c8, i8, k8⟩ := u_known (C := RX8) (T := TX8) (N := 20) (n := 20) hts kw_X8 (hts _ inst_8)
  refine ⟨fun k => if k = 0 then c0 else if k = 1 then c1 else if k = 2 then c2 else if k = 3 then c3 else if k = 4 then c4 else if k = 5 then c5 else if k = 6 then c6 else if k = 7 then c7 else c8, fun k => if k = 0 then i0 else if k = 1 then i1 else if k = 2 then i2 else if k = 3 then i3 else if k = 4 then i4 else if k = 5 then i5 else if k = 6 then i6 else if k = 7 then i7 else i8, ?_⟩
  intro k q hq
  match k, hq with
  | 0, hq => cases hq; exact k0
  | 1, hq => cases hq; exact k1
  | 2, hq => cases hq; exact k2
  | 3, hq => cases hq; exact k3
  | 4, hq => cases hq; exact k4
  | 5, hq => cases hq; exact k5
  | 6, hq => cases hq; exact k6
  | 7, hq => cases hq; exact k7
  | 8, hq => cases hq; exact k8
  | k + 9, hq => simp [vwCl] at hq
theorem whole_start {p : Program} {e : Env} {s : State} {m : MethodId} {below : List Frame} {meth : Method} {c : Code} (l : Launch) (hflags : l.flags = flags0) {b L : Nat} {xs : Nat → Int32} (hL : L ≤ 2560) (C0 : lw_At p s m meth c b L xs) : W p l e room_1 s m #[Value.ref b] below meth c s.heap [] 0 0 (lw_Z below #[Value.ref b] s) (entryFrame m ([Value.ref b] : List Value).toArray 4) := by
  obtain ⟨hx, hb, hr, hml, hown, hts, hX, hbl, hlk, hgv⟩ := id C0
  have hkw : ∀ w ∈ kw, w.before #[Value.ref b] s = true := kw_of hts
  have hA : ∀ a : Nat, a < s.heap.size → ¬ (fun q : Nat => s.heap.size ≤ q) a := fun a h q => absurd h (Nat.not_lt.mpr q)
  obtain ⟨f, hf⟩ := lw_statics hts hgv (fun q : Nat => s.heap.size ≤ q) hA
  obtain ⟨dC, dI, hKc⟩ := lw_known hkw
  obtain ⟨cI, aI⟩ := lw_arr (hkw _ ac_I) (Or.inl rfl)
  obtain ⟨cB, aB⟩ := lw_arr (hkw _ ac_B) (Or.inr (Or.inl rfl))
  obtain ⟨cZ, aZ⟩ := lw_arr (hkw _ ac_Z) (Or.inr (Or.inr rfl))
  have hl := lv_entry ([Value.ref b]) (n := 4) (Nat.le_of_ble_eq_true rfl)
  rw [lg_entry_eq]
  generalize (lg_sl ([Value.ref b]) ++ List.replicate (4 - (lg_sl ([Value.ref b])).length) Slot.unset).toArray = ls at hl ⊢
  let G : kG := (l, s.heap.size, (dC, dI), (cI, cB, cZ), (fun j => if j = 10 then b else f j), (fun _ => 0), (L, xs))
  let X : kX := (p, e, s, m, #[Value.ref b], below, meth, c, lw_Z below #[Value.ref b] s)
  have hK : va_K (g_D G) vwCl (k_ty G) s := by
    refine ⟨hKc, fun k q hq => ?_⟩
    match k, hq with
    | 0, hq => cases hq; exact aI
    | 1, hq => cases hq; exact aB
    | 2, hq => cases hq; exact aZ
    | k + 3, hq => simp [k_ty] at hq
  have hSX : k_SX G s := by
    refine ⟨fun j hj => ?_, fun j hj => ?_⟩
    · have : g_s G j = f j := if_neg (by omega)
      rw [this]
      exact (hf j hj).1
    · by_cases e10 : j = 10
      · subst e10
        obtain ⟨scr, x1, x2, x3, x4, x5⟩ := hX
        exact ⟨scr, x1, x2, x3, Nat.le_of_eq x4.symm, by rw [x4]; rfl, x5, hA b hbl⟩
      · have h1 : g_s G j = f j := if_neg e10
        have h2 : k_tl G j = (k_sl j).length := if_neg e10
        have h3 : (fun i => Value.int (k_tb G j i)) = fun i => Value.int ((k_sl j).getD i 0) := by
          funext i
          exact congrArg Value.int (if_neg e10)
        rw [h1, h2, h3]
        exact (hf j (by omega)).2
  have C : k_X G M_L_law X := ⟨hx, hb, hml, hown, hkw, hK, lw_nest hts, hSX, Nat.le_refl _, tb_L_law⟩
  have hRL : k_RL G X := ⟨rfl, rfl, hr, hlk, rfl⟩
  have w := law_start (G := G) (X := X) hRL hL C (fun k t hk => by simp at hk) (fun v hv => by cases hv) (fun v hv => ?_) s.heap ls [] (fun k q hk => by simp [k_wl] at hk) ⟨fun i j hi => absurd hi (Nat.not_lt_zero _), fun i hi => absurd hi (Nat.not_lt_zero _)⟩ va_S.rf ?_
  · exact w
  · rcases List.mem_cons.mp hv with e | hv
    · cases e; exact Or.inr ⟨rfl, show 10 < 11 by omega⟩
    · rcases List.mem_cons.mp hv with e | hv
      · cases e
      · rcases List.mem_cons.mp hv with e | hv
        · cases e
        · rcases List.mem_cons.mp hv with e | hv
          · cases e
          · cases hv
  · exact k_has_sub hl (fun q hq => by
      have : q = (0, Value.ref b) := List.mem_singleton.mp hq
      rw [this]; exact List.mem_cons_self)
