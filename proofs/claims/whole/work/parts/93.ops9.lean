/-! sherd -/
/-- a finding into the tally: how many, least and greatest water, least and greatest minute -/
def mtl (x y : Int32) (r : Nat → Int32) : Nat → Int32 := fun j =>
  if j = 0 then r 0 + nI 1
  else if j = 1 then (if r 0 = 0 then x else if x < r 1 then x else r 1)
  else if j = 2 then (if r 0 = 0 then x else if r 2 < x then x else r 2)
  else if j = 3 then (if r 0 = 0 then y else if y < r 3 then y else r 3)
  else (if r 0 = 0 then y else if r 4 < y then y else r 4)
section
variable {x y : Int32} {r : Nat → Int32}
theorem mtl_0 : mtl x y r 0 = r 0 + nI 1 := rfl
theorem mtl_1 : mtl x y r 1 = (if r 0 = 0 then x else if x < r 1 then x else r 1) := rfl
theorem mtl_2 : mtl x y r 2 = (if r 0 = 0 then x else if r 2 < x then x else r 2) := rfl
theorem mtl_3 : mtl x y r 3 = (if r 0 = 0 then y else if y < r 3 then y else r 3) := rfl
theorem mtl_4 : mtl x y r 4 = (if r 0 = 0 then y else if r 4 < y then y else r 4) := rfl
end
theorem lt5 {j : Nat} (h : j < 5) : j = 0 ∨ j = 1 ∨ j = 2 ∨ j = 3 ∨ j = 4 := by omega
theorem q_add {x y : Int32} {h : kH} : ∃ h', p_X6_add x y h = some h' ∧ (∀ j, j < 5 → h' 134 j = mtl x y (h 134) j) ∧ ∀ k, k ≠ 134 → h' k = h k := by
  show okp (fun h' : kH => (∀ j, j < 5 → h' 134 j = mtl x y (h 134) j) ∧ ∀ k, k ≠ 134 → h' k = h k) _
  by_cases z : h 134 0 = 0
  · simp only [p_X6_add, if_pos z, p_X6_add_12, if_neg nI_10, p_X6_add_30, p_X6_add_50, p_X6_add_70, p_X6_add_90, le_d]
    refine okp_s ⟨fun j hj => ?_, fun k hk => by rw [hs_k hk, hs_k hk, hs_k hk, hs_k hk, hs_k hk]⟩
    rcases lt5 hj with rfl | rfl | rfl | rfl | rfl
    · rw [mtl_0]; simp (disch := omega) only [hs_s, hs_i]
    · rw [mtl_1, if_pos z]; simp (disch := omega) only [hs_s, hs_i]
    · rw [mtl_2, if_pos z]; simp (disch := omega) only [hs_s, hs_i]
    · rw [mtl_3, if_pos z]; simp (disch := omega) only [hs_s, hs_i]
    · rw [mtl_4, if_pos z]; simp (disch := omega) only [hs_s, hs_i]
  · simp only [p_X6_add, if_neg z, p_X6_add_12, if_pos nI_00, p_X6_add_30, p_X6_add_50, p_X6_add_70, p_X6_add_90, le_d]
    refine okp_s ⟨fun j hj => ?_, fun k hk => by rw [hs_k hk, hs_k hk, hs_k hk, hs_k hk, hs_k hk]⟩
    rcases lt5 hj with rfl | rfl | rfl | rfl | rfl
    · rw [mtl_0]; simp (disch := omega) only [hs_s, hs_i]
    · rw [mtl_1, if_neg z]; simp (disch := omega) only [hs_s, hs_i]
    · rw [mtl_2, if_neg z]; simp (disch := omega) only [hs_s, hs_i]
    · rw [mtl_3, if_neg z]; simp (disch := omega) only [hs_s, hs_i]
    · rw [mtl_4, if_neg z]; simp (disch := omega) only [hs_s, hs_i]
theorem sel_min {α : Type} {F : Int32 → α} {r x : Int32} : (if r ≤ x then F r else F x) = F (if x < r then x else r) := by
  by_cases q : r ≤ x
  · rw [if_pos q, if_neg (Int32.not_lt.mpr q)]
  · rw [if_neg q, if_pos (Int32.not_le.mp q)]
theorem sel_max {α : Type} {F : Int32 → α} {r x : Int32} : (if x ≤ r then F r else F x) = F (if r < x then x else r) := by
  by_cases q : x ≤ r
  · rw [if_pos q, if_neg (Int32.not_lt.mpr q)]
  · rw [if_neg q, if_pos (Int32.not_le.mp q)]
section
variable {x y v : Int32} {h : kH}
theorem fd1 : p_X8_found_14 x y (nI 0) h = p_X8_found_54 x y (nI 0) (if x < h 150 1 then x else h 150 1) (nI 1) (hs h 150 0 (h 150 0 + nI 1)) := by
  simp (disch := omega) only [p_X8_found_14, p_X8_found_44, gd_i, nI_clamp, le_d, if_pos nI_00, hs_i]
  exact sel_min (F := fun v => p_X8_found_54 x y (nI 0) v (nI 1) (hs h 150 0 (h 150 0 + nI 1)))
theorem fd1' : p_X8_found_14 x y (nI 1) h = p_X8_found_54 x y (nI 1) x (nI 1) (hs h 150 0 (h 150 0 + nI 1)) := by
  rw [p_X8_found_14, gd_i (by omega) (by omega), nI_clamp (by omega), le_d, if_neg nI_10, p_X8_found_44]
theorem fd2 : p_X8_found_54 x y (nI 0) v (nI 1) h = p_X8_found_84 y (nI 0) (if h 150 2 < x then x else h 150 2) (nI 2) (hs h 150 1 v) := by
  simp (disch := omega) only [p_X8_found_54, p_X8_found_74, gd_i, nI_clamp, le_d, if_pos nI_00, hs_i]
  exact sel_max (F := fun u => p_X8_found_84 y (nI 0) u (nI 2) (hs h 150 1 v))
theorem fd2' : p_X8_found_54 x y (nI 1) v (nI 1) h = p_X8_found_84 y (nI 1) x (nI 2) (hs h 150 1 v) := by
  rw [p_X8_found_54, gd_i (by omega) (by omega), nI_clamp (by omega), le_d, if_neg nI_10, p_X8_found_74]
theorem fd3 : p_X8_found_84 y (nI 0) v (nI 2) h = p_X8_found_114 y (nI 0) (if y < h 150 3 then y else h 150 3) (nI 3) (hs h 150 2 v) := by
  simp (disch := omega) only [p_X8_found_84, p_X8_found_104, gd_i, nI_clamp, le_d, if_pos nI_00, hs_i]
  exact sel_min (F := fun u => p_X8_found_114 y (nI 0) u (nI 3) (hs h 150 2 v))
theorem fd3' : p_X8_found_84 y (nI 1) v (nI 2) h = p_X8_found_114 y (nI 1) y (nI 3) (hs h 150 2 v) := by
  simp (disch := omega) only [p_X8_found_84, p_X8_found_104, gd_i, nI_clamp, le_d, if_neg nI_10]
theorem fd4 : p_X8_found_114 y (nI 0) v (nI 3) h = some (hs (hs h 150 3 v) 150 4 (if h 150 4 < y then y else h 150 4)) := by
  simp (disch := omega) only [p_X8_found_114, p_X8_found_134, p_X8_found_144, gd_i, nI_clamp, le_d, if_pos nI_00, hs_i]
  exact sel_max (F := fun u => some (hs (hs h 150 3 v) 150 4 u))
theorem fd4' : p_X8_found_114 y (nI 1) v (nI 3) h = some (hs (hs h 150 3 v) 150 4 y) := by
  simp (disch := omega) only [p_X8_found_114, p_X8_found_134, p_X8_found_144, gd_i, nI_clamp, le_d, if_neg nI_10]
theorem rq_found : ∃ h', p_X8_found x y h = some h' ∧ (∀ j, j < 5 → h' 150 j = mtl x y (h 150) j) ∧ ∀ k, k ≠ 150 → h' k = h k := by
  show okp (fun h' : kH => (∀ j, j < 5 → h' 150 j = mtl x y (h 150) j) ∧ ∀ k, k ≠ 150 → h' k = h k) _
  by_cases z : h 150 0 = 0
  · simp (disch := omega) only [p_X8_found, gd_i, nI_clamp, if_pos z, fd1', fd2', fd3', fd4']
    refine okp_s ⟨fun j hj => ?_, fun k hk => by rw [hs_k hk, hs_k hk, hs_k hk, hs_k hk, hs_k hk]⟩
    rcases lt5 hj with rfl | rfl | rfl | rfl | rfl
    · rw [mtl_0]; simp (disch := omega) only [hs_s, hs_i]
    · rw [mtl_1, if_pos z]; simp (disch := omega) only [hs_s, hs_i]
    · rw [mtl_2, if_pos z]; simp (disch := omega) only [hs_s, hs_i]
    · rw [mtl_3, if_pos z]; simp (disch := omega) only [hs_s, hs_i]
    · rw [mtl_4, if_pos z]; simp (disch := omega) only [hs_s, hs_i]
  · simp (disch := omega) only [p_X8_found, gd_i, nI_clamp, if_neg z, fd1, fd2, fd3, fd4]
    refine okp_s ⟨fun j hj => ?_, fun k hk => by rw [hs_k hk, hs_k hk, hs_k hk, hs_k hk, hs_k hk]⟩
    rcases lt5 hj with rfl | rfl | rfl | rfl | rfl
    · rw [mtl_0]; simp (disch := omega) only [hs_s, hs_i]
    · rw [mtl_1, if_neg z]; simp (disch := omega) only [hs_s, hs_i]
    · rw [mtl_2, if_neg z]; simp (disch := omega) only [hs_s, hs_i]
    · rw [mtl_3, if_neg z]; simp (disch := omega) only [hs_s, hs_i]
    · rw [mtl_4, if_neg z]; simp (disch := omega) only [hs_s, hs_i]
end
/-- a row tells a tally -/
def Tl (r S : Nat → Int32) : Prop := r 0 = S 0 ∧ (S 0 ≠ 0 → ∀ j, j < 5 → r j = S j)
theorem Tl.s {r r' S : Nat → Int32} {x y : Int32} (t : Tl r S) (e : ∀ j, j < 5 → r' j = mtl x y r j) : Tl r' (mtl x y S) := by
  have key : ∀ j, j < 5 → r' j = mtl x y S j := by
    intro j hj
    rw [e j hj]
    by_cases z : S 0 = 0
    · have zr : r 0 = 0 := by rw [t.1]; exact z
      rcases lt5 hj with rfl | rfl | rfl | rfl | rfl
      · rw [mtl_0, mtl_0, t.1]
      · rw [mtl_1, mtl_1, if_pos z, if_pos zr]
      · rw [mtl_2, mtl_2, if_pos z, if_pos zr]
      · rw [mtl_3, mtl_3, if_pos z, if_pos zr]
      · rw [mtl_4, mtl_4, if_pos z, if_pos zr]
    · have a := t.2 z
      rcases lt5 hj with rfl | rfl | rfl | rfl | rfl
      · rw [mtl_0, mtl_0, t.1]
      · rw [mtl_1, mtl_1, t.1, a 1 (by omega)]
      · rw [mtl_2, mtl_2, t.1, a 2 (by omega)]
      · rw [mtl_3, mtl_3, t.1, a 3 (by omega)]
      · rw [mtl_4, mtl_4, t.1, a 4 (by omega)]
  exact ⟨key 0 (by omega), fun _ => key⟩
theorem pN_0 {ru : Nat → Int32} {w m : Nat} {F : Nat → kH} {p : kH} : pN ru w m F 0 p = p := rfl
theorem pN_add {ru : Nat → Int32} {w m a : Nat} {F : Nat → kH} {p : kH} : ∀ b, pN ru w m F (a + b) p = pN ru w m (fun j => F (a + j)) b (pN ru w m F a p)
  | 0 => rfl
  | b + 1 => by rw [← Nat.add_assoc, pN_s, pN_s, pN_add b]
section
variable {w g n m : Nat} {ru : Nat → Int32} {f p : kH} {go : Int32} {h : kH}
theorem wf_water {i k : Nat} (hp : WfP n m p) (hi : i < m) (hk : k ≤ 99) : WfP n m (hs p 2 i (nI k)) := by
  refine One.wf one_hs hp ?_
  obtain ⟨h0, h1, h2, h4, h5, h6, h7, h8⟩ := hp i hi
  unfold W1
  simp (disch := omega) only [hs_k, hs_s]
  exact ⟨h0, h1, bt_n (by omega) hk, h4, h5, h6, h7, h8⟩
def shP (ru : Nat → Int32) (w n m i : Nat) (f p : kH) (x u : Nat) : kH := (rN ru (fun _ => nI 0) w n m (30 * u) (f, hs p 2 i (nI (10 * x)))).2
def shS (ru : Nat → Int32) (w n m i : Nat) (a b : Int32) (f p : kH) (x u : Nat) (S : Nat → Int32) : Nat → Int32 := if mloss ru (shP ru w n m i f p x (u + 1)) i = a ∧ shP ru w n m i f p x (u + 1) 5 i = b then mtl (nI (10 * x)) (nI (30 * (u + 1))) S else S
def shG (ru : Nat → Int32) (w n m i : Nat) (a b : Int32) (f p : kH) (x : Nat) (S : Nat → Int32) : Nat → Int32 := itr (shS ru w n m i a b f p x) 8 S
def shT (ru : Nat → Int32) (w n m i : Nat) (a b : Int32) (f p : kH) (x : Nat) : Nat → Int32 := itr (shG ru w n m i a b f p) x (fun _ => nI 0)
theorem shT_s {i x : Nat} {a b : Int32} : shT ru w n m i a b f p (x + 1) = itr (shS ru w n m i a b f p x) 8 (shT ru w n m i a b f p x) := itr_s (shG ru w n m i a b f p) x _
theorem sh_bt {i : Nat} {a b : Int32} : ∀ x, x ≤ 10 → bt (shT ru w n m i a b f p x 0) 0 (8 * x)
  | 0, _ => bt_n (by omega) (by omega)
  | x + 1, hx => by
    rw [shT_s]
    refine itr_ix (f := shS ru w n m i a b f p x) (fun u S => bt (S 0) 0 (8 * x + u)) 8 (fun u S hu hS => ?_) (sh_bt x (by omega)) 8 (by omega)
    unfold shS
    split
    · obtain ⟨c, -, c2, c3⟩ := hS
      rw [mtl_0, c3, nI_add]
      exact bt_n (by omega) (by omega)
    · exact bt_w hS (by omega) (by omega)
def shV (S : Nat → Int32) (a : Nat) : Int32 := if a = 0 then S 0 else if S 0 = 0 then -4 else S a
theorem q_told {S : Nat → Int32} {a : Nat} (ha : a < 5) (t : Tl (h 134) S) : p_X6_told (nI a) h = some (shV S a, h) := by
  unfold p_X6_told shV
  by_cases z : a = 0
  · subst z
    rw [if_pos nI_00, if_pos rfl, t.1]
  · rw [if_neg (fun y => z ((nI_eq0 (by omega)).mp y)), if_neg z, t.1]
    by_cases z0 : S 0 = 0
    · rw [if_pos z0, if_pos z0]
    · rw [if_neg z0, if_neg z0]
      have e := t.2 z0
      rcases lt5 ha with rfl | rfl | rfl | rfl | rfl
      · exact absurd rfl z
      · rw [if_pos rfl, e 1 (by omega)]
      · rw [if_neg (by decide), if_pos rfl, e 2 (by omega)]
      · rw [if_neg (by decide), if_neg (by decide), if_pos rfl, e 3 (by omega)]
      · rw [if_neg (by decide), if_neg (by decide), if_neg (by decide), e 4 (by omega)]
theorem c_sherd (c : CI h w g n m ru f p go) {i a : Nat} {x2 x3 : Int32} (hi : i < m) (ha : a < 5) : okp (fun q : Int32 × kH => q.1 = shV (shT ru w n m i x2 x3 f p 10) a ∧ Kp h q.2) (bd (p_X7_burnAfresh (nI 240) (nI 0) h) fun h4 => bd (p_X6_clear h4) fun h6 => fx (fun K59 s => p_X7_sherd_59 K59 s.1 s.2.1 s.2.2.1 s.2.2.2.1 s.2.2.2.2.1 s.2.2.2.2.2) FU (nI i, x2, x3, nI a, (nI 0), h6)) := by
  have hm := c.1.2.2.1
  have hn30 := n_le c.1.2.1 c.1.1.2.2.1.2 c.1.1.2.2.2.1.2
  have hx : bt (nI 0) 0 9 := bt_n (by omega) (by omega)
  obtain ⟨h0, e0, t0, k0⟩ := q_burnAfresh (N := 240) c (by omega) hx
  rw [bd_o e0, p_X6_clear, le_d, bd_s]
  have kp0 : Kp h (hs h0 134 0 (nI 0)) := fun k a b c => by rw [hs_k c]; exact k0 k (by omega) b
  refine fx_m (fun x (h : kH) => (nI i, x2, x3, nI a, nI (10 * x), h)) (fun x h1 => Kp h h1 ∧ h1 133 = h0 133 ∧ Tl (h1 134) (shT ru w n m i x2 x3 f p x)) _ 10 (by omega) ⟨kp0, hs_k (by omega), by rw [hs_s]; rfl, fun z => absurd nI_00 z⟩ ?_ ?_
  · intro x h1 hx10 ⟨kp, h133, tl⟩ K hK
    obtain ⟨⟨hr, hn, -, hf, hp⟩, a1, a2, a3, a4, a5⟩ := c.kp kp
    obtain ⟨h2, e2, n2, v2, k2⟩ := q_potsCopy (P := 79) (P2 := 39) (h := h1) (by omega)
    have p2 : cP h2 79 m = p := by rw [cP_copy hm (by rw [a3]; exact hp) v2, a3]
    have p3 : cP (hs h2 82 i (nI (10 * x))) 79 m = hs p 2 i (nI (10 * x)) := by rw [← p2]; exact cP_hs 2 (by omega) hi
    have b3 : cP (hs h2 82 i (nI (10 * x))) 79 m = pN ru w m (fun j => fN ru (fun _ => nI 0) w n (j + 1) f) (30 * 0) (hs p 2 i (nI (10 * x))) := by rw [Nat.mul_zero, pN_0]; exact p3
    have b4 : Tl (hs h2 82 i (nI (10 * x)) 134) (itr (shS ru w n m i x2 x3 f p x) 0 (shT ru w n m i x2 x3 f p x)) := by rw [itr_0, hs_k (by omega), k2 _ (by omega)]; exact tl
    simp (disch := omega) only [p_X7_sherd_59, if_neg (nI_nlt (show 10 * x ≤ 90 by omega) (show 90 < 2 ^ 31 by omega)), bd_o e2, gd_i, nI_clamp, le_d]
    refine fx_m (fun u (h : kH) => (nI i, x2, x3, nI a, nI (10 * x), nI (30 + 30 * u), h)) (fun u h3 => Kp h h3 ∧ h3 133 = h0 133 ∧ cP h3 79 m = pN ru w m (fun j => fN ru (fun _ => nI 0) w n (j + 1) f) (30 * u) (hs p 2 i (nI (10 * x))) ∧ h3 79 0 = nI m ∧ Tl (h3 134) (itr (shS ru w n m i x2 x3 f p x) u (shT ru w n m i x2 x3 f p x))) _ 8 (by omega) (a := hs h2 82 i (nI (10 * x))) ⟨fun k b1 b2 b3 => by rw [hs_k (by omega), k2 k (by omega), kp k b1 b2 b3], by rw [hs_k (by omega), k2 _ (by omega), h133], b3, by rw [hs_k (by omega), n2]; exact a4, b4⟩ ?_ ?_
    · intro u h3 hu ⟨kp3, h133', v3, n3, tl3⟩ K3 hK3
      have r3 : cR h3 28 = ru := (c.kp kp3).2.1
      obtain ⟨h4, e4, v4, k4⟩ := q_passPots (fr := 30 * u) (N := 30 + 30 * u) (m := m) (h := h3) (F := fun j => fN ru (fun _ => nI 0) w n (30 * u + j + 1) f) (U := 999) (by rw [r3]; exact hr) hn (by omega) (by omega) n3 hm (by rw [v3]; exact wf_pN hr hn (wf_water hp hi (by omega)) _ (fun j _ => wf_fN hr hn (by omega) hf _ (fun _ _ => hx))) (fun j hj => wf_fN hr hn (by omega) hf _ (fun _ _ => hx)) (fun j hj => tells_k hn30 (t0 (30 * u + j) (by omega)) (fun c _ => by rw [h133']))
      have r4 : cR h4 28 = ru := by rw [← r3]; exact cR_k (k4 _ (by omega)) (k4 _ (by omega)) (k4 _ (by omega))
      have v4' : cP h4 79 m = pN ru w m (fun j => fN ru (fun _ => nI 0) w n (j + 1) f) (30 * (u + 1)) (hs p 2 i (nI (10 * x))) := by
        rw [v4, r3, v3, show 30 + 30 * u - 30 * u = 30 by omega, show 30 * (u + 1) = 30 * u + 30 by omega, pN_add]
      have v5 : cP h4 79 m = shP ru w n m i f p x (u + 1) := by rw [v4', shP, rN_p]
      have el := q_lossOf (P := 79) (R := 28) (h := h4) hi hm
      rw [r4, v5] at el
      have h88 : h4 88 i = shP ru w n m i f p x (u + 1) 5 i := by rw [← v5, cP_at (a := 5) (by omega) hi]; rfl
      have kp4 : Kp h h4 := fun k b1 b2 b3 => by rw [k4 k (by omega), kp3 k b1 b2 b3]
      have tl4 : Tl (h4 134) (itr (shS ru w n m i x2 x3 f p x) u (shT ru w n m i x2 x3 f p x)) := by rw [k4 _ (by omega)]; exact tl3
      have sub : nI (30 + 30 * u) - nI 30 = nI (30 * u) := by rw [pk_sub (by omega), show 30 + 30 * u - 30 = 30 * u by omega]
      have nxt : 30 + 30 * u + 30 = 30 + 30 * (u + 1) := by omega
      simp (disch := omega) only [p_X7_sherd_101, p_X7_sherd_159, p_X7_sherd_160, if_neg (nI_nlt (show 30 + 30 * u ≤ 240 by omega) (show 240 < 2 ^ 31 by omega)), sub, bd_o e4, el, bd2_s, gd_i, nI_clamp, h88, nI_add, nxt, if_pos nI_00, if_neg nI_10]
      have no : ¬ (mloss ru (shP ru w n m i f p x (u + 1)) i = x2 ∧ shP ru w n m i f p x (u + 1) 5 i = x3) → okp (fun q : Int32 × kH => q.1 = shV (shT ru w n m i x2 x3 f p 10) a ∧ Kp h q.2) (K3 (nI i, x2, x3, nI a, nI (10 * x), nI (30 + 30 * (u + 1)), h4)) := by
        intro z
        exact hK3 h4 ⟨kp4, by rw [k4 _ (by omega), h133'], v4', by rw [k4 _ (by omega)]; exact n3, by rw [itr_s, shS, if_neg z]; exact tl4⟩
      by_cases z1 : mloss ru (shP ru w n m i f p x (u + 1)) i = x2
      · rw [if_pos z1]
        by_cases z2 : shP ru w n m i f p x (u + 1) 5 i = x3
        · rw [if_pos z2]
          obtain ⟨h5, e5, v5', k5⟩ := q_add (x := nI (10 * x)) (y := nI (30 + 30 * u)) (h := h4)
          rw [bd_o e5]
          refine hK3 h5 ⟨fun k b1 b2 b3 => by rw [k5 k b3, kp4 k b1 b2 b3], by rw [k5 _ (by omega), k4 _ (by omega), h133'], by rw [← v4']; exact cP_k (fun k _ _ => k5 k (by omega)), by rw [k5 _ (by omega), k4 _ (by omega)]; exact n3, ?_⟩
          rw [itr_s, shS, if_pos ⟨z1, z2⟩, show 30 * (u + 1) = 30 + 30 * u by omega]
          exact tl4.s v5'
        · rw [if_neg z2]; exact no (fun z => z2 z.2)
      · rw [if_neg z1]; exact no (fun z => z1 z.1)
    · intro h3 ⟨kp3, h133', v3, n3, tl3⟩ K3
      simp only [p_X7_sherd_101, if_pos (nI_lt (show 240 < 30 + 30 * 8 by omega) (show 30 + 30 * 8 < 2 ^ 31 by omega)), nI_add]
      rw [show 10 * x + 10 = 10 * (x + 1) by omega]
      exact hK h3 ⟨kp3, h133', by rw [shT_s]; exact tl3⟩
  · intro h1 ⟨kp, h133, tl⟩ K
    simp only [p_X7_sherd_59, if_pos (nI_lt (show 90 < 10 * 10 by omega) (show 10 * 10 < 2 ^ 31 by omega)), q_told ha tl, bd2_s]
    exact okp_s ⟨rfl, kp⟩
end
