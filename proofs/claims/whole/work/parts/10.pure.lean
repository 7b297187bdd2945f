def p_X0_place_26 (x0 : Int32) (x1 : Int32) (s0 : Int32) (h : kH) : Option (Int32 × kH) :=
  if s0 = 0 then some ((nI 0), h) else some (((x0 * (nI 30)) + x1), h)
def p_X0_place_25 (x0 : Int32) (x1 : Int32) (h : kH) : Option (Int32 × kH) :=
  p_X0_place_26 x0 x1 (nI 0) h
def p_X0_place (x0 : Int32) (x1 : Int32) (h : kH) : Option (Int32 × kH) :=
  if x0 < 0 then p_X0_place_25 x0 x1 h else if (nI 240) ≤ x0 then p_X0_place_25 x0 x1 h else if x1 < 0 then p_X0_place_25 x0 x1 h else if (nI 30) ≤ x1 then p_X0_place_25 x0 x1 h else p_X0_place_26 x0 x1 (nI 1) h
def p_X7_oneIf (x0 : Int32) (h : kH) : Option (Int32 × kH) :=
  if x0 = 0 then some ((nI 0), h) else some ((nI 1), h)
def p_X0_put (x1 : Int32) (x2 : Int32) (x3 : Int32) (x4 : Int32) (h : kH) : Option (kH) :=
  bd2 (p_X0_place x1 x2 h) fun v3 h1 => bd2 (p_X7_oneIf x4 h1) fun v6 h4 => gd (inb v3 7200) (le_ (hs h4 133 (v3).toNatClampNeg (((nI 2) * x3) + v6)) fun h8 => some h8)
def p_X0_heatAt (x1 : Int32) (x2 : Int32) (h : kH) : Option (Int32 × kH) :=
  bd2 (p_X0_place x1 x2 h) fun v3 h1 => gd (inb v3 7200) (some (((h1 133 (v3).toNatClampNeg) / (nI 2)), h1))
def p_X0_blackensAt (x1 : Int32) (x2 : Int32) (h : kH) : Option (Int32 × kH) :=
  bd2 (p_X0_place x1 x2 h) fun v3 h1 => gd (inb v3 7200) (if (krem (h1 133 (v3).toNatClampNeg) (nI 2)) = (nI 1) then some ((nI 1), h1) else some ((nI 0), h1))
def p_X1_clear_2 (K2 : Int32 × kH → Option (kH)) (F : Nat) (x1 : Int32) (h : kH) : Option (kH) :=
  if (nI 30) ≤ x1 then some h else gd (inb x1 30) (le_ (hs h (F + 1) (x1).toNatClampNeg (nI 20)) fun h2 => le_ (hs h2 (F + 2) (x1).toNatClampNeg (nI 0)) fun h3 => le_ (hs h3 (F + 3) (x1).toNatClampNeg (nI 0)) fun h4 => le_ (hs h4 (F + 4) (x1).toNatClampNeg (vp_nar .boolean (nI 0))) fun h5 => le_ (hs h5 (F + 5) (x1).toNatClampNeg (vp_nar .boolean (nI 0))) fun h6 => K2 ((x1 + (nI 1)), h6))
def p_X1_clear (F : Nat) (h : kH) : Option (kH) :=
  fx (fun K2 s => p_X1_clear_2 K2 F s.1 s.2) FU ((nI 0), h)
def p_X1_copyCell (F : Nat) (F2 : Nat) (x1 : Int32) (x3 : Int32) (h : kH) : Option (kH) :=
  gd (inb x3 30) (gd (inb x1 30) (le_ (hs h (F + 1) (x1).toNatClampNeg (h (F2 + 1) (x3).toNatClampNeg)) fun h3 => le_ (hs h3 (F + 2) (x1).toNatClampNeg (h3 (F2 + 2) (x3).toNatClampNeg)) fun h4 => le_ (hs h4 (F + 3) (x1).toNatClampNeg (h4 (F2 + 3) (x3).toNatClampNeg)) fun h5 => le_ (hs h5 (F + 4) (x1).toNatClampNeg (vp_nar .boolean (h5 (F2 + 4) (x3).toNatClampNeg))) fun h6 => le_ (hs h6 (F + 5) (x1).toNatClampNeg (vp_nar .boolean (h6 (F2 + 5) (x3).toNatClampNeg))) fun h7 => some h7))
def p_X1_copyFrom_2 (K2 : Int32 × kH → Option (kH)) (F : Nat) (F2 : Nat) (x2 : Int32) (h : kH) : Option (kH) :=
  if (nI 30) ≤ x2 then some h else bd (p_X1_copyCell F F2 x2 x2 h) fun h1 => K2 ((x2 + (nI 1)), h1)
def p_X1_copyFrom (F : Nat) (F2 : Nat) (h : kH) : Option (kH) :=
  fx (fun K2 s => p_X1_copyFrom_2 K2 F F2 s.1 s.2) FU ((nI 0), h)
def p_X5_cells (R : Nat) (h : kH) : Option (Int32 × kH) :=
  some (((h R 0) * (h R 1)), h)
def p_X1_burnFuel_2 (K2 : Int32 × kH → Option (kH)) (F : Nat) (R : Nat) (x2 : Int32) (h : kH) : Option (kH) :=
  bd2 (p_X5_cells R h) fun v3 h1 => if v3 ≤ x2 then some h1 else gd (inb x2 30) (if (h1 (F + 4) (x2).toNatClampNeg) = 0 then K2 ((x2 + (nI 1)), h1) else gd (inb (h1 (F + 3) (x2).toNatClampNeg) 3) (le_ (if (h1 (R + 1) ((h1 (F + 3) (x2).toNatClampNeg)).toNatClampNeg) < (h1 (F + 2) (x2).toNatClampNeg) then (h1 (R + 1) ((h1 (F + 3) (x2).toNatClampNeg)).toNatClampNeg) else (h1 (F + 2) (x2).toNatClampNeg)) fun v6 => le_ (hs h1 (F + 2) (x2).toNatClampNeg ((h1 (F + 2) (x2).toNatClampNeg) - v6)) fun h7 => gd (inb (h7 (F + 3) (x2).toNatClampNeg) 3) (le_ (hs h7 (F + 1) (x2).toNatClampNeg ((h7 (F + 1) (x2).toNatClampNeg) + (v6 * (h7 (R + 2) ((h7 (F + 3) (x2).toNatClampNeg)).toNatClampNeg)))) fun h9 => K2 ((x2 + (nI 1)), h9))))
def p_X1_burnFuel (F : Nat) (R : Nat) (h : kH) : Option (kH) :=
  fx (fun K2 s => p_X1_burnFuel_2 K2 F R s.1 s.2) FU ((nI 0), h)
def p_J7_fill_53178_5 (K5 : Int32 × Int32 × Int32 × kH → Option (kH)) (A : Nat) (x1 : Int32) (x2 : Int32) (x3 : Int32) (h : kH) : Option (kH) :=
  if x3 ≤ x2 then some h else gd (inb x2 30) (le_ (hs h A (x2).toNatClampNeg x1) fun h2 => K5 (x1, (x2 + (nI 1)), x3, h2))
def p_J7_fill_53178 (A : Nat) (x1 : Int32) (h : kH) : Option (kH) :=
  fx (fun K5 s => p_J7_fill_53178_5 K5 A s.1 s.2.1 s.2.2.1 s.2.2.2) FU (x1, (nI 0), (nI 30), h)
def p_X1_flow (F : Nat) (x1 : Int32) (x2 : Int32) (h : kH) : Option (kH) :=
  gd (inb x1 30) (gd (inb x2 30) (le_ (((h (F + 1) (x1).toNatClampNeg) - (h (F + 1) (x2).toNatClampNeg)) / (nI 10)) fun v3 => le_ (hs h (F + 6) (x1).toNatClampNeg ((h (F + 6) (x1).toNatClampNeg) - v3)) fun h4 => le_ (hs h4 (F + 6) (x2).toNatClampNeg ((h4 (F + 6) (x2).toNatClampNeg) + v3)) fun h5 => some h5))
def p_X1_spread_95 (K95 : Int32 × kH → Option (kH)) (F : Nat) (R : Nat) (x2 : Int32) (h : kH) : Option (kH) :=
  bd2 (p_X5_cells R h) fun v5 h3 => if v5 ≤ x2 then some h3 else gd (inb x2 30) (le_ (hs h3 (F + 1) (x2).toNatClampNeg ((h3 (F + 1) (x2).toNatClampNeg) + (h3 (F + 6) (x2).toNatClampNeg))) fun h7 => K95 ((x2 + (nI 1)), h7))
def p_X1_spread_58 (K10 : Int32 × kH → Option (kH)) (K20 : Int32 × Int32 × kH → Option (kH)) (F : Nat) (R : Nat) (x2 : Int32) (x3 : Int32) (x4 : Int32) (h : kH) : Option (kH) :=
  if (h R 1) ≤ (x2 + (nI 1)) then K20 (x2, (x3 + (nI 1)), h) else bd (p_X1_flow F x4 (x4 + (h R 0)) h) fun h9 => K20 (x2, (x3 + (nI 1)), h9)
def p_X1_spread_20 (K10 : Int32 × kH → Option (kH)) (K20 : Int32 × Int32 × kH → Option (kH)) (F : Nat) (R : Nat) (x2 : Int32) (x3 : Int32) (h : kH) : Option (kH) :=
  if (h R 0) ≤ x3 then K10 ((x2 + (nI 1)), h) else le_ (x3 + ((h R 0) * x2)) fun v8 => if (h R 0) ≤ (x3 + (nI 1)) then p_X1_spread_58 K10 K20 F R x2 x3 v8 h else bd (p_X1_flow F v8 (v8 + (nI 1)) h) fun h11 => p_X1_spread_58 K10 K20 F R x2 x3 v8 h11
def p_X1_spread_10 (K10 : Int32 × kH → Option (kH)) (F : Nat) (R : Nat) (x2 : Int32) (h : kH) : Option (kH) :=
  if (h R 1) ≤ x2 then fx (fun K95 s => p_X1_spread_95 K95 F R s.1 s.2) FU ((nI 0), h) else fx (fun K20 s => p_X1_spread_20 K10 K20 F R s.1 s.2.1 s.2.2) FU (x2, (nI 0), h)
def p_X1_spread (F : Nat) (R : Nat) (h : kH) : Option (kH) :=
  bd (p_J7_fill_53178 (F + 6) (nI 0) h) fun h1 => fx (fun K10 s => p_X1_spread_10 K10 F R s.1 s.2) FU ((nI 0), h1)
def p_X1_cool_46 (K2 : Int32 × Int32 × kH → Option (kH)) (F : Nat) (R : Nat) (x2 : Int32) (x3 : Int32) (x4 : Int32) (h : kH) : Option (kH) :=
  gd (inb x3 30) (le_ (hs h (F + 1) (x3).toNatClampNeg (if ((h (F + 1) (x3).toNatClampNeg) - x4) < (nI 3000) then ((h (F + 1) (x3).toNatClampNeg) - x4) else (nI 3000))) fun h7 => if (h7 (F + 1) (x3).toNatClampNeg) < (nI 200) then K2 (x2, (x3 + (nI 1)), h7) else le_ (hs h7 (F + 4) (x3).toNatClampNeg (vp_nar .boolean (nI 1))) fun h8 => K2 (x2, (x3 + (nI 1)), h8))
def p_X1_cool_2 (K2 : Int32 × Int32 × kH → Option (kH)) (F : Nat) (R : Nat) (x2 : Int32) (x3 : Int32) (h : kH) : Option (kH) :=
  bd2 (p_X5_cells R h) fun v3 h1 => if v3 ≤ x3 then some h1 else gd (inb x3 30) (le_ ((((h1 (F + 1) (x3).toNatClampNeg) - (nI 20)) * ((h1 R 4) + x2)) / (nI 100)) fun v5 => if (h1 (F + 5) (x3).toNatClampNeg) = 0 then p_X1_cool_46 K2 F R x2 x3 v5 h1 else le_ (v5 / (nI 2)) fun v9 => p_X1_cool_46 K2 F R x2 x3 v9 h1)
def p_X1_cool (F : Nat) (R : Nat) (x2 : Int32) (h : kH) : Option (kH) :=
  fx (fun K2 s => p_X1_cool_2 K2 F R s.1 s.2.1 s.2.2) FU (x2, (nI 0), h)
def p_X1_burn (F : Nat) (R : Nat) (x2 : Int32) (h : kH) : Option (kH) :=
  bd (p_X1_burnFuel F R h) fun h1 => bd (p_X1_spread F R h1) fun h3 => bd (p_X1_cool F R x2 h3) fun h5 => some h5
def p_X1_tell_40 (K2 : Int32 × Int32 × kH → Option (kH)) (F : Nat) (x2 : Int32) (x3 : Int32) (s0 : Int32) (s1 : Int32) (s2 : Int32) (s3 : Int32) (h : kH) : Option (kH) :=
  bd (p_X0_put s3 s2 s1 s0 h) fun h2 => K2 (x2, (x3 + (nI 1)), h2)
def p_X1_tell_35 (K2 : Int32 × Int32 × kH → Option (kH)) (F : Nat) (x2 : Int32) (x3 : Int32) (s0 : Int32) (s1 : Int32) (s2 : Int32) (h : kH) : Option (kH) :=
  p_X1_tell_40 K2 F x2 x3 (nI 1) s0 s1 s2 h
def p_X1_tell_2 (K2 : Int32 × Int32 × kH → Option (kH)) (F : Nat) (x2 : Int32) (x3 : Int32) (h : kH) : Option (kH) :=
  if (nI 30) ≤ x3 then some h else gd (inb x3 30) (if (h (F + 5) (x3).toNatClampNeg) = 0 then if (h (F + 2) (x3).toNatClampNeg) ≤ 0 then p_X1_tell_40 K2 F x2 x3 (nI 0) (h (F + 1) (x3).toNatClampNeg) x3 x2 h else p_X1_tell_35 K2 F x2 x3 (h (F + 1) (x3).toNatClampNeg) x3 x2 h else p_X1_tell_35 K2 F x2 x3 (h (F + 1) (x3).toNatClampNeg) x3 x2 h)
def p_X1_tell (F : Nat) (x2 : Int32) (h : kH) : Option (kH) :=
  fx (fun K2 s => p_X1_tell_2 K2 F s.1 s.2.1 s.2.2) FU (x2, (nI 0), h)
def p_X1_shareFuel_2 (K2 : Int32 × Int32 × kH → Option (kH)) (F : Nat) (x1 : Int32) (x2 : Int32) (h : kH) : Option (kH) :=
  if (nI 30) ≤ x2 then some h else gd (inb x2 30) (le_ (hs h (F + 2) (x2).toNatClampNeg (((h (F + 2) (x2).toNatClampNeg) * x1) / (nI 100))) fun h2 => K2 (x1, (x2 + (nI 1)), h2))
def p_X1_shareFuel (F : Nat) (x1 : Int32) (h : kH) : Option (kH) :=
  fx (fun K2 s => p_X1_shareFuel_2 K2 F s.1 s.2.1 s.2.2) FU (x1, (nI 0), h)
def p_X1_rakeOff_10 (K10 : Int32 × kH → Option (kH)) (F : Nat) (x1 : Int32) (h : kH) : Option (kH) :=
  if (nI 30) ≤ x1 then some h else gd (inb x1 30) (le_ (hs h (F + 5) (x1).toNatClampNeg (vp_nar .boolean (nI 0))) fun h4 => K10 ((x1 + (nI 1)), h4))
def p_X1_rakeOff (F : Nat) (h : kH) : Option (kH) :=
  bd (p_J7_fill_53178 (F + 2) (nI 0) h) fun h1 => fx (fun K10 s => p_X1_rakeOff_10 K10 F s.1 s.2) FU ((nI 0), h1)
def p_X1_coverAll_2 (K2 : Int32 × kH → Option (kH)) (F : Nat) (x1 : Int32) (h : kH) : Option (kH) :=
  if (nI 30) ≤ x1 then some h else gd (inb x1 30) (le_ (hs h (F + 5) (x1).toNatClampNeg (vp_nar .boolean (nI 1))) fun h2 => K2 ((x1 + (nI 1)), h2))
def p_X1_coverAll (F : Nat) (h : kH) : Option (kH) :=
  fx (fun K2 s => p_X1_coverAll_2 K2 F s.1 s.2) FU ((nI 0), h)
def p_X4_copyFrom_10 (K10 : Int32 × kH → Option (kH)) (P : Nat) (P2 : Nat) (x2 : Int32) (h : kH) : Option (kH) :=
  if (nI 6) ≤ x2 then some h else gd (inb x2 6) (le_ (hs h (P + 1) (x2).toNatClampNeg (h (P2 + 1) (x2).toNatClampNeg)) fun h3 => le_ (hs h3 (P + 2) (x2).toNatClampNeg (h3 (P2 + 2) (x2).toNatClampNeg)) fun h4 => le_ (hs h4 (P + 3) (x2).toNatClampNeg (h4 (P2 + 3) (x2).toNatClampNeg)) fun h5 => le_ (hs h5 (P + 4) (x2).toNatClampNeg (h5 (P2 + 4) (x2).toNatClampNeg)) fun h6 => le_ (hs h6 (P + 5) (x2).toNatClampNeg (h6 (P2 + 5) (x2).toNatClampNeg)) fun h7 => le_ (hs h7 (P + 6) (x2).toNatClampNeg (h7 (P2 + 6) (x2).toNatClampNeg)) fun h8 => le_ (hs h8 (P + 7) (x2).toNatClampNeg (h8 (P2 + 7) (x2).toNatClampNeg)) fun h9 => le_ (hs h9 (P + 8) (x2).toNatClampNeg (h9 (P2 + 8) (x2).toNatClampNeg)) fun h10 => le_ (hs h10 (P + 9) (x2).toNatClampNeg (h10 (P2 + 9) (x2).toNatClampNeg)) fun h11 => le_ (hs h11 (P + 10) (x2).toNatClampNeg (vp_nar .boolean (h11 (P2 + 10) (x2).toNatClampNeg))) fun h12 => K10 ((x2 + (nI 1)), h12))
def p_X4_copyFrom (P : Nat) (P2 : Nat) (h : kH) : Option (kH) :=
  le_ (hs h P 0 (h P2 0)) fun h1 => fx (fun K10 s => p_X4_copyFrom_10 K10 P P2 s.1 s.2) FU ((nI 0), h1)
def p_X2_copyFrom (H : Nat) (H2 : Nat) (h : kH) : Option (kH) :=
  bd (p_X1_copyFrom (H + 1) (H2 + 1) h) fun h1 => bd (p_X4_copyFrom (H + 8) (H2 + 8) h1) fun h3 => le_ (hs h3 H 2 (h3 H2 2)) fun h5 => some h5
def p_X4_isBursting (P : Nat) (x1 : Int32) (h : kH) : Option (Int32 × kH) :=
  gd (inb x1 6) (le_ ((nI 10) * ((h (P + 4) (x1).toNatClampNeg) + (nI 1))) fun v2 => if v2 < (nI 1) then some ((nI 0), h) else if (nI 100) < (h (P + 6) (x1).toNatClampNeg) then gd (decide (¬ v2 = 0)) (if (((h (P + 3) (x1).toNatClampNeg) * ((h (P + 6) (x1).toNatClampNeg) - (nI 100))) / v2) ≤ (h (P + 5) (x1).toNatClampNeg) then some ((nI 0), h) else some ((nI 1), h)) else some ((nI 0), h))
def p_X4_loseWater (P : Nat) (x1 : Int32) (x2 : Int32) (h : kH) : Option (kH) :=
  gd (inb x1 6) (le_ (hs h (P + 3) (x1).toNatClampNeg ((h (P + 3) (x1).toNatClampNeg) - (if x2 < (h (P + 3) (x1).toNatClampNeg) then x2 else (h (P + 3) (x1).toNatClampNeg)))) fun h2 => some h2)
def p_X4_steamAndHarden_37 (P : Nat) (R : Nat) (x1 : Int32) (h : kH) : Option (kH) :=
  gd (inb x1 6) (if (h (P + 6) (x1).toNatClampNeg) < ((nI 10) * (h R 5)) then some h else le_ (hs h (P + 7) (x1).toNatClampNeg ((h (P + 7) (x1).toNatClampNeg) + (nI 1))) fun h3 => some h3)
def p_X4_steamAndHarden (P : Nat) (R : Nat) (x1 : Int32) (h : kH) : Option (kH) :=
  gd (inb x1 6) (if (h (P + 6) (x1).toNatClampNeg) ≤ (nI 60) then p_X4_steamAndHarden_37 P R x1 h else bd (p_X4_loseWater P x1 ((((h (P + 4) (x1).toNatClampNeg) + (nI 1)) * ((h (P + 6) (x1).toNatClampNeg) - (nI 60))) / (nI 100)) h) fun h4 => p_X4_steamAndHarden_37 P R x1 h4)
def p_X4_warm_126 (P : Nat) (R : Nat) (x1 : Int32) (h : kH) : Option (kH) :=
  bd (p_X4_steamAndHarden P R x1 h) fun h9 => some h9
def p_X4_warm_78 (P : Nat) (R : Nat) (x1 : Int32) (x5 : Int32) (h : kH) : Option (kH) :=
  bd2 (p_X4_isBursting P x1 h) fun v8 h6 => if v8 = 0 then if (-x5) ≤ (h6 R 7) then p_X4_warm_126 P R x1 h6 else gd (inb x1 6) (if (h6 (P + 7) (x1).toNatClampNeg) < (nI 1) then p_X4_warm_126 P R x1 h6 else le_ (hs h6 (P + 8) (x1).toNatClampNeg (nI 4)) fun h12 => some h12) else gd (inb x1 6) (le_ (hs h6 (P + 8) (x1).toNatClampNeg (nI 1)) fun h14 => some h14)
def p_X4_warm_31 (P : Nat) (R : Nat) (x1 : Int32) (s0 : Int32) (h : kH) : Option (kH) :=
  gd (inb x1 6) (le_ (hs h (P + 6) (x1).toNatClampNeg ((h (P + 6) (x1).toNatClampNeg) + s0)) fun h5 => if s0 ≤ 0 then p_X4_warm_78 P R x1 s0 h5 else if (s0 * (h5 (P + 2) (x1).toNatClampNeg)) ≤ ((nI 10) * (h5 R 8)) then p_X4_warm_78 P R x1 s0 h5 else le_ (hs h5 (P + 8) (x1).toNatClampNeg (nI 3)) fun h15 => some h15)
def p_X4_warm (P : Nat) (R : Nat) (x1 : Int32) (x3 : Int32) (h : kH) : Option (kH) :=
  gd (inb x1 6) (le_ ((h (P + 2) (x1).toNatClampNeg) + (nI 1)) fun v2 => if (nI 1) ≤ v2 then gd (decide (¬ v2 = 0)) (p_X4_warm_31 P R x1 ((x3 - (h (P + 6) (x1).toNatClampNeg)) / v2) h) else p_X4_warm_31 P R x1 (nI 0) h)
def p_X5_areBeside (R : Nat) (x1 : Int32) (x2 : Int32) (h : kH) : Option (Int32 × kH) :=
  if (nI 1) ≤ (h R 0) then gd (decide (¬ (h R 0) = 0)) (gd (decide (¬ (h R 0) = 0)) (le_ ((krem x1 (h R 0)) - (krem x2 (h R 0))) fun v3 => gd (decide (¬ (h R 0) = 0)) (gd (decide (¬ (h R 0) = 0)) (le_ ((x1 / (h R 0)) - (x2 / (h R 0))) fun v6 => if v3 < (-1 : Int32) then some ((nI 0), h) else if (nI 1) < v3 then some ((nI 0), h) else if v6 < (-1 : Int32) then some ((nI 0), h) else if (nI 1) < v6 then some ((nI 0), h) else some ((nI 1), h))))) else some ((nI 0), h)
def p_X4_isBesideBurst_2 (K2 : Int32 × Int32 × kH → Option (Int32 × kH)) (P : Nat) (R : Nat) (x1 : Int32) (x3 : Int32) (h : kH) : Option (Int32 × kH) :=
  if (h P 0) ≤ x3 then some ((nI 0), h) else gd (inb x3 6) (if (h (P + 11) (x3).toNatClampNeg) = 0 then K2 (x1, (x3 + (nI 1)), h) else gd (inb x1 6) (bd2 (p_X5_areBeside R (h (P + 1) (x1).toNatClampNeg) (h (P + 1) (x3).toNatClampNeg) h) fun v5 h3 => if v5 = 0 then K2 (x1, (x3 + (nI 1)), h3) else some ((nI 1), h3)))
def p_X4_isBesideBurst (P : Nat) (R : Nat) (x1 : Int32) (h : kH) : Option (Int32 × kH) :=
  fx (fun K2 s => p_X4_isBesideBurst_2 K2 P R s.1 s.2.1 s.2.2) FU (x1, (nI 0), h)
def p_X4_strike_37 (K2 : Int32 × kH → Option (kH)) (P : Nat) (R : Nat) (x2 : Int32) (s0 : Int32) (h : kH) : Option (kH) :=
  if s0 = 0 then K2 ((x2 + (nI 1)), h) else bd2 (p_X4_isBesideBurst P R x2 h) fun v4 h2 => if v4 = 0 then K2 ((x2 + (nI 1)), h2) else gd (inb x2 6) (le_ (hs h2 (P + 8) (x2).toNatClampNeg (nI 2)) fun h6 => K2 ((x2 + (nI 1)), h6))
def p_X4_strike_36 (K2 : Int32 × kH → Option (kH)) (P : Nat) (R : Nat) (x2 : Int32) (h : kH) : Option (kH) :=
  p_X4_strike_37 K2 P R x2 (nI 0) h
def p_X4_strike_2 (K2 : Int32 × kH → Option (kH)) (P : Nat) (R : Nat) (x2 : Int32) (h : kH) : Option (kH) :=
  if (h P 0) ≤ x2 then some h else gd (inb x2 6) (if (h (P + 8) (x2).toNatClampNeg) = 0 then if (h R 6) ≤ (h (P + 7) (x2).toNatClampNeg) then p_X4_strike_36 K2 P R x2 h else p_X4_strike_37 K2 P R x2 (nI 1) h else p_X4_strike_36 K2 P R x2 h)
def p_X4_strike (P : Nat) (R : Nat) (h : kH) : Option (kH) :=
  fx (fun K2 s => p_X4_strike_2 K2 P R s.1 s.2) FU ((nI 0), h)
def p_X4_takeColour_54 (P : Nat) (s0 : Int32) (s1 : Int32) (h : kH) : Option (kH) :=
  gd (inb s1 6) (le_ (hs h (P + 9) (s1).toNatClampNeg s0) fun h3 => some h3)
def p_X4_takeColour (P : Nat) (x1 : Int32) (x2 : Int32) (h : kH) : Option (kH) :=
  gd (inb x1 6) (if (h (P + 6) (x1).toNatClampNeg) < (nI 500) then if (h (P + 10) (x1).toNatClampNeg) = 0 then some h else if (h (P + 9) (x1).toNatClampNeg) = 0 then if x2 = 0 then p_X4_takeColour_54 P (nI 1) x1 h else p_X4_takeColour_54 P (nI 2) x1 h else some h else le_ (hs h (P + 10) (x1).toNatClampNeg (vp_nar .boolean (nI 1))) fun h4 => some h4)
def p_X4_feel_110 (K110 : Int32 × Int32 × Int32 × kH → Option (Int32 × kH)) (P : Nat) (R : Nat) (x3 : Int32) (x4 : Int32) (x5 : Int32) (h : kH) : Option (Int32 × kH) :=
  if (h P 0) ≤ x5 then gd (decide (x4 &&& 1 = x4)) (some (x4, h)) else gd (inb x5 6) (if (h (P + 8) (x5).toNatClampNeg) = 0 then bd2 (p_X0_blackensAt x3 (h (P + 1) (x5).toNatClampNeg) h) fun v5 h3 => bd (p_X4_takeColour P x5 v5 h3) fun h6 => K110 (x3, x4, (x5 + (nI 1)), h6) else K110 (x3, x4, (x5 + (nI 1)), h))
def p_X4_feel_107 (P : Nat) (R : Nat) (x3 : Int32) (x4 : Int32) (h : kH) : Option (Int32 × kH) :=
  fx (fun K110 s => p_X4_feel_110 K110 P R s.1 s.2.1 s.2.2.1 s.2.2.2) FU (x3, x4, (nI 0), h)
def p_X4_feel_77 (K6 : Int32 × Int32 × Int32 × kH → Option (Int32 × kH)) (P : Nat) (R : Nat) (x3 : Int32) (x4 : Int32) (x5 : Int32) (s0 : Int32) (s1 : Int32) (h : kH) : Option (Int32 × kH) :=
  gd (inb s1 6) (le_ (hs h (P + 11) (s1).toNatClampNeg (vp_nar .boolean s0)) fun h18 => gd (inb x5 6) (if (h18 (P + 11) (x5).toNatClampNeg) = 0 then K6 (x3, x4, (x5 + (nI 1)), h18) else K6 (x3, (nI 1), (x5 + (nI 1)), h18)))
def p_X4_feel_6 (K6 : Int32 × Int32 × Int32 × kH → Option (Int32 × kH)) (P : Nat) (R : Nat) (x3 : Int32) (x4 : Int32) (x5 : Int32) (h : kH) : Option (Int32 × kH) :=
  if (h P 0) ≤ x5 then if x4 = 0 then p_X4_feel_107 P R x3 x4 h else bd (p_X4_strike P R h) fun h8 => p_X4_feel_107 P R x3 x4 h8 else gd (inb x5 6) (le_ (hs h (P + 11) (x5).toNatClampNeg (vp_nar .boolean (nI 0))) fun h11 => if (h11 (P + 8) (x5).toNatClampNeg) = 0 then bd2 (p_X0_heatAt x3 (h11 (P + 1) (x5).toNatClampNeg) h11) fun v14 h12 => bd (p_X4_warm P R x5 v14 h12) fun h15 => if (h15 (P + 8) (x5).toNatClampNeg) = (nI 1) then p_X4_feel_77 K6 P R x3 x4 x5 (nI 1) x5 h15 else p_X4_feel_77 K6 P R x3 x4 x5 (nI 0) x5 h15 else K6 (x3, x4, (x5 + (nI 1)), h11))
def p_X4_feel (P : Nat) (R : Nat) (x3 : Int32) (h : kH) : Option (Int32 × kH) :=
  fx (fun K6 s => p_X4_feel_6 K6 P R s.1 s.2.1 s.2.2.1 s.2.2.2) FU (x3, (nI 0), (nI 0), h)
def p_X2_pass (H : Nat) (R : Nat) (x2 : Int32) (h : kH) : Option (kH) :=
  bd (p_X1_burn (H + 1) R x2 h) fun h1 => bd (p_X1_tell (H + 1) (nI 0) h1) fun h3 => bd2 (p_X4_feel (H + 8) R (nI 0) h3) fun v7 h5 => le_ (hs h5 H 2 ((h5 H 2) + (nI 1))) fun h8 => some h8
def p_X5_setKind (R : Nat) (x1 : Int32) (x2 : Int32) (x3 : Int32) (h : kH) : Option (kH) :=
  gd (inb x1 3) (le_ (hs h (R + 1) (x1).toNatClampNeg x2) fun h2 => le_ (hs h2 (R + 2) (x1).toNatClampNeg x3) fun h3 => some h3)
def p_X5_setDefaults (R : Nat) (h : kH) : Option (kH) :=
  le_ (hs h R 0 (nI 4)) fun h1 => le_ (hs h1 R 1 (nI 3)) fun h2 => bd (p_X5_setKind R (nI 0) (nI 6) (nI 20) h2) fun h3 => bd (p_X5_setKind R (nI 1) (nI 2) (nI 40) h3) fun h5 => bd (p_X5_setKind R (nI 2) (nI 15) (nI 8) h5) fun h7 => le_ (hs h7 R 4 (nI 8)) fun h9 => le_ (hs h9 R 5 (nI 75)) fun h10 => le_ (hs h10 R 6 (nI 10)) fun h11 => le_ (hs h11 R 7 (nI 60)) fun h12 => le_ (hs h12 R 8 (nI 90)) fun h13 => le_ (hs h13 R 9 (nI 0)) fun h14 => some h14
def p_X3_forget (h : kH) : Option (kH) :=
  bd (p_X5_setDefaults 3 h) fun h1 => bd (p_X1_clear 6 h1) fun h3 => le_ (hs h3 13 0 (nI 0)) fun h5 => some h5
def p_X3_boundsOf (x0 : Int32) (h : kH) : Option (Nat × kH) :=
  if x0 = (nI 99) then some (1, h) else if x0 = (nI 100) then some (7, h) else if x0 = (nI 104) then some (6, h) else if x0 = (nI 107) then some (4, h) else if x0 = (nI 108) then some (5, h) else if x0 = (nI 111) then some (2, h) else if x0 = (nI 112) then some (3, h) else if x0 = (nI 115) then some (2, h) else if x0 = (nI 118) then some (8, h) else if x0 = (nI 119) then some (0, h) else some (9, h)
def p_X3_countFigures_5 (K5 : Int32 × Int32 × Int32 × kH → Option (Int32 × kH)) (A : Nat) (x2 : Int32) (x3 : Int32) (x4 : Int32) (h : kH) : Option (Int32 × kH) :=
  if x2 ≤ x4 then some (x3, h) else gd (inb x4 500) (if (h A (x4).toNatClampNeg) < (nI 48) then some (x3, h) else if (h A (x4).toNatClampNeg) ≤ (nI 57) then K5 (x2, (x3 + (nI 1)), (x4 + (nI 1)), h) else some (x3, h))
def p_X3_countFigures (A : Nat) (x1 : Int32) (x2 : Int32) (h : kH) : Option (Int32 × kH) :=
  fx (fun K5 s => p_X3_countFigures_5 K5 A s.1 s.2.1 s.2.2.1 s.2.2.2) FU (x2, (nI 0), x1, h)
def p_X3_numberOf_5 (K5 : Int32 × Int32 × Int32 × kH → Option (Int32 × kH)) (A : Nat) (x2 : Int32) (x3 : Int32) (x4 : Int32) (h : kH) : Option (Int32 × kH) :=
  if x2 ≤ x4 then some (x3, h) else gd (inb x4 500) (le_ (((nI 10) * x3) + ((h A (x4).toNatClampNeg) - (nI 48))) fun v2 => K5 (x2, v2, (x4 + (nI 1)), h))
def p_X3_numberOf (A : Nat) (x1 : Int32) (x2 : Int32) (h : kH) : Option (Int32 × kH) :=
  fx (fun K5 s => p_X3_numberOf_5 K5 A s.1 s.2.1 s.2.2.1 s.2.2.2) FU (x2, (nI 0), x1, h)
def p_X3_readNumbers_142 (K39 : Int32 × Nat × Int32 × Int32 × Int32 × kH → Option (Int32 × kH)) (A : Nat) (x3 : Int32) (j4 : Nat) (x5 : Int32) (x7 : Int32) (x9 : Int32) (x10 : Int32) (s0 : Int32) (s1 : Int32) (h : kH) : Option (Int32 × kH) :=
  if s1 = s0 then gd (inb x7 6) (le_ (hs h 27 (x7).toNatClampNeg x10) fun h19 => K39 (x3, j4, x5, (x9 + (nI 1)), (x7 + (nI 1)), h19)) else some ((-4 : Int32), h)
def p_X3_readNumbers_39 (K39 : Int32 × Nat × Int32 × Int32 × Int32 × kH → Option (Int32 × kH)) (A : Nat) (x3 : Int32) (j4 : Nat) (x5 : Int32) (x6 : Int32) (x7 : Int32) (h : kH) : Option (Int32 × kH) :=
  if x5 ≤ x7 then some (x6, h) else bd2 (p_X3_countFigures A x6 x3 h) fun v9 h7 => le_ (x6 + v9) fun v10 => if v9 < (nI 1) then some ((-4 : Int32), h7) else if (nI 3) < v9 then some ((-4 : Int32), h7) else if v10 < x3 then bd2 (p_X3_numberOf A x6 v10 h7) fun v13 h11 => gd (inb ((nI 2) * x7) (k_sl j4).length) (gd (decide (j4 < 10)) (if v13 < ((k_sl j4).getD (((nI 2) * x7)).toNatClampNeg 0) then some ((-4 : Int32), h11) else gd (inb (((nI 2) * x7) + (nI 1)) (k_sl j4).length) (if v13 ≤ ((k_sl j4).getD ((((nI 2) * x7) + (nI 1))).toNatClampNeg 0) then gd (inb v10 500) (if x5 ≤ (x7 + (nI 1)) then p_X3_readNumbers_142 K39 A x3 j4 x5 x7 v10 v13 (nI 59) (h11 A (v10).toNatClampNeg) h11 else p_X3_readNumbers_142 K39 A x3 j4 x5 x7 v10 v13 (nI 44) (h11 A (v10).toNatClampNeg) h11) else some ((-4 : Int32), h11)))) else some ((-4 : Int32), h7)
def p_X3_readNumbers (A : Nat) (x2 : Int32) (x3 : Int32) (h : kH) : Option (Int32 × kH) :=
  gd (inb x2 500) (bd2 (p_X3_boundsOf (h A (x2).toNatClampNeg) h) fun n4 h2 => gd (decide (n4 < 10)) (le_ ((Int32.ofNat (k_sl n4).length) / (nI 2)) fun v6 => if v6 < (nI 1) then some ((-4 : Int32), h2) else if v6 ≤ (nI 6) then fx (fun K39 s => p_X3_readNumbers_39 K39 A s.1 s.2.1 s.2.2.1 s.2.2.2.1 s.2.2.2.2.1 s.2.2.2.2.2) FU (x3, n4, v6, (x2 + (nI 1)), (nI 0), h2) else some ((-4 : Int32), h2)))
def p_X3_takeCell (h : kH) : Option (kH) :=
  gd (inb (nI 0) 6) (gd (inb (nI 1) 6) (le_ ((h 27 ((nI 0)).toNatClampNeg) + ((nI 6) * (h 27 ((nI 1)).toNatClampNeg))) fun v3 => gd (inb (nI 2) 6) (gd (inb v3 30) (le_ (hs h 9 (v3).toNatClampNeg (h 27 ((nI 2)).toNatClampNeg)) fun h6 => gd (inb (nI 3) 6) (le_ (hs h6 8 (v3).toNatClampNeg (h6 27 ((nI 3)).toNatClampNeg)) fun h8 => some h8)))))
def p_X4_add (P : Nat) (A : Nat) (h : kH) : Option (kH) :=
  if (nI 6) ≤ (h P 0) then some h else if (nI 6) ≤ (nI 6) then le_ (h P 0) fun v1 => gd (inb v1 6) (le_ (hs h (P + 1) (v1).toNatClampNeg (nI 0)) fun h3 => gd (inb (nI 2) 6) (le_ (hs h3 (P + 2) (v1).toNatClampNeg (h3 A ((nI 2)).toNatClampNeg)) fun h5 => gd (inb (nI 3) 6) (le_ (hs h5 (P + 3) (v1).toNatClampNeg (h5 A ((nI 3)).toNatClampNeg)) fun h7 => gd (inb (nI 4) 6) (le_ (hs h7 (P + 4) (v1).toNatClampNeg (h7 A ((nI 4)).toNatClampNeg)) fun h9 => gd (inb (nI 5) 6) (le_ (hs h9 (P + 5) (v1).toNatClampNeg (h9 A ((nI 5)).toNatClampNeg)) fun h11 => le_ (hs h11 (P + 6) (v1).toNatClampNeg (nI 20)) fun h12 => le_ (hs h12 (P + 7) (v1).toNatClampNeg (nI 0)) fun h13 => le_ (hs h13 (P + 8) (v1).toNatClampNeg (nI 0)) fun h14 => le_ (hs h14 (P + 9) (v1).toNatClampNeg (nI 0)) fun h15 => le_ (hs h15 (P + 10) (v1).toNatClampNeg (vp_nar .boolean (nI 0))) fun h16 => le_ (hs h16 P 0 ((h16 P 0) + (nI 1))) fun h17 => some h17))))) else some h
def p_X3_takePot (h : kH) : Option (Int32 × kH) :=
  if (h 13 0) < (nI 6) then gd (inb (nI 0) 6) (gd (inb (h 13 0) 6) (le_ (hs h 25 ((h 13 0)).toNatClampNeg (h 27 ((nI 0)).toNatClampNeg)) fun h3 => gd (inb (nI 1) 6) (gd (inb (h3 13 0) 6) (le_ (hs h3 26 ((h3 13 0)).toNatClampNeg (h3 27 ((nI 1)).toNatClampNeg)) fun h6 => bd (p_X4_add 13 27 h6) fun h7 => some ((nI 1), h7))))) else some ((nI 0), h)
def p_X3_takeItem (x1 : Int32) (h : kH) : Option (Int32 × kH) :=
  if x1 = (nI 99) then bd (p_X3_takeCell h) fun h1 => some ((nI 1), h1) else if x1 = (nI 100) then gd (inb (nI 0) 6) (le_ (hs h 3 7 (h 27 ((nI 0)).toNatClampNeg)) fun h5 => gd (inb (nI 1) 6) (le_ (hs h5 3 8 (h5 27 ((nI 1)).toNatClampNeg)) fun h7 => some ((nI 1), h7))) else if x1 = (nI 104) then gd (inb (nI 0) 6) (le_ (hs h 3 5 (h 27 ((nI 0)).toNatClampNeg)) fun h10 => gd (inb (nI 1) 6) (le_ (hs h10 3 6 (h10 27 ((nI 1)).toNatClampNeg)) fun h12 => some ((nI 1), h12))) else if x1 = (nI 107) then gd (inb (nI 0) 6) (gd (inb (nI 1) 6) (gd (inb (nI 2) 6) (bd (p_X5_setKind 3 (h 27 ((nI 0)).toNatClampNeg) (h 27 ((nI 1)).toNatClampNeg) (h 27 ((nI 2)).toNatClampNeg) h) fun h17 => some ((nI 1), h17)))) else if x1 = (nI 108) then gd (inb (nI 0) 6) (le_ (hs h 3 4 (h 27 ((nI 0)).toNatClampNeg)) fun h21 => some ((nI 1), h21)) else if x1 = (nI 111) then gd (inb (nI 0) 6) (gd (inb (nI 1) 6) (gd (inb ((h 27 ((nI 0)).toNatClampNeg) + ((nI 6) * (h 27 ((nI 1)).toNatClampNeg))) 30) (le_ (hs h 10 (((h 27 ((nI 0)).toNatClampNeg) + ((nI 6) * (h 27 ((nI 1)).toNatClampNeg)))).toNatClampNeg (vp_nar .boolean (nI 1))) fun h26 => some ((nI 1), h26)))) else if x1 = (nI 112) then bd2 (p_X3_takePot h) fun v30 h28 => gd (decide (v30 &&& 1 = v30)) (some (v30, h28)) else if x1 = (nI 115) then gd (inb (nI 0) 6) (gd (inb (nI 1) 6) (gd (inb ((h 27 ((nI 0)).toNatClampNeg) + ((nI 6) * (h 27 ((nI 1)).toNatClampNeg))) 30) (le_ (hs h 11 (((h 27 ((nI 0)).toNatClampNeg) + ((nI 6) * (h 27 ((nI 1)).toNatClampNeg)))).toNatClampNeg (vp_nar .boolean (nI 1))) fun h36 => some ((nI 1), h36)))) else if x1 = (nI 118) then gd (inb (nI 0) 6) (le_ (hs h 3 9 (h 27 ((nI 0)).toNatClampNeg)) fun h39 => some ((nI 1), h39)) else if x1 = (nI 119) then gd (inb (nI 0) 6) (le_ (hs h 3 0 (h 27 ((nI 0)).toNatClampNeg)) fun h42 => gd (inb (nI 1) 6) (le_ (hs h42 3 1 (h42 27 ((nI 1)).toNatClampNeg)) fun h44 => some ((nI 1), h44))) else some ((nI 0), h)
def p_X3_read_9 (K9 : Int32 × Int32 × Int32 × kH → Option (Int32 × kH)) (A : Nat) (x2 : Int32) (x3 : Int32) (x4 : Int32) (h : kH) : Option (Int32 × kH) :=
  if x2 ≤ x4 then some ((-4 : Int32), h) else if x2 ≤ x3 then some ((-4 : Int32), h) else bd2 (p_X3_readNumbers A x3 x2 h) fun v5 h3 => if v5 = (-4 : Int32) then some (x3, h3) else gd (inb x3 500) (bd2 (p_X3_takeItem (h3 A (x3).toNatClampNeg) h3) fun v9 h7 => if v9 = 0 then some (x3, h7) else K9 (x2, v5, (x4 + (nI 1)), h7))
def p_X3_read (A : Nat) (x2 : Int32) (h : kH) : Option (Int32 × kH) :=
  bd (p_X3_forget h) fun h1 => fx (fun K9 s => p_X3_read_9 K9 A s.1 s.2.1 s.2.2.1 s.2.2.2) FU (x2, (nI 0), (nI 0), h1)
def p_X4_anyTwoInOne_14 (K2 : Int32 × kH → Option (Int32 × kH)) (K14 : Int32 × Int32 × kH → Option (Int32 × kH)) (P : Nat) (x1 : Int32) (x2 : Int32) (h : kH) : Option (Int32 × kH) :=
  if (h P 0) ≤ x2 then K2 ((x1 + (nI 1)), h) else gd (inb x1 6) (gd (inb x2 6) (if (h (P + 1) (x1).toNatClampNeg) = (h (P + 1) (x2).toNatClampNeg) then some ((nI 1), h) else K14 (x1, (x2 + (nI 1)), h)))
def p_X4_anyTwoInOne_2 (K2 : Int32 × kH → Option (Int32 × kH)) (P : Nat) (x1 : Int32) (h : kH) : Option (Int32 × kH) :=
  if (h P 0) ≤ x1 then some ((nI 0), h) else fx (fun K14 s => p_X4_anyTwoInOne_14 K2 K14 P s.1 s.2.1 s.2.2) FU (x1, (x1 + (nI 1)), h)
def p_X4_anyTwoInOne (P : Nat) (h : kH) : Option (Int32 × kH) :=
  fx (fun K2 s => p_X4_anyTwoInOne_2 K2 P s.1 s.2) FU ((nI 0), h)
def p_X3_isLayable_2 (K2 : Int32 × kH → Option (Int32 × kH)) (x1 : Int32) (h : kH) : Option (Int32 × kH) :=
  if (h 13 0) ≤ x1 then bd2 (p_X4_anyTwoInOne 13 h) fun v3 h1 => if v3 = 0 then some ((nI 1), h1) else some ((nI 0), h1) else gd (inb x1 6) (if (h 3 0) ≤ (h 25 (x1).toNatClampNeg) then some ((nI 0), h) else if (h 26 (x1).toNatClampNeg) < (h 3 1) then le_ (hs h 14 (x1).toNatClampNeg ((h 25 (x1).toNatClampNeg) + ((h 3 0) * (h 26 (x1).toNatClampNeg)))) fun h5 => K2 ((x1 + (nI 1)), h5) else some ((nI 0), h))
def p_X3_isLayable (h : kH) : Option (Int32 × kH) :=
  fx (fun K2 s => p_X3_isLayable_2 K2 s.1 s.2) FU ((nI 0), h)
def p_X5_copyFrom_18 (K18 : Int32 × kH → Option (kH)) (R : Nat) (R2 : Nat) (x2 : Int32) (h : kH) : Option (kH) :=
  if (nI 3) ≤ x2 then le_ (hs h R 4 (h R2 4)) fun h3 => le_ (hs h3 R 5 (h3 R2 5)) fun h4 => le_ (hs h4 R 6 (h4 R2 6)) fun h5 => le_ (hs h5 R 7 (h5 R2 7)) fun h6 => le_ (hs h6 R 8 (h6 R2 8)) fun h7 => le_ (hs h7 R 9 (h7 R2 9)) fun h8 => some h8 else gd (inb x2 3) (bd (p_X5_setKind R x2 (h (R2 + 1) (x2).toNatClampNeg) (h (R2 + 2) (x2).toNatClampNeg) h) fun h10 => K18 ((x2 + (nI 1)), h10))
def p_X5_copyFrom (R : Nat) (R2 : Nat) (h : kH) : Option (kH) :=
  le_ (hs h R 0 (h R2 0)) fun h1 => le_ (hs h1 R 1 (h1 R2 1)) fun h2 => fx (fun K18 s => p_X5_copyFrom_18 K18 R R2 s.1 s.2) FU ((nI 0), h2)
def p_X3_layOn_31 (K17 : Int32 × kH → Option (kH)) (K31 : Int32 × Int32 × kH → Option (kH)) (R : Nat) (H : Nat) (x3 : Int32) (x4 : Int32) (h : kH) : Option (kH) :=
  if (h 3 0) ≤ x4 then K17 ((x3 + (nI 1)), h) else bd (p_X1_copyCell (H + 1) 6 (x4 + ((h 3 0) * x3)) (x4 + ((nI 6) * x3)) h) fun h8 => K31 (x3, (x4 + (nI 1)), h8)
def p_X3_layOn_17 (K17 : Int32 × kH → Option (kH)) (R : Nat) (H : Nat) (x3 : Int32) (h : kH) : Option (kH) :=
  if (h 3 1) ≤ x3 then bd (p_X4_copyFrom (H + 8) 13 h) fun h5 => le_ (hs h5 H 2 (nI 0)) fun h7 => some h7 else fx (fun K31 s => p_X3_layOn_31 K17 K31 R H s.1 s.2.1 s.2.2) FU (x3, (nI 0), h)
def p_X3_layOn (R : Nat) (H : Nat) (h : kH) : Option (kH) :=
  bd (p_X5_copyFrom R 3 h) fun h1 => bd (p_X1_clear (H + 1) h1) fun h3 => fx (fun K17 s => p_X3_layOn_17 K17 R H s.1 s.2) FU ((nI 0), h3)
def p_X4_dryFor_2 (K2 : Int32 × Int32 × kH → Option (kH)) (P : Nat) (x1 : Int32) (x2 : Int32) (h : kH) : Option (kH) :=
  if (h P 0) ≤ x2 then some h else gd (inb x2 6) (if (h (P + 8) (x2).toNatClampNeg) = 0 then bd (p_X4_loseWater P x2 ((x1 * ((h (P + 4) (x2).toNatClampNeg) + (nI 1))) / (nI 4)) h) fun h2 => K2 (x1, (x2 + (nI 1)), h2) else K2 (x1, (x2 + (nI 1)), h))
def p_X4_dryFor (P : Nat) (x1 : Int32) (h : kH) : Option (kH) :=
  fx (fun K2 s => p_X4_dryFor_2 K2 P s.1 s.2.1 s.2.2) FU (x1, (nI 0), h)
def p_X4_allWater_4 (K4 : Int32 × Int32 × kH → Option (Int32 × kH)) (P : Nat) (x1 : Int32) (x2 : Int32) (h : kH) : Option (Int32 × kH) :=
  if (h P 0) ≤ x2 then some (x1, h) else gd (inb x2 6) (le_ (x1 + (h (P + 3) (x2).toNatClampNeg)) fun v2 => K4 (v2, (x2 + (nI 1)), h))
def p_X4_allWater (P : Nat) (h : kH) : Option (Int32 × kH) :=
  fx (fun K4 s => p_X4_allWater_4 K4 P s.1 s.2.1 s.2.2) FU ((nI 0), (nI 0), h)
def p_X4_lossOf (P : Nat) (R : Nat) (x1 : Int32) (h : kH) : Option (Int32 × kH) :=
  gd (inb x1 6) (if (h (P + 8) (x1).toNatClampNeg) = 0 then if (h (P + 7) (x1).toNatClampNeg) < (h R 6) then some ((nI 5), h) else some ((nI 0), h) else some ((h (P + 8) (x1).toNatClampNeg), h))
def p_X4_countGood_4 (K4 : Int32 × Int32 × kH → Option (Int32 × kH)) (P : Nat) (R : Nat) (x2 : Int32) (x3 : Int32) (h : kH) : Option (Int32 × kH) :=
  if (h P 0) ≤ x3 then some (x2, h) else bd2 (p_X4_lossOf P R x3 h) fun v3 h1 => if v3 = 0 then K4 ((x2 + (nI 1)), (x3 + (nI 1)), h1) else K4 (x2, (x3 + (nI 1)), h1)
def p_X4_countGood (P : Nat) (R : Nat) (h : kH) : Option (Int32 × kH) :=
  fx (fun K4 s => p_X4_countGood_4 K4 P R s.1 s.2.1 s.2.2) FU ((nI 0), (nI 0), h)
def p_X4_countLost_4 (K4 : Int32 × Int32 × kH → Option (Int32 × kH)) (P : Nat) (x1 : Int32) (x2 : Int32) (h : kH) : Option (Int32 × kH) :=
  if (h P 0) ≤ x2 then some (x1, h) else gd (inb x2 6) (if (h (P + 8) (x2).toNatClampNeg) < (nI 1) then K4 (x1, (x2 + (nI 1)), h) else if (nI 4) < (h (P + 8) (x2).toNatClampNeg) then K4 (x1, (x2 + (nI 1)), h) else K4 ((x1 + (nI 1)), (x2 + (nI 1)), h))
def p_X4_countLost (P : Nat) (h : kH) : Option (Int32 × kH) :=
  fx (fun K4 s => p_X4_countLost_4 K4 P s.1 s.2.1 s.2.2) FU ((nI 0), (nI 0), h)
def p_X4_countWhole_4 (K4 : Int32 × Int32 × kH → Option (Int32 × kH)) (P : Nat) (x1 : Int32) (x2 : Int32) (h : kH) : Option (Int32 × kH) :=
  if (h P 0) ≤ x2 then some (x1, h) else gd (inb x2 6) (if (h (P + 8) (x2).toNatClampNeg) = 0 then K4 ((x1 + (nI 1)), (x2 + (nI 1)), h) else K4 (x1, (x2 + (nI 1)), h))
def p_X4_countWhole (P : Nat) (h : kH) : Option (Int32 × kH) :=
  fx (fun K4 s => p_X4_countWhole_4 K4 P s.1 s.2.1 s.2.2) FU ((nI 0), (nI 0), h)
def p_X4_wholeIn_2 (K2 : Int32 × Int32 × kH → Option (Int32 × kH)) (P : Nat) (x1 : Int32) (x2 : Int32) (h : kH) : Option (Int32 × kH) :=
  if (h P 0) ≤ x2 then some ((-4 : Int32), h) else gd (inb x2 6) (if (h (P + 8) (x2).toNatClampNeg) = 0 then if (h (P + 1) (x2).toNatClampNeg) = x1 then some (x2, h) else K2 (x1, (x2 + (nI 1)), h) else K2 (x1, (x2 + (nI 1)), h))
def p_X4_wholeIn (P : Nat) (x1 : Int32) (h : kH) : Option (Int32 × kH) :=
  fx (fun K2 s => p_X4_wholeIn_2 K2 P s.1 s.2.1 s.2.2) FU (x1, (nI 0), h)
def p_X5_drawnWind (R : Nat) (x1 : Int32) (x2 : Int32) (h : kH) : Option (Int32 × kH) :=
  if 0 ≤ (h R 9) then le_ ((((7919 : Int64) * (x1).toInt64) + ((6151 : Int64) * (x2).toInt64)) + (1 : Int64)) fun v1 => gd (decide (¬ (((h R 9) + (nI 1))).toInt64 = 0)) (some (((lrem_ (lrem_ (v1 * v1) (65521 : Int64)) (((h R 9) + (nI 1))).toInt64)).toInt32, h)) else some ((nI 0), h)
def p_X6_clear (h : kH) : Option (kH) :=
  le_ (hs h 134 0 (nI 0)) fun h1 => some h1
def p_X6_add_90 (s0 : Int32) (h : kH) : Option (kH) :=
  le_ (hs h 134 4 s0) fun h4 => le_ (hs h4 134 0 ((h4 134 0) + (nI 1))) fun h5 => some h5
def p_X6_add_70 (x2 : Int32) (x3 : Int32) (s0 : Int32) (h : kH) : Option (kH) :=
  le_ (hs h 134 3 s0) fun h3 => if x3 = 0 then p_X6_add_90 (if (h3 134 4) < x2 then x2 else (h3 134 4)) h3 else p_X6_add_90 x2 h3
def p_X6_add_50 (x2 : Int32) (x3 : Int32) (s0 : Int32) (h : kH) : Option (kH) :=
  le_ (hs h 134 2 s0) fun h2 => if x3 = 0 then p_X6_add_70 x2 x3 (if x2 < (h2 134 3) then x2 else (h2 134 3)) h2 else p_X6_add_70 x2 x3 x2 h2
def p_X6_add_30 (x1 : Int32) (x2 : Int32) (x3 : Int32) (s0 : Int32) (h : kH) : Option (kH) :=
  le_ (hs h 134 1 s0) fun h1 => if x3 = 0 then p_X6_add_50 x2 x3 (if (h1 134 2) < x1 then x1 else (h1 134 2)) h1 else p_X6_add_50 x2 x3 x1 h1
def p_X6_add_12 (x1 : Int32) (x2 : Int32) (s0 : Int32) (h : kH) : Option (kH) :=
  if s0 = 0 then p_X6_add_30 x1 x2 s0 (if x1 < (h 134 1) then x1 else (h 134 1)) h else p_X6_add_30 x1 x2 s0 x1 h
def p_X6_add (x1 : Int32) (x2 : Int32) (h : kH) : Option (kH) :=
  if (h 134 0) = 0 then p_X6_add_12 x1 x2 (nI 1) h else p_X6_add_12 x1 x2 (nI 0) h
def p_X6_told (x1 : Int32) (h : kH) : Option (Int32 × kH) :=
  if x1 = 0 then some ((h 134 0), h) else if (h 134 0) = 0 then some ((-4 : Int32), h) else if x1 = (nI 1) then some ((h 134 1), h) else if x1 = (nI 2) then some ((h 134 2), h) else if x1 = (nI 3) then some ((h 134 3), h) else some ((h 134 4), h)
def p_X7_write_33 (K33 : Int64 × Int32 × kH → Option (Int32 × kH)) (x2 : Int64) (x4 : Int32) (h : kH) : Option (Int32 × kH) :=
  if x4 < 0 then some ((h 0 1), h) else gd (inb (h 0 1) 500) (le_ (hs h 1 ((h 0 1)).toNatClampNeg (vp_nar .byte (((x2 >>> ((((nI 8) * x4)).toInt64 &&& 63))).toInt32).toInt8.toInt32)) fun h2 => le_ (hs h2 0 1 ((h2 0 1) + (nI 1))) fun h3 => K33 (x2, (x4 + (-1 : Int32)), h3))
def p_X7_write (x1 : Int32) (y2 : Int64) (h : kH) : Option (Int32 × kH) :=
  if x1 < (nI 1) then some ((-1 : Int32), h) else if x1 ≤ (nI 8) then if ((h 0 1) + x1) ≤ (nI 500) then fx (fun K33 s => p_X7_write_33 K33 s.1 s.2.1 s.2.2) FU (y2, (x1 - (nI 1)), h) else some ((-3 : Int32), h) else some ((-1 : Int32), h)
def p_X7_wipe (h : kH) : Option (Int32 × kH) :=
  le_ (h 0 1) fun v1 => le_ (hs h 0 1 (nI 0)) fun h2 => some (v1, h2)
def p_X7_fault (h : kH) : Option (Int32 × kH) :=
  bd2 (p_X3_read 1 (h 0 1) h) fun v3 h1 => some (v3, h1)
def p_X7_lay (h : kH) : Option (Int32 × kH) :=
  bd2 (p_X3_read 1 (h 0 1) h) fun v3 h1 => if v3 = (-4 : Int32) then bd2 (p_X3_isLayable h1) fun v6 h4 => if v6 = 0 then some ((-2 : Int32), h4) else bd (p_X3_layOn 28 31 h4) fun h7 => le_ (hs h7 0 11 (nI 0)) fun h9 => le_ (hs h9 0 9 (nI 0)) fun h10 => bd2 (p_X5_cells 28 h10) fun v13 h11 => some (v13, h11) else some ((-2 : Int32), h1)
def p_X7_isCell (x1 : Int32) (h : kH) : Option (Int32 × kH) :=
  if x1 < 0 then some ((nI 0), h) else bd2 (p_X5_cells 28 h) fun v3 h1 => if v3 ≤ x1 then some ((nI 0), h1) else some ((nI 1), h1)
def p_X7_cell (x1 : Int32) (x2 : Int32) (h : kH) : Option (Int32 × kH) :=
  bd2 (p_X7_isCell x1 h) fun v3 h1 => if v3 = 0 then some ((-1 : Int32), h1) else if x2 = (nI 0) then gd (inb x1 30) (some ((h1 33 (x1).toNatClampNeg), h1)) else if x2 = (nI 1) then gd (inb x1 30) (some ((h1 34 (x1).toNatClampNeg), h1)) else if x2 = (nI 2) then gd (inb x1 30) (some ((h1 35 (x1).toNatClampNeg), h1)) else if x2 = (nI 3) then gd (inb x1 30) (bd2 (p_X7_oneIf (h1 36 (x1).toNatClampNeg) h1) fun v13 h11 => some (v13, h11)) else if x2 = (nI 4) then gd (inb x1 30) (bd2 (p_X7_oneIf (h1 37 (x1).toNatClampNeg) h1) fun v18 h16 => some (v18, h16)) else if x2 = (nI 5) then bd2 (p_X4_wholeIn 39 x1 h1) fun v22 h20 => some (v22, h20) else some ((-1 : Int32), h1)
def p_X7_isPot (x1 : Int32) (h : kH) : Option (Int32 × kH) :=
  if x1 < 0 then some ((nI 0), h) else if (h 39 0) ≤ x1 then some ((nI 0), h) else some ((nI 1), h)
def p_X7_pot (x1 : Int32) (x2 : Int32) (h : kH) : Option (Int32 × kH) :=
  bd2 (p_X7_isPot x1 h) fun v3 h1 => if v3 = 0 then some ((-1 : Int32), h1) else if x2 = (nI 0) then gd (inb x1 6) (some ((h1 40 (x1).toNatClampNeg), h1)) else if x2 = (nI 1) then gd (inb x1 6) (some ((h1 45 (x1).toNatClampNeg), h1)) else if x2 = (nI 2) then gd (inb x1 6) (some ((h1 42 (x1).toNatClampNeg), h1)) else if x2 = (nI 3) then gd (inb x1 6) (some ((h1 46 (x1).toNatClampNeg), h1)) else if x2 = (nI 4) then bd2 (p_X4_lossOf 39 28 x1 h1) fun v14 h12 => some (v14, h12) else if x2 = (nI 5) then gd (inb x1 6) (some ((h1 48 (x1).toNatClampNeg), h1)) else some ((-1 : Int32), h1)
def p_X7_isWind (x0 : Int32) (h : kH) : Option (Int32 × kH) :=
  if x0 < 0 then some ((nI 0), h) else if (nI 9) < x0 then some ((nI 0), h) else some ((nI 1), h)
def p_X7_minute (x1 : Int32) (h : kH) : Option (Int32 × kH) :=
  bd2 (p_X7_isWind x1 h) fun v3 h1 => if v3 = 0 then some ((-1 : Int32), h1) else bd (p_X2_pass 31 28 x1 h1) fun h4 => bd2 (p_X4_countWhole 39 h4) fun v8 h6 => some (v8, h6)
def p_X7_fuel (x1 : Int32) (x2 : Int32) (h : kH) : Option (Int32 × kH) :=
  bd2 (p_X7_isCell x1 h) fun v3 h1 => if v3 = 0 then some ((-1 : Int32), h1) else if x2 < (nI 1) then some ((-1 : Int32), h1) else if x2 ≤ (nI 99) then gd (inb x1 30) (le_ ((h1 34 (x1).toNatClampNeg) + x2) fun v5 => if v5 ≤ (nI 999) then le_ (hs h1 34 (x1).toNatClampNeg v5) fun h6 => some (v5, h6) else some ((-2 : Int32), h1)) else some ((-1 : Int32), h1)
def p_X7_cover (x1 : Int32) (x2 : Int32) (h : kH) : Option (Int32 × kH) :=
  bd2 (p_X7_isCell x1 h) fun v3 h1 => if v3 = 0 then some ((-1 : Int32), h1) else gd (inb x1 30) (bd2 (p_X7_oneIf (h1 37 (x1).toNatClampNeg) h1) fun v7 h5 => le_ (hs h5 37 (x1).toNatClampNeg (vp_nar .boolean x2)) fun h8 => some (v7, h8))
def p_X7_light (x1 : Int32) (h : kH) : Option (Int32 × kH) :=
  bd2 (p_X7_isCell x1 h) fun v3 h1 => if v3 = 0 then some ((-1 : Int32), h1) else gd (inb x1 30) (bd2 (p_X7_oneIf (h1 36 (x1).toNatClampNeg) h1) fun v7 h5 => le_ (hs h5 36 (x1).toNatClampNeg (vp_nar .boolean (nI 1))) fun h8 => some (v7, h8))
def p_X7_take (x1 : Int32) (h : kH) : Option (Int32 × kH) :=
  bd2 (p_X7_isPot x1 h) fun v3 h1 => if v3 = 0 then some ((-1 : Int32), h1) else gd (inb x1 6) (if (h1 47 (x1).toNatClampNeg) = 0 then bd2 (p_X4_lossOf 39 28 x1 h1) fun v7 h5 => le_ (hs h5 47 (x1).toNatClampNeg (nI 6)) fun h8 => some (v7, h8) else some ((-2 : Int32), h1))
def p_X7_dry (x1 : Int32) (h : kH) : Option (Int32 × kH) :=
  if x1 < (nI 1) then some ((-1 : Int32), h) else if x1 ≤ (nI 240) then bd (p_X4_dryFor 39 x1 h) fun h1 => bd2 (p_X4_allWater 39 h1) fun v5 h3 => some (v5, h3) else some ((-1 : Int32), h)
def p_X7_isLength (x0 : Int32) (h : kH) : Option (Int32 × kH) :=
  if x0 < 0 then some ((nI 0), h) else if (nI 240) < x0 then some ((nI 0), h) else some ((nI 1), h)
def p_X7_isRun (x0 : Int32) (x1 : Int32) (h : kH) : Option (Int32 × kH) :=
  bd2 (p_X7_isLength x0 h) fun v3 h1 => if v3 = 0 then some ((nI 0), h1) else bd2 (p_X7_isWind x1 h1) fun v6 h4 => if v6 = 0 then some ((nI 0), h4) else some ((nI 1), h4)
def p_X7_burnFire_3 (K3 : Int32 × Int32 × Int32 × kH → Option (kH)) (x2 : Int32) (x3 : Int32) (x4 : Int32) (h : kH) : Option (kH) :=
  if x2 ≤ x4 then some h else bd (p_X1_burn 72 28 x3 h) fun h1 => bd (p_X1_tell 72 x4 h1) fun h3 => K3 (x2, x3, (x4 + (nI 1)), h3)
def p_X7_burnFire (x1 : Int32) (x2 : Int32) (x3 : Int32) (h : kH) : Option (kH) :=
  fx (fun K3 s => p_X7_burnFire_3 K3 s.1 s.2.1 s.2.2.1 s.2.2.2) FU (x2, x3, x1, h)
def p_X7_burnAfresh (x1 : Int32) (x2 : Int32) (h : kH) : Option (kH) :=
  bd (p_X1_copyFrom 72 32 h) fun h1 => bd (p_X7_burnFire (nI 0) x1 x2 h1) fun h3 => some h3
def p_X7_passPots_2 (K2 : Int32 × Int32 × kH → Option (kH)) (x2 : Int32) (x3 : Int32) (h : kH) : Option (kH) :=
  if x2 ≤ x3 then some h else bd2 (p_X4_feel 79 28 x3 h) fun v3 h1 => K2 (x2, (x3 + (nI 1)), h1)
def p_X7_passPots (x1 : Int32) (x2 : Int32) (h : kH) : Option (kH) :=
  fx (fun K2 s => p_X7_passPots_2 K2 s.1 s.2.1 s.2.2) FU (x2, x1, h)
def p_X7_tryRun (x1 : Int32) (x2 : Int32) (h : kH) : Option (kH) :=
  bd (p_X7_burnAfresh x1 x2 h) fun h1 => bd (p_X4_copyFrom 79 39 h1) fun h3 => bd (p_X7_passPots (nI 0) x1 h3) fun h5 => some h5
def p_X7_run (x1 : Int32) (x2 : Int32) (x3 : Int32) (h : kH) : Option (Int32 × kH) :=
  bd2 (p_X7_isRun x1 x2 h) fun v3 h1 => if v3 = 0 then some ((-1 : Int32), h1) else if x3 < 0 then some ((-1 : Int32), h1) else if x3 ≤ (nI 1) then bd (p_X7_tryRun x1 x2 h1) fun h4 => if x3 = 0 then bd2 (p_X4_countGood 79 28 h4) fun v11 h9 => some (v11, h9) else bd2 (p_X4_countLost 79 h4) fun v8 h6 => some (v8, h6) else some ((-1 : Int32), h1)
def p_X7_greatestHeat_16 (K16 : Int32 × Int32 × Int32 × Int32 × kH → Option (Int32 × kH)) (x1 : Int32) (x2 : Int32) (x3 : Int32) (x4 : Int32) (h : kH) : Option (Int32 × kH) :=
  if x2 ≤ x4 then some (x3, h) else bd2 (p_X0_heatAt x4 x1 h) fun v5 h3 => le_ (if x3 < v5 then v5 else x3) fun v6 => K16 (x1, x2, v6, (x4 + (nI 1)), h3)
def p_X7_greatestHeat (x1 : Int32) (x2 : Int32) (h : kH) : Option (Int32 × kH) :=
  gd (inb x1 30) (le_ (h 33 (x1).toNatClampNeg) fun v2 => fx (fun K16 s => p_X7_greatestHeat_16 K16 s.1 s.2.1 s.2.2.1 s.2.2.2.1 s.2.2.2.2) FU (x1, x2, v2, (nI 0), h))
def p_X7_of (x1 : Int32) (x2 : Int32) (x3 : Int32) (x4 : Int32) (h : kH) : Option (Int32 × kH) :=
  bd2 (p_X7_isRun x1 x2 h) fun v3 h1 => if v3 = 0 then some ((-1 : Int32), h1) else bd2 (p_X7_isPot x3 h1) fun v6 h4 => if v6 = 0 then some ((-1 : Int32), h4) else if x4 < 0 then some ((-1 : Int32), h4) else if x4 ≤ (nI 3) then bd (p_X7_tryRun x1 x2 h4) fun h7 => if x4 = (nI 0) then bd2 (p_X4_lossOf 79 28 x3 h7) fun v11 h9 => some (v11, h9) else if x4 = (nI 1) then gd (inb x3 6) (bd2 (p_X7_greatestHeat (h7 40 (x3).toNatClampNeg) x1 h7) fun v16 h14 => some (v16, h14)) else if x4 = (nI 2) then gd (inb x3 6) (some ((h7 88 (x3).toNatClampNeg), h7)) else gd (inb x3 6) (some ((h7 86 (x3).toNatClampNeg), h7)) else some ((-1 : Int32), h4)
def p_X7_anyBursts_2 (K2 : Int32 × Int32 × kH → Option (Int32 × kH)) (x1 : Int32) (x2 : Int32) (h : kH) : Option (Int32 × kH) :=
  if x1 ≤ x2 then some ((nI 0), h) else bd2 (p_X4_feel 79 28 x2 h) fun v3 h1 => if v3 = 0 then K2 (x1, (x2 + (nI 1)), h1) else some ((nI 1), h1)
def p_X7_anyBursts (x1 : Int32) (h : kH) : Option (Int32 × kH) :=
  fx (fun K2 s => p_X7_anyBursts_2 K2 s.1 s.2.1 s.2.2) FU (x1, (nI 0), h)
def p_X7_drying_18 (K18 : Int32 × Int32 × kH → Option (Int32 × kH)) (x1 : Int32) (x3 : Int32) (h : kH) : Option (Int32 × kH) :=
  if (nI 240) < x3 then some ((-4 : Int32), h) else bd (p_X4_copyFrom 79 39 h) fun h6 => bd (p_X4_dryFor 79 x3 h6) fun h8 => bd2 (p_X7_anyBursts x1 h8) fun v12 h10 => if v12 = 0 then some (x3, h10) else K18 (x1, (x3 + (nI 1)), h10)
def p_X7_drying (x1 : Int32) (x2 : Int32) (h : kH) : Option (Int32 × kH) :=
  bd2 (p_X7_isRun x1 x2 h) fun v3 h1 => if v3 = 0 then some ((-1 : Int32), h1) else bd (p_X7_burnAfresh x1 x2 h1) fun h4 => fx (fun K18 s => p_X7_drying_18 K18 s.1 s.2.1 s.2.2) FU (x1, (nI 0), h4)
def p_X7_grit_34 (K34 : Int32 × Int32 × Int32 × Int32 × Int32 × kH → Option (Int32 × kH)) (x1 : Int32) (x2 : Int32) (x4 : Int32) (x5 : Int32) (x6 : Int32) (h : kH) : Option (Int32 × kH) :=
  if (nI 9) < x6 then some (x4, h) else bd (p_X4_copyFrom 79 39 h) fun h9 => gd (inb x1 6) (le_ (hs h9 83 (x1).toNatClampNeg x6) fun h12 => bd (p_X7_passPots (nI 0) x2 h12) fun h13 => bd2 (p_X4_lossOf 79 28 x1 h13) fun v17 h15 => if v17 = 0 then if (h15 86 (x1).toNatClampNeg) ≤ x5 then K34 (x1, x2, x4, x5, (x6 + (nI 1)), h15) else le_ (h15 86 (x1).toNatClampNeg) fun v18 => K34 (x1, x2, x6, v18, (x6 + (nI 1)), h15) else K34 (x1, x2, x4, x5, (x6 + (nI 1)), h15))
def p_X7_grit (x1 : Int32) (x2 : Int32) (x3 : Int32) (h : kH) : Option (Int32 × kH) :=
  bd2 (p_X7_isPot x1 h) fun v3 h1 => if v3 = 0 then some ((-1 : Int32), h1) else bd2 (p_X7_isRun x2 x3 h1) fun v6 h4 => if v6 = 0 then some ((-1 : Int32), h4) else bd (p_X7_burnAfresh x2 x3 h4) fun h7 => fx (fun K34 s => p_X7_grit_34 K34 s.1 s.2.1 s.2.2.1 s.2.2.2.1 s.2.2.2.2.1 s.2.2.2.2.2) FU (x1, x2, (-4 : Int32), (-1 : Int32), (nI 0), h7)
def p_X7_goOn (x1 : Int32) (x2 : Int32) (x3 : Int32) (h : kH) : Option (kH) :=
  bd (p_X7_burnFire x1 x2 x3 h) fun h1 => bd (p_X7_passPots x1 x2 h1) fun h3 => some h3
def p_X7_enough_25 (K25 : Int32 × Int32 × Int32 × Int32 × kH → Option (Int32 × kH)) (x1 : Int32) (x2 : Int32) (x3 : Int32) (x4 : Int32) (h : kH) : Option (Int32 × kH) :=
  if (nI 200) < x4 then some ((-4 : Int32), h) else bd (p_X2_copyFrom 71 31 h) fun h4 => bd (p_X1_shareFuel 72 x4 h4) fun h6 => bd (p_X7_goOn (nI 0) x2 x3 h6) fun h8 => bd2 (p_X4_countGood 79 28 h8) fun v12 h10 => if v12 < x1 then K25 (x1, x2, x3, (x4 + (nI 10)), h10) else some (x4, h10)
def p_X7_enough (x1 : Int32) (x2 : Int32) (x3 : Int32) (h : kH) : Option (Int32 × kH) :=
  if x1 < (nI 1) then some ((-1 : Int32), h) else if (nI 6) < x1 then some ((-1 : Int32), h) else bd2 (p_X7_isRun x2 x3 h) fun v3 h1 => if v3 = 0 then some ((-1 : Int32), h1) else fx (fun K25 s => p_X7_enough_25 K25 s.1 s.2.1 s.2.2.1 s.2.2.2.1 s.2.2.2.2) FU (x1, x2, x3, (nI 10), h1)
def p_X7_spot_12 (K12 : Int32 × Int32 × kH → Option (Int32 × kH)) (x1 : Int32) (x2 : Int32) (h : kH) : Option (Int32 × kH) :=
  if (h 0 11) ≤ x2 then if (h 0 11) < (nI 6) then gd (inb (h 0 11) 6) (le_ (hs h 131 ((h 0 11)).toNatClampNeg x1) fun h5 => le_ (hs h5 0 11 ((h5 0 11) + (nI 1))) fun h6 => some ((h6 0 11), h6)) else some ((-3 : Int32), h) else gd (inb x2 6) (if (h 131 (x2).toNatClampNeg) = x1 then some ((-2 : Int32), h) else K12 (x1, (x2 + (nI 1)), h))
def p_X7_spot (x1 : Int32) (h : kH) : Option (Int32 × kH) :=
  bd2 (p_X7_isCell x1 h) fun v3 h1 => if v3 = 0 then some ((-1 : Int32), h1) else fx (fun K12 s => p_X7_spot_12 K12 s.1 s.2.1 s.2.2) FU (x1, (nI 0), h1)
def p_X7_noSpots (h : kH) : Option (Int32 × kH) :=
  le_ (h 0 11) fun v1 => le_ (hs h 0 11 (nI 0)) fun h2 => some (v1, h2)
def p_X7_countWays_4 (K4 : Int32 × Int32 × Int32 × kH → Option (Int32 × kH)) (x1 : Int32) (x2 : Int32) (x3 : Int32) (h : kH) : Option (Int32 × kH) :=
  if x1 ≤ x3 then some (x2, h) else le_ (x2 * (h 0 11)) fun v1 => K4 (x1, v1, (x3 + (nI 1)), h)
def p_X7_countWays (x1 : Int32) (h : kH) : Option (Int32 × kH) :=
  fx (fun K4 s => p_X7_countWays_4 K4 s.1 s.2.1 s.2.2.1 s.2.2.2) FU (x1, (nI 1), (nI 0), h)
def p_X7_spotInWay_18 (K18 : Int32 × Int32 × Int32 × kH → Option (Int32 × kH)) (x3 : Int32) (x4 : Int32) (x5 : Int32) (h : kH) : Option (Int32 × kH) :=
  if x5 ≤ x3 then gd (decide (¬ (h 0 11) = 0)) (some ((krem x4 (h 0 11)), h)) else gd (decide (¬ (h 0 11) = 0)) (le_ (x4 / (h 0 11)) fun v3 => K18 (x3, v3, (x5 + (-1 : Int32)), h))
def p_X7_spotInWay (x1 : Int32) (x2 : Int32) (x3 : Int32) (h : kH) : Option (Int32 × kH) :=
  if (nI 1) ≤ (h 0 11) then fx (fun K18 s => p_X7_spotInWay_18 K18 s.1 s.2.1 s.2.2.1 s.2.2.2) FU (x3, x1, (x2 - (nI 1)), h) else some ((nI 0), h)
def p_X7_layWay_22 (K22 : Int32 × Int32 × Int32 × kH → Option (Int32 × kH)) (x1 : Int32) (x2 : Int32) (x4 : Int32) (h : kH) : Option (Int32 × kH) :=
  if x2 ≤ x4 then bd2 (p_X4_anyTwoInOne 79 h) fun v5 h3 => if v5 = 0 then some ((nI 1), h3) else some ((nI 0), h3) else bd2 (p_X7_spotInWay x1 x2 x4 h) fun v8 h6 => gd (inb v8 6) (gd (inb x4 6) (le_ (hs h6 80 (x4).toNatClampNeg (h6 131 (v8).toNatClampNeg)) fun h11 => K22 (x1, x2, (x4 + (nI 1)), h11)))
def p_X7_layWay (x1 : Int32) (x2 : Int32) (h : kH) : Option (Int32 × kH) :=
  bd (p_X4_copyFrom 79 39 h) fun h1 => fx (fun K22 s => p_X7_layWay_22 K22 s.1 s.2.1 s.2.2.1 s.2.2.2) FU (x1, x2, (nI 0), h1)
def p_X7_lies_153 (x1 : Int32) (x4 : Int32) (x7 : Int32) (x8 : Int32) (h : kH) : Option (Int32 × kH) :=
  if x7 = (-4 : Int32) then some ((-4 : Int32), h) else if 0 ≤ x4 then bd2 (p_X7_spotInWay x7 x1 x4 h) fun v14 h12 => some (v14, h12) else some (x8, h)
def p_X7_lies_83 (K83 : Int32 × Int32 × Int32 × Int32 × Int32 × Int32 × Int32 × Int32 × kH → Option (Int32 × kH)) (x1 : Int32) (x2 : Int32) (x4 : Int32) (x5 : Int32) (x6 : Int32) (x7 : Int32) (x8 : Int32) (x9 : Int32) (h : kH) : Option (Int32 × kH) :=
  if x5 ≤ x9 then p_X7_lies_153 x1 x4 x7 x8 h else if x6 ≤ x8 then p_X7_lies_153 x1 x4 x7 x8 h else bd2 (p_X7_layWay x9 x1 h) fun v17 h15 => if v17 = 0 then K83 (x1, x2, x4, x5, x6, x7, x8, (x9 + (nI 1)), h15) else bd (p_X7_passPots (nI 0) x2 h15) fun h18 => bd2 (p_X4_countGood 79 28 h18) fun v22 h20 => if v22 ≤ x8 then K83 (x1, x2, x4, x5, x6, x7, x8, (x9 + (nI 1)), h20) else K83 (x1, x2, x4, x5, x6, x9, v22, (x9 + (nI 1)), h20)
def p_X7_lies (x1 : Int32) (x2 : Int32) (x3 : Int32) (x4 : Int32) (h : kH) : Option (Int32 × kH) :=
  if x1 < (nI 1) then some ((-1 : Int32), h) else if (nI 4) < x1 then some ((-1 : Int32), h) else if x1 ≤ (h 39 0) then bd2 (p_X7_isRun x2 x3 h) fun v3 h1 => if v3 = 0 then some ((-1 : Int32), h1) else if x4 < (-1 : Int32) then some ((-1 : Int32), h1) else if x4 < x1 then bd (p_X7_burnAfresh x2 x3 h1) fun h4 => bd2 (p_X7_countWays x1 h4) fun v8 h6 => bd2 (p_X4_countWhole 39 h6) fun v11 h9 => fx (fun K83 s => p_X7_lies_83 K83 s.1 s.2.1 s.2.2.1 s.2.2.2.1 s.2.2.2.2.1 s.2.2.2.2.2.1 s.2.2.2.2.2.2.1 s.2.2.2.2.2.2.2.1 s.2.2.2.2.2.2.2.2) FU (x1, x2, x4, v8, v11, (-4 : Int32), (-1 : Int32), (nI 0), h9) else some ((-1 : Int32), h1) else some ((-1 : Int32), h)
def p_X7_rake_45 (K45 : Int32 × Int32 × Int32 × Int32 × kH → Option (Int32 × kH)) (x1 : Int32) (x2 : Int32) (x3 : Int32) (x4 : Int32) (h : kH) : Option (Int32 × kH) :=
  if x1 ≤ x4 then some (x1, h) else bd (p_X2_copyFrom 71 51 h) fun h11 => bd (p_X1_rakeOff 72 h11) fun h13 => bd (p_X7_goOn x4 x1 x2 h13) fun h15 => bd2 (p_X4_countGood 79 28 h15) fun v19 h17 => if v19 < x3 then bd (p_X2_pass 51 28 x2 h17) fun h20 => K45 (x1, x2, x3, (x4 + (nI 1)), h20) else some (x4, h17)
def p_X7_rake (x1 : Int32) (x2 : Int32) (h : kH) : Option (Int32 × kH) :=
  bd2 (p_X7_isRun x1 x2 h) fun v3 h1 => if v3 = 0 then some ((-1 : Int32), h1) else bd (p_X7_tryRun x1 x2 h1) fun h4 => bd2 (p_X4_countGood 79 28 h4) fun v8 h6 => bd (p_X2_copyFrom 51 31 h6) fun h9 => fx (fun K45 s => p_X7_rake_45 K45 s.1 s.2.1 s.2.2.1 s.2.2.2.1 s.2.2.2.2) FU (x1, x2, v8, (nI 0), h9)
def p_X7_black_138 (K32 : Int32 × Int32 × Int32 × Int32 × kH → Option (Int32 × kH)) (x1 : Int32) (x2 : Int32) (x3 : Int32) (x4 : Int32) (h : kH) : Option (Int32 × kH) :=
  bd (p_X2_pass 51 28 x3 h) fun h16 => K32 (x1, x2, x3, (x4 + (nI 1)), h16)
def p_X7_black_32 (K32 : Int32 × Int32 × Int32 × Int32 × kH → Option (Int32 × kH)) (x1 : Int32) (x2 : Int32) (x3 : Int32) (x4 : Int32) (h : kH) : Option (Int32 × kH) :=
  if x2 < x4 then some ((-4 : Int32), h) else gd (inb x1 6) (if (h 67 (x1).toNatClampNeg) = 0 then if (h 68 (x1).toNatClampNeg) = (nI 1) then some ((-4 : Int32), h) else bd (p_X2_copyFrom 71 51 h) fun h10 => bd (p_X1_coverAll 72 h10) fun h12 => bd (p_X7_goOn x4 x2 x3 h12) fun h14 => if (h14 88 (x1).toNatClampNeg) = (nI 2) then bd2 (p_X4_lossOf 79 28 x1 h14) fun v20 h18 => if v20 = 0 then some (x4, h18) else p_X7_black_138 K32 x1 x2 x3 x4 h18 else p_X7_black_138 K32 x1 x2 x3 x4 h14 else some ((-4 : Int32), h))
def p_X7_black (x1 : Int32) (x2 : Int32) (x3 : Int32) (h : kH) : Option (Int32 × kH) :=
  bd2 (p_X7_isPot x1 h) fun v3 h1 => if v3 = 0 then some ((-1 : Int32), h1) else bd2 (p_X7_isRun x2 x3 h1) fun v6 h4 => if v6 = 0 then some ((-1 : Int32), h4) else bd (p_X2_copyFrom 51 31 h4) fun h7 => fx (fun K32 s => p_X7_black_32 K32 s.1 s.2.1 s.2.2.1 s.2.2.2.1 s.2.2.2.2) FU (x1, x2, x3, (nI 0), h7)
def p_X7_isDraw (x0 : Int32) (h : kH) : Option (Int32 × kH) :=
  if x0 < 0 then some ((nI 0), h) else if (nI 10000) ≤ x0 then some ((nI 0), h) else some ((nI 1), h)
def p_X7_tryEvening_13 (K13 : Int32 × Int32 × Int32 × kH → Option (kH)) (x1 : Int32) (x2 : Int32) (x3 : Int32) (h : kH) : Option (kH) :=
  if x2 ≤ x3 then bd (p_X7_passPots (nI 0) x2 h) fun h3 => some h3 else bd2 (p_X5_drawnWind 28 x1 x3 h) fun v7 h5 => bd (p_X1_burn 72 28 v7 h5) fun h8 => bd (p_X1_tell 72 x3 h8) fun h10 => K13 (x1, x2, (x3 + (nI 1)), h10)
def p_X7_tryEvening (x1 : Int32) (x2 : Int32) (h : kH) : Option (kH) :=
  bd (p_X2_copyFrom 71 31 h) fun h1 => fx (fun K13 s => p_X7_tryEvening_13 K13 s.1 s.2.1 s.2.2.1 s.2.2.2) FU (x1, x2, (nI 0), h1)
def p_X7_evening (x1 : Int32) (x2 : Int32) (h : kH) : Option (Int32 × kH) :=
  bd2 (p_X7_isDraw x1 h) fun v3 h1 => if v3 = 0 then some ((-1 : Int32), h1) else bd2 (p_X7_isLength x2 h1) fun v6 h4 => if v6 = 0 then some ((-1 : Int32), h4) else bd (p_X7_tryEvening x1 x2 h4) fun h7 => bd2 (p_X4_countGood 79 28 h7) fun v11 h9 => some (v11, h9)
def p_X7_ten_30 (K30 : Int32 × Int32 × Int32 × Int32 × Int32 × kH → Option (Int32 × kH)) (x1 : Int32) (x2 : Int32) (x3 : Int32) (x4 : Int32) (x5 : Int32) (h : kH) : Option (Int32 × kH) :=
  if (nI 10) ≤ x5 then some (x4, h) else bd (p_X7_tryEvening (krem (x1 + x5) (nI 10000)) x2 h) fun h10 => bd2 (p_X4_lossOf 79 28 x3 h10) fun v14 h12 => if v14 = 0 then K30 (x1, x2, x3, (x4 + (nI 1)), (x5 + (nI 1)), h12) else K30 (x1, x2, x3, x4, (x5 + (nI 1)), h12)
def p_X7_ten (x1 : Int32) (x2 : Int32) (x3 : Int32) (h : kH) : Option (Int32 × kH) :=
  bd2 (p_X7_isDraw x1 h) fun v3 h1 => if v3 = 0 then some ((-1 : Int32), h1) else bd2 (p_X7_isLength x2 h1) fun v6 h4 => if v6 = 0 then some ((-1 : Int32), h4) else bd2 (p_X7_isPot x3 h4) fun v9 h7 => if v9 = 0 then some ((-1 : Int32), h7) else fx (fun K30 s => p_X7_ten_30 K30 s.1 s.2.1 s.2.2.1 s.2.2.2.1 s.2.2.2.2.1 s.2.2.2.2.2) FU (x1, x2, x3, (nI 0), (nI 0), h7)
def p_X7_sherd_160 (K59 : Int32 × Int32 × Int32 × Int32 × Int32 × kH → Option (Int32 × kH)) (K101 : Int32 × Int32 × Int32 × Int32 × Int32 × Int32 × kH → Option (Int32 × kH)) (x1 : Int32) (x2 : Int32) (x3 : Int32) (x4 : Int32) (x5 : Int32) (x6 : Int32) (s0 : Int32) (h : kH) : Option (Int32 × kH) :=
  if s0 = 0 then K101 (x1, x2, x3, x4, x5, (x6 + (nI 30)), h) else bd (p_X6_add x5 x6 h) fun h20 => K101 (x1, x2, x3, x4, x5, (x6 + (nI 30)), h20)
def p_X7_sherd_159 (K59 : Int32 × Int32 × Int32 × Int32 × Int32 × kH → Option (Int32 × kH)) (K101 : Int32 × Int32 × Int32 × Int32 × Int32 × Int32 × kH → Option (Int32 × kH)) (x1 : Int32) (x2 : Int32) (x3 : Int32) (x4 : Int32) (x5 : Int32) (x6 : Int32) (h : kH) : Option (Int32 × kH) :=
  p_X7_sherd_160 K59 K101 x1 x2 x3 x4 x5 x6 (nI 0) h
def p_X7_sherd_101 (K59 : Int32 × Int32 × Int32 × Int32 × Int32 × kH → Option (Int32 × kH)) (K101 : Int32 × Int32 × Int32 × Int32 × Int32 × Int32 × kH → Option (Int32 × kH)) (x1 : Int32) (x2 : Int32) (x3 : Int32) (x4 : Int32) (x5 : Int32) (x6 : Int32) (h : kH) : Option (Int32 × kH) :=
  if (nI 240) < x6 then K59 (x1, x2, x3, x4, (x5 + (nI 10)), h) else bd (p_X7_passPots (x6 - (nI 30)) x6 h) fun h15 => bd2 (p_X4_lossOf 79 28 x1 h15) fun v19 h17 => if v19 = x2 then gd (inb x1 6) (if (h17 88 (x1).toNatClampNeg) = x3 then p_X7_sherd_160 K59 K101 x1 x2 x3 x4 x5 x6 (nI 1) h17 else p_X7_sherd_159 K59 K101 x1 x2 x3 x4 x5 x6 h17) else p_X7_sherd_159 K59 K101 x1 x2 x3 x4 x5 x6 h17
def p_X7_sherd_59 (K59 : Int32 × Int32 × Int32 × Int32 × Int32 × kH → Option (Int32 × kH)) (x1 : Int32) (x2 : Int32) (x3 : Int32) (x4 : Int32) (x5 : Int32) (h : kH) : Option (Int32 × kH) :=
  if (nI 90) < x5 then bd2 (p_X6_told x4 h) fun v10 h8 => some (v10, h8) else bd (p_X4_copyFrom 79 39 h) fun h11 => gd (inb x1 6) (le_ (hs h11 82 (x1).toNatClampNeg x5) fun h14 => fx (fun K101 s => p_X7_sherd_101 K59 K101 s.1 s.2.1 s.2.2.1 s.2.2.2.1 s.2.2.2.2.1 s.2.2.2.2.2.1 s.2.2.2.2.2.2) FU (x1, x2, x3, x4, x5, (nI 30), h14))
def p_X7_sherd (x1 : Int32) (x2 : Int32) (x3 : Int32) (x4 : Int32) (h : kH) : Option (Int32 × kH) :=
  bd2 (p_X7_isPot x1 h) fun v3 h1 => if v3 = 0 then some ((-1 : Int32), h1) else if x2 < 0 then some ((-1 : Int32), h1) else if x2 ≤ (nI 5) then if x3 < 0 then some ((-1 : Int32), h1) else if (nI 2) < x3 then some ((-1 : Int32), h1) else if x4 < 0 then some ((-1 : Int32), h1) else if x4 ≤ (nI 4) then bd (p_X7_burnAfresh (nI 240) (nI 0) h1) fun h4 => bd (p_X6_clear h4) fun h6 => fx (fun K59 s => p_X7_sherd_59 K59 s.1 s.2.1 s.2.2.1 s.2.2.2.1 s.2.2.2.2.1 s.2.2.2.2.2) FU (x1, x2, x3, x4, (nI 0), h6) else some ((-1 : Int32), h1) else some ((-1 : Int32), h1)
def p_X7_keptAt (x1 : Int32) (h : kH) : Option (Nat × kH) :=
  if x1 = 0 then some (91, h) else some (111, h)
def p_X7_keep (h : kH) : Option (Int32 × kH) :=
  if (h 0 9) < (nI 2) then bd2 (p_X7_keptAt (h 0 9) h) fun n3 h1 => bd (p_X2_copyFrom n3 31 h1) fun h4 => le_ (hs h4 0 9 ((h4 0 9) + (nI 1))) fun h6 => some ((h6 0 9), h6) else some ((-3 : Int32), h)
def p_X7_back (h : kH) : Option (Int32 × kH) :=
  if (nI 1) ≤ (h 0 9) then le_ (hs h 0 9 ((h 0 9) - (nI 1))) fun h1 => bd2 (p_X7_keptAt (h1 0 9) h1) fun n4 h2 => bd (p_X2_copyFrom 31 n4 h2) fun h5 => some ((h5 0 9), h5) else some ((-2 : Int32), h)
def p_X7_count (x1 : Int32) (h : kH) : Option (Int32 × kH) :=
  if x1 = (nI 0) then bd2 (p_X5_cells 28 h) fun v3 h1 => some (v3, h1) else if x1 = (nI 1) then some ((h 39 0), h) else if x1 = (nI 2) then some ((h 0 1), h) else if x1 = (nI 3) then some ((h 31 2), h) else if x1 = (nI 4) then some ((h 0 11), h) else if x1 = (nI 5) then some ((h 0 9), h) else some ((-1 : Int32), h)
def p_X8_in (y0 : Int64) (y2 : Int64) (y4 : Int64) (h : kH) : Option (Int32 × kH) :=
  if (lg_cmp y0 y2) < 0 then some ((nI 0), h) else if 0 < (lg_cmp y0 y4) then some ((nI 0), h) else some ((nI 1), h)
def p_X8_write_34 (K34 : Int64 × Int32 × kH → Option (Int32 × kH)) (x2 : Int64) (x4 : Int32) (h : kH) : Option (Int32 × kH) :=
  if x4 < 0 then some ((h 135 0), h) else gd (inb (h 135 0) 500) (le_ (hs h 136 ((h 135 0)).toNatClampNeg (vp_nar .byte (((x2 >>> ((((nI 8) * x4)).toInt64 &&& 63))).toInt32).toInt8.toInt32)) fun h5 => le_ (hs h5 135 0 ((h5 135 0) + (nI 1))) fun h6 => K34 (x2, (x4 + (-1 : Int32)), h6))
def p_X8_write (x1 : Int32) (y2 : Int64) (h : kH) : Option (Int32 × kH) :=
  bd2 (p_X8_in (x1).toInt64 (1 : Int64) (8 : Int64) h) fun v3 h1 => if v3 = 0 then some ((-1 : Int32), h1) else if ((h1 135 0) + x1) ≤ (nI 500) then fx (fun K34 s => p_X8_write_34 K34 s.1 s.2.1 s.2.2) FU (y2, (x1 - (nI 1)), h1) else some ((-3 : Int32), h1)
def p_X8_wipe (h : kH) : Option (Int32 × kH) :=
  le_ (h 135 0) fun v1 => le_ (hs h 135 0 (nI 0)) fun h2 => some (v1, h2)
def p_X8_number_80 (x1 : Int32) (x2 : Int32) (h : kH) : Option (Int32 × kH) :=
  bd2 (p_X8_in (x2).toInt64 (1 : Int64) (3 : Int64) h) fun v3 h1 => if v3 = 0 then some ((-1 : Int32), h1) else some (x1, h1)
def p_X8_number_63 (K4 : Int32 × Int32 × kH → Option (Int32 × kH)) (x2 : Int32) (s0 : Int32) (h : kH) : Option (Int32 × kH) :=
  le_ (hs h 135 2 ((h 135 2) + (nI 1))) fun h8 => K4 (s0, (x2 + (nI 1)), h8)
def p_X8_number_4 (K4 : Int32 × Int32 × kH → Option (Int32 × kH)) (x1 : Int32) (x2 : Int32) (h : kH) : Option (Int32 × kH) :=
  if (h 135 0) ≤ (h 135 2) then p_X8_number_80 x1 x2 h else gd (inb (h 135 2) 500) (bd2 (p_X8_in ((h 136 ((h 135 2)).toNatClampNeg)).toInt64 (48 : Int64) (57 : Int64) h) fun v7 h5 => if v7 = 0 then p_X8_number_80 x1 x2 h5 else if (nI 3) ≤ x2 then p_X8_number_63 K4 x2 x1 h5 else gd (inb (h5 135 2) 500) (p_X8_number_63 K4 x2 ((((nI 10) * x1) + (h5 136 ((h5 135 2)).toNatClampNeg)) - (nI 48)) h5))
def p_X8_number (h : kH) : Option (Int32 × kH) :=
  fx (fun K4 s => p_X8_number_4 K4 s.1 s.2.1 s.2.2) FU ((nI 0), (nI 0), h)
def p_X8_parts (x0 : Int32) (h : kH) : Option (Int32 × kH) :=
  if x0 = (nI 112) then some ((nI 6), h) else if x0 = (nI 99) then some ((nI 4), h) else if x0 = (nI 107) then some ((nI 3), h) else if x0 = (nI 119) then some ((nI 2), h) else if x0 = (nI 111) then some ((nI 2), h) else if x0 = (nI 115) then some ((nI 2), h) else if x0 = (nI 104) then some ((nI 2), h) else if x0 = (nI 100) then some ((nI 2), h) else if x0 = (nI 108) then some ((nI 1), h) else if x0 = (nI 118) then some ((nI 1), h) else some ((nI 0), h)
def p_X8_isIn (x1 : Int32) (x2 : Int32) (x3 : Int32) (h : kH) : Option (Int32 × kH) :=
  gd (inb x1 6) (bd2 (p_X8_in ((h 151 (x1).toNatClampNeg)).toInt64 (x2).toInt64 (x3).toInt64 h) fun v4 h2 => gd (decide (v4 &&& 1 = v4)) (some (v4, h2)))
def p_X8_isPlaced_206 (x2 : Int32) (s0 : Int32) (h : kH) : Option (Int32 × kH) :=
  gd (inb (s0 + x2) 120) (le_ (hs h 142 ((s0 + x2)).toNatClampNeg (nI 1)) fun h5 => some ((nI 1), h5))
def p_X8_isPlaced_142 (K142 : Int32 × kH → Option (Int32 × kH)) (x3 : Int32) (h : kH) : Option (Int32 × kH) :=
  if (nI 6) ≤ x3 then gd (inb (nI 1) 2) (le_ (hs h 138 ((nI 1)).toNatClampNeg ((h 138 ((nI 1)).toNatClampNeg) + (nI 1))) fun h20 => some ((nI 1), h20)) else gd (inb (nI 1) 2) (gd (inb x3 6) (gd (inb (((nI 6) * (h 138 ((nI 1)).toNatClampNeg)) + x3) 36) (le_ (hs h 141 ((((nI 6) * (h 138 ((nI 1)).toNatClampNeg)) + x3)).toNatClampNeg (h 151 (x3).toNatClampNeg)) fun h24 => K142 ((x3 + (nI 1)), h24))))
def p_X8_isPlaced (x1 : Int32) (h : kH) : Option (Int32 × kH) :=
  gd (inb (nI 0) 6) (gd (inb (nI 1) 6) (le_ ((h 151 ((nI 0)).toNatClampNeg) + ((nI 6) * (h 151 ((nI 1)).toNatClampNeg))) fun v3 => if x1 = (nI 99) then bd2 (p_X8_isIn (nI 2) (nI 0) (nI 2) h) fun v27 h25 => if v27 = 0 then some ((nI 0), h25) else bd2 (p_X8_isIn (nI 3) (nI 0) (nI 199) h25) fun v30 h28 => if v30 = 0 then some ((nI 0), h28) else gd (inb (nI 3) 6) (gd (inb v3 120) (le_ (hs h28 142 (v3).toNatClampNeg (h28 151 ((nI 3)).toNatClampNeg)) fun h33 => gd (inb (nI 2) 6) (gd (inb ((nI 30) + v3) 120) (le_ (hs h33 142 (((nI 30) + v3)).toNatClampNeg (h33 151 ((nI 2)).toNatClampNeg)) fun h36 => some ((nI 1), h36))))) else if x1 = (nI 112) then bd2 (p_X8_isIn (nI 2) (nI 1) (nI 9) h) fun v8 h6 => if v8 = 0 then some ((nI 0), h6) else bd2 (p_X8_isIn (nI 3) (nI 0) (nI 99) h6) fun v11 h9 => if v11 = 0 then some ((nI 0), h9) else bd2 (p_X8_isIn (nI 4) (nI 0) (nI 9) h9) fun v14 h12 => if v14 = 0 then some ((nI 0), h12) else bd2 (p_X8_isIn (nI 5) (nI 1) (nI 99) h12) fun v17 h15 => if v17 = 0 then some ((nI 0), h15) else gd (inb (nI 1) 2) (if (h15 138 ((nI 1)).toNatClampNeg) = (nI 6) then some ((nI 0), h15) else fx (fun K142 s => p_X8_isPlaced_142 K142 s.1 s.2) FU ((nI 0), h15)) else if x1 = (nI 111) then p_X8_isPlaced_206 v3 (nI 60) h else p_X8_isPlaced_206 v3 (nI 90) h))
def p_X8_isGood (x1 : Int32) (h : kH) : Option (Int32 × kH) :=
  if x1 = (nI 119) then gd (inb (nI 0) 6) (gd (inb (nI 14) 28) (le_ (hs h 137 ((nI 14)).toNatClampNeg (h 151 ((nI 0)).toNatClampNeg)) fun h66 => gd (inb (nI 1) 6) (gd (inb (nI 15) 28) (le_ (hs h66 137 ((nI 15)).toNatClampNeg (h66 151 ((nI 1)).toNatClampNeg)) fun h69 => bd2 (p_X8_isIn (nI 0) (nI 2) (nI 6) h69) fun v72 h70 => if v72 = 0 then some ((nI 0), h70) else bd2 (p_X8_isIn (nI 1) (nI 2) (nI 5) h70) fun v75 h73 => if v75 = 0 then some ((nI 0), h73) else some ((nI 1), h73))))) else if x1 = (nI 107) then bd2 (p_X8_isIn (nI 0) (nI 0) (nI 2) h) fun v50 h48 => if v50 = 0 then some ((nI 0), h48) else gd (inb (nI 0) 6) (gd (inb (nI 1) 6) (gd (inb ((nI 22) + (h48 151 ((nI 0)).toNatClampNeg)) 28) (le_ (hs h48 137 (((nI 22) + (h48 151 ((nI 0)).toNatClampNeg))).toNatClampNeg (h48 151 ((nI 1)).toNatClampNeg)) fun h54 => gd (inb (nI 2) 6) (gd (inb ((nI 25) + (h54 151 ((nI 0)).toNatClampNeg)) 28) (le_ (hs h54 137 (((nI 25) + (h54 151 ((nI 0)).toNatClampNeg))).toNatClampNeg (h54 151 ((nI 2)).toNatClampNeg)) fun h57 => bd2 (p_X8_isIn (nI 1) (nI 1) (nI 20) h57) fun v60 h58 => if v60 = 0 then some ((nI 0), h58) else bd2 (p_X8_isIn (nI 2) (nI 1) (nI 60) h58) fun v63 h61 => if v63 = 0 then some ((nI 0), h61) else some ((nI 1), h61)))))) else if x1 = (nI 108) then gd (inb (nI 0) 6) (gd (inb (nI 16) 28) (le_ (hs h 137 ((nI 16)).toNatClampNeg (h 151 ((nI 0)).toNatClampNeg)) fun h43 => bd2 (p_X8_isIn (nI 0) (nI 1) (nI 30) h43) fun v46 h44 => gd (decide (v46 &&& 1 = v46)) (some (v46, h44)))) else if x1 = (nI 118) then gd (inb (nI 0) 6) (gd (inb (nI 21) 28) (le_ (hs h 137 ((nI 21)).toNatClampNeg (h 151 ((nI 0)).toNatClampNeg)) fun h36 => bd2 (p_X8_isIn (nI 0) (nI 0) (nI 9) h36) fun v39 h37 => gd (decide (v39 &&& 1 = v39)) (some (v39, h37)))) else if x1 = (nI 104) then gd (inb (nI 0) 6) (gd (inb (nI 17) 28) (le_ (hs h 137 ((nI 17)).toNatClampNeg (h 151 ((nI 0)).toNatClampNeg)) fun h24 => gd (inb (nI 1) 6) (gd (inb (nI 18) 28) (le_ (hs h24 137 ((nI 18)).toNatClampNeg (h24 151 ((nI 1)).toNatClampNeg)) fun h27 => bd2 (p_X8_isIn (nI 0) (nI 30) (nI 99) h27) fun v30 h28 => if v30 = 0 then some ((nI 0), h28) else bd2 (p_X8_isIn (nI 1) (nI 1) (nI 60) h28) fun v33 h31 => if v33 = 0 then some ((nI 0), h31) else some ((nI 1), h31))))) else if x1 = (nI 100) then gd (inb (nI 0) 6) (gd (inb (nI 19) 28) (le_ (hs h 137 ((nI 19)).toNatClampNeg (h 151 ((nI 0)).toNatClampNeg)) fun h12 => gd (inb (nI 1) 6) (gd (inb (nI 20) 28) (le_ (hs h12 137 ((nI 20)).toNatClampNeg (h12 151 ((nI 1)).toNatClampNeg)) fun h15 => bd2 (p_X8_isIn (nI 0) (nI 10) (nI 300) h15) fun v18 h16 => if v18 = 0 then some ((nI 0), h16) else bd2 (p_X8_isIn (nI 1) (nI 10) (nI 300) h16) fun v21 h19 => if v21 = 0 then some ((nI 0), h19) else some ((nI 1), h19))))) else bd2 (p_X8_isIn (nI 0) (nI 0) (nI 5) h) fun v3 h1 => if v3 = 0 then some ((nI 0), h1) else bd2 (p_X8_isIn (nI 1) (nI 0) (nI 4) h1) fun v6 h4 => if v6 = 0 then some ((nI 0), h4) else bd2 (p_X8_isPlaced x1 h4) fun v9 h7 => if v9 = 0 then some ((nI 0), h7) else some ((nI 1), h7)
def p_X8_isItem_178 (x1 : Int32) (s0 : Int32) (h : kH) : Option (Int32 × kH) :=
  le_ (hs h 135 2 ((h 135 2) + (nI 1))) fun h7 => if s0 = 0 then some ((nI 0), h7) else bd2 (p_X8_isGood x1 h7) fun v10 h8 => if v10 = 0 then some ((nI 0), h8) else some ((nI 1), h8)
def p_X8_isItem_177 (x1 : Int32) (h : kH) : Option (Int32 × kH) :=
  p_X8_isItem_178 x1 (nI 0) h
def p_X8_isItem_144 (x1 : Int32) (x3 : Int32) (h : kH) : Option (Int32 × kH) :=
  if x3 = 0 then p_X8_isItem_177 x1 h else if (h 135 0) ≤ (h 135 2) then p_X8_isItem_177 x1 h else gd (inb (h 135 2) 500) (if (h 136 ((h 135 2)).toNatClampNeg) = (nI 59) then p_X8_isItem_178 x1 (nI 1) h else p_X8_isItem_177 x1 h)
def p_X8_isItem_137 (K38 : Int32 × Int32 × Int32 × Int32 × kH → Option (Int32 × kH)) (x1 : Int32) (x2 : Int32) (x4 : Int32) (s0 : Int32) (h : kH) : Option (Int32 × kH) :=
  K38 (x1, x2, s0, (x4 + (nI 1)), h)
def p_X8_isItem_121 (K38 : Int32 × Int32 × Int32 × Int32 × kH → Option (Int32 × kH)) (x1 : Int32) (x2 : Int32) (x4 : Int32) (s0 : Int32) (s1 : Int32) (h : kH) : Option (Int32 × kH) :=
  gd (inb s1 6) (le_ (hs h 151 (s1).toNatClampNeg s0) fun h14 => gd (inb x4 6) (if (h14 151 (x4).toNatClampNeg) < 0 then p_X8_isItem_137 K38 x1 x2 x4 (nI 0) h14 else p_X8_isItem_137 K38 x1 x2 x4 (nI 1) h14))
def p_X8_isItem_99 (K38 : Int32 × Int32 × Int32 × Int32 × kH → Option (Int32 × kH)) (x1 : Int32) (x2 : Int32) (x3 : Int32) (x4 : Int32) (s0 : Int32) (s1 : Int32) (h : kH) : Option (Int32 × kH) :=
  le_ (hs h 135 2 (s1 + s0)) fun h12 => if x3 = 0 then p_X8_isItem_121 K38 x1 x2 x4 (-1 : Int32) x4 h12 else bd2 (p_X8_number h12) fun v18 h16 => p_X8_isItem_121 K38 x1 x2 x4 v18 x4 h16
def p_X8_isItem_83 (K38 : Int32 × Int32 × Int32 × Int32 × kH → Option (Int32 × kH)) (x1 : Int32) (x2 : Int32) (x4 : Int32) (s0 : Int32) (h : kH) : Option (Int32 × kH) :=
  if x4 = 0 then p_X8_isItem_99 K38 x1 x2 s0 x4 (nI 0) (h 135 2) h else p_X8_isItem_99 K38 x1 x2 s0 x4 (nI 1) (h 135 2) h
def p_X8_isItem_78 (K38 : Int32 × Int32 × Int32 × Int32 × kH → Option (Int32 × kH)) (x1 : Int32) (x2 : Int32) (x4 : Int32) (h : kH) : Option (Int32 × kH) :=
  p_X8_isItem_83 K38 x1 x2 x4 (nI 1) h
def p_X8_isItem_82 (K38 : Int32 × Int32 × Int32 × Int32 × kH → Option (Int32 × kH)) (x1 : Int32) (x2 : Int32) (x4 : Int32) (h : kH) : Option (Int32 × kH) :=
  p_X8_isItem_83 K38 x1 x2 x4 (nI 0) h
def p_X8_isItem_38 (K38 : Int32 × Int32 × Int32 × Int32 × kH → Option (Int32 × kH)) (x1 : Int32) (x2 : Int32) (x3 : Int32) (x4 : Int32) (h : kH) : Option (Int32 × kH) :=
  if x2 ≤ x4 then p_X8_isItem_144 x1 x3 h else if x3 = 0 then p_X8_isItem_144 x1 x3 h else if x4 = 0 then p_X8_isItem_78 K38 x1 x2 x4 h else if (h 135 0) ≤ (h 135 2) then p_X8_isItem_82 K38 x1 x2 x4 h else gd (inb (h 135 2) 500) (if (h 136 ((h 135 2)).toNatClampNeg) = (nI 44) then p_X8_isItem_78 K38 x1 x2 x4 h else p_X8_isItem_82 K38 x1 x2 x4 h)
def p_X8_isItem_34 (x1 : Int32) (x2 : Int32) (s0 : Int32) (h : kH) : Option (Int32 × kH) :=
  fx (fun K38 s => p_X8_isItem_38 K38 s.1 s.2.1 s.2.2.1 s.2.2.2.1 s.2.2.2.2) FU (x1, x2, s0, (nI 0), h)
def p_X8_isItem (h : kH) : Option (Int32 × kH) :=
  gd (inb (h 135 2) 500) (le_ (h 136 ((h 135 2)).toNatClampNeg) fun v2 => le_ (hs h 135 2 ((h 135 2) + (nI 1))) fun h3 => bd2 (p_X8_parts v2 h3) fun v6 h4 => if v6 ≤ 0 then p_X8_isItem_34 v2 v6 (nI 0) h4 else p_X8_isItem_34 v2 v6 (nI 1) h4)
def p_X8_begins_9 (K9 : Int32 × kH → Option (kH)) (x1 : Int32) (h : kH) : Option (kH) :=
  if (nI 120) ≤ x1 then gd (inb (nI 14) 28) (le_ (hs h 137 ((nI 14)).toNatClampNeg (nI 4)) fun h4 => gd (inb (nI 15) 28) (le_ (hs h4 137 ((nI 15)).toNatClampNeg (nI 3)) fun h6 => gd (inb (nI 16) 28) (le_ (hs h6 137 ((nI 16)).toNatClampNeg (nI 8)) fun h8 => gd (inb (nI 17) 28) (le_ (hs h8 137 ((nI 17)).toNatClampNeg (nI 75)) fun h10 => gd (inb (nI 18) 28) (le_ (hs h10 137 ((nI 18)).toNatClampNeg (nI 10)) fun h12 => gd (inb (nI 19) 28) (le_ (hs h12 137 ((nI 19)).toNatClampNeg (nI 60)) fun h14 => gd (inb (nI 20) 28) (le_ (hs h14 137 ((nI 20)).toNatClampNeg (nI 90)) fun h16 => gd (inb (nI 21) 28) (le_ (hs h16 137 ((nI 21)).toNatClampNeg (nI 0)) fun h18 => gd (inb (nI 22) 28) (le_ (hs h18 137 ((nI 22)).toNatClampNeg (nI 6)) fun h20 => gd (inb (nI 23) 28) (le_ (hs h20 137 ((nI 23)).toNatClampNeg (nI 2)) fun h22 => gd (inb (nI 24) 28) (le_ (hs h22 137 ((nI 24)).toNatClampNeg (nI 15)) fun h24 => gd (inb (nI 25) 28) (le_ (hs h24 137 ((nI 25)).toNatClampNeg (nI 20)) fun h26 => gd (inb (nI 26) 28) (le_ (hs h26 137 ((nI 26)).toNatClampNeg (nI 40)) fun h28 => gd (inb (nI 27) 28) (le_ (hs h28 137 ((nI 27)).toNatClampNeg (nI 8)) fun h30 => some h30)))))))))))))) else gd (inb x1 120) (le_ (hs h 142 (x1).toNatClampNeg (nI 0)) fun h32 => K9 ((x1 + (nI 1)), h32))
def p_X8_begins (h : kH) : Option (kH) :=
  gd (inb (nI 1) 2) (le_ (hs h 138 ((nI 1)).toNatClampNeg (nI 0)) fun h2 => fx (fun K9 s => p_X8_begins_9 K9 s.1 s.2) FU ((nI 0), h2))
def p_X8_cells (h : kH) : Option (Int32 × kH) :=
  gd (inb (nI 0) 28) (gd (inb (nI 1) 28) (some (((h 137 ((nI 0)).toNatClampNeg) * (h 137 ((nI 1)).toNatClampNeg)), h)))
def p_X8_takes_179 (K179 : Int32 × kH → Option (kH)) (x1 : Int32) (h : kH) : Option (kH) :=
  gd (inb (nI 0) 2) (if (h 138 ((nI 0)).toNatClampNeg) ≤ x1 then le_ (hs h 135 11 (nI 0)) fun h8 => le_ (hs h8 135 10 (nI 0)) fun h9 => some h9 else le_ ((nI 150) + ((nI 8) * x1)) fun v10 => gd (inb ((nI 6) * x1) 36) (gd (inb (nI 0) 28) (gd (inb (((nI 6) * x1) + (nI 1)) 36) (gd (inb (v10 + (nI 0)) 800) (le_ (hs h 143 ((v10 + (nI 0))).toNatClampNeg ((h 141 (((nI 6) * x1)).toNatClampNeg) + ((h 137 ((nI 0)).toNatClampNeg) * (h 141 ((((nI 6) * x1) + (nI 1))).toNatClampNeg)))) fun h15 => gd (inb (v10 + (nI 1)) 800) (le_ (hs h15 143 ((v10 + (nI 1))).toNatClampNeg (nI 20)) fun h17 => gd (inb (((nI 6) * x1) + (nI 3)) 36) (gd (inb (v10 + (nI 2)) 800) (le_ (hs h17 143 ((v10 + (nI 2))).toNatClampNeg (h17 141 ((((nI 6) * x1) + (nI 3))).toNatClampNeg)) fun h20 => gd (inb (((nI 6) * x1) + (nI 4)) 36) (gd (inb (v10 + (nI 7)) 800) (le_ (hs h20 143 ((v10 + (nI 7))).toNatClampNeg (h20 141 ((((nI 6) * x1) + (nI 4))).toNatClampNeg)) fun h23 => gd (inb (((nI 6) * x1) + (nI 2)) 36) (gd (inb x1 6) (le_ (hs h23 139 (x1).toNatClampNeg (h23 141 ((((nI 6) * x1) + (nI 2))).toNatClampNeg)) fun h26 => gd (inb (((nI 6) * x1) + (nI 5)) 36) (le_ (hs h26 140 (x1).toNatClampNeg (h26 141 ((((nI 6) * x1) + (nI 5))).toNatClampNeg)) fun h28 => K179 ((x1 + (nI 1)), h28))))))))))))))
def p_X8_takes_65 (K65 : Int32 × kH → Option (kH)) (x1 : Int32) (h : kH) : Option (kH) :=
  bd2 (p_X8_cells h) fun v6 h4 => if v6 ≤ x1 then fx (fun K179 s => p_X8_takes_179 K179 s.1 s.2) FU ((nI 0), h4) else gd (inb (nI 0) 28) (gd (decide (¬ (h4 137 ((nI 0)).toNatClampNeg) = 0)) (gd (decide (¬ (h4 137 ((nI 0)).toNatClampNeg) = 0)) (le_ ((krem x1 (h4 137 ((nI 0)).toNatClampNeg)) + ((nI 6) * (x1 / (h4 137 ((nI 0)).toNatClampNeg)))) fun v32 => gd (inb x1 800) (le_ (hs h4 143 (x1).toNatClampNeg (nI 20)) fun h34 => gd (inb v32 120) (gd (inb ((nI 30) + x1) 800) (le_ (hs h34 143 (((nI 30) + x1)).toNatClampNeg (h34 142 (v32).toNatClampNeg)) fun h37 => gd (inb ((nI 30) + v32) 120) (gd (inb ((nI 60) + x1) 800) (le_ (hs h37 143 (((nI 60) + x1)).toNatClampNeg (h37 142 (((nI 30) + v32)).toNatClampNeg)) fun h40 => gd (inb ((nI 60) + v32) 120) (gd (inb ((nI 90) + x1) 800) (le_ (hs h40 143 (((nI 90) + x1)).toNatClampNeg (h40 142 (((nI 60) + v32)).toNatClampNeg)) fun h43 => gd (inb ((nI 90) + v32) 120) (gd (inb ((nI 120) + x1) 800) (le_ (hs h43 143 (((nI 120) + x1)).toNatClampNeg (h43 142 (((nI 90) + v32)).toNatClampNeg)) fun h46 => K65 ((x1 + (nI 1)), h46)))))))))))))
def p_X8_takes_43 (K43 : Int32 × kH → Option (kH)) (x1 : Int32) (h : kH) : Option (kH) :=
  if (nI 200) ≤ x1 then fx (fun K65 s => p_X8_takes_65 K65 s.1 s.2) FU ((nI 0), h) else gd (inb x1 800) (le_ (hs h 143 (x1).toNatClampNeg (nI 0)) fun h48 => K43 ((x1 + (nI 1)), h48))
def p_X8_takes_2 (K2 : Int32 × kH → Option (kH)) (x1 : Int32) (h : kH) : Option (kH) :=
  if (nI 14) ≤ x1 then gd (inb (nI 1) 2) (gd (inb (nI 0) 2) (le_ (hs h 138 ((nI 0)).toNatClampNeg (h 138 ((nI 1)).toNatClampNeg)) fun h3 => fx (fun K43 s => p_X8_takes_43 K43 s.1 s.2) FU ((nI 0), h3))) else gd (inb ((nI 14) + x1) 28) (gd (inb x1 28) (le_ (hs h 137 (x1).toNatClampNeg (h 137 (((nI 14) + x1)).toNatClampNeg)) fun h51 => K2 ((x1 + (nI 1)), h51)))
def p_X8_takes (h : kH) : Option (kH) :=
  fx (fun K2 s => p_X8_takes_2 K2 s.1 s.2) FU ((nI 0), h)
def p_X8_fault_9 (K9 : kH → Option (Int32 × kH)) (h : kH) : Option (Int32 × kH) :=
  if (h 135 0) ≤ (h 135 2) then some ((-4 : Int32), h) else le_ (h 135 2) fun v4 => bd2 (p_X8_isItem h) fun v7 h5 => if v7 = 0 then some (v4, h5) else K9 (h5)
def p_X8_fault (h : kH) : Option (Int32 × kH) :=
  le_ (hs h 135 2 (nI 0)) fun h1 => bd (p_X8_begins h1) fun h2 => fx (fun K9 s => p_X8_fault_9 K9 s) FU (h2)
def p_X8_lay_139 (K14 : Int32 × kH → Option (Int32 × kH)) (x1 : Int32) (x2 : Int32) (h : kH) : Option (Int32 × kH) :=
  if x2 = 0 then some ((-2 : Int32), h) else K14 ((x1 + (nI 1)), h)
def p_X8_lay_132 (K14 : Int32 × kH → Option (Int32 × kH)) (K72 : Int32 × Int32 × Int32 × kH → Option (Int32 × kH)) (x1 : Int32) (x3 : Int32) (s0 : Int32) (h : kH) : Option (Int32 × kH) :=
  K72 (x1, s0, (x3 + (nI 1)), h)
def p_X8_lay_127 (K14 : Int32 × kH → Option (Int32 × kH)) (K72 : Int32 × Int32 × Int32 × kH → Option (Int32 × kH)) (x1 : Int32) (x3 : Int32) (h : kH) : Option (Int32 × kH) :=
  p_X8_lay_132 K14 K72 x1 x3 (nI 1) h
def p_X8_lay_72 (K14 : Int32 × kH → Option (Int32 × kH)) (K72 : Int32 × Int32 × Int32 × kH → Option (Int32 × kH)) (x1 : Int32) (x2 : Int32) (x3 : Int32) (h : kH) : Option (Int32 × kH) :=
  if x1 ≤ x3 then p_X8_lay_139 K14 x1 x2 h else if x2 = 0 then p_X8_lay_139 K14 x1 x2 h else gd (inb ((nI 6) * x1) 36) (gd (inb ((nI 6) * x3) 36) (if (h 141 (((nI 6) * x1)).toNatClampNeg) = (h 141 (((nI 6) * x3)).toNatClampNeg) then gd (inb (((nI 6) * x1) + (nI 1)) 36) (gd (inb (((nI 6) * x3) + (nI 1)) 36) (if (h 141 ((((nI 6) * x1) + (nI 1))).toNatClampNeg) = (h 141 ((((nI 6) * x3) + (nI 1))).toNatClampNeg) then p_X8_lay_132 K14 K72 x1 x3 (nI 0) h else p_X8_lay_127 K14 K72 x1 x3 h)) else p_X8_lay_127 K14 K72 x1 x3 h))
def p_X8_lay_69 (K14 : Int32 × kH → Option (Int32 × kH)) (x1 : Int32) (s0 : Int32) (h : kH) : Option (Int32 × kH) :=
  fx (fun K72 s => p_X8_lay_72 K14 K72 s.1 s.2.1 s.2.2.1 s.2.2.2) FU (x1, s0, (nI 0), h)
def p_X8_lay_68 (K14 : Int32 × kH → Option (Int32 × kH)) (x1 : Int32) (h : kH) : Option (Int32 × kH) :=
  p_X8_lay_69 K14 x1 (nI 0) h
def p_X8_lay_14 (K14 : Int32 × kH → Option (Int32 × kH)) (x1 : Int32) (h : kH) : Option (Int32 × kH) :=
  gd (inb (nI 1) 2) (if (h 138 ((nI 1)).toNatClampNeg) ≤ x1 then bd (p_X8_takes h) fun h5 => bd2 (p_X8_cells h5) fun v9 h7 => some (v9, h7) else gd (inb ((nI 6) * x1) 36) (gd (inb (nI 14) 28) (if (h 137 ((nI 14)).toNatClampNeg) ≤ (h 141 (((nI 6) * x1)).toNatClampNeg) then p_X8_lay_68 K14 x1 h else gd (inb (((nI 6) * x1) + (nI 1)) 36) (gd (inb (nI 15) 28) (if (h 137 ((nI 15)).toNatClampNeg) ≤ (h 141 ((((nI 6) * x1) + (nI 1))).toNatClampNeg) then p_X8_lay_68 K14 x1 h else p_X8_lay_69 K14 x1 (nI 1) h)))))
def p_X8_lay (h : kH) : Option (Int32 × kH) :=
  bd2 (p_X8_fault h) fun v3 h1 => if v3 = (-4 : Int32) then fx (fun K14 s => p_X8_lay_14 K14 s.1 s.2) FU ((nI 0), h1) else some ((-2 : Int32), h1)
def p_X8_isCell (x1 : Int32) (h : kH) : Option (Int32 × kH) :=
  bd2 (p_X8_cells h) fun v3 h1 => bd2 (p_X8_in (x1).toInt64 (0 : Int64) ((v3 - (nI 1))).toInt64 h1) fun v6 h4 => gd (decide (v6 &&& 1 = v6)) (some (v6, h4))
def p_X8_isPot (x1 : Int32) (h : kH) : Option (Int32 × kH) :=
  gd (inb (nI 0) 2) (bd2 (p_X8_in (x1).toInt64 (0 : Int64) (((h 138 ((nI 0)).toNatClampNeg) - (nI 1))).toInt64 h) fun v4 h2 => gd (decide (v4 &&& 1 = v4)) (some (v4, h2)))
def p_X8_copies_2 (K2 : Int32 × Int32 × Int32 × kH → Option (kH)) (x1 : Int32) (x2 : Int32) (x3 : Int32) (h : kH) : Option (kH) :=
  if (nI 200) ≤ x3 then some h else gd (inb (((nI 200) * x1) + x3) 800) (gd (inb (((nI 200) * x2) + x3) 800) (le_ (hs h 143 ((((nI 200) * x2) + x3)).toNatClampNeg (h 143 ((((nI 200) * x1) + x3)).toNatClampNeg)) fun h3 => K2 (x1, x2, (x3 + (nI 1)), h3)))
def p_X8_copies (x1 : Int32) (x2 : Int32) (h : kH) : Option (kH) :=
  fx (fun K2 s => p_X8_copies_2 K2 s.1 s.2.1 s.2.2.1 s.2.2.2) FU (x1, x2, (nI 0), h)
def p_X8_potAt (x0 : Int32) (x1 : Int32) (h : kH) : Option (Int32 × kH) :=
  some (((((nI 200) * x0) + (nI 150)) + ((nI 8) * x1)), h)
def p_X8_isWhole (x1 : Int32) (x2 : Int32) (h : kH) : Option (Int32 × kH) :=
  bd2 (p_X8_potAt x1 x2 h) fun v3 h1 => gd (inb (v3 + (nI 4)) 800) (if (h1 143 ((v3 + (nI 4))).toNatClampNeg) = 0 then some ((nI 1), h1) else some ((nI 0), h1))
def p_X8_lossOf (x1 : Int32) (x2 : Int32) (h : kH) : Option (Int32 × kH) :=
  bd2 (p_X8_potAt x1 x2 h) fun v3 h1 => gd (inb (v3 + (nI 4)) 800) (if (h1 143 ((v3 + (nI 4))).toNatClampNeg) ≤ 0 then gd (inb (v3 + (nI 3)) 800) (gd (inb (nI 4) 28) (if (h1 143 ((v3 + (nI 3))).toNatClampNeg) < (h1 137 ((nI 4)).toNatClampNeg) then some ((nI 5), h1) else some ((nI 0), h1))) else some ((h1 143 ((v3 + (nI 4))).toNatClampNeg), h1))
def p_X8_cell_41 (K41 : Int32 × Int32 × kH → Option (Int32 × kH)) (x1 : Int32) (x3 : Int32) (h : kH) : Option (Int32 × kH) :=
  gd (inb (nI 0) 2) (if (h 138 ((nI 0)).toNatClampNeg) ≤ x3 then some ((-4 : Int32), h) else bd2 (p_X8_isWhole (nI 0) x3 h) fun v10 h8 => if v10 = 0 then K41 (x1, (x3 + (nI 1)), h8) else bd2 (p_X8_potAt (nI 0) x3 h8) fun v13 h11 => gd (inb (v13 + (nI 0)) 800) (if (h11 143 ((v13 + (nI 0))).toNatClampNeg) = x1 then some (x3, h11) else K41 (x1, (x3 + (nI 1)), h11)))
def p_X8_cell (x1 : Int32) (x2 : Int32) (h : kH) : Option (Int32 × kH) :=
  bd2 (p_X8_isCell x1 h) fun v3 h1 => if v3 = 0 then some ((-1 : Int32), h1) else bd2 (p_X8_in (x2).toInt64 (0 : Int64) (5 : Int64) h1) fun v6 h4 => if v6 = 0 then some ((-1 : Int32), h4) else if (nI 5) ≤ x2 then fx (fun K41 s => p_X8_cell_41 K41 s.1 s.2.1 s.2.2) FU (x1, (nI 0), h4) else gd (inb (((nI 30) * x2) + x1) 800) (some ((h4 143 ((((nI 30) * x2) + x1)).toNatClampNeg), h4))
def p_X8_pot (x1 : Int32) (x2 : Int32) (h : kH) : Option (Int32 × kH) :=
  bd2 (p_X8_isPot x1 h) fun v3 h1 => if v3 = 0 then some ((-1 : Int32), h1) else bd2 (p_X8_in (x2).toInt64 (0 : Int64) (5 : Int64) h1) fun v6 h4 => if v6 = 0 then some ((-1 : Int32), h4) else if x2 = (nI 4) then bd2 (p_X8_lossOf (nI 0) x1 h4) fun v13 h11 => some (v13, h11) else bd2 (p_X8_potAt (nI 0) x1 h4) fun v9 h7 => gd (inb (v9 + x2) 800) (some ((h7 143 ((v9 + x2)).toNatClampNeg), h7))
def p_X8_burns_91 (K8 : Int32 × Int32 × kH → Option (kH)) (x2 : Int32) (x3 : Int32) (x4 : Int32) (s0 : Int32) (h : kH) : Option (kH) :=
  gd (inb ((x2 + (nI 30)) + x3) 800) (le_ (hs h 143 (((x2 + (nI 30)) + x3)).toNatClampNeg ((h 143 (((x2 + (nI 30)) + x3)).toNatClampNeg) - s0)) fun h11 => gd (inb (x2 + x3) 800) (gd (inb ((nI 11) + x4) 28) (le_ (hs h11 143 ((x2 + x3)).toNatClampNeg ((h11 143 ((x2 + x3)).toNatClampNeg) + (s0 * (h11 137 (((nI 11) + x4)).toNatClampNeg)))) fun h14 => gd (inb x3 30) (le_ (hs h14 145 (x3).toNatClampNeg (nI 0)) fun h16 => K8 (x2, (x3 + (nI 1)), h16)))))
def p_X8_burns_57 (K8 : Int32 × Int32 × kH → Option (kH)) (x2 : Int32) (x3 : Int32) (x4 : Int32) (s0 : Int32) (h : kH) : Option (kH) :=
  gd (inb ((x2 + (nI 30)) + x3) 800) (if s0 ≤ (h 143 (((x2 + (nI 30)) + x3)).toNatClampNeg) then p_X8_burns_91 K8 x2 x3 x4 s0 h else p_X8_burns_91 K8 x2 x3 x4 (h 143 (((x2 + (nI 30)) + x3)).toNatClampNeg) h)
def p_X8_burns_8 (K8 : Int32 × Int32 × kH → Option (kH)) (x2 : Int32) (x3 : Int32) (h : kH) : Option (kH) :=
  bd2 (p_X8_cells h) fun v4 h2 => if v4 ≤ x3 then some h2 else gd (inb ((x2 + (nI 60)) + x3) 800) (le_ (h2 143 (((x2 + (nI 60)) + x3)).toNatClampNeg) fun v6 => gd (inb ((x2 + (nI 90)) + x3) 800) (if (h2 143 (((x2 + (nI 90)) + x3)).toNatClampNeg) = 0 then p_X8_burns_57 K8 x2 x3 v6 (nI 0) h2 else gd (inb ((nI 8) + v6) 28) (p_X8_burns_57 K8 x2 x3 v6 (h2 137 (((nI 8) + v6)).toNatClampNeg) h2)))
def p_X8_burns (x1 : Int32) (h : kH) : Option (kH) :=
  le_ ((nI 200) * x1) fun v1 => fx (fun K8 s => p_X8_burns_8 K8 s.1 s.2.1 s.2.2) FU (v1, (nI 0), h)
def p_X8_spreads_333 (K177 : Int32 × Int32 × Int32 × kH → Option (kH)) (x2 : Int32) (x3 : Int32) (x4 : Int32) (s0 : Int32) (s1 : Int32) (h : kH) : Option (kH) :=
  gd (inb s1 800) (le_ (hs h 143 (s1).toNatClampNeg s0) fun h20 => K177 (x2, x3, (x4 + (nI 1)), h20))
def p_X8_spreads_290 (K177 : Int32 × Int32 × Int32 × kH → Option (kH)) (x2 : Int32) (x3 : Int32) (x4 : Int32) (s0 : Int32) (s1 : Int32) (h : kH) : Option (kH) :=
  gd (inb s1 800) (le_ (hs h 143 (s1).toNatClampNeg s0) fun h16 => gd (inb (x3 + x4) 800) (if (h16 143 ((x3 + x4)).toNatClampNeg) < (nI 200) then gd (inb ((x3 + (nI 90)) + x4) 800) (p_X8_spreads_333 K177 x2 x3 x4 (h16 143 (((x3 + (nI 90)) + x4)).toNatClampNeg) ((x3 + (nI 90)) + x4) h16) else p_X8_spreads_333 K177 x2 x3 x4 (nI 1) ((x3 + (nI 90)) + x4) h16))
def p_X8_spreads_251 (K177 : Int32 × Int32 × Int32 × kH → Option (kH)) (x2 : Int32) (x3 : Int32) (x4 : Int32) (s0 : Int32) (s1 : Int32) (h : kH) : Option (kH) :=
  le_ (s1 - s0) fun v14 => if v14 ≤ (nI 3000) then if (nI 20) ≤ v14 then p_X8_spreads_290 K177 x2 x3 x4 v14 (x3 + x4) h else p_X8_spreads_290 K177 x2 x3 x4 (nI 20) (x3 + x4) h else p_X8_spreads_290 K177 x2 x3 x4 (nI 3000) (x3 + x4) h
def p_X8_spreads_177 (K177 : Int32 × Int32 × Int32 × kH → Option (kH)) (x2 : Int32) (x3 : Int32) (x4 : Int32) (h : kH) : Option (kH) :=
  bd2 (p_X8_cells h) fun v7 h5 => if v7 ≤ x4 then some h5 else gd (inb (x3 + x4) 800) (gd (inb x4 30) (le_ ((h5 143 ((x3 + x4)).toNatClampNeg) + (h5 145 (x4).toNatClampNeg)) fun v10 => gd (inb (nI 2) 28) (le_ (((v10 - (nI 20)) * ((h5 137 ((nI 2)).toNatClampNeg) + x2)) / (nI 100)) fun v12 => gd (inb ((x3 + (nI 120)) + x4) 800) (if (h5 143 (((x3 + (nI 120)) + x4)).toNatClampNeg) = (nI 1) then p_X8_spreads_251 K177 x2 x3 x4 (v12 / (nI 2)) v10 h5 else p_X8_spreads_251 K177 x2 x3 x4 v12 v10 h5))))
def p_X8_spreads_90 (K9 : Int32 × Int32 × Int32 × kH → Option (kH)) (x2 : Int32) (x3 : Int32) (x4 : Int32) (h : kH) : Option (kH) :=
  gd (inb (nI 0) 28) (bd2 (p_X8_cells h) fun v26 h24 => if v26 ≤ (x4 + (h 137 ((nI 0)).toNatClampNeg)) then K9 (x2, x3, (x4 + (nI 1)), h24) else gd (inb (x3 + x4) 800) (gd (inb ((x3 + x4) + (h24 137 ((nI 0)).toNatClampNeg)) 800) (le_ (((h24 143 ((x3 + x4)).toNatClampNeg) - (h24 143 (((x3 + x4) + (h24 137 ((nI 0)).toNatClampNeg))).toNatClampNeg)) / (nI 10)) fun v29 => gd (inb x4 30) (le_ (hs h24 145 (x4).toNatClampNeg ((h24 145 (x4).toNatClampNeg) - v29)) fun h31 => gd (inb (x4 + (h31 137 ((nI 0)).toNatClampNeg)) 30) (le_ (hs h31 145 ((x4 + (h31 137 ((nI 0)).toNatClampNeg))).toNatClampNeg ((h31 145 ((x4 + (h31 137 ((nI 0)).toNatClampNeg))).toNatClampNeg) + v29)) fun h33 => K9 (x2, x3, (x4 + (nI 1)), h33))))))
def p_X8_spreads_9 (K9 : Int32 × Int32 × Int32 × kH → Option (kH)) (x2 : Int32) (x3 : Int32) (x4 : Int32) (h : kH) : Option (kH) :=
  bd2 (p_X8_cells h) fun v4 h2 => if v4 ≤ x4 then fx (fun K177 s => p_X8_spreads_177 K177 s.1 s.2.1 s.2.2.1 s.2.2.2) FU (x2, x3, (nI 0), h2) else gd (inb (nI 0) 28) (gd (decide (¬ (h2 137 ((nI 0)).toNatClampNeg) = 0)) (if ((h2 137 ((nI 0)).toNatClampNeg) - (nI 1)) ≤ (krem x4 (h2 137 ((nI 0)).toNatClampNeg)) then p_X8_spreads_90 K9 x2 x3 x4 h2 else gd (inb (x3 + x4) 800) (gd (inb ((x3 + x4) + (nI 1)) 800) (le_ (((h2 143 ((x3 + x4)).toNatClampNeg) - (h2 143 (((x3 + x4) + (nI 1))).toNatClampNeg)) / (nI 10)) fun v36 => gd (inb x4 30) (le_ (hs h2 145 (x4).toNatClampNeg ((h2 145 (x4).toNatClampNeg) - v36)) fun h38 => gd (inb (x4 + (nI 1)) 30) (le_ (hs h38 145 ((x4 + (nI 1))).toNatClampNeg ((h38 145 ((x4 + (nI 1))).toNatClampNeg) + v36)) fun h40 => p_X8_spreads_90 K9 x2 x3 x4 h40))))))
def p_X8_spreads (x1 : Int32) (x2 : Int32) (h : kH) : Option (kH) :=
  le_ ((nI 200) * x1) fun v1 => fx (fun K9 s => p_X8_spreads_9 K9 s.1 s.2.1 s.2.2.1 s.2.2.2) FU (x2, v1, (nI 0), h)
def p_X8_fires_299 (s0 : Int32) (s1 : Int32) (s2 : Int32) (h : kH) : Option (kH) :=
  gd (inb s2 800) (le_ (hs h 143 (s2).toNatClampNeg (s1 + s0)) fun h21 => some h21)
def p_X8_fires_269 (x3 : Int32) (x5 : Int32) (s0 : Int32) (s1 : Int32) (s2 : Int32) (h : kH) : Option (kH) :=
  gd (inb s2 800) (le_ (hs h 143 (s2).toNatClampNeg (s1 - s0)) fun h17 => gd (inb (x3 + (nI 3)) 800) (gd (inb (nI 3) 28) (if x5 < ((nI 10) * (h17 137 ((nI 3)).toNatClampNeg)) then p_X8_fires_299 (nI 0) (h17 143 ((x3 + (nI 3))).toNatClampNeg) (x3 + (nI 3)) h17 else p_X8_fires_299 (nI 1) (h17 143 ((x3 + (nI 3))).toNatClampNeg) (x3 + (nI 3)) h17)))
def p_X8_fires_232 (x3 : Int32) (x5 : Int32) (s0 : Int32) (h : kH) : Option (kH) :=
  gd (inb (x3 + (nI 2)) 800) (if s0 ≤ (h 143 ((x3 + (nI 2))).toNatClampNeg) then p_X8_fires_269 x3 x5 s0 (h 143 ((x3 + (nI 2))).toNatClampNeg) (x3 + (nI 2)) h else p_X8_fires_269 x3 x5 (h 143 ((x3 + (nI 2))).toNatClampNeg) (h 143 ((x3 + (nI 2))).toNatClampNeg) (x3 + (nI 2)) h)
def p_X8_fires_210 (x3 : Int32) (x5 : Int32) (x6 : Int32) (h : kH) : Option (kH) :=
  if x5 ≤ (nI 60) then p_X8_fires_232 x3 x5 (nI 0) h else p_X8_fires_232 x3 x5 ((x6 * (x5 - (nI 60))) / (nI 100)) h
def p_X8_fires_175 (x3 : Int32) (x4 : Int32) (x5 : Int32) (x6 : Int32) (h : kH) : Option (kH) :=
  gd (inb (nI 5) 28) (if (-x4) ≤ (h 137 ((nI 5)).toNatClampNeg) then p_X8_fires_210 x3 x5 x6 h else gd (inb (x3 + (nI 3)) 800) (if (h 143 ((x3 + (nI 3))).toNatClampNeg) ≤ 0 then p_X8_fires_210 x3 x5 x6 h else gd (inb (x3 + (nI 4)) 800) (le_ (hs h 143 ((x3 + (nI 4))).toNatClampNeg (nI 4)) fun h24 => some h24)))
def p_X8_fires_120 (x2 : Int32) (x3 : Int32) (x4 : Int32) (x5 : Int32) (x6 : Int32) (h : kH) : Option (kH) :=
  if x5 ≤ (nI 100) then p_X8_fires_175 x3 x4 x5 x6 h else gd (inb (x3 + (nI 2)) 800) (gd (decide (¬ ((nI 10) * x6) = 0)) (gd (inb x2 6) (if (((h 143 ((x3 + (nI 2))).toNatClampNeg) * (x5 - (nI 100))) / ((nI 10) * x6)) ≤ (h 140 (x2).toNatClampNeg) then p_X8_fires_175 x3 x4 x5 x6 h else gd (inb (x3 + (nI 4)) 800) (le_ (hs h 143 ((x3 + (nI 4))).toNatClampNeg (nI 1)) fun h29 => le_ (hs h29 147 (x2).toNatClampNeg (vp_nar .boolean (nI 1))) fun h30 => some h30))))
def p_X8_fires (x1 : Int32) (x2 : Int32) (h : kH) : Option (kH) :=
  bd2 (p_X8_potAt x1 x2 h) fun v3 h1 => gd (inb (v3 + (nI 0)) 800) (gd (inb (((nI 200) * x1) + (h1 143 ((v3 + (nI 0))).toNatClampNeg)) 800) (gd (inb (v3 + (nI 1)) 800) (gd (inb x2 6) (gd (decide (¬ ((h1 139 (x2).toNatClampNeg) + (nI 1)) = 0)) (le_ (((h1 143 ((((nI 200) * x1) + (h1 143 ((v3 + (nI 0))).toNatClampNeg))).toNatClampNeg) - (h1 143 ((v3 + (nI 1))).toNatClampNeg)) / ((h1 139 (x2).toNatClampNeg) + (nI 1))) fun v9 => le_ (hs h1 143 ((v3 + (nI 1))).toNatClampNeg ((h1 143 ((v3 + (nI 1))).toNatClampNeg) + v9)) fun h10 => le_ (h10 143 ((v3 + (nI 1))).toNatClampNeg) fun v11 => gd (inb (v3 + (nI 7)) 800) (le_ ((h10 143 ((v3 + (nI 7))).toNatClampNeg) + (nI 1)) fun v13 => if v9 ≤ 0 then p_X8_fires_120 x2 v3 v9 v11 v13 h10 else gd (inb (nI 6) 28) (if (v9 * (h10 139 (x2).toNatClampNeg)) ≤ ((nI 10) * (h10 137 ((nI 6)).toNatClampNeg)) then p_X8_fires_120 x2 v3 v9 v11 v13 h10 else gd (inb (v3 + (nI 4)) 800) (le_ (hs h10 143 ((v3 + (nI 4))).toNatClampNeg (nI 3)) fun h33 => some h33))))))))
def p_X8_isNear (x1 : Int32) (x2 : Int32) (h : kH) : Option (Int32 × kH) :=
  gd (inb (nI 0) 28) (gd (decide (¬ (h 137 ((nI 0)).toNatClampNeg) = 0)) (gd (decide (¬ (h 137 ((nI 0)).toNatClampNeg) = 0)) (le_ ((krem x1 (h 137 ((nI 0)).toNatClampNeg)) - (krem x2 (h 137 ((nI 0)).toNatClampNeg))) fun v4 => gd (decide (¬ (h 137 ((nI 0)).toNatClampNeg) = 0)) (gd (decide (¬ (h 137 ((nI 0)).toNatClampNeg) = 0)) (le_ ((x1 / (h 137 ((nI 0)).toNatClampNeg)) - (x2 / (h 137 ((nI 0)).toNatClampNeg))) fun v7 => bd2 (p_X8_in (v4).toInt64 (-1 : Int64) (1 : Int64) h) fun v10 h8 => if v10 = 0 then some ((nI 0), h8) else bd2 (p_X8_in (v7).toInt64 (-1 : Int64) (1 : Int64) h8) fun v13 h11 => if v13 = 0 then some ((nI 0), h11) else some ((nI 1), h11))))))
def p_X8_strikes_143 (K2 : Int32 × Int32 × kH → Option (kH)) (x1 : Int32) (x2 : Int32) (s0 : Int32) (s1 : Int32) (h : kH) : Option (kH) :=
  gd (inb s1 800) (le_ (hs h 143 (s1).toNatClampNeg s0) fun h8 => K2 (x1, (x2 + (nI 1)), h8))
def p_X8_strikes_135 (K2 : Int32 × Int32 × kH → Option (kH)) (x1 : Int32) (x2 : Int32) (x3 : Int32) (s0 : Int32) (h : kH) : Option (kH) :=
  gd (inb (x3 + (nI 4)) 800) (p_X8_strikes_143 K2 x1 x2 (h 143 ((x3 + (nI 4))).toNatClampNeg) s0 h)
def p_X8_strikes_83 (K2 : Int32 × Int32 × kH → Option (kH)) (K24 : Int32 × Int32 × Int32 × Int32 × Int32 × kH → Option (kH)) (x1 : Int32) (x2 : Int32) (x3 : Int32) (x5 : Int32) (s0 : Int32) (h : kH) : Option (kH) :=
  K24 (x1, x2, x3, s0, (x5 + (nI 1)), h)
def p_X8_strikes_78 (K2 : Int32 × Int32 × kH → Option (kH)) (K24 : Int32 × Int32 × Int32 × Int32 × Int32 × kH → Option (kH)) (x1 : Int32) (x2 : Int32) (x3 : Int32) (x5 : Int32) (h : kH) : Option (kH) :=
  p_X8_strikes_83 K2 K24 x1 x2 x3 x5 (nI 1) h
def p_X8_strikes_82 (K2 : Int32 × Int32 × kH → Option (kH)) (K24 : Int32 × Int32 × Int32 × Int32 × Int32 × kH → Option (kH)) (x1 : Int32) (x2 : Int32) (x3 : Int32) (x5 : Int32) (h : kH) : Option (kH) :=
  p_X8_strikes_83 K2 K24 x1 x2 x3 x5 (nI 0) h
def p_X8_strikes_24 (K2 : Int32 × Int32 × kH → Option (kH)) (K24 : Int32 × Int32 × Int32 × Int32 × Int32 × kH → Option (kH)) (x1 : Int32) (x2 : Int32) (x3 : Int32) (x4 : Int32) (x5 : Int32) (h : kH) : Option (kH) :=
  gd (inb (nI 0) 2) (if (h 138 ((nI 0)).toNatClampNeg) ≤ x5 then if x4 = 0 then p_X8_strikes_135 K2 x1 x2 x3 (x3 + (nI 4)) h else gd (inb (x3 + (nI 4)) 800) (if (h 143 ((x3 + (nI 4))).toNatClampNeg) = 0 then gd (inb (x3 + (nI 3)) 800) (gd (inb (nI 4) 28) (if (h 137 ((nI 4)).toNatClampNeg) ≤ (h 143 ((x3 + (nI 3))).toNatClampNeg) then p_X8_strikes_135 K2 x1 x2 x3 (x3 + (nI 4)) h else p_X8_strikes_143 K2 x1 x2 (nI 2) (x3 + (nI 4)) h)) else p_X8_strikes_135 K2 x1 x2 x3 (x3 + (nI 4)) h) else if x4 = 0 then gd (inb x5 6) (if (h 147 (x5).toNatClampNeg) = 0 then p_X8_strikes_82 K2 K24 x1 x2 x3 x5 h else gd (inb (x3 + (nI 0)) 800) (bd2 (p_X8_potAt x1 x5 h) fun v16 h14 => gd (inb (v16 + (nI 0)) 800) (bd2 (p_X8_isNear (h 143 ((x3 + (nI 0))).toNatClampNeg) (h14 143 ((v16 + (nI 0))).toNatClampNeg) h14) fun v20 h18 => if v20 = 0 then p_X8_strikes_82 K2 K24 x1 x2 x3 x5 h18 else p_X8_strikes_78 K2 K24 x1 x2 x3 x5 h18))) else p_X8_strikes_78 K2 K24 x1 x2 x3 x5 h)
def p_X8_strikes_2 (K2 : Int32 × Int32 × kH → Option (kH)) (x1 : Int32) (x2 : Int32) (h : kH) : Option (kH) :=
  gd (inb (nI 0) 2) (if (h 138 ((nI 0)).toNatClampNeg) ≤ x2 then some h else bd2 (p_X8_potAt x1 x2 h) fun v4 h2 => fx (fun K24 s => p_X8_strikes_24 K2 K24 s.1 s.2.1 s.2.2.1 s.2.2.2.1 s.2.2.2.2.1 s.2.2.2.2.2) FU (x1, x2, v4, (nI 0), (nI 0), h2))
def p_X8_strikes (x1 : Int32) (h : kH) : Option (kH) :=
  fx (fun K2 s => p_X8_strikes_2 K2 s.1 s.2.1 s.2.2) FU (x1, (nI 0), h)
def p_X8_colours_112 (s0 : Int32) (s1 : Int32) (h : kH) : Option (kH) :=
  gd (inb s1 800) (le_ (hs h 143 (s1).toNatClampNeg s0) fun h11 => some h11)
def p_X8_colours_107 (s0 : Int32) (h : kH) : Option (kH) :=
  p_X8_colours_112 (nI 2) s0 h
def p_X8_colours (x1 : Int32) (x2 : Int32) (h : kH) : Option (kH) :=
  bd2 (p_X8_potAt x1 x2 h) fun v3 h1 => gd (inb (v3 + (nI 0)) 800) (le_ (((nI 200) * x1) + (h1 143 ((v3 + (nI 0))).toNatClampNeg)) fun v5 => gd (inb (v3 + (nI 1)) 800) (if (h1 143 ((v3 + (nI 1))).toNatClampNeg) < (nI 500) then gd (inb (v3 + (nI 6)) 800) (if (h1 143 ((v3 + (nI 6))).toNatClampNeg) = (nI 1) then gd (inb (v3 + (nI 5)) 800) (if (h1 143 ((v3 + (nI 5))).toNatClampNeg) = 0 then gd (inb (v5 + (nI 120)) 800) (if (h1 143 ((v5 + (nI 120))).toNatClampNeg) = (nI 1) then p_X8_colours_107 (v3 + (nI 5)) h1 else gd (inb (v5 + (nI 30)) 800) (if (h1 143 ((v5 + (nI 30))).toNatClampNeg) ≤ 0 then p_X8_colours_112 (nI 1) (v3 + (nI 5)) h1 else p_X8_colours_107 (v3 + (nI 5)) h1)) else some h1) else some h1) else gd (inb (v3 + (nI 6)) 800) (le_ (hs h1 143 ((v3 + (nI 6))).toNatClampNeg (nI 1)) fun h14 => some h14)))
def p_X8_goes_58 (K58 : Int32 × Int32 × kH → Option (kH)) (x1 : Int32) (x3 : Int32) (h : kH) : Option (kH) :=
  gd (inb (nI 0) 2) (if (h 138 ((nI 0)).toNatClampNeg) ≤ x3 then gd (inb (((nI 200) * x1) + (nI 198)) 800) (le_ (hs h 143 ((((nI 200) * x1) + (nI 198))).toNatClampNeg ((h 143 ((((nI 200) * x1) + (nI 198))).toNatClampNeg) + (nI 1))) fun h10 => some h10) else bd2 (p_X8_isWhole x1 x3 h) fun v13 h11 => if v13 = 0 then K58 (x1, (x3 + (nI 1)), h11) else bd (p_X8_colours x1 x3 h11) fun h14 => K58 (x1, (x3 + (nI 1)), h14))
def p_X8_goes_13 (K13 : Int32 × Int32 × kH → Option (kH)) (x1 : Int32) (x3 : Int32) (h : kH) : Option (kH) :=
  gd (inb (nI 0) 2) (if (h 138 ((nI 0)).toNatClampNeg) ≤ x3 then bd (p_X8_strikes x1 h) fun h6 => fx (fun K58 s => p_X8_goes_58 K58 s.1 s.2.1 s.2.2) FU (x1, (nI 0), h6) else gd (inb x3 6) (le_ (hs h 147 (x3).toNatClampNeg (vp_nar .boolean (nI 0))) fun h17 => bd2 (p_X8_isWhole x1 x3 h17) fun v20 h18 => if v20 = 0 then K13 (x1, (x3 + (nI 1)), h18) else bd (p_X8_fires x1 x3 h18) fun h21 => K13 (x1, (x3 + (nI 1)), h21)))
def p_X8_goes (x1 : Int32) (x2 : Int32) (h : kH) : Option (kH) :=
  bd (p_X8_burns x1 h) fun h1 => bd (p_X8_spreads x1 x2 h1) fun h3 => fx (fun K13 s => p_X8_goes_13 K13 s.1 s.2.1 s.2.2) FU (x1, (nI 0), h3)
def p_X8_isWind (x0 : Int32) (h : kH) : Option (Int32 × kH) :=
  bd2 (p_X8_in (x0).toInt64 (0 : Int64) (9 : Int64) h) fun v3 h1 => gd (decide (v3 &&& 1 = v3)) (some (v3, h1))
def p_X8_minute_44 (K19 : Int32 × Int32 × kH → Option (Int32 × kH)) (x3 : Int32) (s0 : Int32) (s1 : Int32) (h : kH) : Option (Int32 × kH) :=
  le_ (s1 + s0) fun v10 => K19 (v10, (x3 + (nI 1)), h)
def p_X8_minute_19 (K19 : Int32 × Int32 × kH → Option (Int32 × kH)) (x2 : Int32) (x3 : Int32) (h : kH) : Option (Int32 × kH) :=
  gd (inb (nI 0) 2) (if (h 138 ((nI 0)).toNatClampNeg) ≤ x3 then some (x2, h) else bd2 (p_X8_isWhole (nI 0) x3 h) fun v9 h7 => if v9 = 0 then p_X8_minute_44 K19 x3 (nI 0) x2 h7 else p_X8_minute_44 K19 x3 (nI 1) x2 h7)
def p_X8_minute (x1 : Int32) (h : kH) : Option (Int32 × kH) :=
  bd2 (p_X8_isWind x1 h) fun v3 h1 => if v3 = 0 then some ((-1 : Int32), h1) else bd (p_X8_goes (nI 0) x1 h1) fun h4 => fx (fun K19 s => p_X8_minute_19 K19 s.1 s.2.1 s.2.2) FU ((nI 0), (nI 0), h4)
def p_X8_fuel (x1 : Int32) (x2 : Int32) (h : kH) : Option (Int32 × kH) :=
  bd2 (p_X8_isCell x1 h) fun v3 h1 => if v3 = 0 then some ((-1 : Int32), h1) else bd2 (p_X8_in (x2).toInt64 (1 : Int64) (99 : Int64) h1) fun v6 h4 => if v6 = 0 then some ((-1 : Int32), h4) else gd (inb ((nI 30) + x1) 800) (if ((h4 143 (((nI 30) + x1)).toNatClampNeg) + x2) ≤ (nI 999) then le_ (hs h4 143 (((nI 30) + x1)).toNatClampNeg ((h4 143 (((nI 30) + x1)).toNatClampNeg) + x2)) fun h8 => some ((h8 143 (((nI 30) + x1)).toNatClampNeg), h8) else some ((-2 : Int32), h4))
def p_X8_cover_37 (x3 : Int32) (s0 : Int32) (s1 : Int32) (h : kH) : Option (Int32 × kH) :=
  gd (inb s1 800) (le_ (hs h 143 (s1).toNatClampNeg s0) fun h7 => some (x3, h7))
def p_X8_cover (x1 : Int32) (x2 : Int32) (h : kH) : Option (Int32 × kH) :=
  bd2 (p_X8_isCell x1 h) fun v3 h1 => if v3 = 0 then some ((-1 : Int32), h1) else gd (inb ((nI 120) + x1) 800) (le_ (h1 143 (((nI 120) + x1)).toNatClampNeg) fun v5 => if x2 = 0 then p_X8_cover_37 v5 (nI 0) ((nI 120) + x1) h1 else p_X8_cover_37 v5 (nI 1) ((nI 120) + x1) h1)
def p_X8_light (x1 : Int32) (h : kH) : Option (Int32 × kH) :=
  bd2 (p_X8_isCell x1 h) fun v3 h1 => if v3 = 0 then some ((-1 : Int32), h1) else gd (inb ((nI 90) + x1) 800) (le_ (h1 143 (((nI 90) + x1)).toNatClampNeg) fun v5 => le_ (hs h1 143 (((nI 90) + x1)).toNatClampNeg (nI 1)) fun h6 => some (v5, h6))
def p_X8_take (x1 : Int32) (h : kH) : Option (Int32 × kH) :=
  bd2 (p_X8_isPot x1 h) fun v3 h1 => if v3 = 0 then some ((-1 : Int32), h1) else bd2 (p_X8_isWhole (nI 0) x1 h1) fun v6 h4 => if v6 = 0 then some ((-2 : Int32), h4) else bd2 (p_X8_lossOf (nI 0) x1 h4) fun v9 h7 => bd2 (p_X8_potAt (nI 0) x1 h7) fun v12 h10 => gd (inb (v12 + (nI 4)) 800) (le_ (hs h10 143 ((v12 + (nI 4))).toNatClampNeg (nI 6)) fun h14 => some (v9, h14))
def p_X8_dries_94 (K5 : Int32 × Int32 × Int32 × Int32 × kH → Option (Int32 × kH)) (x1 : Int32) (x2 : Int32) (x3 : Int32) (x4 : Int32) (x5 : Int32) (s0 : Int32) (s1 : Int32) (s2 : Int32) (h : kH) : Option (Int32 × kH) :=
  gd (inb s2 800) (le_ (hs h 143 (s2).toNatClampNeg (s1 - s0)) fun h10 => gd (inb (x5 + (nI 2)) 800) (le_ (x3 + (h10 143 ((x5 + (nI 2))).toNatClampNeg)) fun v12 => K5 (x1, x2, v12, (x4 + (nI 1)), h10)))
def p_X8_dries_54 (K5 : Int32 × Int32 × Int32 × Int32 × kH → Option (Int32 × kH)) (x1 : Int32) (x2 : Int32) (x3 : Int32) (x4 : Int32) (x5 : Int32) (s0 : Int32) (h : kH) : Option (Int32 × kH) :=
  gd (inb (x5 + (nI 2)) 800) (if s0 ≤ (h 143 ((x5 + (nI 2))).toNatClampNeg) then p_X8_dries_94 K5 x1 x2 x3 x4 x5 s0 (h 143 ((x5 + (nI 2))).toNatClampNeg) (x5 + (nI 2)) h else p_X8_dries_94 K5 x1 x2 x3 x4 x5 (h 143 ((x5 + (nI 2))).toNatClampNeg) (h 143 ((x5 + (nI 2))).toNatClampNeg) (x5 + (nI 2)) h)
def p_X8_dries_5 (K5 : Int32 × Int32 × Int32 × Int32 × kH → Option (Int32 × kH)) (x1 : Int32) (x2 : Int32) (x3 : Int32) (x4 : Int32) (h : kH) : Option (Int32 × kH) :=
  gd (inb (nI 0) 2) (if (h 138 ((nI 0)).toNatClampNeg) ≤ x4 then some (x3, h) else bd2 (p_X8_potAt x1 x4 h) fun v4 h2 => bd2 (p_X8_isWhole x1 x4 h2) fun v7 h5 => if v7 = 0 then p_X8_dries_54 K5 x1 x2 x3 x4 v4 (nI 0) h5 else gd (inb (v4 + (nI 7)) 800) (p_X8_dries_54 K5 x1 x2 x3 x4 v4 ((x2 * ((h5 143 ((v4 + (nI 7))).toNatClampNeg) + (nI 1))) / (nI 4)) h5))
def p_X8_dries (x1 : Int32) (x2 : Int32) (h : kH) : Option (Int32 × kH) :=
  fx (fun K5 s => p_X8_dries_5 K5 s.1 s.2.1 s.2.2.1 s.2.2.2.1 s.2.2.2.2) FU (x1, x2, (nI 0), (nI 0), h)
def p_X8_dry (x1 : Int32) (h : kH) : Option (Int32 × kH) :=
  bd2 (p_X8_in (x1).toInt64 (1 : Int64) (240 : Int64) h) fun v3 h1 => if v3 = 0 then some ((-1 : Int32), h1) else bd2 (p_X8_dries (nI 0) x1 h1) fun v6 h4 => some (v6, h4)
def p_X8_looks_59 (K2 : Int32 × kH → Option (kH)) (x1 : Int32) (s0 : Int32) (s1 : Int32) (h : kH) : Option (kH) :=
  gd (inb s1 6) (le_ (hs h 146 (s1).toNatClampNeg s0) fun h10 => K2 ((x1 + (nI 1)), h10))
def p_X8_looks_2 (K2 : Int32 × kH → Option (kH)) (x1 : Int32) (h : kH) : Option (kH) :=
  gd (inb (nI 0) 2) (if (h 138 ((nI 0)).toNatClampNeg) ≤ x1 then some h else bd2 (p_X8_potAt (nI 3) x1 h) fun v4 h2 => gd (inb (v4 + (nI 0)) 800) (gd (inb ((nI 600) + (h2 143 ((v4 + (nI 0))).toNatClampNeg)) 800) (le_ (h2 143 (((nI 600) + (h2 143 ((v4 + (nI 0))).toNatClampNeg))).toNatClampNeg) fun v7 => gd (inb x1 6) (if v7 ≤ (h2 146 (x1).toNatClampNeg) then p_X8_looks_59 K2 x1 (h2 146 (x1).toNatClampNeg) x1 h2 else p_X8_looks_59 K2 x1 v7 x1 h2))))
def p_X8_looks (h : kH) : Option (kH) :=
  fx (fun K2 s => p_X8_looks_2 K2 s.1 s.2) FU ((nI 0), h)
def p_X8_good_29 (K4 : Int32 × Int32 × kH → Option (Int32 × kH)) (x3 : Int32) (s0 : Int32) (s1 : Int32) (h : kH) : Option (Int32 × kH) :=
  le_ (s1 + s0) fun v5 => K4 (v5, (x3 + (nI 1)), h)
def p_X8_good_4 (K4 : Int32 × Int32 × kH → Option (Int32 × kH)) (x2 : Int32) (x3 : Int32) (h : kH) : Option (Int32 × kH) :=
  gd (inb (nI 0) 2) (if (h 138 ((nI 0)).toNatClampNeg) ≤ x3 then some (x2, h) else bd2 (p_X8_lossOf (nI 3) x3 h) fun v4 h2 => if v4 = 0 then p_X8_good_29 K4 x3 (nI 1) x2 h2 else p_X8_good_29 K4 x3 (nI 0) x2 h2)
def p_X8_good (x1 : Int32) (h : kH) : Option (Int32 × kH) :=
  fx (fun K4 s => p_X8_good_4 K4 s.1 s.2.1 s.2.2) FU ((nI 0), x1, h)
def p_X8_runs_2 (K2 : Int32 × Int32 × Int32 × kH → Option (Int32 × kH)) (x1 : Int32) (x2 : Int32) (x3 : Int32) (h : kH) : Option (Int32 × kH) :=
  if x1 ≤ x3 then bd2 (p_X8_good (nI 0) h) fun v3 h1 => some (v3, h1) else bd (p_X8_goes (nI 3) x2 h) fun h4 => bd (p_X8_looks h4) fun h6 => K2 (x1, x2, (x3 + (nI 1)), h6)
def p_X8_runs (x1 : Int32) (x2 : Int32) (h : kH) : Option (Int32 × kH) :=
  fx (fun K2 s => p_X8_runs_2 K2 s.1 s.2.1 s.2.2.1 s.2.2.2) FU (x1, x2, (nI 0), h)
def p_X8_tries_8 (K8 : Int32 × kH → Option (kH)) (x1 : Int32) (h : kH) : Option (kH) :=
  if (nI 6) ≤ x1 then bd (p_X8_looks h) fun h3 => some h3 else gd (inb x1 6) (le_ (hs h 146 (x1).toNatClampNeg (nI 0)) fun h6 => K8 ((x1 + (nI 1)), h6))
def p_X8_tries (h : kH) : Option (kH) :=
  bd (p_X8_copies (nI 0) (nI 3) h) fun h1 => fx (fun K8 s => p_X8_tries_8 K8 s.1 s.2) FU ((nI 0), h1)
def p_X8_isRun (x0 : Int32) (x1 : Int32) (h : kH) : Option (Int32 × kH) :=
  bd2 (p_X8_in (x0).toInt64 (0 : Int64) (240 : Int64) h) fun v3 h1 => if v3 = 0 then some ((nI 0), h1) else bd2 (p_X8_isWind x1 h1) fun v6 h4 => if v6 = 0 then some ((nI 0), h4) else some ((nI 1), h4)
def p_X8_lossed_65 (K4 : Int32 × Int32 × Int32 × kH → Option (Int32 × kH)) (x1 : Int32) (x3 : Int32) (s0 : Int32) (s1 : Int32) (h : kH) : Option (Int32 × kH) :=
  le_ (s1 + s0) fun v6 => K4 (x1, v6, (x3 + (nI 1)), h)
def p_X8_lossed_4 (K4 : Int32 × Int32 × Int32 × kH → Option (Int32 × kH)) (x1 : Int32) (x2 : Int32) (x3 : Int32) (h : kH) : Option (Int32 × kH) :=
  gd (inb (nI 0) 2) (if (h 138 ((nI 0)).toNatClampNeg) ≤ x3 then some (x2, h) else if x1 = 0 then bd2 (p_X8_lossOf (nI 3) x3 h) fun v9 h7 => bd2 (p_X8_in (v9).toInt64 (1 : Int64) (4 : Int64) h7) fun v12 h10 => if v12 = 0 then p_X8_lossed_65 K4 x1 x3 (nI 0) x2 h10 else p_X8_lossed_65 K4 x1 x3 (nI 1) x2 h10 else bd2 (p_X8_potAt (nI 3) x3 h) fun v4 h2 => gd (inb (v4 + (nI 4)) 800) (if (h2 143 ((v4 + (nI 4))).toNatClampNeg) = x1 then p_X8_lossed_65 K4 x1 x3 (nI 1) x2 h2 else p_X8_lossed_65 K4 x1 x3 (nI 0) x2 h2))
def p_X8_lossed (x1 : Int32) (h : kH) : Option (Int32 × kH) :=
  fx (fun K4 s => p_X8_lossed_4 K4 s.1 s.2.1 s.2.2.1 s.2.2.2) FU (x1, (nI 0), (nI 0), h)
def p_X8_run (x1 : Int32) (x2 : Int32) (x3 : Int32) (h : kH) : Option (Int32 × kH) :=
  bd2 (p_X8_isRun x1 x2 h) fun v3 h1 => if v3 = 0 then some ((-1 : Int32), h1) else bd2 (p_X8_in (x3).toInt64 (0 : Int64) (1 : Int64) h1) fun v6 h4 => if v6 = 0 then some ((-1 : Int32), h4) else bd (p_X8_tries h4) fun h7 => bd2 (p_X8_runs x1 x2 h7) fun v11 h9 => if x3 = 0 then some (v11, h9) else bd2 (p_X8_lossed (nI 0) h9) fun v14 h12 => some (v14, h12)
def p_X8_of (x1 : Int32) (x2 : Int32) (x3 : Int32) (x4 : Int32) (h : kH) : Option (Int32 × kH) :=
  bd2 (p_X8_isRun x1 x2 h) fun v3 h1 => if v3 = 0 then some ((-1 : Int32), h1) else bd2 (p_X8_isPot x3 h1) fun v6 h4 => if v6 = 0 then some ((-1 : Int32), h4) else bd2 (p_X8_in (x4).toInt64 (0 : Int64) (3 : Int64) h4) fun v9 h7 => if v9 = 0 then some ((-1 : Int32), h7) else bd (p_X8_tries h7) fun h10 => bd2 (p_X8_runs x1 x2 h10) fun v14 h12 => bd2 (p_X8_potAt (nI 3) x3 h12) fun v17 h15 => if 0 ≤ v14 then if x4 = 0 then bd2 (p_X8_lossOf (nI 3) x3 h15) fun v23 h21 => some (v23, h21) else if x4 = (nI 1) then gd (inb x3 6) (some ((h15 146 (x3).toNatClampNeg), h15)) else if x4 = (nI 2) then gd (inb (v17 + (nI 5)) 800) (some ((h15 143 ((v17 + (nI 5))).toNatClampNeg), h15)) else gd (inb (v17 + (nI 3)) 800) (some ((h15 143 ((v17 + (nI 3))).toNatClampNeg), h15)) else some ((-1 : Int32), h15)
def p_X8_drying_12 (K12 : Int32 × Int32 × Int32 × kH → Option (Int32 × kH)) (x1 : Int32) (x2 : Int32) (x3 : Int32) (h : kH) : Option (Int32 × kH) :=
  if (nI 240) < x3 then some ((-4 : Int32), h) else bd (p_X8_tries h) fun h4 => bd2 (p_X8_lossed (nI 1) h4) fun v8 h6 => bd2 (p_X8_dries (nI 3) x3 h6) fun v11 h9 => bd2 (p_X8_runs x1 x2 h9) fun v14 h12 => le_ (v11 + v14) fun v15 => if v15 < 0 then K12 (x1, x2, (x3 + (nI 1)), h12) else bd2 (p_X8_lossed (nI 1) h12) fun v18 h16 => if v18 = v8 then some (x3, h16) else K12 (x1, x2, (x3 + (nI 1)), h16)
def p_X8_drying (x1 : Int32) (x2 : Int32) (h : kH) : Option (Int32 × kH) :=
  bd2 (p_X8_isRun x1 x2 h) fun v3 h1 => if v3 = 0 then some ((-1 : Int32), h1) else fx (fun K12 s => p_X8_drying_12 K12 s.1 s.2.1 s.2.2.1 s.2.2.2) FU (x1, x2, (nI 0), h1)
def p_X8_grit_28 (K28 : Int32 × Int32 × Int32 × Int32 × Int32 × Int32 × kH → Option (Int32 × kH)) (x1 : Int32) (x2 : Int32) (x3 : Int32) (x4 : Int32) (x5 : Int32) (x6 : Int32) (h : kH) : Option (Int32 × kH) :=
  if (nI 10) ≤ x6 then some (x4, h) else bd (p_X8_tries h) fun h7 => bd2 (p_X8_potAt (nI 3) x1 h7) fun v11 h9 => gd (inb (v11 + (nI 7)) 800) (le_ (hs h9 143 ((v11 + (nI 7))).toNatClampNeg x6) fun h13 => bd2 (p_X8_runs x2 x3 h13) fun v16 h14 => bd2 (p_X8_potAt (nI 3) x1 h14) fun v19 h17 => gd (inb (v19 + (nI 3)) 800) (le_ (h17 143 ((v19 + (nI 3))).toNatClampNeg) fun v21 => if v16 ≤ 0 then K28 (x1, x2, x3, x4, x5, (x6 + (nI 1)), h17) else bd2 (p_X8_lossOf (nI 3) x1 h17) fun v24 h22 => if v24 = 0 then if v21 ≤ x5 then K28 (x1, x2, x3, x4, x5, (x6 + (nI 1)), h22) else K28 (x1, x2, x3, x6, v21, (x6 + (nI 1)), h22) else K28 (x1, x2, x3, x4, x5, (x6 + (nI 1)), h22)))
def p_X8_grit (x1 : Int32) (x2 : Int32) (x3 : Int32) (h : kH) : Option (Int32 × kH) :=
  bd2 (p_X8_isPot x1 h) fun v3 h1 => if v3 = 0 then some ((-1 : Int32), h1) else bd2 (p_X8_isRun x2 x3 h1) fun v6 h4 => if v6 = 0 then some ((-1 : Int32), h4) else fx (fun K28 s => p_X8_grit_28 K28 s.1 s.2.1 s.2.2.1 s.2.2.2.1 s.2.2.2.2.1 s.2.2.2.2.2.1 s.2.2.2.2.2.2) FU (x1, x2, x3, (-4 : Int32), (-1 : Int32), (nI 0), h4)
def p_X8_enough_41 (K26 : Int32 × Int32 × Int32 × Int32 × kH → Option (Int32 × kH)) (K41 : Int32 × Int32 × Int32 × Int32 × Int32 × kH → Option (Int32 × kH)) (x1 : Int32) (x2 : Int32) (x3 : Int32) (x4 : Int32) (x5 : Int32) (h : kH) : Option (Int32 × kH) :=
  bd2 (p_X8_cells h) fun v11 h9 => if v11 ≤ x5 then bd2 (p_X8_runs x2 x3 h9) fun v14 h12 => if v14 < x1 then K26 (x1, x2, x3, (x4 + (nI 10)), h12) else some (x4, h12) else gd (inb ((nI 30) + x5) 800) (gd (inb ((nI 630) + x5) 800) (le_ (hs h9 143 (((nI 630) + x5)).toNatClampNeg (((h9 143 (((nI 30) + x5)).toNatClampNeg) * x4) / (nI 100))) fun h17 => K41 (x1, x2, x3, x4, (x5 + (nI 1)), h17)))
def p_X8_enough_26 (K26 : Int32 × Int32 × Int32 × Int32 × kH → Option (Int32 × kH)) (x1 : Int32) (x2 : Int32) (x3 : Int32) (x4 : Int32) (h : kH) : Option (Int32 × kH) :=
  if (nI 200) < x4 then some ((-4 : Int32), h) else bd (p_X8_tries h) fun h7 => fx (fun K41 s => p_X8_enough_41 K26 K41 s.1 s.2.1 s.2.2.1 s.2.2.2.1 s.2.2.2.2.1 s.2.2.2.2.2) FU (x1, x2, x3, x4, (nI 0), h7)
def p_X8_enough (x1 : Int32) (x2 : Int32) (x3 : Int32) (h : kH) : Option (Int32 × kH) :=
  bd2 (p_X8_in (x1).toInt64 (1 : Int64) (6 : Int64) h) fun v3 h1 => if v3 = 0 then some ((-1 : Int32), h1) else bd2 (p_X8_isRun x2 x3 h1) fun v6 h4 => if v6 = 0 then some ((-1 : Int32), h4) else fx (fun K26 s => p_X8_enough_26 K26 s.1 s.2.1 s.2.2.1 s.2.2.2.1 s.2.2.2.2) FU (x1, x2, x3, (nI 10), h4)
def p_X8_spot_12 (K12 : Int32 × Int32 × kH → Option (Int32 × kH)) (x1 : Int32) (x2 : Int32) (h : kH) : Option (Int32 × kH) :=
  if (h 135 11) ≤ x2 then if (h 135 11) = (nI 6) then some ((-3 : Int32), h) else gd (inb (h 135 11) 6) (le_ (hs h 144 ((h 135 11)).toNatClampNeg x1) fun h5 => le_ (hs h5 135 11 ((h5 135 11) + (nI 1))) fun h6 => some ((h6 135 11), h6)) else gd (inb x2 6) (if (h 144 (x2).toNatClampNeg) = x1 then some ((-2 : Int32), h) else K12 (x1, (x2 + (nI 1)), h))
def p_X8_spot (x1 : Int32) (h : kH) : Option (Int32 × kH) :=
  bd2 (p_X8_isCell x1 h) fun v3 h1 => if v3 = 0 then some ((-1 : Int32), h1) else fx (fun K12 s => p_X8_spot_12 K12 s.1 s.2.1 s.2.2) FU (x1, (nI 0), h1)
def p_X8_noSpots (h : kH) : Option (Int32 × kH) :=
  le_ (h 135 11) fun v1 => le_ (hs h 135 11 (nI 0)) fun h2 => some (v1, h2)
def p_X8_isWay_147 (K44 : Int32 × Int32 × Int32 × kH → Option (Int32 × kH)) (K98 : Int32 × Int32 × Int32 × Int32 × kH → Option (Int32 × kH)) (x2 : Int32) (x5 : Int32) (x6 : Int32) (s0 : Int32) (h : kH) : Option (Int32 × kH) :=
  K98 (x2, s0, x5, (x6 + (nI 1)), h)
def p_X8_isWay_146 (K44 : Int32 × Int32 × Int32 × kH → Option (Int32 × kH)) (K98 : Int32 × Int32 × Int32 × Int32 × kH → Option (Int32 × kH)) (x2 : Int32) (x5 : Int32) (x6 : Int32) (h : kH) : Option (Int32 × kH) :=
  p_X8_isWay_147 K44 K98 x2 x5 x6 (nI 0) h
def p_X8_isWay_98 (K44 : Int32 × Int32 × Int32 × kH → Option (Int32 × kH)) (K98 : Int32 × Int32 × Int32 × Int32 × kH → Option (Int32 × kH)) (x2 : Int32) (x4 : Int32) (x5 : Int32) (x6 : Int32) (h : kH) : Option (Int32 × kH) :=
  gd (inb (nI 0) 2) (if (h 138 ((nI 0)).toNatClampNeg) ≤ x6 then K44 (x2, x4, (x5 + (nI 1)), h) else if x4 = 0 then p_X8_isWay_146 K44 K98 x2 x5 x6 h else gd (inb x5 4) (gd (inb (h 148 (x5).toNatClampNeg) 6) (bd2 (p_X8_potAt (nI 0) x6 h) fun v7 h5 => gd (inb (v7 + (nI 0)) 800) (if (h 144 ((h 148 (x5).toNatClampNeg)).toNatClampNeg) = (h5 143 ((v7 + (nI 0))).toNatClampNeg) then p_X8_isWay_146 K44 K98 x2 x5 x6 h5 else p_X8_isWay_147 K44 K98 x2 x5 x6 (nI 1) h5))))
def p_X8_isWay_87 (K44 : Int32 × Int32 × Int32 × kH → Option (Int32 × kH)) (K53 : Int32 × Int32 × Int32 × Int32 × kH → Option (Int32 × kH)) (x2 : Int32) (x5 : Int32) (x6 : Int32) (s0 : Int32) (h : kH) : Option (Int32 × kH) :=
  K53 (x2, s0, x5, (x6 + (nI 1)), h)
def p_X8_isWay_86 (K44 : Int32 × Int32 × Int32 × kH → Option (Int32 × kH)) (K53 : Int32 × Int32 × Int32 × Int32 × kH → Option (Int32 × kH)) (x2 : Int32) (x5 : Int32) (x6 : Int32) (h : kH) : Option (Int32 × kH) :=
  p_X8_isWay_87 K44 K53 x2 x5 x6 (nI 0) h
def p_X8_isWay_53 (K44 : Int32 × Int32 × Int32 × kH → Option (Int32 × kH)) (K53 : Int32 × Int32 × Int32 × Int32 × kH → Option (Int32 × kH)) (x2 : Int32) (x4 : Int32) (x5 : Int32) (x6 : Int32) (h : kH) : Option (Int32 × kH) :=
  if x5 ≤ x6 then fx (fun K98 s => p_X8_isWay_98 K44 K98 s.1 s.2.1 s.2.2.1 s.2.2.2.1 s.2.2.2.2) FU (x2, x4, x5, x2, h) else if x4 = 0 then p_X8_isWay_86 K44 K53 x2 x5 x6 h else gd (inb x5 4) (gd (inb x6 4) (if (h 148 (x5).toNatClampNeg) = (h 148 (x6).toNatClampNeg) then p_X8_isWay_86 K44 K53 x2 x5 x6 h else p_X8_isWay_87 K44 K53 x2 x5 x6 (nI 1) h))
def p_X8_isWay_44 (K44 : Int32 × Int32 × Int32 × kH → Option (Int32 × kH)) (x2 : Int32) (x4 : Int32) (x5 : Int32) (h : kH) : Option (Int32 × kH) :=
  if x2 ≤ x5 then gd (decide (x4 &&& 1 = x4)) (some (x4, h)) else fx (fun K53 s => p_X8_isWay_53 K44 K53 s.1 s.2.1 s.2.2.1 s.2.2.2.1 s.2.2.2.2) FU (x2, x4, x5, (nI 0), h)
def p_X8_isWay_10 (K10 : Int32 × Int32 × Int32 × Int32 × kH → Option (Int32 × kH)) (x2 : Int32) (x3 : Int32) (x4 : Int32) (x5 : Int32) (h : kH) : Option (Int32 × kH) :=
  if x5 < 0 then fx (fun K44 s => p_X8_isWay_44 K44 s.1 s.2.1 s.2.2.1 s.2.2.2) FU (x2, x4, (nI 0), h) else gd (decide (¬ (h 135 11) = 0)) (gd (inb x5 4) (le_ (hs h 148 (x5).toNatClampNeg (krem x3 (h 135 11))) fun h13 => gd (decide (¬ (h13 135 11) = 0)) (le_ (x3 / (h13 135 11)) fun v15 => K10 (x2, v15, x4, (x5 + (-1 : Int32)), h13))))
def p_X8_isWay (x1 : Int32) (x2 : Int32) (h : kH) : Option (Int32 × kH) :=
  fx (fun K10 s => p_X8_isWay_10 K10 s.1 s.2.1 s.2.2.1 s.2.2.2.1 s.2.2.2.2) FU (x2, x1, (nI 1), (x2 - (nI 1)), h)
def p_X8_lies_201 (K82 : Int32 × Int32 × Int32 × Int32 × Int32 × Int32 × Int32 × kH → Option (Int32 × kH)) (x1 : Int32) (x2 : Int32) (x3 : Int32) (x4 : Int32) (x5 : Int32) (x7 : Int32) (s0 : Int32) (h : kH) : Option (Int32 × kH) :=
  K82 (x1, x2, x3, x4, x5, s0, (x7 + (nI 1)), h)
def p_X8_lies_187 (K82 : Int32 × Int32 × Int32 × Int32 × Int32 × Int32 × Int32 × kH → Option (Int32 × kH)) (x1 : Int32) (x2 : Int32) (x3 : Int32) (x4 : Int32) (x5 : Int32) (x6 : Int32) (x7 : Int32) (x8 : Int32) (h : kH) : Option (Int32 × kH) :=
  if x8 ≤ x6 then p_X8_lies_201 K82 x1 x2 x3 x4 x5 x7 x6 h else p_X8_lies_201 K82 x1 x2 x3 x4 x5 x7 x8 h
def p_X8_lies_154 (K82 : Int32 × Int32 × Int32 × Int32 × Int32 × Int32 × Int32 × kH → Option (Int32 × kH)) (K154 : Int32 × Int32 × Int32 × Int32 × Int32 × Int32 × Int32 × Int32 × Int32 × kH → Option (Int32 × kH)) (x1 : Int32) (x2 : Int32) (x3 : Int32) (x4 : Int32) (x5 : Int32) (x6 : Int32) (x7 : Int32) (x8 : Int32) (x9 : Int32) (h : kH) : Option (Int32 × kH) :=
  if x1 ≤ x9 then p_X8_lies_187 K82 x1 x2 x3 x4 x5 x6 x7 x8 h else if x8 ≤ x6 then p_X8_lies_187 K82 x1 x2 x3 x4 x5 x6 x7 x8 h else gd (inb x9 4) (le_ (hs h 149 (x9).toNatClampNeg (h 148 (x9).toNatClampNeg)) fun h21 => K154 (x1, x2, x3, x4, x5, x6, x7, x8, (x9 + (nI 1)), h21))
def p_X8_lies_106 (K82 : Int32 × Int32 × Int32 × Int32 × Int32 × Int32 × Int32 × kH → Option (Int32 × kH)) (K106 : Int32 × Int32 × Int32 × Int32 × Int32 × Int32 × Int32 × Int32 × kH → Option (Int32 × kH)) (x1 : Int32) (x2 : Int32) (x3 : Int32) (x4 : Int32) (x5 : Int32) (x6 : Int32) (x7 : Int32) (x8 : Int32) (h : kH) : Option (Int32 × kH) :=
  if x1 ≤ x8 then bd2 (p_X8_runs x2 x3 h) fun v19 h17 => fx (fun K154 s => p_X8_lies_154 K82 K154 s.1 s.2.1 s.2.2.1 s.2.2.2.1 s.2.2.2.2.1 s.2.2.2.2.2.1 s.2.2.2.2.2.2.1 s.2.2.2.2.2.2.2.1 s.2.2.2.2.2.2.2.2.1 s.2.2.2.2.2.2.2.2.2) FU (x1, x2, x3, x4, x5, x6, x7, v19, (nI 0), h17) else bd2 (p_X8_potAt (nI 3) x8 h) fun v24 h22 => gd (inb x8 4) (gd (inb (h22 148 (x8).toNatClampNeg) 6) (gd (inb (v24 + (nI 0)) 800) (le_ (hs h22 143 ((v24 + (nI 0))).toNatClampNeg (h22 144 ((h22 148 (x8).toNatClampNeg)).toNatClampNeg)) fun h28 => K106 (x1, x2, x3, x4, x5, x6, x7, (x8 + (nI 1)), h28))))
def p_X8_lies_82 (K82 : Int32 × Int32 × Int32 × Int32 × Int32 × Int32 × Int32 × kH → Option (Int32 × kH)) (x1 : Int32) (x2 : Int32) (x3 : Int32) (x4 : Int32) (x5 : Int32) (x6 : Int32) (x7 : Int32) (h : kH) : Option (Int32 × kH) :=
  if x5 ≤ x7 then if x6 < 0 then some (x6, h) else if 0 ≤ x4 then gd (inb x4 4) (some ((h 149 (x4).toNatClampNeg), h)) else some (x6, h) else bd2 (p_X8_isWay x7 x1 h) fun v14 h12 => if v14 = 0 then K82 (x1, x2, x3, x4, x5, x6, (x7 + (nI 1)), h12) else bd (p_X8_tries h12) fun h15 => fx (fun K106 s => p_X8_lies_106 K82 K106 s.1 s.2.1 s.2.2.1 s.2.2.2.1 s.2.2.2.2.1 s.2.2.2.2.2.1 s.2.2.2.2.2.2.1 s.2.2.2.2.2.2.2.1 s.2.2.2.2.2.2.2.2) FU (x1, x2, x3, x4, x5, x6, x7, (nI 0), h15)
def p_X8_lies_54 (K54 : Int32 × Int32 × Int32 × Int32 × Int32 × Int32 × kH → Option (Int32 × kH)) (x1 : Int32) (x2 : Int32) (x3 : Int32) (x4 : Int32) (x5 : Int32) (x6 : Int32) (h : kH) : Option (Int32 × kH) :=
  if x1 ≤ x6 then fx (fun K82 s => p_X8_lies_82 K82 s.1 s.2.1 s.2.2.1 s.2.2.2.1 s.2.2.2.2.1 s.2.2.2.2.2.1 s.2.2.2.2.2.2.1 s.2.2.2.2.2.2.2) FU (x1, x2, x3, x4, x5, (-4 : Int32), (nI 0), h) else le_ (x5 * (h 135 11)) fun v29 => K54 (x1, x2, x3, x4, v29, (x6 + (nI 1)), h)
def p_X8_lies (x1 : Int32) (x2 : Int32) (x3 : Int32) (x4 : Int32) (h : kH) : Option (Int32 × kH) :=
  bd2 (p_X8_in (x1).toInt64 (1 : Int64) (4 : Int64) h) fun v3 h1 => if v3 = 0 then some ((-1 : Int32), h1) else gd (inb (nI 0) 2) (if (h1 138 ((nI 0)).toNatClampNeg) < x1 then some ((-1 : Int32), h1) else bd2 (p_X8_isRun x2 x3 h1) fun v7 h5 => if v7 = 0 then some ((-1 : Int32), h5) else bd2 (p_X8_in (x4).toInt64 (-1 : Int64) ((x1 - (nI 1))).toInt64 h5) fun v10 h8 => if v10 = 0 then some ((-1 : Int32), h8) else fx (fun K54 s => p_X8_lies_54 K54 s.1 s.2.1 s.2.2.1 s.2.2.2.1 s.2.2.2.2.1 s.2.2.2.2.2.1 s.2.2.2.2.2.2) FU (x1, x2, x3, x4, (nI 1), (nI 0), h8))
def p_X8_raked_15 (K15 : Int32 × Int32 × Int32 × Int32 × kH → Option (Int32 × kH)) (x1 : Int32) (x2 : Int32) (x3 : Int32) (x5 : Int32) (h : kH) : Option (Int32 × kH) :=
  bd2 (p_X8_cells h) fun v8 h6 => if v8 ≤ x5 then bd2 (p_X8_runs (x2 - x1) x3 h6) fun v11 h9 => some (v11, h9) else gd (inb ((nI 630) + x5) 800) (le_ (hs h6 143 (((nI 630) + x5)).toNatClampNeg (nI 0)) fun h13 => gd (inb ((nI 720) + x5) 800) (le_ (hs h13 143 (((nI 720) + x5)).toNatClampNeg (nI 0)) fun h15 => K15 (x1, x2, x3, (x5 + (nI 1)), h15)))
def p_X8_raked (x1 : Int32) (x2 : Int32) (x3 : Int32) (h : kH) : Option (Int32 × kH) :=
  bd (p_X8_tries h) fun h1 => bd2 (p_X8_runs x1 x3 h1) fun v5 h3 => fx (fun K15 s => p_X8_raked_15 K15 s.1 s.2.1 s.2.2.1 s.2.2.2.1 s.2.2.2.2) FU (x1, x2, x3, (nI 0), h3)
def p_X8_rake_24 (K24 : Int32 × Int32 × Int32 × Int32 × kH → Option (Int32 × kH)) (x1 : Int32) (x2 : Int32) (x3 : Int32) (x4 : Int32) (h : kH) : Option (Int32 × kH) :=
  bd2 (p_X8_raked x4 x1 x2 h) fun v11 h9 => if x3 ≤ v11 then some (x4, h9) else K24 (x1, x2, x3, (x4 + (nI 1)), h9)
def p_X8_rake (x1 : Int32) (x2 : Int32) (h : kH) : Option (Int32 × kH) :=
  bd2 (p_X8_isRun x1 x2 h) fun v3 h1 => if v3 = 0 then some ((-1 : Int32), h1) else bd (p_X8_tries h1) fun h4 => bd2 (p_X8_runs x1 x2 h4) fun v8 h6 => fx (fun K24 s => p_X8_rake_24 K24 s.1 s.2.1 s.2.2.1 s.2.2.2.1 s.2.2.2.2) FU (x1, x2, v8, (nI 0), h6)
def p_X8_black_43 (K21 : Int32 × Int32 × Int32 × Int32 × kH → Option (Int32 × kH)) (K43 : Int32 × Int32 × Int32 × Int32 × Int32 × kH → Option (Int32 × kH)) (x1 : Int32) (x2 : Int32) (x3 : Int32) (x4 : Int32) (x6 : Int32) (h : kH) : Option (Int32 × kH) :=
  bd2 (p_X8_cells h) fun v14 h12 => if v14 ≤ x6 then bd2 (p_X8_runs (x2 - x4) x3 h12) fun v17 h15 => if v17 ≤ 0 then K21 (x1, x2, x3, (x4 + (nI 1)), h15) else bd2 (p_X8_lossOf (nI 3) x1 h15) fun v20 h18 => if v20 = 0 then bd2 (p_X8_potAt (nI 3) x1 h18) fun v23 h21 => gd (inb (v23 + (nI 5)) 800) (if (h21 143 ((v23 + (nI 5))).toNatClampNeg) = (nI 2) then some (x4, h21) else K21 (x1, x2, x3, (x4 + (nI 1)), h21)) else K21 (x1, x2, x3, (x4 + (nI 1)), h18) else gd (inb ((nI 720) + x6) 800) (le_ (hs h12 143 (((nI 720) + x6)).toNatClampNeg (nI 1)) fun h26 => K43 (x1, x2, x3, x4, (x6 + (nI 1)), h26))
def p_X8_black_21 (K21 : Int32 × Int32 × Int32 × Int32 × kH → Option (Int32 × kH)) (x1 : Int32) (x2 : Int32) (x3 : Int32) (x4 : Int32) (h : kH) : Option (Int32 × kH) :=
  if x2 < x4 then some ((-4 : Int32), h) else bd (p_X8_tries h) fun h7 => bd2 (p_X8_runs x4 x3 h7) fun v11 h9 => fx (fun K43 s => p_X8_black_43 K21 K43 s.1 s.2.1 s.2.2.1 s.2.2.2.1 s.2.2.2.2.1 s.2.2.2.2.2) FU (x1, x2, x3, x4, (nI 0), h9)
def p_X8_black (x1 : Int32) (x2 : Int32) (x3 : Int32) (h : kH) : Option (Int32 × kH) :=
  bd2 (p_X8_isPot x1 h) fun v3 h1 => if v3 = 0 then some ((-1 : Int32), h1) else bd2 (p_X8_isRun x2 x3 h1) fun v6 h4 => if v6 = 0 then some ((-1 : Int32), h4) else fx (fun K21 s => p_X8_black_21 K21 s.1 s.2.1 s.2.2.1 s.2.2.2.1 s.2.2.2.2) FU (x1, x2, x3, (nI 0), h4)
def p_X8_wind (x1 : Int32) (x2 : Int32) (h : kH) : Option (Int32 × kH) :=
  le_ ((((7919 : Int64) * (x1).toInt64) + ((6151 : Int64) * (x2).toInt64)) + (1 : Int64)) fun v1 => gd (inb (nI 7) 28) (gd (decide (¬ (((h 137 ((nI 7)).toNatClampNeg) + (nI 1))).toInt64 = 0)) (some (((lrem_ (lrem_ (v1 * v1) (65521 : Int64)) (((h 137 ((nI 7)).toNatClampNeg) + (nI 1))).toInt64)).toInt32, h)))
def p_X8_evenings_6 (K6 : Int32 × Int32 × Int32 × kH → Option (Int32 × kH)) (x1 : Int32) (x2 : Int32) (x3 : Int32) (h : kH) : Option (Int32 × kH) :=
  if x2 ≤ x3 then bd2 (p_X8_good (nI 0) h) fun v5 h3 => some (v5, h3) else bd2 (p_X8_wind x1 x3 h) fun v8 h6 => bd (p_X8_goes (nI 3) v8 h6) fun h9 => K6 (x1, x2, (x3 + (nI 1)), h9)
def p_X8_evenings (x1 : Int32) (x2 : Int32) (h : kH) : Option (Int32 × kH) :=
  bd (p_X8_tries h) fun h1 => fx (fun K6 s => p_X8_evenings_6 K6 s.1 s.2.1 s.2.2.1 s.2.2.2) FU (x1, x2, (nI 0), h1)
def p_X8_isEvening (x0 : Int32) (x1 : Int32) (h : kH) : Option (Int32 × kH) :=
  bd2 (p_X8_in (x0).toInt64 (0 : Int64) (9999 : Int64) h) fun v3 h1 => if v3 = 0 then some ((nI 0), h1) else bd2 (p_X8_in (x1).toInt64 (0 : Int64) (240 : Int64) h1) fun v6 h4 => if v6 = 0 then some ((nI 0), h4) else some ((nI 1), h4)
def p_X8_evening (x1 : Int32) (x2 : Int32) (h : kH) : Option (Int32 × kH) :=
  bd2 (p_X8_isEvening x1 x2 h) fun v3 h1 => if v3 = 0 then some ((-1 : Int32), h1) else bd2 (p_X8_evenings x1 x2 h1) fun v6 h4 => some (v6, h4)
def p_X8_ten_67 (K24 : Int32 × Int32 × Int32 × Int32 × Int32 × kH → Option (Int32 × kH)) (x1 : Int32) (x2 : Int32) (x3 : Int32) (x5 : Int32) (s0 : Int32) (s1 : Int32) (h : kH) : Option (Int32 × kH) :=
  le_ (s1 + s0) fun v10 => K24 (x1, x2, x3, v10, (x5 + (nI 1)), h)
def p_X8_ten_66 (K24 : Int32 × Int32 × Int32 × Int32 × Int32 × kH → Option (Int32 × kH)) (x1 : Int32) (x2 : Int32) (x3 : Int32) (x5 : Int32) (s0 : Int32) (h : kH) : Option (Int32 × kH) :=
  p_X8_ten_67 K24 x1 x2 x3 x5 (nI 0) s0 h
def p_X8_ten_24 (K24 : Int32 × Int32 × Int32 × Int32 × Int32 × kH → Option (Int32 × kH)) (x1 : Int32) (x2 : Int32) (x3 : Int32) (x4 : Int32) (x5 : Int32) (h : kH) : Option (Int32 × kH) :=
  if (nI 10) ≤ x5 then some (x4, h) else bd2 (p_X8_evenings (krem (x1 + x5) (nI 10000)) x2 h) fun v9 h7 => if v9 ≤ 0 then p_X8_ten_66 K24 x1 x2 x3 x5 x4 h7 else bd2 (p_X8_lossOf (nI 3) x3 h7) fun v13 h11 => if v13 = 0 then p_X8_ten_67 K24 x1 x2 x3 x5 (nI 1) x4 h11 else p_X8_ten_66 K24 x1 x2 x3 x5 x4 h11
def p_X8_ten (x1 : Int32) (x2 : Int32) (x3 : Int32) (h : kH) : Option (Int32 × kH) :=
  bd2 (p_X8_isEvening x1 x2 h) fun v3 h1 => if v3 = 0 then some ((-1 : Int32), h1) else bd2 (p_X8_isPot x3 h1) fun v6 h4 => if v6 = 0 then some ((-1 : Int32), h4) else fx (fun K24 s => p_X8_ten_24 K24 s.1 s.2.1 s.2.2.1 s.2.2.2.1 s.2.2.2.2.1 s.2.2.2.2.2) FU (x1, x2, x3, (nI 0), (nI 0), h4)
def p_X8_found_144 (s0 : Int32) (s1 : Int32) (h : kH) : Option (kH) :=
  gd (inb s1 5) (le_ (hs h 150 (s1).toNatClampNeg s0) fun h11 => some h11)
def p_X8_found_134 (x2 : Int32) (s0 : Int32) (h : kH) : Option (kH) :=
  p_X8_found_144 x2 s0 h
def p_X8_found_114 (x2 : Int32) (x3 : Int32) (s0 : Int32) (s1 : Int32) (h : kH) : Option (kH) :=
  gd (inb s1 5) (le_ (hs h 150 (s1).toNatClampNeg s0) fun h9 => if x3 = 0 then gd (inb (nI 4) 5) (if x2 ≤ (h9 150 ((nI 4)).toNatClampNeg) then p_X8_found_144 (h9 150 ((nI 4)).toNatClampNeg) (nI 4) h9 else p_X8_found_134 x2 (nI 4) h9) else p_X8_found_134 x2 (nI 4) h9)
def p_X8_found_104 (x2 : Int32) (x3 : Int32) (s0 : Int32) (h : kH) : Option (kH) :=
  p_X8_found_114 x2 x3 x2 s0 h
def p_X8_found_84 (x2 : Int32) (x3 : Int32) (s0 : Int32) (s1 : Int32) (h : kH) : Option (kH) :=
  gd (inb s1 5) (le_ (hs h 150 (s1).toNatClampNeg s0) fun h7 => if x3 = 0 then gd (inb (nI 3) 5) (if (h7 150 ((nI 3)).toNatClampNeg) ≤ x2 then p_X8_found_114 x2 x3 (h7 150 ((nI 3)).toNatClampNeg) (nI 3) h7 else p_X8_found_104 x2 x3 (nI 3) h7) else p_X8_found_104 x2 x3 (nI 3) h7)
def p_X8_found_74 (x1 : Int32) (x2 : Int32) (x3 : Int32) (s0 : Int32) (h : kH) : Option (kH) :=
  p_X8_found_84 x2 x3 x1 s0 h
def p_X8_found_54 (x1 : Int32) (x2 : Int32) (x3 : Int32) (s0 : Int32) (s1 : Int32) (h : kH) : Option (kH) :=
  gd (inb s1 5) (le_ (hs h 150 (s1).toNatClampNeg s0) fun h5 => if x3 = 0 then gd (inb (nI 2) 5) (if x1 ≤ (h5 150 ((nI 2)).toNatClampNeg) then p_X8_found_84 x2 x3 (h5 150 ((nI 2)).toNatClampNeg) (nI 2) h5 else p_X8_found_74 x1 x2 x3 (nI 2) h5) else p_X8_found_74 x1 x2 x3 (nI 2) h5)
def p_X8_found_44 (x1 : Int32) (x2 : Int32) (x3 : Int32) (s0 : Int32) (h : kH) : Option (kH) :=
  p_X8_found_54 x1 x2 x3 x1 s0 h
def p_X8_found_14 (x1 : Int32) (x2 : Int32) (s0 : Int32) (h : kH) : Option (kH) :=
  gd (inb (nI 0) 5) (le_ (hs h 150 ((nI 0)).toNatClampNeg ((h 150 ((nI 0)).toNatClampNeg) + (nI 1))) fun h3 => if s0 = 0 then gd (inb (nI 1) 5) (if (h3 150 ((nI 1)).toNatClampNeg) ≤ x1 then p_X8_found_54 x1 x2 s0 (h3 150 ((nI 1)).toNatClampNeg) (nI 1) h3 else p_X8_found_44 x1 x2 s0 (nI 1) h3) else p_X8_found_44 x1 x2 s0 (nI 1) h3)
def p_X8_found (x1 : Int32) (x2 : Int32) (h : kH) : Option (kH) :=
  gd (inb (nI 0) 5) (if (h 150 ((nI 0)).toNatClampNeg) = 0 then p_X8_found_14 x1 x2 (nI 1) h else p_X8_found_14 x1 x2 (nI 0) h)
def p_X8_sherd_168 (x4 : Int32) (h : kH) : Option (Int32 × kH) :=
  gd (inb x4 5) (some ((h 150 (x4).toNatClampNeg), h))
def p_X8_sherd_86 (K57 : Int32 × Int32 × Int32 × Int32 × Int32 × kH → Option (Int32 × kH)) (K86 : Int32 × Int32 × Int32 × Int32 × Int32 × Int32 × kH → Option (Int32 × kH)) (x1 : Int32) (x2 : Int32) (x3 : Int32) (x4 : Int32) (x5 : Int32) (x6 : Int32) (h : kH) : Option (Int32 × kH) :=
  if (nI 240) < x6 then K57 (x1, x2, x3, x4, (x5 + (nI 10)), h) else bd2 (p_X8_runs (nI 30) (nI 0) h) fun v26 h24 => if v26 < 0 then K86 (x1, x2, x3, x4, x5, (x6 + (nI 30)), h24) else bd2 (p_X8_lossOf (nI 3) x1 h24) fun v29 h27 => if v29 = x2 then bd2 (p_X8_potAt (nI 3) x1 h27) fun v32 h30 => gd (inb (v32 + (nI 5)) 800) (if (h30 143 ((v32 + (nI 5))).toNatClampNeg) = x3 then bd (p_X8_found x5 x6 h30) fun h34 => K86 (x1, x2, x3, x4, x5, (x6 + (nI 30)), h34) else K86 (x1, x2, x3, x4, x5, (x6 + (nI 30)), h30)) else K86 (x1, x2, x3, x4, x5, (x6 + (nI 30)), h27)
def p_X8_sherd_57 (K57 : Int32 × Int32 × Int32 × Int32 × Int32 × kH → Option (Int32 × kH)) (x1 : Int32) (x2 : Int32) (x3 : Int32) (x4 : Int32) (x5 : Int32) (h : kH) : Option (Int32 × kH) :=
  if (nI 100) ≤ x5 then if x4 = 0 then p_X8_sherd_168 x4 h else gd (inb (nI 0) 5) (if (h 150 ((nI 0)).toNatClampNeg) ≤ 0 then some ((-4 : Int32), h) else p_X8_sherd_168 x4 h) else bd (p_X8_tries h) fun h17 => bd2 (p_X8_potAt (nI 3) x1 h17) fun v21 h19 => gd (inb (v21 + (nI 2)) 800) (le_ (hs h19 143 ((v21 + (nI 2))).toNatClampNeg x5) fun h23 => fx (fun K86 s => p_X8_sherd_86 K57 K86 s.1 s.2.1 s.2.2.1 s.2.2.2.1 s.2.2.2.2.1 s.2.2.2.2.2.1 s.2.2.2.2.2.2) FU (x1, x2, x3, x4, x5, (nI 30), h23))
def p_X8_sherd (x1 : Int32) (x2 : Int32) (x3 : Int32) (x4 : Int32) (h : kH) : Option (Int32 × kH) :=
  bd2 (p_X8_isPot x1 h) fun v3 h1 => if v3 = 0 then some ((-1 : Int32), h1) else bd2 (p_X8_in (x2).toInt64 (0 : Int64) (5 : Int64) h1) fun v6 h4 => if v6 = 0 then some ((-1 : Int32), h4) else bd2 (p_X8_in (x3).toInt64 (0 : Int64) (2 : Int64) h4) fun v9 h7 => if v9 = 0 then some ((-1 : Int32), h7) else bd2 (p_X8_in (x4).toInt64 (0 : Int64) (4 : Int64) h7) fun v12 h10 => if v12 = 0 then some ((-1 : Int32), h10) else gd (inb (nI 0) 5) (le_ (hs h10 150 ((nI 0)).toNatClampNeg (nI 0)) fun h14 => fx (fun K57 s => p_X8_sherd_57 K57 s.1 s.2.1 s.2.2.1 s.2.2.2.1 s.2.2.2.2.1 s.2.2.2.2.2) FU (x1, x2, x3, x4, (nI 0), h14))
def p_X8_keep (h : kH) : Option (Int32 × kH) :=
  if (h 135 10) = (nI 2) then some ((-3 : Int32), h) else le_ (hs h 135 10 ((h 135 10) + (nI 1))) fun h1 => bd (p_X8_copies (nI 0) (h1 135 10) h1) fun h2 => some ((h2 135 10), h2)
def p_X8_back (h : kH) : Option (Int32 × kH) :=
  if (h 135 10) = 0 then some ((-2 : Int32), h) else bd (p_X8_copies (h 135 10) (nI 0) h) fun h1 => le_ (hs h1 135 10 ((h1 135 10) - (nI 1))) fun h3 => some ((h3 135 10), h3)
def p_X8_count (x1 : Int32) (h : kH) : Option (Int32 × kH) :=
  if x1 = 0 then bd2 (p_X8_cells h) fun v5 h3 => some (v5, h3) else if x1 = (nI 1) then gd (inb (nI 0) 2) (some ((h 138 ((nI 0)).toNatClampNeg), h)) else if x1 = (nI 2) then some ((h 135 0), h) else if x1 = (nI 3) then gd (inb (nI 198) 800) (some ((h 143 ((nI 198)).toNatClampNeg), h)) else if x1 = (nI 4) then some ((h 135 11), h) else if x1 = (nI 5) then some ((h 135 10), h) else some ((-1 : Int32), h)
