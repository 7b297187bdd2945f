/-! the law's loop -/
def p_L_law_160 (K18 : Int32 × kH → Option (Int32 × kH)) (L : Nat) (xs : Nat → Int32) (x3 : Int32) (h : kH) : Option (Int32 × kH) :=
  gd (inb (x3 + (nI 1)) L) (gd (inb (x3 + (nI 2)) L) (gd (inb (x3 + (nI 3)) L) (bd2 (p_X7_write (xs ((x3 + (nI 1))).toNatClampNeg) ((((xs ((x3 + (nI 2))).toNatClampNeg)).toInt64 <<< (((nI 32)).toInt64 &&& 63)) ||| (((xs ((x3 + (nI 3))).toNatClampNeg)).toInt64 &&& (4294967295 : Int64))) h) fun v8 h6 => bd2 (p_X8_write (xs ((x3 + (nI 1))).toNatClampNeg) ((((xs ((x3 + (nI 2))).toNatClampNeg)).toInt64 <<< (((nI 32)).toInt64 &&& 63)) ||| (((xs ((x3 + (nI 3))).toNatClampNeg)).toInt64 &&& (4294967295 : Int64))) h6) fun v11 h9 => if v8 = v11 then K18 ((x3 + (nI 5)), h9) else some ((nI 0), h9))))
def p_L_law_223 (K18 : Int32 × kH → Option (Int32 × kH)) (L : Nat) (xs : Nat → Int32) (x3 : Int32) (h : kH) : Option (Int32 × kH) :=
  bd2 (p_X7_wipe h) fun v15 h13 => bd2 (p_X8_wipe h13) fun v18 h16 => if v15 = v18 then K18 ((x3 + (nI 5)), h16) else some ((nI 0), h16)
def p_L_law_236 (K18 : Int32 × kH → Option (Int32 × kH)) (L : Nat) (xs : Nat → Int32) (x3 : Int32) (h : kH) : Option (Int32 × kH) :=
  bd2 (p_X7_fault h) fun v22 h20 => bd2 (p_X8_fault h20) fun v25 h23 => if v22 = v25 then K18 ((x3 + (nI 5)), h23) else some ((nI 0), h23)
def p_L_law_249 (K18 : Int32 × kH → Option (Int32 × kH)) (L : Nat) (xs : Nat → Int32) (x3 : Int32) (h : kH) : Option (Int32 × kH) :=
  bd2 (p_X7_lay h) fun v29 h27 => bd2 (p_X8_lay h27) fun v32 h30 => if v29 = v32 then K18 ((x3 + (nI 5)), h30) else some ((nI 0), h30)
def p_L_law_262 (K18 : Int32 × kH → Option (Int32 × kH)) (L : Nat) (xs : Nat → Int32) (x3 : Int32) (h : kH) : Option (Int32 × kH) :=
  gd (inb (x3 + (nI 1)) L) (gd (inb (x3 + (nI 2)) L) (bd2 (p_X7_cell (xs ((x3 + (nI 1))).toNatClampNeg) (xs ((x3 + (nI 2))).toNatClampNeg) h) fun v38 h36 => bd2 (p_X8_cell (xs ((x3 + (nI 1))).toNatClampNeg) (xs ((x3 + (nI 2))).toNatClampNeg) h36) fun v41 h39 => if v38 = v41 then K18 ((x3 + (nI 5)), h39) else some ((nI 0), h39)))
def p_L_law_295 (K18 : Int32 × kH → Option (Int32 × kH)) (L : Nat) (xs : Nat → Int32) (x3 : Int32) (h : kH) : Option (Int32 × kH) :=
  gd (inb (x3 + (nI 1)) L) (gd (inb (x3 + (nI 2)) L) (bd2 (p_X7_pot (xs ((x3 + (nI 1))).toNatClampNeg) (xs ((x3 + (nI 2))).toNatClampNeg) h) fun v47 h45 => bd2 (p_X8_pot (xs ((x3 + (nI 1))).toNatClampNeg) (xs ((x3 + (nI 2))).toNatClampNeg) h45) fun v50 h48 => if v47 = v50 then K18 ((x3 + (nI 5)), h48) else some ((nI 0), h48)))
def p_L_law_328 (K18 : Int32 × kH → Option (Int32 × kH)) (L : Nat) (xs : Nat → Int32) (x3 : Int32) (h : kH) : Option (Int32 × kH) :=
  gd (inb (x3 + (nI 1)) L) (bd2 (p_X7_minute (xs ((x3 + (nI 1))).toNatClampNeg) h) fun v55 h53 => bd2 (p_X8_minute (xs ((x3 + (nI 1))).toNatClampNeg) h53) fun v58 h56 => if v55 = v58 then K18 ((x3 + (nI 5)), h56) else some ((nI 0), h56))
def p_L_law_351 (K18 : Int32 × kH → Option (Int32 × kH)) (L : Nat) (xs : Nat → Int32) (x3 : Int32) (h : kH) : Option (Int32 × kH) :=
  gd (inb (x3 + (nI 1)) L) (gd (inb (x3 + (nI 2)) L) (bd2 (p_X7_fuel (xs ((x3 + (nI 1))).toNatClampNeg) (xs ((x3 + (nI 2))).toNatClampNeg) h) fun v64 h62 => bd2 (p_X8_fuel (xs ((x3 + (nI 1))).toNatClampNeg) (xs ((x3 + (nI 2))).toNatClampNeg) h62) fun v67 h65 => if v64 = v67 then K18 ((x3 + (nI 5)), h65) else some ((nI 0), h65)))
def p_L_law_425 (K18 : Int32 × kH → Option (Int32 × kH)) (L : Nat) (xs : Nat → Int32) (x3 : Int32) (s0 : Int32) (s1 : Int32) (s3 : Int32) (h : kH) : Option (Int32 × kH) :=
  bd2 (p_X8_cover s1 s0 h) fun v78 h76 => if s3 = v78 then K18 ((x3 + (nI 5)), h76) else some ((nI 0), h76)
def p_L_law_403 (K18 : Int32 × kH → Option (Int32 × kH)) (L : Nat) (xs : Nat → Int32) (x3 : Int32) (s0 : Int32) (s1 : Int32) (h : kH) : Option (Int32 × kH) :=
  bd2 (p_X7_cover s1 s0 h) fun v73 h71 => gd (inb (x3 + (nI 1)) L) (gd (inb (x3 + (nI 2)) L) (if (xs ((x3 + (nI 2))).toNatClampNeg) = 0 then p_L_law_425 K18 L xs x3 (nI 0) (xs ((x3 + (nI 1))).toNatClampNeg) v73 h71 else p_L_law_425 K18 L xs x3 (nI 1) (xs ((x3 + (nI 1))).toNatClampNeg) v73 h71))
def p_L_law_384 (K18 : Int32 × kH → Option (Int32 × kH)) (L : Nat) (xs : Nat → Int32) (x3 : Int32) (h : kH) : Option (Int32 × kH) :=
  gd (inb (x3 + (nI 1)) L) (gd (inb (x3 + (nI 2)) L) (if (xs ((x3 + (nI 2))).toNatClampNeg) = 0 then p_L_law_403 K18 L xs x3 (nI 0) (xs ((x3 + (nI 1))).toNatClampNeg) h else p_L_law_403 K18 L xs x3 (nI 1) (xs ((x3 + (nI 1))).toNatClampNeg) h))
def p_L_law_433 (K18 : Int32 × kH → Option (Int32 × kH)) (L : Nat) (xs : Nat → Int32) (x3 : Int32) (h : kH) : Option (Int32 × kH) :=
  gd (inb (x3 + (nI 1)) L) (bd2 (p_X7_light (xs ((x3 + (nI 1))).toNatClampNeg) h) fun v83 h81 => bd2 (p_X8_light (xs ((x3 + (nI 1))).toNatClampNeg) h81) fun v86 h84 => if v83 = v86 then K18 ((x3 + (nI 5)), h84) else some ((nI 0), h84))
def p_L_law_456 (K18 : Int32 × kH → Option (Int32 × kH)) (L : Nat) (xs : Nat → Int32) (x3 : Int32) (h : kH) : Option (Int32 × kH) :=
  gd (inb (x3 + (nI 1)) L) (bd2 (p_X7_take (xs ((x3 + (nI 1))).toNatClampNeg) h) fun v91 h89 => bd2 (p_X8_take (xs ((x3 + (nI 1))).toNatClampNeg) h89) fun v94 h92 => if v91 = v94 then K18 ((x3 + (nI 5)), h92) else some ((nI 0), h92))
def p_L_law_479 (K18 : Int32 × kH → Option (Int32 × kH)) (L : Nat) (xs : Nat → Int32) (x3 : Int32) (h : kH) : Option (Int32 × kH) :=
  gd (inb (x3 + (nI 1)) L) (bd2 (p_X7_dry (xs ((x3 + (nI 1))).toNatClampNeg) h) fun v99 h97 => bd2 (p_X8_dry (xs ((x3 + (nI 1))).toNatClampNeg) h97) fun v102 h100 => if v99 = v102 then K18 ((x3 + (nI 5)), h100) else some ((nI 0), h100))
def p_L_law_502 (K18 : Int32 × kH → Option (Int32 × kH)) (L : Nat) (xs : Nat → Int32) (x3 : Int32) (h : kH) : Option (Int32 × kH) :=
  gd (inb (x3 + (nI 1)) L) (gd (inb (x3 + (nI 2)) L) (gd (inb (x3 + (nI 3)) L) (bd2 (p_X7_run (xs ((x3 + (nI 1))).toNatClampNeg) (xs ((x3 + (nI 2))).toNatClampNeg) (xs ((x3 + (nI 3))).toNatClampNeg) h) fun v109 h107 => bd2 (p_X8_run (xs ((x3 + (nI 1))).toNatClampNeg) (xs ((x3 + (nI 2))).toNatClampNeg) (xs ((x3 + (nI 3))).toNatClampNeg) h107) fun v112 h110 => if v109 = v112 then K18 ((x3 + (nI 5)), h110) else some ((nI 0), h110))))
def p_L_law_545 (K18 : Int32 × kH → Option (Int32 × kH)) (L : Nat) (xs : Nat → Int32) (x3 : Int32) (h : kH) : Option (Int32 × kH) :=
  gd (inb (x3 + (nI 1)) L) (gd (inb (x3 + (nI 2)) L) (gd (inb (x3 + (nI 3)) L) (gd (inb (x3 + (nI 4)) L) (bd2 (p_X7_of (xs ((x3 + (nI 1))).toNatClampNeg) (xs ((x3 + (nI 2))).toNatClampNeg) (xs ((x3 + (nI 3))).toNatClampNeg) (xs ((x3 + (nI 4))).toNatClampNeg) h) fun v120 h118 => bd2 (p_X8_of (xs ((x3 + (nI 1))).toNatClampNeg) (xs ((x3 + (nI 2))).toNatClampNeg) (xs ((x3 + (nI 3))).toNatClampNeg) (xs ((x3 + (nI 4))).toNatClampNeg) h118) fun v123 h121 => if v120 = v123 then K18 ((x3 + (nI 5)), h121) else some ((nI 0), h121)))))
def p_L_law_598 (K18 : Int32 × kH → Option (Int32 × kH)) (L : Nat) (xs : Nat → Int32) (x3 : Int32) (h : kH) : Option (Int32 × kH) :=
  gd (inb (x3 + (nI 1)) L) (gd (inb (x3 + (nI 2)) L) (bd2 (p_X7_drying (xs ((x3 + (nI 1))).toNatClampNeg) (xs ((x3 + (nI 2))).toNatClampNeg) h) fun v129 h127 => bd2 (p_X8_drying (xs ((x3 + (nI 1))).toNatClampNeg) (xs ((x3 + (nI 2))).toNatClampNeg) h127) fun v132 h130 => if v129 = v132 then K18 ((x3 + (nI 5)), h130) else some ((nI 0), h130)))
def p_L_law_631 (K18 : Int32 × kH → Option (Int32 × kH)) (L : Nat) (xs : Nat → Int32) (x3 : Int32) (h : kH) : Option (Int32 × kH) :=
  gd (inb (x3 + (nI 1)) L) (gd (inb (x3 + (nI 2)) L) (gd (inb (x3 + (nI 3)) L) (bd2 (p_X7_grit (xs ((x3 + (nI 1))).toNatClampNeg) (xs ((x3 + (nI 2))).toNatClampNeg) (xs ((x3 + (nI 3))).toNatClampNeg) h) fun v139 h137 => bd2 (p_X8_grit (xs ((x3 + (nI 1))).toNatClampNeg) (xs ((x3 + (nI 2))).toNatClampNeg) (xs ((x3 + (nI 3))).toNatClampNeg) h137) fun v142 h140 => if v139 = v142 then K18 ((x3 + (nI 5)), h140) else some ((nI 0), h140))))
def p_L_law_674 (K18 : Int32 × kH → Option (Int32 × kH)) (L : Nat) (xs : Nat → Int32) (x3 : Int32) (h : kH) : Option (Int32 × kH) :=
  gd (inb (x3 + (nI 1)) L) (gd (inb (x3 + (nI 2)) L) (gd (inb (x3 + (nI 3)) L) (bd2 (p_X7_enough (xs ((x3 + (nI 1))).toNatClampNeg) (xs ((x3 + (nI 2))).toNatClampNeg) (xs ((x3 + (nI 3))).toNatClampNeg) h) fun v149 h147 => bd2 (p_X8_enough (xs ((x3 + (nI 1))).toNatClampNeg) (xs ((x3 + (nI 2))).toNatClampNeg) (xs ((x3 + (nI 3))).toNatClampNeg) h147) fun v152 h150 => if v149 = v152 then K18 ((x3 + (nI 5)), h150) else some ((nI 0), h150))))
def p_L_law_717 (K18 : Int32 × kH → Option (Int32 × kH)) (L : Nat) (xs : Nat → Int32) (x3 : Int32) (h : kH) : Option (Int32 × kH) :=
  gd (inb (x3 + (nI 1)) L) (bd2 (p_X7_spot (xs ((x3 + (nI 1))).toNatClampNeg) h) fun v157 h155 => bd2 (p_X8_spot (xs ((x3 + (nI 1))).toNatClampNeg) h155) fun v160 h158 => if v157 = v160 then K18 ((x3 + (nI 5)), h158) else some ((nI 0), h158))
def p_L_law_740 (K18 : Int32 × kH → Option (Int32 × kH)) (L : Nat) (xs : Nat → Int32) (x3 : Int32) (h : kH) : Option (Int32 × kH) :=
  bd2 (p_X7_noSpots h) fun v164 h162 => bd2 (p_X8_noSpots h162) fun v167 h165 => if v164 = v167 then K18 ((x3 + (nI 5)), h165) else some ((nI 0), h165)
def p_L_law_753 (K18 : Int32 × kH → Option (Int32 × kH)) (L : Nat) (xs : Nat → Int32) (x3 : Int32) (h : kH) : Option (Int32 × kH) :=
  gd (inb (x3 + (nI 1)) L) (gd (inb (x3 + (nI 2)) L) (gd (inb (x3 + (nI 3)) L) (gd (inb (x3 + (nI 4)) L) (bd2 (p_X7_lies (xs ((x3 + (nI 1))).toNatClampNeg) (xs ((x3 + (nI 2))).toNatClampNeg) (xs ((x3 + (nI 3))).toNatClampNeg) (xs ((x3 + (nI 4))).toNatClampNeg) h) fun v175 h173 => bd2 (p_X8_lies (xs ((x3 + (nI 1))).toNatClampNeg) (xs ((x3 + (nI 2))).toNatClampNeg) (xs ((x3 + (nI 3))).toNatClampNeg) (xs ((x3 + (nI 4))).toNatClampNeg) h173) fun v178 h176 => if v175 = v178 then K18 ((x3 + (nI 5)), h176) else some ((nI 0), h176)))))
def p_L_law_806 (K18 : Int32 × kH → Option (Int32 × kH)) (L : Nat) (xs : Nat → Int32) (x3 : Int32) (h : kH) : Option (Int32 × kH) :=
  gd (inb (x3 + (nI 1)) L) (gd (inb (x3 + (nI 2)) L) (bd2 (p_X7_rake (xs ((x3 + (nI 1))).toNatClampNeg) (xs ((x3 + (nI 2))).toNatClampNeg) h) fun v184 h182 => bd2 (p_X8_rake (xs ((x3 + (nI 1))).toNatClampNeg) (xs ((x3 + (nI 2))).toNatClampNeg) h182) fun v187 h185 => if v184 = v187 then K18 ((x3 + (nI 5)), h185) else some ((nI 0), h185)))
def p_L_law_839 (K18 : Int32 × kH → Option (Int32 × kH)) (L : Nat) (xs : Nat → Int32) (x3 : Int32) (h : kH) : Option (Int32 × kH) :=
  gd (inb (x3 + (nI 1)) L) (gd (inb (x3 + (nI 2)) L) (gd (inb (x3 + (nI 3)) L) (bd2 (p_X7_black (xs ((x3 + (nI 1))).toNatClampNeg) (xs ((x3 + (nI 2))).toNatClampNeg) (xs ((x3 + (nI 3))).toNatClampNeg) h) fun v194 h192 => bd2 (p_X8_black (xs ((x3 + (nI 1))).toNatClampNeg) (xs ((x3 + (nI 2))).toNatClampNeg) (xs ((x3 + (nI 3))).toNatClampNeg) h192) fun v197 h195 => if v194 = v197 then K18 ((x3 + (nI 5)), h195) else some ((nI 0), h195))))
def p_L_law_882 (K18 : Int32 × kH → Option (Int32 × kH)) (L : Nat) (xs : Nat → Int32) (x3 : Int32) (h : kH) : Option (Int32 × kH) :=
  gd (inb (x3 + (nI 1)) L) (gd (inb (x3 + (nI 2)) L) (bd2 (p_X7_evening (xs ((x3 + (nI 1))).toNatClampNeg) (xs ((x3 + (nI 2))).toNatClampNeg) h) fun v203 h201 => bd2 (p_X8_evening (xs ((x3 + (nI 1))).toNatClampNeg) (xs ((x3 + (nI 2))).toNatClampNeg) h201) fun v206 h204 => if v203 = v206 then K18 ((x3 + (nI 5)), h204) else some ((nI 0), h204)))
def p_L_law_915 (K18 : Int32 × kH → Option (Int32 × kH)) (L : Nat) (xs : Nat → Int32) (x3 : Int32) (h : kH) : Option (Int32 × kH) :=
  gd (inb (x3 + (nI 1)) L) (gd (inb (x3 + (nI 2)) L) (gd (inb (x3 + (nI 3)) L) (bd2 (p_X7_ten (xs ((x3 + (nI 1))).toNatClampNeg) (xs ((x3 + (nI 2))).toNatClampNeg) (xs ((x3 + (nI 3))).toNatClampNeg) h) fun v213 h211 => bd2 (p_X8_ten (xs ((x3 + (nI 1))).toNatClampNeg) (xs ((x3 + (nI 2))).toNatClampNeg) (xs ((x3 + (nI 3))).toNatClampNeg) h211) fun v216 h214 => if v213 = v216 then K18 ((x3 + (nI 5)), h214) else some ((nI 0), h214))))
def p_L_law_958 (K18 : Int32 × kH → Option (Int32 × kH)) (L : Nat) (xs : Nat → Int32) (x3 : Int32) (h : kH) : Option (Int32 × kH) :=
  gd (inb (x3 + (nI 1)) L) (gd (inb (x3 + (nI 2)) L) (gd (inb (x3 + (nI 3)) L) (gd (inb (x3 + (nI 4)) L) (bd2 (p_X7_sherd (xs ((x3 + (nI 1))).toNatClampNeg) (xs ((x3 + (nI 2))).toNatClampNeg) (xs ((x3 + (nI 3))).toNatClampNeg) (xs ((x3 + (nI 4))).toNatClampNeg) h) fun v224 h222 => bd2 (p_X8_sherd (xs ((x3 + (nI 1))).toNatClampNeg) (xs ((x3 + (nI 2))).toNatClampNeg) (xs ((x3 + (nI 3))).toNatClampNeg) (xs ((x3 + (nI 4))).toNatClampNeg) h222) fun v227 h225 => if v224 = v227 then K18 ((x3 + (nI 5)), h225) else some ((nI 0), h225)))))
def p_L_law_1011 (K18 : Int32 × kH → Option (Int32 × kH)) (L : Nat) (xs : Nat → Int32) (x3 : Int32) (h : kH) : Option (Int32 × kH) :=
  bd2 (p_X7_keep h) fun v231 h229 => bd2 (p_X8_keep h229) fun v234 h232 => if v231 = v234 then K18 ((x3 + (nI 5)), h232) else some ((nI 0), h232)
def p_L_law_1024 (K18 : Int32 × kH → Option (Int32 × kH)) (L : Nat) (xs : Nat → Int32) (x3 : Int32) (h : kH) : Option (Int32 × kH) :=
  bd2 (p_X7_back h) fun v238 h236 => bd2 (p_X8_back h236) fun v241 h239 => if v238 = v241 then K18 ((x3 + (nI 5)), h239) else some ((nI 0), h239)
def p_L_law_1037 (K18 : Int32 × kH → Option (Int32 × kH)) (L : Nat) (xs : Nat → Int32) (x3 : Int32) (h : kH) : Option (Int32 × kH) :=
  gd (inb (x3 + (nI 1)) L) (bd2 (p_X7_count (xs ((x3 + (nI 1))).toNatClampNeg) h) fun v246 h244 => bd2 (p_X8_count (xs ((x3 + (nI 1))).toNatClampNeg) h244) fun v249 h247 => if v246 = v249 then K18 ((x3 + (nI 5)), h247) else some ((nI 0), h247))
def p_L_law_18 (K18 : Int32 × kH → Option (Int32 × kH)) (L : Nat) (xs : Nat → Int32) (x3 : Int32) (h : kH) : Option (Int32 × kH) :=
  if ((Int32.ofNat L) - (nI 5)) < x3 then some ((nI 1), h) else gd (inb x3 L) (le_ ((xs (x3).toNatClampNeg) &&& (nI 31)) fun v2 => if v2 = (nI 0) then p_L_law_160 K18 L xs x3 h else if v2 = (nI 1) then p_L_law_223 K18 L xs x3 h else if v2 = (nI 2) then p_L_law_236 K18 L xs x3 h else if v2 = (nI 3) then p_L_law_249 K18 L xs x3 h else if v2 = (nI 4) then p_L_law_262 K18 L xs x3 h else if v2 = (nI 5) then p_L_law_295 K18 L xs x3 h else if v2 = (nI 6) then p_L_law_328 K18 L xs x3 h else if v2 = (nI 7) then p_L_law_351 K18 L xs x3 h else if v2 = (nI 8) then p_L_law_384 K18 L xs x3 h else if v2 = (nI 9) then p_L_law_433 K18 L xs x3 h else if v2 = (nI 10) then p_L_law_456 K18 L xs x3 h else if v2 = (nI 11) then p_L_law_479 K18 L xs x3 h else if v2 = (nI 12) then p_L_law_502 K18 L xs x3 h else if v2 = (nI 13) then p_L_law_545 K18 L xs x3 h else if v2 = (nI 14) then p_L_law_598 K18 L xs x3 h else if v2 = (nI 15) then p_L_law_631 K18 L xs x3 h else if v2 = (nI 16) then p_L_law_674 K18 L xs x3 h else if v2 = (nI 17) then p_L_law_717 K18 L xs x3 h else if v2 = (nI 18) then p_L_law_740 K18 L xs x3 h else if v2 = (nI 19) then p_L_law_753 K18 L xs x3 h else if v2 = (nI 20) then p_L_law_806 K18 L xs x3 h else if v2 = (nI 21) then p_L_law_839 K18 L xs x3 h else if v2 = (nI 22) then p_L_law_882 K18 L xs x3 h else if v2 = (nI 23) then p_L_law_915 K18 L xs x3 h else if v2 = (nI 24) then p_L_law_958 K18 L xs x3 h else if v2 = (nI 25) then p_L_law_1011 K18 L xs x3 h else if v2 = (nI 26) then p_L_law_1024 K18 L xs x3 h else if v2 = (nI 27) then p_L_law_1037 K18 L xs x3 h else K18 ((x3 + (nI 5)), h))
set_option maxHeartbeats 4000000 in
set_option maxRecDepth 100000 in
theorem w_L_law_160 {G : kG} {X : kX} {T : List kT} {h0 : kH} (hR : k_RL G X) (K18 : Int32 × kH → Option (Int32 × kH)) (hK18 : ∀ (x3 : Int32) (h : kH), K18 (x3, h) = some (nI 1, h0) → V G M_L_law X T 152 10966 18 [some (rv (12, 10) 0), some (rv (7, 99) 0), some (rv (8, 99) 135), some (iv x3)] [] h) (x3 : Int32) (h : kH) (e : p_L_law_160 K18 (g_n G) (g_xs G) x3 h = some (nI 1, h0)) : V G M_L_law X T 152 10966 160 [some (rv (12, 10) 0), some (rv (7, 99) 0), some (rv (8, 99) 135), some (iv x3)] [] h := by
  unfold p_L_law_160 at e
  refine V_aload_n 22 rfl rfl ?_
  refine V_aload_n 23 rfl rfl ?_
  refine V_iload_n 24 rfl rfl ?_
  refine V_iconst (nI 1) 25 rfl ic_1 ?_
  refine V_iadd 26 rfl ?_
  obtain ⟨g3, e⟩ := gd_e e
  refine V_sld 27 rfl g3 ?_
  refine V_aload_n 28 rfl rfl ?_
  refine V_iload_n 29 rfl rfl ?_
  refine V_iconst (nI 2) 30 rfl ic_2 ?_
  refine V_iadd 31 rfl ?_
  obtain ⟨g4, e⟩ := gd_e e
  refine V_sld 32 rfl g4 ?_
  refine V_i2l 33 rfl ?_
  refine V_bipush (nI 32) 34 rfl bp_32 ?_
  refine V_lshl 35 rfl ?_
  refine V_aload_n 36 rfl rfl ?_
  refine V_iload_n 37 rfl rfl ?_
  refine V_iconst (nI 3) 38 rfl ic_3 ?_
  refine V_iadd 39 rfl ?_
  obtain ⟨g5, e⟩ := gd_e e
  refine V_sld 40 rfl g5 ?_
  refine V_i2l 41 rfl ?_
  refine V_ldc2 (4294967295 : Int64) 42 rfl kl_RL_13 ?_
  refine V_land 43 rfl ?_
  refine V_lor 44 rfl ?_
  obtain ⟨v8, h6, d7, e⟩ := bd2_e e
  refine V_callV (N := M_X7_write) (av := [iv (g_xs G ((x3 + (nI 1))).toNatClampNeg), jv ((((g_xs G ((x3 + (nI 2))).toNatClampNeg)).toInt64 <<< (((nI 32)).toInt64 &&& 63)) ||| (((g_xs G ((x3 + (nI 3))).toNatClampNeg)).toInt64 &&& (4294967295 : Int64)))]) (st := []) (r := some (iv v8)) (h' := h6) 45 rfl (c_X7_write d7) g_X7_write gv_X7_write lk_RL_15 ⟨Nat.le_of_ble_eq_true rfl, Nat.le_of_ble_eq_true rfl⟩ rfl rfl (Nat.le_of_ble_eq_true rfl) ⟨Nat.le_of_ble_eq_true rfl, Nat.le_of_ble_eq_true rfl⟩ ?_
  show V G M_L_law X T 152 10966 189 [some (rv (12, 10) 0), some (rv (7, 99) 0), some (rv (8, 99) 135), some (iv x3)] [iv v8] h6
  refine V_aload_n 46 rfl rfl ?_
  refine V_aload_n 47 rfl rfl ?_
  refine V_iload_n 48 rfl rfl ?_
  refine V_iconst (nI 1) 49 rfl ic_1 ?_
  refine V_iadd 50 rfl ?_
  refine V_sld 51 rfl g3 ?_
  refine V_aload_n 52 rfl rfl ?_
  refine V_iload_n 53 rfl rfl ?_
  refine V_iconst (nI 2) 54 rfl ic_2 ?_
  refine V_iadd 55 rfl ?_
  refine V_sld 56 rfl g4 ?_
  refine V_i2l 57 rfl ?_
  refine V_bipush (nI 32) 58 rfl bp_32 ?_
  refine V_lshl 59 rfl ?_
  refine V_aload_n 60 rfl rfl ?_
  refine V_iload_n 61 rfl rfl ?_
  refine V_iconst (nI 3) 62 rfl ic_3 ?_
  refine V_iadd 63 rfl ?_
  refine V_sld 64 rfl g5 ?_
  refine V_i2l 65 rfl ?_
  refine V_ldc2 (4294967295 : Int64) 66 rfl kl_RL_13 ?_
  refine V_land 67 rfl ?_
  refine V_lor 68 rfl ?_
  obtain ⟨v11, h9, d10, e⟩ := bd2_e e
  refine V_callV (N := M_X8_write) (av := [iv (g_xs G ((x3 + (nI 1))).toNatClampNeg), jv ((((g_xs G ((x3 + (nI 2))).toNatClampNeg)).toInt64 <<< (((nI 32)).toInt64 &&& 63)) ||| (((g_xs G ((x3 + (nI 3))).toNatClampNeg)).toInt64 &&& (4294967295 : Int64)))]) (st := [iv v8]) (r := some (iv v11)) (h' := h9) 69 rfl (c_X8_write d10) g_X8_write gv_X8_write lk_RL_19 ⟨Nat.le_of_ble_eq_true rfl, Nat.le_of_ble_eq_true rfl⟩ rfl rfl (Nat.le_of_ble_eq_true rfl) ⟨Nat.le_of_ble_eq_true rfl, Nat.le_of_ble_eq_true rfl⟩ ?_
  show V G M_L_law X T 152 10966 218 [some (rv (12, 10) 0), some (rv (7, 99) 0), some (rv (8, 99) 135), some (iv x3)] [iv v11, iv v8] h9
  rcases if_e e with ⟨c70, e⟩ | ⟨c70, e⟩
  · refine V_icmp_eq 1060 70 rfl (by decide +kernel) (fun _ => ?_) (fun q => absurd c70 q) 
    refine V_iinc (x3 + (nI 5)) 740 rfl rfl (inc_5 _) (Nat.le_of_ble_eq_true rfl) rfl ?_
    show V G M_L_law X T 152 10966 1063 [some (rv (12, 10) 0), some (rv (7, 99) 0), some (rv (8, 99) 135), some (iv (x3 + (nI 5)))] [] h9
    refine V_goto 18 741 rfl (by decide +kernel) ?_
    refine V_msk [true, true, true, true] (lc' := [some (rv (12, 10) 0), some (rv (7, 99) 0), some (rv (8, 99) 135), some (iv (x3 + (nI 5)))]) rfl ?_
    exact hK18 (x3 + (nI 5)) h9 e
  · refine V_icmp_eq 1060 70 rfl (by decide +kernel) (fun q => absurd q c70) (fun _ => ?_)
    refine V_iconst (nI 0) 71 rfl ic_0 ?_
    exact absurd (show nI 0 = nI 1 from congrArg Prod.fst (Option.some.inj e)) (by decide)
set_option maxHeartbeats 4000000 in
set_option maxRecDepth 100000 in
theorem w_L_law_223 {G : kG} {X : kX} {T : List kT} {h0 : kH} (hR : k_RL G X) (K18 : Int32 × kH → Option (Int32 × kH)) (hK18 : ∀ (x3 : Int32) (h : kH), K18 (x3, h) = some (nI 1, h0) → V G M_L_law X T 152 10966 18 [some (rv (12, 10) 0), some (rv (7, 99) 0), some (rv (8, 99) 135), some (iv x3)] [] h) (x3 : Int32) (h : kH) (e : p_L_law_223 K18 (g_n G) (g_xs G) x3 h = some (nI 1, h0)) : V G M_L_law X T 152 10966 223 [some (rv (12, 10) 0), some (rv (7, 99) 0), some (rv (8, 99) 135), some (iv x3)] [] h := by
  unfold p_L_law_223 at e
  refine V_aload_n 73 rfl rfl ?_
  obtain ⟨v15, h13, d14, e⟩ := bd2_e e
  refine V_callV (N := M_X7_wipe) (av := []) (st := []) (r := some (iv v15)) (h' := h13) 74 rfl (c_X7_wipe d14) g_X7_wipe gv_X7_wipe lk_RL_20 ⟨Nat.le_of_ble_eq_true rfl, Nat.le_of_ble_eq_true rfl⟩ rfl rfl (Nat.le_of_ble_eq_true rfl) ⟨Nat.le_of_ble_eq_true rfl, Nat.le_of_ble_eq_true rfl⟩ ?_
  show V G M_L_law X T 152 10966 227 [some (rv (12, 10) 0), some (rv (7, 99) 0), some (rv (8, 99) 135), some (iv x3)] [iv v15] h13
  refine V_aload_n 75 rfl rfl ?_
  obtain ⟨v18, h16, d17, e⟩ := bd2_e e
  refine V_callV (N := M_X8_wipe) (av := []) (st := [iv v15]) (r := some (iv v18)) (h' := h16) 76 rfl (c_X8_wipe d17) g_X8_wipe gv_X8_wipe lk_RL_24 ⟨Nat.le_of_ble_eq_true rfl, Nat.le_of_ble_eq_true rfl⟩ rfl rfl (Nat.le_of_ble_eq_true rfl) ⟨Nat.le_of_ble_eq_true rfl, Nat.le_of_ble_eq_true rfl⟩ ?_
  show V G M_L_law X T 152 10966 231 [some (rv (12, 10) 0), some (rv (7, 99) 0), some (rv (8, 99) 135), some (iv x3)] [iv v18, iv v15] h16
  rcases if_e e with ⟨c77, e⟩ | ⟨c77, e⟩
  · refine V_icmp_eq 1060 77 rfl (by decide +kernel) (fun _ => ?_) (fun q => absurd c77 q) 
    refine V_iinc (x3 + (nI 5)) 740 rfl rfl (inc_5 _) (Nat.le_of_ble_eq_true rfl) rfl ?_
    show V G M_L_law X T 152 10966 1063 [some (rv (12, 10) 0), some (rv (7, 99) 0), some (rv (8, 99) 135), some (iv (x3 + (nI 5)))] [] h16
    refine V_goto 18 741 rfl (by decide +kernel) ?_
    refine V_msk [true, true, true, true] (lc' := [some (rv (12, 10) 0), some (rv (7, 99) 0), some (rv (8, 99) 135), some (iv (x3 + (nI 5)))]) rfl ?_
    exact hK18 (x3 + (nI 5)) h16 e
  · refine V_icmp_eq 1060 77 rfl (by decide +kernel) (fun q => absurd q c77) (fun _ => ?_)
    refine V_iconst (nI 0) 78 rfl ic_0 ?_
    exact absurd (show nI 0 = nI 1 from congrArg Prod.fst (Option.some.inj e)) (by decide)
set_option maxHeartbeats 4000000 in
set_option maxRecDepth 100000 in
theorem w_L_law_236 {G : kG} {X : kX} {T : List kT} {h0 : kH} (hR : k_RL G X) (K18 : Int32 × kH → Option (Int32 × kH)) (hK18 : ∀ (x3 : Int32) (h : kH), K18 (x3, h) = some (nI 1, h0) → V G M_L_law X T 152 10966 18 [some (rv (12, 10) 0), some (rv (7, 99) 0), some (rv (8, 99) 135), some (iv x3)] [] h) (x3 : Int32) (h : kH) (e : p_L_law_236 K18 (g_n G) (g_xs G) x3 h = some (nI 1, h0)) : V G M_L_law X T 152 10966 236 [some (rv (12, 10) 0), some (rv (7, 99) 0), some (rv (8, 99) 135), some (iv x3)] [] h := by
  unfold p_L_law_236 at e
  refine V_aload_n 80 rfl rfl ?_
  obtain ⟨v22, h20, d21, e⟩ := bd2_e e
  refine V_callV (N := M_X7_fault) (av := []) (st := []) (r := some (iv v22)) (h' := h20) 81 rfl (c_X7_fault d21) g_X7_fault gv_X7_fault lk_RL_25 ⟨Nat.le_of_ble_eq_true rfl, Nat.le_of_ble_eq_true rfl⟩ rfl rfl (Nat.le_of_ble_eq_true rfl) ⟨Nat.le_of_ble_eq_true rfl, Nat.le_of_ble_eq_true rfl⟩ ?_
  show V G M_L_law X T 152 10966 240 [some (rv (12, 10) 0), some (rv (7, 99) 0), some (rv (8, 99) 135), some (iv x3)] [iv v22] h20
  refine V_aload_n 82 rfl rfl ?_
  obtain ⟨v25, h23, d24, e⟩ := bd2_e e
  refine V_callV (N := M_X8_fault) (av := []) (st := [iv v22]) (r := some (iv v25)) (h' := h23) 83 rfl (c_X8_fault d24) g_X8_fault gv_X8_fault lk_RL_28 ⟨Nat.le_of_ble_eq_true rfl, Nat.le_of_ble_eq_true rfl⟩ rfl rfl (Nat.le_of_ble_eq_true rfl) ⟨Nat.le_of_ble_eq_true rfl, Nat.le_of_ble_eq_true rfl⟩ ?_
  show V G M_L_law X T 152 10966 244 [some (rv (12, 10) 0), some (rv (7, 99) 0), some (rv (8, 99) 135), some (iv x3)] [iv v25, iv v22] h23
  rcases if_e e with ⟨c84, e⟩ | ⟨c84, e⟩
  · refine V_icmp_eq 1060 84 rfl (by decide +kernel) (fun _ => ?_) (fun q => absurd c84 q) 
    refine V_iinc (x3 + (nI 5)) 740 rfl rfl (inc_5 _) (Nat.le_of_ble_eq_true rfl) rfl ?_
    show V G M_L_law X T 152 10966 1063 [some (rv (12, 10) 0), some (rv (7, 99) 0), some (rv (8, 99) 135), some (iv (x3 + (nI 5)))] [] h23
    refine V_goto 18 741 rfl (by decide +kernel) ?_
    refine V_msk [true, true, true, true] (lc' := [some (rv (12, 10) 0), some (rv (7, 99) 0), some (rv (8, 99) 135), some (iv (x3 + (nI 5)))]) rfl ?_
    exact hK18 (x3 + (nI 5)) h23 e
  · refine V_icmp_eq 1060 84 rfl (by decide +kernel) (fun q => absurd q c84) (fun _ => ?_)
    refine V_iconst (nI 0) 85 rfl ic_0 ?_
    exact absurd (show nI 0 = nI 1 from congrArg Prod.fst (Option.some.inj e)) (by decide)
set_option maxHeartbeats 4000000 in
set_option maxRecDepth 100000 in
theorem w_L_law_249 {G : kG} {X : kX} {T : List kT} {h0 : kH} (hR : k_RL G X) (K18 : Int32 × kH → Option (Int32 × kH)) (hK18 : ∀ (x3 : Int32) (h : kH), K18 (x3, h) = some (nI 1, h0) → V G M_L_law X T 152 10966 18 [some (rv (12, 10) 0), some (rv (7, 99) 0), some (rv (8, 99) 135), some (iv x3)] [] h) (x3 : Int32) (h : kH) (e : p_L_law_249 K18 (g_n G) (g_xs G) x3 h = some (nI 1, h0)) : V G M_L_law X T 152 10966 249 [some (rv (12, 10) 0), some (rv (7, 99) 0), some (rv (8, 99) 135), some (iv x3)] [] h := by
  unfold p_L_law_249 at e
  refine V_aload_n 87 rfl rfl ?_
  obtain ⟨v29, h27, d28, e⟩ := bd2_e e
  refine V_callV (N := M_X7_lay) (av := []) (st := []) (r := some (iv v29)) (h' := h27) 88 rfl (c_X7_lay d28) g_X7_lay gv_X7_lay lk_RL_29 ⟨Nat.le_of_ble_eq_true rfl, Nat.le_of_ble_eq_true rfl⟩ rfl rfl (Nat.le_of_ble_eq_true rfl) ⟨Nat.le_of_ble_eq_true rfl, Nat.le_of_ble_eq_true rfl⟩ ?_
  show V G M_L_law X T 152 10966 253 [some (rv (12, 10) 0), some (rv (7, 99) 0), some (rv (8, 99) 135), some (iv x3)] [iv v29] h27
  refine V_aload_n 89 rfl rfl ?_
  obtain ⟨v32, h30, d31, e⟩ := bd2_e e
  refine V_callV (N := M_X8_lay) (av := []) (st := [iv v29]) (r := some (iv v32)) (h' := h30) 90 rfl (c_X8_lay d31) g_X8_lay gv_X8_lay lk_RL_32 ⟨Nat.le_of_ble_eq_true rfl, Nat.le_of_ble_eq_true rfl⟩ rfl rfl (Nat.le_of_ble_eq_true rfl) ⟨Nat.le_of_ble_eq_true rfl, Nat.le_of_ble_eq_true rfl⟩ ?_
  show V G M_L_law X T 152 10966 257 [some (rv (12, 10) 0), some (rv (7, 99) 0), some (rv (8, 99) 135), some (iv x3)] [iv v32, iv v29] h30
  rcases if_e e with ⟨c91, e⟩ | ⟨c91, e⟩
  · refine V_icmp_eq 1060 91 rfl (by decide +kernel) (fun _ => ?_) (fun q => absurd c91 q) 
    refine V_iinc (x3 + (nI 5)) 740 rfl rfl (inc_5 _) (Nat.le_of_ble_eq_true rfl) rfl ?_
    show V G M_L_law X T 152 10966 1063 [some (rv (12, 10) 0), some (rv (7, 99) 0), some (rv (8, 99) 135), some (iv (x3 + (nI 5)))] [] h30
    refine V_goto 18 741 rfl (by decide +kernel) ?_
    refine V_msk [true, true, true, true] (lc' := [some (rv (12, 10) 0), some (rv (7, 99) 0), some (rv (8, 99) 135), some (iv (x3 + (nI 5)))]) rfl ?_
    exact hK18 (x3 + (nI 5)) h30 e
  · refine V_icmp_eq 1060 91 rfl (by decide +kernel) (fun q => absurd q c91) (fun _ => ?_)
    refine V_iconst (nI 0) 92 rfl ic_0 ?_
    exact absurd (show nI 0 = nI 1 from congrArg Prod.fst (Option.some.inj e)) (by decide)
set_option maxHeartbeats 4000000 in
set_option maxRecDepth 100000 in
theorem w_L_law_262 {G : kG} {X : kX} {T : List kT} {h0 : kH} (hR : k_RL G X) (K18 : Int32 × kH → Option (Int32 × kH)) (hK18 : ∀ (x3 : Int32) (h : kH), K18 (x3, h) = some (nI 1, h0) → V G M_L_law X T 152 10966 18 [some (rv (12, 10) 0), some (rv (7, 99) 0), some (rv (8, 99) 135), some (iv x3)] [] h) (x3 : Int32) (h : kH) (e : p_L_law_262 K18 (g_n G) (g_xs G) x3 h = some (nI 1, h0)) : V G M_L_law X T 152 10966 262 [some (rv (12, 10) 0), some (rv (7, 99) 0), some (rv (8, 99) 135), some (iv x3)] [] h := by
  unfold p_L_law_262 at e
  refine V_aload_n 94 rfl rfl ?_
  refine V_aload_n 95 rfl rfl ?_
  refine V_iload_n 96 rfl rfl ?_
  refine V_iconst (nI 1) 97 rfl ic_1 ?_
  refine V_iadd 98 rfl ?_
  obtain ⟨g34, e⟩ := gd_e e
  refine V_sld 99 rfl g34 ?_
  refine V_aload_n 100 rfl rfl ?_
  refine V_iload_n 101 rfl rfl ?_
  refine V_iconst (nI 2) 102 rfl ic_2 ?_
  refine V_iadd 103 rfl ?_
  obtain ⟨g35, e⟩ := gd_e e
  refine V_sld 104 rfl g35 ?_
  obtain ⟨v38, h36, d37, e⟩ := bd2_e e
  refine V_callV (N := M_X7_cell) (av := [iv (g_xs G ((x3 + (nI 1))).toNatClampNeg), iv (g_xs G ((x3 + (nI 2))).toNatClampNeg)]) (st := []) (r := some (iv v38)) (h' := h36) 105 rfl (c_X7_cell d37) g_X7_cell gv_X7_cell lk_RL_33 ⟨Nat.le_of_ble_eq_true rfl, Nat.le_of_ble_eq_true rfl⟩ rfl rfl (Nat.le_of_ble_eq_true rfl) ⟨Nat.le_of_ble_eq_true rfl, Nat.le_of_ble_eq_true rfl⟩ ?_
  show V G M_L_law X T 152 10966 276 [some (rv (12, 10) 0), some (rv (7, 99) 0), some (rv (8, 99) 135), some (iv x3)] [iv v38] h36
  refine V_aload_n 106 rfl rfl ?_
  refine V_aload_n 107 rfl rfl ?_
  refine V_iload_n 108 rfl rfl ?_
  refine V_iconst (nI 1) 109 rfl ic_1 ?_
  refine V_iadd 110 rfl ?_
  refine V_sld 111 rfl g34 ?_
  refine V_aload_n 112 rfl rfl ?_
  refine V_iload_n 113 rfl rfl ?_
  refine V_iconst (nI 2) 114 rfl ic_2 ?_
  refine V_iadd 115 rfl ?_
  refine V_sld 116 rfl g35 ?_
  obtain ⟨v41, h39, d40, e⟩ := bd2_e e
  refine V_callV (N := M_X8_cell) (av := [iv (g_xs G ((x3 + (nI 1))).toNatClampNeg), iv (g_xs G ((x3 + (nI 2))).toNatClampNeg)]) (st := [iv v38]) (r := some (iv v41)) (h' := h39) 117 rfl (c_X8_cell d40) g_X8_cell gv_X8_cell lk_RL_37 ⟨Nat.le_of_ble_eq_true rfl, Nat.le_of_ble_eq_true rfl⟩ rfl rfl (Nat.le_of_ble_eq_true rfl) ⟨Nat.le_of_ble_eq_true rfl, Nat.le_of_ble_eq_true rfl⟩ ?_
  show V G M_L_law X T 152 10966 290 [some (rv (12, 10) 0), some (rv (7, 99) 0), some (rv (8, 99) 135), some (iv x3)] [iv v41, iv v38] h39
  rcases if_e e with ⟨c118, e⟩ | ⟨c118, e⟩
  · refine V_icmp_eq 1060 118 rfl (by decide +kernel) (fun _ => ?_) (fun q => absurd c118 q) 
    refine V_iinc (x3 + (nI 5)) 740 rfl rfl (inc_5 _) (Nat.le_of_ble_eq_true rfl) rfl ?_
    show V G M_L_law X T 152 10966 1063 [some (rv (12, 10) 0), some (rv (7, 99) 0), some (rv (8, 99) 135), some (iv (x3 + (nI 5)))] [] h39
    refine V_goto 18 741 rfl (by decide +kernel) ?_
    refine V_msk [true, true, true, true] (lc' := [some (rv (12, 10) 0), some (rv (7, 99) 0), some (rv (8, 99) 135), some (iv (x3 + (nI 5)))]) rfl ?_
    exact hK18 (x3 + (nI 5)) h39 e
  · refine V_icmp_eq 1060 118 rfl (by decide +kernel) (fun q => absurd q c118) (fun _ => ?_)
    refine V_iconst (nI 0) 119 rfl ic_0 ?_
    exact absurd (show nI 0 = nI 1 from congrArg Prod.fst (Option.some.inj e)) (by decide)
set_option maxHeartbeats 4000000 in
set_option maxRecDepth 100000 in
theorem w_L_law_295 {G : kG} {X : kX} {T : List kT} {h0 : kH} (hR : k_RL G X) (K18 : Int32 × kH → Option (Int32 × kH)) (hK18 : ∀ (x3 : Int32) (h : kH), K18 (x3, h) = some (nI 1, h0) → V G M_L_law X T 152 10966 18 [some (rv (12, 10) 0), some (rv (7, 99) 0), some (rv (8, 99) 135), some (iv x3)] [] h) (x3 : Int32) (h : kH) (e : p_L_law_295 K18 (g_n G) (g_xs G) x3 h = some (nI 1, h0)) : V G M_L_law X T 152 10966 295 [some (rv (12, 10) 0), some (rv (7, 99) 0), some (rv (8, 99) 135), some (iv x3)] [] h := by
  unfold p_L_law_295 at e
  refine V_aload_n 121 rfl rfl ?_
  refine V_aload_n 122 rfl rfl ?_
  refine V_iload_n 123 rfl rfl ?_
  refine V_iconst (nI 1) 124 rfl ic_1 ?_
  refine V_iadd 125 rfl ?_
  obtain ⟨g43, e⟩ := gd_e e
  refine V_sld 126 rfl g43 ?_
  refine V_aload_n 127 rfl rfl ?_
  refine V_iload_n 128 rfl rfl ?_
  refine V_iconst (nI 2) 129 rfl ic_2 ?_
  refine V_iadd 130 rfl ?_
  obtain ⟨g44, e⟩ := gd_e e
  refine V_sld 131 rfl g44 ?_
  obtain ⟨v47, h45, d46, e⟩ := bd2_e e
  refine V_callV (N := M_X7_pot) (av := [iv (g_xs G ((x3 + (nI 1))).toNatClampNeg), iv (g_xs G ((x3 + (nI 2))).toNatClampNeg)]) (st := []) (r := some (iv v47)) (h' := h45) 132 rfl (c_X7_pot d46) g_X7_pot gv_X7_pot lk_RL_38 ⟨Nat.le_of_ble_eq_true rfl, Nat.le_of_ble_eq_true rfl⟩ rfl rfl (Nat.le_of_ble_eq_true rfl) ⟨Nat.le_of_ble_eq_true rfl, Nat.le_of_ble_eq_true rfl⟩ ?_
  show V G M_L_law X T 152 10966 309 [some (rv (12, 10) 0), some (rv (7, 99) 0), some (rv (8, 99) 135), some (iv x3)] [iv v47] h45
  refine V_aload_n 133 rfl rfl ?_
  refine V_aload_n 134 rfl rfl ?_
  refine V_iload_n 135 rfl rfl ?_
  refine V_iconst (nI 1) 136 rfl ic_1 ?_
  refine V_iadd 137 rfl ?_
  refine V_sld 138 rfl g43 ?_
  refine V_aload_n 139 rfl rfl ?_
  refine V_iload_n 140 rfl rfl ?_
  refine V_iconst (nI 2) 141 rfl ic_2 ?_
  refine V_iadd 142 rfl ?_
  refine V_sld 143 rfl g44 ?_
  obtain ⟨v50, h48, d49, e⟩ := bd2_e e
  refine V_callV (N := M_X8_pot) (av := [iv (g_xs G ((x3 + (nI 1))).toNatClampNeg), iv (g_xs G ((x3 + (nI 2))).toNatClampNeg)]) (st := [iv v47]) (r := some (iv v50)) (h' := h48) 144 rfl (c_X8_pot d49) g_X8_pot gv_X8_pot lk_RL_41 ⟨Nat.le_of_ble_eq_true rfl, Nat.le_of_ble_eq_true rfl⟩ rfl rfl (Nat.le_of_ble_eq_true rfl) ⟨Nat.le_of_ble_eq_true rfl, Nat.le_of_ble_eq_true rfl⟩ ?_
  show V G M_L_law X T 152 10966 323 [some (rv (12, 10) 0), some (rv (7, 99) 0), some (rv (8, 99) 135), some (iv x3)] [iv v50, iv v47] h48
  rcases if_e e with ⟨c145, e⟩ | ⟨c145, e⟩
  · refine V_icmp_eq 1060 145 rfl (by decide +kernel) (fun _ => ?_) (fun q => absurd c145 q) 
    refine V_iinc (x3 + (nI 5)) 740 rfl rfl (inc_5 _) (Nat.le_of_ble_eq_true rfl) rfl ?_
    show V G M_L_law X T 152 10966 1063 [some (rv (12, 10) 0), some (rv (7, 99) 0), some (rv (8, 99) 135), some (iv (x3 + (nI 5)))] [] h48
    refine V_goto 18 741 rfl (by decide +kernel) ?_
    refine V_msk [true, true, true, true] (lc' := [some (rv (12, 10) 0), some (rv (7, 99) 0), some (rv (8, 99) 135), some (iv (x3 + (nI 5)))]) rfl ?_
    exact hK18 (x3 + (nI 5)) h48 e
  · refine V_icmp_eq 1060 145 rfl (by decide +kernel) (fun q => absurd q c145) (fun _ => ?_)
    refine V_iconst (nI 0) 146 rfl ic_0 ?_
    exact absurd (show nI 0 = nI 1 from congrArg Prod.fst (Option.some.inj e)) (by decide)
set_option maxHeartbeats 4000000 in
set_option maxRecDepth 100000 in
theorem w_L_law_328 {G : kG} {X : kX} {T : List kT} {h0 : kH} (hR : k_RL G X) (K18 : Int32 × kH → Option (Int32 × kH)) (hK18 : ∀ (x3 : Int32) (h : kH), K18 (x3, h) = some (nI 1, h0) → V G M_L_law X T 152 10966 18 [some (rv (12, 10) 0), some (rv (7, 99) 0), some (rv (8, 99) 135), some (iv x3)] [] h) (x3 : Int32) (h : kH) (e : p_L_law_328 K18 (g_n G) (g_xs G) x3 h = some (nI 1, h0)) : V G M_L_law X T 152 10966 328 [some (rv (12, 10) 0), some (rv (7, 99) 0), some (rv (8, 99) 135), some (iv x3)] [] h := by
  unfold p_L_law_328 at e
  refine V_aload_n 148 rfl rfl ?_
  refine V_aload_n 149 rfl rfl ?_
  refine V_iload_n 150 rfl rfl ?_
  refine V_iconst (nI 1) 151 rfl ic_1 ?_
  refine V_iadd 152 rfl ?_
  obtain ⟨g52, e⟩ := gd_e e
  refine V_sld 153 rfl g52 ?_
  obtain ⟨v55, h53, d54, e⟩ := bd2_e e
  refine V_callV (N := M_X7_minute) (av := [iv (g_xs G ((x3 + (nI 1))).toNatClampNeg)]) (st := []) (r := some (iv v55)) (h' := h53) 154 rfl (c_X7_minute d54) g_X7_minute gv_X7_minute lk_RL_42 ⟨Nat.le_of_ble_eq_true rfl, Nat.le_of_ble_eq_true rfl⟩ rfl rfl (Nat.le_of_ble_eq_true rfl) ⟨Nat.le_of_ble_eq_true rfl, Nat.le_of_ble_eq_true rfl⟩ ?_
  show V G M_L_law X T 152 10966 337 [some (rv (12, 10) 0), some (rv (7, 99) 0), some (rv (8, 99) 135), some (iv x3)] [iv v55] h53
  refine V_aload_n 155 rfl rfl ?_
  refine V_aload_n 156 rfl rfl ?_
  refine V_iload_n 157 rfl rfl ?_
  refine V_iconst (nI 1) 158 rfl ic_1 ?_
  refine V_iadd 159 rfl ?_
  refine V_sld 160 rfl g52 ?_
  obtain ⟨v58, h56, d57, e⟩ := bd2_e e
  refine V_callV (N := M_X8_minute) (av := [iv (g_xs G ((x3 + (nI 1))).toNatClampNeg)]) (st := [iv v55]) (r := some (iv v58)) (h' := h56) 161 rfl (c_X8_minute d57) g_X8_minute gv_X8_minute lk_RL_46 ⟨Nat.le_of_ble_eq_true rfl, Nat.le_of_ble_eq_true rfl⟩ rfl rfl (Nat.le_of_ble_eq_true rfl) ⟨Nat.le_of_ble_eq_true rfl, Nat.le_of_ble_eq_true rfl⟩ ?_
  show V G M_L_law X T 152 10966 346 [some (rv (12, 10) 0), some (rv (7, 99) 0), some (rv (8, 99) 135), some (iv x3)] [iv v58, iv v55] h56
  rcases if_e e with ⟨c162, e⟩ | ⟨c162, e⟩
  · refine V_icmp_eq 1060 162 rfl (by decide +kernel) (fun _ => ?_) (fun q => absurd c162 q) 
    refine V_iinc (x3 + (nI 5)) 740 rfl rfl (inc_5 _) (Nat.le_of_ble_eq_true rfl) rfl ?_
    show V G M_L_law X T 152 10966 1063 [some (rv (12, 10) 0), some (rv (7, 99) 0), some (rv (8, 99) 135), some (iv (x3 + (nI 5)))] [] h56
    refine V_goto 18 741 rfl (by decide +kernel) ?_
    refine V_msk [true, true, true, true] (lc' := [some (rv (12, 10) 0), some (rv (7, 99) 0), some (rv (8, 99) 135), some (iv (x3 + (nI 5)))]) rfl ?_
    exact hK18 (x3 + (nI 5)) h56 e
  · refine V_icmp_eq 1060 162 rfl (by decide +kernel) (fun q => absurd q c162) (fun _ => ?_)
    refine V_iconst (nI 0) 163 rfl ic_0 ?_
    exact absurd (show nI 0 = nI 1 from congrArg Prod.fst (Option.some.inj e)) (by decide)
set_option maxHeartbeats 4000000 in
set_option maxRecDepth 100000 in
theorem w_L_law_351 {G : kG} {X : kX} {T : List kT} {h0 : kH} (hR : k_RL G X) (K18 : Int32 × kH → Option (Int32 × kH)) (hK18 : ∀ (x3 : Int32) (h : kH), K18 (x3, h) = some (nI 1, h0) → V G M_L_law X T 152 10966 18 [some (rv (12, 10) 0), some (rv (7, 99) 0), some (rv (8, 99) 135), some (iv x3)] [] h) (x3 : Int32) (h : kH) (e : p_L_law_351 K18 (g_n G) (g_xs G) x3 h = some (nI 1, h0)) : V G M_L_law X T 152 10966 351 [some (rv (12, 10) 0), some (rv (7, 99) 0), some (rv (8, 99) 135), some (iv x3)] [] h := by
  unfold p_L_law_351 at e
  refine V_aload_n 165 rfl rfl ?_
  refine V_aload_n 166 rfl rfl ?_
  refine V_iload_n 167 rfl rfl ?_
  refine V_iconst (nI 1) 168 rfl ic_1 ?_
  refine V_iadd 169 rfl ?_
  obtain ⟨g60, e⟩ := gd_e e
  refine V_sld 170 rfl g60 ?_
  refine V_aload_n 171 rfl rfl ?_
  refine V_iload_n 172 rfl rfl ?_
  refine V_iconst (nI 2) 173 rfl ic_2 ?_
  refine V_iadd 174 rfl ?_
  obtain ⟨g61, e⟩ := gd_e e
  refine V_sld 175 rfl g61 ?_
  obtain ⟨v64, h62, d63, e⟩ := bd2_e e
  refine V_callV (N := M_X7_fuel) (av := [iv (g_xs G ((x3 + (nI 1))).toNatClampNeg), iv (g_xs G ((x3 + (nI 2))).toNatClampNeg)]) (st := []) (r := some (iv v64)) (h' := h62) 176 rfl (c_X7_fuel d63) g_X7_fuel gv_X7_fuel lk_RL_47 ⟨Nat.le_of_ble_eq_true rfl, Nat.le_of_ble_eq_true rfl⟩ rfl rfl (Nat.le_of_ble_eq_true rfl) ⟨Nat.le_of_ble_eq_true rfl, Nat.le_of_ble_eq_true rfl⟩ ?_
  show V G M_L_law X T 152 10966 365 [some (rv (12, 10) 0), some (rv (7, 99) 0), some (rv (8, 99) 135), some (iv x3)] [iv v64] h62
  refine V_aload_n 177 rfl rfl ?_
  refine V_aload_n 178 rfl rfl ?_
  refine V_iload_n 179 rfl rfl ?_
  refine V_iconst (nI 1) 180 rfl ic_1 ?_
  refine V_iadd 181 rfl ?_
  refine V_sld 182 rfl g60 ?_
  refine V_aload_n 183 rfl rfl ?_
  refine V_iload_n 184 rfl rfl ?_
  refine V_iconst (nI 2) 185 rfl ic_2 ?_
  refine V_iadd 186 rfl ?_
  refine V_sld 187 rfl g61 ?_
  obtain ⟨v67, h65, d66, e⟩ := bd2_e e
  refine V_callV (N := M_X8_fuel) (av := [iv (g_xs G ((x3 + (nI 1))).toNatClampNeg), iv (g_xs G ((x3 + (nI 2))).toNatClampNeg)]) (st := [iv v64]) (r := some (iv v67)) (h' := h65) 188 rfl (c_X8_fuel d66) g_X8_fuel gv_X8_fuel lk_RL_50 ⟨Nat.le_of_ble_eq_true rfl, Nat.le_of_ble_eq_true rfl⟩ rfl rfl (Nat.le_of_ble_eq_true rfl) ⟨Nat.le_of_ble_eq_true rfl, Nat.le_of_ble_eq_true rfl⟩ ?_
  show V G M_L_law X T 152 10966 379 [some (rv (12, 10) 0), some (rv (7, 99) 0), some (rv (8, 99) 135), some (iv x3)] [iv v67, iv v64] h65
  rcases if_e e with ⟨c189, e⟩ | ⟨c189, e⟩
  · refine V_icmp_eq 1060 189 rfl (by decide +kernel) (fun _ => ?_) (fun q => absurd c189 q) 
    refine V_iinc (x3 + (nI 5)) 740 rfl rfl (inc_5 _) (Nat.le_of_ble_eq_true rfl) rfl ?_
    show V G M_L_law X T 152 10966 1063 [some (rv (12, 10) 0), some (rv (7, 99) 0), some (rv (8, 99) 135), some (iv (x3 + (nI 5)))] [] h65
    refine V_goto 18 741 rfl (by decide +kernel) ?_
    refine V_msk [true, true, true, true] (lc' := [some (rv (12, 10) 0), some (rv (7, 99) 0), some (rv (8, 99) 135), some (iv (x3 + (nI 5)))]) rfl ?_
    exact hK18 (x3 + (nI 5)) h65 e
  · refine V_icmp_eq 1060 189 rfl (by decide +kernel) (fun q => absurd q c189) (fun _ => ?_)
    refine V_iconst (nI 0) 190 rfl ic_0 ?_
    exact absurd (show nI 0 = nI 1 from congrArg Prod.fst (Option.some.inj e)) (by decide)
set_option maxHeartbeats 4000000 in
set_option maxRecDepth 100000 in
theorem w_L_law_425 {G : kG} {X : kX} {T : List kT} {h0 : kH} (hR : k_RL G X) (K18 : Int32 × kH → Option (Int32 × kH)) (hK18 : ∀ (x3 : Int32) (h : kH), K18 (x3, h) = some (nI 1, h0) → V G M_L_law X T 152 10966 18 [some (rv (12, 10) 0), some (rv (7, 99) 0), some (rv (8, 99) 135), some (iv x3)] [] h) (x3 : Int32) (s0 : Int32) (s1 : Int32) (s3 : Int32) (h : kH) (e : p_L_law_425 K18 (g_n G) (g_xs G) x3 s0 s1 s3 h = some (nI 1, h0)) : V G M_L_law X T 152 10966 425 [some (rv (12, 10) 0), some (rv (7, 99) 0), some (rv (8, 99) 135), some (iv x3)] [iv s0, iv s1, rv (8, 99) 135, iv s3] h := by
  unfold p_L_law_425 at e
  obtain ⟨v78, h76, d77, e⟩ := bd2_e e
  refine V_callV (N := M_X8_cover) (av := [iv s1, iv s0]) (st := [iv s3]) (r := some (iv v78)) (h' := h76) 223 rfl (c_X8_cover d77) g_X8_cover gv_X8_cover lk_RL_55 ⟨Nat.le_of_ble_eq_true rfl, Nat.le_of_ble_eq_true rfl⟩ rfl rfl (Nat.le_of_ble_eq_true rfl) ⟨Nat.le_of_ble_eq_true rfl, Nat.le_of_ble_eq_true rfl⟩ ?_
  show V G M_L_law X T 152 10966 428 [some (rv (12, 10) 0), some (rv (7, 99) 0), some (rv (8, 99) 135), some (iv x3)] [iv v78, iv s3] h76
  rcases if_e e with ⟨c224, e⟩ | ⟨c224, e⟩
  · refine V_icmp_eq 1060 224 rfl (by decide +kernel) (fun _ => ?_) (fun q => absurd c224 q) 
    refine V_iinc (x3 + (nI 5)) 740 rfl rfl (inc_5 _) (Nat.le_of_ble_eq_true rfl) rfl ?_
    show V G M_L_law X T 152 10966 1063 [some (rv (12, 10) 0), some (rv (7, 99) 0), some (rv (8, 99) 135), some (iv (x3 + (nI 5)))] [] h76
    refine V_goto 18 741 rfl (by decide +kernel) ?_
    refine V_msk [true, true, true, true] (lc' := [some (rv (12, 10) 0), some (rv (7, 99) 0), some (rv (8, 99) 135), some (iv (x3 + (nI 5)))]) rfl ?_
    exact hK18 (x3 + (nI 5)) h76 e
  · refine V_icmp_eq 1060 224 rfl (by decide +kernel) (fun q => absurd q c224) (fun _ => ?_)
    refine V_iconst (nI 0) 225 rfl ic_0 ?_
    exact absurd (show nI 0 = nI 1 from congrArg Prod.fst (Option.some.inj e)) (by decide)
set_option maxHeartbeats 4000000 in
set_option maxRecDepth 100000 in
theorem w_L_law_403 {G : kG} {X : kX} {T : List kT} {h0 : kH} (hR : k_RL G X) (K18 : Int32 × kH → Option (Int32 × kH)) (hK18 : ∀ (x3 : Int32) (h : kH), K18 (x3, h) = some (nI 1, h0) → V G M_L_law X T 152 10966 18 [some (rv (12, 10) 0), some (rv (7, 99) 0), some (rv (8, 99) 135), some (iv x3)] [] h) (x3 : Int32) (s0 : Int32) (s1 : Int32) (h : kH) (e : p_L_law_403 K18 (g_n G) (g_xs G) x3 s0 s1 h = some (nI 1, h0)) : V G M_L_law X T 152 10966 403 [some (rv (12, 10) 0), some (rv (7, 99) 0), some (rv (8, 99) 135), some (iv x3)] [iv s0, iv s1, rv (7, 99) 0] h := by
  unfold p_L_law_403 at e
  obtain ⟨v73, h71, d72, e⟩ := bd2_e e
  refine V_callV (N := M_X7_cover) (av := [iv s1, iv s0]) (st := []) (r := some (iv v73)) (h' := h71) 207 rfl (c_X7_cover d72) g_X7_cover gv_X7_cover lk_RL_51 ⟨Nat.le_of_ble_eq_true rfl, Nat.le_of_ble_eq_true rfl⟩ rfl rfl (Nat.le_of_ble_eq_true rfl) ⟨Nat.le_of_ble_eq_true rfl, Nat.le_of_ble_eq_true rfl⟩ ?_
  show V G M_L_law X T 152 10966 406 [some (rv (12, 10) 0), some (rv (7, 99) 0), some (rv (8, 99) 135), some (iv x3)] [iv v73] h71
  refine V_aload_n 208 rfl rfl ?_
  refine V_aload_n 209 rfl rfl ?_
  refine V_iload_n 210 rfl rfl ?_
  refine V_iconst (nI 1) 211 rfl ic_1 ?_
  refine V_iadd 212 rfl ?_
  obtain ⟨g74, e⟩ := gd_e e
  refine V_sld 213 rfl g74 ?_
  refine V_aload_n 214 rfl rfl ?_
  refine V_iload_n 215 rfl rfl ?_
  refine V_iconst (nI 2) 216 rfl ic_2 ?_
  refine V_iadd 217 rfl ?_
  obtain ⟨g75, e⟩ := gd_e e
  refine V_sld 218 rfl g75 ?_
  rcases if_e e with ⟨c219, e⟩ | ⟨c219, e⟩
  · refine V_if_eq 424 219 rfl (by decide +kernel) (fun _ => ?_) (fun q => absurd c219 q) 
    refine V_iconst (nI 0) 222 rfl ic_0 ?_
    refine V_msk [true, true, true, true] (lc' := [some (rv (12, 10) 0), some (rv (7, 99) 0), some (rv (8, 99) 135), some (iv x3)]) rfl ?_
    exact w_L_law_425 hR K18 hK18 x3 (nI 0) (g_xs G ((x3 + (nI 1))).toNatClampNeg) v73 h71 e
  · refine V_if_eq 424 219 rfl (by decide +kernel) (fun q => absurd q c219) (fun _ => ?_)
    refine V_iconst (nI 1) 220 rfl ic_1 ?_
    refine V_goto 425 221 rfl (by decide +kernel) ?_
    refine V_msk [true, true, true, true] (lc' := [some (rv (12, 10) 0), some (rv (7, 99) 0), some (rv (8, 99) 135), some (iv x3)]) rfl ?_
    exact w_L_law_425 hR K18 hK18 x3 (nI 1) (g_xs G ((x3 + (nI 1))).toNatClampNeg) v73 h71 e
set_option maxHeartbeats 4000000 in
set_option maxRecDepth 100000 in
theorem w_L_law_384 {G : kG} {X : kX} {T : List kT} {h0 : kH} (hR : k_RL G X) (K18 : Int32 × kH → Option (Int32 × kH)) (hK18 : ∀ (x3 : Int32) (h : kH), K18 (x3, h) = some (nI 1, h0) → V G M_L_law X T 152 10966 18 [some (rv (12, 10) 0), some (rv (7, 99) 0), some (rv (8, 99) 135), some (iv x3)] [] h) (x3 : Int32) (h : kH) (e : p_L_law_384 K18 (g_n G) (g_xs G) x3 h = some (nI 1, h0)) : V G M_L_law X T 152 10966 384 [some (rv (12, 10) 0), some (rv (7, 99) 0), some (rv (8, 99) 135), some (iv x3)] [] h := by
  unfold p_L_law_384 at e
  refine V_aload_n 192 rfl rfl ?_
  refine V_aload_n 193 rfl rfl ?_
  refine V_iload_n 194 rfl rfl ?_
  refine V_iconst (nI 1) 195 rfl ic_1 ?_
  refine V_iadd 196 rfl ?_
  obtain ⟨g69, e⟩ := gd_e e
  refine V_sld 197 rfl g69 ?_
  refine V_aload_n 198 rfl rfl ?_
  refine V_iload_n 199 rfl rfl ?_
  refine V_iconst (nI 2) 200 rfl ic_2 ?_
  refine V_iadd 201 rfl ?_
  obtain ⟨g70, e⟩ := gd_e e
  refine V_sld 202 rfl g70 ?_
  rcases if_e e with ⟨c203, e⟩ | ⟨c203, e⟩
  · refine V_if_eq 402 203 rfl (by decide +kernel) (fun _ => ?_) (fun q => absurd c203 q) 
    refine V_iconst (nI 0) 206 rfl ic_0 ?_
    refine V_msk [true, true, true, true] (lc' := [some (rv (12, 10) 0), some (rv (7, 99) 0), some (rv (8, 99) 135), some (iv x3)]) rfl ?_
    exact w_L_law_403 hR K18 hK18 x3 (nI 0) (g_xs G ((x3 + (nI 1))).toNatClampNeg) h e
  · refine V_if_eq 402 203 rfl (by decide +kernel) (fun q => absurd q c203) (fun _ => ?_)
    refine V_iconst (nI 1) 204 rfl ic_1 ?_
    refine V_goto 403 205 rfl (by decide +kernel) ?_
    refine V_msk [true, true, true, true] (lc' := [some (rv (12, 10) 0), some (rv (7, 99) 0), some (rv (8, 99) 135), some (iv x3)]) rfl ?_
    exact w_L_law_403 hR K18 hK18 x3 (nI 1) (g_xs G ((x3 + (nI 1))).toNatClampNeg) h e
set_option maxHeartbeats 4000000 in
set_option maxRecDepth 100000 in
theorem w_L_law_433 {G : kG} {X : kX} {T : List kT} {h0 : kH} (hR : k_RL G X) (K18 : Int32 × kH → Option (Int32 × kH)) (hK18 : ∀ (x3 : Int32) (h : kH), K18 (x3, h) = some (nI 1, h0) → V G M_L_law X T 152 10966 18 [some (rv (12, 10) 0), some (rv (7, 99) 0), some (rv (8, 99) 135), some (iv x3)] [] h) (x3 : Int32) (h : kH) (e : p_L_law_433 K18 (g_n G) (g_xs G) x3 h = some (nI 1, h0)) : V G M_L_law X T 152 10966 433 [some (rv (12, 10) 0), some (rv (7, 99) 0), some (rv (8, 99) 135), some (iv x3)] [] h := by
  unfold p_L_law_433 at e
  refine V_aload_n 227 rfl rfl ?_
  refine V_aload_n 228 rfl rfl ?_
  refine V_iload_n 229 rfl rfl ?_
  refine V_iconst (nI 1) 230 rfl ic_1 ?_
  refine V_iadd 231 rfl ?_
  obtain ⟨g80, e⟩ := gd_e e
  refine V_sld 232 rfl g80 ?_
  obtain ⟨v83, h81, d82, e⟩ := bd2_e e
  refine V_callV (N := M_X7_light) (av := [iv (g_xs G ((x3 + (nI 1))).toNatClampNeg)]) (st := []) (r := some (iv v83)) (h' := h81) 233 rfl (c_X7_light d82) g_X7_light gv_X7_light lk_RL_56 ⟨Nat.le_of_ble_eq_true rfl, Nat.le_of_ble_eq_true rfl⟩ rfl rfl (Nat.le_of_ble_eq_true rfl) ⟨Nat.le_of_ble_eq_true rfl, Nat.le_of_ble_eq_true rfl⟩ ?_
  show V G M_L_law X T 152 10966 442 [some (rv (12, 10) 0), some (rv (7, 99) 0), some (rv (8, 99) 135), some (iv x3)] [iv v83] h81
  refine V_aload_n 234 rfl rfl ?_
  refine V_aload_n 235 rfl rfl ?_
  refine V_iload_n 236 rfl rfl ?_
  refine V_iconst (nI 1) 237 rfl ic_1 ?_
  refine V_iadd 238 rfl ?_
  refine V_sld 239 rfl g80 ?_
  obtain ⟨v86, h84, d85, e⟩ := bd2_e e
  refine V_callV (N := M_X8_light) (av := [iv (g_xs G ((x3 + (nI 1))).toNatClampNeg)]) (st := [iv v83]) (r := some (iv v86)) (h' := h84) 240 rfl (c_X8_light d85) g_X8_light gv_X8_light lk_RL_59 ⟨Nat.le_of_ble_eq_true rfl, Nat.le_of_ble_eq_true rfl⟩ rfl rfl (Nat.le_of_ble_eq_true rfl) ⟨Nat.le_of_ble_eq_true rfl, Nat.le_of_ble_eq_true rfl⟩ ?_
  show V G M_L_law X T 152 10966 451 [some (rv (12, 10) 0), some (rv (7, 99) 0), some (rv (8, 99) 135), some (iv x3)] [iv v86, iv v83] h84
  rcases if_e e with ⟨c241, e⟩ | ⟨c241, e⟩
  · refine V_icmp_eq 1060 241 rfl (by decide +kernel) (fun _ => ?_) (fun q => absurd c241 q) 
    refine V_iinc (x3 + (nI 5)) 740 rfl rfl (inc_5 _) (Nat.le_of_ble_eq_true rfl) rfl ?_
    show V G M_L_law X T 152 10966 1063 [some (rv (12, 10) 0), some (rv (7, 99) 0), some (rv (8, 99) 135), some (iv (x3 + (nI 5)))] [] h84
    refine V_goto 18 741 rfl (by decide +kernel) ?_
    refine V_msk [true, true, true, true] (lc' := [some (rv (12, 10) 0), some (rv (7, 99) 0), some (rv (8, 99) 135), some (iv (x3 + (nI 5)))]) rfl ?_
    exact hK18 (x3 + (nI 5)) h84 e
  · refine V_icmp_eq 1060 241 rfl (by decide +kernel) (fun q => absurd q c241) (fun _ => ?_)
    refine V_iconst (nI 0) 242 rfl ic_0 ?_
    exact absurd (show nI 0 = nI 1 from congrArg Prod.fst (Option.some.inj e)) (by decide)
set_option maxHeartbeats 4000000 in
set_option maxRecDepth 100000 in
theorem w_L_law_456 {G : kG} {X : kX} {T : List kT} {h0 : kH} (hR : k_RL G X) (K18 : Int32 × kH → Option (Int32 × kH)) (hK18 : ∀ (x3 : Int32) (h : kH), K18 (x3, h) = some (nI 1, h0) → V G M_L_law X T 152 10966 18 [some (rv (12, 10) 0), some (rv (7, 99) 0), some (rv (8, 99) 135), some (iv x3)] [] h) (x3 : Int32) (h : kH) (e : p_L_law_456 K18 (g_n G) (g_xs G) x3 h = some (nI 1, h0)) : V G M_L_law X T 152 10966 456 [some (rv (12, 10) 0), some (rv (7, 99) 0), some (rv (8, 99) 135), some (iv x3)] [] h := by
  unfold p_L_law_456 at e
  refine V_aload_n 244 rfl rfl ?_
  refine V_aload_n 245 rfl rfl ?_
  refine V_iload_n 246 rfl rfl ?_
  refine V_iconst (nI 1) 247 rfl ic_1 ?_
  refine V_iadd 248 rfl ?_
  obtain ⟨g88, e⟩ := gd_e e
  refine V_sld 249 rfl g88 ?_
  obtain ⟨v91, h89, d90, e⟩ := bd2_e e
  refine V_callV (N := M_X7_take) (av := [iv (g_xs G ((x3 + (nI 1))).toNatClampNeg)]) (st := []) (r := some (iv v91)) (h' := h89) 250 rfl (c_X7_take d90) g_X7_take gv_X7_take lk_RL_60 ⟨Nat.le_of_ble_eq_true rfl, Nat.le_of_ble_eq_true rfl⟩ rfl rfl (Nat.le_of_ble_eq_true rfl) ⟨Nat.le_of_ble_eq_true rfl, Nat.le_of_ble_eq_true rfl⟩ ?_
  show V G M_L_law X T 152 10966 465 [some (rv (12, 10) 0), some (rv (7, 99) 0), some (rv (8, 99) 135), some (iv x3)] [iv v91] h89
  refine V_aload_n 251 rfl rfl ?_
  refine V_aload_n 252 rfl rfl ?_
  refine V_iload_n 253 rfl rfl ?_
  refine V_iconst (nI 1) 254 rfl ic_1 ?_
  refine V_iadd 255 rfl ?_
  refine V_sld 256 rfl g88 ?_
  obtain ⟨v94, h92, d93, e⟩ := bd2_e e
  refine V_callV (N := M_X8_take) (av := [iv (g_xs G ((x3 + (nI 1))).toNatClampNeg)]) (st := [iv v91]) (r := some (iv v94)) (h' := h92) 257 rfl (c_X8_take d93) g_X8_take gv_X8_take lk_RL_63 ⟨Nat.le_of_ble_eq_true rfl, Nat.le_of_ble_eq_true rfl⟩ rfl rfl (Nat.le_of_ble_eq_true rfl) ⟨Nat.le_of_ble_eq_true rfl, Nat.le_of_ble_eq_true rfl⟩ ?_
  show V G M_L_law X T 152 10966 474 [some (rv (12, 10) 0), some (rv (7, 99) 0), some (rv (8, 99) 135), some (iv x3)] [iv v94, iv v91] h92
  rcases if_e e with ⟨c258, e⟩ | ⟨c258, e⟩
  · refine V_icmp_eq 1060 258 rfl (by decide +kernel) (fun _ => ?_) (fun q => absurd c258 q) 
    refine V_iinc (x3 + (nI 5)) 740 rfl rfl (inc_5 _) (Nat.le_of_ble_eq_true rfl) rfl ?_
    show V G M_L_law X T 152 10966 1063 [some (rv (12, 10) 0), some (rv (7, 99) 0), some (rv (8, 99) 135), some (iv (x3 + (nI 5)))] [] h92
    refine V_goto 18 741 rfl (by decide +kernel) ?_
    refine V_msk [true, true, true, true] (lc' := [some (rv (12, 10) 0), some (rv (7, 99) 0), some (rv (8, 99) 135), some (iv (x3 + (nI 5)))]) rfl ?_
    exact hK18 (x3 + (nI 5)) h92 e
  · refine V_icmp_eq 1060 258 rfl (by decide +kernel) (fun q => absurd q c258) (fun _ => ?_)
    refine V_iconst (nI 0) 259 rfl ic_0 ?_
    exact absurd (show nI 0 = nI 1 from congrArg Prod.fst (Option.some.inj e)) (by decide)
set_option maxHeartbeats 4000000 in
set_option maxRecDepth 100000 in
theorem w_L_law_479 {G : kG} {X : kX} {T : List kT} {h0 : kH} (hR : k_RL G X) (K18 : Int32 × kH → Option (Int32 × kH)) (hK18 : ∀ (x3 : Int32) (h : kH), K18 (x3, h) = some (nI 1, h0) → V G M_L_law X T 152 10966 18 [some (rv (12, 10) 0), some (rv (7, 99) 0), some (rv (8, 99) 135), some (iv x3)] [] h) (x3 : Int32) (h : kH) (e : p_L_law_479 K18 (g_n G) (g_xs G) x3 h = some (nI 1, h0)) : V G M_L_law X T 152 10966 479 [some (rv (12, 10) 0), some (rv (7, 99) 0), some (rv (8, 99) 135), some (iv x3)] [] h := by
  unfold p_L_law_479 at e
  refine V_aload_n 261 rfl rfl ?_
  refine V_aload_n 262 rfl rfl ?_
  refine V_iload_n 263 rfl rfl ?_
  refine V_iconst (nI 1) 264 rfl ic_1 ?_
  refine V_iadd 265 rfl ?_
  obtain ⟨g96, e⟩ := gd_e e
  refine V_sld 266 rfl g96 ?_
  obtain ⟨v99, h97, d98, e⟩ := bd2_e e
  refine V_callV (N := M_X7_dry) (av := [iv (g_xs G ((x3 + (nI 1))).toNatClampNeg)]) (st := []) (r := some (iv v99)) (h' := h97) 267 rfl (c_X7_dry d98) g_X7_dry gv_X7_dry lk_RL_64 ⟨Nat.le_of_ble_eq_true rfl, Nat.le_of_ble_eq_true rfl⟩ rfl rfl (Nat.le_of_ble_eq_true rfl) ⟨Nat.le_of_ble_eq_true rfl, Nat.le_of_ble_eq_true rfl⟩ ?_
  show V G M_L_law X T 152 10966 488 [some (rv (12, 10) 0), some (rv (7, 99) 0), some (rv (8, 99) 135), some (iv x3)] [iv v99] h97
  refine V_aload_n 268 rfl rfl ?_
  refine V_aload_n 269 rfl rfl ?_
  refine V_iload_n 270 rfl rfl ?_
  refine V_iconst (nI 1) 271 rfl ic_1 ?_
  refine V_iadd 272 rfl ?_
  refine V_sld 273 rfl g96 ?_
  obtain ⟨v102, h100, d101, e⟩ := bd2_e e
  refine V_callV (N := M_X8_dry) (av := [iv (g_xs G ((x3 + (nI 1))).toNatClampNeg)]) (st := [iv v99]) (r := some (iv v102)) (h' := h100) 274 rfl (c_X8_dry d101) g_X8_dry gv_X8_dry lk_RL_67 ⟨Nat.le_of_ble_eq_true rfl, Nat.le_of_ble_eq_true rfl⟩ rfl rfl (Nat.le_of_ble_eq_true rfl) ⟨Nat.le_of_ble_eq_true rfl, Nat.le_of_ble_eq_true rfl⟩ ?_
  show V G M_L_law X T 152 10966 497 [some (rv (12, 10) 0), some (rv (7, 99) 0), some (rv (8, 99) 135), some (iv x3)] [iv v102, iv v99] h100
  rcases if_e e with ⟨c275, e⟩ | ⟨c275, e⟩
  · refine V_icmp_eq 1060 275 rfl (by decide +kernel) (fun _ => ?_) (fun q => absurd c275 q) 
    refine V_iinc (x3 + (nI 5)) 740 rfl rfl (inc_5 _) (Nat.le_of_ble_eq_true rfl) rfl ?_
    show V G M_L_law X T 152 10966 1063 [some (rv (12, 10) 0), some (rv (7, 99) 0), some (rv (8, 99) 135), some (iv (x3 + (nI 5)))] [] h100
    refine V_goto 18 741 rfl (by decide +kernel) ?_
    refine V_msk [true, true, true, true] (lc' := [some (rv (12, 10) 0), some (rv (7, 99) 0), some (rv (8, 99) 135), some (iv (x3 + (nI 5)))]) rfl ?_
    exact hK18 (x3 + (nI 5)) h100 e
  · refine V_icmp_eq 1060 275 rfl (by decide +kernel) (fun q => absurd q c275) (fun _ => ?_)
    refine V_iconst (nI 0) 276 rfl ic_0 ?_
    exact absurd (show nI 0 = nI 1 from congrArg Prod.fst (Option.some.inj e)) (by decide)
set_option maxHeartbeats 4000000 in
set_option maxRecDepth 100000 in
theorem w_L_law_502 {G : kG} {X : kX} {T : List kT} {h0 : kH} (hR : k_RL G X) (K18 : Int32 × kH → Option (Int32 × kH)) (hK18 : ∀ (x3 : Int32) (h : kH), K18 (x3, h) = some (nI 1, h0) → V G M_L_law X T 152 10966 18 [some (rv (12, 10) 0), some (rv (7, 99) 0), some (rv (8, 99) 135), some (iv x3)] [] h) (x3 : Int32) (h : kH) (e : p_L_law_502 K18 (g_n G) (g_xs G) x3 h = some (nI 1, h0)) : V G M_L_law X T 152 10966 502 [some (rv (12, 10) 0), some (rv (7, 99) 0), some (rv (8, 99) 135), some (iv x3)] [] h := by
  unfold p_L_law_502 at e
  refine V_aload_n 278 rfl rfl ?_
  refine V_aload_n 279 rfl rfl ?_
  refine V_iload_n 280 rfl rfl ?_
  refine V_iconst (nI 1) 281 rfl ic_1 ?_
  refine V_iadd 282 rfl ?_
  obtain ⟨g104, e⟩ := gd_e e
  refine V_sld 283 rfl g104 ?_
  refine V_aload_n 284 rfl rfl ?_
  refine V_iload_n 285 rfl rfl ?_
  refine V_iconst (nI 2) 286 rfl ic_2 ?_
  refine V_iadd 287 rfl ?_
  obtain ⟨g105, e⟩ := gd_e e
  refine V_sld 288 rfl g105 ?_
  refine V_aload_n 289 rfl rfl ?_
  refine V_iload_n 290 rfl rfl ?_
  refine V_iconst (nI 3) 291 rfl ic_3 ?_
  refine V_iadd 292 rfl ?_
  obtain ⟨g106, e⟩ := gd_e e
  refine V_sld 293 rfl g106 ?_
  obtain ⟨v109, h107, d108, e⟩ := bd2_e e
  refine V_callV (N := M_X7_run) (av := [iv (g_xs G ((x3 + (nI 1))).toNatClampNeg), iv (g_xs G ((x3 + (nI 2))).toNatClampNeg), iv (g_xs G ((x3 + (nI 3))).toNatClampNeg)]) (st := []) (r := some (iv v109)) (h' := h107) 294 rfl (c_X7_run d108) g_X7_run gv_X7_run lk_RL_68 ⟨Nat.le_of_ble_eq_true rfl, Nat.le_of_ble_eq_true rfl⟩ rfl rfl (Nat.le_of_ble_eq_true rfl) ⟨Nat.le_of_ble_eq_true rfl, Nat.le_of_ble_eq_true rfl⟩ ?_
  show V G M_L_law X T 152 10966 521 [some (rv (12, 10) 0), some (rv (7, 99) 0), some (rv (8, 99) 135), some (iv x3)] [iv v109] h107
  refine V_aload_n 295 rfl rfl ?_
  refine V_aload_n 296 rfl rfl ?_
  refine V_iload_n 297 rfl rfl ?_
  refine V_iconst (nI 1) 298 rfl ic_1 ?_
  refine V_iadd 299 rfl ?_
  refine V_sld 300 rfl g104 ?_
  refine V_aload_n 301 rfl rfl ?_
  refine V_iload_n 302 rfl rfl ?_
  refine V_iconst (nI 2) 303 rfl ic_2 ?_
  refine V_iadd 304 rfl ?_
  refine V_sld 305 rfl g105 ?_
  refine V_aload_n 306 rfl rfl ?_
  refine V_iload_n 307 rfl rfl ?_
  refine V_iconst (nI 3) 308 rfl ic_3 ?_
  refine V_iadd 309 rfl ?_
  refine V_sld 310 rfl g106 ?_
  obtain ⟨v112, h110, d111, e⟩ := bd2_e e
  refine V_callV (N := M_X8_run) (av := [iv (g_xs G ((x3 + (nI 1))).toNatClampNeg), iv (g_xs G ((x3 + (nI 2))).toNatClampNeg), iv (g_xs G ((x3 + (nI 3))).toNatClampNeg)]) (st := [iv v109]) (r := some (iv v112)) (h' := h110) 311 rfl (c_X8_run d111) g_X8_run gv_X8_run lk_RL_72 ⟨Nat.le_of_ble_eq_true rfl, Nat.le_of_ble_eq_true rfl⟩ rfl rfl (Nat.le_of_ble_eq_true rfl) ⟨Nat.le_of_ble_eq_true rfl, Nat.le_of_ble_eq_true rfl⟩ ?_
  show V G M_L_law X T 152 10966 540 [some (rv (12, 10) 0), some (rv (7, 99) 0), some (rv (8, 99) 135), some (iv x3)] [iv v112, iv v109] h110
  rcases if_e e with ⟨c312, e⟩ | ⟨c312, e⟩
  · refine V_icmp_eq 1060 312 rfl (by decide +kernel) (fun _ => ?_) (fun q => absurd c312 q) 
    refine V_iinc (x3 + (nI 5)) 740 rfl rfl (inc_5 _) (Nat.le_of_ble_eq_true rfl) rfl ?_
    show V G M_L_law X T 152 10966 1063 [some (rv (12, 10) 0), some (rv (7, 99) 0), some (rv (8, 99) 135), some (iv (x3 + (nI 5)))] [] h110
    refine V_goto 18 741 rfl (by decide +kernel) ?_
    refine V_msk [true, true, true, true] (lc' := [some (rv (12, 10) 0), some (rv (7, 99) 0), some (rv (8, 99) 135), some (iv (x3 + (nI 5)))]) rfl ?_
    exact hK18 (x3 + (nI 5)) h110 e
  · refine V_icmp_eq 1060 312 rfl (by decide +kernel) (fun q => absurd q c312) (fun _ => ?_)
    refine V_iconst (nI 0) 313 rfl ic_0 ?_
    exact absurd (show nI 0 = nI 1 from congrArg Prod.fst (Option.some.inj e)) (by decide)
set_option maxHeartbeats 4000000 in
set_option maxRecDepth 100000 in
theorem w_L_law_545 {G : kG} {X : kX} {T : List kT} {h0 : kH} (hR : k_RL G X) (K18 : Int32 × kH → Option (Int32 × kH)) (hK18 : ∀ (x3 : Int32) (h : kH), K18 (x3, h) = some (nI 1, h0) → V G M_L_law X T 152 10966 18 [some (rv (12, 10) 0), some (rv (7, 99) 0), some (rv (8, 99) 135), some (iv x3)] [] h) (x3 : Int32) (h : kH) (e : p_L_law_545 K18 (g_n G) (g_xs G) x3 h = some (nI 1, h0)) : V G M_L_law X T 152 10966 545 [some (rv (12, 10) 0), some (rv (7, 99) 0), some (rv (8, 99) 135), some (iv x3)] [] h := by
  unfold p_L_law_545 at e
  refine V_aload_n 315 rfl rfl ?_
  refine V_aload_n 316 rfl rfl ?_
  refine V_iload_n 317 rfl rfl ?_
  refine V_iconst (nI 1) 318 rfl ic_1 ?_
  refine V_iadd 319 rfl ?_
  obtain ⟨g114, e⟩ := gd_e e
  refine V_sld 320 rfl g114 ?_
  refine V_aload_n 321 rfl rfl ?_
  refine V_iload_n 322 rfl rfl ?_
  refine V_iconst (nI 2) 323 rfl ic_2 ?_
  refine V_iadd 324 rfl ?_
  obtain ⟨g115, e⟩ := gd_e e
  refine V_sld 325 rfl g115 ?_
  refine V_aload_n 326 rfl rfl ?_
  refine V_iload_n 327 rfl rfl ?_
  refine V_iconst (nI 3) 328 rfl ic_3 ?_
  refine V_iadd 329 rfl ?_
  obtain ⟨g116, e⟩ := gd_e e
  refine V_sld 330 rfl g116 ?_
  refine V_aload_n 331 rfl rfl ?_
  refine V_iload_n 332 rfl rfl ?_
  refine V_iconst (nI 4) 333 rfl ic_4 ?_
  refine V_iadd 334 rfl ?_
  obtain ⟨g117, e⟩ := gd_e e
  refine V_sld 335 rfl g117 ?_
  obtain ⟨v120, h118, d119, e⟩ := bd2_e e
  refine V_callV (N := M_X7_of) (av := [iv (g_xs G ((x3 + (nI 1))).toNatClampNeg), iv (g_xs G ((x3 + (nI 2))).toNatClampNeg), iv (g_xs G ((x3 + (nI 3))).toNatClampNeg), iv (g_xs G ((x3 + (nI 4))).toNatClampNeg)]) (st := []) (r := some (iv v120)) (h' := h118) 336 rfl (c_X7_of d119) g_X7_of gv_X7_of lk_RL_73 ⟨Nat.le_of_ble_eq_true rfl, Nat.le_of_ble_eq_true rfl⟩ rfl rfl (Nat.le_of_ble_eq_true rfl) ⟨Nat.le_of_ble_eq_true rfl, Nat.le_of_ble_eq_true rfl⟩ ?_
  show V G M_L_law X T 152 10966 569 [some (rv (12, 10) 0), some (rv (7, 99) 0), some (rv (8, 99) 135), some (iv x3)] [iv v120] h118
  refine V_aload_n 337 rfl rfl ?_
  refine V_aload_n 338 rfl rfl ?_
  refine V_iload_n 339 rfl rfl ?_
  refine V_iconst (nI 1) 340 rfl ic_1 ?_
  refine V_iadd 341 rfl ?_
  refine V_sld 342 rfl g114 ?_
  refine V_aload_n 343 rfl rfl ?_
  refine V_iload_n 344 rfl rfl ?_
  refine V_iconst (nI 2) 345 rfl ic_2 ?_
  refine V_iadd 346 rfl ?_
  refine V_sld 347 rfl g115 ?_
  refine V_aload_n 348 rfl rfl ?_
  refine V_iload_n 349 rfl rfl ?_
  refine V_iconst (nI 3) 350 rfl ic_3 ?_
  refine V_iadd 351 rfl ?_
  refine V_sld 352 rfl g116 ?_
  refine V_aload_n 353 rfl rfl ?_
  refine V_iload_n 354 rfl rfl ?_
  refine V_iconst (nI 4) 355 rfl ic_4 ?_
  refine V_iadd 356 rfl ?_
  refine V_sld 357 rfl g117 ?_
  obtain ⟨v123, h121, d122, e⟩ := bd2_e e
  refine V_callV (N := M_X8_of) (av := [iv (g_xs G ((x3 + (nI 1))).toNatClampNeg), iv (g_xs G ((x3 + (nI 2))).toNatClampNeg), iv (g_xs G ((x3 + (nI 3))).toNatClampNeg), iv (g_xs G ((x3 + (nI 4))).toNatClampNeg)]) (st := [iv v120]) (r := some (iv v123)) (h' := h121) 358 rfl (c_X8_of d122) g_X8_of gv_X8_of lk_RL_77 ⟨Nat.le_of_ble_eq_true rfl, Nat.le_of_ble_eq_true rfl⟩ rfl rfl (Nat.le_of_ble_eq_true rfl) ⟨Nat.le_of_ble_eq_true rfl, Nat.le_of_ble_eq_true rfl⟩ ?_
  show V G M_L_law X T 152 10966 593 [some (rv (12, 10) 0), some (rv (7, 99) 0), some (rv (8, 99) 135), some (iv x3)] [iv v123, iv v120] h121
  rcases if_e e with ⟨c359, e⟩ | ⟨c359, e⟩
  · refine V_icmp_eq 1060 359 rfl (by decide +kernel) (fun _ => ?_) (fun q => absurd c359 q) 
    refine V_iinc (x3 + (nI 5)) 740 rfl rfl (inc_5 _) (Nat.le_of_ble_eq_true rfl) rfl ?_
    show V G M_L_law X T 152 10966 1063 [some (rv (12, 10) 0), some (rv (7, 99) 0), some (rv (8, 99) 135), some (iv (x3 + (nI 5)))] [] h121
    refine V_goto 18 741 rfl (by decide +kernel) ?_
    refine V_msk [true, true, true, true] (lc' := [some (rv (12, 10) 0), some (rv (7, 99) 0), some (rv (8, 99) 135), some (iv (x3 + (nI 5)))]) rfl ?_
    exact hK18 (x3 + (nI 5)) h121 e
  · refine V_icmp_eq 1060 359 rfl (by decide +kernel) (fun q => absurd q c359) (fun _ => ?_)
    refine V_iconst (nI 0) 360 rfl ic_0 ?_
    exact absurd (show nI 0 = nI 1 from congrArg Prod.fst (Option.some.inj e)) (by decide)
set_option maxHeartbeats 4000000 in
set_option maxRecDepth 100000 in
theorem w_L_law_598 {G : kG} {X : kX} {T : List kT} {h0 : kH} (hR : k_RL G X) (K18 : Int32 × kH → Option (Int32 × kH)) (hK18 : ∀ (x3 : Int32) (h : kH), K18 (x3, h) = some (nI 1, h0) → V G M_L_law X T 152 10966 18 [some (rv (12, 10) 0), some (rv (7, 99) 0), some (rv (8, 99) 135), some (iv x3)] [] h) (x3 : Int32) (h : kH) (e : p_L_law_598 K18 (g_n G) (g_xs G) x3 h = some (nI 1, h0)) : V G M_L_law X T 152 10966 598 [some (rv (12, 10) 0), some (rv (7, 99) 0), some (rv (8, 99) 135), some (iv x3)] [] h := by
  unfold p_L_law_598 at e
  refine V_aload_n 362 rfl rfl ?_
  refine V_aload_n 363 rfl rfl ?_
  refine V_iload_n 364 rfl rfl ?_
  refine V_iconst (nI 1) 365 rfl ic_1 ?_
  refine V_iadd 366 rfl ?_
  obtain ⟨g125, e⟩ := gd_e e
  refine V_sld 367 rfl g125 ?_
  refine V_aload_n 368 rfl rfl ?_
  refine V_iload_n 369 rfl rfl ?_
  refine V_iconst (nI 2) 370 rfl ic_2 ?_
  refine V_iadd 371 rfl ?_
  obtain ⟨g126, e⟩ := gd_e e
  refine V_sld 372 rfl g126 ?_
  obtain ⟨v129, h127, d128, e⟩ := bd2_e e
  refine V_callV (N := M_X7_drying) (av := [iv (g_xs G ((x3 + (nI 1))).toNatClampNeg), iv (g_xs G ((x3 + (nI 2))).toNatClampNeg)]) (st := []) (r := some (iv v129)) (h' := h127) 373 rfl (c_X7_drying d128) g_X7_drying gv_X7_drying lk_RL_78 ⟨Nat.le_of_ble_eq_true rfl, Nat.le_of_ble_eq_true rfl⟩ rfl rfl (Nat.le_of_ble_eq_true rfl) ⟨Nat.le_of_ble_eq_true rfl, Nat.le_of_ble_eq_true rfl⟩ ?_
  show V G M_L_law X T 152 10966 612 [some (rv (12, 10) 0), some (rv (7, 99) 0), some (rv (8, 99) 135), some (iv x3)] [iv v129] h127
  refine V_aload_n 374 rfl rfl ?_
  refine V_aload_n 375 rfl rfl ?_
  refine V_iload_n 376 rfl rfl ?_
  refine V_iconst (nI 1) 377 rfl ic_1 ?_
  refine V_iadd 378 rfl ?_
  refine V_sld 379 rfl g125 ?_
  refine V_aload_n 380 rfl rfl ?_
  refine V_iload_n 381 rfl rfl ?_
  refine V_iconst (nI 2) 382 rfl ic_2 ?_
  refine V_iadd 383 rfl ?_
  refine V_sld 384 rfl g126 ?_
  obtain ⟨v132, h130, d131, e⟩ := bd2_e e
  refine V_callV (N := M_X8_drying) (av := [iv (g_xs G ((x3 + (nI 1))).toNatClampNeg), iv (g_xs G ((x3 + (nI 2))).toNatClampNeg)]) (st := [iv v129]) (r := some (iv v132)) (h' := h130) 385 rfl (c_X8_drying d131) g_X8_drying gv_X8_drying lk_RL_81 ⟨Nat.le_of_ble_eq_true rfl, Nat.le_of_ble_eq_true rfl⟩ rfl rfl (Nat.le_of_ble_eq_true rfl) ⟨Nat.le_of_ble_eq_true rfl, Nat.le_of_ble_eq_true rfl⟩ ?_
  show V G M_L_law X T 152 10966 626 [some (rv (12, 10) 0), some (rv (7, 99) 0), some (rv (8, 99) 135), some (iv x3)] [iv v132, iv v129] h130
  rcases if_e e with ⟨c386, e⟩ | ⟨c386, e⟩
  · refine V_icmp_eq 1060 386 rfl (by decide +kernel) (fun _ => ?_) (fun q => absurd c386 q) 
    refine V_iinc (x3 + (nI 5)) 740 rfl rfl (inc_5 _) (Nat.le_of_ble_eq_true rfl) rfl ?_
    show V G M_L_law X T 152 10966 1063 [some (rv (12, 10) 0), some (rv (7, 99) 0), some (rv (8, 99) 135), some (iv (x3 + (nI 5)))] [] h130
    refine V_goto 18 741 rfl (by decide +kernel) ?_
    refine V_msk [true, true, true, true] (lc' := [some (rv (12, 10) 0), some (rv (7, 99) 0), some (rv (8, 99) 135), some (iv (x3 + (nI 5)))]) rfl ?_
    exact hK18 (x3 + (nI 5)) h130 e
  · refine V_icmp_eq 1060 386 rfl (by decide +kernel) (fun q => absurd q c386) (fun _ => ?_)
    refine V_iconst (nI 0) 387 rfl ic_0 ?_
    exact absurd (show nI 0 = nI 1 from congrArg Prod.fst (Option.some.inj e)) (by decide)
set_option maxHeartbeats 4000000 in
set_option maxRecDepth 100000 in
theorem w_L_law_631 {G : kG} {X : kX} {T : List kT} {h0 : kH} (hR : k_RL G X) (K18 : Int32 × kH → Option (Int32 × kH)) (hK18 : ∀ (x3 : Int32) (h : kH), K18 (x3, h) = some (nI 1, h0) → V G M_L_law X T 152 10966 18 [some (rv (12, 10) 0), some (rv (7, 99) 0), some (rv (8, 99) 135), some (iv x3)] [] h) (x3 : Int32) (h : kH) (e : p_L_law_631 K18 (g_n G) (g_xs G) x3 h = some (nI 1, h0)) : V G M_L_law X T 152 10966 631 [some (rv (12, 10) 0), some (rv (7, 99) 0), some (rv (8, 99) 135), some (iv x3)] [] h := by
  unfold p_L_law_631 at e
  refine V_aload_n 389 rfl rfl ?_
  refine V_aload_n 390 rfl rfl ?_
  refine V_iload_n 391 rfl rfl ?_
  refine V_iconst (nI 1) 392 rfl ic_1 ?_
  refine V_iadd 393 rfl ?_
  obtain ⟨g134, e⟩ := gd_e e
  refine V_sld 394 rfl g134 ?_
  refine V_aload_n 395 rfl rfl ?_
  refine V_iload_n 396 rfl rfl ?_
  refine V_iconst (nI 2) 397 rfl ic_2 ?_
  refine V_iadd 398 rfl ?_
  obtain ⟨g135, e⟩ := gd_e e
  refine V_sld 399 rfl g135 ?_
  refine V_aload_n 400 rfl rfl ?_
  refine V_iload_n 401 rfl rfl ?_
  refine V_iconst (nI 3) 402 rfl ic_3 ?_
  refine V_iadd 403 rfl ?_
  obtain ⟨g136, e⟩ := gd_e e
  refine V_sld 404 rfl g136 ?_
  obtain ⟨v139, h137, d138, e⟩ := bd2_e e
  refine V_callV (N := M_X7_grit) (av := [iv (g_xs G ((x3 + (nI 1))).toNatClampNeg), iv (g_xs G ((x3 + (nI 2))).toNatClampNeg), iv (g_xs G ((x3 + (nI 3))).toNatClampNeg)]) (st := []) (r := some (iv v139)) (h' := h137) 405 rfl (c_X7_grit d138) g_X7_grit gv_X7_grit lk_RL_82 ⟨Nat.le_of_ble_eq_true rfl, Nat.le_of_ble_eq_true rfl⟩ rfl rfl (Nat.le_of_ble_eq_true rfl) ⟨Nat.le_of_ble_eq_true rfl, Nat.le_of_ble_eq_true rfl⟩ ?_
  show V G M_L_law X T 152 10966 650 [some (rv (12, 10) 0), some (rv (7, 99) 0), some (rv (8, 99) 135), some (iv x3)] [iv v139] h137
  refine V_aload_n 406 rfl rfl ?_
  refine V_aload_n 407 rfl rfl ?_
  refine V_iload_n 408 rfl rfl ?_
  refine V_iconst (nI 1) 409 rfl ic_1 ?_
  refine V_iadd 410 rfl ?_
  refine V_sld 411 rfl g134 ?_
  refine V_aload_n 412 rfl rfl ?_
  refine V_iload_n 413 rfl rfl ?_
  refine V_iconst (nI 2) 414 rfl ic_2 ?_
  refine V_iadd 415 rfl ?_
  refine V_sld 416 rfl g135 ?_
  refine V_aload_n 417 rfl rfl ?_
  refine V_iload_n 418 rfl rfl ?_
  refine V_iconst (nI 3) 419 rfl ic_3 ?_
  refine V_iadd 420 rfl ?_
  refine V_sld 421 rfl g136 ?_
  obtain ⟨v142, h140, d141, e⟩ := bd2_e e
  refine V_callV (N := M_X8_grit) (av := [iv (g_xs G ((x3 + (nI 1))).toNatClampNeg), iv (g_xs G ((x3 + (nI 2))).toNatClampNeg), iv (g_xs G ((x3 + (nI 3))).toNatClampNeg)]) (st := [iv v139]) (r := some (iv v142)) (h' := h140) 422 rfl (c_X8_grit d141) g_X8_grit gv_X8_grit lk_RL_85 ⟨Nat.le_of_ble_eq_true rfl, Nat.le_of_ble_eq_true rfl⟩ rfl rfl (Nat.le_of_ble_eq_true rfl) ⟨Nat.le_of_ble_eq_true rfl, Nat.le_of_ble_eq_true rfl⟩ ?_
  show V G M_L_law X T 152 10966 669 [some (rv (12, 10) 0), some (rv (7, 99) 0), some (rv (8, 99) 135), some (iv x3)] [iv v142, iv v139] h140
  rcases if_e e with ⟨c423, e⟩ | ⟨c423, e⟩
  · refine V_icmp_eq 1060 423 rfl (by decide +kernel) (fun _ => ?_) (fun q => absurd c423 q) 
    refine V_iinc (x3 + (nI 5)) 740 rfl rfl (inc_5 _) (Nat.le_of_ble_eq_true rfl) rfl ?_
    show V G M_L_law X T 152 10966 1063 [some (rv (12, 10) 0), some (rv (7, 99) 0), some (rv (8, 99) 135), some (iv (x3 + (nI 5)))] [] h140
    refine V_goto 18 741 rfl (by decide +kernel) ?_
    refine V_msk [true, true, true, true] (lc' := [some (rv (12, 10) 0), some (rv (7, 99) 0), some (rv (8, 99) 135), some (iv (x3 + (nI 5)))]) rfl ?_
    exact hK18 (x3 + (nI 5)) h140 e
  · refine V_icmp_eq 1060 423 rfl (by decide +kernel) (fun q => absurd q c423) (fun _ => ?_)
    refine V_iconst (nI 0) 424 rfl ic_0 ?_
    exact absurd (show nI 0 = nI 1 from congrArg Prod.fst (Option.some.inj e)) (by decide)
set_option maxHeartbeats 4000000 in
set_option maxRecDepth 100000 in
theorem w_L_law_674 {G : kG} {X : kX} {T : List kT} {h0 : kH} (hR : k_RL G X) (K18 : Int32 × kH → Option (Int32 × kH)) (hK18 : ∀ (x3 : Int32) (h : kH), K18 (x3, h) = some (nI 1, h0) → V G M_L_law X T 152 10966 18 [some (rv (12, 10) 0), some (rv (7, 99) 0), some (rv (8, 99) 135), some (iv x3)] [] h) (x3 : Int32) (h : kH) (e : p_L_law_674 K18 (g_n G) (g_xs G) x3 h = some (nI 1, h0)) : V G M_L_law X T 152 10966 674 [some (rv (12, 10) 0), some (rv (7, 99) 0), some (rv (8, 99) 135), some (iv x3)] [] h := by
  unfold p_L_law_674 at e
  refine V_aload_n 426 rfl rfl ?_
  refine V_aload_n 427 rfl rfl ?_
  refine V_iload_n 428 rfl rfl ?_
  refine V_iconst (nI 1) 429 rfl ic_1 ?_
  refine V_iadd 430 rfl ?_
  obtain ⟨g144, e⟩ := gd_e e
  refine V_sld 431 rfl g144 ?_
  refine V_aload_n 432 rfl rfl ?_
  refine V_iload_n 433 rfl rfl ?_
  refine V_iconst (nI 2) 434 rfl ic_2 ?_
  refine V_iadd 435 rfl ?_
  obtain ⟨g145, e⟩ := gd_e e
  refine V_sld 436 rfl g145 ?_
  refine V_aload_n 437 rfl rfl ?_
  refine V_iload_n 438 rfl rfl ?_
  refine V_iconst (nI 3) 439 rfl ic_3 ?_
  refine V_iadd 440 rfl ?_
  obtain ⟨g146, e⟩ := gd_e e
  refine V_sld 441 rfl g146 ?_
  obtain ⟨v149, h147, d148, e⟩ := bd2_e e
  refine V_callV (N := M_X7_enough) (av := [iv (g_xs G ((x3 + (nI 1))).toNatClampNeg), iv (g_xs G ((x3 + (nI 2))).toNatClampNeg), iv (g_xs G ((x3 + (nI 3))).toNatClampNeg)]) (st := []) (r := some (iv v149)) (h' := h147) 442 rfl (c_X7_enough d148) g_X7_enough gv_X7_enough lk_RL_86 ⟨Nat.le_of_ble_eq_true rfl, Nat.le_of_ble_eq_true rfl⟩ rfl rfl (Nat.le_of_ble_eq_true rfl) ⟨Nat.le_of_ble_eq_true rfl, Nat.le_of_ble_eq_true rfl⟩ ?_
  show V G M_L_law X T 152 10966 693 [some (rv (12, 10) 0), some (rv (7, 99) 0), some (rv (8, 99) 135), some (iv x3)] [iv v149] h147
  refine V_aload_n 443 rfl rfl ?_
  refine V_aload_n 444 rfl rfl ?_
  refine V_iload_n 445 rfl rfl ?_
  refine V_iconst (nI 1) 446 rfl ic_1 ?_
  refine V_iadd 447 rfl ?_
  refine V_sld 448 rfl g144 ?_
  refine V_aload_n 449 rfl rfl ?_
  refine V_iload_n 450 rfl rfl ?_
  refine V_iconst (nI 2) 451 rfl ic_2 ?_
  refine V_iadd 452 rfl ?_
  refine V_sld 453 rfl g145 ?_
  refine V_aload_n 454 rfl rfl ?_
  refine V_iload_n 455 rfl rfl ?_
  refine V_iconst (nI 3) 456 rfl ic_3 ?_
  refine V_iadd 457 rfl ?_
  refine V_sld 458 rfl g146 ?_
  obtain ⟨v152, h150, d151, e⟩ := bd2_e e
  refine V_callV (N := M_X8_enough) (av := [iv (g_xs G ((x3 + (nI 1))).toNatClampNeg), iv (g_xs G ((x3 + (nI 2))).toNatClampNeg), iv (g_xs G ((x3 + (nI 3))).toNatClampNeg)]) (st := [iv v149]) (r := some (iv v152)) (h' := h150) 459 rfl (c_X8_enough d151) g_X8_enough gv_X8_enough lk_RL_89 ⟨Nat.le_of_ble_eq_true rfl, Nat.le_of_ble_eq_true rfl⟩ rfl rfl (Nat.le_of_ble_eq_true rfl) ⟨Nat.le_of_ble_eq_true rfl, Nat.le_of_ble_eq_true rfl⟩ ?_
  show V G M_L_law X T 152 10966 712 [some (rv (12, 10) 0), some (rv (7, 99) 0), some (rv (8, 99) 135), some (iv x3)] [iv v152, iv v149] h150
  rcases if_e e with ⟨c460, e⟩ | ⟨c460, e⟩
  · refine V_icmp_eq 1060 460 rfl (by decide +kernel) (fun _ => ?_) (fun q => absurd c460 q) 
    refine V_iinc (x3 + (nI 5)) 740 rfl rfl (inc_5 _) (Nat.le_of_ble_eq_true rfl) rfl ?_
    show V G M_L_law X T 152 10966 1063 [some (rv (12, 10) 0), some (rv (7, 99) 0), some (rv (8, 99) 135), some (iv (x3 + (nI 5)))] [] h150
    refine V_goto 18 741 rfl (by decide +kernel) ?_
    refine V_msk [true, true, true, true] (lc' := [some (rv (12, 10) 0), some (rv (7, 99) 0), some (rv (8, 99) 135), some (iv (x3 + (nI 5)))]) rfl ?_
    exact hK18 (x3 + (nI 5)) h150 e
  · refine V_icmp_eq 1060 460 rfl (by decide +kernel) (fun q => absurd q c460) (fun _ => ?_)
    refine V_iconst (nI 0) 461 rfl ic_0 ?_
    exact absurd (show nI 0 = nI 1 from congrArg Prod.fst (Option.some.inj e)) (by decide)
set_option maxHeartbeats 4000000 in
set_option maxRecDepth 100000 in
theorem w_L_law_717 {G : kG} {X : kX} {T : List kT} {h0 : kH} (hR : k_RL G X) (K18 : Int32 × kH → Option (Int32 × kH)) (hK18 : ∀ (x3 : Int32) (h : kH), K18 (x3, h) = some (nI 1, h0) → V G M_L_law X T 152 10966 18 [some (rv (12, 10) 0), some (rv (7, 99) 0), some (rv (8, 99) 135), some (iv x3)] [] h) (x3 : Int32) (h : kH) (e : p_L_law_717 K18 (g_n G) (g_xs G) x3 h = some (nI 1, h0)) : V G M_L_law X T 152 10966 717 [some (rv (12, 10) 0), some (rv (7, 99) 0), some (rv (8, 99) 135), some (iv x3)] [] h := by
  unfold p_L_law_717 at e
  refine V_aload_n 463 rfl rfl ?_
  refine V_aload_n 464 rfl rfl ?_
  refine V_iload_n 465 rfl rfl ?_
  refine V_iconst (nI 1) 466 rfl ic_1 ?_
  refine V_iadd 467 rfl ?_
  obtain ⟨g154, e⟩ := gd_e e
  refine V_sld 468 rfl g154 ?_
  obtain ⟨v157, h155, d156, e⟩ := bd2_e e
  refine V_callV (N := M_X7_spot) (av := [iv (g_xs G ((x3 + (nI 1))).toNatClampNeg)]) (st := []) (r := some (iv v157)) (h' := h155) 469 rfl (c_X7_spot d156) g_X7_spot gv_X7_spot lk_RL_90 ⟨Nat.le_of_ble_eq_true rfl, Nat.le_of_ble_eq_true rfl⟩ rfl rfl (Nat.le_of_ble_eq_true rfl) ⟨Nat.le_of_ble_eq_true rfl, Nat.le_of_ble_eq_true rfl⟩ ?_
  show V G M_L_law X T 152 10966 726 [some (rv (12, 10) 0), some (rv (7, 99) 0), some (rv (8, 99) 135), some (iv x3)] [iv v157] h155
  refine V_aload_n 470 rfl rfl ?_
  refine V_aload_n 471 rfl rfl ?_
  refine V_iload_n 472 rfl rfl ?_
  refine V_iconst (nI 1) 473 rfl ic_1 ?_
  refine V_iadd 474 rfl ?_
  refine V_sld 475 rfl g154 ?_
  obtain ⟨v160, h158, d159, e⟩ := bd2_e e
  refine V_callV (N := M_X8_spot) (av := [iv (g_xs G ((x3 + (nI 1))).toNatClampNeg)]) (st := [iv v157]) (r := some (iv v160)) (h' := h158) 476 rfl (c_X8_spot d159) g_X8_spot gv_X8_spot lk_RL_93 ⟨Nat.le_of_ble_eq_true rfl, Nat.le_of_ble_eq_true rfl⟩ rfl rfl (Nat.le_of_ble_eq_true rfl) ⟨Nat.le_of_ble_eq_true rfl, Nat.le_of_ble_eq_true rfl⟩ ?_
  show V G M_L_law X T 152 10966 735 [some (rv (12, 10) 0), some (rv (7, 99) 0), some (rv (8, 99) 135), some (iv x3)] [iv v160, iv v157] h158
  rcases if_e e with ⟨c477, e⟩ | ⟨c477, e⟩
  · refine V_icmp_eq 1060 477 rfl (by decide +kernel) (fun _ => ?_) (fun q => absurd c477 q) 
    refine V_iinc (x3 + (nI 5)) 740 rfl rfl (inc_5 _) (Nat.le_of_ble_eq_true rfl) rfl ?_
    show V G M_L_law X T 152 10966 1063 [some (rv (12, 10) 0), some (rv (7, 99) 0), some (rv (8, 99) 135), some (iv (x3 + (nI 5)))] [] h158
    refine V_goto 18 741 rfl (by decide +kernel) ?_
    refine V_msk [true, true, true, true] (lc' := [some (rv (12, 10) 0), some (rv (7, 99) 0), some (rv (8, 99) 135), some (iv (x3 + (nI 5)))]) rfl ?_
    exact hK18 (x3 + (nI 5)) h158 e
  · refine V_icmp_eq 1060 477 rfl (by decide +kernel) (fun q => absurd q c477) (fun _ => ?_)
    refine V_iconst (nI 0) 478 rfl ic_0 ?_
    exact absurd (show nI 0 = nI 1 from congrArg Prod.fst (Option.some.inj e)) (by decide)
set_option maxHeartbeats 4000000 in
set_option maxRecDepth 100000 in
theorem w_L_law_740 {G : kG} {X : kX} {T : List kT} {h0 : kH} (hR : k_RL G X) (K18 : Int32 × kH → Option (Int32 × kH)) (hK18 : ∀ (x3 : Int32) (h : kH), K18 (x3, h) = some (nI 1, h0) → V G M_L_law X T 152 10966 18 [some (rv (12, 10) 0), some (rv (7, 99) 0), some (rv (8, 99) 135), some (iv x3)] [] h) (x3 : Int32) (h : kH) (e : p_L_law_740 K18 (g_n G) (g_xs G) x3 h = some (nI 1, h0)) : V G M_L_law X T 152 10966 740 [some (rv (12, 10) 0), some (rv (7, 99) 0), some (rv (8, 99) 135), some (iv x3)] [] h := by
  unfold p_L_law_740 at e
  refine V_aload_n 480 rfl rfl ?_
  obtain ⟨v164, h162, d163, e⟩ := bd2_e e
  refine V_callV (N := M_X7_noSpots) (av := []) (st := []) (r := some (iv v164)) (h' := h162) 481 rfl (c_X7_noSpots d163) g_X7_noSpots gv_X7_noSpots lk_RL_94 ⟨Nat.le_of_ble_eq_true rfl, Nat.le_of_ble_eq_true rfl⟩ rfl rfl (Nat.le_of_ble_eq_true rfl) ⟨Nat.le_of_ble_eq_true rfl, Nat.le_of_ble_eq_true rfl⟩ ?_
  show V G M_L_law X T 152 10966 744 [some (rv (12, 10) 0), some (rv (7, 99) 0), some (rv (8, 99) 135), some (iv x3)] [iv v164] h162
  refine V_aload_n 482 rfl rfl ?_
  obtain ⟨v167, h165, d166, e⟩ := bd2_e e
  refine V_callV (N := M_X8_noSpots) (av := []) (st := [iv v164]) (r := some (iv v167)) (h' := h165) 483 rfl (c_X8_noSpots d166) g_X8_noSpots gv_X8_noSpots lk_RL_97 ⟨Nat.le_of_ble_eq_true rfl, Nat.le_of_ble_eq_true rfl⟩ rfl rfl (Nat.le_of_ble_eq_true rfl) ⟨Nat.le_of_ble_eq_true rfl, Nat.le_of_ble_eq_true rfl⟩ ?_
  show V G M_L_law X T 152 10966 748 [some (rv (12, 10) 0), some (rv (7, 99) 0), some (rv (8, 99) 135), some (iv x3)] [iv v167, iv v164] h165
  rcases if_e e with ⟨c484, e⟩ | ⟨c484, e⟩
  · refine V_icmp_eq 1060 484 rfl (by decide +kernel) (fun _ => ?_) (fun q => absurd c484 q) 
    refine V_iinc (x3 + (nI 5)) 740 rfl rfl (inc_5 _) (Nat.le_of_ble_eq_true rfl) rfl ?_
    show V G M_L_law X T 152 10966 1063 [some (rv (12, 10) 0), some (rv (7, 99) 0), some (rv (8, 99) 135), some (iv (x3 + (nI 5)))] [] h165
    refine V_goto 18 741 rfl (by decide +kernel) ?_
    refine V_msk [true, true, true, true] (lc' := [some (rv (12, 10) 0), some (rv (7, 99) 0), some (rv (8, 99) 135), some (iv (x3 + (nI 5)))]) rfl ?_
    exact hK18 (x3 + (nI 5)) h165 e
  · refine V_icmp_eq 1060 484 rfl (by decide +kernel) (fun q => absurd q c484) (fun _ => ?_)
    refine V_iconst (nI 0) 485 rfl ic_0 ?_
    exact absurd (show nI 0 = nI 1 from congrArg Prod.fst (Option.some.inj e)) (by decide)
set_option maxHeartbeats 4000000 in
set_option maxRecDepth 100000 in
theorem w_L_law_753 {G : kG} {X : kX} {T : List kT} {h0 : kH} (hR : k_RL G X) (K18 : Int32 × kH → Option (Int32 × kH)) (hK18 : ∀ (x3 : Int32) (h : kH), K18 (x3, h) = some (nI 1, h0) → V G M_L_law X T 152 10966 18 [some (rv (12, 10) 0), some (rv (7, 99) 0), some (rv (8, 99) 135), some (iv x3)] [] h) (x3 : Int32) (h : kH) (e : p_L_law_753 K18 (g_n G) (g_xs G) x3 h = some (nI 1, h0)) : V G M_L_law X T 152 10966 753 [some (rv (12, 10) 0), some (rv (7, 99) 0), some (rv (8, 99) 135), some (iv x3)] [] h := by
  unfold p_L_law_753 at e
  refine V_aload_n 487 rfl rfl ?_
  refine V_aload_n 488 rfl rfl ?_
  refine V_iload_n 489 rfl rfl ?_
  refine V_iconst (nI 1) 490 rfl ic_1 ?_
  refine V_iadd 491 rfl ?_
  obtain ⟨g169, e⟩ := gd_e e
  refine V_sld 492 rfl g169 ?_
  refine V_aload_n 493 rfl rfl ?_
  refine V_iload_n 494 rfl rfl ?_
  refine V_iconst (nI 2) 495 rfl ic_2 ?_
  refine V_iadd 496 rfl ?_
  obtain ⟨g170, e⟩ := gd_e e
  refine V_sld 497 rfl g170 ?_
  refine V_aload_n 498 rfl rfl ?_
  refine V_iload_n 499 rfl rfl ?_
  refine V_iconst (nI 3) 500 rfl ic_3 ?_
  refine V_iadd 501 rfl ?_
  obtain ⟨g171, e⟩ := gd_e e
  refine V_sld 502 rfl g171 ?_
  refine V_aload_n 503 rfl rfl ?_
  refine V_iload_n 504 rfl rfl ?_
  refine V_iconst (nI 4) 505 rfl ic_4 ?_
  refine V_iadd 506 rfl ?_
  obtain ⟨g172, e⟩ := gd_e e
  refine V_sld 507 rfl g172 ?_
  obtain ⟨v175, h173, d174, e⟩ := bd2_e e
  refine V_callV (N := M_X7_lies) (av := [iv (g_xs G ((x3 + (nI 1))).toNatClampNeg), iv (g_xs G ((x3 + (nI 2))).toNatClampNeg), iv (g_xs G ((x3 + (nI 3))).toNatClampNeg), iv (g_xs G ((x3 + (nI 4))).toNatClampNeg)]) (st := []) (r := some (iv v175)) (h' := h173) 508 rfl (c_X7_lies d174) g_X7_lies gv_X7_lies lk_RL_98 ⟨Nat.le_of_ble_eq_true rfl, Nat.le_of_ble_eq_true rfl⟩ rfl rfl (Nat.le_of_ble_eq_true rfl) ⟨Nat.le_of_ble_eq_true rfl, Nat.le_of_ble_eq_true rfl⟩ ?_
  show V G M_L_law X T 152 10966 777 [some (rv (12, 10) 0), some (rv (7, 99) 0), some (rv (8, 99) 135), some (iv x3)] [iv v175] h173
  refine V_aload_n 509 rfl rfl ?_
  refine V_aload_n 510 rfl rfl ?_
  refine V_iload_n 511 rfl rfl ?_
  refine V_iconst (nI 1) 512 rfl ic_1 ?_
  refine V_iadd 513 rfl ?_
  refine V_sld 514 rfl g169 ?_
  refine V_aload_n 515 rfl rfl ?_
  refine V_iload_n 516 rfl rfl ?_
  refine V_iconst (nI 2) 517 rfl ic_2 ?_
  refine V_iadd 518 rfl ?_
  refine V_sld 519 rfl g170 ?_
  refine V_aload_n 520 rfl rfl ?_
  refine V_iload_n 521 rfl rfl ?_
  refine V_iconst (nI 3) 522 rfl ic_3 ?_
  refine V_iadd 523 rfl ?_
  refine V_sld 524 rfl g171 ?_
  refine V_aload_n 525 rfl rfl ?_
  refine V_iload_n 526 rfl rfl ?_
  refine V_iconst (nI 4) 527 rfl ic_4 ?_
  refine V_iadd 528 rfl ?_
  refine V_sld 529 rfl g172 ?_
  obtain ⟨v178, h176, d177, e⟩ := bd2_e e
  refine V_callV (N := M_X8_lies) (av := [iv (g_xs G ((x3 + (nI 1))).toNatClampNeg), iv (g_xs G ((x3 + (nI 2))).toNatClampNeg), iv (g_xs G ((x3 + (nI 3))).toNatClampNeg), iv (g_xs G ((x3 + (nI 4))).toNatClampNeg)]) (st := [iv v175]) (r := some (iv v178)) (h' := h176) 530 rfl (c_X8_lies d177) g_X8_lies gv_X8_lies lk_RL_101 ⟨Nat.le_of_ble_eq_true rfl, Nat.le_of_ble_eq_true rfl⟩ rfl rfl (Nat.le_of_ble_eq_true rfl) ⟨Nat.le_of_ble_eq_true rfl, Nat.le_of_ble_eq_true rfl⟩ ?_
  show V G M_L_law X T 152 10966 801 [some (rv (12, 10) 0), some (rv (7, 99) 0), some (rv (8, 99) 135), some (iv x3)] [iv v178, iv v175] h176
  rcases if_e e with ⟨c531, e⟩ | ⟨c531, e⟩
  · refine V_icmp_eq 1060 531 rfl (by decide +kernel) (fun _ => ?_) (fun q => absurd c531 q) 
    refine V_iinc (x3 + (nI 5)) 740 rfl rfl (inc_5 _) (Nat.le_of_ble_eq_true rfl) rfl ?_
    show V G M_L_law X T 152 10966 1063 [some (rv (12, 10) 0), some (rv (7, 99) 0), some (rv (8, 99) 135), some (iv (x3 + (nI 5)))] [] h176
    refine V_goto 18 741 rfl (by decide +kernel) ?_
    refine V_msk [true, true, true, true] (lc' := [some (rv (12, 10) 0), some (rv (7, 99) 0), some (rv (8, 99) 135), some (iv (x3 + (nI 5)))]) rfl ?_
    exact hK18 (x3 + (nI 5)) h176 e
  · refine V_icmp_eq 1060 531 rfl (by decide +kernel) (fun q => absurd q c531) (fun _ => ?_)
    refine V_iconst (nI 0) 532 rfl ic_0 ?_
    exact absurd (show nI 0 = nI 1 from congrArg Prod.fst (Option.some.inj e)) (by decide)
set_option maxHeartbeats 4000000 in
set_option maxRecDepth 100000 in
theorem w_L_law_806 {G : kG} {X : kX} {T : List kT} {h0 : kH} (hR : k_RL G X) (K18 : Int32 × kH → Option (Int32 × kH)) (hK18 : ∀ (x3 : Int32) (h : kH), K18 (x3, h) = some (nI 1, h0) → V G M_L_law X T 152 10966 18 [some (rv (12, 10) 0), some (rv (7, 99) 0), some (rv (8, 99) 135), some (iv x3)] [] h) (x3 : Int32) (h : kH) (e : p_L_law_806 K18 (g_n G) (g_xs G) x3 h = some (nI 1, h0)) : V G M_L_law X T 152 10966 806 [some (rv (12, 10) 0), some (rv (7, 99) 0), some (rv (8, 99) 135), some (iv x3)] [] h := by
  unfold p_L_law_806 at e
  refine V_aload_n 534 rfl rfl ?_
  refine V_aload_n 535 rfl rfl ?_
  refine V_iload_n 536 rfl rfl ?_
  refine V_iconst (nI 1) 537 rfl ic_1 ?_
  refine V_iadd 538 rfl ?_
  obtain ⟨g180, e⟩ := gd_e e
  refine V_sld 539 rfl g180 ?_
  refine V_aload_n 540 rfl rfl ?_
  refine V_iload_n 541 rfl rfl ?_
  refine V_iconst (nI 2) 542 rfl ic_2 ?_
  refine V_iadd 543 rfl ?_
  obtain ⟨g181, e⟩ := gd_e e
  refine V_sld 544 rfl g181 ?_
  obtain ⟨v184, h182, d183, e⟩ := bd2_e e
  refine V_callV (N := M_X7_rake) (av := [iv (g_xs G ((x3 + (nI 1))).toNatClampNeg), iv (g_xs G ((x3 + (nI 2))).toNatClampNeg)]) (st := []) (r := some (iv v184)) (h' := h182) 545 rfl (c_X7_rake d183) g_X7_rake gv_X7_rake lk_RL_102 ⟨Nat.le_of_ble_eq_true rfl, Nat.le_of_ble_eq_true rfl⟩ rfl rfl (Nat.le_of_ble_eq_true rfl) ⟨Nat.le_of_ble_eq_true rfl, Nat.le_of_ble_eq_true rfl⟩ ?_
  show V G M_L_law X T 152 10966 820 [some (rv (12, 10) 0), some (rv (7, 99) 0), some (rv (8, 99) 135), some (iv x3)] [iv v184] h182
  refine V_aload_n 546 rfl rfl ?_
  refine V_aload_n 547 rfl rfl ?_
  refine V_iload_n 548 rfl rfl ?_
  refine V_iconst (nI 1) 549 rfl ic_1 ?_
  refine V_iadd 550 rfl ?_
  refine V_sld 551 rfl g180 ?_
  refine V_aload_n 552 rfl rfl ?_
  refine V_iload_n 553 rfl rfl ?_
  refine V_iconst (nI 2) 554 rfl ic_2 ?_
  refine V_iadd 555 rfl ?_
  refine V_sld 556 rfl g181 ?_
  obtain ⟨v187, h185, d186, e⟩ := bd2_e e
  refine V_callV (N := M_X8_rake) (av := [iv (g_xs G ((x3 + (nI 1))).toNatClampNeg), iv (g_xs G ((x3 + (nI 2))).toNatClampNeg)]) (st := [iv v184]) (r := some (iv v187)) (h' := h185) 557 rfl (c_X8_rake d186) g_X8_rake gv_X8_rake lk_RL_105 ⟨Nat.le_of_ble_eq_true rfl, Nat.le_of_ble_eq_true rfl⟩ rfl rfl (Nat.le_of_ble_eq_true rfl) ⟨Nat.le_of_ble_eq_true rfl, Nat.le_of_ble_eq_true rfl⟩ ?_
  show V G M_L_law X T 152 10966 834 [some (rv (12, 10) 0), some (rv (7, 99) 0), some (rv (8, 99) 135), some (iv x3)] [iv v187, iv v184] h185
  rcases if_e e with ⟨c558, e⟩ | ⟨c558, e⟩
  · refine V_icmp_eq 1060 558 rfl (by decide +kernel) (fun _ => ?_) (fun q => absurd c558 q) 
    refine V_iinc (x3 + (nI 5)) 740 rfl rfl (inc_5 _) (Nat.le_of_ble_eq_true rfl) rfl ?_
    show V G M_L_law X T 152 10966 1063 [some (rv (12, 10) 0), some (rv (7, 99) 0), some (rv (8, 99) 135), some (iv (x3 + (nI 5)))] [] h185
    refine V_goto 18 741 rfl (by decide +kernel) ?_
    refine V_msk [true, true, true, true] (lc' := [some (rv (12, 10) 0), some (rv (7, 99) 0), some (rv (8, 99) 135), some (iv (x3 + (nI 5)))]) rfl ?_
    exact hK18 (x3 + (nI 5)) h185 e
  · refine V_icmp_eq 1060 558 rfl (by decide +kernel) (fun q => absurd q c558) (fun _ => ?_)
    refine V_iconst (nI 0) 559 rfl ic_0 ?_
    exact absurd (show nI 0 = nI 1 from congrArg Prod.fst (Option.some.inj e)) (by decide)
set_option maxHeartbeats 4000000 in
set_option maxRecDepth 100000 in
theorem w_L_law_839 {G : kG} {X : kX} {T : List kT} {h0 : kH} (hR : k_RL G X) (K18 : Int32 × kH → Option (Int32 × kH)) (hK18 : ∀ (x3 : Int32) (h : kH), K18 (x3, h) = some (nI 1, h0) → V G M_L_law X T 152 10966 18 [some (rv (12, 10) 0), some (rv (7, 99) 0), some (rv (8, 99) 135), some (iv x3)] [] h) (x3 : Int32) (h : kH) (e : p_L_law_839 K18 (g_n G) (g_xs G) x3 h = some (nI 1, h0)) : V G M_L_law X T 152 10966 839 [some (rv (12, 10) 0), some (rv (7, 99) 0), some (rv (8, 99) 135), some (iv x3)] [] h := by
  unfold p_L_law_839 at e
  refine V_aload_n 561 rfl rfl ?_
  refine V_aload_n 562 rfl rfl ?_
  refine V_iload_n 563 rfl rfl ?_
  refine V_iconst (nI 1) 564 rfl ic_1 ?_
  refine V_iadd 565 rfl ?_
  obtain ⟨g189, e⟩ := gd_e e
  refine V_sld 566 rfl g189 ?_
  refine V_aload_n 567 rfl rfl ?_
  refine V_iload_n 568 rfl rfl ?_
  refine V_iconst (nI 2) 569 rfl ic_2 ?_
  refine V_iadd 570 rfl ?_
  obtain ⟨g190, e⟩ := gd_e e
  refine V_sld 571 rfl g190 ?_
  refine V_aload_n 572 rfl rfl ?_
  refine V_iload_n 573 rfl rfl ?_
  refine V_iconst (nI 3) 574 rfl ic_3 ?_
  refine V_iadd 575 rfl ?_
  obtain ⟨g191, e⟩ := gd_e e
  refine V_sld 576 rfl g191 ?_
  obtain ⟨v194, h192, d193, e⟩ := bd2_e e
  refine V_callV (N := M_X7_black) (av := [iv (g_xs G ((x3 + (nI 1))).toNatClampNeg), iv (g_xs G ((x3 + (nI 2))).toNatClampNeg), iv (g_xs G ((x3 + (nI 3))).toNatClampNeg)]) (st := []) (r := some (iv v194)) (h' := h192) 577 rfl (c_X7_black d193) g_X7_black gv_X7_black lk_RL_106 ⟨Nat.le_of_ble_eq_true rfl, Nat.le_of_ble_eq_true rfl⟩ rfl rfl (Nat.le_of_ble_eq_true rfl) ⟨Nat.le_of_ble_eq_true rfl, Nat.le_of_ble_eq_true rfl⟩ ?_
  show V G M_L_law X T 152 10966 858 [some (rv (12, 10) 0), some (rv (7, 99) 0), some (rv (8, 99) 135), some (iv x3)] [iv v194] h192
  refine V_aload_n 578 rfl rfl ?_
  refine V_aload_n 579 rfl rfl ?_
  refine V_iload_n 580 rfl rfl ?_
  refine V_iconst (nI 1) 581 rfl ic_1 ?_
  refine V_iadd 582 rfl ?_
  refine V_sld 583 rfl g189 ?_
  refine V_aload_n 584 rfl rfl ?_
  refine V_iload_n 585 rfl rfl ?_
  refine V_iconst (nI 2) 586 rfl ic_2 ?_
  refine V_iadd 587 rfl ?_
  refine V_sld 588 rfl g190 ?_
  refine V_aload_n 589 rfl rfl ?_
  refine V_iload_n 590 rfl rfl ?_
  refine V_iconst (nI 3) 591 rfl ic_3 ?_
  refine V_iadd 592 rfl ?_
  refine V_sld 593 rfl g191 ?_
  obtain ⟨v197, h195, d196, e⟩ := bd2_e e
  refine V_callV (N := M_X8_black) (av := [iv (g_xs G ((x3 + (nI 1))).toNatClampNeg), iv (g_xs G ((x3 + (nI 2))).toNatClampNeg), iv (g_xs G ((x3 + (nI 3))).toNatClampNeg)]) (st := [iv v194]) (r := some (iv v197)) (h' := h195) 594 rfl (c_X8_black d196) g_X8_black gv_X8_black lk_RL_109 ⟨Nat.le_of_ble_eq_true rfl, Nat.le_of_ble_eq_true rfl⟩ rfl rfl (Nat.le_of_ble_eq_true rfl) ⟨Nat.le_of_ble_eq_true rfl, Nat.le_of_ble_eq_true rfl⟩ ?_
  show V G M_L_law X T 152 10966 877 [some (rv (12, 10) 0), some (rv (7, 99) 0), some (rv (8, 99) 135), some (iv x3)] [iv v197, iv v194] h195
  rcases if_e e with ⟨c595, e⟩ | ⟨c595, e⟩
  · refine V_icmp_eq 1060 595 rfl (by decide +kernel) (fun _ => ?_) (fun q => absurd c595 q) 
    refine V_iinc (x3 + (nI 5)) 740 rfl rfl (inc_5 _) (Nat.le_of_ble_eq_true rfl) rfl ?_
    show V G M_L_law X T 152 10966 1063 [some (rv (12, 10) 0), some (rv (7, 99) 0), some (rv (8, 99) 135), some (iv (x3 + (nI 5)))] [] h195
    refine V_goto 18 741 rfl (by decide +kernel) ?_
    refine V_msk [true, true, true, true] (lc' := [some (rv (12, 10) 0), some (rv (7, 99) 0), some (rv (8, 99) 135), some (iv (x3 + (nI 5)))]) rfl ?_
    exact hK18 (x3 + (nI 5)) h195 e
  · refine V_icmp_eq 1060 595 rfl (by decide +kernel) (fun q => absurd q c595) (fun _ => ?_)
    refine V_iconst (nI 0) 596 rfl ic_0 ?_
    exact absurd (show nI 0 = nI 1 from congrArg Prod.fst (Option.some.inj e)) (by decide)
set_option maxHeartbeats 4000000 in
set_option maxRecDepth 100000 in
theorem w_L_law_882 {G : kG} {X : kX} {T : List kT} {h0 : kH} (hR : k_RL G X) (K18 : Int32 × kH → Option (Int32 × kH)) (hK18 : ∀ (x3 : Int32) (h : kH), K18 (x3, h) = some (nI 1, h0) → V G M_L_law X T 152 10966 18 [some (rv (12, 10) 0), some (rv (7, 99) 0), some (rv (8, 99) 135), some (iv x3)] [] h) (x3 : Int32) (h : kH) (e : p_L_law_882 K18 (g_n G) (g_xs G) x3 h = some (nI 1, h0)) : V G M_L_law X T 152 10966 882 [some (rv (12, 10) 0), some (rv (7, 99) 0), some (rv (8, 99) 135), some (iv x3)] [] h := by
  unfold p_L_law_882 at e
  refine V_aload_n 598 rfl rfl ?_
  refine V_aload_n 599 rfl rfl ?_
  refine V_iload_n 600 rfl rfl ?_
  refine V_iconst (nI 1) 601 rfl ic_1 ?_
  refine V_iadd 602 rfl ?_
  obtain ⟨g199, e⟩ := gd_e e
  refine V_sld 603 rfl g199 ?_
  refine V_aload_n 604 rfl rfl ?_
  refine V_iload_n 605 rfl rfl ?_
  refine V_iconst (nI 2) 606 rfl ic_2 ?_
  refine V_iadd 607 rfl ?_
  obtain ⟨g200, e⟩ := gd_e e
  refine V_sld 608 rfl g200 ?_
  obtain ⟨v203, h201, d202, e⟩ := bd2_e e
  refine V_callV (N := M_X7_evening) (av := [iv (g_xs G ((x3 + (nI 1))).toNatClampNeg), iv (g_xs G ((x3 + (nI 2))).toNatClampNeg)]) (st := []) (r := some (iv v203)) (h' := h201) 609 rfl (c_X7_evening d202) g_X7_evening gv_X7_evening lk_RL_110 ⟨Nat.le_of_ble_eq_true rfl, Nat.le_of_ble_eq_true rfl⟩ rfl rfl (Nat.le_of_ble_eq_true rfl) ⟨Nat.le_of_ble_eq_true rfl, Nat.le_of_ble_eq_true rfl⟩ ?_
  show V G M_L_law X T 152 10966 896 [some (rv (12, 10) 0), some (rv (7, 99) 0), some (rv (8, 99) 135), some (iv x3)] [iv v203] h201
  refine V_aload_n 610 rfl rfl ?_
  refine V_aload_n 611 rfl rfl ?_
  refine V_iload_n 612 rfl rfl ?_
  refine V_iconst (nI 1) 613 rfl ic_1 ?_
  refine V_iadd 614 rfl ?_
  refine V_sld 615 rfl g199 ?_
  refine V_aload_n 616 rfl rfl ?_
  refine V_iload_n 617 rfl rfl ?_
  refine V_iconst (nI 2) 618 rfl ic_2 ?_
  refine V_iadd 619 rfl ?_
  refine V_sld 620 rfl g200 ?_
  obtain ⟨v206, h204, d205, e⟩ := bd2_e e
  refine V_callV (N := M_X8_evening) (av := [iv (g_xs G ((x3 + (nI 1))).toNatClampNeg), iv (g_xs G ((x3 + (nI 2))).toNatClampNeg)]) (st := [iv v203]) (r := some (iv v206)) (h' := h204) 621 rfl (c_X8_evening d205) g_X8_evening gv_X8_evening lk_RL_113 ⟨Nat.le_of_ble_eq_true rfl, Nat.le_of_ble_eq_true rfl⟩ rfl rfl (Nat.le_of_ble_eq_true rfl) ⟨Nat.le_of_ble_eq_true rfl, Nat.le_of_ble_eq_true rfl⟩ ?_
  show V G M_L_law X T 152 10966 910 [some (rv (12, 10) 0), some (rv (7, 99) 0), some (rv (8, 99) 135), some (iv x3)] [iv v206, iv v203] h204
  rcases if_e e with ⟨c622, e⟩ | ⟨c622, e⟩
  · refine V_icmp_eq 1060 622 rfl (by decide +kernel) (fun _ => ?_) (fun q => absurd c622 q) 
    refine V_iinc (x3 + (nI 5)) 740 rfl rfl (inc_5 _) (Nat.le_of_ble_eq_true rfl) rfl ?_
    show V G M_L_law X T 152 10966 1063 [some (rv (12, 10) 0), some (rv (7, 99) 0), some (rv (8, 99) 135), some (iv (x3 + (nI 5)))] [] h204
    refine V_goto 18 741 rfl (by decide +kernel) ?_
    refine V_msk [true, true, true, true] (lc' := [some (rv (12, 10) 0), some (rv (7, 99) 0), some (rv (8, 99) 135), some (iv (x3 + (nI 5)))]) rfl ?_
    exact hK18 (x3 + (nI 5)) h204 e
  · refine V_icmp_eq 1060 622 rfl (by decide +kernel) (fun q => absurd q c622) (fun _ => ?_)
    refine V_iconst (nI 0) 623 rfl ic_0 ?_
    exact absurd (show nI 0 = nI 1 from congrArg Prod.fst (Option.some.inj e)) (by decide)
set_option maxHeartbeats 4000000 in
set_option maxRecDepth 100000 in
theorem w_L_law_915 {G : kG} {X : kX} {T : List kT} {h0 : kH} (hR : k_RL G X) (K18 : Int32 × kH → Option (Int32 × kH)) (hK18 : ∀ (x3 : Int32) (h : kH), K18 (x3, h) = some (nI 1, h0) → V G M_L_law X T 152 10966 18 [some (rv (12, 10) 0), some (rv (7, 99) 0), some (rv (8, 99) 135), some (iv x3)] [] h) (x3 : Int32) (h : kH) (e : p_L_law_915 K18 (g_n G) (g_xs G) x3 h = some (nI 1, h0)) : V G M_L_law X T 152 10966 915 [some (rv (12, 10) 0), some (rv (7, 99) 0), some (rv (8, 99) 135), some (iv x3)] [] h := by
  unfold p_L_law_915 at e
  refine V_aload_n 625 rfl rfl ?_
  refine V_aload_n 626 rfl rfl ?_
  refine V_iload_n 627 rfl rfl ?_
  refine V_iconst (nI 1) 628 rfl ic_1 ?_
  refine V_iadd 629 rfl ?_
  obtain ⟨g208, e⟩ := gd_e e
  refine V_sld 630 rfl g208 ?_
  refine V_aload_n 631 rfl rfl ?_
  refine V_iload_n 632 rfl rfl ?_
  refine V_iconst (nI 2) 633 rfl ic_2 ?_
  refine V_iadd 634 rfl ?_
  obtain ⟨g209, e⟩ := gd_e e
  refine V_sld 635 rfl g209 ?_
  refine V_aload_n 636 rfl rfl ?_
  refine V_iload_n 637 rfl rfl ?_
  refine V_iconst (nI 3) 638 rfl ic_3 ?_
  refine V_iadd 639 rfl ?_
  obtain ⟨g210, e⟩ := gd_e e
  refine V_sld 640 rfl g210 ?_
  obtain ⟨v213, h211, d212, e⟩ := bd2_e e
  refine V_callV (N := M_X7_ten) (av := [iv (g_xs G ((x3 + (nI 1))).toNatClampNeg), iv (g_xs G ((x3 + (nI 2))).toNatClampNeg), iv (g_xs G ((x3 + (nI 3))).toNatClampNeg)]) (st := []) (r := some (iv v213)) (h' := h211) 641 rfl (c_X7_ten d212) g_X7_ten gv_X7_ten lk_RL_114 ⟨Nat.le_of_ble_eq_true rfl, Nat.le_of_ble_eq_true rfl⟩ rfl rfl (Nat.le_of_ble_eq_true rfl) ⟨Nat.le_of_ble_eq_true rfl, Nat.le_of_ble_eq_true rfl⟩ ?_
  show V G M_L_law X T 152 10966 934 [some (rv (12, 10) 0), some (rv (7, 99) 0), some (rv (8, 99) 135), some (iv x3)] [iv v213] h211
  refine V_aload_n 642 rfl rfl ?_
  refine V_aload_n 643 rfl rfl ?_
  refine V_iload_n 644 rfl rfl ?_
  refine V_iconst (nI 1) 645 rfl ic_1 ?_
  refine V_iadd 646 rfl ?_
  refine V_sld 647 rfl g208 ?_
  refine V_aload_n 648 rfl rfl ?_
  refine V_iload_n 649 rfl rfl ?_
  refine V_iconst (nI 2) 650 rfl ic_2 ?_
  refine V_iadd 651 rfl ?_
  refine V_sld 652 rfl g209 ?_
  refine V_aload_n 653 rfl rfl ?_
  refine V_iload_n 654 rfl rfl ?_
  refine V_iconst (nI 3) 655 rfl ic_3 ?_
  refine V_iadd 656 rfl ?_
  refine V_sld 657 rfl g210 ?_
  obtain ⟨v216, h214, d215, e⟩ := bd2_e e
  refine V_callV (N := M_X8_ten) (av := [iv (g_xs G ((x3 + (nI 1))).toNatClampNeg), iv (g_xs G ((x3 + (nI 2))).toNatClampNeg), iv (g_xs G ((x3 + (nI 3))).toNatClampNeg)]) (st := [iv v213]) (r := some (iv v216)) (h' := h214) 658 rfl (c_X8_ten d215) g_X8_ten gv_X8_ten lk_RL_117 ⟨Nat.le_of_ble_eq_true rfl, Nat.le_of_ble_eq_true rfl⟩ rfl rfl (Nat.le_of_ble_eq_true rfl) ⟨Nat.le_of_ble_eq_true rfl, Nat.le_of_ble_eq_true rfl⟩ ?_
  show V G M_L_law X T 152 10966 953 [some (rv (12, 10) 0), some (rv (7, 99) 0), some (rv (8, 99) 135), some (iv x3)] [iv v216, iv v213] h214
  rcases if_e e with ⟨c659, e⟩ | ⟨c659, e⟩
  · refine V_icmp_eq 1060 659 rfl (by decide +kernel) (fun _ => ?_) (fun q => absurd c659 q) 
    refine V_iinc (x3 + (nI 5)) 740 rfl rfl (inc_5 _) (Nat.le_of_ble_eq_true rfl) rfl ?_
    show V G M_L_law X T 152 10966 1063 [some (rv (12, 10) 0), some (rv (7, 99) 0), some (rv (8, 99) 135), some (iv (x3 + (nI 5)))] [] h214
    refine V_goto 18 741 rfl (by decide +kernel) ?_
    refine V_msk [true, true, true, true] (lc' := [some (rv (12, 10) 0), some (rv (7, 99) 0), some (rv (8, 99) 135), some (iv (x3 + (nI 5)))]) rfl ?_
    exact hK18 (x3 + (nI 5)) h214 e
  · refine V_icmp_eq 1060 659 rfl (by decide +kernel) (fun q => absurd q c659) (fun _ => ?_)
    refine V_iconst (nI 0) 660 rfl ic_0 ?_
    exact absurd (show nI 0 = nI 1 from congrArg Prod.fst (Option.some.inj e)) (by decide)
set_option maxHeartbeats 4000000 in
set_option maxRecDepth 100000 in
theorem w_L_law_958 {G : kG} {X : kX} {T : List kT} {h0 : kH} (hR : k_RL G X) (K18 : Int32 × kH → Option (Int32 × kH)) (hK18 : ∀ (x3 : Int32) (h : kH), K18 (x3, h) = some (nI 1, h0) → V G M_L_law X T 152 10966 18 [some (rv (12, 10) 0), some (rv (7, 99) 0), some (rv (8, 99) 135), some (iv x3)] [] h) (x3 : Int32) (h : kH) (e : p_L_law_958 K18 (g_n G) (g_xs G) x3 h = some (nI 1, h0)) : V G M_L_law X T 152 10966 958 [some (rv (12, 10) 0), some (rv (7, 99) 0), some (rv (8, 99) 135), some (iv x3)] [] h := by
  unfold p_L_law_958 at e
  refine V_aload_n 662 rfl rfl ?_
  refine V_aload_n 663 rfl rfl ?_
  refine V_iload_n 664 rfl rfl ?_
  refine V_iconst (nI 1) 665 rfl ic_1 ?_
  refine V_iadd 666 rfl ?_
  obtain ⟨g218, e⟩ := gd_e e
  refine V_sld 667 rfl g218 ?_
  refine V_aload_n 668 rfl rfl ?_
  refine V_iload_n 669 rfl rfl ?_
  refine V_iconst (nI 2) 670 rfl ic_2 ?_
  refine V_iadd 671 rfl ?_
  obtain ⟨g219, e⟩ := gd_e e
  refine V_sld 672 rfl g219 ?_
  refine V_aload_n 673 rfl rfl ?_
  refine V_iload_n 674 rfl rfl ?_
  refine V_iconst (nI 3) 675 rfl ic_3 ?_
  refine V_iadd 676 rfl ?_
  obtain ⟨g220, e⟩ := gd_e e
  refine V_sld 677 rfl g220 ?_
  refine V_aload_n 678 rfl rfl ?_
  refine V_iload_n 679 rfl rfl ?_
  refine V_iconst (nI 4) 680 rfl ic_4 ?_
  refine V_iadd 681 rfl ?_
  obtain ⟨g221, e⟩ := gd_e e
  refine V_sld 682 rfl g221 ?_
  obtain ⟨v224, h222, d223, e⟩ := bd2_e e
  refine V_callV (N := M_X7_sherd) (av := [iv (g_xs G ((x3 + (nI 1))).toNatClampNeg), iv (g_xs G ((x3 + (nI 2))).toNatClampNeg), iv (g_xs G ((x3 + (nI 3))).toNatClampNeg), iv (g_xs G ((x3 + (nI 4))).toNatClampNeg)]) (st := []) (r := some (iv v224)) (h' := h222) 683 rfl (c_X7_sherd d223) g_X7_sherd gv_X7_sherd lk_RL_118 ⟨Nat.le_of_ble_eq_true rfl, Nat.le_of_ble_eq_true rfl⟩ rfl rfl (Nat.le_of_ble_eq_true rfl) ⟨Nat.le_of_ble_eq_true rfl, Nat.le_of_ble_eq_true rfl⟩ ?_
  show V G M_L_law X T 152 10966 982 [some (rv (12, 10) 0), some (rv (7, 99) 0), some (rv (8, 99) 135), some (iv x3)] [iv v224] h222
  refine V_aload_n 684 rfl rfl ?_
  refine V_aload_n 685 rfl rfl ?_
  refine V_iload_n 686 rfl rfl ?_
  refine V_iconst (nI 1) 687 rfl ic_1 ?_
  refine V_iadd 688 rfl ?_
  refine V_sld 689 rfl g218 ?_
  refine V_aload_n 690 rfl rfl ?_
  refine V_iload_n 691 rfl rfl ?_
  refine V_iconst (nI 2) 692 rfl ic_2 ?_
  refine V_iadd 693 rfl ?_
  refine V_sld 694 rfl g219 ?_
  refine V_aload_n 695 rfl rfl ?_
  refine V_iload_n 696 rfl rfl ?_
  refine V_iconst (nI 3) 697 rfl ic_3 ?_
  refine V_iadd 698 rfl ?_
  refine V_sld 699 rfl g220 ?_
  refine V_aload_n 700 rfl rfl ?_
  refine V_iload_n 701 rfl rfl ?_
  refine V_iconst (nI 4) 702 rfl ic_4 ?_
  refine V_iadd 703 rfl ?_
  refine V_sld 704 rfl g221 ?_
  obtain ⟨v227, h225, d226, e⟩ := bd2_e e
  refine V_callV (N := M_X8_sherd) (av := [iv (g_xs G ((x3 + (nI 1))).toNatClampNeg), iv (g_xs G ((x3 + (nI 2))).toNatClampNeg), iv (g_xs G ((x3 + (nI 3))).toNatClampNeg), iv (g_xs G ((x3 + (nI 4))).toNatClampNeg)]) (st := [iv v224]) (r := some (iv v227)) (h' := h225) 705 rfl (c_X8_sherd d226) g_X8_sherd gv_X8_sherd lk_RL_121 ⟨Nat.le_of_ble_eq_true rfl, Nat.le_of_ble_eq_true rfl⟩ rfl rfl (Nat.le_of_ble_eq_true rfl) ⟨Nat.le_of_ble_eq_true rfl, Nat.le_of_ble_eq_true rfl⟩ ?_
  show V G M_L_law X T 152 10966 1006 [some (rv (12, 10) 0), some (rv (7, 99) 0), some (rv (8, 99) 135), some (iv x3)] [iv v227, iv v224] h225
  rcases if_e e with ⟨c706, e⟩ | ⟨c706, e⟩
  · refine V_icmp_eq 1060 706 rfl (by decide +kernel) (fun _ => ?_) (fun q => absurd c706 q) 
    refine V_iinc (x3 + (nI 5)) 740 rfl rfl (inc_5 _) (Nat.le_of_ble_eq_true rfl) rfl ?_
    show V G M_L_law X T 152 10966 1063 [some (rv (12, 10) 0), some (rv (7, 99) 0), some (rv (8, 99) 135), some (iv (x3 + (nI 5)))] [] h225
    refine V_goto 18 741 rfl (by decide +kernel) ?_
    refine V_msk [true, true, true, true] (lc' := [some (rv (12, 10) 0), some (rv (7, 99) 0), some (rv (8, 99) 135), some (iv (x3 + (nI 5)))]) rfl ?_
    exact hK18 (x3 + (nI 5)) h225 e
  · refine V_icmp_eq 1060 706 rfl (by decide +kernel) (fun q => absurd q c706) (fun _ => ?_)
    refine V_iconst (nI 0) 707 rfl ic_0 ?_
    exact absurd (show nI 0 = nI 1 from congrArg Prod.fst (Option.some.inj e)) (by decide)
set_option maxHeartbeats 4000000 in
set_option maxRecDepth 100000 in
theorem w_L_law_1011 {G : kG} {X : kX} {T : List kT} {h0 : kH} (hR : k_RL G X) (K18 : Int32 × kH → Option (Int32 × kH)) (hK18 : ∀ (x3 : Int32) (h : kH), K18 (x3, h) = some (nI 1, h0) → V G M_L_law X T 152 10966 18 [some (rv (12, 10) 0), some (rv (7, 99) 0), some (rv (8, 99) 135), some (iv x3)] [] h) (x3 : Int32) (h : kH) (e : p_L_law_1011 K18 (g_n G) (g_xs G) x3 h = some (nI 1, h0)) : V G M_L_law X T 152 10966 1011 [some (rv (12, 10) 0), some (rv (7, 99) 0), some (rv (8, 99) 135), some (iv x3)] [] h := by
  unfold p_L_law_1011 at e
  refine V_aload_n 709 rfl rfl ?_
  obtain ⟨v231, h229, d230, e⟩ := bd2_e e
  refine V_callV (N := M_X7_keep) (av := []) (st := []) (r := some (iv v231)) (h' := h229) 710 rfl (c_X7_keep d230) g_X7_keep gv_X7_keep lk_RL_122 ⟨Nat.le_of_ble_eq_true rfl, Nat.le_of_ble_eq_true rfl⟩ rfl rfl (Nat.le_of_ble_eq_true rfl) ⟨Nat.le_of_ble_eq_true rfl, Nat.le_of_ble_eq_true rfl⟩ ?_
  show V G M_L_law X T 152 10966 1015 [some (rv (12, 10) 0), some (rv (7, 99) 0), some (rv (8, 99) 135), some (iv x3)] [iv v231] h229
  refine V_aload_n 711 rfl rfl ?_
  obtain ⟨v234, h232, d233, e⟩ := bd2_e e
  refine V_callV (N := M_X8_keep) (av := []) (st := [iv v231]) (r := some (iv v234)) (h' := h232) 712 rfl (c_X8_keep d233) g_X8_keep gv_X8_keep lk_RL_125 ⟨Nat.le_of_ble_eq_true rfl, Nat.le_of_ble_eq_true rfl⟩ rfl rfl (Nat.le_of_ble_eq_true rfl) ⟨Nat.le_of_ble_eq_true rfl, Nat.le_of_ble_eq_true rfl⟩ ?_
  show V G M_L_law X T 152 10966 1019 [some (rv (12, 10) 0), some (rv (7, 99) 0), some (rv (8, 99) 135), some (iv x3)] [iv v234, iv v231] h232
  rcases if_e e with ⟨c713, e⟩ | ⟨c713, e⟩
  · refine V_icmp_eq 1060 713 rfl (by decide +kernel) (fun _ => ?_) (fun q => absurd c713 q) 
    refine V_iinc (x3 + (nI 5)) 740 rfl rfl (inc_5 _) (Nat.le_of_ble_eq_true rfl) rfl ?_
    show V G M_L_law X T 152 10966 1063 [some (rv (12, 10) 0), some (rv (7, 99) 0), some (rv (8, 99) 135), some (iv (x3 + (nI 5)))] [] h232
    refine V_goto 18 741 rfl (by decide +kernel) ?_
    refine V_msk [true, true, true, true] (lc' := [some (rv (12, 10) 0), some (rv (7, 99) 0), some (rv (8, 99) 135), some (iv (x3 + (nI 5)))]) rfl ?_
    exact hK18 (x3 + (nI 5)) h232 e
  · refine V_icmp_eq 1060 713 rfl (by decide +kernel) (fun q => absurd q c713) (fun _ => ?_)
    refine V_iconst (nI 0) 714 rfl ic_0 ?_
    exact absurd (show nI 0 = nI 1 from congrArg Prod.fst (Option.some.inj e)) (by decide)
set_option maxHeartbeats 4000000 in
set_option maxRecDepth 100000 in
theorem w_L_law_1024 {G : kG} {X : kX} {T : List kT} {h0 : kH} (hR : k_RL G X) (K18 : Int32 × kH → Option (Int32 × kH)) (hK18 : ∀ (x3 : Int32) (h : kH), K18 (x3, h) = some (nI 1, h0) → V G M_L_law X T 152 10966 18 [some (rv (12, 10) 0), some (rv (7, 99) 0), some (rv (8, 99) 135), some (iv x3)] [] h) (x3 : Int32) (h : kH) (e : p_L_law_1024 K18 (g_n G) (g_xs G) x3 h = some (nI 1, h0)) : V G M_L_law X T 152 10966 1024 [some (rv (12, 10) 0), some (rv (7, 99) 0), some (rv (8, 99) 135), some (iv x3)] [] h := by
  unfold p_L_law_1024 at e
  refine V_aload_n 716 rfl rfl ?_
  obtain ⟨v238, h236, d237, e⟩ := bd2_e e
  refine V_callV (N := M_X7_back) (av := []) (st := []) (r := some (iv v238)) (h' := h236) 717 rfl (c_X7_back d237) g_X7_back gv_X7_back lk_RL_126 ⟨Nat.le_of_ble_eq_true rfl, Nat.le_of_ble_eq_true rfl⟩ rfl rfl (Nat.le_of_ble_eq_true rfl) ⟨Nat.le_of_ble_eq_true rfl, Nat.le_of_ble_eq_true rfl⟩ ?_
  show V G M_L_law X T 152 10966 1028 [some (rv (12, 10) 0), some (rv (7, 99) 0), some (rv (8, 99) 135), some (iv x3)] [iv v238] h236
  refine V_aload_n 718 rfl rfl ?_
  obtain ⟨v241, h239, d240, e⟩ := bd2_e e
  refine V_callV (N := M_X8_back) (av := []) (st := [iv v238]) (r := some (iv v241)) (h' := h239) 719 rfl (c_X8_back d240) g_X8_back gv_X8_back lk_RL_129 ⟨Nat.le_of_ble_eq_true rfl, Nat.le_of_ble_eq_true rfl⟩ rfl rfl (Nat.le_of_ble_eq_true rfl) ⟨Nat.le_of_ble_eq_true rfl, Nat.le_of_ble_eq_true rfl⟩ ?_
  show V G M_L_law X T 152 10966 1032 [some (rv (12, 10) 0), some (rv (7, 99) 0), some (rv (8, 99) 135), some (iv x3)] [iv v241, iv v238] h239
  rcases if_e e with ⟨c720, e⟩ | ⟨c720, e⟩
  · refine V_icmp_eq 1060 720 rfl (by decide +kernel) (fun _ => ?_) (fun q => absurd c720 q) 
    refine V_iinc (x3 + (nI 5)) 740 rfl rfl (inc_5 _) (Nat.le_of_ble_eq_true rfl) rfl ?_
    show V G M_L_law X T 152 10966 1063 [some (rv (12, 10) 0), some (rv (7, 99) 0), some (rv (8, 99) 135), some (iv (x3 + (nI 5)))] [] h239
    refine V_goto 18 741 rfl (by decide +kernel) ?_
    refine V_msk [true, true, true, true] (lc' := [some (rv (12, 10) 0), some (rv (7, 99) 0), some (rv (8, 99) 135), some (iv (x3 + (nI 5)))]) rfl ?_
    exact hK18 (x3 + (nI 5)) h239 e
  · refine V_icmp_eq 1060 720 rfl (by decide +kernel) (fun q => absurd q c720) (fun _ => ?_)
    refine V_iconst (nI 0) 721 rfl ic_0 ?_
    exact absurd (show nI 0 = nI 1 from congrArg Prod.fst (Option.some.inj e)) (by decide)
set_option maxHeartbeats 4000000 in
set_option maxRecDepth 100000 in
theorem w_L_law_1037 {G : kG} {X : kX} {T : List kT} {h0 : kH} (hR : k_RL G X) (K18 : Int32 × kH → Option (Int32 × kH)) (hK18 : ∀ (x3 : Int32) (h : kH), K18 (x3, h) = some (nI 1, h0) → V G M_L_law X T 152 10966 18 [some (rv (12, 10) 0), some (rv (7, 99) 0), some (rv (8, 99) 135), some (iv x3)] [] h) (x3 : Int32) (h : kH) (e : p_L_law_1037 K18 (g_n G) (g_xs G) x3 h = some (nI 1, h0)) : V G M_L_law X T 152 10966 1037 [some (rv (12, 10) 0), some (rv (7, 99) 0), some (rv (8, 99) 135), some (iv x3)] [] h := by
  unfold p_L_law_1037 at e
  refine V_aload_n 723 rfl rfl ?_
  refine V_aload_n 724 rfl rfl ?_
  refine V_iload_n 725 rfl rfl ?_
  refine V_iconst (nI 1) 726 rfl ic_1 ?_
  refine V_iadd 727 rfl ?_
  obtain ⟨g243, e⟩ := gd_e e
  refine V_sld 728 rfl g243 ?_
  obtain ⟨v246, h244, d245, e⟩ := bd2_e e
  refine V_callV (N := M_X7_count) (av := [iv (g_xs G ((x3 + (nI 1))).toNatClampNeg)]) (st := []) (r := some (iv v246)) (h' := h244) 729 rfl (c_X7_count d245) g_X7_count gv_X7_count lk_RL_130 ⟨Nat.le_of_ble_eq_true rfl, Nat.le_of_ble_eq_true rfl⟩ rfl rfl (Nat.le_of_ble_eq_true rfl) ⟨Nat.le_of_ble_eq_true rfl, Nat.le_of_ble_eq_true rfl⟩ ?_
  show V G M_L_law X T 152 10966 1046 [some (rv (12, 10) 0), some (rv (7, 99) 0), some (rv (8, 99) 135), some (iv x3)] [iv v246] h244
  refine V_aload_n 730 rfl rfl ?_
  refine V_aload_n 731 rfl rfl ?_
  refine V_iload_n 732 rfl rfl ?_
  refine V_iconst (nI 1) 733 rfl ic_1 ?_
  refine V_iadd 734 rfl ?_
  refine V_sld 735 rfl g243 ?_
  obtain ⟨v249, h247, d248, e⟩ := bd2_e e
  refine V_callV (N := M_X8_count) (av := [iv (g_xs G ((x3 + (nI 1))).toNatClampNeg)]) (st := [iv v246]) (r := some (iv v249)) (h' := h247) 736 rfl (c_X8_count d248) g_X8_count gv_X8_count lk_RL_133 ⟨Nat.le_of_ble_eq_true rfl, Nat.le_of_ble_eq_true rfl⟩ rfl rfl (Nat.le_of_ble_eq_true rfl) ⟨Nat.le_of_ble_eq_true rfl, Nat.le_of_ble_eq_true rfl⟩ ?_
  show V G M_L_law X T 152 10966 1055 [some (rv (12, 10) 0), some (rv (7, 99) 0), some (rv (8, 99) 135), some (iv x3)] [iv v249, iv v246] h247
  rcases if_e e with ⟨c737, e⟩ | ⟨c737, e⟩
  · refine V_icmp_eq 1060 737 rfl (by decide +kernel) (fun _ => ?_) (fun q => absurd c737 q) 
    refine V_iinc (x3 + (nI 5)) 740 rfl rfl (inc_5 _) (Nat.le_of_ble_eq_true rfl) rfl ?_
    show V G M_L_law X T 152 10966 1063 [some (rv (12, 10) 0), some (rv (7, 99) 0), some (rv (8, 99) 135), some (iv (x3 + (nI 5)))] [] h247
    refine V_goto 18 741 rfl (by decide +kernel) ?_
    refine V_msk [true, true, true, true] (lc' := [some (rv (12, 10) 0), some (rv (7, 99) 0), some (rv (8, 99) 135), some (iv (x3 + (nI 5)))]) rfl ?_
    exact hK18 (x3 + (nI 5)) h247 e
  · refine V_icmp_eq 1060 737 rfl (by decide +kernel) (fun q => absurd q c737) (fun _ => ?_)
    refine V_iconst (nI 0) 738 rfl ic_0 ?_
    exact absurd (show nI 0 = nI 1 from congrArg Prod.fst (Option.some.inj e)) (by decide)
set_option maxHeartbeats 4000000 in
set_option maxRecDepth 100000 in
theorem w_L_law_18 {G : kG} {X : kX} {T : List kT} {h0 : kH} (hR : k_RL G X) (K18 : Int32 × kH → Option (Int32 × kH)) (hK18 : ∀ (x3 : Int32) (h : kH), K18 (x3, h) = some (nI 1, h0) → V G M_L_law X T 152 10966 18 [some (rv (12, 10) 0), some (rv (7, 99) 0), some (rv (8, 99) 135), some (iv x3)] [] h) (x3 : Int32) (h : kH) (e : p_L_law_18 K18 (g_n G) (g_xs G) x3 h = some (nI 1, h0)) : V G M_L_law X T 152 10966 18 [some (rv (12, 10) 0), some (rv (7, 99) 0), some (rv (8, 99) 135), some (iv x3)] [] h := by
  unfold p_L_law_18 at e
  refine V_iload_n 10 rfl rfl ?_
  refine V_aload_n 11 rfl rfl ?_
  refine V_slen 12 rfl ?_
  refine V_iconst (nI 5) 13 rfl ic_5 ?_
  refine V_isub 14 rfl ?_
  rcases if_e e with ⟨c15, e⟩ | ⟨c15, e⟩
  · refine V_icmp_gt 1066 15 rfl (by decide +kernel) (fun _ => ?_) (fun q => absurd c15 q) 
    refine V_iconst (nI 1) 742 rfl ic_1 ?_
    exact V_lret 743 rfl hR
  · refine V_icmp_gt 1066 15 rfl (by decide +kernel) (fun q => absurd q c15) (fun _ => ?_)
    refine V_aload_n 16 rfl rfl ?_
    refine V_iload_n 17 rfl rfl ?_
    obtain ⟨g1, e⟩ := gd_e e
    refine V_sld 18 rfl g1 ?_
    refine V_bipush (nI 31) 19 rfl bp_31 ?_
    refine V_iand 20 rfl ?_
    refine le_V (P := fun v2 => V G M_L_law X T 152 10966 32 [some (rv (12, 10) 0), some (rv (7, 99) 0), some (rv (8, 99) 135), some (iv x3)] [iv v2] h) e (fun v2 e => ?_)
    rcases if_e e with ⟨c12, e⟩ | ⟨c12, e⟩
    · refine V_tab 160 21 rfl rfl (off := 128) (by rw [c12]; decide +kernel) (by decide +kernel) ?_
      refine V_msk [true, true, true, true] (lc' := [some (rv (12, 10) 0), some (rv (7, 99) 0), some (rv (8, 99) 135), some (iv x3)]) rfl ?_
      exact w_L_law_160 hR K18 hK18 x3 h e
    rcases if_e e with ⟨c19, e⟩ | ⟨c19, e⟩
    · refine V_tab 223 21 rfl rfl (off := 191) (by rw [c19]; decide +kernel) (by decide +kernel) ?_
      refine V_msk [true, true, true, true] (lc' := [some (rv (12, 10) 0), some (rv (7, 99) 0), some (rv (8, 99) 135), some (iv x3)]) rfl ?_
      exact w_L_law_223 hR K18 hK18 x3 h e
    rcases if_e e with ⟨c26, e⟩ | ⟨c26, e⟩
    · refine V_tab 236 21 rfl rfl (off := 204) (by rw [c26]; decide +kernel) (by decide +kernel) ?_
      refine V_msk [true, true, true, true] (lc' := [some (rv (12, 10) 0), some (rv (7, 99) 0), some (rv (8, 99) 135), some (iv x3)]) rfl ?_
      exact w_L_law_236 hR K18 hK18 x3 h e
    rcases if_e e with ⟨c33, e⟩ | ⟨c33, e⟩
    · refine V_tab 249 21 rfl rfl (off := 217) (by rw [c33]; decide +kernel) (by decide +kernel) ?_
      refine V_msk [true, true, true, true] (lc' := [some (rv (12, 10) 0), some (rv (7, 99) 0), some (rv (8, 99) 135), some (iv x3)]) rfl ?_
      exact w_L_law_249 hR K18 hK18 x3 h e
    rcases if_e e with ⟨c42, e⟩ | ⟨c42, e⟩
    · refine V_tab 262 21 rfl rfl (off := 230) (by rw [c42]; decide +kernel) (by decide +kernel) ?_
      refine V_msk [true, true, true, true] (lc' := [some (rv (12, 10) 0), some (rv (7, 99) 0), some (rv (8, 99) 135), some (iv x3)]) rfl ?_
      exact w_L_law_262 hR K18 hK18 x3 h e
    rcases if_e e with ⟨c51, e⟩ | ⟨c51, e⟩
    · refine V_tab 295 21 rfl rfl (off := 263) (by rw [c51]; decide +kernel) (by decide +kernel) ?_
      refine V_msk [true, true, true, true] (lc' := [some (rv (12, 10) 0), some (rv (7, 99) 0), some (rv (8, 99) 135), some (iv x3)]) rfl ?_
      exact w_L_law_295 hR K18 hK18 x3 h e
    rcases if_e e with ⟨c59, e⟩ | ⟨c59, e⟩
    · refine V_tab 328 21 rfl rfl (off := 296) (by rw [c59]; decide +kernel) (by decide +kernel) ?_
      refine V_msk [true, true, true, true] (lc' := [some (rv (12, 10) 0), some (rv (7, 99) 0), some (rv (8, 99) 135), some (iv x3)]) rfl ?_
      exact w_L_law_328 hR K18 hK18 x3 h e
    rcases if_e e with ⟨c68, e⟩ | ⟨c68, e⟩
    · refine V_tab 351 21 rfl rfl (off := 319) (by rw [c68]; decide +kernel) (by decide +kernel) ?_
      refine V_msk [true, true, true, true] (lc' := [some (rv (12, 10) 0), some (rv (7, 99) 0), some (rv (8, 99) 135), some (iv x3)]) rfl ?_
      exact w_L_law_351 hR K18 hK18 x3 h e
    rcases if_e e with ⟨c79, e⟩ | ⟨c79, e⟩
    · refine V_tab 384 21 rfl rfl (off := 352) (by rw [c79]; decide +kernel) (by decide +kernel) ?_
      refine V_msk [true, true, true, true] (lc' := [some (rv (12, 10) 0), some (rv (7, 99) 0), some (rv (8, 99) 135), some (iv x3)]) rfl ?_
      exact w_L_law_384 hR K18 hK18 x3 h e
    rcases if_e e with ⟨c87, e⟩ | ⟨c87, e⟩
    · refine V_tab 433 21 rfl rfl (off := 401) (by rw [c87]; decide +kernel) (by decide +kernel) ?_
      refine V_msk [true, true, true, true] (lc' := [some (rv (12, 10) 0), some (rv (7, 99) 0), some (rv (8, 99) 135), some (iv x3)]) rfl ?_
      exact w_L_law_433 hR K18 hK18 x3 h e
    rcases if_e e with ⟨c95, e⟩ | ⟨c95, e⟩
    · refine V_tab 456 21 rfl rfl (off := 424) (by rw [c95]; decide +kernel) (by decide +kernel) ?_
      refine V_msk [true, true, true, true] (lc' := [some (rv (12, 10) 0), some (rv (7, 99) 0), some (rv (8, 99) 135), some (iv x3)]) rfl ?_
      exact w_L_law_456 hR K18 hK18 x3 h e
    rcases if_e e with ⟨c103, e⟩ | ⟨c103, e⟩
    · refine V_tab 479 21 rfl rfl (off := 447) (by rw [c103]; decide +kernel) (by decide +kernel) ?_
      refine V_msk [true, true, true, true] (lc' := [some (rv (12, 10) 0), some (rv (7, 99) 0), some (rv (8, 99) 135), some (iv x3)]) rfl ?_
      exact w_L_law_479 hR K18 hK18 x3 h e
    rcases if_e e with ⟨c113, e⟩ | ⟨c113, e⟩
    · refine V_tab 502 21 rfl rfl (off := 470) (by rw [c113]; decide +kernel) (by decide +kernel) ?_
      refine V_msk [true, true, true, true] (lc' := [some (rv (12, 10) 0), some (rv (7, 99) 0), some (rv (8, 99) 135), some (iv x3)]) rfl ?_
      exact w_L_law_502 hR K18 hK18 x3 h e
    rcases if_e e with ⟨c124, e⟩ | ⟨c124, e⟩
    · refine V_tab 545 21 rfl rfl (off := 513) (by rw [c124]; decide +kernel) (by decide +kernel) ?_
      refine V_msk [true, true, true, true] (lc' := [some (rv (12, 10) 0), some (rv (7, 99) 0), some (rv (8, 99) 135), some (iv x3)]) rfl ?_
      exact w_L_law_545 hR K18 hK18 x3 h e
    rcases if_e e with ⟨c133, e⟩ | ⟨c133, e⟩
    · refine V_tab 598 21 rfl rfl (off := 566) (by rw [c133]; decide +kernel) (by decide +kernel) ?_
      refine V_msk [true, true, true, true] (lc' := [some (rv (12, 10) 0), some (rv (7, 99) 0), some (rv (8, 99) 135), some (iv x3)]) rfl ?_
      exact w_L_law_598 hR K18 hK18 x3 h e
    rcases if_e e with ⟨c143, e⟩ | ⟨c143, e⟩
    · refine V_tab 631 21 rfl rfl (off := 599) (by rw [c143]; decide +kernel) (by decide +kernel) ?_
      refine V_msk [true, true, true, true] (lc' := [some (rv (12, 10) 0), some (rv (7, 99) 0), some (rv (8, 99) 135), some (iv x3)]) rfl ?_
      exact w_L_law_631 hR K18 hK18 x3 h e
    rcases if_e e with ⟨c153, e⟩ | ⟨c153, e⟩
    · refine V_tab 674 21 rfl rfl (off := 642) (by rw [c153]; decide +kernel) (by decide +kernel) ?_
      refine V_msk [true, true, true, true] (lc' := [some (rv (12, 10) 0), some (rv (7, 99) 0), some (rv (8, 99) 135), some (iv x3)]) rfl ?_
      exact w_L_law_674 hR K18 hK18 x3 h e
    rcases if_e e with ⟨c161, e⟩ | ⟨c161, e⟩
    · refine V_tab 717 21 rfl rfl (off := 685) (by rw [c161]; decide +kernel) (by decide +kernel) ?_
      refine V_msk [true, true, true, true] (lc' := [some (rv (12, 10) 0), some (rv (7, 99) 0), some (rv (8, 99) 135), some (iv x3)]) rfl ?_
      exact w_L_law_717 hR K18 hK18 x3 h e
    rcases if_e e with ⟨c168, e⟩ | ⟨c168, e⟩
    · refine V_tab 740 21 rfl rfl (off := 708) (by rw [c168]; decide +kernel) (by decide +kernel) ?_
      refine V_msk [true, true, true, true] (lc' := [some (rv (12, 10) 0), some (rv (7, 99) 0), some (rv (8, 99) 135), some (iv x3)]) rfl ?_
      exact w_L_law_740 hR K18 hK18 x3 h e
    rcases if_e e with ⟨c179, e⟩ | ⟨c179, e⟩
    · refine V_tab 753 21 rfl rfl (off := 721) (by rw [c179]; decide +kernel) (by decide +kernel) ?_
      refine V_msk [true, true, true, true] (lc' := [some (rv (12, 10) 0), some (rv (7, 99) 0), some (rv (8, 99) 135), some (iv x3)]) rfl ?_
      exact w_L_law_753 hR K18 hK18 x3 h e
    rcases if_e e with ⟨c188, e⟩ | ⟨c188, e⟩
    · refine V_tab 806 21 rfl rfl (off := 774) (by rw [c188]; decide +kernel) (by decide +kernel) ?_
      refine V_msk [true, true, true, true] (lc' := [some (rv (12, 10) 0), some (rv (7, 99) 0), some (rv (8, 99) 135), some (iv x3)]) rfl ?_
      exact w_L_law_806 hR K18 hK18 x3 h e
    rcases if_e e with ⟨c198, e⟩ | ⟨c198, e⟩
    · refine V_tab 839 21 rfl rfl (off := 807) (by rw [c198]; decide +kernel) (by decide +kernel) ?_
      refine V_msk [true, true, true, true] (lc' := [some (rv (12, 10) 0), some (rv (7, 99) 0), some (rv (8, 99) 135), some (iv x3)]) rfl ?_
      exact w_L_law_839 hR K18 hK18 x3 h e
    rcases if_e e with ⟨c207, e⟩ | ⟨c207, e⟩
    · refine V_tab 882 21 rfl rfl (off := 850) (by rw [c207]; decide +kernel) (by decide +kernel) ?_
      refine V_msk [true, true, true, true] (lc' := [some (rv (12, 10) 0), some (rv (7, 99) 0), some (rv (8, 99) 135), some (iv x3)]) rfl ?_
      exact w_L_law_882 hR K18 hK18 x3 h e
    rcases if_e e with ⟨c217, e⟩ | ⟨c217, e⟩
    · refine V_tab 915 21 rfl rfl (off := 883) (by rw [c217]; decide +kernel) (by decide +kernel) ?_
      refine V_msk [true, true, true, true] (lc' := [some (rv (12, 10) 0), some (rv (7, 99) 0), some (rv (8, 99) 135), some (iv x3)]) rfl ?_
      exact w_L_law_915 hR K18 hK18 x3 h e
    rcases if_e e with ⟨c228, e⟩ | ⟨c228, e⟩
    · refine V_tab 958 21 rfl rfl (off := 926) (by rw [c228]; decide +kernel) (by decide +kernel) ?_
      refine V_msk [true, true, true, true] (lc' := [some (rv (12, 10) 0), some (rv (7, 99) 0), some (rv (8, 99) 135), some (iv x3)]) rfl ?_
      exact w_L_law_958 hR K18 hK18 x3 h e
    rcases if_e e with ⟨c235, e⟩ | ⟨c235, e⟩
    · refine V_tab 1011 21 rfl rfl (off := 979) (by rw [c235]; decide +kernel) (by decide +kernel) ?_
      refine V_msk [true, true, true, true] (lc' := [some (rv (12, 10) 0), some (rv (7, 99) 0), some (rv (8, 99) 135), some (iv x3)]) rfl ?_
      exact w_L_law_1011 hR K18 hK18 x3 h e
    rcases if_e e with ⟨c242, e⟩ | ⟨c242, e⟩
    · refine V_tab 1024 21 rfl rfl (off := 992) (by rw [c242]; decide +kernel) (by decide +kernel) ?_
      refine V_msk [true, true, true, true] (lc' := [some (rv (12, 10) 0), some (rv (7, 99) 0), some (rv (8, 99) 135), some (iv x3)]) rfl ?_
      exact w_L_law_1024 hR K18 hK18 x3 h e
    rcases if_e e with ⟨c250, e⟩ | ⟨c250, e⟩
    · refine V_tab 1037 21 rfl rfl (off := 1005) (by rw [c250]; decide +kernel) (by decide +kernel) ?_
      refine V_msk [true, true, true, true] (lc' := [some (rv (12, 10) 0), some (rv (7, 99) 0), some (rv (8, 99) 135), some (iv x3)]) rfl ?_
      exact w_L_law_1037 hR K18 hK18 x3 h e
    refine V_tab 1060 21 rfl rfl (tsel_d [0, 1, 2, 3, 4, 5, 6, 7, 8, 9, 10, 11, 12, 13, 14, 15, 16, 17, 18, 19, 20, 21, 22, 23, 24, 25, 26, 27] (List.forall_mem_cons.mpr ⟨c12, List.forall_mem_cons.mpr ⟨c19, List.forall_mem_cons.mpr ⟨c26, List.forall_mem_cons.mpr ⟨c33, List.forall_mem_cons.mpr ⟨c42, List.forall_mem_cons.mpr ⟨c51, List.forall_mem_cons.mpr ⟨c59, List.forall_mem_cons.mpr ⟨c68, List.forall_mem_cons.mpr ⟨c79, List.forall_mem_cons.mpr ⟨c87, List.forall_mem_cons.mpr ⟨c95, List.forall_mem_cons.mpr ⟨c103, List.forall_mem_cons.mpr ⟨c113, List.forall_mem_cons.mpr ⟨c124, List.forall_mem_cons.mpr ⟨c133, List.forall_mem_cons.mpr ⟨c143, List.forall_mem_cons.mpr ⟨c153, List.forall_mem_cons.mpr ⟨c161, List.forall_mem_cons.mpr ⟨c168, List.forall_mem_cons.mpr ⟨c179, List.forall_mem_cons.mpr ⟨c188, List.forall_mem_cons.mpr ⟨c198, List.forall_mem_cons.mpr ⟨c207, List.forall_mem_cons.mpr ⟨c217, List.forall_mem_cons.mpr ⟨c228, List.forall_mem_cons.mpr ⟨c235, List.forall_mem_cons.mpr ⟨c242, List.forall_mem_cons.mpr ⟨c250, fun k hk => by cases hk⟩⟩⟩⟩⟩⟩⟩⟩⟩⟩⟩⟩⟩⟩⟩⟩⟩⟩⟩⟩⟩⟩⟩⟩⟩⟩⟩⟩) (by decide +kernel)) (by decide +kernel) ?_
    refine V_iinc (x3 + (nI 5)) 740 rfl rfl (inc_5 _) (Nat.le_of_ble_eq_true rfl) rfl ?_
    show V G M_L_law X T 152 10966 1063 [some (rv (12, 10) 0), some (rv (7, 99) 0), some (rv (8, 99) 135), some (iv (x3 + (nI 5)))] [] h
    refine V_goto 18 741 rfl (by decide +kernel) ?_
    refine V_msk [true, true, true, true] (lc' := [some (rv (12, 10) 0), some (rv (7, 99) 0), some (rv (8, 99) 135), some (iv (x3 + (nI 5)))]) rfl ?_
    exact hK18 (x3 + (nI 5)) h e
set_option maxRecDepth 100000 in
theorem w_L_law {G : kG} {X : kX} {T : List kT} {h h0 : kH} (hR : k_RL G X) (e : fx (fun K18 s => p_L_law_18 K18 (g_n G) (g_xs G) s.1 s.2) FU ((nI 0), h) = some (nI 1, h0)) : V G M_L_law X T 152 10966 18 [some (rv (12, 10) 0), some (rv (7, 99) 0), some (rv (8, 99) 135), some (iv (nI 0))] [] h := by
  refine V_msk [true, true, true, true] (lc' := [some (rv (12, 10) 0), some (rv (7, 99) 0), some (rv (8, 99) 135), some (iv (nI 0))]) rfl ?_
  exact fx_e (P := fun s => V G M_L_law X T 152 10966 18 [some (rv (12, 10) 0), some (rv (7, 99) 0), some (rv (8, 99) 135), some (iv s.1)] [] s.2) (fun K18 hK18 s e => w_L_law_18 hR K18 (fun x3 h e => hK18 (x3, h) e) s.1 s.2 e) FU ((nI 0), h) e
