section
-- ===== PART A: goes FIRST, ahead of the names: the tables' words, and 'selects' of the private methods out of them =====
/-- a private method of a class that the tables say can be made, by its rows of tables_1 -/
def lw_okq (q : MethodName × Nat) : Prop := (q.1.cls ≠ "java/lang/invoke/MethodHandle" ∧ q.1.cls ≠ "java/lang/invoke/VarHandle") ∧ Cond.instantiable q.1.cls q.2 ∈ tables_1 ∧ Cond.privateMethod q.1 ∈ tables_1 ∧ Cond.instanceMethod q.1 ∈ tables_1
theorem lw_p0 : lw_okq (⟨"PotBonfire$Rules", "setDefaults", "()V"⟩, 10) := ⟨⟨by decide +kernel, by decide +kernel⟩, List.mem_of_getElem? (i := 27) (by decide +kernel), List.mem_of_getElem? (i := 33) (by decide +kernel), List.mem_of_getElem? (i := 34) (by decide +kernel)⟩
theorem lw_p1 : lw_okq (⟨"PotBonfire$Rules", "setKind", "(III)V"⟩, 10) := ⟨⟨by decide +kernel, by decide +kernel⟩, List.mem_of_getElem? (i := 27) (by decide +kernel), List.mem_of_getElem? (i := 37) (by decide +kernel), List.mem_of_getElem? (i := 38) (by decide +kernel)⟩
theorem lw_p2 : lw_okq (⟨"PotBonfire$Plan", "forget", "()V"⟩, 6) := ⟨⟨by decide +kernel, by decide +kernel⟩, List.mem_of_getElem? (i := 21) (by decide +kernel), List.mem_of_getElem? (i := 179) (by decide +kernel), List.mem_of_getElem? (i := 180) (by decide +kernel)⟩
theorem lw_p3 : lw_okq (⟨"PotBonfire$Fire", "clear", "()V"⟩, 6) := ⟨⟨by decide +kernel, by decide +kernel⟩, List.mem_of_getElem? (i := 91) (by decide +kernel), List.mem_of_getElem? (i := 184) (by decide +kernel), List.mem_of_getElem? (i := 185) (by decide +kernel)⟩
theorem lw_p4 : lw_okq (⟨"PotBonfire$Plan", "layOn", "(LPotBonfire$Rules;LPotBonfire$Heap;)V"⟩, 6) := ⟨⟨by decide +kernel, by decide +kernel⟩, List.mem_of_getElem? (i := 21) (by decide +kernel), List.mem_of_getElem? (i := 267) (by decide +kernel), List.mem_of_getElem? (i := 268) (by decide +kernel)⟩
theorem lw_p5 : lw_okq (⟨"PotBonfire$Rules", "copyFrom", "(LPotBonfire$Rules;)V"⟩, 10) := ⟨⟨by decide +kernel, by decide +kernel⟩, List.mem_of_getElem? (i := 27) (by decide +kernel), List.mem_of_getElem? (i := 271) (by decide +kernel), List.mem_of_getElem? (i := 272) (by decide +kernel)⟩
theorem lw_p6 : lw_okq (⟨"PotBonfire$Fire", "copyCell", "(ILPotBonfire$Fire;I)V"⟩, 6) := ⟨⟨by decide +kernel, by decide +kernel⟩, List.mem_of_getElem? (i := 91) (by decide +kernel), List.mem_of_getElem? (i := 275) (by decide +kernel), List.mem_of_getElem? (i := 276) (by decide +kernel)⟩
theorem lw_p7 : lw_okq (⟨"PotBonfire$Pots", "copyFrom", "(LPotBonfire$Pots;)V"⟩, 12) := ⟨⟨by decide +kernel, by decide +kernel⟩, List.mem_of_getElem? (i := 126) (by decide +kernel), List.mem_of_getElem? (i := 279) (by decide +kernel), List.mem_of_getElem? (i := 280) (by decide +kernel)⟩
theorem lw_p8 : lw_okq (⟨"PotBonfire$Plan", "read", "([BI)I"⟩, 6) := ⟨⟨by decide +kernel, by decide +kernel⟩, List.mem_of_getElem? (i := 21) (by decide +kernel), List.mem_of_getElem? (i := 338) (by decide +kernel), List.mem_of_getElem? (i := 339) (by decide +kernel)⟩
theorem lw_p9 : lw_okq (⟨"PotBonfire$Plan", "readNumbers", "([BII)I"⟩, 6) := ⟨⟨by decide +kernel, by decide +kernel⟩, List.mem_of_getElem? (i := 21) (by decide +kernel), List.mem_of_getElem? (i := 342) (by decide +kernel), List.mem_of_getElem? (i := 343) (by decide +kernel)⟩
theorem lw_p10 : lw_okq (⟨"PotBonfire$Plan", "takeItem", "(B)Z"⟩, 6) := ⟨⟨by decide +kernel, by decide +kernel⟩, List.mem_of_getElem? (i := 21) (by decide +kernel), List.mem_of_getElem? (i := 375) (by decide +kernel), List.mem_of_getElem? (i := 376) (by decide +kernel)⟩
theorem lw_p11 : lw_okq (⟨"PotBonfire$Plan", "takeCell", "()V"⟩, 6) := ⟨⟨by decide +kernel, by decide +kernel⟩, List.mem_of_getElem? (i := 21) (by decide +kernel), List.mem_of_getElem? (i := 379) (by decide +kernel), List.mem_of_getElem? (i := 380) (by decide +kernel)⟩
theorem lw_p12 : lw_okq (⟨"PotBonfire$Plan", "takePot", "()Z"⟩, 6) := ⟨⟨by decide +kernel, by decide +kernel⟩, List.mem_of_getElem? (i := 21) (by decide +kernel), List.mem_of_getElem? (i := 383) (by decide +kernel), List.mem_of_getElem? (i := 384) (by decide +kernel)⟩
theorem lw_p13 : lw_okq (⟨"PotBonfire$Pots", "add", "([I)V"⟩, 12) := ⟨⟨by decide +kernel, by decide +kernel⟩, List.mem_of_getElem? (i := 126) (by decide +kernel), List.mem_of_getElem? (i := 387) (by decide +kernel), List.mem_of_getElem? (i := 388) (by decide +kernel)⟩
theorem lw_p14 : lw_okq (⟨"PotBonfire$Plan", "isLayable", "()Z"⟩, 6) := ⟨⟨by decide +kernel, by decide +kernel⟩, List.mem_of_getElem? (i := 21) (by decide +kernel), List.mem_of_getElem? (i := 396) (by decide +kernel), List.mem_of_getElem? (i := 397) (by decide +kernel)⟩
theorem lw_p15 : lw_okq (⟨"PotBonfire$Pots", "anyTwoInOne", "()Z"⟩, 12) := ⟨⟨by decide +kernel, by decide +kernel⟩, List.mem_of_getElem? (i := 126) (by decide +kernel), List.mem_of_getElem? (i := 400) (by decide +kernel), List.mem_of_getElem? (i := 401) (by decide +kernel)⟩
def lw_privs_1 : List (MethodName × Nat) := [(⟨"PotBonfire$Rules", "setDefaults", "()V"⟩, 10), (⟨"PotBonfire$Rules", "setKind", "(III)V"⟩, 10), (⟨"PotBonfire$Plan", "forget", "()V"⟩, 6), (⟨"PotBonfire$Fire", "clear", "()V"⟩, 6), (⟨"PotBonfire$Plan", "layOn", "(LPotBonfire$Rules;LPotBonfire$Heap;)V"⟩, 6), (⟨"PotBonfire$Rules", "copyFrom", "(LPotBonfire$Rules;)V"⟩, 10), (⟨"PotBonfire$Fire", "copyCell", "(ILPotBonfire$Fire;I)V"⟩, 6), (⟨"PotBonfire$Pots", "copyFrom", "(LPotBonfire$Pots;)V"⟩, 12), (⟨"PotBonfire$Plan", "read", "([BI)I"⟩, 6), (⟨"PotBonfire$Plan", "readNumbers", "([BII)I"⟩, 6), (⟨"PotBonfire$Plan", "takeItem", "(B)Z"⟩, 6), (⟨"PotBonfire$Plan", "takeCell", "()V"⟩, 6), (⟨"PotBonfire$Plan", "takePot", "()Z"⟩, 6), (⟨"PotBonfire$Pots", "add", "([I)V"⟩, 12), (⟨"PotBonfire$Plan", "isLayable", "()Z"⟩, 6), (⟨"PotBonfire$Pots", "anyTwoInOne", "()Z"⟩, 12)]
theorem lw_r1 : ∀ q ∈ lw_privs_1, lw_okq q := List.forall_mem_cons.mpr ⟨lw_p0, List.forall_mem_cons.mpr ⟨lw_p1, List.forall_mem_cons.mpr ⟨lw_p2, List.forall_mem_cons.mpr ⟨lw_p3, List.forall_mem_cons.mpr ⟨lw_p4, List.forall_mem_cons.mpr ⟨lw_p5, List.forall_mem_cons.mpr ⟨lw_p6, List.forall_mem_cons.mpr ⟨lw_p7, List.forall_mem_cons.mpr ⟨lw_p8, List.forall_mem_cons.mpr ⟨lw_p9, List.forall_mem_cons.mpr ⟨lw_p10, List.forall_mem_cons.mpr ⟨lw_p11, List.forall_mem_cons.mpr ⟨lw_p12, List.forall_mem_cons.mpr ⟨lw_p13, List.forall_mem_cons.mpr ⟨lw_p14, List.forall_mem_cons.mpr ⟨lw_p15, fun _ h => absurd h List.not_mem_nil⟩⟩⟩⟩⟩⟩⟩⟩⟩⟩⟩⟩⟩⟩⟩⟩
theorem lw_p16 : lw_okq (⟨"PotBonfire$Rules", "cells", "()I"⟩, 10) := ⟨⟨by decide +kernel, by decide +kernel⟩, List.mem_of_getElem? (i := 27) (by decide +kernel), List.mem_of_getElem? (i := 404) (by decide +kernel), List.mem_of_getElem? (i := 405) (by decide +kernel)⟩
theorem lw_p17 : lw_okq (⟨"PotBonfire", "isCell", "(I)Z"⟩, 14) := ⟨⟨by decide +kernel, by decide +kernel⟩, List.mem_of_getElem? (i := 13) (by decide +kernel), List.mem_of_getElem? (i := 412) (by decide +kernel), List.mem_of_getElem? (i := 413) (by decide +kernel)⟩
theorem lw_p18 : lw_okq (⟨"PotBonfire$Pots", "wholeIn", "(I)I"⟩, 12) := ⟨⟨by decide +kernel, by decide +kernel⟩, List.mem_of_getElem? (i := 126) (by decide +kernel), List.mem_of_getElem? (i := 419) (by decide +kernel), List.mem_of_getElem? (i := 420) (by decide +kernel)⟩
theorem lw_p19 : lw_okq (⟨"PotBonfire", "isPot", "(I)Z"⟩, 14) := ⟨⟨by decide +kernel, by decide +kernel⟩, List.mem_of_getElem? (i := 13) (by decide +kernel), List.mem_of_getElem? (i := 427) (by decide +kernel), List.mem_of_getElem? (i := 428) (by decide +kernel)⟩
theorem lw_p20 : lw_okq (⟨"PotBonfire$Pots", "lossOf", "(ILPotBonfire$Rules;)I"⟩, 12) := ⟨⟨by decide +kernel, by decide +kernel⟩, List.mem_of_getElem? (i := 126) (by decide +kernel), List.mem_of_getElem? (i := 431) (by decide +kernel), List.mem_of_getElem? (i := 432) (by decide +kernel)⟩
theorem lw_p21 : lw_okq (⟨"PotBonfire$Heap", "pass", "(LPotBonfire$Rules;ILPotBonfire$Air;)V"⟩, 3) := ⟨⟨by decide +kernel, by decide +kernel⟩, List.mem_of_getElem? (i := 209) (by decide +kernel), List.mem_of_getElem? (i := 442) (by decide +kernel), List.mem_of_getElem? (i := 443) (by decide +kernel)⟩
theorem lw_p22 : lw_okq (⟨"PotBonfire$Fire", "burn", "(LPotBonfire$Rules;I)V"⟩, 6) := ⟨⟨by decide +kernel, by decide +kernel⟩, List.mem_of_getElem? (i := 91) (by decide +kernel), List.mem_of_getElem? (i := 446) (by decide +kernel), List.mem_of_getElem? (i := 447) (by decide +kernel)⟩
theorem lw_p23 : lw_okq (⟨"PotBonfire$Fire", "burnFuel", "(LPotBonfire$Rules;)V"⟩, 6) := ⟨⟨by decide +kernel, by decide +kernel⟩, List.mem_of_getElem? (i := 91) (by decide +kernel), List.mem_of_getElem? (i := 450) (by decide +kernel), List.mem_of_getElem? (i := 451) (by decide +kernel)⟩
theorem lw_p24 : lw_okq (⟨"PotBonfire$Fire", "spread", "(LPotBonfire$Rules;)V"⟩, 6) := ⟨⟨by decide +kernel, by decide +kernel⟩, List.mem_of_getElem? (i := 91) (by decide +kernel), List.mem_of_getElem? (i := 458) (by decide +kernel), List.mem_of_getElem? (i := 459) (by decide +kernel)⟩
theorem lw_p25 : lw_okq (⟨"PotBonfire$Fire", "flow", "(II)V"⟩, 6) := ⟨⟨by decide +kernel, by decide +kernel⟩, List.mem_of_getElem? (i := 91) (by decide +kernel), List.mem_of_getElem? (i := 465) (by decide +kernel), List.mem_of_getElem? (i := 466) (by decide +kernel)⟩
theorem lw_p26 : lw_okq (⟨"PotBonfire$Fire", "cool", "(LPotBonfire$Rules;I)V"⟩, 6) := ⟨⟨by decide +kernel, by decide +kernel⟩, List.mem_of_getElem? (i := 91) (by decide +kernel), List.mem_of_getElem? (i := 469) (by decide +kernel), List.mem_of_getElem? (i := 470) (by decide +kernel)⟩
theorem lw_p27 : lw_okq (⟨"PotBonfire$Fire", "tell", "(LPotBonfire$Air;I)V"⟩, 6) := ⟨⟨by decide +kernel, by decide +kernel⟩, List.mem_of_getElem? (i := 91) (by decide +kernel), List.mem_of_getElem? (i := 473) (by decide +kernel), List.mem_of_getElem? (i := 474) (by decide +kernel)⟩
theorem lw_p28 : lw_okq (⟨"PotBonfire$Air", "put", "(IIIZ)V"⟩, 1) := ⟨⟨by decide +kernel, by decide +kernel⟩, List.mem_of_getElem? (i := 235) (by decide +kernel), List.mem_of_getElem? (i := 477) (by decide +kernel), List.mem_of_getElem? (i := 478) (by decide +kernel)⟩
theorem lw_p29 : lw_okq (⟨"PotBonfire$Pots", "feel", "(LPotBonfire$Rules;LPotBonfire$Air;I)Z"⟩, 12) := ⟨⟨by decide +kernel, by decide +kernel⟩, List.mem_of_getElem? (i := 126) (by decide +kernel), List.mem_of_getElem? (i := 485) (by decide +kernel), List.mem_of_getElem? (i := 486) (by decide +kernel)⟩
theorem lw_p30 : lw_okq (⟨"PotBonfire$Air", "heatAt", "(II)I"⟩, 1) := ⟨⟨by decide +kernel, by decide +kernel⟩, List.mem_of_getElem? (i := 235) (by decide +kernel), List.mem_of_getElem? (i := 489) (by decide +kernel), List.mem_of_getElem? (i := 490) (by decide +kernel)⟩
theorem lw_p31 : lw_okq (⟨"PotBonfire$Pots", "warm", "(ILPotBonfire$Rules;I)V"⟩, 12) := ⟨⟨by decide +kernel, by decide +kernel⟩, List.mem_of_getElem? (i := 126) (by decide +kernel), List.mem_of_getElem? (i := 493) (by decide +kernel), List.mem_of_getElem? (i := 494) (by decide +kernel)⟩
def lw_privs_2 : List (MethodName × Nat) := [(⟨"PotBonfire$Rules", "cells", "()I"⟩, 10), (⟨"PotBonfire", "isCell", "(I)Z"⟩, 14), (⟨"PotBonfire$Pots", "wholeIn", "(I)I"⟩, 12), (⟨"PotBonfire", "isPot", "(I)Z"⟩, 14), (⟨"PotBonfire$Pots", "lossOf", "(ILPotBonfire$Rules;)I"⟩, 12), (⟨"PotBonfire$Heap", "pass", "(LPotBonfire$Rules;ILPotBonfire$Air;)V"⟩, 3), (⟨"PotBonfire$Fire", "burn", "(LPotBonfire$Rules;I)V"⟩, 6), (⟨"PotBonfire$Fire", "burnFuel", "(LPotBonfire$Rules;)V"⟩, 6), (⟨"PotBonfire$Fire", "spread", "(LPotBonfire$Rules;)V"⟩, 6), (⟨"PotBonfire$Fire", "flow", "(II)V"⟩, 6), (⟨"PotBonfire$Fire", "cool", "(LPotBonfire$Rules;I)V"⟩, 6), (⟨"PotBonfire$Fire", "tell", "(LPotBonfire$Air;I)V"⟩, 6), (⟨"PotBonfire$Air", "put", "(IIIZ)V"⟩, 1), (⟨"PotBonfire$Pots", "feel", "(LPotBonfire$Rules;LPotBonfire$Air;I)Z"⟩, 12), (⟨"PotBonfire$Air", "heatAt", "(II)I"⟩, 1), (⟨"PotBonfire$Pots", "warm", "(ILPotBonfire$Rules;I)V"⟩, 12)]
theorem lw_r2 : ∀ q ∈ lw_privs_2, lw_okq q := List.forall_mem_cons.mpr ⟨lw_p16, List.forall_mem_cons.mpr ⟨lw_p17, List.forall_mem_cons.mpr ⟨lw_p18, List.forall_mem_cons.mpr ⟨lw_p19, List.forall_mem_cons.mpr ⟨lw_p20, List.forall_mem_cons.mpr ⟨lw_p21, List.forall_mem_cons.mpr ⟨lw_p22, List.forall_mem_cons.mpr ⟨lw_p23, List.forall_mem_cons.mpr ⟨lw_p24, List.forall_mem_cons.mpr ⟨lw_p25, List.forall_mem_cons.mpr ⟨lw_p26, List.forall_mem_cons.mpr ⟨lw_p27, List.forall_mem_cons.mpr ⟨lw_p28, List.forall_mem_cons.mpr ⟨lw_p29, List.forall_mem_cons.mpr ⟨lw_p30, List.forall_mem_cons.mpr ⟨lw_p31, fun _ h => absurd h List.not_mem_nil⟩⟩⟩⟩⟩⟩⟩⟩⟩⟩⟩⟩⟩⟩⟩⟩
theorem lw_p32 : lw_okq (⟨"PotBonfire$Pots", "isBursting", "(I)Z"⟩, 12) := ⟨⟨by decide +kernel, by decide +kernel⟩, List.mem_of_getElem? (i := 126) (by decide +kernel), List.mem_of_getElem? (i := 497) (by decide +kernel), List.mem_of_getElem? (i := 498) (by decide +kernel)⟩
theorem lw_p33 : lw_okq (⟨"PotBonfire$Pots", "steamAndHarden", "(ILPotBonfire$Rules;)V"⟩, 12) := ⟨⟨by decide +kernel, by decide +kernel⟩, List.mem_of_getElem? (i := 126) (by decide +kernel), List.mem_of_getElem? (i := 501) (by decide +kernel), List.mem_of_getElem? (i := 502) (by decide +kernel)⟩
theorem lw_p34 : lw_okq (⟨"PotBonfire$Pots", "loseWater", "(II)V"⟩, 12) := ⟨⟨by decide +kernel, by decide +kernel⟩, List.mem_of_getElem? (i := 126) (by decide +kernel), List.mem_of_getElem? (i := 505) (by decide +kernel), List.mem_of_getElem? (i := 506) (by decide +kernel)⟩
theorem lw_p35 : lw_okq (⟨"PotBonfire$Pots", "strike", "(LPotBonfire$Rules;)V"⟩, 12) := ⟨⟨by decide +kernel, by decide +kernel⟩, List.mem_of_getElem? (i := 126) (by decide +kernel), List.mem_of_getElem? (i := 510) (by decide +kernel), List.mem_of_getElem? (i := 511) (by decide +kernel)⟩
theorem lw_p36 : lw_okq (⟨"PotBonfire$Pots", "isBesideBurst", "(ILPotBonfire$Rules;)Z"⟩, 12) := ⟨⟨by decide +kernel, by decide +kernel⟩, List.mem_of_getElem? (i := 126) (by decide +kernel), List.mem_of_getElem? (i := 514) (by decide +kernel), List.mem_of_getElem? (i := 515) (by decide +kernel)⟩
theorem lw_p37 : lw_okq (⟨"PotBonfire$Rules", "areBeside", "(II)Z"⟩, 10) := ⟨⟨by decide +kernel, by decide +kernel⟩, List.mem_of_getElem? (i := 27) (by decide +kernel), List.mem_of_getElem? (i := 518) (by decide +kernel), List.mem_of_getElem? (i := 519) (by decide +kernel)⟩
theorem lw_p38 : lw_okq (⟨"PotBonfire$Air", "blackensAt", "(II)Z"⟩, 1) := ⟨⟨by decide +kernel, by decide +kernel⟩, List.mem_of_getElem? (i := 235) (by decide +kernel), List.mem_of_getElem? (i := 522) (by decide +kernel), List.mem_of_getElem? (i := 523) (by decide +kernel)⟩
theorem lw_p39 : lw_okq (⟨"PotBonfire$Pots", "takeColour", "(IZ)V"⟩, 12) := ⟨⟨by decide +kernel, by decide +kernel⟩, List.mem_of_getElem? (i := 126) (by decide +kernel), List.mem_of_getElem? (i := 526) (by decide +kernel), List.mem_of_getElem? (i := 527) (by decide +kernel)⟩
theorem lw_p40 : lw_okq (⟨"PotBonfire$Pots", "countWhole", "()I"⟩, 12) := ⟨⟨by decide +kernel, by decide +kernel⟩, List.mem_of_getElem? (i := 126) (by decide +kernel), List.mem_of_getElem? (i := 530) (by decide +kernel), List.mem_of_getElem? (i := 531) (by decide +kernel)⟩
theorem lw_p41 : lw_okq (⟨"PotBonfire$Pots", "dryFor", "(I)V"⟩, 12) := ⟨⟨by decide +kernel, by decide +kernel⟩, List.mem_of_getElem? (i := 126) (by decide +kernel), List.mem_of_getElem? (i := 554) (by decide +kernel), List.mem_of_getElem? (i := 555) (by decide +kernel)⟩
theorem lw_p42 : lw_okq (⟨"PotBonfire$Pots", "allWater", "()I"⟩, 12) := ⟨⟨by decide +kernel, by decide +kernel⟩, List.mem_of_getElem? (i := 126) (by decide +kernel), List.mem_of_getElem? (i := 558) (by decide +kernel), List.mem_of_getElem? (i := 559) (by decide +kernel)⟩
theorem lw_p43 : lw_okq (⟨"PotBonfire", "tryRun", "(II)V"⟩, 14) := ⟨⟨by decide +kernel, by decide +kernel⟩, List.mem_of_getElem? (i := 13) (by decide +kernel), List.mem_of_getElem? (i := 572) (by decide +kernel), List.mem_of_getElem? (i := 573) (by decide +kernel)⟩
theorem lw_p44 : lw_okq (⟨"PotBonfire", "burnAfresh", "(II)V"⟩, 14) := ⟨⟨by decide +kernel, by decide +kernel⟩, List.mem_of_getElem? (i := 13) (by decide +kernel), List.mem_of_getElem? (i := 576) (by decide +kernel), List.mem_of_getElem? (i := 577) (by decide +kernel)⟩
theorem lw_p45 : lw_okq (⟨"PotBonfire$Fire", "copyFrom", "(LPotBonfire$Fire;)V"⟩, 6) := ⟨⟨by decide +kernel, by decide +kernel⟩, List.mem_of_getElem? (i := 91) (by decide +kernel), List.mem_of_getElem? (i := 580) (by decide +kernel), List.mem_of_getElem? (i := 581) (by decide +kernel)⟩
theorem lw_p46 : lw_okq (⟨"PotBonfire", "burnFire", "(III)V"⟩, 14) := ⟨⟨by decide +kernel, by decide +kernel⟩, List.mem_of_getElem? (i := 13) (by decide +kernel), List.mem_of_getElem? (i := 585) (by decide +kernel), List.mem_of_getElem? (i := 586) (by decide +kernel)⟩
theorem lw_p47 : lw_okq (⟨"PotBonfire", "passPots", "(II)V"⟩, 14) := ⟨⟨by decide +kernel, by decide +kernel⟩, List.mem_of_getElem? (i := 13) (by decide +kernel), List.mem_of_getElem? (i := 592) (by decide +kernel), List.mem_of_getElem? (i := 593) (by decide +kernel)⟩
def lw_privs_3 : List (MethodName × Nat) := [(⟨"PotBonfire$Pots", "isBursting", "(I)Z"⟩, 12), (⟨"PotBonfire$Pots", "steamAndHarden", "(ILPotBonfire$Rules;)V"⟩, 12), (⟨"PotBonfire$Pots", "loseWater", "(II)V"⟩, 12), (⟨"PotBonfire$Pots", "strike", "(LPotBonfire$Rules;)V"⟩, 12), (⟨"PotBonfire$Pots", "isBesideBurst", "(ILPotBonfire$Rules;)Z"⟩, 12), (⟨"PotBonfire$Rules", "areBeside", "(II)Z"⟩, 10), (⟨"PotBonfire$Air", "blackensAt", "(II)Z"⟩, 1), (⟨"PotBonfire$Pots", "takeColour", "(IZ)V"⟩, 12), (⟨"PotBonfire$Pots", "countWhole", "()I"⟩, 12), (⟨"PotBonfire$Pots", "dryFor", "(I)V"⟩, 12), (⟨"PotBonfire$Pots", "allWater", "()I"⟩, 12), (⟨"PotBonfire", "tryRun", "(II)V"⟩, 14), (⟨"PotBonfire", "burnAfresh", "(II)V"⟩, 14), (⟨"PotBonfire$Fire", "copyFrom", "(LPotBonfire$Fire;)V"⟩, 6), (⟨"PotBonfire", "burnFire", "(III)V"⟩, 14), (⟨"PotBonfire", "passPots", "(II)V"⟩, 14)]
theorem lw_r3 : ∀ q ∈ lw_privs_3, lw_okq q := List.forall_mem_cons.mpr ⟨lw_p32, List.forall_mem_cons.mpr ⟨lw_p33, List.forall_mem_cons.mpr ⟨lw_p34, List.forall_mem_cons.mpr ⟨lw_p35, List.forall_mem_cons.mpr ⟨lw_p36, List.forall_mem_cons.mpr ⟨lw_p37, List.forall_mem_cons.mpr ⟨lw_p38, List.forall_mem_cons.mpr ⟨lw_p39, List.forall_mem_cons.mpr ⟨lw_p40, List.forall_mem_cons.mpr ⟨lw_p41, List.forall_mem_cons.mpr ⟨lw_p42, List.forall_mem_cons.mpr ⟨lw_p43, List.forall_mem_cons.mpr ⟨lw_p44, List.forall_mem_cons.mpr ⟨lw_p45, List.forall_mem_cons.mpr ⟨lw_p46, List.forall_mem_cons.mpr ⟨lw_p47, fun _ h => absurd h List.not_mem_nil⟩⟩⟩⟩⟩⟩⟩⟩⟩⟩⟩⟩⟩⟩⟩⟩
theorem lw_p48 : lw_okq (⟨"PotBonfire$Pots", "countGood", "(LPotBonfire$Rules;)I"⟩, 12) := ⟨⟨by decide +kernel, by decide +kernel⟩, List.mem_of_getElem? (i := 126) (by decide +kernel), List.mem_of_getElem? (i := 597) (by decide +kernel), List.mem_of_getElem? (i := 598) (by decide +kernel)⟩
theorem lw_p49 : lw_okq (⟨"PotBonfire$Pots", "countLost", "()I"⟩, 12) := ⟨⟨by decide +kernel, by decide +kernel⟩, List.mem_of_getElem? (i := 126) (by decide +kernel), List.mem_of_getElem? (i := 602) (by decide +kernel), List.mem_of_getElem? (i := 603) (by decide +kernel)⟩
theorem lw_p50 : lw_okq (⟨"PotBonfire", "greatestHeat", "(II)I"⟩, 14) := ⟨⟨by decide +kernel, by decide +kernel⟩, List.mem_of_getElem? (i := 13) (by decide +kernel), List.mem_of_getElem? (i := 610) (by decide +kernel), List.mem_of_getElem? (i := 611) (by decide +kernel)⟩
theorem lw_p51 : lw_okq (⟨"PotBonfire", "anyBursts", "(I)Z"⟩, 14) := ⟨⟨by decide +kernel, by decide +kernel⟩, List.mem_of_getElem? (i := 13) (by decide +kernel), List.mem_of_getElem? (i := 622) (by decide +kernel), List.mem_of_getElem? (i := 623) (by decide +kernel)⟩
theorem lw_p52 : lw_okq (⟨"PotBonfire$Heap", "copyFrom", "(LPotBonfire$Heap;)V"⟩, 3) := ⟨⟨by decide +kernel, by decide +kernel⟩, List.mem_of_getElem? (i := 209) (by decide +kernel), List.mem_of_getElem? (i := 634) (by decide +kernel), List.mem_of_getElem? (i := 635) (by decide +kernel)⟩
theorem lw_p53 : lw_okq (⟨"PotBonfire$Fire", "shareFuel", "(I)V"⟩, 6) := ⟨⟨by decide +kernel, by decide +kernel⟩, List.mem_of_getElem? (i := 91) (by decide +kernel), List.mem_of_getElem? (i := 640) (by decide +kernel), List.mem_of_getElem? (i := 641) (by decide +kernel)⟩
theorem lw_p54 : lw_okq (⟨"PotBonfire", "goOn", "(III)V"⟩, 14) := ⟨⟨by decide +kernel, by decide +kernel⟩, List.mem_of_getElem? (i := 13) (by decide +kernel), List.mem_of_getElem? (i := 644) (by decide +kernel), List.mem_of_getElem? (i := 645) (by decide +kernel)⟩
theorem lw_p55 : lw_okq (⟨"PotBonfire", "countWays", "(I)I"⟩, 14) := ⟨⟨by decide +kernel, by decide +kernel⟩, List.mem_of_getElem? (i := 13) (by decide +kernel), List.mem_of_getElem? (i := 660) (by decide +kernel), List.mem_of_getElem? (i := 661) (by decide +kernel)⟩
theorem lw_p56 : lw_okq (⟨"PotBonfire", "layWay", "(II)Z"⟩, 14) := ⟨⟨by decide +kernel, by decide +kernel⟩, List.mem_of_getElem? (i := 13) (by decide +kernel), List.mem_of_getElem? (i := 664) (by decide +kernel), List.mem_of_getElem? (i := 665) (by decide +kernel)⟩
theorem lw_p57 : lw_okq (⟨"PotBonfire", "spotInWay", "(III)I"⟩, 14) := ⟨⟨by decide +kernel, by decide +kernel⟩, List.mem_of_getElem? (i := 13) (by decide +kernel), List.mem_of_getElem? (i := 668) (by decide +kernel), List.mem_of_getElem? (i := 669) (by decide +kernel)⟩
theorem lw_p58 : lw_okq (⟨"PotBonfire$Fire", "rakeOff", "()V"⟩, 6) := ⟨⟨by decide +kernel, by decide +kernel⟩, List.mem_of_getElem? (i := 91) (by decide +kernel), List.mem_of_getElem? (i := 677) (by decide +kernel), List.mem_of_getElem? (i := 678) (by decide +kernel)⟩
theorem lw_p59 : lw_okq (⟨"PotBonfire$Fire", "coverAll", "()V"⟩, 6) := ⟨⟨by decide +kernel, by decide +kernel⟩, List.mem_of_getElem? (i := 91) (by decide +kernel), List.mem_of_getElem? (i := 685) (by decide +kernel), List.mem_of_getElem? (i := 686) (by decide +kernel)⟩
theorem lw_p60 : lw_okq (⟨"PotBonfire", "tryEvening", "(II)V"⟩, 14) := ⟨⟨by decide +kernel, by decide +kernel⟩, List.mem_of_getElem? (i := 13) (by decide +kernel), List.mem_of_getElem? (i := 696) (by decide +kernel), List.mem_of_getElem? (i := 697) (by decide +kernel)⟩
theorem lw_p61 : lw_okq (⟨"PotBonfire$Rules", "drawnWind", "(II)I"⟩, 10) := ⟨⟨by decide +kernel, by decide +kernel⟩, List.mem_of_getElem? (i := 27) (by decide +kernel), List.mem_of_getElem? (i := 700) (by decide +kernel), List.mem_of_getElem? (i := 701) (by decide +kernel)⟩
theorem lw_p62 : lw_okq (⟨"PotBonfire$Tally", "clear", "()V"⟩, 5) := ⟨⟨by decide +kernel, by decide +kernel⟩, List.mem_of_getElem? (i := 245) (by decide +kernel), List.mem_of_getElem? (i := 715) (by decide +kernel), List.mem_of_getElem? (i := 716) (by decide +kernel)⟩
theorem lw_p63 : lw_okq (⟨"PotBonfire$Tally", "add", "(II)V"⟩, 5) := ⟨⟨by decide +kernel, by decide +kernel⟩, List.mem_of_getElem? (i := 245) (by decide +kernel), List.mem_of_getElem? (i := 719) (by decide +kernel), List.mem_of_getElem? (i := 720) (by decide +kernel)⟩
def lw_privs_4 : List (MethodName × Nat) := [(⟨"PotBonfire$Pots", "countGood", "(LPotBonfire$Rules;)I"⟩, 12), (⟨"PotBonfire$Pots", "countLost", "()I"⟩, 12), (⟨"PotBonfire", "greatestHeat", "(II)I"⟩, 14), (⟨"PotBonfire", "anyBursts", "(I)Z"⟩, 14), (⟨"PotBonfire$Heap", "copyFrom", "(LPotBonfire$Heap;)V"⟩, 3), (⟨"PotBonfire$Fire", "shareFuel", "(I)V"⟩, 6), (⟨"PotBonfire", "goOn", "(III)V"⟩, 14), (⟨"PotBonfire", "countWays", "(I)I"⟩, 14), (⟨"PotBonfire", "layWay", "(II)Z"⟩, 14), (⟨"PotBonfire", "spotInWay", "(III)I"⟩, 14), (⟨"PotBonfire$Fire", "rakeOff", "()V"⟩, 6), (⟨"PotBonfire$Fire", "coverAll", "()V"⟩, 6), (⟨"PotBonfire", "tryEvening", "(II)V"⟩, 14), (⟨"PotBonfire$Rules", "drawnWind", "(II)I"⟩, 10), (⟨"PotBonfire$Tally", "clear", "()V"⟩, 5), (⟨"PotBonfire$Tally", "add", "(II)V"⟩, 5)]
theorem lw_r4 : ∀ q ∈ lw_privs_4, lw_okq q := List.forall_mem_cons.mpr ⟨lw_p48, List.forall_mem_cons.mpr ⟨lw_p49, List.forall_mem_cons.mpr ⟨lw_p50, List.forall_mem_cons.mpr ⟨lw_p51, List.forall_mem_cons.mpr ⟨lw_p52, List.forall_mem_cons.mpr ⟨lw_p53, List.forall_mem_cons.mpr ⟨lw_p54, List.forall_mem_cons.mpr ⟨lw_p55, List.forall_mem_cons.mpr ⟨lw_p56, List.forall_mem_cons.mpr ⟨lw_p57, List.forall_mem_cons.mpr ⟨lw_p58, List.forall_mem_cons.mpr ⟨lw_p59, List.forall_mem_cons.mpr ⟨lw_p60, List.forall_mem_cons.mpr ⟨lw_p61, List.forall_mem_cons.mpr ⟨lw_p62, List.forall_mem_cons.mpr ⟨lw_p63, fun _ h => absurd h List.not_mem_nil⟩⟩⟩⟩⟩⟩⟩⟩⟩⟩⟩⟩⟩⟩⟩⟩
theorem lw_p64 : lw_okq (⟨"PotBonfire$Tally", "told", "(I)I"⟩, 5) := ⟨⟨by decide +kernel, by decide +kernel⟩, List.mem_of_getElem? (i := 245) (by decide +kernel), List.mem_of_getElem? (i := 725) (by decide +kernel), List.mem_of_getElem? (i := 726) (by decide +kernel)⟩
theorem lw_p65 : lw_okq (⟨"PotBonfire", "keptAt", "(I)LPotBonfire$Heap;"⟩, 14) := ⟨⟨by decide +kernel, by decide +kernel⟩, List.mem_of_getElem? (i := 13) (by decide +kernel), List.mem_of_getElem? (i := 733) (by decide +kernel), List.mem_of_getElem? (i := 734) (by decide +kernel)⟩
theorem lw_p66 : lw_okq (⟨"PotBonfireModel", "begins", "()V"⟩, 20) := ⟨⟨by decide +kernel, by decide +kernel⟩, List.mem_of_getElem? (i := 745) (by decide +kernel), List.mem_of_getElem? (i := 751) (by decide +kernel), List.mem_of_getElem? (i := 752) (by decide +kernel)⟩
theorem lw_p67 : lw_okq (⟨"PotBonfireModel", "takes", "()V"⟩, 20) := ⟨⟨by decide +kernel, by decide +kernel⟩, List.mem_of_getElem? (i := 745) (by decide +kernel), List.mem_of_getElem? (i := 755) (by decide +kernel), List.mem_of_getElem? (i := 756) (by decide +kernel)⟩
theorem lw_p68 : lw_okq (⟨"PotBonfireModel", "cells", "()I"⟩, 20) := ⟨⟨by decide +kernel, by decide +kernel⟩, List.mem_of_getElem? (i := 745) (by decide +kernel), List.mem_of_getElem? (i := 759) (by decide +kernel), List.mem_of_getElem? (i := 760) (by decide +kernel)⟩
theorem lw_p69 : lw_okq (⟨"PotBonfireModel", "isItem", "()Z"⟩, 20) := ⟨⟨by decide +kernel, by decide +kernel⟩, List.mem_of_getElem? (i := 745) (by decide +kernel), List.mem_of_getElem? (i := 840) (by decide +kernel), List.mem_of_getElem? (i := 841) (by decide +kernel)⟩
theorem lw_p70 : lw_okq (⟨"PotBonfireModel", "number", "()I"⟩, 20) := ⟨⟨by decide +kernel, by decide +kernel⟩, List.mem_of_getElem? (i := 745) (by decide +kernel), List.mem_of_getElem? (i := 847) (by decide +kernel), List.mem_of_getElem? (i := 848) (by decide +kernel)⟩
theorem lw_p71 : lw_okq (⟨"PotBonfireModel", "isGood", "(I)Z"⟩, 20) := ⟨⟨by decide +kernel, by decide +kernel⟩, List.mem_of_getElem? (i := 745) (by decide +kernel), List.mem_of_getElem? (i := 854) (by decide +kernel), List.mem_of_getElem? (i := 855) (by decide +kernel)⟩
theorem lw_p72 : lw_okq (⟨"PotBonfireModel", "isIn", "(III)Z"⟩, 20) := ⟨⟨by decide +kernel, by decide +kernel⟩, List.mem_of_getElem? (i := 745) (by decide +kernel), List.mem_of_getElem? (i := 858) (by decide +kernel), List.mem_of_getElem? (i := 859) (by decide +kernel)⟩
theorem lw_p73 : lw_okq (⟨"PotBonfireModel", "isPlaced", "(I)Z"⟩, 20) := ⟨⟨by decide +kernel, by decide +kernel⟩, List.mem_of_getElem? (i := 745) (by decide +kernel), List.mem_of_getElem? (i := 862) (by decide +kernel), List.mem_of_getElem? (i := 863) (by decide +kernel)⟩
theorem lw_p74 : lw_okq (⟨"PotBonfireModel", "isCell", "(I)Z"⟩, 20) := ⟨⟨by decide +kernel, by decide +kernel⟩, List.mem_of_getElem? (i := 745) (by decide +kernel), List.mem_of_getElem? (i := 875) (by decide +kernel), List.mem_of_getElem? (i := 876) (by decide +kernel)⟩
theorem lw_p75 : lw_okq (⟨"PotBonfireModel", "isWhole", "(II)Z"⟩, 20) := ⟨⟨by decide +kernel, by decide +kernel⟩, List.mem_of_getElem? (i := 745) (by decide +kernel), List.mem_of_getElem? (i := 880) (by decide +kernel), List.mem_of_getElem? (i := 881) (by decide +kernel)⟩
theorem lw_p76 : lw_okq (⟨"PotBonfireModel", "isPot", "(I)Z"⟩, 20) := ⟨⟨by decide +kernel, by decide +kernel⟩, List.mem_of_getElem? (i := 745) (by decide +kernel), List.mem_of_getElem? (i := 891) (by decide +kernel), List.mem_of_getElem? (i := 892) (by decide +kernel)⟩
theorem lw_p77 : lw_okq (⟨"PotBonfireModel", "lossOf", "(II)I"⟩, 20) := ⟨⟨by decide +kernel, by decide +kernel⟩, List.mem_of_getElem? (i := 745) (by decide +kernel), List.mem_of_getElem? (i := 895) (by decide +kernel), List.mem_of_getElem? (i := 896) (by decide +kernel)⟩
theorem lw_p78 : lw_okq (⟨"PotBonfireModel", "goes", "(II)V"⟩, 20) := ⟨⟨by decide +kernel, by decide +kernel⟩, List.mem_of_getElem? (i := 745) (by decide +kernel), List.mem_of_getElem? (i := 907) (by decide +kernel), List.mem_of_getElem? (i := 908) (by decide +kernel)⟩
theorem lw_p79 : lw_okq (⟨"PotBonfireModel", "burns", "(I)V"⟩, 20) := ⟨⟨by decide +kernel, by decide +kernel⟩, List.mem_of_getElem? (i := 745) (by decide +kernel), List.mem_of_getElem? (i := 911) (by decide +kernel), List.mem_of_getElem? (i := 912) (by decide +kernel)⟩
def lw_privs_5 : List (MethodName × Nat) := [(⟨"PotBonfire$Tally", "told", "(I)I"⟩, 5), (⟨"PotBonfire", "keptAt", "(I)LPotBonfire$Heap;"⟩, 14), (⟨"PotBonfireModel", "begins", "()V"⟩, 20), (⟨"PotBonfireModel", "takes", "()V"⟩, 20), (⟨"PotBonfireModel", "cells", "()I"⟩, 20), (⟨"PotBonfireModel", "isItem", "()Z"⟩, 20), (⟨"PotBonfireModel", "number", "()I"⟩, 20), (⟨"PotBonfireModel", "isGood", "(I)Z"⟩, 20), (⟨"PotBonfireModel", "isIn", "(III)Z"⟩, 20), (⟨"PotBonfireModel", "isPlaced", "(I)Z"⟩, 20), (⟨"PotBonfireModel", "isCell", "(I)Z"⟩, 20), (⟨"PotBonfireModel", "isWhole", "(II)Z"⟩, 20), (⟨"PotBonfireModel", "isPot", "(I)Z"⟩, 20), (⟨"PotBonfireModel", "lossOf", "(II)I"⟩, 20), (⟨"PotBonfireModel", "goes", "(II)V"⟩, 20), (⟨"PotBonfireModel", "burns", "(I)V"⟩, 20)]
theorem lw_r5 : ∀ q ∈ lw_privs_5, lw_okq q := List.forall_mem_cons.mpr ⟨lw_p64, List.forall_mem_cons.mpr ⟨lw_p65, List.forall_mem_cons.mpr ⟨lw_p66, List.forall_mem_cons.mpr ⟨lw_p67, List.forall_mem_cons.mpr ⟨lw_p68, List.forall_mem_cons.mpr ⟨lw_p69, List.forall_mem_cons.mpr ⟨lw_p70, List.forall_mem_cons.mpr ⟨lw_p71, List.forall_mem_cons.mpr ⟨lw_p72, List.forall_mem_cons.mpr ⟨lw_p73, List.forall_mem_cons.mpr ⟨lw_p74, List.forall_mem_cons.mpr ⟨lw_p75, List.forall_mem_cons.mpr ⟨lw_p76, List.forall_mem_cons.mpr ⟨lw_p77, List.forall_mem_cons.mpr ⟨lw_p78, List.forall_mem_cons.mpr ⟨lw_p79, fun _ h => absurd h List.not_mem_nil⟩⟩⟩⟩⟩⟩⟩⟩⟩⟩⟩⟩⟩⟩⟩⟩
theorem lw_p80 : lw_okq (⟨"PotBonfireModel", "spreads", "(II)V"⟩, 20) := ⟨⟨by decide +kernel, by decide +kernel⟩, List.mem_of_getElem? (i := 745) (by decide +kernel), List.mem_of_getElem? (i := 915) (by decide +kernel), List.mem_of_getElem? (i := 916) (by decide +kernel)⟩
theorem lw_p81 : lw_okq (⟨"PotBonfireModel", "fires", "(II)V"⟩, 20) := ⟨⟨by decide +kernel, by decide +kernel⟩, List.mem_of_getElem? (i := 745) (by decide +kernel), List.mem_of_getElem? (i := 919) (by decide +kernel), List.mem_of_getElem? (i := 920) (by decide +kernel)⟩
theorem lw_p82 : lw_okq (⟨"PotBonfireModel", "strikes", "(I)V"⟩, 20) := ⟨⟨by decide +kernel, by decide +kernel⟩, List.mem_of_getElem? (i := 745) (by decide +kernel), List.mem_of_getElem? (i := 923) (by decide +kernel), List.mem_of_getElem? (i := 924) (by decide +kernel)⟩
theorem lw_p83 : lw_okq (⟨"PotBonfireModel", "isNear", "(II)Z"⟩, 20) := ⟨⟨by decide +kernel, by decide +kernel⟩, List.mem_of_getElem? (i := 745) (by decide +kernel), List.mem_of_getElem? (i := 927) (by decide +kernel), List.mem_of_getElem? (i := 928) (by decide +kernel)⟩
theorem lw_p84 : lw_okq (⟨"PotBonfireModel", "colours", "(II)V"⟩, 20) := ⟨⟨by decide +kernel, by decide +kernel⟩, List.mem_of_getElem? (i := 745) (by decide +kernel), List.mem_of_getElem? (i := 932) (by decide +kernel), List.mem_of_getElem? (i := 933) (by decide +kernel)⟩
theorem lw_p85 : lw_okq (⟨"PotBonfireModel", "dries", "(II)I"⟩, 20) := ⟨⟨by decide +kernel, by decide +kernel⟩, List.mem_of_getElem? (i := 745) (by decide +kernel), List.mem_of_getElem? (i := 958) (by decide +kernel), List.mem_of_getElem? (i := 959) (by decide +kernel)⟩
theorem lw_p86 : lw_okq (⟨"PotBonfireModel", "tries", "()V"⟩, 20) := ⟨⟨by decide +kernel, by decide +kernel⟩, List.mem_of_getElem? (i := 745) (by decide +kernel), List.mem_of_getElem? (i := 969) (by decide +kernel), List.mem_of_getElem? (i := 970) (by decide +kernel)⟩
theorem lw_p87 : lw_okq (⟨"PotBonfireModel", "copies", "(II)V"⟩, 20) := ⟨⟨by decide +kernel, by decide +kernel⟩, List.mem_of_getElem? (i := 745) (by decide +kernel), List.mem_of_getElem? (i := 973) (by decide +kernel), List.mem_of_getElem? (i := 974) (by decide +kernel)⟩
theorem lw_p88 : lw_okq (⟨"PotBonfireModel", "looks", "()V"⟩, 20) := ⟨⟨by decide +kernel, by decide +kernel⟩, List.mem_of_getElem? (i := 745) (by decide +kernel), List.mem_of_getElem? (i := 977) (by decide +kernel), List.mem_of_getElem? (i := 978) (by decide +kernel)⟩
theorem lw_p89 : lw_okq (⟨"PotBonfireModel", "runs", "(II)I"⟩, 20) := ⟨⟨by decide +kernel, by decide +kernel⟩, List.mem_of_getElem? (i := 745) (by decide +kernel), List.mem_of_getElem? (i := 981) (by decide +kernel), List.mem_of_getElem? (i := 982) (by decide +kernel)⟩
theorem lw_p90 : lw_okq (⟨"PotBonfireModel", "good", "(I)I"⟩, 20) := ⟨⟨by decide +kernel, by decide +kernel⟩, List.mem_of_getElem? (i := 745) (by decide +kernel), List.mem_of_getElem? (i := 985) (by decide +kernel), List.mem_of_getElem? (i := 986) (by decide +kernel)⟩
theorem lw_p91 : lw_okq (⟨"PotBonfireModel", "lossed", "(I)I"⟩, 20) := ⟨⟨by decide +kernel, by decide +kernel⟩, List.mem_of_getElem? (i := 745) (by decide +kernel), List.mem_of_getElem? (i := 989) (by decide +kernel), List.mem_of_getElem? (i := 990) (by decide +kernel)⟩
theorem lw_p92 : lw_okq (⟨"PotBonfireModel", "isWay", "(II)Z"⟩, 20) := ⟨⟨by decide +kernel, by decide +kernel⟩, List.mem_of_getElem? (i := 745) (by decide +kernel), List.mem_of_getElem? (i := 1023) (by decide +kernel), List.mem_of_getElem? (i := 1024) (by decide +kernel)⟩
theorem lw_p93 : lw_okq (⟨"PotBonfireModel", "raked", "(III)I"⟩, 20) := ⟨⟨by decide +kernel, by decide +kernel⟩, List.mem_of_getElem? (i := 745) (by decide +kernel), List.mem_of_getElem? (i := 1031) (by decide +kernel), List.mem_of_getElem? (i := 1032) (by decide +kernel)⟩
theorem lw_p94 : lw_okq (⟨"PotBonfireModel", "evenings", "(II)I"⟩, 20) := ⟨⟨by decide +kernel, by decide +kernel⟩, List.mem_of_getElem? (i := 745) (by decide +kernel), List.mem_of_getElem? (i := 1047) (by decide +kernel), List.mem_of_getElem? (i := 1048) (by decide +kernel)⟩
theorem lw_p95 : lw_okq (⟨"PotBonfireModel", "wind", "(II)I"⟩, 20) := ⟨⟨by decide +kernel, by decide +kernel⟩, List.mem_of_getElem? (i := 745) (by decide +kernel), List.mem_of_getElem? (i := 1051) (by decide +kernel), List.mem_of_getElem? (i := 1052) (by decide +kernel)⟩
def lw_privs_6 : List (MethodName × Nat) := [(⟨"PotBonfireModel", "spreads", "(II)V"⟩, 20), (⟨"PotBonfireModel", "fires", "(II)V"⟩, 20), (⟨"PotBonfireModel", "strikes", "(I)V"⟩, 20), (⟨"PotBonfireModel", "isNear", "(II)Z"⟩, 20), (⟨"PotBonfireModel", "colours", "(II)V"⟩, 20), (⟨"PotBonfireModel", "dries", "(II)I"⟩, 20), (⟨"PotBonfireModel", "tries", "()V"⟩, 20), (⟨"PotBonfireModel", "copies", "(II)V"⟩, 20), (⟨"PotBonfireModel", "looks", "()V"⟩, 20), (⟨"PotBonfireModel", "runs", "(II)I"⟩, 20), (⟨"PotBonfireModel", "good", "(I)I"⟩, 20), (⟨"PotBonfireModel", "lossed", "(I)I"⟩, 20), (⟨"PotBonfireModel", "isWay", "(II)Z"⟩, 20), (⟨"PotBonfireModel", "raked", "(III)I"⟩, 20), (⟨"PotBonfireModel", "evenings", "(II)I"⟩, 20), (⟨"PotBonfireModel", "wind", "(II)I"⟩, 20)]
theorem lw_r6 : ∀ q ∈ lw_privs_6, lw_okq q := List.forall_mem_cons.mpr ⟨lw_p80, List.forall_mem_cons.mpr ⟨lw_p81, List.forall_mem_cons.mpr ⟨lw_p82, List.forall_mem_cons.mpr ⟨lw_p83, List.forall_mem_cons.mpr ⟨lw_p84, List.forall_mem_cons.mpr ⟨lw_p85, List.forall_mem_cons.mpr ⟨lw_p86, List.forall_mem_cons.mpr ⟨lw_p87, List.forall_mem_cons.mpr ⟨lw_p88, List.forall_mem_cons.mpr ⟨lw_p89, List.forall_mem_cons.mpr ⟨lw_p90, List.forall_mem_cons.mpr ⟨lw_p91, List.forall_mem_cons.mpr ⟨lw_p92, List.forall_mem_cons.mpr ⟨lw_p93, List.forall_mem_cons.mpr ⟨lw_p94, List.forall_mem_cons.mpr ⟨lw_p95, fun _ h => absurd h List.not_mem_nil⟩⟩⟩⟩⟩⟩⟩⟩⟩⟩⟩⟩⟩⟩⟩⟩
theorem lw_p96 : lw_okq (⟨"PotBonfireModel", "found", "(II)V"⟩, 20) := ⟨⟨by decide +kernel, by decide +kernel⟩, List.mem_of_getElem? (i := 745) (by decide +kernel), List.mem_of_getElem? (i := 1067) (by decide +kernel), List.mem_of_getElem? (i := 1068) (by decide +kernel)⟩
def lw_privs_7 : List (MethodName × Nat) := [(⟨"PotBonfireModel", "found", "(II)V"⟩, 20)]
theorem lw_r7 : ∀ q ∈ lw_privs_7, lw_okq q := List.forall_mem_cons.mpr ⟨lw_p96, fun _ h => absurd h List.not_mem_nil⟩
def lw_privs : List (MethodName × Nat) := lw_privs_1 ++ (lw_privs_2 ++ (lw_privs_3 ++ (lw_privs_4 ++ (lw_privs_5 ++ (lw_privs_6 ++ (lw_privs_7))))))
def lw_tbl : List Cond := k2_sels lw_privs ++ tables_1
theorem lw_privs_ok : ∀ q ∈ lw_privs, lw_okq q := by
  show ∀ q ∈ lw_privs_1 ++ (lw_privs_2 ++ (lw_privs_3 ++ (lw_privs_4 ++ (lw_privs_5 ++ (lw_privs_6 ++ (lw_privs_7)))))), lw_okq q
  exact List.forall_mem_append.mpr ⟨lw_r1, List.forall_mem_append.mpr ⟨lw_r2, List.forall_mem_append.mpr ⟨lw_r3, List.forall_mem_append.mpr ⟨lw_r4, List.forall_mem_append.mpr ⟨lw_r5, List.forall_mem_append.mpr ⟨lw_r6, lw_r7⟩⟩⟩⟩⟩⟩
def RX0 : String := "PotBonfire$Air"
def TX0 : u_T := fun k => match k with
  | _ => ("PotBonfire$Air", "felt", "[I", true)
def tyX0 : Nat → FieldType := fun k => match k with
  | _ => .array .int
theorem nmX0 : ∀ a, a < 1 → ∀ b, b < 1 → a ≠ b → (TX0 a).2.1 ≠ (TX0 b).2.1 := by decide +kernel
theorem tyX0_ok : ∀ k, k < 1 → parseFieldDescriptor (TX0 k).2.2.1 = some (tyX0 k) := by decide +kernel
abbrev cX0_init : ByteArray := prog_2_method_1_code
def yX0_init : MethodName := ⟨RX0, "<init>", "()V"⟩
abbrev cX0_put : ByteArray := prog_2_method_2_code
def yX0_put : MethodName := ⟨RX0, "put", "(IIIZ)V"⟩
abbrev cX0_heatAt : ByteArray := prog_2_method_3_code
def yX0_heatAt : MethodName := ⟨RX0, "heatAt", "(II)I"⟩
abbrev cX0_blackensAt : ByteArray := prog_2_method_4_code
def yX0_blackensAt : MethodName := ⟨RX0, "blackensAt", "(II)Z"⟩
abbrev cX0_place : ByteArray := prog_2_method_5_code
def yX0_place : MethodName := ⟨RX0, "place", "(II)I"⟩
def RX1 : String := "PotBonfire$Fire"
def TX1 : u_T := fun k => match k with
  | 0 => ("PotBonfire$Fire", "heat", "[I", true)
  | 1 => ("PotBonfire$Fire", "fuel", "[I", true)
  | 2 => ("PotBonfire$Fire", "kind", "[I", true)
  | 3 => ("PotBonfire$Fire", "lit", "[Z", true)
  | 4 => ("PotBonfire$Fire", "covered", "[Z", true)
  | _ => ("PotBonfire$Fire", "gain", "[I", true)
def tyX1 : Nat → FieldType := fun k => match k with
  | 0 => .array .int
  | 1 => .array .int
  | 2 => .array .int
  | 3 => .array .boolean
  | 4 => .array .boolean
  | _ => .array .int
theorem nmX1 : ∀ a, a < 6 → ∀ b, b < 6 → a ≠ b → (TX1 a).2.1 ≠ (TX1 b).2.1 := by decide +kernel
theorem tyX1_ok : ∀ k, k < 6 → parseFieldDescriptor (TX1 k).2.2.1 = some (tyX1 k) := by decide +kernel
abbrev cX1_init : ByteArray := prog_3_method_1_code
def yX1_init : MethodName := ⟨RX1, "<init>", "()V"⟩
abbrev cX1_clear : ByteArray := prog_3_method_2_code
def yX1_clear : MethodName := ⟨RX1, "clear", "()V"⟩
abbrev cX1_copyFrom : ByteArray := prog_3_method_3_code
def yX1_copyFrom : MethodName := ⟨RX1, "copyFrom", "(LPotBonfire$Fire;)V"⟩
abbrev cX1_copyCell : ByteArray := prog_3_method_4_code
def yX1_copyCell : MethodName := ⟨RX1, "copyCell", "(ILPotBonfire$Fire;I)V"⟩
abbrev cX1_burn : ByteArray := prog_3_method_5_code
def yX1_burn : MethodName := ⟨RX1, "burn", "(LPotBonfire$Rules;I)V"⟩
abbrev cX1_burnFuel : ByteArray := prog_3_method_6_code
def yX1_burnFuel : MethodName := ⟨RX1, "burnFuel", "(LPotBonfire$Rules;)V"⟩
abbrev cX1_spread : ByteArray := prog_3_method_7_code
def yX1_spread : MethodName := ⟨RX1, "spread", "(LPotBonfire$Rules;)V"⟩
abbrev cX1_flow : ByteArray := prog_3_method_8_code
def yX1_flow : MethodName := ⟨RX1, "flow", "(II)V"⟩
abbrev cX1_cool : ByteArray := prog_3_method_9_code
def yX1_cool : MethodName := ⟨RX1, "cool", "(LPotBonfire$Rules;I)V"⟩
abbrev cX1_tell : ByteArray := prog_3_method_10_code
def yX1_tell : MethodName := ⟨RX1, "tell", "(LPotBonfire$Air;I)V"⟩
abbrev cX1_shareFuel : ByteArray := prog_3_method_11_code
def yX1_shareFuel : MethodName := ⟨RX1, "shareFuel", "(I)V"⟩
abbrev cX1_rakeOff : ByteArray := prog_3_method_12_code
def yX1_rakeOff : MethodName := ⟨RX1, "rakeOff", "()V"⟩
abbrev cX1_coverAll : ByteArray := prog_3_method_13_code
def yX1_coverAll : MethodName := ⟨RX1, "coverAll", "()V"⟩
def RX2 : String := "PotBonfire$Heap"
def TX2 : u_T := fun k => match k with
  | 0 => ("PotBonfire$Heap", "fire", "LPotBonfire$Fire;", true)
  | 1 => ("PotBonfire$Heap", "pots", "LPotBonfire$Pots;", true)
  | _ => ("PotBonfire$Heap", "gone", "I", false)
def tyX2 : Nat → FieldType := fun k => match k with
  | 0 => .object "PotBonfire$Fire"
  | 1 => .object "PotBonfire$Pots"
  | _ => .int
theorem nmX2 : ∀ a, a < 3 → ∀ b, b < 3 → a ≠ b → (TX2 a).2.1 ≠ (TX2 b).2.1 := by decide +kernel
theorem tyX2_ok : ∀ k, k < 3 → parseFieldDescriptor (TX2 k).2.2.1 = some (tyX2 k) := by decide +kernel
abbrev cX2_init : ByteArray := prog_4_method_1_code
def yX2_init : MethodName := ⟨RX2, "<init>", "()V"⟩
abbrev cX2_copyFrom : ByteArray := prog_4_method_2_code
def yX2_copyFrom : MethodName := ⟨RX2, "copyFrom", "(LPotBonfire$Heap;)V"⟩
abbrev cX2_pass : ByteArray := prog_4_method_3_code
def yX2_pass : MethodName := ⟨RX2, "pass", "(LPotBonfire$Rules;ILPotBonfire$Air;)V"⟩
def RX3 : String := "PotBonfire$Plan"
def TX3 : u_T := fun k => match k with
  | 0 => ("PotBonfire$Plan", "told", "LPotBonfire$Rules;", true)
  | 1 => ("PotBonfire$Plan", "ground", "LPotBonfire$Fire;", true)
  | 2 => ("PotBonfire$Plan", "pots", "LPotBonfire$Pots;", true)
  | 3 => ("PotBonfire$Plan", "potX", "[I", true)
  | 4 => ("PotBonfire$Plan", "potY", "[I", true)
  | _ => ("PotBonfire$Plan", "numbers", "[I", true)
def tyX3 : Nat → FieldType := fun k => match k with
  | 0 => .object "PotBonfire$Rules"
  | 1 => .object "PotBonfire$Fire"
  | 2 => .object "PotBonfire$Pots"
  | 3 => .array .int
  | 4 => .array .int
  | _ => .array .int
theorem nmX3 : ∀ a, a < 6 → ∀ b, b < 6 → a ≠ b → (TX3 a).2.1 ≠ (TX3 b).2.1 := by decide +kernel
theorem tyX3_ok : ∀ k, k < 6 → parseFieldDescriptor (TX3 k).2.2.1 = some (tyX3 k) := by decide +kernel
abbrev cX3_init : ByteArray := prog_5_method_1_code
def yX3_init : MethodName := ⟨RX3, "<init>", "()V"⟩
abbrev cX3_forget : ByteArray := prog_5_method_2_code
def yX3_forget : MethodName := ⟨RX3, "forget", "()V"⟩
abbrev cX3_read : ByteArray := prog_5_method_3_code
def yX3_read : MethodName := ⟨RX3, "read", "([BI)I"⟩
abbrev cX3_readNumbers : ByteArray := prog_5_method_4_code
def yX3_readNumbers : MethodName := ⟨RX3, "readNumbers", "([BII)I"⟩
abbrev cX3_boundsOf : ByteArray := prog_5_method_5_code
def yX3_boundsOf : MethodName := ⟨RX3, "boundsOf", "(B)[I"⟩
abbrev cX3_countFigures : ByteArray := prog_5_method_6_code
def yX3_countFigures : MethodName := ⟨RX3, "countFigures", "([BII)I"⟩
abbrev cX3_numberOf : ByteArray := prog_5_method_7_code
def yX3_numberOf : MethodName := ⟨RX3, "numberOf", "([BII)I"⟩
abbrev cX3_takeItem : ByteArray := prog_5_method_8_code
def yX3_takeItem : MethodName := ⟨RX3, "takeItem", "(B)Z"⟩
abbrev cX3_takeCell : ByteArray := prog_5_method_9_code
def yX3_takeCell : MethodName := ⟨RX3, "takeCell", "()V"⟩
abbrev cX3_takePot : ByteArray := prog_5_method_10_code
def yX3_takePot : MethodName := ⟨RX3, "takePot", "()Z"⟩
abbrev cX3_isLayable : ByteArray := prog_5_method_11_code
def yX3_isLayable : MethodName := ⟨RX3, "isLayable", "()Z"⟩
abbrev cX3_layOn : ByteArray := prog_5_method_12_code
def yX3_layOn : MethodName := ⟨RX3, "layOn", "(LPotBonfire$Rules;LPotBonfire$Heap;)V"⟩
def RX4 : String := "PotBonfire$Pots"
def TX4 : u_T := fun k => match k with
  | 0 => ("PotBonfire$Pots", "count", "I", false)
  | 1 => ("PotBonfire$Pots", "cell", "[I", true)
  | 2 => ("PotBonfire$Pots", "thick", "[I", true)
  | 3 => ("PotBonfire$Pots", "water", "[I", true)
  | 4 => ("PotBonfire$Pots", "grit", "[I", true)
  | 5 => ("PotBonfire$Pots", "strength", "[I", true)
  | 6 => ("PotBonfire$Pots", "warmth", "[I", true)
  | 7 => ("PotBonfire$Pots", "hardened", "[I", true)
  | 8 => ("PotBonfire$Pots", "state", "[I", true)
  | 9 => ("PotBonfire$Pots", "colour", "[I", true)
  | 10 => ("PotBonfire$Pots", "wasHot", "[Z", true)
  | _ => ("PotBonfire$Pots", "burstNow", "[Z", true)
def tyX4 : Nat → FieldType := fun k => match k with
  | 0 => .int
  | 1 => .array .int
  | 2 => .array .int
  | 3 => .array .int
  | 4 => .array .int
  | 5 => .array .int
  | 6 => .array .int
  | 7 => .array .int
  | 8 => .array .int
  | 9 => .array .int
  | 10 => .array .boolean
  | _ => .array .boolean
theorem nmX4 : ∀ a, a < 12 → ∀ b, b < 12 → a ≠ b → (TX4 a).2.1 ≠ (TX4 b).2.1 := by decide +kernel
theorem tyX4_ok : ∀ k, k < 12 → parseFieldDescriptor (TX4 k).2.2.1 = some (tyX4 k) := by decide +kernel
abbrev cX4_init : ByteArray := prog_6_method_1_code
def yX4_init : MethodName := ⟨RX4, "<init>", "()V"⟩
abbrev cX4_copyFrom : ByteArray := prog_6_method_2_code
def yX4_copyFrom : MethodName := ⟨RX4, "copyFrom", "(LPotBonfire$Pots;)V"⟩
abbrev cX4_add : ByteArray := prog_6_method_3_code
def yX4_add : MethodName := ⟨RX4, "add", "([I)V"⟩
abbrev cX4_feel : ByteArray := prog_6_method_4_code
def yX4_feel : MethodName := ⟨RX4, "feel", "(LPotBonfire$Rules;LPotBonfire$Air;I)Z"⟩
abbrev cX4_warm : ByteArray := prog_6_method_5_code
def yX4_warm : MethodName := ⟨RX4, "warm", "(ILPotBonfire$Rules;I)V"⟩
abbrev cX4_isBursting : ByteArray := prog_6_method_6_code
def yX4_isBursting : MethodName := ⟨RX4, "isBursting", "(I)Z"⟩
abbrev cX4_steamAndHarden : ByteArray := prog_6_method_7_code
def yX4_steamAndHarden : MethodName := ⟨RX4, "steamAndHarden", "(ILPotBonfire$Rules;)V"⟩
abbrev cX4_loseWater : ByteArray := prog_6_method_8_code
def yX4_loseWater : MethodName := ⟨RX4, "loseWater", "(II)V"⟩
abbrev cX4_strike : ByteArray := prog_6_method_9_code
def yX4_strike : MethodName := ⟨RX4, "strike", "(LPotBonfire$Rules;)V"⟩
abbrev cX4_isBesideBurst : ByteArray := prog_6_method_10_code
def yX4_isBesideBurst : MethodName := ⟨RX4, "isBesideBurst", "(ILPotBonfire$Rules;)Z"⟩
abbrev cX4_takeColour : ByteArray := prog_6_method_11_code
def yX4_takeColour : MethodName := ⟨RX4, "takeColour", "(IZ)V"⟩
abbrev cX4_dryFor : ByteArray := prog_6_method_12_code
def yX4_dryFor : MethodName := ⟨RX4, "dryFor", "(I)V"⟩
abbrev cX4_allWater : ByteArray := prog_6_method_13_code
def yX4_allWater : MethodName := ⟨RX4, "allWater", "()I"⟩
abbrev cX4_lossOf : ByteArray := prog_6_method_14_code
def yX4_lossOf : MethodName := ⟨RX4, "lossOf", "(ILPotBonfire$Rules;)I"⟩
abbrev cX4_countGood : ByteArray := prog_6_method_15_code
def yX4_countGood : MethodName := ⟨RX4, "countGood", "(LPotBonfire$Rules;)I"⟩
abbrev cX4_countLost : ByteArray := prog_6_method_16_code
def yX4_countLost : MethodName := ⟨RX4, "countLost", "()I"⟩
abbrev cX4_countWhole : ByteArray := prog_6_method_17_code
def yX4_countWhole : MethodName := ⟨RX4, "countWhole", "()I"⟩
abbrev cX4_wholeIn : ByteArray := prog_6_method_18_code
def yX4_wholeIn : MethodName := ⟨RX4, "wholeIn", "(I)I"⟩
abbrev cX4_anyTwoInOne : ByteArray := prog_6_method_19_code
def yX4_anyTwoInOne : MethodName := ⟨RX4, "anyTwoInOne", "()Z"⟩
def RX5 : String := "PotBonfire$Rules"
def TX5 : u_T := fun k => match k with
  | 0 => ("PotBonfire$Rules", "wide", "I", false)
  | 1 => ("PotBonfire$Rules", "high", "I", false)
  | 2 => ("PotBonfire$Rules", "burns", "[I", true)
  | 3 => ("PotBonfire$Rules", "gives", "[I", true)
  | 4 => ("PotBonfire$Rules", "cools", "I", false)
  | 5 => ("PotBonfire$Rules", "hardensFrom", "I", false)
  | 6 => ("PotBonfire$Rules", "hardensFor", "I", false)
  | 7 => ("PotBonfire$Rules", "duntsAbove", "I", false)
  | 8 => ("PotBonfire$Rules", "splitsAbove", "I", false)
  | _ => ("PotBonfire$Rules", "windMost", "I", false)
def tyX5 : Nat → FieldType := fun k => match k with
  | 0 => .int
  | 1 => .int
  | 2 => .array .int
  | 3 => .array .int
  | 4 => .int
  | 5 => .int
  | 6 => .int
  | 7 => .int
  | 8 => .int
  | _ => .int
theorem nmX5 : ∀ a, a < 10 → ∀ b, b < 10 → a ≠ b → (TX5 a).2.1 ≠ (TX5 b).2.1 := by decide +kernel
theorem tyX5_ok : ∀ k, k < 10 → parseFieldDescriptor (TX5 k).2.2.1 = some (tyX5 k) := by decide +kernel
abbrev cX5_init : ByteArray := prog_7_method_1_code
def yX5_init : MethodName := ⟨RX5, "<init>", "()V"⟩
abbrev cX5_setDefaults : ByteArray := prog_7_method_2_code
def yX5_setDefaults : MethodName := ⟨RX5, "setDefaults", "()V"⟩
abbrev cX5_setKind : ByteArray := prog_7_method_3_code
def yX5_setKind : MethodName := ⟨RX5, "setKind", "(III)V"⟩
abbrev cX5_copyFrom : ByteArray := prog_7_method_4_code
def yX5_copyFrom : MethodName := ⟨RX5, "copyFrom", "(LPotBonfire$Rules;)V"⟩
abbrev cX5_cells : ByteArray := prog_7_method_5_code
def yX5_cells : MethodName := ⟨RX5, "cells", "()I"⟩
abbrev cX5_areBeside : ByteArray := prog_7_method_6_code
def yX5_areBeside : MethodName := ⟨RX5, "areBeside", "(II)Z"⟩
abbrev cX5_drawnWind : ByteArray := prog_7_method_7_code
def yX5_drawnWind : MethodName := ⟨RX5, "drawnWind", "(II)I"⟩
def RX6 : String := "PotBonfire$Tally"
def TX6 : u_T := fun k => match k with
  | 0 => ("PotBonfire$Tally", "runs", "I", false)
  | 1 => ("PotBonfire$Tally", "leastWater", "I", false)
  | 2 => ("PotBonfire$Tally", "mostWater", "I", false)
  | 3 => ("PotBonfire$Tally", "leastMinutes", "I", false)
  | _ => ("PotBonfire$Tally", "mostMinutes", "I", false)
def tyX6 : Nat → FieldType := fun k => match k with
  | 0 => .int
  | 1 => .int
  | 2 => .int
  | 3 => .int
  | _ => .int
theorem nmX6 : ∀ a, a < 5 → ∀ b, b < 5 → a ≠ b → (TX6 a).2.1 ≠ (TX6 b).2.1 := by decide +kernel
theorem tyX6_ok : ∀ k, k < 5 → parseFieldDescriptor (TX6 k).2.2.1 = some (tyX6 k) := by decide +kernel
abbrev cX6_init : ByteArray := prog_8_method_1_code
def yX6_init : MethodName := ⟨RX6, "<init>", "()V"⟩
abbrev cX6_clear : ByteArray := prog_8_method_2_code
def yX6_clear : MethodName := ⟨RX6, "clear", "()V"⟩
abbrev cX6_add : ByteArray := prog_8_method_3_code
def yX6_add : MethodName := ⟨RX6, "add", "(II)V"⟩
abbrev cX6_told : ByteArray := prog_8_method_4_code
def yX6_told : MethodName := ⟨RX6, "told", "(I)I"⟩
def RX7 : String := "PotBonfire"
def TX7 : u_T := fun k => match k with
  | 0 => ("PotBonfire", "text", "[B", true)
  | 1 => ("PotBonfire", "textLength", "I", false)
  | 2 => ("PotBonfire", "plan", "LPotBonfire$Plan;", true)
  | 3 => ("PotBonfire", "rules", "LPotBonfire$Rules;", true)
  | 4 => ("PotBonfire", "heap", "LPotBonfire$Heap;", true)
  | 5 => ("PotBonfire", "stage", "LPotBonfire$Heap;", true)
  | 6 => ("PotBonfire", "trial", "LPotBonfire$Heap;", true)
  | 7 => ("PotBonfire", "firstKept", "LPotBonfire$Heap;", true)
  | 8 => ("PotBonfire", "secondKept", "LPotBonfire$Heap;", true)
  | 9 => ("PotBonfire", "keptCount", "I", false)
  | 10 => ("PotBonfire", "spots", "[I", true)
  | 11 => ("PotBonfire", "spotCount", "I", false)
  | 12 => ("PotBonfire", "air", "LPotBonfire$Air;", true)
  | _ => ("PotBonfire", "tally", "LPotBonfire$Tally;", true)
def tyX7 : Nat → FieldType := fun k => match k with
  | 0 => .array .byte
  | 1 => .int
  | 2 => .object "PotBonfire$Plan"
  | 3 => .object "PotBonfire$Rules"
  | 4 => .object "PotBonfire$Heap"
  | 5 => .object "PotBonfire$Heap"
  | 6 => .object "PotBonfire$Heap"
  | 7 => .object "PotBonfire$Heap"
  | 8 => .object "PotBonfire$Heap"
  | 9 => .int
  | 10 => .array .int
  | 11 => .int
  | 12 => .object "PotBonfire$Air"
  | _ => .object "PotBonfire$Tally"
theorem nmX7 : ∀ a, a < 14 → ∀ b, b < 14 → a ≠ b → (TX7 a).2.1 ≠ (TX7 b).2.1 := by decide +kernel
theorem tyX7_ok : ∀ k, k < 14 → parseFieldDescriptor (TX7 k).2.2.1 = some (tyX7 k) := by decide +kernel
abbrev cX7_init : ByteArray := prog_1_method_1_code
def yX7_init : MethodName := ⟨RX7, "<init>", "()V"⟩
abbrev cX7_write : ByteArray := prog_1_method_2_code
def yX7_write : MethodName := ⟨RX7, "write", "(IJ)I"⟩
abbrev cX7_wipe : ByteArray := prog_1_method_3_code
def yX7_wipe : MethodName := ⟨RX7, "wipe", "()I"⟩
abbrev cX7_fault : ByteArray := prog_1_method_4_code
def yX7_fault : MethodName := ⟨RX7, "fault", "()I"⟩
abbrev cX7_lay : ByteArray := prog_1_method_5_code
def yX7_lay : MethodName := ⟨RX7, "lay", "()I"⟩
abbrev cX7_cell : ByteArray := prog_1_method_6_code
def yX7_cell : MethodName := ⟨RX7, "cell", "(II)I"⟩
abbrev cX7_pot : ByteArray := prog_1_method_7_code
def yX7_pot : MethodName := ⟨RX7, "pot", "(II)I"⟩
abbrev cX7_minute : ByteArray := prog_1_method_8_code
def yX7_minute : MethodName := ⟨RX7, "minute", "(I)I"⟩
abbrev cX7_fuel : ByteArray := prog_1_method_9_code
def yX7_fuel : MethodName := ⟨RX7, "fuel", "(II)I"⟩
abbrev cX7_cover : ByteArray := prog_1_method_10_code
def yX7_cover : MethodName := ⟨RX7, "cover", "(IZ)I"⟩
abbrev cX7_light : ByteArray := prog_1_method_11_code
def yX7_light : MethodName := ⟨RX7, "light", "(I)I"⟩
abbrev cX7_take : ByteArray := prog_1_method_12_code
def yX7_take : MethodName := ⟨RX7, "take", "(I)I"⟩
abbrev cX7_dry : ByteArray := prog_1_method_13_code
def yX7_dry : MethodName := ⟨RX7, "dry", "(I)I"⟩
abbrev cX7_run : ByteArray := prog_1_method_14_code
def yX7_run : MethodName := ⟨RX7, "run", "(III)I"⟩
abbrev cX7_of : ByteArray := prog_1_method_15_code
def yX7_of : MethodName := ⟨RX7, "of", "(IIII)I"⟩
abbrev cX7_drying : ByteArray := prog_1_method_16_code
def yX7_drying : MethodName := ⟨RX7, "drying", "(II)I"⟩
abbrev cX7_grit : ByteArray := prog_1_method_17_code
def yX7_grit : MethodName := ⟨RX7, "grit", "(III)I"⟩
abbrev cX7_enough : ByteArray := prog_1_method_18_code
def yX7_enough : MethodName := ⟨RX7, "enough", "(III)I"⟩
abbrev cX7_spot : ByteArray := prog_1_method_19_code
def yX7_spot : MethodName := ⟨RX7, "spot", "(I)I"⟩
abbrev cX7_noSpots : ByteArray := prog_1_method_20_code
def yX7_noSpots : MethodName := ⟨RX7, "noSpots", "()I"⟩
abbrev cX7_lies : ByteArray := prog_1_method_21_code
def yX7_lies : MethodName := ⟨RX7, "lies", "(IIII)I"⟩
abbrev cX7_rake : ByteArray := prog_1_method_22_code
def yX7_rake : MethodName := ⟨RX7, "rake", "(II)I"⟩
abbrev cX7_black : ByteArray := prog_1_method_23_code
def yX7_black : MethodName := ⟨RX7, "black", "(III)I"⟩
abbrev cX7_evening : ByteArray := prog_1_method_24_code
def yX7_evening : MethodName := ⟨RX7, "evening", "(II)I"⟩
abbrev cX7_ten : ByteArray := prog_1_method_25_code
def yX7_ten : MethodName := ⟨RX7, "ten", "(III)I"⟩
abbrev cX7_sherd : ByteArray := prog_1_method_26_code
def yX7_sherd : MethodName := ⟨RX7, "sherd", "(IIII)I"⟩
abbrev cX7_keep : ByteArray := prog_1_method_27_code
def yX7_keep : MethodName := ⟨RX7, "keep", "()I"⟩
abbrev cX7_back : ByteArray := prog_1_method_28_code
def yX7_back : MethodName := ⟨RX7, "back", "()I"⟩
abbrev cX7_count : ByteArray := prog_1_method_29_code
def yX7_count : MethodName := ⟨RX7, "count", "(I)I"⟩
abbrev cX7_isCell : ByteArray := prog_1_method_30_code
def yX7_isCell : MethodName := ⟨RX7, "isCell", "(I)Z"⟩
abbrev cX7_isPot : ByteArray := prog_1_method_31_code
def yX7_isPot : MethodName := ⟨RX7, "isPot", "(I)Z"⟩
abbrev cX7_isWind : ByteArray := prog_1_method_32_code
def yX7_isWind : MethodName := ⟨RX7, "isWind", "(I)Z"⟩
abbrev cX7_isLength : ByteArray := prog_1_method_33_code
def yX7_isLength : MethodName := ⟨RX7, "isLength", "(I)Z"⟩
abbrev cX7_isRun : ByteArray := prog_1_method_34_code
def yX7_isRun : MethodName := ⟨RX7, "isRun", "(II)Z"⟩
abbrev cX7_isDraw : ByteArray := prog_1_method_35_code
def yX7_isDraw : MethodName := ⟨RX7, "isDraw", "(I)Z"⟩
abbrev cX7_oneIf : ByteArray := prog_1_method_36_code
def yX7_oneIf : MethodName := ⟨RX7, "oneIf", "(Z)I"⟩
abbrev cX7_keptAt : ByteArray := prog_1_method_37_code
def yX7_keptAt : MethodName := ⟨RX7, "keptAt", "(I)LPotBonfire$Heap;"⟩
abbrev cX7_tryRun : ByteArray := prog_1_method_38_code
def yX7_tryRun : MethodName := ⟨RX7, "tryRun", "(II)V"⟩
abbrev cX7_tryEvening : ByteArray := prog_1_method_39_code
def yX7_tryEvening : MethodName := ⟨RX7, "tryEvening", "(II)V"⟩
abbrev cX7_burnAfresh : ByteArray := prog_1_method_40_code
def yX7_burnAfresh : MethodName := ⟨RX7, "burnAfresh", "(II)V"⟩
abbrev cX7_goOn : ByteArray := prog_1_method_41_code
def yX7_goOn : MethodName := ⟨RX7, "goOn", "(III)V"⟩
abbrev cX7_burnFire : ByteArray := prog_1_method_42_code
def yX7_burnFire : MethodName := ⟨RX7, "burnFire", "(III)V"⟩
abbrev cX7_passPots : ByteArray := prog_1_method_43_code
def yX7_passPots : MethodName := ⟨RX7, "passPots", "(II)V"⟩
abbrev cX7_anyBursts : ByteArray := prog_1_method_44_code
def yX7_anyBursts : MethodName := ⟨RX7, "anyBursts", "(I)Z"⟩
abbrev cX7_greatestHeat : ByteArray := prog_1_method_45_code
def yX7_greatestHeat : MethodName := ⟨RX7, "greatestHeat", "(II)I"⟩
abbrev cX7_countWays : ByteArray := prog_1_method_46_code
def yX7_countWays : MethodName := ⟨RX7, "countWays", "(I)I"⟩
abbrev cX7_spotInWay : ByteArray := prog_1_method_47_code
def yX7_spotInWay : MethodName := ⟨RX7, "spotInWay", "(III)I"⟩
abbrev cX7_layWay : ByteArray := prog_1_method_48_code
def yX7_layWay : MethodName := ⟨RX7, "layWay", "(II)Z"⟩
def RX8 : String := "PotBonfireModel"
def TX8 : u_T := fun k => match k with
  | 0 => ("PotBonfireModel", "length", "I", false)
  | 1 => ("PotBonfireModel", "text", "[B", true)
  | 2 => ("PotBonfireModel", "at", "I", false)
  | 3 => ("PotBonfireModel", "told", "[I", true)
  | 4 => ("PotBonfireModel", "pots", "[I", true)
  | 5 => ("PotBonfireModel", "thick", "[I", true)
  | 6 => ("PotBonfireModel", "strong", "[I", true)
  | 7 => ("PotBonfireModel", "read", "[I", true)
  | 8 => ("PotBonfireModel", "ground", "[I", true)
  | 9 => ("PotBonfireModel", "row", "[I", true)
  | 10 => ("PotBonfireModel", "kept", "I", false)
  | 11 => ("PotBonfireModel", "spots", "I", false)
  | 12 => ("PotBonfireModel", "spot", "[I", true)
  | 13 => ("PotBonfireModel", "over", "[I", true)
  | 14 => ("PotBonfireModel", "most", "[I", true)
  | 15 => ("PotBonfireModel", "burst", "[Z", true)
  | 16 => ("PotBonfireModel", "way", "[I", true)
  | 17 => ("PotBonfireModel", "bestWay", "[I", true)
  | 18 => ("PotBonfireModel", "shard", "[I", true)
  | _ => ("PotBonfireModel", "got", "[I", true)
def tyX8 : Nat → FieldType := fun k => match k with
  | 0 => .int
  | 1 => .array .byte
  | 2 => .int
  | 3 => .array .int
  | 4 => .array .int
  | 5 => .array .int
  | 6 => .array .int
  | 7 => .array .int
  | 8 => .array .int
  | 9 => .array .int
  | 10 => .int
  | 11 => .int
  | 12 => .array .int
  | 13 => .array .int
  | 14 => .array .int
  | 15 => .array .boolean
  | 16 => .array .int
  | 17 => .array .int
  | 18 => .array .int
  | _ => .array .int
theorem nmX8 : ∀ a, a < 20 → ∀ b, b < 20 → a ≠ b → (TX8 a).2.1 ≠ (TX8 b).2.1 := by decide +kernel
theorem tyX8_ok : ∀ k, k < 20 → parseFieldDescriptor (TX8 k).2.2.1 = some (tyX8 k) := by decide +kernel
abbrev cX8_init : ByteArray := prog_10_method_1_code
def yX8_init : MethodName := ⟨RX8, "<init>", "()V"⟩
abbrev cX8_in : ByteArray := prog_10_method_2_code
def yX8_in : MethodName := ⟨RX8, "in", "(JJJ)Z"⟩
abbrev cX8_write : ByteArray := prog_10_method_3_code
def yX8_write : MethodName := ⟨RX8, "write", "(IJ)I"⟩
abbrev cX8_wipe : ByteArray := prog_10_method_4_code
def yX8_wipe : MethodName := ⟨RX8, "wipe", "()I"⟩
abbrev cX8_number : ByteArray := prog_10_method_5_code
def yX8_number : MethodName := ⟨RX8, "number", "()I"⟩
abbrev cX8_parts : ByteArray := prog_10_method_6_code
def yX8_parts : MethodName := ⟨RX8, "parts", "(I)I"⟩
abbrev cX8_isIn : ByteArray := prog_10_method_7_code
def yX8_isIn : MethodName := ⟨RX8, "isIn", "(III)Z"⟩
abbrev cX8_isItem : ByteArray := prog_10_method_8_code
def yX8_isItem : MethodName := ⟨RX8, "isItem", "()Z"⟩
abbrev cX8_isGood : ByteArray := prog_10_method_9_code
def yX8_isGood : MethodName := ⟨RX8, "isGood", "(I)Z"⟩
abbrev cX8_isPlaced : ByteArray := prog_10_method_10_code
def yX8_isPlaced : MethodName := ⟨RX8, "isPlaced", "(I)Z"⟩
abbrev cX8_begins : ByteArray := prog_10_method_11_code
def yX8_begins : MethodName := ⟨RX8, "begins", "()V"⟩
abbrev cX8_takes : ByteArray := prog_10_method_12_code
def yX8_takes : MethodName := ⟨RX8, "takes", "()V"⟩
abbrev cX8_fault : ByteArray := prog_10_method_13_code
def yX8_fault : MethodName := ⟨RX8, "fault", "()I"⟩
abbrev cX8_lay : ByteArray := prog_10_method_14_code
def yX8_lay : MethodName := ⟨RX8, "lay", "()I"⟩
abbrev cX8_cells : ByteArray := prog_10_method_15_code
def yX8_cells : MethodName := ⟨RX8, "cells", "()I"⟩
abbrev cX8_isCell : ByteArray := prog_10_method_16_code
def yX8_isCell : MethodName := ⟨RX8, "isCell", "(I)Z"⟩
abbrev cX8_isPot : ByteArray := prog_10_method_17_code
def yX8_isPot : MethodName := ⟨RX8, "isPot", "(I)Z"⟩
abbrev cX8_copies : ByteArray := prog_10_method_18_code
def yX8_copies : MethodName := ⟨RX8, "copies", "(II)V"⟩
abbrev cX8_potAt : ByteArray := prog_10_method_19_code
def yX8_potAt : MethodName := ⟨RX8, "potAt", "(II)I"⟩
abbrev cX8_isWhole : ByteArray := prog_10_method_20_code
def yX8_isWhole : MethodName := ⟨RX8, "isWhole", "(II)Z"⟩
abbrev cX8_lossOf : ByteArray := prog_10_method_21_code
def yX8_lossOf : MethodName := ⟨RX8, "lossOf", "(II)I"⟩
abbrev cX8_cell : ByteArray := prog_10_method_22_code
def yX8_cell : MethodName := ⟨RX8, "cell", "(II)I"⟩
abbrev cX8_pot : ByteArray := prog_10_method_23_code
def yX8_pot : MethodName := ⟨RX8, "pot", "(II)I"⟩
abbrev cX8_burns : ByteArray := prog_10_method_24_code
def yX8_burns : MethodName := ⟨RX8, "burns", "(I)V"⟩
abbrev cX8_spreads : ByteArray := prog_10_method_25_code
def yX8_spreads : MethodName := ⟨RX8, "spreads", "(II)V"⟩
abbrev cX8_fires : ByteArray := prog_10_method_26_code
def yX8_fires : MethodName := ⟨RX8, "fires", "(II)V"⟩
abbrev cX8_isNear : ByteArray := prog_10_method_27_code
def yX8_isNear : MethodName := ⟨RX8, "isNear", "(II)Z"⟩
abbrev cX8_strikes : ByteArray := prog_10_method_28_code
def yX8_strikes : MethodName := ⟨RX8, "strikes", "(I)V"⟩
abbrev cX8_colours : ByteArray := prog_10_method_29_code
def yX8_colours : MethodName := ⟨RX8, "colours", "(II)V"⟩
abbrev cX8_goes : ByteArray := prog_10_method_30_code
def yX8_goes : MethodName := ⟨RX8, "goes", "(II)V"⟩
abbrev cX8_isWind : ByteArray := prog_10_method_31_code
def yX8_isWind : MethodName := ⟨RX8, "isWind", "(I)Z"⟩
abbrev cX8_minute : ByteArray := prog_10_method_32_code
def yX8_minute : MethodName := ⟨RX8, "minute", "(I)I"⟩
abbrev cX8_fuel : ByteArray := prog_10_method_33_code
def yX8_fuel : MethodName := ⟨RX8, "fuel", "(II)I"⟩
abbrev cX8_cover : ByteArray := prog_10_method_34_code
def yX8_cover : MethodName := ⟨RX8, "cover", "(IZ)I"⟩
abbrev cX8_light : ByteArray := prog_10_method_35_code
def yX8_light : MethodName := ⟨RX8, "light", "(I)I"⟩
abbrev cX8_take : ByteArray := prog_10_method_36_code
def yX8_take : MethodName := ⟨RX8, "take", "(I)I"⟩
abbrev cX8_dries : ByteArray := prog_10_method_37_code
def yX8_dries : MethodName := ⟨RX8, "dries", "(II)I"⟩
abbrev cX8_dry : ByteArray := prog_10_method_38_code
def yX8_dry : MethodName := ⟨RX8, "dry", "(I)I"⟩
abbrev cX8_looks : ByteArray := prog_10_method_39_code
def yX8_looks : MethodName := ⟨RX8, "looks", "()V"⟩
abbrev cX8_runs : ByteArray := prog_10_method_40_code
def yX8_runs : MethodName := ⟨RX8, "runs", "(II)I"⟩
abbrev cX8_good : ByteArray := prog_10_method_41_code
def yX8_good : MethodName := ⟨RX8, "good", "(I)I"⟩
abbrev cX8_tries : ByteArray := prog_10_method_42_code
def yX8_tries : MethodName := ⟨RX8, "tries", "()V"⟩
abbrev cX8_isRun : ByteArray := prog_10_method_43_code
def yX8_isRun : MethodName := ⟨RX8, "isRun", "(II)Z"⟩
abbrev cX8_lossed : ByteArray := prog_10_method_44_code
def yX8_lossed : MethodName := ⟨RX8, "lossed", "(I)I"⟩
abbrev cX8_run : ByteArray := prog_10_method_45_code
def yX8_run : MethodName := ⟨RX8, "run", "(III)I"⟩
abbrev cX8_of : ByteArray := prog_10_method_46_code
def yX8_of : MethodName := ⟨RX8, "of", "(IIII)I"⟩
abbrev cX8_drying : ByteArray := prog_10_method_47_code
def yX8_drying : MethodName := ⟨RX8, "drying", "(II)I"⟩
abbrev cX8_grit : ByteArray := prog_10_method_48_code
def yX8_grit : MethodName := ⟨RX8, "grit", "(III)I"⟩
abbrev cX8_enough : ByteArray := prog_10_method_49_code
def yX8_enough : MethodName := ⟨RX8, "enough", "(III)I"⟩
abbrev cX8_spot : ByteArray := prog_10_method_50_code
def yX8_spot : MethodName := ⟨RX8, "spot", "(I)I"⟩
abbrev cX8_noSpots : ByteArray := prog_10_method_51_code
def yX8_noSpots : MethodName := ⟨RX8, "noSpots", "()I"⟩
abbrev cX8_isWay : ByteArray := prog_10_method_52_code
def yX8_isWay : MethodName := ⟨RX8, "isWay", "(II)Z"⟩
abbrev cX8_lies : ByteArray := prog_10_method_53_code
def yX8_lies : MethodName := ⟨RX8, "lies", "(IIII)I"⟩
abbrev cX8_rake : ByteArray := prog_10_method_54_code
def yX8_rake : MethodName := ⟨RX8, "rake", "(II)I"⟩
abbrev cX8_raked : ByteArray := prog_10_method_55_code
def yX8_raked : MethodName := ⟨RX8, "raked", "(III)I"⟩
abbrev cX8_black : ByteArray := prog_10_method_56_code
def yX8_black : MethodName := ⟨RX8, "black", "(III)I"⟩
abbrev cX8_wind : ByteArray := prog_10_method_57_code
def yX8_wind : MethodName := ⟨RX8, "wind", "(II)I"⟩
abbrev cX8_evenings : ByteArray := prog_10_method_58_code
def yX8_evenings : MethodName := ⟨RX8, "evenings", "(II)I"⟩
abbrev cX8_isEvening : ByteArray := prog_10_method_59_code
def yX8_isEvening : MethodName := ⟨RX8, "isEvening", "(II)Z"⟩
abbrev cX8_evening : ByteArray := prog_10_method_60_code
def yX8_evening : MethodName := ⟨RX8, "evening", "(II)I"⟩
abbrev cX8_ten : ByteArray := prog_10_method_61_code
def yX8_ten : MethodName := ⟨RX8, "ten", "(III)I"⟩
abbrev cX8_sherd : ByteArray := prog_10_method_62_code
def yX8_sherd : MethodName := ⟨RX8, "sherd", "(IIII)I"⟩
abbrev cX8_found : ByteArray := prog_10_method_63_code
def yX8_found : MethodName := ⟨RX8, "found", "(II)V"⟩
abbrev cX8_keep : ByteArray := prog_10_method_64_code
def yX8_keep : MethodName := ⟨RX8, "keep", "()I"⟩
abbrev cX8_back : ByteArray := prog_10_method_65_code
def yX8_back : MethodName := ⟨RX8, "back", "()I"⟩
abbrev cX8_count : ByteArray := prog_10_method_66_code
def yX8_count : MethodName := ⟨RX8, "count", "(I)I"⟩
def RJ9 : String := "java/lang/Math"
abbrev cJ9_max_7cf53 : ByteArray := prog_11_method_65_code
def yJ9_max_7cf53 : MethodName := ⟨RJ9, "max", "(II)I"⟩
abbrev cJ9_min_7cf53 : ByteArray := prog_11_method_69_code
def yJ9_min_7cf53 : MethodName := ⟨RJ9, "min", "(II)I"⟩
def RJ7 : String := "java/util/Arrays"
abbrev cJ7_fill_53178 : ByteArray := prog_12_method_103_code
def yJ7_fill_53178 : MethodName := ⟨RJ7, "fill", "([II)V"⟩
def RL : String := "PotBonfireLaw"
abbrev cL_law : ByteArray := code
def yL_law : MethodName := ⟨RL, "law", "([I)Z"⟩
abbrev vwCl : List vw_C := [(RX0, TX0, 1), (RX1, TX1, 6), (RX2, TX2, 3), (RX3, TX3, 6), (RX4, TX4, 12), (RX5, TX5, 10), (RX6, TX6, 5), (RX7, TX7, 14), (RX8, TX8, 20)]

/-- the good words of the tables -/
def kw : List Cond := lw_tbl.filter goodWord
theorem kw_w {w : Cond} (i : Nat) (hp : lw_tbl[i]? = some w) (hg : goodWord w = true) : w ∈ kw := List.mem_filter.mpr ⟨List.mem_of_getElem? hp, hg⟩
theorem kw_in (ws : List Cond) (ps : List Nat) (hp : ws = ps.filterMap (fun i => lw_tbl[i]?)) (hg : ws.all goodWord = true) : ∀ w ∈ ws, w ∈ kw := by
  intro w hw
  have h1 := List.all_eq_true.mp hg w hw
  rw [hp] at hw
  obtain ⟨i, -, hi⟩ := List.mem_filterMap.mp hw
  exact List.mem_filter.mpr ⟨List.mem_of_getElem? hi, h1⟩
theorem kw_good : GoodIn kw kw := fun w hw => ⟨hw, good_of_word (List.mem_filter.mp hw).2⟩
theorem kw_of {P : Cond → Prop} (h : ∀ w ∈ lw_tbl, P w) : ∀ w ∈ kw, P w := fun w hw => h w (List.mem_filter.mp hw).1
theorem kw_X0 : ∀ w ∈ u_ws RX0 TX0 1, w ∈ kw := kw_in _ [338] (by decide +kernel) (by decide +kernel)
theorem kw_X1 : ∀ w ∈ u_ws RX1 TX1 6, w ∈ kw := kw_in _ [208, 210, 212, 214, 216, 218] (by decide +kernel) (by decide +kernel)
theorem kw_X2 : ∀ w ∈ u_ws RX2 TX2 3, w ∈ kw := kw_in _ [324, 326, 328] (by decide +kernel) (by decide +kernel)
theorem kw_X3 : ∀ w ∈ u_ws RX3 TX3 6, w ∈ kw := kw_in _ [290, 292, 294, 296, 298, 300] (by decide +kernel) (by decide +kernel)
theorem kw_X4 : ∀ w ∈ u_ws RX4 TX4 12, w ∈ kw := kw_in _ [250, 252, 254, 256, 258, 260, 262, 264, 266, 268, 270, 272] (by decide +kernel) (by decide +kernel)
theorem kw_X5 : ∀ w ∈ u_ws RX5 TX5 10, w ∈ kw := kw_in _ [164, 166, 168, 170, 172, 174, 176, 178, 180, 182] (by decide +kernel) (by decide +kernel)
theorem kw_X6 : ∀ w ∈ u_ws RX6 TX6 5, w ∈ kw := kw_in _ [352, 354, 356, 358, 360] (by decide +kernel) (by decide +kernel)
theorem kw_X7 : ∀ w ∈ u_ws RX7 TX7 14, w ∈ kw := kw_in _ [393, 395, 397, 399, 401, 403, 405, 407, 409, 411, 413, 415, 417, 419] (by decide +kernel) (by decide +kernel)
theorem kw_X8 : ∀ w ∈ u_ws RX8 TX8 20, w ∈ kw := kw_in _ [879, 881, 883, 885, 887, 889, 891, 893, 895, 897, 899, 901, 903, 905, 907, 909, 911, 913, 915, 917] (by decide +kernel) (by decide +kernel)
/-- the words of private methods called by a nest mate, by their places -/
def kw_nest : List (String × Nat × MethodName × String) := [(RX3, 20, yX1_init, RX7), (RX3, 27, yX4_init, RX7), (RX3, 45, yX5_setDefaults, RX7), (RX3, 48, yX1_clear, RX7), (RX7, 33, yX2_init, RX7), (RX2, 9, yX1_init, RX7), (RX2, 18, yX4_init, RX7), (RX7, 62, yX0_init, RX7), (RX7, 69, yX6_init, RX7), (RX7, 74, yX3_layOn, RX7), (RX3, 161, yX5_copyFrom, RX7), (RX3, 170, yX1_copyCell, RX7), (RX3, 175, yX4_copyFrom, RX7), (RX7, 78, yX3_read, RX7), (RX3, 151, yX4_add, RX7), (RX3, 123, yX5_setKind, RX7), (RX7, 82, yX3_isLayable, RX7), (RX3, 158, yX4_anyTwoInOne, RX7), (RX7, 86, yX5_cells, RX7), (RX7, 124, yX4_wholeIn, RX7), (RX7, 145, yX4_lossOf, RX7), (RX7, 155, yX2_pass, RX7), (RX2, 34, yX1_burn, RX7), (RX1, 46, yX5_cells, RX7), (RX2, 38, yX1_tell, RX7), (RX1, 84, yX0_put, RX7), (RX0, 19, yX7_oneIf, RX7), (RX2, 42, yX4_feel, RX7), (RX4, 50, yX0_heatAt, RX7), (RX4, 107, yX5_areBeside, RX7), (RX4, 64, yX0_blackensAt, RX7), (RX7, 159, yX4_countWhole, RX7), (RX7, 165, yX4_dryFor, RX7), (RX7, 169, yX4_allWater, RX7), (RX7, 272, yX1_copyFrom, RX7), (RX7, 264, yX1_burn, RX7), (RX7, 268, yX1_tell, RX7), (RX7, 194, yX4_copyFrom, RX7), (RX7, 278, yX4_feel, RX7), (RX7, 180, yX4_countGood, RX7), (RX7, 184, yX4_countLost, RX7), (RX7, 282, yX0_heatAt, RX7), (RX7, 207, yX2_copyFrom, RX7), (RX2, 27, yX1_copyFrom, RX7), (RX2, 31, yX4_copyFrom, RX7), (RX7, 210, yX1_shareFuel, RX7), (RX7, 290, yX4_anyTwoInOne, RX7), (RX7, 230, yX1_rakeOff, RX7), (RX7, 233, yX1_coverAll, RX7), (RX7, 261, yX5_drawnWind, RX7), (RX7, 245, yX6_clear, RX7), (RX7, 248, yX6_add, RX7), (RX7, 251, yX6_told, RX7)]
theorem kw_nest_in : kw_nest.map (fun q => Cond.methodLinkNest q.1 q.2.1 q.2.2.1 q.2.2.2) = [189, 224, 279, 280, 307, 312, 314, 333, 343, 363, 367, 371, 375, 434, 483, 487, 492, 496, 500, 515, 527, 538, 542, 550, 569, 573, 580, 581, 585, 614, 618, 626, 650, 654, 676, 685, 686, 687, 692, 693, 698, 710, 730, 734, 735, 736, 768, 773, 781, 796, 811, 815, 821].filterMap (fun i => lw_tbl[i]?) := by decide +kernel
end
section
/-! values, tags, the world as a function, and the judgement V over it -/
abbrev kT : Type := Nat × Nat
abbrev kV : Type := Int32 ⊕ (Int64 ⊕ (kT × Nat))
abbrev kH : Type := Nat → Nat → Int32
abbrev iv (x : Int32) : kV := Sum.inl x
abbrev jv (x : Int64) : kV := Sum.inr (Sum.inl x)
abbrev rv (t : kT) (k : Nat) : kV := Sum.inr (Sum.inr (t, k))
/-- launch, base address, class tables, array kinds (int, byte, boolean), static tables' and the script's addresses, the cells' addresses, the script -/
abbrev kG : Type := Launch × Nat × va_G × (ClassId × ClassId × ClassId) × (Nat → Nat) × (Nat → Nat) × (Nat × (Nat → Int32))
abbrev g_l (G : kG) : Launch := G.1
abbrev g_b (G : kG) : Nat := G.2.1
abbrev g_D (G : kG) : va_G := G.2.2.1
abbrev g_I (G : kG) : ClassId := G.2.2.2.1.1
abbrev g_B (G : kG) : ClassId := G.2.2.2.1.2.1
abbrev g_Z (G : kG) : ClassId := G.2.2.2.1.2.2
abbrev g_s (G : kG) : Nat → Nat := G.2.2.2.2.1
abbrev g_a (G : kG) : Nat → Nat := G.2.2.2.2.2.1
abbrev g_n (G : kG) : Nat := G.2.2.2.2.2.2.1
abbrev g_xs (G : kG) : Nat → Int32 := G.2.2.2.2.2.2.2
abbrev k_ty (G : kG) : List (ClassId × FieldType) := [(g_I G, .int), (g_B G, .byte), (g_Z G, .boolean)]
abbrev k_A (G : kG) : Nat → Prop := fun q => g_b G ≤ q
def kc_v (G : kG) : kV → Value
  | .inl x => .int x
  | .inr (.inl x) => .long x
  | .inr (.inr (t, k)) => .ref (if t.1 = 12 then g_s G t.2 else g_a G k)
def ok_v (T : List kT) : kV → Prop
  | .inl _ => True
  | .inr (.inl _) => True
  | .inr (.inr (t, k)) => (t.1 < 12 ∧ ∃ m, T[k]? = some (t.1, m) ∧ (9 ≤ t.1 → m = t.2) ∧ (t.2 = 99 → m = 99)) ∨ (t.1 = 12 ∧ t.2 < 11)
theorem kc_r {G : kG} {t : kT} {k : Nat} (h : t.1 < 12) : kc_v G (rv t k) = .ref (g_a G k) := by
  have h1 : ¬ t.1 = 12 := by omega
  simp [kc_v, h1]
/-- the fields of a class by their slots: an int, or a part at a fixed distance -/
def k_fd : Nat → List (Option (Nat × kT))
  | 0 => [some (1, (9, 7200))]
  | 1 => [some (1, (9, 30)), some (2, (9, 30)), some (3, (9, 30)), some (4, (11, 30)), some (5, (11, 30)), some (6, (9, 30))]
  | 2 => [some (1, (1, 99)), some (8, (4, 99)), none]
  | 3 => [some (1, (5, 99)), some (4, (1, 99)), some (11, (4, 99)), some (23, (9, 6)), some (24, (9, 6)), some (25, (9, 6))]
  | 4 => [none, some (1, (9, 6)), some (2, (9, 6)), some (3, (9, 6)), some (4, (9, 6)), some (5, (9, 6)), some (6, (9, 6)), some (7, (9, 6)), some (8, (9, 6)), some (9, (9, 6)), some (10, (11, 6)), some (11, (11, 6))]
  | 5 => [none, none, some (1, (9, 3)), some (2, (9, 3)), none, none, none, none, none, none]
  | 6 => [none, none, none, none, none]
  | 7 => [some (1, (10, 500)), none, some (2, (3, 99)), some (28, (5, 99)), some (31, (2, 99)), some (51, (2, 99)), some (71, (2, 99)), some (91, (2, 99)), some (111, (2, 99)), none, some (131, (9, 6)), none, some (132, (0, 99)), some (134, (6, 99))]
  | 8 => [none, some (1, (10, 500)), none, some (2, (9, 28)), some (3, (9, 2)), some (4, (9, 6)), some (5, (9, 6)), some (6, (9, 36)), some (7, (9, 120)), some (8, (9, 800)), none, none, some (9, (9, 6)), some (10, (9, 30)), some (11, (9, 6)), some (12, (11, 6)), some (13, (9, 4)), some (14, (9, 4)), some (15, (9, 5)), some (16, (9, 6))]
  | _ => []
def k_f1 (G : kG) (k : Nat) (t : kT) (row : Nat → Int32) (i : Nat) : Value := match (k_fd t.1).getD i none with
  | none => .int (row i)
  | some q => if i < t.2 then .ref (g_a G (k + q.1)) else .null
def k_fv (G : kG) (k : Nat) (t : kT) (row : Nat → Int32) : List Value := (List.range (k_fd t.1).length).map (k_f1 G k t row)
def k_ce (G : kG) (k : Nat) (t : kT) (row : Nat → Int32) : va_E := if t.1 = 9 then .inl (g_I G, t.2, .inl row) else if t.1 = 10 then .inl (g_B G, t.2, .inl row) else if t.1 = 11 then .inl (g_Z G, t.2, .inl row) else .inr (t.1, k_fv G k t row)
def k_wl (G : kG) (T : List kT) (h : kH) : va_W := (List.range T.length).map fun k => (g_a G k, k_ce G k (T.getD k (6, 99)) (h k))
/-- every part of an object that is made stands where its kind says -/
def k_WF (T : List kT) : Prop := ∀ (k : Nat) (t : kT), T[k]? = some t → t.1 < 9 → ∀ (i : Nat) (q : Nat × kT), (k_fd t.1)[i]? = some (some q) → i < t.2 → T[k + q.1]? = some q.2
def sr (h : kH) (k : Nat) (row : Nat → Int32) : kH := fun r => if r = k then row else h r
theorem sr_s (h : kH) (k : Nat) (row : Nat → Int32) : sr h k row k = row := if_pos rfl
theorem sr_n (h : kH) {k r : Nat} (row : Nat → Int32) (e : r ≠ k) : sr h k row r = h r := if_neg e
theorem k_wl_len (G : kG) (T : List kT) (h : kH) : (k_wl G T h).length = T.length := by simp [k_wl]
theorem k_wl_at {G : kG} {T : List kT} {h : kH} {k : Nat} {t : kT} (ht : T[k]? = some t) : (k_wl G T h)[k]? = some (g_a G k, k_ce G k t (h k)) := by
  have hl := (List.getElem?_eq_some_iff.mp ht).1
  simp [k_wl, List.getElem?_map, List.getElem?_range hl, List.getD_eq_getElem?_getD, ht]
theorem k_wl_of {G : kG} {T : List kT} {h : kH} {k : Nat} {q : Nat × va_E} (hq : (k_wl G T h)[k]? = some q) : ∃ t, T[k]? = some t ∧ q = (g_a G k, k_ce G k t (h k)) := by
  have hl : k < T.length := by have := (List.getElem?_eq_some_iff.mp hq).1; rwa [k_wl_len] at this
  obtain ⟨t, ht⟩ : ∃ t, T[k]? = some t := ⟨T[k], List.getElem?_eq_getElem hl⟩
  exact ⟨t, ht, Option.some.inj (hq.symm.trans (k_wl_at ht))⟩
/-- the cells' addresses are apart, and new -/
def k_AD (G : kG) (T : List kT) : Prop := (∀ i j : Nat, i < T.length → j < T.length → g_a G i = g_a G j → i = j) ∧ ∀ i : Nat, i < T.length → g_b G ≤ g_a G i
theorem k_wl_D {G : kG} {T : List kT} {h : kH} (hA : k_AD G T) : va_D (k_A G) (k_wl G T h) := by
  refine ⟨fun i j p q hp hq e => ?_, fun k q hq => ?_⟩
  · have h1 := (List.getElem?_eq_some_iff.mp hp).1
    have h2 := (List.getElem?_eq_some_iff.mp hq).1
    rw [k_wl_len] at h1 h2
    obtain ⟨_, -, rfl⟩ := k_wl_of hp
    obtain ⟨_, -, rfl⟩ := k_wl_of hq
    exact hA.1 i j h1 h2 e
  · have h1 := (List.getElem?_eq_some_iff.mp hq).1
    rw [k_wl_len] at h1
    obtain ⟨_, -, rfl⟩ := k_wl_of hq
    exact hA.2 k h1
theorem k_ext {α : Type} {a b : List α} (h : ∀ i : Nat, a[i]? = b[i]?) : a = b := List.ext_getElem? h
theorem k_wl_set {G : kG} {T : List kT} {h : kH} {k : Nat} {t t' : kT} {row : Nat → Int32} {e : va_E} (ht : T[k]? = some t) (he : e = k_ce G k t' row) : (k_wl G T h).set k (g_a G k, e) = k_wl G (T.set k t') (sr h k row) := by
  subst he
  have hl := (List.getElem?_eq_some_iff.mp ht).1
  refine k_ext fun i => ?_
  by_cases hi : i = k
  · subst hi
    rw [List.getElem?_set_self (by rw [k_wl_len]; exact hl), k_wl_at (t := t') (by rw [List.getElem?_set_self hl]), sr_s]
  · rw [List.getElem?_set_ne (Ne.symm hi)]
    by_cases hil : i < T.length
    · have hti : T[i]? = some T[i] := List.getElem?_eq_getElem hil
      rw [k_wl_at hti, k_wl_at (t := T[i]) (by rw [List.getElem?_set_ne (Ne.symm hi)]; exact hti), sr_n _ _ hi]
    · rw [List.getElem?_eq_none (by rw [k_wl_len]; omega), List.getElem?_eq_none (by rw [k_wl_len, List.length_set]; omega)]
theorem k_set_same {T : List kT} {k : Nat} {t : kT} (ht : T[k]? = some t) : T.set k t = T := by
  refine k_ext fun i => ?_
  by_cases hi : i = k
  · subst hi
    rw [List.getElem?_set_self (List.getElem?_eq_some_iff.mp ht).1, ht]
  · rw [List.getElem?_set_ne (Ne.symm hi)]
theorem k_wl_put {G : kG} {T : List kT} {h : kH} {k : Nat} {t : kT} {row : Nat → Int32} {e : va_E} (ht : T[k]? = some t) (he : e = k_ce G k t row) : (k_wl G T h).set k (g_a G k, e) = k_wl G T (sr h k row) := by
  rw [k_wl_set ht he, k_set_same ht]
theorem k_wl_push {G : kG} {T : List kT} {h : kH} {t : kT} {row : Nat → Int32} {e : va_E} (he : e = k_ce G T.length t row) : k_wl G T h ++ [(g_a G T.length, e)] = k_wl G (T ++ [t]) (sr h T.length row) := by
  subst he
  refine k_ext fun i => ?_
  by_cases hi : i < T.length
  · have hti : T[i]? = some T[i] := List.getElem?_eq_getElem hi
    rw [List.getElem?_append_left (by rw [k_wl_len]; exact hi), k_wl_at hti, k_wl_at (t := T[i]) (by rw [List.getElem?_append_left hi]; exact hti), sr_n _ _ (by omega)]
  · rw [List.getElem?_append_right (by rw [k_wl_len]; omega), k_wl_len]
    by_cases he : i = T.length
    · subst he
      rw [Nat.sub_self, k_wl_at (t := t) (by rw [List.getElem?_append_right (Nat.le_refl _), Nat.sub_self]; rfl), sr_s]
      rfl
    · rw [List.getElem?_eq_none (by simp; omega), List.getElem?_eq_none (by rw [k_wl_len]; simp; omega)]
/-- locals by their places -/
def k_lc (G : kG) : Nat → List (Option kV) → List (Nat × Value)
  | _, [] => []
  | i, none :: r => k_lc G (i + 1) r
  | i, some v :: r => (i, kc_v G v) :: k_lc G (i + 1) r
theorem k_lc_mem {G : kG} : ∀ (lc : List (Option kV)) (i : Nat) (q : Nat × Value), q ∈ k_lc G i lc ↔ ∃ (j : Nat) (v : kV), lc[j]? = some (some v) ∧ q = (i + j, kc_v G v)
  | [], i, q => by simp [k_lc]
  | none :: r, i, q => by
    rw [k_lc, k_lc_mem r (i + 1) q]
    constructor
    · rintro ⟨j, v, h1, rfl⟩
      exact ⟨j + 1, v, by simpa using h1, by rw [show i + 1 + j = i + (j + 1) by omega]⟩
    · rintro ⟨j, v, h1, rfl⟩
      cases j with
      | zero => simp at h1
      | succ j => exact ⟨j, v, by simpa using h1, by rw [show i + 1 + j = i + (j + 1) by omega]⟩
  | some w :: r, i, q => by
    rw [k_lc, List.mem_cons, k_lc_mem r (i + 1) q]
    constructor
    · rintro (rfl | ⟨j, v, h1, rfl⟩)
      · exact ⟨0, w, by simp, by simp⟩
      · exact ⟨j + 1, v, by simpa using h1, by rw [show i + 1 + j = i + (j + 1) by omega]⟩
    · rintro ⟨j, v, h1, rfl⟩
      cases j with
      | zero => simp at h1; left; rw [h1]; simp
      | succ j => right; exact ⟨j, v, by simpa using h1, by rw [show i + 1 + j = i + (j + 1) by omega]⟩
theorem k_has_sub {ls : Array Slot} {n : Nat} {l l' : List (Nat × Value)} (h : lv_has ls n l) (hs : ∀ q ∈ l', q ∈ l) : lv_has ls n l' := ⟨h.1, h.2.1, fun q hq => h.2.2 q (hs q hq)⟩
theorem k_has_at {G : kG} {ls : Array Slot} {n : Nat} {lc : List (Option kV)} (h : lv_has ls n (k_lc G 0 lc)) {i : Nat} {v : kV} (hv : lc[i]? = some (some v)) : ls[i]? = some (.val (kc_v G v)) := by
  have h1 := h.2.2 (i, kc_v G v) ((k_lc_mem lc 0 _).mpr ⟨i, v, hv, by simp⟩)
  exact h1
/-- no long stands at the place before -/
def k_nl (lc : List (Option kV)) : Nat → Bool
  | 0 => true
  | j + 1 => match lc[j]? with
    | some (some (.inr (.inl _))) => false
    | _ => true
theorem k_cat1 {G : kG} {v : kV} (h : ∀ x, v ≠ jv x) : (kc_v G v).category = 1 := by
  rcases v with x | x | ⟨t, k⟩
  · rfl
  · exact absurd rfl (h x)
  · rfl
theorem k_cat2 {G : kG} {v : kV} (h : (kc_v G v).category = 2) : ∃ x, v = jv x := by
  rcases v with x | x | ⟨t, k⟩
  · simp [kc_v, Value.category] at h
  · exact ⟨x, rfl⟩
  · simp [kc_v, Value.category] at h
theorem k_st1 {G : kG} {ls : Array Slot} {n : Nat} {lc : List (Option kV)} {i : Nat} {v : kV} (hn : k_nl lc i = true) (h : lv_has ls n ((i, kc_v G v) :: (k_lc G 0 lc).filter (fun q => !(q.1 == i) && !(q.1 + 1 == i && q.2.category == 2)))) : lv_has ls n (k_lc G 0 (lc.set i (some v))) := by
  refine k_has_sub h fun q hq => ?_
  obtain ⟨j, w, h1, rfl⟩ := (k_lc_mem _ 0 q).mp hq
  simp only [Nat.zero_add]
  by_cases hj : j = i
  · subst hj
    have hl : j < lc.length := by
      have := (List.getElem?_eq_some_iff.mp h1).1
      simpa using this
    rw [List.getElem?_set_self hl] at h1
    cases h1
    exact List.mem_cons_self
  · rw [List.getElem?_set_ne (Ne.symm hj)] at h1
    refine List.mem_cons_of_mem _ (List.mem_filter.mpr ⟨(k_lc_mem lc 0 _).mpr ⟨j, w, h1, by simp⟩, ?_⟩)
    simp only [Bool.and_eq_true, Bool.not_eq_true', beq_eq_false_iff_ne, ne_eq, Bool.and_eq_false_iff]
    refine ⟨hj, ?_⟩
    by_cases hc : (kc_v G w).category = 2
    · left
      intro e
      obtain ⟨x, rfl⟩ := k_cat2 hc
      subst e
      simp [k_nl, h1] at hn
    · right; simpa using hc
theorem k_st2 {G : kG} {ls : Array Slot} {n : Nat} {lc : List (Option kV)} {i : Nat} {x : Int64} (hn : k_nl lc i = true) (h : lv_has ls n ((i, Value.long x) :: (k_lc G 0 lc).filter (fun q => !(q.1 == i) && (!(q.1 == i + 1) && !(q.1 + 1 == i && q.2.category == 2))))) : lv_has ls n (k_lc G 0 ((lc.set i (some (jv x))).set (i + 1) none)) := by
  refine k_has_sub h fun q hq => ?_
  obtain ⟨j, w, h1, rfl⟩ := (k_lc_mem _ 0 q).mp hq
  simp only [Nat.zero_add]
  by_cases hj1 : j = i + 1
  · subst hj1
    have hl : i + 1 < lc.length := by
      have := (List.getElem?_eq_some_iff.mp h1).1
      simpa using this
    rw [List.getElem?_set_self (by simpa using hl)] at h1
    cases h1
  · rw [List.getElem?_set_ne (Ne.symm hj1)] at h1
    by_cases hj : j = i
    · subst hj
      have hl : j < lc.length := by
        have := (List.getElem?_eq_some_iff.mp h1).1
        simpa using this
      rw [List.getElem?_set_self hl] at h1
      cases h1
      exact List.mem_cons_self
    · rw [List.getElem?_set_ne (Ne.symm hj)] at h1
      refine List.mem_cons_of_mem _ (List.mem_filter.mpr ⟨(k_lc_mem lc 0 _).mpr ⟨j, w, h1, by simp⟩, ?_⟩)
      simp only [Bool.and_eq_true, Bool.not_eq_true', beq_eq_false_iff_ne, ne_eq, Bool.and_eq_false_iff]
      refine ⟨hj, hj1, ?_⟩
      by_cases hc : (kc_v G w).category = 2
      · left
        intro e
        obtain ⟨x, rfl⟩ := k_cat2 hc
        subst e
        simp [k_nl, h1] at hn
      · right; simpa using hc
/-- the static tables of Plan -/
def k_sn : Nat → String
  | 0 => "W_BOUNDS" | 1 => "C_BOUNDS" | 2 => "XY_BOUNDS" | 3 => "P_BOUNDS" | 4 => "K_BOUNDS" | 5 => "L_BOUNDS" | 6 => "H_BOUNDS" | 7 => "D_BOUNDS" | 8 => "V_BOUNDS" | _ => "NO_BOUNDS"
def k_sl : Nat → List Int32
  | 0 => [2, 6, 2, 5] | 1 => [0, 5, 0, 4, 0, 2, 0, 199] | 2 => [0, 5, 0, 4] | 3 => [0, 5, 0, 4, 1, 9, 0, 99, 0, 9, 1, 99] | 4 => [0, 2, 1, 20, 1, 60] | 5 => [1, 30] | 6 => [30, 99, 1, 60] | 7 => [10, 300, 10, 300] | 8 => [0, 9] | _ => []
def k_NN (U : State) : Prop := ∀ q ∈ kw_nest, va_Nw (.methodLinkNest q.1 q.2.1 q.2.2.1 q.2.2.2) U
def k_tl (G : kG) (j : Nat) : Nat := if j = 10 then g_n G else (k_sl j).length
def k_tb (G : kG) (j i : Nat) : Int32 := if j = 10 then g_xs G i else (k_sl j).getD i 0
def k_SX (G : kG) (U : State) : Prop := (∀ j, j < 10 → va_Z RX3 (k_sn j) "[I" (.ref (g_s G j)) (k_A G) U U.heap) ∧ ∀ j, j < 11 → va_T .int (g_s G j) (k_tl G j) (fun i => .int (k_tb G j i)) (k_A G) U U.heap
theorem k_NN_warm {s U : State} (hW : s.WarmedH U.vm) (h : k_NN s) : k_NN U := fun q hq => va_Nw.warmM hW (h q hq)
theorem k_SX_to {G : kG} {s U : State} (hvm : s.vm.Alike U.vm) (hk : ∀ a : Nat, a < s.heap.size → ¬ k_A G a → U.heap[a]? = s.heap[a]?) (h : k_SX G s) : k_SX G U := ⟨fun j hj => ((h.1 j hj).moved hvm).kept hk, fun j hj => ((h.2 j hj).moved hvm).kept hk⟩
/-- a method: name, own class, code, decoded code, locals, answer, room -/
abbrev kM : Type := MethodName × String × ByteArray × List (Nat × Instr × Nat) × Nat × Option FieldType × Room
abbrev m_y (M : kM) : MethodName := M.1
abbrev m_own (M : kM) : String := M.2.1
abbrev m_cc (M : kM) : ByteArray := M.2.2.1
abbrev m_tab (M : kM) : List (Nat × Instr × Nat) := M.2.2.2.1
abbrev m_nL (M : kM) : Nat := M.2.2.2.2.1
abbrev m_ret (M : kM) : Option FieldType := M.2.2.2.2.2.1
abbrev m_rm (M : kM) : Room := M.2.2.2.2.2.2
abbrev kX : Type := Program × Env × State × MethodId × Array Value × List Frame × Method × Code × (State → Prop)
abbrev x_p (X : kX) : Program := X.1
abbrev x_e (X : kX) : Env := X.2.1
abbrev x_s (X : kX) : State := X.2.2.1
abbrev x_m (X : kX) : MethodId := X.2.2.2.1
abbrev x_a (X : kX) : Array Value := X.2.2.2.2.1
abbrev x_w (X : kX) : List Frame := X.2.2.2.2.2.1
abbrev x_h (X : kX) : Method := X.2.2.2.2.2.2.1
abbrev x_c (X : kX) : Code := X.2.2.2.2.2.2.2.1
abbrev x_Q (X : kX) : State → Prop := X.2.2.2.2.2.2.2.2
def k_X (G : kG) (M : kM) (X : kX) : Prop :=
  (x_p X).tables.exec = Jvm.exec ∧ (x_c X).code = m_cc M ∧ (x_c X).maxLocals = m_nL M ∧ (x_s X).vm.findClass (m_own M) = some (x_m X).cls ∧ (∀ w ∈ kw, w.before (x_a X) (x_s X) = true) ∧
  va_K (g_D G) vwCl (k_ty G) (x_s X) ∧ k_NN (x_s X) ∧ k_SX G (x_s X) ∧ g_b G ≤ (x_s X).heap.size ∧ (∀ q ∈ m_tab M, decode (m_cc M) q.1 = .ok q.2)
abbrev k_W (G : kG) (M : kM) (X : kX) (H : Heap) (locs : List Loc) (kc ks : Nat) (g : JFrame) : Prop := W (x_p X) (g_l G) (x_e X) (m_rm M) (x_s X) (x_m X) (x_a X) (x_w X) (x_h X) (x_c X) H locs kc ks (x_Q X) g
def V (G : kG) (M : kM) (X : kX) (T : List kT) (kc ks pc : Nat) (lc : List (Option kV)) (st : List kV) (h : kH) : Prop :=
  k_X G M X → k_WF T → (∀ v ∈ st, ok_v T v) → (∀ v, some v ∈ lc → ok_v T v) → ∀ (H : Heap) (ls : Array Slot) (locs : List Loc), va_P (g_D G) vwCl (k_wl G T h) H → k_AD G T → va_S (k_A G) (x_s X).heap H locs → lv_has ls (m_nL M) (k_lc G 0 lc) →
    k_W G M X H locs kc ks (F0 (x_m X) pc ls (st.map (kc_v G)))
end
section
section
variable {G : kG} {M : kM} {X : kX} {T : List kT} {kc ks pc : Nat} {lc : List (Option kV)} {st : List kV} {h : kH}
theorem k_dec (C : k_X G M X) {i n ln : Nat} {ins : Instr} (hd : (m_tab M)[i]? = some (n, ins, ln)) : decode (m_cc M) n = .ok (ins, ln) := C.2.2.2.2.2.2.2.2.2 (n, ins, ln) (List.mem_of_getElem? hd)
theorem V_st {pc' : Nat} {st' : List kV} (hok : (∀ v ∈ st, ok_v T v) → ∀ v ∈ st', ok_v T v) (hw : k_X G M X → ∀ (H : Heap) (ls : Array Slot) (locs : List Loc), k_W G M X H locs kc ks (F0 (x_m X) pc' ls (st'.map (kc_v G))) → k_W G M X H locs kc ks (F0 (x_m X) pc ls (st.map (kc_v G)))) (k : V G M X T kc ks pc' lc st' h) : V G M X T kc ks pc lc st h :=
  fun C hW hs hl H ls locs hP hz hS hL => hw C H ls locs (k C hW (hok hs) hl H ls locs hP hz hS hL)
theorem ok_c {v : kV} {a b : List kV} (hv : ok_v T v) (hs : ∀ u ∈ b, u ∈ a) (h : ∀ u ∈ a, ok_v T u) : ∀ u ∈ v :: b, ok_v T u := by
  intro u hu
  rcases List.mem_cons.mp hu with rfl | hu
  · exact hv
  · exact h u (hs u hu)
theorem k_eq {lc' : List (Option kV)} {st' : List kV} {h' : kH} (k : V G M X T kc ks pc lc' st' h') (e1 : lc = lc') (e2 : st = st') (e3 : h = h') : V G M X T kc ks pc lc st h := by subst e1; subst e2; subst e3; exact k
theorem V_iconst {n : Int} (v : Int32) (i : Nat) (hd : (m_tab M)[i]? = some (pc, .iconst n, 1)) (hv : Int32.ofInt n = v) (k : V G M X T kc ks (pc + 1) lc (iv v :: st) h) : V G M X T kc ks pc lc st h :=
  V_st (pc' := pc + 1) (st' := iv v :: st) (fun hs => ok_c (v := iv v) (a := st) (b := st) trivial (fun _ q => q) hs) (fun C H ls locs w => lv_iconst C.1 C.2.1 (k_dec C hd) hv w) k
theorem V_bipush {n : Int} (v : Int32) (i : Nat) (hd : (m_tab M)[i]? = some (pc, .bipush n, 2)) (hv : (Int8.ofInt n).toInt32 = v) (k : V G M X T kc ks (pc + 2) lc (iv v :: st) h) : V G M X T kc ks pc lc st h :=
  V_st (pc' := pc + 2) (st' := iv v :: st) (fun hs => ok_c (v := iv v) (a := st) (b := st) trivial (fun _ q => q) hs) (fun C H ls locs w => lv_bipush C.1 C.2.1 (k_dec C hd) hv w) k
theorem V_sipush {n : Int} (v : Int32) (i : Nat) (hd : (m_tab M)[i]? = some (pc, .sipush n, 3)) (hv : (Int16.ofInt n).toInt32 = v) (k : V G M X T kc ks (pc + 3) lc (iv v :: st) h) : V G M X T kc ks pc lc st h :=
  V_st (pc' := pc + 3) (st' := iv v :: st) (fun hs => ok_c (v := iv v) (a := st) (b := st) trivial (fun _ q => q) hs) (fun C H ls locs w => lv_sipush C.1 C.2.1 (k_dec C hd) hv w) k
theorem V_lconst {n : Fin 2} (v : Int64) (i : Nat) (hd : (m_tab M)[i]? = some (pc, .lconst n, 1)) (hv : Int64.ofNat (n : Nat) = v) (k : V G M X T kc ks (pc + 1) lc (jv v :: st) h) : V G M X T kc ks pc lc st h :=
  V_st (pc' := pc + 1) (st' := jv v :: st) (fun hs => ok_c (v := jv v) (a := st) (b := st) trivial (fun _ q => q) hs) (fun C H ls locs w => lv_lconst C.1 C.2.1 (k_dec C hd) hv w) k
theorem V_ldc2 {n : Nat} (v : Int64) (i : Nat) (hd : (m_tab M)[i]? = some (pc, .ldc2_w n, 3)) (hv : Jvm.Cond.constantLong (m_own M) n v ∈ kw) (k : V G M X T kc ks (pc + 3) lc (jv v :: st) h) : V G M X T kc ks pc lc st h :=
  V_st (pc' := pc + 3) (st' := jv v :: st) (fun hs => ok_c (v := jv v) (a := st) (b := st) trivial (fun _ q => q) hs) (fun C H ls locs w => lv_ldc2 C.1 C.2.1 C.2.2.2.1 (C.2.2.2.2.1 _ hv) (k_dec C hd) w) k
theorem V_iadd {x y : Int32} (i : Nat) (hd : (m_tab M)[i]? = some (pc, .iadd, 1))  (k : V G M X T kc ks (pc + 1) lc (iv (x + y) :: st) h) : V G M X T kc ks pc lc (iv y :: iv x :: st) h :=
  V_st (pc' := pc + 1) (st' := iv (x + y) :: st) (fun hs => ok_c (v := iv (x + y)) (a := iv y :: iv x :: st) (b := st) trivial (fun _ q => List.mem_cons_of_mem _ (List.mem_cons_of_mem _ (q))) hs) (fun C H ls locs w => lv_iadd C.1 C.2.1 (k_dec C hd)  w) k
theorem V_isub {x y : Int32} (i : Nat) (hd : (m_tab M)[i]? = some (pc, .isub, 1))  (k : V G M X T kc ks (pc + 1) lc (iv (x - y) :: st) h) : V G M X T kc ks pc lc (iv y :: iv x :: st) h :=
  V_st (pc' := pc + 1) (st' := iv (x - y) :: st) (fun hs => ok_c (v := iv (x - y)) (a := iv y :: iv x :: st) (b := st) trivial (fun _ q => List.mem_cons_of_mem _ (List.mem_cons_of_mem _ (q))) hs) (fun C H ls locs w => lv_isub C.1 C.2.1 (k_dec C hd)  w) k
theorem V_imul {x y : Int32} (i : Nat) (hd : (m_tab M)[i]? = some (pc, .imul, 1))  (k : V G M X T kc ks (pc + 1) lc (iv (x * y) :: st) h) : V G M X T kc ks pc lc (iv y :: iv x :: st) h :=
  V_st (pc' := pc + 1) (st' := iv (x * y) :: st) (fun hs => ok_c (v := iv (x * y)) (a := iv y :: iv x :: st) (b := st) trivial (fun _ q => List.mem_cons_of_mem _ (List.mem_cons_of_mem _ (q))) hs) (fun C H ls locs w => lv_imul C.1 C.2.1 (k_dec C hd)  w) k
theorem V_iand {x y : Int32} (i : Nat) (hd : (m_tab M)[i]? = some (pc, .iand, 1))  (k : V G M X T kc ks (pc + 1) lc (iv (x &&& y) :: st) h) : V G M X T kc ks pc lc (iv y :: iv x :: st) h :=
  V_st (pc' := pc + 1) (st' := iv (x &&& y) :: st) (fun hs => ok_c (v := iv (x &&& y)) (a := iv y :: iv x :: st) (b := st) trivial (fun _ q => List.mem_cons_of_mem _ (List.mem_cons_of_mem _ (q))) hs) (fun C H ls locs w => lv_iand C.1 C.2.1 (k_dec C hd)  w) k
theorem V_ior {x y : Int32} (i : Nat) (hd : (m_tab M)[i]? = some (pc, .ior, 1))  (k : V G M X T kc ks (pc + 1) lc (iv (x ||| y) :: st) h) : V G M X T kc ks pc lc (iv y :: iv x :: st) h :=
  V_st (pc' := pc + 1) (st' := iv (x ||| y) :: st) (fun hs => ok_c (v := iv (x ||| y)) (a := iv y :: iv x :: st) (b := st) trivial (fun _ q => List.mem_cons_of_mem _ (List.mem_cons_of_mem _ (q))) hs) (fun C H ls locs w => lv_ior C.1 C.2.1 (k_dec C hd)  w) k
theorem V_idiv {x y : Int32} (i : Nat) (hd : (m_tab M)[i]? = some (pc, .idiv, 1)) (hne : ¬ y = 0) (k : V G M X T kc ks (pc + 1) lc (iv (x / y) :: st) h) : V G M X T kc ks pc lc (iv y :: iv x :: st) h :=
  V_st (pc' := pc + 1) (st' := iv (x / y) :: st) (fun hs => ok_c (v := iv (x / y)) (a := iv y :: iv x :: st) (b := st) trivial (fun _ q => List.mem_cons_of_mem _ (List.mem_cons_of_mem _ (q))) hs) (fun C H ls locs w => lv_idiv C.1 C.2.1 (k_dec C hd) hne w) k
theorem V_irem {x y : Int32} (i : Nat) (hd : (m_tab M)[i]? = some (pc, .irem, 1)) (hne : ¬ y = 0) (k : V G M X T kc ks (pc + 1) lc (iv (x - x / y * y) :: st) h) : V G M X T kc ks pc lc (iv y :: iv x :: st) h :=
  V_st (pc' := pc + 1) (st' := iv (x - x / y * y) :: st) (fun hs => ok_c (v := iv (x - x / y * y)) (a := iv y :: iv x :: st) (b := st) trivial (fun _ q => List.mem_cons_of_mem _ (List.mem_cons_of_mem _ (q))) hs) (fun C H ls locs w => lv_irem C.1 C.2.1 (k_dec C hd) hne w) k
theorem V_ineg {x : Int32} (i : Nat) (hd : (m_tab M)[i]? = some (pc, .ineg, 1))  (k : V G M X T kc ks (pc + 1) lc (iv (-x) :: st) h) : V G M X T kc ks pc lc (iv x :: st) h :=
  V_st (pc' := pc + 1) (st' := iv (-x) :: st) (fun hs => ok_c (v := iv (-x)) (a := iv x :: st) (b := st) trivial (fun _ q => List.mem_cons_of_mem _ (q)) hs) (fun C H ls locs w => lv_ineg C.1 C.2.1 (k_dec C hd)  w) k
theorem V_ladd {x y : Int64} (i : Nat) (hd : (m_tab M)[i]? = some (pc, .ladd, 1))  (k : V G M X T kc ks (pc + 1) lc (jv (x + y) :: st) h) : V G M X T kc ks pc lc (jv y :: jv x :: st) h :=
  V_st (pc' := pc + 1) (st' := jv (x + y) :: st) (fun hs => ok_c (v := jv (x + y)) (a := jv y :: jv x :: st) (b := st) trivial (fun _ q => List.mem_cons_of_mem _ (List.mem_cons_of_mem _ (q))) hs) (fun C H ls locs w => lv_ladd C.1 C.2.1 (k_dec C hd)  w) k
theorem V_lmul {x y : Int64} (i : Nat) (hd : (m_tab M)[i]? = some (pc, .lmul, 1))  (k : V G M X T kc ks (pc + 1) lc (jv (x * y) :: st) h) : V G M X T kc ks pc lc (jv y :: jv x :: st) h :=
  V_st (pc' := pc + 1) (st' := jv (x * y) :: st) (fun hs => ok_c (v := jv (x * y)) (a := jv y :: jv x :: st) (b := st) trivial (fun _ q => List.mem_cons_of_mem _ (List.mem_cons_of_mem _ (q))) hs) (fun C H ls locs w => lv_lmul C.1 C.2.1 (k_dec C hd)  w) k
theorem V_land {x y : Int64} (i : Nat) (hd : (m_tab M)[i]? = some (pc, .land, 1))  (k : V G M X T kc ks (pc + 1) lc (jv (x &&& y) :: st) h) : V G M X T kc ks pc lc (jv y :: jv x :: st) h :=
  V_st (pc' := pc + 1) (st' := jv (x &&& y) :: st) (fun hs => ok_c (v := jv (x &&& y)) (a := jv y :: jv x :: st) (b := st) trivial (fun _ q => List.mem_cons_of_mem _ (List.mem_cons_of_mem _ (q))) hs) (fun C H ls locs w => lv_land C.1 C.2.1 (k_dec C hd)  w) k
theorem V_lor {x y : Int64} (i : Nat) (hd : (m_tab M)[i]? = some (pc, .lor, 1))  (k : V G M X T kc ks (pc + 1) lc (jv (x ||| y) :: st) h) : V G M X T kc ks pc lc (jv y :: jv x :: st) h :=
  V_st (pc' := pc + 1) (st' := jv (x ||| y) :: st) (fun hs => ok_c (v := jv (x ||| y)) (a := jv y :: jv x :: st) (b := st) trivial (fun _ q => List.mem_cons_of_mem _ (List.mem_cons_of_mem _ (q))) hs) (fun C H ls locs w => lv_lor C.1 C.2.1 (k_dec C hd)  w) k
theorem V_lrem {x y : Int64} (i : Nat) (hd : (m_tab M)[i]? = some (pc, .lrem, 1)) (hne : ¬ y = 0) (k : V G M X T kc ks (pc + 1) lc (jv (x - x / y * y) :: st) h) : V G M X T kc ks pc lc (jv y :: jv x :: st) h :=
  V_st (pc' := pc + 1) (st' := jv (x - x / y * y) :: st) (fun hs => ok_c (v := jv (x - x / y * y)) (a := jv y :: jv x :: st) (b := st) trivial (fun _ q => List.mem_cons_of_mem _ (List.mem_cons_of_mem _ (q))) hs) (fun C H ls locs w => lv_lrem C.1 C.2.1 (k_dec C hd) hne w) k
theorem V_i2l {x : Int32} (i : Nat) (hd : (m_tab M)[i]? = some (pc, .i2l, 1))  (k : V G M X T kc ks (pc + 1) lc (jv x.toInt64 :: st) h) : V G M X T kc ks pc lc (iv x :: st) h :=
  V_st (pc' := pc + 1) (st' := jv x.toInt64 :: st) (fun hs => ok_c (v := jv x.toInt64) (a := iv x :: st) (b := st) trivial (fun _ q => List.mem_cons_of_mem _ (q)) hs) (fun C H ls locs w => lv_i2l C.1 C.2.1 (k_dec C hd) rfl w) k
theorem V_l2i {x : Int64} (i : Nat) (hd : (m_tab M)[i]? = some (pc, .l2i, 1))  (k : V G M X T kc ks (pc + 1) lc (iv x.toInt32 :: st) h) : V G M X T kc ks pc lc (jv x :: st) h :=
  V_st (pc' := pc + 1) (st' := iv x.toInt32 :: st) (fun hs => ok_c (v := iv x.toInt32) (a := jv x :: st) (b := st) trivial (fun _ q => List.mem_cons_of_mem _ (q)) hs) (fun C H ls locs w => lv_l2i C.1 C.2.1 (k_dec C hd) rfl w) k
theorem V_i2b {x : Int32} (i : Nat) (hd : (m_tab M)[i]? = some (pc, .i2b, 1))  (k : V G M X T kc ks (pc + 1) lc (iv x.toInt8.toInt32 :: st) h) : V G M X T kc ks pc lc (iv x :: st) h :=
  V_st (pc' := pc + 1) (st' := iv x.toInt8.toInt32 :: st) (fun hs => ok_c (v := iv x.toInt8.toInt32) (a := iv x :: st) (b := st) trivial (fun _ q => List.mem_cons_of_mem _ (q)) hs) (fun C H ls locs w => lv_i2b C.1 C.2.1 (k_dec C hd) rfl w) k
theorem V_lshl {x : Int64} {y : Int32} (i : Nat) (hd : (m_tab M)[i]? = some (pc, .lshl, 1))  (k : V G M X T kc ks (pc + 1) lc (jv (x <<< (y.toInt64 &&& 63)) :: st) h) : V G M X T kc ks pc lc (iv y :: jv x :: st) h :=
  V_st (pc' := pc + 1) (st' := jv (x <<< (y.toInt64 &&& 63)) :: st) (fun hs => ok_c (v := jv (x <<< (y.toInt64 &&& 63))) (a := iv y :: jv x :: st) (b := st) trivial (fun _ q => List.mem_cons_of_mem _ (List.mem_cons_of_mem _ (q))) hs) (fun C H ls locs w => lv_lshl C.1 C.2.1 (k_dec C hd) rfl w) k
theorem V_lshr {x : Int64} {y : Int32} (i : Nat) (hd : (m_tab M)[i]? = some (pc, .lshr, 1))  (k : V G M X T kc ks (pc + 1) lc (jv (x >>> (y.toInt64 &&& 63)) :: st) h) : V G M X T kc ks pc lc (iv y :: jv x :: st) h :=
  V_st (pc' := pc + 1) (st' := jv (x >>> (y.toInt64 &&& 63)) :: st) (fun hs => ok_c (v := jv (x >>> (y.toInt64 &&& 63))) (a := iv y :: jv x :: st) (b := st) trivial (fun _ q => List.mem_cons_of_mem _ (List.mem_cons_of_mem _ (q))) hs) (fun C H ls locs w => lv_lshr C.1 C.2.1 (k_dec C hd) rfl w) k
theorem V_lcmp {x y : Int64} (i : Nat) (hd : (m_tab M)[i]? = some (pc, .lcmp, 1))  (k : V G M X T kc ks (pc + 1) lc (iv (lg_cmp x y) :: st) h) : V G M X T kc ks pc lc (jv y :: jv x :: st) h :=
  V_st (pc' := pc + 1) (st' := iv (lg_cmp x y) :: st) (fun hs => ok_c (v := iv (lg_cmp x y)) (a := jv y :: jv x :: st) (b := st) trivial (fun _ q => List.mem_cons_of_mem _ (List.mem_cons_of_mem _ (q))) hs) (fun C H ls locs w => W.lcmp C.1 C.2.1 (k_dec C hd)  w) k
theorem V_dup {v : kV} (i : Nat) (hd : (m_tab M)[i]? = some (pc, .dup, 1)) (hv : ∀ x, v ≠ jv x) (k : V G M X T kc ks (pc + 1) lc (v :: v :: st) h) : V G M X T kc ks pc lc (v :: st) h :=
  V_st (pc' := pc + 1) (st' := v :: v :: st) (fun hs => ok_c (hs v List.mem_cons_self) (fun _ q => q) hs) (fun C H ls locs w => lv_dup C.1 C.2.1 (k_dec C hd) (k_cat1 hv) w) k
theorem V_pop {v : kV} (i : Nat) (hd : (m_tab M)[i]? = some (pc, .pop, 1)) (hv : ∀ x, v ≠ jv x) (k : V G M X T kc ks (pc + 1) lc st h) : V G M X T kc ks pc lc (v :: st) h :=
  V_st (pc' := pc + 1) (st' := st) (fun hs u hu => hs u (List.mem_cons_of_mem _ hu)) (fun C H ls locs w => lv_pop C.1 C.2.1 (k_dec C hd) (k_cat1 hv) w) k
theorem V_dup2 {v u : kV} (i : Nat) (hd : (m_tab M)[i]? = some (pc, .dup2, 1)) (hv : ∀ x, v ≠ jv x) (hu : ∀ x, u ≠ jv x) (k : V G M X T kc ks (pc + 1) lc (v :: u :: v :: u :: st) h) : V G M X T kc ks pc lc (v :: u :: st) h :=
  V_st (pc' := pc + 1) (st' := v :: u :: v :: u :: st) (fun hs => ok_c (hs v List.mem_cons_self) (fun _ q => q) (ok_c (hs u (List.mem_cons_of_mem _ List.mem_cons_self)) (fun _ q => q) hs)) (fun C H ls locs w => lv_dup2_11 C.1 C.2.1 (k_dec C hd) (k_cat1 hv) (k_cat1 hu) w) k
theorem nj_i {y : Int32} : ∀ x, iv y ≠ jv x := fun _ e => by cases e
theorem nj_r {t : kT} {k : Nat} : ∀ x, rv t k ≠ jv x := fun _ e => by cases e
theorem V_goto {off : Int} (tgt : Nat) (i : Nat) (hd : (m_tab M)[i]? = some (pc, .goto off, 3)) (ht : (pc : Int) + off = (tgt : Int)) (k : V G M X T kc ks tgt lc st h) : V G M X T kc ks pc lc st h :=
  V_st (pc' := tgt) (st' := st) (fun hs => hs) (fun C H ls locs w => lv_goto C.1 C.2.1 (k_dec C hd) ht w) k
theorem V_if_eq {x : Int32} {off : Int} (tgt : Nat) (i : Nat) (hd : (m_tab M)[i]? = some (pc, .ifCond .eq off, 3)) (ht : (pc : Int) + off = (tgt : Int)) (k1 : x = 0 → V G M X T kc ks tgt lc st h) (k2 : ¬ x = 0 → V G M X T kc ks (pc + 3) lc st h) : V G M X T kc ks pc lc (iv x :: st) h :=
  fun C hW hs hl H ls locs hP hz hS hL => lv_if_eq C.1 C.2.1 (k_dec C hd) ht (fun c => k1 c C hW (fun u hu => hs u (List.mem_cons_of_mem _ hu)) hl H ls locs hP hz hS hL) (fun c => k2 c C hW (fun u hu => hs u (List.mem_cons_of_mem _ hu)) hl H ls locs hP hz hS hL)
theorem V_icmp_eq {x y : Int32} {off : Int} (tgt : Nat) (i : Nat) (hd : (m_tab M)[i]? = some (pc, .if_icmp .eq off, 3)) (ht : (pc : Int) + off = (tgt : Int)) (k1 : x = y → V G M X T kc ks tgt lc st h) (k2 : ¬ x = y → V G M X T kc ks (pc + 3) lc st h) : V G M X T kc ks pc lc (iv y :: iv x :: st) h :=
  fun C hW hs hl H ls locs hP hz hS hL => lv_icmp_eq C.1 C.2.1 (k_dec C hd) ht (fun c => k1 c C hW (fun u hu => hs u (List.mem_cons_of_mem _ (List.mem_cons_of_mem _ hu))) hl H ls locs hP hz hS hL) (fun c => k2 c C hW (fun u hu => hs u (List.mem_cons_of_mem _ (List.mem_cons_of_mem _ hu))) hl H ls locs hP hz hS hL)
theorem V_if_ne {x : Int32} {off : Int} (tgt : Nat) (i : Nat) (hd : (m_tab M)[i]? = some (pc, .ifCond .ne off, 3)) (ht : (pc : Int) + off = (tgt : Int)) (k1 : ¬ x = 0 → V G M X T kc ks tgt lc st h) (k2 : x = 0 → V G M X T kc ks (pc + 3) lc st h) : V G M X T kc ks pc lc (iv x :: st) h :=
  fun C hW hs hl H ls locs hP hz hS hL => lv_if_ne C.1 C.2.1 (k_dec C hd) ht (fun c => k1 c C hW (fun u hu => hs u (List.mem_cons_of_mem _ hu)) hl H ls locs hP hz hS hL) (fun c => k2 c C hW (fun u hu => hs u (List.mem_cons_of_mem _ hu)) hl H ls locs hP hz hS hL)
theorem V_icmp_ne {x y : Int32} {off : Int} (tgt : Nat) (i : Nat) (hd : (m_tab M)[i]? = some (pc, .if_icmp .ne off, 3)) (ht : (pc : Int) + off = (tgt : Int)) (k1 : ¬ x = y → V G M X T kc ks tgt lc st h) (k2 : x = y → V G M X T kc ks (pc + 3) lc st h) : V G M X T kc ks pc lc (iv y :: iv x :: st) h :=
  fun C hW hs hl H ls locs hP hz hS hL => lv_icmp_ne C.1 C.2.1 (k_dec C hd) ht (fun c => k1 c C hW (fun u hu => hs u (List.mem_cons_of_mem _ (List.mem_cons_of_mem _ hu))) hl H ls locs hP hz hS hL) (fun c => k2 c C hW (fun u hu => hs u (List.mem_cons_of_mem _ (List.mem_cons_of_mem _ hu))) hl H ls locs hP hz hS hL)
theorem V_if_lt {x : Int32} {off : Int} (tgt : Nat) (i : Nat) (hd : (m_tab M)[i]? = some (pc, .ifCond .lt off, 3)) (ht : (pc : Int) + off = (tgt : Int)) (k1 : x < 0 → V G M X T kc ks tgt lc st h) (k2 : ¬ x < 0 → V G M X T kc ks (pc + 3) lc st h) : V G M X T kc ks pc lc (iv x :: st) h :=
  fun C hW hs hl H ls locs hP hz hS hL => lv_if_lt C.1 C.2.1 (k_dec C hd) ht (fun c => k1 c C hW (fun u hu => hs u (List.mem_cons_of_mem _ hu)) hl H ls locs hP hz hS hL) (fun c => k2 c C hW (fun u hu => hs u (List.mem_cons_of_mem _ hu)) hl H ls locs hP hz hS hL)
theorem V_icmp_lt {x y : Int32} {off : Int} (tgt : Nat) (i : Nat) (hd : (m_tab M)[i]? = some (pc, .if_icmp .lt off, 3)) (ht : (pc : Int) + off = (tgt : Int)) (k1 : x < y → V G M X T kc ks tgt lc st h) (k2 : ¬ x < y → V G M X T kc ks (pc + 3) lc st h) : V G M X T kc ks pc lc (iv y :: iv x :: st) h :=
  fun C hW hs hl H ls locs hP hz hS hL => lv_icmp_lt C.1 C.2.1 (k_dec C hd) ht (fun c => k1 c C hW (fun u hu => hs u (List.mem_cons_of_mem _ (List.mem_cons_of_mem _ hu))) hl H ls locs hP hz hS hL) (fun c => k2 c C hW (fun u hu => hs u (List.mem_cons_of_mem _ (List.mem_cons_of_mem _ hu))) hl H ls locs hP hz hS hL)
theorem V_if_ge {x : Int32} {off : Int} (tgt : Nat) (i : Nat) (hd : (m_tab M)[i]? = some (pc, .ifCond .ge off, 3)) (ht : (pc : Int) + off = (tgt : Int)) (k1 : 0 ≤ x → V G M X T kc ks tgt lc st h) (k2 : ¬ 0 ≤ x → V G M X T kc ks (pc + 3) lc st h) : V G M X T kc ks pc lc (iv x :: st) h :=
  fun C hW hs hl H ls locs hP hz hS hL => lv_if_ge C.1 C.2.1 (k_dec C hd) ht (fun c => k1 c C hW (fun u hu => hs u (List.mem_cons_of_mem _ hu)) hl H ls locs hP hz hS hL) (fun c => k2 c C hW (fun u hu => hs u (List.mem_cons_of_mem _ hu)) hl H ls locs hP hz hS hL)
theorem V_icmp_ge {x y : Int32} {off : Int} (tgt : Nat) (i : Nat) (hd : (m_tab M)[i]? = some (pc, .if_icmp .ge off, 3)) (ht : (pc : Int) + off = (tgt : Int)) (k1 : y ≤ x → V G M X T kc ks tgt lc st h) (k2 : ¬ y ≤ x → V G M X T kc ks (pc + 3) lc st h) : V G M X T kc ks pc lc (iv y :: iv x :: st) h :=
  fun C hW hs hl H ls locs hP hz hS hL => lv_icmp_ge C.1 C.2.1 (k_dec C hd) ht (fun c => k1 c C hW (fun u hu => hs u (List.mem_cons_of_mem _ (List.mem_cons_of_mem _ hu))) hl H ls locs hP hz hS hL) (fun c => k2 c C hW (fun u hu => hs u (List.mem_cons_of_mem _ (List.mem_cons_of_mem _ hu))) hl H ls locs hP hz hS hL)
theorem V_if_gt {x : Int32} {off : Int} (tgt : Nat) (i : Nat) (hd : (m_tab M)[i]? = some (pc, .ifCond .gt off, 3)) (ht : (pc : Int) + off = (tgt : Int)) (k1 : 0 < x → V G M X T kc ks tgt lc st h) (k2 : ¬ 0 < x → V G M X T kc ks (pc + 3) lc st h) : V G M X T kc ks pc lc (iv x :: st) h :=
  fun C hW hs hl H ls locs hP hz hS hL => lv_if_gt C.1 C.2.1 (k_dec C hd) ht (fun c => k1 c C hW (fun u hu => hs u (List.mem_cons_of_mem _ hu)) hl H ls locs hP hz hS hL) (fun c => k2 c C hW (fun u hu => hs u (List.mem_cons_of_mem _ hu)) hl H ls locs hP hz hS hL)
theorem V_icmp_gt {x y : Int32} {off : Int} (tgt : Nat) (i : Nat) (hd : (m_tab M)[i]? = some (pc, .if_icmp .gt off, 3)) (ht : (pc : Int) + off = (tgt : Int)) (k1 : y < x → V G M X T kc ks tgt lc st h) (k2 : ¬ y < x → V G M X T kc ks (pc + 3) lc st h) : V G M X T kc ks pc lc (iv y :: iv x :: st) h :=
  fun C hW hs hl H ls locs hP hz hS hL => lv_icmp_gt C.1 C.2.1 (k_dec C hd) ht (fun c => k1 c C hW (fun u hu => hs u (List.mem_cons_of_mem _ (List.mem_cons_of_mem _ hu))) hl H ls locs hP hz hS hL) (fun c => k2 c C hW (fun u hu => hs u (List.mem_cons_of_mem _ (List.mem_cons_of_mem _ hu))) hl H ls locs hP hz hS hL)
theorem V_if_le {x : Int32} {off : Int} (tgt : Nat) (i : Nat) (hd : (m_tab M)[i]? = some (pc, .ifCond .le off, 3)) (ht : (pc : Int) + off = (tgt : Int)) (k1 : x ≤ 0 → V G M X T kc ks tgt lc st h) (k2 : ¬ x ≤ 0 → V G M X T kc ks (pc + 3) lc st h) : V G M X T kc ks pc lc (iv x :: st) h :=
  fun C hW hs hl H ls locs hP hz hS hL => lv_if_le C.1 C.2.1 (k_dec C hd) ht (fun c => k1 c C hW (fun u hu => hs u (List.mem_cons_of_mem _ hu)) hl H ls locs hP hz hS hL) (fun c => k2 c C hW (fun u hu => hs u (List.mem_cons_of_mem _ hu)) hl H ls locs hP hz hS hL)
theorem V_icmp_le {x y : Int32} {off : Int} (tgt : Nat) (i : Nat) (hd : (m_tab M)[i]? = some (pc, .if_icmp .le off, 3)) (ht : (pc : Int) + off = (tgt : Int)) (k1 : x ≤ y → V G M X T kc ks tgt lc st h) (k2 : ¬ x ≤ y → V G M X T kc ks (pc + 3) lc st h) : V G M X T kc ks pc lc (iv y :: iv x :: st) h :=
  fun C hW hs hl H ls locs hP hz hS hL => lv_icmp_le C.1 C.2.1 (k_dec C hd) ht (fun c => k1 c C hW (fun u hu => hs u (List.mem_cons_of_mem _ (List.mem_cons_of_mem _ hu))) hl H ls locs hP hz hS hL) (fun c => k2 c C hW (fun u hu => hs u (List.mem_cons_of_mem _ (List.mem_cons_of_mem _ hu))) hl H ls locs hP hz hS hL)
theorem V_tabOut {dflt lo hi : Int} {offs : Array Int} {len : Nat} {x : Int32} (tgt : Nat) (i : Nat) (hd : (m_tab M)[i]? = some (pc, .tableswitch dflt lo hi offs, len)) (ho : x.toInt < lo ∨ hi < x.toInt) (ht : (pc : Int) + dflt = (tgt : Int)) (k : V G M X T kc ks tgt lc st h) : V G M X T kc ks pc lc (iv x :: st) h :=
  V_st (pc' := tgt) (st' := st) (fun hs u hu => hs u (List.mem_cons_of_mem _ hu)) (fun C H ls locs w => lv_tableOut C.1 C.2.1 (k_dec C hd) ho ht w) k
theorem V_tabIn {dflt lo hi : Int} {offs : Array Int} {len : Nat} {x : Int32} {off : Int} (tgt : Nat) (i : Nat) (hd : (m_tab M)[i]? = some (pc, .tableswitch dflt lo hi offs, len)) (h1 : ¬ x.toInt < lo) (h2 : ¬ hi < x.toInt) (ho : offs[(x.toInt - lo).toNat]? = some off) (ht : (pc : Int) + off = (tgt : Int)) (k : V G M X T kc ks tgt lc st h) : V G M X T kc ks pc lc (iv x :: st) h :=
  V_st (pc' := tgt) (st' := st) (fun hs u hu => hs u (List.mem_cons_of_mem _ hu)) (fun C H ls locs w => lv_tableIn C.1 C.2.1 (k_dec C hd) h1 h2 ho ht w) k
theorem V_iload {j : Nat} {x : Int32} (i : Nat) (hd : (m_tab M)[i]? = some (pc, .iload j, 2)) (hv : lc[j]? = some (some (iv x))) (k : V G M X T kc ks (pc + 2) lc (iv x :: st) h) : V G M X T kc ks pc lc st h :=
  fun C hW hs hl H ls locs hP hz hS hL => lv_iload C.1 C.2.1 (k_dec C hd) (k_has_at hL hv) (k C hW (ok_c (hl _ (List.mem_of_getElem? hv)) (fun _ q => q) hs) hl H ls locs hP hz hS hL)
theorem V_iload_n {j : Fin 4} {x : Int32} (i : Nat) (hd : (m_tab M)[i]? = some (pc, .iload_n j, 1)) (hv : lc[(j : Nat)]? = some (some (iv x))) (k : V G M X T kc ks (pc + 1) lc (iv x :: st) h) : V G M X T kc ks pc lc st h :=
  fun C hW hs hl H ls locs hP hz hS hL => lv_iload_n C.1 C.2.1 (k_dec C hd) rfl (k_has_at hL hv) (k C hW (ok_c (hl _ (List.mem_of_getElem? hv)) (fun _ q => q) hs) hl H ls locs hP hz hS hL)
theorem V_lload {j : Nat} {x : Int64} (i : Nat) (hd : (m_tab M)[i]? = some (pc, .lload j, 2)) (hv : lc[j]? = some (some (jv x))) (k : V G M X T kc ks (pc + 2) lc (jv x :: st) h) : V G M X T kc ks pc lc st h :=
  fun C hW hs hl H ls locs hP hz hS hL => lv_lload C.1 C.2.1 (k_dec C hd) (k_has_at hL hv) (k C hW (ok_c (hl _ (List.mem_of_getElem? hv)) (fun _ q => q) hs) hl H ls locs hP hz hS hL)
theorem V_lload_n {j : Fin 4} {x : Int64} (i : Nat) (hd : (m_tab M)[i]? = some (pc, .lload_n j, 1)) (hv : lc[(j : Nat)]? = some (some (jv x))) (k : V G M X T kc ks (pc + 1) lc (jv x :: st) h) : V G M X T kc ks pc lc st h :=
  fun C hW hs hl H ls locs hP hz hS hL => lv_lload_n C.1 C.2.1 (k_dec C hd) rfl (k_has_at hL hv) (k C hW (ok_c (hl _ (List.mem_of_getElem? hv)) (fun _ q => q) hs) hl H ls locs hP hz hS hL)
theorem V_aload {j : Nat} {t : kT} {a : Nat} (i : Nat) (hd : (m_tab M)[i]? = some (pc, .aload j, 2)) (hv : lc[j]? = some (some (rv t a))) (k : V G M X T kc ks (pc + 2) lc (rv t a :: st) h) : V G M X T kc ks pc lc st h :=
  fun C hW hs hl H ls locs hP hz hS hL => lv_aload C.1 C.2.1 (k_dec C hd) (k_has_at hL hv) (k C hW (ok_c (hl _ (List.mem_of_getElem? hv)) (fun _ q => q) hs) hl H ls locs hP hz hS hL)
theorem V_aload_n {j : Fin 4} {t : kT} {a : Nat} (i : Nat) (hd : (m_tab M)[i]? = some (pc, .aload_n j, 1)) (hv : lc[(j : Nat)]? = some (some (rv t a))) (k : V G M X T kc ks (pc + 1) lc (rv t a :: st) h) : V G M X T kc ks pc lc st h :=
  fun C hW hs hl H ls locs hP hz hS hL => lv_aload_n C.1 C.2.1 (k_dec C hd) rfl (k_has_at hL hv) (k C hW (ok_c (hl _ (List.mem_of_getElem? hv)) (fun _ q => q) hs) hl H ls locs hP hz hS hL)
theorem k_lset {v : kV} {j : Nat} (hv : ok_v T v) (hl : ∀ u, some u ∈ lc → ok_v T u) : ∀ u, some u ∈ lc.set j (some v) → ok_v T u := by
  intro u hu
  rcases List.mem_or_eq_of_mem_set hu with hu | hu
  · exact hl u hu
  · cases hu; exact hv
theorem k_lset0 {j : Nat} (hl : ∀ u, some u ∈ lc → ok_v T u) : ∀ u, some u ∈ lc.set j none → ok_v T u := by
  intro u hu
  rcases List.mem_or_eq_of_mem_set hu with hu | hu
  · exact hl u hu
  · cases hu
theorem V_istore {j : Nat} {x : Int32} (i : Nat) (hd : (m_tab M)[i]? = some (pc, .istore j, 2)) (hn : j < m_nL M) (hk : k_nl lc j = true) (k : V G M X T kc ks (pc + 2) (lc.set j (some (iv x))) st h) : V G M X T kc ks pc lc (iv x :: st) h :=
  fun C hW hs hl H ls locs hP hz hS hL => lv_istore C.1 C.2.1 (k_dec C hd) hL hn rfl (fun ls1 hL1 => k C hW (fun u hu => hs u (List.mem_cons_of_mem _ hu)) (k_lset (hs _ List.mem_cons_self) hl) H ls1 locs hP hz hS (k_st1 hk hL1))
theorem V_istore_n {j : Fin 4} {x : Int32} (i : Nat) (hd : (m_tab M)[i]? = some (pc, .istore_n j, 1)) (hn : (j : Nat) < m_nL M) (hk : k_nl lc (j : Nat) = true) (k : V G M X T kc ks (pc + 1) (lc.set (j : Nat) (some (iv x))) st h) : V G M X T kc ks pc lc (iv x :: st) h :=
  fun C hW hs hl H ls locs hP hz hS hL => lv_istore_n C.1 C.2.1 (k_dec C hd) rfl hL hn rfl (fun ls1 hL1 => k C hW (fun u hu => hs u (List.mem_cons_of_mem _ hu)) (k_lset (hs _ List.mem_cons_self) hl) H ls1 locs hP hz hS (k_st1 hk hL1))
theorem V_astore {j : Nat} {t : kT} {a : Nat} (i : Nat) (hd : (m_tab M)[i]? = some (pc, .astore j, 2)) (hn : j < m_nL M) (hk : k_nl lc j = true) (k : V G M X T kc ks (pc + 2) (lc.set j (some (rv t a))) st h) : V G M X T kc ks pc lc (rv t a :: st) h :=
  fun C hW hs hl H ls locs hP hz hS hL => lv_astore C.1 C.2.1 (k_dec C hd) hL hn rfl (fun ls1 hL1 => k C hW (fun u hu => hs u (List.mem_cons_of_mem _ hu)) (k_lset (hs _ List.mem_cons_self) hl) H ls1 locs hP hz hS (k_st1 hk hL1))
theorem V_astore_n {j : Fin 4} {t : kT} {a : Nat} (i : Nat) (hd : (m_tab M)[i]? = some (pc, .astore_n j, 1)) (hn : (j : Nat) < m_nL M) (hk : k_nl lc (j : Nat) = true) (k : V G M X T kc ks (pc + 1) (lc.set (j : Nat) (some (rv t a))) st h) : V G M X T kc ks pc lc (rv t a :: st) h :=
  fun C hW hs hl H ls locs hP hz hS hL => lv_astore_n C.1 C.2.1 (k_dec C hd) rfl hL hn rfl (fun ls1 hL1 => k C hW (fun u hu => hs u (List.mem_cons_of_mem _ hu)) (k_lset (hs _ List.mem_cons_self) hl) H ls1 locs hP hz hS (k_st1 hk hL1))
theorem V_lstore_n {j : Fin 4} {x : Int64} (i : Nat) (hd : (m_tab M)[i]? = some (pc, .lstore_n j, 1)) (hn : (j : Nat) + 1 < m_nL M) (hk : k_nl lc (j : Nat) = true) (k : V G M X T kc ks (pc + 1) ((lc.set (j : Nat) (some (jv x))).set ((j : Nat) + 1) none) st h) : V G M X T kc ks pc lc (jv x :: st) h :=
  fun C hW hs hl H ls locs hP hz hS hL => lv_lstore_n C.1 C.2.1 (k_dec C hd) rfl hL hn rfl (fun ls1 hL1 => k C hW (fun u hu => hs u (List.mem_cons_of_mem _ hu)) (k_lset0 (k_lset (hs _ List.mem_cons_self) hl)) H ls1 locs hP hz hS (k_st2 hk hL1))
theorem V_iinc {j : Nat} {n : Int} {x : Int32} (v : Int32) (i : Nat) (hd : (m_tab M)[i]? = some (pc, .iinc j n, 3)) (hv : lc[j]? = some (some (iv x))) (he : x + Int32.ofInt n = v) (hn : j < m_nL M) (hk : k_nl lc j = true) (k : V G M X T kc ks (pc + 3) (lc.set j (some (iv v))) st h) : V G M X T kc ks pc lc st h := by
  intro C hW hs hl H ls locs hP hz hS hL
  obtain ⟨q, hq⟩ := List.getElem?_of_mem ((k_lc_mem (G := G) lc 0 (j, Value.int x)).mpr ⟨j, iv x, hv, by simp [kc_v]⟩)
  exact lv_iinc C.1 C.2.1 (k_dec C hd) hL hq he hn rfl (fun ls1 hL1 => k C hW hs (k_lset trivial hl) H ls1 locs hP hz hS (k_st1 (v := iv v) hk hL1))
end
end
section
/-- an index is in a row of n -/
def inb (x : Int32) (n : Nat) : Bool := decide (0 ≤ x) && decide (x.toNatClampNeg < n)
theorem inb_in {x : Int32} {n : Nat} (h : inb x n = true) : vp_in x n := by
  simp only [inb, Bool.and_eq_true, decide_eq_true_eq] at h
  intro q
  rcases q with q | q
  · exact absurd h.1 (Int32.not_le.mpr q)
  · omega
def hs (h : kH) (k i : Nat) (x : Int32) : kH := sr h k (upd (h k) i x)
section
variable {G : kG} {M : kM} {X : kX} {T : List kT} {kc ks pc : Nat} {lc : List (Option kV)} {st : List kV} {h : kH}
/-- what is known of a class by its number -/
def k_cls (ci : Nat) (C : String) (F : u_T) (N : Nat) (ty : Nat → FieldType) : Prop :=
  vwCl[ci]? = some (C, F, N) ∧ (∀ w ∈ u_ws C F N, w ∈ kw) ∧ (∀ k, k < N → parseFieldDescriptor (F k).2.2.1 = some (ty k)) ∧ (∀ a, a < N → ∀ b, b < N → a ≠ b → (F a).2.1 ≠ (F b).2.1) ∧ (k_fd ci).length = N ∧ ci < 9
theorem k_cls0 : k_cls 0 RX0 TX0 1 tyX0 := ⟨rfl, kw_X0, tyX0_ok, nmX0, rfl, by decide⟩
theorem k_cls1 : k_cls 1 RX1 TX1 6 tyX1 := ⟨rfl, kw_X1, tyX1_ok, nmX1, rfl, by decide⟩
theorem k_cls2 : k_cls 2 RX2 TX2 3 tyX2 := ⟨rfl, kw_X2, tyX2_ok, nmX2, rfl, by decide⟩
theorem k_cls3 : k_cls 3 RX3 TX3 6 tyX3 := ⟨rfl, kw_X3, tyX3_ok, nmX3, rfl, by decide⟩
theorem k_cls4 : k_cls 4 RX4 TX4 12 tyX4 := ⟨rfl, kw_X4, tyX4_ok, nmX4, rfl, by decide⟩
theorem k_cls5 : k_cls 5 RX5 TX5 10 tyX5 := ⟨rfl, kw_X5, tyX5_ok, nmX5, rfl, by decide⟩
theorem k_cls6 : k_cls 6 RX6 TX6 5 tyX6 := ⟨rfl, kw_X6, tyX6_ok, nmX6, rfl, by decide⟩
theorem k_cls7 : k_cls 7 RX7 TX7 14 tyX7 := ⟨rfl, kw_X7, tyX7_ok, nmX7, rfl, by decide⟩
theorem k_cls8 : k_cls 8 RX8 TX8 20 tyX8 := ⟨rfl, kw_X8, tyX8_ok, nmX8, rfl, by decide⟩
/-- an int field's link: own class, entry, class number, slot -/
def k_Fi (own : String) (idx ci j : Nat) : Prop := ∃ (C : String) (F : u_T) (N : Nat) (ty : Nat → FieldType), k_cls ci C F N ty ∧ j < N ∧ (k_fd ci)[j]? = some none ∧ Cond.fieldLink own idx (F j).1 (F j).2.1 (F j).2.2.1 ∈ kw ∧ (F j).2.2.1 = "I" ∧ (F j).2.2.2 = false
/-- a part's link: own class, entry, class number, slot, distance, tag -/
def k_Fr (own : String) (idx ci j off : Nat) (t : kT) : Prop := ∃ (C : String) (F : u_T) (N : Nat) (ty : Nat → FieldType), k_cls ci C F N ty ∧ j < N ∧ (k_fd ci)[j]? = some (some (off, t)) ∧ Cond.fieldLink own idx (F j).1 (F j).2.1 (F j).2.2.1 ∈ kw ∧ j < 99
theorem k_obj {k : Nat} {t : kT} (ht : T[k]? = some t) (hc : t.1 < 9) : (k_wl G T h)[k]? = some (g_a G k, .inr (t.1, k_fv G k t (h k))) := by
  rw [k_wl_at ht, k_ce, if_neg (by omega), if_neg (by omega), if_neg (by omega)]
theorem k_fv_i {k : Nat} {t : kT} {row : Nat → Int32} {j : Nat} (hj : (k_fd t.1)[j]? = some none) : (k_fv G k t row)[j]? = some (.int (row j)) := by
  have hl := (List.getElem?_eq_some_iff.mp hj).1
  simp [k_fv, k_f1, List.getElem?_map, List.getElem?_range hl, List.getD_eq_getElem?_getD, hj]
theorem k_fv_r {k : Nat} {t : kT} {row : Nat → Int32} {j off : Nat} {u : kT} (hj : (k_fd t.1)[j]? = some (some (off, u))) : (k_fv G k t row)[j]? = some (if j < t.2 then .ref (g_a G (k + off)) else .null) := by
  have hl := (List.getElem?_eq_some_iff.mp hj).1
  simp [k_fv, k_f1, List.getElem?_map, List.getElem?_range hl, List.getD_eq_getElem?_getD, hj]
theorem k_fv_len {k : Nat} {t : kT} {row : Nat → Int32} : (k_fv G k t row).length = (k_fd t.1).length := by simp [k_fv]
theorem k_fv_at {k : Nat} {t : kT} {row : Nat → Int32} {i : Nat} (hi : i < (k_fd t.1).length) : (k_fv G k t row)[i]? = some (k_f1 G k t row i) := by
  simp [k_fv, List.getElem?_map, List.getElem?_range hi]
theorem k_fv_set {k : Nat} {t : kT} {row : Nat → Int32} {j : Nat} {v : Int32} (hj : (k_fd t.1)[j]? = some none) : (k_fv G k t row).set j (.int v) = k_fv G k t (upd row j v) := by
  refine k_ext fun i => ?_
  have hl := (List.getElem?_eq_some_iff.mp hj).1
  by_cases hi : i = j
  · subst hi
    rw [List.getElem?_set_self (by rw [k_fv_len]; exact hl), k_fv_i hj, pk_us]
  · rw [List.getElem?_set_ne (Ne.symm hi)]
    by_cases hil : i < (k_fd t.1).length
    · rw [k_fv_at hil, k_fv_at hil, k_f1, k_f1, pk_un hi]
    · rw [List.getElem?_eq_none (by rw [k_fv_len]; omega), List.getElem?_eq_none (by rw [k_fv_len]; omega)]
theorem k_cell {k : Nat} {t : kT} (hs : ok_v T (rv t k)) (h9 : 9 ≤ t.1) (h12 : t.1 < 12) : T[k]? = some t := by
  rcases hs with ⟨-, m', hT, h9', -⟩ | ⟨e, -⟩
  · rw [hT, h9' h9]
  · omega
theorem V_getI {idx ci j k m : Nat} (i : Nat) (hd : (m_tab M)[i]? = some (pc, .getfield idx, 3)) (hf : k_Fi (m_own M) idx ci j) (kk : V G M X T kc ks (pc + 3) lc (iv (h k j) :: st) h) : V G M X T kc ks pc lc (rv (ci, m) k :: st) h := by
  intro C hW hs hl H ls locs hP hA hS hL
  obtain ⟨Cn, F, N, ty, ⟨hc, hin, hty, hnm, hlen, h9⟩, hj, hfd, hlink, -, -⟩ := hf
  rcases hs _ List.mem_cons_self with ⟨h12, m', hT, -, -⟩ | ⟨e, -⟩
  · have w := kk C hW (ok_c (v := iv (h k j)) (a := rv (ci, m) k :: st) (b := st) trivial (fun _ q => List.mem_cons_of_mem _ q) hs) hl H ls locs hP hA hS hL
    show k_W G M X H locs kc ks (F0 (x_m X) pc ls (kc_v G (rv (ci, m) k) :: st.map (kc_v G)))
    rw [kc_r h12]
    exact va_get (v := .int (h k j)) C.1 C.2.1 C.2.2.2.2.1 hin C.2.2.2.1 C.2.2.2.2.2.1 hP k (k_obj hT h9) hc j hj (C.2.2.2.2.1 _ hlink) (fun _ q => q) (k_fv_i hfd) (k_dec C hd) w
  · exact absurd (show ci = 12 from e) (by omega)
theorem V_getR {idx ci j off k : Nat} {t : kT} (k' : Nat) (i : Nat) (hd : (m_tab M)[i]? = some (pc, .getfield idx, 3)) (hf : k_Fr (m_own M) idx ci j off t) (ht : t.1 < 12 ∧ (9 ≤ t.1 ∨ t.2 = 99)) (hk : k + off = k') (kk : V G M X T kc ks (pc + 3) lc (rv t k' :: st) h) : V G M X T kc ks pc lc (rv (ci, 99) k :: st) h := by
  subst hk
  intro C hW hs hl H ls locs hP hA hS hL
  obtain ⟨Cn, F, N, ty, ⟨hc, hin, hty, hnm, hlen, h9⟩, hj, hfd, hlink, hj9⟩ := hf
  rcases hs _ List.mem_cons_self with ⟨h12, m', hT, -, h99⟩ | ⟨e, -⟩
  · obtain rfl : m' = 99 := h99 rfl
    have hch : T[k + off]? = some t := hW k _ hT h9 j (off, t) hfd hj9
    have w := kk C hW (ok_c (v := rv t (k + off)) (a := rv (ci, 99) k :: st) (b := st) (Or.inl ⟨ht.1, t.2, hch, fun _ => rfl, fun q => q⟩) (fun _ q => List.mem_cons_of_mem _ q) hs) hl H ls locs hP hA hS hL
    show k_W G M X H locs kc ks (F0 (x_m X) pc ls (kc_v G (rv (ci, 99) k) :: st.map (kc_v G)))
    have w : k_W G M X H locs kc ks (F0 (x_m X) (pc + 3) ls (kc_v G (rv t (k + off)) :: st.map (kc_v G))) := w
    rw [kc_r h12]
    rw [kc_r ht.1] at w
    exact va_get (v := .ref (g_a G (k + off))) C.1 C.2.1 C.2.2.2.2.1 hin C.2.2.2.1 C.2.2.2.2.2.1 hP k (k_obj hT h9) hc j hj (C.2.2.2.2.1 _ hlink) (fun _ q => q) (by rw [k_fv_r hfd, if_pos hj9]) (k_dec C hd) w
  · exact absurd (show ci = 12 from e) (by omega)
theorem V_putI {idx ci j k m : Nat} {x : Int32} (i : Nat) (hd : (m_tab M)[i]? = some (pc, .putfield idx, 3)) (hf : k_Fi (m_own M) idx ci j) (kk : V G M X T kc ks (pc + 3) lc st (hs h k j x)) : V G M X T kc ks pc lc (iv x :: rv (ci, m) k :: st) h := by
  intro C hW hs' hl H ls locs hP hA hS hL
  obtain ⟨Cn, F, N, ty, ⟨hc, hin, hty, hnm, hlen, h9⟩, hj, hfd, hlink, hI, hfin⟩ := hf
  have hs2 : ∀ v ∈ st, ok_v T v := fun v hv => hs' v (List.mem_cons_of_mem _ (List.mem_cons_of_mem _ hv))
  rcases hs' _ (List.mem_cons_of_mem _ List.mem_cons_self) with ⟨h12, m', hT, -, -⟩ | ⟨e, -⟩
  · show k_W G M X H locs kc ks (F0 (x_m X) pc ls (.int x :: kc_v G (rv (ci, m) k) :: st.map (kc_v G)))
    rw [kc_r h12]
    refine va_put (D := g_D G) (cl := vwCl) (v := .int x) (ty := .int) C.1 C.2.1 C.2.2.2.2.1 hin ty hty hnm C.2.2.2.1 C.2.2.2.2.2.1 hP (k_wl_D hA) hS k (k_obj hT h9) hc j hj (C.2.2.2.2.1 _ hlink) (fun _ q => q) hfin (by rw [hI]; decide +kernel) rfl rfl (by rw [k_fv_len]; show j < (k_fd ci).length; omega) (k_dec C hd) (fun H1 locs1 hP1 hD1 hS1 => ?_)
    have e1 : (k_wl G T h).set k (g_a G k, .inr (ci, (k_fv G k (ci, m') (h k)).set j (.int x))) = k_wl G T (sr h k (upd (h k) j x)) := by
      refine k_wl_put hT ?_
      rw [k_fv_set hfd, k_ce, if_neg (show ¬ ci = 9 by omega), if_neg (show ¬ ci = 10 by omega), if_neg (show ¬ ci = 11 by omega)]
    have hP1 : va_P (g_D G) vwCl ((k_wl G T h).set k (g_a G k, .inr (ci, (k_fv G k (ci, m') (h k)).set j (.int x)))) H1 := hP1
    rw [e1] at hP1
    exact kk C hW hs2 hl H1 ls locs1 hP1 hA hS1 hL
  · exact absurd (show ci = 12 from e) (by omega)
theorem V_iald {n k : Nat} {x : Int32} (i : Nat) (hd : (m_tab M)[i]? = some (pc, .iaload, 1)) (hg : inb x n = true) (kk : V G M X T kc ks (pc + 1) lc (iv (h k x.toNatClampNeg) :: st) h) : V G M X T kc ks pc lc (iv x :: rv (9, n) k :: st) h := by
  intro C hW hs hl H ls locs hP hA hS hL
  have hT := k_cell (hs (rv (9, n) k) (List.mem_cons_of_mem _ List.mem_cons_self)) (Nat.le_of_ble_eq_true rfl) (Nat.le_of_ble_eq_true rfl)
  have w := kk C hW (ok_c (v := iv (h k x.toNatClampNeg)) (a := iv x :: rv (9, n) k :: st) (b := st) trivial (fun _ q => List.mem_cons_of_mem _ (List.mem_cons_of_mem _ q)) hs) hl H ls locs hP hA hS hL
  exact va_iald C.1 C.2.1 C.2.2.2.2.2.1 hP k 0 (k_wl_at hT) rfl (inb_in hg) (k_dec C hd) w
theorem V_bald {n k : Nat} {x : Int32} (i : Nat) (hd : (m_tab M)[i]? = some (pc, .baload, 1)) (hg : inb x n = true) (kk : V G M X T kc ks (pc + 1) lc (iv (h k x.toNatClampNeg) :: st) h) : V G M X T kc ks pc lc (iv x :: rv (10, n) k :: st) h := by
  intro C hW hs hl H ls locs hP hA hS hL
  have hT := k_cell (hs (rv (10, n) k) (List.mem_cons_of_mem _ List.mem_cons_self)) (Nat.le_of_ble_eq_true rfl) (Nat.le_of_ble_eq_true rfl)
  have w := kk C hW (ok_c (v := iv (h k x.toNatClampNeg)) (a := iv x :: rv (10, n) k :: st) (b := st) trivial (fun _ q => List.mem_cons_of_mem _ (List.mem_cons_of_mem _ q)) hs) hl H ls locs hP hA hS hL
  exact va_bald C.1 C.2.1 C.2.2.2.2.2.1 hP k 1 (k_wl_at hT) rfl (inb_in hg) (k_dec C hd) w
theorem V_zald {n k : Nat} {x : Int32} (i : Nat) (hd : (m_tab M)[i]? = some (pc, .baload, 1)) (hg : inb x n = true) (kk : V G M X T kc ks (pc + 1) lc (iv (h k x.toNatClampNeg) :: st) h) : V G M X T kc ks pc lc (iv x :: rv (11, n) k :: st) h := by
  intro C hW hs hl H ls locs hP hA hS hL
  have hT := k_cell (hs (rv (11, n) k) (List.mem_cons_of_mem _ List.mem_cons_self)) (Nat.le_of_ble_eq_true rfl) (Nat.le_of_ble_eq_true rfl)
  have w := kk C hW (ok_c (v := iv (h k x.toNatClampNeg)) (a := iv x :: rv (11, n) k :: st) (b := st) trivial (fun _ q => List.mem_cons_of_mem _ (List.mem_cons_of_mem _ q)) hs) hl H ls locs hP hA hS hL
  exact va_zald C.1 C.2.1 C.2.2.2.2.2.1 hP k 2 (k_wl_at hT) rfl (inb_in hg) (k_dec C hd) w
theorem V_iast {n k : Nat} {x y : Int32} (i : Nat) (hd : (m_tab M)[i]? = some (pc, .iastore, 1)) (hg : inb y n = true) (kk : V G M X T kc ks (pc + 1) lc st (hs h k y.toNatClampNeg x)) : V G M X T kc ks pc lc (iv x :: iv y :: rv (9, n) k :: st) h := by
  intro C hW hs' hl H ls locs hP hA hS hL
  have hT := k_cell (hs' (rv (9, n) k) (List.mem_cons_of_mem _ (List.mem_cons_of_mem _ List.mem_cons_self))) (Nat.le_of_ble_eq_true rfl) (Nat.le_of_ble_eq_true rfl)
  have hs2 : ∀ v ∈ st, ok_v T v := fun v hv => hs' v (List.mem_cons_of_mem _ (List.mem_cons_of_mem _ (List.mem_cons_of_mem _ hv)))
  refine va_iast C.1 C.2.1 C.2.2.2.2.2.1 hP (k_wl_D hA) hS k 0 (k_wl_at hT) rfl (inb_in hg) (k_dec C hd) (fun H1 locs1 hP1 hD1 hS1 => ?_)
  have e1 : (k_wl G T h).set k (g_a G k, .inl (g_I G, n, .inl (upd (h k) y.toNatClampNeg x))) = k_wl G T (hs h k y.toNatClampNeg x) := k_wl_put hT rfl
  have hP2 : va_P (g_D G) vwCl ((k_wl G T h).set k (g_a G k, .inl (g_I G, n, .inl (upd (h k) y.toNatClampNeg x)))) H1 := hP1
  rw [e1] at hP2
  exact kk C hW hs2 hl H1 ls locs1 hP2 hA hS1 hL
theorem V_bast {n k : Nat} {x y : Int32} (i : Nat) (hd : (m_tab M)[i]? = some (pc, .bastore, 1)) (hg : inb y n = true) (kk : V G M X T kc ks (pc + 1) lc st (hs h k y.toNatClampNeg (vp_nar .byte x))) : V G M X T kc ks pc lc (iv x :: iv y :: rv (10, n) k :: st) h := by
  intro C hW hs' hl H ls locs hP hA hS hL
  have hT := k_cell (hs' (rv (10, n) k) (List.mem_cons_of_mem _ (List.mem_cons_of_mem _ List.mem_cons_self))) (Nat.le_of_ble_eq_true rfl) (Nat.le_of_ble_eq_true rfl)
  have hs2 : ∀ v ∈ st, ok_v T v := fun v hv => hs' v (List.mem_cons_of_mem _ (List.mem_cons_of_mem _ (List.mem_cons_of_mem _ hv)))
  refine va_bast C.1 C.2.1 C.2.2.2.2.2.1 hP (k_wl_D hA) hS k 1 (k_wl_at hT) rfl (inb_in hg) (k_dec C hd) (fun H1 locs1 hP1 hD1 hS1 => ?_)
  have e1 : (k_wl G T h).set k (g_a G k, .inl (g_B G, n, .inl (upd (h k) y.toNatClampNeg (vp_nar .byte x)))) = k_wl G T (hs h k y.toNatClampNeg (vp_nar .byte x)) := k_wl_put hT rfl
  have hP2 : va_P (g_D G) vwCl ((k_wl G T h).set k (g_a G k, .inl (g_B G, n, .inl (upd (h k) y.toNatClampNeg (vp_nar .byte x))))) H1 := hP1
  rw [e1] at hP2
  exact kk C hW hs2 hl H1 ls locs1 hP2 hA hS1 hL
theorem V_zast {n k : Nat} {x y : Int32} (i : Nat) (hd : (m_tab M)[i]? = some (pc, .bastore, 1)) (hg : inb y n = true) (kk : V G M X T kc ks (pc + 1) lc st (hs h k y.toNatClampNeg (vp_nar .boolean x))) : V G M X T kc ks pc lc (iv x :: iv y :: rv (11, n) k :: st) h := by
  intro C hW hs' hl H ls locs hP hA hS hL
  have hT := k_cell (hs' (rv (11, n) k) (List.mem_cons_of_mem _ (List.mem_cons_of_mem _ List.mem_cons_self))) (Nat.le_of_ble_eq_true rfl) (Nat.le_of_ble_eq_true rfl)
  have hs2 : ∀ v ∈ st, ok_v T v := fun v hv => hs' v (List.mem_cons_of_mem _ (List.mem_cons_of_mem _ (List.mem_cons_of_mem _ hv)))
  refine va_zast C.1 C.2.1 C.2.2.2.2.2.1 hP (k_wl_D hA) hS k 2 (k_wl_at hT) rfl (inb_in hg) (k_dec C hd) (fun H1 locs1 hP1 hD1 hS1 => ?_)
  have e1 : (k_wl G T h).set k (g_a G k, .inl (g_Z G, n, .inl (upd (h k) y.toNatClampNeg (vp_nar .boolean x)))) = k_wl G T (hs h k y.toNatClampNeg (vp_nar .boolean x)) := k_wl_put hT rfl
  have hP2 : va_P (g_D G) vwCl ((k_wl G T h).set k (g_a G k, .inl (g_Z G, n, .inl (upd (h k) y.toNatClampNeg (vp_nar .boolean x))))) H1 := hP1
  rw [e1] at hP2
  exact kk C hW hs2 hl H1 ls locs1 hP2 hA hS1 hL
theorem V_alen {n k : Nat} (v : Int32) (i : Nat) (hd : (m_tab M)[i]? = some (pc, .arraylength, 1)) (hv : Int32.ofNat n = v) (kk : V G M X T kc ks (pc + 1) lc (iv v :: st) h) : V G M X T kc ks pc lc (rv (9, n) k :: st) h := by
  intro C hW hs hl H ls locs hP hA hS hL
  have hT := k_cell (hs (rv (9, n) k) List.mem_cons_self) (Nat.le_of_ble_eq_true rfl) (Nat.le_of_ble_eq_true rfl)
  have w := kk C hW (ok_c (v := iv v) (a := rv (9, n) k :: st) (b := st) trivial (fun _ q => List.mem_cons_of_mem _ q) hs) hl H ls locs hP hA hS hL
  exact va_alen C.1 C.2.1 C.2.2.2.2.2.1 hP k 0 (k_wl_at hT) rfl hv (k_dec C hd) w
theorem k_stat {j k : Nat} (hs : ok_v T (rv (12, j) k)) : j < 11 := by
  rcases hs with ⟨e, -⟩ | ⟨-, e⟩
  · exact absurd (show 12 < 12 from e) (by decide)
  · exact e
theorem V_tald {j k : Nat} {x : Int32} (i : Nat) (hd : (m_tab M)[i]? = some (pc, .iaload, 1)) (hg : inb x (k_tl G j) = true) (kk : V G M X T kc ks (pc + 1) lc (iv (k_tb G j x.toNatClampNeg) :: st) h) : V G M X T kc ks pc lc (iv x :: rv (12, j) k :: st) h := by
  intro C hW hs hl H ls locs hP hA hS hL
  have hj := k_stat (hs (rv (12, j) k) (List.mem_cons_of_mem _ List.mem_cons_self))
  have w := kk C hW (ok_c (v := iv (k_tb G j x.toNatClampNeg)) (a := iv x :: rv (12, j) k :: st) (b := st) trivial (fun _ q => List.mem_cons_of_mem _ (List.mem_cons_of_mem _ q)) hs) hl H ls locs hP hA hS hL
  exact va_ti C.1 C.2.1 (C.2.2.2.2.2.2.2.1.2 j hj) hS (inb_in hg) rfl (k_dec C hd) w
theorem V_tlen {j k : Nat} (i : Nat) (hd : (m_tab M)[i]? = some (pc, .arraylength, 1)) (kk : V G M X T kc ks (pc + 1) lc (iv (Int32.ofNat (k_tl G j)) :: st) h) : V G M X T kc ks pc lc (rv (12, j) k :: st) h := by
  intro C hW hs hl H ls locs hP hA hS hL
  have hj := k_stat (hs (rv (12, j) k) List.mem_cons_self)
  have w := kk C hW (ok_c (v := iv (Int32.ofNat (k_tl G j))) (a := rv (12, j) k :: st) (b := st) trivial (fun _ q => List.mem_cons_of_mem _ q) hs) hl H ls locs hP hA hS hL
  exact va_tlen C.1 C.2.1 (C.2.2.2.2.2.2.2.1.2 j hj) hS rfl (k_dec C hd) w
theorem V_gets {idx : Nat} (j : Nat) (i : Nat) (hd : (m_tab M)[i]? = some (pc, .getstatic idx, 3)) (hj : j < 10) (hw : Cond.fieldLink (m_own M) idx RX3 (k_sn j) "[I" ∈ kw) (kk : V G M X T kc ks (pc + 3) lc (rv (12, j) 0 :: st) h) : V G M X T kc ks pc lc st h := by
  intro C hW hs hl H ls locs hP hA hS hL
  have w := kk C hW (ok_c (v := rv (12, j) 0) (a := st) (b := st) (Or.inr ⟨rfl, show j < 11 by omega⟩) (fun _ q => q) hs) hl H ls locs hP hA hS hL
  exact va_gets C.1 C.2.1 (C.2.2.2.2.2.2.2.1.1 j hj) hS C.2.2.2.1 (C.2.2.2.2.1 _ hw) (fun _ q => q) (k_dec C hd) w
/-- fewer locals are known -/
def k_msk : List Bool → List (Option kV) → List (Option kV)
  | b :: bs, v :: r => (if b = true then v else none) :: k_msk bs r
  | _, _ => []
theorem k_msk_at : ∀ (bs : List Bool) (l : List (Option kV)) (i : Nat) (v : kV), (k_msk bs l)[i]? = some (some v) → l[i]? = some (some v)
  | [], _, _, _, e => by simp [k_msk] at e
  | _ :: _, [], _, _, e => by simp [k_msk] at e
  | b :: bs, u :: r, 0, v, e => by
    cases b <;> simp [k_msk] at e ⊢
    exact e
  | b :: bs, u :: r, i + 1, v, e => by
    simp only [k_msk, List.getElem?_cons_succ] at e ⊢
    exact k_msk_at bs r i v e
theorem V_msk {lc' : List (Option kV)} (bs : List Bool) (e : k_msk bs lc = lc') (kk : V G M X T kc ks pc lc' st h) : V G M X T kc ks pc lc st h := by
  subst e
  intro C hW hs hl H ls locs hP hA hS hL
  refine kk C hW hs (fun v hv => ?_) H ls locs hP hA hS (k_has_sub hL fun q hq => ?_)
  · obtain ⟨i, hi⟩ := List.getElem?_of_mem hv
    exact hl v (List.mem_of_getElem? (k_msk_at bs lc i v hi))
  · obtain ⟨j, v, h1, rfl⟩ := (k_lc_mem _ 0 q).mp hq
    exact (k_lc_mem _ 0 _).mpr ⟨j, v, k_msk_at bs lc j v h1, rfl⟩
end
end
section
/-! the words of the pure programs -/
def gd {α : Type} (c : Bool) (x : Option α) : Option α := if c = true then x else none
theorem gd_e {α : Type} {c : Bool} {x : Option α} {r : α} (e : gd c x = some r) : c = true ∧ x = some r := by
  unfold gd at e
  by_cases hc : c = true
  · exact ⟨hc, by rw [if_pos hc] at e; exact e⟩
  · rw [if_neg hc] at e; cases e
def le_ {α β : Type} (v : α) (f : α → Option β) : Option β := f v
theorem le_e {α β : Type} {v : α} {f : α → Option β} {r : β} (e : le_ v f = some r) : f v = some r := e
def bd {α β : Type} (x : Option α) (f : α → Option β) : Option β := match x with
  | some a => f a
  | none => none
theorem bd_e {α β : Type} {x : Option α} {f : α → Option β} {r : β} (e : bd x f = some r) : ∃ a, x = some a ∧ f a = some r := by
  cases x with
  | none => cases e
  | some a => exact ⟨a, rfl, e⟩
theorem if_e {α : Type} {c : Prop} [Decidable c] {x y : Option α} {r : α} (e : (if c then x else y) = some r) : (c ∧ x = some r) ∨ (¬ c ∧ y = some r) := by
  by_cases hc : c
  · left; exact ⟨hc, by rw [if_pos hc] at e; exact e⟩
  · right; exact ⟨hc, by rw [if_neg hc] at e; exact e⟩
def fx {σ ρ : Type} (F : (σ → Option ρ) → σ → Option ρ) : Nat → σ → Option ρ
  | 0, _ => none
  | n + 1, s => F (fx F n) s
theorem fx_e {σ ρ : Type} {F : (σ → Option ρ) → σ → Option ρ} {P : σ → Prop} {r : ρ} (hF : ∀ K : σ → Option ρ, (∀ s, K s = some r → P s) → ∀ s, F K s = some r → P s) : ∀ n s, fx F n s = some r → P s
  | 0, s, e => by cases e
  | n + 1, s, e => hF (fx F n) (fx_e hF n) s e
def FU : Nat := 3000
section
variable {G : kG} {M N : kM} {X : kX} {T : List kT} {kc ks pc : Nat} {lc : List (Option kV)} {st : List kV} {h h' : kH}
def m_ws (M : kM) : List Cond := Cond.code (m_y M) (m_cc M) (m_nL M) (m_ret M) :: kw
def k_B (G : kG) (T : List kT) (h : kH) (av : List kV) (U : State) : Prop := va_P (g_D G) vwCl (k_wl G T h) U.heap ∧ va_K (g_D G) vwCl (k_ty G) U ∧ k_NN U ∧ k_SX G U ∧ g_b G ≤ U.heap.size ∧ k_AD G T ∧ k_WF T ∧ ∀ v ∈ av, ok_v T v
def k_Q (G : kG) (T : List kT) (r : Option kV) (h' : kH) : Array Value → State → Outcome → State → Prop := fun _ st oc t => oc = .returned (r.map (kc_v G)) ∧ (∀ v, r = some v → ok_v T v) ∧ va_P (g_D G) vwCl (k_wl G T h') t.heap ∧ va_F (k_A G) st t
/-- a method that makes nothing: started with these arguments in this world it ends with this answer in that world -/
def k_C (G : kG) (M : kM) (T : List kT) (av : List kV) (h : kH) (r : Option kV) (h' : kH) : Prop := Met (g_l G) (m_y M) (m_ws M) (m_rm M) (va_Pc (av.map (kc_v G)) (k_B G T h av)) (k_Q G T r h') 0 0 (k_A G)
theorem k_B_blind {av : List kV} {l : List Value} : FrameBlind (va_Pc l (k_B G T h av)) := by
  intro a U g mk q
  obtain ⟨q0, q1, q2, q3, q4, q5⟩ := q
  exact ⟨q0, q1, va_K.moved (u := U) (U := U.calling g mk a) (Vm.Alike.refl U.vm) q2, fun w hw => va_Nw.same (u := U) rfl rfl (q3 w hw), k_SX_to (s := U) (U := U.calling g mk a) (Vm.Alike.refl U.vm) (fun _ _ _ => rfl) q4, q5⟩
theorem k_B_at (C : k_X G M X) (hW : k_WF T) (hA : k_AD G T) {H : Heap} {locs : List Loc} (hP : va_P (g_D G) vwCl (k_wl G T h) H) (hS : va_S (k_A G) (x_s X).heap H locs) {av : List kV} (hv : ∀ v ∈ av, ok_v T v) {U : State} (hU : U.heap = H) (hw : (x_s X).WarmedH U.vm) : k_B G T h av U :=
  ⟨by rw [hU]; exact hP, va_K.moved hw.alike C.2.2.2.2.2.1, k_NN_warm hw C.2.2.2.2.2.2.1, k_SX_to hw.alike (fun a h1 h2 => by rw [hU]; exact hS.2.1 a h1 h2) C.2.2.2.2.2.2.2.1, by rw [hU]; exact Nat.le_trans C.2.2.2.2.2.2.2.2.1 hS.1, hA, hW, hv⟩
def k_cat : kV → Nat
  | .inr (.inl _) => 2
  | _ => 1
theorem k_cat_eq (v : kV) : (kc_v G v).category = k_cat v := by
  rcases v with x | x | ⟨t, k⟩ <;> rfl
theorem k_cats (st : List kV) : ((st.map (kc_v G)).map fun v => v.category).sum = (st.map k_cat).sum := by
  rw [List.map_map]
  congr 1
  exact List.map_congr_left fun v _ => k_cat_eq v
/-- behind a call -/
theorem V_run {r : Option kV} {a : Array Value} {stk : List kV} (hst : ∀ v ∈ st, v ∈ stk) (hrun : k_X G M X → k_WF T → (∀ v ∈ stk, ok_v T v) → ∀ (H : Heap) (ls : Array Slot) (locs : List Loc), va_P (g_D G) vwCl (k_wl G T h) H → k_AD G T → va_S (k_A G) (x_s X).heap H locs → lv_has ls (m_nL M) (k_lc G 0 lc) → va_Run (x_p X) (g_l G) (x_e X) (m_rm M) (x_s X) (x_m X) (x_a X) (x_w X) (x_h X) (x_c X) H locs kc ks 0 0 (F0 (x_m X) pc ls (stk.map (kc_v G))) (st.map (kc_v G)) (k_Q G T r h' a) (k_A G))
    (kk : V G M X T kc ks (pc + 3) lc (r.toList ++ st) h') : V G M X T kc ks pc lc stk h := by
  intro C hW hs hl H ls locs hP hA hS hL T0 hT0 X0
  obtain ⟨v, st₀, t, T', L, h0, X', hL', e1, e2, ⟨hv, hok, hP', hF1, hF2⟩, stp⟩ := hrun C hW hs H ls locs hP hA hS hL T0 hT0 X0
  rw [h0] at hF1 hF2
  have S' : va_S (k_A G) (x_s X).heap T'.heap (locs ++ L) := ⟨Nat.le_trans hS.1 (by rw [e1]; exact hF1), fun q h1 h2 => by rw [e1, hF2 q (Nat.lt_of_lt_of_le h1 hS.1) h2]; exact hS.2.1 q h1 h2, fun q hq => by
    rcases List.mem_append.mp hq with hq | hq
    · exact hS.2.2 q hq
    · exact hL' q hq⟩
  have hv : v = r.map (kc_v G) := by cases hv; rfl
  subst hv
  have hok2 : ∀ v ∈ r.toList ++ st, ok_v T v := by
    intro v hv
    rcases List.mem_append.mp hv with hv | hv
    · cases r with
      | none => cases hv
      | some u => rw [List.mem_singleton.mp hv]; exact hok u rfl
    · exact hs v (hst v hv)
  obtain ⟨t2, a1, b1⟩ := kk C hW hok2 hl T'.heap ls (locs ++ L) (by rw [e1]; exact hP') hA S' hL T' rfl X'
  refine ⟨t2, stp t2 ?_, b1⟩
  cases r with
  | none => exact a1
  | some u => exact a1
/-- what the tables say of a callee -/
def k_g (N : kM) (n : Nat) : Prop := Cond.code (m_y N) (m_cc N) (m_nL N) (m_ret N) ∈ kw ∧ Cond.initialized (m_y N).cls ∈ kw ∧ ((m_y N).cls ≠ "java/lang/invoke/MethodHandle" ∧ (m_y N).cls ≠ "java/lang/invoke/VarHandle" ∧ (parseMethodDescriptor (m_y N).desc).map (fun d => d.parameters.length) = some n) ∧ (m_rm N).cells = 0 ∧ (m_rm N).slots = 0
def k_gv (N : kM) (ci : Nat) : Prop := Cond.instanceMethod (m_y N) ∈ kw ∧ Cond.selects (m_y N).cls (m_y N) (m_y N) ∈ kw ∧ (∃ q, vwCl[ci]? = some q ∧ q.1 = (m_y N).cls) ∧ ci < 9
/-- the callee's room fits the caller's -/
def k_fit (M N : kM) : Prop := (m_rm N).frames + 1 ≤ (m_rm M).frames ∧ 8 + (m_nL N + 11) + (m_rm N).locals ≤ (m_rm M).locals
theorem k_good (hg : Cond.code (m_y N) (m_cc N) (m_nL N) (m_ret N) ∈ kw) : GoodIn kw (m_ws N) := by
  intro w hw
  rcases List.mem_cons.mp hw with rfl | hw
  · exact kw_good _ hg
  · exact kw_good _ hw
theorem k_room (hc : (st.map k_cat).sum ≤ 8) {m : MethodId} {ls : Array Slot} {s0 : List Value} : 2 * (F0 m pc ls s0).monitorRoom + ((st.map (kc_v G)).map fun v => v.category).sum ≤ 8 := by
  rw [k_cats]
  exact (show 2 * 0 + (st.map k_cat).sum ≤ 8 by omega)
theorem k_stk {av : List kV} : (av.reverse ++ st).map (kc_v G) = (av.map (kc_v G)).reverse ++ st.map (kc_v G) := by
  rw [List.map_append, List.map_reverse]
theorem V_callV {av : List kV} {r : Option kV} {idx n ci k : Nat} {t : kT} (i : Nat) (hd : (m_tab M)[i]? = some (pc, .invokevirtual idx, 3)) (hc : k_C G N T (rv t k :: av) h r h') (hg : k_g N n) (hv : k_gv N ci) (hl : Cond.methodLink (m_own M) idx (m_y N) ∈ kw) (hR : k_fit M N) (ht : t.1 = ci) (hn : av.length = n) (hcat : (st.map k_cat).sum ≤ 8) (hcs : kc ≤ (m_rm M).cells ∧ ks ≤ (m_rm M).slots)
    (kk : V G M X T kc ks (pc + 3) lc (r.toList ++ st) h') : V G M X T kc ks pc lc (av.reverse ++ rv t k :: st) h := by
  subst ht
  obtain ⟨hg1, hg2, hg3, hg4, hg5⟩ := hg
  obtain ⟨hv1, hv2, ⟨q, hq, hqc⟩, h9⟩ := hv
  refine V_run (r := r) (h' := h') (st := st) (a := (Value.ref (g_a G k) :: av.map (kc_v G)).toArray) (fun v hv => List.mem_append_right _ (List.mem_cons_of_mem _ hv)) (fun C hW hs H ls locs hP hA hS hL => ?_) kk
  have hmem : ∀ v ∈ rv t k :: av, ok_v T v := fun v hv => hs v (by
    rcases List.mem_cons.mp hv with rfl | hv
    · exact List.mem_append_right _ List.mem_cons_self
    · exact List.mem_append_left _ (List.mem_reverse.mpr hv))
  rcases hmem _ List.mem_cons_self with ⟨h12, m', hT, -, -⟩ | ⟨e, -⟩
  · have hts := C.2.2.2.2.1
    have hK := C.2.2.2.2.2.1
    have hcw : CallW (m_rm M) (x_s X) (x_a X) (m_own M) (m_y N).cls idx (m_y N) (m_cc N) (m_nL N) (m_ret N) (m_ws N) (m_rm N) 0 0 n := ⟨callB_of n hts (k_good hg1) rfl hg4 hg5 (hts _ hg2) (hts _ hl) hg3 hR, hts _ hv1, hts _ hv2⟩
    have hkc : kc_v G (rv t k) = .ref (g_a G k) := kc_r h12
    refine va_runV (b := g_a G k) (As := av.map (kc_v G)) (Ts := kw) ⟨C.1, C.2.1, C.2.2.1, C.2.2.2.1, hts⟩ hc hcw ⟨k_B_blind, ?_, fun U hU hw => ⟨?_, k_B_at C hW hA hP hS hmem hU hw⟩⟩ rfl (by rw [List.length_map]; exact hn) hL.1 ?_ (k_room hcat) (k_dec C hd) ⟨hcs.1, hcs.2⟩
    · obtain ⟨cell, b1, b2, b3⟩ := va_recv hK hP hq (k_obj (t := (t.1, m')) hT h9)
      exact ⟨cell, b1, b2, by rw [← hqc]; exact b3⟩
    · rw [List.map_cons, hkc]
    · show (av.reverse ++ rv t k :: st).map (kc_v G) = _
      rw [k_stk, List.map_cons, hkc]
  · exact absurd e (by omega)
theorem V_callVN {av : List kV} {r : Option kV} {idx n ci k : Nat} {t : kT} (i : Nat) (hd : (m_tab M)[i]? = some (pc, .invokevirtual idx, 3)) (hc : k_C G N T (rv t k :: av) h r h') (hg : k_g N n) (hv : k_gv N ci) (hl : (m_own M, idx, m_y N, RX7) ∈ kw_nest) (hR : k_fit M N) (ht : t.1 = ci) (hn : av.length = n) (hcat : (st.map k_cat).sum ≤ 8) (hcs : kc ≤ (m_rm M).cells ∧ ks ≤ (m_rm M).slots)
    (kk : V G M X T kc ks (pc + 3) lc (r.toList ++ st) h') : V G M X T kc ks pc lc (av.reverse ++ rv t k :: st) h := by
  subst ht
  obtain ⟨hg1, hg2, hg3, hg4, hg5⟩ := hg
  obtain ⟨hv1, hv2, ⟨q, hq, hqc⟩, h9⟩ := hv
  refine V_run (r := r) (h' := h') (st := st) (a := (Value.ref (g_a G k) :: av.map (kc_v G)).toArray) (fun v hv => List.mem_append_right _ (List.mem_cons_of_mem _ hv)) (fun C hW hs H ls locs hP hA hS hL => ?_) kk
  have hmem : ∀ v ∈ rv t k :: av, ok_v T v := fun v hv => hs v (by
    rcases List.mem_cons.mp hv with rfl | hv
    · exact List.mem_append_right _ List.mem_cons_self
    · exact List.mem_append_left _ (List.mem_reverse.mpr hv))
  rcases hmem _ List.mem_cons_self with ⟨h12, m', hT, -, -⟩ | ⟨e, -⟩
  · have hts := C.2.2.2.2.1
    have hK := C.2.2.2.2.2.1
    have hcw := va_cnB (R := m_rm M) (args := x_a X) (s := x_s X) (index := idx) n hts (k_good hg1) rfl hg4 hg5 (C.2.2.2.2.2.2.1 _ hl) (hts _ hg2) hg3 hR
    have hkc : kc_v G (rv t k) = .ref (g_a G k) := kc_r h12
    refine va_runVN (C := (m_y N).cls) (b := g_a G k) (As := av.map (kc_v G)) (Ts := kw) ⟨C.1, C.2.1, C.2.2.1, C.2.2.2.1, hts⟩ hc ⟨hcw, hts _ hv1, hts _ hv2⟩ ⟨k_B_blind, ?_, fun U hU hw => ⟨?_, k_B_at C hW hA hP hS hmem hU hw⟩⟩ rfl (by rw [List.length_map]; exact hn) hL.1 ?_ (k_room hcat) (k_dec C hd) ⟨hcs.1, hcs.2⟩
    · obtain ⟨cell, b1, b2, b3⟩ := va_recv hK hP hq (k_obj (t := (t.1, m')) hT h9)
      exact ⟨cell, b1, b2, by rw [← hqc]; exact b3⟩
    · rw [List.map_cons, hkc]
    · show (av.reverse ++ rv t k :: st).map (kc_v G) = _
      rw [k_stk, List.map_cons, hkc]
  · exact absurd e (by omega)
theorem V_callS {av : List kV} {r : Option kV} {idx n : Nat} (i : Nat) (hd : (m_tab M)[i]? = some (pc, .invokestatic idx, 3)) (hc : k_C G N T av h r h') (hg : k_g N n) (hv : Cond.static (m_y N) ∈ kw) (hl : Cond.methodLink (m_own M) idx (m_y N) ∈ kw) (hR : k_fit M N) (hn : av.length = n) (hcat : (st.map k_cat).sum ≤ 8) (hcs : kc ≤ (m_rm M).cells ∧ ks ≤ (m_rm M).slots)
    (kk : V G M X T kc ks (pc + 3) lc (r.toList ++ st) h') : V G M X T kc ks pc lc (av.reverse ++ st) h := by
  obtain ⟨hg1, hg2, hg3, hg4, hg5⟩ := hg
  refine V_run (r := r) (h' := h') (st := st) (a := (av.map (kc_v G)).toArray) (fun v hv => List.mem_append_right _ hv) (fun C hW hs H ls locs hP hA hS hL => ?_) kk
  have hmem : ∀ v ∈ av, ok_v T v := fun v hv => hs v (List.mem_append_left _ (List.mem_reverse.mpr hv))
  have hts := C.2.2.2.2.1
  refine va_runS (As := av.map (kc_v G)) (Ts := kw) ⟨C.1, C.2.1, C.2.2.1, C.2.2.2.1, hts⟩ hc ⟨callB_of n hts (k_good hg1) rfl hg4 hg5 (hts _ hg2) (hts _ hl) hg3 hR, hts _ hv⟩ ⟨k_B_blind, fun U hU hw => ⟨rfl, k_B_at C hW hA hP hS hmem hU hw⟩⟩ rfl (by rw [List.length_map]; exact hn) hL.1 ?_ (k_room hcat) (k_dec C hd) ⟨hcs.1, hcs.2⟩
  exact k_stk
theorem V_callSN {av : List kV} {r : Option kV} {idx n : Nat} (i : Nat) (hd : (m_tab M)[i]? = some (pc, .invokestatic idx, 3)) (hc : k_C G N T av h r h') (hg : k_g N n) (hv : Cond.static (m_y N) ∈ kw) (hl : (m_own M, idx, m_y N, RX7) ∈ kw_nest) (hR : k_fit M N) (hn : av.length = n) (hcat : (st.map k_cat).sum ≤ 8) (hcs : kc ≤ (m_rm M).cells ∧ ks ≤ (m_rm M).slots)
    (kk : V G M X T kc ks (pc + 3) lc (r.toList ++ st) h') : V G M X T kc ks pc lc (av.reverse ++ st) h := by
  obtain ⟨hg1, hg2, hg3, hg4, hg5⟩ := hg
  refine V_run (r := r) (h' := h') (st := st) (a := (av.map (kc_v G)).toArray) (fun v hv => List.mem_append_right _ hv) (fun C hW hs H ls locs hP hA hS hL => ?_) kk
  have hmem : ∀ v ∈ av, ok_v T v := fun v hv => hs v (List.mem_append_left _ (List.mem_reverse.mpr hv))
  have hts := C.2.2.2.2.1
  have hcw := va_cnB (R := m_rm M) (args := x_a X) (s := x_s X) (index := idx) n hts (k_good hg1) rfl hg4 hg5 (C.2.2.2.2.2.2.1 _ hl) (hts _ hg2) hg3 hR
  refine va_runSN (As := av.map (kc_v G)) (Ts := kw) ⟨C.1, C.2.1, C.2.2.1, C.2.2.2.1, hts⟩ hc ⟨hcw, hts _ hv, trivial⟩ ⟨k_B_blind, fun U hU hw => ⟨rfl, k_B_at C hW hA hP hS hmem hU hw⟩⟩ rfl (by rw [List.length_map]; exact hn) hL.1 ?_ (k_room hcat) (k_dec C hd) ⟨hcs.1, hcs.2⟩
  exact k_stk
/-- the ends -/
def k_R (G : kG) (M : kM) (X : kX) (T : List kT) (kc ks : Nat) (r : Option kV) (h' : kH) : Prop := x_Q X = MQ (x_w X) (k_Q G T r h') (x_a X) (x_s X) kc ks (k_A G) ∧ (x_h X).sig.returnType = m_ret M ∧ (x_h X).locks = false
theorem V_iret {r : Int32} (i : Nat) (hd : (m_tab M)[i]? = some (pc, .ireturn, 1)) (hR : k_R G M X T kc ks (some (iv r)) h) (hm : m_ret M = some .int) : V G M X T kc ks pc lc [iv r] h := by
  intro C hW hs hl H ls locs hP hA hS hL
  obtain ⟨hQ, hr, hlk⟩ := hR
  show W _ _ _ _ _ _ _ _ _ _ _ _ _ _ (x_Q X) _
  rw [hQ]
  exact W.iret (v := r) C.1 C.2.1 (by rw [hr, hm]) (fun t ht hw => ⟨rfl, fun v hv => by cases hv; exact trivial, by rw [ht]; exact hP, hS.F ht⟩) (fun q hq => hS.2.2 q hq) (k_dec C hd) hlk
theorem V_zret {r : Int32} (i : Nat) (hd : (m_tab M)[i]? = some (pc, .ireturn, 1)) (hb : r &&& 1 = r) (hR : k_R G M X T kc ks (some (iv r)) h) (hm : m_ret M = some .boolean) : V G M X T kc ks pc lc [iv r] h := by
  intro C hW hs hl H ls locs hP hA hS hL
  obtain ⟨hQ, hr, hlk⟩ := hR
  show W _ _ _ _ _ _ _ _ _ _ _ _ _ _ (x_Q X) _
  rw [hQ]
  exact W.zret (v := r) (ty := .boolean) C.1 C.2.1 (by rw [hr, hm]) (by simp [narrow, hb]) (fun t ht hw => ⟨rfl, fun v hv => by cases hv; exact trivial, by rw [ht]; exact hP, hS.F ht⟩) (fun q hq => hS.2.2 q hq) (k_dec C hd) hlk
theorem V_vret (i : Nat) (hd : (m_tab M)[i]? = some (pc, .return_, 1)) (hR : k_R G M X T kc ks none h) (hm : m_ret M = none) : V G M X T kc ks pc lc [] h := by
  intro C hW hs hl H ls locs hP hA hS hL
  obtain ⟨hQ, hr, hlk⟩ := hR
  show W _ _ _ _ _ _ _ _ _ _ _ _ _ _ (x_Q X) _
  rw [hQ]
  exact W.vret C.1 C.2.1 (by rw [hr, hm]) (fun t ht hw => ⟨rfl, (fun v hv => (by cases hv)), (by rw [ht]; exact hP), hS.F ht⟩) (fun q hq => hS.2.2 q hq) (k_dec C hd) hlk
theorem V_aret {t : kT} {k : Nat} {rt : FieldType} (i : Nat) (hd : (m_tab M)[i]? = some (pc, .areturn, 1)) (hR : k_R G M X T kc ks (some (rv t k)) h) (hm : m_ret M = some rt) (hrt : (∃ n, rt = .object n) ∨ ∃ t, rt = .array t) : V G M X T kc ks pc lc [rv t k] h := by
  intro C hW hs hl H ls locs hP hA hS hL
  obtain ⟨hQ, hr, hlk⟩ := hR
  show W _ _ _ _ _ _ _ _ _ _ _ _ _ _ (x_Q X) _
  rw [hQ]
  exact W.aret (v := kc_v G (rv t k)) C.1 C.2.1 (by rw [hr, hm]) hrt (Or.inr ⟨_, rfl⟩) (fun t ht hw => ⟨rfl, fun v hv => by cases hv; exact hs _ List.mem_cons_self, by rw [ht]; exact hP, hS.F ht⟩) (fun q hq => hS.2.2 q hq) (k_dec C hd) hlk
/-- Math.min, Math.max -/
theorem V_mmin {x y : Int32} {idx : Nat} (i : Nat) (hd : (m_tab M)[i]? = some (pc, .invokestatic idx, 3)) (hl : Cond.methodLink (m_own M) idx Lib.Math.min.name ∈ kw) (hw1 : Cond.static Lib.Math.min.name ∈ kw) (hw2 : Cond.initialized "java/lang/Math" ∈ kw) (hw3 : Cond.code Lib.Math.min.name Lib.Math.min.code 2 (some .int) ∈ kw) (hR : 1 ≤ (m_rm M).frames ∧ (st.map k_cat).sum + 13 ≤ (m_rm M).locals) (hcs : kc ≤ (m_rm M).cells ∧ ks ≤ (m_rm M).slots)
    (kk : V G M X T kc ks (pc + 3) lc (iv (if y < x then y else x) :: st) h) : V G M X T kc ks pc lc (iv y :: iv x :: st) h := by
  intro C hW hs hl' H ls locs hP hA hS hL
  have hts := C.2.2.2.2.1
  have w := kk C hW (ok_c (v := iv (if y < x then y else x)) (a := iv y :: iv x :: st) (b := st) trivial (fun _ q => List.mem_cons_of_mem _ (List.mem_cons_of_mem _ q)) hs) hl' H ls locs hP hA hS hL
  exact va_mmin C.1 C.2.1 (by rw [C.2.2.1]; exact hL.1.symm) C.2.2.2.1 (hts _ hl) (hts _ hw1) (hts _ hw2) (hts _ hw3) hR.1 (by rw [k_cats]; exact hR.2) hcs.1 hcs.2 (k_dec C hd) w
theorem V_mmax {x y : Int32} {idx : Nat} (i : Nat) (hd : (m_tab M)[i]? = some (pc, .invokestatic idx, 3)) (hl : Cond.methodLink (m_own M) idx Lib.Math.max.name ∈ kw) (hw1 : Cond.static Lib.Math.max.name ∈ kw) (hw2 : Cond.initialized "java/lang/Math" ∈ kw) (hw3 : Cond.code Lib.Math.max.name Lib.Math.max.code 2 (some .int) ∈ kw) (hR : 1 ≤ (m_rm M).frames ∧ (st.map k_cat).sum + 13 ≤ (m_rm M).locals) (hcs : kc ≤ (m_rm M).cells ∧ ks ≤ (m_rm M).slots)
    (kk : V G M X T kc ks (pc + 3) lc (iv (if x < y then y else x) :: st) h) : V G M X T kc ks pc lc (iv y :: iv x :: st) h := by
  intro C hW hs hl' H ls locs hP hA hS hL
  have hts := C.2.2.2.2.1
  have w := kk C hW (ok_c (v := iv (if x < y then y else x)) (a := iv y :: iv x :: st) (b := st) trivial (fun _ q => List.mem_cons_of_mem _ (List.mem_cons_of_mem _ q)) hs) hl' H ls locs hP hA hS hL
  exact va_mmax C.1 C.2.1 (by rw [C.2.2.1]; exact hL.1.symm) C.2.2.2.1 (hts _ hl) (hts _ hw1) (hts _ hw2) (hts _ hw3) hR.1 (by rw [k_cats]; exact hR.2) hcs.1 hcs.2 (k_dec C hd) w
/-- the start of a method -/
def k_ent : List kV → List (Option kV)
  | [] => []
  | v :: r => if k_cat v = 2 then some v :: none :: k_ent r else some v :: k_ent r
theorem k_ent_mem : ∀ (av : List kV) (i : Nat) (q : Nat × Value), q ∈ k_lc G i (k_ent av) → q ∈ lv_args i (av.map (kc_v G))
  | [], i, q, hq => by simp [k_ent, k_lc] at hq
  | v :: r, i, q, hq => by
    rw [List.map_cons, lv_args, k_cat_eq]
    by_cases h2 : k_cat v = 2
    · rw [k_ent, if_pos h2, k_lc, k_lc] at hq
      rw [if_pos h2]
      rcases List.mem_cons.mp hq with rfl | hq
      · exact List.mem_cons_self
      · exact List.mem_cons_of_mem _ (k_ent_mem r _ q hq)
    · rw [k_ent, if_neg h2, k_lc] at hq
      rw [if_neg h2]
      rcases List.mem_cons.mp hq with rfl | hq
      · exact List.mem_cons_self
      · exact List.mem_cons_of_mem _ (k_ent_mem r _ q hq)
theorem k_lc_app : ∀ (l : List (Option kV)) (n i : Nat), k_lc G i (l ++ List.replicate n none) = k_lc G i l
  | [], 0, i => by simp [k_lc]
  | [], n + 1, i => by
    have := k_lc_app [] n (i + 1)
    rw [List.nil_append] at this
    rw [List.nil_append, List.replicate_succ]
    show k_lc G (i + 1) (List.replicate n none) = _
    rw [this]
    rfl
  | none :: r, n, i => by rw [List.cons_append, k_lc, k_lc, k_lc_app r n (i + 1)]
  | some v :: r, n, i => by rw [List.cons_append, k_lc, k_lc, k_lc_app r n (i + 1)]
theorem k_ent_ok {av : List kV} : ∀ v, some v ∈ k_ent av → v ∈ av := by
  induction av with
  | nil => intro v hv; simp [k_ent] at hv
  | cons u r ih =>
    intro v hv
    by_cases h2 : k_cat u = 2
    · rw [k_ent, if_pos h2] at hv
      rcases List.mem_cons.mp hv with e | hv
      · cases e; exact List.mem_cons_self
      · rcases List.mem_cons.mp hv with e | hv
        · cases e
        · exact List.mem_cons_of_mem _ (ih v hv)
    · rw [k_ent, if_neg h2] at hv
      rcases List.mem_cons.mp hv with e | hv
      · cases e; exact List.mem_cons_self
      · exact List.mem_cons_of_mem _ (ih v hv)
theorem k_sl_len (av : List kV) : (lg_sl (av.map (kc_v G))).length = (av.map k_cat).sum := by
  induction av with
  | nil => rfl
  | cons v r ih =>
    rw [List.map_cons, List.map_cons, List.sum_cons, ← ih, lg_sl, List.flatMap_cons, List.length_append, k_cat_eq]
    congr 1
    by_cases h2 : k_cat v = 2
    · rw [if_pos h2, h2]; rfl
    · rw [if_neg h2]
      rcases v with x | x | ⟨t, k⟩
      · rfl
      · exact absurd rfl h2
      · rfl
/-- a contract out of its walk -/
theorem k_C_of {av : List kV} {r : Option kV} (n : Nat) (hy : plainName (m_y M).cls = true) (hcls : (m_y M).cls = m_own M) (htab : ∀ q ∈ m_tab M, decode (m_cc M) q.1 = .ok q.2) (hn : (av.map k_cat).sum + n = m_nL M)
    (walk : ∀ X : kX, k_R G M X T 0 0 r h' → V G M X T 0 0 0 (k_ent av ++ List.replicate n none) [] h) : k_C G M T av h r h' := by
  refine Met.ofW (cc := m_cc M) (maxL := m_nL M) (ret := m_ret M) hy rfl ?_
  intro p e s m args below meth c s₁ B hml hv
  obtain ⟨rfl, hP, hK, hNN, hSX, hgb, hA, hW, hok⟩ := hv
  have hts := atoms_spec (ws := m_ws M) B.pre
  have hown : s.vm.findClass (m_own M) = some m.cls := by rw [← hcls]; exact findClass_of_methodNamed B.named
  have hl := lv_entry (av.map (kc_v G)) (n := m_nL M) (by rw [k_sl_len]; omega)
  rw [lg_entry_eq]
  generalize (lg_sl (av.map (kc_v G)) ++ List.replicate (m_nL M - (lg_sl (av.map (kc_v G))).length) Slot.unset).toArray = ls at hl ⊢
  refine walk (p, e, s, m, (av.map (kc_v G)).toArray, below, meth, c, MQ below (k_Q G T r h') (av.map (kc_v G)).toArray s 0 0 (k_A G)) ⟨rfl, B.returns, B.notSynchronized⟩ ⟨B.exec, B.bytes, hml, hown, fun w hw => hts w (List.mem_cons_of_mem _ hw), hK, hNN, hSX, hgb, htab⟩ hW (fun v hv => by cases hv) (fun v hv => ?_) s.heap ls [] hP hA va_S.rf ?_
  · rcases List.mem_append.mp hv with hv | hv
    · exact hok v (k_ent_ok v hv)
    · cases (List.mem_replicate.mp hv).2
  · rw [k_lc_app]
    exact k_has_sub hl (fun q hq => k_ent_mem av 0 q hq)
end
end
section
/-! rows in the generator's words -/
def krem (x y : Int32) : Int32 := x - x / y * y
def lrem_ (x y : Int64) : Int64 := x - x / y * y
def bd2 {α β γ : Type} (x : Option (α × β)) (f : α → β → Option γ) : Option γ := match x with
  | some (a, b) => f a b
  | none => none
theorem bd2_e {α β γ : Type} {x : Option (α × β)} {f : α → β → Option γ} {r : γ} (e : bd2 x f = some r) : ∃ a b, x = some (a, b) ∧ f a b = some r := by
  rcases x with _ | ⟨a, b⟩
  · cases e
  · exact ⟨a, b, rfl, e⟩
theorem le_V {α β : Type} {v : α} {f : α → Option β} {r : β} {P : α → Prop} (e : le_ v f = some r) (k : ∀ x, f x = some r → P x) : P v := k v e
def tsel (dflt lo hi : Int) (offs : Array Int) (x : Int) : Int := if x < lo ∨ hi < x then dflt else offs[(x - lo).toNat]?.getD dflt
theorem tsel_d {dflt lo hi : Int} {offs : Array Int} {x : Int32} (keys : List Int) (hk : ∀ k ∈ keys, ¬ x = Int32.ofInt k) (hc : ∀ j, j < offs.size → offs[j]?.getD dflt = dflt ∨ (lo + (j : Int)) ∈ keys) : tsel dflt lo hi offs x.toInt = dflt := by
  unfold tsel
  by_cases h1 : x.toInt < lo ∨ hi < x.toInt
  · rw [if_pos h1]
  · rw [if_neg h1]
    by_cases h2 : (x.toInt - lo).toNat < offs.size
    · rcases hc _ h2 with h3 | h3
      · exact h3
      · exfalso
        have h4 : lo + ((x.toInt - lo).toNat : Int) = x.toInt := by omega
        rw [h4] at h3
        exact hk _ h3 (Int32.ofInt_toInt x).symm
    · rw [Array.getElem?_eq_none (by omega)]; rfl
section
variable {G : kG} {M N : kM} {X : kX} {T : List kT} {kc ks pc : Nat} {lc : List (Option kV)} {st : List kV} {h h' : kH}
theorem V_rem {x y : Int32} (i : Nat) (hd : (m_tab M)[i]? = some (pc, .irem, 1)) (hne : ¬ y = 0) (k : V G M X T kc ks (pc + 1) lc (iv (krem x y) :: st) h) : V G M X T kc ks pc lc (iv y :: iv x :: st) h := V_irem i hd hne k
theorem V_remL {x y : Int64} (i : Nat) (hd : (m_tab M)[i]? = some (pc, .lrem, 1)) (hne : ¬ y = 0) (k : V G M X T kc ks (pc + 1) lc (jv (lrem_ x y) :: st) h) : V G M X T kc ks pc lc (jv y :: jv x :: st) h := V_lrem i hd hne k
theorem V_tab {dflt lo hi off : Int} {offs : Array Int} {len : Nat} {x : Int32} (tgt : Nat) (i : Nat) (hd : (m_tab M)[i]? = some (pc, .tableswitch dflt lo hi offs, len)) (hs : offs.size = (hi - lo + 1).toNat) (ho : tsel dflt lo hi offs x.toInt = off) (ht : (pc : Int) + off = (tgt : Int)) (k : V G M X T kc ks tgt lc st h) : V G M X T kc ks pc lc (iv x :: st) h := by
  unfold tsel at ho
  by_cases h1 : x.toInt < lo ∨ hi < x.toInt
  · rw [if_pos h1] at ho
    subst ho
    exact V_tabOut tgt i hd h1 ht k
  · rw [if_neg h1] at ho
    have h2 : (x.toInt - lo).toNat < offs.size := by omega
    rw [Array.getElem?_eq_getElem h2] at ho
    exact V_tabIn tgt i hd (fun q => h1 (Or.inl q)) (fun q => h1 (Or.inr q)) (by rw [Array.getElem?_eq_getElem h2]; exact congrArg some ho) ht k
theorem V_tlenC {j k : Nat} (i : Nat) (hd : (m_tab M)[i]? = some (pc, .arraylength, 1)) (hj : decide (j < 10) = true) (kk : V G M X T kc ks (pc + 1) lc (iv (Int32.ofNat (k_sl j).length) :: st) h) : V G M X T kc ks pc lc (rv (12, j) k :: st) h := by
  have hj : ¬ j = 10 := by have := of_decide_eq_true hj; omega
  refine V_tlen i hd ?_
  rw [show k_tl G j = (k_sl j).length from if_neg hj]
  exact kk
theorem V_taldC {j k : Nat} {x : Int32} (i : Nat) (hd : (m_tab M)[i]? = some (pc, .iaload, 1)) (hj : decide (j < 10) = true) (hg : inb x (k_sl j).length = true) (kk : V G M X T kc ks (pc + 1) lc (iv ((k_sl j).getD x.toNatClampNeg 0) :: st) h) : V G M X T kc ks pc lc (iv x :: rv (12, j) k :: st) h := by
  have hj : ¬ j = 10 := by have := of_decide_eq_true hj; omega
  refine V_tald i hd ?_ ?_
  · rw [show k_tl G j = (k_sl j).length from if_neg hj]
    exact hg
  · rw [show k_tb G j x.toNatClampNeg = (k_sl j).getD x.toNatClampNeg 0 from if_neg hj]
    exact kk
theorem V_slen {k : Nat} (i : Nat) (hd : (m_tab M)[i]? = some (pc, .arraylength, 1)) (kk : V G M X T kc ks (pc + 1) lc (iv (Int32.ofNat (g_n G)) :: st) h) : V G M X T kc ks pc lc (rv (12, 10) k :: st) h := V_tlen i hd kk
theorem V_sld {k : Nat} {x : Int32} (i : Nat) (hd : (m_tab M)[i]? = some (pc, .iaload, 1)) (hg : inb x (g_n G) = true) (kk : V G M X T kc ks (pc + 1) lc (iv (g_xs G x.toNatClampNeg) :: st) h) : V G M X T kc ks pc lc (iv x :: rv (12, 10) k :: st) h := V_tald i hd hg kk
end
theorem ic_m1 : Int32.ofInt (-1) = (-1 : Int32) := by decide +kernel
theorem ic_0 : Int32.ofInt (0) = nI 0 := by decide +kernel
theorem ic_1 : Int32.ofInt (1) = nI 1 := by decide +kernel
theorem ic_2 : Int32.ofInt (2) = nI 2 := by decide +kernel
theorem ic_3 : Int32.ofInt (3) = nI 3 := by decide +kernel
theorem ic_4 : Int32.ofInt (4) = nI 4 := by decide +kernel
theorem ic_5 : Int32.ofInt (5) = nI 5 := by decide +kernel
theorem ic_10 : Int32.ofInt (10) = nI 10 := by decide +kernel
theorem ic_30 : Int32.ofInt (30) = nI 30 := by decide +kernel
theorem bp_m4 : (Int8.ofInt (-4)).toInt32 = (-4 : Int32) := by decide +kernel
theorem bp_m3 : (Int8.ofInt (-3)).toInt32 = (-3 : Int32) := by decide +kernel
theorem bp_m2 : (Int8.ofInt (-2)).toInt32 = (-2 : Int32) := by decide +kernel
theorem bp_6 : (Int8.ofInt (6)).toInt32 = nI 6 := by decide +kernel
theorem bp_7 : (Int8.ofInt (7)).toInt32 = nI 7 := by decide +kernel
theorem bp_8 : (Int8.ofInt (8)).toInt32 = nI 8 := by decide +kernel
theorem bp_9 : (Int8.ofInt (9)).toInt32 = nI 9 := by decide +kernel
theorem bp_10 : (Int8.ofInt (10)).toInt32 = nI 10 := by decide +kernel
theorem bp_11 : (Int8.ofInt (11)).toInt32 = nI 11 := by decide +kernel
theorem bp_14 : (Int8.ofInt (14)).toInt32 = nI 14 := by decide +kernel
theorem bp_15 : (Int8.ofInt (15)).toInt32 = nI 15 := by decide +kernel
theorem bp_16 : (Int8.ofInt (16)).toInt32 = nI 16 := by decide +kernel
theorem bp_17 : (Int8.ofInt (17)).toInt32 = nI 17 := by decide +kernel
theorem bp_18 : (Int8.ofInt (18)).toInt32 = nI 18 := by decide +kernel
theorem bp_19 : (Int8.ofInt (19)).toInt32 = nI 19 := by decide +kernel
theorem bp_20 : (Int8.ofInt (20)).toInt32 = nI 20 := by decide +kernel
theorem bp_21 : (Int8.ofInt (21)).toInt32 = nI 21 := by decide +kernel
theorem bp_22 : (Int8.ofInt (22)).toInt32 = nI 22 := by decide +kernel
theorem bp_23 : (Int8.ofInt (23)).toInt32 = nI 23 := by decide +kernel
theorem bp_24 : (Int8.ofInt (24)).toInt32 = nI 24 := by decide +kernel
theorem bp_25 : (Int8.ofInt (25)).toInt32 = nI 25 := by decide +kernel
theorem bp_26 : (Int8.ofInt (26)).toInt32 = nI 26 := by decide +kernel
theorem bp_27 : (Int8.ofInt (27)).toInt32 = nI 27 := by decide +kernel
theorem bp_28 : (Int8.ofInt (28)).toInt32 = nI 28 := by decide +kernel
theorem bp_30 : (Int8.ofInt (30)).toInt32 = nI 30 := by decide +kernel
theorem bp_31 : (Int8.ofInt (31)).toInt32 = nI 31 := by decide +kernel
theorem bp_32 : (Int8.ofInt (32)).toInt32 = nI 32 := by decide +kernel
theorem bp_36 : (Int8.ofInt (36)).toInt32 = nI 36 := by decide +kernel
theorem bp_40 : (Int8.ofInt (40)).toInt32 = nI 40 := by decide +kernel
theorem bp_44 : (Int8.ofInt (44)).toInt32 = nI 44 := by decide +kernel
theorem bp_48 : (Int8.ofInt (48)).toInt32 = nI 48 := by decide +kernel
theorem bp_57 : (Int8.ofInt (57)).toInt32 = nI 57 := by decide +kernel
theorem bp_59 : (Int8.ofInt (59)).toInt32 = nI 59 := by decide +kernel
theorem bp_60 : (Int8.ofInt (60)).toInt32 = nI 60 := by decide +kernel
theorem bp_75 : (Int8.ofInt (75)).toInt32 = nI 75 := by decide +kernel
theorem bp_90 : (Int8.ofInt (90)).toInt32 = nI 90 := by decide +kernel
theorem bp_99 : (Int8.ofInt (99)).toInt32 = nI 99 := by decide +kernel
theorem bp_100 : (Int8.ofInt (100)).toInt32 = nI 100 := by decide +kernel
theorem bp_104 : (Int8.ofInt (104)).toInt32 = nI 104 := by decide +kernel
theorem bp_107 : (Int8.ofInt (107)).toInt32 = nI 107 := by decide +kernel
theorem bp_108 : (Int8.ofInt (108)).toInt32 = nI 108 := by decide +kernel
theorem bp_111 : (Int8.ofInt (111)).toInt32 = nI 111 := by decide +kernel
theorem bp_112 : (Int8.ofInt (112)).toInt32 = nI 112 := by decide +kernel
theorem bp_115 : (Int8.ofInt (115)).toInt32 = nI 115 := by decide +kernel
theorem bp_118 : (Int8.ofInt (118)).toInt32 = nI 118 := by decide +kernel
theorem bp_119 : (Int8.ofInt (119)).toInt32 = nI 119 := by decide +kernel
theorem bp_120 : (Int8.ofInt (120)).toInt32 = nI 120 := by decide +kernel
theorem sp_150 : (Int16.ofInt (150)).toInt32 = nI 150 := by decide +kernel
theorem sp_198 : (Int16.ofInt (198)).toInt32 = nI 198 := by decide +kernel
theorem sp_199 : (Int16.ofInt (199)).toInt32 = nI 199 := by decide +kernel
theorem sp_200 : (Int16.ofInt (200)).toInt32 = nI 200 := by decide +kernel
theorem sp_240 : (Int16.ofInt (240)).toInt32 = nI 240 := by decide +kernel
theorem sp_300 : (Int16.ofInt (300)).toInt32 = nI 300 := by decide +kernel
theorem sp_500 : (Int16.ofInt (500)).toInt32 = nI 500 := by decide +kernel
theorem sp_600 : (Int16.ofInt (600)).toInt32 = nI 600 := by decide +kernel
theorem sp_630 : (Int16.ofInt (630)).toInt32 = nI 630 := by decide +kernel
theorem sp_720 : (Int16.ofInt (720)).toInt32 = nI 720 := by decide +kernel
theorem sp_800 : (Int16.ofInt (800)).toInt32 = nI 800 := by decide +kernel
theorem sp_999 : (Int16.ofInt (999)).toInt32 = nI 999 := by decide +kernel
theorem sp_3000 : (Int16.ofInt (3000)).toInt32 = nI 3000 := by decide +kernel
theorem sp_7200 : (Int16.ofInt (7200)).toInt32 = nI 7200 := by decide +kernel
theorem sp_10000 : (Int16.ofInt (10000)).toInt32 = nI 10000 := by decide +kernel
theorem inc_m1 (x : Int32) : x + Int32.ofInt (-1) = x + ((-1 : Int32)) := by rw [ic_m1]
theorem inc_1 (x : Int32) : x + Int32.ofInt (1) = x + (nI 1) := by rw [ic_1]
theorem inc_5 (x : Int32) : x + Int32.ofInt (5) = x + (nI 5) := by rw [ic_5]
theorem inc_10 (x : Int32) : x + Int32.ofInt (10) = x + (nI 10) := by rw [ic_10]
theorem inc_30 (x : Int32) : x + Int32.ofInt (30) = x + (nI 30) := by rw [ic_30]
theorem z_0 : nI 0 &&& 1 = nI 0 := by decide +kernel
theorem z_1 : nI 1 &&& 1 = nI 1 := by decide +kernel
theorem kl_RX5_50 : Cond.constantLong RX5 50 (7919 : Int64) ∈ kw := kw_w 800 (by decide +kernel) (by decide +kernel)
theorem kl_RX5_52 : Cond.constantLong RX5 52 (6151 : Int64) ∈ kw := kw_w 801 (by decide +kernel) (by decide +kernel)
theorem kl_RX5_54 : Cond.constantLong RX5 54 (65521 : Int64) ∈ kw := kw_w 802 (by decide +kernel) (by decide +kernel)
theorem kl_RX8_66 : Cond.constantLong RX8 66 (8 : Int64) ∈ kw := kw_w 924 (by decide +kernel) (by decide +kernel)
theorem kl_RX8_79 : Cond.constantLong RX8 79 (48 : Int64) ∈ kw := kw_w 947 (by decide +kernel) (by decide +kernel)
theorem kl_RX8_81 : Cond.constantLong RX8 81 (57 : Int64) ∈ kw := kw_w 948 (by decide +kernel) (by decide +kernel)
theorem kl_RX8_83 : Cond.constantLong RX8 83 (3 : Int64) ∈ kw := kw_w 949 (by decide +kernel) (by decide +kernel)
theorem kl_RX8_127 : Cond.constantLong RX8 127 (5 : Int64) ∈ kw := kw_w 975 (by decide +kernel) (by decide +kernel)
theorem kl_RX8_161 : Cond.constantLong RX8 161 (9 : Int64) ∈ kw := kw_w 1002 (by decide +kernel) (by decide +kernel)
theorem kl_RX8_139 : Cond.constantLong RX8 139 (-1 : Int64) ∈ kw := kw_w 1027 (by decide +kernel) (by decide +kernel)
theorem kl_RX8_169 : Cond.constantLong RX8 169 (99 : Int64) ∈ kw := kw_w 1036 (by decide +kernel) (by decide +kernel)
theorem kl_RX8_171 : Cond.constantLong RX8 171 (240 : Int64) ∈ kw := kw_w 1053 (by decide +kernel) (by decide +kernel)
theorem kl_RX8_185 : Cond.constantLong RX8 185 (4 : Int64) ∈ kw := kw_w 1089 (by decide +kernel) (by decide +kernel)
theorem kl_RX8_199 : Cond.constantLong RX8 199 (6 : Int64) ∈ kw := kw_w 1106 (by decide +kernel) (by decide +kernel)
theorem kl_RX8_217 : Cond.constantLong RX8 217 (9999 : Int64) ∈ kw := kw_w 1142 (by decide +kernel) (by decide +kernel)
theorem kl_RX8_208 : Cond.constantLong RX8 208 (7919 : Int64) ∈ kw := kw_w 1151 (by decide +kernel) (by decide +kernel)
theorem kl_RX8_210 : Cond.constantLong RX8 210 (6151 : Int64) ∈ kw := kw_w 1152 (by decide +kernel) (by decide +kernel)
theorem kl_RX8_212 : Cond.constantLong RX8 212 (65521 : Int64) ∈ kw := kw_w 1153 (by decide +kernel) (by decide +kernel)
theorem kl_RX8_225 : Cond.constantLong RX8 225 (2 : Int64) ∈ kw := kw_w 1162 (by decide +kernel) (by decide +kernel)
theorem kl_RL_13 : Cond.constantLong RL 13 (4294967295 : Int64) ∈ kw := kw_w 1179 (by decide +kernel) (by decide +kernel)
theorem fr_RX7_98 : k_Fr RX7 98 1 0 1 (9, 30) := ⟨RX1, TX1, 6, tyX1, k_cls1, by decide, rfl, kw_w 194 (by decide +kernel) (by decide +kernel), by decide⟩
theorem fr_RX7_103 : k_Fr RX7 103 1 1 2 (9, 30) := ⟨RX1, TX1, 6, tyX1, k_cls1, by decide, rfl, kw_w 196 (by decide +kernel) (by decide +kernel), by decide⟩
theorem fr_RX7_106 : k_Fr RX7 106 1 2 3 (9, 30) := ⟨RX1, TX1, 6, tyX1, k_cls1, by decide, rfl, kw_w 199 (by decide +kernel) (by decide +kernel), by decide⟩
theorem fr_RX7_109 : k_Fr RX7 109 1 3 4 (11, 30) := ⟨RX1, TX1, 6, tyX1, k_cls1, by decide, rfl, kw_w 202 (by decide +kernel) (by decide +kernel), by decide⟩
theorem fr_RX7_117 : k_Fr RX7 117 1 4 5 (11, 30) := ⟨RX1, TX1, 6, tyX1, k_cls1, by decide, rfl, kw_w 205 (by decide +kernel) (by decide +kernel), by decide⟩
theorem fi_RX7_217 : k_Fi RX7 217 4 0 := ⟨RX4, TX4, 12, tyX4, k_cls4, by decide, rfl, kw_w 230 (by decide +kernel) (by decide +kernel), rfl, rfl⟩
theorem fr_RX7_133 : k_Fr RX7 133 4 1 1 (9, 6) := ⟨RX4, TX4, 12, tyX4, k_cls4, by decide, rfl, kw_w 232 (by decide +kernel) (by decide +kernel), by decide⟩
theorem fr_RX7_139 : k_Fr RX7 139 4 3 3 (9, 6) := ⟨RX4, TX4, 12, tyX4, k_cls4, by decide, rfl, kw_w 236 (by decide +kernel) (by decide +kernel), by decide⟩
theorem fr_RX7_201 : k_Fr RX7 201 4 4 4 (9, 6) := ⟨RX4, TX4, 12, tyX4, k_cls4, by decide, rfl, kw_w 238 (by decide +kernel) (by decide +kernel), by decide⟩
theorem fr_RX7_136 : k_Fr RX7 136 4 6 6 (9, 6) := ⟨RX4, TX4, 12, tyX4, k_cls4, by decide, rfl, kw_w 241 (by decide +kernel) (by decide +kernel), by decide⟩
theorem fr_RX7_142 : k_Fr RX7 142 4 7 7 (9, 6) := ⟨RX4, TX4, 12, tyX4, k_cls4, by decide, rfl, kw_w 243 (by decide +kernel) (by decide +kernel), by decide⟩
theorem fr_RX7_162 : k_Fr RX7 162 4 8 8 (9, 6) := ⟨RX4, TX4, 12, tyX4, k_cls4, by decide, rfl, kw_w 245 (by decide +kernel) (by decide +kernel), by decide⟩
theorem fr_RX7_149 : k_Fr RX7 149 4 9 9 (9, 6) := ⟨RX4, TX4, 12, tyX4, k_cls4, by decide, rfl, kw_w 247 (by decide +kernel) (by decide +kernel), by decide⟩
theorem fr_RX7_94 : k_Fr RX7 94 2 0 1 (1, 99) := ⟨RX2, TX2, 3, tyX2, k_cls2, by decide, rfl, kw_w 316 (by decide +kernel) (by decide +kernel), by decide⟩
theorem fr_RX7_120 : k_Fr RX7 120 2 1 8 (4, 99) := ⟨RX2, TX2, 3, tyX2, k_cls2, by decide, rfl, kw_w 319 (by decide +kernel) (by decide +kernel), by decide⟩
theorem fi_RX7_258 : k_Fi RX7 258 2 2 := ⟨RX2, TX2, 3, tyX2, k_cls2, by decide, rfl, kw_w 323 (by decide +kernel) (by decide +kernel), rfl, rfl⟩
theorem fr_RX7_9 : k_Fr RX7 9 7 0 1 (10, 500) := ⟨RX7, TX7, 14, tyX7, k_cls7, by decide, rfl, kw_w 379 (by decide +kernel) (by decide +kernel), by decide⟩
theorem fi_RX7_13 : k_Fi RX7 13 7 1 := ⟨RX7, TX7, 14, tyX7, k_cls7, by decide, rfl, kw_w 380 (by decide +kernel) (by decide +kernel), rfl, rfl⟩
theorem fr_RX7_20 : k_Fr RX7 20 7 2 2 (3, 99) := ⟨RX7, TX7, 14, tyX7, k_cls7, by decide, rfl, kw_w 381 (by decide +kernel) (by decide +kernel), by decide⟩
theorem fr_RX7_27 : k_Fr RX7 27 7 3 28 (5, 99) := ⟨RX7, TX7, 14, tyX7, k_cls7, by decide, rfl, kw_w 382 (by decide +kernel) (by decide +kernel), by decide⟩
theorem fr_RX7_34 : k_Fr RX7 34 7 4 31 (2, 99) := ⟨RX7, TX7, 14, tyX7, k_cls7, by decide, rfl, kw_w 383 (by decide +kernel) (by decide +kernel), by decide⟩
theorem fr_RX7_38 : k_Fr RX7 38 7 5 51 (2, 99) := ⟨RX7, TX7, 14, tyX7, k_cls7, by decide, rfl, kw_w 384 (by decide +kernel) (by decide +kernel), by decide⟩
theorem fr_RX7_41 : k_Fr RX7 41 7 6 71 (2, 99) := ⟨RX7, TX7, 14, tyX7, k_cls7, by decide, rfl, kw_w 385 (by decide +kernel) (by decide +kernel), by decide⟩
theorem fr_RX7_44 : k_Fr RX7 44 7 7 91 (2, 99) := ⟨RX7, TX7, 14, tyX7, k_cls7, by decide, rfl, kw_w 386 (by decide +kernel) (by decide +kernel), by decide⟩
theorem fr_RX7_47 : k_Fr RX7 47 7 8 111 (2, 99) := ⟨RX7, TX7, 14, tyX7, k_cls7, by decide, rfl, kw_w 387 (by decide +kernel) (by decide +kernel), by decide⟩
theorem fi_RX7_50 : k_Fi RX7 50 7 9 := ⟨RX7, TX7, 14, tyX7, k_cls7, by decide, rfl, kw_w 388 (by decide +kernel) (by decide +kernel), rfl, rfl⟩
theorem fr_RX7_53 : k_Fr RX7 53 7 10 131 (9, 6) := ⟨RX7, TX7, 14, tyX7, k_cls7, by decide, rfl, kw_w 389 (by decide +kernel) (by decide +kernel), by decide⟩
theorem fi_RX7_57 : k_Fi RX7 57 7 11 := ⟨RX7, TX7, 14, tyX7, k_cls7, by decide, rfl, kw_w 390 (by decide +kernel) (by decide +kernel), rfl, rfl⟩
theorem fr_RX7_63 : k_Fr RX7 63 7 12 132 (0, 99) := ⟨RX7, TX7, 14, tyX7, k_cls7, by decide, rfl, kw_w 391 (by decide +kernel) (by decide +kernel), by decide⟩
theorem fr_RX7_70 : k_Fr RX7 70 7 13 134 (6, 99) := ⟨RX7, TX7, 14, tyX7, k_cls7, by decide, rfl, kw_w 392 (by decide +kernel) (by decide +kernel), by decide⟩
theorem fr_RX0_9 : k_Fr RX0 9 0 0 1 (9, 7200) := ⟨RX0, TX0, 1, tyX0, k_cls0, by decide, rfl, kw_w 337 (by decide +kernel) (by decide +kernel), by decide⟩
theorem fi_RX1_74 : k_Fi RX1 74 5 0 := ⟨RX5, TX5, 10, tyX5, k_cls5, by decide, rfl, kw_w 138 (by decide +kernel) (by decide +kernel), rfl, rfl⟩
theorem fi_RX1_70 : k_Fi RX1 70 5 1 := ⟨RX5, TX5, 10, tyX5, k_cls5, by decide, rfl, kw_w 141 (by decide +kernel) (by decide +kernel), rfl, rfl⟩
theorem fr_RX1_52 : k_Fr RX1 52 5 2 1 (9, 3) := ⟨RX5, TX5, 10, tyX5, k_cls5, by decide, rfl, kw_w 144 (by decide +kernel) (by decide +kernel), by decide⟩
theorem fr_RX1_61 : k_Fr RX1 61 5 3 2 (9, 3) := ⟨RX5, TX5, 10, tyX5, k_cls5, by decide, rfl, kw_w 146 (by decide +kernel) (by decide +kernel), by decide⟩
theorem fi_RX1_81 : k_Fi RX1 81 5 4 := ⟨RX5, TX5, 10, tyX5, k_cls5, by decide, rfl, kw_w 149 (by decide +kernel) (by decide +kernel), rfl, rfl⟩
theorem fr_RX1_9 : k_Fr RX1 9 1 0 1 (9, 30) := ⟨RX1, TX1, 6, tyX1, k_cls1, by decide, rfl, kw_w 193 (by decide +kernel) (by decide +kernel), by decide⟩
theorem fr_RX1_15 : k_Fr RX1 15 1 1 2 (9, 30) := ⟨RX1, TX1, 6, tyX1, k_cls1, by decide, rfl, kw_w 195 (by decide +kernel) (by decide +kernel), by decide⟩
theorem fr_RX1_18 : k_Fr RX1 18 1 2 3 (9, 30) := ⟨RX1, TX1, 6, tyX1, k_cls1, by decide, rfl, kw_w 198 (by decide +kernel) (by decide +kernel), by decide⟩
theorem fr_RX1_21 : k_Fr RX1 21 1 3 4 (11, 30) := ⟨RX1, TX1, 6, tyX1, k_cls1, by decide, rfl, kw_w 201 (by decide +kernel) (by decide +kernel), by decide⟩
theorem fr_RX1_25 : k_Fr RX1 25 1 4 5 (11, 30) := ⟨RX1, TX1, 6, tyX1, k_cls1, by decide, rfl, kw_w 204 (by decide +kernel) (by decide +kernel), by decide⟩
theorem fr_RX1_28 : k_Fr RX1 28 1 5 6 (9, 30) := ⟨RX1, TX1, 6, tyX1, k_cls1, by decide, rfl, kw_w 207 (by decide +kernel) (by decide +kernel), by decide⟩
theorem fr_RX2_10 : k_Fr RX2 10 2 0 1 (1, 99) := ⟨RX2, TX2, 3, tyX2, k_cls2, by decide, rfl, kw_w 315 (by decide +kernel) (by decide +kernel), by decide⟩
theorem fr_RX2_19 : k_Fr RX2 19 2 1 8 (4, 99) := ⟨RX2, TX2, 3, tyX2, k_cls2, by decide, rfl, kw_w 318 (by decide +kernel) (by decide +kernel), by decide⟩
theorem fi_RX2_23 : k_Fi RX2 23 2 2 := ⟨RX2, TX2, 3, tyX2, k_cls2, by decide, rfl, kw_w 321 (by decide +kernel) (by decide +kernel), rfl, rfl⟩
theorem fi_RX3_103 : k_Fi RX3 103 5 0 := ⟨RX5, TX5, 10, tyX5, k_cls5, by decide, rfl, kw_w 139 (by decide +kernel) (by decide +kernel), rfl, rfl⟩
theorem fi_RX3_106 : k_Fi RX3 106 5 1 := ⟨RX5, TX5, 10, tyX5, k_cls5, by decide, rfl, kw_w 142 (by decide +kernel) (by decide +kernel), rfl, rfl⟩
theorem fi_RX3_127 : k_Fi RX3 127 5 4 := ⟨RX5, TX5, 10, tyX5, k_cls5, by decide, rfl, kw_w 148 (by decide +kernel) (by decide +kernel), rfl, rfl⟩
theorem fi_RX3_130 : k_Fi RX3 130 5 5 := ⟨RX5, TX5, 10, tyX5, k_cls5, by decide, rfl, kw_w 152 (by decide +kernel) (by decide +kernel), rfl, rfl⟩
theorem fi_RX3_133 : k_Fi RX3 133 5 6 := ⟨RX5, TX5, 10, tyX5, k_cls5, by decide, rfl, kw_w 154 (by decide +kernel) (by decide +kernel), rfl, rfl⟩
theorem fi_RX3_136 : k_Fi RX3 136 5 7 := ⟨RX5, TX5, 10, tyX5, k_cls5, by decide, rfl, kw_w 158 (by decide +kernel) (by decide +kernel), rfl, rfl⟩
theorem fi_RX3_139 : k_Fi RX3 139 5 8 := ⟨RX5, TX5, 10, tyX5, k_cls5, by decide, rfl, kw_w 161 (by decide +kernel) (by decide +kernel), rfl, rfl⟩
theorem fi_RX3_142 : k_Fi RX3 142 5 9 := ⟨RX5, TX5, 10, tyX5, k_cls5, by decide, rfl, kw_w 163 (by decide +kernel) (by decide +kernel), rfl, rfl⟩
theorem fr_RX3_148 : k_Fr RX3 148 1 1 2 (9, 30) := ⟨RX1, TX1, 6, tyX1, k_cls1, by decide, rfl, kw_w 197 (by decide +kernel) (by decide +kernel), by decide⟩
theorem fr_RX3_145 : k_Fr RX3 145 1 2 3 (9, 30) := ⟨RX1, TX1, 6, tyX1, k_cls1, by decide, rfl, kw_w 200 (by decide +kernel) (by decide +kernel), by decide⟩
theorem fr_RX3_112 : k_Fr RX3 112 1 3 4 (11, 30) := ⟨RX1, TX1, 6, tyX1, k_cls1, by decide, rfl, kw_w 203 (by decide +kernel) (by decide +kernel), by decide⟩
theorem fr_RX3_116 : k_Fr RX3 116 1 4 5 (11, 30) := ⟨RX1, TX1, 6, tyX1, k_cls1, by decide, rfl, kw_w 206 (by decide +kernel) (by decide +kernel), by decide⟩
theorem fi_RX3_51 : k_Fi RX3 51 4 0 := ⟨RX4, TX4, 12, tyX4, k_cls4, by decide, rfl, kw_w 229 (by decide +kernel) (by decide +kernel), rfl, rfl⟩
theorem fr_RX3_155 : k_Fr RX3 155 4 1 1 (9, 6) := ⟨RX4, TX4, 12, tyX4, k_cls4, by decide, rfl, kw_w 233 (by decide +kernel) (by decide +kernel), by decide⟩
theorem fr_RX3_12 : k_Fr RX3 12 3 0 1 (5, 99) := ⟨RX3, TX3, 6, tyX3, k_cls3, by decide, rfl, kw_w 284 (by decide +kernel) (by decide +kernel), by decide⟩
theorem fr_RX3_21 : k_Fr RX3 21 3 1 4 (1, 99) := ⟨RX3, TX3, 6, tyX3, k_cls3, by decide, rfl, kw_w 285 (by decide +kernel) (by decide +kernel), by decide⟩
theorem fr_RX3_28 : k_Fr RX3 28 3 2 11 (4, 99) := ⟨RX3, TX3, 6, tyX3, k_cls3, by decide, rfl, kw_w 286 (by decide +kernel) (by decide +kernel), by decide⟩
theorem fr_RX3_32 : k_Fr RX3 32 3 3 23 (9, 6) := ⟨RX3, TX3, 6, tyX3, k_cls3, by decide, rfl, kw_w 287 (by decide +kernel) (by decide +kernel), by decide⟩
theorem fr_RX3_36 : k_Fr RX3 36 3 4 24 (9, 6) := ⟨RX3, TX3, 6, tyX3, k_cls3, by decide, rfl, kw_w 288 (by decide +kernel) (by decide +kernel), by decide⟩
theorem fr_RX3_39 : k_Fr RX3 39 3 5 25 (9, 6) := ⟨RX3, TX3, 6, tyX3, k_cls3, by decide, rfl, kw_w 289 (by decide +kernel) (by decide +kernel), by decide⟩
theorem fr_RX3_165 : k_Fr RX3 165 2 0 1 (1, 99) := ⟨RX2, TX2, 3, tyX2, k_cls2, by decide, rfl, kw_w 317 (by decide +kernel) (by decide +kernel), by decide⟩
theorem fr_RX3_174 : k_Fr RX3 174 2 1 8 (4, 99) := ⟨RX2, TX2, 3, tyX2, k_cls2, by decide, rfl, kw_w 320 (by decide +kernel) (by decide +kernel), by decide⟩
theorem fi_RX3_178 : k_Fi RX3 178 2 2 := ⟨RX2, TX2, 3, tyX2, k_cls2, by decide, rfl, kw_w 322 (by decide +kernel) (by decide +kernel), rfl, rfl⟩
theorem fs_RX3_73 : Cond.fieldLink RX3 73 RX3 (k_sn 0) "[I" ∈ kw := kw_w 445 (by decide +kernel) (by decide +kernel)
theorem fs_RX3_76 : Cond.fieldLink RX3 76 RX3 (k_sn 1) "[I" ∈ kw := kw_w 447 (by decide +kernel) (by decide +kernel)
theorem fs_RX3_79 : Cond.fieldLink RX3 79 RX3 (k_sn 2) "[I" ∈ kw := kw_w 449 (by decide +kernel) (by decide +kernel)
theorem fs_RX3_82 : Cond.fieldLink RX3 82 RX3 (k_sn 3) "[I" ∈ kw := kw_w 451 (by decide +kernel) (by decide +kernel)
theorem fs_RX3_85 : Cond.fieldLink RX3 85 RX3 (k_sn 4) "[I" ∈ kw := kw_w 453 (by decide +kernel) (by decide +kernel)
theorem fs_RX3_88 : Cond.fieldLink RX3 88 RX3 (k_sn 5) "[I" ∈ kw := kw_w 455 (by decide +kernel) (by decide +kernel)
theorem fs_RX3_91 : Cond.fieldLink RX3 91 RX3 (k_sn 6) "[I" ∈ kw := kw_w 457 (by decide +kernel) (by decide +kernel)
theorem fs_RX3_94 : Cond.fieldLink RX3 94 RX3 (k_sn 7) "[I" ∈ kw := kw_w 459 (by decide +kernel) (by decide +kernel)
theorem fs_RX3_97 : Cond.fieldLink RX3 97 RX3 (k_sn 8) "[I" ∈ kw := kw_w 461 (by decide +kernel) (by decide +kernel)
theorem fs_RX3_100 : Cond.fieldLink RX3 100 RX3 (k_sn 9) "[I" ∈ kw := kw_w 463 (by decide +kernel) (by decide +kernel)
theorem fi_RX4_92 : k_Fi RX4 92 5 5 := ⟨RX5, TX5, 10, tyX5, k_cls5, by decide, rfl, kw_w 151 (by decide +kernel) (by decide +kernel), rfl, rfl⟩
theorem fi_RX4_100 : k_Fi RX4 100 5 6 := ⟨RX5, TX5, 10, tyX5, k_cls5, by decide, rfl, kw_w 155 (by decide +kernel) (by decide +kernel), rfl, rfl⟩
theorem fi_RX4_81 : k_Fi RX4 81 5 7 := ⟨RX5, TX5, 10, tyX5, k_cls5, by decide, rfl, kw_w 157 (by decide +kernel) (by decide +kernel), rfl, rfl⟩
theorem fi_RX4_72 : k_Fi RX4 72 5 8 := ⟨RX5, TX5, 10, tyX5, k_cls5, by decide, rfl, kw_w 160 (by decide +kernel) (by decide +kernel), rfl, rfl⟩
theorem fi_RX4_9 : k_Fi RX4 9 4 0 := ⟨RX4, TX4, 12, tyX4, k_cls4, by decide, rfl, kw_w 228 (by decide +kernel) (by decide +kernel), rfl, rfl⟩
theorem fr_RX4_15 : k_Fr RX4 15 4 1 1 (9, 6) := ⟨RX4, TX4, 12, tyX4, k_cls4, by decide, rfl, kw_w 231 (by decide +kernel) (by decide +kernel), by decide⟩
theorem fr_RX4_19 : k_Fr RX4 19 4 2 2 (9, 6) := ⟨RX4, TX4, 12, tyX4, k_cls4, by decide, rfl, kw_w 234 (by decide +kernel) (by decide +kernel), by decide⟩
theorem fr_RX4_22 : k_Fr RX4 22 4 3 3 (9, 6) := ⟨RX4, TX4, 12, tyX4, k_cls4, by decide, rfl, kw_w 235 (by decide +kernel) (by decide +kernel), by decide⟩
theorem fr_RX4_25 : k_Fr RX4 25 4 4 4 (9, 6) := ⟨RX4, TX4, 12, tyX4, k_cls4, by decide, rfl, kw_w 237 (by decide +kernel) (by decide +kernel), by decide⟩
theorem fr_RX4_28 : k_Fr RX4 28 4 5 5 (9, 6) := ⟨RX4, TX4, 12, tyX4, k_cls4, by decide, rfl, kw_w 239 (by decide +kernel) (by decide +kernel), by decide⟩
theorem fr_RX4_31 : k_Fr RX4 31 4 6 6 (9, 6) := ⟨RX4, TX4, 12, tyX4, k_cls4, by decide, rfl, kw_w 240 (by decide +kernel) (by decide +kernel), by decide⟩
theorem fr_RX4_34 : k_Fr RX4 34 4 7 7 (9, 6) := ⟨RX4, TX4, 12, tyX4, k_cls4, by decide, rfl, kw_w 242 (by decide +kernel) (by decide +kernel), by decide⟩
theorem fr_RX4_37 : k_Fr RX4 37 4 8 8 (9, 6) := ⟨RX4, TX4, 12, tyX4, k_cls4, by decide, rfl, kw_w 244 (by decide +kernel) (by decide +kernel), by decide⟩
theorem fr_RX4_40 : k_Fr RX4 40 4 9 9 (9, 6) := ⟨RX4, TX4, 12, tyX4, k_cls4, by decide, rfl, kw_w 246 (by decide +kernel) (by decide +kernel), by decide⟩
theorem fr_RX4_43 : k_Fr RX4 43 4 10 10 (11, 6) := ⟨RX4, TX4, 12, tyX4, k_cls4, by decide, rfl, kw_w 248 (by decide +kernel) (by decide +kernel), by decide⟩
theorem fr_RX4_47 : k_Fr RX4 47 4 11 11 (11, 6) := ⟨RX4, TX4, 12, tyX4, k_cls4, by decide, rfl, kw_w 249 (by decide +kernel) (by decide +kernel), by decide⟩
theorem fi_RX5_21 : k_Fi RX5 21 5 0 := ⟨RX5, TX5, 10, tyX5, k_cls5, by decide, rfl, kw_w 137 (by decide +kernel) (by decide +kernel), rfl, rfl⟩
theorem fi_RX5_25 : k_Fi RX5 25 5 1 := ⟨RX5, TX5, 10, tyX5, k_cls5, by decide, rfl, kw_w 140 (by decide +kernel) (by decide +kernel), rfl, rfl⟩
theorem fr_RX5_9 : k_Fr RX5 9 5 2 1 (9, 3) := ⟨RX5, TX5, 10, tyX5, k_cls5, by decide, rfl, kw_w 143 (by decide +kernel) (by decide +kernel), by decide⟩
theorem fr_RX5_15 : k_Fr RX5 15 5 3 2 (9, 3) := ⟨RX5, TX5, 10, tyX5, k_cls5, by decide, rfl, kw_w 145 (by decide +kernel) (by decide +kernel), by decide⟩
theorem fi_RX5_32 : k_Fi RX5 32 5 4 := ⟨RX5, TX5, 10, tyX5, k_cls5, by decide, rfl, kw_w 147 (by decide +kernel) (by decide +kernel), rfl, rfl⟩
theorem fi_RX5_35 : k_Fi RX5 35 5 5 := ⟨RX5, TX5, 10, tyX5, k_cls5, by decide, rfl, kw_w 150 (by decide +kernel) (by decide +kernel), rfl, rfl⟩
theorem fi_RX5_38 : k_Fi RX5 38 5 6 := ⟨RX5, TX5, 10, tyX5, k_cls5, by decide, rfl, kw_w 153 (by decide +kernel) (by decide +kernel), rfl, rfl⟩
theorem fi_RX5_41 : k_Fi RX5 41 5 7 := ⟨RX5, TX5, 10, tyX5, k_cls5, by decide, rfl, kw_w 156 (by decide +kernel) (by decide +kernel), rfl, rfl⟩
theorem fi_RX5_44 : k_Fi RX5 44 5 8 := ⟨RX5, TX5, 10, tyX5, k_cls5, by decide, rfl, kw_w 159 (by decide +kernel) (by decide +kernel), rfl, rfl⟩
theorem fi_RX5_47 : k_Fi RX5 47 5 9 := ⟨RX5, TX5, 10, tyX5, k_cls5, by decide, rfl, kw_w 162 (by decide +kernel) (by decide +kernel), rfl, rfl⟩
theorem fi_RX6_9 : k_Fi RX6 9 6 0 := ⟨RX6, TX6, 5, tyX6, k_cls6, by decide, rfl, kw_w 347 (by decide +kernel) (by decide +kernel), rfl, rfl⟩
theorem fi_RX6_15 : k_Fi RX6 15 6 1 := ⟨RX6, TX6, 5, tyX6, k_cls6, by decide, rfl, kw_w 348 (by decide +kernel) (by decide +kernel), rfl, rfl⟩
theorem fi_RX6_24 : k_Fi RX6 24 6 2 := ⟨RX6, TX6, 5, tyX6, k_cls6, by decide, rfl, kw_w 349 (by decide +kernel) (by decide +kernel), rfl, rfl⟩
theorem fi_RX6_30 : k_Fi RX6 30 6 3 := ⟨RX6, TX6, 5, tyX6, k_cls6, by decide, rfl, kw_w 350 (by decide +kernel) (by decide +kernel), rfl, rfl⟩
theorem fi_RX6_33 : k_Fi RX6 33 6 4 := ⟨RX6, TX6, 5, tyX6, k_cls6, by decide, rfl, kw_w 351 (by decide +kernel) (by decide +kernel), rfl, rfl⟩
theorem fi_RX8_72 : k_Fi RX8 72 8 0 := ⟨RX8, TX8, 20, tyX8, k_cls8, by decide, rfl, kw_w 859 (by decide +kernel) (by decide +kernel), rfl, rfl⟩
theorem fr_RX8_7 : k_Fr RX8 7 8 1 1 (10, 500) := ⟨RX8, TX8, 20, tyX8, k_cls8, by decide, rfl, kw_w 860 (by decide +kernel) (by decide +kernel), by decide⟩
theorem fi_RX8_76 : k_Fi RX8 76 8 2 := ⟨RX8, TX8, 20, tyX8, k_cls8, by decide, rfl, kw_w 861 (by decide +kernel) (by decide +kernel), rfl, rfl⟩
theorem fr_RX8_13 : k_Fr RX8 13 8 3 2 (9, 28) := ⟨RX8, TX8, 20, tyX8, k_cls8, by decide, rfl, kw_w 862 (by decide +kernel) (by decide +kernel), by decide⟩
theorem fr_RX8_17 : k_Fr RX8 17 8 4 3 (9, 2) := ⟨RX8, TX8, 20, tyX8, k_cls8, by decide, rfl, kw_w 863 (by decide +kernel) (by decide +kernel), by decide⟩
theorem fr_RX8_20 : k_Fr RX8 20 8 5 4 (9, 6) := ⟨RX8, TX8, 20, tyX8, k_cls8, by decide, rfl, kw_w 864 (by decide +kernel) (by decide +kernel), by decide⟩
theorem fr_RX8_23 : k_Fr RX8 23 8 6 5 (9, 6) := ⟨RX8, TX8, 20, tyX8, k_cls8, by decide, rfl, kw_w 865 (by decide +kernel) (by decide +kernel), by decide⟩
theorem fr_RX8_26 : k_Fr RX8 26 8 7 6 (9, 36) := ⟨RX8, TX8, 20, tyX8, k_cls8, by decide, rfl, kw_w 866 (by decide +kernel) (by decide +kernel), by decide⟩
theorem fr_RX8_29 : k_Fr RX8 29 8 8 7 (9, 120) := ⟨RX8, TX8, 20, tyX8, k_cls8, by decide, rfl, kw_w 867 (by decide +kernel) (by decide +kernel), by decide⟩
theorem fr_RX8_32 : k_Fr RX8 32 8 9 8 (9, 800) := ⟨RX8, TX8, 20, tyX8, k_cls8, by decide, rfl, kw_w 868 (by decide +kernel) (by decide +kernel), by decide⟩
theorem fi_RX8_110 : k_Fi RX8 110 8 10 := ⟨RX8, TX8, 20, tyX8, k_cls8, by decide, rfl, kw_w 869 (by decide +kernel) (by decide +kernel), rfl, rfl⟩
theorem fi_RX8_107 : k_Fi RX8 107 8 11 := ⟨RX8, TX8, 20, tyX8, k_cls8, by decide, rfl, kw_w 870 (by decide +kernel) (by decide +kernel), rfl, rfl⟩
theorem fr_RX8_35 : k_Fr RX8 35 8 12 9 (9, 6) := ⟨RX8, TX8, 20, tyX8, k_cls8, by decide, rfl, kw_w 871 (by decide +kernel) (by decide +kernel), by decide⟩
theorem fr_RX8_38 : k_Fr RX8 38 8 13 10 (9, 30) := ⟨RX8, TX8, 20, tyX8, k_cls8, by decide, rfl, kw_w 872 (by decide +kernel) (by decide +kernel), by decide⟩
theorem fr_RX8_41 : k_Fr RX8 41 8 14 11 (9, 6) := ⟨RX8, TX8, 20, tyX8, k_cls8, by decide, rfl, kw_w 873 (by decide +kernel) (by decide +kernel), by decide⟩
theorem fr_RX8_44 : k_Fr RX8 44 8 15 12 (11, 6) := ⟨RX8, TX8, 20, tyX8, k_cls8, by decide, rfl, kw_w 874 (by decide +kernel) (by decide +kernel), by decide⟩
theorem fr_RX8_48 : k_Fr RX8 48 8 16 13 (9, 4) := ⟨RX8, TX8, 20, tyX8, k_cls8, by decide, rfl, kw_w 875 (by decide +kernel) (by decide +kernel), by decide⟩
theorem fr_RX8_51 : k_Fr RX8 51 8 17 14 (9, 4) := ⟨RX8, TX8, 20, tyX8, k_cls8, by decide, rfl, kw_w 876 (by decide +kernel) (by decide +kernel), by decide⟩
theorem fr_RX8_54 : k_Fr RX8 54 8 18 15 (9, 5) := ⟨RX8, TX8, 20, tyX8, k_cls8, by decide, rfl, kw_w 877 (by decide +kernel) (by decide +kernel), by decide⟩
theorem fr_RX8_57 : k_Fr RX8 57 8 19 16 (9, 6) := ⟨RX8, TX8, 20, tyX8, k_cls8, by decide, rfl, kw_w 878 (by decide +kernel) (by decide +kernel), by decide⟩
end
section
def tab_X0_put : List (Nat × Instr × Nat) := [(0, .aload_n 0, 1), (1, .getfield 9, 3), (4, .iload_n 1, 1), (5, .iload_n 2, 1), (6, .invokestatic 15, 3), (9, .iconst 2, 1), (10, .iload_n 3, 1), (11, .imul, 1), (12, .iload 4, 2), (14, .invokestatic 19, 3), (17, .iadd, 1), (18, .iastore, 1), (19, .return_, 1)]
def M_X0_put : kM := (yX0_put, RX0, cX0_put, tab_X0_put, 5, (Option.none : Option Jvm.ClassFile.FieldType), { frames := 1, cells := 0, slots := 0, locals := 22 })
theorem tb_X0_put : ∀ q ∈ m_tab M_X0_put, decode (m_cc M_X0_put) q.1 = .ok q.2 := by decide +kernel
theorem g_X0_put : k_g M_X0_put 4 := ⟨kw_w 576 (by decide +kernel) (by decide +kernel), kw_w 104 (by decide +kernel) (by decide +kernel), ⟨by decide +kernel, by decide +kernel, by decide +kernel⟩, rfl, rfl⟩
theorem gv_X0_put : k_gv M_X0_put 0 := ⟨kw_w 575 (by decide +kernel) (by decide +kernel), kw_w 28 (by decide +kernel) (by decide +kernel), ⟨_, rfl, rfl⟩, by decide⟩
def tab_X0_heatAt : List (Nat × Instr × Nat) := [(0, .aload_n 0, 1), (1, .getfield 9, 3), (4, .iload_n 1, 1), (5, .iload_n 2, 1), (6, .invokestatic 15, 3), (9, .iaload, 1), (10, .iconst 2, 1), (11, .idiv, 1), (12, .ireturn, 1)]
def M_X0_heatAt : kM := (yX0_heatAt, RX0, cX0_heatAt, tab_X0_heatAt, 3, (Option.some Jvm.ClassFile.FieldType.int), { frames := 1, cells := 0, slots := 0, locals := 22 })
theorem tb_X0_heatAt : ∀ q ∈ m_tab M_X0_heatAt, decode (m_cc M_X0_heatAt) q.1 = .ok q.2 := by decide +kernel
theorem g_X0_heatAt : k_g M_X0_heatAt 2 := ⟨kw_w 588 (by decide +kernel) (by decide +kernel), kw_w 104 (by decide +kernel) (by decide +kernel), ⟨by decide +kernel, by decide +kernel, by decide +kernel⟩, rfl, rfl⟩
theorem gv_X0_heatAt : k_gv M_X0_heatAt 0 := ⟨kw_w 587 (by decide +kernel) (by decide +kernel), kw_w 30 (by decide +kernel) (by decide +kernel), ⟨_, rfl, rfl⟩, by decide⟩
def tab_X0_blackensAt : List (Nat × Instr × Nat) := [(0, .aload_n 0, 1), (1, .getfield 9, 3), (4, .iload_n 1, 1), (5, .iload_n 2, 1), (6, .invokestatic 15, 3), (9, .iaload, 1), (10, .iconst 2, 1), (11, .irem, 1), (12, .iconst 1, 1), (13, .if_icmp .ne 7, 3), (16, .iconst 1, 1), (17, .goto 4, 3), (20, .iconst 0, 1), (21, .ireturn, 1)]
def M_X0_blackensAt : kM := (yX0_blackensAt, RX0, cX0_blackensAt, tab_X0_blackensAt, 3, (Option.some Jvm.ClassFile.FieldType.boolean), { frames := 1, cells := 0, slots := 0, locals := 22 })
theorem tb_X0_blackensAt : ∀ q ∈ m_tab M_X0_blackensAt, decode (m_cc M_X0_blackensAt) q.1 = .ok q.2 := by decide +kernel
theorem g_X0_blackensAt : k_g M_X0_blackensAt 2 := ⟨kw_w 621 (by decide +kernel) (by decide +kernel), kw_w 104 (by decide +kernel) (by decide +kernel), ⟨by decide +kernel, by decide +kernel, by decide +kernel⟩, rfl, rfl⟩
theorem gv_X0_blackensAt : k_gv M_X0_blackensAt 0 := ⟨kw_w 620 (by decide +kernel) (by decide +kernel), kw_w 38 (by decide +kernel) (by decide +kernel), ⟨_, rfl, rfl⟩, by decide⟩
def tab_X0_place : List (Nat × Instr × Nat) := [(0, .iload_n 0, 1), (1, .ifCond .lt 24, 3), (4, .iload_n 0, 1), (5, .sipush 240, 3), (8, .if_icmp .ge 17, 3), (11, .iload_n 1, 1), (12, .ifCond .lt 13, 3), (15, .iload_n 1, 1), (16, .bipush 30, 2), (18, .if_icmp .ge 7, 3), (21, .iconst 1, 1), (22, .goto 4, 3), (25, .iconst 0, 1), (26, .istore_n 2, 1), (27, .iload_n 2, 1), (28, .ifCond .eq 12, 3), (31, .iload_n 0, 1), (32, .bipush 30, 2), (34, .imul, 1), (35, .iload_n 1, 1), (36, .iadd, 1), (37, .goto 4, 3), (40, .iconst 0, 1), (41, .ireturn, 1)]
def M_X0_place : kM := (yX0_place, RX0, cX0_place, tab_X0_place, 3, (Option.some Jvm.ClassFile.FieldType.int), { frames := 0, cells := 0, slots := 0, locals := 0 })
theorem tb_X0_place : ∀ q ∈ m_tab M_X0_place, decode (m_cc M_X0_place) q.1 = .ok q.2 := by decide +kernel
theorem g_X0_place : k_g M_X0_place 2 := ⟨kw_w 579 (by decide +kernel) (by decide +kernel), kw_w 104 (by decide +kernel) (by decide +kernel), ⟨by decide +kernel, by decide +kernel, by decide +kernel⟩, rfl, rfl⟩
theorem gs_X0_place : Cond.static (m_y M_X0_place) ∈ kw := kw_w 578 (by decide +kernel) (by decide +kernel)
def tab_X1_clear : List (Nat × Instr × Nat) := [(0, .iconst 0, 1), (1, .istore_n 1, 1), (2, .iload_n 1, 1), (3, .bipush 30, 2), (5, .if_icmp .ge 45, 3), (8, .aload_n 0, 1), (9, .getfield 9, 3), (12, .iload_n 1, 1), (13, .bipush 20, 2), (15, .iastore, 1), (16, .aload_n 0, 1), (17, .getfield 15, 3), (20, .iload_n 1, 1), (21, .iconst 0, 1), (22, .iastore, 1), (23, .aload_n 0, 1), (24, .getfield 18, 3), (27, .iload_n 1, 1), (28, .iconst 0, 1), (29, .iastore, 1), (30, .aload_n 0, 1), (31, .getfield 21, 3), (34, .iload_n 1, 1), (35, .iconst 0, 1), (36, .bastore, 1), (37, .aload_n 0, 1), (38, .getfield 25, 3), (41, .iload_n 1, 1), (42, .iconst 0, 1), (43, .bastore, 1), (44, .iinc 1 1, 3), (47, .goto (-45), 3), (50, .return_, 1)]
def M_X1_clear : kM := (yX1_clear, RX1, cX1_clear, tab_X1_clear, 2, (Option.none : Option Jvm.ClassFile.FieldType), { frames := 0, cells := 0, slots := 0, locals := 0 })
theorem tb_X1_clear : ∀ q ∈ m_tab M_X1_clear, decode (m_cc M_X1_clear) q.1 = .ok q.2 := by decide +kernel
theorem g_X1_clear : k_g M_X1_clear 0 := ⟨kw_w 283 (by decide +kernel) (by decide +kernel), kw_w 101 (by decide +kernel) (by decide +kernel), ⟨by decide +kernel, by decide +kernel, by decide +kernel⟩, rfl, rfl⟩
theorem gv_X1_clear : k_gv M_X1_clear 1 := ⟨kw_w 282 (by decide +kernel) (by decide +kernel), kw_w 3 (by decide +kernel) (by decide +kernel), ⟨_, rfl, rfl⟩, by decide⟩
def tab_X1_copyFrom : List (Nat × Instr × Nat) := [(0, .iconst 0, 1), (1, .istore_n 2, 1), (2, .iload_n 2, 1), (3, .bipush 30, 2), (5, .if_icmp .ge 16, 3), (8, .aload_n 0, 1), (9, .iload_n 2, 1), (10, .aload_n 1, 1), (11, .iload_n 2, 1), (12, .invokevirtual 31, 3), (15, .iinc 2 1, 3), (18, .goto (-16), 3), (21, .return_, 1)]
def M_X1_copyFrom : kM := (yX1_copyFrom, RX1, cX1_copyFrom, tab_X1_copyFrom, 3, (Option.none : Option Jvm.ClassFile.FieldType), { frames := 1, cells := 0, slots := 0, locals := 23 })
theorem tb_X1_copyFrom : ∀ q ∈ m_tab M_X1_copyFrom, decode (m_cc M_X1_copyFrom) q.1 = .ok q.2 := by decide +kernel
theorem g_X1_copyFrom : k_g M_X1_copyFrom 1 := ⟨kw_w 679 (by decide +kernel) (by decide +kernel), kw_w 101 (by decide +kernel) (by decide +kernel), ⟨by decide +kernel, by decide +kernel, by decide +kernel⟩, rfl, rfl⟩
theorem gv_X1_copyFrom : k_gv M_X1_copyFrom 1 := ⟨kw_w 678 (by decide +kernel) (by decide +kernel), kw_w 45 (by decide +kernel) (by decide +kernel), ⟨_, rfl, rfl⟩, by decide⟩
def tab_X1_copyCell : List (Nat × Instr × Nat) := [(0, .aload_n 0, 1), (1, .getfield 9, 3), (4, .iload_n 1, 1), (5, .aload_n 2, 1), (6, .getfield 9, 3), (9, .iload_n 3, 1), (10, .iaload, 1), (11, .iastore, 1), (12, .aload_n 0, 1), (13, .getfield 15, 3), (16, .iload_n 1, 1), (17, .aload_n 2, 1), (18, .getfield 15, 3), (21, .iload_n 3, 1), (22, .iaload, 1), (23, .iastore, 1), (24, .aload_n 0, 1), (25, .getfield 18, 3), (28, .iload_n 1, 1), (29, .aload_n 2, 1), (30, .getfield 18, 3), (33, .iload_n 3, 1), (34, .iaload, 1), (35, .iastore, 1), (36, .aload_n 0, 1), (37, .getfield 21, 3), (40, .iload_n 1, 1), (41, .aload_n 2, 1), (42, .getfield 21, 3), (45, .iload_n 3, 1), (46, .baload, 1), (47, .bastore, 1), (48, .aload_n 0, 1), (49, .getfield 25, 3), (52, .iload_n 1, 1), (53, .aload_n 2, 1), (54, .getfield 25, 3), (57, .iload_n 3, 1), (58, .baload, 1), (59, .bastore, 1), (60, .return_, 1)]
def M_X1_copyCell : kM := (yX1_copyCell, RX1, cX1_copyCell, tab_X1_copyCell, 4, (Option.none : Option Jvm.ClassFile.FieldType), { frames := 0, cells := 0, slots := 0, locals := 0 })
theorem tb_X1_copyCell : ∀ q ∈ m_tab M_X1_copyCell, decode (m_cc M_X1_copyCell) q.1 = .ok q.2 := by decide +kernel
theorem g_X1_copyCell : k_g M_X1_copyCell 3 := ⟨kw_w 374 (by decide +kernel) (by decide +kernel), kw_w 101 (by decide +kernel) (by decide +kernel), ⟨by decide +kernel, by decide +kernel, by decide +kernel⟩, rfl, rfl⟩
theorem gv_X1_copyCell : k_gv M_X1_copyCell 1 := ⟨kw_w 373 (by decide +kernel) (by decide +kernel), kw_w 6 (by decide +kernel) (by decide +kernel), ⟨_, rfl, rfl⟩, by decide⟩
def tab_X1_burn : List (Nat × Instr × Nat) := [(0, .aload_n 0, 1), (1, .aload_n 1, 1), (2, .invokevirtual 35, 3), (5, .aload_n 0, 1), (6, .aload_n 1, 1), (7, .invokevirtual 39, 3), (10, .aload_n 0, 1), (11, .aload_n 1, 1), (12, .iload_n 2, 1), (13, .invokevirtual 42, 3), (16, .return_, 1)]
def M_X1_burn : kM := (yX1_burn, RX1, cX1_burn, tab_X1_burn, 3, (Option.none : Option Jvm.ClassFile.FieldType), { frames := 2, cells := 0, slots := 0, locals := 47 })
theorem tb_X1_burn : ∀ q ∈ m_tab M_X1_burn, decode (m_cc M_X1_burn) q.1 = .ok q.2 := by decide +kernel
theorem g_X1_burn : k_g M_X1_burn 2 := ⟨kw_w 545 (by decide +kernel) (by decide +kernel), kw_w 101 (by decide +kernel) (by decide +kernel), ⟨by decide +kernel, by decide +kernel, by decide +kernel⟩, rfl, rfl⟩
theorem gv_X1_burn : k_gv M_X1_burn 1 := ⟨kw_w 544 (by decide +kernel) (by decide +kernel), kw_w 22 (by decide +kernel) (by decide +kernel), ⟨_, rfl, rfl⟩, by decide⟩
def tab_X1_burnFuel : List (Nat × Instr × Nat) := [(0, .iconst 0, 1), (1, .istore_n 2, 1), (2, .iload_n 2, 1), (3, .aload_n 1, 1), (4, .invokevirtual 46, 3), (7, .if_icmp .ge 74, 3), (10, .aload_n 0, 1), (11, .getfield 21, 3), (14, .iload_n 2, 1), (15, .baload, 1), (16, .ifCond .ne 6, 3), (19, .goto 56, 3), (22, .aload_n 0, 1), (23, .getfield 15, 3), (26, .iload_n 2, 1), (27, .iaload, 1), (28, .aload_n 1, 1), (29, .getfield 52, 3), (32, .aload_n 0, 1), (33, .getfield 18, 3), (36, .iload_n 2, 1), (37, .iaload, 1), (38, .iaload, 1), (39, .invokestatic 55, 3), (42, .istore_n 3, 1), (43, .aload_n 0, 1), (44, .getfield 15, 3), (47, .iload_n 2, 1), (48, .dup2, 1), (49, .iaload, 1), (50, .iload_n 3, 1), (51, .isub, 1), (52, .iastore, 1), (53, .aload_n 0, 1), (54, .getfield 9, 3), (57, .iload_n 2, 1), (58, .dup2, 1), (59, .iaload, 1), (60, .iload_n 3, 1), (61, .aload_n 1, 1), (62, .getfield 61, 3), (65, .aload_n 0, 1), (66, .getfield 18, 3), (69, .iload_n 2, 1), (70, .iaload, 1), (71, .iaload, 1), (72, .imul, 1), (73, .iadd, 1), (74, .iastore, 1), (75, .iinc 2 1, 3), (78, .goto (-76), 3), (81, .return_, 1)]
def M_X1_burnFuel : kM := (yX1_burnFuel, RX1, cX1_burnFuel, tab_X1_burnFuel, 4, (Option.none : Option Jvm.ClassFile.FieldType), { frames := 1, cells := 0, slots := 0, locals := 21 })
theorem tb_X1_burnFuel : ∀ q ∈ m_tab M_X1_burnFuel, decode (m_cc M_X1_burnFuel) q.1 = .ok q.2 := by decide +kernel
theorem g_X1_burnFuel : k_g M_X1_burnFuel 1 := ⟨kw_w 549 (by decide +kernel) (by decide +kernel), kw_w 101 (by decide +kernel) (by decide +kernel), ⟨by decide +kernel, by decide +kernel, by decide +kernel⟩, rfl, rfl⟩
theorem gv_X1_burnFuel : k_gv M_X1_burnFuel 1 := ⟨kw_w 548 (by decide +kernel) (by decide +kernel), kw_w 23 (by decide +kernel) (by decide +kernel), ⟨_, rfl, rfl⟩, by decide⟩
def tab_X1_spread : List (Nat × Instr × Nat) := [(0, .aload_n 0, 1), (1, .getfield 28, 3), (4, .iconst 0, 1), (5, .invokestatic 64, 3), (8, .iconst 0, 1), (9, .istore_n 2, 1), (10, .iload_n 2, 1), (11, .aload_n 1, 1), (12, .getfield 70, 3), (15, .if_icmp .ge 78, 3), (18, .iconst 0, 1), (19, .istore_n 3, 1), (20, .iload_n 3, 1), (21, .aload_n 1, 1), (22, .getfield 74, 3), (25, .if_icmp .ge 62, 3), (28, .iload_n 3, 1), (29, .aload_n 1, 1), (30, .getfield 74, 3), (33, .iload_n 2, 1), (34, .imul, 1), (35, .iadd, 1), (36, .istore 4, 2), (38, .iload_n 3, 1), (39, .iconst 1, 1), (40, .iadd, 1), (41, .aload_n 1, 1), (42, .getfield 74, 3), (45, .if_icmp .ge 13, 3), (48, .aload_n 0, 1), (49, .iload 4, 2), (51, .iload 4, 2), (53, .iconst 1, 1), (54, .iadd, 1), (55, .invokevirtual 77, 3), (58, .iload_n 2, 1), (59, .iconst 1, 1), (60, .iadd, 1), (61, .aload_n 1, 1), (62, .getfield 70, 3), (65, .if_icmp .ge 16, 3), (68, .aload_n 0, 1), (69, .iload 4, 2), (71, .iload 4, 2), (73, .aload_n 1, 1), (74, .getfield 74, 3), (77, .iadd, 1), (78, .invokevirtual 77, 3), (81, .iinc 3 1, 3), (84, .goto (-64), 3), (87, .iinc 2 1, 3), (90, .goto (-80), 3), (93, .iconst 0, 1), (94, .istore_n 2, 1), (95, .iload_n 2, 1), (96, .aload_n 1, 1), (97, .invokevirtual 46, 3), (100, .if_icmp .ge 24, 3), (103, .aload_n 0, 1), (104, .getfield 9, 3), (107, .iload_n 2, 1), (108, .dup2, 1), (109, .iaload, 1), (110, .aload_n 0, 1), (111, .getfield 28, 3), (114, .iload_n 2, 1), (115, .iaload, 1), (116, .iadd, 1), (117, .iastore, 1), (118, .iinc 2 1, 3), (121, .goto (-26), 3), (124, .return_, 1)]
def M_X1_spread : kM := (yX1_spread, RX1, cX1_spread, tab_X1_spread, 5, (Option.none : Option Jvm.ClassFile.FieldType), { frames := 1, cells := 0, slots := 0, locals := 23 })
theorem tb_X1_spread : ∀ q ∈ m_tab M_X1_spread, decode (m_cc M_X1_spread) q.1 = .ok q.2 := by decide +kernel
theorem g_X1_spread : k_g M_X1_spread 1 := ⟨kw_w 557 (by decide +kernel) (by decide +kernel), kw_w 101 (by decide +kernel) (by decide +kernel), ⟨by decide +kernel, by decide +kernel, by decide +kernel⟩, rfl, rfl⟩
theorem gv_X1_spread : k_gv M_X1_spread 1 := ⟨kw_w 556 (by decide +kernel) (by decide +kernel), kw_w 24 (by decide +kernel) (by decide +kernel), ⟨_, rfl, rfl⟩, by decide⟩
def tab_X1_flow : List (Nat × Instr × Nat) := [(0, .aload_n 0, 1), (1, .getfield 9, 3), (4, .iload_n 1, 1), (5, .iaload, 1), (6, .aload_n 0, 1), (7, .getfield 9, 3), (10, .iload_n 2, 1), (11, .iaload, 1), (12, .isub, 1), (13, .bipush 10, 2), (15, .idiv, 1), (16, .istore_n 3, 1), (17, .aload_n 0, 1), (18, .getfield 28, 3), (21, .iload_n 1, 1), (22, .dup2, 1), (23, .iaload, 1), (24, .iload_n 3, 1), (25, .isub, 1), (26, .iastore, 1), (27, .aload_n 0, 1), (28, .getfield 28, 3), (31, .iload_n 2, 1), (32, .dup2, 1), (33, .iaload, 1), (34, .iload_n 3, 1), (35, .iadd, 1), (36, .iastore, 1), (37, .return_, 1)]
def M_X1_flow : kM := (yX1_flow, RX1, cX1_flow, tab_X1_flow, 4, (Option.none : Option Jvm.ClassFile.FieldType), { frames := 0, cells := 0, slots := 0, locals := 0 })
theorem tb_X1_flow : ∀ q ∈ m_tab M_X1_flow, decode (m_cc M_X1_flow) q.1 = .ok q.2 := by decide +kernel
theorem g_X1_flow : k_g M_X1_flow 2 := ⟨kw_w 564 (by decide +kernel) (by decide +kernel), kw_w 101 (by decide +kernel) (by decide +kernel), ⟨by decide +kernel, by decide +kernel, by decide +kernel⟩, rfl, rfl⟩
theorem gv_X1_flow : k_gv M_X1_flow 1 := ⟨kw_w 563 (by decide +kernel) (by decide +kernel), kw_w 25 (by decide +kernel) (by decide +kernel), ⟨_, rfl, rfl⟩, by decide⟩
def tab_X1_cool : List (Nat × Instr × Nat) := [(0, .iconst 0, 1), (1, .istore_n 3, 1), (2, .iload_n 3, 1), (3, .aload_n 1, 1), (4, .invokevirtual 46, 3), (7, .if_icmp .ge 85, 3), (10, .aload_n 0, 1), (11, .getfield 9, 3), (14, .iload_n 3, 1), (15, .iaload, 1), (16, .bipush 20, 2), (18, .isub, 1), (19, .aload_n 1, 1), (20, .getfield 81, 3), (23, .iload_n 2, 1), (24, .iadd, 1), (25, .imul, 1), (26, .bipush 100, 2), (28, .idiv, 1), (29, .istore 4, 2), (31, .aload_n 0, 1), (32, .getfield 25, 3), (35, .iload_n 3, 1), (36, .baload, 1), (37, .ifCond .eq 9, 3), (40, .iload 4, 2), (42, .iconst 2, 1), (43, .idiv, 1), (44, .istore 4, 2), (46, .aload_n 0, 1), (47, .getfield 9, 3), (50, .iload_n 3, 1), (51, .sipush 3000, 3), (54, .aload_n 0, 1), (55, .getfield 9, 3), (58, .iload_n 3, 1), (59, .iaload, 1), (60, .iload 4, 2), (62, .isub, 1), (63, .invokestatic 55, 3), (66, .iastore, 1), (67, .aload_n 0, 1), (68, .getfield 9, 3), (71, .iload_n 3, 1), (72, .iaload, 1), (73, .sipush 200, 3), (76, .if_icmp .lt 10, 3), (79, .aload_n 0, 1), (80, .getfield 21, 3), (83, .iload_n 3, 1), (84, .iconst 1, 1), (85, .bastore, 1), (86, .iinc 3 1, 3), (89, .goto (-87), 3), (92, .return_, 1)]
def M_X1_cool : kM := (yX1_cool, RX1, cX1_cool, tab_X1_cool, 5, (Option.none : Option Jvm.ClassFile.FieldType), { frames := 1, cells := 0, slots := 0, locals := 21 })
theorem tb_X1_cool : ∀ q ∈ m_tab M_X1_cool, decode (m_cc M_X1_cool) q.1 = .ok q.2 := by decide +kernel
theorem g_X1_cool : k_g M_X1_cool 2 := ⟨kw_w 568 (by decide +kernel) (by decide +kernel), kw_w 101 (by decide +kernel) (by decide +kernel), ⟨by decide +kernel, by decide +kernel, by decide +kernel⟩, rfl, rfl⟩
theorem gv_X1_cool : k_gv M_X1_cool 1 := ⟨kw_w 567 (by decide +kernel) (by decide +kernel), kw_w 26 (by decide +kernel) (by decide +kernel), ⟨_, rfl, rfl⟩, by decide⟩
def tab_X1_tell : List (Nat × Instr × Nat) := [(0, .iconst 0, 1), (1, .istore_n 3, 1), (2, .iload_n 3, 1), (3, .bipush 30, 2), (5, .if_icmp .ge 44, 3), (8, .aload_n 1, 1), (9, .iload_n 2, 1), (10, .iload_n 3, 1), (11, .aload_n 0, 1), (12, .getfield 9, 3), (15, .iload_n 3, 1), (16, .iaload, 1), (17, .aload_n 0, 1), (18, .getfield 25, 3), (21, .iload_n 3, 1), (22, .baload, 1), (23, .ifCond .ne 12, 3), (26, .aload_n 0, 1), (27, .getfield 15, 3), (30, .iload_n 3, 1), (31, .iaload, 1), (32, .ifCond .le 7, 3), (35, .iconst 1, 1), (36, .goto 4, 3), (39, .iconst 0, 1), (40, .invokevirtual 84, 3), (43, .iinc 3 1, 3), (46, .goto (-44), 3), (49, .return_, 1)]
def M_X1_tell : kM := (yX1_tell, RX1, cX1_tell, tab_X1_tell, 4, (Option.none : Option Jvm.ClassFile.FieldType), { frames := 2, cells := 0, slots := 0, locals := 46 })
theorem tb_X1_tell : ∀ q ∈ m_tab M_X1_tell, decode (m_cc M_X1_tell) q.1 = .ok q.2 := by decide +kernel
theorem g_X1_tell : k_g M_X1_tell 2 := ⟨kw_w 572 (by decide +kernel) (by decide +kernel), kw_w 101 (by decide +kernel) (by decide +kernel), ⟨by decide +kernel, by decide +kernel, by decide +kernel⟩, rfl, rfl⟩
theorem gv_X1_tell : k_gv M_X1_tell 1 := ⟨kw_w 571 (by decide +kernel) (by decide +kernel), kw_w 27 (by decide +kernel) (by decide +kernel), ⟨_, rfl, rfl⟩, by decide⟩
def tab_X1_shareFuel : List (Nat × Instr × Nat) := [(0, .iconst 0, 1), (1, .istore_n 2, 1), (2, .iload_n 2, 1), (3, .bipush 30, 2), (5, .if_icmp .ge 26, 3), (8, .aload_n 0, 1), (9, .getfield 15, 3), (12, .iload_n 2, 1), (13, .aload_n 0, 1), (14, .getfield 15, 3), (17, .iload_n 2, 1), (18, .iaload, 1), (19, .iload_n 1, 1), (20, .imul, 1), (21, .bipush 100, 2), (23, .idiv, 1), (24, .iastore, 1), (25, .iinc 2 1, 3), (28, .goto (-26), 3), (31, .return_, 1)]
def M_X1_shareFuel : kM := (yX1_shareFuel, RX1, cX1_shareFuel, tab_X1_shareFuel, 3, (Option.none : Option Jvm.ClassFile.FieldType), { frames := 0, cells := 0, slots := 0, locals := 0 })
theorem tb_X1_shareFuel : ∀ q ∈ m_tab M_X1_shareFuel, decode (m_cc M_X1_shareFuel) q.1 = .ok q.2 := by decide +kernel
theorem g_X1_shareFuel : k_g M_X1_shareFuel 1 := ⟨kw_w 739 (by decide +kernel) (by decide +kernel), kw_w 101 (by decide +kernel) (by decide +kernel), ⟨by decide +kernel, by decide +kernel, by decide +kernel⟩, rfl, rfl⟩
theorem gv_X1_shareFuel : k_gv M_X1_shareFuel 1 := ⟨kw_w 738 (by decide +kernel) (by decide +kernel), kw_w 53 (by decide +kernel) (by decide +kernel), ⟨_, rfl, rfl⟩, by decide⟩
def tab_X1_rakeOff : List (Nat × Instr × Nat) := [(0, .aload_n 0, 1), (1, .getfield 15, 3), (4, .iconst 0, 1), (5, .invokestatic 64, 3), (8, .iconst 0, 1), (9, .istore_n 1, 1), (10, .iload_n 1, 1), (11, .bipush 30, 2), (13, .if_icmp .ge 16, 3), (16, .aload_n 0, 1), (17, .getfield 25, 3), (20, .iload_n 1, 1), (21, .iconst 0, 1), (22, .bastore, 1), (23, .iinc 1 1, 3), (26, .goto (-16), 3), (29, .return_, 1)]
def M_X1_rakeOff : kM := (yX1_rakeOff, RX1, cX1_rakeOff, tab_X1_rakeOff, 2, (Option.none : Option Jvm.ClassFile.FieldType), { frames := 1, cells := 0, slots := 0, locals := 23 })
theorem tb_X1_rakeOff : ∀ q ∈ m_tab M_X1_rakeOff, decode (m_cc M_X1_rakeOff) q.1 = .ok q.2 := by decide +kernel
theorem g_X1_rakeOff : k_g M_X1_rakeOff 0 := ⟨kw_w 776 (by decide +kernel) (by decide +kernel), kw_w 101 (by decide +kernel) (by decide +kernel), ⟨by decide +kernel, by decide +kernel, by decide +kernel⟩, rfl, rfl⟩
theorem gv_X1_rakeOff : k_gv M_X1_rakeOff 1 := ⟨kw_w 775 (by decide +kernel) (by decide +kernel), kw_w 58 (by decide +kernel) (by decide +kernel), ⟨_, rfl, rfl⟩, by decide⟩
def tab_X1_coverAll : List (Nat × Instr × Nat) := [(0, .iconst 0, 1), (1, .istore_n 1, 1), (2, .iload_n 1, 1), (3, .bipush 30, 2), (5, .if_icmp .ge 16, 3), (8, .aload_n 0, 1), (9, .getfield 25, 3), (12, .iload_n 1, 1), (13, .iconst 1, 1), (14, .bastore, 1), (15, .iinc 1 1, 3), (18, .goto (-16), 3), (21, .return_, 1)]
def M_X1_coverAll : kM := (yX1_coverAll, RX1, cX1_coverAll, tab_X1_coverAll, 2, (Option.none : Option Jvm.ClassFile.FieldType), { frames := 0, cells := 0, slots := 0, locals := 0 })
theorem tb_X1_coverAll : ∀ q ∈ m_tab M_X1_coverAll, decode (m_cc M_X1_coverAll) q.1 = .ok q.2 := by decide +kernel
theorem g_X1_coverAll : k_g M_X1_coverAll 0 := ⟨kw_w 784 (by decide +kernel) (by decide +kernel), kw_w 101 (by decide +kernel) (by decide +kernel), ⟨by decide +kernel, by decide +kernel, by decide +kernel⟩, rfl, rfl⟩
theorem gv_X1_coverAll : k_gv M_X1_coverAll 1 := ⟨kw_w 783 (by decide +kernel) (by decide +kernel), kw_w 59 (by decide +kernel) (by decide +kernel), ⟨_, rfl, rfl⟩, by decide⟩
def tab_X2_copyFrom : List (Nat × Instr × Nat) := [(0, .aload_n 0, 1), (1, .getfield 10, 3), (4, .aload_n 1, 1), (5, .getfield 10, 3), (8, .invokevirtual 27, 3), (11, .aload_n 0, 1), (12, .getfield 19, 3), (15, .aload_n 1, 1), (16, .getfield 19, 3), (19, .invokevirtual 31, 3), (22, .aload_n 0, 1), (23, .aload_n 1, 1), (24, .getfield 23, 3), (27, .putfield 23, 3), (30, .return_, 1)]
def M_X2_copyFrom : kM := (yX2_copyFrom, RX2, cX2_copyFrom, tab_X2_copyFrom, 2, (Option.none : Option Jvm.ClassFile.FieldType), { frames := 2, cells := 0, slots := 0, locals := 45 })
theorem tb_X2_copyFrom : ∀ q ∈ m_tab M_X2_copyFrom, decode (m_cc M_X2_copyFrom) q.1 = .ok q.2 := by decide +kernel
theorem g_X2_copyFrom : k_g M_X2_copyFrom 1 := ⟨kw_w 733 (by decide +kernel) (by decide +kernel), kw_w 103 (by decide +kernel) (by decide +kernel), ⟨by decide +kernel, by decide +kernel, by decide +kernel⟩, rfl, rfl⟩
theorem gv_X2_copyFrom : k_gv M_X2_copyFrom 2 := ⟨kw_w 732 (by decide +kernel) (by decide +kernel), kw_w 52 (by decide +kernel) (by decide +kernel), ⟨_, rfl, rfl⟩, by decide⟩
def tab_X2_pass : List (Nat × Instr × Nat) := [(0, .aload_n 0, 1), (1, .getfield 10, 3), (4, .aload_n 1, 1), (5, .iload_n 2, 1), (6, .invokevirtual 34, 3), (9, .aload_n 0, 1), (10, .getfield 10, 3), (13, .aload_n 3, 1), (14, .iconst 0, 1), (15, .invokevirtual 38, 3), (18, .aload_n 0, 1), (19, .getfield 19, 3), (22, .aload_n 1, 1), (23, .aload_n 3, 1), (24, .iconst 0, 1), (25, .invokevirtual 42, 3), (28, .pop, 1), (29, .aload_n 0, 1), (30, .dup, 1), (31, .getfield 23, 3), (34, .iconst 1, 1), (35, .iadd, 1), (36, .putfield 23, 3), (39, .return_, 1)]
def M_X2_pass : kM := (yX2_pass, RX2, cX2_pass, tab_X2_pass, 4, (Option.none : Option Jvm.ClassFile.FieldType), { frames := 5, cells := 0, slots := 0, locals := 115 })
theorem tb_X2_pass : ∀ q ∈ m_tab M_X2_pass, decode (m_cc M_X2_pass) q.1 = .ok q.2 := by decide +kernel
theorem g_X2_pass : k_g M_X2_pass 3 := ⟨kw_w 541 (by decide +kernel) (by decide +kernel), kw_w 103 (by decide +kernel) (by decide +kernel), ⟨by decide +kernel, by decide +kernel, by decide +kernel⟩, rfl, rfl⟩
theorem gv_X2_pass : k_gv M_X2_pass 2 := ⟨kw_w 540 (by decide +kernel) (by decide +kernel), kw_w 21 (by decide +kernel) (by decide +kernel), ⟨_, rfl, rfl⟩, by decide⟩
def tab_X3_forget : List (Nat × Instr × Nat) := [(0, .aload_n 0, 1), (1, .getfield 12, 3), (4, .invokevirtual 45, 3), (7, .aload_n 0, 1), (8, .getfield 21, 3), (11, .invokevirtual 48, 3), (14, .aload_n 0, 1), (15, .getfield 28, 3), (18, .iconst 0, 1), (19, .putfield 51, 3), (22, .return_, 1)]
def M_X3_forget : kM := (yX3_forget, RX3, cX3_forget, tab_X3_forget, 1, (Option.none : Option Jvm.ClassFile.FieldType), { frames := 2, cells := 0, slots := 0, locals := 43 })
theorem tb_X3_forget : ∀ q ∈ m_tab M_X3_forget, decode (m_cc M_X3_forget) q.1 = .ok q.2 := by decide +kernel
theorem g_X3_forget : k_g M_X3_forget 0 := ⟨kw_w 278 (by decide +kernel) (by decide +kernel), kw_w 99 (by decide +kernel) (by decide +kernel), ⟨by decide +kernel, by decide +kernel, by decide +kernel⟩, rfl, rfl⟩
theorem gv_X3_forget : k_gv M_X3_forget 3 := ⟨kw_w 277 (by decide +kernel) (by decide +kernel), kw_w 2 (by decide +kernel) (by decide +kernel), ⟨_, rfl, rfl⟩, by decide⟩
def tab_X3_read : List (Nat × Instr × Nat) := [(0, .aload_n 0, 1), (1, .invokevirtual 42, 3), (4, .iconst 0, 1), (5, .istore_n 3, 1), (6, .iconst 0, 1), (7, .istore 4, 2), (9, .iload 4, 2), (11, .iload_n 2, 1), (12, .if_icmp .ge 45, 3), (15, .iload_n 3, 1), (16, .iload_n 2, 1), (17, .if_icmp .ge 40, 3), (20, .aload_n 0, 1), (21, .aload_n 1, 1), (22, .iload_n 3, 1), (23, .iload_n 2, 1), (24, .invokevirtual 55, 3), (27, .istore 5, 2), (29, .iload 5, 2), (31, .bipush (-4), 2), (33, .if_icmp .eq 13, 3), (36, .aload_n 0, 1), (37, .aload_n 1, 1), (38, .iload_n 3, 1), (39, .baload, 1), (40, .invokevirtual 59, 3), (43, .ifCond .ne 5, 3), (46, .iload_n 3, 1), (47, .ireturn, 1), (48, .iload 5, 2), (50, .istore_n 3, 1), (51, .iinc 4 1, 3), (54, .goto (-45), 3), (57, .bipush (-4), 2), (59, .ireturn, 1)]
def M_X3_read : kM := (yX3_read, RX3, cX3_read, tab_X3_read, 6, (Option.some Jvm.ClassFile.FieldType.int), { frames := 3, cells := 0, slots := 0, locals := 63 })
theorem tb_X3_read : ∀ q ∈ m_tab M_X3_read, decode (m_cc M_X3_read) q.1 = .ok q.2 := by decide +kernel
theorem g_X3_read : k_g M_X3_read 2 := ⟨kw_w 437 (by decide +kernel) (by decide +kernel), kw_w 99 (by decide +kernel) (by decide +kernel), ⟨by decide +kernel, by decide +kernel, by decide +kernel⟩, rfl, rfl⟩
theorem gv_X3_read : k_gv M_X3_read 3 := ⟨kw_w 436 (by decide +kernel) (by decide +kernel), kw_w 8 (by decide +kernel) (by decide +kernel), ⟨_, rfl, rfl⟩, by decide⟩
def tab_X3_readNumbers : List (Nat × Instr × Nat) := [(0, .aload_n 1, 1), (1, .iload_n 2, 1), (2, .baload, 1), (3, .invokestatic 63, 3), (6, .astore 4, 2), (8, .aload 4, 2), (10, .arraylength, 1), (11, .iconst 2, 1), (12, .idiv, 1), (13, .istore 5, 2), (15, .iload 5, 2), (17, .iconst 1, 1), (18, .if_icmp .lt 10, 3), (21, .iload 5, 2), (23, .bipush 6, 2), (25, .if_icmp .le 6, 3), (28, .bipush (-4), 2), (30, .ireturn, 1), (31, .iload_n 2, 1), (32, .iconst 1, 1), (33, .iadd, 1), (34, .istore 6, 2), (36, .iconst 0, 1), (37, .istore 7, 2), (39, .iload 7, 2), (41, .iload 5, 2), (43, .if_icmp .ge 126, 3), (46, .aload_n 1, 1), (47, .iload 6, 2), (49, .iload_n 3, 1), (50, .invokestatic 67, 3), (53, .istore 8, 2), (55, .iload 6, 2), (57, .iload 8, 2), (59, .iadd, 1), (60, .istore 9, 2), (62, .iload 8, 2), (64, .iconst 1, 1), (65, .if_icmp .lt 15, 3), (68, .iload 8, 2), (70, .iconst 3, 1), (71, .if_icmp .gt 9, 3), (74, .iload 9, 2), (76, .iload_n 3, 1), (77, .if_icmp .lt 6, 3), (80, .bipush (-4), 2), (82, .ireturn, 1), (83, .aload_n 1, 1), (84, .iload 6, 2), (86, .iload 9, 2), (88, .invokestatic 70, 3), (91, .istore 10, 2), (93, .iload 10, 2), (95, .aload 4, 2), (97, .iconst 2, 1), (98, .iload 7, 2), (100, .imul, 1), (101, .iaload, 1), (102, .if_icmp .lt 17, 3), (105, .iload 10, 2), (107, .aload 4, 2), (109, .iconst 2, 1), (110, .iload 7, 2), (112, .imul, 1), (113, .iconst 1, 1), (114, .iadd, 1), (115, .iaload, 1), (116, .if_icmp .le 6, 3), (119, .bipush (-4), 2), (121, .ireturn, 1), (122, .aload_n 1, 1), (123, .iload 9, 2), (125, .baload, 1), (126, .iload 7, 2), (128, .iconst 1, 1), (129, .iadd, 1), (130, .iload 5, 2), (132, .if_icmp .ge 8, 3), (135, .bipush 44, 2), (137, .goto 5, 3), (140, .bipush 59, 2), (142, .if_icmp .eq 6, 3), (145, .bipush (-4), 2), (147, .ireturn, 1), (148, .aload_n 0, 1), (149, .getfield 39, 3), (152, .iload 7, 2), (154, .iload 10, 2), (156, .iastore, 1), (157, .iload 9, 2), (159, .iconst 1, 1), (160, .iadd, 1), (161, .istore 6, 2), (163, .iinc 7 1, 3), (166, .goto (-127), 3), (169, .iload 6, 2), (171, .ireturn, 1)]
def M_X3_readNumbers : kM := (yX3_readNumbers, RX3, cX3_readNumbers, tab_X3_readNumbers, 11, (Option.some Jvm.ClassFile.FieldType.int), { frames := 1, cells := 0, slots := 0, locals := 24 })
theorem tb_X3_readNumbers : ∀ q ∈ m_tab M_X3_readNumbers, decode (m_cc M_X3_readNumbers) q.1 = .ok q.2 := by decide +kernel
theorem g_X3_readNumbers : k_g M_X3_readNumbers 3 := ⟨kw_w 441 (by decide +kernel) (by decide +kernel), kw_w 99 (by decide +kernel) (by decide +kernel), ⟨by decide +kernel, by decide +kernel, by decide +kernel⟩, rfl, rfl⟩
theorem gv_X3_readNumbers : k_gv M_X3_readNumbers 3 := ⟨kw_w 440 (by decide +kernel) (by decide +kernel), kw_w 9 (by decide +kernel) (by decide +kernel), ⟨_, rfl, rfl⟩, by decide⟩
def tab_X3_boundsOf : List (Nat × Instr × Nat) := [(0, .iload_n 0, 1), (1, .tableswitch 139 99 119 #[103, 131, 139, 139, 139, 127, 139, 139, 119, 123, 139, 139, 107, 115, 139, 139, 111, 139, 139, 135, 99], 99), (100, .getstatic 73, 3), (103, .areturn, 1), (104, .getstatic 76, 3), (107, .areturn, 1), (108, .getstatic 79, 3), (111, .areturn, 1), (112, .getstatic 79, 3), (115, .areturn, 1), (116, .getstatic 82, 3), (119, .areturn, 1), (120, .getstatic 85, 3), (123, .areturn, 1), (124, .getstatic 88, 3), (127, .areturn, 1), (128, .getstatic 91, 3), (131, .areturn, 1), (132, .getstatic 94, 3), (135, .areturn, 1), (136, .getstatic 97, 3), (139, .areturn, 1), (140, .getstatic 100, 3), (143, .areturn, 1)]
def M_X3_boundsOf : kM := (yX3_boundsOf, RX3, cX3_boundsOf, tab_X3_boundsOf, 1, (Option.some (Jvm.ClassFile.FieldType.array Jvm.ClassFile.FieldType.int)), { frames := 0, cells := 0, slots := 0, locals := 0 })
theorem tb_X3_boundsOf : ∀ q ∈ m_tab M_X3_boundsOf, decode (m_cc M_X3_boundsOf) q.1 = .ok q.2 := by decide +kernel
theorem g_X3_boundsOf : k_g M_X3_boundsOf 1 := ⟨kw_w 444 (by decide +kernel) (by decide +kernel), kw_w 99 (by decide +kernel) (by decide +kernel), ⟨by decide +kernel, by decide +kernel, by decide +kernel⟩, rfl, rfl⟩
theorem gs_X3_boundsOf : Cond.static (m_y M_X3_boundsOf) ∈ kw := kw_w 443 (by decide +kernel) (by decide +kernel)
def tab_X3_countFigures : List (Nat × Instr × Nat) := [(0, .iconst 0, 1), (1, .istore_n 3, 1), (2, .iload_n 1, 1), (3, .istore 4, 2), (5, .iload 4, 2), (7, .iload_n 2, 1), (8, .if_icmp .ge 33, 3), (11, .aload_n 0, 1), (12, .iload 4, 2), (14, .baload, 1), (15, .bipush 48, 2), (17, .if_icmp .lt 24, 3), (20, .aload_n 0, 1), (21, .iload 4, 2), (23, .baload, 1), (24, .bipush 57, 2), (26, .if_icmp .le 6, 3), (29, .goto 12, 3), (32, .iinc 3 1, 3), (35, .iinc 4 1, 3), (38, .goto (-33), 3), (41, .iload_n 3, 1), (42, .ireturn, 1)]
def M_X3_countFigures : kM := (yX3_countFigures, RX3, cX3_countFigures, tab_X3_countFigures, 5, (Option.some Jvm.ClassFile.FieldType.int), { frames := 0, cells := 0, slots := 0, locals := 0 })
theorem tb_X3_countFigures : ∀ q ∈ m_tab M_X3_countFigures, decode (m_cc M_X3_countFigures) q.1 = .ok q.2 := by decide +kernel
theorem g_X3_countFigures : k_g M_X3_countFigures 3 := ⟨kw_w 467 (by decide +kernel) (by decide +kernel), kw_w 99 (by decide +kernel) (by decide +kernel), ⟨by decide +kernel, by decide +kernel, by decide +kernel⟩, rfl, rfl⟩
theorem gs_X3_countFigures : Cond.static (m_y M_X3_countFigures) ∈ kw := kw_w 466 (by decide +kernel) (by decide +kernel)
def tab_X3_numberOf : List (Nat × Instr × Nat) := [(0, .iconst 0, 1), (1, .istore_n 3, 1), (2, .iload_n 1, 1), (3, .istore 4, 2), (5, .iload 4, 2), (7, .iload_n 2, 1), (8, .if_icmp .ge 22, 3), (11, .bipush 10, 2), (13, .iload_n 3, 1), (14, .imul, 1), (15, .aload_n 0, 1), (16, .iload 4, 2), (18, .baload, 1), (19, .bipush 48, 2), (21, .isub, 1), (22, .iadd, 1), (23, .istore_n 3, 1), (24, .iinc 4 1, 3), (27, .goto (-22), 3), (30, .iload_n 3, 1), (31, .ireturn, 1)]
def M_X3_numberOf : kM := (yX3_numberOf, RX3, cX3_numberOf, tab_X3_numberOf, 5, (Option.some Jvm.ClassFile.FieldType.int), { frames := 0, cells := 0, slots := 0, locals := 0 })
theorem tb_X3_numberOf : ∀ q ∈ m_tab M_X3_numberOf, decode (m_cc M_X3_numberOf) q.1 = .ok q.2 := by decide +kernel
theorem g_X3_numberOf : k_g M_X3_numberOf 3 := ⟨kw_w 470 (by decide +kernel) (by decide +kernel), kw_w 99 (by decide +kernel) (by decide +kernel), ⟨by decide +kernel, by decide +kernel, by decide +kernel⟩, rfl, rfl⟩
theorem gs_X3_numberOf : Cond.static (m_y M_X3_numberOf) ∈ kw := kw_w 469 (by decide +kernel) (by decide +kernel)
def tab_X3_takeItem : List (Nat × Instr × Nat) := [(0, .iload_n 1, 1), (1, .tableswitch 305 99 119 #[127, 262, 305, 305, 305, 234, 305, 305, 192, 219, 305, 305, 133, 187, 305, 305, 160, 305, 305, 290, 99], 99), (100, .aload_n 0, 1), (101, .getfield 12, 3), (104, .aload_n 0, 1), (105, .getfield 39, 3), (108, .iconst 0, 1), (109, .iaload, 1), (110, .putfield 103, 3), (113, .aload_n 0, 1), (114, .getfield 12, 3), (117, .aload_n 0, 1), (118, .getfield 39, 3), (121, .iconst 1, 1), (122, .iaload, 1), (123, .putfield 106, 3), (126, .iconst 1, 1), (127, .ireturn, 1), (128, .aload_n 0, 1), (129, .invokevirtual 109, 3), (132, .iconst 1, 1), (133, .ireturn, 1), (134, .aload_n 0, 1), (135, .getfield 21, 3), (138, .getfield 112, 3), (141, .aload_n 0, 1), (142, .getfield 39, 3), (145, .iconst 0, 1), (146, .iaload, 1), (147, .bipush 6, 2), (149, .aload_n 0, 1), (150, .getfield 39, 3), (153, .iconst 1, 1), (154, .iaload, 1), (155, .imul, 1), (156, .iadd, 1), (157, .iconst 1, 1), (158, .bastore, 1), (159, .iconst 1, 1), (160, .ireturn, 1), (161, .aload_n 0, 1), (162, .getfield 21, 3), (165, .getfield 116, 3), (168, .aload_n 0, 1), (169, .getfield 39, 3), (172, .iconst 0, 1), (173, .iaload, 1), (174, .bipush 6, 2), (176, .aload_n 0, 1), (177, .getfield 39, 3), (180, .iconst 1, 1), (181, .iaload, 1), (182, .imul, 1), (183, .iadd, 1), (184, .iconst 1, 1), (185, .bastore, 1), (186, .iconst 1, 1), (187, .ireturn, 1), (188, .aload_n 0, 1), (189, .invokevirtual 119, 3), (192, .ireturn, 1), (193, .aload_n 0, 1), (194, .getfield 12, 3), (197, .aload_n 0, 1), (198, .getfield 39, 3), (201, .iconst 0, 1), (202, .iaload, 1), (203, .aload_n 0, 1), (204, .getfield 39, 3), (207, .iconst 1, 1), (208, .iaload, 1), (209, .aload_n 0, 1), (210, .getfield 39, 3), (213, .iconst 2, 1), (214, .iaload, 1), (215, .invokevirtual 123, 3), (218, .iconst 1, 1), (219, .ireturn, 1), (220, .aload_n 0, 1), (221, .getfield 12, 3), (224, .aload_n 0, 1), (225, .getfield 39, 3), (228, .iconst 0, 1), (229, .iaload, 1), (230, .putfield 127, 3), (233, .iconst 1, 1), (234, .ireturn, 1), (235, .aload_n 0, 1), (236, .getfield 12, 3), (239, .aload_n 0, 1), (240, .getfield 39, 3), (243, .iconst 0, 1), (244, .iaload, 1), (245, .putfield 130, 3), (248, .aload_n 0, 1), (249, .getfield 12, 3), (252, .aload_n 0, 1), (253, .getfield 39, 3), (256, .iconst 1, 1), (257, .iaload, 1), (258, .putfield 133, 3), (261, .iconst 1, 1), (262, .ireturn, 1), (263, .aload_n 0, 1), (264, .getfield 12, 3), (267, .aload_n 0, 1), (268, .getfield 39, 3), (271, .iconst 0, 1), (272, .iaload, 1), (273, .putfield 136, 3), (276, .aload_n 0, 1), (277, .getfield 12, 3), (280, .aload_n 0, 1), (281, .getfield 39, 3), (284, .iconst 1, 1), (285, .iaload, 1), (286, .putfield 139, 3), (289, .iconst 1, 1), (290, .ireturn, 1), (291, .aload_n 0, 1), (292, .getfield 12, 3), (295, .aload_n 0, 1), (296, .getfield 39, 3), (299, .iconst 0, 1), (300, .iaload, 1), (301, .putfield 142, 3), (304, .iconst 1, 1), (305, .ireturn, 1), (306, .iconst 0, 1), (307, .ireturn, 1)]
def M_X3_takeItem : kM := (yX3_takeItem, RX3, cX3_takeItem, tab_X3_takeItem, 2, (Option.some Jvm.ClassFile.FieldType.boolean), { frames := 2, cells := 0, slots := 0, locals := 42 })
theorem tb_X3_takeItem : ∀ q ∈ m_tab M_X3_takeItem, decode (m_cc M_X3_takeItem) q.1 = .ok q.2 := by decide +kernel
theorem g_X3_takeItem : k_g M_X3_takeItem 1 := ⟨kw_w 474 (by decide +kernel) (by decide +kernel), kw_w 99 (by decide +kernel) (by decide +kernel), ⟨by decide +kernel, by decide +kernel, by decide +kernel⟩, rfl, rfl⟩
theorem gv_X3_takeItem : k_gv M_X3_takeItem 3 := ⟨kw_w 473 (by decide +kernel) (by decide +kernel), kw_w 10 (by decide +kernel) (by decide +kernel), ⟨_, rfl, rfl⟩, by decide⟩
def tab_X3_takeCell : List (Nat × Instr × Nat) := [(0, .aload_n 0, 1), (1, .getfield 39, 3), (4, .iconst 0, 1), (5, .iaload, 1), (6, .bipush 6, 2), (8, .aload_n 0, 1), (9, .getfield 39, 3), (12, .iconst 1, 1), (13, .iaload, 1), (14, .imul, 1), (15, .iadd, 1), (16, .istore_n 1, 1), (17, .aload_n 0, 1), (18, .getfield 21, 3), (21, .getfield 145, 3), (24, .iload_n 1, 1), (25, .aload_n 0, 1), (26, .getfield 39, 3), (29, .iconst 2, 1), (30, .iaload, 1), (31, .iastore, 1), (32, .aload_n 0, 1), (33, .getfield 21, 3), (36, .getfield 148, 3), (39, .iload_n 1, 1), (40, .aload_n 0, 1), (41, .getfield 39, 3), (44, .iconst 3, 1), (45, .iaload, 1), (46, .iastore, 1), (47, .return_, 1)]
def M_X3_takeCell : kM := (yX3_takeCell, RX3, cX3_takeCell, tab_X3_takeCell, 2, (Option.none : Option Jvm.ClassFile.FieldType), { frames := 0, cells := 0, slots := 0, locals := 0 })
theorem tb_X3_takeCell : ∀ q ∈ m_tab M_X3_takeCell, decode (m_cc M_X3_takeCell) q.1 = .ok q.2 := by decide +kernel
theorem g_X3_takeCell : k_g M_X3_takeCell 0 := ⟨kw_w 478 (by decide +kernel) (by decide +kernel), kw_w 99 (by decide +kernel) (by decide +kernel), ⟨by decide +kernel, by decide +kernel, by decide +kernel⟩, rfl, rfl⟩
theorem gv_X3_takeCell : k_gv M_X3_takeCell 3 := ⟨kw_w 477 (by decide +kernel) (by decide +kernel), kw_w 11 (by decide +kernel) (by decide +kernel), ⟨_, rfl, rfl⟩, by decide⟩
def tab_X3_takePot : List (Nat × Instr × Nat) := [(0, .aload_n 0, 1), (1, .getfield 28, 3), (4, .getfield 51, 3), (7, .bipush 6, 2), (9, .if_icmp .lt 5, 3), (12, .iconst 0, 1), (13, .ireturn, 1), (14, .aload_n 0, 1), (15, .getfield 32, 3), (18, .aload_n 0, 1), (19, .getfield 28, 3), (22, .getfield 51, 3), (25, .aload_n 0, 1), (26, .getfield 39, 3), (29, .iconst 0, 1), (30, .iaload, 1), (31, .iastore, 1), (32, .aload_n 0, 1), (33, .getfield 36, 3), (36, .aload_n 0, 1), (37, .getfield 28, 3), (40, .getfield 51, 3), (43, .aload_n 0, 1), (44, .getfield 39, 3), (47, .iconst 1, 1), (48, .iaload, 1), (49, .iastore, 1), (50, .aload_n 0, 1), (51, .getfield 28, 3), (54, .aload_n 0, 1), (55, .getfield 39, 3), (58, .invokevirtual 151, 3), (61, .iconst 1, 1), (62, .ireturn, 1)]
def M_X3_takePot : kM := (yX3_takePot, RX3, cX3_takePot, tab_X3_takePot, 1, (Option.some Jvm.ClassFile.FieldType.boolean), { frames := 1, cells := 0, slots := 0, locals := 22 })
theorem tb_X3_takePot : ∀ q ∈ m_tab M_X3_takePot, decode (m_cc M_X3_takePot) q.1 = .ok q.2 := by decide +kernel
theorem g_X3_takePot : k_g M_X3_takePot 0 := ⟨kw_w 482 (by decide +kernel) (by decide +kernel), kw_w 99 (by decide +kernel) (by decide +kernel), ⟨by decide +kernel, by decide +kernel, by decide +kernel⟩, rfl, rfl⟩
theorem gv_X3_takePot : k_gv M_X3_takePot 3 := ⟨kw_w 481 (by decide +kernel) (by decide +kernel), kw_w 12 (by decide +kernel) (by decide +kernel), ⟨_, rfl, rfl⟩, by decide⟩
def tab_X3_isLayable : List (Nat × Instr × Nat) := [(0, .iconst 0, 1), (1, .istore_n 1, 1), (2, .iload_n 1, 1), (3, .aload_n 0, 1), (4, .getfield 28, 3), (7, .getfield 51, 3), (10, .if_icmp .ge 73, 3), (13, .aload_n 0, 1), (14, .getfield 32, 3), (17, .iload_n 1, 1), (18, .iaload, 1), (19, .aload_n 0, 1), (20, .getfield 12, 3), (23, .getfield 103, 3), (26, .if_icmp .ge 19, 3), (29, .aload_n 0, 1), (30, .getfield 36, 3), (33, .iload_n 1, 1), (34, .iaload, 1), (35, .aload_n 0, 1), (36, .getfield 12, 3), (39, .getfield 106, 3), (42, .if_icmp .lt 5, 3), (45, .iconst 0, 1), (46, .ireturn, 1), (47, .aload_n 0, 1), (48, .getfield 28, 3), (51, .getfield 155, 3), (54, .iload_n 1, 1), (55, .aload_n 0, 1), (56, .getfield 32, 3), (59, .iload_n 1, 1), (60, .iaload, 1), (61, .aload_n 0, 1), (62, .getfield 12, 3), (65, .getfield 103, 3), (68, .aload_n 0, 1), (69, .getfield 36, 3), (72, .iload_n 1, 1), (73, .iaload, 1), (74, .imul, 1), (75, .iadd, 1), (76, .iastore, 1), (77, .iinc 1 1, 3), (80, .goto (-78), 3), (83, .aload_n 0, 1), (84, .getfield 28, 3), (87, .invokevirtual 158, 3), (90, .ifCond .ne 7, 3), (93, .iconst 1, 1), (94, .goto 4, 3), (97, .iconst 0, 1), (98, .ireturn, 1)]
def M_X3_isLayable : kM := (yX3_isLayable, RX3, cX3_isLayable, tab_X3_isLayable, 2, (Option.some Jvm.ClassFile.FieldType.boolean), { frames := 1, cells := 0, slots := 0, locals := 22 })
theorem tb_X3_isLayable : ∀ q ∈ m_tab M_X3_isLayable, decode (m_cc M_X3_isLayable) q.1 = .ok q.2 := by decide +kernel
theorem g_X3_isLayable : k_g M_X3_isLayable 0 := ⟨kw_w 495 (by decide +kernel) (by decide +kernel), kw_w 99 (by decide +kernel) (by decide +kernel), ⟨by decide +kernel, by decide +kernel, by decide +kernel⟩, rfl, rfl⟩
theorem gv_X3_isLayable : k_gv M_X3_isLayable 3 := ⟨kw_w 494 (by decide +kernel) (by decide +kernel), kw_w 14 (by decide +kernel) (by decide +kernel), ⟨_, rfl, rfl⟩, by decide⟩
def tab_X3_layOn : List (Nat × Instr × Nat) := [(0, .aload_n 1, 1), (1, .aload_n 0, 1), (2, .getfield 12, 3), (5, .invokevirtual 161, 3), (8, .aload_n 2, 1), (9, .getfield 165, 3), (12, .invokevirtual 48, 3), (15, .iconst 0, 1), (16, .istore_n 3, 1), (17, .iload_n 3, 1), (18, .aload_n 0, 1), (19, .getfield 12, 3), (22, .getfield 106, 3), (25, .if_icmp .ge 60, 3), (28, .iconst 0, 1), (29, .istore 4, 2), (31, .iload 4, 2), (33, .aload_n 0, 1), (34, .getfield 12, 3), (37, .getfield 103, 3), (40, .if_icmp .ge 39, 3), (43, .aload_n 2, 1), (44, .getfield 165, 3), (47, .iload 4, 2), (49, .aload_n 0, 1), (50, .getfield 12, 3), (53, .getfield 103, 3), (56, .iload_n 3, 1), (57, .imul, 1), (58, .iadd, 1), (59, .aload_n 0, 1), (60, .getfield 21, 3), (63, .iload 4, 2), (65, .bipush 6, 2), (67, .iload_n 3, 1), (68, .imul, 1), (69, .iadd, 1), (70, .invokevirtual 170, 3), (73, .iinc 4 1, 3), (76, .goto (-45), 3), (79, .iinc 3 1, 3), (82, .goto (-65), 3), (85, .aload_n 2, 1), (86, .getfield 174, 3), (89, .aload_n 0, 1), (90, .getfield 28, 3), (93, .invokevirtual 175, 3), (96, .aload_n 2, 1), (97, .iconst 0, 1), (98, .putfield 178, 3), (101, .return_, 1)]
def M_X3_layOn : kM := (yX3_layOn, RX3, cX3_layOn, tab_X3_layOn, 5, (Option.none : Option Jvm.ClassFile.FieldType), { frames := 2, cells := 0, slots := 0, locals := 45 })
theorem tb_X3_layOn : ∀ q ∈ m_tab M_X3_layOn, decode (m_cc M_X3_layOn) q.1 = .ok q.2 := by decide +kernel
theorem g_X3_layOn : k_g M_X3_layOn 2 := ⟨kw_w 366 (by decide +kernel) (by decide +kernel), kw_w 99 (by decide +kernel) (by decide +kernel), ⟨by decide +kernel, by decide +kernel, by decide +kernel⟩, rfl, rfl⟩
theorem gv_X3_layOn : k_gv M_X3_layOn 3 := ⟨kw_w 365 (by decide +kernel) (by decide +kernel), kw_w 4 (by decide +kernel) (by decide +kernel), ⟨_, rfl, rfl⟩, by decide⟩
def tab_X4_copyFrom : List (Nat × Instr × Nat) := [(0, .aload_n 0, 1), (1, .aload_n 1, 1), (2, .getfield 9, 3), (5, .putfield 9, 3), (8, .iconst 0, 1), (9, .istore_n 2, 1), (10, .iload_n 2, 1), (11, .bipush 6, 2), (13, .if_icmp .ge 129, 3), (16, .aload_n 0, 1), (17, .getfield 15, 3), (20, .iload_n 2, 1), (21, .aload_n 1, 1), (22, .getfield 15, 3), (25, .iload_n 2, 1), (26, .iaload, 1), (27, .iastore, 1), (28, .aload_n 0, 1), (29, .getfield 19, 3), (32, .iload_n 2, 1), (33, .aload_n 1, 1), (34, .getfield 19, 3), (37, .iload_n 2, 1), (38, .iaload, 1), (39, .iastore, 1), (40, .aload_n 0, 1), (41, .getfield 22, 3), (44, .iload_n 2, 1), (45, .aload_n 1, 1), (46, .getfield 22, 3), (49, .iload_n 2, 1), (50, .iaload, 1), (51, .iastore, 1), (52, .aload_n 0, 1), (53, .getfield 25, 3), (56, .iload_n 2, 1), (57, .aload_n 1, 1), (58, .getfield 25, 3), (61, .iload_n 2, 1), (62, .iaload, 1), (63, .iastore, 1), (64, .aload_n 0, 1), (65, .getfield 28, 3), (68, .iload_n 2, 1), (69, .aload_n 1, 1), (70, .getfield 28, 3), (73, .iload_n 2, 1), (74, .iaload, 1), (75, .iastore, 1), (76, .aload_n 0, 1), (77, .getfield 31, 3), (80, .iload_n 2, 1), (81, .aload_n 1, 1), (82, .getfield 31, 3), (85, .iload_n 2, 1), (86, .iaload, 1), (87, .iastore, 1), (88, .aload_n 0, 1), (89, .getfield 34, 3), (92, .iload_n 2, 1), (93, .aload_n 1, 1), (94, .getfield 34, 3), (97, .iload_n 2, 1), (98, .iaload, 1), (99, .iastore, 1), (100, .aload_n 0, 1), (101, .getfield 37, 3), (104, .iload_n 2, 1), (105, .aload_n 1, 1), (106, .getfield 37, 3), (109, .iload_n 2, 1), (110, .iaload, 1), (111, .iastore, 1), (112, .aload_n 0, 1), (113, .getfield 40, 3), (116, .iload_n 2, 1), (117, .aload_n 1, 1), (118, .getfield 40, 3), (121, .iload_n 2, 1), (122, .iaload, 1), (123, .iastore, 1), (124, .aload_n 0, 1), (125, .getfield 43, 3), (128, .iload_n 2, 1), (129, .aload_n 1, 1), (130, .getfield 43, 3), (133, .iload_n 2, 1), (134, .baload, 1), (135, .bastore, 1), (136, .iinc 2 1, 3), (139, .goto (-129), 3), (142, .return_, 1)]
def M_X4_copyFrom : kM := (yX4_copyFrom, RX4, cX4_copyFrom, tab_X4_copyFrom, 3, (Option.none : Option Jvm.ClassFile.FieldType), { frames := 0, cells := 0, slots := 0, locals := 0 })
theorem tb_X4_copyFrom : ∀ q ∈ m_tab M_X4_copyFrom, decode (m_cc M_X4_copyFrom) q.1 = .ok q.2 := by decide +kernel
theorem g_X4_copyFrom : k_g M_X4_copyFrom 1 := ⟨kw_w 378 (by decide +kernel) (by decide +kernel), kw_w 102 (by decide +kernel) (by decide +kernel), ⟨by decide +kernel, by decide +kernel, by decide +kernel⟩, rfl, rfl⟩
theorem gv_X4_copyFrom : k_gv M_X4_copyFrom 4 := ⟨kw_w 377 (by decide +kernel) (by decide +kernel), kw_w 7 (by decide +kernel) (by decide +kernel), ⟨_, rfl, rfl⟩, by decide⟩
def tab_X4_add : List (Nat × Instr × Nat) := [(0, .aload_n 0, 1), (1, .getfield 9, 3), (4, .bipush 6, 2), (6, .if_icmp .ge 10, 3), (9, .aload_n 1, 1), (10, .arraylength, 1), (11, .bipush 6, 2), (13, .if_icmp .ge 4, 3), (16, .return_, 1), (17, .aload_n 0, 1), (18, .getfield 9, 3), (21, .istore_n 2, 1), (22, .aload_n 0, 1), (23, .getfield 15, 3), (26, .iload_n 2, 1), (27, .iconst 0, 1), (28, .iastore, 1), (29, .aload_n 0, 1), (30, .getfield 19, 3), (33, .iload_n 2, 1), (34, .aload_n 1, 1), (35, .iconst 2, 1), (36, .iaload, 1), (37, .iastore, 1), (38, .aload_n 0, 1), (39, .getfield 22, 3), (42, .iload_n 2, 1), (43, .aload_n 1, 1), (44, .iconst 3, 1), (45, .iaload, 1), (46, .iastore, 1), (47, .aload_n 0, 1), (48, .getfield 25, 3), (51, .iload_n 2, 1), (52, .aload_n 1, 1), (53, .iconst 4, 1), (54, .iaload, 1), (55, .iastore, 1), (56, .aload_n 0, 1), (57, .getfield 28, 3), (60, .iload_n 2, 1), (61, .aload_n 1, 1), (62, .iconst 5, 1), (63, .iaload, 1), (64, .iastore, 1), (65, .aload_n 0, 1), (66, .getfield 31, 3), (69, .iload_n 2, 1), (70, .bipush 20, 2), (72, .iastore, 1), (73, .aload_n 0, 1), (74, .getfield 34, 3), (77, .iload_n 2, 1), (78, .iconst 0, 1), (79, .iastore, 1), (80, .aload_n 0, 1), (81, .getfield 37, 3), (84, .iload_n 2, 1), (85, .iconst 0, 1), (86, .iastore, 1), (87, .aload_n 0, 1), (88, .getfield 40, 3), (91, .iload_n 2, 1), (92, .iconst 0, 1), (93, .iastore, 1), (94, .aload_n 0, 1), (95, .getfield 43, 3), (98, .iload_n 2, 1), (99, .iconst 0, 1), (100, .bastore, 1), (101, .aload_n 0, 1), (102, .dup, 1), (103, .getfield 9, 3), (106, .iconst 1, 1), (107, .iadd, 1), (108, .putfield 9, 3), (111, .return_, 1)]
def M_X4_add : kM := (yX4_add, RX4, cX4_add, tab_X4_add, 3, (Option.none : Option Jvm.ClassFile.FieldType), { frames := 0, cells := 0, slots := 0, locals := 0 })
theorem tb_X4_add : ∀ q ∈ m_tab M_X4_add, decode (m_cc M_X4_add) q.1 = .ok q.2 := by decide +kernel
theorem g_X4_add : k_g M_X4_add 1 := ⟨kw_w 486 (by decide +kernel) (by decide +kernel), kw_w 102 (by decide +kernel) (by decide +kernel), ⟨by decide +kernel, by decide +kernel, by decide +kernel⟩, rfl, rfl⟩
theorem gv_X4_add : k_gv M_X4_add 4 := ⟨kw_w 485 (by decide +kernel) (by decide +kernel), kw_w 13 (by decide +kernel) (by decide +kernel), ⟨_, rfl, rfl⟩, by decide⟩
def tab_X4_feel : List (Nat × Instr × Nat) := [(0, .iconst 0, 1), (1, .istore 4, 2), (3, .iconst 0, 1), (4, .istore 5, 2), (6, .iload 5, 2), (8, .aload_n 0, 1), (9, .getfield 9, 3), (12, .if_icmp .ge 85, 3), (15, .aload_n 0, 1), (16, .getfield 47, 3), (19, .iload 5, 2), (21, .iconst 0, 1), (22, .bastore, 1), (23, .aload_n 0, 1), (24, .getfield 37, 3), (27, .iload 5, 2), (29, .iaload, 1), (30, .ifCond .eq 6, 3), (33, .goto 58, 3), (36, .aload_n 0, 1), (37, .iload 5, 2), (39, .aload_n 1, 1), (40, .aload_n 2, 1), (41, .iload_n 3, 1), (42, .aload_n 0, 1), (43, .getfield 15, 3), (46, .iload 5, 2), (48, .iaload, 1), (49, .invokevirtual 50, 3), (52, .invokevirtual 56, 3), (55, .aload_n 0, 1), (56, .getfield 47, 3), (59, .iload 5, 2), (61, .aload_n 0, 1), (62, .getfield 37, 3), (65, .iload 5, 2), (67, .iaload, 1), (68, .iconst 1, 1), (69, .if_icmp .ne 7, 3), (72, .iconst 1, 1), (73, .goto 4, 3), (76, .iconst 0, 1), (77, .bastore, 1), (78, .aload_n 0, 1), (79, .getfield 47, 3), (82, .iload 5, 2), (84, .baload, 1), (85, .ifCond .eq 6, 3), (88, .iconst 1, 1), (89, .istore 4, 2), (91, .iinc 5 1, 3), (94, .goto (-88), 3), (97, .iload 4, 2), (99, .ifCond .eq 8, 3), (102, .aload_n 0, 1), (103, .aload_n 1, 1), (104, .invokevirtual 60, 3), (107, .iconst 0, 1), (108, .istore 5, 2), (110, .iload 5, 2), (112, .aload_n 0, 1), (113, .getfield 9, 3), (116, .if_icmp .ge 37, 3), (119, .aload_n 0, 1), (120, .getfield 37, 3), (123, .iload 5, 2), (125, .iaload, 1), (126, .ifCond .ne 21, 3), (129, .aload_n 0, 1), (130, .iload 5, 2), (132, .aload_n 2, 1), (133, .iload_n 3, 1), (134, .aload_n 0, 1), (135, .getfield 15, 3), (138, .iload 5, 2), (140, .iaload, 1), (141, .invokevirtual 64, 3), (144, .invokevirtual 68, 3), (147, .iinc 5 1, 3), (150, .goto (-40), 3), (153, .iload 4, 2), (155, .ireturn, 1)]
def M_X4_feel : kM := (yX4_feel, RX4, cX4_feel, tab_X4_feel, 6, (Option.some Jvm.ClassFile.FieldType.boolean), { frames := 4, cells := 0, slots := 0, locals := 90 })
theorem tb_X4_feel : ∀ q ∈ m_tab M_X4_feel, decode (m_cc M_X4_feel) q.1 = .ok q.2 := by decide +kernel
theorem g_X4_feel : k_g M_X4_feel 3 := ⟨kw_w 584 (by decide +kernel) (by decide +kernel), kw_w 102 (by decide +kernel) (by decide +kernel), ⟨by decide +kernel, by decide +kernel, by decide +kernel⟩, rfl, rfl⟩
theorem gv_X4_feel : k_gv M_X4_feel 4 := ⟨kw_w 583 (by decide +kernel) (by decide +kernel), kw_w 29 (by decide +kernel) (by decide +kernel), ⟨_, rfl, rfl⟩, by decide⟩
def tab_X4_warm : List (Nat × Instr × Nat) := [(0, .aload_n 0, 1), (1, .getfield 19, 3), (4, .iload_n 1, 1), (5, .iaload, 1), (6, .iconst 1, 1), (7, .iadd, 1), (8, .istore 4, 2), (10, .iload 4, 2), (12, .iconst 1, 1), (13, .if_icmp .ge 7, 3), (16, .iconst 0, 1), (17, .goto 14, 3), (20, .iload_n 3, 1), (21, .aload_n 0, 1), (22, .getfield 31, 3), (25, .iload_n 1, 1), (26, .iaload, 1), (27, .isub, 1), (28, .iload 4, 2), (30, .idiv, 1), (31, .istore 5, 2), (33, .aload_n 0, 1), (34, .getfield 31, 3), (37, .iload_n 1, 1), (38, .dup2, 1), (39, .iaload, 1), (40, .iload 5, 2), (42, .iadd, 1), (43, .iastore, 1), (44, .iload 5, 2), (46, .ifCond .le 32, 3), (49, .iload 5, 2), (51, .aload_n 0, 1), (52, .getfield 19, 3), (55, .iload_n 1, 1), (56, .iaload, 1), (57, .imul, 1), (58, .bipush 10, 2), (60, .aload_n 2, 1), (61, .getfield 72, 3), (64, .imul, 1), (65, .if_icmp .le 13, 3), (68, .aload_n 0, 1), (69, .getfield 37, 3), (72, .iload_n 1, 1), (73, .iconst 3, 1), (74, .iastore, 1), (75, .goto 57, 3), (78, .aload_n 0, 1), (79, .iload_n 1, 1), (80, .invokevirtual 77, 3), (83, .ifCond .eq 13, 3), (86, .aload_n 0, 1), (87, .getfield 37, 3), (90, .iload_n 1, 1), (91, .iconst 1, 1), (92, .iastore, 1), (93, .goto 39, 3), (96, .iload 5, 2), (98, .ineg, 1), (99, .aload_n 2, 1), (100, .getfield 81, 3), (103, .if_icmp .le 23, 3), (106, .aload_n 0, 1), (107, .getfield 34, 3), (110, .iload_n 1, 1), (111, .iaload, 1), (112, .iconst 1, 1), (113, .if_icmp .lt 13, 3), (116, .aload_n 0, 1), (117, .getfield 37, 3), (120, .iload_n 1, 1), (121, .iconst 4, 1), (122, .iastore, 1), (123, .goto 9, 3), (126, .aload_n 0, 1), (127, .iload_n 1, 1), (128, .aload_n 2, 1), (129, .invokevirtual 84, 3), (132, .return_, 1)]
def M_X4_warm : kM := (yX4_warm, RX4, cX4_warm, tab_X4_warm, 6, (Option.none : Option Jvm.ClassFile.FieldType), { frames := 3, cells := 0, slots := 0, locals := 65 })
theorem tb_X4_warm : ∀ q ∈ m_tab M_X4_warm, decode (m_cc M_X4_warm) q.1 = .ok q.2 := by decide +kernel
theorem g_X4_warm : k_g M_X4_warm 3 := ⟨kw_w 592 (by decide +kernel) (by decide +kernel), kw_w 102 (by decide +kernel) (by decide +kernel), ⟨by decide +kernel, by decide +kernel, by decide +kernel⟩, rfl, rfl⟩
theorem gv_X4_warm : k_gv M_X4_warm 4 := ⟨kw_w 591 (by decide +kernel) (by decide +kernel), kw_w 31 (by decide +kernel) (by decide +kernel), ⟨_, rfl, rfl⟩, by decide⟩
def tab_X4_isBursting : List (Nat × Instr × Nat) := [(0, .bipush 10, 2), (2, .aload_n 0, 1), (3, .getfield 25, 3), (6, .iload_n 1, 1), (7, .iaload, 1), (8, .iconst 1, 1), (9, .iadd, 1), (10, .imul, 1), (11, .istore_n 2, 1), (12, .iload_n 2, 1), (13, .iconst 1, 1), (14, .if_icmp .lt 14, 3), (17, .aload_n 0, 1), (18, .getfield 31, 3), (21, .iload_n 1, 1), (22, .iaload, 1), (23, .bipush 100, 2), (25, .if_icmp .gt 5, 3), (28, .iconst 0, 1), (29, .ireturn, 1), (30, .aload_n 0, 1), (31, .getfield 22, 3), (34, .iload_n 1, 1), (35, .iaload, 1), (36, .aload_n 0, 1), (37, .getfield 31, 3), (40, .iload_n 1, 1), (41, .iaload, 1), (42, .bipush 100, 2), (44, .isub, 1), (45, .imul, 1), (46, .iload_n 2, 1), (47, .idiv, 1), (48, .aload_n 0, 1), (49, .getfield 28, 3), (52, .iload_n 1, 1), (53, .iaload, 1), (54, .if_icmp .le 7, 3), (57, .iconst 1, 1), (58, .goto 4, 3), (61, .iconst 0, 1), (62, .ireturn, 1)]
def M_X4_isBursting : kM := (yX4_isBursting, RX4, cX4_isBursting, tab_X4_isBursting, 3, (Option.some Jvm.ClassFile.FieldType.boolean), { frames := 0, cells := 0, slots := 0, locals := 0 })
theorem tb_X4_isBursting : ∀ q ∈ m_tab M_X4_isBursting, decode (m_cc M_X4_isBursting) q.1 = .ok q.2 := by decide +kernel
theorem g_X4_isBursting : k_g M_X4_isBursting 1 := ⟨kw_w 596 (by decide +kernel) (by decide +kernel), kw_w 102 (by decide +kernel) (by decide +kernel), ⟨by decide +kernel, by decide +kernel, by decide +kernel⟩, rfl, rfl⟩
theorem gv_X4_isBursting : k_gv M_X4_isBursting 4 := ⟨kw_w 595 (by decide +kernel) (by decide +kernel), kw_w 32 (by decide +kernel) (by decide +kernel), ⟨_, rfl, rfl⟩, by decide⟩
def tab_X4_steamAndHarden : List (Nat × Instr × Nat) := [(0, .aload_n 0, 1), (1, .getfield 31, 3), (4, .iload_n 1, 1), (5, .iaload, 1), (6, .bipush 60, 2), (8, .if_icmp .le 29, 3), (11, .aload_n 0, 1), (12, .iload_n 1, 1), (13, .aload_n 0, 1), (14, .getfield 25, 3), (17, .iload_n 1, 1), (18, .iaload, 1), (19, .iconst 1, 1), (20, .iadd, 1), (21, .aload_n 0, 1), (22, .getfield 31, 3), (25, .iload_n 1, 1), (26, .iaload, 1), (27, .bipush 60, 2), (29, .isub, 1), (30, .imul, 1), (31, .bipush 100, 2), (33, .idiv, 1), (34, .invokevirtual 88, 3), (37, .aload_n 0, 1), (38, .getfield 31, 3), (41, .iload_n 1, 1), (42, .iaload, 1), (43, .bipush 10, 2), (45, .aload_n 2, 1), (46, .getfield 92, 3), (49, .imul, 1), (50, .if_icmp .lt 13, 3), (53, .aload_n 0, 1), (54, .getfield 34, 3), (57, .iload_n 1, 1), (58, .dup2, 1), (59, .iaload, 1), (60, .iconst 1, 1), (61, .iadd, 1), (62, .iastore, 1), (63, .return_, 1)]
def M_X4_steamAndHarden : kM := (yX4_steamAndHarden, RX4, cX4_steamAndHarden, tab_X4_steamAndHarden, 3, (Option.none : Option Jvm.ClassFile.FieldType), { frames := 2, cells := 0, slots := 0, locals := 43 })
theorem tb_X4_steamAndHarden : ∀ q ∈ m_tab M_X4_steamAndHarden, decode (m_cc M_X4_steamAndHarden) q.1 = .ok q.2 := by decide +kernel
theorem g_X4_steamAndHarden : k_g M_X4_steamAndHarden 2 := ⟨kw_w 600 (by decide +kernel) (by decide +kernel), kw_w 102 (by decide +kernel) (by decide +kernel), ⟨by decide +kernel, by decide +kernel, by decide +kernel⟩, rfl, rfl⟩
theorem gv_X4_steamAndHarden : k_gv M_X4_steamAndHarden 4 := ⟨kw_w 599 (by decide +kernel) (by decide +kernel), kw_w 33 (by decide +kernel) (by decide +kernel), ⟨_, rfl, rfl⟩, by decide⟩
def tab_X4_loseWater : List (Nat × Instr × Nat) := [(0, .aload_n 0, 1), (1, .getfield 22, 3), (4, .iload_n 1, 1), (5, .dup2, 1), (6, .iaload, 1), (7, .aload_n 0, 1), (8, .getfield 22, 3), (11, .iload_n 1, 1), (12, .iaload, 1), (13, .iload_n 2, 1), (14, .invokestatic 95, 3), (17, .isub, 1), (18, .iastore, 1), (19, .return_, 1)]
def M_X4_loseWater : kM := (yX4_loseWater, RX4, cX4_loseWater, tab_X4_loseWater, 3, (Option.none : Option Jvm.ClassFile.FieldType), { frames := 1, cells := 0, slots := 0, locals := 21 })
theorem tb_X4_loseWater : ∀ q ∈ m_tab M_X4_loseWater, decode (m_cc M_X4_loseWater) q.1 = .ok q.2 := by decide +kernel
theorem g_X4_loseWater : k_g M_X4_loseWater 2 := ⟨kw_w 604 (by decide +kernel) (by decide +kernel), kw_w 102 (by decide +kernel) (by decide +kernel), ⟨by decide +kernel, by decide +kernel, by decide +kernel⟩, rfl, rfl⟩
theorem gv_X4_loseWater : k_gv M_X4_loseWater 4 := ⟨kw_w 603 (by decide +kernel) (by decide +kernel), kw_w 34 (by decide +kernel) (by decide +kernel), ⟨_, rfl, rfl⟩, by decide⟩
def tab_X4_strike : List (Nat × Instr × Nat) := [(0, .iconst 0, 1), (1, .istore_n 2, 1), (2, .iload_n 2, 1), (3, .aload_n 0, 1), (4, .getfield 9, 3), (7, .if_icmp .ge 57, 3), (10, .aload_n 0, 1), (11, .getfield 37, 3), (14, .iload_n 2, 1), (15, .iaload, 1), (16, .ifCond .ne 20, 3), (19, .aload_n 0, 1), (20, .getfield 34, 3), (23, .iload_n 2, 1), (24, .iaload, 1), (25, .aload_n 1, 1), (26, .getfield 100, 3), (29, .if_icmp .ge 7, 3), (32, .iconst 1, 1), (33, .goto 4, 3), (36, .iconst 0, 1), (37, .istore_n 3, 1), (38, .iload_n 3, 1), (39, .ifCond .eq 19, 3), (42, .aload_n 0, 1), (43, .iload_n 2, 1), (44, .aload_n 1, 1), (45, .invokevirtual 103, 3), (48, .ifCond .eq 10, 3), (51, .aload_n 0, 1), (52, .getfield 37, 3), (55, .iload_n 2, 1), (56, .iconst 2, 1), (57, .iastore, 1), (58, .iinc 2 1, 3), (61, .goto (-59), 3), (64, .return_, 1)]
def M_X4_strike : kM := (yX4_strike, RX4, cX4_strike, tab_X4_strike, 4, (Option.none : Option Jvm.ClassFile.FieldType), { frames := 2, cells := 0, slots := 0, locals := 47 })
theorem tb_X4_strike : ∀ q ∈ m_tab M_X4_strike, decode (m_cc M_X4_strike) q.1 = .ok q.2 := by decide +kernel
theorem g_X4_strike : k_g M_X4_strike 1 := ⟨kw_w 609 (by decide +kernel) (by decide +kernel), kw_w 102 (by decide +kernel) (by decide +kernel), ⟨by decide +kernel, by decide +kernel, by decide +kernel⟩, rfl, rfl⟩
theorem gv_X4_strike : k_gv M_X4_strike 4 := ⟨kw_w 608 (by decide +kernel) (by decide +kernel), kw_w 35 (by decide +kernel) (by decide +kernel), ⟨_, rfl, rfl⟩, by decide⟩
def tab_X4_isBesideBurst : List (Nat × Instr × Nat) := [(0, .iconst 0, 1), (1, .istore_n 3, 1), (2, .iload_n 3, 1), (3, .aload_n 0, 1), (4, .getfield 9, 3), (7, .if_icmp .ge 39, 3), (10, .aload_n 0, 1), (11, .getfield 47, 3), (14, .iload_n 3, 1), (15, .baload, 1), (16, .ifCond .eq 24, 3), (19, .aload_n 2, 1), (20, .aload_n 0, 1), (21, .getfield 15, 3), (24, .iload_n 1, 1), (25, .iaload, 1), (26, .aload_n 0, 1), (27, .getfield 15, 3), (30, .iload_n 3, 1), (31, .iaload, 1), (32, .invokevirtual 107, 3), (35, .ifCond .eq 5, 3), (38, .iconst 1, 1), (39, .ireturn, 1), (40, .iinc 3 1, 3), (43, .goto (-41), 3), (46, .iconst 0, 1), (47, .ireturn, 1)]
def M_X4_isBesideBurst : kM := (yX4_isBesideBurst, RX4, cX4_isBesideBurst, tab_X4_isBesideBurst, 4, (Option.some Jvm.ClassFile.FieldType.boolean), { frames := 1, cells := 0, slots := 0, locals := 24 })
theorem tb_X4_isBesideBurst : ∀ q ∈ m_tab M_X4_isBesideBurst, decode (m_cc M_X4_isBesideBurst) q.1 = .ok q.2 := by decide +kernel
theorem g_X4_isBesideBurst : k_g M_X4_isBesideBurst 2 := ⟨kw_w 613 (by decide +kernel) (by decide +kernel), kw_w 102 (by decide +kernel) (by decide +kernel), ⟨by decide +kernel, by decide +kernel, by decide +kernel⟩, rfl, rfl⟩
theorem gv_X4_isBesideBurst : k_gv M_X4_isBesideBurst 4 := ⟨kw_w 612 (by decide +kernel) (by decide +kernel), kw_w 36 (by decide +kernel) (by decide +kernel), ⟨_, rfl, rfl⟩, by decide⟩
def tab_X4_takeColour : List (Nat × Instr × Nat) := [(0, .aload_n 0, 1), (1, .getfield 31, 3), (4, .iload_n 1, 1), (5, .iaload, 1), (6, .sipush 500, 3), (9, .if_icmp .lt 13, 3), (12, .aload_n 0, 1), (13, .getfield 43, 3), (16, .iload_n 1, 1), (17, .iconst 1, 1), (18, .bastore, 1), (19, .goto 36, 3), (22, .aload_n 0, 1), (23, .getfield 43, 3), (26, .iload_n 1, 1), (27, .baload, 1), (28, .ifCond .eq 27, 3), (31, .aload_n 0, 1), (32, .getfield 40, 3), (35, .iload_n 1, 1), (36, .iaload, 1), (37, .ifCond .ne 18, 3), (40, .aload_n 0, 1), (41, .getfield 40, 3), (44, .iload_n 1, 1), (45, .iload_n 2, 1), (46, .ifCond .eq 7, 3), (49, .iconst 2, 1), (50, .goto 4, 3), (53, .iconst 1, 1), (54, .iastore, 1), (55, .return_, 1)]
def M_X4_takeColour : kM := (yX4_takeColour, RX4, cX4_takeColour, tab_X4_takeColour, 3, (Option.none : Option Jvm.ClassFile.FieldType), { frames := 0, cells := 0, slots := 0, locals := 0 })
theorem tb_X4_takeColour : ∀ q ∈ m_tab M_X4_takeColour, decode (m_cc M_X4_takeColour) q.1 = .ok q.2 := by decide +kernel
theorem g_X4_takeColour : k_g M_X4_takeColour 2 := ⟨kw_w 625 (by decide +kernel) (by decide +kernel), kw_w 102 (by decide +kernel) (by decide +kernel), ⟨by decide +kernel, by decide +kernel, by decide +kernel⟩, rfl, rfl⟩
theorem gv_X4_takeColour : k_gv M_X4_takeColour 4 := ⟨kw_w 624 (by decide +kernel) (by decide +kernel), kw_w 39 (by decide +kernel) (by decide +kernel), ⟨_, rfl, rfl⟩, by decide⟩
def tab_X4_dryFor : List (Nat × Instr × Nat) := [(0, .iconst 0, 1), (1, .istore_n 2, 1), (2, .iload_n 2, 1), (3, .aload_n 0, 1), (4, .getfield 9, 3), (7, .if_icmp .ge 35, 3), (10, .aload_n 0, 1), (11, .getfield 37, 3), (14, .iload_n 2, 1), (15, .iaload, 1), (16, .ifCond .ne 20, 3), (19, .aload_n 0, 1), (20, .iload_n 2, 1), (21, .iload_n 1, 1), (22, .aload_n 0, 1), (23, .getfield 25, 3), (26, .iload_n 2, 1), (27, .iaload, 1), (28, .iconst 1, 1), (29, .iadd, 1), (30, .imul, 1), (31, .iconst 4, 1), (32, .idiv, 1), (33, .invokevirtual 88, 3), (36, .iinc 2 1, 3), (39, .goto (-37), 3), (42, .return_, 1)]
def M_X4_dryFor : kM := (yX4_dryFor, RX4, cX4_dryFor, tab_X4_dryFor, 3, (Option.none : Option Jvm.ClassFile.FieldType), { frames := 2, cells := 0, slots := 0, locals := 43 })
theorem tb_X4_dryFor : ∀ q ∈ m_tab M_X4_dryFor, decode (m_cc M_X4_dryFor) q.1 = .ok q.2 := by decide +kernel
theorem g_X4_dryFor : k_g M_X4_dryFor 1 := ⟨kw_w 653 (by decide +kernel) (by decide +kernel), kw_w 102 (by decide +kernel) (by decide +kernel), ⟨by decide +kernel, by decide +kernel, by decide +kernel⟩, rfl, rfl⟩
theorem gv_X4_dryFor : k_gv M_X4_dryFor 4 := ⟨kw_w 652 (by decide +kernel) (by decide +kernel), kw_w 41 (by decide +kernel) (by decide +kernel), ⟨_, rfl, rfl⟩, by decide⟩
def tab_X4_allWater : List (Nat × Instr × Nat) := [(0, .iconst 0, 1), (1, .istore_n 1, 1), (2, .iconst 0, 1), (3, .istore_n 2, 1), (4, .iload_n 2, 1), (5, .aload_n 0, 1), (6, .getfield 9, 3), (9, .if_icmp .ge 18, 3), (12, .iload_n 1, 1), (13, .aload_n 0, 1), (14, .getfield 22, 3), (17, .iload_n 2, 1), (18, .iaload, 1), (19, .iadd, 1), (20, .istore_n 1, 1), (21, .iinc 2 1, 3), (24, .goto (-20), 3), (27, .iload_n 1, 1), (28, .ireturn, 1)]
def M_X4_allWater : kM := (yX4_allWater, RX4, cX4_allWater, tab_X4_allWater, 3, (Option.some Jvm.ClassFile.FieldType.int), { frames := 0, cells := 0, slots := 0, locals := 0 })
theorem tb_X4_allWater : ∀ q ∈ m_tab M_X4_allWater, decode (m_cc M_X4_allWater) q.1 = .ok q.2 := by decide +kernel
theorem g_X4_allWater : k_g M_X4_allWater 0 := ⟨kw_w 657 (by decide +kernel) (by decide +kernel), kw_w 102 (by decide +kernel) (by decide +kernel), ⟨by decide +kernel, by decide +kernel, by decide +kernel⟩, rfl, rfl⟩
theorem gv_X4_allWater : k_gv M_X4_allWater 4 := ⟨kw_w 656 (by decide +kernel) (by decide +kernel), kw_w 42 (by decide +kernel) (by decide +kernel), ⟨_, rfl, rfl⟩, by decide⟩
def tab_X4_lossOf : List (Nat × Instr × Nat) := [(0, .aload_n 0, 1), (1, .getfield 37, 3), (4, .iload_n 1, 1), (5, .iaload, 1), (6, .ifCond .eq 10, 3), (9, .aload_n 0, 1), (10, .getfield 37, 3), (13, .iload_n 1, 1), (14, .iaload, 1), (15, .ireturn, 1), (16, .aload_n 0, 1), (17, .getfield 34, 3), (20, .iload_n 1, 1), (21, .iaload, 1), (22, .aload_n 2, 1), (23, .getfield 100, 3), (26, .if_icmp .lt 7, 3), (29, .iconst 0, 1), (30, .goto 4, 3), (33, .iconst 5, 1), (34, .ireturn, 1)]
def M_X4_lossOf : kM := (yX4_lossOf, RX4, cX4_lossOf, tab_X4_lossOf, 3, (Option.some Jvm.ClassFile.FieldType.int), { frames := 0, cells := 0, slots := 0, locals := 0 })
theorem tb_X4_lossOf : ∀ q ∈ m_tab M_X4_lossOf, decode (m_cc M_X4_lossOf) q.1 = .ok q.2 := by decide +kernel
theorem g_X4_lossOf : k_g M_X4_lossOf 2 := ⟨kw_w 530 (by decide +kernel) (by decide +kernel), kw_w 102 (by decide +kernel) (by decide +kernel), ⟨by decide +kernel, by decide +kernel, by decide +kernel⟩, rfl, rfl⟩
theorem gv_X4_lossOf : k_gv M_X4_lossOf 4 := ⟨kw_w 529 (by decide +kernel) (by decide +kernel), kw_w 20 (by decide +kernel) (by decide +kernel), ⟨_, rfl, rfl⟩, by decide⟩
def tab_X4_countGood : List (Nat × Instr × Nat) := [(0, .iconst 0, 1), (1, .istore_n 2, 1), (2, .iconst 0, 1), (3, .istore_n 3, 1), (4, .iload_n 3, 1), (5, .aload_n 0, 1), (6, .getfield 9, 3), (9, .if_icmp .ge 21, 3), (12, .aload_n 0, 1), (13, .iload_n 3, 1), (14, .aload_n 1, 1), (15, .invokevirtual 110, 3), (18, .ifCond .ne 6, 3), (21, .iinc 2 1, 3), (24, .iinc 3 1, 3), (27, .goto (-23), 3), (30, .iload_n 2, 1), (31, .ireturn, 1)]
def M_X4_countGood : kM := (yX4_countGood, RX4, cX4_countGood, tab_X4_countGood, 4, (Option.some Jvm.ClassFile.FieldType.int), { frames := 1, cells := 0, slots := 0, locals := 22 })
theorem tb_X4_countGood : ∀ q ∈ m_tab M_X4_countGood, decode (m_cc M_X4_countGood) q.1 = .ok q.2 := by decide +kernel
theorem g_X4_countGood : k_g M_X4_countGood 1 := ⟨kw_w 696 (by decide +kernel) (by decide +kernel), kw_w 102 (by decide +kernel) (by decide +kernel), ⟨by decide +kernel, by decide +kernel, by decide +kernel⟩, rfl, rfl⟩
theorem gv_X4_countGood : k_gv M_X4_countGood 4 := ⟨kw_w 695 (by decide +kernel) (by decide +kernel), kw_w 48 (by decide +kernel) (by decide +kernel), ⟨_, rfl, rfl⟩, by decide⟩
def tab_X4_countLost : List (Nat × Instr × Nat) := [(0, .iconst 0, 1), (1, .istore_n 1, 1), (2, .iconst 0, 1), (3, .istore_n 2, 1), (4, .iload_n 2, 1), (5, .aload_n 0, 1), (6, .getfield 9, 3), (9, .if_icmp .ge 32, 3), (12, .aload_n 0, 1), (13, .getfield 37, 3), (16, .iload_n 2, 1), (17, .iaload, 1), (18, .iconst 1, 1), (19, .if_icmp .lt 16, 3), (22, .aload_n 0, 1), (23, .getfield 37, 3), (26, .iload_n 2, 1), (27, .iaload, 1), (28, .iconst 4, 1), (29, .if_icmp .gt 6, 3), (32, .iinc 1 1, 3), (35, .iinc 2 1, 3), (38, .goto (-34), 3), (41, .iload_n 1, 1), (42, .ireturn, 1)]
def M_X4_countLost : kM := (yX4_countLost, RX4, cX4_countLost, tab_X4_countLost, 3, (Option.some Jvm.ClassFile.FieldType.int), { frames := 0, cells := 0, slots := 0, locals := 0 })
theorem tb_X4_countLost : ∀ q ∈ m_tab M_X4_countLost, decode (m_cc M_X4_countLost) q.1 = .ok q.2 := by decide +kernel
theorem g_X4_countLost : k_g M_X4_countLost 0 := ⟨kw_w 701 (by decide +kernel) (by decide +kernel), kw_w 102 (by decide +kernel) (by decide +kernel), ⟨by decide +kernel, by decide +kernel, by decide +kernel⟩, rfl, rfl⟩
theorem gv_X4_countLost : k_gv M_X4_countLost 4 := ⟨kw_w 700 (by decide +kernel) (by decide +kernel), kw_w 49 (by decide +kernel) (by decide +kernel), ⟨_, rfl, rfl⟩, by decide⟩
def tab_X4_countWhole : List (Nat × Instr × Nat) := [(0, .iconst 0, 1), (1, .istore_n 1, 1), (2, .iconst 0, 1), (3, .istore_n 2, 1), (4, .iload_n 2, 1), (5, .aload_n 0, 1), (6, .getfield 9, 3), (9, .if_icmp .ge 21, 3), (12, .aload_n 0, 1), (13, .getfield 37, 3), (16, .iload_n 2, 1), (17, .iaload, 1), (18, .ifCond .ne 6, 3), (21, .iinc 1 1, 3), (24, .iinc 2 1, 3), (27, .goto (-23), 3), (30, .iload_n 1, 1), (31, .ireturn, 1)]
def M_X4_countWhole : kM := (yX4_countWhole, RX4, cX4_countWhole, tab_X4_countWhole, 3, (Option.some Jvm.ClassFile.FieldType.int), { frames := 0, cells := 0, slots := 0, locals := 0 })
theorem tb_X4_countWhole : ∀ q ∈ m_tab M_X4_countWhole, decode (m_cc M_X4_countWhole) q.1 = .ok q.2 := by decide +kernel
theorem g_X4_countWhole : k_g M_X4_countWhole 0 := ⟨kw_w 629 (by decide +kernel) (by decide +kernel), kw_w 102 (by decide +kernel) (by decide +kernel), ⟨by decide +kernel, by decide +kernel, by decide +kernel⟩, rfl, rfl⟩
theorem gv_X4_countWhole : k_gv M_X4_countWhole 4 := ⟨kw_w 628 (by decide +kernel) (by decide +kernel), kw_w 40 (by decide +kernel) (by decide +kernel), ⟨_, rfl, rfl⟩, by decide⟩
def tab_X4_wholeIn : List (Nat × Instr × Nat) := [(0, .iconst 0, 1), (1, .istore_n 2, 1), (2, .iload_n 2, 1), (3, .aload_n 0, 1), (4, .getfield 9, 3), (7, .if_icmp .ge 30, 3), (10, .aload_n 0, 1), (11, .getfield 37, 3), (14, .iload_n 2, 1), (15, .iaload, 1), (16, .ifCond .ne 15, 3), (19, .aload_n 0, 1), (20, .getfield 15, 3), (23, .iload_n 2, 1), (24, .iaload, 1), (25, .iload_n 1, 1), (26, .if_icmp .ne 5, 3), (29, .iload_n 2, 1), (30, .ireturn, 1), (31, .iinc 2 1, 3), (34, .goto (-32), 3), (37, .bipush (-4), 2), (39, .ireturn, 1)]
def M_X4_wholeIn : kM := (yX4_wholeIn, RX4, cX4_wholeIn, tab_X4_wholeIn, 3, (Option.some Jvm.ClassFile.FieldType.int), { frames := 0, cells := 0, slots := 0, locals := 0 })
theorem tb_X4_wholeIn : ∀ q ∈ m_tab M_X4_wholeIn, decode (m_cc M_X4_wholeIn) q.1 = .ok q.2 := by decide +kernel
theorem g_X4_wholeIn : k_g M_X4_wholeIn 1 := ⟨kw_w 518 (by decide +kernel) (by decide +kernel), kw_w 102 (by decide +kernel) (by decide +kernel), ⟨by decide +kernel, by decide +kernel, by decide +kernel⟩, rfl, rfl⟩
theorem gv_X4_wholeIn : k_gv M_X4_wholeIn 4 := ⟨kw_w 517 (by decide +kernel) (by decide +kernel), kw_w 18 (by decide +kernel) (by decide +kernel), ⟨_, rfl, rfl⟩, by decide⟩
def tab_X4_anyTwoInOne : List (Nat × Instr × Nat) := [(0, .iconst 0, 1), (1, .istore_n 1, 1), (2, .iload_n 1, 1), (3, .aload_n 0, 1), (4, .getfield 9, 3), (7, .if_icmp .ge 44, 3), (10, .iload_n 1, 1), (11, .iconst 1, 1), (12, .iadd, 1), (13, .istore_n 2, 1), (14, .iload_n 2, 1), (15, .aload_n 0, 1), (16, .getfield 9, 3), (19, .if_icmp .ge 26, 3), (22, .aload_n 0, 1), (23, .getfield 15, 3), (26, .iload_n 1, 1), (27, .iaload, 1), (28, .aload_n 0, 1), (29, .getfield 15, 3), (32, .iload_n 2, 1), (33, .iaload, 1), (34, .if_icmp .ne 5, 3), (37, .iconst 1, 1), (38, .ireturn, 1), (39, .iinc 2 1, 3), (42, .goto (-28), 3), (45, .iinc 1 1, 3), (48, .goto (-46), 3), (51, .iconst 0, 1), (52, .ireturn, 1)]
def M_X4_anyTwoInOne : kM := (yX4_anyTwoInOne, RX4, cX4_anyTwoInOne, tab_X4_anyTwoInOne, 3, (Option.some Jvm.ClassFile.FieldType.boolean), { frames := 0, cells := 0, slots := 0, locals := 0 })
theorem tb_X4_anyTwoInOne : ∀ q ∈ m_tab M_X4_anyTwoInOne, decode (m_cc M_X4_anyTwoInOne) q.1 = .ok q.2 := by decide +kernel
theorem g_X4_anyTwoInOne : k_g M_X4_anyTwoInOne 0 := ⟨kw_w 499 (by decide +kernel) (by decide +kernel), kw_w 102 (by decide +kernel) (by decide +kernel), ⟨by decide +kernel, by decide +kernel, by decide +kernel⟩, rfl, rfl⟩
theorem gv_X4_anyTwoInOne : k_gv M_X4_anyTwoInOne 4 := ⟨kw_w 498 (by decide +kernel) (by decide +kernel), kw_w 15 (by decide +kernel) (by decide +kernel), ⟨_, rfl, rfl⟩, by decide⟩
def tab_X5_setDefaults : List (Nat × Instr × Nat) := [(0, .aload_n 0, 1), (1, .iconst 4, 1), (2, .putfield 21, 3), (5, .aload_n 0, 1), (6, .iconst 3, 1), (7, .putfield 25, 3), (10, .aload_n 0, 1), (11, .iconst 0, 1), (12, .bipush 6, 2), (14, .bipush 20, 2), (16, .invokevirtual 28, 3), (19, .aload_n 0, 1), (20, .iconst 1, 1), (21, .iconst 2, 1), (22, .bipush 40, 2), (24, .invokevirtual 28, 3), (27, .aload_n 0, 1), (28, .iconst 2, 1), (29, .bipush 15, 2), (31, .bipush 8, 2), (33, .invokevirtual 28, 3), (36, .aload_n 0, 1), (37, .bipush 8, 2), (39, .putfield 32, 3), (42, .aload_n 0, 1), (43, .bipush 75, 2), (45, .putfield 35, 3), (48, .aload_n 0, 1), (49, .bipush 10, 2), (51, .putfield 38, 3), (54, .aload_n 0, 1), (55, .bipush 60, 2), (57, .putfield 41, 3), (60, .aload_n 0, 1), (61, .bipush 90, 2), (63, .putfield 44, 3), (66, .aload_n 0, 1), (67, .iconst 0, 1), (68, .putfield 47, 3), (71, .return_, 1)]
def M_X5_setDefaults : kM := (yX5_setDefaults, RX5, cX5_setDefaults, tab_X5_setDefaults, 1, (Option.none : Option Jvm.ClassFile.FieldType), { frames := 1, cells := 0, slots := 0, locals := 23 })
theorem tb_X5_setDefaults : ∀ q ∈ m_tab M_X5_setDefaults, decode (m_cc M_X5_setDefaults) q.1 = .ok q.2 := by decide +kernel
theorem g_X5_setDefaults : k_g M_X5_setDefaults 0 := ⟨kw_w 132 (by decide +kernel) (by decide +kernel), kw_w 100 (by decide +kernel) (by decide +kernel), ⟨by decide +kernel, by decide +kernel, by decide +kernel⟩, rfl, rfl⟩
theorem gv_X5_setDefaults : k_gv M_X5_setDefaults 5 := ⟨kw_w 131 (by decide +kernel) (by decide +kernel), kw_w 0 (by decide +kernel) (by decide +kernel), ⟨_, rfl, rfl⟩, by decide⟩
def tab_X5_setKind : List (Nat × Instr × Nat) := [(0, .aload_n 0, 1), (1, .getfield 9, 3), (4, .iload_n 1, 1), (5, .iload_n 2, 1), (6, .iastore, 1), (7, .aload_n 0, 1), (8, .getfield 15, 3), (11, .iload_n 1, 1), (12, .iload_n 3, 1), (13, .iastore, 1), (14, .return_, 1)]
def M_X5_setKind : kM := (yX5_setKind, RX5, cX5_setKind, tab_X5_setKind, 4, (Option.none : Option Jvm.ClassFile.FieldType), { frames := 0, cells := 0, slots := 0, locals := 0 })
theorem tb_X5_setKind : ∀ q ∈ m_tab M_X5_setKind, decode (m_cc M_X5_setKind) q.1 = .ok q.2 := by decide +kernel
theorem g_X5_setKind : k_g M_X5_setKind 3 := ⟨kw_w 136 (by decide +kernel) (by decide +kernel), kw_w 100 (by decide +kernel) (by decide +kernel), ⟨by decide +kernel, by decide +kernel, by decide +kernel⟩, rfl, rfl⟩
theorem gv_X5_setKind : k_gv M_X5_setKind 5 := ⟨kw_w 135 (by decide +kernel) (by decide +kernel), kw_w 1 (by decide +kernel) (by decide +kernel), ⟨_, rfl, rfl⟩, by decide⟩
def tab_X5_copyFrom : List (Nat × Instr × Nat) := [(0, .aload_n 0, 1), (1, .aload_n 1, 1), (2, .getfield 21, 3), (5, .putfield 21, 3), (8, .aload_n 0, 1), (9, .aload_n 1, 1), (10, .getfield 25, 3), (13, .putfield 25, 3), (16, .iconst 0, 1), (17, .istore_n 2, 1), (18, .iload_n 2, 1), (19, .iconst 3, 1), (20, .if_icmp .ge 26, 3), (23, .aload_n 0, 1), (24, .iload_n 2, 1), (25, .aload_n 1, 1), (26, .getfield 9, 3), (29, .iload_n 2, 1), (30, .iaload, 1), (31, .aload_n 1, 1), (32, .getfield 15, 3), (35, .iload_n 2, 1), (36, .iaload, 1), (37, .invokevirtual 28, 3), (40, .iinc 2 1, 3), (43, .goto (-25), 3), (46, .aload_n 0, 1), (47, .aload_n 1, 1), (48, .getfield 32, 3), (51, .putfield 32, 3), (54, .aload_n 0, 1), (55, .aload_n 1, 1), (56, .getfield 35, 3), (59, .putfield 35, 3), (62, .aload_n 0, 1), (63, .aload_n 1, 1), (64, .getfield 38, 3), (67, .putfield 38, 3), (70, .aload_n 0, 1), (71, .aload_n 1, 1), (72, .getfield 41, 3), (75, .putfield 41, 3), (78, .aload_n 0, 1), (79, .aload_n 1, 1), (80, .getfield 44, 3), (83, .putfield 44, 3), (86, .aload_n 0, 1), (87, .aload_n 1, 1), (88, .getfield 47, 3), (91, .putfield 47, 3), (94, .return_, 1)]
def M_X5_copyFrom : kM := (yX5_copyFrom, RX5, cX5_copyFrom, tab_X5_copyFrom, 3, (Option.none : Option Jvm.ClassFile.FieldType), { frames := 1, cells := 0, slots := 0, locals := 23 })
theorem tb_X5_copyFrom : ∀ q ∈ m_tab M_X5_copyFrom, decode (m_cc M_X5_copyFrom) q.1 = .ok q.2 := by decide +kernel
theorem g_X5_copyFrom : k_g M_X5_copyFrom 1 := ⟨kw_w 370 (by decide +kernel) (by decide +kernel), kw_w 100 (by decide +kernel) (by decide +kernel), ⟨by decide +kernel, by decide +kernel, by decide +kernel⟩, rfl, rfl⟩
theorem gv_X5_copyFrom : k_gv M_X5_copyFrom 5 := ⟨kw_w 369 (by decide +kernel) (by decide +kernel), kw_w 5 (by decide +kernel) (by decide +kernel), ⟨_, rfl, rfl⟩, by decide⟩
def tab_X5_cells : List (Nat × Instr × Nat) := [(0, .aload_n 0, 1), (1, .getfield 21, 3), (4, .aload_n 0, 1), (5, .getfield 25, 3), (8, .imul, 1), (9, .ireturn, 1)]
def M_X5_cells : kM := (yX5_cells, RX5, cX5_cells, tab_X5_cells, 1, (Option.some Jvm.ClassFile.FieldType.int), { frames := 0, cells := 0, slots := 0, locals := 0 })
theorem tb_X5_cells : ∀ q ∈ m_tab M_X5_cells, decode (m_cc M_X5_cells) q.1 = .ok q.2 := by decide +kernel
theorem g_X5_cells : k_g M_X5_cells 0 := ⟨kw_w 503 (by decide +kernel) (by decide +kernel), kw_w 100 (by decide +kernel) (by decide +kernel), ⟨by decide +kernel, by decide +kernel, by decide +kernel⟩, rfl, rfl⟩
theorem gv_X5_cells : k_gv M_X5_cells 5 := ⟨kw_w 502 (by decide +kernel) (by decide +kernel), kw_w 16 (by decide +kernel) (by decide +kernel), ⟨_, rfl, rfl⟩, by decide⟩
def tab_X5_areBeside : List (Nat × Instr × Nat) := [(0, .aload_n 0, 1), (1, .getfield 21, 3), (4, .iconst 1, 1), (5, .if_icmp .ge 5, 3), (8, .iconst 0, 1), (9, .ireturn, 1), (10, .iload_n 1, 1), (11, .aload_n 0, 1), (12, .getfield 21, 3), (15, .irem, 1), (16, .iload_n 2, 1), (17, .aload_n 0, 1), (18, .getfield 21, 3), (21, .irem, 1), (22, .isub, 1), (23, .istore_n 3, 1), (24, .iload_n 1, 1), (25, .aload_n 0, 1), (26, .getfield 21, 3), (29, .idiv, 1), (30, .iload_n 2, 1), (31, .aload_n 0, 1), (32, .getfield 21, 3), (35, .idiv, 1), (36, .isub, 1), (37, .istore 4, 2), (39, .iload_n 3, 1), (40, .iconst (-1), 1), (41, .if_icmp .lt 24, 3), (44, .iload_n 3, 1), (45, .iconst 1, 1), (46, .if_icmp .gt 19, 3), (49, .iload 4, 2), (51, .iconst (-1), 1), (52, .if_icmp .lt 13, 3), (55, .iload 4, 2), (57, .iconst 1, 1), (58, .if_icmp .gt 7, 3), (61, .iconst 1, 1), (62, .goto 4, 3), (65, .iconst 0, 1), (66, .ireturn, 1)]
def M_X5_areBeside : kM := (yX5_areBeside, RX5, cX5_areBeside, tab_X5_areBeside, 5, (Option.some Jvm.ClassFile.FieldType.boolean), { frames := 0, cells := 0, slots := 0, locals := 0 })
theorem tb_X5_areBeside : ∀ q ∈ m_tab M_X5_areBeside, decode (m_cc M_X5_areBeside) q.1 = .ok q.2 := by decide +kernel
theorem g_X5_areBeside : k_g M_X5_areBeside 2 := ⟨kw_w 617 (by decide +kernel) (by decide +kernel), kw_w 100 (by decide +kernel) (by decide +kernel), ⟨by decide +kernel, by decide +kernel, by decide +kernel⟩, rfl, rfl⟩
theorem gv_X5_areBeside : k_gv M_X5_areBeside 5 := ⟨kw_w 616 (by decide +kernel) (by decide +kernel), kw_w 37 (by decide +kernel) (by decide +kernel), ⟨_, rfl, rfl⟩, by decide⟩
def tab_X5_drawnWind : List (Nat × Instr × Nat) := [(0, .aload_n 0, 1), (1, .getfield 47, 3), (4, .ifCond .ge 5, 3), (7, .iconst 0, 1), (8, .ireturn, 1), (9, .ldc2_w 50, 3), (12, .iload_n 1, 1), (13, .i2l, 1), (14, .lmul, 1), (15, .ldc2_w 52, 3), (18, .iload_n 2, 1), (19, .i2l, 1), (20, .lmul, 1), (21, .ladd, 1), (22, .lconst 1, 1), (23, .ladd, 1), (24, .lstore_n 3, 1), (25, .lload_n 3, 1), (26, .lload_n 3, 1), (27, .lmul, 1), (28, .ldc2_w 54, 3), (31, .lrem, 1), (32, .aload_n 0, 1), (33, .getfield 47, 3), (36, .iconst 1, 1), (37, .iadd, 1), (38, .i2l, 1), (39, .lrem, 1), (40, .l2i, 1), (41, .ireturn, 1)]
def M_X5_drawnWind : kM := (yX5_drawnWind, RX5, cX5_drawnWind, tab_X5_drawnWind, 5, (Option.some Jvm.ClassFile.FieldType.int), { frames := 0, cells := 0, slots := 0, locals := 0 })
theorem tb_X5_drawnWind : ∀ q ∈ m_tab M_X5_drawnWind, decode (m_cc M_X5_drawnWind) q.1 = .ok q.2 := by decide +kernel
theorem g_X5_drawnWind : k_g M_X5_drawnWind 2 := ⟨kw_w 799 (by decide +kernel) (by decide +kernel), kw_w 100 (by decide +kernel) (by decide +kernel), ⟨by decide +kernel, by decide +kernel, by decide +kernel⟩, rfl, rfl⟩
theorem gv_X5_drawnWind : k_gv M_X5_drawnWind 5 := ⟨kw_w 798 (by decide +kernel) (by decide +kernel), kw_w 61 (by decide +kernel) (by decide +kernel), ⟨_, rfl, rfl⟩, by decide⟩
def tab_X6_clear : List (Nat × Instr × Nat) := [(0, .aload_n 0, 1), (1, .iconst 0, 1), (2, .putfield 9, 3), (5, .return_, 1)]
def M_X6_clear : kM := (yX6_clear, RX6, cX6_clear, tab_X6_clear, 1, (Option.none : Option Jvm.ClassFile.FieldType), { frames := 0, cells := 0, slots := 0, locals := 0 })
theorem tb_X6_clear : ∀ q ∈ m_tab M_X6_clear, decode (m_cc M_X6_clear) q.1 = .ok q.2 := by decide +kernel
theorem g_X6_clear : k_g M_X6_clear 0 := ⟨kw_w 814 (by decide +kernel) (by decide +kernel), kw_w 105 (by decide +kernel) (by decide +kernel), ⟨by decide +kernel, by decide +kernel, by decide +kernel⟩, rfl, rfl⟩
theorem gv_X6_clear : k_gv M_X6_clear 6 := ⟨kw_w 813 (by decide +kernel) (by decide +kernel), kw_w 62 (by decide +kernel) (by decide +kernel), ⟨_, rfl, rfl⟩, by decide⟩
def tab_X6_add : List (Nat × Instr × Nat) := [(0, .aload_n 0, 1), (1, .getfield 9, 3), (4, .ifCond .ne 7, 3), (7, .iconst 1, 1), (8, .goto 4, 3), (11, .iconst 0, 1), (12, .istore_n 3, 1), (13, .aload_n 0, 1), (14, .iload_n 3, 1), (15, .ifCond .eq 7, 3), (18, .iload_n 1, 1), (19, .goto 11, 3), (22, .aload_n 0, 1), (23, .getfield 15, 3), (26, .iload_n 1, 1), (27, .invokestatic 18, 3), (30, .putfield 15, 3), (33, .aload_n 0, 1), (34, .iload_n 3, 1), (35, .ifCond .eq 7, 3), (38, .iload_n 1, 1), (39, .goto 11, 3), (42, .aload_n 0, 1), (43, .getfield 24, 3), (46, .iload_n 1, 1), (47, .invokestatic 27, 3), (50, .putfield 24, 3), (53, .aload_n 0, 1), (54, .iload_n 3, 1), (55, .ifCond .eq 7, 3), (58, .iload_n 2, 1), (59, .goto 11, 3), (62, .aload_n 0, 1), (63, .getfield 30, 3), (66, .iload_n 2, 1), (67, .invokestatic 18, 3), (70, .putfield 30, 3), (73, .aload_n 0, 1), (74, .iload_n 3, 1), (75, .ifCond .eq 7, 3), (78, .iload_n 2, 1), (79, .goto 11, 3), (82, .aload_n 0, 1), (83, .getfield 33, 3), (86, .iload_n 2, 1), (87, .invokestatic 27, 3), (90, .putfield 33, 3), (93, .aload_n 0, 1), (94, .dup, 1), (95, .getfield 9, 3), (98, .iconst 1, 1), (99, .iadd, 1), (100, .putfield 9, 3), (103, .return_, 1)]
def M_X6_add : kM := (yX6_add, RX6, cX6_add, tab_X6_add, 4, (Option.none : Option Jvm.ClassFile.FieldType), { frames := 1, cells := 0, slots := 0, locals := 21 })
theorem tb_X6_add : ∀ q ∈ m_tab M_X6_add, decode (m_cc M_X6_add) q.1 = .ok q.2 := by decide +kernel
theorem g_X6_add : k_g M_X6_add 2 := ⟨kw_w 818 (by decide +kernel) (by decide +kernel), kw_w 105 (by decide +kernel) (by decide +kernel), ⟨by decide +kernel, by decide +kernel, by decide +kernel⟩, rfl, rfl⟩
theorem gv_X6_add : k_gv M_X6_add 6 := ⟨kw_w 817 (by decide +kernel) (by decide +kernel), kw_w 63 (by decide +kernel) (by decide +kernel), ⟨_, rfl, rfl⟩, by decide⟩
def tab_X6_told : List (Nat × Instr × Nat) := [(0, .iload_n 1, 1), (1, .ifCond .ne 8, 3), (4, .aload_n 0, 1), (5, .getfield 9, 3), (8, .ireturn, 1), (9, .aload_n 0, 1), (10, .getfield 9, 3), (13, .ifCond .ne 6, 3), (16, .bipush (-4), 2), (18, .ireturn, 1), (19, .iload_n 1, 1), (20, .tableswitch 43 1 3 #[28, 33, 38], 28), (48, .aload_n 0, 1), (49, .getfield 15, 3), (52, .ireturn, 1), (53, .aload_n 0, 1), (54, .getfield 24, 3), (57, .ireturn, 1), (58, .aload_n 0, 1), (59, .getfield 30, 3), (62, .ireturn, 1), (63, .aload_n 0, 1), (64, .getfield 33, 3), (67, .ireturn, 1)]
def M_X6_told : kM := (yX6_told, RX6, cX6_told, tab_X6_told, 2, (Option.some Jvm.ClassFile.FieldType.int), { frames := 0, cells := 0, slots := 0, locals := 0 })
theorem tb_X6_told : ∀ q ∈ m_tab M_X6_told, decode (m_cc M_X6_told) q.1 = .ok q.2 := by decide +kernel
theorem g_X6_told : k_g M_X6_told 1 := ⟨kw_w 824 (by decide +kernel) (by decide +kernel), kw_w 105 (by decide +kernel) (by decide +kernel), ⟨by decide +kernel, by decide +kernel, by decide +kernel⟩, rfl, rfl⟩
theorem gv_X6_told : k_gv M_X6_told 6 := ⟨kw_w 823 (by decide +kernel) (by decide +kernel), kw_w 64 (by decide +kernel) (by decide +kernel), ⟨_, rfl, rfl⟩, by decide⟩
def tab_X7_write : List (Nat × Instr × Nat) := [(0, .iload_n 1, 1), (1, .iconst 1, 1), (2, .if_icmp .lt 9, 3), (5, .iload_n 1, 1), (6, .bipush 8, 2), (8, .if_icmp .le 5, 3), (11, .iconst (-1), 1), (12, .ireturn, 1), (13, .aload_n 0, 1), (14, .getfield 13, 3), (17, .iload_n 1, 1), (18, .iadd, 1), (19, .sipush 500, 3), (22, .if_icmp .le 6, 3), (25, .bipush (-3), 2), (27, .ireturn, 1), (28, .iload_n 1, 1), (29, .iconst 1, 1), (30, .isub, 1), (31, .istore 4, 2), (33, .iload 4, 2), (35, .ifCond .lt 37, 3), (38, .aload_n 0, 1), (39, .getfield 9, 3), (42, .aload_n 0, 1), (43, .getfield 13, 3), (46, .lload_n 2, 1), (47, .bipush 8, 2), (49, .iload 4, 2), (51, .imul, 1), (52, .lshr, 1), (53, .l2i, 1), (54, .i2b, 1), (55, .bastore, 1), (56, .aload_n 0, 1), (57, .dup, 1), (58, .getfield 13, 3), (61, .iconst 1, 1), (62, .iadd, 1), (63, .putfield 13, 3), (66, .iinc 4 (-1), 3), (69, .goto (-36), 3), (72, .aload_n 0, 1), (73, .getfield 13, 3), (76, .ireturn, 1)]
def M_X7_write : kM := (yX7_write, RX7, cX7_write, tab_X7_write, 5, (Option.some Jvm.ClassFile.FieldType.int), { frames := 0, cells := 0, slots := 0, locals := 0 })
theorem tb_X7_write : ∀ q ∈ m_tab M_X7_write, decode (m_cc M_X7_write) q.1 = .ok q.2 := by decide +kernel
theorem g_X7_write : k_g M_X7_write 2 := ⟨kw_w 425 (by decide +kernel) (by decide +kernel), kw_w 98 (by decide +kernel) (by decide +kernel), ⟨by decide +kernel, by decide +kernel, by decide +kernel⟩, rfl, rfl⟩
theorem gv_X7_write : k_gv M_X7_write 7 := ⟨kw_w 423 (by decide +kernel) (by decide +kernel), kw_w 424 (by decide +kernel) (by decide +kernel), ⟨_, rfl, rfl⟩, by decide⟩
def tab_X7_wipe : List (Nat × Instr × Nat) := [(0, .aload_n 0, 1), (1, .getfield 13, 3), (4, .istore_n 1, 1), (5, .aload_n 0, 1), (6, .iconst 0, 1), (7, .putfield 13, 3), (10, .iload_n 1, 1), (11, .ireturn, 1)]
def M_X7_wipe : kM := (yX7_wipe, RX7, cX7_wipe, tab_X7_wipe, 2, (Option.some Jvm.ClassFile.FieldType.int), { frames := 0, cells := 0, slots := 0, locals := 0 })
theorem tb_X7_wipe : ∀ q ∈ m_tab M_X7_wipe, decode (m_cc M_X7_wipe) q.1 = .ok q.2 := by decide +kernel
theorem g_X7_wipe : k_g M_X7_wipe 0 := ⟨kw_w 429 (by decide +kernel) (by decide +kernel), kw_w 98 (by decide +kernel) (by decide +kernel), ⟨by decide +kernel, by decide +kernel, by decide +kernel⟩, rfl, rfl⟩
theorem gv_X7_wipe : k_gv M_X7_wipe 7 := ⟨kw_w 427 (by decide +kernel) (by decide +kernel), kw_w 428 (by decide +kernel) (by decide +kernel), ⟨_, rfl, rfl⟩, by decide⟩
def tab_X7_fault : List (Nat × Instr × Nat) := [(0, .aload_n 0, 1), (1, .getfield 20, 3), (4, .aload_n 0, 1), (5, .getfield 9, 3), (8, .aload_n 0, 1), (9, .getfield 13, 3), (12, .invokevirtual 78, 3), (15, .ireturn, 1)]
def M_X7_fault : kM := (yX7_fault, RX7, cX7_fault, tab_X7_fault, 1, (Option.some Jvm.ClassFile.FieldType.int), { frames := 4, cells := 0, slots := 0, locals := 88 })
theorem tb_X7_fault : ∀ q ∈ m_tab M_X7_fault, decode (m_cc M_X7_fault) q.1 = .ok q.2 := by decide +kernel
theorem g_X7_fault : k_g M_X7_fault 0 := ⟨kw_w 433 (by decide +kernel) (by decide +kernel), kw_w 98 (by decide +kernel) (by decide +kernel), ⟨by decide +kernel, by decide +kernel, by decide +kernel⟩, rfl, rfl⟩
theorem gv_X7_fault : k_gv M_X7_fault 7 := ⟨kw_w 431 (by decide +kernel) (by decide +kernel), kw_w 432 (by decide +kernel) (by decide +kernel), ⟨_, rfl, rfl⟩, by decide⟩
def tab_X7_lay : List (Nat × Instr × Nat) := [(0, .aload_n 0, 1), (1, .getfield 20, 3), (4, .aload_n 0, 1), (5, .getfield 9, 3), (8, .aload_n 0, 1), (9, .getfield 13, 3), (12, .invokevirtual 78, 3), (15, .bipush (-4), 2), (17, .if_icmp .ne 13, 3), (20, .aload_n 0, 1), (21, .getfield 20, 3), (24, .invokevirtual 82, 3), (27, .ifCond .ne 6, 3), (30, .bipush (-2), 2), (32, .ireturn, 1), (33, .aload_n 0, 1), (34, .getfield 20, 3), (37, .aload_n 0, 1), (38, .getfield 27, 3), (41, .aload_n 0, 1), (42, .getfield 34, 3), (45, .invokevirtual 74, 3), (48, .aload_n 0, 1), (49, .iconst 0, 1), (50, .putfield 57, 3), (53, .aload_n 0, 1), (54, .iconst 0, 1), (55, .putfield 50, 3), (58, .aload_n 0, 1), (59, .getfield 27, 3), (62, .invokevirtual 86, 3), (65, .ireturn, 1)]
def M_X7_lay : kM := (yX7_lay, RX7, cX7_lay, tab_X7_lay, 1, (Option.some Jvm.ClassFile.FieldType.int), { frames := 4, cells := 0, slots := 0, locals := 88 })
theorem tb_X7_lay : ∀ q ∈ m_tab M_X7_lay, decode (m_cc M_X7_lay) q.1 = .ok q.2 := by decide +kernel
theorem g_X7_lay : k_g M_X7_lay 0 := ⟨kw_w 491 (by decide +kernel) (by decide +kernel), kw_w 98 (by decide +kernel) (by decide +kernel), ⟨by decide +kernel, by decide +kernel, by decide +kernel⟩, rfl, rfl⟩
theorem gv_X7_lay : k_gv M_X7_lay 7 := ⟨kw_w 489 (by decide +kernel) (by decide +kernel), kw_w 490 (by decide +kernel) (by decide +kernel), ⟨_, rfl, rfl⟩, by decide⟩
def tab_X7_cell : List (Nat × Instr × Nat) := [(0, .aload_n 0, 1), (1, .iload_n 1, 1), (2, .invokevirtual 90, 3), (5, .ifCond .ne 5, 3), (8, .iconst (-1), 1), (9, .ireturn, 1), (10, .aload_n 0, 1), (11, .getfield 34, 3), (14, .getfield 94, 3), (17, .astore_n 3, 1), (18, .iload_n 2, 1), (19, .tableswitch 90 0 5 #[37, 44, 51, 58, 68, 78], 37), (56, .aload_n 3, 1), (57, .getfield 98, 3), (60, .iload_n 1, 1), (61, .iaload, 1), (62, .ireturn, 1), (63, .aload_n 3, 1), (64, .getfield 103, 3), (67, .iload_n 1, 1), (68, .iaload, 1), (69, .ireturn, 1), (70, .aload_n 3, 1), (71, .getfield 106, 3), (74, .iload_n 1, 1), (75, .iaload, 1), (76, .ireturn, 1), (77, .aload_n 3, 1), (78, .getfield 109, 3), (81, .iload_n 1, 1), (82, .baload, 1), (83, .invokestatic 113, 3), (86, .ireturn, 1), (87, .aload_n 3, 1), (88, .getfield 117, 3), (91, .iload_n 1, 1), (92, .baload, 1), (93, .invokestatic 113, 3), (96, .ireturn, 1), (97, .aload_n 0, 1), (98, .getfield 34, 3), (101, .getfield 120, 3), (104, .iload_n 1, 1), (105, .invokevirtual 124, 3), (108, .ireturn, 1), (109, .iconst (-1), 1), (110, .ireturn, 1)]
def M_X7_cell : kM := (yX7_cell, RX7, cX7_cell, tab_X7_cell, 4, (Option.some Jvm.ClassFile.FieldType.int), { frames := 2, cells := 0, slots := 0, locals := 41 })
theorem tb_X7_cell : ∀ q ∈ m_tab M_X7_cell, decode (m_cc M_X7_cell) q.1 = .ok q.2 := by decide +kernel
theorem g_X7_cell : k_g M_X7_cell 2 := ⟨kw_w 507 (by decide +kernel) (by decide +kernel), kw_w 98 (by decide +kernel) (by decide +kernel), ⟨by decide +kernel, by decide +kernel, by decide +kernel⟩, rfl, rfl⟩
theorem gv_X7_cell : k_gv M_X7_cell 7 := ⟨kw_w 505 (by decide +kernel) (by decide +kernel), kw_w 506 (by decide +kernel) (by decide +kernel), ⟨_, rfl, rfl⟩, by decide⟩
def tab_X7_pot : List (Nat × Instr × Nat) := [(0, .aload_n 0, 1), (1, .iload_n 1, 1), (2, .invokevirtual 130, 3), (5, .ifCond .ne 5, 3), (8, .iconst (-1), 1), (9, .ireturn, 1), (10, .aload_n 0, 1), (11, .getfield 34, 3), (14, .getfield 120, 3), (17, .astore_n 3, 1), (18, .iload_n 2, 1), (19, .tableswitch 82 0 5 #[37, 44, 51, 58, 65, 75], 37), (56, .aload_n 3, 1), (57, .getfield 133, 3), (60, .iload_n 1, 1), (61, .iaload, 1), (62, .ireturn, 1), (63, .aload_n 3, 1), (64, .getfield 136, 3), (67, .iload_n 1, 1), (68, .iaload, 1), (69, .ireturn, 1), (70, .aload_n 3, 1), (71, .getfield 139, 3), (74, .iload_n 1, 1), (75, .iaload, 1), (76, .ireturn, 1), (77, .aload_n 3, 1), (78, .getfield 142, 3), (81, .iload_n 1, 1), (82, .iaload, 1), (83, .ireturn, 1), (84, .aload_n 3, 1), (85, .iload_n 1, 1), (86, .aload_n 0, 1), (87, .getfield 27, 3), (90, .invokevirtual 145, 3), (93, .ireturn, 1), (94, .aload_n 3, 1), (95, .getfield 149, 3), (98, .iload_n 1, 1), (99, .iaload, 1), (100, .ireturn, 1), (101, .iconst (-1), 1), (102, .ireturn, 1)]
def M_X7_pot : kM := (yX7_pot, RX7, cX7_pot, tab_X7_pot, 4, (Option.some Jvm.ClassFile.FieldType.int), { frames := 1, cells := 0, slots := 0, locals := 22 })
theorem tb_X7_pot : ∀ q ∈ m_tab M_X7_pot, decode (m_cc M_X7_pot) q.1 = .ok q.2 := by decide +kernel
theorem g_X7_pot : k_g M_X7_pot 2 := ⟨kw_w 522 (by decide +kernel) (by decide +kernel), kw_w 98 (by decide +kernel) (by decide +kernel), ⟨by decide +kernel, by decide +kernel, by decide +kernel⟩, rfl, rfl⟩
theorem gv_X7_pot : k_gv M_X7_pot 7 := ⟨kw_w 520 (by decide +kernel) (by decide +kernel), kw_w 521 (by decide +kernel) (by decide +kernel), ⟨_, rfl, rfl⟩, by decide⟩
def tab_X7_minute : List (Nat × Instr × Nat) := [(0, .iload_n 1, 1), (1, .invokestatic 152, 3), (4, .ifCond .ne 5, 3), (7, .iconst (-1), 1), (8, .ireturn, 1), (9, .aload_n 0, 1), (10, .getfield 34, 3), (13, .aload_n 0, 1), (14, .getfield 27, 3), (17, .iload_n 1, 1), (18, .aload_n 0, 1), (19, .getfield 63, 3), (22, .invokevirtual 155, 3), (25, .aload_n 0, 1), (26, .getfield 34, 3), (29, .getfield 120, 3), (32, .invokevirtual 159, 3), (35, .ireturn, 1)]
def M_X7_minute : kM := (yX7_minute, RX7, cX7_minute, tab_X7_minute, 2, (Option.some Jvm.ClassFile.FieldType.int), { frames := 6, cells := 0, slots := 0, locals := 138 })
theorem tb_X7_minute : ∀ q ∈ m_tab M_X7_minute, decode (m_cc M_X7_minute) q.1 = .ok q.2 := by decide +kernel
theorem g_X7_minute : k_g M_X7_minute 1 := ⟨kw_w 534 (by decide +kernel) (by decide +kernel), kw_w 98 (by decide +kernel) (by decide +kernel), ⟨by decide +kernel, by decide +kernel, by decide +kernel⟩, rfl, rfl⟩
theorem gv_X7_minute : k_gv M_X7_minute 7 := ⟨kw_w 532 (by decide +kernel) (by decide +kernel), kw_w 533 (by decide +kernel) (by decide +kernel), ⟨_, rfl, rfl⟩, by decide⟩
def tab_X7_fuel : List (Nat × Instr × Nat) := [(0, .aload_n 0, 1), (1, .iload_n 1, 1), (2, .invokevirtual 90, 3), (5, .ifCond .eq 14, 3), (8, .iload_n 2, 1), (9, .iconst 1, 1), (10, .if_icmp .lt 9, 3), (13, .iload_n 2, 1), (14, .bipush 99, 2), (16, .if_icmp .le 5, 3), (19, .iconst (-1), 1), (20, .ireturn, 1), (21, .aload_n 0, 1), (22, .getfield 34, 3), (25, .getfield 94, 3), (28, .getfield 103, 3), (31, .iload_n 1, 1), (32, .iaload, 1), (33, .iload_n 2, 1), (34, .iadd, 1), (35, .istore_n 3, 1), (36, .iload_n 3, 1), (37, .sipush 999, 3), (40, .if_icmp .le 6, 3), (43, .bipush (-2), 2), (45, .ireturn, 1), (46, .aload_n 0, 1), (47, .getfield 34, 3), (50, .getfield 94, 3), (53, .getfield 103, 3), (56, .iload_n 1, 1), (57, .iload_n 3, 1), (58, .iastore, 1), (59, .iload_n 3, 1), (60, .ireturn, 1)]
def M_X7_fuel : kM := (yX7_fuel, RX7, cX7_fuel, tab_X7_fuel, 4, (Option.some Jvm.ClassFile.FieldType.int), { frames := 2, cells := 0, slots := 0, locals := 41 })
theorem tb_X7_fuel : ∀ q ∈ m_tab M_X7_fuel, decode (m_cc M_X7_fuel) q.1 = .ok q.2 := by decide +kernel
theorem g_X7_fuel : k_g M_X7_fuel 2 := ⟨kw_w 633 (by decide +kernel) (by decide +kernel), kw_w 98 (by decide +kernel) (by decide +kernel), ⟨by decide +kernel, by decide +kernel, by decide +kernel⟩, rfl, rfl⟩
theorem gv_X7_fuel : k_gv M_X7_fuel 7 := ⟨kw_w 631 (by decide +kernel) (by decide +kernel), kw_w 632 (by decide +kernel) (by decide +kernel), ⟨_, rfl, rfl⟩, by decide⟩
def tab_X7_cover : List (Nat × Instr × Nat) := [(0, .aload_n 0, 1), (1, .iload_n 1, 1), (2, .invokevirtual 90, 3), (5, .ifCond .ne 5, 3), (8, .iconst (-1), 1), (9, .ireturn, 1), (10, .aload_n 0, 1), (11, .getfield 34, 3), (14, .getfield 94, 3), (17, .getfield 117, 3), (20, .iload_n 1, 1), (21, .baload, 1), (22, .invokestatic 113, 3), (25, .istore_n 3, 1), (26, .aload_n 0, 1), (27, .getfield 34, 3), (30, .getfield 94, 3), (33, .getfield 117, 3), (36, .iload_n 1, 1), (37, .iload_n 2, 1), (38, .bastore, 1), (39, .iload_n 3, 1), (40, .ireturn, 1)]
def M_X7_cover : kM := (yX7_cover, RX7, cX7_cover, tab_X7_cover, 4, (Option.some Jvm.ClassFile.FieldType.int), { frames := 2, cells := 0, slots := 0, locals := 41 })
theorem tb_X7_cover : ∀ q ∈ m_tab M_X7_cover, decode (m_cc M_X7_cover) q.1 = .ok q.2 := by decide +kernel
theorem g_X7_cover : k_g M_X7_cover 2 := ⟨kw_w 637 (by decide +kernel) (by decide +kernel), kw_w 98 (by decide +kernel) (by decide +kernel), ⟨by decide +kernel, by decide +kernel, by decide +kernel⟩, rfl, rfl⟩
theorem gv_X7_cover : k_gv M_X7_cover 7 := ⟨kw_w 635 (by decide +kernel) (by decide +kernel), kw_w 636 (by decide +kernel) (by decide +kernel), ⟨_, rfl, rfl⟩, by decide⟩
def tab_X7_light : List (Nat × Instr × Nat) := [(0, .aload_n 0, 1), (1, .iload_n 1, 1), (2, .invokevirtual 90, 3), (5, .ifCond .ne 5, 3), (8, .iconst (-1), 1), (9, .ireturn, 1), (10, .aload_n 0, 1), (11, .getfield 34, 3), (14, .getfield 94, 3), (17, .getfield 109, 3), (20, .iload_n 1, 1), (21, .baload, 1), (22, .invokestatic 113, 3), (25, .istore_n 2, 1), (26, .aload_n 0, 1), (27, .getfield 34, 3), (30, .getfield 94, 3), (33, .getfield 109, 3), (36, .iload_n 1, 1), (37, .iconst 1, 1), (38, .bastore, 1), (39, .iload_n 2, 1), (40, .ireturn, 1)]
def M_X7_light : kM := (yX7_light, RX7, cX7_light, tab_X7_light, 3, (Option.some Jvm.ClassFile.FieldType.int), { frames := 2, cells := 0, slots := 0, locals := 41 })
theorem tb_X7_light : ∀ q ∈ m_tab M_X7_light, decode (m_cc M_X7_light) q.1 = .ok q.2 := by decide +kernel
theorem g_X7_light : k_g M_X7_light 1 := ⟨kw_w 641 (by decide +kernel) (by decide +kernel), kw_w 98 (by decide +kernel) (by decide +kernel), ⟨by decide +kernel, by decide +kernel, by decide +kernel⟩, rfl, rfl⟩
theorem gv_X7_light : k_gv M_X7_light 7 := ⟨kw_w 639 (by decide +kernel) (by decide +kernel), kw_w 640 (by decide +kernel) (by decide +kernel), ⟨_, rfl, rfl⟩, by decide⟩
def tab_X7_take : List (Nat × Instr × Nat) := [(0, .aload_n 0, 1), (1, .iload_n 1, 1), (2, .invokevirtual 130, 3), (5, .ifCond .ne 5, 3), (8, .iconst (-1), 1), (9, .ireturn, 1), (10, .aload_n 0, 1), (11, .getfield 34, 3), (14, .getfield 120, 3), (17, .getfield 162, 3), (20, .iload_n 1, 1), (21, .iaload, 1), (22, .ifCond .eq 6, 3), (25, .bipush (-2), 2), (27, .ireturn, 1), (28, .aload_n 0, 1), (29, .getfield 34, 3), (32, .getfield 120, 3), (35, .iload_n 1, 1), (36, .aload_n 0, 1), (37, .getfield 27, 3), (40, .invokevirtual 145, 3), (43, .istore_n 2, 1), (44, .aload_n 0, 1), (45, .getfield 34, 3), (48, .getfield 120, 3), (51, .getfield 162, 3), (54, .iload_n 1, 1), (55, .bipush 6, 2), (57, .iastore, 1), (58, .iload_n 2, 1), (59, .ireturn, 1)]
def M_X7_take : kM := (yX7_take, RX7, cX7_take, tab_X7_take, 3, (Option.some Jvm.ClassFile.FieldType.int), { frames := 1, cells := 0, slots := 0, locals := 22 })
theorem tb_X7_take : ∀ q ∈ m_tab M_X7_take, decode (m_cc M_X7_take) q.1 = .ok q.2 := by decide +kernel
theorem g_X7_take : k_g M_X7_take 1 := ⟨kw_w 645 (by decide +kernel) (by decide +kernel), kw_w 98 (by decide +kernel) (by decide +kernel), ⟨by decide +kernel, by decide +kernel, by decide +kernel⟩, rfl, rfl⟩
theorem gv_X7_take : k_gv M_X7_take 7 := ⟨kw_w 643 (by decide +kernel) (by decide +kernel), kw_w 644 (by decide +kernel) (by decide +kernel), ⟨_, rfl, rfl⟩, by decide⟩
def tab_X7_dry : List (Nat × Instr × Nat) := [(0, .iload_n 1, 1), (1, .iconst 1, 1), (2, .if_icmp .lt 10, 3), (5, .iload_n 1, 1), (6, .sipush 240, 3), (9, .if_icmp .le 5, 3), (12, .iconst (-1), 1), (13, .ireturn, 1), (14, .aload_n 0, 1), (15, .getfield 34, 3), (18, .getfield 120, 3), (21, .iload_n 1, 1), (22, .invokevirtual 165, 3), (25, .aload_n 0, 1), (26, .getfield 34, 3), (29, .getfield 120, 3), (32, .invokevirtual 169, 3), (35, .ireturn, 1)]
def M_X7_dry : kM := (yX7_dry, RX7, cX7_dry, tab_X7_dry, 2, (Option.some Jvm.ClassFile.FieldType.int), { frames := 3, cells := 0, slots := 0, locals := 65 })
theorem tb_X7_dry : ∀ q ∈ m_tab M_X7_dry, decode (m_cc M_X7_dry) q.1 = .ok q.2 := by decide +kernel
theorem g_X7_dry : k_g M_X7_dry 1 := ⟨kw_w 649 (by decide +kernel) (by decide +kernel), kw_w 98 (by decide +kernel) (by decide +kernel), ⟨by decide +kernel, by decide +kernel, by decide +kernel⟩, rfl, rfl⟩
theorem gv_X7_dry : k_gv M_X7_dry 7 := ⟨kw_w 647 (by decide +kernel) (by decide +kernel), kw_w 648 (by decide +kernel) (by decide +kernel), ⟨_, rfl, rfl⟩, by decide⟩
def tab_X7_run : List (Nat × Instr × Nat) := [(0, .iload_n 1, 1), (1, .iload_n 2, 1), (2, .invokestatic 172, 3), (5, .ifCond .eq 12, 3), (8, .iload_n 3, 1), (9, .ifCond .lt 8, 3), (12, .iload_n 3, 1), (13, .iconst 1, 1), (14, .if_icmp .le 5, 3), (17, .iconst (-1), 1), (18, .ireturn, 1), (19, .aload_n 0, 1), (20, .iload_n 1, 1), (21, .iload_n 2, 1), (22, .invokevirtual 176, 3), (25, .iload_n 3, 1), (26, .ifCond .ne 20, 3), (29, .aload_n 0, 1), (30, .getfield 41, 3), (33, .getfield 120, 3), (36, .aload_n 0, 1), (37, .getfield 27, 3), (40, .invokevirtual 180, 3), (43, .goto 13, 3), (46, .aload_n 0, 1), (47, .getfield 41, 3), (50, .getfield 120, 3), (53, .invokevirtual 184, 3), (56, .ireturn, 1)]
def M_X7_run : kM := (yX7_run, RX7, cX7_run, tab_X7_run, 4, (Option.some Jvm.ClassFile.FieldType.int), { frames := 7, cells := 0, slots := 0, locals := 160 })
theorem tb_X7_run : ∀ q ∈ m_tab M_X7_run, decode (m_cc M_X7_run) q.1 = .ok q.2 := by decide +kernel
theorem g_X7_run : k_g M_X7_run 3 := ⟨kw_w 661 (by decide +kernel) (by decide +kernel), kw_w 98 (by decide +kernel) (by decide +kernel), ⟨by decide +kernel, by decide +kernel, by decide +kernel⟩, rfl, rfl⟩
theorem gv_X7_run : k_gv M_X7_run 7 := ⟨kw_w 659 (by decide +kernel) (by decide +kernel), kw_w 660 (by decide +kernel) (by decide +kernel), ⟨_, rfl, rfl⟩, by decide⟩
def tab_X7_of : List (Nat × Instr × Nat) := [(0, .iload_n 1, 1), (1, .iload_n 2, 1), (2, .invokestatic 172, 3), (5, .ifCond .eq 22, 3), (8, .aload_n 0, 1), (9, .iload_n 3, 1), (10, .invokevirtual 130, 3), (13, .ifCond .eq 14, 3), (16, .iload 4, 2), (18, .ifCond .lt 9, 3), (21, .iload 4, 2), (23, .iconst 3, 1), (24, .if_icmp .le 5, 3), (27, .iconst (-1), 1), (28, .ireturn, 1), (29, .aload_n 0, 1), (30, .iload_n 1, 1), (31, .iload_n 2, 1), (32, .invokevirtual 176, 3), (35, .iload 4, 2), (37, .tableswitch 74 0 2 #[27, 43, 61], 27), (64, .aload_n 0, 1), (65, .getfield 41, 3), (68, .getfield 120, 3), (71, .iload_n 3, 1), (72, .aload_n 0, 1), (73, .getfield 27, 3), (76, .invokevirtual 145, 3), (79, .ireturn, 1), (80, .aload_n 0, 1), (81, .aload_n 0, 1), (82, .getfield 34, 3), (85, .getfield 120, 3), (88, .getfield 133, 3), (91, .iload_n 3, 1), (92, .iaload, 1), (93, .iload_n 1, 1), (94, .invokevirtual 187, 3), (97, .ireturn, 1), (98, .aload_n 0, 1), (99, .getfield 41, 3), (102, .getfield 120, 3), (105, .getfield 149, 3), (108, .iload_n 3, 1), (109, .iaload, 1), (110, .ireturn, 1), (111, .aload_n 0, 1), (112, .getfield 41, 3), (115, .getfield 120, 3), (118, .getfield 142, 3), (121, .iload_n 3, 1), (122, .iaload, 1), (123, .ireturn, 1)]
def M_X7_of : kM := (yX7_of, RX7, cX7_of, tab_X7_of, 5, (Option.some Jvm.ClassFile.FieldType.int), { frames := 7, cells := 0, slots := 0, locals := 160 })
theorem tb_X7_of : ∀ q ∈ m_tab M_X7_of, decode (m_cc M_X7_of) q.1 = .ok q.2 := by decide +kernel
theorem g_X7_of : k_g M_X7_of 4 := ⟨kw_w 705 (by decide +kernel) (by decide +kernel), kw_w 98 (by decide +kernel) (by decide +kernel), ⟨by decide +kernel, by decide +kernel, by decide +kernel⟩, rfl, rfl⟩
theorem gv_X7_of : k_gv M_X7_of 7 := ⟨kw_w 703 (by decide +kernel) (by decide +kernel), kw_w 704 (by decide +kernel) (by decide +kernel), ⟨_, rfl, rfl⟩, by decide⟩
def tab_X7_drying : List (Nat × Instr × Nat) := [(0, .iload_n 1, 1), (1, .iload_n 2, 1), (2, .invokestatic 172, 3), (5, .ifCond .ne 5, 3), (8, .iconst (-1), 1), (9, .ireturn, 1), (10, .aload_n 0, 1), (11, .iload_n 1, 1), (12, .iload_n 2, 1), (13, .invokevirtual 191, 3), (16, .iconst 0, 1), (17, .istore_n 3, 1), (18, .iload_n 3, 1), (19, .sipush 240, 3), (22, .if_icmp .gt 47, 3), (25, .aload_n 0, 1), (26, .getfield 41, 3), (29, .getfield 120, 3), (32, .aload_n 0, 1), (33, .getfield 34, 3), (36, .getfield 120, 3), (39, .invokevirtual 194, 3), (42, .aload_n 0, 1), (43, .getfield 41, 3), (46, .getfield 120, 3), (49, .iload_n 3, 1), (50, .invokevirtual 165, 3), (53, .aload_n 0, 1), (54, .iload_n 1, 1), (55, .invokevirtual 198, 3), (58, .ifCond .ne 5, 3), (61, .iload_n 3, 1), (62, .ireturn, 1), (63, .iinc 3 1, 3), (66, .goto (-48), 3), (69, .bipush (-4), 2), (71, .ireturn, 1)]
def M_X7_drying : kM := (yX7_drying, RX7, cX7_drying, tab_X7_drying, 4, (Option.some Jvm.ClassFile.FieldType.int), { frames := 6, cells := 0, slots := 0, locals := 137 })
theorem tb_X7_drying : ∀ q ∈ m_tab M_X7_drying, decode (m_cc M_X7_drying) q.1 = .ok q.2 := by decide +kernel
theorem g_X7_drying : k_g M_X7_drying 2 := ⟨kw_w 717 (by decide +kernel) (by decide +kernel), kw_w 98 (by decide +kernel) (by decide +kernel), ⟨by decide +kernel, by decide +kernel, by decide +kernel⟩, rfl, rfl⟩
theorem gv_X7_drying : k_gv M_X7_drying 7 := ⟨kw_w 715 (by decide +kernel) (by decide +kernel), kw_w 716 (by decide +kernel) (by decide +kernel), ⟨_, rfl, rfl⟩, by decide⟩
def tab_X7_grit : List (Nat × Instr × Nat) := [(0, .aload_n 0, 1), (1, .iload_n 1, 1), (2, .invokevirtual 130, 3), (5, .ifCond .eq 11, 3), (8, .iload_n 2, 1), (9, .iload_n 3, 1), (10, .invokestatic 172, 3), (13, .ifCond .ne 5, 3), (16, .iconst (-1), 1), (17, .ireturn, 1), (18, .aload_n 0, 1), (19, .iload_n 2, 1), (20, .iload_n 3, 1), (21, .invokevirtual 191, 3), (24, .bipush (-4), 2), (26, .istore 4, 2), (28, .iconst (-1), 1), (29, .istore 5, 2), (31, .iconst 0, 1), (32, .istore 6, 2), (34, .iload 6, 2), (36, .bipush 9, 2), (38, .if_icmp .gt 99, 3), (41, .aload_n 0, 1), (42, .getfield 41, 3), (45, .getfield 120, 3), (48, .aload_n 0, 1), (49, .getfield 34, 3), (52, .getfield 120, 3), (55, .invokevirtual 194, 3), (58, .aload_n 0, 1), (59, .getfield 41, 3), (62, .getfield 120, 3), (65, .getfield 201, 3), (68, .iload_n 1, 1), (69, .iload 6, 2), (71, .iastore, 1), (72, .aload_n 0, 1), (73, .iconst 0, 1), (74, .iload_n 2, 1), (75, .invokevirtual 204, 3), (78, .aload_n 0, 1), (79, .getfield 41, 3), (82, .getfield 120, 3), (85, .iload_n 1, 1), (86, .aload_n 0, 1), (87, .getfield 27, 3), (90, .invokevirtual 145, 3), (93, .ifCond .ne 38, 3), (96, .aload_n 0, 1), (97, .getfield 41, 3), (100, .getfield 120, 3), (103, .getfield 142, 3), (106, .iload_n 1, 1), (107, .iaload, 1), (108, .iload 5, 2), (110, .if_icmp .le 21, 3), (113, .iload 6, 2), (115, .istore 4, 2), (117, .aload_n 0, 1), (118, .getfield 41, 3), (121, .getfield 120, 3), (124, .getfield 142, 3), (127, .iload_n 1, 1), (128, .iaload, 1), (129, .istore 5, 2), (131, .iinc 6 1, 3), (134, .goto (-100), 3), (137, .iload 4, 2), (139, .ireturn, 1)]
def M_X7_grit : kM := (yX7_grit, RX7, cX7_grit, tab_X7_grit, 7, (Option.some Jvm.ClassFile.FieldType.int), { frames := 6, cells := 0, slots := 0, locals := 138 })
theorem tb_X7_grit : ∀ q ∈ m_tab M_X7_grit, decode (m_cc M_X7_grit) q.1 = .ok q.2 := by decide +kernel
theorem g_X7_grit : k_g M_X7_grit 3 := ⟨kw_w 725 (by decide +kernel) (by decide +kernel), kw_w 98 (by decide +kernel) (by decide +kernel), ⟨by decide +kernel, by decide +kernel, by decide +kernel⟩, rfl, rfl⟩
theorem gv_X7_grit : k_gv M_X7_grit 7 := ⟨kw_w 723 (by decide +kernel) (by decide +kernel), kw_w 724 (by decide +kernel) (by decide +kernel), ⟨_, rfl, rfl⟩, by decide⟩
def tab_X7_enough : List (Nat × Instr × Nat) := [(0, .iload_n 1, 1), (1, .iconst 1, 1), (2, .if_icmp .lt 17, 3), (5, .iload_n 1, 1), (6, .bipush 6, 2), (8, .if_icmp .gt 11, 3), (11, .iload_n 2, 1), (12, .iload_n 3, 1), (13, .invokestatic 172, 3), (16, .ifCond .ne 5, 3), (19, .iconst (-1), 1), (20, .ireturn, 1), (21, .bipush 10, 2), (23, .istore 4, 2), (25, .iload 4, 2), (27, .sipush 200, 3), (30, .if_icmp .gt 60, 3), (33, .aload_n 0, 1), (34, .getfield 41, 3), (37, .aload_n 0, 1), (38, .getfield 34, 3), (41, .invokevirtual 207, 3), (44, .aload_n 0, 1), (45, .getfield 41, 3), (48, .getfield 94, 3), (51, .iload 4, 2), (53, .invokevirtual 210, 3), (56, .aload_n 0, 1), (57, .iconst 0, 1), (58, .iload_n 2, 1), (59, .iload_n 3, 1), (60, .invokevirtual 213, 3), (63, .aload_n 0, 1), (64, .getfield 41, 3), (67, .getfield 120, 3), (70, .aload_n 0, 1), (71, .getfield 27, 3), (74, .invokevirtual 180, 3), (77, .iload_n 1, 1), (78, .if_icmp .lt 6, 3), (81, .iload 4, 2), (83, .ireturn, 1), (84, .iinc 4 10, 3), (87, .goto (-62), 3), (90, .bipush (-4), 2), (92, .ireturn, 1)]
def M_X7_enough : kM := (yX7_enough, RX7, cX7_enough, tab_X7_enough, 5, (Option.some Jvm.ClassFile.FieldType.int), { frames := 7, cells := 0, slots := 0, locals := 161 })
theorem tb_X7_enough : ∀ q ∈ m_tab M_X7_enough, decode (m_cc M_X7_enough) q.1 = .ok q.2 := by decide +kernel
theorem g_X7_enough : k_g M_X7_enough 3 := ⟨kw_w 729 (by decide +kernel) (by decide +kernel), kw_w 98 (by decide +kernel) (by decide +kernel), ⟨by decide +kernel, by decide +kernel, by decide +kernel⟩, rfl, rfl⟩
theorem gv_X7_enough : k_gv M_X7_enough 7 := ⟨kw_w 727 (by decide +kernel) (by decide +kernel), kw_w 728 (by decide +kernel) (by decide +kernel), ⟨_, rfl, rfl⟩, by decide⟩
def tab_X7_spot : List (Nat × Instr × Nat) := [(0, .aload_n 0, 1), (1, .iload_n 1, 1), (2, .invokevirtual 90, 3), (5, .ifCond .ne 5, 3), (8, .iconst (-1), 1), (9, .ireturn, 1), (10, .iconst 0, 1), (11, .istore_n 2, 1), (12, .iload_n 2, 1), (13, .aload_n 0, 1), (14, .getfield 57, 3), (17, .if_icmp .ge 22, 3), (20, .aload_n 0, 1), (21, .getfield 53, 3), (24, .iload_n 2, 1), (25, .iaload, 1), (26, .iload_n 1, 1), (27, .if_icmp .ne 6, 3), (30, .bipush (-2), 2), (32, .ireturn, 1), (33, .iinc 2 1, 3), (36, .goto (-24), 3), (39, .aload_n 0, 1), (40, .getfield 57, 3), (43, .bipush 6, 2), (45, .if_icmp .lt 6, 3), (48, .bipush (-3), 2), (50, .ireturn, 1), (51, .aload_n 0, 1), (52, .getfield 53, 3), (55, .aload_n 0, 1), (56, .getfield 57, 3), (59, .iload_n 1, 1), (60, .iastore, 1), (61, .aload_n 0, 1), (62, .dup, 1), (63, .getfield 57, 3), (66, .iconst 1, 1), (67, .iadd, 1), (68, .putfield 57, 3), (71, .aload_n 0, 1), (72, .getfield 57, 3), (75, .ireturn, 1)]
def M_X7_spot : kM := (yX7_spot, RX7, cX7_spot, tab_X7_spot, 3, (Option.some Jvm.ClassFile.FieldType.int), { frames := 2, cells := 0, slots := 0, locals := 41 })
theorem tb_X7_spot : ∀ q ∈ m_tab M_X7_spot, decode (m_cc M_X7_spot) q.1 = .ok q.2 := by decide +kernel
theorem g_X7_spot : k_g M_X7_spot 1 := ⟨kw_w 747 (by decide +kernel) (by decide +kernel), kw_w 98 (by decide +kernel) (by decide +kernel), ⟨by decide +kernel, by decide +kernel, by decide +kernel⟩, rfl, rfl⟩
theorem gv_X7_spot : k_gv M_X7_spot 7 := ⟨kw_w 745 (by decide +kernel) (by decide +kernel), kw_w 746 (by decide +kernel) (by decide +kernel), ⟨_, rfl, rfl⟩, by decide⟩
def tab_X7_noSpots : List (Nat × Instr × Nat) := [(0, .aload_n 0, 1), (1, .getfield 57, 3), (4, .istore_n 1, 1), (5, .aload_n 0, 1), (6, .iconst 0, 1), (7, .putfield 57, 3), (10, .iload_n 1, 1), (11, .ireturn, 1)]
def M_X7_noSpots : kM := (yX7_noSpots, RX7, cX7_noSpots, tab_X7_noSpots, 2, (Option.some Jvm.ClassFile.FieldType.int), { frames := 0, cells := 0, slots := 0, locals := 0 })
theorem tb_X7_noSpots : ∀ q ∈ m_tab M_X7_noSpots, decode (m_cc M_X7_noSpots) q.1 = .ok q.2 := by decide +kernel
theorem g_X7_noSpots : k_g M_X7_noSpots 0 := ⟨kw_w 751 (by decide +kernel) (by decide +kernel), kw_w 98 (by decide +kernel) (by decide +kernel), ⟨by decide +kernel, by decide +kernel, by decide +kernel⟩, rfl, rfl⟩
theorem gv_X7_noSpots : k_gv M_X7_noSpots 7 := ⟨kw_w 749 (by decide +kernel) (by decide +kernel), kw_w 750 (by decide +kernel) (by decide +kernel), ⟨_, rfl, rfl⟩, by decide⟩
def tab_X7_lies : List (Nat × Instr × Nat) := [(0, .iload_n 1, 1), (1, .iconst 1, 1), (2, .if_icmp .lt 22, 3), (5, .iload_n 1, 1), (6, .iconst 4, 1), (7, .if_icmp .gt 17, 3), (10, .iload_n 1, 1), (11, .aload_n 0, 1), (12, .getfield 34, 3), (15, .getfield 120, 3), (18, .getfield 217, 3), (21, .if_icmp .le 5, 3), (24, .iconst (-1), 1), (25, .ireturn, 1), (26, .iload_n 2, 1), (27, .iload_n 3, 1), (28, .invokestatic 172, 3), (31, .ifCond .eq 15, 3), (34, .iload 4, 2), (36, .iconst (-1), 1), (37, .if_icmp .lt 9, 3), (40, .iload 4, 2), (42, .iload_n 1, 1), (43, .if_icmp .lt 5, 3), (46, .iconst (-1), 1), (47, .ireturn, 1), (48, .aload_n 0, 1), (49, .iload_n 2, 1), (50, .iload_n 3, 1), (51, .invokevirtual 191, 3), (54, .aload_n 0, 1), (55, .iload_n 1, 1), (56, .invokevirtual 220, 3), (59, .istore 5, 2), (61, .aload_n 0, 1), (62, .getfield 34, 3), (65, .getfield 120, 3), (68, .invokevirtual 159, 3), (71, .istore 6, 2), (73, .bipush (-4), 2), (75, .istore 7, 2), (77, .iconst (-1), 1), (78, .istore 8, 2), (80, .iconst 0, 1), (81, .istore 9, 2), (83, .iload 9, 2), (85, .iload 5, 2), (87, .if_icmp .ge 66, 3), (90, .iload 8, 2), (92, .iload 6, 2), (94, .if_icmp .ge 59, 3), (97, .aload_n 0, 1), (98, .iload 9, 2), (100, .iload_n 1, 1), (101, .invokevirtual 223, 3), (104, .ifCond .ne 6, 3), (107, .goto 40, 3), (110, .aload_n 0, 1), (111, .iconst 0, 1), (112, .iload_n 2, 1), (113, .invokevirtual 204, 3), (116, .aload_n 0, 1), (117, .getfield 41, 3), (120, .getfield 120, 3), (123, .aload_n 0, 1), (124, .getfield 27, 3), (127, .invokevirtual 180, 3), (130, .istore 10, 2), (132, .iload 10, 2), (134, .iload 8, 2), (136, .if_icmp .le 11, 3), (139, .iload 9, 2), (141, .istore 7, 2), (143, .iload 10, 2), (145, .istore 8, 2), (147, .iinc 9 1, 3), (150, .goto (-67), 3), (153, .iload 7, 2), (155, .bipush (-4), 2), (157, .if_icmp .ne 6, 3), (160, .bipush (-4), 2), (162, .ireturn, 1), (163, .iload 4, 2), (165, .ifCond .ge 8, 3), (168, .iload 8, 2), (170, .goto 12, 3), (173, .aload_n 0, 1), (174, .iload 7, 2), (176, .iload_n 1, 1), (177, .iload 4, 2), (179, .invokevirtual 226, 3), (182, .ireturn, 1)]
def M_X7_lies : kM := (yX7_lies, RX7, cX7_lies, tab_X7_lies, 11, (Option.some Jvm.ClassFile.FieldType.int), { frames := 6, cells := 0, slots := 0, locals := 138 })
theorem tb_X7_lies : ∀ q ∈ m_tab M_X7_lies, decode (m_cc M_X7_lies) q.1 = .ok q.2 := by decide +kernel
theorem g_X7_lies : k_g M_X7_lies 4 := ⟨kw_w 755 (by decide +kernel) (by decide +kernel), kw_w 98 (by decide +kernel) (by decide +kernel), ⟨by decide +kernel, by decide +kernel, by decide +kernel⟩, rfl, rfl⟩
theorem gv_X7_lies : k_gv M_X7_lies 7 := ⟨kw_w 753 (by decide +kernel) (by decide +kernel), kw_w 754 (by decide +kernel) (by decide +kernel), ⟨_, rfl, rfl⟩, by decide⟩
def tab_X7_rake : List (Nat × Instr × Nat) := [(0, .iload_n 1, 1), (1, .iload_n 2, 1), (2, .invokestatic 172, 3), (5, .ifCond .ne 5, 3), (8, .iconst (-1), 1), (9, .ireturn, 1), (10, .aload_n 0, 1), (11, .iload_n 1, 1), (12, .iload_n 2, 1), (13, .invokevirtual 176, 3), (16, .aload_n 0, 1), (17, .getfield 41, 3), (20, .getfield 120, 3), (23, .aload_n 0, 1), (24, .getfield 27, 3), (27, .invokevirtual 180, 3), (30, .istore_n 3, 1), (31, .aload_n 0, 1), (32, .getfield 38, 3), (35, .aload_n 0, 1), (36, .getfield 34, 3), (39, .invokevirtual 207, 3), (42, .iconst 0, 1), (43, .istore 4, 2), (45, .iload 4, 2), (47, .iload_n 1, 1), (48, .if_icmp .ge 75, 3), (51, .aload_n 0, 1), (52, .getfield 41, 3), (55, .aload_n 0, 1), (56, .getfield 38, 3), (59, .invokevirtual 207, 3), (62, .aload_n 0, 1), (63, .getfield 41, 3), (66, .getfield 94, 3), (69, .invokevirtual 230, 3), (72, .aload_n 0, 1), (73, .iload 4, 2), (75, .iload_n 1, 1), (76, .iload_n 2, 1), (77, .invokevirtual 213, 3), (80, .aload_n 0, 1), (81, .getfield 41, 3), (84, .getfield 120, 3), (87, .aload_n 0, 1), (88, .getfield 27, 3), (91, .invokevirtual 180, 3), (94, .iload_n 3, 1), (95, .if_icmp .lt 6, 3), (98, .iload 4, 2), (100, .ireturn, 1), (101, .aload_n 0, 1), (102, .getfield 38, 3), (105, .aload_n 0, 1), (106, .getfield 27, 3), (109, .iload_n 2, 1), (110, .aload_n 0, 1), (111, .getfield 63, 3), (114, .invokevirtual 155, 3), (117, .iinc 4 1, 3), (120, .goto (-75), 3), (123, .iload_n 1, 1), (124, .ireturn, 1)]
def M_X7_rake : kM := (yX7_rake, RX7, cX7_rake, tab_X7_rake, 5, (Option.some Jvm.ClassFile.FieldType.int), { frames := 7, cells := 0, slots := 0, locals := 161 })
theorem tb_X7_rake : ∀ q ∈ m_tab M_X7_rake, decode (m_cc M_X7_rake) q.1 = .ok q.2 := by decide +kernel
theorem g_X7_rake : k_g M_X7_rake 2 := ⟨kw_w 772 (by decide +kernel) (by decide +kernel), kw_w 98 (by decide +kernel) (by decide +kernel), ⟨by decide +kernel, by decide +kernel, by decide +kernel⟩, rfl, rfl⟩
theorem gv_X7_rake : k_gv M_X7_rake 7 := ⟨kw_w 770 (by decide +kernel) (by decide +kernel), kw_w 771 (by decide +kernel) (by decide +kernel), ⟨_, rfl, rfl⟩, by decide⟩
def tab_X7_black : List (Nat × Instr × Nat) := [(0, .aload_n 0, 1), (1, .iload_n 1, 1), (2, .invokevirtual 130, 3), (5, .ifCond .eq 11, 3), (8, .iload_n 2, 1), (9, .iload_n 3, 1), (10, .invokestatic 172, 3), (13, .ifCond .ne 5, 3), (16, .iconst (-1), 1), (17, .ireturn, 1), (18, .aload_n 0, 1), (19, .getfield 38, 3), (22, .aload_n 0, 1), (23, .getfield 34, 3), (26, .invokevirtual 207, 3), (29, .iconst 0, 1), (30, .istore 4, 2), (32, .iload 4, 2), (34, .iload_n 2, 1), (35, .if_icmp .gt 125, 3), (38, .aload_n 0, 1), (39, .getfield 38, 3), (42, .getfield 120, 3), (45, .getfield 162, 3), (48, .iload_n 1, 1), (49, .iaload, 1), (50, .ifCond .ne 19, 3), (53, .aload_n 0, 1), (54, .getfield 38, 3), (57, .getfield 120, 3), (60, .getfield 149, 3), (63, .iload_n 1, 1), (64, .iaload, 1), (65, .iconst 1, 1), (66, .if_icmp .ne 6, 3), (69, .bipush (-4), 2), (71, .ireturn, 1), (72, .aload_n 0, 1), (73, .getfield 41, 3), (76, .aload_n 0, 1), (77, .getfield 38, 3), (80, .invokevirtual 207, 3), (83, .aload_n 0, 1), (84, .getfield 41, 3), (87, .getfield 94, 3), (90, .invokevirtual 233, 3), (93, .aload_n 0, 1), (94, .iload 4, 2), (96, .iload_n 2, 1), (97, .iload_n 3, 1), (98, .invokevirtual 213, 3), (101, .aload_n 0, 1), (102, .getfield 41, 3), (105, .getfield 120, 3), (108, .getfield 149, 3), (111, .iload_n 1, 1), (112, .iaload, 1), (113, .iconst 2, 1), (114, .if_icmp .ne 24, 3), (117, .aload_n 0, 1), (118, .getfield 41, 3), (121, .getfield 120, 3), (124, .iload_n 1, 1), (125, .aload_n 0, 1), (126, .getfield 27, 3), (129, .invokevirtual 145, 3), (132, .ifCond .ne 6, 3), (135, .iload 4, 2), (137, .ireturn, 1), (138, .aload_n 0, 1), (139, .getfield 38, 3), (142, .aload_n 0, 1), (143, .getfield 27, 3), (146, .iload_n 3, 1), (147, .aload_n 0, 1), (148, .getfield 63, 3), (151, .invokevirtual 155, 3), (154, .iinc 4 1, 3), (157, .goto (-125), 3), (160, .bipush (-4), 2), (162, .ireturn, 1)]
def M_X7_black : kM := (yX7_black, RX7, cX7_black, tab_X7_black, 5, (Option.some Jvm.ClassFile.FieldType.int), { frames := 7, cells := 0, slots := 0, locals := 161 })
theorem tb_X7_black : ∀ q ∈ m_tab M_X7_black, decode (m_cc M_X7_black) q.1 = .ok q.2 := by decide +kernel
theorem g_X7_black : k_g M_X7_black 3 := ⟨kw_w 780 (by decide +kernel) (by decide +kernel), kw_w 98 (by decide +kernel) (by decide +kernel), ⟨by decide +kernel, by decide +kernel, by decide +kernel⟩, rfl, rfl⟩
theorem gv_X7_black : k_gv M_X7_black 7 := ⟨kw_w 778 (by decide +kernel) (by decide +kernel), kw_w 779 (by decide +kernel) (by decide +kernel), ⟨_, rfl, rfl⟩, by decide⟩
def tab_X7_evening : List (Nat × Instr × Nat) := [(0, .iload_n 1, 1), (1, .invokestatic 236, 3), (4, .ifCond .eq 10, 3), (7, .iload_n 2, 1), (8, .invokestatic 239, 3), (11, .ifCond .ne 5, 3), (14, .iconst (-1), 1), (15, .ireturn, 1), (16, .aload_n 0, 1), (17, .iload_n 1, 1), (18, .iload_n 2, 1), (19, .invokevirtual 242, 3), (22, .aload_n 0, 1), (23, .getfield 41, 3), (26, .getfield 120, 3), (29, .aload_n 0, 1), (30, .getfield 27, 3), (33, .invokevirtual 180, 3), (36, .ireturn, 1)]
def M_X7_evening : kM := (yX7_evening, RX7, cX7_evening, tab_X7_evening, 3, (Option.some Jvm.ClassFile.FieldType.int), { frames := 7, cells := 0, slots := 0, locals := 161 })
theorem tb_X7_evening : ∀ q ∈ m_tab M_X7_evening, decode (m_cc M_X7_evening) q.1 = .ok q.2 := by decide +kernel
theorem g_X7_evening : k_g M_X7_evening 2 := ⟨kw_w 788 (by decide +kernel) (by decide +kernel), kw_w 98 (by decide +kernel) (by decide +kernel), ⟨by decide +kernel, by decide +kernel, by decide +kernel⟩, rfl, rfl⟩
theorem gv_X7_evening : k_gv M_X7_evening 7 := ⟨kw_w 786 (by decide +kernel) (by decide +kernel), kw_w 787 (by decide +kernel) (by decide +kernel), ⟨_, rfl, rfl⟩, by decide⟩
def tab_X7_ten : List (Nat × Instr × Nat) := [(0, .iload_n 1, 1), (1, .invokestatic 236, 3), (4, .ifCond .eq 18, 3), (7, .iload_n 2, 1), (8, .invokestatic 239, 3), (11, .ifCond .eq 11, 3), (14, .aload_n 0, 1), (15, .iload_n 3, 1), (16, .invokevirtual 130, 3), (19, .ifCond .ne 5, 3), (22, .iconst (-1), 1), (23, .ireturn, 1), (24, .iconst 0, 1), (25, .istore 4, 2), (27, .iconst 0, 1), (28, .istore 5, 2), (30, .iload 5, 2), (32, .bipush 10, 2), (34, .if_icmp .ge 43, 3), (37, .aload_n 0, 1), (38, .iload_n 1, 1), (39, .iload 5, 2), (41, .iadd, 1), (42, .sipush 10000, 3), (45, .irem, 1), (46, .iload_n 2, 1), (47, .invokevirtual 242, 3), (50, .aload_n 0, 1), (51, .getfield 41, 3), (54, .getfield 120, 3), (57, .iload_n 3, 1), (58, .aload_n 0, 1), (59, .getfield 27, 3), (62, .invokevirtual 145, 3), (65, .ifCond .ne 6, 3), (68, .iinc 4 1, 3), (71, .iinc 5 1, 3), (74, .goto (-44), 3), (77, .iload 4, 2), (79, .ireturn, 1)]
def M_X7_ten : kM := (yX7_ten, RX7, cX7_ten, tab_X7_ten, 6, (Option.some Jvm.ClassFile.FieldType.int), { frames := 7, cells := 0, slots := 0, locals := 161 })
theorem tb_X7_ten : ∀ q ∈ m_tab M_X7_ten, decode (m_cc M_X7_ten) q.1 = .ok q.2 := by decide +kernel
theorem g_X7_ten : k_g M_X7_ten 3 := ⟨kw_w 806 (by decide +kernel) (by decide +kernel), kw_w 98 (by decide +kernel) (by decide +kernel), ⟨by decide +kernel, by decide +kernel, by decide +kernel⟩, rfl, rfl⟩
theorem gv_X7_ten : k_gv M_X7_ten 7 := ⟨kw_w 804 (by decide +kernel) (by decide +kernel), kw_w 805 (by decide +kernel) (by decide +kernel), ⟨_, rfl, rfl⟩, by decide⟩
def tab_X7_sherd : List (Nat × Instr × Nat) := [(0, .aload_n 0, 1), (1, .iload_n 1, 1), (2, .invokevirtual 130, 3), (5, .ifCond .eq 12, 3), (8, .iload_n 2, 1), (9, .ifCond .lt 8, 3), (12, .iload_n 2, 1), (13, .iconst 5, 1), (14, .if_icmp .le 5, 3), (17, .iconst (-1), 1), (18, .ireturn, 1), (19, .iload_n 3, 1), (20, .ifCond .lt 19, 3), (23, .iload_n 3, 1), (24, .iconst 2, 1), (25, .if_icmp .gt 14, 3), (28, .iload 4, 2), (30, .ifCond .lt 9, 3), (33, .iload 4, 2), (35, .iconst 4, 1), (36, .if_icmp .le 5, 3), (39, .iconst (-1), 1), (40, .ireturn, 1), (41, .aload_n 0, 1), (42, .sipush 240, 3), (45, .iconst 0, 1), (46, .invokevirtual 191, 3), (49, .aload_n 0, 1), (50, .getfield 70, 3), (53, .invokevirtual 245, 3), (56, .iconst 0, 1), (57, .istore 5, 2), (59, .iload 5, 2), (61, .bipush 90, 2), (63, .if_icmp .gt 127, 3), (66, .aload_n 0, 1), (67, .getfield 41, 3), (70, .getfield 120, 3), (73, .aload_n 0, 1), (74, .getfield 34, 3), (77, .getfield 120, 3), (80, .invokevirtual 194, 3), (83, .aload_n 0, 1), (84, .getfield 41, 3), (87, .getfield 120, 3), (90, .getfield 139, 3), (93, .iload_n 1, 1), (94, .iload 5, 2), (96, .iastore, 1), (97, .bipush 30, 2), (99, .istore 6, 2), (101, .iload 6, 2), (103, .sipush 240, 3), (106, .if_icmp .gt 78, 3), (109, .aload_n 0, 1), (110, .iload 6, 2), (112, .bipush 30, 2), (114, .isub, 1), (115, .iload 6, 2), (117, .invokevirtual 204, 3), (120, .aload_n 0, 1), (121, .getfield 41, 3), (124, .getfield 120, 3), (127, .iload_n 1, 1), (128, .aload_n 0, 1), (129, .getfield 27, 3), (132, .invokevirtual 145, 3), (135, .iload_n 2, 1), (136, .if_icmp .ne 23, 3), (139, .aload_n 0, 1), (140, .getfield 41, 3), (143, .getfield 120, 3), (146, .getfield 149, 3), (149, .iload_n 1, 1), (150, .iaload, 1), (151, .iload_n 3, 1), (152, .if_icmp .ne 7, 3), (155, .iconst 1, 1), (156, .goto 4, 3), (159, .iconst 0, 1), (160, .istore 7, 2), (162, .iload 7, 2), (164, .ifCond .eq 14, 3), (167, .aload_n 0, 1), (168, .getfield 70, 3), (171, .iload 5, 2), (173, .iload 6, 2), (175, .invokevirtual 248, 3), (178, .iinc 6 30, 3), (181, .goto (-80), 3), (184, .iinc 5 10, 3), (187, .goto (-128), 3), (190, .aload_n 0, 1), (191, .getfield 70, 3), (194, .iload 4, 2), (196, .invokevirtual 251, 3), (199, .ireturn, 1)]
def M_X7_sherd : kM := (yX7_sherd, RX7, cX7_sherd, tab_X7_sherd, 8, (Option.some Jvm.ClassFile.FieldType.int), { frames := 6, cells := 0, slots := 0, locals := 138 })
theorem tb_X7_sherd : ∀ q ∈ m_tab M_X7_sherd, decode (m_cc M_X7_sherd) q.1 = .ok q.2 := by decide +kernel
theorem g_X7_sherd : k_g M_X7_sherd 4 := ⟨kw_w 810 (by decide +kernel) (by decide +kernel), kw_w 98 (by decide +kernel) (by decide +kernel), ⟨by decide +kernel, by decide +kernel, by decide +kernel⟩, rfl, rfl⟩
theorem gv_X7_sherd : k_gv M_X7_sherd 7 := ⟨kw_w 808 (by decide +kernel) (by decide +kernel), kw_w 809 (by decide +kernel) (by decide +kernel), ⟨_, rfl, rfl⟩, by decide⟩
def tab_X7_keep : List (Nat × Instr × Nat) := [(0, .aload_n 0, 1), (1, .getfield 50, 3), (4, .iconst 2, 1), (5, .if_icmp .lt 6, 3), (8, .bipush (-3), 2), (10, .ireturn, 1), (11, .aload_n 0, 1), (12, .aload_n 0, 1), (13, .getfield 50, 3), (16, .invokevirtual 254, 3), (19, .aload_n 0, 1), (20, .getfield 34, 3), (23, .invokevirtual 207, 3), (26, .aload_n 0, 1), (27, .dup, 1), (28, .getfield 50, 3), (31, .iconst 1, 1), (32, .iadd, 1), (33, .putfield 50, 3), (36, .aload_n 0, 1), (37, .getfield 50, 3), (40, .ireturn, 1)]
def M_X7_keep : kM := (yX7_keep, RX7, cX7_keep, tab_X7_keep, 1, (Option.some Jvm.ClassFile.FieldType.int), { frames := 3, cells := 0, slots := 0, locals := 66 })
theorem tb_X7_keep : ∀ q ∈ m_tab M_X7_keep, decode (m_cc M_X7_keep) q.1 = .ok q.2 := by decide +kernel
theorem g_X7_keep : k_g M_X7_keep 0 := ⟨kw_w 828 (by decide +kernel) (by decide +kernel), kw_w 98 (by decide +kernel) (by decide +kernel), ⟨by decide +kernel, by decide +kernel, by decide +kernel⟩, rfl, rfl⟩
theorem gv_X7_keep : k_gv M_X7_keep 7 := ⟨kw_w 826 (by decide +kernel) (by decide +kernel), kw_w 827 (by decide +kernel) (by decide +kernel), ⟨_, rfl, rfl⟩, by decide⟩
def tab_X7_back : List (Nat × Instr × Nat) := [(0, .aload_n 0, 1), (1, .getfield 50, 3), (4, .iconst 1, 1), (5, .if_icmp .ge 6, 3), (8, .bipush (-2), 2), (10, .ireturn, 1), (11, .aload_n 0, 1), (12, .dup, 1), (13, .getfield 50, 3), (16, .iconst 1, 1), (17, .isub, 1), (18, .putfield 50, 3), (21, .aload_n 0, 1), (22, .getfield 34, 3), (25, .aload_n 0, 1), (26, .aload_n 0, 1), (27, .getfield 50, 3), (30, .invokevirtual 254, 3), (33, .invokevirtual 207, 3), (36, .aload_n 0, 1), (37, .getfield 50, 3), (40, .ireturn, 1)]
def M_X7_back : kM := (yX7_back, RX7, cX7_back, tab_X7_back, 1, (Option.some Jvm.ClassFile.FieldType.int), { frames := 3, cells := 0, slots := 0, locals := 66 })
theorem tb_X7_back : ∀ q ∈ m_tab M_X7_back, decode (m_cc M_X7_back) q.1 = .ok q.2 := by decide +kernel
theorem g_X7_back : k_g M_X7_back 0 := ⟨kw_w 836 (by decide +kernel) (by decide +kernel), kw_w 98 (by decide +kernel) (by decide +kernel), ⟨by decide +kernel, by decide +kernel, by decide +kernel⟩, rfl, rfl⟩
theorem gv_X7_back : k_gv M_X7_back 7 := ⟨kw_w 834 (by decide +kernel) (by decide +kernel), kw_w 835 (by decide +kernel) (by decide +kernel), ⟨_, rfl, rfl⟩, by decide⟩
def tab_X7_count : List (Nat × Instr × Nat) := [(0, .iload_n 1, 1), (1, .tableswitch 81 0 5 #[39, 47, 58, 63, 71, 76], 39), (40, .aload_n 0, 1), (41, .getfield 27, 3), (44, .invokevirtual 86, 3), (47, .ireturn, 1), (48, .aload_n 0, 1), (49, .getfield 34, 3), (52, .getfield 120, 3), (55, .getfield 217, 3), (58, .ireturn, 1), (59, .aload_n 0, 1), (60, .getfield 13, 3), (63, .ireturn, 1), (64, .aload_n 0, 1), (65, .getfield 34, 3), (68, .getfield 258, 3), (71, .ireturn, 1), (72, .aload_n 0, 1), (73, .getfield 57, 3), (76, .ireturn, 1), (77, .aload_n 0, 1), (78, .getfield 50, 3), (81, .ireturn, 1), (82, .iconst (-1), 1), (83, .ireturn, 1)]
def M_X7_count : kM := (yX7_count, RX7, cX7_count, tab_X7_count, 2, (Option.some Jvm.ClassFile.FieldType.int), { frames := 1, cells := 0, slots := 0, locals := 20 })
theorem tb_X7_count : ∀ q ∈ m_tab M_X7_count, decode (m_cc M_X7_count) q.1 = .ok q.2 := by decide +kernel
theorem g_X7_count : k_g M_X7_count 1 := ⟨kw_w 840 (by decide +kernel) (by decide +kernel), kw_w 98 (by decide +kernel) (by decide +kernel), ⟨by decide +kernel, by decide +kernel, by decide +kernel⟩, rfl, rfl⟩
theorem gv_X7_count : k_gv M_X7_count 7 := ⟨kw_w 838 (by decide +kernel) (by decide +kernel), kw_w 839 (by decide +kernel) (by decide +kernel), ⟨_, rfl, rfl⟩, by decide⟩
def tab_X7_isCell : List (Nat × Instr × Nat) := [(0, .iload_n 1, 1), (1, .ifCond .lt 18, 3), (4, .iload_n 1, 1), (5, .aload_n 0, 1), (6, .getfield 27, 3), (9, .invokevirtual 86, 3), (12, .if_icmp .ge 7, 3), (15, .iconst 1, 1), (16, .goto 4, 3), (19, .iconst 0, 1), (20, .ireturn, 1)]
def M_X7_isCell : kM := (yX7_isCell, RX7, cX7_isCell, tab_X7_isCell, 2, (Option.some Jvm.ClassFile.FieldType.boolean), { frames := 1, cells := 0, slots := 0, locals := 20 })
theorem tb_X7_isCell : ∀ q ∈ m_tab M_X7_isCell, decode (m_cc M_X7_isCell) q.1 = .ok q.2 := by decide +kernel
theorem g_X7_isCell : k_g M_X7_isCell 1 := ⟨kw_w 511 (by decide +kernel) (by decide +kernel), kw_w 98 (by decide +kernel) (by decide +kernel), ⟨by decide +kernel, by decide +kernel, by decide +kernel⟩, rfl, rfl⟩
theorem gv_X7_isCell : k_gv M_X7_isCell 7 := ⟨kw_w 510 (by decide +kernel) (by decide +kernel), kw_w 17 (by decide +kernel) (by decide +kernel), ⟨_, rfl, rfl⟩, by decide⟩
def tab_X7_isPot : List (Nat × Instr × Nat) := [(0, .iload_n 1, 1), (1, .ifCond .lt 21, 3), (4, .iload_n 1, 1), (5, .aload_n 0, 1), (6, .getfield 34, 3), (9, .getfield 120, 3), (12, .getfield 217, 3), (15, .if_icmp .ge 7, 3), (18, .iconst 1, 1), (19, .goto 4, 3), (22, .iconst 0, 1), (23, .ireturn, 1)]
def M_X7_isPot : kM := (yX7_isPot, RX7, cX7_isPot, tab_X7_isPot, 2, (Option.some Jvm.ClassFile.FieldType.boolean), { frames := 0, cells := 0, slots := 0, locals := 0 })
theorem tb_X7_isPot : ∀ q ∈ m_tab M_X7_isPot, decode (m_cc M_X7_isPot) q.1 = .ok q.2 := by decide +kernel
theorem g_X7_isPot : k_g M_X7_isPot 1 := ⟨kw_w 526 (by decide +kernel) (by decide +kernel), kw_w 98 (by decide +kernel) (by decide +kernel), ⟨by decide +kernel, by decide +kernel, by decide +kernel⟩, rfl, rfl⟩
theorem gv_X7_isPot : k_gv M_X7_isPot 7 := ⟨kw_w 525 (by decide +kernel) (by decide +kernel), kw_w 19 (by decide +kernel) (by decide +kernel), ⟨_, rfl, rfl⟩, by decide⟩
def tab_X7_isWind : List (Nat × Instr × Nat) := [(0, .iload_n 0, 1), (1, .ifCond .lt 13, 3), (4, .iload_n 0, 1), (5, .bipush 9, 2), (7, .if_icmp .gt 7, 3), (10, .iconst 1, 1), (11, .goto 4, 3), (14, .iconst 0, 1), (15, .ireturn, 1)]
def M_X7_isWind : kM := (yX7_isWind, RX7, cX7_isWind, tab_X7_isWind, 1, (Option.some Jvm.ClassFile.FieldType.boolean), { frames := 0, cells := 0, slots := 0, locals := 0 })
theorem tb_X7_isWind : ∀ q ∈ m_tab M_X7_isWind, decode (m_cc M_X7_isWind) q.1 = .ok q.2 := by decide +kernel
theorem g_X7_isWind : k_g M_X7_isWind 1 := ⟨kw_w 537 (by decide +kernel) (by decide +kernel), kw_w 98 (by decide +kernel) (by decide +kernel), ⟨by decide +kernel, by decide +kernel, by decide +kernel⟩, rfl, rfl⟩
theorem gs_X7_isWind : Cond.static (m_y M_X7_isWind) ∈ kw := kw_w 536 (by decide +kernel) (by decide +kernel)
def tab_X7_isLength : List (Nat × Instr × Nat) := [(0, .iload_n 0, 1), (1, .ifCond .lt 14, 3), (4, .iload_n 0, 1), (5, .sipush 240, 3), (8, .if_icmp .gt 7, 3), (11, .iconst 1, 1), (12, .goto 4, 3), (15, .iconst 0, 1), (16, .ireturn, 1)]
def M_X7_isLength : kM := (yX7_isLength, RX7, cX7_isLength, tab_X7_isLength, 1, (Option.some Jvm.ClassFile.FieldType.boolean), { frames := 0, cells := 0, slots := 0, locals := 0 })
theorem tb_X7_isLength : ∀ q ∈ m_tab M_X7_isLength, decode (m_cc M_X7_isLength) q.1 = .ok q.2 := by decide +kernel
theorem g_X7_isLength : k_g M_X7_isLength 1 := ⟨kw_w 667 (by decide +kernel) (by decide +kernel), kw_w 98 (by decide +kernel) (by decide +kernel), ⟨by decide +kernel, by decide +kernel, by decide +kernel⟩, rfl, rfl⟩
theorem gs_X7_isLength : Cond.static (m_y M_X7_isLength) ∈ kw := kw_w 666 (by decide +kernel) (by decide +kernel)
def tab_X7_isRun : List (Nat × Instr × Nat) := [(0, .iload_n 0, 1), (1, .invokestatic 239, 3), (4, .ifCond .eq 14, 3), (7, .iload_n 1, 1), (8, .invokestatic 152, 3), (11, .ifCond .eq 7, 3), (14, .iconst 1, 1), (15, .goto 4, 3), (18, .iconst 0, 1), (19, .ireturn, 1)]
def M_X7_isRun : kM := (yX7_isRun, RX7, cX7_isRun, tab_X7_isRun, 2, (Option.some Jvm.ClassFile.FieldType.boolean), { frames := 1, cells := 0, slots := 0, locals := 20 })
theorem tb_X7_isRun : ∀ q ∈ m_tab M_X7_isRun, decode (m_cc M_X7_isRun) q.1 = .ok q.2 := by decide +kernel
theorem g_X7_isRun : k_g M_X7_isRun 2 := ⟨kw_w 664 (by decide +kernel) (by decide +kernel), kw_w 98 (by decide +kernel) (by decide +kernel), ⟨by decide +kernel, by decide +kernel, by decide +kernel⟩, rfl, rfl⟩
theorem gs_X7_isRun : Cond.static (m_y M_X7_isRun) ∈ kw := kw_w 663 (by decide +kernel) (by decide +kernel)
def tab_X7_isDraw : List (Nat × Instr × Nat) := [(0, .iload_n 0, 1), (1, .ifCond .lt 14, 3), (4, .iload_n 0, 1), (5, .sipush 10000, 3), (8, .if_icmp .ge 7, 3), (11, .iconst 1, 1), (12, .goto 4, 3), (15, .iconst 0, 1), (16, .ireturn, 1)]
def M_X7_isDraw : kM := (yX7_isDraw, RX7, cX7_isDraw, tab_X7_isDraw, 1, (Option.some Jvm.ClassFile.FieldType.boolean), { frames := 0, cells := 0, slots := 0, locals := 0 })
theorem tb_X7_isDraw : ∀ q ∈ m_tab M_X7_isDraw, decode (m_cc M_X7_isDraw) q.1 = .ok q.2 := by decide +kernel
theorem g_X7_isDraw : k_g M_X7_isDraw 1 := ⟨kw_w 791 (by decide +kernel) (by decide +kernel), kw_w 98 (by decide +kernel) (by decide +kernel), ⟨by decide +kernel, by decide +kernel, by decide +kernel⟩, rfl, rfl⟩
theorem gs_X7_isDraw : Cond.static (m_y M_X7_isDraw) ∈ kw := kw_w 790 (by decide +kernel) (by decide +kernel)
def tab_X7_oneIf : List (Nat × Instr × Nat) := [(0, .iload_n 0, 1), (1, .ifCond .eq 7, 3), (4, .iconst 1, 1), (5, .goto 4, 3), (8, .iconst 0, 1), (9, .ireturn, 1)]
def M_X7_oneIf : kM := (yX7_oneIf, RX7, cX7_oneIf, tab_X7_oneIf, 1, (Option.some Jvm.ClassFile.FieldType.int), { frames := 0, cells := 0, slots := 0, locals := 0 })
theorem tb_X7_oneIf : ∀ q ∈ m_tab M_X7_oneIf, decode (m_cc M_X7_oneIf) q.1 = .ok q.2 := by decide +kernel
theorem g_X7_oneIf : k_g M_X7_oneIf 1 := ⟨kw_w 514 (by decide +kernel) (by decide +kernel), kw_w 98 (by decide +kernel) (by decide +kernel), ⟨by decide +kernel, by decide +kernel, by decide +kernel⟩, rfl, rfl⟩
theorem gs_X7_oneIf : Cond.static (m_y M_X7_oneIf) ∈ kw := kw_w 513 (by decide +kernel) (by decide +kernel)
def tab_X7_keptAt : List (Nat × Instr × Nat) := [(0, .iload_n 1, 1), (1, .ifCond .ne 10, 3), (4, .aload_n 0, 1), (5, .getfield 44, 3), (8, .goto 7, 3), (11, .aload_n 0, 1), (12, .getfield 47, 3), (15, .areturn, 1)]
def M_X7_keptAt : kM := (yX7_keptAt, RX7, cX7_keptAt, tab_X7_keptAt, 2, (Option.some (Jvm.ClassFile.FieldType.object "PotBonfire$Heap")), { frames := 0, cells := 0, slots := 0, locals := 0 })
theorem tb_X7_keptAt : ∀ q ∈ m_tab M_X7_keptAt, decode (m_cc M_X7_keptAt) q.1 = .ok q.2 := by decide +kernel
theorem g_X7_keptAt : k_g M_X7_keptAt 1 := ⟨kw_w 832 (by decide +kernel) (by decide +kernel), kw_w 98 (by decide +kernel) (by decide +kernel), ⟨by decide +kernel, by decide +kernel, by decide +kernel⟩, rfl, rfl⟩
theorem gv_X7_keptAt : k_gv M_X7_keptAt 7 := ⟨kw_w 831 (by decide +kernel) (by decide +kernel), kw_w 65 (by decide +kernel) (by decide +kernel), ⟨_, rfl, rfl⟩, by decide⟩
def tab_X7_tryRun : List (Nat × Instr × Nat) := [(0, .aload_n 0, 1), (1, .iload_n 1, 1), (2, .iload_n 2, 1), (3, .invokevirtual 191, 3), (6, .aload_n 0, 1), (7, .getfield 41, 3), (10, .getfield 120, 3), (13, .aload_n 0, 1), (14, .getfield 34, 3), (17, .getfield 120, 3), (20, .invokevirtual 194, 3), (23, .aload_n 0, 1), (24, .iconst 0, 1), (25, .iload_n 1, 1), (26, .invokevirtual 204, 3), (29, .return_, 1)]
def M_X7_tryRun : kM := (yX7_tryRun, RX7, cX7_tryRun, tab_X7_tryRun, 3, (Option.none : Option Jvm.ClassFile.FieldType), { frames := 6, cells := 0, slots := 0, locals := 138 })
theorem tb_X7_tryRun : ∀ q ∈ m_tab M_X7_tryRun, decode (m_cc M_X7_tryRun) q.1 = .ok q.2 := by decide +kernel
theorem g_X7_tryRun : k_g M_X7_tryRun 2 := ⟨kw_w 671 (by decide +kernel) (by decide +kernel), kw_w 98 (by decide +kernel) (by decide +kernel), ⟨by decide +kernel, by decide +kernel, by decide +kernel⟩, rfl, rfl⟩
theorem gv_X7_tryRun : k_gv M_X7_tryRun 7 := ⟨kw_w 670 (by decide +kernel) (by decide +kernel), kw_w 43 (by decide +kernel) (by decide +kernel), ⟨_, rfl, rfl⟩, by decide⟩
def tab_X7_tryEvening : List (Nat × Instr × Nat) := [(0, .aload_n 0, 1), (1, .getfield 41, 3), (4, .aload_n 0, 1), (5, .getfield 34, 3), (8, .invokevirtual 207, 3), (11, .iconst 0, 1), (12, .istore_n 3, 1), (13, .iload_n 3, 1), (14, .iload_n 2, 1), (15, .if_icmp .ge 47, 3), (18, .aload_n 0, 1), (19, .getfield 41, 3), (22, .getfield 94, 3), (25, .aload_n 0, 1), (26, .getfield 27, 3), (29, .aload_n 0, 1), (30, .getfield 27, 3), (33, .iload_n 1, 1), (34, .iload_n 3, 1), (35, .invokevirtual 261, 3), (38, .invokevirtual 264, 3), (41, .aload_n 0, 1), (42, .getfield 41, 3), (45, .getfield 94, 3), (48, .aload_n 0, 1), (49, .getfield 63, 3), (52, .iload_n 3, 1), (53, .invokevirtual 268, 3), (56, .iinc 3 1, 3), (59, .goto (-46), 3), (62, .aload_n 0, 1), (63, .iconst 0, 1), (64, .iload_n 2, 1), (65, .invokevirtual 204, 3), (68, .return_, 1)]
def M_X7_tryEvening : kM := (yX7_tryEvening, RX7, cX7_tryEvening, tab_X7_tryEvening, 4, (Option.none : Option Jvm.ClassFile.FieldType), { frames := 6, cells := 0, slots := 0, locals := 138 })
theorem tb_X7_tryEvening : ∀ q ∈ m_tab M_X7_tryEvening, decode (m_cc M_X7_tryEvening) q.1 = .ok q.2 := by decide +kernel
theorem g_X7_tryEvening : k_g M_X7_tryEvening 2 := ⟨kw_w 795 (by decide +kernel) (by decide +kernel), kw_w 98 (by decide +kernel) (by decide +kernel), ⟨by decide +kernel, by decide +kernel, by decide +kernel⟩, rfl, rfl⟩
theorem gv_X7_tryEvening : k_gv M_X7_tryEvening 7 := ⟨kw_w 794 (by decide +kernel) (by decide +kernel), kw_w 60 (by decide +kernel) (by decide +kernel), ⟨_, rfl, rfl⟩, by decide⟩
def tab_X7_burnAfresh : List (Nat × Instr × Nat) := [(0, .aload_n 0, 1), (1, .getfield 41, 3), (4, .getfield 94, 3), (7, .aload_n 0, 1), (8, .getfield 34, 3), (11, .getfield 94, 3), (14, .invokevirtual 272, 3), (17, .aload_n 0, 1), (18, .iconst 0, 1), (19, .iload_n 1, 1), (20, .iload_n 2, 1), (21, .invokevirtual 275, 3), (24, .return_, 1)]
def M_X7_burnAfresh : kM := (yX7_burnAfresh, RX7, cX7_burnAfresh, tab_X7_burnAfresh, 3, (Option.none : Option Jvm.ClassFile.FieldType), { frames := 4, cells := 0, slots := 0, locals := 93 })
theorem tb_X7_burnAfresh : ∀ q ∈ m_tab M_X7_burnAfresh, decode (m_cc M_X7_burnAfresh) q.1 = .ok q.2 := by decide +kernel
theorem g_X7_burnAfresh : k_g M_X7_burnAfresh 2 := ⟨kw_w 675 (by decide +kernel) (by decide +kernel), kw_w 98 (by decide +kernel) (by decide +kernel), ⟨by decide +kernel, by decide +kernel, by decide +kernel⟩, rfl, rfl⟩
theorem gv_X7_burnAfresh : k_gv M_X7_burnAfresh 7 := ⟨kw_w 674 (by decide +kernel) (by decide +kernel), kw_w 44 (by decide +kernel) (by decide +kernel), ⟨_, rfl, rfl⟩, by decide⟩
def tab_X7_goOn : List (Nat × Instr × Nat) := [(0, .aload_n 0, 1), (1, .iload_n 1, 1), (2, .iload_n 2, 1), (3, .iload_n 3, 1), (4, .invokevirtual 275, 3), (7, .aload_n 0, 1), (8, .iload_n 1, 1), (9, .iload_n 2, 1), (10, .invokevirtual 204, 3), (13, .return_, 1)]
def M_X7_goOn : kM := (yX7_goOn, RX7, cX7_goOn, tab_X7_goOn, 4, (Option.none : Option Jvm.ClassFile.FieldType), { frames := 6, cells := 0, slots := 0, locals := 138 })
theorem tb_X7_goOn : ∀ q ∈ m_tab M_X7_goOn, decode (m_cc M_X7_goOn) q.1 = .ok q.2 := by decide +kernel
theorem g_X7_goOn : k_g M_X7_goOn 3 := ⟨kw_w 743 (by decide +kernel) (by decide +kernel), kw_w 98 (by decide +kernel) (by decide +kernel), ⟨by decide +kernel, by decide +kernel, by decide +kernel⟩, rfl, rfl⟩
theorem gv_X7_goOn : k_gv M_X7_goOn 7 := ⟨kw_w 742 (by decide +kernel) (by decide +kernel), kw_w 54 (by decide +kernel) (by decide +kernel), ⟨_, rfl, rfl⟩, by decide⟩
def tab_X7_burnFire : List (Nat × Instr × Nat) := [(0, .iload_n 1, 1), (1, .istore 4, 2), (3, .iload 4, 2), (5, .iload_n 2, 1), (6, .if_icmp .ge 40, 3), (9, .aload_n 0, 1), (10, .getfield 41, 3), (13, .getfield 94, 3), (16, .aload_n 0, 1), (17, .getfield 27, 3), (20, .iload_n 3, 1), (21, .invokevirtual 264, 3), (24, .aload_n 0, 1), (25, .getfield 41, 3), (28, .getfield 94, 3), (31, .aload_n 0, 1), (32, .getfield 63, 3), (35, .iload 4, 2), (37, .invokevirtual 268, 3), (40, .iinc 4 1, 3), (43, .goto (-40), 3), (46, .return_, 1)]
def M_X7_burnFire : kM := (yX7_burnFire, RX7, cX7_burnFire, tab_X7_burnFire, 5, (Option.none : Option Jvm.ClassFile.FieldType), { frames := 3, cells := 0, slots := 0, locals := 69 })
theorem tb_X7_burnFire : ∀ q ∈ m_tab M_X7_burnFire, decode (m_cc M_X7_burnFire) q.1 = .ok q.2 := by decide +kernel
theorem g_X7_burnFire : k_g M_X7_burnFire 3 := ⟨kw_w 684 (by decide +kernel) (by decide +kernel), kw_w 98 (by decide +kernel) (by decide +kernel), ⟨by decide +kernel, by decide +kernel, by decide +kernel⟩, rfl, rfl⟩
theorem gv_X7_burnFire : k_gv M_X7_burnFire 7 := ⟨kw_w 683 (by decide +kernel) (by decide +kernel), kw_w 46 (by decide +kernel) (by decide +kernel), ⟨_, rfl, rfl⟩, by decide⟩
def tab_X7_passPots : List (Nat × Instr × Nat) := [(0, .iload_n 1, 1), (1, .istore_n 3, 1), (2, .iload_n 3, 1), (3, .iload_n 2, 1), (4, .if_icmp .ge 29, 3), (7, .aload_n 0, 1), (8, .getfield 41, 3), (11, .getfield 120, 3), (14, .aload_n 0, 1), (15, .getfield 27, 3), (18, .aload_n 0, 1), (19, .getfield 63, 3), (22, .iload_n 3, 1), (23, .invokevirtual 278, 3), (26, .pop, 1), (27, .iinc 3 1, 3), (30, .goto (-28), 3), (33, .return_, 1)]
def M_X7_passPots : kM := (yX7_passPots, RX7, cX7_passPots, tab_X7_passPots, 4, (Option.none : Option Jvm.ClassFile.FieldType), { frames := 5, cells := 0, slots := 0, locals := 115 })
theorem tb_X7_passPots : ∀ q ∈ m_tab M_X7_passPots, decode (m_cc M_X7_passPots) q.1 = .ok q.2 := by decide +kernel
theorem g_X7_passPots : k_g M_X7_passPots 2 := ⟨kw_w 691 (by decide +kernel) (by decide +kernel), kw_w 98 (by decide +kernel) (by decide +kernel), ⟨by decide +kernel, by decide +kernel, by decide +kernel⟩, rfl, rfl⟩
theorem gv_X7_passPots : k_gv M_X7_passPots 7 := ⟨kw_w 690 (by decide +kernel) (by decide +kernel), kw_w 47 (by decide +kernel) (by decide +kernel), ⟨_, rfl, rfl⟩, by decide⟩
def tab_X7_anyBursts : List (Nat × Instr × Nat) := [(0, .iconst 0, 1), (1, .istore_n 2, 1), (2, .iload_n 2, 1), (3, .iload_n 1, 1), (4, .if_icmp .ge 33, 3), (7, .aload_n 0, 1), (8, .getfield 41, 3), (11, .getfield 120, 3), (14, .aload_n 0, 1), (15, .getfield 27, 3), (18, .aload_n 0, 1), (19, .getfield 63, 3), (22, .iload_n 2, 1), (23, .invokevirtual 278, 3), (26, .ifCond .eq 5, 3), (29, .iconst 1, 1), (30, .ireturn, 1), (31, .iinc 2 1, 3), (34, .goto (-32), 3), (37, .iconst 0, 1), (38, .ireturn, 1)]
def M_X7_anyBursts : kM := (yX7_anyBursts, RX7, cX7_anyBursts, tab_X7_anyBursts, 3, (Option.some Jvm.ClassFile.FieldType.boolean), { frames := 5, cells := 0, slots := 0, locals := 115 })
theorem tb_X7_anyBursts : ∀ q ∈ m_tab M_X7_anyBursts, decode (m_cc M_X7_anyBursts) q.1 = .ok q.2 := by decide +kernel
theorem g_X7_anyBursts : k_g M_X7_anyBursts 1 := ⟨kw_w 721 (by decide +kernel) (by decide +kernel), kw_w 98 (by decide +kernel) (by decide +kernel), ⟨by decide +kernel, by decide +kernel, by decide +kernel⟩, rfl, rfl⟩
theorem gv_X7_anyBursts : k_gv M_X7_anyBursts 7 := ⟨kw_w 720 (by decide +kernel) (by decide +kernel), kw_w 51 (by decide +kernel) (by decide +kernel), ⟨_, rfl, rfl⟩, by decide⟩
def tab_X7_greatestHeat : List (Nat × Instr × Nat) := [(0, .aload_n 0, 1), (1, .getfield 34, 3), (4, .getfield 94, 3), (7, .getfield 98, 3), (10, .iload_n 1, 1), (11, .iaload, 1), (12, .istore_n 3, 1), (13, .iconst 0, 1), (14, .istore 4, 2), (16, .iload 4, 2), (18, .iload_n 2, 1), (19, .if_icmp .ge 24, 3), (22, .iload_n 3, 1), (23, .aload_n 0, 1), (24, .getfield 63, 3), (27, .iload 4, 2), (29, .iload_n 1, 1), (30, .invokevirtual 282, 3), (33, .invokestatic 285, 3), (36, .istore_n 3, 1), (37, .iinc 4 1, 3), (40, .goto (-24), 3), (43, .iload_n 3, 1), (44, .ireturn, 1)]
def M_X7_greatestHeat : kM := (yX7_greatestHeat, RX7, cX7_greatestHeat, tab_X7_greatestHeat, 5, (Option.some Jvm.ClassFile.FieldType.int), { frames := 2, cells := 0, slots := 0, locals := 44 })
theorem tb_X7_greatestHeat : ∀ q ∈ m_tab M_X7_greatestHeat, decode (m_cc M_X7_greatestHeat) q.1 = .ok q.2 := by decide +kernel
theorem g_X7_greatestHeat : k_g M_X7_greatestHeat 2 := ⟨kw_w 709 (by decide +kernel) (by decide +kernel), kw_w 98 (by decide +kernel) (by decide +kernel), ⟨by decide +kernel, by decide +kernel, by decide +kernel⟩, rfl, rfl⟩
theorem gv_X7_greatestHeat : k_gv M_X7_greatestHeat 7 := ⟨kw_w 708 (by decide +kernel) (by decide +kernel), kw_w 50 (by decide +kernel) (by decide +kernel), ⟨_, rfl, rfl⟩, by decide⟩
def tab_X7_countWays : List (Nat × Instr × Nat) := [(0, .iconst 1, 1), (1, .istore_n 2, 1), (2, .iconst 0, 1), (3, .istore_n 3, 1), (4, .iload_n 3, 1), (5, .iload_n 1, 1), (6, .if_icmp .ge 16, 3), (9, .iload_n 2, 1), (10, .aload_n 0, 1), (11, .getfield 57, 3), (14, .imul, 1), (15, .istore_n 2, 1), (16, .iinc 3 1, 3), (19, .goto (-15), 3), (22, .iload_n 2, 1), (23, .ireturn, 1)]
def M_X7_countWays : kM := (yX7_countWays, RX7, cX7_countWays, tab_X7_countWays, 4, (Option.some Jvm.ClassFile.FieldType.int), { frames := 0, cells := 0, slots := 0, locals := 0 })
theorem tb_X7_countWays : ∀ q ∈ m_tab M_X7_countWays, decode (m_cc M_X7_countWays) q.1 = .ok q.2 := by decide +kernel
theorem g_X7_countWays : k_g M_X7_countWays 1 := ⟨kw_w 759 (by decide +kernel) (by decide +kernel), kw_w 98 (by decide +kernel) (by decide +kernel), ⟨by decide +kernel, by decide +kernel, by decide +kernel⟩, rfl, rfl⟩
theorem gv_X7_countWays : k_gv M_X7_countWays 7 := ⟨kw_w 758 (by decide +kernel) (by decide +kernel), kw_w 55 (by decide +kernel) (by decide +kernel), ⟨_, rfl, rfl⟩, by decide⟩
def tab_X7_spotInWay : List (Nat × Instr × Nat) := [(0, .aload_n 0, 1), (1, .getfield 57, 3), (4, .iconst 1, 1), (5, .if_icmp .ge 5, 3), (8, .iconst 0, 1), (9, .ireturn, 1), (10, .iload_n 1, 1), (11, .istore 4, 2), (13, .iload_n 2, 1), (14, .iconst 1, 1), (15, .isub, 1), (16, .istore 5, 2), (18, .iload 5, 2), (20, .iload_n 3, 1), (21, .if_icmp .le 18, 3), (24, .iload 4, 2), (26, .aload_n 0, 1), (27, .getfield 57, 3), (30, .idiv, 1), (31, .istore 4, 2), (33, .iinc 5 (-1), 3), (36, .goto (-18), 3), (39, .iload 4, 2), (41, .aload_n 0, 1), (42, .getfield 57, 3), (45, .irem, 1), (46, .ireturn, 1)]
def M_X7_spotInWay : kM := (yX7_spotInWay, RX7, cX7_spotInWay, tab_X7_spotInWay, 6, (Option.some Jvm.ClassFile.FieldType.int), { frames := 0, cells := 0, slots := 0, locals := 0 })
theorem tb_X7_spotInWay : ∀ q ∈ m_tab M_X7_spotInWay, decode (m_cc M_X7_spotInWay) q.1 = .ok q.2 := by decide +kernel
theorem g_X7_spotInWay : k_g M_X7_spotInWay 3 := ⟨kw_w 767 (by decide +kernel) (by decide +kernel), kw_w 98 (by decide +kernel) (by decide +kernel), ⟨by decide +kernel, by decide +kernel, by decide +kernel⟩, rfl, rfl⟩
theorem gv_X7_spotInWay : k_gv M_X7_spotInWay 7 := ⟨kw_w 766 (by decide +kernel) (by decide +kernel), kw_w 57 (by decide +kernel) (by decide +kernel), ⟨_, rfl, rfl⟩, by decide⟩
def tab_X7_layWay : List (Nat × Instr × Nat) := [(0, .aload_n 0, 1), (1, .getfield 41, 3), (4, .getfield 120, 3), (7, .astore_n 3, 1), (8, .aload_n 3, 1), (9, .aload_n 0, 1), (10, .getfield 34, 3), (13, .getfield 120, 3), (16, .invokevirtual 194, 3), (19, .iconst 0, 1), (20, .istore 4, 2), (22, .iload 4, 2), (24, .iload_n 2, 1), (25, .if_icmp .ge 29, 3), (28, .aload_n 3, 1), (29, .getfield 133, 3), (32, .iload 4, 2), (34, .aload_n 0, 1), (35, .getfield 53, 3), (38, .aload_n 0, 1), (39, .iload_n 1, 1), (40, .iload_n 2, 1), (41, .iload 4, 2), (43, .invokevirtual 226, 3), (46, .iaload, 1), (47, .iastore, 1), (48, .iinc 4 1, 3), (51, .goto (-29), 3), (54, .aload_n 3, 1), (55, .invokevirtual 290, 3), (58, .ifCond .ne 7, 3), (61, .iconst 1, 1), (62, .goto 4, 3), (65, .iconst 0, 1), (66, .ireturn, 1)]
def M_X7_layWay : kM := (yX7_layWay, RX7, cX7_layWay, tab_X7_layWay, 5, (Option.some Jvm.ClassFile.FieldType.boolean), { frames := 1, cells := 0, slots := 0, locals := 25 })
theorem tb_X7_layWay : ∀ q ∈ m_tab M_X7_layWay, decode (m_cc M_X7_layWay) q.1 = .ok q.2 := by decide +kernel
theorem g_X7_layWay : k_g M_X7_layWay 2 := ⟨kw_w 763 (by decide +kernel) (by decide +kernel), kw_w 98 (by decide +kernel) (by decide +kernel), ⟨by decide +kernel, by decide +kernel, by decide +kernel⟩, rfl, rfl⟩
theorem gv_X7_layWay : k_gv M_X7_layWay 7 := ⟨kw_w 762 (by decide +kernel) (by decide +kernel), kw_w 56 (by decide +kernel) (by decide +kernel), ⟨_, rfl, rfl⟩, by decide⟩
def tab_X8_in : List (Nat × Instr × Nat) := [(0, .lload_n 0, 1), (1, .lload_n 2, 1), (2, .lcmp, 1), (3, .ifCond .lt 14, 3), (6, .lload_n 0, 1), (7, .lload 4, 2), (9, .lcmp, 1), (10, .ifCond .gt 7, 3), (13, .iconst 1, 1), (14, .goto 4, 3), (17, .iconst 0, 1), (18, .ireturn, 1)]
def M_X8_in : kM := (yX8_in, RX8, cX8_in, tab_X8_in, 6, (Option.some Jvm.ClassFile.FieldType.boolean), { frames := 0, cells := 0, slots := 0, locals := 0 })
theorem tb_X8_in : ∀ q ∈ m_tab M_X8_in, decode (m_cc M_X8_in) q.1 = .ok q.2 := by decide +kernel
theorem g_X8_in : k_g M_X8_in 3 := ⟨kw_w 927 (by decide +kernel) (by decide +kernel), kw_w 106 (by decide +kernel) (by decide +kernel), ⟨by decide +kernel, by decide +kernel, by decide +kernel⟩, rfl, rfl⟩
theorem gs_X8_in : Cond.static (m_y M_X8_in) ∈ kw := kw_w 926 (by decide +kernel) (by decide +kernel)
def tab_X8_write : List (Nat × Instr × Nat) := [(0, .iload_n 1, 1), (1, .i2l, 1), (2, .lconst 1, 1), (3, .ldc2_w 66, 3), (6, .invokestatic 68, 3), (9, .ifCond .ne 5, 3), (12, .iconst (-1), 1), (13, .ireturn, 1), (14, .aload_n 0, 1), (15, .getfield 72, 3), (18, .iload_n 1, 1), (19, .iadd, 1), (20, .sipush 500, 3), (23, .if_icmp .le 6, 3), (26, .bipush (-3), 2), (28, .ireturn, 1), (29, .iload_n 1, 1), (30, .iconst 1, 1), (31, .isub, 1), (32, .istore 4, 2), (34, .iload 4, 2), (36, .ifCond .lt 37, 3), (39, .aload_n 0, 1), (40, .getfield 7, 3), (43, .aload_n 0, 1), (44, .getfield 72, 3), (47, .lload_n 2, 1), (48, .bipush 8, 2), (50, .iload 4, 2), (52, .imul, 1), (53, .lshr, 1), (54, .l2i, 1), (55, .i2b, 1), (56, .bastore, 1), (57, .aload_n 0, 1), (58, .dup, 1), (59, .getfield 72, 3), (62, .iconst 1, 1), (63, .iadd, 1), (64, .putfield 72, 3), (67, .iinc 4 (-1), 3), (70, .goto (-36), 3), (73, .aload_n 0, 1), (74, .getfield 72, 3), (77, .ireturn, 1)]
def M_X8_write : kM := (yX8_write, RX8, cX8_write, tab_X8_write, 5, (Option.some Jvm.ClassFile.FieldType.int), { frames := 1, cells := 0, slots := 0, locals := 25 })
theorem tb_X8_write : ∀ q ∈ m_tab M_X8_write, decode (m_cc M_X8_write) q.1 = .ok q.2 := by decide +kernel
theorem g_X8_write : k_g M_X8_write 2 := ⟨kw_w 923 (by decide +kernel) (by decide +kernel), kw_w 106 (by decide +kernel) (by decide +kernel), ⟨by decide +kernel, by decide +kernel, by decide +kernel⟩, rfl, rfl⟩
theorem gv_X8_write : k_gv M_X8_write 8 := ⟨kw_w 921 (by decide +kernel) (by decide +kernel), kw_w 922 (by decide +kernel) (by decide +kernel), ⟨_, rfl, rfl⟩, by decide⟩
def tab_X8_wipe : List (Nat × Instr × Nat) := [(0, .aload_n 0, 1), (1, .getfield 72, 3), (4, .istore_n 1, 1), (5, .aload_n 0, 1), (6, .iconst 0, 1), (7, .putfield 72, 3), (10, .iload_n 1, 1), (11, .ireturn, 1)]
def M_X8_wipe : kM := (yX8_wipe, RX8, cX8_wipe, tab_X8_wipe, 2, (Option.some Jvm.ClassFile.FieldType.int), { frames := 0, cells := 0, slots := 0, locals := 0 })
theorem tb_X8_wipe : ∀ q ∈ m_tab M_X8_wipe, decode (m_cc M_X8_wipe) q.1 = .ok q.2 := by decide +kernel
theorem g_X8_wipe : k_g M_X8_wipe 0 := ⟨kw_w 931 (by decide +kernel) (by decide +kernel), kw_w 106 (by decide +kernel) (by decide +kernel), ⟨by decide +kernel, by decide +kernel, by decide +kernel⟩, rfl, rfl⟩
theorem gv_X8_wipe : k_gv M_X8_wipe 8 := ⟨kw_w 929 (by decide +kernel) (by decide +kernel), kw_w 930 (by decide +kernel) (by decide +kernel), ⟨_, rfl, rfl⟩, by decide⟩
def tab_X8_number : List (Nat × Instr × Nat) := [(0, .iconst 0, 1), (1, .istore_n 1, 1), (2, .iconst 0, 1), (3, .istore_n 2, 1), (4, .aload_n 0, 1), (5, .getfield 76, 3), (8, .aload_n 0, 1), (9, .getfield 72, 3), (12, .if_icmp .ge 68, 3), (15, .aload_n 0, 1), (16, .getfield 7, 3), (19, .aload_n 0, 1), (20, .getfield 76, 3), (23, .baload, 1), (24, .i2l, 1), (25, .ldc2_w 79, 3), (28, .ldc2_w 81, 3), (31, .invokestatic 68, 3), (34, .ifCond .eq 46, 3), (37, .iload_n 2, 1), (38, .iconst 3, 1), (39, .if_icmp .ge 23, 3), (42, .bipush 10, 2), (44, .iload_n 1, 1), (45, .imul, 1), (46, .aload_n 0, 1), (47, .getfield 7, 3), (50, .aload_n 0, 1), (51, .getfield 76, 3), (54, .baload, 1), (55, .iadd, 1), (56, .bipush 48, 2), (58, .isub, 1), (59, .goto 4, 3), (62, .iload_n 1, 1), (63, .istore_n 1, 1), (64, .iinc 2 1, 3), (67, .aload_n 0, 1), (68, .dup, 1), (69, .getfield 76, 3), (72, .iconst 1, 1), (73, .iadd, 1), (74, .putfield 76, 3), (77, .goto (-73), 3), (80, .iload_n 2, 1), (81, .i2l, 1), (82, .lconst 1, 1), (83, .ldc2_w 83, 3), (86, .invokestatic 68, 3), (89, .ifCond .eq 7, 3), (92, .iload_n 1, 1), (93, .goto 4, 3), (96, .iconst (-1), 1), (97, .ireturn, 1)]
def M_X8_number : kM := (yX8_number, RX8, cX8_number, tab_X8_number, 3, (Option.some Jvm.ClassFile.FieldType.int), { frames := 1, cells := 0, slots := 0, locals := 25 })
theorem tb_X8_number : ∀ q ∈ m_tab M_X8_number, decode (m_cc M_X8_number) q.1 = .ok q.2 := by decide +kernel
theorem g_X8_number : k_g M_X8_number 0 := ⟨kw_w 946 (by decide +kernel) (by decide +kernel), kw_w 106 (by decide +kernel) (by decide +kernel), ⟨by decide +kernel, by decide +kernel, by decide +kernel⟩, rfl, rfl⟩
theorem gv_X8_number : k_gv M_X8_number 8 := ⟨kw_w 945 (by decide +kernel) (by decide +kernel), kw_w 70 (by decide +kernel) (by decide +kernel), ⟨_, rfl, rfl⟩, by decide⟩
def tab_X8_parts : List (Nat × Instr × Nat) := [(0, .iload_n 0, 1), (1, .bipush 112, 2), (3, .if_icmp .ne 8, 3), (6, .bipush 6, 2), (8, .goto 74, 3), (11, .iload_n 0, 1), (12, .bipush 99, 2), (14, .if_icmp .ne 7, 3), (17, .iconst 4, 1), (18, .goto 64, 3), (21, .iload_n 0, 1), (22, .bipush 107, 2), (24, .if_icmp .ne 7, 3), (27, .iconst 3, 1), (28, .goto 54, 3), (31, .iload_n 0, 1), (32, .bipush 119, 2), (34, .if_icmp .eq 27, 3), (37, .iload_n 0, 1), (38, .bipush 111, 2), (40, .if_icmp .eq 21, 3), (43, .iload_n 0, 1), (44, .bipush 115, 2), (46, .if_icmp .eq 15, 3), (49, .iload_n 0, 1), (50, .bipush 104, 2), (52, .if_icmp .eq 9, 3), (55, .iload_n 0, 1), (56, .bipush 100, 2), (58, .if_icmp .ne 7, 3), (61, .iconst 2, 1), (62, .goto 20, 3), (65, .iload_n 0, 1), (66, .bipush 108, 2), (68, .if_icmp .eq 9, 3), (71, .iload_n 0, 1), (72, .bipush 118, 2), (74, .if_icmp .ne 7, 3), (77, .iconst 1, 1), (78, .goto 4, 3), (81, .iconst 0, 1), (82, .ireturn, 1)]
def M_X8_parts : kM := (yX8_parts, RX8, cX8_parts, tab_X8_parts, 1, (Option.some Jvm.ClassFile.FieldType.int), { frames := 0, cells := 0, slots := 0, locals := 0 })
theorem tb_X8_parts : ∀ q ∈ m_tab M_X8_parts, decode (m_cc M_X8_parts) q.1 = .ok q.2 := by decide +kernel
theorem g_X8_parts : k_g M_X8_parts 1 := ⟨kw_w 942 (by decide +kernel) (by decide +kernel), kw_w 106 (by decide +kernel) (by decide +kernel), ⟨by decide +kernel, by decide +kernel, by decide +kernel⟩, rfl, rfl⟩
theorem gs_X8_parts : Cond.static (m_y M_X8_parts) ∈ kw := kw_w 941 (by decide +kernel) (by decide +kernel)
def tab_X8_isIn : List (Nat × Instr × Nat) := [(0, .aload_n 0, 1), (1, .getfield 57, 3), (4, .iload_n 1, 1), (5, .iaload, 1), (6, .i2l, 1), (7, .iload_n 2, 1), (8, .i2l, 1), (9, .iload_n 3, 1), (10, .i2l, 1), (11, .invokestatic 68, 3), (14, .ireturn, 1)]
def M_X8_isIn : kM := (yX8_isIn, RX8, cX8_isIn, tab_X8_isIn, 4, (Option.some Jvm.ClassFile.FieldType.boolean), { frames := 1, cells := 0, slots := 0, locals := 25 })
theorem tb_X8_isIn : ∀ q ∈ m_tab M_X8_isIn, decode (m_cc M_X8_isIn) q.1 = .ok q.2 := by decide +kernel
theorem g_X8_isIn : k_g M_X8_isIn 3 := ⟨kw_w 957 (by decide +kernel) (by decide +kernel), kw_w 106 (by decide +kernel) (by decide +kernel), ⟨by decide +kernel, by decide +kernel, by decide +kernel⟩, rfl, rfl⟩
theorem gv_X8_isIn : k_gv M_X8_isIn 8 := ⟨kw_w 956 (by decide +kernel) (by decide +kernel), kw_w 72 (by decide +kernel) (by decide +kernel), ⟨_, rfl, rfl⟩, by decide⟩
def tab_X8_isItem : List (Nat × Instr × Nat) := [(0, .aload_n 0, 1), (1, .getfield 7, 3), (4, .aload_n 0, 1), (5, .getfield 76, 3), (8, .baload, 1), (9, .istore_n 1, 1), (10, .aload_n 0, 1), (11, .dup, 1), (12, .getfield 76, 3), (15, .iconst 1, 1), (16, .iadd, 1), (17, .putfield 76, 3), (20, .iload_n 1, 1), (21, .invokestatic 85, 3), (24, .istore_n 2, 1), (25, .iload_n 2, 1), (26, .ifCond .le 7, 3), (29, .iconst 1, 1), (30, .goto 4, 3), (33, .iconst 0, 1), (34, .istore_n 3, 1), (35, .iconst 0, 1), (36, .istore 4, 2), (38, .iload 4, 2), (40, .iload_n 2, 1), (41, .if_icmp .ge 103, 3), (44, .iload_n 3, 1), (45, .ifCond .eq 99, 3), (48, .iload 4, 2), (50, .ifCond .eq 28, 3), (53, .aload_n 0, 1), (54, .getfield 76, 3), (57, .aload_n 0, 1), (58, .getfield 72, 3), (61, .if_icmp .ge 21, 3), (64, .aload_n 0, 1), (65, .getfield 7, 3), (68, .aload_n 0, 1), (69, .getfield 76, 3), (72, .baload, 1), (73, .bipush 44, 2), (75, .if_icmp .ne 7, 3), (78, .iconst 1, 1), (79, .goto 4, 3), (82, .iconst 0, 1), (83, .istore_n 3, 1), (84, .aload_n 0, 1), (85, .dup, 1), (86, .getfield 76, 3), (89, .iload 4, 2), (91, .ifCond .ne 7, 3), (94, .iconst 0, 1), (95, .goto 4, 3), (98, .iconst 1, 1), (99, .iadd, 1), (100, .putfield 76, 3), (103, .aload_n 0, 1), (104, .getfield 57, 3), (107, .iload 4, 2), (109, .iload_n 3, 1), (110, .ifCond .eq 10, 3), (113, .aload_n 0, 1), (114, .invokevirtual 89, 3), (117, .goto 4, 3), (120, .iconst (-1), 1), (121, .iastore, 1), (122, .aload_n 0, 1), (123, .getfield 57, 3), (126, .iload 4, 2), (128, .iaload, 1), (129, .ifCond .lt 7, 3), (132, .iconst 1, 1), (133, .goto 4, 3), (136, .iconst 0, 1), (137, .istore_n 3, 1), (138, .iinc 4 1, 3), (141, .goto (-103), 3), (144, .iload_n 3, 1), (145, .ifCond .eq 32, 3), (148, .aload_n 0, 1), (149, .getfield 76, 3), (152, .aload_n 0, 1), (153, .getfield 72, 3), (156, .if_icmp .ge 21, 3), (159, .aload_n 0, 1), (160, .getfield 7, 3), (163, .aload_n 0, 1), (164, .getfield 76, 3), (167, .baload, 1), (168, .bipush 59, 2), (170, .if_icmp .ne 7, 3), (173, .iconst 1, 1), (174, .goto 4, 3), (177, .iconst 0, 1), (178, .istore_n 3, 1), (179, .aload_n 0, 1), (180, .dup, 1), (181, .getfield 76, 3), (184, .iconst 1, 1), (185, .iadd, 1), (186, .putfield 76, 3), (189, .iload_n 3, 1), (190, .ifCond .eq 15, 3), (193, .aload_n 0, 1), (194, .iload_n 1, 1), (195, .invokevirtual 93, 3), (198, .ifCond .eq 7, 3), (201, .iconst 1, 1), (202, .goto 4, 3), (205, .iconst 0, 1), (206, .ireturn, 1)]
def M_X8_isItem : kM := (yX8_isItem, RX8, cX8_isItem, tab_X8_isItem, 5, (Option.some Jvm.ClassFile.FieldType.boolean), { frames := 4, cells := 0, slots := 0, locals := 92 })
theorem tb_X8_isItem : ∀ q ∈ m_tab M_X8_isItem, decode (m_cc M_X8_isItem) q.1 = .ok q.2 := by decide +kernel
theorem g_X8_isItem : k_g M_X8_isItem 0 := ⟨kw_w 939 (by decide +kernel) (by decide +kernel), kw_w 106 (by decide +kernel) (by decide +kernel), ⟨by decide +kernel, by decide +kernel, by decide +kernel⟩, rfl, rfl⟩
theorem gv_X8_isItem : k_gv M_X8_isItem 8 := ⟨kw_w 938 (by decide +kernel) (by decide +kernel), kw_w 69 (by decide +kernel) (by decide +kernel), ⟨_, rfl, rfl⟩, by decide⟩
def tab_X8_isGood : List (Nat × Instr × Nat) := [(0, .iload_n 1, 1), (1, .bipush 119, 2), (3, .if_icmp .ne 56, 3), (6, .aload_n 0, 1), (7, .getfield 13, 3), (10, .bipush 14, 2), (12, .aload_n 0, 1), (13, .getfield 57, 3), (16, .iconst 0, 1), (17, .iaload, 1), (18, .iastore, 1), (19, .aload_n 0, 1), (20, .getfield 13, 3), (23, .bipush 15, 2), (25, .aload_n 0, 1), (26, .getfield 57, 3), (29, .iconst 1, 1), (30, .iaload, 1), (31, .iastore, 1), (32, .aload_n 0, 1), (33, .iconst 0, 1), (34, .iconst 2, 1), (35, .bipush 6, 2), (37, .invokevirtual 97, 3), (40, .ifCond .eq 17, 3), (43, .aload_n 0, 1), (44, .iconst 1, 1), (45, .iconst 2, 1), (46, .iconst 5, 1), (47, .invokevirtual 97, 3), (50, .ifCond .eq 7, 3), (53, .iconst 1, 1), (54, .goto 4, 3), (57, .iconst 0, 1), (58, .ireturn, 1), (59, .iload_n 1, 1), (60, .bipush 107, 2), (62, .if_icmp .ne 83, 3), (65, .aload_n 0, 1), (66, .iconst 0, 1), (67, .iconst 0, 1), (68, .iconst 2, 1), (69, .invokevirtual 97, 3), (72, .ifCond .ne 5, 3), (75, .iconst 0, 1), (76, .ireturn, 1), (77, .aload_n 0, 1), (78, .getfield 13, 3), (81, .bipush 22, 2), (83, .aload_n 0, 1), (84, .getfield 57, 3), (87, .iconst 0, 1), (88, .iaload, 1), (89, .iadd, 1), (90, .aload_n 0, 1), (91, .getfield 57, 3), (94, .iconst 1, 1), (95, .iaload, 1), (96, .iastore, 1), (97, .aload_n 0, 1), (98, .getfield 13, 3), (101, .bipush 25, 2), (103, .aload_n 0, 1), (104, .getfield 57, 3), (107, .iconst 0, 1), (108, .iaload, 1), (109, .iadd, 1), (110, .aload_n 0, 1), (111, .getfield 57, 3), (114, .iconst 2, 1), (115, .iaload, 1), (116, .iastore, 1), (117, .aload_n 0, 1), (118, .iconst 1, 1), (119, .iconst 1, 1), (120, .bipush 20, 2), (122, .invokevirtual 97, 3), (125, .ifCond .eq 18, 3), (128, .aload_n 0, 1), (129, .iconst 2, 1), (130, .iconst 1, 1), (131, .bipush 60, 2), (133, .invokevirtual 97, 3), (136, .ifCond .eq 7, 3), (139, .iconst 1, 1), (140, .goto 4, 3), (143, .iconst 0, 1), (144, .ireturn, 1), (145, .iload_n 1, 1), (146, .bipush 108, 2), (148, .if_icmp .ne 25, 3), (151, .aload_n 0, 1), (152, .getfield 13, 3), (155, .bipush 16, 2), (157, .aload_n 0, 1), (158, .getfield 57, 3), (161, .iconst 0, 1), (162, .iaload, 1), (163, .iastore, 1), (164, .aload_n 0, 1), (165, .iconst 0, 1), (166, .iconst 1, 1), (167, .bipush 30, 2), (169, .invokevirtual 97, 3), (172, .ireturn, 1), (173, .iload_n 1, 1), (174, .bipush 118, 2), (176, .if_icmp .ne 25, 3), (179, .aload_n 0, 1), (180, .getfield 13, 3), (183, .bipush 21, 2), (185, .aload_n 0, 1), (186, .getfield 57, 3), (189, .iconst 0, 1), (190, .iaload, 1), (191, .iastore, 1), (192, .aload_n 0, 1), (193, .iconst 0, 1), (194, .iconst 0, 1), (195, .bipush 9, 2), (197, .invokevirtual 97, 3), (200, .ireturn, 1), (201, .iload_n 1, 1), (202, .bipush 104, 2), (204, .if_icmp .ne 58, 3), (207, .aload_n 0, 1), (208, .getfield 13, 3), (211, .bipush 17, 2), (213, .aload_n 0, 1), (214, .getfield 57, 3), (217, .iconst 0, 1), (218, .iaload, 1), (219, .iastore, 1), (220, .aload_n 0, 1), (221, .getfield 13, 3), (224, .bipush 18, 2), (226, .aload_n 0, 1), (227, .getfield 57, 3), (230, .iconst 1, 1), (231, .iaload, 1), (232, .iastore, 1), (233, .aload_n 0, 1), (234, .iconst 0, 1), (235, .bipush 30, 2), (237, .bipush 99, 2), (239, .invokevirtual 97, 3), (242, .ifCond .eq 18, 3), (245, .aload_n 0, 1), (246, .iconst 1, 1), (247, .iconst 1, 1), (248, .bipush 60, 2), (250, .invokevirtual 97, 3), (253, .ifCond .eq 7, 3), (256, .iconst 1, 1), (257, .goto 4, 3), (260, .iconst 0, 1), (261, .ireturn, 1), (262, .iload_n 1, 1), (263, .bipush 100, 2), (265, .if_icmp .ne 61, 3), (268, .aload_n 0, 1), (269, .getfield 13, 3), (272, .bipush 19, 2), (274, .aload_n 0, 1), (275, .getfield 57, 3), (278, .iconst 0, 1), (279, .iaload, 1), (280, .iastore, 1), (281, .aload_n 0, 1), (282, .getfield 13, 3), (285, .bipush 20, 2), (287, .aload_n 0, 1), (288, .getfield 57, 3), (291, .iconst 1, 1), (292, .iaload, 1), (293, .iastore, 1), (294, .aload_n 0, 1), (295, .iconst 0, 1), (296, .bipush 10, 2), (298, .sipush 300, 3), (301, .invokevirtual 97, 3), (304, .ifCond .eq 20, 3), (307, .aload_n 0, 1), (308, .iconst 1, 1), (309, .bipush 10, 2), (311, .sipush 300, 3), (314, .invokevirtual 97, 3), (317, .ifCond .eq 7, 3), (320, .iconst 1, 1), (321, .goto 4, 3), (324, .iconst 0, 1), (325, .ireturn, 1), (326, .aload_n 0, 1), (327, .iconst 0, 1), (328, .iconst 0, 1), (329, .iconst 5, 1), (330, .invokevirtual 97, 3), (333, .ifCond .eq 25, 3), (336, .aload_n 0, 1), (337, .iconst 1, 1), (338, .iconst 0, 1), (339, .iconst 4, 1), (340, .invokevirtual 97, 3), (343, .ifCond .eq 15, 3), (346, .aload_n 0, 1), (347, .iload_n 1, 1), (348, .invokevirtual 101, 3), (351, .ifCond .eq 7, 3), (354, .iconst 1, 1), (355, .goto 4, 3), (358, .iconst 0, 1), (359, .ireturn, 1)]
def M_X8_isGood : kM := (yX8_isGood, RX8, cX8_isGood, tab_X8_isGood, 2, (Option.some Jvm.ClassFile.FieldType.boolean), { frames := 3, cells := 0, slots := 0, locals := 71 })
theorem tb_X8_isGood : ∀ q ∈ m_tab M_X8_isGood, decode (m_cc M_X8_isGood) q.1 = .ok q.2 := by decide +kernel
theorem g_X8_isGood : k_g M_X8_isGood 1 := ⟨kw_w 953 (by decide +kernel) (by decide +kernel), kw_w 106 (by decide +kernel) (by decide +kernel), ⟨by decide +kernel, by decide +kernel, by decide +kernel⟩, rfl, rfl⟩
theorem gv_X8_isGood : k_gv M_X8_isGood 8 := ⟨kw_w 952 (by decide +kernel) (by decide +kernel), kw_w 71 (by decide +kernel) (by decide +kernel), ⟨_, rfl, rfl⟩, by decide⟩
def tab_X8_isPlaced : List (Nat × Instr × Nat) := [(0, .aload_n 0, 1), (1, .getfield 57, 3), (4, .iconst 0, 1), (5, .iaload, 1), (6, .bipush 6, 2), (8, .aload_n 0, 1), (9, .getfield 57, 3), (12, .iconst 1, 1), (13, .iaload, 1), (14, .imul, 1), (15, .iadd, 1), (16, .istore_n 2, 1), (17, .iload_n 1, 1), (18, .bipush 99, 2), (20, .if_icmp .ne 57, 3), (23, .aload_n 0, 1), (24, .iconst 2, 1), (25, .iconst 0, 1), (26, .iconst 2, 1), (27, .invokevirtual 97, 3), (30, .ifCond .eq 15, 3), (33, .aload_n 0, 1), (34, .iconst 3, 1), (35, .iconst 0, 1), (36, .sipush 199, 3), (39, .invokevirtual 97, 3), (42, .ifCond .ne 5, 3), (45, .iconst 0, 1), (46, .ireturn, 1), (47, .aload_n 0, 1), (48, .getfield 29, 3), (51, .iload_n 2, 1), (52, .aload_n 0, 1), (53, .getfield 57, 3), (56, .iconst 3, 1), (57, .iaload, 1), (58, .iastore, 1), (59, .aload_n 0, 1), (60, .getfield 29, 3), (63, .bipush 30, 2), (65, .iload_n 2, 1), (66, .iadd, 1), (67, .aload_n 0, 1), (68, .getfield 57, 3), (71, .iconst 2, 1), (72, .iaload, 1), (73, .iastore, 1), (74, .goto 136, 3), (77, .iload_n 1, 1), (78, .bipush 112, 2), (80, .if_icmp .ne 109, 3), (83, .aload_n 0, 1), (84, .iconst 2, 1), (85, .iconst 1, 1), (86, .bipush 9, 2), (88, .invokevirtual 97, 3), (91, .ifCond .eq 47, 3), (94, .aload_n 0, 1), (95, .iconst 3, 1), (96, .iconst 0, 1), (97, .bipush 99, 2), (99, .invokevirtual 97, 3), (102, .ifCond .eq 36, 3), (105, .aload_n 0, 1), (106, .iconst 4, 1), (107, .iconst 0, 1), (108, .bipush 9, 2), (110, .invokevirtual 97, 3), (113, .ifCond .eq 25, 3), (116, .aload_n 0, 1), (117, .iconst 5, 1), (118, .iconst 1, 1), (119, .bipush 99, 2), (121, .invokevirtual 97, 3), (124, .ifCond .eq 14, 3), (127, .aload_n 0, 1), (128, .getfield 17, 3), (131, .iconst 1, 1), (132, .iaload, 1), (133, .bipush 6, 2), (135, .if_icmp .ne 5, 3), (138, .iconst 0, 1), (139, .ireturn, 1), (140, .iconst 0, 1), (141, .istore_n 3, 1), (142, .iload_n 3, 1), (143, .bipush 6, 2), (145, .if_icmp .ge 31, 3), (148, .aload_n 0, 1), (149, .getfield 26, 3), (152, .bipush 6, 2), (154, .aload_n 0, 1), (155, .getfield 17, 3), (158, .iconst 1, 1), (159, .iaload, 1), (160, .imul, 1), (161, .iload_n 3, 1), (162, .iadd, 1), (163, .aload_n 0, 1), (164, .getfield 57, 3), (167, .iload_n 3, 1), (168, .iaload, 1), (169, .iastore, 1), (170, .iinc 3 1, 3), (173, .goto (-31), 3), (176, .aload_n 0, 1), (177, .getfield 17, 3), (180, .iconst 1, 1), (181, .dup2, 1), (182, .iaload, 1), (183, .iconst 1, 1), (184, .iadd, 1), (185, .iastore, 1), (186, .goto 24, 3), (189, .aload_n 0, 1), (190, .getfield 29, 3), (193, .iload_n 1, 1), (194, .bipush 111, 2), (196, .if_icmp .ne 8, 3), (199, .bipush 60, 2), (201, .goto 5, 3), (204, .bipush 90, 2), (206, .iload_n 2, 1), (207, .iadd, 1), (208, .iconst 1, 1), (209, .iastore, 1), (210, .iconst 1, 1), (211, .ireturn, 1)]
def M_X8_isPlaced : kM := (yX8_isPlaced, RX8, cX8_isPlaced, tab_X8_isPlaced, 4, (Option.some Jvm.ClassFile.FieldType.boolean), { frames := 2, cells := 0, slots := 0, locals := 48 })
theorem tb_X8_isPlaced : ∀ q ∈ m_tab M_X8_isPlaced, decode (m_cc M_X8_isPlaced) q.1 = .ok q.2 := by decide +kernel
theorem g_X8_isPlaced : k_g M_X8_isPlaced 1 := ⟨kw_w 961 (by decide +kernel) (by decide +kernel), kw_w 106 (by decide +kernel) (by decide +kernel), ⟨by decide +kernel, by decide +kernel, by decide +kernel⟩, rfl, rfl⟩
theorem gv_X8_isPlaced : k_gv M_X8_isPlaced 8 := ⟨kw_w 960 (by decide +kernel) (by decide +kernel), kw_w 73 (by decide +kernel) (by decide +kernel), ⟨_, rfl, rfl⟩, by decide⟩
def tab_X8_begins : List (Nat × Instr × Nat) := [(0, .aload_n 0, 1), (1, .getfield 17, 3), (4, .iconst 1, 1), (5, .iconst 0, 1), (6, .iastore, 1), (7, .iconst 0, 1), (8, .istore_n 1, 1), (9, .iload_n 1, 1), (10, .bipush 120, 2), (12, .if_icmp .ge 16, 3), (15, .aload_n 0, 1), (16, .getfield 29, 3), (19, .iload_n 1, 1), (20, .iconst 0, 1), (21, .iastore, 1), (22, .iinc 1 1, 3), (25, .goto (-16), 3), (28, .aload_n 0, 1), (29, .getfield 13, 3), (32, .bipush 14, 2), (34, .iconst 4, 1), (35, .iastore, 1), (36, .aload_n 0, 1), (37, .getfield 13, 3), (40, .bipush 15, 2), (42, .iconst 3, 1), (43, .iastore, 1), (44, .aload_n 0, 1), (45, .getfield 13, 3), (48, .bipush 16, 2), (50, .bipush 8, 2), (52, .iastore, 1), (53, .aload_n 0, 1), (54, .getfield 13, 3), (57, .bipush 17, 2), (59, .bipush 75, 2), (61, .iastore, 1), (62, .aload_n 0, 1), (63, .getfield 13, 3), (66, .bipush 18, 2), (68, .bipush 10, 2), (70, .iastore, 1), (71, .aload_n 0, 1), (72, .getfield 13, 3), (75, .bipush 19, 2), (77, .bipush 60, 2), (79, .iastore, 1), (80, .aload_n 0, 1), (81, .getfield 13, 3), (84, .bipush 20, 2), (86, .bipush 90, 2), (88, .iastore, 1), (89, .aload_n 0, 1), (90, .getfield 13, 3), (93, .bipush 21, 2), (95, .iconst 0, 1), (96, .iastore, 1), (97, .aload_n 0, 1), (98, .getfield 13, 3), (101, .bipush 22, 2), (103, .bipush 6, 2), (105, .iastore, 1), (106, .aload_n 0, 1), (107, .getfield 13, 3), (110, .bipush 23, 2), (112, .iconst 2, 1), (113, .iastore, 1), (114, .aload_n 0, 1), (115, .getfield 13, 3), (118, .bipush 24, 2), (120, .bipush 15, 2), (122, .iastore, 1), (123, .aload_n 0, 1), (124, .getfield 13, 3), (127, .bipush 25, 2), (129, .bipush 20, 2), (131, .iastore, 1), (132, .aload_n 0, 1), (133, .getfield 13, 3), (136, .bipush 26, 2), (138, .bipush 40, 2), (140, .iastore, 1), (141, .aload_n 0, 1), (142, .getfield 13, 3), (145, .bipush 27, 2), (147, .bipush 8, 2), (149, .iastore, 1), (150, .return_, 1)]
def M_X8_begins : kM := (yX8_begins, RX8, cX8_begins, tab_X8_begins, 2, (Option.none : Option Jvm.ClassFile.FieldType), { frames := 0, cells := 0, slots := 0, locals := 0 })
theorem tb_X8_begins : ∀ q ∈ m_tab M_X8_begins, decode (m_cc M_X8_begins) q.1 = .ok q.2 := by decide +kernel
theorem g_X8_begins : k_g M_X8_begins 0 := ⟨kw_w 850 (by decide +kernel) (by decide +kernel), kw_w 106 (by decide +kernel) (by decide +kernel), ⟨by decide +kernel, by decide +kernel, by decide +kernel⟩, rfl, rfl⟩
theorem gv_X8_begins : k_gv M_X8_begins 8 := ⟨kw_w 849 (by decide +kernel) (by decide +kernel), kw_w 66 (by decide +kernel) (by decide +kernel), ⟨_, rfl, rfl⟩, by decide⟩
def tab_X8_takes : List (Nat × Instr × Nat) := [(0, .iconst 0, 1), (1, .istore_n 1, 1), (2, .iload_n 1, 1), (3, .bipush 14, 2), (5, .if_icmp .ge 24, 3), (8, .aload_n 0, 1), (9, .getfield 13, 3), (12, .iload_n 1, 1), (13, .aload_n 0, 1), (14, .getfield 13, 3), (17, .bipush 14, 2), (19, .iload_n 1, 1), (20, .iadd, 1), (21, .iaload, 1), (22, .iastore, 1), (23, .iinc 1 1, 3), (26, .goto (-24), 3), (29, .aload_n 0, 1), (30, .getfield 17, 3), (33, .iconst 0, 1), (34, .aload_n 0, 1), (35, .getfield 17, 3), (38, .iconst 1, 1), (39, .iaload, 1), (40, .iastore, 1), (41, .iconst 0, 1), (42, .istore_n 1, 1), (43, .iload_n 1, 1), (44, .sipush 200, 3), (47, .if_icmp .ge 16, 3), (50, .aload_n 0, 1), (51, .getfield 32, 3), (54, .iload_n 1, 1), (55, .iconst 0, 1), (56, .iastore, 1), (57, .iinc 1 1, 3), (60, .goto (-17), 3), (63, .iconst 0, 1), (64, .istore_n 1, 1), (65, .iload_n 1, 1), (66, .aload_n 0, 1), (67, .invokevirtual 104, 3), (70, .if_icmp .ge 107, 3), (73, .iload_n 1, 1), (74, .aload_n 0, 1), (75, .getfield 13, 3), (78, .iconst 0, 1), (79, .iaload, 1), (80, .irem, 1), (81, .bipush 6, 2), (83, .iload_n 1, 1), (84, .aload_n 0, 1), (85, .getfield 13, 3), (88, .iconst 0, 1), (89, .iaload, 1), (90, .idiv, 1), (91, .imul, 1), (92, .iadd, 1), (93, .istore_n 2, 1), (94, .aload_n 0, 1), (95, .getfield 32, 3), (98, .iload_n 1, 1), (99, .bipush 20, 2), (101, .iastore, 1), (102, .aload_n 0, 1), (103, .getfield 32, 3), (106, .bipush 30, 2), (108, .iload_n 1, 1), (109, .iadd, 1), (110, .aload_n 0, 1), (111, .getfield 29, 3), (114, .iload_n 2, 1), (115, .iaload, 1), (116, .iastore, 1), (117, .aload_n 0, 1), (118, .getfield 32, 3), (121, .bipush 60, 2), (123, .iload_n 1, 1), (124, .iadd, 1), (125, .aload_n 0, 1), (126, .getfield 29, 3), (129, .bipush 30, 2), (131, .iload_n 2, 1), (132, .iadd, 1), (133, .iaload, 1), (134, .iastore, 1), (135, .aload_n 0, 1), (136, .getfield 32, 3), (139, .bipush 90, 2), (141, .iload_n 1, 1), (142, .iadd, 1), (143, .aload_n 0, 1), (144, .getfield 29, 3), (147, .bipush 60, 2), (149, .iload_n 2, 1), (150, .iadd, 1), (151, .iaload, 1), (152, .iastore, 1), (153, .aload_n 0, 1), (154, .getfield 32, 3), (157, .bipush 120, 2), (159, .iload_n 1, 1), (160, .iadd, 1), (161, .aload_n 0, 1), (162, .getfield 29, 3), (165, .bipush 90, 2), (167, .iload_n 2, 1), (168, .iadd, 1), (169, .iaload, 1), (170, .iastore, 1), (171, .iinc 1 1, 3), (174, .goto (-109), 3), (177, .iconst 0, 1), (178, .istore_n 1, 1), (179, .iload_n 1, 1), (180, .aload_n 0, 1), (181, .getfield 17, 3), (184, .iconst 0, 1), (185, .iaload, 1), (186, .if_icmp .ge 137, 3), (189, .sipush 150, 3), (192, .bipush 8, 2), (194, .iload_n 1, 1), (195, .imul, 1), (196, .iadd, 1), (197, .istore_n 2, 1), (198, .aload_n 0, 1), (199, .getfield 32, 3), (202, .iload_n 2, 1), (203, .iconst 0, 1), (204, .iadd, 1), (205, .aload_n 0, 1), (206, .getfield 26, 3), (209, .bipush 6, 2), (211, .iload_n 1, 1), (212, .imul, 1), (213, .iaload, 1), (214, .aload_n 0, 1), (215, .getfield 13, 3), (218, .iconst 0, 1), (219, .iaload, 1), (220, .aload_n 0, 1), (221, .getfield 26, 3), (224, .bipush 6, 2), (226, .iload_n 1, 1), (227, .imul, 1), (228, .iconst 1, 1), (229, .iadd, 1), (230, .iaload, 1), (231, .imul, 1), (232, .iadd, 1), (233, .iastore, 1), (234, .aload_n 0, 1), (235, .getfield 32, 3), (238, .iload_n 2, 1), (239, .iconst 1, 1), (240, .iadd, 1), (241, .bipush 20, 2), (243, .iastore, 1), (244, .aload_n 0, 1), (245, .getfield 32, 3), (248, .iload_n 2, 1), (249, .iconst 2, 1), (250, .iadd, 1), (251, .aload_n 0, 1), (252, .getfield 26, 3), (255, .bipush 6, 2), (257, .iload_n 1, 1), (258, .imul, 1), (259, .iconst 3, 1), (260, .iadd, 1), (261, .iaload, 1), (262, .iastore, 1), (263, .aload_n 0, 1), (264, .getfield 32, 3), (267, .iload_n 2, 1), (268, .bipush 7, 2), (270, .iadd, 1), (271, .aload_n 0, 1), (272, .getfield 26, 3), (275, .bipush 6, 2), (277, .iload_n 1, 1), (278, .imul, 1), (279, .iconst 4, 1), (280, .iadd, 1), (281, .iaload, 1), (282, .iastore, 1), (283, .aload_n 0, 1), (284, .getfield 20, 3), (287, .iload_n 1, 1), (288, .aload_n 0, 1), (289, .getfield 26, 3), (292, .bipush 6, 2), (294, .iload_n 1, 1), (295, .imul, 1), (296, .iconst 2, 1), (297, .iadd, 1), (298, .iaload, 1), (299, .iastore, 1), (300, .aload_n 0, 1), (301, .getfield 23, 3), (304, .iload_n 1, 1), (305, .aload_n 0, 1), (306, .getfield 26, 3), (309, .bipush 6, 2), (311, .iload_n 1, 1), (312, .imul, 1), (313, .iconst 5, 1), (314, .iadd, 1), (315, .iaload, 1), (316, .iastore, 1), (317, .iinc 1 1, 3), (320, .goto (-141), 3), (323, .aload_n 0, 1), (324, .iconst 0, 1), (325, .putfield 107, 3), (328, .aload_n 0, 1), (329, .iconst 0, 1), (330, .putfield 110, 3), (333, .return_, 1)]
def M_X8_takes : kM := (yX8_takes, RX8, cX8_takes, tab_X8_takes, 3, (Option.none : Option Jvm.ClassFile.FieldType), { frames := 1, cells := 0, slots := 0, locals := 20 })
theorem tb_X8_takes : ∀ q ∈ m_tab M_X8_takes, decode (m_cc M_X8_takes) q.1 = .ok q.2 := by decide +kernel
theorem g_X8_takes : k_g M_X8_takes 0 := ⟨kw_w 854 (by decide +kernel) (by decide +kernel), kw_w 106 (by decide +kernel) (by decide +kernel), ⟨by decide +kernel, by decide +kernel, by decide +kernel⟩, rfl, rfl⟩
theorem gv_X8_takes : k_gv M_X8_takes 8 := ⟨kw_w 853 (by decide +kernel) (by decide +kernel), kw_w 67 (by decide +kernel) (by decide +kernel), ⟨_, rfl, rfl⟩, by decide⟩
def tab_X8_fault : List (Nat × Instr × Nat) := [(0, .aload_n 0, 1), (1, .iconst 0, 1), (2, .putfield 76, 3), (5, .aload_n 0, 1), (6, .invokevirtual 60, 3), (9, .aload_n 0, 1), (10, .getfield 76, 3), (13, .aload_n 0, 1), (14, .getfield 72, 3), (17, .if_icmp .ge 20, 3), (20, .aload_n 0, 1), (21, .getfield 76, 3), (24, .istore_n 1, 1), (25, .aload_n 0, 1), (26, .invokevirtual 113, 3), (29, .ifCond .ne 5, 3), (32, .iload_n 1, 1), (33, .ireturn, 1), (34, .goto (-25), 3), (37, .bipush (-4), 2), (39, .ireturn, 1)]
def M_X8_fault : kM := (yX8_fault, RX8, cX8_fault, tab_X8_fault, 2, (Option.some Jvm.ClassFile.FieldType.int), { frames := 5, cells := 0, slots := 0, locals := 116 })
theorem tb_X8_fault : ∀ q ∈ m_tab M_X8_fault, decode (m_cc M_X8_fault) q.1 = .ok q.2 := by decide +kernel
theorem g_X8_fault : k_g M_X8_fault 0 := ⟨kw_w 935 (by decide +kernel) (by decide +kernel), kw_w 106 (by decide +kernel) (by decide +kernel), ⟨by decide +kernel, by decide +kernel, by decide +kernel⟩, rfl, rfl⟩
theorem gv_X8_fault : k_gv M_X8_fault 8 := ⟨kw_w 933 (by decide +kernel) (by decide +kernel), kw_w 934 (by decide +kernel) (by decide +kernel), ⟨_, rfl, rfl⟩, by decide⟩
def tab_X8_lay : List (Nat × Instr × Nat) := [(0, .aload_n 0, 1), (1, .invokevirtual 117, 3), (4, .bipush (-4), 2), (6, .if_icmp .eq 6, 3), (9, .bipush (-2), 2), (11, .ireturn, 1), (12, .iconst 0, 1), (13, .istore_n 1, 1), (14, .iload_n 1, 1), (15, .aload_n 0, 1), (16, .getfield 17, 3), (19, .iconst 1, 1), (20, .iaload, 1), (21, .if_icmp .ge 131, 3), (24, .aload_n 0, 1), (25, .getfield 26, 3), (28, .bipush 6, 2), (30, .iload_n 1, 1), (31, .imul, 1), (32, .iaload, 1), (33, .aload_n 0, 1), (34, .getfield 13, 3), (37, .bipush 14, 2), (39, .iaload, 1), (40, .if_icmp .ge 28, 3), (43, .aload_n 0, 1), (44, .getfield 26, 3), (47, .bipush 6, 2), (49, .iload_n 1, 1), (50, .imul, 1), (51, .iconst 1, 1), (52, .iadd, 1), (53, .iaload, 1), (54, .aload_n 0, 1), (55, .getfield 13, 3), (58, .bipush 15, 2), (60, .iaload, 1), (61, .if_icmp .ge 7, 3), (64, .iconst 1, 1), (65, .goto 4, 3), (68, .iconst 0, 1), (69, .istore_n 2, 1), (70, .iconst 0, 1), (71, .istore_n 3, 1), (72, .iload_n 3, 1), (73, .iload_n 1, 1), (74, .if_icmp .ge 65, 3), (77, .iload_n 2, 1), (78, .ifCond .eq 61, 3), (81, .aload_n 0, 1), (82, .getfield 26, 3), (85, .bipush 6, 2), (87, .iload_n 1, 1), (88, .imul, 1), (89, .iaload, 1), (90, .aload_n 0, 1), (91, .getfield 26, 3), (94, .bipush 6, 2), (96, .iload_n 3, 1), (97, .imul, 1), (98, .iaload, 1), (99, .if_icmp .ne 28, 3), (102, .aload_n 0, 1), (103, .getfield 26, 3), (106, .bipush 6, 2), (108, .iload_n 1, 1), (109, .imul, 1), (110, .iconst 1, 1), (111, .iadd, 1), (112, .iaload, 1), (113, .aload_n 0, 1), (114, .getfield 26, 3), (117, .bipush 6, 2), (119, .iload_n 3, 1), (120, .imul, 1), (121, .iconst 1, 1), (122, .iadd, 1), (123, .iaload, 1), (124, .if_icmp .eq 7, 3), (127, .iconst 1, 1), (128, .goto 4, 3), (131, .iconst 0, 1), (132, .istore_n 2, 1), (133, .iinc 3 1, 3), (136, .goto (-64), 3), (139, .iload_n 2, 1), (140, .ifCond .ne 6, 3), (143, .bipush (-2), 2), (145, .ireturn, 1), (146, .iinc 1 1, 3), (149, .goto (-135), 3), (152, .aload_n 0, 1), (153, .invokevirtual 63, 3), (156, .aload_n 0, 1), (157, .invokevirtual 104, 3), (160, .ireturn, 1)]
def M_X8_lay : kM := (yX8_lay, RX8, cX8_lay, tab_X8_lay, 4, (Option.some Jvm.ClassFile.FieldType.int), { frames := 6, cells := 0, slots := 0, locals := 137 })
theorem tb_X8_lay : ∀ q ∈ m_tab M_X8_lay, decode (m_cc M_X8_lay) q.1 = .ok q.2 := by decide +kernel
theorem g_X8_lay : k_g M_X8_lay 0 := ⟨kw_w 965 (by decide +kernel) (by decide +kernel), kw_w 106 (by decide +kernel) (by decide +kernel), ⟨by decide +kernel, by decide +kernel, by decide +kernel⟩, rfl, rfl⟩
theorem gv_X8_lay : k_gv M_X8_lay 8 := ⟨kw_w 963 (by decide +kernel) (by decide +kernel), kw_w 964 (by decide +kernel) (by decide +kernel), ⟨_, rfl, rfl⟩, by decide⟩
def tab_X8_cells : List (Nat × Instr × Nat) := [(0, .aload_n 0, 1), (1, .getfield 13, 3), (4, .iconst 0, 1), (5, .iaload, 1), (6, .aload_n 0, 1), (7, .getfield 13, 3), (10, .iconst 1, 1), (11, .iaload, 1), (12, .imul, 1), (13, .ireturn, 1)]
def M_X8_cells : kM := (yX8_cells, RX8, cX8_cells, tab_X8_cells, 1, (Option.some Jvm.ClassFile.FieldType.int), { frames := 0, cells := 0, slots := 0, locals := 0 })
theorem tb_X8_cells : ∀ q ∈ m_tab M_X8_cells, decode (m_cc M_X8_cells) q.1 = .ok q.2 := by decide +kernel
theorem g_X8_cells : k_g M_X8_cells 0 := ⟨kw_w 858 (by decide +kernel) (by decide +kernel), kw_w 106 (by decide +kernel) (by decide +kernel), ⟨by decide +kernel, by decide +kernel, by decide +kernel⟩, rfl, rfl⟩
theorem gv_X8_cells : k_gv M_X8_cells 8 := ⟨kw_w 857 (by decide +kernel) (by decide +kernel), kw_w 68 (by decide +kernel) (by decide +kernel), ⟨_, rfl, rfl⟩, by decide⟩
def tab_X8_isCell : List (Nat × Instr × Nat) := [(0, .iload_n 1, 1), (1, .i2l, 1), (2, .lconst 0, 1), (3, .aload_n 0, 1), (4, .invokevirtual 104, 3), (7, .iconst 1, 1), (8, .isub, 1), (9, .i2l, 1), (10, .invokestatic 68, 3), (13, .ireturn, 1)]
def M_X8_isCell : kM := (yX8_isCell, RX8, cX8_isCell, tab_X8_isCell, 2, (Option.some Jvm.ClassFile.FieldType.boolean), { frames := 1, cells := 0, slots := 0, locals := 25 })
theorem tb_X8_isCell : ∀ q ∈ m_tab M_X8_isCell, decode (m_cc M_X8_isCell) q.1 = .ok q.2 := by decide +kernel
theorem g_X8_isCell : k_g M_X8_isCell 1 := ⟨kw_w 974 (by decide +kernel) (by decide +kernel), kw_w 106 (by decide +kernel) (by decide +kernel), ⟨by decide +kernel, by decide +kernel, by decide +kernel⟩, rfl, rfl⟩
theorem gv_X8_isCell : k_gv M_X8_isCell 8 := ⟨kw_w 973 (by decide +kernel) (by decide +kernel), kw_w 74 (by decide +kernel) (by decide +kernel), ⟨_, rfl, rfl⟩, by decide⟩
def tab_X8_isPot : List (Nat × Instr × Nat) := [(0, .iload_n 1, 1), (1, .i2l, 1), (2, .lconst 0, 1), (3, .aload_n 0, 1), (4, .getfield 17, 3), (7, .iconst 0, 1), (8, .iaload, 1), (9, .iconst 1, 1), (10, .isub, 1), (11, .i2l, 1), (12, .invokestatic 68, 3), (15, .ireturn, 1)]
def M_X8_isPot : kM := (yX8_isPot, RX8, cX8_isPot, tab_X8_isPot, 2, (Option.some Jvm.ClassFile.FieldType.boolean), { frames := 1, cells := 0, slots := 0, locals := 25 })
theorem tb_X8_isPot : ∀ q ∈ m_tab M_X8_isPot, decode (m_cc M_X8_isPot) q.1 = .ok q.2 := by decide +kernel
theorem g_X8_isPot : k_g M_X8_isPot 1 := ⟨kw_w 990 (by decide +kernel) (by decide +kernel), kw_w 106 (by decide +kernel) (by decide +kernel), ⟨by decide +kernel, by decide +kernel, by decide +kernel⟩, rfl, rfl⟩
theorem gv_X8_isPot : k_gv M_X8_isPot 8 := ⟨kw_w 989 (by decide +kernel) (by decide +kernel), kw_w 76 (by decide +kernel) (by decide +kernel), ⟨_, rfl, rfl⟩, by decide⟩
def tab_X8_copies : List (Nat × Instr × Nat) := [(0, .iconst 0, 1), (1, .istore_n 3, 1), (2, .iload_n 3, 1), (3, .sipush 200, 3), (6, .if_icmp .ge 33, 3), (9, .aload_n 0, 1), (10, .getfield 32, 3), (13, .sipush 200, 3), (16, .iload_n 2, 1), (17, .imul, 1), (18, .iload_n 3, 1), (19, .iadd, 1), (20, .aload_n 0, 1), (21, .getfield 32, 3), (24, .sipush 200, 3), (27, .iload_n 1, 1), (28, .imul, 1), (29, .iload_n 3, 1), (30, .iadd, 1), (31, .iaload, 1), (32, .iastore, 1), (33, .iinc 3 1, 3), (36, .goto (-34), 3), (39, .return_, 1)]
def M_X8_copies : kM := (yX8_copies, RX8, cX8_copies, tab_X8_copies, 4, (Option.none : Option Jvm.ClassFile.FieldType), { frames := 0, cells := 0, slots := 0, locals := 0 })
theorem tb_X8_copies : ∀ q ∈ m_tab M_X8_copies, decode (m_cc M_X8_copies) q.1 = .ok q.2 := by decide +kernel
theorem g_X8_copies : k_g M_X8_copies 2 := ⟨kw_w 1072 (by decide +kernel) (by decide +kernel), kw_w 106 (by decide +kernel) (by decide +kernel), ⟨by decide +kernel, by decide +kernel, by decide +kernel⟩, rfl, rfl⟩
theorem gv_X8_copies : k_gv M_X8_copies 8 := ⟨kw_w 1071 (by decide +kernel) (by decide +kernel), kw_w 87 (by decide +kernel) (by decide +kernel), ⟨_, rfl, rfl⟩, by decide⟩
def tab_X8_potAt : List (Nat × Instr × Nat) := [(0, .sipush 200, 3), (3, .iload_n 0, 1), (4, .imul, 1), (5, .sipush 150, 3), (8, .iadd, 1), (9, .bipush 8, 2), (11, .iload_n 1, 1), (12, .imul, 1), (13, .iadd, 1), (14, .ireturn, 1)]
def M_X8_potAt : kM := (yX8_potAt, RX8, cX8_potAt, tab_X8_potAt, 2, (Option.some Jvm.ClassFile.FieldType.int), { frames := 0, cells := 0, slots := 0, locals := 0 })
theorem tb_X8_potAt : ∀ q ∈ m_tab M_X8_potAt, decode (m_cc M_X8_potAt) q.1 = .ok q.2 := by decide +kernel
theorem g_X8_potAt : k_g M_X8_potAt 2 := ⟨kw_w 982 (by decide +kernel) (by decide +kernel), kw_w 106 (by decide +kernel) (by decide +kernel), ⟨by decide +kernel, by decide +kernel, by decide +kernel⟩, rfl, rfl⟩
theorem gs_X8_potAt : Cond.static (m_y M_X8_potAt) ∈ kw := kw_w 981 (by decide +kernel) (by decide +kernel)
def tab_X8_isWhole : List (Nat × Instr × Nat) := [(0, .aload_n 0, 1), (1, .getfield 32, 3), (4, .iload_n 1, 1), (5, .iload_n 2, 1), (6, .invokestatic 120, 3), (9, .iconst 4, 1), (10, .iadd, 1), (11, .iaload, 1), (12, .ifCond .ne 7, 3), (15, .iconst 1, 1), (16, .goto 4, 3), (19, .iconst 0, 1), (20, .ireturn, 1)]
def M_X8_isWhole : kM := (yX8_isWhole, RX8, cX8_isWhole, tab_X8_isWhole, 3, (Option.some Jvm.ClassFile.FieldType.boolean), { frames := 1, cells := 0, slots := 0, locals := 21 })
theorem tb_X8_isWhole : ∀ q ∈ m_tab M_X8_isWhole, decode (m_cc M_X8_isWhole) q.1 = .ok q.2 := by decide +kernel
theorem g_X8_isWhole : k_g M_X8_isWhole 2 := ⟨kw_w 979 (by decide +kernel) (by decide +kernel), kw_w 106 (by decide +kernel) (by decide +kernel), ⟨by decide +kernel, by decide +kernel, by decide +kernel⟩, rfl, rfl⟩
theorem gv_X8_isWhole : k_gv M_X8_isWhole 8 := ⟨kw_w 978 (by decide +kernel) (by decide +kernel), kw_w 75 (by decide +kernel) (by decide +kernel), ⟨_, rfl, rfl⟩, by decide⟩
def tab_X8_lossOf : List (Nat × Instr × Nat) := [(0, .iload_n 1, 1), (1, .iload_n 2, 1), (2, .invokestatic 120, 3), (5, .istore_n 3, 1), (6, .aload_n 0, 1), (7, .getfield 32, 3), (10, .iload_n 3, 1), (11, .iconst 4, 1), (12, .iadd, 1), (13, .iaload, 1), (14, .ifCond .le 14, 3), (17, .aload_n 0, 1), (18, .getfield 32, 3), (21, .iload_n 3, 1), (22, .iconst 4, 1), (23, .iadd, 1), (24, .iaload, 1), (25, .goto 25, 3), (28, .aload_n 0, 1), (29, .getfield 32, 3), (32, .iload_n 3, 1), (33, .iconst 3, 1), (34, .iadd, 1), (35, .iaload, 1), (36, .aload_n 0, 1), (37, .getfield 13, 3), (40, .iconst 4, 1), (41, .iaload, 1), (42, .if_icmp .lt 7, 3), (45, .iconst 0, 1), (46, .goto 4, 3), (49, .iconst 5, 1), (50, .ireturn, 1)]
def M_X8_lossOf : kM := (yX8_lossOf, RX8, cX8_lossOf, tab_X8_lossOf, 4, (Option.some Jvm.ClassFile.FieldType.int), { frames := 1, cells := 0, slots := 0, locals := 21 })
theorem tb_X8_lossOf : ∀ q ∈ m_tab M_X8_lossOf, decode (m_cc M_X8_lossOf) q.1 = .ok q.2 := by decide +kernel
theorem g_X8_lossOf : k_g M_X8_lossOf 2 := ⟨kw_w 994 (by decide +kernel) (by decide +kernel), kw_w 106 (by decide +kernel) (by decide +kernel), ⟨by decide +kernel, by decide +kernel, by decide +kernel⟩, rfl, rfl⟩
theorem gv_X8_lossOf : k_gv M_X8_lossOf 8 := ⟨kw_w 993 (by decide +kernel) (by decide +kernel), kw_w 77 (by decide +kernel) (by decide +kernel), ⟨_, rfl, rfl⟩, by decide⟩
def tab_X8_cell : List (Nat × Instr × Nat) := [(0, .aload_n 0, 1), (1, .iload_n 1, 1), (2, .invokevirtual 124, 3), (5, .ifCond .eq 15, 3), (8, .iload_n 2, 1), (9, .i2l, 1), (10, .lconst 0, 1), (11, .ldc2_w 127, 3), (14, .invokestatic 68, 3), (17, .ifCond .ne 5, 3), (20, .iconst (-1), 1), (21, .ireturn, 1), (22, .iload_n 2, 1), (23, .iconst 5, 1), (24, .if_icmp .ge 15, 3), (27, .aload_n 0, 1), (28, .getfield 32, 3), (31, .bipush 30, 2), (33, .iload_n 2, 1), (34, .imul, 1), (35, .iload_n 1, 1), (36, .iadd, 1), (37, .iaload, 1), (38, .ireturn, 1), (39, .iconst 0, 1), (40, .istore_n 3, 1), (41, .iload_n 3, 1), (42, .aload_n 0, 1), (43, .getfield 17, 3), (46, .iconst 0, 1), (47, .iaload, 1), (48, .if_icmp .ge 36, 3), (51, .aload_n 0, 1), (52, .iconst 0, 1), (53, .iload_n 3, 1), (54, .invokevirtual 129, 3), (57, .ifCond .eq 21, 3), (60, .aload_n 0, 1), (61, .getfield 32, 3), (64, .iconst 0, 1), (65, .iload_n 3, 1), (66, .invokestatic 120, 3), (69, .iconst 0, 1), (70, .iadd, 1), (71, .iaload, 1), (72, .iload_n 1, 1), (73, .if_icmp .ne 5, 3), (76, .iload_n 3, 1), (77, .ireturn, 1), (78, .iinc 3 1, 3), (81, .goto (-40), 3), (84, .bipush (-4), 2), (86, .ireturn, 1)]
def M_X8_cell : kM := (yX8_cell, RX8, cX8_cell, tab_X8_cell, 4, (Option.some Jvm.ClassFile.FieldType.int), { frames := 2, cells := 0, slots := 0, locals := 46 })
theorem tb_X8_cell : ∀ q ∈ m_tab M_X8_cell, decode (m_cc M_X8_cell) q.1 = .ok q.2 := by decide +kernel
theorem g_X8_cell : k_g M_X8_cell 2 := ⟨kw_w 970 (by decide +kernel) (by decide +kernel), kw_w 106 (by decide +kernel) (by decide +kernel), ⟨by decide +kernel, by decide +kernel, by decide +kernel⟩, rfl, rfl⟩
theorem gv_X8_cell : k_gv M_X8_cell 8 := ⟨kw_w 968 (by decide +kernel) (by decide +kernel), kw_w 969 (by decide +kernel) (by decide +kernel), ⟨_, rfl, rfl⟩, by decide⟩
def tab_X8_pot : List (Nat × Instr × Nat) := [(0, .aload_n 0, 1), (1, .iload_n 1, 1), (2, .invokevirtual 133, 3), (5, .ifCond .eq 15, 3), (8, .iload_n 2, 1), (9, .i2l, 1), (10, .lconst 0, 1), (11, .ldc2_w 127, 3), (14, .invokestatic 68, 3), (17, .ifCond .ne 5, 3), (20, .iconst (-1), 1), (21, .ireturn, 1), (22, .iload_n 2, 1), (23, .iconst 4, 1), (24, .if_icmp .ne 12, 3), (27, .aload_n 0, 1), (28, .iconst 0, 1), (29, .iload_n 1, 1), (30, .invokevirtual 136, 3), (33, .goto 15, 3), (36, .aload_n 0, 1), (37, .getfield 32, 3), (40, .iconst 0, 1), (41, .iload_n 1, 1), (42, .invokestatic 120, 3), (45, .iload_n 2, 1), (46, .iadd, 1), (47, .iaload, 1), (48, .ireturn, 1)]
def M_X8_pot : kM := (yX8_pot, RX8, cX8_pot, tab_X8_pot, 3, (Option.some Jvm.ClassFile.FieldType.int), { frames := 2, cells := 0, slots := 0, locals := 46 })
theorem tb_X8_pot : ∀ q ∈ m_tab M_X8_pot, decode (m_cc M_X8_pot) q.1 = .ok q.2 := by decide +kernel
theorem g_X8_pot : k_g M_X8_pot 2 := ⟨kw_w 986 (by decide +kernel) (by decide +kernel), kw_w 106 (by decide +kernel) (by decide +kernel), ⟨by decide +kernel, by decide +kernel, by decide +kernel⟩, rfl, rfl⟩
theorem gv_X8_pot : k_gv M_X8_pot 8 := ⟨kw_w 984 (by decide +kernel) (by decide +kernel), kw_w 985 (by decide +kernel) (by decide +kernel), ⟨_, rfl, rfl⟩, by decide⟩
def tab_X8_burns : List (Nat × Instr × Nat) := [(0, .sipush 200, 3), (3, .iload_n 1, 1), (4, .imul, 1), (5, .istore_n 2, 1), (6, .iconst 0, 1), (7, .istore_n 3, 1), (8, .iload_n 3, 1), (9, .aload_n 0, 1), (10, .invokevirtual 104, 3), (13, .if_icmp .ge 133, 3), (16, .aload_n 0, 1), (17, .getfield 32, 3), (20, .iload_n 2, 1), (21, .bipush 60, 2), (23, .iadd, 1), (24, .iload_n 3, 1), (25, .iadd, 1), (26, .iaload, 1), (27, .istore 4, 2), (29, .aload_n 0, 1), (30, .getfield 32, 3), (33, .iload_n 2, 1), (34, .bipush 90, 2), (36, .iadd, 1), (37, .iload_n 3, 1), (38, .iadd, 1), (39, .iaload, 1), (40, .ifCond .ne 7, 3), (43, .iconst 0, 1), (44, .goto 13, 3), (47, .aload_n 0, 1), (48, .getfield 13, 3), (51, .bipush 8, 2), (53, .iload 4, 2), (55, .iadd, 1), (56, .iaload, 1), (57, .istore 5, 2), (59, .iload 5, 2), (61, .aload_n 0, 1), (62, .getfield 32, 3), (65, .iload_n 2, 1), (66, .bipush 30, 2), (68, .iadd, 1), (69, .iload_n 3, 1), (70, .iadd, 1), (71, .iaload, 1), (72, .if_icmp .le 17, 3), (75, .aload_n 0, 1), (76, .getfield 32, 3), (79, .iload_n 2, 1), (80, .bipush 30, 2), (82, .iadd, 1), (83, .iload_n 3, 1), (84, .iadd, 1), (85, .iaload, 1), (86, .goto 5, 3), (89, .iload 5, 2), (91, .istore 5, 2), (93, .aload_n 0, 1), (94, .getfield 32, 3), (97, .iload_n 2, 1), (98, .bipush 30, 2), (100, .iadd, 1), (101, .iload_n 3, 1), (102, .iadd, 1), (103, .dup2, 1), (104, .iaload, 1), (105, .iload 5, 2), (107, .isub, 1), (108, .iastore, 1), (109, .aload_n 0, 1), (110, .getfield 32, 3), (113, .iload_n 2, 1), (114, .iload_n 3, 1), (115, .iadd, 1), (116, .dup2, 1), (117, .iaload, 1), (118, .iload 5, 2), (120, .aload_n 0, 1), (121, .getfield 13, 3), (124, .bipush 11, 2), (126, .iload 4, 2), (128, .iadd, 1), (129, .iaload, 1), (130, .imul, 1), (131, .iadd, 1), (132, .iastore, 1), (133, .aload_n 0, 1), (134, .getfield 38, 3), (137, .iload_n 3, 1), (138, .iconst 0, 1), (139, .iastore, 1), (140, .iinc 3 1, 3), (143, .goto (-135), 3), (146, .return_, 1)]
def M_X8_burns : kM := (yX8_burns, RX8, cX8_burns, tab_X8_burns, 6, (Option.none : Option Jvm.ClassFile.FieldType), { frames := 1, cells := 0, slots := 0, locals := 20 })
theorem tb_X8_burns : ∀ q ∈ m_tab M_X8_burns, decode (m_cc M_X8_burns) q.1 = .ok q.2 := by decide +kernel
theorem g_X8_burns : k_g M_X8_burns 1 := ⟨kw_w 1010 (by decide +kernel) (by decide +kernel), kw_w 106 (by decide +kernel) (by decide +kernel), ⟨by decide +kernel, by decide +kernel, by decide +kernel⟩, rfl, rfl⟩
theorem gv_X8_burns : k_gv M_X8_burns 8 := ⟨kw_w 1009 (by decide +kernel) (by decide +kernel), kw_w 79 (by decide +kernel) (by decide +kernel), ⟨_, rfl, rfl⟩, by decide⟩
def tab_X8_spreads : List (Nat × Instr × Nat) := [(0, .sipush 200, 3), (3, .iload_n 1, 1), (4, .imul, 1), (5, .istore_n 3, 1), (6, .iconst 0, 1), (7, .istore 4, 2), (9, .iload 4, 2), (11, .aload_n 0, 1), (12, .invokevirtual 104, 3), (15, .if_icmp .ge 159, 3), (18, .iload 4, 2), (20, .aload_n 0, 1), (21, .getfield 13, 3), (24, .iconst 0, 1), (25, .iaload, 1), (26, .irem, 1), (27, .aload_n 0, 1), (28, .getfield 13, 3), (31, .iconst 0, 1), (32, .iaload, 1), (33, .iconst 1, 1), (34, .isub, 1), (35, .if_icmp .ge 55, 3), (38, .aload_n 0, 1), (39, .getfield 32, 3), (42, .iload_n 3, 1), (43, .iload 4, 2), (45, .iadd, 1), (46, .iaload, 1), (47, .aload_n 0, 1), (48, .getfield 32, 3), (51, .iload_n 3, 1), (52, .iload 4, 2), (54, .iadd, 1), (55, .iconst 1, 1), (56, .iadd, 1), (57, .iaload, 1), (58, .isub, 1), (59, .bipush 10, 2), (61, .idiv, 1), (62, .istore 5, 2), (64, .aload_n 0, 1), (65, .getfield 38, 3), (68, .iload 4, 2), (70, .dup2, 1), (71, .iaload, 1), (72, .iload 5, 2), (74, .isub, 1), (75, .iastore, 1), (76, .aload_n 0, 1), (77, .getfield 38, 3), (80, .iload 4, 2), (82, .iconst 1, 1), (83, .iadd, 1), (84, .dup2, 1), (85, .iaload, 1), (86, .iload 5, 2), (88, .iadd, 1), (89, .iastore, 1), (90, .iload 4, 2), (92, .aload_n 0, 1), (93, .getfield 13, 3), (96, .iconst 0, 1), (97, .iaload, 1), (98, .iadd, 1), (99, .aload_n 0, 1), (100, .invokevirtual 104, 3), (103, .if_icmp .ge 65, 3), (106, .aload_n 0, 1), (107, .getfield 32, 3), (110, .iload_n 3, 1), (111, .iload 4, 2), (113, .iadd, 1), (114, .iaload, 1), (115, .aload_n 0, 1), (116, .getfield 32, 3), (119, .iload_n 3, 1), (120, .iload 4, 2), (122, .iadd, 1), (123, .aload_n 0, 1), (124, .getfield 13, 3), (127, .iconst 0, 1), (128, .iaload, 1), (129, .iadd, 1), (130, .iaload, 1), (131, .isub, 1), (132, .bipush 10, 2), (134, .idiv, 1), (135, .istore 5, 2), (137, .aload_n 0, 1), (138, .getfield 38, 3), (141, .iload 4, 2), (143, .dup2, 1), (144, .iaload, 1), (145, .iload 5, 2), (147, .isub, 1), (148, .iastore, 1), (149, .aload_n 0, 1), (150, .getfield 38, 3), (153, .iload 4, 2), (155, .aload_n 0, 1), (156, .getfield 13, 3), (159, .iconst 0, 1), (160, .iaload, 1), (161, .iadd, 1), (162, .dup2, 1), (163, .iaload, 1), (164, .iload 5, 2), (166, .iadd, 1), (167, .iastore, 1), (168, .iinc 4 1, 3), (171, .goto (-162), 3), (174, .iconst 0, 1), (175, .istore 4, 2), (177, .iload 4, 2), (179, .aload_n 0, 1), (180, .invokevirtual 104, 3), (183, .if_icmp .ge 157, 3), (186, .aload_n 0, 1), (187, .getfield 32, 3), (190, .iload_n 3, 1), (191, .iload 4, 2), (193, .iadd, 1), (194, .iaload, 1), (195, .aload_n 0, 1), (196, .getfield 38, 3), (199, .iload 4, 2), (201, .iaload, 1), (202, .iadd, 1), (203, .istore 5, 2), (205, .iload 5, 2), (207, .bipush 20, 2), (209, .isub, 1), (210, .aload_n 0, 1), (211, .getfield 13, 3), (214, .iconst 2, 1), (215, .iaload, 1), (216, .iload_n 2, 1), (217, .iadd, 1), (218, .imul, 1), (219, .bipush 100, 2), (221, .idiv, 1), (222, .istore 6, 2), (224, .iload 5, 2), (226, .aload_n 0, 1), (227, .getfield 32, 3), (230, .iload_n 3, 1), (231, .bipush 120, 2), (233, .iadd, 1), (234, .iload 4, 2), (236, .iadd, 1), (237, .iaload, 1), (238, .iconst 1, 1), (239, .if_icmp .ne 10, 3), (242, .iload 6, 2), (244, .iconst 2, 1), (245, .idiv, 1), (246, .goto 5, 3), (249, .iload 6, 2), (251, .isub, 1), (252, .istore 5, 2), (254, .aload_n 0, 1), (255, .getfield 32, 3), (258, .iload_n 3, 1), (259, .iload 4, 2), (261, .iadd, 1), (262, .iload 5, 2), (264, .sipush 3000, 3), (267, .if_icmp .le 9, 3), (270, .sipush 3000, 3), (273, .goto 17, 3), (276, .iload 5, 2), (278, .bipush 20, 2), (280, .if_icmp .ge 8, 3), (283, .bipush 20, 2), (285, .goto 5, 3), (288, .iload 5, 2), (290, .iastore, 1), (291, .aload_n 0, 1), (292, .getfield 32, 3), (295, .iload_n 3, 1), (296, .bipush 90, 2), (298, .iadd, 1), (299, .iload 4, 2), (301, .iadd, 1), (302, .aload_n 0, 1), (303, .getfield 32, 3), (306, .iload_n 3, 1), (307, .iload 4, 2), (309, .iadd, 1), (310, .iaload, 1), (311, .sipush 200, 3), (314, .if_icmp .lt 7, 3), (317, .iconst 1, 1), (318, .goto 15, 3), (321, .aload_n 0, 1), (322, .getfield 32, 3), (325, .iload_n 3, 1), (326, .bipush 90, 2), (328, .iadd, 1), (329, .iload 4, 2), (331, .iadd, 1), (332, .iaload, 1), (333, .iastore, 1), (334, .iinc 4 1, 3), (337, .goto (-160), 3), (340, .return_, 1)]
def M_X8_spreads : kM := (yX8_spreads, RX8, cX8_spreads, tab_X8_spreads, 7, (Option.none : Option Jvm.ClassFile.FieldType), { frames := 1, cells := 0, slots := 0, locals := 20 })
theorem tb_X8_spreads : ∀ q ∈ m_tab M_X8_spreads, decode (m_cc M_X8_spreads) q.1 = .ok q.2 := by decide +kernel
theorem g_X8_spreads : k_g M_X8_spreads 2 := ⟨kw_w 1014 (by decide +kernel) (by decide +kernel), kw_w 106 (by decide +kernel) (by decide +kernel), ⟨by decide +kernel, by decide +kernel, by decide +kernel⟩, rfl, rfl⟩
theorem gv_X8_spreads : k_gv M_X8_spreads 8 := ⟨kw_w 1013 (by decide +kernel) (by decide +kernel), kw_w 80 (by decide +kernel) (by decide +kernel), ⟨_, rfl, rfl⟩, by decide⟩
def tab_X8_fires : List (Nat × Instr × Nat) := [(0, .iload_n 1, 1), (1, .iload_n 2, 1), (2, .invokestatic 120, 3), (5, .istore_n 3, 1), (6, .aload_n 0, 1), (7, .getfield 32, 3), (10, .sipush 200, 3), (13, .iload_n 1, 1), (14, .imul, 1), (15, .aload_n 0, 1), (16, .getfield 32, 3), (19, .iload_n 3, 1), (20, .iconst 0, 1), (21, .iadd, 1), (22, .iaload, 1), (23, .iadd, 1), (24, .iaload, 1), (25, .aload_n 0, 1), (26, .getfield 32, 3), (29, .iload_n 3, 1), (30, .iconst 1, 1), (31, .iadd, 1), (32, .iaload, 1), (33, .isub, 1), (34, .aload_n 0, 1), (35, .getfield 20, 3), (38, .iload_n 2, 1), (39, .iaload, 1), (40, .iconst 1, 1), (41, .iadd, 1), (42, .idiv, 1), (43, .istore 4, 2), (45, .aload_n 0, 1), (46, .getfield 32, 3), (49, .iload_n 3, 1), (50, .iconst 1, 1), (51, .iadd, 1), (52, .dup2, 1), (53, .iaload, 1), (54, .iload 4, 2), (56, .iadd, 1), (57, .iastore, 1), (58, .aload_n 0, 1), (59, .getfield 32, 3), (62, .iload_n 3, 1), (63, .iconst 1, 1), (64, .iadd, 1), (65, .iaload, 1), (66, .istore 5, 2), (68, .aload_n 0, 1), (69, .getfield 32, 3), (72, .iload_n 3, 1), (73, .bipush 7, 2), (75, .iadd, 1), (76, .iaload, 1), (77, .iconst 1, 1), (78, .iadd, 1), (79, .istore 6, 2), (81, .iload 4, 2), (83, .ifCond .le 37, 3), (86, .iload 4, 2), (88, .aload_n 0, 1), (89, .getfield 20, 3), (92, .iload_n 2, 1), (93, .iaload, 1), (94, .imul, 1), (95, .bipush 10, 2), (97, .aload_n 0, 1), (98, .getfield 13, 3), (101, .bipush 6, 2), (103, .iaload, 1), (104, .imul, 1), (105, .if_icmp .le 15, 3), (108, .aload_n 0, 1), (109, .getfield 32, 3), (112, .iload_n 3, 1), (113, .iconst 4, 1), (114, .iadd, 1), (115, .iconst 3, 1), (116, .iastore, 1), (117, .goto 184, 3), (120, .iload 5, 2), (122, .bipush 100, 2), (124, .if_icmp .le 51, 3), (127, .aload_n 0, 1), (128, .getfield 32, 3), (131, .iload_n 3, 1), (132, .iconst 2, 1), (133, .iadd, 1), (134, .iaload, 1), (135, .iload 5, 2), (137, .bipush 100, 2), (139, .isub, 1), (140, .imul, 1), (141, .bipush 10, 2), (143, .iload 6, 2), (145, .imul, 1), (146, .idiv, 1), (147, .aload_n 0, 1), (148, .getfield 23, 3), (151, .iload_n 2, 1), (152, .iaload, 1), (153, .if_icmp .le 22, 3), (156, .aload_n 0, 1), (157, .getfield 32, 3), (160, .iload_n 3, 1), (161, .iconst 4, 1), (162, .iadd, 1), (163, .iconst 1, 1), (164, .iastore, 1), (165, .aload_n 0, 1), (166, .getfield 44, 3), (169, .iload_n 2, 1), (170, .iconst 1, 1), (171, .bastore, 1), (172, .goto 129, 3), (175, .iload 4, 2), (177, .ineg, 1), (178, .aload_n 0, 1), (179, .getfield 13, 3), (182, .iconst 5, 1), (183, .iaload, 1), (184, .if_icmp .le 26, 3), (187, .aload_n 0, 1), (188, .getfield 32, 3), (191, .iload_n 3, 1), (192, .iconst 3, 1), (193, .iadd, 1), (194, .iaload, 1), (195, .ifCond .le 15, 3), (198, .aload_n 0, 1), (199, .getfield 32, 3), (202, .iload_n 3, 1), (203, .iconst 4, 1), (204, .iadd, 1), (205, .iconst 4, 1), (206, .iastore, 1), (207, .goto 94, 3), (210, .iload 5, 2), (212, .bipush 60, 2), (214, .if_icmp .le 17, 3), (217, .iload 6, 2), (219, .iload 5, 2), (221, .bipush 60, 2), (223, .isub, 1), (224, .imul, 1), (225, .bipush 100, 2), (227, .idiv, 1), (228, .goto 4, 3), (231, .iconst 0, 1), (232, .istore 7, 2), (234, .aload_n 0, 1), (235, .getfield 32, 3), (238, .iload_n 3, 1), (239, .iconst 2, 1), (240, .iadd, 1), (241, .dup2, 1), (242, .iaload, 1), (243, .iload 7, 2), (245, .aload_n 0, 1), (246, .getfield 32, 3), (249, .iload_n 3, 1), (250, .iconst 2, 1), (251, .iadd, 1), (252, .iaload, 1), (253, .if_icmp .le 14, 3), (256, .aload_n 0, 1), (257, .getfield 32, 3), (260, .iload_n 3, 1), (261, .iconst 2, 1), (262, .iadd, 1), (263, .iaload, 1), (264, .goto 5, 3), (267, .iload 7, 2), (269, .isub, 1), (270, .iastore, 1), (271, .aload_n 0, 1), (272, .getfield 32, 3), (275, .iload_n 3, 1), (276, .iconst 3, 1), (277, .iadd, 1), (278, .dup2, 1), (279, .iaload, 1), (280, .iload 5, 2), (282, .bipush 10, 2), (284, .aload_n 0, 1), (285, .getfield 13, 3), (288, .iconst 3, 1), (289, .iaload, 1), (290, .imul, 1), (291, .if_icmp .lt 7, 3), (294, .iconst 1, 1), (295, .goto 4, 3), (298, .iconst 0, 1), (299, .iadd, 1), (300, .iastore, 1), (301, .return_, 1)]
def M_X8_fires : kM := (yX8_fires, RX8, cX8_fires, tab_X8_fires, 8, (Option.none : Option Jvm.ClassFile.FieldType), { frames := 1, cells := 0, slots := 0, locals := 21 })
theorem tb_X8_fires : ∀ q ∈ m_tab M_X8_fires, decode (m_cc M_X8_fires) q.1 = .ok q.2 := by decide +kernel
theorem g_X8_fires : k_g M_X8_fires 2 := ⟨kw_w 1018 (by decide +kernel) (by decide +kernel), kw_w 106 (by decide +kernel) (by decide +kernel), ⟨by decide +kernel, by decide +kernel, by decide +kernel⟩, rfl, rfl⟩
theorem gv_X8_fires : k_gv M_X8_fires 8 := ⟨kw_w 1017 (by decide +kernel) (by decide +kernel), kw_w 81 (by decide +kernel) (by decide +kernel), ⟨_, rfl, rfl⟩, by decide⟩
def tab_X8_isNear : List (Nat × Instr × Nat) := [(0, .iload_n 1, 1), (1, .aload_n 0, 1), (2, .getfield 13, 3), (5, .iconst 0, 1), (6, .iaload, 1), (7, .irem, 1), (8, .iload_n 2, 1), (9, .aload_n 0, 1), (10, .getfield 13, 3), (13, .iconst 0, 1), (14, .iaload, 1), (15, .irem, 1), (16, .isub, 1), (17, .istore_n 3, 1), (18, .iload_n 1, 1), (19, .aload_n 0, 1), (20, .getfield 13, 3), (23, .iconst 0, 1), (24, .iaload, 1), (25, .idiv, 1), (26, .iload_n 2, 1), (27, .aload_n 0, 1), (28, .getfield 13, 3), (31, .iconst 0, 1), (32, .iaload, 1), (33, .idiv, 1), (34, .isub, 1), (35, .istore 4, 2), (37, .iload_n 3, 1), (38, .i2l, 1), (39, .ldc2_w 139, 3), (42, .lconst 1, 1), (43, .invokestatic 68, 3), (46, .ifCond .eq 20, 3), (49, .iload 4, 2), (51, .i2l, 1), (52, .ldc2_w 139, 3), (55, .lconst 1, 1), (56, .invokestatic 68, 3), (59, .ifCond .eq 7, 3), (62, .iconst 1, 1), (63, .goto 4, 3), (66, .iconst 0, 1), (67, .ireturn, 1)]
def M_X8_isNear : kM := (yX8_isNear, RX8, cX8_isNear, tab_X8_isNear, 5, (Option.some Jvm.ClassFile.FieldType.boolean), { frames := 1, cells := 0, slots := 0, locals := 25 })
theorem tb_X8_isNear : ∀ q ∈ m_tab M_X8_isNear, decode (m_cc M_X8_isNear) q.1 = .ok q.2 := by decide +kernel
theorem g_X8_isNear : k_g M_X8_isNear 2 := ⟨kw_w 1026 (by decide +kernel) (by decide +kernel), kw_w 106 (by decide +kernel) (by decide +kernel), ⟨by decide +kernel, by decide +kernel, by decide +kernel⟩, rfl, rfl⟩
theorem gv_X8_isNear : k_gv M_X8_isNear 8 := ⟨kw_w 1025 (by decide +kernel) (by decide +kernel), kw_w 83 (by decide +kernel) (by decide +kernel), ⟨_, rfl, rfl⟩, by decide⟩
def tab_X8_strikes : List (Nat × Instr × Nat) := [(0, .iconst 0, 1), (1, .istore_n 2, 1), (2, .iload_n 2, 1), (3, .aload_n 0, 1), (4, .getfield 17, 3), (7, .iconst 0, 1), (8, .iaload, 1), (9, .if_icmp .ge 141, 3), (12, .iload_n 1, 1), (13, .iload_n 2, 1), (14, .invokestatic 120, 3), (17, .istore_n 3, 1), (18, .iconst 0, 1), (19, .istore 4, 2), (21, .iconst 0, 1), (22, .istore 5, 2), (24, .iload 5, 2), (26, .aload_n 0, 1), (27, .getfield 17, 3), (30, .iconst 0, 1), (31, .iaload, 1), (32, .if_icmp .ge 59, 3), (35, .iload 4, 2), (37, .ifCond .ne 41, 3), (40, .aload_n 0, 1), (41, .getfield 44, 3), (44, .iload 5, 2), (46, .baload, 1), (47, .ifCond .eq 35, 3), (50, .aload_n 0, 1), (51, .aload_n 0, 1), (52, .getfield 32, 3), (55, .iload_n 3, 1), (56, .iconst 0, 1), (57, .iadd, 1), (58, .iaload, 1), (59, .aload_n 0, 1), (60, .getfield 32, 3), (63, .iload_n 1, 1), (64, .iload 5, 2), (66, .invokestatic 120, 3), (69, .iconst 0, 1), (70, .iadd, 1), (71, .iaload, 1), (72, .invokevirtual 141, 3), (75, .ifCond .eq 7, 3), (78, .iconst 1, 1), (79, .goto 4, 3), (82, .iconst 0, 1), (83, .istore 4, 2), (85, .iinc 5 1, 3), (88, .goto (-64), 3), (91, .aload_n 0, 1), (92, .getfield 32, 3), (95, .iload_n 3, 1), (96, .iconst 4, 1), (97, .iadd, 1), (98, .iload 4, 2), (100, .ifCond .eq 35, 3), (103, .aload_n 0, 1), (104, .getfield 32, 3), (107, .iload_n 3, 1), (108, .iconst 4, 1), (109, .iadd, 1), (110, .iaload, 1), (111, .ifCond .ne 24, 3), (114, .aload_n 0, 1), (115, .getfield 32, 3), (118, .iload_n 3, 1), (119, .iconst 3, 1), (120, .iadd, 1), (121, .iaload, 1), (122, .aload_n 0, 1), (123, .getfield 13, 3), (126, .iconst 4, 1), (127, .iaload, 1), (128, .if_icmp .ge 7, 3), (131, .iconst 2, 1), (132, .goto 11, 3), (135, .aload_n 0, 1), (136, .getfield 32, 3), (139, .iload_n 3, 1), (140, .iconst 4, 1), (141, .iadd, 1), (142, .iaload, 1), (143, .iastore, 1), (144, .iinc 2 1, 3), (147, .goto (-145), 3), (150, .return_, 1)]
def M_X8_strikes : kM := (yX8_strikes, RX8, cX8_strikes, tab_X8_strikes, 6, (Option.none : Option Jvm.ClassFile.FieldType), { frames := 2, cells := 0, slots := 0, locals := 49 })
theorem tb_X8_strikes : ∀ q ∈ m_tab M_X8_strikes, decode (m_cc M_X8_strikes) q.1 = .ok q.2 := by decide +kernel
theorem g_X8_strikes : k_g M_X8_strikes 1 := ⟨kw_w 1022 (by decide +kernel) (by decide +kernel), kw_w 106 (by decide +kernel) (by decide +kernel), ⟨by decide +kernel, by decide +kernel, by decide +kernel⟩, rfl, rfl⟩
theorem gv_X8_strikes : k_gv M_X8_strikes 8 := ⟨kw_w 1021 (by decide +kernel) (by decide +kernel), kw_w 82 (by decide +kernel) (by decide +kernel), ⟨_, rfl, rfl⟩, by decide⟩
def tab_X8_colours : List (Nat × Instr × Nat) := [(0, .iload_n 1, 1), (1, .iload_n 2, 1), (2, .invokestatic 120, 3), (5, .istore_n 3, 1), (6, .sipush 200, 3), (9, .iload_n 1, 1), (10, .imul, 1), (11, .aload_n 0, 1), (12, .getfield 32, 3), (15, .iload_n 3, 1), (16, .iconst 0, 1), (17, .iadd, 1), (18, .iaload, 1), (19, .iadd, 1), (20, .istore 4, 2), (22, .aload_n 0, 1), (23, .getfield 32, 3), (26, .iload_n 3, 1), (27, .iconst 1, 1), (28, .iadd, 1), (29, .iaload, 1), (30, .sipush 500, 3), (33, .if_icmp .lt 16, 3), (36, .aload_n 0, 1), (37, .getfield 32, 3), (40, .iload_n 3, 1), (41, .bipush 6, 2), (43, .iadd, 1), (44, .iconst 1, 1), (45, .iastore, 1), (46, .goto 67, 3), (49, .aload_n 0, 1), (50, .getfield 32, 3), (53, .iload_n 3, 1), (54, .bipush 6, 2), (56, .iadd, 1), (57, .iaload, 1), (58, .iconst 1, 1), (59, .if_icmp .ne 54, 3), (62, .aload_n 0, 1), (63, .getfield 32, 3), (66, .iload_n 3, 1), (67, .iconst 5, 1), (68, .iadd, 1), (69, .iaload, 1), (70, .ifCond .ne 43, 3), (73, .aload_n 0, 1), (74, .getfield 32, 3), (77, .iload_n 3, 1), (78, .iconst 5, 1), (79, .iadd, 1), (80, .aload_n 0, 1), (81, .getfield 32, 3), (84, .iload 4, 2), (86, .bipush 120, 2), (88, .iadd, 1), (89, .iaload, 1), (90, .iconst 1, 1), (91, .if_icmp .eq 16, 3), (94, .aload_n 0, 1), (95, .getfield 32, 3), (98, .iload 4, 2), (100, .bipush 30, 2), (102, .iadd, 1), (103, .iaload, 1), (104, .ifCond .le 7, 3), (107, .iconst 2, 1), (108, .goto 4, 3), (111, .iconst 1, 1), (112, .iastore, 1), (113, .return_, 1)]
def M_X8_colours : kM := (yX8_colours, RX8, cX8_colours, tab_X8_colours, 5, (Option.none : Option Jvm.ClassFile.FieldType), { frames := 1, cells := 0, slots := 0, locals := 21 })
theorem tb_X8_colours : ∀ q ∈ m_tab M_X8_colours, decode (m_cc M_X8_colours) q.1 = .ok q.2 := by decide +kernel
theorem g_X8_colours : k_g M_X8_colours 2 := ⟨kw_w 1031 (by decide +kernel) (by decide +kernel), kw_w 106 (by decide +kernel) (by decide +kernel), ⟨by decide +kernel, by decide +kernel, by decide +kernel⟩, rfl, rfl⟩
theorem gv_X8_colours : k_gv M_X8_colours 8 := ⟨kw_w 1030 (by decide +kernel) (by decide +kernel), kw_w 84 (by decide +kernel) (by decide +kernel), ⟨_, rfl, rfl⟩, by decide⟩
def tab_X8_goes : List (Nat × Instr × Nat) := [(0, .aload_n 0, 1), (1, .iload_n 1, 1), (2, .invokevirtual 144, 3), (5, .aload_n 0, 1), (6, .iload_n 1, 1), (7, .iload_n 2, 1), (8, .invokevirtual 148, 3), (11, .iconst 0, 1), (12, .istore_n 3, 1), (13, .iload_n 3, 1), (14, .aload_n 0, 1), (15, .getfield 17, 3), (18, .iconst 0, 1), (19, .iaload, 1), (20, .if_icmp .ge 31, 3), (23, .aload_n 0, 1), (24, .getfield 44, 3), (27, .iload_n 3, 1), (28, .iconst 0, 1), (29, .bastore, 1), (30, .aload_n 0, 1), (31, .iload_n 1, 1), (32, .iload_n 3, 1), (33, .invokevirtual 129, 3), (36, .ifCond .eq 9, 3), (39, .aload_n 0, 1), (40, .iload_n 1, 1), (41, .iload_n 3, 1), (42, .invokevirtual 152, 3), (45, .iinc 3 1, 3), (48, .goto (-35), 3), (51, .aload_n 0, 1), (52, .iload_n 1, 1), (53, .invokevirtual 155, 3), (56, .iconst 0, 1), (57, .istore_n 3, 1), (58, .iload_n 3, 1), (59, .aload_n 0, 1), (60, .getfield 17, 3), (63, .iconst 0, 1), (64, .iaload, 1), (65, .if_icmp .ge 24, 3), (68, .aload_n 0, 1), (69, .iload_n 1, 1), (70, .iload_n 3, 1), (71, .invokevirtual 129, 3), (74, .ifCond .eq 9, 3), (77, .aload_n 0, 1), (78, .iload_n 1, 1), (79, .iload_n 3, 1), (80, .invokevirtual 158, 3), (83, .iinc 3 1, 3), (86, .goto (-28), 3), (89, .aload_n 0, 1), (90, .getfield 32, 3), (93, .sipush 200, 3), (96, .iload_n 1, 1), (97, .imul, 1), (98, .sipush 198, 3), (101, .iadd, 1), (102, .dup2, 1), (103, .iaload, 1), (104, .iconst 1, 1), (105, .iadd, 1), (106, .iastore, 1), (107, .return_, 1)]
def M_X8_goes : kM := (yX8_goes, RX8, cX8_goes, tab_X8_goes, 4, (Option.none : Option Jvm.ClassFile.FieldType), { frames := 3, cells := 0, slots := 0, locals := 74 })
theorem tb_X8_goes : ∀ q ∈ m_tab M_X8_goes, decode (m_cc M_X8_goes) q.1 = .ok q.2 := by decide +kernel
theorem g_X8_goes : k_g M_X8_goes 2 := ⟨kw_w 1006 (by decide +kernel) (by decide +kernel), kw_w 106 (by decide +kernel) (by decide +kernel), ⟨by decide +kernel, by decide +kernel, by decide +kernel⟩, rfl, rfl⟩
theorem gv_X8_goes : k_gv M_X8_goes 8 := ⟨kw_w 1005 (by decide +kernel) (by decide +kernel), kw_w 78 (by decide +kernel) (by decide +kernel), ⟨_, rfl, rfl⟩, by decide⟩
def tab_X8_isWind : List (Nat × Instr × Nat) := [(0, .iload_n 0, 1), (1, .i2l, 1), (2, .lconst 0, 1), (3, .ldc2_w 161, 3), (6, .invokestatic 68, 3), (9, .ireturn, 1)]
def M_X8_isWind : kM := (yX8_isWind, RX8, cX8_isWind, tab_X8_isWind, 1, (Option.some Jvm.ClassFile.FieldType.boolean), { frames := 1, cells := 0, slots := 0, locals := 25 })
theorem tb_X8_isWind : ∀ q ∈ m_tab M_X8_isWind, decode (m_cc M_X8_isWind) q.1 = .ok q.2 := by decide +kernel
theorem g_X8_isWind : k_g M_X8_isWind 1 := ⟨kw_w 1001 (by decide +kernel) (by decide +kernel), kw_w 106 (by decide +kernel) (by decide +kernel), ⟨by decide +kernel, by decide +kernel, by decide +kernel⟩, rfl, rfl⟩
theorem gs_X8_isWind : Cond.static (m_y M_X8_isWind) ∈ kw := kw_w 1000 (by decide +kernel) (by decide +kernel)
def tab_X8_minute : List (Nat × Instr × Nat) := [(0, .iload_n 1, 1), (1, .invokestatic 163, 3), (4, .ifCond .ne 5, 3), (7, .iconst (-1), 1), (8, .ireturn, 1), (9, .aload_n 0, 1), (10, .iconst 0, 1), (11, .iload_n 1, 1), (12, .invokevirtual 166, 3), (15, .iconst 0, 1), (16, .istore_n 2, 1), (17, .iconst 0, 1), (18, .istore_n 3, 1), (19, .iload_n 3, 1), (20, .aload_n 0, 1), (21, .getfield 17, 3), (24, .iconst 0, 1), (25, .iaload, 1), (26, .if_icmp .ge 26, 3), (29, .iload_n 2, 1), (30, .aload_n 0, 1), (31, .iconst 0, 1), (32, .iload_n 3, 1), (33, .invokevirtual 129, 3), (36, .ifCond .eq 7, 3), (39, .iconst 1, 1), (40, .goto 4, 3), (43, .iconst 0, 1), (44, .iadd, 1), (45, .istore_n 2, 1), (46, .iinc 3 1, 3), (49, .goto (-30), 3), (52, .iload_n 2, 1), (53, .ireturn, 1)]
def M_X8_minute : kM := (yX8_minute, RX8, cX8_minute, tab_X8_minute, 4, (Option.some Jvm.ClassFile.FieldType.int), { frames := 4, cells := 0, slots := 0, locals := 97 })
theorem tb_X8_minute : ∀ q ∈ m_tab M_X8_minute, decode (m_cc M_X8_minute) q.1 = .ok q.2 := by decide +kernel
theorem g_X8_minute : k_g M_X8_minute 1 := ⟨kw_w 998 (by decide +kernel) (by decide +kernel), kw_w 106 (by decide +kernel) (by decide +kernel), ⟨by decide +kernel, by decide +kernel, by decide +kernel⟩, rfl, rfl⟩
theorem gv_X8_minute : k_gv M_X8_minute 8 := ⟨kw_w 996 (by decide +kernel) (by decide +kernel), kw_w 997 (by decide +kernel) (by decide +kernel), ⟨_, rfl, rfl⟩, by decide⟩
def tab_X8_fuel : List (Nat × Instr × Nat) := [(0, .aload_n 0, 1), (1, .iload_n 1, 1), (2, .invokevirtual 124, 3), (5, .ifCond .eq 15, 3), (8, .iload_n 2, 1), (9, .i2l, 1), (10, .lconst 1, 1), (11, .ldc2_w 169, 3), (14, .invokestatic 68, 3), (17, .ifCond .ne 5, 3), (20, .iconst (-1), 1), (21, .ireturn, 1), (22, .aload_n 0, 1), (23, .getfield 32, 3), (26, .bipush 30, 2), (28, .iload_n 1, 1), (29, .iadd, 1), (30, .iaload, 1), (31, .iload_n 2, 1), (32, .iadd, 1), (33, .sipush 999, 3), (36, .if_icmp .le 6, 3), (39, .bipush (-2), 2), (41, .ireturn, 1), (42, .aload_n 0, 1), (43, .getfield 32, 3), (46, .bipush 30, 2), (48, .iload_n 1, 1), (49, .iadd, 1), (50, .dup2, 1), (51, .iaload, 1), (52, .iload_n 2, 1), (53, .iadd, 1), (54, .iastore, 1), (55, .aload_n 0, 1), (56, .getfield 32, 3), (59, .bipush 30, 2), (61, .iload_n 1, 1), (62, .iadd, 1), (63, .iaload, 1), (64, .ireturn, 1)]
def M_X8_fuel : kM := (yX8_fuel, RX8, cX8_fuel, tab_X8_fuel, 3, (Option.some Jvm.ClassFile.FieldType.int), { frames := 2, cells := 0, slots := 0, locals := 46 })
theorem tb_X8_fuel : ∀ q ∈ m_tab M_X8_fuel, decode (m_cc M_X8_fuel) q.1 = .ok q.2 := by decide +kernel
theorem g_X8_fuel : k_g M_X8_fuel 2 := ⟨kw_w 1035 (by decide +kernel) (by decide +kernel), kw_w 106 (by decide +kernel) (by decide +kernel), ⟨by decide +kernel, by decide +kernel, by decide +kernel⟩, rfl, rfl⟩
theorem gv_X8_fuel : k_gv M_X8_fuel 8 := ⟨kw_w 1033 (by decide +kernel) (by decide +kernel), kw_w 1034 (by decide +kernel) (by decide +kernel), ⟨_, rfl, rfl⟩, by decide⟩
def tab_X8_cover : List (Nat × Instr × Nat) := [(0, .aload_n 0, 1), (1, .iload_n 1, 1), (2, .invokevirtual 124, 3), (5, .ifCond .ne 5, 3), (8, .iconst (-1), 1), (9, .ireturn, 1), (10, .aload_n 0, 1), (11, .getfield 32, 3), (14, .bipush 120, 2), (16, .iload_n 1, 1), (17, .iadd, 1), (18, .iaload, 1), (19, .istore_n 3, 1), (20, .aload_n 0, 1), (21, .getfield 32, 3), (24, .bipush 120, 2), (26, .iload_n 1, 1), (27, .iadd, 1), (28, .iload_n 2, 1), (29, .ifCond .eq 7, 3), (32, .iconst 1, 1), (33, .goto 4, 3), (36, .iconst 0, 1), (37, .iastore, 1), (38, .iload_n 3, 1), (39, .ireturn, 1)]
def M_X8_cover : kM := (yX8_cover, RX8, cX8_cover, tab_X8_cover, 4, (Option.some Jvm.ClassFile.FieldType.int), { frames := 2, cells := 0, slots := 0, locals := 46 })
theorem tb_X8_cover : ∀ q ∈ m_tab M_X8_cover, decode (m_cc M_X8_cover) q.1 = .ok q.2 := by decide +kernel
theorem g_X8_cover : k_g M_X8_cover 2 := ⟨kw_w 1040 (by decide +kernel) (by decide +kernel), kw_w 106 (by decide +kernel) (by decide +kernel), ⟨by decide +kernel, by decide +kernel, by decide +kernel⟩, rfl, rfl⟩
theorem gv_X8_cover : k_gv M_X8_cover 8 := ⟨kw_w 1038 (by decide +kernel) (by decide +kernel), kw_w 1039 (by decide +kernel) (by decide +kernel), ⟨_, rfl, rfl⟩, by decide⟩
def tab_X8_light : List (Nat × Instr × Nat) := [(0, .aload_n 0, 1), (1, .iload_n 1, 1), (2, .invokevirtual 124, 3), (5, .ifCond .ne 5, 3), (8, .iconst (-1), 1), (9, .ireturn, 1), (10, .aload_n 0, 1), (11, .getfield 32, 3), (14, .bipush 90, 2), (16, .iload_n 1, 1), (17, .iadd, 1), (18, .iaload, 1), (19, .istore_n 2, 1), (20, .aload_n 0, 1), (21, .getfield 32, 3), (24, .bipush 90, 2), (26, .iload_n 1, 1), (27, .iadd, 1), (28, .iconst 1, 1), (29, .iastore, 1), (30, .iload_n 2, 1), (31, .ireturn, 1)]
def M_X8_light : kM := (yX8_light, RX8, cX8_light, tab_X8_light, 3, (Option.some Jvm.ClassFile.FieldType.int), { frames := 2, cells := 0, slots := 0, locals := 46 })
theorem tb_X8_light : ∀ q ∈ m_tab M_X8_light, decode (m_cc M_X8_light) q.1 = .ok q.2 := by decide +kernel
theorem g_X8_light : k_g M_X8_light 1 := ⟨kw_w 1044 (by decide +kernel) (by decide +kernel), kw_w 106 (by decide +kernel) (by decide +kernel), ⟨by decide +kernel, by decide +kernel, by decide +kernel⟩, rfl, rfl⟩
theorem gv_X8_light : k_gv M_X8_light 8 := ⟨kw_w 1042 (by decide +kernel) (by decide +kernel), kw_w 1043 (by decide +kernel) (by decide +kernel), ⟨_, rfl, rfl⟩, by decide⟩
def tab_X8_take : List (Nat × Instr × Nat) := [(0, .aload_n 0, 1), (1, .iload_n 1, 1), (2, .invokevirtual 133, 3), (5, .ifCond .ne 5, 3), (8, .iconst (-1), 1), (9, .ireturn, 1), (10, .aload_n 0, 1), (11, .iconst 0, 1), (12, .iload_n 1, 1), (13, .invokevirtual 129, 3), (16, .ifCond .ne 6, 3), (19, .bipush (-2), 2), (21, .ireturn, 1), (22, .aload_n 0, 1), (23, .iconst 0, 1), (24, .iload_n 1, 1), (25, .invokevirtual 136, 3), (28, .istore_n 2, 1), (29, .aload_n 0, 1), (30, .getfield 32, 3), (33, .iconst 0, 1), (34, .iload_n 1, 1), (35, .invokestatic 120, 3), (38, .iconst 4, 1), (39, .iadd, 1), (40, .bipush 6, 2), (42, .iastore, 1), (43, .iload_n 2, 1), (44, .ireturn, 1)]
def M_X8_take : kM := (yX8_take, RX8, cX8_take, tab_X8_take, 3, (Option.some Jvm.ClassFile.FieldType.int), { frames := 2, cells := 0, slots := 0, locals := 46 })
theorem tb_X8_take : ∀ q ∈ m_tab M_X8_take, decode (m_cc M_X8_take) q.1 = .ok q.2 := by decide +kernel
theorem g_X8_take : k_g M_X8_take 1 := ⟨kw_w 1048 (by decide +kernel) (by decide +kernel), kw_w 106 (by decide +kernel) (by decide +kernel), ⟨by decide +kernel, by decide +kernel, by decide +kernel⟩, rfl, rfl⟩
theorem gv_X8_take : k_gv M_X8_take 8 := ⟨kw_w 1046 (by decide +kernel) (by decide +kernel), kw_w 1047 (by decide +kernel) (by decide +kernel), ⟨_, rfl, rfl⟩, by decide⟩
def tab_X8_dries : List (Nat × Instr × Nat) := [(0, .iconst 0, 1), (1, .istore_n 3, 1), (2, .iconst 0, 1), (3, .istore 4, 2), (5, .iload 4, 2), (7, .aload_n 0, 1), (8, .getfield 17, 3), (11, .iconst 0, 1), (12, .iaload, 1), (13, .if_icmp .ge 101, 3), (16, .iload_n 1, 1), (17, .iload 4, 2), (19, .invokestatic 120, 3), (22, .istore 5, 2), (24, .aload_n 0, 1), (25, .iload_n 1, 1), (26, .iload 4, 2), (28, .invokevirtual 129, 3), (31, .ifCond .eq 22, 3), (34, .iload_n 2, 1), (35, .aload_n 0, 1), (36, .getfield 32, 3), (39, .iload 5, 2), (41, .bipush 7, 2), (43, .iadd, 1), (44, .iaload, 1), (45, .iconst 1, 1), (46, .iadd, 1), (47, .imul, 1), (48, .iconst 4, 1), (49, .idiv, 1), (50, .goto 4, 3), (53, .iconst 0, 1), (54, .istore 6, 2), (56, .aload_n 0, 1), (57, .getfield 32, 3), (60, .iload 5, 2), (62, .iconst 2, 1), (63, .iadd, 1), (64, .dup2, 1), (65, .iaload, 1), (66, .iload 6, 2), (68, .aload_n 0, 1), (69, .getfield 32, 3), (72, .iload 5, 2), (74, .iconst 2, 1), (75, .iadd, 1), (76, .iaload, 1), (77, .if_icmp .le 15, 3), (80, .aload_n 0, 1), (81, .getfield 32, 3), (84, .iload 5, 2), (86, .iconst 2, 1), (87, .iadd, 1), (88, .iaload, 1), (89, .goto 5, 3), (92, .iload 6, 2), (94, .isub, 1), (95, .iastore, 1), (96, .iload_n 3, 1), (97, .aload_n 0, 1), (98, .getfield 32, 3), (101, .iload 5, 2), (103, .iconst 2, 1), (104, .iadd, 1), (105, .iaload, 1), (106, .iadd, 1), (107, .istore_n 3, 1), (108, .iinc 4 1, 3), (111, .goto (-106), 3), (114, .iload_n 3, 1), (115, .ireturn, 1)]
def M_X8_dries : kM := (yX8_dries, RX8, cX8_dries, tab_X8_dries, 7, (Option.some Jvm.ClassFile.FieldType.int), { frames := 2, cells := 0, slots := 0, locals := 43 })
theorem tb_X8_dries : ∀ q ∈ m_tab M_X8_dries, decode (m_cc M_X8_dries) q.1 = .ok q.2 := by decide +kernel
theorem g_X8_dries : k_g M_X8_dries 2 := ⟨kw_w 1057 (by decide +kernel) (by decide +kernel), kw_w 106 (by decide +kernel) (by decide +kernel), ⟨by decide +kernel, by decide +kernel, by decide +kernel⟩, rfl, rfl⟩
theorem gv_X8_dries : k_gv M_X8_dries 8 := ⟨kw_w 1056 (by decide +kernel) (by decide +kernel), kw_w 85 (by decide +kernel) (by decide +kernel), ⟨_, rfl, rfl⟩, by decide⟩
def tab_X8_dry : List (Nat × Instr × Nat) := [(0, .iload_n 1, 1), (1, .i2l, 1), (2, .lconst 1, 1), (3, .ldc2_w 171, 3), (6, .invokestatic 68, 3), (9, .ifCond .eq 12, 3), (12, .aload_n 0, 1), (13, .iconst 0, 1), (14, .iload_n 1, 1), (15, .invokevirtual 173, 3), (18, .goto 4, 3), (21, .iconst (-1), 1), (22, .ireturn, 1)]
def M_X8_dry : kM := (yX8_dry, RX8, cX8_dry, tab_X8_dry, 2, (Option.some Jvm.ClassFile.FieldType.int), { frames := 3, cells := 0, slots := 0, locals := 69 })
theorem tb_X8_dry : ∀ q ∈ m_tab M_X8_dry, decode (m_cc M_X8_dry) q.1 = .ok q.2 := by decide +kernel
theorem g_X8_dry : k_g M_X8_dry 1 := ⟨kw_w 1052 (by decide +kernel) (by decide +kernel), kw_w 106 (by decide +kernel) (by decide +kernel), ⟨by decide +kernel, by decide +kernel, by decide +kernel⟩, rfl, rfl⟩
theorem gv_X8_dry : k_gv M_X8_dry 8 := ⟨kw_w 1050 (by decide +kernel) (by decide +kernel), kw_w 1051 (by decide +kernel) (by decide +kernel), ⟨_, rfl, rfl⟩, by decide⟩
def tab_X8_looks : List (Nat × Instr × Nat) := [(0, .iconst 0, 1), (1, .istore_n 1, 1), (2, .iload_n 1, 1), (3, .aload_n 0, 1), (4, .getfield 17, 3), (7, .iconst 0, 1), (8, .iaload, 1), (9, .if_icmp .ge 57, 3), (12, .aload_n 0, 1), (13, .getfield 32, 3), (16, .sipush 600, 3), (19, .aload_n 0, 1), (20, .getfield 32, 3), (23, .iconst 3, 1), (24, .iload_n 1, 1), (25, .invokestatic 120, 3), (28, .iconst 0, 1), (29, .iadd, 1), (30, .iaload, 1), (31, .iadd, 1), (32, .iaload, 1), (33, .istore_n 2, 1), (34, .aload_n 0, 1), (35, .getfield 41, 3), (38, .iload_n 1, 1), (39, .iload_n 2, 1), (40, .aload_n 0, 1), (41, .getfield 41, 3), (44, .iload_n 1, 1), (45, .iaload, 1), (46, .if_icmp .le 7, 3), (49, .iload_n 2, 1), (50, .goto 9, 3), (53, .aload_n 0, 1), (54, .getfield 41, 3), (57, .iload_n 1, 1), (58, .iaload, 1), (59, .iastore, 1), (60, .iinc 1 1, 3), (63, .goto (-61), 3), (66, .return_, 1)]
def M_X8_looks : kM := (yX8_looks, RX8, cX8_looks, tab_X8_looks, 3, (Option.none : Option Jvm.ClassFile.FieldType), { frames := 1, cells := 0, slots := 0, locals := 21 })
theorem tb_X8_looks : ∀ q ∈ m_tab M_X8_looks, decode (m_cc M_X8_looks) q.1 = .ok q.2 := by decide +kernel
theorem g_X8_looks : k_g M_X8_looks 0 := ⟨kw_w 1076 (by decide +kernel) (by decide +kernel), kw_w 106 (by decide +kernel) (by decide +kernel), ⟨by decide +kernel, by decide +kernel, by decide +kernel⟩, rfl, rfl⟩
theorem gv_X8_looks : k_gv M_X8_looks 8 := ⟨kw_w 1075 (by decide +kernel) (by decide +kernel), kw_w 88 (by decide +kernel) (by decide +kernel), ⟨_, rfl, rfl⟩, by decide⟩
def tab_X8_runs : List (Nat × Instr × Nat) := [(0, .iconst 0, 1), (1, .istore_n 3, 1), (2, .iload_n 3, 1), (3, .iload_n 1, 1), (4, .if_icmp .ge 19, 3), (7, .aload_n 0, 1), (8, .iconst 3, 1), (9, .iload_n 2, 1), (10, .invokevirtual 166, 3), (13, .aload_n 0, 1), (14, .invokevirtual 176, 3), (17, .iinc 3 1, 3), (20, .goto (-18), 3), (23, .aload_n 0, 1), (24, .iconst 0, 1), (25, .invokevirtual 179, 3), (28, .ireturn, 1)]
def M_X8_runs : kM := (yX8_runs, RX8, cX8_runs, tab_X8_runs, 4, (Option.some Jvm.ClassFile.FieldType.int), { frames := 4, cells := 0, slots := 0, locals := 97 })
theorem tb_X8_runs : ∀ q ∈ m_tab M_X8_runs, decode (m_cc M_X8_runs) q.1 = .ok q.2 := by decide +kernel
theorem g_X8_runs : k_g M_X8_runs 2 := ⟨kw_w 1080 (by decide +kernel) (by decide +kernel), kw_w 106 (by decide +kernel) (by decide +kernel), ⟨by decide +kernel, by decide +kernel, by decide +kernel⟩, rfl, rfl⟩
theorem gv_X8_runs : k_gv M_X8_runs 8 := ⟨kw_w 1079 (by decide +kernel) (by decide +kernel), kw_w 89 (by decide +kernel) (by decide +kernel), ⟨_, rfl, rfl⟩, by decide⟩
def tab_X8_good : List (Nat × Instr × Nat) := [(0, .iconst 0, 1), (1, .istore_n 2, 1), (2, .iload_n 1, 1), (3, .istore_n 3, 1), (4, .iload_n 3, 1), (5, .aload_n 0, 1), (6, .getfield 17, 3), (9, .iconst 0, 1), (10, .iaload, 1), (11, .if_icmp .ge 26, 3), (14, .iload_n 2, 1), (15, .aload_n 0, 1), (16, .iconst 3, 1), (17, .iload_n 3, 1), (18, .invokevirtual 136, 3), (21, .ifCond .ne 7, 3), (24, .iconst 1, 1), (25, .goto 4, 3), (28, .iconst 0, 1), (29, .iadd, 1), (30, .istore_n 2, 1), (31, .iinc 3 1, 3), (34, .goto (-30), 3), (37, .iload_n 2, 1), (38, .ireturn, 1)]
def M_X8_good : kM := (yX8_good, RX8, cX8_good, tab_X8_good, 4, (Option.some Jvm.ClassFile.FieldType.int), { frames := 2, cells := 0, slots := 0, locals := 44 })
theorem tb_X8_good : ∀ q ∈ m_tab M_X8_good, decode (m_cc M_X8_good) q.1 = .ok q.2 := by decide +kernel
theorem g_X8_good : k_g M_X8_good 1 := ⟨kw_w 1084 (by decide +kernel) (by decide +kernel), kw_w 106 (by decide +kernel) (by decide +kernel), ⟨by decide +kernel, by decide +kernel, by decide +kernel⟩, rfl, rfl⟩
theorem gv_X8_good : k_gv M_X8_good 8 := ⟨kw_w 1083 (by decide +kernel) (by decide +kernel), kw_w 90 (by decide +kernel) (by decide +kernel), ⟨_, rfl, rfl⟩, by decide⟩
def tab_X8_tries : List (Nat × Instr × Nat) := [(0, .aload_n 0, 1), (1, .iconst 0, 1), (2, .iconst 3, 1), (3, .invokevirtual 182, 3), (6, .iconst 0, 1), (7, .istore_n 1, 1), (8, .iload_n 1, 1), (9, .bipush 6, 2), (11, .if_icmp .ge 16, 3), (14, .aload_n 0, 1), (15, .getfield 41, 3), (18, .iload_n 1, 1), (19, .iconst 0, 1), (20, .iastore, 1), (21, .iinc 1 1, 3), (24, .goto (-16), 3), (27, .aload_n 0, 1), (28, .invokevirtual 176, 3), (31, .return_, 1)]
def M_X8_tries : kM := (yX8_tries, RX8, cX8_tries, tab_X8_tries, 2, (Option.none : Option Jvm.ClassFile.FieldType), { frames := 2, cells := 0, slots := 0, locals := 43 })
theorem tb_X8_tries : ∀ q ∈ m_tab M_X8_tries, decode (m_cc M_X8_tries) q.1 = .ok q.2 := by decide +kernel
theorem g_X8_tries : k_g M_X8_tries 0 := ⟨kw_w 1068 (by decide +kernel) (by decide +kernel), kw_w 106 (by decide +kernel) (by decide +kernel), ⟨by decide +kernel, by decide +kernel, by decide +kernel⟩, rfl, rfl⟩
theorem gv_X8_tries : k_gv M_X8_tries 8 := ⟨kw_w 1067 (by decide +kernel) (by decide +kernel), kw_w 86 (by decide +kernel) (by decide +kernel), ⟨_, rfl, rfl⟩, by decide⟩
def tab_X8_isRun : List (Nat × Instr × Nat) := [(0, .iload_n 0, 1), (1, .i2l, 1), (2, .lconst 0, 1), (3, .ldc2_w 171, 3), (6, .invokestatic 68, 3), (9, .ifCond .eq 14, 3), (12, .iload_n 1, 1), (13, .invokestatic 163, 3), (16, .ifCond .eq 7, 3), (19, .iconst 1, 1), (20, .goto 4, 3), (23, .iconst 0, 1), (24, .ireturn, 1)]
def M_X8_isRun : kM := (yX8_isRun, RX8, cX8_isRun, tab_X8_isRun, 2, (Option.some Jvm.ClassFile.FieldType.boolean), { frames := 2, cells := 0, slots := 0, locals := 45 })
theorem tb_X8_isRun : ∀ q ∈ m_tab M_X8_isRun, decode (m_cc M_X8_isRun) q.1 = .ok q.2 := by decide +kernel
theorem g_X8_isRun : k_g M_X8_isRun 2 := ⟨kw_w 1064 (by decide +kernel) (by decide +kernel), kw_w 106 (by decide +kernel) (by decide +kernel), ⟨by decide +kernel, by decide +kernel, by decide +kernel⟩, rfl, rfl⟩
theorem gs_X8_isRun : Cond.static (m_y M_X8_isRun) ∈ kw := kw_w 1063 (by decide +kernel) (by decide +kernel)
def tab_X8_lossed : List (Nat × Instr × Nat) := [(0, .iconst 0, 1), (1, .istore_n 2, 1), (2, .iconst 0, 1), (3, .istore_n 3, 1), (4, .iload_n 3, 1), (5, .aload_n 0, 1), (6, .getfield 17, 3), (9, .iconst 0, 1), (10, .iaload, 1), (11, .if_icmp .ge 62, 3), (14, .iload_n 2, 1), (15, .iload_n 1, 1), (16, .ifCond .ne 28, 3), (19, .aload_n 0, 1), (20, .iconst 3, 1), (21, .iload_n 3, 1), (22, .invokevirtual 136, 3), (25, .i2l, 1), (26, .lconst 1, 1), (27, .ldc2_w 185, 3), (30, .invokestatic 68, 3), (33, .ifCond .eq 7, 3), (36, .iconst 1, 1), (37, .goto 28, 3), (40, .iconst 0, 1), (41, .goto 24, 3), (44, .aload_n 0, 1), (45, .getfield 32, 3), (48, .iconst 3, 1), (49, .iload_n 3, 1), (50, .invokestatic 120, 3), (53, .iconst 4, 1), (54, .iadd, 1), (55, .iaload, 1), (56, .iload_n 1, 1), (57, .if_icmp .ne 7, 3), (60, .iconst 1, 1), (61, .goto 4, 3), (64, .iconst 0, 1), (65, .iadd, 1), (66, .istore_n 2, 1), (67, .iinc 3 1, 3), (70, .goto (-66), 3), (73, .iload_n 2, 1), (74, .ireturn, 1)]
def M_X8_lossed : kM := (yX8_lossed, RX8, cX8_lossed, tab_X8_lossed, 4, (Option.some Jvm.ClassFile.FieldType.int), { frames := 2, cells := 0, slots := 0, locals := 44 })
theorem tb_X8_lossed : ∀ q ∈ m_tab M_X8_lossed, decode (m_cc M_X8_lossed) q.1 = .ok q.2 := by decide +kernel
theorem g_X8_lossed : k_g M_X8_lossed 1 := ⟨kw_w 1088 (by decide +kernel) (by decide +kernel), kw_w 106 (by decide +kernel) (by decide +kernel), ⟨by decide +kernel, by decide +kernel, by decide +kernel⟩, rfl, rfl⟩
theorem gv_X8_lossed : k_gv M_X8_lossed 8 := ⟨kw_w 1087 (by decide +kernel) (by decide +kernel), kw_w 91 (by decide +kernel) (by decide +kernel), ⟨_, rfl, rfl⟩, by decide⟩
def tab_X8_run : List (Nat × Instr × Nat) := [(0, .iload_n 1, 1), (1, .iload_n 2, 1), (2, .invokestatic 187, 3), (5, .ifCond .eq 13, 3), (8, .iload_n 3, 1), (9, .i2l, 1), (10, .lconst 0, 1), (11, .lconst 1, 1), (12, .invokestatic 68, 3), (15, .ifCond .ne 5, 3), (18, .iconst (-1), 1), (19, .ireturn, 1), (20, .aload_n 0, 1), (21, .invokevirtual 190, 3), (24, .aload_n 0, 1), (25, .iload_n 1, 1), (26, .iload_n 2, 1), (27, .invokevirtual 193, 3), (30, .istore 4, 2), (32, .iload_n 3, 1), (33, .ifCond .ne 8, 3), (36, .iload 4, 2), (38, .goto 8, 3), (41, .aload_n 0, 1), (42, .iconst 0, 1), (43, .invokevirtual 196, 3), (46, .ireturn, 1)]
def M_X8_run : kM := (yX8_run, RX8, cX8_run, tab_X8_run, 5, (Option.some Jvm.ClassFile.FieldType.int), { frames := 5, cells := 0, slots := 0, locals := 120 })
theorem tb_X8_run : ∀ q ∈ m_tab M_X8_run, decode (m_cc M_X8_run) q.1 = .ok q.2 := by decide +kernel
theorem g_X8_run : k_g M_X8_run 3 := ⟨kw_w 1061 (by decide +kernel) (by decide +kernel), kw_w 106 (by decide +kernel) (by decide +kernel), ⟨by decide +kernel, by decide +kernel, by decide +kernel⟩, rfl, rfl⟩
theorem gv_X8_run : k_gv M_X8_run 8 := ⟨kw_w 1059 (by decide +kernel) (by decide +kernel), kw_w 1060 (by decide +kernel) (by decide +kernel), ⟨_, rfl, rfl⟩, by decide⟩
def tab_X8_of : List (Nat × Instr × Nat) := [(0, .iload_n 1, 1), (1, .iload_n 2, 1), (2, .invokestatic 187, 3), (5, .ifCond .eq 24, 3), (8, .aload_n 0, 1), (9, .iload_n 3, 1), (10, .invokevirtual 133, 3), (13, .ifCond .eq 16, 3), (16, .iload 4, 2), (18, .i2l, 1), (19, .lconst 0, 1), (20, .ldc2_w 83, 3), (23, .invokestatic 68, 3), (26, .ifCond .ne 5, 3), (29, .iconst (-1), 1), (30, .ireturn, 1), (31, .aload_n 0, 1), (32, .invokevirtual 190, 3), (35, .aload_n 0, 1), (36, .iload_n 1, 1), (37, .iload_n 2, 1), (38, .invokevirtual 193, 3), (41, .istore 5, 2), (43, .iconst 3, 1), (44, .iload_n 3, 1), (45, .invokestatic 120, 3), (48, .istore 6, 2), (50, .iload 5, 2), (52, .ifCond .ge 7, 3), (55, .iconst (-1), 1), (56, .goto 59, 3), (59, .iload 4, 2), (61, .ifCond .ne 12, 3), (64, .aload_n 0, 1), (65, .iconst 3, 1), (66, .iload_n 3, 1), (67, .invokevirtual 136, 3), (70, .goto 45, 3), (73, .iload 4, 2), (75, .iconst 1, 1), (76, .if_icmp .ne 12, 3), (79, .aload_n 0, 1), (80, .getfield 41, 3), (83, .iload_n 3, 1), (84, .iaload, 1), (85, .goto 30, 3), (88, .iload 4, 2), (90, .iconst 2, 1), (91, .if_icmp .ne 15, 3), (94, .aload_n 0, 1), (95, .getfield 32, 3), (98, .iload 6, 2), (100, .iconst 5, 1), (101, .iadd, 1), (102, .iaload, 1), (103, .goto 12, 3), (106, .aload_n 0, 1), (107, .getfield 32, 3), (110, .iload 6, 2), (112, .iconst 3, 1), (113, .iadd, 1), (114, .iaload, 1), (115, .ireturn, 1)]
def M_X8_of : kM := (yX8_of, RX8, cX8_of, tab_X8_of, 7, (Option.some Jvm.ClassFile.FieldType.int), { frames := 5, cells := 0, slots := 0, locals := 120 })
theorem tb_X8_of : ∀ q ∈ m_tab M_X8_of, decode (m_cc M_X8_of) q.1 = .ok q.2 := by decide +kernel
theorem g_X8_of : k_g M_X8_of 4 := ⟨kw_w 1093 (by decide +kernel) (by decide +kernel), kw_w 106 (by decide +kernel) (by decide +kernel), ⟨by decide +kernel, by decide +kernel, by decide +kernel⟩, rfl, rfl⟩
theorem gv_X8_of : k_gv M_X8_of 8 := ⟨kw_w 1091 (by decide +kernel) (by decide +kernel), kw_w 1092 (by decide +kernel) (by decide +kernel), ⟨_, rfl, rfl⟩, by decide⟩
def tab_X8_drying : List (Nat × Instr × Nat) := [(0, .iload_n 1, 1), (1, .iload_n 2, 1), (2, .invokestatic 187, 3), (5, .ifCond .ne 5, 3), (8, .iconst (-1), 1), (9, .ireturn, 1), (10, .iconst 0, 1), (11, .istore_n 3, 1), (12, .iload_n 3, 1), (13, .sipush 240, 3), (16, .if_icmp .gt 56, 3), (19, .aload_n 0, 1), (20, .invokevirtual 190, 3), (23, .aload_n 0, 1), (24, .iconst 1, 1), (25, .invokevirtual 196, 3), (28, .istore 4, 2), (30, .aload_n 0, 1), (31, .iconst 3, 1), (32, .iload_n 3, 1), (33, .invokevirtual 173, 3), (36, .istore 5, 2), (38, .iload 5, 2), (40, .aload_n 0, 1), (41, .iload_n 1, 1), (42, .iload_n 2, 1), (43, .invokevirtual 193, 3), (46, .iadd, 1), (47, .istore 5, 2), (49, .iload 5, 2), (51, .ifCond .lt 15, 3), (54, .aload_n 0, 1), (55, .iconst 1, 1), (56, .invokevirtual 196, 3), (59, .iload 4, 2), (61, .if_icmp .ne 5, 3), (64, .iload_n 3, 1), (65, .ireturn, 1), (66, .iinc 3 1, 3), (69, .goto (-57), 3), (72, .bipush (-4), 2), (74, .ireturn, 1)]
def M_X8_drying : kM := (yX8_drying, RX8, cX8_drying, tab_X8_drying, 6, (Option.some Jvm.ClassFile.FieldType.int), { frames := 5, cells := 0, slots := 0, locals := 120 })
theorem tb_X8_drying : ∀ q ∈ m_tab M_X8_drying, decode (m_cc M_X8_drying) q.1 = .ok q.2 := by decide +kernel
theorem g_X8_drying : k_g M_X8_drying 2 := ⟨kw_w 1097 (by decide +kernel) (by decide +kernel), kw_w 106 (by decide +kernel) (by decide +kernel), ⟨by decide +kernel, by decide +kernel, by decide +kernel⟩, rfl, rfl⟩
theorem gv_X8_drying : k_gv M_X8_drying 8 := ⟨kw_w 1095 (by decide +kernel) (by decide +kernel), kw_w 1096 (by decide +kernel) (by decide +kernel), ⟨_, rfl, rfl⟩, by decide⟩
def tab_X8_grit : List (Nat × Instr × Nat) := [(0, .aload_n 0, 1), (1, .iload_n 1, 1), (2, .invokevirtual 133, 3), (5, .ifCond .eq 11, 3), (8, .iload_n 2, 1), (9, .iload_n 3, 1), (10, .invokestatic 187, 3), (13, .ifCond .ne 5, 3), (16, .iconst (-1), 1), (17, .ireturn, 1), (18, .bipush (-4), 2), (20, .istore 4, 2), (22, .iconst (-1), 1), (23, .istore 5, 2), (25, .iconst 0, 1), (26, .istore 6, 2), (28, .iload 6, 2), (30, .bipush 10, 2), (32, .if_icmp .ge 79, 3), (35, .aload_n 0, 1), (36, .invokevirtual 190, 3), (39, .aload_n 0, 1), (40, .getfield 32, 3), (43, .iconst 3, 1), (44, .iload_n 1, 1), (45, .invokestatic 120, 3), (48, .bipush 7, 2), (50, .iadd, 1), (51, .iload 6, 2), (53, .iastore, 1), (54, .aload_n 0, 1), (55, .iload_n 2, 1), (56, .iload_n 3, 1), (57, .invokevirtual 193, 3), (60, .istore 7, 2), (62, .aload_n 0, 1), (63, .getfield 32, 3), (66, .iconst 3, 1), (67, .iload_n 1, 1), (68, .invokestatic 120, 3), (71, .iconst 3, 1), (72, .iadd, 1), (73, .iaload, 1), (74, .istore 8, 2), (76, .iload 7, 2), (78, .ifCond .le 27, 3), (81, .aload_n 0, 1), (82, .iconst 3, 1), (83, .iload_n 1, 1), (84, .invokevirtual 136, 3), (87, .ifCond .ne 18, 3), (90, .iload 8, 2), (92, .iload 5, 2), (94, .if_icmp .le 11, 3), (97, .iload 6, 2), (99, .istore 4, 2), (101, .iload 8, 2), (103, .istore 5, 2), (105, .iinc 6 1, 3), (108, .goto (-80), 3), (111, .iload 4, 2), (113, .ireturn, 1)]
def M_X8_grit : kM := (yX8_grit, RX8, cX8_grit, tab_X8_grit, 9, (Option.some Jvm.ClassFile.FieldType.int), { frames := 5, cells := 0, slots := 0, locals := 120 })
theorem tb_X8_grit : ∀ q ∈ m_tab M_X8_grit, decode (m_cc M_X8_grit) q.1 = .ok q.2 := by decide +kernel
theorem g_X8_grit : k_g M_X8_grit 3 := ⟨kw_w 1101 (by decide +kernel) (by decide +kernel), kw_w 106 (by decide +kernel) (by decide +kernel), ⟨by decide +kernel, by decide +kernel, by decide +kernel⟩, rfl, rfl⟩
theorem gv_X8_grit : k_gv M_X8_grit 8 := ⟨kw_w 1099 (by decide +kernel) (by decide +kernel), kw_w 1100 (by decide +kernel) (by decide +kernel), ⟨_, rfl, rfl⟩, by decide⟩
def tab_X8_enough : List (Nat × Instr × Nat) := [(0, .iload_n 1, 1), (1, .i2l, 1), (2, .lconst 1, 1), (3, .ldc2_w 199, 3), (6, .invokestatic 68, 3), (9, .ifCond .eq 11, 3), (12, .iload_n 2, 1), (13, .iload_n 3, 1), (14, .invokestatic 187, 3), (17, .ifCond .ne 5, 3), (20, .iconst (-1), 1), (21, .ireturn, 1), (22, .bipush 10, 2), (24, .istore 4, 2), (26, .iload 4, 2), (28, .sipush 200, 3), (31, .if_icmp .gt 71, 3), (34, .aload_n 0, 1), (35, .invokevirtual 190, 3), (38, .iconst 0, 1), (39, .istore 5, 2), (41, .iload 5, 2), (43, .aload_n 0, 1), (44, .invokevirtual 104, 3), (47, .if_icmp .ge 36, 3), (50, .aload_n 0, 1), (51, .getfield 32, 3), (54, .sipush 630, 3), (57, .iload 5, 2), (59, .iadd, 1), (60, .aload_n 0, 1), (61, .getfield 32, 3), (64, .bipush 30, 2), (66, .iload 5, 2), (68, .iadd, 1), (69, .iaload, 1), (70, .iload 4, 2), (72, .imul, 1), (73, .bipush 100, 2), (75, .idiv, 1), (76, .iastore, 1), (77, .iinc 5 1, 3), (80, .goto (-39), 3), (83, .aload_n 0, 1), (84, .iload_n 2, 1), (85, .iload_n 3, 1), (86, .invokevirtual 193, 3), (89, .iload_n 1, 1), (90, .if_icmp .lt 6, 3), (93, .iload 4, 2), (95, .ireturn, 1), (96, .iinc 4 10, 3), (99, .goto (-73), 3), (102, .bipush (-4), 2), (104, .ireturn, 1)]
def M_X8_enough : kM := (yX8_enough, RX8, cX8_enough, tab_X8_enough, 6, (Option.some Jvm.ClassFile.FieldType.int), { frames := 5, cells := 0, slots := 0, locals := 120 })
theorem tb_X8_enough : ∀ q ∈ m_tab M_X8_enough, decode (m_cc M_X8_enough) q.1 = .ok q.2 := by decide +kernel
theorem g_X8_enough : k_g M_X8_enough 3 := ⟨kw_w 1105 (by decide +kernel) (by decide +kernel), kw_w 106 (by decide +kernel) (by decide +kernel), ⟨by decide +kernel, by decide +kernel, by decide +kernel⟩, rfl, rfl⟩
theorem gv_X8_enough : k_gv M_X8_enough 8 := ⟨kw_w 1103 (by decide +kernel) (by decide +kernel), kw_w 1104 (by decide +kernel) (by decide +kernel), ⟨_, rfl, rfl⟩, by decide⟩
def tab_X8_spot : List (Nat × Instr × Nat) := [(0, .aload_n 0, 1), (1, .iload_n 1, 1), (2, .invokevirtual 124, 3), (5, .ifCond .ne 5, 3), (8, .iconst (-1), 1), (9, .ireturn, 1), (10, .iconst 0, 1), (11, .istore_n 2, 1), (12, .iload_n 2, 1), (13, .aload_n 0, 1), (14, .getfield 107, 3), (17, .if_icmp .ge 22, 3), (20, .aload_n 0, 1), (21, .getfield 35, 3), (24, .iload_n 2, 1), (25, .iaload, 1), (26, .iload_n 1, 1), (27, .if_icmp .ne 6, 3), (30, .bipush (-2), 2), (32, .ireturn, 1), (33, .iinc 2 1, 3), (36, .goto (-24), 3), (39, .aload_n 0, 1), (40, .getfield 107, 3), (43, .bipush 6, 2), (45, .if_icmp .ne 6, 3), (48, .bipush (-3), 2), (50, .ireturn, 1), (51, .aload_n 0, 1), (52, .getfield 35, 3), (55, .aload_n 0, 1), (56, .getfield 107, 3), (59, .iload_n 1, 1), (60, .iastore, 1), (61, .aload_n 0, 1), (62, .dup, 1), (63, .getfield 107, 3), (66, .iconst 1, 1), (67, .iadd, 1), (68, .putfield 107, 3), (71, .aload_n 0, 1), (72, .getfield 107, 3), (75, .ireturn, 1)]
def M_X8_spot : kM := (yX8_spot, RX8, cX8_spot, tab_X8_spot, 3, (Option.some Jvm.ClassFile.FieldType.int), { frames := 2, cells := 0, slots := 0, locals := 46 })
theorem tb_X8_spot : ∀ q ∈ m_tab M_X8_spot, decode (m_cc M_X8_spot) q.1 = .ok q.2 := by decide +kernel
theorem g_X8_spot : k_g M_X8_spot 1 := ⟨kw_w 1110 (by decide +kernel) (by decide +kernel), kw_w 106 (by decide +kernel) (by decide +kernel), ⟨by decide +kernel, by decide +kernel, by decide +kernel⟩, rfl, rfl⟩
theorem gv_X8_spot : k_gv M_X8_spot 8 := ⟨kw_w 1108 (by decide +kernel) (by decide +kernel), kw_w 1109 (by decide +kernel) (by decide +kernel), ⟨_, rfl, rfl⟩, by decide⟩
def tab_X8_noSpots : List (Nat × Instr × Nat) := [(0, .aload_n 0, 1), (1, .getfield 107, 3), (4, .istore_n 1, 1), (5, .aload_n 0, 1), (6, .iconst 0, 1), (7, .putfield 107, 3), (10, .iload_n 1, 1), (11, .ireturn, 1)]
def M_X8_noSpots : kM := (yX8_noSpots, RX8, cX8_noSpots, tab_X8_noSpots, 2, (Option.some Jvm.ClassFile.FieldType.int), { frames := 0, cells := 0, slots := 0, locals := 0 })
theorem tb_X8_noSpots : ∀ q ∈ m_tab M_X8_noSpots, decode (m_cc M_X8_noSpots) q.1 = .ok q.2 := by decide +kernel
theorem g_X8_noSpots : k_g M_X8_noSpots 0 := ⟨kw_w 1114 (by decide +kernel) (by decide +kernel), kw_w 106 (by decide +kernel) (by decide +kernel), ⟨by decide +kernel, by decide +kernel, by decide +kernel⟩, rfl, rfl⟩
theorem gv_X8_noSpots : k_gv M_X8_noSpots 8 := ⟨kw_w 1112 (by decide +kernel) (by decide +kernel), kw_w 1113 (by decide +kernel) (by decide +kernel), ⟨_, rfl, rfl⟩, by decide⟩
def tab_X8_isWay : List (Nat × Instr × Nat) := [(0, .iload_n 1, 1), (1, .istore_n 3, 1), (2, .iconst 1, 1), (3, .istore 4, 2), (5, .iload_n 2, 1), (6, .iconst 1, 1), (7, .isub, 1), (8, .istore 5, 2), (10, .iload 5, 2), (12, .ifCond .lt 29, 3), (15, .aload_n 0, 1), (16, .getfield 48, 3), (19, .iload 5, 2), (21, .iload_n 3, 1), (22, .aload_n 0, 1), (23, .getfield 107, 3), (26, .irem, 1), (27, .iastore, 1), (28, .iload_n 3, 1), (29, .aload_n 0, 1), (30, .getfield 107, 3), (33, .idiv, 1), (34, .istore_n 3, 1), (35, .iinc 5 (-1), 3), (38, .goto (-28), 3), (41, .iconst 0, 1), (42, .istore 5, 2), (44, .iload 5, 2), (46, .iload_n 2, 1), (47, .if_icmp .ge 114, 3), (50, .iconst 0, 1), (51, .istore 6, 2), (53, .iload 6, 2), (55, .iload 5, 2), (57, .if_icmp .ge 38, 3), (60, .iload 4, 2), (62, .ifCond .eq 24, 3), (65, .aload_n 0, 1), (66, .getfield 48, 3), (69, .iload 5, 2), (71, .iaload, 1), (72, .aload_n 0, 1), (73, .getfield 48, 3), (76, .iload 6, 2), (78, .iaload, 1), (79, .if_icmp .eq 7, 3), (82, .iconst 1, 1), (83, .goto 4, 3), (86, .iconst 0, 1), (87, .istore 4, 2), (89, .iinc 6 1, 3), (92, .goto (-39), 3), (95, .iload_n 2, 1), (96, .istore 6, 2), (98, .iload 6, 2), (100, .aload_n 0, 1), (101, .getfield 17, 3), (104, .iconst 0, 1), (105, .iaload, 1), (106, .if_icmp .ge 49, 3), (109, .iload 4, 2), (111, .ifCond .eq 35, 3), (114, .aload_n 0, 1), (115, .getfield 35, 3), (118, .aload_n 0, 1), (119, .getfield 48, 3), (122, .iload 5, 2), (124, .iaload, 1), (125, .iaload, 1), (126, .aload_n 0, 1), (127, .getfield 32, 3), (130, .iconst 0, 1), (131, .iload 6, 2), (133, .invokestatic 120, 3), (136, .iconst 0, 1), (137, .iadd, 1), (138, .iaload, 1), (139, .if_icmp .eq 7, 3), (142, .iconst 1, 1), (143, .goto 4, 3), (146, .iconst 0, 1), (147, .istore 4, 2), (149, .iinc 6 1, 3), (152, .goto (-54), 3), (155, .iinc 5 1, 3), (158, .goto (-114), 3), (161, .iload 4, 2), (163, .ireturn, 1)]
def M_X8_isWay : kM := (yX8_isWay, RX8, cX8_isWay, tab_X8_isWay, 7, (Option.some Jvm.ClassFile.FieldType.boolean), { frames := 1, cells := 0, slots := 0, locals := 21 })
theorem tb_X8_isWay : ∀ q ∈ m_tab M_X8_isWay, decode (m_cc M_X8_isWay) q.1 = .ok q.2 := by decide +kernel
theorem g_X8_isWay : k_g M_X8_isWay 2 := ⟨kw_w 1122 (by decide +kernel) (by decide +kernel), kw_w 106 (by decide +kernel) (by decide +kernel), ⟨by decide +kernel, by decide +kernel, by decide +kernel⟩, rfl, rfl⟩
theorem gv_X8_isWay : k_gv M_X8_isWay 8 := ⟨kw_w 1121 (by decide +kernel) (by decide +kernel), kw_w 92 (by decide +kernel) (by decide +kernel), ⟨_, rfl, rfl⟩, by decide⟩
def tab_X8_lies : List (Nat × Instr × Nat) := [(0, .iload_n 1, 1), (1, .i2l, 1), (2, .lconst 1, 1), (3, .ldc2_w 185, 3), (6, .invokestatic 68, 3), (9, .ifCond .eq 37, 3), (12, .iload_n 1, 1), (13, .aload_n 0, 1), (14, .getfield 17, 3), (17, .iconst 0, 1), (18, .iaload, 1), (19, .if_icmp .gt 27, 3), (22, .iload_n 2, 1), (23, .iload_n 3, 1), (24, .invokestatic 187, 3), (27, .ifCond .eq 19, 3), (30, .iload 4, 2), (32, .i2l, 1), (33, .ldc2_w 139, 3), (36, .iload_n 1, 1), (37, .iconst 1, 1), (38, .isub, 1), (39, .i2l, 1), (40, .invokestatic 68, 3), (43, .ifCond .ne 5, 3), (46, .iconst (-1), 1), (47, .ireturn, 1), (48, .iconst 1, 1), (49, .istore 5, 2), (51, .iconst 0, 1), (52, .istore 6, 2), (54, .iload 6, 2), (56, .iload_n 1, 1), (57, .if_icmp .ge 18, 3), (60, .iload 5, 2), (62, .aload_n 0, 1), (63, .getfield 107, 3), (66, .imul, 1), (67, .istore 5, 2), (69, .iinc 6 1, 3), (72, .goto (-18), 3), (75, .bipush (-4), 2), (77, .istore 6, 2), (79, .iconst 0, 1), (80, .istore 7, 2), (82, .iload 7, 2), (84, .iload 5, 2), (86, .if_icmp .ge 123, 3), (89, .aload_n 0, 1), (90, .iload 7, 2), (92, .iload_n 1, 1), (93, .invokevirtual 201, 3), (96, .ifCond .eq 107, 3), (99, .aload_n 0, 1), (100, .invokevirtual 190, 3), (103, .iconst 0, 1), (104, .istore 8, 2), (106, .iload 8, 2), (108, .iload_n 1, 1), (109, .if_icmp .ge 34, 3), (112, .aload_n 0, 1), (113, .getfield 32, 3), (116, .iconst 3, 1), (117, .iload 8, 2), (119, .invokestatic 120, 3), (122, .iconst 0, 1), (123, .iadd, 1), (124, .aload_n 0, 1), (125, .getfield 35, 3), (128, .aload_n 0, 1), (129, .getfield 48, 3), (132, .iload 8, 2), (134, .iaload, 1), (135, .iaload, 1), (136, .iastore, 1), (137, .iinc 8 1, 3), (140, .goto (-34), 3), (143, .aload_n 0, 1), (144, .iload_n 2, 1), (145, .iload_n 3, 1), (146, .invokevirtual 193, 3), (149, .istore 8, 2), (151, .iconst 0, 1), (152, .istore 9, 2), (154, .iload 9, 2), (156, .iload_n 1, 1), (157, .if_icmp .ge 30, 3), (160, .iload 8, 2), (162, .iload 6, 2), (164, .if_icmp .le 23, 3), (167, .aload_n 0, 1), (168, .getfield 51, 3), (171, .iload 9, 2), (173, .aload_n 0, 1), (174, .getfield 48, 3), (177, .iload 9, 2), (179, .iaload, 1), (180, .iastore, 1), (181, .iinc 9 1, 3), (184, .goto (-30), 3), (187, .iload 8, 2), (189, .iload 6, 2), (191, .if_icmp .le 8, 3), (194, .iload 8, 2), (196, .goto 5, 3), (199, .iload 6, 2), (201, .istore 6, 2), (203, .iinc 7 1, 3), (206, .goto (-124), 3), (209, .iload 6, 2), (211, .ifCond .lt 8, 3), (214, .iload 4, 2), (216, .ifCond .ge 8, 3), (219, .iload 6, 2), (221, .goto 10, 3), (224, .aload_n 0, 1), (225, .getfield 51, 3), (228, .iload 4, 2), (230, .iaload, 1), (231, .ireturn, 1)]
def M_X8_lies : kM := (yX8_lies, RX8, cX8_lies, tab_X8_lies, 10, (Option.some Jvm.ClassFile.FieldType.int), { frames := 5, cells := 0, slots := 0, locals := 120 })
theorem tb_X8_lies : ∀ q ∈ m_tab M_X8_lies, decode (m_cc M_X8_lies) q.1 = .ok q.2 := by decide +kernel
theorem g_X8_lies : k_g M_X8_lies 4 := ⟨kw_w 1118 (by decide +kernel) (by decide +kernel), kw_w 106 (by decide +kernel) (by decide +kernel), ⟨by decide +kernel, by decide +kernel, by decide +kernel⟩, rfl, rfl⟩
theorem gv_X8_lies : k_gv M_X8_lies 8 := ⟨kw_w 1116 (by decide +kernel) (by decide +kernel), kw_w 1117 (by decide +kernel) (by decide +kernel), ⟨_, rfl, rfl⟩, by decide⟩
def tab_X8_rake : List (Nat × Instr × Nat) := [(0, .iload_n 1, 1), (1, .iload_n 2, 1), (2, .invokestatic 187, 3), (5, .ifCond .ne 5, 3), (8, .iconst (-1), 1), (9, .ireturn, 1), (10, .aload_n 0, 1), (11, .invokevirtual 190, 3), (14, .aload_n 0, 1), (15, .iload_n 1, 1), (16, .iload_n 2, 1), (17, .invokevirtual 193, 3), (20, .istore_n 3, 1), (21, .iconst 0, 1), (22, .istore 4, 2), (24, .aload_n 0, 1), (25, .iload 4, 2), (27, .iload_n 1, 1), (28, .iload_n 2, 1), (29, .invokevirtual 204, 3), (32, .iload_n 3, 1), (33, .if_icmp .ge 9, 3), (36, .iinc 4 1, 3), (39, .goto (-15), 3), (42, .iload 4, 2), (44, .ireturn, 1)]
def M_X8_rake : kM := (yX8_rake, RX8, cX8_rake, tab_X8_rake, 5, (Option.some Jvm.ClassFile.FieldType.int), { frames := 6, cells := 0, slots := 0, locals := 145 })
theorem tb_X8_rake : ∀ q ∈ m_tab M_X8_rake, decode (m_cc M_X8_rake) q.1 = .ok q.2 := by decide +kernel
theorem g_X8_rake : k_g M_X8_rake 2 := ⟨kw_w 1126 (by decide +kernel) (by decide +kernel), kw_w 106 (by decide +kernel) (by decide +kernel), ⟨by decide +kernel, by decide +kernel, by decide +kernel⟩, rfl, rfl⟩
theorem gv_X8_rake : k_gv M_X8_rake 8 := ⟨kw_w 1124 (by decide +kernel) (by decide +kernel), kw_w 1125 (by decide +kernel) (by decide +kernel), ⟨_, rfl, rfl⟩, by decide⟩
def tab_X8_raked : List (Nat × Instr × Nat) := [(0, .aload_n 0, 1), (1, .invokevirtual 190, 3), (4, .aload_n 0, 1), (5, .iload_n 1, 1), (6, .iload_n 3, 1), (7, .invokevirtual 193, 3), (10, .istore 4, 2), (12, .iconst 0, 1), (13, .istore 5, 2), (15, .iload 5, 2), (17, .aload_n 0, 1), (18, .invokevirtual 104, 3), (21, .if_icmp .ge 33, 3), (24, .aload_n 0, 1), (25, .getfield 32, 3), (28, .sipush 630, 3), (31, .iload 5, 2), (33, .iadd, 1), (34, .iconst 0, 1), (35, .iastore, 1), (36, .aload_n 0, 1), (37, .getfield 32, 3), (40, .sipush 720, 3), (43, .iload 5, 2), (45, .iadd, 1), (46, .iconst 0, 1), (47, .iastore, 1), (48, .iinc 5 1, 3), (51, .goto (-36), 3), (54, .aload_n 0, 1), (55, .iload_n 2, 1), (56, .iload_n 1, 1), (57, .isub, 1), (58, .iload_n 3, 1), (59, .invokevirtual 193, 3), (62, .istore 4, 2), (64, .iload 4, 2), (66, .ireturn, 1)]
def M_X8_raked : kM := (yX8_raked, RX8, cX8_raked, tab_X8_raked, 6, (Option.some Jvm.ClassFile.FieldType.int), { frames := 5, cells := 0, slots := 0, locals := 120 })
theorem tb_X8_raked : ∀ q ∈ m_tab M_X8_raked, decode (m_cc M_X8_raked) q.1 = .ok q.2 := by decide +kernel
theorem g_X8_raked : k_g M_X8_raked 3 := ⟨kw_w 1130 (by decide +kernel) (by decide +kernel), kw_w 106 (by decide +kernel) (by decide +kernel), ⟨by decide +kernel, by decide +kernel, by decide +kernel⟩, rfl, rfl⟩
theorem gv_X8_raked : k_gv M_X8_raked 8 := ⟨kw_w 1129 (by decide +kernel) (by decide +kernel), kw_w 93 (by decide +kernel) (by decide +kernel), ⟨_, rfl, rfl⟩, by decide⟩
def tab_X8_black : List (Nat × Instr × Nat) := [(0, .aload_n 0, 1), (1, .iload_n 1, 1), (2, .invokevirtual 133, 3), (5, .ifCond .eq 11, 3), (8, .iload_n 2, 1), (9, .iload_n 3, 1), (10, .invokestatic 187, 3), (13, .ifCond .ne 5, 3), (16, .iconst (-1), 1), (17, .ireturn, 1), (18, .iconst 0, 1), (19, .istore 4, 2), (21, .iload 4, 2), (23, .iload_n 2, 1), (24, .if_icmp .gt 96, 3), (27, .aload_n 0, 1), (28, .invokevirtual 190, 3), (31, .aload_n 0, 1), (32, .iload 4, 2), (34, .iload_n 3, 1), (35, .invokevirtual 193, 3), (38, .istore 5, 2), (40, .iconst 0, 1), (41, .istore 6, 2), (43, .iload 6, 2), (45, .aload_n 0, 1), (46, .invokevirtual 104, 3), (49, .if_icmp .ge 21, 3), (52, .aload_n 0, 1), (53, .getfield 32, 3), (56, .sipush 720, 3), (59, .iload 6, 2), (61, .iadd, 1), (62, .iconst 1, 1), (63, .iastore, 1), (64, .iinc 6 1, 3), (67, .goto (-24), 3), (70, .aload_n 0, 1), (71, .iload_n 2, 1), (72, .iload 4, 2), (74, .isub, 1), (75, .iload_n 3, 1), (76, .invokevirtual 193, 3), (79, .istore 5, 2), (81, .iload 5, 2), (83, .ifCond .le 31, 3), (86, .aload_n 0, 1), (87, .iconst 3, 1), (88, .iload_n 1, 1), (89, .invokevirtual 136, 3), (92, .ifCond .ne 22, 3), (95, .aload_n 0, 1), (96, .getfield 32, 3), (99, .iconst 3, 1), (100, .iload_n 1, 1), (101, .invokestatic 120, 3), (104, .iconst 5, 1), (105, .iadd, 1), (106, .iaload, 1), (107, .iconst 2, 1), (108, .if_icmp .ne 6, 3), (111, .iload 4, 2), (113, .ireturn, 1), (114, .iinc 4 1, 3), (117, .goto (-96), 3), (120, .bipush (-4), 2), (122, .ireturn, 1)]
def M_X8_black : kM := (yX8_black, RX8, cX8_black, tab_X8_black, 7, (Option.some Jvm.ClassFile.FieldType.int), { frames := 5, cells := 0, slots := 0, locals := 120 })
theorem tb_X8_black : ∀ q ∈ m_tab M_X8_black, decode (m_cc M_X8_black) q.1 = .ok q.2 := by decide +kernel
theorem g_X8_black : k_g M_X8_black 3 := ⟨kw_w 1134 (by decide +kernel) (by decide +kernel), kw_w 106 (by decide +kernel) (by decide +kernel), ⟨by decide +kernel, by decide +kernel, by decide +kernel⟩, rfl, rfl⟩
theorem gv_X8_black : k_gv M_X8_black 8 := ⟨kw_w 1132 (by decide +kernel) (by decide +kernel), kw_w 1133 (by decide +kernel) (by decide +kernel), ⟨_, rfl, rfl⟩, by decide⟩
def tab_X8_wind : List (Nat × Instr × Nat) := [(0, .ldc2_w 208, 3), (3, .iload_n 1, 1), (4, .i2l, 1), (5, .lmul, 1), (6, .ldc2_w 210, 3), (9, .iload_n 2, 1), (10, .i2l, 1), (11, .lmul, 1), (12, .ladd, 1), (13, .lconst 1, 1), (14, .ladd, 1), (15, .lstore_n 3, 1), (16, .lload_n 3, 1), (17, .lload_n 3, 1), (18, .lmul, 1), (19, .ldc2_w 212, 3), (22, .lrem, 1), (23, .aload_n 0, 1), (24, .getfield 13, 3), (27, .bipush 7, 2), (29, .iaload, 1), (30, .iconst 1, 1), (31, .iadd, 1), (32, .i2l, 1), (33, .lrem, 1), (34, .l2i, 1), (35, .ireturn, 1)]
def M_X8_wind : kM := (yX8_wind, RX8, cX8_wind, tab_X8_wind, 5, (Option.some Jvm.ClassFile.FieldType.int), { frames := 0, cells := 0, slots := 0, locals := 0 })
theorem tb_X8_wind : ∀ q ∈ m_tab M_X8_wind, decode (m_cc M_X8_wind) q.1 = .ok q.2 := by decide +kernel
theorem g_X8_wind : k_g M_X8_wind 2 := ⟨kw_w 1150 (by decide +kernel) (by decide +kernel), kw_w 106 (by decide +kernel) (by decide +kernel), ⟨by decide +kernel, by decide +kernel, by decide +kernel⟩, rfl, rfl⟩
theorem gv_X8_wind : k_gv M_X8_wind 8 := ⟨kw_w 1149 (by decide +kernel) (by decide +kernel), kw_w 95 (by decide +kernel) (by decide +kernel), ⟨_, rfl, rfl⟩, by decide⟩
def tab_X8_evenings : List (Nat × Instr × Nat) := [(0, .aload_n 0, 1), (1, .invokevirtual 190, 3), (4, .iconst 0, 1), (5, .istore_n 3, 1), (6, .iload_n 3, 1), (7, .iload_n 2, 1), (8, .if_icmp .ge 20, 3), (11, .aload_n 0, 1), (12, .iconst 3, 1), (13, .aload_n 0, 1), (14, .iload_n 1, 1), (15, .iload_n 3, 1), (16, .invokevirtual 214, 3), (19, .invokevirtual 166, 3), (22, .iinc 3 1, 3), (25, .goto (-19), 3), (28, .aload_n 0, 1), (29, .iconst 0, 1), (30, .invokevirtual 179, 3), (33, .ireturn, 1)]
def M_X8_evenings : kM := (yX8_evenings, RX8, cX8_evenings, tab_X8_evenings, 4, (Option.some Jvm.ClassFile.FieldType.int), { frames := 4, cells := 0, slots := 0, locals := 97 })
theorem tb_X8_evenings : ∀ q ∈ m_tab M_X8_evenings, decode (m_cc M_X8_evenings) q.1 = .ok q.2 := by decide +kernel
theorem g_X8_evenings : k_g M_X8_evenings 2 := ⟨kw_w 1146 (by decide +kernel) (by decide +kernel), kw_w 106 (by decide +kernel) (by decide +kernel), ⟨by decide +kernel, by decide +kernel, by decide +kernel⟩, rfl, rfl⟩
theorem gv_X8_evenings : k_gv M_X8_evenings 8 := ⟨kw_w 1145 (by decide +kernel) (by decide +kernel), kw_w 94 (by decide +kernel) (by decide +kernel), ⟨_, rfl, rfl⟩, by decide⟩
def tab_X8_isEvening : List (Nat × Instr × Nat) := [(0, .iload_n 0, 1), (1, .i2l, 1), (2, .lconst 0, 1), (3, .ldc2_w 217, 3), (6, .invokestatic 68, 3), (9, .ifCond .eq 19, 3), (12, .iload_n 1, 1), (13, .i2l, 1), (14, .lconst 0, 1), (15, .ldc2_w 171, 3), (18, .invokestatic 68, 3), (21, .ifCond .eq 7, 3), (24, .iconst 1, 1), (25, .goto 4, 3), (28, .iconst 0, 1), (29, .ireturn, 1)]
def M_X8_isEvening : kM := (yX8_isEvening, RX8, cX8_isEvening, tab_X8_isEvening, 2, (Option.some Jvm.ClassFile.FieldType.boolean), { frames := 1, cells := 0, slots := 0, locals := 25 })
theorem tb_X8_isEvening : ∀ q ∈ m_tab M_X8_isEvening, decode (m_cc M_X8_isEvening) q.1 = .ok q.2 := by decide +kernel
theorem g_X8_isEvening : k_g M_X8_isEvening 2 := ⟨kw_w 1141 (by decide +kernel) (by decide +kernel), kw_w 106 (by decide +kernel) (by decide +kernel), ⟨by decide +kernel, by decide +kernel, by decide +kernel⟩, rfl, rfl⟩
theorem gs_X8_isEvening : Cond.static (m_y M_X8_isEvening) ∈ kw := kw_w 1140 (by decide +kernel) (by decide +kernel)
def tab_X8_evening : List (Nat × Instr × Nat) := [(0, .iload_n 1, 1), (1, .iload_n 2, 1), (2, .invokestatic 219, 3), (5, .ifCond .eq 12, 3), (8, .aload_n 0, 1), (9, .iload_n 1, 1), (10, .iload_n 2, 1), (11, .invokevirtual 222, 3), (14, .goto 4, 3), (17, .iconst (-1), 1), (18, .ireturn, 1)]
def M_X8_evening : kM := (yX8_evening, RX8, cX8_evening, tab_X8_evening, 3, (Option.some Jvm.ClassFile.FieldType.int), { frames := 5, cells := 0, slots := 0, locals := 120 })
theorem tb_X8_evening : ∀ q ∈ m_tab M_X8_evening, decode (m_cc M_X8_evening) q.1 = .ok q.2 := by decide +kernel
theorem g_X8_evening : k_g M_X8_evening 2 := ⟨kw_w 1138 (by decide +kernel) (by decide +kernel), kw_w 106 (by decide +kernel) (by decide +kernel), ⟨by decide +kernel, by decide +kernel, by decide +kernel⟩, rfl, rfl⟩
theorem gv_X8_evening : k_gv M_X8_evening 8 := ⟨kw_w 1136 (by decide +kernel) (by decide +kernel), kw_w 1137 (by decide +kernel) (by decide +kernel), ⟨_, rfl, rfl⟩, by decide⟩
def tab_X8_ten : List (Nat × Instr × Nat) := [(0, .iload_n 1, 1), (1, .iload_n 2, 1), (2, .invokestatic 219, 3), (5, .ifCond .eq 11, 3), (8, .aload_n 0, 1), (9, .iload_n 3, 1), (10, .invokevirtual 133, 3), (13, .ifCond .ne 5, 3), (16, .iconst (-1), 1), (17, .ireturn, 1), (18, .iconst 0, 1), (19, .istore 4, 2), (21, .iconst 0, 1), (22, .istore 5, 2), (24, .iload 5, 2), (26, .bipush 10, 2), (28, .if_icmp .ge 48, 3), (31, .aload_n 0, 1), (32, .iload_n 1, 1), (33, .iload 5, 2), (35, .iadd, 1), (36, .sipush 10000, 3), (39, .irem, 1), (40, .iload_n 2, 1), (41, .invokevirtual 222, 3), (44, .istore 6, 2), (46, .iload 4, 2), (48, .iload 6, 2), (50, .ifCond .le 16, 3), (53, .aload_n 0, 1), (54, .iconst 3, 1), (55, .iload_n 3, 1), (56, .invokevirtual 136, 3), (59, .ifCond .ne 7, 3), (62, .iconst 1, 1), (63, .goto 4, 3), (66, .iconst 0, 1), (67, .iadd, 1), (68, .istore 4, 2), (70, .iinc 5 1, 3), (73, .goto (-49), 3), (76, .iload 4, 2), (78, .ireturn, 1)]
def M_X8_ten : kM := (yX8_ten, RX8, cX8_ten, tab_X8_ten, 7, (Option.some Jvm.ClassFile.FieldType.int), { frames := 5, cells := 0, slots := 0, locals := 120 })
theorem tb_X8_ten : ∀ q ∈ m_tab M_X8_ten, decode (m_cc M_X8_ten) q.1 = .ok q.2 := by decide +kernel
theorem g_X8_ten : k_g M_X8_ten 3 := ⟨kw_w 1157 (by decide +kernel) (by decide +kernel), kw_w 106 (by decide +kernel) (by decide +kernel), ⟨by decide +kernel, by decide +kernel, by decide +kernel⟩, rfl, rfl⟩
theorem gv_X8_ten : k_gv M_X8_ten 8 := ⟨kw_w 1155 (by decide +kernel) (by decide +kernel), kw_w 1156 (by decide +kernel) (by decide +kernel), ⟨_, rfl, rfl⟩, by decide⟩
def tab_X8_sherd : List (Nat × Instr × Nat) := [(0, .aload_n 0, 1), (1, .iload_n 1, 1), (2, .invokevirtual 133, 3), (5, .ifCond .eq 40, 3), (8, .iload_n 2, 1), (9, .i2l, 1), (10, .lconst 0, 1), (11, .ldc2_w 127, 3), (14, .invokestatic 68, 3), (17, .ifCond .eq 28, 3), (20, .iload_n 3, 1), (21, .i2l, 1), (22, .lconst 0, 1), (23, .ldc2_w 225, 3), (26, .invokestatic 68, 3), (29, .ifCond .eq 16, 3), (32, .iload 4, 2), (34, .i2l, 1), (35, .lconst 0, 1), (36, .ldc2_w 185, 3), (39, .invokestatic 68, 3), (42, .ifCond .ne 5, 3), (45, .iconst (-1), 1), (46, .ireturn, 1), (47, .aload_n 0, 1), (48, .getfield 54, 3), (51, .iconst 0, 1), (52, .iconst 0, 1), (53, .iastore, 1), (54, .iconst 0, 1), (55, .istore 5, 2), (57, .iload 5, 2), (59, .bipush 100, 2), (61, .if_icmp .ge 93, 3), (64, .aload_n 0, 1), (65, .invokevirtual 190, 3), (68, .aload_n 0, 1), (69, .getfield 32, 3), (72, .iconst 3, 1), (73, .iload_n 1, 1), (74, .invokestatic 120, 3), (77, .iconst 2, 1), (78, .iadd, 1), (79, .iload 5, 2), (81, .iastore, 1), (82, .bipush 30, 2), (84, .istore 6, 2), (86, .iload 6, 2), (88, .sipush 240, 3), (91, .if_icmp .gt 57, 3), (94, .aload_n 0, 1), (95, .bipush 30, 2), (97, .iconst 0, 1), (98, .invokevirtual 193, 3), (101, .istore 7, 2), (103, .iload 7, 2), (105, .ifCond .lt 37, 3), (108, .aload_n 0, 1), (109, .iconst 3, 1), (110, .iload_n 1, 1), (111, .invokevirtual 136, 3), (114, .iload_n 2, 1), (115, .if_icmp .ne 27, 3), (118, .aload_n 0, 1), (119, .getfield 32, 3), (122, .iconst 3, 1), (123, .iload_n 1, 1), (124, .invokestatic 120, 3), (127, .iconst 5, 1), (128, .iadd, 1), (129, .iaload, 1), (130, .iload_n 3, 1), (131, .if_icmp .ne 11, 3), (134, .aload_n 0, 1), (135, .iload 5, 2), (137, .iload 6, 2), (139, .invokevirtual 227, 3), (142, .iinc 6 30, 3), (145, .goto (-59), 3), (148, .iinc 5 10, 3), (151, .goto (-94), 3), (154, .iload 4, 2), (156, .ifCond .eq 12, 3), (159, .aload_n 0, 1), (160, .getfield 54, 3), (163, .iconst 0, 1), (164, .iaload, 1), (165, .ifCond .le 13, 3), (168, .aload_n 0, 1), (169, .getfield 54, 3), (172, .iload 4, 2), (174, .iaload, 1), (175, .goto 5, 3), (178, .bipush (-4), 2), (180, .ireturn, 1)]
def M_X8_sherd : kM := (yX8_sherd, RX8, cX8_sherd, tab_X8_sherd, 8, (Option.some Jvm.ClassFile.FieldType.int), { frames := 5, cells := 0, slots := 0, locals := 120 })
theorem tb_X8_sherd : ∀ q ∈ m_tab M_X8_sherd, decode (m_cc M_X8_sherd) q.1 = .ok q.2 := by decide +kernel
theorem g_X8_sherd : k_g M_X8_sherd 4 := ⟨kw_w 1161 (by decide +kernel) (by decide +kernel), kw_w 106 (by decide +kernel) (by decide +kernel), ⟨by decide +kernel, by decide +kernel, by decide +kernel⟩, rfl, rfl⟩
theorem gv_X8_sherd : k_gv M_X8_sherd 8 := ⟨kw_w 1159 (by decide +kernel) (by decide +kernel), kw_w 1160 (by decide +kernel) (by decide +kernel), ⟨_, rfl, rfl⟩, by decide⟩
def tab_X8_found : List (Nat × Instr × Nat) := [(0, .aload_n 0, 1), (1, .getfield 54, 3), (4, .iconst 0, 1), (5, .iaload, 1), (6, .ifCond .ne 7, 3), (9, .iconst 1, 1), (10, .goto 4, 3), (13, .iconst 0, 1), (14, .istore_n 3, 1), (15, .aload_n 0, 1), (16, .getfield 54, 3), (19, .iconst 0, 1), (20, .dup2, 1), (21, .iaload, 1), (22, .iconst 1, 1), (23, .iadd, 1), (24, .iastore, 1), (25, .aload_n 0, 1), (26, .getfield 54, 3), (29, .iconst 1, 1), (30, .iload_n 3, 1), (31, .ifCond .ne 13, 3), (34, .iload_n 1, 1), (35, .aload_n 0, 1), (36, .getfield 54, 3), (39, .iconst 1, 1), (40, .iaload, 1), (41, .if_icmp .ge 7, 3), (44, .iload_n 1, 1), (45, .goto 9, 3), (48, .aload_n 0, 1), (49, .getfield 54, 3), (52, .iconst 1, 1), (53, .iaload, 1), (54, .iastore, 1), (55, .aload_n 0, 1), (56, .getfield 54, 3), (59, .iconst 2, 1), (60, .iload_n 3, 1), (61, .ifCond .ne 13, 3), (64, .iload_n 1, 1), (65, .aload_n 0, 1), (66, .getfield 54, 3), (69, .iconst 2, 1), (70, .iaload, 1), (71, .if_icmp .le 7, 3), (74, .iload_n 1, 1), (75, .goto 9, 3), (78, .aload_n 0, 1), (79, .getfield 54, 3), (82, .iconst 2, 1), (83, .iaload, 1), (84, .iastore, 1), (85, .aload_n 0, 1), (86, .getfield 54, 3), (89, .iconst 3, 1), (90, .iload_n 3, 1), (91, .ifCond .ne 13, 3), (94, .iload_n 2, 1), (95, .aload_n 0, 1), (96, .getfield 54, 3), (99, .iconst 3, 1), (100, .iaload, 1), (101, .if_icmp .ge 7, 3), (104, .iload_n 2, 1), (105, .goto 9, 3), (108, .aload_n 0, 1), (109, .getfield 54, 3), (112, .iconst 3, 1), (113, .iaload, 1), (114, .iastore, 1), (115, .aload_n 0, 1), (116, .getfield 54, 3), (119, .iconst 4, 1), (120, .iload_n 3, 1), (121, .ifCond .ne 13, 3), (124, .iload_n 2, 1), (125, .aload_n 0, 1), (126, .getfield 54, 3), (129, .iconst 4, 1), (130, .iaload, 1), (131, .if_icmp .le 7, 3), (134, .iload_n 2, 1), (135, .goto 9, 3), (138, .aload_n 0, 1), (139, .getfield 54, 3), (142, .iconst 4, 1), (143, .iaload, 1), (144, .iastore, 1), (145, .return_, 1)]
def M_X8_found : kM := (yX8_found, RX8, cX8_found, tab_X8_found, 4, (Option.none : Option Jvm.ClassFile.FieldType), { frames := 0, cells := 0, slots := 0, locals := 0 })
theorem tb_X8_found : ∀ q ∈ m_tab M_X8_found, decode (m_cc M_X8_found) q.1 = .ok q.2 := by decide +kernel
theorem g_X8_found : k_g M_X8_found 2 := ⟨kw_w 1166 (by decide +kernel) (by decide +kernel), kw_w 106 (by decide +kernel) (by decide +kernel), ⟨by decide +kernel, by decide +kernel, by decide +kernel⟩, rfl, rfl⟩
theorem gv_X8_found : k_gv M_X8_found 8 := ⟨kw_w 1165 (by decide +kernel) (by decide +kernel), kw_w 96 (by decide +kernel) (by decide +kernel), ⟨_, rfl, rfl⟩, by decide⟩
def tab_X8_keep : List (Nat × Instr × Nat) := [(0, .aload_n 0, 1), (1, .getfield 110, 3), (4, .iconst 2, 1), (5, .if_icmp .ne 6, 3), (8, .bipush (-3), 2), (10, .ireturn, 1), (11, .aload_n 0, 1), (12, .dup, 1), (13, .getfield 110, 3), (16, .iconst 1, 1), (17, .iadd, 1), (18, .putfield 110, 3), (21, .aload_n 0, 1), (22, .iconst 0, 1), (23, .aload_n 0, 1), (24, .getfield 110, 3), (27, .invokevirtual 182, 3), (30, .aload_n 0, 1), (31, .getfield 110, 3), (34, .ireturn, 1)]
def M_X8_keep : kM := (yX8_keep, RX8, cX8_keep, tab_X8_keep, 1, (Option.some Jvm.ClassFile.FieldType.int), { frames := 1, cells := 0, slots := 0, locals := 23 })
theorem tb_X8_keep : ∀ q ∈ m_tab M_X8_keep, decode (m_cc M_X8_keep) q.1 = .ok q.2 := by decide +kernel
theorem g_X8_keep : k_g M_X8_keep 0 := ⟨kw_w 1170 (by decide +kernel) (by decide +kernel), kw_w 106 (by decide +kernel) (by decide +kernel), ⟨by decide +kernel, by decide +kernel, by decide +kernel⟩, rfl, rfl⟩
theorem gv_X8_keep : k_gv M_X8_keep 8 := ⟨kw_w 1168 (by decide +kernel) (by decide +kernel), kw_w 1169 (by decide +kernel) (by decide +kernel), ⟨_, rfl, rfl⟩, by decide⟩
def tab_X8_back : List (Nat × Instr × Nat) := [(0, .aload_n 0, 1), (1, .getfield 110, 3), (4, .ifCond .ne 6, 3), (7, .bipush (-2), 2), (9, .ireturn, 1), (10, .aload_n 0, 1), (11, .aload_n 0, 1), (12, .getfield 110, 3), (15, .iconst 0, 1), (16, .invokevirtual 182, 3), (19, .aload_n 0, 1), (20, .dup, 1), (21, .getfield 110, 3), (24, .iconst 1, 1), (25, .isub, 1), (26, .putfield 110, 3), (29, .aload_n 0, 1), (30, .getfield 110, 3), (33, .ireturn, 1)]
def M_X8_back : kM := (yX8_back, RX8, cX8_back, tab_X8_back, 1, (Option.some Jvm.ClassFile.FieldType.int), { frames := 1, cells := 0, slots := 0, locals := 23 })
theorem tb_X8_back : ∀ q ∈ m_tab M_X8_back, decode (m_cc M_X8_back) q.1 = .ok q.2 := by decide +kernel
theorem g_X8_back : k_g M_X8_back 0 := ⟨kw_w 1174 (by decide +kernel) (by decide +kernel), kw_w 106 (by decide +kernel) (by decide +kernel), ⟨by decide +kernel, by decide +kernel, by decide +kernel⟩, rfl, rfl⟩
theorem gv_X8_back : k_gv M_X8_back 8 := ⟨kw_w 1172 (by decide +kernel) (by decide +kernel), kw_w 1173 (by decide +kernel) (by decide +kernel), ⟨_, rfl, rfl⟩, by decide⟩
def tab_X8_count : List (Nat × Instr × Nat) := [(0, .iload_n 1, 1), (1, .ifCond .ne 10, 3), (4, .aload_n 0, 1), (5, .invokevirtual 104, 3), (8, .goto 70, 3), (11, .iload_n 1, 1), (12, .iconst 1, 1), (13, .if_icmp .ne 12, 3), (16, .aload_n 0, 1), (17, .getfield 17, 3), (20, .iconst 0, 1), (21, .iaload, 1), (22, .goto 56, 3), (25, .iload_n 1, 1), (26, .iconst 2, 1), (27, .if_icmp .ne 10, 3), (30, .aload_n 0, 1), (31, .getfield 72, 3), (34, .goto 44, 3), (37, .iload_n 1, 1), (38, .iconst 3, 1), (39, .if_icmp .ne 14, 3), (42, .aload_n 0, 1), (43, .getfield 32, 3), (46, .sipush 198, 3), (49, .iaload, 1), (50, .goto 28, 3), (53, .iload_n 1, 1), (54, .iconst 4, 1), (55, .if_icmp .ne 10, 3), (58, .aload_n 0, 1), (59, .getfield 107, 3), (62, .goto 16, 3), (65, .iload_n 1, 1), (66, .iconst 5, 1), (67, .if_icmp .ne 10, 3), (70, .aload_n 0, 1), (71, .getfield 110, 3), (74, .goto 4, 3), (77, .iconst (-1), 1), (78, .ireturn, 1)]
def M_X8_count : kM := (yX8_count, RX8, cX8_count, tab_X8_count, 2, (Option.some Jvm.ClassFile.FieldType.int), { frames := 1, cells := 0, slots := 0, locals := 20 })
theorem tb_X8_count : ∀ q ∈ m_tab M_X8_count, decode (m_cc M_X8_count) q.1 = .ok q.2 := by decide +kernel
theorem g_X8_count : k_g M_X8_count 1 := ⟨kw_w 1178 (by decide +kernel) (by decide +kernel), kw_w 106 (by decide +kernel) (by decide +kernel), ⟨by decide +kernel, by decide +kernel, by decide +kernel⟩, rfl, rfl⟩
theorem gv_X8_count : k_gv M_X8_count 8 := ⟨kw_w 1176 (by decide +kernel) (by decide +kernel), kw_w 1177 (by decide +kernel) (by decide +kernel), ⟨_, rfl, rfl⟩, by decide⟩
def tab_J7_fill_53178 : List (Nat × Instr × Nat) := [(0, .iconst 0, 1), (1, .istore_n 2, 1), (2, .aload_n 0, 1), (3, .arraylength, 1), (4, .istore_n 3, 1), (5, .iload_n 2, 1), (6, .iload_n 3, 1), (7, .if_icmp .ge 13, 3), (10, .aload_n 0, 1), (11, .iload_n 2, 1), (12, .iload_n 1, 1), (13, .iastore, 1), (14, .iinc 2 1, 3), (17, .goto (-12), 3), (20, .return_, 1)]
def M_J7_fill_53178 : kM := (yJ7_fill_53178, RJ7, cJ7_fill_53178, tab_J7_fill_53178, 4, (Option.none : Option Jvm.ClassFile.FieldType), { frames := 0, cells := 0, slots := 0, locals := 0 })
theorem tb_J7_fill_53178 : ∀ q ∈ m_tab M_J7_fill_53178, decode (m_cc M_J7_fill_53178) q.1 = .ok q.2 := by decide +kernel
theorem g_J7_fill_53178 : k_g M_J7_fill_53178 2 := ⟨kw_w 560 (by decide +kernel) (by decide +kernel), kw_w 108 (by decide +kernel) (by decide +kernel), ⟨by decide +kernel, by decide +kernel, by decide +kernel⟩, rfl, rfl⟩
theorem gs_J7_fill_53178 : Cond.static (m_y M_J7_fill_53178) ∈ kw := kw_w 559 (by decide +kernel) (by decide +kernel)
theorem lk_RX5_18 : Cond.methodLink RX5 18 yX5_setDefaults ∈ kw := kw_w 129 (by decide +kernel) (by decide +kernel)
theorem lk_RX5_28 : Cond.methodLink RX5 28 yX5_setKind ∈ kw := kw_w 133 (by decide +kernel) (by decide +kernel)
theorem lk_RX3_42 : Cond.methodLink RX3 42 yX3_forget ∈ kw := kw_w 275 (by decide +kernel) (by decide +kernel)
theorem lk_RL_15 : Cond.methodLink RL 15 yX7_write ∈ kw := kw_w 422 (by decide +kernel) (by decide +kernel)
theorem lk_RL_20 : Cond.methodLink RL 20 yX7_wipe ∈ kw := kw_w 426 (by decide +kernel) (by decide +kernel)
theorem lk_RL_25 : Cond.methodLink RL 25 yX7_fault ∈ kw := kw_w 430 (by decide +kernel) (by decide +kernel)
theorem lk_RX3_55 : Cond.methodLink RX3 55 yX3_readNumbers ∈ kw := kw_w 438 (by decide +kernel) (by decide +kernel)
theorem lk_RX3_63 : Cond.methodLink RX3 63 yX3_boundsOf ∈ kw := kw_w 442 (by decide +kernel) (by decide +kernel)
theorem lk_RX3_67 : Cond.methodLink RX3 67 yX3_countFigures ∈ kw := kw_w 465 (by decide +kernel) (by decide +kernel)
theorem lk_RX3_70 : Cond.methodLink RX3 70 yX3_numberOf ∈ kw := kw_w 468 (by decide +kernel) (by decide +kernel)
theorem lk_RX3_59 : Cond.methodLink RX3 59 yX3_takeItem ∈ kw := kw_w 471 (by decide +kernel) (by decide +kernel)
theorem lk_RX3_109 : Cond.methodLink RX3 109 yX3_takeCell ∈ kw := kw_w 475 (by decide +kernel) (by decide +kernel)
theorem lk_RX3_119 : Cond.methodLink RX3 119 yX3_takePot ∈ kw := kw_w 479 (by decide +kernel) (by decide +kernel)
theorem lk_RL_29 : Cond.methodLink RL 29 yX7_lay ∈ kw := kw_w 488 (by decide +kernel) (by decide +kernel)
theorem lk_RL_33 : Cond.methodLink RL 33 yX7_cell ∈ kw := kw_w 504 (by decide +kernel) (by decide +kernel)
theorem lk_RX7_90 : Cond.methodLink RX7 90 yX7_isCell ∈ kw := kw_w 508 (by decide +kernel) (by decide +kernel)
theorem lk_RX7_113 : Cond.methodLink RX7 113 yX7_oneIf ∈ kw := kw_w 512 (by decide +kernel) (by decide +kernel)
theorem lk_RL_38 : Cond.methodLink RL 38 yX7_pot ∈ kw := kw_w 519 (by decide +kernel) (by decide +kernel)
theorem lk_RX7_130 : Cond.methodLink RX7 130 yX7_isPot ∈ kw := kw_w 523 (by decide +kernel) (by decide +kernel)
theorem lk_RL_42 : Cond.methodLink RL 42 yX7_minute ∈ kw := kw_w 531 (by decide +kernel) (by decide +kernel)
theorem lk_RX7_152 : Cond.methodLink RX7 152 yX7_isWind ∈ kw := kw_w 535 (by decide +kernel) (by decide +kernel)
theorem lk_RX1_35 : Cond.methodLink RX1 35 yX1_burnFuel ∈ kw := kw_w 546 (by decide +kernel) (by decide +kernel)
theorem lk_RX1_39 : Cond.methodLink RX1 39 yX1_spread ∈ kw := kw_w 554 (by decide +kernel) (by decide +kernel)
theorem lk_RX1_64 : Cond.methodLink RX1 64 yJ7_fill_53178 ∈ kw := kw_w 558 (by decide +kernel) (by decide +kernel)
theorem lk_RX1_77 : Cond.methodLink RX1 77 yX1_flow ∈ kw := kw_w 561 (by decide +kernel) (by decide +kernel)
theorem lk_RX1_42 : Cond.methodLink RX1 42 yX1_cool ∈ kw := kw_w 565 (by decide +kernel) (by decide +kernel)
theorem lk_RX0_15 : Cond.methodLink RX0 15 yX0_place ∈ kw := kw_w 577 (by decide +kernel) (by decide +kernel)
theorem lk_RX4_56 : Cond.methodLink RX4 56 yX4_warm ∈ kw := kw_w 589 (by decide +kernel) (by decide +kernel)
theorem lk_RX4_77 : Cond.methodLink RX4 77 yX4_isBursting ∈ kw := kw_w 593 (by decide +kernel) (by decide +kernel)
theorem lk_RX4_84 : Cond.methodLink RX4 84 yX4_steamAndHarden ∈ kw := kw_w 597 (by decide +kernel) (by decide +kernel)
theorem lk_RX4_88 : Cond.methodLink RX4 88 yX4_loseWater ∈ kw := kw_w 601 (by decide +kernel) (by decide +kernel)
theorem lk_RX4_60 : Cond.methodLink RX4 60 yX4_strike ∈ kw := kw_w 606 (by decide +kernel) (by decide +kernel)
theorem lk_RX4_103 : Cond.methodLink RX4 103 yX4_isBesideBurst ∈ kw := kw_w 610 (by decide +kernel) (by decide +kernel)
theorem lk_RX4_68 : Cond.methodLink RX4 68 yX4_takeColour ∈ kw := kw_w 622 (by decide +kernel) (by decide +kernel)
theorem lk_RL_47 : Cond.methodLink RL 47 yX7_fuel ∈ kw := kw_w 630 (by decide +kernel) (by decide +kernel)
theorem lk_RL_51 : Cond.methodLink RL 51 yX7_cover ∈ kw := kw_w 634 (by decide +kernel) (by decide +kernel)
theorem lk_RL_56 : Cond.methodLink RL 56 yX7_light ∈ kw := kw_w 638 (by decide +kernel) (by decide +kernel)
theorem lk_RL_60 : Cond.methodLink RL 60 yX7_take ∈ kw := kw_w 642 (by decide +kernel) (by decide +kernel)
theorem lk_RL_64 : Cond.methodLink RL 64 yX7_dry ∈ kw := kw_w 646 (by decide +kernel) (by decide +kernel)
theorem lk_RL_68 : Cond.methodLink RL 68 yX7_run ∈ kw := kw_w 658 (by decide +kernel) (by decide +kernel)
theorem lk_RX7_172 : Cond.methodLink RX7 172 yX7_isRun ∈ kw := kw_w 662 (by decide +kernel) (by decide +kernel)
theorem lk_RX7_239 : Cond.methodLink RX7 239 yX7_isLength ∈ kw := kw_w 665 (by decide +kernel) (by decide +kernel)
theorem lk_RX7_176 : Cond.methodLink RX7 176 yX7_tryRun ∈ kw := kw_w 668 (by decide +kernel) (by decide +kernel)
theorem lk_RX7_191 : Cond.methodLink RX7 191 yX7_burnAfresh ∈ kw := kw_w 672 (by decide +kernel) (by decide +kernel)
theorem lk_RX1_31 : Cond.methodLink RX1 31 yX1_copyCell ∈ kw := kw_w 680 (by decide +kernel) (by decide +kernel)
theorem lk_RX7_275 : Cond.methodLink RX7 275 yX7_burnFire ∈ kw := kw_w 681 (by decide +kernel) (by decide +kernel)
theorem lk_RX7_204 : Cond.methodLink RX7 204 yX7_passPots ∈ kw := kw_w 688 (by decide +kernel) (by decide +kernel)
theorem lk_RX4_110 : Cond.methodLink RX4 110 yX4_lossOf ∈ kw := kw_w 697 (by decide +kernel) (by decide +kernel)
theorem lk_RL_73 : Cond.methodLink RL 73 yX7_of ∈ kw := kw_w 702 (by decide +kernel) (by decide +kernel)
theorem lk_RX7_187 : Cond.methodLink RX7 187 yX7_greatestHeat ∈ kw := kw_w 706 (by decide +kernel) (by decide +kernel)
theorem lk_RL_78 : Cond.methodLink RL 78 yX7_drying ∈ kw := kw_w 714 (by decide +kernel) (by decide +kernel)
theorem lk_RX7_198 : Cond.methodLink RX7 198 yX7_anyBursts ∈ kw := kw_w 718 (by decide +kernel) (by decide +kernel)
theorem lk_RL_82 : Cond.methodLink RL 82 yX7_grit ∈ kw := kw_w 722 (by decide +kernel) (by decide +kernel)
theorem lk_RL_86 : Cond.methodLink RL 86 yX7_enough ∈ kw := kw_w 726 (by decide +kernel) (by decide +kernel)
theorem lk_RX7_213 : Cond.methodLink RX7 213 yX7_goOn ∈ kw := kw_w 740 (by decide +kernel) (by decide +kernel)
theorem lk_RL_90 : Cond.methodLink RL 90 yX7_spot ∈ kw := kw_w 744 (by decide +kernel) (by decide +kernel)
theorem lk_RL_94 : Cond.methodLink RL 94 yX7_noSpots ∈ kw := kw_w 748 (by decide +kernel) (by decide +kernel)
theorem lk_RL_98 : Cond.methodLink RL 98 yX7_lies ∈ kw := kw_w 752 (by decide +kernel) (by decide +kernel)
theorem lk_RX7_220 : Cond.methodLink RX7 220 yX7_countWays ∈ kw := kw_w 756 (by decide +kernel) (by decide +kernel)
theorem lk_RX7_223 : Cond.methodLink RX7 223 yX7_layWay ∈ kw := kw_w 760 (by decide +kernel) (by decide +kernel)
theorem lk_RX7_226 : Cond.methodLink RX7 226 yX7_spotInWay ∈ kw := kw_w 764 (by decide +kernel) (by decide +kernel)
theorem lk_RL_102 : Cond.methodLink RL 102 yX7_rake ∈ kw := kw_w 769 (by decide +kernel) (by decide +kernel)
theorem lk_RL_106 : Cond.methodLink RL 106 yX7_black ∈ kw := kw_w 777 (by decide +kernel) (by decide +kernel)
theorem lk_RL_110 : Cond.methodLink RL 110 yX7_evening ∈ kw := kw_w 785 (by decide +kernel) (by decide +kernel)
theorem lk_RX7_236 : Cond.methodLink RX7 236 yX7_isDraw ∈ kw := kw_w 789 (by decide +kernel) (by decide +kernel)
theorem lk_RX7_242 : Cond.methodLink RX7 242 yX7_tryEvening ∈ kw := kw_w 792 (by decide +kernel) (by decide +kernel)
theorem lk_RL_114 : Cond.methodLink RL 114 yX7_ten ∈ kw := kw_w 803 (by decide +kernel) (by decide +kernel)
theorem lk_RL_118 : Cond.methodLink RL 118 yX7_sherd ∈ kw := kw_w 807 (by decide +kernel) (by decide +kernel)
theorem lk_RL_122 : Cond.methodLink RL 122 yX7_keep ∈ kw := kw_w 825 (by decide +kernel) (by decide +kernel)
theorem lk_RX7_254 : Cond.methodLink RX7 254 yX7_keptAt ∈ kw := kw_w 829 (by decide +kernel) (by decide +kernel)
theorem lk_RL_126 : Cond.methodLink RL 126 yX7_back ∈ kw := kw_w 833 (by decide +kernel) (by decide +kernel)
theorem lk_RL_130 : Cond.methodLink RL 130 yX7_count ∈ kw := kw_w 837 (by decide +kernel) (by decide +kernel)
theorem lk_RX8_60 : Cond.methodLink RX8 60 yX8_begins ∈ kw := kw_w 847 (by decide +kernel) (by decide +kernel)
theorem lk_RX8_63 : Cond.methodLink RX8 63 yX8_takes ∈ kw := kw_w 851 (by decide +kernel) (by decide +kernel)
theorem lk_RX8_104 : Cond.methodLink RX8 104 yX8_cells ∈ kw := kw_w 855 (by decide +kernel) (by decide +kernel)
theorem lk_RL_19 : Cond.methodLink RL 19 yX8_write ∈ kw := kw_w 920 (by decide +kernel) (by decide +kernel)
theorem lk_RX8_68 : Cond.methodLink RX8 68 yX8_in ∈ kw := kw_w 925 (by decide +kernel) (by decide +kernel)
theorem lk_RL_24 : Cond.methodLink RL 24 yX8_wipe ∈ kw := kw_w 928 (by decide +kernel) (by decide +kernel)
theorem lk_RL_28 : Cond.methodLink RL 28 yX8_fault ∈ kw := kw_w 932 (by decide +kernel) (by decide +kernel)
theorem lk_RX8_113 : Cond.methodLink RX8 113 yX8_isItem ∈ kw := kw_w 936 (by decide +kernel) (by decide +kernel)
theorem lk_RX8_85 : Cond.methodLink RX8 85 yX8_parts ∈ kw := kw_w 940 (by decide +kernel) (by decide +kernel)
theorem lk_RX8_89 : Cond.methodLink RX8 89 yX8_number ∈ kw := kw_w 943 (by decide +kernel) (by decide +kernel)
theorem lk_RX8_93 : Cond.methodLink RX8 93 yX8_isGood ∈ kw := kw_w 950 (by decide +kernel) (by decide +kernel)
theorem lk_RX8_97 : Cond.methodLink RX8 97 yX8_isIn ∈ kw := kw_w 954 (by decide +kernel) (by decide +kernel)
theorem lk_RX8_101 : Cond.methodLink RX8 101 yX8_isPlaced ∈ kw := kw_w 958 (by decide +kernel) (by decide +kernel)
theorem lk_RL_32 : Cond.methodLink RL 32 yX8_lay ∈ kw := kw_w 962 (by decide +kernel) (by decide +kernel)
theorem lk_RX8_117 : Cond.methodLink RX8 117 yX8_fault ∈ kw := kw_w 966 (by decide +kernel) (by decide +kernel)
theorem lk_RL_37 : Cond.methodLink RL 37 yX8_cell ∈ kw := kw_w 967 (by decide +kernel) (by decide +kernel)
theorem lk_RX8_124 : Cond.methodLink RX8 124 yX8_isCell ∈ kw := kw_w 971 (by decide +kernel) (by decide +kernel)
theorem lk_RX8_129 : Cond.methodLink RX8 129 yX8_isWhole ∈ kw := kw_w 976 (by decide +kernel) (by decide +kernel)
theorem lk_RX8_120 : Cond.methodLink RX8 120 yX8_potAt ∈ kw := kw_w 980 (by decide +kernel) (by decide +kernel)
theorem lk_RL_41 : Cond.methodLink RL 41 yX8_pot ∈ kw := kw_w 983 (by decide +kernel) (by decide +kernel)
theorem lk_RX8_133 : Cond.methodLink RX8 133 yX8_isPot ∈ kw := kw_w 987 (by decide +kernel) (by decide +kernel)
theorem lk_RX8_136 : Cond.methodLink RX8 136 yX8_lossOf ∈ kw := kw_w 991 (by decide +kernel) (by decide +kernel)
theorem lk_RL_46 : Cond.methodLink RL 46 yX8_minute ∈ kw := kw_w 995 (by decide +kernel) (by decide +kernel)
theorem lk_RX8_163 : Cond.methodLink RX8 163 yX8_isWind ∈ kw := kw_w 999 (by decide +kernel) (by decide +kernel)
theorem lk_RX8_166 : Cond.methodLink RX8 166 yX8_goes ∈ kw := kw_w 1003 (by decide +kernel) (by decide +kernel)
theorem lk_RX8_144 : Cond.methodLink RX8 144 yX8_burns ∈ kw := kw_w 1007 (by decide +kernel) (by decide +kernel)
theorem lk_RX8_148 : Cond.methodLink RX8 148 yX8_spreads ∈ kw := kw_w 1011 (by decide +kernel) (by decide +kernel)
theorem lk_RX8_152 : Cond.methodLink RX8 152 yX8_fires ∈ kw := kw_w 1015 (by decide +kernel) (by decide +kernel)
theorem lk_RX8_155 : Cond.methodLink RX8 155 yX8_strikes ∈ kw := kw_w 1019 (by decide +kernel) (by decide +kernel)
theorem lk_RX8_141 : Cond.methodLink RX8 141 yX8_isNear ∈ kw := kw_w 1023 (by decide +kernel) (by decide +kernel)
theorem lk_RX8_158 : Cond.methodLink RX8 158 yX8_colours ∈ kw := kw_w 1028 (by decide +kernel) (by decide +kernel)
theorem lk_RL_50 : Cond.methodLink RL 50 yX8_fuel ∈ kw := kw_w 1032 (by decide +kernel) (by decide +kernel)
theorem lk_RL_55 : Cond.methodLink RL 55 yX8_cover ∈ kw := kw_w 1037 (by decide +kernel) (by decide +kernel)
theorem lk_RL_59 : Cond.methodLink RL 59 yX8_light ∈ kw := kw_w 1041 (by decide +kernel) (by decide +kernel)
theorem lk_RL_63 : Cond.methodLink RL 63 yX8_take ∈ kw := kw_w 1045 (by decide +kernel) (by decide +kernel)
theorem lk_RL_67 : Cond.methodLink RL 67 yX8_dry ∈ kw := kw_w 1049 (by decide +kernel) (by decide +kernel)
theorem lk_RX8_173 : Cond.methodLink RX8 173 yX8_dries ∈ kw := kw_w 1054 (by decide +kernel) (by decide +kernel)
theorem lk_RL_72 : Cond.methodLink RL 72 yX8_run ∈ kw := kw_w 1058 (by decide +kernel) (by decide +kernel)
theorem lk_RX8_187 : Cond.methodLink RX8 187 yX8_isRun ∈ kw := kw_w 1062 (by decide +kernel) (by decide +kernel)
theorem lk_RX8_190 : Cond.methodLink RX8 190 yX8_tries ∈ kw := kw_w 1065 (by decide +kernel) (by decide +kernel)
theorem lk_RX8_182 : Cond.methodLink RX8 182 yX8_copies ∈ kw := kw_w 1069 (by decide +kernel) (by decide +kernel)
theorem lk_RX8_176 : Cond.methodLink RX8 176 yX8_looks ∈ kw := kw_w 1073 (by decide +kernel) (by decide +kernel)
theorem lk_RX8_193 : Cond.methodLink RX8 193 yX8_runs ∈ kw := kw_w 1077 (by decide +kernel) (by decide +kernel)
theorem lk_RX8_179 : Cond.methodLink RX8 179 yX8_good ∈ kw := kw_w 1081 (by decide +kernel) (by decide +kernel)
theorem lk_RX8_196 : Cond.methodLink RX8 196 yX8_lossed ∈ kw := kw_w 1085 (by decide +kernel) (by decide +kernel)
theorem lk_RL_77 : Cond.methodLink RL 77 yX8_of ∈ kw := kw_w 1090 (by decide +kernel) (by decide +kernel)
theorem lk_RL_81 : Cond.methodLink RL 81 yX8_drying ∈ kw := kw_w 1094 (by decide +kernel) (by decide +kernel)
theorem lk_RL_85 : Cond.methodLink RL 85 yX8_grit ∈ kw := kw_w 1098 (by decide +kernel) (by decide +kernel)
theorem lk_RL_89 : Cond.methodLink RL 89 yX8_enough ∈ kw := kw_w 1102 (by decide +kernel) (by decide +kernel)
theorem lk_RL_93 : Cond.methodLink RL 93 yX8_spot ∈ kw := kw_w 1107 (by decide +kernel) (by decide +kernel)
theorem lk_RL_97 : Cond.methodLink RL 97 yX8_noSpots ∈ kw := kw_w 1111 (by decide +kernel) (by decide +kernel)
theorem lk_RL_101 : Cond.methodLink RL 101 yX8_lies ∈ kw := kw_w 1115 (by decide +kernel) (by decide +kernel)
theorem lk_RX8_201 : Cond.methodLink RX8 201 yX8_isWay ∈ kw := kw_w 1119 (by decide +kernel) (by decide +kernel)
theorem lk_RL_105 : Cond.methodLink RL 105 yX8_rake ∈ kw := kw_w 1123 (by decide +kernel) (by decide +kernel)
theorem lk_RX8_204 : Cond.methodLink RX8 204 yX8_raked ∈ kw := kw_w 1127 (by decide +kernel) (by decide +kernel)
theorem lk_RL_109 : Cond.methodLink RL 109 yX8_black ∈ kw := kw_w 1131 (by decide +kernel) (by decide +kernel)
theorem lk_RL_113 : Cond.methodLink RL 113 yX8_evening ∈ kw := kw_w 1135 (by decide +kernel) (by decide +kernel)
theorem lk_RX8_219 : Cond.methodLink RX8 219 yX8_isEvening ∈ kw := kw_w 1139 (by decide +kernel) (by decide +kernel)
theorem lk_RX8_222 : Cond.methodLink RX8 222 yX8_evenings ∈ kw := kw_w 1143 (by decide +kernel) (by decide +kernel)
theorem lk_RX8_214 : Cond.methodLink RX8 214 yX8_wind ∈ kw := kw_w 1147 (by decide +kernel) (by decide +kernel)
theorem lk_RL_117 : Cond.methodLink RL 117 yX8_ten ∈ kw := kw_w 1154 (by decide +kernel) (by decide +kernel)
theorem lk_RL_121 : Cond.methodLink RL 121 yX8_sherd ∈ kw := kw_w 1158 (by decide +kernel) (by decide +kernel)
theorem lk_RX8_227 : Cond.methodLink RX8 227 yX8_found ∈ kw := kw_w 1163 (by decide +kernel) (by decide +kernel)
theorem lk_RL_125 : Cond.methodLink RL 125 yX8_keep ∈ kw := kw_w 1167 (by decide +kernel) (by decide +kernel)
theorem lk_RL_129 : Cond.methodLink RL 129 yX8_back ∈ kw := kw_w 1171 (by decide +kernel) (by decide +kernel)
theorem lk_RL_133 : Cond.methodLink RL 133 yX8_count ∈ kw := kw_w 1175 (by decide +kernel) (by decide +kernel)
theorem nk_RX3_20 : (RX3, 20, yX1_init, RX7) ∈ kw_nest := List.mem_of_getElem? (i := 0) rfl
theorem nk_RX3_27 : (RX3, 27, yX4_init, RX7) ∈ kw_nest := List.mem_of_getElem? (i := 1) rfl
theorem nk_RX3_45 : (RX3, 45, yX5_setDefaults, RX7) ∈ kw_nest := List.mem_of_getElem? (i := 2) rfl
theorem nk_RX3_48 : (RX3, 48, yX1_clear, RX7) ∈ kw_nest := List.mem_of_getElem? (i := 3) rfl
theorem nk_RX7_33 : (RX7, 33, yX2_init, RX7) ∈ kw_nest := List.mem_of_getElem? (i := 4) rfl
theorem nk_RX2_9 : (RX2, 9, yX1_init, RX7) ∈ kw_nest := List.mem_of_getElem? (i := 5) rfl
theorem nk_RX2_18 : (RX2, 18, yX4_init, RX7) ∈ kw_nest := List.mem_of_getElem? (i := 6) rfl
theorem nk_RX7_62 : (RX7, 62, yX0_init, RX7) ∈ kw_nest := List.mem_of_getElem? (i := 7) rfl
theorem nk_RX7_69 : (RX7, 69, yX6_init, RX7) ∈ kw_nest := List.mem_of_getElem? (i := 8) rfl
theorem nk_RX7_74 : (RX7, 74, yX3_layOn, RX7) ∈ kw_nest := List.mem_of_getElem? (i := 9) rfl
theorem nk_RX3_161 : (RX3, 161, yX5_copyFrom, RX7) ∈ kw_nest := List.mem_of_getElem? (i := 10) rfl
theorem nk_RX3_170 : (RX3, 170, yX1_copyCell, RX7) ∈ kw_nest := List.mem_of_getElem? (i := 11) rfl
theorem nk_RX3_175 : (RX3, 175, yX4_copyFrom, RX7) ∈ kw_nest := List.mem_of_getElem? (i := 12) rfl
theorem nk_RX7_78 : (RX7, 78, yX3_read, RX7) ∈ kw_nest := List.mem_of_getElem? (i := 13) rfl
theorem nk_RX3_151 : (RX3, 151, yX4_add, RX7) ∈ kw_nest := List.mem_of_getElem? (i := 14) rfl
theorem nk_RX3_123 : (RX3, 123, yX5_setKind, RX7) ∈ kw_nest := List.mem_of_getElem? (i := 15) rfl
theorem nk_RX7_82 : (RX7, 82, yX3_isLayable, RX7) ∈ kw_nest := List.mem_of_getElem? (i := 16) rfl
theorem nk_RX3_158 : (RX3, 158, yX4_anyTwoInOne, RX7) ∈ kw_nest := List.mem_of_getElem? (i := 17) rfl
theorem nk_RX7_86 : (RX7, 86, yX5_cells, RX7) ∈ kw_nest := List.mem_of_getElem? (i := 18) rfl
theorem nk_RX7_124 : (RX7, 124, yX4_wholeIn, RX7) ∈ kw_nest := List.mem_of_getElem? (i := 19) rfl
theorem nk_RX7_145 : (RX7, 145, yX4_lossOf, RX7) ∈ kw_nest := List.mem_of_getElem? (i := 20) rfl
theorem nk_RX7_155 : (RX7, 155, yX2_pass, RX7) ∈ kw_nest := List.mem_of_getElem? (i := 21) rfl
theorem nk_RX2_34 : (RX2, 34, yX1_burn, RX7) ∈ kw_nest := List.mem_of_getElem? (i := 22) rfl
theorem nk_RX1_46 : (RX1, 46, yX5_cells, RX7) ∈ kw_nest := List.mem_of_getElem? (i := 23) rfl
theorem nk_RX2_38 : (RX2, 38, yX1_tell, RX7) ∈ kw_nest := List.mem_of_getElem? (i := 24) rfl
theorem nk_RX1_84 : (RX1, 84, yX0_put, RX7) ∈ kw_nest := List.mem_of_getElem? (i := 25) rfl
theorem nk_RX0_19 : (RX0, 19, yX7_oneIf, RX7) ∈ kw_nest := List.mem_of_getElem? (i := 26) rfl
theorem nk_RX2_42 : (RX2, 42, yX4_feel, RX7) ∈ kw_nest := List.mem_of_getElem? (i := 27) rfl
theorem nk_RX4_50 : (RX4, 50, yX0_heatAt, RX7) ∈ kw_nest := List.mem_of_getElem? (i := 28) rfl
theorem nk_RX4_107 : (RX4, 107, yX5_areBeside, RX7) ∈ kw_nest := List.mem_of_getElem? (i := 29) rfl
theorem nk_RX4_64 : (RX4, 64, yX0_blackensAt, RX7) ∈ kw_nest := List.mem_of_getElem? (i := 30) rfl
theorem nk_RX7_159 : (RX7, 159, yX4_countWhole, RX7) ∈ kw_nest := List.mem_of_getElem? (i := 31) rfl
theorem nk_RX7_165 : (RX7, 165, yX4_dryFor, RX7) ∈ kw_nest := List.mem_of_getElem? (i := 32) rfl
theorem nk_RX7_169 : (RX7, 169, yX4_allWater, RX7) ∈ kw_nest := List.mem_of_getElem? (i := 33) rfl
theorem nk_RX7_272 : (RX7, 272, yX1_copyFrom, RX7) ∈ kw_nest := List.mem_of_getElem? (i := 34) rfl
theorem nk_RX7_264 : (RX7, 264, yX1_burn, RX7) ∈ kw_nest := List.mem_of_getElem? (i := 35) rfl
theorem nk_RX7_268 : (RX7, 268, yX1_tell, RX7) ∈ kw_nest := List.mem_of_getElem? (i := 36) rfl
theorem nk_RX7_194 : (RX7, 194, yX4_copyFrom, RX7) ∈ kw_nest := List.mem_of_getElem? (i := 37) rfl
theorem nk_RX7_278 : (RX7, 278, yX4_feel, RX7) ∈ kw_nest := List.mem_of_getElem? (i := 38) rfl
theorem nk_RX7_180 : (RX7, 180, yX4_countGood, RX7) ∈ kw_nest := List.mem_of_getElem? (i := 39) rfl
theorem nk_RX7_184 : (RX7, 184, yX4_countLost, RX7) ∈ kw_nest := List.mem_of_getElem? (i := 40) rfl
theorem nk_RX7_282 : (RX7, 282, yX0_heatAt, RX7) ∈ kw_nest := List.mem_of_getElem? (i := 41) rfl
theorem nk_RX7_207 : (RX7, 207, yX2_copyFrom, RX7) ∈ kw_nest := List.mem_of_getElem? (i := 42) rfl
theorem nk_RX2_27 : (RX2, 27, yX1_copyFrom, RX7) ∈ kw_nest := List.mem_of_getElem? (i := 43) rfl
theorem nk_RX2_31 : (RX2, 31, yX4_copyFrom, RX7) ∈ kw_nest := List.mem_of_getElem? (i := 44) rfl
theorem nk_RX7_210 : (RX7, 210, yX1_shareFuel, RX7) ∈ kw_nest := List.mem_of_getElem? (i := 45) rfl
theorem nk_RX7_290 : (RX7, 290, yX4_anyTwoInOne, RX7) ∈ kw_nest := List.mem_of_getElem? (i := 46) rfl
theorem nk_RX7_230 : (RX7, 230, yX1_rakeOff, RX7) ∈ kw_nest := List.mem_of_getElem? (i := 47) rfl
theorem nk_RX7_233 : (RX7, 233, yX1_coverAll, RX7) ∈ kw_nest := List.mem_of_getElem? (i := 48) rfl
theorem nk_RX7_261 : (RX7, 261, yX5_drawnWind, RX7) ∈ kw_nest := List.mem_of_getElem? (i := 49) rfl
theorem nk_RX7_245 : (RX7, 245, yX6_clear, RX7) ∈ kw_nest := List.mem_of_getElem? (i := 50) rfl
theorem nk_RX7_248 : (RX7, 248, yX6_add, RX7) ∈ kw_nest := List.mem_of_getElem? (i := 51) rfl
theorem nk_RX7_251 : (RX7, 251, yX6_told, RX7) ∈ kw_nest := List.mem_of_getElem? (i := 52) rfl
theorem lm_RX1_55 : Cond.methodLink RX1 55 Lib.Math.min.name ∈ kw := kw_w 551 (by decide +kernel) (by decide +kernel)
theorem lm_RX4_95 : Cond.methodLink RX4 95 Lib.Math.min.name ∈ kw := kw_w 605 (by decide +kernel) (by decide +kernel)
theorem lm_RX6_18 : Cond.methodLink RX6 18 Lib.Math.min.name ∈ kw := kw_w 819 (by decide +kernel) (by decide +kernel)
theorem mmin_1 : Cond.static Lib.Math.min.name ∈ kw := kw_w 552 (by decide +kernel) (by decide +kernel)
theorem mmin_2 : Cond.initialized "java/lang/Math" ∈ kw := kw_w 107 (by decide +kernel) (by decide +kernel)
theorem mmin_3 : Cond.code Lib.Math.min.name Lib.Math.min.code 2 (some .int) ∈ kw := kw_w 553 (by decide +kernel) (by decide +kernel)
theorem lm_RX7_285 : Cond.methodLink RX7 285 Lib.Math.max.name ∈ kw := kw_w 711 (by decide +kernel) (by decide +kernel)
theorem lm_RX6_27 : Cond.methodLink RX6 27 Lib.Math.max.name ∈ kw := kw_w 820 (by decide +kernel) (by decide +kernel)
theorem mmax_1 : Cond.static Lib.Math.max.name ∈ kw := kw_w 712 (by decide +kernel) (by decide +kernel)
theorem mmax_2 : Cond.initialized "java/lang/Math" ∈ kw := kw_w 107 (by decide +kernel) (by decide +kernel)
theorem mmax_3 : Cond.code Lib.Math.max.name Lib.Math.max.code 2 (some .int) ∈ kw := kw_w 713 (by decide +kernel) (by decide +kernel)
end
section
def p_X0_place_26 (x0 : Int32) (x1 : Int32) (s0 : Int32) (h : kH) : Option (Int32 × kH) :=
  if s0 = 0 then some ((nI 0), h) else some (((x0 * (nI 30)) + x1), h)
def p_X0_place_25 (x0 : Int32) (x1 : Int32) (h : kH) : Option (Int32 × kH) :=
  p_X0_place_26 x0 x1 (nI 0) h
def p_X0_place (x0 : Int32) (x1 : Int32) (h : kH) : Option (Int32 × kH) :=
  if x0 < 0 then p_X0_place_25 x0 x1 h else if (nI 240) ≤ x0 then p_X0_place_25 x0 x1 h else if x1 < 0 then p_X0_place_25 x0 x1 h else if (nI 30) ≤ x1 then p_X0_place_25 x0 x1 h else p_X0_place_26 x0 x1 (nI 1) h
def p_X7_oneIf (x0 : Int32) (h : kH) : Option (Int32 × kH) :=
  if x0 = 0 then some ((nI 0), h) else some ((nI 1), h)
def p_X0_put (x1 : Int32) (x2 : Int32) (x3 : Int32) (x4 : Int32) (h : kH) : Option (kH) :=
  bd2 (p_X0_place x1 x2 h) fun v3 h1 => bd2 (p_X7_oneIf x4 h1) fun v6 h4 => gd (inb v3 7200) (le_ (hs h4 133 (v3).toNatClampNeg (((nI 2) * x3) + v6)) fun h8 => some h8)
def p_X0_heatAt (x1 : Int32) (x2 : Int32) (h : kH) : Option (Int32 × kH) :=
  bd2 (p_X0_place x1 x2 h) fun v3 h1 => gd (inb v3 7200) (some (((h1 133 (v3).toNatClampNeg) / (nI 2)), h1))
def p_X0_blackensAt (x1 : Int32) (x2 : Int32) (h : kH) : Option (Int32 × kH) :=
  bd2 (p_X0_place x1 x2 h) fun v3 h1 => gd (inb v3 7200) (if (krem (h1 133 (v3).toNatClampNeg) (nI 2)) = (nI 1) then some ((nI 1), h1) else some ((nI 0), h1))
def p_X1_clear_2 (K2 : Int32 × kH → Option (kH)) (F : Nat) (x1 : Int32) (h : kH) : Option (kH) :=
  if (nI 30) ≤ x1 then some h else gd (inb x1 30) (le_ (hs h (F + 1) (x1).toNatClampNeg (nI 20)) fun h2 => le_ (hs h2 (F + 2) (x1).toNatClampNeg (nI 0)) fun h3 => le_ (hs h3 (F + 3) (x1).toNatClampNeg (nI 0)) fun h4 => le_ (hs h4 (F + 4) (x1).toNatClampNeg (vp_nar .boolean (nI 0))) fun h5 => le_ (hs h5 (F + 5) (x1).toNatClampNeg (vp_nar .boolean (nI 0))) fun h6 => K2 ((x1 + (nI 1)), h6))
def p_X1_clear (F : Nat) (h : kH) : Option (kH) :=
  fx (fun K2 s => p_X1_clear_2 K2 F s.1 s.2) FU ((nI 0), h)
def p_X1_copyCell (F : Nat) (F2 : Nat) (x1 : Int32) (x3 : Int32) (h : kH) : Option (kH) :=
  gd (inb x3 30) (gd (inb x1 30) (le_ (hs h (F + 1) (x1).toNatClampNeg (h (F2 + 1) (x3).toNatClampNeg)) fun h3 => le_ (hs h3 (F + 2) (x1).toNatClampNeg (h3 (F2 + 2) (x3).toNatClampNeg)) fun h4 => le_ (hs h4 (F + 3) (x1).toNatClampNeg (h4 (F2 + 3) (x3).toNatClampNeg)) fun h5 => le_ (hs h5 (F + 4) (x1).toNatClampNeg (vp_nar .boolean (h5 (F2 + 4) (x3).toNatClampNeg))) fun h6 => le_ (hs h6 (F + 5) (x1).toNatClampNeg (vp_nar .boolean (h6 (F2 + 5) (x3).toNatClampNeg))) fun h7 => some h7))
def p_X1_copyFrom_2 (K2 : Int32 × kH → Option (kH)) (F : Nat) (F2 : Nat) (x2 : Int32) (h : kH) : Option (kH) :=
  if (nI 30) ≤ x2 then some h else bd (p_X1_copyCell F F2 x2 x2 h) fun h1 => K2 ((x2 + (nI 1)), h1)
def p_X1_copyFrom (F : Nat) (F2 : Nat) (h : kH) : Option (kH) :=
  fx (fun K2 s => p_X1_copyFrom_2 K2 F F2 s.1 s.2) FU ((nI 0), h)
def p_X5_cells (R : Nat) (h : kH) : Option (Int32 × kH) :=
  some (((h R 0) * (h R 1)), h)
def p_X1_burnFuel_2 (K2 : Int32 × kH → Option (kH)) (F : Nat) (R : Nat) (x2 : Int32) (h : kH) : Option (kH) :=
  bd2 (p_X5_cells R h) fun v3 h1 => if v3 ≤ x2 then some h1 else gd (inb x2 30) (if (h1 (F + 4) (x2).toNatClampNeg) = 0 then K2 ((x2 + (nI 1)), h1) else gd (inb (h1 (F + 3) (x2).toNatClampNeg) 3) (le_ (if (h1 (R + 1) ((h1 (F + 3) (x2).toNatClampNeg)).toNatClampNeg) < (h1 (F + 2) (x2).toNatClampNeg) then (h1 (R + 1) ((h1 (F + 3) (x2).toNatClampNeg)).toNatClampNeg) else (h1 (F + 2) (x2).toNatClampNeg)) fun v6 => le_ (hs h1 (F + 2) (x2).toNatClampNeg ((h1 (F + 2) (x2).toNatClampNeg) - v6)) fun h7 => gd (inb (h7 (F + 3) (x2).toNatClampNeg) 3) (le_ (hs h7 (F + 1) (x2).toNatClampNeg ((h7 (F + 1) (x2).toNatClampNeg) + (v6 * (h7 (R + 2) ((h7 (F + 3) (x2).toNatClampNeg)).toNatClampNeg)))) fun h9 => K2 ((x2 + (nI 1)), h9))))
def p_X1_burnFuel (F : Nat) (R : Nat) (h : kH) : Option (kH) :=
  fx (fun K2 s => p_X1_burnFuel_2 K2 F R s.1 s.2) FU ((nI 0), h)
def p_J7_fill_53178_5 (K5 : Int32 × Int32 × Int32 × kH → Option (kH)) (A : Nat) (x1 : Int32) (x2 : Int32) (x3 : Int32) (h : kH) : Option (kH) :=
  if x3 ≤ x2 then some h else gd (inb x2 30) (le_ (hs h A (x2).toNatClampNeg x1) fun h2 => K5 (x1, (x2 + (nI 1)), x3, h2))
def p_J7_fill_53178 (A : Nat) (x1 : Int32) (h : kH) : Option (kH) :=
  fx (fun K5 s => p_J7_fill_53178_5 K5 A s.1 s.2.1 s.2.2.1 s.2.2.2) FU (x1, (nI 0), (nI 30), h)
def p_X1_flow (F : Nat) (x1 : Int32) (x2 : Int32) (h : kH) : Option (kH) :=
  gd (inb x1 30) (gd (inb x2 30) (le_ (((h (F + 1) (x1).toNatClampNeg) - (h (F + 1) (x2).toNatClampNeg)) / (nI 10)) fun v3 => le_ (hs h (F + 6) (x1).toNatClampNeg ((h (F + 6) (x1).toNatClampNeg) - v3)) fun h4 => le_ (hs h4 (F + 6) (x2).toNatClampNeg ((h4 (F + 6) (x2).toNatClampNeg) + v3)) fun h5 => some h5))
def p_X1_spread_95 (K95 : Int32 × kH → Option (kH)) (F : Nat) (R : Nat) (x2 : Int32) (h : kH) : Option (kH) :=
  bd2 (p_X5_cells R h) fun v5 h3 => if v5 ≤ x2 then some h3 else gd (inb x2 30) (le_ (hs h3 (F + 1) (x2).toNatClampNeg ((h3 (F + 1) (x2).toNatClampNeg) + (h3 (F + 6) (x2).toNatClampNeg))) fun h7 => K95 ((x2 + (nI 1)), h7))
def p_X1_spread_58 (K10 : Int32 × kH → Option (kH)) (K20 : Int32 × Int32 × kH → Option (kH)) (F : Nat) (R : Nat) (x2 : Int32) (x3 : Int32) (x4 : Int32) (h : kH) : Option (kH) :=
  if (h R 1) ≤ (x2 + (nI 1)) then K20 (x2, (x3 + (nI 1)), h) else bd (p_X1_flow F x4 (x4 + (h R 0)) h) fun h9 => K20 (x2, (x3 + (nI 1)), h9)
def p_X1_spread_20 (K10 : Int32 × kH → Option (kH)) (K20 : Int32 × Int32 × kH → Option (kH)) (F : Nat) (R : Nat) (x2 : Int32) (x3 : Int32) (h : kH) : Option (kH) :=
  if (h R 0) ≤ x3 then K10 ((x2 + (nI 1)), h) else le_ (x3 + ((h R 0) * x2)) fun v8 => if (h R 0) ≤ (x3 + (nI 1)) then p_X1_spread_58 K10 K20 F R x2 x3 v8 h else bd (p_X1_flow F v8 (v8 + (nI 1)) h) fun h11 => p_X1_spread_58 K10 K20 F R x2 x3 v8 h11
def p_X1_spread_10 (K10 : Int32 × kH → Option (kH)) (F : Nat) (R : Nat) (x2 : Int32) (h : kH) : Option (kH) :=
  if (h R 1) ≤ x2 then fx (fun K95 s => p_X1_spread_95 K95 F R s.1 s.2) FU ((nI 0), h) else fx (fun K20 s => p_X1_spread_20 K10 K20 F R s.1 s.2.1 s.2.2) FU (x2, (nI 0), h)
def p_X1_spread (F : Nat) (R : Nat) (h : kH) : Option (kH) :=
  bd (p_J7_fill_53178 (F + 6) (nI 0) h) fun h1 => fx (fun K10 s => p_X1_spread_10 K10 F R s.1 s.2) FU ((nI 0), h1)
def p_X1_cool_46 (K2 : Int32 × Int32 × kH → Option (kH)) (F : Nat) (R : Nat) (x2 : Int32) (x3 : Int32) (x4 : Int32) (h : kH) : Option (kH) :=
  gd (inb x3 30) (le_ (hs h (F + 1) (x3).toNatClampNeg (if ((h (F + 1) (x3).toNatClampNeg) - x4) < (nI 3000) then ((h (F + 1) (x3).toNatClampNeg) - x4) else (nI 3000))) fun h7 => if (h7 (F + 1) (x3).toNatClampNeg) < (nI 200) then K2 (x2, (x3 + (nI 1)), h7) else le_ (hs h7 (F + 4) (x3).toNatClampNeg (vp_nar .boolean (nI 1))) fun h8 => K2 (x2, (x3 + (nI 1)), h8))
def p_X1_cool_2 (K2 : Int32 × Int32 × kH → Option (kH)) (F : Nat) (R : Nat) (x2 : Int32) (x3 : Int32) (h : kH) : Option (kH) :=
  bd2 (p_X5_cells R h) fun v3 h1 => if v3 ≤ x3 then some h1 else gd (inb x3 30) (le_ ((((h1 (F + 1) (x3).toNatClampNeg) - (nI 20)) * ((h1 R 4) + x2)) / (nI 100)) fun v5 => if (h1 (F + 5) (x3).toNatClampNeg) = 0 then p_X1_cool_46 K2 F R x2 x3 v5 h1 else le_ (v5 / (nI 2)) fun v9 => p_X1_cool_46 K2 F R x2 x3 v9 h1)
def p_X1_cool (F : Nat) (R : Nat) (x2 : Int32) (h : kH) : Option (kH) :=
  fx (fun K2 s => p_X1_cool_2 K2 F R s.1 s.2.1 s.2.2) FU (x2, (nI 0), h)
def p_X1_burn (F : Nat) (R : Nat) (x2 : Int32) (h : kH) : Option (kH) :=
  bd (p_X1_burnFuel F R h) fun h1 => bd (p_X1_spread F R h1) fun h3 => bd (p_X1_cool F R x2 h3) fun h5 => some h5
def p_X1_tell_40 (K2 : Int32 × Int32 × kH → Option (kH)) (F : Nat) (x2 : Int32) (x3 : Int32) (s0 : Int32) (s1 : Int32) (s2 : Int32) (s3 : Int32) (h : kH) : Option (kH) :=
  bd (p_X0_put s3 s2 s1 s0 h) fun h2 => K2 (x2, (x3 + (nI 1)), h2)
def p_X1_tell_35 (K2 : Int32 × Int32 × kH → Option (kH)) (F : Nat) (x2 : Int32) (x3 : Int32) (s0 : Int32) (s1 : Int32) (s2 : Int32) (h : kH) : Option (kH) :=
  p_X1_tell_40 K2 F x2 x3 (nI 1) s0 s1 s2 h
def p_X1_tell_2 (K2 : Int32 × Int32 × kH → Option (kH)) (F : Nat) (x2 : Int32) (x3 : Int32) (h : kH) : Option (kH) :=
  if (nI 30) ≤ x3 then some h else gd (inb x3 30) (if (h (F + 5) (x3).toNatClampNeg) = 0 then if (h (F + 2) (x3).toNatClampNeg) ≤ 0 then p_X1_tell_40 K2 F x2 x3 (nI 0) (h (F + 1) (x3).toNatClampNeg) x3 x2 h else p_X1_tell_35 K2 F x2 x3 (h (F + 1) (x3).toNatClampNeg) x3 x2 h else p_X1_tell_35 K2 F x2 x3 (h (F + 1) (x3).toNatClampNeg) x3 x2 h)
def p_X1_tell (F : Nat) (x2 : Int32) (h : kH) : Option (kH) :=
  fx (fun K2 s => p_X1_tell_2 K2 F s.1 s.2.1 s.2.2) FU (x2, (nI 0), h)
def p_X1_shareFuel_2 (K2 : Int32 × Int32 × kH → Option (kH)) (F : Nat) (x1 : Int32) (x2 : Int32) (h : kH) : Option (kH) :=
  if (nI 30) ≤ x2 then some h else gd (inb x2 30) (le_ (hs h (F + 2) (x2).toNatClampNeg (((h (F + 2) (x2).toNatClampNeg) * x1) / (nI 100))) fun h2 => K2 (x1, (x2 + (nI 1)), h2))
def p_X1_shareFuel (F : Nat) (x1 : Int32) (h : kH) : Option (kH) :=
  fx (fun K2 s => p_X1_shareFuel_2 K2 F s.1 s.2.1 s.2.2) FU (x1, (nI 0), h)
def p_X1_rakeOff_10 (K10 : Int32 × kH → Option (kH)) (F : Nat) (x1 : Int32) (h : kH) : Option (kH) :=
  if (nI 30) ≤ x1 then some h else gd (inb x1 30) (le_ (hs h (F + 5) (x1).toNatClampNeg (vp_nar .boolean (nI 0))) fun h4 => K10 ((x1 + (nI 1)), h4))
def p_X1_rakeOff (F : Nat) (h : kH) : Option (kH) :=
  bd (p_J7_fill_53178 (F + 2) (nI 0) h) fun h1 => fx (fun K10 s => p_X1_rakeOff_10 K10 F s.1 s.2) FU ((nI 0), h1)
def p_X1_coverAll_2 (K2 : Int32 × kH → Option (kH)) (F : Nat) (x1 : Int32) (h : kH) : Option (kH) :=
  if (nI 30) ≤ x1 then some h else gd (inb x1 30) (le_ (hs h (F + 5) (x1).toNatClampNeg (vp_nar .boolean (nI 1))) fun h2 => K2 ((x1 + (nI 1)), h2))
def p_X1_coverAll (F : Nat) (h : kH) : Option (kH) :=
  fx (fun K2 s => p_X1_coverAll_2 K2 F s.1 s.2) FU ((nI 0), h)
def p_X4_copyFrom_10 (K10 : Int32 × kH → Option (kH)) (P : Nat) (P2 : Nat) (x2 : Int32) (h : kH) : Option (kH) :=
  if (nI 6) ≤ x2 then some h else gd (inb x2 6) (le_ (hs h (P + 1) (x2).toNatClampNeg (h (P2 + 1) (x2).toNatClampNeg)) fun h3 => le_ (hs h3 (P + 2) (x2).toNatClampNeg (h3 (P2 + 2) (x2).toNatClampNeg)) fun h4 => le_ (hs h4 (P + 3) (x2).toNatClampNeg (h4 (P2 + 3) (x2).toNatClampNeg)) fun h5 => le_ (hs h5 (P + 4) (x2).toNatClampNeg (h5 (P2 + 4) (x2).toNatClampNeg)) fun h6 => le_ (hs h6 (P + 5) (x2).toNatClampNeg (h6 (P2 + 5) (x2).toNatClampNeg)) fun h7 => le_ (hs h7 (P + 6) (x2).toNatClampNeg (h7 (P2 + 6) (x2).toNatClampNeg)) fun h8 => le_ (hs h8 (P + 7) (x2).toNatClampNeg (h8 (P2 + 7) (x2).toNatClampNeg)) fun h9 => le_ (hs h9 (P + 8) (x2).toNatClampNeg (h9 (P2 + 8) (x2).toNatClampNeg)) fun h10 => le_ (hs h10 (P + 9) (x2).toNatClampNeg (h10 (P2 + 9) (x2).toNatClampNeg)) fun h11 => le_ (hs h11 (P + 10) (x2).toNatClampNeg (vp_nar .boolean (h11 (P2 + 10) (x2).toNatClampNeg))) fun h12 => K10 ((x2 + (nI 1)), h12))
def p_X4_copyFrom (P : Nat) (P2 : Nat) (h : kH) : Option (kH) :=
  le_ (hs h P 0 (h P2 0)) fun h1 => fx (fun K10 s => p_X4_copyFrom_10 K10 P P2 s.1 s.2) FU ((nI 0), h1)
def p_X2_copyFrom (H : Nat) (H2 : Nat) (h : kH) : Option (kH) :=
  bd (p_X1_copyFrom (H + 1) (H2 + 1) h) fun h1 => bd (p_X4_copyFrom (H + 8) (H2 + 8) h1) fun h3 => le_ (hs h3 H 2 (h3 H2 2)) fun h5 => some h5
def p_X4_isBursting (P : Nat) (x1 : Int32) (h : kH) : Option (Int32 × kH) :=
  gd (inb x1 6) (le_ ((nI 10) * ((h (P + 4) (x1).toNatClampNeg) + (nI 1))) fun v2 => if v2 < (nI 1) then some ((nI 0), h) else if (nI 100) < (h (P + 6) (x1).toNatClampNeg) then gd (decide (¬ v2 = 0)) (if (((h (P + 3) (x1).toNatClampNeg) * ((h (P + 6) (x1).toNatClampNeg) - (nI 100))) / v2) ≤ (h (P + 5) (x1).toNatClampNeg) then some ((nI 0), h) else some ((nI 1), h)) else some ((nI 0), h))
def p_X4_loseWater (P : Nat) (x1 : Int32) (x2 : Int32) (h : kH) : Option (kH) :=
  gd (inb x1 6) (le_ (hs h (P + 3) (x1).toNatClampNeg ((h (P + 3) (x1).toNatClampNeg) - (if x2 < (h (P + 3) (x1).toNatClampNeg) then x2 else (h (P + 3) (x1).toNatClampNeg)))) fun h2 => some h2)
def p_X4_steamAndHarden_37 (P : Nat) (R : Nat) (x1 : Int32) (h : kH) : Option (kH) :=
  gd (inb x1 6) (if (h (P + 6) (x1).toNatClampNeg) < ((nI 10) * (h R 5)) then some h else le_ (hs h (P + 7) (x1).toNatClampNeg ((h (P + 7) (x1).toNatClampNeg) + (nI 1))) fun h3 => some h3)
def p_X4_steamAndHarden (P : Nat) (R : Nat) (x1 : Int32) (h : kH) : Option (kH) :=
  gd (inb x1 6) (if (h (P + 6) (x1).toNatClampNeg) ≤ (nI 60) then p_X4_steamAndHarden_37 P R x1 h else bd (p_X4_loseWater P x1 ((((h (P + 4) (x1).toNatClampNeg) + (nI 1)) * ((h (P + 6) (x1).toNatClampNeg) - (nI 60))) / (nI 100)) h) fun h4 => p_X4_steamAndHarden_37 P R x1 h4)
def p_X4_warm_126 (P : Nat) (R : Nat) (x1 : Int32) (h : kH) : Option (kH) :=
  bd (p_X4_steamAndHarden P R x1 h) fun h9 => some h9
def p_X4_warm_78 (P : Nat) (R : Nat) (x1 : Int32) (x5 : Int32) (h : kH) : Option (kH) :=
  bd2 (p_X4_isBursting P x1 h) fun v8 h6 => if v8 = 0 then if (-x5) ≤ (h6 R 7) then p_X4_warm_126 P R x1 h6 else gd (inb x1 6) (if (h6 (P + 7) (x1).toNatClampNeg) < (nI 1) then p_X4_warm_126 P R x1 h6 else le_ (hs h6 (P + 8) (x1).toNatClampNeg (nI 4)) fun h12 => some h12) else gd (inb x1 6) (le_ (hs h6 (P + 8) (x1).toNatClampNeg (nI 1)) fun h14 => some h14)
def p_X4_warm_31 (P : Nat) (R : Nat) (x1 : Int32) (s0 : Int32) (h : kH) : Option (kH) :=
  gd (inb x1 6) (le_ (hs h (P + 6) (x1).toNatClampNeg ((h (P + 6) (x1).toNatClampNeg) + s0)) fun h5 => if s0 ≤ 0 then p_X4_warm_78 P R x1 s0 h5 else if (s0 * (h5 (P + 2) (x1).toNatClampNeg)) ≤ ((nI 10) * (h5 R 8)) then p_X4_warm_78 P R x1 s0 h5 else le_ (hs h5 (P + 8) (x1).toNatClampNeg (nI 3)) fun h15 => some h15)
def p_X4_warm (P : Nat) (R : Nat) (x1 : Int32) (x3 : Int32) (h : kH) : Option (kH) :=
  gd (inb x1 6) (le_ ((h (P + 2) (x1).toNatClampNeg) + (nI 1)) fun v2 => if (nI 1) ≤ v2 then gd (decide (¬ v2 = 0)) (p_X4_warm_31 P R x1 ((x3 - (h (P + 6) (x1).toNatClampNeg)) / v2) h) else p_X4_warm_31 P R x1 (nI 0) h)
def p_X5_areBeside (R : Nat) (x1 : Int32) (x2 : Int32) (h : kH) : Option (Int32 × kH) :=
  if (nI 1) ≤ (h R 0) then gd (decide (¬ (h R 0) = 0)) (gd (decide (¬ (h R 0) = 0)) (le_ ((krem x1 (h R 0)) - (krem x2 (h R 0))) fun v3 => gd (decide (¬ (h R 0) = 0)) (gd (decide (¬ (h R 0) = 0)) (le_ ((x1 / (h R 0)) - (x2 / (h R 0))) fun v6 => if v3 < (-1 : Int32) then some ((nI 0), h) else if (nI 1) < v3 then some ((nI 0), h) else if v6 < (-1 : Int32) then some ((nI 0), h) else if (nI 1) < v6 then some ((nI 0), h) else some ((nI 1), h))))) else some ((nI 0), h)
def p_X4_isBesideBurst_2 (K2 : Int32 × Int32 × kH → Option (Int32 × kH)) (P : Nat) (R : Nat) (x1 : Int32) (x3 : Int32) (h : kH) : Option (Int32 × kH) :=
  if (h P 0) ≤ x3 then some ((nI 0), h) else gd (inb x3 6) (if (h (P + 11) (x3).toNatClampNeg) = 0 then K2 (x1, (x3 + (nI 1)), h) else gd (inb x1 6) (bd2 (p_X5_areBeside R (h (P + 1) (x1).toNatClampNeg) (h (P + 1) (x3).toNatClampNeg) h) fun v5 h3 => if v5 = 0 then K2 (x1, (x3 + (nI 1)), h3) else some ((nI 1), h3)))
def p_X4_isBesideBurst (P : Nat) (R : Nat) (x1 : Int32) (h : kH) : Option (Int32 × kH) :=
  fx (fun K2 s => p_X4_isBesideBurst_2 K2 P R s.1 s.2.1 s.2.2) FU (x1, (nI 0), h)
def p_X4_strike_37 (K2 : Int32 × kH → Option (kH)) (P : Nat) (R : Nat) (x2 : Int32) (s0 : Int32) (h : kH) : Option (kH) :=
  if s0 = 0 then K2 ((x2 + (nI 1)), h) else bd2 (p_X4_isBesideBurst P R x2 h) fun v4 h2 => if v4 = 0 then K2 ((x2 + (nI 1)), h2) else gd (inb x2 6) (le_ (hs h2 (P + 8) (x2).toNatClampNeg (nI 2)) fun h6 => K2 ((x2 + (nI 1)), h6))
def p_X4_strike_36 (K2 : Int32 × kH → Option (kH)) (P : Nat) (R : Nat) (x2 : Int32) (h : kH) : Option (kH) :=
  p_X4_strike_37 K2 P R x2 (nI 0) h
def p_X4_strike_2 (K2 : Int32 × kH → Option (kH)) (P : Nat) (R : Nat) (x2 : Int32) (h : kH) : Option (kH) :=
  if (h P 0) ≤ x2 then some h else gd (inb x2 6) (if (h (P + 8) (x2).toNatClampNeg) = 0 then if (h R 6) ≤ (h (P + 7) (x2).toNatClampNeg) then p_X4_strike_36 K2 P R x2 h else p_X4_strike_37 K2 P R x2 (nI 1) h else p_X4_strike_36 K2 P R x2 h)
def p_X4_strike (P : Nat) (R : Nat) (h : kH) : Option (kH) :=
  fx (fun K2 s => p_X4_strike_2 K2 P R s.1 s.2) FU ((nI 0), h)
def p_X4_takeColour_54 (P : Nat) (s0 : Int32) (s1 : Int32) (h : kH) : Option (kH) :=
  gd (inb s1 6) (le_ (hs h (P + 9) (s1).toNatClampNeg s0) fun h3 => some h3)
def p_X4_takeColour (P : Nat) (x1 : Int32) (x2 : Int32) (h : kH) : Option (kH) :=
  gd (inb x1 6) (if (h (P + 6) (x1).toNatClampNeg) < (nI 500) then if (h (P + 10) (x1).toNatClampNeg) = 0 then some h else if (h (P + 9) (x1).toNatClampNeg) = 0 then if x2 = 0 then p_X4_takeColour_54 P (nI 1) x1 h else p_X4_takeColour_54 P (nI 2) x1 h else some h else le_ (hs h (P + 10) (x1).toNatClampNeg (vp_nar .boolean (nI 1))) fun h4 => some h4)
def p_X4_feel_110 (K110 : Int32 × Int32 × Int32 × kH → Option (Int32 × kH)) (P : Nat) (R : Nat) (x3 : Int32) (x4 : Int32) (x5 : Int32) (h : kH) : Option (Int32 × kH) :=
  if (h P 0) ≤ x5 then gd (decide (x4 &&& 1 = x4)) (some (x4, h)) else gd (inb x5 6) (if (h (P + 8) (x5).toNatClampNeg) = 0 then bd2 (p_X0_blackensAt x3 (h (P + 1) (x5).toNatClampNeg) h) fun v5 h3 => bd (p_X4_takeColour P x5 v5 h3) fun h6 => K110 (x3, x4, (x5 + (nI 1)), h6) else K110 (x3, x4, (x5 + (nI 1)), h))
def p_X4_feel_107 (P : Nat) (R : Nat) (x3 : Int32) (x4 : Int32) (h : kH) : Option (Int32 × kH) :=
  fx (fun K110 s => p_X4_feel_110 K110 P R s.1 s.2.1 s.2.2.1 s.2.2.2) FU (x3, x4, (nI 0), h)
def p_X4_feel_77 (K6 : Int32 × Int32 × Int32 × kH → Option (Int32 × kH)) (P : Nat) (R : Nat) (x3 : Int32) (x4 : Int32) (x5 : Int32) (s0 : Int32) (s1 : Int32) (h : kH) : Option (Int32 × kH) :=
  gd (inb s1 6) (le_ (hs h (P + 11) (s1).toNatClampNeg (vp_nar .boolean s0)) fun h18 => gd (inb x5 6) (if (h18 (P + 11) (x5).toNatClampNeg) = 0 then K6 (x3, x4, (x5 + (nI 1)), h18) else K6 (x3, (nI 1), (x5 + (nI 1)), h18)))
def p_X4_feel_6 (K6 : Int32 × Int32 × Int32 × kH → Option (Int32 × kH)) (P : Nat) (R : Nat) (x3 : Int32) (x4 : Int32) (x5 : Int32) (h : kH) : Option (Int32 × kH) :=
  if (h P 0) ≤ x5 then if x4 = 0 then p_X4_feel_107 P R x3 x4 h else bd (p_X4_strike P R h) fun h8 => p_X4_feel_107 P R x3 x4 h8 else gd (inb x5 6) (le_ (hs h (P + 11) (x5).toNatClampNeg (vp_nar .boolean (nI 0))) fun h11 => if (h11 (P + 8) (x5).toNatClampNeg) = 0 then bd2 (p_X0_heatAt x3 (h11 (P + 1) (x5).toNatClampNeg) h11) fun v14 h12 => bd (p_X4_warm P R x5 v14 h12) fun h15 => if (h15 (P + 8) (x5).toNatClampNeg) = (nI 1) then p_X4_feel_77 K6 P R x3 x4 x5 (nI 1) x5 h15 else p_X4_feel_77 K6 P R x3 x4 x5 (nI 0) x5 h15 else K6 (x3, x4, (x5 + (nI 1)), h11))
def p_X4_feel (P : Nat) (R : Nat) (x3 : Int32) (h : kH) : Option (Int32 × kH) :=
  fx (fun K6 s => p_X4_feel_6 K6 P R s.1 s.2.1 s.2.2.1 s.2.2.2) FU (x3, (nI 0), (nI 0), h)
def p_X2_pass (H : Nat) (R : Nat) (x2 : Int32) (h : kH) : Option (kH) :=
  bd (p_X1_burn (H + 1) R x2 h) fun h1 => bd (p_X1_tell (H + 1) (nI 0) h1) fun h3 => bd2 (p_X4_feel (H + 8) R (nI 0) h3) fun v7 h5 => le_ (hs h5 H 2 ((h5 H 2) + (nI 1))) fun h8 => some h8
def p_X5_setKind (R : Nat) (x1 : Int32) (x2 : Int32) (x3 : Int32) (h : kH) : Option (kH) :=
  gd (inb x1 3) (le_ (hs h (R + 1) (x1).toNatClampNeg x2) fun h2 => le_ (hs h2 (R + 2) (x1).toNatClampNeg x3) fun h3 => some h3)
def p_X5_setDefaults (R : Nat) (h : kH) : Option (kH) :=
  le_ (hs h R 0 (nI 4)) fun h1 => le_ (hs h1 R 1 (nI 3)) fun h2 => bd (p_X5_setKind R (nI 0) (nI 6) (nI 20) h2) fun h3 => bd (p_X5_setKind R (nI 1) (nI 2) (nI 40) h3) fun h5 => bd (p_X5_setKind R (nI 2) (nI 15) (nI 8) h5) fun h7 => le_ (hs h7 R 4 (nI 8)) fun h9 => le_ (hs h9 R 5 (nI 75)) fun h10 => le_ (hs h10 R 6 (nI 10)) fun h11 => le_ (hs h11 R 7 (nI 60)) fun h12 => le_ (hs h12 R 8 (nI 90)) fun h13 => le_ (hs h13 R 9 (nI 0)) fun h14 => some h14
def p_X3_forget (h : kH) : Option (kH) :=
  bd (p_X5_setDefaults 3 h) fun h1 => bd (p_X1_clear 6 h1) fun h3 => le_ (hs h3 13 0 (nI 0)) fun h5 => some h5
def p_X3_boundsOf (x0 : Int32) (h : kH) : Option (Nat × kH) :=
  if x0 = (nI 99) then some (1, h) else if x0 = (nI 100) then some (7, h) else if x0 = (nI 104) then some (6, h) else if x0 = (nI 107) then some (4, h) else if x0 = (nI 108) then some (5, h) else if x0 = (nI 111) then some (2, h) else if x0 = (nI 112) then some (3, h) else if x0 = (nI 115) then some (2, h) else if x0 = (nI 118) then some (8, h) else if x0 = (nI 119) then some (0, h) else some (9, h)
def p_X3_countFigures_5 (K5 : Int32 × Int32 × Int32 × kH → Option (Int32 × kH)) (A : Nat) (x2 : Int32) (x3 : Int32) (x4 : Int32) (h : kH) : Option (Int32 × kH) :=
  if x2 ≤ x4 then some (x3, h) else gd (inb x4 500) (if (h A (x4).toNatClampNeg) < (nI 48) then some (x3, h) else if (h A (x4).toNatClampNeg) ≤ (nI 57) then K5 (x2, (x3 + (nI 1)), (x4 + (nI 1)), h) else some (x3, h))
def p_X3_countFigures (A : Nat) (x1 : Int32) (x2 : Int32) (h : kH) : Option (Int32 × kH) :=
  fx (fun K5 s => p_X3_countFigures_5 K5 A s.1 s.2.1 s.2.2.1 s.2.2.2) FU (x2, (nI 0), x1, h)
def p_X3_numberOf_5 (K5 : Int32 × Int32 × Int32 × kH → Option (Int32 × kH)) (A : Nat) (x2 : Int32) (x3 : Int32) (x4 : Int32) (h : kH) : Option (Int32 × kH) :=
  if x2 ≤ x4 then some (x3, h) else gd (inb x4 500) (le_ (((nI 10) * x3) + ((h A (x4).toNatClampNeg) - (nI 48))) fun v2 => K5 (x2, v2, (x4 + (nI 1)), h))
def p_X3_numberOf (A : Nat) (x1 : Int32) (x2 : Int32) (h : kH) : Option (Int32 × kH) :=
  fx (fun K5 s => p_X3_numberOf_5 K5 A s.1 s.2.1 s.2.2.1 s.2.2.2) FU (x2, (nI 0), x1, h)
def p_X3_readNumbers_142 (K39 : Int32 × Nat × Int32 × Int32 × Int32 × kH → Option (Int32 × kH)) (A : Nat) (x3 : Int32) (j4 : Nat) (x5 : Int32) (x7 : Int32) (x9 : Int32) (x10 : Int32) (s0 : Int32) (s1 : Int32) (h : kH) : Option (Int32 × kH) :=
  if s1 = s0 then gd (inb x7 6) (le_ (hs h 27 (x7).toNatClampNeg x10) fun h19 => K39 (x3, j4, x5, (x9 + (nI 1)), (x7 + (nI 1)), h19)) else some ((-4 : Int32), h)
def p_X3_readNumbers_39 (K39 : Int32 × Nat × Int32 × Int32 × Int32 × kH → Option (Int32 × kH)) (A : Nat) (x3 : Int32) (j4 : Nat) (x5 : Int32) (x6 : Int32) (x7 : Int32) (h : kH) : Option (Int32 × kH) :=
  if x5 ≤ x7 then some (x6, h) else bd2 (p_X3_countFigures A x6 x3 h) fun v9 h7 => le_ (x6 + v9) fun v10 => if v9 < (nI 1) then some ((-4 : Int32), h7) else if (nI 3) < v9 then some ((-4 : Int32), h7) else if v10 < x3 then bd2 (p_X3_numberOf A x6 v10 h7) fun v13 h11 => gd (inb ((nI 2) * x7) (k_sl j4).length) (gd (decide (j4 < 10)) (if v13 < ((k_sl j4).getD (((nI 2) * x7)).toNatClampNeg 0) then some ((-4 : Int32), h11) else gd (inb (((nI 2) * x7) + (nI 1)) (k_sl j4).length) (if v13 ≤ ((k_sl j4).getD ((((nI 2) * x7) + (nI 1))).toNatClampNeg 0) then gd (inb v10 500) (if x5 ≤ (x7 + (nI 1)) then p_X3_readNumbers_142 K39 A x3 j4 x5 x7 v10 v13 (nI 59) (h11 A (v10).toNatClampNeg) h11 else p_X3_readNumbers_142 K39 A x3 j4 x5 x7 v10 v13 (nI 44) (h11 A (v10).toNatClampNeg) h11) else some ((-4 : Int32), h11)))) else some ((-4 : Int32), h7)
def p_X3_readNumbers (A : Nat) (x2 : Int32) (x3 : Int32) (h : kH) : Option (Int32 × kH) :=
  gd (inb x2 500) (bd2 (p_X3_boundsOf (h A (x2).toNatClampNeg) h) fun n4 h2 => gd (decide (n4 < 10)) (le_ ((Int32.ofNat (k_sl n4).length) / (nI 2)) fun v6 => if v6 < (nI 1) then some ((-4 : Int32), h2) else if v6 ≤ (nI 6) then fx (fun K39 s => p_X3_readNumbers_39 K39 A s.1 s.2.1 s.2.2.1 s.2.2.2.1 s.2.2.2.2.1 s.2.2.2.2.2) FU (x3, n4, v6, (x2 + (nI 1)), (nI 0), h2) else some ((-4 : Int32), h2)))
def p_X3_takeCell (h : kH) : Option (kH) :=
  gd (inb (nI 0) 6) (gd (inb (nI 1) 6) (le_ ((h 27 ((nI 0)).toNatClampNeg) + ((nI 6) * (h 27 ((nI 1)).toNatClampNeg))) fun v3 => gd (inb (nI 2) 6) (gd (inb v3 30) (le_ (hs h 9 (v3).toNatClampNeg (h 27 ((nI 2)).toNatClampNeg)) fun h6 => gd (inb (nI 3) 6) (le_ (hs h6 8 (v3).toNatClampNeg (h6 27 ((nI 3)).toNatClampNeg)) fun h8 => some h8)))))
def p_X4_add (P : Nat) (A : Nat) (h : kH) : Option (kH) :=
  if (nI 6) ≤ (h P 0) then some h else if (nI 6) ≤ (nI 6) then le_ (h P 0) fun v1 => gd (inb v1 6) (le_ (hs h (P + 1) (v1).toNatClampNeg (nI 0)) fun h3 => gd (inb (nI 2) 6) (le_ (hs h3 (P + 2) (v1).toNatClampNeg (h3 A ((nI 2)).toNatClampNeg)) fun h5 => gd (inb (nI 3) 6) (le_ (hs h5 (P + 3) (v1).toNatClampNeg (h5 A ((nI 3)).toNatClampNeg)) fun h7 => gd (inb (nI 4) 6) (le_ (hs h7 (P + 4) (v1).toNatClampNeg (h7 A ((nI 4)).toNatClampNeg)) fun h9 => gd (inb (nI 5) 6) (le_ (hs h9 (P + 5) (v1).toNatClampNeg (h9 A ((nI 5)).toNatClampNeg)) fun h11 => le_ (hs h11 (P + 6) (v1).toNatClampNeg (nI 20)) fun h12 => le_ (hs h12 (P + 7) (v1).toNatClampNeg (nI 0)) fun h13 => le_ (hs h13 (P + 8) (v1).toNatClampNeg (nI 0)) fun h14 => le_ (hs h14 (P + 9) (v1).toNatClampNeg (nI 0)) fun h15 => le_ (hs h15 (P + 10) (v1).toNatClampNeg (vp_nar .boolean (nI 0))) fun h16 => le_ (hs h16 P 0 ((h16 P 0) + (nI 1))) fun h17 => some h17))))) else some h
def p_X3_takePot (h : kH) : Option (Int32 × kH) :=
  if (h 13 0) < (nI 6) then gd (inb (nI 0) 6) (gd (inb (h 13 0) 6) (le_ (hs h 25 ((h 13 0)).toNatClampNeg (h 27 ((nI 0)).toNatClampNeg)) fun h3 => gd (inb (nI 1) 6) (gd (inb (h3 13 0) 6) (le_ (hs h3 26 ((h3 13 0)).toNatClampNeg (h3 27 ((nI 1)).toNatClampNeg)) fun h6 => bd (p_X4_add 13 27 h6) fun h7 => some ((nI 1), h7))))) else some ((nI 0), h)
def p_X3_takeItem (x1 : Int32) (h : kH) : Option (Int32 × kH) :=
  if x1 = (nI 99) then bd (p_X3_takeCell h) fun h1 => some ((nI 1), h1) else if x1 = (nI 100) then gd (inb (nI 0) 6) (le_ (hs h 3 7 (h 27 ((nI 0)).toNatClampNeg)) fun h5 => gd (inb (nI 1) 6) (le_ (hs h5 3 8 (h5 27 ((nI 1)).toNatClampNeg)) fun h7 => some ((nI 1), h7))) else if x1 = (nI 104) then gd (inb (nI 0) 6) (le_ (hs h 3 5 (h 27 ((nI 0)).toNatClampNeg)) fun h10 => gd (inb (nI 1) 6) (le_ (hs h10 3 6 (h10 27 ((nI 1)).toNatClampNeg)) fun h12 => some ((nI 1), h12))) else if x1 = (nI 107) then gd (inb (nI 0) 6) (gd (inb (nI 1) 6) (gd (inb (nI 2) 6) (bd (p_X5_setKind 3 (h 27 ((nI 0)).toNatClampNeg) (h 27 ((nI 1)).toNatClampNeg) (h 27 ((nI 2)).toNatClampNeg) h) fun h17 => some ((nI 1), h17)))) else if x1 = (nI 108) then gd (inb (nI 0) 6) (le_ (hs h 3 4 (h 27 ((nI 0)).toNatClampNeg)) fun h21 => some ((nI 1), h21)) else if x1 = (nI 111) then gd (inb (nI 0) 6) (gd (inb (nI 1) 6) (gd (inb ((h 27 ((nI 0)).toNatClampNeg) + ((nI 6) * (h 27 ((nI 1)).toNatClampNeg))) 30) (le_ (hs h 10 (((h 27 ((nI 0)).toNatClampNeg) + ((nI 6) * (h 27 ((nI 1)).toNatClampNeg)))).toNatClampNeg (vp_nar .boolean (nI 1))) fun h26 => some ((nI 1), h26)))) else if x1 = (nI 112) then bd2 (p_X3_takePot h) fun v30 h28 => gd (decide (v30 &&& 1 = v30)) (some (v30, h28)) else if x1 = (nI 115) then gd (inb (nI 0) 6) (gd (inb (nI 1) 6) (gd (inb ((h 27 ((nI 0)).toNatClampNeg) + ((nI 6) * (h 27 ((nI 1)).toNatClampNeg))) 30) (le_ (hs h 11 (((h 27 ((nI 0)).toNatClampNeg) + ((nI 6) * (h 27 ((nI 1)).toNatClampNeg)))).toNatClampNeg (vp_nar .boolean (nI 1))) fun h36 => some ((nI 1), h36)))) else if x1 = (nI 118) then gd (inb (nI 0) 6) (le_ (hs h 3 9 (h 27 ((nI 0)).toNatClampNeg)) fun h39 => some ((nI 1), h39)) else if x1 = (nI 119) then gd (inb (nI 0) 6) (le_ (hs h 3 0 (h 27 ((nI 0)).toNatClampNeg)) fun h42 => gd (inb (nI 1) 6) (le_ (hs h42 3 1 (h42 27 ((nI 1)).toNatClampNeg)) fun h44 => some ((nI 1), h44))) else some ((nI 0), h)
def p_X3_read_9 (K9 : Int32 × Int32 × Int32 × kH → Option (Int32 × kH)) (A : Nat) (x2 : Int32) (x3 : Int32) (x4 : Int32) (h : kH) : Option (Int32 × kH) :=
  if x2 ≤ x4 then some ((-4 : Int32), h) else if x2 ≤ x3 then some ((-4 : Int32), h) else bd2 (p_X3_readNumbers A x3 x2 h) fun v5 h3 => if v5 = (-4 : Int32) then some (x3, h3) else gd (inb x3 500) (bd2 (p_X3_takeItem (h3 A (x3).toNatClampNeg) h3) fun v9 h7 => if v9 = 0 then some (x3, h7) else K9 (x2, v5, (x4 + (nI 1)), h7))
def p_X3_read (A : Nat) (x2 : Int32) (h : kH) : Option (Int32 × kH) :=
  bd (p_X3_forget h) fun h1 => fx (fun K9 s => p_X3_read_9 K9 A s.1 s.2.1 s.2.2.1 s.2.2.2) FU (x2, (nI 0), (nI 0), h1)
def p_X4_anyTwoInOne_14 (K2 : Int32 × kH → Option (Int32 × kH)) (K14 : Int32 × Int32 × kH → Option (Int32 × kH)) (P : Nat) (x1 : Int32) (x2 : Int32) (h : kH) : Option (Int32 × kH) :=
  if (h P 0) ≤ x2 then K2 ((x1 + (nI 1)), h) else gd (inb x1 6) (gd (inb x2 6) (if (h (P + 1) (x1).toNatClampNeg) = (h (P + 1) (x2).toNatClampNeg) then some ((nI 1), h) else K14 (x1, (x2 + (nI 1)), h)))
def p_X4_anyTwoInOne_2 (K2 : Int32 × kH → Option (Int32 × kH)) (P : Nat) (x1 : Int32) (h : kH) : Option (Int32 × kH) :=
  if (h P 0) ≤ x1 then some ((nI 0), h) else fx (fun K14 s => p_X4_anyTwoInOne_14 K2 K14 P s.1 s.2.1 s.2.2) FU (x1, (x1 + (nI 1)), h)
def p_X4_anyTwoInOne (P : Nat) (h : kH) : Option (Int32 × kH) :=
  fx (fun K2 s => p_X4_anyTwoInOne_2 K2 P s.1 s.2) FU ((nI 0), h)
def p_X3_isLayable_2 (K2 : Int32 × kH → Option (Int32 × kH)) (x1 : Int32) (h : kH) : Option (Int32 × kH) :=
  if (h 13 0) ≤ x1 then bd2 (p_X4_anyTwoInOne 13 h) fun v3 h1 => if v3 = 0 then some ((nI 1), h1) else some ((nI 0), h1) else gd (inb x1 6) (if (h 3 0) ≤ (h 25 (x1).toNatClampNeg) then some ((nI 0), h) else if (h 26 (x1).toNatClampNeg) < (h 3 1) then le_ (hs h 14 (x1).toNatClampNeg ((h 25 (x1).toNatClampNeg) + ((h 3 0) * (h 26 (x1).toNatClampNeg)))) fun h5 => K2 ((x1 + (nI 1)), h5) else some ((nI 0), h))
def p_X3_isLayable (h : kH) : Option (Int32 × kH) :=
  fx (fun K2 s => p_X3_isLayable_2 K2 s.1 s.2) FU ((nI 0), h)
def p_X5_copyFrom_18 (K18 : Int32 × kH → Option (kH)) (R : Nat) (R2 : Nat) (x2 : Int32) (h : kH) : Option (kH) :=
  if (nI 3) ≤ x2 then le_ (hs h R 4 (h R2 4)) fun h3 => le_ (hs h3 R 5 (h3 R2 5)) fun h4 => le_ (hs h4 R 6 (h4 R2 6)) fun h5 => le_ (hs h5 R 7 (h5 R2 7)) fun h6 => le_ (hs h6 R 8 (h6 R2 8)) fun h7 => le_ (hs h7 R 9 (h7 R2 9)) fun h8 => some h8 else gd (inb x2 3) (bd (p_X5_setKind R x2 (h (R2 + 1) (x2).toNatClampNeg) (h (R2 + 2) (x2).toNatClampNeg) h) fun h10 => K18 ((x2 + (nI 1)), h10))
def p_X5_copyFrom (R : Nat) (R2 : Nat) (h : kH) : Option (kH) :=
  le_ (hs h R 0 (h R2 0)) fun h1 => le_ (hs h1 R 1 (h1 R2 1)) fun h2 => fx (fun K18 s => p_X5_copyFrom_18 K18 R R2 s.1 s.2) FU ((nI 0), h2)
def p_X3_layOn_31 (K17 : Int32 × kH → Option (kH)) (K31 : Int32 × Int32 × kH → Option (kH)) (R : Nat) (H : Nat) (x3 : Int32) (x4 : Int32) (h : kH) : Option (kH) :=
  if (h 3 0) ≤ x4 then K17 ((x3 + (nI 1)), h) else bd (p_X1_copyCell (H + 1) 6 (x4 + ((h 3 0) * x3)) (x4 + ((nI 6) * x3)) h) fun h8 => K31 (x3, (x4 + (nI 1)), h8)
def p_X3_layOn_17 (K17 : Int32 × kH → Option (kH)) (R : Nat) (H : Nat) (x3 : Int32) (h : kH) : Option (kH) :=
  if (h 3 1) ≤ x3 then bd (p_X4_copyFrom (H + 8) 13 h) fun h5 => le_ (hs h5 H 2 (nI 0)) fun h7 => some h7 else fx (fun K31 s => p_X3_layOn_31 K17 K31 R H s.1 s.2.1 s.2.2) FU (x3, (nI 0), h)
def p_X3_layOn (R : Nat) (H : Nat) (h : kH) : Option (kH) :=
  bd (p_X5_copyFrom R 3 h) fun h1 => bd (p_X1_clear (H + 1) h1) fun h3 => fx (fun K17 s => p_X3_layOn_17 K17 R H s.1 s.2) FU ((nI 0), h3)
def p_X4_dryFor_2 (K2 : Int32 × Int32 × kH → Option (kH)) (P : Nat) (x1 : Int32) (x2 : Int32) (h : kH) : Option (kH) :=
  if (h P 0) ≤ x2 then some h else gd (inb x2 6) (if (h (P + 8) (x2).toNatClampNeg) = 0 then bd (p_X4_loseWater P x2 ((x1 * ((h (P + 4) (x2).toNatClampNeg) + (nI 1))) / (nI 4)) h) fun h2 => K2 (x1, (x2 + (nI 1)), h2) else K2 (x1, (x2 + (nI 1)), h))
def p_X4_dryFor (P : Nat) (x1 : Int32) (h : kH) : Option (kH) :=
  fx (fun K2 s => p_X4_dryFor_2 K2 P s.1 s.2.1 s.2.2) FU (x1, (nI 0), h)
def p_X4_allWater_4 (K4 : Int32 × Int32 × kH → Option (Int32 × kH)) (P : Nat) (x1 : Int32) (x2 : Int32) (h : kH) : Option (Int32 × kH) :=
  if (h P 0) ≤ x2 then some (x1, h) else gd (inb x2 6) (le_ (x1 + (h (P + 3) (x2).toNatClampNeg)) fun v2 => K4 (v2, (x2 + (nI 1)), h))
def p_X4_allWater (P : Nat) (h : kH) : Option (Int32 × kH) :=
  fx (fun K4 s => p_X4_allWater_4 K4 P s.1 s.2.1 s.2.2) FU ((nI 0), (nI 0), h)
def p_X4_lossOf (P : Nat) (R : Nat) (x1 : Int32) (h : kH) : Option (Int32 × kH) :=
  gd (inb x1 6) (if (h (P + 8) (x1).toNatClampNeg) = 0 then if (h (P + 7) (x1).toNatClampNeg) < (h R 6) then some ((nI 5), h) else some ((nI 0), h) else some ((h (P + 8) (x1).toNatClampNeg), h))
def p_X4_countGood_4 (K4 : Int32 × Int32 × kH → Option (Int32 × kH)) (P : Nat) (R : Nat) (x2 : Int32) (x3 : Int32) (h : kH) : Option (Int32 × kH) :=
  if (h P 0) ≤ x3 then some (x2, h) else bd2 (p_X4_lossOf P R x3 h) fun v3 h1 => if v3 = 0 then K4 ((x2 + (nI 1)), (x3 + (nI 1)), h1) else K4 (x2, (x3 + (nI 1)), h1)
def p_X4_countGood (P : Nat) (R : Nat) (h : kH) : Option (Int32 × kH) :=
  fx (fun K4 s => p_X4_countGood_4 K4 P R s.1 s.2.1 s.2.2) FU ((nI 0), (nI 0), h)
def p_X4_countLost_4 (K4 : Int32 × Int32 × kH → Option (Int32 × kH)) (P : Nat) (x1 : Int32) (x2 : Int32) (h : kH) : Option (Int32 × kH) :=
  if (h P 0) ≤ x2 then some (x1, h) else gd (inb x2 6) (if (h (P + 8) (x2).toNatClampNeg) < (nI 1) then K4 (x1, (x2 + (nI 1)), h) else if (nI 4) < (h (P + 8) (x2).toNatClampNeg) then K4 (x1, (x2 + (nI 1)), h) else K4 ((x1 + (nI 1)), (x2 + (nI 1)), h))
def p_X4_countLost (P : Nat) (h : kH) : Option (Int32 × kH) :=
  fx (fun K4 s => p_X4_countLost_4 K4 P s.1 s.2.1 s.2.2) FU ((nI 0), (nI 0), h)
def p_X4_countWhole_4 (K4 : Int32 × Int32 × kH → Option (Int32 × kH)) (P : Nat) (x1 : Int32) (x2 : Int32) (h : kH) : Option (Int32 × kH) :=
  if (h P 0) ≤ x2 then some (x1, h) else gd (inb x2 6) (if (h (P + 8) (x2).toNatClampNeg) = 0 then K4 ((x1 + (nI 1)), (x2 + (nI 1)), h) else K4 (x1, (x2 + (nI 1)), h))
def p_X4_countWhole (P : Nat) (h : kH) : Option (Int32 × kH) :=
  fx (fun K4 s => p_X4_countWhole_4 K4 P s.1 s.2.1 s.2.2) FU ((nI 0), (nI 0), h)
def p_X4_wholeIn_2 (K2 : Int32 × Int32 × kH → Option (Int32 × kH)) (P : Nat) (x1 : Int32) (x2 : Int32) (h : kH) : Option (Int32 × kH) :=
  if (h P 0) ≤ x2 then some ((-4 : Int32), h) else gd (inb x2 6) (if (h (P + 8) (x2).toNatClampNeg) = 0 then if (h (P + 1) (x2).toNatClampNeg) = x1 then some (x2, h) else K2 (x1, (x2 + (nI 1)), h) else K2 (x1, (x2 + (nI 1)), h))
def p_X4_wholeIn (P : Nat) (x1 : Int32) (h : kH) : Option (Int32 × kH) :=
  fx (fun K2 s => p_X4_wholeIn_2 K2 P s.1 s.2.1 s.2.2) FU (x1, (nI 0), h)
def p_X5_drawnWind (R : Nat) (x1 : Int32) (x2 : Int32) (h : kH) : Option (Int32 × kH) :=
  if 0 ≤ (h R 9) then le_ ((((7919 : Int64) * (x1).toInt64) + ((6151 : Int64) * (x2).toInt64)) + (1 : Int64)) fun v1 => gd (decide (¬ (((h R 9) + (nI 1))).toInt64 = 0)) (some (((lrem_ (lrem_ (v1 * v1) (65521 : Int64)) (((h R 9) + (nI 1))).toInt64)).toInt32, h)) else some ((nI 0), h)
def p_X6_clear (h : kH) : Option (kH) :=
  le_ (hs h 134 0 (nI 0)) fun h1 => some h1
def p_X6_add_90 (s0 : Int32) (h : kH) : Option (kH) :=
  le_ (hs h 134 4 s0) fun h4 => le_ (hs h4 134 0 ((h4 134 0) + (nI 1))) fun h5 => some h5
def p_X6_add_70 (x2 : Int32) (x3 : Int32) (s0 : Int32) (h : kH) : Option (kH) :=
  le_ (hs h 134 3 s0) fun h3 => if x3 = 0 then p_X6_add_90 (if (h3 134 4) < x2 then x2 else (h3 134 4)) h3 else p_X6_add_90 x2 h3
def p_X6_add_50 (x2 : Int32) (x3 : Int32) (s0 : Int32) (h : kH) : Option (kH) :=
  le_ (hs h 134 2 s0) fun h2 => if x3 = 0 then p_X6_add_70 x2 x3 (if x2 < (h2 134 3) then x2 else (h2 134 3)) h2 else p_X6_add_70 x2 x3 x2 h2
def p_X6_add_30 (x1 : Int32) (x2 : Int32) (x3 : Int32) (s0 : Int32) (h : kH) : Option (kH) :=
  le_ (hs h 134 1 s0) fun h1 => if x3 = 0 then p_X6_add_50 x2 x3 (if (h1 134 2) < x1 then x1 else (h1 134 2)) h1 else p_X6_add_50 x2 x3 x1 h1
def p_X6_add_12 (x1 : Int32) (x2 : Int32) (s0 : Int32) (h : kH) : Option (kH) :=
  if s0 = 0 then p_X6_add_30 x1 x2 s0 (if x1 < (h 134 1) then x1 else (h 134 1)) h else p_X6_add_30 x1 x2 s0 x1 h
def p_X6_add (x1 : Int32) (x2 : Int32) (h : kH) : Option (kH) :=
  if (h 134 0) = 0 then p_X6_add_12 x1 x2 (nI 1) h else p_X6_add_12 x1 x2 (nI 0) h
def p_X6_told (x1 : Int32) (h : kH) : Option (Int32 × kH) :=
  if x1 = 0 then some ((h 134 0), h) else if (h 134 0) = 0 then some ((-4 : Int32), h) else if x1 = (nI 1) then some ((h 134 1), h) else if x1 = (nI 2) then some ((h 134 2), h) else if x1 = (nI 3) then some ((h 134 3), h) else some ((h 134 4), h)
def p_X7_write_33 (K33 : Int64 × Int32 × kH → Option (Int32 × kH)) (x2 : Int64) (x4 : Int32) (h : kH) : Option (Int32 × kH) :=
  if x4 < 0 then some ((h 0 1), h) else gd (inb (h 0 1) 500) (le_ (hs h 1 ((h 0 1)).toNatClampNeg (vp_nar .byte (((x2 >>> ((((nI 8) * x4)).toInt64 &&& 63))).toInt32).toInt8.toInt32)) fun h2 => le_ (hs h2 0 1 ((h2 0 1) + (nI 1))) fun h3 => K33 (x2, (x4 + (-1 : Int32)), h3))
def p_X7_write (x1 : Int32) (y2 : Int64) (h : kH) : Option (Int32 × kH) :=
  if x1 < (nI 1) then some ((-1 : Int32), h) else if x1 ≤ (nI 8) then if ((h 0 1) + x1) ≤ (nI 500) then fx (fun K33 s => p_X7_write_33 K33 s.1 s.2.1 s.2.2) FU (y2, (x1 - (nI 1)), h) else some ((-3 : Int32), h) else some ((-1 : Int32), h)
def p_X7_wipe (h : kH) : Option (Int32 × kH) :=
  le_ (h 0 1) fun v1 => le_ (hs h 0 1 (nI 0)) fun h2 => some (v1, h2)
def p_X7_fault (h : kH) : Option (Int32 × kH) :=
  bd2 (p_X3_read 1 (h 0 1) h) fun v3 h1 => some (v3, h1)
def p_X7_lay (h : kH) : Option (Int32 × kH) :=
  bd2 (p_X3_read 1 (h 0 1) h) fun v3 h1 => if v3 = (-4 : Int32) then bd2 (p_X3_isLayable h1) fun v6 h4 => if v6 = 0 then some ((-2 : Int32), h4) else bd (p_X3_layOn 28 31 h4) fun h7 => le_ (hs h7 0 11 (nI 0)) fun h9 => le_ (hs h9 0 9 (nI 0)) fun h10 => bd2 (p_X5_cells 28 h10) fun v13 h11 => some (v13, h11) else some ((-2 : Int32), h1)
def p_X7_isCell (x1 : Int32) (h : kH) : Option (Int32 × kH) :=
  if x1 < 0 then some ((nI 0), h) else bd2 (p_X5_cells 28 h) fun v3 h1 => if v3 ≤ x1 then some ((nI 0), h1) else some ((nI 1), h1)
def p_X7_cell (x1 : Int32) (x2 : Int32) (h : kH) : Option (Int32 × kH) :=
  bd2 (p_X7_isCell x1 h) fun v3 h1 => if v3 = 0 then some ((-1 : Int32), h1) else if x2 = (nI 0) then gd (inb x1 30) (some ((h1 33 (x1).toNatClampNeg), h1)) else if x2 = (nI 1) then gd (inb x1 30) (some ((h1 34 (x1).toNatClampNeg), h1)) else if x2 = (nI 2) then gd (inb x1 30) (some ((h1 35 (x1).toNatClampNeg), h1)) else if x2 = (nI 3) then gd (inb x1 30) (bd2 (p_X7_oneIf (h1 36 (x1).toNatClampNeg) h1) fun v13 h11 => some (v13, h11)) else if x2 = (nI 4) then gd (inb x1 30) (bd2 (p_X7_oneIf (h1 37 (x1).toNatClampNeg) h1) fun v18 h16 => some (v18, h16)) else if x2 = (nI 5) then bd2 (p_X4_wholeIn 39 x1 h1) fun v22 h20 => some (v22, h20) else some ((-1 : Int32), h1)
def p_X7_isPot (x1 : Int32) (h : kH) : Option (Int32 × kH) :=
  if x1 < 0 then some ((nI 0), h) else if (h 39 0) ≤ x1 then some ((nI 0), h) else some ((nI 1), h)
def p_X7_pot (x1 : Int32) (x2 : Int32) (h : kH) : Option (Int32 × kH) :=
  bd2 (p_X7_isPot x1 h) fun v3 h1 => if v3 = 0 then some ((-1 : Int32), h1) else if x2 = (nI 0) then gd (inb x1 6) (some ((h1 40 (x1).toNatClampNeg), h1)) else if x2 = (nI 1) then gd (inb x1 6) (some ((h1 45 (x1).toNatClampNeg), h1)) else if x2 = (nI 2) then gd (inb x1 6) (some ((h1 42 (x1).toNatClampNeg), h1)) else if x2 = (nI 3) then gd (inb x1 6) (some ((h1 46 (x1).toNatClampNeg), h1)) else if x2 = (nI 4) then bd2 (p_X4_lossOf 39 28 x1 h1) fun v14 h12 => some (v14, h12) else if x2 = (nI 5) then gd (inb x1 6) (some ((h1 48 (x1).toNatClampNeg), h1)) else some ((-1 : Int32), h1)
def p_X7_isWind (x0 : Int32) (h : kH) : Option (Int32 × kH) :=
  if x0 < 0 then some ((nI 0), h) else if (nI 9) < x0 then some ((nI 0), h) else some ((nI 1), h)
def p_X7_minute (x1 : Int32) (h : kH) : Option (Int32 × kH) :=
  bd2 (p_X7_isWind x1 h) fun v3 h1 => if v3 = 0 then some ((-1 : Int32), h1) else bd (p_X2_pass 31 28 x1 h1) fun h4 => bd2 (p_X4_countWhole 39 h4) fun v8 h6 => some (v8, h6)
def p_X7_fuel (x1 : Int32) (x2 : Int32) (h : kH) : Option (Int32 × kH) :=
  bd2 (p_X7_isCell x1 h) fun v3 h1 => if v3 = 0 then some ((-1 : Int32), h1) else if x2 < (nI 1) then some ((-1 : Int32), h1) else if x2 ≤ (nI 99) then gd (inb x1 30) (le_ ((h1 34 (x1).toNatClampNeg) + x2) fun v5 => if v5 ≤ (nI 999) then le_ (hs h1 34 (x1).toNatClampNeg v5) fun h6 => some (v5, h6) else some ((-2 : Int32), h1)) else some ((-1 : Int32), h1)
def p_X7_cover (x1 : Int32) (x2 : Int32) (h : kH) : Option (Int32 × kH) :=
  bd2 (p_X7_isCell x1 h) fun v3 h1 => if v3 = 0 then some ((-1 : Int32), h1) else gd (inb x1 30) (bd2 (p_X7_oneIf (h1 37 (x1).toNatClampNeg) h1) fun v7 h5 => le_ (hs h5 37 (x1).toNatClampNeg (vp_nar .boolean x2)) fun h8 => some (v7, h8))
def p_X7_light (x1 : Int32) (h : kH) : Option (Int32 × kH) :=
  bd2 (p_X7_isCell x1 h) fun v3 h1 => if v3 = 0 then some ((-1 : Int32), h1) else gd (inb x1 30) (bd2 (p_X7_oneIf (h1 36 (x1).toNatClampNeg) h1) fun v7 h5 => le_ (hs h5 36 (x1).toNatClampNeg (vp_nar .boolean (nI 1))) fun h8 => some (v7, h8))
def p_X7_take (x1 : Int32) (h : kH) : Option (Int32 × kH) :=
  bd2 (p_X7_isPot x1 h) fun v3 h1 => if v3 = 0 then some ((-1 : Int32), h1) else gd (inb x1 6) (if (h1 47 (x1).toNatClampNeg) = 0 then bd2 (p_X4_lossOf 39 28 x1 h1) fun v7 h5 => le_ (hs h5 47 (x1).toNatClampNeg (nI 6)) fun h8 => some (v7, h8) else some ((-2 : Int32), h1))
def p_X7_dry (x1 : Int32) (h : kH) : Option (Int32 × kH) :=
  if x1 < (nI 1) then some ((-1 : Int32), h) else if x1 ≤ (nI 240) then bd (p_X4_dryFor 39 x1 h) fun h1 => bd2 (p_X4_allWater 39 h1) fun v5 h3 => some (v5, h3) else some ((-1 : Int32), h)
def p_X7_isLength (x0 : Int32) (h : kH) : Option (Int32 × kH) :=
  if x0 < 0 then some ((nI 0), h) else if (nI 240) < x0 then some ((nI 0), h) else some ((nI 1), h)
def p_X7_isRun (x0 : Int32) (x1 : Int32) (h : kH) : Option (Int32 × kH) :=
  bd2 (p_X7_isLength x0 h) fun v3 h1 => if v3 = 0 then some ((nI 0), h1) else bd2 (p_X7_isWind x1 h1) fun v6 h4 => if v6 = 0 then some ((nI 0), h4) else some ((nI 1), h4)
def p_X7_burnFire_3 (K3 : Int32 × Int32 × Int32 × kH → Option (kH)) (x2 : Int32) (x3 : Int32) (x4 : Int32) (h : kH) : Option (kH) :=
  if x2 ≤ x4 then some h else bd (p_X1_burn 72 28 x3 h) fun h1 => bd (p_X1_tell 72 x4 h1) fun h3 => K3 (x2, x3, (x4 + (nI 1)), h3)
def p_X7_burnFire (x1 : Int32) (x2 : Int32) (x3 : Int32) (h : kH) : Option (kH) :=
  fx (fun K3 s => p_X7_burnFire_3 K3 s.1 s.2.1 s.2.2.1 s.2.2.2) FU (x2, x3, x1, h)
def p_X7_burnAfresh (x1 : Int32) (x2 : Int32) (h : kH) : Option (kH) :=
  bd (p_X1_copyFrom 72 32 h) fun h1 => bd (p_X7_burnFire (nI 0) x1 x2 h1) fun h3 => some h3
def p_X7_passPots_2 (K2 : Int32 × Int32 × kH → Option (kH)) (x2 : Int32) (x3 : Int32) (h : kH) : Option (kH) :=
  if x2 ≤ x3 then some h else bd2 (p_X4_feel 79 28 x3 h) fun v3 h1 => K2 (x2, (x3 + (nI 1)), h1)
def p_X7_passPots (x1 : Int32) (x2 : Int32) (h : kH) : Option (kH) :=
  fx (fun K2 s => p_X7_passPots_2 K2 s.1 s.2.1 s.2.2) FU (x2, x1, h)
def p_X7_tryRun (x1 : Int32) (x2 : Int32) (h : kH) : Option (kH) :=
  bd (p_X7_burnAfresh x1 x2 h) fun h1 => bd (p_X4_copyFrom 79 39 h1) fun h3 => bd (p_X7_passPots (nI 0) x1 h3) fun h5 => some h5
def p_X7_run (x1 : Int32) (x2 : Int32) (x3 : Int32) (h : kH) : Option (Int32 × kH) :=
  bd2 (p_X7_isRun x1 x2 h) fun v3 h1 => if v3 = 0 then some ((-1 : Int32), h1) else if x3 < 0 then some ((-1 : Int32), h1) else if x3 ≤ (nI 1) then bd (p_X7_tryRun x1 x2 h1) fun h4 => if x3 = 0 then bd2 (p_X4_countGood 79 28 h4) fun v11 h9 => some (v11, h9) else bd2 (p_X4_countLost 79 h4) fun v8 h6 => some (v8, h6) else some ((-1 : Int32), h1)
def p_X7_greatestHeat_16 (K16 : Int32 × Int32 × Int32 × Int32 × kH → Option (Int32 × kH)) (x1 : Int32) (x2 : Int32) (x3 : Int32) (x4 : Int32) (h : kH) : Option (Int32 × kH) :=
  if x2 ≤ x4 then some (x3, h) else bd2 (p_X0_heatAt x4 x1 h) fun v5 h3 => le_ (if x3 < v5 then v5 else x3) fun v6 => K16 (x1, x2, v6, (x4 + (nI 1)), h3)
def p_X7_greatestHeat (x1 : Int32) (x2 : Int32) (h : kH) : Option (Int32 × kH) :=
  gd (inb x1 30) (le_ (h 33 (x1).toNatClampNeg) fun v2 => fx (fun K16 s => p_X7_greatestHeat_16 K16 s.1 s.2.1 s.2.2.1 s.2.2.2.1 s.2.2.2.2) FU (x1, x2, v2, (nI 0), h))
def p_X7_of (x1 : Int32) (x2 : Int32) (x3 : Int32) (x4 : Int32) (h : kH) : Option (Int32 × kH) :=
  bd2 (p_X7_isRun x1 x2 h) fun v3 h1 => if v3 = 0 then some ((-1 : Int32), h1) else bd2 (p_X7_isPot x3 h1) fun v6 h4 => if v6 = 0 then some ((-1 : Int32), h4) else if x4 < 0 then some ((-1 : Int32), h4) else if x4 ≤ (nI 3) then bd (p_X7_tryRun x1 x2 h4) fun h7 => if x4 = (nI 0) then bd2 (p_X4_lossOf 79 28 x3 h7) fun v11 h9 => some (v11, h9) else if x4 = (nI 1) then gd (inb x3 6) (bd2 (p_X7_greatestHeat (h7 40 (x3).toNatClampNeg) x1 h7) fun v16 h14 => some (v16, h14)) else if x4 = (nI 2) then gd (inb x3 6) (some ((h7 88 (x3).toNatClampNeg), h7)) else gd (inb x3 6) (some ((h7 86 (x3).toNatClampNeg), h7)) else some ((-1 : Int32), h4)
def p_X7_anyBursts_2 (K2 : Int32 × Int32 × kH → Option (Int32 × kH)) (x1 : Int32) (x2 : Int32) (h : kH) : Option (Int32 × kH) :=
  if x1 ≤ x2 then some ((nI 0), h) else bd2 (p_X4_feel 79 28 x2 h) fun v3 h1 => if v3 = 0 then K2 (x1, (x2 + (nI 1)), h1) else some ((nI 1), h1)
def p_X7_anyBursts (x1 : Int32) (h : kH) : Option (Int32 × kH) :=
  fx (fun K2 s => p_X7_anyBursts_2 K2 s.1 s.2.1 s.2.2) FU (x1, (nI 0), h)
def p_X7_drying_18 (K18 : Int32 × Int32 × kH → Option (Int32 × kH)) (x1 : Int32) (x3 : Int32) (h : kH) : Option (Int32 × kH) :=
  if (nI 240) < x3 then some ((-4 : Int32), h) else bd (p_X4_copyFrom 79 39 h) fun h6 => bd (p_X4_dryFor 79 x3 h6) fun h8 => bd2 (p_X7_anyBursts x1 h8) fun v12 h10 => if v12 = 0 then some (x3, h10) else K18 (x1, (x3 + (nI 1)), h10)
def p_X7_drying (x1 : Int32) (x2 : Int32) (h : kH) : Option (Int32 × kH) :=
  bd2 (p_X7_isRun x1 x2 h) fun v3 h1 => if v3 = 0 then some ((-1 : Int32), h1) else bd (p_X7_burnAfresh x1 x2 h1) fun h4 => fx (fun K18 s => p_X7_drying_18 K18 s.1 s.2.1 s.2.2) FU (x1, (nI 0), h4)
def p_X7_grit_34 (K34 : Int32 × Int32 × Int32 × Int32 × Int32 × kH → Option (Int32 × kH)) (x1 : Int32) (x2 : Int32) (x4 : Int32) (x5 : Int32) (x6 : Int32) (h : kH) : Option (Int32 × kH) :=
  if (nI 9) < x6 then some (x4, h) else bd (p_X4_copyFrom 79 39 h) fun h9 => gd (inb x1 6) (le_ (hs h9 83 (x1).toNatClampNeg x6) fun h12 => bd (p_X7_passPots (nI 0) x2 h12) fun h13 => bd2 (p_X4_lossOf 79 28 x1 h13) fun v17 h15 => if v17 = 0 then if (h15 86 (x1).toNatClampNeg) ≤ x5 then K34 (x1, x2, x4, x5, (x6 + (nI 1)), h15) else le_ (h15 86 (x1).toNatClampNeg) fun v18 => K34 (x1, x2, x6, v18, (x6 + (nI 1)), h15) else K34 (x1, x2, x4, x5, (x6 + (nI 1)), h15))
def p_X7_grit (x1 : Int32) (x2 : Int32) (x3 : Int32) (h : kH) : Option (Int32 × kH) :=
  bd2 (p_X7_isPot x1 h) fun v3 h1 => if v3 = 0 then some ((-1 : Int32), h1) else bd2 (p_X7_isRun x2 x3 h1) fun v6 h4 => if v6 = 0 then some ((-1 : Int32), h4) else bd (p_X7_burnAfresh x2 x3 h4) fun h7 => fx (fun K34 s => p_X7_grit_34 K34 s.1 s.2.1 s.2.2.1 s.2.2.2.1 s.2.2.2.2.1 s.2.2.2.2.2) FU (x1, x2, (-4 : Int32), (-1 : Int32), (nI 0), h7)
def p_X7_goOn (x1 : Int32) (x2 : Int32) (x3 : Int32) (h : kH) : Option (kH) :=
  bd (p_X7_burnFire x1 x2 x3 h) fun h1 => bd (p_X7_passPots x1 x2 h1) fun h3 => some h3
def p_X7_enough_25 (K25 : Int32 × Int32 × Int32 × Int32 × kH → Option (Int32 × kH)) (x1 : Int32) (x2 : Int32) (x3 : Int32) (x4 : Int32) (h : kH) : Option (Int32 × kH) :=
  if (nI 200) < x4 then some ((-4 : Int32), h) else bd (p_X2_copyFrom 71 31 h) fun h4 => bd (p_X1_shareFuel 72 x4 h4) fun h6 => bd (p_X7_goOn (nI 0) x2 x3 h6) fun h8 => bd2 (p_X4_countGood 79 28 h8) fun v12 h10 => if v12 < x1 then K25 (x1, x2, x3, (x4 + (nI 10)), h10) else some (x4, h10)
def p_X7_enough (x1 : Int32) (x2 : Int32) (x3 : Int32) (h : kH) : Option (Int32 × kH) :=
  if x1 < (nI 1) then some ((-1 : Int32), h) else if (nI 6) < x1 then some ((-1 : Int32), h) else bd2 (p_X7_isRun x2 x3 h) fun v3 h1 => if v3 = 0 then some ((-1 : Int32), h1) else fx (fun K25 s => p_X7_enough_25 K25 s.1 s.2.1 s.2.2.1 s.2.2.2.1 s.2.2.2.2) FU (x1, x2, x3, (nI 10), h1)
def p_X7_spot_12 (K12 : Int32 × Int32 × kH → Option (Int32 × kH)) (x1 : Int32) (x2 : Int32) (h : kH) : Option (Int32 × kH) :=
  if (h 0 11) ≤ x2 then if (h 0 11) < (nI 6) then gd (inb (h 0 11) 6) (le_ (hs h 131 ((h 0 11)).toNatClampNeg x1) fun h5 => le_ (hs h5 0 11 ((h5 0 11) + (nI 1))) fun h6 => some ((h6 0 11), h6)) else some ((-3 : Int32), h) else gd (inb x2 6) (if (h 131 (x2).toNatClampNeg) = x1 then some ((-2 : Int32), h) else K12 (x1, (x2 + (nI 1)), h))
def p_X7_spot (x1 : Int32) (h : kH) : Option (Int32 × kH) :=
  bd2 (p_X7_isCell x1 h) fun v3 h1 => if v3 = 0 then some ((-1 : Int32), h1) else fx (fun K12 s => p_X7_spot_12 K12 s.1 s.2.1 s.2.2) FU (x1, (nI 0), h1)
def p_X7_noSpots (h : kH) : Option (Int32 × kH) :=
  le_ (h 0 11) fun v1 => le_ (hs h 0 11 (nI 0)) fun h2 => some (v1, h2)
def p_X7_countWays_4 (K4 : Int32 × Int32 × Int32 × kH → Option (Int32 × kH)) (x1 : Int32) (x2 : Int32) (x3 : Int32) (h : kH) : Option (Int32 × kH) :=
  if x1 ≤ x3 then some (x2, h) else le_ (x2 * (h 0 11)) fun v1 => K4 (x1, v1, (x3 + (nI 1)), h)
def p_X7_countWays (x1 : Int32) (h : kH) : Option (Int32 × kH) :=
  fx (fun K4 s => p_X7_countWays_4 K4 s.1 s.2.1 s.2.2.1 s.2.2.2) FU (x1, (nI 1), (nI 0), h)
def p_X7_spotInWay_18 (K18 : Int32 × Int32 × Int32 × kH → Option (Int32 × kH)) (x3 : Int32) (x4 : Int32) (x5 : Int32) (h : kH) : Option (Int32 × kH) :=
  if x5 ≤ x3 then gd (decide (¬ (h 0 11) = 0)) (some ((krem x4 (h 0 11)), h)) else gd (decide (¬ (h 0 11) = 0)) (le_ (x4 / (h 0 11)) fun v3 => K18 (x3, v3, (x5 + (-1 : Int32)), h))
def p_X7_spotInWay (x1 : Int32) (x2 : Int32) (x3 : Int32) (h : kH) : Option (Int32 × kH) :=
  if (nI 1) ≤ (h 0 11) then fx (fun K18 s => p_X7_spotInWay_18 K18 s.1 s.2.1 s.2.2.1 s.2.2.2) FU (x3, x1, (x2 - (nI 1)), h) else some ((nI 0), h)
def p_X7_layWay_22 (K22 : Int32 × Int32 × Int32 × kH → Option (Int32 × kH)) (x1 : Int32) (x2 : Int32) (x4 : Int32) (h : kH) : Option (Int32 × kH) :=
  if x2 ≤ x4 then bd2 (p_X4_anyTwoInOne 79 h) fun v5 h3 => if v5 = 0 then some ((nI 1), h3) else some ((nI 0), h3) else bd2 (p_X7_spotInWay x1 x2 x4 h) fun v8 h6 => gd (inb v8 6) (gd (inb x4 6) (le_ (hs h6 80 (x4).toNatClampNeg (h6 131 (v8).toNatClampNeg)) fun h11 => K22 (x1, x2, (x4 + (nI 1)), h11)))
def p_X7_layWay (x1 : Int32) (x2 : Int32) (h : kH) : Option (Int32 × kH) :=
  bd (p_X4_copyFrom 79 39 h) fun h1 => fx (fun K22 s => p_X7_layWay_22 K22 s.1 s.2.1 s.2.2.1 s.2.2.2) FU (x1, x2, (nI 0), h1)
def p_X7_lies_153 (x1 : Int32) (x4 : Int32) (x7 : Int32) (x8 : Int32) (h : kH) : Option (Int32 × kH) :=
  if x7 = (-4 : Int32) then some ((-4 : Int32), h) else if 0 ≤ x4 then bd2 (p_X7_spotInWay x7 x1 x4 h) fun v14 h12 => some (v14, h12) else some (x8, h)
def p_X7_lies_83 (K83 : Int32 × Int32 × Int32 × Int32 × Int32 × Int32 × Int32 × Int32 × kH → Option (Int32 × kH)) (x1 : Int32) (x2 : Int32) (x4 : Int32) (x5 : Int32) (x6 : Int32) (x7 : Int32) (x8 : Int32) (x9 : Int32) (h : kH) : Option (Int32 × kH) :=
  if x5 ≤ x9 then p_X7_lies_153 x1 x4 x7 x8 h else if x6 ≤ x8 then p_X7_lies_153 x1 x4 x7 x8 h else bd2 (p_X7_layWay x9 x1 h) fun v17 h15 => if v17 = 0 then K83 (x1, x2, x4, x5, x6, x7, x8, (x9 + (nI 1)), h15) else bd (p_X7_passPots (nI 0) x2 h15) fun h18 => bd2 (p_X4_countGood 79 28 h18) fun v22 h20 => if v22 ≤ x8 then K83 (x1, x2, x4, x5, x6, x7, x8, (x9 + (nI 1)), h20) else K83 (x1, x2, x4, x5, x6, x9, v22, (x9 + (nI 1)), h20)
def p_X7_lies (x1 : Int32) (x2 : Int32) (x3 : Int32) (x4 : Int32) (h : kH) : Option (Int32 × kH) :=
  if x1 < (nI 1) then some ((-1 : Int32), h) else if (nI 4) < x1 then some ((-1 : Int32), h) else if x1 ≤ (h 39 0) then bd2 (p_X7_isRun x2 x3 h) fun v3 h1 => if v3 = 0 then some ((-1 : Int32), h1) else if x4 < (-1 : Int32) then some ((-1 : Int32), h1) else if x4 < x1 then bd (p_X7_burnAfresh x2 x3 h1) fun h4 => bd2 (p_X7_countWays x1 h4) fun v8 h6 => bd2 (p_X4_countWhole 39 h6) fun v11 h9 => fx (fun K83 s => p_X7_lies_83 K83 s.1 s.2.1 s.2.2.1 s.2.2.2.1 s.2.2.2.2.1 s.2.2.2.2.2.1 s.2.2.2.2.2.2.1 s.2.2.2.2.2.2.2.1 s.2.2.2.2.2.2.2.2) FU (x1, x2, x4, v8, v11, (-4 : Int32), (-1 : Int32), (nI 0), h9) else some ((-1 : Int32), h1) else some ((-1 : Int32), h)
def p_X7_rake_45 (K45 : Int32 × Int32 × Int32 × Int32 × kH → Option (Int32 × kH)) (x1 : Int32) (x2 : Int32) (x3 : Int32) (x4 : Int32) (h : kH) : Option (Int32 × kH) :=
  if x1 ≤ x4 then some (x1, h) else bd (p_X2_copyFrom 71 51 h) fun h11 => bd (p_X1_rakeOff 72 h11) fun h13 => bd (p_X7_goOn x4 x1 x2 h13) fun h15 => bd2 (p_X4_countGood 79 28 h15) fun v19 h17 => if v19 < x3 then bd (p_X2_pass 51 28 x2 h17) fun h20 => K45 (x1, x2, x3, (x4 + (nI 1)), h20) else some (x4, h17)
def p_X7_rake (x1 : Int32) (x2 : Int32) (h : kH) : Option (Int32 × kH) :=
  bd2 (p_X7_isRun x1 x2 h) fun v3 h1 => if v3 = 0 then some ((-1 : Int32), h1) else bd (p_X7_tryRun x1 x2 h1) fun h4 => bd2 (p_X4_countGood 79 28 h4) fun v8 h6 => bd (p_X2_copyFrom 51 31 h6) fun h9 => fx (fun K45 s => p_X7_rake_45 K45 s.1 s.2.1 s.2.2.1 s.2.2.2.1 s.2.2.2.2) FU (x1, x2, v8, (nI 0), h9)
def p_X7_black_138 (K32 : Int32 × Int32 × Int32 × Int32 × kH → Option (Int32 × kH)) (x1 : Int32) (x2 : Int32) (x3 : Int32) (x4 : Int32) (h : kH) : Option (Int32 × kH) :=
  bd (p_X2_pass 51 28 x3 h) fun h16 => K32 (x1, x2, x3, (x4 + (nI 1)), h16)
def p_X7_black_32 (K32 : Int32 × Int32 × Int32 × Int32 × kH → Option (Int32 × kH)) (x1 : Int32) (x2 : Int32) (x3 : Int32) (x4 : Int32) (h : kH) : Option (Int32 × kH) :=
  if x2 < x4 then some ((-4 : Int32), h) else gd (inb x1 6) (if (h 67 (x1).toNatClampNeg) = 0 then if (h 68 (x1).toNatClampNeg) = (nI 1) then some ((-4 : Int32), h) else bd (p_X2_copyFrom 71 51 h) fun h10 => bd (p_X1_coverAll 72 h10) fun h12 => bd (p_X7_goOn x4 x2 x3 h12) fun h14 => if (h14 88 (x1).toNatClampNeg) = (nI 2) then bd2 (p_X4_lossOf 79 28 x1 h14) fun v20 h18 => if v20 = 0 then some (x4, h18) else p_X7_black_138 K32 x1 x2 x3 x4 h18 else p_X7_black_138 K32 x1 x2 x3 x4 h14 else some ((-4 : Int32), h))
def p_X7_black (x1 : Int32) (x2 : Int32) (x3 : Int32) (h : kH) : Option (Int32 × kH) :=
  bd2 (p_X7_isPot x1 h) fun v3 h1 => if v3 = 0 then some ((-1 : Int32), h1) else bd2 (p_X7_isRun x2 x3 h1) fun v6 h4 => if v6 = 0 then some ((-1 : Int32), h4) else bd (p_X2_copyFrom 51 31 h4) fun h7 => fx (fun K32 s => p_X7_black_32 K32 s.1 s.2.1 s.2.2.1 s.2.2.2.1 s.2.2.2.2) FU (x1, x2, x3, (nI 0), h7)
def p_X7_isDraw (x0 : Int32) (h : kH) : Option (Int32 × kH) :=
  if x0 < 0 then some ((nI 0), h) else if (nI 10000) ≤ x0 then some ((nI 0), h) else some ((nI 1), h)
def p_X7_tryEvening_13 (K13 : Int32 × Int32 × Int32 × kH → Option (kH)) (x1 : Int32) (x2 : Int32) (x3 : Int32) (h : kH) : Option (kH) :=
  if x2 ≤ x3 then bd (p_X7_passPots (nI 0) x2 h) fun h3 => some h3 else bd2 (p_X5_drawnWind 28 x1 x3 h) fun v7 h5 => bd (p_X1_burn 72 28 v7 h5) fun h8 => bd (p_X1_tell 72 x3 h8) fun h10 => K13 (x1, x2, (x3 + (nI 1)), h10)
def p_X7_tryEvening (x1 : Int32) (x2 : Int32) (h : kH) : Option (kH) :=
  bd (p_X2_copyFrom 71 31 h) fun h1 => fx (fun K13 s => p_X7_tryEvening_13 K13 s.1 s.2.1 s.2.2.1 s.2.2.2) FU (x1, x2, (nI 0), h1)
def p_X7_evening (x1 : Int32) (x2 : Int32) (h : kH) : Option (Int32 × kH) :=
  bd2 (p_X7_isDraw x1 h) fun v3 h1 => if v3 = 0 then some ((-1 : Int32), h1) else bd2 (p_X7_isLength x2 h1) fun v6 h4 => if v6 = 0 then some ((-1 : Int32), h4) else bd (p_X7_tryEvening x1 x2 h4) fun h7 => bd2 (p_X4_countGood 79 28 h7) fun v11 h9 => some (v11, h9)
def p_X7_ten_30 (K30 : Int32 × Int32 × Int32 × Int32 × Int32 × kH → Option (Int32 × kH)) (x1 : Int32) (x2 : Int32) (x3 : Int32) (x4 : Int32) (x5 : Int32) (h : kH) : Option (Int32 × kH) :=
  if (nI 10) ≤ x5 then some (x4, h) else bd (p_X7_tryEvening (krem (x1 + x5) (nI 10000)) x2 h) fun h10 => bd2 (p_X4_lossOf 79 28 x3 h10) fun v14 h12 => if v14 = 0 then K30 (x1, x2, x3, (x4 + (nI 1)), (x5 + (nI 1)), h12) else K30 (x1, x2, x3, x4, (x5 + (nI 1)), h12)
def p_X7_ten (x1 : Int32) (x2 : Int32) (x3 : Int32) (h : kH) : Option (Int32 × kH) :=
  bd2 (p_X7_isDraw x1 h) fun v3 h1 => if v3 = 0 then some ((-1 : Int32), h1) else bd2 (p_X7_isLength x2 h1) fun v6 h4 => if v6 = 0 then some ((-1 : Int32), h4) else bd2 (p_X7_isPot x3 h4) fun v9 h7 => if v9 = 0 then some ((-1 : Int32), h7) else fx (fun K30 s => p_X7_ten_30 K30 s.1 s.2.1 s.2.2.1 s.2.2.2.1 s.2.2.2.2.1 s.2.2.2.2.2) FU (x1, x2, x3, (nI 0), (nI 0), h7)
def p_X7_sherd_160 (K59 : Int32 × Int32 × Int32 × Int32 × Int32 × kH → Option (Int32 × kH)) (K101 : Int32 × Int32 × Int32 × Int32 × Int32 × Int32 × kH → Option (Int32 × kH)) (x1 : Int32) (x2 : Int32) (x3 : Int32) (x4 : Int32) (x5 : Int32) (x6 : Int32) (s0 : Int32) (h : kH) : Option (Int32 × kH) :=
  if s0 = 0 then K101 (x1, x2, x3, x4, x5, (x6 + (nI 30)), h) else bd (p_X6_add x5 x6 h) fun h20 => K101 (x1, x2, x3, x4, x5, (x6 + (nI 30)), h20)
def p_X7_sherd_159 (K59 : Int32 × Int32 × Int32 × Int32 × Int32 × kH → Option (Int32 × kH)) (K101 : Int32 × Int32 × Int32 × Int32 × Int32 × Int32 × kH → Option (Int32 × kH)) (x1 : Int32) (x2 : Int32) (x3 : Int32) (x4 : Int32) (x5 : Int32) (x6 : Int32) (h : kH) : Option (Int32 × kH) :=
  p_X7_sherd_160 K59 K101 x1 x2 x3 x4 x5 x6 (nI 0) h
def p_X7_sherd_101 (K59 : Int32 × Int32 × Int32 × Int32 × Int32 × kH → Option (Int32 × kH)) (K101 : Int32 × Int32 × Int32 × Int32 × Int32 × Int32 × kH → Option (Int32 × kH)) (x1 : Int32) (x2 : Int32) (x3 : Int32) (x4 : Int32) (x5 : Int32) (x6 : Int32) (h : kH) : Option (Int32 × kH) :=
  if (nI 240) < x6 then K59 (x1, x2, x3, x4, (x5 + (nI 10)), h) else bd (p_X7_passPots (x6 - (nI 30)) x6 h) fun h15 => bd2 (p_X4_lossOf 79 28 x1 h15) fun v19 h17 => if v19 = x2 then gd (inb x1 6) (if (h17 88 (x1).toNatClampNeg) = x3 then p_X7_sherd_160 K59 K101 x1 x2 x3 x4 x5 x6 (nI 1) h17 else p_X7_sherd_159 K59 K101 x1 x2 x3 x4 x5 x6 h17) else p_X7_sherd_159 K59 K101 x1 x2 x3 x4 x5 x6 h17
def p_X7_sherd_59 (K59 : Int32 × Int32 × Int32 × Int32 × Int32 × kH → Option (Int32 × kH)) (x1 : Int32) (x2 : Int32) (x3 : Int32) (x4 : Int32) (x5 : Int32) (h : kH) : Option (Int32 × kH) :=
  if (nI 90) < x5 then bd2 (p_X6_told x4 h) fun v10 h8 => some (v10, h8) else bd (p_X4_copyFrom 79 39 h) fun h11 => gd (inb x1 6) (le_ (hs h11 82 (x1).toNatClampNeg x5) fun h14 => fx (fun K101 s => p_X7_sherd_101 K59 K101 s.1 s.2.1 s.2.2.1 s.2.2.2.1 s.2.2.2.2.1 s.2.2.2.2.2.1 s.2.2.2.2.2.2) FU (x1, x2, x3, x4, x5, (nI 30), h14))
def p_X7_sherd (x1 : Int32) (x2 : Int32) (x3 : Int32) (x4 : Int32) (h : kH) : Option (Int32 × kH) :=
  bd2 (p_X7_isPot x1 h) fun v3 h1 => if v3 = 0 then some ((-1 : Int32), h1) else if x2 < 0 then some ((-1 : Int32), h1) else if x2 ≤ (nI 5) then if x3 < 0 then some ((-1 : Int32), h1) else if (nI 2) < x3 then some ((-1 : Int32), h1) else if x4 < 0 then some ((-1 : Int32), h1) else if x4 ≤ (nI 4) then bd (p_X7_burnAfresh (nI 240) (nI 0) h1) fun h4 => bd (p_X6_clear h4) fun h6 => fx (fun K59 s => p_X7_sherd_59 K59 s.1 s.2.1 s.2.2.1 s.2.2.2.1 s.2.2.2.2.1 s.2.2.2.2.2) FU (x1, x2, x3, x4, (nI 0), h6) else some ((-1 : Int32), h1) else some ((-1 : Int32), h1)
def p_X7_keptAt (x1 : Int32) (h : kH) : Option (Nat × kH) :=
  if x1 = 0 then some (91, h) else some (111, h)
def p_X7_keep (h : kH) : Option (Int32 × kH) :=
  if (h 0 9) < (nI 2) then bd2 (p_X7_keptAt (h 0 9) h) fun n3 h1 => bd (p_X2_copyFrom n3 31 h1) fun h4 => le_ (hs h4 0 9 ((h4 0 9) + (nI 1))) fun h6 => some ((h6 0 9), h6) else some ((-3 : Int32), h)
def p_X7_back (h : kH) : Option (Int32 × kH) :=
  if (nI 1) ≤ (h 0 9) then le_ (hs h 0 9 ((h 0 9) - (nI 1))) fun h1 => bd2 (p_X7_keptAt (h1 0 9) h1) fun n4 h2 => bd (p_X2_copyFrom 31 n4 h2) fun h5 => some ((h5 0 9), h5) else some ((-2 : Int32), h)
def p_X7_count (x1 : Int32) (h : kH) : Option (Int32 × kH) :=
  if x1 = (nI 0) then bd2 (p_X5_cells 28 h) fun v3 h1 => some (v3, h1) else if x1 = (nI 1) then some ((h 39 0), h) else if x1 = (nI 2) then some ((h 0 1), h) else if x1 = (nI 3) then some ((h 31 2), h) else if x1 = (nI 4) then some ((h 0 11), h) else if x1 = (nI 5) then some ((h 0 9), h) else some ((-1 : Int32), h)
def p_X8_in (y0 : Int64) (y2 : Int64) (y4 : Int64) (h : kH) : Option (Int32 × kH) :=
  if (lg_cmp y0 y2) < 0 then some ((nI 0), h) else if 0 < (lg_cmp y0 y4) then some ((nI 0), h) else some ((nI 1), h)
def p_X8_write_34 (K34 : Int64 × Int32 × kH → Option (Int32 × kH)) (x2 : Int64) (x4 : Int32) (h : kH) : Option (Int32 × kH) :=
  if x4 < 0 then some ((h 135 0), h) else gd (inb (h 135 0) 500) (le_ (hs h 136 ((h 135 0)).toNatClampNeg (vp_nar .byte (((x2 >>> ((((nI 8) * x4)).toInt64 &&& 63))).toInt32).toInt8.toInt32)) fun h5 => le_ (hs h5 135 0 ((h5 135 0) + (nI 1))) fun h6 => K34 (x2, (x4 + (-1 : Int32)), h6))
def p_X8_write (x1 : Int32) (y2 : Int64) (h : kH) : Option (Int32 × kH) :=
  bd2 (p_X8_in (x1).toInt64 (1 : Int64) (8 : Int64) h) fun v3 h1 => if v3 = 0 then some ((-1 : Int32), h1) else if ((h1 135 0) + x1) ≤ (nI 500) then fx (fun K34 s => p_X8_write_34 K34 s.1 s.2.1 s.2.2) FU (y2, (x1 - (nI 1)), h1) else some ((-3 : Int32), h1)
def p_X8_wipe (h : kH) : Option (Int32 × kH) :=
  le_ (h 135 0) fun v1 => le_ (hs h 135 0 (nI 0)) fun h2 => some (v1, h2)
def p_X8_number_80 (x1 : Int32) (x2 : Int32) (h : kH) : Option (Int32 × kH) :=
  bd2 (p_X8_in (x2).toInt64 (1 : Int64) (3 : Int64) h) fun v3 h1 => if v3 = 0 then some ((-1 : Int32), h1) else some (x1, h1)
def p_X8_number_63 (K4 : Int32 × Int32 × kH → Option (Int32 × kH)) (x2 : Int32) (s0 : Int32) (h : kH) : Option (Int32 × kH) :=
  le_ (hs h 135 2 ((h 135 2) + (nI 1))) fun h8 => K4 (s0, (x2 + (nI 1)), h8)
def p_X8_number_4 (K4 : Int32 × Int32 × kH → Option (Int32 × kH)) (x1 : Int32) (x2 : Int32) (h : kH) : Option (Int32 × kH) :=
  if (h 135 0) ≤ (h 135 2) then p_X8_number_80 x1 x2 h else gd (inb (h 135 2) 500) (bd2 (p_X8_in ((h 136 ((h 135 2)).toNatClampNeg)).toInt64 (48 : Int64) (57 : Int64) h) fun v7 h5 => if v7 = 0 then p_X8_number_80 x1 x2 h5 else if (nI 3) ≤ x2 then p_X8_number_63 K4 x2 x1 h5 else gd (inb (h5 135 2) 500) (p_X8_number_63 K4 x2 ((((nI 10) * x1) + (h5 136 ((h5 135 2)).toNatClampNeg)) - (nI 48)) h5))
def p_X8_number (h : kH) : Option (Int32 × kH) :=
  fx (fun K4 s => p_X8_number_4 K4 s.1 s.2.1 s.2.2) FU ((nI 0), (nI 0), h)
def p_X8_parts (x0 : Int32) (h : kH) : Option (Int32 × kH) :=
  if x0 = (nI 112) then some ((nI 6), h) else if x0 = (nI 99) then some ((nI 4), h) else if x0 = (nI 107) then some ((nI 3), h) else if x0 = (nI 119) then some ((nI 2), h) else if x0 = (nI 111) then some ((nI 2), h) else if x0 = (nI 115) then some ((nI 2), h) else if x0 = (nI 104) then some ((nI 2), h) else if x0 = (nI 100) then some ((nI 2), h) else if x0 = (nI 108) then some ((nI 1), h) else if x0 = (nI 118) then some ((nI 1), h) else some ((nI 0), h)
def p_X8_isIn (x1 : Int32) (x2 : Int32) (x3 : Int32) (h : kH) : Option (Int32 × kH) :=
  gd (inb x1 6) (bd2 (p_X8_in ((h 151 (x1).toNatClampNeg)).toInt64 (x2).toInt64 (x3).toInt64 h) fun v4 h2 => gd (decide (v4 &&& 1 = v4)) (some (v4, h2)))
def p_X8_isPlaced_206 (x2 : Int32) (s0 : Int32) (h : kH) : Option (Int32 × kH) :=
  gd (inb (s0 + x2) 120) (le_ (hs h 142 ((s0 + x2)).toNatClampNeg (nI 1)) fun h5 => some ((nI 1), h5))
def p_X8_isPlaced_142 (K142 : Int32 × kH → Option (Int32 × kH)) (x3 : Int32) (h : kH) : Option (Int32 × kH) :=
  if (nI 6) ≤ x3 then gd (inb (nI 1) 2) (le_ (hs h 138 ((nI 1)).toNatClampNeg ((h 138 ((nI 1)).toNatClampNeg) + (nI 1))) fun h20 => some ((nI 1), h20)) else gd (inb (nI 1) 2) (gd (inb x3 6) (gd (inb (((nI 6) * (h 138 ((nI 1)).toNatClampNeg)) + x3) 36) (le_ (hs h 141 ((((nI 6) * (h 138 ((nI 1)).toNatClampNeg)) + x3)).toNatClampNeg (h 151 (x3).toNatClampNeg)) fun h24 => K142 ((x3 + (nI 1)), h24))))
def p_X8_isPlaced (x1 : Int32) (h : kH) : Option (Int32 × kH) :=
  gd (inb (nI 0) 6) (gd (inb (nI 1) 6) (le_ ((h 151 ((nI 0)).toNatClampNeg) + ((nI 6) * (h 151 ((nI 1)).toNatClampNeg))) fun v3 => if x1 = (nI 99) then bd2 (p_X8_isIn (nI 2) (nI 0) (nI 2) h) fun v27 h25 => if v27 = 0 then some ((nI 0), h25) else bd2 (p_X8_isIn (nI 3) (nI 0) (nI 199) h25) fun v30 h28 => if v30 = 0 then some ((nI 0), h28) else gd (inb (nI 3) 6) (gd (inb v3 120) (le_ (hs h28 142 (v3).toNatClampNeg (h28 151 ((nI 3)).toNatClampNeg)) fun h33 => gd (inb (nI 2) 6) (gd (inb ((nI 30) + v3) 120) (le_ (hs h33 142 (((nI 30) + v3)).toNatClampNeg (h33 151 ((nI 2)).toNatClampNeg)) fun h36 => some ((nI 1), h36))))) else if x1 = (nI 112) then bd2 (p_X8_isIn (nI 2) (nI 1) (nI 9) h) fun v8 h6 => if v8 = 0 then some ((nI 0), h6) else bd2 (p_X8_isIn (nI 3) (nI 0) (nI 99) h6) fun v11 h9 => if v11 = 0 then some ((nI 0), h9) else bd2 (p_X8_isIn (nI 4) (nI 0) (nI 9) h9) fun v14 h12 => if v14 = 0 then some ((nI 0), h12) else bd2 (p_X8_isIn (nI 5) (nI 1) (nI 99) h12) fun v17 h15 => if v17 = 0 then some ((nI 0), h15) else gd (inb (nI 1) 2) (if (h15 138 ((nI 1)).toNatClampNeg) = (nI 6) then some ((nI 0), h15) else fx (fun K142 s => p_X8_isPlaced_142 K142 s.1 s.2) FU ((nI 0), h15)) else if x1 = (nI 111) then p_X8_isPlaced_206 v3 (nI 60) h else p_X8_isPlaced_206 v3 (nI 90) h))
def p_X8_isGood (x1 : Int32) (h : kH) : Option (Int32 × kH) :=
  if x1 = (nI 119) then gd (inb (nI 0) 6) (gd (inb (nI 14) 28) (le_ (hs h 137 ((nI 14)).toNatClampNeg (h 151 ((nI 0)).toNatClampNeg)) fun h66 => gd (inb (nI 1) 6) (gd (inb (nI 15) 28) (le_ (hs h66 137 ((nI 15)).toNatClampNeg (h66 151 ((nI 1)).toNatClampNeg)) fun h69 => bd2 (p_X8_isIn (nI 0) (nI 2) (nI 6) h69) fun v72 h70 => if v72 = 0 then some ((nI 0), h70) else bd2 (p_X8_isIn (nI 1) (nI 2) (nI 5) h70) fun v75 h73 => if v75 = 0 then some ((nI 0), h73) else some ((nI 1), h73))))) else if x1 = (nI 107) then bd2 (p_X8_isIn (nI 0) (nI 0) (nI 2) h) fun v50 h48 => if v50 = 0 then some ((nI 0), h48) else gd (inb (nI 0) 6) (gd (inb (nI 1) 6) (gd (inb ((nI 22) + (h48 151 ((nI 0)).toNatClampNeg)) 28) (le_ (hs h48 137 (((nI 22) + (h48 151 ((nI 0)).toNatClampNeg))).toNatClampNeg (h48 151 ((nI 1)).toNatClampNeg)) fun h54 => gd (inb (nI 2) 6) (gd (inb ((nI 25) + (h54 151 ((nI 0)).toNatClampNeg)) 28) (le_ (hs h54 137 (((nI 25) + (h54 151 ((nI 0)).toNatClampNeg))).toNatClampNeg (h54 151 ((nI 2)).toNatClampNeg)) fun h57 => bd2 (p_X8_isIn (nI 1) (nI 1) (nI 20) h57) fun v60 h58 => if v60 = 0 then some ((nI 0), h58) else bd2 (p_X8_isIn (nI 2) (nI 1) (nI 60) h58) fun v63 h61 => if v63 = 0 then some ((nI 0), h61) else some ((nI 1), h61)))))) else if x1 = (nI 108) then gd (inb (nI 0) 6) (gd (inb (nI 16) 28) (le_ (hs h 137 ((nI 16)).toNatClampNeg (h 151 ((nI 0)).toNatClampNeg)) fun h43 => bd2 (p_X8_isIn (nI 0) (nI 1) (nI 30) h43) fun v46 h44 => gd (decide (v46 &&& 1 = v46)) (some (v46, h44)))) else if x1 = (nI 118) then gd (inb (nI 0) 6) (gd (inb (nI 21) 28) (le_ (hs h 137 ((nI 21)).toNatClampNeg (h 151 ((nI 0)).toNatClampNeg)) fun h36 => bd2 (p_X8_isIn (nI 0) (nI 0) (nI 9) h36) fun v39 h37 => gd (decide (v39 &&& 1 = v39)) (some (v39, h37)))) else if x1 = (nI 104) then gd (inb (nI 0) 6) (gd (inb (nI 17) 28) (le_ (hs h 137 ((nI 17)).toNatClampNeg (h 151 ((nI 0)).toNatClampNeg)) fun h24 => gd (inb (nI 1) 6) (gd (inb (nI 18) 28) (le_ (hs h24 137 ((nI 18)).toNatClampNeg (h24 151 ((nI 1)).toNatClampNeg)) fun h27 => bd2 (p_X8_isIn (nI 0) (nI 30) (nI 99) h27) fun v30 h28 => if v30 = 0 then some ((nI 0), h28) else bd2 (p_X8_isIn (nI 1) (nI 1) (nI 60) h28) fun v33 h31 => if v33 = 0 then some ((nI 0), h31) else some ((nI 1), h31))))) else if x1 = (nI 100) then gd (inb (nI 0) 6) (gd (inb (nI 19) 28) (le_ (hs h 137 ((nI 19)).toNatClampNeg (h 151 ((nI 0)).toNatClampNeg)) fun h12 => gd (inb (nI 1) 6) (gd (inb (nI 20) 28) (le_ (hs h12 137 ((nI 20)).toNatClampNeg (h12 151 ((nI 1)).toNatClampNeg)) fun h15 => bd2 (p_X8_isIn (nI 0) (nI 10) (nI 300) h15) fun v18 h16 => if v18 = 0 then some ((nI 0), h16) else bd2 (p_X8_isIn (nI 1) (nI 10) (nI 300) h16) fun v21 h19 => if v21 = 0 then some ((nI 0), h19) else some ((nI 1), h19))))) else bd2 (p_X8_isIn (nI 0) (nI 0) (nI 5) h) fun v3 h1 => if v3 = 0 then some ((nI 0), h1) else bd2 (p_X8_isIn (nI 1) (nI 0) (nI 4) h1) fun v6 h4 => if v6 = 0 then some ((nI 0), h4) else bd2 (p_X8_isPlaced x1 h4) fun v9 h7 => if v9 = 0 then some ((nI 0), h7) else some ((nI 1), h7)
def p_X8_isItem_178 (x1 : Int32) (s0 : Int32) (h : kH) : Option (Int32 × kH) :=
  le_ (hs h 135 2 ((h 135 2) + (nI 1))) fun h7 => if s0 = 0 then some ((nI 0), h7) else bd2 (p_X8_isGood x1 h7) fun v10 h8 => if v10 = 0 then some ((nI 0), h8) else some ((nI 1), h8)
def p_X8_isItem_177 (x1 : Int32) (h : kH) : Option (Int32 × kH) :=
  p_X8_isItem_178 x1 (nI 0) h
def p_X8_isItem_144 (x1 : Int32) (x3 : Int32) (h : kH) : Option (Int32 × kH) :=
  if x3 = 0 then p_X8_isItem_177 x1 h else if (h 135 0) ≤ (h 135 2) then p_X8_isItem_177 x1 h else gd (inb (h 135 2) 500) (if (h 136 ((h 135 2)).toNatClampNeg) = (nI 59) then p_X8_isItem_178 x1 (nI 1) h else p_X8_isItem_177 x1 h)
def p_X8_isItem_137 (K38 : Int32 × Int32 × Int32 × Int32 × kH → Option (Int32 × kH)) (x1 : Int32) (x2 : Int32) (x4 : Int32) (s0 : Int32) (h : kH) : Option (Int32 × kH) :=
  K38 (x1, x2, s0, (x4 + (nI 1)), h)
def p_X8_isItem_121 (K38 : Int32 × Int32 × Int32 × Int32 × kH → Option (Int32 × kH)) (x1 : Int32) (x2 : Int32) (x4 : Int32) (s0 : Int32) (s1 : Int32) (h : kH) : Option (Int32 × kH) :=
  gd (inb s1 6) (le_ (hs h 151 (s1).toNatClampNeg s0) fun h14 => gd (inb x4 6) (if (h14 151 (x4).toNatClampNeg) < 0 then p_X8_isItem_137 K38 x1 x2 x4 (nI 0) h14 else p_X8_isItem_137 K38 x1 x2 x4 (nI 1) h14))
def p_X8_isItem_99 (K38 : Int32 × Int32 × Int32 × Int32 × kH → Option (Int32 × kH)) (x1 : Int32) (x2 : Int32) (x3 : Int32) (x4 : Int32) (s0 : Int32) (s1 : Int32) (h : kH) : Option (Int32 × kH) :=
  le_ (hs h 135 2 (s1 + s0)) fun h12 => if x3 = 0 then p_X8_isItem_121 K38 x1 x2 x4 (-1 : Int32) x4 h12 else bd2 (p_X8_number h12) fun v18 h16 => p_X8_isItem_121 K38 x1 x2 x4 v18 x4 h16
def p_X8_isItem_83 (K38 : Int32 × Int32 × Int32 × Int32 × kH → Option (Int32 × kH)) (x1 : Int32) (x2 : Int32) (x4 : Int32) (s0 : Int32) (h : kH) : Option (Int32 × kH) :=
  if x4 = 0 then p_X8_isItem_99 K38 x1 x2 s0 x4 (nI 0) (h 135 2) h else p_X8_isItem_99 K38 x1 x2 s0 x4 (nI 1) (h 135 2) h
def p_X8_isItem_78 (K38 : Int32 × Int32 × Int32 × Int32 × kH → Option (Int32 × kH)) (x1 : Int32) (x2 : Int32) (x4 : Int32) (h : kH) : Option (Int32 × kH) :=
  p_X8_isItem_83 K38 x1 x2 x4 (nI 1) h
def p_X8_isItem_82 (K38 : Int32 × Int32 × Int32 × Int32 × kH → Option (Int32 × kH)) (x1 : Int32) (x2 : Int32) (x4 : Int32) (h : kH) : Option (Int32 × kH) :=
  p_X8_isItem_83 K38 x1 x2 x4 (nI 0) h
def p_X8_isItem_38 (K38 : Int32 × Int32 × Int32 × Int32 × kH → Option (Int32 × kH)) (x1 : Int32) (x2 : Int32) (x3 : Int32) (x4 : Int32) (h : kH) : Option (Int32 × kH) :=
  if x2 ≤ x4 then p_X8_isItem_144 x1 x3 h else if x3 = 0 then p_X8_isItem_144 x1 x3 h else if x4 = 0 then p_X8_isItem_78 K38 x1 x2 x4 h else if (h 135 0) ≤ (h 135 2) then p_X8_isItem_82 K38 x1 x2 x4 h else gd (inb (h 135 2) 500) (if (h 136 ((h 135 2)).toNatClampNeg) = (nI 44) then p_X8_isItem_78 K38 x1 x2 x4 h else p_X8_isItem_82 K38 x1 x2 x4 h)
def p_X8_isItem_34 (x1 : Int32) (x2 : Int32) (s0 : Int32) (h : kH) : Option (Int32 × kH) :=
  fx (fun K38 s => p_X8_isItem_38 K38 s.1 s.2.1 s.2.2.1 s.2.2.2.1 s.2.2.2.2) FU (x1, x2, s0, (nI 0), h)
def p_X8_isItem (h : kH) : Option (Int32 × kH) :=
  gd (inb (h 135 2) 500) (le_ (h 136 ((h 135 2)).toNatClampNeg) fun v2 => le_ (hs h 135 2 ((h 135 2) + (nI 1))) fun h3 => bd2 (p_X8_parts v2 h3) fun v6 h4 => if v6 ≤ 0 then p_X8_isItem_34 v2 v6 (nI 0) h4 else p_X8_isItem_34 v2 v6 (nI 1) h4)
def p_X8_begins_9 (K9 : Int32 × kH → Option (kH)) (x1 : Int32) (h : kH) : Option (kH) :=
  if (nI 120) ≤ x1 then gd (inb (nI 14) 28) (le_ (hs h 137 ((nI 14)).toNatClampNeg (nI 4)) fun h4 => gd (inb (nI 15) 28) (le_ (hs h4 137 ((nI 15)).toNatClampNeg (nI 3)) fun h6 => gd (inb (nI 16) 28) (le_ (hs h6 137 ((nI 16)).toNatClampNeg (nI 8)) fun h8 => gd (inb (nI 17) 28) (le_ (hs h8 137 ((nI 17)).toNatClampNeg (nI 75)) fun h10 => gd (inb (nI 18) 28) (le_ (hs h10 137 ((nI 18)).toNatClampNeg (nI 10)) fun h12 => gd (inb (nI 19) 28) (le_ (hs h12 137 ((nI 19)).toNatClampNeg (nI 60)) fun h14 => gd (inb (nI 20) 28) (le_ (hs h14 137 ((nI 20)).toNatClampNeg (nI 90)) fun h16 => gd (inb (nI 21) 28) (le_ (hs h16 137 ((nI 21)).toNatClampNeg (nI 0)) fun h18 => gd (inb (nI 22) 28) (le_ (hs h18 137 ((nI 22)).toNatClampNeg (nI 6)) fun h20 => gd (inb (nI 23) 28) (le_ (hs h20 137 ((nI 23)).toNatClampNeg (nI 2)) fun h22 => gd (inb (nI 24) 28) (le_ (hs h22 137 ((nI 24)).toNatClampNeg (nI 15)) fun h24 => gd (inb (nI 25) 28) (le_ (hs h24 137 ((nI 25)).toNatClampNeg (nI 20)) fun h26 => gd (inb (nI 26) 28) (le_ (hs h26 137 ((nI 26)).toNatClampNeg (nI 40)) fun h28 => gd (inb (nI 27) 28) (le_ (hs h28 137 ((nI 27)).toNatClampNeg (nI 8)) fun h30 => some h30)))))))))))))) else gd (inb x1 120) (le_ (hs h 142 (x1).toNatClampNeg (nI 0)) fun h32 => K9 ((x1 + (nI 1)), h32))
def p_X8_begins (h : kH) : Option (kH) :=
  gd (inb (nI 1) 2) (le_ (hs h 138 ((nI 1)).toNatClampNeg (nI 0)) fun h2 => fx (fun K9 s => p_X8_begins_9 K9 s.1 s.2) FU ((nI 0), h2))
def p_X8_cells (h : kH) : Option (Int32 × kH) :=
  gd (inb (nI 0) 28) (gd (inb (nI 1) 28) (some (((h 137 ((nI 0)).toNatClampNeg) * (h 137 ((nI 1)).toNatClampNeg)), h)))
def p_X8_takes_179 (K179 : Int32 × kH → Option (kH)) (x1 : Int32) (h : kH) : Option (kH) :=
  gd (inb (nI 0) 2) (if (h 138 ((nI 0)).toNatClampNeg) ≤ x1 then le_ (hs h 135 11 (nI 0)) fun h8 => le_ (hs h8 135 10 (nI 0)) fun h9 => some h9 else le_ ((nI 150) + ((nI 8) * x1)) fun v10 => gd (inb ((nI 6) * x1) 36) (gd (inb (nI 0) 28) (gd (inb (((nI 6) * x1) + (nI 1)) 36) (gd (inb (v10 + (nI 0)) 800) (le_ (hs h 143 ((v10 + (nI 0))).toNatClampNeg ((h 141 (((nI 6) * x1)).toNatClampNeg) + ((h 137 ((nI 0)).toNatClampNeg) * (h 141 ((((nI 6) * x1) + (nI 1))).toNatClampNeg)))) fun h15 => gd (inb (v10 + (nI 1)) 800) (le_ (hs h15 143 ((v10 + (nI 1))).toNatClampNeg (nI 20)) fun h17 => gd (inb (((nI 6) * x1) + (nI 3)) 36) (gd (inb (v10 + (nI 2)) 800) (le_ (hs h17 143 ((v10 + (nI 2))).toNatClampNeg (h17 141 ((((nI 6) * x1) + (nI 3))).toNatClampNeg)) fun h20 => gd (inb (((nI 6) * x1) + (nI 4)) 36) (gd (inb (v10 + (nI 7)) 800) (le_ (hs h20 143 ((v10 + (nI 7))).toNatClampNeg (h20 141 ((((nI 6) * x1) + (nI 4))).toNatClampNeg)) fun h23 => gd (inb (((nI 6) * x1) + (nI 2)) 36) (gd (inb x1 6) (le_ (hs h23 139 (x1).toNatClampNeg (h23 141 ((((nI 6) * x1) + (nI 2))).toNatClampNeg)) fun h26 => gd (inb (((nI 6) * x1) + (nI 5)) 36) (le_ (hs h26 140 (x1).toNatClampNeg (h26 141 ((((nI 6) * x1) + (nI 5))).toNatClampNeg)) fun h28 => K179 ((x1 + (nI 1)), h28))))))))))))))
def p_X8_takes_65 (K65 : Int32 × kH → Option (kH)) (x1 : Int32) (h : kH) : Option (kH) :=
  bd2 (p_X8_cells h) fun v6 h4 => if v6 ≤ x1 then fx (fun K179 s => p_X8_takes_179 K179 s.1 s.2) FU ((nI 0), h4) else gd (inb (nI 0) 28) (gd (decide (¬ (h4 137 ((nI 0)).toNatClampNeg) = 0)) (gd (decide (¬ (h4 137 ((nI 0)).toNatClampNeg) = 0)) (le_ ((krem x1 (h4 137 ((nI 0)).toNatClampNeg)) + ((nI 6) * (x1 / (h4 137 ((nI 0)).toNatClampNeg)))) fun v32 => gd (inb x1 800) (le_ (hs h4 143 (x1).toNatClampNeg (nI 20)) fun h34 => gd (inb v32 120) (gd (inb ((nI 30) + x1) 800) (le_ (hs h34 143 (((nI 30) + x1)).toNatClampNeg (h34 142 (v32).toNatClampNeg)) fun h37 => gd (inb ((nI 30) + v32) 120) (gd (inb ((nI 60) + x1) 800) (le_ (hs h37 143 (((nI 60) + x1)).toNatClampNeg (h37 142 (((nI 30) + v32)).toNatClampNeg)) fun h40 => gd (inb ((nI 60) + v32) 120) (gd (inb ((nI 90) + x1) 800) (le_ (hs h40 143 (((nI 90) + x1)).toNatClampNeg (h40 142 (((nI 60) + v32)).toNatClampNeg)) fun h43 => gd (inb ((nI 90) + v32) 120) (gd (inb ((nI 120) + x1) 800) (le_ (hs h43 143 (((nI 120) + x1)).toNatClampNeg (h43 142 (((nI 90) + v32)).toNatClampNeg)) fun h46 => K65 ((x1 + (nI 1)), h46)))))))))))))
def p_X8_takes_43 (K43 : Int32 × kH → Option (kH)) (x1 : Int32) (h : kH) : Option (kH) :=
  if (nI 200) ≤ x1 then fx (fun K65 s => p_X8_takes_65 K65 s.1 s.2) FU ((nI 0), h) else gd (inb x1 800) (le_ (hs h 143 (x1).toNatClampNeg (nI 0)) fun h48 => K43 ((x1 + (nI 1)), h48))
def p_X8_takes_2 (K2 : Int32 × kH → Option (kH)) (x1 : Int32) (h : kH) : Option (kH) :=
  if (nI 14) ≤ x1 then gd (inb (nI 1) 2) (gd (inb (nI 0) 2) (le_ (hs h 138 ((nI 0)).toNatClampNeg (h 138 ((nI 1)).toNatClampNeg)) fun h3 => fx (fun K43 s => p_X8_takes_43 K43 s.1 s.2) FU ((nI 0), h3))) else gd (inb ((nI 14) + x1) 28) (gd (inb x1 28) (le_ (hs h 137 (x1).toNatClampNeg (h 137 (((nI 14) + x1)).toNatClampNeg)) fun h51 => K2 ((x1 + (nI 1)), h51)))
def p_X8_takes (h : kH) : Option (kH) :=
  fx (fun K2 s => p_X8_takes_2 K2 s.1 s.2) FU ((nI 0), h)
def p_X8_fault_9 (K9 : kH → Option (Int32 × kH)) (h : kH) : Option (Int32 × kH) :=
  if (h 135 0) ≤ (h 135 2) then some ((-4 : Int32), h) else le_ (h 135 2) fun v4 => bd2 (p_X8_isItem h) fun v7 h5 => if v7 = 0 then some (v4, h5) else K9 (h5)
def p_X8_fault (h : kH) : Option (Int32 × kH) :=
  le_ (hs h 135 2 (nI 0)) fun h1 => bd (p_X8_begins h1) fun h2 => fx (fun K9 s => p_X8_fault_9 K9 s) FU (h2)
def p_X8_lay_139 (K14 : Int32 × kH → Option (Int32 × kH)) (x1 : Int32) (x2 : Int32) (h : kH) : Option (Int32 × kH) :=
  if x2 = 0 then some ((-2 : Int32), h) else K14 ((x1 + (nI 1)), h)
def p_X8_lay_132 (K14 : Int32 × kH → Option (Int32 × kH)) (K72 : Int32 × Int32 × Int32 × kH → Option (Int32 × kH)) (x1 : Int32) (x3 : Int32) (s0 : Int32) (h : kH) : Option (Int32 × kH) :=
  K72 (x1, s0, (x3 + (nI 1)), h)
def p_X8_lay_127 (K14 : Int32 × kH → Option (Int32 × kH)) (K72 : Int32 × Int32 × Int32 × kH → Option (Int32 × kH)) (x1 : Int32) (x3 : Int32) (h : kH) : Option (Int32 × kH) :=
  p_X8_lay_132 K14 K72 x1 x3 (nI 1) h
def p_X8_lay_72 (K14 : Int32 × kH → Option (Int32 × kH)) (K72 : Int32 × Int32 × Int32 × kH → Option (Int32 × kH)) (x1 : Int32) (x2 : Int32) (x3 : Int32) (h : kH) : Option (Int32 × kH) :=
  if x1 ≤ x3 then p_X8_lay_139 K14 x1 x2 h else if x2 = 0 then p_X8_lay_139 K14 x1 x2 h else gd (inb ((nI 6) * x1) 36) (gd (inb ((nI 6) * x3) 36) (if (h 141 (((nI 6) * x1)).toNatClampNeg) = (h 141 (((nI 6) * x3)).toNatClampNeg) then gd (inb (((nI 6) * x1) + (nI 1)) 36) (gd (inb (((nI 6) * x3) + (nI 1)) 36) (if (h 141 ((((nI 6) * x1) + (nI 1))).toNatClampNeg) = (h 141 ((((nI 6) * x3) + (nI 1))).toNatClampNeg) then p_X8_lay_132 K14 K72 x1 x3 (nI 0) h else p_X8_lay_127 K14 K72 x1 x3 h)) else p_X8_lay_127 K14 K72 x1 x3 h))
def p_X8_lay_69 (K14 : Int32 × kH → Option (Int32 × kH)) (x1 : Int32) (s0 : Int32) (h : kH) : Option (Int32 × kH) :=
  fx (fun K72 s => p_X8_lay_72 K14 K72 s.1 s.2.1 s.2.2.1 s.2.2.2) FU (x1, s0, (nI 0), h)
def p_X8_lay_68 (K14 : Int32 × kH → Option (Int32 × kH)) (x1 : Int32) (h : kH) : Option (Int32 × kH) :=
  p_X8_lay_69 K14 x1 (nI 0) h
def p_X8_lay_14 (K14 : Int32 × kH → Option (Int32 × kH)) (x1 : Int32) (h : kH) : Option (Int32 × kH) :=
  gd (inb (nI 1) 2) (if (h 138 ((nI 1)).toNatClampNeg) ≤ x1 then bd (p_X8_takes h) fun h5 => bd2 (p_X8_cells h5) fun v9 h7 => some (v9, h7) else gd (inb ((nI 6) * x1) 36) (gd (inb (nI 14) 28) (if (h 137 ((nI 14)).toNatClampNeg) ≤ (h 141 (((nI 6) * x1)).toNatClampNeg) then p_X8_lay_68 K14 x1 h else gd (inb (((nI 6) * x1) + (nI 1)) 36) (gd (inb (nI 15) 28) (if (h 137 ((nI 15)).toNatClampNeg) ≤ (h 141 ((((nI 6) * x1) + (nI 1))).toNatClampNeg) then p_X8_lay_68 K14 x1 h else p_X8_lay_69 K14 x1 (nI 1) h)))))
def p_X8_lay (h : kH) : Option (Int32 × kH) :=
  bd2 (p_X8_fault h) fun v3 h1 => if v3 = (-4 : Int32) then fx (fun K14 s => p_X8_lay_14 K14 s.1 s.2) FU ((nI 0), h1) else some ((-2 : Int32), h1)
def p_X8_isCell (x1 : Int32) (h : kH) : Option (Int32 × kH) :=
  bd2 (p_X8_cells h) fun v3 h1 => bd2 (p_X8_in (x1).toInt64 (0 : Int64) ((v3 - (nI 1))).toInt64 h1) fun v6 h4 => gd (decide (v6 &&& 1 = v6)) (some (v6, h4))
def p_X8_isPot (x1 : Int32) (h : kH) : Option (Int32 × kH) :=
  gd (inb (nI 0) 2) (bd2 (p_X8_in (x1).toInt64 (0 : Int64) (((h 138 ((nI 0)).toNatClampNeg) - (nI 1))).toInt64 h) fun v4 h2 => gd (decide (v4 &&& 1 = v4)) (some (v4, h2)))
def p_X8_copies_2 (K2 : Int32 × Int32 × Int32 × kH → Option (kH)) (x1 : Int32) (x2 : Int32) (x3 : Int32) (h : kH) : Option (kH) :=
  if (nI 200) ≤ x3 then some h else gd (inb (((nI 200) * x1) + x3) 800) (gd (inb (((nI 200) * x2) + x3) 800) (le_ (hs h 143 ((((nI 200) * x2) + x3)).toNatClampNeg (h 143 ((((nI 200) * x1) + x3)).toNatClampNeg)) fun h3 => K2 (x1, x2, (x3 + (nI 1)), h3)))
def p_X8_copies (x1 : Int32) (x2 : Int32) (h : kH) : Option (kH) :=
  fx (fun K2 s => p_X8_copies_2 K2 s.1 s.2.1 s.2.2.1 s.2.2.2) FU (x1, x2, (nI 0), h)
def p_X8_potAt (x0 : Int32) (x1 : Int32) (h : kH) : Option (Int32 × kH) :=
  some (((((nI 200) * x0) + (nI 150)) + ((nI 8) * x1)), h)
def p_X8_isWhole (x1 : Int32) (x2 : Int32) (h : kH) : Option (Int32 × kH) :=
  bd2 (p_X8_potAt x1 x2 h) fun v3 h1 => gd (inb (v3 + (nI 4)) 800) (if (h1 143 ((v3 + (nI 4))).toNatClampNeg) = 0 then some ((nI 1), h1) else some ((nI 0), h1))
def p_X8_lossOf (x1 : Int32) (x2 : Int32) (h : kH) : Option (Int32 × kH) :=
  bd2 (p_X8_potAt x1 x2 h) fun v3 h1 => gd (inb (v3 + (nI 4)) 800) (if (h1 143 ((v3 + (nI 4))).toNatClampNeg) ≤ 0 then gd (inb (v3 + (nI 3)) 800) (gd (inb (nI 4) 28) (if (h1 143 ((v3 + (nI 3))).toNatClampNeg) < (h1 137 ((nI 4)).toNatClampNeg) then some ((nI 5), h1) else some ((nI 0), h1))) else some ((h1 143 ((v3 + (nI 4))).toNatClampNeg), h1))
def p_X8_cell_41 (K41 : Int32 × Int32 × kH → Option (Int32 × kH)) (x1 : Int32) (x3 : Int32) (h : kH) : Option (Int32 × kH) :=
  gd (inb (nI 0) 2) (if (h 138 ((nI 0)).toNatClampNeg) ≤ x3 then some ((-4 : Int32), h) else bd2 (p_X8_isWhole (nI 0) x3 h) fun v10 h8 => if v10 = 0 then K41 (x1, (x3 + (nI 1)), h8) else bd2 (p_X8_potAt (nI 0) x3 h8) fun v13 h11 => gd (inb (v13 + (nI 0)) 800) (if (h11 143 ((v13 + (nI 0))).toNatClampNeg) = x1 then some (x3, h11) else K41 (x1, (x3 + (nI 1)), h11)))
def p_X8_cell (x1 : Int32) (x2 : Int32) (h : kH) : Option (Int32 × kH) :=
  bd2 (p_X8_isCell x1 h) fun v3 h1 => if v3 = 0 then some ((-1 : Int32), h1) else bd2 (p_X8_in (x2).toInt64 (0 : Int64) (5 : Int64) h1) fun v6 h4 => if v6 = 0 then some ((-1 : Int32), h4) else if (nI 5) ≤ x2 then fx (fun K41 s => p_X8_cell_41 K41 s.1 s.2.1 s.2.2) FU (x1, (nI 0), h4) else gd (inb (((nI 30) * x2) + x1) 800) (some ((h4 143 ((((nI 30) * x2) + x1)).toNatClampNeg), h4))
def p_X8_pot (x1 : Int32) (x2 : Int32) (h : kH) : Option (Int32 × kH) :=
  bd2 (p_X8_isPot x1 h) fun v3 h1 => if v3 = 0 then some ((-1 : Int32), h1) else bd2 (p_X8_in (x2).toInt64 (0 : Int64) (5 : Int64) h1) fun v6 h4 => if v6 = 0 then some ((-1 : Int32), h4) else if x2 = (nI 4) then bd2 (p_X8_lossOf (nI 0) x1 h4) fun v13 h11 => some (v13, h11) else bd2 (p_X8_potAt (nI 0) x1 h4) fun v9 h7 => gd (inb (v9 + x2) 800) (some ((h7 143 ((v9 + x2)).toNatClampNeg), h7))
def p_X8_burns_91 (K8 : Int32 × Int32 × kH → Option (kH)) (x2 : Int32) (x3 : Int32) (x4 : Int32) (s0 : Int32) (h : kH) : Option (kH) :=
  gd (inb ((x2 + (nI 30)) + x3) 800) (le_ (hs h 143 (((x2 + (nI 30)) + x3)).toNatClampNeg ((h 143 (((x2 + (nI 30)) + x3)).toNatClampNeg) - s0)) fun h11 => gd (inb (x2 + x3) 800) (gd (inb ((nI 11) + x4) 28) (le_ (hs h11 143 ((x2 + x3)).toNatClampNeg ((h11 143 ((x2 + x3)).toNatClampNeg) + (s0 * (h11 137 (((nI 11) + x4)).toNatClampNeg)))) fun h14 => gd (inb x3 30) (le_ (hs h14 145 (x3).toNatClampNeg (nI 0)) fun h16 => K8 (x2, (x3 + (nI 1)), h16)))))
def p_X8_burns_57 (K8 : Int32 × Int32 × kH → Option (kH)) (x2 : Int32) (x3 : Int32) (x4 : Int32) (s0 : Int32) (h : kH) : Option (kH) :=
  gd (inb ((x2 + (nI 30)) + x3) 800) (if s0 ≤ (h 143 (((x2 + (nI 30)) + x3)).toNatClampNeg) then p_X8_burns_91 K8 x2 x3 x4 s0 h else p_X8_burns_91 K8 x2 x3 x4 (h 143 (((x2 + (nI 30)) + x3)).toNatClampNeg) h)
def p_X8_burns_8 (K8 : Int32 × Int32 × kH → Option (kH)) (x2 : Int32) (x3 : Int32) (h : kH) : Option (kH) :=
  bd2 (p_X8_cells h) fun v4 h2 => if v4 ≤ x3 then some h2 else gd (inb ((x2 + (nI 60)) + x3) 800) (le_ (h2 143 (((x2 + (nI 60)) + x3)).toNatClampNeg) fun v6 => gd (inb ((x2 + (nI 90)) + x3) 800) (if (h2 143 (((x2 + (nI 90)) + x3)).toNatClampNeg) = 0 then p_X8_burns_57 K8 x2 x3 v6 (nI 0) h2 else gd (inb ((nI 8) + v6) 28) (p_X8_burns_57 K8 x2 x3 v6 (h2 137 (((nI 8) + v6)).toNatClampNeg) h2)))
def p_X8_burns (x1 : Int32) (h : kH) : Option (kH) :=
  le_ ((nI 200) * x1) fun v1 => fx (fun K8 s => p_X8_burns_8 K8 s.1 s.2.1 s.2.2) FU (v1, (nI 0), h)
def p_X8_spreads_333 (K177 : Int32 × Int32 × Int32 × kH → Option (kH)) (x2 : Int32) (x3 : Int32) (x4 : Int32) (s0 : Int32) (s1 : Int32) (h : kH) : Option (kH) :=
  gd (inb s1 800) (le_ (hs h 143 (s1).toNatClampNeg s0) fun h20 => K177 (x2, x3, (x4 + (nI 1)), h20))
def p_X8_spreads_290 (K177 : Int32 × Int32 × Int32 × kH → Option (kH)) (x2 : Int32) (x3 : Int32) (x4 : Int32) (s0 : Int32) (s1 : Int32) (h : kH) : Option (kH) :=
  gd (inb s1 800) (le_ (hs h 143 (s1).toNatClampNeg s0) fun h16 => gd (inb (x3 + x4) 800) (if (h16 143 ((x3 + x4)).toNatClampNeg) < (nI 200) then gd (inb ((x3 + (nI 90)) + x4) 800) (p_X8_spreads_333 K177 x2 x3 x4 (h16 143 (((x3 + (nI 90)) + x4)).toNatClampNeg) ((x3 + (nI 90)) + x4) h16) else p_X8_spreads_333 K177 x2 x3 x4 (nI 1) ((x3 + (nI 90)) + x4) h16))
def p_X8_spreads_251 (K177 : Int32 × Int32 × Int32 × kH → Option (kH)) (x2 : Int32) (x3 : Int32) (x4 : Int32) (s0 : Int32) (s1 : Int32) (h : kH) : Option (kH) :=
  le_ (s1 - s0) fun v14 => if v14 ≤ (nI 3000) then if (nI 20) ≤ v14 then p_X8_spreads_290 K177 x2 x3 x4 v14 (x3 + x4) h else p_X8_spreads_290 K177 x2 x3 x4 (nI 20) (x3 + x4) h else p_X8_spreads_290 K177 x2 x3 x4 (nI 3000) (x3 + x4) h
def p_X8_spreads_177 (K177 : Int32 × Int32 × Int32 × kH → Option (kH)) (x2 : Int32) (x3 : Int32) (x4 : Int32) (h : kH) : Option (kH) :=
  bd2 (p_X8_cells h) fun v7 h5 => if v7 ≤ x4 then some h5 else gd (inb (x3 + x4) 800) (gd (inb x4 30) (le_ ((h5 143 ((x3 + x4)).toNatClampNeg) + (h5 145 (x4).toNatClampNeg)) fun v10 => gd (inb (nI 2) 28) (le_ (((v10 - (nI 20)) * ((h5 137 ((nI 2)).toNatClampNeg) + x2)) / (nI 100)) fun v12 => gd (inb ((x3 + (nI 120)) + x4) 800) (if (h5 143 (((x3 + (nI 120)) + x4)).toNatClampNeg) = (nI 1) then p_X8_spreads_251 K177 x2 x3 x4 (v12 / (nI 2)) v10 h5 else p_X8_spreads_251 K177 x2 x3 x4 v12 v10 h5))))
def p_X8_spreads_90 (K9 : Int32 × Int32 × Int32 × kH → Option (kH)) (x2 : Int32) (x3 : Int32) (x4 : Int32) (h : kH) : Option (kH) :=
  gd (inb (nI 0) 28) (bd2 (p_X8_cells h) fun v26 h24 => if v26 ≤ (x4 + (h 137 ((nI 0)).toNatClampNeg)) then K9 (x2, x3, (x4 + (nI 1)), h24) else gd (inb (x3 + x4) 800) (gd (inb ((x3 + x4) + (h24 137 ((nI 0)).toNatClampNeg)) 800) (le_ (((h24 143 ((x3 + x4)).toNatClampNeg) - (h24 143 (((x3 + x4) + (h24 137 ((nI 0)).toNatClampNeg))).toNatClampNeg)) / (nI 10)) fun v29 => gd (inb x4 30) (le_ (hs h24 145 (x4).toNatClampNeg ((h24 145 (x4).toNatClampNeg) - v29)) fun h31 => gd (inb (x4 + (h31 137 ((nI 0)).toNatClampNeg)) 30) (le_ (hs h31 145 ((x4 + (h31 137 ((nI 0)).toNatClampNeg))).toNatClampNeg ((h31 145 ((x4 + (h31 137 ((nI 0)).toNatClampNeg))).toNatClampNeg) + v29)) fun h33 => K9 (x2, x3, (x4 + (nI 1)), h33))))))
def p_X8_spreads_9 (K9 : Int32 × Int32 × Int32 × kH → Option (kH)) (x2 : Int32) (x3 : Int32) (x4 : Int32) (h : kH) : Option (kH) :=
  bd2 (p_X8_cells h) fun v4 h2 => if v4 ≤ x4 then fx (fun K177 s => p_X8_spreads_177 K177 s.1 s.2.1 s.2.2.1 s.2.2.2) FU (x2, x3, (nI 0), h2) else gd (inb (nI 0) 28) (gd (decide (¬ (h2 137 ((nI 0)).toNatClampNeg) = 0)) (if ((h2 137 ((nI 0)).toNatClampNeg) - (nI 1)) ≤ (krem x4 (h2 137 ((nI 0)).toNatClampNeg)) then p_X8_spreads_90 K9 x2 x3 x4 h2 else gd (inb (x3 + x4) 800) (gd (inb ((x3 + x4) + (nI 1)) 800) (le_ (((h2 143 ((x3 + x4)).toNatClampNeg) - (h2 143 (((x3 + x4) + (nI 1))).toNatClampNeg)) / (nI 10)) fun v36 => gd (inb x4 30) (le_ (hs h2 145 (x4).toNatClampNeg ((h2 145 (x4).toNatClampNeg) - v36)) fun h38 => gd (inb (x4 + (nI 1)) 30) (le_ (hs h38 145 ((x4 + (nI 1))).toNatClampNeg ((h38 145 ((x4 + (nI 1))).toNatClampNeg) + v36)) fun h40 => p_X8_spreads_90 K9 x2 x3 x4 h40))))))
def p_X8_spreads (x1 : Int32) (x2 : Int32) (h : kH) : Option (kH) :=
  le_ ((nI 200) * x1) fun v1 => fx (fun K9 s => p_X8_spreads_9 K9 s.1 s.2.1 s.2.2.1 s.2.2.2) FU (x2, v1, (nI 0), h)
def p_X8_fires_299 (s0 : Int32) (s1 : Int32) (s2 : Int32) (h : kH) : Option (kH) :=
  gd (inb s2 800) (le_ (hs h 143 (s2).toNatClampNeg (s1 + s0)) fun h21 => some h21)
def p_X8_fires_269 (x3 : Int32) (x5 : Int32) (s0 : Int32) (s1 : Int32) (s2 : Int32) (h : kH) : Option (kH) :=
  gd (inb s2 800) (le_ (hs h 143 (s2).toNatClampNeg (s1 - s0)) fun h17 => gd (inb (x3 + (nI 3)) 800) (gd (inb (nI 3) 28) (if x5 < ((nI 10) * (h17 137 ((nI 3)).toNatClampNeg)) then p_X8_fires_299 (nI 0) (h17 143 ((x3 + (nI 3))).toNatClampNeg) (x3 + (nI 3)) h17 else p_X8_fires_299 (nI 1) (h17 143 ((x3 + (nI 3))).toNatClampNeg) (x3 + (nI 3)) h17)))
def p_X8_fires_232 (x3 : Int32) (x5 : Int32) (s0 : Int32) (h : kH) : Option (kH) :=
  gd (inb (x3 + (nI 2)) 800) (if s0 ≤ (h 143 ((x3 + (nI 2))).toNatClampNeg) then p_X8_fires_269 x3 x5 s0 (h 143 ((x3 + (nI 2))).toNatClampNeg) (x3 + (nI 2)) h else p_X8_fires_269 x3 x5 (h 143 ((x3 + (nI 2))).toNatClampNeg) (h 143 ((x3 + (nI 2))).toNatClampNeg) (x3 + (nI 2)) h)
def p_X8_fires_210 (x3 : Int32) (x5 : Int32) (x6 : Int32) (h : kH) : Option (kH) :=
  if x5 ≤ (nI 60) then p_X8_fires_232 x3 x5 (nI 0) h else p_X8_fires_232 x3 x5 ((x6 * (x5 - (nI 60))) / (nI 100)) h
def p_X8_fires_175 (x3 : Int32) (x4 : Int32) (x5 : Int32) (x6 : Int32) (h : kH) : Option (kH) :=
  gd (inb (nI 5) 28) (if (-x4) ≤ (h 137 ((nI 5)).toNatClampNeg) then p_X8_fires_210 x3 x5 x6 h else gd (inb (x3 + (nI 3)) 800) (if (h 143 ((x3 + (nI 3))).toNatClampNeg) ≤ 0 then p_X8_fires_210 x3 x5 x6 h else gd (inb (x3 + (nI 4)) 800) (le_ (hs h 143 ((x3 + (nI 4))).toNatClampNeg (nI 4)) fun h24 => some h24)))
def p_X8_fires_120 (x2 : Int32) (x3 : Int32) (x4 : Int32) (x5 : Int32) (x6 : Int32) (h : kH) : Option (kH) :=
  if x5 ≤ (nI 100) then p_X8_fires_175 x3 x4 x5 x6 h else gd (inb (x3 + (nI 2)) 800) (gd (decide (¬ ((nI 10) * x6) = 0)) (gd (inb x2 6) (if (((h 143 ((x3 + (nI 2))).toNatClampNeg) * (x5 - (nI 100))) / ((nI 10) * x6)) ≤ (h 140 (x2).toNatClampNeg) then p_X8_fires_175 x3 x4 x5 x6 h else gd (inb (x3 + (nI 4)) 800) (le_ (hs h 143 ((x3 + (nI 4))).toNatClampNeg (nI 1)) fun h29 => le_ (hs h29 147 (x2).toNatClampNeg (vp_nar .boolean (nI 1))) fun h30 => some h30))))
def p_X8_fires (x1 : Int32) (x2 : Int32) (h : kH) : Option (kH) :=
  bd2 (p_X8_potAt x1 x2 h) fun v3 h1 => gd (inb (v3 + (nI 0)) 800) (gd (inb (((nI 200) * x1) + (h1 143 ((v3 + (nI 0))).toNatClampNeg)) 800) (gd (inb (v3 + (nI 1)) 800) (gd (inb x2 6) (gd (decide (¬ ((h1 139 (x2).toNatClampNeg) + (nI 1)) = 0)) (le_ (((h1 143 ((((nI 200) * x1) + (h1 143 ((v3 + (nI 0))).toNatClampNeg))).toNatClampNeg) - (h1 143 ((v3 + (nI 1))).toNatClampNeg)) / ((h1 139 (x2).toNatClampNeg) + (nI 1))) fun v9 => le_ (hs h1 143 ((v3 + (nI 1))).toNatClampNeg ((h1 143 ((v3 + (nI 1))).toNatClampNeg) + v9)) fun h10 => le_ (h10 143 ((v3 + (nI 1))).toNatClampNeg) fun v11 => gd (inb (v3 + (nI 7)) 800) (le_ ((h10 143 ((v3 + (nI 7))).toNatClampNeg) + (nI 1)) fun v13 => if v9 ≤ 0 then p_X8_fires_120 x2 v3 v9 v11 v13 h10 else gd (inb (nI 6) 28) (if (v9 * (h10 139 (x2).toNatClampNeg)) ≤ ((nI 10) * (h10 137 ((nI 6)).toNatClampNeg)) then p_X8_fires_120 x2 v3 v9 v11 v13 h10 else gd (inb (v3 + (nI 4)) 800) (le_ (hs h10 143 ((v3 + (nI 4))).toNatClampNeg (nI 3)) fun h33 => some h33))))))))
def p_X8_isNear (x1 : Int32) (x2 : Int32) (h : kH) : Option (Int32 × kH) :=
  gd (inb (nI 0) 28) (gd (decide (¬ (h 137 ((nI 0)).toNatClampNeg) = 0)) (gd (decide (¬ (h 137 ((nI 0)).toNatClampNeg) = 0)) (le_ ((krem x1 (h 137 ((nI 0)).toNatClampNeg)) - (krem x2 (h 137 ((nI 0)).toNatClampNeg))) fun v4 => gd (decide (¬ (h 137 ((nI 0)).toNatClampNeg) = 0)) (gd (decide (¬ (h 137 ((nI 0)).toNatClampNeg) = 0)) (le_ ((x1 / (h 137 ((nI 0)).toNatClampNeg)) - (x2 / (h 137 ((nI 0)).toNatClampNeg))) fun v7 => bd2 (p_X8_in (v4).toInt64 (-1 : Int64) (1 : Int64) h) fun v10 h8 => if v10 = 0 then some ((nI 0), h8) else bd2 (p_X8_in (v7).toInt64 (-1 : Int64) (1 : Int64) h8) fun v13 h11 => if v13 = 0 then some ((nI 0), h11) else some ((nI 1), h11))))))
def p_X8_strikes_143 (K2 : Int32 × Int32 × kH → Option (kH)) (x1 : Int32) (x2 : Int32) (s0 : Int32) (s1 : Int32) (h : kH) : Option (kH) :=
  gd (inb s1 800) (le_ (hs h 143 (s1).toNatClampNeg s0) fun h8 => K2 (x1, (x2 + (nI 1)), h8))
def p_X8_strikes_135 (K2 : Int32 × Int32 × kH → Option (kH)) (x1 : Int32) (x2 : Int32) (x3 : Int32) (s0 : Int32) (h : kH) : Option (kH) :=
  gd (inb (x3 + (nI 4)) 800) (p_X8_strikes_143 K2 x1 x2 (h 143 ((x3 + (nI 4))).toNatClampNeg) s0 h)
def p_X8_strikes_83 (K2 : Int32 × Int32 × kH → Option (kH)) (K24 : Int32 × Int32 × Int32 × Int32 × Int32 × kH → Option (kH)) (x1 : Int32) (x2 : Int32) (x3 : Int32) (x5 : Int32) (s0 : Int32) (h : kH) : Option (kH) :=
  K24 (x1, x2, x3, s0, (x5 + (nI 1)), h)
def p_X8_strikes_78 (K2 : Int32 × Int32 × kH → Option (kH)) (K24 : Int32 × Int32 × Int32 × Int32 × Int32 × kH → Option (kH)) (x1 : Int32) (x2 : Int32) (x3 : Int32) (x5 : Int32) (h : kH) : Option (kH) :=
  p_X8_strikes_83 K2 K24 x1 x2 x3 x5 (nI 1) h
def p_X8_strikes_82 (K2 : Int32 × Int32 × kH → Option (kH)) (K24 : Int32 × Int32 × Int32 × Int32 × Int32 × kH → Option (kH)) (x1 : Int32) (x2 : Int32) (x3 : Int32) (x5 : Int32) (h : kH) : Option (kH) :=
  p_X8_strikes_83 K2 K24 x1 x2 x3 x5 (nI 0) h
def p_X8_strikes_24 (K2 : Int32 × Int32 × kH → Option (kH)) (K24 : Int32 × Int32 × Int32 × Int32 × Int32 × kH → Option (kH)) (x1 : Int32) (x2 : Int32) (x3 : Int32) (x4 : Int32) (x5 : Int32) (h : kH) : Option (kH) :=
  gd (inb (nI 0) 2) (if (h 138 ((nI 0)).toNatClampNeg) ≤ x5 then if x4 = 0 then p_X8_strikes_135 K2 x1 x2 x3 (x3 + (nI 4)) h else gd (inb (x3 + (nI 4)) 800) (if (h 143 ((x3 + (nI 4))).toNatClampNeg) = 0 then gd (inb (x3 + (nI 3)) 800) (gd (inb (nI 4) 28) (if (h 137 ((nI 4)).toNatClampNeg) ≤ (h 143 ((x3 + (nI 3))).toNatClampNeg) then p_X8_strikes_135 K2 x1 x2 x3 (x3 + (nI 4)) h else p_X8_strikes_143 K2 x1 x2 (nI 2) (x3 + (nI 4)) h)) else p_X8_strikes_135 K2 x1 x2 x3 (x3 + (nI 4)) h) else if x4 = 0 then gd (inb x5 6) (if (h 147 (x5).toNatClampNeg) = 0 then p_X8_strikes_82 K2 K24 x1 x2 x3 x5 h else gd (inb (x3 + (nI 0)) 800) (bd2 (p_X8_potAt x1 x5 h) fun v16 h14 => gd (inb (v16 + (nI 0)) 800) (bd2 (p_X8_isNear (h 143 ((x3 + (nI 0))).toNatClampNeg) (h14 143 ((v16 + (nI 0))).toNatClampNeg) h14) fun v20 h18 => if v20 = 0 then p_X8_strikes_82 K2 K24 x1 x2 x3 x5 h18 else p_X8_strikes_78 K2 K24 x1 x2 x3 x5 h18))) else p_X8_strikes_78 K2 K24 x1 x2 x3 x5 h)
def p_X8_strikes_2 (K2 : Int32 × Int32 × kH → Option (kH)) (x1 : Int32) (x2 : Int32) (h : kH) : Option (kH) :=
  gd (inb (nI 0) 2) (if (h 138 ((nI 0)).toNatClampNeg) ≤ x2 then some h else bd2 (p_X8_potAt x1 x2 h) fun v4 h2 => fx (fun K24 s => p_X8_strikes_24 K2 K24 s.1 s.2.1 s.2.2.1 s.2.2.2.1 s.2.2.2.2.1 s.2.2.2.2.2) FU (x1, x2, v4, (nI 0), (nI 0), h2))
def p_X8_strikes (x1 : Int32) (h : kH) : Option (kH) :=
  fx (fun K2 s => p_X8_strikes_2 K2 s.1 s.2.1 s.2.2) FU (x1, (nI 0), h)
def p_X8_colours_112 (s0 : Int32) (s1 : Int32) (h : kH) : Option (kH) :=
  gd (inb s1 800) (le_ (hs h 143 (s1).toNatClampNeg s0) fun h11 => some h11)
def p_X8_colours_107 (s0 : Int32) (h : kH) : Option (kH) :=
  p_X8_colours_112 (nI 2) s0 h
def p_X8_colours (x1 : Int32) (x2 : Int32) (h : kH) : Option (kH) :=
  bd2 (p_X8_potAt x1 x2 h) fun v3 h1 => gd (inb (v3 + (nI 0)) 800) (le_ (((nI 200) * x1) + (h1 143 ((v3 + (nI 0))).toNatClampNeg)) fun v5 => gd (inb (v3 + (nI 1)) 800) (if (h1 143 ((v3 + (nI 1))).toNatClampNeg) < (nI 500) then gd (inb (v3 + (nI 6)) 800) (if (h1 143 ((v3 + (nI 6))).toNatClampNeg) = (nI 1) then gd (inb (v3 + (nI 5)) 800) (if (h1 143 ((v3 + (nI 5))).toNatClampNeg) = 0 then gd (inb (v5 + (nI 120)) 800) (if (h1 143 ((v5 + (nI 120))).toNatClampNeg) = (nI 1) then p_X8_colours_107 (v3 + (nI 5)) h1 else gd (inb (v5 + (nI 30)) 800) (if (h1 143 ((v5 + (nI 30))).toNatClampNeg) ≤ 0 then p_X8_colours_112 (nI 1) (v3 + (nI 5)) h1 else p_X8_colours_107 (v3 + (nI 5)) h1)) else some h1) else some h1) else gd (inb (v3 + (nI 6)) 800) (le_ (hs h1 143 ((v3 + (nI 6))).toNatClampNeg (nI 1)) fun h14 => some h14)))
def p_X8_goes_58 (K58 : Int32 × Int32 × kH → Option (kH)) (x1 : Int32) (x3 : Int32) (h : kH) : Option (kH) :=
  gd (inb (nI 0) 2) (if (h 138 ((nI 0)).toNatClampNeg) ≤ x3 then gd (inb (((nI 200) * x1) + (nI 198)) 800) (le_ (hs h 143 ((((nI 200) * x1) + (nI 198))).toNatClampNeg ((h 143 ((((nI 200) * x1) + (nI 198))).toNatClampNeg) + (nI 1))) fun h10 => some h10) else bd2 (p_X8_isWhole x1 x3 h) fun v13 h11 => if v13 = 0 then K58 (x1, (x3 + (nI 1)), h11) else bd (p_X8_colours x1 x3 h11) fun h14 => K58 (x1, (x3 + (nI 1)), h14))
def p_X8_goes_13 (K13 : Int32 × Int32 × kH → Option (kH)) (x1 : Int32) (x3 : Int32) (h : kH) : Option (kH) :=
  gd (inb (nI 0) 2) (if (h 138 ((nI 0)).toNatClampNeg) ≤ x3 then bd (p_X8_strikes x1 h) fun h6 => fx (fun K58 s => p_X8_goes_58 K58 s.1 s.2.1 s.2.2) FU (x1, (nI 0), h6) else gd (inb x3 6) (le_ (hs h 147 (x3).toNatClampNeg (vp_nar .boolean (nI 0))) fun h17 => bd2 (p_X8_isWhole x1 x3 h17) fun v20 h18 => if v20 = 0 then K13 (x1, (x3 + (nI 1)), h18) else bd (p_X8_fires x1 x3 h18) fun h21 => K13 (x1, (x3 + (nI 1)), h21)))
def p_X8_goes (x1 : Int32) (x2 : Int32) (h : kH) : Option (kH) :=
  bd (p_X8_burns x1 h) fun h1 => bd (p_X8_spreads x1 x2 h1) fun h3 => fx (fun K13 s => p_X8_goes_13 K13 s.1 s.2.1 s.2.2) FU (x1, (nI 0), h3)
def p_X8_isWind (x0 : Int32) (h : kH) : Option (Int32 × kH) :=
  bd2 (p_X8_in (x0).toInt64 (0 : Int64) (9 : Int64) h) fun v3 h1 => gd (decide (v3 &&& 1 = v3)) (some (v3, h1))
def p_X8_minute_44 (K19 : Int32 × Int32 × kH → Option (Int32 × kH)) (x3 : Int32) (s0 : Int32) (s1 : Int32) (h : kH) : Option (Int32 × kH) :=
  le_ (s1 + s0) fun v10 => K19 (v10, (x3 + (nI 1)), h)
def p_X8_minute_19 (K19 : Int32 × Int32 × kH → Option (Int32 × kH)) (x2 : Int32) (x3 : Int32) (h : kH) : Option (Int32 × kH) :=
  gd (inb (nI 0) 2) (if (h 138 ((nI 0)).toNatClampNeg) ≤ x3 then some (x2, h) else bd2 (p_X8_isWhole (nI 0) x3 h) fun v9 h7 => if v9 = 0 then p_X8_minute_44 K19 x3 (nI 0) x2 h7 else p_X8_minute_44 K19 x3 (nI 1) x2 h7)
def p_X8_minute (x1 : Int32) (h : kH) : Option (Int32 × kH) :=
  bd2 (p_X8_isWind x1 h) fun v3 h1 => if v3 = 0 then some ((-1 : Int32), h1) else bd (p_X8_goes (nI 0) x1 h1) fun h4 => fx (fun K19 s => p_X8_minute_19 K19 s.1 s.2.1 s.2.2) FU ((nI 0), (nI 0), h4)
def p_X8_fuel (x1 : Int32) (x2 : Int32) (h : kH) : Option (Int32 × kH) :=
  bd2 (p_X8_isCell x1 h) fun v3 h1 => if v3 = 0 then some ((-1 : Int32), h1) else bd2 (p_X8_in (x2).toInt64 (1 : Int64) (99 : Int64) h1) fun v6 h4 => if v6 = 0 then some ((-1 : Int32), h4) else gd (inb ((nI 30) + x1) 800) (if ((h4 143 (((nI 30) + x1)).toNatClampNeg) + x2) ≤ (nI 999) then le_ (hs h4 143 (((nI 30) + x1)).toNatClampNeg ((h4 143 (((nI 30) + x1)).toNatClampNeg) + x2)) fun h8 => some ((h8 143 (((nI 30) + x1)).toNatClampNeg), h8) else some ((-2 : Int32), h4))
def p_X8_cover_37 (x3 : Int32) (s0 : Int32) (s1 : Int32) (h : kH) : Option (Int32 × kH) :=
  gd (inb s1 800) (le_ (hs h 143 (s1).toNatClampNeg s0) fun h7 => some (x3, h7))
def p_X8_cover (x1 : Int32) (x2 : Int32) (h : kH) : Option (Int32 × kH) :=
  bd2 (p_X8_isCell x1 h) fun v3 h1 => if v3 = 0 then some ((-1 : Int32), h1) else gd (inb ((nI 120) + x1) 800) (le_ (h1 143 (((nI 120) + x1)).toNatClampNeg) fun v5 => if x2 = 0 then p_X8_cover_37 v5 (nI 0) ((nI 120) + x1) h1 else p_X8_cover_37 v5 (nI 1) ((nI 120) + x1) h1)
def p_X8_light (x1 : Int32) (h : kH) : Option (Int32 × kH) :=
  bd2 (p_X8_isCell x1 h) fun v3 h1 => if v3 = 0 then some ((-1 : Int32), h1) else gd (inb ((nI 90) + x1) 800) (le_ (h1 143 (((nI 90) + x1)).toNatClampNeg) fun v5 => le_ (hs h1 143 (((nI 90) + x1)).toNatClampNeg (nI 1)) fun h6 => some (v5, h6))
def p_X8_take (x1 : Int32) (h : kH) : Option (Int32 × kH) :=
  bd2 (p_X8_isPot x1 h) fun v3 h1 => if v3 = 0 then some ((-1 : Int32), h1) else bd2 (p_X8_isWhole (nI 0) x1 h1) fun v6 h4 => if v6 = 0 then some ((-2 : Int32), h4) else bd2 (p_X8_lossOf (nI 0) x1 h4) fun v9 h7 => bd2 (p_X8_potAt (nI 0) x1 h7) fun v12 h10 => gd (inb (v12 + (nI 4)) 800) (le_ (hs h10 143 ((v12 + (nI 4))).toNatClampNeg (nI 6)) fun h14 => some (v9, h14))
def p_X8_dries_94 (K5 : Int32 × Int32 × Int32 × Int32 × kH → Option (Int32 × kH)) (x1 : Int32) (x2 : Int32) (x3 : Int32) (x4 : Int32) (x5 : Int32) (s0 : Int32) (s1 : Int32) (s2 : Int32) (h : kH) : Option (Int32 × kH) :=
  gd (inb s2 800) (le_ (hs h 143 (s2).toNatClampNeg (s1 - s0)) fun h10 => gd (inb (x5 + (nI 2)) 800) (le_ (x3 + (h10 143 ((x5 + (nI 2))).toNatClampNeg)) fun v12 => K5 (x1, x2, v12, (x4 + (nI 1)), h10)))
def p_X8_dries_54 (K5 : Int32 × Int32 × Int32 × Int32 × kH → Option (Int32 × kH)) (x1 : Int32) (x2 : Int32) (x3 : Int32) (x4 : Int32) (x5 : Int32) (s0 : Int32) (h : kH) : Option (Int32 × kH) :=
  gd (inb (x5 + (nI 2)) 800) (if s0 ≤ (h 143 ((x5 + (nI 2))).toNatClampNeg) then p_X8_dries_94 K5 x1 x2 x3 x4 x5 s0 (h 143 ((x5 + (nI 2))).toNatClampNeg) (x5 + (nI 2)) h else p_X8_dries_94 K5 x1 x2 x3 x4 x5 (h 143 ((x5 + (nI 2))).toNatClampNeg) (h 143 ((x5 + (nI 2))).toNatClampNeg) (x5 + (nI 2)) h)
def p_X8_dries_5 (K5 : Int32 × Int32 × Int32 × Int32 × kH → Option (Int32 × kH)) (x1 : Int32) (x2 : Int32) (x3 : Int32) (x4 : Int32) (h : kH) : Option (Int32 × kH) :=
  gd (inb (nI 0) 2) (if (h 138 ((nI 0)).toNatClampNeg) ≤ x4 then some (x3, h) else bd2 (p_X8_potAt x1 x4 h) fun v4 h2 => bd2 (p_X8_isWhole x1 x4 h2) fun v7 h5 => if v7 = 0 then p_X8_dries_54 K5 x1 x2 x3 x4 v4 (nI 0) h5 else gd (inb (v4 + (nI 7)) 800) (p_X8_dries_54 K5 x1 x2 x3 x4 v4 ((x2 * ((h5 143 ((v4 + (nI 7))).toNatClampNeg) + (nI 1))) / (nI 4)) h5))
def p_X8_dries (x1 : Int32) (x2 : Int32) (h : kH) : Option (Int32 × kH) :=
  fx (fun K5 s => p_X8_dries_5 K5 s.1 s.2.1 s.2.2.1 s.2.2.2.1 s.2.2.2.2) FU (x1, x2, (nI 0), (nI 0), h)
def p_X8_dry (x1 : Int32) (h : kH) : Option (Int32 × kH) :=
  bd2 (p_X8_in (x1).toInt64 (1 : Int64) (240 : Int64) h) fun v3 h1 => if v3 = 0 then some ((-1 : Int32), h1) else bd2 (p_X8_dries (nI 0) x1 h1) fun v6 h4 => some (v6, h4)
def p_X8_looks_59 (K2 : Int32 × kH → Option (kH)) (x1 : Int32) (s0 : Int32) (s1 : Int32) (h : kH) : Option (kH) :=
  gd (inb s1 6) (le_ (hs h 146 (s1).toNatClampNeg s0) fun h10 => K2 ((x1 + (nI 1)), h10))
def p_X8_looks_2 (K2 : Int32 × kH → Option (kH)) (x1 : Int32) (h : kH) : Option (kH) :=
  gd (inb (nI 0) 2) (if (h 138 ((nI 0)).toNatClampNeg) ≤ x1 then some h else bd2 (p_X8_potAt (nI 3) x1 h) fun v4 h2 => gd (inb (v4 + (nI 0)) 800) (gd (inb ((nI 600) + (h2 143 ((v4 + (nI 0))).toNatClampNeg)) 800) (le_ (h2 143 (((nI 600) + (h2 143 ((v4 + (nI 0))).toNatClampNeg))).toNatClampNeg) fun v7 => gd (inb x1 6) (if v7 ≤ (h2 146 (x1).toNatClampNeg) then p_X8_looks_59 K2 x1 (h2 146 (x1).toNatClampNeg) x1 h2 else p_X8_looks_59 K2 x1 v7 x1 h2))))
def p_X8_looks (h : kH) : Option (kH) :=
  fx (fun K2 s => p_X8_looks_2 K2 s.1 s.2) FU ((nI 0), h)
def p_X8_good_29 (K4 : Int32 × Int32 × kH → Option (Int32 × kH)) (x3 : Int32) (s0 : Int32) (s1 : Int32) (h : kH) : Option (Int32 × kH) :=
  le_ (s1 + s0) fun v5 => K4 (v5, (x3 + (nI 1)), h)
def p_X8_good_4 (K4 : Int32 × Int32 × kH → Option (Int32 × kH)) (x2 : Int32) (x3 : Int32) (h : kH) : Option (Int32 × kH) :=
  gd (inb (nI 0) 2) (if (h 138 ((nI 0)).toNatClampNeg) ≤ x3 then some (x2, h) else bd2 (p_X8_lossOf (nI 3) x3 h) fun v4 h2 => if v4 = 0 then p_X8_good_29 K4 x3 (nI 1) x2 h2 else p_X8_good_29 K4 x3 (nI 0) x2 h2)
def p_X8_good (x1 : Int32) (h : kH) : Option (Int32 × kH) :=
  fx (fun K4 s => p_X8_good_4 K4 s.1 s.2.1 s.2.2) FU ((nI 0), x1, h)
def p_X8_runs_2 (K2 : Int32 × Int32 × Int32 × kH → Option (Int32 × kH)) (x1 : Int32) (x2 : Int32) (x3 : Int32) (h : kH) : Option (Int32 × kH) :=
  if x1 ≤ x3 then bd2 (p_X8_good (nI 0) h) fun v3 h1 => some (v3, h1) else bd (p_X8_goes (nI 3) x2 h) fun h4 => bd (p_X8_looks h4) fun h6 => K2 (x1, x2, (x3 + (nI 1)), h6)
def p_X8_runs (x1 : Int32) (x2 : Int32) (h : kH) : Option (Int32 × kH) :=
  fx (fun K2 s => p_X8_runs_2 K2 s.1 s.2.1 s.2.2.1 s.2.2.2) FU (x1, x2, (nI 0), h)
def p_X8_tries_8 (K8 : Int32 × kH → Option (kH)) (x1 : Int32) (h : kH) : Option (kH) :=
  if (nI 6) ≤ x1 then bd (p_X8_looks h) fun h3 => some h3 else gd (inb x1 6) (le_ (hs h 146 (x1).toNatClampNeg (nI 0)) fun h6 => K8 ((x1 + (nI 1)), h6))
def p_X8_tries (h : kH) : Option (kH) :=
  bd (p_X8_copies (nI 0) (nI 3) h) fun h1 => fx (fun K8 s => p_X8_tries_8 K8 s.1 s.2) FU ((nI 0), h1)
def p_X8_isRun (x0 : Int32) (x1 : Int32) (h : kH) : Option (Int32 × kH) :=
  bd2 (p_X8_in (x0).toInt64 (0 : Int64) (240 : Int64) h) fun v3 h1 => if v3 = 0 then some ((nI 0), h1) else bd2 (p_X8_isWind x1 h1) fun v6 h4 => if v6 = 0 then some ((nI 0), h4) else some ((nI 1), h4)
def p_X8_lossed_65 (K4 : Int32 × Int32 × Int32 × kH → Option (Int32 × kH)) (x1 : Int32) (x3 : Int32) (s0 : Int32) (s1 : Int32) (h : kH) : Option (Int32 × kH) :=
  le_ (s1 + s0) fun v6 => K4 (x1, v6, (x3 + (nI 1)), h)
def p_X8_lossed_4 (K4 : Int32 × Int32 × Int32 × kH → Option (Int32 × kH)) (x1 : Int32) (x2 : Int32) (x3 : Int32) (h : kH) : Option (Int32 × kH) :=
  gd (inb (nI 0) 2) (if (h 138 ((nI 0)).toNatClampNeg) ≤ x3 then some (x2, h) else if x1 = 0 then bd2 (p_X8_lossOf (nI 3) x3 h) fun v9 h7 => bd2 (p_X8_in (v9).toInt64 (1 : Int64) (4 : Int64) h7) fun v12 h10 => if v12 = 0 then p_X8_lossed_65 K4 x1 x3 (nI 0) x2 h10 else p_X8_lossed_65 K4 x1 x3 (nI 1) x2 h10 else bd2 (p_X8_potAt (nI 3) x3 h) fun v4 h2 => gd (inb (v4 + (nI 4)) 800) (if (h2 143 ((v4 + (nI 4))).toNatClampNeg) = x1 then p_X8_lossed_65 K4 x1 x3 (nI 1) x2 h2 else p_X8_lossed_65 K4 x1 x3 (nI 0) x2 h2))
def p_X8_lossed (x1 : Int32) (h : kH) : Option (Int32 × kH) :=
  fx (fun K4 s => p_X8_lossed_4 K4 s.1 s.2.1 s.2.2.1 s.2.2.2) FU (x1, (nI 0), (nI 0), h)
def p_X8_run (x1 : Int32) (x2 : Int32) (x3 : Int32) (h : kH) : Option (Int32 × kH) :=
  bd2 (p_X8_isRun x1 x2 h) fun v3 h1 => if v3 = 0 then some ((-1 : Int32), h1) else bd2 (p_X8_in (x3).toInt64 (0 : Int64) (1 : Int64) h1) fun v6 h4 => if v6 = 0 then some ((-1 : Int32), h4) else bd (p_X8_tries h4) fun h7 => bd2 (p_X8_runs x1 x2 h7) fun v11 h9 => if x3 = 0 then some (v11, h9) else bd2 (p_X8_lossed (nI 0) h9) fun v14 h12 => some (v14, h12)
def p_X8_of (x1 : Int32) (x2 : Int32) (x3 : Int32) (x4 : Int32) (h : kH) : Option (Int32 × kH) :=
  bd2 (p_X8_isRun x1 x2 h) fun v3 h1 => if v3 = 0 then some ((-1 : Int32), h1) else bd2 (p_X8_isPot x3 h1) fun v6 h4 => if v6 = 0 then some ((-1 : Int32), h4) else bd2 (p_X8_in (x4).toInt64 (0 : Int64) (3 : Int64) h4) fun v9 h7 => if v9 = 0 then some ((-1 : Int32), h7) else bd (p_X8_tries h7) fun h10 => bd2 (p_X8_runs x1 x2 h10) fun v14 h12 => bd2 (p_X8_potAt (nI 3) x3 h12) fun v17 h15 => if 0 ≤ v14 then if x4 = 0 then bd2 (p_X8_lossOf (nI 3) x3 h15) fun v23 h21 => some (v23, h21) else if x4 = (nI 1) then gd (inb x3 6) (some ((h15 146 (x3).toNatClampNeg), h15)) else if x4 = (nI 2) then gd (inb (v17 + (nI 5)) 800) (some ((h15 143 ((v17 + (nI 5))).toNatClampNeg), h15)) else gd (inb (v17 + (nI 3)) 800) (some ((h15 143 ((v17 + (nI 3))).toNatClampNeg), h15)) else some ((-1 : Int32), h15)
def p_X8_drying_12 (K12 : Int32 × Int32 × Int32 × kH → Option (Int32 × kH)) (x1 : Int32) (x2 : Int32) (x3 : Int32) (h : kH) : Option (Int32 × kH) :=
  if (nI 240) < x3 then some ((-4 : Int32), h) else bd (p_X8_tries h) fun h4 => bd2 (p_X8_lossed (nI 1) h4) fun v8 h6 => bd2 (p_X8_dries (nI 3) x3 h6) fun v11 h9 => bd2 (p_X8_runs x1 x2 h9) fun v14 h12 => le_ (v11 + v14) fun v15 => if v15 < 0 then K12 (x1, x2, (x3 + (nI 1)), h12) else bd2 (p_X8_lossed (nI 1) h12) fun v18 h16 => if v18 = v8 then some (x3, h16) else K12 (x1, x2, (x3 + (nI 1)), h16)
def p_X8_drying (x1 : Int32) (x2 : Int32) (h : kH) : Option (Int32 × kH) :=
  bd2 (p_X8_isRun x1 x2 h) fun v3 h1 => if v3 = 0 then some ((-1 : Int32), h1) else fx (fun K12 s => p_X8_drying_12 K12 s.1 s.2.1 s.2.2.1 s.2.2.2) FU (x1, x2, (nI 0), h1)
def p_X8_grit_28 (K28 : Int32 × Int32 × Int32 × Int32 × Int32 × Int32 × kH → Option (Int32 × kH)) (x1 : Int32) (x2 : Int32) (x3 : Int32) (x4 : Int32) (x5 : Int32) (x6 : Int32) (h : kH) : Option (Int32 × kH) :=
  if (nI 10) ≤ x6 then some (x4, h) else bd (p_X8_tries h) fun h7 => bd2 (p_X8_potAt (nI 3) x1 h7) fun v11 h9 => gd (inb (v11 + (nI 7)) 800) (le_ (hs h9 143 ((v11 + (nI 7))).toNatClampNeg x6) fun h13 => bd2 (p_X8_runs x2 x3 h13) fun v16 h14 => bd2 (p_X8_potAt (nI 3) x1 h14) fun v19 h17 => gd (inb (v19 + (nI 3)) 800) (le_ (h17 143 ((v19 + (nI 3))).toNatClampNeg) fun v21 => if v16 ≤ 0 then K28 (x1, x2, x3, x4, x5, (x6 + (nI 1)), h17) else bd2 (p_X8_lossOf (nI 3) x1 h17) fun v24 h22 => if v24 = 0 then if v21 ≤ x5 then K28 (x1, x2, x3, x4, x5, (x6 + (nI 1)), h22) else K28 (x1, x2, x3, x6, v21, (x6 + (nI 1)), h22) else K28 (x1, x2, x3, x4, x5, (x6 + (nI 1)), h22)))
def p_X8_grit (x1 : Int32) (x2 : Int32) (x3 : Int32) (h : kH) : Option (Int32 × kH) :=
  bd2 (p_X8_isPot x1 h) fun v3 h1 => if v3 = 0 then some ((-1 : Int32), h1) else bd2 (p_X8_isRun x2 x3 h1) fun v6 h4 => if v6 = 0 then some ((-1 : Int32), h4) else fx (fun K28 s => p_X8_grit_28 K28 s.1 s.2.1 s.2.2.1 s.2.2.2.1 s.2.2.2.2.1 s.2.2.2.2.2.1 s.2.2.2.2.2.2) FU (x1, x2, x3, (-4 : Int32), (-1 : Int32), (nI 0), h4)
def p_X8_enough_41 (K26 : Int32 × Int32 × Int32 × Int32 × kH → Option (Int32 × kH)) (K41 : Int32 × Int32 × Int32 × Int32 × Int32 × kH → Option (Int32 × kH)) (x1 : Int32) (x2 : Int32) (x3 : Int32) (x4 : Int32) (x5 : Int32) (h : kH) : Option (Int32 × kH) :=
  bd2 (p_X8_cells h) fun v11 h9 => if v11 ≤ x5 then bd2 (p_X8_runs x2 x3 h9) fun v14 h12 => if v14 < x1 then K26 (x1, x2, x3, (x4 + (nI 10)), h12) else some (x4, h12) else gd (inb ((nI 30) + x5) 800) (gd (inb ((nI 630) + x5) 800) (le_ (hs h9 143 (((nI 630) + x5)).toNatClampNeg (((h9 143 (((nI 30) + x5)).toNatClampNeg) * x4) / (nI 100))) fun h17 => K41 (x1, x2, x3, x4, (x5 + (nI 1)), h17)))
def p_X8_enough_26 (K26 : Int32 × Int32 × Int32 × Int32 × kH → Option (Int32 × kH)) (x1 : Int32) (x2 : Int32) (x3 : Int32) (x4 : Int32) (h : kH) : Option (Int32 × kH) :=
  if (nI 200) < x4 then some ((-4 : Int32), h) else bd (p_X8_tries h) fun h7 => fx (fun K41 s => p_X8_enough_41 K26 K41 s.1 s.2.1 s.2.2.1 s.2.2.2.1 s.2.2.2.2.1 s.2.2.2.2.2) FU (x1, x2, x3, x4, (nI 0), h7)
def p_X8_enough (x1 : Int32) (x2 : Int32) (x3 : Int32) (h : kH) : Option (Int32 × kH) :=
  bd2 (p_X8_in (x1).toInt64 (1 : Int64) (6 : Int64) h) fun v3 h1 => if v3 = 0 then some ((-1 : Int32), h1) else bd2 (p_X8_isRun x2 x3 h1) fun v6 h4 => if v6 = 0 then some ((-1 : Int32), h4) else fx (fun K26 s => p_X8_enough_26 K26 s.1 s.2.1 s.2.2.1 s.2.2.2.1 s.2.2.2.2) FU (x1, x2, x3, (nI 10), h4)
def p_X8_spot_12 (K12 : Int32 × Int32 × kH → Option (Int32 × kH)) (x1 : Int32) (x2 : Int32) (h : kH) : Option (Int32 × kH) :=
  if (h 135 11) ≤ x2 then if (h 135 11) = (nI 6) then some ((-3 : Int32), h) else gd (inb (h 135 11) 6) (le_ (hs h 144 ((h 135 11)).toNatClampNeg x1) fun h5 => le_ (hs h5 135 11 ((h5 135 11) + (nI 1))) fun h6 => some ((h6 135 11), h6)) else gd (inb x2 6) (if (h 144 (x2).toNatClampNeg) = x1 then some ((-2 : Int32), h) else K12 (x1, (x2 + (nI 1)), h))
def p_X8_spot (x1 : Int32) (h : kH) : Option (Int32 × kH) :=
  bd2 (p_X8_isCell x1 h) fun v3 h1 => if v3 = 0 then some ((-1 : Int32), h1) else fx (fun K12 s => p_X8_spot_12 K12 s.1 s.2.1 s.2.2) FU (x1, (nI 0), h1)
def p_X8_noSpots (h : kH) : Option (Int32 × kH) :=
  le_ (h 135 11) fun v1 => le_ (hs h 135 11 (nI 0)) fun h2 => some (v1, h2)
def p_X8_isWay_147 (K44 : Int32 × Int32 × Int32 × kH → Option (Int32 × kH)) (K98 : Int32 × Int32 × Int32 × Int32 × kH → Option (Int32 × kH)) (x2 : Int32) (x5 : Int32) (x6 : Int32) (s0 : Int32) (h : kH) : Option (Int32 × kH) :=
  K98 (x2, s0, x5, (x6 + (nI 1)), h)
def p_X8_isWay_146 (K44 : Int32 × Int32 × Int32 × kH → Option (Int32 × kH)) (K98 : Int32 × Int32 × Int32 × Int32 × kH → Option (Int32 × kH)) (x2 : Int32) (x5 : Int32) (x6 : Int32) (h : kH) : Option (Int32 × kH) :=
  p_X8_isWay_147 K44 K98 x2 x5 x6 (nI 0) h
def p_X8_isWay_98 (K44 : Int32 × Int32 × Int32 × kH → Option (Int32 × kH)) (K98 : Int32 × Int32 × Int32 × Int32 × kH → Option (Int32 × kH)) (x2 : Int32) (x4 : Int32) (x5 : Int32) (x6 : Int32) (h : kH) : Option (Int32 × kH) :=
  gd (inb (nI 0) 2) (if (h 138 ((nI 0)).toNatClampNeg) ≤ x6 then K44 (x2, x4, (x5 + (nI 1)), h) else if x4 = 0 then p_X8_isWay_146 K44 K98 x2 x5 x6 h else gd (inb x5 4) (gd (inb (h 148 (x5).toNatClampNeg) 6) (bd2 (p_X8_potAt (nI 0) x6 h) fun v7 h5 => gd (inb (v7 + (nI 0)) 800) (if (h 144 ((h 148 (x5).toNatClampNeg)).toNatClampNeg) = (h5 143 ((v7 + (nI 0))).toNatClampNeg) then p_X8_isWay_146 K44 K98 x2 x5 x6 h5 else p_X8_isWay_147 K44 K98 x2 x5 x6 (nI 1) h5))))
def p_X8_isWay_87 (K44 : Int32 × Int32 × Int32 × kH → Option (Int32 × kH)) (K53 : Int32 × Int32 × Int32 × Int32 × kH → Option (Int32 × kH)) (x2 : Int32) (x5 : Int32) (x6 : Int32) (s0 : Int32) (h : kH) : Option (Int32 × kH) :=
  K53 (x2, s0, x5, (x6 + (nI 1)), h)
def p_X8_isWay_86 (K44 : Int32 × Int32 × Int32 × kH → Option (Int32 × kH)) (K53 : Int32 × Int32 × Int32 × Int32 × kH → Option (Int32 × kH)) (x2 : Int32) (x5 : Int32) (x6 : Int32) (h : kH) : Option (Int32 × kH) :=
  p_X8_isWay_87 K44 K53 x2 x5 x6 (nI 0) h
def p_X8_isWay_53 (K44 : Int32 × Int32 × Int32 × kH → Option (Int32 × kH)) (K53 : Int32 × Int32 × Int32 × Int32 × kH → Option (Int32 × kH)) (x2 : Int32) (x4 : Int32) (x5 : Int32) (x6 : Int32) (h : kH) : Option (Int32 × kH) :=
  if x5 ≤ x6 then fx (fun K98 s => p_X8_isWay_98 K44 K98 s.1 s.2.1 s.2.2.1 s.2.2.2.1 s.2.2.2.2) FU (x2, x4, x5, x2, h) else if x4 = 0 then p_X8_isWay_86 K44 K53 x2 x5 x6 h else gd (inb x5 4) (gd (inb x6 4) (if (h 148 (x5).toNatClampNeg) = (h 148 (x6).toNatClampNeg) then p_X8_isWay_86 K44 K53 x2 x5 x6 h else p_X8_isWay_87 K44 K53 x2 x5 x6 (nI 1) h))
def p_X8_isWay_44 (K44 : Int32 × Int32 × Int32 × kH → Option (Int32 × kH)) (x2 : Int32) (x4 : Int32) (x5 : Int32) (h : kH) : Option (Int32 × kH) :=
  if x2 ≤ x5 then gd (decide (x4 &&& 1 = x4)) (some (x4, h)) else fx (fun K53 s => p_X8_isWay_53 K44 K53 s.1 s.2.1 s.2.2.1 s.2.2.2.1 s.2.2.2.2) FU (x2, x4, x5, (nI 0), h)
def p_X8_isWay_10 (K10 : Int32 × Int32 × Int32 × Int32 × kH → Option (Int32 × kH)) (x2 : Int32) (x3 : Int32) (x4 : Int32) (x5 : Int32) (h : kH) : Option (Int32 × kH) :=
  if x5 < 0 then fx (fun K44 s => p_X8_isWay_44 K44 s.1 s.2.1 s.2.2.1 s.2.2.2) FU (x2, x4, (nI 0), h) else gd (decide (¬ (h 135 11) = 0)) (gd (inb x5 4) (le_ (hs h 148 (x5).toNatClampNeg (krem x3 (h 135 11))) fun h13 => gd (decide (¬ (h13 135 11) = 0)) (le_ (x3 / (h13 135 11)) fun v15 => K10 (x2, v15, x4, (x5 + (-1 : Int32)), h13))))
def p_X8_isWay (x1 : Int32) (x2 : Int32) (h : kH) : Option (Int32 × kH) :=
  fx (fun K10 s => p_X8_isWay_10 K10 s.1 s.2.1 s.2.2.1 s.2.2.2.1 s.2.2.2.2) FU (x2, x1, (nI 1), (x2 - (nI 1)), h)
def p_X8_lies_201 (K82 : Int32 × Int32 × Int32 × Int32 × Int32 × Int32 × Int32 × kH → Option (Int32 × kH)) (x1 : Int32) (x2 : Int32) (x3 : Int32) (x4 : Int32) (x5 : Int32) (x7 : Int32) (s0 : Int32) (h : kH) : Option (Int32 × kH) :=
  K82 (x1, x2, x3, x4, x5, s0, (x7 + (nI 1)), h)
def p_X8_lies_187 (K82 : Int32 × Int32 × Int32 × Int32 × Int32 × Int32 × Int32 × kH → Option (Int32 × kH)) (x1 : Int32) (x2 : Int32) (x3 : Int32) (x4 : Int32) (x5 : Int32) (x6 : Int32) (x7 : Int32) (x8 : Int32) (h : kH) : Option (Int32 × kH) :=
  if x8 ≤ x6 then p_X8_lies_201 K82 x1 x2 x3 x4 x5 x7 x6 h else p_X8_lies_201 K82 x1 x2 x3 x4 x5 x7 x8 h
def p_X8_lies_154 (K82 : Int32 × Int32 × Int32 × Int32 × Int32 × Int32 × Int32 × kH → Option (Int32 × kH)) (K154 : Int32 × Int32 × Int32 × Int32 × Int32 × Int32 × Int32 × Int32 × Int32 × kH → Option (Int32 × kH)) (x1 : Int32) (x2 : Int32) (x3 : Int32) (x4 : Int32) (x5 : Int32) (x6 : Int32) (x7 : Int32) (x8 : Int32) (x9 : Int32) (h : kH) : Option (Int32 × kH) :=
  if x1 ≤ x9 then p_X8_lies_187 K82 x1 x2 x3 x4 x5 x6 x7 x8 h else if x8 ≤ x6 then p_X8_lies_187 K82 x1 x2 x3 x4 x5 x6 x7 x8 h else gd (inb x9 4) (le_ (hs h 149 (x9).toNatClampNeg (h 148 (x9).toNatClampNeg)) fun h21 => K154 (x1, x2, x3, x4, x5, x6, x7, x8, (x9 + (nI 1)), h21))
def p_X8_lies_106 (K82 : Int32 × Int32 × Int32 × Int32 × Int32 × Int32 × Int32 × kH → Option (Int32 × kH)) (K106 : Int32 × Int32 × Int32 × Int32 × Int32 × Int32 × Int32 × Int32 × kH → Option (Int32 × kH)) (x1 : Int32) (x2 : Int32) (x3 : Int32) (x4 : Int32) (x5 : Int32) (x6 : Int32) (x7 : Int32) (x8 : Int32) (h : kH) : Option (Int32 × kH) :=
  if x1 ≤ x8 then bd2 (p_X8_runs x2 x3 h) fun v19 h17 => fx (fun K154 s => p_X8_lies_154 K82 K154 s.1 s.2.1 s.2.2.1 s.2.2.2.1 s.2.2.2.2.1 s.2.2.2.2.2.1 s.2.2.2.2.2.2.1 s.2.2.2.2.2.2.2.1 s.2.2.2.2.2.2.2.2.1 s.2.2.2.2.2.2.2.2.2) FU (x1, x2, x3, x4, x5, x6, x7, v19, (nI 0), h17) else bd2 (p_X8_potAt (nI 3) x8 h) fun v24 h22 => gd (inb x8 4) (gd (inb (h22 148 (x8).toNatClampNeg) 6) (gd (inb (v24 + (nI 0)) 800) (le_ (hs h22 143 ((v24 + (nI 0))).toNatClampNeg (h22 144 ((h22 148 (x8).toNatClampNeg)).toNatClampNeg)) fun h28 => K106 (x1, x2, x3, x4, x5, x6, x7, (x8 + (nI 1)), h28))))
def p_X8_lies_82 (K82 : Int32 × Int32 × Int32 × Int32 × Int32 × Int32 × Int32 × kH → Option (Int32 × kH)) (x1 : Int32) (x2 : Int32) (x3 : Int32) (x4 : Int32) (x5 : Int32) (x6 : Int32) (x7 : Int32) (h : kH) : Option (Int32 × kH) :=
  if x5 ≤ x7 then if x6 < 0 then some (x6, h) else if 0 ≤ x4 then gd (inb x4 4) (some ((h 149 (x4).toNatClampNeg), h)) else some (x6, h) else bd2 (p_X8_isWay x7 x1 h) fun v14 h12 => if v14 = 0 then K82 (x1, x2, x3, x4, x5, x6, (x7 + (nI 1)), h12) else bd (p_X8_tries h12) fun h15 => fx (fun K106 s => p_X8_lies_106 K82 K106 s.1 s.2.1 s.2.2.1 s.2.2.2.1 s.2.2.2.2.1 s.2.2.2.2.2.1 s.2.2.2.2.2.2.1 s.2.2.2.2.2.2.2.1 s.2.2.2.2.2.2.2.2) FU (x1, x2, x3, x4, x5, x6, x7, (nI 0), h15)
def p_X8_lies_54 (K54 : Int32 × Int32 × Int32 × Int32 × Int32 × Int32 × kH → Option (Int32 × kH)) (x1 : Int32) (x2 : Int32) (x3 : Int32) (x4 : Int32) (x5 : Int32) (x6 : Int32) (h : kH) : Option (Int32 × kH) :=
  if x1 ≤ x6 then fx (fun K82 s => p_X8_lies_82 K82 s.1 s.2.1 s.2.2.1 s.2.2.2.1 s.2.2.2.2.1 s.2.2.2.2.2.1 s.2.2.2.2.2.2.1 s.2.2.2.2.2.2.2) FU (x1, x2, x3, x4, x5, (-4 : Int32), (nI 0), h) else le_ (x5 * (h 135 11)) fun v29 => K54 (x1, x2, x3, x4, v29, (x6 + (nI 1)), h)
def p_X8_lies (x1 : Int32) (x2 : Int32) (x3 : Int32) (x4 : Int32) (h : kH) : Option (Int32 × kH) :=
  bd2 (p_X8_in (x1).toInt64 (1 : Int64) (4 : Int64) h) fun v3 h1 => if v3 = 0 then some ((-1 : Int32), h1) else gd (inb (nI 0) 2) (if (h1 138 ((nI 0)).toNatClampNeg) < x1 then some ((-1 : Int32), h1) else bd2 (p_X8_isRun x2 x3 h1) fun v7 h5 => if v7 = 0 then some ((-1 : Int32), h5) else bd2 (p_X8_in (x4).toInt64 (-1 : Int64) ((x1 - (nI 1))).toInt64 h5) fun v10 h8 => if v10 = 0 then some ((-1 : Int32), h8) else fx (fun K54 s => p_X8_lies_54 K54 s.1 s.2.1 s.2.2.1 s.2.2.2.1 s.2.2.2.2.1 s.2.2.2.2.2.1 s.2.2.2.2.2.2) FU (x1, x2, x3, x4, (nI 1), (nI 0), h8))
def p_X8_raked_15 (K15 : Int32 × Int32 × Int32 × Int32 × kH → Option (Int32 × kH)) (x1 : Int32) (x2 : Int32) (x3 : Int32) (x5 : Int32) (h : kH) : Option (Int32 × kH) :=
  bd2 (p_X8_cells h) fun v8 h6 => if v8 ≤ x5 then bd2 (p_X8_runs (x2 - x1) x3 h6) fun v11 h9 => some (v11, h9) else gd (inb ((nI 630) + x5) 800) (le_ (hs h6 143 (((nI 630) + x5)).toNatClampNeg (nI 0)) fun h13 => gd (inb ((nI 720) + x5) 800) (le_ (hs h13 143 (((nI 720) + x5)).toNatClampNeg (nI 0)) fun h15 => K15 (x1, x2, x3, (x5 + (nI 1)), h15)))
def p_X8_raked (x1 : Int32) (x2 : Int32) (x3 : Int32) (h : kH) : Option (Int32 × kH) :=
  bd (p_X8_tries h) fun h1 => bd2 (p_X8_runs x1 x3 h1) fun v5 h3 => fx (fun K15 s => p_X8_raked_15 K15 s.1 s.2.1 s.2.2.1 s.2.2.2.1 s.2.2.2.2) FU (x1, x2, x3, (nI 0), h3)
def p_X8_rake_24 (K24 : Int32 × Int32 × Int32 × Int32 × kH → Option (Int32 × kH)) (x1 : Int32) (x2 : Int32) (x3 : Int32) (x4 : Int32) (h : kH) : Option (Int32 × kH) :=
  bd2 (p_X8_raked x4 x1 x2 h) fun v11 h9 => if x3 ≤ v11 then some (x4, h9) else K24 (x1, x2, x3, (x4 + (nI 1)), h9)
def p_X8_rake (x1 : Int32) (x2 : Int32) (h : kH) : Option (Int32 × kH) :=
  bd2 (p_X8_isRun x1 x2 h) fun v3 h1 => if v3 = 0 then some ((-1 : Int32), h1) else bd (p_X8_tries h1) fun h4 => bd2 (p_X8_runs x1 x2 h4) fun v8 h6 => fx (fun K24 s => p_X8_rake_24 K24 s.1 s.2.1 s.2.2.1 s.2.2.2.1 s.2.2.2.2) FU (x1, x2, v8, (nI 0), h6)
def p_X8_black_43 (K21 : Int32 × Int32 × Int32 × Int32 × kH → Option (Int32 × kH)) (K43 : Int32 × Int32 × Int32 × Int32 × Int32 × kH → Option (Int32 × kH)) (x1 : Int32) (x2 : Int32) (x3 : Int32) (x4 : Int32) (x6 : Int32) (h : kH) : Option (Int32 × kH) :=
  bd2 (p_X8_cells h) fun v14 h12 => if v14 ≤ x6 then bd2 (p_X8_runs (x2 - x4) x3 h12) fun v17 h15 => if v17 ≤ 0 then K21 (x1, x2, x3, (x4 + (nI 1)), h15) else bd2 (p_X8_lossOf (nI 3) x1 h15) fun v20 h18 => if v20 = 0 then bd2 (p_X8_potAt (nI 3) x1 h18) fun v23 h21 => gd (inb (v23 + (nI 5)) 800) (if (h21 143 ((v23 + (nI 5))).toNatClampNeg) = (nI 2) then some (x4, h21) else K21 (x1, x2, x3, (x4 + (nI 1)), h21)) else K21 (x1, x2, x3, (x4 + (nI 1)), h18) else gd (inb ((nI 720) + x6) 800) (le_ (hs h12 143 (((nI 720) + x6)).toNatClampNeg (nI 1)) fun h26 => K43 (x1, x2, x3, x4, (x6 + (nI 1)), h26))
def p_X8_black_21 (K21 : Int32 × Int32 × Int32 × Int32 × kH → Option (Int32 × kH)) (x1 : Int32) (x2 : Int32) (x3 : Int32) (x4 : Int32) (h : kH) : Option (Int32 × kH) :=
  if x2 < x4 then some ((-4 : Int32), h) else bd (p_X8_tries h) fun h7 => bd2 (p_X8_runs x4 x3 h7) fun v11 h9 => fx (fun K43 s => p_X8_black_43 K21 K43 s.1 s.2.1 s.2.2.1 s.2.2.2.1 s.2.2.2.2.1 s.2.2.2.2.2) FU (x1, x2, x3, x4, (nI 0), h9)
def p_X8_black (x1 : Int32) (x2 : Int32) (x3 : Int32) (h : kH) : Option (Int32 × kH) :=
  bd2 (p_X8_isPot x1 h) fun v3 h1 => if v3 = 0 then some ((-1 : Int32), h1) else bd2 (p_X8_isRun x2 x3 h1) fun v6 h4 => if v6 = 0 then some ((-1 : Int32), h4) else fx (fun K21 s => p_X8_black_21 K21 s.1 s.2.1 s.2.2.1 s.2.2.2.1 s.2.2.2.2) FU (x1, x2, x3, (nI 0), h4)
def p_X8_wind (x1 : Int32) (x2 : Int32) (h : kH) : Option (Int32 × kH) :=
  le_ ((((7919 : Int64) * (x1).toInt64) + ((6151 : Int64) * (x2).toInt64)) + (1 : Int64)) fun v1 => gd (inb (nI 7) 28) (gd (decide (¬ (((h 137 ((nI 7)).toNatClampNeg) + (nI 1))).toInt64 = 0)) (some (((lrem_ (lrem_ (v1 * v1) (65521 : Int64)) (((h 137 ((nI 7)).toNatClampNeg) + (nI 1))).toInt64)).toInt32, h)))
def p_X8_evenings_6 (K6 : Int32 × Int32 × Int32 × kH → Option (Int32 × kH)) (x1 : Int32) (x2 : Int32) (x3 : Int32) (h : kH) : Option (Int32 × kH) :=
  if x2 ≤ x3 then bd2 (p_X8_good (nI 0) h) fun v5 h3 => some (v5, h3) else bd2 (p_X8_wind x1 x3 h) fun v8 h6 => bd (p_X8_goes (nI 3) v8 h6) fun h9 => K6 (x1, x2, (x3 + (nI 1)), h9)
def p_X8_evenings (x1 : Int32) (x2 : Int32) (h : kH) : Option (Int32 × kH) :=
  bd (p_X8_tries h) fun h1 => fx (fun K6 s => p_X8_evenings_6 K6 s.1 s.2.1 s.2.2.1 s.2.2.2) FU (x1, x2, (nI 0), h1)
def p_X8_isEvening (x0 : Int32) (x1 : Int32) (h : kH) : Option (Int32 × kH) :=
  bd2 (p_X8_in (x0).toInt64 (0 : Int64) (9999 : Int64) h) fun v3 h1 => if v3 = 0 then some ((nI 0), h1) else bd2 (p_X8_in (x1).toInt64 (0 : Int64) (240 : Int64) h1) fun v6 h4 => if v6 = 0 then some ((nI 0), h4) else some ((nI 1), h4)
def p_X8_evening (x1 : Int32) (x2 : Int32) (h : kH) : Option (Int32 × kH) :=
  bd2 (p_X8_isEvening x1 x2 h) fun v3 h1 => if v3 = 0 then some ((-1 : Int32), h1) else bd2 (p_X8_evenings x1 x2 h1) fun v6 h4 => some (v6, h4)
def p_X8_ten_67 (K24 : Int32 × Int32 × Int32 × Int32 × Int32 × kH → Option (Int32 × kH)) (x1 : Int32) (x2 : Int32) (x3 : Int32) (x5 : Int32) (s0 : Int32) (s1 : Int32) (h : kH) : Option (Int32 × kH) :=
  le_ (s1 + s0) fun v10 => K24 (x1, x2, x3, v10, (x5 + (nI 1)), h)
def p_X8_ten_66 (K24 : Int32 × Int32 × Int32 × Int32 × Int32 × kH → Option (Int32 × kH)) (x1 : Int32) (x2 : Int32) (x3 : Int32) (x5 : Int32) (s0 : Int32) (h : kH) : Option (Int32 × kH) :=
  p_X8_ten_67 K24 x1 x2 x3 x5 (nI 0) s0 h
def p_X8_ten_24 (K24 : Int32 × Int32 × Int32 × Int32 × Int32 × kH → Option (Int32 × kH)) (x1 : Int32) (x2 : Int32) (x3 : Int32) (x4 : Int32) (x5 : Int32) (h : kH) : Option (Int32 × kH) :=
  if (nI 10) ≤ x5 then some (x4, h) else bd2 (p_X8_evenings (krem (x1 + x5) (nI 10000)) x2 h) fun v9 h7 => if v9 ≤ 0 then p_X8_ten_66 K24 x1 x2 x3 x5 x4 h7 else bd2 (p_X8_lossOf (nI 3) x3 h7) fun v13 h11 => if v13 = 0 then p_X8_ten_67 K24 x1 x2 x3 x5 (nI 1) x4 h11 else p_X8_ten_66 K24 x1 x2 x3 x5 x4 h11
def p_X8_ten (x1 : Int32) (x2 : Int32) (x3 : Int32) (h : kH) : Option (Int32 × kH) :=
  bd2 (p_X8_isEvening x1 x2 h) fun v3 h1 => if v3 = 0 then some ((-1 : Int32), h1) else bd2 (p_X8_isPot x3 h1) fun v6 h4 => if v6 = 0 then some ((-1 : Int32), h4) else fx (fun K24 s => p_X8_ten_24 K24 s.1 s.2.1 s.2.2.1 s.2.2.2.1 s.2.2.2.2.1 s.2.2.2.2.2) FU (x1, x2, x3, (nI 0), (nI 0), h4)
def p_X8_found_144 (s0 : Int32) (s1 : Int32) (h : kH) : Option (kH) :=
  gd (inb s1 5) (le_ (hs h 150 (s1).toNatClampNeg s0) fun h11 => some h11)
def p_X8_found_134 (x2 : Int32) (s0 : Int32) (h : kH) : Option (kH) :=
  p_X8_found_144 x2 s0 h
def p_X8_found_114 (x2 : Int32) (x3 : Int32) (s0 : Int32) (s1 : Int32) (h : kH) : Option (kH) :=
  gd (inb s1 5) (le_ (hs h 150 (s1).toNatClampNeg s0) fun h9 => if x3 = 0 then gd (inb (nI 4) 5) (if x2 ≤ (h9 150 ((nI 4)).toNatClampNeg) then p_X8_found_144 (h9 150 ((nI 4)).toNatClampNeg) (nI 4) h9 else p_X8_found_134 x2 (nI 4) h9) else p_X8_found_134 x2 (nI 4) h9)
def p_X8_found_104 (x2 : Int32) (x3 : Int32) (s0 : Int32) (h : kH) : Option (kH) :=
  p_X8_found_114 x2 x3 x2 s0 h
def p_X8_found_84 (x2 : Int32) (x3 : Int32) (s0 : Int32) (s1 : Int32) (h : kH) : Option (kH) :=
  gd (inb s1 5) (le_ (hs h 150 (s1).toNatClampNeg s0) fun h7 => if x3 = 0 then gd (inb (nI 3) 5) (if (h7 150 ((nI 3)).toNatClampNeg) ≤ x2 then p_X8_found_114 x2 x3 (h7 150 ((nI 3)).toNatClampNeg) (nI 3) h7 else p_X8_found_104 x2 x3 (nI 3) h7) else p_X8_found_104 x2 x3 (nI 3) h7)
def p_X8_found_74 (x1 : Int32) (x2 : Int32) (x3 : Int32) (s0 : Int32) (h : kH) : Option (kH) :=
  p_X8_found_84 x2 x3 x1 s0 h
def p_X8_found_54 (x1 : Int32) (x2 : Int32) (x3 : Int32) (s0 : Int32) (s1 : Int32) (h : kH) : Option (kH) :=
  gd (inb s1 5) (le_ (hs h 150 (s1).toNatClampNeg s0) fun h5 => if x3 = 0 then gd (inb (nI 2) 5) (if x1 ≤ (h5 150 ((nI 2)).toNatClampNeg) then p_X8_found_84 x2 x3 (h5 150 ((nI 2)).toNatClampNeg) (nI 2) h5 else p_X8_found_74 x1 x2 x3 (nI 2) h5) else p_X8_found_74 x1 x2 x3 (nI 2) h5)
def p_X8_found_44 (x1 : Int32) (x2 : Int32) (x3 : Int32) (s0 : Int32) (h : kH) : Option (kH) :=
  p_X8_found_54 x1 x2 x3 x1 s0 h
def p_X8_found_14 (x1 : Int32) (x2 : Int32) (s0 : Int32) (h : kH) : Option (kH) :=
  gd (inb (nI 0) 5) (le_ (hs h 150 ((nI 0)).toNatClampNeg ((h 150 ((nI 0)).toNatClampNeg) + (nI 1))) fun h3 => if s0 = 0 then gd (inb (nI 1) 5) (if (h3 150 ((nI 1)).toNatClampNeg) ≤ x1 then p_X8_found_54 x1 x2 s0 (h3 150 ((nI 1)).toNatClampNeg) (nI 1) h3 else p_X8_found_44 x1 x2 s0 (nI 1) h3) else p_X8_found_44 x1 x2 s0 (nI 1) h3)
def p_X8_found (x1 : Int32) (x2 : Int32) (h : kH) : Option (kH) :=
  gd (inb (nI 0) 5) (if (h 150 ((nI 0)).toNatClampNeg) = 0 then p_X8_found_14 x1 x2 (nI 1) h else p_X8_found_14 x1 x2 (nI 0) h)
def p_X8_sherd_168 (x4 : Int32) (h : kH) : Option (Int32 × kH) :=
  gd (inb x4 5) (some ((h 150 (x4).toNatClampNeg), h))
def p_X8_sherd_86 (K57 : Int32 × Int32 × Int32 × Int32 × Int32 × kH → Option (Int32 × kH)) (K86 : Int32 × Int32 × Int32 × Int32 × Int32 × Int32 × kH → Option (Int32 × kH)) (x1 : Int32) (x2 : Int32) (x3 : Int32) (x4 : Int32) (x5 : Int32) (x6 : Int32) (h : kH) : Option (Int32 × kH) :=
  if (nI 240) < x6 then K57 (x1, x2, x3, x4, (x5 + (nI 10)), h) else bd2 (p_X8_runs (nI 30) (nI 0) h) fun v26 h24 => if v26 < 0 then K86 (x1, x2, x3, x4, x5, (x6 + (nI 30)), h24) else bd2 (p_X8_lossOf (nI 3) x1 h24) fun v29 h27 => if v29 = x2 then bd2 (p_X8_potAt (nI 3) x1 h27) fun v32 h30 => gd (inb (v32 + (nI 5)) 800) (if (h30 143 ((v32 + (nI 5))).toNatClampNeg) = x3 then bd (p_X8_found x5 x6 h30) fun h34 => K86 (x1, x2, x3, x4, x5, (x6 + (nI 30)), h34) else K86 (x1, x2, x3, x4, x5, (x6 + (nI 30)), h30)) else K86 (x1, x2, x3, x4, x5, (x6 + (nI 30)), h27)
def p_X8_sherd_57 (K57 : Int32 × Int32 × Int32 × Int32 × Int32 × kH → Option (Int32 × kH)) (x1 : Int32) (x2 : Int32) (x3 : Int32) (x4 : Int32) (x5 : Int32) (h : kH) : Option (Int32 × kH) :=
  if (nI 100) ≤ x5 then if x4 = 0 then p_X8_sherd_168 x4 h else gd (inb (nI 0) 5) (if (h 150 ((nI 0)).toNatClampNeg) ≤ 0 then some ((-4 : Int32), h) else p_X8_sherd_168 x4 h) else bd (p_X8_tries h) fun h17 => bd2 (p_X8_potAt (nI 3) x1 h17) fun v21 h19 => gd (inb (v21 + (nI 2)) 800) (le_ (hs h19 143 ((v21 + (nI 2))).toNatClampNeg x5) fun h23 => fx (fun K86 s => p_X8_sherd_86 K57 K86 s.1 s.2.1 s.2.2.1 s.2.2.2.1 s.2.2.2.2.1 s.2.2.2.2.2.1 s.2.2.2.2.2.2) FU (x1, x2, x3, x4, x5, (nI 30), h23))
def p_X8_sherd (x1 : Int32) (x2 : Int32) (x3 : Int32) (x4 : Int32) (h : kH) : Option (Int32 × kH) :=
  bd2 (p_X8_isPot x1 h) fun v3 h1 => if v3 = 0 then some ((-1 : Int32), h1) else bd2 (p_X8_in (x2).toInt64 (0 : Int64) (5 : Int64) h1) fun v6 h4 => if v6 = 0 then some ((-1 : Int32), h4) else bd2 (p_X8_in (x3).toInt64 (0 : Int64) (2 : Int64) h4) fun v9 h7 => if v9 = 0 then some ((-1 : Int32), h7) else bd2 (p_X8_in (x4).toInt64 (0 : Int64) (4 : Int64) h7) fun v12 h10 => if v12 = 0 then some ((-1 : Int32), h10) else gd (inb (nI 0) 5) (le_ (hs h10 150 ((nI 0)).toNatClampNeg (nI 0)) fun h14 => fx (fun K57 s => p_X8_sherd_57 K57 s.1 s.2.1 s.2.2.1 s.2.2.2.1 s.2.2.2.2.1 s.2.2.2.2.2) FU (x1, x2, x3, x4, (nI 0), h14))
def p_X8_keep (h : kH) : Option (Int32 × kH) :=
  if (h 135 10) = (nI 2) then some ((-3 : Int32), h) else le_ (hs h 135 10 ((h 135 10) + (nI 1))) fun h1 => bd (p_X8_copies (nI 0) (h1 135 10) h1) fun h2 => some ((h2 135 10), h2)
def p_X8_back (h : kH) : Option (Int32 × kH) :=
  if (h 135 10) = 0 then some ((-2 : Int32), h) else bd (p_X8_copies (h 135 10) (nI 0) h) fun h1 => le_ (hs h1 135 10 ((h1 135 10) - (nI 1))) fun h3 => some ((h3 135 10), h3)
def p_X8_count (x1 : Int32) (h : kH) : Option (Int32 × kH) :=
  if x1 = 0 then bd2 (p_X8_cells h) fun v5 h3 => some (v5, h3) else if x1 = (nI 1) then gd (inb (nI 0) 2) (some ((h 138 ((nI 0)).toNatClampNeg), h)) else if x1 = (nI 2) then some ((h 135 0), h) else if x1 = (nI 3) then gd (inb (nI 198) 800) (some ((h 143 ((nI 198)).toNatClampNeg), h)) else if x1 = (nI 4) then some ((h 135 11), h) else if x1 = (nI 5) then some ((h 135 10), h) else some ((-1 : Int32), h)
end
section
set_option maxHeartbeats 4000000 in
theorem w_X0_place_26 {G : kG} {X : kX} {T : List kT} {r0 : Int32} {h0 : kH} (hR : k_R G M_X0_place X T 0 0 (some (iv r0)) h0) (x0 : Int32) (x1 : Int32) (s0 : Int32) (h : kH) (e : p_X0_place_26 x0 x1 s0 h = some (r0, h0)) : V G M_X0_place X T 0 0 26 [some (iv x0), some (iv x1), none] [iv s0] h := by
  unfold p_X0_place_26 at e
  refine V_istore_n 13 rfl (Nat.le_of_ble_eq_true rfl) rfl ?_
  show V G M_X0_place X T 0 0 27 [some (iv x0), some (iv x1), some (iv s0)] [] h
  refine V_iload_n 14 rfl rfl ?_
  rcases if_e e with ⟨c15, e⟩ | ⟨c15, e⟩
  · refine V_if_eq 40 15 rfl (by decide +kernel) (fun _ => ?_) (fun q => absurd c15 q) 
    refine V_iconst (nI 0) 22 rfl ic_0 ?_
    cases e
    exact V_iret 23 rfl hR rfl
  · refine V_if_eq 40 15 rfl (by decide +kernel) (fun q => absurd q c15) (fun _ => ?_)
    refine V_iload_n 16 rfl rfl ?_
    refine V_bipush (nI 30) 17 rfl bp_30 ?_
    refine V_imul 18 rfl ?_
    refine V_iload_n 19 rfl rfl ?_
    refine V_iadd 20 rfl ?_
    refine V_goto 41 21 rfl (by decide +kernel) ?_
    cases e
    exact V_iret 23 rfl hR rfl
set_option maxHeartbeats 4000000 in
theorem w_X0_place_25 {G : kG} {X : kX} {T : List kT} {r0 : Int32} {h0 : kH} (hR : k_R G M_X0_place X T 0 0 (some (iv r0)) h0) (x0 : Int32) (x1 : Int32) (h : kH) (e : p_X0_place_25 x0 x1 h = some (r0, h0)) : V G M_X0_place X T 0 0 25 [some (iv x0), some (iv x1), none] [] h := by
  unfold p_X0_place_25 at e
  refine V_iconst (nI 0) 12 rfl ic_0 ?_
  refine V_msk [true, true, false] (lc' := [some (iv x0), some (iv x1), none]) rfl ?_
  exact w_X0_place_26 hR x0 x1 (nI 0) h e
set_option maxHeartbeats 4000000 in
theorem c_X0_place {G : kG} {T : List kT} {x0 : Int32} {x1 : Int32} {h : kH} {r0 : Int32} {h0 : kH} (e : p_X0_place x0 x1 h = some (r0, h0)) : k_C G M_X0_place T [iv x0, iv x1] h (some (iv r0)) h0 := by
  refine k_C_of 1 (by decide +kernel) rfl tb_X0_place rfl (fun X hR => ?_)
  show V G M_X0_place X T 0 0 0 [some (iv x0), some (iv x1), none] [] h
  unfold p_X0_place at e
  refine V_iload_n 0 rfl rfl ?_
  rcases if_e e with ⟨c1, e⟩ | ⟨c1, e⟩
  · refine V_if_lt 25 1 rfl (by decide +kernel) (fun _ => ?_) (fun q => absurd c1 q) 
    refine V_msk [true, true, false] (lc' := [some (iv x0), some (iv x1), none]) rfl ?_
    exact w_X0_place_25 hR x0 x1 h e
  · refine V_if_lt 25 1 rfl (by decide +kernel) (fun q => absurd q c1) (fun _ => ?_)
    refine V_iload_n 2 rfl rfl ?_
    refine V_sipush (nI 240) 3 rfl sp_240 ?_
    rcases if_e e with ⟨c4, e⟩ | ⟨c4, e⟩
    · refine V_icmp_ge 25 4 rfl (by decide +kernel) (fun _ => ?_) (fun q => absurd c4 q) 
      refine V_msk [true, true, false] (lc' := [some (iv x0), some (iv x1), none]) rfl ?_
      exact w_X0_place_25 hR x0 x1 h e
    · refine V_icmp_ge 25 4 rfl (by decide +kernel) (fun q => absurd q c4) (fun _ => ?_)
      refine V_iload_n 5 rfl rfl ?_
      rcases if_e e with ⟨c6, e⟩ | ⟨c6, e⟩
      · refine V_if_lt 25 6 rfl (by decide +kernel) (fun _ => ?_) (fun q => absurd c6 q) 
        refine V_msk [true, true, false] (lc' := [some (iv x0), some (iv x1), none]) rfl ?_
        exact w_X0_place_25 hR x0 x1 h e
      · refine V_if_lt 25 6 rfl (by decide +kernel) (fun q => absurd q c6) (fun _ => ?_)
        refine V_iload_n 7 rfl rfl ?_
        refine V_bipush (nI 30) 8 rfl bp_30 ?_
        rcases if_e e with ⟨c9, e⟩ | ⟨c9, e⟩
        · refine V_icmp_ge 25 9 rfl (by decide +kernel) (fun _ => ?_) (fun q => absurd c9 q) 
          refine V_msk [true, true, false] (lc' := [some (iv x0), some (iv x1), none]) rfl ?_
          exact w_X0_place_25 hR x0 x1 h e
        · refine V_icmp_ge 25 9 rfl (by decide +kernel) (fun q => absurd q c9) (fun _ => ?_)
          refine V_iconst (nI 1) 10 rfl ic_1 ?_
          refine V_goto 26 11 rfl (by decide +kernel) ?_
          refine V_msk [true, true, false] (lc' := [some (iv x0), some (iv x1), none]) rfl ?_
          exact w_X0_place_26 hR x0 x1 (nI 1) h e
set_option maxHeartbeats 4000000 in
theorem c_X7_oneIf {G : kG} {T : List kT} {x0 : Int32} {h : kH} {r0 : Int32} {h0 : kH} (e : p_X7_oneIf x0 h = some (r0, h0)) : k_C G M_X7_oneIf T [iv x0] h (some (iv r0)) h0 := by
  refine k_C_of 0 (by decide +kernel) rfl tb_X7_oneIf rfl (fun X hR => ?_)
  show V G M_X7_oneIf X T 0 0 0 [some (iv x0)] [] h
  unfold p_X7_oneIf at e
  refine V_iload_n 0 rfl rfl ?_
  rcases if_e e with ⟨c1, e⟩ | ⟨c1, e⟩
  · refine V_if_eq 8 1 rfl (by decide +kernel) (fun _ => ?_) (fun q => absurd c1 q) 
    refine V_iconst (nI 0) 4 rfl ic_0 ?_
    cases e
    exact V_iret 5 rfl hR rfl
  · refine V_if_eq 8 1 rfl (by decide +kernel) (fun q => absurd q c1) (fun _ => ?_)
    refine V_iconst (nI 1) 2 rfl ic_1 ?_
    refine V_goto 9 3 rfl (by decide +kernel) ?_
    cases e
    exact V_iret 5 rfl hR rfl
set_option maxHeartbeats 4000000 in
theorem c_X0_put {G : kG} {T : List kT} {x1 : Int32} {x2 : Int32} {x3 : Int32} {x4 : Int32} {h : kH} {h0 : kH} (e : p_X0_put x1 x2 x3 x4 h = some h0) : k_C G M_X0_put T [rv (0, 99) 132, iv x1, iv x2, iv x3, iv x4] h none h0 := by
  refine k_C_of 0 (by decide +kernel) rfl tb_X0_put rfl (fun X hR => ?_)
  show V G M_X0_put X T 0 0 0 [some (rv (0, 99) 132), some (iv x1), some (iv x2), some (iv x3), some (iv x4)] [] h
  unfold p_X0_put at e
  refine V_aload_n 0 rfl rfl ?_
  refine V_getR 133 1 rfl fr_RX0_9 ⟨Nat.le_of_ble_eq_true rfl, Or.inl (Nat.le_of_ble_eq_true rfl)⟩ rfl ?_
  refine V_iload_n 2 rfl rfl ?_
  refine V_iload_n 3 rfl rfl ?_
  obtain ⟨v3, h1, d2, e⟩ := bd2_e e
  refine V_callS (N := M_X0_place) (av := [iv x1, iv x2]) (st := [rv (9, 7200) 133]) (r := some (iv v3)) (h' := h1) 4 rfl (c_X0_place d2) g_X0_place gs_X0_place lk_RX0_15 ⟨Nat.le_of_ble_eq_true rfl, Nat.le_of_ble_eq_true rfl⟩ rfl (Nat.le_of_ble_eq_true rfl) ⟨Nat.zero_le _, Nat.zero_le _⟩ ?_
  show V G M_X0_put X T 0 0 9 [some (rv (0, 99) 132), some (iv x1), some (iv x2), some (iv x3), some (iv x4)] [iv v3, rv (9, 7200) 133] h1
  refine V_iconst (nI 2) 5 rfl ic_2 ?_
  refine V_iload_n 6 rfl rfl ?_
  refine V_imul 7 rfl ?_
  refine V_iload 8 rfl rfl ?_
  obtain ⟨v6, h4, d5, e⟩ := bd2_e e
  refine V_callSN (N := M_X7_oneIf) (av := [iv x4]) (st := [iv ((nI 2) * x3), iv v3, rv (9, 7200) 133]) (r := some (iv v6)) (h' := h4) 9 rfl (c_X7_oneIf d5) g_X7_oneIf gs_X7_oneIf nk_RX0_19 ⟨Nat.le_of_ble_eq_true rfl, Nat.le_of_ble_eq_true rfl⟩ rfl (Nat.le_of_ble_eq_true rfl) ⟨Nat.zero_le _, Nat.zero_le _⟩ ?_
  show V G M_X0_put X T 0 0 17 [some (rv (0, 99) 132), some (iv x1), some (iv x2), some (iv x3), some (iv x4)] [iv v6, iv ((nI 2) * x3), iv v3, rv (9, 7200) 133] h4
  refine V_iadd 10 rfl ?_
  obtain ⟨g7, e⟩ := gd_e e
  refine V_iast 11 rfl g7 ?_
  refine le_V (P := fun h8 => V G M_X0_put X T 0 0 19 [some (rv (0, 99) 132), some (iv x1), some (iv x2), some (iv x3), some (iv x4)] [] h8) e (fun h8 e => ?_)
  cases e
  exact V_vret 12 rfl hR rfl
set_option maxHeartbeats 4000000 in
theorem c_X0_heatAt {G : kG} {T : List kT} {x1 : Int32} {x2 : Int32} {h : kH} {r0 : Int32} {h0 : kH} (e : p_X0_heatAt x1 x2 h = some (r0, h0)) : k_C G M_X0_heatAt T [rv (0, 99) 132, iv x1, iv x2] h (some (iv r0)) h0 := by
  refine k_C_of 0 (by decide +kernel) rfl tb_X0_heatAt rfl (fun X hR => ?_)
  show V G M_X0_heatAt X T 0 0 0 [some (rv (0, 99) 132), some (iv x1), some (iv x2)] [] h
  unfold p_X0_heatAt at e
  refine V_aload_n 0 rfl rfl ?_
  refine V_getR 133 1 rfl fr_RX0_9 ⟨Nat.le_of_ble_eq_true rfl, Or.inl (Nat.le_of_ble_eq_true rfl)⟩ rfl ?_
  refine V_iload_n 2 rfl rfl ?_
  refine V_iload_n 3 rfl rfl ?_
  obtain ⟨v3, h1, d2, e⟩ := bd2_e e
  refine V_callS (N := M_X0_place) (av := [iv x1, iv x2]) (st := [rv (9, 7200) 133]) (r := some (iv v3)) (h' := h1) 4 rfl (c_X0_place d2) g_X0_place gs_X0_place lk_RX0_15 ⟨Nat.le_of_ble_eq_true rfl, Nat.le_of_ble_eq_true rfl⟩ rfl (Nat.le_of_ble_eq_true rfl) ⟨Nat.zero_le _, Nat.zero_le _⟩ ?_
  show V G M_X0_heatAt X T 0 0 9 [some (rv (0, 99) 132), some (iv x1), some (iv x2)] [iv v3, rv (9, 7200) 133] h1
  obtain ⟨g4, e⟩ := gd_e e
  refine V_iald 5 rfl g4 ?_
  refine V_iconst (nI 2) 6 rfl ic_2 ?_
  refine V_idiv 7 rfl (by decide +kernel) ?_
  cases e
  exact V_iret 8 rfl hR rfl
set_option maxHeartbeats 4000000 in
theorem c_X0_blackensAt {G : kG} {T : List kT} {x1 : Int32} {x2 : Int32} {h : kH} {r0 : Int32} {h0 : kH} (e : p_X0_blackensAt x1 x2 h = some (r0, h0)) : k_C G M_X0_blackensAt T [rv (0, 99) 132, iv x1, iv x2] h (some (iv r0)) h0 := by
  refine k_C_of 0 (by decide +kernel) rfl tb_X0_blackensAt rfl (fun X hR => ?_)
  show V G M_X0_blackensAt X T 0 0 0 [some (rv (0, 99) 132), some (iv x1), some (iv x2)] [] h
  unfold p_X0_blackensAt at e
  refine V_aload_n 0 rfl rfl ?_
  refine V_getR 133 1 rfl fr_RX0_9 ⟨Nat.le_of_ble_eq_true rfl, Or.inl (Nat.le_of_ble_eq_true rfl)⟩ rfl ?_
  refine V_iload_n 2 rfl rfl ?_
  refine V_iload_n 3 rfl rfl ?_
  obtain ⟨v3, h1, d2, e⟩ := bd2_e e
  refine V_callS (N := M_X0_place) (av := [iv x1, iv x2]) (st := [rv (9, 7200) 133]) (r := some (iv v3)) (h' := h1) 4 rfl (c_X0_place d2) g_X0_place gs_X0_place lk_RX0_15 ⟨Nat.le_of_ble_eq_true rfl, Nat.le_of_ble_eq_true rfl⟩ rfl (Nat.le_of_ble_eq_true rfl) ⟨Nat.zero_le _, Nat.zero_le _⟩ ?_
  show V G M_X0_blackensAt X T 0 0 9 [some (rv (0, 99) 132), some (iv x1), some (iv x2)] [iv v3, rv (9, 7200) 133] h1
  obtain ⟨g4, e⟩ := gd_e e
  refine V_iald 5 rfl g4 ?_
  refine V_iconst (nI 2) 6 rfl ic_2 ?_
  refine V_rem 7 rfl (by decide +kernel) ?_
  refine V_iconst (nI 1) 8 rfl ic_1 ?_
  rcases if_e e with ⟨c9, e⟩ | ⟨c9, e⟩
  · refine V_icmp_ne 20 9 rfl (by decide +kernel) (fun q => absurd c9 q) (fun _ => ?_)
    refine V_iconst (nI 1) 10 rfl ic_1 ?_
    refine V_goto 21 11 rfl (by decide +kernel) ?_
    cases e
    exact V_zret 13 rfl z_1 hR rfl
  · refine V_icmp_ne 20 9 rfl (by decide +kernel) (fun _ => ?_) (fun q => absurd q c9) 
    refine V_iconst (nI 0) 12 rfl ic_0 ?_
    cases e
    exact V_zret 13 rfl z_0 hR rfl
set_option maxHeartbeats 4000000 in
theorem w_X1_clear_2 {G : kG} {X : kX} {T : List kT} {h0 : kH} (hR : k_R G M_X1_clear X T 0 0 none h0) (F : Nat) (K2 : Int32 × kH → Option (kH)) (hK2 : ∀ (x1 : Int32) (h : kH), K2 (x1, h) = some h0 → V G M_X1_clear X T 0 0 2 [some (rv (1, 99) F), some (iv x1)] [] h) (x1 : Int32) (h : kH) (e : p_X1_clear_2 K2 F x1 h = some h0) : V G M_X1_clear X T 0 0 2 [some (rv (1, 99) F), some (iv x1)] [] h := by
  unfold p_X1_clear_2 at e
  refine V_iload_n 2 rfl rfl ?_
  refine V_bipush (nI 30) 3 rfl bp_30 ?_
  rcases if_e e with ⟨c4, e⟩ | ⟨c4, e⟩
  · refine V_icmp_ge 50 4 rfl (by decide +kernel) (fun _ => ?_) (fun q => absurd c4 q) 
    cases e
    exact V_vret 32 rfl hR rfl
  · refine V_icmp_ge 50 4 rfl (by decide +kernel) (fun q => absurd q c4) (fun _ => ?_)
    refine V_aload_n 5 rfl rfl ?_
    refine V_getR (F + 1) 6 rfl fr_RX1_9 ⟨Nat.le_of_ble_eq_true rfl, Or.inl (Nat.le_of_ble_eq_true rfl)⟩ rfl ?_
    refine V_iload_n 7 rfl rfl ?_
    refine V_bipush (nI 20) 8 rfl bp_20 ?_
    obtain ⟨g1, e⟩ := gd_e e
    refine V_iast 9 rfl g1 ?_
    refine le_V (P := fun h2 => V G M_X1_clear X T 0 0 16 [some (rv (1, 99) F), some (iv x1)] [] h2) e (fun h2 e => ?_)
    refine V_aload_n 10 rfl rfl ?_
    refine V_getR (F + 2) 11 rfl fr_RX1_15 ⟨Nat.le_of_ble_eq_true rfl, Or.inl (Nat.le_of_ble_eq_true rfl)⟩ rfl ?_
    refine V_iload_n 12 rfl rfl ?_
    refine V_iconst (nI 0) 13 rfl ic_0 ?_
    refine V_iast 14 rfl g1 ?_
    refine le_V (P := fun h3 => V G M_X1_clear X T 0 0 23 [some (rv (1, 99) F), some (iv x1)] [] h3) e (fun h3 e => ?_)
    refine V_aload_n 15 rfl rfl ?_
    refine V_getR (F + 3) 16 rfl fr_RX1_18 ⟨Nat.le_of_ble_eq_true rfl, Or.inl (Nat.le_of_ble_eq_true rfl)⟩ rfl ?_
    refine V_iload_n 17 rfl rfl ?_
    refine V_iconst (nI 0) 18 rfl ic_0 ?_
    refine V_iast 19 rfl g1 ?_
    refine le_V (P := fun h4 => V G M_X1_clear X T 0 0 30 [some (rv (1, 99) F), some (iv x1)] [] h4) e (fun h4 e => ?_)
    refine V_aload_n 20 rfl rfl ?_
    refine V_getR (F + 4) 21 rfl fr_RX1_21 ⟨Nat.le_of_ble_eq_true rfl, Or.inl (Nat.le_of_ble_eq_true rfl)⟩ rfl ?_
    refine V_iload_n 22 rfl rfl ?_
    refine V_iconst (nI 0) 23 rfl ic_0 ?_
    refine V_zast 24 rfl g1 ?_
    refine le_V (P := fun h5 => V G M_X1_clear X T 0 0 37 [some (rv (1, 99) F), some (iv x1)] [] h5) e (fun h5 e => ?_)
    refine V_aload_n 25 rfl rfl ?_
    refine V_getR (F + 5) 26 rfl fr_RX1_25 ⟨Nat.le_of_ble_eq_true rfl, Or.inl (Nat.le_of_ble_eq_true rfl)⟩ rfl ?_
    refine V_iload_n 27 rfl rfl ?_
    refine V_iconst (nI 0) 28 rfl ic_0 ?_
    refine V_zast 29 rfl g1 ?_
    refine le_V (P := fun h6 => V G M_X1_clear X T 0 0 44 [some (rv (1, 99) F), some (iv x1)] [] h6) e (fun h6 e => ?_)
    refine V_iinc (x1 + (nI 1)) 30 rfl rfl (inc_1 _) (Nat.le_of_ble_eq_true rfl) rfl ?_
    show V G M_X1_clear X T 0 0 47 [some (rv (1, 99) F), some (iv (x1 + (nI 1)))] [] h6
    refine V_goto 2 31 rfl (by decide +kernel) ?_
    refine V_msk [true, true] (lc' := [some (rv (1, 99) F), some (iv (x1 + (nI 1)))]) rfl ?_
    exact hK2 (x1 + (nI 1)) h6 e
set_option maxHeartbeats 4000000 in
theorem c_X1_clear {G : kG} {T : List kT} {F : Nat} {h : kH} {h0 : kH} (e : p_X1_clear F h = some h0) : k_C G M_X1_clear T [rv (1, 99) F] h none h0 := by
  refine k_C_of 1 (by decide +kernel) rfl tb_X1_clear rfl (fun X hR => ?_)
  show V G M_X1_clear X T 0 0 0 [some (rv (1, 99) F), none] [] h
  unfold p_X1_clear at e
  refine V_iconst (nI 0) 0 rfl ic_0 ?_
  refine V_istore_n 1 rfl (Nat.le_of_ble_eq_true rfl) rfl ?_
  show V G M_X1_clear X T 0 0 2 [some (rv (1, 99) F), some (iv (nI 0))] [] h
  refine V_msk [true, true] (lc' := [some (rv (1, 99) F), some (iv (nI 0))]) rfl ?_
  exact fx_e (P := fun s => V G M_X1_clear X T 0 0 2 [some (rv (1, 99) F), some (iv s.1)] [] s.2) (fun K2 hK2 s e => w_X1_clear_2 hR F K2 (fun x1 h e => hK2 (x1, h) e) s.1 s.2 e) FU ((nI 0), h) e
set_option maxHeartbeats 4000000 in
theorem c_X1_copyCell {G : kG} {T : List kT} {F : Nat} {F2 : Nat} {x1 : Int32} {x3 : Int32} {h : kH} {h0 : kH} (e : p_X1_copyCell F F2 x1 x3 h = some h0) : k_C G M_X1_copyCell T [rv (1, 99) F, iv x1, rv (1, 99) F2, iv x3] h none h0 := by
  refine k_C_of 0 (by decide +kernel) rfl tb_X1_copyCell rfl (fun X hR => ?_)
  show V G M_X1_copyCell X T 0 0 0 [some (rv (1, 99) F), some (iv x1), some (rv (1, 99) F2), some (iv x3)] [] h
  unfold p_X1_copyCell at e
  refine V_aload_n 0 rfl rfl ?_
  refine V_getR (F + 1) 1 rfl fr_RX1_9 ⟨Nat.le_of_ble_eq_true rfl, Or.inl (Nat.le_of_ble_eq_true rfl)⟩ rfl ?_
  refine V_iload_n 2 rfl rfl ?_
  refine V_aload_n 3 rfl rfl ?_
  refine V_getR (F2 + 1) 4 rfl fr_RX1_9 ⟨Nat.le_of_ble_eq_true rfl, Or.inl (Nat.le_of_ble_eq_true rfl)⟩ rfl ?_
  refine V_iload_n 5 rfl rfl ?_
  obtain ⟨g1, e⟩ := gd_e e
  refine V_iald 6 rfl g1 ?_
  obtain ⟨g2, e⟩ := gd_e e
  refine V_iast 7 rfl g2 ?_
  refine le_V (P := fun h3 => V G M_X1_copyCell X T 0 0 12 [some (rv (1, 99) F), some (iv x1), some (rv (1, 99) F2), some (iv x3)] [] h3) e (fun h3 e => ?_)
  refine V_aload_n 8 rfl rfl ?_
  refine V_getR (F + 2) 9 rfl fr_RX1_15 ⟨Nat.le_of_ble_eq_true rfl, Or.inl (Nat.le_of_ble_eq_true rfl)⟩ rfl ?_
  refine V_iload_n 10 rfl rfl ?_
  refine V_aload_n 11 rfl rfl ?_
  refine V_getR (F2 + 2) 12 rfl fr_RX1_15 ⟨Nat.le_of_ble_eq_true rfl, Or.inl (Nat.le_of_ble_eq_true rfl)⟩ rfl ?_
  refine V_iload_n 13 rfl rfl ?_
  refine V_iald 14 rfl g1 ?_
  refine V_iast 15 rfl g2 ?_
  refine le_V (P := fun h4 => V G M_X1_copyCell X T 0 0 24 [some (rv (1, 99) F), some (iv x1), some (rv (1, 99) F2), some (iv x3)] [] h4) e (fun h4 e => ?_)
  refine V_aload_n 16 rfl rfl ?_
  refine V_getR (F + 3) 17 rfl fr_RX1_18 ⟨Nat.le_of_ble_eq_true rfl, Or.inl (Nat.le_of_ble_eq_true rfl)⟩ rfl ?_
  refine V_iload_n 18 rfl rfl ?_
  refine V_aload_n 19 rfl rfl ?_
  refine V_getR (F2 + 3) 20 rfl fr_RX1_18 ⟨Nat.le_of_ble_eq_true rfl, Or.inl (Nat.le_of_ble_eq_true rfl)⟩ rfl ?_
  refine V_iload_n 21 rfl rfl ?_
  refine V_iald 22 rfl g1 ?_
  refine V_iast 23 rfl g2 ?_
  refine le_V (P := fun h5 => V G M_X1_copyCell X T 0 0 36 [some (rv (1, 99) F), some (iv x1), some (rv (1, 99) F2), some (iv x3)] [] h5) e (fun h5 e => ?_)
  refine V_aload_n 24 rfl rfl ?_
  refine V_getR (F + 4) 25 rfl fr_RX1_21 ⟨Nat.le_of_ble_eq_true rfl, Or.inl (Nat.le_of_ble_eq_true rfl)⟩ rfl ?_
  refine V_iload_n 26 rfl rfl ?_
  refine V_aload_n 27 rfl rfl ?_
  refine V_getR (F2 + 4) 28 rfl fr_RX1_21 ⟨Nat.le_of_ble_eq_true rfl, Or.inl (Nat.le_of_ble_eq_true rfl)⟩ rfl ?_
  refine V_iload_n 29 rfl rfl ?_
  refine V_zald 30 rfl g1 ?_
  refine V_zast 31 rfl g2 ?_
  refine le_V (P := fun h6 => V G M_X1_copyCell X T 0 0 48 [some (rv (1, 99) F), some (iv x1), some (rv (1, 99) F2), some (iv x3)] [] h6) e (fun h6 e => ?_)
  refine V_aload_n 32 rfl rfl ?_
  refine V_getR (F + 5) 33 rfl fr_RX1_25 ⟨Nat.le_of_ble_eq_true rfl, Or.inl (Nat.le_of_ble_eq_true rfl)⟩ rfl ?_
  refine V_iload_n 34 rfl rfl ?_
  refine V_aload_n 35 rfl rfl ?_
  refine V_getR (F2 + 5) 36 rfl fr_RX1_25 ⟨Nat.le_of_ble_eq_true rfl, Or.inl (Nat.le_of_ble_eq_true rfl)⟩ rfl ?_
  refine V_iload_n 37 rfl rfl ?_
  refine V_zald 38 rfl g1 ?_
  refine V_zast 39 rfl g2 ?_
  refine le_V (P := fun h7 => V G M_X1_copyCell X T 0 0 60 [some (rv (1, 99) F), some (iv x1), some (rv (1, 99) F2), some (iv x3)] [] h7) e (fun h7 e => ?_)
  cases e
  exact V_vret 40 rfl hR rfl
set_option maxHeartbeats 4000000 in
theorem w_X1_copyFrom_2 {G : kG} {X : kX} {T : List kT} {h0 : kH} (hR : k_R G M_X1_copyFrom X T 0 0 none h0) (F : Nat) (F2 : Nat) (K2 : Int32 × kH → Option (kH)) (hK2 : ∀ (x2 : Int32) (h : kH), K2 (x2, h) = some h0 → V G M_X1_copyFrom X T 0 0 2 [some (rv (1, 99) F), some (rv (1, 99) F2), some (iv x2)] [] h) (x2 : Int32) (h : kH) (e : p_X1_copyFrom_2 K2 F F2 x2 h = some h0) : V G M_X1_copyFrom X T 0 0 2 [some (rv (1, 99) F), some (rv (1, 99) F2), some (iv x2)] [] h := by
  unfold p_X1_copyFrom_2 at e
  refine V_iload_n 2 rfl rfl ?_
  refine V_bipush (nI 30) 3 rfl bp_30 ?_
  rcases if_e e with ⟨c4, e⟩ | ⟨c4, e⟩
  · refine V_icmp_ge 21 4 rfl (by decide +kernel) (fun _ => ?_) (fun q => absurd c4 q) 
    cases e
    exact V_vret 12 rfl hR rfl
  · refine V_icmp_ge 21 4 rfl (by decide +kernel) (fun q => absurd q c4) (fun _ => ?_)
    refine V_aload_n 5 rfl rfl ?_
    refine V_iload_n 6 rfl rfl ?_
    refine V_aload_n 7 rfl rfl ?_
    refine V_iload_n 8 rfl rfl ?_
    obtain ⟨h1, d2, e⟩ := bd_e e
    refine V_callV (N := M_X1_copyCell) (av := [iv x2, rv (1, 99) F2, iv x2]) (st := []) (r := none) (h' := h1) 9 rfl (c_X1_copyCell d2) g_X1_copyCell gv_X1_copyCell lk_RX1_31 ⟨Nat.le_of_ble_eq_true rfl, Nat.le_of_ble_eq_true rfl⟩ rfl rfl (Nat.le_of_ble_eq_true rfl) ⟨Nat.zero_le _, Nat.zero_le _⟩ ?_
    show V G M_X1_copyFrom X T 0 0 15 [some (rv (1, 99) F), some (rv (1, 99) F2), some (iv x2)] [] h1
    refine V_iinc (x2 + (nI 1)) 10 rfl rfl (inc_1 _) (Nat.le_of_ble_eq_true rfl) rfl ?_
    show V G M_X1_copyFrom X T 0 0 18 [some (rv (1, 99) F), some (rv (1, 99) F2), some (iv (x2 + (nI 1)))] [] h1
    refine V_goto 2 11 rfl (by decide +kernel) ?_
    refine V_msk [true, true, true] (lc' := [some (rv (1, 99) F), some (rv (1, 99) F2), some (iv (x2 + (nI 1)))]) rfl ?_
    exact hK2 (x2 + (nI 1)) h1 e
set_option maxHeartbeats 4000000 in
theorem c_X1_copyFrom {G : kG} {T : List kT} {F : Nat} {F2 : Nat} {h : kH} {h0 : kH} (e : p_X1_copyFrom F F2 h = some h0) : k_C G M_X1_copyFrom T [rv (1, 99) F, rv (1, 99) F2] h none h0 := by
  refine k_C_of 1 (by decide +kernel) rfl tb_X1_copyFrom rfl (fun X hR => ?_)
  show V G M_X1_copyFrom X T 0 0 0 [some (rv (1, 99) F), some (rv (1, 99) F2), none] [] h
  unfold p_X1_copyFrom at e
  refine V_iconst (nI 0) 0 rfl ic_0 ?_
  refine V_istore_n 1 rfl (Nat.le_of_ble_eq_true rfl) rfl ?_
  show V G M_X1_copyFrom X T 0 0 2 [some (rv (1, 99) F), some (rv (1, 99) F2), some (iv (nI 0))] [] h
  refine V_msk [true, true, true] (lc' := [some (rv (1, 99) F), some (rv (1, 99) F2), some (iv (nI 0))]) rfl ?_
  exact fx_e (P := fun s => V G M_X1_copyFrom X T 0 0 2 [some (rv (1, 99) F), some (rv (1, 99) F2), some (iv s.1)] [] s.2) (fun K2 hK2 s e => w_X1_copyFrom_2 hR F F2 K2 (fun x2 h e => hK2 (x2, h) e) s.1 s.2 e) FU ((nI 0), h) e
set_option maxHeartbeats 4000000 in
theorem c_X5_cells {G : kG} {T : List kT} {R : Nat} {h : kH} {r0 : Int32} {h0 : kH} (e : p_X5_cells R h = some (r0, h0)) : k_C G M_X5_cells T [rv (5, 99) R] h (some (iv r0)) h0 := by
  refine k_C_of 0 (by decide +kernel) rfl tb_X5_cells rfl (fun X hR => ?_)
  show V G M_X5_cells X T 0 0 0 [some (rv (5, 99) R)] [] h
  unfold p_X5_cells at e
  refine V_aload_n 0 rfl rfl ?_
  refine V_getI 1 rfl fi_RX5_21 ?_
  refine V_aload_n 2 rfl rfl ?_
  refine V_getI 3 rfl fi_RX5_25 ?_
  refine V_imul 4 rfl ?_
  cases e
  exact V_iret 5 rfl hR rfl
set_option maxHeartbeats 4000000 in
theorem w_X1_burnFuel_2 {G : kG} {X : kX} {T : List kT} {h0 : kH} (hR : k_R G M_X1_burnFuel X T 0 0 none h0) (F : Nat) (R : Nat) (K2 : Int32 × kH → Option (kH)) (hK2 : ∀ (x2 : Int32) (h : kH), K2 (x2, h) = some h0 → V G M_X1_burnFuel X T 0 0 2 [some (rv (1, 99) F), some (rv (5, 99) R), some (iv x2), none] [] h) (x2 : Int32) (h : kH) (e : p_X1_burnFuel_2 K2 F R x2 h = some h0) : V G M_X1_burnFuel X T 0 0 2 [some (rv (1, 99) F), some (rv (5, 99) R), some (iv x2), none] [] h := by
  unfold p_X1_burnFuel_2 at e
  refine V_iload_n 2 rfl rfl ?_
  refine V_aload_n 3 rfl rfl ?_
  obtain ⟨v3, h1, d2, e⟩ := bd2_e e
  refine V_callVN (N := M_X5_cells) (av := []) (st := [iv x2]) (r := some (iv v3)) (h' := h1) 4 rfl (c_X5_cells d2) g_X5_cells gv_X5_cells nk_RX1_46 ⟨Nat.le_of_ble_eq_true rfl, Nat.le_of_ble_eq_true rfl⟩ rfl rfl (Nat.le_of_ble_eq_true rfl) ⟨Nat.zero_le _, Nat.zero_le _⟩ ?_
  show V G M_X1_burnFuel X T 0 0 7 [some (rv (1, 99) F), some (rv (5, 99) R), some (iv x2), none] [iv v3, iv x2] h1
  rcases if_e e with ⟨c5, e⟩ | ⟨c5, e⟩
  · refine V_icmp_ge 81 5 rfl (by decide +kernel) (fun _ => ?_) (fun q => absurd c5 q) 
    cases e
    exact V_vret 51 rfl hR rfl
  · refine V_icmp_ge 81 5 rfl (by decide +kernel) (fun q => absurd q c5) (fun _ => ?_)
    refine V_aload_n 6 rfl rfl ?_
    refine V_getR (F + 4) 7 rfl fr_RX1_21 ⟨Nat.le_of_ble_eq_true rfl, Or.inl (Nat.le_of_ble_eq_true rfl)⟩ rfl ?_
    refine V_iload_n 8 rfl rfl ?_
    obtain ⟨g4, e⟩ := gd_e e
    refine V_zald 9 rfl g4 ?_
    rcases if_e e with ⟨c10, e⟩ | ⟨c10, e⟩
    · refine V_if_ne 22 10 rfl (by decide +kernel) (fun q => absurd c10 q) (fun _ => ?_)
      refine V_goto 75 11 rfl (by decide +kernel) ?_
      refine V_iinc (x2 + (nI 1)) 49 rfl rfl (inc_1 _) (Nat.le_of_ble_eq_true rfl) rfl ?_
      show V G M_X1_burnFuel X T 0 0 78 [some (rv (1, 99) F), some (rv (5, 99) R), some (iv (x2 + (nI 1))), none] [] h1
      refine V_goto 2 50 rfl (by decide +kernel) ?_
      refine V_msk [true, true, true, false] (lc' := [some (rv (1, 99) F), some (rv (5, 99) R), some (iv (x2 + (nI 1))), none]) rfl ?_
      exact hK2 (x2 + (nI 1)) h1 e
    · refine V_if_ne 22 10 rfl (by decide +kernel) (fun _ => ?_) (fun q => absurd q c10) 
      refine V_aload_n 12 rfl rfl ?_
      refine V_getR (F + 2) 13 rfl fr_RX1_15 ⟨Nat.le_of_ble_eq_true rfl, Or.inl (Nat.le_of_ble_eq_true rfl)⟩ rfl ?_
      refine V_iload_n 14 rfl rfl ?_
      refine V_iald 15 rfl g4 ?_
      refine V_aload_n 16 rfl rfl ?_
      refine V_getR (R + 1) 17 rfl fr_RX1_52 ⟨Nat.le_of_ble_eq_true rfl, Or.inl (Nat.le_of_ble_eq_true rfl)⟩ rfl ?_
      refine V_aload_n 18 rfl rfl ?_
      refine V_getR (F + 3) 19 rfl fr_RX1_18 ⟨Nat.le_of_ble_eq_true rfl, Or.inl (Nat.le_of_ble_eq_true rfl)⟩ rfl ?_
      refine V_iload_n 20 rfl rfl ?_
      refine V_iald 21 rfl g4 ?_
      obtain ⟨g5, e⟩ := gd_e e
      refine V_iald 22 rfl g5 ?_
      refine V_mmin 23 rfl lm_RX1_55 mmin_1 mmin_2 mmin_3 ⟨Nat.le_of_ble_eq_true rfl, Nat.le_of_ble_eq_true rfl⟩ ⟨Nat.zero_le _, Nat.zero_le _⟩ ?_
      refine V_istore_n 24 rfl (Nat.le_of_ble_eq_true rfl) rfl ?_
      refine le_V (P := fun v6 => V G M_X1_burnFuel X T 0 0 43 [some (rv (1, 99) F), some (rv (5, 99) R), some (iv x2), some (iv v6)] [] h1) e (fun v6 e => ?_)
      refine V_aload_n 25 rfl rfl ?_
      refine V_getR (F + 2) 26 rfl fr_RX1_15 ⟨Nat.le_of_ble_eq_true rfl, Or.inl (Nat.le_of_ble_eq_true rfl)⟩ rfl ?_
      refine V_iload_n 27 rfl rfl ?_
      refine V_dup2 28 rfl nj_i nj_r ?_
      refine V_iald 29 rfl g4 ?_
      refine V_iload_n 30 rfl rfl ?_
      refine V_isub 31 rfl ?_
      refine V_iast 32 rfl g4 ?_
      refine le_V (P := fun h7 => V G M_X1_burnFuel X T 0 0 53 [some (rv (1, 99) F), some (rv (5, 99) R), some (iv x2), some (iv v6)] [] h7) e (fun h7 e => ?_)
      refine V_aload_n 33 rfl rfl ?_
      refine V_getR (F + 1) 34 rfl fr_RX1_9 ⟨Nat.le_of_ble_eq_true rfl, Or.inl (Nat.le_of_ble_eq_true rfl)⟩ rfl ?_
      refine V_iload_n 35 rfl rfl ?_
      refine V_dup2 36 rfl nj_i nj_r ?_
      refine V_iald 37 rfl g4 ?_
      refine V_iload_n 38 rfl rfl ?_
      refine V_aload_n 39 rfl rfl ?_
      refine V_getR (R + 2) 40 rfl fr_RX1_61 ⟨Nat.le_of_ble_eq_true rfl, Or.inl (Nat.le_of_ble_eq_true rfl)⟩ rfl ?_
      refine V_aload_n 41 rfl rfl ?_
      refine V_getR (F + 3) 42 rfl fr_RX1_18 ⟨Nat.le_of_ble_eq_true rfl, Or.inl (Nat.le_of_ble_eq_true rfl)⟩ rfl ?_
      refine V_iload_n 43 rfl rfl ?_
      refine V_iald 44 rfl g4 ?_
      obtain ⟨g8, e⟩ := gd_e e
      refine V_iald 45 rfl g8 ?_
      refine V_imul 46 rfl ?_
      refine V_iadd 47 rfl ?_
      refine V_iast 48 rfl g4 ?_
      refine le_V (P := fun h9 => V G M_X1_burnFuel X T 0 0 75 [some (rv (1, 99) F), some (rv (5, 99) R), some (iv x2), some (iv v6)] [] h9) e (fun h9 e => ?_)
      refine V_iinc (x2 + (nI 1)) 49 rfl rfl (inc_1 _) (Nat.le_of_ble_eq_true rfl) rfl ?_
      show V G M_X1_burnFuel X T 0 0 78 [some (rv (1, 99) F), some (rv (5, 99) R), some (iv (x2 + (nI 1))), some (iv v6)] [] h9
      refine V_goto 2 50 rfl (by decide +kernel) ?_
      refine V_msk [true, true, true, false] (lc' := [some (rv (1, 99) F), some (rv (5, 99) R), some (iv (x2 + (nI 1))), none]) rfl ?_
      exact hK2 (x2 + (nI 1)) h9 e
set_option maxHeartbeats 4000000 in
theorem c_X1_burnFuel {G : kG} {T : List kT} {F : Nat} {R : Nat} {h : kH} {h0 : kH} (e : p_X1_burnFuel F R h = some h0) : k_C G M_X1_burnFuel T [rv (1, 99) F, rv (5, 99) R] h none h0 := by
  refine k_C_of 2 (by decide +kernel) rfl tb_X1_burnFuel rfl (fun X hR => ?_)
  show V G M_X1_burnFuel X T 0 0 0 [some (rv (1, 99) F), some (rv (5, 99) R), none, none] [] h
  unfold p_X1_burnFuel at e
  refine V_iconst (nI 0) 0 rfl ic_0 ?_
  refine V_istore_n 1 rfl (Nat.le_of_ble_eq_true rfl) rfl ?_
  show V G M_X1_burnFuel X T 0 0 2 [some (rv (1, 99) F), some (rv (5, 99) R), some (iv (nI 0)), none] [] h
  refine V_msk [true, true, true, false] (lc' := [some (rv (1, 99) F), some (rv (5, 99) R), some (iv (nI 0)), none]) rfl ?_
  exact fx_e (P := fun s => V G M_X1_burnFuel X T 0 0 2 [some (rv (1, 99) F), some (rv (5, 99) R), some (iv s.1), none] [] s.2) (fun K2 hK2 s e => w_X1_burnFuel_2 hR F R K2 (fun x2 h e => hK2 (x2, h) e) s.1 s.2 e) FU ((nI 0), h) e
set_option maxHeartbeats 4000000 in
theorem w_J7_fill_53178_5 {G : kG} {X : kX} {T : List kT} {h0 : kH} (hR : k_R G M_J7_fill_53178 X T 0 0 none h0) (A : Nat) (K5 : Int32 × Int32 × Int32 × kH → Option (kH)) (hK5 : ∀ (x1 : Int32) (x2 : Int32) (x3 : Int32) (h : kH), K5 (x1, x2, x3, h) = some h0 → V G M_J7_fill_53178 X T 0 0 5 [some (rv (9, 30) A), some (iv x1), some (iv x2), some (iv x3)] [] h) (x1 : Int32) (x2 : Int32) (x3 : Int32) (h : kH) (e : p_J7_fill_53178_5 K5 A x1 x2 x3 h = some h0) : V G M_J7_fill_53178 X T 0 0 5 [some (rv (9, 30) A), some (iv x1), some (iv x2), some (iv x3)] [] h := by
  unfold p_J7_fill_53178_5 at e
  refine V_iload_n 5 rfl rfl ?_
  refine V_iload_n 6 rfl rfl ?_
  rcases if_e e with ⟨c7, e⟩ | ⟨c7, e⟩
  · refine V_icmp_ge 20 7 rfl (by decide +kernel) (fun _ => ?_) (fun q => absurd c7 q) 
    cases e
    exact V_vret 14 rfl hR rfl
  · refine V_icmp_ge 20 7 rfl (by decide +kernel) (fun q => absurd q c7) (fun _ => ?_)
    refine V_aload_n 8 rfl rfl ?_
    refine V_iload_n 9 rfl rfl ?_
    refine V_iload_n 10 rfl rfl ?_
    obtain ⟨g1, e⟩ := gd_e e
    refine V_iast 11 rfl g1 ?_
    refine le_V (P := fun h2 => V G M_J7_fill_53178 X T 0 0 14 [some (rv (9, 30) A), some (iv x1), some (iv x2), some (iv x3)] [] h2) e (fun h2 e => ?_)
    refine V_iinc (x2 + (nI 1)) 12 rfl rfl (inc_1 _) (Nat.le_of_ble_eq_true rfl) rfl ?_
    show V G M_J7_fill_53178 X T 0 0 17 [some (rv (9, 30) A), some (iv x1), some (iv (x2 + (nI 1))), some (iv x3)] [] h2
    refine V_goto 5 13 rfl (by decide +kernel) ?_
    refine V_msk [true, true, true, true] (lc' := [some (rv (9, 30) A), some (iv x1), some (iv (x2 + (nI 1))), some (iv x3)]) rfl ?_
    exact hK5 x1 (x2 + (nI 1)) x3 h2 e
set_option maxHeartbeats 4000000 in
theorem c_J7_fill_53178 {G : kG} {T : List kT} {A : Nat} {x1 : Int32} {h : kH} {h0 : kH} (e : p_J7_fill_53178 A x1 h = some h0) : k_C G M_J7_fill_53178 T [rv (9, 30) A, iv x1] h none h0 := by
  refine k_C_of 2 (by decide +kernel) rfl tb_J7_fill_53178 rfl (fun X hR => ?_)
  show V G M_J7_fill_53178 X T 0 0 0 [some (rv (9, 30) A), some (iv x1), none, none] [] h
  unfold p_J7_fill_53178 at e
  refine V_iconst (nI 0) 0 rfl ic_0 ?_
  refine V_istore_n 1 rfl (Nat.le_of_ble_eq_true rfl) rfl ?_
  show V G M_J7_fill_53178 X T 0 0 2 [some (rv (9, 30) A), some (iv x1), some (iv (nI 0)), none] [] h
  refine V_aload_n 2 rfl rfl ?_
  refine V_alen (nI 30) 3 rfl (by decide +kernel) ?_
  refine V_istore_n 4 rfl (Nat.le_of_ble_eq_true rfl) rfl ?_
  show V G M_J7_fill_53178 X T 0 0 5 [some (rv (9, 30) A), some (iv x1), some (iv (nI 0)), some (iv (nI 30))] [] h
  refine V_msk [true, true, true, true] (lc' := [some (rv (9, 30) A), some (iv x1), some (iv (nI 0)), some (iv (nI 30))]) rfl ?_
  exact fx_e (P := fun s => V G M_J7_fill_53178 X T 0 0 5 [some (rv (9, 30) A), some (iv s.1), some (iv s.2.1), some (iv s.2.2.1)] [] s.2.2.2) (fun K5 hK5 s e => w_J7_fill_53178_5 hR A K5 (fun x1 x2 x3 h e => hK5 (x1, x2, x3, h) e) s.1 s.2.1 s.2.2.1 s.2.2.2 e) FU (x1, (nI 0), (nI 30), h) e
set_option maxHeartbeats 4000000 in
theorem c_X1_flow {G : kG} {T : List kT} {F : Nat} {x1 : Int32} {x2 : Int32} {h : kH} {h0 : kH} (e : p_X1_flow F x1 x2 h = some h0) : k_C G M_X1_flow T [rv (1, 99) F, iv x1, iv x2] h none h0 := by
  refine k_C_of 1 (by decide +kernel) rfl tb_X1_flow rfl (fun X hR => ?_)
  show V G M_X1_flow X T 0 0 0 [some (rv (1, 99) F), some (iv x1), some (iv x2), none] [] h
  unfold p_X1_flow at e
  refine V_aload_n 0 rfl rfl ?_
  refine V_getR (F + 1) 1 rfl fr_RX1_9 ⟨Nat.le_of_ble_eq_true rfl, Or.inl (Nat.le_of_ble_eq_true rfl)⟩ rfl ?_
  refine V_iload_n 2 rfl rfl ?_
  obtain ⟨g1, e⟩ := gd_e e
  refine V_iald 3 rfl g1 ?_
  refine V_aload_n 4 rfl rfl ?_
  refine V_getR (F + 1) 5 rfl fr_RX1_9 ⟨Nat.le_of_ble_eq_true rfl, Or.inl (Nat.le_of_ble_eq_true rfl)⟩ rfl ?_
  refine V_iload_n 6 rfl rfl ?_
  obtain ⟨g2, e⟩ := gd_e e
  refine V_iald 7 rfl g2 ?_
  refine V_isub 8 rfl ?_
  refine V_bipush (nI 10) 9 rfl bp_10 ?_
  refine V_idiv 10 rfl (by decide +kernel) ?_
  refine V_istore_n 11 rfl (Nat.le_of_ble_eq_true rfl) rfl ?_
  refine le_V (P := fun v3 => V G M_X1_flow X T 0 0 17 [some (rv (1, 99) F), some (iv x1), some (iv x2), some (iv v3)] [] h) e (fun v3 e => ?_)
  refine V_aload_n 12 rfl rfl ?_
  refine V_getR (F + 6) 13 rfl fr_RX1_28 ⟨Nat.le_of_ble_eq_true rfl, Or.inl (Nat.le_of_ble_eq_true rfl)⟩ rfl ?_
  refine V_iload_n 14 rfl rfl ?_
  refine V_dup2 15 rfl nj_i nj_r ?_
  refine V_iald 16 rfl g1 ?_
  refine V_iload_n 17 rfl rfl ?_
  refine V_isub 18 rfl ?_
  refine V_iast 19 rfl g1 ?_
  refine le_V (P := fun h4 => V G M_X1_flow X T 0 0 27 [some (rv (1, 99) F), some (iv x1), some (iv x2), some (iv v3)] [] h4) e (fun h4 e => ?_)
  refine V_aload_n 20 rfl rfl ?_
  refine V_getR (F + 6) 21 rfl fr_RX1_28 ⟨Nat.le_of_ble_eq_true rfl, Or.inl (Nat.le_of_ble_eq_true rfl)⟩ rfl ?_
  refine V_iload_n 22 rfl rfl ?_
  refine V_dup2 23 rfl nj_i nj_r ?_
  refine V_iald 24 rfl g2 ?_
  refine V_iload_n 25 rfl rfl ?_
  refine V_iadd 26 rfl ?_
  refine V_iast 27 rfl g2 ?_
  refine le_V (P := fun h5 => V G M_X1_flow X T 0 0 37 [some (rv (1, 99) F), some (iv x1), some (iv x2), some (iv v3)] [] h5) e (fun h5 e => ?_)
  cases e
  exact V_vret 28 rfl hR rfl
set_option maxHeartbeats 4000000 in
theorem w_X1_spread_95 {G : kG} {X : kX} {T : List kT} {h0 : kH} (hR : k_R G M_X1_spread X T 0 0 none h0) (F : Nat) (R : Nat) (K95 : Int32 × kH → Option (kH)) (hK95 : ∀ (x2 : Int32) (h : kH), K95 (x2, h) = some h0 → V G M_X1_spread X T 0 0 95 [some (rv (1, 99) F), some (rv (5, 99) R), some (iv x2), none, none] [] h) (x2 : Int32) (h : kH) (e : p_X1_spread_95 K95 F R x2 h = some h0) : V G M_X1_spread X T 0 0 95 [some (rv (1, 99) F), some (rv (5, 99) R), some (iv x2), none, none] [] h := by
  unfold p_X1_spread_95 at e
  refine V_iload_n 54 rfl rfl ?_
  refine V_aload_n 55 rfl rfl ?_
  obtain ⟨v5, h3, d4, e⟩ := bd2_e e
  refine V_callVN (N := M_X5_cells) (av := []) (st := [iv x2]) (r := some (iv v5)) (h' := h3) 56 rfl (c_X5_cells d4) g_X5_cells gv_X5_cells nk_RX1_46 ⟨Nat.le_of_ble_eq_true rfl, Nat.le_of_ble_eq_true rfl⟩ rfl rfl (Nat.le_of_ble_eq_true rfl) ⟨Nat.zero_le _, Nat.zero_le _⟩ ?_
  show V G M_X1_spread X T 0 0 100 [some (rv (1, 99) F), some (rv (5, 99) R), some (iv x2), none, none] [iv v5, iv x2] h3
  rcases if_e e with ⟨c57, e⟩ | ⟨c57, e⟩
  · refine V_icmp_ge 124 57 rfl (by decide +kernel) (fun _ => ?_) (fun q => absurd c57 q) 
    cases e
    exact V_vret 71 rfl hR rfl
  · refine V_icmp_ge 124 57 rfl (by decide +kernel) (fun q => absurd q c57) (fun _ => ?_)
    refine V_aload_n 58 rfl rfl ?_
    refine V_getR (F + 1) 59 rfl fr_RX1_9 ⟨Nat.le_of_ble_eq_true rfl, Or.inl (Nat.le_of_ble_eq_true rfl)⟩ rfl ?_
    refine V_iload_n 60 rfl rfl ?_
    refine V_dup2 61 rfl nj_i nj_r ?_
    obtain ⟨g6, e⟩ := gd_e e
    refine V_iald 62 rfl g6 ?_
    refine V_aload_n 63 rfl rfl ?_
    refine V_getR (F + 6) 64 rfl fr_RX1_28 ⟨Nat.le_of_ble_eq_true rfl, Or.inl (Nat.le_of_ble_eq_true rfl)⟩ rfl ?_
    refine V_iload_n 65 rfl rfl ?_
    refine V_iald 66 rfl g6 ?_
    refine V_iadd 67 rfl ?_
    refine V_iast 68 rfl g6 ?_
    refine le_V (P := fun h7 => V G M_X1_spread X T 0 0 118 [some (rv (1, 99) F), some (rv (5, 99) R), some (iv x2), none, none] [] h7) e (fun h7 e => ?_)
    refine V_iinc (x2 + (nI 1)) 69 rfl rfl (inc_1 _) (Nat.le_of_ble_eq_true rfl) rfl ?_
    show V G M_X1_spread X T 0 0 121 [some (rv (1, 99) F), some (rv (5, 99) R), some (iv (x2 + (nI 1))), none, none] [] h7
    refine V_goto 95 70 rfl (by decide +kernel) ?_
    refine V_msk [true, true, true, false, false] (lc' := [some (rv (1, 99) F), some (rv (5, 99) R), some (iv (x2 + (nI 1))), none, none]) rfl ?_
    exact hK95 (x2 + (nI 1)) h7 e
set_option maxHeartbeats 4000000 in
theorem w_X1_spread_58 {G : kG} {X : kX} {T : List kT} {h0 : kH} (hR : k_R G M_X1_spread X T 0 0 none h0) (F : Nat) (R : Nat) (K10 : Int32 × kH → Option (kH)) (K20 : Int32 × Int32 × kH → Option (kH)) (hK10 : ∀ (x2 : Int32) (h : kH), K10 (x2, h) = some h0 → V G M_X1_spread X T 0 0 10 [some (rv (1, 99) F), some (rv (5, 99) R), some (iv x2), none, none] [] h) (hK20 : ∀ (x2 : Int32) (x3 : Int32) (h : kH), K20 (x2, x3, h) = some h0 → V G M_X1_spread X T 0 0 20 [some (rv (1, 99) F), some (rv (5, 99) R), some (iv x2), some (iv x3), none] [] h) (x2 : Int32) (x3 : Int32) (x4 : Int32) (h : kH) (e : p_X1_spread_58 K10 K20 F R x2 x3 x4 h = some h0) : V G M_X1_spread X T 0 0 58 [some (rv (1, 99) F), some (rv (5, 99) R), some (iv x2), some (iv x3), some (iv x4)] [] h := by
  unfold p_X1_spread_58 at e
  refine V_iload_n 35 rfl rfl ?_
  refine V_iconst (nI 1) 36 rfl ic_1 ?_
  refine V_iadd 37 rfl ?_
  refine V_aload_n 38 rfl rfl ?_
  refine V_getI 39 rfl fi_RX1_70 ?_
  rcases if_e e with ⟨c40, e⟩ | ⟨c40, e⟩
  · refine V_icmp_ge 81 40 rfl (by decide +kernel) (fun _ => ?_) (fun q => absurd c40 q) 
    refine V_iinc (x3 + (nI 1)) 48 rfl rfl (inc_1 _) (Nat.le_of_ble_eq_true rfl) rfl ?_
    show V G M_X1_spread X T 0 0 84 [some (rv (1, 99) F), some (rv (5, 99) R), some (iv x2), some (iv (x3 + (nI 1))), some (iv x4)] [] h
    refine V_goto 20 49 rfl (by decide +kernel) ?_
    refine V_msk [true, true, true, true, false] (lc' := [some (rv (1, 99) F), some (rv (5, 99) R), some (iv x2), some (iv (x3 + (nI 1))), none]) rfl ?_
    exact hK20 x2 (x3 + (nI 1)) h e
  · refine V_icmp_ge 81 40 rfl (by decide +kernel) (fun q => absurd q c40) (fun _ => ?_)
    refine V_aload_n 41 rfl rfl ?_
    refine V_iload 42 rfl rfl ?_
    refine V_iload 43 rfl rfl ?_
    refine V_aload_n 44 rfl rfl ?_
    refine V_getI 45 rfl fi_RX1_74 ?_
    refine V_iadd 46 rfl ?_
    obtain ⟨h9, d10, e⟩ := bd_e e
    refine V_callV (N := M_X1_flow) (av := [iv x4, iv (x4 + (h R 0))]) (st := []) (r := none) (h' := h9) 47 rfl (c_X1_flow d10) g_X1_flow gv_X1_flow lk_RX1_77 ⟨Nat.le_of_ble_eq_true rfl, Nat.le_of_ble_eq_true rfl⟩ rfl rfl (Nat.le_of_ble_eq_true rfl) ⟨Nat.zero_le _, Nat.zero_le _⟩ ?_
    show V G M_X1_spread X T 0 0 81 [some (rv (1, 99) F), some (rv (5, 99) R), some (iv x2), some (iv x3), some (iv x4)] [] h9
    refine V_iinc (x3 + (nI 1)) 48 rfl rfl (inc_1 _) (Nat.le_of_ble_eq_true rfl) rfl ?_
    show V G M_X1_spread X T 0 0 84 [some (rv (1, 99) F), some (rv (5, 99) R), some (iv x2), some (iv (x3 + (nI 1))), some (iv x4)] [] h9
    refine V_goto 20 49 rfl (by decide +kernel) ?_
    refine V_msk [true, true, true, true, false] (lc' := [some (rv (1, 99) F), some (rv (5, 99) R), some (iv x2), some (iv (x3 + (nI 1))), none]) rfl ?_
    exact hK20 x2 (x3 + (nI 1)) h9 e
set_option maxHeartbeats 4000000 in
theorem w_X1_spread_20 {G : kG} {X : kX} {T : List kT} {h0 : kH} (hR : k_R G M_X1_spread X T 0 0 none h0) (F : Nat) (R : Nat) (K10 : Int32 × kH → Option (kH)) (K20 : Int32 × Int32 × kH → Option (kH)) (hK10 : ∀ (x2 : Int32) (h : kH), K10 (x2, h) = some h0 → V G M_X1_spread X T 0 0 10 [some (rv (1, 99) F), some (rv (5, 99) R), some (iv x2), none, none] [] h) (hK20 : ∀ (x2 : Int32) (x3 : Int32) (h : kH), K20 (x2, x3, h) = some h0 → V G M_X1_spread X T 0 0 20 [some (rv (1, 99) F), some (rv (5, 99) R), some (iv x2), some (iv x3), none] [] h) (x2 : Int32) (x3 : Int32) (h : kH) (e : p_X1_spread_20 K10 K20 F R x2 x3 h = some h0) : V G M_X1_spread X T 0 0 20 [some (rv (1, 99) F), some (rv (5, 99) R), some (iv x2), some (iv x3), none] [] h := by
  unfold p_X1_spread_20 at e
  refine V_iload_n 12 rfl rfl ?_
  refine V_aload_n 13 rfl rfl ?_
  refine V_getI 14 rfl fi_RX1_74 ?_
  rcases if_e e with ⟨c15, e⟩ | ⟨c15, e⟩
  · refine V_icmp_ge 87 15 rfl (by decide +kernel) (fun _ => ?_) (fun q => absurd c15 q) 
    refine V_iinc (x2 + (nI 1)) 50 rfl rfl (inc_1 _) (Nat.le_of_ble_eq_true rfl) rfl ?_
    show V G M_X1_spread X T 0 0 90 [some (rv (1, 99) F), some (rv (5, 99) R), some (iv (x2 + (nI 1))), some (iv x3), none] [] h
    refine V_goto 10 51 rfl (by decide +kernel) ?_
    refine V_msk [true, true, true, false, false] (lc' := [some (rv (1, 99) F), some (rv (5, 99) R), some (iv (x2 + (nI 1))), none, none]) rfl ?_
    exact hK10 (x2 + (nI 1)) h e
  · refine V_icmp_ge 87 15 rfl (by decide +kernel) (fun q => absurd q c15) (fun _ => ?_)
    refine V_iload_n 16 rfl rfl ?_
    refine V_aload_n 17 rfl rfl ?_
    refine V_getI 18 rfl fi_RX1_74 ?_
    refine V_iload_n 19 rfl rfl ?_
    refine V_imul 20 rfl ?_
    refine V_iadd 21 rfl ?_
    refine V_istore 22 rfl (Nat.le_of_ble_eq_true rfl) rfl ?_
    refine le_V (P := fun v8 => V G M_X1_spread X T 0 0 38 [some (rv (1, 99) F), some (rv (5, 99) R), some (iv x2), some (iv x3), some (iv v8)] [] h) e (fun v8 e => ?_)
    refine V_iload_n 23 rfl rfl ?_
    refine V_iconst (nI 1) 24 rfl ic_1 ?_
    refine V_iadd 25 rfl ?_
    refine V_aload_n 26 rfl rfl ?_
    refine V_getI 27 rfl fi_RX1_74 ?_
    rcases if_e e with ⟨c28, e⟩ | ⟨c28, e⟩
    · refine V_icmp_ge 58 28 rfl (by decide +kernel) (fun _ => ?_) (fun q => absurd c28 q) 
      refine V_msk [true, true, true, true, true] (lc' := [some (rv (1, 99) F), some (rv (5, 99) R), some (iv x2), some (iv x3), some (iv v8)]) rfl ?_
      exact w_X1_spread_58 hR F R K10 K20 hK10 hK20 x2 x3 v8 h e
    · refine V_icmp_ge 58 28 rfl (by decide +kernel) (fun q => absurd q c28) (fun _ => ?_)
      refine V_aload_n 29 rfl rfl ?_
      refine V_iload 30 rfl rfl ?_
      refine V_iload 31 rfl rfl ?_
      refine V_iconst (nI 1) 32 rfl ic_1 ?_
      refine V_iadd 33 rfl ?_
      obtain ⟨h11, d12, e⟩ := bd_e e
      refine V_callV (N := M_X1_flow) (av := [iv v8, iv (v8 + (nI 1))]) (st := []) (r := none) (h' := h11) 34 rfl (c_X1_flow d12) g_X1_flow gv_X1_flow lk_RX1_77 ⟨Nat.le_of_ble_eq_true rfl, Nat.le_of_ble_eq_true rfl⟩ rfl rfl (Nat.le_of_ble_eq_true rfl) ⟨Nat.zero_le _, Nat.zero_le _⟩ ?_
      show V G M_X1_spread X T 0 0 58 [some (rv (1, 99) F), some (rv (5, 99) R), some (iv x2), some (iv x3), some (iv v8)] [] h11
      refine V_msk [true, true, true, true, true] (lc' := [some (rv (1, 99) F), some (rv (5, 99) R), some (iv x2), some (iv x3), some (iv v8)]) rfl ?_
      exact w_X1_spread_58 hR F R K10 K20 hK10 hK20 x2 x3 v8 h11 e
set_option maxHeartbeats 4000000 in
theorem w_X1_spread_10 {G : kG} {X : kX} {T : List kT} {h0 : kH} (hR : k_R G M_X1_spread X T 0 0 none h0) (F : Nat) (R : Nat) (K10 : Int32 × kH → Option (kH)) (hK10 : ∀ (x2 : Int32) (h : kH), K10 (x2, h) = some h0 → V G M_X1_spread X T 0 0 10 [some (rv (1, 99) F), some (rv (5, 99) R), some (iv x2), none, none] [] h) (x2 : Int32) (h : kH) (e : p_X1_spread_10 K10 F R x2 h = some h0) : V G M_X1_spread X T 0 0 10 [some (rv (1, 99) F), some (rv (5, 99) R), some (iv x2), none, none] [] h := by
  unfold p_X1_spread_10 at e
  refine V_iload_n 6 rfl rfl ?_
  refine V_aload_n 7 rfl rfl ?_
  refine V_getI 8 rfl fi_RX1_70 ?_
  rcases if_e e with ⟨c9, e⟩ | ⟨c9, e⟩
  · refine V_icmp_ge 93 9 rfl (by decide +kernel) (fun _ => ?_) (fun q => absurd c9 q) 
    refine V_iconst (nI 0) 52 rfl ic_0 ?_
    refine V_istore_n 53 rfl (Nat.le_of_ble_eq_true rfl) rfl ?_
    show V G M_X1_spread X T 0 0 95 [some (rv (1, 99) F), some (rv (5, 99) R), some (iv (nI 0)), none, none] [] h
    refine V_msk [true, true, true, false, false] (lc' := [some (rv (1, 99) F), some (rv (5, 99) R), some (iv (nI 0)), none, none]) rfl ?_
    exact fx_e (P := fun s => V G M_X1_spread X T 0 0 95 [some (rv (1, 99) F), some (rv (5, 99) R), some (iv s.1), none, none] [] s.2) (fun K95 hK95 s e => w_X1_spread_95 hR F R K95 (fun x2 h e => hK95 (x2, h) e) s.1 s.2 e) FU ((nI 0), h) e
  · refine V_icmp_ge 93 9 rfl (by decide +kernel) (fun q => absurd q c9) (fun _ => ?_)
    refine V_iconst (nI 0) 10 rfl ic_0 ?_
    refine V_istore_n 11 rfl (Nat.le_of_ble_eq_true rfl) rfl ?_
    show V G M_X1_spread X T 0 0 20 [some (rv (1, 99) F), some (rv (5, 99) R), some (iv x2), some (iv (nI 0)), none] [] h
    refine V_msk [true, true, true, true, false] (lc' := [some (rv (1, 99) F), some (rv (5, 99) R), some (iv x2), some (iv (nI 0)), none]) rfl ?_
    exact fx_e (P := fun s => V G M_X1_spread X T 0 0 20 [some (rv (1, 99) F), some (rv (5, 99) R), some (iv s.1), some (iv s.2.1), none] [] s.2.2) (fun K20 hK20 s e => w_X1_spread_20 hR F R K10 K20 hK10 (fun x2 x3 h e => hK20 (x2, x3, h) e) s.1 s.2.1 s.2.2 e) FU (x2, (nI 0), h) e
set_option maxHeartbeats 4000000 in
theorem c_X1_spread {G : kG} {T : List kT} {F : Nat} {R : Nat} {h : kH} {h0 : kH} (e : p_X1_spread F R h = some h0) : k_C G M_X1_spread T [rv (1, 99) F, rv (5, 99) R] h none h0 := by
  refine k_C_of 3 (by decide +kernel) rfl tb_X1_spread rfl (fun X hR => ?_)
  show V G M_X1_spread X T 0 0 0 [some (rv (1, 99) F), some (rv (5, 99) R), none, none, none] [] h
  unfold p_X1_spread at e
  refine V_aload_n 0 rfl rfl ?_
  refine V_getR (F + 6) 1 rfl fr_RX1_28 ⟨Nat.le_of_ble_eq_true rfl, Or.inl (Nat.le_of_ble_eq_true rfl)⟩ rfl ?_
  refine V_iconst (nI 0) 2 rfl ic_0 ?_
  obtain ⟨h1, d2, e⟩ := bd_e e
  refine V_callS (N := M_J7_fill_53178) (av := [rv (9, 30) (F + 6), iv (nI 0)]) (st := []) (r := none) (h' := h1) 3 rfl (c_J7_fill_53178 d2) g_J7_fill_53178 gs_J7_fill_53178 lk_RX1_64 ⟨Nat.le_of_ble_eq_true rfl, Nat.le_of_ble_eq_true rfl⟩ rfl (Nat.le_of_ble_eq_true rfl) ⟨Nat.zero_le _, Nat.zero_le _⟩ ?_
  show V G M_X1_spread X T 0 0 8 [some (rv (1, 99) F), some (rv (5, 99) R), none, none, none] [] h1
  refine V_iconst (nI 0) 4 rfl ic_0 ?_
  refine V_istore_n 5 rfl (Nat.le_of_ble_eq_true rfl) rfl ?_
  show V G M_X1_spread X T 0 0 10 [some (rv (1, 99) F), some (rv (5, 99) R), some (iv (nI 0)), none, none] [] h1
  refine V_msk [true, true, true, false, false] (lc' := [some (rv (1, 99) F), some (rv (5, 99) R), some (iv (nI 0)), none, none]) rfl ?_
  exact fx_e (P := fun s => V G M_X1_spread X T 0 0 10 [some (rv (1, 99) F), some (rv (5, 99) R), some (iv s.1), none, none] [] s.2) (fun K10 hK10 s e => w_X1_spread_10 hR F R K10 (fun x2 h e => hK10 (x2, h) e) s.1 s.2 e) FU ((nI 0), h1) e
set_option maxHeartbeats 4000000 in
theorem w_X1_cool_46 {G : kG} {X : kX} {T : List kT} {h0 : kH} (hR : k_R G M_X1_cool X T 0 0 none h0) (F : Nat) (R : Nat) (K2 : Int32 × Int32 × kH → Option (kH)) (hK2 : ∀ (x2 : Int32) (x3 : Int32) (h : kH), K2 (x2, x3, h) = some h0 → V G M_X1_cool X T 0 0 2 [some (rv (1, 99) F), some (rv (5, 99) R), some (iv x2), some (iv x3), none] [] h) (x2 : Int32) (x3 : Int32) (x4 : Int32) (h : kH) (e : p_X1_cool_46 K2 F R x2 x3 x4 h = some h0) : V G M_X1_cool X T 0 0 46 [some (rv (1, 99) F), some (rv (5, 99) R), some (iv x2), some (iv x3), some (iv x4)] [] h := by
  unfold p_X1_cool_46 at e
  refine V_aload_n 29 rfl rfl ?_
  refine V_getR (F + 1) 30 rfl fr_RX1_9 ⟨Nat.le_of_ble_eq_true rfl, Or.inl (Nat.le_of_ble_eq_true rfl)⟩ rfl ?_
  refine V_iload_n 31 rfl rfl ?_
  refine V_sipush (nI 3000) 32 rfl sp_3000 ?_
  refine V_aload_n 33 rfl rfl ?_
  refine V_getR (F + 1) 34 rfl fr_RX1_9 ⟨Nat.le_of_ble_eq_true rfl, Or.inl (Nat.le_of_ble_eq_true rfl)⟩ rfl ?_
  refine V_iload_n 35 rfl rfl ?_
  obtain ⟨g6, e⟩ := gd_e e
  refine V_iald 36 rfl g6 ?_
  refine V_iload 37 rfl rfl ?_
  refine V_isub 38 rfl ?_
  refine V_mmin 39 rfl lm_RX1_55 mmin_1 mmin_2 mmin_3 ⟨Nat.le_of_ble_eq_true rfl, Nat.le_of_ble_eq_true rfl⟩ ⟨Nat.zero_le _, Nat.zero_le _⟩ ?_
  refine V_iast 40 rfl g6 ?_
  refine le_V (P := fun h7 => V G M_X1_cool X T 0 0 67 [some (rv (1, 99) F), some (rv (5, 99) R), some (iv x2), some (iv x3), some (iv x4)] [] h7) e (fun h7 e => ?_)
  refine V_aload_n 41 rfl rfl ?_
  refine V_getR (F + 1) 42 rfl fr_RX1_9 ⟨Nat.le_of_ble_eq_true rfl, Or.inl (Nat.le_of_ble_eq_true rfl)⟩ rfl ?_
  refine V_iload_n 43 rfl rfl ?_
  refine V_iald 44 rfl g6 ?_
  refine V_sipush (nI 200) 45 rfl sp_200 ?_
  rcases if_e e with ⟨c46, e⟩ | ⟨c46, e⟩
  · refine V_icmp_lt 86 46 rfl (by decide +kernel) (fun _ => ?_) (fun q => absurd c46 q) 
    refine V_iinc (x3 + (nI 1)) 52 rfl rfl (inc_1 _) (Nat.le_of_ble_eq_true rfl) rfl ?_
    show V G M_X1_cool X T 0 0 89 [some (rv (1, 99) F), some (rv (5, 99) R), some (iv x2), some (iv (x3 + (nI 1))), some (iv x4)] [] h7
    refine V_goto 2 53 rfl (by decide +kernel) ?_
    refine V_msk [true, true, true, true, false] (lc' := [some (rv (1, 99) F), some (rv (5, 99) R), some (iv x2), some (iv (x3 + (nI 1))), none]) rfl ?_
    exact hK2 x2 (x3 + (nI 1)) h7 e
  · refine V_icmp_lt 86 46 rfl (by decide +kernel) (fun q => absurd q c46) (fun _ => ?_)
    refine V_aload_n 47 rfl rfl ?_
    refine V_getR (F + 4) 48 rfl fr_RX1_21 ⟨Nat.le_of_ble_eq_true rfl, Or.inl (Nat.le_of_ble_eq_true rfl)⟩ rfl ?_
    refine V_iload_n 49 rfl rfl ?_
    refine V_iconst (nI 1) 50 rfl ic_1 ?_
    refine V_zast 51 rfl g6 ?_
    refine le_V (P := fun h8 => V G M_X1_cool X T 0 0 86 [some (rv (1, 99) F), some (rv (5, 99) R), some (iv x2), some (iv x3), some (iv x4)] [] h8) e (fun h8 e => ?_)
    refine V_iinc (x3 + (nI 1)) 52 rfl rfl (inc_1 _) (Nat.le_of_ble_eq_true rfl) rfl ?_
    show V G M_X1_cool X T 0 0 89 [some (rv (1, 99) F), some (rv (5, 99) R), some (iv x2), some (iv (x3 + (nI 1))), some (iv x4)] [] h8
    refine V_goto 2 53 rfl (by decide +kernel) ?_
    refine V_msk [true, true, true, true, false] (lc' := [some (rv (1, 99) F), some (rv (5, 99) R), some (iv x2), some (iv (x3 + (nI 1))), none]) rfl ?_
    exact hK2 x2 (x3 + (nI 1)) h8 e
set_option maxHeartbeats 4000000 in
theorem w_X1_cool_2 {G : kG} {X : kX} {T : List kT} {h0 : kH} (hR : k_R G M_X1_cool X T 0 0 none h0) (F : Nat) (R : Nat) (K2 : Int32 × Int32 × kH → Option (kH)) (hK2 : ∀ (x2 : Int32) (x3 : Int32) (h : kH), K2 (x2, x3, h) = some h0 → V G M_X1_cool X T 0 0 2 [some (rv (1, 99) F), some (rv (5, 99) R), some (iv x2), some (iv x3), none] [] h) (x2 : Int32) (x3 : Int32) (h : kH) (e : p_X1_cool_2 K2 F R x2 x3 h = some h0) : V G M_X1_cool X T 0 0 2 [some (rv (1, 99) F), some (rv (5, 99) R), some (iv x2), some (iv x3), none] [] h := by
  unfold p_X1_cool_2 at e
  refine V_iload_n 2 rfl rfl ?_
  refine V_aload_n 3 rfl rfl ?_
  obtain ⟨v3, h1, d2, e⟩ := bd2_e e
  refine V_callVN (N := M_X5_cells) (av := []) (st := [iv x3]) (r := some (iv v3)) (h' := h1) 4 rfl (c_X5_cells d2) g_X5_cells gv_X5_cells nk_RX1_46 ⟨Nat.le_of_ble_eq_true rfl, Nat.le_of_ble_eq_true rfl⟩ rfl rfl (Nat.le_of_ble_eq_true rfl) ⟨Nat.zero_le _, Nat.zero_le _⟩ ?_
  show V G M_X1_cool X T 0 0 7 [some (rv (1, 99) F), some (rv (5, 99) R), some (iv x2), some (iv x3), none] [iv v3, iv x3] h1
  rcases if_e e with ⟨c5, e⟩ | ⟨c5, e⟩
  · refine V_icmp_ge 92 5 rfl (by decide +kernel) (fun _ => ?_) (fun q => absurd c5 q) 
    cases e
    exact V_vret 54 rfl hR rfl
  · refine V_icmp_ge 92 5 rfl (by decide +kernel) (fun q => absurd q c5) (fun _ => ?_)
    refine V_aload_n 6 rfl rfl ?_
    refine V_getR (F + 1) 7 rfl fr_RX1_9 ⟨Nat.le_of_ble_eq_true rfl, Or.inl (Nat.le_of_ble_eq_true rfl)⟩ rfl ?_
    refine V_iload_n 8 rfl rfl ?_
    obtain ⟨g4, e⟩ := gd_e e
    refine V_iald 9 rfl g4 ?_
    refine V_bipush (nI 20) 10 rfl bp_20 ?_
    refine V_isub 11 rfl ?_
    refine V_aload_n 12 rfl rfl ?_
    refine V_getI 13 rfl fi_RX1_81 ?_
    refine V_iload_n 14 rfl rfl ?_
    refine V_iadd 15 rfl ?_
    refine V_imul 16 rfl ?_
    refine V_bipush (nI 100) 17 rfl bp_100 ?_
    refine V_idiv 18 rfl (by decide +kernel) ?_
    refine V_istore 19 rfl (Nat.le_of_ble_eq_true rfl) rfl ?_
    refine le_V (P := fun v5 => V G M_X1_cool X T 0 0 31 [some (rv (1, 99) F), some (rv (5, 99) R), some (iv x2), some (iv x3), some (iv v5)] [] h1) e (fun v5 e => ?_)
    refine V_aload_n 20 rfl rfl ?_
    refine V_getR (F + 5) 21 rfl fr_RX1_25 ⟨Nat.le_of_ble_eq_true rfl, Or.inl (Nat.le_of_ble_eq_true rfl)⟩ rfl ?_
    refine V_iload_n 22 rfl rfl ?_
    refine V_zald 23 rfl g4 ?_
    rcases if_e e with ⟨c24, e⟩ | ⟨c24, e⟩
    · refine V_if_eq 46 24 rfl (by decide +kernel) (fun _ => ?_) (fun q => absurd c24 q) 
      refine V_msk [true, true, true, true, true] (lc' := [some (rv (1, 99) F), some (rv (5, 99) R), some (iv x2), some (iv x3), some (iv v5)]) rfl ?_
      exact w_X1_cool_46 hR F R K2 hK2 x2 x3 v5 h1 e
    · refine V_if_eq 46 24 rfl (by decide +kernel) (fun q => absurd q c24) (fun _ => ?_)
      refine V_iload 25 rfl rfl ?_
      refine V_iconst (nI 2) 26 rfl ic_2 ?_
      refine V_idiv 27 rfl (by decide +kernel) ?_
      refine V_istore 28 rfl (Nat.le_of_ble_eq_true rfl) rfl ?_
      refine le_V (P := fun v9 => V G M_X1_cool X T 0 0 46 [some (rv (1, 99) F), some (rv (5, 99) R), some (iv x2), some (iv x3), some (iv v9)] [] h1) e (fun v9 e => ?_)
      refine V_msk [true, true, true, true, true] (lc' := [some (rv (1, 99) F), some (rv (5, 99) R), some (iv x2), some (iv x3), some (iv v9)]) rfl ?_
      exact w_X1_cool_46 hR F R K2 hK2 x2 x3 v9 h1 e
set_option maxHeartbeats 4000000 in
theorem c_X1_cool {G : kG} {T : List kT} {F : Nat} {R : Nat} {x2 : Int32} {h : kH} {h0 : kH} (e : p_X1_cool F R x2 h = some h0) : k_C G M_X1_cool T [rv (1, 99) F, rv (5, 99) R, iv x2] h none h0 := by
  refine k_C_of 2 (by decide +kernel) rfl tb_X1_cool rfl (fun X hR => ?_)
  show V G M_X1_cool X T 0 0 0 [some (rv (1, 99) F), some (rv (5, 99) R), some (iv x2), none, none] [] h
  unfold p_X1_cool at e
  refine V_iconst (nI 0) 0 rfl ic_0 ?_
  refine V_istore_n 1 rfl (Nat.le_of_ble_eq_true rfl) rfl ?_
  show V G M_X1_cool X T 0 0 2 [some (rv (1, 99) F), some (rv (5, 99) R), some (iv x2), some (iv (nI 0)), none] [] h
  refine V_msk [true, true, true, true, false] (lc' := [some (rv (1, 99) F), some (rv (5, 99) R), some (iv x2), some (iv (nI 0)), none]) rfl ?_
  exact fx_e (P := fun s => V G M_X1_cool X T 0 0 2 [some (rv (1, 99) F), some (rv (5, 99) R), some (iv s.1), some (iv s.2.1), none] [] s.2.2) (fun K2 hK2 s e => w_X1_cool_2 hR F R K2 (fun x2 x3 h e => hK2 (x2, x3, h) e) s.1 s.2.1 s.2.2 e) FU (x2, (nI 0), h) e
set_option maxHeartbeats 4000000 in
theorem c_X1_burn {G : kG} {T : List kT} {F : Nat} {R : Nat} {x2 : Int32} {h : kH} {h0 : kH} (e : p_X1_burn F R x2 h = some h0) : k_C G M_X1_burn T [rv (1, 99) F, rv (5, 99) R, iv x2] h none h0 := by
  refine k_C_of 0 (by decide +kernel) rfl tb_X1_burn rfl (fun X hR => ?_)
  show V G M_X1_burn X T 0 0 0 [some (rv (1, 99) F), some (rv (5, 99) R), some (iv x2)] [] h
  unfold p_X1_burn at e
  refine V_aload_n 0 rfl rfl ?_
  refine V_aload_n 1 rfl rfl ?_
  obtain ⟨h1, d2, e⟩ := bd_e e
  refine V_callV (N := M_X1_burnFuel) (av := [rv (5, 99) R]) (st := []) (r := none) (h' := h1) 2 rfl (c_X1_burnFuel d2) g_X1_burnFuel gv_X1_burnFuel lk_RX1_35 ⟨Nat.le_of_ble_eq_true rfl, Nat.le_of_ble_eq_true rfl⟩ rfl rfl (Nat.le_of_ble_eq_true rfl) ⟨Nat.zero_le _, Nat.zero_le _⟩ ?_
  show V G M_X1_burn X T 0 0 5 [some (rv (1, 99) F), some (rv (5, 99) R), some (iv x2)] [] h1
  refine V_aload_n 3 rfl rfl ?_
  refine V_aload_n 4 rfl rfl ?_
  obtain ⟨h3, d4, e⟩ := bd_e e
  refine V_callV (N := M_X1_spread) (av := [rv (5, 99) R]) (st := []) (r := none) (h' := h3) 5 rfl (c_X1_spread d4) g_X1_spread gv_X1_spread lk_RX1_39 ⟨Nat.le_of_ble_eq_true rfl, Nat.le_of_ble_eq_true rfl⟩ rfl rfl (Nat.le_of_ble_eq_true rfl) ⟨Nat.zero_le _, Nat.zero_le _⟩ ?_
  show V G M_X1_burn X T 0 0 10 [some (rv (1, 99) F), some (rv (5, 99) R), some (iv x2)] [] h3
  refine V_aload_n 6 rfl rfl ?_
  refine V_aload_n 7 rfl rfl ?_
  refine V_iload_n 8 rfl rfl ?_
  obtain ⟨h5, d6, e⟩ := bd_e e
  refine V_callV (N := M_X1_cool) (av := [rv (5, 99) R, iv x2]) (st := []) (r := none) (h' := h5) 9 rfl (c_X1_cool d6) g_X1_cool gv_X1_cool lk_RX1_42 ⟨Nat.le_of_ble_eq_true rfl, Nat.le_of_ble_eq_true rfl⟩ rfl rfl (Nat.le_of_ble_eq_true rfl) ⟨Nat.zero_le _, Nat.zero_le _⟩ ?_
  show V G M_X1_burn X T 0 0 16 [some (rv (1, 99) F), some (rv (5, 99) R), some (iv x2)] [] h5
  cases e
  exact V_vret 10 rfl hR rfl
set_option maxHeartbeats 4000000 in
theorem w_X1_tell_40 {G : kG} {X : kX} {T : List kT} {h0 : kH} (hR : k_R G M_X1_tell X T 0 0 none h0) (F : Nat) (K2 : Int32 × Int32 × kH → Option (kH)) (hK2 : ∀ (x2 : Int32) (x3 : Int32) (h : kH), K2 (x2, x3, h) = some h0 → V G M_X1_tell X T 0 0 2 [some (rv (1, 99) F), some (rv (0, 99) 132), some (iv x2), some (iv x3)] [] h) (x2 : Int32) (x3 : Int32) (s0 : Int32) (s1 : Int32) (s2 : Int32) (s3 : Int32) (h : kH) (e : p_X1_tell_40 K2 F x2 x3 s0 s1 s2 s3 h = some h0) : V G M_X1_tell X T 0 0 40 [some (rv (1, 99) F), some (rv (0, 99) 132), some (iv x2), some (iv x3)] [iv s0, iv s1, iv s2, iv s3, rv (0, 99) 132] h := by
  unfold p_X1_tell_40 at e
  obtain ⟨h2, d3, e⟩ := bd_e e
  refine V_callVN (N := M_X0_put) (av := [iv s3, iv s2, iv s1, iv s0]) (st := []) (r := none) (h' := h2) 25 rfl (c_X0_put d3) g_X0_put gv_X0_put nk_RX1_84 ⟨Nat.le_of_ble_eq_true rfl, Nat.le_of_ble_eq_true rfl⟩ rfl rfl (Nat.le_of_ble_eq_true rfl) ⟨Nat.zero_le _, Nat.zero_le _⟩ ?_
  show V G M_X1_tell X T 0 0 43 [some (rv (1, 99) F), some (rv (0, 99) 132), some (iv x2), some (iv x3)] [] h2
  refine V_iinc (x3 + (nI 1)) 26 rfl rfl (inc_1 _) (Nat.le_of_ble_eq_true rfl) rfl ?_
  show V G M_X1_tell X T 0 0 46 [some (rv (1, 99) F), some (rv (0, 99) 132), some (iv x2), some (iv (x3 + (nI 1)))] [] h2
  refine V_goto 2 27 rfl (by decide +kernel) ?_
  refine V_msk [true, true, true, true] (lc' := [some (rv (1, 99) F), some (rv (0, 99) 132), some (iv x2), some (iv (x3 + (nI 1)))]) rfl ?_
  exact hK2 x2 (x3 + (nI 1)) h2 e
set_option maxHeartbeats 4000000 in
theorem w_X1_tell_35 {G : kG} {X : kX} {T : List kT} {h0 : kH} (hR : k_R G M_X1_tell X T 0 0 none h0) (F : Nat) (K2 : Int32 × Int32 × kH → Option (kH)) (hK2 : ∀ (x2 : Int32) (x3 : Int32) (h : kH), K2 (x2, x3, h) = some h0 → V G M_X1_tell X T 0 0 2 [some (rv (1, 99) F), some (rv (0, 99) 132), some (iv x2), some (iv x3)] [] h) (x2 : Int32) (x3 : Int32) (s0 : Int32) (s1 : Int32) (s2 : Int32) (h : kH) (e : p_X1_tell_35 K2 F x2 x3 s0 s1 s2 h = some h0) : V G M_X1_tell X T 0 0 35 [some (rv (1, 99) F), some (rv (0, 99) 132), some (iv x2), some (iv x3)] [iv s0, iv s1, iv s2, rv (0, 99) 132] h := by
  unfold p_X1_tell_35 at e
  refine V_iconst (nI 1) 22 rfl ic_1 ?_
  refine V_goto 40 23 rfl (by decide +kernel) ?_
  refine V_msk [true, true, true, true] (lc' := [some (rv (1, 99) F), some (rv (0, 99) 132), some (iv x2), some (iv x3)]) rfl ?_
  exact w_X1_tell_40 hR F K2 hK2 x2 x3 (nI 1) s0 s1 s2 h e
set_option maxHeartbeats 4000000 in
theorem w_X1_tell_2 {G : kG} {X : kX} {T : List kT} {h0 : kH} (hR : k_R G M_X1_tell X T 0 0 none h0) (F : Nat) (K2 : Int32 × Int32 × kH → Option (kH)) (hK2 : ∀ (x2 : Int32) (x3 : Int32) (h : kH), K2 (x2, x3, h) = some h0 → V G M_X1_tell X T 0 0 2 [some (rv (1, 99) F), some (rv (0, 99) 132), some (iv x2), some (iv x3)] [] h) (x2 : Int32) (x3 : Int32) (h : kH) (e : p_X1_tell_2 K2 F x2 x3 h = some h0) : V G M_X1_tell X T 0 0 2 [some (rv (1, 99) F), some (rv (0, 99) 132), some (iv x2), some (iv x3)] [] h := by
  unfold p_X1_tell_2 at e
  refine V_iload_n 2 rfl rfl ?_
  refine V_bipush (nI 30) 3 rfl bp_30 ?_
  rcases if_e e with ⟨c4, e⟩ | ⟨c4, e⟩
  · refine V_icmp_ge 49 4 rfl (by decide +kernel) (fun _ => ?_) (fun q => absurd c4 q) 
    cases e
    exact V_vret 28 rfl hR rfl
  · refine V_icmp_ge 49 4 rfl (by decide +kernel) (fun q => absurd q c4) (fun _ => ?_)
    refine V_aload_n 5 rfl rfl ?_
    refine V_iload_n 6 rfl rfl ?_
    refine V_iload_n 7 rfl rfl ?_
    refine V_aload_n 8 rfl rfl ?_
    refine V_getR (F + 1) 9 rfl fr_RX1_9 ⟨Nat.le_of_ble_eq_true rfl, Or.inl (Nat.le_of_ble_eq_true rfl)⟩ rfl ?_
    refine V_iload_n 10 rfl rfl ?_
    obtain ⟨g1, e⟩ := gd_e e
    refine V_iald 11 rfl g1 ?_
    refine V_aload_n 12 rfl rfl ?_
    refine V_getR (F + 5) 13 rfl fr_RX1_25 ⟨Nat.le_of_ble_eq_true rfl, Or.inl (Nat.le_of_ble_eq_true rfl)⟩ rfl ?_
    refine V_iload_n 14 rfl rfl ?_
    refine V_zald 15 rfl g1 ?_
    rcases if_e e with ⟨c16, e⟩ | ⟨c16, e⟩
    · refine V_if_ne 35 16 rfl (by decide +kernel) (fun q => absurd c16 q) (fun _ => ?_)
      refine V_aload_n 17 rfl rfl ?_
      refine V_getR (F + 2) 18 rfl fr_RX1_15 ⟨Nat.le_of_ble_eq_true rfl, Or.inl (Nat.le_of_ble_eq_true rfl)⟩ rfl ?_
      refine V_iload_n 19 rfl rfl ?_
      refine V_iald 20 rfl g1 ?_
      rcases if_e e with ⟨c21, e⟩ | ⟨c21, e⟩
      · refine V_if_le 39 21 rfl (by decide +kernel) (fun _ => ?_) (fun q => absurd c21 q) 
        refine V_iconst (nI 0) 24 rfl ic_0 ?_
        refine V_msk [true, true, true, true] (lc' := [some (rv (1, 99) F), some (rv (0, 99) 132), some (iv x2), some (iv x3)]) rfl ?_
        exact w_X1_tell_40 hR F K2 hK2 x2 x3 (nI 0) (h (F + 1) (x3).toNatClampNeg) x3 x2 h e
      · refine V_if_le 39 21 rfl (by decide +kernel) (fun q => absurd q c21) (fun _ => ?_)
        refine V_msk [true, true, true, true] (lc' := [some (rv (1, 99) F), some (rv (0, 99) 132), some (iv x2), some (iv x3)]) rfl ?_
        exact w_X1_tell_35 hR F K2 hK2 x2 x3 (h (F + 1) (x3).toNatClampNeg) x3 x2 h e
    · refine V_if_ne 35 16 rfl (by decide +kernel) (fun _ => ?_) (fun q => absurd q c16) 
      refine V_msk [true, true, true, true] (lc' := [some (rv (1, 99) F), some (rv (0, 99) 132), some (iv x2), some (iv x3)]) rfl ?_
      exact w_X1_tell_35 hR F K2 hK2 x2 x3 (h (F + 1) (x3).toNatClampNeg) x3 x2 h e
set_option maxHeartbeats 4000000 in
theorem c_X1_tell {G : kG} {T : List kT} {F : Nat} {x2 : Int32} {h : kH} {h0 : kH} (e : p_X1_tell F x2 h = some h0) : k_C G M_X1_tell T [rv (1, 99) F, rv (0, 99) 132, iv x2] h none h0 := by
  refine k_C_of 1 (by decide +kernel) rfl tb_X1_tell rfl (fun X hR => ?_)
  show V G M_X1_tell X T 0 0 0 [some (rv (1, 99) F), some (rv (0, 99) 132), some (iv x2), none] [] h
  unfold p_X1_tell at e
  refine V_iconst (nI 0) 0 rfl ic_0 ?_
  refine V_istore_n 1 rfl (Nat.le_of_ble_eq_true rfl) rfl ?_
  show V G M_X1_tell X T 0 0 2 [some (rv (1, 99) F), some (rv (0, 99) 132), some (iv x2), some (iv (nI 0))] [] h
  refine V_msk [true, true, true, true] (lc' := [some (rv (1, 99) F), some (rv (0, 99) 132), some (iv x2), some (iv (nI 0))]) rfl ?_
  exact fx_e (P := fun s => V G M_X1_tell X T 0 0 2 [some (rv (1, 99) F), some (rv (0, 99) 132), some (iv s.1), some (iv s.2.1)] [] s.2.2) (fun K2 hK2 s e => w_X1_tell_2 hR F K2 (fun x2 x3 h e => hK2 (x2, x3, h) e) s.1 s.2.1 s.2.2 e) FU (x2, (nI 0), h) e
set_option maxHeartbeats 4000000 in
theorem w_X1_shareFuel_2 {G : kG} {X : kX} {T : List kT} {h0 : kH} (hR : k_R G M_X1_shareFuel X T 0 0 none h0) (F : Nat) (K2 : Int32 × Int32 × kH → Option (kH)) (hK2 : ∀ (x1 : Int32) (x2 : Int32) (h : kH), K2 (x1, x2, h) = some h0 → V G M_X1_shareFuel X T 0 0 2 [some (rv (1, 99) F), some (iv x1), some (iv x2)] [] h) (x1 : Int32) (x2 : Int32) (h : kH) (e : p_X1_shareFuel_2 K2 F x1 x2 h = some h0) : V G M_X1_shareFuel X T 0 0 2 [some (rv (1, 99) F), some (iv x1), some (iv x2)] [] h := by
  unfold p_X1_shareFuel_2 at e
  refine V_iload_n 2 rfl rfl ?_
  refine V_bipush (nI 30) 3 rfl bp_30 ?_
  rcases if_e e with ⟨c4, e⟩ | ⟨c4, e⟩
  · refine V_icmp_ge 31 4 rfl (by decide +kernel) (fun _ => ?_) (fun q => absurd c4 q) 
    cases e
    exact V_vret 19 rfl hR rfl
  · refine V_icmp_ge 31 4 rfl (by decide +kernel) (fun q => absurd q c4) (fun _ => ?_)
    refine V_aload_n 5 rfl rfl ?_
    refine V_getR (F + 2) 6 rfl fr_RX1_15 ⟨Nat.le_of_ble_eq_true rfl, Or.inl (Nat.le_of_ble_eq_true rfl)⟩ rfl ?_
    refine V_iload_n 7 rfl rfl ?_
    refine V_aload_n 8 rfl rfl ?_
    refine V_getR (F + 2) 9 rfl fr_RX1_15 ⟨Nat.le_of_ble_eq_true rfl, Or.inl (Nat.le_of_ble_eq_true rfl)⟩ rfl ?_
    refine V_iload_n 10 rfl rfl ?_
    obtain ⟨g1, e⟩ := gd_e e
    refine V_iald 11 rfl g1 ?_
    refine V_iload_n 12 rfl rfl ?_
    refine V_imul 13 rfl ?_
    refine V_bipush (nI 100) 14 rfl bp_100 ?_
    refine V_idiv 15 rfl (by decide +kernel) ?_
    refine V_iast 16 rfl g1 ?_
    refine le_V (P := fun h2 => V G M_X1_shareFuel X T 0 0 25 [some (rv (1, 99) F), some (iv x1), some (iv x2)] [] h2) e (fun h2 e => ?_)
    refine V_iinc (x2 + (nI 1)) 17 rfl rfl (inc_1 _) (Nat.le_of_ble_eq_true rfl) rfl ?_
    show V G M_X1_shareFuel X T 0 0 28 [some (rv (1, 99) F), some (iv x1), some (iv (x2 + (nI 1)))] [] h2
    refine V_goto 2 18 rfl (by decide +kernel) ?_
    refine V_msk [true, true, true] (lc' := [some (rv (1, 99) F), some (iv x1), some (iv (x2 + (nI 1)))]) rfl ?_
    exact hK2 x1 (x2 + (nI 1)) h2 e
set_option maxHeartbeats 4000000 in
theorem c_X1_shareFuel {G : kG} {T : List kT} {F : Nat} {x1 : Int32} {h : kH} {h0 : kH} (e : p_X1_shareFuel F x1 h = some h0) : k_C G M_X1_shareFuel T [rv (1, 99) F, iv x1] h none h0 := by
  refine k_C_of 1 (by decide +kernel) rfl tb_X1_shareFuel rfl (fun X hR => ?_)
  show V G M_X1_shareFuel X T 0 0 0 [some (rv (1, 99) F), some (iv x1), none] [] h
  unfold p_X1_shareFuel at e
  refine V_iconst (nI 0) 0 rfl ic_0 ?_
  refine V_istore_n 1 rfl (Nat.le_of_ble_eq_true rfl) rfl ?_
  show V G M_X1_shareFuel X T 0 0 2 [some (rv (1, 99) F), some (iv x1), some (iv (nI 0))] [] h
  refine V_msk [true, true, true] (lc' := [some (rv (1, 99) F), some (iv x1), some (iv (nI 0))]) rfl ?_
  exact fx_e (P := fun s => V G M_X1_shareFuel X T 0 0 2 [some (rv (1, 99) F), some (iv s.1), some (iv s.2.1)] [] s.2.2) (fun K2 hK2 s e => w_X1_shareFuel_2 hR F K2 (fun x1 x2 h e => hK2 (x1, x2, h) e) s.1 s.2.1 s.2.2 e) FU (x1, (nI 0), h) e
set_option maxHeartbeats 4000000 in
theorem w_X1_rakeOff_10 {G : kG} {X : kX} {T : List kT} {h0 : kH} (hR : k_R G M_X1_rakeOff X T 0 0 none h0) (F : Nat) (K10 : Int32 × kH → Option (kH)) (hK10 : ∀ (x1 : Int32) (h : kH), K10 (x1, h) = some h0 → V G M_X1_rakeOff X T 0 0 10 [some (rv (1, 99) F), some (iv x1)] [] h) (x1 : Int32) (h : kH) (e : p_X1_rakeOff_10 K10 F x1 h = some h0) : V G M_X1_rakeOff X T 0 0 10 [some (rv (1, 99) F), some (iv x1)] [] h := by
  unfold p_X1_rakeOff_10 at e
  refine V_iload_n 6 rfl rfl ?_
  refine V_bipush (nI 30) 7 rfl bp_30 ?_
  rcases if_e e with ⟨c8, e⟩ | ⟨c8, e⟩
  · refine V_icmp_ge 29 8 rfl (by decide +kernel) (fun _ => ?_) (fun q => absurd c8 q) 
    cases e
    exact V_vret 16 rfl hR rfl
  · refine V_icmp_ge 29 8 rfl (by decide +kernel) (fun q => absurd q c8) (fun _ => ?_)
    refine V_aload_n 9 rfl rfl ?_
    refine V_getR (F + 5) 10 rfl fr_RX1_25 ⟨Nat.le_of_ble_eq_true rfl, Or.inl (Nat.le_of_ble_eq_true rfl)⟩ rfl ?_
    refine V_iload_n 11 rfl rfl ?_
    refine V_iconst (nI 0) 12 rfl ic_0 ?_
    obtain ⟨g3, e⟩ := gd_e e
    refine V_zast 13 rfl g3 ?_
    refine le_V (P := fun h4 => V G M_X1_rakeOff X T 0 0 23 [some (rv (1, 99) F), some (iv x1)] [] h4) e (fun h4 e => ?_)
    refine V_iinc (x1 + (nI 1)) 14 rfl rfl (inc_1 _) (Nat.le_of_ble_eq_true rfl) rfl ?_
    show V G M_X1_rakeOff X T 0 0 26 [some (rv (1, 99) F), some (iv (x1 + (nI 1)))] [] h4
    refine V_goto 10 15 rfl (by decide +kernel) ?_
    refine V_msk [true, true] (lc' := [some (rv (1, 99) F), some (iv (x1 + (nI 1)))]) rfl ?_
    exact hK10 (x1 + (nI 1)) h4 e
set_option maxHeartbeats 4000000 in
theorem c_X1_rakeOff {G : kG} {T : List kT} {F : Nat} {h : kH} {h0 : kH} (e : p_X1_rakeOff F h = some h0) : k_C G M_X1_rakeOff T [rv (1, 99) F] h none h0 := by
  refine k_C_of 1 (by decide +kernel) rfl tb_X1_rakeOff rfl (fun X hR => ?_)
  show V G M_X1_rakeOff X T 0 0 0 [some (rv (1, 99) F), none] [] h
  unfold p_X1_rakeOff at e
  refine V_aload_n 0 rfl rfl ?_
  refine V_getR (F + 2) 1 rfl fr_RX1_15 ⟨Nat.le_of_ble_eq_true rfl, Or.inl (Nat.le_of_ble_eq_true rfl)⟩ rfl ?_
  refine V_iconst (nI 0) 2 rfl ic_0 ?_
  obtain ⟨h1, d2, e⟩ := bd_e e
  refine V_callS (N := M_J7_fill_53178) (av := [rv (9, 30) (F + 2), iv (nI 0)]) (st := []) (r := none) (h' := h1) 3 rfl (c_J7_fill_53178 d2) g_J7_fill_53178 gs_J7_fill_53178 lk_RX1_64 ⟨Nat.le_of_ble_eq_true rfl, Nat.le_of_ble_eq_true rfl⟩ rfl (Nat.le_of_ble_eq_true rfl) ⟨Nat.zero_le _, Nat.zero_le _⟩ ?_
  show V G M_X1_rakeOff X T 0 0 8 [some (rv (1, 99) F), none] [] h1
  refine V_iconst (nI 0) 4 rfl ic_0 ?_
  refine V_istore_n 5 rfl (Nat.le_of_ble_eq_true rfl) rfl ?_
  show V G M_X1_rakeOff X T 0 0 10 [some (rv (1, 99) F), some (iv (nI 0))] [] h1
  refine V_msk [true, true] (lc' := [some (rv (1, 99) F), some (iv (nI 0))]) rfl ?_
  exact fx_e (P := fun s => V G M_X1_rakeOff X T 0 0 10 [some (rv (1, 99) F), some (iv s.1)] [] s.2) (fun K10 hK10 s e => w_X1_rakeOff_10 hR F K10 (fun x1 h e => hK10 (x1, h) e) s.1 s.2 e) FU ((nI 0), h1) e
set_option maxHeartbeats 4000000 in
theorem w_X1_coverAll_2 {G : kG} {X : kX} {T : List kT} {h0 : kH} (hR : k_R G M_X1_coverAll X T 0 0 none h0) (F : Nat) (K2 : Int32 × kH → Option (kH)) (hK2 : ∀ (x1 : Int32) (h : kH), K2 (x1, h) = some h0 → V G M_X1_coverAll X T 0 0 2 [some (rv (1, 99) F), some (iv x1)] [] h) (x1 : Int32) (h : kH) (e : p_X1_coverAll_2 K2 F x1 h = some h0) : V G M_X1_coverAll X T 0 0 2 [some (rv (1, 99) F), some (iv x1)] [] h := by
  unfold p_X1_coverAll_2 at e
  refine V_iload_n 2 rfl rfl ?_
  refine V_bipush (nI 30) 3 rfl bp_30 ?_
  rcases if_e e with ⟨c4, e⟩ | ⟨c4, e⟩
  · refine V_icmp_ge 21 4 rfl (by decide +kernel) (fun _ => ?_) (fun q => absurd c4 q) 
    cases e
    exact V_vret 12 rfl hR rfl
  · refine V_icmp_ge 21 4 rfl (by decide +kernel) (fun q => absurd q c4) (fun _ => ?_)
    refine V_aload_n 5 rfl rfl ?_
    refine V_getR (F + 5) 6 rfl fr_RX1_25 ⟨Nat.le_of_ble_eq_true rfl, Or.inl (Nat.le_of_ble_eq_true rfl)⟩ rfl ?_
    refine V_iload_n 7 rfl rfl ?_
    refine V_iconst (nI 1) 8 rfl ic_1 ?_
    obtain ⟨g1, e⟩ := gd_e e
    refine V_zast 9 rfl g1 ?_
    refine le_V (P := fun h2 => V G M_X1_coverAll X T 0 0 15 [some (rv (1, 99) F), some (iv x1)] [] h2) e (fun h2 e => ?_)
    refine V_iinc (x1 + (nI 1)) 10 rfl rfl (inc_1 _) (Nat.le_of_ble_eq_true rfl) rfl ?_
    show V G M_X1_coverAll X T 0 0 18 [some (rv (1, 99) F), some (iv (x1 + (nI 1)))] [] h2
    refine V_goto 2 11 rfl (by decide +kernel) ?_
    refine V_msk [true, true] (lc' := [some (rv (1, 99) F), some (iv (x1 + (nI 1)))]) rfl ?_
    exact hK2 (x1 + (nI 1)) h2 e
set_option maxHeartbeats 4000000 in
theorem c_X1_coverAll {G : kG} {T : List kT} {F : Nat} {h : kH} {h0 : kH} (e : p_X1_coverAll F h = some h0) : k_C G M_X1_coverAll T [rv (1, 99) F] h none h0 := by
  refine k_C_of 1 (by decide +kernel) rfl tb_X1_coverAll rfl (fun X hR => ?_)
  show V G M_X1_coverAll X T 0 0 0 [some (rv (1, 99) F), none] [] h
  unfold p_X1_coverAll at e
  refine V_iconst (nI 0) 0 rfl ic_0 ?_
  refine V_istore_n 1 rfl (Nat.le_of_ble_eq_true rfl) rfl ?_
  show V G M_X1_coverAll X T 0 0 2 [some (rv (1, 99) F), some (iv (nI 0))] [] h
  refine V_msk [true, true] (lc' := [some (rv (1, 99) F), some (iv (nI 0))]) rfl ?_
  exact fx_e (P := fun s => V G M_X1_coverAll X T 0 0 2 [some (rv (1, 99) F), some (iv s.1)] [] s.2) (fun K2 hK2 s e => w_X1_coverAll_2 hR F K2 (fun x1 h e => hK2 (x1, h) e) s.1 s.2 e) FU ((nI 0), h) e
set_option maxHeartbeats 4000000 in
theorem c_X5_areBeside {G : kG} {T : List kT} {R : Nat} {x1 : Int32} {x2 : Int32} {h : kH} {r0 : Int32} {h0 : kH} (e : p_X5_areBeside R x1 x2 h = some (r0, h0)) : k_C G M_X5_areBeside T [rv (5, 99) R, iv x1, iv x2] h (some (iv r0)) h0 := by
  refine k_C_of 2 (by decide +kernel) rfl tb_X5_areBeside rfl (fun X hR => ?_)
  show V G M_X5_areBeside X T 0 0 0 [some (rv (5, 99) R), some (iv x1), some (iv x2), none, none] [] h
  unfold p_X5_areBeside at e
  refine V_aload_n 0 rfl rfl ?_
  refine V_getI 1 rfl fi_RX5_21 ?_
  refine V_iconst (nI 1) 2 rfl ic_1 ?_
  rcases if_e e with ⟨c3, e⟩ | ⟨c3, e⟩
  · refine V_icmp_ge 10 3 rfl (by decide +kernel) (fun _ => ?_) (fun q => absurd c3 q) 
    refine V_iload_n 6 rfl rfl ?_
    refine V_aload_n 7 rfl rfl ?_
    refine V_getI 8 rfl fi_RX5_21 ?_
    obtain ⟨g1, e⟩ := gd_e e
    refine V_rem 9 rfl (of_decide_eq_true g1) ?_
    refine V_iload_n 10 rfl rfl ?_
    refine V_aload_n 11 rfl rfl ?_
    refine V_getI 12 rfl fi_RX5_21 ?_
    obtain ⟨g2, e⟩ := gd_e e
    refine V_rem 13 rfl (of_decide_eq_true g2) ?_
    refine V_isub 14 rfl ?_
    refine V_istore_n 15 rfl (Nat.le_of_ble_eq_true rfl) rfl ?_
    refine le_V (P := fun v3 => V G M_X5_areBeside X T 0 0 24 [some (rv (5, 99) R), some (iv x1), some (iv x2), some (iv v3), none] [] h) e (fun v3 e => ?_)
    refine V_iload_n 16 rfl rfl ?_
    refine V_aload_n 17 rfl rfl ?_
    refine V_getI 18 rfl fi_RX5_21 ?_
    obtain ⟨g4, e⟩ := gd_e e
    refine V_idiv 19 rfl (of_decide_eq_true g4) ?_
    refine V_iload_n 20 rfl rfl ?_
    refine V_aload_n 21 rfl rfl ?_
    refine V_getI 22 rfl fi_RX5_21 ?_
    obtain ⟨g5, e⟩ := gd_e e
    refine V_idiv 23 rfl (of_decide_eq_true g5) ?_
    refine V_isub 24 rfl ?_
    refine V_istore 25 rfl (Nat.le_of_ble_eq_true rfl) rfl ?_
    refine le_V (P := fun v6 => V G M_X5_areBeside X T 0 0 39 [some (rv (5, 99) R), some (iv x1), some (iv x2), some (iv v3), some (iv v6)] [] h) e (fun v6 e => ?_)
    refine V_iload_n 26 rfl rfl ?_
    refine V_iconst (-1 : Int32) 27 rfl ic_m1 ?_
    rcases if_e e with ⟨c28, e⟩ | ⟨c28, e⟩
    · refine V_icmp_lt 65 28 rfl (by decide +kernel) (fun _ => ?_) (fun q => absurd c28 q) 
      refine V_iconst (nI 0) 40 rfl ic_0 ?_
      cases e
      exact V_zret 41 rfl z_0 hR rfl
    · refine V_icmp_lt 65 28 rfl (by decide +kernel) (fun q => absurd q c28) (fun _ => ?_)
      refine V_iload_n 29 rfl rfl ?_
      refine V_iconst (nI 1) 30 rfl ic_1 ?_
      rcases if_e e with ⟨c31, e⟩ | ⟨c31, e⟩
      · refine V_icmp_gt 65 31 rfl (by decide +kernel) (fun _ => ?_) (fun q => absurd c31 q) 
        refine V_iconst (nI 0) 40 rfl ic_0 ?_
        cases e
        exact V_zret 41 rfl z_0 hR rfl
      · refine V_icmp_gt 65 31 rfl (by decide +kernel) (fun q => absurd q c31) (fun _ => ?_)
        refine V_iload 32 rfl rfl ?_
        refine V_iconst (-1 : Int32) 33 rfl ic_m1 ?_
        rcases if_e e with ⟨c34, e⟩ | ⟨c34, e⟩
        · refine V_icmp_lt 65 34 rfl (by decide +kernel) (fun _ => ?_) (fun q => absurd c34 q) 
          refine V_iconst (nI 0) 40 rfl ic_0 ?_
          cases e
          exact V_zret 41 rfl z_0 hR rfl
        · refine V_icmp_lt 65 34 rfl (by decide +kernel) (fun q => absurd q c34) (fun _ => ?_)
          refine V_iload 35 rfl rfl ?_
          refine V_iconst (nI 1) 36 rfl ic_1 ?_
          rcases if_e e with ⟨c37, e⟩ | ⟨c37, e⟩
          · refine V_icmp_gt 65 37 rfl (by decide +kernel) (fun _ => ?_) (fun q => absurd c37 q) 
            refine V_iconst (nI 0) 40 rfl ic_0 ?_
            cases e
            exact V_zret 41 rfl z_0 hR rfl
          · refine V_icmp_gt 65 37 rfl (by decide +kernel) (fun q => absurd q c37) (fun _ => ?_)
            refine V_iconst (nI 1) 38 rfl ic_1 ?_
            refine V_goto 66 39 rfl (by decide +kernel) ?_
            cases e
            exact V_zret 41 rfl z_1 hR rfl
  · refine V_icmp_ge 10 3 rfl (by decide +kernel) (fun q => absurd q c3) (fun _ => ?_)
    refine V_iconst (nI 0) 4 rfl ic_0 ?_
    cases e
    exact V_zret 5 rfl z_0 hR rfl
set_option maxHeartbeats 4000000 in
theorem c_X5_setKind {G : kG} {T : List kT} {R : Nat} {x1 : Int32} {x2 : Int32} {x3 : Int32} {h : kH} {h0 : kH} (e : p_X5_setKind R x1 x2 x3 h = some h0) : k_C G M_X5_setKind T [rv (5, 99) R, iv x1, iv x2, iv x3] h none h0 := by
  refine k_C_of 0 (by decide +kernel) rfl tb_X5_setKind rfl (fun X hR => ?_)
  show V G M_X5_setKind X T 0 0 0 [some (rv (5, 99) R), some (iv x1), some (iv x2), some (iv x3)] [] h
  unfold p_X5_setKind at e
  refine V_aload_n 0 rfl rfl ?_
  refine V_getR (R + 1) 1 rfl fr_RX5_9 ⟨Nat.le_of_ble_eq_true rfl, Or.inl (Nat.le_of_ble_eq_true rfl)⟩ rfl ?_
  refine V_iload_n 2 rfl rfl ?_
  refine V_iload_n 3 rfl rfl ?_
  obtain ⟨g1, e⟩ := gd_e e
  refine V_iast 4 rfl g1 ?_
  refine le_V (P := fun h2 => V G M_X5_setKind X T 0 0 7 [some (rv (5, 99) R), some (iv x1), some (iv x2), some (iv x3)] [] h2) e (fun h2 e => ?_)
  refine V_aload_n 5 rfl rfl ?_
  refine V_getR (R + 2) 6 rfl fr_RX5_15 ⟨Nat.le_of_ble_eq_true rfl, Or.inl (Nat.le_of_ble_eq_true rfl)⟩ rfl ?_
  refine V_iload_n 7 rfl rfl ?_
  refine V_iload_n 8 rfl rfl ?_
  refine V_iast 9 rfl g1 ?_
  refine le_V (P := fun h3 => V G M_X5_setKind X T 0 0 14 [some (rv (5, 99) R), some (iv x1), some (iv x2), some (iv x3)] [] h3) e (fun h3 e => ?_)
  cases e
  exact V_vret 10 rfl hR rfl
set_option maxHeartbeats 4000000 in
theorem c_X5_setDefaults {G : kG} {T : List kT} {R : Nat} {h : kH} {h0 : kH} (e : p_X5_setDefaults R h = some h0) : k_C G M_X5_setDefaults T [rv (5, 99) R] h none h0 := by
  refine k_C_of 0 (by decide +kernel) rfl tb_X5_setDefaults rfl (fun X hR => ?_)
  show V G M_X5_setDefaults X T 0 0 0 [some (rv (5, 99) R)] [] h
  unfold p_X5_setDefaults at e
  refine V_aload_n 0 rfl rfl ?_
  refine V_iconst (nI 4) 1 rfl ic_4 ?_
  refine V_putI 2 rfl fi_RX5_21 ?_
  refine le_V (P := fun h1 => V G M_X5_setDefaults X T 0 0 5 [some (rv (5, 99) R)] [] h1) e (fun h1 e => ?_)
  refine V_aload_n 3 rfl rfl ?_
  refine V_iconst (nI 3) 4 rfl ic_3 ?_
  refine V_putI 5 rfl fi_RX5_25 ?_
  refine le_V (P := fun h2 => V G M_X5_setDefaults X T 0 0 10 [some (rv (5, 99) R)] [] h2) e (fun h2 e => ?_)
  refine V_aload_n 6 rfl rfl ?_
  refine V_iconst (nI 0) 7 rfl ic_0 ?_
  refine V_bipush (nI 6) 8 rfl bp_6 ?_
  refine V_bipush (nI 20) 9 rfl bp_20 ?_
  obtain ⟨h3, d4, e⟩ := bd_e e
  refine V_callV (N := M_X5_setKind) (av := [iv (nI 0), iv (nI 6), iv (nI 20)]) (st := []) (r := none) (h' := h3) 10 rfl (c_X5_setKind d4) g_X5_setKind gv_X5_setKind lk_RX5_28 ⟨Nat.le_of_ble_eq_true rfl, Nat.le_of_ble_eq_true rfl⟩ rfl rfl (Nat.le_of_ble_eq_true rfl) ⟨Nat.zero_le _, Nat.zero_le _⟩ ?_
  show V G M_X5_setDefaults X T 0 0 19 [some (rv (5, 99) R)] [] h3
  refine V_aload_n 11 rfl rfl ?_
  refine V_iconst (nI 1) 12 rfl ic_1 ?_
  refine V_iconst (nI 2) 13 rfl ic_2 ?_
  refine V_bipush (nI 40) 14 rfl bp_40 ?_
  obtain ⟨h5, d6, e⟩ := bd_e e
  refine V_callV (N := M_X5_setKind) (av := [iv (nI 1), iv (nI 2), iv (nI 40)]) (st := []) (r := none) (h' := h5) 15 rfl (c_X5_setKind d6) g_X5_setKind gv_X5_setKind lk_RX5_28 ⟨Nat.le_of_ble_eq_true rfl, Nat.le_of_ble_eq_true rfl⟩ rfl rfl (Nat.le_of_ble_eq_true rfl) ⟨Nat.zero_le _, Nat.zero_le _⟩ ?_
  show V G M_X5_setDefaults X T 0 0 27 [some (rv (5, 99) R)] [] h5
  refine V_aload_n 16 rfl rfl ?_
  refine V_iconst (nI 2) 17 rfl ic_2 ?_
  refine V_bipush (nI 15) 18 rfl bp_15 ?_
  refine V_bipush (nI 8) 19 rfl bp_8 ?_
  obtain ⟨h7, d8, e⟩ := bd_e e
  refine V_callV (N := M_X5_setKind) (av := [iv (nI 2), iv (nI 15), iv (nI 8)]) (st := []) (r := none) (h' := h7) 20 rfl (c_X5_setKind d8) g_X5_setKind gv_X5_setKind lk_RX5_28 ⟨Nat.le_of_ble_eq_true rfl, Nat.le_of_ble_eq_true rfl⟩ rfl rfl (Nat.le_of_ble_eq_true rfl) ⟨Nat.zero_le _, Nat.zero_le _⟩ ?_
  show V G M_X5_setDefaults X T 0 0 36 [some (rv (5, 99) R)] [] h7
  refine V_aload_n 21 rfl rfl ?_
  refine V_bipush (nI 8) 22 rfl bp_8 ?_
  refine V_putI 23 rfl fi_RX5_32 ?_
  refine le_V (P := fun h9 => V G M_X5_setDefaults X T 0 0 42 [some (rv (5, 99) R)] [] h9) e (fun h9 e => ?_)
  refine V_aload_n 24 rfl rfl ?_
  refine V_bipush (nI 75) 25 rfl bp_75 ?_
  refine V_putI 26 rfl fi_RX5_35 ?_
  refine le_V (P := fun h10 => V G M_X5_setDefaults X T 0 0 48 [some (rv (5, 99) R)] [] h10) e (fun h10 e => ?_)
  refine V_aload_n 27 rfl rfl ?_
  refine V_bipush (nI 10) 28 rfl bp_10 ?_
  refine V_putI 29 rfl fi_RX5_38 ?_
  refine le_V (P := fun h11 => V G M_X5_setDefaults X T 0 0 54 [some (rv (5, 99) R)] [] h11) e (fun h11 e => ?_)
  refine V_aload_n 30 rfl rfl ?_
  refine V_bipush (nI 60) 31 rfl bp_60 ?_
  refine V_putI 32 rfl fi_RX5_41 ?_
  refine le_V (P := fun h12 => V G M_X5_setDefaults X T 0 0 60 [some (rv (5, 99) R)] [] h12) e (fun h12 e => ?_)
  refine V_aload_n 33 rfl rfl ?_
  refine V_bipush (nI 90) 34 rfl bp_90 ?_
  refine V_putI 35 rfl fi_RX5_44 ?_
  refine le_V (P := fun h13 => V G M_X5_setDefaults X T 0 0 66 [some (rv (5, 99) R)] [] h13) e (fun h13 e => ?_)
  refine V_aload_n 36 rfl rfl ?_
  refine V_iconst (nI 0) 37 rfl ic_0 ?_
  refine V_putI 38 rfl fi_RX5_47 ?_
  refine le_V (P := fun h14 => V G M_X5_setDefaults X T 0 0 71 [some (rv (5, 99) R)] [] h14) e (fun h14 e => ?_)
  cases e
  exact V_vret 39 rfl hR rfl
set_option maxHeartbeats 4000000 in
theorem w_X5_copyFrom_18 {G : kG} {X : kX} {T : List kT} {h0 : kH} (hR : k_R G M_X5_copyFrom X T 0 0 none h0) (R : Nat) (R2 : Nat) (K18 : Int32 × kH → Option (kH)) (hK18 : ∀ (x2 : Int32) (h : kH), K18 (x2, h) = some h0 → V G M_X5_copyFrom X T 0 0 18 [some (rv (5, 99) R), some (rv (5, 99) R2), some (iv x2)] [] h) (x2 : Int32) (h : kH) (e : p_X5_copyFrom_18 K18 R R2 x2 h = some h0) : V G M_X5_copyFrom X T 0 0 18 [some (rv (5, 99) R), some (rv (5, 99) R2), some (iv x2)] [] h := by
  unfold p_X5_copyFrom_18 at e
  refine V_iload_n 10 rfl rfl ?_
  refine V_iconst (nI 3) 11 rfl ic_3 ?_
  rcases if_e e with ⟨c12, e⟩ | ⟨c12, e⟩
  · refine V_icmp_ge 46 12 rfl (by decide +kernel) (fun _ => ?_) (fun q => absurd c12 q) 
    refine V_aload_n 26 rfl rfl ?_
    refine V_aload_n 27 rfl rfl ?_
    refine V_getI 28 rfl fi_RX5_32 ?_
    refine V_putI 29 rfl fi_RX5_32 ?_
    refine le_V (P := fun h3 => V G M_X5_copyFrom X T 0 0 54 [some (rv (5, 99) R), some (rv (5, 99) R2), some (iv x2)] [] h3) e (fun h3 e => ?_)
    refine V_aload_n 30 rfl rfl ?_
    refine V_aload_n 31 rfl rfl ?_
    refine V_getI 32 rfl fi_RX5_35 ?_
    refine V_putI 33 rfl fi_RX5_35 ?_
    refine le_V (P := fun h4 => V G M_X5_copyFrom X T 0 0 62 [some (rv (5, 99) R), some (rv (5, 99) R2), some (iv x2)] [] h4) e (fun h4 e => ?_)
    refine V_aload_n 34 rfl rfl ?_
    refine V_aload_n 35 rfl rfl ?_
    refine V_getI 36 rfl fi_RX5_38 ?_
    refine V_putI 37 rfl fi_RX5_38 ?_
    refine le_V (P := fun h5 => V G M_X5_copyFrom X T 0 0 70 [some (rv (5, 99) R), some (rv (5, 99) R2), some (iv x2)] [] h5) e (fun h5 e => ?_)
    refine V_aload_n 38 rfl rfl ?_
    refine V_aload_n 39 rfl rfl ?_
    refine V_getI 40 rfl fi_RX5_41 ?_
    refine V_putI 41 rfl fi_RX5_41 ?_
    refine le_V (P := fun h6 => V G M_X5_copyFrom X T 0 0 78 [some (rv (5, 99) R), some (rv (5, 99) R2), some (iv x2)] [] h6) e (fun h6 e => ?_)
    refine V_aload_n 42 rfl rfl ?_
    refine V_aload_n 43 rfl rfl ?_
    refine V_getI 44 rfl fi_RX5_44 ?_
    refine V_putI 45 rfl fi_RX5_44 ?_
    refine le_V (P := fun h7 => V G M_X5_copyFrom X T 0 0 86 [some (rv (5, 99) R), some (rv (5, 99) R2), some (iv x2)] [] h7) e (fun h7 e => ?_)
    refine V_aload_n 46 rfl rfl ?_
    refine V_aload_n 47 rfl rfl ?_
    refine V_getI 48 rfl fi_RX5_47 ?_
    refine V_putI 49 rfl fi_RX5_47 ?_
    refine le_V (P := fun h8 => V G M_X5_copyFrom X T 0 0 94 [some (rv (5, 99) R), some (rv (5, 99) R2), some (iv x2)] [] h8) e (fun h8 e => ?_)
    cases e
    exact V_vret 50 rfl hR rfl
  · refine V_icmp_ge 46 12 rfl (by decide +kernel) (fun q => absurd q c12) (fun _ => ?_)
    refine V_aload_n 13 rfl rfl ?_
    refine V_iload_n 14 rfl rfl ?_
    refine V_aload_n 15 rfl rfl ?_
    refine V_getR (R2 + 1) 16 rfl fr_RX5_9 ⟨Nat.le_of_ble_eq_true rfl, Or.inl (Nat.le_of_ble_eq_true rfl)⟩ rfl ?_
    refine V_iload_n 17 rfl rfl ?_
    obtain ⟨g9, e⟩ := gd_e e
    refine V_iald 18 rfl g9 ?_
    refine V_aload_n 19 rfl rfl ?_
    refine V_getR (R2 + 2) 20 rfl fr_RX5_15 ⟨Nat.le_of_ble_eq_true rfl, Or.inl (Nat.le_of_ble_eq_true rfl)⟩ rfl ?_
    refine V_iload_n 21 rfl rfl ?_
    refine V_iald 22 rfl g9 ?_
    obtain ⟨h10, d11, e⟩ := bd_e e
    refine V_callV (N := M_X5_setKind) (av := [iv x2, iv (h (R2 + 1) (x2).toNatClampNeg), iv (h (R2 + 2) (x2).toNatClampNeg)]) (st := []) (r := none) (h' := h10) 23 rfl (c_X5_setKind d11) g_X5_setKind gv_X5_setKind lk_RX5_28 ⟨Nat.le_of_ble_eq_true rfl, Nat.le_of_ble_eq_true rfl⟩ rfl rfl (Nat.le_of_ble_eq_true rfl) ⟨Nat.zero_le _, Nat.zero_le _⟩ ?_
    show V G M_X5_copyFrom X T 0 0 40 [some (rv (5, 99) R), some (rv (5, 99) R2), some (iv x2)] [] h10
    refine V_iinc (x2 + (nI 1)) 24 rfl rfl (inc_1 _) (Nat.le_of_ble_eq_true rfl) rfl ?_
    show V G M_X5_copyFrom X T 0 0 43 [some (rv (5, 99) R), some (rv (5, 99) R2), some (iv (x2 + (nI 1)))] [] h10
    refine V_goto 18 25 rfl (by decide +kernel) ?_
    refine V_msk [true, true, true] (lc' := [some (rv (5, 99) R), some (rv (5, 99) R2), some (iv (x2 + (nI 1)))]) rfl ?_
    exact hK18 (x2 + (nI 1)) h10 e
set_option maxHeartbeats 4000000 in
theorem c_X5_copyFrom {G : kG} {T : List kT} {R : Nat} {R2 : Nat} {h : kH} {h0 : kH} (e : p_X5_copyFrom R R2 h = some h0) : k_C G M_X5_copyFrom T [rv (5, 99) R, rv (5, 99) R2] h none h0 := by
  refine k_C_of 1 (by decide +kernel) rfl tb_X5_copyFrom rfl (fun X hR => ?_)
  show V G M_X5_copyFrom X T 0 0 0 [some (rv (5, 99) R), some (rv (5, 99) R2), none] [] h
  unfold p_X5_copyFrom at e
  refine V_aload_n 0 rfl rfl ?_
  refine V_aload_n 1 rfl rfl ?_
  refine V_getI 2 rfl fi_RX5_21 ?_
  refine V_putI 3 rfl fi_RX5_21 ?_
  refine le_V (P := fun h1 => V G M_X5_copyFrom X T 0 0 8 [some (rv (5, 99) R), some (rv (5, 99) R2), none] [] h1) e (fun h1 e => ?_)
  refine V_aload_n 4 rfl rfl ?_
  refine V_aload_n 5 rfl rfl ?_
  refine V_getI 6 rfl fi_RX5_25 ?_
  refine V_putI 7 rfl fi_RX5_25 ?_
  refine le_V (P := fun h2 => V G M_X5_copyFrom X T 0 0 16 [some (rv (5, 99) R), some (rv (5, 99) R2), none] [] h2) e (fun h2 e => ?_)
  refine V_iconst (nI 0) 8 rfl ic_0 ?_
  refine V_istore_n 9 rfl (Nat.le_of_ble_eq_true rfl) rfl ?_
  show V G M_X5_copyFrom X T 0 0 18 [some (rv (5, 99) R), some (rv (5, 99) R2), some (iv (nI 0))] [] h2
  refine V_msk [true, true, true] (lc' := [some (rv (5, 99) R), some (rv (5, 99) R2), some (iv (nI 0))]) rfl ?_
  exact fx_e (P := fun s => V G M_X5_copyFrom X T 0 0 18 [some (rv (5, 99) R), some (rv (5, 99) R2), some (iv s.1)] [] s.2) (fun K18 hK18 s e => w_X5_copyFrom_18 hR R R2 K18 (fun x2 h e => hK18 (x2, h) e) s.1 s.2 e) FU ((nI 0), h2) e
set_option maxHeartbeats 4000000 in
theorem c_X5_drawnWind {G : kG} {T : List kT} {R : Nat} {x1 : Int32} {x2 : Int32} {h : kH} {r0 : Int32} {h0 : kH} (e : p_X5_drawnWind R x1 x2 h = some (r0, h0)) : k_C G M_X5_drawnWind T [rv (5, 99) R, iv x1, iv x2] h (some (iv r0)) h0 := by
  refine k_C_of 2 (by decide +kernel) rfl tb_X5_drawnWind rfl (fun X hR => ?_)
  show V G M_X5_drawnWind X T 0 0 0 [some (rv (5, 99) R), some (iv x1), some (iv x2), none, none] [] h
  unfold p_X5_drawnWind at e
  refine V_aload_n 0 rfl rfl ?_
  refine V_getI 1 rfl fi_RX5_47 ?_
  rcases if_e e with ⟨c2, e⟩ | ⟨c2, e⟩
  · refine V_if_ge 9 2 rfl (by decide +kernel) (fun _ => ?_) (fun q => absurd c2 q) 
    refine V_ldc2 (7919 : Int64) 5 rfl kl_RX5_50 ?_
    refine V_iload_n 6 rfl rfl ?_
    refine V_i2l 7 rfl ?_
    refine V_lmul 8 rfl ?_
    refine V_ldc2 (6151 : Int64) 9 rfl kl_RX5_52 ?_
    refine V_iload_n 10 rfl rfl ?_
    refine V_i2l 11 rfl ?_
    refine V_lmul 12 rfl ?_
    refine V_ladd 13 rfl ?_
    refine V_lconst (1 : Int64) 14 rfl rfl ?_
    refine V_ladd 15 rfl ?_
    refine V_lstore_n 16 rfl (Nat.le_of_ble_eq_true rfl) rfl ?_
    refine le_V (P := fun v1 => V G M_X5_drawnWind X T 0 0 25 [some (rv (5, 99) R), some (iv x1), some (iv x2), some (jv v1), none] [] h) e (fun v1 e => ?_)
    refine V_lload_n 17 rfl rfl ?_
    refine V_lload_n 18 rfl rfl ?_
    refine V_lmul 19 rfl ?_
    refine V_ldc2 (65521 : Int64) 20 rfl kl_RX5_54 ?_
    refine V_remL 21 rfl (by decide +kernel) ?_
    refine V_aload_n 22 rfl rfl ?_
    refine V_getI 23 rfl fi_RX5_47 ?_
    refine V_iconst (nI 1) 24 rfl ic_1 ?_
    refine V_iadd 25 rfl ?_
    refine V_i2l 26 rfl ?_
    obtain ⟨g2, e⟩ := gd_e e
    refine V_remL 27 rfl (of_decide_eq_true g2) ?_
    refine V_l2i 28 rfl ?_
    cases e
    exact V_iret 29 rfl hR rfl
  · refine V_if_ge 9 2 rfl (by decide +kernel) (fun q => absurd q c2) (fun _ => ?_)
    refine V_iconst (nI 0) 3 rfl ic_0 ?_
    cases e
    exact V_iret 4 rfl hR rfl
set_option maxHeartbeats 4000000 in
theorem c_X6_clear {G : kG} {T : List kT} {h : kH} {h0 : kH} (e : p_X6_clear h = some h0) : k_C G M_X6_clear T [rv (6, 99) 134] h none h0 := by
  refine k_C_of 0 (by decide +kernel) rfl tb_X6_clear rfl (fun X hR => ?_)
  show V G M_X6_clear X T 0 0 0 [some (rv (6, 99) 134)] [] h
  unfold p_X6_clear at e
  refine V_aload_n 0 rfl rfl ?_
  refine V_iconst (nI 0) 1 rfl ic_0 ?_
  refine V_putI 2 rfl fi_RX6_9 ?_
  refine le_V (P := fun h1 => V G M_X6_clear X T 0 0 5 [some (rv (6, 99) 134)] [] h1) e (fun h1 e => ?_)
  cases e
  exact V_vret 3 rfl hR rfl
set_option maxHeartbeats 4000000 in
theorem w_X6_add_90 {G : kG} {X : kX} {T : List kT} {h0 : kH} (hR : k_R G M_X6_add X T 0 0 none h0) (s0 : Int32) (h : kH) (e : p_X6_add_90 s0 h = some h0) : V G M_X6_add X T 0 0 90 [some (rv (6, 99) 134), none, none, none] [iv s0, rv (6, 99) 134] h := by
  unfold p_X6_add_90 at e
  refine V_putI 46 rfl fi_RX6_33 ?_
  refine le_V (P := fun h4 => V G M_X6_add X T 0 0 93 [some (rv (6, 99) 134), none, none, none] [] h4) e (fun h4 e => ?_)
  refine V_aload_n 47 rfl rfl ?_
  refine V_dup 48 rfl nj_r ?_
  refine V_getI 49 rfl fi_RX6_9 ?_
  refine V_iconst (nI 1) 50 rfl ic_1 ?_
  refine V_iadd 51 rfl ?_
  refine V_putI 52 rfl fi_RX6_9 ?_
  refine le_V (P := fun h5 => V G M_X6_add X T 0 0 103 [some (rv (6, 99) 134), none, none, none] [] h5) e (fun h5 e => ?_)
  cases e
  exact V_vret 53 rfl hR rfl
set_option maxHeartbeats 4000000 in
theorem w_X6_add_70 {G : kG} {X : kX} {T : List kT} {h0 : kH} (hR : k_R G M_X6_add X T 0 0 none h0) (x2 : Int32) (x3 : Int32) (s0 : Int32) (h : kH) (e : p_X6_add_70 x2 x3 s0 h = some h0) : V G M_X6_add X T 0 0 70 [some (rv (6, 99) 134), none, some (iv x2), some (iv x3)] [iv s0, rv (6, 99) 134] h := by
  unfold p_X6_add_70 at e
  refine V_putI 36 rfl fi_RX6_30 ?_
  refine le_V (P := fun h3 => V G M_X6_add X T 0 0 73 [some (rv (6, 99) 134), none, some (iv x2), some (iv x3)] [] h3) e (fun h3 e => ?_)
  refine V_aload_n 37 rfl rfl ?_
  refine V_iload_n 38 rfl rfl ?_
  rcases if_e e with ⟨c39, e⟩ | ⟨c39, e⟩
  · refine V_if_eq 82 39 rfl (by decide +kernel) (fun _ => ?_) (fun q => absurd c39 q) 
    refine V_aload_n 42 rfl rfl ?_
    refine V_getI 43 rfl fi_RX6_33 ?_
    refine V_iload_n 44 rfl rfl ?_
    refine V_mmax 45 rfl lm_RX6_27 mmax_1 mmax_2 mmax_3 ⟨Nat.le_of_ble_eq_true rfl, Nat.le_of_ble_eq_true rfl⟩ ⟨Nat.zero_le _, Nat.zero_le _⟩ ?_
    refine V_msk [true, false, false, false] (lc' := [some (rv (6, 99) 134), none, none, none]) rfl ?_
    exact w_X6_add_90 hR (if (h3 134 4) < x2 then x2 else (h3 134 4)) h3 e
  · refine V_if_eq 82 39 rfl (by decide +kernel) (fun q => absurd q c39) (fun _ => ?_)
    refine V_iload_n 40 rfl rfl ?_
    refine V_goto 90 41 rfl (by decide +kernel) ?_
    refine V_msk [true, false, false, false] (lc' := [some (rv (6, 99) 134), none, none, none]) rfl ?_
    exact w_X6_add_90 hR x2 h3 e
set_option maxHeartbeats 4000000 in
theorem w_X6_add_50 {G : kG} {X : kX} {T : List kT} {h0 : kH} (hR : k_R G M_X6_add X T 0 0 none h0) (x2 : Int32) (x3 : Int32) (s0 : Int32) (h : kH) (e : p_X6_add_50 x2 x3 s0 h = some h0) : V G M_X6_add X T 0 0 50 [some (rv (6, 99) 134), none, some (iv x2), some (iv x3)] [iv s0, rv (6, 99) 134] h := by
  unfold p_X6_add_50 at e
  refine V_putI 26 rfl fi_RX6_24 ?_
  refine le_V (P := fun h2 => V G M_X6_add X T 0 0 53 [some (rv (6, 99) 134), none, some (iv x2), some (iv x3)] [] h2) e (fun h2 e => ?_)
  refine V_aload_n 27 rfl rfl ?_
  refine V_iload_n 28 rfl rfl ?_
  rcases if_e e with ⟨c29, e⟩ | ⟨c29, e⟩
  · refine V_if_eq 62 29 rfl (by decide +kernel) (fun _ => ?_) (fun q => absurd c29 q) 
    refine V_aload_n 32 rfl rfl ?_
    refine V_getI 33 rfl fi_RX6_30 ?_
    refine V_iload_n 34 rfl rfl ?_
    refine V_mmin 35 rfl lm_RX6_18 mmin_1 mmin_2 mmin_3 ⟨Nat.le_of_ble_eq_true rfl, Nat.le_of_ble_eq_true rfl⟩ ⟨Nat.zero_le _, Nat.zero_le _⟩ ?_
    refine V_msk [true, false, true, true] (lc' := [some (rv (6, 99) 134), none, some (iv x2), some (iv x3)]) rfl ?_
    exact w_X6_add_70 hR x2 x3 (if x2 < (h2 134 3) then x2 else (h2 134 3)) h2 e
  · refine V_if_eq 62 29 rfl (by decide +kernel) (fun q => absurd q c29) (fun _ => ?_)
    refine V_iload_n 30 rfl rfl ?_
    refine V_goto 70 31 rfl (by decide +kernel) ?_
    refine V_msk [true, false, true, true] (lc' := [some (rv (6, 99) 134), none, some (iv x2), some (iv x3)]) rfl ?_
    exact w_X6_add_70 hR x2 x3 x2 h2 e
set_option maxHeartbeats 4000000 in
theorem w_X6_add_30 {G : kG} {X : kX} {T : List kT} {h0 : kH} (hR : k_R G M_X6_add X T 0 0 none h0) (x1 : Int32) (x2 : Int32) (x3 : Int32) (s0 : Int32) (h : kH) (e : p_X6_add_30 x1 x2 x3 s0 h = some h0) : V G M_X6_add X T 0 0 30 [some (rv (6, 99) 134), some (iv x1), some (iv x2), some (iv x3)] [iv s0, rv (6, 99) 134] h := by
  unfold p_X6_add_30 at e
  refine V_putI 16 rfl fi_RX6_15 ?_
  refine le_V (P := fun h1 => V G M_X6_add X T 0 0 33 [some (rv (6, 99) 134), some (iv x1), some (iv x2), some (iv x3)] [] h1) e (fun h1 e => ?_)
  refine V_aload_n 17 rfl rfl ?_
  refine V_iload_n 18 rfl rfl ?_
  rcases if_e e with ⟨c19, e⟩ | ⟨c19, e⟩
  · refine V_if_eq 42 19 rfl (by decide +kernel) (fun _ => ?_) (fun q => absurd c19 q) 
    refine V_aload_n 22 rfl rfl ?_
    refine V_getI 23 rfl fi_RX6_24 ?_
    refine V_iload_n 24 rfl rfl ?_
    refine V_mmax 25 rfl lm_RX6_27 mmax_1 mmax_2 mmax_3 ⟨Nat.le_of_ble_eq_true rfl, Nat.le_of_ble_eq_true rfl⟩ ⟨Nat.zero_le _, Nat.zero_le _⟩ ?_
    refine V_msk [true, false, true, true] (lc' := [some (rv (6, 99) 134), none, some (iv x2), some (iv x3)]) rfl ?_
    exact w_X6_add_50 hR x2 x3 (if (h1 134 2) < x1 then x1 else (h1 134 2)) h1 e
  · refine V_if_eq 42 19 rfl (by decide +kernel) (fun q => absurd q c19) (fun _ => ?_)
    refine V_iload_n 20 rfl rfl ?_
    refine V_goto 50 21 rfl (by decide +kernel) ?_
    refine V_msk [true, false, true, true] (lc' := [some (rv (6, 99) 134), none, some (iv x2), some (iv x3)]) rfl ?_
    exact w_X6_add_50 hR x2 x3 x1 h1 e
set_option maxHeartbeats 4000000 in
theorem w_X6_add_12 {G : kG} {X : kX} {T : List kT} {h0 : kH} (hR : k_R G M_X6_add X T 0 0 none h0) (x1 : Int32) (x2 : Int32) (s0 : Int32) (h : kH) (e : p_X6_add_12 x1 x2 s0 h = some h0) : V G M_X6_add X T 0 0 12 [some (rv (6, 99) 134), some (iv x1), some (iv x2), none] [iv s0] h := by
  unfold p_X6_add_12 at e
  refine V_istore_n 6 rfl (Nat.le_of_ble_eq_true rfl) rfl ?_
  show V G M_X6_add X T 0 0 13 [some (rv (6, 99) 134), some (iv x1), some (iv x2), some (iv s0)] [] h
  refine V_aload_n 7 rfl rfl ?_
  refine V_iload_n 8 rfl rfl ?_
  rcases if_e e with ⟨c9, e⟩ | ⟨c9, e⟩
  · refine V_if_eq 22 9 rfl (by decide +kernel) (fun _ => ?_) (fun q => absurd c9 q) 
    refine V_aload_n 12 rfl rfl ?_
    refine V_getI 13 rfl fi_RX6_15 ?_
    refine V_iload_n 14 rfl rfl ?_
    refine V_mmin 15 rfl lm_RX6_18 mmin_1 mmin_2 mmin_3 ⟨Nat.le_of_ble_eq_true rfl, Nat.le_of_ble_eq_true rfl⟩ ⟨Nat.zero_le _, Nat.zero_le _⟩ ?_
    refine V_msk [true, true, true, true] (lc' := [some (rv (6, 99) 134), some (iv x1), some (iv x2), some (iv s0)]) rfl ?_
    exact w_X6_add_30 hR x1 x2 s0 (if x1 < (h 134 1) then x1 else (h 134 1)) h e
  · refine V_if_eq 22 9 rfl (by decide +kernel) (fun q => absurd q c9) (fun _ => ?_)
    refine V_iload_n 10 rfl rfl ?_
    refine V_goto 30 11 rfl (by decide +kernel) ?_
    refine V_msk [true, true, true, true] (lc' := [some (rv (6, 99) 134), some (iv x1), some (iv x2), some (iv s0)]) rfl ?_
    exact w_X6_add_30 hR x1 x2 s0 x1 h e
set_option maxHeartbeats 4000000 in
theorem c_X6_add {G : kG} {T : List kT} {x1 : Int32} {x2 : Int32} {h : kH} {h0 : kH} (e : p_X6_add x1 x2 h = some h0) : k_C G M_X6_add T [rv (6, 99) 134, iv x1, iv x2] h none h0 := by
  refine k_C_of 1 (by decide +kernel) rfl tb_X6_add rfl (fun X hR => ?_)
  show V G M_X6_add X T 0 0 0 [some (rv (6, 99) 134), some (iv x1), some (iv x2), none] [] h
  unfold p_X6_add at e
  refine V_aload_n 0 rfl rfl ?_
  refine V_getI 1 rfl fi_RX6_9 ?_
  rcases if_e e with ⟨c2, e⟩ | ⟨c2, e⟩
  · refine V_if_ne 11 2 rfl (by decide +kernel) (fun q => absurd c2 q) (fun _ => ?_)
    refine V_iconst (nI 1) 3 rfl ic_1 ?_
    refine V_goto 12 4 rfl (by decide +kernel) ?_
    refine V_msk [true, true, true, false] (lc' := [some (rv (6, 99) 134), some (iv x1), some (iv x2), none]) rfl ?_
    exact w_X6_add_12 hR x1 x2 (nI 1) h e
  · refine V_if_ne 11 2 rfl (by decide +kernel) (fun _ => ?_) (fun q => absurd q c2) 
    refine V_iconst (nI 0) 5 rfl ic_0 ?_
    refine V_msk [true, true, true, false] (lc' := [some (rv (6, 99) 134), some (iv x1), some (iv x2), none]) rfl ?_
    exact w_X6_add_12 hR x1 x2 (nI 0) h e
set_option maxHeartbeats 4000000 in
theorem c_X6_told {G : kG} {T : List kT} {x1 : Int32} {h : kH} {r0 : Int32} {h0 : kH} (e : p_X6_told x1 h = some (r0, h0)) : k_C G M_X6_told T [rv (6, 99) 134, iv x1] h (some (iv r0)) h0 := by
  refine k_C_of 0 (by decide +kernel) rfl tb_X6_told rfl (fun X hR => ?_)
  show V G M_X6_told X T 0 0 0 [some (rv (6, 99) 134), some (iv x1)] [] h
  unfold p_X6_told at e
  refine V_iload_n 0 rfl rfl ?_
  rcases if_e e with ⟨c1, e⟩ | ⟨c1, e⟩
  · refine V_if_ne 9 1 rfl (by decide +kernel) (fun q => absurd c1 q) (fun _ => ?_)
    refine V_aload_n 2 rfl rfl ?_
    refine V_getI 3 rfl fi_RX6_9 ?_
    cases e
    exact V_iret 4 rfl hR rfl
  · refine V_if_ne 9 1 rfl (by decide +kernel) (fun _ => ?_) (fun q => absurd q c1) 
    refine V_aload_n 5 rfl rfl ?_
    refine V_getI 6 rfl fi_RX6_9 ?_
    rcases if_e e with ⟨c7, e⟩ | ⟨c7, e⟩
    · refine V_if_ne 19 7 rfl (by decide +kernel) (fun q => absurd c7 q) (fun _ => ?_)
      refine V_bipush (-4 : Int32) 8 rfl bp_m4 ?_
      cases e
      exact V_iret 9 rfl hR rfl
    · refine V_if_ne 19 7 rfl (by decide +kernel) (fun _ => ?_) (fun q => absurd q c7) 
      refine V_iload_n 10 rfl rfl ?_
      rcases if_e e with ⟨c1, e⟩ | ⟨c1, e⟩
      · refine V_tab 48 11 rfl rfl (off := 28) (by rw [c1]; decide +kernel) (by decide +kernel) ?_
        refine V_aload_n 12 rfl rfl ?_
        refine V_getI 13 rfl fi_RX6_15 ?_
        cases e
        exact V_iret 14 rfl hR rfl
      rcases if_e e with ⟨c2, e⟩ | ⟨c2, e⟩
      · refine V_tab 53 11 rfl rfl (off := 33) (by rw [c2]; decide +kernel) (by decide +kernel) ?_
        refine V_aload_n 15 rfl rfl ?_
        refine V_getI 16 rfl fi_RX6_24 ?_
        cases e
        exact V_iret 17 rfl hR rfl
      rcases if_e e with ⟨c3, e⟩ | ⟨c3, e⟩
      · refine V_tab 58 11 rfl rfl (off := 38) (by rw [c3]; decide +kernel) (by decide +kernel) ?_
        refine V_aload_n 18 rfl rfl ?_
        refine V_getI 19 rfl fi_RX6_30 ?_
        cases e
        exact V_iret 20 rfl hR rfl
      refine V_tab 63 11 rfl rfl (tsel_d [1, 2, 3] (List.forall_mem_cons.mpr ⟨c1, List.forall_mem_cons.mpr ⟨c2, List.forall_mem_cons.mpr ⟨c3, fun k hk => by cases hk⟩⟩⟩) (by decide +kernel)) (by decide +kernel) ?_
      refine V_aload_n 21 rfl rfl ?_
      refine V_getI 22 rfl fi_RX6_33 ?_
      cases e
      exact V_iret 23 rfl hR rfl
end
