section
-- ===== PART A: goes FIRST, ahead of the names: the tables' words, and 'selects' of the private methods out of them =====
/-- a private method of a class that the tables say can be made, by its rows of tables_1 -/
def lw_okq (q : MethodName × Nat) : Prop := (q.1.cls ≠ "java/lang/invoke/MethodHandle" ∧ q.1.cls ≠ "java/lang/invoke/VarHandle") ∧ Cond.instantiable q.1.cls q.2 ∈ tables_1 ∧ Cond.privateMethod q.1 ∈ tables_1 ∧ Cond.instanceMethod q.1 ∈ tables_1
theorem lw_p0 : lw_okq (⟨"PotBonfire$Rules", "setDefaults", "()V"⟩, 10) := ⟨⟨by decide +kernel, by decide +kernel⟩, List.mem_of_getElem? (i := 27) (by decide +kernel), List.mem_of_getElem? (i := 33) (by decide +kernel), List.mem_of_getElem? (i := 34) (by decide +kernel)⟩
theorem lw_p1 : lw_okq (⟨"PotBonfire$Rules", "setKind", "(III)V"⟩, 10) := ⟨⟨by decide +kernel, by decide +kernel⟩, List.mem_of_getElem? (i := 27) (by decide +kernel), List.mem_of_getElem? (i := 37) (by decide +kernel), List.mem_of_getElem? (i := 38) (by decide +kernel)⟩
theorem lw_p2 : lw_okq (⟨"PotBonfire$Plan", "forget", "()V"⟩, 6) := ⟨⟨by decide +kernel, by decide +kernel⟩, List.mem_of_getElem? (i := 21) (by decide +kernel), List.mem_of_getElem? (i := 179) (by decide +kernel), List.mem_of_getElem? (i := 180) (by decide +kernel)⟩
theorem lw_p3 : lw_okq (⟨"PotBonfire$Fire", "clear", "()V"⟩, 6) := ⟨⟨by decide +kernel, by decide +kernel⟩, List.mem_of_getElem? (i := 91) (by decide +kernel), List.mem_of_getElem? (i := 184) (by decide +kernel), List.mem_of_getElem? (i := 185) (by decide +kernel)⟩
theorem lw_p4 : lw_okq (⟨"PotBonfire$Plan", "layOn", "(LPotBonfire$Rules;LPotBonfire$Heap;)V"⟩, 6) := ⟨⟨by decide +kernel, by decide +kernel⟩, List.mem_of_getElem? (i := 21) (by decide +kernel), List.mem_of_getElem? (i := 267) (by decide +kernel), List.mem_of_getElem? (i := 268) (by decide +kernel)⟩
theorem lw_p5 : lw_okq (⟨"PotBonfire$Rules", "copyFrom", "(LPotBonfire$Rules;)V"⟩, 10) := ⟨⟨by decide +kernel, by decide +kernel⟩, List.mem_of_getElem? (i := 27) (by decide +kernel), List.mem_of_getElem? (i := 271) (by decide +kernel), List.mem_of_getElem? (i := 272) (by decide +kernel)⟩
theorem lw_p6 : lw_okq (⟨"PotBonfire$Fire", "copyCell", "(ILPotBonfire$Fire;I)V"⟩, 6) := ⟨⟨by decide +kernel, by decide +kernel⟩, List.mem_of_getElem? (i := 91) (by decide +kernel), List.mem_of_getElem? (i := 275) (by decide +kernel), List.mem_of_getElem? (i := 276) (by decide +kernel)⟩
theorem lw_p7 : lw_okq (⟨"PotBonfire$Pots", "copyFrom", "(LPotBonfire$Pots;)V"⟩, 12) := ⟨⟨by decide +kernel, by decide +kernel⟩, List.mem_of_getElem? (i := 126) (by decide +kernel), List.mem_of_getElem? (i := 279) (by decide +kernel), List.mem_of_getElem? (i := 280) (by decide +kernel)⟩
theorem lw_p8 : lw_okq (⟨"PotBonfire$Plan", "read", "([BI)I"⟩, 6) := ⟨⟨by decide +kernel, by decide +kernel⟩, List.mem_of_getElem? (i := 21) (by decide +kernel), List.mem_of_getElem? (i := 338) (by decide +kernel), List.mem_of_getElem? (i := 339) (by decide +kernel)⟩
theorem lw_p9 : lw_okq (⟨"PotBonfire$Plan", "readNumbers", "([BII)I"⟩, 6) := ⟨⟨by decide +kernel, by decide +kernel⟩, List.mem_of_getElem? (i := 21) (by decide +kernel), List.mem_of_getElem? (i := 342) (by decide +kernel), List.mem_of_getElem? (i := 343) (by decide +kernel)⟩
theorem lw_p10 : lw_okq (⟨"PotBonfire$Plan", "takeItem", "(B)Z"⟩, 6) := ⟨⟨by decide +kernel, by decide +kernel⟩, List.mem_of_getElem? (i := 21) (by decide +kernel), List.mem_of_getElem? (i := 375) (by decide +kernel), List.mem_of_getElem? (i := 376) (by decide +kernel)⟩
theorem lw_p11 : lw_okq (⟨"PotBonfire$Plan", "takeCell", "()V"⟩, 6) := ⟨⟨by decide +kernel, by decide +kernel⟩, List.mem_of_getElem? (i := 21) (by decide +kernel), List.mem_of_getElem? (i := 379) (by decide +kernel), List.mem_of_getElem? (i := 380) (by decide +kernel)⟩
theorem lw_p12 : lw_okq (⟨"PotBonfire$Plan", "takePot", "()Z"⟩, 6) := ⟨⟨by decide +kernel, by decide +kernel⟩, List.mem_of_getElem? (i := 21) (by decide +kernel), List.mem_of_getElem? (i := 383) (by decide +kernel), List.mem_of_getElem? (i := 384) (by decide +kernel)⟩
theorem lw_p13 : lw_okq (⟨"PotBonfire$Pots", "add", "([I)V"⟩, 12) := ⟨⟨by decide +kernel, by decide +kernel⟩, List.mem_of_getElem? (i := 126) (by decide +kernel), List.mem_of_getElem? (i := 387) (by decide +kernel), List.mem_of_getElem? (i := 388) (by decide +kernel)⟩
theorem lw_p14 : lw_okq (⟨"PotBonfire$Plan", "isLayable", "()Z"⟩, 6) := ⟨⟨by decide +kernel, by decide +kernel⟩, List.mem_of_getElem? (i := 21) (by decide +kernel), List.mem_of_getElem? (i := 396) (by decide +kernel), List.mem_of_getElem? (i := 397) (by decide +kernel)⟩
theorem lw_p15 : lw_okq (⟨"PotBonfire$Pots", "anyTwoInOne", "()Z"⟩, 12) := ⟨⟨by decide +kernel, by decide +kernel⟩, List.mem_of_getElem? (i := 126) (by decide +kernel), List.mem_of_getElem? (i := 400) (by decide +kernel), List.mem_of_getElem? (i := 401) (by decide +kernel)⟩
def lw_privs_1 : List (MethodName × Nat) := [(⟨"PotBonfire$Rules", "setDefaults", "()V"⟩, 10), (⟨"PotBonfire$Rules", "setKind", "(III)V"⟩, 10), (⟨"PotBonfire$Plan", "forget", "()V"⟩, 6), (⟨"PotBonfire$Fire", "clear", "()V"⟩, 6), (⟨"PotBonfire$Plan", "layOn", "(LPotBonfire$Rules;LPotBonfire$Heap;)V"⟩, 6), (⟨"PotBonfire$Rules", "copyFrom", "(LPotBonfire$Rules;)V"⟩, 10), (⟨"PotBonfire$Fire", "copyCell", "(ILPotBonfire$Fire;I)V"⟩, 6), (⟨"PotBonfire$Pots", "copyFrom", "(LPotBonfire$Pots;)V"⟩, 12), (⟨"PotBonfire$Plan", "read", "([BI)I"⟩, 6), (⟨"PotBonfire$Plan", "readNumbers", "([BII)I"⟩, 6), (⟨"PotBonfire$Plan", "takeItem", "(B)Z"⟩, 6), (⟨"PotBonfire$Plan", "takeCell", "()V"⟩, 6), (⟨"PotBonfire$Plan", "takePot", "()Z"⟩, 6), (⟨"PotBonfire$Pots", "add", "([I)V"⟩, 12), (⟨"PotBonfire$Plan", "isLayable", "()Z"⟩, 6), (⟨"PotBonfire$Pots", "anyTwoInOne", "()Z"⟩, 12)]
theorem lw_r1 : ∀ q ∈ lw_privs_1, lw_okq q := List.forall_mem_cons.mpr ⟨lw_p0, List.forall_mem_cons.mpr ⟨lw_p1, List.forall_mem_cons.mpr ⟨lw_p2, List.forall_mem_cons.mpr ⟨lw_p3, List.forall_mem_cons.mpr ⟨lw_p4, List.forall_mem_cons.mpr ⟨lw_p5, List.forall_mem_cons.mpr ⟨lw_p6, List.forall_mem_cons.mpr ⟨lw_p7, List.forall_mem_cons.mpr ⟨lw_p8, List.forall_mem_cons.mpr ⟨lw_p9, List.forall_mem_cons.mpr ⟨lw_p10, List.forall_mem_cons.mpr ⟨lw_p11, List.forall_mem_cons.mpr ⟨lw_p12, List.forall_mem_cons.mpr ⟨lw_p13, List.forall_mem_cons.mpr ⟨lw_p14, List.forall_mem_cons.mpr ⟨lw_p15, fun _ h => absurd h List.not_mem_nil⟩⟩⟩⟩⟩⟩⟩⟩⟩⟩⟩⟩⟩⟩⟩⟩
theorem lw_p16 : lw_okq (⟨"PotBonfire$Rules", "cells", "()I"⟩, 10) := ⟨⟨by decide +kernel, by decide +kernel⟩, List.mem_of_getElem? (i := 27) (by decide +kernel), List.mem_of_getElem? (i := 404) (by decide +kernel), List.mem_of_getElem? (i := 405) (by decide +kernel)⟩
theorem lw_p17 : lw_okq (⟨"PotBonfire", "isCell", "(I)Z"⟩, 14) := ⟨⟨by decide +kernel, by decide +kernel⟩, List.mem_of_getElem? (i := 13) (by decide +kernel), List.mem_of_getElem? (i := 412) (by decide +kernel), List.mem_of_getElem? (i := 413) (by decide +kernel)⟩
theorem lw_p18 : lw_okq (⟨"PotBonfire$Pots", "wholeIn", "(I)I"⟩, 12) := ⟨⟨by decide +kernel, by decide +kernel⟩, List.mem_of_getElem? (i := 126) (by decide +kernel), List.mem_of_getElem? (i := 419) (by decide +kernel), List.mem_of_getElem? (i := 420) (by decide +kernel)⟩
theorem lw_p19 : lw_okq (⟨"PotBonfire", "isPot", "(I)Z"⟩, 14) := ⟨⟨by decide +kernel, by decide +kernel⟩, List.mem_of_getElem? (i := 13) (by decide +kernel), List.mem_of_getElem? (i := 427) (by decide +kernel), List.mem_of_getElem? (i := 428) (by decide +kernel)⟩
theorem lw_p20 : lw_okq (⟨"PotBonfire$Pots", "lossOf", "(ILPotBonfire$Rules;)I"⟩, 12) := ⟨⟨by decide +kernel, by decide +kernel⟩, List.mem_of_getElem? (i := 126) (by decide +kernel), List.mem_of_getElem? (i := 431) (by decide +kernel), List.mem_of_getElem? (i := 432) (by decide +kernel)⟩
theorem lw_p21 : lw_okq (⟨"PotBonfire$Heap", "pass", "(LPotBonfire$Rules;ILPotBonfire$Air;)V"⟩, 3) := ⟨⟨by decide +kernel, by decide +kernel⟩, List.mem_of_getElem? (i := 209) (by decide +kernel), List.mem_of_getElem? (i := 442) (by decide +kernel), List.mem_of_getElem? (i := 443) (by decide +kernel)⟩
theorem lw_p22 : lw_okq (⟨"PotBonfire$Fire", "burn", "(LPotBonfire$Rules;I)V"⟩, 6) := ⟨⟨by decide +kernel, by decide +kernel⟩, List.mem_of_getElem? (i := 91) (by decide +kernel), List.mem_of_getElem? (i := 446) (by decide +kernel), List.mem_of_getElem? (i := 447) (by decide +kernel)⟩
theorem lw_p23 : lw_okq (⟨"PotBonfire$Fire", "burnFuel", "(LPotBonfire$Rules;)V"⟩, 6) := ⟨⟨by decide +kernel, by decide +kernel⟩, List.mem_of_getElem? (i := 91) (by decide +kernel), List.mem_of_getElem? (i := 450) (by decide +kernel), List.mem_of_getElem? (i := 451) (by decide +kernel)⟩
theorem lw_p24 : lw_okq (⟨"PotBonfire$Fire", "spread", "(LPotBonfire$Rules;)V"⟩, 6) := ⟨⟨by decide +kernel, by decide +kernel⟩, List.mem_of_getElem? (i := 91) (by decide +kernel), List.mem_of_getElem? (i := 458) (by decide +kernel), List.mem_of_getElem? (i := 459) (by decide +kernel)⟩
theorem lw_p25 : lw_okq (⟨"PotBonfire$Fire", "flow", "(II)V"⟩, 6) := ⟨⟨by decide +kernel, by decide +kernel⟩, List.mem_of_getElem? (i := 91) (by decide +kernel), List.mem_of_getElem? (i := 465) (by decide +kernel), List.mem_of_getElem? (i := 466) (by decide +kernel)⟩
theorem lw_p26 : lw_okq (⟨"PotBonfire$Fire", "cool", "(LPotBonfire$Rules;I)V"⟩, 6) := ⟨⟨by decide +kernel, by decide +kernel⟩, List.mem_of_getElem? (i := 91) (by decide +kernel), List.mem_of_getElem? (i := 469) (by decide +kernel), List.mem_of_getElem? (i := 470) (by decide +kernel)⟩
theorem lw_p27 : lw_okq (⟨"PotBonfire$Fire", "tell", "(LPotBonfire$Air;I)V"⟩, 6) := ⟨⟨by decide +kernel, by decide +kernel⟩, List.mem_of_getElem? (i := 91) (by decide +kernel), List.mem_of_getElem? (i := 473) (by decide +kernel), List.mem_of_getElem? (i := 474) (by decide +kernel)⟩
theorem lw_p28 : lw_okq (⟨"PotBonfire$Air", "put", "(IIIZ)V"⟩, 1) := ⟨⟨by decide +kernel, by decide +kernel⟩, List.mem_of_getElem? (i := 235) (by decide +kernel), List.mem_of_getElem? (i := 477) (by decide +kernel), List.mem_of_getElem? (i := 478) (by decide +kernel)⟩
theorem lw_p29 : lw_okq (⟨"PotBonfire$Pots", "feel", "(LPotBonfire$Rules;LPotBonfire$Air;I)Z"⟩, 12) := ⟨⟨by decide +kernel, by decide +kernel⟩, List.mem_of_getElem? (i := 126) (by decide +kernel), List.mem_of_getElem? (i := 485) (by decide +kernel), List.mem_of_getElem? (i := 486) (by decide +kernel)⟩
theorem lw_p30 : lw_okq (⟨"PotBonfire$Air", "heatAt", "(II)I"⟩, 1) := ⟨⟨by decide +kernel, by decide +kernel⟩, List.mem_of_getElem? (i := 235) (by decide +kernel), List.mem_of_getElem? (i := 489) (by decide +kernel), List.mem_of_getElem? (i := 490) (by decide +kernel)⟩
theorem lw_p31 : lw_okq (⟨"PotBonfire$Pots", "warm", "(ILPotBonfire$Rules;I)V"⟩, 12) := ⟨⟨by decide +kernel, by decide +kernel⟩, List.mem_of_getElem? (i := 126) (by decide +kernel), List.mem_of_getElem? (i := 493) (by decide +kernel), List.mem_of_getElem? (i := 494) (by decide +kernel)⟩
def lw_privs_2 : List (MethodName × Nat) := [(⟨"PotBonfire$Rules", "cells", "()I"⟩, 10), (⟨"PotBonfire", "isCell", "(I)Z"⟩, 14), (⟨"PotBonfire$Pots", "wholeIn", "(I)I"⟩, 12), (⟨"PotBonfire", "isPot", "(I)Z"⟩, 14), (⟨"PotBonfire$Pots", "lossOf", "(ILPotBonfire$Rules;)I"⟩, 12), (⟨"PotBonfire$Heap", "pass", "(LPotBonfire$Rules;ILPotBonfire$Air;)V"⟩, 3), (⟨"PotBonfire$Fire", "burn", "(LPotBonfire$Rules;I)V"⟩, 6), (⟨"PotBonfire$Fire", "burnFuel", "(LPotBonfire$Rules;)V"⟩, 6), (⟨"PotBonfire$Fire", "spread", "(LPotBonfire$Rules;)V"⟩, 6), (⟨"PotBonfire$Fire", "flow", "(II)V"⟩, 6), (⟨"PotBonfire$Fire", "cool", "(LPotBonfire$Rules;I)V"⟩, 6), (⟨"PotBonfire$Fire", "tell", "(LPotBonfire$Air;I)V"⟩, 6), (⟨"PotBonfire$Air", "put", "(IIIZ)V"⟩, 1), (⟨"PotBonfire$Pots", "feel", "(LPotBonfire$Rules;LPotBonfire$Air;I)Z"⟩, 12), (⟨"PotBonfire$Air", "heatAt", "(II)I"⟩, 1), (⟨"PotBonfire$Pots", "warm", "(ILPotBonfire$Rules;I)V"⟩, 12)]
theorem lw_r2 : ∀ q ∈ lw_privs_2, lw_okq q := List.forall_mem_cons.mpr ⟨lw_p16, List.forall_mem_cons.mpr ⟨lw_p17, List.forall_mem_cons.mpr ⟨lw_p18, List.forall_mem_cons.mpr ⟨lw_p19, List.forall_mem_cons.mpr ⟨lw_p20, List.forall_mem_cons.mpr ⟨lw_p21, List.forall_mem_cons.mpr ⟨lw_p22, List.forall_mem_cons.mpr ⟨lw_p23, List.forall_mem_cons.mpr ⟨lw_p24, List.forall_mem_cons.mpr ⟨lw_p25, List.forall_mem_cons.mpr ⟨lw_p26, List.forall_mem_cons.mpr ⟨lw_p27, List.forall_mem_cons.mpr ⟨lw_p28, List.forall_mem_cons.mpr ⟨lw_p29, List.forall_mem_cons.mpr ⟨lw_p30, List.forall_mem_cons.mpr ⟨lw_p31, fun _ h => absurd h List.not_mem_nil⟩⟩⟩⟩⟩⟩⟩⟩⟩⟩⟩⟩⟩⟩⟩⟩
theorem lw_p32 : lw_okq (⟨"PotBonfire$Pots", "isBursting", "(I)Z"⟩, 12) := ⟨⟨by decide +kernel, by decide +kernel⟩, List.mem_of_getElem? (i := 126) (by decide +kernel), List.mem_of_getElem? (i := 497) (by decide +kernel), List.mem_of_getElem? (i := 498) (by decide +kernel)⟩
theorem lw_p33 : lw_okq (⟨"PotBonfire$Pots", "steamAndHarden", "(ILPotBonfire$Rules;)V"⟩, 12) := ⟨⟨by decide +kernel, by decide +kernel⟩, List.mem_of_getElem? (i := 126) (by decide +kernel), List.mem_of_getElem? (i := 501) (by decide +kernel), List.mem_of_getElem? (i := 502) (by decide +kernel)⟩
theorem lw_p34 : lw_okq (⟨"PotBonfire$Pots", "loseWater", "(II)V"⟩, 12) := ⟨⟨by decide +kernel, by decide +kernel⟩, List.mem_of_getElem? (i := 126) (by decide +kernel), List.mem_of_getElem? (i := 505) (by decide +kernel), List.mem_of_getElem? (i := 506) (by decide +kernel)⟩
theorem lw_p35 : lw_okq (⟨"PotBonfire$Pots", "strike", "(LPotBonfire$Rules;)V"⟩, 12) := ⟨⟨by decide +kernel, by decide +kernel⟩, List.mem_of_getElem? (i := 126) (by decide +kernel), List.mem_of_getElem? (i := 510) (by decide +kernel), List.mem_of_getElem? (i := 511) (by decide +kernel)⟩
theorem lw_p36 : lw_okq (⟨"PotBonfire$Pots", "isBesideBurst", "(ILPotBonfire$Rules;)Z"⟩, 12) := ⟨⟨by decide +kernel, by decide +kernel⟩, List.mem_of_getElem? (i := 126) (by decide +kernel), List.mem_of_getElem? (i := 514) (by decide +kernel), List.mem_of_getElem? (i := 515) (by decide +kernel)⟩
theorem lw_p37 : lw_okq (⟨"PotBonfire$Rules", "areBeside", "(II)Z"⟩, 10) := ⟨⟨by decide +kernel, by decide +kernel⟩, List.mem_of_getElem? (i := 27) (by decide +kernel), List.mem_of_getElem? (i := 518) (by decide +kernel), List.mem_of_getElem? (i := 519) (by decide +kernel)⟩
theorem lw_p38 : lw_okq (⟨"PotBonfire$Air", "blackensAt", "(II)Z"⟩, 1) := ⟨⟨by decide +kernel, by decide +kernel⟩, List.mem_of_getElem? (i := 235) (by decide +kernel), List.mem_of_getElem? (i := 522) (by decide +kernel), List.mem_of_getElem? (i := 523) (by decide +kernel)⟩
theorem lw_p39 : lw_okq (⟨"PotBonfire$Pots", "takeColour", "(IZ)V"⟩, 12) := ⟨⟨by decide +kernel, by decide +kernel⟩, List.mem_of_getElem? (i := 126) (by decide +kernel), List.mem_of_getElem? (i := 526) (by decide +kernel), List.mem_of_getElem? (i := 527) (by decide +kernel)⟩
theorem lw_p40 : lw_okq (⟨"PotBonfire$Pots", "countWhole", "()I"⟩, 12) := ⟨⟨by decide +kernel, by decide +kernel⟩, List.mem_of_getElem? (i := 126) (by decide +kernel), List.mem_of_getElem? (i := 530) (by decide +kernel), List.mem_of_getElem? (i := 531) (by decide +kernel)⟩
theorem lw_p41 : lw_okq (⟨"PotBonfire$Pots", "dryFor", "(I)V"⟩, 12) := ⟨⟨by decide +kernel, by decide +kernel⟩, List.mem_of_getElem? (i := 126) (by decide +kernel), List.mem_of_getElem? (i := 554) (by decide +kernel), List.mem_of_getElem? (i := 555) (by decide +kernel)⟩
theorem lw_p42 : lw_okq (⟨"PotBonfire$Pots", "allWater", "()I"⟩, 12) := ⟨⟨by decide +kernel, by decide +kernel⟩, List.mem_of_getElem? (i := 126) (by decide +kernel), List.mem_of_getElem? (i := 558) (by decide +kernel), List.mem_of_getElem? (i := 559) (by decide +kernel)⟩
theorem lw_p43 : lw_okq (⟨"PotBonfire", "tryRun", "(II)V"⟩, 14) := ⟨⟨by decide +kernel, by decide +kernel⟩, List.mem_of_getElem? (i := 13) (by decide +kernel), List.mem_of_getElem? (i := 572) (by decide +kernel), List.mem_of_getElem? (i := 573) (by decide +kernel)⟩
theorem lw_p44 : lw_okq (⟨"PotBonfire", "burnAfresh", "(II)V"⟩, 14) := ⟨⟨by decide +kernel, by decide +kernel⟩, List.mem_of_getElem? (i := 13) (by decide +kernel), List.mem_of_getElem? (i := 576) (by decide +kernel), List.mem_of_getElem? (i := 577) (by decide +kernel)⟩
theorem lw_p45 : lw_okq (⟨"PotBonfire$Fire", "copyFrom", "(LPotBonfire$Fire;)V"⟩, 6) := ⟨⟨by decide +kernel, by decide +kernel⟩, List.mem_of_getElem? (i := 91) (by decide +kernel), List.mem_of_getElem? (i := 580) (by decide +kernel), List.mem_of_getElem? (i := 581) (by decide +kernel)⟩
theorem lw_p46 : lw_okq (⟨"PotBonfire", "burnFire", "(III)V"⟩, 14) := ⟨⟨by decide +kernel, by decide +kernel⟩, List.mem_of_getElem? (i := 13) (by decide +kernel), List.mem_of_getElem? (i := 585) (by decide +kernel), List.mem_of_getElem? (i := 586) (by decide +kernel)⟩
theorem lw_p47 : lw_okq (⟨"PotBonfire", "passPots", "(II)V"⟩, 14) := ⟨⟨by decide +kernel, by decide +kernel⟩, List.mem_of_getElem? (i := 13) (by decide +kernel), List.mem_of_getElem? (i := 592) (by decide +kernel), List.mem_of_getElem? (i := 593) (by decide +kernel)⟩
def lw_privs_3 : List (MethodName × Nat) := [(⟨"PotBonfire$Pots", "isBursting", "(I)Z"⟩, 12), (⟨"PotBonfire$Pots", "steamAndHarden", "(ILPotBonfire$Rules;)V"⟩, 12), (⟨"PotBonfire$Pots", "loseWater", "(II)V"⟩, 12), (⟨"PotBonfire$Pots", "strike", "(LPotBonfire$Rules;)V"⟩, 12), (⟨"PotBonfire$Pots", "isBesideBurst", "(ILPotBonfire$Rules;)Z"⟩, 12), (⟨"PotBonfire$Rules", "areBeside", "(II)Z"⟩, 10), (⟨"PotBonfire$Air", "blackensAt", "(II)Z"⟩, 1), (⟨"PotBonfire$Pots", "takeColour", "(IZ)V"⟩, 12), (⟨"PotBonfire$Pots", "countWhole", "()I"⟩, 12), (⟨"PotBonfire$Pots", "dryFor", "(I)V"⟩, 12), (⟨"PotBonfire$Pots", "allWater", "()I"⟩, 12), (⟨"PotBonfire", "tryRun", "(II)V"⟩, 14), (⟨"PotBonfire", "burnAfresh", "(II)V"⟩, 14), (⟨"PotBonfire$Fire", "copyFrom", "(LPotBonfire$Fire;)V"⟩, 6), (⟨"PotBonfire", "burnFire", "(III)V"⟩, 14), (⟨"PotBonfire", "passPots", "(II)V"⟩, 14)]
theorem lw_r3 : ∀ q ∈ lw_privs_3, lw_okq q := List.forall_mem_cons.mpr ⟨lw_p32, List.forall_mem_cons.mpr ⟨lw_p33, List.forall_mem_cons.mpr ⟨lw_p34, List.forall_mem_cons.mpr ⟨lw_p35, List.forall_mem_cons.mpr ⟨lw_p36, List.forall_mem_cons.mpr ⟨lw_p37, List.forall_mem_cons.mpr ⟨lw_p38, List.forall_mem_cons.mpr ⟨lw_p39, List.forall_mem_cons.mpr ⟨lw_p40, List.forall_mem_cons.mpr ⟨lw_p41, List.forall_mem_cons.mpr ⟨lw_p42, List.forall_mem_cons.mpr ⟨lw_p43, List.forall_mem_cons.mpr ⟨lw_p44, List.forall_mem_cons.mpr ⟨lw_p45, List.forall_mem_cons.mpr ⟨lw_p46, List.forall_mem_cons.mpr ⟨lw_p47, fun _ h => absurd h List.not_mem_nil⟩⟩⟩⟩⟩⟩⟩⟩⟩⟩⟩⟩⟩⟩⟩⟩
theorem lw_p48 : lw_okq (⟨"PotBonfire$Pots", "countGood", "(LPotBonfire$Rules;)I"⟩, 12) := ⟨⟨by decide +kernel, by decide +kernel⟩, List.mem_of_getElem? (i := 126) (by decide +kernel), List.mem_of_getElem? (i := 597) (by decide +kernel), List.mem_of_getElem? (i := 598) (by decide +kernel)⟩
theorem lw_p49 : lw_okq (⟨"PotBonfire$Pots", "countLost", "()I"⟩, 12) := ⟨⟨by decide +kernel, by decide +kernel⟩, List.mem_of_getElem? (i := 126) (by decide +kernel), List.mem_of_getElem? (i := 602) (by decide +kernel), List.mem_of_getElem? (i := 603) (by decide +kernel)⟩
theorem lw_p50 : lw_okq (⟨"PotBonfire", "greatestHeat", "(II)I"⟩, 14) := ⟨⟨by decide +kernel, by decide +kernel⟩, List.mem_of_getElem? (i := 13) (by decide +kernel), List.mem_of_getElem? (i := 610) (by decide +kernel), List.mem_of_getElem? (i := 611) (by decide +kernel)⟩
theorem lw_p51 : lw_okq (⟨"PotBonfire", "anyBursts", "(I)Z"⟩, 14) := ⟨⟨by decide +kernel, by decide +kernel⟩, List.mem_of_getElem? (i := 13) (by decide +kernel), List.mem_of_getElem? (i := 622) (by decide +kernel), List.mem_of_getElem? (i := 623) (by decide +kernel)⟩
theorem lw_p52 : lw_okq (⟨"PotBonfire$Heap", "copyFrom", "(LPotBonfire$Heap;)V"⟩, 3) := ⟨⟨by decide +kernel, by decide +kernel⟩, List.mem_of_getElem? (i := 209) (by decide +kernel), List.mem_of_getElem? (i := 634) (by decide +kernel), List.mem_of_getElem? (i := 635) (by decide +kernel)⟩
theorem lw_p53 : lw_okq (⟨"PotBonfire$Fire", "shareFuel", "(I)V"⟩, 6) := ⟨⟨by decide +kernel, by decide +kernel⟩, List.mem_of_getElem? (i := 91) (by decide +kernel), List.mem_of_getElem? (i := 640) (by decide +kernel), List.mem_of_getElem? (i := 641) (by decide +kernel)⟩
theorem lw_p54 : lw_okq (⟨"PotBonfire", "goOn", "(III)V"⟩, 14) := ⟨⟨by decide +kernel, by decide +kernel⟩, List.mem_of_getElem? (i := 13) (by decide +kernel), List.mem_of_getElem? (i := 644) (by decide +kernel), List.mem_of_getElem? (i := 645) (by decide +kernel)⟩
theorem lw_p55 : lw_okq (⟨"PotBonfire", "countWays", "(I)I"⟩, 14) := ⟨⟨by decide +kernel, by decide +kernel⟩, List.mem_of_getElem? (i := 13) (by decide +kernel), List.mem_of_getElem? (i := 660) (by decide +kernel), List.mem_of_getElem? (i := 661) (by decide +kernel)⟩
theorem lw_p56 : lw_okq (⟨"PotBonfire", "layWay", "(II)Z"⟩, 14) := ⟨⟨by decide +kernel, by decide +kernel⟩, List.mem_of_getElem? (i := 13) (by decide +kernel), List.mem_of_getElem? (i := 664) (by decide +kernel), List.mem_of_getElem? (i := 665) (by decide +kernel)⟩
theorem lw_p57 : lw_okq (⟨"PotBonfire", "spotInWay", "(III)I"⟩, 14) := ⟨⟨by decide +kernel, by decide +kernel⟩, List.mem_of_getElem? (i := 13) (by decide +kernel), List.mem_of_getElem? (i := 668) (by decide +kernel), List.mem_of_getElem? (i := 669) (by decide +kernel)⟩
theorem lw_p58 : lw_okq (⟨"PotBonfire$Fire", "rakeOff", "()V"⟩, 6) := ⟨⟨by decide +kernel, by decide +kernel⟩, List.mem_of_getElem? (i := 91) (by decide +kernel), List.mem_of_getElem? (i := 677) (by decide +kernel), List.mem_of_getElem? (i := 678) (by decide +kernel)⟩
theorem lw_p59 : lw_okq (⟨"PotBonfire$Fire", "coverAll", "()V"⟩, 6) := ⟨⟨by decide +kernel, by decide +kernel⟩, List.mem_of_getElem? (i := 91) (by decide +kernel), List.mem_of_getElem? (i := 685) (by decide +kernel), List.mem_of_getElem? (i := 686) (by decide +kernel)⟩
theorem lw_p60 : lw_okq (⟨"PotBonfire", "tryEvening", "(II)V"⟩, 14) := ⟨⟨by decide +kernel, by decide +kernel⟩, List.mem_of_getElem? (i := 13) (by decide +kernel), List.mem_of_getElem? (i := 696) (by decide +kernel), List.mem_of_getElem? (i := 697) (by decide +kernel)⟩
theorem lw_p61 : lw_okq (⟨"PotBonfire$Rules", "drawnWind", "(II)I"⟩, 10) := ⟨⟨by decide +kernel, by decide +kernel⟩, List.mem_of_getElem? (i := 27) (by decide +kernel), List.mem_of_getElem? (i := 700) (by decide +kernel), List.mem_of_getElem? (i := 701) (by decide +kernel)⟩
theorem lw_p62 : lw_okq (⟨"PotBonfire$Tally", "clear", "()V"⟩, 5) := ⟨⟨by decide +kernel, by decide +kernel⟩, List.mem_of_getElem? (i := 245) (by decide +kernel), List.mem_of_getElem? (i := 715) (by decide +kernel), List.mem_of_getElem? (i := 716) (by decide +kernel)⟩
theorem lw_p63 : lw_okq (⟨"PotBonfire$Tally", "add", "(II)V"⟩, 5) := ⟨⟨by decide +kernel, by decide +kernel⟩, List.mem_of_getElem? (i := 245) (by decide +kernel), List.mem_of_getElem? (i := 719) (by decide +kernel), List.mem_of_getElem? (i := 720) (by decide +kernel)⟩
def lw_privs_4 : List (MethodName × Nat) := [(⟨"PotBonfire$Pots", "countGood", "(LPotBonfire$Rules;)I"⟩, 12), (⟨"PotBonfire$Pots", "countLost", "()I"⟩, 12), (⟨"PotBonfire", "greatestHeat", "(II)I"⟩, 14), (⟨"PotBonfire", "anyBursts", "(I)Z"⟩, 14), (⟨"PotBonfire$Heap", "copyFrom", "(LPotBonfire$Heap;)V"⟩, 3), (⟨"PotBonfire$Fire", "shareFuel", "(I)V"⟩, 6), (⟨"PotBonfire", "goOn", "(III)V"⟩, 14), (⟨"PotBonfire", "countWays", "(I)I"⟩, 14), (⟨"PotBonfire", "layWay", "(II)Z"⟩, 14), (⟨"PotBonfire", "spotInWay", "(III)I"⟩, 14), (⟨"PotBonfire$Fire", "rakeOff", "()V"⟩, 6), (⟨"PotBonfire$Fire", "coverAll", "()V"⟩, 6), (⟨"PotBonfire", "tryEvening", "(II)V"⟩, 14), (⟨"PotBonfire$Rules", "drawnWind", "(II)I"⟩, 10), (⟨"PotBonfire$Tally", "clear", "()V"⟩, 5), (⟨"PotBonfire$Tally", "add", "(II)V"⟩, 5)]
theorem lw_r4 : ∀ q ∈ lw_privs_4, lw_okq q := List.forall_mem_cons.mpr ⟨lw_p48, List.forall_mem_cons.mpr ⟨lw_p49, List.forall_mem_cons.mpr ⟨lw_p50, List.forall_mem_cons.mpr ⟨lw_p51, List.forall_mem_cons.mpr ⟨lw_p52, List.forall_mem_cons.mpr ⟨lw_p53, List.forall_mem_cons.mpr ⟨lw_p54, List.forall_mem_cons.mpr ⟨lw_p55, List.forall_mem_cons.mpr ⟨lw_p56, List.forall_mem_cons.mpr ⟨lw_p57, List.forall_mem_cons.mpr ⟨lw_p58, List.forall_mem_cons.mpr ⟨lw_p59, List.forall_mem_cons.mpr ⟨lw_p60, List.forall_mem_cons.mpr ⟨lw_p61, List.forall_mem_cons.mpr ⟨lw_p62, List.forall_mem_cons.mpr ⟨lw_p63, fun _ h => absurd h List.not_mem_nil⟩⟩⟩⟩⟩⟩⟩⟩⟩⟩⟩⟩⟩⟩⟩⟩
theorem lw_p64 : lw_okq (⟨"PotBonfire$Tally", "told", "(I)I"⟩, 5) := ⟨⟨by decide +kernel, by decide +kernel⟩, List.mem_of_getElem? (i := 245) (by decide +kernel), List.mem_of_getElem? (i := 725) (by decide +kernel), List.mem_of_getElem? (i := 726) (by decide +kernel)⟩
theorem lw_p65 : lw_okq (⟨"PotBonfire", "keptAt", "(I)LPotBonfire$Heap;"⟩, 14) := ⟨⟨by decide +kernel, by decide +kernel⟩, List.mem_of_getElem? (i := 13) (by decide +kernel), List.mem_of_getElem? (i := 733) (by decide +kernel), List.mem_of_getElem? (i := 734) (by decide +kernel)⟩
theorem lw_p66 : lw_okq (⟨"PotBonfireModel", "begins", "()V"⟩, 20) := ⟨⟨by decide +kernel, by decide +kernel⟩, List.mem_of_getElem? (i := 745) (by decide +kernel), List.mem_of_getElem? (i := 751) (by decide +kernel), List.mem_of_getElem? (i := 752) (by decide +kernel)⟩
theorem lw_p67 : lw_okq (⟨"PotBonfireModel", "takes", "()V"⟩, 20) := ⟨⟨by decide +kernel, by decide +kernel⟩, List.mem_of_getElem? (i := 745) (by decide +kernel), List.mem_of_getElem? (i := 755) (by decide +kernel), List.mem_of_getElem? (i := 756) (by decide +kernel)⟩
theorem lw_p68 : lw_okq (⟨"PotBonfireModel", "cells", "()I"⟩, 20) := ⟨⟨by decide +kernel, by decide +kernel⟩, List.mem_of_getElem? (i := 745) (by decide +kernel), List.mem_of_getElem? (i := 759) (by decide +kernel), List.mem_of_getElem? (i := 760) (by decide +kernel)⟩
theorem lw_p69 : lw_okq (⟨"PotBonfireModel", "isItem", "()Z"⟩, 20) := ⟨⟨by decide +kernel, by decide +kernel⟩, List.mem_of_getElem? (i := 745) (by decide +kernel), List.mem_of_getElem? (i := 840) (by decide +kernel), List.mem_of_getElem? (i := 841) (by decide +kernel)⟩
theorem lw_p70 : lw_okq (⟨"PotBonfireModel", "number", "()I"⟩, 20) := ⟨⟨by decide +kernel, by decide +kernel⟩, List.mem_of_getElem? (i := 745) (by decide +kernel), List.mem_of_getElem? (i := 847) (by decide +kernel), List.mem_of_getElem? (i := 848) (by decide +kernel)⟩
theorem lw_p71 : lw_okq (⟨"PotBonfireModel", "isGood", "(I)Z"⟩, 20) := ⟨⟨by decide +kernel, by decide +kernel⟩, List.mem_of_getElem? (i := 745) (by decide +kernel), List.mem_of_getElem? (i := 854) (by decide +kernel), List.mem_of_getElem? (i := 855) (by decide +kernel)⟩
theorem lw_p72 : lw_okq (⟨"PotBonfireModel", "isIn", "(III)Z"⟩, 20) := ⟨⟨by decide +kernel, by decide +kernel⟩, List.mem_of_getElem? (i := 745) (by decide +kernel), List.mem_of_getElem? (i := 858) (by decide +kernel), List.mem_of_getElem? (i := 859) (by decide +kernel)⟩
theorem lw_p73 : lw_okq (⟨"PotBonfireModel", "isPlaced", "(I)Z"⟩, 20) := ⟨⟨by decide +kernel, by decide +kernel⟩, List.mem_of_getElem? (i := 745) (by decide +kernel), List.mem_of_getElem? (i := 862) (by decide +kernel), List.mem_of_getElem? (i := 863) (by decide +kernel)⟩
theorem lw_p74 : lw_okq (⟨"PotBonfireModel", "isCell", "(I)Z"⟩, 20) := ⟨⟨by decide +kernel, by decide +kernel⟩, List.mem_of_getElem? (i := 745) (by decide +kernel), List.mem_of_getElem? (i := 875) (by decide +kernel), List.mem_of_getElem? (i := 876) (by decide +kernel)⟩
theorem lw_p75 : lw_okq (⟨"PotBonfireModel", "isWhole", "(II)Z"⟩, 20) := ⟨⟨by decide +kernel, by decide +kernel⟩, List.mem_of_getElem? (i := 745) (by decide +kernel), List.mem_of_getElem? (i := 880) (by decide +kernel), List.mem_of_getElem? (i := 881) (by decide +kernel)⟩
theorem lw_p76 : lw_okq (⟨"PotBonfireModel", "isPot", "(I)Z"⟩, 20) := ⟨⟨by decide +kernel, by decide +kernel⟩, List.mem_of_getElem? (i := 745) (by decide +kernel), List.mem_of_getElem? (i := 891) (by decide +kernel), List.mem_of_getElem? (i := 892) (by decide +kernel)⟩
theorem lw_p77 : lw_okq (⟨"PotBonfireModel", "lossOf", "(II)I"⟩, 20) := ⟨⟨by decide +kernel, by decide +kernel⟩, List.mem_of_getElem? (i := 745) (by decide +kernel), List.mem_of_getElem? (i := 895) (by decide +kernel), List.mem_of_getElem? (i := 896) (by decide +kernel)⟩
theorem lw_p78 : lw_okq (⟨"PotBonfireModel", "goes", "(II)V"⟩, 20) := ⟨⟨by decide +kernel, by decide +kernel⟩, List.mem_of_getElem? (i := 745) (by decide +kernel), List.mem_of_getElem? (i := 907) (by decide +kernel), List.mem_of_getElem? (i := 908) (by decide +kernel)⟩
theorem lw_p79 : lw_okq (⟨"PotBonfireModel", "burns", "(I)V"⟩, 20) := ⟨⟨by decide +kernel, by decide +kernel⟩, List.mem_of_getElem? (i := 745) (by decide +kernel), List.mem_of_getElem? (i := 911) (by decide +kernel), List.mem_of_getElem? (i := 912) (by decide +kernel)⟩
def lw_privs_5 : List (MethodName × Nat) := [(⟨"PotBonfire$Tally", "told", "(I)I"⟩, 5), (⟨"PotBonfire", "keptAt", "(I)LPotBonfire$Heap;"⟩, 14), (⟨"PotBonfireModel", "begins", "()V"⟩, 20), (⟨"PotBonfireModel", "takes", "()V"⟩, 20), (⟨"PotBonfireModel", "cells", "()I"⟩, 20), (⟨"PotBonfireModel", "isItem", "()Z"⟩, 20), (⟨"PotBonfireModel", "number", "()I"⟩, 20), (⟨"PotBonfireModel", "isGood", "(I)Z"⟩, 20), (⟨"PotBonfireModel", "isIn", "(III)Z"⟩, 20), (⟨"PotBonfireModel", "isPlaced", "(I)Z"⟩, 20), (⟨"PotBonfireModel", "isCell", "(I)Z"⟩, 20), (⟨"PotBonfireModel", "isWhole", "(II)Z"⟩, 20), (⟨"PotBonfireModel", "isPot", "(I)Z"⟩, 20), (⟨"PotBonfireModel", "lossOf", "(II)I"⟩, 20), (⟨"PotBonfireModel", "goes", "(II)V"⟩, 20), (⟨"PotBonfireModel", "burns", "(I)V"⟩, 20)]
theorem lw_r5 : ∀ q ∈ lw_privs_5, lw_okq q := List.forall_mem_cons.mpr ⟨lw_p64, List.forall_mem_cons.mpr ⟨lw_p65, List.forall_mem_cons.mpr ⟨lw_p66, List.forall_mem_cons.mpr ⟨lw_p67, List.forall_mem_cons.mpr ⟨lw_p68, List.forall_mem_cons.mpr ⟨lw_p69, List.forall_mem_cons.mpr ⟨lw_p70, List.forall_mem_cons.mpr ⟨lw_p71, List.forall_mem_cons.mpr ⟨lw_p72, List.forall_mem_cons.mpr ⟨lw_p73, List.forall_mem_cons.mpr ⟨lw_p74, List.forall_mem_cons.mpr ⟨lw_p75, List.forall_mem_cons.mpr ⟨lw_p76, List.forall_mem_cons.mpr ⟨lw_p77, List.forall_mem_cons.mpr ⟨lw_p78, List.forall_mem_cons.mpr ⟨lw_p79, fun _ h => absurd h List.not_mem_nil⟩⟩⟩⟩⟩⟩⟩⟩⟩⟩⟩⟩⟩⟩⟩⟩
theorem lw_p80 : lw_okq (⟨"PotBonfireModel", "spreads", "(II)V"⟩, 20) := ⟨⟨by decide +kernel, by decide +kernel⟩, List.mem_of_getElem? (i := 745) (by decide +kernel), List.mem_of_getElem? (i := 915) (by decide +kernel), List.mem_of_getElem? (i := 916) (by decide +kernel)⟩
theorem lw_p81 : lw_okq (⟨"PotBonfireModel", "fires", "(II)V"⟩, 20) := ⟨⟨by decide +kernel, by decide +kernel⟩, List.mem_of_getElem? (i := 745) (by decide +kernel), List.mem_of_getElem? (i := 919) (by decide +kernel), List.mem_of_getElem? (i := 920) (by decide +kernel)⟩
theorem lw_p82 : lw_okq (⟨"PotBonfireModel", "strikes", "(I)V"⟩, 20) := ⟨⟨by decide +kernel, by decide +kernel⟩, List.mem_of_getElem? (i := 745) (by decide +kernel), List.mem_of_getElem? (i := 923) (by decide +kernel), List.mem_of_getElem? (i := 924) (by decide +kernel)⟩
theorem lw_p83 : lw_okq (⟨"PotBonfireModel", "isNear", "(II)Z"⟩, 20) := ⟨⟨by decide +kernel, by decide +kernel⟩, List.mem_of_getElem? (i := 745) (by decide +kernel), List.mem_of_getElem? (i := 927) (by decide +kernel), List.mem_of_getElem? (i := 928) (by decide +kernel)⟩
theorem lw_p84 : lw_okq (⟨"PotBonfireModel", "colours", "(II)V"⟩, 20) := ⟨⟨by decide +kernel, by decide +kernel⟩, List.mem_of_getElem? (i := 745) (by decide +kernel), List.mem_of_getElem? (i := 932) (by decide +kernel), List.mem_of_getElem? (i := 933) (by decide +kernel)⟩
theorem lw_p85 : lw_okq (⟨"PotBonfireModel", "dries", "(II)I"⟩, 20) := ⟨⟨by decide +kernel, by decide +kernel⟩, List.mem_of_getElem? (i := 745) (by decide +kernel), List.mem_of_getElem? (i := 958) (by decide +kernel), List.mem_of_getElem? (i := 959) (by decide +kernel)⟩
theorem lw_p86 : lw_okq (⟨"PotBonfireModel", "tries", "()V"⟩, 20) := ⟨⟨by decide +kernel, by decide +kernel⟩, List.mem_of_getElem? (i := 745) (by decide +kernel), List.mem_of_getElem? (i := 969) (by decide +kernel), List.mem_of_getElem? (i := 970) (by decide +kernel)⟩
theorem lw_p87 : lw_okq (⟨"PotBonfireModel", "copies", "(II)V"⟩, 20) := ⟨⟨by decide +kernel, by decide +kernel⟩, List.mem_of_getElem? (i := 745) (by decide +kernel), List.mem_of_getElem? (i := 973) (by decide +kernel), List.mem_of_getElem? (i := 974) (by decide +kernel)⟩
theorem lw_p88 : lw_okq (⟨"PotBonfireModel", "looks", "()V"⟩, 20) := ⟨⟨by decide +kernel, by decide +kernel⟩, List.mem_of_getElem? (i := 745) (by decide +kernel), List.mem_of_getElem? (i := 977) (by decide +kernel), List.mem_of_getElem? (i := 978) (by decide +kernel)⟩
theorem lw_p89 : lw_okq (⟨"PotBonfireModel", "runs", "(II)I"⟩, 20) := ⟨⟨by decide +kernel, by decide +kernel⟩, List.mem_of_getElem? (i := 745) (by decide +kernel), List.mem_of_getElem? (i := 981) (by decide +kernel), List.mem_of_getElem? (i := 982) (by decide +kernel)⟩
theorem lw_p90 : lw_okq (⟨"PotBonfireModel", "good", "(I)I"⟩, 20) := ⟨⟨by decide +kernel, by decide +kernel⟩, List.mem_of_getElem? (i := 745) (by decide +kernel), List.mem_of_getElem? (i := 985) (by decide +kernel), List.mem_of_getElem? (i := 986) (by decide +kernel)⟩
theorem lw_p91 : lw_okq (⟨"PotBonfireModel", "lossed", "(I)I"⟩, 20) := ⟨⟨by decide +kernel, by decide +kernel⟩, List.mem_of_getElem? (i := 745) (by decide +kernel), List.mem_of_getElem? (i := 989) (by decide +kernel), List.mem_of_getElem? (i := 990) (by decide +kernel)⟩
theorem lw_p92 : lw_okq (⟨"PotBonfireModel", "isWay", "(II)Z"⟩, 20) := ⟨⟨by decide +kernel, by decide +kernel⟩, List.mem_of_getElem? (i := 745) (by decide +kernel), List.mem_of_getElem? (i := 1023) (by decide +kernel), List.mem_of_getElem? (i := 1024) (by decide +kernel)⟩
theorem lw_p93 : lw_okq (⟨"PotBonfireModel", "raked", "(III)I"⟩, 20) := ⟨⟨by decide +kernel, by decide +kernel⟩, List.mem_of_getElem? (i := 745) (by decide +kernel), List.mem_of_getElem? (i := 1031) (by decide +kernel), List.mem_of_getElem? (i := 1032) (by decide +kernel)⟩
theorem lw_p94 : lw_okq (⟨"PotBonfireModel", "evenings", "(II)I"⟩, 20) := ⟨⟨by decide +kernel, by decide +kernel⟩, List.mem_of_getElem? (i := 745) (by decide +kernel), List.mem_of_getElem? (i := 1047) (by decide +kernel), List.mem_of_getElem? (i := 1048) (by decide +kernel)⟩
theorem lw_p95 : lw_okq (⟨"PotBonfireModel", "wind", "(II)I"⟩, 20) := ⟨⟨by decide +kernel, by decide +kernel⟩, List.mem_of_getElem? (i := 745) (by decide +kernel), List.mem_of_getElem? (i := 1051) (by decide +kernel), List.mem_of_getElem? (i := 1052) (by decide +kernel)⟩
def lw_privs_6 : List (MethodName × Nat) := [(⟨"PotBonfireModel", "spreads", "(II)V"⟩, 20), (⟨"PotBonfireModel", "fires", "(II)V"⟩, 20), (⟨"PotBonfireModel", "strikes", "(I)V"⟩, 20), (⟨"PotBonfireModel", "isNear", "(II)Z"⟩, 20), (⟨"PotBonfireModel", "colours", "(II)V"⟩, 20), (⟨"PotBonfireModel", "dries", "(II)I"⟩, 20), (⟨"PotBonfireModel", "tries", "()V"⟩, 20), (⟨"PotBonfireModel", "copies", "(II)V"⟩, 20), (⟨"PotBonfireModel", "looks", "()V"⟩, 20), (⟨"PotBonfireModel", "runs", "(II)I"⟩, 20), (⟨"PotBonfireModel", "good", "(I)I"⟩, 20), (⟨"PotBonfireModel", "lossed", "(I)I"⟩, 20), (⟨"PotBonfireModel", "isWay", "(II)Z"⟩, 20), (⟨"PotBonfireModel", "raked", "(III)I"⟩, 20), (⟨"PotBonfireModel", "evenings", "(II)I"⟩, 20), (⟨"PotBonfireModel", "wind", "(II)I"⟩, 20)]
theorem lw_r6 : ∀ q ∈ lw_privs_6, lw_okq q := List.forall_mem_cons.mpr ⟨lw_p80, List.forall_mem_cons.mpr ⟨lw_p81, List.forall_mem_cons.mpr ⟨lw_p82, List.forall_mem_cons.mpr ⟨lw_p83, List.forall_mem_cons.mpr ⟨lw_p84, List.forall_mem_cons.mpr ⟨lw_p85, List.forall_mem_cons.mpr ⟨lw_p86, List.forall_mem_cons.mpr ⟨lw_p87, List.forall_mem_cons.mpr ⟨lw_p88, List.forall_mem_cons.mpr ⟨lw_p89, List.forall_mem_cons.mpr ⟨lw_p90, List.forall_mem_cons.mpr ⟨lw_p91, List.forall_mem_cons.mpr ⟨lw_p92, List.forall_mem_cons.mpr ⟨lw_p93, List.forall_mem_cons.mpr ⟨lw_p94, List.forall_mem_cons.mpr ⟨lw_p95, fun _ h => absurd h List.not_mem_nil⟩⟩⟩⟩⟩⟩⟩⟩⟩⟩⟩⟩⟩⟩⟩⟩
theorem lw_p96 : lw_okq (⟨"PotBonfireModel", "found", "(II)V"⟩, 20) := ⟨⟨by decide +kernel, by decide +kernel⟩, List.mem_of_getElem? (i := 745) (by decide +kernel), List.mem_of_getElem? (i := 1067) (by decide +kernel), List.mem_of_getElem? (i := 1068) (by decide +kernel)⟩
def lw_privs_7 : List (MethodName × Nat) := [(⟨"PotBonfireModel", "found", "(II)V"⟩, 20)]
theorem lw_r7 : ∀ q ∈ lw_privs_7, lw_okq q := List.forall_mem_cons.mpr ⟨lw_p96, fun _ h => absurd h List.not_mem_nil⟩
def lw_privs : List (MethodName × Nat) := lw_privs_1 ++ (lw_privs_2 ++ (lw_privs_3 ++ (lw_privs_4 ++ (lw_privs_5 ++ (lw_privs_6 ++ (lw_privs_7))))))
def lw_tbl : List Cond := k2_sels lw_privs ++ tables_1
theorem lw_privs_ok : ∀ q ∈ lw_privs, lw_okq q := by
  show ∀ q ∈ lw_privs_1 ++ (lw_privs_2 ++ (lw_privs_3 ++ (lw_privs_4 ++ (lw_privs_5 ++ (lw_privs_6 ++ (lw_privs_7)))))), lw_okq q
  exact List.forall_mem_append.mpr ⟨lw_r1, List.forall_mem_append.mpr ⟨lw_r2, List.forall_mem_append.mpr ⟨lw_r3, List.forall_mem_append.mpr ⟨lw_r4, List.forall_mem_append.mpr ⟨lw_r5, List.forall_mem_append.mpr ⟨lw_r6, lw_r7⟩⟩⟩⟩⟩⟩
def RX0 : String := "PotBonfire$Air"
def TX0 : u_T := fun k => match k with
  | _ => ("PotBonfire$Air", "felt", "[I", true)
def tyX0 : Nat → FieldType := fun k => match k with
  | _ => .array .int
theorem nmX0 : ∀ a, a < 1 → ∀ b, b < 1 → a ≠ b → (TX0 a).2.1 ≠ (TX0 b).2.1 := by decide +kernel
theorem tyX0_ok : ∀ k, k < 1 → parseFieldDescriptor (TX0 k).2.2.1 = some (tyX0 k) := by decide +kernel
abbrev cX0_init : ByteArray := prog_2_method_1_code
def yX0_init : MethodName := ⟨RX0, "<init>", "()V"⟩
abbrev cX0_put : ByteArray := prog_2_method_2_code
def yX0_put : MethodName := ⟨RX0, "put", "(IIIZ)V"⟩
abbrev cX0_heatAt : ByteArray := prog_2_method_3_code
def yX0_heatAt : MethodName := ⟨RX0, "heatAt", "(II)I"⟩
abbrev cX0_blackensAt : ByteArray := prog_2_method_4_code
def yX0_blackensAt : MethodName := ⟨RX0, "blackensAt", "(II)Z"⟩
abbrev cX0_place : ByteArray := prog_2_method_5_code
def yX0_place : MethodName := ⟨RX0, "place", "(II)I"⟩
def RX1 : String := "PotBonfire$Fire"
def TX1 : u_T := fun k => match k with
  | 0 => ("PotBonfire$Fire", "heat", "[I", true)
  | 1 => ("PotBonfire$Fire", "fuel", "[I", true)
  | 2 => ("PotBonfire$Fire", "kind", "[I", true)
  | 3 => ("PotBonfire$Fire", "lit", "[Z", true)
  | 4 => ("PotBonfire$Fire", "covered", "[Z", true)
  | _ => ("PotBonfire$Fire", "gain", "[I", true)
def tyX1 : Nat → FieldType := fun k => match k with
  | 0 => .array .int
  | 1 => .array .int
  | 2 => .array .int
  | 3 => .array .boolean
  | 4 => .array .boolean
  | _ => .array .int
theorem nmX1 : ∀ a, a < 6 → ∀ b, b < 6 → a ≠ b → (TX1 a).2.1 ≠ (TX1 b).2.1 := by decide +kernel
theorem tyX1_ok : ∀ k, k < 6 → parseFieldDescriptor (TX1 k).2.2.1 = some (tyX1 k) := by decide +kernel
abbrev cX1_init : ByteArray := prog_3_method_1_code
def yX1_init : MethodName := ⟨RX1, "<init>", "()V"⟩
abbrev cX1_clear : ByteArray := prog_3_method_2_code
def yX1_clear : MethodName := ⟨RX1, "clear", "()V"⟩
abbrev cX1_copyFrom : ByteArray := prog_3_method_3_code
def yX1_copyFrom : MethodName := ⟨RX1, "copyFrom", "(LPotBonfire$Fire;)V"⟩
abbrev cX1_copyCell : ByteArray := prog_3_method_4_code
def yX1_copyCell : MethodName := ⟨RX1, "copyCell", "(ILPotBonfire$Fire;I)V"⟩
abbrev cX1_burn : ByteArray := prog_3_method_5_code
def yX1_burn : MethodName := ⟨RX1, "burn", "(LPotBonfire$Rules;I)V"⟩
abbrev cX1_burnFuel : ByteArray := prog_3_method_6_code
def yX1_burnFuel : MethodName := ⟨RX1, "burnFuel", "(LPotBonfire$Rules;)V"⟩
abbrev cX1_spread : ByteArray := prog_3_method_7_code
def yX1_spread : MethodName := ⟨RX1, "spread", "(LPotBonfire$Rules;)V"⟩
abbrev cX1_flow : ByteArray := prog_3_method_8_code
def yX1_flow : MethodName := ⟨RX1, "flow", "(II)V"⟩
abbrev cX1_cool : ByteArray := prog_3_method_9_code
def yX1_cool : MethodName := ⟨RX1, "cool", "(LPotBonfire$Rules;I)V"⟩
abbrev cX1_tell : ByteArray := prog_3_method_10_code
def yX1_tell : MethodName := ⟨RX1, "tell", "(LPotBonfire$Air;I)V"⟩
abbrev cX1_shareFuel : ByteArray := prog_3_method_11_code
def yX1_shareFuel : MethodName := ⟨RX1, "shareFuel", "(I)V"⟩
abbrev cX1_rakeOff : ByteArray := prog_3_method_12_code
def yX1_rakeOff : MethodName := ⟨RX1, "rakeOff", "()V"⟩
abbrev cX1_coverAll : ByteArray := prog_3_method_13_code
def yX1_coverAll : MethodName := ⟨RX1, "coverAll", "()V"⟩
def RX2 : String := "PotBonfire$Heap"
def TX2 : u_T := fun k => match k with
  | 0 => ("PotBonfire$Heap", "fire", "LPotBonfire$Fire;", true)
  | 1 => ("PotBonfire$Heap", "pots", "LPotBonfire$Pots;", true)
  | _ => ("PotBonfire$Heap", "gone", "I", false)
def tyX2 : Nat → FieldType := fun k => match k with
  | 0 => .object "PotBonfire$Fire"
  | 1 => .object "PotBonfire$Pots"
  | _ => .int
theorem nmX2 : ∀ a, a < 3 → ∀ b, b < 3 → a ≠ b → (TX2 a).2.1 ≠ (TX2 b).2.1 := by decide +kernel
theorem tyX2_ok : ∀ k, k < 3 → parseFieldDescriptor (TX2 k).2.2.1 = some (tyX2 k) := by decide +kernel
abbrev cX2_init : ByteArray := prog_4_method_1_code
def yX2_init : MethodName := ⟨RX2, "<init>", "()V"⟩
abbrev cX2_copyFrom : ByteArray := prog_4_method_2_code
def yX2_copyFrom : MethodName := ⟨RX2, "copyFrom", "(LPotBonfire$Heap;)V"⟩
abbrev cX2_pass : ByteArray := prog_4_method_3_code
def yX2_pass : MethodName := ⟨RX2, "pass", "(LPotBonfire$Rules;ILPotBonfire$Air;)V"⟩
def RX3 : String := "PotBonfire$Plan"
def TX3 : u_T := fun k => match k with
  | 0 => ("PotBonfire$Plan", "told", "LPotBonfire$Rules;", true)
  | 1 => ("PotBonfire$Plan", "ground", "LPotBonfire$Fire;", true)
  | 2 => ("PotBonfire$Plan", "pots", "LPotBonfire$Pots;", true)
  | 3 => ("PotBonfire$Plan", "potX", "[I", true)
  | 4 => ("PotBonfire$Plan", "potY", "[I", true)
  | _ => ("PotBonfire$Plan", "numbers", "[I", true)
def tyX3 : Nat → FieldType := fun k => match k with
  | 0 => .object "PotBonfire$Rules"
  | 1 => .object "PotBonfire$Fire"
  | 2 => .object "PotBonfire$Pots"
  | 3 => .array .int
  | 4 => .array .int
  | _ => .array .int
theorem nmX3 : ∀ a, a < 6 → ∀ b, b < 6 → a ≠ b → (TX3 a).2.1 ≠ (TX3 b).2.1 := by decide +kernel
theorem tyX3_ok : ∀ k, k < 6 → parseFieldDescriptor (TX3 k).2.2.1 = some (tyX3 k) := by decide +kernel
abbrev cX3_init : ByteArray := prog_5_method_1_code
def yX3_init : MethodName := ⟨RX3, "<init>", "()V"⟩
abbrev cX3_forget : ByteArray := prog_5_method_2_code
def yX3_forget : MethodName := ⟨RX3, "forget", "()V"⟩
abbrev cX3_read : ByteArray := prog_5_method_3_code
def yX3_read : MethodName := ⟨RX3, "read", "([BI)I"⟩
abbrev cX3_readNumbers : ByteArray := prog_5_method_4_code
def yX3_readNumbers : MethodName := ⟨RX3, "readNumbers", "([BII)I"⟩
abbrev cX3_boundsOf : ByteArray := prog_5_method_5_code
def yX3_boundsOf : MethodName := ⟨RX3, "boundsOf", "(B)[I"⟩
abbrev cX3_countFigures : ByteArray := prog_5_method_6_code
def yX3_countFigures : MethodName := ⟨RX3, "countFigures", "([BII)I"⟩
abbrev cX3_numberOf : ByteArray := prog_5_method_7_code
def yX3_numberOf : MethodName := ⟨RX3, "numberOf", "([BII)I"⟩
abbrev cX3_takeItem : ByteArray := prog_5_method_8_code
def yX3_takeItem : MethodName := ⟨RX3, "takeItem", "(B)Z"⟩
abbrev cX3_takeCell : ByteArray := prog_5_method_9_code
def yX3_takeCell : MethodName := ⟨RX3, "takeCell", "()V"⟩
abbrev cX3_takePot : ByteArray := prog_5_method_10_code
def yX3_takePot : MethodName := ⟨RX3, "takePot", "()Z"⟩
abbrev cX3_isLayable : ByteArray := prog_5_method_11_code
def yX3_isLayable : MethodName := ⟨RX3, "isLayable", "()Z"⟩
abbrev cX3_layOn : ByteArray := prog_5_method_12_code
def yX3_layOn : MethodName := ⟨RX3, "layOn", "(LPotBonfire$Rules;LPotBonfire$Heap;)V"⟩
def RX4 : String := "PotBonfire$Pots"
def TX4 : u_T := fun k => match k with
  | 0 => ("PotBonfire$Pots", "count", "I", false)
  | 1 => ("PotBonfire$Pots", "cell", "[I", true)
  | 2 => ("PotBonfire$Pots", "thick", "[I", true)
  | 3 => ("PotBonfire$Pots", "water", "[I", true)
  | 4 => ("PotBonfire$Pots", "grit", "[I", true)
  | 5 => ("PotBonfire$Pots", "strength", "[I", true)
  | 6 => ("PotBonfire$Pots", "warmth", "[I", true)
  | 7 => ("PotBonfire$Pots", "hardened", "[I", true)
  | 8 => ("PotBonfire$Pots", "state", "[I", true)
  | 9 => ("PotBonfire$Pots", "colour", "[I", true)
  | 10 => ("PotBonfire$Pots", "wasHot", "[Z", true)
  | _ => ("PotBonfire$Pots", "burstNow", "[Z", true)
def tyX4 : Nat → FieldType := fun k => match k with
  | 0 => .int
  | 1 => .array .int
  | 2 => .array .int
  | 3 => .array .int
  | 4 => .array .int
  | 5 => .array .int
  | 6 => .array .int
  | 7 => .array .int
  | 8 => .array .int
  | 9 => .array .int
  | 10 => .array .boolean
  | _ => .array .boolean
theorem nmX4 : ∀ a, a < 12 → ∀ b, b < 12 → a ≠ b → (TX4 a).2.1 ≠ (TX4 b).2.1 := by decide +kernel
theorem tyX4_ok : ∀ k, k < 12 → parseFieldDescriptor (TX4 k).2.2.1 = some (tyX4 k) := by decide +kernel
abbrev cX4_init : ByteArray := prog_6_method_1_code
def yX4_init : MethodName := ⟨RX4, "<init>", "()V"⟩
abbrev cX4_copyFrom : ByteArray := prog_6_method_2_code
def yX4_copyFrom : MethodName := ⟨RX4, "copyFrom", "(LPotBonfire$Pots;)V"⟩
abbrev cX4_add : ByteArray := prog_6_method_3_code
def yX4_add : MethodName := ⟨RX4, "add", "([I)V"⟩
abbrev cX4_feel : ByteArray := prog_6_method_4_code
def yX4_feel : MethodName := ⟨RX4, "feel", "(LPotBonfire$Rules;LPotBonfire$Air;I)Z"⟩
abbrev cX4_warm : ByteArray := prog_6_method_5_code
def yX4_warm : MethodName := ⟨RX4, "warm", "(ILPotBonfire$Rules;I)V"⟩
abbrev cX4_isBursting : ByteArray := prog_6_method_6_code
def yX4_isBursting : MethodName := ⟨RX4, "isBursting", "(I)Z"⟩
abbrev cX4_steamAndHarden : ByteArray := prog_6_method_7_code
def yX4_steamAndHarden : MethodName := ⟨RX4, "steamAndHarden", "(ILPotBonfire$Rules;)V"⟩
abbrev cX4_loseWater : ByteArray := prog_6_method_8_code
def yX4_loseWater : MethodName := ⟨RX4, "loseWater", "(II)V"⟩
abbrev cX4_strike : ByteArray := prog_6_method_9_code
def yX4_strike : MethodName := ⟨RX4, "strike", "(LPotBonfire$Rules;)V"⟩
abbrev cX4_isBesideBurst : ByteArray := prog_6_method_10_code
def yX4_isBesideBurst : MethodName := ⟨RX4, "isBesideBurst", "(ILPotBonfire$Rules;)Z"⟩
abbrev cX4_takeColour : ByteArray := prog_6_method_11_code
def yX4_takeColour : MethodName := ⟨RX4, "takeColour", "(IZ)V"⟩
abbrev cX4_dryFor : ByteArray := prog_6_method_12_code
def yX4_dryFor : MethodName := ⟨RX4, "dryFor", "(I)V"⟩
abbrev cX4_allWater : ByteArray := prog_6_method_13_code
def yX4_allWater : MethodName := ⟨RX4, "allWater", "()I"⟩
abbrev cX4_lossOf : ByteArray := prog_6_method_14_code
def yX4_lossOf : MethodName := ⟨RX4, "lossOf", "(ILPotBonfire$Rules;)I"⟩
abbrev cX4_countGood : ByteArray := prog_6_method_15_code
def yX4_countGood : MethodName := ⟨RX4, "countGood", "(LPotBonfire$Rules;)I"⟩
abbrev cX4_countLost : ByteArray := prog_6_method_16_code
def yX4_countLost : MethodName := ⟨RX4, "countLost", "()I"⟩
abbrev cX4_countWhole : ByteArray := prog_6_method_17_code
def yX4_countWhole : MethodName := ⟨RX4, "countWhole", "()I"⟩
abbrev cX4_wholeIn : ByteArray := prog_6_method_18_code
def yX4_wholeIn : MethodName := ⟨RX4, "wholeIn", "(I)I"⟩
abbrev cX4_anyTwoInOne : ByteArray := prog_6_method_19_code
def yX4_anyTwoInOne : MethodName := ⟨RX4, "anyTwoInOne", "()Z"⟩
def RX5 : String := "PotBonfire$Rules"
def TX5 : u_T := fun k => match k with
  | 0 => ("PotBonfire$Rules", "wide", "I", false)
  | 1 => ("PotBonfire$Rules", "high", "I", false)
  | 2 => ("PotBonfire$Rules", "burns", "[I", true)
  | 3 => ("PotBonfire$Rules", "gives", "[I", true)
  | 4 => ("PotBonfire$Rules", "cools", "I", false)
  | 5 => ("PotBonfire$Rules", "hardensFrom", "I", false)
  | 6 => ("PotBonfire$Rules", "hardensFor", "I", false)
  | 7 => ("PotBonfire$Rules", "duntsAbove", "I", false)
  | 8 => ("PotBonfire$Rules", "splitsAbove", "I", false)
  | _ => ("PotBonfire$Rules", "windMost", "I", false)
def tyX5 : Nat → FieldType := fun k => match k with
  | 0 => .int
  | 1 => .int
  | 2 => .array .int
  | 3 => .array .int
  | 4 => .int
  | 5 => .int
  | 6 => .int
  | 7 => .int
  | 8 => .int
  | _ => .int
theorem nmX5 : ∀ a, a < 10 → ∀ b, b < 10 → a ≠ b → (TX5 a).2.1 ≠ (TX5 b).2.1 := by decide +kernel
theorem tyX5_ok : ∀ k, k < 10 → parseFieldDescriptor (TX5 k).2.2.1 = some (tyX5 k) := by decide +kernel
abbrev cX5_init : ByteArray := prog_7_method_1_code
def yX5_init : MethodName := ⟨RX5, "<init>", "()V"⟩
abbrev cX5_setDefaults : ByteArray := prog_7_method_2_code
def yX5_setDefaults : MethodName := ⟨RX5, "setDefaults", "()V"⟩
abbrev cX5_setKind : ByteArray := prog_7_method_3_code
def yX5_setKind : MethodName := ⟨RX5, "setKind", "(III)V"⟩
abbrev cX5_copyFrom : ByteArray := prog_7_method_4_code
def yX5_copyFrom : MethodName := ⟨RX5, "copyFrom", "(LPotBonfire$Rules;)V"⟩
abbrev cX5_cells : ByteArray := prog_7_method_5_code
def yX5_cells : MethodName := ⟨RX5, "cells", "()I"⟩
abbrev cX5_areBeside : ByteArray := prog_7_method_6_code
def yX5_areBeside : MethodName := ⟨RX5, "areBeside", "(II)Z"⟩
abbrev cX5_drawnWind : ByteArray := prog_7_method_7_code
def yX5_drawnWind : MethodName := ⟨RX5, "drawnWind", "(II)I"⟩
def RX6 : String := "PotBonfire$Tally"
def TX6 : u_T := fun k => match k with
  | 0 => ("PotBonfire$Tally", "runs", "I", false)
  | 1 => ("PotBonfire$Tally", "leastWater", "I", false)
  | 2 => ("PotBonfire$Tally", "mostWater", "I", false)
  | 3 => ("PotBonfire$Tally", "leastMinutes", "I", false)
  | _ => ("PotBonfire$Tally", "mostMinutes", "I", false)
def tyX6 : Nat → FieldType := fun k => match k with
  | 0 => .int
  | 1 => .int
  | 2 => .int
  | 3 => .int
  | _ => .int
theorem nmX6 : ∀ a, a < 5 → ∀ b, b < 5 → a ≠ b → (TX6 a).2.1 ≠ (TX6 b).2.1 := by decide +kernel
theorem tyX6_ok : ∀ k, k < 5 → parseFieldDescriptor (TX6 k).2.2.1 = some (tyX6 k) := by decide +kernel
abbrev cX6_init : ByteArray := prog_8_method_1_code
def yX6_init : MethodName := ⟨RX6, "<init>", "()V"⟩
abbrev cX6_clear : ByteArray := prog_8_method_2_code
def yX6_clear : MethodName := ⟨RX6, "clear", "()V"⟩
abbrev cX6_add : ByteArray := prog_8_method_3_code
def yX6_add : MethodName := ⟨RX6, "add", "(II)V"⟩
abbrev cX6_told : ByteArray := prog_8_method_4_code
def yX6_told : MethodName := ⟨RX6, "told", "(I)I"⟩
def RX7 : String := "PotBonfire"
def TX7 : u_T := fun k => match k with
  | 0 => ("PotBonfire", "text", "[B", true)
  | 1 => ("PotBonfire", "textLength", "I", false)
  | 2 => ("PotBonfire", "plan", "LPotBonfire$Plan;", true)
  | 3 => ("PotBonfire", "rules", "LPotBonfire$Rules;", true)
  | 4 => ("PotBonfire", "heap", "LPotBonfire$Heap;", true)
  | 5 => ("PotBonfire", "stage", "LPotBonfire$Heap;", true)
  | 6 => ("PotBonfire", "trial", "LPotBonfire$Heap;", true)
  | 7 => ("PotBonfire", "firstKept", "LPotBonfire$Heap;", true)
  | 8 => ("PotBonfire", "secondKept", "LPotBonfire$Heap;", true)
  | 9 => ("PotBonfire", "keptCount", "I", false)
  | 10 => ("PotBonfire", "spots", "[I", true)
  | 11 => ("PotBonfire", "spotCount", "I", false)
  | 12 => ("PotBonfire", "air", "LPotBonfire$Air;", true)
  | _ => ("PotBonfire", "tally", "LPotBonfire$Tally;", true)
def tyX7 : Nat → FieldType := fun k => match k with
  | 0 => .array .byte
  | 1 => .int
  | 2 => .object "PotBonfire$Plan"
  | 3 => .object "PotBonfire$Rules"
  | 4 => .object "PotBonfire$Heap"
  | 5 => .object "PotBonfire$Heap"
  | 6 => .object "PotBonfire$Heap"
  | 7 => .object "PotBonfire$Heap"
  | 8 => .object "PotBonfire$Heap"
  | 9 => .int
  | 10 => .array .int
  | 11 => .int
  | 12 => .object "PotBonfire$Air"
  | _ => .object "PotBonfire$Tally"
theorem nmX7 : ∀ a, a < 14 → ∀ b, b < 14 → a ≠ b → (TX7 a).2.1 ≠ (TX7 b).2.1 := by decide +kernel
theorem tyX7_ok : ∀ k, k < 14 → parseFieldDescriptor (TX7 k).2.2.1 = some (tyX7 k) := by decide +kernel
abbrev cX7_init : ByteArray := prog_1_method_1_code
def yX7_init : MethodName := ⟨RX7, "<init>", "()V"⟩
abbrev cX7_write : ByteArray := prog_1_method_2_code
def yX7_write : MethodName := ⟨RX7, "write", "(IJ)I"⟩
abbrev cX7_wipe : ByteArray := prog_1_method_3_code
def yX7_wipe : MethodName := ⟨RX7, "wipe", "()I"⟩
abbrev cX7_fault : ByteArray := prog_1_method_4_code
def yX7_fault : MethodName := ⟨RX7, "fault", "()I"⟩
abbrev cX7_lay : ByteArray := prog_1_method_5_code
def yX7_lay : MethodName := ⟨RX7, "lay", "()I"⟩
abbrev cX7_cell : ByteArray := prog_1_method_6_code
def yX7_cell : MethodName := ⟨RX7, "cell", "(II)I"⟩
abbrev cX7_pot : ByteArray := prog_1_method_7_code
def yX7_pot : MethodName := ⟨RX7, "pot", "(II)I"⟩
abbrev cX7_minute : ByteArray := prog_1_method_8_code
def yX7_minute : MethodName := ⟨RX7, "minute", "(I)I"⟩
abbrev cX7_fuel : ByteArray := prog_1_method_9_code
def yX7_fuel : MethodName := ⟨RX7, "fuel", "(II)I"⟩
abbrev cX7_cover : ByteArray := prog_1_method_10_code
def yX7_cover : MethodName := ⟨RX7, "cover", "(IZ)I"⟩
abbrev cX7_light : ByteArray := prog_1_method_11_code
def yX7_light : MethodName := ⟨RX7, "light", "(I)I"⟩
abbrev cX7_take : ByteArray := prog_1_method_12_code
def yX7_take : MethodName := ⟨RX7, "take", "(I)I"⟩
abbrev cX7_dry : ByteArray := prog_1_method_13_code
def yX7_dry : MethodName := ⟨RX7, "dry", "(I)I"⟩
abbrev cX7_run : ByteArray := prog_1_method_14_code
def yX7_run : MethodName := ⟨RX7, "run", "(III)I"⟩
abbrev cX7_of : ByteArray := prog_1_method_15_code
def yX7_of : MethodName := ⟨RX7, "of", "(IIII)I"⟩
abbrev cX7_drying : ByteArray := prog_1_method_16_code
def yX7_drying : MethodName := ⟨RX7, "drying", "(II)I"⟩
abbrev cX7_grit : ByteArray := prog_1_method_17_code
def yX7_grit : MethodName := ⟨RX7, "grit", "(III)I"⟩
abbrev cX7_enough : ByteArray := prog_1_method_18_code
def yX7_enough : MethodName := ⟨RX7, "enough", "(III)I"⟩
abbrev cX7_spot : ByteArray := prog_1_method_19_code
def yX7_spot : MethodName := ⟨RX7, "spot", "(I)I"⟩
abbrev cX7_noSpots : ByteArray := prog_1_method_20_code
def yX7_noSpots : MethodName := ⟨RX7, "noSpots", "()I"⟩
abbrev cX7_lies : ByteArray := prog_1_method_21_code
def yX7_lies : MethodName := ⟨RX7, "lies", "(IIII)I"⟩
abbrev cX7_rake : ByteArray := prog_1_method_22_code
def yX7_rake : MethodName := ⟨RX7, "rake", "(II)I"⟩
abbrev cX7_black : ByteArray := prog_1_method_23_code
def yX7_black : MethodName := ⟨RX7, "black", "(III)I"⟩
abbrev cX7_evening : ByteArray := prog_1_method_24_code
def yX7_evening : MethodName := ⟨RX7, "evening", "(II)I"⟩
abbrev cX7_ten : ByteArray := prog_1_method_25_code
def yX7_ten : MethodName := ⟨RX7, "ten", "(III)I"⟩
abbrev cX7_sherd : ByteArray := prog_1_method_26_code
def yX7_sherd : MethodName := ⟨RX7, "sherd", "(IIII)I"⟩
abbrev cX7_keep : ByteArray := prog_1_method_27_code
def yX7_keep : MethodName := ⟨RX7, "keep", "()I"⟩
abbrev cX7_back : ByteArray := prog_1_method_28_code
def yX7_back : MethodName := ⟨RX7, "back", "()I"⟩
abbrev cX7_count : ByteArray := prog_1_method_29_code
def yX7_count : MethodName := ⟨RX7, "count", "(I)I"⟩
abbrev cX7_isCell : ByteArray := prog_1_method_30_code
def yX7_isCell : MethodName := ⟨RX7, "isCell", "(I)Z"⟩
abbrev cX7_isPot : ByteArray := prog_1_method_31_code
def yX7_isPot : MethodName := ⟨RX7, "isPot", "(I)Z"⟩
abbrev cX7_isWind : ByteArray := prog_1_method_32_code
def yX7_isWind : MethodName := ⟨RX7, "isWind", "(I)Z"⟩
abbrev cX7_isLength : ByteArray := prog_1_method_33_code
def yX7_isLength : MethodName := ⟨RX7, "isLength", "(I)Z"⟩
abbrev cX7_isRun : ByteArray := prog_1_method_34_code
def yX7_isRun : MethodName := ⟨RX7, "isRun", "(II)Z"⟩
abbrev cX7_isDraw : ByteArray := prog_1_method_35_code
def yX7_isDraw : MethodName := ⟨RX7, "isDraw", "(I)Z"⟩
abbrev cX7_oneIf : ByteArray := prog_1_method_36_code
def yX7_oneIf : MethodName := ⟨RX7, "oneIf", "(Z)I"⟩
abbrev cX7_keptAt : ByteArray := prog_1_method_37_code
def yX7_keptAt : MethodName := ⟨RX7, "keptAt", "(I)LPotBonfire$Heap;"⟩
abbrev cX7_tryRun : ByteArray := prog_1_method_38_code
def yX7_tryRun : MethodName := ⟨RX7, "tryRun", "(II)V"⟩
abbrev cX7_tryEvening : ByteArray := prog_1_method_39_code
def yX7_tryEvening : MethodName := ⟨RX7, "tryEvening", "(II)V"⟩
abbrev cX7_burnAfresh : ByteArray := prog_1_method_40_code
def yX7_burnAfresh : MethodName := ⟨RX7, "burnAfresh", "(II)V"⟩
abbrev cX7_goOn : ByteArray := prog_1_method_41_code
def yX7_goOn : MethodName := ⟨RX7, "goOn", "(III)V"⟩
abbrev cX7_burnFire : ByteArray := prog_1_method_42_code
def yX7_burnFire : MethodName := ⟨RX7, "burnFire", "(III)V"⟩
abbrev cX7_passPots : ByteArray := prog_1_method_43_code
def yX7_passPots : MethodName := ⟨RX7, "passPots", "(II)V"⟩
abbrev cX7_anyBursts : ByteArray := prog_1_method_44_code
def yX7_anyBursts : MethodName := ⟨RX7, "anyBursts", "(I)Z"⟩
abbrev cX7_greatestHeat : ByteArray := prog_1_method_45_code
def yX7_greatestHeat : MethodName := ⟨RX7, "greatestHeat", "(II)I"⟩
abbrev cX7_countWays : ByteArray := prog_1_method_46_code
def yX7_countWays : MethodName := ⟨RX7, "countWays", "(I)I"⟩
abbrev cX7_spotInWay : ByteArray := prog_1_method_47_code
def yX7_spotInWay : MethodName := ⟨RX7, "spotInWay", "(III)I"⟩
abbrev cX7_layWay : ByteArray := prog_1_method_48_code
def yX7_layWay : MethodName := ⟨RX7, "layWay", "(II)Z"⟩
def RX8 : String := "PotBonfireModel"
def TX8 : u_T := fun k => match k with
  | 0 => ("PotBonfireModel", "length", "I", false)
  | 1 => ("PotBonfireModel", "text", "[B", true)
  | 2 => ("PotBonfireModel", "at", "I", false)
  | 3 => ("PotBonfireModel", "told", "[I", true)
  | 4 => ("PotBonfireModel", "pots", "[I", true)
  | 5 => ("PotBonfireModel", "thick", "[I", true)
  | 6 => ("PotBonfireModel", "strong", "[I", true)
  | 7 => ("PotBonfireModel", "read", "[I", true)
  | 8 => ("PotBonfireModel", "ground", "[I", true)
  | 9 => ("PotBonfireModel", "row", "[I", true)
  | 10 => ("PotBonfireModel", "kept", "I", false)
  | 11 => ("PotBonfireModel", "spots", "I", false)
  | 12 => ("PotBonfireModel", "spot", "[I", true)
  | 13 => ("PotBonfireModel", "over", "[I", true)
  | 14 => ("PotBonfireModel", "most", "[I", true)
  | 15 => ("PotBonfireModel", "burst", "[Z", true)
  | 16 => ("PotBonfireModel", "way", "[I", true)
  | 17 => ("PotBonfireModel", "bestWay", "[I", true)
  | 18 => ("PotBonfireModel", "shard", "[I", true)
  | _ => ("PotBonfireModel", "got", "[I", true)
def tyX8 : Nat → FieldType := fun k => match k with
  | 0 => .int
  | 1 => .array .byte
  | 2 => .int
  | 3 => .array .int
  | 4 => .array .int
  | 5 => .array .int
  | 6 => .array .int
  | 7 => .array .int
  | 8 => .array .int
  | 9 => .array .int
  | 10 => .int
  | 11 => .int
  | 12 => .array .int
  | 13 => .array .int
  | 14 => .array .int
  | 15 => .array .boolean
  | 16 => .array .int
  | 17 => .array .int
  | 18 => .array .int
  | _ => .array .int
theorem nmX8 : ∀ a, a < 20 → ∀ b, b < 20 → a ≠ b → (TX8 a).2.1 ≠ (TX8 b).2.1 := by decide +kernel
theorem tyX8_ok : ∀ k, k < 20 → parseFieldDescriptor (TX8 k).2.2.1 = some (tyX8 k) := by decide +kernel
abbrev cX8_init : ByteArray := prog_10_method_1_code
def yX8_init : MethodName := ⟨RX8, "<init>", "()V"⟩
abbrev cX8_in : ByteArray := prog_10_method_2_code
def yX8_in : MethodName := ⟨RX8, "in", "(JJJ)Z"⟩
abbrev cX8_write : ByteArray := prog_10_method_3_code
def yX8_write : MethodName := ⟨RX8, "write", "(IJ)I"⟩
abbrev cX8_wipe : ByteArray := prog_10_method_4_code
def yX8_wipe : MethodName := ⟨RX8, "wipe", "()I"⟩
abbrev cX8_number : ByteArray := prog_10_method_5_code
def yX8_number : MethodName := ⟨RX8, "number", "()I"⟩
abbrev cX8_parts : ByteArray := prog_10_method_6_code
def yX8_parts : MethodName := ⟨RX8, "parts", "(I)I"⟩
abbrev cX8_isIn : ByteArray := prog_10_method_7_code
def yX8_isIn : MethodName := ⟨RX8, "isIn", "(III)Z"⟩
abbrev cX8_isItem : ByteArray := prog_10_method_8_code
def yX8_isItem : MethodName := ⟨RX8, "isItem", "()Z"⟩
abbrev cX8_isGood : ByteArray := prog_10_method_9_code
def yX8_isGood : MethodName := ⟨RX8, "isGood", "(I)Z"⟩
abbrev cX8_isPlaced : ByteArray := prog_10_method_10_code
def yX8_isPlaced : MethodName := ⟨RX8, "isPlaced", "(I)Z"⟩
abbrev cX8_begins : ByteArray := prog_10_method_11_code
def yX8_begins : MethodName := ⟨RX8, "begins", "()V"⟩
abbrev cX8_takes : ByteArray := prog_10_method_12_code
def yX8_takes : MethodName := ⟨RX8, "takes", "()V"⟩
abbrev cX8_fault : ByteArray := prog_10_method_13_code
def yX8_fault : MethodName := ⟨RX8, "fault", "()I"⟩
abbrev cX8_lay : ByteArray := prog_10_method_14_code
def yX8_lay : MethodName := ⟨RX8, "lay", "()I"⟩
abbrev cX8_cells : ByteArray := prog_10_method_15_code
def yX8_cells : MethodName := ⟨RX8, "cells", "()I"⟩
abbrev cX8_isCell : ByteArray := prog_10_method_16_code
def yX8_isCell : MethodName := ⟨RX8, "isCell", "(I)Z"⟩
abbrev cX8_isPot : ByteArray := prog_10_method_17_code
def yX8_isPot : MethodName := ⟨RX8, "isPot", "(I)Z"⟩
abbrev cX8_copies : ByteArray := prog_10_method_18_code
def yX8_copies : MethodName := ⟨RX8, "copies", "(II)V"⟩
abbrev cX8_potAt : ByteArray := prog_10_method_19_code
def yX8_potAt : MethodName := ⟨RX8, "potAt", "(II)I"⟩
abbrev cX8_isWhole : ByteArray := prog_10_method_20_code
def yX8_isWhole : MethodName := ⟨RX8, "isWhole", "(II)Z"⟩
abbrev cX8_lossOf : ByteArray := prog_10_method_21_code
def yX8_lossOf : MethodName := ⟨RX8, "lossOf", "(II)I"⟩
abbrev cX8_cell : ByteArray := prog_10_method_22_code
def yX8_cell : MethodName := ⟨RX8, "cell", "(II)I"⟩
abbrev cX8_pot : ByteArray := prog_10_method_23_code
def yX8_pot : MethodName := ⟨RX8, "pot", "(II)I"⟩
abbrev cX8_burns : ByteArray := prog_10_method_24_code
def yX8_burns : MethodName := ⟨RX8, "burns", "(I)V"⟩
abbrev cX8_spreads : ByteArray := prog_10_method_25_code
def yX8_spreads : MethodName := ⟨RX8, "spreads", "(II)V"⟩
abbrev cX8_fires : ByteArray := prog_10_method_26_code
def yX8_fires : MethodName := ⟨RX8, "fires", "(II)V"⟩
abbrev cX8_isNear : ByteArray := prog_10_method_27_code
def yX8_isNear : MethodName := ⟨RX8, "isNear", "(II)Z"⟩
abbrev cX8_strikes : ByteArray := prog_10_method_28_code
def yX8_strikes : MethodName := ⟨RX8, "strikes", "(I)V"⟩
abbrev cX8_colours : ByteArray := prog_10_method_29_code
def yX8_colours : MethodName := ⟨RX8, "colours", "(II)V"⟩
abbrev cX8_goes : ByteArray := prog_10_method_30_code
def yX8_goes : MethodName := ⟨RX8, "goes", "(II)V"⟩
abbrev cX8_isWind : ByteArray := prog_10_method_31_code
def yX8_isWind : MethodName := ⟨RX8, "isWind", "(I)Z"⟩
abbrev cX8_minute : ByteArray := prog_10_method_32_code
def yX8_minute : MethodName := ⟨RX8, "minute", "(I)I"⟩
abbrev cX8_fuel : ByteArray := prog_10_method_33_code
def yX8_fuel : MethodName := ⟨RX8, "fuel", "(II)I"⟩
abbrev cX8_cover : ByteArray := prog_10_method_34_code
def yX8_cover : MethodName := ⟨RX8, "cover", "(IZ)I"⟩
abbrev cX8_light : ByteArray := prog_10_method_35_code
def yX8_light : MethodName := ⟨RX8, "light", "(I)I"⟩
abbrev cX8_take : ByteArray := prog_10_method_36_code
def yX8_take : MethodName := ⟨RX8, "take", "(I)I"⟩
abbrev cX8_dries : ByteArray := prog_10_method_37_code
def yX8_dries : MethodName := ⟨RX8, "dries", "(II)I"⟩
abbrev cX8_dry : ByteArray := prog_10_method_38_code
def yX8_dry : MethodName := ⟨RX8, "dry", "(I)I"⟩
abbrev cX8_looks : ByteArray := prog_10_method_39_code
def yX8_looks : MethodName := ⟨RX8, "looks", "()V"⟩
abbrev cX8_runs : ByteArray := prog_10_method_40_code
def yX8_runs : MethodName := ⟨RX8, "runs", "(II)I"⟩
abbrev cX8_good : ByteArray := prog_10_method_41_code
def yX8_good : MethodName := ⟨RX8, "good", "(I)I"⟩
abbrev cX8_tries : ByteArray := prog_10_method_42_code
def yX8_tries : MethodName := ⟨RX8, "tries", "()V"⟩
abbrev cX8_isRun : ByteArray := prog_10_method_43_code
def yX8_isRun : MethodName := ⟨RX8, "isRun", "(II)Z"⟩
abbrev cX8_lossed : ByteArray := prog_10_method_44_code
def yX8_lossed : MethodName := ⟨RX8, "lossed", "(I)I"⟩
abbrev cX8_run : ByteArray := prog_10_method_45_code
def yX8_run : MethodName := ⟨RX8, "run", "(III)I"⟩
abbrev cX8_of : ByteArray := prog_10_method_46_code
def yX8_of : MethodName := ⟨RX8, "of", "(IIII)I"⟩
abbrev cX8_drying : ByteArray := prog_10_method_47_code
def yX8_drying : MethodName := ⟨RX8, "drying", "(II)I"⟩
abbrev cX8_grit : ByteArray := prog_10_method_48_code
def yX8_grit : MethodName := ⟨RX8, "grit", "(III)I"⟩
abbrev cX8_enough : ByteArray := prog_10_method_49_code
def yX8_enough : MethodName := ⟨RX8, "enough", "(III)I"⟩
abbrev cX8_spot : ByteArray := prog_10_method_50_code
def yX8_spot : MethodName := ⟨RX8, "spot", "(I)I"⟩
abbrev cX8_noSpots : ByteArray := prog_10_method_51_code
def yX8_noSpots : MethodName := ⟨RX8, "noSpots", "()I"⟩
abbrev cX8_isWay : ByteArray := prog_10_method_52_code
def yX8_isWay : MethodName := ⟨RX8, "isWay", "(II)Z"⟩
abbrev cX8_lies : ByteArray := prog_10_method_53_code
def yX8_lies : MethodName := ⟨RX8, "lies", "(IIII)I"⟩
abbrev cX8_rake : ByteArray := prog_10_method_54_code
def yX8_rake : MethodName := ⟨RX8, "rake", "(II)I"⟩
abbrev cX8_raked : ByteArray := prog_10_method_55_code
def yX8_raked : MethodName := ⟨RX8, "raked", "(III)I"⟩
abbrev cX8_black : ByteArray := prog_10_method_56_code
def yX8_black : MethodName := ⟨RX8, "black", "(III)I"⟩
abbrev cX8_wind : ByteArray := prog_10_method_57_code
def yX8_wind : MethodName := ⟨RX8, "wind", "(II)I"⟩
abbrev cX8_evenings : ByteArray := prog_10_method_58_code
def yX8_evenings : MethodName := ⟨RX8, "evenings", "(II)I"⟩
abbrev cX8_isEvening : ByteArray := prog_10_method_59_code
def yX8_isEvening : MethodName := ⟨RX8, "isEvening", "(II)Z"⟩
abbrev cX8_evening : ByteArray := prog_10_method_60_code
def yX8_evening : MethodName := ⟨RX8, "evening", "(II)I"⟩
abbrev cX8_ten : ByteArray := prog_10_method_61_code
def yX8_ten : MethodName := ⟨RX8, "ten", "(III)I"⟩
abbrev cX8_sherd : ByteArray := prog_10_method_62_code
def yX8_sherd : MethodName := ⟨RX8, "sherd", "(IIII)I"⟩
abbrev cX8_found : ByteArray := prog_10_method_63_code
def yX8_found : MethodName := ⟨RX8, "found", "(II)V"⟩
abbrev cX8_keep : ByteArray := prog_10_method_64_code
def yX8_keep : MethodName := ⟨RX8, "keep", "()I"⟩
abbrev cX8_back : ByteArray := prog_10_method_65_code
def yX8_back : MethodName := ⟨RX8, "back", "()I"⟩
abbrev cX8_count : ByteArray := prog_10_method_66_code
def yX8_count : MethodName := ⟨RX8, "count", "(I)I"⟩
def RJ9 : String := "java/lang/Math"
abbrev cJ9_max_7cf53 : ByteArray := prog_11_method_65_code
def yJ9_max_7cf53 : MethodName := ⟨RJ9, "max", "(II)I"⟩
abbrev cJ9_min_7cf53 : ByteArray := prog_11_method_69_code
def yJ9_min_7cf53 : MethodName := ⟨RJ9, "min", "(II)I"⟩
def RJ7 : String := "java/util/Arrays"
abbrev cJ7_fill_53178 : ByteArray := prog_12_method_103_code
def yJ7_fill_53178 : MethodName := ⟨RJ7, "fill", "([II)V"⟩
def RL : String := "PotBonfireLaw"
abbrev cL_law : ByteArray := code
def yL_law : MethodName := ⟨RL, "law", "([I)Z"⟩
abbrev vwCl : List vw_C := [(RX0, TX0, 1), (RX1, TX1, 6), (RX2, TX2, 3), (RX3, TX3, 6), (RX4, TX4, 12), (RX5, TX5, 10), (RX6, TX6, 5), (RX7, TX7, 14), (RX8, TX8, 20)]

/-- the good words of the tables -/
def kw : List Cond := lw_tbl.filter goodWord
theorem kw_w {w : Cond} (i : Nat) (hp : lw_tbl[i]? = some w) (hg : goodWord w = true) : w ∈ kw := List.mem_filter.mpr ⟨List.mem_of_getElem? hp, hg⟩
theorem kw_in (ws : List Cond) (ps : List Nat) (hp : ws = ps.filterMap (fun i => lw_tbl[i]?)) (hg : ws.all goodWord = true) : ∀ w ∈ ws, w ∈ kw := by
  intro w hw
  have h1 := List.all_eq_true.mp hg w hw
  rw [hp] at hw
  obtain ⟨i, -, hi⟩ := List.mem_filterMap.mp hw
  exact List.mem_filter.mpr ⟨List.mem_of_getElem? hi, h1⟩
theorem kw_good : GoodIn kw kw := fun w hw => ⟨hw, good_of_word (List.mem_filter.mp hw).2⟩
theorem kw_of {P : Cond → Prop} (h : ∀ w ∈ lw_tbl, P w) : ∀ w ∈ kw, P w := fun w hw => h w (List.mem_filter.mp hw).1
theorem kw_X0 : ∀ w ∈ u_ws RX0 TX0 1, w ∈ kw := kw_in _ [338] (by decide +kernel) (by decide +kernel)
theorem kw_X1 : ∀ w ∈ u_ws RX1 TX1 6, w ∈ kw := kw_in _ [208, 210, 212, 214, 216, 218] (by decide +kernel) (by decide +kernel)
theorem kw_X2 : ∀ w ∈ u_ws RX2 TX2 3, w ∈ kw := kw_in _ [324, 326, 328] (by decide +kernel) (by decide +kernel)
theorem kw_X3 : ∀ w ∈ u_ws RX3 TX3 6, w ∈ kw := kw_in _ [290, 292, 294, 296, 298, 300] (by decide +kernel) (by decide +kernel)
theorem kw_X4 : ∀ w ∈ u_ws RX4 TX4 12, w ∈ kw := kw_in _ [250, 252, 254, 256, 258, 260, 262, 264, 266, 268, 270, 272] (by decide +kernel) (by decide +kernel)
theorem kw_X5 : ∀ w ∈ u_ws RX5 TX5 10, w ∈ kw := kw_in _ [164, 166, 168, 170, 172, 174, 176, 178, 180, 182] (by decide +kernel) (by decide +kernel)
theorem kw_X6 : ∀ w ∈ u_ws RX6 TX6 5, w ∈ kw := kw_in _ [352, 354, 356, 358, 360] (by decide +kernel) (by decide +kernel)
theorem kw_X7 : ∀ w ∈ u_ws RX7 TX7 14, w ∈ kw := kw_in _ [393, 395, 397, 399, 401, 403, 405, 407, 409, 411, 413, 415, 417, 419] (by decide +kernel) (by decide +kernel)
theorem kw_X8 : ∀ w ∈ u_ws RX8 TX8 20, w ∈ kw := kw_in _ [879, 881, 883, 885, 887, 889, 891, 893, 895, 897, 899, 901, 903, 905, 907, 909, 911, 913, 915, 917] (by decide +kernel) (by decide +kernel)
/-- the words of private methods called by a nest mate, by their places -/
def kw_nest : List (String × Nat × MethodName × String) := [(RX3, 20, yX1_init, RX7), (RX3, 27, yX4_init, RX7), (RX3, 45, yX5_setDefaults, RX7), (RX3, 48, yX1_clear, RX7), (RX7, 33, yX2_init, RX7), (RX2, 9, yX1_init, RX7), (RX2, 18, yX4_init, RX7), (RX7, 62, yX0_init, RX7), (RX7, 69, yX6_init, RX7), (RX7, 74, yX3_layOn, RX7), (RX3, 161, yX5_copyFrom, RX7), (RX3, 170, yX1_copyCell, RX7), (RX3, 175, yX4_copyFrom, RX7), (RX7, 78, yX3_read, RX7), (RX3, 151, yX4_add, RX7), (RX3, 123, yX5_setKind, RX7), (RX7, 82, yX3_isLayable, RX7), (RX3, 158, yX4_anyTwoInOne, RX7), (RX7, 86, yX5_cells, RX7), (RX7, 124, yX4_wholeIn, RX7), (RX7, 145, yX4_lossOf, RX7), (RX7, 155, yX2_pass, RX7), (RX2, 34, yX1_burn, RX7), (RX1, 46, yX5_cells, RX7), (RX2, 38, yX1_tell, RX7), (RX1, 84, yX0_put, RX7), (RX0, 19, yX7_oneIf, RX7), (RX2, 42, yX4_feel, RX7), (RX4, 50, yX0_heatAt, RX7), (RX4, 107, yX5_areBeside, RX7), (RX4, 64, yX0_blackensAt, RX7), (RX7, 159, yX4_countWhole, RX7), (RX7, 165, yX4_dryFor, RX7), (RX7, 169, yX4_allWater, RX7), (RX7, 272, yX1_copyFrom, RX7), (RX7, 264, yX1_burn, RX7), (RX7, 268, yX1_tell, RX7), (RX7, 194, yX4_copyFrom, RX7), (RX7, 278, yX4_feel, RX7), (RX7, 180, yX4_countGood, RX7), (RX7, 184, yX4_countLost, RX7), (RX7, 282, yX0_heatAt, RX7), (RX7, 207, yX2_copyFrom, RX7), (RX2, 27, yX1_copyFrom, RX7), (RX2, 31, yX4_copyFrom, RX7), (RX7, 210, yX1_shareFuel, RX7), (RX7, 290, yX4_anyTwoInOne, RX7), (RX7, 230, yX1_rakeOff, RX7), (RX7, 233, yX1_coverAll, RX7), (RX7, 261, yX5_drawnWind, RX7), (RX7, 245, yX6_clear, RX7), (RX7, 248, yX6_add, RX7), (RX7, 251, yX6_told, RX7)]
theorem kw_nest_in : kw_nest.map (fun q => Cond.methodLinkNest q.1 q.2.1 q.2.2.1 q.2.2.2) = [189, 224, 279, 280, 307, 312, 314, 333, 343, 363, 367, 371, 375, 434, 483, 487, 492, 496, 500, 515, 527, 538, 542, 550, 569, 573, 580, 581, 585, 614, 618, 626, 650, 654, 676, 685, 686, 687, 692, 693, 698, 710, 730, 734, 735, 736, 768, 773, 781, 796, 811, 815, 821].filterMap (fun i => lw_tbl[i]?) := by decide +kernel
end
section
/-! values, tags, the world as a function, and the judgement V over it -/
abbrev kT : Type := Nat × Nat
abbrev kV : Type := Int32 ⊕ (Int64 ⊕ (kT × Nat))
abbrev kH : Type := Nat → Nat → Int32
abbrev iv (x : Int32) : kV := Sum.inl x
abbrev jv (x : Int64) : kV := Sum.inr (Sum.inl x)
abbrev rv (t : kT) (k : Nat) : kV := Sum.inr (Sum.inr (t, k))
/-- launch, base address, class tables, array kinds (int, byte, boolean), static tables' and the script's addresses, the cells' addresses, the script -/
abbrev kG : Type := Launch × Nat × va_G × (ClassId × ClassId × ClassId) × (Nat → Nat) × (Nat → Nat) × (Nat × (Nat → Int32))
abbrev g_l (G : kG) : Launch := G.1
abbrev g_b (G : kG) : Nat := G.2.1
abbrev g_D (G : kG) : va_G := G.2.2.1
abbrev g_I (G : kG) : ClassId := G.2.2.2.1.1
abbrev g_B (G : kG) : ClassId := G.2.2.2.1.2.1
abbrev g_Z (G : kG) : ClassId := G.2.2.2.1.2.2
abbrev g_s (G : kG) : Nat → Nat := G.2.2.2.2.1
abbrev g_a (G : kG) : Nat → Nat := G.2.2.2.2.2.1
abbrev g_n (G : kG) : Nat := G.2.2.2.2.2.2.1
abbrev g_xs (G : kG) : Nat → Int32 := G.2.2.2.2.2.2.2
abbrev k_ty (G : kG) : List (ClassId × FieldType) := [(g_I G, .int), (g_B G, .byte), (g_Z G, .boolean)]
abbrev k_A (G : kG) : Nat → Prop := fun q => g_b G ≤ q
def kc_v (G : kG) : kV → Value
  | .inl x => .int x
  | .inr (.inl x) => .long x
  | .inr (.inr (t, k)) => .ref (if t.1 = 12 then g_s G t.2 else g_a G k)
def ok_v (T : List kT) : kV → Prop
  | .inl _ => True
  | .inr (.inl _) => True
  | .inr (.inr (t, k)) => (t.1 < 12 ∧ ∃ m, T[k]? = some (t.1, m) ∧ (9 ≤ t.1 → m = t.2) ∧ (t.2 = 99 → m = 99)) ∨ (t.1 = 12 ∧ t.2 < 11)
theorem kc_r {G : kG} {t : kT} {k : Nat} (h : t.1 < 12) : kc_v G (rv t k) = .ref (g_a G k) := by
  have h1 : ¬ t.1 = 12 := by omega
  simp [kc_v, h1]
/-- the fields of a class by their slots: an int, or a part at a fixed distance -/
def k_fd : Nat → List (Option (Nat × kT))
  | 0 => [some (1, (9, 7200))]
  | 1 => [some (1, (9, 30)), some (2, (9, 30)), some (3, (9, 30)), some (4, (11, 30)), some (5, (11, 30)), some (6, (9, 30))]
  | 2 => [some (1, (1, 99)), some (8, (4, 99)), none]
  | 3 => [some (1, (5, 99)), some (4, (1, 99)), some (11, (4, 99)), some (23, (9, 6)), some (24, (9, 6)), some (25, (9, 6))]
  | 4 => [none, some (1, (9, 6)), some (2, (9, 6)), some (3, (9, 6)), some (4, (9, 6)), some (5, (9, 6)), some (6, (9, 6)), some (7, (9, 6)), some (8, (9, 6)), some (9, (9, 6)), some (10, (11, 6)), some (11, (11, 6))]
  | 5 => [none, none, some (1, (9, 3)), some (2, (9, 3)), none, none, none, none, none, none]
  | 6 => [none, none, none, none, none]
  | 7 => [some (1, (10, 500)), none, some (2, (3, 99)), some (28, (5, 99)), some (31, (2, 99)), some (51, (2, 99)), some (71, (2, 99)), some (91, (2, 99)), some (111, (2, 99)), none, some (131, (9, 6)), none, some (132, (0, 99)), some (134, (6, 99))]
  | 8 => [none, some (1, (10, 500)), none, some (2, (9, 28)), some (3, (9, 2)), some (4, (9, 6)), some (5, (9, 6)), some (6, (9, 36)), some (7, (9, 120)), some (8, (9, 800)), none, none, some (9, (9, 6)), some (10, (9, 30)), some (11, (9, 6)), some (12, (11, 6)), some (13, (9, 4)), some (14, (9, 4)), some (15, (9, 5)), some (16, (9, 6))]
  | _ => []
def k_f1 (G : kG) (k : Nat) (t : kT) (row : Nat → Int32) (i : Nat) : Value := match (k_fd t.1).getD i none with
  | none => .int (row i)
  | some q => if i < t.2 then .ref (g_a G (k + q.1)) else .null
def k_fv (G : kG) (k : Nat) (t : kT) (row : Nat → Int32) : List Value := (List.range (k_fd t.1).length).map (k_f1 G k t row)
def k_ce (G : kG) (k : Nat) (t : kT) (row : Nat → Int32) : va_E := if t.1 = 9 then .inl (g_I G, t.2, .inl row) else if t.1 = 10 then .inl (g_B G, t.2, .inl row) else if t.1 = 11 then .inl (g_Z G, t.2, .inl row) else .inr (t.1, k_fv G k t row)
def k_wl (G : kG) (T : List kT) (h : kH) : va_W := (List.range T.length).map fun k => (g_a G k, k_ce G k (T.getD k (6, 99)) (h k))
/-- every part of an object that is made stands where its kind says -/
def k_WF (T : List kT) : Prop := ∀ (k : Nat) (t : kT), T[k]? = some t → t.1 < 9 → ∀ (i : Nat) (q : Nat × kT), (k_fd t.1)[i]? = some (some q) → i < t.2 → T[k + q.1]? = some q.2
def sr (h : kH) (k : Nat) (row : Nat → Int32) : kH := fun r => if r = k then row else h r
theorem sr_s (h : kH) (k : Nat) (row : Nat → Int32) : sr h k row k = row := if_pos rfl
theorem sr_n (h : kH) {k r : Nat} (row : Nat → Int32) (e : r ≠ k) : sr h k row r = h r := if_neg e
theorem k_wl_len (G : kG) (T : List kT) (h : kH) : (k_wl G T h).length = T.length := by simp [k_wl]
theorem k_wl_at {G : kG} {T : List kT} {h : kH} {k : Nat} {t : kT} (ht : T[k]? = some t) : (k_wl G T h)[k]? = some (g_a G k, k_ce G k t (h k)) := by
  have hl := (List.getElem?_eq_some_iff.mp ht).1
  simp [k_wl, List.getElem?_map, List.getElem?_range hl, List.getD_eq_getElem?_getD, ht]
theorem k_wl_of {G : kG} {T : List kT} {h : kH} {k : Nat} {q : Nat × va_E} (hq : (k_wl G T h)[k]? = some q) : ∃ t, T[k]? = some t ∧ q = (g_a G k, k_ce G k t (h k)) := by
  have hl : k < T.length := by have := (List.getElem?_eq_some_iff.mp hq).1; rwa [k_wl_len] at this
  obtain ⟨t, ht⟩ : ∃ t, T[k]? = some t := ⟨T[k], List.getElem?_eq_getElem hl⟩
  exact ⟨t, ht, Option.some.inj (hq.symm.trans (k_wl_at ht))⟩
/-- the cells' addresses are apart, and new -/
def k_AD (G : kG) (T : List kT) : Prop := (∀ i j : Nat, i < T.length → j < T.length → g_a G i = g_a G j → i = j) ∧ ∀ i : Nat, i < T.length → g_b G ≤ g_a G i
theorem k_wl_D {G : kG} {T : List kT} {h : kH} (hA : k_AD G T) : va_D (k_A G) (k_wl G T h) := by
  refine ⟨fun i j p q hp hq e => ?_, fun k q hq => ?_⟩
  · have h1 := (List.getElem?_eq_some_iff.mp hp).1
    have h2 := (List.getElem?_eq_some_iff.mp hq).1
    rw [k_wl_len] at h1 h2
    obtain ⟨_, -, rfl⟩ := k_wl_of hp
    obtain ⟨_, -, rfl⟩ := k_wl_of hq
    exact hA.1 i j h1 h2 e
  · have h1 := (List.getElem?_eq_some_iff.mp hq).1
    rw [k_wl_len] at h1
    obtain ⟨_, -, rfl⟩ := k_wl_of hq
    exact hA.2 k h1
theorem k_ext {α : Type} {a b : List α} (h : ∀ i : Nat, a[i]? = b[i]?) : a = b := List.ext_getElem? h
theorem k_wl_set {G : kG} {T : List kT} {h : kH} {k : Nat} {t t' : kT} {row : Nat → Int32} {e : va_E} (ht : T[k]? = some t) (he : e = k_ce G k t' row) : (k_wl G T h).set k (g_a G k, e) = k_wl G (T.set k t') (sr h k row) := by
  subst he
  have hl := (List.getElem?_eq_some_iff.mp ht).1
  refine k_ext fun i => ?_
  by_cases hi : i = k
  · subst hi
    rw [List.getElem?_set_self (by rw [k_wl_len]; exact hl), k_wl_at (t := t') (by rw [List.getElem?_set_self hl]), sr_s]
  · rw [List.getElem?_set_ne (Ne.symm hi)]
    by_cases hil : i < T.length
    · have hti : T[i]? = some T[i] := List.getElem?_eq_getElem hil
      rw [k_wl_at hti, k_wl_at (t := T[i]) (by rw [List.getElem?_set_ne (Ne.symm hi)]; exact hti), sr_n _ _ hi]
    · rw [List.getElem?_eq_none (by rw [k_wl_len]; omega), List.getElem?_eq_none (by rw [k_wl_len, List.length_set]; omega)]
theorem k_set_same {T : List kT} {k : Nat} {t : kT} (ht : T[k]? = some t) : T.set k t = T := by
  refine k_ext fun i => ?_
  by_cases hi : i = k
  · subst hi
    rw [List.getElem?_set_self (List.getElem?_eq_some_iff.mp ht).1, ht]
  · rw [List.getElem?_set_ne (Ne.symm hi)]
theorem k_wl_put {G : kG} {T : List kT} {h : kH} {k : Nat} {t : kT} {row : Nat → Int32} {e : va_E} (ht : T[k]? = some t) (he : e = k_ce G k t row) : (k_wl G T h).set k (g_a G k, e) = k_wl G T (sr h k row) := by
  rw [k_wl_set ht he, k_set_same ht]
theorem k_wl_push {G : kG} {T : List kT} {h : kH} {t : kT} {row : Nat → Int32} {e : va_E} (he : e = k_ce G T.length t row) : k_wl G T h ++ [(g_a G T.length, e)] = k_wl G (T ++ [t]) (sr h T.length row) := by
  subst he
  refine k_ext fun i => ?_
  by_cases hi : i < T.length
  · have hti : T[i]? = some T[i] := List.getElem?_eq_getElem hi
    rw [List.getElem?_append_left (by rw [k_wl_len]; exact hi), k_wl_at hti, k_wl_at (t := T[i]) (by rw [List.getElem?_append_left hi]; exact hti), sr_n _ _ (by omega)]
  · rw [List.getElem?_append_right (by rw [k_wl_len]; omega), k_wl_len]
    by_cases he : i = T.length
    · subst he
      rw [Nat.sub_self, k_wl_at (t := t) (by rw [List.getElem?_append_right (Nat.le_refl _), Nat.sub_self]; rfl), sr_s]
      rfl
    · rw [List.getElem?_eq_none (by simp; omega), List.getElem?_eq_none (by rw [k_wl_len]; simp; omega)]
/-- locals by their places -/
def k_lc (G : kG) : Nat → List (Option kV) → List (Nat × Value)
  | _, [] => []
  | i, none :: r => k_lc G (i + 1) r
  | i, some v :: r => (i, kc_v G v) :: k_lc G (i + 1) r
theorem k_lc_mem {G : kG} : ∀ (lc : List (Option kV)) (i : Nat) (q : Nat × Value), q ∈ k_lc G i lc ↔ ∃ (j : Nat) (v : kV), lc[j]? = some (some v) ∧ q = (i + j, kc_v G v)
  | [], i, q => by simp [k_lc]
  | none :: r, i, q => by
    rw [k_lc, k_lc_mem r (i + 1) q]
    constructor
    · rintro ⟨j, v, h1, rfl⟩
      exact ⟨j + 1, v, by simpa using h1, by rw [show i + 1 + j = i + (j + 1) by omega]⟩
    · rintro ⟨j, v, h1, rfl⟩
      cases j with
      | zero => simp at h1
      | succ j => exact ⟨j, v, by simpa using h1, by rw [show i + 1 + j = i + (j + 1) by omega]⟩
  | some w :: r, i, q => by
    rw [k_lc, List.mem_cons, k_lc_mem r (i + 1) q]
    constructor
    · rintro (rfl | ⟨j, v, h1, rfl⟩)
      · exact ⟨0, w, by simp, by simp⟩
      · exact ⟨j + 1, v, by simpa using h1, by rw [show i + 1 + j = i + (j + 1) by omega]⟩
    · rintro ⟨j, v, h1, rfl⟩
      cases j with
      | zero => simp at h1; left; rw [h1]; simp
      | succ j => right; exact ⟨j, v, by simpa using h1, by rw [show i + 1 + j = i + (j + 1) by omega]⟩
theorem k_has_sub {ls : Array Slot} {n : Nat} {l l' : List (Nat × Value)} (h : lv_has ls n l) (hs : ∀ q ∈ l', q ∈ l) : lv_has ls n l' := ⟨h.1, h.2.1, fun q hq => h.2.2 q (hs q hq)⟩
theorem k_has_at {G : kG} {ls : Array Slot} {n : Nat} {lc : List (Option kV)} (h : lv_has ls n (k_lc G 0 lc)) {i : Nat} {v : kV} (hv : lc[i]? = some (some v)) : ls[i]? = some (.val (kc_v G v)) := by
  have h1 := h.2.2 (i, kc_v G v) ((k_lc_mem lc 0 _).mpr ⟨i, v, hv, by simp⟩)
  exact h1
/-- no long stands at the place before -/
def k_nl (lc : List (Option kV)) : Nat → Bool
  | 0 => true
  | j + 1 => match lc[j]? with
    | some (some (.inr (.inl _))) => false
    | _ => true
theorem k_cat1 {G : kG} {v : kV} (h : ∀ x, v ≠ jv x) : (kc_v G v).category = 1 := by
  rcases v with x | x | ⟨t, k⟩
  · rfl
  · exact absurd rfl (h x)
  · rfl
theorem k_cat2 {G : kG} {v : kV} (h : (kc_v G v).category = 2) : ∃ x, v = jv x := by
  rcases v with x | x | ⟨t, k⟩
  · simp [kc_v, Value.category] at h
  · exact ⟨x, rfl⟩
  · simp [kc_v, Value.category] at h
theorem k_st1 {G : kG} {ls : Array Slot} {n : Nat} {lc : List (Option kV)} {i : Nat} {v : kV} (hn : k_nl lc i = true) (h : lv_has ls n ((i, kc_v G v) :: (k_lc G 0 lc).filter (fun q => !(q.1 == i) && !(q.1 + 1 == i && q.2.category == 2)))) : lv_has ls n (k_lc G 0 (lc.set i (some v))) := by
  refine k_has_sub h fun q hq => ?_
  obtain ⟨j, w, h1, rfl⟩ := (k_lc_mem _ 0 q).mp hq
  simp only [Nat.zero_add]
  by_cases hj : j = i
  · subst hj
    have hl : j < lc.length := by
      have := (List.getElem?_eq_some_iff.mp h1).1
      simpa using this
    rw [List.getElem?_set_self hl] at h1
    cases h1
    exact List.mem_cons_self
  · rw [List.getElem?_set_ne (Ne.symm hj)] at h1
    refine List.mem_cons_of_mem _ (List.mem_filter.mpr ⟨(k_lc_mem lc 0 _).mpr ⟨j, w, h1, by simp⟩, ?_⟩)
    simp only [Bool.and_eq_true, Bool.not_eq_true', beq_eq_false_iff_ne, ne_eq, Bool.and_eq_false_iff]
    refine ⟨hj, ?_⟩
    by_cases hc : (kc_v G w).category = 2
    · left
      intro e
      obtain ⟨x, rfl⟩ := k_cat2 hc
      subst e
      simp [k_nl, h1] at hn
    · right; simpa using hc
theorem k_st2 {G : kG} {ls : Array Slot} {n : Nat} {lc : List (Option kV)} {i : Nat} {x : Int64} (hn : k_nl lc i = true) (h : lv_has ls n ((i, Value.long x) :: (k_lc G 0 lc).filter (fun q => !(q.1 == i) && (!(q.1 == i + 1) && !(q.1 + 1 == i && q.2.category == 2))))) : lv_has ls n (k_lc G 0 ((lc.set i (some (jv x))).set (i + 1) none)) := by
  refine k_has_sub h fun q hq => ?_
  obtain ⟨j, w, h1, rfl⟩ := (k_lc_mem _ 0 q).mp hq
  simp only [Nat.zero_add]
  by_cases hj1 : j = i + 1
  · subst hj1
    have hl : i + 1 < lc.length := by
      have := (List.getElem?_eq_some_iff.mp h1).1
      simpa using this
    rw [List.getElem?_set_self (by simpa using hl)] at h1
    cases h1
  · rw [List.getElem?_set_ne (Ne.symm hj1)] at h1
    by_cases hj : j = i
    · subst hj
      have hl : j < lc.length := by
        have := (List.getElem?_eq_some_iff.mp h1).1
        simpa using this
      rw [List.getElem?_set_self hl] at h1
      cases h1
      exact List.mem_cons_self
    · rw [List.getElem?_set_ne (Ne.symm hj)] at h1
      refine List.mem_cons_of_mem _ (List.mem_filter.mpr ⟨(k_lc_mem lc 0 _).mpr ⟨j, w, h1, by simp⟩, ?_⟩)
      simp only [Bool.and_eq_true, Bool.not_eq_true', beq_eq_false_iff_ne, ne_eq, Bool.and_eq_false_iff]
      refine ⟨hj, hj1, ?_⟩
      by_cases hc : (kc_v G w).category = 2
      · left
        intro e
        obtain ⟨x, rfl⟩ := k_cat2 hc
        subst e
        simp [k_nl, h1] at hn
      · right; simpa using hc
/-- the static tables of Plan -/
def k_sn : Nat → String
  | 0 => "W_BOUNDS" | 1 => "C_BOUNDS" | 2 => "XY_BOUNDS" | 3 => "P_BOUNDS" | 4 => "K_BOUNDS" | 5 => "L_BOUNDS" | 6 => "H_BOUNDS" | 7 => "D_BOUNDS" | 8 => "V_BOUNDS" | _ => "NO_BOUNDS"
def k_sl : Nat → List Int32
  | 0 => [2, 6, 2, 5] | 1 => [0, 5, 0, 4, 0, 2, 0, 199] | 2 => [0, 5, 0, 4] | 3 => [0, 5, 0, 4, 1, 9, 0, 99, 0, 9, 1, 99] | 4 => [0, 2, 1, 20, 1, 60] | 5 => [1, 30] | 6 => [30, 99, 1, 60] | 7 => [10, 300, 10, 300] | 8 => [0, 9] | _ => []
def k_NN (U : State) : Prop := ∀ q ∈ kw_nest, va_Nw (.methodLinkNest q.1 q.2.1 q.2.2.1 q.2.2.2) U
def k_tl (G : kG) (j : Nat) : Nat := if j = 10 then g_n G else (k_sl j).length
def k_tb (G : kG) (j i : Nat) : Int32 := if j = 10 then g_xs G i else (k_sl j).getD i 0
def k_SX (G : kG) (U : State) : Prop := (∀ j, j < 10 → va_Z RX3 (k_sn j) "[I" (.ref (g_s G j)) (k_A G) U U.heap) ∧ ∀ j, j < 11 → va_T .int (g_s G j) (k_tl G j) (fun i => .int (k_tb G j i)) (k_A G) U U.heap
theorem k_NN_warm {s U : State} (hW : s.WarmedH U.vm) (h : k_NN s) : k_NN U := fun q hq => va_Nw.warmM hW (h q hq)
theorem k_SX_to {G : kG} {s U : State} (hvm : s.vm.Alike U.vm) (hk : ∀ a : Nat, a < s.heap.size → ¬ k_A G a → U.heap[a]? = s.heap[a]?) (h : k_SX G s) : k_SX G U := ⟨fun j hj => ((h.1 j hj).moved hvm).kept hk, fun j hj => ((h.2 j hj).moved hvm).kept hk⟩
/-- a method: name, own class, code, decoded code, locals, answer, room -/
abbrev kM : Type := MethodName × String × ByteArray × List (Nat × Instr × Nat) × Nat × Option FieldType × Room
abbrev m_y (M : kM) : MethodName := M.1
abbrev m_own (M : kM) : String := M.2.1
abbrev m_cc (M : kM) : ByteArray := M.2.2.1
abbrev m_tab (M : kM) : List (Nat × Instr × Nat) := M.2.2.2.1
abbrev m_nL (M : kM) : Nat := M.2.2.2.2.1
abbrev m_ret (M : kM) : Option FieldType := M.2.2.2.2.2.1
abbrev m_rm (M : kM) : Room := M.2.2.2.2.2.2
abbrev kX : Type := Program × Env × State × MethodId × Array Value × List Frame × Method × Code × (State → Prop)
abbrev x_p (X : kX) : Program := X.1
abbrev x_e (X : kX) : Env := X.2.1
abbrev x_s (X : kX) : State := X.2.2.1
abbrev x_m (X : kX) : MethodId := X.2.2.2.1
abbrev x_a (X : kX) : Array Value := X.2.2.2.2.1
abbrev x_w (X : kX) : List Frame := X.2.2.2.2.2.1
abbrev x_h (X : kX) : Method := X.2.2.2.2.2.2.1
abbrev x_c (X : kX) : Code := X.2.2.2.2.2.2.2.1
abbrev x_Q (X : kX) : State → Prop := X.2.2.2.2.2.2.2.2
def k_X (G : kG) (M : kM) (X : kX) : Prop :=
  (x_p X).tables.exec = Jvm.exec ∧ (x_c X).code = m_cc M ∧ (x_c X).maxLocals = m_nL M ∧ (x_s X).vm.findClass (m_own M) = some (x_m X).cls ∧ (∀ w ∈ kw, w.before (x_a X) (x_s X) = true) ∧
  va_K (g_D G) vwCl (k_ty G) (x_s X) ∧ k_NN (x_s X) ∧ k_SX G (x_s X) ∧ g_b G ≤ (x_s X).heap.size ∧ (∀ q ∈ m_tab M, decode (m_cc M) q.1 = .ok q.2)
abbrev k_W (G : kG) (M : kM) (X : kX) (H : Heap) (locs : List Loc) (kc ks : Nat) (g : JFrame) : Prop := W (x_p X) (g_l G) (x_e X) (m_rm M) (x_s X) (x_m X) (x_a X) (x_w X) (x_h X) (x_c X) H locs kc ks (x_Q X) g
def V (G : kG) (M : kM) (X : kX) (T : List kT) (kc ks pc : Nat) (lc : List (Option kV)) (st : List kV) (h : kH) : Prop :=
  k_X G M X → k_WF T → (∀ v ∈ st, ok_v T v) → (∀ v, some v ∈ lc → ok_v T v) → ∀ (H : Heap) (ls : Array Slot) (locs : List Loc), va_P (g_D G) vwCl (k_wl G T h) H → k_AD G T → va_S (k_A G) (x_s X).heap H locs → lv_has ls (m_nL M) (k_lc G 0 lc) →
    k_W G M X H locs kc ks (F0 (x_m X) pc ls (st.map (kc_v G)))
end
section
section
variable {G : kG} {M : kM} {X : kX} {T : List kT} {kc ks pc : Nat} {lc : List (Option kV)} {st : List kV} {h : kH}
theorem k_dec (C : k_X G M X) {i n ln : Nat} {ins : Instr} (hd : (m_tab M)[i]? = some (n, ins, ln)) : decode (m_cc M) n = .ok (ins, ln) := C.2.2.2.2.2.2.2.2.2 (n, ins, ln) (List.mem_of_getElem? hd)
theorem V_st {pc' : Nat} {st' : List kV} (hok : (∀ v ∈ st, ok_v T v) → ∀ v ∈ st', ok_v T v) (hw : k_X G M X → ∀ (H : Heap) (ls : Array Slot) (locs : List Loc), k_W G M X H locs kc ks (F0 (x_m X) pc' ls (st'.map (kc_v G))) → k_W G M X H locs kc ks (F0 (x_m X) pc ls (st.map (kc_v G)))) (k : V G M X T kc ks pc' lc st' h) : V G M X T kc ks pc lc st h :=
  fun C hW hs hl H ls locs hP hz hS hL => hw C H ls locs (k C hW (hok hs) hl H ls locs hP hz hS hL)
theorem ok_c {v : kV} {a b : List kV} (hv : ok_v T v) (hs : ∀ u ∈ b, u ∈ a) (h : ∀ u ∈ a, ok_v T u) : ∀ u ∈ v :: b, ok_v T u := by
  intro u hu
  rcases List.mem_cons.mp hu with rfl | hu
  · exact hv
  · exact h u (hs u hu)
theorem k_eq {lc' : List (Option kV)} {st' : List kV} {h' : kH} (k : V G M X T kc ks pc lc' st' h') (e1 : lc = lc') (e2 : st = st') (e3 : h = h') : V G M X T kc ks pc lc st h := by subst e1; subst e2; subst e3; exact k
theorem V_iconst {n : Int} (v : Int32) (i : Nat) (hd : (m_tab M)[i]? = some (pc, .iconst n, 1)) (hv : Int32.ofInt n = v) (k : V G M X T kc ks (pc + 1) lc (iv v :: st) h) : V G M X T kc ks pc lc st h :=
  V_st (pc' := pc + 1) (st' := iv v :: st) (fun hs => ok_c (v := iv v) (a := st) (b := st) trivial (fun _ q => q) hs) (fun C H ls locs w => lv_iconst C.1 C.2.1 (k_dec C hd) hv w) k
theorem V_bipush {n : Int} (v : Int32) (i : Nat) (hd : (m_tab M)[i]? = some (pc, .bipush n, 2)) (hv : (Int8.ofInt n).toInt32 = v) (k : V G M X T kc ks (pc + 2) lc (iv v :: st) h) : V G M X T kc ks pc lc st h :=
  V_st (pc' := pc + 2) (st' := iv v :: st) (fun hs => ok_c (v := iv v) (a := st) (b := st) trivial (fun _ q => q) hs) (fun C H ls locs w => lv_bipush C.1 C.2.1 (k_dec C hd) hv w) k
theorem V_sipush {n : Int} (v : Int32) (i : Nat) (hd : (m_tab M)[i]? = some (pc, .sipush n, 3)) (hv : (Int16.ofInt n).toInt32 = v) (k : V G M X T kc ks (pc + 3) lc (iv v :: st) h) : V G M X T kc ks pc lc st h :=
  V_st (pc' := pc + 3) (st' := iv v :: st) (fun hs => ok_c (v := iv v) (a := st) (b := st) trivial (fun _ q => q) hs) (fun C H ls locs w => lv_sipush C.1 C.2.1 (k_dec C hd) hv w) k
theorem V_lconst {n : Fin 2} (v : Int64) (i : Nat) (hd : (m_tab M)[i]? = some (pc, .lconst n, 1)) (hv : Int64.ofNat (n : Nat) = v) (k : V G M X T kc ks (pc + 1) lc (jv v :: st) h) : V G M X T kc ks pc lc st h :=
  V_st (pc' := pc + 1) (st' := jv v :: st) (fun hs => ok_c (v := jv v) (a := st) (b := st) trivial (fun _ q => q) hs) (fun C H ls locs w => lv_lconst C.1 C.2.1 (k_dec C hd) hv w) k
theorem V_ldc2 {n : Nat} (v : Int64) (i : Nat) (hd : (m_tab M)[i]? = some (pc, .ldc2_w n, 3)) (hv : Jvm.Cond.constantLong (m_own M) n v ∈ kw) (k : V G M X T kc ks (pc + 3) lc (jv v :: st) h) : V G M X T kc ks pc lc st h :=
  V_st (pc' := pc + 3) (st' := jv v :: st) (fun hs => ok_c (v := jv v) (a := st) (b := st) trivial (fun _ q => q) hs) (fun C H ls locs w => lv_ldc2 C.1 C.2.1 C.2.2.2.1 (C.2.2.2.2.1 _ hv) (k_dec C hd) w) k
theorem V_iadd {x y : Int32} (i : Nat) (hd : (m_tab M)[i]? = some (pc, .iadd, 1))  (k : V G M X T kc ks (pc + 1) lc (iv (x + y) :: st) h) : V G M X T kc ks pc lc (iv y :: iv x :: st) h :=
  V_st (pc' := pc + 1) (st' := iv (x + y) :: st) (fun hs => ok_c (v := iv (x + y)) (a := iv y :: iv x :: st) (b := st) trivial (fun _ q => List.mem_cons_of_mem _ (List.mem_cons_of_mem _ (q))) hs) (fun C H ls locs w => lv_iadd C.1 C.2.1 (k_dec C hd)  w) k
theorem V_isub {x y : Int32} (i : Nat) (hd : (m_tab M)[i]? = some (pc, .isub, 1))  (k : V G M X T kc ks (pc + 1) lc (iv (x - y) :: st) h) : V G M X T kc ks pc lc (iv y :: iv x :: st) h :=
  V_st (pc' := pc + 1) (st' := iv (x - y) :: st) (fun hs => ok_c (v := iv (x - y)) (a := iv y :: iv x :: st) (b := st) trivial (fun _ q => List.mem_cons_of_mem _ (List.mem_cons_of_mem _ (q))) hs) (fun C H ls locs w => lv_isub C.1 C.2.1 (k_dec C hd)  w) k
theorem V_imul {x y : Int32} (i : Nat) (hd : (m_tab M)[i]? = some (pc, .imul, 1))  (k : V G M X T kc ks (pc + 1) lc (iv (x * y) :: st) h) : V G M X T kc ks pc lc (iv y :: iv x :: st) h :=
  V_st (pc' := pc + 1) (st' := iv (x * y) :: st) (fun hs => ok_c (v := iv (x * y)) (a := iv y :: iv x :: st) (b := st) trivial (fun _ q => List.mem_cons_of_mem _ (List.mem_cons_of_mem _ (q))) hs) (fun C H ls locs w => lv_imul C.1 C.2.1 (k_dec C hd)  w) k
theorem V_iand {x y : Int32} (i : Nat) (hd : (m_tab M)[i]? = some (pc, .iand, 1))  (k : V G M X T kc ks (pc + 1) lc (iv (x &&& y) :: st) h) : V G M X T kc ks pc lc (iv y :: iv x :: st) h :=
  V_st (pc' := pc + 1) (st' := iv (x &&& y) :: st) (fun hs => ok_c (v := iv (x &&& y)) (a := iv y :: iv x :: st) (b := st) trivial (fun _ q => List.mem_cons_of_mem _ (List.mem_cons_of_mem _ (q))) hs) (fun C H ls locs w => lv_iand C.1 C.2.1 (k_dec C hd)  w) k
theorem V_ior {x y : Int32} (i : Nat) (hd : (m_tab M)[i]? = some (pc, .ior, 1))  (k : V G M X T kc ks (pc + 1) lc (iv (x ||| y) :: st) h) : V G M X T kc ks pc lc (iv y :: iv x :: st) h :=
  V_st (pc' := pc + 1) (st' := iv (x ||| y) :: st) (fun hs => ok_c (v := iv (x ||| y)) (a := iv y :: iv x :: st) (b := st) trivial (fun _ q => List.mem_cons_of_mem _ (List.mem_cons_of_mem _ (q))) hs) (fun C H ls locs w => lv_ior C.1 C.2.1 (k_dec C hd)  w) k
theorem V_idiv {x y : Int32} (i : Nat) (hd : (m_tab M)[i]? = some (pc, .idiv, 1)) (hne : ¬ y = 0) (k : V G M X T kc ks (pc + 1) lc (iv (x / y) :: st) h) : V G M X T kc ks pc lc (iv y :: iv x :: st) h :=
  V_st (pc' := pc + 1) (st' := iv (x / y) :: st) (fun hs => ok_c (v := iv (x / y)) (a := iv y :: iv x :: st) (b := st) trivial (fun _ q => List.mem_cons_of_mem _ (List.mem_cons_of_mem _ (q))) hs) (fun C H ls locs w => lv_idiv C.1 C.2.1 (k_dec C hd) hne w) k
theorem V_irem {x y : Int32} (i : Nat) (hd : (m_tab M)[i]? = some (pc, .irem, 1)) (hne : ¬ y = 0) (k : V G M X T kc ks (pc + 1) lc (iv (x - x / y * y) :: st) h) : V G M X T kc ks pc lc (iv y :: iv x :: st) h :=
  V_st (pc' := pc + 1) (st' := iv (x - x / y * y) :: st) (fun hs => ok_c (v := iv (x - x / y * y)) (a := iv y :: iv x :: st) (b := st) trivial (fun _ q => List.mem_cons_of_mem _ (List.mem_cons_of_mem _ (q))) hs) (fun C H ls locs w => lv_irem C.1 C.2.1 (k_dec C hd) hne w) k
theorem V_ineg {x : Int32} (i : Nat) (hd : (m_tab M)[i]? = some (pc, .ineg, 1))  (k : V G M X T kc ks (pc + 1) lc (iv (-x) :: st) h) : V G M X T kc ks pc lc (iv x :: st) h :=
  V_st (pc' := pc + 1) (st' := iv (-x) :: st) (fun hs => ok_c (v := iv (-x)) (a := iv x :: st) (b := st) trivial (fun _ q => List.mem_cons_of_mem _ (q)) hs) (fun C H ls locs w => lv_ineg C.1 C.2.1 (k_dec C hd)  w) k
theorem V_ladd {x y : Int64} (i : Nat) (hd : (m_tab M)[i]? = some (pc, .ladd, 1))  (k : V G M X T kc ks (pc + 1) lc (jv (x + y) :: st) h) : V G M X T kc ks pc lc (jv y :: jv x :: st) h :=
  V_st (pc' := pc + 1) (st' := jv (x + y) :: st) (fun hs => ok_c (v := jv (x + y)) (a := jv y :: jv x :: st) (b := st) trivial (fun _ q => List.mem_cons_of_mem _ (List.mem_cons_of_mem _ (q))) hs) (fun C H ls locs w => lv_ladd C.1 C.2.1 (k_dec C hd)  w) k
theorem V_lmul {x y : Int64} (i : Nat) (hd : (m_tab M)[i]? = some (pc, .lmul, 1))  (k : V G M X T kc ks (pc + 1) lc (jv (x * y) :: st) h) : V G M X T kc ks pc lc (jv y :: jv x :: st) h :=
  V_st (pc' := pc + 1) (st' := jv (x * y) :: st) (fun hs => ok_c (v := jv (x * y)) (a := jv y :: jv x :: st) (b := st) trivial (fun _ q => List.mem_cons_of_mem _ (List.mem_cons_of_mem _ (q))) hs) (fun C H ls locs w => lv_lmul C.1 C.2.1 (k_dec C hd)  w) k
theorem V_land {x y : Int64} (i : Nat) (hd : (m_tab M)[i]? = some (pc, .land, 1))  (k : V G M X T kc ks (pc + 1) lc (jv (x &&& y) :: st) h) : V G M X T kc ks pc lc (jv y :: jv x :: st) h :=
  V_st (pc' := pc + 1) (st' := jv (x &&& y) :: st) (fun hs => ok_c (v := jv (x &&& y)) (a := jv y :: jv x :: st) (b := st) trivial (fun _ q => List.mem_cons_of_mem _ (List.mem_cons_of_mem _ (q))) hs) (fun C H ls locs w => lv_land C.1 C.2.1 (k_dec C hd)  w) k
theorem V_lor {x y : Int64} (i : Nat) (hd : (m_tab M)[i]? = some (pc, .lor, 1))  (k : V G M X T kc ks (pc + 1) lc (jv (x ||| y) :: st) h) : V G M X T kc ks pc lc (jv y :: jv x :: st) h :=
  V_st (pc' := pc + 1) (st' := jv (x ||| y) :: st) (fun hs => ok_c (v := jv (x ||| y)) (a := jv y :: jv x :: st) (b := st) trivial (fun _ q => List.mem_cons_of_mem _ (List.mem_cons_of_mem _ (q))) hs) (fun C H ls locs w => lv_lor C.1 C.2.1 (k_dec C hd)  w) k
theorem V_lrem {x y : Int64} (i : Nat) (hd : (m_tab M)[i]? = some (pc, .lrem, 1)) (hne : ¬ y = 0) (k : V G M X T kc ks (pc + 1) lc (jv (x - x / y * y) :: st) h) : V G M X T kc ks pc lc (jv y :: jv x :: st) h :=
  V_st (pc' := pc + 1) (st' := jv (x - x / y * y) :: st) (fun hs => ok_c (v := jv (x - x / y * y)) (a := jv y :: jv x :: st) (b := st) trivial (fun _ q => List.mem_cons_of_mem _ (List.mem_cons_of_mem _ (q))) hs) (fun C H ls locs w => lv_lrem C.1 C.2.1 (k_dec C hd) hne w) k
theorem V_i2l {x : Int32} (i : Nat) (hd : (m_tab M)[i]? = some (pc, .i2l, 1))  (k : V G M X T kc ks (pc + 1) lc (jv x.toInt64 :: st) h) : V G M X T kc ks pc lc (iv x :: st) h :=
  V_st (pc' := pc + 1) (st' := jv x.toInt64 :: st) (fun hs => ok_c (v := jv x.toInt64) (a := iv x :: st) (b := st) trivial (fun _ q => List.mem_cons_of_mem _ (q)) hs) (fun C H ls locs w => lv_i2l C.1 C.2.1 (k_dec C hd) rfl w) k
theorem V_l2i {x : Int64} (i : Nat) (hd : (m_tab M)[i]? = some (pc, .l2i, 1))  (k : V G M X T kc ks (pc + 1) lc (iv x.toInt32 :: st) h) : V G M X T kc ks pc lc (jv x :: st) h :=
  V_st (pc' := pc + 1) (st' := iv x.toInt32 :: st) (fun hs => ok_c (v := iv x.toInt32) (a := jv x :: st) (b := st) trivial (fun _ q => List.mem_cons_of_mem _ (q)) hs) (fun C H ls locs w => lv_l2i C.1 C.2.1 (k_dec C hd) rfl w) k
theorem V_i2b {x : Int32} (i : Nat) (hd : (m_tab M)[i]? = some (pc, .i2b, 1))  (k : V G M X T kc ks (pc + 1) lc (iv x.toInt8.toInt32 :: st) h) : V G M X T kc ks pc lc (iv x :: st) h :=
  V_st (pc' := pc + 1) (st' := iv x.toInt8.toInt32 :: st) (fun hs => ok_c (v := iv x.toInt8.toInt32) (a := iv x :: st) (b := st) trivial (fun _ q => List.mem_cons_of_mem _ (q)) hs) (fun C H ls locs w => lv_i2b C.1 C.2.1 (k_dec C hd) rfl w) k
theorem V_lshl {x : Int64} {y : Int32} (i : Nat) (hd : (m_tab M)[i]? = some (pc, .lshl, 1))  (k : V G M X T kc ks (pc + 1) lc (jv (x <<< (y.toInt64 &&& 63)) :: st) h) : V G M X T kc ks pc lc (iv y :: jv x :: st) h :=
  V_st (pc' := pc + 1) (st' := jv (x <<< (y.toInt64 &&& 63)) :: st) (fun hs => ok_c (v := jv (x <<< (y.toInt64 &&& 63))) (a := iv y :: jv x :: st) (b := st) trivial (fun _ q => List.mem_cons_of_mem _ (List.mem_cons_of_mem _ (q))) hs) (fun C H ls locs w => lv_lshl C.1 C.2.1 (k_dec C hd) rfl w) k
theorem V_lshr {x : Int64} {y : Int32} (i : Nat) (hd : (m_tab M)[i]? = some (pc, .lshr, 1))  (k : V G M X T kc ks (pc + 1) lc (jv (x >>> (y.toInt64 &&& 63)) :: st) h) : V G M X T kc ks pc lc (iv y :: jv x :: st) h :=
  V_st (pc' := pc + 1) (st' := jv (x >>> (y.toInt64 &&& 63)) :: st) (fun hs => ok_c (v := jv (x >>> (y.toInt64 &&& 63))) (a := iv y :: jv x :: st) (b := st) trivial (fun _ q => List.mem_cons_of_mem _ (List.mem_cons_of_mem _ (q))) hs) (fun C H ls locs w => lv_lshr C.1 C.2.1 (k_dec C hd) rfl w) k
theorem V_lcmp {x y : Int64} (i : Nat) (hd : (m_tab M)[i]? = some (pc, .lcmp, 1))  (k : V G M X T kc ks (pc + 1) lc (iv (lg_cmp x y) :: st) h) : V G M X T kc ks pc lc (jv y :: jv x :: st) h :=
  V_st (pc' := pc + 1) (st' := iv (lg_cmp x y) :: st) (fun hs => ok_c (v := iv (lg_cmp x y)) (a := jv y :: jv x :: st) (b := st) trivial (fun _ q => List.mem_cons_of_mem _ (List.mem_cons_of_mem _ (q))) hs) (fun C H ls locs w => W.lcmp C.1 C.2.1 (k_dec C hd)  w) k
theorem V_dup {v : kV} (i : Nat) (hd : (m_tab M)[i]? = some (pc, .dup, 1)) (hv : ∀ x, v ≠ jv x) (k : V G M X T kc ks (pc + 1) lc (v :: v :: st) h) : V G M X T kc ks pc lc (v :: st) h :=
  V_st (pc' := pc + 1) (st' := v :: v :: st) (fun hs => ok_c (hs v List.mem_cons_self) (fun _ q => q) hs) (fun C H ls locs w => lv_dup C.1 C.2.1 (k_dec C hd) (k_cat1 hv) w) k
theorem V_pop {v : kV} (i : Nat) (hd : (m_tab M)[i]? = some (pc, .pop, 1)) (hv : ∀ x, v ≠ jv x) (k : V G M X T kc ks (pc + 1) lc st h) : V G M X T kc ks pc lc (v :: st) h :=
  V_st (pc' := pc + 1) (st' := st) (fun hs u hu => hs u (List.mem_cons_of_mem _ hu)) (fun C H ls locs w => lv_pop C.1 C.2.1 (k_dec C hd) (k_cat1 hv) w) k
theorem V_dup2 {v u : kV} (i : Nat) (hd : (m_tab M)[i]? = some (pc, .dup2, 1)) (hv : ∀ x, v ≠ jv x) (hu : ∀ x, u ≠ jv x) (k : V G M X T kc ks (pc + 1) lc (v :: u :: v :: u :: st) h) : V G M X T kc ks pc lc (v :: u :: st) h :=
  V_st (pc' := pc + 1) (st' := v :: u :: v :: u :: st) (fun hs => ok_c (hs v List.mem_cons_self) (fun _ q => q) (ok_c (hs u (List.mem_cons_of_mem _ List.mem_cons_self)) (fun _ q => q) hs)) (fun C H ls locs w => lv_dup2_11 C.1 C.2.1 (k_dec C hd) (k_cat1 hv) (k_cat1 hu) w) k
theorem nj_i {y : Int32} : ∀ x, iv y ≠ jv x := fun _ e => by cases e
theorem nj_r {t : kT} {k : Nat} : ∀ x, rv t k ≠ jv x := fun _ e => by cases e
theorem V_goto {off : Int} (tgt : Nat) (i : Nat) (hd : (m_tab M)[i]? = some (pc, .goto off, 3)) (ht : (pc : Int) + off = (tgt : Int)) (k : V G M X T kc ks tgt lc st h) : V G M X T kc ks pc lc st h :=
  V_st (pc' := tgt) (st' := st) (fun hs => hs) (fun C H ls locs w => lv_goto C.1 C.2.1 (k_dec C hd) ht w) k
theorem V_if_eq {x : Int32} {off : Int} (tgt : Nat) (i : Nat) (hd : (m_tab M)[i]? = some (pc, .ifCond .eq off, 3)) (ht : (pc : Int) + off = (tgt : Int)) (k1 : x = 0 → V G M X T kc ks tgt lc st h) (k2 : ¬ x = 0 → V G M X T kc ks (pc + 3) lc st h) : V G M X T kc ks pc lc (iv x :: st) h :=
  fun C hW hs hl H ls locs hP hz hS hL => lv_if_eq C.1 C.2.1 (k_dec C hd) ht (fun c => k1 c C hW (fun u hu => hs u (List.mem_cons_of_mem _ hu)) hl H ls locs hP hz hS hL) (fun c => k2 c C hW (fun u hu => hs u (List.mem_cons_of_mem _ hu)) hl H ls locs hP hz hS hL)
theorem V_icmp_eq {x y : Int32} {off : Int} (tgt : Nat) (i : Nat) (hd : (m_tab M)[i]? = some (pc, .if_icmp .eq off, 3)) (ht : (pc : Int) + off = (tgt : Int)) (k1 : x = y → V G M X T kc ks tgt lc st h) (k2 : ¬ x = y → V G M X T kc ks (pc + 3) lc st h) : V G M X T kc ks pc lc (iv y :: iv x :: st) h :=
  fun C hW hs hl H ls locs hP hz hS hL => lv_icmp_eq C.1 C.2.1 (k_dec C hd) ht (fun c => k1 c C hW (fun u hu => hs u (List.mem_cons_of_mem _ (List.mem_cons_of_mem _ hu))) hl H ls locs hP hz hS hL) (fun c => k2 c C hW (fun u hu => hs u (List.mem_cons_of_mem _ (List.mem_cons_of_mem _ hu))) hl H ls locs hP hz hS hL)
theorem V_if_ne {x : Int32} {off : Int} (tgt : Nat) (i : Nat) (hd : (m_tab M)[i]? = some (pc, .ifCond .ne off, 3)) (ht : (pc : Int) + off = (tgt : Int)) (k1 : ¬ x = 0 → V G M X T kc ks tgt lc st h) (k2 : x = 0 → V G M X T kc ks (pc + 3) lc st h) : V G M X T kc ks pc lc (iv x :: st) h :=
  fun C hW hs hl H ls locs hP hz hS hL => lv_if_ne C.1 C.2.1 (k_dec C hd) ht (fun c => k1 c C hW (fun u hu => hs u (List.mem_cons_of_mem _ hu)) hl H ls locs hP hz hS hL) (fun c => k2 c C hW (fun u hu => hs u (List.mem_cons_of_mem _ hu)) hl H ls locs hP hz hS hL)
theorem V_icmp_ne {x y : Int32} {off : Int} (tgt : Nat) (i : Nat) (hd : (m_tab M)[i]? = some (pc, .if_icmp .ne off, 3)) (ht : (pc : Int) + off = (tgt : Int)) (k1 : ¬ x = y → V G M X T kc ks tgt lc st h) (k2 : x = y → V G M X T kc ks (pc + 3) lc st h) : V G M X T kc ks pc lc (iv y :: iv x :: st) h :=
  fun C hW hs hl H ls locs hP hz hS hL => lv_icmp_ne C.1 C.2.1 (k_dec C hd) ht (fun c => k1 c C hW (fun u hu => hs u (List.mem_cons_of_mem _ (List.mem_cons_of_mem _ hu))) hl H ls locs hP hz hS hL) (fun c => k2 c C hW (fun u hu => hs u (List.mem_cons_of_mem _ (List.mem_cons_of_mem _ hu))) hl H ls locs hP hz hS hL)
theorem V_if_lt {x : Int32} {off : Int} (tgt : Nat) (i : Nat) (hd : (m_tab M)[i]? = some (pc, .ifCond .lt off, 3)) (ht : (pc : Int) + off = (tgt : Int)) (k1 : x < 0 → V G M X T kc ks tgt lc st h) (k2 : ¬ x < 0 → V G M X T kc ks (pc + 3) lc st h) : V G M X T kc ks pc lc (iv x :: st) h :=
  fun C hW hs hl H ls locs hP hz hS hL => lv_if_lt C.1 C.2.1 (k_dec C hd) ht (fun c => k1 c C hW (fun u hu => hs u (List.mem_cons_of_mem _ hu)) hl H ls locs hP hz hS hL) (fun c => k2 c C hW (fun u hu => hs u (List.mem_cons_of_mem _ hu)) hl H ls locs hP hz hS hL)
theorem V_icmp_lt {x y : Int32} {off : Int} (tgt : Nat) (i : Nat) (hd : (m_tab M)[i]? = some (pc, .if_icmp .lt off, 3)) (ht : (pc : Int) + off = (tgt : Int)) (k1 : x < y → V G M X T kc ks tgt lc st h) (k2 : ¬ x < y → V G M X T kc ks (pc + 3) lc st h) : V G M X T kc ks pc lc (iv y :: iv x :: st) h :=
  fun C hW hs hl H ls locs hP hz hS hL => lv_icmp_lt C.1 C.2.1 (k_dec C hd) ht (fun c => k1 c C hW (fun u hu => hs u (List.mem_cons_of_mem _ (List.mem_cons_of_mem _ hu))) hl H ls locs hP hz hS hL) (fun c => k2 c C hW (fun u hu => hs u (List.mem_cons_of_mem _ (List.mem_cons_of_mem _ hu))) hl H ls locs hP hz hS hL)
theorem V_if_ge {x : Int32} {off : Int} (tgt : Nat) (i : Nat) (hd : (m_tab M)[i]? = some (pc, .ifCond .ge off, 3)) (ht : (pc : Int) + off = (tgt : Int)) (k1 : 0 ≤ x → V G M X T kc ks tgt lc st h) (k2 : ¬ 0 ≤ x → V G M X T kc ks (pc + 3) lc st h) : V G M X T kc ks pc lc (iv x :: st) h :=
  fun C hW hs hl H ls locs hP hz hS hL => lv_if_ge C.1 C.2.1 (k_dec C hd) ht (fun c => k1 c C hW (fun u hu => hs u (List.mem_cons_of_mem _ hu)) hl H ls locs hP hz hS hL) (fun c => k2 c C hW (fun u hu => hs u (List.mem_cons_of_mem _ hu)) hl H ls locs hP hz hS hL)
theorem V_icmp_ge {x y : Int32} {off : Int} (tgt : Nat) (i : Nat) (hd : (m_tab M)[i]? = some (pc, .if_icmp .ge off, 3)) (ht : (pc : Int) + off = (tgt : Int)) (k1 : y ≤ x → V G M X T kc ks tgt lc st h) (k2 : ¬ y ≤ x → V G M X T kc ks (pc + 3) lc st h) : V G M X T kc ks pc lc (iv y :: iv x :: st) h :=
  fun C hW hs hl H ls locs hP hz hS hL => lv_icmp_ge C.1 C.2.1 (k_dec C hd) ht (fun c => k1 c C hW (fun u hu => hs u (List.mem_cons_of_mem _ (List.mem_cons_of_mem _ hu))) hl H ls locs hP hz hS hL) (fun c => k2 c C hW (fun u hu => hs u (List.mem_cons_of_mem _ (List.mem_cons_of_mem _ hu))) hl H ls locs hP hz hS hL)
theorem V_if_gt {x : Int32} {off : Int} (tgt : Nat) (i : Nat) (hd : (m_tab M)[i]? = some (pc, .ifCond .gt off, 3)) (ht : (pc : Int) + off = (tgt : Int)) (k1 : 0 < x → V G M X T kc ks tgt lc st h) (k2 : ¬ 0 < x → V G M X T kc ks (pc + 3) lc st h) : V G M X T kc ks pc lc (iv x :: st) h :=
  fun C hW hs hl H ls locs hP hz hS hL => lv_if_gt C.1 C.2.1 (k_dec C hd) ht (fun c => k1 c C hW (fun u hu => hs u (List.mem_cons_of_mem _ hu)) hl H ls locs hP hz hS hL) (fun c => k2 c C hW (fun u hu => hs u (List.mem_cons_of_mem _ hu)) hl H ls locs hP hz hS hL)
theorem V_icmp_gt {x y : Int32} {off : Int} (tgt : Nat) (i : Nat) (hd : (m_tab M)[i]? = some (pc, .if_icmp .gt off, 3)) (ht : (pc : Int) + off = (tgt : Int)) (k1 : y < x → V G M X T kc ks tgt lc st h) (k2 : ¬ y < x → V G M X T kc ks (pc + 3) lc st h) : V G M X T kc ks pc lc (iv y :: iv x :: st) h :=
  fun C hW hs hl H ls locs hP hz hS hL => lv_icmp_gt C.1 C.2.1 (k_dec C hd) ht (fun c => k1 c C hW (fun u hu => hs u (List.mem_cons_of_mem _ (List.mem_cons_of_mem _ hu))) hl H ls locs hP hz hS hL) (fun c => k2 c C hW (fun u hu => hs u (List.mem_cons_of_mem _ (List.mem_cons_of_mem _ hu))) hl H ls locs hP hz hS hL)
theorem V_if_le {x : Int32} {off : Int} (tgt : Nat) (i : Nat) (hd : (m_tab M)[i]? = some (pc, .ifCond .le off, 3)) (ht : (pc : Int) + off = (tgt : Int)) (k1 : x ≤ 0 → V G M X T kc ks tgt lc st h) (k2 : ¬ x ≤ 0 → V G M X T kc ks (pc + 3) lc st h) : V G M X T kc ks pc lc (iv x :: st) h :=
  fun C hW hs hl H ls locs hP hz hS hL => lv_if_le C.1 C.2.1 (k_dec C hd) ht (fun c => k1 c C hW (fun u hu => hs u (List.mem_cons_of_mem _ hu)) hl H ls locs hP hz hS hL) (fun c => k2 c C hW (fun u hu => hs u (List.mem_cons_of_mem _ hu)) hl H ls locs hP hz hS hL)
theorem V_icmp_le {x y : Int32} {off : Int} (tgt : Nat) (i : Nat) (hd : (m_tab M)[i]? = some (pc, .if_icmp .le off, 3)) (ht : (pc : Int) + off = (tgt : Int)) (k1 : x ≤ y → V G M X T kc ks tgt lc st h) (k2 : ¬ x ≤ y → V G M X T kc ks (pc + 3) lc st h) : V G M X T kc ks pc lc (iv y :: iv x :: st) h :=
  fun C hW hs hl H ls locs hP hz hS hL => lv_icmp_le C.1 C.2.1 (k_dec C hd) ht (fun c => k1 c C hW (fun u hu => hs u (List.mem_cons_of_mem _ (List.mem_cons_of_mem _ hu))) hl H ls locs hP hz hS hL) (fun c => k2 c C hW (fun u hu => hs u (List.mem_cons_of_mem _ (List.mem_cons_of_mem _ hu))) hl H ls locs hP hz hS hL)
theorem V_tabOut {dflt lo hi : Int} {offs : Array Int} {len : Nat} {x : Int32} (tgt : Nat) (i : Nat) (hd : (m_tab M)[i]? = some (pc, .tableswitch dflt lo hi offs, len)) (ho : x.toInt < lo ∨ hi < x.toInt) (ht : (pc : Int) + dflt = (tgt : Int)) (k : V G M X T kc ks tgt lc st h) : V G M X T kc ks pc lc (iv x :: st) h :=
  V_st (pc' := tgt) (st' := st) (fun hs u hu => hs u (List.mem_cons_of_mem _ hu)) (fun C H ls locs w => lv_tableOut C.1 C.2.1 (k_dec C hd) ho ht w) k
theorem V_tabIn {dflt lo hi : Int} {offs : Array Int} {len : Nat} {x : Int32} {off : Int} (tgt : Nat) (i : Nat) (hd : (m_tab M)[i]? = some (pc, .tableswitch dflt lo hi offs, len)) (h1 : ¬ x.toInt < lo) (h2 : ¬ hi < x.toInt) (ho : offs[(x.toInt - lo).toNat]? = some off) (ht : (pc : Int) + off = (tgt : Int)) (k : V G M X T kc ks tgt lc st h) : V G M X T kc ks pc lc (iv x :: st) h :=
  V_st (pc' := tgt) (st' := st) (fun hs u hu => hs u (List.mem_cons_of_mem _ hu)) (fun C H ls locs w => lv_tableIn C.1 C.2.1 (k_dec C hd) h1 h2 ho ht w) k
theorem V_iload {j : Nat} {x : Int32} (i : Nat) (hd : (m_tab M)[i]? = some (pc, .iload j, 2)) (hv : lc[j]? = some (some (iv x))) (k : V G M X T kc ks (pc + 2) lc (iv x :: st) h) : V G M X T kc ks pc lc st h :=
  fun C hW hs hl H ls locs hP hz hS hL => lv_iload C.1 C.2.1 (k_dec C hd) (k_has_at hL hv) (k C hW (ok_c (hl _ (List.mem_of_getElem? hv)) (fun _ q => q) hs) hl H ls locs hP hz hS hL)
theorem V_iload_n {j : Fin 4} {x : Int32} (i : Nat) (hd : (m_tab M)[i]? = some (pc, .iload_n j, 1)) (hv : lc[(j : Nat)]? = some (some (iv x))) (k : V G M X T kc ks (pc + 1) lc (iv x :: st) h) : V G M X T kc ks pc lc st h :=
  fun C hW hs hl H ls locs hP hz hS hL => lv_iload_n C.1 C.2.1 (k_dec C hd) rfl (k_has_at hL hv) (k C hW (ok_c (hl _ (List.mem_of_getElem? hv)) (fun _ q => q) hs) hl H ls locs hP hz hS hL)
theorem V_lload {j : Nat} {x : Int64} (i : Nat) (hd : (m_tab M)[i]? = some (pc, .lload j, 2)) (hv : lc[j]? = some (some (jv x))) (k : V G M X T kc ks (pc + 2) lc (jv x :: st) h) : V G M X T kc ks pc lc st h :=
  fun C hW hs hl H ls locs hP hz hS hL => lv_lload C.1 C.2.1 (k_dec C hd) (k_has_at hL hv) (k C hW (ok_c (hl _ (List.mem_of_getElem? hv)) (fun _ q => q) hs) hl H ls locs hP hz hS hL)
theorem V_lload_n {j : Fin 4} {x : Int64} (i : Nat) (hd : (m_tab M)[i]? = some (pc, .lload_n j, 1)) (hv : lc[(j : Nat)]? = some (some (jv x))) (k : V G M X T kc ks (pc + 1) lc (jv x :: st) h) : V G M X T kc ks pc lc st h :=
  fun C hW hs hl H ls locs hP hz hS hL => lv_lload_n C.1 C.2.1 (k_dec C hd) rfl (k_has_at hL hv) (k C hW (ok_c (hl _ (List.mem_of_getElem? hv)) (fun _ q => q) hs) hl H ls locs hP hz hS hL)
theorem V_aload {j : Nat} {t : kT} {a : Nat} (i : Nat) (hd : (m_tab M)[i]? = some (pc, .aload j, 2)) (hv : lc[j]? = some (some (rv t a))) (k : V G M X T kc ks (pc + 2) lc (rv t a :: st) h) : V G M X T kc ks pc lc st h :=
  fun C hW hs hl H ls locs hP hz hS hL => lv_aload C.1 C.2.1 (k_dec C hd) (k_has_at hL hv) (k C hW (ok_c (hl _ (List.mem_of_getElem? hv)) (fun _ q => q) hs) hl H ls locs hP hz hS hL)
theorem V_aload_n {j : Fin 4} {t : kT} {a : Nat} (i : Nat) (hd : (m_tab M)[i]? = some (pc, .aload_n j, 1)) (hv : lc[(j : Nat)]? = some (some (rv t a))) (k : V G M X T kc ks (pc + 1) lc (rv t a :: st) h) : V G M X T kc ks pc lc st h :=
  fun C hW hs hl H ls locs hP hz hS hL => lv_aload_n C.1 C.2.1 (k_dec C hd) rfl (k_has_at hL hv) (k C hW (ok_c (hl _ (List.mem_of_getElem? hv)) (fun _ q => q) hs) hl H ls locs hP hz hS hL)
theorem k_lset {v : kV} {j : Nat} (hv : ok_v T v) (hl : ∀ u, some u ∈ lc → ok_v T u) : ∀ u, some u ∈ lc.set j (some v) → ok_v T u := by
  intro u hu
  rcases List.mem_or_eq_of_mem_set hu with hu | hu
  · exact hl u hu
  · cases hu; exact hv
theorem k_lset0 {j : Nat} (hl : ∀ u, some u ∈ lc → ok_v T u) : ∀ u, some u ∈ lc.set j none → ok_v T u := by
  intro u hu
  rcases List.mem_or_eq_of_mem_set hu with hu | hu
  · exact hl u hu
  · cases hu
theorem V_istore {j : Nat} {x : Int32} (i : Nat) (hd : (m_tab M)[i]? = some (pc, .istore j, 2)) (hn : j < m_nL M) (hk : k_nl lc j = true) (k : V G M X T kc ks (pc + 2) (lc.set j (some (iv x))) st h) : V G M X T kc ks pc lc (iv x :: st) h :=
  fun C hW hs hl H ls locs hP hz hS hL => lv_istore C.1 C.2.1 (k_dec C hd) hL hn rfl (fun ls1 hL1 => k C hW (fun u hu => hs u (List.mem_cons_of_mem _ hu)) (k_lset (hs _ List.mem_cons_self) hl) H ls1 locs hP hz hS (k_st1 hk hL1))
theorem V_istore_n {j : Fin 4} {x : Int32} (i : Nat) (hd : (m_tab M)[i]? = some (pc, .istore_n j, 1)) (hn : (j : Nat) < m_nL M) (hk : k_nl lc (j : Nat) = true) (k : V G M X T kc ks (pc + 1) (lc.set (j : Nat) (some (iv x))) st h) : V G M X T kc ks pc lc (iv x :: st) h :=
  fun C hW hs hl H ls locs hP hz hS hL => lv_istore_n C.1 C.2.1 (k_dec C hd) rfl hL hn rfl (fun ls1 hL1 => k C hW (fun u hu => hs u (List.mem_cons_of_mem _ hu)) (k_lset (hs _ List.mem_cons_self) hl) H ls1 locs hP hz hS (k_st1 hk hL1))
theorem V_astore {j : Nat} {t : kT} {a : Nat} (i : Nat) (hd : (m_tab M)[i]? = some (pc, .astore j, 2)) (hn : j < m_nL M) (hk : k_nl lc j = true) (k : V G M X T kc ks (pc + 2) (lc.set j (some (rv t a))) st h) : V G M X T kc ks pc lc (rv t a :: st) h :=
  fun C hW hs hl H ls locs hP hz hS hL => lv_astore C.1 C.2.1 (k_dec C hd) hL hn rfl (fun ls1 hL1 => k C hW (fun u hu => hs u (List.mem_cons_of_mem _ hu)) (k_lset (hs _ List.mem_cons_self) hl) H ls1 locs hP hz hS (k_st1 hk hL1))
theorem V_astore_n {j : Fin 4} {t : kT} {a : Nat} (i : Nat) (hd : (m_tab M)[i]? = some (pc, .astore_n j, 1)) (hn : (j : Nat) < m_nL M) (hk : k_nl lc (j : Nat) = true) (k : V G M X T kc ks (pc + 1) (lc.set (j : Nat) (some (rv t a))) st h) : V G M X T kc ks pc lc (rv t a :: st) h :=
  fun C hW hs hl H ls locs hP hz hS hL => lv_astore_n C.1 C.2.1 (k_dec C hd) rfl hL hn rfl (fun ls1 hL1 => k C hW (fun u hu => hs u (List.mem_cons_of_mem _ hu)) (k_lset (hs _ List.mem_cons_self) hl) H ls1 locs hP hz hS (k_st1 hk hL1))
theorem V_lstore_n {j : Fin 4} {x : Int64} (i : Nat) (hd : (m_tab M)[i]? = some (pc, .lstore_n j, 1)) (hn : (j : Nat) + 1 < m_nL M) (hk : k_nl lc (j : Nat) = true) (k : V G M X T kc ks (pc + 1) ((lc.set (j : Nat) (some (jv x))).set ((j : Nat) + 1) none) st h) : V G M X T kc ks pc lc (jv x :: st) h :=
  fun C hW hs hl H ls locs hP hz hS hL => lv_lstore_n C.1 C.2.1 (k_dec C hd) rfl hL hn rfl (fun ls1 hL1 => k C hW (fun u hu => hs u (List.mem_cons_of_mem _ hu)) (k_lset0 (k_lset (hs _ List.mem_cons_self) hl)) H ls1 locs hP hz hS (k_st2 hk hL1))
theorem V_iinc {j : Nat} {n : Int} {x : Int32} (v : Int32) (i : Nat) (hd : (m_tab M)[i]? = some (pc, .iinc j n, 3)) (hv : lc[j]? = some (some (iv x))) (he : x + Int32.ofInt n = v) (hn : j < m_nL M) (hk : k_nl lc j = true) (k : V G M X T kc ks (pc + 3) (lc.set j (some (iv v))) st h) : V G M X T kc ks pc lc st h := by
  intro C hW hs hl H ls locs hP hz hS hL
  obtain ⟨q, hq⟩ := List.getElem?_of_mem ((k_lc_mem (G := G) lc 0 (j, Value.int x)).mpr ⟨j, iv x, hv, by simp [kc_v]⟩)
  exact lv_iinc C.1 C.2.1 (k_dec C hd) hL hq he hn rfl (fun ls1 hL1 => k C hW hs (k_lset trivial hl) H ls1 locs hP hz hS (k_st1 (v := iv v) hk hL1))
end
end
section
/-- an index is in a row of n -/
def inb (x : Int32) (n : Nat) : Bool := decide (0 ≤ x) && decide (x.toNatClampNeg < n)
theorem inb_in {x : Int32} {n : Nat} (h : inb x n = true) : vp_in x n := by
  simp only [inb, Bool.and_eq_true, decide_eq_true_eq] at h
  intro q
  rcases q with q | q
  · exact absurd h.1 (Int32.not_le.mpr q)
  · omega
def hs (h : kH) (k i : Nat) (x : Int32) : kH := sr h k (upd (h k) i x)
section
variable {G : kG} {M : kM} {X : kX} {T : List kT} {kc ks pc : Nat} {lc : List (Option kV)} {st : List kV} {h : kH}
/-- what is known of a class by its number -/
def k_cls (ci : Nat) (C : String) (F : u_T) (N : Nat) (ty : Nat → FieldType) : Prop :=
  vwCl[ci]? = some (C, F, N) ∧ (∀ w ∈ u_ws C F N, w ∈ kw) ∧ (∀ k, k < N → parseFieldDescriptor (F k).2.2.1 = some (ty k)) ∧ (∀ a, a < N → ∀ b, b < N → a ≠ b → (F a).2.1 ≠ (F b).2.1) ∧ (k_fd ci).length = N ∧ ci < 9
theorem k_cls0 : k_cls 0 RX0 TX0 1 tyX0 := ⟨rfl, kw_X0, tyX0_ok, nmX0, rfl, by decide⟩
theorem k_cls1 : k_cls 1 RX1 TX1 6 tyX1 := ⟨rfl, kw_X1, tyX1_ok, nmX1, rfl, by decide⟩
theorem k_cls2 : k_cls 2 RX2 TX2 3 tyX2 := ⟨rfl, kw_X2, tyX2_ok, nmX2, rfl, by decide⟩
theorem k_cls3 : k_cls 3 RX3 TX3 6 tyX3 := ⟨rfl, kw_X3, tyX3_ok, nmX3, rfl, by decide⟩
theorem k_cls4 : k_cls 4 RX4 TX4 12 tyX4 := ⟨rfl, kw_X4, tyX4_ok, nmX4, rfl, by decide⟩
theorem k_cls5 : k_cls 5 RX5 TX5 10 tyX5 := ⟨rfl, kw_X5, tyX5_ok, nmX5, rfl, by decide⟩
theorem k_cls6 : k_cls 6 RX6 TX6 5 tyX6 := ⟨rfl, kw_X6, tyX6_ok, nmX6, rfl, by decide⟩
theorem k_cls7 : k_cls 7 RX7 TX7 14 tyX7 := ⟨rfl, kw_X7, tyX7_ok, nmX7, rfl, by decide⟩
theorem k_cls8 : k_cls 8 RX8 TX8 20 tyX8 := ⟨rfl, kw_X8, tyX8_ok, nmX8, rfl, by decide⟩
/-- an int field's link: own class, entry, class number, slot -/
def k_Fi (own : String) (idx ci j : Nat) : Prop := ∃ (C : String) (F : u_T) (N : Nat) (ty : Nat → FieldType), k_cls ci C F N ty ∧ j < N ∧ (k_fd ci)[j]? = some none ∧ Cond.fieldLink own idx (F j).1 (F j).2.1 (F j).2.2.1 ∈ kw ∧ (F j).2.2.1 = "I" ∧ (F j).2.2.2 = false
/-- a part's link: own class, entry, class number, slot, distance, tag -/
def k_Fr (own : String) (idx ci j off : Nat) (t : kT) : Prop := ∃ (C : String) (F : u_T) (N : Nat) (ty : Nat → FieldType), k_cls ci C F N ty ∧ j < N ∧ (k_fd ci)[j]? = some (some (off, t)) ∧ Cond.fieldLink own idx (F j).1 (F j).2.1 (F j).2.2.1 ∈ kw ∧ j < 99
theorem k_obj {k : Nat} {t : kT} (ht : T[k]? = some t) (hc : t.1 < 9) : (k_wl G T h)[k]? = some (g_a G k, .inr (t.1, k_fv G k t (h k))) := by
  rw [k_wl_at ht, k_ce, if_neg (by omega), if_neg (by omega), if_neg (by omega)]
theorem k_fv_i {k : Nat} {t : kT} {row : Nat → Int32} {j : Nat} (hj : (k_fd t.1)[j]? = some none) : (k_fv G k t row)[j]? = some (.int (row j)) := by
  have hl := (List.getElem?_eq_some_iff.mp hj).1
  simp [k_fv, k_f1, List.getElem?_map, List.getElem?_range hl, List.getD_eq_getElem?_getD, hj]
theorem k_fv_r {k : Nat} {t : kT} {row : Nat → Int32} {j off : Nat} {u : kT} (hj : (k_fd t.1)[j]? = some (some (off, u))) : (k_fv G k t row)[j]? = some (if j < t.2 then .ref (g_a G (k + off)) else .null) := by
  have hl := (List.getElem?_eq_some_iff.mp hj).1
  simp [k_fv, k_f1, List.getElem?_map, List.getElem?_range hl, List.getD_eq_getElem?_getD, hj]
theorem k_fv_len {k : Nat} {t : kT} {row : Nat → Int32} : (k_fv G k t row).length = (k_fd t.1).length := by simp [k_fv]
theorem k_fv_at {k : Nat} {t : kT} {row : Nat → Int32} {i : Nat} (hi : i < (k_fd t.1).length) : (k_fv G k t row)[i]? = some (k_f1 G k t row i) := by
  simp [k_fv, List.getElem?_map, List.getElem?_range hi]
theorem k_fv_set {k : Nat} {t : kT} {row : Nat → Int32} {j : Nat} {v : Int32} (hj : (k_fd t.1)[j]? = some none) : (k_fv G k t row).set j (.int v) = k_fv G k t (upd row j v) := by
  refine k_ext fun i => ?_
  have hl := (List.getElem?_eq_some_iff.mp hj).1
  by_cases hi : i = j
  · subst hi
    rw [List.getElem?_set_self (by rw [k_fv_len]; exact hl), k_fv_i hj, pk_us]
  · rw [List.getElem?_set_ne (Ne.symm hi)]
    by_cases hil : i < (k_fd t.1).length
    · rw [k_fv_at hil, k_fv_at hil, k_f1, k_f1, pk_un hi]
    · rw [List.getElem?_eq_none (by rw [k_fv_len]; omega), List.getElem?_eq_none (by rw [k_fv_len]; omega)]
theorem k_cell {k : Nat} {t : kT} (hs : ok_v T (rv t k)) (h9 : 9 ≤ t.1) (h12 : t.1 < 12) : T[k]? = some t := by
  rcases hs with ⟨-, m', hT, h9', -⟩ | ⟨e, -⟩
  · rw [hT, h9' h9]
  · omega
theorem V_getI {idx ci j k m : Nat} (i : Nat) (hd : (m_tab M)[i]? = some (pc, .getfield idx, 3)) (hf : k_Fi (m_own M) idx ci j) (kk : V G M X T kc ks (pc + 3) lc (iv (h k j) :: st) h) : V G M X T kc ks pc lc (rv (ci, m) k :: st) h := by
  intro C hW hs hl H ls locs hP hA hS hL
  obtain ⟨Cn, F, N, ty, ⟨hc, hin, hty, hnm, hlen, h9⟩, hj, hfd, hlink, -, -⟩ := hf
  rcases hs _ List.mem_cons_self with ⟨h12, m', hT, -, -⟩ | ⟨e, -⟩
  · have w := kk C hW (ok_c (v := iv (h k j)) (a := rv (ci, m) k :: st) (b := st) trivial (fun _ q => List.mem_cons_of_mem _ q) hs) hl H ls locs hP hA hS hL
    show k_W G M X H locs kc ks (F0 (x_m X) pc ls (kc_v G (rv (ci, m) k) :: st.map (kc_v G)))
    rw [kc_r h12]
    exact va_get (v := .int (h k j)) C.1 C.2.1 C.2.2.2.2.1 hin C.2.2.2.1 C.2.2.2.2.2.1 hP k (k_obj hT h9) hc j hj (C.2.2.2.2.1 _ hlink) (fun _ q => q) (k_fv_i hfd) (k_dec C hd) w
  · exact absurd (show ci = 12 from e) (by omega)
theorem V_getR {idx ci j off k : Nat} {t : kT} (k' : Nat) (i : Nat) (hd : (m_tab M)[i]? = some (pc, .getfield idx, 3)) (hf : k_Fr (m_own M) idx ci j off t) (ht : t.1 < 12 ∧ (9 ≤ t.1 ∨ t.2 = 99)) (hk : k + off = k') (kk : V G M X T kc ks (pc + 3) lc (rv t k' :: st) h) : V G M X T kc ks pc lc (rv (ci, 99) k :: st) h := by
  subst hk
  intro C hW hs hl H ls locs hP hA hS hL
  obtain ⟨Cn, F, N, ty, ⟨hc, hin, hty, hnm, hlen, h9⟩, hj, hfd, hlink, hj9⟩ := hf
  rcases hs _ List.mem_cons_self with ⟨h12, m', hT, -, h99⟩ | ⟨e, -⟩
  · obtain rfl : m' = 99 := h99 rfl
    have hch : T[k + off]? = some t := hW k _ hT h9 j (off, t) hfd hj9
    have w := kk C hW (ok_c (v := rv t (k + off)) (a := rv (ci, 99) k :: st) (b := st) (Or.inl ⟨ht.1, t.2, hch, fun _ => rfl, fun q => q⟩) (fun _ q => List.mem_cons_of_mem _ q) hs) hl H ls locs hP hA hS hL
    show k_W G M X H locs kc ks (F0 (x_m X) pc ls (kc_v G (rv (ci, 99) k) :: st.map (kc_v G)))
    have w : k_W G M X H locs kc ks (F0 (x_m X) (pc + 3) ls (kc_v G (rv t (k + off)) :: st.map (kc_v G))) := w
    rw [kc_r h12]
    rw [kc_r ht.1] at w
    exact va_get (v := .ref (g_a G (k + off))) C.1 C.2.1 C.2.2.2.2.1 hin C.2.2.2.1 C.2.2.2.2.2.1 hP k (k_obj hT h9) hc j hj (C.2.2.2.2.1 _ hlink) (fun _ q => q) (by rw [k_fv_r hfd, if_pos hj9]) (k_dec C hd) w
  · exact absurd (show ci = 12 from e) (by omega)
theorem V_putI {idx ci j k m : Nat} {x : Int32} (i : Nat) (hd : (m_tab M)[i]? = some (pc, .putfield idx, 3)) (hf : k_Fi (m_own M) idx ci j) (kk : V G M X T kc ks (pc + 3) lc st (hs h k j x)) : V G M X T kc ks pc lc (iv x :: rv (ci, m) k :: st) h := by
  intro C hW hs' hl H ls locs hP hA hS hL
  obtain ⟨Cn, F, N, ty, ⟨hc, hin, hty, hnm, hlen, h9⟩, hj, hfd, hlink, hI, hfin⟩ := hf
  have hs2 : ∀ v ∈ st, ok_v T v := fun v hv => hs' v (List.mem_cons_of_mem _ (List.mem_cons_of_mem _ hv))
  rcases hs' _ (List.mem_cons_of_mem _ List.mem_cons_self) with ⟨h12, m', hT, -, -⟩ | ⟨e, -⟩
  · show k_W G M X H locs kc ks (F0 (x_m X) pc ls (.int x :: kc_v G (rv (ci, m) k) :: st.map (kc_v G)))
    rw [kc_r h12]
    refine va_put (D := g_D G) (cl := vwCl) (v := .int x) (ty := .int) C.1 C.2.1 C.2.2.2.2.1 hin ty hty hnm C.2.2.2.1 C.2.2.2.2.2.1 hP (k_wl_D hA) hS k (k_obj hT h9) hc j hj (C.2.2.2.2.1 _ hlink) (fun _ q => q) hfin (by rw [hI]; decide +kernel) rfl rfl (by rw [k_fv_len]; show j < (k_fd ci).length; omega) (k_dec C hd) (fun H1 locs1 hP1 hD1 hS1 => ?_)
    have e1 : (k_wl G T h).set k (g_a G k, .inr (ci, (k_fv G k (ci, m') (h k)).set j (.int x))) = k_wl G T (sr h k (upd (h k) j x)) := by
      refine k_wl_put hT ?_
      rw [k_fv_set hfd, k_ce, if_neg (show ¬ ci = 9 by omega), if_neg (show ¬ ci = 10 by omega), if_neg (show ¬ ci = 11 by omega)]
    have hP1 : va_P (g_D G) vwCl ((k_wl G T h).set k (g_a G k, .inr (ci, (k_fv G k (ci, m') (h k)).set j (.int x)))) H1 := hP1
    rw [e1] at hP1
    exact kk C hW hs2 hl H1 ls locs1 hP1 hA hS1 hL
  · exact absurd (show ci = 12 from e) (by omega)
theorem V_iald {n k : Nat} {x : Int32} (i : Nat) (hd : (m_tab M)[i]? = some (pc, .iaload, 1)) (hg : inb x n = true) (kk : V G M X T kc ks (pc + 1) lc (iv (h k x.toNatClampNeg) :: st) h) : V G M X T kc ks pc lc (iv x :: rv (9, n) k :: st) h := by
  intro C hW hs hl H ls locs hP hA hS hL
  have hT := k_cell (hs (rv (9, n) k) (List.mem_cons_of_mem _ List.mem_cons_self)) (Nat.le_of_ble_eq_true rfl) (Nat.le_of_ble_eq_true rfl)
  have w := kk C hW (ok_c (v := iv (h k x.toNatClampNeg)) (a := iv x :: rv (9, n) k :: st) (b := st) trivial (fun _ q => List.mem_cons_of_mem _ (List.mem_cons_of_mem _ q)) hs) hl H ls locs hP hA hS hL
  exact va_iald C.1 C.2.1 C.2.2.2.2.2.1 hP k 0 (k_wl_at hT) rfl (inb_in hg) (k_dec C hd) w
theorem V_bald {n k : Nat} {x : Int32} (i : Nat) (hd : (m_tab M)[i]? = some (pc, .baload, 1)) (hg : inb x n = true) (kk : V G M X T kc ks (pc + 1) lc (iv (h k x.toNatClampNeg) :: st) h) : V G M X T kc ks pc lc (iv x :: rv (10, n) k :: st) h := by
  intro C hW hs hl H ls locs hP hA hS hL
  have hT := k_cell (hs (rv (10, n) k) (List.mem_cons_of_mem _ List.mem_cons_self)) (Nat.le_of_ble_eq_true rfl) (Nat.le_of_ble_eq_true rfl)
  have w := kk C hW (ok_c (v := iv (h k x.toNatClampNeg)) (a := iv x :: rv (10, n) k :: st) (b := st) trivial (fun _ q => List.mem_cons_of_mem _ (List.mem_cons_of_mem _ q)) hs) hl H ls locs hP hA hS hL
  exact va_bald C.1 C.2.1 C.2.2.2.2.2.1 hP k 1 (k_wl_at hT) rfl (inb_in hg) (k_dec C hd) w
theorem V_zald {n k : Nat} {x : Int32} (i : Nat) (hd : (m_tab M)[i]? = some (pc, .baload, 1)) (hg : inb x n = true) (kk : V G M X T kc ks (pc + 1) lc (iv (h k x.toNatClampNeg) :: st) h) : V G M X T kc ks pc lc (iv x :: rv (11, n) k :: st) h := by
  intro C hW hs hl H ls locs hP hA hS hL
  have hT := k_cell (hs (rv (11, n) k) (List.mem_cons_of_mem _ List.mem_cons_self)) (Nat.le_of_ble_eq_true rfl) (Nat.le_of_ble_eq_true rfl)
  have w := kk C hW (ok_c (v := iv (h k x.toNatClampNeg)) (a := iv x :: rv (11, n) k :: st) (b := st) trivial (fun _ q => List.mem_cons_of_mem _ (List.mem_cons_of_mem _ q)) hs) hl H ls locs hP hA hS hL
  exact va_zald C.1 C.2.1 C.2.2.2.2.2.1 hP k 2 (k_wl_at hT) rfl (inb_in hg) (k_dec C hd) w
theorem V_iast {n k : Nat} {x y : Int32} (i : Nat) (hd : (m_tab M)[i]? = some (pc, .iastore, 1)) (hg : inb y n = true) (kk : V G M X T kc ks (pc + 1) lc st (hs h k y.toNatClampNeg x)) : V G M X T kc ks pc lc (iv x :: iv y :: rv (9, n) k :: st) h := by
  intro C hW hs' hl H ls locs hP hA hS hL
  have hT := k_cell (hs' (rv (9, n) k) (List.mem_cons_of_mem _ (List.mem_cons_of_mem _ List.mem_cons_self))) (Nat.le_of_ble_eq_true rfl) (Nat.le_of_ble_eq_true rfl)
  have hs2 : ∀ v ∈ st, ok_v T v := fun v hv => hs' v (List.mem_cons_of_mem _ (List.mem_cons_of_mem _ (List.mem_cons_of_mem _ hv)))
  refine va_iast C.1 C.2.1 C.2.2.2.2.2.1 hP (k_wl_D hA) hS k 0 (k_wl_at hT) rfl (inb_in hg) (k_dec C hd) (fun H1 locs1 hP1 hD1 hS1 => ?_)
  have e1 : (k_wl G T h).set k (g_a G k, .inl (g_I G, n, .inl (upd (h k) y.toNatClampNeg x))) = k_wl G T (hs h k y.toNatClampNeg x) := k_wl_put hT rfl
  have hP2 : va_P (g_D G) vwCl ((k_wl G T h).set k (g_a G k, .inl (g_I G, n, .inl (upd (h k) y.toNatClampNeg x)))) H1 := hP1
  rw [e1] at hP2
  exact kk C hW hs2 hl H1 ls locs1 hP2 hA hS1 hL
theorem V_bast {n k : Nat} {x y : Int32} (i : Nat) (hd : (m_tab M)[i]? = some (pc, .bastore, 1)) (hg : inb y n = true) (kk : V G M X T kc ks (pc + 1) lc st (hs h k y.toNatClampNeg (vp_nar .byte x))) : V G M X T kc ks pc lc (iv x :: iv y :: rv (10, n) k :: st) h := by
  intro C hW hs' hl H ls locs hP hA hS hL
  have hT := k_cell (hs' (rv (10, n) k) (List.mem_cons_of_mem _ (List.mem_cons_of_mem _ List.mem_cons_self))) (Nat.le_of_ble_eq_true rfl) (Nat.le_of_ble_eq_true rfl)
  have hs2 : ∀ v ∈ st, ok_v T v := fun v hv => hs' v (List.mem_cons_of_mem _ (List.mem_cons_of_mem _ (List.mem_cons_of_mem _ hv)))
  refine va_bast C.1 C.2.1 C.2.2.2.2.2.1 hP (k_wl_D hA) hS k 1 (k_wl_at hT) rfl (inb_in hg) (k_dec C hd) (fun H1 locs1 hP1 hD1 hS1 => ?_)
  have e1 : (k_wl G T h).set k (g_a G k, .inl (g_B G, n, .inl (upd (h k) y.toNatClampNeg (vp_nar .byte x)))) = k_wl G T (hs h k y.toNatClampNeg (vp_nar .byte x)) := k_wl_put hT rfl
  have hP2 : va_P (g_D G) vwCl ((k_wl G T h).set k (g_a G k, .inl (g_B G, n, .inl (upd (h k) y.toNatClampNeg (vp_nar .byte x))))) H1 := hP1
  rw [e1] at hP2
  exact kk C hW hs2 hl H1 ls locs1 hP2 hA hS1 hL
theorem V_zast {n k : Nat} {x y : Int32} (i : Nat) (hd : (m_tab M)[i]? = some (pc, .bastore, 1)) (hg : inb y n = true) (kk : V G M X T kc ks (pc + 1) lc st (hs h k y.toNatClampNeg (vp_nar .boolean x))) : V G M X T kc ks pc lc (iv x :: iv y :: rv (11, n) k :: st) h := by
  intro C hW hs' hl H ls locs hP hA hS hL
  have hT := k_cell (hs' (rv (11, n) k) (List.mem_cons_of_mem _ (List.mem_cons_of_mem _ List.mem_cons_self))) (Nat.le_of_ble_eq_true rfl) (Nat.le_of_ble_eq_true rfl)
  have hs2 : ∀ v ∈ st, ok_v T v := fun v hv => hs' v (List.mem_cons_of_mem _ (List.mem_cons_of_mem _ (List.mem_cons_of_mem _ hv)))
  refine va_zast C.1 C.2.1 C.2.2.2.2.2.1 hP (k_wl_D hA) hS k 2 (k_wl_at hT) rfl (inb_in hg) (k_dec C hd) (fun H1 locs1 hP1 hD1 hS1 => ?_)
  have e1 : (k_wl G T h).set k (g_a G k, .inl (g_Z G, n, .inl (upd (h k) y.toNatClampNeg (vp_nar .boolean x)))) = k_wl G T (hs h k y.toNatClampNeg (vp_nar .boolean x)) := k_wl_put hT rfl
  have hP2 : va_P (g_D G) vwCl ((k_wl G T h).set k (g_a G k, .inl (g_Z G, n, .inl (upd (h k) y.toNatClampNeg (vp_nar .boolean x))))) H1 := hP1
  rw [e1] at hP2
  exact kk C hW hs2 hl H1 ls locs1 hP2 hA hS1 hL
theorem V_alen {n k : Nat} (v : Int32) (i : Nat) (hd : (m_tab M)[i]? = some (pc, .arraylength, 1)) (hv : Int32.ofNat n = v) (kk : V G M X T kc ks (pc + 1) lc (iv v :: st) h) : V G M X T kc ks pc lc (rv (9, n) k :: st) h := by
  intro C hW hs hl H ls locs hP hA hS hL
  have hT := k_cell (hs (rv (9, n) k) List.mem_cons_self) (Nat.le_of_ble_eq_true rfl) (Nat.le_of_ble_eq_true rfl)
  have w := kk C hW (ok_c (v := iv v) (a := rv (9, n) k :: st) (b := st) trivial (fun _ q => List.mem_cons_of_mem _ q) hs) hl H ls locs hP hA hS hL
  exact va_alen C.1 C.2.1 C.2.2.2.2.2.1 hP k 0 (k_wl_at hT) rfl hv (k_dec C hd) w
theorem k_stat {j k : Nat} (hs : ok_v T (rv (12, j) k)) : j < 11 := by
  rcases hs with ⟨e, -⟩ | ⟨-, e⟩
  · exact absurd (show 12 < 12 from e) (by decide)
  · exact e
theorem V_tald {j k : Nat} {x : Int32} (i : Nat) (hd : (m_tab M)[i]? = some (pc, .iaload, 1)) (hg : inb x (k_tl G j) = true) (kk : V G M X T kc ks (pc + 1) lc (iv (k_tb G j x.toNatClampNeg) :: st) h) : V G M X T kc ks pc lc (iv x :: rv (12, j) k :: st) h := by
  intro C hW hs hl H ls locs hP hA hS hL
  have hj := k_stat (hs (rv (12, j) k) (List.mem_cons_of_mem _ List.mem_cons_self))
  have w := kk C hW (ok_c (v := iv (k_tb G j x.toNatClampNeg)) (a := iv x :: rv (12, j) k :: st) (b := st) trivial (fun _ q => List.mem_cons_of_mem _ (List.mem_cons_of_mem _ q)) hs) hl H ls locs hP hA hS hL
  exact va_ti C.1 C.2.1 (C.2.2.2.2.2.2.2.1.2 j hj) hS (inb_in hg) rfl (k_dec C hd) w
theorem V_tlen {j k : Nat} (i : Nat) (hd : (m_tab M)[i]? = some (pc, .arraylength, 1)) (kk : V G M X T kc ks (pc + 1) lc (iv (Int32.ofNat (k_tl G j)) :: st) h) : V G M X T kc ks pc lc (rv (12, j) k :: st) h := by
  intro C hW hs hl H ls locs hP hA hS hL
  have hj := k_stat (hs (rv (12, j) k) List.mem_cons_self)
  have w := kk C hW (ok_c (v := iv (Int32.ofNat (k_tl G j))) (a := rv (12, j) k :: st) (b := st) trivial (fun _ q => List.mem_cons_of_mem _ q) hs) hl H ls locs hP hA hS hL
  exact va_tlen C.1 C.2.1 (C.2.2.2.2.2.2.2.1.2 j hj) hS rfl (k_dec C hd) w
theorem V_gets {idx : Nat} (j : Nat) (i : Nat) (hd : (m_tab M)[i]? = some (pc, .getstatic idx, 3)) (hj : j < 10) (hw : Cond.fieldLink (m_own M) idx RX3 (k_sn j) "[I" ∈ kw) (kk : V G M X T kc ks (pc + 3) lc (rv (12, j) 0 :: st) h) : V G M X T kc ks pc lc st h := by
  intro C hW hs hl H ls locs hP hA hS hL
  have w := kk C hW (ok_c (v := rv (12, j) 0) (a := st) (b := st) (Or.inr ⟨rfl, show j < 11 by omega⟩) (fun _ q => q) hs) hl H ls locs hP hA hS hL
  exact va_gets C.1 C.2.1 (C.2.2.2.2.2.2.2.1.1 j hj) hS C.2.2.2.1 (C.2.2.2.2.1 _ hw) (fun _ q => q) (k_dec C hd) w
/-- fewer locals are known -/
def k_msk : List Bool → List (Option kV) → List (Option kV)
  | b :: bs, v :: r => (if b = true then v else none) :: k_msk bs r
  | _, _ => []
theorem k_msk_at : ∀ (bs : List Bool) (l : List (Option kV)) (i : Nat) (v : kV), (k_msk bs l)[i]? = some (some v) → l[i]? = some (some v)
  | [], _, _, _, e => by simp [k_msk] at e
  | _ :: _, [], _, _, e => by simp [k_msk] at e
  | b :: bs, u :: r, 0, v, e => by
    cases b <;> simp [k_msk] at e ⊢
    exact e
  | b :: bs, u :: r, i + 1, v, e => by
    simp only [k_msk, List.getElem?_cons_succ] at e ⊢
    exact k_msk_at bs r i v e
theorem V_msk {lc' : List (Option kV)} (bs : List Bool) (e : k_msk bs lc = lc') (kk : V G M X T kc ks pc lc' st h) : V G M X T kc ks pc lc st h := by
  subst e
  intro C hW hs hl H ls locs hP hA hS hL
  refine kk C hW hs (fun v hv => ?_) H ls locs hP hA hS (k_has_sub hL fun q hq => ?_)
  · obtain ⟨i, hi⟩ := List.getElem?_of_mem hv
    exact hl v (List.mem_of_getElem? (k_msk_at bs lc i v hi))
  · obtain ⟨j, v, h1, rfl⟩ := (k_lc_mem _ 0 q).mp hq
    exact (k_lc_mem _ 0 _).mpr ⟨j, v, k_msk_at bs lc j v h1, rfl⟩
end
end
section
/-! the words of the pure programs -/
def gd {α : Type} (c : Bool) (x : Option α) : Option α := if c = true then x else none
theorem gd_e {α : Type} {c : Bool} {x : Option α} {r : α} (e : gd c x = some r) : c = true ∧ x = some r := by
  unfold gd at e
  by_cases hc : c = true
  · exact ⟨hc, by rw [if_pos hc] at e; exact e⟩
  · rw [if_neg hc] at e; cases e
def le_ {α β : Type} (v : α) (f : α → Option β) : Option β := f v
theorem le_e {α β : Type} {v : α} {f : α → Option β} {r : β} (e : le_ v f = some r) : f v = some r := e
def bd {α β : Type} (x : Option α) (f : α → Option β) : Option β := match x with
  | some a => f a
  | none => none
theorem bd_e {α β : Type} {x : Option α} {f : α → Option β} {r : β} (e : bd x f = some r) : ∃ a, x = some a ∧ f a = some r := by
  cases x with
  | none => cases e
  | some a => exact ⟨a, rfl, e⟩
theorem if_e {α : Type} {c : Prop} [Decidable c] {x y : Option α} {r : α} (e : (if c then x else y) = some r) : (c ∧ x = some r) ∨ (¬ c ∧ y = some r) := by
  by_cases hc : c
  · left; exact ⟨hc, by rw [if_pos hc] at e; exact e⟩
  · right; exact ⟨hc, by rw [if_neg hc] at e; exact e⟩
def fx {σ ρ : Type} (F : (σ → Option ρ) → σ → Option ρ) : Nat → σ → Option ρ
  | 0, _ => none
  | n + 1, s => F (fx F n) s
theorem fx_e {σ ρ : Type} {F : (σ → Option ρ) → σ → Option ρ} {P : σ → Prop} {r : ρ} (hF : ∀ K : σ → Option ρ, (∀ s, K s = some r → P s) → ∀ s, F K s = some r → P s) : ∀ n s, fx F n s = some r → P s
  | 0, s, e => by cases e
  | n + 1, s, e => hF (fx F n) (fx_e hF n) s e
def FU : Nat := 3000
section
variable {G : kG} {M N : kM} {X : kX} {T : List kT} {kc ks pc : Nat} {lc : List (Option kV)} {st : List kV} {h h' : kH}
def m_ws (M : kM) : List Cond := Cond.code (m_y M) (m_cc M) (m_nL M) (m_ret M) :: kw
def k_B (G : kG) (T : List kT) (h : kH) (av : List kV) (U : State) : Prop := va_P (g_D G) vwCl (k_wl G T h) U.heap ∧ va_K (g_D G) vwCl (k_ty G) U ∧ k_NN U ∧ k_SX G U ∧ g_b G ≤ U.heap.size ∧ k_AD G T ∧ k_WF T ∧ ∀ v ∈ av, ok_v T v
def k_Q (G : kG) (T : List kT) (r : Option kV) (h' : kH) : Array Value → State → Outcome → State → Prop := fun _ st oc t => oc = .returned (r.map (kc_v G)) ∧ (∀ v, r = some v → ok_v T v) ∧ va_P (g_D G) vwCl (k_wl G T h') t.heap ∧ va_F (k_A G) st t
/-- a method that makes nothing: started with these arguments in this world it ends with this answer in that world -/
def k_C (G : kG) (M : kM) (T : List kT) (av : List kV) (h : kH) (r : Option kV) (h' : kH) : Prop := Met (g_l G) (m_y M) (m_ws M) (m_rm M) (va_Pc (av.map (kc_v G)) (k_B G T h av)) (k_Q G T r h') 0 0 (k_A G)
theorem k_B_blind {av : List kV} {l : List Value} : FrameBlind (va_Pc l (k_B G T h av)) := by
  intro a U g mk q
  obtain ⟨q0, q1, q2, q3, q4, q5⟩ := q
  exact ⟨q0, q1, va_K.moved (u := U) (U := U.calling g mk a) (Vm.Alike.refl U.vm) q2, fun w hw => va_Nw.same (u := U) rfl rfl (q3 w hw), k_SX_to (s := U) (U := U.calling g mk a) (Vm.Alike.refl U.vm) (fun _ _ _ => rfl) q4, q5⟩
theorem k_B_at (C : k_X G M X) (hW : k_WF T) (hA : k_AD G T) {H : Heap} {locs : List Loc} (hP : va_P (g_D G) vwCl (k_wl G T h) H) (hS : va_S (k_A G) (x_s X).heap H locs) {av : List kV} (hv : ∀ v ∈ av, ok_v T v) {U : State} (hU : U.heap = H) (hw : (x_s X).WarmedH U.vm) : k_B G T h av U :=
  ⟨by rw [hU]; exact hP, va_K.moved hw.alike C.2.2.2.2.2.1, k_NN_warm hw C.2.2.2.2.2.2.1, k_SX_to hw.alike (fun a h1 h2 => by rw [hU]; exact hS.2.1 a h1 h2) C.2.2.2.2.2.2.2.1, by rw [hU]; exact Nat.le_trans C.2.2.2.2.2.2.2.2.1 hS.1, hA, hW, hv⟩
def k_cat : kV → Nat
  | .inr (.inl _) => 2
  | _ => 1
theorem k_cat_eq (v : kV) : (kc_v G v).category = k_cat v := by
  rcases v with x | x | ⟨t, k⟩ <;> rfl
theorem k_cats (st : List kV) : ((st.map (kc_v G)).map fun v => v.category).sum = (st.map k_cat).sum := by
  rw [List.map_map]
  congr 1
  exact List.map_congr_left fun v _ => k_cat_eq v
/-- behind a call -/
theorem V_run {r : Option kV} {a : Array Value} {stk : List kV} (hst : ∀ v ∈ st, v ∈ stk) (hrun : k_X G M X → k_WF T → (∀ v ∈ stk, ok_v T v) → ∀ (H : Heap) (ls : Array Slot) (locs : List Loc), va_P (g_D G) vwCl (k_wl G T h) H → k_AD G T → va_S (k_A G) (x_s X).heap H locs → lv_has ls (m_nL M) (k_lc G 0 lc) → va_Run (x_p X) (g_l G) (x_e X) (m_rm M) (x_s X) (x_m X) (x_a X) (x_w X) (x_h X) (x_c X) H locs kc ks 0 0 (F0 (x_m X) pc ls (stk.map (kc_v G))) (st.map (kc_v G)) (k_Q G T r h' a) (k_A G))
    (kk : V G M X T kc ks (pc + 3) lc (r.toList ++ st) h') : V G M X T kc ks pc lc stk h := by
  intro C hW hs hl H ls locs hP hA hS hL T0 hT0 X0
  obtain ⟨v, st₀, t, T', L, h0, X', hL', e1, e2, ⟨hv, hok, hP', hF1, hF2⟩, stp⟩ := hrun C hW hs H ls locs hP hA hS hL T0 hT0 X0
  rw [h0] at hF1 hF2
  have S' : va_S (k_A G) (x_s X).heap T'.heap (locs ++ L) := ⟨Nat.le_trans hS.1 (by rw [e1]; exact hF1), fun q h1 h2 => by rw [e1, hF2 q (Nat.lt_of_lt_of_le h1 hS.1) h2]; exact hS.2.1 q h1 h2, fun q hq => by
    rcases List.mem_append.mp hq with hq | hq
    · exact hS.2.2 q hq
    · exact hL' q hq⟩
  have hv : v = r.map (kc_v G) := by cases hv; rfl
  subst hv
  have hok2 : ∀ v ∈ r.toList ++ st, ok_v T v := by
    intro v hv
    rcases List.mem_append.mp hv with hv | hv
    · cases r with
      | none => cases hv
      | some u => rw [List.mem_singleton.mp hv]; exact hok u rfl
    · exact hs v (hst v hv)
  obtain ⟨t2, a1, b1⟩ := kk C hW hok2 hl T'.heap ls (locs ++ L) (by rw [e1]; exact hP') hA S' hL T' rfl X'
  refine ⟨t2, stp t2 ?_, b1⟩
  cases r with
  | none => exact a1
  | some u => exact a1
/-- what the tables say of a callee -/
def k_g (N : kM) (n : Nat) : Prop := Cond.code (m_y N) (m_cc N) (m_nL N) (m_ret N) ∈ kw ∧ Cond.initialized (m_y N).cls ∈ kw ∧ ((m_y N).cls ≠ "java/lang/invoke/MethodHandle" ∧ (m_y N).cls ≠ "java/lang/invoke/VarHandle" ∧ (parseMethodDescriptor (m_y N).desc).map (fun d => d.parameters.length) = some n) ∧ (m_rm N).cells = 0 ∧ (m_rm N).slots = 0
def k_gv (N : kM) (ci : Nat) : Prop := Cond.instanceMethod (m_y N) ∈ kw ∧ Cond.selects (m_y N).cls (m_y N) (m_y N) ∈ kw ∧ (∃ q, vwCl[ci]? = some q ∧ q.1 = (m_y N).cls) ∧ ci < 9
/-- the callee's room fits the caller's -/
def k_fit (M N : kM) : Prop := (m_rm N).frames + 1 ≤ (m_rm M).frames ∧ 8 + (m_nL N + 11) + (m_rm N).locals ≤ (m_rm M).locals
theorem k_good (hg : Cond.code (m_y N) (m_cc N) (m_nL N) (m_ret N) ∈ kw) : GoodIn kw (m_ws N) := by
  intro w hw
  rcases List.mem_cons.mp hw with rfl | hw
  · exact kw_good _ hg
  · exact kw_good _ hw
theorem k_room (hc : (st.map k_cat).sum ≤ 8) {m : MethodId} {ls : Array Slot} {s0 : List Value} : 2 * (F0 m pc ls s0).monitorRoom + ((st.map (kc_v G)).map fun v => v.category).sum ≤ 8 := by
  rw [k_cats]
  exact (show 2 * 0 + (st.map k_cat).sum ≤ 8 by omega)
theorem k_stk {av : List kV} : (av.reverse ++ st).map (kc_v G) = (av.map (kc_v G)).reverse ++ st.map (kc_v G) := by
  rw [List.map_append, List.map_reverse]
theorem V_callV {av : List kV} {r : Option kV} {idx n ci k : Nat} {t : kT} (i : Nat) (hd : (m_tab M)[i]? = some (pc, .invokevirtual idx, 3)) (hc : k_C G N T (rv t k :: av) h r h') (hg : k_g N n) (hv : k_gv N ci) (hl : Cond.methodLink (m_own M) idx (m_y N) ∈ kw) (hR : k_fit M N) (ht : t.1 = ci) (hn : av.length = n) (hcat : (st.map k_cat).sum ≤ 8) (hcs : kc ≤ (m_rm M).cells ∧ ks ≤ (m_rm M).slots)
    (kk : V G M X T kc ks (pc + 3) lc (r.toList ++ st) h') : V G M X T kc ks pc lc (av.reverse ++ rv t k :: st) h := by
  subst ht
  obtain ⟨hg1, hg2, hg3, hg4, hg5⟩ := hg
  obtain ⟨hv1, hv2, ⟨q, hq, hqc⟩, h9⟩ := hv
  refine V_run (r := r) (h' := h') (st := st) (a := (Value.ref (g_a G k) :: av.map (kc_v G)).toArray) (fun v hv => List.mem_append_right _ (List.mem_cons_of_mem _ hv)) (fun C hW hs H ls locs hP hA hS hL => ?_) kk
  have hmem : ∀ v ∈ rv t k :: av, ok_v T v := fun v hv => hs v (by
    rcases List.mem_cons.mp hv with rfl | hv
    · exact List.mem_append_right _ List.mem_cons_self
    · exact List.mem_append_left _ (List.mem_reverse.mpr hv))
  rcases hmem _ List.mem_cons_self with ⟨h12, m', hT, -, -⟩ | ⟨e, -⟩
  · have hts := C.2.2.2.2.1
    have hK := C.2.2.2.2.2.1
    have hcw : CallW (m_rm M) (x_s X) (x_a X) (m_own M) (m_y N).cls idx (m_y N) (m_cc N) (m_nL N) (m_ret N) (m_ws N) (m_rm N) 0 0 n := ⟨callB_of n hts (k_good hg1) rfl hg4 hg5 (hts _ hg2) (hts _ hl) hg3 hR, hts _ hv1, hts _ hv2⟩
    have hkc : kc_v G (rv t k) = .ref (g_a G k) := kc_r h12
    refine va_runV (b := g_a G k) (As := av.map (kc_v G)) (Ts := kw) ⟨C.1, C.2.1, C.2.2.1, C.2.2.2.1, hts⟩ hc hcw ⟨k_B_blind, ?_, fun U hU hw => ⟨?_, k_B_at C hW hA hP hS hmem hU hw⟩⟩ rfl (by rw [List.length_map]; exact hn) hL.1 ?_ (k_room hcat) (k_dec C hd) ⟨hcs.1, hcs.2⟩
    · obtain ⟨cell, b1, b2, b3⟩ := va_recv hK hP hq (k_obj (t := (t.1, m')) hT h9)
      exact ⟨cell, b1, b2, by rw [← hqc]; exact b3⟩
    · rw [List.map_cons, hkc]
    · show (av.reverse ++ rv t k :: st).map (kc_v G) = _
      rw [k_stk, List.map_cons, hkc]
  · exact absurd e (by omega)
theorem V_callVN {av : List kV} {r : Option kV} {idx n ci k : Nat} {t : kT} (i : Nat) (hd : (m_tab M)[i]? = some (pc, .invokevirtual idx, 3)) (hc : k_C G N T (rv t k :: av) h r h') (hg : k_g N n) (hv : k_gv N ci) (hl : (m_own M, idx, m_y N, RX7) ∈ kw_nest) (hR : k_fit M N) (ht : t.1 = ci) (hn : av.length = n) (hcat : (st.map k_cat).sum ≤ 8) (hcs : kc ≤ (m_rm M).cells ∧ ks ≤ (m_rm M).slots)
    (kk : V G M X T kc ks (pc + 3) lc (r.toList ++ st) h') : V G M X T kc ks pc lc (av.reverse ++ rv t k :: st) h := by
  subst ht
  obtain ⟨hg1, hg2, hg3, hg4, hg5⟩ := hg
  obtain ⟨hv1, hv2, ⟨q, hq, hqc⟩, h9⟩ := hv
  refine V_run (r := r) (h' := h') (st := st) (a := (Value.ref (g_a G k) :: av.map (kc_v G)).toArray) (fun v hv => List.mem_append_right _ (List.mem_cons_of_mem _ hv)) (fun C hW hs H ls locs hP hA hS hL => ?_) kk
  have hmem : ∀ v ∈ rv t k :: av, ok_v T v := fun v hv => hs v (by
    rcases List.mem_cons.mp hv with rfl | hv
    · exact List.mem_append_right _ List.mem_cons_self
    · exact List.mem_append_left _ (List.mem_reverse.mpr hv))
  rcases hmem _ List.mem_cons_self with ⟨h12, m', hT, -, -⟩ | ⟨e, -⟩
  · have hts := C.2.2.2.2.1
    have hK := C.2.2.2.2.2.1
    have hcw := va_cnB (R := m_rm M) (args := x_a X) (s := x_s X) (index := idx) n hts (k_good hg1) rfl hg4 hg5 (C.2.2.2.2.2.2.1 _ hl) (hts _ hg2) hg3 hR
    have hkc : kc_v G (rv t k) = .ref (g_a G k) := kc_r h12
    refine va_runVN (C := (m_y N).cls) (b := g_a G k) (As := av.map (kc_v G)) (Ts := kw) ⟨C.1, C.2.1, C.2.2.1, C.2.2.2.1, hts⟩ hc ⟨hcw, hts _ hv1, hts _ hv2⟩ ⟨k_B_blind, ?_, fun U hU hw => ⟨?_, k_B_at C hW hA hP hS hmem hU hw⟩⟩ rfl (by rw [List.length_map]; exact hn) hL.1 ?_ (k_room hcat) (k_dec C hd) ⟨hcs.1, hcs.2⟩
    · obtain ⟨cell, b1, b2, b3⟩ := va_recv hK hP hq (k_obj (t := (t.1, m')) hT h9)
      exact ⟨cell, b1, b2, by rw [← hqc]; exact b3⟩
    · rw [List.map_cons, hkc]
    · show (av.reverse ++ rv t k :: st).map (kc_v G) = _
      rw [k_stk, List.map_cons, hkc]
  · exact absurd e (by omega)
theorem V_callS {av : List kV} {r : Option kV} {idx n : Nat} (i : Nat) (hd : (m_tab M)[i]? = some (pc, .invokestatic idx, 3)) (hc : k_C G N T av h r h') (hg : k_g N n) (hv : Cond.static (m_y N) ∈ kw) (hl : Cond.methodLink (m_own M) idx (m_y N) ∈ kw) (hR : k_fit M N) (hn : av.length = n) (hcat : (st.map k_cat).sum ≤ 8) (hcs : kc ≤ (m_rm M).cells ∧ ks ≤ (m_rm M).slots)
    (kk : V G M X T kc ks (pc + 3) lc (r.toList ++ st) h') : V G M X T kc ks pc lc (av.reverse ++ st) h := by
  obtain ⟨hg1, hg2, hg3, hg4, hg5⟩ := hg
  refine V_run (r := r) (h' := h') (st := st) (a := (av.map (kc_v G)).toArray) (fun v hv => List.mem_append_right _ hv) (fun C hW hs H ls locs hP hA hS hL => ?_) kk
  have hmem : ∀ v ∈ av, ok_v T v := fun v hv => hs v (List.mem_append_left _ (List.mem_reverse.mpr hv))
  have hts := C.2.2.2.2.1
  refine va_runS (As := av.map (kc_v G)) (Ts := kw) ⟨C.1, C.2.1, C.2.2.1, C.2.2.2.1, hts⟩ hc ⟨callB_of n hts (k_good hg1) rfl hg4 hg5 (hts _ hg2) (hts _ hl) hg3 hR, hts _ hv⟩ ⟨k_B_blind, fun U hU hw => ⟨rfl, k_B_at C hW hA hP hS hmem hU hw⟩⟩ rfl (by rw [List.length_map]; exact hn) hL.1 ?_ (k_room hcat) (k_dec C hd) ⟨hcs.1, hcs.2⟩
  exact k_stk
theorem V_callSN {av : List kV} {r : Option kV} {idx n : Nat} (i : Nat) (hd : (m_tab M)[i]? = some (pc, .invokestatic idx, 3)) (hc : k_C G N T av h r h') (hg : k_g N n) (hv : Cond.static (m_y N) ∈ kw) (hl : (m_own M, idx, m_y N, RX7) ∈ kw_nest) (hR : k_fit M N) (hn : av.length = n) (hcat : (st.map k_cat).sum ≤ 8) (hcs : kc ≤ (m_rm M).cells ∧ ks ≤ (m_rm M).slots)
    (kk : V G M X T kc ks (pc + 3) lc (r.toList ++ st) h') : V G M X T kc ks pc lc (av.reverse ++ st) h := by
  obtain ⟨hg1, hg2, hg3, hg4, hg5⟩ := hg
  refine V_run (r := r) (h' := h') (st := st) (a := (av.map (kc_v G)).toArray) (fun v hv => List.mem_append_right _ hv) (fun C hW hs H ls locs hP hA hS hL => ?_) kk
  have hmem : ∀ v ∈ av, ok_v T v := fun v hv => hs v (List.mem_append_left _ (List.mem_reverse.mpr hv))
  have hts := C.2.2.2.2.1
  have hcw := va_cnB (R := m_rm M) (args := x_a X) (s := x_s X) (index := idx) n hts (k_good hg1) rfl hg4 hg5 (C.2.2.2.2.2.2.1 _ hl) (hts _ hg2) hg3 hR
  refine va_runSN (As := av.map (kc_v G)) (Ts := kw) ⟨C.1, C.2.1, C.2.2.1, C.2.2.2.1, hts⟩ hc ⟨hcw, hts _ hv, trivial⟩ ⟨k_B_blind, fun U hU hw => ⟨rfl, k_B_at C hW hA hP hS hmem hU hw⟩⟩ rfl (by rw [List.length_map]; exact hn) hL.1 ?_ (k_room hcat) (k_dec C hd) ⟨hcs.1, hcs.2⟩
  exact k_stk
/-- the ends -/
def k_R (G : kG) (M : kM) (X : kX) (T : List kT) (kc ks : Nat) (r : Option kV) (h' : kH) : Prop := x_Q X = MQ (x_w X) (k_Q G T r h') (x_a X) (x_s X) kc ks (k_A G) ∧ (x_h X).sig.returnType = m_ret M ∧ (x_h X).locks = false
theorem V_iret {r : Int32} (i : Nat) (hd : (m_tab M)[i]? = some (pc, .ireturn, 1)) (hR : k_R G M X T kc ks (some (iv r)) h) (hm : m_ret M = some .int) : V G M X T kc ks pc lc [iv r] h := by
  intro C hW hs hl H ls locs hP hA hS hL
  obtain ⟨hQ, hr, hlk⟩ := hR
  show W _ _ _ _ _ _ _ _ _ _ _ _ _ _ (x_Q X) _
  rw [hQ]
  exact W.iret (v := r) C.1 C.2.1 (by rw [hr, hm]) (fun t ht hw => ⟨rfl, fun v hv => by cases hv; exact trivial, by rw [ht]; exact hP, hS.F ht⟩) (fun q hq => hS.2.2 q hq) (k_dec C hd) hlk
theorem V_zret {r : Int32} (i : Nat) (hd : (m_tab M)[i]? = some (pc, .ireturn, 1)) (hb : r &&& 1 = r) (hR : k_R G M X T kc ks (some (iv r)) h) (hm : m_ret M = some .boolean) : V G M X T kc ks pc lc [iv r] h := by
  intro C hW hs hl H ls locs hP hA hS hL
  obtain ⟨hQ, hr, hlk⟩ := hR
  show W _ _ _ _ _ _ _ _ _ _ _ _ _ _ (x_Q X) _
  rw [hQ]
  exact W.zret (v := r) (ty := .boolean) C.1 C.2.1 (by rw [hr, hm]) (by simp [narrow, hb]) (fun t ht hw => ⟨rfl, fun v hv => by cases hv; exact trivial, by rw [ht]; exact hP, hS.F ht⟩) (fun q hq => hS.2.2 q hq) (k_dec C hd) hlk
theorem V_vret (i : Nat) (hd : (m_tab M)[i]? = some (pc, .return_, 1)) (hR : k_R G M X T kc ks none h) (hm : m_ret M = none) : V G M X T kc ks pc lc [] h := by
  intro C hW hs hl H ls locs hP hA hS hL
  obtain ⟨hQ, hr, hlk⟩ := hR
  show W _ _ _ _ _ _ _ _ _ _ _ _ _ _ (x_Q X) _
  rw [hQ]
  exact W.vret C.1 C.2.1 (by rw [hr, hm]) (fun t ht hw => ⟨rfl, (fun v hv => (by cases hv)), (by rw [ht]; exact hP), hS.F ht⟩) (fun q hq => hS.2.2 q hq) (k_dec C hd) hlk
theorem V_aret {t : kT} {k : Nat} {rt : FieldType} (i : Nat) (hd : (m_tab M)[i]? = some (pc, .areturn, 1)) (hR : k_R G M X T kc ks (some (rv t k)) h) (hm : m_ret M = some rt) (hrt : (∃ n, rt = .object n) ∨ ∃ t, rt = .array t) : V G M X T kc ks pc lc [rv t k] h := by
  intro C hW hs hl H ls locs hP hA hS hL
  obtain ⟨hQ, hr, hlk⟩ := hR
  show W _ _ _ _ _ _ _ _ _ _ _ _ _ _ (x_Q X) _
  rw [hQ]
  exact W.aret (v := kc_v G (rv t k)) C.1 C.2.1 (by rw [hr, hm]) hrt (Or.inr ⟨_, rfl⟩) (fun t ht hw => ⟨rfl, fun v hv => by cases hv; exact hs _ List.mem_cons_self, by rw [ht]; exact hP, hS.F ht⟩) (fun q hq => hS.2.2 q hq) (k_dec C hd) hlk
/-- Math.min, Math.max -/
theorem V_mmin {x y : Int32} {idx : Nat} (i : Nat) (hd : (m_tab M)[i]? = some (pc, .invokestatic idx, 3)) (hl : Cond.methodLink (m_own M) idx Lib.Math.min.name ∈ kw) (hw1 : Cond.static Lib.Math.min.name ∈ kw) (hw2 : Cond.initialized "java/lang/Math" ∈ kw) (hw3 : Cond.code Lib.Math.min.name Lib.Math.min.code 2 (some .int) ∈ kw) (hR : 1 ≤ (m_rm M).frames ∧ (st.map k_cat).sum + 13 ≤ (m_rm M).locals) (hcs : kc ≤ (m_rm M).cells ∧ ks ≤ (m_rm M).slots)
    (kk : V G M X T kc ks (pc + 3) lc (iv (if y < x then y else x) :: st) h) : V G M X T kc ks pc lc (iv y :: iv x :: st) h := by
  intro C hW hs hl' H ls locs hP hA hS hL
  have hts := C.2.2.2.2.1
  have w := kk C hW (ok_c (v := iv (if y < x then y else x)) (a := iv y :: iv x :: st) (b := st) trivial (fun _ q => List.mem_cons_of_mem _ (List.mem_cons_of_mem _ q)) hs) hl' H ls locs hP hA hS hL
  exact va_mmin C.1 C.2.1 (by rw [C.2.2.1]; exact hL.1.symm) C.2.2.2.1 (hts _ hl) (hts _ hw1) (hts _ hw2) (hts _ hw3) hR.1 (by rw [k_cats]; exact hR.2) hcs.1 hcs.2 (k_dec C hd) w
theorem V_mmax {x y : Int32} {idx : Nat} (i : Nat) (hd : (m_tab M)[i]? = some (pc, .invokestatic idx, 3)) (hl : Cond.methodLink (m_own M) idx Lib.Math.max.name ∈ kw) (hw1 : Cond.static Lib.Math.max.name ∈ kw) (hw2 : Cond.initialized "java/lang/Math" ∈ kw) (hw3 : Cond.code Lib.Math.max.name Lib.Math.max.code 2 (some .int) ∈ kw) (hR : 1 ≤ (m_rm M).frames ∧ (st.map k_cat).sum + 13 ≤ (m_rm M).locals) (hcs : kc ≤ (m_rm M).cells ∧ ks ≤ (m_rm M).slots)
    (kk : V G M X T kc ks (pc + 3) lc (iv (if x < y then y else x) :: st) h) : V G M X T kc ks pc lc (iv y :: iv x :: st) h := by
  intro C hW hs hl' H ls locs hP hA hS hL
  have hts := C.2.2.2.2.1
  have w := kk C hW (ok_c (v := iv (if x < y then y else x)) (a := iv y :: iv x :: st) (b := st) trivial (fun _ q => List.mem_cons_of_mem _ (List.mem_cons_of_mem _ q)) hs) hl' H ls locs hP hA hS hL
  exact va_mmax C.1 C.2.1 (by rw [C.2.2.1]; exact hL.1.symm) C.2.2.2.1 (hts _ hl) (hts _ hw1) (hts _ hw2) (hts _ hw3) hR.1 (by rw [k_cats]; exact hR.2) hcs.1 hcs.2 (k_dec C hd) w
/-- the start of a method -/
def k_ent : List kV → List (Option kV)
  | [] => []
  | v :: r => if k_cat v = 2 then some v :: none :: k_ent r else some v :: k_ent r
theorem k_ent_mem : ∀ (av : List kV) (i : Nat) (q : Nat × Value), q ∈ k_lc G i (k_ent av) → q ∈ lv_args i (av.map (kc_v G))
  | [], i, q, hq => by simp [k_ent, k_lc] at hq
  | v :: r, i, q, hq => by
    rw [List.map_cons, lv_args, k_cat_eq]
    by_cases h2 : k_cat v = 2
    · rw [k_ent, if_pos h2, k_lc, k_lc] at hq
      rw [if_pos h2]
      rcases List.mem_cons.mp hq with rfl | hq
      · exact List.mem_cons_self
      · exact List.mem_cons_of_mem _ (k_ent_mem r _ q hq)
    · rw [k_ent, if_neg h2, k_lc] at hq
      rw [if_neg h2]
      rcases List.mem_cons.mp hq with rfl | hq
      · exact List.mem_cons_self
      · exact List.mem_cons_of_mem _ (k_ent_mem r _ q hq)
theorem k_lc_app : ∀ (l : List (Option kV)) (n i : Nat), k_lc G i (l ++ List.replicate n none) = k_lc G i l
  | [], 0, i => by simp [k_lc]
  | [], n + 1, i => by
    have := k_lc_app [] n (i + 1)
    rw [List.nil_append] at this
    rw [List.nil_append, List.replicate_succ]
    show k_lc G (i + 1) (List.replicate n none) = _
    rw [this]
    rfl
  | none :: r, n, i => by rw [List.cons_append, k_lc, k_lc, k_lc_app r n (i + 1)]
  | some v :: r, n, i => by rw [List.cons_append, k_lc, k_lc, k_lc_app r n (i + 1)]
theorem k_ent_ok {av : List kV} : ∀ v, some v ∈ k_ent av → v ∈ av := by
  induction av with
  | nil => intro v hv; simp [k_ent] at hv
  | cons u r ih =>
    intro v hv
    by_cases h2 : k_cat u = 2
    · rw [k_ent, if_pos h2] at hv
      rcases List.mem_cons.mp hv with e | hv
      · cases e; exact List.mem_cons_self
      · rcases List.mem_cons.mp hv with e | hv
        · cases e
        · exact List.mem_cons_of_mem _ (ih v hv)
    · rw [k_ent, if_neg h2] at hv
      rcases List.mem_cons.mp hv with e | hv
      · cases e; exact List.mem_cons_self
      · exact List.mem_cons_of_mem _ (ih v hv)
theorem k_sl_len (av : List kV) : (lg_sl (av.map (kc_v G))).length = (av.map k_cat).sum := by
  induction av with
  | nil => rfl
  | cons v r ih =>
    rw [List.map_cons, List.map_cons, List.sum_cons, ← ih, lg_sl, List.flatMap_cons, List.length_append, k_cat_eq]
    congr 1
    by_cases h2 : k_cat v = 2
    · rw [if_pos h2, h2]; rfl
    · rw [if_neg h2]
      rcases v with x | x | ⟨t, k⟩
      · rfl
      · exact absurd rfl h2
      · rfl
/-- a contract out of its walk -/
theorem k_C_of {av : List kV} {r : Option kV} (n : Nat) (hy : plainName (m_y M).cls = true) (hcls : (m_y M).cls = m_own M) (htab : ∀ q ∈ m_tab M, decode (m_cc M) q.1 = .ok q.2) (hn : (av.map k_cat).sum + n = m_nL M)
    (walk : ∀ X : kX, k_R G M X T 0 0 r h' → V G M X T 0 0 0 (k_ent av ++ List.replicate n none) [] h) : k_C G M T av h r h' := by
  refine Met.ofW (cc := m_cc M) (maxL := m_nL M) (ret := m_ret M) hy rfl ?_
  intro p e s m args below meth c s₁ B hml hv
  obtain ⟨rfl, hP, hK, hNN, hSX, hgb, hA, hW, hok⟩ := hv
  have hts := atoms_spec (ws := m_ws M) B.pre
  have hown : s.vm.findClass (m_own M) = some m.cls := by rw [← hcls]; exact findClass_of_methodNamed B.named
  have hl := lv_entry (av.map (kc_v G)) (n := m_nL M) (by rw [k_sl_len]; omega)
  rw [lg_entry_eq]
  generalize (lg_sl (av.map (kc_v G)) ++ List.replicate (m_nL M - (lg_sl (av.map (kc_v G))).length) Slot.unset).toArray = ls at hl ⊢
  refine walk (p, e, s, m, (av.map (kc_v G)).toArray, below, meth, c, MQ below (k_Q G T r h') (av.map (kc_v G)).toArray s 0 0 (k_A G)) ⟨rfl, B.returns, B.notSynchronized⟩ ⟨B.exec, B.bytes, hml, hown, fun w hw => hts w (List.mem_cons_of_mem _ hw), hK, hNN, hSX, hgb, htab⟩ hW (fun v hv => by cases hv) (fun v hv => ?_) s.heap ls [] hP hA va_S.rf ?_
  · rcases List.mem_append.mp hv with hv | hv
    · exact hok v (k_ent_ok v hv)
    · cases (List.mem_replicate.mp hv).2
  · rw [k_lc_app]
    exact k_has_sub hl (fun q hq => k_ent_mem av 0 q hq)
end
end
