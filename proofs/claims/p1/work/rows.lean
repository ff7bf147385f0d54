section
-- ===== PART A: goes FIRST, ahead of the names: the tables' words, and 'selects' of the private methods out of them =====
/-- a private method of a class that the tables say can be made, by its rows of tables_1 -/
def lw_okq (q : MethodName × Nat) : Prop := (q.1.cls ≠ "java/lang/invoke/MethodHandle" ∧ q.1.cls ≠ "java/lang/invoke/VarHandle") ∧ Cond.instantiable q.1.cls q.2 ∈ tables_1 ∧ Cond.privateMethod q.1 ∈ tables_1 ∧ Cond.instanceMethod q.1 ∈ tables_1
theorem lw_p0 : lw_okq (⟨"PourPlan$Curing", "renew", "()V"⟩, 8) := ⟨⟨by decide +kernel, by decide +kernel⟩, List.mem_of_getElem? (i := 17) (by decide +kernel), List.mem_of_getElem? (i := 23) (by decide +kernel), List.mem_of_getElem? (i := 24) (by decide +kernel)⟩
theorem lw_p1 : lw_okq (⟨"PourPlan$Curing", "hardnessOn", "(II)I"⟩, 8) := ⟨⟨by decide +kernel, by decide +kernel⟩, List.mem_of_getElem? (i := 17) (by decide +kernel), List.mem_of_getElem? (i := 30) (by decide +kernel), List.mem_of_getElem? (i := 31) (by decide +kernel)⟩
theorem lw_p2 : lw_okq (⟨"PourPlan$Curing", "hardnessOf", "(I)I"⟩, 8) := ⟨⟨by decide +kernel, by decide +kernel⟩, List.mem_of_getElem? (i := 17) (by decide +kernel), List.mem_of_getElem? (i := 34) (by decide +kernel), List.mem_of_getElem? (i := 35) (by decide +kernel)⟩
theorem lw_p3 : lw_okq (⟨"PourPlan$Sequence", "append", "(I)V"⟩, 2) := ⟨⟨by decide +kernel, by decide +kernel⟩, List.mem_of_getElem? (i := 112) (by decide +kernel), List.mem_of_getElem? (i := 158) (by decide +kernel), List.mem_of_getElem? (i := 159) (by decide +kernel)⟩
theorem lw_p4 : lw_okq (⟨"PourPlan$Pieces", "add", "(IIIII)I"⟩, 9) := ⟨⟨by decide +kernel, by decide +kernel⟩, List.mem_of_getElem? (i := 68) (by decide +kernel), List.mem_of_getElem? (i := 162) (by decide +kernel), List.mem_of_getElem? (i := 163) (by decide +kernel)⟩
theorem lw_p5 : lw_okq (⟨"PourPlan$Pieces", "has", "(I)Z"⟩, 9) := ⟨⟨by decide +kernel, by decide +kernel⟩, List.mem_of_getElem? (i := 68) (by decide +kernel), List.mem_of_getElem? (i := 170) (by decide +kernel), List.mem_of_getElem? (i := 171) (by decide +kernel)⟩
theorem lw_p6 : lw_okq (⟨"PourPlan$Pieces", "mustLead", "(II)Z"⟩, 9) := ⟨⟨by decide +kernel, by decide +kernel⟩, List.mem_of_getElem? (i := 68) (by decide +kernel), List.mem_of_getElem? (i := 174) (by decide +kernel), List.mem_of_getElem? (i := 175) (by decide +kernel)⟩
theorem lw_p7 : lw_okq (⟨"PourPlan$Pieces", "lengthenWays", "()V"⟩, 9) := ⟨⟨by decide +kernel, by decide +kernel⟩, List.mem_of_getElem? (i := 68) (by decide +kernel), List.mem_of_getElem? (i := 178) (by decide +kernel), List.mem_of_getElem? (i := 179) (by decide +kernel)⟩
theorem lw_p8 : lw_okq (⟨"PourPlan$Curing", "goesOnWith", "(II)Z"⟩, 8) := ⟨⟨by decide +kernel, by decide +kernel⟩, List.mem_of_getElem? (i := 17) (by decide +kernel), List.mem_of_getElem? (i := 213) (by decide +kernel), List.mem_of_getElem? (i := 214) (by decide +kernel)⟩
theorem lw_p9 : lw_okq (⟨"PourPlan$Curing", "addPoint", "(II)V"⟩, 8) := ⟨⟨by decide +kernel, by decide +kernel⟩, List.mem_of_getElem? (i := 17) (by decide +kernel), List.mem_of_getElem? (i := 217) (by decide +kernel), List.mem_of_getElem? (i := 218) (by decide +kernel)⟩
theorem lw_p10 : lw_okq (⟨"PourPlan", "pourAnew", "()I"⟩, 8) := ⟨⟨by decide +kernel, by decide +kernel⟩, List.mem_of_getElem? (i := 9) (by decide +kernel), List.mem_of_getElem? (i := 234) (by decide +kernel), List.mem_of_getElem? (i := 235) (by decide +kernel)⟩
theorem lw_p11 : lw_okq (⟨"PourPlan$Pieces", "unpourFrom", "(I)I"⟩, 9) := ⟨⟨by decide +kernel, by decide +kernel⟩, List.mem_of_getElem? (i := 68) (by decide +kernel), List.mem_of_getElem? (i := 238) (by decide +kernel), List.mem_of_getElem? (i := 239) (by decide +kernel)⟩
theorem lw_p12 : lw_okq (⟨"PourPlan$Pieces", "howManyPoured", "()I"⟩, 9) := ⟨⟨by decide +kernel, by decide +kernel⟩, List.mem_of_getElem? (i := 68) (by decide +kernel), List.mem_of_getElem? (i := 242) (by decide +kernel), List.mem_of_getElem? (i := 243) (by decide +kernel)⟩
theorem lw_p13 : lw_okq (⟨"PourPlan", "hindrance", "(II)I"⟩, 8) := ⟨⟨by decide +kernel, by decide +kernel⟩, List.mem_of_getElem? (i := 9) (by decide +kernel), List.mem_of_getElem? (i := 246) (by decide +kernel), List.mem_of_getElem? (i := 247) (by decide +kernel)⟩
theorem lw_p14 : lw_okq (⟨"PourPlan", "waitsForAhead", "(II)Z"⟩, 8) := ⟨⟨by decide +kernel, by decide +kernel⟩, List.mem_of_getElem? (i := 9) (by decide +kernel), List.mem_of_getElem? (i := 250) (by decide +kernel), List.mem_of_getElem? (i := 251) (by decide +kernel)⟩
theorem lw_p15 : lw_okq (⟨"PourPlan", "leadsBy", "(III)Z"⟩, 8) := ⟨⟨by decide +kernel, by decide +kernel⟩, List.mem_of_getElem? (i := 9) (by decide +kernel), List.mem_of_getElem? (i := 254) (by decide +kernel), List.mem_of_getElem? (i := 255) (by decide +kernel)⟩
def lw_privs_1 : List (MethodName × Nat) := [(⟨"PourPlan$Curing", "renew", "()V"⟩, 8), (⟨"PourPlan$Curing", "hardnessOn", "(II)I"⟩, 8), (⟨"PourPlan$Curing", "hardnessOf", "(I)I"⟩, 8), (⟨"PourPlan$Sequence", "append", "(I)V"⟩, 2), (⟨"PourPlan$Pieces", "add", "(IIIII)I"⟩, 9), (⟨"PourPlan$Pieces", "has", "(I)Z"⟩, 9), (⟨"PourPlan$Pieces", "mustLead", "(II)Z"⟩, 9), (⟨"PourPlan$Pieces", "lengthenWays", "()V"⟩, 9), (⟨"PourPlan$Curing", "goesOnWith", "(II)Z"⟩, 8), (⟨"PourPlan$Curing", "addPoint", "(II)V"⟩, 8), (⟨"PourPlan", "pourAnew", "()I"⟩, 8), (⟨"PourPlan$Pieces", "unpourFrom", "(I)I"⟩, 9), (⟨"PourPlan$Pieces", "howManyPoured", "()I"⟩, 9), (⟨"PourPlan", "hindrance", "(II)I"⟩, 8), (⟨"PourPlan", "waitsForAhead", "(II)Z"⟩, 8), (⟨"PourPlan", "leadsBy", "(III)Z"⟩, 8)]
theorem lw_r1 : ∀ q ∈ lw_privs_1, lw_okq q := List.forall_mem_cons.mpr ⟨lw_p0, List.forall_mem_cons.mpr ⟨lw_p1, List.forall_mem_cons.mpr ⟨lw_p2, List.forall_mem_cons.mpr ⟨lw_p3, List.forall_mem_cons.mpr ⟨lw_p4, List.forall_mem_cons.mpr ⟨lw_p5, List.forall_mem_cons.mpr ⟨lw_p6, List.forall_mem_cons.mpr ⟨lw_p7, List.forall_mem_cons.mpr ⟨lw_p8, List.forall_mem_cons.mpr ⟨lw_p9, List.forall_mem_cons.mpr ⟨lw_p10, List.forall_mem_cons.mpr ⟨lw_p11, List.forall_mem_cons.mpr ⟨lw_p12, List.forall_mem_cons.mpr ⟨lw_p13, List.forall_mem_cons.mpr ⟨lw_p14, List.forall_mem_cons.mpr ⟨lw_p15, fun _ h => absurd h List.not_mem_nil⟩⟩⟩⟩⟩⟩⟩⟩⟩⟩⟩⟩⟩⟩⟩⟩
theorem lw_p16 : lw_okq (⟨"PourPlan$Pieces", "standsOn", "(II)Z"⟩, 9) := ⟨⟨by decide +kernel, by decide +kernel⟩, List.mem_of_getElem? (i := 68) (by decide +kernel), List.mem_of_getElem? (i := 258) (by decide +kernel), List.mem_of_getElem? (i := 259) (by decide +kernel)⟩
theorem lw_p17 : lw_okq (⟨"PourPlan$Sequence", "placeOf", "(I)I"⟩, 2) := ⟨⟨by decide +kernel, by decide +kernel⟩, List.mem_of_getElem? (i := 112) (by decide +kernel), List.mem_of_getElem? (i := 262) (by decide +kernel), List.mem_of_getElem? (i := 263) (by decide +kernel)⟩
theorem lw_p18 : lw_okq (⟨"PourPlan", "waitsToStand", "(II)Z"⟩, 8) := ⟨⟨by decide +kernel, by decide +kernel⟩, List.mem_of_getElem? (i := 9) (by decide +kernel), List.mem_of_getElem? (i := 266) (by decide +kernel), List.mem_of_getElem? (i := 267) (by decide +kernel)⟩
theorem lw_p19 : lw_okq (⟨"PourPlan$Pieces", "carries", "(II)Z"⟩, 9) := ⟨⟨by decide +kernel, by decide +kernel⟩, List.mem_of_getElem? (i := 68) (by decide +kernel), List.mem_of_getElem? (i := 270) (by decide +kernel), List.mem_of_getElem? (i := 271) (by decide +kernel)⟩
theorem lw_p20 : lw_okq (⟨"PourPlan", "formsLeft", "(III)I"⟩, 8) := ⟨⟨by decide +kernel, by decide +kernel⟩, List.mem_of_getElem? (i := 9) (by decide +kernel), List.mem_of_getElem? (i := 275) (by decide +kernel), List.mem_of_getElem? (i := 276) (by decide +kernel)⟩
theorem lw_p21 : lw_okq (⟨"PourPlan", "isHeldOn", "(II)Z"⟩, 8) := ⟨⟨by decide +kernel, by decide +kernel⟩, List.mem_of_getElem? (i := 9) (by decide +kernel), List.mem_of_getElem? (i := 279) (by decide +kernel), List.mem_of_getElem? (i := 280) (by decide +kernel)⟩
theorem lw_p22 : lw_okq (⟨"PourPlan$Curing", "stripDayFor", "(I)I"⟩, 8) := ⟨⟨by decide +kernel, by decide +kernel⟩, List.mem_of_getElem? (i := 17) (by decide +kernel), List.mem_of_getElem? (i := 283) (by decide +kernel), List.mem_of_getElem? (i := 284) (by decide +kernel)⟩
theorem lw_p23 : lw_okq (⟨"PourPlan", "volumeOn", "(II)I"⟩, 8) := ⟨⟨by decide +kernel, by decide +kernel⟩, List.mem_of_getElem? (i := 9) (by decide +kernel), List.mem_of_getElem? (i := 287) (by decide +kernel), List.mem_of_getElem? (i := 288) (by decide +kernel)⟩
theorem lw_p24 : lw_okq (⟨"PourPlan", "endOfAll", "()I"⟩, 8) := ⟨⟨by decide +kernel, by decide +kernel⟩, List.mem_of_getElem? (i := 9) (by decide +kernel), List.mem_of_getElem? (i := 291) (by decide +kernel), List.mem_of_getElem? (i := 292) (by decide +kernel)⟩
theorem lw_p25 : lw_okq (⟨"PourPlan$Sequence", "move", "(II)V"⟩, 2) := ⟨⟨by decide +kernel, by decide +kernel⟩, List.mem_of_getElem? (i := 112) (by decide +kernel), List.mem_of_getElem? (i := 300) (by decide +kernel), List.mem_of_getElem? (i := 301) (by decide +kernel)⟩
theorem lw_p26 : lw_okq (⟨"PourPlan$Sequence", "isPlace", "(I)Z"⟩, 2) := ⟨⟨by decide +kernel, by decide +kernel⟩, List.mem_of_getElem? (i := 112) (by decide +kernel), List.mem_of_getElem? (i := 304) (by decide +kernel), List.mem_of_getElem? (i := 305) (by decide +kernel)⟩
theorem lw_p27 : lw_okq (⟨"PourPlan$Sequence", "sort", "()V"⟩, 2) := ⟨⟨by decide +kernel, by decide +kernel⟩, List.mem_of_getElem? (i := 112) (by decide +kernel), List.mem_of_getElem? (i := 312) (by decide +kernel), List.mem_of_getElem? (i := 313) (by decide +kernel)⟩
theorem lw_p28 : lw_okq (⟨"PourPlan$Sequence", "toNext", "()Z"⟩, 2) := ⟨⟨by decide +kernel, by decide +kernel⟩, List.mem_of_getElem? (i := 112) (by decide +kernel), List.mem_of_getElem? (i := 319) (by decide +kernel), List.mem_of_getElem? (i := 320) (by decide +kernel)⟩
theorem lw_p29 : lw_okq (⟨"PourPlan$Sequence", "swap", "(II)V"⟩, 2) := ⟨⟨by decide +kernel, by decide +kernel⟩, List.mem_of_getElem? (i := 112) (by decide +kernel), List.mem_of_getElem? (i := 323) (by decide +kernel), List.mem_of_getElem? (i := 324) (by decide +kernel)⟩
theorem lw_p30 : lw_okq (⟨"PourPlan", "endOfFirstGoodChange", "(I)I"⟩, 8) := ⟨⟨by decide +kernel, by decide +kernel⟩, List.mem_of_getElem? (i := 9) (by decide +kernel), List.mem_of_getElem? (i := 332) (by decide +kernel), List.mem_of_getElem? (i := 333) (by decide +kernel)⟩
theorem lw_p31 : lw_okq (⟨"PourPlan$Pieces", "longestLead", "()I"⟩, 9) := ⟨⟨by decide +kernel, by decide +kernel⟩, List.mem_of_getElem? (i := 68) (by decide +kernel), List.mem_of_getElem? (i := 344) (by decide +kernel), List.mem_of_getElem? (i := 345) (by decide +kernel)⟩
def lw_privs_2 : List (MethodName × Nat) := [(⟨"PourPlan$Pieces", "standsOn", "(II)Z"⟩, 9), (⟨"PourPlan$Sequence", "placeOf", "(I)I"⟩, 2), (⟨"PourPlan", "waitsToStand", "(II)Z"⟩, 8), (⟨"PourPlan$Pieces", "carries", "(II)Z"⟩, 9), (⟨"PourPlan", "formsLeft", "(III)I"⟩, 8), (⟨"PourPlan", "isHeldOn", "(II)Z"⟩, 8), (⟨"PourPlan$Curing", "stripDayFor", "(I)I"⟩, 8), (⟨"PourPlan", "volumeOn", "(II)I"⟩, 8), (⟨"PourPlan", "endOfAll", "()I"⟩, 8), (⟨"PourPlan$Sequence", "move", "(II)V"⟩, 2), (⟨"PourPlan$Sequence", "isPlace", "(I)Z"⟩, 2), (⟨"PourPlan$Sequence", "sort", "()V"⟩, 2), (⟨"PourPlan$Sequence", "toNext", "()Z"⟩, 2), (⟨"PourPlan$Sequence", "swap", "(II)V"⟩, 2), (⟨"PourPlan", "endOfFirstGoodChange", "(I)I"⟩, 8), (⟨"PourPlan$Pieces", "longestLead", "()I"⟩, 9)]
theorem lw_r2 : ∀ q ∈ lw_privs_2, lw_okq q := List.forall_mem_cons.mpr ⟨lw_p16, List.forall_mem_cons.mpr ⟨lw_p17, List.forall_mem_cons.mpr ⟨lw_p18, List.forall_mem_cons.mpr ⟨lw_p19, List.forall_mem_cons.mpr ⟨lw_p20, List.forall_mem_cons.mpr ⟨lw_p21, List.forall_mem_cons.mpr ⟨lw_p22, List.forall_mem_cons.mpr ⟨lw_p23, List.forall_mem_cons.mpr ⟨lw_p24, List.forall_mem_cons.mpr ⟨lw_p25, List.forall_mem_cons.mpr ⟨lw_p26, List.forall_mem_cons.mpr ⟨lw_p27, List.forall_mem_cons.mpr ⟨lw_p28, List.forall_mem_cons.mpr ⟨lw_p29, List.forall_mem_cons.mpr ⟨lw_p30, List.forall_mem_cons.mpr ⟨lw_p31, fun _ h => absurd h List.not_mem_nil⟩⟩⟩⟩⟩⟩⟩⟩⟩⟩⟩⟩⟩⟩⟩⟩
theorem lw_p32 : lw_okq (⟨"PourPlan", "hardnessBelow", "(II)J"⟩, 8) := ⟨⟨by decide +kernel, by decide +kernel⟩, List.mem_of_getElem? (i := 9) (by decide +kernel), List.mem_of_getElem? (i := 373) (by decide +kernel), List.mem_of_getElem? (i := 374) (by decide +kernel)⟩
theorem lw_p33 : lw_okq (⟨"PourPlan", "loadOf", "(II)J"⟩, 8) := ⟨⟨by decide +kernel, by decide +kernel⟩, List.mem_of_getElem? (i := 9) (by decide +kernel), List.mem_of_getElem? (i := 377) (by decide +kernel), List.mem_of_getElem? (i := 378) (by decide +kernel)⟩
theorem lw_p34 : lw_okq (⟨"PourPlanModel", "isPiece", "(I)Z"⟩, 25) := ⟨⟨by decide +kernel, by decide +kernel⟩, List.mem_of_getElem? (i := 388) (by decide +kernel), List.mem_of_getElem? (i := 478) (by decide +kernel), List.mem_of_getElem? (i := 479) (by decide +kernel)⟩
theorem lw_p35 : lw_okq (⟨"PourPlanModel", "leads", "(II)Z"⟩, 25) := ⟨⟨by decide +kernel, by decide +kernel⟩, List.mem_of_getElem? (i := 388) (by decide +kernel), List.mem_of_getElem? (i := 482) (by decide +kernel), List.mem_of_getElem? (i := 483) (by decide +kernel)⟩
theorem lw_p36 : lw_okq (⟨"PourPlanModel", "plans", "([I)I"⟩, 25) := ⟨⟨by decide +kernel, by decide +kernel⟩, List.mem_of_getElem? (i := 388) (by decide +kernel), List.mem_of_getElem? (i := 527) (by decide +kernel), List.mem_of_getElem? (i := 528) (by decide +kernel)⟩
theorem lw_p37 : lw_okq (⟨"PourPlanModel", "hinders", "(II)I"⟩, 25) := ⟨⟨by decide +kernel, by decide +kernel⟩, List.mem_of_getElem? (i := 388) (by decide +kernel), List.mem_of_getElem? (i := 531) (by decide +kernel), List.mem_of_getElem? (i := 532) (by decide +kernel)⟩
theorem lw_p38 : lw_okq (⟨"PourPlanModel", "isUnder", "(II)Z"⟩, 25) := ⟨⟨by decide +kernel, by decide +kernel⟩, List.mem_of_getElem? (i := 388) (by decide +kernel), List.mem_of_getElem? (i := 535) (by decide +kernel), List.mem_of_getElem? (i := 536) (by decide +kernel)⟩
theorem lw_p39 : lw_okq (⟨"PourPlanModel", "isPoured", "(II)Z"⟩, 25) := ⟨⟨by decide +kernel, by decide +kernel⟩, List.mem_of_getElem? (i := 388) (by decide +kernel), List.mem_of_getElem? (i := 539) (by decide +kernel), List.mem_of_getElem? (i := 540) (by decide +kernel)⟩
theorem lw_p40 : lw_okq (⟨"PourPlanModel", "hardness", "(II)I"⟩, 25) := ⟨⟨by decide +kernel, by decide +kernel⟩, List.mem_of_getElem? (i := 388) (by decide +kernel), List.mem_of_getElem? (i := 543) (by decide +kernel), List.mem_of_getElem? (i := 544) (by decide +kernel)⟩
theorem lw_p41 : lw_okq (⟨"PourPlanModel", "freeOf", "(III)I"⟩, 25) := ⟨⟨by decide +kernel, by decide +kernel⟩, List.mem_of_getElem? (i := 388) (by decide +kernel), List.mem_of_getElem? (i := 548) (by decide +kernel), List.mem_of_getElem? (i := 549) (by decide +kernel)⟩
theorem lw_p42 : lw_okq (⟨"PourPlanModel", "holds", "(II)Z"⟩, 25) := ⟨⟨by decide +kernel, by decide +kernel⟩, List.mem_of_getElem? (i := 388) (by decide +kernel), List.mem_of_getElem? (i := 552) (by decide +kernel), List.mem_of_getElem? (i := 553) (by decide +kernel)⟩
theorem lw_p43 : lw_okq (⟨"PourPlanModel", "stripped", "(I)I"⟩, 25) := ⟨⟨by decide +kernel, by decide +kernel⟩, List.mem_of_getElem? (i := 388) (by decide +kernel), List.mem_of_getElem? (i := 556) (by decide +kernel), List.mem_of_getElem? (i := 557) (by decide +kernel)⟩
theorem lw_p44 : lw_okq (⟨"PourPlanModel", "volumes", "(II)I"⟩, 25) := ⟨⟨by decide +kernel, by decide +kernel⟩, List.mem_of_getElem? (i := 388) (by decide +kernel), List.mem_of_getElem? (i := 560) (by decide +kernel), List.mem_of_getElem? (i := 561) (by decide +kernel)⟩
theorem lw_p45 : lw_okq (⟨"PourPlanModel", "adds", "(JJ)V"⟩, 25) := ⟨⟨by decide +kernel, by decide +kernel⟩, List.mem_of_getElem? (i := 388) (by decide +kernel), List.mem_of_getElem? (i := 610) (by decide +kernel), List.mem_of_getElem? (i := 611) (by decide +kernel)⟩
def lw_privs_3 : List (MethodName × Nat) := [(⟨"PourPlan", "hardnessBelow", "(II)J"⟩, 8), (⟨"PourPlan", "loadOf", "(II)J"⟩, 8), (⟨"PourPlanModel", "isPiece", "(I)Z"⟩, 25), (⟨"PourPlanModel", "leads", "(II)Z"⟩, 25), (⟨"PourPlanModel", "plans", "([I)I"⟩, 25), (⟨"PourPlanModel", "hinders", "(II)I"⟩, 25), (⟨"PourPlanModel", "isUnder", "(II)Z"⟩, 25), (⟨"PourPlanModel", "isPoured", "(II)Z"⟩, 25), (⟨"PourPlanModel", "hardness", "(II)I"⟩, 25), (⟨"PourPlanModel", "freeOf", "(III)I"⟩, 25), (⟨"PourPlanModel", "holds", "(II)Z"⟩, 25), (⟨"PourPlanModel", "stripped", "(I)I"⟩, 25), (⟨"PourPlanModel", "volumes", "(II)I"⟩, 25), (⟨"PourPlanModel", "adds", "(JJ)V"⟩, 25)]
theorem lw_r3 : ∀ q ∈ lw_privs_3, lw_okq q := List.forall_mem_cons.mpr ⟨lw_p32, List.forall_mem_cons.mpr ⟨lw_p33, List.forall_mem_cons.mpr ⟨lw_p34, List.forall_mem_cons.mpr ⟨lw_p35, List.forall_mem_cons.mpr ⟨lw_p36, List.forall_mem_cons.mpr ⟨lw_p37, List.forall_mem_cons.mpr ⟨lw_p38, List.forall_mem_cons.mpr ⟨lw_p39, List.forall_mem_cons.mpr ⟨lw_p40, List.forall_mem_cons.mpr ⟨lw_p41, List.forall_mem_cons.mpr ⟨lw_p42, List.forall_mem_cons.mpr ⟨lw_p43, List.forall_mem_cons.mpr ⟨lw_p44, List.forall_mem_cons.mpr ⟨lw_p45, fun _ h => absurd h List.not_mem_nil⟩⟩⟩⟩⟩⟩⟩⟩⟩⟩⟩⟩⟩⟩
def lw_privs : List (MethodName × Nat) := lw_privs_1 ++ (lw_privs_2 ++ (lw_privs_3))
def lw_tbl : List Cond := k2_sels lw_privs ++ tables_1
theorem lw_privs_ok : ∀ q ∈ lw_privs, lw_okq q := by
  show ∀ q ∈ lw_privs_1 ++ (lw_privs_2 ++ (lw_privs_3)), lw_okq q
  exact List.forall_mem_append.mpr ⟨lw_r1, List.forall_mem_append.mpr ⟨lw_r2, lw_r3⟩⟩
/-! ===== BEGIN words of one list among another's, by their places ===== -/
theorem goodIn_r {big : List Cond} (ws : List Cond) (ps : List Nat) (hp : ws = ps.filterMap (fun i => big[i]?)) (h : ws.all goodWord = true) : GoodIn big ws := by
  intro w hw
  have h1 := List.all_eq_true.mp h w hw
  rw [hp] at hw
  obtain ⟨i, -, hi⟩ := List.mem_filterMap.mp hw
  have hm : w ∈ big := by first | exact List.mem_of_getElem? hi | exact List.getElem?_mem hi
  exact ⟨hm, good_of_word h1⟩
theorem goodIn_app {big a b : List Cond} (ha : GoodIn big a) (hb : GoodIn big b) : GoodIn big (a ++ b) := fun w h => (List.mem_append.mp h).elim (ha w) (hb w)
theorem goodIn_ca {big a b : List Cond} {c : Cond} (ha : GoodIn big (c :: a)) (hb : GoodIn big b) : GoodIn big (c :: (a ++ b)) := fun w h => (List.mem_cons.mp h).elim (fun e => ha w (List.mem_cons.mpr (Or.inl e))) (fun h => (List.mem_append.mp h).elim (fun h => ha w (List.mem_cons.mpr (Or.inr h))) (hb w))
theorem goodIn_sub {big ws : List Cond} (hm : ∀ w ∈ ws, w ∈ big) (h : ws.all goodWord = true) : GoodIn big ws := fun w hw => ⟨hm w hw, good_of_word (List.all_eq_true.mp h w hw)⟩
/-! ===== END ===== -/

/-! ===== BEGIN new T[n][m]: the outer array a place, the inner ones among the pooled ===== -/
/-- f, but v at every address of l -/
def vr_up {α : Type} (f : Nat → α) (l : List Nat) (v : α) : Nat → α := fun a => if a ∈ l then v else f a
theorem vr_up_in {α : Type} {f : Nat → α} {l : List Nat} {v : α} {a : Nat} (h : a ∈ l) : vr_up f l v a = v := if_pos h
theorem vr_up_ne {α : Type} {f : Nat → α} {l : List Nat} {v : α} {a : Nat} (h : a ∉ l) : vr_up f l v a = f a := if_neg h
theorem vr_rows {L l : List Nat} {f : Nat → va_E} {e : va_E} (h : ∀ a, a ∈ l → a ∉ L) : va_pl L f ++ l.map (fun a => (a, e)) = va_pl (L ++ l) (vr_up f l e) := by
  unfold va_pl
  rw [List.map_append]
  congr 1
  · apply List.map_congr_left
    intro a ha
    rw [vr_up_ne (fun q => h a q ha)]
  · apply List.map_congr_left
    intro a ha
    rw [vr_up_in ha]
theorem vr_lay {X rows : va_W} {x : Nat × va_E} {pl : va_W} {D : va_G} {cl : List vw_C} {H : Heap} (hP : va_P D cl (((X ++ pl) ++ [x]) ++ rows) H) : va_P D cl ((X ++ [x]) ++ (pl ++ rows)) H := by
  rw [List.append_assoc (X ++ pl)] at hP
  have h := va_P.swap hP
  rw [← List.append_assoc X] at h
  have h2 := va_P.swap h
  rw [List.append_assoc (X ++ [x])] at h2
  exact h2
theorem vr_layD {X rows : va_W} {x : Nat × va_E} {pl : va_W} {A : Nat → Prop} (hD : va_D A (((X ++ pl) ++ [x]) ++ rows)) : va_D A ((X ++ [x]) ++ (pl ++ rows)) := by
  rw [List.append_assoc (X ++ pl)] at hD
  have h := va_D.swap hD
  rw [← List.append_assoc X] at h
  have h2 := va_D.swap h
  rw [List.append_assoc (X ++ [x])] at h2
  exact h2
theorem vr_outer (c : ClassId) (N h0 : Nat) : ∀ i : Nat, Jvm.Free.Multi.outerC c N h0 i = arrV c N (fun j => va_rf (if j < i then some (h0 + 1 + j) else none))
  | 0 => by
    show ({ cls := c, slots := Array.replicate N .null, vm := .none } : Cell) = _
    rw [arrV_new]
    refine congrArg (arrV c N) (funext fun j => ?_)
    simp [va_rf]
  | i + 1 => by
    show (Jvm.Free.Multi.outerC c N h0 i).setSlot i (.ref (h0 + 1 + i)) = _
    rw [vr_outer c N h0 i, arrV_store]
    refine congrArg (arrV c N) (funext fun j => ?_)
    by_cases e : j = i
    · subst e
      simp [updV, va_rf]
    · by_cases h : j < i
      · simp [updV, e, h, Nat.lt_succ_of_lt h]
      · simp [updV, e, h, show ¬ j < i + 1 by omega]
section VGM
variable {p : Program} {l : Launch} {e : Env} {R : Room} {s : State} {m : MethodId} {args : Array Value} {below : List Frame} {meth : Method} {c : Code} {H : Heap} {locs : List Loc} {cells slots : Nat} {Q : State → Prop}
variable {cc : ByteArray} {pc : Nat} {ls : Array Slot} {rest : List Value} {D : va_G} {cl : List vw_C} {A : Nat → Prop} {a : Nat} {tys : List (ClassId × FieldType)} {ws : va_W} {H0 : Heap}
theorem va_mna {X : va_W} {L : List Nat} {f : Nat → va_E} {cc : ByteArray} (hexec : p.tables.exec = Jvm.exec) (hb : c.code = cc) {own : String} {index : Nat} {ty : FieldType} {cy : ClassId} (hown : s.vm.findClass own = some m.cls) (hclink : (Cond.classLink own index ("[" ++ (FieldType.array ty).toString)).before args s = true) (hover : (Cond.arrayOver (.array ty)).before args s = true) (harr : (Cond.arrayClass ty).before args s = true) (hcy : s.vm.findClass (FieldType.array ty).toString = some cy)
    (hK : va_K D cl tys s) (hP : va_P D cl (X ++ va_pl L f) H) (hD : va_D A (X ++ va_pl L f)) (hS : va_S A H0 H locs) (hA : ∀ q, H0.size ≤ q → A q) {n k : Int32} {N' K' : Nat} {z : vp_A} (hn : ¬ n < 0) (hk : ¬ k < 0) (hN : n.toNatClampNeg = N') (hM : k.toNatClampNeg = K')
    (hb1 : N' * 4 ≤ 536870912) (hb2 : K' * componentBytes ty ≤ 536870912) (hb3 : K' ≤ 536870912) (hdf : fits ty (defaultValue ty) = true) (hdd : (defaultValue ty).isDefault = true) (hcells : cells + (1 + N') ≤ R.cells) (hslots : slots + (N' + N' * K') ≤ R.slots) (hz : ∀ c : ClassId, Jvm.Free.Multi.innerC c K' (defaultValue ty) = vp_cell c z) (hdg : decode cc pc = .ok (.multianewarray index 2, 4))
    (kk : ∀ (q : Nat) (r : Nat → Nat) (cA : ClassId) (H1 : Heap), (∀ i j : Nat, i < N' → j < N' → r i = r j → i = j) → (∀ i : Nat, i < N' → r i ∉ L) → va_K D cl (tys ++ [(cA, .array ty)]) s →
      va_P D cl ((X ++ [(q, .inl (cA, N', .inr (.inr (.inr (.inr (fun i => if i < N' then some (r i) else none))))))]) ++ va_pl (L ++ (List.range N').map r) (vr_up f ((List.range N').map r) (.inl (cy, z)))) H1 → va_D A ((X ++ [(q, .inl (cA, N', .inr (.inr (.inr (.inr (fun i => if i < N' then some (r i) else none))))))]) ++ va_pl (L ++ (List.range N').map r) (vr_up f ((List.range N').map r) (.inl (cy, z)))) → va_S A H0 H1 locs →
      W p l e R s m args below meth c H1 locs (cells + 1 + N') (slots + N' + N' * K') Q (F0 m (pc + 4) ls (.ref q :: rest))) : W p l e R s m args below meth c H locs cells slots Q (F0 m pc ls (.int k :: .int n :: rest)) := by
  subst hN
  subst hM
  intro T hT Xs
  obtain ⟨vm₁, cA, comp, -, fA, fC, hO, -, X', step⟩ := Xs.multianewarray2F hexec hown hclink hover harr (g := F0 m pc ls (.int k :: .int n :: rest)) rfl (by rw [hb]; exact hdg) rfl hn hk hb1 hb2 hb3 hdf hdd hcells hslots
  have ec : some cy = some comp := hcy.symm.trans fC
  cases ec
  generalize hF : Jvm.Free.Multi.fill (T.setVm vm₁) cA cy n.toNatClampNeg k.toNatClampNeg (defaultValue ty) n.toNatClampNeg = F at X' step
  have hTh : (T.setVm vm₁).heap = H := hT
  obtain ⟨f1, f2, -, -⟩ := Jvm.Free.Multi.fill_facts (T.setVm vm₁) cA cy n.toNatClampNeg k.toNatClampNeg (defaultValue ty) n.toNatClampNeg
  rw [hF, hTh] at f1 f2
  have hold : ∀ x : Nat, x < H.size → F.heap[x]? = H[x]? := fun x hx => by
    have := Jvm.Free.Multi.fill_old (T.setVm vm₁) cA cy n.toNatClampNeg k.toNatClampNeg (defaultValue ty) (a := x) (by rw [hTh]; exact hx) n.toNatClampNeg
    rw [hF, hTh] at this
    exact this
  have hrow : ∀ j : Nat, j < n.toNatClampNeg → F.heap[H.size + 1 + j]? = some (vp_cell cy z) := fun j hj => by
    have := Jvm.Free.Multi.fill_inner (T.setVm vm₁) cA cy n.toNatClampNeg k.toNatClampNeg (defaultValue ty) n.toNatClampNeg j hj
    rw [hF, hTh, hz] at this
    exact this
  have hout : Jvm.Free.Multi.outerC cA n.toNatClampNeg H.size n.toNatClampNeg = vp_cell cA (n.toNatClampNeg, .inr (.inr (.inr (.inr (fun i => if i < n.toNatClampNeg then some (H.size + 1 + i) else none))))) := by
    rw [vp_cell_q]
    exact vr_outer cA n.toNatClampNeg H.size n.toNatClampNeg
  rw [hout] at f2
  have hlt : ∀ a, a ∈ L → a < H.size := fun a ha => by
    obtain ⟨k9, hk9⟩ := va_pl_get (X := X) (f := f) ha
    exact (hP k9 _ hk9).lt
  have hnl : ∀ i : Nat, i < n.toNatClampNeg → H.size + 1 + i ∉ L := fun i _ h => by
    have := hlt _ h
    omega
  have hnm : ∀ a, a ∈ (List.range n.toNatClampNeg).map (fun i => H.size + 1 + i) → a ∉ L := fun a ha h => by
    obtain ⟨i, -, rfl⟩ := List.mem_map.mp ha
    have := hlt _ h
    omega
  have hP0 : va_P D cl (X ++ va_pl L f) F.heap := hP.kept (fun k9 x hx => hold x.1 ((hP k9 x hx).lt))
  have hP1 : va_P D cl ((X ++ va_pl L f) ++ [(H.size, .inl (cA, n.toNatClampNeg, .inr (.inr (.inr (.inr (fun i => if i < n.toNatClampNeg then some (H.size + 1 + i) else none))))))]) F.heap := hP0.app (fun k9 x hx => by
    have h0 : k9 < 1 := (List.getElem?_eq_some_iff.mp hx).1
    rw [show k9 = 0 by omega] at hx
    cases hx
    exact f2)
  have hP2 : va_P D cl (((X ++ va_pl L f) ++ [(H.size, .inl (cA, n.toNatClampNeg, .inr (.inr (.inr (.inr (fun i => if i < n.toNatClampNeg then some (H.size + 1 + i) else none))))))]) ++ ((List.range n.toNatClampNeg).map (fun i => H.size + 1 + i)).map (fun a => (a, .inl (cy, z)))) F.heap := hP1.app (fun k9 x hx => by
    obtain ⟨a, ha, rfl⟩ := List.mem_map.mp (List.mem_of_getElem? hx)
    obtain ⟨i, hi, rfl⟩ := List.mem_map.mp ha
    exact hrow i (List.mem_range.mp hi))
  have hD2 : va_D A (((X ++ va_pl L f) ++ [(H.size, .inl (cA, n.toNatClampNeg, .inr (.inr (.inr (.inr (fun i => if i < n.toNatClampNeg then some (H.size + 1 + i) else none))))))]) ++ ((List.range n.toNatClampNeg).map (fun i => H.size + 1 + i)).map (fun a => (a, .inl (cy, z)))) := by
    have hD1 := hD.push (e := .inl (cA, n.toNatClampNeg, .inr (.inr (.inr (.inr (fun i => if i < n.toNatClampNeg then some (H.size + 1 + i) else none)))))) hP rfl (hA _ hS.1)
    generalize hW1 : (X ++ va_pl L f) ++ [(H.size, .inl (cA, n.toNatClampNeg, .inr (.inr (.inr (.inr (fun i => if i < n.toNatClampNeg then some (H.size + 1 + i) else none))))))] = W1 at hD1 hP1 ⊢
    have hle : ∀ (k9 : Nat) (x : Nat × va_E), W1[k9]? = some x → x.1 ≤ H.size := fun k9 x hx => by
      rw [← hW1] at hx
      by_cases hl : k9 < (X ++ va_pl L f).length
      · rw [List.getElem?_append_left hl] at hx
        exact Nat.le_of_lt ((hP k9 x hx).lt)
      · rw [List.getElem?_append_right (by omega)] at hx
        have h0 : k9 - (X ++ va_pl L f).length < 1 := (List.getElem?_eq_some_iff.mp hx).1
        rw [show k9 - (X ++ va_pl L f).length = 0 by omega] at hx
        cases hx
        exact Nat.le_refl _
    have hr : ∀ (k9 : Nat) (x : Nat × va_E), (((List.range n.toNatClampNeg).map (fun i => H.size + 1 + i)).map (fun a => ((a, .inl (cy, z)) : Nat × va_E)))[k9]? = some x → x.1 = H.size + 1 + k9 := fun k9 x hx => by
      rw [List.getElem?_map, List.getElem?_map] at hx
      by_cases h9 : k9 < n.toNatClampNeg
      · rw [List.getElem?_range h9] at hx
        cases hx
        rfl
      · have hn0 : (List.range n.toNatClampNeg)[k9]? = none := List.getElem?_eq_none (by rw [List.length_range]; omega)
        rw [hn0] at hx
        cases hx
    refine ⟨fun i j x y hi hj hxy => ?_, fun k9 x hx => ?_⟩
    · by_cases h1 : i < W1.length <;> by_cases h2 : j < W1.length
      · rw [List.getElem?_append_left h1] at hi
        rw [List.getElem?_append_left h2] at hj
        exact hD1.1 i j x y hi hj hxy
      · rw [List.getElem?_append_left h1] at hi
        rw [List.getElem?_append_right (by omega)] at hj
        have := hle _ _ hi
        have := hr _ _ hj
        omega
      · rw [List.getElem?_append_right (by omega)] at hi
        rw [List.getElem?_append_left h2] at hj
        have := hle _ _ hj
        have := hr _ _ hi
        omega
      · rw [List.getElem?_append_right (by omega)] at hi hj
        have := hr _ _ hi
        have := hr _ _ hj
        omega
    · by_cases h1 : k9 < W1.length
      · rw [List.getElem?_append_left h1] at hx
        exact hD1.2 k9 x hx
      · rw [List.getElem?_append_right (by omega)] at hx
        have := hr _ _ hx
        exact hA _ (by have := hS.1; omega)
  have hAr : ArrOfT s cA (.array ty) := fun N9 z9 => by
    obtain ⟨-, k9, hk9, cm9, hkk9⟩ := (hO 0 0 0).1
    exact ⟨(fun q hq => by cases hq), k9, hk9, cm9, hkk9⟩
  have hK2 : va_K D cl (tys ++ [(cA, .array ty)]) s := ⟨hK.1, fun k9 x hx => by
    by_cases hl : k9 < tys.length
    · rw [List.getElem?_append_left hl] at hx
      exact hK.2 k9 x hx
    · rw [List.getElem?_append_right (by omega)] at hx
      have h0 : k9 - tys.length < 1 := (List.getElem?_eq_some_iff.mp hx).1
      rw [show k9 - tys.length = 0 by omega] at hx
      cases hx
      exact ⟨hAr, fA⟩⟩
  obtain ⟨t, a1, b1⟩ := kk H.size (fun i => H.size + 1 + i) cA F.heap (fun i j _ _ h => by have h9 : H.size + 1 + i = H.size + 1 + j := h; omega) hnl hK2 (by rw [← vr_rows hnm]; exact vr_lay hP2) (by rw [← vr_rows hnm]; exact vr_layD hD2) ⟨by rw [f1]; have := hS.1; omega, fun x h1 h2 => (hold x (Nat.lt_of_lt_of_le h1 hS.1)).trans (hS.2.1 x h1 h2), hS.2.2⟩ F rfl X'
  refine ⟨t, step t ?_, b1⟩
  have e : T.heap.size = H.size := by rw [hT]
  rw [e]
  exact a1
end VGM
/-! ===== END ===== -/

/-! ===== BEGIN printed: names, fields, word lists, decode rows ===== -/
def RX0 : String := "PourPlan$Curing"
def TX0 : u_T := fun k => match k with
  | 0 => ("PourPlan$Curing", "warmth", "[I", true)
  | 1 => ("PourPlan$Curing", "levels", "[I", true)
  | 2 => ("PourPlan$Curing", "pointDegrees", "[I", true)
  | 3 => ("PourPlan$Curing", "pointHardness", "[I", true)
  | 4 => ("PourPlan$Curing", "degreesAhead", "[I", true)
  | 5 => ("PourPlan$Curing", "stripDays", "[I", true)
  | 6 => ("PourPlan$Curing", "baseWarmth", "I", false)
  | _ => ("PourPlan$Curing", "points", "I", false)
def tyX0 : Nat → FieldType := fun k => match k with
  | 0 => .array .int
  | 1 => .array .int
  | 2 => .array .int
  | 3 => .array .int
  | 4 => .array .int
  | 5 => .array .int
  | 6 => .int
  | _ => .int
abbrev wsX00 : List Cond := u_ws RX0 TX0 8
theorem nmX0 : ∀ a, a < 8 → ∀ b, b < 8 → a ≠ b → (TX0 a).2.1 ≠ (TX0 b).2.1 := by decide +kernel
theorem tyX0_ok : ∀ k, k < 8 → parseFieldDescriptor (TX0 k).2.2.1 = some (tyX0 k) := by decide +kernel
abbrev cX0_init : ByteArray := prog_2_method_1_code
def yX0_init : MethodName := ⟨RX0, "<init>", "()V"⟩
abbrev cX0_goesOnWith : ByteArray := prog_2_method_2_code
def yX0_goesOnWith : MethodName := ⟨RX0, "goesOnWith", "(II)Z"⟩
abbrev cX0_addPoint : ByteArray := prog_2_method_3_code
def yX0_addPoint : MethodName := ⟨RX0, "addPoint", "(II)V"⟩
abbrev cX0_hardnessOf : ByteArray := prog_2_method_4_code
def yX0_hardnessOf : MethodName := ⟨RX0, "hardnessOf", "(I)I"⟩
abbrev cX0_hardnessOn : ByteArray := prog_2_method_5_code
def yX0_hardnessOn : MethodName := ⟨RX0, "hardnessOn", "(II)I"⟩
abbrev cX0_stripDayFor : ByteArray := prog_2_method_6_code
def yX0_stripDayFor : MethodName := ⟨RX0, "stripDayFor", "(I)I"⟩
abbrev cX0_renew : ByteArray := prog_2_method_7_code
def yX0_renew : MethodName := ⟨RX0, "renew", "()V"⟩
def RX1 : String := "PourPlan$Pieces"
def TX1 : u_T := fun k => match k with
  | 0 => ("PourPlan$Pieces", "kinds", "[I", true)
  | 1 => ("PourPlan$Pieces", "floors", "[I", true)
  | 2 => ("PourPlan$Pieces", "volumes", "[I", true)
  | 3 => ("PourPlan$Pieces", "sizes", "[I", true)
  | 4 => ("PourPlan$Pieces", "faces", "[I", true)
  | 5 => ("PourPlan$Pieces", "days", "[I", true)
  | 6 => ("PourPlan$Pieces", "lead", "[[I", true)
  | 7 => ("PourPlan$Pieces", "ways", "[I", true)
  | _ => ("PourPlan$Pieces", "number", "I", false)
def tyX1 : Nat → FieldType := fun k => match k with
  | 0 => .array .int
  | 1 => .array .int
  | 2 => .array .int
  | 3 => .array .int
  | 4 => .array .int
  | 5 => .array .int
  | 6 => .array (.array .int)
  | 7 => .array .int
  | _ => .int
abbrev wsX10 : List Cond := u_ws RX1 TX1 9
theorem nmX1 : ∀ a, a < 9 → ∀ b, b < 9 → a ≠ b → (TX1 a).2.1 ≠ (TX1 b).2.1 := by decide +kernel
theorem tyX1_ok : ∀ k, k < 9 → parseFieldDescriptor (TX1 k).2.2.1 = some (tyX1 k) := by decide +kernel
abbrev cX1_init : ByteArray := prog_3_method_1_code
def yX1_init : MethodName := ⟨RX1, "<init>", "()V"⟩
abbrev cX1_has : ByteArray := prog_3_method_2_code
def yX1_has : MethodName := ⟨RX1, "has", "(I)Z"⟩
abbrev cX1_add : ByteArray := prog_3_method_3_code
def yX1_add : MethodName := ⟨RX1, "add", "(IIIII)I"⟩
abbrev cX1_standsOn : ByteArray := prog_3_method_4_code
def yX1_standsOn : MethodName := ⟨RX1, "standsOn", "(II)Z"⟩
abbrev cX1_carries : ByteArray := prog_3_method_5_code
def yX1_carries : MethodName := ⟨RX1, "carries", "(II)Z"⟩
abbrev cX1_unpourFrom : ByteArray := prog_3_method_6_code
def yX1_unpourFrom : MethodName := ⟨RX1, "unpourFrom", "(I)I"⟩
abbrev cX1_howManyPoured : ByteArray := prog_3_method_7_code
def yX1_howManyPoured : MethodName := ⟨RX1, "howManyPoured", "()I"⟩
abbrev cX1_mustLead : ByteArray := prog_3_method_8_code
def yX1_mustLead : MethodName := ⟨RX1, "mustLead", "(II)Z"⟩
abbrev cX1_longestLead : ByteArray := prog_3_method_9_code
def yX1_longestLead : MethodName := ⟨RX1, "longestLead", "()I"⟩
abbrev cX1_lengthenWays : ByteArray := prog_3_method_10_code
def yX1_lengthenWays : MethodName := ⟨RX1, "lengthenWays", "()V"⟩
def RX2 : String := "PourPlan$Sequence"
def TX2 : u_T := fun k => match k with
  | 0 => ("PourPlan$Sequence", "row", "[I", true)
  | _ => ("PourPlan$Sequence", "length", "I", false)
def tyX2 : Nat → FieldType := fun k => match k with
  | 0 => .array .int
  | _ => .int
abbrev wsX20 : List Cond := u_ws RX2 TX2 2
theorem nmX2 : ∀ a, a < 2 → ∀ b, b < 2 → a ≠ b → (TX2 a).2.1 ≠ (TX2 b).2.1 := by decide +kernel
theorem tyX2_ok : ∀ k, k < 2 → parseFieldDescriptor (TX2 k).2.2.1 = some (tyX2 k) := by decide +kernel
abbrev cX2_init : ByteArray := prog_4_method_1_code
def yX2_init : MethodName := ⟨RX2, "<init>", "()V"⟩
abbrev cX2_append : ByteArray := prog_4_method_2_code
def yX2_append : MethodName := ⟨RX2, "append", "(I)V"⟩
abbrev cX2_placeOf : ByteArray := prog_4_method_3_code
def yX2_placeOf : MethodName := ⟨RX2, "placeOf", "(I)I"⟩
abbrev cX2_isPlace : ByteArray := prog_4_method_4_code
def yX2_isPlace : MethodName := ⟨RX2, "isPlace", "(I)Z"⟩
abbrev cX2_move : ByteArray := prog_4_method_5_code
def yX2_move : MethodName := ⟨RX2, "move", "(II)V"⟩
abbrev cX2_sort : ByteArray := prog_4_method_6_code
def yX2_sort : MethodName := ⟨RX2, "sort", "()V"⟩
abbrev cX2_toNext : ByteArray := prog_4_method_7_code
def yX2_toNext : MethodName := ⟨RX2, "toNext", "()Z"⟩
abbrev cX2_swap : ByteArray := prog_4_method_8_code
def yX2_swap : MethodName := ⟨RX2, "swap", "(II)V"⟩
def RX3 : String := "PourPlan"
def TX3 : u_T := fun k => match k with
  | 0 => ("PourPlan", "curing", "LPourPlan$Curing;", true)
  | 1 => ("PourPlan", "pieces", "LPourPlan$Pieces;", true)
  | 2 => ("PourPlan", "sequence", "LPourPlan$Sequence;", true)
  | 3 => ("PourPlan", "forms", "[I", true)
  | 4 => ("PourPlan", "bestOrder", "[I", true)
  | 5 => ("PourPlan", "gangLimit", "I", false)
  | 6 => ("PourPlan", "today", "I", false)
  | _ => ("PourPlan", "latestEnd", "I", false)
def tyX3 : Nat → FieldType := fun k => match k with
  | 0 => .object "PourPlan$Curing"
  | 1 => .object "PourPlan$Pieces"
  | 2 => .object "PourPlan$Sequence"
  | 3 => .array .int
  | 4 => .array .int
  | 5 => .int
  | 6 => .int
  | _ => .int
abbrev wsX30 : List Cond := u_ws RX3 TX3 8
theorem nmX3 : ∀ a, a < 8 → ∀ b, b < 8 → a ≠ b → (TX3 a).2.1 ≠ (TX3 b).2.1 := by decide +kernel
theorem tyX3_ok : ∀ k, k < 8 → parseFieldDescriptor (TX3 k).2.2.1 = some (tyX3 k) := by decide +kernel
abbrev cX3_init : ByteArray := prog_1_method_1_code
def yX3_init : MethodName := ⟨RX3, "<init>", "()V"⟩
abbrev cX3_piece : ByteArray := prog_1_method_2_code
def yX3_piece : MethodName := ⟨RX3, "piece", "(IIIII)I"⟩
abbrev cX3_ahead : ByteArray := prog_1_method_3_code
def yX3_ahead : MethodName := ⟨RX3, "ahead", "(III)I"⟩
abbrev cX3_form : ByteArray := prog_1_method_4_code
def yX3_form : MethodName := ⟨RX3, "form", "(II)I"⟩
abbrev cX3_gang : ByteArray := prog_1_method_5_code
def yX3_gang : MethodName := ⟨RX3, "gang", "(I)I"⟩
abbrev cX3_level : ByteArray := prog_1_method_6_code
def yX3_level : MethodName := ⟨RX3, "level", "(II)I"⟩
abbrev cX3_warm : ByteArray := prog_1_method_7_code
def yX3_warm : MethodName := ⟨RX3, "warm", "(II)I"⟩
abbrev cX3_base : ByteArray := prog_1_method_8_code
def yX3_base : MethodName := ⟨RX3, "base", "(I)I"⟩
abbrev cX3_point : ByteArray := prog_1_method_9_code
def yX3_point : MethodName := ⟨RX3, "point", "(II)I"⟩
abbrev cX3_unpoint : ByteArray := prog_1_method_10_code
def yX3_unpoint : MethodName := ⟨RX3, "unpoint", "()I"⟩
abbrev cX3_table : ByteArray := prog_1_method_11_code
def yX3_table : MethodName := ⟨RX3, "table", "(I)I"⟩
abbrev cX3_plan : ByteArray := prog_1_method_12_code
def yX3_plan : MethodName := ⟨RX3, "plan", "()I"⟩
abbrev cX3_order : ByteArray := prog_1_method_13_code
def yX3_order : MethodName := ⟨RX3, "order", "(II)I"⟩
abbrev cX3_best : ByteArray := prog_1_method_14_code
def yX3_best : MethodName := ⟨RX3, "best", "()I"⟩
abbrev cX3_better : ByteArray := prog_1_method_15_code
def yX3_better : MethodName := ⟨RX3, "better", "()I"⟩
abbrev cX3_now : ByteArray := prog_1_method_16_code
def yX3_now : MethodName := ⟨RX3, "now", "(I)I"⟩
abbrev cX3_bound : ByteArray := prog_1_method_17_code
def yX3_bound : MethodName := ⟨RX3, "bound", "()I"⟩
abbrev cX3_about : ByteArray := prog_1_method_18_code
def yX3_about : MethodName := ⟨RX3, "about", "(II)I"⟩
abbrev cX3_hard : ByteArray := prog_1_method_19_code
def yX3_hard : MethodName := ⟨RX3, "hard", "(II)I"⟩
abbrev cX3_why : ByteArray := prog_1_method_20_code
def yX3_why : MethodName := ⟨RX3, "why", "(II)I"⟩
abbrev cX3_free : ByteArray := prog_1_method_21_code
def yX3_free : MethodName := ⟨RX3, "free", "(II)I"⟩
abbrev cX3_poured : ByteArray := prog_1_method_22_code
def yX3_poured : MethodName := ⟨RX3, "poured", "(I)I"⟩
abbrev cX3_borne : ByteArray := prog_1_method_23_code
def yX3_borne : MethodName := ⟨RX3, "borne", "(III)J"⟩
abbrev cX3_count : ByteArray := prog_1_method_24_code
def yX3_count : MethodName := ⟨RX3, "count", "(I)I"⟩
abbrev cX3_pourAnew : ByteArray := prog_1_method_25_code
def yX3_pourAnew : MethodName := ⟨RX3, "pourAnew", "()I"⟩
abbrev cX3_endOfAll : ByteArray := prog_1_method_26_code
def yX3_endOfAll : MethodName := ⟨RX3, "endOfAll", "()I"⟩
abbrev cX3_endOfFirstGoodChange : ByteArray := prog_1_method_27_code
def yX3_endOfFirstGoodChange : MethodName := ⟨RX3, "endOfFirstGoodChange", "(I)I"⟩
abbrev cX3_hindrance : ByteArray := prog_1_method_28_code
def yX3_hindrance : MethodName := ⟨RX3, "hindrance", "(II)I"⟩
abbrev cX3_waitsForAhead : ByteArray := prog_1_method_29_code
def yX3_waitsForAhead : MethodName := ⟨RX3, "waitsForAhead", "(II)Z"⟩
abbrev cX3_leadsBy : ByteArray := prog_1_method_30_code
def yX3_leadsBy : MethodName := ⟨RX3, "leadsBy", "(III)Z"⟩
abbrev cX3_waitsToStand : ByteArray := prog_1_method_31_code
def yX3_waitsToStand : MethodName := ⟨RX3, "waitsToStand", "(II)Z"⟩
abbrev cX3_formsLeft : ByteArray := prog_1_method_32_code
def yX3_formsLeft : MethodName := ⟨RX3, "formsLeft", "(III)I"⟩
abbrev cX3_volumeOn : ByteArray := prog_1_method_33_code
def yX3_volumeOn : MethodName := ⟨RX3, "volumeOn", "(II)I"⟩
abbrev cX3_isHeldOn : ByteArray := prog_1_method_34_code
def yX3_isHeldOn : MethodName := ⟨RX3, "isHeldOn", "(II)Z"⟩
abbrev cX3_hardnessBelow : ByteArray := prog_1_method_35_code
def yX3_hardnessBelow : MethodName := ⟨RX3, "hardnessBelow", "(II)J"⟩
abbrev cX3_loadOf : ByteArray := prog_1_method_36_code
def yX3_loadOf : MethodName := ⟨RX3, "loadOf", "(II)J"⟩
abbrev cX3_isIn : ByteArray := prog_1_method_37_code
def yX3_isIn : MethodName := ⟨RX3, "isIn", "(III)Z"⟩
abbrev cX3_isDay : ByteArray := prog_1_method_38_code
def yX3_isDay : MethodName := ⟨RX3, "isDay", "(I)Z"⟩
abbrev cX3_commonDivisor : ByteArray := prog_1_method_39_code
def yX3_commonDivisor : MethodName := ⟨RX3, "commonDivisor", "(JJ)J"⟩
def RX4 : String := "PourPlanModel"
def TX4 : u_T := fun k => match k with
  | 0 => ("PourPlanModel", "pieces", "I", false)
  | 1 => ("PourPlanModel", "points", "I", false)
  | 2 => ("PourPlanModel", "now", "I", false)
  | 3 => ("PourPlanModel", "end", "I", false)
  | 4 => ("PourPlanModel", "gang", "I", false)
  | 5 => ("PourPlanModel", "base", "I", false)
  | 6 => ("PourPlanModel", "strip", "I", false)
  | 7 => ("PourPlanModel", "bear", "I", false)
  | 8 => ("PourPlanModel", "kind", "[I", true)
  | 9 => ("PourPlanModel", "floor", "[I", true)
  | 10 => ("PourPlanModel", "volume", "[I", true)
  | 11 => ("PourPlanModel", "size", "[I", true)
  | 12 => ("PourPlanModel", "faces", "[I", true)
  | 13 => ("PourPlanModel", "when", "[I", true)
  | 14 => ("PourPlanModel", "ahead", "[I", true)
  | 15 => ("PourPlanModel", "order", "[I", true)
  | 16 => ("PourPlanModel", "tried", "[I", true)
  | 17 => ("PourPlanModel", "chosen", "[I", true)
  | 18 => ("PourPlanModel", "forms", "[I", true)
  | 19 => ("PourPlanModel", "warmth", "[I", true)
  | 20 => ("PourPlanModel", "degrees", "[I", true)
  | 21 => ("PourPlanModel", "thousandths", "[I", true)
  | 22 => ("PourPlanModel", "longest", "[I", true)
  | 23 => ("PourPlanModel", "above", "J", false)
  | _ => ("PourPlanModel", "below", "J", false)
def tyX4 : Nat → FieldType := fun k => match k with
  | 0 => .int
  | 1 => .int
  | 2 => .int
  | 3 => .int
  | 4 => .int
  | 5 => .int
  | 6 => .int
  | 7 => .int
  | 8 => .array .int
  | 9 => .array .int
  | 10 => .array .int
  | 11 => .array .int
  | 12 => .array .int
  | 13 => .array .int
  | 14 => .array .int
  | 15 => .array .int
  | 16 => .array .int
  | 17 => .array .int
  | 18 => .array .int
  | 19 => .array .int
  | 20 => .array .int
  | 21 => .array .int
  | 22 => .array .int
  | 23 => .long
  | _ => .long
abbrev wsX40 : List Cond := u_ws RX4 TX4 25
theorem nmX4 : ∀ a, a < 25 → ∀ b, b < 25 → a ≠ b → (TX4 a).2.1 ≠ (TX4 b).2.1 := by decide +kernel
theorem tyX4_ok : ∀ k, k < 25 → parseFieldDescriptor (TX4 k).2.2.1 = some (tyX4 k) := by decide +kernel
abbrev cX4_init : ByteArray := prog_6_method_1_code
def yX4_init : MethodName := ⟨RX4, "<init>", "()V"⟩
abbrev cX4_isPiece : ByteArray := prog_6_method_2_code
def yX4_isPiece : MethodName := ⟨RX4, "isPiece", "(I)Z"⟩
abbrev cX4_isDay : ByteArray := prog_6_method_3_code
def yX4_isDay : MethodName := ⟨RX4, "isDay", "(I)Z"⟩
abbrev cX4_piece : ByteArray := prog_6_method_4_code
def yX4_piece : MethodName := ⟨RX4, "piece", "(IIIII)I"⟩
abbrev cX4_leads : ByteArray := prog_6_method_5_code
def yX4_leads : MethodName := ⟨RX4, "leads", "(II)Z"⟩
abbrev cX4_ahead : ByteArray := prog_6_method_6_code
def yX4_ahead : MethodName := ⟨RX4, "ahead", "(III)I"⟩
abbrev cX4_form : ByteArray := prog_6_method_7_code
def yX4_form : MethodName := ⟨RX4, "form", "(II)I"⟩
abbrev cX4_gang : ByteArray := prog_6_method_8_code
def yX4_gang : MethodName := ⟨RX4, "gang", "(I)I"⟩
abbrev cX4_level : ByteArray := prog_6_method_9_code
def yX4_level : MethodName := ⟨RX4, "level", "(II)I"⟩
abbrev cX4_warm : ByteArray := prog_6_method_10_code
def yX4_warm : MethodName := ⟨RX4, "warm", "(II)I"⟩
abbrev cX4_base : ByteArray := prog_6_method_11_code
def yX4_base : MethodName := ⟨RX4, "base", "(I)I"⟩
abbrev cX4_point : ByteArray := prog_6_method_12_code
def yX4_point : MethodName := ⟨RX4, "point", "(II)I"⟩
abbrev cX4_unpoint : ByteArray := prog_6_method_13_code
def yX4_unpoint : MethodName := ⟨RX4, "unpoint", "()I"⟩
abbrev cX4_table : ByteArray := prog_6_method_14_code
def yX4_table : MethodName := ⟨RX4, "table", "(I)I"⟩
abbrev cX4_hardness : ByteArray := prog_6_method_15_code
def yX4_hardness : MethodName := ⟨RX4, "hardness", "(II)I"⟩
abbrev cX4_stripped : ByteArray := prog_6_method_16_code
def yX4_stripped : MethodName := ⟨RX4, "stripped", "(I)I"⟩
abbrev cX4_isPoured : ByteArray := prog_6_method_17_code
def yX4_isPoured : MethodName := ⟨RX4, "isPoured", "(II)Z"⟩
abbrev cX4_holds : ByteArray := prog_6_method_18_code
def yX4_holds : MethodName := ⟨RX4, "holds", "(II)Z"⟩
abbrev cX4_freeOf : ByteArray := prog_6_method_19_code
def yX4_freeOf : MethodName := ⟨RX4, "freeOf", "(III)I"⟩
abbrev cX4_volumes : ByteArray := prog_6_method_20_code
def yX4_volumes : MethodName := ⟨RX4, "volumes", "(II)I"⟩
abbrev cX4_isUnder : ByteArray := prog_6_method_21_code
def yX4_isUnder : MethodName := ⟨RX4, "isUnder", "(II)Z"⟩
abbrev cX4_hinders : ByteArray := prog_6_method_22_code
def yX4_hinders : MethodName := ⟨RX4, "hinders", "(II)I"⟩
abbrev cX4_plans : ByteArray := prog_6_method_23_code
def yX4_plans : MethodName := ⟨RX4, "plans", "([I)I"⟩
abbrev cX4_plan : ByteArray := prog_6_method_24_code
def yX4_plan : MethodName := ⟨RX4, "plan", "()I"⟩
abbrev cX4_order : ByteArray := prog_6_method_25_code
def yX4_order : MethodName := ⟨RX4, "order", "(II)I"⟩
abbrev cX4_best : ByteArray := prog_6_method_26_code
def yX4_best : MethodName := ⟨RX4, "best", "()I"⟩
abbrev cX4_better : ByteArray := prog_6_method_27_code
def yX4_better : MethodName := ⟨RX4, "better", "()I"⟩
abbrev cX4_now : ByteArray := prog_6_method_28_code
def yX4_now : MethodName := ⟨RX4, "now", "(I)I"⟩
abbrev cX4_bound : ByteArray := prog_6_method_29_code
def yX4_bound : MethodName := ⟨RX4, "bound", "()I"⟩
abbrev cX4_about : ByteArray := prog_6_method_30_code
def yX4_about : MethodName := ⟨RX4, "about", "(II)I"⟩
abbrev cX4_hard : ByteArray := prog_6_method_31_code
def yX4_hard : MethodName := ⟨RX4, "hard", "(II)I"⟩
abbrev cX4_why : ByteArray := prog_6_method_32_code
def yX4_why : MethodName := ⟨RX4, "why", "(II)I"⟩
abbrev cX4_free : ByteArray := prog_6_method_33_code
def yX4_free : MethodName := ⟨RX4, "free", "(II)I"⟩
abbrev cX4_poured : ByteArray := prog_6_method_34_code
def yX4_poured : MethodName := ⟨RX4, "poured", "(I)I"⟩
abbrev cX4_common : ByteArray := prog_6_method_35_code
def yX4_common : MethodName := ⟨RX4, "common", "(JJ)J"⟩
abbrev cX4_adds : ByteArray := prog_6_method_36_code
def yX4_adds : MethodName := ⟨RX4, "adds", "(JJ)V"⟩
abbrev cX4_borne : ByteArray := prog_6_method_37_code
def yX4_borne : MethodName := ⟨RX4, "borne", "(III)J"⟩
abbrev cX4_count : ByteArray := prog_6_method_38_code
def yX4_count : MethodName := ⟨RX4, "count", "(I)I"⟩
def RJ9 : String := "java/lang/Math"
def TJ9 : u_T := fun k => match k with
  | _ => ("", "", "", false)
def tyJ9 : Nat → FieldType := fun k => match k with
  | _ => .int
abbrev wsJ90 : List Cond := u_ws RJ9 TJ9 0
theorem nmJ9 : ∀ a, a < 0 → ∀ b, b < 0 → a ≠ b → (TJ9 a).2.1 ≠ (TJ9 b).2.1 := by decide +kernel
theorem tyJ9_ok : ∀ k, k < 0 → parseFieldDescriptor (TJ9 k).2.2.1 = some (tyJ9 k) := by decide +kernel
abbrev cJ9_max_7cf53 : ByteArray := prog_7_method_65_code
def yJ9_max_7cf53 : MethodName := ⟨RJ9, "max", "(II)I"⟩
def RJ10 : String := "java/lang/System"
def TJ10 : u_T := fun k => match k with
  | _ => ("", "", "", false)
def tyJ10 : Nat → FieldType := fun k => match k with
  | _ => .int
abbrev wsJ100 : List Cond := u_ws RJ10 TJ10 0
theorem nmJ10 : ∀ a, a < 0 → ∀ b, b < 0 → a ≠ b → (TJ10 a).2.1 ≠ (TJ10 b).2.1 := by decide +kernel
theorem tyJ10_ok : ∀ k, k < 0 → parseFieldDescriptor (TJ10 k).2.2.1 = some (tyJ10 k) := by decide +kernel
def RL : String := "PourPlanLaw"
abbrev cL_law : ByteArray := code
def yL_law : MethodName := ⟨RL, "law", "([I)Z"⟩
def wsX0_hardnessOf : List Cond := .code yX0_hardnessOf cX0_hardnessOf 7 (some .int) :: ([.fieldLink RX0 34 "PourPlan$Curing" "points" "I", .fieldLink RX0 18 "PourPlan$Curing" "pointDegrees" "[I", .fieldLink RX0 21 "PourPlan$Curing" "pointHardness" "[I"] ++ wsX00)
def wsX0_hardnessOn : List Cond := .code yX0_hardnessOn cX0_hardnessOn 3 (some .int) :: ([.fieldLink RX0 24 "PourPlan$Curing" "degreesAhead" "[I", .methodLink RX0 40 yX0_hardnessOf, .instanceMethod yX0_hardnessOf, .selects RX0 yX0_hardnessOf yX0_hardnessOf, .initialized RX0, .code yX0_hardnessOf cX0_hardnessOf 7 (some .int), .fieldLink RX0 34 "PourPlan$Curing" "points" "I", .fieldLink RX0 18 "PourPlan$Curing" "pointDegrees" "[I", .fieldLink RX0 21 "PourPlan$Curing" "pointHardness" "[I"] ++ wsX00)
def wsX0_renew : List Cond := .code yX0_renew cX0_renew 3 none :: ([.fieldLink RX0 24 "PourPlan$Curing" "degreesAhead" "[I", .fieldLink RX0 9 "PourPlan$Curing" "warmth" "[I", .fieldLink RX0 30 "PourPlan$Curing" "baseWarmth" "I", .methodLink RX0 44 Lib.Math.max.name, .static Lib.Math.max.name, .initialized "java/lang/Math", .code Lib.Math.max.name Lib.Math.max.code 2 (some .int), .fieldLink RX0 15 "PourPlan$Curing" "levels" "[I", .fieldLink RX0 27 "PourPlan$Curing" "stripDays" "[I", .methodLink RX0 50 yX0_hardnessOn, .instanceMethod yX0_hardnessOn, .selects RX0 yX0_hardnessOn yX0_hardnessOn, .initialized RX0, .code yX0_hardnessOn cX0_hardnessOn 3 (some .int), .methodLink RX0 40 yX0_hardnessOf, .instanceMethod yX0_hardnessOf, .selects RX0 yX0_hardnessOf yX0_hardnessOf, .code yX0_hardnessOf cX0_hardnessOf 7 (some .int), .fieldLink RX0 34 "PourPlan$Curing" "points" "I", .fieldLink RX0 18 "PourPlan$Curing" "pointDegrees" "[I", .fieldLink RX0 21 "PourPlan$Curing" "pointHardness" "[I"] ++ wsX00)
def wsX0_init_r1 : List Cond := [Cond.methodLink RX0 3 objectInit, Cond.instanceMethod objectInit, Cond.code objectInit ⟨#[0xb1]⟩ 1 none, Cond.arrayClass .int, Cond.fieldLink RX0 9 "PourPlan$Curing" "warmth" "[I", Cond.fieldLink RX0 15 "PourPlan$Curing" "levels" "[I", Cond.fieldLink RX0 18 "PourPlan$Curing" "pointDegrees" "[I", Cond.fieldLink RX0 21 "PourPlan$Curing" "pointHardness" "[I", Cond.fieldLink RX0 24 "PourPlan$Curing" "degreesAhead" "[I", Cond.fieldLink RX0 27 "PourPlan$Curing" "stripDays" "[I", Cond.fieldLink RX0 30 "PourPlan$Curing" "baseWarmth" "I", Cond.fieldLink RX0 34 "PourPlan$Curing" "points" "I", Cond.methodLink RX0 37 yX0_renew, Cond.instanceMethod yX0_renew, Cond.selects RX0 yX0_renew yX0_renew, Cond.initialized RX0, Cond.code yX0_renew cX0_renew 3 none, Cond.methodLink RX0 44 Lib.Math.max.name, Cond.static Lib.Math.max.name, Cond.initialized "java/lang/Math", Cond.code Lib.Math.max.name Lib.Math.max.code 2 (some .int), Cond.methodLink RX0 50 yX0_hardnessOn, Cond.instanceMethod yX0_hardnessOn, Cond.selects RX0 yX0_hardnessOn yX0_hardnessOn]
def wsX0_init_r2 : List Cond := [Cond.code yX0_hardnessOn cX0_hardnessOn 3 (some .int), Cond.methodLink RX0 40 yX0_hardnessOf, Cond.instanceMethod yX0_hardnessOf, Cond.selects RX0 yX0_hardnessOf yX0_hardnessOf, Cond.code yX0_hardnessOf cX0_hardnessOf 7 (some .int)]
def wsX0_init : List Cond := .code yX0_init cX0_init 2 none :: ((wsX0_init_r1 ++ wsX0_init_r2) ++ wsX00)
def wsX0_goesOnWith : List Cond := .code yX0_goesOnWith cX0_goesOnWith 4 (some .boolean) :: ([.fieldLink RX0 34 "PourPlan$Curing" "points" "I", .fieldLink RX0 18 "PourPlan$Curing" "pointDegrees" "[I", .fieldLink RX0 21 "PourPlan$Curing" "pointHardness" "[I"] ++ wsX00)
def wsX0_addPoint : List Cond := .code yX0_addPoint cX0_addPoint 3 none :: ([.fieldLink RX0 34 "PourPlan$Curing" "points" "I", .fieldLink RX0 18 "PourPlan$Curing" "pointDegrees" "[I", .fieldLink RX0 21 "PourPlan$Curing" "pointHardness" "[I"] ++ wsX00)
def wsX0_stripDayFor : List Cond := .code yX0_stripDayFor cX0_stripDayFor 2 (some .int) :: ([.fieldLink RX0 27 "PourPlan$Curing" "stripDays" "[I"] ++ wsX00)
def wsX1_init : List Cond := .code yX1_init cX1_init 3 none :: ([.methodLink RX1 3 objectInit, .instanceMethod objectInit, .code objectInit ⟨#[0xb1]⟩ 1 none, .arrayClass .int, .fieldLink RX1 9 "PourPlan$Pieces" "kinds" "[I", .fieldLink RX1 15 "PourPlan$Pieces" "floors" "[I", .fieldLink RX1 18 "PourPlan$Pieces" "volumes" "[I", .fieldLink RX1 21 "PourPlan$Pieces" "sizes" "[I", .fieldLink RX1 24 "PourPlan$Pieces" "faces" "[I", .fieldLink RX1 27 "PourPlan$Pieces" "days" "[I", .classLink RX1 30 "[[I", .fieldLink RX1 32 "PourPlan$Pieces" "lead" "[[I", .fieldLink RX1 35 "PourPlan$Pieces" "ways" "[I", .fieldLink RX1 38 "PourPlan$Pieces" "number" "I"] ++ wsX10)
def wsX1_has : List Cond := .code yX1_has cX1_has 2 (some .boolean) :: ([.fieldLink RX1 38 "PourPlan$Pieces" "number" "I"] ++ wsX10)
def wsX1_add : List Cond := .code yX1_add cX1_add 7 (some .int) :: ([.fieldLink RX1 38 "PourPlan$Pieces" "number" "I", .fieldLink RX1 9 "PourPlan$Pieces" "kinds" "[I", .fieldLink RX1 15 "PourPlan$Pieces" "floors" "[I", .fieldLink RX1 18 "PourPlan$Pieces" "volumes" "[I", .fieldLink RX1 21 "PourPlan$Pieces" "sizes" "[I", .fieldLink RX1 24 "PourPlan$Pieces" "faces" "[I"] ++ wsX10)
def wsX1_standsOn : List Cond := .code yX1_standsOn cX1_standsOn 3 (some .boolean) :: ([.fieldLink RX1 27 "PourPlan$Pieces" "days" "[I"] ++ wsX10)
def wsX1_carries : List Cond := .code yX1_carries cX1_carries 3 (some .boolean) :: ([.fieldLink RX1 9 "PourPlan$Pieces" "kinds" "[I", .fieldLink RX1 15 "PourPlan$Pieces" "floors" "[I"] ++ wsX10)
def wsX1_unpourFrom : List Cond := .code yX1_unpourFrom cX1_unpourFrom 4 (some .int) :: ([.fieldLink RX1 38 "PourPlan$Pieces" "number" "I", .fieldLink RX1 27 "PourPlan$Pieces" "days" "[I"] ++ wsX10)
def wsX1_howManyPoured : List Cond := .code yX1_howManyPoured cX1_howManyPoured 3 (some .int) :: ([.fieldLink RX1 38 "PourPlan$Pieces" "number" "I", .fieldLink RX1 27 "PourPlan$Pieces" "days" "[I"] ++ wsX10)
def wsX1_lengthenWays : List Cond := .code yX1_lengthenWays cX1_lengthenWays 4 none :: ([.fieldLink RX1 38 "PourPlan$Pieces" "number" "I", .fieldLink RX1 35 "PourPlan$Pieces" "ways" "[I", .fieldLink RX1 32 "PourPlan$Pieces" "lead" "[[I", .methodLink RX1 45 Lib.Math.max.name, .static Lib.Math.max.name, .initialized "java/lang/Math", .code Lib.Math.max.name Lib.Math.max.code 2 (some .int)] ++ wsX10)
def wsX1_mustLead : List Cond := .code yX1_mustLead cX1_mustLead 4 (some .boolean) :: ([.fieldLink RX1 38 "PourPlan$Pieces" "number" "I", .fieldLink RX1 35 "PourPlan$Pieces" "ways" "[I", .methodLink RX1 42 yX1_lengthenWays, .instanceMethod yX1_lengthenWays, .selects RX1 yX1_lengthenWays yX1_lengthenWays, .initialized RX1, .code yX1_lengthenWays cX1_lengthenWays 4 none, .fieldLink RX1 32 "PourPlan$Pieces" "lead" "[[I", .methodLink RX1 45 Lib.Math.max.name, .static Lib.Math.max.name, .initialized "java/lang/Math", .code Lib.Math.max.name Lib.Math.max.code 2 (some .int)] ++ wsX10)
def wsX1_longestLead : List Cond := .code yX1_longestLead cX1_longestLead 3 (some .int) :: ([.fieldLink RX1 38 "PourPlan$Pieces" "number" "I", .fieldLink RX1 35 "PourPlan$Pieces" "ways" "[I", .methodLink RX1 45 Lib.Math.max.name, .static Lib.Math.max.name, .initialized "java/lang/Math", .code Lib.Math.max.name Lib.Math.max.code 2 (some .int), .methodLink RX1 42 yX1_lengthenWays, .instanceMethod yX1_lengthenWays, .selects RX1 yX1_lengthenWays yX1_lengthenWays, .initialized RX1, .code yX1_lengthenWays cX1_lengthenWays 4 none, .fieldLink RX1 32 "PourPlan$Pieces" "lead" "[[I"] ++ wsX10)
def wsX2_init : List Cond := .code yX2_init cX2_init 1 none :: ([.methodLink RX2 3 objectInit, .instanceMethod objectInit, .code objectInit ⟨#[0xb1]⟩ 1 none, .arrayClass .int, .fieldLink RX2 9 "PourPlan$Sequence" "row" "[I", .fieldLink RX2 15 "PourPlan$Sequence" "length" "I"] ++ wsX20)
def wsX2_append : List Cond := .code yX2_append cX2_append 2 none :: ([.fieldLink RX2 15 "PourPlan$Sequence" "length" "I", .fieldLink RX2 9 "PourPlan$Sequence" "row" "[I"] ++ wsX20)
def wsX2_placeOf : List Cond := .code yX2_placeOf cX2_placeOf 3 (some .int) :: ([.fieldLink RX2 15 "PourPlan$Sequence" "length" "I", .fieldLink RX2 9 "PourPlan$Sequence" "row" "[I"] ++ wsX20)
def wsX2_isPlace : List Cond := .code yX2_isPlace cX2_isPlace 2 (some .boolean) :: ([.fieldLink RX2 15 "PourPlan$Sequence" "length" "I"] ++ wsX20)
def wsX2_move : List Cond := .code yX2_move cX2_move 5 none :: ([.fieldLink RX2 9 "PourPlan$Sequence" "row" "[I", .methodLink RX2 19 yX2_isPlace, .instanceMethod yX2_isPlace, .selects RX2 yX2_isPlace yX2_isPlace, .initialized RX2, .code yX2_isPlace cX2_isPlace 2 (some .boolean), .fieldLink RX2 15 "PourPlan$Sequence" "length" "I"] ++ wsX20)
def wsX2_sort : List Cond := .code yX2_sort cX2_sort 2 none :: ([.fieldLink RX2 15 "PourPlan$Sequence" "length" "I", .fieldLink RX2 9 "PourPlan$Sequence" "row" "[I"] ++ wsX20)
def wsX2_swap : List Cond := .code yX2_swap cX2_swap 4 none :: ([.fieldLink RX2 9 "PourPlan$Sequence" "row" "[I"] ++ wsX20)
def wsX2_toNext : List Cond := .code yX2_toNext cX2_toNext 5 (some .boolean) :: ([.fieldLink RX2 15 "PourPlan$Sequence" "length" "I", .fieldLink RX2 9 "PourPlan$Sequence" "row" "[I", .methodLink RX2 23 yX2_swap, .instanceMethod yX2_swap, .selects RX2 yX2_swap yX2_swap, .initialized RX2, .code yX2_swap cX2_swap 4 none] ++ wsX20)
def wsX3_init_r1 : List Cond := [Cond.methodLink RX3 5 objectInit, Cond.instanceMethod objectInit, Cond.code objectInit ⟨#[0xb1]⟩ 1 none, Cond.classLink RX3 11 RX0, Cond.instantiable RX0 8, Cond.initialized RX0, Cond.fieldLink RX3 14 "PourPlan" "curing" "LPourPlan$Curing;", Cond.classLink RX3 18 RX1, Cond.instantiable RX1 9, Cond.initialized RX1, Cond.fieldLink RX3 21 "PourPlan" "pieces" "LPourPlan$Pieces;", Cond.classLink RX3 25 RX2, Cond.instantiable RX2 2, Cond.initialized RX2, Cond.fieldLink RX3 28 "PourPlan" "sequence" "LPourPlan$Sequence;", Cond.arrayClass .int, Cond.fieldLink RX3 32 "PourPlan" "forms" "[I", Cond.fieldLink RX3 36 "PourPlan" "bestOrder" "[I", Cond.fieldLink RX3 39 "PourPlan" "gangLimit" "I", Cond.fieldLink RX3 43 "PourPlan" "today" "I", Cond.fieldLink RX3 46 "PourPlan" "latestEnd" "I", Cond.instanceMethod yX0_init, Cond.code yX0_init cX0_init 2 none, Cond.methodLink RX0 3 objectInit]
def wsX3_init_r2 : List Cond := [Cond.fieldLink RX0 9 "PourPlan$Curing" "warmth" "[I", Cond.fieldLink RX0 15 "PourPlan$Curing" "levels" "[I", Cond.fieldLink RX0 18 "PourPlan$Curing" "pointDegrees" "[I", Cond.fieldLink RX0 21 "PourPlan$Curing" "pointHardness" "[I", Cond.fieldLink RX0 24 "PourPlan$Curing" "degreesAhead" "[I", Cond.fieldLink RX0 27 "PourPlan$Curing" "stripDays" "[I", Cond.fieldLink RX0 30 "PourPlan$Curing" "baseWarmth" "I", Cond.fieldLink RX0 34 "PourPlan$Curing" "points" "I", Cond.methodLink RX0 37 yX0_renew, Cond.instanceMethod yX0_renew, Cond.selects RX0 yX0_renew yX0_renew, Cond.code yX0_renew cX0_renew 3 none, Cond.methodLink RX0 44 Lib.Math.max.name, Cond.static Lib.Math.max.name, Cond.initialized "java/lang/Math", Cond.code Lib.Math.max.name Lib.Math.max.code 2 (some .int), Cond.methodLink RX0 50 yX0_hardnessOn, Cond.instanceMethod yX0_hardnessOn, Cond.selects RX0 yX0_hardnessOn yX0_hardnessOn, Cond.code yX0_hardnessOn cX0_hardnessOn 3 (some .int), Cond.methodLink RX0 40 yX0_hardnessOf, Cond.instanceMethod yX0_hardnessOf, Cond.selects RX0 yX0_hardnessOf yX0_hardnessOf, Cond.code yX0_hardnessOf cX0_hardnessOf 7 (some .int)]
def wsX3_init_r3 : List Cond := [Cond.instanceMethod yX1_init, Cond.code yX1_init cX1_init 3 none, Cond.methodLink RX1 3 objectInit, Cond.fieldLink RX1 9 "PourPlan$Pieces" "kinds" "[I", Cond.fieldLink RX1 15 "PourPlan$Pieces" "floors" "[I", Cond.fieldLink RX1 18 "PourPlan$Pieces" "volumes" "[I", Cond.fieldLink RX1 21 "PourPlan$Pieces" "sizes" "[I", Cond.fieldLink RX1 24 "PourPlan$Pieces" "faces" "[I", Cond.fieldLink RX1 27 "PourPlan$Pieces" "days" "[I", Cond.classLink RX1 30 "[[I", Cond.fieldLink RX1 32 "PourPlan$Pieces" "lead" "[[I", Cond.fieldLink RX1 35 "PourPlan$Pieces" "ways" "[I", Cond.fieldLink RX1 38 "PourPlan$Pieces" "number" "I", Cond.instanceMethod yX2_init, Cond.code yX2_init cX2_init 1 none, Cond.methodLink RX2 3 objectInit, Cond.fieldLink RX2 9 "PourPlan$Sequence" "row" "[I", Cond.fieldLink RX2 15 "PourPlan$Sequence" "length" "I"]
def wsX3_init : List Cond := .code yX3_init cX3_init 1 none :: ((wsX3_init_r1 ++ (wsX3_init_r2 ++ wsX3_init_r3)) ++ wsX00 ++ wsX30 ++ wsX10 ++ wsX20)
def wsX3_isIn : List Cond := .code yX3_isIn cX3_isIn 3 (some .boolean) :: ([])
def wsX3_piece : List Cond := .code yX3_piece cX3_piece 6 (some .int) :: ([.fieldLink RX3 21 "PourPlan" "pieces" "LPourPlan$Pieces;", .fieldLink RX3 28 "PourPlan" "sequence" "LPourPlan$Sequence;", .methodLink RX3 49 yX3_isIn, .static yX3_isIn, .initialized RX3, .code yX3_isIn cX3_isIn 3 (some .boolean), .instanceMethod yX2_append, .initialized RX2, .selects RX2 yX2_append yX2_append, .code yX2_append cX2_append 2 none, .fieldLink RX2 15 "PourPlan$Sequence" "length" "I", .fieldLink RX2 9 "PourPlan$Sequence" "row" "[I", .instanceMethod yX1_add, .initialized RX1, .selects RX1 yX1_add yX1_add, .code yX1_add cX1_add 7 (some .int), .fieldLink RX1 38 "PourPlan$Pieces" "number" "I", .fieldLink RX1 9 "PourPlan$Pieces" "kinds" "[I", .fieldLink RX1 15 "PourPlan$Pieces" "floors" "[I", .fieldLink RX1 18 "PourPlan$Pieces" "volumes" "[I", .fieldLink RX1 21 "PourPlan$Pieces" "sizes" "[I", .fieldLink RX1 24 "PourPlan$Pieces" "faces" "[I"] ++ wsX30 ++ wsX10 ++ wsX20)
def wsX3_ahead : List Cond := .code yX3_ahead cX3_ahead 5 (some .int) :: ([.fieldLink RX3 21 "PourPlan" "pieces" "LPourPlan$Pieces;", .instanceMethod yX1_has, .initialized RX1, .selects RX1 yX1_has yX1_has, .code yX1_has cX1_has 2 (some .boolean), .fieldLink RX1 38 "PourPlan$Pieces" "number" "I", .methodLink RX3 49 yX3_isIn, .static yX3_isIn, .initialized RX3, .code yX3_isIn cX3_isIn 3 (some .boolean), .instanceMethod yX1_mustLead, .selects RX1 yX1_mustLead yX1_mustLead, .code yX1_mustLead cX1_mustLead 4 (some .boolean), .fieldLink RX1 35 "PourPlan$Pieces" "ways" "[I", .methodLink RX1 42 yX1_lengthenWays, .instanceMethod yX1_lengthenWays, .selects RX1 yX1_lengthenWays yX1_lengthenWays, .code yX1_lengthenWays cX1_lengthenWays 4 none, .fieldLink RX1 32 "PourPlan$Pieces" "lead" "[[I", .methodLink RX1 45 Lib.Math.max.name, .static Lib.Math.max.name, .initialized "java/lang/Math", .code Lib.Math.max.name Lib.Math.max.code 2 (some .int)] ++ wsX30 ++ wsX10)
def wsX3_form : List Cond := .code yX3_form cX3_form 4 (some .int) :: ([.fieldLink RX3 32 "PourPlan" "forms" "[I", .methodLink RX3 49 yX3_isIn, .static yX3_isIn, .initialized RX3, .code yX3_isIn cX3_isIn 3 (some .boolean)] ++ wsX30)
def wsX3_gang : List Cond := .code yX3_gang cX3_gang 3 (some .int) :: ([.fieldLink RX3 39 "PourPlan" "gangLimit" "I", .methodLink RX3 49 yX3_isIn, .static yX3_isIn, .initialized RX3, .code yX3_isIn cX3_isIn 3 (some .boolean)] ++ wsX30)
def wsX3_level_r1 : List Cond := [Cond.fieldLink RX3 14 "PourPlan" "curing" "LPourPlan$Curing;", Cond.methodLink RX3 49 yX3_isIn, Cond.static yX3_isIn, Cond.initialized RX3, Cond.code yX3_isIn cX3_isIn 3 (some .boolean), Cond.instanceMethod yX0_renew, Cond.initialized RX0, Cond.selects RX0 yX0_renew yX0_renew, Cond.code yX0_renew cX0_renew 3 none, Cond.fieldLink RX0 24 "PourPlan$Curing" "degreesAhead" "[I", Cond.fieldLink RX0 9 "PourPlan$Curing" "warmth" "[I", Cond.fieldLink RX0 30 "PourPlan$Curing" "baseWarmth" "I", Cond.methodLink RX0 44 Lib.Math.max.name, Cond.static Lib.Math.max.name, Cond.initialized "java/lang/Math", Cond.code Lib.Math.max.name Lib.Math.max.code 2 (some .int), Cond.fieldLink RX0 15 "PourPlan$Curing" "levels" "[I", Cond.fieldLink RX0 27 "PourPlan$Curing" "stripDays" "[I", Cond.methodLink RX0 50 yX0_hardnessOn, Cond.instanceMethod yX0_hardnessOn, Cond.selects RX0 yX0_hardnessOn yX0_hardnessOn, Cond.code yX0_hardnessOn cX0_hardnessOn 3 (some .int), Cond.methodLink RX0 40 yX0_hardnessOf, Cond.instanceMethod yX0_hardnessOf]
def wsX3_level_r2 : List Cond := [Cond.selects RX0 yX0_hardnessOf yX0_hardnessOf, Cond.code yX0_hardnessOf cX0_hardnessOf 7 (some .int), Cond.fieldLink RX0 34 "PourPlan$Curing" "points" "I", Cond.fieldLink RX0 18 "PourPlan$Curing" "pointDegrees" "[I", Cond.fieldLink RX0 21 "PourPlan$Curing" "pointHardness" "[I"]
def wsX3_level : List Cond := .code yX3_level cX3_level 4 (some .int) :: ((wsX3_level_r1 ++ wsX3_level_r2) ++ wsX30 ++ wsX00)
def wsX3_isDay : List Cond := .code yX3_isDay cX3_isDay 1 (some .boolean) :: ([.methodLink RX3 49 yX3_isIn, .static yX3_isIn, .initialized RX3, .code yX3_isIn cX3_isIn 3 (some .boolean)])
def wsX3_warm_r1 : List Cond := [Cond.constant RX3 87 (-2147483648), Cond.constant RX3 88 (-2147483647), Cond.fieldLink RX3 14 "PourPlan" "curing" "LPourPlan$Curing;", Cond.methodLink RX3 82 yX3_isDay, Cond.static yX3_isDay, Cond.initialized RX3, Cond.code yX3_isDay cX3_isDay 1 (some .boolean), Cond.methodLink RX3 49 yX3_isIn, Cond.static yX3_isIn, Cond.code yX3_isIn cX3_isIn 3 (some .boolean), Cond.instanceMethod yX0_renew, Cond.initialized RX0, Cond.selects RX0 yX0_renew yX0_renew, Cond.code yX0_renew cX0_renew 3 none, Cond.fieldLink RX0 24 "PourPlan$Curing" "degreesAhead" "[I", Cond.fieldLink RX0 9 "PourPlan$Curing" "warmth" "[I", Cond.fieldLink RX0 30 "PourPlan$Curing" "baseWarmth" "I", Cond.methodLink RX0 44 Lib.Math.max.name, Cond.static Lib.Math.max.name, Cond.initialized "java/lang/Math", Cond.code Lib.Math.max.name Lib.Math.max.code 2 (some .int), Cond.fieldLink RX0 15 "PourPlan$Curing" "levels" "[I", Cond.fieldLink RX0 27 "PourPlan$Curing" "stripDays" "[I", Cond.methodLink RX0 50 yX0_hardnessOn]
def wsX3_warm_r2 : List Cond := [Cond.instanceMethod yX0_hardnessOn, Cond.selects RX0 yX0_hardnessOn yX0_hardnessOn, Cond.code yX0_hardnessOn cX0_hardnessOn 3 (some .int), Cond.methodLink RX0 40 yX0_hardnessOf, Cond.instanceMethod yX0_hardnessOf, Cond.selects RX0 yX0_hardnessOf yX0_hardnessOf, Cond.code yX0_hardnessOf cX0_hardnessOf 7 (some .int), Cond.fieldLink RX0 34 "PourPlan$Curing" "points" "I", Cond.fieldLink RX0 18 "PourPlan$Curing" "pointDegrees" "[I", Cond.fieldLink RX0 21 "PourPlan$Curing" "pointHardness" "[I"]
def wsX3_warm : List Cond := .code yX3_warm cX3_warm 4 (some .int) :: ((wsX3_warm_r1 ++ wsX3_warm_r2) ++ wsX30 ++ wsX00)
def wsX3_base_r1 : List Cond := [Cond.fieldLink RX3 14 "PourPlan" "curing" "LPourPlan$Curing;", Cond.methodLink RX3 49 yX3_isIn, Cond.static yX3_isIn, Cond.initialized RX3, Cond.code yX3_isIn cX3_isIn 3 (some .boolean), Cond.instanceMethod yX0_renew, Cond.initialized RX0, Cond.selects RX0 yX0_renew yX0_renew, Cond.code yX0_renew cX0_renew 3 none, Cond.fieldLink RX0 24 "PourPlan$Curing" "degreesAhead" "[I", Cond.fieldLink RX0 9 "PourPlan$Curing" "warmth" "[I", Cond.fieldLink RX0 30 "PourPlan$Curing" "baseWarmth" "I", Cond.methodLink RX0 44 Lib.Math.max.name, Cond.static Lib.Math.max.name, Cond.initialized "java/lang/Math", Cond.code Lib.Math.max.name Lib.Math.max.code 2 (some .int), Cond.fieldLink RX0 15 "PourPlan$Curing" "levels" "[I", Cond.fieldLink RX0 27 "PourPlan$Curing" "stripDays" "[I", Cond.methodLink RX0 50 yX0_hardnessOn, Cond.instanceMethod yX0_hardnessOn, Cond.selects RX0 yX0_hardnessOn yX0_hardnessOn, Cond.code yX0_hardnessOn cX0_hardnessOn 3 (some .int), Cond.methodLink RX0 40 yX0_hardnessOf, Cond.instanceMethod yX0_hardnessOf]
def wsX3_base_r2 : List Cond := [Cond.selects RX0 yX0_hardnessOf yX0_hardnessOf, Cond.code yX0_hardnessOf cX0_hardnessOf 7 (some .int), Cond.fieldLink RX0 34 "PourPlan$Curing" "points" "I", Cond.fieldLink RX0 18 "PourPlan$Curing" "pointDegrees" "[I", Cond.fieldLink RX0 21 "PourPlan$Curing" "pointHardness" "[I"]
def wsX3_base : List Cond := .code yX3_base cX3_base 3 (some .int) :: ((wsX3_base_r1 ++ wsX3_base_r2) ++ wsX30 ++ wsX00)
def wsX3_point_r1 : List Cond := [Cond.fieldLink RX3 14 "PourPlan" "curing" "LPourPlan$Curing;", Cond.methodLink RX3 49 yX3_isIn, Cond.static yX3_isIn, Cond.initialized RX3, Cond.code yX3_isIn cX3_isIn 3 (some .boolean), Cond.instanceMethod yX0_goesOnWith, Cond.initialized RX0, Cond.selects RX0 yX0_goesOnWith yX0_goesOnWith, Cond.code yX0_goesOnWith cX0_goesOnWith 4 (some .boolean), Cond.fieldLink RX0 34 "PourPlan$Curing" "points" "I", Cond.fieldLink RX0 18 "PourPlan$Curing" "pointDegrees" "[I", Cond.fieldLink RX0 21 "PourPlan$Curing" "pointHardness" "[I", Cond.instanceMethod yX0_addPoint, Cond.selects RX0 yX0_addPoint yX0_addPoint, Cond.code yX0_addPoint cX0_addPoint 3 none, Cond.instanceMethod yX0_renew, Cond.selects RX0 yX0_renew yX0_renew, Cond.code yX0_renew cX0_renew 3 none, Cond.fieldLink RX0 24 "PourPlan$Curing" "degreesAhead" "[I", Cond.fieldLink RX0 9 "PourPlan$Curing" "warmth" "[I", Cond.fieldLink RX0 30 "PourPlan$Curing" "baseWarmth" "I", Cond.methodLink RX0 44 Lib.Math.max.name, Cond.static Lib.Math.max.name, Cond.initialized "java/lang/Math"]
def wsX3_point_r2 : List Cond := [Cond.code Lib.Math.max.name Lib.Math.max.code 2 (some .int), Cond.fieldLink RX0 15 "PourPlan$Curing" "levels" "[I", Cond.fieldLink RX0 27 "PourPlan$Curing" "stripDays" "[I", Cond.methodLink RX0 50 yX0_hardnessOn, Cond.instanceMethod yX0_hardnessOn, Cond.selects RX0 yX0_hardnessOn yX0_hardnessOn, Cond.code yX0_hardnessOn cX0_hardnessOn 3 (some .int), Cond.methodLink RX0 40 yX0_hardnessOf, Cond.instanceMethod yX0_hardnessOf, Cond.selects RX0 yX0_hardnessOf yX0_hardnessOf, Cond.code yX0_hardnessOf cX0_hardnessOf 7 (some .int)]
def wsX3_point : List Cond := .code yX3_point cX3_point 3 (some .int) :: ((wsX3_point_r1 ++ wsX3_point_r2) ++ wsX30 ++ wsX00)
def wsX3_unpoint_r1 : List Cond := [Cond.fieldLink RX3 14 "PourPlan" "curing" "LPourPlan$Curing;", Cond.instanceMethod yX0_renew, Cond.initialized RX0, Cond.selects RX0 yX0_renew yX0_renew, Cond.code yX0_renew cX0_renew 3 none, Cond.fieldLink RX0 24 "PourPlan$Curing" "degreesAhead" "[I", Cond.fieldLink RX0 9 "PourPlan$Curing" "warmth" "[I", Cond.fieldLink RX0 30 "PourPlan$Curing" "baseWarmth" "I", Cond.methodLink RX0 44 Lib.Math.max.name, Cond.static Lib.Math.max.name, Cond.initialized "java/lang/Math", Cond.code Lib.Math.max.name Lib.Math.max.code 2 (some .int), Cond.fieldLink RX0 15 "PourPlan$Curing" "levels" "[I", Cond.fieldLink RX0 27 "PourPlan$Curing" "stripDays" "[I", Cond.methodLink RX0 50 yX0_hardnessOn, Cond.instanceMethod yX0_hardnessOn, Cond.selects RX0 yX0_hardnessOn yX0_hardnessOn, Cond.code yX0_hardnessOn cX0_hardnessOn 3 (some .int), Cond.methodLink RX0 40 yX0_hardnessOf, Cond.instanceMethod yX0_hardnessOf, Cond.selects RX0 yX0_hardnessOf yX0_hardnessOf, Cond.code yX0_hardnessOf cX0_hardnessOf 7 (some .int), Cond.fieldLink RX0 34 "PourPlan$Curing" "points" "I", Cond.fieldLink RX0 18 "PourPlan$Curing" "pointDegrees" "[I"]
def wsX3_unpoint_r2 : List Cond := [Cond.fieldLink RX0 21 "PourPlan$Curing" "pointHardness" "[I"]
def wsX3_unpoint : List Cond := .code yX3_unpoint cX3_unpoint 2 (some .int) :: ((wsX3_unpoint_r1 ++ wsX3_unpoint_r2) ++ wsX30 ++ wsX00)
def wsX3_table : List Cond := .code yX3_table cX3_table 2 (some .int) :: ([.fieldLink RX3 14 "PourPlan" "curing" "LPourPlan$Curing;", .instanceMethod yX0_hardnessOf, .initialized RX0, .selects RX0 yX0_hardnessOf yX0_hardnessOf, .code yX0_hardnessOf cX0_hardnessOf 7 (some .int), .fieldLink RX0 34 "PourPlan$Curing" "points" "I", .fieldLink RX0 18 "PourPlan$Curing" "pointDegrees" "[I", .fieldLink RX0 21 "PourPlan$Curing" "pointHardness" "[I"] ++ wsX30 ++ wsX00)
def wsX3_leadsBy : List Cond := .code yX3_leadsBy cX3_leadsBy 5 (some .boolean) :: ([.fieldLink RX3 21 "PourPlan" "pieces" "LPourPlan$Pieces;", .fieldLink RX3 28 "PourPlan" "sequence" "LPourPlan$Sequence;", .instanceMethod yX1_standsOn, .initialized RX1, .selects RX1 yX1_standsOn yX1_standsOn, .code yX1_standsOn cX1_standsOn 3 (some .boolean), .fieldLink RX1 27 "PourPlan$Pieces" "days" "[I", .instanceMethod yX2_placeOf, .initialized RX2, .selects RX2 yX2_placeOf yX2_placeOf, .code yX2_placeOf cX2_placeOf 3 (some .int), .fieldLink RX2 15 "PourPlan$Sequence" "length" "I", .fieldLink RX2 9 "PourPlan$Sequence" "row" "[I"] ++ wsX30 ++ wsX10 ++ wsX20)
def wsX3_waitsForAhead : List Cond := .code yX3_waitsForAhead cX3_waitsForAhead 4 (some .boolean) :: ([.fieldLink RX3 21 "PourPlan" "pieces" "LPourPlan$Pieces;", .methodLink RX3 215 yX3_leadsBy, .instanceMethod yX3_leadsBy, .selects RX3 yX3_leadsBy yX3_leadsBy, .initialized RX3, .code yX3_leadsBy cX3_leadsBy 5 (some .boolean), .fieldLink RX3 28 "PourPlan" "sequence" "LPourPlan$Sequence;", .instanceMethod yX1_standsOn, .initialized RX1, .selects RX1 yX1_standsOn yX1_standsOn, .code yX1_standsOn cX1_standsOn 3 (some .boolean), .fieldLink RX1 27 "PourPlan$Pieces" "days" "[I", .instanceMethod yX2_placeOf, .initialized RX2, .selects RX2 yX2_placeOf yX2_placeOf, .code yX2_placeOf cX2_placeOf 3 (some .int), .fieldLink RX2 15 "PourPlan$Sequence" "length" "I", .fieldLink RX2 9 "PourPlan$Sequence" "row" "[I"] ++ wsX30 ++ wsX10 ++ wsX20)
def wsX3_waitsToStand : List Cond := .code yX3_waitsToStand cX3_waitsToStand 4 (some .boolean) :: ([.fieldLink RX3 21 "PourPlan" "pieces" "LPourPlan$Pieces;", .fieldLink RX3 14 "PourPlan" "curing" "LPourPlan$Curing;", .instanceMethod yX1_carries, .initialized RX1, .selects RX1 yX1_carries yX1_carries, .code yX1_carries cX1_carries 3 (some .boolean), .fieldLink RX1 9 "PourPlan$Pieces" "kinds" "[I", .fieldLink RX1 15 "PourPlan$Pieces" "floors" "[I", .instanceMethod yX0_hardnessOn, .initialized RX0, .selects RX0 yX0_hardnessOn yX0_hardnessOn, .code yX0_hardnessOn cX0_hardnessOn 3 (some .int), .fieldLink RX0 24 "PourPlan$Curing" "degreesAhead" "[I", .methodLink RX0 40 yX0_hardnessOf, .instanceMethod yX0_hardnessOf, .selects RX0 yX0_hardnessOf yX0_hardnessOf, .code yX0_hardnessOf cX0_hardnessOf 7 (some .int), .fieldLink RX0 34 "PourPlan$Curing" "points" "I", .fieldLink RX0 18 "PourPlan$Curing" "pointDegrees" "[I", .fieldLink RX0 21 "PourPlan$Curing" "pointHardness" "[I"] ++ wsX30 ++ wsX10 ++ wsX00)
def wsX3_isHeldOn : List Cond := .code yX3_isHeldOn cX3_isHeldOn 3 (some .boolean) :: ([.fieldLink RX3 21 "PourPlan" "pieces" "LPourPlan$Pieces;", .fieldLink RX3 14 "PourPlan" "curing" "LPourPlan$Curing;", .instanceMethod yX1_standsOn, .initialized RX1, .selects RX1 yX1_standsOn yX1_standsOn, .code yX1_standsOn cX1_standsOn 3 (some .boolean), .fieldLink RX1 27 "PourPlan$Pieces" "days" "[I", .instanceMethod yX0_stripDayFor, .initialized RX0, .selects RX0 yX0_stripDayFor yX0_stripDayFor, .code yX0_stripDayFor cX0_stripDayFor 2 (some .int), .fieldLink RX0 27 "PourPlan$Curing" "stripDays" "[I"] ++ wsX30 ++ wsX10 ++ wsX00)
def wsX3_formsLeft : List Cond := .code yX3_formsLeft cX3_formsLeft 6 (some .int) :: ([.fieldLink RX3 32 "PourPlan" "forms" "[I", .fieldLink RX3 21 "PourPlan" "pieces" "LPourPlan$Pieces;", .methodLink RX3 221 yX3_isHeldOn, .instanceMethod yX3_isHeldOn, .selects RX3 yX3_isHeldOn yX3_isHeldOn, .initialized RX3, .code yX3_isHeldOn cX3_isHeldOn 3 (some .boolean), .fieldLink RX3 14 "PourPlan" "curing" "LPourPlan$Curing;", .instanceMethod yX1_standsOn, .initialized RX1, .selects RX1 yX1_standsOn yX1_standsOn, .code yX1_standsOn cX1_standsOn 3 (some .boolean), .fieldLink RX1 27 "PourPlan$Pieces" "days" "[I", .instanceMethod yX0_stripDayFor, .initialized RX0, .selects RX0 yX0_stripDayFor yX0_stripDayFor, .code yX0_stripDayFor cX0_stripDayFor 2 (some .int), .fieldLink RX0 27 "PourPlan$Curing" "stripDays" "[I"] ++ wsX30 ++ wsX10 ++ wsX00)
def wsX3_volumeOn : List Cond := .code yX3_volumeOn cX3_volumeOn 5 (some .int) :: ([.fieldLink RX3 21 "PourPlan" "pieces" "LPourPlan$Pieces;"] ++ wsX30 ++ wsX10)
def wsX3_hindrance_r1 : List Cond := [Cond.fieldLink RX3 21 "PourPlan" "pieces" "LPourPlan$Pieces;", Cond.fieldLink RX3 39 "PourPlan" "gangLimit" "I", Cond.methodLink RX3 209 yX3_waitsForAhead, Cond.instanceMethod yX3_waitsForAhead, Cond.selects RX3 yX3_waitsForAhead yX3_waitsForAhead, Cond.initialized RX3, Cond.code yX3_waitsForAhead cX3_waitsForAhead 4 (some .boolean), Cond.methodLink RX3 215 yX3_leadsBy, Cond.instanceMethod yX3_leadsBy, Cond.selects RX3 yX3_leadsBy yX3_leadsBy, Cond.code yX3_leadsBy cX3_leadsBy 5 (some .boolean), Cond.fieldLink RX3 28 "PourPlan" "sequence" "LPourPlan$Sequence;", Cond.instanceMethod yX1_standsOn, Cond.initialized RX1, Cond.selects RX1 yX1_standsOn yX1_standsOn, Cond.code yX1_standsOn cX1_standsOn 3 (some .boolean), Cond.fieldLink RX1 27 "PourPlan$Pieces" "days" "[I", Cond.instanceMethod yX2_placeOf, Cond.initialized RX2, Cond.selects RX2 yX2_placeOf yX2_placeOf, Cond.code yX2_placeOf cX2_placeOf 3 (some .int), Cond.fieldLink RX2 15 "PourPlan$Sequence" "length" "I", Cond.fieldLink RX2 9 "PourPlan$Sequence" "row" "[I", Cond.methodLink RX3 212 yX3_waitsToStand]
def wsX3_hindrance_r2 : List Cond := [Cond.instanceMethod yX3_waitsToStand, Cond.selects RX3 yX3_waitsToStand yX3_waitsToStand, Cond.code yX3_waitsToStand cX3_waitsToStand 4 (some .boolean), Cond.fieldLink RX3 14 "PourPlan" "curing" "LPourPlan$Curing;", Cond.instanceMethod yX1_carries, Cond.selects RX1 yX1_carries yX1_carries, Cond.code yX1_carries cX1_carries 3 (some .boolean), Cond.fieldLink RX1 9 "PourPlan$Pieces" "kinds" "[I", Cond.fieldLink RX1 15 "PourPlan$Pieces" "floors" "[I", Cond.instanceMethod yX0_hardnessOn, Cond.initialized RX0, Cond.selects RX0 yX0_hardnessOn yX0_hardnessOn, Cond.code yX0_hardnessOn cX0_hardnessOn 3 (some .int), Cond.fieldLink RX0 24 "PourPlan$Curing" "degreesAhead" "[I", Cond.methodLink RX0 40 yX0_hardnessOf, Cond.instanceMethod yX0_hardnessOf, Cond.selects RX0 yX0_hardnessOf yX0_hardnessOf, Cond.code yX0_hardnessOf cX0_hardnessOf 7 (some .int), Cond.fieldLink RX0 34 "PourPlan$Curing" "points" "I", Cond.fieldLink RX0 18 "PourPlan$Curing" "pointDegrees" "[I", Cond.fieldLink RX0 21 "PourPlan$Curing" "pointHardness" "[I", Cond.methodLink RX3 175 yX3_formsLeft, Cond.instanceMethod yX3_formsLeft, Cond.selects RX3 yX3_formsLeft yX3_formsLeft]
def wsX3_hindrance_r3 : List Cond := [Cond.code yX3_formsLeft cX3_formsLeft 6 (some .int), Cond.fieldLink RX3 32 "PourPlan" "forms" "[I", Cond.methodLink RX3 221 yX3_isHeldOn, Cond.instanceMethod yX3_isHeldOn, Cond.selects RX3 yX3_isHeldOn yX3_isHeldOn, Cond.code yX3_isHeldOn cX3_isHeldOn 3 (some .boolean), Cond.instanceMethod yX0_stripDayFor, Cond.selects RX0 yX0_stripDayFor yX0_stripDayFor, Cond.code yX0_stripDayFor cX0_stripDayFor 2 (some .int), Cond.fieldLink RX0 27 "PourPlan$Curing" "stripDays" "[I", Cond.methodLink RX3 179 yX3_volumeOn, Cond.instanceMethod yX3_volumeOn, Cond.selects RX3 yX3_volumeOn yX3_volumeOn, Cond.code yX3_volumeOn cX3_volumeOn 5 (some .int)]
def wsX3_hindrance : List Cond := .code yX3_hindrance cX3_hindrance 3 (some .int) :: ((wsX3_hindrance_r1 ++ (wsX3_hindrance_r2 ++ wsX3_hindrance_r3)) ++ wsX30 ++ wsX10 ++ wsX20 ++ wsX00)
def wsX3_endOfAll : List Cond := .code yX3_endOfAll cX3_endOfAll 3 (some .int) :: ([.fieldLink RX3 21 "PourPlan" "pieces" "LPourPlan$Pieces;", .fieldLink RX3 14 "PourPlan" "curing" "LPourPlan$Curing;", .methodLink RX3 204 Lib.Math.max.name, .static Lib.Math.max.name, .initialized "java/lang/Math", .code Lib.Math.max.name Lib.Math.max.code 2 (some .int), .instanceMethod yX0_stripDayFor, .initialized RX0, .selects RX0 yX0_stripDayFor yX0_stripDayFor, .code yX0_stripDayFor cX0_stripDayFor 2 (some .int), .fieldLink RX0 27 "PourPlan$Curing" "stripDays" "[I"] ++ wsX30 ++ wsX10 ++ wsX00)
def wsX3_pourAnew_r1 : List Cond := [Cond.fieldLink RX3 21 "PourPlan" "pieces" "LPourPlan$Pieces;", Cond.fieldLink RX3 43 "PourPlan" "today" "I", Cond.fieldLink RX3 28 "PourPlan" "sequence" "LPourPlan$Sequence;", Cond.instanceMethod yX1_unpourFrom, Cond.initialized RX1, Cond.selects RX1 yX1_unpourFrom yX1_unpourFrom, Cond.code yX1_unpourFrom cX1_unpourFrom 4 (some .int), Cond.fieldLink RX1 38 "PourPlan$Pieces" "number" "I", Cond.fieldLink RX1 27 "PourPlan$Pieces" "days" "[I", Cond.instanceMethod yX1_howManyPoured, Cond.selects RX1 yX1_howManyPoured yX1_howManyPoured, Cond.code yX1_howManyPoured cX1_howManyPoured 3 (some .int), Cond.methodLink RX3 172 yX3_hindrance, Cond.instanceMethod yX3_hindrance, Cond.selects RX3 yX3_hindrance yX3_hindrance, Cond.initialized RX3, Cond.code yX3_hindrance cX3_hindrance 3 (some .int), Cond.fieldLink RX3 39 "PourPlan" "gangLimit" "I", Cond.methodLink RX3 209 yX3_waitsForAhead, Cond.instanceMethod yX3_waitsForAhead, Cond.selects RX3 yX3_waitsForAhead yX3_waitsForAhead, Cond.code yX3_waitsForAhead cX3_waitsForAhead 4 (some .boolean), Cond.methodLink RX3 215 yX3_leadsBy, Cond.instanceMethod yX3_leadsBy]
def wsX3_pourAnew_r2 : List Cond := [Cond.selects RX3 yX3_leadsBy yX3_leadsBy, Cond.code yX3_leadsBy cX3_leadsBy 5 (some .boolean), Cond.instanceMethod yX1_standsOn, Cond.selects RX1 yX1_standsOn yX1_standsOn, Cond.code yX1_standsOn cX1_standsOn 3 (some .boolean), Cond.instanceMethod yX2_placeOf, Cond.initialized RX2, Cond.selects RX2 yX2_placeOf yX2_placeOf, Cond.code yX2_placeOf cX2_placeOf 3 (some .int), Cond.fieldLink RX2 15 "PourPlan$Sequence" "length" "I", Cond.fieldLink RX2 9 "PourPlan$Sequence" "row" "[I", Cond.methodLink RX3 212 yX3_waitsToStand, Cond.instanceMethod yX3_waitsToStand, Cond.selects RX3 yX3_waitsToStand yX3_waitsToStand, Cond.code yX3_waitsToStand cX3_waitsToStand 4 (some .boolean), Cond.fieldLink RX3 14 "PourPlan" "curing" "LPourPlan$Curing;", Cond.instanceMethod yX1_carries, Cond.selects RX1 yX1_carries yX1_carries, Cond.code yX1_carries cX1_carries 3 (some .boolean), Cond.fieldLink RX1 9 "PourPlan$Pieces" "kinds" "[I", Cond.fieldLink RX1 15 "PourPlan$Pieces" "floors" "[I", Cond.instanceMethod yX0_hardnessOn, Cond.initialized RX0, Cond.selects RX0 yX0_hardnessOn yX0_hardnessOn]
def wsX3_pourAnew_r3 : List Cond := [Cond.code yX0_hardnessOn cX0_hardnessOn 3 (some .int), Cond.fieldLink RX0 24 "PourPlan$Curing" "degreesAhead" "[I", Cond.methodLink RX0 40 yX0_hardnessOf, Cond.instanceMethod yX0_hardnessOf, Cond.selects RX0 yX0_hardnessOf yX0_hardnessOf, Cond.code yX0_hardnessOf cX0_hardnessOf 7 (some .int), Cond.fieldLink RX0 34 "PourPlan$Curing" "points" "I", Cond.fieldLink RX0 18 "PourPlan$Curing" "pointDegrees" "[I", Cond.fieldLink RX0 21 "PourPlan$Curing" "pointHardness" "[I", Cond.methodLink RX3 175 yX3_formsLeft, Cond.instanceMethod yX3_formsLeft, Cond.selects RX3 yX3_formsLeft yX3_formsLeft, Cond.code yX3_formsLeft cX3_formsLeft 6 (some .int), Cond.fieldLink RX3 32 "PourPlan" "forms" "[I", Cond.methodLink RX3 221 yX3_isHeldOn, Cond.instanceMethod yX3_isHeldOn, Cond.selects RX3 yX3_isHeldOn yX3_isHeldOn, Cond.code yX3_isHeldOn cX3_isHeldOn 3 (some .boolean), Cond.instanceMethod yX0_stripDayFor, Cond.selects RX0 yX0_stripDayFor yX0_stripDayFor, Cond.code yX0_stripDayFor cX0_stripDayFor 2 (some .int), Cond.fieldLink RX0 27 "PourPlan$Curing" "stripDays" "[I", Cond.methodLink RX3 179 yX3_volumeOn, Cond.instanceMethod yX3_volumeOn]
def wsX3_pourAnew_r4 : List Cond := [Cond.selects RX3 yX3_volumeOn yX3_volumeOn, Cond.code yX3_volumeOn cX3_volumeOn 5 (some .int), Cond.methodLink RX3 201 yX3_endOfAll, Cond.instanceMethod yX3_endOfAll, Cond.selects RX3 yX3_endOfAll yX3_endOfAll, Cond.code yX3_endOfAll cX3_endOfAll 3 (some .int), Cond.methodLink RX3 204 Lib.Math.max.name, Cond.static Lib.Math.max.name, Cond.initialized "java/lang/Math", Cond.code Lib.Math.max.name Lib.Math.max.code 2 (some .int)]
def wsX3_pourAnew : List Cond := .code yX3_pourAnew cX3_pourAnew 5 (some .int) :: ((wsX3_pourAnew_r1 ++ (wsX3_pourAnew_r2 ++ (wsX3_pourAnew_r3 ++ wsX3_pourAnew_r4))) ++ wsX30 ++ wsX10 ++ wsX20 ++ wsX00)
def wsX3_plan_r1 : List Cond := [Cond.fieldLink RX3 46 "PourPlan" "latestEnd" "I", Cond.methodLink RX3 109 yX3_pourAnew, Cond.instanceMethod yX3_pourAnew, Cond.selects RX3 yX3_pourAnew yX3_pourAnew, Cond.initialized RX3, Cond.code yX3_pourAnew cX3_pourAnew 5 (some .int), Cond.fieldLink RX3 21 "PourPlan" "pieces" "LPourPlan$Pieces;", Cond.fieldLink RX3 43 "PourPlan" "today" "I", Cond.fieldLink RX3 28 "PourPlan" "sequence" "LPourPlan$Sequence;", Cond.instanceMethod yX1_unpourFrom, Cond.initialized RX1, Cond.selects RX1 yX1_unpourFrom yX1_unpourFrom, Cond.code yX1_unpourFrom cX1_unpourFrom 4 (some .int), Cond.fieldLink RX1 38 "PourPlan$Pieces" "number" "I", Cond.fieldLink RX1 27 "PourPlan$Pieces" "days" "[I", Cond.instanceMethod yX1_howManyPoured, Cond.selects RX1 yX1_howManyPoured yX1_howManyPoured, Cond.code yX1_howManyPoured cX1_howManyPoured 3 (some .int), Cond.methodLink RX3 172 yX3_hindrance, Cond.instanceMethod yX3_hindrance, Cond.selects RX3 yX3_hindrance yX3_hindrance, Cond.code yX3_hindrance cX3_hindrance 3 (some .int), Cond.fieldLink RX3 39 "PourPlan" "gangLimit" "I", Cond.methodLink RX3 209 yX3_waitsForAhead]
def wsX3_plan_r2 : List Cond := [Cond.instanceMethod yX3_waitsForAhead, Cond.selects RX3 yX3_waitsForAhead yX3_waitsForAhead, Cond.code yX3_waitsForAhead cX3_waitsForAhead 4 (some .boolean), Cond.methodLink RX3 215 yX3_leadsBy, Cond.instanceMethod yX3_leadsBy, Cond.selects RX3 yX3_leadsBy yX3_leadsBy, Cond.code yX3_leadsBy cX3_leadsBy 5 (some .boolean), Cond.instanceMethod yX1_standsOn, Cond.selects RX1 yX1_standsOn yX1_standsOn, Cond.code yX1_standsOn cX1_standsOn 3 (some .boolean), Cond.instanceMethod yX2_placeOf, Cond.initialized RX2, Cond.selects RX2 yX2_placeOf yX2_placeOf, Cond.code yX2_placeOf cX2_placeOf 3 (some .int), Cond.fieldLink RX2 15 "PourPlan$Sequence" "length" "I", Cond.fieldLink RX2 9 "PourPlan$Sequence" "row" "[I", Cond.methodLink RX3 212 yX3_waitsToStand, Cond.instanceMethod yX3_waitsToStand, Cond.selects RX3 yX3_waitsToStand yX3_waitsToStand, Cond.code yX3_waitsToStand cX3_waitsToStand 4 (some .boolean), Cond.fieldLink RX3 14 "PourPlan" "curing" "LPourPlan$Curing;", Cond.instanceMethod yX1_carries, Cond.selects RX1 yX1_carries yX1_carries, Cond.code yX1_carries cX1_carries 3 (some .boolean)]
def wsX3_plan_r3 : List Cond := [Cond.fieldLink RX1 9 "PourPlan$Pieces" "kinds" "[I", Cond.fieldLink RX1 15 "PourPlan$Pieces" "floors" "[I", Cond.instanceMethod yX0_hardnessOn, Cond.initialized RX0, Cond.selects RX0 yX0_hardnessOn yX0_hardnessOn, Cond.code yX0_hardnessOn cX0_hardnessOn 3 (some .int), Cond.fieldLink RX0 24 "PourPlan$Curing" "degreesAhead" "[I", Cond.methodLink RX0 40 yX0_hardnessOf, Cond.instanceMethod yX0_hardnessOf, Cond.selects RX0 yX0_hardnessOf yX0_hardnessOf, Cond.code yX0_hardnessOf cX0_hardnessOf 7 (some .int), Cond.fieldLink RX0 34 "PourPlan$Curing" "points" "I", Cond.fieldLink RX0 18 "PourPlan$Curing" "pointDegrees" "[I", Cond.fieldLink RX0 21 "PourPlan$Curing" "pointHardness" "[I", Cond.methodLink RX3 175 yX3_formsLeft, Cond.instanceMethod yX3_formsLeft, Cond.selects RX3 yX3_formsLeft yX3_formsLeft, Cond.code yX3_formsLeft cX3_formsLeft 6 (some .int), Cond.fieldLink RX3 32 "PourPlan" "forms" "[I", Cond.methodLink RX3 221 yX3_isHeldOn, Cond.instanceMethod yX3_isHeldOn, Cond.selects RX3 yX3_isHeldOn yX3_isHeldOn, Cond.code yX3_isHeldOn cX3_isHeldOn 3 (some .boolean), Cond.instanceMethod yX0_stripDayFor]
def wsX3_plan_r4 : List Cond := [Cond.selects RX0 yX0_stripDayFor yX0_stripDayFor, Cond.code yX0_stripDayFor cX0_stripDayFor 2 (some .int), Cond.fieldLink RX0 27 "PourPlan$Curing" "stripDays" "[I", Cond.methodLink RX3 179 yX3_volumeOn, Cond.instanceMethod yX3_volumeOn, Cond.selects RX3 yX3_volumeOn yX3_volumeOn, Cond.code yX3_volumeOn cX3_volumeOn 5 (some .int), Cond.methodLink RX3 201 yX3_endOfAll, Cond.instanceMethod yX3_endOfAll, Cond.selects RX3 yX3_endOfAll yX3_endOfAll, Cond.code yX3_endOfAll cX3_endOfAll 3 (some .int), Cond.methodLink RX3 204 Lib.Math.max.name, Cond.static Lib.Math.max.name, Cond.initialized "java/lang/Math", Cond.code Lib.Math.max.name Lib.Math.max.code 2 (some .int)]
def wsX3_plan : List Cond := .code yX3_plan cX3_plan 1 (some .int) :: ((wsX3_plan_r1 ++ (wsX3_plan_r2 ++ (wsX3_plan_r3 ++ wsX3_plan_r4))) ++ wsX30 ++ wsX10 ++ wsX20 ++ wsX00)
def wsX3_order : List Cond := .code yX3_order cX3_order 4 (some .int) :: ([.fieldLink RX3 21 "PourPlan" "pieces" "LPourPlan$Pieces;", .fieldLink RX3 28 "PourPlan" "sequence" "LPourPlan$Sequence;", .instanceMethod yX1_has, .initialized RX1, .selects RX1 yX1_has yX1_has, .code yX1_has cX1_has 2 (some .boolean), .fieldLink RX1 38 "PourPlan$Pieces" "number" "I", .instanceMethod yX2_placeOf, .initialized RX2, .selects RX2 yX2_placeOf yX2_placeOf, .code yX2_placeOf cX2_placeOf 3 (some .int), .fieldLink RX2 15 "PourPlan$Sequence" "length" "I", .fieldLink RX2 9 "PourPlan$Sequence" "row" "[I", .instanceMethod yX2_move, .selects RX2 yX2_move yX2_move, .code yX2_move cX2_move 5 none, .methodLink RX2 19 yX2_isPlace, .instanceMethod yX2_isPlace, .selects RX2 yX2_isPlace yX2_isPlace, .code yX2_isPlace cX2_isPlace 2 (some .boolean)] ++ wsX30 ++ wsX10 ++ wsX20)
def wsX3_best_r1 : List Cond := [Cond.fieldLink RX3 21 "PourPlan" "pieces" "LPourPlan$Pieces;", Cond.fieldLink RX3 28 "PourPlan" "sequence" "LPourPlan$Sequence;", Cond.fieldLink RX3 36 "PourPlan" "bestOrder" "[I", Cond.methodLink RX3 125 arraycopyName, Cond.native arraycopyName, Cond.static arraycopyName, Cond.initialized "java/lang/System", Cond.instanceMethod yX2_sort, Cond.initialized RX2, Cond.selects RX2 yX2_sort yX2_sort, Cond.code yX2_sort cX2_sort 2 none, Cond.fieldLink RX2 15 "PourPlan$Sequence" "length" "I", Cond.fieldLink RX2 9 "PourPlan$Sequence" "row" "[I", Cond.methodLink RX3 109 yX3_pourAnew, Cond.instanceMethod yX3_pourAnew, Cond.selects RX3 yX3_pourAnew yX3_pourAnew, Cond.initialized RX3, Cond.code yX3_pourAnew cX3_pourAnew 5 (some .int), Cond.fieldLink RX3 43 "PourPlan" "today" "I", Cond.instanceMethod yX1_unpourFrom, Cond.initialized RX1, Cond.selects RX1 yX1_unpourFrom yX1_unpourFrom, Cond.code yX1_unpourFrom cX1_unpourFrom 4 (some .int), Cond.fieldLink RX1 38 "PourPlan$Pieces" "number" "I"]
def wsX3_best_r2 : List Cond := [Cond.fieldLink RX1 27 "PourPlan$Pieces" "days" "[I", Cond.instanceMethod yX1_howManyPoured, Cond.selects RX1 yX1_howManyPoured yX1_howManyPoured, Cond.code yX1_howManyPoured cX1_howManyPoured 3 (some .int), Cond.methodLink RX3 172 yX3_hindrance, Cond.instanceMethod yX3_hindrance, Cond.selects RX3 yX3_hindrance yX3_hindrance, Cond.code yX3_hindrance cX3_hindrance 3 (some .int), Cond.fieldLink RX3 39 "PourPlan" "gangLimit" "I", Cond.methodLink RX3 209 yX3_waitsForAhead, Cond.instanceMethod yX3_waitsForAhead, Cond.selects RX3 yX3_waitsForAhead yX3_waitsForAhead, Cond.code yX3_waitsForAhead cX3_waitsForAhead 4 (some .boolean), Cond.methodLink RX3 215 yX3_leadsBy, Cond.instanceMethod yX3_leadsBy, Cond.selects RX3 yX3_leadsBy yX3_leadsBy, Cond.code yX3_leadsBy cX3_leadsBy 5 (some .boolean), Cond.instanceMethod yX1_standsOn, Cond.selects RX1 yX1_standsOn yX1_standsOn, Cond.code yX1_standsOn cX1_standsOn 3 (some .boolean), Cond.instanceMethod yX2_placeOf, Cond.selects RX2 yX2_placeOf yX2_placeOf, Cond.code yX2_placeOf cX2_placeOf 3 (some .int), Cond.methodLink RX3 212 yX3_waitsToStand]
def wsX3_best_r3 : List Cond := [Cond.instanceMethod yX3_waitsToStand, Cond.selects RX3 yX3_waitsToStand yX3_waitsToStand, Cond.code yX3_waitsToStand cX3_waitsToStand 4 (some .boolean), Cond.fieldLink RX3 14 "PourPlan" "curing" "LPourPlan$Curing;", Cond.instanceMethod yX1_carries, Cond.selects RX1 yX1_carries yX1_carries, Cond.code yX1_carries cX1_carries 3 (some .boolean), Cond.fieldLink RX1 9 "PourPlan$Pieces" "kinds" "[I", Cond.fieldLink RX1 15 "PourPlan$Pieces" "floors" "[I", Cond.instanceMethod yX0_hardnessOn, Cond.initialized RX0, Cond.selects RX0 yX0_hardnessOn yX0_hardnessOn, Cond.code yX0_hardnessOn cX0_hardnessOn 3 (some .int), Cond.fieldLink RX0 24 "PourPlan$Curing" "degreesAhead" "[I", Cond.methodLink RX0 40 yX0_hardnessOf, Cond.instanceMethod yX0_hardnessOf, Cond.selects RX0 yX0_hardnessOf yX0_hardnessOf, Cond.code yX0_hardnessOf cX0_hardnessOf 7 (some .int), Cond.fieldLink RX0 34 "PourPlan$Curing" "points" "I", Cond.fieldLink RX0 18 "PourPlan$Curing" "pointDegrees" "[I", Cond.fieldLink RX0 21 "PourPlan$Curing" "pointHardness" "[I", Cond.methodLink RX3 175 yX3_formsLeft, Cond.instanceMethod yX3_formsLeft, Cond.selects RX3 yX3_formsLeft yX3_formsLeft]
def wsX3_best_r4 : List Cond := [Cond.code yX3_formsLeft cX3_formsLeft 6 (some .int), Cond.fieldLink RX3 32 "PourPlan" "forms" "[I", Cond.methodLink RX3 221 yX3_isHeldOn, Cond.instanceMethod yX3_isHeldOn, Cond.selects RX3 yX3_isHeldOn yX3_isHeldOn, Cond.code yX3_isHeldOn cX3_isHeldOn 3 (some .boolean), Cond.instanceMethod yX0_stripDayFor, Cond.selects RX0 yX0_stripDayFor yX0_stripDayFor, Cond.code yX0_stripDayFor cX0_stripDayFor 2 (some .int), Cond.fieldLink RX0 27 "PourPlan$Curing" "stripDays" "[I", Cond.methodLink RX3 179 yX3_volumeOn, Cond.instanceMethod yX3_volumeOn, Cond.selects RX3 yX3_volumeOn yX3_volumeOn, Cond.code yX3_volumeOn cX3_volumeOn 5 (some .int), Cond.methodLink RX3 201 yX3_endOfAll, Cond.instanceMethod yX3_endOfAll, Cond.selects RX3 yX3_endOfAll yX3_endOfAll, Cond.code yX3_endOfAll cX3_endOfAll 3 (some .int), Cond.methodLink RX3 204 Lib.Math.max.name, Cond.static Lib.Math.max.name, Cond.initialized "java/lang/Math", Cond.code Lib.Math.max.name Lib.Math.max.code 2 (some .int), Cond.instanceMethod yX2_toNext, Cond.selects RX2 yX2_toNext yX2_toNext]
def wsX3_best_r5 : List Cond := [Cond.code yX2_toNext cX2_toNext 5 (some .boolean), Cond.methodLink RX2 23 yX2_swap, Cond.instanceMethod yX2_swap, Cond.selects RX2 yX2_swap yX2_swap, Cond.code yX2_swap cX2_swap 4 none, Cond.methodLink RX3 135 yX3_plan, Cond.instanceMethod yX3_plan, Cond.selects RX3 yX3_plan yX3_plan, Cond.code yX3_plan cX3_plan 1 (some .int), Cond.fieldLink RX3 46 "PourPlan" "latestEnd" "I"]
def wsX3_best : List Cond := .code yX3_best cX3_best 5 (some .int) :: ((wsX3_best_r1 ++ (wsX3_best_r2 ++ (wsX3_best_r3 ++ (wsX3_best_r4 ++ wsX3_best_r5)))) ++ wsX30 ++ wsX10 ++ wsX20 ++ wsX00)
def wsX3_endOfFirstGoodChange_r1 : List Cond := [Cond.fieldLink RX3 21 "PourPlan" "pieces" "LPourPlan$Pieces;", Cond.fieldLink RX3 28 "PourPlan" "sequence" "LPourPlan$Sequence;", Cond.instanceMethod yX2_move, Cond.initialized RX2, Cond.selects RX2 yX2_move yX2_move, Cond.code yX2_move cX2_move 5 none, Cond.fieldLink RX2 9 "PourPlan$Sequence" "row" "[I", Cond.methodLink RX2 19 yX2_isPlace, Cond.instanceMethod yX2_isPlace, Cond.selects RX2 yX2_isPlace yX2_isPlace, Cond.code yX2_isPlace cX2_isPlace 2 (some .boolean), Cond.fieldLink RX2 15 "PourPlan$Sequence" "length" "I", Cond.methodLink RX3 109 yX3_pourAnew, Cond.instanceMethod yX3_pourAnew, Cond.selects RX3 yX3_pourAnew yX3_pourAnew, Cond.initialized RX3, Cond.code yX3_pourAnew cX3_pourAnew 5 (some .int), Cond.fieldLink RX3 43 "PourPlan" "today" "I", Cond.instanceMethod yX1_unpourFrom, Cond.initialized RX1, Cond.selects RX1 yX1_unpourFrom yX1_unpourFrom, Cond.code yX1_unpourFrom cX1_unpourFrom 4 (some .int), Cond.fieldLink RX1 38 "PourPlan$Pieces" "number" "I", Cond.fieldLink RX1 27 "PourPlan$Pieces" "days" "[I"]
def wsX3_endOfFirstGoodChange_r2 : List Cond := [Cond.instanceMethod yX1_howManyPoured, Cond.selects RX1 yX1_howManyPoured yX1_howManyPoured, Cond.code yX1_howManyPoured cX1_howManyPoured 3 (some .int), Cond.methodLink RX3 172 yX3_hindrance, Cond.instanceMethod yX3_hindrance, Cond.selects RX3 yX3_hindrance yX3_hindrance, Cond.code yX3_hindrance cX3_hindrance 3 (some .int), Cond.fieldLink RX3 39 "PourPlan" "gangLimit" "I", Cond.methodLink RX3 209 yX3_waitsForAhead, Cond.instanceMethod yX3_waitsForAhead, Cond.selects RX3 yX3_waitsForAhead yX3_waitsForAhead, Cond.code yX3_waitsForAhead cX3_waitsForAhead 4 (some .boolean), Cond.methodLink RX3 215 yX3_leadsBy, Cond.instanceMethod yX3_leadsBy, Cond.selects RX3 yX3_leadsBy yX3_leadsBy, Cond.code yX3_leadsBy cX3_leadsBy 5 (some .boolean), Cond.instanceMethod yX1_standsOn, Cond.selects RX1 yX1_standsOn yX1_standsOn, Cond.code yX1_standsOn cX1_standsOn 3 (some .boolean), Cond.instanceMethod yX2_placeOf, Cond.selects RX2 yX2_placeOf yX2_placeOf, Cond.code yX2_placeOf cX2_placeOf 3 (some .int), Cond.methodLink RX3 212 yX3_waitsToStand, Cond.instanceMethod yX3_waitsToStand]
def wsX3_endOfFirstGoodChange_r3 : List Cond := [Cond.selects RX3 yX3_waitsToStand yX3_waitsToStand, Cond.code yX3_waitsToStand cX3_waitsToStand 4 (some .boolean), Cond.fieldLink RX3 14 "PourPlan" "curing" "LPourPlan$Curing;", Cond.instanceMethod yX1_carries, Cond.selects RX1 yX1_carries yX1_carries, Cond.code yX1_carries cX1_carries 3 (some .boolean), Cond.fieldLink RX1 9 "PourPlan$Pieces" "kinds" "[I", Cond.fieldLink RX1 15 "PourPlan$Pieces" "floors" "[I", Cond.instanceMethod yX0_hardnessOn, Cond.initialized RX0, Cond.selects RX0 yX0_hardnessOn yX0_hardnessOn, Cond.code yX0_hardnessOn cX0_hardnessOn 3 (some .int), Cond.fieldLink RX0 24 "PourPlan$Curing" "degreesAhead" "[I", Cond.methodLink RX0 40 yX0_hardnessOf, Cond.instanceMethod yX0_hardnessOf, Cond.selects RX0 yX0_hardnessOf yX0_hardnessOf, Cond.code yX0_hardnessOf cX0_hardnessOf 7 (some .int), Cond.fieldLink RX0 34 "PourPlan$Curing" "points" "I", Cond.fieldLink RX0 18 "PourPlan$Curing" "pointDegrees" "[I", Cond.fieldLink RX0 21 "PourPlan$Curing" "pointHardness" "[I", Cond.methodLink RX3 175 yX3_formsLeft, Cond.instanceMethod yX3_formsLeft, Cond.selects RX3 yX3_formsLeft yX3_formsLeft, Cond.code yX3_formsLeft cX3_formsLeft 6 (some .int)]
def wsX3_endOfFirstGoodChange_r4 : List Cond := [Cond.fieldLink RX3 32 "PourPlan" "forms" "[I", Cond.methodLink RX3 221 yX3_isHeldOn, Cond.instanceMethod yX3_isHeldOn, Cond.selects RX3 yX3_isHeldOn yX3_isHeldOn, Cond.code yX3_isHeldOn cX3_isHeldOn 3 (some .boolean), Cond.instanceMethod yX0_stripDayFor, Cond.selects RX0 yX0_stripDayFor yX0_stripDayFor, Cond.code yX0_stripDayFor cX0_stripDayFor 2 (some .int), Cond.fieldLink RX0 27 "PourPlan$Curing" "stripDays" "[I", Cond.methodLink RX3 179 yX3_volumeOn, Cond.instanceMethod yX3_volumeOn, Cond.selects RX3 yX3_volumeOn yX3_volumeOn, Cond.code yX3_volumeOn cX3_volumeOn 5 (some .int), Cond.methodLink RX3 201 yX3_endOfAll, Cond.instanceMethod yX3_endOfAll, Cond.selects RX3 yX3_endOfAll yX3_endOfAll, Cond.code yX3_endOfAll cX3_endOfAll 3 (some .int), Cond.methodLink RX3 204 Lib.Math.max.name, Cond.static Lib.Math.max.name, Cond.initialized "java/lang/Math", Cond.code Lib.Math.max.name Lib.Math.max.code 2 (some .int)]
def wsX3_endOfFirstGoodChange : List Cond := .code yX3_endOfFirstGoodChange cX3_endOfFirstGoodChange 4 (some .int) :: ((wsX3_endOfFirstGoodChange_r1 ++ (wsX3_endOfFirstGoodChange_r2 ++ (wsX3_endOfFirstGoodChange_r3 ++ wsX3_endOfFirstGoodChange_r4))) ++ wsX30 ++ wsX10 ++ wsX20 ++ wsX00)
def wsX3_better_r1 : List Cond := [Cond.fieldLink RX3 46 "PourPlan" "latestEnd" "I", Cond.methodLink RX3 109 yX3_pourAnew, Cond.instanceMethod yX3_pourAnew, Cond.selects RX3 yX3_pourAnew yX3_pourAnew, Cond.initialized RX3, Cond.code yX3_pourAnew cX3_pourAnew 5 (some .int), Cond.fieldLink RX3 21 "PourPlan" "pieces" "LPourPlan$Pieces;", Cond.fieldLink RX3 43 "PourPlan" "today" "I", Cond.fieldLink RX3 28 "PourPlan" "sequence" "LPourPlan$Sequence;", Cond.instanceMethod yX1_unpourFrom, Cond.initialized RX1, Cond.selects RX1 yX1_unpourFrom yX1_unpourFrom, Cond.code yX1_unpourFrom cX1_unpourFrom 4 (some .int), Cond.fieldLink RX1 38 "PourPlan$Pieces" "number" "I", Cond.fieldLink RX1 27 "PourPlan$Pieces" "days" "[I", Cond.instanceMethod yX1_howManyPoured, Cond.selects RX1 yX1_howManyPoured yX1_howManyPoured, Cond.code yX1_howManyPoured cX1_howManyPoured 3 (some .int), Cond.methodLink RX3 172 yX3_hindrance, Cond.instanceMethod yX3_hindrance, Cond.selects RX3 yX3_hindrance yX3_hindrance, Cond.code yX3_hindrance cX3_hindrance 3 (some .int), Cond.fieldLink RX3 39 "PourPlan" "gangLimit" "I", Cond.methodLink RX3 209 yX3_waitsForAhead]
def wsX3_better_r2 : List Cond := [Cond.instanceMethod yX3_waitsForAhead, Cond.selects RX3 yX3_waitsForAhead yX3_waitsForAhead, Cond.code yX3_waitsForAhead cX3_waitsForAhead 4 (some .boolean), Cond.methodLink RX3 215 yX3_leadsBy, Cond.instanceMethod yX3_leadsBy, Cond.selects RX3 yX3_leadsBy yX3_leadsBy, Cond.code yX3_leadsBy cX3_leadsBy 5 (some .boolean), Cond.instanceMethod yX1_standsOn, Cond.selects RX1 yX1_standsOn yX1_standsOn, Cond.code yX1_standsOn cX1_standsOn 3 (some .boolean), Cond.instanceMethod yX2_placeOf, Cond.initialized RX2, Cond.selects RX2 yX2_placeOf yX2_placeOf, Cond.code yX2_placeOf cX2_placeOf 3 (some .int), Cond.fieldLink RX2 15 "PourPlan$Sequence" "length" "I", Cond.fieldLink RX2 9 "PourPlan$Sequence" "row" "[I", Cond.methodLink RX3 212 yX3_waitsToStand, Cond.instanceMethod yX3_waitsToStand, Cond.selects RX3 yX3_waitsToStand yX3_waitsToStand, Cond.code yX3_waitsToStand cX3_waitsToStand 4 (some .boolean), Cond.fieldLink RX3 14 "PourPlan" "curing" "LPourPlan$Curing;", Cond.instanceMethod yX1_carries, Cond.selects RX1 yX1_carries yX1_carries, Cond.code yX1_carries cX1_carries 3 (some .boolean)]
def wsX3_better_r3 : List Cond := [Cond.fieldLink RX1 9 "PourPlan$Pieces" "kinds" "[I", Cond.fieldLink RX1 15 "PourPlan$Pieces" "floors" "[I", Cond.instanceMethod yX0_hardnessOn, Cond.initialized RX0, Cond.selects RX0 yX0_hardnessOn yX0_hardnessOn, Cond.code yX0_hardnessOn cX0_hardnessOn 3 (some .int), Cond.fieldLink RX0 24 "PourPlan$Curing" "degreesAhead" "[I", Cond.methodLink RX0 40 yX0_hardnessOf, Cond.instanceMethod yX0_hardnessOf, Cond.selects RX0 yX0_hardnessOf yX0_hardnessOf, Cond.code yX0_hardnessOf cX0_hardnessOf 7 (some .int), Cond.fieldLink RX0 34 "PourPlan$Curing" "points" "I", Cond.fieldLink RX0 18 "PourPlan$Curing" "pointDegrees" "[I", Cond.fieldLink RX0 21 "PourPlan$Curing" "pointHardness" "[I", Cond.methodLink RX3 175 yX3_formsLeft, Cond.instanceMethod yX3_formsLeft, Cond.selects RX3 yX3_formsLeft yX3_formsLeft, Cond.code yX3_formsLeft cX3_formsLeft 6 (some .int), Cond.fieldLink RX3 32 "PourPlan" "forms" "[I", Cond.methodLink RX3 221 yX3_isHeldOn, Cond.instanceMethod yX3_isHeldOn, Cond.selects RX3 yX3_isHeldOn yX3_isHeldOn, Cond.code yX3_isHeldOn cX3_isHeldOn 3 (some .boolean), Cond.instanceMethod yX0_stripDayFor]
def wsX3_better_r4 : List Cond := [Cond.selects RX0 yX0_stripDayFor yX0_stripDayFor, Cond.code yX0_stripDayFor cX0_stripDayFor 2 (some .int), Cond.fieldLink RX0 27 "PourPlan$Curing" "stripDays" "[I", Cond.methodLink RX3 179 yX3_volumeOn, Cond.instanceMethod yX3_volumeOn, Cond.selects RX3 yX3_volumeOn yX3_volumeOn, Cond.code yX3_volumeOn cX3_volumeOn 5 (some .int), Cond.methodLink RX3 201 yX3_endOfAll, Cond.instanceMethod yX3_endOfAll, Cond.selects RX3 yX3_endOfAll yX3_endOfAll, Cond.code yX3_endOfAll cX3_endOfAll 3 (some .int), Cond.methodLink RX3 204 Lib.Math.max.name, Cond.static Lib.Math.max.name, Cond.initialized "java/lang/Math", Cond.code Lib.Math.max.name Lib.Math.max.code 2 (some .int), Cond.methodLink RX3 138 yX3_endOfFirstGoodChange, Cond.instanceMethod yX3_endOfFirstGoodChange, Cond.selects RX3 yX3_endOfFirstGoodChange yX3_endOfFirstGoodChange, Cond.code yX3_endOfFirstGoodChange cX3_endOfFirstGoodChange 4 (some .int), Cond.instanceMethod yX2_move, Cond.selects RX2 yX2_move yX2_move, Cond.code yX2_move cX2_move 5 none, Cond.methodLink RX2 19 yX2_isPlace, Cond.instanceMethod yX2_isPlace]
def wsX3_better_r5 : List Cond := [Cond.selects RX2 yX2_isPlace yX2_isPlace, Cond.code yX2_isPlace cX2_isPlace 2 (some .boolean)]
def wsX3_better : List Cond := .code yX3_better cX3_better 5 (some .int) :: ((wsX3_better_r1 ++ (wsX3_better_r2 ++ (wsX3_better_r3 ++ (wsX3_better_r4 ++ wsX3_better_r5)))) ++ wsX30 ++ wsX10 ++ wsX20 ++ wsX00)
def wsX3_now : List Cond := .code yX3_now cX3_now 2 (some .int) :: ([.fieldLink RX3 43 "PourPlan" "today" "I", .fieldLink RX3 21 "PourPlan" "pieces" "LPourPlan$Pieces;", .methodLink RX3 82 yX3_isDay, .static yX3_isDay, .initialized RX3, .code yX3_isDay cX3_isDay 1 (some .boolean), .methodLink RX3 49 yX3_isIn, .static yX3_isIn, .code yX3_isIn cX3_isIn 3 (some .boolean), .instanceMethod yX1_unpourFrom, .initialized RX1, .selects RX1 yX1_unpourFrom yX1_unpourFrom, .code yX1_unpourFrom cX1_unpourFrom 4 (some .int), .fieldLink RX1 38 "PourPlan$Pieces" "number" "I", .fieldLink RX1 27 "PourPlan$Pieces" "days" "[I"] ++ wsX30 ++ wsX10)
def wsX3_bound : List Cond := .code yX3_bound cX3_bound 1 (some .int) :: ([.fieldLink RX3 21 "PourPlan" "pieces" "LPourPlan$Pieces;", .instanceMethod yX1_longestLead, .initialized RX1, .selects RX1 yX1_longestLead yX1_longestLead, .code yX1_longestLead cX1_longestLead 3 (some .int), .fieldLink RX1 38 "PourPlan$Pieces" "number" "I", .fieldLink RX1 35 "PourPlan$Pieces" "ways" "[I", .methodLink RX1 45 Lib.Math.max.name, .static Lib.Math.max.name, .initialized "java/lang/Math", .code Lib.Math.max.name Lib.Math.max.code 2 (some .int), .methodLink RX1 42 yX1_lengthenWays, .instanceMethod yX1_lengthenWays, .selects RX1 yX1_lengthenWays yX1_lengthenWays, .code yX1_lengthenWays cX1_lengthenWays 4 none, .fieldLink RX1 32 "PourPlan$Pieces" "lead" "[[I"] ++ wsX30 ++ wsX10)
def wsX3_about : List Cond := .code yX3_about cX3_about 3 (some .int) :: ([.fieldLink RX3 21 "PourPlan" "pieces" "LPourPlan$Pieces;", .fieldLink RX3 14 "PourPlan" "curing" "LPourPlan$Curing;", .fieldLink RX3 28 "PourPlan" "sequence" "LPourPlan$Sequence;", .instanceMethod yX1_has, .initialized RX1, .selects RX1 yX1_has yX1_has, .code yX1_has cX1_has 2 (some .boolean), .fieldLink RX1 38 "PourPlan$Pieces" "number" "I", .instanceMethod yX0_stripDayFor, .initialized RX0, .selects RX0 yX0_stripDayFor yX0_stripDayFor, .code yX0_stripDayFor cX0_stripDayFor 2 (some .int), .fieldLink RX0 27 "PourPlan$Curing" "stripDays" "[I", .instanceMethod yX2_placeOf, .initialized RX2, .selects RX2 yX2_placeOf yX2_placeOf, .code yX2_placeOf cX2_placeOf 3 (some .int), .fieldLink RX2 15 "PourPlan$Sequence" "length" "I", .fieldLink RX2 9 "PourPlan$Sequence" "row" "[I"] ++ wsX30 ++ wsX10 ++ wsX00 ++ wsX20)
def wsX3_hard_r1 : List Cond := [Cond.fieldLink RX3 21 "PourPlan" "pieces" "LPourPlan$Pieces;", Cond.fieldLink RX3 14 "PourPlan" "curing" "LPourPlan$Curing;", Cond.instanceMethod yX1_has, Cond.initialized RX1, Cond.selects RX1 yX1_has yX1_has, Cond.code yX1_has cX1_has 2 (some .boolean), Cond.fieldLink RX1 38 "PourPlan$Pieces" "number" "I", Cond.methodLink RX3 82 yX3_isDay, Cond.static yX3_isDay, Cond.initialized RX3, Cond.code yX3_isDay cX3_isDay 1 (some .boolean), Cond.methodLink RX3 49 yX3_isIn, Cond.static yX3_isIn, Cond.code yX3_isIn cX3_isIn 3 (some .boolean), Cond.instanceMethod yX0_hardnessOn, Cond.initialized RX0, Cond.selects RX0 yX0_hardnessOn yX0_hardnessOn, Cond.code yX0_hardnessOn cX0_hardnessOn 3 (some .int), Cond.fieldLink RX0 24 "PourPlan$Curing" "degreesAhead" "[I", Cond.methodLink RX0 40 yX0_hardnessOf, Cond.instanceMethod yX0_hardnessOf, Cond.selects RX0 yX0_hardnessOf yX0_hardnessOf, Cond.code yX0_hardnessOf cX0_hardnessOf 7 (some .int), Cond.fieldLink RX0 34 "PourPlan$Curing" "points" "I"]
def wsX3_hard_r2 : List Cond := [Cond.fieldLink RX0 18 "PourPlan$Curing" "pointDegrees" "[I", Cond.fieldLink RX0 21 "PourPlan$Curing" "pointHardness" "[I"]
def wsX3_hard : List Cond := .code yX3_hard cX3_hard 3 (some .int) :: ((wsX3_hard_r1 ++ wsX3_hard_r2) ++ wsX30 ++ wsX10 ++ wsX00)
def wsX3_why_r1 : List Cond := [Cond.fieldLink RX3 21 "PourPlan" "pieces" "LPourPlan$Pieces;", Cond.instanceMethod yX1_has, Cond.initialized RX1, Cond.selects RX1 yX1_has yX1_has, Cond.code yX1_has cX1_has 2 (some .boolean), Cond.fieldLink RX1 38 "PourPlan$Pieces" "number" "I", Cond.methodLink RX3 82 yX3_isDay, Cond.static yX3_isDay, Cond.initialized RX3, Cond.code yX3_isDay cX3_isDay 1 (some .boolean), Cond.methodLink RX3 49 yX3_isIn, Cond.static yX3_isIn, Cond.code yX3_isIn cX3_isIn 3 (some .boolean), Cond.methodLink RX3 172 yX3_hindrance, Cond.instanceMethod yX3_hindrance, Cond.selects RX3 yX3_hindrance yX3_hindrance, Cond.code yX3_hindrance cX3_hindrance 3 (some .int), Cond.fieldLink RX3 39 "PourPlan" "gangLimit" "I", Cond.methodLink RX3 209 yX3_waitsForAhead, Cond.instanceMethod yX3_waitsForAhead, Cond.selects RX3 yX3_waitsForAhead yX3_waitsForAhead, Cond.code yX3_waitsForAhead cX3_waitsForAhead 4 (some .boolean), Cond.methodLink RX3 215 yX3_leadsBy, Cond.instanceMethod yX3_leadsBy]
def wsX3_why_r2 : List Cond := [Cond.selects RX3 yX3_leadsBy yX3_leadsBy, Cond.code yX3_leadsBy cX3_leadsBy 5 (some .boolean), Cond.fieldLink RX3 28 "PourPlan" "sequence" "LPourPlan$Sequence;", Cond.instanceMethod yX1_standsOn, Cond.selects RX1 yX1_standsOn yX1_standsOn, Cond.code yX1_standsOn cX1_standsOn 3 (some .boolean), Cond.fieldLink RX1 27 "PourPlan$Pieces" "days" "[I", Cond.instanceMethod yX2_placeOf, Cond.initialized RX2, Cond.selects RX2 yX2_placeOf yX2_placeOf, Cond.code yX2_placeOf cX2_placeOf 3 (some .int), Cond.fieldLink RX2 15 "PourPlan$Sequence" "length" "I", Cond.fieldLink RX2 9 "PourPlan$Sequence" "row" "[I", Cond.methodLink RX3 212 yX3_waitsToStand, Cond.instanceMethod yX3_waitsToStand, Cond.selects RX3 yX3_waitsToStand yX3_waitsToStand, Cond.code yX3_waitsToStand cX3_waitsToStand 4 (some .boolean), Cond.fieldLink RX3 14 "PourPlan" "curing" "LPourPlan$Curing;", Cond.instanceMethod yX1_carries, Cond.selects RX1 yX1_carries yX1_carries, Cond.code yX1_carries cX1_carries 3 (some .boolean), Cond.fieldLink RX1 9 "PourPlan$Pieces" "kinds" "[I", Cond.fieldLink RX1 15 "PourPlan$Pieces" "floors" "[I", Cond.instanceMethod yX0_hardnessOn]
def wsX3_why_r3 : List Cond := [Cond.initialized RX0, Cond.selects RX0 yX0_hardnessOn yX0_hardnessOn, Cond.code yX0_hardnessOn cX0_hardnessOn 3 (some .int), Cond.fieldLink RX0 24 "PourPlan$Curing" "degreesAhead" "[I", Cond.methodLink RX0 40 yX0_hardnessOf, Cond.instanceMethod yX0_hardnessOf, Cond.selects RX0 yX0_hardnessOf yX0_hardnessOf, Cond.code yX0_hardnessOf cX0_hardnessOf 7 (some .int), Cond.fieldLink RX0 34 "PourPlan$Curing" "points" "I", Cond.fieldLink RX0 18 "PourPlan$Curing" "pointDegrees" "[I", Cond.fieldLink RX0 21 "PourPlan$Curing" "pointHardness" "[I", Cond.methodLink RX3 175 yX3_formsLeft, Cond.instanceMethod yX3_formsLeft, Cond.selects RX3 yX3_formsLeft yX3_formsLeft, Cond.code yX3_formsLeft cX3_formsLeft 6 (some .int), Cond.fieldLink RX3 32 "PourPlan" "forms" "[I", Cond.methodLink RX3 221 yX3_isHeldOn, Cond.instanceMethod yX3_isHeldOn, Cond.selects RX3 yX3_isHeldOn yX3_isHeldOn, Cond.code yX3_isHeldOn cX3_isHeldOn 3 (some .boolean), Cond.instanceMethod yX0_stripDayFor, Cond.selects RX0 yX0_stripDayFor yX0_stripDayFor, Cond.code yX0_stripDayFor cX0_stripDayFor 2 (some .int), Cond.fieldLink RX0 27 "PourPlan$Curing" "stripDays" "[I"]
def wsX3_why_r4 : List Cond := [Cond.methodLink RX3 179 yX3_volumeOn, Cond.instanceMethod yX3_volumeOn, Cond.selects RX3 yX3_volumeOn yX3_volumeOn, Cond.code yX3_volumeOn cX3_volumeOn 5 (some .int)]
def wsX3_why : List Cond := .code yX3_why cX3_why 3 (some .int) :: ((wsX3_why_r1 ++ (wsX3_why_r2 ++ (wsX3_why_r3 ++ wsX3_why_r4))) ++ wsX30 ++ wsX10 ++ wsX20 ++ wsX00)
def wsX3_free_r1 : List Cond := [Cond.methodLink RX3 49 yX3_isIn, Cond.static yX3_isIn, Cond.initialized RX3, Cond.code yX3_isIn cX3_isIn 3 (some .boolean), Cond.methodLink RX3 82 yX3_isDay, Cond.static yX3_isDay, Cond.code yX3_isDay cX3_isDay 1 (some .boolean), Cond.methodLink RX3 175 yX3_formsLeft, Cond.instanceMethod yX3_formsLeft, Cond.selects RX3 yX3_formsLeft yX3_formsLeft, Cond.code yX3_formsLeft cX3_formsLeft 6 (some .int), Cond.fieldLink RX3 32 "PourPlan" "forms" "[I", Cond.fieldLink RX3 21 "PourPlan" "pieces" "LPourPlan$Pieces;", Cond.methodLink RX3 221 yX3_isHeldOn, Cond.instanceMethod yX3_isHeldOn, Cond.selects RX3 yX3_isHeldOn yX3_isHeldOn, Cond.code yX3_isHeldOn cX3_isHeldOn 3 (some .boolean), Cond.fieldLink RX3 14 "PourPlan" "curing" "LPourPlan$Curing;", Cond.instanceMethod yX1_standsOn, Cond.initialized RX1, Cond.selects RX1 yX1_standsOn yX1_standsOn, Cond.code yX1_standsOn cX1_standsOn 3 (some .boolean), Cond.fieldLink RX1 27 "PourPlan$Pieces" "days" "[I", Cond.instanceMethod yX0_stripDayFor]
def wsX3_free_r2 : List Cond := [Cond.initialized RX0, Cond.selects RX0 yX0_stripDayFor yX0_stripDayFor, Cond.code yX0_stripDayFor cX0_stripDayFor 2 (some .int), Cond.fieldLink RX0 27 "PourPlan$Curing" "stripDays" "[I"]
def wsX3_free : List Cond := .code yX3_free cX3_free 3 (some .int) :: ((wsX3_free_r1 ++ wsX3_free_r2) ++ wsX30 ++ wsX10 ++ wsX00)
def wsX3_poured : List Cond := .code yX3_poured cX3_poured 2 (some .int) :: ([.methodLink RX3 82 yX3_isDay, .static yX3_isDay, .initialized RX3, .code yX3_isDay cX3_isDay 1 (some .boolean), .methodLink RX3 49 yX3_isIn, .static yX3_isIn, .code yX3_isIn cX3_isIn 3 (some .boolean), .methodLink RX3 179 yX3_volumeOn, .instanceMethod yX3_volumeOn, .selects RX3 yX3_volumeOn yX3_volumeOn, .code yX3_volumeOn cX3_volumeOn 5 (some .int), .fieldLink RX3 21 "PourPlan" "pieces" "LPourPlan$Pieces;"] ++ wsX30 ++ wsX10)
def wsX3_hardnessBelow : List Cond := .code yX3_hardnessBelow cX3_hardnessBelow 7 (some .long) :: ([.fieldLink RX3 21 "PourPlan" "pieces" "LPourPlan$Pieces;", .fieldLink RX3 14 "PourPlan" "curing" "LPourPlan$Curing;", .methodLink RX3 49 yX3_isIn, .static yX3_isIn, .initialized RX3, .code yX3_isIn cX3_isIn 3 (some .boolean), .instanceMethod yX1_standsOn, .initialized RX1, .selects RX1 yX1_standsOn yX1_standsOn, .code yX1_standsOn cX1_standsOn 3 (some .boolean), .fieldLink RX1 27 "PourPlan$Pieces" "days" "[I", .instanceMethod yX0_hardnessOn, .initialized RX0, .selects RX0 yX0_hardnessOn yX0_hardnessOn, .code yX0_hardnessOn cX0_hardnessOn 3 (some .int), .fieldLink RX0 24 "PourPlan$Curing" "degreesAhead" "[I", .methodLink RX0 40 yX0_hardnessOf, .instanceMethod yX0_hardnessOf, .selects RX0 yX0_hardnessOf yX0_hardnessOf, .code yX0_hardnessOf cX0_hardnessOf 7 (some .int), .fieldLink RX0 34 "PourPlan$Curing" "points" "I", .fieldLink RX0 18 "PourPlan$Curing" "pointDegrees" "[I", .fieldLink RX0 21 "PourPlan$Curing" "pointHardness" "[I"] ++ wsX30 ++ wsX10 ++ wsX00)
def wsX3_loadOf : List Cond := .code yX3_loadOf cX3_loadOf 6 (some .long) :: ([.fieldLink RX3 21 "PourPlan" "pieces" "LPourPlan$Pieces;", .methodLink RX3 221 yX3_isHeldOn, .instanceMethod yX3_isHeldOn, .selects RX3 yX3_isHeldOn yX3_isHeldOn, .initialized RX3, .code yX3_isHeldOn cX3_isHeldOn 3 (some .boolean), .fieldLink RX3 14 "PourPlan" "curing" "LPourPlan$Curing;", .instanceMethod yX1_standsOn, .initialized RX1, .selects RX1 yX1_standsOn yX1_standsOn, .code yX1_standsOn cX1_standsOn 3 (some .boolean), .fieldLink RX1 27 "PourPlan$Pieces" "days" "[I", .instanceMethod yX0_stripDayFor, .initialized RX0, .selects RX0 yX0_stripDayFor yX0_stripDayFor, .code yX0_stripDayFor cX0_stripDayFor 2 (some .int), .fieldLink RX0 27 "PourPlan$Curing" "stripDays" "[I"] ++ wsX30 ++ wsX10 ++ wsX00)
def wsX3_commonDivisor : List Cond := .code yX3_commonDivisor cX3_commonDivisor 11 (some .long) :: ([])
def wsX3_borne_r1 : List Cond := [Cond.fieldLink RX3 21 "PourPlan" "pieces" "LPourPlan$Pieces;", Cond.constantLong RX3 182 (-9223372036854775808), Cond.fieldLink RX3 14 "PourPlan" "curing" "LPourPlan$Curing;", Cond.instanceMethod yX1_has, Cond.initialized RX1, Cond.selects RX1 yX1_has yX1_has, Cond.code yX1_has cX1_has 2 (some .boolean), Cond.fieldLink RX1 38 "PourPlan$Pieces" "number" "I", Cond.methodLink RX3 82 yX3_isDay, Cond.static yX3_isDay, Cond.initialized RX3, Cond.code yX3_isDay cX3_isDay 1 (some .boolean), Cond.methodLink RX3 49 yX3_isIn, Cond.static yX3_isIn, Cond.code yX3_isIn cX3_isIn 3 (some .boolean), Cond.instanceMethod yX1_standsOn, Cond.selects RX1 yX1_standsOn yX1_standsOn, Cond.code yX1_standsOn cX1_standsOn 3 (some .boolean), Cond.fieldLink RX1 27 "PourPlan$Pieces" "days" "[I", Cond.instanceMethod yX0_hardnessOn, Cond.initialized RX0, Cond.selects RX0 yX0_hardnessOn yX0_hardnessOn, Cond.code yX0_hardnessOn cX0_hardnessOn 3 (some .int), Cond.fieldLink RX0 24 "PourPlan$Curing" "degreesAhead" "[I"]
def wsX3_borne_r2 : List Cond := [Cond.methodLink RX0 40 yX0_hardnessOf, Cond.instanceMethod yX0_hardnessOf, Cond.selects RX0 yX0_hardnessOf yX0_hardnessOf, Cond.code yX0_hardnessOf cX0_hardnessOf 7 (some .int), Cond.fieldLink RX0 34 "PourPlan$Curing" "points" "I", Cond.fieldLink RX0 18 "PourPlan$Curing" "pointDegrees" "[I", Cond.fieldLink RX0 21 "PourPlan$Curing" "pointHardness" "[I", Cond.methodLink RX3 187 yX3_hardnessBelow, Cond.instanceMethod yX3_hardnessBelow, Cond.selects RX3 yX3_hardnessBelow yX3_hardnessBelow, Cond.code yX3_hardnessBelow cX3_hardnessBelow 7 (some .long), Cond.methodLink RX3 191 yX3_loadOf, Cond.instanceMethod yX3_loadOf, Cond.selects RX3 yX3_loadOf yX3_loadOf, Cond.code yX3_loadOf cX3_loadOf 6 (some .long), Cond.methodLink RX3 221 yX3_isHeldOn, Cond.instanceMethod yX3_isHeldOn, Cond.selects RX3 yX3_isHeldOn yX3_isHeldOn, Cond.code yX3_isHeldOn cX3_isHeldOn 3 (some .boolean), Cond.instanceMethod yX0_stripDayFor, Cond.selects RX0 yX0_stripDayFor yX0_stripDayFor, Cond.code yX0_stripDayFor cX0_stripDayFor 2 (some .int), Cond.fieldLink RX0 27 "PourPlan$Curing" "stripDays" "[I", Cond.methodLink RX3 194 yX3_commonDivisor]
def wsX3_borne_r3 : List Cond := [Cond.static yX3_commonDivisor, Cond.code yX3_commonDivisor cX3_commonDivisor 11 (some .long)]
def wsX3_borne : List Cond := .code yX3_borne cX3_borne 13 (some .long) :: ((wsX3_borne_r1 ++ (wsX3_borne_r2 ++ wsX3_borne_r3)) ++ wsX30 ++ wsX10 ++ wsX00)
def wsX3_count : List Cond := .code yX3_count cX3_count 2 (some .int) :: ([.fieldLink RX3 21 "PourPlan" "pieces" "LPourPlan$Pieces;", .fieldLink RX3 43 "PourPlan" "today" "I", .fieldLink RX3 14 "PourPlan" "curing" "LPourPlan$Curing;", .fieldLink RX3 39 "PourPlan" "gangLimit" "I", .fieldLink RX3 46 "PourPlan" "latestEnd" "I", .instanceMethod yX1_howManyPoured, .initialized RX1, .selects RX1 yX1_howManyPoured yX1_howManyPoured, .code yX1_howManyPoured cX1_howManyPoured 3 (some .int), .fieldLink RX1 38 "PourPlan$Pieces" "number" "I", .fieldLink RX1 27 "PourPlan$Pieces" "days" "[I"] ++ wsX30 ++ wsX10 ++ wsX00)
def wsX4_init : List Cond := .code yX4_init cX4_init 2 none :: ([.methodLink RX4 3 objectInit, .instanceMethod objectInit, .code objectInit ⟨#[0xb1]⟩ 1 none, .fieldLink RX4 9 "PourPlanModel" "gang" "I", .fieldLink RX4 15 "PourPlanModel" "strip" "I", .fieldLink RX4 18 "PourPlanModel" "bear" "I", .arrayClass .int, .fieldLink RX4 21 "PourPlanModel" "kind" "[I", .fieldLink RX4 25 "PourPlanModel" "floor" "[I", .fieldLink RX4 28 "PourPlanModel" "volume" "[I", .fieldLink RX4 31 "PourPlanModel" "size" "[I", .fieldLink RX4 34 "PourPlanModel" "faces" "[I", .fieldLink RX4 37 "PourPlanModel" "when" "[I", .fieldLink RX4 40 "PourPlanModel" "ahead" "[I", .fieldLink RX4 43 "PourPlanModel" "order" "[I", .fieldLink RX4 46 "PourPlanModel" "tried" "[I", .fieldLink RX4 49 "PourPlanModel" "chosen" "[I", .fieldLink RX4 52 "PourPlanModel" "forms" "[I", .fieldLink RX4 55 "PourPlanModel" "warmth" "[I", .fieldLink RX4 58 "PourPlanModel" "degrees" "[I", .fieldLink RX4 61 "PourPlanModel" "thousandths" "[I", .fieldLink RX4 64 "PourPlanModel" "longest" "[I"] ++ wsX40)
def wsX4_isPiece : List Cond := .code yX4_isPiece cX4_isPiece 2 (some .boolean) :: ([.fieldLink RX4 67 "PourPlanModel" "pieces" "I"] ++ wsX40)
def wsX4_isDay : List Cond := .code yX4_isDay cX4_isDay 1 (some .boolean) :: ([])
def wsX4_piece : List Cond := .code yX4_piece cX4_piece 6 (some .int) :: ([.fieldLink RX4 67 "PourPlanModel" "pieces" "I", .fieldLink RX4 21 "PourPlanModel" "kind" "[I", .fieldLink RX4 25 "PourPlanModel" "floor" "[I", .fieldLink RX4 28 "PourPlanModel" "volume" "[I", .fieldLink RX4 31 "PourPlanModel" "size" "[I", .fieldLink RX4 34 "PourPlanModel" "faces" "[I", .fieldLink RX4 37 "PourPlanModel" "when" "[I", .fieldLink RX4 43 "PourPlanModel" "order" "[I"] ++ wsX40)
def wsX4_leads : List Cond := .code yX4_leads cX4_leads 7 (some .boolean) :: ([.fieldLink RX4 67 "PourPlanModel" "pieces" "I", .fieldLink RX4 40 "PourPlanModel" "ahead" "[I"] ++ wsX40)
def wsX4_ahead : List Cond := .code yX4_ahead cX4_ahead 5 (some .int) :: ([.fieldLink RX4 40 "PourPlanModel" "ahead" "[I", .methodLink RX4 70 yX4_isPiece, .instanceMethod yX4_isPiece, .selects RX4 yX4_isPiece yX4_isPiece, .initialized RX4, .code yX4_isPiece cX4_isPiece 2 (some .boolean), .fieldLink RX4 67 "PourPlanModel" "pieces" "I", .methodLink RX4 74 yX4_leads, .instanceMethod yX4_leads, .selects RX4 yX4_leads yX4_leads, .code yX4_leads cX4_leads 7 (some .boolean)] ++ wsX40)
def wsX4_form : List Cond := .code yX4_form cX4_form 4 (some .int) :: ([.fieldLink RX4 52 "PourPlanModel" "forms" "[I"] ++ wsX40)
def wsX4_gang : List Cond := .code yX4_gang cX4_gang 3 (some .int) :: ([.fieldLink RX4 9 "PourPlanModel" "gang" "I"] ++ wsX40)
def wsX4_level : List Cond := .code yX4_level cX4_level 4 (some .int) :: ([.fieldLink RX4 15 "PourPlanModel" "strip" "I", .fieldLink RX4 18 "PourPlanModel" "bear" "I"] ++ wsX40)
def wsX4_warm : List Cond := .code yX4_warm cX4_warm 4 (some .int) :: ([.constant RX4 83 (-2147483648), .constant RX4 84 (-2147483647), .fieldLink RX4 55 "PourPlanModel" "warmth" "[I", .methodLink RX4 78 yX4_isDay, .static yX4_isDay, .initialized RX4, .code yX4_isDay cX4_isDay 1 (some .boolean)] ++ wsX40)
def wsX4_base : List Cond := .code yX4_base cX4_base 3 (some .int) :: ([.fieldLink RX4 85 "PourPlanModel" "base" "I"] ++ wsX40)
def wsX4_point : List Cond := .code yX4_point cX4_point 3 (some .int) :: ([.fieldLink RX4 88 "PourPlanModel" "points" "I", .fieldLink RX4 58 "PourPlanModel" "degrees" "[I", .fieldLink RX4 61 "PourPlanModel" "thousandths" "[I"] ++ wsX40)
def wsX4_unpoint : List Cond := .code yX4_unpoint cX4_unpoint 2 (some .int) :: ([.fieldLink RX4 88 "PourPlanModel" "points" "I"] ++ wsX40)
def wsX4_table : List Cond := .code yX4_table cX4_table 5 (some .int) :: ([.fieldLink RX4 88 "PourPlanModel" "points" "I", .fieldLink RX4 58 "PourPlanModel" "degrees" "[I", .fieldLink RX4 61 "PourPlanModel" "thousandths" "[I"] ++ wsX40)
def wsX4_hardness : List Cond := .code yX4_hardness cX4_hardness 5 (some .int) :: ([.fieldLink RX4 55 "PourPlanModel" "warmth" "[I", .fieldLink RX4 85 "PourPlanModel" "base" "I", .methodLink RX4 91 yX4_table, .instanceMethod yX4_table, .selects RX4 yX4_table yX4_table, .initialized RX4, .code yX4_table cX4_table 5 (some .int), .fieldLink RX4 88 "PourPlanModel" "points" "I", .fieldLink RX4 58 "PourPlanModel" "degrees" "[I", .fieldLink RX4 61 "PourPlanModel" "thousandths" "[I"] ++ wsX40)
def wsX4_stripped : List Cond := .code yX4_stripped cX4_stripped 3 (some .int) :: ([.fieldLink RX4 15 "PourPlanModel" "strip" "I", .methodLink RX4 95 yX4_hardness, .instanceMethod yX4_hardness, .selects RX4 yX4_hardness yX4_hardness, .initialized RX4, .code yX4_hardness cX4_hardness 5 (some .int), .fieldLink RX4 55 "PourPlanModel" "warmth" "[I", .fieldLink RX4 85 "PourPlanModel" "base" "I", .methodLink RX4 91 yX4_table, .instanceMethod yX4_table, .selects RX4 yX4_table yX4_table, .code yX4_table cX4_table 5 (some .int), .fieldLink RX4 88 "PourPlanModel" "points" "I", .fieldLink RX4 58 "PourPlanModel" "degrees" "[I", .fieldLink RX4 61 "PourPlanModel" "thousandths" "[I"] ++ wsX40)
def wsX4_isPoured : List Cond := .code yX4_isPoured cX4_isPoured 3 (some .boolean) :: ([.fieldLink RX4 37 "PourPlanModel" "when" "[I"] ++ wsX40)
def wsX4_holds : List Cond := .code yX4_holds cX4_holds 3 (some .boolean) :: ([.fieldLink RX4 37 "PourPlanModel" "when" "[I", .methodLink RX4 99 yX4_isPoured, .instanceMethod yX4_isPoured, .selects RX4 yX4_isPoured yX4_isPoured, .initialized RX4, .code yX4_isPoured cX4_isPoured 3 (some .boolean), .methodLink RX4 102 yX4_stripped, .instanceMethod yX4_stripped, .selects RX4 yX4_stripped yX4_stripped, .code yX4_stripped cX4_stripped 3 (some .int), .fieldLink RX4 15 "PourPlanModel" "strip" "I", .methodLink RX4 95 yX4_hardness, .instanceMethod yX4_hardness, .selects RX4 yX4_hardness yX4_hardness, .code yX4_hardness cX4_hardness 5 (some .int), .fieldLink RX4 55 "PourPlanModel" "warmth" "[I", .fieldLink RX4 85 "PourPlanModel" "base" "I", .methodLink RX4 91 yX4_table, .instanceMethod yX4_table, .selects RX4 yX4_table yX4_table, .code yX4_table cX4_table 5 (some .int), .fieldLink RX4 88 "PourPlanModel" "points" "I", .fieldLink RX4 58 "PourPlanModel" "degrees" "[I", .fieldLink RX4 61 "PourPlanModel" "thousandths" "[I"] ++ wsX40)
def wsX4_freeOf_r1 : List Cond := [Cond.fieldLink RX4 52 "PourPlanModel" "forms" "[I", Cond.fieldLink RX4 67 "PourPlanModel" "pieces" "I", Cond.fieldLink RX4 31 "PourPlanModel" "size" "[I", Cond.fieldLink RX4 34 "PourPlanModel" "faces" "[I", Cond.methodLink RX4 105 yX4_holds, Cond.instanceMethod yX4_holds, Cond.selects RX4 yX4_holds yX4_holds, Cond.initialized RX4, Cond.code yX4_holds cX4_holds 3 (some .boolean), Cond.fieldLink RX4 37 "PourPlanModel" "when" "[I", Cond.methodLink RX4 99 yX4_isPoured, Cond.instanceMethod yX4_isPoured, Cond.selects RX4 yX4_isPoured yX4_isPoured, Cond.code yX4_isPoured cX4_isPoured 3 (some .boolean), Cond.methodLink RX4 102 yX4_stripped, Cond.instanceMethod yX4_stripped, Cond.selects RX4 yX4_stripped yX4_stripped, Cond.code yX4_stripped cX4_stripped 3 (some .int), Cond.fieldLink RX4 15 "PourPlanModel" "strip" "I", Cond.methodLink RX4 95 yX4_hardness, Cond.instanceMethod yX4_hardness, Cond.selects RX4 yX4_hardness yX4_hardness, Cond.code yX4_hardness cX4_hardness 5 (some .int), Cond.fieldLink RX4 55 "PourPlanModel" "warmth" "[I"]
def wsX4_freeOf_r2 : List Cond := [Cond.fieldLink RX4 85 "PourPlanModel" "base" "I", Cond.methodLink RX4 91 yX4_table, Cond.instanceMethod yX4_table, Cond.selects RX4 yX4_table yX4_table, Cond.code yX4_table cX4_table 5 (some .int), Cond.fieldLink RX4 88 "PourPlanModel" "points" "I", Cond.fieldLink RX4 58 "PourPlanModel" "degrees" "[I", Cond.fieldLink RX4 61 "PourPlanModel" "thousandths" "[I"]
def wsX4_freeOf : List Cond := .code yX4_freeOf cX4_freeOf 6 (some .int) :: ((wsX4_freeOf_r1 ++ wsX4_freeOf_r2) ++ wsX40)
def wsX4_volumes : List Cond := .code yX4_volumes cX4_volumes 5 (some .int) :: ([.fieldLink RX4 67 "PourPlanModel" "pieces" "I", .fieldLink RX4 37 "PourPlanModel" "when" "[I", .fieldLink RX4 28 "PourPlanModel" "volume" "[I"] ++ wsX40)
def wsX4_isUnder : List Cond := .code yX4_isUnder cX4_isUnder 3 (some .boolean) :: ([.fieldLink RX4 21 "PourPlanModel" "kind" "[I", .fieldLink RX4 25 "PourPlanModel" "floor" "[I"] ++ wsX40)
def wsX4_hinders_r1 : List Cond := [Cond.fieldLink RX4 67 "PourPlanModel" "pieces" "I", Cond.fieldLink RX4 40 "PourPlanModel" "ahead" "[I", Cond.fieldLink RX4 37 "PourPlanModel" "when" "[I", Cond.fieldLink RX4 21 "PourPlanModel" "kind" "[I", Cond.fieldLink RX4 18 "PourPlanModel" "bear" "I", Cond.fieldLink RX4 31 "PourPlanModel" "size" "[I", Cond.fieldLink RX4 34 "PourPlanModel" "faces" "[I", Cond.fieldLink RX4 28 "PourPlanModel" "volume" "[I", Cond.fieldLink RX4 9 "PourPlanModel" "gang" "I", Cond.methodLink RX4 108 yX4_isUnder, Cond.instanceMethod yX4_isUnder, Cond.selects RX4 yX4_isUnder yX4_isUnder, Cond.initialized RX4, Cond.code yX4_isUnder cX4_isUnder 3 (some .boolean), Cond.fieldLink RX4 25 "PourPlanModel" "floor" "[I", Cond.methodLink RX4 99 yX4_isPoured, Cond.instanceMethod yX4_isPoured, Cond.selects RX4 yX4_isPoured yX4_isPoured, Cond.code yX4_isPoured cX4_isPoured 3 (some .boolean), Cond.methodLink RX4 95 yX4_hardness, Cond.instanceMethod yX4_hardness, Cond.selects RX4 yX4_hardness yX4_hardness, Cond.code yX4_hardness cX4_hardness 5 (some .int), Cond.fieldLink RX4 55 "PourPlanModel" "warmth" "[I"]
def wsX4_hinders_r2 : List Cond := [Cond.fieldLink RX4 85 "PourPlanModel" "base" "I", Cond.methodLink RX4 91 yX4_table, Cond.instanceMethod yX4_table, Cond.selects RX4 yX4_table yX4_table, Cond.code yX4_table cX4_table 5 (some .int), Cond.fieldLink RX4 88 "PourPlanModel" "points" "I", Cond.fieldLink RX4 58 "PourPlanModel" "degrees" "[I", Cond.fieldLink RX4 61 "PourPlanModel" "thousandths" "[I", Cond.methodLink RX4 111 yX4_freeOf, Cond.instanceMethod yX4_freeOf, Cond.selects RX4 yX4_freeOf yX4_freeOf, Cond.code yX4_freeOf cX4_freeOf 6 (some .int), Cond.fieldLink RX4 52 "PourPlanModel" "forms" "[I", Cond.methodLink RX4 105 yX4_holds, Cond.instanceMethod yX4_holds, Cond.selects RX4 yX4_holds yX4_holds, Cond.code yX4_holds cX4_holds 3 (some .boolean), Cond.methodLink RX4 102 yX4_stripped, Cond.instanceMethod yX4_stripped, Cond.selects RX4 yX4_stripped yX4_stripped, Cond.code yX4_stripped cX4_stripped 3 (some .int), Cond.fieldLink RX4 15 "PourPlanModel" "strip" "I", Cond.methodLink RX4 115 yX4_volumes, Cond.instanceMethod yX4_volumes]
def wsX4_hinders_r3 : List Cond := [Cond.selects RX4 yX4_volumes yX4_volumes, Cond.code yX4_volumes cX4_volumes 5 (some .int)]
def wsX4_hinders : List Cond := .code yX4_hinders cX4_hinders 5 (some .int) :: ((wsX4_hinders_r1 ++ (wsX4_hinders_r2 ++ wsX4_hinders_r3)) ++ wsX40)
def wsX4_plans_r1 : List Cond := [Cond.fieldLink RX4 67 "PourPlanModel" "pieces" "I", Cond.fieldLink RX4 37 "PourPlanModel" "when" "[I", Cond.fieldLink RX4 118 "PourPlanModel" "now" "I", Cond.methodLink RX4 121 yX4_hinders, Cond.instanceMethod yX4_hinders, Cond.selects RX4 yX4_hinders yX4_hinders, Cond.initialized RX4, Cond.code yX4_hinders cX4_hinders 5 (some .int), Cond.fieldLink RX4 40 "PourPlanModel" "ahead" "[I", Cond.fieldLink RX4 21 "PourPlanModel" "kind" "[I", Cond.fieldLink RX4 18 "PourPlanModel" "bear" "I", Cond.fieldLink RX4 31 "PourPlanModel" "size" "[I", Cond.fieldLink RX4 34 "PourPlanModel" "faces" "[I", Cond.fieldLink RX4 28 "PourPlanModel" "volume" "[I", Cond.fieldLink RX4 9 "PourPlanModel" "gang" "I", Cond.methodLink RX4 108 yX4_isUnder, Cond.instanceMethod yX4_isUnder, Cond.selects RX4 yX4_isUnder yX4_isUnder, Cond.code yX4_isUnder cX4_isUnder 3 (some .boolean), Cond.fieldLink RX4 25 "PourPlanModel" "floor" "[I", Cond.methodLink RX4 99 yX4_isPoured, Cond.instanceMethod yX4_isPoured, Cond.selects RX4 yX4_isPoured yX4_isPoured, Cond.code yX4_isPoured cX4_isPoured 3 (some .boolean)]
def wsX4_plans_r2 : List Cond := [Cond.methodLink RX4 95 yX4_hardness, Cond.instanceMethod yX4_hardness, Cond.selects RX4 yX4_hardness yX4_hardness, Cond.code yX4_hardness cX4_hardness 5 (some .int), Cond.fieldLink RX4 55 "PourPlanModel" "warmth" "[I", Cond.fieldLink RX4 85 "PourPlanModel" "base" "I", Cond.methodLink RX4 91 yX4_table, Cond.instanceMethod yX4_table, Cond.selects RX4 yX4_table yX4_table, Cond.code yX4_table cX4_table 5 (some .int), Cond.fieldLink RX4 88 "PourPlanModel" "points" "I", Cond.fieldLink RX4 58 "PourPlanModel" "degrees" "[I", Cond.fieldLink RX4 61 "PourPlanModel" "thousandths" "[I", Cond.methodLink RX4 111 yX4_freeOf, Cond.instanceMethod yX4_freeOf, Cond.selects RX4 yX4_freeOf yX4_freeOf, Cond.code yX4_freeOf cX4_freeOf 6 (some .int), Cond.fieldLink RX4 52 "PourPlanModel" "forms" "[I", Cond.methodLink RX4 105 yX4_holds, Cond.instanceMethod yX4_holds, Cond.selects RX4 yX4_holds yX4_holds, Cond.code yX4_holds cX4_holds 3 (some .boolean), Cond.methodLink RX4 102 yX4_stripped, Cond.instanceMethod yX4_stripped]
def wsX4_plans_r3 : List Cond := [Cond.selects RX4 yX4_stripped yX4_stripped, Cond.code yX4_stripped cX4_stripped 3 (some .int), Cond.fieldLink RX4 15 "PourPlanModel" "strip" "I", Cond.methodLink RX4 115 yX4_volumes, Cond.instanceMethod yX4_volumes, Cond.selects RX4 yX4_volumes yX4_volumes, Cond.code yX4_volumes cX4_volumes 5 (some .int)]
def wsX4_plans : List Cond := .code yX4_plans cX4_plans 5 (some .int) :: ((wsX4_plans_r1 ++ (wsX4_plans_r2 ++ wsX4_plans_r3)) ++ wsX40)
def wsX4_plan_r1 : List Cond := [Cond.fieldLink RX4 43 "PourPlanModel" "order" "[I", Cond.fieldLink RX4 128 "PourPlanModel" "end" "I", Cond.methodLink RX4 124 yX4_plans, Cond.instanceMethod yX4_plans, Cond.selects RX4 yX4_plans yX4_plans, Cond.initialized RX4, Cond.code yX4_plans cX4_plans 5 (some .int), Cond.fieldLink RX4 67 "PourPlanModel" "pieces" "I", Cond.fieldLink RX4 37 "PourPlanModel" "when" "[I", Cond.fieldLink RX4 118 "PourPlanModel" "now" "I", Cond.methodLink RX4 121 yX4_hinders, Cond.instanceMethod yX4_hinders, Cond.selects RX4 yX4_hinders yX4_hinders, Cond.code yX4_hinders cX4_hinders 5 (some .int), Cond.fieldLink RX4 40 "PourPlanModel" "ahead" "[I", Cond.fieldLink RX4 21 "PourPlanModel" "kind" "[I", Cond.fieldLink RX4 18 "PourPlanModel" "bear" "I", Cond.fieldLink RX4 31 "PourPlanModel" "size" "[I", Cond.fieldLink RX4 34 "PourPlanModel" "faces" "[I", Cond.fieldLink RX4 28 "PourPlanModel" "volume" "[I", Cond.fieldLink RX4 9 "PourPlanModel" "gang" "I", Cond.methodLink RX4 108 yX4_isUnder, Cond.instanceMethod yX4_isUnder, Cond.selects RX4 yX4_isUnder yX4_isUnder]
def wsX4_plan_r2 : List Cond := [Cond.code yX4_isUnder cX4_isUnder 3 (some .boolean), Cond.fieldLink RX4 25 "PourPlanModel" "floor" "[I", Cond.methodLink RX4 99 yX4_isPoured, Cond.instanceMethod yX4_isPoured, Cond.selects RX4 yX4_isPoured yX4_isPoured, Cond.code yX4_isPoured cX4_isPoured 3 (some .boolean), Cond.methodLink RX4 95 yX4_hardness, Cond.instanceMethod yX4_hardness, Cond.selects RX4 yX4_hardness yX4_hardness, Cond.code yX4_hardness cX4_hardness 5 (some .int), Cond.fieldLink RX4 55 "PourPlanModel" "warmth" "[I", Cond.fieldLink RX4 85 "PourPlanModel" "base" "I", Cond.methodLink RX4 91 yX4_table, Cond.instanceMethod yX4_table, Cond.selects RX4 yX4_table yX4_table, Cond.code yX4_table cX4_table 5 (some .int), Cond.fieldLink RX4 88 "PourPlanModel" "points" "I", Cond.fieldLink RX4 58 "PourPlanModel" "degrees" "[I", Cond.fieldLink RX4 61 "PourPlanModel" "thousandths" "[I", Cond.methodLink RX4 111 yX4_freeOf, Cond.instanceMethod yX4_freeOf, Cond.selects RX4 yX4_freeOf yX4_freeOf, Cond.code yX4_freeOf cX4_freeOf 6 (some .int), Cond.fieldLink RX4 52 "PourPlanModel" "forms" "[I"]
def wsX4_plan_r3 : List Cond := [Cond.methodLink RX4 105 yX4_holds, Cond.instanceMethod yX4_holds, Cond.selects RX4 yX4_holds yX4_holds, Cond.code yX4_holds cX4_holds 3 (some .boolean), Cond.methodLink RX4 102 yX4_stripped, Cond.instanceMethod yX4_stripped, Cond.selects RX4 yX4_stripped yX4_stripped, Cond.code yX4_stripped cX4_stripped 3 (some .int), Cond.fieldLink RX4 15 "PourPlanModel" "strip" "I", Cond.methodLink RX4 115 yX4_volumes, Cond.instanceMethod yX4_volumes, Cond.selects RX4 yX4_volumes yX4_volumes, Cond.code yX4_volumes cX4_volumes 5 (some .int)]
def wsX4_plan : List Cond := .code yX4_plan cX4_plan 1 (some .int) :: ((wsX4_plan_r1 ++ (wsX4_plan_r2 ++ wsX4_plan_r3)) ++ wsX40)
def wsX4_order : List Cond := .code yX4_order cX4_order 5 (some .int) :: ([.fieldLink RX4 67 "PourPlanModel" "pieces" "I", .fieldLink RX4 43 "PourPlanModel" "order" "[I", .methodLink RX4 70 yX4_isPiece, .instanceMethod yX4_isPiece, .selects RX4 yX4_isPiece yX4_isPiece, .initialized RX4, .code yX4_isPiece cX4_isPiece 2 (some .boolean)] ++ wsX40)
def wsX4_best_r1 : List Cond := [Cond.fieldLink RX4 67 "PourPlanModel" "pieces" "I", Cond.fieldLink RX4 46 "PourPlanModel" "tried" "[I", Cond.fieldLink RX4 49 "PourPlanModel" "chosen" "[I", Cond.fieldLink RX4 43 "PourPlanModel" "order" "[I", Cond.methodLink RX4 124 yX4_plans, Cond.instanceMethod yX4_plans, Cond.selects RX4 yX4_plans yX4_plans, Cond.initialized RX4, Cond.code yX4_plans cX4_plans 5 (some .int), Cond.fieldLink RX4 37 "PourPlanModel" "when" "[I", Cond.fieldLink RX4 118 "PourPlanModel" "now" "I", Cond.methodLink RX4 121 yX4_hinders, Cond.instanceMethod yX4_hinders, Cond.selects RX4 yX4_hinders yX4_hinders, Cond.code yX4_hinders cX4_hinders 5 (some .int), Cond.fieldLink RX4 40 "PourPlanModel" "ahead" "[I", Cond.fieldLink RX4 21 "PourPlanModel" "kind" "[I", Cond.fieldLink RX4 18 "PourPlanModel" "bear" "I", Cond.fieldLink RX4 31 "PourPlanModel" "size" "[I", Cond.fieldLink RX4 34 "PourPlanModel" "faces" "[I", Cond.fieldLink RX4 28 "PourPlanModel" "volume" "[I", Cond.fieldLink RX4 9 "PourPlanModel" "gang" "I", Cond.methodLink RX4 108 yX4_isUnder, Cond.instanceMethod yX4_isUnder]
def wsX4_best_r2 : List Cond := [Cond.selects RX4 yX4_isUnder yX4_isUnder, Cond.code yX4_isUnder cX4_isUnder 3 (some .boolean), Cond.fieldLink RX4 25 "PourPlanModel" "floor" "[I", Cond.methodLink RX4 99 yX4_isPoured, Cond.instanceMethod yX4_isPoured, Cond.selects RX4 yX4_isPoured yX4_isPoured, Cond.code yX4_isPoured cX4_isPoured 3 (some .boolean), Cond.methodLink RX4 95 yX4_hardness, Cond.instanceMethod yX4_hardness, Cond.selects RX4 yX4_hardness yX4_hardness, Cond.code yX4_hardness cX4_hardness 5 (some .int), Cond.fieldLink RX4 55 "PourPlanModel" "warmth" "[I", Cond.fieldLink RX4 85 "PourPlanModel" "base" "I", Cond.methodLink RX4 91 yX4_table, Cond.instanceMethod yX4_table, Cond.selects RX4 yX4_table yX4_table, Cond.code yX4_table cX4_table 5 (some .int), Cond.fieldLink RX4 88 "PourPlanModel" "points" "I", Cond.fieldLink RX4 58 "PourPlanModel" "degrees" "[I", Cond.fieldLink RX4 61 "PourPlanModel" "thousandths" "[I", Cond.methodLink RX4 111 yX4_freeOf, Cond.instanceMethod yX4_freeOf, Cond.selects RX4 yX4_freeOf yX4_freeOf, Cond.code yX4_freeOf cX4_freeOf 6 (some .int)]
def wsX4_best_r3 : List Cond := [Cond.fieldLink RX4 52 "PourPlanModel" "forms" "[I", Cond.methodLink RX4 105 yX4_holds, Cond.instanceMethod yX4_holds, Cond.selects RX4 yX4_holds yX4_holds, Cond.code yX4_holds cX4_holds 3 (some .boolean), Cond.methodLink RX4 102 yX4_stripped, Cond.instanceMethod yX4_stripped, Cond.selects RX4 yX4_stripped yX4_stripped, Cond.code yX4_stripped cX4_stripped 3 (some .int), Cond.fieldLink RX4 15 "PourPlanModel" "strip" "I", Cond.methodLink RX4 115 yX4_volumes, Cond.instanceMethod yX4_volumes, Cond.selects RX4 yX4_volumes yX4_volumes, Cond.code yX4_volumes cX4_volumes 5 (some .int), Cond.methodLink RX4 131 yX4_plan, Cond.instanceMethod yX4_plan, Cond.selects RX4 yX4_plan yX4_plan, Cond.code yX4_plan cX4_plan 1 (some .int), Cond.fieldLink RX4 128 "PourPlanModel" "end" "I"]
def wsX4_best : List Cond := .code yX4_best cX4_best 8 (some .int) :: ((wsX4_best_r1 ++ (wsX4_best_r2 ++ wsX4_best_r3)) ++ wsX40)
def wsX4_better_r1 : List Cond := [Cond.fieldLink RX4 43 "PourPlanModel" "order" "[I", Cond.fieldLink RX4 67 "PourPlanModel" "pieces" "I", Cond.methodLink RX4 124 yX4_plans, Cond.instanceMethod yX4_plans, Cond.selects RX4 yX4_plans yX4_plans, Cond.initialized RX4, Cond.code yX4_plans cX4_plans 5 (some .int), Cond.fieldLink RX4 37 "PourPlanModel" "when" "[I", Cond.fieldLink RX4 118 "PourPlanModel" "now" "I", Cond.methodLink RX4 121 yX4_hinders, Cond.instanceMethod yX4_hinders, Cond.selects RX4 yX4_hinders yX4_hinders, Cond.code yX4_hinders cX4_hinders 5 (some .int), Cond.fieldLink RX4 40 "PourPlanModel" "ahead" "[I", Cond.fieldLink RX4 21 "PourPlanModel" "kind" "[I", Cond.fieldLink RX4 18 "PourPlanModel" "bear" "I", Cond.fieldLink RX4 31 "PourPlanModel" "size" "[I", Cond.fieldLink RX4 34 "PourPlanModel" "faces" "[I", Cond.fieldLink RX4 28 "PourPlanModel" "volume" "[I", Cond.fieldLink RX4 9 "PourPlanModel" "gang" "I", Cond.methodLink RX4 108 yX4_isUnder, Cond.instanceMethod yX4_isUnder, Cond.selects RX4 yX4_isUnder yX4_isUnder, Cond.code yX4_isUnder cX4_isUnder 3 (some .boolean)]
def wsX4_better_r2 : List Cond := [Cond.fieldLink RX4 25 "PourPlanModel" "floor" "[I", Cond.methodLink RX4 99 yX4_isPoured, Cond.instanceMethod yX4_isPoured, Cond.selects RX4 yX4_isPoured yX4_isPoured, Cond.code yX4_isPoured cX4_isPoured 3 (some .boolean), Cond.methodLink RX4 95 yX4_hardness, Cond.instanceMethod yX4_hardness, Cond.selects RX4 yX4_hardness yX4_hardness, Cond.code yX4_hardness cX4_hardness 5 (some .int), Cond.fieldLink RX4 55 "PourPlanModel" "warmth" "[I", Cond.fieldLink RX4 85 "PourPlanModel" "base" "I", Cond.methodLink RX4 91 yX4_table, Cond.instanceMethod yX4_table, Cond.selects RX4 yX4_table yX4_table, Cond.code yX4_table cX4_table 5 (some .int), Cond.fieldLink RX4 88 "PourPlanModel" "points" "I", Cond.fieldLink RX4 58 "PourPlanModel" "degrees" "[I", Cond.fieldLink RX4 61 "PourPlanModel" "thousandths" "[I", Cond.methodLink RX4 111 yX4_freeOf, Cond.instanceMethod yX4_freeOf, Cond.selects RX4 yX4_freeOf yX4_freeOf, Cond.code yX4_freeOf cX4_freeOf 6 (some .int), Cond.fieldLink RX4 52 "PourPlanModel" "forms" "[I", Cond.methodLink RX4 105 yX4_holds]
def wsX4_better_r3 : List Cond := [Cond.instanceMethod yX4_holds, Cond.selects RX4 yX4_holds yX4_holds, Cond.code yX4_holds cX4_holds 3 (some .boolean), Cond.methodLink RX4 102 yX4_stripped, Cond.instanceMethod yX4_stripped, Cond.selects RX4 yX4_stripped yX4_stripped, Cond.code yX4_stripped cX4_stripped 3 (some .int), Cond.fieldLink RX4 15 "PourPlanModel" "strip" "I", Cond.methodLink RX4 115 yX4_volumes, Cond.instanceMethod yX4_volumes, Cond.selects RX4 yX4_volumes yX4_volumes, Cond.code yX4_volumes cX4_volumes 5 (some .int), Cond.methodLink RX4 131 yX4_plan, Cond.instanceMethod yX4_plan, Cond.selects RX4 yX4_plan yX4_plan, Cond.code yX4_plan cX4_plan 1 (some .int), Cond.fieldLink RX4 128 "PourPlanModel" "end" "I"]
def wsX4_better : List Cond := .code yX4_better cX4_better 6 (some .int) :: ((wsX4_better_r1 ++ (wsX4_better_r2 ++ wsX4_better_r3)) ++ wsX40)
def wsX4_now : List Cond := .code yX4_now cX4_now 4 (some .int) :: ([.fieldLink RX4 118 "PourPlanModel" "now" "I", .fieldLink RX4 67 "PourPlanModel" "pieces" "I", .fieldLink RX4 37 "PourPlanModel" "when" "[I", .methodLink RX4 78 yX4_isDay, .static yX4_isDay, .initialized RX4, .code yX4_isDay cX4_isDay 1 (some .boolean)] ++ wsX40)
def wsX4_bound : List Cond := .code yX4_bound cX4_bound 5 (some .int) :: ([.fieldLink RX4 67 "PourPlanModel" "pieces" "I", .fieldLink RX4 64 "PourPlanModel" "longest" "[I", .fieldLink RX4 40 "PourPlanModel" "ahead" "[I"] ++ wsX40)
def wsX4_about_r1 : List Cond := [Cond.fieldLink RX4 21 "PourPlanModel" "kind" "[I", Cond.fieldLink RX4 25 "PourPlanModel" "floor" "[I", Cond.fieldLink RX4 28 "PourPlanModel" "volume" "[I", Cond.fieldLink RX4 31 "PourPlanModel" "size" "[I", Cond.fieldLink RX4 34 "PourPlanModel" "faces" "[I", Cond.fieldLink RX4 37 "PourPlanModel" "when" "[I", Cond.fieldLink RX4 43 "PourPlanModel" "order" "[I", Cond.methodLink RX4 70 yX4_isPiece, Cond.instanceMethod yX4_isPiece, Cond.selects RX4 yX4_isPiece yX4_isPiece, Cond.initialized RX4, Cond.code yX4_isPiece cX4_isPiece 2 (some .boolean), Cond.fieldLink RX4 67 "PourPlanModel" "pieces" "I", Cond.methodLink RX4 102 yX4_stripped, Cond.instanceMethod yX4_stripped, Cond.selects RX4 yX4_stripped yX4_stripped, Cond.code yX4_stripped cX4_stripped 3 (some .int), Cond.fieldLink RX4 15 "PourPlanModel" "strip" "I", Cond.methodLink RX4 95 yX4_hardness, Cond.instanceMethod yX4_hardness, Cond.selects RX4 yX4_hardness yX4_hardness, Cond.code yX4_hardness cX4_hardness 5 (some .int), Cond.fieldLink RX4 55 "PourPlanModel" "warmth" "[I", Cond.fieldLink RX4 85 "PourPlanModel" "base" "I"]
def wsX4_about_r2 : List Cond := [Cond.methodLink RX4 91 yX4_table, Cond.instanceMethod yX4_table, Cond.selects RX4 yX4_table yX4_table, Cond.code yX4_table cX4_table 5 (some .int), Cond.fieldLink RX4 88 "PourPlanModel" "points" "I", Cond.fieldLink RX4 58 "PourPlanModel" "degrees" "[I", Cond.fieldLink RX4 61 "PourPlanModel" "thousandths" "[I"]
def wsX4_about : List Cond := .code yX4_about cX4_about 4 (some .int) :: ((wsX4_about_r1 ++ wsX4_about_r2) ++ wsX40)
def wsX4_hard_r1 : List Cond := [Cond.fieldLink RX4 37 "PourPlanModel" "when" "[I", Cond.methodLink RX4 70 yX4_isPiece, Cond.instanceMethod yX4_isPiece, Cond.selects RX4 yX4_isPiece yX4_isPiece, Cond.initialized RX4, Cond.code yX4_isPiece cX4_isPiece 2 (some .boolean), Cond.fieldLink RX4 67 "PourPlanModel" "pieces" "I", Cond.methodLink RX4 78 yX4_isDay, Cond.static yX4_isDay, Cond.code yX4_isDay cX4_isDay 1 (some .boolean), Cond.methodLink RX4 99 yX4_isPoured, Cond.instanceMethod yX4_isPoured, Cond.selects RX4 yX4_isPoured yX4_isPoured, Cond.code yX4_isPoured cX4_isPoured 3 (some .boolean), Cond.methodLink RX4 95 yX4_hardness, Cond.instanceMethod yX4_hardness, Cond.selects RX4 yX4_hardness yX4_hardness, Cond.code yX4_hardness cX4_hardness 5 (some .int), Cond.fieldLink RX4 55 "PourPlanModel" "warmth" "[I", Cond.fieldLink RX4 85 "PourPlanModel" "base" "I", Cond.methodLink RX4 91 yX4_table, Cond.instanceMethod yX4_table, Cond.selects RX4 yX4_table yX4_table, Cond.code yX4_table cX4_table 5 (some .int)]
def wsX4_hard_r2 : List Cond := [Cond.fieldLink RX4 88 "PourPlanModel" "points" "I", Cond.fieldLink RX4 58 "PourPlanModel" "degrees" "[I", Cond.fieldLink RX4 61 "PourPlanModel" "thousandths" "[I"]
def wsX4_hard : List Cond := .code yX4_hard cX4_hard 3 (some .int) :: ((wsX4_hard_r1 ++ wsX4_hard_r2) ++ wsX40)
def wsX4_why_r1 : List Cond := [Cond.methodLink RX4 70 yX4_isPiece, Cond.instanceMethod yX4_isPiece, Cond.selects RX4 yX4_isPiece yX4_isPiece, Cond.initialized RX4, Cond.code yX4_isPiece cX4_isPiece 2 (some .boolean), Cond.fieldLink RX4 67 "PourPlanModel" "pieces" "I", Cond.methodLink RX4 78 yX4_isDay, Cond.static yX4_isDay, Cond.code yX4_isDay cX4_isDay 1 (some .boolean), Cond.methodLink RX4 121 yX4_hinders, Cond.instanceMethod yX4_hinders, Cond.selects RX4 yX4_hinders yX4_hinders, Cond.code yX4_hinders cX4_hinders 5 (some .int), Cond.fieldLink RX4 40 "PourPlanModel" "ahead" "[I", Cond.fieldLink RX4 37 "PourPlanModel" "when" "[I", Cond.fieldLink RX4 21 "PourPlanModel" "kind" "[I", Cond.fieldLink RX4 18 "PourPlanModel" "bear" "I", Cond.fieldLink RX4 31 "PourPlanModel" "size" "[I", Cond.fieldLink RX4 34 "PourPlanModel" "faces" "[I", Cond.fieldLink RX4 28 "PourPlanModel" "volume" "[I", Cond.fieldLink RX4 9 "PourPlanModel" "gang" "I", Cond.methodLink RX4 108 yX4_isUnder, Cond.instanceMethod yX4_isUnder, Cond.selects RX4 yX4_isUnder yX4_isUnder]
def wsX4_why_r2 : List Cond := [Cond.code yX4_isUnder cX4_isUnder 3 (some .boolean), Cond.fieldLink RX4 25 "PourPlanModel" "floor" "[I", Cond.methodLink RX4 99 yX4_isPoured, Cond.instanceMethod yX4_isPoured, Cond.selects RX4 yX4_isPoured yX4_isPoured, Cond.code yX4_isPoured cX4_isPoured 3 (some .boolean), Cond.methodLink RX4 95 yX4_hardness, Cond.instanceMethod yX4_hardness, Cond.selects RX4 yX4_hardness yX4_hardness, Cond.code yX4_hardness cX4_hardness 5 (some .int), Cond.fieldLink RX4 55 "PourPlanModel" "warmth" "[I", Cond.fieldLink RX4 85 "PourPlanModel" "base" "I", Cond.methodLink RX4 91 yX4_table, Cond.instanceMethod yX4_table, Cond.selects RX4 yX4_table yX4_table, Cond.code yX4_table cX4_table 5 (some .int), Cond.fieldLink RX4 88 "PourPlanModel" "points" "I", Cond.fieldLink RX4 58 "PourPlanModel" "degrees" "[I", Cond.fieldLink RX4 61 "PourPlanModel" "thousandths" "[I", Cond.methodLink RX4 111 yX4_freeOf, Cond.instanceMethod yX4_freeOf, Cond.selects RX4 yX4_freeOf yX4_freeOf, Cond.code yX4_freeOf cX4_freeOf 6 (some .int), Cond.fieldLink RX4 52 "PourPlanModel" "forms" "[I"]
def wsX4_why_r3 : List Cond := [Cond.methodLink RX4 105 yX4_holds, Cond.instanceMethod yX4_holds, Cond.selects RX4 yX4_holds yX4_holds, Cond.code yX4_holds cX4_holds 3 (some .boolean), Cond.methodLink RX4 102 yX4_stripped, Cond.instanceMethod yX4_stripped, Cond.selects RX4 yX4_stripped yX4_stripped, Cond.code yX4_stripped cX4_stripped 3 (some .int), Cond.fieldLink RX4 15 "PourPlanModel" "strip" "I", Cond.methodLink RX4 115 yX4_volumes, Cond.instanceMethod yX4_volumes, Cond.selects RX4 yX4_volumes yX4_volumes, Cond.code yX4_volumes cX4_volumes 5 (some .int)]
def wsX4_why : List Cond := .code yX4_why cX4_why 3 (some .int) :: ((wsX4_why_r1 ++ (wsX4_why_r2 ++ wsX4_why_r3)) ++ wsX40)
def wsX4_free_r1 : List Cond := [Cond.methodLink RX4 78 yX4_isDay, Cond.static yX4_isDay, Cond.initialized RX4, Cond.code yX4_isDay cX4_isDay 1 (some .boolean), Cond.methodLink RX4 111 yX4_freeOf, Cond.instanceMethod yX4_freeOf, Cond.selects RX4 yX4_freeOf yX4_freeOf, Cond.code yX4_freeOf cX4_freeOf 6 (some .int), Cond.fieldLink RX4 52 "PourPlanModel" "forms" "[I", Cond.fieldLink RX4 67 "PourPlanModel" "pieces" "I", Cond.fieldLink RX4 31 "PourPlanModel" "size" "[I", Cond.fieldLink RX4 34 "PourPlanModel" "faces" "[I", Cond.methodLink RX4 105 yX4_holds, Cond.instanceMethod yX4_holds, Cond.selects RX4 yX4_holds yX4_holds, Cond.code yX4_holds cX4_holds 3 (some .boolean), Cond.fieldLink RX4 37 "PourPlanModel" "when" "[I", Cond.methodLink RX4 99 yX4_isPoured, Cond.instanceMethod yX4_isPoured, Cond.selects RX4 yX4_isPoured yX4_isPoured, Cond.code yX4_isPoured cX4_isPoured 3 (some .boolean), Cond.methodLink RX4 102 yX4_stripped, Cond.instanceMethod yX4_stripped, Cond.selects RX4 yX4_stripped yX4_stripped]
def wsX4_free_r2 : List Cond := [Cond.code yX4_stripped cX4_stripped 3 (some .int), Cond.fieldLink RX4 15 "PourPlanModel" "strip" "I", Cond.methodLink RX4 95 yX4_hardness, Cond.instanceMethod yX4_hardness, Cond.selects RX4 yX4_hardness yX4_hardness, Cond.code yX4_hardness cX4_hardness 5 (some .int), Cond.fieldLink RX4 55 "PourPlanModel" "warmth" "[I", Cond.fieldLink RX4 85 "PourPlanModel" "base" "I", Cond.methodLink RX4 91 yX4_table, Cond.instanceMethod yX4_table, Cond.selects RX4 yX4_table yX4_table, Cond.code yX4_table cX4_table 5 (some .int), Cond.fieldLink RX4 88 "PourPlanModel" "points" "I", Cond.fieldLink RX4 58 "PourPlanModel" "degrees" "[I", Cond.fieldLink RX4 61 "PourPlanModel" "thousandths" "[I"]
def wsX4_free : List Cond := .code yX4_free cX4_free 3 (some .int) :: ((wsX4_free_r1 ++ wsX4_free_r2) ++ wsX40)
def wsX4_poured : List Cond := .code yX4_poured cX4_poured 2 (some .int) :: ([.methodLink RX4 78 yX4_isDay, .static yX4_isDay, .initialized RX4, .code yX4_isDay cX4_isDay 1 (some .boolean), .methodLink RX4 115 yX4_volumes, .instanceMethod yX4_volumes, .selects RX4 yX4_volumes yX4_volumes, .code yX4_volumes cX4_volumes 5 (some .int), .fieldLink RX4 67 "PourPlanModel" "pieces" "I", .fieldLink RX4 37 "PourPlanModel" "when" "[I", .fieldLink RX4 28 "PourPlanModel" "volume" "[I"] ++ wsX40)
def wsX4_common : List Cond := .code yX4_common cX4_common 10 (some .long) :: ([])
def wsX4_adds : List Cond := .code yX4_adds cX4_adds 11 none :: ([.fieldLink RX4 135 "PourPlanModel" "above" "J", .fieldLink RX4 139 "PourPlanModel" "below" "J", .methodLink RX4 142 yX4_common, .static yX4_common, .initialized RX4, .code yX4_common cX4_common 10 (some .long)] ++ wsX40)
def wsX4_borne_r1 : List Cond := [Cond.fieldLink RX4 21 "PourPlanModel" "kind" "[I", Cond.constantLong RX4 146 (-9223372036854775808), Cond.fieldLink RX4 28 "PourPlanModel" "volume" "[I", Cond.fieldLink RX4 135 "PourPlanModel" "above" "J", Cond.fieldLink RX4 139 "PourPlanModel" "below" "J", Cond.fieldLink RX4 67 "PourPlanModel" "pieces" "I", Cond.fieldLink RX4 25 "PourPlanModel" "floor" "[I", Cond.fieldLink RX4 37 "PourPlanModel" "when" "[I", Cond.methodLink RX4 70 yX4_isPiece, Cond.instanceMethod yX4_isPiece, Cond.selects RX4 yX4_isPiece yX4_isPiece, Cond.initialized RX4, Cond.code yX4_isPiece cX4_isPiece 2 (some .boolean), Cond.methodLink RX4 78 yX4_isDay, Cond.static yX4_isDay, Cond.code yX4_isDay cX4_isDay 1 (some .boolean), Cond.methodLink RX4 99 yX4_isPoured, Cond.instanceMethod yX4_isPoured, Cond.selects RX4 yX4_isPoured yX4_isPoured, Cond.code yX4_isPoured cX4_isPoured 3 (some .boolean), Cond.methodLink RX4 105 yX4_holds, Cond.instanceMethod yX4_holds, Cond.selects RX4 yX4_holds yX4_holds, Cond.code yX4_holds cX4_holds 3 (some .boolean)]
def wsX4_borne_r2 : List Cond := [Cond.methodLink RX4 102 yX4_stripped, Cond.instanceMethod yX4_stripped, Cond.selects RX4 yX4_stripped yX4_stripped, Cond.code yX4_stripped cX4_stripped 3 (some .int), Cond.fieldLink RX4 15 "PourPlanModel" "strip" "I", Cond.methodLink RX4 95 yX4_hardness, Cond.instanceMethod yX4_hardness, Cond.selects RX4 yX4_hardness yX4_hardness, Cond.code yX4_hardness cX4_hardness 5 (some .int), Cond.fieldLink RX4 55 "PourPlanModel" "warmth" "[I", Cond.fieldLink RX4 85 "PourPlanModel" "base" "I", Cond.methodLink RX4 91 yX4_table, Cond.instanceMethod yX4_table, Cond.selects RX4 yX4_table yX4_table, Cond.code yX4_table cX4_table 5 (some .int), Cond.fieldLink RX4 88 "PourPlanModel" "points" "I", Cond.fieldLink RX4 58 "PourPlanModel" "degrees" "[I", Cond.fieldLink RX4 61 "PourPlanModel" "thousandths" "[I", Cond.methodLink RX4 148 yX4_adds, Cond.instanceMethod yX4_adds, Cond.selects RX4 yX4_adds yX4_adds, Cond.code yX4_adds cX4_adds 11 none, Cond.methodLink RX4 142 yX4_common, Cond.static yX4_common]
def wsX4_borne_r3 : List Cond := [Cond.code yX4_common cX4_common 10 (some .long)]
def wsX4_borne : List Cond := .code yX4_borne cX4_borne 10 (some .long) :: ((wsX4_borne_r1 ++ (wsX4_borne_r2 ++ wsX4_borne_r3)) ++ wsX40)
def wsX4_count : List Cond := .code yX4_count cX4_count 4 (some .int) :: ([.fieldLink RX4 67 "PourPlanModel" "pieces" "I", .fieldLink RX4 37 "PourPlanModel" "when" "[I", .fieldLink RX4 118 "PourPlanModel" "now" "I", .fieldLink RX4 88 "PourPlanModel" "points" "I", .fieldLink RX4 9 "PourPlanModel" "gang" "I", .fieldLink RX4 85 "PourPlanModel" "base" "I", .fieldLink RX4 128 "PourPlanModel" "end" "I"] ++ wsX40)
def wsJ9_max_7cf53 : List Cond := .code yJ9_max_7cf53 cJ9_max_7cf53 2 (some .int) :: ([])
def wsL_law_r1 : List Cond := [Cond.classLink RL 7 RX3, Cond.instantiable RX3 8, Cond.initialized RX3, Cond.classLink RL 10 RX4, Cond.instantiable RX4 25, Cond.initialized RX4, Cond.methodLink RL 9 yX3_init, Cond.instanceMethod yX3_init, Cond.code yX3_init cX3_init 1 none, Cond.methodLink RX3 5 objectInit, Cond.instanceMethod objectInit, Cond.code objectInit ⟨#[0xb1]⟩ 1 none, Cond.classLink RX3 11 RX0, Cond.instantiable RX0 8, Cond.initialized RX0, Cond.fieldLink RX3 14 "PourPlan" "curing" "LPourPlan$Curing;", Cond.classLink RX3 18 RX1, Cond.instantiable RX1 9, Cond.initialized RX1, Cond.fieldLink RX3 21 "PourPlan" "pieces" "LPourPlan$Pieces;", Cond.classLink RX3 25 RX2, Cond.instantiable RX2 2, Cond.initialized RX2, Cond.fieldLink RX3 28 "PourPlan" "sequence" "LPourPlan$Sequence;"]
def wsL_law_r2 : List Cond := [Cond.arrayClass .int, Cond.fieldLink RX3 32 "PourPlan" "forms" "[I", Cond.fieldLink RX3 36 "PourPlan" "bestOrder" "[I", Cond.fieldLink RX3 39 "PourPlan" "gangLimit" "I", Cond.fieldLink RX3 43 "PourPlan" "today" "I", Cond.fieldLink RX3 46 "PourPlan" "latestEnd" "I", Cond.instanceMethod yX0_init, Cond.code yX0_init cX0_init 2 none, Cond.methodLink RX0 3 objectInit, Cond.fieldLink RX0 9 "PourPlan$Curing" "warmth" "[I", Cond.fieldLink RX0 15 "PourPlan$Curing" "levels" "[I", Cond.fieldLink RX0 18 "PourPlan$Curing" "pointDegrees" "[I", Cond.fieldLink RX0 21 "PourPlan$Curing" "pointHardness" "[I", Cond.fieldLink RX0 24 "PourPlan$Curing" "degreesAhead" "[I", Cond.fieldLink RX0 27 "PourPlan$Curing" "stripDays" "[I", Cond.fieldLink RX0 30 "PourPlan$Curing" "baseWarmth" "I", Cond.fieldLink RX0 34 "PourPlan$Curing" "points" "I", Cond.methodLink RX0 37 yX0_renew, Cond.instanceMethod yX0_renew, Cond.selects RX0 yX0_renew yX0_renew, Cond.code yX0_renew cX0_renew 3 none, Cond.methodLink RX0 44 Lib.Math.max.name, Cond.static Lib.Math.max.name, Cond.initialized "java/lang/Math"]
def wsL_law_r3 : List Cond := [Cond.code Lib.Math.max.name Lib.Math.max.code 2 (some .int), Cond.methodLink RX0 50 yX0_hardnessOn, Cond.instanceMethod yX0_hardnessOn, Cond.selects RX0 yX0_hardnessOn yX0_hardnessOn, Cond.code yX0_hardnessOn cX0_hardnessOn 3 (some .int), Cond.methodLink RX0 40 yX0_hardnessOf, Cond.instanceMethod yX0_hardnessOf, Cond.selects RX0 yX0_hardnessOf yX0_hardnessOf, Cond.code yX0_hardnessOf cX0_hardnessOf 7 (some .int), Cond.instanceMethod yX1_init, Cond.code yX1_init cX1_init 3 none, Cond.methodLink RX1 3 objectInit, Cond.fieldLink RX1 9 "PourPlan$Pieces" "kinds" "[I", Cond.fieldLink RX1 15 "PourPlan$Pieces" "floors" "[I", Cond.fieldLink RX1 18 "PourPlan$Pieces" "volumes" "[I", Cond.fieldLink RX1 21 "PourPlan$Pieces" "sizes" "[I", Cond.fieldLink RX1 24 "PourPlan$Pieces" "faces" "[I", Cond.fieldLink RX1 27 "PourPlan$Pieces" "days" "[I", Cond.classLink RX1 30 "[[I", Cond.fieldLink RX1 32 "PourPlan$Pieces" "lead" "[[I", Cond.fieldLink RX1 35 "PourPlan$Pieces" "ways" "[I", Cond.fieldLink RX1 38 "PourPlan$Pieces" "number" "I", Cond.instanceMethod yX2_init, Cond.code yX2_init cX2_init 1 none]
def wsL_law_r4 : List Cond := [Cond.methodLink RX2 3 objectInit, Cond.fieldLink RX2 9 "PourPlan$Sequence" "row" "[I", Cond.fieldLink RX2 15 "PourPlan$Sequence" "length" "I", Cond.methodLink RL 12 yX4_init, Cond.instanceMethod yX4_init, Cond.code yX4_init cX4_init 2 none, Cond.methodLink RX4 3 objectInit, Cond.fieldLink RX4 9 "PourPlanModel" "gang" "I", Cond.fieldLink RX4 15 "PourPlanModel" "strip" "I", Cond.fieldLink RX4 18 "PourPlanModel" "bear" "I", Cond.fieldLink RX4 21 "PourPlanModel" "kind" "[I", Cond.fieldLink RX4 25 "PourPlanModel" "floor" "[I", Cond.fieldLink RX4 28 "PourPlanModel" "volume" "[I", Cond.fieldLink RX4 31 "PourPlanModel" "size" "[I", Cond.fieldLink RX4 34 "PourPlanModel" "faces" "[I", Cond.fieldLink RX4 37 "PourPlanModel" "when" "[I", Cond.fieldLink RX4 40 "PourPlanModel" "ahead" "[I", Cond.fieldLink RX4 43 "PourPlanModel" "order" "[I", Cond.fieldLink RX4 46 "PourPlanModel" "tried" "[I", Cond.fieldLink RX4 49 "PourPlanModel" "chosen" "[I", Cond.fieldLink RX4 52 "PourPlanModel" "forms" "[I", Cond.fieldLink RX4 55 "PourPlanModel" "warmth" "[I", Cond.fieldLink RX4 58 "PourPlanModel" "degrees" "[I", Cond.fieldLink RX4 61 "PourPlanModel" "thousandths" "[I"]
def wsL_law_r5 : List Cond := [Cond.fieldLink RX4 64 "PourPlanModel" "longest" "[I", Cond.methodLink RL 13 yX3_piece, Cond.instanceMethod yX3_piece, Cond.selects RX3 yX3_piece yX3_piece, Cond.code yX3_piece cX3_piece 6 (some .int), Cond.methodLink RX3 49 yX3_isIn, Cond.static yX3_isIn, Cond.code yX3_isIn cX3_isIn 3 (some .boolean), Cond.instanceMethod yX2_append, Cond.selects RX2 yX2_append yX2_append, Cond.code yX2_append cX2_append 2 none, Cond.instanceMethod yX1_add, Cond.selects RX1 yX1_add yX1_add, Cond.code yX1_add cX1_add 7 (some .int), Cond.methodLink RL 17 yX4_piece, Cond.instanceMethod yX4_piece, Cond.selects RX4 yX4_piece yX4_piece, Cond.code yX4_piece cX4_piece 6 (some .int), Cond.fieldLink RX4 67 "PourPlanModel" "pieces" "I", Cond.methodLink RL 18 yX3_ahead, Cond.instanceMethod yX3_ahead, Cond.selects RX3 yX3_ahead yX3_ahead, Cond.code yX3_ahead cX3_ahead 5 (some .int), Cond.instanceMethod yX1_has]
def wsL_law_r6 : List Cond := [Cond.selects RX1 yX1_has yX1_has, Cond.code yX1_has cX1_has 2 (some .boolean), Cond.instanceMethod yX1_mustLead, Cond.selects RX1 yX1_mustLead yX1_mustLead, Cond.code yX1_mustLead cX1_mustLead 4 (some .boolean), Cond.methodLink RX1 42 yX1_lengthenWays, Cond.instanceMethod yX1_lengthenWays, Cond.selects RX1 yX1_lengthenWays yX1_lengthenWays, Cond.code yX1_lengthenWays cX1_lengthenWays 4 none, Cond.methodLink RX1 45 Lib.Math.max.name, Cond.methodLink RL 22 yX4_ahead, Cond.instanceMethod yX4_ahead, Cond.selects RX4 yX4_ahead yX4_ahead, Cond.code yX4_ahead cX4_ahead 5 (some .int), Cond.methodLink RX4 70 yX4_isPiece, Cond.instanceMethod yX4_isPiece, Cond.selects RX4 yX4_isPiece yX4_isPiece, Cond.code yX4_isPiece cX4_isPiece 2 (some .boolean), Cond.methodLink RX4 74 yX4_leads, Cond.instanceMethod yX4_leads, Cond.selects RX4 yX4_leads yX4_leads, Cond.code yX4_leads cX4_leads 7 (some .boolean), Cond.methodLink RL 23 yX3_form, Cond.instanceMethod yX3_form]
def wsL_law_r7 : List Cond := [Cond.selects RX3 yX3_form yX3_form, Cond.code yX3_form cX3_form 4 (some .int), Cond.methodLink RL 27 yX4_form, Cond.instanceMethod yX4_form, Cond.selects RX4 yX4_form yX4_form, Cond.code yX4_form cX4_form 4 (some .int), Cond.methodLink RL 28 yX3_gang, Cond.instanceMethod yX3_gang, Cond.selects RX3 yX3_gang yX3_gang, Cond.code yX3_gang cX3_gang 3 (some .int), Cond.methodLink RL 32 yX4_gang, Cond.instanceMethod yX4_gang, Cond.selects RX4 yX4_gang yX4_gang, Cond.code yX4_gang cX4_gang 3 (some .int), Cond.methodLink RL 33 yX3_level, Cond.instanceMethod yX3_level, Cond.selects RX3 yX3_level yX3_level, Cond.code yX3_level cX3_level 4 (some .int), Cond.methodLink RL 36 yX4_level, Cond.instanceMethod yX4_level, Cond.selects RX4 yX4_level yX4_level, Cond.code yX4_level cX4_level 4 (some .int), Cond.methodLink RL 37 yX3_warm, Cond.instanceMethod yX3_warm]
def wsL_law_r8 : List Cond := [Cond.selects RX3 yX3_warm yX3_warm, Cond.code yX3_warm cX3_warm 4 (some .int), Cond.constant RX3 87 (-2147483648), Cond.constant RX3 88 (-2147483647), Cond.methodLink RX3 82 yX3_isDay, Cond.static yX3_isDay, Cond.code yX3_isDay cX3_isDay 1 (some .boolean), Cond.methodLink RL 40 yX4_warm, Cond.instanceMethod yX4_warm, Cond.selects RX4 yX4_warm yX4_warm, Cond.code yX4_warm cX4_warm 4 (some .int), Cond.constant RX4 83 (-2147483648), Cond.constant RX4 84 (-2147483647), Cond.methodLink RX4 78 yX4_isDay, Cond.static yX4_isDay, Cond.code yX4_isDay cX4_isDay 1 (some .boolean), Cond.methodLink RL 41 yX3_base, Cond.instanceMethod yX3_base, Cond.selects RX3 yX3_base yX3_base, Cond.code yX3_base cX3_base 3 (some .int), Cond.methodLink RL 44 yX4_base, Cond.instanceMethod yX4_base, Cond.selects RX4 yX4_base yX4_base, Cond.code yX4_base cX4_base 3 (some .int)]
def wsL_law_r9 : List Cond := [Cond.fieldLink RX4 85 "PourPlanModel" "base" "I", Cond.methodLink RL 45 yX3_point, Cond.instanceMethod yX3_point, Cond.selects RX3 yX3_point yX3_point, Cond.code yX3_point cX3_point 3 (some .int), Cond.instanceMethod yX0_goesOnWith, Cond.selects RX0 yX0_goesOnWith yX0_goesOnWith, Cond.code yX0_goesOnWith cX0_goesOnWith 4 (some .boolean), Cond.instanceMethod yX0_addPoint, Cond.selects RX0 yX0_addPoint yX0_addPoint, Cond.code yX0_addPoint cX0_addPoint 3 none, Cond.methodLink RL 48 yX4_point, Cond.instanceMethod yX4_point, Cond.selects RX4 yX4_point yX4_point, Cond.code yX4_point cX4_point 3 (some .int), Cond.fieldLink RX4 88 "PourPlanModel" "points" "I", Cond.methodLink RL 49 yX3_unpoint, Cond.instanceMethod yX3_unpoint, Cond.selects RX3 yX3_unpoint yX3_unpoint, Cond.code yX3_unpoint cX3_unpoint 2 (some .int), Cond.methodLink RL 53 yX4_unpoint, Cond.instanceMethod yX4_unpoint, Cond.selects RX4 yX4_unpoint yX4_unpoint, Cond.code yX4_unpoint cX4_unpoint 2 (some .int)]
def wsL_law_r10 : List Cond := [Cond.methodLink RL 54 yX3_table, Cond.instanceMethod yX3_table, Cond.selects RX3 yX3_table yX3_table, Cond.code yX3_table cX3_table 2 (some .int), Cond.methodLink RL 57 yX4_table, Cond.instanceMethod yX4_table, Cond.selects RX4 yX4_table yX4_table, Cond.code yX4_table cX4_table 5 (some .int), Cond.methodLink RL 58 yX3_plan, Cond.instanceMethod yX3_plan, Cond.selects RX3 yX3_plan yX3_plan, Cond.code yX3_plan cX3_plan 1 (some .int), Cond.methodLink RX3 109 yX3_pourAnew, Cond.instanceMethod yX3_pourAnew, Cond.selects RX3 yX3_pourAnew yX3_pourAnew, Cond.code yX3_pourAnew cX3_pourAnew 5 (some .int), Cond.instanceMethod yX1_unpourFrom, Cond.selects RX1 yX1_unpourFrom yX1_unpourFrom, Cond.code yX1_unpourFrom cX1_unpourFrom 4 (some .int), Cond.instanceMethod yX1_howManyPoured, Cond.selects RX1 yX1_howManyPoured yX1_howManyPoured, Cond.code yX1_howManyPoured cX1_howManyPoured 3 (some .int), Cond.methodLink RX3 172 yX3_hindrance, Cond.instanceMethod yX3_hindrance]
def wsL_law_r11 : List Cond := [Cond.selects RX3 yX3_hindrance yX3_hindrance, Cond.code yX3_hindrance cX3_hindrance 3 (some .int), Cond.methodLink RX3 209 yX3_waitsForAhead, Cond.instanceMethod yX3_waitsForAhead, Cond.selects RX3 yX3_waitsForAhead yX3_waitsForAhead, Cond.code yX3_waitsForAhead cX3_waitsForAhead 4 (some .boolean), Cond.methodLink RX3 215 yX3_leadsBy, Cond.instanceMethod yX3_leadsBy, Cond.selects RX3 yX3_leadsBy yX3_leadsBy, Cond.code yX3_leadsBy cX3_leadsBy 5 (some .boolean), Cond.instanceMethod yX1_standsOn, Cond.selects RX1 yX1_standsOn yX1_standsOn, Cond.code yX1_standsOn cX1_standsOn 3 (some .boolean), Cond.instanceMethod yX2_placeOf, Cond.selects RX2 yX2_placeOf yX2_placeOf, Cond.code yX2_placeOf cX2_placeOf 3 (some .int), Cond.methodLink RX3 212 yX3_waitsToStand, Cond.instanceMethod yX3_waitsToStand, Cond.selects RX3 yX3_waitsToStand yX3_waitsToStand, Cond.code yX3_waitsToStand cX3_waitsToStand 4 (some .boolean), Cond.instanceMethod yX1_carries, Cond.selects RX1 yX1_carries yX1_carries, Cond.code yX1_carries cX1_carries 3 (some .boolean), Cond.methodLink RX3 175 yX3_formsLeft]
def wsL_law_r12 : List Cond := [Cond.instanceMethod yX3_formsLeft, Cond.selects RX3 yX3_formsLeft yX3_formsLeft, Cond.code yX3_formsLeft cX3_formsLeft 6 (some .int), Cond.methodLink RX3 221 yX3_isHeldOn, Cond.instanceMethod yX3_isHeldOn, Cond.selects RX3 yX3_isHeldOn yX3_isHeldOn, Cond.code yX3_isHeldOn cX3_isHeldOn 3 (some .boolean), Cond.instanceMethod yX0_stripDayFor, Cond.selects RX0 yX0_stripDayFor yX0_stripDayFor, Cond.code yX0_stripDayFor cX0_stripDayFor 2 (some .int), Cond.methodLink RX3 179 yX3_volumeOn, Cond.instanceMethod yX3_volumeOn, Cond.selects RX3 yX3_volumeOn yX3_volumeOn, Cond.code yX3_volumeOn cX3_volumeOn 5 (some .int), Cond.methodLink RX3 201 yX3_endOfAll, Cond.instanceMethod yX3_endOfAll, Cond.selects RX3 yX3_endOfAll yX3_endOfAll, Cond.code yX3_endOfAll cX3_endOfAll 3 (some .int), Cond.methodLink RX3 204 Lib.Math.max.name, Cond.methodLink RL 61 yX4_plan, Cond.instanceMethod yX4_plan, Cond.selects RX4 yX4_plan yX4_plan, Cond.code yX4_plan cX4_plan 1 (some .int), Cond.fieldLink RX4 128 "PourPlanModel" "end" "I"]
def wsL_law_r13 : List Cond := [Cond.methodLink RX4 124 yX4_plans, Cond.instanceMethod yX4_plans, Cond.selects RX4 yX4_plans yX4_plans, Cond.code yX4_plans cX4_plans 5 (some .int), Cond.fieldLink RX4 118 "PourPlanModel" "now" "I", Cond.methodLink RX4 121 yX4_hinders, Cond.instanceMethod yX4_hinders, Cond.selects RX4 yX4_hinders yX4_hinders, Cond.code yX4_hinders cX4_hinders 5 (some .int), Cond.methodLink RX4 108 yX4_isUnder, Cond.instanceMethod yX4_isUnder, Cond.selects RX4 yX4_isUnder yX4_isUnder, Cond.code yX4_isUnder cX4_isUnder 3 (some .boolean), Cond.methodLink RX4 99 yX4_isPoured, Cond.instanceMethod yX4_isPoured, Cond.selects RX4 yX4_isPoured yX4_isPoured, Cond.code yX4_isPoured cX4_isPoured 3 (some .boolean), Cond.methodLink RX4 95 yX4_hardness, Cond.instanceMethod yX4_hardness, Cond.selects RX4 yX4_hardness yX4_hardness, Cond.code yX4_hardness cX4_hardness 5 (some .int), Cond.methodLink RX4 91 yX4_table, Cond.methodLink RX4 111 yX4_freeOf, Cond.instanceMethod yX4_freeOf]
def wsL_law_r14 : List Cond := [Cond.selects RX4 yX4_freeOf yX4_freeOf, Cond.code yX4_freeOf cX4_freeOf 6 (some .int), Cond.methodLink RX4 105 yX4_holds, Cond.instanceMethod yX4_holds, Cond.selects RX4 yX4_holds yX4_holds, Cond.code yX4_holds cX4_holds 3 (some .boolean), Cond.methodLink RX4 102 yX4_stripped, Cond.instanceMethod yX4_stripped, Cond.selects RX4 yX4_stripped yX4_stripped, Cond.code yX4_stripped cX4_stripped 3 (some .int), Cond.methodLink RX4 115 yX4_volumes, Cond.instanceMethod yX4_volumes, Cond.selects RX4 yX4_volumes yX4_volumes, Cond.code yX4_volumes cX4_volumes 5 (some .int), Cond.methodLink RL 62 yX3_order, Cond.instanceMethod yX3_order, Cond.selects RX3 yX3_order yX3_order, Cond.code yX3_order cX3_order 4 (some .int), Cond.instanceMethod yX2_move, Cond.selects RX2 yX2_move yX2_move, Cond.code yX2_move cX2_move 5 none, Cond.methodLink RX2 19 yX2_isPlace, Cond.instanceMethod yX2_isPlace, Cond.selects RX2 yX2_isPlace yX2_isPlace]
def wsL_law_r15 : List Cond := [Cond.code yX2_isPlace cX2_isPlace 2 (some .boolean), Cond.methodLink RL 65 yX4_order, Cond.instanceMethod yX4_order, Cond.selects RX4 yX4_order yX4_order, Cond.code yX4_order cX4_order 5 (some .int), Cond.methodLink RL 66 yX3_best, Cond.instanceMethod yX3_best, Cond.selects RX3 yX3_best yX3_best, Cond.code yX3_best cX3_best 5 (some .int), Cond.methodLink RX3 125 arraycopyName, Cond.native arraycopyName, Cond.static arraycopyName, Cond.initialized "java/lang/System", Cond.instanceMethod yX2_sort, Cond.selects RX2 yX2_sort yX2_sort, Cond.code yX2_sort cX2_sort 2 none, Cond.instanceMethod yX2_toNext, Cond.selects RX2 yX2_toNext yX2_toNext, Cond.code yX2_toNext cX2_toNext 5 (some .boolean), Cond.methodLink RX2 23 yX2_swap, Cond.instanceMethod yX2_swap, Cond.selects RX2 yX2_swap yX2_swap, Cond.code yX2_swap cX2_swap 4 none, Cond.methodLink RX3 135 yX3_plan]
def wsL_law_r16 : List Cond := [Cond.methodLink RL 69 yX4_best, Cond.instanceMethod yX4_best, Cond.selects RX4 yX4_best yX4_best, Cond.code yX4_best cX4_best 8 (some .int), Cond.methodLink RX4 131 yX4_plan, Cond.methodLink RL 70 yX3_better, Cond.instanceMethod yX3_better, Cond.selects RX3 yX3_better yX3_better, Cond.code yX3_better cX3_better 5 (some .int), Cond.methodLink RX3 138 yX3_endOfFirstGoodChange, Cond.instanceMethod yX3_endOfFirstGoodChange, Cond.selects RX3 yX3_endOfFirstGoodChange yX3_endOfFirstGoodChange, Cond.code yX3_endOfFirstGoodChange cX3_endOfFirstGoodChange 4 (some .int), Cond.methodLink RL 73 yX4_better, Cond.instanceMethod yX4_better, Cond.selects RX4 yX4_better yX4_better, Cond.code yX4_better cX4_better 6 (some .int), Cond.methodLink RL 74 yX3_now, Cond.instanceMethod yX3_now, Cond.selects RX3 yX3_now yX3_now, Cond.code yX3_now cX3_now 2 (some .int), Cond.methodLink RL 77 yX4_now, Cond.instanceMethod yX4_now, Cond.selects RX4 yX4_now yX4_now]
def wsL_law_r17 : List Cond := [Cond.code yX4_now cX4_now 4 (some .int), Cond.methodLink RL 78 yX3_bound, Cond.instanceMethod yX3_bound, Cond.selects RX3 yX3_bound yX3_bound, Cond.code yX3_bound cX3_bound 1 (some .int), Cond.instanceMethod yX1_longestLead, Cond.selects RX1 yX1_longestLead yX1_longestLead, Cond.code yX1_longestLead cX1_longestLead 3 (some .int), Cond.methodLink RL 81 yX4_bound, Cond.instanceMethod yX4_bound, Cond.selects RX4 yX4_bound yX4_bound, Cond.code yX4_bound cX4_bound 5 (some .int), Cond.methodLink RL 82 yX3_about, Cond.instanceMethod yX3_about, Cond.selects RX3 yX3_about yX3_about, Cond.code yX3_about cX3_about 3 (some .int), Cond.methodLink RL 85 yX4_about, Cond.instanceMethod yX4_about, Cond.selects RX4 yX4_about yX4_about, Cond.code yX4_about cX4_about 4 (some .int), Cond.methodLink RL 86 yX3_hard, Cond.instanceMethod yX3_hard, Cond.selects RX3 yX3_hard yX3_hard, Cond.code yX3_hard cX3_hard 3 (some .int)]
def wsL_law_r18 : List Cond := [Cond.methodLink RL 89 yX4_hard, Cond.instanceMethod yX4_hard, Cond.selects RX4 yX4_hard yX4_hard, Cond.code yX4_hard cX4_hard 3 (some .int), Cond.methodLink RL 90 yX3_why, Cond.instanceMethod yX3_why, Cond.selects RX3 yX3_why yX3_why, Cond.code yX3_why cX3_why 3 (some .int), Cond.methodLink RL 93 yX4_why, Cond.instanceMethod yX4_why, Cond.selects RX4 yX4_why yX4_why, Cond.code yX4_why cX4_why 3 (some .int), Cond.methodLink RL 94 yX3_free, Cond.instanceMethod yX3_free, Cond.selects RX3 yX3_free yX3_free, Cond.code yX3_free cX3_free 3 (some .int), Cond.methodLink RL 97 yX4_free, Cond.instanceMethod yX4_free, Cond.selects RX4 yX4_free yX4_free, Cond.code yX4_free cX4_free 3 (some .int), Cond.methodLink RL 98 yX3_poured, Cond.instanceMethod yX3_poured, Cond.selects RX3 yX3_poured yX3_poured, Cond.code yX3_poured cX3_poured 2 (some .int)]
def wsL_law_r19 : List Cond := [Cond.methodLink RL 101 yX4_poured, Cond.instanceMethod yX4_poured, Cond.selects RX4 yX4_poured yX4_poured, Cond.code yX4_poured cX4_poured 2 (some .int), Cond.methodLink RL 102 yX3_borne, Cond.instanceMethod yX3_borne, Cond.selects RX3 yX3_borne yX3_borne, Cond.code yX3_borne cX3_borne 13 (some .long), Cond.constantLong RX3 182 (-9223372036854775808), Cond.methodLink RX3 187 yX3_hardnessBelow, Cond.instanceMethod yX3_hardnessBelow, Cond.selects RX3 yX3_hardnessBelow yX3_hardnessBelow, Cond.code yX3_hardnessBelow cX3_hardnessBelow 7 (some .long), Cond.methodLink RX3 191 yX3_loadOf, Cond.instanceMethod yX3_loadOf, Cond.selects RX3 yX3_loadOf yX3_loadOf, Cond.code yX3_loadOf cX3_loadOf 6 (some .long), Cond.methodLink RX3 194 yX3_commonDivisor, Cond.static yX3_commonDivisor, Cond.code yX3_commonDivisor cX3_commonDivisor 11 (some .long), Cond.methodLink RL 106 yX4_borne, Cond.instanceMethod yX4_borne, Cond.selects RX4 yX4_borne yX4_borne, Cond.code yX4_borne cX4_borne 10 (some .long)]
def wsL_law_r20 : List Cond := [Cond.constantLong RX4 146 (-9223372036854775808), Cond.fieldLink RX4 135 "PourPlanModel" "above" "J", Cond.fieldLink RX4 139 "PourPlanModel" "below" "J", Cond.methodLink RX4 148 yX4_adds, Cond.instanceMethod yX4_adds, Cond.selects RX4 yX4_adds yX4_adds, Cond.code yX4_adds cX4_adds 11 none, Cond.methodLink RX4 142 yX4_common, Cond.static yX4_common, Cond.code yX4_common cX4_common 10 (some .long), Cond.methodLink RL 107 yX3_count, Cond.instanceMethod yX3_count, Cond.selects RX3 yX3_count yX3_count, Cond.code yX3_count cX3_count 2 (some .int), Cond.methodLink RL 110 yX4_count, Cond.instanceMethod yX4_count, Cond.selects RX4 yX4_count yX4_count, Cond.code yX4_count cX4_count 4 (some .int)]
def wsL_law : List Cond := (wsL_law_r1 ++ (wsL_law_r2 ++ (wsL_law_r3 ++ (wsL_law_r4 ++ (wsL_law_r5 ++ (wsL_law_r6 ++ (wsL_law_r7 ++ (wsL_law_r8 ++ (wsL_law_r9 ++ (wsL_law_r10 ++ (wsL_law_r11 ++ (wsL_law_r12 ++ (wsL_law_r13 ++ (wsL_law_r14 ++ (wsL_law_r15 ++ (wsL_law_r16 ++ (wsL_law_r17 ++ (wsL_law_r18 ++ (wsL_law_r19 ++ wsL_law_r20))))))))))))))))))) ++ wsX30 ++ wsX40 ++ wsX00 ++ wsX10 ++ wsX20 ++ ([] : List Cond)
set_option maxRecDepth 20000 in
theorem mem_pos {big : List Cond} (ws : List Cond) (ps : List Nat) (hp : ws = ps.filterMap (fun i => big[i]?)) : ∀ w ∈ ws, w ∈ big := by
  intro w hw
  rw [hp] at hw
  obtain ⟨i, -, hi⟩ := List.mem_filterMap.mp hw
  exact List.mem_of_getElem? hi
theorem mem_two {big a b : List Cond} (ha : ∀ w ∈ a, w ∈ big) (hb : ∀ w ∈ b, w ∈ big) : ∀ w ∈ a ++ b, w ∈ big := fun w h => (List.mem_append.mp h).elim (ha w) (hb w)
set_option maxRecDepth 100000 in
theorem wq_wsL_law_r1 : ∀ w ∈ wsL_law_r1, w ∈ lw_tbl := mem_pos _ [54, 55, 47, 433, 434, 52, 56, 57, 58, 59, 60, 61, 62, 63, 48, 171, 113, 114, 50, 172, 157, 158, 51, 173] (by decide +kernel)
set_option maxRecDepth 100000 in
theorem wq_wsL_law_r2 : ∀ w ∈ wsL_law_r2, w ∈ lw_tbl := mem_pos _ [112, 174, 175, 176, 177, 178, 65, 66, 67, 83, 85, 87, 88, 89, 90, 91, 93, 68, 70, 0, 71, 72, 73, 49] (by decide +kernel)
set_option maxRecDepth 100000 in
theorem wq_wsL_law_r3 : ∀ w ∈ wsL_law_r3, w ∈ lw_tbl := mem_pos _ [74, 75, 77, 1, 78, 79, 81, 2, 82, 116, 117, 118, 121, 123, 125, 127, 129, 131, 119, 133, 135, 136, 160, 161] (by decide +kernel)
set_option maxRecDepth 100000 in
theorem wq_wsL_law_r4 : ∀ w ∈ wsL_law_r4, w ∈ lw_tbl := mem_pos _ [162, 163, 165, 435, 436, 437, 438, 443, 445, 446, 447, 448, 449, 450, 451, 452, 453, 454, 455, 456, 457, 458, 459, 460] (by decide +kernel)
set_option maxRecDepth 100000 in
theorem wq_wsL_law_r5 : ∀ w ∈ wsL_law_r5, w ∈ lw_tbl := mem_pos _ [461, 196, 197, 198, 199, 200, 201, 202, 205, 3, 206, 209, 4, 210, 515, 516, 517, 518, 439, 211, 212, 213, 214, 217] (by decide +kernel)
set_option maxRecDepth 100000 in
theorem wq_wsL_law_r6 : ∀ w ∈ wsL_law_r6, w ∈ lw_tbl := mem_pos _ [5, 218, 221, 6, 222, 223, 225, 7, 226, 227, 519, 520, 521, 522, 523, 525, 34, 526, 527, 529, 35, 530, 228, 229] (by decide +kernel)
set_option maxRecDepth 100000 in
theorem wq_wsL_law_r7 : ∀ w ∈ wsL_law_r7, w ∈ lw_tbl := mem_pos _ [230, 231, 531, 532, 533, 534, 232, 233, 234, 235, 535, 536, 537, 538, 236, 237, 238, 239, 539, 540, 541, 542, 241, 242] (by decide +kernel)
set_option maxRecDepth 100000 in
theorem wq_wsL_law_r8 : ∀ w ∈ wsL_law_r8, w ∈ lw_tbl := mem_pos _ [243, 244, 248, 249, 245, 246, 247, 543, 544, 545, 546, 550, 551, 547, 548, 549, 250, 251, 252, 253, 552, 553, 554, 555] (by decide +kernel)
set_option maxRecDepth 100000 in
theorem wq_wsL_law_r9 : ∀ w ∈ wsL_law_r9, w ∈ lw_tbl := mem_pos _ [444, 254, 255, 256, 257, 260, 8, 261, 264, 9, 265, 556, 557, 558, 559, 440, 266, 267, 268, 269, 560, 561, 562, 563] (by decide +kernel)
set_option maxRecDepth 100000 in
theorem wq_wsL_law_r10 : ∀ w ∈ wsL_law_r10, w ∈ lw_tbl := mem_pos _ [270, 271, 272, 273, 564, 565, 566, 567, 275, 276, 277, 278, 279, 281, 10, 282, 285, 11, 286, 289, 12, 290, 291, 293] (by decide +kernel)
set_option maxRecDepth 100000 in
theorem wq_wsL_law_r11 : ∀ w ∈ wsL_law_r11, w ∈ lw_tbl := mem_pos _ [13, 294, 295, 297, 14, 298, 299, 301, 15, 302, 305, 16, 306, 309, 17, 310, 311, 313, 18, 314, 317, 19, 318, 320] (by decide +kernel)
set_option maxRecDepth 100000 in
theorem wq_wsL_law_r12 : ∀ w ∈ wsL_law_r12, w ∈ lw_tbl := mem_pos _ [322, 20, 323, 324, 326, 21, 327, 330, 22, 331, 332, 334, 23, 335, 336, 338, 24, 339, 340, 568, 569, 570, 571, 442] (by decide +kernel)
set_option maxRecDepth 100000 in
theorem wq_wsL_law_r13 : ∀ w ∈ wsL_law_r13, w ∈ lw_tbl := mem_pos _ [572, 574, 36, 575, 441, 576, 578, 37, 579, 580, 582, 38, 583, 584, 586, 39, 587, 588, 590, 40, 591, 592, 593, 595] (by decide +kernel)
set_option maxRecDepth 100000 in
theorem wq_wsL_law_r14 : ∀ w ∈ wsL_law_r14, w ∈ lw_tbl := mem_pos _ [41, 596, 597, 599, 42, 600, 601, 603, 43, 604, 605, 607, 44, 608, 341, 342, 343, 344, 347, 25, 348, 349, 351, 26] (by decide +kernel)
set_option maxRecDepth 100000 in
theorem wq_wsL_law_r15 : ∀ w ∈ wsL_law_r15, w ∈ lw_tbl := mem_pos _ [352, 609, 610, 611, 612, 353, 354, 355, 356, 361, 363, 362, 53, 359, 27, 360, 366, 28, 367, 368, 370, 29, 371, 372] (by decide +kernel)
set_option maxRecDepth 100000 in
theorem wq_wsL_law_r16 : ∀ w ∈ wsL_law_r16, w ∈ lw_tbl := mem_pos _ [613, 614, 615, 616, 617, 373, 374, 375, 376, 377, 379, 30, 380, 618, 619, 620, 621, 381, 382, 383, 384, 622, 623, 624] (by decide +kernel)
set_option maxRecDepth 100000 in
theorem wq_wsL_law_r17 : ∀ w ∈ wsL_law_r17, w ∈ lw_tbl := mem_pos _ [625, 385, 386, 387, 388, 391, 31, 392, 626, 627, 628, 629, 393, 394, 395, 396, 630, 631, 632, 633, 397, 398, 399, 400] (by decide +kernel)
set_option maxRecDepth 100000 in
theorem wq_wsL_law_r18 : ∀ w ∈ wsL_law_r18, w ∈ lw_tbl := mem_pos _ [634, 635, 636, 637, 401, 402, 403, 404, 638, 639, 640, 641, 405, 406, 407, 408, 642, 643, 644, 645, 409, 410, 411, 412] (by decide +kernel)
set_option maxRecDepth 100000 in
theorem wq_wsL_law_r19 : ∀ w ∈ wsL_law_r19, w ∈ lw_tbl := mem_pos _ [646, 647, 648, 649, 413, 414, 415, 416, 417, 418, 420, 32, 421, 422, 424, 33, 425, 426, 427, 428, 650, 651, 652, 653] (by decide +kernel)
set_option maxRecDepth 100000 in
theorem wq_wsL_law_r20 : ∀ w ∈ wsL_law_r20, w ∈ lw_tbl := mem_pos _ [654, 462, 463, 655, 657, 45, 658, 659, 660, 661, 429, 430, 431, 432, 662, 663, 664, 665] (by decide +kernel)
set_option maxRecDepth 100000 in
theorem inX0 : ∀ w ∈ wsX00, w ∈ lw_tbl := mem_pos _ [95, 97, 99, 101, 103, 105, 107, 109] (by decide +kernel)
set_option maxRecDepth 100000 in
theorem inX1 : ∀ w ∈ wsX10, w ∈ lw_tbl := mem_pos _ [138, 140, 142, 144, 146, 148, 150, 152, 154] (by decide +kernel)
set_option maxRecDepth 100000 in
theorem inX2 : ∀ w ∈ wsX20, w ∈ lw_tbl := mem_pos _ [166, 168] (by decide +kernel)
set_option maxRecDepth 100000 in
theorem inX3 : ∀ w ∈ wsX30, w ∈ lw_tbl := mem_pos _ [179, 181, 183, 185, 187, 189, 191, 193] (by decide +kernel)
set_option maxRecDepth 100000 in
theorem inX4 : ∀ w ∈ wsX40, w ∈ lw_tbl := mem_pos _ [464, 466, 468, 470, 472, 474, 476, 478, 480, 482, 484, 486, 488, 490, 492, 494, 496, 498, 500, 502, 504, 506, 508, 510, 512] (by decide +kernel)
set_option maxRecDepth 100000 in
theorem wsL_law_in : ∀ w ∈ wsL_law, w ∈ lw_tbl := (mem_two (mem_two (mem_two (mem_two (mem_two (mem_two (mem_two wq_wsL_law_r1 (mem_two wq_wsL_law_r2 (mem_two wq_wsL_law_r3 (mem_two wq_wsL_law_r4 (mem_two wq_wsL_law_r5 (mem_two wq_wsL_law_r6 (mem_two wq_wsL_law_r7 (mem_two wq_wsL_law_r8 (mem_two wq_wsL_law_r9 (mem_two wq_wsL_law_r10 (mem_two wq_wsL_law_r11 (mem_two wq_wsL_law_r12 (mem_two wq_wsL_law_r13 (mem_two wq_wsL_law_r14 (mem_two wq_wsL_law_r15 (mem_two wq_wsL_law_r16 (mem_two wq_wsL_law_r17 (mem_two wq_wsL_law_r18 (mem_two wq_wsL_law_r19 wq_wsL_law_r20))))))))))))))))))) inX3) inX4) inX0) inX1) inX2) (fun _ h => absurd h List.not_mem_nil))
theorem inlX0 : ∀ w ∈ wsX00, w ∈ wsL_law := fun _ h => List.mem_append_left _ (List.mem_append_left _ (List.mem_append_left _ (List.mem_append_right _ h)))
theorem inlX1 : ∀ w ∈ wsX10, w ∈ wsL_law := fun _ h => List.mem_append_left _ (List.mem_append_left _ (List.mem_append_right _ h))
theorem inlX2 : ∀ w ∈ wsX20, w ∈ wsL_law := fun _ h => List.mem_append_left _ (List.mem_append_right _ h)
theorem inlX3 : ∀ w ∈ wsX30, w ∈ wsL_law := fun _ h => List.mem_append_left _ (List.mem_append_left _ (List.mem_append_left _ (List.mem_append_left _ (List.mem_append_left _ (List.mem_append_right _ h)))))
theorem inlX4 : ∀ w ∈ wsX40, w ∈ wsL_law := fun _ h => List.mem_append_left _ (List.mem_append_left _ (List.mem_append_left _ (List.mem_append_left _ (List.mem_append_right _ h))))
theorem inJ9 : ∀ w ∈ wsJ90, w ∈ lw_tbl := by decide +kernel
theorem inJ10 : ∀ w ∈ wsJ100, w ∈ lw_tbl := by decide +kernel
abbrev vwCl : List vw_C := [(RX0, TX0, 8), (RX1, TX1, 9), (RX2, TX2, 2), (RX3, TX3, 8), (RX4, TX4, 25)]
end
section
/-! ===== the words of nest mates (they can stand in no method's own words): one fact, handed down ===== -/
def nw_L : List Cond := [.fieldLinkNest RX3 89 "PourPlan$Curing" "warmth" "[I" "PourPlan", .fieldLinkNest RX3 76 "PourPlan$Curing" "levels" "[I" "PourPlan", .fieldLinkNest RX3 92 "PourPlan$Curing" "baseWarmth" "I" "PourPlan", .fieldLinkNest RX3 98 "PourPlan$Curing" "points" "I" "PourPlan", .fieldLinkNest RX3 147 "PourPlan$Pieces" "kinds" "[I" "PourPlan", .fieldLinkNest RX3 150 "PourPlan$Pieces" "floors" "[I" "PourPlan", .fieldLinkNest RX3 153 "PourPlan$Pieces" "volumes" "[I" "PourPlan", .fieldLinkNest RX3 156 "PourPlan$Pieces" "sizes" "[I" "PourPlan", .fieldLinkNest RX3 159 "PourPlan$Pieces" "faces" "[I" "PourPlan", .fieldLinkNest RX3 162 "PourPlan$Pieces" "days" "[I" "PourPlan", .fieldLinkNest RX3 72 "PourPlan$Pieces" "lead" "[[I" "PourPlan", .fieldLinkNest RX3 53 "PourPlan$Pieces" "number" "I" "PourPlan", .fieldLinkNest RX3 122 "PourPlan$Sequence" "row" "[I" "PourPlan", .methodLinkNest RX3 13 yX0_init "PourPlan", .methodLinkNest RX3 20 yX1_init "PourPlan", .methodLinkNest RX3 27 yX2_init "PourPlan", .methodLinkNest RX3 56 yX2_append "PourPlan", .methodLinkNest RX3 60 yX1_add "PourPlan", .methodLinkNest RX3 64 yX1_has "PourPlan", .methodLinkNest RX3 68 yX1_mustLead "PourPlan", .methodLinkNest RX3 79 yX0_renew "PourPlan", .methodLinkNest RX3 95 yX0_goesOnWith "PourPlan", .methodLinkNest RX3 101 yX0_addPoint "PourPlan", .methodLinkNest RX3 105 yX0_hardnessOf "PourPlan", .methodLinkNest RX3 141 yX1_unpourFrom "PourPlan", .methodLinkNest RX3 198 yX1_howManyPoured "PourPlan", .methodLinkNest RX3 184 yX1_standsOn "PourPlan", .methodLinkNest RX3 113 yX2_placeOf "PourPlan", .methodLinkNest RX3 218 yX1_carries "PourPlan", .methodLinkNest RX3 168 yX0_hardnessOn "PourPlan", .methodLinkNest RX3 165 yX0_stripDayFor "PourPlan", .methodLinkNest RX3 116 yX2_move "PourPlan", .methodLinkNest RX3 119 yX2_sort "PourPlan", .methodLinkNest RX3 131 yX2_toNext "PourPlan", .methodLinkNest RX3 144 yX1_longestLead "PourPlan"]
def nw_ok (U : State) : Prop := (∀ w ∈ nw_L, va_Nw w U) ∧ (Cond.arrayOver (.array .int)).before #[] U = true
theorem nw_tab : ∀ w ∈ nw_L, w.onTables = true := by
  intro w hw
  simp only [nw_L, List.mem_cons, List.not_mem_nil, or_false] at hw
  rcases hw with rfl | rfl | rfl | rfl | rfl | rfl | rfl | rfl | rfl | rfl | rfl | rfl | rfl | rfl | rfl | rfl | rfl | rfl | rfl | rfl | rfl | rfl | rfl | rfl | rfl | rfl | rfl | rfl | rfl | rfl | rfl | rfl | rfl | rfl | rfl <;> rfl
theorem nw_same {u U : State} (h : u.vm = U.vm) (hN : nw_ok u) : nw_ok U := ⟨fun w hw => va_Nw.same (nw_tab w hw) h (hN.1 w hw), over_moved (u := u) (by rw [h]; exact Vm.Alike.refl _) hN.2⟩
theorem nw_warm {s U : State} (hW : s.WarmedH U.vm) (hN : nw_ok s) : nw_ok U := by
  refine ⟨?_, over_moved hW.alike hN.2⟩
  intro w hw
  have h0 := hN.1 w hw
  simp only [nw_L, List.mem_cons, List.not_mem_nil, or_false] at hw
  rcases hw with rfl | rfl | rfl | rfl | rfl | rfl | rfl | rfl | rfl | rfl | rfl | rfl | rfl | rfl | rfl | rfl | rfl | rfl | rfl | rfl | rfl | rfl | rfl | rfl | rfl | rfl | rfl | rfl | rfl | rfl | rfl | rfl | rfl | rfl | rfl
  · exact va_Nw.warmF hW h0
  · exact va_Nw.warmF hW h0
  · exact va_Nw.warmF hW h0
  · exact va_Nw.warmF hW h0
  · exact va_Nw.warmF hW h0
  · exact va_Nw.warmF hW h0
  · exact va_Nw.warmF hW h0
  · exact va_Nw.warmF hW h0
  · exact va_Nw.warmF hW h0
  · exact va_Nw.warmF hW h0
  · exact va_Nw.warmF hW h0
  · exact va_Nw.warmF hW h0
  · exact va_Nw.warmF hW h0
  · exact va_Nw.warmM hW h0
  · exact va_Nw.warmM hW h0
  · exact va_Nw.warmM hW h0
  · exact va_Nw.warmM hW h0
  · exact va_Nw.warmM hW h0
  · exact va_Nw.warmM hW h0
  · exact va_Nw.warmM hW h0
  · exact va_Nw.warmM hW h0
  · exact va_Nw.warmM hW h0
  · exact va_Nw.warmM hW h0
  · exact va_Nw.warmM hW h0
  · exact va_Nw.warmM hW h0
  · exact va_Nw.warmM hW h0
  · exact va_Nw.warmM hW h0
  · exact va_Nw.warmM hW h0
  · exact va_Nw.warmM hW h0
  · exact va_Nw.warmM hW h0
  · exact va_Nw.warmM hW h0
  · exact va_Nw.warmM hW h0
  · exact va_Nw.warmM hW h0
  · exact va_Nw.warmM hW h0
  · exact va_Nw.warmM hW h0
theorem nwF_89 {U : State} (h : nw_ok U) : va_Nw (.fieldLinkNest RX3 89 "PourPlan$Curing" "warmth" "[I" "PourPlan") U := h.1 _ (List.mem_of_getElem? (i := 0) rfl)
theorem nwF_76 {U : State} (h : nw_ok U) : va_Nw (.fieldLinkNest RX3 76 "PourPlan$Curing" "levels" "[I" "PourPlan") U := h.1 _ (List.mem_of_getElem? (i := 1) rfl)
theorem nwF_92 {U : State} (h : nw_ok U) : va_Nw (.fieldLinkNest RX3 92 "PourPlan$Curing" "baseWarmth" "I" "PourPlan") U := h.1 _ (List.mem_of_getElem? (i := 2) rfl)
theorem nwF_98 {U : State} (h : nw_ok U) : va_Nw (.fieldLinkNest RX3 98 "PourPlan$Curing" "points" "I" "PourPlan") U := h.1 _ (List.mem_of_getElem? (i := 3) rfl)
theorem nwF_147 {U : State} (h : nw_ok U) : va_Nw (.fieldLinkNest RX3 147 "PourPlan$Pieces" "kinds" "[I" "PourPlan") U := h.1 _ (List.mem_of_getElem? (i := 4) rfl)
theorem nwF_150 {U : State} (h : nw_ok U) : va_Nw (.fieldLinkNest RX3 150 "PourPlan$Pieces" "floors" "[I" "PourPlan") U := h.1 _ (List.mem_of_getElem? (i := 5) rfl)
theorem nwF_153 {U : State} (h : nw_ok U) : va_Nw (.fieldLinkNest RX3 153 "PourPlan$Pieces" "volumes" "[I" "PourPlan") U := h.1 _ (List.mem_of_getElem? (i := 6) rfl)
theorem nwF_156 {U : State} (h : nw_ok U) : va_Nw (.fieldLinkNest RX3 156 "PourPlan$Pieces" "sizes" "[I" "PourPlan") U := h.1 _ (List.mem_of_getElem? (i := 7) rfl)
theorem nwF_159 {U : State} (h : nw_ok U) : va_Nw (.fieldLinkNest RX3 159 "PourPlan$Pieces" "faces" "[I" "PourPlan") U := h.1 _ (List.mem_of_getElem? (i := 8) rfl)
theorem nwF_162 {U : State} (h : nw_ok U) : va_Nw (.fieldLinkNest RX3 162 "PourPlan$Pieces" "days" "[I" "PourPlan") U := h.1 _ (List.mem_of_getElem? (i := 9) rfl)
theorem nwF_72 {U : State} (h : nw_ok U) : va_Nw (.fieldLinkNest RX3 72 "PourPlan$Pieces" "lead" "[[I" "PourPlan") U := h.1 _ (List.mem_of_getElem? (i := 10) rfl)
theorem nwF_53 {U : State} (h : nw_ok U) : va_Nw (.fieldLinkNest RX3 53 "PourPlan$Pieces" "number" "I" "PourPlan") U := h.1 _ (List.mem_of_getElem? (i := 11) rfl)
theorem nwF_122 {U : State} (h : nw_ok U) : va_Nw (.fieldLinkNest RX3 122 "PourPlan$Sequence" "row" "[I" "PourPlan") U := h.1 _ (List.mem_of_getElem? (i := 12) rfl)
theorem nwM_13 {U : State} (h : nw_ok U) : va_Nw (.methodLinkNest RX3 13 yX0_init "PourPlan") U := h.1 _ (List.mem_of_getElem? (i := 13) rfl)
theorem nwM_20 {U : State} (h : nw_ok U) : va_Nw (.methodLinkNest RX3 20 yX1_init "PourPlan") U := h.1 _ (List.mem_of_getElem? (i := 14) rfl)
theorem nwM_27 {U : State} (h : nw_ok U) : va_Nw (.methodLinkNest RX3 27 yX2_init "PourPlan") U := h.1 _ (List.mem_of_getElem? (i := 15) rfl)
theorem nwM_56 {U : State} (h : nw_ok U) : va_Nw (.methodLinkNest RX3 56 yX2_append "PourPlan") U := h.1 _ (List.mem_of_getElem? (i := 16) rfl)
theorem nwM_60 {U : State} (h : nw_ok U) : va_Nw (.methodLinkNest RX3 60 yX1_add "PourPlan") U := h.1 _ (List.mem_of_getElem? (i := 17) rfl)
theorem nwM_64 {U : State} (h : nw_ok U) : va_Nw (.methodLinkNest RX3 64 yX1_has "PourPlan") U := h.1 _ (List.mem_of_getElem? (i := 18) rfl)
theorem nwM_68 {U : State} (h : nw_ok U) : va_Nw (.methodLinkNest RX3 68 yX1_mustLead "PourPlan") U := h.1 _ (List.mem_of_getElem? (i := 19) rfl)
theorem nwM_79 {U : State} (h : nw_ok U) : va_Nw (.methodLinkNest RX3 79 yX0_renew "PourPlan") U := h.1 _ (List.mem_of_getElem? (i := 20) rfl)
theorem nwM_95 {U : State} (h : nw_ok U) : va_Nw (.methodLinkNest RX3 95 yX0_goesOnWith "PourPlan") U := h.1 _ (List.mem_of_getElem? (i := 21) rfl)
theorem nwM_101 {U : State} (h : nw_ok U) : va_Nw (.methodLinkNest RX3 101 yX0_addPoint "PourPlan") U := h.1 _ (List.mem_of_getElem? (i := 22) rfl)
theorem nwM_105 {U : State} (h : nw_ok U) : va_Nw (.methodLinkNest RX3 105 yX0_hardnessOf "PourPlan") U := h.1 _ (List.mem_of_getElem? (i := 23) rfl)
theorem nwM_141 {U : State} (h : nw_ok U) : va_Nw (.methodLinkNest RX3 141 yX1_unpourFrom "PourPlan") U := h.1 _ (List.mem_of_getElem? (i := 24) rfl)
theorem nwM_198 {U : State} (h : nw_ok U) : va_Nw (.methodLinkNest RX3 198 yX1_howManyPoured "PourPlan") U := h.1 _ (List.mem_of_getElem? (i := 25) rfl)
theorem nwM_184 {U : State} (h : nw_ok U) : va_Nw (.methodLinkNest RX3 184 yX1_standsOn "PourPlan") U := h.1 _ (List.mem_of_getElem? (i := 26) rfl)
theorem nwM_113 {U : State} (h : nw_ok U) : va_Nw (.methodLinkNest RX3 113 yX2_placeOf "PourPlan") U := h.1 _ (List.mem_of_getElem? (i := 27) rfl)
theorem nwM_218 {U : State} (h : nw_ok U) : va_Nw (.methodLinkNest RX3 218 yX1_carries "PourPlan") U := h.1 _ (List.mem_of_getElem? (i := 28) rfl)
theorem nwM_168 {U : State} (h : nw_ok U) : va_Nw (.methodLinkNest RX3 168 yX0_hardnessOn "PourPlan") U := h.1 _ (List.mem_of_getElem? (i := 29) rfl)
theorem nwM_165 {U : State} (h : nw_ok U) : va_Nw (.methodLinkNest RX3 165 yX0_stripDayFor "PourPlan") U := h.1 _ (List.mem_of_getElem? (i := 30) rfl)
theorem nwM_116 {U : State} (h : nw_ok U) : va_Nw (.methodLinkNest RX3 116 yX2_move "PourPlan") U := h.1 _ (List.mem_of_getElem? (i := 31) rfl)
theorem nwM_119 {U : State} (h : nw_ok U) : va_Nw (.methodLinkNest RX3 119 yX2_sort "PourPlan") U := h.1 _ (List.mem_of_getElem? (i := 32) rfl)
theorem nwM_131 {U : State} (h : nw_ok U) : va_Nw (.methodLinkNest RX3 131 yX2_toNext "PourPlan") U := h.1 _ (List.mem_of_getElem? (i := 33) rfl)
theorem nwM_144 {U : State} (h : nw_ok U) : va_Nw (.methodLinkNest RX3 144 yX1_longestLead "PourPlan") U := h.1 _ (List.mem_of_getElem? (i := 34) rfl)
theorem nw_tbl : ∀ w ∈ nw_L, w ∈ lw_tbl := by decide +kernel
/-! ===== the form of every contract here ===== -/
def cPre (D : va_G) (tys : List (ClassId × FieldType)) (w : va_W) (sz : Nat) (U : State) : Prop := U.heap.size = sz ∧ va_P D vwCl w U.heap ∧ va_K D vwCl tys U ∧ va_D (fun _ => True) w ∧ nw_ok U
def cPost (D : va_G) (tys : List (ClassId × FieldType)) (A : Nat → Prop) (w : va_W) (t : State) : Prop := va_P D vwCl w t.heap ∧ va_K D vwCl tys t ∧ va_D A w
abbrev CtI {S : Type} (l : Launch) (y : MethodName) (ws : List Cond) (fr lo mc ms : Nat) (av : List Value) (D : va_G) (tys : List (ClassId × FieldType)) (w : va_W) (sz : Nat) (post : Int32 → S → Prop) (w' : S → va_W) : Prop :=
  Met l y ws { frames := fr, cells := mc, slots := ms, locals := lo } (va_Pc av (cPre D tys w sz)) (va_Qi post (fun u => cPost D tys (va_A w sz) (w' u)) (va_A w sz)) mc ms (va_A w sz)
abbrev CtL {S : Type} (l : Launch) (y : MethodName) (ws : List Cond) (fr lo mc ms : Nat) (av : List Value) (D : va_G) (tys : List (ClassId × FieldType)) (w : va_W) (sz : Nat) (post : Int64 → S → Prop) (w' : S → va_W) : Prop :=
  Met l y ws { frames := fr, cells := mc, slots := ms, locals := lo } (va_Pc av (cPre D tys w sz)) (va_Ql post (fun u => cPost D tys (va_A w sz) (w' u)) (va_A w sz)) mc ms (va_A w sz)
abbrev CtV {S : Type} (l : Launch) (y : MethodName) (ws : List Cond) (fr lo mc ms : Nat) (av : List Value) (D : va_G) (tys : List (ClassId × FieldType)) (w : va_W) (sz : Nat) (post : S → Prop) (w' : S → va_W) : Prop :=
  Met l y ws { frames := fr, cells := mc, slots := ms, locals := lo } (va_Pc av (cPre D tys w sz)) (va_Qv post (fun u => cPost D tys (va_A w sz) (w' u)) (va_A w sz)) mc ms (va_A w sz)
theorem cPre_blind {av : List Value} {D : va_G} {tys : List (ClassId × FieldType)} {w : va_W} {sz : Nat} : FrameBlind (va_Pc av (cPre D tys w sz)) := by
  intro a U g mk q
  obtain ⟨q0, q1, qP, qK, qD, qN⟩ := q
  exact ⟨q0, q1, qP, va_K.moved (u := U) (U := U.calling g mk a) (Vm.Alike.refl U.vm) qK, qD, nw_same (u := U) rfl qN⟩
theorem fm_of_map {α β : Type} {f : α → Option β} {is : List α} {w : List β} (h : is.map f = w.map some) : is.filterMap f = w := by
  have h2 : is.filterMap f = (is.map f).filterMap id := by rw [List.filterMap_map]; rfl
  rw [h2, h, List.filterMap_map]
  simp
theorem cPre_at {s : State} {H : Heap} {A : Nat → Prop} {D : va_G} {tys : List (ClassId × FieldType)} {w wc : va_W} (av : List Value) (hK : va_K D vwCl tys s) (hP : va_P D vwCl w H) (hD : va_D A w) (hN : nw_ok s) (isC : List Nat) (hC : isC.map (fun i => w[i]?) = wc.map some) (hnd : va_nd isC = true) :
    ∀ U : State, U.heap = H → s.WarmedH U.vm → va_Pc av (cPre D tys wc H.size) av.toArray U := by
  intro U hU hW
  refine ⟨rfl, by rw [hU], by rw [hU]; exact hP.sub isC (fm_of_map hC), va_K.moved hW.alike hK, (hD.sub isC hnd hC).weaken (fun _ _ _ _ => trivial), nw_warm hW hN⟩
theorem preS {s : State} {H : Heap} {A : Nat → Prop} {D : va_G} {tys : List (ClassId × FieldType)} {w wc : va_W} {av : List Value} (hK : va_K D vwCl tys s) (hP : va_P D vwCl w H) (hD : va_D A w) (hN : nw_ok s) (isC : List Nat) (hC : isC.map (fun i => w[i]?) = wc.map some) (hnd : va_nd isC = true) : PreS s H (va_Pc av (cPre D tys wc H.size)) av :=
  ⟨cPre_blind, cPre_at av hK hP hD hN isC hC hnd⟩
theorem preV {s : State} {H : Heap} {A : Nat → Prop} {D : va_G} {tys : List (ClassId × FieldType)} {w wc : va_W} {As : List Value} {b q0 ci : Nat} {q : vw_C} {fs : List Value} (hK : va_K D vwCl tys s) (hP : va_P D vwCl w H) (hD : va_D A w) (hN : nw_ok s) (isC : List Nat) (hC : isC.map (fun i => w[i]?) = wc.map some) (hnd : va_nd isC = true) (hc : vwCl[ci]? = some q) (he : w[q0]? = some (b, .inr (ci, fs))) : PreV s H q.1 b (va_Pc (.ref b :: As) (cPre D tys wc H.size)) As :=
  ⟨cPre_blind, va_recv hK hP hc he, cPre_at (.ref b :: As) hK hP hD hN isC hC hnd⟩
section CC
variable {p : Program} {l : Launch} {e : Env} {R : Room} {s : State} {m : MethodId} {args : Array Value} {below : List Frame} {meth : Method} {c : Code} {H : Heap} {locs : List Loc} {cells slots : Nat} {Q : State → Prop}
variable {pc : Nat} {ls : Array Slot} {rest st0 : List Value} {a : Array Value} {A : Nat → Prop} {H0 : Heap} {mc ms : Nat} {D : va_G} {tys : List (ClassId × FieldType)} {w wc wr : va_W}
theorem cc_i {S : Type} {post : Int32 → S → Prop} {w' : S → va_W} (hr : va_Run p l e R s m args below meth c H locs cells slots mc ms (F0 m pc ls st0) rest (va_Qi post (fun u => cPost D tys (va_A wc H.size) (w' u)) (va_A wc H.size) a) (va_A wc H.size)) (hP : va_P D vwCl w H) (hD : va_D A w) (hS : va_S A H0 H locs) (hA : ∀ q, H0.size ≤ q → A q) (isC isR : List Nat) (hC : isC.map (fun i => w[i]?) = wc.map some) (hR : isR.map (fun i => w[i]?) = wr.map some) (hn : va_nd isR = true) (hdis : ∀ i ∈ isR, i ∉ isC)
    (kk : ∀ (r : Int32) (u : S) (H1 : Heap) (locs1 : List Loc), post r u → va_P D vwCl (wr ++ w' u) H1 → va_D A (wr ++ w' u) → va_S A H0 H1 locs1 → W p l e R s m args below meth c H1 locs1 (cells + mc) (slots + ms) Q (F0 m (pc + 3) ls (.int r :: rest))) : W p l e R s m args below meth c H locs cells slots Q (F0 m pc ls st0) := by
  have hFc := va_free (wc := wc) hD hS hA isC hC
  refine va_calli hr hS (fun q _ h => hFc q h) hFc (fun r u t H1 locs ht hvm hw hB hz1 hk1 hS => ?_)
  obtain ⟨hP1, hK1, hD1⟩ := hB
  rw [ht] at hP1
  obtain ⟨hP, hD⟩ := va_join (wr := wr) hP hD isC isR hC hR hn hdis hk1 hFc hP1 hD1
  exact kk r u H1 locs hw hP hD hS
theorem cc_l {S : Type} {post : Int64 → S → Prop} {w' : S → va_W} (hr : va_Run p l e R s m args below meth c H locs cells slots mc ms (F0 m pc ls st0) rest (va_Ql post (fun u => cPost D tys (va_A wc H.size) (w' u)) (va_A wc H.size) a) (va_A wc H.size)) (hP : va_P D vwCl w H) (hD : va_D A w) (hS : va_S A H0 H locs) (hA : ∀ q, H0.size ≤ q → A q) (isC isR : List Nat) (hC : isC.map (fun i => w[i]?) = wc.map some) (hR : isR.map (fun i => w[i]?) = wr.map some) (hn : va_nd isR = true) (hdis : ∀ i ∈ isR, i ∉ isC)
    (kk : ∀ (r : Int64) (u : S) (H1 : Heap) (locs1 : List Loc), post r u → va_P D vwCl (wr ++ w' u) H1 → va_D A (wr ++ w' u) → va_S A H0 H1 locs1 → W p l e R s m args below meth c H1 locs1 (cells + mc) (slots + ms) Q (F0 m (pc + 3) ls (.long r :: rest))) : W p l e R s m args below meth c H locs cells slots Q (F0 m pc ls st0) := by
  have hFc := va_free (wc := wc) hD hS hA isC hC
  refine va_calll hr hS (fun q _ h => hFc q h) hFc (fun r u t H1 locs ht hvm hw hB hz1 hk1 hS => ?_)
  obtain ⟨hP1, hK1, hD1⟩ := hB
  rw [ht] at hP1
  obtain ⟨hP, hD⟩ := va_join (wr := wr) hP hD isC isR hC hR hn hdis hk1 hFc hP1 hD1
  exact kk r u H1 locs hw hP hD hS
theorem cc_v {S : Type} {post : S → Prop} {w' : S → va_W} (hr : va_Run p l e R s m args below meth c H locs cells slots mc ms (F0 m pc ls st0) rest (va_Qv post (fun u => cPost D tys (va_A wc H.size) (w' u)) (va_A wc H.size) a) (va_A wc H.size)) (hP : va_P D vwCl w H) (hD : va_D A w) (hS : va_S A H0 H locs) (hA : ∀ q, H0.size ≤ q → A q) (isC isR : List Nat) (hC : isC.map (fun i => w[i]?) = wc.map some) (hR : isR.map (fun i => w[i]?) = wr.map some) (hn : va_nd isR = true) (hdis : ∀ i ∈ isR, i ∉ isC)
    (kk : ∀ (u : S) (H1 : Heap) (locs1 : List Loc), post u → va_P D vwCl (wr ++ w' u) H1 → va_D A (wr ++ w' u) → va_S A H0 H1 locs1 → W p l e R s m args below meth c H1 locs1 (cells + mc) (slots + ms) Q (F0 m (pc + 3) ls rest)) : W p l e R s m args below meth c H locs cells slots Q (F0 m pc ls st0) := by
  have hFc := va_free (wc := wc) hD hS hA isC hC
  refine va_callv hr hS (fun q _ h => hFc q h) hFc (fun u t H1 locs ht hvm hw hB hz1 hk1 hS => ?_)
  obtain ⟨hP1, hK1, hD1⟩ := hB
  rw [ht] at hP1
  obtain ⟨hP, hD⟩ := va_join (wr := wr) hP hD isC isR hC hR hn hdis hk1 hFc hP1 hD1
  exact kk u H1 locs hw hP hD hS
variable {cc : ByteArray} {free : Addr → Prop}
theorem fi_i {S : Type} {post : Int32 → S → Prop} {w' : S → va_W} {v : Int32} (u : S) (hx : p.tables.exec = Jvm.exec) (hb : c.code = cc) (hr : meth.sig.returnType = some .int) (hlocks : meth.locks = false) (hK : va_K D vwCl tys s) (hP : va_P D vwCl (w' u) H) (hD : va_D A (w' u)) (hS : va_S A s.heap H locs) (hpost : post v u) (hdg : decode cc pc = .ok (.ireturn, 1)) : W p l e R s m args below meth c H locs cells slots (MQ below (va_Qi post (fun u => cPost D tys A (w' u)) A) args s cells slots A) (F0 m pc ls [.int v]) :=
  W.iret hx hb hr (fun t ht hW => ⟨⟨v, u, rfl, hpost, by rw [ht]; exact hP, va_K.moved hW.alike hK, hD⟩, hS.F ht⟩) hS.2.2 hdg hlocks
theorem fi_z {S : Type} {post : Int32 → S → Prop} {w' : S → va_W} {v : Int32} (u : S) (hx : p.tables.exec = Jvm.exec) (hb : c.code = cc) (hr : meth.sig.returnType = some .boolean) (hn : narrow .boolean (.int v) = .int v) (hlocks : meth.locks = false) (hK : va_K D vwCl tys s) (hP : va_P D vwCl (w' u) H) (hD : va_D A (w' u)) (hS : va_S A s.heap H locs) (hpost : post v u) (hdg : decode cc pc = .ok (.ireturn, 1)) : W p l e R s m args below meth c H locs cells slots (MQ below (va_Qi post (fun u => cPost D tys A (w' u)) A) args s cells slots A) (F0 m pc ls [.int v]) :=
  W.zret hx hb hr hn (fun t ht hW => ⟨⟨v, u, rfl, hpost, by rw [ht]; exact hP, va_K.moved hW.alike hK, hD⟩, hS.F ht⟩) hS.2.2 hdg hlocks
theorem fi_l {S : Type} {post : Int64 → S → Prop} {w' : S → va_W} {v : Int64} (u : S) (hx : p.tables.exec = Jvm.exec) (hb : c.code = cc) (hr : meth.sig.returnType = some .long) (hlocks : meth.locks = false) (hK : va_K D vwCl tys s) (hP : va_P D vwCl (w' u) H) (hD : va_D A (w' u)) (hS : va_S A s.heap H locs) (hpost : post v u) (hdg : decode cc pc = .ok (.lreturn, 1)) : W p l e R s m args below meth c H locs cells slots (MQ below (va_Ql post (fun u => cPost D tys A (w' u)) A) args s cells slots A) (F0 m pc ls [.long v]) :=
  W.lret hx hb hr (fun t ht hW => ⟨⟨v, u, rfl, hpost, by rw [ht]; exact hP, va_K.moved hW.alike hK, hD⟩, hS.F ht⟩) hS.2.2 hdg hlocks
theorem fi_v {S : Type} {post : S → Prop} {w' : S → va_W} (u : S) (hx : p.tables.exec = Jvm.exec) (hb : c.code = cc) (hr : meth.sig.returnType = none) (hlocks : meth.locks = false) (hK : va_K D vwCl tys s) (hP : va_P D vwCl (w' u) H) (hD : va_D A (w' u)) (hS : va_S A s.heap H locs) (hpost : post u) (hdg : decode cc pc = .ok (.return_, 1)) : W p l e R s m args below meth c H locs cells slots (MQ below (va_Qv post (fun u => cPost D tys A (w' u)) A) args s cells slots A) (F0 m pc ls []) :=
  W.vret hx hb hr (fun t ht hW => ⟨⟨u, rfl, hpost, by rw [ht]; exact hP, va_K.moved hW.alike hK, hD⟩, hS.F ht⟩) hS.2.2 hdg hlocks
/-- the goal's own form, named, so that a loop can be said over it -/
theorem W_gen {g : JFrame} (kk : ∀ (GW : Heap → List Loc → Nat → Nat → JFrame → Prop), (∀ (H : Heap) (locs : List Loc) (k n : Nat) (g : JFrame), W p l e R s m args below meth c H locs k n Q g → GW H locs k n g) → (∀ (H : Heap) (locs : List Loc) (k n : Nat) (g : JFrame), GW H locs k n g → W p l e R s m args below meth c H locs k n Q g) → GW H locs cells slots g) : W p l e R s m args below meth c H locs cells slots Q g :=
  kk _ (fun _ _ _ _ _ h => h) (fun _ _ _ _ _ h => h)
theorem cA_is {cA cI : ClassId} {t0 t1 : Nat} (hK : va_K D vwCl tys s) (h0 : tys[t0]? = some (cI, .int)) (h1 : tys[t1]? = some (cA, .int)) : cA = cI :=
  Option.some.inj ((va_nm_int (hK.2 t1 _ h1).2).symm.trans (va_nm_int (hK.2 t0 _ h0).2))
end CC
section VALA
variable {p : Program} {l : Launch} {e : Env} {R : Room} {s : State} {m : MethodId} {args : Array Value} {below : List Frame} {meth : Method} {c : Code} {H : Heap} {locs : List Loc} {cells slots : Nat} {Q : State → Prop}
variable {cc : ByteArray} {pc : Nat} {ls : Array Slot} {rest : List Value} {D : va_G} {cl : List vw_C} {a : Nat} {tys : List (ClassId × FieldType)} {ws : va_W}
/-- aaload out of an array of arrays -/
theorem va_aldA (hexec : p.tables.exec = Jvm.exec) (hb : c.code = cc) (hK : va_K D cl tys s) (hP : va_P D cl ws H) (q0 t0 : Nat) {cA : ClassId} {ty : FieldType} {n : Nat} {f : Nat → Option Nat} (ha : ws[q0]? = some (a, .inl (cA, n, .inr (.inr (.inr (.inr f)))))) (ht : tys[t0]? = some (cA, .array ty)) {i : Int32} (hin : vp_in i n) (hdg : decode cc pc = .ok (.aaload, 1))
    (kk : W p l e R s m args below meth c H locs cells slots Q (F0 m (pc + 1) ls (va_rf (f i.toNatClampNeg) :: rest))) : W p l e R s m args below meth c H locs cells slots Q (F0 m pc ls (.int i :: .ref a :: rest)) := by
  have hlt : i.toNatClampNeg < n := Nat.not_le.mp fun q => hin (Or.inr q)
  exact W.aald (v := va_rf (f i.toNatClampNeg)) (ty := .array ty) hexec hb (hP q0 _ ha) ((hK.2 t0 _ ht).1 n (fun j => va_rf (f j))) rfl (fun q => by cases q) (by show ¬ (i < 0 ∨ (arrV _ _ _).slots.size ≤ _); rw [arrV_size]; exact hin) (by show (arrV _ _ _).slots[_]? = _; rw [arrV_read _ _ hlt]) rfl rfl hdg kk
end VALA
/-! ===== pure helpers ===== -/
end
section
/-! ===== pure words of the answers ===== -/
def bIn (v a b : Int32) : Int32 := if v < a ∨ b < v then 0 else 1
def bHas (p n : Int32) : Int32 := if p < 0 ∨ n ≤ p ∨ 10 ≤ p then 0 else 1
theorem nar_b {r : Int32} (h : r = 0 ∨ r = 1) : narrow .boolean (.int r) = .int r := by
  rcases h with rfl | rfl <;> rfl
theorem bIn_01 (v a b : Int32) : bIn v a b = 0 ∨ bIn v a b = 1 := by
  unfold bIn
  split <;> simp
theorem bHas_01 (p n : Int32) : bHas p n = 0 ∨ bHas p n = 1 := by
  unfold bHas
  split <;> simp
theorem vi_in {x M : Int32} {n : Nat} (hM : M.toInt = n) (h0 : 0 ≤ x) (h1 : x < M) : vp_in x n := by
  rw [vp_in_iff]
  have a := Int32.le_iff_toInt_le.mp h0
  have b := Int32.lt_iff_toInt_lt.mp h1
  have z : (0 : Int32).toInt = 0 := rfl
  omega
theorem ms_dec {k v : Int32} {L n : Nat} (h0 : ¬ k < 0) (h : ¬ nI L ≤ k) (hL : L < 2 ^ 31) (e : v = k + 1) (hn : L - k.toNatClampNeg < n + 1) : L - v.toNatClampNeg < n := by
  obtain ⟨j, _, _, _, _, hd⟩ := pk_mu h0 h hL
  subst e
  omega
theorem tb_out {x M : Int32} {h : Int} (hM : M.toInt = h) (hx : x < 0 ∨ M < x) : x.toInt < 0 ∨ h < x.toInt := by
  have z : (0 : Int32).toInt = 0 := rfl
  rcases hx with hx | hx
  · have a := Int32.lt_iff_toInt_lt.mp hx
    omega
  · have a := Int32.lt_iff_toInt_lt.mp hx
    omega
def hof (fd fh : Nat → Int32) (pts d : Int32) : Nat → Nat → Int32 → Int32 → Int32
  | 0, _, _, h => h
  | n + 1, i, g, h => if pts ≤ nI i ∨ 6 ≤ nI i then h else if d < fd i ∧ 0 < fd i - g then h + (fh i - h) * (d - g) / (fd i - g) else hof fd fh pts d n (i + 1) (fd i) (fh i)
theorem hof_s {fd fh : Nat → Int32} {pts d : Int32} {i : Nat} {g h : Int32} (hi : i ≤ 6) : hof fd fh pts d (7 - i) i g h = if pts ≤ nI i ∨ 6 ≤ nI i then h else if d < fd i ∧ 0 < fd i - g then h + (fh i - h) * (d - g) / (fd i - g) else hof fd fh pts d (7 - (i + 1)) (i + 1) (fd i) (fh i) := by
  obtain ⟨j, hj⟩ : ∃ j, 7 - i = j + 1 := ⟨6 - i, by omega⟩
  have hj2 : 7 - (i + 1) = j := by omega
  rw [hj, hj2]
  rfl
def hon (fd fh fg : Nat → Int32) (pts po day : Int32) : Int32 := if po < 0 ∨ day < po ∨ 40 ≤ day then -1 else hof fd fh pts (fg day.toNatClampNeg - fg po.toNatClampNeg) 7 0 0 0
theorem hof_0 (fd fh : Nat → Int32) (d : Int32) : hof fd fh 0 d 7 0 0 0 = 0 := by
  simp [hof, nI_0]
theorem nI_lt6 {i : Nat} {k : Int32} (ek : k = nI i) (hi : i ≤ 6) (h : ¬ 6 ≤ k) : i < 6 := by
  rcases Nat.lt_or_ge i 6 with h1 | h1
  · exact h1
  · exact absurd (by rw [ek, show i = 6 by omega]; decide) h
theorem nI_cl {i : Nat} {k : Int32} (ek : k = nI i) (hi : i < 2 ^ 31) : k.toNatClampNeg = i := by
  rw [ek]
  exact nI_clamp hi

theorem lp_lt {N i : Nat} {k : Int32} (ek : k = nI i) (hi : i ≤ N) (hN : N < 2 ^ 31) (h : ¬ nI N ≤ k) : i < N := by
  rcases Nat.lt_or_ge i N with h1 | h1
  · exact h1
  · exact absurd (by rw [ek]; exact nI_le h1 (by omega)) h
theorem lp_in {N i : Nat} {k : Int32} (ek : k = nI i) (hi : i ≤ N) (hN : N < 2 ^ 31) (h : ¬ nI N ≤ k) : vp_in k N := by
  have h1 := lp_lt ek hi hN h
  rw [ek]
  exact vp_in_nI h1 hN
theorem lp_ge {N i j : Nat} {k : Int32} (ek : k = nI i) (hi : i ≤ N) (hN : N < 2 ^ 31) (h : nI N ≤ k) (hj : j < N) : j < i := by
  rcases Nat.lt_or_ge i N with h1 | h1
  · exact absurd h (by rw [ek]; exact nI_ge h1 hN)
  · omega

/-! the answers of the first call on a fresh object -/
def an_piece (k f v s n : Int32) : Int32 := if k < 0 ∨ 3 < k ∨ f < 0 ∨ 5 < f ∨ s < 0 ∨ 2 < s then -1 else if v < 1 ∨ 200 < v ∨ n < 1 ∨ 9 < n then -2 else 0
def an_form (s n : Int32) : Int32 := if s < 0 ∨ 2 < s then -1 else if n < 0 ∨ 50 < n then -2 else 10
def an_gang (n : Int32) : Int32 := if n < 1 ∨ 1000 < n then -2 else 100
def an_level (w v : Int32) : Int32 := if w < 0 ∨ 1 < w then -1 else if v < 0 ∨ 1000 < v then -2 else if w = 0 then 500 else 300
def an_warm (d w : Int32) : Int32 := if d < 0 ∨ 39 < d then -2147483648 else if w < -30 ∨ 50 < w then -2147483647 else 20
def an_base (b : Int32) : Int32 := if b < 0 ∨ 20 < b then -2 else 0
def an_point (d t : Int32) : Int32 := if d < 1 ∨ 2000 < d ∨ t < 0 ∨ 1000 < t then -2 else 1
def an_table (d : Int32) : Int32 := if d < 0 then -2 else 0
def an_now (d : Int32) : Int32 := if d < 0 ∨ 39 < d then -1 else 0
def an_free (s d : Int32) : Int32 := if s < 0 ∨ 2 < s ∨ d < 0 ∨ 39 < d then -1 else 10
def an_poured (d : Int32) : Int32 := if d < 0 ∨ 39 < d then -1 else 0
def an_count (w : Int32) : Int32 := if w = 4 then 100 else if w < 0 ∨ 6 < w then -1 else 0
theorem cl_lt {x : Int32} {n : Nat} (h : vp_in x n) : x.toNatClampNeg < n := Nat.not_le.mp fun q => h (Or.inr q)

def bDay (d : Int32) : Int32 := if d < 0 ∨ 40 ≤ d then 0 else 1
end
section
set_option maxRecDepth 20000 in
theorem ggX0_init_X0_renew : GoodIn wsX0_init wsX0_renew := goodIn_r _ [17, 9, 5, 11, 18, 19, 20, 21, 6, 10, 22, 23, 24, 16, 25, 26, 27, 28, 29, 12, 7, 8, 30, 31, 32, 33, 34, 35, 36, 37] (by decide +kernel) (by decide +kernel)
set_option maxRecDepth 20000 in
theorem gX0_init_X0_renew : GoodIn wsX0_init (wsV RX0 37 RX0 yX0_renew wsX0_renew) := goodIn_app (goodIn_of _ (by decide +kernel)) ggX0_init_X0_renew
theorem dX0_init_0 : decode cX0_init 0 = .ok (.aload_n 0, 1) := by decide +kernel
theorem dX0_init_1 : decode cX0_init 1 = .ok (.invokespecial 3, 3) := by decide +kernel
theorem dX0_init_4 : decode cX0_init 4 = .ok (.aload_n 0, 1) := by decide +kernel
theorem dX0_init_5 : decode cX0_init 5 = .ok (.bipush 40, 2) := by decide +kernel
theorem dX0_init_7 : decode cX0_init 7 = .ok (.newarray .int, 2) := by decide +kernel
theorem dX0_init_9 : decode cX0_init 9 = .ok (.putfield 9, 3) := by decide +kernel
theorem dX0_init_12 : decode cX0_init 12 = .ok (.aload_n 0, 1) := by decide +kernel
theorem dX0_init_13 : decode cX0_init 13 = .ok (.iconst 2, 1) := by decide +kernel
theorem dX0_init_14 : decode cX0_init 14 = .ok (.newarray .int, 2) := by decide +kernel
theorem dX0_init_16 : decode cX0_init 16 = .ok (.dup, 1) := by decide +kernel
theorem dX0_init_17 : decode cX0_init 17 = .ok (.iconst 0, 1) := by decide +kernel
theorem dX0_init_18 : decode cX0_init 18 = .ok (.sipush 500, 3) := by decide +kernel
theorem dX0_init_21 : decode cX0_init 21 = .ok (.iastore, 1) := by decide +kernel
theorem dX0_init_22 : decode cX0_init 22 = .ok (.dup, 1) := by decide +kernel
theorem dX0_init_23 : decode cX0_init 23 = .ok (.iconst 1, 1) := by decide +kernel
theorem dX0_init_24 : decode cX0_init 24 = .ok (.sipush 300, 3) := by decide +kernel
theorem dX0_init_27 : decode cX0_init 27 = .ok (.iastore, 1) := by decide +kernel
theorem dX0_init_28 : decode cX0_init 28 = .ok (.putfield 15, 3) := by decide +kernel
theorem dX0_init_31 : decode cX0_init 31 = .ok (.aload_n 0, 1) := by decide +kernel
theorem dX0_init_32 : decode cX0_init 32 = .ok (.bipush 6, 2) := by decide +kernel
theorem dX0_init_34 : decode cX0_init 34 = .ok (.newarray .int, 2) := by decide +kernel
theorem dX0_init_36 : decode cX0_init 36 = .ok (.putfield 18, 3) := by decide +kernel
theorem dX0_init_39 : decode cX0_init 39 = .ok (.aload_n 0, 1) := by decide +kernel
theorem dX0_init_40 : decode cX0_init 40 = .ok (.bipush 6, 2) := by decide +kernel
theorem dX0_init_42 : decode cX0_init 42 = .ok (.newarray .int, 2) := by decide +kernel
theorem dX0_init_44 : decode cX0_init 44 = .ok (.putfield 21, 3) := by decide +kernel
theorem dX0_init_47 : decode cX0_init 47 = .ok (.aload_n 0, 1) := by decide +kernel
theorem dX0_init_48 : decode cX0_init 48 = .ok (.bipush 40, 2) := by decide +kernel
theorem dX0_init_50 : decode cX0_init 50 = .ok (.newarray .int, 2) := by decide +kernel
theorem dX0_init_52 : decode cX0_init 52 = .ok (.putfield 24, 3) := by decide +kernel
theorem dX0_init_55 : decode cX0_init 55 = .ok (.aload_n 0, 1) := by decide +kernel
theorem dX0_init_56 : decode cX0_init 56 = .ok (.bipush 40, 2) := by decide +kernel
theorem dX0_init_58 : decode cX0_init 58 = .ok (.newarray .int, 2) := by decide +kernel
theorem dX0_init_60 : decode cX0_init 60 = .ok (.putfield 27, 3) := by decide +kernel
theorem dX0_init_63 : decode cX0_init 63 = .ok (.aload_n 0, 1) := by decide +kernel
theorem dX0_init_64 : decode cX0_init 64 = .ok (.iconst 0, 1) := by decide +kernel
theorem dX0_init_65 : decode cX0_init 65 = .ok (.putfield 30, 3) := by decide +kernel
theorem dX0_init_68 : decode cX0_init 68 = .ok (.aload_n 0, 1) := by decide +kernel
theorem dX0_init_69 : decode cX0_init 69 = .ok (.iconst 0, 1) := by decide +kernel
theorem dX0_init_70 : decode cX0_init 70 = .ok (.putfield 34, 3) := by decide +kernel
theorem dX0_init_73 : decode cX0_init 73 = .ok (.iconst 0, 1) := by decide +kernel
theorem dX0_init_74 : decode cX0_init 74 = .ok (.istore_n 1, 1) := by decide +kernel
theorem dX0_init_75 : decode cX0_init 75 = .ok (.iload_n 1, 1) := by decide +kernel
theorem dX0_init_76 : decode cX0_init 76 = .ok (.bipush 40, 2) := by decide +kernel
theorem dX0_init_78 : decode cX0_init 78 = .ok (.if_icmp .ge 17, 3) := by decide +kernel
theorem dX0_init_81 : decode cX0_init 81 = .ok (.aload_n 0, 1) := by decide +kernel
theorem dX0_init_82 : decode cX0_init 82 = .ok (.getfield 9, 3) := by decide +kernel
theorem dX0_init_85 : decode cX0_init 85 = .ok (.iload_n 1, 1) := by decide +kernel
theorem dX0_init_86 : decode cX0_init 86 = .ok (.bipush 20, 2) := by decide +kernel
theorem dX0_init_88 : decode cX0_init 88 = .ok (.iastore, 1) := by decide +kernel
theorem dX0_init_89 : decode cX0_init 89 = .ok (.iinc 1 1, 3) := by decide +kernel
theorem dX0_init_92 : decode cX0_init 92 = .ok (.goto (-17), 3) := by decide +kernel
theorem dX0_init_95 : decode cX0_init 95 = .ok (.aload_n 0, 1) := by decide +kernel
theorem dX0_init_96 : decode cX0_init 96 = .ok (.invokevirtual 37, 3) := by decide +kernel
theorem dX0_init_99 : decode cX0_init 99 = .ok (.return_, 1) := by decide +kernel
theorem dX0_goesOnWith_0 : decode cX0_goesOnWith 0 = .ok (.aload_n 0, 1) := by decide +kernel
theorem dX0_goesOnWith_1 : decode cX0_goesOnWith 1 = .ok (.getfield 34, 3) := by decide +kernel
theorem dX0_goesOnWith_4 : decode cX0_goesOnWith 4 = .ok (.iconst 1, 1) := by decide +kernel
theorem dX0_goesOnWith_5 : decode cX0_goesOnWith 5 = .ok (.isub, 1) := by decide +kernel
theorem dX0_goesOnWith_6 : decode cX0_goesOnWith 6 = .ok (.istore_n 3, 1) := by decide +kernel
theorem dX0_goesOnWith_7 : decode cX0_goesOnWith 7 = .ok (.iload_n 3, 1) := by decide +kernel
theorem dX0_goesOnWith_8 : decode cX0_goesOnWith 8 = .ok (.ifCond .lt 29, 3) := by decide +kernel
theorem dX0_goesOnWith_11 : decode cX0_goesOnWith 11 = .ok (.iload_n 3, 1) := by decide +kernel
theorem dX0_goesOnWith_12 : decode cX0_goesOnWith 12 = .ok (.bipush 6, 2) := by decide +kernel
theorem dX0_goesOnWith_14 : decode cX0_goesOnWith 14 = .ok (.if_icmp .ge 23, 3) := by decide +kernel
theorem dX0_goesOnWith_17 : decode cX0_goesOnWith 17 = .ok (.iload_n 1, 1) := by decide +kernel
theorem dX0_goesOnWith_18 : decode cX0_goesOnWith 18 = .ok (.aload_n 0, 1) := by decide +kernel
theorem dX0_goesOnWith_19 : decode cX0_goesOnWith 19 = .ok (.getfield 18, 3) := by decide +kernel
theorem dX0_goesOnWith_22 : decode cX0_goesOnWith 22 = .ok (.iload_n 3, 1) := by decide +kernel
theorem dX0_goesOnWith_23 : decode cX0_goesOnWith 23 = .ok (.iaload, 1) := by decide +kernel
theorem dX0_goesOnWith_24 : decode cX0_goesOnWith 24 = .ok (.if_icmp .le 17, 3) := by decide +kernel
theorem dX0_goesOnWith_27 : decode cX0_goesOnWith 27 = .ok (.iload_n 2, 1) := by decide +kernel
theorem dX0_goesOnWith_28 : decode cX0_goesOnWith 28 = .ok (.aload_n 0, 1) := by decide +kernel
theorem dX0_goesOnWith_29 : decode cX0_goesOnWith 29 = .ok (.getfield 21, 3) := by decide +kernel
theorem dX0_goesOnWith_32 : decode cX0_goesOnWith 32 = .ok (.iload_n 3, 1) := by decide +kernel
theorem dX0_goesOnWith_33 : decode cX0_goesOnWith 33 = .ok (.iaload, 1) := by decide +kernel
theorem dX0_goesOnWith_34 : decode cX0_goesOnWith 34 = .ok (.if_icmp .lt 7, 3) := by decide +kernel
theorem dX0_goesOnWith_37 : decode cX0_goesOnWith 37 = .ok (.iconst 1, 1) := by decide +kernel
theorem dX0_goesOnWith_38 : decode cX0_goesOnWith 38 = .ok (.goto 4, 3) := by decide +kernel
theorem dX0_goesOnWith_41 : decode cX0_goesOnWith 41 = .ok (.iconst 0, 1) := by decide +kernel
theorem dX0_goesOnWith_42 : decode cX0_goesOnWith 42 = .ok (.ireturn, 1) := by decide +kernel
theorem dX0_addPoint_0 : decode cX0_addPoint 0 = .ok (.aload_n 0, 1) := by decide +kernel
theorem dX0_addPoint_1 : decode cX0_addPoint 1 = .ok (.getfield 34, 3) := by decide +kernel
theorem dX0_addPoint_4 : decode cX0_addPoint 4 = .ok (.bipush 6, 2) := by decide +kernel
theorem dX0_addPoint_6 : decode cX0_addPoint 6 = .ok (.if_icmp .ge 33, 3) := by decide +kernel
theorem dX0_addPoint_9 : decode cX0_addPoint 9 = .ok (.aload_n 0, 1) := by decide +kernel
theorem dX0_addPoint_10 : decode cX0_addPoint 10 = .ok (.getfield 18, 3) := by decide +kernel
theorem dX0_addPoint_13 : decode cX0_addPoint 13 = .ok (.aload_n 0, 1) := by decide +kernel
theorem dX0_addPoint_14 : decode cX0_addPoint 14 = .ok (.getfield 34, 3) := by decide +kernel
theorem dX0_addPoint_17 : decode cX0_addPoint 17 = .ok (.iload_n 1, 1) := by decide +kernel
theorem dX0_addPoint_18 : decode cX0_addPoint 18 = .ok (.iastore, 1) := by decide +kernel
theorem dX0_addPoint_19 : decode cX0_addPoint 19 = .ok (.aload_n 0, 1) := by decide +kernel
theorem dX0_addPoint_20 : decode cX0_addPoint 20 = .ok (.getfield 21, 3) := by decide +kernel
theorem dX0_addPoint_23 : decode cX0_addPoint 23 = .ok (.aload_n 0, 1) := by decide +kernel
theorem dX0_addPoint_24 : decode cX0_addPoint 24 = .ok (.getfield 34, 3) := by decide +kernel
theorem dX0_addPoint_27 : decode cX0_addPoint 27 = .ok (.iload_n 2, 1) := by decide +kernel
theorem dX0_addPoint_28 : decode cX0_addPoint 28 = .ok (.iastore, 1) := by decide +kernel
theorem dX0_addPoint_29 : decode cX0_addPoint 29 = .ok (.aload_n 0, 1) := by decide +kernel
theorem dX0_addPoint_30 : decode cX0_addPoint 30 = .ok (.dup, 1) := by decide +kernel
theorem dX0_addPoint_31 : decode cX0_addPoint 31 = .ok (.getfield 34, 3) := by decide +kernel
theorem dX0_addPoint_34 : decode cX0_addPoint 34 = .ok (.iconst 1, 1) := by decide +kernel
theorem dX0_addPoint_35 : decode cX0_addPoint 35 = .ok (.iadd, 1) := by decide +kernel
theorem dX0_addPoint_36 : decode cX0_addPoint 36 = .ok (.putfield 34, 3) := by decide +kernel
theorem dX0_addPoint_39 : decode cX0_addPoint 39 = .ok (.return_, 1) := by decide +kernel
theorem dX0_hardnessOf_0 : decode cX0_hardnessOf 0 = .ok (.iconst 0, 1) := by decide +kernel
theorem dX0_hardnessOf_1 : decode cX0_hardnessOf 1 = .ok (.istore_n 2, 1) := by decide +kernel
theorem dX0_hardnessOf_2 : decode cX0_hardnessOf 2 = .ok (.iconst 0, 1) := by decide +kernel
theorem dX0_hardnessOf_3 : decode cX0_hardnessOf 3 = .ok (.istore_n 3, 1) := by decide +kernel
theorem dX0_hardnessOf_4 : decode cX0_hardnessOf 4 = .ok (.iconst 0, 1) := by decide +kernel
theorem dX0_hardnessOf_5 : decode cX0_hardnessOf 5 = .ok (.istore 4, 2) := by decide +kernel
theorem dX0_hardnessOf_7 : decode cX0_hardnessOf 7 = .ok (.iload 4, 2) := by decide +kernel
theorem dX0_hardnessOf_9 : decode cX0_hardnessOf 9 = .ok (.aload_n 0, 1) := by decide +kernel
theorem dX0_hardnessOf_10 : decode cX0_hardnessOf 10 = .ok (.getfield 34, 3) := by decide +kernel
theorem dX0_hardnessOf_13 : decode cX0_hardnessOf 13 = .ok (.if_icmp .ge 82, 3) := by decide +kernel
theorem dX0_hardnessOf_16 : decode cX0_hardnessOf 16 = .ok (.iload 4, 2) := by decide +kernel
theorem dX0_hardnessOf_18 : decode cX0_hardnessOf 18 = .ok (.bipush 6, 2) := by decide +kernel
theorem dX0_hardnessOf_20 : decode cX0_hardnessOf 20 = .ok (.if_icmp .ge 75, 3) := by decide +kernel
theorem dX0_hardnessOf_23 : decode cX0_hardnessOf 23 = .ok (.aload_n 0, 1) := by decide +kernel
theorem dX0_hardnessOf_24 : decode cX0_hardnessOf 24 = .ok (.getfield 18, 3) := by decide +kernel
theorem dX0_hardnessOf_27 : decode cX0_hardnessOf 27 = .ok (.iload 4, 2) := by decide +kernel
theorem dX0_hardnessOf_29 : decode cX0_hardnessOf 29 = .ok (.iaload, 1) := by decide +kernel
theorem dX0_hardnessOf_30 : decode cX0_hardnessOf 30 = .ok (.iload_n 2, 1) := by decide +kernel
theorem dX0_hardnessOf_31 : decode cX0_hardnessOf 31 = .ok (.isub, 1) := by decide +kernel
theorem dX0_hardnessOf_32 : decode cX0_hardnessOf 32 = .ok (.istore 5, 2) := by decide +kernel
theorem dX0_hardnessOf_34 : decode cX0_hardnessOf 34 = .ok (.iload_n 1, 1) := by decide +kernel
theorem dX0_hardnessOf_35 : decode cX0_hardnessOf 35 = .ok (.aload_n 0, 1) := by decide +kernel
theorem dX0_hardnessOf_36 : decode cX0_hardnessOf 36 = .ok (.getfield 18, 3) := by decide +kernel
theorem dX0_hardnessOf_39 : decode cX0_hardnessOf 39 = .ok (.iload 4, 2) := by decide +kernel
theorem dX0_hardnessOf_41 : decode cX0_hardnessOf 41 = .ok (.iaload, 1) := by decide +kernel
theorem dX0_hardnessOf_42 : decode cX0_hardnessOf 42 = .ok (.if_icmp .ge 31, 3) := by decide +kernel
theorem dX0_hardnessOf_45 : decode cX0_hardnessOf 45 = .ok (.iload 5, 2) := by decide +kernel
theorem dX0_hardnessOf_47 : decode cX0_hardnessOf 47 = .ok (.ifCond .le 26, 3) := by decide +kernel
theorem dX0_hardnessOf_50 : decode cX0_hardnessOf 50 = .ok (.aload_n 0, 1) := by decide +kernel
theorem dX0_hardnessOf_51 : decode cX0_hardnessOf 51 = .ok (.getfield 21, 3) := by decide +kernel
theorem dX0_hardnessOf_54 : decode cX0_hardnessOf 54 = .ok (.iload 4, 2) := by decide +kernel
theorem dX0_hardnessOf_56 : decode cX0_hardnessOf 56 = .ok (.iaload, 1) := by decide +kernel
theorem dX0_hardnessOf_57 : decode cX0_hardnessOf 57 = .ok (.iload_n 3, 1) := by decide +kernel
theorem dX0_hardnessOf_58 : decode cX0_hardnessOf 58 = .ok (.isub, 1) := by decide +kernel
theorem dX0_hardnessOf_59 : decode cX0_hardnessOf 59 = .ok (.istore 6, 2) := by decide +kernel
theorem dX0_hardnessOf_61 : decode cX0_hardnessOf 61 = .ok (.iload_n 3, 1) := by decide +kernel
theorem dX0_hardnessOf_62 : decode cX0_hardnessOf 62 = .ok (.iload 6, 2) := by decide +kernel
theorem dX0_hardnessOf_64 : decode cX0_hardnessOf 64 = .ok (.iload_n 1, 1) := by decide +kernel
theorem dX0_hardnessOf_65 : decode cX0_hardnessOf 65 = .ok (.iload_n 2, 1) := by decide +kernel
theorem dX0_hardnessOf_66 : decode cX0_hardnessOf 66 = .ok (.isub, 1) := by decide +kernel
theorem dX0_hardnessOf_67 : decode cX0_hardnessOf 67 = .ok (.imul, 1) := by decide +kernel
theorem dX0_hardnessOf_68 : decode cX0_hardnessOf 68 = .ok (.iload 5, 2) := by decide +kernel
theorem dX0_hardnessOf_70 : decode cX0_hardnessOf 70 = .ok (.idiv, 1) := by decide +kernel
theorem dX0_hardnessOf_71 : decode cX0_hardnessOf 71 = .ok (.iadd, 1) := by decide +kernel
theorem dX0_hardnessOf_72 : decode cX0_hardnessOf 72 = .ok (.ireturn, 1) := by decide +kernel
theorem dX0_hardnessOf_73 : decode cX0_hardnessOf 73 = .ok (.aload_n 0, 1) := by decide +kernel
theorem dX0_hardnessOf_74 : decode cX0_hardnessOf 74 = .ok (.getfield 18, 3) := by decide +kernel
theorem dX0_hardnessOf_77 : decode cX0_hardnessOf 77 = .ok (.iload 4, 2) := by decide +kernel
theorem dX0_hardnessOf_79 : decode cX0_hardnessOf 79 = .ok (.iaload, 1) := by decide +kernel
theorem dX0_hardnessOf_80 : decode cX0_hardnessOf 80 = .ok (.istore_n 2, 1) := by decide +kernel
theorem dX0_hardnessOf_81 : decode cX0_hardnessOf 81 = .ok (.aload_n 0, 1) := by decide +kernel
theorem dX0_hardnessOf_82 : decode cX0_hardnessOf 82 = .ok (.getfield 21, 3) := by decide +kernel
theorem dX0_hardnessOf_85 : decode cX0_hardnessOf 85 = .ok (.iload 4, 2) := by decide +kernel
theorem dX0_hardnessOf_87 : decode cX0_hardnessOf 87 = .ok (.iaload, 1) := by decide +kernel
theorem dX0_hardnessOf_88 : decode cX0_hardnessOf 88 = .ok (.istore_n 3, 1) := by decide +kernel
theorem dX0_hardnessOf_89 : decode cX0_hardnessOf 89 = .ok (.iinc 4 1, 3) := by decide +kernel
theorem dX0_hardnessOf_92 : decode cX0_hardnessOf 92 = .ok (.goto (-85), 3) := by decide +kernel
theorem dX0_hardnessOf_95 : decode cX0_hardnessOf 95 = .ok (.iload_n 3, 1) := by decide +kernel
theorem dX0_hardnessOf_96 : decode cX0_hardnessOf 96 = .ok (.ireturn, 1) := by decide +kernel
set_option maxRecDepth 20000 in
theorem ggX0_hardnessOn_X0_hardnessOf : GoodIn wsX0_hardnessOn wsX0_hardnessOf := goodIn_r _ [6, 7, 8, 9, 10, 11, 12, 13, 14, 15, 16, 17] (by decide +kernel) (by decide +kernel)
set_option maxRecDepth 20000 in
theorem gX0_hardnessOn_X0_hardnessOf : GoodIn wsX0_hardnessOn (wsV RX0 40 RX0 yX0_hardnessOf wsX0_hardnessOf) := goodIn_app (goodIn_of _ (by decide +kernel)) ggX0_hardnessOn_X0_hardnessOf
theorem dX0_hardnessOn_0 : decode cX0_hardnessOn 0 = .ok (.iload_n 1, 1) := by decide +kernel
theorem dX0_hardnessOn_1 : decode cX0_hardnessOn 1 = .ok (.ifCond .lt 14, 3) := by decide +kernel
theorem dX0_hardnessOn_4 : decode cX0_hardnessOn 4 = .ok (.iload_n 2, 1) := by decide +kernel
theorem dX0_hardnessOn_5 : decode cX0_hardnessOn 5 = .ok (.iload_n 1, 1) := by decide +kernel
theorem dX0_hardnessOn_6 : decode cX0_hardnessOn 6 = .ok (.if_icmp .lt 9, 3) := by decide +kernel
theorem dX0_hardnessOn_9 : decode cX0_hardnessOn 9 = .ok (.iload_n 2, 1) := by decide +kernel
theorem dX0_hardnessOn_10 : decode cX0_hardnessOn 10 = .ok (.bipush 40, 2) := by decide +kernel
theorem dX0_hardnessOn_12 : decode cX0_hardnessOn 12 = .ok (.if_icmp .lt 5, 3) := by decide +kernel
theorem dX0_hardnessOn_15 : decode cX0_hardnessOn 15 = .ok (.iconst (-1), 1) := by decide +kernel
theorem dX0_hardnessOn_16 : decode cX0_hardnessOn 16 = .ok (.ireturn, 1) := by decide +kernel
theorem dX0_hardnessOn_17 : decode cX0_hardnessOn 17 = .ok (.aload_n 0, 1) := by decide +kernel
theorem dX0_hardnessOn_18 : decode cX0_hardnessOn 18 = .ok (.aload_n 0, 1) := by decide +kernel
theorem dX0_hardnessOn_19 : decode cX0_hardnessOn 19 = .ok (.getfield 24, 3) := by decide +kernel
theorem dX0_hardnessOn_22 : decode cX0_hardnessOn 22 = .ok (.iload_n 2, 1) := by decide +kernel
theorem dX0_hardnessOn_23 : decode cX0_hardnessOn 23 = .ok (.iaload, 1) := by decide +kernel
theorem dX0_hardnessOn_24 : decode cX0_hardnessOn 24 = .ok (.aload_n 0, 1) := by decide +kernel
theorem dX0_hardnessOn_25 : decode cX0_hardnessOn 25 = .ok (.getfield 24, 3) := by decide +kernel
theorem dX0_hardnessOn_28 : decode cX0_hardnessOn 28 = .ok (.iload_n 1, 1) := by decide +kernel
theorem dX0_hardnessOn_29 : decode cX0_hardnessOn 29 = .ok (.iaload, 1) := by decide +kernel
theorem dX0_hardnessOn_30 : decode cX0_hardnessOn 30 = .ok (.isub, 1) := by decide +kernel
theorem dX0_hardnessOn_31 : decode cX0_hardnessOn 31 = .ok (.invokevirtual 40, 3) := by decide +kernel
theorem dX0_hardnessOn_34 : decode cX0_hardnessOn 34 = .ok (.ireturn, 1) := by decide +kernel
theorem dX0_stripDayFor_0 : decode cX0_stripDayFor 0 = .ok (.iload_n 1, 1) := by decide +kernel
theorem dX0_stripDayFor_1 : decode cX0_stripDayFor 1 = .ok (.ifCond .lt 18, 3) := by decide +kernel
theorem dX0_stripDayFor_4 : decode cX0_stripDayFor 4 = .ok (.iload_n 1, 1) := by decide +kernel
theorem dX0_stripDayFor_5 : decode cX0_stripDayFor 5 = .ok (.bipush 40, 2) := by decide +kernel
theorem dX0_stripDayFor_7 : decode cX0_stripDayFor 7 = .ok (.if_icmp .ge 12, 3) := by decide +kernel
theorem dX0_stripDayFor_10 : decode cX0_stripDayFor 10 = .ok (.aload_n 0, 1) := by decide +kernel
theorem dX0_stripDayFor_11 : decode cX0_stripDayFor 11 = .ok (.getfield 27, 3) := by decide +kernel
theorem dX0_stripDayFor_14 : decode cX0_stripDayFor 14 = .ok (.iload_n 1, 1) := by decide +kernel
theorem dX0_stripDayFor_15 : decode cX0_stripDayFor 15 = .ok (.iaload, 1) := by decide +kernel
theorem dX0_stripDayFor_16 : decode cX0_stripDayFor 16 = .ok (.goto 5, 3) := by decide +kernel
theorem dX0_stripDayFor_19 : decode cX0_stripDayFor 19 = .ok (.bipush 40, 2) := by decide +kernel
theorem dX0_stripDayFor_21 : decode cX0_stripDayFor 21 = .ok (.ireturn, 1) := by decide +kernel
set_option maxRecDepth 20000 in
theorem ggX0_renew_X0_hardnessOn : GoodIn wsX0_renew wsX0_hardnessOn := goodIn_r _ [14, 1, 15, 16, 17, 13, 18, 19, 20, 21, 22, 23, 24, 25, 26, 27, 28, 29] (by decide +kernel) (by decide +kernel)
set_option maxRecDepth 20000 in
theorem gX0_renew_X0_hardnessOn : GoodIn wsX0_renew (wsV RX0 50 RX0 yX0_hardnessOn wsX0_hardnessOn) := goodIn_app (goodIn_of _ (by decide +kernel)) ggX0_renew_X0_hardnessOn
theorem dX0_renew_0 : decode cX0_renew 0 = .ok (.iconst 1, 1) := by decide +kernel
theorem dX0_renew_1 : decode cX0_renew 1 = .ok (.istore_n 1, 1) := by decide +kernel
theorem dX0_renew_2 : decode cX0_renew 2 = .ok (.iload_n 1, 1) := by decide +kernel
theorem dX0_renew_3 : decode cX0_renew 3 = .ok (.bipush 40, 2) := by decide +kernel
theorem dX0_renew_5 : decode cX0_renew 5 = .ok (.if_icmp .ge 41, 3) := by decide +kernel
theorem dX0_renew_8 : decode cX0_renew 8 = .ok (.aload_n 0, 1) := by decide +kernel
theorem dX0_renew_9 : decode cX0_renew 9 = .ok (.getfield 24, 3) := by decide +kernel
theorem dX0_renew_12 : decode cX0_renew 12 = .ok (.iload_n 1, 1) := by decide +kernel
theorem dX0_renew_13 : decode cX0_renew 13 = .ok (.aload_n 0, 1) := by decide +kernel
theorem dX0_renew_14 : decode cX0_renew 14 = .ok (.getfield 24, 3) := by decide +kernel
theorem dX0_renew_17 : decode cX0_renew 17 = .ok (.iload_n 1, 1) := by decide +kernel
theorem dX0_renew_18 : decode cX0_renew 18 = .ok (.iconst 1, 1) := by decide +kernel
theorem dX0_renew_19 : decode cX0_renew 19 = .ok (.isub, 1) := by decide +kernel
theorem dX0_renew_20 : decode cX0_renew 20 = .ok (.iaload, 1) := by decide +kernel
theorem dX0_renew_21 : decode cX0_renew 21 = .ok (.iconst 0, 1) := by decide +kernel
theorem dX0_renew_22 : decode cX0_renew 22 = .ok (.aload_n 0, 1) := by decide +kernel
theorem dX0_renew_23 : decode cX0_renew 23 = .ok (.getfield 9, 3) := by decide +kernel
theorem dX0_renew_26 : decode cX0_renew 26 = .ok (.iload_n 1, 1) := by decide +kernel
theorem dX0_renew_27 : decode cX0_renew 27 = .ok (.iconst 1, 1) := by decide +kernel
theorem dX0_renew_28 : decode cX0_renew 28 = .ok (.isub, 1) := by decide +kernel
theorem dX0_renew_29 : decode cX0_renew 29 = .ok (.iaload, 1) := by decide +kernel
theorem dX0_renew_30 : decode cX0_renew 30 = .ok (.aload_n 0, 1) := by decide +kernel
theorem dX0_renew_31 : decode cX0_renew 31 = .ok (.getfield 30, 3) := by decide +kernel
theorem dX0_renew_34 : decode cX0_renew 34 = .ok (.isub, 1) := by decide +kernel
theorem dX0_renew_35 : decode cX0_renew 35 = .ok (.invokestatic 44, 3) := by decide +kernel
theorem dX0_renew_38 : decode cX0_renew 38 = .ok (.iadd, 1) := by decide +kernel
theorem dX0_renew_39 : decode cX0_renew 39 = .ok (.iastore, 1) := by decide +kernel
theorem dX0_renew_40 : decode cX0_renew 40 = .ok (.iinc 1 1, 3) := by decide +kernel
theorem dX0_renew_43 : decode cX0_renew 43 = .ok (.goto (-41), 3) := by decide +kernel
theorem dX0_renew_46 : decode cX0_renew 46 = .ok (.iconst 0, 1) := by decide +kernel
theorem dX0_renew_47 : decode cX0_renew 47 = .ok (.istore_n 1, 1) := by decide +kernel
theorem dX0_renew_48 : decode cX0_renew 48 = .ok (.iconst 0, 1) := by decide +kernel
theorem dX0_renew_49 : decode cX0_renew 49 = .ok (.istore_n 2, 1) := by decide +kernel
theorem dX0_renew_50 : decode cX0_renew 50 = .ok (.iload_n 2, 1) := by decide +kernel
theorem dX0_renew_51 : decode cX0_renew 51 = .ok (.bipush 40, 2) := by decide +kernel
theorem dX0_renew_53 : decode cX0_renew 53 = .ok (.if_icmp .ge 51, 3) := by decide +kernel
theorem dX0_renew_56 : decode cX0_renew 56 = .ok (.iload_n 1, 1) := by decide +kernel
theorem dX0_renew_57 : decode cX0_renew 57 = .ok (.iload_n 2, 1) := by decide +kernel
theorem dX0_renew_58 : decode cX0_renew 58 = .ok (.iconst 1, 1) := by decide +kernel
theorem dX0_renew_59 : decode cX0_renew 59 = .ok (.iadd, 1) := by decide +kernel
theorem dX0_renew_60 : decode cX0_renew 60 = .ok (.invokestatic 44, 3) := by decide +kernel
theorem dX0_renew_63 : decode cX0_renew 63 = .ok (.istore_n 1, 1) := by decide +kernel
theorem dX0_renew_64 : decode cX0_renew 64 = .ok (.iload_n 1, 1) := by decide +kernel
theorem dX0_renew_65 : decode cX0_renew 65 = .ok (.bipush 40, 2) := by decide +kernel
theorem dX0_renew_67 : decode cX0_renew 67 = .ok (.if_icmp .ge 24, 3) := by decide +kernel
theorem dX0_renew_70 : decode cX0_renew 70 = .ok (.aload_n 0, 1) := by decide +kernel
theorem dX0_renew_71 : decode cX0_renew 71 = .ok (.iload_n 2, 1) := by decide +kernel
theorem dX0_renew_72 : decode cX0_renew 72 = .ok (.iload_n 1, 1) := by decide +kernel
theorem dX0_renew_73 : decode cX0_renew 73 = .ok (.invokevirtual 50, 3) := by decide +kernel
theorem dX0_renew_76 : decode cX0_renew 76 = .ok (.aload_n 0, 1) := by decide +kernel
theorem dX0_renew_77 : decode cX0_renew 77 = .ok (.getfield 15, 3) := by decide +kernel
theorem dX0_renew_80 : decode cX0_renew 80 = .ok (.iconst 0, 1) := by decide +kernel
theorem dX0_renew_81 : decode cX0_renew 81 = .ok (.iaload, 1) := by decide +kernel
theorem dX0_renew_82 : decode cX0_renew 82 = .ok (.if_icmp .ge 9, 3) := by decide +kernel
theorem dX0_renew_85 : decode cX0_renew 85 = .ok (.iinc 1 1, 3) := by decide +kernel
theorem dX0_renew_88 : decode cX0_renew 88 = .ok (.goto (-24), 3) := by decide +kernel
theorem dX0_renew_91 : decode cX0_renew 91 = .ok (.aload_n 0, 1) := by decide +kernel
theorem dX0_renew_92 : decode cX0_renew 92 = .ok (.getfield 27, 3) := by decide +kernel
theorem dX0_renew_95 : decode cX0_renew 95 = .ok (.iload_n 2, 1) := by decide +kernel
theorem dX0_renew_96 : decode cX0_renew 96 = .ok (.iload_n 1, 1) := by decide +kernel
theorem dX0_renew_97 : decode cX0_renew 97 = .ok (.iastore, 1) := by decide +kernel
theorem dX0_renew_98 : decode cX0_renew 98 = .ok (.iinc 2 1, 3) := by decide +kernel
theorem dX0_renew_101 : decode cX0_renew 101 = .ok (.goto (-51), 3) := by decide +kernel
theorem dX0_renew_104 : decode cX0_renew 104 = .ok (.return_, 1) := by decide +kernel
theorem dX1_init_0 : decode cX1_init 0 = .ok (.aload_n 0, 1) := by decide +kernel
theorem dX1_init_1 : decode cX1_init 1 = .ok (.invokespecial 3, 3) := by decide +kernel
theorem dX1_init_4 : decode cX1_init 4 = .ok (.aload_n 0, 1) := by decide +kernel
theorem dX1_init_5 : decode cX1_init 5 = .ok (.bipush 10, 2) := by decide +kernel
theorem dX1_init_7 : decode cX1_init 7 = .ok (.newarray .int, 2) := by decide +kernel
theorem dX1_init_9 : decode cX1_init 9 = .ok (.putfield 9, 3) := by decide +kernel
theorem dX1_init_12 : decode cX1_init 12 = .ok (.aload_n 0, 1) := by decide +kernel
theorem dX1_init_13 : decode cX1_init 13 = .ok (.bipush 10, 2) := by decide +kernel
theorem dX1_init_15 : decode cX1_init 15 = .ok (.newarray .int, 2) := by decide +kernel
theorem dX1_init_17 : decode cX1_init 17 = .ok (.putfield 15, 3) := by decide +kernel
theorem dX1_init_20 : decode cX1_init 20 = .ok (.aload_n 0, 1) := by decide +kernel
theorem dX1_init_21 : decode cX1_init 21 = .ok (.bipush 10, 2) := by decide +kernel
theorem dX1_init_23 : decode cX1_init 23 = .ok (.newarray .int, 2) := by decide +kernel
theorem dX1_init_25 : decode cX1_init 25 = .ok (.putfield 18, 3) := by decide +kernel
theorem dX1_init_28 : decode cX1_init 28 = .ok (.aload_n 0, 1) := by decide +kernel
theorem dX1_init_29 : decode cX1_init 29 = .ok (.bipush 10, 2) := by decide +kernel
theorem dX1_init_31 : decode cX1_init 31 = .ok (.newarray .int, 2) := by decide +kernel
theorem dX1_init_33 : decode cX1_init 33 = .ok (.putfield 21, 3) := by decide +kernel
theorem dX1_init_36 : decode cX1_init 36 = .ok (.aload_n 0, 1) := by decide +kernel
theorem dX1_init_37 : decode cX1_init 37 = .ok (.bipush 10, 2) := by decide +kernel
theorem dX1_init_39 : decode cX1_init 39 = .ok (.newarray .int, 2) := by decide +kernel
theorem dX1_init_41 : decode cX1_init 41 = .ok (.putfield 24, 3) := by decide +kernel
theorem dX1_init_44 : decode cX1_init 44 = .ok (.aload_n 0, 1) := by decide +kernel
theorem dX1_init_45 : decode cX1_init 45 = .ok (.bipush 10, 2) := by decide +kernel
theorem dX1_init_47 : decode cX1_init 47 = .ok (.newarray .int, 2) := by decide +kernel
theorem dX1_init_49 : decode cX1_init 49 = .ok (.putfield 27, 3) := by decide +kernel
theorem dX1_init_52 : decode cX1_init 52 = .ok (.aload_n 0, 1) := by decide +kernel
theorem dX1_init_53 : decode cX1_init 53 = .ok (.bipush 10, 2) := by decide +kernel
theorem dX1_init_55 : decode cX1_init 55 = .ok (.bipush 10, 2) := by decide +kernel
theorem dX1_init_57 : decode cX1_init 57 = .ok (.multianewarray 30 2, 4) := by decide +kernel
theorem dX1_init_61 : decode cX1_init 61 = .ok (.putfield 32, 3) := by decide +kernel
theorem dX1_init_64 : decode cX1_init 64 = .ok (.aload_n 0, 1) := by decide +kernel
theorem dX1_init_65 : decode cX1_init 65 = .ok (.bipush 10, 2) := by decide +kernel
theorem dX1_init_67 : decode cX1_init 67 = .ok (.newarray .int, 2) := by decide +kernel
theorem dX1_init_69 : decode cX1_init 69 = .ok (.putfield 35, 3) := by decide +kernel
theorem dX1_init_72 : decode cX1_init 72 = .ok (.aload_n 0, 1) := by decide +kernel
theorem dX1_init_73 : decode cX1_init 73 = .ok (.iconst 0, 1) := by decide +kernel
theorem dX1_init_74 : decode cX1_init 74 = .ok (.putfield 38, 3) := by decide +kernel
theorem dX1_init_77 : decode cX1_init 77 = .ok (.iconst 0, 1) := by decide +kernel
theorem dX1_init_78 : decode cX1_init 78 = .ok (.istore_n 1, 1) := by decide +kernel
theorem dX1_init_79 : decode cX1_init 79 = .ok (.iload_n 1, 1) := by decide +kernel
theorem dX1_init_80 : decode cX1_init 80 = .ok (.bipush 10, 2) := by decide +kernel
theorem dX1_init_82 : decode cX1_init 82 = .ok (.if_icmp .ge 39, 3) := by decide +kernel
theorem dX1_init_85 : decode cX1_init 85 = .ok (.aload_n 0, 1) := by decide +kernel
theorem dX1_init_86 : decode cX1_init 86 = .ok (.getfield 27, 3) := by decide +kernel
theorem dX1_init_89 : decode cX1_init 89 = .ok (.iload_n 1, 1) := by decide +kernel
theorem dX1_init_90 : decode cX1_init 90 = .ok (.iconst (-1), 1) := by decide +kernel
theorem dX1_init_91 : decode cX1_init 91 = .ok (.iastore, 1) := by decide +kernel
theorem dX1_init_92 : decode cX1_init 92 = .ok (.iconst 0, 1) := by decide +kernel
theorem dX1_init_93 : decode cX1_init 93 = .ok (.istore_n 2, 1) := by decide +kernel
theorem dX1_init_94 : decode cX1_init 94 = .ok (.iload_n 2, 1) := by decide +kernel
theorem dX1_init_95 : decode cX1_init 95 = .ok (.bipush 10, 2) := by decide +kernel
theorem dX1_init_97 : decode cX1_init 97 = .ok (.if_icmp .ge 18, 3) := by decide +kernel
theorem dX1_init_100 : decode cX1_init 100 = .ok (.aload_n 0, 1) := by decide +kernel
theorem dX1_init_101 : decode cX1_init 101 = .ok (.getfield 32, 3) := by decide +kernel
theorem dX1_init_104 : decode cX1_init 104 = .ok (.iload_n 1, 1) := by decide +kernel
theorem dX1_init_105 : decode cX1_init 105 = .ok (.aaload, 1) := by decide +kernel
theorem dX1_init_106 : decode cX1_init 106 = .ok (.iload_n 2, 1) := by decide +kernel
theorem dX1_init_107 : decode cX1_init 107 = .ok (.iconst (-1), 1) := by decide +kernel
theorem dX1_init_108 : decode cX1_init 108 = .ok (.iastore, 1) := by decide +kernel
theorem dX1_init_109 : decode cX1_init 109 = .ok (.iinc 2 1, 3) := by decide +kernel
theorem dX1_init_112 : decode cX1_init 112 = .ok (.goto (-18), 3) := by decide +kernel
theorem dX1_init_115 : decode cX1_init 115 = .ok (.iinc 1 1, 3) := by decide +kernel
theorem dX1_init_118 : decode cX1_init 118 = .ok (.goto (-39), 3) := by decide +kernel
theorem dX1_init_121 : decode cX1_init 121 = .ok (.return_, 1) := by decide +kernel
theorem dX1_has_0 : decode cX1_has 0 = .ok (.iload_n 1, 1) := by decide +kernel
theorem dX1_has_1 : decode cX1_has 1 = .ok (.ifCond .lt 21, 3) := by decide +kernel
theorem dX1_has_4 : decode cX1_has 4 = .ok (.iload_n 1, 1) := by decide +kernel
theorem dX1_has_5 : decode cX1_has 5 = .ok (.aload_n 0, 1) := by decide +kernel
theorem dX1_has_6 : decode cX1_has 6 = .ok (.getfield 38, 3) := by decide +kernel
theorem dX1_has_9 : decode cX1_has 9 = .ok (.if_icmp .ge 13, 3) := by decide +kernel
theorem dX1_has_12 : decode cX1_has 12 = .ok (.iload_n 1, 1) := by decide +kernel
theorem dX1_has_13 : decode cX1_has 13 = .ok (.bipush 10, 2) := by decide +kernel
theorem dX1_has_15 : decode cX1_has 15 = .ok (.if_icmp .ge 7, 3) := by decide +kernel
theorem dX1_has_18 : decode cX1_has 18 = .ok (.iconst 1, 1) := by decide +kernel
theorem dX1_has_19 : decode cX1_has 19 = .ok (.goto 4, 3) := by decide +kernel
theorem dX1_has_22 : decode cX1_has 22 = .ok (.iconst 0, 1) := by decide +kernel
theorem dX1_has_23 : decode cX1_has 23 = .ok (.ireturn, 1) := by decide +kernel
theorem dX1_add_0 : decode cX1_add 0 = .ok (.aload_n 0, 1) := by decide +kernel
theorem dX1_add_1 : decode cX1_add 1 = .ok (.getfield 38, 3) := by decide +kernel
theorem dX1_add_4 : decode cX1_add 4 = .ok (.istore 6, 2) := by decide +kernel
theorem dX1_add_6 : decode cX1_add 6 = .ok (.iload 6, 2) := by decide +kernel
theorem dX1_add_8 : decode cX1_add 8 = .ok (.bipush 10, 2) := by decide +kernel
theorem dX1_add_10 : decode cX1_add 10 = .ok (.if_icmp .lt 6, 3) := by decide +kernel
theorem dX1_add_13 : decode cX1_add 13 = .ok (.bipush (-4), 2) := by decide +kernel
theorem dX1_add_15 : decode cX1_add 15 = .ok (.ireturn, 1) := by decide +kernel
theorem dX1_add_16 : decode cX1_add 16 = .ok (.aload_n 0, 1) := by decide +kernel
theorem dX1_add_17 : decode cX1_add 17 = .ok (.getfield 9, 3) := by decide +kernel
theorem dX1_add_20 : decode cX1_add 20 = .ok (.iload 6, 2) := by decide +kernel
theorem dX1_add_22 : decode cX1_add 22 = .ok (.iload_n 1, 1) := by decide +kernel
theorem dX1_add_23 : decode cX1_add 23 = .ok (.iastore, 1) := by decide +kernel
theorem dX1_add_24 : decode cX1_add 24 = .ok (.aload_n 0, 1) := by decide +kernel
theorem dX1_add_25 : decode cX1_add 25 = .ok (.getfield 15, 3) := by decide +kernel
theorem dX1_add_28 : decode cX1_add 28 = .ok (.iload 6, 2) := by decide +kernel
theorem dX1_add_30 : decode cX1_add 30 = .ok (.iload_n 2, 1) := by decide +kernel
theorem dX1_add_31 : decode cX1_add 31 = .ok (.iastore, 1) := by decide +kernel
theorem dX1_add_32 : decode cX1_add 32 = .ok (.aload_n 0, 1) := by decide +kernel
theorem dX1_add_33 : decode cX1_add 33 = .ok (.getfield 18, 3) := by decide +kernel
theorem dX1_add_36 : decode cX1_add 36 = .ok (.iload 6, 2) := by decide +kernel
theorem dX1_add_38 : decode cX1_add 38 = .ok (.iload_n 3, 1) := by decide +kernel
theorem dX1_add_39 : decode cX1_add 39 = .ok (.iastore, 1) := by decide +kernel
theorem dX1_add_40 : decode cX1_add 40 = .ok (.aload_n 0, 1) := by decide +kernel
theorem dX1_add_41 : decode cX1_add 41 = .ok (.getfield 21, 3) := by decide +kernel
theorem dX1_add_44 : decode cX1_add 44 = .ok (.iload 6, 2) := by decide +kernel
theorem dX1_add_46 : decode cX1_add 46 = .ok (.iload 4, 2) := by decide +kernel
theorem dX1_add_48 : decode cX1_add 48 = .ok (.iastore, 1) := by decide +kernel
theorem dX1_add_49 : decode cX1_add 49 = .ok (.aload_n 0, 1) := by decide +kernel
theorem dX1_add_50 : decode cX1_add 50 = .ok (.getfield 24, 3) := by decide +kernel
theorem dX1_add_53 : decode cX1_add 53 = .ok (.iload 6, 2) := by decide +kernel
theorem dX1_add_55 : decode cX1_add 55 = .ok (.iload 5, 2) := by decide +kernel
theorem dX1_add_57 : decode cX1_add 57 = .ok (.iastore, 1) := by decide +kernel
theorem dX1_add_58 : decode cX1_add 58 = .ok (.aload_n 0, 1) := by decide +kernel
theorem dX1_add_59 : decode cX1_add 59 = .ok (.dup, 1) := by decide +kernel
theorem dX1_add_60 : decode cX1_add 60 = .ok (.getfield 38, 3) := by decide +kernel
theorem dX1_add_63 : decode cX1_add 63 = .ok (.iconst 1, 1) := by decide +kernel
theorem dX1_add_64 : decode cX1_add 64 = .ok (.iadd, 1) := by decide +kernel
theorem dX1_add_65 : decode cX1_add 65 = .ok (.putfield 38, 3) := by decide +kernel
theorem dX1_add_68 : decode cX1_add 68 = .ok (.iload 6, 2) := by decide +kernel
theorem dX1_add_70 : decode cX1_add 70 = .ok (.ireturn, 1) := by decide +kernel
theorem dX1_standsOn_0 : decode cX1_standsOn 0 = .ok (.aload_n 0, 1) := by decide +kernel
theorem dX1_standsOn_1 : decode cX1_standsOn 1 = .ok (.getfield 27, 3) := by decide +kernel
theorem dX1_standsOn_4 : decode cX1_standsOn 4 = .ok (.iload_n 1, 1) := by decide +kernel
theorem dX1_standsOn_5 : decode cX1_standsOn 5 = .ok (.iaload, 1) := by decide +kernel
theorem dX1_standsOn_6 : decode cX1_standsOn 6 = .ok (.iconst (-1), 1) := by decide +kernel
theorem dX1_standsOn_7 : decode cX1_standsOn 7 = .ok (.if_icmp .eq 17, 3) := by decide +kernel
theorem dX1_standsOn_10 : decode cX1_standsOn 10 = .ok (.aload_n 0, 1) := by decide +kernel
theorem dX1_standsOn_11 : decode cX1_standsOn 11 = .ok (.getfield 27, 3) := by decide +kernel
theorem dX1_standsOn_14 : decode cX1_standsOn 14 = .ok (.iload_n 1, 1) := by decide +kernel
theorem dX1_standsOn_15 : decode cX1_standsOn 15 = .ok (.iaload, 1) := by decide +kernel
theorem dX1_standsOn_16 : decode cX1_standsOn 16 = .ok (.iload_n 2, 1) := by decide +kernel
theorem dX1_standsOn_17 : decode cX1_standsOn 17 = .ok (.if_icmp .gt 7, 3) := by decide +kernel
theorem dX1_standsOn_20 : decode cX1_standsOn 20 = .ok (.iconst 1, 1) := by decide +kernel
theorem dX1_standsOn_21 : decode cX1_standsOn 21 = .ok (.goto 4, 3) := by decide +kernel
theorem dX1_standsOn_24 : decode cX1_standsOn 24 = .ok (.iconst 0, 1) := by decide +kernel
theorem dX1_standsOn_25 : decode cX1_standsOn 25 = .ok (.ireturn, 1) := by decide +kernel
theorem dX1_carries_0 : decode cX1_carries 0 = .ok (.aload_n 0, 1) := by decide +kernel
theorem dX1_carries_1 : decode cX1_carries 1 = .ok (.getfield 9, 3) := by decide +kernel
theorem dX1_carries_4 : decode cX1_carries 4 = .ok (.iload_n 1, 1) := by decide +kernel
theorem dX1_carries_5 : decode cX1_carries 5 = .ok (.iaload, 1) := by decide +kernel
theorem dX1_carries_6 : decode cX1_carries 6 = .ok (.iconst 1, 1) := by decide +kernel
theorem dX1_carries_7 : decode cX1_carries 7 = .ok (.if_icmp .eq 13, 3) := by decide +kernel
theorem dX1_carries_10 : decode cX1_carries 10 = .ok (.aload_n 0, 1) := by decide +kernel
theorem dX1_carries_11 : decode cX1_carries 11 = .ok (.getfield 9, 3) := by decide +kernel
theorem dX1_carries_14 : decode cX1_carries 14 = .ok (.iload_n 1, 1) := by decide +kernel
theorem dX1_carries_15 : decode cX1_carries 15 = .ok (.iaload, 1) := by decide +kernel
theorem dX1_carries_16 : decode cX1_carries 16 = .ok (.iconst 2, 1) := by decide +kernel
theorem dX1_carries_17 : decode cX1_carries 17 = .ok (.if_icmp .ne 24, 3) := by decide +kernel
theorem dX1_carries_20 : decode cX1_carries 20 = .ok (.aload_n 0, 1) := by decide +kernel
theorem dX1_carries_21 : decode cX1_carries 21 = .ok (.getfield 15, 3) := by decide +kernel
theorem dX1_carries_24 : decode cX1_carries 24 = .ok (.iload_n 1, 1) := by decide +kernel
theorem dX1_carries_25 : decode cX1_carries 25 = .ok (.iaload, 1) := by decide +kernel
theorem dX1_carries_26 : decode cX1_carries 26 = .ok (.aload_n 0, 1) := by decide +kernel
theorem dX1_carries_27 : decode cX1_carries 27 = .ok (.getfield 15, 3) := by decide +kernel
theorem dX1_carries_30 : decode cX1_carries 30 = .ok (.iload_n 2, 1) := by decide +kernel
theorem dX1_carries_31 : decode cX1_carries 31 = .ok (.iaload, 1) := by decide +kernel
theorem dX1_carries_32 : decode cX1_carries 32 = .ok (.if_icmp .ne 7, 3) := by decide +kernel
theorem dX1_carries_35 : decode cX1_carries 35 = .ok (.iconst 1, 1) := by decide +kernel
theorem dX1_carries_36 : decode cX1_carries 36 = .ok (.goto 4, 3) := by decide +kernel
theorem dX1_carries_39 : decode cX1_carries 39 = .ok (.iconst 0, 1) := by decide +kernel
theorem dX1_carries_40 : decode cX1_carries 40 = .ok (.ireturn, 1) := by decide +kernel
theorem dX1_carries_41 : decode cX1_carries 41 = .ok (.aload_n 0, 1) := by decide +kernel
theorem dX1_carries_42 : decode cX1_carries 42 = .ok (.getfield 9, 3) := by decide +kernel
theorem dX1_carries_45 : decode cX1_carries 45 = .ok (.iload_n 1, 1) := by decide +kernel
theorem dX1_carries_46 : decode cX1_carries 46 = .ok (.iaload, 1) := by decide +kernel
theorem dX1_carries_47 : decode cX1_carries 47 = .ok (.ifCond .ne 24, 3) := by decide +kernel
theorem dX1_carries_50 : decode cX1_carries 50 = .ok (.aload_n 0, 1) := by decide +kernel
theorem dX1_carries_51 : decode cX1_carries 51 = .ok (.getfield 15, 3) := by decide +kernel
theorem dX1_carries_54 : decode cX1_carries 54 = .ok (.iload_n 1, 1) := by decide +kernel
theorem dX1_carries_55 : decode cX1_carries 55 = .ok (.iaload, 1) := by decide +kernel
theorem dX1_carries_56 : decode cX1_carries 56 = .ok (.aload_n 0, 1) := by decide +kernel
theorem dX1_carries_57 : decode cX1_carries 57 = .ok (.getfield 15, 3) := by decide +kernel
theorem dX1_carries_60 : decode cX1_carries 60 = .ok (.iload_n 2, 1) := by decide +kernel
theorem dX1_carries_61 : decode cX1_carries 61 = .ok (.iaload, 1) := by decide +kernel
theorem dX1_carries_62 : decode cX1_carries 62 = .ok (.iconst 1, 1) := by decide +kernel
theorem dX1_carries_63 : decode cX1_carries 63 = .ok (.isub, 1) := by decide +kernel
theorem dX1_carries_64 : decode cX1_carries 64 = .ok (.if_icmp .ne 7, 3) := by decide +kernel
theorem dX1_carries_67 : decode cX1_carries 67 = .ok (.iconst 1, 1) := by decide +kernel
theorem dX1_carries_68 : decode cX1_carries 68 = .ok (.goto 4, 3) := by decide +kernel
theorem dX1_carries_71 : decode cX1_carries 71 = .ok (.iconst 0, 1) := by decide +kernel
theorem dX1_carries_72 : decode cX1_carries 72 = .ok (.ireturn, 1) := by decide +kernel
theorem dX1_unpourFrom_0 : decode cX1_unpourFrom 0 = .ok (.iconst 0, 1) := by decide +kernel
theorem dX1_unpourFrom_1 : decode cX1_unpourFrom 1 = .ok (.istore_n 2, 1) := by decide +kernel
theorem dX1_unpourFrom_2 : decode cX1_unpourFrom 2 = .ok (.iconst 0, 1) := by decide +kernel
theorem dX1_unpourFrom_3 : decode cX1_unpourFrom 3 = .ok (.istore_n 3, 1) := by decide +kernel
theorem dX1_unpourFrom_4 : decode cX1_unpourFrom 4 = .ok (.iload_n 3, 1) := by decide +kernel
theorem dX1_unpourFrom_5 : decode cX1_unpourFrom 5 = .ok (.aload_n 0, 1) := by decide +kernel
theorem dX1_unpourFrom_6 : decode cX1_unpourFrom 6 = .ok (.getfield 38, 3) := by decide +kernel
theorem dX1_unpourFrom_9 : decode cX1_unpourFrom 9 = .ok (.if_icmp .ge 29, 3) := by decide +kernel
theorem dX1_unpourFrom_12 : decode cX1_unpourFrom 12 = .ok (.aload_n 0, 1) := by decide +kernel
theorem dX1_unpourFrom_13 : decode cX1_unpourFrom 13 = .ok (.getfield 27, 3) := by decide +kernel
theorem dX1_unpourFrom_16 : decode cX1_unpourFrom 16 = .ok (.iload_n 3, 1) := by decide +kernel
theorem dX1_unpourFrom_17 : decode cX1_unpourFrom 17 = .ok (.iaload, 1) := by decide +kernel
theorem dX1_unpourFrom_18 : decode cX1_unpourFrom 18 = .ok (.iload_n 1, 1) := by decide +kernel
theorem dX1_unpourFrom_19 : decode cX1_unpourFrom 19 = .ok (.if_icmp .lt 13, 3) := by decide +kernel
theorem dX1_unpourFrom_22 : decode cX1_unpourFrom 22 = .ok (.aload_n 0, 1) := by decide +kernel
theorem dX1_unpourFrom_23 : decode cX1_unpourFrom 23 = .ok (.getfield 27, 3) := by decide +kernel
theorem dX1_unpourFrom_26 : decode cX1_unpourFrom 26 = .ok (.iload_n 3, 1) := by decide +kernel
theorem dX1_unpourFrom_27 : decode cX1_unpourFrom 27 = .ok (.iconst (-1), 1) := by decide +kernel
theorem dX1_unpourFrom_28 : decode cX1_unpourFrom 28 = .ok (.iastore, 1) := by decide +kernel
theorem dX1_unpourFrom_29 : decode cX1_unpourFrom 29 = .ok (.iinc 2 1, 3) := by decide +kernel
theorem dX1_unpourFrom_32 : decode cX1_unpourFrom 32 = .ok (.iinc 3 1, 3) := by decide +kernel
theorem dX1_unpourFrom_35 : decode cX1_unpourFrom 35 = .ok (.goto (-31), 3) := by decide +kernel
theorem dX1_unpourFrom_38 : decode cX1_unpourFrom 38 = .ok (.iload_n 2, 1) := by decide +kernel
theorem dX1_unpourFrom_39 : decode cX1_unpourFrom 39 = .ok (.ireturn, 1) := by decide +kernel
theorem dX1_howManyPoured_0 : decode cX1_howManyPoured 0 = .ok (.iconst 0, 1) := by decide +kernel
theorem dX1_howManyPoured_1 : decode cX1_howManyPoured 1 = .ok (.istore_n 1, 1) := by decide +kernel
theorem dX1_howManyPoured_2 : decode cX1_howManyPoured 2 = .ok (.iconst 0, 1) := by decide +kernel
theorem dX1_howManyPoured_3 : decode cX1_howManyPoured 3 = .ok (.istore_n 2, 1) := by decide +kernel
theorem dX1_howManyPoured_4 : decode cX1_howManyPoured 4 = .ok (.iload_n 2, 1) := by decide +kernel
theorem dX1_howManyPoured_5 : decode cX1_howManyPoured 5 = .ok (.aload_n 0, 1) := by decide +kernel
theorem dX1_howManyPoured_6 : decode cX1_howManyPoured 6 = .ok (.getfield 38, 3) := by decide +kernel
theorem dX1_howManyPoured_9 : decode cX1_howManyPoured 9 = .ok (.if_icmp .ge 22, 3) := by decide +kernel
theorem dX1_howManyPoured_12 : decode cX1_howManyPoured 12 = .ok (.aload_n 0, 1) := by decide +kernel
theorem dX1_howManyPoured_13 : decode cX1_howManyPoured 13 = .ok (.getfield 27, 3) := by decide +kernel
theorem dX1_howManyPoured_16 : decode cX1_howManyPoured 16 = .ok (.iload_n 2, 1) := by decide +kernel
theorem dX1_howManyPoured_17 : decode cX1_howManyPoured 17 = .ok (.iaload, 1) := by decide +kernel
theorem dX1_howManyPoured_18 : decode cX1_howManyPoured 18 = .ok (.iconst (-1), 1) := by decide +kernel
theorem dX1_howManyPoured_19 : decode cX1_howManyPoured 19 = .ok (.if_icmp .eq 6, 3) := by decide +kernel
theorem dX1_howManyPoured_22 : decode cX1_howManyPoured 22 = .ok (.iinc 1 1, 3) := by decide +kernel
theorem dX1_howManyPoured_25 : decode cX1_howManyPoured 25 = .ok (.iinc 2 1, 3) := by decide +kernel
theorem dX1_howManyPoured_28 : decode cX1_howManyPoured 28 = .ok (.goto (-24), 3) := by decide +kernel
theorem dX1_howManyPoured_31 : decode cX1_howManyPoured 31 = .ok (.iload_n 1, 1) := by decide +kernel
theorem dX1_howManyPoured_32 : decode cX1_howManyPoured 32 = .ok (.ireturn, 1) := by decide +kernel
set_option maxRecDepth 20000 in
theorem ggX1_mustLead_X1_lengthenWays : GoodIn wsX1_mustLead wsX1_lengthenWays := goodIn_r _ [7, 1, 2, 8, 9, 10, 11, 12, 13, 14, 15, 16, 17, 18, 19, 20, 21] (by decide +kernel) (by decide +kernel)
set_option maxRecDepth 20000 in
theorem gX1_mustLead_X1_lengthenWays : GoodIn wsX1_mustLead (wsV RX1 42 RX1 yX1_lengthenWays wsX1_lengthenWays) := goodIn_app (goodIn_of _ (by decide +kernel)) ggX1_mustLead_X1_lengthenWays
theorem dX1_mustLead_0 : decode cX1_mustLead 0 = .ok (.iconst 0, 1) := by decide +kernel
theorem dX1_mustLead_1 : decode cX1_mustLead 1 = .ok (.istore_n 3, 1) := by decide +kernel
theorem dX1_mustLead_2 : decode cX1_mustLead 2 = .ok (.iload_n 3, 1) := by decide +kernel
theorem dX1_mustLead_3 : decode cX1_mustLead 3 = .ok (.aload_n 0, 1) := by decide +kernel
theorem dX1_mustLead_4 : decode cX1_mustLead 4 = .ok (.getfield 38, 3) := by decide +kernel
theorem dX1_mustLead_7 : decode cX1_mustLead 7 = .ok (.if_icmp .ge 16, 3) := by decide +kernel
theorem dX1_mustLead_10 : decode cX1_mustLead 10 = .ok (.aload_n 0, 1) := by decide +kernel
theorem dX1_mustLead_11 : decode cX1_mustLead 11 = .ok (.getfield 35, 3) := by decide +kernel
theorem dX1_mustLead_14 : decode cX1_mustLead 14 = .ok (.iload_n 3, 1) := by decide +kernel
theorem dX1_mustLead_15 : decode cX1_mustLead 15 = .ok (.iconst (-1), 1) := by decide +kernel
theorem dX1_mustLead_16 : decode cX1_mustLead 16 = .ok (.iastore, 1) := by decide +kernel
theorem dX1_mustLead_17 : decode cX1_mustLead 17 = .ok (.iinc 3 1, 3) := by decide +kernel
theorem dX1_mustLead_20 : decode cX1_mustLead 20 = .ok (.goto (-18), 3) := by decide +kernel
theorem dX1_mustLead_23 : decode cX1_mustLead 23 = .ok (.aload_n 0, 1) := by decide +kernel
theorem dX1_mustLead_24 : decode cX1_mustLead 24 = .ok (.getfield 35, 3) := by decide +kernel
theorem dX1_mustLead_27 : decode cX1_mustLead 27 = .ok (.iload_n 1, 1) := by decide +kernel
theorem dX1_mustLead_28 : decode cX1_mustLead 28 = .ok (.iconst 0, 1) := by decide +kernel
theorem dX1_mustLead_29 : decode cX1_mustLead 29 = .ok (.iastore, 1) := by decide +kernel
theorem dX1_mustLead_30 : decode cX1_mustLead 30 = .ok (.aload_n 0, 1) := by decide +kernel
theorem dX1_mustLead_31 : decode cX1_mustLead 31 = .ok (.invokevirtual 42, 3) := by decide +kernel
theorem dX1_mustLead_34 : decode cX1_mustLead 34 = .ok (.aload_n 0, 1) := by decide +kernel
theorem dX1_mustLead_35 : decode cX1_mustLead 35 = .ok (.getfield 35, 3) := by decide +kernel
theorem dX1_mustLead_38 : decode cX1_mustLead 38 = .ok (.iload_n 2, 1) := by decide +kernel
theorem dX1_mustLead_39 : decode cX1_mustLead 39 = .ok (.iaload, 1) := by decide +kernel
theorem dX1_mustLead_40 : decode cX1_mustLead 40 = .ok (.iconst (-1), 1) := by decide +kernel
theorem dX1_mustLead_41 : decode cX1_mustLead 41 = .ok (.if_icmp .eq 7, 3) := by decide +kernel
theorem dX1_mustLead_44 : decode cX1_mustLead 44 = .ok (.iconst 1, 1) := by decide +kernel
theorem dX1_mustLead_45 : decode cX1_mustLead 45 = .ok (.goto 4, 3) := by decide +kernel
theorem dX1_mustLead_48 : decode cX1_mustLead 48 = .ok (.iconst 0, 1) := by decide +kernel
theorem dX1_mustLead_49 : decode cX1_mustLead 49 = .ok (.ireturn, 1) := by decide +kernel
set_option maxRecDepth 20000 in
theorem ggX1_longestLead_X1_lengthenWays : GoodIn wsX1_longestLead wsX1_lengthenWays := goodIn_r _ [11, 1, 2, 12, 3, 4, 5, 6, 13, 14, 15, 16, 17, 18, 19, 20, 21] (by decide +kernel) (by decide +kernel)
set_option maxRecDepth 20000 in
theorem gX1_longestLead_X1_lengthenWays : GoodIn wsX1_longestLead (wsV RX1 42 RX1 yX1_lengthenWays wsX1_lengthenWays) := goodIn_app (goodIn_of _ (by decide +kernel)) ggX1_longestLead_X1_lengthenWays
theorem dX1_longestLead_0 : decode cX1_longestLead 0 = .ok (.iconst 0, 1) := by decide +kernel
theorem dX1_longestLead_1 : decode cX1_longestLead 1 = .ok (.istore_n 1, 1) := by decide +kernel
theorem dX1_longestLead_2 : decode cX1_longestLead 2 = .ok (.iload_n 1, 1) := by decide +kernel
theorem dX1_longestLead_3 : decode cX1_longestLead 3 = .ok (.aload_n 0, 1) := by decide +kernel
theorem dX1_longestLead_4 : decode cX1_longestLead 4 = .ok (.getfield 38, 3) := by decide +kernel
theorem dX1_longestLead_7 : decode cX1_longestLead 7 = .ok (.if_icmp .ge 16, 3) := by decide +kernel
theorem dX1_longestLead_10 : decode cX1_longestLead 10 = .ok (.aload_n 0, 1) := by decide +kernel
theorem dX1_longestLead_11 : decode cX1_longestLead 11 = .ok (.getfield 35, 3) := by decide +kernel
theorem dX1_longestLead_14 : decode cX1_longestLead 14 = .ok (.iload_n 1, 1) := by decide +kernel
theorem dX1_longestLead_15 : decode cX1_longestLead 15 = .ok (.iconst 0, 1) := by decide +kernel
theorem dX1_longestLead_16 : decode cX1_longestLead 16 = .ok (.iastore, 1) := by decide +kernel
theorem dX1_longestLead_17 : decode cX1_longestLead 17 = .ok (.iinc 1 1, 3) := by decide +kernel
theorem dX1_longestLead_20 : decode cX1_longestLead 20 = .ok (.goto (-18), 3) := by decide +kernel
theorem dX1_longestLead_23 : decode cX1_longestLead 23 = .ok (.aload_n 0, 1) := by decide +kernel
theorem dX1_longestLead_24 : decode cX1_longestLead 24 = .ok (.invokevirtual 42, 3) := by decide +kernel
theorem dX1_longestLead_27 : decode cX1_longestLead 27 = .ok (.iconst 0, 1) := by decide +kernel
theorem dX1_longestLead_28 : decode cX1_longestLead 28 = .ok (.istore_n 1, 1) := by decide +kernel
theorem dX1_longestLead_29 : decode cX1_longestLead 29 = .ok (.iconst 0, 1) := by decide +kernel
theorem dX1_longestLead_30 : decode cX1_longestLead 30 = .ok (.istore_n 2, 1) := by decide +kernel
theorem dX1_longestLead_31 : decode cX1_longestLead 31 = .ok (.iload_n 2, 1) := by decide +kernel
theorem dX1_longestLead_32 : decode cX1_longestLead 32 = .ok (.aload_n 0, 1) := by decide +kernel
theorem dX1_longestLead_33 : decode cX1_longestLead 33 = .ok (.getfield 38, 3) := by decide +kernel
theorem dX1_longestLead_36 : decode cX1_longestLead 36 = .ok (.if_icmp .ge 20, 3) := by decide +kernel
theorem dX1_longestLead_39 : decode cX1_longestLead 39 = .ok (.iload_n 1, 1) := by decide +kernel
theorem dX1_longestLead_40 : decode cX1_longestLead 40 = .ok (.aload_n 0, 1) := by decide +kernel
theorem dX1_longestLead_41 : decode cX1_longestLead 41 = .ok (.getfield 35, 3) := by decide +kernel
theorem dX1_longestLead_44 : decode cX1_longestLead 44 = .ok (.iload_n 2, 1) := by decide +kernel
theorem dX1_longestLead_45 : decode cX1_longestLead 45 = .ok (.iaload, 1) := by decide +kernel
theorem dX1_longestLead_46 : decode cX1_longestLead 46 = .ok (.invokestatic 45, 3) := by decide +kernel
theorem dX1_longestLead_49 : decode cX1_longestLead 49 = .ok (.istore_n 1, 1) := by decide +kernel
theorem dX1_longestLead_50 : decode cX1_longestLead 50 = .ok (.iinc 2 1, 3) := by decide +kernel
theorem dX1_longestLead_53 : decode cX1_longestLead 53 = .ok (.goto (-22), 3) := by decide +kernel
theorem dX1_longestLead_56 : decode cX1_longestLead 56 = .ok (.iload_n 1, 1) := by decide +kernel
theorem dX1_longestLead_57 : decode cX1_longestLead 57 = .ok (.ireturn, 1) := by decide +kernel
theorem dX1_lengthenWays_0 : decode cX1_lengthenWays 0 = .ok (.iconst 1, 1) := by decide +kernel
theorem dX1_lengthenWays_1 : decode cX1_lengthenWays 1 = .ok (.istore_n 1, 1) := by decide +kernel
theorem dX1_lengthenWays_2 : decode cX1_lengthenWays 2 = .ok (.iload_n 1, 1) := by decide +kernel
theorem dX1_lengthenWays_3 : decode cX1_lengthenWays 3 = .ok (.aload_n 0, 1) := by decide +kernel
theorem dX1_lengthenWays_4 : decode cX1_lengthenWays 4 = .ok (.getfield 38, 3) := by decide +kernel
theorem dX1_lengthenWays_7 : decode cX1_lengthenWays 7 = .ok (.if_icmp .ge 93, 3) := by decide +kernel
theorem dX1_lengthenWays_10 : decode cX1_lengthenWays 10 = .ok (.iconst 0, 1) := by decide +kernel
theorem dX1_lengthenWays_11 : decode cX1_lengthenWays 11 = .ok (.istore_n 2, 1) := by decide +kernel
theorem dX1_lengthenWays_12 : decode cX1_lengthenWays 12 = .ok (.iload_n 2, 1) := by decide +kernel
theorem dX1_lengthenWays_13 : decode cX1_lengthenWays 13 = .ok (.aload_n 0, 1) := by decide +kernel
theorem dX1_lengthenWays_14 : decode cX1_lengthenWays 14 = .ok (.getfield 38, 3) := by decide +kernel
theorem dX1_lengthenWays_17 : decode cX1_lengthenWays 17 = .ok (.if_icmp .ge 77, 3) := by decide +kernel
theorem dX1_lengthenWays_20 : decode cX1_lengthenWays 20 = .ok (.iconst 0, 1) := by decide +kernel
theorem dX1_lengthenWays_21 : decode cX1_lengthenWays 21 = .ok (.istore_n 3, 1) := by decide +kernel
theorem dX1_lengthenWays_22 : decode cX1_lengthenWays 22 = .ok (.iload_n 3, 1) := by decide +kernel
theorem dX1_lengthenWays_23 : decode cX1_lengthenWays 23 = .ok (.aload_n 0, 1) := by decide +kernel
theorem dX1_lengthenWays_24 : decode cX1_lengthenWays 24 = .ok (.getfield 38, 3) := by decide +kernel
theorem dX1_lengthenWays_27 : decode cX1_lengthenWays 27 = .ok (.if_icmp .ge 61, 3) := by decide +kernel
theorem dX1_lengthenWays_30 : decode cX1_lengthenWays 30 = .ok (.aload_n 0, 1) := by decide +kernel
theorem dX1_lengthenWays_31 : decode cX1_lengthenWays 31 = .ok (.getfield 35, 3) := by decide +kernel
theorem dX1_lengthenWays_34 : decode cX1_lengthenWays 34 = .ok (.iload_n 2, 1) := by decide +kernel
theorem dX1_lengthenWays_35 : decode cX1_lengthenWays 35 = .ok (.iaload, 1) := by decide +kernel
theorem dX1_lengthenWays_36 : decode cX1_lengthenWays 36 = .ok (.iconst (-1), 1) := by decide +kernel
theorem dX1_lengthenWays_37 : decode cX1_lengthenWays 37 = .ok (.if_icmp .eq 45, 3) := by decide +kernel
theorem dX1_lengthenWays_40 : decode cX1_lengthenWays 40 = .ok (.aload_n 0, 1) := by decide +kernel
theorem dX1_lengthenWays_41 : decode cX1_lengthenWays 41 = .ok (.getfield 32, 3) := by decide +kernel
theorem dX1_lengthenWays_44 : decode cX1_lengthenWays 44 = .ok (.iload_n 2, 1) := by decide +kernel
theorem dX1_lengthenWays_45 : decode cX1_lengthenWays 45 = .ok (.aaload, 1) := by decide +kernel
theorem dX1_lengthenWays_46 : decode cX1_lengthenWays 46 = .ok (.iload_n 3, 1) := by decide +kernel
theorem dX1_lengthenWays_47 : decode cX1_lengthenWays 47 = .ok (.iaload, 1) := by decide +kernel
theorem dX1_lengthenWays_48 : decode cX1_lengthenWays 48 = .ok (.iconst (-1), 1) := by decide +kernel
theorem dX1_lengthenWays_49 : decode cX1_lengthenWays 49 = .ok (.if_icmp .eq 33, 3) := by decide +kernel
theorem dX1_lengthenWays_52 : decode cX1_lengthenWays 52 = .ok (.aload_n 0, 1) := by decide +kernel
theorem dX1_lengthenWays_53 : decode cX1_lengthenWays 53 = .ok (.getfield 35, 3) := by decide +kernel
theorem dX1_lengthenWays_56 : decode cX1_lengthenWays 56 = .ok (.iload_n 3, 1) := by decide +kernel
theorem dX1_lengthenWays_57 : decode cX1_lengthenWays 57 = .ok (.aload_n 0, 1) := by decide +kernel
theorem dX1_lengthenWays_58 : decode cX1_lengthenWays 58 = .ok (.getfield 35, 3) := by decide +kernel
theorem dX1_lengthenWays_61 : decode cX1_lengthenWays 61 = .ok (.iload_n 3, 1) := by decide +kernel
theorem dX1_lengthenWays_62 : decode cX1_lengthenWays 62 = .ok (.iaload, 1) := by decide +kernel
theorem dX1_lengthenWays_63 : decode cX1_lengthenWays 63 = .ok (.aload_n 0, 1) := by decide +kernel
theorem dX1_lengthenWays_64 : decode cX1_lengthenWays 64 = .ok (.getfield 35, 3) := by decide +kernel
theorem dX1_lengthenWays_67 : decode cX1_lengthenWays 67 = .ok (.iload_n 2, 1) := by decide +kernel
theorem dX1_lengthenWays_68 : decode cX1_lengthenWays 68 = .ok (.iaload, 1) := by decide +kernel
theorem dX1_lengthenWays_69 : decode cX1_lengthenWays 69 = .ok (.aload_n 0, 1) := by decide +kernel
theorem dX1_lengthenWays_70 : decode cX1_lengthenWays 70 = .ok (.getfield 32, 3) := by decide +kernel
theorem dX1_lengthenWays_73 : decode cX1_lengthenWays 73 = .ok (.iload_n 2, 1) := by decide +kernel
theorem dX1_lengthenWays_74 : decode cX1_lengthenWays 74 = .ok (.aaload, 1) := by decide +kernel
theorem dX1_lengthenWays_75 : decode cX1_lengthenWays 75 = .ok (.iload_n 3, 1) := by decide +kernel
theorem dX1_lengthenWays_76 : decode cX1_lengthenWays 76 = .ok (.iaload, 1) := by decide +kernel
theorem dX1_lengthenWays_77 : decode cX1_lengthenWays 77 = .ok (.iadd, 1) := by decide +kernel
theorem dX1_lengthenWays_78 : decode cX1_lengthenWays 78 = .ok (.invokestatic 45, 3) := by decide +kernel
theorem dX1_lengthenWays_81 : decode cX1_lengthenWays 81 = .ok (.iastore, 1) := by decide +kernel
theorem dX1_lengthenWays_82 : decode cX1_lengthenWays 82 = .ok (.iinc 3 1, 3) := by decide +kernel
theorem dX1_lengthenWays_85 : decode cX1_lengthenWays 85 = .ok (.goto (-63), 3) := by decide +kernel
theorem dX1_lengthenWays_88 : decode cX1_lengthenWays 88 = .ok (.iinc 2 1, 3) := by decide +kernel
theorem dX1_lengthenWays_91 : decode cX1_lengthenWays 91 = .ok (.goto (-79), 3) := by decide +kernel
theorem dX1_lengthenWays_94 : decode cX1_lengthenWays 94 = .ok (.iinc 1 1, 3) := by decide +kernel
theorem dX1_lengthenWays_97 : decode cX1_lengthenWays 97 = .ok (.goto (-95), 3) := by decide +kernel
theorem dX1_lengthenWays_100 : decode cX1_lengthenWays 100 = .ok (.return_, 1) := by decide +kernel
theorem dX2_init_0 : decode cX2_init 0 = .ok (.aload_n 0, 1) := by decide +kernel
theorem dX2_init_1 : decode cX2_init 1 = .ok (.invokespecial 3, 3) := by decide +kernel
theorem dX2_init_4 : decode cX2_init 4 = .ok (.aload_n 0, 1) := by decide +kernel
theorem dX2_init_5 : decode cX2_init 5 = .ok (.bipush 10, 2) := by decide +kernel
theorem dX2_init_7 : decode cX2_init 7 = .ok (.newarray .int, 2) := by decide +kernel
theorem dX2_init_9 : decode cX2_init 9 = .ok (.putfield 9, 3) := by decide +kernel
theorem dX2_init_12 : decode cX2_init 12 = .ok (.aload_n 0, 1) := by decide +kernel
theorem dX2_init_13 : decode cX2_init 13 = .ok (.iconst 0, 1) := by decide +kernel
theorem dX2_init_14 : decode cX2_init 14 = .ok (.putfield 15, 3) := by decide +kernel
theorem dX2_init_17 : decode cX2_init 17 = .ok (.return_, 1) := by decide +kernel
theorem dX2_append_0 : decode cX2_append 0 = .ok (.aload_n 0, 1) := by decide +kernel
theorem dX2_append_1 : decode cX2_append 1 = .ok (.getfield 15, 3) := by decide +kernel
theorem dX2_append_4 : decode cX2_append 4 = .ok (.bipush 10, 2) := by decide +kernel
theorem dX2_append_6 : decode cX2_append 6 = .ok (.if_icmp .ge 23, 3) := by decide +kernel
theorem dX2_append_9 : decode cX2_append 9 = .ok (.aload_n 0, 1) := by decide +kernel
theorem dX2_append_10 : decode cX2_append 10 = .ok (.getfield 9, 3) := by decide +kernel
theorem dX2_append_13 : decode cX2_append 13 = .ok (.aload_n 0, 1) := by decide +kernel
theorem dX2_append_14 : decode cX2_append 14 = .ok (.getfield 15, 3) := by decide +kernel
theorem dX2_append_17 : decode cX2_append 17 = .ok (.iload_n 1, 1) := by decide +kernel
theorem dX2_append_18 : decode cX2_append 18 = .ok (.iastore, 1) := by decide +kernel
theorem dX2_append_19 : decode cX2_append 19 = .ok (.aload_n 0, 1) := by decide +kernel
theorem dX2_append_20 : decode cX2_append 20 = .ok (.dup, 1) := by decide +kernel
theorem dX2_append_21 : decode cX2_append 21 = .ok (.getfield 15, 3) := by decide +kernel
theorem dX2_append_24 : decode cX2_append 24 = .ok (.iconst 1, 1) := by decide +kernel
theorem dX2_append_25 : decode cX2_append 25 = .ok (.iadd, 1) := by decide +kernel
theorem dX2_append_26 : decode cX2_append 26 = .ok (.putfield 15, 3) := by decide +kernel
theorem dX2_append_29 : decode cX2_append 29 = .ok (.return_, 1) := by decide +kernel
theorem dX2_placeOf_0 : decode cX2_placeOf 0 = .ok (.iconst 0, 1) := by decide +kernel
theorem dX2_placeOf_1 : decode cX2_placeOf 1 = .ok (.istore_n 2, 1) := by decide +kernel
theorem dX2_placeOf_2 : decode cX2_placeOf 2 = .ok (.iload_n 2, 1) := by decide +kernel
theorem dX2_placeOf_3 : decode cX2_placeOf 3 = .ok (.aload_n 0, 1) := by decide +kernel
theorem dX2_placeOf_4 : decode cX2_placeOf 4 = .ok (.getfield 15, 3) := by decide +kernel
theorem dX2_placeOf_7 : decode cX2_placeOf 7 = .ok (.if_icmp .ge 21, 3) := by decide +kernel
theorem dX2_placeOf_10 : decode cX2_placeOf 10 = .ok (.aload_n 0, 1) := by decide +kernel
theorem dX2_placeOf_11 : decode cX2_placeOf 11 = .ok (.getfield 9, 3) := by decide +kernel
theorem dX2_placeOf_14 : decode cX2_placeOf 14 = .ok (.iload_n 2, 1) := by decide +kernel
theorem dX2_placeOf_15 : decode cX2_placeOf 15 = .ok (.iaload, 1) := by decide +kernel
theorem dX2_placeOf_16 : decode cX2_placeOf 16 = .ok (.iload_n 1, 1) := by decide +kernel
theorem dX2_placeOf_17 : decode cX2_placeOf 17 = .ok (.if_icmp .ne 5, 3) := by decide +kernel
theorem dX2_placeOf_20 : decode cX2_placeOf 20 = .ok (.iload_n 2, 1) := by decide +kernel
theorem dX2_placeOf_21 : decode cX2_placeOf 21 = .ok (.ireturn, 1) := by decide +kernel
theorem dX2_placeOf_22 : decode cX2_placeOf 22 = .ok (.iinc 2 1, 3) := by decide +kernel
theorem dX2_placeOf_25 : decode cX2_placeOf 25 = .ok (.goto (-23), 3) := by decide +kernel
theorem dX2_placeOf_28 : decode cX2_placeOf 28 = .ok (.iconst (-1), 1) := by decide +kernel
theorem dX2_placeOf_29 : decode cX2_placeOf 29 = .ok (.ireturn, 1) := by decide +kernel
theorem dX2_isPlace_0 : decode cX2_isPlace 0 = .ok (.iload_n 1, 1) := by decide +kernel
theorem dX2_isPlace_1 : decode cX2_isPlace 1 = .ok (.ifCond .lt 15, 3) := by decide +kernel
theorem dX2_isPlace_4 : decode cX2_isPlace 4 = .ok (.iload_n 1, 1) := by decide +kernel
theorem dX2_isPlace_5 : decode cX2_isPlace 5 = .ok (.aload_n 0, 1) := by decide +kernel
theorem dX2_isPlace_6 : decode cX2_isPlace 6 = .ok (.getfield 15, 3) := by decide +kernel
theorem dX2_isPlace_9 : decode cX2_isPlace 9 = .ok (.if_icmp .ge 7, 3) := by decide +kernel
theorem dX2_isPlace_12 : decode cX2_isPlace 12 = .ok (.iconst 1, 1) := by decide +kernel
theorem dX2_isPlace_13 : decode cX2_isPlace 13 = .ok (.goto 4, 3) := by decide +kernel
theorem dX2_isPlace_16 : decode cX2_isPlace 16 = .ok (.iconst 0, 1) := by decide +kernel
theorem dX2_isPlace_17 : decode cX2_isPlace 17 = .ok (.ireturn, 1) := by decide +kernel
set_option maxRecDepth 20000 in
theorem ggX2_move_X2_isPlace : GoodIn wsX2_move wsX2_isPlace := goodIn_r _ [6, 7, 8, 9] (by decide +kernel) (by decide +kernel)
set_option maxRecDepth 20000 in
theorem gX2_move_X2_isPlace : GoodIn wsX2_move (wsV RX2 19 RX2 yX2_isPlace wsX2_isPlace) := goodIn_app (goodIn_of _ (by decide +kernel)) ggX2_move_X2_isPlace
theorem dX2_move_0 : decode cX2_move 0 = .ok (.aload_n 0, 1) := by decide +kernel
theorem dX2_move_1 : decode cX2_move 1 = .ok (.iload_n 1, 1) := by decide +kernel
theorem dX2_move_2 : decode cX2_move 2 = .ok (.invokevirtual 19, 3) := by decide +kernel
theorem dX2_move_5 : decode cX2_move 5 = .ok (.ifCond .eq 11, 3) := by decide +kernel
theorem dX2_move_8 : decode cX2_move 8 = .ok (.aload_n 0, 1) := by decide +kernel
theorem dX2_move_9 : decode cX2_move 9 = .ok (.iload_n 2, 1) := by decide +kernel
theorem dX2_move_10 : decode cX2_move 10 = .ok (.invokevirtual 19, 3) := by decide +kernel
theorem dX2_move_13 : decode cX2_move 13 = .ok (.ifCond .ne 4, 3) := by decide +kernel
theorem dX2_move_16 : decode cX2_move 16 = .ok (.return_, 1) := by decide +kernel
theorem dX2_move_17 : decode cX2_move 17 = .ok (.aload_n 0, 1) := by decide +kernel
theorem dX2_move_18 : decode cX2_move 18 = .ok (.getfield 9, 3) := by decide +kernel
theorem dX2_move_21 : decode cX2_move 21 = .ok (.iload_n 1, 1) := by decide +kernel
theorem dX2_move_22 : decode cX2_move 22 = .ok (.iaload, 1) := by decide +kernel
theorem dX2_move_23 : decode cX2_move 23 = .ok (.istore_n 3, 1) := by decide +kernel
theorem dX2_move_24 : decode cX2_move 24 = .ok (.iload_n 1, 1) := by decide +kernel
theorem dX2_move_25 : decode cX2_move 25 = .ok (.istore 4, 2) := by decide +kernel
theorem dX2_move_27 : decode cX2_move 27 = .ok (.iload 4, 2) := by decide +kernel
theorem dX2_move_29 : decode cX2_move 29 = .ok (.iload_n 2, 1) := by decide +kernel
theorem dX2_move_30 : decode cX2_move 30 = .ok (.if_icmp .ge 25, 3) := by decide +kernel
theorem dX2_move_33 : decode cX2_move 33 = .ok (.aload_n 0, 1) := by decide +kernel
theorem dX2_move_34 : decode cX2_move 34 = .ok (.getfield 9, 3) := by decide +kernel
theorem dX2_move_37 : decode cX2_move 37 = .ok (.iload 4, 2) := by decide +kernel
theorem dX2_move_39 : decode cX2_move 39 = .ok (.aload_n 0, 1) := by decide +kernel
theorem dX2_move_40 : decode cX2_move 40 = .ok (.getfield 9, 3) := by decide +kernel
theorem dX2_move_43 : decode cX2_move 43 = .ok (.iload 4, 2) := by decide +kernel
theorem dX2_move_45 : decode cX2_move 45 = .ok (.iconst 1, 1) := by decide +kernel
theorem dX2_move_46 : decode cX2_move 46 = .ok (.iadd, 1) := by decide +kernel
theorem dX2_move_47 : decode cX2_move 47 = .ok (.iaload, 1) := by decide +kernel
theorem dX2_move_48 : decode cX2_move 48 = .ok (.iastore, 1) := by decide +kernel
theorem dX2_move_49 : decode cX2_move 49 = .ok (.iinc 4 1, 3) := by decide +kernel
theorem dX2_move_52 : decode cX2_move 52 = .ok (.goto (-25), 3) := by decide +kernel
theorem dX2_move_55 : decode cX2_move 55 = .ok (.iload_n 1, 1) := by decide +kernel
theorem dX2_move_56 : decode cX2_move 56 = .ok (.istore 4, 2) := by decide +kernel
theorem dX2_move_58 : decode cX2_move 58 = .ok (.iload 4, 2) := by decide +kernel
theorem dX2_move_60 : decode cX2_move 60 = .ok (.iload_n 2, 1) := by decide +kernel
theorem dX2_move_61 : decode cX2_move 61 = .ok (.if_icmp .le 25, 3) := by decide +kernel
theorem dX2_move_64 : decode cX2_move 64 = .ok (.aload_n 0, 1) := by decide +kernel
theorem dX2_move_65 : decode cX2_move 65 = .ok (.getfield 9, 3) := by decide +kernel
theorem dX2_move_68 : decode cX2_move 68 = .ok (.iload 4, 2) := by decide +kernel
theorem dX2_move_70 : decode cX2_move 70 = .ok (.aload_n 0, 1) := by decide +kernel
theorem dX2_move_71 : decode cX2_move 71 = .ok (.getfield 9, 3) := by decide +kernel
theorem dX2_move_74 : decode cX2_move 74 = .ok (.iload 4, 2) := by decide +kernel
theorem dX2_move_76 : decode cX2_move 76 = .ok (.iconst 1, 1) := by decide +kernel
theorem dX2_move_77 : decode cX2_move 77 = .ok (.isub, 1) := by decide +kernel
theorem dX2_move_78 : decode cX2_move 78 = .ok (.iaload, 1) := by decide +kernel
theorem dX2_move_79 : decode cX2_move 79 = .ok (.iastore, 1) := by decide +kernel
theorem dX2_move_80 : decode cX2_move 80 = .ok (.iinc 4 (-1), 3) := by decide +kernel
theorem dX2_move_83 : decode cX2_move 83 = .ok (.goto (-25), 3) := by decide +kernel
theorem dX2_move_86 : decode cX2_move 86 = .ok (.aload_n 0, 1) := by decide +kernel
theorem dX2_move_87 : decode cX2_move 87 = .ok (.getfield 9, 3) := by decide +kernel
theorem dX2_move_90 : decode cX2_move 90 = .ok (.iload_n 2, 1) := by decide +kernel
theorem dX2_move_91 : decode cX2_move 91 = .ok (.iload_n 3, 1) := by decide +kernel
theorem dX2_move_92 : decode cX2_move 92 = .ok (.iastore, 1) := by decide +kernel
theorem dX2_move_93 : decode cX2_move 93 = .ok (.return_, 1) := by decide +kernel
theorem dX2_sort_0 : decode cX2_sort 0 = .ok (.iconst 0, 1) := by decide +kernel
theorem dX2_sort_1 : decode cX2_sort 1 = .ok (.istore_n 1, 1) := by decide +kernel
theorem dX2_sort_2 : decode cX2_sort 2 = .ok (.iload_n 1, 1) := by decide +kernel
theorem dX2_sort_3 : decode cX2_sort 3 = .ok (.aload_n 0, 1) := by decide +kernel
theorem dX2_sort_4 : decode cX2_sort 4 = .ok (.getfield 15, 3) := by decide +kernel
theorem dX2_sort_7 : decode cX2_sort 7 = .ok (.if_icmp .ge 16, 3) := by decide +kernel
theorem dX2_sort_10 : decode cX2_sort 10 = .ok (.aload_n 0, 1) := by decide +kernel
theorem dX2_sort_11 : decode cX2_sort 11 = .ok (.getfield 9, 3) := by decide +kernel
theorem dX2_sort_14 : decode cX2_sort 14 = .ok (.iload_n 1, 1) := by decide +kernel
theorem dX2_sort_15 : decode cX2_sort 15 = .ok (.iload_n 1, 1) := by decide +kernel
theorem dX2_sort_16 : decode cX2_sort 16 = .ok (.iastore, 1) := by decide +kernel
theorem dX2_sort_17 : decode cX2_sort 17 = .ok (.iinc 1 1, 3) := by decide +kernel
theorem dX2_sort_20 : decode cX2_sort 20 = .ok (.goto (-18), 3) := by decide +kernel
theorem dX2_sort_23 : decode cX2_sort 23 = .ok (.return_, 1) := by decide +kernel
set_option maxRecDepth 20000 in
theorem ggX2_toNext_X2_swap : GoodIn wsX2_toNext wsX2_swap := goodIn_r _ [7, 2, 8, 9] (by decide +kernel) (by decide +kernel)
set_option maxRecDepth 20000 in
theorem gX2_toNext_X2_swap : GoodIn wsX2_toNext (wsV RX2 23 RX2 yX2_swap wsX2_swap) := goodIn_app (goodIn_of _ (by decide +kernel)) ggX2_toNext_X2_swap
theorem dX2_toNext_0 : decode cX2_toNext 0 = .ok (.aload_n 0, 1) := by decide +kernel
theorem dX2_toNext_1 : decode cX2_toNext 1 = .ok (.getfield 15, 3) := by decide +kernel
theorem dX2_toNext_4 : decode cX2_toNext 4 = .ok (.iconst 2, 1) := by decide +kernel
theorem dX2_toNext_5 : decode cX2_toNext 5 = .ok (.isub, 1) := by decide +kernel
theorem dX2_toNext_6 : decode cX2_toNext 6 = .ok (.istore_n 1, 1) := by decide +kernel
theorem dX2_toNext_7 : decode cX2_toNext 7 = .ok (.iload_n 1, 1) := by decide +kernel
theorem dX2_toNext_8 : decode cX2_toNext 8 = .ok (.ifCond .lt 26, 3) := by decide +kernel
theorem dX2_toNext_11 : decode cX2_toNext 11 = .ok (.aload_n 0, 1) := by decide +kernel
theorem dX2_toNext_12 : decode cX2_toNext 12 = .ok (.getfield 9, 3) := by decide +kernel
theorem dX2_toNext_15 : decode cX2_toNext 15 = .ok (.iload_n 1, 1) := by decide +kernel
theorem dX2_toNext_16 : decode cX2_toNext 16 = .ok (.iaload, 1) := by decide +kernel
theorem dX2_toNext_17 : decode cX2_toNext 17 = .ok (.aload_n 0, 1) := by decide +kernel
theorem dX2_toNext_18 : decode cX2_toNext 18 = .ok (.getfield 9, 3) := by decide +kernel
theorem dX2_toNext_21 : decode cX2_toNext 21 = .ok (.iload_n 1, 1) := by decide +kernel
theorem dX2_toNext_22 : decode cX2_toNext 22 = .ok (.iconst 1, 1) := by decide +kernel
theorem dX2_toNext_23 : decode cX2_toNext 23 = .ok (.iadd, 1) := by decide +kernel
theorem dX2_toNext_24 : decode cX2_toNext 24 = .ok (.iaload, 1) := by decide +kernel
theorem dX2_toNext_25 : decode cX2_toNext 25 = .ok (.if_icmp .le 9, 3) := by decide +kernel
theorem dX2_toNext_28 : decode cX2_toNext 28 = .ok (.iinc 1 (-1), 3) := by decide +kernel
theorem dX2_toNext_31 : decode cX2_toNext 31 = .ok (.goto (-24), 3) := by decide +kernel
theorem dX2_toNext_34 : decode cX2_toNext 34 = .ok (.iload_n 1, 1) := by decide +kernel
theorem dX2_toNext_35 : decode cX2_toNext 35 = .ok (.ifCond .ge 5, 3) := by decide +kernel
theorem dX2_toNext_38 : decode cX2_toNext 38 = .ok (.iconst 0, 1) := by decide +kernel
theorem dX2_toNext_39 : decode cX2_toNext 39 = .ok (.ireturn, 1) := by decide +kernel
theorem dX2_toNext_40 : decode cX2_toNext 40 = .ok (.aload_n 0, 1) := by decide +kernel
theorem dX2_toNext_41 : decode cX2_toNext 41 = .ok (.getfield 15, 3) := by decide +kernel
theorem dX2_toNext_44 : decode cX2_toNext 44 = .ok (.iconst 1, 1) := by decide +kernel
theorem dX2_toNext_45 : decode cX2_toNext 45 = .ok (.isub, 1) := by decide +kernel
theorem dX2_toNext_46 : decode cX2_toNext 46 = .ok (.istore_n 2, 1) := by decide +kernel
theorem dX2_toNext_47 : decode cX2_toNext 47 = .ok (.iload_n 2, 1) := by decide +kernel
theorem dX2_toNext_48 : decode cX2_toNext 48 = .ok (.iload_n 1, 1) := by decide +kernel
theorem dX2_toNext_49 : decode cX2_toNext 49 = .ok (.if_icmp .le 24, 3) := by decide +kernel
theorem dX2_toNext_52 : decode cX2_toNext 52 = .ok (.aload_n 0, 1) := by decide +kernel
theorem dX2_toNext_53 : decode cX2_toNext 53 = .ok (.getfield 9, 3) := by decide +kernel
theorem dX2_toNext_56 : decode cX2_toNext 56 = .ok (.iload_n 2, 1) := by decide +kernel
theorem dX2_toNext_57 : decode cX2_toNext 57 = .ok (.iaload, 1) := by decide +kernel
theorem dX2_toNext_58 : decode cX2_toNext 58 = .ok (.aload_n 0, 1) := by decide +kernel
theorem dX2_toNext_59 : decode cX2_toNext 59 = .ok (.getfield 9, 3) := by decide +kernel
theorem dX2_toNext_62 : decode cX2_toNext 62 = .ok (.iload_n 1, 1) := by decide +kernel
theorem dX2_toNext_63 : decode cX2_toNext 63 = .ok (.iaload, 1) := by decide +kernel
theorem dX2_toNext_64 : decode cX2_toNext 64 = .ok (.if_icmp .ge 9, 3) := by decide +kernel
theorem dX2_toNext_67 : decode cX2_toNext 67 = .ok (.iinc 2 (-1), 3) := by decide +kernel
theorem dX2_toNext_70 : decode cX2_toNext 70 = .ok (.goto (-23), 3) := by decide +kernel
theorem dX2_toNext_73 : decode cX2_toNext 73 = .ok (.aload_n 0, 1) := by decide +kernel
theorem dX2_toNext_74 : decode cX2_toNext 74 = .ok (.iload_n 1, 1) := by decide +kernel
theorem dX2_toNext_75 : decode cX2_toNext 75 = .ok (.iload_n 2, 1) := by decide +kernel
theorem dX2_toNext_76 : decode cX2_toNext 76 = .ok (.invokevirtual 23, 3) := by decide +kernel
theorem dX2_toNext_79 : decode cX2_toNext 79 = .ok (.iload_n 1, 1) := by decide +kernel
theorem dX2_toNext_80 : decode cX2_toNext 80 = .ok (.iconst 1, 1) := by decide +kernel
theorem dX2_toNext_81 : decode cX2_toNext 81 = .ok (.iadd, 1) := by decide +kernel
theorem dX2_toNext_82 : decode cX2_toNext 82 = .ok (.istore_n 3, 1) := by decide +kernel
theorem dX2_toNext_83 : decode cX2_toNext 83 = .ok (.aload_n 0, 1) := by decide +kernel
theorem dX2_toNext_84 : decode cX2_toNext 84 = .ok (.getfield 15, 3) := by decide +kernel
theorem dX2_toNext_87 : decode cX2_toNext 87 = .ok (.iconst 1, 1) := by decide +kernel
theorem dX2_toNext_88 : decode cX2_toNext 88 = .ok (.isub, 1) := by decide +kernel
theorem dX2_toNext_89 : decode cX2_toNext 89 = .ok (.istore 4, 2) := by decide +kernel
theorem dX2_toNext_91 : decode cX2_toNext 91 = .ok (.iload_n 3, 1) := by decide +kernel
theorem dX2_toNext_92 : decode cX2_toNext 92 = .ok (.iload 4, 2) := by decide +kernel
theorem dX2_toNext_94 : decode cX2_toNext 94 = .ok (.if_icmp .ge 19, 3) := by decide +kernel
theorem dX2_toNext_97 : decode cX2_toNext 97 = .ok (.aload_n 0, 1) := by decide +kernel
theorem dX2_toNext_98 : decode cX2_toNext 98 = .ok (.iload_n 3, 1) := by decide +kernel
theorem dX2_toNext_99 : decode cX2_toNext 99 = .ok (.iload 4, 2) := by decide +kernel
theorem dX2_toNext_101 : decode cX2_toNext 101 = .ok (.invokevirtual 23, 3) := by decide +kernel
theorem dX2_toNext_104 : decode cX2_toNext 104 = .ok (.iinc 3 1, 3) := by decide +kernel
theorem dX2_toNext_107 : decode cX2_toNext 107 = .ok (.iinc 4 (-1), 3) := by decide +kernel
theorem dX2_toNext_110 : decode cX2_toNext 110 = .ok (.goto (-19), 3) := by decide +kernel
theorem dX2_toNext_113 : decode cX2_toNext 113 = .ok (.iconst 1, 1) := by decide +kernel
theorem dX2_toNext_114 : decode cX2_toNext 114 = .ok (.ireturn, 1) := by decide +kernel
theorem dX2_swap_0 : decode cX2_swap 0 = .ok (.aload_n 0, 1) := by decide +kernel
theorem dX2_swap_1 : decode cX2_swap 1 = .ok (.getfield 9, 3) := by decide +kernel
theorem dX2_swap_4 : decode cX2_swap 4 = .ok (.iload_n 1, 1) := by decide +kernel
theorem dX2_swap_5 : decode cX2_swap 5 = .ok (.iaload, 1) := by decide +kernel
theorem dX2_swap_6 : decode cX2_swap 6 = .ok (.istore_n 3, 1) := by decide +kernel
theorem dX2_swap_7 : decode cX2_swap 7 = .ok (.aload_n 0, 1) := by decide +kernel
theorem dX2_swap_8 : decode cX2_swap 8 = .ok (.getfield 9, 3) := by decide +kernel
theorem dX2_swap_11 : decode cX2_swap 11 = .ok (.iload_n 1, 1) := by decide +kernel
theorem dX2_swap_12 : decode cX2_swap 12 = .ok (.aload_n 0, 1) := by decide +kernel
theorem dX2_swap_13 : decode cX2_swap 13 = .ok (.getfield 9, 3) := by decide +kernel
theorem dX2_swap_16 : decode cX2_swap 16 = .ok (.iload_n 2, 1) := by decide +kernel
theorem dX2_swap_17 : decode cX2_swap 17 = .ok (.iaload, 1) := by decide +kernel
theorem dX2_swap_18 : decode cX2_swap 18 = .ok (.iastore, 1) := by decide +kernel
theorem dX2_swap_19 : decode cX2_swap 19 = .ok (.aload_n 0, 1) := by decide +kernel
theorem dX2_swap_20 : decode cX2_swap 20 = .ok (.getfield 9, 3) := by decide +kernel
theorem dX2_swap_23 : decode cX2_swap 23 = .ok (.iload_n 2, 1) := by decide +kernel
theorem dX2_swap_24 : decode cX2_swap 24 = .ok (.iload_n 3, 1) := by decide +kernel
theorem dX2_swap_25 : decode cX2_swap 25 = .ok (.iastore, 1) := by decide +kernel
theorem dX2_swap_26 : decode cX2_swap 26 = .ok (.return_, 1) := by decide +kernel
end
section
set_option maxRecDepth 20000 in
theorem ggX3_init_X0_init : GoodIn wsX3_init wsX0_init := goodIn_r _ [23, 24, 2, 3, 16, 25, 26, 27, 28, 29, 30, 31, 32, 33, 34, 35, 6, 36, 37, 38, 39, 40, 41, 42, 43, 44, 45, 46, 47, 48, 67, 68, 69, 70, 71, 72, 73, 74] (by decide +kernel) (by decide +kernel)
set_option maxRecDepth 20000 in
theorem gX3_init_X0_init_n13 : GoodIn wsX3_init (wsX0_init) := ggX3_init_X0_init
set_option maxRecDepth 20000 in
theorem ggX3_init_X1_init : GoodIn wsX3_init wsX1_init := goodIn_r _ [50, 51, 2, 3, 16, 52, 53, 54, 55, 56, 57, 58, 59, 60, 61, 83, 84, 85, 86, 87, 88, 89, 90, 91] (by decide +kernel) (by decide +kernel)
set_option maxRecDepth 20000 in
theorem gX3_init_X1_init_n20 : GoodIn wsX3_init (wsX1_init) := ggX3_init_X1_init
set_option maxRecDepth 20000 in
theorem ggX3_init_X2_init : GoodIn wsX3_init wsX2_init := goodIn_r _ [63, 64, 2, 3, 16, 65, 66, 92, 93] (by decide +kernel) (by decide +kernel)
set_option maxRecDepth 20000 in
theorem gX3_init_X2_init_n27 : GoodIn wsX3_init (wsX2_init) := ggX3_init_X2_init
theorem dX3_init_0 : decode cX3_init 0 = .ok (.aload_n 0, 1) := by decide +kernel
theorem dX3_init_1 : decode cX3_init 1 = .ok (.invokespecial 5, 3) := by decide +kernel
theorem dX3_init_4 : decode cX3_init 4 = .ok (.aload_n 0, 1) := by decide +kernel
theorem dX3_init_5 : decode cX3_init 5 = .ok (.new 11, 3) := by decide +kernel
theorem dX3_init_8 : decode cX3_init 8 = .ok (.dup, 1) := by decide +kernel
theorem dX3_init_9 : decode cX3_init 9 = .ok (.invokespecial 13, 3) := by decide +kernel
theorem dX3_init_12 : decode cX3_init 12 = .ok (.putfield 14, 3) := by decide +kernel
theorem dX3_init_15 : decode cX3_init 15 = .ok (.aload_n 0, 1) := by decide +kernel
theorem dX3_init_16 : decode cX3_init 16 = .ok (.new 18, 3) := by decide +kernel
theorem dX3_init_19 : decode cX3_init 19 = .ok (.dup, 1) := by decide +kernel
theorem dX3_init_20 : decode cX3_init 20 = .ok (.invokespecial 20, 3) := by decide +kernel
theorem dX3_init_23 : decode cX3_init 23 = .ok (.putfield 21, 3) := by decide +kernel
theorem dX3_init_26 : decode cX3_init 26 = .ok (.aload_n 0, 1) := by decide +kernel
theorem dX3_init_27 : decode cX3_init 27 = .ok (.new 25, 3) := by decide +kernel
theorem dX3_init_30 : decode cX3_init 30 = .ok (.dup, 1) := by decide +kernel
theorem dX3_init_31 : decode cX3_init 31 = .ok (.invokespecial 27, 3) := by decide +kernel
theorem dX3_init_34 : decode cX3_init 34 = .ok (.putfield 28, 3) := by decide +kernel
theorem dX3_init_37 : decode cX3_init 37 = .ok (.aload_n 0, 1) := by decide +kernel
theorem dX3_init_38 : decode cX3_init 38 = .ok (.iconst 3, 1) := by decide +kernel
theorem dX3_init_39 : decode cX3_init 39 = .ok (.newarray .int, 2) := by decide +kernel
theorem dX3_init_41 : decode cX3_init 41 = .ok (.dup, 1) := by decide +kernel
theorem dX3_init_42 : decode cX3_init 42 = .ok (.iconst 0, 1) := by decide +kernel
theorem dX3_init_43 : decode cX3_init 43 = .ok (.bipush 10, 2) := by decide +kernel
theorem dX3_init_45 : decode cX3_init 45 = .ok (.iastore, 1) := by decide +kernel
theorem dX3_init_46 : decode cX3_init 46 = .ok (.dup, 1) := by decide +kernel
theorem dX3_init_47 : decode cX3_init 47 = .ok (.iconst 1, 1) := by decide +kernel
theorem dX3_init_48 : decode cX3_init 48 = .ok (.bipush 10, 2) := by decide +kernel
theorem dX3_init_50 : decode cX3_init 50 = .ok (.iastore, 1) := by decide +kernel
theorem dX3_init_51 : decode cX3_init 51 = .ok (.dup, 1) := by decide +kernel
theorem dX3_init_52 : decode cX3_init 52 = .ok (.iconst 2, 1) := by decide +kernel
theorem dX3_init_53 : decode cX3_init 53 = .ok (.bipush 10, 2) := by decide +kernel
theorem dX3_init_55 : decode cX3_init 55 = .ok (.iastore, 1) := by decide +kernel
theorem dX3_init_56 : decode cX3_init 56 = .ok (.putfield 32, 3) := by decide +kernel
theorem dX3_init_59 : decode cX3_init 59 = .ok (.aload_n 0, 1) := by decide +kernel
theorem dX3_init_60 : decode cX3_init 60 = .ok (.iconst 5, 1) := by decide +kernel
theorem dX3_init_61 : decode cX3_init 61 = .ok (.newarray .int, 2) := by decide +kernel
theorem dX3_init_63 : decode cX3_init 63 = .ok (.putfield 36, 3) := by decide +kernel
theorem dX3_init_66 : decode cX3_init 66 = .ok (.aload_n 0, 1) := by decide +kernel
theorem dX3_init_67 : decode cX3_init 67 = .ok (.bipush 100, 2) := by decide +kernel
theorem dX3_init_69 : decode cX3_init 69 = .ok (.putfield 39, 3) := by decide +kernel
theorem dX3_init_72 : decode cX3_init 72 = .ok (.aload_n 0, 1) := by decide +kernel
theorem dX3_init_73 : decode cX3_init 73 = .ok (.iconst 0, 1) := by decide +kernel
theorem dX3_init_74 : decode cX3_init 74 = .ok (.putfield 43, 3) := by decide +kernel
theorem dX3_init_77 : decode cX3_init 77 = .ok (.aload_n 0, 1) := by decide +kernel
theorem dX3_init_78 : decode cX3_init 78 = .ok (.iconst 0, 1) := by decide +kernel
theorem dX3_init_79 : decode cX3_init 79 = .ok (.putfield 46, 3) := by decide +kernel
theorem dX3_init_82 : decode cX3_init 82 = .ok (.return_, 1) := by decide +kernel
set_option maxRecDepth 20000 in
theorem ggX3_piece_X3_isIn : GoodIn wsX3_piece wsX3_isIn := goodIn_r _ [6] (by decide +kernel) (by decide +kernel)
set_option maxRecDepth 20000 in
theorem gX3_piece_X3_isIn : GoodIn wsX3_piece (va_wsS RX3 49 yX3_isIn wsX3_isIn) := goodIn_app (goodIn_of _ (by decide +kernel)) ggX3_piece_X3_isIn
set_option maxRecDepth 20000 in
theorem ggX3_piece_X2_append : GoodIn wsX3_piece wsX2_append := goodIn_r _ [10, 11, 12, 40, 41] (by decide +kernel) (by decide +kernel)
set_option maxRecDepth 20000 in
theorem gX3_piece_X2_append_n56 : GoodIn wsX3_piece (wsX2_append) := ggX3_piece_X2_append
set_option maxRecDepth 20000 in
theorem ggX3_piece_X1_add : GoodIn wsX3_piece wsX1_add := goodIn_r _ [16, 17, 18, 19, 20, 21, 22, 31, 32, 33, 34, 35, 36, 37, 38, 39] (by decide +kernel) (by decide +kernel)
set_option maxRecDepth 20000 in
theorem gX3_piece_X1_add_n60 : GoodIn wsX3_piece (wsX1_add) := ggX3_piece_X1_add
theorem dX3_piece_0 : decode cX3_piece 0 = .ok (.iload_n 1, 1) := by decide +kernel
theorem dX3_piece_1 : decode cX3_piece 1 = .ok (.iconst 0, 1) := by decide +kernel
theorem dX3_piece_2 : decode cX3_piece 2 = .ok (.iconst 3, 1) := by decide +kernel
theorem dX3_piece_3 : decode cX3_piece 3 = .ok (.invokestatic 49, 3) := by decide +kernel
theorem dX3_piece_6 : decode cX3_piece 6 = .ok (.ifCond .eq 22, 3) := by decide +kernel
theorem dX3_piece_9 : decode cX3_piece 9 = .ok (.iload_n 2, 1) := by decide +kernel
theorem dX3_piece_10 : decode cX3_piece 10 = .ok (.iconst 0, 1) := by decide +kernel
theorem dX3_piece_11 : decode cX3_piece 11 = .ok (.iconst 5, 1) := by decide +kernel
theorem dX3_piece_12 : decode cX3_piece 12 = .ok (.invokestatic 49, 3) := by decide +kernel
theorem dX3_piece_15 : decode cX3_piece 15 = .ok (.ifCond .eq 13, 3) := by decide +kernel
theorem dX3_piece_18 : decode cX3_piece 18 = .ok (.iload 4, 2) := by decide +kernel
theorem dX3_piece_20 : decode cX3_piece 20 = .ok (.iconst 0, 1) := by decide +kernel
theorem dX3_piece_21 : decode cX3_piece 21 = .ok (.iconst 2, 1) := by decide +kernel
theorem dX3_piece_22 : decode cX3_piece 22 = .ok (.invokestatic 49, 3) := by decide +kernel
theorem dX3_piece_25 : decode cX3_piece 25 = .ok (.ifCond .ne 5, 3) := by decide +kernel
theorem dX3_piece_28 : decode cX3_piece 28 = .ok (.iconst (-1), 1) := by decide +kernel
theorem dX3_piece_29 : decode cX3_piece 29 = .ok (.ireturn, 1) := by decide +kernel
theorem dX3_piece_30 : decode cX3_piece 30 = .ok (.iload_n 3, 1) := by decide +kernel
theorem dX3_piece_31 : decode cX3_piece 31 = .ok (.iconst 1, 1) := by decide +kernel
theorem dX3_piece_32 : decode cX3_piece 32 = .ok (.sipush 200, 3) := by decide +kernel
theorem dX3_piece_35 : decode cX3_piece 35 = .ok (.invokestatic 49, 3) := by decide +kernel
theorem dX3_piece_38 : decode cX3_piece 38 = .ok (.ifCond .eq 14, 3) := by decide +kernel
theorem dX3_piece_41 : decode cX3_piece 41 = .ok (.iload 5, 2) := by decide +kernel
theorem dX3_piece_43 : decode cX3_piece 43 = .ok (.iconst 1, 1) := by decide +kernel
theorem dX3_piece_44 : decode cX3_piece 44 = .ok (.bipush 9, 2) := by decide +kernel
theorem dX3_piece_46 : decode cX3_piece 46 = .ok (.invokestatic 49, 3) := by decide +kernel
theorem dX3_piece_49 : decode cX3_piece 49 = .ok (.ifCond .ne 6, 3) := by decide +kernel
theorem dX3_piece_52 : decode cX3_piece 52 = .ok (.bipush (-2), 2) := by decide +kernel
theorem dX3_piece_54 : decode cX3_piece 54 = .ok (.ireturn, 1) := by decide +kernel
theorem dX3_piece_55 : decode cX3_piece 55 = .ok (.aload_n 0, 1) := by decide +kernel
theorem dX3_piece_56 : decode cX3_piece 56 = .ok (.getfield 21, 3) := by decide +kernel
theorem dX3_piece_59 : decode cX3_piece 59 = .ok (.getfield 53, 3) := by decide +kernel
theorem dX3_piece_62 : decode cX3_piece 62 = .ok (.bipush 10, 2) := by decide +kernel
theorem dX3_piece_64 : decode cX3_piece 64 = .ok (.if_icmp .lt 6, 3) := by decide +kernel
theorem dX3_piece_67 : decode cX3_piece 67 = .ok (.bipush (-4), 2) := by decide +kernel
theorem dX3_piece_69 : decode cX3_piece 69 = .ok (.ireturn, 1) := by decide +kernel
theorem dX3_piece_70 : decode cX3_piece 70 = .ok (.aload_n 0, 1) := by decide +kernel
theorem dX3_piece_71 : decode cX3_piece 71 = .ok (.getfield 28, 3) := by decide +kernel
theorem dX3_piece_74 : decode cX3_piece 74 = .ok (.aload_n 0, 1) := by decide +kernel
theorem dX3_piece_75 : decode cX3_piece 75 = .ok (.getfield 21, 3) := by decide +kernel
theorem dX3_piece_78 : decode cX3_piece 78 = .ok (.getfield 53, 3) := by decide +kernel
theorem dX3_piece_81 : decode cX3_piece 81 = .ok (.invokevirtual 56, 3) := by decide +kernel
theorem dX3_piece_84 : decode cX3_piece 84 = .ok (.aload_n 0, 1) := by decide +kernel
theorem dX3_piece_85 : decode cX3_piece 85 = .ok (.getfield 21, 3) := by decide +kernel
theorem dX3_piece_88 : decode cX3_piece 88 = .ok (.iload_n 1, 1) := by decide +kernel
theorem dX3_piece_89 : decode cX3_piece 89 = .ok (.iload_n 2, 1) := by decide +kernel
theorem dX3_piece_90 : decode cX3_piece 90 = .ok (.iload_n 3, 1) := by decide +kernel
theorem dX3_piece_91 : decode cX3_piece 91 = .ok (.iload 4, 2) := by decide +kernel
theorem dX3_piece_93 : decode cX3_piece 93 = .ok (.iload 5, 2) := by decide +kernel
theorem dX3_piece_95 : decode cX3_piece 95 = .ok (.invokevirtual 60, 3) := by decide +kernel
theorem dX3_piece_98 : decode cX3_piece 98 = .ok (.ireturn, 1) := by decide +kernel
set_option maxRecDepth 20000 in
theorem ggX3_ahead_X1_has : GoodIn wsX3_ahead wsX1_has := goodIn_r _ [5, 6, 32, 33, 34, 35, 36, 37, 38, 39, 40] (by decide +kernel) (by decide +kernel)
set_option maxRecDepth 20000 in
theorem gX3_ahead_X1_has_n64 : GoodIn wsX3_ahead (wsX1_has) := ggX3_ahead_X1_has
set_option maxRecDepth 20000 in
theorem ggX3_ahead_X3_isIn : GoodIn wsX3_ahead wsX3_isIn := goodIn_r _ [10] (by decide +kernel) (by decide +kernel)
set_option maxRecDepth 20000 in
theorem gX3_ahead_X3_isIn : GoodIn wsX3_ahead (va_wsS RX3 49 yX3_isIn wsX3_isIn) := goodIn_app (goodIn_of _ (by decide +kernel)) ggX3_ahead_X3_isIn
set_option maxRecDepth 20000 in
theorem ggX3_ahead_X1_mustLead : GoodIn wsX3_ahead wsX1_mustLead := goodIn_r _ [13, 6, 14, 15, 16, 17, 3, 18, 19, 20, 21, 22, 23, 32, 33, 34, 35, 36, 37, 38, 39, 40] (by decide +kernel) (by decide +kernel)
set_option maxRecDepth 20000 in
theorem gX3_ahead_X1_mustLead_n68 : GoodIn wsX3_ahead (wsX1_mustLead) := ggX3_ahead_X1_mustLead
theorem dX3_ahead_0 : decode cX3_ahead 0 = .ok (.aload_n 0, 1) := by decide +kernel
theorem dX3_ahead_1 : decode cX3_ahead 1 = .ok (.getfield 21, 3) := by decide +kernel
theorem dX3_ahead_4 : decode cX3_ahead 4 = .ok (.iload_n 1, 1) := by decide +kernel
theorem dX3_ahead_5 : decode cX3_ahead 5 = .ok (.invokevirtual 64, 3) := by decide +kernel
theorem dX3_ahead_8 : decode cX3_ahead 8 = .ok (.ifCond .eq 14, 3) := by decide +kernel
theorem dX3_ahead_11 : decode cX3_ahead 11 = .ok (.aload_n 0, 1) := by decide +kernel
theorem dX3_ahead_12 : decode cX3_ahead 12 = .ok (.getfield 21, 3) := by decide +kernel
theorem dX3_ahead_15 : decode cX3_ahead 15 = .ok (.iload_n 2, 1) := by decide +kernel
theorem dX3_ahead_16 : decode cX3_ahead 16 = .ok (.invokevirtual 64, 3) := by decide +kernel
theorem dX3_ahead_19 : decode cX3_ahead 19 = .ok (.ifCond .ne 5, 3) := by decide +kernel
theorem dX3_ahead_22 : decode cX3_ahead 22 = .ok (.iconst (-1), 1) := by decide +kernel
theorem dX3_ahead_23 : decode cX3_ahead 23 = .ok (.ireturn, 1) := by decide +kernel
theorem dX3_ahead_24 : decode cX3_ahead 24 = .ok (.iload_n 3, 1) := by decide +kernel
theorem dX3_ahead_25 : decode cX3_ahead 25 = .ok (.iconst 0, 1) := by decide +kernel
theorem dX3_ahead_26 : decode cX3_ahead 26 = .ok (.bipush 9, 2) := by decide +kernel
theorem dX3_ahead_28 : decode cX3_ahead 28 = .ok (.invokestatic 49, 3) := by decide +kernel
theorem dX3_ahead_31 : decode cX3_ahead 31 = .ok (.ifCond .eq 20, 3) := by decide +kernel
theorem dX3_ahead_34 : decode cX3_ahead 34 = .ok (.iload_n 1, 1) := by decide +kernel
theorem dX3_ahead_35 : decode cX3_ahead 35 = .ok (.iload_n 2, 1) := by decide +kernel
theorem dX3_ahead_36 : decode cX3_ahead 36 = .ok (.if_icmp .eq 15, 3) := by decide +kernel
theorem dX3_ahead_39 : decode cX3_ahead 39 = .ok (.aload_n 0, 1) := by decide +kernel
theorem dX3_ahead_40 : decode cX3_ahead 40 = .ok (.getfield 21, 3) := by decide +kernel
theorem dX3_ahead_43 : decode cX3_ahead 43 = .ok (.iload_n 2, 1) := by decide +kernel
theorem dX3_ahead_44 : decode cX3_ahead 44 = .ok (.iload_n 1, 1) := by decide +kernel
theorem dX3_ahead_45 : decode cX3_ahead 45 = .ok (.invokevirtual 68, 3) := by decide +kernel
theorem dX3_ahead_48 : decode cX3_ahead 48 = .ok (.ifCond .eq 6, 3) := by decide +kernel
theorem dX3_ahead_51 : decode cX3_ahead 51 = .ok (.bipush (-2), 2) := by decide +kernel
theorem dX3_ahead_53 : decode cX3_ahead 53 = .ok (.ireturn, 1) := by decide +kernel
theorem dX3_ahead_54 : decode cX3_ahead 54 = .ok (.aload_n 0, 1) := by decide +kernel
theorem dX3_ahead_55 : decode cX3_ahead 55 = .ok (.getfield 21, 3) := by decide +kernel
theorem dX3_ahead_58 : decode cX3_ahead 58 = .ok (.getfield 72, 3) := by decide +kernel
theorem dX3_ahead_61 : decode cX3_ahead 61 = .ok (.iload_n 1, 1) := by decide +kernel
theorem dX3_ahead_62 : decode cX3_ahead 62 = .ok (.aaload, 1) := by decide +kernel
theorem dX3_ahead_63 : decode cX3_ahead 63 = .ok (.iload_n 2, 1) := by decide +kernel
theorem dX3_ahead_64 : decode cX3_ahead 64 = .ok (.iaload, 1) := by decide +kernel
theorem dX3_ahead_65 : decode cX3_ahead 65 = .ok (.istore 4, 2) := by decide +kernel
theorem dX3_ahead_67 : decode cX3_ahead 67 = .ok (.aload_n 0, 1) := by decide +kernel
theorem dX3_ahead_68 : decode cX3_ahead 68 = .ok (.getfield 21, 3) := by decide +kernel
theorem dX3_ahead_71 : decode cX3_ahead 71 = .ok (.getfield 72, 3) := by decide +kernel
theorem dX3_ahead_74 : decode cX3_ahead 74 = .ok (.iload_n 1, 1) := by decide +kernel
theorem dX3_ahead_75 : decode cX3_ahead 75 = .ok (.aaload, 1) := by decide +kernel
theorem dX3_ahead_76 : decode cX3_ahead 76 = .ok (.iload_n 2, 1) := by decide +kernel
theorem dX3_ahead_77 : decode cX3_ahead 77 = .ok (.iload_n 3, 1) := by decide +kernel
theorem dX3_ahead_78 : decode cX3_ahead 78 = .ok (.iastore, 1) := by decide +kernel
theorem dX3_ahead_79 : decode cX3_ahead 79 = .ok (.iload 4, 2) := by decide +kernel
theorem dX3_ahead_81 : decode cX3_ahead 81 = .ok (.ireturn, 1) := by decide +kernel
set_option maxRecDepth 20000 in
theorem ggX3_form_X3_isIn : GoodIn wsX3_form wsX3_isIn := goodIn_r _ [5] (by decide +kernel) (by decide +kernel)
set_option maxRecDepth 20000 in
theorem gX3_form_X3_isIn : GoodIn wsX3_form (va_wsS RX3 49 yX3_isIn wsX3_isIn) := goodIn_app (goodIn_of _ (by decide +kernel)) ggX3_form_X3_isIn
theorem dX3_form_0 : decode cX3_form 0 = .ok (.iload_n 1, 1) := by decide +kernel
theorem dX3_form_1 : decode cX3_form 1 = .ok (.iconst 0, 1) := by decide +kernel
theorem dX3_form_2 : decode cX3_form 2 = .ok (.iconst 2, 1) := by decide +kernel
theorem dX3_form_3 : decode cX3_form 3 = .ok (.invokestatic 49, 3) := by decide +kernel
theorem dX3_form_6 : decode cX3_form 6 = .ok (.ifCond .ne 5, 3) := by decide +kernel
theorem dX3_form_9 : decode cX3_form 9 = .ok (.iconst (-1), 1) := by decide +kernel
theorem dX3_form_10 : decode cX3_form 10 = .ok (.ireturn, 1) := by decide +kernel
theorem dX3_form_11 : decode cX3_form 11 = .ok (.iload_n 2, 1) := by decide +kernel
theorem dX3_form_12 : decode cX3_form 12 = .ok (.iconst 0, 1) := by decide +kernel
theorem dX3_form_13 : decode cX3_form 13 = .ok (.bipush 50, 2) := by decide +kernel
theorem dX3_form_15 : decode cX3_form 15 = .ok (.invokestatic 49, 3) := by decide +kernel
theorem dX3_form_18 : decode cX3_form 18 = .ok (.ifCond .ne 6, 3) := by decide +kernel
theorem dX3_form_21 : decode cX3_form 21 = .ok (.bipush (-2), 2) := by decide +kernel
theorem dX3_form_23 : decode cX3_form 23 = .ok (.ireturn, 1) := by decide +kernel
theorem dX3_form_24 : decode cX3_form 24 = .ok (.aload_n 0, 1) := by decide +kernel
theorem dX3_form_25 : decode cX3_form 25 = .ok (.getfield 32, 3) := by decide +kernel
theorem dX3_form_28 : decode cX3_form 28 = .ok (.iload_n 1, 1) := by decide +kernel
theorem dX3_form_29 : decode cX3_form 29 = .ok (.iaload, 1) := by decide +kernel
theorem dX3_form_30 : decode cX3_form 30 = .ok (.istore_n 3, 1) := by decide +kernel
theorem dX3_form_31 : decode cX3_form 31 = .ok (.aload_n 0, 1) := by decide +kernel
theorem dX3_form_32 : decode cX3_form 32 = .ok (.getfield 32, 3) := by decide +kernel
theorem dX3_form_35 : decode cX3_form 35 = .ok (.iload_n 1, 1) := by decide +kernel
theorem dX3_form_36 : decode cX3_form 36 = .ok (.iload_n 2, 1) := by decide +kernel
theorem dX3_form_37 : decode cX3_form 37 = .ok (.iastore, 1) := by decide +kernel
theorem dX3_form_38 : decode cX3_form 38 = .ok (.iload_n 3, 1) := by decide +kernel
theorem dX3_form_39 : decode cX3_form 39 = .ok (.ireturn, 1) := by decide +kernel
set_option maxRecDepth 20000 in
theorem ggX3_gang_X3_isIn : GoodIn wsX3_gang wsX3_isIn := goodIn_r _ [5] (by decide +kernel) (by decide +kernel)
set_option maxRecDepth 20000 in
theorem gX3_gang_X3_isIn : GoodIn wsX3_gang (va_wsS RX3 49 yX3_isIn wsX3_isIn) := goodIn_app (goodIn_of _ (by decide +kernel)) ggX3_gang_X3_isIn
theorem dX3_gang_0 : decode cX3_gang 0 = .ok (.iload_n 1, 1) := by decide +kernel
theorem dX3_gang_1 : decode cX3_gang 1 = .ok (.iconst 1, 1) := by decide +kernel
theorem dX3_gang_2 : decode cX3_gang 2 = .ok (.sipush 1000, 3) := by decide +kernel
theorem dX3_gang_5 : decode cX3_gang 5 = .ok (.invokestatic 49, 3) := by decide +kernel
theorem dX3_gang_8 : decode cX3_gang 8 = .ok (.ifCond .ne 6, 3) := by decide +kernel
theorem dX3_gang_11 : decode cX3_gang 11 = .ok (.bipush (-2), 2) := by decide +kernel
theorem dX3_gang_13 : decode cX3_gang 13 = .ok (.ireturn, 1) := by decide +kernel
theorem dX3_gang_14 : decode cX3_gang 14 = .ok (.aload_n 0, 1) := by decide +kernel
theorem dX3_gang_15 : decode cX3_gang 15 = .ok (.getfield 39, 3) := by decide +kernel
theorem dX3_gang_18 : decode cX3_gang 18 = .ok (.istore_n 2, 1) := by decide +kernel
theorem dX3_gang_19 : decode cX3_gang 19 = .ok (.aload_n 0, 1) := by decide +kernel
theorem dX3_gang_20 : decode cX3_gang 20 = .ok (.iload_n 1, 1) := by decide +kernel
theorem dX3_gang_21 : decode cX3_gang 21 = .ok (.putfield 39, 3) := by decide +kernel
theorem dX3_gang_24 : decode cX3_gang 24 = .ok (.iload_n 2, 1) := by decide +kernel
theorem dX3_gang_25 : decode cX3_gang 25 = .ok (.ireturn, 1) := by decide +kernel
set_option maxRecDepth 20000 in
theorem ggX3_level_X3_isIn : GoodIn wsX3_level wsX3_isIn := goodIn_r _ [5] (by decide +kernel) (by decide +kernel)
set_option maxRecDepth 20000 in
theorem gX3_level_X3_isIn : GoodIn wsX3_level (va_wsS RX3 49 yX3_isIn wsX3_isIn) := goodIn_app (goodIn_of _ (by decide +kernel)) ggX3_level_X3_isIn
set_option maxRecDepth 20000 in
theorem ggX3_level_X0_renew : GoodIn wsX3_level wsX0_renew := goodIn_r _ [9, 10, 11, 12, 13, 14, 15, 16, 17, 18, 19, 20, 21, 7, 22, 23, 24, 25, 26, 27, 28, 29, 38, 39, 40, 41, 42, 43, 44, 45] (by decide +kernel) (by decide +kernel)
set_option maxRecDepth 20000 in
theorem gX3_level_X0_renew_n79 : GoodIn wsX3_level (wsX0_renew) := ggX3_level_X0_renew
theorem dX3_level_0 : decode cX3_level 0 = .ok (.iload_n 1, 1) := by decide +kernel
theorem dX3_level_1 : decode cX3_level 1 = .ok (.iconst 0, 1) := by decide +kernel
theorem dX3_level_2 : decode cX3_level 2 = .ok (.iconst 1, 1) := by decide +kernel
theorem dX3_level_3 : decode cX3_level 3 = .ok (.invokestatic 49, 3) := by decide +kernel
theorem dX3_level_6 : decode cX3_level 6 = .ok (.ifCond .ne 5, 3) := by decide +kernel
theorem dX3_level_9 : decode cX3_level 9 = .ok (.iconst (-1), 1) := by decide +kernel
theorem dX3_level_10 : decode cX3_level 10 = .ok (.ireturn, 1) := by decide +kernel
theorem dX3_level_11 : decode cX3_level 11 = .ok (.iload_n 2, 1) := by decide +kernel
theorem dX3_level_12 : decode cX3_level 12 = .ok (.iconst 0, 1) := by decide +kernel
theorem dX3_level_13 : decode cX3_level 13 = .ok (.sipush 1000, 3) := by decide +kernel
theorem dX3_level_16 : decode cX3_level 16 = .ok (.invokestatic 49, 3) := by decide +kernel
theorem dX3_level_19 : decode cX3_level 19 = .ok (.ifCond .ne 6, 3) := by decide +kernel
theorem dX3_level_22 : decode cX3_level 22 = .ok (.bipush (-2), 2) := by decide +kernel
theorem dX3_level_24 : decode cX3_level 24 = .ok (.ireturn, 1) := by decide +kernel
theorem dX3_level_25 : decode cX3_level 25 = .ok (.aload_n 0, 1) := by decide +kernel
theorem dX3_level_26 : decode cX3_level 26 = .ok (.getfield 14, 3) := by decide +kernel
theorem dX3_level_29 : decode cX3_level 29 = .ok (.getfield 76, 3) := by decide +kernel
theorem dX3_level_32 : decode cX3_level 32 = .ok (.iload_n 1, 1) := by decide +kernel
theorem dX3_level_33 : decode cX3_level 33 = .ok (.iaload, 1) := by decide +kernel
theorem dX3_level_34 : decode cX3_level 34 = .ok (.istore_n 3, 1) := by decide +kernel
theorem dX3_level_35 : decode cX3_level 35 = .ok (.aload_n 0, 1) := by decide +kernel
theorem dX3_level_36 : decode cX3_level 36 = .ok (.getfield 14, 3) := by decide +kernel
theorem dX3_level_39 : decode cX3_level 39 = .ok (.getfield 76, 3) := by decide +kernel
theorem dX3_level_42 : decode cX3_level 42 = .ok (.iload_n 1, 1) := by decide +kernel
theorem dX3_level_43 : decode cX3_level 43 = .ok (.iload_n 2, 1) := by decide +kernel
theorem dX3_level_44 : decode cX3_level 44 = .ok (.iastore, 1) := by decide +kernel
theorem dX3_level_45 : decode cX3_level 45 = .ok (.aload_n 0, 1) := by decide +kernel
theorem dX3_level_46 : decode cX3_level 46 = .ok (.getfield 14, 3) := by decide +kernel
theorem dX3_level_49 : decode cX3_level 49 = .ok (.invokevirtual 79, 3) := by decide +kernel
theorem dX3_level_52 : decode cX3_level 52 = .ok (.iload_n 3, 1) := by decide +kernel
theorem dX3_level_53 : decode cX3_level 53 = .ok (.ireturn, 1) := by decide +kernel
set_option maxRecDepth 20000 in
theorem ggX3_warm_X3_isDay : GoodIn wsX3_warm wsX3_isDay := goodIn_r _ [7, 8, 9, 6, 10] (by decide +kernel) (by decide +kernel)
set_option maxRecDepth 20000 in
theorem gX3_warm_X3_isDay : GoodIn wsX3_warm (va_wsS RX3 82 yX3_isDay wsX3_isDay) := goodIn_app (goodIn_of _ (by decide +kernel)) ggX3_warm_X3_isDay
set_option maxRecDepth 20000 in
theorem ggX3_warm_X3_isIn : GoodIn wsX3_warm wsX3_isIn := goodIn_r _ [10] (by decide +kernel) (by decide +kernel)
set_option maxRecDepth 20000 in
theorem gX3_warm_X3_isIn : GoodIn wsX3_warm (va_wsS RX3 49 yX3_isIn wsX3_isIn) := goodIn_app (goodIn_of _ (by decide +kernel)) ggX3_warm_X3_isIn
set_option maxRecDepth 20000 in
theorem ggX3_warm_X0_renew : GoodIn wsX3_warm wsX0_renew := goodIn_r _ [14, 15, 16, 17, 18, 19, 20, 21, 22, 23, 24, 25, 26, 12, 27, 28, 29, 30, 31, 32, 33, 34, 43, 44, 45, 46, 47, 48, 49, 50] (by decide +kernel) (by decide +kernel)
set_option maxRecDepth 20000 in
theorem gX3_warm_X0_renew_n79 : GoodIn wsX3_warm (wsX0_renew) := ggX3_warm_X0_renew
theorem dX3_warm_0 : decode cX3_warm 0 = .ok (.iload_n 1, 1) := by decide +kernel
theorem dX3_warm_1 : decode cX3_warm 1 = .ok (.invokestatic 82, 3) := by decide +kernel
theorem dX3_warm_4 : decode cX3_warm 4 = .ok (.ifCond .ne 6, 3) := by decide +kernel
theorem dX3_warm_7 : decode cX3_warm 7 = .ok (.ldc 87, 2) := by decide +kernel
theorem dX3_warm_9 : decode cX3_warm 9 = .ok (.ireturn, 1) := by decide +kernel
theorem dX3_warm_10 : decode cX3_warm 10 = .ok (.iload_n 2, 1) := by decide +kernel
theorem dX3_warm_11 : decode cX3_warm 11 = .ok (.bipush (-30), 2) := by decide +kernel
theorem dX3_warm_13 : decode cX3_warm 13 = .ok (.bipush 50, 2) := by decide +kernel
theorem dX3_warm_15 : decode cX3_warm 15 = .ok (.invokestatic 49, 3) := by decide +kernel
theorem dX3_warm_18 : decode cX3_warm 18 = .ok (.ifCond .ne 6, 3) := by decide +kernel
theorem dX3_warm_21 : decode cX3_warm 21 = .ok (.ldc 88, 2) := by decide +kernel
theorem dX3_warm_23 : decode cX3_warm 23 = .ok (.ireturn, 1) := by decide +kernel
theorem dX3_warm_24 : decode cX3_warm 24 = .ok (.aload_n 0, 1) := by decide +kernel
theorem dX3_warm_25 : decode cX3_warm 25 = .ok (.getfield 14, 3) := by decide +kernel
theorem dX3_warm_28 : decode cX3_warm 28 = .ok (.getfield 89, 3) := by decide +kernel
theorem dX3_warm_31 : decode cX3_warm 31 = .ok (.iload_n 1, 1) := by decide +kernel
theorem dX3_warm_32 : decode cX3_warm 32 = .ok (.iaload, 1) := by decide +kernel
theorem dX3_warm_33 : decode cX3_warm 33 = .ok (.istore_n 3, 1) := by decide +kernel
theorem dX3_warm_34 : decode cX3_warm 34 = .ok (.aload_n 0, 1) := by decide +kernel
theorem dX3_warm_35 : decode cX3_warm 35 = .ok (.getfield 14, 3) := by decide +kernel
theorem dX3_warm_38 : decode cX3_warm 38 = .ok (.getfield 89, 3) := by decide +kernel
theorem dX3_warm_41 : decode cX3_warm 41 = .ok (.iload_n 1, 1) := by decide +kernel
theorem dX3_warm_42 : decode cX3_warm 42 = .ok (.iload_n 2, 1) := by decide +kernel
theorem dX3_warm_43 : decode cX3_warm 43 = .ok (.iastore, 1) := by decide +kernel
theorem dX3_warm_44 : decode cX3_warm 44 = .ok (.aload_n 0, 1) := by decide +kernel
theorem dX3_warm_45 : decode cX3_warm 45 = .ok (.getfield 14, 3) := by decide +kernel
theorem dX3_warm_48 : decode cX3_warm 48 = .ok (.invokevirtual 79, 3) := by decide +kernel
theorem dX3_warm_51 : decode cX3_warm 51 = .ok (.iload_n 3, 1) := by decide +kernel
theorem dX3_warm_52 : decode cX3_warm 52 = .ok (.ireturn, 1) := by decide +kernel
set_option maxRecDepth 20000 in
theorem ggX3_base_X3_isIn : GoodIn wsX3_base wsX3_isIn := goodIn_r _ [5] (by decide +kernel) (by decide +kernel)
set_option maxRecDepth 20000 in
theorem gX3_base_X3_isIn : GoodIn wsX3_base (va_wsS RX3 49 yX3_isIn wsX3_isIn) := goodIn_app (goodIn_of _ (by decide +kernel)) ggX3_base_X3_isIn
set_option maxRecDepth 20000 in
theorem ggX3_base_X0_renew : GoodIn wsX3_base wsX0_renew := goodIn_r _ [9, 10, 11, 12, 13, 14, 15, 16, 17, 18, 19, 20, 21, 7, 22, 23, 24, 25, 26, 27, 28, 29, 38, 39, 40, 41, 42, 43, 44, 45] (by decide +kernel) (by decide +kernel)
set_option maxRecDepth 20000 in
theorem gX3_base_X0_renew_n79 : GoodIn wsX3_base (wsX0_renew) := ggX3_base_X0_renew
theorem dX3_base_0 : decode cX3_base 0 = .ok (.iload_n 1, 1) := by decide +kernel
theorem dX3_base_1 : decode cX3_base 1 = .ok (.iconst 0, 1) := by decide +kernel
theorem dX3_base_2 : decode cX3_base 2 = .ok (.bipush 20, 2) := by decide +kernel
theorem dX3_base_4 : decode cX3_base 4 = .ok (.invokestatic 49, 3) := by decide +kernel
theorem dX3_base_7 : decode cX3_base 7 = .ok (.ifCond .ne 6, 3) := by decide +kernel
theorem dX3_base_10 : decode cX3_base 10 = .ok (.bipush (-2), 2) := by decide +kernel
theorem dX3_base_12 : decode cX3_base 12 = .ok (.ireturn, 1) := by decide +kernel
theorem dX3_base_13 : decode cX3_base 13 = .ok (.aload_n 0, 1) := by decide +kernel
theorem dX3_base_14 : decode cX3_base 14 = .ok (.getfield 14, 3) := by decide +kernel
theorem dX3_base_17 : decode cX3_base 17 = .ok (.getfield 92, 3) := by decide +kernel
theorem dX3_base_20 : decode cX3_base 20 = .ok (.istore_n 2, 1) := by decide +kernel
theorem dX3_base_21 : decode cX3_base 21 = .ok (.aload_n 0, 1) := by decide +kernel
theorem dX3_base_22 : decode cX3_base 22 = .ok (.getfield 14, 3) := by decide +kernel
theorem dX3_base_25 : decode cX3_base 25 = .ok (.iload_n 1, 1) := by decide +kernel
theorem dX3_base_26 : decode cX3_base 26 = .ok (.putfield 92, 3) := by decide +kernel
theorem dX3_base_29 : decode cX3_base 29 = .ok (.aload_n 0, 1) := by decide +kernel
theorem dX3_base_30 : decode cX3_base 30 = .ok (.getfield 14, 3) := by decide +kernel
theorem dX3_base_33 : decode cX3_base 33 = .ok (.invokevirtual 79, 3) := by decide +kernel
theorem dX3_base_36 : decode cX3_base 36 = .ok (.iload_n 2, 1) := by decide +kernel
theorem dX3_base_37 : decode cX3_base 37 = .ok (.ireturn, 1) := by decide +kernel
set_option maxRecDepth 20000 in
theorem ggX3_point_X3_isIn : GoodIn wsX3_point wsX3_isIn := goodIn_r _ [5] (by decide +kernel) (by decide +kernel)
set_option maxRecDepth 20000 in
theorem gX3_point_X3_isIn : GoodIn wsX3_point (va_wsS RX3 49 yX3_isIn wsX3_isIn) := goodIn_app (goodIn_of _ (by decide +kernel)) ggX3_point_X3_isIn
set_option maxRecDepth 20000 in
theorem ggX3_point_X0_goesOnWith : GoodIn wsX3_point wsX0_goesOnWith := goodIn_r _ [9, 10, 11, 12, 44, 45, 46, 47, 48, 49, 50, 51] (by decide +kernel) (by decide +kernel)
set_option maxRecDepth 20000 in
theorem gX3_point_X0_goesOnWith_n95 : GoodIn wsX3_point (wsX0_goesOnWith) := ggX3_point_X0_goesOnWith
set_option maxRecDepth 20000 in
theorem ggX3_point_X0_addPoint : GoodIn wsX3_point wsX0_addPoint := goodIn_r _ [15, 10, 11, 12, 44, 45, 46, 47, 48, 49, 50, 51] (by decide +kernel) (by decide +kernel)
set_option maxRecDepth 20000 in
theorem gX3_point_X0_addPoint_n101 : GoodIn wsX3_point (wsX0_addPoint) := ggX3_point_X0_addPoint
set_option maxRecDepth 20000 in
theorem ggX3_point_X0_renew : GoodIn wsX3_point wsX0_renew := goodIn_r _ [18, 19, 20, 21, 22, 23, 24, 25, 26, 27, 28, 29, 30, 7, 31, 32, 33, 34, 35, 10, 11, 12, 44, 45, 46, 47, 48, 49, 50, 51] (by decide +kernel) (by decide +kernel)
set_option maxRecDepth 20000 in
theorem gX3_point_X0_renew_n79 : GoodIn wsX3_point (wsX0_renew) := ggX3_point_X0_renew
theorem dX3_point_0 : decode cX3_point 0 = .ok (.iload_n 1, 1) := by decide +kernel
theorem dX3_point_1 : decode cX3_point 1 = .ok (.iconst 1, 1) := by decide +kernel
theorem dX3_point_2 : decode cX3_point 2 = .ok (.sipush 2000, 3) := by decide +kernel
theorem dX3_point_5 : decode cX3_point 5 = .ok (.invokestatic 49, 3) := by decide +kernel
theorem dX3_point_8 : decode cX3_point 8 = .ok (.ifCond .eq 26, 3) := by decide +kernel
theorem dX3_point_11 : decode cX3_point 11 = .ok (.iload_n 2, 1) := by decide +kernel
theorem dX3_point_12 : decode cX3_point 12 = .ok (.iconst 0, 1) := by decide +kernel
theorem dX3_point_13 : decode cX3_point 13 = .ok (.sipush 1000, 3) := by decide +kernel
theorem dX3_point_16 : decode cX3_point 16 = .ok (.invokestatic 49, 3) := by decide +kernel
theorem dX3_point_19 : decode cX3_point 19 = .ok (.ifCond .eq 15, 3) := by decide +kernel
theorem dX3_point_22 : decode cX3_point 22 = .ok (.aload_n 0, 1) := by decide +kernel
theorem dX3_point_23 : decode cX3_point 23 = .ok (.getfield 14, 3) := by decide +kernel
theorem dX3_point_26 : decode cX3_point 26 = .ok (.iload_n 1, 1) := by decide +kernel
theorem dX3_point_27 : decode cX3_point 27 = .ok (.iload_n 2, 1) := by decide +kernel
theorem dX3_point_28 : decode cX3_point 28 = .ok (.invokevirtual 95, 3) := by decide +kernel
theorem dX3_point_31 : decode cX3_point 31 = .ok (.ifCond .ne 6, 3) := by decide +kernel
theorem dX3_point_34 : decode cX3_point 34 = .ok (.bipush (-2), 2) := by decide +kernel
theorem dX3_point_36 : decode cX3_point 36 = .ok (.ireturn, 1) := by decide +kernel
theorem dX3_point_37 : decode cX3_point 37 = .ok (.aload_n 0, 1) := by decide +kernel
theorem dX3_point_38 : decode cX3_point 38 = .ok (.getfield 14, 3) := by decide +kernel
theorem dX3_point_41 : decode cX3_point 41 = .ok (.getfield 98, 3) := by decide +kernel
theorem dX3_point_44 : decode cX3_point 44 = .ok (.bipush 6, 2) := by decide +kernel
theorem dX3_point_46 : decode cX3_point 46 = .ok (.if_icmp .lt 6, 3) := by decide +kernel
theorem dX3_point_49 : decode cX3_point 49 = .ok (.bipush (-4), 2) := by decide +kernel
theorem dX3_point_51 : decode cX3_point 51 = .ok (.ireturn, 1) := by decide +kernel
theorem dX3_point_52 : decode cX3_point 52 = .ok (.aload_n 0, 1) := by decide +kernel
theorem dX3_point_53 : decode cX3_point 53 = .ok (.getfield 14, 3) := by decide +kernel
theorem dX3_point_56 : decode cX3_point 56 = .ok (.iload_n 1, 1) := by decide +kernel
theorem dX3_point_57 : decode cX3_point 57 = .ok (.iload_n 2, 1) := by decide +kernel
theorem dX3_point_58 : decode cX3_point 58 = .ok (.invokevirtual 101, 3) := by decide +kernel
theorem dX3_point_61 : decode cX3_point 61 = .ok (.aload_n 0, 1) := by decide +kernel
theorem dX3_point_62 : decode cX3_point 62 = .ok (.getfield 14, 3) := by decide +kernel
theorem dX3_point_65 : decode cX3_point 65 = .ok (.invokevirtual 79, 3) := by decide +kernel
theorem dX3_point_68 : decode cX3_point 68 = .ok (.aload_n 0, 1) := by decide +kernel
theorem dX3_point_69 : decode cX3_point 69 = .ok (.getfield 14, 3) := by decide +kernel
theorem dX3_point_72 : decode cX3_point 72 = .ok (.getfield 98, 3) := by decide +kernel
theorem dX3_point_75 : decode cX3_point 75 = .ok (.ireturn, 1) := by decide +kernel
set_option maxRecDepth 20000 in
theorem ggX3_unpoint_X0_renew : GoodIn wsX3_unpoint wsX0_renew := goodIn_r _ [5, 6, 7, 8, 9, 10, 11, 12, 13, 14, 15, 16, 17, 3, 18, 19, 20, 21, 22, 23, 24, 25, 34, 35, 36, 37, 38, 39, 40, 41] (by decide +kernel) (by decide +kernel)
set_option maxRecDepth 20000 in
theorem gX3_unpoint_X0_renew_n79 : GoodIn wsX3_unpoint (wsX0_renew) := ggX3_unpoint_X0_renew
theorem dX3_unpoint_0 : decode cX3_unpoint 0 = .ok (.aload_n 0, 1) := by decide +kernel
theorem dX3_unpoint_1 : decode cX3_unpoint 1 = .ok (.getfield 14, 3) := by decide +kernel
theorem dX3_unpoint_4 : decode cX3_unpoint 4 = .ok (.getfield 98, 3) := by decide +kernel
theorem dX3_unpoint_7 : decode cX3_unpoint 7 = .ok (.istore_n 1, 1) := by decide +kernel
theorem dX3_unpoint_8 : decode cX3_unpoint 8 = .ok (.aload_n 0, 1) := by decide +kernel
theorem dX3_unpoint_9 : decode cX3_unpoint 9 = .ok (.getfield 14, 3) := by decide +kernel
theorem dX3_unpoint_12 : decode cX3_unpoint 12 = .ok (.iconst 0, 1) := by decide +kernel
theorem dX3_unpoint_13 : decode cX3_unpoint 13 = .ok (.putfield 98, 3) := by decide +kernel
theorem dX3_unpoint_16 : decode cX3_unpoint 16 = .ok (.aload_n 0, 1) := by decide +kernel
theorem dX3_unpoint_17 : decode cX3_unpoint 17 = .ok (.getfield 14, 3) := by decide +kernel
theorem dX3_unpoint_20 : decode cX3_unpoint 20 = .ok (.invokevirtual 79, 3) := by decide +kernel
theorem dX3_unpoint_23 : decode cX3_unpoint 23 = .ok (.iload_n 1, 1) := by decide +kernel
theorem dX3_unpoint_24 : decode cX3_unpoint 24 = .ok (.ireturn, 1) := by decide +kernel
set_option maxRecDepth 20000 in
theorem ggX3_table_X0_hardnessOf : GoodIn wsX3_table wsX0_hardnessOf := goodIn_r _ [5, 6, 7, 8, 17, 18, 19, 20, 21, 22, 23, 24] (by decide +kernel) (by decide +kernel)
set_option maxRecDepth 20000 in
theorem gX3_table_X0_hardnessOf_n105 : GoodIn wsX3_table (wsX0_hardnessOf) := ggX3_table_X0_hardnessOf
theorem dX3_table_0 : decode cX3_table 0 = .ok (.iload_n 1, 1) := by decide +kernel
theorem dX3_table_1 : decode cX3_table 1 = .ok (.ifCond .ge 8, 3) := by decide +kernel
theorem dX3_table_4 : decode cX3_table 4 = .ok (.bipush (-2), 2) := by decide +kernel
theorem dX3_table_6 : decode cX3_table 6 = .ok (.goto 11, 3) := by decide +kernel
theorem dX3_table_9 : decode cX3_table 9 = .ok (.aload_n 0, 1) := by decide +kernel
theorem dX3_table_10 : decode cX3_table 10 = .ok (.getfield 14, 3) := by decide +kernel
theorem dX3_table_13 : decode cX3_table 13 = .ok (.iload_n 1, 1) := by decide +kernel
theorem dX3_table_14 : decode cX3_table 14 = .ok (.invokevirtual 105, 3) := by decide +kernel
theorem dX3_table_17 : decode cX3_table 17 = .ok (.ireturn, 1) := by decide +kernel
set_option maxRecDepth 20000 in
theorem ggX3_plan_X3_pourAnew : GoodIn wsX3_plan wsX3_pourAnew := goodIn_r _ [6, 7, 8, 9, 10, 11, 12, 13, 14, 15, 16, 17, 18, 19, 20, 21, 5, 22, 23, 24, 25, 26, 27, 28, 29, 30, 31, 32, 33, 34, 35, 36, 37, 38, 39, 40, 41, 42, 43, 44, 45, 46, 47, 48, 49, 50, 51, 52, 53, 54, 55, 56, 57, 58, 59, 60, 61, 62, 63, 64, 65, 66, 67, 68, 69, 70, 71, 72, 73, 74, 75, 76, 77, 78, 79, 80, 81, 82, 83, 84, 85, 86, 87, 88, 89, 90, 91, 92, 93, 94, 95, 96, 97, 98, 99, 100, 101, 102, 103, 104, 105, 106, 107, 108, 109, 110, 111, 112, 113, 114] (by decide +kernel) (by decide +kernel)
set_option maxRecDepth 20000 in
theorem gX3_plan_X3_pourAnew : GoodIn wsX3_plan (wsV RX3 109 RX3 yX3_pourAnew wsX3_pourAnew) := goodIn_app (goodIn_of _ (by decide +kernel)) ggX3_plan_X3_pourAnew
theorem dX3_plan_0 : decode cX3_plan 0 = .ok (.aload_n 0, 1) := by decide +kernel
theorem dX3_plan_1 : decode cX3_plan 1 = .ok (.aload_n 0, 1) := by decide +kernel
theorem dX3_plan_2 : decode cX3_plan 2 = .ok (.invokevirtual 109, 3) := by decide +kernel
theorem dX3_plan_5 : decode cX3_plan 5 = .ok (.putfield 46, 3) := by decide +kernel
theorem dX3_plan_8 : decode cX3_plan 8 = .ok (.aload_n 0, 1) := by decide +kernel
theorem dX3_plan_9 : decode cX3_plan 9 = .ok (.getfield 46, 3) := by decide +kernel
theorem dX3_plan_12 : decode cX3_plan 12 = .ok (.ireturn, 1) := by decide +kernel
set_option maxRecDepth 20000 in
theorem ggX3_order_X1_has : GoodIn wsX3_order wsX1_has := goodIn_r _ [6, 7, 29, 30, 31, 32, 33, 34, 35, 36, 37] (by decide +kernel) (by decide +kernel)
set_option maxRecDepth 20000 in
theorem gX3_order_X1_has_n64 : GoodIn wsX3_order (wsX1_has) := ggX3_order_X1_has
set_option maxRecDepth 20000 in
theorem ggX3_order_X2_placeOf : GoodIn wsX3_order wsX2_placeOf := goodIn_r _ [11, 12, 13, 38, 39] (by decide +kernel) (by decide +kernel)
set_option maxRecDepth 20000 in
theorem gX3_order_X2_placeOf_n113 : GoodIn wsX3_order (wsX2_placeOf) := ggX3_order_X2_placeOf
set_option maxRecDepth 20000 in
theorem ggX3_order_X2_move : GoodIn wsX3_order wsX2_move := goodIn_r _ [16, 13, 17, 18, 19, 9, 20, 12, 38, 39] (by decide +kernel) (by decide +kernel)
set_option maxRecDepth 20000 in
theorem gX3_order_X2_move_n116 : GoodIn wsX3_order (wsX2_move) := ggX3_order_X2_move
theorem dX3_order_0 : decode cX3_order 0 = .ok (.aload_n 0, 1) := by decide +kernel
theorem dX3_order_1 : decode cX3_order 1 = .ok (.getfield 21, 3) := by decide +kernel
theorem dX3_order_4 : decode cX3_order 4 = .ok (.iload_n 1, 1) := by decide +kernel
theorem dX3_order_5 : decode cX3_order 5 = .ok (.invokevirtual 64, 3) := by decide +kernel
theorem dX3_order_8 : decode cX3_order 8 = .ok (.ifCond .eq 14, 3) := by decide +kernel
theorem dX3_order_11 : decode cX3_order 11 = .ok (.aload_n 0, 1) := by decide +kernel
theorem dX3_order_12 : decode cX3_order 12 = .ok (.getfield 21, 3) := by decide +kernel
theorem dX3_order_15 : decode cX3_order 15 = .ok (.iload_n 2, 1) := by decide +kernel
theorem dX3_order_16 : decode cX3_order 16 = .ok (.invokevirtual 64, 3) := by decide +kernel
theorem dX3_order_19 : decode cX3_order 19 = .ok (.ifCond .ne 5, 3) := by decide +kernel
theorem dX3_order_22 : decode cX3_order 22 = .ok (.iconst (-1), 1) := by decide +kernel
theorem dX3_order_23 : decode cX3_order 23 = .ok (.ireturn, 1) := by decide +kernel
theorem dX3_order_24 : decode cX3_order 24 = .ok (.aload_n 0, 1) := by decide +kernel
theorem dX3_order_25 : decode cX3_order 25 = .ok (.getfield 28, 3) := by decide +kernel
theorem dX3_order_28 : decode cX3_order 28 = .ok (.iload_n 1, 1) := by decide +kernel
theorem dX3_order_29 : decode cX3_order 29 = .ok (.invokevirtual 113, 3) := by decide +kernel
theorem dX3_order_32 : decode cX3_order 32 = .ok (.istore_n 3, 1) := by decide +kernel
theorem dX3_order_33 : decode cX3_order 33 = .ok (.aload_n 0, 1) := by decide +kernel
theorem dX3_order_34 : decode cX3_order 34 = .ok (.getfield 28, 3) := by decide +kernel
theorem dX3_order_37 : decode cX3_order 37 = .ok (.iload_n 3, 1) := by decide +kernel
theorem dX3_order_38 : decode cX3_order 38 = .ok (.iload_n 2, 1) := by decide +kernel
theorem dX3_order_39 : decode cX3_order 39 = .ok (.invokevirtual 116, 3) := by decide +kernel
theorem dX3_order_42 : decode cX3_order 42 = .ok (.iload_n 3, 1) := by decide +kernel
theorem dX3_order_43 : decode cX3_order 43 = .ok (.ireturn, 1) := by decide +kernel
set_option maxRecDepth 20000 in
theorem ggX3_best_X2_sort : GoodIn wsX3_best wsX2_sort := goodIn_r _ [11, 12, 13, 124, 125] (by decide +kernel) (by decide +kernel)
set_option maxRecDepth 20000 in
theorem gX3_best_X2_sort_n119 : GoodIn wsX3_best (wsX2_sort) := ggX3_best_X2_sort
set_option maxRecDepth 20000 in
theorem ggX3_best_X3_pourAnew : GoodIn wsX3_best wsX3_pourAnew := goodIn_r _ [18, 1, 19, 2, 20, 21, 22, 23, 24, 25, 26, 27, 28, 29, 30, 31, 17, 32, 33, 34, 35, 36, 37, 38, 39, 40, 41, 42, 43, 44, 45, 9, 46, 47, 12, 13, 48, 49, 50, 51, 52, 53, 54, 55, 56, 57, 58, 59, 60, 61, 62, 63, 64, 65, 66, 67, 68, 69, 70, 71, 72, 73, 74, 75, 76, 77, 78, 79, 80, 81, 82, 83, 84, 85, 86, 87, 88, 89, 90, 91, 92, 93, 94, 107, 108, 109, 110, 111, 112, 113, 114, 115, 116, 117, 118, 119, 120, 121, 122, 123, 124, 125, 126, 127, 128, 129, 130, 131, 132, 133] (by decide +kernel) (by decide +kernel)
set_option maxRecDepth 20000 in
theorem gX3_best_X3_pourAnew : GoodIn wsX3_best (wsV RX3 109 RX3 yX3_pourAnew wsX3_pourAnew) := goodIn_app (goodIn_of _ (by decide +kernel)) ggX3_best_X3_pourAnew
set_option maxRecDepth 20000 in
theorem ggX3_best_X2_toNext : GoodIn wsX3_best wsX2_toNext := goodIn_r _ [97, 12, 13, 98, 99, 100, 9, 101, 124, 125] (by decide +kernel) (by decide +kernel)
set_option maxRecDepth 20000 in
theorem gX3_best_X2_toNext_n131 : GoodIn wsX3_best (wsX2_toNext) := ggX3_best_X2_toNext
set_option maxRecDepth 20000 in
theorem ggX3_best_X3_plan : GoodIn wsX3_best wsX3_plan := goodIn_r _ [105, 106, 14, 15, 16, 17, 18, 1, 19, 2, 20, 21, 22, 23, 24, 25, 26, 27, 28, 29, 30, 31, 32, 33, 34, 35, 36, 37, 38, 39, 40, 41, 42, 43, 44, 45, 9, 46, 47, 12, 13, 48, 49, 50, 51, 52, 53, 54, 55, 56, 57, 58, 59, 60, 61, 62, 63, 64, 65, 66, 67, 68, 69, 70, 71, 72, 73, 74, 75, 76, 77, 78, 79, 80, 81, 82, 83, 84, 85, 86, 87, 88, 89, 90, 91, 92, 93, 94, 107, 108, 109, 110, 111, 112, 113, 114, 115, 116, 117, 118, 119, 120, 121, 122, 123, 124, 125, 126, 127, 128, 129, 130, 131, 132, 133] (by decide +kernel) (by decide +kernel)
set_option maxRecDepth 20000 in
theorem gX3_best_X3_plan : GoodIn wsX3_best (wsV RX3 135 RX3 yX3_plan wsX3_plan) := goodIn_app (goodIn_of _ (by decide +kernel)) ggX3_best_X3_plan
theorem dX3_best_0 : decode cX3_best 0 = .ok (.aload_n 0, 1) := by decide +kernel
theorem dX3_best_1 : decode cX3_best 1 = .ok (.getfield 21, 3) := by decide +kernel
theorem dX3_best_4 : decode cX3_best 4 = .ok (.getfield 53, 3) := by decide +kernel
theorem dX3_best_7 : decode cX3_best 7 = .ok (.istore_n 1, 1) := by decide +kernel
theorem dX3_best_8 : decode cX3_best 8 = .ok (.iload_n 1, 1) := by decide +kernel
theorem dX3_best_9 : decode cX3_best 9 = .ok (.iconst 1, 1) := by decide +kernel
theorem dX3_best_10 : decode cX3_best 10 = .ok (.if_icmp .lt 8, 3) := by decide +kernel
theorem dX3_best_13 : decode cX3_best 13 = .ok (.iload_n 1, 1) := by decide +kernel
theorem dX3_best_14 : decode cX3_best 14 = .ok (.iconst 5, 1) := by decide +kernel
theorem dX3_best_15 : decode cX3_best 15 = .ok (.if_icmp .le 6, 3) := by decide +kernel
theorem dX3_best_18 : decode cX3_best 18 = .ok (.bipush (-3), 2) := by decide +kernel
theorem dX3_best_20 : decode cX3_best 20 = .ok (.ireturn, 1) := by decide +kernel
theorem dX3_best_21 : decode cX3_best 21 = .ok (.bipush 41, 2) := by decide +kernel
theorem dX3_best_23 : decode cX3_best 23 = .ok (.istore_n 2, 1) := by decide +kernel
theorem dX3_best_24 : decode cX3_best 24 = .ok (.aload_n 0, 1) := by decide +kernel
theorem dX3_best_25 : decode cX3_best 25 = .ok (.getfield 28, 3) := by decide +kernel
theorem dX3_best_28 : decode cX3_best 28 = .ok (.invokevirtual 119, 3) := by decide +kernel
theorem dX3_best_31 : decode cX3_best 31 = .ok (.iconst 0, 1) := by decide +kernel
theorem dX3_best_32 : decode cX3_best 32 = .ok (.istore_n 3, 1) := by decide +kernel
theorem dX3_best_33 : decode cX3_best 33 = .ok (.iload_n 3, 1) := by decide +kernel
theorem dX3_best_34 : decode cX3_best 34 = .ok (.bipush 120, 2) := by decide +kernel
theorem dX3_best_36 : decode cX3_best 36 = .ok (.if_icmp .ge 54, 3) := by decide +kernel
theorem dX3_best_39 : decode cX3_best 39 = .ok (.aload_n 0, 1) := by decide +kernel
theorem dX3_best_40 : decode cX3_best 40 = .ok (.invokevirtual 109, 3) := by decide +kernel
theorem dX3_best_43 : decode cX3_best 43 = .ok (.istore 4, 2) := by decide +kernel
theorem dX3_best_45 : decode cX3_best 45 = .ok (.iload 4, 2) := by decide +kernel
theorem dX3_best_47 : decode cX3_best 47 = .ok (.iload_n 2, 1) := by decide +kernel
theorem dX3_best_48 : decode cX3_best 48 = .ok (.if_icmp .ge 23, 3) := by decide +kernel
theorem dX3_best_51 : decode cX3_best 51 = .ok (.iload 4, 2) := by decide +kernel
theorem dX3_best_53 : decode cX3_best 53 = .ok (.istore_n 2, 1) := by decide +kernel
theorem dX3_best_54 : decode cX3_best 54 = .ok (.aload_n 0, 1) := by decide +kernel
theorem dX3_best_55 : decode cX3_best 55 = .ok (.getfield 28, 3) := by decide +kernel
theorem dX3_best_58 : decode cX3_best 58 = .ok (.getfield 122, 3) := by decide +kernel
theorem dX3_best_61 : decode cX3_best 61 = .ok (.iconst 0, 1) := by decide +kernel
theorem dX3_best_62 : decode cX3_best 62 = .ok (.aload_n 0, 1) := by decide +kernel
theorem dX3_best_63 : decode cX3_best 63 = .ok (.getfield 36, 3) := by decide +kernel
theorem dX3_best_66 : decode cX3_best 66 = .ok (.iconst 0, 1) := by decide +kernel
theorem dX3_best_67 : decode cX3_best 67 = .ok (.iload_n 1, 1) := by decide +kernel
theorem dX3_best_68 : decode cX3_best 68 = .ok (.invokestatic 125, 3) := by decide +kernel
theorem dX3_best_71 : decode cX3_best 71 = .ok (.aload_n 0, 1) := by decide +kernel
theorem dX3_best_72 : decode cX3_best 72 = .ok (.getfield 28, 3) := by decide +kernel
theorem dX3_best_75 : decode cX3_best 75 = .ok (.invokevirtual 131, 3) := by decide +kernel
theorem dX3_best_78 : decode cX3_best 78 = .ok (.ifCond .ne 6, 3) := by decide +kernel
theorem dX3_best_81 : decode cX3_best 81 = .ok (.goto 9, 3) := by decide +kernel
theorem dX3_best_84 : decode cX3_best 84 = .ok (.iinc 3 1, 3) := by decide +kernel
theorem dX3_best_87 : decode cX3_best 87 = .ok (.goto (-54), 3) := by decide +kernel
theorem dX3_best_90 : decode cX3_best 90 = .ok (.aload_n 0, 1) := by decide +kernel
theorem dX3_best_91 : decode cX3_best 91 = .ok (.getfield 36, 3) := by decide +kernel
theorem dX3_best_94 : decode cX3_best 94 = .ok (.iconst 0, 1) := by decide +kernel
theorem dX3_best_95 : decode cX3_best 95 = .ok (.aload_n 0, 1) := by decide +kernel
theorem dX3_best_96 : decode cX3_best 96 = .ok (.getfield 28, 3) := by decide +kernel
theorem dX3_best_99 : decode cX3_best 99 = .ok (.getfield 122, 3) := by decide +kernel
theorem dX3_best_102 : decode cX3_best 102 = .ok (.iconst 0, 1) := by decide +kernel
theorem dX3_best_103 : decode cX3_best 103 = .ok (.iload_n 1, 1) := by decide +kernel
theorem dX3_best_104 : decode cX3_best 104 = .ok (.invokestatic 125, 3) := by decide +kernel
theorem dX3_best_107 : decode cX3_best 107 = .ok (.aload_n 0, 1) := by decide +kernel
theorem dX3_best_108 : decode cX3_best 108 = .ok (.invokevirtual 135, 3) := by decide +kernel
theorem dX3_best_111 : decode cX3_best 111 = .ok (.ireturn, 1) := by decide +kernel
set_option maxRecDepth 20000 in
theorem ggX3_better_X3_pourAnew : GoodIn wsX3_better wsX3_pourAnew := goodIn_r _ [6, 7, 8, 9, 10, 11, 12, 13, 14, 15, 16, 17, 18, 19, 20, 21, 5, 22, 23, 24, 25, 26, 27, 28, 29, 30, 31, 32, 33, 34, 35, 36, 37, 38, 39, 40, 41, 42, 43, 44, 45, 46, 47, 48, 49, 50, 51, 52, 53, 54, 55, 56, 57, 58, 59, 60, 61, 62, 63, 64, 65, 66, 67, 68, 69, 70, 71, 72, 73, 74, 75, 76, 77, 78, 79, 80, 81, 82, 83, 84, 85, 86, 87, 99, 100, 101, 102, 103, 104, 105, 106, 107, 108, 109, 110, 111, 112, 113, 114, 115, 116, 117, 118, 119, 120, 121, 122, 123, 124, 125] (by decide +kernel) (by decide +kernel)
set_option maxRecDepth 20000 in
theorem gX3_better_X3_pourAnew : GoodIn wsX3_better (wsV RX3 109 RX3 yX3_pourAnew wsX3_pourAnew) := goodIn_app (goodIn_of _ (by decide +kernel)) ggX3_better_X3_pourAnew
set_option maxRecDepth 20000 in
theorem ggX3_better_X3_endOfFirstGoodChange : GoodIn wsX3_better wsX3_endOfFirstGoodChange := goodIn_r _ [91, 7, 9, 92, 36, 93, 94, 40, 95, 96, 97, 98, 39, 2, 3, 4, 5, 6, 8, 10, 11, 12, 13, 14, 15, 16, 17, 18, 19, 20, 21, 22, 23, 24, 25, 26, 27, 28, 29, 30, 31, 32, 33, 34, 35, 37, 38, 41, 42, 43, 44, 45, 46, 47, 48, 49, 50, 51, 52, 53, 54, 55, 56, 57, 58, 59, 60, 61, 62, 63, 64, 65, 66, 67, 68, 69, 70, 71, 72, 73, 74, 75, 76, 77, 78, 79, 80, 81, 82, 83, 84, 85, 86, 87, 99, 100, 101, 102, 103, 104, 105, 106, 107, 108, 109, 110, 111, 112, 113, 114, 115, 116, 117, 118, 119, 120, 121, 122, 123, 124, 125] (by decide +kernel) (by decide +kernel)
set_option maxRecDepth 20000 in
theorem gX3_better_X3_endOfFirstGoodChange : GoodIn wsX3_better (wsV RX3 138 RX3 yX3_endOfFirstGoodChange wsX3_endOfFirstGoodChange) := goodIn_app (goodIn_of _ (by decide +kernel)) ggX3_better_X3_endOfFirstGoodChange
theorem dX3_better_0 : decode cX3_better 0 = .ok (.iconst 0, 1) := by decide +kernel
theorem dX3_better_1 : decode cX3_better 1 = .ok (.istore_n 1, 1) := by decide +kernel
theorem dX3_better_2 : decode cX3_better 2 = .ok (.aload_n 0, 1) := by decide +kernel
theorem dX3_better_3 : decode cX3_better 3 = .ok (.invokevirtual 109, 3) := by decide +kernel
theorem dX3_better_6 : decode cX3_better 6 = .ok (.istore_n 2, 1) := by decide +kernel
theorem dX3_better_7 : decode cX3_better 7 = .ok (.iconst 0, 1) := by decide +kernel
theorem dX3_better_8 : decode cX3_better 8 = .ok (.istore_n 3, 1) := by decide +kernel
theorem dX3_better_9 : decode cX3_better 9 = .ok (.iload_n 3, 1) := by decide +kernel
theorem dX3_better_10 : decode cX3_better 10 = .ok (.bipush 10, 2) := by decide +kernel
theorem dX3_better_12 : decode cX3_better 12 = .ok (.if_icmp .ge 31, 3) := by decide +kernel
theorem dX3_better_15 : decode cX3_better 15 = .ok (.aload_n 0, 1) := by decide +kernel
theorem dX3_better_16 : decode cX3_better 16 = .ok (.iload_n 2, 1) := by decide +kernel
theorem dX3_better_17 : decode cX3_better 17 = .ok (.invokevirtual 138, 3) := by decide +kernel
theorem dX3_better_20 : decode cX3_better 20 = .ok (.istore 4, 2) := by decide +kernel
theorem dX3_better_22 : decode cX3_better 22 = .ok (.iload 4, 2) := by decide +kernel
theorem dX3_better_24 : decode cX3_better 24 = .ok (.iload_n 2, 1) := by decide +kernel
theorem dX3_better_25 : decode cX3_better 25 = .ok (.if_icmp .lt 6, 3) := by decide +kernel
theorem dX3_better_28 : decode cX3_better 28 = .ok (.goto 15, 3) := by decide +kernel
theorem dX3_better_31 : decode cX3_better 31 = .ok (.iload 4, 2) := by decide +kernel
theorem dX3_better_33 : decode cX3_better 33 = .ok (.istore_n 2, 1) := by decide +kernel
theorem dX3_better_34 : decode cX3_better 34 = .ok (.iinc 1 1, 3) := by decide +kernel
theorem dX3_better_37 : decode cX3_better 37 = .ok (.iinc 3 1, 3) := by decide +kernel
theorem dX3_better_40 : decode cX3_better 40 = .ok (.goto (-31), 3) := by decide +kernel
theorem dX3_better_43 : decode cX3_better 43 = .ok (.aload_n 0, 1) := by decide +kernel
theorem dX3_better_44 : decode cX3_better 44 = .ok (.aload_n 0, 1) := by decide +kernel
theorem dX3_better_45 : decode cX3_better 45 = .ok (.invokevirtual 109, 3) := by decide +kernel
theorem dX3_better_48 : decode cX3_better 48 = .ok (.putfield 46, 3) := by decide +kernel
theorem dX3_better_51 : decode cX3_better 51 = .ok (.iload_n 1, 1) := by decide +kernel
theorem dX3_better_52 : decode cX3_better 52 = .ok (.ireturn, 1) := by decide +kernel
set_option maxRecDepth 20000 in
theorem ggX3_now_X3_isDay : GoodIn wsX3_now wsX3_isDay := goodIn_r _ [6, 7, 8, 5, 9] (by decide +kernel) (by decide +kernel)
set_option maxRecDepth 20000 in
theorem gX3_now_X3_isDay : GoodIn wsX3_now (va_wsS RX3 82 yX3_isDay wsX3_isDay) := goodIn_app (goodIn_of _ (by decide +kernel)) ggX3_now_X3_isDay
set_option maxRecDepth 20000 in
theorem ggX3_now_X1_unpourFrom : GoodIn wsX3_now wsX1_unpourFrom := goodIn_r _ [13, 14, 15, 24, 25, 26, 27, 28, 29, 30, 31, 32] (by decide +kernel) (by decide +kernel)
set_option maxRecDepth 20000 in
theorem gX3_now_X1_unpourFrom_n141 : GoodIn wsX3_now (wsX1_unpourFrom) := ggX3_now_X1_unpourFrom
theorem dX3_now_0 : decode cX3_now 0 = .ok (.iload_n 1, 1) := by decide +kernel
theorem dX3_now_1 : decode cX3_now 1 = .ok (.invokestatic 82, 3) := by decide +kernel
theorem dX3_now_4 : decode cX3_now 4 = .ok (.ifCond .ne 5, 3) := by decide +kernel
theorem dX3_now_7 : decode cX3_now 7 = .ok (.iconst (-1), 1) := by decide +kernel
theorem dX3_now_8 : decode cX3_now 8 = .ok (.ireturn, 1) := by decide +kernel
theorem dX3_now_9 : decode cX3_now 9 = .ok (.iload_n 1, 1) := by decide +kernel
theorem dX3_now_10 : decode cX3_now 10 = .ok (.aload_n 0, 1) := by decide +kernel
theorem dX3_now_11 : decode cX3_now 11 = .ok (.getfield 43, 3) := by decide +kernel
theorem dX3_now_14 : decode cX3_now 14 = .ok (.if_icmp .ge 6, 3) := by decide +kernel
theorem dX3_now_17 : decode cX3_now 17 = .ok (.bipush (-2), 2) := by decide +kernel
theorem dX3_now_19 : decode cX3_now 19 = .ok (.ireturn, 1) := by decide +kernel
theorem dX3_now_20 : decode cX3_now 20 = .ok (.aload_n 0, 1) := by decide +kernel
theorem dX3_now_21 : decode cX3_now 21 = .ok (.iload_n 1, 1) := by decide +kernel
theorem dX3_now_22 : decode cX3_now 22 = .ok (.putfield 43, 3) := by decide +kernel
theorem dX3_now_25 : decode cX3_now 25 = .ok (.aload_n 0, 1) := by decide +kernel
theorem dX3_now_26 : decode cX3_now 26 = .ok (.getfield 21, 3) := by decide +kernel
theorem dX3_now_29 : decode cX3_now 29 = .ok (.iload_n 1, 1) := by decide +kernel
theorem dX3_now_30 : decode cX3_now 30 = .ok (.invokevirtual 141, 3) := by decide +kernel
theorem dX3_now_33 : decode cX3_now 33 = .ok (.ireturn, 1) := by decide +kernel
set_option maxRecDepth 20000 in
theorem ggX3_bound_X1_longestLead : GoodIn wsX3_bound wsX1_longestLead := goodIn_r _ [5, 6, 7, 8, 9, 10, 11, 12, 13, 14, 3, 15, 16, 25, 26, 27, 28, 29, 30, 31, 32, 33] (by decide +kernel) (by decide +kernel)
set_option maxRecDepth 20000 in
theorem gX3_bound_X1_longestLead_n144 : GoodIn wsX3_bound (wsX1_longestLead) := ggX3_bound_X1_longestLead
theorem dX3_bound_0 : decode cX3_bound 0 = .ok (.aload_n 0, 1) := by decide +kernel
theorem dX3_bound_1 : decode cX3_bound 1 = .ok (.getfield 21, 3) := by decide +kernel
theorem dX3_bound_4 : decode cX3_bound 4 = .ok (.getfield 53, 3) := by decide +kernel
theorem dX3_bound_7 : decode cX3_bound 7 = .ok (.ifCond .ne 7, 3) := by decide +kernel
theorem dX3_bound_10 : decode cX3_bound 10 = .ok (.iconst 0, 1) := by decide +kernel
theorem dX3_bound_11 : decode cX3_bound 11 = .ok (.goto 12, 3) := by decide +kernel
theorem dX3_bound_14 : decode cX3_bound 14 = .ok (.aload_n 0, 1) := by decide +kernel
theorem dX3_bound_15 : decode cX3_bound 15 = .ok (.getfield 21, 3) := by decide +kernel
theorem dX3_bound_18 : decode cX3_bound 18 = .ok (.invokevirtual 144, 3) := by decide +kernel
theorem dX3_bound_21 : decode cX3_bound 21 = .ok (.iconst 1, 1) := by decide +kernel
theorem dX3_bound_22 : decode cX3_bound 22 = .ok (.iadd, 1) := by decide +kernel
theorem dX3_bound_23 : decode cX3_bound 23 = .ok (.ireturn, 1) := by decide +kernel
set_option maxRecDepth 20000 in
theorem ggX3_about_X1_has : GoodIn wsX3_about wsX1_has := goodIn_r _ [7, 8, 28, 29, 30, 31, 32, 33, 34, 35, 36] (by decide +kernel) (by decide +kernel)
set_option maxRecDepth 20000 in
theorem gX3_about_X1_has_n64 : GoodIn wsX3_about (wsX1_has) := ggX3_about_X1_has
set_option maxRecDepth 20000 in
theorem ggX3_about_X0_stripDayFor : GoodIn wsX3_about wsX0_stripDayFor := goodIn_r _ [12, 13, 37, 38, 39, 40, 41, 42, 43, 44] (by decide +kernel) (by decide +kernel)
set_option maxRecDepth 20000 in
theorem gX3_about_X0_stripDayFor_n165 : GoodIn wsX3_about (wsX0_stripDayFor) := ggX3_about_X0_stripDayFor
set_option maxRecDepth 20000 in
theorem ggX3_about_X2_placeOf : GoodIn wsX3_about wsX2_placeOf := goodIn_r _ [17, 18, 19, 45, 46] (by decide +kernel) (by decide +kernel)
set_option maxRecDepth 20000 in
theorem gX3_about_X2_placeOf_n113 : GoodIn wsX3_about (wsX2_placeOf) := ggX3_about_X2_placeOf
theorem dX3_about_0 : decode cX3_about 0 = .ok (.aload_n 0, 1) := by decide +kernel
theorem dX3_about_1 : decode cX3_about 1 = .ok (.getfield 21, 3) := by decide +kernel
theorem dX3_about_4 : decode cX3_about 4 = .ok (.iload_n 1, 1) := by decide +kernel
theorem dX3_about_5 : decode cX3_about 5 = .ok (.invokevirtual 64, 3) := by decide +kernel
theorem dX3_about_8 : decode cX3_about 8 = .ok (.ifCond .ne 5, 3) := by decide +kernel
theorem dX3_about_11 : decode cX3_about 11 = .ok (.iconst (-1), 1) := by decide +kernel
theorem dX3_about_12 : decode cX3_about 12 = .ok (.ireturn, 1) := by decide +kernel
theorem dX3_about_13 : decode cX3_about 13 = .ok (.iload_n 2, 1) := by decide +kernel
theorem dX3_about_14 : decode cX3_about 14 = .ok (.tableswitch 149 0 7 #[46, 56, 66, 76, 86, 96, 106, 140], 46) := by decide +kernel
theorem dX3_about_60 : decode cX3_about 60 = .ok (.aload_n 0, 1) := by decide +kernel
theorem dX3_about_61 : decode cX3_about 61 = .ok (.getfield 21, 3) := by decide +kernel
theorem dX3_about_64 : decode cX3_about 64 = .ok (.getfield 147, 3) := by decide +kernel
theorem dX3_about_67 : decode cX3_about 67 = .ok (.iload_n 1, 1) := by decide +kernel
theorem dX3_about_68 : decode cX3_about 68 = .ok (.iaload, 1) := by decide +kernel
theorem dX3_about_69 : decode cX3_about 69 = .ok (.ireturn, 1) := by decide +kernel
theorem dX3_about_70 : decode cX3_about 70 = .ok (.aload_n 0, 1) := by decide +kernel
theorem dX3_about_71 : decode cX3_about 71 = .ok (.getfield 21, 3) := by decide +kernel
theorem dX3_about_74 : decode cX3_about 74 = .ok (.getfield 150, 3) := by decide +kernel
theorem dX3_about_77 : decode cX3_about 77 = .ok (.iload_n 1, 1) := by decide +kernel
theorem dX3_about_78 : decode cX3_about 78 = .ok (.iaload, 1) := by decide +kernel
theorem dX3_about_79 : decode cX3_about 79 = .ok (.ireturn, 1) := by decide +kernel
theorem dX3_about_80 : decode cX3_about 80 = .ok (.aload_n 0, 1) := by decide +kernel
theorem dX3_about_81 : decode cX3_about 81 = .ok (.getfield 21, 3) := by decide +kernel
theorem dX3_about_84 : decode cX3_about 84 = .ok (.getfield 153, 3) := by decide +kernel
theorem dX3_about_87 : decode cX3_about 87 = .ok (.iload_n 1, 1) := by decide +kernel
theorem dX3_about_88 : decode cX3_about 88 = .ok (.iaload, 1) := by decide +kernel
theorem dX3_about_89 : decode cX3_about 89 = .ok (.ireturn, 1) := by decide +kernel
theorem dX3_about_90 : decode cX3_about 90 = .ok (.aload_n 0, 1) := by decide +kernel
theorem dX3_about_91 : decode cX3_about 91 = .ok (.getfield 21, 3) := by decide +kernel
theorem dX3_about_94 : decode cX3_about 94 = .ok (.getfield 156, 3) := by decide +kernel
theorem dX3_about_97 : decode cX3_about 97 = .ok (.iload_n 1, 1) := by decide +kernel
theorem dX3_about_98 : decode cX3_about 98 = .ok (.iaload, 1) := by decide +kernel
theorem dX3_about_99 : decode cX3_about 99 = .ok (.ireturn, 1) := by decide +kernel
theorem dX3_about_100 : decode cX3_about 100 = .ok (.aload_n 0, 1) := by decide +kernel
theorem dX3_about_101 : decode cX3_about 101 = .ok (.getfield 21, 3) := by decide +kernel
theorem dX3_about_104 : decode cX3_about 104 = .ok (.getfield 159, 3) := by decide +kernel
theorem dX3_about_107 : decode cX3_about 107 = .ok (.iload_n 1, 1) := by decide +kernel
theorem dX3_about_108 : decode cX3_about 108 = .ok (.iaload, 1) := by decide +kernel
theorem dX3_about_109 : decode cX3_about 109 = .ok (.ireturn, 1) := by decide +kernel
theorem dX3_about_110 : decode cX3_about 110 = .ok (.aload_n 0, 1) := by decide +kernel
theorem dX3_about_111 : decode cX3_about 111 = .ok (.getfield 21, 3) := by decide +kernel
theorem dX3_about_114 : decode cX3_about 114 = .ok (.getfield 162, 3) := by decide +kernel
theorem dX3_about_117 : decode cX3_about 117 = .ok (.iload_n 1, 1) := by decide +kernel
theorem dX3_about_118 : decode cX3_about 118 = .ok (.iaload, 1) := by decide +kernel
theorem dX3_about_119 : decode cX3_about 119 = .ok (.ireturn, 1) := by decide +kernel
theorem dX3_about_120 : decode cX3_about 120 = .ok (.aload_n 0, 1) := by decide +kernel
theorem dX3_about_121 : decode cX3_about 121 = .ok (.getfield 21, 3) := by decide +kernel
theorem dX3_about_124 : decode cX3_about 124 = .ok (.getfield 162, 3) := by decide +kernel
theorem dX3_about_127 : decode cX3_about 127 = .ok (.iload_n 1, 1) := by decide +kernel
theorem dX3_about_128 : decode cX3_about 128 = .ok (.iaload, 1) := by decide +kernel
theorem dX3_about_129 : decode cX3_about 129 = .ok (.iconst (-1), 1) := by decide +kernel
theorem dX3_about_130 : decode cX3_about 130 = .ok (.if_icmp .ne 7, 3) := by decide +kernel
theorem dX3_about_133 : decode cX3_about 133 = .ok (.iconst (-1), 1) := by decide +kernel
theorem dX3_about_134 : decode cX3_about 134 = .ok (.goto 19, 3) := by decide +kernel
theorem dX3_about_137 : decode cX3_about 137 = .ok (.aload_n 0, 1) := by decide +kernel
theorem dX3_about_138 : decode cX3_about 138 = .ok (.getfield 14, 3) := by decide +kernel
theorem dX3_about_141 : decode cX3_about 141 = .ok (.aload_n 0, 1) := by decide +kernel
theorem dX3_about_142 : decode cX3_about 142 = .ok (.getfield 21, 3) := by decide +kernel
theorem dX3_about_145 : decode cX3_about 145 = .ok (.getfield 162, 3) := by decide +kernel
theorem dX3_about_148 : decode cX3_about 148 = .ok (.iload_n 1, 1) := by decide +kernel
theorem dX3_about_149 : decode cX3_about 149 = .ok (.iaload, 1) := by decide +kernel
theorem dX3_about_150 : decode cX3_about 150 = .ok (.invokevirtual 165, 3) := by decide +kernel
theorem dX3_about_153 : decode cX3_about 153 = .ok (.ireturn, 1) := by decide +kernel
theorem dX3_about_154 : decode cX3_about 154 = .ok (.aload_n 0, 1) := by decide +kernel
theorem dX3_about_155 : decode cX3_about 155 = .ok (.getfield 28, 3) := by decide +kernel
theorem dX3_about_158 : decode cX3_about 158 = .ok (.iload_n 1, 1) := by decide +kernel
theorem dX3_about_159 : decode cX3_about 159 = .ok (.invokevirtual 113, 3) := by decide +kernel
theorem dX3_about_162 : decode cX3_about 162 = .ok (.ireturn, 1) := by decide +kernel
theorem dX3_about_163 : decode cX3_about 163 = .ok (.iconst (-1), 1) := by decide +kernel
theorem dX3_about_164 : decode cX3_about 164 = .ok (.ireturn, 1) := by decide +kernel
set_option maxRecDepth 20000 in
theorem ggX3_hard_X1_has : GoodIn wsX3_hard wsX1_has := goodIn_r _ [6, 7, 35, 36, 37, 38, 39, 40, 41, 42, 43] (by decide +kernel) (by decide +kernel)
set_option maxRecDepth 20000 in
theorem gX3_hard_X1_has_n64 : GoodIn wsX3_hard (wsX1_has) := ggX3_hard_X1_has
set_option maxRecDepth 20000 in
theorem ggX3_hard_X3_isDay : GoodIn wsX3_hard wsX3_isDay := goodIn_r _ [11, 12, 13, 10, 14] (by decide +kernel) (by decide +kernel)
set_option maxRecDepth 20000 in
theorem gX3_hard_X3_isDay : GoodIn wsX3_hard (va_wsS RX3 82 yX3_isDay wsX3_isDay) := goodIn_app (goodIn_of _ (by decide +kernel)) ggX3_hard_X3_isDay
set_option maxRecDepth 20000 in
theorem ggX3_hard_X0_hardnessOn : GoodIn wsX3_hard wsX0_hardnessOn := goodIn_r _ [18, 19, 20, 21, 22, 16, 23, 24, 25, 26, 44, 45, 46, 47, 48, 49, 50, 51] (by decide +kernel) (by decide +kernel)
set_option maxRecDepth 20000 in
theorem gX3_hard_X0_hardnessOn_n168 : GoodIn wsX3_hard (wsX0_hardnessOn) := ggX3_hard_X0_hardnessOn
theorem dX3_hard_0 : decode cX3_hard 0 = .ok (.aload_n 0, 1) := by decide +kernel
theorem dX3_hard_1 : decode cX3_hard 1 = .ok (.getfield 21, 3) := by decide +kernel
theorem dX3_hard_4 : decode cX3_hard 4 = .ok (.iload_n 1, 1) := by decide +kernel
theorem dX3_hard_5 : decode cX3_hard 5 = .ok (.invokevirtual 64, 3) := by decide +kernel
theorem dX3_hard_8 : decode cX3_hard 8 = .ok (.ifCond .eq 30, 3) := by decide +kernel
theorem dX3_hard_11 : decode cX3_hard 11 = .ok (.iload_n 2, 1) := by decide +kernel
theorem dX3_hard_12 : decode cX3_hard 12 = .ok (.invokestatic 82, 3) := by decide +kernel
theorem dX3_hard_15 : decode cX3_hard 15 = .ok (.ifCond .eq 23, 3) := by decide +kernel
theorem dX3_hard_18 : decode cX3_hard 18 = .ok (.aload_n 0, 1) := by decide +kernel
theorem dX3_hard_19 : decode cX3_hard 19 = .ok (.getfield 14, 3) := by decide +kernel
theorem dX3_hard_22 : decode cX3_hard 22 = .ok (.aload_n 0, 1) := by decide +kernel
theorem dX3_hard_23 : decode cX3_hard 23 = .ok (.getfield 21, 3) := by decide +kernel
theorem dX3_hard_26 : decode cX3_hard 26 = .ok (.getfield 162, 3) := by decide +kernel
theorem dX3_hard_29 : decode cX3_hard 29 = .ok (.iload_n 1, 1) := by decide +kernel
theorem dX3_hard_30 : decode cX3_hard 30 = .ok (.iaload, 1) := by decide +kernel
theorem dX3_hard_31 : decode cX3_hard 31 = .ok (.iload_n 2, 1) := by decide +kernel
theorem dX3_hard_32 : decode cX3_hard 32 = .ok (.invokevirtual 168, 3) := by decide +kernel
theorem dX3_hard_35 : decode cX3_hard 35 = .ok (.goto 4, 3) := by decide +kernel
theorem dX3_hard_38 : decode cX3_hard 38 = .ok (.iconst (-1), 1) := by decide +kernel
theorem dX3_hard_39 : decode cX3_hard 39 = .ok (.ireturn, 1) := by decide +kernel
set_option maxRecDepth 20000 in
theorem ggX3_why_X1_has : GoodIn wsX3_why wsX1_has := goodIn_r _ [5, 6, 85, 86, 87, 88, 89, 90, 91, 92, 93] (by decide +kernel) (by decide +kernel)
set_option maxRecDepth 20000 in
theorem gX3_why_X1_has_n64 : GoodIn wsX3_why (wsX1_has) := ggX3_why_X1_has
set_option maxRecDepth 20000 in
theorem ggX3_why_X3_isDay : GoodIn wsX3_why wsX3_isDay := goodIn_r _ [10, 11, 12, 9, 13] (by decide +kernel) (by decide +kernel)
set_option maxRecDepth 20000 in
theorem gX3_why_X3_isDay : GoodIn wsX3_why (va_wsS RX3 82 yX3_isDay wsX3_isDay) := goodIn_app (goodIn_of _ (by decide +kernel)) ggX3_why_X3_isDay
set_option maxRecDepth 20000 in
theorem ggX3_why_X3_hindrance : GoodIn wsX3_why wsX3_hindrance := goodIn_r _ [17, 1, 18, 19, 20, 21, 9, 22, 23, 24, 25, 26, 27, 28, 3, 29, 30, 31, 32, 33, 34, 35, 36, 37, 38, 39, 40, 41, 42, 43, 44, 45, 46, 47, 48, 49, 50, 51, 52, 53, 54, 55, 56, 57, 58, 59, 60, 61, 62, 63, 64, 65, 66, 67, 68, 69, 70, 71, 72, 73, 74, 75, 76, 77, 78, 79, 80, 81, 82, 83, 84, 85, 86, 87, 88, 89, 90, 91, 92, 93, 94, 95, 96, 97, 98, 99, 100, 101, 102, 103] (by decide +kernel) (by decide +kernel)
set_option maxRecDepth 20000 in
theorem gX3_why_X3_hindrance : GoodIn wsX3_why (wsV RX3 172 RX3 yX3_hindrance wsX3_hindrance) := goodIn_app (goodIn_of _ (by decide +kernel)) ggX3_why_X3_hindrance
theorem dX3_why_0 : decode cX3_why 0 = .ok (.aload_n 0, 1) := by decide +kernel
theorem dX3_why_1 : decode cX3_why 1 = .ok (.getfield 21, 3) := by decide +kernel
theorem dX3_why_4 : decode cX3_why 4 = .ok (.iload_n 1, 1) := by decide +kernel
theorem dX3_why_5 : decode cX3_why 5 = .ok (.invokevirtual 64, 3) := by decide +kernel
theorem dX3_why_8 : decode cX3_why 8 = .ok (.ifCond .eq 19, 3) := by decide +kernel
theorem dX3_why_11 : decode cX3_why 11 = .ok (.iload_n 2, 1) := by decide +kernel
theorem dX3_why_12 : decode cX3_why 12 = .ok (.invokestatic 82, 3) := by decide +kernel
theorem dX3_why_15 : decode cX3_why 15 = .ok (.ifCond .eq 12, 3) := by decide +kernel
theorem dX3_why_18 : decode cX3_why 18 = .ok (.aload_n 0, 1) := by decide +kernel
theorem dX3_why_19 : decode cX3_why 19 = .ok (.iload_n 1, 1) := by decide +kernel
theorem dX3_why_20 : decode cX3_why 20 = .ok (.iload_n 2, 1) := by decide +kernel
theorem dX3_why_21 : decode cX3_why 21 = .ok (.invokevirtual 172, 3) := by decide +kernel
theorem dX3_why_24 : decode cX3_why 24 = .ok (.goto 4, 3) := by decide +kernel
theorem dX3_why_27 : decode cX3_why 27 = .ok (.iconst (-1), 1) := by decide +kernel
theorem dX3_why_28 : decode cX3_why 28 = .ok (.ireturn, 1) := by decide +kernel
set_option maxRecDepth 20000 in
theorem ggX3_free_X3_isIn : GoodIn wsX3_free wsX3_isIn := goodIn_r _ [4] (by decide +kernel) (by decide +kernel)
set_option maxRecDepth 20000 in
theorem gX3_free_X3_isIn : GoodIn wsX3_free (va_wsS RX3 49 yX3_isIn wsX3_isIn) := goodIn_app (goodIn_of _ (by decide +kernel)) ggX3_free_X3_isIn
set_option maxRecDepth 20000 in
theorem ggX3_free_X3_isDay : GoodIn wsX3_free wsX3_isDay := goodIn_r _ [7, 1, 2, 3, 4] (by decide +kernel) (by decide +kernel)
set_option maxRecDepth 20000 in
theorem gX3_free_X3_isDay : GoodIn wsX3_free (va_wsS RX3 82 yX3_isDay wsX3_isDay) := goodIn_app (goodIn_of _ (by decide +kernel)) ggX3_free_X3_isDay
set_option maxRecDepth 20000 in
theorem ggX3_free_X3_formsLeft : GoodIn wsX3_free wsX3_formsLeft := goodIn_r _ [11, 12, 13, 14, 15, 16, 3, 17, 18, 19, 20, 21, 22, 23, 24, 25, 26, 27, 28, 29, 30, 31, 32, 33, 34, 35, 36, 37, 38, 39, 40, 41, 42, 43, 44, 45, 46, 47, 48, 49, 50, 51, 52, 53] (by decide +kernel) (by decide +kernel)
set_option maxRecDepth 20000 in
theorem gX3_free_X3_formsLeft : GoodIn wsX3_free (wsV RX3 175 RX3 yX3_formsLeft wsX3_formsLeft) := goodIn_app (goodIn_of _ (by decide +kernel)) ggX3_free_X3_formsLeft
theorem dX3_free_0 : decode cX3_free 0 = .ok (.iload_n 1, 1) := by decide +kernel
theorem dX3_free_1 : decode cX3_free 1 = .ok (.iconst 0, 1) := by decide +kernel
theorem dX3_free_2 : decode cX3_free 2 = .ok (.iconst 2, 1) := by decide +kernel
theorem dX3_free_3 : decode cX3_free 3 = .ok (.invokestatic 49, 3) := by decide +kernel
theorem dX3_free_6 : decode cX3_free 6 = .ok (.ifCond .eq 20, 3) := by decide +kernel
theorem dX3_free_9 : decode cX3_free 9 = .ok (.iload_n 2, 1) := by decide +kernel
theorem dX3_free_10 : decode cX3_free 10 = .ok (.invokestatic 82, 3) := by decide +kernel
theorem dX3_free_13 : decode cX3_free 13 = .ok (.ifCond .eq 13, 3) := by decide +kernel
theorem dX3_free_16 : decode cX3_free 16 = .ok (.aload_n 0, 1) := by decide +kernel
theorem dX3_free_17 : decode cX3_free 17 = .ok (.iload_n 1, 1) := by decide +kernel
theorem dX3_free_18 : decode cX3_free 18 = .ok (.iload_n 2, 1) := by decide +kernel
theorem dX3_free_19 : decode cX3_free 19 = .ok (.iconst (-1), 1) := by decide +kernel
theorem dX3_free_20 : decode cX3_free 20 = .ok (.invokevirtual 175, 3) := by decide +kernel
theorem dX3_free_23 : decode cX3_free 23 = .ok (.goto 4, 3) := by decide +kernel
theorem dX3_free_26 : decode cX3_free 26 = .ok (.iconst (-1), 1) := by decide +kernel
theorem dX3_free_27 : decode cX3_free 27 = .ok (.ireturn, 1) := by decide +kernel
set_option maxRecDepth 20000 in
theorem ggX3_poured_X3_isDay : GoodIn wsX3_poured wsX3_isDay := goodIn_r _ [4, 5, 6, 3, 7] (by decide +kernel) (by decide +kernel)
set_option maxRecDepth 20000 in
theorem gX3_poured_X3_isDay : GoodIn wsX3_poured (va_wsS RX3 82 yX3_isDay wsX3_isDay) := goodIn_app (goodIn_of _ (by decide +kernel)) ggX3_poured_X3_isDay
set_option maxRecDepth 20000 in
theorem ggX3_poured_X3_volumeOn : GoodIn wsX3_poured wsX3_volumeOn := goodIn_r _ [11, 12, 13, 14, 15, 16, 17, 18, 19, 20, 21, 22, 23, 24, 25, 26, 27, 28, 29] (by decide +kernel) (by decide +kernel)
set_option maxRecDepth 20000 in
theorem gX3_poured_X3_volumeOn : GoodIn wsX3_poured (wsV RX3 179 RX3 yX3_volumeOn wsX3_volumeOn) := goodIn_app (goodIn_of _ (by decide +kernel)) ggX3_poured_X3_volumeOn
theorem dX3_poured_0 : decode cX3_poured 0 = .ok (.iload_n 1, 1) := by decide +kernel
theorem dX3_poured_1 : decode cX3_poured 1 = .ok (.invokestatic 82, 3) := by decide +kernel
theorem dX3_poured_4 : decode cX3_poured 4 = .ok (.ifCond .eq 12, 3) := by decide +kernel
theorem dX3_poured_7 : decode cX3_poured 7 = .ok (.aload_n 0, 1) := by decide +kernel
theorem dX3_poured_8 : decode cX3_poured 8 = .ok (.iload_n 1, 1) := by decide +kernel
theorem dX3_poured_9 : decode cX3_poured 9 = .ok (.iconst (-1), 1) := by decide +kernel
theorem dX3_poured_10 : decode cX3_poured 10 = .ok (.invokevirtual 179, 3) := by decide +kernel
theorem dX3_poured_13 : decode cX3_poured 13 = .ok (.goto 4, 3) := by decide +kernel
theorem dX3_poured_16 : decode cX3_poured 16 = .ok (.iconst (-1), 1) := by decide +kernel
theorem dX3_poured_17 : decode cX3_poured 17 = .ok (.ireturn, 1) := by decide +kernel
set_option maxRecDepth 20000 in
theorem ggX3_borne_X1_has : GoodIn wsX3_borne wsX1_has := goodIn_r _ [7, 8, 59, 60, 61, 62, 63, 64, 65, 66, 67] (by decide +kernel) (by decide +kernel)
set_option maxRecDepth 20000 in
theorem gX3_borne_X1_has_n64 : GoodIn wsX3_borne (wsX1_has) := ggX3_borne_X1_has
set_option maxRecDepth 20000 in
theorem ggX3_borne_X3_isDay : GoodIn wsX3_borne wsX3_isDay := goodIn_r _ [12, 13, 14, 11, 15] (by decide +kernel) (by decide +kernel)
set_option maxRecDepth 20000 in
theorem gX3_borne_X3_isDay : GoodIn wsX3_borne (va_wsS RX3 82 yX3_isDay wsX3_isDay) := goodIn_app (goodIn_of _ (by decide +kernel)) ggX3_borne_X3_isDay
set_option maxRecDepth 20000 in
theorem ggX3_borne_X3_isIn : GoodIn wsX3_borne wsX3_isIn := goodIn_r _ [15] (by decide +kernel) (by decide +kernel)
set_option maxRecDepth 20000 in
theorem gX3_borne_X3_isIn : GoodIn wsX3_borne (va_wsS RX3 49 yX3_isIn wsX3_isIn) := goodIn_app (goodIn_of _ (by decide +kernel)) ggX3_borne_X3_isIn
set_option maxRecDepth 20000 in
theorem ggX3_borne_X1_standsOn : GoodIn wsX3_borne wsX1_standsOn := goodIn_r _ [18, 19, 59, 60, 61, 62, 63, 64, 65, 66, 67] (by decide +kernel) (by decide +kernel)
set_option maxRecDepth 20000 in
theorem gX3_borne_X1_standsOn_n184 : GoodIn wsX3_borne (wsX1_standsOn) := ggX3_borne_X1_standsOn
set_option maxRecDepth 20000 in
theorem ggX3_borne_X0_hardnessOn : GoodIn wsX3_borne wsX0_hardnessOn := goodIn_r _ [23, 24, 25, 26, 27, 21, 28, 29, 30, 31, 68, 69, 70, 71, 72, 73, 74, 75] (by decide +kernel) (by decide +kernel)
set_option maxRecDepth 20000 in
theorem gX3_borne_X0_hardnessOn_n168 : GoodIn wsX3_borne (wsX0_hardnessOn) := ggX3_borne_X0_hardnessOn
set_option maxRecDepth 20000 in
theorem ggX3_borne_X3_hardnessBelow : GoodIn wsX3_borne wsX3_hardnessBelow := goodIn_r _ [35, 1, 3, 13, 14, 11, 15, 16, 5, 17, 18, 19, 20, 21, 22, 23, 24, 25, 26, 27, 28, 29, 30, 31, 51, 52, 53, 54, 55, 56, 57, 58, 59, 60, 61, 62, 63, 64, 65, 66, 67, 68, 69, 70, 71, 72, 73, 74, 75] (by decide +kernel) (by decide +kernel)
set_option maxRecDepth 20000 in
theorem gX3_borne_X3_hardnessBelow : GoodIn wsX3_borne (wsV RX3 187 RX3 yX3_hardnessBelow wsX3_hardnessBelow) := goodIn_app (goodIn_of _ (by decide +kernel)) ggX3_borne_X3_hardnessBelow
set_option maxRecDepth 20000 in
theorem ggX3_borne_X3_loadOf : GoodIn wsX3_borne wsX3_loadOf := goodIn_r _ [39, 1, 40, 41, 42, 11, 43, 3, 16, 5, 17, 18, 19, 44, 21, 45, 46, 47, 51, 52, 53, 54, 55, 56, 57, 58, 59, 60, 61, 62, 63, 64, 65, 66, 67, 68, 69, 70, 71, 72, 73, 74, 75] (by decide +kernel) (by decide +kernel)
set_option maxRecDepth 20000 in
theorem gX3_borne_X3_loadOf : GoodIn wsX3_borne (wsV RX3 191 RX3 yX3_loadOf wsX3_loadOf) := goodIn_app (goodIn_of _ (by decide +kernel)) ggX3_borne_X3_loadOf
set_option maxRecDepth 20000 in
theorem ggX3_borne_X3_commonDivisor : GoodIn wsX3_borne wsX3_commonDivisor := goodIn_r _ [50] (by decide +kernel) (by decide +kernel)
set_option maxRecDepth 20000 in
theorem gX3_borne_X3_commonDivisor : GoodIn wsX3_borne (va_wsS RX3 194 yX3_commonDivisor wsX3_commonDivisor) := goodIn_app (goodIn_of _ (by decide +kernel)) ggX3_borne_X3_commonDivisor
theorem dX3_borne_0 : decode cX3_borne 0 = .ok (.aload_n 0, 1) := by decide +kernel
theorem dX3_borne_1 : decode cX3_borne 1 = .ok (.getfield 21, 3) := by decide +kernel
theorem dX3_borne_4 : decode cX3_borne 4 = .ok (.iload_n 1, 1) := by decide +kernel
theorem dX3_borne_5 : decode cX3_borne 5 = .ok (.invokevirtual 64, 3) := by decide +kernel
theorem dX3_borne_8 : decode cX3_borne 8 = .ok (.ifCond .eq 19, 3) := by decide +kernel
theorem dX3_borne_11 : decode cX3_borne 11 = .ok (.iload_n 2, 1) := by decide +kernel
theorem dX3_borne_12 : decode cX3_borne 12 = .ok (.invokestatic 82, 3) := by decide +kernel
theorem dX3_borne_15 : decode cX3_borne 15 = .ok (.ifCond .eq 12, 3) := by decide +kernel
theorem dX3_borne_18 : decode cX3_borne 18 = .ok (.iload_n 3, 1) := by decide +kernel
theorem dX3_borne_19 : decode cX3_borne 19 = .ok (.iconst 0, 1) := by decide +kernel
theorem dX3_borne_20 : decode cX3_borne 20 = .ok (.iconst 1, 1) := by decide +kernel
theorem dX3_borne_21 : decode cX3_borne 21 = .ok (.invokestatic 49, 3) := by decide +kernel
theorem dX3_borne_24 : decode cX3_borne 24 = .ok (.ifCond .ne 7, 3) := by decide +kernel
theorem dX3_borne_27 : decode cX3_borne 27 = .ok (.ldc2_w 182, 3) := by decide +kernel
theorem dX3_borne_30 : decode cX3_borne 30 = .ok (.lreturn, 1) := by decide +kernel
theorem dX3_borne_31 : decode cX3_borne 31 = .ok (.aload_n 0, 1) := by decide +kernel
theorem dX3_borne_32 : decode cX3_borne 32 = .ok (.getfield 21, 3) := by decide +kernel
theorem dX3_borne_35 : decode cX3_borne 35 = .ok (.getfield 147, 3) := by decide +kernel
theorem dX3_borne_38 : decode cX3_borne 38 = .ok (.iload_n 1, 1) := by decide +kernel
theorem dX3_borne_39 : decode cX3_borne 39 = .ok (.iaload, 1) := by decide +kernel
theorem dX3_borne_40 : decode cX3_borne 40 = .ok (.ifCond .ne 15, 3) := by decide +kernel
theorem dX3_borne_43 : decode cX3_borne 43 = .ok (.aload_n 0, 1) := by decide +kernel
theorem dX3_borne_44 : decode cX3_borne 44 = .ok (.getfield 21, 3) := by decide +kernel
theorem dX3_borne_47 : decode cX3_borne 47 = .ok (.iload_n 1, 1) := by decide +kernel
theorem dX3_borne_48 : decode cX3_borne 48 = .ok (.iload_n 2, 1) := by decide +kernel
theorem dX3_borne_49 : decode cX3_borne 49 = .ok (.invokevirtual 184, 3) := by decide +kernel
theorem dX3_borne_52 : decode cX3_borne 52 = .ok (.ifCond .ne 7, 3) := by decide +kernel
theorem dX3_borne_55 : decode cX3_borne 55 = .ok (.ldc2_w 182, 3) := by decide +kernel
theorem dX3_borne_58 : decode cX3_borne 58 = .ok (.lreturn, 1) := by decide +kernel
theorem dX3_borne_59 : decode cX3_borne 59 = .ok (.aload_n 0, 1) := by decide +kernel
theorem dX3_borne_60 : decode cX3_borne 60 = .ok (.getfield 21, 3) := by decide +kernel
theorem dX3_borne_63 : decode cX3_borne 63 = .ok (.getfield 153, 3) := by decide +kernel
theorem dX3_borne_66 : decode cX3_borne 66 = .ok (.iload_n 1, 1) := by decide +kernel
theorem dX3_borne_67 : decode cX3_borne 67 = .ok (.iaload, 1) := by decide +kernel
theorem dX3_borne_68 : decode cX3_borne 68 = .ok (.i2l, 1) := by decide +kernel
theorem dX3_borne_69 : decode cX3_borne 69 = .ok (.lstore 4, 2) := by decide +kernel
theorem dX3_borne_71 : decode cX3_borne 71 = .ok (.lconst 1, 1) := by decide +kernel
theorem dX3_borne_72 : decode cX3_borne 72 = .ok (.lstore 6, 2) := by decide +kernel
theorem dX3_borne_74 : decode cX3_borne 74 = .ok (.aload_n 0, 1) := by decide +kernel
theorem dX3_borne_75 : decode cX3_borne 75 = .ok (.getfield 14, 3) := by decide +kernel
theorem dX3_borne_78 : decode cX3_borne 78 = .ok (.aload_n 0, 1) := by decide +kernel
theorem dX3_borne_79 : decode cX3_borne 79 = .ok (.getfield 21, 3) := by decide +kernel
theorem dX3_borne_82 : decode cX3_borne 82 = .ok (.getfield 162, 3) := by decide +kernel
theorem dX3_borne_85 : decode cX3_borne 85 = .ok (.iload_n 1, 1) := by decide +kernel
theorem dX3_borne_86 : decode cX3_borne 86 = .ok (.iaload, 1) := by decide +kernel
theorem dX3_borne_87 : decode cX3_borne 87 = .ok (.iload_n 2, 1) := by decide +kernel
theorem dX3_borne_88 : decode cX3_borne 88 = .ok (.invokevirtual 168, 3) := by decide +kernel
theorem dX3_borne_91 : decode cX3_borne 91 = .ok (.istore 8, 2) := by decide +kernel
theorem dX3_borne_93 : decode cX3_borne 93 = .ok (.iconst 1, 1) := by decide +kernel
theorem dX3_borne_94 : decode cX3_borne 94 = .ok (.istore 9, 2) := by decide +kernel
theorem dX3_borne_96 : decode cX3_borne 96 = .ok (.iload 9, 2) := by decide +kernel
theorem dX3_borne_98 : decode cX3_borne 98 = .ok (.iconst 2, 1) := by decide +kernel
theorem dX3_borne_99 : decode cX3_borne 99 = .ok (.if_icmp .gt 68, 3) := by decide +kernel
theorem dX3_borne_102 : decode cX3_borne 102 = .ok (.aload_n 0, 1) := by decide +kernel
theorem dX3_borne_103 : decode cX3_borne 103 = .ok (.getfield 21, 3) := by decide +kernel
theorem dX3_borne_106 : decode cX3_borne 106 = .ok (.getfield 150, 3) := by decide +kernel
theorem dX3_borne_109 : decode cX3_borne 109 = .ok (.iload_n 1, 1) := by decide +kernel
theorem dX3_borne_110 : decode cX3_borne 110 = .ok (.iaload, 1) := by decide +kernel
theorem dX3_borne_111 : decode cX3_borne 111 = .ok (.iload 9, 2) := by decide +kernel
theorem dX3_borne_113 : decode cX3_borne 113 = .ok (.iadd, 1) := by decide +kernel
theorem dX3_borne_114 : decode cX3_borne 114 = .ok (.istore 10, 2) := by decide +kernel
theorem dX3_borne_116 : decode cX3_borne 116 = .ok (.aload_n 0, 1) := by decide +kernel
theorem dX3_borne_117 : decode cX3_borne 117 = .ok (.iload 10, 2) := by decide +kernel
theorem dX3_borne_119 : decode cX3_borne 119 = .ok (.iload_n 2, 1) := by decide +kernel
theorem dX3_borne_120 : decode cX3_borne 120 = .ok (.invokevirtual 187, 3) := by decide +kernel
theorem dX3_borne_123 : decode cX3_borne 123 = .ok (.lstore 11, 2) := by decide +kernel
theorem dX3_borne_125 : decode cX3_borne 125 = .ok (.lload 11, 2) := by decide +kernel
theorem dX3_borne_127 : decode cX3_borne 127 = .ok (.lconst 0, 1) := by decide +kernel
theorem dX3_borne_128 : decode cX3_borne 128 = .ok (.lcmp, 1) := by decide +kernel
theorem dX3_borne_129 : decode cX3_borne 129 = .ok (.ifCond .le 32, 3) := by decide +kernel
theorem dX3_borne_132 : decode cX3_borne 132 = .ok (.lload 4, 2) := by decide +kernel
theorem dX3_borne_134 : decode cX3_borne 134 = .ok (.lload 11, 2) := by decide +kernel
theorem dX3_borne_136 : decode cX3_borne 136 = .ok (.lmul, 1) := by decide +kernel
theorem dX3_borne_137 : decode cX3_borne 137 = .ok (.lload 6, 2) := by decide +kernel
theorem dX3_borne_139 : decode cX3_borne 139 = .ok (.aload_n 0, 1) := by decide +kernel
theorem dX3_borne_140 : decode cX3_borne 140 = .ok (.iload 10, 2) := by decide +kernel
theorem dX3_borne_142 : decode cX3_borne 142 = .ok (.iload_n 2, 1) := by decide +kernel
theorem dX3_borne_143 : decode cX3_borne 143 = .ok (.invokevirtual 191, 3) := by decide +kernel
theorem dX3_borne_146 : decode cX3_borne 146 = .ok (.lmul, 1) := by decide +kernel
theorem dX3_borne_147 : decode cX3_borne 147 = .ok (.iload 8, 2) := by decide +kernel
theorem dX3_borne_149 : decode cX3_borne 149 = .ok (.i2l, 1) := by decide +kernel
theorem dX3_borne_150 : decode cX3_borne 150 = .ok (.lmul, 1) := by decide +kernel
theorem dX3_borne_151 : decode cX3_borne 151 = .ok (.ladd, 1) := by decide +kernel
theorem dX3_borne_152 : decode cX3_borne 152 = .ok (.lstore 4, 2) := by decide +kernel
theorem dX3_borne_154 : decode cX3_borne 154 = .ok (.lload 6, 2) := by decide +kernel
theorem dX3_borne_156 : decode cX3_borne 156 = .ok (.lload 11, 2) := by decide +kernel
theorem dX3_borne_158 : decode cX3_borne 158 = .ok (.lmul, 1) := by decide +kernel
theorem dX3_borne_159 : decode cX3_borne 159 = .ok (.lstore 6, 2) := by decide +kernel
theorem dX3_borne_161 : decode cX3_borne 161 = .ok (.iinc 9 1, 3) := by decide +kernel
theorem dX3_borne_164 : decode cX3_borne 164 = .ok (.goto (-68), 3) := by decide +kernel
theorem dX3_borne_167 : decode cX3_borne 167 = .ok (.lload 4, 2) := by decide +kernel
theorem dX3_borne_169 : decode cX3_borne 169 = .ok (.lload 6, 2) := by decide +kernel
theorem dX3_borne_171 : decode cX3_borne 171 = .ok (.invokestatic 194, 3) := by decide +kernel
theorem dX3_borne_174 : decode cX3_borne 174 = .ok (.lstore 9, 2) := by decide +kernel
theorem dX3_borne_176 : decode cX3_borne 176 = .ok (.lload 9, 2) := by decide +kernel
theorem dX3_borne_178 : decode cX3_borne 178 = .ok (.lconst 0, 1) := by decide +kernel
theorem dX3_borne_179 : decode cX3_borne 179 = .ok (.lcmp, 1) := by decide +kernel
theorem dX3_borne_180 : decode cX3_borne 180 = .ok (.ifCond .ne 7, 3) := by decide +kernel
theorem dX3_borne_183 : decode cX3_borne 183 = .ok (.ldc2_w 182, 3) := by decide +kernel
theorem dX3_borne_186 : decode cX3_borne 186 = .ok (.lreturn, 1) := by decide +kernel
theorem dX3_borne_187 : decode cX3_borne 187 = .ok (.iload_n 3, 1) := by decide +kernel
theorem dX3_borne_188 : decode cX3_borne 188 = .ok (.ifCond .ne 11, 3) := by decide +kernel
theorem dX3_borne_191 : decode cX3_borne 191 = .ok (.lload 4, 2) := by decide +kernel
theorem dX3_borne_193 : decode cX3_borne 193 = .ok (.lload 9, 2) := by decide +kernel
theorem dX3_borne_195 : decode cX3_borne 195 = .ok (.ldiv, 1) := by decide +kernel
theorem dX3_borne_196 : decode cX3_borne 196 = .ok (.goto 8, 3) := by decide +kernel
theorem dX3_borne_199 : decode cX3_borne 199 = .ok (.lload 6, 2) := by decide +kernel
theorem dX3_borne_201 : decode cX3_borne 201 = .ok (.lload 9, 2) := by decide +kernel
theorem dX3_borne_203 : decode cX3_borne 203 = .ok (.ldiv, 1) := by decide +kernel
theorem dX3_borne_204 : decode cX3_borne 204 = .ok (.lreturn, 1) := by decide +kernel
set_option maxRecDepth 20000 in
theorem ggX3_count_X1_howManyPoured : GoodIn wsX3_count wsX1_howManyPoured := goodIn_r _ [9, 10, 11, 20, 21, 22, 23, 24, 25, 26, 27, 28] (by decide +kernel) (by decide +kernel)
set_option maxRecDepth 20000 in
theorem gX3_count_X1_howManyPoured_n198 : GoodIn wsX3_count (wsX1_howManyPoured) := ggX3_count_X1_howManyPoured
theorem dX3_count_0 : decode cX3_count 0 = .ok (.iload_n 1, 1) := by decide +kernel
theorem dX3_count_1 : decode cX3_count 1 = .ok (.tableswitch 90 0 6 #[43, 51, 59, 64, 72, 77, 85], 43) := by decide +kernel
theorem dX3_count_44 : decode cX3_count 44 = .ok (.aload_n 0, 1) := by decide +kernel
theorem dX3_count_45 : decode cX3_count 45 = .ok (.getfield 21, 3) := by decide +kernel
theorem dX3_count_48 : decode cX3_count 48 = .ok (.getfield 53, 3) := by decide +kernel
theorem dX3_count_51 : decode cX3_count 51 = .ok (.ireturn, 1) := by decide +kernel
theorem dX3_count_52 : decode cX3_count 52 = .ok (.aload_n 0, 1) := by decide +kernel
theorem dX3_count_53 : decode cX3_count 53 = .ok (.getfield 21, 3) := by decide +kernel
theorem dX3_count_56 : decode cX3_count 56 = .ok (.invokevirtual 198, 3) := by decide +kernel
theorem dX3_count_59 : decode cX3_count 59 = .ok (.ireturn, 1) := by decide +kernel
theorem dX3_count_60 : decode cX3_count 60 = .ok (.aload_n 0, 1) := by decide +kernel
theorem dX3_count_61 : decode cX3_count 61 = .ok (.getfield 43, 3) := by decide +kernel
theorem dX3_count_64 : decode cX3_count 64 = .ok (.ireturn, 1) := by decide +kernel
theorem dX3_count_65 : decode cX3_count 65 = .ok (.aload_n 0, 1) := by decide +kernel
theorem dX3_count_66 : decode cX3_count 66 = .ok (.getfield 14, 3) := by decide +kernel
theorem dX3_count_69 : decode cX3_count 69 = .ok (.getfield 98, 3) := by decide +kernel
theorem dX3_count_72 : decode cX3_count 72 = .ok (.ireturn, 1) := by decide +kernel
theorem dX3_count_73 : decode cX3_count 73 = .ok (.aload_n 0, 1) := by decide +kernel
theorem dX3_count_74 : decode cX3_count 74 = .ok (.getfield 39, 3) := by decide +kernel
theorem dX3_count_77 : decode cX3_count 77 = .ok (.ireturn, 1) := by decide +kernel
theorem dX3_count_78 : decode cX3_count 78 = .ok (.aload_n 0, 1) := by decide +kernel
theorem dX3_count_79 : decode cX3_count 79 = .ok (.getfield 14, 3) := by decide +kernel
theorem dX3_count_82 : decode cX3_count 82 = .ok (.getfield 92, 3) := by decide +kernel
theorem dX3_count_85 : decode cX3_count 85 = .ok (.ireturn, 1) := by decide +kernel
theorem dX3_count_86 : decode cX3_count 86 = .ok (.aload_n 0, 1) := by decide +kernel
theorem dX3_count_87 : decode cX3_count 87 = .ok (.getfield 46, 3) := by decide +kernel
theorem dX3_count_90 : decode cX3_count 90 = .ok (.ireturn, 1) := by decide +kernel
theorem dX3_count_91 : decode cX3_count 91 = .ok (.iconst (-1), 1) := by decide +kernel
theorem dX3_count_92 : decode cX3_count 92 = .ok (.ireturn, 1) := by decide +kernel
set_option maxRecDepth 20000 in
theorem ggX3_pourAnew_X1_unpourFrom : GoodIn wsX3_pourAnew wsX1_unpourFrom := goodIn_r _ [7, 8, 9, 91, 92, 93, 94, 95, 96, 97, 98, 99] (by decide +kernel) (by decide +kernel)
set_option maxRecDepth 20000 in
theorem gX3_pourAnew_X1_unpourFrom_n141 : GoodIn wsX3_pourAnew (wsX1_unpourFrom) := ggX3_pourAnew_X1_unpourFrom
set_option maxRecDepth 20000 in
theorem ggX3_pourAnew_X1_howManyPoured : GoodIn wsX3_pourAnew wsX1_howManyPoured := goodIn_r _ [12, 8, 9, 91, 92, 93, 94, 95, 96, 97, 98, 99] (by decide +kernel) (by decide +kernel)
set_option maxRecDepth 20000 in
theorem gX3_pourAnew_X1_howManyPoured_n198 : GoodIn wsX3_pourAnew (wsX1_howManyPoured) := ggX3_pourAnew_X1_howManyPoured
set_option maxRecDepth 20000 in
theorem ggX3_pourAnew_X3_hindrance : GoodIn wsX3_pourAnew wsX3_hindrance := goodIn_r _ [17, 1, 18, 19, 20, 21, 16, 22, 23, 24, 25, 26, 3, 27, 5, 28, 29, 9, 30, 31, 32, 33, 34, 35, 36, 37, 38, 39, 40, 41, 42, 43, 44, 45, 46, 47, 48, 49, 50, 51, 52, 53, 54, 55, 56, 57, 58, 59, 60, 61, 62, 63, 64, 65, 66, 67, 68, 69, 70, 71, 72, 73, 74, 83, 84, 85, 86, 87, 88, 89, 90, 91, 92, 93, 94, 95, 96, 97, 98, 99, 100, 101, 102, 103, 104, 105, 106, 107, 108, 109] (by decide +kernel) (by decide +kernel)
set_option maxRecDepth 20000 in
theorem gX3_pourAnew_X3_hindrance : GoodIn wsX3_pourAnew (wsV RX3 172 RX3 yX3_hindrance wsX3_hindrance) := goodIn_app (goodIn_of _ (by decide +kernel)) ggX3_pourAnew_X3_hindrance
set_option maxRecDepth 20000 in
theorem ggX3_pourAnew_X3_endOfAll : GoodIn wsX3_pourAnew wsX3_endOfAll := goodIn_r _ [78, 1, 40, 79, 80, 81, 82, 67, 47, 68, 69, 70, 83, 84, 85, 86, 87, 88, 89, 90, 91, 92, 93, 94, 95, 96, 97, 98, 99, 102, 103, 104, 105, 106, 107, 108, 109] (by decide +kernel) (by decide +kernel)
set_option maxRecDepth 20000 in
theorem gX3_pourAnew_X3_endOfAll : GoodIn wsX3_pourAnew (wsV RX3 201 RX3 yX3_endOfAll wsX3_endOfAll) := goodIn_app (goodIn_of _ (by decide +kernel)) ggX3_pourAnew_X3_endOfAll
theorem dX3_pourAnew_0 : decode cX3_pourAnew 0 = .ok (.aload_n 0, 1) := by decide +kernel
theorem dX3_pourAnew_1 : decode cX3_pourAnew 1 = .ok (.getfield 21, 3) := by decide +kernel
theorem dX3_pourAnew_4 : decode cX3_pourAnew 4 = .ok (.aload_n 0, 1) := by decide +kernel
theorem dX3_pourAnew_5 : decode cX3_pourAnew 5 = .ok (.getfield 43, 3) := by decide +kernel
theorem dX3_pourAnew_8 : decode cX3_pourAnew 8 = .ok (.invokevirtual 141, 3) := by decide +kernel
theorem dX3_pourAnew_11 : decode cX3_pourAnew 11 = .ok (.pop, 1) := by decide +kernel
theorem dX3_pourAnew_12 : decode cX3_pourAnew 12 = .ok (.aload_n 0, 1) := by decide +kernel
theorem dX3_pourAnew_13 : decode cX3_pourAnew 13 = .ok (.getfield 21, 3) := by decide +kernel
theorem dX3_pourAnew_16 : decode cX3_pourAnew 16 = .ok (.getfield 53, 3) := by decide +kernel
theorem dX3_pourAnew_19 : decode cX3_pourAnew 19 = .ok (.aload_n 0, 1) := by decide +kernel
theorem dX3_pourAnew_20 : decode cX3_pourAnew 20 = .ok (.getfield 21, 3) := by decide +kernel
theorem dX3_pourAnew_23 : decode cX3_pourAnew 23 = .ok (.invokevirtual 198, 3) := by decide +kernel
theorem dX3_pourAnew_26 : decode cX3_pourAnew 26 = .ok (.isub, 1) := by decide +kernel
theorem dX3_pourAnew_27 : decode cX3_pourAnew 27 = .ok (.istore_n 1, 1) := by decide +kernel
theorem dX3_pourAnew_28 : decode cX3_pourAnew 28 = .ok (.aload_n 0, 1) := by decide +kernel
theorem dX3_pourAnew_29 : decode cX3_pourAnew 29 = .ok (.getfield 43, 3) := by decide +kernel
theorem dX3_pourAnew_32 : decode cX3_pourAnew 32 = .ok (.istore_n 2, 1) := by decide +kernel
theorem dX3_pourAnew_33 : decode cX3_pourAnew 33 = .ok (.iload_n 2, 1) := by decide +kernel
theorem dX3_pourAnew_34 : decode cX3_pourAnew 34 = .ok (.bipush 40, 2) := by decide +kernel
theorem dX3_pourAnew_36 : decode cX3_pourAnew 36 = .ok (.if_icmp .ge 81, 3) := by decide +kernel
theorem dX3_pourAnew_39 : decode cX3_pourAnew 39 = .ok (.iload_n 1, 1) := by decide +kernel
theorem dX3_pourAnew_40 : decode cX3_pourAnew 40 = .ok (.ifCond .le 77, 3) := by decide +kernel
theorem dX3_pourAnew_43 : decode cX3_pourAnew 43 = .ok (.iconst 0, 1) := by decide +kernel
theorem dX3_pourAnew_44 : decode cX3_pourAnew 44 = .ok (.istore_n 3, 1) := by decide +kernel
theorem dX3_pourAnew_45 : decode cX3_pourAnew 45 = .ok (.iload_n 3, 1) := by decide +kernel
theorem dX3_pourAnew_46 : decode cX3_pourAnew 46 = .ok (.aload_n 0, 1) := by decide +kernel
theorem dX3_pourAnew_47 : decode cX3_pourAnew 47 = .ok (.getfield 21, 3) := by decide +kernel
theorem dX3_pourAnew_50 : decode cX3_pourAnew 50 = .ok (.getfield 53, 3) := by decide +kernel
theorem dX3_pourAnew_53 : decode cX3_pourAnew 53 = .ok (.if_icmp .ge 58, 3) := by decide +kernel
theorem dX3_pourAnew_56 : decode cX3_pourAnew 56 = .ok (.aload_n 0, 1) := by decide +kernel
theorem dX3_pourAnew_57 : decode cX3_pourAnew 57 = .ok (.getfield 28, 3) := by decide +kernel
theorem dX3_pourAnew_60 : decode cX3_pourAnew 60 = .ok (.getfield 122, 3) := by decide +kernel
theorem dX3_pourAnew_63 : decode cX3_pourAnew 63 = .ok (.iload_n 3, 1) := by decide +kernel
theorem dX3_pourAnew_64 : decode cX3_pourAnew 64 = .ok (.iaload, 1) := by decide +kernel
theorem dX3_pourAnew_65 : decode cX3_pourAnew 65 = .ok (.istore 4, 2) := by decide +kernel
theorem dX3_pourAnew_67 : decode cX3_pourAnew 67 = .ok (.aload_n 0, 1) := by decide +kernel
theorem dX3_pourAnew_68 : decode cX3_pourAnew 68 = .ok (.getfield 21, 3) := by decide +kernel
theorem dX3_pourAnew_71 : decode cX3_pourAnew 71 = .ok (.getfield 162, 3) := by decide +kernel
theorem dX3_pourAnew_74 : decode cX3_pourAnew 74 = .ok (.iload 4, 2) := by decide +kernel
theorem dX3_pourAnew_76 : decode cX3_pourAnew 76 = .ok (.iaload, 1) := by decide +kernel
theorem dX3_pourAnew_77 : decode cX3_pourAnew 77 = .ok (.iconst (-1), 1) := by decide +kernel
theorem dX3_pourAnew_78 : decode cX3_pourAnew 78 = .ok (.if_icmp .ne 27, 3) := by decide +kernel
theorem dX3_pourAnew_81 : decode cX3_pourAnew 81 = .ok (.aload_n 0, 1) := by decide +kernel
theorem dX3_pourAnew_82 : decode cX3_pourAnew 82 = .ok (.iload 4, 2) := by decide +kernel
theorem dX3_pourAnew_84 : decode cX3_pourAnew 84 = .ok (.iload_n 2, 1) := by decide +kernel
theorem dX3_pourAnew_85 : decode cX3_pourAnew 85 = .ok (.invokevirtual 172, 3) := by decide +kernel
theorem dX3_pourAnew_88 : decode cX3_pourAnew 88 = .ok (.ifCond .ne 17, 3) := by decide +kernel
theorem dX3_pourAnew_91 : decode cX3_pourAnew 91 = .ok (.aload_n 0, 1) := by decide +kernel
theorem dX3_pourAnew_92 : decode cX3_pourAnew 92 = .ok (.getfield 21, 3) := by decide +kernel
theorem dX3_pourAnew_95 : decode cX3_pourAnew 95 = .ok (.getfield 162, 3) := by decide +kernel
theorem dX3_pourAnew_98 : decode cX3_pourAnew 98 = .ok (.iload 4, 2) := by decide +kernel
theorem dX3_pourAnew_100 : decode cX3_pourAnew 100 = .ok (.iload_n 2, 1) := by decide +kernel
theorem dX3_pourAnew_101 : decode cX3_pourAnew 101 = .ok (.iastore, 1) := by decide +kernel
theorem dX3_pourAnew_102 : decode cX3_pourAnew 102 = .ok (.iinc 1 (-1), 3) := by decide +kernel
theorem dX3_pourAnew_105 : decode cX3_pourAnew 105 = .ok (.iinc 3 1, 3) := by decide +kernel
theorem dX3_pourAnew_108 : decode cX3_pourAnew 108 = .ok (.goto (-63), 3) := by decide +kernel
theorem dX3_pourAnew_111 : decode cX3_pourAnew 111 = .ok (.iinc 2 1, 3) := by decide +kernel
theorem dX3_pourAnew_114 : decode cX3_pourAnew 114 = .ok (.goto (-81), 3) := by decide +kernel
theorem dX3_pourAnew_117 : decode cX3_pourAnew 117 = .ok (.aload_n 0, 1) := by decide +kernel
theorem dX3_pourAnew_118 : decode cX3_pourAnew 118 = .ok (.invokevirtual 201, 3) := by decide +kernel
theorem dX3_pourAnew_121 : decode cX3_pourAnew 121 = .ok (.ireturn, 1) := by decide +kernel
set_option maxRecDepth 20000 in
theorem ggX3_endOfAll_X0_stripDayFor : GoodIn wsX3_endOfAll wsX0_stripDayFor := goodIn_r _ [10, 11, 29, 30, 31, 32, 33, 34, 35, 36] (by decide +kernel) (by decide +kernel)
set_option maxRecDepth 20000 in
theorem gX3_endOfAll_X0_stripDayFor_n165 : GoodIn wsX3_endOfAll (wsX0_stripDayFor) := ggX3_endOfAll_X0_stripDayFor
theorem dX3_endOfAll_0 : decode cX3_endOfAll 0 = .ok (.iconst 0, 1) := by decide +kernel
theorem dX3_endOfAll_1 : decode cX3_endOfAll 1 = .ok (.istore_n 1, 1) := by decide +kernel
theorem dX3_endOfAll_2 : decode cX3_endOfAll 2 = .ok (.iconst 0, 1) := by decide +kernel
theorem dX3_endOfAll_3 : decode cX3_endOfAll 3 = .ok (.istore_n 2, 1) := by decide +kernel
theorem dX3_endOfAll_4 : decode cX3_endOfAll 4 = .ok (.iload_n 2, 1) := by decide +kernel
theorem dX3_endOfAll_5 : decode cX3_endOfAll 5 = .ok (.aload_n 0, 1) := by decide +kernel
theorem dX3_endOfAll_6 : decode cX3_endOfAll 6 = .ok (.getfield 21, 3) := by decide +kernel
theorem dX3_endOfAll_9 : decode cX3_endOfAll 9 = .ok (.getfield 53, 3) := by decide +kernel
theorem dX3_endOfAll_12 : decode cX3_endOfAll 12 = .ok (.if_icmp .ge 30, 3) := by decide +kernel
theorem dX3_endOfAll_15 : decode cX3_endOfAll 15 = .ok (.iload_n 1, 1) := by decide +kernel
theorem dX3_endOfAll_16 : decode cX3_endOfAll 16 = .ok (.aload_n 0, 1) := by decide +kernel
theorem dX3_endOfAll_17 : decode cX3_endOfAll 17 = .ok (.getfield 14, 3) := by decide +kernel
theorem dX3_endOfAll_20 : decode cX3_endOfAll 20 = .ok (.aload_n 0, 1) := by decide +kernel
theorem dX3_endOfAll_21 : decode cX3_endOfAll 21 = .ok (.getfield 21, 3) := by decide +kernel
theorem dX3_endOfAll_24 : decode cX3_endOfAll 24 = .ok (.getfield 162, 3) := by decide +kernel
theorem dX3_endOfAll_27 : decode cX3_endOfAll 27 = .ok (.iload_n 2, 1) := by decide +kernel
theorem dX3_endOfAll_28 : decode cX3_endOfAll 28 = .ok (.iaload, 1) := by decide +kernel
theorem dX3_endOfAll_29 : decode cX3_endOfAll 29 = .ok (.invokevirtual 165, 3) := by decide +kernel
theorem dX3_endOfAll_32 : decode cX3_endOfAll 32 = .ok (.invokestatic 204, 3) := by decide +kernel
theorem dX3_endOfAll_35 : decode cX3_endOfAll 35 = .ok (.istore_n 1, 1) := by decide +kernel
theorem dX3_endOfAll_36 : decode cX3_endOfAll 36 = .ok (.iinc 2 1, 3) := by decide +kernel
theorem dX3_endOfAll_39 : decode cX3_endOfAll 39 = .ok (.goto (-35), 3) := by decide +kernel
theorem dX3_endOfAll_42 : decode cX3_endOfAll 42 = .ok (.iload_n 1, 1) := by decide +kernel
theorem dX3_endOfAll_43 : decode cX3_endOfAll 43 = .ok (.ireturn, 1) := by decide +kernel
set_option maxRecDepth 20000 in
theorem ggX3_endOfFirstGoodChange_X2_move : GoodIn wsX3_endOfFirstGoodChange wsX2_move := goodIn_r _ [6, 7, 8, 9, 10, 4, 11, 12, 111, 112] (by decide +kernel) (by decide +kernel)
set_option maxRecDepth 20000 in
theorem gX3_endOfFirstGoodChange_X2_move_n116 : GoodIn wsX3_endOfFirstGoodChange (wsX2_move) := ggX3_endOfFirstGoodChange_X2_move
set_option maxRecDepth 20000 in
theorem ggX3_endOfFirstGoodChange_X3_pourAnew : GoodIn wsX3_endOfFirstGoodChange wsX3_pourAnew := goodIn_r _ [17, 1, 18, 2, 19, 20, 21, 22, 23, 24, 25, 26, 27, 28, 29, 30, 16, 31, 32, 33, 34, 35, 36, 37, 38, 39, 40, 41, 42, 43, 44, 4, 45, 46, 12, 7, 47, 48, 49, 50, 51, 52, 53, 54, 55, 56, 57, 58, 59, 60, 61, 62, 63, 64, 65, 66, 67, 68, 69, 70, 71, 72, 73, 74, 75, 76, 77, 78, 79, 80, 81, 82, 83, 84, 85, 86, 87, 88, 89, 90, 91, 92, 93, 94, 95, 96, 97, 98, 99, 100, 101, 102, 103, 104, 105, 106, 107, 108, 109, 110, 111, 112, 113, 114, 115, 116, 117, 118, 119, 120] (by decide +kernel) (by decide +kernel)
set_option maxRecDepth 20000 in
theorem gX3_endOfFirstGoodChange_X3_pourAnew : GoodIn wsX3_endOfFirstGoodChange (wsV RX3 109 RX3 yX3_pourAnew wsX3_pourAnew) := goodIn_app (goodIn_of _ (by decide +kernel)) ggX3_endOfFirstGoodChange_X3_pourAnew
theorem dX3_endOfFirstGoodChange_0 : decode cX3_endOfFirstGoodChange 0 = .ok (.iconst 0, 1) := by decide +kernel
theorem dX3_endOfFirstGoodChange_1 : decode cX3_endOfFirstGoodChange 1 = .ok (.istore_n 2, 1) := by decide +kernel
theorem dX3_endOfFirstGoodChange_2 : decode cX3_endOfFirstGoodChange 2 = .ok (.iload_n 2, 1) := by decide +kernel
theorem dX3_endOfFirstGoodChange_3 : decode cX3_endOfFirstGoodChange 3 = .ok (.iconst 1, 1) := by decide +kernel
theorem dX3_endOfFirstGoodChange_4 : decode cX3_endOfFirstGoodChange 4 = .ok (.iadd, 1) := by decide +kernel
theorem dX3_endOfFirstGoodChange_5 : decode cX3_endOfFirstGoodChange 5 = .ok (.aload_n 0, 1) := by decide +kernel
theorem dX3_endOfFirstGoodChange_6 : decode cX3_endOfFirstGoodChange 6 = .ok (.getfield 21, 3) := by decide +kernel
theorem dX3_endOfFirstGoodChange_9 : decode cX3_endOfFirstGoodChange 9 = .ok (.getfield 53, 3) := by decide +kernel
theorem dX3_endOfFirstGoodChange_12 : decode cX3_endOfFirstGoodChange 12 = .ok (.if_icmp .ge 43, 3) := by decide +kernel
theorem dX3_endOfFirstGoodChange_15 : decode cX3_endOfFirstGoodChange 15 = .ok (.aload_n 0, 1) := by decide +kernel
theorem dX3_endOfFirstGoodChange_16 : decode cX3_endOfFirstGoodChange 16 = .ok (.getfield 28, 3) := by decide +kernel
theorem dX3_endOfFirstGoodChange_19 : decode cX3_endOfFirstGoodChange 19 = .ok (.iload_n 2, 1) := by decide +kernel
theorem dX3_endOfFirstGoodChange_20 : decode cX3_endOfFirstGoodChange 20 = .ok (.iload_n 2, 1) := by decide +kernel
theorem dX3_endOfFirstGoodChange_21 : decode cX3_endOfFirstGoodChange 21 = .ok (.iconst 1, 1) := by decide +kernel
theorem dX3_endOfFirstGoodChange_22 : decode cX3_endOfFirstGoodChange 22 = .ok (.iadd, 1) := by decide +kernel
theorem dX3_endOfFirstGoodChange_23 : decode cX3_endOfFirstGoodChange 23 = .ok (.invokevirtual 116, 3) := by decide +kernel
theorem dX3_endOfFirstGoodChange_26 : decode cX3_endOfFirstGoodChange 26 = .ok (.aload_n 0, 1) := by decide +kernel
theorem dX3_endOfFirstGoodChange_27 : decode cX3_endOfFirstGoodChange 27 = .ok (.invokevirtual 109, 3) := by decide +kernel
theorem dX3_endOfFirstGoodChange_30 : decode cX3_endOfFirstGoodChange 30 = .ok (.istore_n 3, 1) := by decide +kernel
theorem dX3_endOfFirstGoodChange_31 : decode cX3_endOfFirstGoodChange 31 = .ok (.iload_n 3, 1) := by decide +kernel
theorem dX3_endOfFirstGoodChange_32 : decode cX3_endOfFirstGoodChange 32 = .ok (.iload_n 1, 1) := by decide +kernel
theorem dX3_endOfFirstGoodChange_33 : decode cX3_endOfFirstGoodChange 33 = .ok (.if_icmp .ge 5, 3) := by decide +kernel
theorem dX3_endOfFirstGoodChange_36 : decode cX3_endOfFirstGoodChange 36 = .ok (.iload_n 3, 1) := by decide +kernel
theorem dX3_endOfFirstGoodChange_37 : decode cX3_endOfFirstGoodChange 37 = .ok (.ireturn, 1) := by decide +kernel
theorem dX3_endOfFirstGoodChange_38 : decode cX3_endOfFirstGoodChange 38 = .ok (.aload_n 0, 1) := by decide +kernel
theorem dX3_endOfFirstGoodChange_39 : decode cX3_endOfFirstGoodChange 39 = .ok (.getfield 28, 3) := by decide +kernel
theorem dX3_endOfFirstGoodChange_42 : decode cX3_endOfFirstGoodChange 42 = .ok (.iload_n 2, 1) := by decide +kernel
theorem dX3_endOfFirstGoodChange_43 : decode cX3_endOfFirstGoodChange 43 = .ok (.iload_n 2, 1) := by decide +kernel
theorem dX3_endOfFirstGoodChange_44 : decode cX3_endOfFirstGoodChange 44 = .ok (.iconst 1, 1) := by decide +kernel
theorem dX3_endOfFirstGoodChange_45 : decode cX3_endOfFirstGoodChange 45 = .ok (.iadd, 1) := by decide +kernel
theorem dX3_endOfFirstGoodChange_46 : decode cX3_endOfFirstGoodChange 46 = .ok (.invokevirtual 116, 3) := by decide +kernel
theorem dX3_endOfFirstGoodChange_49 : decode cX3_endOfFirstGoodChange 49 = .ok (.iinc 2 1, 3) := by decide +kernel
theorem dX3_endOfFirstGoodChange_52 : decode cX3_endOfFirstGoodChange 52 = .ok (.goto (-50), 3) := by decide +kernel
theorem dX3_endOfFirstGoodChange_55 : decode cX3_endOfFirstGoodChange 55 = .ok (.iload_n 1, 1) := by decide +kernel
theorem dX3_endOfFirstGoodChange_56 : decode cX3_endOfFirstGoodChange 56 = .ok (.ireturn, 1) := by decide +kernel
set_option maxRecDepth 20000 in
theorem ggX3_hindrance_X3_waitsForAhead : GoodIn wsX3_hindrance wsX3_waitsForAhead := goodIn_r _ [7, 1, 8, 9, 10, 6, 11, 12, 13, 14, 15, 16, 17, 18, 19, 20, 21, 22, 23, 63, 64, 65, 66, 67, 68, 69, 70, 71, 72, 73, 74, 75, 76, 77, 78, 79, 80, 81] (by decide +kernel) (by decide +kernel)
set_option maxRecDepth 20000 in
theorem gX3_hindrance_X3_waitsForAhead : GoodIn wsX3_hindrance (wsV RX3 209 RX3 yX3_waitsForAhead wsX3_waitsForAhead) := goodIn_app (goodIn_of _ (by decide +kernel)) ggX3_hindrance_X3_waitsForAhead
set_option maxRecDepth 20000 in
theorem ggX3_hindrance_X3_waitsToStand : GoodIn wsX3_hindrance wsX3_waitsToStand := goodIn_r _ [27, 1, 28, 29, 14, 30, 31, 32, 33, 34, 35, 36, 37, 38, 39, 40, 41, 42, 43, 44, 45, 63, 64, 65, 66, 67, 68, 69, 70, 71, 72, 73, 74, 75, 76, 77, 78, 79, 82, 83, 84, 85, 86, 87, 88, 89] (by decide +kernel) (by decide +kernel)
set_option maxRecDepth 20000 in
theorem gX3_hindrance_X3_waitsToStand : GoodIn wsX3_hindrance (wsV RX3 212 RX3 yX3_waitsToStand wsX3_waitsToStand) := goodIn_app (goodIn_of _ (by decide +kernel)) ggX3_hindrance_X3_waitsToStand
set_option maxRecDepth 20000 in
theorem ggX3_hindrance_X3_formsLeft : GoodIn wsX3_hindrance wsX3_formsLeft := goodIn_r _ [49, 50, 1, 51, 52, 53, 6, 54, 28, 13, 14, 15, 16, 17, 55, 35, 56, 57, 58, 63, 64, 65, 66, 67, 68, 69, 70, 71, 72, 73, 74, 75, 76, 77, 78, 79, 82, 83, 84, 85, 86, 87, 88, 89] (by decide +kernel) (by decide +kernel)
set_option maxRecDepth 20000 in
theorem gX3_hindrance_X3_formsLeft : GoodIn wsX3_hindrance (wsV RX3 175 RX3 yX3_formsLeft wsX3_formsLeft) := goodIn_app (goodIn_of _ (by decide +kernel)) ggX3_hindrance_X3_formsLeft
set_option maxRecDepth 20000 in
theorem ggX3_hindrance_X3_volumeOn : GoodIn wsX3_hindrance wsX3_volumeOn := goodIn_r _ [62, 1, 63, 64, 65, 66, 67, 68, 69, 70, 71, 72, 73, 74, 75, 76, 77, 78, 79] (by decide +kernel) (by decide +kernel)
set_option maxRecDepth 20000 in
theorem gX3_hindrance_X3_volumeOn : GoodIn wsX3_hindrance (wsV RX3 179 RX3 yX3_volumeOn wsX3_volumeOn) := goodIn_app (goodIn_of _ (by decide +kernel)) ggX3_hindrance_X3_volumeOn
theorem dX3_hindrance_0 : decode cX3_hindrance 0 = .ok (.aload_n 0, 1) := by decide +kernel
theorem dX3_hindrance_1 : decode cX3_hindrance 1 = .ok (.iload_n 1, 1) := by decide +kernel
theorem dX3_hindrance_2 : decode cX3_hindrance 2 = .ok (.iload_n 2, 1) := by decide +kernel
theorem dX3_hindrance_3 : decode cX3_hindrance 3 = .ok (.invokevirtual 209, 3) := by decide +kernel
theorem dX3_hindrance_6 : decode cX3_hindrance 6 = .ok (.ifCond .eq 5, 3) := by decide +kernel
theorem dX3_hindrance_9 : decode cX3_hindrance 9 = .ok (.iconst 1, 1) := by decide +kernel
theorem dX3_hindrance_10 : decode cX3_hindrance 10 = .ok (.ireturn, 1) := by decide +kernel
theorem dX3_hindrance_11 : decode cX3_hindrance 11 = .ok (.aload_n 0, 1) := by decide +kernel
theorem dX3_hindrance_12 : decode cX3_hindrance 12 = .ok (.getfield 21, 3) := by decide +kernel
theorem dX3_hindrance_15 : decode cX3_hindrance 15 = .ok (.getfield 147, 3) := by decide +kernel
theorem dX3_hindrance_18 : decode cX3_hindrance 18 = .ok (.iload_n 1, 1) := by decide +kernel
theorem dX3_hindrance_19 : decode cX3_hindrance 19 = .ok (.iaload, 1) := by decide +kernel
theorem dX3_hindrance_20 : decode cX3_hindrance 20 = .ok (.ifCond .ne 14, 3) := by decide +kernel
theorem dX3_hindrance_23 : decode cX3_hindrance 23 = .ok (.aload_n 0, 1) := by decide +kernel
theorem dX3_hindrance_24 : decode cX3_hindrance 24 = .ok (.iload_n 1, 1) := by decide +kernel
theorem dX3_hindrance_25 : decode cX3_hindrance 25 = .ok (.iload_n 2, 1) := by decide +kernel
theorem dX3_hindrance_26 : decode cX3_hindrance 26 = .ok (.invokevirtual 212, 3) := by decide +kernel
theorem dX3_hindrance_29 : decode cX3_hindrance 29 = .ok (.ifCond .eq 5, 3) := by decide +kernel
theorem dX3_hindrance_32 : decode cX3_hindrance 32 = .ok (.iconst 2, 1) := by decide +kernel
theorem dX3_hindrance_33 : decode cX3_hindrance 33 = .ok (.ireturn, 1) := by decide +kernel
theorem dX3_hindrance_34 : decode cX3_hindrance 34 = .ok (.aload_n 0, 1) := by decide +kernel
theorem dX3_hindrance_35 : decode cX3_hindrance 35 = .ok (.aload_n 0, 1) := by decide +kernel
theorem dX3_hindrance_36 : decode cX3_hindrance 36 = .ok (.getfield 21, 3) := by decide +kernel
theorem dX3_hindrance_39 : decode cX3_hindrance 39 = .ok (.getfield 156, 3) := by decide +kernel
theorem dX3_hindrance_42 : decode cX3_hindrance 42 = .ok (.iload_n 1, 1) := by decide +kernel
theorem dX3_hindrance_43 : decode cX3_hindrance 43 = .ok (.iaload, 1) := by decide +kernel
theorem dX3_hindrance_44 : decode cX3_hindrance 44 = .ok (.iload_n 2, 1) := by decide +kernel
theorem dX3_hindrance_45 : decode cX3_hindrance 45 = .ok (.iload_n 1, 1) := by decide +kernel
theorem dX3_hindrance_46 : decode cX3_hindrance 46 = .ok (.invokevirtual 175, 3) := by decide +kernel
theorem dX3_hindrance_49 : decode cX3_hindrance 49 = .ok (.aload_n 0, 1) := by decide +kernel
theorem dX3_hindrance_50 : decode cX3_hindrance 50 = .ok (.getfield 21, 3) := by decide +kernel
theorem dX3_hindrance_53 : decode cX3_hindrance 53 = .ok (.getfield 159, 3) := by decide +kernel
theorem dX3_hindrance_56 : decode cX3_hindrance 56 = .ok (.iload_n 1, 1) := by decide +kernel
theorem dX3_hindrance_57 : decode cX3_hindrance 57 = .ok (.iaload, 1) := by decide +kernel
theorem dX3_hindrance_58 : decode cX3_hindrance 58 = .ok (.if_icmp .ge 5, 3) := by decide +kernel
theorem dX3_hindrance_61 : decode cX3_hindrance 61 = .ok (.iconst 3, 1) := by decide +kernel
theorem dX3_hindrance_62 : decode cX3_hindrance 62 = .ok (.ireturn, 1) := by decide +kernel
theorem dX3_hindrance_63 : decode cX3_hindrance 63 = .ok (.aload_n 0, 1) := by decide +kernel
theorem dX3_hindrance_64 : decode cX3_hindrance 64 = .ok (.iload_n 2, 1) := by decide +kernel
theorem dX3_hindrance_65 : decode cX3_hindrance 65 = .ok (.iload_n 1, 1) := by decide +kernel
theorem dX3_hindrance_66 : decode cX3_hindrance 66 = .ok (.invokevirtual 179, 3) := by decide +kernel
theorem dX3_hindrance_69 : decode cX3_hindrance 69 = .ok (.aload_n 0, 1) := by decide +kernel
theorem dX3_hindrance_70 : decode cX3_hindrance 70 = .ok (.getfield 21, 3) := by decide +kernel
theorem dX3_hindrance_73 : decode cX3_hindrance 73 = .ok (.getfield 153, 3) := by decide +kernel
theorem dX3_hindrance_76 : decode cX3_hindrance 76 = .ok (.iload_n 1, 1) := by decide +kernel
theorem dX3_hindrance_77 : decode cX3_hindrance 77 = .ok (.iaload, 1) := by decide +kernel
theorem dX3_hindrance_78 : decode cX3_hindrance 78 = .ok (.iadd, 1) := by decide +kernel
theorem dX3_hindrance_79 : decode cX3_hindrance 79 = .ok (.aload_n 0, 1) := by decide +kernel
theorem dX3_hindrance_80 : decode cX3_hindrance 80 = .ok (.getfield 39, 3) := by decide +kernel
theorem dX3_hindrance_83 : decode cX3_hindrance 83 = .ok (.if_icmp .le 7, 3) := by decide +kernel
theorem dX3_hindrance_86 : decode cX3_hindrance 86 = .ok (.iconst 4, 1) := by decide +kernel
theorem dX3_hindrance_87 : decode cX3_hindrance 87 = .ok (.goto 4, 3) := by decide +kernel
theorem dX3_hindrance_90 : decode cX3_hindrance 90 = .ok (.iconst 0, 1) := by decide +kernel
theorem dX3_hindrance_91 : decode cX3_hindrance 91 = .ok (.ireturn, 1) := by decide +kernel
set_option maxRecDepth 20000 in
theorem ggX3_waitsForAhead_X3_leadsBy : GoodIn wsX3_waitsForAhead wsX3_leadsBy := goodIn_r _ [6, 1, 7, 8, 9, 10, 11, 12, 13, 14, 15, 16, 17, 18, 19, 20, 21, 22, 23, 24, 25, 26, 27, 28, 29, 30, 31, 32, 33, 34, 35, 36, 37] (by decide +kernel) (by decide +kernel)
set_option maxRecDepth 20000 in
theorem gX3_waitsForAhead_X3_leadsBy : GoodIn wsX3_waitsForAhead (wsV RX3 215 RX3 yX3_leadsBy wsX3_leadsBy) := goodIn_app (goodIn_of _ (by decide +kernel)) ggX3_waitsForAhead_X3_leadsBy
theorem dX3_waitsForAhead_0 : decode cX3_waitsForAhead 0 = .ok (.iconst 0, 1) := by decide +kernel
theorem dX3_waitsForAhead_1 : decode cX3_waitsForAhead 1 = .ok (.istore_n 3, 1) := by decide +kernel
theorem dX3_waitsForAhead_2 : decode cX3_waitsForAhead 2 = .ok (.iload_n 3, 1) := by decide +kernel
theorem dX3_waitsForAhead_3 : decode cX3_waitsForAhead 3 = .ok (.aload_n 0, 1) := by decide +kernel
theorem dX3_waitsForAhead_4 : decode cX3_waitsForAhead 4 = .ok (.getfield 21, 3) := by decide +kernel
theorem dX3_waitsForAhead_7 : decode cX3_waitsForAhead 7 = .ok (.getfield 53, 3) := by decide +kernel
theorem dX3_waitsForAhead_10 : decode cX3_waitsForAhead 10 = .ok (.if_icmp .ge 36, 3) := by decide +kernel
theorem dX3_waitsForAhead_13 : decode cX3_waitsForAhead 13 = .ok (.aload_n 0, 1) := by decide +kernel
theorem dX3_waitsForAhead_14 : decode cX3_waitsForAhead 14 = .ok (.getfield 21, 3) := by decide +kernel
theorem dX3_waitsForAhead_17 : decode cX3_waitsForAhead 17 = .ok (.getfield 72, 3) := by decide +kernel
theorem dX3_waitsForAhead_20 : decode cX3_waitsForAhead 20 = .ok (.iload_n 3, 1) := by decide +kernel
theorem dX3_waitsForAhead_21 : decode cX3_waitsForAhead 21 = .ok (.aaload, 1) := by decide +kernel
theorem dX3_waitsForAhead_22 : decode cX3_waitsForAhead 22 = .ok (.iload_n 1, 1) := by decide +kernel
theorem dX3_waitsForAhead_23 : decode cX3_waitsForAhead 23 = .ok (.iaload, 1) := by decide +kernel
theorem dX3_waitsForAhead_24 : decode cX3_waitsForAhead 24 = .ok (.iconst (-1), 1) := by decide +kernel
theorem dX3_waitsForAhead_25 : decode cX3_waitsForAhead 25 = .ok (.if_icmp .eq 15, 3) := by decide +kernel
theorem dX3_waitsForAhead_28 : decode cX3_waitsForAhead 28 = .ok (.aload_n 0, 1) := by decide +kernel
theorem dX3_waitsForAhead_29 : decode cX3_waitsForAhead 29 = .ok (.iload_n 3, 1) := by decide +kernel
theorem dX3_waitsForAhead_30 : decode cX3_waitsForAhead 30 = .ok (.iload_n 1, 1) := by decide +kernel
theorem dX3_waitsForAhead_31 : decode cX3_waitsForAhead 31 = .ok (.iload_n 2, 1) := by decide +kernel
theorem dX3_waitsForAhead_32 : decode cX3_waitsForAhead 32 = .ok (.invokevirtual 215, 3) := by decide +kernel
theorem dX3_waitsForAhead_35 : decode cX3_waitsForAhead 35 = .ok (.ifCond .ne 5, 3) := by decide +kernel
theorem dX3_waitsForAhead_38 : decode cX3_waitsForAhead 38 = .ok (.iconst 1, 1) := by decide +kernel
theorem dX3_waitsForAhead_39 : decode cX3_waitsForAhead 39 = .ok (.ireturn, 1) := by decide +kernel
theorem dX3_waitsForAhead_40 : decode cX3_waitsForAhead 40 = .ok (.iinc 3 1, 3) := by decide +kernel
theorem dX3_waitsForAhead_43 : decode cX3_waitsForAhead 43 = .ok (.goto (-41), 3) := by decide +kernel
theorem dX3_waitsForAhead_46 : decode cX3_waitsForAhead 46 = .ok (.iconst 0, 1) := by decide +kernel
theorem dX3_waitsForAhead_47 : decode cX3_waitsForAhead 47 = .ok (.ireturn, 1) := by decide +kernel
set_option maxRecDepth 20000 in
theorem ggX3_leadsBy_X1_standsOn : GoodIn wsX3_leadsBy wsX1_standsOn := goodIn_r _ [6, 7, 22, 23, 24, 25, 26, 27, 28, 29, 30] (by decide +kernel) (by decide +kernel)
set_option maxRecDepth 20000 in
theorem gX3_leadsBy_X1_standsOn_n184 : GoodIn wsX3_leadsBy (wsX1_standsOn) := ggX3_leadsBy_X1_standsOn
set_option maxRecDepth 20000 in
theorem ggX3_leadsBy_X2_placeOf : GoodIn wsX3_leadsBy wsX2_placeOf := goodIn_r _ [11, 12, 13, 31, 32] (by decide +kernel) (by decide +kernel)
set_option maxRecDepth 20000 in
theorem gX3_leadsBy_X2_placeOf_n113 : GoodIn wsX3_leadsBy (wsX2_placeOf) := ggX3_leadsBy_X2_placeOf
theorem dX3_leadsBy_0 : decode cX3_leadsBy 0 = .ok (.aload_n 0, 1) := by decide +kernel
theorem dX3_leadsBy_1 : decode cX3_leadsBy 1 = .ok (.getfield 21, 3) := by decide +kernel
theorem dX3_leadsBy_4 : decode cX3_leadsBy 4 = .ok (.getfield 72, 3) := by decide +kernel
theorem dX3_leadsBy_7 : decode cX3_leadsBy 7 = .ok (.iload_n 1, 1) := by decide +kernel
theorem dX3_leadsBy_8 : decode cX3_leadsBy 8 = .ok (.aaload, 1) := by decide +kernel
theorem dX3_leadsBy_9 : decode cX3_leadsBy 9 = .ok (.iload_n 2, 1) := by decide +kernel
theorem dX3_leadsBy_10 : decode cX3_leadsBy 10 = .ok (.iaload, 1) := by decide +kernel
theorem dX3_leadsBy_11 : decode cX3_leadsBy 11 = .ok (.istore 4, 2) := by decide +kernel
theorem dX3_leadsBy_13 : decode cX3_leadsBy 13 = .ok (.aload_n 0, 1) := by decide +kernel
theorem dX3_leadsBy_14 : decode cX3_leadsBy 14 = .ok (.getfield 21, 3) := by decide +kernel
theorem dX3_leadsBy_17 : decode cX3_leadsBy 17 = .ok (.iload_n 1, 1) := by decide +kernel
theorem dX3_leadsBy_18 : decode cX3_leadsBy 18 = .ok (.iload_n 3, 1) := by decide +kernel
theorem dX3_leadsBy_19 : decode cX3_leadsBy 19 = .ok (.invokevirtual 184, 3) := by decide +kernel
theorem dX3_leadsBy_22 : decode cX3_leadsBy 22 = .ok (.ifCond .ne 5, 3) := by decide +kernel
theorem dX3_leadsBy_25 : decode cX3_leadsBy 25 = .ok (.iconst 0, 1) := by decide +kernel
theorem dX3_leadsBy_26 : decode cX3_leadsBy 26 = .ok (.ireturn, 1) := by decide +kernel
theorem dX3_leadsBy_27 : decode cX3_leadsBy 27 = .ok (.iload 4, 2) := by decide +kernel
theorem dX3_leadsBy_29 : decode cX3_leadsBy 29 = .ok (.ifCond .ne 41, 3) := by decide +kernel
theorem dX3_leadsBy_32 : decode cX3_leadsBy 32 = .ok (.aload_n 0, 1) := by decide +kernel
theorem dX3_leadsBy_33 : decode cX3_leadsBy 33 = .ok (.getfield 21, 3) := by decide +kernel
theorem dX3_leadsBy_36 : decode cX3_leadsBy 36 = .ok (.getfield 162, 3) := by decide +kernel
theorem dX3_leadsBy_39 : decode cX3_leadsBy 39 = .ok (.iload_n 1, 1) := by decide +kernel
theorem dX3_leadsBy_40 : decode cX3_leadsBy 40 = .ok (.iaload, 1) := by decide +kernel
theorem dX3_leadsBy_41 : decode cX3_leadsBy 41 = .ok (.iload_n 3, 1) := by decide +kernel
theorem dX3_leadsBy_42 : decode cX3_leadsBy 42 = .ok (.if_icmp .ne 28, 3) := by decide +kernel
theorem dX3_leadsBy_45 : decode cX3_leadsBy 45 = .ok (.aload_n 0, 1) := by decide +kernel
theorem dX3_leadsBy_46 : decode cX3_leadsBy 46 = .ok (.getfield 28, 3) := by decide +kernel
theorem dX3_leadsBy_49 : decode cX3_leadsBy 49 = .ok (.iload_n 1, 1) := by decide +kernel
theorem dX3_leadsBy_50 : decode cX3_leadsBy 50 = .ok (.invokevirtual 113, 3) := by decide +kernel
theorem dX3_leadsBy_53 : decode cX3_leadsBy 53 = .ok (.aload_n 0, 1) := by decide +kernel
theorem dX3_leadsBy_54 : decode cX3_leadsBy 54 = .ok (.getfield 28, 3) := by decide +kernel
theorem dX3_leadsBy_57 : decode cX3_leadsBy 57 = .ok (.iload_n 2, 1) := by decide +kernel
theorem dX3_leadsBy_58 : decode cX3_leadsBy 58 = .ok (.invokevirtual 113, 3) := by decide +kernel
theorem dX3_leadsBy_61 : decode cX3_leadsBy 61 = .ok (.if_icmp .ge 7, 3) := by decide +kernel
theorem dX3_leadsBy_64 : decode cX3_leadsBy 64 = .ok (.iconst 1, 1) := by decide +kernel
theorem dX3_leadsBy_65 : decode cX3_leadsBy 65 = .ok (.goto 4, 3) := by decide +kernel
theorem dX3_leadsBy_68 : decode cX3_leadsBy 68 = .ok (.iconst 0, 1) := by decide +kernel
theorem dX3_leadsBy_69 : decode cX3_leadsBy 69 = .ok (.ireturn, 1) := by decide +kernel
theorem dX3_leadsBy_70 : decode cX3_leadsBy 70 = .ok (.aload_n 0, 1) := by decide +kernel
theorem dX3_leadsBy_71 : decode cX3_leadsBy 71 = .ok (.getfield 21, 3) := by decide +kernel
theorem dX3_leadsBy_74 : decode cX3_leadsBy 74 = .ok (.getfield 162, 3) := by decide +kernel
theorem dX3_leadsBy_77 : decode cX3_leadsBy 77 = .ok (.iload_n 1, 1) := by decide +kernel
theorem dX3_leadsBy_78 : decode cX3_leadsBy 78 = .ok (.iaload, 1) := by decide +kernel
theorem dX3_leadsBy_79 : decode cX3_leadsBy 79 = .ok (.iload 4, 2) := by decide +kernel
theorem dX3_leadsBy_81 : decode cX3_leadsBy 81 = .ok (.iadd, 1) := by decide +kernel
theorem dX3_leadsBy_82 : decode cX3_leadsBy 82 = .ok (.iload_n 3, 1) := by decide +kernel
theorem dX3_leadsBy_83 : decode cX3_leadsBy 83 = .ok (.if_icmp .gt 7, 3) := by decide +kernel
theorem dX3_leadsBy_86 : decode cX3_leadsBy 86 = .ok (.iconst 1, 1) := by decide +kernel
theorem dX3_leadsBy_87 : decode cX3_leadsBy 87 = .ok (.goto 4, 3) := by decide +kernel
theorem dX3_leadsBy_90 : decode cX3_leadsBy 90 = .ok (.iconst 0, 1) := by decide +kernel
theorem dX3_leadsBy_91 : decode cX3_leadsBy 91 = .ok (.ireturn, 1) := by decide +kernel
set_option maxRecDepth 20000 in
theorem ggX3_waitsToStand_X1_carries : GoodIn wsX3_waitsToStand wsX1_carries := goodIn_r _ [6, 7, 8, 29, 30, 31, 32, 33, 34, 35, 36, 37] (by decide +kernel) (by decide +kernel)
set_option maxRecDepth 20000 in
theorem gX3_waitsToStand_X1_carries_n218 : GoodIn wsX3_waitsToStand (wsX1_carries) := ggX3_waitsToStand_X1_carries
set_option maxRecDepth 20000 in
theorem ggX3_waitsToStand_X0_hardnessOn : GoodIn wsX3_waitsToStand wsX0_hardnessOn := goodIn_r _ [12, 13, 14, 15, 16, 10, 17, 18, 19, 20, 38, 39, 40, 41, 42, 43, 44, 45] (by decide +kernel) (by decide +kernel)
set_option maxRecDepth 20000 in
theorem gX3_waitsToStand_X0_hardnessOn_n168 : GoodIn wsX3_waitsToStand (wsX0_hardnessOn) := ggX3_waitsToStand_X0_hardnessOn
theorem dX3_waitsToStand_0 : decode cX3_waitsToStand 0 = .ok (.iconst 0, 1) := by decide +kernel
theorem dX3_waitsToStand_1 : decode cX3_waitsToStand 1 = .ok (.istore_n 3, 1) := by decide +kernel
theorem dX3_waitsToStand_2 : decode cX3_waitsToStand 2 = .ok (.iload_n 3, 1) := by decide +kernel
theorem dX3_waitsToStand_3 : decode cX3_waitsToStand 3 = .ok (.aload_n 0, 1) := by decide +kernel
theorem dX3_waitsToStand_4 : decode cX3_waitsToStand 4 = .ok (.getfield 21, 3) := by decide +kernel
theorem dX3_waitsToStand_7 : decode cX3_waitsToStand 7 = .ok (.getfield 53, 3) := by decide +kernel
theorem dX3_waitsToStand_10 : decode cX3_waitsToStand 10 = .ok (.if_icmp .ge 52, 3) := by decide +kernel
theorem dX3_waitsToStand_13 : decode cX3_waitsToStand 13 = .ok (.aload_n 0, 1) := by decide +kernel
theorem dX3_waitsToStand_14 : decode cX3_waitsToStand 14 = .ok (.getfield 21, 3) := by decide +kernel
theorem dX3_waitsToStand_17 : decode cX3_waitsToStand 17 = .ok (.iload_n 3, 1) := by decide +kernel
theorem dX3_waitsToStand_18 : decode cX3_waitsToStand 18 = .ok (.iload_n 1, 1) := by decide +kernel
theorem dX3_waitsToStand_19 : decode cX3_waitsToStand 19 = .ok (.invokevirtual 218, 3) := by decide +kernel
theorem dX3_waitsToStand_22 : decode cX3_waitsToStand 22 = .ok (.ifCond .eq 34, 3) := by decide +kernel
theorem dX3_waitsToStand_25 : decode cX3_waitsToStand 25 = .ok (.aload_n 0, 1) := by decide +kernel
theorem dX3_waitsToStand_26 : decode cX3_waitsToStand 26 = .ok (.getfield 14, 3) := by decide +kernel
theorem dX3_waitsToStand_29 : decode cX3_waitsToStand 29 = .ok (.aload_n 0, 1) := by decide +kernel
theorem dX3_waitsToStand_30 : decode cX3_waitsToStand 30 = .ok (.getfield 21, 3) := by decide +kernel
theorem dX3_waitsToStand_33 : decode cX3_waitsToStand 33 = .ok (.getfield 162, 3) := by decide +kernel
theorem dX3_waitsToStand_36 : decode cX3_waitsToStand 36 = .ok (.iload_n 3, 1) := by decide +kernel
theorem dX3_waitsToStand_37 : decode cX3_waitsToStand 37 = .ok (.iaload, 1) := by decide +kernel
theorem dX3_waitsToStand_38 : decode cX3_waitsToStand 38 = .ok (.iload_n 2, 1) := by decide +kernel
theorem dX3_waitsToStand_39 : decode cX3_waitsToStand 39 = .ok (.invokevirtual 168, 3) := by decide +kernel
theorem dX3_waitsToStand_42 : decode cX3_waitsToStand 42 = .ok (.aload_n 0, 1) := by decide +kernel
theorem dX3_waitsToStand_43 : decode cX3_waitsToStand 43 = .ok (.getfield 14, 3) := by decide +kernel
theorem dX3_waitsToStand_46 : decode cX3_waitsToStand 46 = .ok (.getfield 76, 3) := by decide +kernel
theorem dX3_waitsToStand_49 : decode cX3_waitsToStand 49 = .ok (.iconst 1, 1) := by decide +kernel
theorem dX3_waitsToStand_50 : decode cX3_waitsToStand 50 = .ok (.iaload, 1) := by decide +kernel
theorem dX3_waitsToStand_51 : decode cX3_waitsToStand 51 = .ok (.if_icmp .ge 5, 3) := by decide +kernel
theorem dX3_waitsToStand_54 : decode cX3_waitsToStand 54 = .ok (.iconst 1, 1) := by decide +kernel
theorem dX3_waitsToStand_55 : decode cX3_waitsToStand 55 = .ok (.ireturn, 1) := by decide +kernel
theorem dX3_waitsToStand_56 : decode cX3_waitsToStand 56 = .ok (.iinc 3 1, 3) := by decide +kernel
theorem dX3_waitsToStand_59 : decode cX3_waitsToStand 59 = .ok (.goto (-57), 3) := by decide +kernel
theorem dX3_waitsToStand_62 : decode cX3_waitsToStand 62 = .ok (.iconst 0, 1) := by decide +kernel
theorem dX3_waitsToStand_63 : decode cX3_waitsToStand 63 = .ok (.ireturn, 1) := by decide +kernel
set_option maxRecDepth 20000 in
theorem ggX3_formsLeft_X3_isHeldOn : GoodIn wsX3_formsLeft wsX3_isHeldOn := goodIn_r _ [7, 2, 8, 9, 10, 11, 12, 13, 14, 15, 16, 17, 18, 19, 20, 21, 22, 23, 24, 25, 26, 27, 28, 29, 30, 31, 32, 33, 34, 35, 36, 37, 38, 39, 40, 41, 42, 43] (by decide +kernel) (by decide +kernel)
set_option maxRecDepth 20000 in
theorem gX3_formsLeft_X3_isHeldOn : GoodIn wsX3_formsLeft (wsV RX3 221 RX3 yX3_isHeldOn wsX3_isHeldOn) := goodIn_app (goodIn_of _ (by decide +kernel)) ggX3_formsLeft_X3_isHeldOn
theorem dX3_formsLeft_0 : decode cX3_formsLeft 0 = .ok (.aload_n 0, 1) := by decide +kernel
theorem dX3_formsLeft_1 : decode cX3_formsLeft 1 = .ok (.getfield 32, 3) := by decide +kernel
theorem dX3_formsLeft_4 : decode cX3_formsLeft 4 = .ok (.iload_n 1, 1) := by decide +kernel
theorem dX3_formsLeft_5 : decode cX3_formsLeft 5 = .ok (.iaload, 1) := by decide +kernel
theorem dX3_formsLeft_6 : decode cX3_formsLeft 6 = .ok (.istore 4, 2) := by decide +kernel
theorem dX3_formsLeft_8 : decode cX3_formsLeft 8 = .ok (.iconst 0, 1) := by decide +kernel
theorem dX3_formsLeft_9 : decode cX3_formsLeft 9 = .ok (.istore 5, 2) := by decide +kernel
theorem dX3_formsLeft_11 : decode cX3_formsLeft 11 = .ok (.iload 5, 2) := by decide +kernel
theorem dX3_formsLeft_13 : decode cX3_formsLeft 13 = .ok (.aload_n 0, 1) := by decide +kernel
theorem dX3_formsLeft_14 : decode cX3_formsLeft 14 = .ok (.getfield 21, 3) := by decide +kernel
theorem dX3_formsLeft_17 : decode cX3_formsLeft 17 = .ok (.getfield 53, 3) := by decide +kernel
theorem dX3_formsLeft_20 : decode cX3_formsLeft 20 = .ok (.if_icmp .ge 54, 3) := by decide +kernel
theorem dX3_formsLeft_23 : decode cX3_formsLeft 23 = .ok (.iload 5, 2) := by decide +kernel
theorem dX3_formsLeft_25 : decode cX3_formsLeft 25 = .ok (.iload_n 3, 1) := by decide +kernel
theorem dX3_formsLeft_26 : decode cX3_formsLeft 26 = .ok (.if_icmp .eq 42, 3) := by decide +kernel
theorem dX3_formsLeft_29 : decode cX3_formsLeft 29 = .ok (.aload_n 0, 1) := by decide +kernel
theorem dX3_formsLeft_30 : decode cX3_formsLeft 30 = .ok (.getfield 21, 3) := by decide +kernel
theorem dX3_formsLeft_33 : decode cX3_formsLeft 33 = .ok (.getfield 156, 3) := by decide +kernel
theorem dX3_formsLeft_36 : decode cX3_formsLeft 36 = .ok (.iload 5, 2) := by decide +kernel
theorem dX3_formsLeft_38 : decode cX3_formsLeft 38 = .ok (.iaload, 1) := by decide +kernel
theorem dX3_formsLeft_39 : decode cX3_formsLeft 39 = .ok (.iload_n 1, 1) := by decide +kernel
theorem dX3_formsLeft_40 : decode cX3_formsLeft 40 = .ok (.if_icmp .ne 28, 3) := by decide +kernel
theorem dX3_formsLeft_43 : decode cX3_formsLeft 43 = .ok (.aload_n 0, 1) := by decide +kernel
theorem dX3_formsLeft_44 : decode cX3_formsLeft 44 = .ok (.iload 5, 2) := by decide +kernel
theorem dX3_formsLeft_46 : decode cX3_formsLeft 46 = .ok (.iload_n 2, 1) := by decide +kernel
theorem dX3_formsLeft_47 : decode cX3_formsLeft 47 = .ok (.invokevirtual 221, 3) := by decide +kernel
theorem dX3_formsLeft_50 : decode cX3_formsLeft 50 = .ok (.ifCond .eq 18, 3) := by decide +kernel
theorem dX3_formsLeft_53 : decode cX3_formsLeft 53 = .ok (.iload 4, 2) := by decide +kernel
theorem dX3_formsLeft_55 : decode cX3_formsLeft 55 = .ok (.aload_n 0, 1) := by decide +kernel
theorem dX3_formsLeft_56 : decode cX3_formsLeft 56 = .ok (.getfield 21, 3) := by decide +kernel
theorem dX3_formsLeft_59 : decode cX3_formsLeft 59 = .ok (.getfield 159, 3) := by decide +kernel
theorem dX3_formsLeft_62 : decode cX3_formsLeft 62 = .ok (.iload 5, 2) := by decide +kernel
theorem dX3_formsLeft_64 : decode cX3_formsLeft 64 = .ok (.iaload, 1) := by decide +kernel
theorem dX3_formsLeft_65 : decode cX3_formsLeft 65 = .ok (.isub, 1) := by decide +kernel
theorem dX3_formsLeft_66 : decode cX3_formsLeft 66 = .ok (.istore 4, 2) := by decide +kernel
theorem dX3_formsLeft_68 : decode cX3_formsLeft 68 = .ok (.iinc 5 1, 3) := by decide +kernel
theorem dX3_formsLeft_71 : decode cX3_formsLeft 71 = .ok (.goto (-60), 3) := by decide +kernel
theorem dX3_formsLeft_74 : decode cX3_formsLeft 74 = .ok (.iload 4, 2) := by decide +kernel
theorem dX3_formsLeft_76 : decode cX3_formsLeft 76 = .ok (.ireturn, 1) := by decide +kernel
theorem dX3_volumeOn_0 : decode cX3_volumeOn 0 = .ok (.iconst 0, 1) := by decide +kernel
theorem dX3_volumeOn_1 : decode cX3_volumeOn 1 = .ok (.istore_n 3, 1) := by decide +kernel
theorem dX3_volumeOn_2 : decode cX3_volumeOn 2 = .ok (.iconst 0, 1) := by decide +kernel
theorem dX3_volumeOn_3 : decode cX3_volumeOn 3 = .ok (.istore 4, 2) := by decide +kernel
theorem dX3_volumeOn_5 : decode cX3_volumeOn 5 = .ok (.iload 4, 2) := by decide +kernel
theorem dX3_volumeOn_7 : decode cX3_volumeOn 7 = .ok (.aload_n 0, 1) := by decide +kernel
theorem dX3_volumeOn_8 : decode cX3_volumeOn 8 = .ok (.getfield 21, 3) := by decide +kernel
theorem dX3_volumeOn_11 : decode cX3_volumeOn 11 = .ok (.getfield 53, 3) := by decide +kernel
theorem dX3_volumeOn_14 : decode cX3_volumeOn 14 = .ok (.if_icmp .ge 42, 3) := by decide +kernel
theorem dX3_volumeOn_17 : decode cX3_volumeOn 17 = .ok (.iload 4, 2) := by decide +kernel
theorem dX3_volumeOn_19 : decode cX3_volumeOn 19 = .ok (.iload_n 2, 1) := by decide +kernel
theorem dX3_volumeOn_20 : decode cX3_volumeOn 20 = .ok (.if_icmp .eq 30, 3) := by decide +kernel
theorem dX3_volumeOn_23 : decode cX3_volumeOn 23 = .ok (.aload_n 0, 1) := by decide +kernel
theorem dX3_volumeOn_24 : decode cX3_volumeOn 24 = .ok (.getfield 21, 3) := by decide +kernel
theorem dX3_volumeOn_27 : decode cX3_volumeOn 27 = .ok (.getfield 162, 3) := by decide +kernel
theorem dX3_volumeOn_30 : decode cX3_volumeOn 30 = .ok (.iload 4, 2) := by decide +kernel
theorem dX3_volumeOn_32 : decode cX3_volumeOn 32 = .ok (.iaload, 1) := by decide +kernel
theorem dX3_volumeOn_33 : decode cX3_volumeOn 33 = .ok (.iload_n 1, 1) := by decide +kernel
theorem dX3_volumeOn_34 : decode cX3_volumeOn 34 = .ok (.if_icmp .ne 16, 3) := by decide +kernel
theorem dX3_volumeOn_37 : decode cX3_volumeOn 37 = .ok (.iload_n 3, 1) := by decide +kernel
theorem dX3_volumeOn_38 : decode cX3_volumeOn 38 = .ok (.aload_n 0, 1) := by decide +kernel
theorem dX3_volumeOn_39 : decode cX3_volumeOn 39 = .ok (.getfield 21, 3) := by decide +kernel
theorem dX3_volumeOn_42 : decode cX3_volumeOn 42 = .ok (.getfield 153, 3) := by decide +kernel
theorem dX3_volumeOn_45 : decode cX3_volumeOn 45 = .ok (.iload 4, 2) := by decide +kernel
theorem dX3_volumeOn_47 : decode cX3_volumeOn 47 = .ok (.iaload, 1) := by decide +kernel
theorem dX3_volumeOn_48 : decode cX3_volumeOn 48 = .ok (.iadd, 1) := by decide +kernel
theorem dX3_volumeOn_49 : decode cX3_volumeOn 49 = .ok (.istore_n 3, 1) := by decide +kernel
theorem dX3_volumeOn_50 : decode cX3_volumeOn 50 = .ok (.iinc 4 1, 3) := by decide +kernel
theorem dX3_volumeOn_53 : decode cX3_volumeOn 53 = .ok (.goto (-48), 3) := by decide +kernel
theorem dX3_volumeOn_56 : decode cX3_volumeOn 56 = .ok (.iload_n 3, 1) := by decide +kernel
theorem dX3_volumeOn_57 : decode cX3_volumeOn 57 = .ok (.ireturn, 1) := by decide +kernel
set_option maxRecDepth 20000 in
theorem ggX3_isHeldOn_X1_standsOn : GoodIn wsX3_isHeldOn wsX1_standsOn := goodIn_r _ [6, 7, 21, 22, 23, 24, 25, 26, 27, 28, 29] (by decide +kernel) (by decide +kernel)
set_option maxRecDepth 20000 in
theorem gX3_isHeldOn_X1_standsOn_n184 : GoodIn wsX3_isHeldOn (wsX1_standsOn) := ggX3_isHeldOn_X1_standsOn
set_option maxRecDepth 20000 in
theorem ggX3_isHeldOn_X0_stripDayFor : GoodIn wsX3_isHeldOn wsX0_stripDayFor := goodIn_r _ [11, 12, 30, 31, 32, 33, 34, 35, 36, 37] (by decide +kernel) (by decide +kernel)
set_option maxRecDepth 20000 in
theorem gX3_isHeldOn_X0_stripDayFor_n165 : GoodIn wsX3_isHeldOn (wsX0_stripDayFor) := ggX3_isHeldOn_X0_stripDayFor
theorem dX3_isHeldOn_0 : decode cX3_isHeldOn 0 = .ok (.aload_n 0, 1) := by decide +kernel
theorem dX3_isHeldOn_1 : decode cX3_isHeldOn 1 = .ok (.getfield 21, 3) := by decide +kernel
theorem dX3_isHeldOn_4 : decode cX3_isHeldOn 4 = .ok (.iload_n 1, 1) := by decide +kernel
theorem dX3_isHeldOn_5 : decode cX3_isHeldOn 5 = .ok (.iload_n 2, 1) := by decide +kernel
theorem dX3_isHeldOn_6 : decode cX3_isHeldOn 6 = .ok (.invokevirtual 184, 3) := by decide +kernel
theorem dX3_isHeldOn_9 : decode cX3_isHeldOn 9 = .ok (.ifCond .eq 27, 3) := by decide +kernel
theorem dX3_isHeldOn_12 : decode cX3_isHeldOn 12 = .ok (.iload_n 2, 1) := by decide +kernel
theorem dX3_isHeldOn_13 : decode cX3_isHeldOn 13 = .ok (.aload_n 0, 1) := by decide +kernel
theorem dX3_isHeldOn_14 : decode cX3_isHeldOn 14 = .ok (.getfield 14, 3) := by decide +kernel
theorem dX3_isHeldOn_17 : decode cX3_isHeldOn 17 = .ok (.aload_n 0, 1) := by decide +kernel
theorem dX3_isHeldOn_18 : decode cX3_isHeldOn 18 = .ok (.getfield 21, 3) := by decide +kernel
theorem dX3_isHeldOn_21 : decode cX3_isHeldOn 21 = .ok (.getfield 162, 3) := by decide +kernel
theorem dX3_isHeldOn_24 : decode cX3_isHeldOn 24 = .ok (.iload_n 1, 1) := by decide +kernel
theorem dX3_isHeldOn_25 : decode cX3_isHeldOn 25 = .ok (.iaload, 1) := by decide +kernel
theorem dX3_isHeldOn_26 : decode cX3_isHeldOn 26 = .ok (.invokevirtual 165, 3) := by decide +kernel
theorem dX3_isHeldOn_29 : decode cX3_isHeldOn 29 = .ok (.if_icmp .ge 7, 3) := by decide +kernel
theorem dX3_isHeldOn_32 : decode cX3_isHeldOn 32 = .ok (.iconst 1, 1) := by decide +kernel
theorem dX3_isHeldOn_33 : decode cX3_isHeldOn 33 = .ok (.goto 4, 3) := by decide +kernel
theorem dX3_isHeldOn_36 : decode cX3_isHeldOn 36 = .ok (.iconst 0, 1) := by decide +kernel
theorem dX3_isHeldOn_37 : decode cX3_isHeldOn 37 = .ok (.ireturn, 1) := by decide +kernel
set_option maxRecDepth 20000 in
theorem ggX3_hardnessBelow_X3_isIn : GoodIn wsX3_hardnessBelow wsX3_isIn := goodIn_r _ [6] (by decide +kernel) (by decide +kernel)
set_option maxRecDepth 20000 in
theorem gX3_hardnessBelow_X3_isIn : GoodIn wsX3_hardnessBelow (va_wsS RX3 49 yX3_isIn wsX3_isIn) := goodIn_app (goodIn_of _ (by decide +kernel)) ggX3_hardnessBelow_X3_isIn
set_option maxRecDepth 20000 in
theorem ggX3_hardnessBelow_X1_standsOn : GoodIn wsX3_hardnessBelow wsX1_standsOn := goodIn_r _ [10, 11, 32, 33, 34, 35, 36, 37, 38, 39, 40] (by decide +kernel) (by decide +kernel)
set_option maxRecDepth 20000 in
theorem gX3_hardnessBelow_X1_standsOn_n184 : GoodIn wsX3_hardnessBelow (wsX1_standsOn) := ggX3_hardnessBelow_X1_standsOn
set_option maxRecDepth 20000 in
theorem ggX3_hardnessBelow_X0_hardnessOn : GoodIn wsX3_hardnessBelow wsX0_hardnessOn := goodIn_r _ [15, 16, 17, 18, 19, 13, 20, 21, 22, 23, 41, 42, 43, 44, 45, 46, 47, 48] (by decide +kernel) (by decide +kernel)
set_option maxRecDepth 20000 in
theorem gX3_hardnessBelow_X0_hardnessOn_n168 : GoodIn wsX3_hardnessBelow (wsX0_hardnessOn) := ggX3_hardnessBelow_X0_hardnessOn
theorem dX3_hardnessBelow_0 : decode cX3_hardnessBelow 0 = .ok (.lconst 0, 1) := by decide +kernel
theorem dX3_hardnessBelow_1 : decode cX3_hardnessBelow 1 = .ok (.lstore_n 3, 1) := by decide +kernel
theorem dX3_hardnessBelow_2 : decode cX3_hardnessBelow 2 = .ok (.iconst 0, 1) := by decide +kernel
theorem dX3_hardnessBelow_3 : decode cX3_hardnessBelow 3 = .ok (.istore 5, 2) := by decide +kernel
theorem dX3_hardnessBelow_5 : decode cX3_hardnessBelow 5 = .ok (.iload 5, 2) := by decide +kernel
theorem dX3_hardnessBelow_7 : decode cX3_hardnessBelow 7 = .ok (.aload_n 0, 1) := by decide +kernel
theorem dX3_hardnessBelow_8 : decode cX3_hardnessBelow 8 = .ok (.getfield 21, 3) := by decide +kernel
theorem dX3_hardnessBelow_11 : decode cX3_hardnessBelow 11 = .ok (.getfield 53, 3) := by decide +kernel
theorem dX3_hardnessBelow_14 : decode cX3_hardnessBelow 14 = .ok (.if_icmp .ge 81, 3) := by decide +kernel
theorem dX3_hardnessBelow_17 : decode cX3_hardnessBelow 17 = .ok (.iload_n 1, 1) := by decide +kernel
theorem dX3_hardnessBelow_18 : decode cX3_hardnessBelow 18 = .ok (.aload_n 0, 1) := by decide +kernel
theorem dX3_hardnessBelow_19 : decode cX3_hardnessBelow 19 = .ok (.getfield 21, 3) := by decide +kernel
theorem dX3_hardnessBelow_22 : decode cX3_hardnessBelow 22 = .ok (.getfield 150, 3) := by decide +kernel
theorem dX3_hardnessBelow_25 : decode cX3_hardnessBelow 25 = .ok (.iload 5, 2) := by decide +kernel
theorem dX3_hardnessBelow_27 : decode cX3_hardnessBelow 27 = .ok (.iaload, 1) := by decide +kernel
theorem dX3_hardnessBelow_28 : decode cX3_hardnessBelow 28 = .ok (.isub, 1) := by decide +kernel
theorem dX3_hardnessBelow_29 : decode cX3_hardnessBelow 29 = .ok (.iconst 1, 1) := by decide +kernel
theorem dX3_hardnessBelow_30 : decode cX3_hardnessBelow 30 = .ok (.iconst 2, 1) := by decide +kernel
theorem dX3_hardnessBelow_31 : decode cX3_hardnessBelow 31 = .ok (.invokestatic 49, 3) := by decide +kernel
theorem dX3_hardnessBelow_34 : decode cX3_hardnessBelow 34 = .ok (.istore 6, 2) := by decide +kernel
theorem dX3_hardnessBelow_36 : decode cX3_hardnessBelow 36 = .ok (.iload 6, 2) := by decide +kernel
theorem dX3_hardnessBelow_38 : decode cX3_hardnessBelow 38 = .ok (.ifCond .eq 51, 3) := by decide +kernel
theorem dX3_hardnessBelow_41 : decode cX3_hardnessBelow 41 = .ok (.aload_n 0, 1) := by decide +kernel
theorem dX3_hardnessBelow_42 : decode cX3_hardnessBelow 42 = .ok (.getfield 21, 3) := by decide +kernel
theorem dX3_hardnessBelow_45 : decode cX3_hardnessBelow 45 = .ok (.getfield 147, 3) := by decide +kernel
theorem dX3_hardnessBelow_48 : decode cX3_hardnessBelow 48 = .ok (.iload 5, 2) := by decide +kernel
theorem dX3_hardnessBelow_50 : decode cX3_hardnessBelow 50 = .ok (.iaload, 1) := by decide +kernel
theorem dX3_hardnessBelow_51 : decode cX3_hardnessBelow 51 = .ok (.ifCond .ne 38, 3) := by decide +kernel
theorem dX3_hardnessBelow_54 : decode cX3_hardnessBelow 54 = .ok (.aload_n 0, 1) := by decide +kernel
theorem dX3_hardnessBelow_55 : decode cX3_hardnessBelow 55 = .ok (.getfield 21, 3) := by decide +kernel
theorem dX3_hardnessBelow_58 : decode cX3_hardnessBelow 58 = .ok (.iload 5, 2) := by decide +kernel
theorem dX3_hardnessBelow_60 : decode cX3_hardnessBelow 60 = .ok (.iload_n 2, 1) := by decide +kernel
theorem dX3_hardnessBelow_61 : decode cX3_hardnessBelow 61 = .ok (.invokevirtual 184, 3) := by decide +kernel
theorem dX3_hardnessBelow_64 : decode cX3_hardnessBelow 64 = .ok (.ifCond .eq 25, 3) := by decide +kernel
theorem dX3_hardnessBelow_67 : decode cX3_hardnessBelow 67 = .ok (.lload_n 3, 1) := by decide +kernel
theorem dX3_hardnessBelow_68 : decode cX3_hardnessBelow 68 = .ok (.aload_n 0, 1) := by decide +kernel
theorem dX3_hardnessBelow_69 : decode cX3_hardnessBelow 69 = .ok (.getfield 14, 3) := by decide +kernel
theorem dX3_hardnessBelow_72 : decode cX3_hardnessBelow 72 = .ok (.aload_n 0, 1) := by decide +kernel
theorem dX3_hardnessBelow_73 : decode cX3_hardnessBelow 73 = .ok (.getfield 21, 3) := by decide +kernel
theorem dX3_hardnessBelow_76 : decode cX3_hardnessBelow 76 = .ok (.getfield 162, 3) := by decide +kernel
theorem dX3_hardnessBelow_79 : decode cX3_hardnessBelow 79 = .ok (.iload 5, 2) := by decide +kernel
theorem dX3_hardnessBelow_81 : decode cX3_hardnessBelow 81 = .ok (.iaload, 1) := by decide +kernel
theorem dX3_hardnessBelow_82 : decode cX3_hardnessBelow 82 = .ok (.iload_n 2, 1) := by decide +kernel
theorem dX3_hardnessBelow_83 : decode cX3_hardnessBelow 83 = .ok (.invokevirtual 168, 3) := by decide +kernel
theorem dX3_hardnessBelow_86 : decode cX3_hardnessBelow 86 = .ok (.i2l, 1) := by decide +kernel
theorem dX3_hardnessBelow_87 : decode cX3_hardnessBelow 87 = .ok (.ladd, 1) := by decide +kernel
theorem dX3_hardnessBelow_88 : decode cX3_hardnessBelow 88 = .ok (.lstore_n 3, 1) := by decide +kernel
theorem dX3_hardnessBelow_89 : decode cX3_hardnessBelow 89 = .ok (.iinc 5 1, 3) := by decide +kernel
theorem dX3_hardnessBelow_92 : decode cX3_hardnessBelow 92 = .ok (.goto (-87), 3) := by decide +kernel
theorem dX3_hardnessBelow_95 : decode cX3_hardnessBelow 95 = .ok (.lload_n 3, 1) := by decide +kernel
theorem dX3_hardnessBelow_96 : decode cX3_hardnessBelow 96 = .ok (.lreturn, 1) := by decide +kernel
set_option maxRecDepth 20000 in
theorem ggX3_loadOf_X3_isHeldOn : GoodIn wsX3_loadOf wsX3_isHeldOn := goodIn_r _ [6, 1, 7, 8, 9, 10, 11, 12, 13, 14, 15, 16, 17, 18, 19, 20, 21, 22, 23, 24, 25, 26, 27, 28, 29, 30, 31, 32, 33, 34, 35, 36, 37, 38, 39, 40, 41, 42] (by decide +kernel) (by decide +kernel)
set_option maxRecDepth 20000 in
theorem gX3_loadOf_X3_isHeldOn : GoodIn wsX3_loadOf (wsV RX3 221 RX3 yX3_isHeldOn wsX3_isHeldOn) := goodIn_app (goodIn_of _ (by decide +kernel)) ggX3_loadOf_X3_isHeldOn
theorem dX3_loadOf_0 : decode cX3_loadOf 0 = .ok (.lconst 0, 1) := by decide +kernel
theorem dX3_loadOf_1 : decode cX3_loadOf 1 = .ok (.lstore_n 3, 1) := by decide +kernel
theorem dX3_loadOf_2 : decode cX3_loadOf 2 = .ok (.iconst 0, 1) := by decide +kernel
theorem dX3_loadOf_3 : decode cX3_loadOf 3 = .ok (.istore 5, 2) := by decide +kernel
theorem dX3_loadOf_5 : decode cX3_loadOf 5 = .ok (.iload 5, 2) := by decide +kernel
theorem dX3_loadOf_7 : decode cX3_loadOf 7 = .ok (.aload_n 0, 1) := by decide +kernel
theorem dX3_loadOf_8 : decode cX3_loadOf 8 = .ok (.getfield 21, 3) := by decide +kernel
theorem dX3_loadOf_11 : decode cX3_loadOf 11 = .ok (.getfield 53, 3) := by decide +kernel
theorem dX3_loadOf_14 : decode cX3_loadOf 14 = .ok (.if_icmp .ge 60, 3) := by decide +kernel
theorem dX3_loadOf_17 : decode cX3_loadOf 17 = .ok (.aload_n 0, 1) := by decide +kernel
theorem dX3_loadOf_18 : decode cX3_loadOf 18 = .ok (.getfield 21, 3) := by decide +kernel
theorem dX3_loadOf_21 : decode cX3_loadOf 21 = .ok (.getfield 150, 3) := by decide +kernel
theorem dX3_loadOf_24 : decode cX3_loadOf 24 = .ok (.iload 5, 2) := by decide +kernel
theorem dX3_loadOf_26 : decode cX3_loadOf 26 = .ok (.iaload, 1) := by decide +kernel
theorem dX3_loadOf_27 : decode cX3_loadOf 27 = .ok (.iload_n 1, 1) := by decide +kernel
theorem dX3_loadOf_28 : decode cX3_loadOf 28 = .ok (.if_icmp .ne 40, 3) := by decide +kernel
theorem dX3_loadOf_31 : decode cX3_loadOf 31 = .ok (.aload_n 0, 1) := by decide +kernel
theorem dX3_loadOf_32 : decode cX3_loadOf 32 = .ok (.getfield 21, 3) := by decide +kernel
theorem dX3_loadOf_35 : decode cX3_loadOf 35 = .ok (.getfield 147, 3) := by decide +kernel
theorem dX3_loadOf_38 : decode cX3_loadOf 38 = .ok (.iload 5, 2) := by decide +kernel
theorem dX3_loadOf_40 : decode cX3_loadOf 40 = .ok (.iaload, 1) := by decide +kernel
theorem dX3_loadOf_41 : decode cX3_loadOf 41 = .ok (.ifCond .ne 27, 3) := by decide +kernel
theorem dX3_loadOf_44 : decode cX3_loadOf 44 = .ok (.aload_n 0, 1) := by decide +kernel
theorem dX3_loadOf_45 : decode cX3_loadOf 45 = .ok (.iload 5, 2) := by decide +kernel
theorem dX3_loadOf_47 : decode cX3_loadOf 47 = .ok (.iload_n 2, 1) := by decide +kernel
theorem dX3_loadOf_48 : decode cX3_loadOf 48 = .ok (.invokevirtual 221, 3) := by decide +kernel
theorem dX3_loadOf_51 : decode cX3_loadOf 51 = .ok (.ifCond .eq 17, 3) := by decide +kernel
theorem dX3_loadOf_54 : decode cX3_loadOf 54 = .ok (.lload_n 3, 1) := by decide +kernel
theorem dX3_loadOf_55 : decode cX3_loadOf 55 = .ok (.aload_n 0, 1) := by decide +kernel
theorem dX3_loadOf_56 : decode cX3_loadOf 56 = .ok (.getfield 21, 3) := by decide +kernel
theorem dX3_loadOf_59 : decode cX3_loadOf 59 = .ok (.getfield 153, 3) := by decide +kernel
theorem dX3_loadOf_62 : decode cX3_loadOf 62 = .ok (.iload 5, 2) := by decide +kernel
theorem dX3_loadOf_64 : decode cX3_loadOf 64 = .ok (.iaload, 1) := by decide +kernel
theorem dX3_loadOf_65 : decode cX3_loadOf 65 = .ok (.i2l, 1) := by decide +kernel
theorem dX3_loadOf_66 : decode cX3_loadOf 66 = .ok (.ladd, 1) := by decide +kernel
theorem dX3_loadOf_67 : decode cX3_loadOf 67 = .ok (.lstore_n 3, 1) := by decide +kernel
theorem dX3_loadOf_68 : decode cX3_loadOf 68 = .ok (.iinc 5 1, 3) := by decide +kernel
theorem dX3_loadOf_71 : decode cX3_loadOf 71 = .ok (.goto (-66), 3) := by decide +kernel
theorem dX3_loadOf_74 : decode cX3_loadOf 74 = .ok (.lload_n 3, 1) := by decide +kernel
theorem dX3_loadOf_75 : decode cX3_loadOf 75 = .ok (.lreturn, 1) := by decide +kernel
theorem dX3_isIn_0 : decode cX3_isIn 0 = .ok (.iload_n 0, 1) := by decide +kernel
theorem dX3_isIn_1 : decode cX3_isIn 1 = .ok (.iload_n 1, 1) := by decide +kernel
theorem dX3_isIn_2 : decode cX3_isIn 2 = .ok (.if_icmp .lt 12, 3) := by decide +kernel
theorem dX3_isIn_5 : decode cX3_isIn 5 = .ok (.iload_n 0, 1) := by decide +kernel
theorem dX3_isIn_6 : decode cX3_isIn 6 = .ok (.iload_n 2, 1) := by decide +kernel
theorem dX3_isIn_7 : decode cX3_isIn 7 = .ok (.if_icmp .gt 7, 3) := by decide +kernel
theorem dX3_isIn_10 : decode cX3_isIn 10 = .ok (.iconst 1, 1) := by decide +kernel
theorem dX3_isIn_11 : decode cX3_isIn 11 = .ok (.goto 4, 3) := by decide +kernel
theorem dX3_isIn_14 : decode cX3_isIn 14 = .ok (.iconst 0, 1) := by decide +kernel
theorem dX3_isIn_15 : decode cX3_isIn 15 = .ok (.ireturn, 1) := by decide +kernel
set_option maxRecDepth 20000 in
theorem ggX3_isDay_X3_isIn : GoodIn wsX3_isDay wsX3_isIn := goodIn_r _ [4] (by decide +kernel) (by decide +kernel)
set_option maxRecDepth 20000 in
theorem gX3_isDay_X3_isIn : GoodIn wsX3_isDay (va_wsS RX3 49 yX3_isIn wsX3_isIn) := goodIn_app (goodIn_of _ (by decide +kernel)) ggX3_isDay_X3_isIn
theorem dX3_isDay_0 : decode cX3_isDay 0 = .ok (.iload_n 0, 1) := by decide +kernel
theorem dX3_isDay_1 : decode cX3_isDay 1 = .ok (.iconst 0, 1) := by decide +kernel
theorem dX3_isDay_2 : decode cX3_isDay 2 = .ok (.bipush 39, 2) := by decide +kernel
theorem dX3_isDay_4 : decode cX3_isDay 4 = .ok (.invokestatic 49, 3) := by decide +kernel
theorem dX3_isDay_7 : decode cX3_isDay 7 = .ok (.ireturn, 1) := by decide +kernel
theorem dX3_commonDivisor_0 : decode cX3_commonDivisor 0 = .ok (.lload_n 0, 1) := by decide +kernel
theorem dX3_commonDivisor_1 : decode cX3_commonDivisor 1 = .ok (.lstore 4, 2) := by decide +kernel
theorem dX3_commonDivisor_3 : decode cX3_commonDivisor 3 = .ok (.lload_n 2, 1) := by decide +kernel
theorem dX3_commonDivisor_4 : decode cX3_commonDivisor 4 = .ok (.lstore 6, 2) := by decide +kernel
theorem dX3_commonDivisor_6 : decode cX3_commonDivisor 6 = .ok (.iconst 0, 1) := by decide +kernel
theorem dX3_commonDivisor_7 : decode cX3_commonDivisor 7 = .ok (.istore 8, 2) := by decide +kernel
theorem dX3_commonDivisor_9 : decode cX3_commonDivisor 9 = .ok (.iload 8, 2) := by decide +kernel
theorem dX3_commonDivisor_11 : decode cX3_commonDivisor 11 = .ok (.sipush 200, 3) := by decide +kernel
theorem dX3_commonDivisor_14 : decode cX3_commonDivisor 14 = .ok (.if_icmp .ge 31, 3) := by decide +kernel
theorem dX3_commonDivisor_17 : decode cX3_commonDivisor 17 = .ok (.lload 6, 2) := by decide +kernel
theorem dX3_commonDivisor_19 : decode cX3_commonDivisor 19 = .ok (.lconst 0, 1) := by decide +kernel
theorem dX3_commonDivisor_20 : decode cX3_commonDivisor 20 = .ok (.lcmp, 1) := by decide +kernel
theorem dX3_commonDivisor_21 : decode cX3_commonDivisor 21 = .ok (.ifCond .eq 24, 3) := by decide +kernel
theorem dX3_commonDivisor_24 : decode cX3_commonDivisor 24 = .ok (.lload 4, 2) := by decide +kernel
theorem dX3_commonDivisor_26 : decode cX3_commonDivisor 26 = .ok (.lload 6, 2) := by decide +kernel
theorem dX3_commonDivisor_28 : decode cX3_commonDivisor 28 = .ok (.lrem, 1) := by decide +kernel
theorem dX3_commonDivisor_29 : decode cX3_commonDivisor 29 = .ok (.lstore 9, 2) := by decide +kernel
theorem dX3_commonDivisor_31 : decode cX3_commonDivisor 31 = .ok (.lload 6, 2) := by decide +kernel
theorem dX3_commonDivisor_33 : decode cX3_commonDivisor 33 = .ok (.lstore 4, 2) := by decide +kernel
theorem dX3_commonDivisor_35 : decode cX3_commonDivisor 35 = .ok (.lload 9, 2) := by decide +kernel
theorem dX3_commonDivisor_37 : decode cX3_commonDivisor 37 = .ok (.lstore 6, 2) := by decide +kernel
theorem dX3_commonDivisor_39 : decode cX3_commonDivisor 39 = .ok (.iinc 8 1, 3) := by decide +kernel
theorem dX3_commonDivisor_42 : decode cX3_commonDivisor 42 = .ok (.goto (-33), 3) := by decide +kernel
theorem dX3_commonDivisor_45 : decode cX3_commonDivisor 45 = .ok (.lload 4, 2) := by decide +kernel
theorem dX3_commonDivisor_47 : decode cX3_commonDivisor 47 = .ok (.lreturn, 1) := by decide +kernel
end
section
theorem dX4_init_0 : decode cX4_init 0 = .ok (.aload_n 0, 1) := by decide +kernel
theorem dX4_init_1 : decode cX4_init 1 = .ok (.invokespecial 3, 3) := by decide +kernel
theorem dX4_init_4 : decode cX4_init 4 = .ok (.aload_n 0, 1) := by decide +kernel
theorem dX4_init_5 : decode cX4_init 5 = .ok (.bipush 100, 2) := by decide +kernel
theorem dX4_init_7 : decode cX4_init 7 = .ok (.putfield 9, 3) := by decide +kernel
theorem dX4_init_10 : decode cX4_init 10 = .ok (.aload_n 0, 1) := by decide +kernel
theorem dX4_init_11 : decode cX4_init 11 = .ok (.sipush 500, 3) := by decide +kernel
theorem dX4_init_14 : decode cX4_init 14 = .ok (.putfield 15, 3) := by decide +kernel
theorem dX4_init_17 : decode cX4_init 17 = .ok (.aload_n 0, 1) := by decide +kernel
theorem dX4_init_18 : decode cX4_init 18 = .ok (.sipush 300, 3) := by decide +kernel
theorem dX4_init_21 : decode cX4_init 21 = .ok (.putfield 18, 3) := by decide +kernel
theorem dX4_init_24 : decode cX4_init 24 = .ok (.aload_n 0, 1) := by decide +kernel
theorem dX4_init_25 : decode cX4_init 25 = .ok (.bipush 10, 2) := by decide +kernel
theorem dX4_init_27 : decode cX4_init 27 = .ok (.newarray .int, 2) := by decide +kernel
theorem dX4_init_29 : decode cX4_init 29 = .ok (.putfield 21, 3) := by decide +kernel
theorem dX4_init_32 : decode cX4_init 32 = .ok (.aload_n 0, 1) := by decide +kernel
theorem dX4_init_33 : decode cX4_init 33 = .ok (.bipush 10, 2) := by decide +kernel
theorem dX4_init_35 : decode cX4_init 35 = .ok (.newarray .int, 2) := by decide +kernel
theorem dX4_init_37 : decode cX4_init 37 = .ok (.putfield 25, 3) := by decide +kernel
theorem dX4_init_40 : decode cX4_init 40 = .ok (.aload_n 0, 1) := by decide +kernel
theorem dX4_init_41 : decode cX4_init 41 = .ok (.bipush 10, 2) := by decide +kernel
theorem dX4_init_43 : decode cX4_init 43 = .ok (.newarray .int, 2) := by decide +kernel
theorem dX4_init_45 : decode cX4_init 45 = .ok (.putfield 28, 3) := by decide +kernel
theorem dX4_init_48 : decode cX4_init 48 = .ok (.aload_n 0, 1) := by decide +kernel
theorem dX4_init_49 : decode cX4_init 49 = .ok (.bipush 10, 2) := by decide +kernel
theorem dX4_init_51 : decode cX4_init 51 = .ok (.newarray .int, 2) := by decide +kernel
theorem dX4_init_53 : decode cX4_init 53 = .ok (.putfield 31, 3) := by decide +kernel
theorem dX4_init_56 : decode cX4_init 56 = .ok (.aload_n 0, 1) := by decide +kernel
theorem dX4_init_57 : decode cX4_init 57 = .ok (.bipush 10, 2) := by decide +kernel
theorem dX4_init_59 : decode cX4_init 59 = .ok (.newarray .int, 2) := by decide +kernel
theorem dX4_init_61 : decode cX4_init 61 = .ok (.putfield 34, 3) := by decide +kernel
theorem dX4_init_64 : decode cX4_init 64 = .ok (.aload_n 0, 1) := by decide +kernel
theorem dX4_init_65 : decode cX4_init 65 = .ok (.bipush 10, 2) := by decide +kernel
theorem dX4_init_67 : decode cX4_init 67 = .ok (.newarray .int, 2) := by decide +kernel
theorem dX4_init_69 : decode cX4_init 69 = .ok (.putfield 37, 3) := by decide +kernel
theorem dX4_init_72 : decode cX4_init 72 = .ok (.aload_n 0, 1) := by decide +kernel
theorem dX4_init_73 : decode cX4_init 73 = .ok (.bipush 100, 2) := by decide +kernel
theorem dX4_init_75 : decode cX4_init 75 = .ok (.newarray .int, 2) := by decide +kernel
theorem dX4_init_77 : decode cX4_init 77 = .ok (.putfield 40, 3) := by decide +kernel
theorem dX4_init_80 : decode cX4_init 80 = .ok (.aload_n 0, 1) := by decide +kernel
theorem dX4_init_81 : decode cX4_init 81 = .ok (.bipush 10, 2) := by decide +kernel
theorem dX4_init_83 : decode cX4_init 83 = .ok (.newarray .int, 2) := by decide +kernel
theorem dX4_init_85 : decode cX4_init 85 = .ok (.putfield 43, 3) := by decide +kernel
theorem dX4_init_88 : decode cX4_init 88 = .ok (.aload_n 0, 1) := by decide +kernel
theorem dX4_init_89 : decode cX4_init 89 = .ok (.bipush 10, 2) := by decide +kernel
theorem dX4_init_91 : decode cX4_init 91 = .ok (.newarray .int, 2) := by decide +kernel
theorem dX4_init_93 : decode cX4_init 93 = .ok (.putfield 46, 3) := by decide +kernel
theorem dX4_init_96 : decode cX4_init 96 = .ok (.aload_n 0, 1) := by decide +kernel
theorem dX4_init_97 : decode cX4_init 97 = .ok (.bipush 10, 2) := by decide +kernel
theorem dX4_init_99 : decode cX4_init 99 = .ok (.newarray .int, 2) := by decide +kernel
theorem dX4_init_101 : decode cX4_init 101 = .ok (.putfield 49, 3) := by decide +kernel
theorem dX4_init_104 : decode cX4_init 104 = .ok (.aload_n 0, 1) := by decide +kernel
theorem dX4_init_105 : decode cX4_init 105 = .ok (.iconst 3, 1) := by decide +kernel
theorem dX4_init_106 : decode cX4_init 106 = .ok (.newarray .int, 2) := by decide +kernel
theorem dX4_init_108 : decode cX4_init 108 = .ok (.putfield 52, 3) := by decide +kernel
theorem dX4_init_111 : decode cX4_init 111 = .ok (.aload_n 0, 1) := by decide +kernel
theorem dX4_init_112 : decode cX4_init 112 = .ok (.bipush 40, 2) := by decide +kernel
theorem dX4_init_114 : decode cX4_init 114 = .ok (.newarray .int, 2) := by decide +kernel
theorem dX4_init_116 : decode cX4_init 116 = .ok (.putfield 55, 3) := by decide +kernel
theorem dX4_init_119 : decode cX4_init 119 = .ok (.aload_n 0, 1) := by decide +kernel
theorem dX4_init_120 : decode cX4_init 120 = .ok (.bipush 6, 2) := by decide +kernel
theorem dX4_init_122 : decode cX4_init 122 = .ok (.newarray .int, 2) := by decide +kernel
theorem dX4_init_124 : decode cX4_init 124 = .ok (.putfield 58, 3) := by decide +kernel
theorem dX4_init_127 : decode cX4_init 127 = .ok (.aload_n 0, 1) := by decide +kernel
theorem dX4_init_128 : decode cX4_init 128 = .ok (.bipush 6, 2) := by decide +kernel
theorem dX4_init_130 : decode cX4_init 130 = .ok (.newarray .int, 2) := by decide +kernel
theorem dX4_init_132 : decode cX4_init 132 = .ok (.putfield 61, 3) := by decide +kernel
theorem dX4_init_135 : decode cX4_init 135 = .ok (.aload_n 0, 1) := by decide +kernel
theorem dX4_init_136 : decode cX4_init 136 = .ok (.bipush 10, 2) := by decide +kernel
theorem dX4_init_138 : decode cX4_init 138 = .ok (.newarray .int, 2) := by decide +kernel
theorem dX4_init_140 : decode cX4_init 140 = .ok (.putfield 64, 3) := by decide +kernel
theorem dX4_init_143 : decode cX4_init 143 = .ok (.iconst 0, 1) := by decide +kernel
theorem dX4_init_144 : decode cX4_init 144 = .ok (.istore_n 1, 1) := by decide +kernel
theorem dX4_init_145 : decode cX4_init 145 = .ok (.iload_n 1, 1) := by decide +kernel
theorem dX4_init_146 : decode cX4_init 146 = .ok (.bipush 40, 2) := by decide +kernel
theorem dX4_init_148 : decode cX4_init 148 = .ok (.if_icmp .ge 17, 3) := by decide +kernel
theorem dX4_init_151 : decode cX4_init 151 = .ok (.aload_n 0, 1) := by decide +kernel
theorem dX4_init_152 : decode cX4_init 152 = .ok (.getfield 55, 3) := by decide +kernel
theorem dX4_init_155 : decode cX4_init 155 = .ok (.iload_n 1, 1) := by decide +kernel
theorem dX4_init_156 : decode cX4_init 156 = .ok (.bipush 20, 2) := by decide +kernel
theorem dX4_init_158 : decode cX4_init 158 = .ok (.iastore, 1) := by decide +kernel
theorem dX4_init_159 : decode cX4_init 159 = .ok (.iinc 1 1, 3) := by decide +kernel
theorem dX4_init_162 : decode cX4_init 162 = .ok (.goto (-17), 3) := by decide +kernel
theorem dX4_init_165 : decode cX4_init 165 = .ok (.iconst 0, 1) := by decide +kernel
theorem dX4_init_166 : decode cX4_init 166 = .ok (.istore_n 1, 1) := by decide +kernel
theorem dX4_init_167 : decode cX4_init 167 = .ok (.iload_n 1, 1) := by decide +kernel
theorem dX4_init_168 : decode cX4_init 168 = .ok (.iconst 3, 1) := by decide +kernel
theorem dX4_init_169 : decode cX4_init 169 = .ok (.if_icmp .ge 17, 3) := by decide +kernel
theorem dX4_init_172 : decode cX4_init 172 = .ok (.aload_n 0, 1) := by decide +kernel
theorem dX4_init_173 : decode cX4_init 173 = .ok (.getfield 52, 3) := by decide +kernel
theorem dX4_init_176 : decode cX4_init 176 = .ok (.iload_n 1, 1) := by decide +kernel
theorem dX4_init_177 : decode cX4_init 177 = .ok (.bipush 10, 2) := by decide +kernel
theorem dX4_init_179 : decode cX4_init 179 = .ok (.iastore, 1) := by decide +kernel
theorem dX4_init_180 : decode cX4_init 180 = .ok (.iinc 1 1, 3) := by decide +kernel
theorem dX4_init_183 : decode cX4_init 183 = .ok (.goto (-16), 3) := by decide +kernel
theorem dX4_init_186 : decode cX4_init 186 = .ok (.iconst 0, 1) := by decide +kernel
theorem dX4_init_187 : decode cX4_init 187 = .ok (.istore_n 1, 1) := by decide +kernel
theorem dX4_init_188 : decode cX4_init 188 = .ok (.iload_n 1, 1) := by decide +kernel
theorem dX4_init_189 : decode cX4_init 189 = .ok (.bipush 100, 2) := by decide +kernel
theorem dX4_init_191 : decode cX4_init 191 = .ok (.if_icmp .ge 16, 3) := by decide +kernel
theorem dX4_init_194 : decode cX4_init 194 = .ok (.aload_n 0, 1) := by decide +kernel
theorem dX4_init_195 : decode cX4_init 195 = .ok (.getfield 40, 3) := by decide +kernel
theorem dX4_init_198 : decode cX4_init 198 = .ok (.iload_n 1, 1) := by decide +kernel
theorem dX4_init_199 : decode cX4_init 199 = .ok (.iconst (-1), 1) := by decide +kernel
theorem dX4_init_200 : decode cX4_init 200 = .ok (.iastore, 1) := by decide +kernel
theorem dX4_init_201 : decode cX4_init 201 = .ok (.iinc 1 1, 3) := by decide +kernel
theorem dX4_init_204 : decode cX4_init 204 = .ok (.goto (-16), 3) := by decide +kernel
theorem dX4_init_207 : decode cX4_init 207 = .ok (.return_, 1) := by decide +kernel
theorem dX4_isPiece_0 : decode cX4_isPiece 0 = .ok (.iload_n 1, 1) := by decide +kernel
theorem dX4_isPiece_1 : decode cX4_isPiece 1 = .ok (.ifCond .lt 15, 3) := by decide +kernel
theorem dX4_isPiece_4 : decode cX4_isPiece 4 = .ok (.iload_n 1, 1) := by decide +kernel
theorem dX4_isPiece_5 : decode cX4_isPiece 5 = .ok (.aload_n 0, 1) := by decide +kernel
theorem dX4_isPiece_6 : decode cX4_isPiece 6 = .ok (.getfield 67, 3) := by decide +kernel
theorem dX4_isPiece_9 : decode cX4_isPiece 9 = .ok (.if_icmp .ge 7, 3) := by decide +kernel
theorem dX4_isPiece_12 : decode cX4_isPiece 12 = .ok (.iconst 1, 1) := by decide +kernel
theorem dX4_isPiece_13 : decode cX4_isPiece 13 = .ok (.goto 4, 3) := by decide +kernel
theorem dX4_isPiece_16 : decode cX4_isPiece 16 = .ok (.iconst 0, 1) := by decide +kernel
theorem dX4_isPiece_17 : decode cX4_isPiece 17 = .ok (.ireturn, 1) := by decide +kernel
theorem dX4_isDay_0 : decode cX4_isDay 0 = .ok (.iload_n 0, 1) := by decide +kernel
theorem dX4_isDay_1 : decode cX4_isDay 1 = .ok (.ifCond .lt 13, 3) := by decide +kernel
theorem dX4_isDay_4 : decode cX4_isDay 4 = .ok (.iload_n 0, 1) := by decide +kernel
theorem dX4_isDay_5 : decode cX4_isDay 5 = .ok (.bipush 40, 2) := by decide +kernel
theorem dX4_isDay_7 : decode cX4_isDay 7 = .ok (.if_icmp .ge 7, 3) := by decide +kernel
theorem dX4_isDay_10 : decode cX4_isDay 10 = .ok (.iconst 1, 1) := by decide +kernel
theorem dX4_isDay_11 : decode cX4_isDay 11 = .ok (.goto 4, 3) := by decide +kernel
theorem dX4_isDay_14 : decode cX4_isDay 14 = .ok (.iconst 0, 1) := by decide +kernel
theorem dX4_isDay_15 : decode cX4_isDay 15 = .ok (.ireturn, 1) := by decide +kernel
theorem dX4_piece_0 : decode cX4_piece 0 = .ok (.iload_n 1, 1) := by decide +kernel
theorem dX4_piece_1 : decode cX4_piece 1 = .ok (.ifCond .lt 28, 3) := by decide +kernel
theorem dX4_piece_4 : decode cX4_piece 4 = .ok (.iload_n 1, 1) := by decide +kernel
theorem dX4_piece_5 : decode cX4_piece 5 = .ok (.iconst 3, 1) := by decide +kernel
theorem dX4_piece_6 : decode cX4_piece 6 = .ok (.if_icmp .gt 23, 3) := by decide +kernel
theorem dX4_piece_9 : decode cX4_piece 9 = .ok (.iload_n 2, 1) := by decide +kernel
theorem dX4_piece_10 : decode cX4_piece 10 = .ok (.ifCond .lt 19, 3) := by decide +kernel
theorem dX4_piece_13 : decode cX4_piece 13 = .ok (.iload_n 2, 1) := by decide +kernel
theorem dX4_piece_14 : decode cX4_piece 14 = .ok (.iconst 5, 1) := by decide +kernel
theorem dX4_piece_15 : decode cX4_piece 15 = .ok (.if_icmp .gt 14, 3) := by decide +kernel
theorem dX4_piece_18 : decode cX4_piece 18 = .ok (.iload 4, 2) := by decide +kernel
theorem dX4_piece_20 : decode cX4_piece 20 = .ok (.ifCond .lt 9, 3) := by decide +kernel
theorem dX4_piece_23 : decode cX4_piece 23 = .ok (.iload 4, 2) := by decide +kernel
theorem dX4_piece_25 : decode cX4_piece 25 = .ok (.iconst 2, 1) := by decide +kernel
theorem dX4_piece_26 : decode cX4_piece 26 = .ok (.if_icmp .le 5, 3) := by decide +kernel
theorem dX4_piece_29 : decode cX4_piece 29 = .ok (.iconst (-1), 1) := by decide +kernel
theorem dX4_piece_30 : decode cX4_piece 30 = .ok (.ireturn, 1) := by decide +kernel
theorem dX4_piece_31 : decode cX4_piece 31 = .ok (.iload_n 3, 1) := by decide +kernel
theorem dX4_piece_32 : decode cX4_piece 32 = .ok (.iconst 1, 1) := by decide +kernel
theorem dX4_piece_33 : decode cX4_piece 33 = .ok (.if_icmp .lt 23, 3) := by decide +kernel
theorem dX4_piece_36 : decode cX4_piece 36 = .ok (.iload_n 3, 1) := by decide +kernel
theorem dX4_piece_37 : decode cX4_piece 37 = .ok (.sipush 200, 3) := by decide +kernel
theorem dX4_piece_40 : decode cX4_piece 40 = .ok (.if_icmp .gt 16, 3) := by decide +kernel
theorem dX4_piece_43 : decode cX4_piece 43 = .ok (.iload 5, 2) := by decide +kernel
theorem dX4_piece_45 : decode cX4_piece 45 = .ok (.iconst 1, 1) := by decide +kernel
theorem dX4_piece_46 : decode cX4_piece 46 = .ok (.if_icmp .lt 10, 3) := by decide +kernel
theorem dX4_piece_49 : decode cX4_piece 49 = .ok (.iload 5, 2) := by decide +kernel
theorem dX4_piece_51 : decode cX4_piece 51 = .ok (.bipush 9, 2) := by decide +kernel
theorem dX4_piece_53 : decode cX4_piece 53 = .ok (.if_icmp .le 6, 3) := by decide +kernel
theorem dX4_piece_56 : decode cX4_piece 56 = .ok (.bipush (-2), 2) := by decide +kernel
theorem dX4_piece_58 : decode cX4_piece 58 = .ok (.ireturn, 1) := by decide +kernel
theorem dX4_piece_59 : decode cX4_piece 59 = .ok (.aload_n 0, 1) := by decide +kernel
theorem dX4_piece_60 : decode cX4_piece 60 = .ok (.getfield 67, 3) := by decide +kernel
theorem dX4_piece_63 : decode cX4_piece 63 = .ok (.bipush 10, 2) := by decide +kernel
theorem dX4_piece_65 : decode cX4_piece 65 = .ok (.if_icmp .ne 6, 3) := by decide +kernel
theorem dX4_piece_68 : decode cX4_piece 68 = .ok (.bipush (-4), 2) := by decide +kernel
theorem dX4_piece_70 : decode cX4_piece 70 = .ok (.ireturn, 1) := by decide +kernel
theorem dX4_piece_71 : decode cX4_piece 71 = .ok (.aload_n 0, 1) := by decide +kernel
theorem dX4_piece_72 : decode cX4_piece 72 = .ok (.getfield 21, 3) := by decide +kernel
theorem dX4_piece_75 : decode cX4_piece 75 = .ok (.aload_n 0, 1) := by decide +kernel
theorem dX4_piece_76 : decode cX4_piece 76 = .ok (.getfield 67, 3) := by decide +kernel
theorem dX4_piece_79 : decode cX4_piece 79 = .ok (.iload_n 1, 1) := by decide +kernel
theorem dX4_piece_80 : decode cX4_piece 80 = .ok (.iastore, 1) := by decide +kernel
theorem dX4_piece_81 : decode cX4_piece 81 = .ok (.aload_n 0, 1) := by decide +kernel
theorem dX4_piece_82 : decode cX4_piece 82 = .ok (.getfield 25, 3) := by decide +kernel
theorem dX4_piece_85 : decode cX4_piece 85 = .ok (.aload_n 0, 1) := by decide +kernel
theorem dX4_piece_86 : decode cX4_piece 86 = .ok (.getfield 67, 3) := by decide +kernel
theorem dX4_piece_89 : decode cX4_piece 89 = .ok (.iload_n 2, 1) := by decide +kernel
theorem dX4_piece_90 : decode cX4_piece 90 = .ok (.iastore, 1) := by decide +kernel
theorem dX4_piece_91 : decode cX4_piece 91 = .ok (.aload_n 0, 1) := by decide +kernel
theorem dX4_piece_92 : decode cX4_piece 92 = .ok (.getfield 28, 3) := by decide +kernel
theorem dX4_piece_95 : decode cX4_piece 95 = .ok (.aload_n 0, 1) := by decide +kernel
theorem dX4_piece_96 : decode cX4_piece 96 = .ok (.getfield 67, 3) := by decide +kernel
theorem dX4_piece_99 : decode cX4_piece 99 = .ok (.iload_n 3, 1) := by decide +kernel
theorem dX4_piece_100 : decode cX4_piece 100 = .ok (.iastore, 1) := by decide +kernel
theorem dX4_piece_101 : decode cX4_piece 101 = .ok (.aload_n 0, 1) := by decide +kernel
theorem dX4_piece_102 : decode cX4_piece 102 = .ok (.getfield 31, 3) := by decide +kernel
theorem dX4_piece_105 : decode cX4_piece 105 = .ok (.aload_n 0, 1) := by decide +kernel
theorem dX4_piece_106 : decode cX4_piece 106 = .ok (.getfield 67, 3) := by decide +kernel
theorem dX4_piece_109 : decode cX4_piece 109 = .ok (.iload 4, 2) := by decide +kernel
theorem dX4_piece_111 : decode cX4_piece 111 = .ok (.iastore, 1) := by decide +kernel
theorem dX4_piece_112 : decode cX4_piece 112 = .ok (.aload_n 0, 1) := by decide +kernel
theorem dX4_piece_113 : decode cX4_piece 113 = .ok (.getfield 34, 3) := by decide +kernel
theorem dX4_piece_116 : decode cX4_piece 116 = .ok (.aload_n 0, 1) := by decide +kernel
theorem dX4_piece_117 : decode cX4_piece 117 = .ok (.getfield 67, 3) := by decide +kernel
theorem dX4_piece_120 : decode cX4_piece 120 = .ok (.iload 5, 2) := by decide +kernel
theorem dX4_piece_122 : decode cX4_piece 122 = .ok (.iastore, 1) := by decide +kernel
theorem dX4_piece_123 : decode cX4_piece 123 = .ok (.aload_n 0, 1) := by decide +kernel
theorem dX4_piece_124 : decode cX4_piece 124 = .ok (.getfield 37, 3) := by decide +kernel
theorem dX4_piece_127 : decode cX4_piece 127 = .ok (.aload_n 0, 1) := by decide +kernel
theorem dX4_piece_128 : decode cX4_piece 128 = .ok (.getfield 67, 3) := by decide +kernel
theorem dX4_piece_131 : decode cX4_piece 131 = .ok (.iconst (-1), 1) := by decide +kernel
theorem dX4_piece_132 : decode cX4_piece 132 = .ok (.iastore, 1) := by decide +kernel
theorem dX4_piece_133 : decode cX4_piece 133 = .ok (.aload_n 0, 1) := by decide +kernel
theorem dX4_piece_134 : decode cX4_piece 134 = .ok (.getfield 43, 3) := by decide +kernel
theorem dX4_piece_137 : decode cX4_piece 137 = .ok (.aload_n 0, 1) := by decide +kernel
theorem dX4_piece_138 : decode cX4_piece 138 = .ok (.getfield 67, 3) := by decide +kernel
theorem dX4_piece_141 : decode cX4_piece 141 = .ok (.aload_n 0, 1) := by decide +kernel
theorem dX4_piece_142 : decode cX4_piece 142 = .ok (.getfield 67, 3) := by decide +kernel
theorem dX4_piece_145 : decode cX4_piece 145 = .ok (.iastore, 1) := by decide +kernel
theorem dX4_piece_146 : decode cX4_piece 146 = .ok (.aload_n 0, 1) := by decide +kernel
theorem dX4_piece_147 : decode cX4_piece 147 = .ok (.dup, 1) := by decide +kernel
theorem dX4_piece_148 : decode cX4_piece 148 = .ok (.getfield 67, 3) := by decide +kernel
theorem dX4_piece_151 : decode cX4_piece 151 = .ok (.dup_x1, 1) := by decide +kernel
theorem dX4_piece_152 : decode cX4_piece 152 = .ok (.iconst 1, 1) := by decide +kernel
theorem dX4_piece_153 : decode cX4_piece 153 = .ok (.iadd, 1) := by decide +kernel
theorem dX4_piece_154 : decode cX4_piece 154 = .ok (.putfield 67, 3) := by decide +kernel
theorem dX4_piece_157 : decode cX4_piece 157 = .ok (.ireturn, 1) := by decide +kernel
theorem dX4_leads_0 : decode cX4_leads 0 = .ok (.iconst 1, 1) := by decide +kernel
theorem dX4_leads_1 : decode cX4_leads 1 = .ok (.iload_n 1, 1) := by decide +kernel
theorem dX4_leads_2 : decode cX4_leads 2 = .ok (.ishl, 1) := by decide +kernel
theorem dX4_leads_3 : decode cX4_leads 3 = .ok (.istore_n 3, 1) := by decide +kernel
theorem dX4_leads_4 : decode cX4_leads 4 = .ok (.iconst 0, 1) := by decide +kernel
theorem dX4_leads_5 : decode cX4_leads 5 = .ok (.istore 4, 2) := by decide +kernel
theorem dX4_leads_7 : decode cX4_leads 7 = .ok (.iload_n 3, 1) := by decide +kernel
theorem dX4_leads_8 : decode cX4_leads 8 = .ok (.iload 4, 2) := by decide +kernel
theorem dX4_leads_10 : decode cX4_leads 10 = .ok (.if_icmp .eq 80, 3) := by decide +kernel
theorem dX4_leads_13 : decode cX4_leads 13 = .ok (.iload_n 3, 1) := by decide +kernel
theorem dX4_leads_14 : decode cX4_leads 14 = .ok (.istore 4, 2) := by decide +kernel
theorem dX4_leads_16 : decode cX4_leads 16 = .ok (.iconst 0, 1) := by decide +kernel
theorem dX4_leads_17 : decode cX4_leads 17 = .ok (.istore 5, 2) := by decide +kernel
theorem dX4_leads_19 : decode cX4_leads 19 = .ok (.iload 5, 2) := by decide +kernel
theorem dX4_leads_21 : decode cX4_leads 21 = .ok (.aload_n 0, 1) := by decide +kernel
theorem dX4_leads_22 : decode cX4_leads 22 = .ok (.getfield 67, 3) := by decide +kernel
theorem dX4_leads_25 : decode cX4_leads 25 = .ok (.if_icmp .ge 62, 3) := by decide +kernel
theorem dX4_leads_28 : decode cX4_leads 28 = .ok (.iconst 0, 1) := by decide +kernel
theorem dX4_leads_29 : decode cX4_leads 29 = .ok (.istore 6, 2) := by decide +kernel
theorem dX4_leads_31 : decode cX4_leads 31 = .ok (.iload 6, 2) := by decide +kernel
theorem dX4_leads_33 : decode cX4_leads 33 = .ok (.aload_n 0, 1) := by decide +kernel
theorem dX4_leads_34 : decode cX4_leads 34 = .ok (.getfield 67, 3) := by decide +kernel
theorem dX4_leads_37 : decode cX4_leads 37 = .ok (.if_icmp .ge 44, 3) := by decide +kernel
theorem dX4_leads_40 : decode cX4_leads 40 = .ok (.iload 4, 2) := by decide +kernel
theorem dX4_leads_42 : decode cX4_leads 42 = .ok (.iload 5, 2) := by decide +kernel
theorem dX4_leads_44 : decode cX4_leads 44 = .ok (.ishr, 1) := by decide +kernel
theorem dX4_leads_45 : decode cX4_leads 45 = .ok (.iconst 1, 1) := by decide +kernel
theorem dX4_leads_46 : decode cX4_leads 46 = .ok (.iand, 1) := by decide +kernel
theorem dX4_leads_47 : decode cX4_leads 47 = .ok (.iconst 1, 1) := by decide +kernel
theorem dX4_leads_48 : decode cX4_leads 48 = .ok (.if_icmp .ne 27, 3) := by decide +kernel
theorem dX4_leads_51 : decode cX4_leads 51 = .ok (.aload_n 0, 1) := by decide +kernel
theorem dX4_leads_52 : decode cX4_leads 52 = .ok (.getfield 40, 3) := by decide +kernel
theorem dX4_leads_55 : decode cX4_leads 55 = .ok (.bipush 10, 2) := by decide +kernel
theorem dX4_leads_57 : decode cX4_leads 57 = .ok (.iload 5, 2) := by decide +kernel
theorem dX4_leads_59 : decode cX4_leads 59 = .ok (.imul, 1) := by decide +kernel
theorem dX4_leads_60 : decode cX4_leads 60 = .ok (.iload 6, 2) := by decide +kernel
theorem dX4_leads_62 : decode cX4_leads 62 = .ok (.iadd, 1) := by decide +kernel
theorem dX4_leads_63 : decode cX4_leads 63 = .ok (.iaload, 1) := by decide +kernel
theorem dX4_leads_64 : decode cX4_leads 64 = .ok (.iconst (-1), 1) := by decide +kernel
theorem dX4_leads_65 : decode cX4_leads 65 = .ok (.if_icmp .eq 10, 3) := by decide +kernel
theorem dX4_leads_68 : decode cX4_leads 68 = .ok (.iload_n 3, 1) := by decide +kernel
theorem dX4_leads_69 : decode cX4_leads 69 = .ok (.iconst 1, 1) := by decide +kernel
theorem dX4_leads_70 : decode cX4_leads 70 = .ok (.iload 6, 2) := by decide +kernel
theorem dX4_leads_72 : decode cX4_leads 72 = .ok (.ishl, 1) := by decide +kernel
theorem dX4_leads_73 : decode cX4_leads 73 = .ok (.ior, 1) := by decide +kernel
theorem dX4_leads_74 : decode cX4_leads 74 = .ok (.istore_n 3, 1) := by decide +kernel
theorem dX4_leads_75 : decode cX4_leads 75 = .ok (.iinc 6 1, 3) := by decide +kernel
theorem dX4_leads_78 : decode cX4_leads 78 = .ok (.goto (-47), 3) := by decide +kernel
theorem dX4_leads_81 : decode cX4_leads 81 = .ok (.iinc 5 1, 3) := by decide +kernel
theorem dX4_leads_84 : decode cX4_leads 84 = .ok (.goto (-65), 3) := by decide +kernel
theorem dX4_leads_87 : decode cX4_leads 87 = .ok (.goto (-80), 3) := by decide +kernel
theorem dX4_leads_90 : decode cX4_leads 90 = .ok (.iload_n 3, 1) := by decide +kernel
theorem dX4_leads_91 : decode cX4_leads 91 = .ok (.iload_n 2, 1) := by decide +kernel
theorem dX4_leads_92 : decode cX4_leads 92 = .ok (.ishr, 1) := by decide +kernel
theorem dX4_leads_93 : decode cX4_leads 93 = .ok (.iconst 1, 1) := by decide +kernel
theorem dX4_leads_94 : decode cX4_leads 94 = .ok (.iand, 1) := by decide +kernel
theorem dX4_leads_95 : decode cX4_leads 95 = .ok (.iconst 1, 1) := by decide +kernel
theorem dX4_leads_96 : decode cX4_leads 96 = .ok (.if_icmp .ne 7, 3) := by decide +kernel
theorem dX4_leads_99 : decode cX4_leads 99 = .ok (.iconst 1, 1) := by decide +kernel
theorem dX4_leads_100 : decode cX4_leads 100 = .ok (.goto 4, 3) := by decide +kernel
theorem dX4_leads_103 : decode cX4_leads 103 = .ok (.iconst 0, 1) := by decide +kernel
theorem dX4_leads_104 : decode cX4_leads 104 = .ok (.ireturn, 1) := by decide +kernel
set_option maxRecDepth 20000 in
theorem ggX4_ahead_X4_isPiece : GoodIn wsX4_ahead wsX4_isPiece := goodIn_r _ [6, 7, 12, 13, 14, 15, 16, 17, 18, 19, 20, 21, 22, 23, 24, 25, 26, 27, 28, 29, 30, 31, 32, 33, 34, 35, 36] (by decide +kernel) (by decide +kernel)
set_option maxRecDepth 20000 in
theorem gX4_ahead_X4_isPiece : GoodIn wsX4_ahead (wsV RX4 70 RX4 yX4_isPiece wsX4_isPiece) := goodIn_app (goodIn_of _ (by decide +kernel)) ggX4_ahead_X4_isPiece
set_option maxRecDepth 20000 in
theorem ggX4_ahead_X4_leads : GoodIn wsX4_ahead wsX4_leads := goodIn_r _ [11, 7, 1, 12, 13, 14, 15, 16, 17, 18, 19, 20, 21, 22, 23, 24, 25, 26, 27, 28, 29, 30, 31, 32, 33, 34, 35, 36] (by decide +kernel) (by decide +kernel)
set_option maxRecDepth 20000 in
theorem gX4_ahead_X4_leads : GoodIn wsX4_ahead (wsV RX4 74 RX4 yX4_leads wsX4_leads) := goodIn_app (goodIn_of _ (by decide +kernel)) ggX4_ahead_X4_leads
theorem dX4_ahead_0 : decode cX4_ahead 0 = .ok (.aload_n 0, 1) := by decide +kernel
theorem dX4_ahead_1 : decode cX4_ahead 1 = .ok (.iload_n 1, 1) := by decide +kernel
theorem dX4_ahead_2 : decode cX4_ahead 2 = .ok (.invokevirtual 70, 3) := by decide +kernel
theorem dX4_ahead_5 : decode cX4_ahead 5 = .ok (.ifCond .eq 11, 3) := by decide +kernel
theorem dX4_ahead_8 : decode cX4_ahead 8 = .ok (.aload_n 0, 1) := by decide +kernel
theorem dX4_ahead_9 : decode cX4_ahead 9 = .ok (.iload_n 2, 1) := by decide +kernel
theorem dX4_ahead_10 : decode cX4_ahead 10 = .ok (.invokevirtual 70, 3) := by decide +kernel
theorem dX4_ahead_13 : decode cX4_ahead 13 = .ok (.ifCond .ne 5, 3) := by decide +kernel
theorem dX4_ahead_16 : decode cX4_ahead 16 = .ok (.iconst (-1), 1) := by decide +kernel
theorem dX4_ahead_17 : decode cX4_ahead 17 = .ok (.ireturn, 1) := by decide +kernel
theorem dX4_ahead_18 : decode cX4_ahead 18 = .ok (.iload_n 3, 1) := by decide +kernel
theorem dX4_ahead_19 : decode cX4_ahead 19 = .ok (.ifCond .lt 23, 3) := by decide +kernel
theorem dX4_ahead_22 : decode cX4_ahead 22 = .ok (.iload_n 3, 1) := by decide +kernel
theorem dX4_ahead_23 : decode cX4_ahead 23 = .ok (.bipush 9, 2) := by decide +kernel
theorem dX4_ahead_25 : decode cX4_ahead 25 = .ok (.if_icmp .gt 17, 3) := by decide +kernel
theorem dX4_ahead_28 : decode cX4_ahead 28 = .ok (.iload_n 1, 1) := by decide +kernel
theorem dX4_ahead_29 : decode cX4_ahead 29 = .ok (.iload_n 2, 1) := by decide +kernel
theorem dX4_ahead_30 : decode cX4_ahead 30 = .ok (.if_icmp .eq 12, 3) := by decide +kernel
theorem dX4_ahead_33 : decode cX4_ahead 33 = .ok (.aload_n 0, 1) := by decide +kernel
theorem dX4_ahead_34 : decode cX4_ahead 34 = .ok (.iload_n 2, 1) := by decide +kernel
theorem dX4_ahead_35 : decode cX4_ahead 35 = .ok (.iload_n 1, 1) := by decide +kernel
theorem dX4_ahead_36 : decode cX4_ahead 36 = .ok (.invokevirtual 74, 3) := by decide +kernel
theorem dX4_ahead_39 : decode cX4_ahead 39 = .ok (.ifCond .eq 6, 3) := by decide +kernel
theorem dX4_ahead_42 : decode cX4_ahead 42 = .ok (.bipush (-2), 2) := by decide +kernel
theorem dX4_ahead_44 : decode cX4_ahead 44 = .ok (.ireturn, 1) := by decide +kernel
theorem dX4_ahead_45 : decode cX4_ahead 45 = .ok (.aload_n 0, 1) := by decide +kernel
theorem dX4_ahead_46 : decode cX4_ahead 46 = .ok (.getfield 40, 3) := by decide +kernel
theorem dX4_ahead_49 : decode cX4_ahead 49 = .ok (.bipush 10, 2) := by decide +kernel
theorem dX4_ahead_51 : decode cX4_ahead 51 = .ok (.iload_n 1, 1) := by decide +kernel
theorem dX4_ahead_52 : decode cX4_ahead 52 = .ok (.imul, 1) := by decide +kernel
theorem dX4_ahead_53 : decode cX4_ahead 53 = .ok (.iload_n 2, 1) := by decide +kernel
theorem dX4_ahead_54 : decode cX4_ahead 54 = .ok (.iadd, 1) := by decide +kernel
theorem dX4_ahead_55 : decode cX4_ahead 55 = .ok (.iaload, 1) := by decide +kernel
theorem dX4_ahead_56 : decode cX4_ahead 56 = .ok (.istore 4, 2) := by decide +kernel
theorem dX4_ahead_58 : decode cX4_ahead 58 = .ok (.aload_n 0, 1) := by decide +kernel
theorem dX4_ahead_59 : decode cX4_ahead 59 = .ok (.getfield 40, 3) := by decide +kernel
theorem dX4_ahead_62 : decode cX4_ahead 62 = .ok (.bipush 10, 2) := by decide +kernel
theorem dX4_ahead_64 : decode cX4_ahead 64 = .ok (.iload_n 1, 1) := by decide +kernel
theorem dX4_ahead_65 : decode cX4_ahead 65 = .ok (.imul, 1) := by decide +kernel
theorem dX4_ahead_66 : decode cX4_ahead 66 = .ok (.iload_n 2, 1) := by decide +kernel
theorem dX4_ahead_67 : decode cX4_ahead 67 = .ok (.iadd, 1) := by decide +kernel
theorem dX4_ahead_68 : decode cX4_ahead 68 = .ok (.iload_n 3, 1) := by decide +kernel
theorem dX4_ahead_69 : decode cX4_ahead 69 = .ok (.iastore, 1) := by decide +kernel
theorem dX4_ahead_70 : decode cX4_ahead 70 = .ok (.iload 4, 2) := by decide +kernel
theorem dX4_ahead_72 : decode cX4_ahead 72 = .ok (.ireturn, 1) := by decide +kernel
theorem dX4_form_0 : decode cX4_form 0 = .ok (.iload_n 1, 1) := by decide +kernel
theorem dX4_form_1 : decode cX4_form 1 = .ok (.ifCond .lt 8, 3) := by decide +kernel
theorem dX4_form_4 : decode cX4_form 4 = .ok (.iload_n 1, 1) := by decide +kernel
theorem dX4_form_5 : decode cX4_form 5 = .ok (.iconst 2, 1) := by decide +kernel
theorem dX4_form_6 : decode cX4_form 6 = .ok (.if_icmp .le 5, 3) := by decide +kernel
theorem dX4_form_9 : decode cX4_form 9 = .ok (.iconst (-1), 1) := by decide +kernel
theorem dX4_form_10 : decode cX4_form 10 = .ok (.ireturn, 1) := by decide +kernel
theorem dX4_form_11 : decode cX4_form 11 = .ok (.iload_n 2, 1) := by decide +kernel
theorem dX4_form_12 : decode cX4_form 12 = .ok (.ifCond .lt 9, 3) := by decide +kernel
theorem dX4_form_15 : decode cX4_form 15 = .ok (.iload_n 2, 1) := by decide +kernel
theorem dX4_form_16 : decode cX4_form 16 = .ok (.bipush 50, 2) := by decide +kernel
theorem dX4_form_18 : decode cX4_form 18 = .ok (.if_icmp .le 6, 3) := by decide +kernel
theorem dX4_form_21 : decode cX4_form 21 = .ok (.bipush (-2), 2) := by decide +kernel
theorem dX4_form_23 : decode cX4_form 23 = .ok (.ireturn, 1) := by decide +kernel
theorem dX4_form_24 : decode cX4_form 24 = .ok (.aload_n 0, 1) := by decide +kernel
theorem dX4_form_25 : decode cX4_form 25 = .ok (.getfield 52, 3) := by decide +kernel
theorem dX4_form_28 : decode cX4_form 28 = .ok (.iload_n 1, 1) := by decide +kernel
theorem dX4_form_29 : decode cX4_form 29 = .ok (.iaload, 1) := by decide +kernel
theorem dX4_form_30 : decode cX4_form 30 = .ok (.istore_n 3, 1) := by decide +kernel
theorem dX4_form_31 : decode cX4_form 31 = .ok (.aload_n 0, 1) := by decide +kernel
theorem dX4_form_32 : decode cX4_form 32 = .ok (.getfield 52, 3) := by decide +kernel
theorem dX4_form_35 : decode cX4_form 35 = .ok (.iload_n 1, 1) := by decide +kernel
theorem dX4_form_36 : decode cX4_form 36 = .ok (.iload_n 2, 1) := by decide +kernel
theorem dX4_form_37 : decode cX4_form 37 = .ok (.iastore, 1) := by decide +kernel
theorem dX4_form_38 : decode cX4_form 38 = .ok (.iload_n 3, 1) := by decide +kernel
theorem dX4_form_39 : decode cX4_form 39 = .ok (.ireturn, 1) := by decide +kernel
theorem dX4_gang_0 : decode cX4_gang 0 = .ok (.iload_n 1, 1) := by decide +kernel
theorem dX4_gang_1 : decode cX4_gang 1 = .ok (.iconst 1, 1) := by decide +kernel
theorem dX4_gang_2 : decode cX4_gang 2 = .ok (.if_icmp .lt 10, 3) := by decide +kernel
theorem dX4_gang_5 : decode cX4_gang 5 = .ok (.iload_n 1, 1) := by decide +kernel
theorem dX4_gang_6 : decode cX4_gang 6 = .ok (.sipush 1000, 3) := by decide +kernel
theorem dX4_gang_9 : decode cX4_gang 9 = .ok (.if_icmp .le 6, 3) := by decide +kernel
theorem dX4_gang_12 : decode cX4_gang 12 = .ok (.bipush (-2), 2) := by decide +kernel
theorem dX4_gang_14 : decode cX4_gang 14 = .ok (.ireturn, 1) := by decide +kernel
theorem dX4_gang_15 : decode cX4_gang 15 = .ok (.aload_n 0, 1) := by decide +kernel
theorem dX4_gang_16 : decode cX4_gang 16 = .ok (.getfield 9, 3) := by decide +kernel
theorem dX4_gang_19 : decode cX4_gang 19 = .ok (.istore_n 2, 1) := by decide +kernel
theorem dX4_gang_20 : decode cX4_gang 20 = .ok (.aload_n 0, 1) := by decide +kernel
theorem dX4_gang_21 : decode cX4_gang 21 = .ok (.iload_n 1, 1) := by decide +kernel
theorem dX4_gang_22 : decode cX4_gang 22 = .ok (.putfield 9, 3) := by decide +kernel
theorem dX4_gang_25 : decode cX4_gang 25 = .ok (.iload_n 2, 1) := by decide +kernel
theorem dX4_gang_26 : decode cX4_gang 26 = .ok (.ireturn, 1) := by decide +kernel
theorem dX4_level_0 : decode cX4_level 0 = .ok (.iload_n 1, 1) := by decide +kernel
theorem dX4_level_1 : decode cX4_level 1 = .ok (.ifCond .lt 8, 3) := by decide +kernel
theorem dX4_level_4 : decode cX4_level 4 = .ok (.iload_n 1, 1) := by decide +kernel
theorem dX4_level_5 : decode cX4_level 5 = .ok (.iconst 1, 1) := by decide +kernel
theorem dX4_level_6 : decode cX4_level 6 = .ok (.if_icmp .le 5, 3) := by decide +kernel
theorem dX4_level_9 : decode cX4_level 9 = .ok (.iconst (-1), 1) := by decide +kernel
theorem dX4_level_10 : decode cX4_level 10 = .ok (.ireturn, 1) := by decide +kernel
theorem dX4_level_11 : decode cX4_level 11 = .ok (.iload_n 2, 1) := by decide +kernel
theorem dX4_level_12 : decode cX4_level 12 = .ok (.ifCond .lt 10, 3) := by decide +kernel
theorem dX4_level_15 : decode cX4_level 15 = .ok (.iload_n 2, 1) := by decide +kernel
theorem dX4_level_16 : decode cX4_level 16 = .ok (.sipush 1000, 3) := by decide +kernel
theorem dX4_level_19 : decode cX4_level 19 = .ok (.if_icmp .le 6, 3) := by decide +kernel
theorem dX4_level_22 : decode cX4_level 22 = .ok (.bipush (-2), 2) := by decide +kernel
theorem dX4_level_24 : decode cX4_level 24 = .ok (.ireturn, 1) := by decide +kernel
theorem dX4_level_25 : decode cX4_level 25 = .ok (.iload_n 1, 1) := by decide +kernel
theorem dX4_level_26 : decode cX4_level 26 = .ok (.ifCond .ne 10, 3) := by decide +kernel
theorem dX4_level_29 : decode cX4_level 29 = .ok (.aload_n 0, 1) := by decide +kernel
theorem dX4_level_30 : decode cX4_level 30 = .ok (.getfield 15, 3) := by decide +kernel
theorem dX4_level_33 : decode cX4_level 33 = .ok (.goto 7, 3) := by decide +kernel
theorem dX4_level_36 : decode cX4_level 36 = .ok (.aload_n 0, 1) := by decide +kernel
theorem dX4_level_37 : decode cX4_level 37 = .ok (.getfield 18, 3) := by decide +kernel
theorem dX4_level_40 : decode cX4_level 40 = .ok (.istore_n 3, 1) := by decide +kernel
theorem dX4_level_41 : decode cX4_level 41 = .ok (.iload_n 1, 1) := by decide +kernel
theorem dX4_level_42 : decode cX4_level 42 = .ok (.ifCond .ne 11, 3) := by decide +kernel
theorem dX4_level_45 : decode cX4_level 45 = .ok (.aload_n 0, 1) := by decide +kernel
theorem dX4_level_46 : decode cX4_level 46 = .ok (.iload_n 2, 1) := by decide +kernel
theorem dX4_level_47 : decode cX4_level 47 = .ok (.putfield 15, 3) := by decide +kernel
theorem dX4_level_50 : decode cX4_level 50 = .ok (.goto 8, 3) := by decide +kernel
theorem dX4_level_53 : decode cX4_level 53 = .ok (.aload_n 0, 1) := by decide +kernel
theorem dX4_level_54 : decode cX4_level 54 = .ok (.iload_n 2, 1) := by decide +kernel
theorem dX4_level_55 : decode cX4_level 55 = .ok (.putfield 18, 3) := by decide +kernel
theorem dX4_level_58 : decode cX4_level 58 = .ok (.iload_n 3, 1) := by decide +kernel
theorem dX4_level_59 : decode cX4_level 59 = .ok (.ireturn, 1) := by decide +kernel
set_option maxRecDepth 20000 in
theorem ggX4_warm_X4_isDay : GoodIn wsX4_warm wsX4_isDay := goodIn_r _ [7] (by decide +kernel) (by decide +kernel)
set_option maxRecDepth 20000 in
theorem gX4_warm_X4_isDay : GoodIn wsX4_warm (va_wsS RX4 78 yX4_isDay wsX4_isDay) := goodIn_app (goodIn_of _ (by decide +kernel)) ggX4_warm_X4_isDay
theorem dX4_warm_0 : decode cX4_warm 0 = .ok (.iload_n 1, 1) := by decide +kernel
theorem dX4_warm_1 : decode cX4_warm 1 = .ok (.invokestatic 78, 3) := by decide +kernel
theorem dX4_warm_4 : decode cX4_warm 4 = .ok (.ifCond .ne 6, 3) := by decide +kernel
theorem dX4_warm_7 : decode cX4_warm 7 = .ok (.ldc 83, 2) := by decide +kernel
theorem dX4_warm_9 : decode cX4_warm 9 = .ok (.ireturn, 1) := by decide +kernel
theorem dX4_warm_10 : decode cX4_warm 10 = .ok (.iload_n 2, 1) := by decide +kernel
theorem dX4_warm_11 : decode cX4_warm 11 = .ok (.bipush (-30), 2) := by decide +kernel
theorem dX4_warm_13 : decode cX4_warm 13 = .ok (.if_icmp .lt 9, 3) := by decide +kernel
theorem dX4_warm_16 : decode cX4_warm 16 = .ok (.iload_n 2, 1) := by decide +kernel
theorem dX4_warm_17 : decode cX4_warm 17 = .ok (.bipush 50, 2) := by decide +kernel
theorem dX4_warm_19 : decode cX4_warm 19 = .ok (.if_icmp .le 6, 3) := by decide +kernel
theorem dX4_warm_22 : decode cX4_warm 22 = .ok (.ldc 84, 2) := by decide +kernel
theorem dX4_warm_24 : decode cX4_warm 24 = .ok (.ireturn, 1) := by decide +kernel
theorem dX4_warm_25 : decode cX4_warm 25 = .ok (.aload_n 0, 1) := by decide +kernel
theorem dX4_warm_26 : decode cX4_warm 26 = .ok (.getfield 55, 3) := by decide +kernel
theorem dX4_warm_29 : decode cX4_warm 29 = .ok (.iload_n 1, 1) := by decide +kernel
theorem dX4_warm_30 : decode cX4_warm 30 = .ok (.iaload, 1) := by decide +kernel
theorem dX4_warm_31 : decode cX4_warm 31 = .ok (.istore_n 3, 1) := by decide +kernel
theorem dX4_warm_32 : decode cX4_warm 32 = .ok (.aload_n 0, 1) := by decide +kernel
theorem dX4_warm_33 : decode cX4_warm 33 = .ok (.getfield 55, 3) := by decide +kernel
theorem dX4_warm_36 : decode cX4_warm 36 = .ok (.iload_n 1, 1) := by decide +kernel
theorem dX4_warm_37 : decode cX4_warm 37 = .ok (.iload_n 2, 1) := by decide +kernel
theorem dX4_warm_38 : decode cX4_warm 38 = .ok (.iastore, 1) := by decide +kernel
theorem dX4_warm_39 : decode cX4_warm 39 = .ok (.iload_n 3, 1) := by decide +kernel
theorem dX4_warm_40 : decode cX4_warm 40 = .ok (.ireturn, 1) := by decide +kernel
theorem dX4_base_0 : decode cX4_base 0 = .ok (.iload_n 1, 1) := by decide +kernel
theorem dX4_base_1 : decode cX4_base 1 = .ok (.ifCond .lt 9, 3) := by decide +kernel
theorem dX4_base_4 : decode cX4_base 4 = .ok (.iload_n 1, 1) := by decide +kernel
theorem dX4_base_5 : decode cX4_base 5 = .ok (.bipush 20, 2) := by decide +kernel
theorem dX4_base_7 : decode cX4_base 7 = .ok (.if_icmp .le 6, 3) := by decide +kernel
theorem dX4_base_10 : decode cX4_base 10 = .ok (.bipush (-2), 2) := by decide +kernel
theorem dX4_base_12 : decode cX4_base 12 = .ok (.ireturn, 1) := by decide +kernel
theorem dX4_base_13 : decode cX4_base 13 = .ok (.aload_n 0, 1) := by decide +kernel
theorem dX4_base_14 : decode cX4_base 14 = .ok (.getfield 85, 3) := by decide +kernel
theorem dX4_base_17 : decode cX4_base 17 = .ok (.istore_n 2, 1) := by decide +kernel
theorem dX4_base_18 : decode cX4_base 18 = .ok (.aload_n 0, 1) := by decide +kernel
theorem dX4_base_19 : decode cX4_base 19 = .ok (.iload_n 1, 1) := by decide +kernel
theorem dX4_base_20 : decode cX4_base 20 = .ok (.putfield 85, 3) := by decide +kernel
theorem dX4_base_23 : decode cX4_base 23 = .ok (.iload_n 2, 1) := by decide +kernel
theorem dX4_base_24 : decode cX4_base 24 = .ok (.ireturn, 1) := by decide +kernel
theorem dX4_point_0 : decode cX4_point 0 = .ok (.iload_n 1, 1) := by decide +kernel
theorem dX4_point_1 : decode cX4_point 1 = .ok (.iconst 1, 1) := by decide +kernel
theorem dX4_point_2 : decode cX4_point 2 = .ok (.if_icmp .lt 21, 3) := by decide +kernel
theorem dX4_point_5 : decode cX4_point 5 = .ok (.iload_n 1, 1) := by decide +kernel
theorem dX4_point_6 : decode cX4_point 6 = .ok (.sipush 2000, 3) := by decide +kernel
theorem dX4_point_9 : decode cX4_point 9 = .ok (.if_icmp .gt 14, 3) := by decide +kernel
theorem dX4_point_12 : decode cX4_point 12 = .ok (.iload_n 2, 1) := by decide +kernel
theorem dX4_point_13 : decode cX4_point 13 = .ok (.ifCond .lt 10, 3) := by decide +kernel
theorem dX4_point_16 : decode cX4_point 16 = .ok (.iload_n 2, 1) := by decide +kernel
theorem dX4_point_17 : decode cX4_point 17 = .ok (.sipush 1000, 3) := by decide +kernel
theorem dX4_point_20 : decode cX4_point 20 = .ok (.if_icmp .le 6, 3) := by decide +kernel
theorem dX4_point_23 : decode cX4_point 23 = .ok (.bipush (-2), 2) := by decide +kernel
theorem dX4_point_25 : decode cX4_point 25 = .ok (.ireturn, 1) := by decide +kernel
theorem dX4_point_26 : decode cX4_point 26 = .ok (.aload_n 0, 1) := by decide +kernel
theorem dX4_point_27 : decode cX4_point 27 = .ok (.getfield 88, 3) := by decide +kernel
theorem dX4_point_30 : decode cX4_point 30 = .ok (.ifCond .le 36, 3) := by decide +kernel
theorem dX4_point_33 : decode cX4_point 33 = .ok (.iload_n 1, 1) := by decide +kernel
theorem dX4_point_34 : decode cX4_point 34 = .ok (.aload_n 0, 1) := by decide +kernel
theorem dX4_point_35 : decode cX4_point 35 = .ok (.getfield 58, 3) := by decide +kernel
theorem dX4_point_38 : decode cX4_point 38 = .ok (.aload_n 0, 1) := by decide +kernel
theorem dX4_point_39 : decode cX4_point 39 = .ok (.getfield 88, 3) := by decide +kernel
theorem dX4_point_42 : decode cX4_point 42 = .ok (.iconst 1, 1) := by decide +kernel
theorem dX4_point_43 : decode cX4_point 43 = .ok (.isub, 1) := by decide +kernel
theorem dX4_point_44 : decode cX4_point 44 = .ok (.iaload, 1) := by decide +kernel
theorem dX4_point_45 : decode cX4_point 45 = .ok (.if_icmp .le 18, 3) := by decide +kernel
theorem dX4_point_48 : decode cX4_point 48 = .ok (.iload_n 2, 1) := by decide +kernel
theorem dX4_point_49 : decode cX4_point 49 = .ok (.aload_n 0, 1) := by decide +kernel
theorem dX4_point_50 : decode cX4_point 50 = .ok (.getfield 61, 3) := by decide +kernel
theorem dX4_point_53 : decode cX4_point 53 = .ok (.aload_n 0, 1) := by decide +kernel
theorem dX4_point_54 : decode cX4_point 54 = .ok (.getfield 88, 3) := by decide +kernel
theorem dX4_point_57 : decode cX4_point 57 = .ok (.iconst 1, 1) := by decide +kernel
theorem dX4_point_58 : decode cX4_point 58 = .ok (.isub, 1) := by decide +kernel
theorem dX4_point_59 : decode cX4_point 59 = .ok (.iaload, 1) := by decide +kernel
theorem dX4_point_60 : decode cX4_point 60 = .ok (.if_icmp .ge 6, 3) := by decide +kernel
theorem dX4_point_63 : decode cX4_point 63 = .ok (.bipush (-2), 2) := by decide +kernel
theorem dX4_point_65 : decode cX4_point 65 = .ok (.ireturn, 1) := by decide +kernel
theorem dX4_point_66 : decode cX4_point 66 = .ok (.aload_n 0, 1) := by decide +kernel
theorem dX4_point_67 : decode cX4_point 67 = .ok (.getfield 88, 3) := by decide +kernel
theorem dX4_point_70 : decode cX4_point 70 = .ok (.bipush 6, 2) := by decide +kernel
theorem dX4_point_72 : decode cX4_point 72 = .ok (.if_icmp .ne 6, 3) := by decide +kernel
theorem dX4_point_75 : decode cX4_point 75 = .ok (.bipush (-4), 2) := by decide +kernel
theorem dX4_point_77 : decode cX4_point 77 = .ok (.ireturn, 1) := by decide +kernel
theorem dX4_point_78 : decode cX4_point 78 = .ok (.aload_n 0, 1) := by decide +kernel
theorem dX4_point_79 : decode cX4_point 79 = .ok (.getfield 58, 3) := by decide +kernel
theorem dX4_point_82 : decode cX4_point 82 = .ok (.aload_n 0, 1) := by decide +kernel
theorem dX4_point_83 : decode cX4_point 83 = .ok (.getfield 88, 3) := by decide +kernel
theorem dX4_point_86 : decode cX4_point 86 = .ok (.iload_n 1, 1) := by decide +kernel
theorem dX4_point_87 : decode cX4_point 87 = .ok (.iastore, 1) := by decide +kernel
theorem dX4_point_88 : decode cX4_point 88 = .ok (.aload_n 0, 1) := by decide +kernel
theorem dX4_point_89 : decode cX4_point 89 = .ok (.getfield 61, 3) := by decide +kernel
theorem dX4_point_92 : decode cX4_point 92 = .ok (.aload_n 0, 1) := by decide +kernel
theorem dX4_point_93 : decode cX4_point 93 = .ok (.getfield 88, 3) := by decide +kernel
theorem dX4_point_96 : decode cX4_point 96 = .ok (.iload_n 2, 1) := by decide +kernel
theorem dX4_point_97 : decode cX4_point 97 = .ok (.iastore, 1) := by decide +kernel
theorem dX4_point_98 : decode cX4_point 98 = .ok (.aload_n 0, 1) := by decide +kernel
theorem dX4_point_99 : decode cX4_point 99 = .ok (.dup, 1) := by decide +kernel
theorem dX4_point_100 : decode cX4_point 100 = .ok (.getfield 88, 3) := by decide +kernel
theorem dX4_point_103 : decode cX4_point 103 = .ok (.iconst 1, 1) := by decide +kernel
theorem dX4_point_104 : decode cX4_point 104 = .ok (.iadd, 1) := by decide +kernel
theorem dX4_point_105 : decode cX4_point 105 = .ok (.dup_x1, 1) := by decide +kernel
theorem dX4_point_106 : decode cX4_point 106 = .ok (.putfield 88, 3) := by decide +kernel
theorem dX4_point_109 : decode cX4_point 109 = .ok (.ireturn, 1) := by decide +kernel
theorem dX4_unpoint_0 : decode cX4_unpoint 0 = .ok (.aload_n 0, 1) := by decide +kernel
theorem dX4_unpoint_1 : decode cX4_unpoint 1 = .ok (.getfield 88, 3) := by decide +kernel
theorem dX4_unpoint_4 : decode cX4_unpoint 4 = .ok (.istore_n 1, 1) := by decide +kernel
theorem dX4_unpoint_5 : decode cX4_unpoint 5 = .ok (.aload_n 0, 1) := by decide +kernel
theorem dX4_unpoint_6 : decode cX4_unpoint 6 = .ok (.iconst 0, 1) := by decide +kernel
theorem dX4_unpoint_7 : decode cX4_unpoint 7 = .ok (.putfield 88, 3) := by decide +kernel
theorem dX4_unpoint_10 : decode cX4_unpoint 10 = .ok (.iload_n 1, 1) := by decide +kernel
theorem dX4_unpoint_11 : decode cX4_unpoint 11 = .ok (.ireturn, 1) := by decide +kernel
theorem dX4_table_0 : decode cX4_table 0 = .ok (.iload_n 1, 1) := by decide +kernel
theorem dX4_table_1 : decode cX4_table 1 = .ok (.ifCond .ge 6, 3) := by decide +kernel
theorem dX4_table_4 : decode cX4_table 4 = .ok (.bipush (-2), 2) := by decide +kernel
theorem dX4_table_6 : decode cX4_table 6 = .ok (.ireturn, 1) := by decide +kernel
theorem dX4_table_7 : decode cX4_table 7 = .ok (.iconst 0, 1) := by decide +kernel
theorem dX4_table_8 : decode cX4_table 8 = .ok (.istore_n 2, 1) := by decide +kernel
theorem dX4_table_9 : decode cX4_table 9 = .ok (.iconst 0, 1) := by decide +kernel
theorem dX4_table_10 : decode cX4_table 10 = .ok (.istore_n 3, 1) := by decide +kernel
theorem dX4_table_11 : decode cX4_table 11 = .ok (.iconst 0, 1) := by decide +kernel
theorem dX4_table_12 : decode cX4_table 12 = .ok (.istore 4, 2) := by decide +kernel
theorem dX4_table_14 : decode cX4_table 14 = .ok (.iload 4, 2) := by decide +kernel
theorem dX4_table_16 : decode cX4_table 16 = .ok (.aload_n 0, 1) := by decide +kernel
theorem dX4_table_17 : decode cX4_table 17 = .ok (.getfield 88, 3) := by decide +kernel
theorem dX4_table_20 : decode cX4_table 20 = .ok (.if_icmp .ge 62, 3) := by decide +kernel
theorem dX4_table_23 : decode cX4_table 23 = .ok (.iload_n 1, 1) := by decide +kernel
theorem dX4_table_24 : decode cX4_table 24 = .ok (.aload_n 0, 1) := by decide +kernel
theorem dX4_table_25 : decode cX4_table 25 = .ok (.getfield 58, 3) := by decide +kernel
theorem dX4_table_28 : decode cX4_table 28 = .ok (.iload 4, 2) := by decide +kernel
theorem dX4_table_30 : decode cX4_table 30 = .ok (.iaload, 1) := by decide +kernel
theorem dX4_table_31 : decode cX4_table 31 = .ok (.if_icmp .ge 29, 3) := by decide +kernel
theorem dX4_table_34 : decode cX4_table 34 = .ok (.iload_n 3, 1) := by decide +kernel
theorem dX4_table_35 : decode cX4_table 35 = .ok (.iload_n 1, 1) := by decide +kernel
theorem dX4_table_36 : decode cX4_table 36 = .ok (.iload_n 2, 1) := by decide +kernel
theorem dX4_table_37 : decode cX4_table 37 = .ok (.isub, 1) := by decide +kernel
theorem dX4_table_38 : decode cX4_table 38 = .ok (.aload_n 0, 1) := by decide +kernel
theorem dX4_table_39 : decode cX4_table 39 = .ok (.getfield 61, 3) := by decide +kernel
theorem dX4_table_42 : decode cX4_table 42 = .ok (.iload 4, 2) := by decide +kernel
theorem dX4_table_44 : decode cX4_table 44 = .ok (.iaload, 1) := by decide +kernel
theorem dX4_table_45 : decode cX4_table 45 = .ok (.iload_n 3, 1) := by decide +kernel
theorem dX4_table_46 : decode cX4_table 46 = .ok (.isub, 1) := by decide +kernel
theorem dX4_table_47 : decode cX4_table 47 = .ok (.imul, 1) := by decide +kernel
theorem dX4_table_48 : decode cX4_table 48 = .ok (.aload_n 0, 1) := by decide +kernel
theorem dX4_table_49 : decode cX4_table 49 = .ok (.getfield 58, 3) := by decide +kernel
theorem dX4_table_52 : decode cX4_table 52 = .ok (.iload 4, 2) := by decide +kernel
theorem dX4_table_54 : decode cX4_table 54 = .ok (.iaload, 1) := by decide +kernel
theorem dX4_table_55 : decode cX4_table 55 = .ok (.iload_n 2, 1) := by decide +kernel
theorem dX4_table_56 : decode cX4_table 56 = .ok (.isub, 1) := by decide +kernel
theorem dX4_table_57 : decode cX4_table 57 = .ok (.idiv, 1) := by decide +kernel
theorem dX4_table_58 : decode cX4_table 58 = .ok (.iadd, 1) := by decide +kernel
theorem dX4_table_59 : decode cX4_table 59 = .ok (.ireturn, 1) := by decide +kernel
theorem dX4_table_60 : decode cX4_table 60 = .ok (.aload_n 0, 1) := by decide +kernel
theorem dX4_table_61 : decode cX4_table 61 = .ok (.getfield 58, 3) := by decide +kernel
theorem dX4_table_64 : decode cX4_table 64 = .ok (.iload 4, 2) := by decide +kernel
theorem dX4_table_66 : decode cX4_table 66 = .ok (.iaload, 1) := by decide +kernel
theorem dX4_table_67 : decode cX4_table 67 = .ok (.istore_n 2, 1) := by decide +kernel
theorem dX4_table_68 : decode cX4_table 68 = .ok (.aload_n 0, 1) := by decide +kernel
theorem dX4_table_69 : decode cX4_table 69 = .ok (.getfield 61, 3) := by decide +kernel
theorem dX4_table_72 : decode cX4_table 72 = .ok (.iload 4, 2) := by decide +kernel
theorem dX4_table_74 : decode cX4_table 74 = .ok (.iaload, 1) := by decide +kernel
theorem dX4_table_75 : decode cX4_table 75 = .ok (.istore_n 3, 1) := by decide +kernel
theorem dX4_table_76 : decode cX4_table 76 = .ok (.iinc 4 1, 3) := by decide +kernel
theorem dX4_table_79 : decode cX4_table 79 = .ok (.goto (-65), 3) := by decide +kernel
theorem dX4_table_82 : decode cX4_table 82 = .ok (.iload_n 3, 1) := by decide +kernel
theorem dX4_table_83 : decode cX4_table 83 = .ok (.ireturn, 1) := by decide +kernel
set_option maxRecDepth 20000 in
theorem ggX4_hardness_X4_table : GoodIn wsX4_hardness wsX4_table := goodIn_r _ [7, 8, 9, 10, 11, 12, 13, 14, 15, 16, 17, 18, 19, 20, 21, 22, 23, 24, 25, 26, 27, 28, 29, 30, 31, 32, 33, 34, 35] (by decide +kernel) (by decide +kernel)
set_option maxRecDepth 20000 in
theorem gX4_hardness_X4_table : GoodIn wsX4_hardness (wsV RX4 91 RX4 yX4_table wsX4_table) := goodIn_app (goodIn_of _ (by decide +kernel)) ggX4_hardness_X4_table
theorem dX4_hardness_0 : decode cX4_hardness 0 = .ok (.iconst 0, 1) := by decide +kernel
theorem dX4_hardness_1 : decode cX4_hardness 1 = .ok (.istore_n 3, 1) := by decide +kernel
theorem dX4_hardness_2 : decode cX4_hardness 2 = .ok (.iload_n 1, 1) := by decide +kernel
theorem dX4_hardness_3 : decode cX4_hardness 3 = .ok (.istore 4, 2) := by decide +kernel
theorem dX4_hardness_5 : decode cX4_hardness 5 = .ok (.iload 4, 2) := by decide +kernel
theorem dX4_hardness_7 : decode cX4_hardness 7 = .ok (.iload_n 2, 1) := by decide +kernel
theorem dX4_hardness_8 : decode cX4_hardness 8 = .ok (.if_icmp .ge 42, 3) := by decide +kernel
theorem dX4_hardness_11 : decode cX4_hardness 11 = .ok (.iload_n 3, 1) := by decide +kernel
theorem dX4_hardness_12 : decode cX4_hardness 12 = .ok (.aload_n 0, 1) := by decide +kernel
theorem dX4_hardness_13 : decode cX4_hardness 13 = .ok (.getfield 55, 3) := by decide +kernel
theorem dX4_hardness_16 : decode cX4_hardness 16 = .ok (.iload 4, 2) := by decide +kernel
theorem dX4_hardness_18 : decode cX4_hardness 18 = .ok (.iaload, 1) := by decide +kernel
theorem dX4_hardness_19 : decode cX4_hardness 19 = .ok (.aload_n 0, 1) := by decide +kernel
theorem dX4_hardness_20 : decode cX4_hardness 20 = .ok (.getfield 85, 3) := by decide +kernel
theorem dX4_hardness_23 : decode cX4_hardness 23 = .ok (.if_icmp .le 18, 3) := by decide +kernel
theorem dX4_hardness_26 : decode cX4_hardness 26 = .ok (.aload_n 0, 1) := by decide +kernel
theorem dX4_hardness_27 : decode cX4_hardness 27 = .ok (.getfield 55, 3) := by decide +kernel
theorem dX4_hardness_30 : decode cX4_hardness 30 = .ok (.iload 4, 2) := by decide +kernel
theorem dX4_hardness_32 : decode cX4_hardness 32 = .ok (.iaload, 1) := by decide +kernel
theorem dX4_hardness_33 : decode cX4_hardness 33 = .ok (.aload_n 0, 1) := by decide +kernel
theorem dX4_hardness_34 : decode cX4_hardness 34 = .ok (.getfield 85, 3) := by decide +kernel
theorem dX4_hardness_37 : decode cX4_hardness 37 = .ok (.isub, 1) := by decide +kernel
theorem dX4_hardness_38 : decode cX4_hardness 38 = .ok (.goto 4, 3) := by decide +kernel
theorem dX4_hardness_41 : decode cX4_hardness 41 = .ok (.iconst 0, 1) := by decide +kernel
theorem dX4_hardness_42 : decode cX4_hardness 42 = .ok (.iadd, 1) := by decide +kernel
theorem dX4_hardness_43 : decode cX4_hardness 43 = .ok (.istore_n 3, 1) := by decide +kernel
theorem dX4_hardness_44 : decode cX4_hardness 44 = .ok (.iinc 4 1, 3) := by decide +kernel
theorem dX4_hardness_47 : decode cX4_hardness 47 = .ok (.goto (-42), 3) := by decide +kernel
theorem dX4_hardness_50 : decode cX4_hardness 50 = .ok (.aload_n 0, 1) := by decide +kernel
theorem dX4_hardness_51 : decode cX4_hardness 51 = .ok (.iload_n 3, 1) := by decide +kernel
theorem dX4_hardness_52 : decode cX4_hardness 52 = .ok (.invokevirtual 91, 3) := by decide +kernel
theorem dX4_hardness_55 : decode cX4_hardness 55 = .ok (.ireturn, 1) := by decide +kernel
set_option maxRecDepth 20000 in
theorem ggX4_stripped_X4_hardness : GoodIn wsX4_stripped wsX4_hardness := goodIn_r _ [6, 7, 8, 9, 10, 11, 5, 12, 13, 14, 15, 16, 17, 18, 19, 20, 21, 22, 23, 24, 25, 26, 27, 28, 29, 30, 31, 32, 33, 34, 35, 36, 37, 38, 39, 40] (by decide +kernel) (by decide +kernel)
set_option maxRecDepth 20000 in
theorem gX4_stripped_X4_hardness : GoodIn wsX4_stripped (wsV RX4 95 RX4 yX4_hardness wsX4_hardness) := goodIn_app (goodIn_of _ (by decide +kernel)) ggX4_stripped_X4_hardness
theorem dX4_stripped_0 : decode cX4_stripped 0 = .ok (.iload_n 1, 1) := by decide +kernel
theorem dX4_stripped_1 : decode cX4_stripped 1 = .ok (.iconst 1, 1) := by decide +kernel
theorem dX4_stripped_2 : decode cX4_stripped 2 = .ok (.iadd, 1) := by decide +kernel
theorem dX4_stripped_3 : decode cX4_stripped 3 = .ok (.istore_n 2, 1) := by decide +kernel
theorem dX4_stripped_4 : decode cX4_stripped 4 = .ok (.iload_n 2, 1) := by decide +kernel
theorem dX4_stripped_5 : decode cX4_stripped 5 = .ok (.bipush 40, 2) := by decide +kernel
theorem dX4_stripped_7 : decode cX4_stripped 7 = .ok (.if_icmp .ge 24, 3) := by decide +kernel
theorem dX4_stripped_10 : decode cX4_stripped 10 = .ok (.aload_n 0, 1) := by decide +kernel
theorem dX4_stripped_11 : decode cX4_stripped 11 = .ok (.iload_n 1, 1) := by decide +kernel
theorem dX4_stripped_12 : decode cX4_stripped 12 = .ok (.iload_n 2, 1) := by decide +kernel
theorem dX4_stripped_13 : decode cX4_stripped 13 = .ok (.invokevirtual 95, 3) := by decide +kernel
theorem dX4_stripped_16 : decode cX4_stripped 16 = .ok (.aload_n 0, 1) := by decide +kernel
theorem dX4_stripped_17 : decode cX4_stripped 17 = .ok (.getfield 15, 3) := by decide +kernel
theorem dX4_stripped_20 : decode cX4_stripped 20 = .ok (.if_icmp .lt 5, 3) := by decide +kernel
theorem dX4_stripped_23 : decode cX4_stripped 23 = .ok (.iload_n 2, 1) := by decide +kernel
theorem dX4_stripped_24 : decode cX4_stripped 24 = .ok (.ireturn, 1) := by decide +kernel
theorem dX4_stripped_25 : decode cX4_stripped 25 = .ok (.iinc 2 1, 3) := by decide +kernel
theorem dX4_stripped_28 : decode cX4_stripped 28 = .ok (.goto (-24), 3) := by decide +kernel
theorem dX4_stripped_31 : decode cX4_stripped 31 = .ok (.bipush 40, 2) := by decide +kernel
theorem dX4_stripped_33 : decode cX4_stripped 33 = .ok (.ireturn, 1) := by decide +kernel
theorem dX4_isPoured_0 : decode cX4_isPoured 0 = .ok (.aload_n 0, 1) := by decide +kernel
theorem dX4_isPoured_1 : decode cX4_isPoured 1 = .ok (.getfield 37, 3) := by decide +kernel
theorem dX4_isPoured_4 : decode cX4_isPoured 4 = .ok (.iload_n 1, 1) := by decide +kernel
theorem dX4_isPoured_5 : decode cX4_isPoured 5 = .ok (.iaload, 1) := by decide +kernel
theorem dX4_isPoured_6 : decode cX4_isPoured 6 = .ok (.iconst (-1), 1) := by decide +kernel
theorem dX4_isPoured_7 : decode cX4_isPoured 7 = .ok (.if_icmp .eq 17, 3) := by decide +kernel
theorem dX4_isPoured_10 : decode cX4_isPoured 10 = .ok (.aload_n 0, 1) := by decide +kernel
theorem dX4_isPoured_11 : decode cX4_isPoured 11 = .ok (.getfield 37, 3) := by decide +kernel
theorem dX4_isPoured_14 : decode cX4_isPoured 14 = .ok (.iload_n 1, 1) := by decide +kernel
theorem dX4_isPoured_15 : decode cX4_isPoured 15 = .ok (.iaload, 1) := by decide +kernel
theorem dX4_isPoured_16 : decode cX4_isPoured 16 = .ok (.iload_n 2, 1) := by decide +kernel
theorem dX4_isPoured_17 : decode cX4_isPoured 17 = .ok (.if_icmp .gt 7, 3) := by decide +kernel
theorem dX4_isPoured_20 : decode cX4_isPoured 20 = .ok (.iconst 1, 1) := by decide +kernel
theorem dX4_isPoured_21 : decode cX4_isPoured 21 = .ok (.goto 4, 3) := by decide +kernel
theorem dX4_isPoured_24 : decode cX4_isPoured 24 = .ok (.iconst 0, 1) := by decide +kernel
theorem dX4_isPoured_25 : decode cX4_isPoured 25 = .ok (.ireturn, 1) := by decide +kernel
set_option maxRecDepth 20000 in
theorem ggX4_holds_X4_isPoured : GoodIn wsX4_holds wsX4_isPoured := goodIn_r _ [6, 1, 25, 26, 27, 28, 29, 30, 31, 32, 33, 34, 35, 36, 37, 38, 39, 40, 41, 42, 43, 44, 45, 46, 47, 48, 49] (by decide +kernel) (by decide +kernel)
set_option maxRecDepth 20000 in
theorem gX4_holds_X4_isPoured : GoodIn wsX4_holds (wsV RX4 99 RX4 yX4_isPoured wsX4_isPoured) := goodIn_app (goodIn_of _ (by decide +kernel)) ggX4_holds_X4_isPoured
set_option maxRecDepth 20000 in
theorem ggX4_holds_X4_stripped : GoodIn wsX4_holds wsX4_stripped := goodIn_r _ [10, 11, 12, 13, 14, 5, 15, 16, 17, 18, 19, 20, 21, 22, 23, 24, 25, 26, 27, 28, 29, 30, 31, 32, 33, 34, 35, 36, 37, 38, 39, 40, 41, 42, 43, 44, 45, 46, 47, 48, 49] (by decide +kernel) (by decide +kernel)
set_option maxRecDepth 20000 in
theorem gX4_holds_X4_stripped : GoodIn wsX4_holds (wsV RX4 102 RX4 yX4_stripped wsX4_stripped) := goodIn_app (goodIn_of _ (by decide +kernel)) ggX4_holds_X4_stripped
theorem dX4_holds_0 : decode cX4_holds 0 = .ok (.aload_n 0, 1) := by decide +kernel
theorem dX4_holds_1 : decode cX4_holds 1 = .ok (.iload_n 1, 1) := by decide +kernel
theorem dX4_holds_2 : decode cX4_holds 2 = .ok (.iload_n 2, 1) := by decide +kernel
theorem dX4_holds_3 : decode cX4_holds 3 = .ok (.invokevirtual 99, 3) := by decide +kernel
theorem dX4_holds_6 : decode cX4_holds 6 = .ok (.ifCond .eq 21, 3) := by decide +kernel
theorem dX4_holds_9 : decode cX4_holds 9 = .ok (.iload_n 2, 1) := by decide +kernel
theorem dX4_holds_10 : decode cX4_holds 10 = .ok (.aload_n 0, 1) := by decide +kernel
theorem dX4_holds_11 : decode cX4_holds 11 = .ok (.aload_n 0, 1) := by decide +kernel
theorem dX4_holds_12 : decode cX4_holds 12 = .ok (.getfield 37, 3) := by decide +kernel
theorem dX4_holds_15 : decode cX4_holds 15 = .ok (.iload_n 1, 1) := by decide +kernel
theorem dX4_holds_16 : decode cX4_holds 16 = .ok (.iaload, 1) := by decide +kernel
theorem dX4_holds_17 : decode cX4_holds 17 = .ok (.invokevirtual 102, 3) := by decide +kernel
theorem dX4_holds_20 : decode cX4_holds 20 = .ok (.if_icmp .ge 7, 3) := by decide +kernel
theorem dX4_holds_23 : decode cX4_holds 23 = .ok (.iconst 1, 1) := by decide +kernel
theorem dX4_holds_24 : decode cX4_holds 24 = .ok (.goto 4, 3) := by decide +kernel
theorem dX4_holds_27 : decode cX4_holds 27 = .ok (.iconst 0, 1) := by decide +kernel
theorem dX4_holds_28 : decode cX4_holds 28 = .ok (.ireturn, 1) := by decide +kernel
set_option maxRecDepth 20000 in
theorem ggX4_freeOf_X4_holds : GoodIn wsX4_freeOf wsX4_holds := goodIn_r _ [9, 10, 11, 12, 13, 8, 14, 15, 16, 17, 18, 19, 20, 21, 22, 23, 24, 25, 26, 27, 28, 29, 30, 31, 32, 33, 34, 35, 36, 37, 38, 39, 40, 41, 42, 43, 44, 45, 46, 47, 48, 49, 50, 51, 52, 53, 54, 55, 56, 57] (by decide +kernel) (by decide +kernel)
set_option maxRecDepth 20000 in
theorem gX4_freeOf_X4_holds : GoodIn wsX4_freeOf (wsV RX4 105 RX4 yX4_holds wsX4_holds) := goodIn_app (goodIn_of _ (by decide +kernel)) ggX4_freeOf_X4_holds
theorem dX4_freeOf_0 : decode cX4_freeOf 0 = .ok (.aload_n 0, 1) := by decide +kernel
theorem dX4_freeOf_1 : decode cX4_freeOf 1 = .ok (.getfield 52, 3) := by decide +kernel
theorem dX4_freeOf_4 : decode cX4_freeOf 4 = .ok (.iload_n 1, 1) := by decide +kernel
theorem dX4_freeOf_5 : decode cX4_freeOf 5 = .ok (.iaload, 1) := by decide +kernel
theorem dX4_freeOf_6 : decode cX4_freeOf 6 = .ok (.istore 4, 2) := by decide +kernel
theorem dX4_freeOf_8 : decode cX4_freeOf 8 = .ok (.iconst 0, 1) := by decide +kernel
theorem dX4_freeOf_9 : decode cX4_freeOf 9 = .ok (.istore 5, 2) := by decide +kernel
theorem dX4_freeOf_11 : decode cX4_freeOf 11 = .ok (.iload 5, 2) := by decide +kernel
theorem dX4_freeOf_13 : decode cX4_freeOf 13 = .ok (.aload_n 0, 1) := by decide +kernel
theorem dX4_freeOf_14 : decode cX4_freeOf 14 = .ok (.getfield 67, 3) := by decide +kernel
theorem dX4_freeOf_17 : decode cX4_freeOf 17 = .ok (.if_icmp .ge 48, 3) := by decide +kernel
theorem dX4_freeOf_20 : decode cX4_freeOf 20 = .ok (.iload 5, 2) := by decide +kernel
theorem dX4_freeOf_22 : decode cX4_freeOf 22 = .ok (.iload_n 3, 1) := by decide +kernel
theorem dX4_freeOf_23 : decode cX4_freeOf 23 = .ok (.if_icmp .eq 36, 3) := by decide +kernel
theorem dX4_freeOf_26 : decode cX4_freeOf 26 = .ok (.aload_n 0, 1) := by decide +kernel
theorem dX4_freeOf_27 : decode cX4_freeOf 27 = .ok (.getfield 31, 3) := by decide +kernel
theorem dX4_freeOf_30 : decode cX4_freeOf 30 = .ok (.iload 5, 2) := by decide +kernel
theorem dX4_freeOf_32 : decode cX4_freeOf 32 = .ok (.iaload, 1) := by decide +kernel
theorem dX4_freeOf_33 : decode cX4_freeOf 33 = .ok (.iload_n 1, 1) := by decide +kernel
theorem dX4_freeOf_34 : decode cX4_freeOf 34 = .ok (.if_icmp .ne 25, 3) := by decide +kernel
theorem dX4_freeOf_37 : decode cX4_freeOf 37 = .ok (.aload_n 0, 1) := by decide +kernel
theorem dX4_freeOf_38 : decode cX4_freeOf 38 = .ok (.iload 5, 2) := by decide +kernel
theorem dX4_freeOf_40 : decode cX4_freeOf 40 = .ok (.iload_n 2, 1) := by decide +kernel
theorem dX4_freeOf_41 : decode cX4_freeOf 41 = .ok (.invokevirtual 105, 3) := by decide +kernel
theorem dX4_freeOf_44 : decode cX4_freeOf 44 = .ok (.ifCond .eq 15, 3) := by decide +kernel
theorem dX4_freeOf_47 : decode cX4_freeOf 47 = .ok (.iload 4, 2) := by decide +kernel
theorem dX4_freeOf_49 : decode cX4_freeOf 49 = .ok (.aload_n 0, 1) := by decide +kernel
theorem dX4_freeOf_50 : decode cX4_freeOf 50 = .ok (.getfield 34, 3) := by decide +kernel
theorem dX4_freeOf_53 : decode cX4_freeOf 53 = .ok (.iload 5, 2) := by decide +kernel
theorem dX4_freeOf_55 : decode cX4_freeOf 55 = .ok (.iaload, 1) := by decide +kernel
theorem dX4_freeOf_56 : decode cX4_freeOf 56 = .ok (.isub, 1) := by decide +kernel
theorem dX4_freeOf_57 : decode cX4_freeOf 57 = .ok (.istore 4, 2) := by decide +kernel
theorem dX4_freeOf_59 : decode cX4_freeOf 59 = .ok (.iinc 5 1, 3) := by decide +kernel
theorem dX4_freeOf_62 : decode cX4_freeOf 62 = .ok (.goto (-51), 3) := by decide +kernel
theorem dX4_freeOf_65 : decode cX4_freeOf 65 = .ok (.iload 4, 2) := by decide +kernel
theorem dX4_freeOf_67 : decode cX4_freeOf 67 = .ok (.ireturn, 1) := by decide +kernel
theorem dX4_volumes_0 : decode cX4_volumes 0 = .ok (.iconst 0, 1) := by decide +kernel
theorem dX4_volumes_1 : decode cX4_volumes 1 = .ok (.istore_n 3, 1) := by decide +kernel
theorem dX4_volumes_2 : decode cX4_volumes 2 = .ok (.iconst 0, 1) := by decide +kernel
theorem dX4_volumes_3 : decode cX4_volumes 3 = .ok (.istore 4, 2) := by decide +kernel
theorem dX4_volumes_5 : decode cX4_volumes 5 = .ok (.iload 4, 2) := by decide +kernel
theorem dX4_volumes_7 : decode cX4_volumes 7 = .ok (.aload_n 0, 1) := by decide +kernel
theorem dX4_volumes_8 : decode cX4_volumes 8 = .ok (.getfield 67, 3) := by decide +kernel
theorem dX4_volumes_11 : decode cX4_volumes 11 = .ok (.if_icmp .ge 36, 3) := by decide +kernel
theorem dX4_volumes_14 : decode cX4_volumes 14 = .ok (.iload 4, 2) := by decide +kernel
theorem dX4_volumes_16 : decode cX4_volumes 16 = .ok (.iload_n 2, 1) := by decide +kernel
theorem dX4_volumes_17 : decode cX4_volumes 17 = .ok (.if_icmp .eq 24, 3) := by decide +kernel
theorem dX4_volumes_20 : decode cX4_volumes 20 = .ok (.aload_n 0, 1) := by decide +kernel
theorem dX4_volumes_21 : decode cX4_volumes 21 = .ok (.getfield 37, 3) := by decide +kernel
theorem dX4_volumes_24 : decode cX4_volumes 24 = .ok (.iload 4, 2) := by decide +kernel
theorem dX4_volumes_26 : decode cX4_volumes 26 = .ok (.iaload, 1) := by decide +kernel
theorem dX4_volumes_27 : decode cX4_volumes 27 = .ok (.iload_n 1, 1) := by decide +kernel
theorem dX4_volumes_28 : decode cX4_volumes 28 = .ok (.if_icmp .ne 13, 3) := by decide +kernel
theorem dX4_volumes_31 : decode cX4_volumes 31 = .ok (.iload_n 3, 1) := by decide +kernel
theorem dX4_volumes_32 : decode cX4_volumes 32 = .ok (.aload_n 0, 1) := by decide +kernel
theorem dX4_volumes_33 : decode cX4_volumes 33 = .ok (.getfield 28, 3) := by decide +kernel
theorem dX4_volumes_36 : decode cX4_volumes 36 = .ok (.iload 4, 2) := by decide +kernel
theorem dX4_volumes_38 : decode cX4_volumes 38 = .ok (.iaload, 1) := by decide +kernel
theorem dX4_volumes_39 : decode cX4_volumes 39 = .ok (.iadd, 1) := by decide +kernel
theorem dX4_volumes_40 : decode cX4_volumes 40 = .ok (.istore_n 3, 1) := by decide +kernel
theorem dX4_volumes_41 : decode cX4_volumes 41 = .ok (.iinc 4 1, 3) := by decide +kernel
theorem dX4_volumes_44 : decode cX4_volumes 44 = .ok (.goto (-39), 3) := by decide +kernel
theorem dX4_volumes_47 : decode cX4_volumes 47 = .ok (.iload_n 3, 1) := by decide +kernel
theorem dX4_volumes_48 : decode cX4_volumes 48 = .ok (.ireturn, 1) := by decide +kernel
theorem dX4_isUnder_0 : decode cX4_isUnder 0 = .ok (.iload_n 2, 1) := by decide +kernel
theorem dX4_isUnder_1 : decode cX4_isUnder 1 = .ok (.iload_n 1, 1) := by decide +kernel
theorem dX4_isUnder_2 : decode cX4_isUnder 2 = .ok (.if_icmp .ne 5, 3) := by decide +kernel
theorem dX4_isUnder_5 : decode cX4_isUnder 5 = .ok (.iconst 0, 1) := by decide +kernel
theorem dX4_isUnder_6 : decode cX4_isUnder 6 = .ok (.ireturn, 1) := by decide +kernel
theorem dX4_isUnder_7 : decode cX4_isUnder 7 = .ok (.aload_n 0, 1) := by decide +kernel
theorem dX4_isUnder_8 : decode cX4_isUnder 8 = .ok (.getfield 21, 3) := by decide +kernel
theorem dX4_isUnder_11 : decode cX4_isUnder 11 = .ok (.iload_n 2, 1) := by decide +kernel
theorem dX4_isUnder_12 : decode cX4_isUnder 12 = .ok (.iaload, 1) := by decide +kernel
theorem dX4_isUnder_13 : decode cX4_isUnder 13 = .ok (.iconst 1, 1) := by decide +kernel
theorem dX4_isUnder_14 : decode cX4_isUnder 14 = .ok (.if_icmp .eq 13, 3) := by decide +kernel
theorem dX4_isUnder_17 : decode cX4_isUnder 17 = .ok (.aload_n 0, 1) := by decide +kernel
theorem dX4_isUnder_18 : decode cX4_isUnder 18 = .ok (.getfield 21, 3) := by decide +kernel
theorem dX4_isUnder_21 : decode cX4_isUnder 21 = .ok (.iload_n 2, 1) := by decide +kernel
theorem dX4_isUnder_22 : decode cX4_isUnder 22 = .ok (.iaload, 1) := by decide +kernel
theorem dX4_isUnder_23 : decode cX4_isUnder 23 = .ok (.iconst 2, 1) := by decide +kernel
theorem dX4_isUnder_24 : decode cX4_isUnder 24 = .ok (.if_icmp .ne 24, 3) := by decide +kernel
theorem dX4_isUnder_27 : decode cX4_isUnder 27 = .ok (.aload_n 0, 1) := by decide +kernel
theorem dX4_isUnder_28 : decode cX4_isUnder 28 = .ok (.getfield 25, 3) := by decide +kernel
theorem dX4_isUnder_31 : decode cX4_isUnder 31 = .ok (.iload_n 2, 1) := by decide +kernel
theorem dX4_isUnder_32 : decode cX4_isUnder 32 = .ok (.iaload, 1) := by decide +kernel
theorem dX4_isUnder_33 : decode cX4_isUnder 33 = .ok (.aload_n 0, 1) := by decide +kernel
theorem dX4_isUnder_34 : decode cX4_isUnder 34 = .ok (.getfield 25, 3) := by decide +kernel
theorem dX4_isUnder_37 : decode cX4_isUnder 37 = .ok (.iload_n 1, 1) := by decide +kernel
theorem dX4_isUnder_38 : decode cX4_isUnder 38 = .ok (.iaload, 1) := by decide +kernel
theorem dX4_isUnder_39 : decode cX4_isUnder 39 = .ok (.if_icmp .ne 7, 3) := by decide +kernel
theorem dX4_isUnder_42 : decode cX4_isUnder 42 = .ok (.iconst 1, 1) := by decide +kernel
theorem dX4_isUnder_43 : decode cX4_isUnder 43 = .ok (.goto 4, 3) := by decide +kernel
theorem dX4_isUnder_46 : decode cX4_isUnder 46 = .ok (.iconst 0, 1) := by decide +kernel
theorem dX4_isUnder_47 : decode cX4_isUnder 47 = .ok (.ireturn, 1) := by decide +kernel
theorem dX4_isUnder_48 : decode cX4_isUnder 48 = .ok (.aload_n 0, 1) := by decide +kernel
theorem dX4_isUnder_49 : decode cX4_isUnder 49 = .ok (.getfield 21, 3) := by decide +kernel
theorem dX4_isUnder_52 : decode cX4_isUnder 52 = .ok (.iload_n 2, 1) := by decide +kernel
theorem dX4_isUnder_53 : decode cX4_isUnder 53 = .ok (.iaload, 1) := by decide +kernel
theorem dX4_isUnder_54 : decode cX4_isUnder 54 = .ok (.ifCond .ne 24, 3) := by decide +kernel
theorem dX4_isUnder_57 : decode cX4_isUnder 57 = .ok (.aload_n 0, 1) := by decide +kernel
theorem dX4_isUnder_58 : decode cX4_isUnder 58 = .ok (.getfield 25, 3) := by decide +kernel
theorem dX4_isUnder_61 : decode cX4_isUnder 61 = .ok (.iload_n 2, 1) := by decide +kernel
theorem dX4_isUnder_62 : decode cX4_isUnder 62 = .ok (.iaload, 1) := by decide +kernel
theorem dX4_isUnder_63 : decode cX4_isUnder 63 = .ok (.aload_n 0, 1) := by decide +kernel
theorem dX4_isUnder_64 : decode cX4_isUnder 64 = .ok (.getfield 25, 3) := by decide +kernel
theorem dX4_isUnder_67 : decode cX4_isUnder 67 = .ok (.iload_n 1, 1) := by decide +kernel
theorem dX4_isUnder_68 : decode cX4_isUnder 68 = .ok (.iaload, 1) := by decide +kernel
theorem dX4_isUnder_69 : decode cX4_isUnder 69 = .ok (.iconst 1, 1) := by decide +kernel
theorem dX4_isUnder_70 : decode cX4_isUnder 70 = .ok (.isub, 1) := by decide +kernel
theorem dX4_isUnder_71 : decode cX4_isUnder 71 = .ok (.if_icmp .ne 7, 3) := by decide +kernel
theorem dX4_isUnder_74 : decode cX4_isUnder 74 = .ok (.iconst 1, 1) := by decide +kernel
theorem dX4_isUnder_75 : decode cX4_isUnder 75 = .ok (.goto 4, 3) := by decide +kernel
theorem dX4_isUnder_78 : decode cX4_isUnder 78 = .ok (.iconst 0, 1) := by decide +kernel
theorem dX4_isUnder_79 : decode cX4_isUnder 79 = .ok (.ireturn, 1) := by decide +kernel
set_option maxRecDepth 20000 in
theorem ggX4_hinders_X4_isUnder : GoodIn wsX4_hinders wsX4_isUnder := goodIn_r _ [14, 4, 15, 51, 52, 53, 54, 55, 56, 57, 58, 59, 60, 61, 62, 63, 64, 65, 66, 67, 68, 69, 70, 71, 72, 73, 74, 75] (by decide +kernel) (by decide +kernel)
set_option maxRecDepth 20000 in
theorem gX4_hinders_X4_isUnder : GoodIn wsX4_hinders (wsV RX4 108 RX4 yX4_isUnder wsX4_isUnder) := goodIn_app (goodIn_of _ (by decide +kernel)) ggX4_hinders_X4_isUnder
set_option maxRecDepth 20000 in
theorem ggX4_hinders_X4_isPoured : GoodIn wsX4_hinders wsX4_isPoured := goodIn_r _ [19, 3, 51, 52, 53, 54, 55, 56, 57, 58, 59, 60, 61, 62, 63, 64, 65, 66, 67, 68, 69, 70, 71, 72, 73, 74, 75] (by decide +kernel) (by decide +kernel)
set_option maxRecDepth 20000 in
theorem gX4_hinders_X4_isPoured : GoodIn wsX4_hinders (wsV RX4 99 RX4 yX4_isPoured wsX4_isPoured) := goodIn_app (goodIn_of _ (by decide +kernel)) ggX4_hinders_X4_isPoured
set_option maxRecDepth 20000 in
theorem ggX4_hinders_X4_hardness : GoodIn wsX4_hinders wsX4_hardness := goodIn_r _ [23, 24, 25, 26, 27, 28, 13, 29, 30, 31, 32, 51, 52, 53, 54, 55, 56, 57, 58, 59, 60, 61, 62, 63, 64, 65, 66, 67, 68, 69, 70, 71, 72, 73, 74, 75] (by decide +kernel) (by decide +kernel)
set_option maxRecDepth 20000 in
theorem gX4_hinders_X4_hardness : GoodIn wsX4_hinders (wsV RX4 95 RX4 yX4_hardness wsX4_hardness) := goodIn_app (goodIn_of _ (by decide +kernel)) ggX4_hinders_X4_hardness
set_option maxRecDepth 20000 in
theorem ggX4_hinders_X4_freeOf : GoodIn wsX4_hinders wsX4_freeOf := goodIn_r _ [36, 37, 1, 6, 7, 38, 39, 40, 13, 41, 3, 16, 17, 18, 19, 42, 43, 44, 45, 46, 20, 21, 22, 23, 24, 25, 26, 27, 28, 29, 30, 31, 32, 51, 52, 53, 54, 55, 56, 57, 58, 59, 60, 61, 62, 63, 64, 65, 66, 67, 68, 69, 70, 71, 72, 73, 74, 75] (by decide +kernel) (by decide +kernel)
set_option maxRecDepth 20000 in
theorem gX4_hinders_X4_freeOf : GoodIn wsX4_hinders (wsV RX4 111 RX4 yX4_freeOf wsX4_freeOf) := goodIn_app (goodIn_of _ (by decide +kernel)) ggX4_hinders_X4_freeOf
set_option maxRecDepth 20000 in
theorem ggX4_hinders_X4_volumes : GoodIn wsX4_hinders wsX4_volumes := goodIn_r _ [50, 1, 3, 8, 51, 52, 53, 54, 55, 56, 57, 58, 59, 60, 61, 62, 63, 64, 65, 66, 67, 68, 69, 70, 71, 72, 73, 74, 75] (by decide +kernel) (by decide +kernel)
set_option maxRecDepth 20000 in
theorem gX4_hinders_X4_volumes : GoodIn wsX4_hinders (wsV RX4 115 RX4 yX4_volumes wsX4_volumes) := goodIn_app (goodIn_of _ (by decide +kernel)) ggX4_hinders_X4_volumes
theorem dX4_hinders_0 : decode cX4_hinders 0 = .ok (.iconst 0, 1) := by decide +kernel
theorem dX4_hinders_1 : decode cX4_hinders 1 = .ok (.istore_n 3, 1) := by decide +kernel
theorem dX4_hinders_2 : decode cX4_hinders 2 = .ok (.iload_n 3, 1) := by decide +kernel
theorem dX4_hinders_3 : decode cX4_hinders 3 = .ok (.aload_n 0, 1) := by decide +kernel
theorem dX4_hinders_4 : decode cX4_hinders 4 = .ok (.getfield 67, 3) := by decide +kernel
theorem dX4_hinders_7 : decode cX4_hinders 7 = .ok (.if_icmp .ge 53, 3) := by decide +kernel
theorem dX4_hinders_10 : decode cX4_hinders 10 = .ok (.aload_n 0, 1) := by decide +kernel
theorem dX4_hinders_11 : decode cX4_hinders 11 = .ok (.getfield 40, 3) := by decide +kernel
theorem dX4_hinders_14 : decode cX4_hinders 14 = .ok (.bipush 10, 2) := by decide +kernel
theorem dX4_hinders_16 : decode cX4_hinders 16 = .ok (.iload_n 3, 1) := by decide +kernel
theorem dX4_hinders_17 : decode cX4_hinders 17 = .ok (.imul, 1) := by decide +kernel
theorem dX4_hinders_18 : decode cX4_hinders 18 = .ok (.iload_n 1, 1) := by decide +kernel
theorem dX4_hinders_19 : decode cX4_hinders 19 = .ok (.iadd, 1) := by decide +kernel
theorem dX4_hinders_20 : decode cX4_hinders 20 = .ok (.iaload, 1) := by decide +kernel
theorem dX4_hinders_21 : decode cX4_hinders 21 = .ok (.istore 4, 2) := by decide +kernel
theorem dX4_hinders_23 : decode cX4_hinders 23 = .ok (.iload 4, 2) := by decide +kernel
theorem dX4_hinders_25 : decode cX4_hinders 25 = .ok (.iconst (-1), 1) := by decide +kernel
theorem dX4_hinders_26 : decode cX4_hinders 26 = .ok (.if_icmp .eq 28, 3) := by decide +kernel
theorem dX4_hinders_29 : decode cX4_hinders 29 = .ok (.aload_n 0, 1) := by decide +kernel
theorem dX4_hinders_30 : decode cX4_hinders 30 = .ok (.getfield 37, 3) := by decide +kernel
theorem dX4_hinders_33 : decode cX4_hinders 33 = .ok (.iload_n 3, 1) := by decide +kernel
theorem dX4_hinders_34 : decode cX4_hinders 34 = .ok (.iaload, 1) := by decide +kernel
theorem dX4_hinders_35 : decode cX4_hinders 35 = .ok (.iconst (-1), 1) := by decide +kernel
theorem dX4_hinders_36 : decode cX4_hinders 36 = .ok (.if_icmp .eq 16, 3) := by decide +kernel
theorem dX4_hinders_39 : decode cX4_hinders 39 = .ok (.aload_n 0, 1) := by decide +kernel
theorem dX4_hinders_40 : decode cX4_hinders 40 = .ok (.getfield 37, 3) := by decide +kernel
theorem dX4_hinders_43 : decode cX4_hinders 43 = .ok (.iload_n 3, 1) := by decide +kernel
theorem dX4_hinders_44 : decode cX4_hinders 44 = .ok (.iaload, 1) := by decide +kernel
theorem dX4_hinders_45 : decode cX4_hinders 45 = .ok (.iload 4, 2) := by decide +kernel
theorem dX4_hinders_47 : decode cX4_hinders 47 = .ok (.iadd, 1) := by decide +kernel
theorem dX4_hinders_48 : decode cX4_hinders 48 = .ok (.iload_n 2, 1) := by decide +kernel
theorem dX4_hinders_49 : decode cX4_hinders 49 = .ok (.if_icmp .le 5, 3) := by decide +kernel
theorem dX4_hinders_52 : decode cX4_hinders 52 = .ok (.iconst 1, 1) := by decide +kernel
theorem dX4_hinders_53 : decode cX4_hinders 53 = .ok (.ireturn, 1) := by decide +kernel
theorem dX4_hinders_54 : decode cX4_hinders 54 = .ok (.iinc 3 1, 3) := by decide +kernel
theorem dX4_hinders_57 : decode cX4_hinders 57 = .ok (.goto (-55), 3) := by decide +kernel
theorem dX4_hinders_60 : decode cX4_hinders 60 = .ok (.iconst 0, 1) := by decide +kernel
theorem dX4_hinders_61 : decode cX4_hinders 61 = .ok (.istore_n 3, 1) := by decide +kernel
theorem dX4_hinders_62 : decode cX4_hinders 62 = .ok (.iload_n 3, 1) := by decide +kernel
theorem dX4_hinders_63 : decode cX4_hinders 63 = .ok (.aload_n 0, 1) := by decide +kernel
theorem dX4_hinders_64 : decode cX4_hinders 64 = .ok (.getfield 67, 3) := by decide +kernel
theorem dX4_hinders_67 : decode cX4_hinders 67 = .ok (.if_icmp .ge 56, 3) := by decide +kernel
theorem dX4_hinders_70 : decode cX4_hinders 70 = .ok (.aload_n 0, 1) := by decide +kernel
theorem dX4_hinders_71 : decode cX4_hinders 71 = .ok (.getfield 21, 3) := by decide +kernel
theorem dX4_hinders_74 : decode cX4_hinders 74 = .ok (.iload_n 1, 1) := by decide +kernel
theorem dX4_hinders_75 : decode cX4_hinders 75 = .ok (.iaload, 1) := by decide +kernel
theorem dX4_hinders_76 : decode cX4_hinders 76 = .ok (.ifCond .ne 47, 3) := by decide +kernel
theorem dX4_hinders_79 : decode cX4_hinders 79 = .ok (.aload_n 0, 1) := by decide +kernel
theorem dX4_hinders_80 : decode cX4_hinders 80 = .ok (.iload_n 1, 1) := by decide +kernel
theorem dX4_hinders_81 : decode cX4_hinders 81 = .ok (.iload_n 3, 1) := by decide +kernel
theorem dX4_hinders_82 : decode cX4_hinders 82 = .ok (.invokevirtual 108, 3) := by decide +kernel
theorem dX4_hinders_85 : decode cX4_hinders 85 = .ok (.ifCond .eq 32, 3) := by decide +kernel
theorem dX4_hinders_88 : decode cX4_hinders 88 = .ok (.aload_n 0, 1) := by decide +kernel
theorem dX4_hinders_89 : decode cX4_hinders 89 = .ok (.iload_n 3, 1) := by decide +kernel
theorem dX4_hinders_90 : decode cX4_hinders 90 = .ok (.iload_n 2, 1) := by decide +kernel
theorem dX4_hinders_91 : decode cX4_hinders 91 = .ok (.invokevirtual 99, 3) := by decide +kernel
theorem dX4_hinders_94 : decode cX4_hinders 94 = .ok (.ifCond .eq 21, 3) := by decide +kernel
theorem dX4_hinders_97 : decode cX4_hinders 97 = .ok (.aload_n 0, 1) := by decide +kernel
theorem dX4_hinders_98 : decode cX4_hinders 98 = .ok (.aload_n 0, 1) := by decide +kernel
theorem dX4_hinders_99 : decode cX4_hinders 99 = .ok (.getfield 37, 3) := by decide +kernel
theorem dX4_hinders_102 : decode cX4_hinders 102 = .ok (.iload_n 3, 1) := by decide +kernel
theorem dX4_hinders_103 : decode cX4_hinders 103 = .ok (.iaload, 1) := by decide +kernel
theorem dX4_hinders_104 : decode cX4_hinders 104 = .ok (.iload_n 2, 1) := by decide +kernel
theorem dX4_hinders_105 : decode cX4_hinders 105 = .ok (.invokevirtual 95, 3) := by decide +kernel
theorem dX4_hinders_108 : decode cX4_hinders 108 = .ok (.aload_n 0, 1) := by decide +kernel
theorem dX4_hinders_109 : decode cX4_hinders 109 = .ok (.getfield 18, 3) := by decide +kernel
theorem dX4_hinders_112 : decode cX4_hinders 112 = .ok (.if_icmp .ge 5, 3) := by decide +kernel
theorem dX4_hinders_115 : decode cX4_hinders 115 = .ok (.iconst 2, 1) := by decide +kernel
theorem dX4_hinders_116 : decode cX4_hinders 116 = .ok (.ireturn, 1) := by decide +kernel
theorem dX4_hinders_117 : decode cX4_hinders 117 = .ok (.iinc 3 1, 3) := by decide +kernel
theorem dX4_hinders_120 : decode cX4_hinders 120 = .ok (.goto (-58), 3) := by decide +kernel
theorem dX4_hinders_123 : decode cX4_hinders 123 = .ok (.aload_n 0, 1) := by decide +kernel
theorem dX4_hinders_124 : decode cX4_hinders 124 = .ok (.aload_n 0, 1) := by decide +kernel
theorem dX4_hinders_125 : decode cX4_hinders 125 = .ok (.getfield 31, 3) := by decide +kernel
theorem dX4_hinders_128 : decode cX4_hinders 128 = .ok (.iload_n 1, 1) := by decide +kernel
theorem dX4_hinders_129 : decode cX4_hinders 129 = .ok (.iaload, 1) := by decide +kernel
theorem dX4_hinders_130 : decode cX4_hinders 130 = .ok (.iload_n 2, 1) := by decide +kernel
theorem dX4_hinders_131 : decode cX4_hinders 131 = .ok (.iload_n 1, 1) := by decide +kernel
theorem dX4_hinders_132 : decode cX4_hinders 132 = .ok (.invokevirtual 111, 3) := by decide +kernel
theorem dX4_hinders_135 : decode cX4_hinders 135 = .ok (.aload_n 0, 1) := by decide +kernel
theorem dX4_hinders_136 : decode cX4_hinders 136 = .ok (.getfield 34, 3) := by decide +kernel
theorem dX4_hinders_139 : decode cX4_hinders 139 = .ok (.iload_n 1, 1) := by decide +kernel
theorem dX4_hinders_140 : decode cX4_hinders 140 = .ok (.iaload, 1) := by decide +kernel
theorem dX4_hinders_141 : decode cX4_hinders 141 = .ok (.if_icmp .ge 5, 3) := by decide +kernel
theorem dX4_hinders_144 : decode cX4_hinders 144 = .ok (.iconst 3, 1) := by decide +kernel
theorem dX4_hinders_145 : decode cX4_hinders 145 = .ok (.ireturn, 1) := by decide +kernel
theorem dX4_hinders_146 : decode cX4_hinders 146 = .ok (.aload_n 0, 1) := by decide +kernel
theorem dX4_hinders_147 : decode cX4_hinders 147 = .ok (.iload_n 2, 1) := by decide +kernel
theorem dX4_hinders_148 : decode cX4_hinders 148 = .ok (.iload_n 1, 1) := by decide +kernel
theorem dX4_hinders_149 : decode cX4_hinders 149 = .ok (.invokevirtual 115, 3) := by decide +kernel
theorem dX4_hinders_152 : decode cX4_hinders 152 = .ok (.aload_n 0, 1) := by decide +kernel
theorem dX4_hinders_153 : decode cX4_hinders 153 = .ok (.getfield 28, 3) := by decide +kernel
theorem dX4_hinders_156 : decode cX4_hinders 156 = .ok (.iload_n 1, 1) := by decide +kernel
theorem dX4_hinders_157 : decode cX4_hinders 157 = .ok (.iaload, 1) := by decide +kernel
theorem dX4_hinders_158 : decode cX4_hinders 158 = .ok (.iadd, 1) := by decide +kernel
theorem dX4_hinders_159 : decode cX4_hinders 159 = .ok (.aload_n 0, 1) := by decide +kernel
theorem dX4_hinders_160 : decode cX4_hinders 160 = .ok (.getfield 9, 3) := by decide +kernel
theorem dX4_hinders_163 : decode cX4_hinders 163 = .ok (.if_icmp .le 7, 3) := by decide +kernel
theorem dX4_hinders_166 : decode cX4_hinders 166 = .ok (.iconst 4, 1) := by decide +kernel
theorem dX4_hinders_167 : decode cX4_hinders 167 = .ok (.goto 4, 3) := by decide +kernel
theorem dX4_hinders_170 : decode cX4_hinders 170 = .ok (.iconst 0, 1) := by decide +kernel
theorem dX4_hinders_171 : decode cX4_hinders 171 = .ok (.ireturn, 1) := by decide +kernel
set_option maxRecDepth 20000 in
theorem ggX4_plans_X4_hinders : GoodIn wsX4_plans wsX4_hinders := goodIn_r _ [8, 1, 9, 2, 10, 11, 12, 13, 14, 15, 16, 17, 18, 7, 19, 20, 21, 22, 23, 24, 25, 26, 27, 28, 29, 30, 31, 32, 33, 34, 35, 36, 37, 38, 39, 40, 41, 42, 43, 44, 45, 46, 47, 48, 49, 50, 51, 52, 53, 54, 55, 56, 57, 58, 59, 60, 61, 62, 63, 64, 65, 66, 67, 68, 69, 70, 71, 72, 73, 74, 75, 76, 77, 78, 79, 80] (by decide +kernel) (by decide +kernel)
set_option maxRecDepth 20000 in
theorem gX4_plans_X4_hinders : GoodIn wsX4_plans (wsV RX4 121 RX4 yX4_hinders wsX4_hinders) := goodIn_app (goodIn_of _ (by decide +kernel)) ggX4_plans_X4_hinders
set_option maxRecDepth 20000 in
theorem ggX4_plans_X4_stripped : GoodIn wsX4_plans wsX4_stripped := goodIn_r _ [50, 51, 25, 26, 27, 7, 28, 29, 30, 31, 32, 33, 34, 35, 36, 37, 56, 57, 58, 59, 60, 61, 62, 63, 64, 65, 66, 67, 68, 69, 70, 71, 72, 73, 74, 75, 76, 77, 78, 79, 80] (by decide +kernel) (by decide +kernel)
set_option maxRecDepth 20000 in
theorem gX4_plans_X4_stripped : GoodIn wsX4_plans (wsV RX4 102 RX4 yX4_stripped wsX4_stripped) := goodIn_app (goodIn_of _ (by decide +kernel)) ggX4_plans_X4_stripped
theorem dX4_plans_0 : decode cX4_plans 0 = .ok (.iconst 0, 1) := by decide +kernel
theorem dX4_plans_1 : decode cX4_plans 1 = .ok (.istore_n 2, 1) := by decide +kernel
theorem dX4_plans_2 : decode cX4_plans 2 = .ok (.iload_n 2, 1) := by decide +kernel
theorem dX4_plans_3 : decode cX4_plans 3 = .ok (.aload_n 0, 1) := by decide +kernel
theorem dX4_plans_4 : decode cX4_plans 4 = .ok (.getfield 67, 3) := by decide +kernel
theorem dX4_plans_7 : decode cX4_plans 7 = .ok (.if_icmp .ge 29, 3) := by decide +kernel
theorem dX4_plans_10 : decode cX4_plans 10 = .ok (.aload_n 0, 1) := by decide +kernel
theorem dX4_plans_11 : decode cX4_plans 11 = .ok (.getfield 37, 3) := by decide +kernel
theorem dX4_plans_14 : decode cX4_plans 14 = .ok (.iload_n 2, 1) := by decide +kernel
theorem dX4_plans_15 : decode cX4_plans 15 = .ok (.iaload, 1) := by decide +kernel
theorem dX4_plans_16 : decode cX4_plans 16 = .ok (.aload_n 0, 1) := by decide +kernel
theorem dX4_plans_17 : decode cX4_plans 17 = .ok (.getfield 118, 3) := by decide +kernel
theorem dX4_plans_20 : decode cX4_plans 20 = .ok (.if_icmp .lt 10, 3) := by decide +kernel
theorem dX4_plans_23 : decode cX4_plans 23 = .ok (.aload_n 0, 1) := by decide +kernel
theorem dX4_plans_24 : decode cX4_plans 24 = .ok (.getfield 37, 3) := by decide +kernel
theorem dX4_plans_27 : decode cX4_plans 27 = .ok (.iload_n 2, 1) := by decide +kernel
theorem dX4_plans_28 : decode cX4_plans 28 = .ok (.iconst (-1), 1) := by decide +kernel
theorem dX4_plans_29 : decode cX4_plans 29 = .ok (.iastore, 1) := by decide +kernel
theorem dX4_plans_30 : decode cX4_plans 30 = .ok (.iinc 2 1, 3) := by decide +kernel
theorem dX4_plans_33 : decode cX4_plans 33 = .ok (.goto (-31), 3) := by decide +kernel
theorem dX4_plans_36 : decode cX4_plans 36 = .ok (.aload_n 0, 1) := by decide +kernel
theorem dX4_plans_37 : decode cX4_plans 37 = .ok (.getfield 118, 3) := by decide +kernel
theorem dX4_plans_40 : decode cX4_plans 40 = .ok (.istore_n 2, 1) := by decide +kernel
theorem dX4_plans_41 : decode cX4_plans 41 = .ok (.iload_n 2, 1) := by decide +kernel
theorem dX4_plans_42 : decode cX4_plans 42 = .ok (.bipush 40, 2) := by decide +kernel
theorem dX4_plans_44 : decode cX4_plans 44 = .ok (.if_icmp .ge 59, 3) := by decide +kernel
theorem dX4_plans_47 : decode cX4_plans 47 = .ok (.iconst 0, 1) := by decide +kernel
theorem dX4_plans_48 : decode cX4_plans 48 = .ok (.istore_n 3, 1) := by decide +kernel
theorem dX4_plans_49 : decode cX4_plans 49 = .ok (.iload_n 3, 1) := by decide +kernel
theorem dX4_plans_50 : decode cX4_plans 50 = .ok (.aload_n 0, 1) := by decide +kernel
theorem dX4_plans_51 : decode cX4_plans 51 = .ok (.getfield 67, 3) := by decide +kernel
theorem dX4_plans_54 : decode cX4_plans 54 = .ok (.if_icmp .ge 43, 3) := by decide +kernel
theorem dX4_plans_57 : decode cX4_plans 57 = .ok (.aload_n 1, 1) := by decide +kernel
theorem dX4_plans_58 : decode cX4_plans 58 = .ok (.iload_n 3, 1) := by decide +kernel
theorem dX4_plans_59 : decode cX4_plans 59 = .ok (.iaload, 1) := by decide +kernel
theorem dX4_plans_60 : decode cX4_plans 60 = .ok (.istore 4, 2) := by decide +kernel
theorem dX4_plans_62 : decode cX4_plans 62 = .ok (.aload_n 0, 1) := by decide +kernel
theorem dX4_plans_63 : decode cX4_plans 63 = .ok (.getfield 37, 3) := by decide +kernel
theorem dX4_plans_66 : decode cX4_plans 66 = .ok (.iload 4, 2) := by decide +kernel
theorem dX4_plans_68 : decode cX4_plans 68 = .ok (.iaload, 1) := by decide +kernel
theorem dX4_plans_69 : decode cX4_plans 69 = .ok (.iconst (-1), 1) := by decide +kernel
theorem dX4_plans_70 : decode cX4_plans 70 = .ok (.if_icmp .ne 21, 3) := by decide +kernel
theorem dX4_plans_73 : decode cX4_plans 73 = .ok (.aload_n 0, 1) := by decide +kernel
theorem dX4_plans_74 : decode cX4_plans 74 = .ok (.iload 4, 2) := by decide +kernel
theorem dX4_plans_76 : decode cX4_plans 76 = .ok (.iload_n 2, 1) := by decide +kernel
theorem dX4_plans_77 : decode cX4_plans 77 = .ok (.invokevirtual 121, 3) := by decide +kernel
theorem dX4_plans_80 : decode cX4_plans 80 = .ok (.ifCond .ne 11, 3) := by decide +kernel
theorem dX4_plans_83 : decode cX4_plans 83 = .ok (.aload_n 0, 1) := by decide +kernel
theorem dX4_plans_84 : decode cX4_plans 84 = .ok (.getfield 37, 3) := by decide +kernel
theorem dX4_plans_87 : decode cX4_plans 87 = .ok (.iload 4, 2) := by decide +kernel
theorem dX4_plans_89 : decode cX4_plans 89 = .ok (.iload_n 2, 1) := by decide +kernel
theorem dX4_plans_90 : decode cX4_plans 90 = .ok (.iastore, 1) := by decide +kernel
theorem dX4_plans_91 : decode cX4_plans 91 = .ok (.iinc 3 1, 3) := by decide +kernel
theorem dX4_plans_94 : decode cX4_plans 94 = .ok (.goto (-45), 3) := by decide +kernel
theorem dX4_plans_97 : decode cX4_plans 97 = .ok (.iinc 2 1, 3) := by decide +kernel
theorem dX4_plans_100 : decode cX4_plans 100 = .ok (.goto (-59), 3) := by decide +kernel
theorem dX4_plans_103 : decode cX4_plans 103 = .ok (.iconst 0, 1) := by decide +kernel
theorem dX4_plans_104 : decode cX4_plans 104 = .ok (.istore_n 2, 1) := by decide +kernel
theorem dX4_plans_105 : decode cX4_plans 105 = .ok (.iconst 0, 1) := by decide +kernel
theorem dX4_plans_106 : decode cX4_plans 106 = .ok (.istore_n 3, 1) := by decide +kernel
theorem dX4_plans_107 : decode cX4_plans 107 = .ok (.iload_n 3, 1) := by decide +kernel
theorem dX4_plans_108 : decode cX4_plans 108 = .ok (.aload_n 0, 1) := by decide +kernel
theorem dX4_plans_109 : decode cX4_plans 109 = .ok (.getfield 67, 3) := by decide +kernel
theorem dX4_plans_112 : decode cX4_plans 112 = .ok (.if_icmp .ge 45, 3) := by decide +kernel
theorem dX4_plans_115 : decode cX4_plans 115 = .ok (.aload_n 0, 1) := by decide +kernel
theorem dX4_plans_116 : decode cX4_plans 116 = .ok (.getfield 37, 3) := by decide +kernel
theorem dX4_plans_119 : decode cX4_plans 119 = .ok (.iload_n 3, 1) := by decide +kernel
theorem dX4_plans_120 : decode cX4_plans 120 = .ok (.iaload, 1) := by decide +kernel
theorem dX4_plans_121 : decode cX4_plans 121 = .ok (.iconst (-1), 1) := by decide +kernel
theorem dX4_plans_122 : decode cX4_plans 122 = .ok (.if_icmp .ne 8, 3) := by decide +kernel
theorem dX4_plans_125 : decode cX4_plans 125 = .ok (.bipush 40, 2) := by decide +kernel
theorem dX4_plans_127 : decode cX4_plans 127 = .ok (.goto 13, 3) := by decide +kernel
theorem dX4_plans_130 : decode cX4_plans 130 = .ok (.aload_n 0, 1) := by decide +kernel
theorem dX4_plans_131 : decode cX4_plans 131 = .ok (.aload_n 0, 1) := by decide +kernel
theorem dX4_plans_132 : decode cX4_plans 132 = .ok (.getfield 37, 3) := by decide +kernel
theorem dX4_plans_135 : decode cX4_plans 135 = .ok (.iload_n 3, 1) := by decide +kernel
theorem dX4_plans_136 : decode cX4_plans 136 = .ok (.iaload, 1) := by decide +kernel
theorem dX4_plans_137 : decode cX4_plans 137 = .ok (.invokevirtual 102, 3) := by decide +kernel
theorem dX4_plans_140 : decode cX4_plans 140 = .ok (.istore 4, 2) := by decide +kernel
theorem dX4_plans_142 : decode cX4_plans 142 = .ok (.iload 4, 2) := by decide +kernel
theorem dX4_plans_144 : decode cX4_plans 144 = .ok (.iload_n 2, 1) := by decide +kernel
theorem dX4_plans_145 : decode cX4_plans 145 = .ok (.if_icmp .le 6, 3) := by decide +kernel
theorem dX4_plans_148 : decode cX4_plans 148 = .ok (.iload 4, 2) := by decide +kernel
theorem dX4_plans_150 : decode cX4_plans 150 = .ok (.istore_n 2, 1) := by decide +kernel
theorem dX4_plans_151 : decode cX4_plans 151 = .ok (.iinc 3 1, 3) := by decide +kernel
theorem dX4_plans_154 : decode cX4_plans 154 = .ok (.goto (-47), 3) := by decide +kernel
theorem dX4_plans_157 : decode cX4_plans 157 = .ok (.iload_n 2, 1) := by decide +kernel
theorem dX4_plans_158 : decode cX4_plans 158 = .ok (.ireturn, 1) := by decide +kernel
set_option maxRecDepth 20000 in
theorem ggX4_plan_X4_plans : GoodIn wsX4_plan wsX4_plans := goodIn_r _ [7, 8, 9, 10, 11, 12, 13, 6, 14, 15, 16, 17, 18, 19, 20, 21, 22, 23, 24, 25, 26, 27, 28, 29, 30, 31, 32, 33, 34, 35, 36, 37, 38, 39, 40, 41, 42, 43, 44, 45, 46, 47, 48, 49, 50, 51, 52, 53, 54, 55, 56, 57, 58, 59, 60, 61, 62, 63, 64, 65, 66, 67, 68, 69, 70, 71, 72, 73, 74, 75, 76, 77, 78, 79, 80, 81, 82, 83, 84, 85, 86] (by decide +kernel) (by decide +kernel)
set_option maxRecDepth 20000 in
theorem gX4_plan_X4_plans : GoodIn wsX4_plan (wsV RX4 124 RX4 yX4_plans wsX4_plans) := goodIn_app (goodIn_of _ (by decide +kernel)) ggX4_plan_X4_plans
theorem dX4_plan_0 : decode cX4_plan 0 = .ok (.aload_n 0, 1) := by decide +kernel
theorem dX4_plan_1 : decode cX4_plan 1 = .ok (.aload_n 0, 1) := by decide +kernel
theorem dX4_plan_2 : decode cX4_plan 2 = .ok (.aload_n 0, 1) := by decide +kernel
theorem dX4_plan_3 : decode cX4_plan 3 = .ok (.getfield 43, 3) := by decide +kernel
theorem dX4_plan_6 : decode cX4_plan 6 = .ok (.invokevirtual 124, 3) := by decide +kernel
theorem dX4_plan_9 : decode cX4_plan 9 = .ok (.putfield 128, 3) := by decide +kernel
theorem dX4_plan_12 : decode cX4_plan 12 = .ok (.aload_n 0, 1) := by decide +kernel
theorem dX4_plan_13 : decode cX4_plan 13 = .ok (.getfield 128, 3) := by decide +kernel
theorem dX4_plan_16 : decode cX4_plan 16 = .ok (.ireturn, 1) := by decide +kernel
set_option maxRecDepth 20000 in
theorem ggX4_order_X4_isPiece : GoodIn wsX4_order wsX4_isPiece := goodIn_r _ [7, 1, 8, 9, 10, 11, 12, 13, 14, 15, 16, 17, 18, 19, 20, 21, 22, 23, 24, 25, 26, 27, 28, 29, 30, 31, 32] (by decide +kernel) (by decide +kernel)
set_option maxRecDepth 20000 in
theorem gX4_order_X4_isPiece : GoodIn wsX4_order (wsV RX4 70 RX4 yX4_isPiece wsX4_isPiece) := goodIn_app (goodIn_of _ (by decide +kernel)) ggX4_order_X4_isPiece
theorem dX4_order_0 : decode cX4_order 0 = .ok (.aload_n 0, 1) := by decide +kernel
theorem dX4_order_1 : decode cX4_order 1 = .ok (.iload_n 1, 1) := by decide +kernel
theorem dX4_order_2 : decode cX4_order 2 = .ok (.invokevirtual 70, 3) := by decide +kernel
theorem dX4_order_5 : decode cX4_order 5 = .ok (.ifCond .eq 15, 3) := by decide +kernel
theorem dX4_order_8 : decode cX4_order 8 = .ok (.iload_n 2, 1) := by decide +kernel
theorem dX4_order_9 : decode cX4_order 9 = .ok (.ifCond .lt 11, 3) := by decide +kernel
theorem dX4_order_12 : decode cX4_order 12 = .ok (.iload_n 2, 1) := by decide +kernel
theorem dX4_order_13 : decode cX4_order 13 = .ok (.aload_n 0, 1) := by decide +kernel
theorem dX4_order_14 : decode cX4_order 14 = .ok (.getfield 67, 3) := by decide +kernel
theorem dX4_order_17 : decode cX4_order 17 = .ok (.if_icmp .lt 5, 3) := by decide +kernel
theorem dX4_order_20 : decode cX4_order 20 = .ok (.iconst (-1), 1) := by decide +kernel
theorem dX4_order_21 : decode cX4_order 21 = .ok (.ireturn, 1) := by decide +kernel
theorem dX4_order_22 : decode cX4_order 22 = .ok (.iconst 0, 1) := by decide +kernel
theorem dX4_order_23 : decode cX4_order 23 = .ok (.istore_n 3, 1) := by decide +kernel
theorem dX4_order_24 : decode cX4_order 24 = .ok (.aload_n 0, 1) := by decide +kernel
theorem dX4_order_25 : decode cX4_order 25 = .ok (.getfield 43, 3) := by decide +kernel
theorem dX4_order_28 : decode cX4_order 28 = .ok (.iload_n 3, 1) := by decide +kernel
theorem dX4_order_29 : decode cX4_order 29 = .ok (.iaload, 1) := by decide +kernel
theorem dX4_order_30 : decode cX4_order 30 = .ok (.iload_n 1, 1) := by decide +kernel
theorem dX4_order_31 : decode cX4_order 31 = .ok (.if_icmp .eq 9, 3) := by decide +kernel
theorem dX4_order_34 : decode cX4_order 34 = .ok (.iinc 3 1, 3) := by decide +kernel
theorem dX4_order_37 : decode cX4_order 37 = .ok (.goto (-13), 3) := by decide +kernel
theorem dX4_order_40 : decode cX4_order 40 = .ok (.iload_n 3, 1) := by decide +kernel
theorem dX4_order_41 : decode cX4_order 41 = .ok (.istore 4, 2) := by decide +kernel
theorem dX4_order_43 : decode cX4_order 43 = .ok (.iload 4, 2) := by decide +kernel
theorem dX4_order_45 : decode cX4_order 45 = .ok (.iconst 1, 1) := by decide +kernel
theorem dX4_order_46 : decode cX4_order 46 = .ok (.iadd, 1) := by decide +kernel
theorem dX4_order_47 : decode cX4_order 47 = .ok (.aload_n 0, 1) := by decide +kernel
theorem dX4_order_48 : decode cX4_order 48 = .ok (.getfield 67, 3) := by decide +kernel
theorem dX4_order_51 : decode cX4_order 51 = .ok (.if_icmp .ge 25, 3) := by decide +kernel
theorem dX4_order_54 : decode cX4_order 54 = .ok (.aload_n 0, 1) := by decide +kernel
theorem dX4_order_55 : decode cX4_order 55 = .ok (.getfield 43, 3) := by decide +kernel
theorem dX4_order_58 : decode cX4_order 58 = .ok (.iload 4, 2) := by decide +kernel
theorem dX4_order_60 : decode cX4_order 60 = .ok (.aload_n 0, 1) := by decide +kernel
theorem dX4_order_61 : decode cX4_order 61 = .ok (.getfield 43, 3) := by decide +kernel
theorem dX4_order_64 : decode cX4_order 64 = .ok (.iload 4, 2) := by decide +kernel
theorem dX4_order_66 : decode cX4_order 66 = .ok (.iconst 1, 1) := by decide +kernel
theorem dX4_order_67 : decode cX4_order 67 = .ok (.iadd, 1) := by decide +kernel
theorem dX4_order_68 : decode cX4_order 68 = .ok (.iaload, 1) := by decide +kernel
theorem dX4_order_69 : decode cX4_order 69 = .ok (.iastore, 1) := by decide +kernel
theorem dX4_order_70 : decode cX4_order 70 = .ok (.iinc 4 1, 3) := by decide +kernel
theorem dX4_order_73 : decode cX4_order 73 = .ok (.goto (-30), 3) := by decide +kernel
theorem dX4_order_76 : decode cX4_order 76 = .ok (.aload_n 0, 1) := by decide +kernel
theorem dX4_order_77 : decode cX4_order 77 = .ok (.getfield 67, 3) := by decide +kernel
theorem dX4_order_80 : decode cX4_order 80 = .ok (.iconst 1, 1) := by decide +kernel
theorem dX4_order_81 : decode cX4_order 81 = .ok (.isub, 1) := by decide +kernel
theorem dX4_order_82 : decode cX4_order 82 = .ok (.istore 4, 2) := by decide +kernel
theorem dX4_order_84 : decode cX4_order 84 = .ok (.iload 4, 2) := by decide +kernel
theorem dX4_order_86 : decode cX4_order 86 = .ok (.iload_n 2, 1) := by decide +kernel
theorem dX4_order_87 : decode cX4_order 87 = .ok (.if_icmp .le 25, 3) := by decide +kernel
theorem dX4_order_90 : decode cX4_order 90 = .ok (.aload_n 0, 1) := by decide +kernel
theorem dX4_order_91 : decode cX4_order 91 = .ok (.getfield 43, 3) := by decide +kernel
theorem dX4_order_94 : decode cX4_order 94 = .ok (.iload 4, 2) := by decide +kernel
theorem dX4_order_96 : decode cX4_order 96 = .ok (.aload_n 0, 1) := by decide +kernel
theorem dX4_order_97 : decode cX4_order 97 = .ok (.getfield 43, 3) := by decide +kernel
theorem dX4_order_100 : decode cX4_order 100 = .ok (.iload 4, 2) := by decide +kernel
theorem dX4_order_102 : decode cX4_order 102 = .ok (.iconst 1, 1) := by decide +kernel
theorem dX4_order_103 : decode cX4_order 103 = .ok (.isub, 1) := by decide +kernel
theorem dX4_order_104 : decode cX4_order 104 = .ok (.iaload, 1) := by decide +kernel
theorem dX4_order_105 : decode cX4_order 105 = .ok (.iastore, 1) := by decide +kernel
theorem dX4_order_106 : decode cX4_order 106 = .ok (.iinc 4 (-1), 3) := by decide +kernel
theorem dX4_order_109 : decode cX4_order 109 = .ok (.goto (-25), 3) := by decide +kernel
theorem dX4_order_112 : decode cX4_order 112 = .ok (.aload_n 0, 1) := by decide +kernel
theorem dX4_order_113 : decode cX4_order 113 = .ok (.getfield 43, 3) := by decide +kernel
theorem dX4_order_116 : decode cX4_order 116 = .ok (.iload_n 2, 1) := by decide +kernel
theorem dX4_order_117 : decode cX4_order 117 = .ok (.iload_n 1, 1) := by decide +kernel
theorem dX4_order_118 : decode cX4_order 118 = .ok (.iastore, 1) := by decide +kernel
theorem dX4_order_119 : decode cX4_order 119 = .ok (.iload_n 3, 1) := by decide +kernel
theorem dX4_order_120 : decode cX4_order 120 = .ok (.ireturn, 1) := by decide +kernel
set_option maxRecDepth 20000 in
theorem ggX4_best_X4_plans : GoodIn wsX4_best wsX4_plans := goodIn_r _ [9, 1, 10, 11, 12, 13, 14, 8, 15, 16, 17, 18, 19, 20, 21, 22, 23, 24, 25, 26, 27, 28, 29, 30, 31, 32, 33, 34, 35, 36, 37, 38, 39, 40, 41, 42, 43, 44, 45, 46, 47, 48, 49, 50, 51, 52, 53, 54, 55, 56, 57, 58, 59, 60, 61, 62, 68, 69, 70, 71, 72, 73, 74, 75, 76, 77, 78, 79, 80, 81, 82, 83, 84, 85, 86, 87, 88, 89, 90, 91, 92] (by decide +kernel) (by decide +kernel)
set_option maxRecDepth 20000 in
theorem gX4_best_X4_plans : GoodIn wsX4_best (wsV RX4 124 RX4 yX4_plans wsX4_plans) := goodIn_app (goodIn_of _ (by decide +kernel)) ggX4_best_X4_plans
set_option maxRecDepth 20000 in
theorem ggX4_best_X4_plan : GoodIn wsX4_best wsX4_plan := goodIn_r _ [66, 4, 67, 5, 6, 7, 8, 9, 1, 10, 11, 12, 13, 14, 15, 16, 17, 18, 19, 20, 21, 22, 23, 24, 25, 26, 27, 28, 29, 30, 31, 32, 33, 34, 35, 36, 37, 38, 39, 40, 41, 42, 43, 44, 45, 46, 47, 48, 49, 50, 51, 52, 53, 54, 55, 56, 57, 58, 59, 60, 61, 62, 68, 69, 70, 71, 72, 73, 74, 75, 76, 77, 78, 79, 80, 81, 82, 83, 84, 85, 86, 87, 88, 89, 90, 91, 92] (by decide +kernel) (by decide +kernel)
set_option maxRecDepth 20000 in
theorem gX4_best_X4_plan : GoodIn wsX4_best (wsV RX4 131 RX4 yX4_plan wsX4_plan) := goodIn_app (goodIn_of _ (by decide +kernel)) ggX4_best_X4_plan
theorem dX4_best_0 : decode cX4_best 0 = .ok (.aload_n 0, 1) := by decide +kernel
theorem dX4_best_1 : decode cX4_best 1 = .ok (.getfield 67, 3) := by decide +kernel
theorem dX4_best_4 : decode cX4_best 4 = .ok (.ifCond .eq 11, 3) := by decide +kernel
theorem dX4_best_7 : decode cX4_best 7 = .ok (.aload_n 0, 1) := by decide +kernel
theorem dX4_best_8 : decode cX4_best 8 = .ok (.getfield 67, 3) := by decide +kernel
theorem dX4_best_11 : decode cX4_best 11 = .ok (.iconst 5, 1) := by decide +kernel
theorem dX4_best_12 : decode cX4_best 12 = .ok (.if_icmp .le 6, 3) := by decide +kernel
theorem dX4_best_15 : decode cX4_best 15 = .ok (.bipush (-3), 2) := by decide +kernel
theorem dX4_best_17 : decode cX4_best 17 = .ok (.ireturn, 1) := by decide +kernel
theorem dX4_best_18 : decode cX4_best 18 = .ok (.bipush 41, 2) := by decide +kernel
theorem dX4_best_20 : decode cX4_best 20 = .ok (.istore_n 1, 1) := by decide +kernel
theorem dX4_best_21 : decode cX4_best 21 = .ok (.iconst 1, 1) := by decide +kernel
theorem dX4_best_22 : decode cX4_best 22 = .ok (.istore_n 2, 1) := by decide +kernel
theorem dX4_best_23 : decode cX4_best 23 = .ok (.iconst 0, 1) := by decide +kernel
theorem dX4_best_24 : decode cX4_best 24 = .ok (.istore_n 3, 1) := by decide +kernel
theorem dX4_best_25 : decode cX4_best 25 = .ok (.iload_n 3, 1) := by decide +kernel
theorem dX4_best_26 : decode cX4_best 26 = .ok (.aload_n 0, 1) := by decide +kernel
theorem dX4_best_27 : decode cX4_best 27 = .ok (.getfield 67, 3) := by decide +kernel
theorem dX4_best_30 : decode cX4_best 30 = .ok (.if_icmp .ge 16, 3) := by decide +kernel
theorem dX4_best_33 : decode cX4_best 33 = .ok (.iload_n 2, 1) := by decide +kernel
theorem dX4_best_34 : decode cX4_best 34 = .ok (.aload_n 0, 1) := by decide +kernel
theorem dX4_best_35 : decode cX4_best 35 = .ok (.getfield 67, 3) := by decide +kernel
theorem dX4_best_38 : decode cX4_best 38 = .ok (.imul, 1) := by decide +kernel
theorem dX4_best_39 : decode cX4_best 39 = .ok (.istore_n 2, 1) := by decide +kernel
theorem dX4_best_40 : decode cX4_best 40 = .ok (.iinc 3 1, 3) := by decide +kernel
theorem dX4_best_43 : decode cX4_best 43 = .ok (.goto (-18), 3) := by decide +kernel
theorem dX4_best_46 : decode cX4_best 46 = .ok (.iconst 0, 1) := by decide +kernel
theorem dX4_best_47 : decode cX4_best 47 = .ok (.istore_n 3, 1) := by decide +kernel
theorem dX4_best_48 : decode cX4_best 48 = .ok (.iload_n 3, 1) := by decide +kernel
theorem dX4_best_49 : decode cX4_best 49 = .ok (.iload_n 2, 1) := by decide +kernel
theorem dX4_best_50 : decode cX4_best 50 = .ok (.if_icmp .ge 138, 3) := by decide +kernel
theorem dX4_best_53 : decode cX4_best 53 = .ok (.iload_n 3, 1) := by decide +kernel
theorem dX4_best_54 : decode cX4_best 54 = .ok (.istore 4, 2) := by decide +kernel
theorem dX4_best_56 : decode cX4_best 56 = .ok (.iconst 0, 1) := by decide +kernel
theorem dX4_best_57 : decode cX4_best 57 = .ok (.istore 5, 2) := by decide +kernel
theorem dX4_best_59 : decode cX4_best 59 = .ok (.aload_n 0, 1) := by decide +kernel
theorem dX4_best_60 : decode cX4_best 60 = .ok (.getfield 67, 3) := by decide +kernel
theorem dX4_best_63 : decode cX4_best 63 = .ok (.iconst 1, 1) := by decide +kernel
theorem dX4_best_64 : decode cX4_best 64 = .ok (.isub, 1) := by decide +kernel
theorem dX4_best_65 : decode cX4_best 65 = .ok (.istore 6, 2) := by decide +kernel
theorem dX4_best_67 : decode cX4_best 67 = .ok (.iload 6, 2) := by decide +kernel
theorem dX4_best_69 : decode cX4_best 69 = .ok (.ifCond .lt 46, 3) := by decide +kernel
theorem dX4_best_72 : decode cX4_best 72 = .ok (.aload_n 0, 1) := by decide +kernel
theorem dX4_best_73 : decode cX4_best 73 = .ok (.getfield 46, 3) := by decide +kernel
theorem dX4_best_76 : decode cX4_best 76 = .ok (.iload 6, 2) := by decide +kernel
theorem dX4_best_78 : decode cX4_best 78 = .ok (.iload 4, 2) := by decide +kernel
theorem dX4_best_80 : decode cX4_best 80 = .ok (.aload_n 0, 1) := by decide +kernel
theorem dX4_best_81 : decode cX4_best 81 = .ok (.getfield 67, 3) := by decide +kernel
theorem dX4_best_84 : decode cX4_best 84 = .ok (.irem, 1) := by decide +kernel
theorem dX4_best_85 : decode cX4_best 85 = .ok (.iastore, 1) := by decide +kernel
theorem dX4_best_86 : decode cX4_best 86 = .ok (.iload 5, 2) := by decide +kernel
theorem dX4_best_88 : decode cX4_best 88 = .ok (.iconst 1, 1) := by decide +kernel
theorem dX4_best_89 : decode cX4_best 89 = .ok (.aload_n 0, 1) := by decide +kernel
theorem dX4_best_90 : decode cX4_best 90 = .ok (.getfield 46, 3) := by decide +kernel
theorem dX4_best_93 : decode cX4_best 93 = .ok (.iload 6, 2) := by decide +kernel
theorem dX4_best_95 : decode cX4_best 95 = .ok (.iaload, 1) := by decide +kernel
theorem dX4_best_96 : decode cX4_best 96 = .ok (.ishl, 1) := by decide +kernel
theorem dX4_best_97 : decode cX4_best 97 = .ok (.ior, 1) := by decide +kernel
theorem dX4_best_98 : decode cX4_best 98 = .ok (.istore 5, 2) := by decide +kernel
theorem dX4_best_100 : decode cX4_best 100 = .ok (.iload 4, 2) := by decide +kernel
theorem dX4_best_102 : decode cX4_best 102 = .ok (.aload_n 0, 1) := by decide +kernel
theorem dX4_best_103 : decode cX4_best 103 = .ok (.getfield 67, 3) := by decide +kernel
theorem dX4_best_106 : decode cX4_best 106 = .ok (.idiv, 1) := by decide +kernel
theorem dX4_best_107 : decode cX4_best 107 = .ok (.istore 4, 2) := by decide +kernel
theorem dX4_best_109 : decode cX4_best 109 = .ok (.iinc 6 (-1), 3) := by decide +kernel
theorem dX4_best_112 : decode cX4_best 112 = .ok (.goto (-45), 3) := by decide +kernel
theorem dX4_best_115 : decode cX4_best 115 = .ok (.iload 5, 2) := by decide +kernel
theorem dX4_best_117 : decode cX4_best 117 = .ok (.iconst 1, 1) := by decide +kernel
theorem dX4_best_118 : decode cX4_best 118 = .ok (.aload_n 0, 1) := by decide +kernel
theorem dX4_best_119 : decode cX4_best 119 = .ok (.getfield 67, 3) := by decide +kernel
theorem dX4_best_122 : decode cX4_best 122 = .ok (.ishl, 1) := by decide +kernel
theorem dX4_best_123 : decode cX4_best 123 = .ok (.iconst 1, 1) := by decide +kernel
theorem dX4_best_124 : decode cX4_best 124 = .ok (.isub, 1) := by decide +kernel
theorem dX4_best_125 : decode cX4_best 125 = .ok (.if_icmp .eq 6, 3) := by decide +kernel
theorem dX4_best_128 : decode cX4_best 128 = .ok (.goto 54, 3) := by decide +kernel
theorem dX4_best_131 : decode cX4_best 131 = .ok (.aload_n 0, 1) := by decide +kernel
theorem dX4_best_132 : decode cX4_best 132 = .ok (.aload_n 0, 1) := by decide +kernel
theorem dX4_best_133 : decode cX4_best 133 = .ok (.getfield 46, 3) := by decide +kernel
theorem dX4_best_136 : decode cX4_best 136 = .ok (.invokevirtual 124, 3) := by decide +kernel
theorem dX4_best_139 : decode cX4_best 139 = .ok (.istore 6, 2) := by decide +kernel
theorem dX4_best_141 : decode cX4_best 141 = .ok (.iload 6, 2) := by decide +kernel
theorem dX4_best_143 : decode cX4_best 143 = .ok (.iload_n 1, 1) := by decide +kernel
theorem dX4_best_144 : decode cX4_best 144 = .ok (.if_icmp .ge 38, 3) := by decide +kernel
theorem dX4_best_147 : decode cX4_best 147 = .ok (.iload 6, 2) := by decide +kernel
theorem dX4_best_149 : decode cX4_best 149 = .ok (.istore_n 1, 1) := by decide +kernel
theorem dX4_best_150 : decode cX4_best 150 = .ok (.iconst 0, 1) := by decide +kernel
theorem dX4_best_151 : decode cX4_best 151 = .ok (.istore 7, 2) := by decide +kernel
theorem dX4_best_153 : decode cX4_best 153 = .ok (.iload 7, 2) := by decide +kernel
theorem dX4_best_155 : decode cX4_best 155 = .ok (.aload_n 0, 1) := by decide +kernel
theorem dX4_best_156 : decode cX4_best 156 = .ok (.getfield 67, 3) := by decide +kernel
theorem dX4_best_159 : decode cX4_best 159 = .ok (.if_icmp .ge 23, 3) := by decide +kernel
theorem dX4_best_162 : decode cX4_best 162 = .ok (.aload_n 0, 1) := by decide +kernel
theorem dX4_best_163 : decode cX4_best 163 = .ok (.getfield 49, 3) := by decide +kernel
theorem dX4_best_166 : decode cX4_best 166 = .ok (.iload 7, 2) := by decide +kernel
theorem dX4_best_168 : decode cX4_best 168 = .ok (.aload_n 0, 1) := by decide +kernel
theorem dX4_best_169 : decode cX4_best 169 = .ok (.getfield 46, 3) := by decide +kernel
theorem dX4_best_172 : decode cX4_best 172 = .ok (.iload 7, 2) := by decide +kernel
theorem dX4_best_174 : decode cX4_best 174 = .ok (.iaload, 1) := by decide +kernel
theorem dX4_best_175 : decode cX4_best 175 = .ok (.iastore, 1) := by decide +kernel
theorem dX4_best_176 : decode cX4_best 176 = .ok (.iinc 7 1, 3) := by decide +kernel
theorem dX4_best_179 : decode cX4_best 179 = .ok (.goto (-26), 3) := by decide +kernel
theorem dX4_best_182 : decode cX4_best 182 = .ok (.iinc 3 1, 3) := by decide +kernel
theorem dX4_best_185 : decode cX4_best 185 = .ok (.goto (-137), 3) := by decide +kernel
theorem dX4_best_188 : decode cX4_best 188 = .ok (.iconst 0, 1) := by decide +kernel
theorem dX4_best_189 : decode cX4_best 189 = .ok (.istore_n 3, 1) := by decide +kernel
theorem dX4_best_190 : decode cX4_best 190 = .ok (.iload_n 3, 1) := by decide +kernel
theorem dX4_best_191 : decode cX4_best 191 = .ok (.aload_n 0, 1) := by decide +kernel
theorem dX4_best_192 : decode cX4_best 192 = .ok (.getfield 67, 3) := by decide +kernel
theorem dX4_best_195 : decode cX4_best 195 = .ok (.if_icmp .ge 21, 3) := by decide +kernel
theorem dX4_best_198 : decode cX4_best 198 = .ok (.aload_n 0, 1) := by decide +kernel
theorem dX4_best_199 : decode cX4_best 199 = .ok (.getfield 43, 3) := by decide +kernel
theorem dX4_best_202 : decode cX4_best 202 = .ok (.iload_n 3, 1) := by decide +kernel
theorem dX4_best_203 : decode cX4_best 203 = .ok (.aload_n 0, 1) := by decide +kernel
theorem dX4_best_204 : decode cX4_best 204 = .ok (.getfield 49, 3) := by decide +kernel
theorem dX4_best_207 : decode cX4_best 207 = .ok (.iload_n 3, 1) := by decide +kernel
theorem dX4_best_208 : decode cX4_best 208 = .ok (.iaload, 1) := by decide +kernel
theorem dX4_best_209 : decode cX4_best 209 = .ok (.iastore, 1) := by decide +kernel
theorem dX4_best_210 : decode cX4_best 210 = .ok (.iinc 3 1, 3) := by decide +kernel
theorem dX4_best_213 : decode cX4_best 213 = .ok (.goto (-23), 3) := by decide +kernel
theorem dX4_best_216 : decode cX4_best 216 = .ok (.aload_n 0, 1) := by decide +kernel
theorem dX4_best_217 : decode cX4_best 217 = .ok (.invokevirtual 131, 3) := by decide +kernel
theorem dX4_best_220 : decode cX4_best 220 = .ok (.ireturn, 1) := by decide +kernel
set_option maxRecDepth 20000 in
theorem ggX4_better_X4_plans : GoodIn wsX4_better wsX4_plans := goodIn_r _ [7, 2, 8, 9, 10, 11, 12, 6, 13, 14, 15, 16, 17, 18, 19, 20, 21, 22, 23, 24, 25, 26, 27, 28, 29, 30, 31, 32, 33, 34, 35, 36, 37, 38, 39, 40, 41, 42, 43, 44, 45, 46, 47, 48, 49, 50, 51, 52, 53, 54, 55, 56, 57, 58, 59, 60, 66, 67, 68, 69, 70, 71, 72, 73, 74, 75, 76, 77, 78, 79, 80, 81, 82, 83, 84, 85, 86, 87, 88, 89, 90] (by decide +kernel) (by decide +kernel)
set_option maxRecDepth 20000 in
theorem gX4_better_X4_plans : GoodIn wsX4_better (wsV RX4 124 RX4 yX4_plans wsX4_plans) := goodIn_app (goodIn_of _ (by decide +kernel)) ggX4_better_X4_plans
set_option maxRecDepth 20000 in
theorem ggX4_better_X4_plan : GoodIn wsX4_better wsX4_plan := goodIn_r _ [64, 1, 65, 3, 4, 5, 6, 7, 2, 8, 9, 10, 11, 12, 13, 14, 15, 16, 17, 18, 19, 20, 21, 22, 23, 24, 25, 26, 27, 28, 29, 30, 31, 32, 33, 34, 35, 36, 37, 38, 39, 40, 41, 42, 43, 44, 45, 46, 47, 48, 49, 50, 51, 52, 53, 54, 55, 56, 57, 58, 59, 60, 66, 67, 68, 69, 70, 71, 72, 73, 74, 75, 76, 77, 78, 79, 80, 81, 82, 83, 84, 85, 86, 87, 88, 89, 90] (by decide +kernel) (by decide +kernel)
set_option maxRecDepth 20000 in
theorem gX4_better_X4_plan : GoodIn wsX4_better (wsV RX4 131 RX4 yX4_plan wsX4_plan) := goodIn_app (goodIn_of _ (by decide +kernel)) ggX4_better_X4_plan
theorem dX4_better_0 : decode cX4_better 0 = .ok (.iconst 0, 1) := by decide +kernel
theorem dX4_better_1 : decode cX4_better 1 = .ok (.istore_n 1, 1) := by decide +kernel
theorem dX4_better_2 : decode cX4_better 2 = .ok (.iconst 1, 1) := by decide +kernel
theorem dX4_better_3 : decode cX4_better 3 = .ok (.istore_n 2, 1) := by decide +kernel
theorem dX4_better_4 : decode cX4_better 4 = .ok (.iload_n 2, 1) := by decide +kernel
theorem dX4_better_5 : decode cX4_better 5 = .ok (.ifCond .eq 132, 3) := by decide +kernel
theorem dX4_better_8 : decode cX4_better 8 = .ok (.iload_n 1, 1) := by decide +kernel
theorem dX4_better_9 : decode cX4_better 9 = .ok (.bipush 10, 2) := by decide +kernel
theorem dX4_better_11 : decode cX4_better 11 = .ok (.if_icmp .ge 126, 3) := by decide +kernel
theorem dX4_better_14 : decode cX4_better 14 = .ok (.iconst 0, 1) := by decide +kernel
theorem dX4_better_15 : decode cX4_better 15 = .ok (.istore_n 2, 1) := by decide +kernel
theorem dX4_better_16 : decode cX4_better 16 = .ok (.aload_n 0, 1) := by decide +kernel
theorem dX4_better_17 : decode cX4_better 17 = .ok (.aload_n 0, 1) := by decide +kernel
theorem dX4_better_18 : decode cX4_better 18 = .ok (.getfield 43, 3) := by decide +kernel
theorem dX4_better_21 : decode cX4_better 21 = .ok (.invokevirtual 124, 3) := by decide +kernel
theorem dX4_better_24 : decode cX4_better 24 = .ok (.istore_n 3, 1) := by decide +kernel
theorem dX4_better_25 : decode cX4_better 25 = .ok (.iconst 0, 1) := by decide +kernel
theorem dX4_better_26 : decode cX4_better 26 = .ok (.istore 4, 2) := by decide +kernel
theorem dX4_better_28 : decode cX4_better 28 = .ok (.iload 4, 2) := by decide +kernel
theorem dX4_better_30 : decode cX4_better 30 = .ok (.iconst 1, 1) := by decide +kernel
theorem dX4_better_31 : decode cX4_better 31 = .ok (.iadd, 1) := by decide +kernel
theorem dX4_better_32 : decode cX4_better 32 = .ok (.aload_n 0, 1) := by decide +kernel
theorem dX4_better_33 : decode cX4_better 33 = .ok (.getfield 67, 3) := by decide +kernel
theorem dX4_better_36 : decode cX4_better 36 = .ok (.if_icmp .ge 91, 3) := by decide +kernel
theorem dX4_better_39 : decode cX4_better 39 = .ok (.iload_n 2, 1) := by decide +kernel
theorem dX4_better_40 : decode cX4_better 40 = .ok (.ifCond .ne 87, 3) := by decide +kernel
theorem dX4_better_43 : decode cX4_better 43 = .ok (.aload_n 0, 1) := by decide +kernel
theorem dX4_better_44 : decode cX4_better 44 = .ok (.getfield 43, 3) := by decide +kernel
theorem dX4_better_47 : decode cX4_better 47 = .ok (.iload 4, 2) := by decide +kernel
theorem dX4_better_49 : decode cX4_better 49 = .ok (.iaload, 1) := by decide +kernel
theorem dX4_better_50 : decode cX4_better 50 = .ok (.istore 5, 2) := by decide +kernel
theorem dX4_better_52 : decode cX4_better 52 = .ok (.aload_n 0, 1) := by decide +kernel
theorem dX4_better_53 : decode cX4_better 53 = .ok (.getfield 43, 3) := by decide +kernel
theorem dX4_better_56 : decode cX4_better 56 = .ok (.iload 4, 2) := by decide +kernel
theorem dX4_better_58 : decode cX4_better 58 = .ok (.aload_n 0, 1) := by decide +kernel
theorem dX4_better_59 : decode cX4_better 59 = .ok (.getfield 43, 3) := by decide +kernel
theorem dX4_better_62 : decode cX4_better 62 = .ok (.iload 4, 2) := by decide +kernel
theorem dX4_better_64 : decode cX4_better 64 = .ok (.iconst 1, 1) := by decide +kernel
theorem dX4_better_65 : decode cX4_better 65 = .ok (.iadd, 1) := by decide +kernel
theorem dX4_better_66 : decode cX4_better 66 = .ok (.iaload, 1) := by decide +kernel
theorem dX4_better_67 : decode cX4_better 67 = .ok (.iastore, 1) := by decide +kernel
theorem dX4_better_68 : decode cX4_better 68 = .ok (.aload_n 0, 1) := by decide +kernel
theorem dX4_better_69 : decode cX4_better 69 = .ok (.getfield 43, 3) := by decide +kernel
theorem dX4_better_72 : decode cX4_better 72 = .ok (.iload 4, 2) := by decide +kernel
theorem dX4_better_74 : decode cX4_better 74 = .ok (.iconst 1, 1) := by decide +kernel
theorem dX4_better_75 : decode cX4_better 75 = .ok (.iadd, 1) := by decide +kernel
theorem dX4_better_76 : decode cX4_better 76 = .ok (.iload 5, 2) := by decide +kernel
theorem dX4_better_78 : decode cX4_better 78 = .ok (.iastore, 1) := by decide +kernel
theorem dX4_better_79 : decode cX4_better 79 = .ok (.aload_n 0, 1) := by decide +kernel
theorem dX4_better_80 : decode cX4_better 80 = .ok (.aload_n 0, 1) := by decide +kernel
theorem dX4_better_81 : decode cX4_better 81 = .ok (.getfield 43, 3) := by decide +kernel
theorem dX4_better_84 : decode cX4_better 84 = .ok (.invokevirtual 124, 3) := by decide +kernel
theorem dX4_better_87 : decode cX4_better 87 = .ok (.iload_n 3, 1) := by decide +kernel
theorem dX4_better_88 : decode cX4_better 88 = .ok (.if_icmp .ge 8, 3) := by decide +kernel
theorem dX4_better_91 : decode cX4_better 91 = .ok (.iconst 1, 1) := by decide +kernel
theorem dX4_better_92 : decode cX4_better 92 = .ok (.istore_n 2, 1) := by decide +kernel
theorem dX4_better_93 : decode cX4_better 93 = .ok (.goto 28, 3) := by decide +kernel
theorem dX4_better_96 : decode cX4_better 96 = .ok (.aload_n 0, 1) := by decide +kernel
theorem dX4_better_97 : decode cX4_better 97 = .ok (.getfield 43, 3) := by decide +kernel
theorem dX4_better_100 : decode cX4_better 100 = .ok (.iload 4, 2) := by decide +kernel
theorem dX4_better_102 : decode cX4_better 102 = .ok (.iconst 1, 1) := by decide +kernel
theorem dX4_better_103 : decode cX4_better 103 = .ok (.iadd, 1) := by decide +kernel
theorem dX4_better_104 : decode cX4_better 104 = .ok (.aload_n 0, 1) := by decide +kernel
theorem dX4_better_105 : decode cX4_better 105 = .ok (.getfield 43, 3) := by decide +kernel
theorem dX4_better_108 : decode cX4_better 108 = .ok (.iload 4, 2) := by decide +kernel
theorem dX4_better_110 : decode cX4_better 110 = .ok (.iaload, 1) := by decide +kernel
theorem dX4_better_111 : decode cX4_better 111 = .ok (.iastore, 1) := by decide +kernel
theorem dX4_better_112 : decode cX4_better 112 = .ok (.aload_n 0, 1) := by decide +kernel
theorem dX4_better_113 : decode cX4_better 113 = .ok (.getfield 43, 3) := by decide +kernel
theorem dX4_better_116 : decode cX4_better 116 = .ok (.iload 4, 2) := by decide +kernel
theorem dX4_better_118 : decode cX4_better 118 = .ok (.iload 5, 2) := by decide +kernel
theorem dX4_better_120 : decode cX4_better 120 = .ok (.iastore, 1) := by decide +kernel
theorem dX4_better_121 : decode cX4_better 121 = .ok (.iinc 4 1, 3) := by decide +kernel
theorem dX4_better_124 : decode cX4_better 124 = .ok (.goto (-96), 3) := by decide +kernel
theorem dX4_better_127 : decode cX4_better 127 = .ok (.iload_n 2, 1) := by decide +kernel
theorem dX4_better_128 : decode cX4_better 128 = .ok (.ifCond .eq 6, 3) := by decide +kernel
theorem dX4_better_131 : decode cX4_better 131 = .ok (.iinc 1 1, 3) := by decide +kernel
theorem dX4_better_134 : decode cX4_better 134 = .ok (.goto (-130), 3) := by decide +kernel
theorem dX4_better_137 : decode cX4_better 137 = .ok (.aload_n 0, 1) := by decide +kernel
theorem dX4_better_138 : decode cX4_better 138 = .ok (.invokevirtual 131, 3) := by decide +kernel
theorem dX4_better_141 : decode cX4_better 141 = .ok (.pop, 1) := by decide +kernel
theorem dX4_better_142 : decode cX4_better 142 = .ok (.iload_n 1, 1) := by decide +kernel
theorem dX4_better_143 : decode cX4_better 143 = .ok (.ireturn, 1) := by decide +kernel
set_option maxRecDepth 20000 in
theorem ggX4_now_X4_isDay : GoodIn wsX4_now wsX4_isDay := goodIn_r _ [7] (by decide +kernel) (by decide +kernel)
set_option maxRecDepth 20000 in
theorem gX4_now_X4_isDay : GoodIn wsX4_now (va_wsS RX4 78 yX4_isDay wsX4_isDay) := goodIn_app (goodIn_of _ (by decide +kernel)) ggX4_now_X4_isDay
theorem dX4_now_0 : decode cX4_now 0 = .ok (.iload_n 1, 1) := by decide +kernel
theorem dX4_now_1 : decode cX4_now 1 = .ok (.invokestatic 78, 3) := by decide +kernel
theorem dX4_now_4 : decode cX4_now 4 = .ok (.ifCond .ne 5, 3) := by decide +kernel
theorem dX4_now_7 : decode cX4_now 7 = .ok (.iconst (-1), 1) := by decide +kernel
theorem dX4_now_8 : decode cX4_now 8 = .ok (.ireturn, 1) := by decide +kernel
theorem dX4_now_9 : decode cX4_now 9 = .ok (.iload_n 1, 1) := by decide +kernel
theorem dX4_now_10 : decode cX4_now 10 = .ok (.aload_n 0, 1) := by decide +kernel
theorem dX4_now_11 : decode cX4_now 11 = .ok (.getfield 118, 3) := by decide +kernel
theorem dX4_now_14 : decode cX4_now 14 = .ok (.if_icmp .ge 6, 3) := by decide +kernel
theorem dX4_now_17 : decode cX4_now 17 = .ok (.bipush (-2), 2) := by decide +kernel
theorem dX4_now_19 : decode cX4_now 19 = .ok (.ireturn, 1) := by decide +kernel
theorem dX4_now_20 : decode cX4_now 20 = .ok (.aload_n 0, 1) := by decide +kernel
theorem dX4_now_21 : decode cX4_now 21 = .ok (.iload_n 1, 1) := by decide +kernel
theorem dX4_now_22 : decode cX4_now 22 = .ok (.putfield 118, 3) := by decide +kernel
theorem dX4_now_25 : decode cX4_now 25 = .ok (.iconst 0, 1) := by decide +kernel
theorem dX4_now_26 : decode cX4_now 26 = .ok (.istore_n 2, 1) := by decide +kernel
theorem dX4_now_27 : decode cX4_now 27 = .ok (.iconst 0, 1) := by decide +kernel
theorem dX4_now_28 : decode cX4_now 28 = .ok (.istore_n 3, 1) := by decide +kernel
theorem dX4_now_29 : decode cX4_now 29 = .ok (.iload_n 3, 1) := by decide +kernel
theorem dX4_now_30 : decode cX4_now 30 = .ok (.aload_n 0, 1) := by decide +kernel
theorem dX4_now_31 : decode cX4_now 31 = .ok (.getfield 67, 3) := by decide +kernel
theorem dX4_now_34 : decode cX4_now 34 = .ok (.if_icmp .ge 32, 3) := by decide +kernel
theorem dX4_now_37 : decode cX4_now 37 = .ok (.aload_n 0, 1) := by decide +kernel
theorem dX4_now_38 : decode cX4_now 38 = .ok (.getfield 37, 3) := by decide +kernel
theorem dX4_now_41 : decode cX4_now 41 = .ok (.iload_n 3, 1) := by decide +kernel
theorem dX4_now_42 : decode cX4_now 42 = .ok (.iaload, 1) := by decide +kernel
theorem dX4_now_43 : decode cX4_now 43 = .ok (.aload_n 0, 1) := by decide +kernel
theorem dX4_now_44 : decode cX4_now 44 = .ok (.getfield 118, 3) := by decide +kernel
theorem dX4_now_47 : decode cX4_now 47 = .ok (.if_icmp .lt 13, 3) := by decide +kernel
theorem dX4_now_50 : decode cX4_now 50 = .ok (.aload_n 0, 1) := by decide +kernel
theorem dX4_now_51 : decode cX4_now 51 = .ok (.getfield 37, 3) := by decide +kernel
theorem dX4_now_54 : decode cX4_now 54 = .ok (.iload_n 3, 1) := by decide +kernel
theorem dX4_now_55 : decode cX4_now 55 = .ok (.iconst (-1), 1) := by decide +kernel
theorem dX4_now_56 : decode cX4_now 56 = .ok (.iastore, 1) := by decide +kernel
theorem dX4_now_57 : decode cX4_now 57 = .ok (.iinc 2 1, 3) := by decide +kernel
theorem dX4_now_60 : decode cX4_now 60 = .ok (.iinc 3 1, 3) := by decide +kernel
theorem dX4_now_63 : decode cX4_now 63 = .ok (.goto (-34), 3) := by decide +kernel
theorem dX4_now_66 : decode cX4_now 66 = .ok (.iload_n 2, 1) := by decide +kernel
theorem dX4_now_67 : decode cX4_now 67 = .ok (.ireturn, 1) := by decide +kernel
theorem dX4_bound_0 : decode cX4_bound 0 = .ok (.aload_n 0, 1) := by decide +kernel
theorem dX4_bound_1 : decode cX4_bound 1 = .ok (.getfield 67, 3) := by decide +kernel
theorem dX4_bound_4 : decode cX4_bound 4 = .ok (.ifCond .ne 5, 3) := by decide +kernel
theorem dX4_bound_7 : decode cX4_bound 7 = .ok (.iconst 0, 1) := by decide +kernel
theorem dX4_bound_8 : decode cX4_bound 8 = .ok (.ireturn, 1) := by decide +kernel
theorem dX4_bound_9 : decode cX4_bound 9 = .ok (.iconst 0, 1) := by decide +kernel
theorem dX4_bound_10 : decode cX4_bound 10 = .ok (.istore_n 1, 1) := by decide +kernel
theorem dX4_bound_11 : decode cX4_bound 11 = .ok (.iload_n 1, 1) := by decide +kernel
theorem dX4_bound_12 : decode cX4_bound 12 = .ok (.aload_n 0, 1) := by decide +kernel
theorem dX4_bound_13 : decode cX4_bound 13 = .ok (.getfield 67, 3) := by decide +kernel
theorem dX4_bound_16 : decode cX4_bound 16 = .ok (.if_icmp .ge 16, 3) := by decide +kernel
theorem dX4_bound_19 : decode cX4_bound 19 = .ok (.aload_n 0, 1) := by decide +kernel
theorem dX4_bound_20 : decode cX4_bound 20 = .ok (.getfield 64, 3) := by decide +kernel
theorem dX4_bound_23 : decode cX4_bound 23 = .ok (.iload_n 1, 1) := by decide +kernel
theorem dX4_bound_24 : decode cX4_bound 24 = .ok (.iconst 0, 1) := by decide +kernel
theorem dX4_bound_25 : decode cX4_bound 25 = .ok (.iastore, 1) := by decide +kernel
theorem dX4_bound_26 : decode cX4_bound 26 = .ok (.iinc 1 1, 3) := by decide +kernel
theorem dX4_bound_29 : decode cX4_bound 29 = .ok (.goto (-18), 3) := by decide +kernel
theorem dX4_bound_32 : decode cX4_bound 32 = .ok (.iconst 0, 1) := by decide +kernel
theorem dX4_bound_33 : decode cX4_bound 33 = .ok (.istore_n 1, 1) := by decide +kernel
theorem dX4_bound_34 : decode cX4_bound 34 = .ok (.iload_n 1, 1) := by decide +kernel
theorem dX4_bound_35 : decode cX4_bound 35 = .ok (.aload_n 0, 1) := by decide +kernel
theorem dX4_bound_36 : decode cX4_bound 36 = .ok (.getfield 67, 3) := by decide +kernel
theorem dX4_bound_39 : decode cX4_bound 39 = .ok (.if_icmp .ge 93, 3) := by decide +kernel
theorem dX4_bound_42 : decode cX4_bound 42 = .ok (.iconst 0, 1) := by decide +kernel
theorem dX4_bound_43 : decode cX4_bound 43 = .ok (.istore_n 2, 1) := by decide +kernel
theorem dX4_bound_44 : decode cX4_bound 44 = .ok (.iload_n 2, 1) := by decide +kernel
theorem dX4_bound_45 : decode cX4_bound 45 = .ok (.aload_n 0, 1) := by decide +kernel
theorem dX4_bound_46 : decode cX4_bound 46 = .ok (.getfield 67, 3) := by decide +kernel
theorem dX4_bound_49 : decode cX4_bound 49 = .ok (.if_icmp .ge 77, 3) := by decide +kernel
theorem dX4_bound_52 : decode cX4_bound 52 = .ok (.iconst 0, 1) := by decide +kernel
theorem dX4_bound_53 : decode cX4_bound 53 = .ok (.istore_n 3, 1) := by decide +kernel
theorem dX4_bound_54 : decode cX4_bound 54 = .ok (.iload_n 3, 1) := by decide +kernel
theorem dX4_bound_55 : decode cX4_bound 55 = .ok (.aload_n 0, 1) := by decide +kernel
theorem dX4_bound_56 : decode cX4_bound 56 = .ok (.getfield 67, 3) := by decide +kernel
theorem dX4_bound_59 : decode cX4_bound 59 = .ok (.if_icmp .ge 61, 3) := by decide +kernel
theorem dX4_bound_62 : decode cX4_bound 62 = .ok (.aload_n 0, 1) := by decide +kernel
theorem dX4_bound_63 : decode cX4_bound 63 = .ok (.getfield 40, 3) := by decide +kernel
theorem dX4_bound_66 : decode cX4_bound 66 = .ok (.bipush 10, 2) := by decide +kernel
theorem dX4_bound_68 : decode cX4_bound 68 = .ok (.iload_n 2, 1) := by decide +kernel
theorem dX4_bound_69 : decode cX4_bound 69 = .ok (.imul, 1) := by decide +kernel
theorem dX4_bound_70 : decode cX4_bound 70 = .ok (.iload_n 3, 1) := by decide +kernel
theorem dX4_bound_71 : decode cX4_bound 71 = .ok (.iadd, 1) := by decide +kernel
theorem dX4_bound_72 : decode cX4_bound 72 = .ok (.iaload, 1) := by decide +kernel
theorem dX4_bound_73 : decode cX4_bound 73 = .ok (.istore 4, 2) := by decide +kernel
theorem dX4_bound_75 : decode cX4_bound 75 = .ok (.iload 4, 2) := by decide +kernel
theorem dX4_bound_77 : decode cX4_bound 77 = .ok (.iconst (-1), 1) := by decide +kernel
theorem dX4_bound_78 : decode cX4_bound 78 = .ok (.if_icmp .eq 36, 3) := by decide +kernel
theorem dX4_bound_81 : decode cX4_bound 81 = .ok (.aload_n 0, 1) := by decide +kernel
theorem dX4_bound_82 : decode cX4_bound 82 = .ok (.getfield 64, 3) := by decide +kernel
theorem dX4_bound_85 : decode cX4_bound 85 = .ok (.iload_n 2, 1) := by decide +kernel
theorem dX4_bound_86 : decode cX4_bound 86 = .ok (.iaload, 1) := by decide +kernel
theorem dX4_bound_87 : decode cX4_bound 87 = .ok (.iload 4, 2) := by decide +kernel
theorem dX4_bound_89 : decode cX4_bound 89 = .ok (.iadd, 1) := by decide +kernel
theorem dX4_bound_90 : decode cX4_bound 90 = .ok (.aload_n 0, 1) := by decide +kernel
theorem dX4_bound_91 : decode cX4_bound 91 = .ok (.getfield 64, 3) := by decide +kernel
theorem dX4_bound_94 : decode cX4_bound 94 = .ok (.iload_n 3, 1) := by decide +kernel
theorem dX4_bound_95 : decode cX4_bound 95 = .ok (.iaload, 1) := by decide +kernel
theorem dX4_bound_96 : decode cX4_bound 96 = .ok (.if_icmp .le 18, 3) := by decide +kernel
theorem dX4_bound_99 : decode cX4_bound 99 = .ok (.aload_n 0, 1) := by decide +kernel
theorem dX4_bound_100 : decode cX4_bound 100 = .ok (.getfield 64, 3) := by decide +kernel
theorem dX4_bound_103 : decode cX4_bound 103 = .ok (.iload_n 3, 1) := by decide +kernel
theorem dX4_bound_104 : decode cX4_bound 104 = .ok (.aload_n 0, 1) := by decide +kernel
theorem dX4_bound_105 : decode cX4_bound 105 = .ok (.getfield 64, 3) := by decide +kernel
theorem dX4_bound_108 : decode cX4_bound 108 = .ok (.iload_n 2, 1) := by decide +kernel
theorem dX4_bound_109 : decode cX4_bound 109 = .ok (.iaload, 1) := by decide +kernel
theorem dX4_bound_110 : decode cX4_bound 110 = .ok (.iload 4, 2) := by decide +kernel
theorem dX4_bound_112 : decode cX4_bound 112 = .ok (.iadd, 1) := by decide +kernel
theorem dX4_bound_113 : decode cX4_bound 113 = .ok (.iastore, 1) := by decide +kernel
theorem dX4_bound_114 : decode cX4_bound 114 = .ok (.iinc 3 1, 3) := by decide +kernel
theorem dX4_bound_117 : decode cX4_bound 117 = .ok (.goto (-63), 3) := by decide +kernel
theorem dX4_bound_120 : decode cX4_bound 120 = .ok (.iinc 2 1, 3) := by decide +kernel
theorem dX4_bound_123 : decode cX4_bound 123 = .ok (.goto (-79), 3) := by decide +kernel
theorem dX4_bound_126 : decode cX4_bound 126 = .ok (.iinc 1 1, 3) := by decide +kernel
theorem dX4_bound_129 : decode cX4_bound 129 = .ok (.goto (-95), 3) := by decide +kernel
theorem dX4_bound_132 : decode cX4_bound 132 = .ok (.iconst 0, 1) := by decide +kernel
theorem dX4_bound_133 : decode cX4_bound 133 = .ok (.istore_n 1, 1) := by decide +kernel
theorem dX4_bound_134 : decode cX4_bound 134 = .ok (.iconst 0, 1) := by decide +kernel
theorem dX4_bound_135 : decode cX4_bound 135 = .ok (.istore_n 2, 1) := by decide +kernel
theorem dX4_bound_136 : decode cX4_bound 136 = .ok (.iload_n 2, 1) := by decide +kernel
theorem dX4_bound_137 : decode cX4_bound 137 = .ok (.aload_n 0, 1) := by decide +kernel
theorem dX4_bound_138 : decode cX4_bound 138 = .ok (.getfield 67, 3) := by decide +kernel
theorem dX4_bound_141 : decode cX4_bound 141 = .ok (.if_icmp .ge 26, 3) := by decide +kernel
theorem dX4_bound_144 : decode cX4_bound 144 = .ok (.aload_n 0, 1) := by decide +kernel
theorem dX4_bound_145 : decode cX4_bound 145 = .ok (.getfield 64, 3) := by decide +kernel
theorem dX4_bound_148 : decode cX4_bound 148 = .ok (.iload_n 2, 1) := by decide +kernel
theorem dX4_bound_149 : decode cX4_bound 149 = .ok (.iaload, 1) := by decide +kernel
theorem dX4_bound_150 : decode cX4_bound 150 = .ok (.iload_n 1, 1) := by decide +kernel
theorem dX4_bound_151 : decode cX4_bound 151 = .ok (.if_icmp .le 10, 3) := by decide +kernel
theorem dX4_bound_154 : decode cX4_bound 154 = .ok (.aload_n 0, 1) := by decide +kernel
theorem dX4_bound_155 : decode cX4_bound 155 = .ok (.getfield 64, 3) := by decide +kernel
theorem dX4_bound_158 : decode cX4_bound 158 = .ok (.iload_n 2, 1) := by decide +kernel
theorem dX4_bound_159 : decode cX4_bound 159 = .ok (.iaload, 1) := by decide +kernel
theorem dX4_bound_160 : decode cX4_bound 160 = .ok (.istore_n 1, 1) := by decide +kernel
theorem dX4_bound_161 : decode cX4_bound 161 = .ok (.iinc 2 1, 3) := by decide +kernel
theorem dX4_bound_164 : decode cX4_bound 164 = .ok (.goto (-28), 3) := by decide +kernel
theorem dX4_bound_167 : decode cX4_bound 167 = .ok (.iload_n 1, 1) := by decide +kernel
theorem dX4_bound_168 : decode cX4_bound 168 = .ok (.iconst 1, 1) := by decide +kernel
theorem dX4_bound_169 : decode cX4_bound 169 = .ok (.iadd, 1) := by decide +kernel
theorem dX4_bound_170 : decode cX4_bound 170 = .ok (.ireturn, 1) := by decide +kernel
set_option maxRecDepth 20000 in
theorem ggX4_about_X4_isPiece : GoodIn wsX4_about wsX4_isPiece := goodIn_r _ [12, 13, 32, 33, 34, 35, 36, 37, 38, 39, 40, 41, 42, 43, 44, 45, 46, 47, 48, 49, 50, 51, 52, 53, 54, 55, 56] (by decide +kernel) (by decide +kernel)
set_option maxRecDepth 20000 in
theorem gX4_about_X4_isPiece : GoodIn wsX4_about (wsV RX4 70 RX4 yX4_isPiece wsX4_isPiece) := goodIn_app (goodIn_of _ (by decide +kernel)) ggX4_about_X4_isPiece
set_option maxRecDepth 20000 in
theorem ggX4_about_X4_stripped : GoodIn wsX4_about wsX4_stripped := goodIn_r _ [17, 18, 19, 20, 21, 11, 22, 23, 24, 25, 26, 27, 28, 29, 30, 31, 32, 33, 34, 35, 36, 37, 38, 39, 40, 41, 42, 43, 44, 45, 46, 47, 48, 49, 50, 51, 52, 53, 54, 55, 56] (by decide +kernel) (by decide +kernel)
set_option maxRecDepth 20000 in
theorem gX4_about_X4_stripped : GoodIn wsX4_about (wsV RX4 102 RX4 yX4_stripped wsX4_stripped) := goodIn_app (goodIn_of _ (by decide +kernel)) ggX4_about_X4_stripped
theorem dX4_about_0 : decode cX4_about 0 = .ok (.aload_n 0, 1) := by decide +kernel
theorem dX4_about_1 : decode cX4_about 1 = .ok (.iload_n 1, 1) := by decide +kernel
theorem dX4_about_2 : decode cX4_about 2 = .ok (.invokevirtual 70, 3) := by decide +kernel
theorem dX4_about_5 : decode cX4_about 5 = .ok (.ifCond .ne 5, 3) := by decide +kernel
theorem dX4_about_8 : decode cX4_about 8 = .ok (.iconst (-1), 1) := by decide +kernel
theorem dX4_about_9 : decode cX4_about 9 = .ok (.ireturn, 1) := by decide +kernel
theorem dX4_about_10 : decode cX4_about 10 = .ok (.iload_n 2, 1) := by decide +kernel
theorem dX4_about_11 : decode cX4_about 11 = .ok (.tableswitch 132 0 7 #[45, 52, 59, 66, 73, 80, 87, 112], 45) := by decide +kernel
theorem dX4_about_56 : decode cX4_about 56 = .ok (.aload_n 0, 1) := by decide +kernel
theorem dX4_about_57 : decode cX4_about 57 = .ok (.getfield 21, 3) := by decide +kernel
theorem dX4_about_60 : decode cX4_about 60 = .ok (.iload_n 1, 1) := by decide +kernel
theorem dX4_about_61 : decode cX4_about 61 = .ok (.iaload, 1) := by decide +kernel
theorem dX4_about_62 : decode cX4_about 62 = .ok (.ireturn, 1) := by decide +kernel
theorem dX4_about_63 : decode cX4_about 63 = .ok (.aload_n 0, 1) := by decide +kernel
theorem dX4_about_64 : decode cX4_about 64 = .ok (.getfield 25, 3) := by decide +kernel
theorem dX4_about_67 : decode cX4_about 67 = .ok (.iload_n 1, 1) := by decide +kernel
theorem dX4_about_68 : decode cX4_about 68 = .ok (.iaload, 1) := by decide +kernel
theorem dX4_about_69 : decode cX4_about 69 = .ok (.ireturn, 1) := by decide +kernel
theorem dX4_about_70 : decode cX4_about 70 = .ok (.aload_n 0, 1) := by decide +kernel
theorem dX4_about_71 : decode cX4_about 71 = .ok (.getfield 28, 3) := by decide +kernel
theorem dX4_about_74 : decode cX4_about 74 = .ok (.iload_n 1, 1) := by decide +kernel
theorem dX4_about_75 : decode cX4_about 75 = .ok (.iaload, 1) := by decide +kernel
theorem dX4_about_76 : decode cX4_about 76 = .ok (.ireturn, 1) := by decide +kernel
theorem dX4_about_77 : decode cX4_about 77 = .ok (.aload_n 0, 1) := by decide +kernel
theorem dX4_about_78 : decode cX4_about 78 = .ok (.getfield 31, 3) := by decide +kernel
theorem dX4_about_81 : decode cX4_about 81 = .ok (.iload_n 1, 1) := by decide +kernel
theorem dX4_about_82 : decode cX4_about 82 = .ok (.iaload, 1) := by decide +kernel
theorem dX4_about_83 : decode cX4_about 83 = .ok (.ireturn, 1) := by decide +kernel
theorem dX4_about_84 : decode cX4_about 84 = .ok (.aload_n 0, 1) := by decide +kernel
theorem dX4_about_85 : decode cX4_about 85 = .ok (.getfield 34, 3) := by decide +kernel
theorem dX4_about_88 : decode cX4_about 88 = .ok (.iload_n 1, 1) := by decide +kernel
theorem dX4_about_89 : decode cX4_about 89 = .ok (.iaload, 1) := by decide +kernel
theorem dX4_about_90 : decode cX4_about 90 = .ok (.ireturn, 1) := by decide +kernel
theorem dX4_about_91 : decode cX4_about 91 = .ok (.aload_n 0, 1) := by decide +kernel
theorem dX4_about_92 : decode cX4_about 92 = .ok (.getfield 37, 3) := by decide +kernel
theorem dX4_about_95 : decode cX4_about 95 = .ok (.iload_n 1, 1) := by decide +kernel
theorem dX4_about_96 : decode cX4_about 96 = .ok (.iaload, 1) := by decide +kernel
theorem dX4_about_97 : decode cX4_about 97 = .ok (.ireturn, 1) := by decide +kernel
theorem dX4_about_98 : decode cX4_about 98 = .ok (.aload_n 0, 1) := by decide +kernel
theorem dX4_about_99 : decode cX4_about 99 = .ok (.getfield 37, 3) := by decide +kernel
theorem dX4_about_102 : decode cX4_about 102 = .ok (.iload_n 1, 1) := by decide +kernel
theorem dX4_about_103 : decode cX4_about 103 = .ok (.iaload, 1) := by decide +kernel
theorem dX4_about_104 : decode cX4_about 104 = .ok (.iconst (-1), 1) := by decide +kernel
theorem dX4_about_105 : decode cX4_about 105 = .ok (.if_icmp .ne 7, 3) := by decide +kernel
theorem dX4_about_108 : decode cX4_about 108 = .ok (.iconst (-1), 1) := by decide +kernel
theorem dX4_about_109 : decode cX4_about 109 = .ok (.goto 13, 3) := by decide +kernel
theorem dX4_about_112 : decode cX4_about 112 = .ok (.aload_n 0, 1) := by decide +kernel
theorem dX4_about_113 : decode cX4_about 113 = .ok (.aload_n 0, 1) := by decide +kernel
theorem dX4_about_114 : decode cX4_about 114 = .ok (.getfield 37, 3) := by decide +kernel
theorem dX4_about_117 : decode cX4_about 117 = .ok (.iload_n 1, 1) := by decide +kernel
theorem dX4_about_118 : decode cX4_about 118 = .ok (.iaload, 1) := by decide +kernel
theorem dX4_about_119 : decode cX4_about 119 = .ok (.invokevirtual 102, 3) := by decide +kernel
theorem dX4_about_122 : decode cX4_about 122 = .ok (.ireturn, 1) := by decide +kernel
theorem dX4_about_123 : decode cX4_about 123 = .ok (.iconst 0, 1) := by decide +kernel
theorem dX4_about_124 : decode cX4_about 124 = .ok (.istore_n 3, 1) := by decide +kernel
theorem dX4_about_125 : decode cX4_about 125 = .ok (.aload_n 0, 1) := by decide +kernel
theorem dX4_about_126 : decode cX4_about 126 = .ok (.getfield 43, 3) := by decide +kernel
theorem dX4_about_129 : decode cX4_about 129 = .ok (.iload_n 3, 1) := by decide +kernel
theorem dX4_about_130 : decode cX4_about 130 = .ok (.iaload, 1) := by decide +kernel
theorem dX4_about_131 : decode cX4_about 131 = .ok (.iload_n 1, 1) := by decide +kernel
theorem dX4_about_132 : decode cX4_about 132 = .ok (.if_icmp .eq 9, 3) := by decide +kernel
theorem dX4_about_135 : decode cX4_about 135 = .ok (.iinc 3 1, 3) := by decide +kernel
theorem dX4_about_138 : decode cX4_about 138 = .ok (.goto (-13), 3) := by decide +kernel
theorem dX4_about_141 : decode cX4_about 141 = .ok (.iload_n 3, 1) := by decide +kernel
theorem dX4_about_142 : decode cX4_about 142 = .ok (.ireturn, 1) := by decide +kernel
theorem dX4_about_143 : decode cX4_about 143 = .ok (.iconst (-1), 1) := by decide +kernel
theorem dX4_about_144 : decode cX4_about 144 = .ok (.ireturn, 1) := by decide +kernel
set_option maxRecDepth 20000 in
theorem ggX4_hard_X4_isPiece : GoodIn wsX4_hard wsX4_isPiece := goodIn_r _ [6, 7, 28, 29, 30, 31, 32, 33, 34, 35, 36, 37, 38, 39, 40, 41, 42, 43, 44, 45, 46, 47, 48, 49, 50, 51, 52] (by decide +kernel) (by decide +kernel)
set_option maxRecDepth 20000 in
theorem gX4_hard_X4_isPiece : GoodIn wsX4_hard (wsV RX4 70 RX4 yX4_isPiece wsX4_isPiece) := goodIn_app (goodIn_of _ (by decide +kernel)) ggX4_hard_X4_isPiece
set_option maxRecDepth 20000 in
theorem ggX4_hard_X4_isDay : GoodIn wsX4_hard wsX4_isDay := goodIn_r _ [10] (by decide +kernel) (by decide +kernel)
set_option maxRecDepth 20000 in
theorem gX4_hard_X4_isDay : GoodIn wsX4_hard (va_wsS RX4 78 yX4_isDay wsX4_isDay) := goodIn_app (goodIn_of _ (by decide +kernel)) ggX4_hard_X4_isDay
set_option maxRecDepth 20000 in
theorem ggX4_hard_X4_isPoured : GoodIn wsX4_hard wsX4_isPoured := goodIn_r _ [14, 1, 28, 29, 30, 31, 32, 33, 34, 35, 36, 37, 38, 39, 40, 41, 42, 43, 44, 45, 46, 47, 48, 49, 50, 51, 52] (by decide +kernel) (by decide +kernel)
set_option maxRecDepth 20000 in
theorem gX4_hard_X4_isPoured : GoodIn wsX4_hard (wsV RX4 99 RX4 yX4_isPoured wsX4_isPoured) := goodIn_app (goodIn_of _ (by decide +kernel)) ggX4_hard_X4_isPoured
set_option maxRecDepth 20000 in
theorem ggX4_hard_X4_hardness : GoodIn wsX4_hard wsX4_hardness := goodIn_r _ [18, 19, 20, 21, 22, 23, 5, 24, 25, 26, 27, 28, 29, 30, 31, 32, 33, 34, 35, 36, 37, 38, 39, 40, 41, 42, 43, 44, 45, 46, 47, 48, 49, 50, 51, 52] (by decide +kernel) (by decide +kernel)
set_option maxRecDepth 20000 in
theorem gX4_hard_X4_hardness : GoodIn wsX4_hard (wsV RX4 95 RX4 yX4_hardness wsX4_hardness) := goodIn_app (goodIn_of _ (by decide +kernel)) ggX4_hard_X4_hardness
theorem dX4_hard_0 : decode cX4_hard 0 = .ok (.aload_n 0, 1) := by decide +kernel
theorem dX4_hard_1 : decode cX4_hard 1 = .ok (.iload_n 1, 1) := by decide +kernel
theorem dX4_hard_2 : decode cX4_hard 2 = .ok (.invokevirtual 70, 3) := by decide +kernel
theorem dX4_hard_5 : decode cX4_hard 5 = .ok (.ifCond .eq 33, 3) := by decide +kernel
theorem dX4_hard_8 : decode cX4_hard 8 = .ok (.iload_n 2, 1) := by decide +kernel
theorem dX4_hard_9 : decode cX4_hard 9 = .ok (.invokestatic 78, 3) := by decide +kernel
theorem dX4_hard_12 : decode cX4_hard 12 = .ok (.ifCond .eq 26, 3) := by decide +kernel
theorem dX4_hard_15 : decode cX4_hard 15 = .ok (.aload_n 0, 1) := by decide +kernel
theorem dX4_hard_16 : decode cX4_hard 16 = .ok (.iload_n 1, 1) := by decide +kernel
theorem dX4_hard_17 : decode cX4_hard 17 = .ok (.iload_n 2, 1) := by decide +kernel
theorem dX4_hard_18 : decode cX4_hard 18 = .ok (.invokevirtual 99, 3) := by decide +kernel
theorem dX4_hard_21 : decode cX4_hard 21 = .ok (.ifCond .eq 17, 3) := by decide +kernel
theorem dX4_hard_24 : decode cX4_hard 24 = .ok (.aload_n 0, 1) := by decide +kernel
theorem dX4_hard_25 : decode cX4_hard 25 = .ok (.aload_n 0, 1) := by decide +kernel
theorem dX4_hard_26 : decode cX4_hard 26 = .ok (.getfield 37, 3) := by decide +kernel
theorem dX4_hard_29 : decode cX4_hard 29 = .ok (.iload_n 1, 1) := by decide +kernel
theorem dX4_hard_30 : decode cX4_hard 30 = .ok (.iaload, 1) := by decide +kernel
theorem dX4_hard_31 : decode cX4_hard 31 = .ok (.iload_n 2, 1) := by decide +kernel
theorem dX4_hard_32 : decode cX4_hard 32 = .ok (.invokevirtual 95, 3) := by decide +kernel
theorem dX4_hard_35 : decode cX4_hard 35 = .ok (.goto 4, 3) := by decide +kernel
theorem dX4_hard_38 : decode cX4_hard 38 = .ok (.iconst (-1), 1) := by decide +kernel
theorem dX4_hard_39 : decode cX4_hard 39 = .ok (.ireturn, 1) := by decide +kernel
set_option maxRecDepth 20000 in
theorem ggX4_why_X4_isPiece : GoodIn wsX4_why wsX4_isPiece := goodIn_r _ [5, 6, 62, 63, 64, 65, 66, 67, 68, 69, 70, 71, 72, 73, 74, 75, 76, 77, 78, 79, 80, 81, 82, 83, 84, 85, 86] (by decide +kernel) (by decide +kernel)
set_option maxRecDepth 20000 in
theorem gX4_why_X4_isPiece : GoodIn wsX4_why (wsV RX4 70 RX4 yX4_isPiece wsX4_isPiece) := goodIn_app (goodIn_of _ (by decide +kernel)) ggX4_why_X4_isPiece
set_option maxRecDepth 20000 in
theorem ggX4_why_X4_isDay : GoodIn wsX4_why wsX4_isDay := goodIn_r _ [9] (by decide +kernel) (by decide +kernel)
set_option maxRecDepth 20000 in
theorem gX4_why_X4_isDay : GoodIn wsX4_why (va_wsS RX4 78 yX4_isDay wsX4_isDay) := goodIn_app (goodIn_of _ (by decide +kernel)) ggX4_why_X4_isDay
set_option maxRecDepth 20000 in
theorem ggX4_why_X4_hinders : GoodIn wsX4_why wsX4_hinders := goodIn_r _ [13, 6, 14, 15, 16, 17, 18, 19, 20, 21, 22, 23, 24, 4, 25, 26, 27, 28, 29, 30, 31, 32, 33, 34, 35, 36, 37, 38, 39, 40, 41, 42, 43, 44, 45, 46, 47, 48, 49, 50, 51, 52, 53, 54, 55, 56, 57, 58, 59, 60, 61, 62, 63, 64, 65, 66, 67, 68, 69, 70, 71, 72, 73, 74, 75, 76, 77, 78, 79, 80, 81, 82, 83, 84, 85, 86] (by decide +kernel) (by decide +kernel)
set_option maxRecDepth 20000 in
theorem gX4_why_X4_hinders : GoodIn wsX4_why (wsV RX4 121 RX4 yX4_hinders wsX4_hinders) := goodIn_app (goodIn_of _ (by decide +kernel)) ggX4_why_X4_hinders
theorem dX4_why_0 : decode cX4_why 0 = .ok (.aload_n 0, 1) := by decide +kernel
theorem dX4_why_1 : decode cX4_why 1 = .ok (.iload_n 1, 1) := by decide +kernel
theorem dX4_why_2 : decode cX4_why 2 = .ok (.invokevirtual 70, 3) := by decide +kernel
theorem dX4_why_5 : decode cX4_why 5 = .ok (.ifCond .eq 19, 3) := by decide +kernel
theorem dX4_why_8 : decode cX4_why 8 = .ok (.iload_n 2, 1) := by decide +kernel
theorem dX4_why_9 : decode cX4_why 9 = .ok (.invokestatic 78, 3) := by decide +kernel
theorem dX4_why_12 : decode cX4_why 12 = .ok (.ifCond .eq 12, 3) := by decide +kernel
theorem dX4_why_15 : decode cX4_why 15 = .ok (.aload_n 0, 1) := by decide +kernel
theorem dX4_why_16 : decode cX4_why 16 = .ok (.iload_n 1, 1) := by decide +kernel
theorem dX4_why_17 : decode cX4_why 17 = .ok (.iload_n 2, 1) := by decide +kernel
theorem dX4_why_18 : decode cX4_why 18 = .ok (.invokevirtual 121, 3) := by decide +kernel
theorem dX4_why_21 : decode cX4_why 21 = .ok (.goto 4, 3) := by decide +kernel
theorem dX4_why_24 : decode cX4_why 24 = .ok (.iconst (-1), 1) := by decide +kernel
theorem dX4_why_25 : decode cX4_why 25 = .ok (.ireturn, 1) := by decide +kernel
set_option maxRecDepth 20000 in
theorem ggX4_free_X4_isDay : GoodIn wsX4_free wsX4_isDay := goodIn_r _ [4] (by decide +kernel) (by decide +kernel)
set_option maxRecDepth 20000 in
theorem gX4_free_X4_isDay : GoodIn wsX4_free (va_wsS RX4 78 yX4_isDay wsX4_isDay) := goodIn_app (goodIn_of _ (by decide +kernel)) ggX4_free_X4_isDay
set_option maxRecDepth 20000 in
theorem ggX4_free_X4_freeOf : GoodIn wsX4_free wsX4_freeOf := goodIn_r _ [8, 9, 10, 11, 12, 13, 14, 15, 3, 16, 17, 18, 19, 20, 21, 22, 23, 24, 25, 26, 27, 28, 29, 30, 31, 32, 33, 34, 35, 36, 37, 38, 39, 40, 41, 42, 43, 44, 45, 46, 47, 48, 49, 50, 51, 52, 53, 54, 55, 56, 57, 58, 59, 60, 61, 62, 63, 64] (by decide +kernel) (by decide +kernel)
set_option maxRecDepth 20000 in
theorem gX4_free_X4_freeOf : GoodIn wsX4_free (wsV RX4 111 RX4 yX4_freeOf wsX4_freeOf) := goodIn_app (goodIn_of _ (by decide +kernel)) ggX4_free_X4_freeOf
theorem dX4_free_0 : decode cX4_free 0 = .ok (.iload_n 1, 1) := by decide +kernel
theorem dX4_free_1 : decode cX4_free 1 = .ok (.ifCond .lt 25, 3) := by decide +kernel
theorem dX4_free_4 : decode cX4_free 4 = .ok (.iload_n 1, 1) := by decide +kernel
theorem dX4_free_5 : decode cX4_free 5 = .ok (.iconst 2, 1) := by decide +kernel
theorem dX4_free_6 : decode cX4_free 6 = .ok (.if_icmp .gt 20, 3) := by decide +kernel
theorem dX4_free_9 : decode cX4_free 9 = .ok (.iload_n 2, 1) := by decide +kernel
theorem dX4_free_10 : decode cX4_free 10 = .ok (.invokestatic 78, 3) := by decide +kernel
theorem dX4_free_13 : decode cX4_free 13 = .ok (.ifCond .eq 13, 3) := by decide +kernel
theorem dX4_free_16 : decode cX4_free 16 = .ok (.aload_n 0, 1) := by decide +kernel
theorem dX4_free_17 : decode cX4_free 17 = .ok (.iload_n 1, 1) := by decide +kernel
theorem dX4_free_18 : decode cX4_free 18 = .ok (.iload_n 2, 1) := by decide +kernel
theorem dX4_free_19 : decode cX4_free 19 = .ok (.iconst (-1), 1) := by decide +kernel
theorem dX4_free_20 : decode cX4_free 20 = .ok (.invokevirtual 111, 3) := by decide +kernel
theorem dX4_free_23 : decode cX4_free 23 = .ok (.goto 4, 3) := by decide +kernel
theorem dX4_free_26 : decode cX4_free 26 = .ok (.iconst (-1), 1) := by decide +kernel
theorem dX4_free_27 : decode cX4_free 27 = .ok (.ireturn, 1) := by decide +kernel
set_option maxRecDepth 20000 in
theorem ggX4_poured_X4_isDay : GoodIn wsX4_poured wsX4_isDay := goodIn_r _ [4] (by decide +kernel) (by decide +kernel)
set_option maxRecDepth 20000 in
theorem gX4_poured_X4_isDay : GoodIn wsX4_poured (va_wsS RX4 78 yX4_isDay wsX4_isDay) := goodIn_app (goodIn_of _ (by decide +kernel)) ggX4_poured_X4_isDay
set_option maxRecDepth 20000 in
theorem ggX4_poured_X4_volumes : GoodIn wsX4_poured wsX4_volumes := goodIn_r _ [8, 9, 10, 11, 12, 13, 14, 15, 16, 17, 18, 19, 20, 21, 22, 23, 24, 25, 26, 27, 28, 29, 30, 31, 32, 33, 34, 35, 36] (by decide +kernel) (by decide +kernel)
set_option maxRecDepth 20000 in
theorem gX4_poured_X4_volumes : GoodIn wsX4_poured (wsV RX4 115 RX4 yX4_volumes wsX4_volumes) := goodIn_app (goodIn_of _ (by decide +kernel)) ggX4_poured_X4_volumes
theorem dX4_poured_0 : decode cX4_poured 0 = .ok (.iload_n 1, 1) := by decide +kernel
theorem dX4_poured_1 : decode cX4_poured 1 = .ok (.invokestatic 78, 3) := by decide +kernel
theorem dX4_poured_4 : decode cX4_poured 4 = .ok (.ifCond .eq 12, 3) := by decide +kernel
theorem dX4_poured_7 : decode cX4_poured 7 = .ok (.aload_n 0, 1) := by decide +kernel
theorem dX4_poured_8 : decode cX4_poured 8 = .ok (.iload_n 1, 1) := by decide +kernel
theorem dX4_poured_9 : decode cX4_poured 9 = .ok (.iconst (-1), 1) := by decide +kernel
theorem dX4_poured_10 : decode cX4_poured 10 = .ok (.invokevirtual 115, 3) := by decide +kernel
theorem dX4_poured_13 : decode cX4_poured 13 = .ok (.goto 4, 3) := by decide +kernel
theorem dX4_poured_16 : decode cX4_poured 16 = .ok (.iconst (-1), 1) := by decide +kernel
theorem dX4_poured_17 : decode cX4_poured 17 = .ok (.ireturn, 1) := by decide +kernel
theorem dX4_common_0 : decode cX4_common 0 = .ok (.lload_n 0, 1) := by decide +kernel
theorem dX4_common_1 : decode cX4_common 1 = .ok (.lstore 4, 2) := by decide +kernel
theorem dX4_common_3 : decode cX4_common 3 = .ok (.lload_n 2, 1) := by decide +kernel
theorem dX4_common_4 : decode cX4_common 4 = .ok (.lstore 6, 2) := by decide +kernel
theorem dX4_common_6 : decode cX4_common 6 = .ok (.lload 6, 2) := by decide +kernel
theorem dX4_common_8 : decode cX4_common 8 = .ok (.lconst 0, 1) := by decide +kernel
theorem dX4_common_9 : decode cX4_common 9 = .ok (.lcmp, 1) := by decide +kernel
theorem dX4_common_10 : decode cX4_common 10 = .ok (.ifCond .eq 21, 3) := by decide +kernel
theorem dX4_common_13 : decode cX4_common 13 = .ok (.lload 4, 2) := by decide +kernel
theorem dX4_common_15 : decode cX4_common 15 = .ok (.lload 6, 2) := by decide +kernel
theorem dX4_common_17 : decode cX4_common 17 = .ok (.lrem, 1) := by decide +kernel
theorem dX4_common_18 : decode cX4_common 18 = .ok (.lstore 8, 2) := by decide +kernel
theorem dX4_common_20 : decode cX4_common 20 = .ok (.lload 6, 2) := by decide +kernel
theorem dX4_common_22 : decode cX4_common 22 = .ok (.lstore 4, 2) := by decide +kernel
theorem dX4_common_24 : decode cX4_common 24 = .ok (.lload 8, 2) := by decide +kernel
theorem dX4_common_26 : decode cX4_common 26 = .ok (.lstore 6, 2) := by decide +kernel
theorem dX4_common_28 : decode cX4_common 28 = .ok (.goto (-22), 3) := by decide +kernel
theorem dX4_common_31 : decode cX4_common 31 = .ok (.lload 4, 2) := by decide +kernel
theorem dX4_common_33 : decode cX4_common 33 = .ok (.lreturn, 1) := by decide +kernel
set_option maxRecDepth 20000 in
theorem ggX4_adds_X4_common : GoodIn wsX4_adds wsX4_common := goodIn_r _ [6] (by decide +kernel) (by decide +kernel)
set_option maxRecDepth 20000 in
theorem gX4_adds_X4_common : GoodIn wsX4_adds (va_wsS RX4 142 yX4_common wsX4_common) := goodIn_app (goodIn_of _ (by decide +kernel)) ggX4_adds_X4_common
theorem dX4_adds_0 : decode cX4_adds 0 = .ok (.aload_n 0, 1) := by decide +kernel
theorem dX4_adds_1 : decode cX4_adds 1 = .ok (.getfield 135, 3) := by decide +kernel
theorem dX4_adds_4 : decode cX4_adds 4 = .ok (.lload_n 3, 1) := by decide +kernel
theorem dX4_adds_5 : decode cX4_adds 5 = .ok (.lmul, 1) := by decide +kernel
theorem dX4_adds_6 : decode cX4_adds 6 = .ok (.lload_n 1, 1) := by decide +kernel
theorem dX4_adds_7 : decode cX4_adds 7 = .ok (.aload_n 0, 1) := by decide +kernel
theorem dX4_adds_8 : decode cX4_adds 8 = .ok (.getfield 139, 3) := by decide +kernel
theorem dX4_adds_11 : decode cX4_adds 11 = .ok (.lmul, 1) := by decide +kernel
theorem dX4_adds_12 : decode cX4_adds 12 = .ok (.ladd, 1) := by decide +kernel
theorem dX4_adds_13 : decode cX4_adds 13 = .ok (.lstore 5, 2) := by decide +kernel
theorem dX4_adds_15 : decode cX4_adds 15 = .ok (.aload_n 0, 1) := by decide +kernel
theorem dX4_adds_16 : decode cX4_adds 16 = .ok (.getfield 139, 3) := by decide +kernel
theorem dX4_adds_19 : decode cX4_adds 19 = .ok (.lload_n 3, 1) := by decide +kernel
theorem dX4_adds_20 : decode cX4_adds 20 = .ok (.lmul, 1) := by decide +kernel
theorem dX4_adds_21 : decode cX4_adds 21 = .ok (.lstore 7, 2) := by decide +kernel
theorem dX4_adds_23 : decode cX4_adds 23 = .ok (.lload 7, 2) := by decide +kernel
theorem dX4_adds_25 : decode cX4_adds 25 = .ok (.lload 5, 2) := by decide +kernel
theorem dX4_adds_27 : decode cX4_adds 27 = .ok (.invokestatic 142, 3) := by decide +kernel
theorem dX4_adds_30 : decode cX4_adds 30 = .ok (.lstore 9, 2) := by decide +kernel
theorem dX4_adds_32 : decode cX4_adds 32 = .ok (.aload_n 0, 1) := by decide +kernel
theorem dX4_adds_33 : decode cX4_adds 33 = .ok (.lload 5, 2) := by decide +kernel
theorem dX4_adds_35 : decode cX4_adds 35 = .ok (.lload 9, 2) := by decide +kernel
theorem dX4_adds_37 : decode cX4_adds 37 = .ok (.ldiv, 1) := by decide +kernel
theorem dX4_adds_38 : decode cX4_adds 38 = .ok (.putfield 135, 3) := by decide +kernel
theorem dX4_adds_41 : decode cX4_adds 41 = .ok (.aload_n 0, 1) := by decide +kernel
theorem dX4_adds_42 : decode cX4_adds 42 = .ok (.lload 7, 2) := by decide +kernel
theorem dX4_adds_44 : decode cX4_adds 44 = .ok (.lload 9, 2) := by decide +kernel
theorem dX4_adds_46 : decode cX4_adds 46 = .ok (.ldiv, 1) := by decide +kernel
theorem dX4_adds_47 : decode cX4_adds 47 = .ok (.putfield 139, 3) := by decide +kernel
theorem dX4_adds_50 : decode cX4_adds 50 = .ok (.return_, 1) := by decide +kernel
set_option maxRecDepth 20000 in
theorem ggX4_borne_X4_isPiece : GoodIn wsX4_borne wsX4_isPiece := goodIn_r _ [13, 6, 50, 51, 52, 53, 54, 55, 56, 57, 58, 59, 60, 61, 62, 63, 64, 65, 66, 67, 68, 69, 70, 71, 72, 73, 74] (by decide +kernel) (by decide +kernel)
set_option maxRecDepth 20000 in
theorem gX4_borne_X4_isPiece : GoodIn wsX4_borne (wsV RX4 70 RX4 yX4_isPiece wsX4_isPiece) := goodIn_app (goodIn_of _ (by decide +kernel)) ggX4_borne_X4_isPiece
set_option maxRecDepth 20000 in
theorem ggX4_borne_X4_isDay : GoodIn wsX4_borne wsX4_isDay := goodIn_r _ [16] (by decide +kernel) (by decide +kernel)
set_option maxRecDepth 20000 in
theorem gX4_borne_X4_isDay : GoodIn wsX4_borne (va_wsS RX4 78 yX4_isDay wsX4_isDay) := goodIn_app (goodIn_of _ (by decide +kernel)) ggX4_borne_X4_isDay
set_option maxRecDepth 20000 in
theorem ggX4_borne_X4_isPoured : GoodIn wsX4_borne wsX4_isPoured := goodIn_r _ [20, 8, 50, 51, 52, 53, 54, 55, 56, 57, 58, 59, 60, 61, 62, 63, 64, 65, 66, 67, 68, 69, 70, 71, 72, 73, 74] (by decide +kernel) (by decide +kernel)
set_option maxRecDepth 20000 in
theorem gX4_borne_X4_isPoured : GoodIn wsX4_borne (wsV RX4 99 RX4 yX4_isPoured wsX4_isPoured) := goodIn_app (goodIn_of _ (by decide +kernel)) ggX4_borne_X4_isPoured
set_option maxRecDepth 20000 in
theorem ggX4_borne_X4_holds : GoodIn wsX4_borne wsX4_holds := goodIn_r _ [24, 8, 17, 18, 19, 12, 20, 25, 26, 27, 28, 29, 30, 31, 32, 33, 34, 35, 36, 37, 38, 39, 40, 41, 42, 50, 51, 52, 53, 54, 55, 56, 57, 58, 59, 60, 61, 62, 63, 64, 65, 66, 67, 68, 69, 70, 71, 72, 73, 74] (by decide +kernel) (by decide +kernel)
set_option maxRecDepth 20000 in
theorem gX4_borne_X4_holds : GoodIn wsX4_borne (wsV RX4 105 RX4 yX4_holds wsX4_holds) := goodIn_app (goodIn_of _ (by decide +kernel)) ggX4_borne_X4_holds
set_option maxRecDepth 20000 in
theorem ggX4_borne_X4_hardness : GoodIn wsX4_borne wsX4_hardness := goodIn_r _ [33, 34, 35, 36, 37, 38, 12, 39, 40, 41, 42, 50, 51, 52, 53, 54, 55, 56, 57, 58, 59, 60, 61, 62, 63, 64, 65, 66, 67, 68, 69, 70, 71, 72, 73, 74] (by decide +kernel) (by decide +kernel)
set_option maxRecDepth 20000 in
theorem gX4_borne_X4_hardness : GoodIn wsX4_borne (wsV RX4 95 RX4 yX4_hardness wsX4_hardness) := goodIn_app (goodIn_of _ (by decide +kernel)) ggX4_borne_X4_hardness
set_option maxRecDepth 20000 in
theorem ggX4_borne_X4_adds : GoodIn wsX4_borne wsX4_adds := goodIn_r _ [46, 4, 5, 47, 48, 12, 49, 50, 51, 52, 53, 54, 55, 56, 57, 58, 59, 60, 61, 62, 63, 64, 65, 66, 67, 68, 69, 70, 71, 72, 73, 74] (by decide +kernel) (by decide +kernel)
set_option maxRecDepth 20000 in
theorem gX4_borne_X4_adds : GoodIn wsX4_borne (wsV RX4 148 RX4 yX4_adds wsX4_adds) := goodIn_app (goodIn_of _ (by decide +kernel)) ggX4_borne_X4_adds
theorem dX4_borne_0 : decode cX4_borne 0 = .ok (.aload_n 0, 1) := by decide +kernel
theorem dX4_borne_1 : decode cX4_borne 1 = .ok (.iload_n 1, 1) := by decide +kernel
theorem dX4_borne_2 : decode cX4_borne 2 = .ok (.invokevirtual 70, 3) := by decide +kernel
theorem dX4_borne_5 : decode cX4_borne 5 = .ok (.ifCond .eq 37, 3) := by decide +kernel
theorem dX4_borne_8 : decode cX4_borne 8 = .ok (.iload_n 2, 1) := by decide +kernel
theorem dX4_borne_9 : decode cX4_borne 9 = .ok (.invokestatic 78, 3) := by decide +kernel
theorem dX4_borne_12 : decode cX4_borne 12 = .ok (.ifCond .eq 30, 3) := by decide +kernel
theorem dX4_borne_15 : decode cX4_borne 15 = .ok (.iload_n 3, 1) := by decide +kernel
theorem dX4_borne_16 : decode cX4_borne 16 = .ok (.ifCond .lt 26, 3) := by decide +kernel
theorem dX4_borne_19 : decode cX4_borne 19 = .ok (.iload_n 3, 1) := by decide +kernel
theorem dX4_borne_20 : decode cX4_borne 20 = .ok (.iconst 1, 1) := by decide +kernel
theorem dX4_borne_21 : decode cX4_borne 21 = .ok (.if_icmp .gt 21, 3) := by decide +kernel
theorem dX4_borne_24 : decode cX4_borne 24 = .ok (.aload_n 0, 1) := by decide +kernel
theorem dX4_borne_25 : decode cX4_borne 25 = .ok (.getfield 21, 3) := by decide +kernel
theorem dX4_borne_28 : decode cX4_borne 28 = .ok (.iload_n 1, 1) := by decide +kernel
theorem dX4_borne_29 : decode cX4_borne 29 = .ok (.iaload, 1) := by decide +kernel
theorem dX4_borne_30 : decode cX4_borne 30 = .ok (.ifCond .ne 12, 3) := by decide +kernel
theorem dX4_borne_33 : decode cX4_borne 33 = .ok (.aload_n 0, 1) := by decide +kernel
theorem dX4_borne_34 : decode cX4_borne 34 = .ok (.iload_n 1, 1) := by decide +kernel
theorem dX4_borne_35 : decode cX4_borne 35 = .ok (.iload_n 2, 1) := by decide +kernel
theorem dX4_borne_36 : decode cX4_borne 36 = .ok (.invokevirtual 99, 3) := by decide +kernel
theorem dX4_borne_39 : decode cX4_borne 39 = .ok (.ifCond .ne 7, 3) := by decide +kernel
theorem dX4_borne_42 : decode cX4_borne 42 = .ok (.ldc2_w 146, 3) := by decide +kernel
theorem dX4_borne_45 : decode cX4_borne 45 = .ok (.lreturn, 1) := by decide +kernel
theorem dX4_borne_46 : decode cX4_borne 46 = .ok (.aload_n 0, 1) := by decide +kernel
theorem dX4_borne_47 : decode cX4_borne 47 = .ok (.aload_n 0, 1) := by decide +kernel
theorem dX4_borne_48 : decode cX4_borne 48 = .ok (.getfield 28, 3) := by decide +kernel
theorem dX4_borne_51 : decode cX4_borne 51 = .ok (.iload_n 1, 1) := by decide +kernel
theorem dX4_borne_52 : decode cX4_borne 52 = .ok (.iaload, 1) := by decide +kernel
theorem dX4_borne_53 : decode cX4_borne 53 = .ok (.i2l, 1) := by decide +kernel
theorem dX4_borne_54 : decode cX4_borne 54 = .ok (.putfield 135, 3) := by decide +kernel
theorem dX4_borne_57 : decode cX4_borne 57 = .ok (.aload_n 0, 1) := by decide +kernel
theorem dX4_borne_58 : decode cX4_borne 58 = .ok (.lconst 1, 1) := by decide +kernel
theorem dX4_borne_59 : decode cX4_borne 59 = .ok (.putfield 139, 3) := by decide +kernel
theorem dX4_borne_62 : decode cX4_borne 62 = .ok (.iconst 0, 1) := by decide +kernel
theorem dX4_borne_63 : decode cX4_borne 63 = .ok (.istore 4, 2) := by decide +kernel
theorem dX4_borne_65 : decode cX4_borne 65 = .ok (.iload 4, 2) := by decide +kernel
theorem dX4_borne_67 : decode cX4_borne 67 = .ok (.aload_n 0, 1) := by decide +kernel
theorem dX4_borne_68 : decode cX4_borne 68 = .ok (.getfield 67, 3) := by decide +kernel
theorem dX4_borne_71 : decode cX4_borne 71 = .ok (.if_icmp .ge 182, 3) := by decide +kernel
theorem dX4_borne_74 : decode cX4_borne 74 = .ok (.aload_n 0, 1) := by decide +kernel
theorem dX4_borne_75 : decode cX4_borne 75 = .ok (.getfield 25, 3) := by decide +kernel
theorem dX4_borne_78 : decode cX4_borne 78 = .ok (.iload 4, 2) := by decide +kernel
theorem dX4_borne_80 : decode cX4_borne 80 = .ok (.iaload, 1) := by decide +kernel
theorem dX4_borne_81 : decode cX4_borne 81 = .ok (.aload_n 0, 1) := by decide +kernel
theorem dX4_borne_82 : decode cX4_borne 82 = .ok (.getfield 25, 3) := by decide +kernel
theorem dX4_borne_85 : decode cX4_borne 85 = .ok (.iload_n 1, 1) := by decide +kernel
theorem dX4_borne_86 : decode cX4_borne 86 = .ok (.iaload, 1) := by decide +kernel
theorem dX4_borne_87 : decode cX4_borne 87 = .ok (.isub, 1) := by decide +kernel
theorem dX4_borne_88 : decode cX4_borne 88 = .ok (.istore 5, 2) := by decide +kernel
theorem dX4_borne_90 : decode cX4_borne 90 = .ok (.aload_n 0, 1) := by decide +kernel
theorem dX4_borne_91 : decode cX4_borne 91 = .ok (.getfield 21, 3) := by decide +kernel
theorem dX4_borne_94 : decode cX4_borne 94 = .ok (.iload 4, 2) := by decide +kernel
theorem dX4_borne_96 : decode cX4_borne 96 = .ok (.iaload, 1) := by decide +kernel
theorem dX4_borne_97 : decode cX4_borne 97 = .ok (.ifCond .ne 150, 3) := by decide +kernel
theorem dX4_borne_100 : decode cX4_borne 100 = .ok (.iload 5, 2) := by decide +kernel
theorem dX4_borne_102 : decode cX4_borne 102 = .ok (.iconst 1, 1) := by decide +kernel
theorem dX4_borne_103 : decode cX4_borne 103 = .ok (.if_icmp .lt 144, 3) := by decide +kernel
theorem dX4_borne_106 : decode cX4_borne 106 = .ok (.iload 5, 2) := by decide +kernel
theorem dX4_borne_108 : decode cX4_borne 108 = .ok (.iconst 2, 1) := by decide +kernel
theorem dX4_borne_109 : decode cX4_borne 109 = .ok (.if_icmp .gt 138, 3) := by decide +kernel
theorem dX4_borne_112 : decode cX4_borne 112 = .ok (.aload_n 0, 1) := by decide +kernel
theorem dX4_borne_113 : decode cX4_borne 113 = .ok (.iload 4, 2) := by decide +kernel
theorem dX4_borne_115 : decode cX4_borne 115 = .ok (.iload_n 2, 1) := by decide +kernel
theorem dX4_borne_116 : decode cX4_borne 116 = .ok (.invokevirtual 105, 3) := by decide +kernel
theorem dX4_borne_119 : decode cX4_borne 119 = .ok (.ifCond .ne 6, 3) := by decide +kernel
theorem dX4_borne_122 : decode cX4_borne 122 = .ok (.goto 125, 3) := by decide +kernel
theorem dX4_borne_125 : decode cX4_borne 125 = .ok (.lconst 0, 1) := by decide +kernel
theorem dX4_borne_126 : decode cX4_borne 126 = .ok (.lstore 6, 2) := by decide +kernel
theorem dX4_borne_128 : decode cX4_borne 128 = .ok (.iconst 0, 1) := by decide +kernel
theorem dX4_borne_129 : decode cX4_borne 129 = .ok (.istore 8, 2) := by decide +kernel
theorem dX4_borne_131 : decode cX4_borne 131 = .ok (.iload 8, 2) := by decide +kernel
theorem dX4_borne_133 : decode cX4_borne 133 = .ok (.aload_n 0, 1) := by decide +kernel
theorem dX4_borne_134 : decode cX4_borne 134 = .ok (.getfield 67, 3) := by decide +kernel
theorem dX4_borne_137 : decode cX4_borne 137 = .ok (.if_icmp .ge 76, 3) := by decide +kernel
theorem dX4_borne_140 : decode cX4_borne 140 = .ok (.aload_n 0, 1) := by decide +kernel
theorem dX4_borne_141 : decode cX4_borne 141 = .ok (.getfield 25, 3) := by decide +kernel
theorem dX4_borne_144 : decode cX4_borne 144 = .ok (.iload 4, 2) := by decide +kernel
theorem dX4_borne_146 : decode cX4_borne 146 = .ok (.iaload, 1) := by decide +kernel
theorem dX4_borne_147 : decode cX4_borne 147 = .ok (.aload_n 0, 1) := by decide +kernel
theorem dX4_borne_148 : decode cX4_borne 148 = .ok (.getfield 25, 3) := by decide +kernel
theorem dX4_borne_151 : decode cX4_borne 151 = .ok (.iload 8, 2) := by decide +kernel
theorem dX4_borne_153 : decode cX4_borne 153 = .ok (.iaload, 1) := by decide +kernel
theorem dX4_borne_154 : decode cX4_borne 154 = .ok (.isub, 1) := by decide +kernel
theorem dX4_borne_155 : decode cX4_borne 155 = .ok (.istore 9, 2) := by decide +kernel
theorem dX4_borne_157 : decode cX4_borne 157 = .ok (.aload_n 0, 1) := by decide +kernel
theorem dX4_borne_158 : decode cX4_borne 158 = .ok (.getfield 21, 3) := by decide +kernel
theorem dX4_borne_161 : decode cX4_borne 161 = .ok (.iload 8, 2) := by decide +kernel
theorem dX4_borne_163 : decode cX4_borne 163 = .ok (.iaload, 1) := by decide +kernel
theorem dX4_borne_164 : decode cX4_borne 164 = .ok (.ifCond .ne 43, 3) := by decide +kernel
theorem dX4_borne_167 : decode cX4_borne 167 = .ok (.iload 9, 2) := by decide +kernel
theorem dX4_borne_169 : decode cX4_borne 169 = .ok (.iconst 1, 1) := by decide +kernel
theorem dX4_borne_170 : decode cX4_borne 170 = .ok (.if_icmp .eq 9, 3) := by decide +kernel
theorem dX4_borne_173 : decode cX4_borne 173 = .ok (.iload 9, 2) := by decide +kernel
theorem dX4_borne_175 : decode cX4_borne 175 = .ok (.iconst 2, 1) := by decide +kernel
theorem dX4_borne_176 : decode cX4_borne 176 = .ok (.if_icmp .ne 31, 3) := by decide +kernel
theorem dX4_borne_179 : decode cX4_borne 179 = .ok (.aload_n 0, 1) := by decide +kernel
theorem dX4_borne_180 : decode cX4_borne 180 = .ok (.iload 8, 2) := by decide +kernel
theorem dX4_borne_182 : decode cX4_borne 182 = .ok (.iload_n 2, 1) := by decide +kernel
theorem dX4_borne_183 : decode cX4_borne 183 = .ok (.invokevirtual 99, 3) := by decide +kernel
theorem dX4_borne_186 : decode cX4_borne 186 = .ok (.ifCond .eq 21, 3) := by decide +kernel
theorem dX4_borne_189 : decode cX4_borne 189 = .ok (.lload 6, 2) := by decide +kernel
theorem dX4_borne_191 : decode cX4_borne 191 = .ok (.aload_n 0, 1) := by decide +kernel
theorem dX4_borne_192 : decode cX4_borne 192 = .ok (.aload_n 0, 1) := by decide +kernel
theorem dX4_borne_193 : decode cX4_borne 193 = .ok (.getfield 37, 3) := by decide +kernel
theorem dX4_borne_196 : decode cX4_borne 196 = .ok (.iload 8, 2) := by decide +kernel
theorem dX4_borne_198 : decode cX4_borne 198 = .ok (.iaload, 1) := by decide +kernel
theorem dX4_borne_199 : decode cX4_borne 199 = .ok (.iload_n 2, 1) := by decide +kernel
theorem dX4_borne_200 : decode cX4_borne 200 = .ok (.invokevirtual 95, 3) := by decide +kernel
theorem dX4_borne_203 : decode cX4_borne 203 = .ok (.i2l, 1) := by decide +kernel
theorem dX4_borne_204 : decode cX4_borne 204 = .ok (.ladd, 1) := by decide +kernel
theorem dX4_borne_205 : decode cX4_borne 205 = .ok (.lstore 6, 2) := by decide +kernel
theorem dX4_borne_207 : decode cX4_borne 207 = .ok (.iinc 8 1, 3) := by decide +kernel
theorem dX4_borne_210 : decode cX4_borne 210 = .ok (.goto (-79), 3) := by decide +kernel
theorem dX4_borne_213 : decode cX4_borne 213 = .ok (.lload 6, 2) := by decide +kernel
theorem dX4_borne_215 : decode cX4_borne 215 = .ok (.lconst 0, 1) := by decide +kernel
theorem dX4_borne_216 : decode cX4_borne 216 = .ok (.lcmp, 1) := by decide +kernel
theorem dX4_borne_217 : decode cX4_borne 217 = .ok (.ifCond .le 30, 3) := by decide +kernel
theorem dX4_borne_220 : decode cX4_borne 220 = .ok (.aload_n 0, 1) := by decide +kernel
theorem dX4_borne_221 : decode cX4_borne 221 = .ok (.aload_n 0, 1) := by decide +kernel
theorem dX4_borne_222 : decode cX4_borne 222 = .ok (.getfield 28, 3) := by decide +kernel
theorem dX4_borne_225 : decode cX4_borne 225 = .ok (.iload 4, 2) := by decide +kernel
theorem dX4_borne_227 : decode cX4_borne 227 = .ok (.iaload, 1) := by decide +kernel
theorem dX4_borne_228 : decode cX4_borne 228 = .ok (.i2l, 1) := by decide +kernel
theorem dX4_borne_229 : decode cX4_borne 229 = .ok (.aload_n 0, 1) := by decide +kernel
theorem dX4_borne_230 : decode cX4_borne 230 = .ok (.aload_n 0, 1) := by decide +kernel
theorem dX4_borne_231 : decode cX4_borne 231 = .ok (.getfield 37, 3) := by decide +kernel
theorem dX4_borne_234 : decode cX4_borne 234 = .ok (.iload_n 1, 1) := by decide +kernel
theorem dX4_borne_235 : decode cX4_borne 235 = .ok (.iaload, 1) := by decide +kernel
theorem dX4_borne_236 : decode cX4_borne 236 = .ok (.iload_n 2, 1) := by decide +kernel
theorem dX4_borne_237 : decode cX4_borne 237 = .ok (.invokevirtual 95, 3) := by decide +kernel
theorem dX4_borne_240 : decode cX4_borne 240 = .ok (.i2l, 1) := by decide +kernel
theorem dX4_borne_241 : decode cX4_borne 241 = .ok (.lmul, 1) := by decide +kernel
theorem dX4_borne_242 : decode cX4_borne 242 = .ok (.lload 6, 2) := by decide +kernel
theorem dX4_borne_244 : decode cX4_borne 244 = .ok (.invokevirtual 148, 3) := by decide +kernel
theorem dX4_borne_247 : decode cX4_borne 247 = .ok (.iinc 4 1, 3) := by decide +kernel
theorem dX4_borne_250 : decode cX4_borne 250 = .ok (.goto (-185), 3) := by decide +kernel
theorem dX4_borne_253 : decode cX4_borne 253 = .ok (.iload_n 3, 1) := by decide +kernel
theorem dX4_borne_254 : decode cX4_borne 254 = .ok (.ifCond .ne 10, 3) := by decide +kernel
theorem dX4_borne_257 : decode cX4_borne 257 = .ok (.aload_n 0, 1) := by decide +kernel
theorem dX4_borne_258 : decode cX4_borne 258 = .ok (.getfield 135, 3) := by decide +kernel
theorem dX4_borne_261 : decode cX4_borne 261 = .ok (.goto 7, 3) := by decide +kernel
theorem dX4_borne_264 : decode cX4_borne 264 = .ok (.aload_n 0, 1) := by decide +kernel
theorem dX4_borne_265 : decode cX4_borne 265 = .ok (.getfield 139, 3) := by decide +kernel
theorem dX4_borne_268 : decode cX4_borne 268 = .ok (.lreturn, 1) := by decide +kernel
theorem dX4_count_0 : decode cX4_count 0 = .ok (.iload_n 1, 1) := by decide +kernel
theorem dX4_count_1 : decode cX4_count 1 = .ok (.tableswitch 106 0 6 #[43, 48, 81, 86, 91, 96, 101], 43) := by decide +kernel
theorem dX4_count_44 : decode cX4_count 44 = .ok (.aload_n 0, 1) := by decide +kernel
theorem dX4_count_45 : decode cX4_count 45 = .ok (.getfield 67, 3) := by decide +kernel
theorem dX4_count_48 : decode cX4_count 48 = .ok (.ireturn, 1) := by decide +kernel
theorem dX4_count_49 : decode cX4_count 49 = .ok (.iconst 0, 1) := by decide +kernel
theorem dX4_count_50 : decode cX4_count 50 = .ok (.istore_n 2, 1) := by decide +kernel
theorem dX4_count_51 : decode cX4_count 51 = .ok (.iconst 0, 1) := by decide +kernel
theorem dX4_count_52 : decode cX4_count 52 = .ok (.istore_n 3, 1) := by decide +kernel
theorem dX4_count_53 : decode cX4_count 53 = .ok (.iload_n 3, 1) := by decide +kernel
theorem dX4_count_54 : decode cX4_count 54 = .ok (.aload_n 0, 1) := by decide +kernel
theorem dX4_count_55 : decode cX4_count 55 = .ok (.getfield 67, 3) := by decide +kernel
theorem dX4_count_58 : decode cX4_count 58 = .ok (.if_icmp .ge 22, 3) := by decide +kernel
theorem dX4_count_61 : decode cX4_count 61 = .ok (.aload_n 0, 1) := by decide +kernel
theorem dX4_count_62 : decode cX4_count 62 = .ok (.getfield 37, 3) := by decide +kernel
theorem dX4_count_65 : decode cX4_count 65 = .ok (.iload_n 3, 1) := by decide +kernel
theorem dX4_count_66 : decode cX4_count 66 = .ok (.iaload, 1) := by decide +kernel
theorem dX4_count_67 : decode cX4_count 67 = .ok (.iconst (-1), 1) := by decide +kernel
theorem dX4_count_68 : decode cX4_count 68 = .ok (.if_icmp .eq 6, 3) := by decide +kernel
theorem dX4_count_71 : decode cX4_count 71 = .ok (.iinc 2 1, 3) := by decide +kernel
theorem dX4_count_74 : decode cX4_count 74 = .ok (.iinc 3 1, 3) := by decide +kernel
theorem dX4_count_77 : decode cX4_count 77 = .ok (.goto (-24), 3) := by decide +kernel
theorem dX4_count_80 : decode cX4_count 80 = .ok (.iload_n 2, 1) := by decide +kernel
theorem dX4_count_81 : decode cX4_count 81 = .ok (.ireturn, 1) := by decide +kernel
theorem dX4_count_82 : decode cX4_count 82 = .ok (.aload_n 0, 1) := by decide +kernel
theorem dX4_count_83 : decode cX4_count 83 = .ok (.getfield 118, 3) := by decide +kernel
theorem dX4_count_86 : decode cX4_count 86 = .ok (.ireturn, 1) := by decide +kernel
theorem dX4_count_87 : decode cX4_count 87 = .ok (.aload_n 0, 1) := by decide +kernel
theorem dX4_count_88 : decode cX4_count 88 = .ok (.getfield 88, 3) := by decide +kernel
theorem dX4_count_91 : decode cX4_count 91 = .ok (.ireturn, 1) := by decide +kernel
theorem dX4_count_92 : decode cX4_count 92 = .ok (.aload_n 0, 1) := by decide +kernel
theorem dX4_count_93 : decode cX4_count 93 = .ok (.getfield 9, 3) := by decide +kernel
theorem dX4_count_96 : decode cX4_count 96 = .ok (.ireturn, 1) := by decide +kernel
theorem dX4_count_97 : decode cX4_count 97 = .ok (.aload_n 0, 1) := by decide +kernel
theorem dX4_count_98 : decode cX4_count 98 = .ok (.getfield 85, 3) := by decide +kernel
theorem dX4_count_101 : decode cX4_count 101 = .ok (.ireturn, 1) := by decide +kernel
theorem dX4_count_102 : decode cX4_count 102 = .ok (.aload_n 0, 1) := by decide +kernel
theorem dX4_count_103 : decode cX4_count 103 = .ok (.getfield 128, 3) := by decide +kernel
theorem dX4_count_106 : decode cX4_count 106 = .ok (.ireturn, 1) := by decide +kernel
theorem dX4_count_107 : decode cX4_count 107 = .ok (.iconst (-1), 1) := by decide +kernel
theorem dX4_count_108 : decode cX4_count 108 = .ok (.ireturn, 1) := by decide +kernel
theorem dJ9_max_7cf53_0 : decode cJ9_max_7cf53 0 = .ok (.iload_n 0, 1) := by decide +kernel
theorem dJ9_max_7cf53_1 : decode cJ9_max_7cf53 1 = .ok (.iload_n 1, 1) := by decide +kernel
theorem dJ9_max_7cf53_2 : decode cJ9_max_7cf53 2 = .ok (.if_icmp .lt 7, 3) := by decide +kernel
theorem dJ9_max_7cf53_5 : decode cJ9_max_7cf53 5 = .ok (.iload_n 0, 1) := by decide +kernel
theorem dJ9_max_7cf53_6 : decode cJ9_max_7cf53 6 = .ok (.goto 4, 3) := by decide +kernel
theorem dJ9_max_7cf53_9 : decode cJ9_max_7cf53 9 = .ok (.iload_n 1, 1) := by decide +kernel
theorem dJ9_max_7cf53_10 : decode cJ9_max_7cf53 10 = .ok (.ireturn, 1) := by decide +kernel
end
section
set_option maxRecDepth 20000 in
theorem ggL_law_X3_init : GoodIn wsL_law wsX3_init := goodIn_r _ [8, 9, 10, 11, 12, 13, 14, 15, 16, 17, 18, 19, 20, 21, 22, 23, 24, 25, 26, 27, 28, 29, 30, 31, 32, 33, 34, 35, 36, 37, 38, 39, 40, 41, 42, 43, 44, 45, 46, 47, 48, 49, 50, 51, 52, 53, 54, 55, 56, 57, 58, 59, 60, 61, 62, 63, 64, 65, 66, 67, 68, 69, 70, 71, 72, 73, 74, 507, 508, 509, 510, 511, 512, 513, 514, 474, 475, 476, 477, 478, 479, 480, 481, 515, 516, 517, 518, 519, 520, 521, 522, 523, 524, 525] (by decide +kernel) (by decide +kernel)
set_option maxRecDepth 20000 in
theorem gL_law_X3_init : GoodIn wsL_law (wsX3_init) := ggL_law_X3_init
set_option maxRecDepth 20000 in
theorem ggL_law_X4_init : GoodIn wsL_law wsX4_init := goodIn_r _ [77, 78, 10, 11, 79, 80, 81, 24, 82, 83, 84, 85, 86, 87, 88, 89, 90, 91, 92, 93, 94, 95, 96, 482, 483, 484, 485, 486, 487, 488, 489, 490, 491, 492, 493, 494, 495, 496, 497, 498, 499, 500, 501, 502, 503, 504, 505, 506] (by decide +kernel) (by decide +kernel)
set_option maxRecDepth 20000 in
theorem gL_law_X4_init : GoodIn wsL_law (wsX4_init) := ggL_law_X4_init
set_option maxRecDepth 20000 in
theorem ggL_law_X3_piece : GoodIn wsL_law wsX3_piece := goodIn_r _ [100, 19, 23, 101, 102, 2, 103, 104, 22, 105, 106, 74, 73, 107, 18, 108, 109, 69, 60, 61, 62, 63, 64, 474, 475, 476, 477, 478, 479, 480, 481, 515, 516, 517, 518, 519, 520, 521, 522, 523, 524, 525] (by decide +kernel) (by decide +kernel)
set_option maxRecDepth 20000 in
theorem gL_law_X3_piece : GoodIn wsL_law (wsV RL 13 RX3 yX3_piece wsX3_piece) := goodIn_app (goodIn_of _ (by decide +kernel)) ggL_law_X3_piece
set_option maxRecDepth 20000 in
theorem ggL_law_X4_piece : GoodIn wsL_law wsX4_piece := goodIn_r _ [113, 114, 82, 83, 84, 85, 86, 87, 89, 482, 483, 484, 485, 486, 487, 488, 489, 490, 491, 492, 493, 494, 495, 496, 497, 498, 499, 500, 501, 502, 503, 504, 505, 506] (by decide +kernel) (by decide +kernel)
set_option maxRecDepth 20000 in
theorem gL_law_X4_piece : GoodIn wsL_law (wsV RL 17 RX4 yX4_piece wsX4_piece) := goodIn_app (goodIn_of _ (by decide +kernel)) ggL_law_X4_piece
set_option maxRecDepth 20000 in
theorem ggL_law_X3_ahead : GoodIn wsL_law wsX3_ahead := goodIn_r _ [118, 19, 119, 18, 120, 121, 69, 101, 102, 2, 103, 122, 123, 124, 68, 125, 126, 127, 128, 67, 129, 46, 47, 48, 474, 475, 476, 477, 478, 479, 480, 481, 515, 516, 517, 518, 519, 520, 521, 522, 523] (by decide +kernel) (by decide +kernel)
set_option maxRecDepth 20000 in
theorem gL_law_X3_ahead : GoodIn wsL_law (wsV RL 18 RX3 yX3_ahead wsX3_ahead) := goodIn_app (goodIn_of _ (by decide +kernel)) ggL_law_X3_ahead
set_option maxRecDepth 20000 in
theorem ggL_law_X4_ahead : GoodIn wsL_law wsX4_ahead := goodIn_r _ [133, 88, 134, 135, 136, 5, 137, 114, 138, 139, 140, 141, 482, 483, 484, 485, 486, 487, 488, 489, 490, 491, 492, 493, 494, 495, 496, 497, 498, 499, 500, 501, 502, 503, 504, 505, 506] (by decide +kernel) (by decide +kernel)
set_option maxRecDepth 20000 in
theorem gL_law_X4_ahead : GoodIn wsL_law (wsV RL 22 RX4 yX4_ahead wsX4_ahead) := goodIn_app (goodIn_of _ (by decide +kernel)) ggL_law_X4_ahead
set_option maxRecDepth 20000 in
theorem ggL_law_X3_form : GoodIn wsL_law wsX3_form := goodIn_r _ [145, 25, 101, 102, 2, 103, 474, 475, 476, 477, 478, 479, 480, 481] (by decide +kernel) (by decide +kernel)
set_option maxRecDepth 20000 in
theorem gL_law_X3_form : GoodIn wsL_law (wsV RL 23 RX3 yX3_form wsX3_form) := goodIn_app (goodIn_of _ (by decide +kernel)) ggL_law_X3_form
set_option maxRecDepth 20000 in
theorem ggL_law_X4_form : GoodIn wsL_law wsX4_form := goodIn_r _ [149, 92, 482, 483, 484, 485, 486, 487, 488, 489, 490, 491, 492, 493, 494, 495, 496, 497, 498, 499, 500, 501, 502, 503, 504, 505, 506] (by decide +kernel) (by decide +kernel)
set_option maxRecDepth 20000 in
theorem gL_law_X4_form : GoodIn wsL_law (wsV RL 27 RX4 yX4_form wsX4_form) := goodIn_app (goodIn_of _ (by decide +kernel)) ggL_law_X4_form
set_option maxRecDepth 20000 in
theorem ggL_law_X3_gang : GoodIn wsL_law wsX3_gang := goodIn_r _ [153, 27, 101, 102, 2, 103, 474, 475, 476, 477, 478, 479, 480, 481] (by decide +kernel) (by decide +kernel)
set_option maxRecDepth 20000 in
theorem gL_law_X3_gang : GoodIn wsL_law (wsV RL 28 RX3 yX3_gang wsX3_gang) := goodIn_app (goodIn_of _ (by decide +kernel)) ggL_law_X3_gang
set_option maxRecDepth 20000 in
theorem ggL_law_X4_gang : GoodIn wsL_law wsX4_gang := goodIn_r _ [157, 79, 482, 483, 484, 485, 486, 487, 488, 489, 490, 491, 492, 493, 494, 495, 496, 497, 498, 499, 500, 501, 502, 503, 504, 505, 506] (by decide +kernel) (by decide +kernel)
set_option maxRecDepth 20000 in
theorem gL_law_X4_gang : GoodIn wsL_law (wsV RL 32 RX4 yX4_gang wsX4_gang) := goodIn_app (goodIn_of _ (by decide +kernel)) ggL_law_X4_gang
set_option maxRecDepth 20000 in
theorem ggL_law_X3_level : GoodIn wsL_law wsX3_level := goodIn_r _ [161, 15, 101, 102, 2, 103, 42, 14, 43, 44, 37, 33, 39, 45, 46, 47, 48, 34, 38, 49, 50, 51, 52, 53, 54, 55, 56, 40, 35, 36, 474, 475, 476, 477, 478, 479, 480, 481, 507, 508, 509, 510, 511, 512, 513, 514] (by decide +kernel) (by decide +kernel)
set_option maxRecDepth 20000 in
theorem gL_law_X3_level : GoodIn wsL_law (wsV RL 33 RX3 yX3_level wsX3_level) := goodIn_app (goodIn_of _ (by decide +kernel)) ggL_law_X3_level
set_option maxRecDepth 20000 in
theorem ggL_law_X4_level : GoodIn wsL_law wsX4_level := goodIn_r _ [165, 80, 81, 482, 483, 484, 485, 486, 487, 488, 489, 490, 491, 492, 493, 494, 495, 496, 497, 498, 499, 500, 501, 502, 503, 504, 505, 506] (by decide +kernel) (by decide +kernel)
set_option maxRecDepth 20000 in
theorem gL_law_X4_level : GoodIn wsL_law (wsV RL 36 RX4 yX4_level wsX4_level) := goodIn_app (goodIn_of _ (by decide +kernel)) ggL_law_X4_level
set_option maxRecDepth 20000 in
theorem ggL_law_X3_warm : GoodIn wsL_law wsX3_warm := goodIn_r _ [169, 170, 171, 15, 172, 173, 2, 174, 101, 102, 103, 42, 14, 43, 44, 37, 33, 39, 45, 46, 47, 48, 34, 38, 49, 50, 51, 52, 53, 54, 55, 56, 40, 35, 36, 474, 475, 476, 477, 478, 479, 480, 481, 507, 508, 509, 510, 511, 512, 513, 514] (by decide +kernel) (by decide +kernel)
set_option maxRecDepth 20000 in
theorem gL_law_X3_warm : GoodIn wsL_law (wsV RL 37 RX3 yX3_warm wsX3_warm) := goodIn_app (goodIn_of _ (by decide +kernel)) ggL_law_X3_warm
set_option maxRecDepth 20000 in
theorem ggL_law_X4_warm : GoodIn wsL_law wsX4_warm := goodIn_r _ [178, 179, 180, 93, 181, 182, 5, 183, 482, 483, 484, 485, 486, 487, 488, 489, 490, 491, 492, 493, 494, 495, 496, 497, 498, 499, 500, 501, 502, 503, 504, 505, 506] (by decide +kernel) (by decide +kernel)
set_option maxRecDepth 20000 in
theorem gL_law_X4_warm : GoodIn wsL_law (wsV RL 40 RX4 yX4_warm wsX4_warm) := goodIn_app (goodIn_of _ (by decide +kernel)) ggL_law_X4_warm
set_option maxRecDepth 20000 in
theorem ggL_law_X3_base : GoodIn wsL_law wsX3_base := goodIn_r _ [187, 15, 101, 102, 2, 103, 42, 14, 43, 44, 37, 33, 39, 45, 46, 47, 48, 34, 38, 49, 50, 51, 52, 53, 54, 55, 56, 40, 35, 36, 474, 475, 476, 477, 478, 479, 480, 481, 507, 508, 509, 510, 511, 512, 513, 514] (by decide +kernel) (by decide +kernel)
set_option maxRecDepth 20000 in
theorem gL_law_X3_base : GoodIn wsL_law (wsV RL 41 RX3 yX3_base wsX3_base) := goodIn_app (goodIn_of _ (by decide +kernel)) ggL_law_X3_base
set_option maxRecDepth 20000 in
theorem ggL_law_X4_base : GoodIn wsL_law wsX4_base := goodIn_r _ [191, 192, 482, 483, 484, 485, 486, 487, 488, 489, 490, 491, 492, 493, 494, 495, 496, 497, 498, 499, 500, 501, 502, 503, 504, 505, 506] (by decide +kernel) (by decide +kernel)
set_option maxRecDepth 20000 in
theorem gL_law_X4_base : GoodIn wsL_law (wsV RL 44 RX4 yX4_base wsX4_base) := goodIn_app (goodIn_of _ (by decide +kernel)) ggL_law_X4_base
set_option maxRecDepth 20000 in
theorem ggL_law_X3_point : GoodIn wsL_law wsX3_point := goodIn_r _ [196, 15, 101, 102, 2, 103, 197, 14, 198, 199, 40, 35, 36, 200, 201, 202, 42, 43, 44, 37, 33, 39, 45, 46, 47, 48, 34, 38, 49, 50, 51, 52, 53, 54, 55, 56, 474, 475, 476, 477, 478, 479, 480, 481, 507, 508, 509, 510, 511, 512, 513, 514] (by decide +kernel) (by decide +kernel)
set_option maxRecDepth 20000 in
theorem gL_law_X3_point : GoodIn wsL_law (wsV RL 45 RX3 yX3_point wsX3_point) := goodIn_app (goodIn_of _ (by decide +kernel)) ggL_law_X3_point
set_option maxRecDepth 20000 in
theorem ggL_law_X4_point : GoodIn wsL_law wsX4_point := goodIn_r _ [206, 207, 94, 95, 482, 483, 484, 485, 486, 487, 488, 489, 490, 491, 492, 493, 494, 495, 496, 497, 498, 499, 500, 501, 502, 503, 504, 505, 506] (by decide +kernel) (by decide +kernel)
set_option maxRecDepth 20000 in
theorem gL_law_X4_point : GoodIn wsL_law (wsV RL 48 RX4 yX4_point wsX4_point) := goodIn_app (goodIn_of _ (by decide +kernel)) ggL_law_X4_point
set_option maxRecDepth 20000 in
theorem ggL_law_X3_unpoint : GoodIn wsL_law wsX3_unpoint := goodIn_r _ [211, 15, 42, 14, 43, 44, 37, 33, 39, 45, 46, 47, 48, 34, 38, 49, 50, 51, 52, 53, 54, 55, 56, 40, 35, 36, 474, 475, 476, 477, 478, 479, 480, 481, 507, 508, 509, 510, 511, 512, 513, 514] (by decide +kernel) (by decide +kernel)
set_option maxRecDepth 20000 in
theorem gL_law_X3_unpoint : GoodIn wsL_law (wsV RL 49 RX3 yX3_unpoint wsX3_unpoint) := goodIn_app (goodIn_of _ (by decide +kernel)) ggL_law_X3_unpoint
set_option maxRecDepth 20000 in
theorem ggL_law_X4_unpoint : GoodIn wsL_law wsX4_unpoint := goodIn_r _ [215, 207, 482, 483, 484, 485, 486, 487, 488, 489, 490, 491, 492, 493, 494, 495, 496, 497, 498, 499, 500, 501, 502, 503, 504, 505, 506] (by decide +kernel) (by decide +kernel)
set_option maxRecDepth 20000 in
theorem gL_law_X4_unpoint : GoodIn wsL_law (wsV RL 53 RX4 yX4_unpoint wsX4_unpoint) := goodIn_app (goodIn_of _ (by decide +kernel)) ggL_law_X4_unpoint
set_option maxRecDepth 20000 in
theorem ggL_law_X3_table : GoodIn wsL_law wsX3_table := goodIn_r _ [219, 15, 54, 14, 55, 56, 40, 35, 36, 474, 475, 476, 477, 478, 479, 480, 481, 507, 508, 509, 510, 511, 512, 513, 514] (by decide +kernel) (by decide +kernel)
set_option maxRecDepth 20000 in
theorem gL_law_X3_table : GoodIn wsL_law (wsV RL 54 RX3 yX3_table wsX3_table) := goodIn_app (goodIn_of _ (by decide +kernel)) ggL_law_X3_table
set_option maxRecDepth 20000 in
theorem ggL_law_X4_table : GoodIn wsL_law wsX4_table := goodIn_r _ [223, 207, 94, 95, 482, 483, 484, 485, 486, 487, 488, 489, 490, 491, 492, 493, 494, 495, 496, 497, 498, 499, 500, 501, 502, 503, 504, 505, 506] (by decide +kernel) (by decide +kernel)
set_option maxRecDepth 20000 in
theorem gL_law_X4_table : GoodIn wsL_law (wsV RL 57 RX4 yX4_table wsX4_table) := goodIn_app (goodIn_of _ (by decide +kernel)) ggL_law_X4_table
set_option maxRecDepth 20000 in
theorem ggL_law_X3_plan : GoodIn wsL_law wsX3_plan := goodIn_r _ [227, 29, 228, 229, 230, 2, 231, 19, 28, 23, 232, 18, 233, 234, 69, 65, 235, 236, 237, 238, 239, 240, 241, 27, 242, 243, 244, 245, 246, 247, 248, 249, 250, 251, 252, 253, 22, 254, 255, 74, 73, 256, 257, 258, 259, 15, 260, 261, 262, 60, 61, 50, 14, 51, 52, 37, 53, 54, 55, 56, 40, 35, 36, 263, 264, 265, 266, 25, 267, 268, 269, 270, 271, 272, 273, 38, 274, 275, 276, 277, 278, 279, 280, 281, 282, 46, 47, 48, 474, 475, 476, 477, 478, 479, 480, 481, 515, 516, 517, 518, 519, 520, 521, 522, 523, 524, 525, 507, 508, 509, 510, 511, 512, 513, 514] (by decide +kernel) (by decide +kernel)
set_option maxRecDepth 20000 in
theorem gL_law_X3_plan : GoodIn wsL_law (wsV RL 58 RX3 yX3_plan wsX3_plan) := goodIn_app (goodIn_of _ (by decide +kernel)) ggL_law_X3_plan
set_option maxRecDepth 20000 in
theorem ggL_law_X4_plan : GoodIn wsL_law wsX4_plan := goodIn_r _ [286, 89, 287, 288, 289, 290, 5, 291, 114, 87, 292, 293, 294, 295, 296, 88, 82, 81, 85, 86, 84, 79, 297, 298, 299, 300, 83, 301, 302, 303, 304, 305, 306, 307, 308, 93, 192, 309, 221, 222, 223, 207, 94, 95, 310, 311, 312, 313, 92, 314, 315, 316, 317, 318, 319, 320, 321, 80, 322, 323, 324, 325, 482, 483, 484, 485, 486, 487, 488, 489, 490, 491, 492, 493, 494, 495, 496, 497, 498, 499, 500, 501, 502, 503, 504, 505, 506] (by decide +kernel) (by decide +kernel)
set_option maxRecDepth 20000 in
theorem gL_law_X4_plan : GoodIn wsL_law (wsV RL 61 RX4 yX4_plan wsX4_plan) := goodIn_app (goodIn_of _ (by decide +kernel)) ggL_law_X4_plan
set_option maxRecDepth 20000 in
theorem ggL_law_X3_order : GoodIn wsL_law wsX3_order := goodIn_r _ [329, 19, 23, 119, 18, 120, 121, 69, 253, 22, 254, 255, 74, 73, 330, 331, 332, 333, 334, 335, 336, 474, 475, 476, 477, 478, 479, 480, 481, 515, 516, 517, 518, 519, 520, 521, 522, 523, 524, 525] (by decide +kernel) (by decide +kernel)
set_option maxRecDepth 20000 in
theorem gL_law_X3_order : GoodIn wsL_law (wsV RL 62 RX3 yX3_order wsX3_order) := goodIn_app (goodIn_of _ (by decide +kernel)) ggL_law_X3_order
set_option maxRecDepth 20000 in
theorem ggL_law_X4_order : GoodIn wsL_law wsX4_order := goodIn_r _ [340, 114, 89, 134, 135, 136, 5, 137, 482, 483, 484, 485, 486, 487, 488, 489, 490, 491, 492, 493, 494, 495, 496, 497, 498, 499, 500, 501, 502, 503, 504, 505, 506] (by decide +kernel) (by decide +kernel)
set_option maxRecDepth 20000 in
theorem gL_law_X4_order : GoodIn wsL_law (wsV RL 65 RX4 yX4_order wsX4_order) := goodIn_app (goodIn_of _ (by decide +kernel)) ggL_law_X4_order
set_option maxRecDepth 20000 in
theorem ggL_law_X3_best : GoodIn wsL_law wsX3_best := goodIn_r _ [344, 19, 23, 26, 345, 346, 347, 348, 349, 22, 350, 351, 74, 73, 228, 229, 230, 2, 231, 28, 232, 18, 233, 234, 69, 65, 235, 236, 237, 238, 239, 240, 241, 27, 242, 243, 244, 245, 246, 247, 248, 249, 250, 251, 252, 253, 254, 255, 256, 257, 258, 259, 15, 260, 261, 262, 60, 61, 50, 14, 51, 52, 37, 53, 54, 55, 56, 40, 35, 36, 263, 264, 265, 266, 25, 267, 268, 269, 270, 271, 272, 273, 38, 274, 275, 276, 277, 278, 279, 280, 281, 282, 46, 47, 48, 352, 353, 354, 355, 356, 357, 358, 359, 225, 226, 227, 29, 474, 475, 476, 477, 478, 479, 480, 481, 515, 516, 517, 518, 519, 520, 521, 522, 523, 524, 525, 507, 508, 509, 510, 511, 512, 513, 514] (by decide +kernel) (by decide +kernel)
set_option maxRecDepth 20000 in
theorem gL_law_X3_best : GoodIn wsL_law (wsV RL 66 RX3 yX3_best wsX3_best) := goodIn_app (goodIn_of _ (by decide +kernel)) ggL_law_X3_best
set_option maxRecDepth 20000 in
theorem ggL_law_X4_best : GoodIn wsL_law wsX4_best := goodIn_r _ [363, 114, 90, 91, 89, 288, 289, 290, 5, 291, 87, 292, 293, 294, 295, 296, 88, 82, 81, 85, 86, 84, 79, 297, 298, 299, 300, 83, 301, 302, 303, 304, 305, 306, 307, 308, 93, 192, 309, 221, 222, 223, 207, 94, 95, 310, 311, 312, 313, 92, 314, 315, 316, 317, 318, 319, 320, 321, 80, 322, 323, 324, 325, 364, 284, 285, 286, 287, 482, 483, 484, 485, 486, 487, 488, 489, 490, 491, 492, 493, 494, 495, 496, 497, 498, 499, 500, 501, 502, 503, 504, 505, 506] (by decide +kernel) (by decide +kernel)
set_option maxRecDepth 20000 in
theorem gL_law_X4_best : GoodIn wsL_law (wsV RL 69 RX4 yX4_best wsX4_best) := goodIn_app (goodIn_of _ (by decide +kernel)) ggL_law_X4_best
set_option maxRecDepth 20000 in
theorem ggL_law_X3_better : GoodIn wsL_law wsX3_better := goodIn_r _ [368, 29, 228, 229, 230, 2, 231, 19, 28, 23, 232, 18, 233, 234, 69, 65, 235, 236, 237, 238, 239, 240, 241, 27, 242, 243, 244, 245, 246, 247, 248, 249, 250, 251, 252, 253, 22, 254, 255, 74, 73, 256, 257, 258, 259, 15, 260, 261, 262, 60, 61, 50, 14, 51, 52, 37, 53, 54, 55, 56, 40, 35, 36, 263, 264, 265, 266, 25, 267, 268, 269, 270, 271, 272, 273, 38, 274, 275, 276, 277, 278, 279, 280, 281, 282, 46, 47, 48, 369, 370, 371, 372, 330, 331, 332, 333, 334, 335, 336, 474, 475, 476, 477, 478, 479, 480, 481, 515, 516, 517, 518, 519, 520, 521, 522, 523, 524, 525, 507, 508, 509, 510, 511, 512, 513, 514] (by decide +kernel) (by decide +kernel)
set_option maxRecDepth 20000 in
theorem gL_law_X3_better : GoodIn wsL_law (wsV RL 70 RX3 yX3_better wsX3_better) := goodIn_app (goodIn_of _ (by decide +kernel)) ggL_law_X3_better
set_option maxRecDepth 20000 in
theorem ggL_law_X4_better : GoodIn wsL_law wsX4_better := goodIn_r _ [376, 89, 114, 288, 289, 290, 5, 291, 87, 292, 293, 294, 295, 296, 88, 82, 81, 85, 86, 84, 79, 297, 298, 299, 300, 83, 301, 302, 303, 304, 305, 306, 307, 308, 93, 192, 309, 221, 222, 223, 207, 94, 95, 310, 311, 312, 313, 92, 314, 315, 316, 317, 318, 319, 320, 321, 80, 322, 323, 324, 325, 364, 284, 285, 286, 287, 482, 483, 484, 485, 486, 487, 488, 489, 490, 491, 492, 493, 494, 495, 496, 497, 498, 499, 500, 501, 502, 503, 504, 505, 506] (by decide +kernel) (by decide +kernel)
set_option maxRecDepth 20000 in
theorem gL_law_X4_better : GoodIn wsL_law (wsV RL 73 RX4 yX4_better wsX4_better) := goodIn_app (goodIn_of _ (by decide +kernel)) ggL_law_X4_better
set_option maxRecDepth 20000 in
theorem ggL_law_X3_now : GoodIn wsL_law wsX3_now := goodIn_r _ [380, 28, 19, 172, 173, 2, 174, 101, 102, 103, 232, 18, 233, 234, 69, 65, 474, 475, 476, 477, 478, 479, 480, 481, 515, 516, 517, 518, 519, 520, 521, 522, 523] (by decide +kernel) (by decide +kernel)
set_option maxRecDepth 20000 in
theorem gL_law_X3_now : GoodIn wsL_law (wsV RL 74 RX3 yX3_now wsX3_now) := goodIn_app (goodIn_of _ (by decide +kernel)) ggL_law_X3_now
set_option maxRecDepth 20000 in
theorem ggL_law_X4_now : GoodIn wsL_law wsX4_now := goodIn_r _ [384, 292, 114, 87, 181, 182, 5, 183, 482, 483, 484, 485, 486, 487, 488, 489, 490, 491, 492, 493, 494, 495, 496, 497, 498, 499, 500, 501, 502, 503, 504, 505, 506] (by decide +kernel) (by decide +kernel)
set_option maxRecDepth 20000 in
theorem gL_law_X4_now : GoodIn wsL_law (wsV RL 77 RX4 yX4_now wsX4_now) := goodIn_app (goodIn_of _ (by decide +kernel)) ggL_law_X4_now
set_option maxRecDepth 20000 in
theorem ggL_law_X3_bound : GoodIn wsL_law wsX3_bound := goodIn_r _ [388, 19, 389, 18, 390, 391, 69, 68, 129, 46, 47, 48, 125, 126, 127, 128, 67, 474, 475, 476, 477, 478, 479, 480, 481, 515, 516, 517, 518, 519, 520, 521, 522, 523] (by decide +kernel) (by decide +kernel)
set_option maxRecDepth 20000 in
theorem gL_law_X3_bound : GoodIn wsL_law (wsV RL 78 RX3 yX3_bound wsX3_bound) := goodIn_app (goodIn_of _ (by decide +kernel)) ggL_law_X3_bound
set_option maxRecDepth 20000 in
theorem ggL_law_X4_bound : GoodIn wsL_law wsX4_bound := goodIn_r _ [395, 114, 96, 88, 482, 483, 484, 485, 486, 487, 488, 489, 490, 491, 492, 493, 494, 495, 496, 497, 498, 499, 500, 501, 502, 503, 504, 505, 506] (by decide +kernel) (by decide +kernel)
set_option maxRecDepth 20000 in
theorem gL_law_X4_bound : GoodIn wsL_law (wsV RL 81 RX4 yX4_bound wsX4_bound) := goodIn_app (goodIn_of _ (by decide +kernel)) ggL_law_X4_bound
set_option maxRecDepth 20000 in
theorem ggL_law_X3_about : GoodIn wsL_law wsX3_about := goodIn_r _ [399, 19, 15, 23, 119, 18, 120, 121, 69, 271, 14, 272, 273, 38, 253, 22, 254, 255, 74, 73, 474, 475, 476, 477, 478, 479, 480, 481, 515, 516, 517, 518, 519, 520, 521, 522, 523, 507, 508, 509, 510, 511, 512, 513, 514, 524, 525] (by decide +kernel) (by decide +kernel)
set_option maxRecDepth 20000 in
theorem gL_law_X3_about : GoodIn wsL_law (wsV RL 82 RX3 yX3_about wsX3_about) := goodIn_app (goodIn_of _ (by decide +kernel)) ggL_law_X3_about
set_option maxRecDepth 20000 in
theorem ggL_law_X4_about : GoodIn wsL_law wsX4_about := goodIn_r _ [403, 82, 83, 84, 85, 86, 87, 89, 134, 135, 136, 5, 137, 114, 318, 319, 320, 321, 80, 305, 306, 307, 308, 93, 192, 309, 221, 222, 223, 207, 94, 95, 482, 483, 484, 485, 486, 487, 488, 489, 490, 491, 492, 493, 494, 495, 496, 497, 498, 499, 500, 501, 502, 503, 504, 505, 506] (by decide +kernel) (by decide +kernel)
set_option maxRecDepth 20000 in
theorem gL_law_X4_about : GoodIn wsL_law (wsV RL 85 RX4 yX4_about wsX4_about) := goodIn_app (goodIn_of _ (by decide +kernel)) ggL_law_X4_about
set_option maxRecDepth 20000 in
theorem ggL_law_X3_hard : GoodIn wsL_law wsX3_hard := goodIn_r _ [407, 19, 15, 119, 18, 120, 121, 69, 172, 173, 2, 174, 101, 102, 103, 50, 14, 51, 52, 37, 53, 54, 55, 56, 40, 35, 36, 474, 475, 476, 477, 478, 479, 480, 481, 515, 516, 517, 518, 519, 520, 521, 522, 523, 507, 508, 509, 510, 511, 512, 513, 514] (by decide +kernel) (by decide +kernel)
set_option maxRecDepth 20000 in
theorem gL_law_X3_hard : GoodIn wsL_law (wsV RL 86 RX3 yX3_hard wsX3_hard) := goodIn_app (goodIn_of _ (by decide +kernel)) ggL_law_X3_hard
set_option maxRecDepth 20000 in
theorem ggL_law_X4_hard : GoodIn wsL_law wsX4_hard := goodIn_r _ [411, 87, 134, 135, 136, 5, 137, 114, 181, 182, 183, 301, 302, 303, 304, 305, 306, 307, 308, 93, 192, 309, 221, 222, 223, 207, 94, 95, 482, 483, 484, 485, 486, 487, 488, 489, 490, 491, 492, 493, 494, 495, 496, 497, 498, 499, 500, 501, 502, 503, 504, 505, 506] (by decide +kernel) (by decide +kernel)
set_option maxRecDepth 20000 in
theorem gL_law_X4_hard : GoodIn wsL_law (wsV RL 89 RX4 yX4_hard wsX4_hard) := goodIn_app (goodIn_of _ (by decide +kernel)) ggL_law_X4_hard
set_option maxRecDepth 20000 in
theorem ggL_law_X3_why : GoodIn wsL_law wsX3_why := goodIn_r _ [415, 19, 119, 18, 120, 121, 69, 172, 173, 2, 174, 101, 102, 103, 238, 239, 240, 241, 27, 242, 243, 244, 245, 246, 247, 248, 249, 23, 250, 251, 252, 65, 253, 22, 254, 255, 74, 73, 256, 257, 258, 259, 15, 260, 261, 262, 60, 61, 50, 14, 51, 52, 37, 53, 54, 55, 56, 40, 35, 36, 263, 264, 265, 266, 25, 267, 268, 269, 270, 271, 272, 273, 38, 274, 275, 276, 277, 474, 475, 476, 477, 478, 479, 480, 481, 515, 516, 517, 518, 519, 520, 521, 522, 523, 524, 525, 507, 508, 509, 510, 511, 512, 513, 514] (by decide +kernel) (by decide +kernel)
set_option maxRecDepth 20000 in
theorem gL_law_X3_why : GoodIn wsL_law (wsV RL 90 RX3 yX3_why wsX3_why) := goodIn_app (goodIn_of _ (by decide +kernel)) ggL_law_X3_why
set_option maxRecDepth 20000 in
theorem ggL_law_X4_why : GoodIn wsL_law wsX4_why := goodIn_r _ [419, 134, 135, 136, 5, 137, 114, 181, 182, 183, 293, 294, 295, 296, 88, 87, 82, 81, 85, 86, 84, 79, 297, 298, 299, 300, 83, 301, 302, 303, 304, 305, 306, 307, 308, 93, 192, 309, 221, 222, 223, 207, 94, 95, 310, 311, 312, 313, 92, 314, 315, 316, 317, 318, 319, 320, 321, 80, 322, 323, 324, 325, 482, 483, 484, 485, 486, 487, 488, 489, 490, 491, 492, 493, 494, 495, 496, 497, 498, 499, 500, 501, 502, 503, 504, 505, 506] (by decide +kernel) (by decide +kernel)
set_option maxRecDepth 20000 in
theorem gL_law_X4_why : GoodIn wsL_law (wsV RL 93 RX4 yX4_why wsX4_why) := goodIn_app (goodIn_of _ (by decide +kernel)) ggL_law_X4_why
set_option maxRecDepth 20000 in
theorem ggL_law_X3_free : GoodIn wsL_law wsX3_free := goodIn_r _ [423, 101, 102, 2, 103, 172, 173, 174, 263, 264, 265, 266, 25, 19, 267, 268, 269, 270, 15, 250, 18, 251, 252, 65, 271, 14, 272, 273, 38, 474, 475, 476, 477, 478, 479, 480, 481, 515, 516, 517, 518, 519, 520, 521, 522, 523, 507, 508, 509, 510, 511, 512, 513, 514] (by decide +kernel) (by decide +kernel)
set_option maxRecDepth 20000 in
theorem gL_law_X3_free : GoodIn wsL_law (wsV RL 94 RX3 yX3_free wsX3_free) := goodIn_app (goodIn_of _ (by decide +kernel)) ggL_law_X3_free
set_option maxRecDepth 20000 in
theorem ggL_law_X4_free : GoodIn wsL_law wsX4_free := goodIn_r _ [427, 181, 182, 5, 183, 310, 311, 312, 313, 92, 114, 85, 86, 314, 315, 316, 317, 87, 301, 302, 303, 304, 318, 319, 320, 321, 80, 305, 306, 307, 308, 93, 192, 309, 221, 222, 223, 207, 94, 95, 482, 483, 484, 485, 486, 487, 488, 489, 490, 491, 492, 493, 494, 495, 496, 497, 498, 499, 500, 501, 502, 503, 504, 505, 506] (by decide +kernel) (by decide +kernel)
set_option maxRecDepth 20000 in
theorem gL_law_X4_free : GoodIn wsL_law (wsV RL 97 RX4 yX4_free wsX4_free) := goodIn_app (goodIn_of _ (by decide +kernel)) ggL_law_X4_free
set_option maxRecDepth 20000 in
theorem ggL_law_X3_poured : GoodIn wsL_law wsX3_poured := goodIn_r _ [431, 172, 173, 2, 174, 101, 102, 103, 274, 275, 276, 277, 19, 474, 475, 476, 477, 478, 479, 480, 481, 515, 516, 517, 518, 519, 520, 521, 522, 523] (by decide +kernel) (by decide +kernel)
set_option maxRecDepth 20000 in
theorem gL_law_X3_poured : GoodIn wsL_law (wsV RL 98 RX3 yX3_poured wsX3_poured) := goodIn_app (goodIn_of _ (by decide +kernel)) ggL_law_X3_poured
set_option maxRecDepth 20000 in
theorem ggL_law_X4_poured : GoodIn wsL_law wsX4_poured := goodIn_r _ [435, 181, 182, 5, 183, 322, 323, 324, 325, 114, 87, 84, 482, 483, 484, 485, 486, 487, 488, 489, 490, 491, 492, 493, 494, 495, 496, 497, 498, 499, 500, 501, 502, 503, 504, 505, 506] (by decide +kernel) (by decide +kernel)
set_option maxRecDepth 20000 in
theorem gL_law_X4_poured : GoodIn wsL_law (wsV RL 101 RX4 yX4_poured wsX4_poured) := goodIn_app (goodIn_of _ (by decide +kernel)) ggL_law_X4_poured
set_option maxRecDepth 20000 in
theorem ggL_law_X3_borne : GoodIn wsL_law wsX3_borne := goodIn_r _ [439, 19, 440, 15, 119, 18, 120, 121, 69, 172, 173, 2, 174, 101, 102, 103, 250, 251, 252, 65, 50, 14, 51, 52, 37, 53, 54, 55, 56, 40, 35, 36, 441, 442, 443, 444, 445, 446, 447, 448, 267, 268, 269, 270, 271, 272, 273, 38, 449, 450, 451, 474, 475, 476, 477, 478, 479, 480, 481, 515, 516, 517, 518, 519, 520, 521, 522, 523, 507, 508, 509, 510, 511, 512, 513, 514] (by decide +kernel) (by decide +kernel)
set_option maxRecDepth 20000 in
theorem gL_law_X3_borne : GoodIn wsL_law (wsV RL 102 RX3 yX3_borne wsX3_borne) := goodIn_app (goodIn_of _ (by decide +kernel)) ggL_law_X3_borne
set_option maxRecDepth 20000 in
theorem ggL_law_X4_borne : GoodIn wsL_law wsX4_borne := goodIn_r _ [455, 82, 456, 84, 457, 458, 114, 83, 87, 134, 135, 136, 5, 137, 181, 182, 183, 301, 302, 303, 304, 314, 315, 316, 317, 318, 319, 320, 321, 80, 305, 306, 307, 308, 93, 192, 309, 221, 222, 223, 207, 94, 95, 459, 460, 461, 462, 463, 464, 465, 482, 483, 484, 485, 486, 487, 488, 489, 490, 491, 492, 493, 494, 495, 496, 497, 498, 499, 500, 501, 502, 503, 504, 505, 506] (by decide +kernel) (by decide +kernel)
set_option maxRecDepth 20000 in
theorem gL_law_X4_borne : GoodIn wsL_law (wsV RL 106 RX4 yX4_borne wsX4_borne) := goodIn_app (goodIn_of _ (by decide +kernel)) ggL_law_X4_borne
set_option maxRecDepth 20000 in
theorem ggL_law_X3_count : GoodIn wsL_law wsX3_count := goodIn_r _ [469, 19, 28, 15, 27, 29, 235, 18, 236, 237, 69, 65, 474, 475, 476, 477, 478, 479, 480, 481, 515, 516, 517, 518, 519, 520, 521, 522, 523, 507, 508, 509, 510, 511, 512, 513, 514] (by decide +kernel) (by decide +kernel)
set_option maxRecDepth 20000 in
theorem gL_law_X3_count : GoodIn wsL_law (wsV RL 107 RX3 yX3_count wsX3_count) := goodIn_app (goodIn_of _ (by decide +kernel)) ggL_law_X3_count
set_option maxRecDepth 20000 in
theorem ggL_law_X4_count : GoodIn wsL_law wsX4_count := goodIn_r _ [473, 114, 87, 292, 207, 79, 192, 287, 482, 483, 484, 485, 486, 487, 488, 489, 490, 491, 492, 493, 494, 495, 496, 497, 498, 499, 500, 501, 502, 503, 504, 505, 506] (by decide +kernel) (by decide +kernel)
set_option maxRecDepth 20000 in
theorem gL_law_X4_count : GoodIn wsL_law (wsV RL 110 RX4 yX4_count wsX4_count) := goodIn_app (goodIn_of _ (by decide +kernel)) ggL_law_X4_count
theorem dL_law_0 : decode cL_law 0 = .ok (.new 7, 3) := by decide +kernel
theorem dL_law_3 : decode cL_law 3 = .ok (.dup, 1) := by decide +kernel
theorem dL_law_4 : decode cL_law 4 = .ok (.invokespecial 9, 3) := by decide +kernel
theorem dL_law_7 : decode cL_law 7 = .ok (.astore_n 1, 1) := by decide +kernel
theorem dL_law_8 : decode cL_law 8 = .ok (.new 10, 3) := by decide +kernel
theorem dL_law_11 : decode cL_law 11 = .ok (.dup, 1) := by decide +kernel
theorem dL_law_12 : decode cL_law 12 = .ok (.invokespecial 12, 3) := by decide +kernel
theorem dL_law_15 : decode cL_law 15 = .ok (.astore_n 2, 1) := by decide +kernel
theorem dL_law_16 : decode cL_law 16 = .ok (.iconst 0, 1) := by decide +kernel
theorem dL_law_17 : decode cL_law 17 = .ok (.istore_n 3, 1) := by decide +kernel
theorem dL_law_18 : decode cL_law 18 = .ok (.iload_n 3, 1) := by decide +kernel
theorem dL_law_19 : decode cL_law 19 = .ok (.aload_n 0, 1) := by decide +kernel
theorem dL_law_20 : decode cL_law 20 = .ok (.arraylength, 1) := by decide +kernel
theorem dL_law_21 : decode cL_law 21 = .ok (.bipush 6, 2) := by decide +kernel
theorem dL_law_23 : decode cL_law 23 = .ok (.isub, 1) := by decide +kernel
theorem dL_law_24 : decode cL_law 24 = .ok (.if_icmp .gt 772, 3) := by decide +kernel
theorem dL_law_27 : decode cL_law 27 = .ok (.aload_n 0, 1) := by decide +kernel
theorem dL_law_28 : decode cL_law 28 = .ok (.iload_n 3, 1) := by decide +kernel
theorem dL_law_29 : decode cL_law 29 = .ok (.iaload, 1) := by decide +kernel
theorem dL_law_30 : decode cL_law 30 = .ok (.bipush 31, 2) := by decide +kernel
theorem dL_law_32 : decode cL_law 32 = .ok (.iand, 1) := by decide +kernel
theorem dL_law_33 : decode cL_law 33 = .ok (.tableswitch 757 0 22 #[107, 170, 213, 246, 269, 302, 335, 358, 391, 404, 427, 440, 473, 486, 499, 522, 535, 568, 601, 634, 667, 690, 734], 107) := by decide +kernel
theorem dL_law_140 : decode cL_law 140 = .ok (.aload_n 1, 1) := by decide +kernel
theorem dL_law_141 : decode cL_law 141 = .ok (.aload_n 0, 1) := by decide +kernel
theorem dL_law_142 : decode cL_law 142 = .ok (.iload_n 3, 1) := by decide +kernel
theorem dL_law_143 : decode cL_law 143 = .ok (.iconst 1, 1) := by decide +kernel
theorem dL_law_144 : decode cL_law 144 = .ok (.iadd, 1) := by decide +kernel
theorem dL_law_145 : decode cL_law 145 = .ok (.iaload, 1) := by decide +kernel
theorem dL_law_146 : decode cL_law 146 = .ok (.aload_n 0, 1) := by decide +kernel
theorem dL_law_147 : decode cL_law 147 = .ok (.iload_n 3, 1) := by decide +kernel
theorem dL_law_148 : decode cL_law 148 = .ok (.iconst 2, 1) := by decide +kernel
theorem dL_law_149 : decode cL_law 149 = .ok (.iadd, 1) := by decide +kernel
theorem dL_law_150 : decode cL_law 150 = .ok (.iaload, 1) := by decide +kernel
theorem dL_law_151 : decode cL_law 151 = .ok (.aload_n 0, 1) := by decide +kernel
theorem dL_law_152 : decode cL_law 152 = .ok (.iload_n 3, 1) := by decide +kernel
theorem dL_law_153 : decode cL_law 153 = .ok (.iconst 3, 1) := by decide +kernel
theorem dL_law_154 : decode cL_law 154 = .ok (.iadd, 1) := by decide +kernel
theorem dL_law_155 : decode cL_law 155 = .ok (.iaload, 1) := by decide +kernel
theorem dL_law_156 : decode cL_law 156 = .ok (.aload_n 0, 1) := by decide +kernel
theorem dL_law_157 : decode cL_law 157 = .ok (.iload_n 3, 1) := by decide +kernel
theorem dL_law_158 : decode cL_law 158 = .ok (.iconst 4, 1) := by decide +kernel
theorem dL_law_159 : decode cL_law 159 = .ok (.iadd, 1) := by decide +kernel
theorem dL_law_160 : decode cL_law 160 = .ok (.iaload, 1) := by decide +kernel
theorem dL_law_161 : decode cL_law 161 = .ok (.aload_n 0, 1) := by decide +kernel
theorem dL_law_162 : decode cL_law 162 = .ok (.iload_n 3, 1) := by decide +kernel
theorem dL_law_163 : decode cL_law 163 = .ok (.iconst 5, 1) := by decide +kernel
theorem dL_law_164 : decode cL_law 164 = .ok (.iadd, 1) := by decide +kernel
theorem dL_law_165 : decode cL_law 165 = .ok (.iaload, 1) := by decide +kernel
theorem dL_law_166 : decode cL_law 166 = .ok (.invokevirtual 13, 3) := by decide +kernel
theorem dL_law_169 : decode cL_law 169 = .ok (.aload_n 2, 1) := by decide +kernel
theorem dL_law_170 : decode cL_law 170 = .ok (.aload_n 0, 1) := by decide +kernel
theorem dL_law_171 : decode cL_law 171 = .ok (.iload_n 3, 1) := by decide +kernel
theorem dL_law_172 : decode cL_law 172 = .ok (.iconst 1, 1) := by decide +kernel
theorem dL_law_173 : decode cL_law 173 = .ok (.iadd, 1) := by decide +kernel
theorem dL_law_174 : decode cL_law 174 = .ok (.iaload, 1) := by decide +kernel
theorem dL_law_175 : decode cL_law 175 = .ok (.aload_n 0, 1) := by decide +kernel
theorem dL_law_176 : decode cL_law 176 = .ok (.iload_n 3, 1) := by decide +kernel
theorem dL_law_177 : decode cL_law 177 = .ok (.iconst 2, 1) := by decide +kernel
theorem dL_law_178 : decode cL_law 178 = .ok (.iadd, 1) := by decide +kernel
theorem dL_law_179 : decode cL_law 179 = .ok (.iaload, 1) := by decide +kernel
theorem dL_law_180 : decode cL_law 180 = .ok (.aload_n 0, 1) := by decide +kernel
theorem dL_law_181 : decode cL_law 181 = .ok (.iload_n 3, 1) := by decide +kernel
theorem dL_law_182 : decode cL_law 182 = .ok (.iconst 3, 1) := by decide +kernel
theorem dL_law_183 : decode cL_law 183 = .ok (.iadd, 1) := by decide +kernel
theorem dL_law_184 : decode cL_law 184 = .ok (.iaload, 1) := by decide +kernel
theorem dL_law_185 : decode cL_law 185 = .ok (.aload_n 0, 1) := by decide +kernel
theorem dL_law_186 : decode cL_law 186 = .ok (.iload_n 3, 1) := by decide +kernel
theorem dL_law_187 : decode cL_law 187 = .ok (.iconst 4, 1) := by decide +kernel
theorem dL_law_188 : decode cL_law 188 = .ok (.iadd, 1) := by decide +kernel
theorem dL_law_189 : decode cL_law 189 = .ok (.iaload, 1) := by decide +kernel
theorem dL_law_190 : decode cL_law 190 = .ok (.aload_n 0, 1) := by decide +kernel
theorem dL_law_191 : decode cL_law 191 = .ok (.iload_n 3, 1) := by decide +kernel
theorem dL_law_192 : decode cL_law 192 = .ok (.iconst 5, 1) := by decide +kernel
theorem dL_law_193 : decode cL_law 193 = .ok (.iadd, 1) := by decide +kernel
theorem dL_law_194 : decode cL_law 194 = .ok (.iaload, 1) := by decide +kernel
theorem dL_law_195 : decode cL_law 195 = .ok (.invokevirtual 17, 3) := by decide +kernel
theorem dL_law_198 : decode cL_law 198 = .ok (.if_icmp .eq 592, 3) := by decide +kernel
theorem dL_law_201 : decode cL_law 201 = .ok (.iconst 0, 1) := by decide +kernel
theorem dL_law_202 : decode cL_law 202 = .ok (.ireturn, 1) := by decide +kernel
theorem dL_law_203 : decode cL_law 203 = .ok (.aload_n 1, 1) := by decide +kernel
theorem dL_law_204 : decode cL_law 204 = .ok (.aload_n 0, 1) := by decide +kernel
theorem dL_law_205 : decode cL_law 205 = .ok (.iload_n 3, 1) := by decide +kernel
theorem dL_law_206 : decode cL_law 206 = .ok (.iconst 1, 1) := by decide +kernel
theorem dL_law_207 : decode cL_law 207 = .ok (.iadd, 1) := by decide +kernel
theorem dL_law_208 : decode cL_law 208 = .ok (.iaload, 1) := by decide +kernel
theorem dL_law_209 : decode cL_law 209 = .ok (.aload_n 0, 1) := by decide +kernel
theorem dL_law_210 : decode cL_law 210 = .ok (.iload_n 3, 1) := by decide +kernel
theorem dL_law_211 : decode cL_law 211 = .ok (.iconst 2, 1) := by decide +kernel
theorem dL_law_212 : decode cL_law 212 = .ok (.iadd, 1) := by decide +kernel
theorem dL_law_213 : decode cL_law 213 = .ok (.iaload, 1) := by decide +kernel
theorem dL_law_214 : decode cL_law 214 = .ok (.aload_n 0, 1) := by decide +kernel
theorem dL_law_215 : decode cL_law 215 = .ok (.iload_n 3, 1) := by decide +kernel
theorem dL_law_216 : decode cL_law 216 = .ok (.iconst 3, 1) := by decide +kernel
theorem dL_law_217 : decode cL_law 217 = .ok (.iadd, 1) := by decide +kernel
theorem dL_law_218 : decode cL_law 218 = .ok (.iaload, 1) := by decide +kernel
theorem dL_law_219 : decode cL_law 219 = .ok (.invokevirtual 18, 3) := by decide +kernel
theorem dL_law_222 : decode cL_law 222 = .ok (.aload_n 2, 1) := by decide +kernel
theorem dL_law_223 : decode cL_law 223 = .ok (.aload_n 0, 1) := by decide +kernel
theorem dL_law_224 : decode cL_law 224 = .ok (.iload_n 3, 1) := by decide +kernel
theorem dL_law_225 : decode cL_law 225 = .ok (.iconst 1, 1) := by decide +kernel
theorem dL_law_226 : decode cL_law 226 = .ok (.iadd, 1) := by decide +kernel
theorem dL_law_227 : decode cL_law 227 = .ok (.iaload, 1) := by decide +kernel
theorem dL_law_228 : decode cL_law 228 = .ok (.aload_n 0, 1) := by decide +kernel
theorem dL_law_229 : decode cL_law 229 = .ok (.iload_n 3, 1) := by decide +kernel
theorem dL_law_230 : decode cL_law 230 = .ok (.iconst 2, 1) := by decide +kernel
theorem dL_law_231 : decode cL_law 231 = .ok (.iadd, 1) := by decide +kernel
theorem dL_law_232 : decode cL_law 232 = .ok (.iaload, 1) := by decide +kernel
theorem dL_law_233 : decode cL_law 233 = .ok (.aload_n 0, 1) := by decide +kernel
theorem dL_law_234 : decode cL_law 234 = .ok (.iload_n 3, 1) := by decide +kernel
theorem dL_law_235 : decode cL_law 235 = .ok (.iconst 3, 1) := by decide +kernel
theorem dL_law_236 : decode cL_law 236 = .ok (.iadd, 1) := by decide +kernel
theorem dL_law_237 : decode cL_law 237 = .ok (.iaload, 1) := by decide +kernel
theorem dL_law_238 : decode cL_law 238 = .ok (.invokevirtual 22, 3) := by decide +kernel
theorem dL_law_241 : decode cL_law 241 = .ok (.if_icmp .eq 549, 3) := by decide +kernel
theorem dL_law_244 : decode cL_law 244 = .ok (.iconst 0, 1) := by decide +kernel
theorem dL_law_245 : decode cL_law 245 = .ok (.ireturn, 1) := by decide +kernel
theorem dL_law_246 : decode cL_law 246 = .ok (.aload_n 1, 1) := by decide +kernel
theorem dL_law_247 : decode cL_law 247 = .ok (.aload_n 0, 1) := by decide +kernel
theorem dL_law_248 : decode cL_law 248 = .ok (.iload_n 3, 1) := by decide +kernel
theorem dL_law_249 : decode cL_law 249 = .ok (.iconst 1, 1) := by decide +kernel
theorem dL_law_250 : decode cL_law 250 = .ok (.iadd, 1) := by decide +kernel
theorem dL_law_251 : decode cL_law 251 = .ok (.iaload, 1) := by decide +kernel
theorem dL_law_252 : decode cL_law 252 = .ok (.aload_n 0, 1) := by decide +kernel
theorem dL_law_253 : decode cL_law 253 = .ok (.iload_n 3, 1) := by decide +kernel
theorem dL_law_254 : decode cL_law 254 = .ok (.iconst 2, 1) := by decide +kernel
theorem dL_law_255 : decode cL_law 255 = .ok (.iadd, 1) := by decide +kernel
theorem dL_law_256 : decode cL_law 256 = .ok (.iaload, 1) := by decide +kernel
theorem dL_law_257 : decode cL_law 257 = .ok (.invokevirtual 23, 3) := by decide +kernel
theorem dL_law_260 : decode cL_law 260 = .ok (.aload_n 2, 1) := by decide +kernel
theorem dL_law_261 : decode cL_law 261 = .ok (.aload_n 0, 1) := by decide +kernel
theorem dL_law_262 : decode cL_law 262 = .ok (.iload_n 3, 1) := by decide +kernel
theorem dL_law_263 : decode cL_law 263 = .ok (.iconst 1, 1) := by decide +kernel
theorem dL_law_264 : decode cL_law 264 = .ok (.iadd, 1) := by decide +kernel
theorem dL_law_265 : decode cL_law 265 = .ok (.iaload, 1) := by decide +kernel
theorem dL_law_266 : decode cL_law 266 = .ok (.aload_n 0, 1) := by decide +kernel
theorem dL_law_267 : decode cL_law 267 = .ok (.iload_n 3, 1) := by decide +kernel
theorem dL_law_268 : decode cL_law 268 = .ok (.iconst 2, 1) := by decide +kernel
theorem dL_law_269 : decode cL_law 269 = .ok (.iadd, 1) := by decide +kernel
theorem dL_law_270 : decode cL_law 270 = .ok (.iaload, 1) := by decide +kernel
theorem dL_law_271 : decode cL_law 271 = .ok (.invokevirtual 27, 3) := by decide +kernel
theorem dL_law_274 : decode cL_law 274 = .ok (.if_icmp .eq 516, 3) := by decide +kernel
theorem dL_law_277 : decode cL_law 277 = .ok (.iconst 0, 1) := by decide +kernel
theorem dL_law_278 : decode cL_law 278 = .ok (.ireturn, 1) := by decide +kernel
theorem dL_law_279 : decode cL_law 279 = .ok (.aload_n 1, 1) := by decide +kernel
theorem dL_law_280 : decode cL_law 280 = .ok (.aload_n 0, 1) := by decide +kernel
theorem dL_law_281 : decode cL_law 281 = .ok (.iload_n 3, 1) := by decide +kernel
theorem dL_law_282 : decode cL_law 282 = .ok (.iconst 1, 1) := by decide +kernel
theorem dL_law_283 : decode cL_law 283 = .ok (.iadd, 1) := by decide +kernel
theorem dL_law_284 : decode cL_law 284 = .ok (.iaload, 1) := by decide +kernel
theorem dL_law_285 : decode cL_law 285 = .ok (.invokevirtual 28, 3) := by decide +kernel
theorem dL_law_288 : decode cL_law 288 = .ok (.aload_n 2, 1) := by decide +kernel
theorem dL_law_289 : decode cL_law 289 = .ok (.aload_n 0, 1) := by decide +kernel
theorem dL_law_290 : decode cL_law 290 = .ok (.iload_n 3, 1) := by decide +kernel
theorem dL_law_291 : decode cL_law 291 = .ok (.iconst 1, 1) := by decide +kernel
theorem dL_law_292 : decode cL_law 292 = .ok (.iadd, 1) := by decide +kernel
theorem dL_law_293 : decode cL_law 293 = .ok (.iaload, 1) := by decide +kernel
theorem dL_law_294 : decode cL_law 294 = .ok (.invokevirtual 32, 3) := by decide +kernel
theorem dL_law_297 : decode cL_law 297 = .ok (.if_icmp .eq 493, 3) := by decide +kernel
theorem dL_law_300 : decode cL_law 300 = .ok (.iconst 0, 1) := by decide +kernel
theorem dL_law_301 : decode cL_law 301 = .ok (.ireturn, 1) := by decide +kernel
theorem dL_law_302 : decode cL_law 302 = .ok (.aload_n 1, 1) := by decide +kernel
theorem dL_law_303 : decode cL_law 303 = .ok (.aload_n 0, 1) := by decide +kernel
theorem dL_law_304 : decode cL_law 304 = .ok (.iload_n 3, 1) := by decide +kernel
theorem dL_law_305 : decode cL_law 305 = .ok (.iconst 1, 1) := by decide +kernel
theorem dL_law_306 : decode cL_law 306 = .ok (.iadd, 1) := by decide +kernel
theorem dL_law_307 : decode cL_law 307 = .ok (.iaload, 1) := by decide +kernel
theorem dL_law_308 : decode cL_law 308 = .ok (.aload_n 0, 1) := by decide +kernel
theorem dL_law_309 : decode cL_law 309 = .ok (.iload_n 3, 1) := by decide +kernel
theorem dL_law_310 : decode cL_law 310 = .ok (.iconst 2, 1) := by decide +kernel
theorem dL_law_311 : decode cL_law 311 = .ok (.iadd, 1) := by decide +kernel
theorem dL_law_312 : decode cL_law 312 = .ok (.iaload, 1) := by decide +kernel
theorem dL_law_313 : decode cL_law 313 = .ok (.invokevirtual 33, 3) := by decide +kernel
theorem dL_law_316 : decode cL_law 316 = .ok (.aload_n 2, 1) := by decide +kernel
theorem dL_law_317 : decode cL_law 317 = .ok (.aload_n 0, 1) := by decide +kernel
theorem dL_law_318 : decode cL_law 318 = .ok (.iload_n 3, 1) := by decide +kernel
theorem dL_law_319 : decode cL_law 319 = .ok (.iconst 1, 1) := by decide +kernel
theorem dL_law_320 : decode cL_law 320 = .ok (.iadd, 1) := by decide +kernel
theorem dL_law_321 : decode cL_law 321 = .ok (.iaload, 1) := by decide +kernel
theorem dL_law_322 : decode cL_law 322 = .ok (.aload_n 0, 1) := by decide +kernel
theorem dL_law_323 : decode cL_law 323 = .ok (.iload_n 3, 1) := by decide +kernel
theorem dL_law_324 : decode cL_law 324 = .ok (.iconst 2, 1) := by decide +kernel
theorem dL_law_325 : decode cL_law 325 = .ok (.iadd, 1) := by decide +kernel
theorem dL_law_326 : decode cL_law 326 = .ok (.iaload, 1) := by decide +kernel
theorem dL_law_327 : decode cL_law 327 = .ok (.invokevirtual 36, 3) := by decide +kernel
theorem dL_law_330 : decode cL_law 330 = .ok (.if_icmp .eq 460, 3) := by decide +kernel
theorem dL_law_333 : decode cL_law 333 = .ok (.iconst 0, 1) := by decide +kernel
theorem dL_law_334 : decode cL_law 334 = .ok (.ireturn, 1) := by decide +kernel
theorem dL_law_335 : decode cL_law 335 = .ok (.aload_n 1, 1) := by decide +kernel
theorem dL_law_336 : decode cL_law 336 = .ok (.aload_n 0, 1) := by decide +kernel
theorem dL_law_337 : decode cL_law 337 = .ok (.iload_n 3, 1) := by decide +kernel
theorem dL_law_338 : decode cL_law 338 = .ok (.iconst 1, 1) := by decide +kernel
theorem dL_law_339 : decode cL_law 339 = .ok (.iadd, 1) := by decide +kernel
theorem dL_law_340 : decode cL_law 340 = .ok (.iaload, 1) := by decide +kernel
theorem dL_law_341 : decode cL_law 341 = .ok (.aload_n 0, 1) := by decide +kernel
theorem dL_law_342 : decode cL_law 342 = .ok (.iload_n 3, 1) := by decide +kernel
theorem dL_law_343 : decode cL_law 343 = .ok (.iconst 2, 1) := by decide +kernel
theorem dL_law_344 : decode cL_law 344 = .ok (.iadd, 1) := by decide +kernel
theorem dL_law_345 : decode cL_law 345 = .ok (.iaload, 1) := by decide +kernel
theorem dL_law_346 : decode cL_law 346 = .ok (.invokevirtual 37, 3) := by decide +kernel
theorem dL_law_349 : decode cL_law 349 = .ok (.aload_n 2, 1) := by decide +kernel
theorem dL_law_350 : decode cL_law 350 = .ok (.aload_n 0, 1) := by decide +kernel
theorem dL_law_351 : decode cL_law 351 = .ok (.iload_n 3, 1) := by decide +kernel
theorem dL_law_352 : decode cL_law 352 = .ok (.iconst 1, 1) := by decide +kernel
theorem dL_law_353 : decode cL_law 353 = .ok (.iadd, 1) := by decide +kernel
theorem dL_law_354 : decode cL_law 354 = .ok (.iaload, 1) := by decide +kernel
theorem dL_law_355 : decode cL_law 355 = .ok (.aload_n 0, 1) := by decide +kernel
theorem dL_law_356 : decode cL_law 356 = .ok (.iload_n 3, 1) := by decide +kernel
theorem dL_law_357 : decode cL_law 357 = .ok (.iconst 2, 1) := by decide +kernel
theorem dL_law_358 : decode cL_law 358 = .ok (.iadd, 1) := by decide +kernel
theorem dL_law_359 : decode cL_law 359 = .ok (.iaload, 1) := by decide +kernel
theorem dL_law_360 : decode cL_law 360 = .ok (.invokevirtual 40, 3) := by decide +kernel
theorem dL_law_363 : decode cL_law 363 = .ok (.if_icmp .eq 427, 3) := by decide +kernel
theorem dL_law_366 : decode cL_law 366 = .ok (.iconst 0, 1) := by decide +kernel
theorem dL_law_367 : decode cL_law 367 = .ok (.ireturn, 1) := by decide +kernel
theorem dL_law_368 : decode cL_law 368 = .ok (.aload_n 1, 1) := by decide +kernel
theorem dL_law_369 : decode cL_law 369 = .ok (.aload_n 0, 1) := by decide +kernel
theorem dL_law_370 : decode cL_law 370 = .ok (.iload_n 3, 1) := by decide +kernel
theorem dL_law_371 : decode cL_law 371 = .ok (.iconst 1, 1) := by decide +kernel
theorem dL_law_372 : decode cL_law 372 = .ok (.iadd, 1) := by decide +kernel
theorem dL_law_373 : decode cL_law 373 = .ok (.iaload, 1) := by decide +kernel
theorem dL_law_374 : decode cL_law 374 = .ok (.invokevirtual 41, 3) := by decide +kernel
theorem dL_law_377 : decode cL_law 377 = .ok (.aload_n 2, 1) := by decide +kernel
theorem dL_law_378 : decode cL_law 378 = .ok (.aload_n 0, 1) := by decide +kernel
theorem dL_law_379 : decode cL_law 379 = .ok (.iload_n 3, 1) := by decide +kernel
theorem dL_law_380 : decode cL_law 380 = .ok (.iconst 1, 1) := by decide +kernel
theorem dL_law_381 : decode cL_law 381 = .ok (.iadd, 1) := by decide +kernel
theorem dL_law_382 : decode cL_law 382 = .ok (.iaload, 1) := by decide +kernel
theorem dL_law_383 : decode cL_law 383 = .ok (.invokevirtual 44, 3) := by decide +kernel
theorem dL_law_386 : decode cL_law 386 = .ok (.if_icmp .eq 404, 3) := by decide +kernel
theorem dL_law_389 : decode cL_law 389 = .ok (.iconst 0, 1) := by decide +kernel
theorem dL_law_390 : decode cL_law 390 = .ok (.ireturn, 1) := by decide +kernel
theorem dL_law_391 : decode cL_law 391 = .ok (.aload_n 1, 1) := by decide +kernel
theorem dL_law_392 : decode cL_law 392 = .ok (.aload_n 0, 1) := by decide +kernel
theorem dL_law_393 : decode cL_law 393 = .ok (.iload_n 3, 1) := by decide +kernel
theorem dL_law_394 : decode cL_law 394 = .ok (.iconst 1, 1) := by decide +kernel
theorem dL_law_395 : decode cL_law 395 = .ok (.iadd, 1) := by decide +kernel
theorem dL_law_396 : decode cL_law 396 = .ok (.iaload, 1) := by decide +kernel
theorem dL_law_397 : decode cL_law 397 = .ok (.aload_n 0, 1) := by decide +kernel
theorem dL_law_398 : decode cL_law 398 = .ok (.iload_n 3, 1) := by decide +kernel
theorem dL_law_399 : decode cL_law 399 = .ok (.iconst 2, 1) := by decide +kernel
theorem dL_law_400 : decode cL_law 400 = .ok (.iadd, 1) := by decide +kernel
theorem dL_law_401 : decode cL_law 401 = .ok (.iaload, 1) := by decide +kernel
theorem dL_law_402 : decode cL_law 402 = .ok (.invokevirtual 45, 3) := by decide +kernel
theorem dL_law_405 : decode cL_law 405 = .ok (.aload_n 2, 1) := by decide +kernel
theorem dL_law_406 : decode cL_law 406 = .ok (.aload_n 0, 1) := by decide +kernel
theorem dL_law_407 : decode cL_law 407 = .ok (.iload_n 3, 1) := by decide +kernel
theorem dL_law_408 : decode cL_law 408 = .ok (.iconst 1, 1) := by decide +kernel
theorem dL_law_409 : decode cL_law 409 = .ok (.iadd, 1) := by decide +kernel
theorem dL_law_410 : decode cL_law 410 = .ok (.iaload, 1) := by decide +kernel
theorem dL_law_411 : decode cL_law 411 = .ok (.aload_n 0, 1) := by decide +kernel
theorem dL_law_412 : decode cL_law 412 = .ok (.iload_n 3, 1) := by decide +kernel
theorem dL_law_413 : decode cL_law 413 = .ok (.iconst 2, 1) := by decide +kernel
theorem dL_law_414 : decode cL_law 414 = .ok (.iadd, 1) := by decide +kernel
theorem dL_law_415 : decode cL_law 415 = .ok (.iaload, 1) := by decide +kernel
theorem dL_law_416 : decode cL_law 416 = .ok (.invokevirtual 48, 3) := by decide +kernel
theorem dL_law_419 : decode cL_law 419 = .ok (.if_icmp .eq 371, 3) := by decide +kernel
theorem dL_law_422 : decode cL_law 422 = .ok (.iconst 0, 1) := by decide +kernel
theorem dL_law_423 : decode cL_law 423 = .ok (.ireturn, 1) := by decide +kernel
theorem dL_law_424 : decode cL_law 424 = .ok (.aload_n 1, 1) := by decide +kernel
theorem dL_law_425 : decode cL_law 425 = .ok (.invokevirtual 49, 3) := by decide +kernel
theorem dL_law_428 : decode cL_law 428 = .ok (.aload_n 2, 1) := by decide +kernel
theorem dL_law_429 : decode cL_law 429 = .ok (.invokevirtual 53, 3) := by decide +kernel
theorem dL_law_432 : decode cL_law 432 = .ok (.if_icmp .eq 358, 3) := by decide +kernel
theorem dL_law_435 : decode cL_law 435 = .ok (.iconst 0, 1) := by decide +kernel
theorem dL_law_436 : decode cL_law 436 = .ok (.ireturn, 1) := by decide +kernel
theorem dL_law_437 : decode cL_law 437 = .ok (.aload_n 1, 1) := by decide +kernel
theorem dL_law_438 : decode cL_law 438 = .ok (.aload_n 0, 1) := by decide +kernel
theorem dL_law_439 : decode cL_law 439 = .ok (.iload_n 3, 1) := by decide +kernel
theorem dL_law_440 : decode cL_law 440 = .ok (.iconst 1, 1) := by decide +kernel
theorem dL_law_441 : decode cL_law 441 = .ok (.iadd, 1) := by decide +kernel
theorem dL_law_442 : decode cL_law 442 = .ok (.iaload, 1) := by decide +kernel
theorem dL_law_443 : decode cL_law 443 = .ok (.invokevirtual 54, 3) := by decide +kernel
theorem dL_law_446 : decode cL_law 446 = .ok (.aload_n 2, 1) := by decide +kernel
theorem dL_law_447 : decode cL_law 447 = .ok (.aload_n 0, 1) := by decide +kernel
theorem dL_law_448 : decode cL_law 448 = .ok (.iload_n 3, 1) := by decide +kernel
theorem dL_law_449 : decode cL_law 449 = .ok (.iconst 1, 1) := by decide +kernel
theorem dL_law_450 : decode cL_law 450 = .ok (.iadd, 1) := by decide +kernel
theorem dL_law_451 : decode cL_law 451 = .ok (.iaload, 1) := by decide +kernel
theorem dL_law_452 : decode cL_law 452 = .ok (.invokevirtual 57, 3) := by decide +kernel
theorem dL_law_455 : decode cL_law 455 = .ok (.if_icmp .eq 335, 3) := by decide +kernel
theorem dL_law_458 : decode cL_law 458 = .ok (.iconst 0, 1) := by decide +kernel
theorem dL_law_459 : decode cL_law 459 = .ok (.ireturn, 1) := by decide +kernel
theorem dL_law_460 : decode cL_law 460 = .ok (.aload_n 1, 1) := by decide +kernel
theorem dL_law_461 : decode cL_law 461 = .ok (.invokevirtual 58, 3) := by decide +kernel
theorem dL_law_464 : decode cL_law 464 = .ok (.aload_n 2, 1) := by decide +kernel
theorem dL_law_465 : decode cL_law 465 = .ok (.invokevirtual 61, 3) := by decide +kernel
theorem dL_law_468 : decode cL_law 468 = .ok (.if_icmp .eq 322, 3) := by decide +kernel
theorem dL_law_471 : decode cL_law 471 = .ok (.iconst 0, 1) := by decide +kernel
theorem dL_law_472 : decode cL_law 472 = .ok (.ireturn, 1) := by decide +kernel
theorem dL_law_473 : decode cL_law 473 = .ok (.aload_n 1, 1) := by decide +kernel
theorem dL_law_474 : decode cL_law 474 = .ok (.aload_n 0, 1) := by decide +kernel
theorem dL_law_475 : decode cL_law 475 = .ok (.iload_n 3, 1) := by decide +kernel
theorem dL_law_476 : decode cL_law 476 = .ok (.iconst 1, 1) := by decide +kernel
theorem dL_law_477 : decode cL_law 477 = .ok (.iadd, 1) := by decide +kernel
theorem dL_law_478 : decode cL_law 478 = .ok (.iaload, 1) := by decide +kernel
theorem dL_law_479 : decode cL_law 479 = .ok (.aload_n 0, 1) := by decide +kernel
theorem dL_law_480 : decode cL_law 480 = .ok (.iload_n 3, 1) := by decide +kernel
theorem dL_law_481 : decode cL_law 481 = .ok (.iconst 2, 1) := by decide +kernel
theorem dL_law_482 : decode cL_law 482 = .ok (.iadd, 1) := by decide +kernel
theorem dL_law_483 : decode cL_law 483 = .ok (.iaload, 1) := by decide +kernel
theorem dL_law_484 : decode cL_law 484 = .ok (.invokevirtual 62, 3) := by decide +kernel
theorem dL_law_487 : decode cL_law 487 = .ok (.aload_n 2, 1) := by decide +kernel
theorem dL_law_488 : decode cL_law 488 = .ok (.aload_n 0, 1) := by decide +kernel
theorem dL_law_489 : decode cL_law 489 = .ok (.iload_n 3, 1) := by decide +kernel
theorem dL_law_490 : decode cL_law 490 = .ok (.iconst 1, 1) := by decide +kernel
theorem dL_law_491 : decode cL_law 491 = .ok (.iadd, 1) := by decide +kernel
theorem dL_law_492 : decode cL_law 492 = .ok (.iaload, 1) := by decide +kernel
theorem dL_law_493 : decode cL_law 493 = .ok (.aload_n 0, 1) := by decide +kernel
theorem dL_law_494 : decode cL_law 494 = .ok (.iload_n 3, 1) := by decide +kernel
theorem dL_law_495 : decode cL_law 495 = .ok (.iconst 2, 1) := by decide +kernel
theorem dL_law_496 : decode cL_law 496 = .ok (.iadd, 1) := by decide +kernel
theorem dL_law_497 : decode cL_law 497 = .ok (.iaload, 1) := by decide +kernel
theorem dL_law_498 : decode cL_law 498 = .ok (.invokevirtual 65, 3) := by decide +kernel
theorem dL_law_501 : decode cL_law 501 = .ok (.if_icmp .eq 289, 3) := by decide +kernel
theorem dL_law_504 : decode cL_law 504 = .ok (.iconst 0, 1) := by decide +kernel
theorem dL_law_505 : decode cL_law 505 = .ok (.ireturn, 1) := by decide +kernel
theorem dL_law_506 : decode cL_law 506 = .ok (.aload_n 1, 1) := by decide +kernel
theorem dL_law_507 : decode cL_law 507 = .ok (.invokevirtual 66, 3) := by decide +kernel
theorem dL_law_510 : decode cL_law 510 = .ok (.aload_n 2, 1) := by decide +kernel
theorem dL_law_511 : decode cL_law 511 = .ok (.invokevirtual 69, 3) := by decide +kernel
theorem dL_law_514 : decode cL_law 514 = .ok (.if_icmp .eq 276, 3) := by decide +kernel
theorem dL_law_517 : decode cL_law 517 = .ok (.iconst 0, 1) := by decide +kernel
theorem dL_law_518 : decode cL_law 518 = .ok (.ireturn, 1) := by decide +kernel
theorem dL_law_519 : decode cL_law 519 = .ok (.aload_n 1, 1) := by decide +kernel
theorem dL_law_520 : decode cL_law 520 = .ok (.invokevirtual 70, 3) := by decide +kernel
theorem dL_law_523 : decode cL_law 523 = .ok (.aload_n 2, 1) := by decide +kernel
theorem dL_law_524 : decode cL_law 524 = .ok (.invokevirtual 73, 3) := by decide +kernel
theorem dL_law_527 : decode cL_law 527 = .ok (.if_icmp .eq 263, 3) := by decide +kernel
theorem dL_law_530 : decode cL_law 530 = .ok (.iconst 0, 1) := by decide +kernel
theorem dL_law_531 : decode cL_law 531 = .ok (.ireturn, 1) := by decide +kernel
theorem dL_law_532 : decode cL_law 532 = .ok (.aload_n 1, 1) := by decide +kernel
theorem dL_law_533 : decode cL_law 533 = .ok (.aload_n 0, 1) := by decide +kernel
theorem dL_law_534 : decode cL_law 534 = .ok (.iload_n 3, 1) := by decide +kernel
theorem dL_law_535 : decode cL_law 535 = .ok (.iconst 1, 1) := by decide +kernel
theorem dL_law_536 : decode cL_law 536 = .ok (.iadd, 1) := by decide +kernel
theorem dL_law_537 : decode cL_law 537 = .ok (.iaload, 1) := by decide +kernel
theorem dL_law_538 : decode cL_law 538 = .ok (.invokevirtual 74, 3) := by decide +kernel
theorem dL_law_541 : decode cL_law 541 = .ok (.aload_n 2, 1) := by decide +kernel
theorem dL_law_542 : decode cL_law 542 = .ok (.aload_n 0, 1) := by decide +kernel
theorem dL_law_543 : decode cL_law 543 = .ok (.iload_n 3, 1) := by decide +kernel
theorem dL_law_544 : decode cL_law 544 = .ok (.iconst 1, 1) := by decide +kernel
theorem dL_law_545 : decode cL_law 545 = .ok (.iadd, 1) := by decide +kernel
theorem dL_law_546 : decode cL_law 546 = .ok (.iaload, 1) := by decide +kernel
theorem dL_law_547 : decode cL_law 547 = .ok (.invokevirtual 77, 3) := by decide +kernel
theorem dL_law_550 : decode cL_law 550 = .ok (.if_icmp .eq 240, 3) := by decide +kernel
theorem dL_law_553 : decode cL_law 553 = .ok (.iconst 0, 1) := by decide +kernel
theorem dL_law_554 : decode cL_law 554 = .ok (.ireturn, 1) := by decide +kernel
theorem dL_law_555 : decode cL_law 555 = .ok (.aload_n 1, 1) := by decide +kernel
theorem dL_law_556 : decode cL_law 556 = .ok (.invokevirtual 78, 3) := by decide +kernel
theorem dL_law_559 : decode cL_law 559 = .ok (.aload_n 2, 1) := by decide +kernel
theorem dL_law_560 : decode cL_law 560 = .ok (.invokevirtual 81, 3) := by decide +kernel
theorem dL_law_563 : decode cL_law 563 = .ok (.if_icmp .eq 227, 3) := by decide +kernel
theorem dL_law_566 : decode cL_law 566 = .ok (.iconst 0, 1) := by decide +kernel
theorem dL_law_567 : decode cL_law 567 = .ok (.ireturn, 1) := by decide +kernel
theorem dL_law_568 : decode cL_law 568 = .ok (.aload_n 1, 1) := by decide +kernel
theorem dL_law_569 : decode cL_law 569 = .ok (.aload_n 0, 1) := by decide +kernel
theorem dL_law_570 : decode cL_law 570 = .ok (.iload_n 3, 1) := by decide +kernel
theorem dL_law_571 : decode cL_law 571 = .ok (.iconst 1, 1) := by decide +kernel
theorem dL_law_572 : decode cL_law 572 = .ok (.iadd, 1) := by decide +kernel
theorem dL_law_573 : decode cL_law 573 = .ok (.iaload, 1) := by decide +kernel
theorem dL_law_574 : decode cL_law 574 = .ok (.aload_n 0, 1) := by decide +kernel
theorem dL_law_575 : decode cL_law 575 = .ok (.iload_n 3, 1) := by decide +kernel
theorem dL_law_576 : decode cL_law 576 = .ok (.iconst 2, 1) := by decide +kernel
theorem dL_law_577 : decode cL_law 577 = .ok (.iadd, 1) := by decide +kernel
theorem dL_law_578 : decode cL_law 578 = .ok (.iaload, 1) := by decide +kernel
theorem dL_law_579 : decode cL_law 579 = .ok (.invokevirtual 82, 3) := by decide +kernel
theorem dL_law_582 : decode cL_law 582 = .ok (.aload_n 2, 1) := by decide +kernel
theorem dL_law_583 : decode cL_law 583 = .ok (.aload_n 0, 1) := by decide +kernel
theorem dL_law_584 : decode cL_law 584 = .ok (.iload_n 3, 1) := by decide +kernel
theorem dL_law_585 : decode cL_law 585 = .ok (.iconst 1, 1) := by decide +kernel
theorem dL_law_586 : decode cL_law 586 = .ok (.iadd, 1) := by decide +kernel
theorem dL_law_587 : decode cL_law 587 = .ok (.iaload, 1) := by decide +kernel
theorem dL_law_588 : decode cL_law 588 = .ok (.aload_n 0, 1) := by decide +kernel
theorem dL_law_589 : decode cL_law 589 = .ok (.iload_n 3, 1) := by decide +kernel
theorem dL_law_590 : decode cL_law 590 = .ok (.iconst 2, 1) := by decide +kernel
theorem dL_law_591 : decode cL_law 591 = .ok (.iadd, 1) := by decide +kernel
theorem dL_law_592 : decode cL_law 592 = .ok (.iaload, 1) := by decide +kernel
theorem dL_law_593 : decode cL_law 593 = .ok (.invokevirtual 85, 3) := by decide +kernel
theorem dL_law_596 : decode cL_law 596 = .ok (.if_icmp .eq 194, 3) := by decide +kernel
theorem dL_law_599 : decode cL_law 599 = .ok (.iconst 0, 1) := by decide +kernel
theorem dL_law_600 : decode cL_law 600 = .ok (.ireturn, 1) := by decide +kernel
theorem dL_law_601 : decode cL_law 601 = .ok (.aload_n 1, 1) := by decide +kernel
theorem dL_law_602 : decode cL_law 602 = .ok (.aload_n 0, 1) := by decide +kernel
theorem dL_law_603 : decode cL_law 603 = .ok (.iload_n 3, 1) := by decide +kernel
theorem dL_law_604 : decode cL_law 604 = .ok (.iconst 1, 1) := by decide +kernel
theorem dL_law_605 : decode cL_law 605 = .ok (.iadd, 1) := by decide +kernel
theorem dL_law_606 : decode cL_law 606 = .ok (.iaload, 1) := by decide +kernel
theorem dL_law_607 : decode cL_law 607 = .ok (.aload_n 0, 1) := by decide +kernel
theorem dL_law_608 : decode cL_law 608 = .ok (.iload_n 3, 1) := by decide +kernel
theorem dL_law_609 : decode cL_law 609 = .ok (.iconst 2, 1) := by decide +kernel
theorem dL_law_610 : decode cL_law 610 = .ok (.iadd, 1) := by decide +kernel
theorem dL_law_611 : decode cL_law 611 = .ok (.iaload, 1) := by decide +kernel
theorem dL_law_612 : decode cL_law 612 = .ok (.invokevirtual 86, 3) := by decide +kernel
theorem dL_law_615 : decode cL_law 615 = .ok (.aload_n 2, 1) := by decide +kernel
theorem dL_law_616 : decode cL_law 616 = .ok (.aload_n 0, 1) := by decide +kernel
theorem dL_law_617 : decode cL_law 617 = .ok (.iload_n 3, 1) := by decide +kernel
theorem dL_law_618 : decode cL_law 618 = .ok (.iconst 1, 1) := by decide +kernel
theorem dL_law_619 : decode cL_law 619 = .ok (.iadd, 1) := by decide +kernel
theorem dL_law_620 : decode cL_law 620 = .ok (.iaload, 1) := by decide +kernel
theorem dL_law_621 : decode cL_law 621 = .ok (.aload_n 0, 1) := by decide +kernel
theorem dL_law_622 : decode cL_law 622 = .ok (.iload_n 3, 1) := by decide +kernel
theorem dL_law_623 : decode cL_law 623 = .ok (.iconst 2, 1) := by decide +kernel
theorem dL_law_624 : decode cL_law 624 = .ok (.iadd, 1) := by decide +kernel
theorem dL_law_625 : decode cL_law 625 = .ok (.iaload, 1) := by decide +kernel
theorem dL_law_626 : decode cL_law 626 = .ok (.invokevirtual 89, 3) := by decide +kernel
theorem dL_law_629 : decode cL_law 629 = .ok (.if_icmp .eq 161, 3) := by decide +kernel
theorem dL_law_632 : decode cL_law 632 = .ok (.iconst 0, 1) := by decide +kernel
theorem dL_law_633 : decode cL_law 633 = .ok (.ireturn, 1) := by decide +kernel
theorem dL_law_634 : decode cL_law 634 = .ok (.aload_n 1, 1) := by decide +kernel
theorem dL_law_635 : decode cL_law 635 = .ok (.aload_n 0, 1) := by decide +kernel
theorem dL_law_636 : decode cL_law 636 = .ok (.iload_n 3, 1) := by decide +kernel
theorem dL_law_637 : decode cL_law 637 = .ok (.iconst 1, 1) := by decide +kernel
theorem dL_law_638 : decode cL_law 638 = .ok (.iadd, 1) := by decide +kernel
theorem dL_law_639 : decode cL_law 639 = .ok (.iaload, 1) := by decide +kernel
theorem dL_law_640 : decode cL_law 640 = .ok (.aload_n 0, 1) := by decide +kernel
theorem dL_law_641 : decode cL_law 641 = .ok (.iload_n 3, 1) := by decide +kernel
theorem dL_law_642 : decode cL_law 642 = .ok (.iconst 2, 1) := by decide +kernel
theorem dL_law_643 : decode cL_law 643 = .ok (.iadd, 1) := by decide +kernel
theorem dL_law_644 : decode cL_law 644 = .ok (.iaload, 1) := by decide +kernel
theorem dL_law_645 : decode cL_law 645 = .ok (.invokevirtual 90, 3) := by decide +kernel
theorem dL_law_648 : decode cL_law 648 = .ok (.aload_n 2, 1) := by decide +kernel
theorem dL_law_649 : decode cL_law 649 = .ok (.aload_n 0, 1) := by decide +kernel
theorem dL_law_650 : decode cL_law 650 = .ok (.iload_n 3, 1) := by decide +kernel
theorem dL_law_651 : decode cL_law 651 = .ok (.iconst 1, 1) := by decide +kernel
theorem dL_law_652 : decode cL_law 652 = .ok (.iadd, 1) := by decide +kernel
theorem dL_law_653 : decode cL_law 653 = .ok (.iaload, 1) := by decide +kernel
theorem dL_law_654 : decode cL_law 654 = .ok (.aload_n 0, 1) := by decide +kernel
theorem dL_law_655 : decode cL_law 655 = .ok (.iload_n 3, 1) := by decide +kernel
theorem dL_law_656 : decode cL_law 656 = .ok (.iconst 2, 1) := by decide +kernel
theorem dL_law_657 : decode cL_law 657 = .ok (.iadd, 1) := by decide +kernel
theorem dL_law_658 : decode cL_law 658 = .ok (.iaload, 1) := by decide +kernel
theorem dL_law_659 : decode cL_law 659 = .ok (.invokevirtual 93, 3) := by decide +kernel
theorem dL_law_662 : decode cL_law 662 = .ok (.if_icmp .eq 128, 3) := by decide +kernel
theorem dL_law_665 : decode cL_law 665 = .ok (.iconst 0, 1) := by decide +kernel
theorem dL_law_666 : decode cL_law 666 = .ok (.ireturn, 1) := by decide +kernel
theorem dL_law_667 : decode cL_law 667 = .ok (.aload_n 1, 1) := by decide +kernel
theorem dL_law_668 : decode cL_law 668 = .ok (.aload_n 0, 1) := by decide +kernel
theorem dL_law_669 : decode cL_law 669 = .ok (.iload_n 3, 1) := by decide +kernel
theorem dL_law_670 : decode cL_law 670 = .ok (.iconst 1, 1) := by decide +kernel
theorem dL_law_671 : decode cL_law 671 = .ok (.iadd, 1) := by decide +kernel
theorem dL_law_672 : decode cL_law 672 = .ok (.iaload, 1) := by decide +kernel
theorem dL_law_673 : decode cL_law 673 = .ok (.aload_n 0, 1) := by decide +kernel
theorem dL_law_674 : decode cL_law 674 = .ok (.iload_n 3, 1) := by decide +kernel
theorem dL_law_675 : decode cL_law 675 = .ok (.iconst 2, 1) := by decide +kernel
theorem dL_law_676 : decode cL_law 676 = .ok (.iadd, 1) := by decide +kernel
theorem dL_law_677 : decode cL_law 677 = .ok (.iaload, 1) := by decide +kernel
theorem dL_law_678 : decode cL_law 678 = .ok (.invokevirtual 94, 3) := by decide +kernel
theorem dL_law_681 : decode cL_law 681 = .ok (.aload_n 2, 1) := by decide +kernel
theorem dL_law_682 : decode cL_law 682 = .ok (.aload_n 0, 1) := by decide +kernel
theorem dL_law_683 : decode cL_law 683 = .ok (.iload_n 3, 1) := by decide +kernel
theorem dL_law_684 : decode cL_law 684 = .ok (.iconst 1, 1) := by decide +kernel
theorem dL_law_685 : decode cL_law 685 = .ok (.iadd, 1) := by decide +kernel
theorem dL_law_686 : decode cL_law 686 = .ok (.iaload, 1) := by decide +kernel
theorem dL_law_687 : decode cL_law 687 = .ok (.aload_n 0, 1) := by decide +kernel
theorem dL_law_688 : decode cL_law 688 = .ok (.iload_n 3, 1) := by decide +kernel
theorem dL_law_689 : decode cL_law 689 = .ok (.iconst 2, 1) := by decide +kernel
theorem dL_law_690 : decode cL_law 690 = .ok (.iadd, 1) := by decide +kernel
theorem dL_law_691 : decode cL_law 691 = .ok (.iaload, 1) := by decide +kernel
theorem dL_law_692 : decode cL_law 692 = .ok (.invokevirtual 97, 3) := by decide +kernel
theorem dL_law_695 : decode cL_law 695 = .ok (.if_icmp .eq 95, 3) := by decide +kernel
theorem dL_law_698 : decode cL_law 698 = .ok (.iconst 0, 1) := by decide +kernel
theorem dL_law_699 : decode cL_law 699 = .ok (.ireturn, 1) := by decide +kernel
theorem dL_law_700 : decode cL_law 700 = .ok (.aload_n 1, 1) := by decide +kernel
theorem dL_law_701 : decode cL_law 701 = .ok (.aload_n 0, 1) := by decide +kernel
theorem dL_law_702 : decode cL_law 702 = .ok (.iload_n 3, 1) := by decide +kernel
theorem dL_law_703 : decode cL_law 703 = .ok (.iconst 1, 1) := by decide +kernel
theorem dL_law_704 : decode cL_law 704 = .ok (.iadd, 1) := by decide +kernel
theorem dL_law_705 : decode cL_law 705 = .ok (.iaload, 1) := by decide +kernel
theorem dL_law_706 : decode cL_law 706 = .ok (.invokevirtual 98, 3) := by decide +kernel
theorem dL_law_709 : decode cL_law 709 = .ok (.aload_n 2, 1) := by decide +kernel
theorem dL_law_710 : decode cL_law 710 = .ok (.aload_n 0, 1) := by decide +kernel
theorem dL_law_711 : decode cL_law 711 = .ok (.iload_n 3, 1) := by decide +kernel
theorem dL_law_712 : decode cL_law 712 = .ok (.iconst 1, 1) := by decide +kernel
theorem dL_law_713 : decode cL_law 713 = .ok (.iadd, 1) := by decide +kernel
theorem dL_law_714 : decode cL_law 714 = .ok (.iaload, 1) := by decide +kernel
theorem dL_law_715 : decode cL_law 715 = .ok (.invokevirtual 101, 3) := by decide +kernel
theorem dL_law_718 : decode cL_law 718 = .ok (.if_icmp .eq 72, 3) := by decide +kernel
theorem dL_law_721 : decode cL_law 721 = .ok (.iconst 0, 1) := by decide +kernel
theorem dL_law_722 : decode cL_law 722 = .ok (.ireturn, 1) := by decide +kernel
theorem dL_law_723 : decode cL_law 723 = .ok (.aload_n 1, 1) := by decide +kernel
theorem dL_law_724 : decode cL_law 724 = .ok (.aload_n 0, 1) := by decide +kernel
theorem dL_law_725 : decode cL_law 725 = .ok (.iload_n 3, 1) := by decide +kernel
theorem dL_law_726 : decode cL_law 726 = .ok (.iconst 1, 1) := by decide +kernel
theorem dL_law_727 : decode cL_law 727 = .ok (.iadd, 1) := by decide +kernel
theorem dL_law_728 : decode cL_law 728 = .ok (.iaload, 1) := by decide +kernel
theorem dL_law_729 : decode cL_law 729 = .ok (.aload_n 0, 1) := by decide +kernel
theorem dL_law_730 : decode cL_law 730 = .ok (.iload_n 3, 1) := by decide +kernel
theorem dL_law_731 : decode cL_law 731 = .ok (.iconst 2, 1) := by decide +kernel
theorem dL_law_732 : decode cL_law 732 = .ok (.iadd, 1) := by decide +kernel
theorem dL_law_733 : decode cL_law 733 = .ok (.iaload, 1) := by decide +kernel
theorem dL_law_734 : decode cL_law 734 = .ok (.aload_n 0, 1) := by decide +kernel
theorem dL_law_735 : decode cL_law 735 = .ok (.iload_n 3, 1) := by decide +kernel
theorem dL_law_736 : decode cL_law 736 = .ok (.iconst 3, 1) := by decide +kernel
theorem dL_law_737 : decode cL_law 737 = .ok (.iadd, 1) := by decide +kernel
theorem dL_law_738 : decode cL_law 738 = .ok (.iaload, 1) := by decide +kernel
theorem dL_law_739 : decode cL_law 739 = .ok (.invokevirtual 102, 3) := by decide +kernel
theorem dL_law_742 : decode cL_law 742 = .ok (.aload_n 2, 1) := by decide +kernel
theorem dL_law_743 : decode cL_law 743 = .ok (.aload_n 0, 1) := by decide +kernel
theorem dL_law_744 : decode cL_law 744 = .ok (.iload_n 3, 1) := by decide +kernel
theorem dL_law_745 : decode cL_law 745 = .ok (.iconst 1, 1) := by decide +kernel
theorem dL_law_746 : decode cL_law 746 = .ok (.iadd, 1) := by decide +kernel
theorem dL_law_747 : decode cL_law 747 = .ok (.iaload, 1) := by decide +kernel
theorem dL_law_748 : decode cL_law 748 = .ok (.aload_n 0, 1) := by decide +kernel
theorem dL_law_749 : decode cL_law 749 = .ok (.iload_n 3, 1) := by decide +kernel
theorem dL_law_750 : decode cL_law 750 = .ok (.iconst 2, 1) := by decide +kernel
theorem dL_law_751 : decode cL_law 751 = .ok (.iadd, 1) := by decide +kernel
theorem dL_law_752 : decode cL_law 752 = .ok (.iaload, 1) := by decide +kernel
theorem dL_law_753 : decode cL_law 753 = .ok (.aload_n 0, 1) := by decide +kernel
theorem dL_law_754 : decode cL_law 754 = .ok (.iload_n 3, 1) := by decide +kernel
theorem dL_law_755 : decode cL_law 755 = .ok (.iconst 3, 1) := by decide +kernel
theorem dL_law_756 : decode cL_law 756 = .ok (.iadd, 1) := by decide +kernel
theorem dL_law_757 : decode cL_law 757 = .ok (.iaload, 1) := by decide +kernel
theorem dL_law_758 : decode cL_law 758 = .ok (.invokevirtual 106, 3) := by decide +kernel
theorem dL_law_761 : decode cL_law 761 = .ok (.lcmp, 1) := by decide +kernel
theorem dL_law_762 : decode cL_law 762 = .ok (.ifCond .eq 28, 3) := by decide +kernel
theorem dL_law_765 : decode cL_law 765 = .ok (.iconst 0, 1) := by decide +kernel
theorem dL_law_766 : decode cL_law 766 = .ok (.ireturn, 1) := by decide +kernel
theorem dL_law_767 : decode cL_law 767 = .ok (.aload_n 1, 1) := by decide +kernel
theorem dL_law_768 : decode cL_law 768 = .ok (.aload_n 0, 1) := by decide +kernel
theorem dL_law_769 : decode cL_law 769 = .ok (.iload_n 3, 1) := by decide +kernel
theorem dL_law_770 : decode cL_law 770 = .ok (.iconst 1, 1) := by decide +kernel
theorem dL_law_771 : decode cL_law 771 = .ok (.iadd, 1) := by decide +kernel
theorem dL_law_772 : decode cL_law 772 = .ok (.iaload, 1) := by decide +kernel
theorem dL_law_773 : decode cL_law 773 = .ok (.invokevirtual 107, 3) := by decide +kernel
theorem dL_law_776 : decode cL_law 776 = .ok (.aload_n 2, 1) := by decide +kernel
theorem dL_law_777 : decode cL_law 777 = .ok (.aload_n 0, 1) := by decide +kernel
theorem dL_law_778 : decode cL_law 778 = .ok (.iload_n 3, 1) := by decide +kernel
theorem dL_law_779 : decode cL_law 779 = .ok (.iconst 1, 1) := by decide +kernel
theorem dL_law_780 : decode cL_law 780 = .ok (.iadd, 1) := by decide +kernel
theorem dL_law_781 : decode cL_law 781 = .ok (.iaload, 1) := by decide +kernel
theorem dL_law_782 : decode cL_law 782 = .ok (.invokevirtual 110, 3) := by decide +kernel
theorem dL_law_785 : decode cL_law 785 = .ok (.if_icmp .eq 5, 3) := by decide +kernel
theorem dL_law_788 : decode cL_law 788 = .ok (.iconst 0, 1) := by decide +kernel
theorem dL_law_789 : decode cL_law 789 = .ok (.ireturn, 1) := by decide +kernel
theorem dL_law_790 : decode cL_law 790 = .ok (.iinc 3 6, 3) := by decide +kernel
theorem dL_law_793 : decode cL_law 793 = .ok (.goto (-775), 3) := by decide +kernel
theorem dL_law_796 : decode cL_law 796 = .ok (.iconst 1, 1) := by decide +kernel
theorem dL_law_797 : decode cL_law 797 = .ok (.ireturn, 1) := by decide +kernel
-- vwCl stands in 01
end
section
set_option maxHeartbeats 1000000 in
theorem pf_X3_isIn_1 (v : Int32) (lo : Int32) (hi : Int32) (c_1 : v < lo) : 0 = bIn v lo hi := by
  grind [bIn]
set_option maxHeartbeats 1000000 in
theorem pf_X3_isIn_2 (v : Int32) (lo : Int32) (hi : Int32) (c_1 : ¬ v < lo) (c_2 : hi < v) : 0 = bIn v lo hi := by
  grind [bIn]
set_option maxHeartbeats 1000000 in
theorem pf_X3_isIn_3 (v : Int32) (lo : Int32) (hi : Int32) (c_1 : ¬ v < lo) (c_2 : ¬ hi < v) : 1 = bIn v lo hi := by
  grind [bIn]
set_option maxHeartbeats 4000000 in
set_option maxRecDepth 100000 in
theorem c_X3_isIn (l : Launch) (D : va_G) (cI : ClassId) (sz : Nat) (v : Int32) (lo : Int32) (hi : Int32) : CtI l yX3_isIn wsX3_isIn 0 0 0 0 [.int v, .int lo, .int hi] D [(cI, .int)] [] sz (fun (r : Int32) (u : Unit) => r = bIn v lo hi) (fun (u : Unit) => []) := by
  refine Met.ofW (cc := cX3_isIn) (maxL := 3) (ret := (some .boolean)) (by decide) rfl ?_
  intro p e s m args below meth c s₁ B hml hv
  obtain ⟨rfl, hsz, hP, hK, hD0, hN⟩ := hv
  have hx := B.exec
  have hb := B.bytes
  have hr := B.returns
  have hts := atoms_spec (ws := wsX3_isIn) B.pre
  have hown : s.vm.findClass RX3 = some m.cls := findClass_of_methodNamed B.named
  have hlocks := B.notSynchronized
  subst hsz
  have hD := hD0.self (sz := s.heap.size)
  generalize hAe : va_A [] s.heap.size = A at hD ⊢
  have hA : ∀ q : Nat, s.heap.size ≤ q → A q := fun q h => by rw [← hAe]; exact Or.inr h
  have hS : va_S A s.heap s.heap [] := va_S.rf
  have hl := lv_entry ([.int v, .int lo, .int hi]) (n := 3) (Nat.le_of_ble_eq_true rfl)
  rw [lg_entry_eq]
  generalize (lg_sl ([.int v, .int lo, .int hi]) ++ List.replicate (3 - (lg_sl ([.int v, .int lo, .int hi])).length) Slot.unset).toArray = ls at hl ⊢
  have hl : lv_has ls 3 [(0, .int v), (1, .int lo), (2, .int hi)] := hl
  have hP0 := hP
  refine lv_iload_n hx hb dX3_isIn_0 rfl (lv_at hl 0 rfl) ?_
  refine lv_iload_n hx hb dX3_isIn_1 rfl (lv_at hl 1 rfl) ?_
  refine lv_icmp_lt (tgt := 14) hx hb dX3_isIn_2 (by decide) (fun c_1 => ?_) (fun c_1 => ?_)
  · refine lv_iconst (v := 0) hx hb dX3_isIn_14 (by decide) ?_
    refine W.widen (k := 0) (n := 0) (Nat.le_of_ble_eq_true rfl) (Nat.le_of_ble_eq_true rfl) ?_
    exact fi_z () hx hb hr rfl hlocks hK (hP.sub [] rfl) (hD.sub [] (by decide) rfl) hS (pf_X3_isIn_1 v lo hi c_1) dX3_isIn_15
  · refine lv_iload_n hx hb dX3_isIn_5 rfl (lv_at hl 0 rfl) ?_
    refine lv_iload_n hx hb dX3_isIn_6 rfl (lv_at hl 2 rfl) ?_
    refine lv_icmp_gt (tgt := 14) hx hb dX3_isIn_7 (by decide) (fun c_2 => ?_) (fun c_2 => ?_)
    · refine lv_iconst (v := 0) hx hb dX3_isIn_14 (by decide) ?_
      refine W.widen (k := 0) (n := 0) (Nat.le_of_ble_eq_true rfl) (Nat.le_of_ble_eq_true rfl) ?_
      exact fi_z () hx hb hr rfl hlocks hK (hP.sub [] rfl) (hD.sub [] (by decide) rfl) hS (pf_X3_isIn_2 v lo hi c_1 c_2) dX3_isIn_15
    · refine lv_iconst (v := 1) hx hb dX3_isIn_10 (by decide) ?_
      refine lv_goto (tgt := 15) hx hb dX3_isIn_11 (by decide) ?_
      refine W.widen (k := 0) (n := 0) (Nat.le_of_ble_eq_true rfl) (Nat.le_of_ble_eq_true rfl) ?_
      exact fi_z () hx hb hr rfl hlocks hK (hP.sub [] rfl) (hD.sub [] (by decide) rfl) hS (pf_X3_isIn_3 v lo hi c_1 c_2) dX3_isIn_15

set_option maxHeartbeats 1000000 in
theorem pf_X3_isDay_1 (v : Int32) (r_1 : Int32) (w_2 : r_1 = bIn v 0 39) : r_1 = bIn v 0 39 := by
  grind [bIn]
set_option maxHeartbeats 1000000 in
theorem pf_X3_isDay_2 (v : Int32) (r_1 : Int32) (w_2 : r_1 = bIn v 0 39) : narrow .boolean (.int r_1) = .int r_1 := by
  exact nar_b (by subst_vars; exact bIn_01 _ _ _)
set_option maxHeartbeats 4000000 in
set_option maxRecDepth 100000 in
theorem c_X3_isDay (l : Launch) (D : va_G) (cI : ClassId) (sz : Nat) (v : Int32) : CtI l yX3_isDay wsX3_isDay 1 22 0 0 [.int v] D [(cI, .int)] [] sz (fun (r : Int32) (u : Unit) => r = bIn v 0 39) (fun (u : Unit) => []) := by
  refine Met.ofW (cc := cX3_isDay) (maxL := 1) (ret := (some .boolean)) (by decide) rfl ?_
  intro p e s m args below meth c s₁ B hml hv
  obtain ⟨rfl, hsz, hP, hK, hD0, hN⟩ := hv
  have hx := B.exec
  have hb := B.bytes
  have hr := B.returns
  have hts := atoms_spec (ws := wsX3_isDay) B.pre
  have hown : s.vm.findClass RX3 = some m.cls := findClass_of_methodNamed B.named
  have hlocks := B.notSynchronized
  subst hsz
  have hD := hD0.self (sz := s.heap.size)
  generalize hAe : va_A [] s.heap.size = A at hD ⊢
  have hA : ∀ q : Nat, s.heap.size ≤ q → A q := fun q h => by rw [← hAe]; exact Or.inr h
  have hS : va_S A s.heap s.heap [] := va_S.rf
  have hl := lv_entry ([.int v]) (n := 1) (Nat.le_of_ble_eq_true rfl)
  rw [lg_entry_eq]
  generalize (lg_sl ([.int v]) ++ List.replicate (1 - (lg_sl ([.int v])).length) Slot.unset).toArray = ls at hl ⊢
  have hl : lv_has ls 1 [(0, .int v)] := hl
  have hP0 := hP
  refine lv_iload_n hx hb dX3_isDay_0 rfl (lv_at hl 0 rfl) ?_
  refine lv_iconst (v := 0) hx hb dX3_isDay_1 (by decide) ?_
  refine lv_bipush (v := 39) hx hb dX3_isDay_2 (by decide) ?_
  refine cc_i (wc := []) (wr := []) (va_runS (As := [.int v, .int 0, .int 39]) (rest := []) ⟨hx, hb, hml, hown, hts⟩ (c_X3_isIn l D cI s.heap.size v 0 39 ) (va_cwS 3 hts gX3_isDay_X3_isIn rfl rfl rfl (by decide +kernel) ⟨Nat.le_of_ble_eq_true rfl, Nat.le_of_ble_eq_true rfl⟩) (preS (wc := []) hK hP hD hN [] rfl (by decide)) rfl rfl hl.1 rfl (lv_room (Nat.le_of_ble_eq_true rfl)) dX3_isDay_4 ⟨Nat.le_of_ble_eq_true rfl, Nat.le_of_ble_eq_true rfl⟩) hP hD hS hA [] [] rfl rfl (by decide) (by decide) (fun r_1 u H locs w_2 hP hD hS => ?_)
  have hP : va_P D vwCl [] H := hP
  have hD : va_D A [] := hD
  have w_2 : r_1 = bIn v 0 39 := w_2
  refine W.widen (k := 0) (n := 0) (Nat.le_of_ble_eq_true rfl) (Nat.le_of_ble_eq_true rfl) ?_
  exact fi_z () hx hb hr ((pf_X3_isDay_2 v r_1 w_2)) hlocks hK (hP.sub [] rfl) (hD.sub [] (by decide) rfl) hS (pf_X3_isDay_1 v r_1 w_2) dX3_isDay_7
end
section
theorem iw_X0_hardnessOf_0 : ∀ w ∈ wsX00, w ∈ wsX0_hardnessOf := by decide +kernel
set_option maxHeartbeats 1000000 in
theorem pf_X0_hardnessOf_1 (pts : Int32) (fd : Nat → Int32) (fh : Nat → Int32) (d : Int32) (n_7 : Nat) (i : Nat) (k : Int32) (gd : Int32) (gh : Int32) (hn_7 : 6 - i < n_7 + 1) (ek : k = nI i) (hi : i ≤ 6) (hr : hof fd fh pts d (7 - i) i gd gh = hof fd fh pts d 7 0 0 0) (c_1 : pts ≤ k) : gh = hof fd fh pts d 7 0 0 0 := by
  rw [hof_s hi] at hr
  rw [← hr]
  subst_vars
  grind
set_option maxHeartbeats 1000000 in
theorem pf_X0_hardnessOf_2 (pts : Int32) (fd : Nat → Int32) (fh : Nat → Int32) (d : Int32) (n_7 : Nat) (i : Nat) (k : Int32) (gd : Int32) (gh : Int32) (hn_7 : 6 - i < n_7 + 1) (ek : k = nI i) (hi : i ≤ 6) (hr : hof fd fh pts d (7 - i) i gd gh = hof fd fh pts d 7 0 0 0) (c_1 : ¬ pts ≤ k) (c_2 : 6 ≤ k) : gh = hof fd fh pts d 7 0 0 0 := by
  rw [hof_s hi] at hr
  rw [← hr]
  subst_vars
  grind
set_option maxHeartbeats 1000000 in
theorem pf_X0_hardnessOf_3 (pts : Int32) (fd : Nat → Int32) (fh : Nat → Int32) (d : Int32) (n_7 : Nat) (i : Nat) (k : Int32) (gd : Int32) (gh : Int32) (hn_7 : 6 - i < n_7 + 1) (ek : k = nI i) (hi : i ≤ 6) (hr : hof fd fh pts d (7 - i) i gd gh = hof fd fh pts d 7 0 0 0) (c_1 : ¬ pts ≤ k) (c_2 : ¬ 6 ≤ k) : vp_in k 6 := by
  have := nI_lt6 ek hi (by assumption)
  subst ek
  exact vp_in_nI this (by omega)
set_option maxHeartbeats 1000000 in
theorem pf_X0_hardnessOf_4 (pts : Int32) (fd : Nat → Int32) (fh : Nat → Int32) (d : Int32) (n_7 : Nat) (i : Nat) (k : Int32) (gd : Int32) (gh : Int32) (v_3 : Int32) (v_4 : Int32) (hn_7 : 6 - i < n_7 + 1) (ek : k = nI i) (hi : i ≤ 6) (hr : hof fd fh pts d (7 - i) i gd gh = hof fd fh pts d 7 0 0 0) (c_1 : ¬ pts ≤ k) (c_2 : ¬ 6 ≤ k) (ev_3 : v_3 = fd k.toNatClampNeg) (ev_4 : v_4 = v_3 - gd) : vp_in k 6 := by
  have := nI_lt6 ek hi (by assumption)
  subst ek
  exact vp_in_nI this (by omega)
set_option maxHeartbeats 1000000 in
theorem pf_X0_hardnessOf_5 (pts : Int32) (fd : Nat → Int32) (fh : Nat → Int32) (d : Int32) (n_7 : Nat) (i : Nat) (k : Int32) (gd : Int32) (gh : Int32) (v_3 : Int32) (v_4 : Int32) (v_5 : Int32) (hn_7 : 6 - i < n_7 + 1) (ek : k = nI i) (hi : i ≤ 6) (hr : hof fd fh pts d (7 - i) i gd gh = hof fd fh pts d 7 0 0 0) (c_1 : ¬ pts ≤ k) (c_2 : ¬ 6 ≤ k) (ev_3 : v_3 = fd k.toNatClampNeg) (ev_4 : v_4 = v_3 - gd) (ev_5 : v_5 = fd k.toNatClampNeg) (c_6 : v_5 ≤ d) : vp_in k 6 := by
  have := nI_lt6 ek hi (by assumption)
  subst ek
  exact vp_in_nI this (by omega)
set_option maxHeartbeats 1000000 in
theorem pf_X0_hardnessOf_6 (pts : Int32) (fd : Nat → Int32) (fh : Nat → Int32) (d : Int32) (n_7 : Nat) (i : Nat) (k : Int32) (gd : Int32) (gh : Int32) (v_3 : Int32) (v_4 : Int32) (v_5 : Int32) (v_7 : Int32) (hn_7 : 6 - i < n_7 + 1) (ek : k = nI i) (hi : i ≤ 6) (hr : hof fd fh pts d (7 - i) i gd gh = hof fd fh pts d 7 0 0 0) (c_1 : ¬ pts ≤ k) (c_2 : ¬ 6 ≤ k) (ev_3 : v_3 = fd k.toNatClampNeg) (ev_4 : v_4 = v_3 - gd) (ev_5 : v_5 = fd k.toNatClampNeg) (c_6 : v_5 ≤ d) (ev_7 : v_7 = fd k.toNatClampNeg) : vp_in k 6 := by
  have := nI_lt6 ek hi (by assumption)
  subst ek
  exact vp_in_nI this (by omega)
set_option maxHeartbeats 1000000 in
theorem pf_X0_hardnessOf_7 (pts : Int32) (fd : Nat → Int32) (fh : Nat → Int32) (d : Int32) (n_7 : Nat) (i : Nat) (k : Int32) (gd : Int32) (gh : Int32) (v_3 : Int32) (v_4 : Int32) (v_5 : Int32) (v_7 : Int32) (v_8 : Int32) (v_9 : Int32) (hn_7 : 6 - i < n_7 + 1) (ek : k = nI i) (hi : i ≤ 6) (hr : hof fd fh pts d (7 - i) i gd gh = hof fd fh pts d 7 0 0 0) (c_1 : ¬ pts ≤ k) (c_2 : ¬ 6 ≤ k) (ev_3 : v_3 = fd k.toNatClampNeg) (ev_4 : v_4 = v_3 - gd) (ev_5 : v_5 = fd k.toNatClampNeg) (c_6 : v_5 ≤ d) (ev_7 : v_7 = fd k.toNatClampNeg) (ev_8 : v_8 = fh k.toNatClampNeg) (ev_9 : v_9 = k + 1) : 6 - (i + 1) < n_7 := by
  have := nI_lt6 ek hi (by assumption)
  omega
set_option maxHeartbeats 1000000 in
theorem pf_X0_hardnessOf_8 (pts : Int32) (fd : Nat → Int32) (fh : Nat → Int32) (d : Int32) (n_7 : Nat) (i : Nat) (k : Int32) (gd : Int32) (gh : Int32) (v_3 : Int32) (v_4 : Int32) (v_5 : Int32) (v_7 : Int32) (v_8 : Int32) (v_9 : Int32) (hn_7 : 6 - i < n_7 + 1) (ek : k = nI i) (hi : i ≤ 6) (hr : hof fd fh pts d (7 - i) i gd gh = hof fd fh pts d 7 0 0 0) (c_1 : ¬ pts ≤ k) (c_2 : ¬ 6 ≤ k) (ev_3 : v_3 = fd k.toNatClampNeg) (ev_4 : v_4 = v_3 - gd) (ev_5 : v_5 = fd k.toNatClampNeg) (c_6 : v_5 ≤ d) (ev_7 : v_7 = fd k.toNatClampNeg) (ev_8 : v_8 = fh k.toNatClampNeg) (ev_9 : v_9 = k + 1) : v_9 = nI (i + 1) := by
  subst_vars
  exact nI_1 i
set_option maxHeartbeats 1000000 in
theorem pf_X0_hardnessOf_9 (pts : Int32) (fd : Nat → Int32) (fh : Nat → Int32) (d : Int32) (n_7 : Nat) (i : Nat) (k : Int32) (gd : Int32) (gh : Int32) (v_3 : Int32) (v_4 : Int32) (v_5 : Int32) (v_7 : Int32) (v_8 : Int32) (v_9 : Int32) (hn_7 : 6 - i < n_7 + 1) (ek : k = nI i) (hi : i ≤ 6) (hr : hof fd fh pts d (7 - i) i gd gh = hof fd fh pts d 7 0 0 0) (c_1 : ¬ pts ≤ k) (c_2 : ¬ 6 ≤ k) (ev_3 : v_3 = fd k.toNatClampNeg) (ev_4 : v_4 = v_3 - gd) (ev_5 : v_5 = fd k.toNatClampNeg) (c_6 : v_5 ≤ d) (ev_7 : v_7 = fd k.toNatClampNeg) (ev_8 : v_8 = fh k.toNatClampNeg) (ev_9 : v_9 = k + 1) : (i + 1) ≤ 6 := by
  have := nI_lt6 ek hi (by assumption)
  omega
set_option maxHeartbeats 1000000 in
theorem pf_X0_hardnessOf_10 (pts : Int32) (fd : Nat → Int32) (fh : Nat → Int32) (d : Int32) (n_7 : Nat) (i : Nat) (k : Int32) (gd : Int32) (gh : Int32) (v_3 : Int32) (v_4 : Int32) (v_5 : Int32) (v_7 : Int32) (v_8 : Int32) (v_9 : Int32) (hn_7 : 6 - i < n_7 + 1) (ek : k = nI i) (hi : i ≤ 6) (hr : hof fd fh pts d (7 - i) i gd gh = hof fd fh pts d 7 0 0 0) (c_1 : ¬ pts ≤ k) (c_2 : ¬ 6 ≤ k) (ev_3 : v_3 = fd k.toNatClampNeg) (ev_4 : v_4 = v_3 - gd) (ev_5 : v_5 = fd k.toNatClampNeg) (c_6 : v_5 ≤ d) (ev_7 : v_7 = fd k.toNatClampNeg) (ev_8 : v_8 = fh k.toNatClampNeg) (ev_9 : v_9 = k + 1) : hof fd fh pts d (7 - (i + 1)) (i + 1) v_7 v_8 = hof fd fh pts d 7 0 0 0 := by
  have hc : k.toNatClampNeg = i := nI_cl ek (by omega)
  rw [hof_s hi] at hr
  rw [← hr]
  simp only [hc] at *
  subst_vars
  grind
set_option maxHeartbeats 1000000 in
theorem pf_X0_hardnessOf_11 (pts : Int32) (fd : Nat → Int32) (fh : Nat → Int32) (d : Int32) (n_7 : Nat) (i : Nat) (k : Int32) (gd : Int32) (gh : Int32) (v_3 : Int32) (v_4 : Int32) (v_5 : Int32) (hn_7 : 6 - i < n_7 + 1) (ek : k = nI i) (hi : i ≤ 6) (hr : hof fd fh pts d (7 - i) i gd gh = hof fd fh pts d 7 0 0 0) (c_1 : ¬ pts ≤ k) (c_2 : ¬ 6 ≤ k) (ev_3 : v_3 = fd k.toNatClampNeg) (ev_4 : v_4 = v_3 - gd) (ev_5 : v_5 = fd k.toNatClampNeg) (c_6 : ¬ v_5 ≤ d) (c_10 : v_4 ≤ 0) : vp_in k 6 := by
  have := nI_lt6 ek hi (by assumption)
  subst ek
  exact vp_in_nI this (by omega)
set_option maxHeartbeats 1000000 in
theorem pf_X0_hardnessOf_12 (pts : Int32) (fd : Nat → Int32) (fh : Nat → Int32) (d : Int32) (n_7 : Nat) (i : Nat) (k : Int32) (gd : Int32) (gh : Int32) (v_3 : Int32) (v_4 : Int32) (v_5 : Int32) (v_11 : Int32) (hn_7 : 6 - i < n_7 + 1) (ek : k = nI i) (hi : i ≤ 6) (hr : hof fd fh pts d (7 - i) i gd gh = hof fd fh pts d 7 0 0 0) (c_1 : ¬ pts ≤ k) (c_2 : ¬ 6 ≤ k) (ev_3 : v_3 = fd k.toNatClampNeg) (ev_4 : v_4 = v_3 - gd) (ev_5 : v_5 = fd k.toNatClampNeg) (c_6 : ¬ v_5 ≤ d) (c_10 : v_4 ≤ 0) (ev_11 : v_11 = fd k.toNatClampNeg) : vp_in k 6 := by
  have := nI_lt6 ek hi (by assumption)
  subst ek
  exact vp_in_nI this (by omega)
set_option maxHeartbeats 1000000 in
theorem pf_X0_hardnessOf_13 (pts : Int32) (fd : Nat → Int32) (fh : Nat → Int32) (d : Int32) (n_7 : Nat) (i : Nat) (k : Int32) (gd : Int32) (gh : Int32) (v_3 : Int32) (v_4 : Int32) (v_5 : Int32) (v_11 : Int32) (v_12 : Int32) (v_13 : Int32) (hn_7 : 6 - i < n_7 + 1) (ek : k = nI i) (hi : i ≤ 6) (hr : hof fd fh pts d (7 - i) i gd gh = hof fd fh pts d 7 0 0 0) (c_1 : ¬ pts ≤ k) (c_2 : ¬ 6 ≤ k) (ev_3 : v_3 = fd k.toNatClampNeg) (ev_4 : v_4 = v_3 - gd) (ev_5 : v_5 = fd k.toNatClampNeg) (c_6 : ¬ v_5 ≤ d) (c_10 : v_4 ≤ 0) (ev_11 : v_11 = fd k.toNatClampNeg) (ev_12 : v_12 = fh k.toNatClampNeg) (ev_13 : v_13 = k + 1) : 6 - (i + 1) < n_7 := by
  have := nI_lt6 ek hi (by assumption)
  omega
set_option maxHeartbeats 1000000 in
theorem pf_X0_hardnessOf_14 (pts : Int32) (fd : Nat → Int32) (fh : Nat → Int32) (d : Int32) (n_7 : Nat) (i : Nat) (k : Int32) (gd : Int32) (gh : Int32) (v_3 : Int32) (v_4 : Int32) (v_5 : Int32) (v_11 : Int32) (v_12 : Int32) (v_13 : Int32) (hn_7 : 6 - i < n_7 + 1) (ek : k = nI i) (hi : i ≤ 6) (hr : hof fd fh pts d (7 - i) i gd gh = hof fd fh pts d 7 0 0 0) (c_1 : ¬ pts ≤ k) (c_2 : ¬ 6 ≤ k) (ev_3 : v_3 = fd k.toNatClampNeg) (ev_4 : v_4 = v_3 - gd) (ev_5 : v_5 = fd k.toNatClampNeg) (c_6 : ¬ v_5 ≤ d) (c_10 : v_4 ≤ 0) (ev_11 : v_11 = fd k.toNatClampNeg) (ev_12 : v_12 = fh k.toNatClampNeg) (ev_13 : v_13 = k + 1) : v_13 = nI (i + 1) := by
  subst_vars
  exact nI_1 i
set_option maxHeartbeats 1000000 in
theorem pf_X0_hardnessOf_15 (pts : Int32) (fd : Nat → Int32) (fh : Nat → Int32) (d : Int32) (n_7 : Nat) (i : Nat) (k : Int32) (gd : Int32) (gh : Int32) (v_3 : Int32) (v_4 : Int32) (v_5 : Int32) (v_11 : Int32) (v_12 : Int32) (v_13 : Int32) (hn_7 : 6 - i < n_7 + 1) (ek : k = nI i) (hi : i ≤ 6) (hr : hof fd fh pts d (7 - i) i gd gh = hof fd fh pts d 7 0 0 0) (c_1 : ¬ pts ≤ k) (c_2 : ¬ 6 ≤ k) (ev_3 : v_3 = fd k.toNatClampNeg) (ev_4 : v_4 = v_3 - gd) (ev_5 : v_5 = fd k.toNatClampNeg) (c_6 : ¬ v_5 ≤ d) (c_10 : v_4 ≤ 0) (ev_11 : v_11 = fd k.toNatClampNeg) (ev_12 : v_12 = fh k.toNatClampNeg) (ev_13 : v_13 = k + 1) : (i + 1) ≤ 6 := by
  have := nI_lt6 ek hi (by assumption)
  omega
set_option maxHeartbeats 1000000 in
theorem pf_X0_hardnessOf_16 (pts : Int32) (fd : Nat → Int32) (fh : Nat → Int32) (d : Int32) (n_7 : Nat) (i : Nat) (k : Int32) (gd : Int32) (gh : Int32) (v_3 : Int32) (v_4 : Int32) (v_5 : Int32) (v_11 : Int32) (v_12 : Int32) (v_13 : Int32) (hn_7 : 6 - i < n_7 + 1) (ek : k = nI i) (hi : i ≤ 6) (hr : hof fd fh pts d (7 - i) i gd gh = hof fd fh pts d 7 0 0 0) (c_1 : ¬ pts ≤ k) (c_2 : ¬ 6 ≤ k) (ev_3 : v_3 = fd k.toNatClampNeg) (ev_4 : v_4 = v_3 - gd) (ev_5 : v_5 = fd k.toNatClampNeg) (c_6 : ¬ v_5 ≤ d) (c_10 : v_4 ≤ 0) (ev_11 : v_11 = fd k.toNatClampNeg) (ev_12 : v_12 = fh k.toNatClampNeg) (ev_13 : v_13 = k + 1) : hof fd fh pts d (7 - (i + 1)) (i + 1) v_11 v_12 = hof fd fh pts d 7 0 0 0 := by
  have hc : k.toNatClampNeg = i := nI_cl ek (by omega)
  rw [hof_s hi] at hr
  rw [← hr]
  simp only [hc] at *
  subst_vars
  grind
set_option maxHeartbeats 1000000 in
theorem pf_X0_hardnessOf_17 (pts : Int32) (fd : Nat → Int32) (fh : Nat → Int32) (d : Int32) (n_7 : Nat) (i : Nat) (k : Int32) (gd : Int32) (gh : Int32) (v_3 : Int32) (v_4 : Int32) (v_5 : Int32) (hn_7 : 6 - i < n_7 + 1) (ek : k = nI i) (hi : i ≤ 6) (hr : hof fd fh pts d (7 - i) i gd gh = hof fd fh pts d 7 0 0 0) (c_1 : ¬ pts ≤ k) (c_2 : ¬ 6 ≤ k) (ev_3 : v_3 = fd k.toNatClampNeg) (ev_4 : v_4 = v_3 - gd) (ev_5 : v_5 = fd k.toNatClampNeg) (c_6 : ¬ v_5 ≤ d) (c_10 : ¬ v_4 ≤ 0) : vp_in k 6 := by
  have := nI_lt6 ek hi (by assumption)
  subst ek
  exact vp_in_nI this (by omega)
set_option maxHeartbeats 1000000 in
theorem pf_X0_hardnessOf_18 (pts : Int32) (fd : Nat → Int32) (fh : Nat → Int32) (d : Int32) (n_7 : Nat) (i : Nat) (k : Int32) (gd : Int32) (gh : Int32) (v_3 : Int32) (v_4 : Int32) (v_5 : Int32) (v_14 : Int32) (v_15 : Int32) (v_16 : Int32) (v_17 : Int32) (hn_7 : 6 - i < n_7 + 1) (ek : k = nI i) (hi : i ≤ 6) (hr : hof fd fh pts d (7 - i) i gd gh = hof fd fh pts d 7 0 0 0) (c_1 : ¬ pts ≤ k) (c_2 : ¬ 6 ≤ k) (ev_3 : v_3 = fd k.toNatClampNeg) (ev_4 : v_4 = v_3 - gd) (ev_5 : v_5 = fd k.toNatClampNeg) (c_6 : ¬ v_5 ≤ d) (c_10 : ¬ v_4 ≤ 0) (ev_14 : v_14 = fh k.toNatClampNeg) (ev_15 : v_15 = v_14 - gh) (ev_16 : v_16 = d - gd) (ev_17 : v_17 = v_15 * v_16) : ¬ v_4 = 0 := by
  grind
set_option maxHeartbeats 1000000 in
theorem pf_X0_hardnessOf_19 (pts : Int32) (fd : Nat → Int32) (fh : Nat → Int32) (d : Int32) (n_7 : Nat) (i : Nat) (k : Int32) (gd : Int32) (gh : Int32) (v_3 : Int32) (v_4 : Int32) (v_5 : Int32) (v_14 : Int32) (v_15 : Int32) (v_16 : Int32) (v_17 : Int32) (v_18 : Int32) (v_19 : Int32) (hn_7 : 6 - i < n_7 + 1) (ek : k = nI i) (hi : i ≤ 6) (hr : hof fd fh pts d (7 - i) i gd gh = hof fd fh pts d 7 0 0 0) (c_1 : ¬ pts ≤ k) (c_2 : ¬ 6 ≤ k) (ev_3 : v_3 = fd k.toNatClampNeg) (ev_4 : v_4 = v_3 - gd) (ev_5 : v_5 = fd k.toNatClampNeg) (c_6 : ¬ v_5 ≤ d) (c_10 : ¬ v_4 ≤ 0) (ev_14 : v_14 = fh k.toNatClampNeg) (ev_15 : v_15 = v_14 - gh) (ev_16 : v_16 = d - gd) (ev_17 : v_17 = v_15 * v_16) (ev_18 : v_18 = v_17 / v_4) (ev_19 : v_19 = gh + v_18) : v_19 = hof fd fh pts d 7 0 0 0 := by
  have hc : k.toNatClampNeg = i := nI_cl ek (by omega)
  rw [hof_s hi] at hr
  rw [← hr]
  simp only [hc] at *
  subst_vars
  grind
set_option maxHeartbeats 1000000 in
theorem pf_X0_hardnessOf_20   : 0 = nI 0 := by
  exact nI_0.symm
set_option maxHeartbeats 1000000 in
theorem pf_X0_hardnessOf_21   : 0 ≤ 6 := by
  omega
set_option maxHeartbeats 1000000 in
theorem pf_X0_hardnessOf_22 (pts : Int32) (fd : Nat → Int32) (fh : Nat → Int32) (d : Int32)  : hof fd fh pts d (7 - 0) 0 0 0 = hof fd fh pts d 7 0 0 0 := by
  rfl
set_option maxHeartbeats 4000000 in
set_option maxRecDepth 100000 in
theorem c_X0_hardnessOf (l : Launch) (D : va_G) (cI : ClassId) (sz : Nat) (h0 : Nat) (a2 : Nat) (a3 : Nat) (a0 : Nat) (a1 : Nat) (a4 : Nat) (a5 : Nat) (bw : Int32) (pts : Int32) (fd : Nat → Int32) (fh : Nat → Int32) (d : Int32) : CtI l yX0_hardnessOf wsX0_hardnessOf 0 0 0 0 [.ref h0, .int d] D [(cI, .int)] [(h0, .inr (0, [.ref a0, .ref a1, .ref a2, .ref a3, .ref a4, .ref a5, .int bw, .int pts])), (a2, .inl (cI, 6, .inl fd)), (a3, .inl (cI, 6, .inl fh))] sz (fun (r : Int32) (u : Unit) => r = hof fd fh pts d 7 0 0 0) (fun (u : Unit) => [(h0, .inr (0, [.ref a0, .ref a1, .ref a2, .ref a3, .ref a4, .ref a5, .int bw, .int pts])), (a2, .inl (cI, 6, .inl fd)), (a3, .inl (cI, 6, .inl fh))]) := by
  refine Met.ofW (cc := cX0_hardnessOf) (maxL := 7) (ret := (some .int)) (by decide) rfl ?_
  intro p e s m args below meth c s₁ B hml hv
  obtain ⟨rfl, hsz, hP, hK, hD0, hN⟩ := hv
  have hx := B.exec
  have hb := B.bytes
  have hr := B.returns
  have hts := atoms_spec (ws := wsX0_hardnessOf) B.pre
  have hown : s.vm.findClass RX0 = some m.cls := findClass_of_methodNamed B.named
  have hlocks := B.notSynchronized
  subst hsz
  have hD := hD0.self (sz := s.heap.size)
  generalize hAe : va_A [(h0, .inr (0, [.ref a0, .ref a1, .ref a2, .ref a3, .ref a4, .ref a5, .int bw, .int pts])), (a2, .inl (cI, 6, .inl fd)), (a3, .inl (cI, 6, .inl fh))] s.heap.size = A at hD ⊢
  have hA : ∀ q : Nat, s.heap.size ≤ q → A q := fun q h => by rw [← hAe]; exact Or.inr h
  have hS : va_S A s.heap s.heap [] := va_S.rf
  have hl := lv_entry ([.ref h0, .int d]) (n := 7) (Nat.le_of_ble_eq_true rfl)
  rw [lg_entry_eq]
  generalize (lg_sl ([.ref h0, .int d]) ++ List.replicate (7 - (lg_sl ([.ref h0, .int d])).length) Slot.unset).toArray = ls at hl ⊢
  have hl : lv_has ls 7 [(0, .ref h0), (1, .int d)] := hl
  refine W_gen (fun GW hIn hOut => ?_)
  refine hIn _ _ _ _ _ ?_
  have hP0 := hP
  refine lv_iconst (v := 0) hx hb dX0_hardnessOf_0 (by decide) ?_
  refine lv_istore_n (lv' := [(2, .int 0), (0, .ref h0), (1, .int d)]) hx hb dX0_hardnessOf_1 rfl hl (by decide) rfl (fun ls hl => ?_)
  refine lv_iconst (v := 0) hx hb dX0_hardnessOf_2 (by decide) ?_
  refine lv_istore_n (lv' := [(3, .int 0), (2, .int 0), (0, .ref h0), (1, .int d)]) hx hb dX0_hardnessOf_3 rfl hl (by decide) rfl (fun ls hl => ?_)
  refine lv_iconst (v := 0) hx hb dX0_hardnessOf_4 (by decide) ?_
  refine lv_istore (lv' := [(4, .int 0), (3, .int 0), (2, .int 0), (0, .ref h0), (1, .int d)]) hx hb dX0_hardnessOf_5 hl (by decide) rfl (fun ls hl => ?_)
  have lp_7 : ∀ (n : Nat) (i : Nat) (k : Int32) (gd : Int32) (gh : Int32) (H : Heap) (locs : List Loc) (ls : Array Slot), 6 - i < n → k = nI i → i ≤ 6 → hof fd fh pts d (7 - i) i gd gh = hof fd fh pts d 7 0 0 0 → va_P D vwCl [(h0, .inr (0, [.ref a0, .ref a1, .ref a2, .ref a3, .ref a4, .ref a5, .int bw, .int pts])), (a2, .inl (cI, 6, .inl fd)), (a3, .inl (cI, 6, .inl fh))] H → va_D A [(h0, .inr (0, [.ref a0, .ref a1, .ref a2, .ref a3, .ref a4, .ref a5, .int bw, .int pts])), (a2, .inl (cI, 6, .inl fd)), (a3, .inl (cI, 6, .inl fh))] → va_S A s.heap H locs → lv_has ls 7 [(0, .ref h0), (1, .int d), (2, .int gd), (3, .int gh), (4, .int k)] → GW H locs 0 0 (F0 m 7 ls []) := by
    intro n_7
    induction n_7 with
    | zero => intro i k gd gh H locs ls hn_7; exact absurd hn_7 (Nat.not_lt_zero _)
    | succ n_7 ih_7 =>
      intro i k gd gh H locs ls hn_7 ek hi hr hP hD hS hl
      refine hIn _ _ _ _ _ ?_
      refine lv_iload hx hb dX0_hardnessOf_7 (lv_at hl 4 rfl) ?_
      refine lv_aload_n hx hb dX0_hardnessOf_9 rfl (lv_at hl 0 rfl) ?_
      refine va_get (D := D) (ci := 0) (v := .int pts) (C := RX0) (T := TX0) (N := 8) hx hb hts iw_X0_hardnessOf_0 hown hK hP 0 rfl rfl 7 (by decide) (hts (.fieldLink RX0 34 "PourPlan$Curing" "points" "I") (by decide +kernel)) (fun _ h9 => h9) rfl dX0_hardnessOf_10 ?_
      refine lv_icmp_ge (tgt := 95) hx hb dX0_hardnessOf_13 (by decide) (fun c_1 => ?_) (fun c_1 => ?_)
      · refine lv_iload_n hx hb dX0_hardnessOf_95 rfl (lv_at hl 3 rfl) ?_
        refine W.widen (k := 0) (n := 0) (Nat.le_of_ble_eq_true rfl) (Nat.le_of_ble_eq_true rfl) ?_
        exact fi_i () hx hb hr hlocks hK (hP.sub [0, 1, 2] rfl) (hD.sub [0, 1, 2] (by decide) rfl) hS (pf_X0_hardnessOf_1 pts fd fh d n_7 i k gd gh hn_7 ek hi hr c_1) dX0_hardnessOf_96
      · refine lv_iload hx hb dX0_hardnessOf_16 (lv_at hl 4 rfl) ?_
        refine lv_bipush (v := 6) hx hb dX0_hardnessOf_18 (by decide) ?_
        refine lv_icmp_ge (tgt := 95) hx hb dX0_hardnessOf_20 (by decide) (fun c_2 => ?_) (fun c_2 => ?_)
        · refine lv_iload_n hx hb dX0_hardnessOf_95 rfl (lv_at hl 3 rfl) ?_
          refine W.widen (k := 0) (n := 0) (Nat.le_of_ble_eq_true rfl) (Nat.le_of_ble_eq_true rfl) ?_
          exact fi_i () hx hb hr hlocks hK (hP.sub [0, 1, 2] rfl) (hD.sub [0, 1, 2] (by decide) rfl) hS (pf_X0_hardnessOf_2 pts fd fh d n_7 i k gd gh hn_7 ek hi hr c_1 c_2) dX0_hardnessOf_96
        · refine lv_aload_n hx hb dX0_hardnessOf_23 rfl (lv_at hl 0 rfl) ?_
          refine va_get (D := D) (ci := 0) (v := .ref a2) (C := RX0) (T := TX0) (N := 8) hx hb hts iw_X0_hardnessOf_0 hown hK hP 0 rfl rfl 2 (by decide) (hts (.fieldLink RX0 18 "PourPlan$Curing" "pointDegrees" "[I") (by decide +kernel)) (fun _ h9 => h9) rfl dX0_hardnessOf_24 ?_
          refine lv_iload hx hb dX0_hardnessOf_27 (lv_at hl 4 rfl) ?_
          refine va_iald hx hb hK hP 1 0 rfl rfl (pf_X0_hardnessOf_3 pts fd fh d n_7 i k gd gh hn_7 ek hi hr c_1 c_2) dX0_hardnessOf_29 ?_
          refine lv_topi (fun v_3 ev_3 => ?_)
          refine lv_iload_n hx hb dX0_hardnessOf_30 rfl (lv_at hl 2 rfl) ?_
          refine lv_isub hx hb dX0_hardnessOf_31 ?_
          refine lv_topi (fun v_4 ev_4 => ?_)
          refine lv_istore (lv' := [(5, .int v_4), (0, .ref h0), (1, .int d), (2, .int gd), (3, .int gh), (4, .int k)]) hx hb dX0_hardnessOf_32 hl (by decide) rfl (fun ls hl => ?_)
          refine lv_iload_n hx hb dX0_hardnessOf_34 rfl (lv_at hl 2 rfl) ?_
          refine lv_aload_n hx hb dX0_hardnessOf_35 rfl (lv_at hl 1 rfl) ?_
          refine va_get (D := D) (ci := 0) (v := .ref a2) (C := RX0) (T := TX0) (N := 8) hx hb hts iw_X0_hardnessOf_0 hown hK hP 0 rfl rfl 2 (by decide) (hts (.fieldLink RX0 18 "PourPlan$Curing" "pointDegrees" "[I") (by decide +kernel)) (fun _ h9 => h9) rfl dX0_hardnessOf_36 ?_
          refine lv_iload hx hb dX0_hardnessOf_39 (lv_at hl 5 rfl) ?_
          refine va_iald hx hb hK hP 1 0 rfl rfl (pf_X0_hardnessOf_4 pts fd fh d n_7 i k gd gh v_3 v_4 hn_7 ek hi hr c_1 c_2 ev_3 ev_4) dX0_hardnessOf_41 ?_
          refine lv_topi (fun v_5 ev_5 => ?_)
          refine lv_icmp_ge (tgt := 73) hx hb dX0_hardnessOf_42 (by decide) (fun c_6 => ?_) (fun c_6 => ?_)
          · refine lv_aload_n hx hb dX0_hardnessOf_73 rfl (lv_at hl 1 rfl) ?_
            refine va_get (D := D) (ci := 0) (v := .ref a2) (C := RX0) (T := TX0) (N := 8) hx hb hts iw_X0_hardnessOf_0 hown hK hP 0 rfl rfl 2 (by decide) (hts (.fieldLink RX0 18 "PourPlan$Curing" "pointDegrees" "[I") (by decide +kernel)) (fun _ h9 => h9) rfl dX0_hardnessOf_74 ?_
            refine lv_iload hx hb dX0_hardnessOf_77 (lv_at hl 5 rfl) ?_
            refine va_iald hx hb hK hP 1 0 rfl rfl (pf_X0_hardnessOf_5 pts fd fh d n_7 i k gd gh v_3 v_4 v_5 hn_7 ek hi hr c_1 c_2 ev_3 ev_4 ev_5 c_6) dX0_hardnessOf_79 ?_
            refine lv_topi (fun v_7 ev_7 => ?_)
            refine lv_istore_n (lv' := [(2, .int v_7), (5, .int v_4), (0, .ref h0), (1, .int d), (3, .int gh), (4, .int k)]) hx hb dX0_hardnessOf_80 rfl hl (by decide) rfl (fun ls hl => ?_)
            refine lv_aload_n hx hb dX0_hardnessOf_81 rfl (lv_at hl 2 rfl) ?_
            refine va_get (D := D) (ci := 0) (v := .ref a3) (C := RX0) (T := TX0) (N := 8) hx hb hts iw_X0_hardnessOf_0 hown hK hP 0 rfl rfl 3 (by decide) (hts (.fieldLink RX0 21 "PourPlan$Curing" "pointHardness" "[I") (by decide +kernel)) (fun _ h9 => h9) rfl dX0_hardnessOf_82 ?_
            refine lv_iload hx hb dX0_hardnessOf_85 (lv_at hl 5 rfl) ?_
            refine va_iald hx hb hK hP 2 0 rfl rfl (pf_X0_hardnessOf_6 pts fd fh d n_7 i k gd gh v_3 v_4 v_5 v_7 hn_7 ek hi hr c_1 c_2 ev_3 ev_4 ev_5 c_6 ev_7) dX0_hardnessOf_87 ?_
            refine lv_topi (fun v_8 ev_8 => ?_)
            refine lv_istore_n (lv' := [(3, .int v_8), (2, .int v_7), (5, .int v_4), (0, .ref h0), (1, .int d), (4, .int k)]) hx hb dX0_hardnessOf_88 rfl hl (by decide) rfl (fun ls hl => ?_)
            obtain ⟨v_9, ev_9⟩ : ∃ y : Int32, y = k + 1 := ⟨_, rfl⟩
            refine lv_iinc (v := v_9) (lv' := [(4, .int v_9), (3, .int v_8), (2, .int v_7), (5, .int v_4), (0, .ref h0), (1, .int d)]) hx hb dX0_hardnessOf_89 hl (k := 5) rfl (by rw [ev_9]; rfl) (by decide) rfl (fun ls hl => ?_)
            refine lv_goto (tgt := 7) hx hb dX0_hardnessOf_92 (by decide) ?_
            exact hOut _ _ _ _ _ (ih_7 (i + 1) v_9 v_7 v_8 _ _ _ (pf_X0_hardnessOf_7 pts fd fh d n_7 i k gd gh v_3 v_4 v_5 v_7 v_8 v_9 hn_7 ek hi hr c_1 c_2 ev_3 ev_4 ev_5 c_6 ev_7 ev_8 ev_9) (pf_X0_hardnessOf_8 pts fd fh d n_7 i k gd gh v_3 v_4 v_5 v_7 v_8 v_9 hn_7 ek hi hr c_1 c_2 ev_3 ev_4 ev_5 c_6 ev_7 ev_8 ev_9) (pf_X0_hardnessOf_9 pts fd fh d n_7 i k gd gh v_3 v_4 v_5 v_7 v_8 v_9 hn_7 ek hi hr c_1 c_2 ev_3 ev_4 ev_5 c_6 ev_7 ev_8 ev_9) (pf_X0_hardnessOf_10 pts fd fh d n_7 i k gd gh v_3 v_4 v_5 v_7 v_8 v_9 hn_7 ek hi hr c_1 c_2 ev_3 ev_4 ev_5 c_6 ev_7 ev_8 ev_9) (hP.sub [0, 1, 2] rfl) (hD.sub [0, 1, 2] (by decide) rfl) hS (lv_sub hl [4, 5, 2, 1, 0] rfl))
          · refine lv_iload hx hb dX0_hardnessOf_45 (lv_at hl 0 rfl) ?_
            refine lv_if_le (tgt := 73) hx hb dX0_hardnessOf_47 (by decide) (fun c_10 => ?_) (fun c_10 => ?_)
            · refine lv_aload_n hx hb dX0_hardnessOf_73 rfl (lv_at hl 1 rfl) ?_
              refine va_get (D := D) (ci := 0) (v := .ref a2) (C := RX0) (T := TX0) (N := 8) hx hb hts iw_X0_hardnessOf_0 hown hK hP 0 rfl rfl 2 (by decide) (hts (.fieldLink RX0 18 "PourPlan$Curing" "pointDegrees" "[I") (by decide +kernel)) (fun _ h9 => h9) rfl dX0_hardnessOf_74 ?_
              refine lv_iload hx hb dX0_hardnessOf_77 (lv_at hl 5 rfl) ?_
              refine va_iald hx hb hK hP 1 0 rfl rfl (pf_X0_hardnessOf_11 pts fd fh d n_7 i k gd gh v_3 v_4 v_5 hn_7 ek hi hr c_1 c_2 ev_3 ev_4 ev_5 c_6 c_10) dX0_hardnessOf_79 ?_
              refine lv_topi (fun v_11 ev_11 => ?_)
              refine lv_istore_n (lv' := [(2, .int v_11), (5, .int v_4), (0, .ref h0), (1, .int d), (3, .int gh), (4, .int k)]) hx hb dX0_hardnessOf_80 rfl hl (by decide) rfl (fun ls hl => ?_)
              refine lv_aload_n hx hb dX0_hardnessOf_81 rfl (lv_at hl 2 rfl) ?_
              refine va_get (D := D) (ci := 0) (v := .ref a3) (C := RX0) (T := TX0) (N := 8) hx hb hts iw_X0_hardnessOf_0 hown hK hP 0 rfl rfl 3 (by decide) (hts (.fieldLink RX0 21 "PourPlan$Curing" "pointHardness" "[I") (by decide +kernel)) (fun _ h9 => h9) rfl dX0_hardnessOf_82 ?_
              refine lv_iload hx hb dX0_hardnessOf_85 (lv_at hl 5 rfl) ?_
              refine va_iald hx hb hK hP 2 0 rfl rfl (pf_X0_hardnessOf_12 pts fd fh d n_7 i k gd gh v_3 v_4 v_5 v_11 hn_7 ek hi hr c_1 c_2 ev_3 ev_4 ev_5 c_6 c_10 ev_11) dX0_hardnessOf_87 ?_
              refine lv_topi (fun v_12 ev_12 => ?_)
              refine lv_istore_n (lv' := [(3, .int v_12), (2, .int v_11), (5, .int v_4), (0, .ref h0), (1, .int d), (4, .int k)]) hx hb dX0_hardnessOf_88 rfl hl (by decide) rfl (fun ls hl => ?_)
              obtain ⟨v_13, ev_13⟩ : ∃ y : Int32, y = k + 1 := ⟨_, rfl⟩
              refine lv_iinc (v := v_13) (lv' := [(4, .int v_13), (3, .int v_12), (2, .int v_11), (5, .int v_4), (0, .ref h0), (1, .int d)]) hx hb dX0_hardnessOf_89 hl (k := 5) rfl (by rw [ev_13]; rfl) (by decide) rfl (fun ls hl => ?_)
              refine lv_goto (tgt := 7) hx hb dX0_hardnessOf_92 (by decide) ?_
              exact hOut _ _ _ _ _ (ih_7 (i + 1) v_13 v_11 v_12 _ _ _ (pf_X0_hardnessOf_13 pts fd fh d n_7 i k gd gh v_3 v_4 v_5 v_11 v_12 v_13 hn_7 ek hi hr c_1 c_2 ev_3 ev_4 ev_5 c_6 c_10 ev_11 ev_12 ev_13) (pf_X0_hardnessOf_14 pts fd fh d n_7 i k gd gh v_3 v_4 v_5 v_11 v_12 v_13 hn_7 ek hi hr c_1 c_2 ev_3 ev_4 ev_5 c_6 c_10 ev_11 ev_12 ev_13) (pf_X0_hardnessOf_15 pts fd fh d n_7 i k gd gh v_3 v_4 v_5 v_11 v_12 v_13 hn_7 ek hi hr c_1 c_2 ev_3 ev_4 ev_5 c_6 c_10 ev_11 ev_12 ev_13) (pf_X0_hardnessOf_16 pts fd fh d n_7 i k gd gh v_3 v_4 v_5 v_11 v_12 v_13 hn_7 ek hi hr c_1 c_2 ev_3 ev_4 ev_5 c_6 c_10 ev_11 ev_12 ev_13) (hP.sub [0, 1, 2] rfl) (hD.sub [0, 1, 2] (by decide) rfl) hS (lv_sub hl [4, 5, 2, 1, 0] rfl))
            · refine lv_aload_n hx hb dX0_hardnessOf_50 rfl (lv_at hl 1 rfl) ?_
              refine va_get (D := D) (ci := 0) (v := .ref a3) (C := RX0) (T := TX0) (N := 8) hx hb hts iw_X0_hardnessOf_0 hown hK hP 0 rfl rfl 3 (by decide) (hts (.fieldLink RX0 21 "PourPlan$Curing" "pointHardness" "[I") (by decide +kernel)) (fun _ h9 => h9) rfl dX0_hardnessOf_51 ?_
              refine lv_iload hx hb dX0_hardnessOf_54 (lv_at hl 5 rfl) ?_
              refine va_iald hx hb hK hP 2 0 rfl rfl (pf_X0_hardnessOf_17 pts fd fh d n_7 i k gd gh v_3 v_4 v_5 hn_7 ek hi hr c_1 c_2 ev_3 ev_4 ev_5 c_6 c_10) dX0_hardnessOf_56 ?_
              refine lv_topi (fun v_14 ev_14 => ?_)
              refine lv_iload_n hx hb dX0_hardnessOf_57 rfl (lv_at hl 4 rfl) ?_
              refine lv_isub hx hb dX0_hardnessOf_58 ?_
              refine lv_topi (fun v_15 ev_15 => ?_)
              refine lv_istore (lv' := [(6, .int v_15), (5, .int v_4), (0, .ref h0), (1, .int d), (2, .int gd), (3, .int gh), (4, .int k)]) hx hb dX0_hardnessOf_59 hl (by decide) rfl (fun ls hl => ?_)
              refine lv_iload_n hx hb dX0_hardnessOf_61 rfl (lv_at hl 5 rfl) ?_
              refine lv_iload hx hb dX0_hardnessOf_62 (lv_at hl 0 rfl) ?_
              refine lv_iload_n hx hb dX0_hardnessOf_64 rfl (lv_at hl 3 rfl) ?_
              refine lv_iload_n hx hb dX0_hardnessOf_65 rfl (lv_at hl 4 rfl) ?_
              refine lv_isub hx hb dX0_hardnessOf_66 ?_
              refine lv_topi (fun v_16 ev_16 => ?_)
              refine lv_imul hx hb dX0_hardnessOf_67 ?_
              refine lv_topi (fun v_17 ev_17 => ?_)
              refine lv_iload hx hb dX0_hardnessOf_68 (lv_at hl 1 rfl) ?_
              refine lv_idiv hx hb dX0_hardnessOf_70 (pf_X0_hardnessOf_18 pts fd fh d n_7 i k gd gh v_3 v_4 v_5 v_14 v_15 v_16 v_17 hn_7 ek hi hr c_1 c_2 ev_3 ev_4 ev_5 c_6 c_10 ev_14 ev_15 ev_16 ev_17) ?_
              refine lv_topi (fun v_18 ev_18 => ?_)
              refine lv_iadd hx hb dX0_hardnessOf_71 ?_
              refine lv_topi (fun v_19 ev_19 => ?_)
              refine W.widen (k := 0) (n := 0) (Nat.le_of_ble_eq_true rfl) (Nat.le_of_ble_eq_true rfl) ?_
              exact fi_i () hx hb hr hlocks hK (hP.sub [0, 1, 2] rfl) (hD.sub [0, 1, 2] (by decide) rfl) hS (pf_X0_hardnessOf_19 pts fd fh d n_7 i k gd gh v_3 v_4 v_5 v_14 v_15 v_16 v_17 v_18 v_19 hn_7 ek hi hr c_1 c_2 ev_3 ev_4 ev_5 c_6 c_10 ev_14 ev_15 ev_16 ev_17 ev_18 ev_19) dX0_hardnessOf_72
  exact hOut _ _ _ _ _ (lp_7 (6 - 0 + 1) 0 0 0 0 _ _ _ (Nat.lt_succ_self _) (pf_X0_hardnessOf_20) (pf_X0_hardnessOf_21) (pf_X0_hardnessOf_22 pts fd fh d) (hP.sub [0, 1, 2] rfl) (hD.sub [0, 1, 2] (by decide) rfl) hS (lv_sub hl [3, 4, 2, 1, 0] rfl))

theorem iw_X0_hardnessOn_0 : ∀ w ∈ wsX00, w ∈ wsX0_hardnessOn := by decide +kernel
set_option maxHeartbeats 1000000 in
theorem pf_X0_hardnessOn_1 (pts : Int32) (fd : Nat → Int32) (fh : Nat → Int32) (fg : Nat → Int32) (po : Int32) (day : Int32) (c_1 : po < 0) : (-1) = hon fd fh fg pts po day := by
  grind [hon]
set_option maxHeartbeats 1000000 in
theorem pf_X0_hardnessOn_2 (pts : Int32) (fd : Nat → Int32) (fh : Nat → Int32) (fg : Nat → Int32) (po : Int32) (day : Int32) (c_1 : ¬ po < 0) (c_2 : day < po) : (-1) = hon fd fh fg pts po day := by
  grind [hon]
set_option maxHeartbeats 1000000 in
theorem pf_X0_hardnessOn_3 (po : Int32) (day : Int32) (c_1 : ¬ po < 0) (c_2 : ¬ day < po) (c_3 : day < 40) : vp_in day 40 := by
  exact vi_in (M := 40) rfl (by grind [hon]) (by grind [hon])
set_option maxHeartbeats 1000000 in
theorem pf_X0_hardnessOn_4 (fg : Nat → Int32) (po : Int32) (day : Int32) (v_4 : Int32) (c_1 : ¬ po < 0) (c_2 : ¬ day < po) (c_3 : day < 40) (ev_4 : v_4 = fg day.toNatClampNeg) : vp_in po 40 := by
  exact vi_in (M := 40) rfl (by grind [hon]) (by grind [hon])
set_option maxHeartbeats 1000000 in
theorem pf_X0_hardnessOn_5 (pts : Int32) (fd : Nat → Int32) (fh : Nat → Int32) (fg : Nat → Int32) (po : Int32) (day : Int32) (v_4 : Int32) (v_5 : Int32) (v_6 : Int32) (r_7 : Int32) (c_1 : ¬ po < 0) (c_2 : ¬ day < po) (c_3 : day < 40) (ev_4 : v_4 = fg day.toNatClampNeg) (ev_5 : v_5 = fg po.toNatClampNeg) (ev_6 : v_6 = v_4 - v_5) (w_8 : r_7 = hof fd fh pts v_6 7 0 0 0) : r_7 = hon fd fh fg pts po day := by
  grind [hon]
set_option maxHeartbeats 1000000 in
theorem pf_X0_hardnessOn_6 (pts : Int32) (fd : Nat → Int32) (fh : Nat → Int32) (fg : Nat → Int32) (po : Int32) (day : Int32) (c_1 : ¬ po < 0) (c_2 : ¬ day < po) (c_3 : ¬ day < 40) : (-1) = hon fd fh fg pts po day := by
  grind [hon]
set_option maxHeartbeats 4000000 in
set_option maxRecDepth 100000 in
theorem c_X0_hardnessOn (l : Launch) (D : va_G) (cI : ClassId) (sz : Nat) (h0 : Nat) (a2 : Nat) (a3 : Nat) (a4 : Nat) (a0 : Nat) (a1 : Nat) (a5 : Nat) (bw : Int32) (pts : Int32) (fd : Nat → Int32) (fh : Nat → Int32) (fg : Nat → Int32) (po : Int32) (day : Int32) : CtI l yX0_hardnessOn wsX0_hardnessOn 1 26 0 0 [.ref h0, .int po, .int day] D [(cI, .int)] [(h0, .inr (0, [.ref a0, .ref a1, .ref a2, .ref a3, .ref a4, .ref a5, .int bw, .int pts])), (a2, .inl (cI, 6, .inl fd)), (a3, .inl (cI, 6, .inl fh)), (a4, .inl (cI, 40, .inl fg))] sz (fun (r : Int32) (u : Unit) => r = hon fd fh fg pts po day) (fun (u : Unit) => [(h0, .inr (0, [.ref a0, .ref a1, .ref a2, .ref a3, .ref a4, .ref a5, .int bw, .int pts])), (a2, .inl (cI, 6, .inl fd)), (a3, .inl (cI, 6, .inl fh)), (a4, .inl (cI, 40, .inl fg))]) := by
  refine Met.ofW (cc := cX0_hardnessOn) (maxL := 3) (ret := (some .int)) (by decide) rfl ?_
  intro p e s m args below meth c s₁ B hml hv
  obtain ⟨rfl, hsz, hP, hK, hD0, hN⟩ := hv
  have hx := B.exec
  have hb := B.bytes
  have hr := B.returns
  have hts := atoms_spec (ws := wsX0_hardnessOn) B.pre
  have hown : s.vm.findClass RX0 = some m.cls := findClass_of_methodNamed B.named
  have hlocks := B.notSynchronized
  subst hsz
  have hD := hD0.self (sz := s.heap.size)
  generalize hAe : va_A [(h0, .inr (0, [.ref a0, .ref a1, .ref a2, .ref a3, .ref a4, .ref a5, .int bw, .int pts])), (a2, .inl (cI, 6, .inl fd)), (a3, .inl (cI, 6, .inl fh)), (a4, .inl (cI, 40, .inl fg))] s.heap.size = A at hD ⊢
  have hA : ∀ q : Nat, s.heap.size ≤ q → A q := fun q h => by rw [← hAe]; exact Or.inr h
  have hS : va_S A s.heap s.heap [] := va_S.rf
  have hl := lv_entry ([.ref h0, .int po, .int day]) (n := 3) (Nat.le_of_ble_eq_true rfl)
  rw [lg_entry_eq]
  generalize (lg_sl ([.ref h0, .int po, .int day]) ++ List.replicate (3 - (lg_sl ([.ref h0, .int po, .int day])).length) Slot.unset).toArray = ls at hl ⊢
  have hl : lv_has ls 3 [(0, .ref h0), (1, .int po), (2, .int day)] := hl
  have hP0 := hP
  refine lv_iload_n hx hb dX0_hardnessOn_0 rfl (lv_at hl 1 rfl) ?_
  refine lv_if_lt (tgt := 15) hx hb dX0_hardnessOn_1 (by decide) (fun c_1 => ?_) (fun c_1 => ?_)
  · refine lv_iconst (v := (-1)) hx hb dX0_hardnessOn_15 (by decide) ?_
    refine W.widen (k := 0) (n := 0) (Nat.le_of_ble_eq_true rfl) (Nat.le_of_ble_eq_true rfl) ?_
    exact fi_i () hx hb hr hlocks hK (hP.sub [0, 1, 2, 3] rfl) (hD.sub [0, 1, 2, 3] (by decide) rfl) hS (pf_X0_hardnessOn_1 pts fd fh fg po day c_1) dX0_hardnessOn_16
  · refine lv_iload_n hx hb dX0_hardnessOn_4 rfl (lv_at hl 2 rfl) ?_
    refine lv_iload_n hx hb dX0_hardnessOn_5 rfl (lv_at hl 1 rfl) ?_
    refine lv_icmp_lt (tgt := 15) hx hb dX0_hardnessOn_6 (by decide) (fun c_2 => ?_) (fun c_2 => ?_)
    · refine lv_iconst (v := (-1)) hx hb dX0_hardnessOn_15 (by decide) ?_
      refine W.widen (k := 0) (n := 0) (Nat.le_of_ble_eq_true rfl) (Nat.le_of_ble_eq_true rfl) ?_
      exact fi_i () hx hb hr hlocks hK (hP.sub [0, 1, 2, 3] rfl) (hD.sub [0, 1, 2, 3] (by decide) rfl) hS (pf_X0_hardnessOn_2 pts fd fh fg po day c_1 c_2) dX0_hardnessOn_16
    · refine lv_iload_n hx hb dX0_hardnessOn_9 rfl (lv_at hl 2 rfl) ?_
      refine lv_bipush (v := 40) hx hb dX0_hardnessOn_10 (by decide) ?_
      refine lv_icmp_lt (tgt := 17) hx hb dX0_hardnessOn_12 (by decide) (fun c_3 => ?_) (fun c_3 => ?_)
      · refine lv_aload_n hx hb dX0_hardnessOn_17 rfl (lv_at hl 0 rfl) ?_
        refine lv_aload_n hx hb dX0_hardnessOn_18 rfl (lv_at hl 0 rfl) ?_
        refine va_get (D := D) (ci := 0) (v := .ref a4) (C := RX0) (T := TX0) (N := 8) hx hb hts iw_X0_hardnessOn_0 hown hK hP 0 rfl rfl 4 (by decide) (hts (.fieldLink RX0 24 "PourPlan$Curing" "degreesAhead" "[I") (by decide +kernel)) (fun _ h9 => h9) rfl dX0_hardnessOn_19 ?_
        refine lv_iload_n hx hb dX0_hardnessOn_22 rfl (lv_at hl 2 rfl) ?_
        refine va_iald hx hb hK hP 3 0 rfl rfl (pf_X0_hardnessOn_3 po day c_1 c_2 c_3) dX0_hardnessOn_23 ?_
        refine lv_topi (fun v_4 ev_4 => ?_)
        refine lv_aload_n hx hb dX0_hardnessOn_24 rfl (lv_at hl 0 rfl) ?_
        refine va_get (D := D) (ci := 0) (v := .ref a4) (C := RX0) (T := TX0) (N := 8) hx hb hts iw_X0_hardnessOn_0 hown hK hP 0 rfl rfl 4 (by decide) (hts (.fieldLink RX0 24 "PourPlan$Curing" "degreesAhead" "[I") (by decide +kernel)) (fun _ h9 => h9) rfl dX0_hardnessOn_25 ?_
        refine lv_iload_n hx hb dX0_hardnessOn_28 rfl (lv_at hl 1 rfl) ?_
        refine va_iald hx hb hK hP 3 0 rfl rfl (pf_X0_hardnessOn_4 fg po day v_4 c_1 c_2 c_3 ev_4) dX0_hardnessOn_29 ?_
        refine lv_topi (fun v_5 ev_5 => ?_)
        refine lv_isub hx hb dX0_hardnessOn_30 ?_
        refine lv_topi (fun v_6 ev_6 => ?_)
        refine cc_i (wc := [(h0, .inr (0, [.ref a0, .ref a1, .ref a2, .ref a3, .ref a4, .ref a5, .int bw, .int pts])), (a2, .inl (cI, 6, .inl fd)), (a3, .inl (cI, 6, .inl fh))]) (wr := [(a4, .inl (cI, 40, .inl fg))]) (va_runV (As := [.int v_6]) (rest := []) ⟨hx, hb, hml, hown, hts⟩ (c_X0_hardnessOf l D cI s.heap.size h0 a2 a3 a0 a1 a4 a5 bw pts fd fh v_6 ) (cwV 1 hts gX0_hardnessOn_X0_hardnessOf rfl rfl rfl (by decide +kernel) ⟨Nat.le_of_ble_eq_true rfl, Nat.le_of_ble_eq_true rfl⟩) (preV (wc := [(h0, .inr (0, [.ref a0, .ref a1, .ref a2, .ref a3, .ref a4, .ref a5, .int bw, .int pts])), (a2, .inl (cI, 6, .inl fd)), (a3, .inl (cI, 6, .inl fh))]) (ci := 0) (q0 := 0) hK hP hD hN [0, 1, 2] rfl (by decide) rfl rfl) rfl rfl hl.1 rfl (lv_room (Nat.le_of_ble_eq_true rfl)) dX0_hardnessOn_31 ⟨Nat.le_of_ble_eq_true rfl, Nat.le_of_ble_eq_true rfl⟩) hP hD hS hA [0, 1, 2] [3] rfl rfl (by decide) (by decide) (fun r_7 u H locs w_8 hP hD hS => ?_)
        have hP : va_P D vwCl [(a4, .inl (cI, 40, .inl fg)), (h0, .inr (0, [.ref a0, .ref a1, .ref a2, .ref a3, .ref a4, .ref a5, .int bw, .int pts])), (a2, .inl (cI, 6, .inl fd)), (a3, .inl (cI, 6, .inl fh))] H := hP
        have hD : va_D A [(a4, .inl (cI, 40, .inl fg)), (h0, .inr (0, [.ref a0, .ref a1, .ref a2, .ref a3, .ref a4, .ref a5, .int bw, .int pts])), (a2, .inl (cI, 6, .inl fd)), (a3, .inl (cI, 6, .inl fh))] := hD
        have w_8 : r_7 = hof fd fh pts v_6 7 0 0 0 := w_8
        refine W.widen (k := 0) (n := 0) (Nat.le_of_ble_eq_true rfl) (Nat.le_of_ble_eq_true rfl) ?_
        exact fi_i () hx hb hr hlocks hK (hP.sub [1, 2, 3, 0] rfl) (hD.sub [1, 2, 3, 0] (by decide) rfl) hS (pf_X0_hardnessOn_5 pts fd fh fg po day v_4 v_5 v_6 r_7 c_1 c_2 c_3 ev_4 ev_5 ev_6 w_8) dX0_hardnessOn_34
      · refine lv_iconst (v := (-1)) hx hb dX0_hardnessOn_15 (by decide) ?_
        refine W.widen (k := 0) (n := 0) (Nat.le_of_ble_eq_true rfl) (Nat.le_of_ble_eq_true rfl) ?_
        exact fi_i () hx hb hr hlocks hK (hP.sub [0, 1, 2, 3] rfl) (hD.sub [0, 1, 2, 3] (by decide) rfl) hS (pf_X0_hardnessOn_6 pts fd fh fg po day c_1 c_2 c_3) dX0_hardnessOn_16

theorem iw_X0_renew_0 : ∀ w ∈ wsX00, w ∈ wsX0_renew := by decide +kernel
set_option maxHeartbeats 1000000 in
theorem pf_X0_renew_1 (n_2 : Nat) (k : Int32) (n_50 : Nat) (k1 : Int32) (k2 : Int32) (v_3 : Int32) (v_4 : Int32) (n_64 : Nat) (k3 : Int32) (hn_2 : 40 - k.toNatClampNeg < n_2 + 1) (hk1 : 1 ≤ k) (hk2 : k ≤ 40) (c_1 : 40 ≤ k) (hn_50 : 40 - k2.toNatClampNeg < n_50 + 1) (hk3 : 0 ≤ k2) (hk4 : k2 ≤ 40) (hk5 : 0 ≤ k1) (c_2 : ¬ 40 ≤ k2) (ev_3 : v_3 = k2 + 1) (ev_4 : v_4 = (if k1 < v_3 then v_3 else k1)) (hn_64 : 40 - k3.toNatClampNeg < n_64 + 1) (hk6 : 0 ≤ k3) (c_5 : 40 ≤ k3) : vp_in k2 40 := by
  exact vi_in (M := 40) rfl (by grind) (by grind)
set_option maxHeartbeats 1000000 in
theorem pf_X0_renew_2 (n_2 : Nat) (k : Int32) (n_50 : Nat) (k1 : Int32) (k2 : Int32) (v_3 : Int32) (v_4 : Int32) (n_64 : Nat) (k3 : Int32) (v_6 : Int32) (hn_2 : 40 - k.toNatClampNeg < n_2 + 1) (hk1 : 1 ≤ k) (hk2 : k ≤ 40) (c_1 : 40 ≤ k) (hn_50 : 40 - k2.toNatClampNeg < n_50 + 1) (hk3 : 0 ≤ k2) (hk4 : k2 ≤ 40) (hk5 : 0 ≤ k1) (c_2 : ¬ 40 ≤ k2) (ev_3 : v_3 = k2 + 1) (ev_4 : v_4 = (if k1 < v_3 then v_3 else k1)) (hn_64 : 40 - k3.toNatClampNeg < n_64 + 1) (hk6 : 0 ≤ k3) (c_5 : 40 ≤ k3) (ev_6 : v_6 = k2 + 1) : 40 - v_6.toNatClampNeg < n_50 := by
  exact ms_dec (k := k2) (by grind) (by assumption) (by omega) (by assumption) hn_50
set_option maxHeartbeats 1000000 in
theorem pf_X0_renew_3 (n_2 : Nat) (k : Int32) (n_50 : Nat) (k1 : Int32) (k2 : Int32) (v_3 : Int32) (v_4 : Int32) (n_64 : Nat) (k3 : Int32) (v_6 : Int32) (hn_2 : 40 - k.toNatClampNeg < n_2 + 1) (hk1 : 1 ≤ k) (hk2 : k ≤ 40) (c_1 : 40 ≤ k) (hn_50 : 40 - k2.toNatClampNeg < n_50 + 1) (hk3 : 0 ≤ k2) (hk4 : k2 ≤ 40) (hk5 : 0 ≤ k1) (c_2 : ¬ 40 ≤ k2) (ev_3 : v_3 = k2 + 1) (ev_4 : v_4 = (if k1 < v_3 then v_3 else k1)) (hn_64 : 40 - k3.toNatClampNeg < n_64 + 1) (hk6 : 0 ≤ k3) (c_5 : 40 ≤ k3) (ev_6 : v_6 = k2 + 1) : 0 ≤ v_6 := by
  grind
set_option maxHeartbeats 1000000 in
theorem pf_X0_renew_4 (n_2 : Nat) (k : Int32) (n_50 : Nat) (k1 : Int32) (k2 : Int32) (v_3 : Int32) (v_4 : Int32) (n_64 : Nat) (k3 : Int32) (v_6 : Int32) (hn_2 : 40 - k.toNatClampNeg < n_2 + 1) (hk1 : 1 ≤ k) (hk2 : k ≤ 40) (c_1 : 40 ≤ k) (hn_50 : 40 - k2.toNatClampNeg < n_50 + 1) (hk3 : 0 ≤ k2) (hk4 : k2 ≤ 40) (hk5 : 0 ≤ k1) (c_2 : ¬ 40 ≤ k2) (ev_3 : v_3 = k2 + 1) (ev_4 : v_4 = (if k1 < v_3 then v_3 else k1)) (hn_64 : 40 - k3.toNatClampNeg < n_64 + 1) (hk6 : 0 ≤ k3) (c_5 : 40 ≤ k3) (ev_6 : v_6 = k2 + 1) : v_6 ≤ 40 := by
  grind
set_option maxHeartbeats 1000000 in
theorem pf_X0_renew_5 (n_2 : Nat) (k : Int32) (n_50 : Nat) (k1 : Int32) (k2 : Int32) (v_3 : Int32) (v_4 : Int32) (n_64 : Nat) (k3 : Int32) (v_6 : Int32) (hn_2 : 40 - k.toNatClampNeg < n_2 + 1) (hk1 : 1 ≤ k) (hk2 : k ≤ 40) (c_1 : 40 ≤ k) (hn_50 : 40 - k2.toNatClampNeg < n_50 + 1) (hk3 : 0 ≤ k2) (hk4 : k2 ≤ 40) (hk5 : 0 ≤ k1) (c_2 : ¬ 40 ≤ k2) (ev_3 : v_3 = k2 + 1) (ev_4 : v_4 = (if k1 < v_3 then v_3 else k1)) (hn_64 : 40 - k3.toNatClampNeg < n_64 + 1) (hk6 : 0 ≤ k3) (c_5 : 40 ≤ k3) (ev_6 : v_6 = k2 + 1) : 0 ≤ k3 := by
  grind
set_option maxHeartbeats 1000000 in
theorem pf_X0_renew_6 (pts : Int32) (fl : Nat → Int32) (fd : Nat → Int32) (fh : Nat → Int32) (n_2 : Nat) (k : Int32) (gg : Nat → Int32) (n_50 : Nat) (k1 : Int32) (k2 : Int32) (v_3 : Int32) (v_4 : Int32) (n_64 : Nat) (k3 : Int32) (r_7 : Int32) (v_10 : Int32) (hn_2 : 40 - k.toNatClampNeg < n_2 + 1) (hk1 : 1 ≤ k) (hk2 : k ≤ 40) (c_1 : 40 ≤ k) (hn_50 : 40 - k2.toNatClampNeg < n_50 + 1) (hk3 : 0 ≤ k2) (hk4 : k2 ≤ 40) (hk5 : 0 ≤ k1) (c_2 : ¬ 40 ≤ k2) (ev_3 : v_3 = k2 + 1) (ev_4 : v_4 = (if k1 < v_3 then v_3 else k1)) (hn_64 : 40 - k3.toNatClampNeg < n_64 + 1) (hk6 : 0 ≤ k3) (c_5 : ¬ 40 ≤ k3) (w_8 : r_7 = hon fd fh gg pts k2 k3) (ev_10 : v_10 = fl 0) (c_11 : v_10 ≤ r_7) : vp_in k2 40 := by
  exact vi_in (M := 40) rfl (by grind) (by grind)
set_option maxHeartbeats 1000000 in
theorem pf_X0_renew_7 (pts : Int32) (fl : Nat → Int32) (fd : Nat → Int32) (fh : Nat → Int32) (n_2 : Nat) (k : Int32) (gg : Nat → Int32) (n_50 : Nat) (k1 : Int32) (k2 : Int32) (v_3 : Int32) (v_4 : Int32) (n_64 : Nat) (k3 : Int32) (r_7 : Int32) (v_10 : Int32) (v_12 : Int32) (hn_2 : 40 - k.toNatClampNeg < n_2 + 1) (hk1 : 1 ≤ k) (hk2 : k ≤ 40) (c_1 : 40 ≤ k) (hn_50 : 40 - k2.toNatClampNeg < n_50 + 1) (hk3 : 0 ≤ k2) (hk4 : k2 ≤ 40) (hk5 : 0 ≤ k1) (c_2 : ¬ 40 ≤ k2) (ev_3 : v_3 = k2 + 1) (ev_4 : v_4 = (if k1 < v_3 then v_3 else k1)) (hn_64 : 40 - k3.toNatClampNeg < n_64 + 1) (hk6 : 0 ≤ k3) (c_5 : ¬ 40 ≤ k3) (w_8 : r_7 = hon fd fh gg pts k2 k3) (ev_10 : v_10 = fl 0) (c_11 : v_10 ≤ r_7) (ev_12 : v_12 = k2 + 1) : 40 - v_12.toNatClampNeg < n_50 := by
  exact ms_dec (k := k2) (by grind) (by assumption) (by omega) (by assumption) hn_50
set_option maxHeartbeats 1000000 in
theorem pf_X0_renew_8 (pts : Int32) (fl : Nat → Int32) (fd : Nat → Int32) (fh : Nat → Int32) (n_2 : Nat) (k : Int32) (gg : Nat → Int32) (n_50 : Nat) (k1 : Int32) (k2 : Int32) (v_3 : Int32) (v_4 : Int32) (n_64 : Nat) (k3 : Int32) (r_7 : Int32) (v_10 : Int32) (v_12 : Int32) (hn_2 : 40 - k.toNatClampNeg < n_2 + 1) (hk1 : 1 ≤ k) (hk2 : k ≤ 40) (c_1 : 40 ≤ k) (hn_50 : 40 - k2.toNatClampNeg < n_50 + 1) (hk3 : 0 ≤ k2) (hk4 : k2 ≤ 40) (hk5 : 0 ≤ k1) (c_2 : ¬ 40 ≤ k2) (ev_3 : v_3 = k2 + 1) (ev_4 : v_4 = (if k1 < v_3 then v_3 else k1)) (hn_64 : 40 - k3.toNatClampNeg < n_64 + 1) (hk6 : 0 ≤ k3) (c_5 : ¬ 40 ≤ k3) (w_8 : r_7 = hon fd fh gg pts k2 k3) (ev_10 : v_10 = fl 0) (c_11 : v_10 ≤ r_7) (ev_12 : v_12 = k2 + 1) : 0 ≤ v_12 := by
  grind
set_option maxHeartbeats 1000000 in
theorem pf_X0_renew_9 (pts : Int32) (fl : Nat → Int32) (fd : Nat → Int32) (fh : Nat → Int32) (n_2 : Nat) (k : Int32) (gg : Nat → Int32) (n_50 : Nat) (k1 : Int32) (k2 : Int32) (v_3 : Int32) (v_4 : Int32) (n_64 : Nat) (k3 : Int32) (r_7 : Int32) (v_10 : Int32) (v_12 : Int32) (hn_2 : 40 - k.toNatClampNeg < n_2 + 1) (hk1 : 1 ≤ k) (hk2 : k ≤ 40) (c_1 : 40 ≤ k) (hn_50 : 40 - k2.toNatClampNeg < n_50 + 1) (hk3 : 0 ≤ k2) (hk4 : k2 ≤ 40) (hk5 : 0 ≤ k1) (c_2 : ¬ 40 ≤ k2) (ev_3 : v_3 = k2 + 1) (ev_4 : v_4 = (if k1 < v_3 then v_3 else k1)) (hn_64 : 40 - k3.toNatClampNeg < n_64 + 1) (hk6 : 0 ≤ k3) (c_5 : ¬ 40 ≤ k3) (w_8 : r_7 = hon fd fh gg pts k2 k3) (ev_10 : v_10 = fl 0) (c_11 : v_10 ≤ r_7) (ev_12 : v_12 = k2 + 1) : v_12 ≤ 40 := by
  grind
set_option maxHeartbeats 1000000 in
theorem pf_X0_renew_10 (pts : Int32) (fl : Nat → Int32) (fd : Nat → Int32) (fh : Nat → Int32) (n_2 : Nat) (k : Int32) (gg : Nat → Int32) (n_50 : Nat) (k1 : Int32) (k2 : Int32) (v_3 : Int32) (v_4 : Int32) (n_64 : Nat) (k3 : Int32) (r_7 : Int32) (v_10 : Int32) (v_12 : Int32) (hn_2 : 40 - k.toNatClampNeg < n_2 + 1) (hk1 : 1 ≤ k) (hk2 : k ≤ 40) (c_1 : 40 ≤ k) (hn_50 : 40 - k2.toNatClampNeg < n_50 + 1) (hk3 : 0 ≤ k2) (hk4 : k2 ≤ 40) (hk5 : 0 ≤ k1) (c_2 : ¬ 40 ≤ k2) (ev_3 : v_3 = k2 + 1) (ev_4 : v_4 = (if k1 < v_3 then v_3 else k1)) (hn_64 : 40 - k3.toNatClampNeg < n_64 + 1) (hk6 : 0 ≤ k3) (c_5 : ¬ 40 ≤ k3) (w_8 : r_7 = hon fd fh gg pts k2 k3) (ev_10 : v_10 = fl 0) (c_11 : v_10 ≤ r_7) (ev_12 : v_12 = k2 + 1) : 0 ≤ k3 := by
  grind
set_option maxHeartbeats 1000000 in
theorem pf_X0_renew_11 (pts : Int32) (fl : Nat → Int32) (fd : Nat → Int32) (fh : Nat → Int32) (n_2 : Nat) (k : Int32) (gg : Nat → Int32) (n_50 : Nat) (k1 : Int32) (k2 : Int32) (v_3 : Int32) (v_4 : Int32) (n_64 : Nat) (k3 : Int32) (r_7 : Int32) (v_10 : Int32) (v_13 : Int32) (hn_2 : 40 - k.toNatClampNeg < n_2 + 1) (hk1 : 1 ≤ k) (hk2 : k ≤ 40) (c_1 : 40 ≤ k) (hn_50 : 40 - k2.toNatClampNeg < n_50 + 1) (hk3 : 0 ≤ k2) (hk4 : k2 ≤ 40) (hk5 : 0 ≤ k1) (c_2 : ¬ 40 ≤ k2) (ev_3 : v_3 = k2 + 1) (ev_4 : v_4 = (if k1 < v_3 then v_3 else k1)) (hn_64 : 40 - k3.toNatClampNeg < n_64 + 1) (hk6 : 0 ≤ k3) (c_5 : ¬ 40 ≤ k3) (w_8 : r_7 = hon fd fh gg pts k2 k3) (ev_10 : v_10 = fl 0) (c_11 : ¬ v_10 ≤ r_7) (ev_13 : v_13 = k3 + 1) : 40 - v_13.toNatClampNeg < n_64 := by
  exact ms_dec (k := k3) (by grind) (by assumption) (by omega) (by assumption) hn_64
set_option maxHeartbeats 1000000 in
theorem pf_X0_renew_12 (pts : Int32) (fl : Nat → Int32) (fd : Nat → Int32) (fh : Nat → Int32) (n_2 : Nat) (k : Int32) (gg : Nat → Int32) (n_50 : Nat) (k1 : Int32) (k2 : Int32) (v_3 : Int32) (v_4 : Int32) (n_64 : Nat) (k3 : Int32) (r_7 : Int32) (v_10 : Int32) (v_13 : Int32) (hn_2 : 40 - k.toNatClampNeg < n_2 + 1) (hk1 : 1 ≤ k) (hk2 : k ≤ 40) (c_1 : 40 ≤ k) (hn_50 : 40 - k2.toNatClampNeg < n_50 + 1) (hk3 : 0 ≤ k2) (hk4 : k2 ≤ 40) (hk5 : 0 ≤ k1) (c_2 : ¬ 40 ≤ k2) (ev_3 : v_3 = k2 + 1) (ev_4 : v_4 = (if k1 < v_3 then v_3 else k1)) (hn_64 : 40 - k3.toNatClampNeg < n_64 + 1) (hk6 : 0 ≤ k3) (c_5 : ¬ 40 ≤ k3) (w_8 : r_7 = hon fd fh gg pts k2 k3) (ev_10 : v_10 = fl 0) (c_11 : ¬ v_10 ≤ r_7) (ev_13 : v_13 = k3 + 1) : 0 ≤ v_13 := by
  grind
set_option maxHeartbeats 1000000 in
theorem pf_X0_renew_13 (n_2 : Nat) (k : Int32) (n_50 : Nat) (k1 : Int32) (k2 : Int32) (v_3 : Int32) (v_4 : Int32) (hn_2 : 40 - k.toNatClampNeg < n_2 + 1) (hk1 : 1 ≤ k) (hk2 : k ≤ 40) (c_1 : 40 ≤ k) (hn_50 : 40 - k2.toNatClampNeg < n_50 + 1) (hk3 : 0 ≤ k2) (hk4 : k2 ≤ 40) (hk5 : 0 ≤ k1) (c_2 : ¬ 40 ≤ k2) (ev_3 : v_3 = k2 + 1) (ev_4 : v_4 = (if k1 < v_3 then v_3 else k1)) : 0 ≤ v_4 := by
  grind
set_option maxHeartbeats 1000000 in
theorem pf_X0_renew_14 (n_2 : Nat) (k : Int32) (hn_2 : 40 - k.toNatClampNeg < n_2 + 1) (hk1 : 1 ≤ k) (hk2 : k ≤ 40) (c_1 : 40 ≤ k) : 0 ≤ 0 := by
  grind
set_option maxHeartbeats 1000000 in
theorem pf_X0_renew_15 (n_2 : Nat) (k : Int32) (hn_2 : 40 - k.toNatClampNeg < n_2 + 1) (hk1 : 1 ≤ k) (hk2 : k ≤ 40) (c_1 : 40 ≤ k) : 0 ≤ 40 := by
  grind
set_option maxHeartbeats 1000000 in
theorem pf_X0_renew_16 (n_2 : Nat) (k : Int32) (hn_2 : 40 - k.toNatClampNeg < n_2 + 1) (hk1 : 1 ≤ k) (hk2 : k ≤ 40) (c_1 : 40 ≤ k) : 0 ≤ 0 := by
  grind
set_option maxHeartbeats 1000000 in
theorem pf_X0_renew_17 (n_2 : Nat) (k : Int32) (v_14 : Int32) (hn_2 : 40 - k.toNatClampNeg < n_2 + 1) (hk1 : 1 ≤ k) (hk2 : k ≤ 40) (c_1 : ¬ 40 ≤ k) (ev_14 : v_14 = k - 1) : vp_in v_14 40 := by
  exact vi_in (M := 40) rfl (by grind) (by grind)
set_option maxHeartbeats 1000000 in
theorem pf_X0_renew_18 (n_2 : Nat) (k : Int32) (gg : Nat → Int32) (v_14 : Int32) (v_15 : Int32) (v_16 : Int32) (hn_2 : 40 - k.toNatClampNeg < n_2 + 1) (hk1 : 1 ≤ k) (hk2 : k ≤ 40) (c_1 : ¬ 40 ≤ k) (ev_14 : v_14 = k - 1) (ev_15 : v_15 = gg v_14.toNatClampNeg) (ev_16 : v_16 = k - 1) : vp_in v_16 40 := by
  exact vi_in (M := 40) rfl (by grind) (by grind)
set_option maxHeartbeats 1000000 in
theorem pf_X0_renew_19 (bw : Int32) (fw : Nat → Int32) (n_2 : Nat) (k : Int32) (gg : Nat → Int32) (v_14 : Int32) (v_15 : Int32) (v_16 : Int32) (v_17 : Int32) (v_18 : Int32) (v_19 : Int32) (v_20 : Int32) (hn_2 : 40 - k.toNatClampNeg < n_2 + 1) (hk1 : 1 ≤ k) (hk2 : k ≤ 40) (c_1 : ¬ 40 ≤ k) (ev_14 : v_14 = k - 1) (ev_15 : v_15 = gg v_14.toNatClampNeg) (ev_16 : v_16 = k - 1) (ev_17 : v_17 = fw v_16.toNatClampNeg) (ev_18 : v_18 = v_17 - bw) (ev_19 : v_19 = (if 0 < v_18 then v_18 else 0)) (ev_20 : v_20 = v_15 + v_19) : vp_in k 40 := by
  exact vi_in (M := 40) rfl (by grind) (by grind)
set_option maxHeartbeats 1000000 in
theorem pf_X0_renew_20 (bw : Int32) (fw : Nat → Int32) (n_2 : Nat) (k : Int32) (gg : Nat → Int32) (v_14 : Int32) (v_15 : Int32) (v_16 : Int32) (v_17 : Int32) (v_18 : Int32) (v_19 : Int32) (v_20 : Int32) (v_21 : Int32) (hn_2 : 40 - k.toNatClampNeg < n_2 + 1) (hk1 : 1 ≤ k) (hk2 : k ≤ 40) (c_1 : ¬ 40 ≤ k) (ev_14 : v_14 = k - 1) (ev_15 : v_15 = gg v_14.toNatClampNeg) (ev_16 : v_16 = k - 1) (ev_17 : v_17 = fw v_16.toNatClampNeg) (ev_18 : v_18 = v_17 - bw) (ev_19 : v_19 = (if 0 < v_18 then v_18 else 0)) (ev_20 : v_20 = v_15 + v_19) (ev_21 : v_21 = k + 1) : 40 - v_21.toNatClampNeg < n_2 := by
  exact ms_dec (k := k) (by grind) (by assumption) (by omega) (by assumption) hn_2
set_option maxHeartbeats 1000000 in
theorem pf_X0_renew_21 (bw : Int32) (fw : Nat → Int32) (n_2 : Nat) (k : Int32) (gg : Nat → Int32) (v_14 : Int32) (v_15 : Int32) (v_16 : Int32) (v_17 : Int32) (v_18 : Int32) (v_19 : Int32) (v_20 : Int32) (v_21 : Int32) (hn_2 : 40 - k.toNatClampNeg < n_2 + 1) (hk1 : 1 ≤ k) (hk2 : k ≤ 40) (c_1 : ¬ 40 ≤ k) (ev_14 : v_14 = k - 1) (ev_15 : v_15 = gg v_14.toNatClampNeg) (ev_16 : v_16 = k - 1) (ev_17 : v_17 = fw v_16.toNatClampNeg) (ev_18 : v_18 = v_17 - bw) (ev_19 : v_19 = (if 0 < v_18 then v_18 else 0)) (ev_20 : v_20 = v_15 + v_19) (ev_21 : v_21 = k + 1) : 1 ≤ v_21 := by
  grind
set_option maxHeartbeats 1000000 in
theorem pf_X0_renew_22 (bw : Int32) (fw : Nat → Int32) (n_2 : Nat) (k : Int32) (gg : Nat → Int32) (v_14 : Int32) (v_15 : Int32) (v_16 : Int32) (v_17 : Int32) (v_18 : Int32) (v_19 : Int32) (v_20 : Int32) (v_21 : Int32) (hn_2 : 40 - k.toNatClampNeg < n_2 + 1) (hk1 : 1 ≤ k) (hk2 : k ≤ 40) (c_1 : ¬ 40 ≤ k) (ev_14 : v_14 = k - 1) (ev_15 : v_15 = gg v_14.toNatClampNeg) (ev_16 : v_16 = k - 1) (ev_17 : v_17 = fw v_16.toNatClampNeg) (ev_18 : v_18 = v_17 - bw) (ev_19 : v_19 = (if 0 < v_18 then v_18 else 0)) (ev_20 : v_20 = v_15 + v_19) (ev_21 : v_21 = k + 1) : v_21 ≤ 40 := by
  grind
set_option maxHeartbeats 1000000 in
theorem pf_X0_renew_23   : 1 ≤ 1 := by
  grind
set_option maxHeartbeats 1000000 in
theorem pf_X0_renew_24   : 1 ≤ 40 := by
  grind
set_option maxHeartbeats 4000000 in
set_option maxRecDepth 100000 in
theorem c_X0_renew (l : Launch) (D : va_G) (cI : ClassId) (sz : Nat) (h0 : Nat) (a0 : Nat) (a1 : Nat) (a2 : Nat) (a3 : Nat) (a4 : Nat) (a5 : Nat) (bw : Int32) (pts : Int32) (fw : Nat → Int32) (fl : Nat → Int32) (fd : Nat → Int32) (fh : Nat → Int32) (fg : Nat → Int32) (fs : Nat → Int32) : CtV l yX0_renew wsX0_renew 2 48 0 0 [.ref h0] D [(cI, .int)] [(h0, .inr (0, [.ref a0, .ref a1, .ref a2, .ref a3, .ref a4, .ref a5, .int bw, .int pts])), (a0, .inl (cI, 40, .inl fw)), (a1, .inl (cI, 2, .inl fl)), (a2, .inl (cI, 6, .inl fd)), (a3, .inl (cI, 6, .inl fh)), (a4, .inl (cI, 40, .inl fg)), (a5, .inl (cI, 40, .inl fs))] sz (fun (u : (Nat → Int32) × (Nat → Int32)) => True) (fun (u : (Nat → Int32) × (Nat → Int32)) => [(h0, .inr (0, [.ref a0, .ref a1, .ref a2, .ref a3, .ref a4, .ref a5, .int bw, .int pts])), (a0, .inl (cI, 40, .inl fw)), (a1, .inl (cI, 2, .inl fl)), (a2, .inl (cI, 6, .inl fd)), (a3, .inl (cI, 6, .inl fh)), (a4, .inl (cI, 40, .inl u.1)), (a5, .inl (cI, 40, .inl u.2))]) := by
  refine Met.ofW (cc := cX0_renew) (maxL := 3) (ret := none) (by decide) rfl ?_
  intro p e s m args below meth c s₁ B hml hv
  obtain ⟨rfl, hsz, hP, hK, hD0, hN⟩ := hv
  have hx := B.exec
  have hb := B.bytes
  have hr := B.returns
  have hts := atoms_spec (ws := wsX0_renew) B.pre
  have hown : s.vm.findClass RX0 = some m.cls := findClass_of_methodNamed B.named
  have hlocks := B.notSynchronized
  subst hsz
  have hD := hD0.self (sz := s.heap.size)
  generalize hAe : va_A [(h0, .inr (0, [.ref a0, .ref a1, .ref a2, .ref a3, .ref a4, .ref a5, .int bw, .int pts])), (a0, .inl (cI, 40, .inl fw)), (a1, .inl (cI, 2, .inl fl)), (a2, .inl (cI, 6, .inl fd)), (a3, .inl (cI, 6, .inl fh)), (a4, .inl (cI, 40, .inl fg)), (a5, .inl (cI, 40, .inl fs))] s.heap.size = A at hD ⊢
  have hA : ∀ q : Nat, s.heap.size ≤ q → A q := fun q h => by rw [← hAe]; exact Or.inr h
  have hS : va_S A s.heap s.heap [] := va_S.rf
  have hl := lv_entry ([.ref h0]) (n := 3) (Nat.le_of_ble_eq_true rfl)
  rw [lg_entry_eq]
  generalize (lg_sl ([.ref h0]) ++ List.replicate (3 - (lg_sl ([.ref h0])).length) Slot.unset).toArray = ls at hl ⊢
  have hl : lv_has ls 3 [(0, .ref h0)] := hl
  refine W_gen (fun GW hIn hOut => ?_)
  refine hIn _ _ _ _ _ ?_
  have hP0 := hP
  refine lv_iconst (v := 1) hx hb dX0_renew_0 (by decide) ?_
  refine lv_istore_n (lv' := [(1, .int 1), (0, .ref h0)]) hx hb dX0_renew_1 rfl hl (by decide) rfl (fun ls hl => ?_)
  have lp_2 : ∀ (n : Nat) (k : Int32) (gg : Nat → Int32) (H : Heap) (locs : List Loc) (ls : Array Slot), 40 - k.toNatClampNeg < n → 1 ≤ k → k ≤ 40 → va_P D vwCl [(h0, .inr (0, [.ref a0, .ref a1, .ref a2, .ref a3, .ref a4, .ref a5, .int bw, .int pts])), (a0, .inl (cI, 40, .inl fw)), (a1, .inl (cI, 2, .inl fl)), (a2, .inl (cI, 6, .inl fd)), (a3, .inl (cI, 6, .inl fh)), (a4, .inl (cI, 40, .inl gg)), (a5, .inl (cI, 40, .inl fs))] H → va_D A [(h0, .inr (0, [.ref a0, .ref a1, .ref a2, .ref a3, .ref a4, .ref a5, .int bw, .int pts])), (a0, .inl (cI, 40, .inl fw)), (a1, .inl (cI, 2, .inl fl)), (a2, .inl (cI, 6, .inl fd)), (a3, .inl (cI, 6, .inl fh)), (a4, .inl (cI, 40, .inl gg)), (a5, .inl (cI, 40, .inl fs))] → va_S A s.heap H locs → lv_has ls 3 [(0, .ref h0), (1, .int k)] → GW H locs 0 0 (F0 m 2 ls []) := by
    intro n_2
    induction n_2 with
    | zero => intro k gg H locs ls hn_2; exact absurd hn_2 (Nat.not_lt_zero _)
    | succ n_2 ih_2 =>
      intro k gg H locs ls hn_2 hk1 hk2 hP hD hS hl
      refine hIn _ _ _ _ _ ?_
      refine lv_iload_n hx hb dX0_renew_2 rfl (lv_at hl 1 rfl) ?_
      refine lv_bipush (v := 40) hx hb dX0_renew_3 (by decide) ?_
      refine lv_icmp_ge (tgt := 46) hx hb dX0_renew_5 (by decide) (fun c_1 => ?_) (fun c_1 => ?_)
      · refine lv_iconst (v := 0) hx hb dX0_renew_46 (by decide) ?_
        refine lv_istore_n (lv' := [(1, .int 0), (0, .ref h0)]) hx hb dX0_renew_47 rfl hl (by decide) rfl (fun ls hl => ?_)
        refine lv_iconst (v := 0) hx hb dX0_renew_48 (by decide) ?_
        refine lv_istore_n (lv' := [(2, .int 0), (1, .int 0), (0, .ref h0)]) hx hb dX0_renew_49 rfl hl (by decide) rfl (fun ls hl => ?_)
        have lp_50 : ∀ (n : Nat) (k1 : Int32) (k2 : Int32) (gs : Nat → Int32) (H : Heap) (locs : List Loc) (ls : Array Slot), 40 - k2.toNatClampNeg < n → 0 ≤ k2 → k2 ≤ 40 → 0 ≤ k1 → va_P D vwCl [(h0, .inr (0, [.ref a0, .ref a1, .ref a2, .ref a3, .ref a4, .ref a5, .int bw, .int pts])), (a0, .inl (cI, 40, .inl fw)), (a1, .inl (cI, 2, .inl fl)), (a2, .inl (cI, 6, .inl fd)), (a3, .inl (cI, 6, .inl fh)), (a4, .inl (cI, 40, .inl gg)), (a5, .inl (cI, 40, .inl gs))] H → va_D A [(h0, .inr (0, [.ref a0, .ref a1, .ref a2, .ref a3, .ref a4, .ref a5, .int bw, .int pts])), (a0, .inl (cI, 40, .inl fw)), (a1, .inl (cI, 2, .inl fl)), (a2, .inl (cI, 6, .inl fd)), (a3, .inl (cI, 6, .inl fh)), (a4, .inl (cI, 40, .inl gg)), (a5, .inl (cI, 40, .inl gs))] → va_S A s.heap H locs → lv_has ls 3 [(0, .ref h0), (1, .int k1), (2, .int k2)] → GW H locs 0 0 (F0 m 50 ls []) := by
          intro n_50
          induction n_50 with
          | zero => intro k1 k2 gs H locs ls hn_50; exact absurd hn_50 (Nat.not_lt_zero _)
          | succ n_50 ih_50 =>
            intro k1 k2 gs H locs ls hn_50 hk3 hk4 hk5 hP hD hS hl
            refine hIn _ _ _ _ _ ?_
            refine lv_iload_n hx hb dX0_renew_50 rfl (lv_at hl 2 rfl) ?_
            refine lv_bipush (v := 40) hx hb dX0_renew_51 (by decide) ?_
            refine lv_icmp_ge (tgt := 104) hx hb dX0_renew_53 (by decide) (fun c_2 => ?_) (fun c_2 => ?_)
            · refine W.widen (k := 0) (n := 0) (Nat.le_of_ble_eq_true rfl) (Nat.le_of_ble_eq_true rfl) ?_
              exact fi_v (gg, gs) hx hb hr hlocks hK (hP.sub [0, 1, 2, 3, 4, 5, 6] rfl) (hD.sub [0, 1, 2, 3, 4, 5, 6] (by decide) rfl) hS trivial dX0_renew_104
            · refine lv_iload_n hx hb dX0_renew_56 rfl (lv_at hl 1 rfl) ?_
              refine lv_iload_n hx hb dX0_renew_57 rfl (lv_at hl 2 rfl) ?_
              refine lv_iconst (v := 1) hx hb dX0_renew_58 (by decide) ?_
              refine lv_iadd hx hb dX0_renew_59 ?_
              refine lv_topi (fun v_3 ev_3 => ?_)
              refine va_mmax hx hb (by rw [hml]; exact hl.1.symm) hown (hts (.methodLink RX0 44 Lib.Math.max.name) (by decide +kernel)) (hts (.static Lib.Math.max.name) (by decide +kernel)) (hts (.initialized "java/lang/Math") (by decide +kernel)) (hts (.code Lib.Math.max.name Lib.Math.max.code 2 (some .int)) (by decide +kernel)) (Nat.le_of_ble_eq_true rfl) (Nat.le_of_ble_eq_true rfl) (Nat.le_of_ble_eq_true rfl) (Nat.le_of_ble_eq_true rfl) dX0_renew_60 ?_
              refine lv_topi (fun v_4 ev_4 => ?_)
              refine lv_istore_n (lv' := [(1, .int v_4), (0, .ref h0), (2, .int k2)]) hx hb dX0_renew_63 rfl hl (by decide) rfl (fun ls hl => ?_)
              have lp_64 : ∀ (n : Nat) (k3 : Int32) (H : Heap) (locs : List Loc) (ls : Array Slot), 40 - k3.toNatClampNeg < n → 0 ≤ k3 → va_P D vwCl [(h0, .inr (0, [.ref a0, .ref a1, .ref a2, .ref a3, .ref a4, .ref a5, .int bw, .int pts])), (a0, .inl (cI, 40, .inl fw)), (a1, .inl (cI, 2, .inl fl)), (a2, .inl (cI, 6, .inl fd)), (a3, .inl (cI, 6, .inl fh)), (a4, .inl (cI, 40, .inl gg)), (a5, .inl (cI, 40, .inl gs))] H → va_D A [(h0, .inr (0, [.ref a0, .ref a1, .ref a2, .ref a3, .ref a4, .ref a5, .int bw, .int pts])), (a0, .inl (cI, 40, .inl fw)), (a1, .inl (cI, 2, .inl fl)), (a2, .inl (cI, 6, .inl fd)), (a3, .inl (cI, 6, .inl fh)), (a4, .inl (cI, 40, .inl gg)), (a5, .inl (cI, 40, .inl gs))] → va_S A s.heap H locs → lv_has ls 3 [(0, .ref h0), (1, .int k3), (2, .int k2)] → GW H locs 0 0 (F0 m 64 ls []) := by
                intro n_64
                induction n_64 with
                | zero => intro k3 H locs ls hn_64; exact absurd hn_64 (Nat.not_lt_zero _)
                | succ n_64 ih_64 =>
                  intro k3 H locs ls hn_64 hk6 hP hD hS hl
                  refine hIn _ _ _ _ _ ?_
                  refine lv_iload_n hx hb dX0_renew_64 rfl (lv_at hl 1 rfl) ?_
                  refine lv_bipush (v := 40) hx hb dX0_renew_65 (by decide) ?_
                  refine lv_icmp_ge (tgt := 91) hx hb dX0_renew_67 (by decide) (fun c_5 => ?_) (fun c_5 => ?_)
                  · refine lv_aload_n hx hb dX0_renew_91 rfl (lv_at hl 0 rfl) ?_
                    refine va_get (D := D) (ci := 0) (v := .ref a5) (C := RX0) (T := TX0) (N := 8) hx hb hts iw_X0_renew_0 hown hK hP 0 rfl rfl 5 (by decide) (hts (.fieldLink RX0 27 "PourPlan$Curing" "stripDays" "[I") (by decide +kernel)) (fun _ h9 => h9) rfl dX0_renew_92 ?_
                    refine lv_iload_n hx hb dX0_renew_95 rfl (lv_at hl 2 rfl) ?_
                    refine lv_iload_n hx hb dX0_renew_96 rfl (lv_at hl 1 rfl) ?_
                    refine va_iast hx hb hK hP hD hS 6 0 rfl rfl (pf_X0_renew_1 n_2 k n_50 k1 k2 v_3 v_4 n_64 k3 hn_2 hk1 hk2 c_1 hn_50 hk3 hk4 hk5 c_2 ev_3 ev_4 hn_64 hk6 c_5) dX0_renew_97 (fun H locs hP hD hS => ?_)
                    have hP : va_P D vwCl [(h0, .inr (0, [.ref a0, .ref a1, .ref a2, .ref a3, .ref a4, .ref a5, .int bw, .int pts])), (a0, .inl (cI, 40, .inl fw)), (a1, .inl (cI, 2, .inl fl)), (a2, .inl (cI, 6, .inl fd)), (a3, .inl (cI, 6, .inl fh)), (a4, .inl (cI, 40, .inl gg)), (a5, .inl (cI, 40, .inl (upd gs k2.toNatClampNeg k3)))] H := hP
                    have hD : va_D A [(h0, .inr (0, [.ref a0, .ref a1, .ref a2, .ref a3, .ref a4, .ref a5, .int bw, .int pts])), (a0, .inl (cI, 40, .inl fw)), (a1, .inl (cI, 2, .inl fl)), (a2, .inl (cI, 6, .inl fd)), (a3, .inl (cI, 6, .inl fh)), (a4, .inl (cI, 40, .inl gg)), (a5, .inl (cI, 40, .inl (upd gs k2.toNatClampNeg k3)))] := hD
                    obtain ⟨v_6, ev_6⟩ : ∃ y : Int32, y = k2 + 1 := ⟨_, rfl⟩
                    refine lv_iinc (v := v_6) (lv' := [(2, .int v_6), (0, .ref h0), (1, .int k3)]) hx hb dX0_renew_98 hl (k := 2) rfl (by rw [ev_6]; rfl) (by decide) rfl (fun ls hl => ?_)
                    refine lv_goto (tgt := 50) hx hb dX0_renew_101 (by decide) ?_
                    exact hOut _ _ _ _ _ (ih_50 k3 v_6 (upd gs k2.toNatClampNeg k3) _ _ _ (pf_X0_renew_2 n_2 k n_50 k1 k2 v_3 v_4 n_64 k3 v_6 hn_2 hk1 hk2 c_1 hn_50 hk3 hk4 hk5 c_2 ev_3 ev_4 hn_64 hk6 c_5 ev_6) (pf_X0_renew_3 n_2 k n_50 k1 k2 v_3 v_4 n_64 k3 v_6 hn_2 hk1 hk2 c_1 hn_50 hk3 hk4 hk5 c_2 ev_3 ev_4 hn_64 hk6 c_5 ev_6) (pf_X0_renew_4 n_2 k n_50 k1 k2 v_3 v_4 n_64 k3 v_6 hn_2 hk1 hk2 c_1 hn_50 hk3 hk4 hk5 c_2 ev_3 ev_4 hn_64 hk6 c_5 ev_6) (pf_X0_renew_5 n_2 k n_50 k1 k2 v_3 v_4 n_64 k3 v_6 hn_2 hk1 hk2 c_1 hn_50 hk3 hk4 hk5 c_2 ev_3 ev_4 hn_64 hk6 c_5 ev_6) (hP.sub [0, 1, 2, 3, 4, 5, 6] rfl) (hD.sub [0, 1, 2, 3, 4, 5, 6] (by decide) rfl) hS (lv_sub hl [1, 2, 0] rfl))
                  · refine lv_aload_n hx hb dX0_renew_70 rfl (lv_at hl 0 rfl) ?_
                    refine lv_iload_n hx hb dX0_renew_71 rfl (lv_at hl 2 rfl) ?_
                    refine lv_iload_n hx hb dX0_renew_72 rfl (lv_at hl 1 rfl) ?_
                    refine cc_i (wc := [(h0, .inr (0, [.ref a0, .ref a1, .ref a2, .ref a3, .ref a4, .ref a5, .int bw, .int pts])), (a2, .inl (cI, 6, .inl fd)), (a3, .inl (cI, 6, .inl fh)), (a4, .inl (cI, 40, .inl gg))]) (wr := [(a0, .inl (cI, 40, .inl fw)), (a1, .inl (cI, 2, .inl fl)), (a5, .inl (cI, 40, .inl gs))]) (va_runV (As := [.int k2, .int k3]) (rest := []) ⟨hx, hb, hml, hown, hts⟩ (c_X0_hardnessOn l D cI H.size h0 a2 a3 a4 a0 a1 a5 bw pts fd fh gg k2 k3 ) (cwV 2 hts gX0_renew_X0_hardnessOn rfl rfl rfl (by decide +kernel) ⟨Nat.le_of_ble_eq_true rfl, Nat.le_of_ble_eq_true rfl⟩) (preV (wc := [(h0, .inr (0, [.ref a0, .ref a1, .ref a2, .ref a3, .ref a4, .ref a5, .int bw, .int pts])), (a2, .inl (cI, 6, .inl fd)), (a3, .inl (cI, 6, .inl fh)), (a4, .inl (cI, 40, .inl gg))]) (ci := 0) (q0 := 0) hK hP hD hN [0, 3, 4, 5] rfl (by decide) rfl rfl) rfl rfl hl.1 rfl (lv_room (Nat.le_of_ble_eq_true rfl)) dX0_renew_73 ⟨Nat.le_of_ble_eq_true rfl, Nat.le_of_ble_eq_true rfl⟩) hP hD hS hA [0, 3, 4, 5] [1, 2, 6] rfl rfl (by decide) (by decide) (fun r_7 u H locs w_8 hP hD hS => ?_)
                    have hP : va_P D vwCl [(a0, .inl (cI, 40, .inl fw)), (a1, .inl (cI, 2, .inl fl)), (a5, .inl (cI, 40, .inl gs)), (h0, .inr (0, [.ref a0, .ref a1, .ref a2, .ref a3, .ref a4, .ref a5, .int bw, .int pts])), (a2, .inl (cI, 6, .inl fd)), (a3, .inl (cI, 6, .inl fh)), (a4, .inl (cI, 40, .inl gg))] H := hP
                    have hD : va_D A [(a0, .inl (cI, 40, .inl fw)), (a1, .inl (cI, 2, .inl fl)), (a5, .inl (cI, 40, .inl gs)), (h0, .inr (0, [.ref a0, .ref a1, .ref a2, .ref a3, .ref a4, .ref a5, .int bw, .int pts])), (a2, .inl (cI, 6, .inl fd)), (a3, .inl (cI, 6, .inl fh)), (a4, .inl (cI, 40, .inl gg))] := hD
                    have w_8 : r_7 = hon fd fh gg pts k2 k3 := w_8
                    refine lv_aload_n hx hb dX0_renew_76 rfl (lv_at hl 0 rfl) ?_
                    refine va_get (D := D) (ci := 0) (v := .ref a1) (C := RX0) (T := TX0) (N := 8) hx hb hts iw_X0_renew_0 hown hK hP 3 rfl rfl 1 (by decide) (hts (.fieldLink RX0 15 "PourPlan$Curing" "levels" "[I") (by decide +kernel)) (fun _ h9 => h9) rfl dX0_renew_77 ?_
                    refine lv_iconst (v := 0) hx hb dX0_renew_80 (by decide) ?_
                    refine va_iald hx hb hK hP 1 0 rfl rfl (by unfold vp_in; decide) dX0_renew_81 ?_
                    refine lv_topi (fun v_10 ev_10 => ?_)
                    have ev_10 : v_10 = fl 0 := ev_10
                    refine lv_icmp_ge (tgt := 91) hx hb dX0_renew_82 (by decide) (fun c_11 => ?_) (fun c_11 => ?_)
                    · refine lv_aload_n hx hb dX0_renew_91 rfl (lv_at hl 0 rfl) ?_
                      refine va_get (D := D) (ci := 0) (v := .ref a5) (C := RX0) (T := TX0) (N := 8) hx hb hts iw_X0_renew_0 hown hK hP 3 rfl rfl 5 (by decide) (hts (.fieldLink RX0 27 "PourPlan$Curing" "stripDays" "[I") (by decide +kernel)) (fun _ h9 => h9) rfl dX0_renew_92 ?_
                      refine lv_iload_n hx hb dX0_renew_95 rfl (lv_at hl 2 rfl) ?_
                      refine lv_iload_n hx hb dX0_renew_96 rfl (lv_at hl 1 rfl) ?_
                      refine va_iast hx hb hK hP hD hS 2 0 rfl rfl (pf_X0_renew_6 pts fl fd fh n_2 k gg n_50 k1 k2 v_3 v_4 n_64 k3 r_7 v_10 hn_2 hk1 hk2 c_1 hn_50 hk3 hk4 hk5 c_2 ev_3 ev_4 hn_64 hk6 c_5 w_8 ev_10 c_11) dX0_renew_97 (fun H locs hP hD hS => ?_)
                      have hP : va_P D vwCl [(a0, .inl (cI, 40, .inl fw)), (a1, .inl (cI, 2, .inl fl)), (a5, .inl (cI, 40, .inl (upd gs k2.toNatClampNeg k3))), (h0, .inr (0, [.ref a0, .ref a1, .ref a2, .ref a3, .ref a4, .ref a5, .int bw, .int pts])), (a2, .inl (cI, 6, .inl fd)), (a3, .inl (cI, 6, .inl fh)), (a4, .inl (cI, 40, .inl gg))] H := hP
                      have hD : va_D A [(a0, .inl (cI, 40, .inl fw)), (a1, .inl (cI, 2, .inl fl)), (a5, .inl (cI, 40, .inl (upd gs k2.toNatClampNeg k3))), (h0, .inr (0, [.ref a0, .ref a1, .ref a2, .ref a3, .ref a4, .ref a5, .int bw, .int pts])), (a2, .inl (cI, 6, .inl fd)), (a3, .inl (cI, 6, .inl fh)), (a4, .inl (cI, 40, .inl gg))] := hD
                      obtain ⟨v_12, ev_12⟩ : ∃ y : Int32, y = k2 + 1 := ⟨_, rfl⟩
                      refine lv_iinc (v := v_12) (lv' := [(2, .int v_12), (0, .ref h0), (1, .int k3)]) hx hb dX0_renew_98 hl (k := 2) rfl (by rw [ev_12]; rfl) (by decide) rfl (fun ls hl => ?_)
                      refine lv_goto (tgt := 50) hx hb dX0_renew_101 (by decide) ?_
                      exact hOut _ _ _ _ _ (ih_50 k3 v_12 (upd gs k2.toNatClampNeg k3) _ _ _ (pf_X0_renew_7 pts fl fd fh n_2 k gg n_50 k1 k2 v_3 v_4 n_64 k3 r_7 v_10 v_12 hn_2 hk1 hk2 c_1 hn_50 hk3 hk4 hk5 c_2 ev_3 ev_4 hn_64 hk6 c_5 w_8 ev_10 c_11 ev_12) (pf_X0_renew_8 pts fl fd fh n_2 k gg n_50 k1 k2 v_3 v_4 n_64 k3 r_7 v_10 v_12 hn_2 hk1 hk2 c_1 hn_50 hk3 hk4 hk5 c_2 ev_3 ev_4 hn_64 hk6 c_5 w_8 ev_10 c_11 ev_12) (pf_X0_renew_9 pts fl fd fh n_2 k gg n_50 k1 k2 v_3 v_4 n_64 k3 r_7 v_10 v_12 hn_2 hk1 hk2 c_1 hn_50 hk3 hk4 hk5 c_2 ev_3 ev_4 hn_64 hk6 c_5 w_8 ev_10 c_11 ev_12) (pf_X0_renew_10 pts fl fd fh n_2 k gg n_50 k1 k2 v_3 v_4 n_64 k3 r_7 v_10 v_12 hn_2 hk1 hk2 c_1 hn_50 hk3 hk4 hk5 c_2 ev_3 ev_4 hn_64 hk6 c_5 w_8 ev_10 c_11 ev_12) (hP.sub [3, 0, 1, 4, 5, 6, 2] rfl) (hD.sub [3, 0, 1, 4, 5, 6, 2] (by decide) rfl) hS (lv_sub hl [1, 2, 0] rfl))
                    · obtain ⟨v_13, ev_13⟩ : ∃ y : Int32, y = k3 + 1 := ⟨_, rfl⟩
                      refine lv_iinc (v := v_13) (lv' := [(1, .int v_13), (0, .ref h0), (2, .int k2)]) hx hb dX0_renew_85 hl (k := 1) rfl (by rw [ev_13]; rfl) (by decide) rfl (fun ls hl => ?_)
                      refine lv_goto (tgt := 64) hx hb dX0_renew_88 (by decide) ?_
                      exact hOut _ _ _ _ _ (ih_64 v_13 _ _ _ (pf_X0_renew_11 pts fl fd fh n_2 k gg n_50 k1 k2 v_3 v_4 n_64 k3 r_7 v_10 v_13 hn_2 hk1 hk2 c_1 hn_50 hk3 hk4 hk5 c_2 ev_3 ev_4 hn_64 hk6 c_5 w_8 ev_10 c_11 ev_13) (pf_X0_renew_12 pts fl fd fh n_2 k gg n_50 k1 k2 v_3 v_4 n_64 k3 r_7 v_10 v_13 hn_2 hk1 hk2 c_1 hn_50 hk3 hk4 hk5 c_2 ev_3 ev_4 hn_64 hk6 c_5 w_8 ev_10 c_11 ev_13) (hP.sub [3, 0, 1, 4, 5, 6, 2] rfl) (hD.sub [3, 0, 1, 4, 5, 6, 2] (by decide) rfl) hS (lv_sub hl [1, 0, 2] rfl))
              exact hOut _ _ _ _ _ (lp_64 (40 - v_4.toNatClampNeg + 1) v_4 _ _ _ (Nat.lt_succ_self _) (pf_X0_renew_13 n_2 k n_50 k1 k2 v_3 v_4 hn_2 hk1 hk2 c_1 hn_50 hk3 hk4 hk5 c_2 ev_3 ev_4) (hP.sub [0, 1, 2, 3, 4, 5, 6] rfl) (hD.sub [0, 1, 2, 3, 4, 5, 6] (by decide) rfl) hS (lv_sub hl [1, 0, 2] rfl))
        exact hOut _ _ _ _ _ (lp_50 (40 - 0.toNatClampNeg + 1) 0 0 fs _ _ _ (Nat.lt_succ_self _) (pf_X0_renew_14 n_2 k hn_2 hk1 hk2 c_1) (pf_X0_renew_15 n_2 k hn_2 hk1 hk2 c_1) (pf_X0_renew_16 n_2 k hn_2 hk1 hk2 c_1) (hP.sub [0, 1, 2, 3, 4, 5, 6] rfl) (hD.sub [0, 1, 2, 3, 4, 5, 6] (by decide) rfl) hS (lv_sub hl [2, 1, 0] rfl))
      · refine lv_aload_n hx hb dX0_renew_8 rfl (lv_at hl 0 rfl) ?_
        refine va_get (D := D) (ci := 0) (v := .ref a4) (C := RX0) (T := TX0) (N := 8) hx hb hts iw_X0_renew_0 hown hK hP 0 rfl rfl 4 (by decide) (hts (.fieldLink RX0 24 "PourPlan$Curing" "degreesAhead" "[I") (by decide +kernel)) (fun _ h9 => h9) rfl dX0_renew_9 ?_
        refine lv_iload_n hx hb dX0_renew_12 rfl (lv_at hl 1 rfl) ?_
        refine lv_aload_n hx hb dX0_renew_13 rfl (lv_at hl 0 rfl) ?_
        refine va_get (D := D) (ci := 0) (v := .ref a4) (C := RX0) (T := TX0) (N := 8) hx hb hts iw_X0_renew_0 hown hK hP 0 rfl rfl 4 (by decide) (hts (.fieldLink RX0 24 "PourPlan$Curing" "degreesAhead" "[I") (by decide +kernel)) (fun _ h9 => h9) rfl dX0_renew_14 ?_
        refine lv_iload_n hx hb dX0_renew_17 rfl (lv_at hl 1 rfl) ?_
        refine lv_iconst (v := 1) hx hb dX0_renew_18 (by decide) ?_
        refine lv_isub hx hb dX0_renew_19 ?_
        refine lv_topi (fun v_14 ev_14 => ?_)
        refine va_iald hx hb hK hP 5 0 rfl rfl (pf_X0_renew_17 n_2 k v_14 hn_2 hk1 hk2 c_1 ev_14) dX0_renew_20 ?_
        refine lv_topi (fun v_15 ev_15 => ?_)
        refine lv_iconst (v := 0) hx hb dX0_renew_21 (by decide) ?_
        refine lv_aload_n hx hb dX0_renew_22 rfl (lv_at hl 0 rfl) ?_
        refine va_get (D := D) (ci := 0) (v := .ref a0) (C := RX0) (T := TX0) (N := 8) hx hb hts iw_X0_renew_0 hown hK hP 0 rfl rfl 0 (by decide) (hts (.fieldLink RX0 9 "PourPlan$Curing" "warmth" "[I") (by decide +kernel)) (fun _ h9 => h9) rfl dX0_renew_23 ?_
        refine lv_iload_n hx hb dX0_renew_26 rfl (lv_at hl 1 rfl) ?_
        refine lv_iconst (v := 1) hx hb dX0_renew_27 (by decide) ?_
        refine lv_isub hx hb dX0_renew_28 ?_
        refine lv_topi (fun v_16 ev_16 => ?_)
        refine va_iald hx hb hK hP 1 0 rfl rfl (pf_X0_renew_18 n_2 k gg v_14 v_15 v_16 hn_2 hk1 hk2 c_1 ev_14 ev_15 ev_16) dX0_renew_29 ?_
        refine lv_topi (fun v_17 ev_17 => ?_)
        refine lv_aload_n hx hb dX0_renew_30 rfl (lv_at hl 0 rfl) ?_
        refine va_get (D := D) (ci := 0) (v := .int bw) (C := RX0) (T := TX0) (N := 8) hx hb hts iw_X0_renew_0 hown hK hP 0 rfl rfl 6 (by decide) (hts (.fieldLink RX0 30 "PourPlan$Curing" "baseWarmth" "I") (by decide +kernel)) (fun _ h9 => h9) rfl dX0_renew_31 ?_
        refine lv_isub hx hb dX0_renew_34 ?_
        refine lv_topi (fun v_18 ev_18 => ?_)
        refine va_mmax hx hb (by rw [hml]; exact hl.1.symm) hown (hts (.methodLink RX0 44 Lib.Math.max.name) (by decide +kernel)) (hts (.static Lib.Math.max.name) (by decide +kernel)) (hts (.initialized "java/lang/Math") (by decide +kernel)) (hts (.code Lib.Math.max.name Lib.Math.max.code 2 (some .int)) (by decide +kernel)) (Nat.le_of_ble_eq_true rfl) (Nat.le_of_ble_eq_true rfl) (Nat.le_of_ble_eq_true rfl) (Nat.le_of_ble_eq_true rfl) dX0_renew_35 ?_
        refine lv_topi (fun v_19 ev_19 => ?_)
        refine lv_iadd hx hb dX0_renew_38 ?_
        refine lv_topi (fun v_20 ev_20 => ?_)
        refine va_iast hx hb hK hP hD hS 5 0 rfl rfl (pf_X0_renew_19 bw fw n_2 k gg v_14 v_15 v_16 v_17 v_18 v_19 v_20 hn_2 hk1 hk2 c_1 ev_14 ev_15 ev_16 ev_17 ev_18 ev_19 ev_20) dX0_renew_39 (fun H locs hP hD hS => ?_)
        have hP : va_P D vwCl [(h0, .inr (0, [.ref a0, .ref a1, .ref a2, .ref a3, .ref a4, .ref a5, .int bw, .int pts])), (a0, .inl (cI, 40, .inl fw)), (a1, .inl (cI, 2, .inl fl)), (a2, .inl (cI, 6, .inl fd)), (a3, .inl (cI, 6, .inl fh)), (a4, .inl (cI, 40, .inl (upd gg k.toNatClampNeg v_20))), (a5, .inl (cI, 40, .inl fs))] H := hP
        have hD : va_D A [(h0, .inr (0, [.ref a0, .ref a1, .ref a2, .ref a3, .ref a4, .ref a5, .int bw, .int pts])), (a0, .inl (cI, 40, .inl fw)), (a1, .inl (cI, 2, .inl fl)), (a2, .inl (cI, 6, .inl fd)), (a3, .inl (cI, 6, .inl fh)), (a4, .inl (cI, 40, .inl (upd gg k.toNatClampNeg v_20))), (a5, .inl (cI, 40, .inl fs))] := hD
        obtain ⟨v_21, ev_21⟩ : ∃ y : Int32, y = k + 1 := ⟨_, rfl⟩
        refine lv_iinc (v := v_21) (lv' := [(1, .int v_21), (0, .ref h0)]) hx hb dX0_renew_40 hl (k := 1) rfl (by rw [ev_21]; rfl) (by decide) rfl (fun ls hl => ?_)
        refine lv_goto (tgt := 2) hx hb dX0_renew_43 (by decide) ?_
        exact hOut _ _ _ _ _ (ih_2 v_21 (upd gg k.toNatClampNeg v_20) _ _ _ (pf_X0_renew_20 bw fw n_2 k gg v_14 v_15 v_16 v_17 v_18 v_19 v_20 v_21 hn_2 hk1 hk2 c_1 ev_14 ev_15 ev_16 ev_17 ev_18 ev_19 ev_20 ev_21) (pf_X0_renew_21 bw fw n_2 k gg v_14 v_15 v_16 v_17 v_18 v_19 v_20 v_21 hn_2 hk1 hk2 c_1 ev_14 ev_15 ev_16 ev_17 ev_18 ev_19 ev_20 ev_21) (pf_X0_renew_22 bw fw n_2 k gg v_14 v_15 v_16 v_17 v_18 v_19 v_20 v_21 hn_2 hk1 hk2 c_1 ev_14 ev_15 ev_16 ev_17 ev_18 ev_19 ev_20 ev_21) (hP.sub [0, 1, 2, 3, 4, 5, 6] rfl) (hD.sub [0, 1, 2, 3, 4, 5, 6] (by decide) rfl) hS (lv_sub hl [1, 0] rfl))
  exact hOut _ _ _ _ _ (lp_2 (40 - 1.toNatClampNeg + 1) 1 fg _ _ _ (Nat.lt_succ_self _) (pf_X0_renew_23) (pf_X0_renew_24) (hP.sub [0, 1, 2, 3, 4, 5, 6] rfl) (hD.sub [0, 1, 2, 3, 4, 5, 6] (by decide) rfl) hS (lv_sub hl [1, 0] rfl))

theorem iw_X0_init_0 : ∀ w ∈ wsX00, w ∈ wsX0_init := by decide +kernel
set_option maxHeartbeats 1000000 in
theorem pf_X0_init_1 (n_75 : Nat) (i : Nat) (k : Int32) (gw : Nat → Int32) (hn_75 : 40 - i < n_75 + 1) (ek : k = nI i) (hi : i ≤ 40) (hw : ∀ j, j < i → gw j = 20) (c_7 : 40 ≤ k) : (∀ j, j < 40 → gw j = 20) := by
  intro j hj
  exact hw j (lp_ge (N := 40) ek hi (by omega) (by assumption) hj)
set_option maxHeartbeats 1000000 in
theorem pf_X0_init_2 (n_75 : Nat) (i : Nat) (k : Int32) (gw : Nat → Int32) (hn_75 : 40 - i < n_75 + 1) (ek : k = nI i) (hi : i ≤ 40) (hw : ∀ j, j < i → gw j = 20) (c_7 : 40 ≤ k) : (upd (upd (fun _ => 0) 0 500) 1 300) 0 = 500 := by
  simp [upd]
set_option maxHeartbeats 1000000 in
theorem pf_X0_init_3 (n_75 : Nat) (i : Nat) (k : Int32) (gw : Nat → Int32) (hn_75 : 40 - i < n_75 + 1) (ek : k = nI i) (hi : i ≤ 40) (hw : ∀ j, j < i → gw j = 20) (c_7 : 40 ≤ k) : (upd (upd (fun _ => 0) 0 500) 1 300) 1 = 300 := by
  simp [upd]
set_option maxHeartbeats 1000000 in
theorem pf_X0_init_4 (n_75 : Nat) (i : Nat) (k : Int32) (gw : Nat → Int32) (hn_75 : 40 - i < n_75 + 1) (ek : k = nI i) (hi : i ≤ 40) (hw : ∀ j, j < i → gw j = 20) (c_7 : ¬ 40 ≤ k) : vp_in k 40 := by
  exact lp_in (N := 40) ek hi (by omega) (by assumption)
set_option maxHeartbeats 1000000 in
theorem pf_X0_init_5 (n_75 : Nat) (i : Nat) (k : Int32) (gw : Nat → Int32) (v_12 : Int32) (hn_75 : 40 - i < n_75 + 1) (ek : k = nI i) (hi : i ≤ 40) (hw : ∀ j, j < i → gw j = 20) (c_7 : ¬ 40 ≤ k) (ev_12 : v_12 = k + 1) : 40 - (i + 1) < n_75 := by
  have := lp_lt (N := 40) ek hi (by omega) (by assumption)
  omega
set_option maxHeartbeats 1000000 in
theorem pf_X0_init_6 (n_75 : Nat) (i : Nat) (k : Int32) (gw : Nat → Int32) (v_12 : Int32) (hn_75 : 40 - i < n_75 + 1) (ek : k = nI i) (hi : i ≤ 40) (hw : ∀ j, j < i → gw j = 20) (c_7 : ¬ 40 ≤ k) (ev_12 : v_12 = k + 1) : v_12 = nI (i + 1) := by
  subst_vars
  exact nI_1 i
set_option maxHeartbeats 1000000 in
theorem pf_X0_init_7 (n_75 : Nat) (i : Nat) (k : Int32) (gw : Nat → Int32) (v_12 : Int32) (hn_75 : 40 - i < n_75 + 1) (ek : k = nI i) (hi : i ≤ 40) (hw : ∀ j, j < i → gw j = 20) (c_7 : ¬ 40 ≤ k) (ev_12 : v_12 = k + 1) : (i + 1) ≤ 40 := by
  have := lp_lt (N := 40) ek hi (by omega) (by assumption)
  omega
set_option maxHeartbeats 1000000 in
theorem pf_X0_init_8 (n_75 : Nat) (i : Nat) (k : Int32) (gw : Nat → Int32) (v_12 : Int32) (hn_75 : 40 - i < n_75 + 1) (ek : k = nI i) (hi : i ≤ 40) (hw : ∀ j, j < i → gw j = 20) (c_7 : ¬ 40 ≤ k) (ev_12 : v_12 = k + 1) : ∀ j, j < (i + 1) → (upd gw k.toNatClampNeg 20) j = 20 := by
  intro j hj
  rw [nI_cl ek (by omega)]
  unfold upd
  split
  · rfl
  · exact hw j (by omega)
set_option maxHeartbeats 1000000 in
theorem pf_X0_init_9   : 0 = nI 0 := by
  exact nI_0.symm
set_option maxHeartbeats 1000000 in
theorem pf_X0_init_10   : 0 ≤ 40 := by
  omega
set_option maxHeartbeats 1000000 in
theorem pf_X0_init_11   : ∀ j, j < 0 → (fun _ => 0) j = 20 := by
  omega
set_option maxHeartbeats 4000000 in
set_option maxRecDepth 100000 in
theorem c_X0_init (l : Launch) (D : va_G) (cI : ClassId) (sz : Nat) (h0 : Nat) : CtV l yX0_init wsX0_init 3 70 6 134 [.ref h0] D [(cI, .int)] [(h0, .inr (0, [.null, .null, .null, .null, .null, .null, .int 0, .int 0]))] sz (fun (u : Nat × Nat × Nat × Nat × Nat × Nat × (Nat → Int32) × (Nat → Int32) × (Nat → Int32) × (Nat → Int32) × (Nat → Int32) × (Nat → Int32)) => (∀ j, j < 40 → u.2.2.2.2.2.2.1 j = 20) ∧ u.2.2.2.2.2.2.2.1 0 = 500 ∧ u.2.2.2.2.2.2.2.1 1 = 300) (fun (u : Nat × Nat × Nat × Nat × Nat × Nat × (Nat → Int32) × (Nat → Int32) × (Nat → Int32) × (Nat → Int32) × (Nat → Int32) × (Nat → Int32)) => [(h0, .inr (0, [.ref u.1, .ref u.2.1, .ref u.2.2.1, .ref u.2.2.2.1, .ref u.2.2.2.2.1, .ref u.2.2.2.2.2.1, .int 0, .int 0])), (u.1, .inl (cI, 40, .inl u.2.2.2.2.2.2.1)), (u.2.1, .inl (cI, 2, .inl u.2.2.2.2.2.2.2.1)), (u.2.2.1, .inl (cI, 6, .inl u.2.2.2.2.2.2.2.2.1)), (u.2.2.2.1, .inl (cI, 6, .inl u.2.2.2.2.2.2.2.2.2.1)), (u.2.2.2.2.1, .inl (cI, 40, .inl u.2.2.2.2.2.2.2.2.2.2.1)), (u.2.2.2.2.2.1, .inl (cI, 40, .inl u.2.2.2.2.2.2.2.2.2.2.2))]) := by
  refine Met.ofW (cc := cX0_init) (maxL := 2) (ret := none) (by decide) rfl ?_
  intro p e s m args below meth c s₁ B hml hv
  obtain ⟨rfl, hsz, hP, hK, hD0, hN⟩ := hv
  have hx := B.exec
  have hb := B.bytes
  have hr := B.returns
  have hts := atoms_spec (ws := wsX0_init) B.pre
  have hown : s.vm.findClass RX0 = some m.cls := findClass_of_methodNamed B.named
  have hlocks := B.notSynchronized
  have hin : meth.name = "<init>" := (name_of_methodNamed B.named B.method).1
  subst hsz
  have hD := hD0.self (sz := s.heap.size)
  generalize hAe : va_A [(h0, .inr (0, [.null, .null, .null, .null, .null, .null, .int 0, .int 0]))] s.heap.size = A at hD ⊢
  have hA : ∀ q : Nat, s.heap.size ≤ q → A q := fun q h => by rw [← hAe]; exact Or.inr h
  have hS : va_S A s.heap s.heap [] := va_S.rf
  have hl := lv_entry ([.ref h0]) (n := 2) (Nat.le_of_ble_eq_true rfl)
  rw [lg_entry_eq]
  generalize (lg_sl ([.ref h0]) ++ List.replicate (2 - (lg_sl ([.ref h0])).length) Slot.unset).toArray = ls at hl ⊢
  have hl : lv_has ls 2 [(0, .ref h0)] := hl
  refine W_gen (fun GW hIn hOut => ?_)
  refine hIn _ _ _ _ _ ?_
  have hP0 := hP
  refine lv_aload_n hx hb dX0_init_0 rfl (lv_at hl 0 rfl) ?_
  refine W.objInit hx hb hown (hts (.methodLink RX0 3 objectInit) (by decide +kernel)) (hts (.instanceMethod objectInit) (by decide +kernel)) (hts (.code objectInit ⟨#[0xb1]⟩ 1 none) (by decide +kernel)) rfl (by rw [hml]; exact hl.1) rfl dX0_init_1 (Nat.le_of_ble_eq_true rfl) (Nat.le_of_ble_eq_true rfl) ?_
  refine W.eq (g2 := F0 m 4 ls []) rfl ?_
  refine lv_aload_n hx hb dX0_init_4 rfl (lv_at hl 0 rfl) ?_
  refine lv_bipush (v := 40) hx hb dX0_init_5 (by decide) ?_
  refine va_newa (a0 := (40, .inl (fun _ => 0))) (N' := 40) hx hb (hts (.arrayClass .int) (by decide +kernel)) rfl hK hP hD hS hA (fun _ => rfl) (by decide) (by decide) (by decide) (Nat.le_of_ble_eq_true rfl) (Nat.le_of_ble_eq_true rfl) dX0_init_7 (fun q_1 cA H hK hP hD hS => ?_)
  have ecA := cA_is (t0 := 0) (t1 := 1) hK rfl rfl
  subst ecA
  have hK := hK.sub (tys' := [(cI, .int)]) [0] rfl
  have hP : va_P D vwCl [(h0, .inr (0, [.null, .null, .null, .null, .null, .null, .int 0, .int 0])), (q_1, .inl (cI, 40, .inl (fun _ => 0)))] H := hP
  have hD : va_D A [(h0, .inr (0, [.null, .null, .null, .null, .null, .null, .int 0, .int 0])), (q_1, .inl (cI, 40, .inl (fun _ => 0)))] := hD
  refine W.widen (k := 1) (n := 40) (Nat.le_of_ble_eq_true rfl) (Nat.le_of_ble_eq_true rfl) ?_
  refine va_putF (D := D) (ci := 0) (v := .ref q_1) (ty := .array .int) (C := RX0) (T := TX0) (N := 8) hx hb hts iw_X0_init_0 tyX0 tyX0_ok nmX0 hown hK hP hD hS 0 rfl rfl 0 (by decide) (hts (.fieldLink RX0 9 "PourPlan$Curing" "warmth" "[I") (by decide +kernel)) (fun _ h9 => h9) rfl hin rfl (by decide +kernel) rfl rfl (Nat.le_of_ble_eq_true rfl) dX0_init_9 (fun H locs hP hD hS => ?_)
  have hP : va_P D vwCl [(h0, .inr (0, [.ref q_1, .null, .null, .null, .null, .null, .int 0, .int 0])), (q_1, .inl (cI, 40, .inl (fun _ => 0)))] H := hP
  have hD : va_D A [(h0, .inr (0, [.ref q_1, .null, .null, .null, .null, .null, .int 0, .int 0])), (q_1, .inl (cI, 40, .inl (fun _ => 0)))] := hD
  refine lv_aload_n hx hb dX0_init_12 rfl (lv_at hl 0 rfl) ?_
  refine lv_iconst (v := 2) hx hb dX0_init_13 (by decide) ?_
  refine va_newa (a0 := (2, .inl (fun _ => 0))) (N' := 2) hx hb (hts (.arrayClass .int) (by decide +kernel)) rfl hK hP hD hS hA (fun _ => rfl) (by decide) (by decide) (by decide) (Nat.le_of_ble_eq_true rfl) (Nat.le_of_ble_eq_true rfl) dX0_init_14 (fun q_2 cA H hK hP hD hS => ?_)
  have ecA := cA_is (t0 := 0) (t1 := 1) hK rfl rfl
  subst ecA
  have hK := hK.sub (tys' := [(cI, .int)]) [0] rfl
  have hP : va_P D vwCl [(h0, .inr (0, [.ref q_1, .null, .null, .null, .null, .null, .int 0, .int 0])), (q_1, .inl (cI, 40, .inl (fun _ => 0))), (q_2, .inl (cI, 2, .inl (fun _ => 0)))] H := hP
  have hD : va_D A [(h0, .inr (0, [.ref q_1, .null, .null, .null, .null, .null, .int 0, .int 0])), (q_1, .inl (cI, 40, .inl (fun _ => 0))), (q_2, .inl (cI, 2, .inl (fun _ => 0)))] := hD
  refine W.widen (k := 2) (n := 42) (Nat.le_of_ble_eq_true rfl) (Nat.le_of_ble_eq_true rfl) ?_
  refine lv_dup hx hb dX0_init_16 rfl ?_
  refine lv_iconst (v := 0) hx hb dX0_init_17 (by decide) ?_
  refine lv_sipush (v := 500) hx hb dX0_init_18 (by decide) ?_
  refine va_iast hx hb hK hP hD hS 2 0 rfl rfl (by unfold vp_in; decide) dX0_init_21 (fun H locs hP hD hS => ?_)
  have hP : va_P D vwCl [(h0, .inr (0, [.ref q_1, .null, .null, .null, .null, .null, .int 0, .int 0])), (q_1, .inl (cI, 40, .inl (fun _ => 0))), (q_2, .inl (cI, 2, .inl (upd (fun _ => 0) 0 500)))] H := hP
  have hD : va_D A [(h0, .inr (0, [.ref q_1, .null, .null, .null, .null, .null, .int 0, .int 0])), (q_1, .inl (cI, 40, .inl (fun _ => 0))), (q_2, .inl (cI, 2, .inl (upd (fun _ => 0) 0 500)))] := hD
  refine lv_dup hx hb dX0_init_22 rfl ?_
  refine lv_iconst (v := 1) hx hb dX0_init_23 (by decide) ?_
  refine lv_sipush (v := 300) hx hb dX0_init_24 (by decide) ?_
  refine va_iast hx hb hK hP hD hS 2 0 rfl rfl (by unfold vp_in; decide) dX0_init_27 (fun H locs hP hD hS => ?_)
  have hP : va_P D vwCl [(h0, .inr (0, [.ref q_1, .null, .null, .null, .null, .null, .int 0, .int 0])), (q_1, .inl (cI, 40, .inl (fun _ => 0))), (q_2, .inl (cI, 2, .inl (upd (upd (fun _ => 0) 0 500) 1 300)))] H := hP
  have hD : va_D A [(h0, .inr (0, [.ref q_1, .null, .null, .null, .null, .null, .int 0, .int 0])), (q_1, .inl (cI, 40, .inl (fun _ => 0))), (q_2, .inl (cI, 2, .inl (upd (upd (fun _ => 0) 0 500) 1 300)))] := hD
  refine va_putF (D := D) (ci := 0) (v := .ref q_2) (ty := .array .int) (C := RX0) (T := TX0) (N := 8) hx hb hts iw_X0_init_0 tyX0 tyX0_ok nmX0 hown hK hP hD hS 0 rfl rfl 1 (by decide) (hts (.fieldLink RX0 15 "PourPlan$Curing" "levels" "[I") (by decide +kernel)) (fun _ h9 => h9) rfl hin rfl (by decide +kernel) rfl rfl (Nat.le_of_ble_eq_true rfl) dX0_init_28 (fun H locs hP hD hS => ?_)
  have hP : va_P D vwCl [(h0, .inr (0, [.ref q_1, .ref q_2, .null, .null, .null, .null, .int 0, .int 0])), (q_1, .inl (cI, 40, .inl (fun _ => 0))), (q_2, .inl (cI, 2, .inl (upd (upd (fun _ => 0) 0 500) 1 300)))] H := hP
  have hD : va_D A [(h0, .inr (0, [.ref q_1, .ref q_2, .null, .null, .null, .null, .int 0, .int 0])), (q_1, .inl (cI, 40, .inl (fun _ => 0))), (q_2, .inl (cI, 2, .inl (upd (upd (fun _ => 0) 0 500) 1 300)))] := hD
  refine lv_aload_n hx hb dX0_init_31 rfl (lv_at hl 0 rfl) ?_
  refine lv_bipush (v := 6) hx hb dX0_init_32 (by decide) ?_
  refine va_newa (a0 := (6, .inl (fun _ => 0))) (N' := 6) hx hb (hts (.arrayClass .int) (by decide +kernel)) rfl hK hP hD hS hA (fun _ => rfl) (by decide) (by decide) (by decide) (Nat.le_of_ble_eq_true rfl) (Nat.le_of_ble_eq_true rfl) dX0_init_34 (fun q_3 cA H hK hP hD hS => ?_)
  have ecA := cA_is (t0 := 0) (t1 := 1) hK rfl rfl
  subst ecA
  have hK := hK.sub (tys' := [(cI, .int)]) [0] rfl
  have hP : va_P D vwCl [(h0, .inr (0, [.ref q_1, .ref q_2, .null, .null, .null, .null, .int 0, .int 0])), (q_1, .inl (cI, 40, .inl (fun _ => 0))), (q_2, .inl (cI, 2, .inl (upd (upd (fun _ => 0) 0 500) 1 300))), (q_3, .inl (cI, 6, .inl (fun _ => 0)))] H := hP
  have hD : va_D A [(h0, .inr (0, [.ref q_1, .ref q_2, .null, .null, .null, .null, .int 0, .int 0])), (q_1, .inl (cI, 40, .inl (fun _ => 0))), (q_2, .inl (cI, 2, .inl (upd (upd (fun _ => 0) 0 500) 1 300))), (q_3, .inl (cI, 6, .inl (fun _ => 0)))] := hD
  refine W.widen (k := 3) (n := 48) (Nat.le_of_ble_eq_true rfl) (Nat.le_of_ble_eq_true rfl) ?_
  refine va_putF (D := D) (ci := 0) (v := .ref q_3) (ty := .array .int) (C := RX0) (T := TX0) (N := 8) hx hb hts iw_X0_init_0 tyX0 tyX0_ok nmX0 hown hK hP hD hS 0 rfl rfl 2 (by decide) (hts (.fieldLink RX0 18 "PourPlan$Curing" "pointDegrees" "[I") (by decide +kernel)) (fun _ h9 => h9) rfl hin rfl (by decide +kernel) rfl rfl (Nat.le_of_ble_eq_true rfl) dX0_init_36 (fun H locs hP hD hS => ?_)
  have hP : va_P D vwCl [(h0, .inr (0, [.ref q_1, .ref q_2, .ref q_3, .null, .null, .null, .int 0, .int 0])), (q_1, .inl (cI, 40, .inl (fun _ => 0))), (q_2, .inl (cI, 2, .inl (upd (upd (fun _ => 0) 0 500) 1 300))), (q_3, .inl (cI, 6, .inl (fun _ => 0)))] H := hP
  have hD : va_D A [(h0, .inr (0, [.ref q_1, .ref q_2, .ref q_3, .null, .null, .null, .int 0, .int 0])), (q_1, .inl (cI, 40, .inl (fun _ => 0))), (q_2, .inl (cI, 2, .inl (upd (upd (fun _ => 0) 0 500) 1 300))), (q_3, .inl (cI, 6, .inl (fun _ => 0)))] := hD
  refine lv_aload_n hx hb dX0_init_39 rfl (lv_at hl 0 rfl) ?_
  refine lv_bipush (v := 6) hx hb dX0_init_40 (by decide) ?_
  refine va_newa (a0 := (6, .inl (fun _ => 0))) (N' := 6) hx hb (hts (.arrayClass .int) (by decide +kernel)) rfl hK hP hD hS hA (fun _ => rfl) (by decide) (by decide) (by decide) (Nat.le_of_ble_eq_true rfl) (Nat.le_of_ble_eq_true rfl) dX0_init_42 (fun q_4 cA H hK hP hD hS => ?_)
  have ecA := cA_is (t0 := 0) (t1 := 1) hK rfl rfl
  subst ecA
  have hK := hK.sub (tys' := [(cI, .int)]) [0] rfl
  have hP : va_P D vwCl [(h0, .inr (0, [.ref q_1, .ref q_2, .ref q_3, .null, .null, .null, .int 0, .int 0])), (q_1, .inl (cI, 40, .inl (fun _ => 0))), (q_2, .inl (cI, 2, .inl (upd (upd (fun _ => 0) 0 500) 1 300))), (q_3, .inl (cI, 6, .inl (fun _ => 0))), (q_4, .inl (cI, 6, .inl (fun _ => 0)))] H := hP
  have hD : va_D A [(h0, .inr (0, [.ref q_1, .ref q_2, .ref q_3, .null, .null, .null, .int 0, .int 0])), (q_1, .inl (cI, 40, .inl (fun _ => 0))), (q_2, .inl (cI, 2, .inl (upd (upd (fun _ => 0) 0 500) 1 300))), (q_3, .inl (cI, 6, .inl (fun _ => 0))), (q_4, .inl (cI, 6, .inl (fun _ => 0)))] := hD
  refine W.widen (k := 4) (n := 54) (Nat.le_of_ble_eq_true rfl) (Nat.le_of_ble_eq_true rfl) ?_
  refine va_putF (D := D) (ci := 0) (v := .ref q_4) (ty := .array .int) (C := RX0) (T := TX0) (N := 8) hx hb hts iw_X0_init_0 tyX0 tyX0_ok nmX0 hown hK hP hD hS 0 rfl rfl 3 (by decide) (hts (.fieldLink RX0 21 "PourPlan$Curing" "pointHardness" "[I") (by decide +kernel)) (fun _ h9 => h9) rfl hin rfl (by decide +kernel) rfl rfl (Nat.le_of_ble_eq_true rfl) dX0_init_44 (fun H locs hP hD hS => ?_)
  have hP : va_P D vwCl [(h0, .inr (0, [.ref q_1, .ref q_2, .ref q_3, .ref q_4, .null, .null, .int 0, .int 0])), (q_1, .inl (cI, 40, .inl (fun _ => 0))), (q_2, .inl (cI, 2, .inl (upd (upd (fun _ => 0) 0 500) 1 300))), (q_3, .inl (cI, 6, .inl (fun _ => 0))), (q_4, .inl (cI, 6, .inl (fun _ => 0)))] H := hP
  have hD : va_D A [(h0, .inr (0, [.ref q_1, .ref q_2, .ref q_3, .ref q_4, .null, .null, .int 0, .int 0])), (q_1, .inl (cI, 40, .inl (fun _ => 0))), (q_2, .inl (cI, 2, .inl (upd (upd (fun _ => 0) 0 500) 1 300))), (q_3, .inl (cI, 6, .inl (fun _ => 0))), (q_4, .inl (cI, 6, .inl (fun _ => 0)))] := hD
  refine lv_aload_n hx hb dX0_init_47 rfl (lv_at hl 0 rfl) ?_
  refine lv_bipush (v := 40) hx hb dX0_init_48 (by decide) ?_
  refine va_newa (a0 := (40, .inl (fun _ => 0))) (N' := 40) hx hb (hts (.arrayClass .int) (by decide +kernel)) rfl hK hP hD hS hA (fun _ => rfl) (by decide) (by decide) (by decide) (Nat.le_of_ble_eq_true rfl) (Nat.le_of_ble_eq_true rfl) dX0_init_50 (fun q_5 cA H hK hP hD hS => ?_)
  have ecA := cA_is (t0 := 0) (t1 := 1) hK rfl rfl
  subst ecA
  have hK := hK.sub (tys' := [(cI, .int)]) [0] rfl
  have hP : va_P D vwCl [(h0, .inr (0, [.ref q_1, .ref q_2, .ref q_3, .ref q_4, .null, .null, .int 0, .int 0])), (q_1, .inl (cI, 40, .inl (fun _ => 0))), (q_2, .inl (cI, 2, .inl (upd (upd (fun _ => 0) 0 500) 1 300))), (q_3, .inl (cI, 6, .inl (fun _ => 0))), (q_4, .inl (cI, 6, .inl (fun _ => 0))), (q_5, .inl (cI, 40, .inl (fun _ => 0)))] H := hP
  have hD : va_D A [(h0, .inr (0, [.ref q_1, .ref q_2, .ref q_3, .ref q_4, .null, .null, .int 0, .int 0])), (q_1, .inl (cI, 40, .inl (fun _ => 0))), (q_2, .inl (cI, 2, .inl (upd (upd (fun _ => 0) 0 500) 1 300))), (q_3, .inl (cI, 6, .inl (fun _ => 0))), (q_4, .inl (cI, 6, .inl (fun _ => 0))), (q_5, .inl (cI, 40, .inl (fun _ => 0)))] := hD
  refine W.widen (k := 5) (n := 94) (Nat.le_of_ble_eq_true rfl) (Nat.le_of_ble_eq_true rfl) ?_
  refine va_putF (D := D) (ci := 0) (v := .ref q_5) (ty := .array .int) (C := RX0) (T := TX0) (N := 8) hx hb hts iw_X0_init_0 tyX0 tyX0_ok nmX0 hown hK hP hD hS 0 rfl rfl 4 (by decide) (hts (.fieldLink RX0 24 "PourPlan$Curing" "degreesAhead" "[I") (by decide +kernel)) (fun _ h9 => h9) rfl hin rfl (by decide +kernel) rfl rfl (Nat.le_of_ble_eq_true rfl) dX0_init_52 (fun H locs hP hD hS => ?_)
  have hP : va_P D vwCl [(h0, .inr (0, [.ref q_1, .ref q_2, .ref q_3, .ref q_4, .ref q_5, .null, .int 0, .int 0])), (q_1, .inl (cI, 40, .inl (fun _ => 0))), (q_2, .inl (cI, 2, .inl (upd (upd (fun _ => 0) 0 500) 1 300))), (q_3, .inl (cI, 6, .inl (fun _ => 0))), (q_4, .inl (cI, 6, .inl (fun _ => 0))), (q_5, .inl (cI, 40, .inl (fun _ => 0)))] H := hP
  have hD : va_D A [(h0, .inr (0, [.ref q_1, .ref q_2, .ref q_3, .ref q_4, .ref q_5, .null, .int 0, .int 0])), (q_1, .inl (cI, 40, .inl (fun _ => 0))), (q_2, .inl (cI, 2, .inl (upd (upd (fun _ => 0) 0 500) 1 300))), (q_3, .inl (cI, 6, .inl (fun _ => 0))), (q_4, .inl (cI, 6, .inl (fun _ => 0))), (q_5, .inl (cI, 40, .inl (fun _ => 0)))] := hD
  refine lv_aload_n hx hb dX0_init_55 rfl (lv_at hl 0 rfl) ?_
  refine lv_bipush (v := 40) hx hb dX0_init_56 (by decide) ?_
  refine va_newa (a0 := (40, .inl (fun _ => 0))) (N' := 40) hx hb (hts (.arrayClass .int) (by decide +kernel)) rfl hK hP hD hS hA (fun _ => rfl) (by decide) (by decide) (by decide) (Nat.le_of_ble_eq_true rfl) (Nat.le_of_ble_eq_true rfl) dX0_init_58 (fun q_6 cA H hK hP hD hS => ?_)
  have ecA := cA_is (t0 := 0) (t1 := 1) hK rfl rfl
  subst ecA
  have hK := hK.sub (tys' := [(cI, .int)]) [0] rfl
  have hP : va_P D vwCl [(h0, .inr (0, [.ref q_1, .ref q_2, .ref q_3, .ref q_4, .ref q_5, .null, .int 0, .int 0])), (q_1, .inl (cI, 40, .inl (fun _ => 0))), (q_2, .inl (cI, 2, .inl (upd (upd (fun _ => 0) 0 500) 1 300))), (q_3, .inl (cI, 6, .inl (fun _ => 0))), (q_4, .inl (cI, 6, .inl (fun _ => 0))), (q_5, .inl (cI, 40, .inl (fun _ => 0))), (q_6, .inl (cI, 40, .inl (fun _ => 0)))] H := hP
  have hD : va_D A [(h0, .inr (0, [.ref q_1, .ref q_2, .ref q_3, .ref q_4, .ref q_5, .null, .int 0, .int 0])), (q_1, .inl (cI, 40, .inl (fun _ => 0))), (q_2, .inl (cI, 2, .inl (upd (upd (fun _ => 0) 0 500) 1 300))), (q_3, .inl (cI, 6, .inl (fun _ => 0))), (q_4, .inl (cI, 6, .inl (fun _ => 0))), (q_5, .inl (cI, 40, .inl (fun _ => 0))), (q_6, .inl (cI, 40, .inl (fun _ => 0)))] := hD
  refine W.widen (k := 6) (n := 134) (Nat.le_of_ble_eq_true rfl) (Nat.le_of_ble_eq_true rfl) ?_
  refine va_putF (D := D) (ci := 0) (v := .ref q_6) (ty := .array .int) (C := RX0) (T := TX0) (N := 8) hx hb hts iw_X0_init_0 tyX0 tyX0_ok nmX0 hown hK hP hD hS 0 rfl rfl 5 (by decide) (hts (.fieldLink RX0 27 "PourPlan$Curing" "stripDays" "[I") (by decide +kernel)) (fun _ h9 => h9) rfl hin rfl (by decide +kernel) rfl rfl (Nat.le_of_ble_eq_true rfl) dX0_init_60 (fun H locs hP hD hS => ?_)
  have hP : va_P D vwCl [(h0, .inr (0, [.ref q_1, .ref q_2, .ref q_3, .ref q_4, .ref q_5, .ref q_6, .int 0, .int 0])), (q_1, .inl (cI, 40, .inl (fun _ => 0))), (q_2, .inl (cI, 2, .inl (upd (upd (fun _ => 0) 0 500) 1 300))), (q_3, .inl (cI, 6, .inl (fun _ => 0))), (q_4, .inl (cI, 6, .inl (fun _ => 0))), (q_5, .inl (cI, 40, .inl (fun _ => 0))), (q_6, .inl (cI, 40, .inl (fun _ => 0)))] H := hP
  have hD : va_D A [(h0, .inr (0, [.ref q_1, .ref q_2, .ref q_3, .ref q_4, .ref q_5, .ref q_6, .int 0, .int 0])), (q_1, .inl (cI, 40, .inl (fun _ => 0))), (q_2, .inl (cI, 2, .inl (upd (upd (fun _ => 0) 0 500) 1 300))), (q_3, .inl (cI, 6, .inl (fun _ => 0))), (q_4, .inl (cI, 6, .inl (fun _ => 0))), (q_5, .inl (cI, 40, .inl (fun _ => 0))), (q_6, .inl (cI, 40, .inl (fun _ => 0)))] := hD
  refine lv_aload_n hx hb dX0_init_63 rfl (lv_at hl 0 rfl) ?_
  refine lv_iconst (v := 0) hx hb dX0_init_64 (by decide) ?_
  refine va_put (D := D) (ci := 0) (v := .int 0) (ty := .int) (C := RX0) (T := TX0) (N := 8) hx hb hts iw_X0_init_0 tyX0 tyX0_ok nmX0 hown hK hP hD hS 0 rfl rfl 6 (by decide) (hts (.fieldLink RX0 30 "PourPlan$Curing" "baseWarmth" "I") (by decide +kernel)) (fun _ h9 => h9) rfl (by decide +kernel) rfl rfl (Nat.le_of_ble_eq_true rfl) dX0_init_65 (fun H locs hP hD hS => ?_)
  have hP : va_P D vwCl [(h0, .inr (0, [.ref q_1, .ref q_2, .ref q_3, .ref q_4, .ref q_5, .ref q_6, .int 0, .int 0])), (q_1, .inl (cI, 40, .inl (fun _ => 0))), (q_2, .inl (cI, 2, .inl (upd (upd (fun _ => 0) 0 500) 1 300))), (q_3, .inl (cI, 6, .inl (fun _ => 0))), (q_4, .inl (cI, 6, .inl (fun _ => 0))), (q_5, .inl (cI, 40, .inl (fun _ => 0))), (q_6, .inl (cI, 40, .inl (fun _ => 0)))] H := hP
  have hD : va_D A [(h0, .inr (0, [.ref q_1, .ref q_2, .ref q_3, .ref q_4, .ref q_5, .ref q_6, .int 0, .int 0])), (q_1, .inl (cI, 40, .inl (fun _ => 0))), (q_2, .inl (cI, 2, .inl (upd (upd (fun _ => 0) 0 500) 1 300))), (q_3, .inl (cI, 6, .inl (fun _ => 0))), (q_4, .inl (cI, 6, .inl (fun _ => 0))), (q_5, .inl (cI, 40, .inl (fun _ => 0))), (q_6, .inl (cI, 40, .inl (fun _ => 0)))] := hD
  refine lv_aload_n hx hb dX0_init_68 rfl (lv_at hl 0 rfl) ?_
  refine lv_iconst (v := 0) hx hb dX0_init_69 (by decide) ?_
  refine va_put (D := D) (ci := 0) (v := .int 0) (ty := .int) (C := RX0) (T := TX0) (N := 8) hx hb hts iw_X0_init_0 tyX0 tyX0_ok nmX0 hown hK hP hD hS 0 rfl rfl 7 (by decide) (hts (.fieldLink RX0 34 "PourPlan$Curing" "points" "I") (by decide +kernel)) (fun _ h9 => h9) rfl (by decide +kernel) rfl rfl (Nat.le_of_ble_eq_true rfl) dX0_init_70 (fun H locs hP hD hS => ?_)
  have hP : va_P D vwCl [(h0, .inr (0, [.ref q_1, .ref q_2, .ref q_3, .ref q_4, .ref q_5, .ref q_6, .int 0, .int 0])), (q_1, .inl (cI, 40, .inl (fun _ => 0))), (q_2, .inl (cI, 2, .inl (upd (upd (fun _ => 0) 0 500) 1 300))), (q_3, .inl (cI, 6, .inl (fun _ => 0))), (q_4, .inl (cI, 6, .inl (fun _ => 0))), (q_5, .inl (cI, 40, .inl (fun _ => 0))), (q_6, .inl (cI, 40, .inl (fun _ => 0)))] H := hP
  have hD : va_D A [(h0, .inr (0, [.ref q_1, .ref q_2, .ref q_3, .ref q_4, .ref q_5, .ref q_6, .int 0, .int 0])), (q_1, .inl (cI, 40, .inl (fun _ => 0))), (q_2, .inl (cI, 2, .inl (upd (upd (fun _ => 0) 0 500) 1 300))), (q_3, .inl (cI, 6, .inl (fun _ => 0))), (q_4, .inl (cI, 6, .inl (fun _ => 0))), (q_5, .inl (cI, 40, .inl (fun _ => 0))), (q_6, .inl (cI, 40, .inl (fun _ => 0)))] := hD
  refine lv_iconst (v := 0) hx hb dX0_init_73 (by decide) ?_
  refine lv_istore_n (lv' := [(1, .int 0), (0, .ref h0)]) hx hb dX0_init_74 rfl hl (by decide) rfl (fun ls hl => ?_)
  have lp_75 : ∀ (n : Nat) (i : Nat) (k : Int32) (gw : Nat → Int32) (H : Heap) (locs : List Loc) (ls : Array Slot), 40 - i < n → k = nI i → i ≤ 40 → ∀ j, j < i → gw j = 20 → va_P D vwCl [(h0, .inr (0, [.ref q_1, .ref q_2, .ref q_3, .ref q_4, .ref q_5, .ref q_6, .int 0, .int 0])), (q_1, .inl (cI, 40, .inl gw)), (q_2, .inl (cI, 2, .inl (upd (upd (fun _ => 0) 0 500) 1 300))), (q_3, .inl (cI, 6, .inl (fun _ => 0))), (q_4, .inl (cI, 6, .inl (fun _ => 0))), (q_5, .inl (cI, 40, .inl (fun _ => 0))), (q_6, .inl (cI, 40, .inl (fun _ => 0)))] H → va_D A [(h0, .inr (0, [.ref q_1, .ref q_2, .ref q_3, .ref q_4, .ref q_5, .ref q_6, .int 0, .int 0])), (q_1, .inl (cI, 40, .inl gw)), (q_2, .inl (cI, 2, .inl (upd (upd (fun _ => 0) 0 500) 1 300))), (q_3, .inl (cI, 6, .inl (fun _ => 0))), (q_4, .inl (cI, 6, .inl (fun _ => 0))), (q_5, .inl (cI, 40, .inl (fun _ => 0))), (q_6, .inl (cI, 40, .inl (fun _ => 0)))] → va_S A s.heap H locs → lv_has ls 2 [(0, .ref h0), (1, .int k)] → GW H locs 6 134 (F0 m 75 ls []) := by
    intro n_75
    induction n_75 with
    | zero => intro i k gw H locs ls hn_75; exact absurd hn_75 (Nat.not_lt_zero _)
    | succ n_75 ih_75 =>
      intro i k gw H locs ls hn_75 ek hi hw hP hD hS hl
      refine hIn _ _ _ _ _ ?_
      refine lv_iload_n hx hb dX0_init_75 rfl (lv_at hl 1 rfl) ?_
      refine lv_bipush (v := 40) hx hb dX0_init_76 (by decide) ?_
      refine lv_icmp_ge (tgt := 95) hx hb dX0_init_78 (by decide) (fun c_7 => ?_) (fun c_7 => ?_)
      · refine lv_aload_n hx hb dX0_init_95 rfl (lv_at hl 0 rfl) ?_
        refine cc_v (wc := [(h0, .inr (0, [.ref q_1, .ref q_2, .ref q_3, .ref q_4, .ref q_5, .ref q_6, .int 0, .int 0])), (q_1, .inl (cI, 40, .inl gw)), (q_2, .inl (cI, 2, .inl (upd (upd (fun _ => 0) 0 500) 1 300))), (q_3, .inl (cI, 6, .inl (fun _ => 0))), (q_4, .inl (cI, 6, .inl (fun _ => 0))), (q_5, .inl (cI, 40, .inl (fun _ => 0))), (q_6, .inl (cI, 40, .inl (fun _ => 0)))]) (wr := []) (va_runV (As := []) (rest := []) ⟨hx, hb, hml, hown, hts⟩ (c_X0_renew l D cI H.size h0 q_1 q_2 q_3 q_4 q_5 q_6 0 0 gw (upd (upd (fun _ => 0) 0 500) 1 300) (fun _ => 0) (fun _ => 0) (fun _ => 0) (fun _ => 0) ) (cwV 0 hts gX0_init_X0_renew rfl rfl rfl (by decide +kernel) ⟨Nat.le_of_ble_eq_true rfl, Nat.le_of_ble_eq_true rfl⟩) (preV (wc := [(h0, .inr (0, [.ref q_1, .ref q_2, .ref q_3, .ref q_4, .ref q_5, .ref q_6, .int 0, .int 0])), (q_1, .inl (cI, 40, .inl gw)), (q_2, .inl (cI, 2, .inl (upd (upd (fun _ => 0) 0 500) 1 300))), (q_3, .inl (cI, 6, .inl (fun _ => 0))), (q_4, .inl (cI, 6, .inl (fun _ => 0))), (q_5, .inl (cI, 40, .inl (fun _ => 0))), (q_6, .inl (cI, 40, .inl (fun _ => 0)))]) (ci := 0) (q0 := 0) hK hP hD hN [0, 1, 2, 3, 4, 5, 6] rfl (by decide) rfl rfl) rfl rfl hl.1 rfl (lv_room (Nat.le_of_ble_eq_true rfl)) dX0_init_96 ⟨Nat.le_of_ble_eq_true rfl, Nat.le_of_ble_eq_true rfl⟩) hP hD hS hA [0, 1, 2, 3, 4, 5, 6] [] rfl rfl (by decide) (by decide) (fun u H locs w_9 hP hD hS => ?_)
        obtain ⟨fg2_10, fs2_11⟩ := u
        have hP : va_P D vwCl [(h0, .inr (0, [.ref q_1, .ref q_2, .ref q_3, .ref q_4, .ref q_5, .ref q_6, .int 0, .int 0])), (q_1, .inl (cI, 40, .inl gw)), (q_2, .inl (cI, 2, .inl (upd (upd (fun _ => 0) 0 500) 1 300))), (q_3, .inl (cI, 6, .inl (fun _ => 0))), (q_4, .inl (cI, 6, .inl (fun _ => 0))), (q_5, .inl (cI, 40, .inl fg2_10)), (q_6, .inl (cI, 40, .inl fs2_11))] H := hP
        have hD : va_D A [(h0, .inr (0, [.ref q_1, .ref q_2, .ref q_3, .ref q_4, .ref q_5, .ref q_6, .int 0, .int 0])), (q_1, .inl (cI, 40, .inl gw)), (q_2, .inl (cI, 2, .inl (upd (upd (fun _ => 0) 0 500) 1 300))), (q_3, .inl (cI, 6, .inl (fun _ => 0))), (q_4, .inl (cI, 6, .inl (fun _ => 0))), (q_5, .inl (cI, 40, .inl fg2_10)), (q_6, .inl (cI, 40, .inl fs2_11))] := hD
        refine W.widen (k := 6) (n := 134) (Nat.le_of_ble_eq_true rfl) (Nat.le_of_ble_eq_true rfl) ?_
        exact fi_v (q_1, q_2, q_3, q_4, q_5, q_6, gw, upd (upd (fun _ => 0) 0 500) 1 300, fun _ => 0, fun _ => 0, fg2_10, fs2_11) hx hb hr hlocks hK (hP.sub [0, 1, 2, 3, 4, 5, 6] rfl) (hD.sub [0, 1, 2, 3, 4, 5, 6] (by decide) rfl) hS ⟨(pf_X0_init_1 n_75 i k gw hn_75 ek hi hw c_7), (pf_X0_init_2 n_75 i k gw hn_75 ek hi hw c_7), (pf_X0_init_3 n_75 i k gw hn_75 ek hi hw c_7)⟩ dX0_init_99
      · refine lv_aload_n hx hb dX0_init_81 rfl (lv_at hl 0 rfl) ?_
        refine va_get (D := D) (ci := 0) (v := .ref q_1) (C := RX0) (T := TX0) (N := 8) hx hb hts iw_X0_init_0 hown hK hP 0 rfl rfl 0 (by decide) (hts (.fieldLink RX0 9 "PourPlan$Curing" "warmth" "[I") (by decide +kernel)) (fun _ h9 => h9) rfl dX0_init_82 ?_
        refine lv_iload_n hx hb dX0_init_85 rfl (lv_at hl 1 rfl) ?_
        refine lv_bipush (v := 20) hx hb dX0_init_86 (by decide) ?_
        refine va_iast hx hb hK hP hD hS 1 0 rfl rfl (pf_X0_init_4 n_75 i k gw hn_75 ek hi hw c_7) dX0_init_88 (fun H locs hP hD hS => ?_)
        have hP : va_P D vwCl [(h0, .inr (0, [.ref q_1, .ref q_2, .ref q_3, .ref q_4, .ref q_5, .ref q_6, .int 0, .int 0])), (q_1, .inl (cI, 40, .inl (upd gw k.toNatClampNeg 20))), (q_2, .inl (cI, 2, .inl (upd (upd (fun _ => 0) 0 500) 1 300))), (q_3, .inl (cI, 6, .inl (fun _ => 0))), (q_4, .inl (cI, 6, .inl (fun _ => 0))), (q_5, .inl (cI, 40, .inl (fun _ => 0))), (q_6, .inl (cI, 40, .inl (fun _ => 0)))] H := hP
        have hD : va_D A [(h0, .inr (0, [.ref q_1, .ref q_2, .ref q_3, .ref q_4, .ref q_5, .ref q_6, .int 0, .int 0])), (q_1, .inl (cI, 40, .inl (upd gw k.toNatClampNeg 20))), (q_2, .inl (cI, 2, .inl (upd (upd (fun _ => 0) 0 500) 1 300))), (q_3, .inl (cI, 6, .inl (fun _ => 0))), (q_4, .inl (cI, 6, .inl (fun _ => 0))), (q_5, .inl (cI, 40, .inl (fun _ => 0))), (q_6, .inl (cI, 40, .inl (fun _ => 0)))] := hD
        obtain ⟨v_12, ev_12⟩ : ∃ y : Int32, y = k + 1 := ⟨_, rfl⟩
        refine lv_iinc (v := v_12) (lv' := [(1, .int v_12), (0, .ref h0)]) hx hb dX0_init_89 hl (k := 1) rfl (by rw [ev_12]; rfl) (by decide) rfl (fun ls hl => ?_)
        refine lv_goto (tgt := 75) hx hb dX0_init_92 (by decide) ?_
        exact hOut _ _ _ _ _ (ih_75 (i + 1) v_12 (upd gw k.toNatClampNeg 20) _ _ _ (pf_X0_init_5 n_75 i k gw v_12 hn_75 ek hi hw c_7 ev_12) (pf_X0_init_6 n_75 i k gw v_12 hn_75 ek hi hw c_7 ev_12) (pf_X0_init_7 n_75 i k gw v_12 hn_75 ek hi hw c_7 ev_12) (pf_X0_init_8 n_75 i k gw v_12 hn_75 ek hi hw c_7 ev_12) (hP.sub [0, 1, 2, 3, 4, 5, 6] rfl) (hD.sub [0, 1, 2, 3, 4, 5, 6] (by decide) rfl) hS (lv_sub hl [1, 0] rfl))
  exact hOut _ _ _ _ _ (lp_75 (40 - 0 + 1) 0 0 (fun _ => 0) _ _ _ (Nat.lt_succ_self _) (pf_X0_init_9) (pf_X0_init_10) (pf_X0_init_11) (hP.sub [0, 1, 2, 3, 4, 5, 6] rfl) (hD.sub [0, 1, 2, 3, 4, 5, 6] (by decide) rfl) hS (lv_sub hl [1, 0] rfl))

theorem iw_X0_goesOnWith_0 : ∀ w ∈ wsX00, w ∈ wsX0_goesOnWith := by decide +kernel
set_option maxHeartbeats 1000000 in
theorem pf_X0_goesOnWith_1 (pts : Int32) (v_1 : Int32) (hp : pts = 0) (ev_1 : v_1 = pts - 1) (c_2 : ¬ v_1 < 0) : False := by
  grind
set_option maxHeartbeats 1000000 in
theorem pf_X0_goesOnWith_2 (pts : Int32) (v_1 : Int32) (hp : pts = 0) (ev_1 : v_1 = pts - 1) (c_2 : v_1 < 0) : 1 = 1 := by
  grind
set_option maxHeartbeats 4000000 in
set_option maxRecDepth 100000 in
theorem c_X0_goesOnWith (l : Launch) (D : va_G) (cI : ClassId) (sz : Nat) (h0 : Nat) (a2 : Nat) (a3 : Nat) (a0 : Nat) (a1 : Nat) (a4 : Nat) (a5 : Nat) (bw : Int32) (pts : Int32) (fd : Nat → Int32) (fh : Nat → Int32) (d : Int32) (t : Int32) (hp : pts = 0) : CtI l yX0_goesOnWith wsX0_goesOnWith 0 0 0 0 [.ref h0, .int d, .int t] D [(cI, .int)] [(h0, .inr (0, [.ref a0, .ref a1, .ref a2, .ref a3, .ref a4, .ref a5, .int bw, .int pts])), (a2, .inl (cI, 6, .inl fd)), (a3, .inl (cI, 6, .inl fh))] sz (fun (r : Int32) (u : Unit) => r = 1) (fun (u : Unit) => [(h0, .inr (0, [.ref a0, .ref a1, .ref a2, .ref a3, .ref a4, .ref a5, .int bw, .int pts])), (a2, .inl (cI, 6, .inl fd)), (a3, .inl (cI, 6, .inl fh))]) := by
  refine Met.ofW (cc := cX0_goesOnWith) (maxL := 4) (ret := (some .boolean)) (by decide) rfl ?_
  intro p e s m args below meth c s₁ B hml hv
  obtain ⟨rfl, hsz, hP, hK, hD0, hN⟩ := hv
  have hx := B.exec
  have hb := B.bytes
  have hr := B.returns
  have hts := atoms_spec (ws := wsX0_goesOnWith) B.pre
  have hown : s.vm.findClass RX0 = some m.cls := findClass_of_methodNamed B.named
  have hlocks := B.notSynchronized
  subst hsz
  have hD := hD0.self (sz := s.heap.size)
  generalize hAe : va_A [(h0, .inr (0, [.ref a0, .ref a1, .ref a2, .ref a3, .ref a4, .ref a5, .int bw, .int pts])), (a2, .inl (cI, 6, .inl fd)), (a3, .inl (cI, 6, .inl fh))] s.heap.size = A at hD ⊢
  have hA : ∀ q : Nat, s.heap.size ≤ q → A q := fun q h => by rw [← hAe]; exact Or.inr h
  have hS : va_S A s.heap s.heap [] := va_S.rf
  have hl := lv_entry ([.ref h0, .int d, .int t]) (n := 4) (Nat.le_of_ble_eq_true rfl)
  rw [lg_entry_eq]
  generalize (lg_sl ([.ref h0, .int d, .int t]) ++ List.replicate (4 - (lg_sl ([.ref h0, .int d, .int t])).length) Slot.unset).toArray = ls at hl ⊢
  have hl : lv_has ls 4 [(0, .ref h0), (1, .int d), (2, .int t)] := hl
  have hP0 := hP
  refine lv_aload_n hx hb dX0_goesOnWith_0 rfl (lv_at hl 0 rfl) ?_
  refine va_get (D := D) (ci := 0) (v := .int pts) (C := RX0) (T := TX0) (N := 8) hx hb hts iw_X0_goesOnWith_0 hown hK hP 0 rfl rfl 7 (by decide) (hts (.fieldLink RX0 34 "PourPlan$Curing" "points" "I") (by decide +kernel)) (fun _ h9 => h9) rfl dX0_goesOnWith_1 ?_
  refine lv_iconst (v := 1) hx hb dX0_goesOnWith_4 (by decide) ?_
  refine lv_isub hx hb dX0_goesOnWith_5 ?_
  refine lv_topi (fun v_1 ev_1 => ?_)
  refine lv_istore_n (lv' := [(3, .int v_1), (0, .ref h0), (1, .int d), (2, .int t)]) hx hb dX0_goesOnWith_6 rfl hl (by decide) rfl (fun ls hl => ?_)
  refine lv_iload_n hx hb dX0_goesOnWith_7 rfl (lv_at hl 0 rfl) ?_
  refine lv_if_lt (tgt := 37) hx hb dX0_goesOnWith_8 (by decide) (fun c_2 => ?_) (fun c_2 => absurd (pf_X0_goesOnWith_1 pts v_1 hp ev_1 c_2) id)
  refine lv_iconst (v := 1) hx hb dX0_goesOnWith_37 (by decide) ?_
  refine lv_goto (tgt := 42) hx hb dX0_goesOnWith_38 (by decide) ?_
  refine W.widen (k := 0) (n := 0) (Nat.le_of_ble_eq_true rfl) (Nat.le_of_ble_eq_true rfl) ?_
  exact fi_z () hx hb hr rfl hlocks hK (hP.sub [0, 1, 2] rfl) (hD.sub [0, 1, 2] (by decide) rfl) hS (pf_X0_goesOnWith_2 pts v_1 hp ev_1 c_2) dX0_goesOnWith_42

theorem iw_X0_addPoint_0 : ∀ w ∈ wsX00, w ∈ wsX0_addPoint := by decide +kernel
set_option maxHeartbeats 1000000 in
theorem pf_X0_addPoint_1 (pts : Int32) (hp : 0 ≤ pts) (c_1 : 6 ≤ pts) : (pts < 6 → pts = pts + 1) := by
  grind
set_option maxHeartbeats 1000000 in
theorem pf_X0_addPoint_2 (pts : Int32) (hp : 0 ≤ pts) (c_1 : ¬ 6 ≤ pts) : vp_in pts 6 := by
  exact vi_in (M := 6) rfl (by grind) (by grind)
set_option maxHeartbeats 1000000 in
theorem pf_X0_addPoint_3 (pts : Int32) (hp : 0 ≤ pts) (c_1 : ¬ 6 ≤ pts) : vp_in pts 6 := by
  exact vi_in (M := 6) rfl (by grind) (by grind)
set_option maxHeartbeats 1000000 in
theorem pf_X0_addPoint_4 (pts : Int32) (v_2 : Int32) (hp : 0 ≤ pts) (c_1 : ¬ 6 ≤ pts) (ev_2 : v_2 = pts + 1) : (pts < 6 → v_2 = pts + 1) := by
  grind
set_option maxHeartbeats 4000000 in
set_option maxRecDepth 100000 in
theorem c_X0_addPoint (l : Launch) (D : va_G) (cI : ClassId) (sz : Nat) (h0 : Nat) (a2 : Nat) (a3 : Nat) (a0 : Nat) (a1 : Nat) (a4 : Nat) (a5 : Nat) (bw : Int32) (pts : Int32) (fd : Nat → Int32) (fh : Nat → Int32) (d : Int32) (t : Int32) (hp : 0 ≤ pts) : CtV l yX0_addPoint wsX0_addPoint 0 0 0 0 [.ref h0, .int d, .int t] D [(cI, .int)] [(h0, .inr (0, [.ref a0, .ref a1, .ref a2, .ref a3, .ref a4, .ref a5, .int bw, .int pts])), (a2, .inl (cI, 6, .inl fd)), (a3, .inl (cI, 6, .inl fh))] sz (fun (u : Int32 × (Nat → Int32) × (Nat → Int32)) => (pts < 6 → u.1 = pts + 1)) (fun (u : Int32 × (Nat → Int32) × (Nat → Int32)) => [(h0, .inr (0, [.ref a0, .ref a1, .ref a2, .ref a3, .ref a4, .ref a5, .int bw, .int u.1])), (a2, .inl (cI, 6, .inl u.2.1)), (a3, .inl (cI, 6, .inl u.2.2))]) := by
  refine Met.ofW (cc := cX0_addPoint) (maxL := 3) (ret := none) (by decide) rfl ?_
  intro p e s m args below meth c s₁ B hml hv
  obtain ⟨rfl, hsz, hP, hK, hD0, hN⟩ := hv
  have hx := B.exec
  have hb := B.bytes
  have hr := B.returns
  have hts := atoms_spec (ws := wsX0_addPoint) B.pre
  have hown : s.vm.findClass RX0 = some m.cls := findClass_of_methodNamed B.named
  have hlocks := B.notSynchronized
  subst hsz
  have hD := hD0.self (sz := s.heap.size)
  generalize hAe : va_A [(h0, .inr (0, [.ref a0, .ref a1, .ref a2, .ref a3, .ref a4, .ref a5, .int bw, .int pts])), (a2, .inl (cI, 6, .inl fd)), (a3, .inl (cI, 6, .inl fh))] s.heap.size = A at hD ⊢
  have hA : ∀ q : Nat, s.heap.size ≤ q → A q := fun q h => by rw [← hAe]; exact Or.inr h
  have hS : va_S A s.heap s.heap [] := va_S.rf
  have hl := lv_entry ([.ref h0, .int d, .int t]) (n := 3) (Nat.le_of_ble_eq_true rfl)
  rw [lg_entry_eq]
  generalize (lg_sl ([.ref h0, .int d, .int t]) ++ List.replicate (3 - (lg_sl ([.ref h0, .int d, .int t])).length) Slot.unset).toArray = ls at hl ⊢
  have hl : lv_has ls 3 [(0, .ref h0), (1, .int d), (2, .int t)] := hl
  have hP0 := hP
  refine lv_aload_n hx hb dX0_addPoint_0 rfl (lv_at hl 0 rfl) ?_
  refine va_get (D := D) (ci := 0) (v := .int pts) (C := RX0) (T := TX0) (N := 8) hx hb hts iw_X0_addPoint_0 hown hK hP 0 rfl rfl 7 (by decide) (hts (.fieldLink RX0 34 "PourPlan$Curing" "points" "I") (by decide +kernel)) (fun _ h9 => h9) rfl dX0_addPoint_1 ?_
  refine lv_bipush (v := 6) hx hb dX0_addPoint_4 (by decide) ?_
  refine lv_icmp_ge (tgt := 39) hx hb dX0_addPoint_6 (by decide) (fun c_1 => ?_) (fun c_1 => ?_)
  · refine W.widen (k := 0) (n := 0) (Nat.le_of_ble_eq_true rfl) (Nat.le_of_ble_eq_true rfl) ?_
    exact fi_v (pts, fd, fh) hx hb hr hlocks hK (hP.sub [0, 1, 2] rfl) (hD.sub [0, 1, 2] (by decide) rfl) hS (pf_X0_addPoint_1 pts hp c_1) dX0_addPoint_39
  · refine lv_aload_n hx hb dX0_addPoint_9 rfl (lv_at hl 0 rfl) ?_
    refine va_get (D := D) (ci := 0) (v := .ref a2) (C := RX0) (T := TX0) (N := 8) hx hb hts iw_X0_addPoint_0 hown hK hP 0 rfl rfl 2 (by decide) (hts (.fieldLink RX0 18 "PourPlan$Curing" "pointDegrees" "[I") (by decide +kernel)) (fun _ h9 => h9) rfl dX0_addPoint_10 ?_
    refine lv_aload_n hx hb dX0_addPoint_13 rfl (lv_at hl 0 rfl) ?_
    refine va_get (D := D) (ci := 0) (v := .int pts) (C := RX0) (T := TX0) (N := 8) hx hb hts iw_X0_addPoint_0 hown hK hP 0 rfl rfl 7 (by decide) (hts (.fieldLink RX0 34 "PourPlan$Curing" "points" "I") (by decide +kernel)) (fun _ h9 => h9) rfl dX0_addPoint_14 ?_
    refine lv_iload_n hx hb dX0_addPoint_17 rfl (lv_at hl 1 rfl) ?_
    refine va_iast hx hb hK hP hD hS 1 0 rfl rfl (pf_X0_addPoint_2 pts hp c_1) dX0_addPoint_18 (fun H locs hP hD hS => ?_)
    have hP : va_P D vwCl [(h0, .inr (0, [.ref a0, .ref a1, .ref a2, .ref a3, .ref a4, .ref a5, .int bw, .int pts])), (a2, .inl (cI, 6, .inl (upd fd pts.toNatClampNeg d))), (a3, .inl (cI, 6, .inl fh))] H := hP
    have hD : va_D A [(h0, .inr (0, [.ref a0, .ref a1, .ref a2, .ref a3, .ref a4, .ref a5, .int bw, .int pts])), (a2, .inl (cI, 6, .inl (upd fd pts.toNatClampNeg d))), (a3, .inl (cI, 6, .inl fh))] := hD
    refine lv_aload_n hx hb dX0_addPoint_19 rfl (lv_at hl 0 rfl) ?_
    refine va_get (D := D) (ci := 0) (v := .ref a3) (C := RX0) (T := TX0) (N := 8) hx hb hts iw_X0_addPoint_0 hown hK hP 0 rfl rfl 3 (by decide) (hts (.fieldLink RX0 21 "PourPlan$Curing" "pointHardness" "[I") (by decide +kernel)) (fun _ h9 => h9) rfl dX0_addPoint_20 ?_
    refine lv_aload_n hx hb dX0_addPoint_23 rfl (lv_at hl 0 rfl) ?_
    refine va_get (D := D) (ci := 0) (v := .int pts) (C := RX0) (T := TX0) (N := 8) hx hb hts iw_X0_addPoint_0 hown hK hP 0 rfl rfl 7 (by decide) (hts (.fieldLink RX0 34 "PourPlan$Curing" "points" "I") (by decide +kernel)) (fun _ h9 => h9) rfl dX0_addPoint_24 ?_
    refine lv_iload_n hx hb dX0_addPoint_27 rfl (lv_at hl 2 rfl) ?_
    refine va_iast hx hb hK hP hD hS 2 0 rfl rfl (pf_X0_addPoint_3 pts hp c_1) dX0_addPoint_28 (fun H locs hP hD hS => ?_)
    have hP : va_P D vwCl [(h0, .inr (0, [.ref a0, .ref a1, .ref a2, .ref a3, .ref a4, .ref a5, .int bw, .int pts])), (a2, .inl (cI, 6, .inl (upd fd pts.toNatClampNeg d))), (a3, .inl (cI, 6, .inl (upd fh pts.toNatClampNeg t)))] H := hP
    have hD : va_D A [(h0, .inr (0, [.ref a0, .ref a1, .ref a2, .ref a3, .ref a4, .ref a5, .int bw, .int pts])), (a2, .inl (cI, 6, .inl (upd fd pts.toNatClampNeg d))), (a3, .inl (cI, 6, .inl (upd fh pts.toNatClampNeg t)))] := hD
    refine lv_aload_n hx hb dX0_addPoint_29 rfl (lv_at hl 0 rfl) ?_
    refine lv_dup hx hb dX0_addPoint_30 rfl ?_
    refine va_get (D := D) (ci := 0) (v := .int pts) (C := RX0) (T := TX0) (N := 8) hx hb hts iw_X0_addPoint_0 hown hK hP 0 rfl rfl 7 (by decide) (hts (.fieldLink RX0 34 "PourPlan$Curing" "points" "I") (by decide +kernel)) (fun _ h9 => h9) rfl dX0_addPoint_31 ?_
    refine lv_iconst (v := 1) hx hb dX0_addPoint_34 (by decide) ?_
    refine lv_iadd hx hb dX0_addPoint_35 ?_
    refine lv_topi (fun v_2 ev_2 => ?_)
    refine va_put (D := D) (ci := 0) (v := .int v_2) (ty := .int) (C := RX0) (T := TX0) (N := 8) hx hb hts iw_X0_addPoint_0 tyX0 tyX0_ok nmX0 hown hK hP hD hS 0 rfl rfl 7 (by decide) (hts (.fieldLink RX0 34 "PourPlan$Curing" "points" "I") (by decide +kernel)) (fun _ h9 => h9) rfl (by decide +kernel) rfl rfl (Nat.le_of_ble_eq_true rfl) dX0_addPoint_36 (fun H locs hP hD hS => ?_)
    have hP : va_P D vwCl [(h0, .inr (0, [.ref a0, .ref a1, .ref a2, .ref a3, .ref a4, .ref a5, .int bw, .int v_2])), (a2, .inl (cI, 6, .inl (upd fd pts.toNatClampNeg d))), (a3, .inl (cI, 6, .inl (upd fh pts.toNatClampNeg t)))] H := hP
    have hD : va_D A [(h0, .inr (0, [.ref a0, .ref a1, .ref a2, .ref a3, .ref a4, .ref a5, .int bw, .int v_2])), (a2, .inl (cI, 6, .inl (upd fd pts.toNatClampNeg d))), (a3, .inl (cI, 6, .inl (upd fh pts.toNatClampNeg t)))] := hD
    refine W.widen (k := 0) (n := 0) (Nat.le_of_ble_eq_true rfl) (Nat.le_of_ble_eq_true rfl) ?_
    exact fi_v (v_2, upd fd pts.toNatClampNeg d, upd fh pts.toNatClampNeg t) hx hb hr hlocks hK (hP.sub [0, 1, 2] rfl) (hD.sub [0, 1, 2] (by decide) rfl) hS (pf_X0_addPoint_4 pts v_2 hp c_1 ev_2) dX0_addPoint_39
end
