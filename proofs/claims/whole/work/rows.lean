section
-- ===== PART A: goes FIRST, ahead of the names: the tables' words, and 'selects' of the private methods out of them =====
/-- a private method of a class that the tables say can be made, by its rows of tables_1 -/
def lw_okq (q : MethodName × Nat) : Prop := (q.1.cls ≠ "java/lang/invoke/MethodHandle" ∧ q.1.cls ≠ "java/lang/invoke/VarHandle") ∧ Cond.instantiable q.1.cls q.2 ∈ tables_1 ∧ Cond.privateMethod q.1 ∈ tables_1 ∧ Cond.instanceMethod q.1 ∈ tables_1
theorem lw_p0 : lw_okq (⟨"GateNames", "make", "(LGateNames$Shelf;III)I"⟩, 13) := ⟨⟨by decide +kernel, by decide +kernel⟩, List.mem_of_getElem? (i := 11) (by decide +kernel), List.mem_of_getElem? (i := 175) (by decide +kernel), List.mem_of_getElem? (i := 176) (by decide +kernel)⟩
theorem lw_p1 : lw_okq (⟨"GateNames$Shelf", "numbers", "(I)Z"⟩, 3) := ⟨⟨by decide +kernel, by decide +kernel⟩, List.mem_of_getElem? (i := 19) (by decide +kernel), List.mem_of_getElem? (i := 179) (by decide +kernel), List.mem_of_getElem? (i := 180) (by decide +kernel)⟩
theorem lw_p2 : lw_okq (⟨"GateNames", "found", "(I)I"⟩, 13) := ⟨⟨by decide +kernel, by decide +kernel⟩, List.mem_of_getElem? (i := 11) (by decide +kernel), List.mem_of_getElem? (i := 183) (by decide +kernel), List.mem_of_getElem? (i := 184) (by decide +kernel)⟩
theorem lw_p3 : lw_okq (⟨"GateNames$Shelf", "spread", "(III)V"⟩, 3) := ⟨⟨by decide +kernel, by decide +kernel⟩, List.mem_of_getElem? (i := 19) (by decide +kernel), List.mem_of_getElem? (i := 187) (by decide +kernel), List.mem_of_getElem? (i := 188) (by decide +kernel)⟩
theorem lw_p4 : lw_okq (⟨"GateNames", "refusalOfPlace", "(LGateNames$Shelf;II)I"⟩, 13) := ⟨⟨by decide +kernel, by decide +kernel⟩, List.mem_of_getElem? (i := 11) (by decide +kernel), List.mem_of_getElem? (i := 195) (by decide +kernel), List.mem_of_getElem? (i := 196) (by decide +kernel)⟩
theorem lw_p5 : lw_okq (⟨"GateNames", "refusalOfStrip", "(LGateNames$Shelf;I)I"⟩, 13) := ⟨⟨by decide +kernel, by decide +kernel⟩, List.mem_of_getElem? (i := 11) (by decide +kernel), List.mem_of_getElem? (i := 199) (by decide +kernel), List.mem_of_getElem? (i := 200) (by decide +kernel)⟩
theorem lw_p6 : lw_okq (⟨"GateNames$Shelf", "missing", "(I)Z"⟩, 3) := ⟨⟨by decide +kernel, by decide +kernel⟩, List.mem_of_getElem? (i := 19) (by decide +kernel), List.mem_of_getElem? (i := 203) (by decide +kernel), List.mem_of_getElem? (i := 204) (by decide +kernel)⟩
theorem lw_p7 : lw_okq (⟨"GateNames$Shelf", "reaches", "(III)Z"⟩, 3) := ⟨⟨by decide +kernel, by decide +kernel⟩, List.mem_of_getElem? (i := 19) (by decide +kernel), List.mem_of_getElem? (i := 207) (by decide +kernel), List.mem_of_getElem? (i := 208) (by decide +kernel)⟩
theorem lw_p8 : lw_okq (⟨"GateNames", "toldByAsked", "(I)I"⟩, 13) := ⟨⟨by decide +kernel, by decide +kernel⟩, List.mem_of_getElem? (i := 11) (by decide +kernel), List.mem_of_getElem? (i := 211) (by decide +kernel), List.mem_of_getElem? (i := 212) (by decide +kernel)⟩
theorem lw_p9 : lw_okq (⟨"GateNames$Shelf", "total", "(I)J"⟩, 3) := ⟨⟨by decide +kernel, by decide +kernel⟩, List.mem_of_getElem? (i := 19) (by decide +kernel), List.mem_of_getElem? (i := 234) (by decide +kernel), List.mem_of_getElem? (i := 235) (by decide +kernel)⟩
theorem lw_p10 : lw_okq (⟨"GateNames$Gate", "gather", "([II)V"⟩, 11) := ⟨⟨by decide +kernel, by decide +kernel⟩, List.mem_of_getElem? (i := 44) (by decide +kernel), List.mem_of_getElem? (i := 268) (by decide +kernel), List.mem_of_getElem? (i := 269) (by decide +kernel)⟩
theorem lw_p11 : lw_okq (⟨"GateNames$Gate", "startAnew", "()V"⟩, 11) := ⟨⟨by decide +kernel, by decide +kernel⟩, List.mem_of_getElem? (i := 44) (by decide +kernel), List.mem_of_getElem? (i := 274) (by decide +kernel), List.mem_of_getElem? (i := 275) (by decide +kernel)⟩
theorem lw_p12 : lw_okq (⟨"GateNames$Gate", "numbers", "(I)Z"⟩, 11) := ⟨⟨by decide +kernel, by decide +kernel⟩, List.mem_of_getElem? (i := 44) (by decide +kernel), List.mem_of_getElem? (i := 283) (by decide +kernel), List.mem_of_getElem? (i := 284) (by decide +kernel)⟩
theorem lw_p13 : lw_okq (⟨"GateNames", "traitOf", "(II)I"⟩, 13) := ⟨⟨by decide +kernel, by decide +kernel⟩, List.mem_of_getElem? (i := 11) (by decide +kernel), List.mem_of_getElem? (i := 287) (by decide +kernel), List.mem_of_getElem? (i := 288) (by decide +kernel)⟩
theorem lw_p14 : lw_okq (⟨"GateNames$Gate", "tellingOf", "(I)I"⟩, 11) := ⟨⟨by decide +kernel, by decide +kernel⟩, List.mem_of_getElem? (i := 44) (by decide +kernel), List.mem_of_getElem? (i := 291) (by decide +kernel), List.mem_of_getElem? (i := 292) (by decide +kernel)⟩
theorem lw_p15 : lw_okq (⟨"GateNames$Gate", "naming", "(I[I)I"⟩, 11) := ⟨⟨by decide +kernel, by decide +kernel⟩, List.mem_of_getElem? (i := 44) (by decide +kernel), List.mem_of_getElem? (i := 298) (by decide +kernel), List.mem_of_getElem? (i := 299) (by decide +kernel)⟩
def lw_privs_1 : List (MethodName × Nat) := [(⟨"GateNames", "make", "(LGateNames$Shelf;III)I"⟩, 13), (⟨"GateNames$Shelf", "numbers", "(I)Z"⟩, 3), (⟨"GateNames", "found", "(I)I"⟩, 13), (⟨"GateNames$Shelf", "spread", "(III)V"⟩, 3), (⟨"GateNames", "refusalOfPlace", "(LGateNames$Shelf;II)I"⟩, 13), (⟨"GateNames", "refusalOfStrip", "(LGateNames$Shelf;I)I"⟩, 13), (⟨"GateNames$Shelf", "missing", "(I)Z"⟩, 3), (⟨"GateNames$Shelf", "reaches", "(III)Z"⟩, 3), (⟨"GateNames", "toldByAsked", "(I)I"⟩, 13), (⟨"GateNames$Shelf", "total", "(I)J"⟩, 3), (⟨"GateNames$Gate", "gather", "([II)V"⟩, 11), (⟨"GateNames$Gate", "startAnew", "()V"⟩, 11), (⟨"GateNames$Gate", "numbers", "(I)Z"⟩, 11), (⟨"GateNames", "traitOf", "(II)I"⟩, 13), (⟨"GateNames$Gate", "tellingOf", "(I)I"⟩, 11), (⟨"GateNames$Gate", "naming", "(I[I)I"⟩, 11)]
theorem lw_r1 : ∀ q ∈ lw_privs_1, lw_okq q := List.forall_mem_cons.mpr ⟨lw_p0, List.forall_mem_cons.mpr ⟨lw_p1, List.forall_mem_cons.mpr ⟨lw_p2, List.forall_mem_cons.mpr ⟨lw_p3, List.forall_mem_cons.mpr ⟨lw_p4, List.forall_mem_cons.mpr ⟨lw_p5, List.forall_mem_cons.mpr ⟨lw_p6, List.forall_mem_cons.mpr ⟨lw_p7, List.forall_mem_cons.mpr ⟨lw_p8, List.forall_mem_cons.mpr ⟨lw_p9, List.forall_mem_cons.mpr ⟨lw_p10, List.forall_mem_cons.mpr ⟨lw_p11, List.forall_mem_cons.mpr ⟨lw_p12, List.forall_mem_cons.mpr ⟨lw_p13, List.forall_mem_cons.mpr ⟨lw_p14, List.forall_mem_cons.mpr ⟨lw_p15, fun _ h => absurd h List.not_mem_nil⟩⟩⟩⟩⟩⟩⟩⟩⟩⟩⟩⟩⟩⟩⟩⟩
theorem lw_p16 : lw_okq (⟨"GateNames$Gate", "waits", "(I)Z"⟩, 11) := ⟨⟨by decide +kernel, by decide +kernel⟩, List.mem_of_getElem? (i := 44) (by decide +kernel), List.mem_of_getElem? (i := 302) (by decide +kernel), List.mem_of_getElem? (i := 303) (by decide +kernel)⟩
theorem lw_p17 : lw_okq (⟨"GateNames$Gate", "opensTo", "(I)Z"⟩, 11) := ⟨⟨by decide +kernel, by decide +kernel⟩, List.mem_of_getElem? (i := 44) (by decide +kernel), List.mem_of_getElem? (i := 309) (by decide +kernel), List.mem_of_getElem? (i := 310) (by decide +kernel)⟩
theorem lw_p18 : lw_okq (⟨"GateNames$Gate", "toldOf", "(I)I"⟩, 11) := ⟨⟨by decide +kernel, by decide +kernel⟩, List.mem_of_getElem? (i := 44) (by decide +kernel), List.mem_of_getElem? (i := 319) (by decide +kernel), List.mem_of_getElem? (i := 320) (by decide +kernel)⟩
theorem lw_p19 : lw_okq (⟨"GateNames$Gate", "namersOf", "(I)I"⟩, 11) := ⟨⟨by decide +kernel, by decide +kernel⟩, List.mem_of_getElem? (i := 44) (by decide +kernel), List.mem_of_getElem? (i := 329) (by decide +kernel), List.mem_of_getElem? (i := 330) (by decide +kernel)⟩
theorem lw_p20 : lw_okq (⟨"GateNames$Gate", "left", "()I"⟩, 11) := ⟨⟨by decide +kernel, by decide +kernel⟩, List.mem_of_getElem? (i := 44) (by decide +kernel), List.mem_of_getElem? (i := 333) (by decide +kernel), List.mem_of_getElem? (i := 334) (by decide +kernel)⟩
theorem lw_p21 : lw_okq (⟨"GateNames$Gate", "holds", "(I)Z"⟩, 11) := ⟨⟨by decide +kernel, by decide +kernel⟩, List.mem_of_getElem? (i := 44) (by decide +kernel), List.mem_of_getElem? (i := 341) (by decide +kernel), List.mem_of_getElem? (i := 342) (by decide +kernel)⟩
theorem lw_p22 : lw_okq (⟨"GateNames$Gate", "canMeet", "(II)Z"⟩, 11) := ⟨⟨by decide +kernel, by decide +kernel⟩, List.mem_of_getElem? (i := 44) (by decide +kernel), List.mem_of_getElem? (i := 350) (by decide +kernel), List.mem_of_getElem? (i := 351) (by decide +kernel)⟩
theorem lw_p23 : lw_okq (⟨"GateNames$Gate", "spare", "()I"⟩, 11) := ⟨⟨by decide +kernel, by decide +kernel⟩, List.mem_of_getElem? (i := 44) (by decide +kernel), List.mem_of_getElem? (i := 354) (by decide +kernel), List.mem_of_getElem? (i := 355) (by decide +kernel)⟩
theorem lw_p24 : lw_okq (⟨"GateNames$Gate", "tellings", "()I"⟩, 11) := ⟨⟨by decide +kernel, by decide +kernel⟩, List.mem_of_getElem? (i := 44) (by decide +kernel), List.mem_of_getElem? (i := 358) (by decide +kernel), List.mem_of_getElem? (i := 359) (by decide +kernel)⟩
theorem lw_p25 : lw_okq (⟨"GateNames$Gate", "add", "(III)V"⟩, 11) := ⟨⟨by decide +kernel, by decide +kernel⟩, List.mem_of_getElem? (i := 44) (by decide +kernel), List.mem_of_getElem? (i := 363) (by decide +kernel), List.mem_of_getElem? (i := 364) (by decide +kernel)⟩
theorem lw_p26 : lw_okq (⟨"GateNames$Gate", "meetAside", "(II[I[I)V"⟩, 11) := ⟨⟨by decide +kernel, by decide +kernel⟩, List.mem_of_getElem? (i := 44) (by decide +kernel), List.mem_of_getElem? (i := 368) (by decide +kernel), List.mem_of_getElem? (i := 369) (by decide +kernel)⟩
theorem lw_p27 : lw_okq (⟨"GateNames", "refusalAtStone", "(I)I"⟩, 13) := ⟨⟨by decide +kernel, by decide +kernel⟩, List.mem_of_getElem? (i := 11) (by decide +kernel), List.mem_of_getElem? (i := 377) (by decide +kernel), List.mem_of_getElem? (i := 378) (by decide +kernel)⟩
theorem lw_p28 : lw_okq (⟨"GateNames$Gate", "doAgain", "([II)V"⟩, 11) := ⟨⟨by decide +kernel, by decide +kernel⟩, List.mem_of_getElem? (i := 44) (by decide +kernel), List.mem_of_getElem? (i := 393) (by decide +kernel), List.mem_of_getElem? (i := 394) (by decide +kernel)⟩
theorem lw_p29 : lw_okq (⟨"GateNames$Gate", "opened", "()I"⟩, 11) := ⟨⟨by decide +kernel, by decide +kernel⟩, List.mem_of_getElem? (i := 44) (by decide +kernel), List.mem_of_getElem? (i := 410) (by decide +kernel), List.mem_of_getElem? (i := 411) (by decide +kernel)⟩
theorem lw_p30 : lw_okq (⟨"GateNames$Road", "survey", "(LGateNames$Gate;[I)V"⟩, 8) := ⟨⟨by decide +kernel, by decide +kernel⟩, List.mem_of_getElem? (i := 96) (by decide +kernel), List.mem_of_getElem? (i := 419) (by decide +kernel), List.mem_of_getElem? (i := 420) (by decide +kernel)⟩
theorem lw_p31 : lw_okq (⟨"GateNames$Road", "look", "(LGateNames$Gate;[I)V"⟩, 8) := ⟨⟨by decide +kernel, by decide +kernel⟩, List.mem_of_getElem? (i := 96) (by decide +kernel), List.mem_of_getElem? (i := 423) (by decide +kernel), List.mem_of_getElem? (i := 424) (by decide +kernel)⟩
def lw_privs_2 : List (MethodName × Nat) := [(⟨"GateNames$Gate", "waits", "(I)Z"⟩, 11), (⟨"GateNames$Gate", "opensTo", "(I)Z"⟩, 11), (⟨"GateNames$Gate", "toldOf", "(I)I"⟩, 11), (⟨"GateNames$Gate", "namersOf", "(I)I"⟩, 11), (⟨"GateNames$Gate", "left", "()I"⟩, 11), (⟨"GateNames$Gate", "holds", "(I)Z"⟩, 11), (⟨"GateNames$Gate", "canMeet", "(II)Z"⟩, 11), (⟨"GateNames$Gate", "spare", "()I"⟩, 11), (⟨"GateNames$Gate", "tellings", "()I"⟩, 11), (⟨"GateNames$Gate", "add", "(III)V"⟩, 11), (⟨"GateNames$Gate", "meetAside", "(II[I[I)V"⟩, 11), (⟨"GateNames", "refusalAtStone", "(I)I"⟩, 13), (⟨"GateNames$Gate", "doAgain", "([II)V"⟩, 11), (⟨"GateNames$Gate", "opened", "()I"⟩, 11), (⟨"GateNames$Road", "survey", "(LGateNames$Gate;[I)V"⟩, 8), (⟨"GateNames$Road", "look", "(LGateNames$Gate;[I)V"⟩, 8)]
theorem lw_r2 : ∀ q ∈ lw_privs_2, lw_okq q := List.forall_mem_cons.mpr ⟨lw_p16, List.forall_mem_cons.mpr ⟨lw_p17, List.forall_mem_cons.mpr ⟨lw_p18, List.forall_mem_cons.mpr ⟨lw_p19, List.forall_mem_cons.mpr ⟨lw_p20, List.forall_mem_cons.mpr ⟨lw_p21, List.forall_mem_cons.mpr ⟨lw_p22, List.forall_mem_cons.mpr ⟨lw_p23, List.forall_mem_cons.mpr ⟨lw_p24, List.forall_mem_cons.mpr ⟨lw_p25, List.forall_mem_cons.mpr ⟨lw_p26, List.forall_mem_cons.mpr ⟨lw_p27, List.forall_mem_cons.mpr ⟨lw_p28, List.forall_mem_cons.mpr ⟨lw_p29, List.forall_mem_cons.mpr ⟨lw_p30, List.forall_mem_cons.mpr ⟨lw_p31, fun _ h => absurd h List.not_mem_nil⟩⟩⟩⟩⟩⟩⟩⟩⟩⟩⟩⟩⟩⟩⟩⟩
theorem lw_p32 : lw_okq (⟨"GateNames$Road", "chain", "()V"⟩, 8) := ⟨⟨by decide +kernel, by decide +kernel⟩, List.mem_of_getElem? (i := 96) (by decide +kernel), List.mem_of_getElem? (i := 431) (by decide +kernel), List.mem_of_getElem? (i := 432) (by decide +kernel)⟩
theorem lw_p33 : lw_okq (⟨"GateNames$Road", "within", "(I)Z"⟩, 8) := ⟨⟨by decide +kernel, by decide +kernel⟩, List.mem_of_getElem? (i := 96) (by decide +kernel), List.mem_of_getElem? (i := 435) (by decide +kernel), List.mem_of_getElem? (i := 436) (by decide +kernel)⟩
theorem lw_p34 : lw_okq (⟨"GateNames$Road", "startersOf", "(I)I"⟩, 8) := ⟨⟨by decide +kernel, by decide +kernel⟩, List.mem_of_getElem? (i := 96) (by decide +kernel), List.mem_of_getElem? (i := 439) (by decide +kernel), List.mem_of_getElem? (i := 440) (by decide +kernel)⟩
theorem lw_p35 : lw_okq (⟨"GateNames$Road", "rank", "()V"⟩, 8) := ⟨⟨by decide +kernel, by decide +kernel⟩, List.mem_of_getElem? (i := 96) (by decide +kernel), List.mem_of_getElem? (i := 443) (by decide +kernel), List.mem_of_getElem? (i := 444) (by decide +kernel)⟩
theorem lw_p36 : lw_okq (⟨"GateNames$Road", "comesThrough", "(I)Z"⟩, 8) := ⟨⟨by decide +kernel, by decide +kernel⟩, List.mem_of_getElem? (i := 96) (by decide +kernel), List.mem_of_getElem? (i := 447) (by decide +kernel), List.mem_of_getElem? (i := 448) (by decide +kernel)⟩
theorem lw_p37 : lw_okq (⟨"GateNames$Road", "bestWithoutOne", "(I)I"⟩, 8) := ⟨⟨by decide +kernel, by decide +kernel⟩, List.mem_of_getElem? (i := 96) (by decide +kernel), List.mem_of_getElem? (i := 452) (by decide +kernel), List.mem_of_getElem? (i := 453) (by decide +kernel)⟩
theorem lw_p38 : lw_okq (⟨"GateNames$Road", "writeFirstRow", "([II)V"⟩, 8) := ⟨⟨by decide +kernel, by decide +kernel⟩, List.mem_of_getElem? (i := 96) (by decide +kernel), List.mem_of_getElem? (i := 459) (by decide +kernel), List.mem_of_getElem? (i := 460) (by decide +kernel)⟩
theorem lw_p39 : lw_okq (⟨"GateNames$Road", "firstsOf", "(II)I"⟩, 8) := ⟨⟨by decide +kernel, by decide +kernel⟩, List.mem_of_getElem? (i := 96) (by decide +kernel), List.mem_of_getElem? (i := 463) (by decide +kernel), List.mem_of_getElem? (i := 464) (by decide +kernel)⟩
theorem lw_p40 : lw_okq (⟨"GateNames$Gate", "worthOf", "(I)I"⟩, 11) := ⟨⟨by decide +kernel, by decide +kernel⟩, List.mem_of_getElem? (i := 44) (by decide +kernel), List.mem_of_getElem? (i := 476) (by decide +kernel), List.mem_of_getElem? (i := 477) (by decide +kernel)⟩
theorem lw_p41 : lw_okq (⟨"GateNames$Road", "ordersOfAll", "()I"⟩, 8) := ⟨⟨by decide +kernel, by decide +kernel⟩, List.mem_of_getElem? (i := 96) (by decide +kernel), List.mem_of_getElem? (i := 484) (by decide +kernel), List.mem_of_getElem? (i := 485) (by decide +kernel)⟩
theorem lw_p42 : lw_okq (⟨"GateNames$Road", "countWays", "(I)V"⟩, 8) := ⟨⟨by decide +kernel, by decide +kernel⟩, List.mem_of_getElem? (i := 96) (by decide +kernel), List.mem_of_getElem? (i := 488) (by decide +kernel), List.mem_of_getElem? (i := 489) (by decide +kernel)⟩
theorem lw_p43 : lw_okq (⟨"GateNames$Road", "waysFrom", "(II)I"⟩, 8) := ⟨⟨by decide +kernel, by decide +kernel⟩, List.mem_of_getElem? (i := 96) (by decide +kernel), List.mem_of_getElem? (i := 492) (by decide +kernel), List.mem_of_getElem? (i := 493) (by decide +kernel)⟩
theorem lw_p44 : lw_okq (⟨"GateNames", "allCome", "([I)Z"⟩, 13) := ⟨⟨by decide +kernel, by decide +kernel⟩, List.mem_of_getElem? (i := 11) (by decide +kernel), List.mem_of_getElem? (i := 500) (by decide +kernel), List.mem_of_getElem? (i := 501) (by decide +kernel)⟩
theorem lw_p45 : lw_okq (⟨"GateNames$Road", "mayAllCome", "()Z"⟩, 8) := ⟨⟨by decide +kernel, by decide +kernel⟩, List.mem_of_getElem? (i := 96) (by decide +kernel), List.mem_of_getElem? (i := 505) (by decide +kernel), List.mem_of_getElem? (i := 506) (by decide +kernel)⟩
theorem lw_p46 : lw_okq (⟨"GateNames", "firstMeeting", "([I[I)I"⟩, 13) := ⟨⟨by decide +kernel, by decide +kernel⟩, List.mem_of_getElem? (i := 11) (by decide +kernel), List.mem_of_getElem? (i := 510) (by decide +kernel), List.mem_of_getElem? (i := 511) (by decide +kernel)⟩
theorem lw_p47 : lw_okq (⟨"GateNames", "firstTwoMeetings", "()I"⟩, 13) := ⟨⟨by decide +kernel, by decide +kernel⟩, List.mem_of_getElem? (i := 11) (by decide +kernel), List.mem_of_getElem? (i := 515) (by decide +kernel), List.mem_of_getElem? (i := 516) (by decide +kernel)⟩
def lw_privs_3 : List (MethodName × Nat) := [(⟨"GateNames$Road", "chain", "()V"⟩, 8), (⟨"GateNames$Road", "within", "(I)Z"⟩, 8), (⟨"GateNames$Road", "startersOf", "(I)I"⟩, 8), (⟨"GateNames$Road", "rank", "()V"⟩, 8), (⟨"GateNames$Road", "comesThrough", "(I)Z"⟩, 8), (⟨"GateNames$Road", "bestWithoutOne", "(I)I"⟩, 8), (⟨"GateNames$Road", "writeFirstRow", "([II)V"⟩, 8), (⟨"GateNames$Road", "firstsOf", "(II)I"⟩, 8), (⟨"GateNames$Gate", "worthOf", "(I)I"⟩, 11), (⟨"GateNames$Road", "ordersOfAll", "()I"⟩, 8), (⟨"GateNames$Road", "countWays", "(I)V"⟩, 8), (⟨"GateNames$Road", "waysFrom", "(II)I"⟩, 8), (⟨"GateNames", "allCome", "([I)Z"⟩, 13), (⟨"GateNames$Road", "mayAllCome", "()Z"⟩, 8), (⟨"GateNames", "firstMeeting", "([I[I)I"⟩, 13), (⟨"GateNames", "firstTwoMeetings", "()I"⟩, 13)]
theorem lw_r3 : ∀ q ∈ lw_privs_3, lw_okq q := List.forall_mem_cons.mpr ⟨lw_p32, List.forall_mem_cons.mpr ⟨lw_p33, List.forall_mem_cons.mpr ⟨lw_p34, List.forall_mem_cons.mpr ⟨lw_p35, List.forall_mem_cons.mpr ⟨lw_p36, List.forall_mem_cons.mpr ⟨lw_p37, List.forall_mem_cons.mpr ⟨lw_p38, List.forall_mem_cons.mpr ⟨lw_p39, List.forall_mem_cons.mpr ⟨lw_p40, List.forall_mem_cons.mpr ⟨lw_p41, List.forall_mem_cons.mpr ⟨lw_p42, List.forall_mem_cons.mpr ⟨lw_p43, List.forall_mem_cons.mpr ⟨lw_p44, List.forall_mem_cons.mpr ⟨lw_p45, List.forall_mem_cons.mpr ⟨lw_p46, List.forall_mem_cons.mpr ⟨lw_p47, fun _ h => absurd h List.not_mem_nil⟩⟩⟩⟩⟩⟩⟩⟩⟩⟩⟩⟩⟩⟩⟩⟩
theorem lw_p48 : lw_okq (⟨"GateNames", "mostByCardOf", "(I)I"⟩, 13) := ⟨⟨by decide +kernel, by decide +kernel⟩, List.mem_of_getElem? (i := 11) (by decide +kernel), List.mem_of_getElem? (i := 523) (by decide +kernel), List.mem_of_getElem? (i := 524) (by decide +kernel)⟩
theorem lw_p49 : lw_okq (⟨"GateNames", "toldAside", "(II)I"⟩, 13) := ⟨⟨by decide +kernel, by decide +kernel⟩, List.mem_of_getElem? (i := 11) (by decide +kernel), List.mem_of_getElem? (i := 527) (by decide +kernel), List.mem_of_getElem? (i := 528) (by decide +kernel)⟩
theorem lw_p50 : lw_okq (⟨"GateNames", "refusalOfPairs", "(II)I"⟩, 13) := ⟨⟨by decide +kernel, by decide +kernel⟩, List.mem_of_getElem? (i := 11) (by decide +kernel), List.mem_of_getElem? (i := 543) (by decide +kernel), List.mem_of_getElem? (i := 544) (by decide +kernel)⟩
theorem lw_p51 : lw_okq (⟨"GateNames", "kindsByPairs", "(II)I"⟩, 13) := ⟨⟨by decide +kernel, by decide +kernel⟩, List.mem_of_getElem? (i := 11) (by decide +kernel), List.mem_of_getElem? (i := 547) (by decide +kernel), List.mem_of_getElem? (i := 548) (by decide +kernel)⟩
theorem lw_p52 : lw_okq (⟨"GateNames", "fitsPairs", "(III)Z"⟩, 13) := ⟨⟨by decide +kernel, by decide +kernel⟩, List.mem_of_getElem? (i := 11) (by decide +kernel), List.mem_of_getElem? (i := 551) (by decide +kernel), List.mem_of_getElem? (i := 552) (by decide +kernel)⟩
theorem lw_p53 : lw_okq (⟨"GateNames$Road", "winningGoer", "()I"⟩, 8) := ⟨⟨by decide +kernel, by decide +kernel⟩, List.mem_of_getElem? (i := 96) (by decide +kernel), List.mem_of_getElem? (i := 568) (by decide +kernel), List.mem_of_getElem? (i := 569) (by decide +kernel)⟩
theorem lw_p54 : lw_okq (⟨"GateNames$Road", "winnersAt", "(I)I"⟩, 8) := ⟨⟨by decide +kernel, by decide +kernel⟩, List.mem_of_getElem? (i := 96) (by decide +kernel), List.mem_of_getElem? (i := 572) (by decide +kernel), List.mem_of_getElem? (i := 573) (by decide +kernel)⟩
theorem lw_p55 : lw_okq (⟨"GateNames$Road", "winningMove", "(II)I"⟩, 8) := ⟨⟨by decide +kernel, by decide +kernel⟩, List.mem_of_getElem? (i := 96) (by decide +kernel), List.mem_of_getElem? (i := 576) (by decide +kernel), List.mem_of_getElem? (i := 577) (by decide +kernel)⟩
theorem lw_p56 : lw_okq (⟨"GateNames", "weightOf", "(II)J"⟩, 13) := ⟨⟨by decide +kernel, by decide +kernel⟩, List.mem_of_getElem? (i := 11) (by decide +kernel), List.mem_of_getElem? (i := 584) (by decide +kernel), List.mem_of_getElem? (i := 585) (by decide +kernel)⟩
theorem lw_p57 : lw_okq (⟨"GateNames", "toldInParts", "(J)I"⟩, 13) := ⟨⟨by decide +kernel, by decide +kernel⟩, List.mem_of_getElem? (i := 11) (by decide +kernel), List.mem_of_getElem? (i := 591) (by decide +kernel), List.mem_of_getElem? (i := 592) (by decide +kernel)⟩
theorem lw_p58 : lw_okq (⟨"GateNames", "doByLot", "(I)V"⟩, 13) := ⟨⟨by decide +kernel, by decide +kernel⟩, List.mem_of_getElem? (i := 11) (by decide +kernel), List.mem_of_getElem? (i := 609) (by decide +kernel), List.mem_of_getElem? (i := 610) (by decide +kernel)⟩
theorem lw_p59 : lw_okq (⟨"GateNames", "countOf", "(I)I"⟩, 13) := ⟨⟨by decide +kernel, by decide +kernel⟩, List.mem_of_getElem? (i := 11) (by decide +kernel), List.mem_of_getElem? (i := 629) (by decide +kernel), List.mem_of_getElem? (i := 630) (by decide +kernel)⟩
theorem lw_p60 : lw_okq (⟨"GateNames$Shelf", "present", "()I"⟩, 3) := ⟨⟨by decide +kernel, by decide +kernel⟩, List.mem_of_getElem? (i := 19) (by decide +kernel), List.mem_of_getElem? (i := 633) (by decide +kernel), List.mem_of_getElem? (i := 634) (by decide +kernel)⟩
theorem lw_p61 : lw_okq (⟨"GateNames", "keptGates", "()I"⟩, 13) := ⟨⟨by decide +kernel, by decide +kernel⟩, List.mem_of_getElem? (i := 11) (by decide +kernel), List.mem_of_getElem? (i := 637) (by decide +kernel), List.mem_of_getElem? (i := 638) (by decide +kernel)⟩
theorem lw_p62 : lw_okq (⟨"GateNames$Shelf", "digestFrom", "(J)J"⟩, 3) := ⟨⟨by decide +kernel, by decide +kernel⟩, List.mem_of_getElem? (i := 19) (by decide +kernel), List.mem_of_getElem? (i := 655) (by decide +kernel), List.mem_of_getElem? (i := 656) (by decide +kernel)⟩
theorem lw_p63 : lw_okq (⟨"GateNamesModel", "find", "(I)I"⟩, 24) := ⟨⟨by decide +kernel, by decide +kernel⟩, List.mem_of_getElem? (i := 660) (by decide +kernel), List.mem_of_getElem? (i := 751) (by decide +kernel), List.mem_of_getElem? (i := 752) (by decide +kernel)⟩
def lw_privs_4 : List (MethodName × Nat) := [(⟨"GateNames", "mostByCardOf", "(I)I"⟩, 13), (⟨"GateNames", "toldAside", "(II)I"⟩, 13), (⟨"GateNames", "refusalOfPairs", "(II)I"⟩, 13), (⟨"GateNames", "kindsByPairs", "(II)I"⟩, 13), (⟨"GateNames", "fitsPairs", "(III)Z"⟩, 13), (⟨"GateNames$Road", "winningGoer", "()I"⟩, 8), (⟨"GateNames$Road", "winnersAt", "(I)I"⟩, 8), (⟨"GateNames$Road", "winningMove", "(II)I"⟩, 8), (⟨"GateNames", "weightOf", "(II)J"⟩, 13), (⟨"GateNames", "toldInParts", "(J)I"⟩, 13), (⟨"GateNames", "doByLot", "(I)V"⟩, 13), (⟨"GateNames", "countOf", "(I)I"⟩, 13), (⟨"GateNames$Shelf", "present", "()I"⟩, 3), (⟨"GateNames", "keptGates", "()I"⟩, 13), (⟨"GateNames$Shelf", "digestFrom", "(J)J"⟩, 3), (⟨"GateNamesModel", "find", "(I)I"⟩, 24)]
theorem lw_r4 : ∀ q ∈ lw_privs_4, lw_okq q := List.forall_mem_cons.mpr ⟨lw_p48, List.forall_mem_cons.mpr ⟨lw_p49, List.forall_mem_cons.mpr ⟨lw_p50, List.forall_mem_cons.mpr ⟨lw_p51, List.forall_mem_cons.mpr ⟨lw_p52, List.forall_mem_cons.mpr ⟨lw_p53, List.forall_mem_cons.mpr ⟨lw_p54, List.forall_mem_cons.mpr ⟨lw_p55, List.forall_mem_cons.mpr ⟨lw_p56, List.forall_mem_cons.mpr ⟨lw_p57, List.forall_mem_cons.mpr ⟨lw_p58, List.forall_mem_cons.mpr ⟨lw_p59, List.forall_mem_cons.mpr ⟨lw_p60, List.forall_mem_cons.mpr ⟨lw_p61, List.forall_mem_cons.mpr ⟨lw_p62, List.forall_mem_cons.mpr ⟨lw_p63, fun _ h => absurd h List.not_mem_nil⟩⟩⟩⟩⟩⟩⟩⟩⟩⟩⟩⟩⟩⟩⟩⟩
theorem lw_p64 : lw_okq (⟨"GateNamesModel", "told", "(I)I"⟩, 24) := ⟨⟨by decide +kernel, by decide +kernel⟩, List.mem_of_getElem? (i := 660) (by decide +kernel), List.mem_of_getElem? (i := 759) (by decide +kernel), List.mem_of_getElem? (i := 760) (by decide +kernel)⟩
theorem lw_p65 : lw_okq (⟨"GateNamesModel", "read", "(I)I"⟩, 24) := ⟨⟨by decide +kernel, by decide +kernel⟩, List.mem_of_getElem? (i := 660) (by decide +kernel), List.mem_of_getElem? (i := 794) (by decide +kernel), List.mem_of_getElem? (i := 795) (by decide +kernel)⟩
theorem lw_p66 : lw_okq (⟨"GateNamesModel", "isGoer", "(I)Z"⟩, 24) := ⟨⟨by decide +kernel, by decide +kernel⟩, List.mem_of_getElem? (i := 660) (by decide +kernel), List.mem_of_getElem? (i := 809) (by decide +kernel), List.mem_of_getElem? (i := 810) (by decide +kernel)⟩
theorem lw_p67 : lw_okq (⟨"GateNamesModel", "factOf", "(II)I"⟩, 24) := ⟨⟨by decide +kernel, by decide +kernel⟩, List.mem_of_getElem? (i := 660) (by decide +kernel), List.mem_of_getElem? (i := 813) (by decide +kernel), List.mem_of_getElem? (i := 814) (by decide +kernel)⟩
theorem lw_p68 : lw_okq (⟨"GateNamesModel", "toldOf", "(I)I"⟩, 24) := ⟨⟨by decide +kernel, by decide +kernel⟩, List.mem_of_getElem? (i := 660) (by decide +kernel), List.mem_of_getElem? (i := 817) (by decide +kernel), List.mem_of_getElem? (i := 818) (by decide +kernel)⟩
theorem lw_p69 : lw_okq (⟨"GateNamesModel", "now", "(I)I"⟩, 24) := ⟨⟨by decide +kernel, by decide +kernel⟩, List.mem_of_getElem? (i := 660) (by decide +kernel), List.mem_of_getElem? (i := 821) (by decide +kernel), List.mem_of_getElem? (i := 822) (by decide +kernel)⟩
theorem lw_p70 : lw_okq (⟨"GateNamesModel", "tellsOf", "(I)I"⟩, 24) := ⟨⟨by decide +kernel, by decide +kernel⟩, List.mem_of_getElem? (i := 660) (by decide +kernel), List.mem_of_getElem? (i := 825) (by decide +kernel), List.mem_of_getElem? (i := 826) (by decide +kernel)⟩
theorem lw_p71 : lw_okq (⟨"GateNamesModel", "namesOf", "(I)I"⟩, 24) := ⟨⟨by decide +kernel, by decide +kernel⟩, List.mem_of_getElem? (i := 660) (by decide +kernel), List.mem_of_getElem? (i := 832) (by decide +kernel), List.mem_of_getElem? (i := 833) (by decide +kernel)⟩
theorem lw_p72 : lw_okq (⟨"GateNamesModel", "namesBy", "(II)I"⟩, 24) := ⟨⟨by decide +kernel, by decide +kernel⟩, List.mem_of_getElem? (i := 660) (by decide +kernel), List.mem_of_getElem? (i := 836) (by decide +kernel), List.mem_of_getElem? (i := 837) (by decide +kernel)⟩
theorem lw_p73 : lw_okq (⟨"GateNamesModel", "ofKind", "(I)I"⟩, 24) := ⟨⟨by decide +kernel, by decide +kernel⟩, List.mem_of_getElem? (i := 660) (by decide +kernel), List.mem_of_getElem? (i := 840) (by decide +kernel), List.mem_of_getElem? (i := 841) (by decide +kernel)⟩
theorem lw_p74 : lw_okq (⟨"GateNamesModel", "isThrough", "(I)Z"⟩, 24) := ⟨⟨by decide +kernel, by decide +kernel⟩, List.mem_of_getElem? (i := 660) (by decide +kernel), List.mem_of_getElem? (i := 847) (by decide +kernel), List.mem_of_getElem? (i := 848) (by decide +kernel)⟩
theorem lw_p75 : lw_okq (⟨"GateNamesModel", "isOpen", "(I)Z"⟩, 24) := ⟨⟨by decide +kernel, by decide +kernel⟩, List.mem_of_getElem? (i := 660) (by decide +kernel), List.mem_of_getElem? (i := 851) (by decide +kernel), List.mem_of_getElem? (i := 852) (by decide +kernel)⟩
theorem lw_p76 : lw_okq (⟨"GateNamesModel", "left", "()I"⟩, 24) := ⟨⟨by decide +kernel, by decide +kernel⟩, List.mem_of_getElem? (i := 660) (by decide +kernel), List.mem_of_getElem? (i := 859) (by decide +kernel), List.mem_of_getElem? (i := 860) (by decide +kernel)⟩
theorem lw_p77 : lw_okq (⟨"GateNamesModel", "isSet", "(I)Z"⟩, 24) := ⟨⟨by decide +kernel, by decide +kernel⟩, List.mem_of_getElem? (i := 660) (by decide +kernel), List.mem_of_getElem? (i := 870) (by decide +kernel), List.mem_of_getElem? (i := 871) (by decide +kernel)⟩
theorem lw_p78 : lw_okq (⟨"GateNamesModel", "begin", "()V"⟩, 24) := ⟨⟨by decide +kernel, by decide +kernel⟩, List.mem_of_getElem? (i := 660) (by decide +kernel), List.mem_of_getElem? (i := 878) (by decide +kernel), List.mem_of_getElem? (i := 879) (by decide +kernel)⟩
theorem lw_p79 : lw_okq (⟨"GateNamesModel", "meetNow", "(II)I"⟩, 24) := ⟨⟨by decide +kernel, by decide +kernel⟩, List.mem_of_getElem? (i := 660) (by decide +kernel), List.mem_of_getElem? (i := 882) (by decide +kernel), List.mem_of_getElem? (i := 883) (by decide +kernel)⟩
def lw_privs_5 : List (MethodName × Nat) := [(⟨"GateNamesModel", "told", "(I)I"⟩, 24), (⟨"GateNamesModel", "read", "(I)I"⟩, 24), (⟨"GateNamesModel", "isGoer", "(I)Z"⟩, 24), (⟨"GateNamesModel", "factOf", "(II)I"⟩, 24), (⟨"GateNamesModel", "toldOf", "(I)I"⟩, 24), (⟨"GateNamesModel", "now", "(I)I"⟩, 24), (⟨"GateNamesModel", "tellsOf", "(I)I"⟩, 24), (⟨"GateNamesModel", "namesOf", "(I)I"⟩, 24), (⟨"GateNamesModel", "namesBy", "(II)I"⟩, 24), (⟨"GateNamesModel", "ofKind", "(I)I"⟩, 24), (⟨"GateNamesModel", "isThrough", "(I)Z"⟩, 24), (⟨"GateNamesModel", "isOpen", "(I)Z"⟩, 24), (⟨"GateNamesModel", "left", "()I"⟩, 24), (⟨"GateNamesModel", "isSet", "(I)Z"⟩, 24), (⟨"GateNamesModel", "begin", "()V"⟩, 24), (⟨"GateNamesModel", "meetNow", "(II)I"⟩, 24)]
theorem lw_r5 : ∀ q ∈ lw_privs_5, lw_okq q := List.forall_mem_cons.mpr ⟨lw_p64, List.forall_mem_cons.mpr ⟨lw_p65, List.forall_mem_cons.mpr ⟨lw_p66, List.forall_mem_cons.mpr ⟨lw_p67, List.forall_mem_cons.mpr ⟨lw_p68, List.forall_mem_cons.mpr ⟨lw_p69, List.forall_mem_cons.mpr ⟨lw_p70, List.forall_mem_cons.mpr ⟨lw_p71, List.forall_mem_cons.mpr ⟨lw_p72, List.forall_mem_cons.mpr ⟨lw_p73, List.forall_mem_cons.mpr ⟨lw_p74, List.forall_mem_cons.mpr ⟨lw_p75, List.forall_mem_cons.mpr ⟨lw_p76, List.forall_mem_cons.mpr ⟨lw_p77, List.forall_mem_cons.mpr ⟨lw_p78, List.forall_mem_cons.mpr ⟨lw_p79, fun _ h => absurd h List.not_mem_nil⟩⟩⟩⟩⟩⟩⟩⟩⟩⟩⟩⟩⟩⟩⟩⟩
theorem lw_p80 : lw_okq (⟨"GateNamesModel", "tell", "(II)I"⟩, 24) := ⟨⟨by decide +kernel, by decide +kernel⟩, List.mem_of_getElem? (i := 660) (by decide +kernel), List.mem_of_getElem? (i := 886) (by decide +kernel), List.mem_of_getElem? (i := 887) (by decide +kernel)⟩
theorem lw_p81 : lw_okq (⟨"GateNamesModel", "goNow", "(I)V"⟩, 24) := ⟨⟨by decide +kernel, by decide +kernel⟩, List.mem_of_getElem? (i := 660) (by decide +kernel), List.mem_of_getElem? (i := 902) (by decide +kernel), List.mem_of_getElem? (i := 903) (by decide +kernel)⟩
theorem lw_p82 : lw_okq (⟨"GateNamesModel", "openTo", "()I"⟩, 24) := ⟨⟨by decide +kernel, by decide +kernel⟩, List.mem_of_getElem? (i := 660) (by decide +kernel), List.mem_of_getElem? (i := 922) (by decide +kernel), List.mem_of_getElem? (i := 923) (by decide +kernel)⟩
theorem lw_p83 : lw_okq (⟨"GateNamesModel", "tellNames", "()V"⟩, 24) := ⟨⟨by decide +kernel, by decide +kernel⟩, List.mem_of_getElem? (i := 660) (by decide +kernel), List.mem_of_getElem? (i := 930) (by decide +kernel), List.mem_of_getElem? (i := 931) (by decide +kernel)⟩
theorem lw_p84 : lw_okq (⟨"GateNamesModel", "tellMore", "()V"⟩, 24) := ⟨⟨by decide +kernel, by decide +kernel⟩, List.mem_of_getElem? (i := 660) (by decide +kernel), List.mem_of_getElem? (i := 934) (by decide +kernel), List.mem_of_getElem? (i := 935) (by decide +kernel)⟩
theorem lw_p85 : lw_okq (⟨"GateNamesModel", "mayGo", "(II)Z"⟩, 24) := ⟨⟨by decide +kernel, by decide +kernel⟩, List.mem_of_getElem? (i := 660) (by decide +kernel), List.mem_of_getElem? (i := 938) (by decide +kernel), List.mem_of_getElem? (i := 939) (by decide +kernel)⟩
theorem lw_p86 : lw_okq (⟨"GateNamesModel", "tellWays", "()V"⟩, 24) := ⟨⟨by decide +kernel, by decide +kernel⟩, List.mem_of_getElem? (i := 660) (by decide +kernel), List.mem_of_getElem? (i := 947) (by decide +kernel), List.mem_of_getElem? (i := 948) (by decide +kernel)⟩
theorem lw_p87 : lw_okq (⟨"GateNamesModel", "worthOf", "(I)I"⟩, 24) := ⟨⟨by decide +kernel, by decide +kernel⟩, List.mem_of_getElem? (i := 660) (by decide +kernel), List.mem_of_getElem? (i := 951) (by decide +kernel), List.mem_of_getElem? (i := 952) (by decide +kernel)⟩
theorem lw_p88 : lw_okq (⟨"GateNamesModel", "ordersOf", "(I)I"⟩, 24) := ⟨⟨by decide +kernel, by decide +kernel⟩, List.mem_of_getElem? (i := 660) (by decide +kernel), List.mem_of_getElem? (i := 955) (by decide +kernel), List.mem_of_getElem? (i := 956) (by decide +kernel)⟩
theorem lw_p89 : lw_okq (⟨"GateNamesModel", "takeTold", "()V"⟩, 24) := ⟨⟨by decide +kernel, by decide +kernel⟩, List.mem_of_getElem? (i := 660) (by decide +kernel), List.mem_of_getElem? (i := 967) (by decide +kernel), List.mem_of_getElem? (i := 968) (by decide +kernel)⟩
theorem lw_p90 : lw_okq (⟨"GateNamesModel", "canAll", "()Z"⟩, 24) := ⟨⟨by decide +kernel, by decide +kernel⟩, List.mem_of_getElem? (i := 660) (by decide +kernel), List.mem_of_getElem? (i := 971) (by decide +kernel), List.mem_of_getElem? (i := 972) (by decide +kernel)⟩
theorem lw_p91 : lw_okq (⟨"GateNamesModel", "areTwo", "(I)Z"⟩, 24) := ⟨⟨by decide +kernel, by decide +kernel⟩, List.mem_of_getElem? (i := 660) (by decide +kernel), List.mem_of_getElem? (i := 975) (by decide +kernel), List.mem_of_getElem? (i := 976) (by decide +kernel)⟩
theorem lw_p92 : lw_okq (⟨"GateNamesModel", "meetAside", "(II)V"⟩, 24) := ⟨⟨by decide +kernel, by decide +kernel⟩, List.mem_of_getElem? (i := 660) (by decide +kernel), List.mem_of_getElem? (i := 979) (by decide +kernel), List.mem_of_getElem? (i := 980) (by decide +kernel)⟩
theorem lw_p93 : lw_okq (⟨"GateNamesModel", "mostOf", "(I)I"⟩, 24) := ⟨⟨by decide +kernel, by decide +kernel⟩, List.mem_of_getElem? (i := 660) (by decide +kernel), List.mem_of_getElem? (i := 987) (by decide +kernel), List.mem_of_getElem? (i := 988) (by decide +kernel)⟩
theorem lw_p94 : lw_okq (⟨"GateNamesModel", "pairs", "(I)I"⟩, 24) := ⟨⟨by decide +kernel, by decide +kernel⟩, List.mem_of_getElem? (i := 660) (by decide +kernel), List.mem_of_getElem? (i := 1003) (by decide +kernel), List.mem_of_getElem? (i := 1004) (by decide +kernel)⟩
theorem lw_p95 : lw_okq (⟨"GateNamesModel", "kindsBy", "(II)I"⟩, 24) := ⟨⟨by decide +kernel, by decide +kernel⟩, List.mem_of_getElem? (i := 660) (by decide +kernel), List.mem_of_getElem? (i := 1007) (by decide +kernel), List.mem_of_getElem? (i := 1008) (by decide +kernel)⟩
def lw_privs_6 : List (MethodName × Nat) := [(⟨"GateNamesModel", "tell", "(II)I"⟩, 24), (⟨"GateNamesModel", "goNow", "(I)V"⟩, 24), (⟨"GateNamesModel", "openTo", "()I"⟩, 24), (⟨"GateNamesModel", "tellNames", "()V"⟩, 24), (⟨"GateNamesModel", "tellMore", "()V"⟩, 24), (⟨"GateNamesModel", "mayGo", "(II)Z"⟩, 24), (⟨"GateNamesModel", "tellWays", "()V"⟩, 24), (⟨"GateNamesModel", "worthOf", "(I)I"⟩, 24), (⟨"GateNamesModel", "ordersOf", "(I)I"⟩, 24), (⟨"GateNamesModel", "takeTold", "()V"⟩, 24), (⟨"GateNamesModel", "canAll", "()Z"⟩, 24), (⟨"GateNamesModel", "areTwo", "(I)Z"⟩, 24), (⟨"GateNamesModel", "meetAside", "(II)V"⟩, 24), (⟨"GateNamesModel", "mostOf", "(I)I"⟩, 24), (⟨"GateNamesModel", "pairs", "(I)I"⟩, 24), (⟨"GateNamesModel", "kindsBy", "(II)I"⟩, 24)]
theorem lw_r6 : ∀ q ∈ lw_privs_6, lw_okq q := List.forall_mem_cons.mpr ⟨lw_p80, List.forall_mem_cons.mpr ⟨lw_p81, List.forall_mem_cons.mpr ⟨lw_p82, List.forall_mem_cons.mpr ⟨lw_p83, List.forall_mem_cons.mpr ⟨lw_p84, List.forall_mem_cons.mpr ⟨lw_p85, List.forall_mem_cons.mpr ⟨lw_p86, List.forall_mem_cons.mpr ⟨lw_p87, List.forall_mem_cons.mpr ⟨lw_p88, List.forall_mem_cons.mpr ⟨lw_p89, List.forall_mem_cons.mpr ⟨lw_p90, List.forall_mem_cons.mpr ⟨lw_p91, List.forall_mem_cons.mpr ⟨lw_p92, List.forall_mem_cons.mpr ⟨lw_p93, List.forall_mem_cons.mpr ⟨lw_p94, List.forall_mem_cons.mpr ⟨lw_p95, fun _ h => absurd h List.not_mem_nil⟩⟩⟩⟩⟩⟩⟩⟩⟩⟩⟩⟩⟩⟩⟩⟩
theorem lw_p96 : lw_okq (⟨"GateNamesModel", "waysOf", "(II)J"⟩, 24) := ⟨⟨by decide +kernel, by decide +kernel⟩, List.mem_of_getElem? (i := 660) (by decide +kernel), List.mem_of_getElem? (i := 1023) (by decide +kernel), List.mem_of_getElem? (i := 1024) (by decide +kernel)⟩
theorem lw_p97 : lw_okq (⟨"GateNamesModel", "allWays", "()J"⟩, 24) := ⟨⟨by decide +kernel, by decide +kernel⟩, List.mem_of_getElem? (i := 660) (by decide +kernel), List.mem_of_getElem? (i := 1028) (by decide +kernel), List.mem_of_getElem? (i := 1029) (by decide +kernel)⟩
theorem lw_p98 : lw_okq (⟨"GateNamesModel", "fraction", "(JJ)I"⟩, 24) := ⟨⟨by decide +kernel, by decide +kernel⟩, List.mem_of_getElem? (i := 660) (by decide +kernel), List.mem_of_getElem? (i := 1032) (by decide +kernel), List.mem_of_getElem? (i := 1033) (by decide +kernel)⟩
theorem lw_p99 : lw_okq (⟨"GateNamesModel", "lot", "(III)V"⟩, 24) := ⟨⟨by decide +kernel, by decide +kernel⟩, List.mem_of_getElem? (i := 660) (by decide +kernel), List.mem_of_getElem? (i := 1050) (by decide +kernel), List.mem_of_getElem? (i := 1051) (by decide +kernel)⟩
theorem lw_p100 : lw_okq (⟨"GateNamesModel", "thereAre", "(I)I"⟩, 24) := ⟨⟨by decide +kernel, by decide +kernel⟩, List.mem_of_getElem? (i := 660) (by decide +kernel), List.mem_of_getElem? (i := 1070) (by decide +kernel), List.mem_of_getElem? (i := 1071) (by decide +kernel)⟩
def lw_privs_7 : List (MethodName × Nat) := [(⟨"GateNamesModel", "waysOf", "(II)J"⟩, 24), (⟨"GateNamesModel", "allWays", "()J"⟩, 24), (⟨"GateNamesModel", "fraction", "(JJ)I"⟩, 24), (⟨"GateNamesModel", "lot", "(III)V"⟩, 24), (⟨"GateNamesModel", "thereAre", "(I)I"⟩, 24)]
theorem lw_r7 : ∀ q ∈ lw_privs_7, lw_okq q := List.forall_mem_cons.mpr ⟨lw_p96, List.forall_mem_cons.mpr ⟨lw_p97, List.forall_mem_cons.mpr ⟨lw_p98, List.forall_mem_cons.mpr ⟨lw_p99, List.forall_mem_cons.mpr ⟨lw_p100, fun _ h => absurd h List.not_mem_nil⟩⟩⟩⟩⟩
def lw_privs : List (MethodName × Nat) := lw_privs_1 ++ (lw_privs_2 ++ (lw_privs_3 ++ (lw_privs_4 ++ (lw_privs_5 ++ (lw_privs_6 ++ (lw_privs_7))))))
def lw_tbl : List Cond := k2_sels lw_privs ++ tables_1
theorem lw_privs_ok : ∀ q ∈ lw_privs, lw_okq q := by
  show ∀ q ∈ lw_privs_1 ++ (lw_privs_2 ++ (lw_privs_3 ++ (lw_privs_4 ++ (lw_privs_5 ++ (lw_privs_6 ++ (lw_privs_7)))))), lw_okq q
  exact List.forall_mem_append.mpr ⟨lw_r1, List.forall_mem_append.mpr ⟨lw_r2, List.forall_mem_append.mpr ⟨lw_r3, List.forall_mem_append.mpr ⟨lw_r4, List.forall_mem_append.mpr ⟨lw_r5, List.forall_mem_append.mpr ⟨lw_r6, lw_r7⟩⟩⟩⟩⟩⟩
end
section
def RX0 : String := "GateNames$Gate"
def TX0 : u_T := fun k => match k with
  | 0 => ("GateNames$Gate", "kindOf", "[I", true)
  | 1 => ("GateNames$Gate", "worths", "[I", true)
  | 2 => ("GateNames$Gate", "toldAtFirst", "[I", true)
  | 3 => ("GateNames$Gate", "told", "[I", true)
  | 4 => ("GateNames$Gate", "ofKind", "[I", true)
  | 5 => ("GateNames$Gate", "deeds", "[I", true)
  | 6 => ("GateNames$Gate", "goers", "I", false)
  | 7 => ("GateNames$Gate", "deedCount", "I", false)
  | 8 => ("GateNames$Gate", "gone", "I", false)
  | 9 => ("GateNames$Gate", "lastGone", "I", false)
  | _ => ("GateNames$Gate", "onStone", "I", false)
def tyX0 : Nat → FieldType := fun k => match k with
  | 0 => .array .int
  | 1 => .array .int
  | 2 => .array .int
  | 3 => .array .int
  | 4 => .array .int
  | 5 => .array .int
  | 6 => .int
  | 7 => .int
  | 8 => .int
  | 9 => .int
  | _ => .int
theorem nmX0 : ∀ a, a < 11 → ∀ b, b < 11 → a ≠ b → (TX0 a).2.1 ≠ (TX0 b).2.1 := by decide +kernel
theorem tyX0_ok : ∀ k, k < 11 → parseFieldDescriptor (TX0 k).2.2.1 = some (tyX0 k) := by decide +kernel
abbrev cX0_init : ByteArray := prog_2_method_1_code
def yX0_init : MethodName := ⟨RX0, "<init>", "()V"⟩
abbrev cX0_numbers : ByteArray := prog_2_method_2_code
def yX0_numbers : MethodName := ⟨RX0, "numbers", "(I)Z"⟩
abbrev cX0_holds : ByteArray := prog_2_method_3_code
def yX0_holds : MethodName := ⟨RX0, "holds", "(I)Z"⟩
abbrev cX0_left : ByteArray := prog_2_method_4_code
def yX0_left : MethodName := ⟨RX0, "left", "()I"⟩
abbrev cX0_waits : ByteArray := prog_2_method_5_code
def yX0_waits : MethodName := ⟨RX0, "waits", "(I)Z"⟩
abbrev cX0_canMeet : ByteArray := prog_2_method_6_code
def yX0_canMeet : MethodName := ⟨RX0, "canMeet", "(II)Z"⟩
abbrev cX0_spare : ByteArray := prog_2_method_7_code
def yX0_spare : MethodName := ⟨RX0, "spare", "()I"⟩
abbrev cX0_gather : ByteArray := prog_2_method_8_code
def yX0_gather : MethodName := ⟨RX0, "gather", "([II)V"⟩
abbrev cX0_startAnew : ByteArray := prog_2_method_9_code
def yX0_startAnew : MethodName := ⟨RX0, "startAnew", "()V"⟩
abbrev cX0_doAgain : ByteArray := prog_2_method_10_code
def yX0_doAgain : MethodName := ⟨RX0, "doAgain", "([II)V"⟩
abbrev cX0_add : ByteArray := prog_2_method_11_code
def yX0_add : MethodName := ⟨RX0, "add", "(III)V"⟩
abbrev cX0_meetAside : ByteArray := prog_2_method_12_code
def yX0_meetAside : MethodName := ⟨RX0, "meetAside", "(II[I[I)V"⟩
abbrev cX0_tellings : ByteArray := prog_2_method_13_code
def yX0_tellings : MethodName := ⟨RX0, "tellings", "()I"⟩
abbrev cX0_tellingOf : ByteArray := prog_2_method_14_code
def yX0_tellingOf : MethodName := ⟨RX0, "tellingOf", "(I)I"⟩
abbrev cX0_naming : ByteArray := prog_2_method_15_code
def yX0_naming : MethodName := ⟨RX0, "naming", "(I[I)I"⟩
abbrev cX0_namersOf : ByteArray := prog_2_method_16_code
def yX0_namersOf : MethodName := ⟨RX0, "namersOf", "(I)I"⟩
abbrev cX0_toldOf : ByteArray := prog_2_method_17_code
def yX0_toldOf : MethodName := ⟨RX0, "toldOf", "(I)I"⟩
abbrev cX0_opensTo : ByteArray := prog_2_method_18_code
def yX0_opensTo : MethodName := ⟨RX0, "opensTo", "(I)Z"⟩
abbrev cX0_opened : ByteArray := prog_2_method_19_code
def yX0_opened : MethodName := ⟨RX0, "opened", "()I"⟩
abbrev cX0_worthOf : ByteArray := prog_2_method_20_code
def yX0_worthOf : MethodName := ⟨RX0, "worthOf", "(I)I"⟩
def RX1 : String := "GateNames$Road"
def TX1 : u_T := fun k => match k with
  | 0 => ("GateNames$Road", "after", "[I", true)
  | 1 => ("GateNames$Road", "starters", "[I", true)
  | 2 => ("GateNames$Road", "best", "[I", true)
  | 3 => ("GateNames$Road", "winners", "[I", true)
  | 4 => ("GateNames$Road", "ways", "[I", true)
  | 5 => ("GateNames$Road", "goers", "I", false)
  | 6 => ("GateNames$Road", "left", "I", false)
  | _ => ("GateNames$Road", "opened", "I", false)
def tyX1 : Nat → FieldType := fun k => match k with
  | 0 => .array .int
  | 1 => .array .int
  | 2 => .array .int
  | 3 => .array .int
  | 4 => .array .int
  | 5 => .int
  | 6 => .int
  | _ => .int
theorem nmX1 : ∀ a, a < 8 → ∀ b, b < 8 → a ≠ b → (TX1 a).2.1 ≠ (TX1 b).2.1 := by decide +kernel
theorem tyX1_ok : ∀ k, k < 8 → parseFieldDescriptor (TX1 k).2.2.1 = some (tyX1 k) := by decide +kernel
abbrev cX1_init : ByteArray := prog_3_method_1_code
def yX1_init : MethodName := ⟨RX1, "<init>", "()V"⟩
abbrev cX1_survey : ByteArray := prog_3_method_2_code
def yX1_survey : MethodName := ⟨RX1, "survey", "(LGateNames$Gate;[I)V"⟩
abbrev cX1_look : ByteArray := prog_3_method_3_code
def yX1_look : MethodName := ⟨RX1, "look", "(LGateNames$Gate;[I)V"⟩
abbrev cX1_within : ByteArray := prog_3_method_4_code
def yX1_within : MethodName := ⟨RX1, "within", "(I)Z"⟩
abbrev cX1_mayAllCome : ByteArray := prog_3_method_5_code
def yX1_mayAllCome : MethodName := ⟨RX1, "mayAllCome", "()Z"⟩
abbrev cX1_chain : ByteArray := prog_3_method_6_code
def yX1_chain : MethodName := ⟨RX1, "chain", "()V"⟩
abbrev cX1_startersOf : ByteArray := prog_3_method_7_code
def yX1_startersOf : MethodName := ⟨RX1, "startersOf", "(I)I"⟩
abbrev cX1_comesThrough : ByteArray := prog_3_method_8_code
def yX1_comesThrough : MethodName := ⟨RX1, "comesThrough", "(I)Z"⟩
abbrev cX1_rank : ByteArray := prog_3_method_9_code
def yX1_rank : MethodName := ⟨RX1, "rank", "()V"⟩
abbrev cX1_bestWithoutOne : ByteArray := prog_3_method_10_code
def yX1_bestWithoutOne : MethodName := ⟨RX1, "bestWithoutOne", "(I)I"⟩
abbrev cX1_writeFirstRow : ByteArray := prog_3_method_11_code
def yX1_writeFirstRow : MethodName := ⟨RX1, "writeFirstRow", "([II)V"⟩
abbrev cX1_firstsOf : ByteArray := prog_3_method_12_code
def yX1_firstsOf : MethodName := ⟨RX1, "firstsOf", "(II)I"⟩
abbrev cX1_ordersOfAll : ByteArray := prog_3_method_13_code
def yX1_ordersOfAll : MethodName := ⟨RX1, "ordersOfAll", "()I"⟩
abbrev cX1_countWays : ByteArray := prog_3_method_14_code
def yX1_countWays : MethodName := ⟨RX1, "countWays", "(I)V"⟩
abbrev cX1_waysFrom : ByteArray := prog_3_method_15_code
def yX1_waysFrom : MethodName := ⟨RX1, "waysFrom", "(II)I"⟩
abbrev cX1_winningGoer : ByteArray := prog_3_method_16_code
def yX1_winningGoer : MethodName := ⟨RX1, "winningGoer", "()I"⟩
abbrev cX1_winnersAt : ByteArray := prog_3_method_17_code
def yX1_winnersAt : MethodName := ⟨RX1, "winnersAt", "(I)I"⟩
abbrev cX1_winningMove : ByteArray := prog_3_method_18_code
def yX1_winningMove : MethodName := ⟨RX1, "winningMove", "(II)I"⟩
def RX2 : String := "GateNames$Shelf"
def TX2 : u_T := fun k => match k with
  | 0 => ("GateNames$Shelf", "strips", "[[I", true)
  | 1 => ("GateNames$Shelf", "sizes", "[I", true)
  | _ => ("GateNames$Shelf", "longest", "I", true)
def tyX2 : Nat → FieldType := fun k => match k with
  | 0 => .array (.array .int)
  | 1 => .array .int
  | _ => .int
theorem nmX2 : ∀ a, a < 3 → ∀ b, b < 3 → a ≠ b → (TX2 a).2.1 ≠ (TX2 b).2.1 := by decide +kernel
theorem tyX2_ok : ∀ k, k < 3 → parseFieldDescriptor (TX2 k).2.2.1 = some (tyX2 k) := by decide +kernel
abbrev cX2_init : ByteArray := prog_4_method_1_code
def yX2_init : MethodName := ⟨RX2, "<init>", "(II)V"⟩
abbrev cX2_numbers : ByteArray := prog_4_method_2_code
def yX2_numbers : MethodName := ⟨RX2, "numbers", "(I)Z"⟩
abbrev cX2_missing : ByteArray := prog_4_method_3_code
def yX2_missing : MethodName := ⟨RX2, "missing", "(I)Z"⟩
abbrev cX2_reaches : ByteArray := prog_4_method_4_code
def yX2_reaches : MethodName := ⟨RX2, "reaches", "(III)Z"⟩
abbrev cX2_spread : ByteArray := prog_4_method_5_code
def yX2_spread : MethodName := ⟨RX2, "spread", "(III)V"⟩
abbrev cX2_total : ByteArray := prog_4_method_6_code
def yX2_total : MethodName := ⟨RX2, "total", "(I)J"⟩
abbrev cX2_present : ByteArray := prog_4_method_7_code
def yX2_present : MethodName := ⟨RX2, "present", "()I"⟩
abbrev cX2_digestFrom : ByteArray := prog_4_method_8_code
def yX2_digestFrom : MethodName := ⟨RX2, "digestFrom", "(J)J"⟩
def RX3 : String := "GateNames"
def TX3 : u_T := fun k => match k with
  | 0 => ("GateNames", "rows", "LGateNames$Shelf;", true)
  | 1 => ("GateNames", "texts", "LGateNames$Shelf;", true)
  | 2 => ("GateNames", "gate", "LGateNames$Gate;", true)
  | 3 => ("GateNames", "road", "LGateNames$Road;", true)
  | 4 => ("GateNames", "keptDeeds", "[[I", true)
  | 5 => ("GateNames", "keptSizes", "[I", true)
  | 6 => ("GateNames", "firstTrial", "[I", true)
  | 7 => ("GateNames", "secondTrial", "[I", true)
  | 8 => ("GateNames", "findingCounts", "[I", true)
  | 9 => ("GateNames", "latestFinding", "I", false)
  | 10 => ("GateNames", "answer", "I", false)
  | 11 => ("GateNames", "upperNumber", "J", false)
  | _ => ("GateNames", "lowerNumber", "J", false)
def tyX3 : Nat → FieldType := fun k => match k with
  | 0 => .object "GateNames$Shelf"
  | 1 => .object "GateNames$Shelf"
  | 2 => .object "GateNames$Gate"
  | 3 => .object "GateNames$Road"
  | 4 => .array (.array .int)
  | 5 => .array .int
  | 6 => .array .int
  | 7 => .array .int
  | 8 => .array .int
  | 9 => .int
  | 10 => .int
  | 11 => .long
  | _ => .long
theorem nmX3 : ∀ a, a < 13 → ∀ b, b < 13 → a ≠ b → (TX3 a).2.1 ≠ (TX3 b).2.1 := by decide +kernel
theorem tyX3_ok : ∀ k, k < 13 → parseFieldDescriptor (TX3 k).2.2.1 = some (tyX3 k) := by decide +kernel
abbrev cX3_init : ByteArray := prog_1_method_1_code
def yX3_init : MethodName := ⟨RX3, "<init>", "()V"⟩
abbrev cX3_row : ByteArray := prog_1_method_2_code
def yX3_row : MethodName := ⟨RX3, "row", "(II)I"⟩
abbrev cX3_lay : ByteArray := prog_1_method_3_code
def yX3_lay : MethodName := ⟨RX3, "lay", "(III)I"⟩
abbrev cX3_at : ByteArray := prog_1_method_4_code
def yX3_at : MethodName := ⟨RX3, "at", "(II)I"⟩
abbrev cX3_tear : ByteArray := prog_1_method_5_code
def yX3_tear : MethodName := ⟨RX3, "tear", "(I)I"⟩
abbrev cX3_copy : ByteArray := prog_1_method_6_code
def yX3_copy : MethodName := ⟨RX3, "copy", "(IIIII)I"⟩
abbrev cX3_mean : ByteArray := prog_1_method_7_code
def yX3_mean : MethodName := ⟨RX3, "mean", "(I)I"⟩
abbrev cX3_text : ByteArray := prog_1_method_8_code
def yX3_text : MethodName := ⟨RX3, "text", "(II)I"⟩
abbrev cX3_put : ByteArray := prog_1_method_9_code
def yX3_put : MethodName := ⟨RX3, "put", "(III)I"⟩
abbrev cX3_fault : ByteArray := prog_1_method_10_code
def yX3_fault : MethodName := ⟨RX3, "fault", "(I)I"⟩
abbrev cX3_gate : ByteArray := prog_1_method_11_code
def yX3_gate : MethodName := ⟨RX3, "gate", "(I)I"⟩
abbrev cX3_goer : ByteArray := prog_1_method_12_code
def yX3_goer : MethodName := ⟨RX3, "goer", "(II)I"⟩
abbrev cX3_mark : ByteArray := prog_1_method_13_code
def yX3_mark : MethodName := ⟨RX3, "mark", "(II)I"⟩
abbrev cX3_tells : ByteArray := prog_1_method_14_code
def yX3_tells : MethodName := ⟨RX3, "tells", "(II)I"⟩
abbrev cX3_meet : ByteArray := prog_1_method_15_code
def yX3_meet : MethodName := ⟨RX3, "meet", "(II)I"⟩
abbrev cX3_card : ByteArray := prog_1_method_16_code
def yX3_card : MethodName := ⟨RX3, "card", "(I)I"⟩
abbrev cX3_reads : ByteArray := prog_1_method_17_code
def yX3_reads : MethodName := ⟨RX3, "reads", "(I)I"⟩
abbrev cX3_go : ByteArray := prog_1_method_18_code
def yX3_go : MethodName := ⟨RX3, "go", "(I)I"⟩
abbrev cX3_undo : ByteArray := prog_1_method_19_code
def yX3_undo : MethodName := ⟨RX3, "undo", "(I)I"⟩
abbrev cX3_keep : ByteArray := prog_1_method_20_code
def yX3_keep : MethodName := ⟨RX3, "keep", "(I)I"⟩
abbrev cX3_on : ByteArray := prog_1_method_21_code
def yX3_on : MethodName := ⟨RX3, "on", "(I)I"⟩
abbrev cX3_open : ByteArray := prog_1_method_22_code
def yX3_open : MethodName := ⟨RX3, "open", "()I"⟩
abbrev cX3_most : ByteArray := prog_1_method_23_code
def yX3_most : MethodName := ⟨RX3, "most", "(I)I"⟩
abbrev cX3_worth : ByteArray := prog_1_method_24_code
def yX3_worth : MethodName := ⟨RX3, "worth", "()I"⟩
abbrev cX3_orders : ByteArray := prog_1_method_25_code
def yX3_orders : MethodName := ⟨RX3, "orders", "()I"⟩
abbrev cX3_meetings : ByteArray := prog_1_method_26_code
def yX3_meetings : MethodName := ⟨RX3, "meetings", "()I"⟩
abbrev cX3_stone : ByteArray := prog_1_method_27_code
def yX3_stone : MethodName := ⟨RX3, "stone", "()I"⟩
abbrev cX3_hold : ByteArray := prog_1_method_28_code
def yX3_hold : MethodName := ⟨RX3, "hold", "()I"⟩
abbrev cX3_last : ByteArray := prog_1_method_29_code
def yX3_last : MethodName := ⟨RX3, "last", "(I)I"⟩
abbrev cX3_kinds : ByteArray := prog_1_method_30_code
def yX3_kinds : MethodName := ⟨RX3, "kinds", "(II)I"⟩
abbrev cX3_test : ByteArray := prog_1_method_31_code
def yX3_test : MethodName := ⟨RX3, "test", "(II)I"⟩
abbrev cX3_duel : ByteArray := prog_1_method_32_code
def yX3_duel : MethodName := ⟨RX3, "duel", "()I"⟩
abbrev cX3_odds : ByteArray := prog_1_method_33_code
def yX3_odds : MethodName := ⟨RX3, "odds", "(I)I"⟩
abbrev cX3_mid : ByteArray := prog_1_method_34_code
def yX3_mid : MethodName := ⟨RX3, "mid", "(I)I"⟩
abbrev cX3_lots : ByteArray := prog_1_method_35_code
def yX3_lots : MethodName := ⟨RX3, "lots", "(II)I"⟩
abbrev cX3_asked : ByteArray := prog_1_method_36_code
def yX3_asked : MethodName := ⟨RX3, "asked", "()I"⟩
abbrev cX3_upper : ByteArray := prog_1_method_37_code
def yX3_upper : MethodName := ⟨RX3, "upper", "()J"⟩
abbrev cX3_lower : ByteArray := prog_1_method_38_code
def yX3_lower : MethodName := ⟨RX3, "lower", "()J"⟩
abbrev cX3_count : ByteArray := prog_1_method_39_code
def yX3_count : MethodName := ⟨RX3, "count", "(I)I"⟩
abbrev cX3_finding : ByteArray := prog_1_method_40_code
def yX3_finding : MethodName := ⟨RX3, "finding", "()I"⟩
abbrev cX3_findings : ByteArray := prog_1_method_41_code
def yX3_findings : MethodName := ⟨RX3, "findings", "(I)I"⟩
abbrev cX3_digest : ByteArray := prog_1_method_42_code
def yX3_digest : MethodName := ⟨RX3, "digest", "()J"⟩
abbrev cX3_found : ByteArray := prog_1_method_43_code
def yX3_found : MethodName := ⟨RX3, "found", "(I)I"⟩
abbrev cX3_toldByAsked : ByteArray := prog_1_method_44_code
def yX3_toldByAsked : MethodName := ⟨RX3, "toldByAsked", "(I)I"⟩
abbrev cX3_toldAside : ByteArray := prog_1_method_45_code
def yX3_toldAside : MethodName := ⟨RX3, "toldAside", "(II)I"⟩
abbrev cX3_toldInParts : ByteArray := prog_1_method_46_code
def yX3_toldInParts : MethodName := ⟨RX3, "toldInParts", "(J)I"⟩
abbrev cX3_make : ByteArray := prog_1_method_47_code
def yX3_make : MethodName := ⟨RX3, "make", "(LGateNames$Shelf;III)I"⟩
abbrev cX3_refusalOfStrip : ByteArray := prog_1_method_48_code
def yX3_refusalOfStrip : MethodName := ⟨RX3, "refusalOfStrip", "(LGateNames$Shelf;I)I"⟩
abbrev cX3_refusalOfPlace : ByteArray := prog_1_method_49_code
def yX3_refusalOfPlace : MethodName := ⟨RX3, "refusalOfPlace", "(LGateNames$Shelf;II)I"⟩
abbrev cX3_refusalAtStone : ByteArray := prog_1_method_50_code
def yX3_refusalAtStone : MethodName := ⟨RX3, "refusalAtStone", "(I)I"⟩
abbrev cX3_refusalOfPairs : ByteArray := prog_1_method_51_code
def yX3_refusalOfPairs : MethodName := ⟨RX3, "refusalOfPairs", "(II)I"⟩
abbrev cX3_traitOf : ByteArray := prog_1_method_52_code
def yX3_traitOf : MethodName := ⟨RX3, "traitOf", "(II)I"⟩
abbrev cX3_countOf : ByteArray := prog_1_method_53_code
def yX3_countOf : MethodName := ⟨RX3, "countOf", "(I)I"⟩
abbrev cX3_keptGates : ByteArray := prog_1_method_54_code
def yX3_keptGates : MethodName := ⟨RX3, "keptGates", "()I"⟩
abbrev cX3_allCome : ByteArray := prog_1_method_55_code
def yX3_allCome : MethodName := ⟨RX3, "allCome", "([I)Z"⟩
abbrev cX3_firstMeeting : ByteArray := prog_1_method_56_code
def yX3_firstMeeting : MethodName := ⟨RX3, "firstMeeting", "([I[I)I"⟩
abbrev cX3_firstTwoMeetings : ByteArray := prog_1_method_57_code
def yX3_firstTwoMeetings : MethodName := ⟨RX3, "firstTwoMeetings", "()I"⟩
abbrev cX3_mostByCardOf : ByteArray := prog_1_method_58_code
def yX3_mostByCardOf : MethodName := ⟨RX3, "mostByCardOf", "(I)I"⟩
abbrev cX3_kindsByPairs : ByteArray := prog_1_method_59_code
def yX3_kindsByPairs : MethodName := ⟨RX3, "kindsByPairs", "(II)I"⟩
abbrev cX3_fitsPairs : ByteArray := prog_1_method_60_code
def yX3_fitsPairs : MethodName := ⟨RX3, "fitsPairs", "(III)Z"⟩
abbrev cX3_doByLot : ByteArray := prog_1_method_61_code
def yX3_doByLot : MethodName := ⟨RX3, "doByLot", "(I)V"⟩
abbrev cX3_weightOf : ByteArray := prog_1_method_62_code
def yX3_weightOf : MethodName := ⟨RX3, "weightOf", "(II)J"⟩
abbrev cX3_greatestPart : ByteArray := prog_1_method_63_code
def yX3_greatestPart : MethodName := ⟨RX3, "greatestPart", "(III)I"⟩
abbrev cX3_tellingAs : ByteArray := prog_1_method_64_code
def yX3_tellingAs : MethodName := ⟨RX3, "tellingAs", "(III)I"⟩
abbrev cX3_isIn : ByteArray := prog_1_method_65_code
def yX3_isIn : MethodName := ⟨RX3, "isIn", "(II)Z"⟩
abbrev cX3_power : ByteArray := prog_1_method_66_code
def yX3_power : MethodName := ⟨RX3, "power", "(II)J"⟩
abbrev cX3_commonDivisor : ByteArray := prog_1_method_67_code
def yX3_commonDivisor : MethodName := ⟨RX3, "commonDivisor", "(JJ)J"⟩
abbrev cX3_faultIn : ByteArray := prog_1_method_68_code
def yX3_faultIn : MethodName := ⟨RX3, "faultIn", "([II)I"⟩
abbrev cX3_goodSigns : ByteArray := prog_1_method_69_code
def yX3_goodSigns : MethodName := ⟨RX3, "goodSigns", "([III)I"⟩
abbrev cX3_kindOfLetter : ByteArray := prog_1_method_70_code
def yX3_kindOfLetter : MethodName := ⟨RX3, "kindOfLetter", "(I)I"⟩
abbrev cX3_isFigure : ByteArray := prog_1_method_71_code
def yX3_isFigure : MethodName := ⟨RX3, "isFigure", "(I)Z"⟩
def RX4 : String := "GateNamesModel"
def TX4 : u_T := fun k => match k with
  | 0 => ("GateNamesModel", "latest", "I", false)
  | 1 => ("GateNamesModel", "found", "[I", true)
  | 2 => ("GateNamesModel", "asked", "I", false)
  | 3 => ("GateNamesModel", "upper", "J", false)
  | 4 => ("GateNamesModel", "lower", "J", false)
  | 5 => ("GateNamesModel", "wide", "[I", true)
  | 6 => ("GateNamesModel", "rows", "[I", true)
  | 7 => ("GateNamesModel", "far", "[I", true)
  | 8 => ("GateNamesModel", "texts", "[B", true)
  | 9 => ("GateNamesModel", "moved", "[I", true)
  | 10 => ("GateNamesModel", "goers", "I", false)
  | 11 => ("GateNamesModel", "kind", "[I", true)
  | 12 => ("GateNamesModel", "worth", "[I", true)
  | 13 => ("GateNamesModel", "first", "[I", true)
  | 14 => ("GateNamesModel", "drafts", "I", false)
  | 15 => ("GateNamesModel", "all", "[I", true)
  | 16 => ("GateNamesModel", "deeds", "I", false)
  | 17 => ("GateNamesModel", "kept", "[I", true)
  | 18 => ("GateNamesModel", "keptDeeds", "[I", true)
  | 19 => ("GateNamesModel", "names", "[I", true)
  | 20 => ("GateNamesModel", "ways", "[I", true)
  | 21 => ("GateNamesModel", "more", "[I", true)
  | 22 => ("GateNamesModel", "would", "[I", true)
  | _ => ("GateNamesModel", "wins", "[Z", true)
def tyX4 : Nat → FieldType := fun k => match k with
  | 0 => .int
  | 1 => .array .int
  | 2 => .int
  | 3 => .long
  | 4 => .long
  | 5 => .array .int
  | 6 => .array .int
  | 7 => .array .int
  | 8 => .array .byte
  | 9 => .array .int
  | 10 => .int
  | 11 => .array .int
  | 12 => .array .int
  | 13 => .array .int
  | 14 => .int
  | 15 => .array .int
  | 16 => .int
  | 17 => .array .int
  | 18 => .array .int
  | 19 => .array .int
  | 20 => .array .int
  | 21 => .array .int
  | 22 => .array .int
  | _ => .array .boolean
theorem nmX4 : ∀ a, a < 24 → ∀ b, b < 24 → a ≠ b → (TX4 a).2.1 ≠ (TX4 b).2.1 := by decide +kernel
theorem tyX4_ok : ∀ k, k < 24 → parseFieldDescriptor (TX4 k).2.2.1 = some (tyX4 k) := by decide +kernel
abbrev cX4_init : ByteArray := prog_6_method_1_code
def yX4_init : MethodName := ⟨RX4, "<init>", "()V"⟩
abbrev cX4_in : ByteArray := prog_6_method_3_code
def yX4_in : MethodName := ⟨RX4, "in", "(III)Z"⟩
abbrev cX4_has : ByteArray := prog_6_method_4_code
def yX4_has : MethodName := ⟨RX4, "has", "(II)Z"⟩
abbrev cX4_bitsOf : ByteArray := prog_6_method_5_code
def yX4_bitsOf : MethodName := ⟨RX4, "bitsOf", "(I)I"⟩
abbrev cX4_find : ByteArray := prog_6_method_6_code
def yX4_find : MethodName := ⟨RX4, "find", "(I)I"⟩
abbrev cX4_told : ByteArray := prog_6_method_7_code
def yX4_told : MethodName := ⟨RX4, "told", "(I)I"⟩
abbrev cX4_fraction : ByteArray := prog_6_method_8_code
def yX4_fraction : MethodName := ⟨RX4, "fraction", "(JJ)I"⟩
abbrev cX4_isRow : ByteArray := prog_6_method_9_code
def yX4_isRow : MethodName := ⟨RX4, "isRow", "(I)Z"⟩
abbrev cX4_isText : ByteArray := prog_6_method_10_code
def yX4_isText : MethodName := ⟨RX4, "isText", "(I)Z"⟩
abbrev cX4_row : ByteArray := prog_6_method_11_code
def yX4_row : MethodName := ⟨RX4, "row", "(II)I"⟩
abbrev cX4_lay : ByteArray := prog_6_method_12_code
def yX4_lay : MethodName := ⟨RX4, "lay", "(III)I"⟩
abbrev cX4_at : ByteArray := prog_6_method_13_code
def yX4_at : MethodName := ⟨RX4, "at", "(II)I"⟩
abbrev cX4_tear : ByteArray := prog_6_method_14_code
def yX4_tear : MethodName := ⟨RX4, "tear", "(I)I"⟩
abbrev cX4_copy : ByteArray := prog_6_method_15_code
def yX4_copy : MethodName := ⟨RX4, "copy", "(IIIII)I"⟩
abbrev cX4_mean : ByteArray := prog_6_method_16_code
def yX4_mean : MethodName := ⟨RX4, "mean", "(I)I"⟩
abbrev cX4_text : ByteArray := prog_6_method_17_code
def yX4_text : MethodName := ⟨RX4, "text", "(II)I"⟩
abbrev cX4_put : ByteArray := prog_6_method_18_code
def yX4_put : MethodName := ⟨RX4, "put", "(III)I"⟩
abbrev cX4_kindOf : ByteArray := prog_6_method_19_code
def yX4_kindOf : MethodName := ⟨RX4, "kindOf", "(I)I"⟩
abbrev cX4_read : ByteArray := prog_6_method_20_code
def yX4_read : MethodName := ⟨RX4, "read", "(I)I"⟩
abbrev cX4_fault : ByteArray := prog_6_method_21_code
def yX4_fault : MethodName := ⟨RX4, "fault", "(I)I"⟩
abbrev cX4_gate : ByteArray := prog_6_method_22_code
def yX4_gate : MethodName := ⟨RX4, "gate", "(I)I"⟩
abbrev cX4_now : ByteArray := prog_6_method_23_code
def yX4_now : MethodName := ⟨RX4, "now", "(I)I"⟩
abbrev cX4_isGoer : ByteArray := prog_6_method_24_code
def yX4_isGoer : MethodName := ⟨RX4, "isGoer", "(I)Z"⟩
abbrev cX4_isSet : ByteArray := prog_6_method_25_code
def yX4_isSet : MethodName := ⟨RX4, "isSet", "(I)Z"⟩
abbrev cX4_toldOf : ByteArray := prog_6_method_26_code
def yX4_toldOf : MethodName := ⟨RX4, "toldOf", "(I)I"⟩
abbrev cX4_tellsBy : ByteArray := prog_6_method_27_code
def yX4_tellsBy : MethodName := ⟨RX4, "tellsBy", "(III)I"⟩
abbrev cX4_tellsOf : ByteArray := prog_6_method_28_code
def yX4_tellsOf : MethodName := ⟨RX4, "tellsOf", "(I)I"⟩
abbrev cX4_ofKind : ByteArray := prog_6_method_29_code
def yX4_ofKind : MethodName := ⟨RX4, "ofKind", "(I)I"⟩
abbrev cX4_namesBy : ByteArray := prog_6_method_30_code
def yX4_namesBy : MethodName := ⟨RX4, "namesBy", "(II)I"⟩
abbrev cX4_namesOf : ByteArray := prog_6_method_31_code
def yX4_namesOf : MethodName := ⟨RX4, "namesOf", "(I)I"⟩
abbrev cX4_isThrough : ByteArray := prog_6_method_32_code
def yX4_isThrough : MethodName := ⟨RX4, "isThrough", "(I)Z"⟩
abbrev cX4_isOpen : ByteArray := prog_6_method_33_code
def yX4_isOpen : MethodName := ⟨RX4, "isOpen", "(I)Z"⟩
abbrev cX4_openTo : ByteArray := prog_6_method_34_code
def yX4_openTo : MethodName := ⟨RX4, "openTo", "()I"⟩
abbrev cX4_left : ByteArray := prog_6_method_35_code
def yX4_left : MethodName := ⟨RX4, "left", "()I"⟩
abbrev cX4_factOf : ByteArray := prog_6_method_36_code
def yX4_factOf : MethodName := ⟨RX4, "factOf", "(II)I"⟩
abbrev cX4_goer : ByteArray := prog_6_method_37_code
def yX4_goer : MethodName := ⟨RX4, "goer", "(II)I"⟩
abbrev cX4_mark : ByteArray := prog_6_method_38_code
def yX4_mark : MethodName := ⟨RX4, "mark", "(II)I"⟩
abbrev cX4_tells : ByteArray := prog_6_method_39_code
def yX4_tells : MethodName := ⟨RX4, "tells", "(II)I"⟩
abbrev cX4_begin : ByteArray := prog_6_method_40_code
def yX4_begin : MethodName := ⟨RX4, "begin", "()V"⟩
abbrev cX4_tell : ByteArray := prog_6_method_41_code
def yX4_tell : MethodName := ⟨RX4, "tell", "(II)I"⟩
abbrev cX4_meetNow : ByteArray := prog_6_method_42_code
def yX4_meetNow : MethodName := ⟨RX4, "meetNow", "(II)I"⟩
abbrev cX4_meet : ByteArray := prog_6_method_43_code
def yX4_meet : MethodName := ⟨RX4, "meet", "(II)I"⟩
abbrev cX4_card : ByteArray := prog_6_method_44_code
def yX4_card : MethodName := ⟨RX4, "card", "(I)I"⟩
abbrev cX4_reads : ByteArray := prog_6_method_45_code
def yX4_reads : MethodName := ⟨RX4, "reads", "(I)I"⟩
abbrev cX4_goNow : ByteArray := prog_6_method_46_code
def yX4_goNow : MethodName := ⟨RX4, "goNow", "(I)V"⟩
abbrev cX4_go : ByteArray := prog_6_method_47_code
def yX4_go : MethodName := ⟨RX4, "go", "(I)I"⟩
abbrev cX4_undo : ByteArray := prog_6_method_48_code
def yX4_undo : MethodName := ⟨RX4, "undo", "(I)I"⟩
abbrev cX4_keep : ByteArray := prog_6_method_49_code
def yX4_keep : MethodName := ⟨RX4, "keep", "(I)I"⟩
abbrev cX4_on : ByteArray := prog_6_method_50_code
def yX4_on : MethodName := ⟨RX4, "on", "(I)I"⟩
abbrev cX4_tellNames : ByteArray := prog_6_method_51_code
def yX4_tellNames : MethodName := ⟨RX4, "tellNames", "()V"⟩
abbrev cX4_mayGo : ByteArray := prog_6_method_52_code
def yX4_mayGo : MethodName := ⟨RX4, "mayGo", "(II)Z"⟩
abbrev cX4_tellWays : ByteArray := prog_6_method_53_code
def yX4_tellWays : MethodName := ⟨RX4, "tellWays", "()V"⟩
abbrev cX4_ordersOf : ByteArray := prog_6_method_54_code
def yX4_ordersOf : MethodName := ⟨RX4, "ordersOf", "(I)I"⟩
abbrev cX4_mostOf : ByteArray := prog_6_method_55_code
def yX4_mostOf : MethodName := ⟨RX4, "mostOf", "(I)I"⟩
abbrev cX4_tellMore : ByteArray := prog_6_method_56_code
def yX4_tellMore : MethodName := ⟨RX4, "tellMore", "()V"⟩
abbrev cX4_open : ByteArray := prog_6_method_57_code
def yX4_open : MethodName := ⟨RX4, "open", "()I"⟩
abbrev cX4_most : ByteArray := prog_6_method_58_code
def yX4_most : MethodName := ⟨RX4, "most", "(I)I"⟩
abbrev cX4_worthOf : ByteArray := prog_6_method_59_code
def yX4_worthOf : MethodName := ⟨RX4, "worthOf", "(I)I"⟩
abbrev cX4_worth : ByteArray := prog_6_method_60_code
def yX4_worth : MethodName := ⟨RX4, "worth", "()I"⟩
abbrev cX4_orders : ByteArray := prog_6_method_61_code
def yX4_orders : MethodName := ⟨RX4, "orders", "()I"⟩
abbrev cX4_takeTold : ByteArray := prog_6_method_62_code
def yX4_takeTold : MethodName := ⟨RX4, "takeTold", "()V"⟩
abbrev cX4_meetAside : ByteArray := prog_6_method_63_code
def yX4_meetAside : MethodName := ⟨RX4, "meetAside", "(II)V"⟩
abbrev cX4_canAll : ByteArray := prog_6_method_64_code
def yX4_canAll : MethodName := ⟨RX4, "canAll", "()Z"⟩
abbrev cX4_areTwo : ByteArray := prog_6_method_65_code
def yX4_areTwo : MethodName := ⟨RX4, "areTwo", "(I)Z"⟩
abbrev cX4_meetings : ByteArray := prog_6_method_66_code
def yX4_meetings : MethodName := ⟨RX4, "meetings", "()I"⟩
abbrev cX4_stone : ByteArray := prog_6_method_67_code
def yX4_stone : MethodName := ⟨RX4, "stone", "()I"⟩
abbrev cX4_hold : ByteArray := prog_6_method_68_code
def yX4_hold : MethodName := ⟨RX4, "hold", "()I"⟩
abbrev cX4_last : ByteArray := prog_6_method_69_code
def yX4_last : MethodName := ⟨RX4, "last", "(I)I"⟩
abbrev cX4_pairs : ByteArray := prog_6_method_70_code
def yX4_pairs : MethodName := ⟨RX4, "pairs", "(I)I"⟩
abbrev cX4_kindsBy : ByteArray := prog_6_method_71_code
def yX4_kindsBy : MethodName := ⟨RX4, "kindsBy", "(II)I"⟩
abbrev cX4_kinds : ByteArray := prog_6_method_72_code
def yX4_kinds : MethodName := ⟨RX4, "kinds", "(II)I"⟩
abbrev cX4_test : ByteArray := prog_6_method_73_code
def yX4_test : MethodName := ⟨RX4, "test", "(II)I"⟩
abbrev cX4_duel : ByteArray := prog_6_method_74_code
def yX4_duel : MethodName := ⟨RX4, "duel", "()I"⟩
abbrev cX4_waysOf : ByteArray := prog_6_method_75_code
def yX4_waysOf : MethodName := ⟨RX4, "waysOf", "(II)J"⟩
abbrev cX4_allWays : ByteArray := prog_6_method_76_code
def yX4_allWays : MethodName := ⟨RX4, "allWays", "()J"⟩
abbrev cX4_odds : ByteArray := prog_6_method_77_code
def yX4_odds : MethodName := ⟨RX4, "odds", "(I)I"⟩
abbrev cX4_mid : ByteArray := prog_6_method_78_code
def yX4_mid : MethodName := ⟨RX4, "mid", "(I)I"⟩
abbrev cX4_lot : ByteArray := prog_6_method_79_code
def yX4_lot : MethodName := ⟨RX4, "lot", "(III)V"⟩
abbrev cX4_lots : ByteArray := prog_6_method_80_code
def yX4_lots : MethodName := ⟨RX4, "lots", "(II)I"⟩
abbrev cX4_asked : ByteArray := prog_6_method_81_code
def yX4_asked : MethodName := ⟨RX4, "asked", "()I"⟩
abbrev cX4_upper : ByteArray := prog_6_method_82_code
def yX4_upper : MethodName := ⟨RX4, "upper", "()J"⟩
abbrev cX4_lower : ByteArray := prog_6_method_83_code
def yX4_lower : MethodName := ⟨RX4, "lower", "()J"⟩
abbrev cX4_thereAre : ByteArray := prog_6_method_84_code
def yX4_thereAre : MethodName := ⟨RX4, "thereAre", "(I)I"⟩
abbrev cX4_count : ByteArray := prog_6_method_85_code
def yX4_count : MethodName := ⟨RX4, "count", "(I)I"⟩
abbrev cX4_finding : ByteArray := prog_6_method_86_code
def yX4_finding : MethodName := ⟨RX4, "finding", "()I"⟩
abbrev cX4_findings : ByteArray := prog_6_method_87_code
def yX4_findings : MethodName := ⟨RX4, "findings", "(I)I"⟩
abbrev cX4_digest : ByteArray := prog_6_method_88_code
def yX4_digest : MethodName := ⟨RX4, "digest", "()J"⟩
def RJ6 : String := "java/lang/Integer"
def TJ6 : u_T := fun k => match k with
  | _ => ("", "", "", false)
def tyJ6 : Nat → FieldType := fun k => match k with
  | _ => .int
theorem nmJ6 : ∀ a, a < 0 → ∀ b, b < 0 → a ≠ b → (TJ6 a).2.1 ≠ (TJ6 b).2.1 := by decide +kernel
theorem tyJ6_ok : ∀ k, k < 0 → parseFieldDescriptor (TJ6 k).2.2.1 = some (tyJ6 k) := by decide +kernel
abbrev cJ6_numberOfTrailingZeros_0f7a4 : ByteArray := prog_7_method_48_code
def yJ6_numberOfTrailingZeros_0f7a4 : MethodName := ⟨RJ6, "numberOfTrailingZeros", "(I)I"⟩
abbrev cJ6_bitCount_0f7a4 : ByteArray := prog_7_method_49_code
def yJ6_bitCount_0f7a4 : MethodName := ⟨RJ6, "bitCount", "(I)I"⟩
def RJ9 : String := "java/lang/Math"
def TJ9 : u_T := fun k => match k with
  | _ => ("", "", "", false)
def tyJ9 : Nat → FieldType := fun k => match k with
  | _ => .int
theorem nmJ9 : ∀ a, a < 0 → ∀ b, b < 0 → a ≠ b → (TJ9 a).2.1 ≠ (TJ9 b).2.1 := by decide +kernel
theorem tyJ9_ok : ∀ k, k < 0 → parseFieldDescriptor (TJ9 k).2.2.1 = some (tyJ9 k) := by decide +kernel
abbrev cJ9_max_7cf53 : ByteArray := prog_8_method_65_code
def yJ9_max_7cf53 : MethodName := ⟨RJ9, "max", "(II)I"⟩
def RJ10 : String := "java/lang/System"
def TJ10 : u_T := fun k => match k with
  | _ => ("", "", "", false)
def tyJ10 : Nat → FieldType := fun k => match k with
  | _ => .int
theorem nmJ10 : ∀ a, a < 0 → ∀ b, b < 0 → a ≠ b → (TJ10 a).2.1 ≠ (TJ10 b).2.1 := by decide +kernel
theorem tyJ10_ok : ∀ k, k < 0 → parseFieldDescriptor (TJ10 k).2.2.1 = some (tyJ10 k) := by decide +kernel
def RJ7 : String := "java/util/Arrays"
def TJ7 : u_T := fun k => match k with
  | _ => ("", "", "", false)
def tyJ7 : Nat → FieldType := fun k => match k with
  | _ => .int
theorem nmJ7 : ∀ a, a < 0 → ∀ b, b < 0 → a ≠ b → (TJ7 a).2.1 ≠ (TJ7 b).2.1 := by decide +kernel
theorem tyJ7_ok : ∀ k, k < 0 → parseFieldDescriptor (TJ7 k).2.2.1 = some (tyJ7 k) := by decide +kernel
abbrev cJ7_fill_53178 : ByteArray := prog_10_method_103_code
def yJ7_fill_53178 : MethodName := ⟨RJ7, "fill", "([II)V"⟩
def RL : String := "GateNamesLaw"
abbrev cL_law : ByteArray := code
def yL_law : MethodName := ⟨RL, "law", "([I)Z"⟩
abbrev vwCl : List vw_C := [(RX0, TX0, 11), (RX1, TX1, 8), (RX2, TX2, 3), (RX3, TX3, 13), (RX4, TX4, 24)]
end
section
theorem dX0_init_0 : decode cX0_init 0 = .ok (.aload_n 0, 1) := by decide +kernel
theorem dX0_init_1 : decode cX0_init 1 = .ok (.invokespecial 3, 3) := by decide +kernel
theorem dX0_init_4 : decode cX0_init 4 = .ok (.aload_n 0, 1) := by decide +kernel
theorem dX0_init_5 : decode cX0_init 5 = .ok (.bipush 7, 2) := by decide +kernel
theorem dX0_init_7 : decode cX0_init 7 = .ok (.newarray .int, 2) := by decide +kernel
theorem dX0_init_9 : decode cX0_init 9 = .ok (.putfield 9, 3) := by decide +kernel
theorem dX0_init_12 : decode cX0_init 12 = .ok (.aload_n 0, 1) := by decide +kernel
theorem dX0_init_13 : decode cX0_init 13 = .ok (.bipush 7, 2) := by decide +kernel
theorem dX0_init_15 : decode cX0_init 15 = .ok (.newarray .int, 2) := by decide +kernel
theorem dX0_init_17 : decode cX0_init 17 = .ok (.putfield 15, 3) := by decide +kernel
theorem dX0_init_20 : decode cX0_init 20 = .ok (.aload_n 0, 1) := by decide +kernel
theorem dX0_init_21 : decode cX0_init 21 = .ok (.bipush 7, 2) := by decide +kernel
theorem dX0_init_23 : decode cX0_init 23 = .ok (.newarray .int, 2) := by decide +kernel
theorem dX0_init_25 : decode cX0_init 25 = .ok (.putfield 18, 3) := by decide +kernel
theorem dX0_init_28 : decode cX0_init 28 = .ok (.aload_n 0, 1) := by decide +kernel
theorem dX0_init_29 : decode cX0_init 29 = .ok (.bipush 7, 2) := by decide +kernel
theorem dX0_init_31 : decode cX0_init 31 = .ok (.newarray .int, 2) := by decide +kernel
theorem dX0_init_33 : decode cX0_init 33 = .ok (.putfield 21, 3) := by decide +kernel
theorem dX0_init_36 : decode cX0_init 36 = .ok (.aload_n 0, 1) := by decide +kernel
theorem dX0_init_37 : decode cX0_init 37 = .ok (.bipush 6, 2) := by decide +kernel
theorem dX0_init_39 : decode cX0_init 39 = .ok (.newarray .int, 2) := by decide +kernel
theorem dX0_init_41 : decode cX0_init 41 = .ok (.putfield 24, 3) := by decide +kernel
theorem dX0_init_44 : decode cX0_init 44 = .ok (.aload_n 0, 1) := by decide +kernel
theorem dX0_init_45 : decode cX0_init 45 = .ok (.bipush 40, 2) := by decide +kernel
theorem dX0_init_47 : decode cX0_init 47 = .ok (.newarray .int, 2) := by decide +kernel
theorem dX0_init_49 : decode cX0_init 49 = .ok (.putfield 27, 3) := by decide +kernel
theorem dX0_init_52 : decode cX0_init 52 = .ok (.aload_n 0, 1) := by decide +kernel
theorem dX0_init_53 : decode cX0_init 53 = .ok (.iconst 0, 1) := by decide +kernel
theorem dX0_init_54 : decode cX0_init 54 = .ok (.putfield 30, 3) := by decide +kernel
theorem dX0_init_57 : decode cX0_init 57 = .ok (.aload_n 0, 1) := by decide +kernel
theorem dX0_init_58 : decode cX0_init 58 = .ok (.iconst 0, 1) := by decide +kernel
theorem dX0_init_59 : decode cX0_init 59 = .ok (.putfield 34, 3) := by decide +kernel
theorem dX0_init_62 : decode cX0_init 62 = .ok (.aload_n 0, 1) := by decide +kernel
theorem dX0_init_63 : decode cX0_init 63 = .ok (.iconst 0, 1) := by decide +kernel
theorem dX0_init_64 : decode cX0_init 64 = .ok (.putfield 37, 3) := by decide +kernel
theorem dX0_init_67 : decode cX0_init 67 = .ok (.aload_n 0, 1) := by decide +kernel
theorem dX0_init_68 : decode cX0_init 68 = .ok (.bipush (-9), 2) := by decide +kernel
theorem dX0_init_70 : decode cX0_init 70 = .ok (.putfield 40, 3) := by decide +kernel
theorem dX0_init_73 : decode cX0_init 73 = .ok (.aload_n 0, 1) := by decide +kernel
theorem dX0_init_74 : decode cX0_init 74 = .ok (.iconst 0, 1) := by decide +kernel
theorem dX0_init_75 : decode cX0_init 75 = .ok (.putfield 43, 3) := by decide +kernel
theorem dX0_init_78 : decode cX0_init 78 = .ok (.return_, 1) := by decide +kernel
theorem dX0_numbers_0 : decode cX0_numbers 0 = .ok (.iload_n 1, 1) := by decide +kernel
theorem dX0_numbers_1 : decode cX0_numbers 1 = .ok (.ifCond .lt 15, 3) := by decide +kernel
theorem dX0_numbers_4 : decode cX0_numbers 4 = .ok (.iload_n 1, 1) := by decide +kernel
theorem dX0_numbers_5 : decode cX0_numbers 5 = .ok (.aload_n 0, 1) := by decide +kernel
theorem dX0_numbers_6 : decode cX0_numbers 6 = .ok (.getfield 30, 3) := by decide +kernel
theorem dX0_numbers_9 : decode cX0_numbers 9 = .ok (.if_icmp .ge 7, 3) := by decide +kernel
theorem dX0_numbers_12 : decode cX0_numbers 12 = .ok (.iconst 1, 1) := by decide +kernel
theorem dX0_numbers_13 : decode cX0_numbers 13 = .ok (.goto 4, 3) := by decide +kernel
theorem dX0_numbers_16 : decode cX0_numbers 16 = .ok (.iconst 0, 1) := by decide +kernel
theorem dX0_numbers_17 : decode cX0_numbers 17 = .ok (.ireturn, 1) := by decide +kernel
theorem dX0_holds_0 : decode cX0_holds 0 = .ok (.iload_n 1, 1) := by decide +kernel
theorem dX0_holds_1 : decode cX0_holds 1 = .ok (.ifCond .lt 17, 3) := by decide +kernel
theorem dX0_holds_4 : decode cX0_holds 4 = .ok (.iload_n 1, 1) := by decide +kernel
theorem dX0_holds_5 : decode cX0_holds 5 = .ok (.iconst 1, 1) := by decide +kernel
theorem dX0_holds_6 : decode cX0_holds 6 = .ok (.aload_n 0, 1) := by decide +kernel
theorem dX0_holds_7 : decode cX0_holds 7 = .ok (.getfield 30, 3) := by decide +kernel
theorem dX0_holds_10 : decode cX0_holds 10 = .ok (.ishl, 1) := by decide +kernel
theorem dX0_holds_11 : decode cX0_holds 11 = .ok (.if_icmp .ge 7, 3) := by decide +kernel
theorem dX0_holds_14 : decode cX0_holds 14 = .ok (.iconst 1, 1) := by decide +kernel
theorem dX0_holds_15 : decode cX0_holds 15 = .ok (.goto 4, 3) := by decide +kernel
theorem dX0_holds_18 : decode cX0_holds 18 = .ok (.iconst 0, 1) := by decide +kernel
theorem dX0_holds_19 : decode cX0_holds 19 = .ok (.ireturn, 1) := by decide +kernel
theorem dX0_left_0 : decode cX0_left 0 = .ok (.iconst 1, 1) := by decide +kernel
theorem dX0_left_1 : decode cX0_left 1 = .ok (.aload_n 0, 1) := by decide +kernel
theorem dX0_left_2 : decode cX0_left 2 = .ok (.getfield 30, 3) := by decide +kernel
theorem dX0_left_5 : decode cX0_left 5 = .ok (.ishl, 1) := by decide +kernel
theorem dX0_left_6 : decode cX0_left 6 = .ok (.iconst 1, 1) := by decide +kernel
theorem dX0_left_7 : decode cX0_left 7 = .ok (.isub, 1) := by decide +kernel
theorem dX0_left_8 : decode cX0_left 8 = .ok (.aload_n 0, 1) := by decide +kernel
theorem dX0_left_9 : decode cX0_left 9 = .ok (.getfield 37, 3) := by decide +kernel
theorem dX0_left_12 : decode cX0_left 12 = .ok (.iconst (-1), 1) := by decide +kernel
theorem dX0_left_13 : decode cX0_left 13 = .ok (.ixor, 1) := by decide +kernel
theorem dX0_left_14 : decode cX0_left 14 = .ok (.iand, 1) := by decide +kernel
theorem dX0_left_15 : decode cX0_left 15 = .ok (.ireturn, 1) := by decide +kernel
theorem dX0_waits_0 : decode cX0_waits 0 = .ok (.aload_n 0, 1) := by decide +kernel
theorem dX0_waits_1 : decode cX0_waits 1 = .ok (.getfield 37, 3) := by decide +kernel
theorem dX0_waits_4 : decode cX0_waits 4 = .ok (.iload_n 1, 1) := by decide +kernel
theorem dX0_waits_5 : decode cX0_waits 5 = .ok (.invokestatic 46, 3) := by decide +kernel
theorem dX0_waits_8 : decode cX0_waits 8 = .ok (.ifCond .ne 7, 3) := by decide +kernel
theorem dX0_waits_11 : decode cX0_waits 11 = .ok (.iconst 1, 1) := by decide +kernel
theorem dX0_waits_12 : decode cX0_waits 12 = .ok (.goto 4, 3) := by decide +kernel
theorem dX0_waits_15 : decode cX0_waits 15 = .ok (.iconst 0, 1) := by decide +kernel
theorem dX0_waits_16 : decode cX0_waits 16 = .ok (.ireturn, 1) := by decide +kernel
theorem dX0_canMeet_0 : decode cX0_canMeet 0 = .ok (.iload_n 1, 1) := by decide +kernel
theorem dX0_canMeet_1 : decode cX0_canMeet 1 = .ok (.iload_n 2, 1) := by decide +kernel
theorem dX0_canMeet_2 : decode cX0_canMeet 2 = .ok (.if_icmp .eq 23, 3) := by decide +kernel
theorem dX0_canMeet_5 : decode cX0_canMeet 5 = .ok (.aload_n 0, 1) := by decide +kernel
theorem dX0_canMeet_6 : decode cX0_canMeet 6 = .ok (.iload_n 1, 1) := by decide +kernel
theorem dX0_canMeet_7 : decode cX0_canMeet 7 = .ok (.invokevirtual 50, 3) := by decide +kernel
theorem dX0_canMeet_10 : decode cX0_canMeet 10 = .ok (.ifCond .eq 15, 3) := by decide +kernel
theorem dX0_canMeet_13 : decode cX0_canMeet 13 = .ok (.aload_n 0, 1) := by decide +kernel
theorem dX0_canMeet_14 : decode cX0_canMeet 14 = .ok (.iload_n 2, 1) := by decide +kernel
theorem dX0_canMeet_15 : decode cX0_canMeet 15 = .ok (.invokevirtual 50, 3) := by decide +kernel
theorem dX0_canMeet_18 : decode cX0_canMeet 18 = .ok (.ifCond .eq 7, 3) := by decide +kernel
theorem dX0_canMeet_21 : decode cX0_canMeet 21 = .ok (.iconst 1, 1) := by decide +kernel
theorem dX0_canMeet_22 : decode cX0_canMeet 22 = .ok (.goto 4, 3) := by decide +kernel
theorem dX0_canMeet_25 : decode cX0_canMeet 25 = .ok (.iconst 0, 1) := by decide +kernel
theorem dX0_canMeet_26 : decode cX0_canMeet 26 = .ok (.ireturn, 1) := by decide +kernel
theorem dX0_spare_0 : decode cX0_spare 0 = .ok (.bipush 40, 2) := by decide +kernel
theorem dX0_spare_2 : decode cX0_spare 2 = .ok (.aload_n 0, 1) := by decide +kernel
theorem dX0_spare_3 : decode cX0_spare 3 = .ok (.getfield 34, 3) := by decide +kernel
theorem dX0_spare_6 : decode cX0_spare 6 = .ok (.isub, 1) := by decide +kernel
theorem dX0_spare_7 : decode cX0_spare 7 = .ok (.ireturn, 1) := by decide +kernel
theorem dX0_gather_0 : decode cX0_gather 0 = .ok (.aload_n 0, 1) := by decide +kernel
theorem dX0_gather_1 : decode cX0_gather 1 = .ok (.iconst 0, 1) := by decide +kernel
theorem dX0_gather_2 : decode cX0_gather 2 = .ok (.putfield 30, 3) := by decide +kernel
theorem dX0_gather_5 : decode cX0_gather 5 = .ok (.aload_n 0, 1) := by decide +kernel
theorem dX0_gather_6 : decode cX0_gather 6 = .ok (.getfield 24, 3) := by decide +kernel
theorem dX0_gather_9 : decode cX0_gather 9 = .ok (.iconst 0, 1) := by decide +kernel
theorem dX0_gather_10 : decode cX0_gather 10 = .ok (.invokestatic 54, 3) := by decide +kernel
theorem dX0_gather_13 : decode cX0_gather 13 = .ok (.iconst 0, 1) := by decide +kernel
theorem dX0_gather_14 : decode cX0_gather 14 = .ok (.istore_n 3, 1) := by decide +kernel
theorem dX0_gather_15 : decode cX0_gather 15 = .ok (.iload_n 3, 1) := by decide +kernel
theorem dX0_gather_16 : decode cX0_gather 16 = .ok (.iconst 2, 1) := by decide +kernel
theorem dX0_gather_17 : decode cX0_gather 17 = .ok (.iadd, 1) := by decide +kernel
theorem dX0_gather_18 : decode cX0_gather 18 = .ok (.iload_n 2, 1) := by decide +kernel
theorem dX0_gather_19 : decode cX0_gather 19 = .ok (.if_icmp .ge 112, 3) := by decide +kernel
theorem dX0_gather_22 : decode cX0_gather 22 = .ok (.aload_n 0, 1) := by decide +kernel
theorem dX0_gather_23 : decode cX0_gather 23 = .ok (.getfield 30, 3) := by decide +kernel
theorem dX0_gather_26 : decode cX0_gather 26 = .ok (.bipush 7, 2) := by decide +kernel
theorem dX0_gather_28 : decode cX0_gather 28 = .ok (.if_icmp .ge 103, 3) := by decide +kernel
theorem dX0_gather_31 : decode cX0_gather 31 = .ok (.aload_n 1, 1) := by decide +kernel
theorem dX0_gather_32 : decode cX0_gather 32 = .ok (.iload_n 3, 1) := by decide +kernel
theorem dX0_gather_33 : decode cX0_gather 33 = .ok (.iaload, 1) := by decide +kernel
theorem dX0_gather_34 : decode cX0_gather 34 = .ok (.invokestatic 60, 3) := by decide +kernel
theorem dX0_gather_37 : decode cX0_gather 37 = .ok (.istore 4, 2) := by decide +kernel
theorem dX0_gather_39 : decode cX0_gather 39 = .ok (.iload 4, 2) := by decide +kernel
theorem dX0_gather_41 : decode cX0_gather 41 = .ok (.bipush (-9), 2) := by decide +kernel
theorem dX0_gather_43 : decode cX0_gather 43 = .ok (.if_icmp .ne 9, 3) := by decide +kernel
theorem dX0_gather_46 : decode cX0_gather 46 = .ok (.iinc 3 1, 3) := by decide +kernel
theorem dX0_gather_49 : decode cX0_gather 49 = .ok (.goto 79, 3) := by decide +kernel
theorem dX0_gather_52 : decode cX0_gather 52 = .ok (.aload_n 0, 1) := by decide +kernel
theorem dX0_gather_53 : decode cX0_gather 53 = .ok (.getfield 9, 3) := by decide +kernel
theorem dX0_gather_56 : decode cX0_gather 56 = .ok (.aload_n 0, 1) := by decide +kernel
theorem dX0_gather_57 : decode cX0_gather 57 = .ok (.getfield 30, 3) := by decide +kernel
theorem dX0_gather_60 : decode cX0_gather 60 = .ok (.iload 4, 2) := by decide +kernel
theorem dX0_gather_62 : decode cX0_gather 62 = .ok (.iastore, 1) := by decide +kernel
theorem dX0_gather_63 : decode cX0_gather 63 = .ok (.aload_n 0, 1) := by decide +kernel
theorem dX0_gather_64 : decode cX0_gather 64 = .ok (.getfield 15, 3) := by decide +kernel
theorem dX0_gather_67 : decode cX0_gather 67 = .ok (.aload_n 0, 1) := by decide +kernel
theorem dX0_gather_68 : decode cX0_gather 68 = .ok (.getfield 30, 3) := by decide +kernel
theorem dX0_gather_71 : decode cX0_gather 71 = .ok (.aload_n 1, 1) := by decide +kernel
theorem dX0_gather_72 : decode cX0_gather 72 = .ok (.iload_n 3, 1) := by decide +kernel
theorem dX0_gather_73 : decode cX0_gather 73 = .ok (.iconst 1, 1) := by decide +kernel
theorem dX0_gather_74 : decode cX0_gather 74 = .ok (.iadd, 1) := by decide +kernel
theorem dX0_gather_75 : decode cX0_gather 75 = .ok (.iaload, 1) := by decide +kernel
theorem dX0_gather_76 : decode cX0_gather 76 = .ok (.bipush 48, 2) := by decide +kernel
theorem dX0_gather_78 : decode cX0_gather 78 = .ok (.isub, 1) := by decide +kernel
theorem dX0_gather_79 : decode cX0_gather 79 = .ok (.iastore, 1) := by decide +kernel
theorem dX0_gather_80 : decode cX0_gather 80 = .ok (.aload_n 0, 1) := by decide +kernel
theorem dX0_gather_81 : decode cX0_gather 81 = .ok (.getfield 18, 3) := by decide +kernel
theorem dX0_gather_84 : decode cX0_gather 84 = .ok (.aload_n 0, 1) := by decide +kernel
theorem dX0_gather_85 : decode cX0_gather 85 = .ok (.getfield 30, 3) := by decide +kernel
theorem dX0_gather_88 : decode cX0_gather 88 = .ok (.iconst 1, 1) := by decide +kernel
theorem dX0_gather_89 : decode cX0_gather 89 = .ok (.aload_n 1, 1) := by decide +kernel
theorem dX0_gather_90 : decode cX0_gather 90 = .ok (.iload_n 3, 1) := by decide +kernel
theorem dX0_gather_91 : decode cX0_gather 91 = .ok (.iconst 2, 1) := by decide +kernel
theorem dX0_gather_92 : decode cX0_gather 92 = .ok (.iadd, 1) := by decide +kernel
theorem dX0_gather_93 : decode cX0_gather 93 = .ok (.iaload, 1) := by decide +kernel
theorem dX0_gather_94 : decode cX0_gather 94 = .ok (.bipush 48, 2) := by decide +kernel
theorem dX0_gather_96 : decode cX0_gather 96 = .ok (.isub, 1) := by decide +kernel
theorem dX0_gather_97 : decode cX0_gather 97 = .ok (.ishl, 1) := by decide +kernel
theorem dX0_gather_98 : decode cX0_gather 98 = .ok (.iastore, 1) := by decide +kernel
theorem dX0_gather_99 : decode cX0_gather 99 = .ok (.aload_n 0, 1) := by decide +kernel
theorem dX0_gather_100 : decode cX0_gather 100 = .ok (.getfield 24, 3) := by decide +kernel
theorem dX0_gather_103 : decode cX0_gather 103 = .ok (.iload 4, 2) := by decide +kernel
theorem dX0_gather_105 : decode cX0_gather 105 = .ok (.dup2, 1) := by decide +kernel
theorem dX0_gather_106 : decode cX0_gather 106 = .ok (.iaload, 1) := by decide +kernel
theorem dX0_gather_107 : decode cX0_gather 107 = .ok (.iconst 1, 1) := by decide +kernel
theorem dX0_gather_108 : decode cX0_gather 108 = .ok (.aload_n 0, 1) := by decide +kernel
theorem dX0_gather_109 : decode cX0_gather 109 = .ok (.getfield 30, 3) := by decide +kernel
theorem dX0_gather_112 : decode cX0_gather 112 = .ok (.ishl, 1) := by decide +kernel
theorem dX0_gather_113 : decode cX0_gather 113 = .ok (.ior, 1) := by decide +kernel
theorem dX0_gather_114 : decode cX0_gather 114 = .ok (.iastore, 1) := by decide +kernel
theorem dX0_gather_115 : decode cX0_gather 115 = .ok (.aload_n 0, 1) := by decide +kernel
theorem dX0_gather_116 : decode cX0_gather 116 = .ok (.dup, 1) := by decide +kernel
theorem dX0_gather_117 : decode cX0_gather 117 = .ok (.getfield 30, 3) := by decide +kernel
theorem dX0_gather_120 : decode cX0_gather 120 = .ok (.iconst 1, 1) := by decide +kernel
theorem dX0_gather_121 : decode cX0_gather 121 = .ok (.iadd, 1) := by decide +kernel
theorem dX0_gather_122 : decode cX0_gather 122 = .ok (.putfield 30, 3) := by decide +kernel
theorem dX0_gather_125 : decode cX0_gather 125 = .ok (.iinc 3 3, 3) := by decide +kernel
theorem dX0_gather_128 : decode cX0_gather 128 = .ok (.goto (-113), 3) := by decide +kernel
theorem dX0_gather_131 : decode cX0_gather 131 = .ok (.iconst 0, 1) := by decide +kernel
theorem dX0_gather_132 : decode cX0_gather 132 = .ok (.istore 4, 2) := by decide +kernel
theorem dX0_gather_134 : decode cX0_gather 134 = .ok (.iload 4, 2) := by decide +kernel
theorem dX0_gather_136 : decode cX0_gather 136 = .ok (.aload_n 0, 1) := by decide +kernel
theorem dX0_gather_137 : decode cX0_gather 137 = .ok (.getfield 30, 3) := by decide +kernel
theorem dX0_gather_140 : decode cX0_gather 140 = .ok (.if_icmp .ge 34, 3) := by decide +kernel
theorem dX0_gather_143 : decode cX0_gather 143 = .ok (.aload_n 0, 1) := by decide +kernel
theorem dX0_gather_144 : decode cX0_gather 144 = .ok (.getfield 18, 3) := by decide +kernel
theorem dX0_gather_147 : decode cX0_gather 147 = .ok (.iload 4, 2) := by decide +kernel
theorem dX0_gather_149 : decode cX0_gather 149 = .ok (.dup2, 1) := by decide +kernel
theorem dX0_gather_150 : decode cX0_gather 150 = .ok (.iaload, 1) := by decide +kernel
theorem dX0_gather_151 : decode cX0_gather 151 = .ok (.iconst 1, 1) := by decide +kernel
theorem dX0_gather_152 : decode cX0_gather 152 = .ok (.aload_n 0, 1) := by decide +kernel
theorem dX0_gather_153 : decode cX0_gather 153 = .ok (.getfield 30, 3) := by decide +kernel
theorem dX0_gather_156 : decode cX0_gather 156 = .ok (.ishl, 1) := by decide +kernel
theorem dX0_gather_157 : decode cX0_gather 157 = .ok (.iconst 1, 1) := by decide +kernel
theorem dX0_gather_158 : decode cX0_gather 158 = .ok (.isub, 1) := by decide +kernel
theorem dX0_gather_159 : decode cX0_gather 159 = .ok (.iconst 1, 1) := by decide +kernel
theorem dX0_gather_160 : decode cX0_gather 160 = .ok (.iload 4, 2) := by decide +kernel
theorem dX0_gather_162 : decode cX0_gather 162 = .ok (.ishl, 1) := by decide +kernel
theorem dX0_gather_163 : decode cX0_gather 163 = .ok (.iconst (-1), 1) := by decide +kernel
theorem dX0_gather_164 : decode cX0_gather 164 = .ok (.ixor, 1) := by decide +kernel
theorem dX0_gather_165 : decode cX0_gather 165 = .ok (.iand, 1) := by decide +kernel
theorem dX0_gather_166 : decode cX0_gather 166 = .ok (.iand, 1) := by decide +kernel
theorem dX0_gather_167 : decode cX0_gather 167 = .ok (.iastore, 1) := by decide +kernel
theorem dX0_gather_168 : decode cX0_gather 168 = .ok (.iinc 4 1, 3) := by decide +kernel
theorem dX0_gather_171 : decode cX0_gather 171 = .ok (.goto (-37), 3) := by decide +kernel
theorem dX0_gather_174 : decode cX0_gather 174 = .ok (.aload_n 0, 1) := by decide +kernel
theorem dX0_gather_175 : decode cX0_gather 175 = .ok (.iconst 0, 1) := by decide +kernel
theorem dX0_gather_176 : decode cX0_gather 176 = .ok (.putfield 34, 3) := by decide +kernel
theorem dX0_gather_179 : decode cX0_gather 179 = .ok (.aload_n 0, 1) := by decide +kernel
theorem dX0_gather_180 : decode cX0_gather 180 = .ok (.invokevirtual 64, 3) := by decide +kernel
theorem dX0_gather_183 : decode cX0_gather 183 = .ok (.return_, 1) := by decide +kernel
theorem dX0_startAnew_0 : decode cX0_startAnew 0 = .ok (.aload_n 0, 1) := by decide +kernel
theorem dX0_startAnew_1 : decode cX0_startAnew 1 = .ok (.getfield 18, 3) := by decide +kernel
theorem dX0_startAnew_4 : decode cX0_startAnew 4 = .ok (.iconst 0, 1) := by decide +kernel
theorem dX0_startAnew_5 : decode cX0_startAnew 5 = .ok (.aload_n 0, 1) := by decide +kernel
theorem dX0_startAnew_6 : decode cX0_startAnew 6 = .ok (.getfield 21, 3) := by decide +kernel
theorem dX0_startAnew_9 : decode cX0_startAnew 9 = .ok (.iconst 0, 1) := by decide +kernel
theorem dX0_startAnew_10 : decode cX0_startAnew 10 = .ok (.bipush 7, 2) := by decide +kernel
theorem dX0_startAnew_12 : decode cX0_startAnew 12 = .ok (.invokestatic 67, 3) := by decide +kernel
theorem dX0_startAnew_15 : decode cX0_startAnew 15 = .ok (.aload_n 0, 1) := by decide +kernel
theorem dX0_startAnew_16 : decode cX0_startAnew 16 = .ok (.iconst 0, 1) := by decide +kernel
theorem dX0_startAnew_17 : decode cX0_startAnew 17 = .ok (.putfield 37, 3) := by decide +kernel
theorem dX0_startAnew_20 : decode cX0_startAnew 20 = .ok (.aload_n 0, 1) := by decide +kernel
theorem dX0_startAnew_21 : decode cX0_startAnew 21 = .ok (.bipush (-9), 2) := by decide +kernel
theorem dX0_startAnew_23 : decode cX0_startAnew 23 = .ok (.putfield 40, 3) := by decide +kernel
theorem dX0_startAnew_26 : decode cX0_startAnew 26 = .ok (.aload_n 0, 1) := by decide +kernel
theorem dX0_startAnew_27 : decode cX0_startAnew 27 = .ok (.iconst 0, 1) := by decide +kernel
theorem dX0_startAnew_28 : decode cX0_startAnew 28 = .ok (.putfield 43, 3) := by decide +kernel
theorem dX0_startAnew_31 : decode cX0_startAnew 31 = .ok (.return_, 1) := by decide +kernel
theorem dX0_doAgain_0 : decode cX0_doAgain 0 = .ok (.aload_n 0, 1) := by decide +kernel
theorem dX0_doAgain_1 : decode cX0_doAgain 1 = .ok (.invokevirtual 64, 3) := by decide +kernel
theorem dX0_doAgain_4 : decode cX0_doAgain 4 = .ok (.aload_n 0, 1) := by decide +kernel
theorem dX0_doAgain_5 : decode cX0_doAgain 5 = .ok (.iconst 0, 1) := by decide +kernel
theorem dX0_doAgain_6 : decode cX0_doAgain 6 = .ok (.putfield 34, 3) := by decide +kernel
theorem dX0_doAgain_9 : decode cX0_doAgain 9 = .ok (.iconst 0, 1) := by decide +kernel
theorem dX0_doAgain_10 : decode cX0_doAgain 10 = .ok (.istore_n 3, 1) := by decide +kernel
theorem dX0_doAgain_11 : decode cX0_doAgain 11 = .ok (.iload_n 3, 1) := by decide +kernel
theorem dX0_doAgain_12 : decode cX0_doAgain 12 = .ok (.iload_n 2, 1) := by decide +kernel
theorem dX0_doAgain_13 : decode cX0_doAgain 13 = .ok (.if_icmp .ge 42, 3) := by decide +kernel
theorem dX0_doAgain_16 : decode cX0_doAgain 16 = .ok (.iload_n 3, 1) := by decide +kernel
theorem dX0_doAgain_17 : decode cX0_doAgain 17 = .ok (.aload_n 1, 1) := by decide +kernel
theorem dX0_doAgain_18 : decode cX0_doAgain 18 = .ok (.arraylength, 1) := by decide +kernel
theorem dX0_doAgain_19 : decode cX0_doAgain 19 = .ok (.if_icmp .ge 36, 3) := by decide +kernel
theorem dX0_doAgain_22 : decode cX0_doAgain 22 = .ok (.aload_n 1, 1) := by decide +kernel
theorem dX0_doAgain_23 : decode cX0_doAgain 23 = .ok (.iload_n 3, 1) := by decide +kernel
theorem dX0_doAgain_24 : decode cX0_doAgain 24 = .ok (.iaload, 1) := by decide +kernel
theorem dX0_doAgain_25 : decode cX0_doAgain 25 = .ok (.istore 4, 2) := by decide +kernel
theorem dX0_doAgain_27 : decode cX0_doAgain 27 = .ok (.aload_n 0, 1) := by decide +kernel
theorem dX0_doAgain_28 : decode cX0_doAgain 28 = .ok (.iload 4, 2) := by decide +kernel
theorem dX0_doAgain_30 : decode cX0_doAgain 30 = .ok (.bipush 100, 2) := by decide +kernel
theorem dX0_doAgain_32 : decode cX0_doAgain 32 = .ok (.idiv, 1) := by decide +kernel
theorem dX0_doAgain_33 : decode cX0_doAgain 33 = .ok (.iload 4, 2) := by decide +kernel
theorem dX0_doAgain_35 : decode cX0_doAgain 35 = .ok (.bipush 10, 2) := by decide +kernel
theorem dX0_doAgain_37 : decode cX0_doAgain 37 = .ok (.idiv, 1) := by decide +kernel
theorem dX0_doAgain_38 : decode cX0_doAgain 38 = .ok (.bipush 10, 2) := by decide +kernel
theorem dX0_doAgain_40 : decode cX0_doAgain 40 = .ok (.irem, 1) := by decide +kernel
theorem dX0_doAgain_41 : decode cX0_doAgain 41 = .ok (.iload 4, 2) := by decide +kernel
theorem dX0_doAgain_43 : decode cX0_doAgain 43 = .ok (.bipush 10, 2) := by decide +kernel
theorem dX0_doAgain_45 : decode cX0_doAgain 45 = .ok (.irem, 1) := by decide +kernel
theorem dX0_doAgain_46 : decode cX0_doAgain 46 = .ok (.invokevirtual 73, 3) := by decide +kernel
theorem dX0_doAgain_49 : decode cX0_doAgain 49 = .ok (.iinc 3 1, 3) := by decide +kernel
theorem dX0_doAgain_52 : decode cX0_doAgain 52 = .ok (.goto (-41), 3) := by decide +kernel
theorem dX0_doAgain_55 : decode cX0_doAgain 55 = .ok (.return_, 1) := by decide +kernel
theorem dX0_add_0 : decode cX0_add 0 = .ok (.aload_n 0, 1) := by decide +kernel
theorem dX0_add_1 : decode cX0_add 1 = .ok (.getfield 34, 3) := by decide +kernel
theorem dX0_add_4 : decode cX0_add 4 = .ok (.bipush 40, 2) := by decide +kernel
theorem dX0_add_6 : decode cX0_add 6 = .ok (.if_icmp .ge 19, 3) := by decide +kernel
theorem dX0_add_9 : decode cX0_add 9 = .ok (.aload_n 0, 1) := by decide +kernel
theorem dX0_add_10 : decode cX0_add 10 = .ok (.iload_n 2, 1) := by decide +kernel
theorem dX0_add_11 : decode cX0_add 11 = .ok (.invokevirtual 77, 3) := by decide +kernel
theorem dX0_add_14 : decode cX0_add 14 = .ok (.ifCond .eq 11, 3) := by decide +kernel
theorem dX0_add_17 : decode cX0_add 17 = .ok (.aload_n 0, 1) := by decide +kernel
theorem dX0_add_18 : decode cX0_add 18 = .ok (.iload_n 3, 1) := by decide +kernel
theorem dX0_add_19 : decode cX0_add 19 = .ok (.invokevirtual 77, 3) := by decide +kernel
theorem dX0_add_22 : decode cX0_add 22 = .ok (.ifCond .ne 4, 3) := by decide +kernel
theorem dX0_add_25 : decode cX0_add 25 = .ok (.return_, 1) := by decide +kernel
theorem dX0_add_26 : decode cX0_add 26 = .ok (.aload_n 0, 1) := by decide +kernel
theorem dX0_add_27 : decode cX0_add 27 = .ok (.getfield 27, 3) := by decide +kernel
theorem dX0_add_30 : decode cX0_add 30 = .ok (.aload_n 0, 1) := by decide +kernel
theorem dX0_add_31 : decode cX0_add 31 = .ok (.getfield 34, 3) := by decide +kernel
theorem dX0_add_34 : decode cX0_add 34 = .ok (.bipush 100, 2) := by decide +kernel
theorem dX0_add_36 : decode cX0_add 36 = .ok (.iload_n 1, 1) := by decide +kernel
theorem dX0_add_37 : decode cX0_add 37 = .ok (.imul, 1) := by decide +kernel
theorem dX0_add_38 : decode cX0_add 38 = .ok (.bipush 10, 2) := by decide +kernel
theorem dX0_add_40 : decode cX0_add 40 = .ok (.iload_n 2, 1) := by decide +kernel
theorem dX0_add_41 : decode cX0_add 41 = .ok (.imul, 1) := by decide +kernel
theorem dX0_add_42 : decode cX0_add 42 = .ok (.iadd, 1) := by decide +kernel
theorem dX0_add_43 : decode cX0_add 43 = .ok (.iload_n 3, 1) := by decide +kernel
theorem dX0_add_44 : decode cX0_add 44 = .ok (.iadd, 1) := by decide +kernel
theorem dX0_add_45 : decode cX0_add 45 = .ok (.iastore, 1) := by decide +kernel
theorem dX0_add_46 : decode cX0_add 46 = .ok (.aload_n 0, 1) := by decide +kernel
theorem dX0_add_47 : decode cX0_add 47 = .ok (.dup, 1) := by decide +kernel
theorem dX0_add_48 : decode cX0_add 48 = .ok (.getfield 34, 3) := by decide +kernel
theorem dX0_add_51 : decode cX0_add 51 = .ok (.iconst 1, 1) := by decide +kernel
theorem dX0_add_52 : decode cX0_add 52 = .ok (.iadd, 1) := by decide +kernel
theorem dX0_add_53 : decode cX0_add 53 = .ok (.putfield 34, 3) := by decide +kernel
theorem dX0_add_56 : decode cX0_add 56 = .ok (.iload_n 1, 1) := by decide +kernel
theorem dX0_add_57 : decode cX0_add 57 = .ok (.tableswitch 107 1 4 #[31, 48, 65, 87], 31) := by decide +kernel
theorem dX0_add_88 : decode cX0_add 88 = .ok (.aload_n 0, 1) := by decide +kernel
theorem dX0_add_89 : decode cX0_add 89 = .ok (.iload_n 2, 1) := by decide +kernel
theorem dX0_add_90 : decode cX0_add 90 = .ok (.iload_n 3, 1) := by decide +kernel
theorem dX0_add_91 : decode cX0_add 91 = .ok (.aload_n 0, 1) := by decide +kernel
theorem dX0_add_92 : decode cX0_add 92 = .ok (.getfield 21, 3) := by decide +kernel
theorem dX0_add_95 : decode cX0_add 95 = .ok (.aload_n 0, 1) := by decide +kernel
theorem dX0_add_96 : decode cX0_add 96 = .ok (.getfield 21, 3) := by decide +kernel
theorem dX0_add_99 : decode cX0_add 99 = .ok (.invokevirtual 80, 3) := by decide +kernel
theorem dX0_add_102 : decode cX0_add 102 = .ok (.goto 62, 3) := by decide +kernel
theorem dX0_add_105 : decode cX0_add 105 = .ok (.aload_n 0, 1) := by decide +kernel
theorem dX0_add_106 : decode cX0_add 106 = .ok (.dup, 1) := by decide +kernel
theorem dX0_add_107 : decode cX0_add 107 = .ok (.getfield 43, 3) := by decide +kernel
theorem dX0_add_110 : decode cX0_add 110 = .ok (.aload_n 0, 1) := by decide +kernel
theorem dX0_add_111 : decode cX0_add 111 = .ok (.iload_n 2, 1) := by decide +kernel
theorem dX0_add_112 : decode cX0_add 112 = .ok (.invokevirtual 84, 3) := by decide +kernel
theorem dX0_add_115 : decode cX0_add 115 = .ok (.ior, 1) := by decide +kernel
theorem dX0_add_116 : decode cX0_add 116 = .ok (.putfield 43, 3) := by decide +kernel
theorem dX0_add_119 : decode cX0_add 119 = .ok (.goto 45, 3) := by decide +kernel
theorem dX0_add_122 : decode cX0_add 122 = .ok (.aload_n 0, 1) := by decide +kernel
theorem dX0_add_123 : decode cX0_add 123 = .ok (.getfield 21, 3) := by decide +kernel
theorem dX0_add_126 : decode cX0_add 126 = .ok (.iload_n 2, 1) := by decide +kernel
theorem dX0_add_127 : decode cX0_add 127 = .ok (.dup2, 1) := by decide +kernel
theorem dX0_add_128 : decode cX0_add 128 = .ok (.iaload, 1) := by decide +kernel
theorem dX0_add_129 : decode cX0_add 129 = .ok (.aload_n 0, 1) := by decide +kernel
theorem dX0_add_130 : decode cX0_add 130 = .ok (.getfield 43, 3) := by decide +kernel
theorem dX0_add_133 : decode cX0_add 133 = .ok (.iconst 1, 1) := by decide +kernel
theorem dX0_add_134 : decode cX0_add 134 = .ok (.iload_n 2, 1) := by decide +kernel
theorem dX0_add_135 : decode cX0_add 135 = .ok (.ishl, 1) := by decide +kernel
theorem dX0_add_136 : decode cX0_add 136 = .ok (.iconst (-1), 1) := by decide +kernel
theorem dX0_add_137 : decode cX0_add 137 = .ok (.ixor, 1) := by decide +kernel
theorem dX0_add_138 : decode cX0_add 138 = .ok (.iand, 1) := by decide +kernel
theorem dX0_add_139 : decode cX0_add 139 = .ok (.ior, 1) := by decide +kernel
theorem dX0_add_140 : decode cX0_add 140 = .ok (.iastore, 1) := by decide +kernel
theorem dX0_add_141 : decode cX0_add 141 = .ok (.goto 23, 3) := by decide +kernel
theorem dX0_add_144 : decode cX0_add 144 = .ok (.aload_n 0, 1) := by decide +kernel
theorem dX0_add_145 : decode cX0_add 145 = .ok (.dup, 1) := by decide +kernel
theorem dX0_add_146 : decode cX0_add 146 = .ok (.getfield 37, 3) := by decide +kernel
theorem dX0_add_149 : decode cX0_add 149 = .ok (.iconst 1, 1) := by decide +kernel
theorem dX0_add_150 : decode cX0_add 150 = .ok (.iload_n 2, 1) := by decide +kernel
theorem dX0_add_151 : decode cX0_add 151 = .ok (.ishl, 1) := by decide +kernel
theorem dX0_add_152 : decode cX0_add 152 = .ok (.ior, 1) := by decide +kernel
theorem dX0_add_153 : decode cX0_add 153 = .ok (.putfield 37, 3) := by decide +kernel
theorem dX0_add_156 : decode cX0_add 156 = .ok (.aload_n 0, 1) := by decide +kernel
theorem dX0_add_157 : decode cX0_add 157 = .ok (.iload_n 2, 1) := by decide +kernel
theorem dX0_add_158 : decode cX0_add 158 = .ok (.putfield 40, 3) := by decide +kernel
theorem dX0_add_161 : decode cX0_add 161 = .ok (.goto 3, 3) := by decide +kernel
theorem dX0_add_164 : decode cX0_add 164 = .ok (.return_, 1) := by decide +kernel
theorem dX0_meetAside_0 : decode cX0_meetAside 0 = .ok (.aload_n 0, 1) := by decide +kernel
theorem dX0_meetAside_1 : decode cX0_meetAside 1 = .ok (.getfield 9, 3) := by decide +kernel
theorem dX0_meetAside_4 : decode cX0_meetAside 4 = .ok (.iload_n 1, 1) := by decide +kernel
theorem dX0_meetAside_5 : decode cX0_meetAside 5 = .ok (.iaload, 1) := by decide +kernel
theorem dX0_meetAside_6 : decode cX0_meetAside 6 = .ok (.iload_n 1, 1) := by decide +kernel
theorem dX0_meetAside_7 : decode cX0_meetAside 7 = .ok (.aload_n 3, 1) := by decide +kernel
theorem dX0_meetAside_8 : decode cX0_meetAside 8 = .ok (.iload_n 1, 1) := by decide +kernel
theorem dX0_meetAside_9 : decode cX0_meetAside 9 = .ok (.iaload, 1) := by decide +kernel
theorem dX0_meetAside_10 : decode cX0_meetAside 10 = .ok (.invokestatic 87, 3) := by decide +kernel
theorem dX0_meetAside_13 : decode cX0_meetAside 13 = .ok (.istore 5, 2) := by decide +kernel
theorem dX0_meetAside_15 : decode cX0_meetAside 15 = .ok (.aload_n 0, 1) := by decide +kernel
theorem dX0_meetAside_16 : decode cX0_meetAside 16 = .ok (.getfield 9, 3) := by decide +kernel
theorem dX0_meetAside_19 : decode cX0_meetAside 19 = .ok (.iload_n 2, 1) := by decide +kernel
theorem dX0_meetAside_20 : decode cX0_meetAside 20 = .ok (.iaload, 1) := by decide +kernel
theorem dX0_meetAside_21 : decode cX0_meetAside 21 = .ok (.iload_n 2, 1) := by decide +kernel
theorem dX0_meetAside_22 : decode cX0_meetAside 22 = .ok (.aload_n 3, 1) := by decide +kernel
theorem dX0_meetAside_23 : decode cX0_meetAside 23 = .ok (.iload_n 2, 1) := by decide +kernel
theorem dX0_meetAside_24 : decode cX0_meetAside 24 = .ok (.iaload, 1) := by decide +kernel
theorem dX0_meetAside_25 : decode cX0_meetAside 25 = .ok (.invokestatic 87, 3) := by decide +kernel
theorem dX0_meetAside_28 : decode cX0_meetAside 28 = .ok (.istore 6, 2) := by decide +kernel
theorem dX0_meetAside_30 : decode cX0_meetAside 30 = .ok (.aload_n 3, 1) := by decide +kernel
theorem dX0_meetAside_31 : decode cX0_meetAside 31 = .ok (.iconst 0, 1) := by decide +kernel
theorem dX0_meetAside_32 : decode cX0_meetAside 32 = .ok (.aload 4, 2) := by decide +kernel
theorem dX0_meetAside_34 : decode cX0_meetAside 34 = .ok (.iconst 0, 1) := by decide +kernel
theorem dX0_meetAside_35 : decode cX0_meetAside 35 = .ok (.bipush 7, 2) := by decide +kernel
theorem dX0_meetAside_37 : decode cX0_meetAside 37 = .ok (.invokestatic 67, 3) := by decide +kernel
theorem dX0_meetAside_40 : decode cX0_meetAside 40 = .ok (.aload 4, 2) := by decide +kernel
theorem dX0_meetAside_42 : decode cX0_meetAside 42 = .ok (.iload_n 1, 1) := by decide +kernel
theorem dX0_meetAside_43 : decode cX0_meetAside 43 = .ok (.dup2, 1) := by decide +kernel
theorem dX0_meetAside_44 : decode cX0_meetAside 44 = .ok (.iaload, 1) := by decide +kernel
theorem dX0_meetAside_45 : decode cX0_meetAside 45 = .ok (.iload 6, 2) := by decide +kernel
theorem dX0_meetAside_47 : decode cX0_meetAside 47 = .ok (.iconst 1, 1) := by decide +kernel
theorem dX0_meetAside_48 : decode cX0_meetAside 48 = .ok (.iload_n 1, 1) := by decide +kernel
theorem dX0_meetAside_49 : decode cX0_meetAside 49 = .ok (.ishl, 1) := by decide +kernel
theorem dX0_meetAside_50 : decode cX0_meetAside 50 = .ok (.iconst (-1), 1) := by decide +kernel
theorem dX0_meetAside_51 : decode cX0_meetAside 51 = .ok (.ixor, 1) := by decide +kernel
theorem dX0_meetAside_52 : decode cX0_meetAside 52 = .ok (.iand, 1) := by decide +kernel
theorem dX0_meetAside_53 : decode cX0_meetAside 53 = .ok (.ior, 1) := by decide +kernel
theorem dX0_meetAside_54 : decode cX0_meetAside 54 = .ok (.iastore, 1) := by decide +kernel
theorem dX0_meetAside_55 : decode cX0_meetAside 55 = .ok (.aload 4, 2) := by decide +kernel
theorem dX0_meetAside_57 : decode cX0_meetAside 57 = .ok (.iload_n 2, 1) := by decide +kernel
theorem dX0_meetAside_58 : decode cX0_meetAside 58 = .ok (.dup2, 1) := by decide +kernel
theorem dX0_meetAside_59 : decode cX0_meetAside 59 = .ok (.iaload, 1) := by decide +kernel
theorem dX0_meetAside_60 : decode cX0_meetAside 60 = .ok (.iload 5, 2) := by decide +kernel
theorem dX0_meetAside_62 : decode cX0_meetAside 62 = .ok (.iconst 1, 1) := by decide +kernel
theorem dX0_meetAside_63 : decode cX0_meetAside 63 = .ok (.iload_n 2, 1) := by decide +kernel
theorem dX0_meetAside_64 : decode cX0_meetAside 64 = .ok (.ishl, 1) := by decide +kernel
theorem dX0_meetAside_65 : decode cX0_meetAside 65 = .ok (.iconst (-1), 1) := by decide +kernel
theorem dX0_meetAside_66 : decode cX0_meetAside 66 = .ok (.ixor, 1) := by decide +kernel
theorem dX0_meetAside_67 : decode cX0_meetAside 67 = .ok (.iand, 1) := by decide +kernel
theorem dX0_meetAside_68 : decode cX0_meetAside 68 = .ok (.ior, 1) := by decide +kernel
theorem dX0_meetAside_69 : decode cX0_meetAside 69 = .ok (.iastore, 1) := by decide +kernel
theorem dX0_meetAside_70 : decode cX0_meetAside 70 = .ok (.return_, 1) := by decide +kernel
theorem dX0_tellings_0 : decode cX0_tellings 0 = .ok (.iconst 0, 1) := by decide +kernel
theorem dX0_tellings_1 : decode cX0_tellings 1 = .ok (.istore_n 1, 1) := by decide +kernel
theorem dX0_tellings_2 : decode cX0_tellings 2 = .ok (.iconst 0, 1) := by decide +kernel
theorem dX0_tellings_3 : decode cX0_tellings 3 = .ok (.istore_n 2, 1) := by decide +kernel
theorem dX0_tellings_4 : decode cX0_tellings 4 = .ok (.iload_n 2, 1) := by decide +kernel
theorem dX0_tellings_5 : decode cX0_tellings 5 = .ok (.aload_n 0, 1) := by decide +kernel
theorem dX0_tellings_6 : decode cX0_tellings 6 = .ok (.getfield 30, 3) := by decide +kernel
theorem dX0_tellings_9 : decode cX0_tellings 9 = .ok (.if_icmp .ge 21, 3) := by decide +kernel
theorem dX0_tellings_12 : decode cX0_tellings 12 = .ok (.iload_n 1, 1) := by decide +kernel
theorem dX0_tellings_13 : decode cX0_tellings 13 = .ok (.aload_n 0, 1) := by decide +kernel
theorem dX0_tellings_14 : decode cX0_tellings 14 = .ok (.getfield 21, 3) := by decide +kernel
theorem dX0_tellings_17 : decode cX0_tellings 17 = .ok (.iload_n 2, 1) := by decide +kernel
theorem dX0_tellings_18 : decode cX0_tellings 18 = .ok (.iaload, 1) := by decide +kernel
theorem dX0_tellings_19 : decode cX0_tellings 19 = .ok (.invokestatic 91, 3) := by decide +kernel
theorem dX0_tellings_22 : decode cX0_tellings 22 = .ok (.iadd, 1) := by decide +kernel
theorem dX0_tellings_23 : decode cX0_tellings 23 = .ok (.istore_n 1, 1) := by decide +kernel
theorem dX0_tellings_24 : decode cX0_tellings 24 = .ok (.iinc 2 1, 3) := by decide +kernel
theorem dX0_tellings_27 : decode cX0_tellings 27 = .ok (.goto (-23), 3) := by decide +kernel
theorem dX0_tellings_30 : decode cX0_tellings 30 = .ok (.iload_n 1, 1) := by decide +kernel
theorem dX0_tellings_31 : decode cX0_tellings 31 = .ok (.ireturn, 1) := by decide +kernel
theorem dX0_tellingOf_0 : decode cX0_tellingOf 0 = .ok (.aload_n 0, 1) := by decide +kernel
theorem dX0_tellingOf_1 : decode cX0_tellingOf 1 = .ok (.getfield 9, 3) := by decide +kernel
theorem dX0_tellingOf_4 : decode cX0_tellingOf 4 = .ok (.iload_n 1, 1) := by decide +kernel
theorem dX0_tellingOf_5 : decode cX0_tellingOf 5 = .ok (.iaload, 1) := by decide +kernel
theorem dX0_tellingOf_6 : decode cX0_tellingOf 6 = .ok (.iload_n 1, 1) := by decide +kernel
theorem dX0_tellingOf_7 : decode cX0_tellingOf 7 = .ok (.aload_n 0, 1) := by decide +kernel
theorem dX0_tellingOf_8 : decode cX0_tellingOf 8 = .ok (.getfield 21, 3) := by decide +kernel
theorem dX0_tellingOf_11 : decode cX0_tellingOf 11 = .ok (.iload_n 1, 1) := by decide +kernel
theorem dX0_tellingOf_12 : decode cX0_tellingOf 12 = .ok (.iaload, 1) := by decide +kernel
theorem dX0_tellingOf_13 : decode cX0_tellingOf 13 = .ok (.invokestatic 87, 3) := by decide +kernel
theorem dX0_tellingOf_16 : decode cX0_tellingOf 16 = .ok (.ireturn, 1) := by decide +kernel
theorem dX0_naming_0 : decode cX0_naming 0 = .ok (.aload_n 2, 1) := by decide +kernel
theorem dX0_naming_1 : decode cX0_naming 1 = .ok (.iload_n 1, 1) := by decide +kernel
theorem dX0_naming_2 : decode cX0_naming 2 = .ok (.iaload, 1) := by decide +kernel
theorem dX0_naming_3 : decode cX0_naming 3 = .ok (.iconst 1, 1) := by decide +kernel
theorem dX0_naming_4 : decode cX0_naming 4 = .ok (.iload_n 1, 1) := by decide +kernel
theorem dX0_naming_5 : decode cX0_naming 5 = .ok (.ishl, 1) := by decide +kernel
theorem dX0_naming_6 : decode cX0_naming 6 = .ok (.ior, 1) := by decide +kernel
theorem dX0_naming_7 : decode cX0_naming 7 = .ok (.aload_n 0, 1) := by decide +kernel
theorem dX0_naming_8 : decode cX0_naming 8 = .ok (.getfield 24, 3) := by decide +kernel
theorem dX0_naming_11 : decode cX0_naming 11 = .ok (.iconst 1, 1) := by decide +kernel
theorem dX0_naming_12 : decode cX0_naming 12 = .ok (.iaload, 1) := by decide +kernel
theorem dX0_naming_13 : decode cX0_naming 13 = .ok (.ior, 1) := by decide +kernel
theorem dX0_naming_14 : decode cX0_naming 14 = .ok (.istore_n 3, 1) := by decide +kernel
theorem dX0_naming_15 : decode cX0_naming 15 = .ok (.iload_n 3, 1) := by decide +kernel
theorem dX0_naming_16 : decode cX0_naming 16 = .ok (.aload_n 0, 1) := by decide +kernel
theorem dX0_naming_17 : decode cX0_naming 17 = .ok (.getfield 24, 3) := by decide +kernel
theorem dX0_naming_20 : decode cX0_naming 20 = .ok (.iconst 2, 1) := by decide +kernel
theorem dX0_naming_21 : decode cX0_naming 21 = .ok (.iaload, 1) := by decide +kernel
theorem dX0_naming_22 : decode cX0_naming 22 = .ok (.iand, 1) := by decide +kernel
theorem dX0_naming_23 : decode cX0_naming 23 = .ok (.ifCond .eq 14, 3) := by decide +kernel
theorem dX0_naming_26 : decode cX0_naming 26 = .ok (.iload_n 3, 1) := by decide +kernel
theorem dX0_naming_27 : decode cX0_naming 27 = .ok (.aload_n 0, 1) := by decide +kernel
theorem dX0_naming_28 : decode cX0_naming 28 = .ok (.getfield 24, 3) := by decide +kernel
theorem dX0_naming_31 : decode cX0_naming 31 = .ok (.iconst 2, 1) := by decide +kernel
theorem dX0_naming_32 : decode cX0_naming 32 = .ok (.iaload, 1) := by decide +kernel
theorem dX0_naming_33 : decode cX0_naming 33 = .ok (.ior, 1) := by decide +kernel
theorem dX0_naming_34 : decode cX0_naming 34 = .ok (.goto 4, 3) := by decide +kernel
theorem dX0_naming_37 : decode cX0_naming 37 = .ok (.iload_n 3, 1) := by decide +kernel
theorem dX0_naming_38 : decode cX0_naming 38 = .ok (.ireturn, 1) := by decide +kernel
theorem dX0_namersOf_0 : decode cX0_namersOf 0 = .ok (.iconst 0, 1) := by decide +kernel
theorem dX0_namersOf_1 : decode cX0_namersOf 1 = .ok (.istore_n 2, 1) := by decide +kernel
theorem dX0_namersOf_2 : decode cX0_namersOf 2 = .ok (.iconst 0, 1) := by decide +kernel
theorem dX0_namersOf_3 : decode cX0_namersOf 3 = .ok (.istore_n 3, 1) := by decide +kernel
theorem dX0_namersOf_4 : decode cX0_namersOf 4 = .ok (.iload_n 3, 1) := by decide +kernel
theorem dX0_namersOf_5 : decode cX0_namersOf 5 = .ok (.aload_n 0, 1) := by decide +kernel
theorem dX0_namersOf_6 : decode cX0_namersOf 6 = .ok (.getfield 30, 3) := by decide +kernel
theorem dX0_namersOf_9 : decode cX0_namersOf 9 = .ok (.if_icmp .ge 31, 3) := by decide +kernel
theorem dX0_namersOf_12 : decode cX0_namersOf 12 = .ok (.aload_n 0, 1) := by decide +kernel
theorem dX0_namersOf_13 : decode cX0_namersOf 13 = .ok (.iload_n 3, 1) := by decide +kernel
theorem dX0_namersOf_14 : decode cX0_namersOf 14 = .ok (.aload_n 0, 1) := by decide +kernel
theorem dX0_namersOf_15 : decode cX0_namersOf 15 = .ok (.getfield 21, 3) := by decide +kernel
theorem dX0_namersOf_18 : decode cX0_namersOf 18 = .ok (.invokevirtual 96, 3) := by decide +kernel
theorem dX0_namersOf_21 : decode cX0_namersOf 21 = .ok (.iload_n 1, 1) := by decide +kernel
theorem dX0_namersOf_22 : decode cX0_namersOf 22 = .ok (.invokestatic 46, 3) := by decide +kernel
theorem dX0_namersOf_25 : decode cX0_namersOf 25 = .ok (.ifCond .eq 9, 3) := by decide +kernel
theorem dX0_namersOf_28 : decode cX0_namersOf 28 = .ok (.iload_n 2, 1) := by decide +kernel
theorem dX0_namersOf_29 : decode cX0_namersOf 29 = .ok (.iconst 1, 1) := by decide +kernel
theorem dX0_namersOf_30 : decode cX0_namersOf 30 = .ok (.iload_n 3, 1) := by decide +kernel
theorem dX0_namersOf_31 : decode cX0_namersOf 31 = .ok (.ishl, 1) := by decide +kernel
theorem dX0_namersOf_32 : decode cX0_namersOf 32 = .ok (.ior, 1) := by decide +kernel
theorem dX0_namersOf_33 : decode cX0_namersOf 33 = .ok (.istore_n 2, 1) := by decide +kernel
theorem dX0_namersOf_34 : decode cX0_namersOf 34 = .ok (.iinc 3 1, 3) := by decide +kernel
theorem dX0_namersOf_37 : decode cX0_namersOf 37 = .ok (.goto (-33), 3) := by decide +kernel
theorem dX0_namersOf_40 : decode cX0_namersOf 40 = .ok (.iload_n 2, 1) := by decide +kernel
theorem dX0_namersOf_41 : decode cX0_namersOf 41 = .ok (.ireturn, 1) := by decide +kernel
theorem dX0_toldOf_0 : decode cX0_toldOf 0 = .ok (.iconst 0, 1) := by decide +kernel
theorem dX0_toldOf_1 : decode cX0_toldOf 1 = .ok (.istore_n 2, 1) := by decide +kernel
theorem dX0_toldOf_2 : decode cX0_toldOf 2 = .ok (.iconst 0, 1) := by decide +kernel
theorem dX0_toldOf_3 : decode cX0_toldOf 3 = .ok (.istore_n 3, 1) := by decide +kernel
theorem dX0_toldOf_4 : decode cX0_toldOf 4 = .ok (.iload_n 3, 1) := by decide +kernel
theorem dX0_toldOf_5 : decode cX0_toldOf 5 = .ok (.aload_n 0, 1) := by decide +kernel
theorem dX0_toldOf_6 : decode cX0_toldOf 6 = .ok (.getfield 30, 3) := by decide +kernel
theorem dX0_toldOf_9 : decode cX0_toldOf 9 = .ok (.if_icmp .ge 28, 3) := by decide +kernel
theorem dX0_toldOf_12 : decode cX0_toldOf 12 = .ok (.aload_n 0, 1) := by decide +kernel
theorem dX0_toldOf_13 : decode cX0_toldOf 13 = .ok (.getfield 21, 3) := by decide +kernel
theorem dX0_toldOf_16 : decode cX0_toldOf 16 = .ok (.iload_n 3, 1) := by decide +kernel
theorem dX0_toldOf_17 : decode cX0_toldOf 17 = .ok (.iaload, 1) := by decide +kernel
theorem dX0_toldOf_18 : decode cX0_toldOf 18 = .ok (.iload_n 1, 1) := by decide +kernel
theorem dX0_toldOf_19 : decode cX0_toldOf 19 = .ok (.invokestatic 46, 3) := by decide +kernel
theorem dX0_toldOf_22 : decode cX0_toldOf 22 = .ok (.ifCond .eq 9, 3) := by decide +kernel
theorem dX0_toldOf_25 : decode cX0_toldOf 25 = .ok (.iload_n 2, 1) := by decide +kernel
theorem dX0_toldOf_26 : decode cX0_toldOf 26 = .ok (.iconst 1, 1) := by decide +kernel
theorem dX0_toldOf_27 : decode cX0_toldOf 27 = .ok (.iload_n 3, 1) := by decide +kernel
theorem dX0_toldOf_28 : decode cX0_toldOf 28 = .ok (.ishl, 1) := by decide +kernel
theorem dX0_toldOf_29 : decode cX0_toldOf 29 = .ok (.ior, 1) := by decide +kernel
theorem dX0_toldOf_30 : decode cX0_toldOf 30 = .ok (.istore_n 2, 1) := by decide +kernel
theorem dX0_toldOf_31 : decode cX0_toldOf 31 = .ok (.iinc 3 1, 3) := by decide +kernel
theorem dX0_toldOf_34 : decode cX0_toldOf 34 = .ok (.goto (-30), 3) := by decide +kernel
theorem dX0_toldOf_37 : decode cX0_toldOf 37 = .ok (.iload_n 2, 1) := by decide +kernel
theorem dX0_toldOf_38 : decode cX0_toldOf 38 = .ok (.ireturn, 1) := by decide +kernel
theorem dX0_opensTo_0 : decode cX0_opensTo 0 = .ok (.aload_n 0, 1) := by decide +kernel
theorem dX0_opensTo_1 : decode cX0_opensTo 1 = .ok (.iload_n 1, 1) := by decide +kernel
theorem dX0_opensTo_2 : decode cX0_opensTo 2 = .ok (.invokevirtual 50, 3) := by decide +kernel
theorem dX0_opensTo_5 : decode cX0_opensTo 5 = .ok (.ifCond .eq 35, 3) := by decide +kernel
theorem dX0_opensTo_8 : decode cX0_opensTo 8 = .ok (.aload_n 0, 1) := by decide +kernel
theorem dX0_opensTo_9 : decode cX0_opensTo 9 = .ok (.getfield 40, 3) := by decide +kernel
theorem dX0_opensTo_12 : decode cX0_opensTo 12 = .ok (.bipush (-9), 2) := by decide +kernel
theorem dX0_opensTo_14 : decode cX0_opensTo 14 = .ok (.if_icmp .eq 22, 3) := by decide +kernel
theorem dX0_opensTo_17 : decode cX0_opensTo 17 = .ok (.aload_n 0, 1) := by decide +kernel
theorem dX0_opensTo_18 : decode cX0_opensTo 18 = .ok (.iload_n 1, 1) := by decide +kernel
theorem dX0_opensTo_19 : decode cX0_opensTo 19 = .ok (.aload_n 0, 1) := by decide +kernel
theorem dX0_opensTo_20 : decode cX0_opensTo 20 = .ok (.getfield 21, 3) := by decide +kernel
theorem dX0_opensTo_23 : decode cX0_opensTo 23 = .ok (.invokevirtual 96, 3) := by decide +kernel
theorem dX0_opensTo_26 : decode cX0_opensTo 26 = .ok (.aload_n 0, 1) := by decide +kernel
theorem dX0_opensTo_27 : decode cX0_opensTo 27 = .ok (.getfield 40, 3) := by decide +kernel
theorem dX0_opensTo_30 : decode cX0_opensTo 30 = .ok (.invokestatic 46, 3) := by decide +kernel
theorem dX0_opensTo_33 : decode cX0_opensTo 33 = .ok (.ifCond .eq 7, 3) := by decide +kernel
theorem dX0_opensTo_36 : decode cX0_opensTo 36 = .ok (.iconst 1, 1) := by decide +kernel
theorem dX0_opensTo_37 : decode cX0_opensTo 37 = .ok (.goto 4, 3) := by decide +kernel
theorem dX0_opensTo_40 : decode cX0_opensTo 40 = .ok (.iconst 0, 1) := by decide +kernel
theorem dX0_opensTo_41 : decode cX0_opensTo 41 = .ok (.ireturn, 1) := by decide +kernel
theorem dX0_opened_0 : decode cX0_opened 0 = .ok (.iconst 0, 1) := by decide +kernel
theorem dX0_opened_1 : decode cX0_opened 1 = .ok (.istore_n 1, 1) := by decide +kernel
theorem dX0_opened_2 : decode cX0_opened 2 = .ok (.iconst 0, 1) := by decide +kernel
theorem dX0_opened_3 : decode cX0_opened 3 = .ok (.istore_n 2, 1) := by decide +kernel
theorem dX0_opened_4 : decode cX0_opened 4 = .ok (.iload_n 2, 1) := by decide +kernel
theorem dX0_opened_5 : decode cX0_opened 5 = .ok (.aload_n 0, 1) := by decide +kernel
theorem dX0_opened_6 : decode cX0_opened 6 = .ok (.getfield 30, 3) := by decide +kernel
theorem dX0_opened_9 : decode cX0_opened 9 = .ok (.if_icmp .ge 23, 3) := by decide +kernel
theorem dX0_opened_12 : decode cX0_opened 12 = .ok (.aload_n 0, 1) := by decide +kernel
theorem dX0_opened_13 : decode cX0_opened 13 = .ok (.iload_n 2, 1) := by decide +kernel
theorem dX0_opened_14 : decode cX0_opened 14 = .ok (.invokevirtual 100, 3) := by decide +kernel
theorem dX0_opened_17 : decode cX0_opened 17 = .ok (.ifCond .eq 9, 3) := by decide +kernel
theorem dX0_opened_20 : decode cX0_opened 20 = .ok (.iload_n 1, 1) := by decide +kernel
theorem dX0_opened_21 : decode cX0_opened 21 = .ok (.iconst 1, 1) := by decide +kernel
theorem dX0_opened_22 : decode cX0_opened 22 = .ok (.iload_n 2, 1) := by decide +kernel
theorem dX0_opened_23 : decode cX0_opened 23 = .ok (.ishl, 1) := by decide +kernel
theorem dX0_opened_24 : decode cX0_opened 24 = .ok (.ior, 1) := by decide +kernel
theorem dX0_opened_25 : decode cX0_opened 25 = .ok (.istore_n 1, 1) := by decide +kernel
theorem dX0_opened_26 : decode cX0_opened 26 = .ok (.iinc 2 1, 3) := by decide +kernel
theorem dX0_opened_29 : decode cX0_opened 29 = .ok (.goto (-25), 3) := by decide +kernel
theorem dX0_opened_32 : decode cX0_opened 32 = .ok (.iload_n 1, 1) := by decide +kernel
theorem dX0_opened_33 : decode cX0_opened 33 = .ok (.ireturn, 1) := by decide +kernel
theorem dX0_worthOf_0 : decode cX0_worthOf 0 = .ok (.iconst 0, 1) := by decide +kernel
theorem dX0_worthOf_1 : decode cX0_worthOf 1 = .ok (.istore_n 2, 1) := by decide +kernel
theorem dX0_worthOf_2 : decode cX0_worthOf 2 = .ok (.iconst 0, 1) := by decide +kernel
theorem dX0_worthOf_3 : decode cX0_worthOf 3 = .ok (.istore_n 3, 1) := by decide +kernel
theorem dX0_worthOf_4 : decode cX0_worthOf 4 = .ok (.iload_n 3, 1) := by decide +kernel
theorem dX0_worthOf_5 : decode cX0_worthOf 5 = .ok (.aload_n 0, 1) := by decide +kernel
theorem dX0_worthOf_6 : decode cX0_worthOf 6 = .ok (.getfield 30, 3) := by decide +kernel
theorem dX0_worthOf_9 : decode cX0_worthOf 9 = .ok (.if_icmp .ge 26, 3) := by decide +kernel
theorem dX0_worthOf_12 : decode cX0_worthOf 12 = .ok (.iload_n 1, 1) := by decide +kernel
theorem dX0_worthOf_13 : decode cX0_worthOf 13 = .ok (.iload_n 3, 1) := by decide +kernel
theorem dX0_worthOf_14 : decode cX0_worthOf 14 = .ok (.invokestatic 46, 3) := by decide +kernel
theorem dX0_worthOf_17 : decode cX0_worthOf 17 = .ok (.ifCond .eq 12, 3) := by decide +kernel
theorem dX0_worthOf_20 : decode cX0_worthOf 20 = .ok (.iload_n 2, 1) := by decide +kernel
theorem dX0_worthOf_21 : decode cX0_worthOf 21 = .ok (.aload_n 0, 1) := by decide +kernel
theorem dX0_worthOf_22 : decode cX0_worthOf 22 = .ok (.getfield 15, 3) := by decide +kernel
theorem dX0_worthOf_25 : decode cX0_worthOf 25 = .ok (.iload_n 3, 1) := by decide +kernel
theorem dX0_worthOf_26 : decode cX0_worthOf 26 = .ok (.iaload, 1) := by decide +kernel
theorem dX0_worthOf_27 : decode cX0_worthOf 27 = .ok (.iadd, 1) := by decide +kernel
theorem dX0_worthOf_28 : decode cX0_worthOf 28 = .ok (.istore_n 2, 1) := by decide +kernel
theorem dX0_worthOf_29 : decode cX0_worthOf 29 = .ok (.iinc 3 1, 3) := by decide +kernel
theorem dX0_worthOf_32 : decode cX0_worthOf 32 = .ok (.goto (-28), 3) := by decide +kernel
theorem dX0_worthOf_35 : decode cX0_worthOf 35 = .ok (.iload_n 2, 1) := by decide +kernel
theorem dX0_worthOf_36 : decode cX0_worthOf 36 = .ok (.ireturn, 1) := by decide +kernel
theorem dX1_init_0 : decode cX1_init 0 = .ok (.aload_n 0, 1) := by decide +kernel
theorem dX1_init_1 : decode cX1_init 1 = .ok (.invokespecial 3, 3) := by decide +kernel
theorem dX1_init_4 : decode cX1_init 4 = .ok (.aload_n 0, 1) := by decide +kernel
theorem dX1_init_5 : decode cX1_init 5 = .ok (.bipush 7, 2) := by decide +kernel
theorem dX1_init_7 : decode cX1_init 7 = .ok (.newarray .int, 2) := by decide +kernel
theorem dX1_init_9 : decode cX1_init 9 = .ok (.putfield 9, 3) := by decide +kernel
theorem dX1_init_12 : decode cX1_init 12 = .ok (.aload_n 0, 1) := by decide +kernel
theorem dX1_init_13 : decode cX1_init 13 = .ok (.sipush 128, 3) := by decide +kernel
theorem dX1_init_16 : decode cX1_init 16 = .ok (.newarray .int, 2) := by decide +kernel
theorem dX1_init_18 : decode cX1_init 18 = .ok (.putfield 15, 3) := by decide +kernel
theorem dX1_init_21 : decode cX1_init 21 = .ok (.aload_n 0, 1) := by decide +kernel
theorem dX1_init_22 : decode cX1_init 22 = .ok (.sipush 128, 3) := by decide +kernel
theorem dX1_init_25 : decode cX1_init 25 = .ok (.newarray .int, 2) := by decide +kernel
theorem dX1_init_27 : decode cX1_init 27 = .ok (.putfield 18, 3) := by decide +kernel
theorem dX1_init_30 : decode cX1_init 30 = .ok (.aload_n 0, 1) := by decide +kernel
theorem dX1_init_31 : decode cX1_init 31 = .ok (.sipush 128, 3) := by decide +kernel
theorem dX1_init_34 : decode cX1_init 34 = .ok (.newarray .int, 2) := by decide +kernel
theorem dX1_init_36 : decode cX1_init 36 = .ok (.putfield 21, 3) := by decide +kernel
theorem dX1_init_39 : decode cX1_init 39 = .ok (.aload_n 0, 1) := by decide +kernel
theorem dX1_init_40 : decode cX1_init 40 = .ok (.sipush 896, 3) := by decide +kernel
theorem dX1_init_43 : decode cX1_init 43 = .ok (.newarray .int, 2) := by decide +kernel
theorem dX1_init_45 : decode cX1_init 45 = .ok (.putfield 24, 3) := by decide +kernel
theorem dX1_init_48 : decode cX1_init 48 = .ok (.aload_n 0, 1) := by decide +kernel
theorem dX1_init_49 : decode cX1_init 49 = .ok (.iconst 0, 1) := by decide +kernel
theorem dX1_init_50 : decode cX1_init 50 = .ok (.putfield 27, 3) := by decide +kernel
theorem dX1_init_53 : decode cX1_init 53 = .ok (.aload_n 0, 1) := by decide +kernel
theorem dX1_init_54 : decode cX1_init 54 = .ok (.iconst 0, 1) := by decide +kernel
theorem dX1_init_55 : decode cX1_init 55 = .ok (.putfield 31, 3) := by decide +kernel
theorem dX1_init_58 : decode cX1_init 58 = .ok (.aload_n 0, 1) := by decide +kernel
theorem dX1_init_59 : decode cX1_init 59 = .ok (.iconst 0, 1) := by decide +kernel
theorem dX1_init_60 : decode cX1_init 60 = .ok (.putfield 34, 3) := by decide +kernel
theorem dX1_init_63 : decode cX1_init 63 = .ok (.return_, 1) := by decide +kernel
theorem dX1_survey_0 : decode cX1_survey 0 = .ok (.aload_n 0, 1) := by decide +kernel
theorem dX1_survey_1 : decode cX1_survey 1 = .ok (.aload_n 1, 1) := by decide +kernel
theorem dX1_survey_2 : decode cX1_survey 2 = .ok (.aload_n 2, 1) := by decide +kernel
theorem dX1_survey_3 : decode cX1_survey 3 = .ok (.invokevirtual 37, 3) := by decide +kernel
theorem dX1_survey_6 : decode cX1_survey 6 = .ok (.aload_n 0, 1) := by decide +kernel
theorem dX1_survey_7 : decode cX1_survey 7 = .ok (.invokevirtual 41, 3) := by decide +kernel
theorem dX1_survey_10 : decode cX1_survey 10 = .ok (.return_, 1) := by decide +kernel
theorem dX1_look_0 : decode cX1_look 0 = .ok (.aload_n 0, 1) := by decide +kernel
theorem dX1_look_1 : decode cX1_look 1 = .ok (.aload_n 1, 1) := by decide +kernel
theorem dX1_look_2 : decode cX1_look 2 = .ok (.getfield 44, 3) := by decide +kernel
theorem dX1_look_5 : decode cX1_look 5 = .ok (.putfield 27, 3) := by decide +kernel
theorem dX1_look_8 : decode cX1_look 8 = .ok (.aload_n 0, 1) := by decide +kernel
theorem dX1_look_9 : decode cX1_look 9 = .ok (.aload_n 1, 1) := by decide +kernel
theorem dX1_look_10 : decode cX1_look 10 = .ok (.invokevirtual 47, 3) := by decide +kernel
theorem dX1_look_13 : decode cX1_look 13 = .ok (.putfield 31, 3) := by decide +kernel
theorem dX1_look_16 : decode cX1_look 16 = .ok (.aload_n 0, 1) := by decide +kernel
theorem dX1_look_17 : decode cX1_look 17 = .ok (.getfield 9, 3) := by decide +kernel
theorem dX1_look_20 : decode cX1_look 20 = .ok (.iconst 0, 1) := by decide +kernel
theorem dX1_look_21 : decode cX1_look 21 = .ok (.invokestatic 50, 3) := by decide +kernel
theorem dX1_look_24 : decode cX1_look 24 = .ok (.iconst 0, 1) := by decide +kernel
theorem dX1_look_25 : decode cX1_look 25 = .ok (.istore_n 3, 1) := by decide +kernel
theorem dX1_look_26 : decode cX1_look 26 = .ok (.iload_n 3, 1) := by decide +kernel
theorem dX1_look_27 : decode cX1_look 27 = .ok (.aload_n 0, 1) := by decide +kernel
theorem dX1_look_28 : decode cX1_look 28 = .ok (.getfield 27, 3) := by decide +kernel
theorem dX1_look_31 : decode cX1_look 31 = .ok (.if_icmp .ge 58, 3) := by decide +kernel
theorem dX1_look_34 : decode cX1_look 34 = .ok (.aload_n 1, 1) := by decide +kernel
theorem dX1_look_35 : decode cX1_look 35 = .ok (.iload_n 3, 1) := by decide +kernel
theorem dX1_look_36 : decode cX1_look 36 = .ok (.aload_n 2, 1) := by decide +kernel
theorem dX1_look_37 : decode cX1_look 37 = .ok (.invokevirtual 56, 3) := by decide +kernel
theorem dX1_look_40 : decode cX1_look 40 = .ok (.istore 4, 2) := by decide +kernel
theorem dX1_look_42 : decode cX1_look 42 = .ok (.iconst 0, 1) := by decide +kernel
theorem dX1_look_43 : decode cX1_look 43 = .ok (.istore 5, 2) := by decide +kernel
theorem dX1_look_45 : decode cX1_look 45 = .ok (.iload 5, 2) := by decide +kernel
theorem dX1_look_47 : decode cX1_look 47 = .ok (.aload_n 0, 1) := by decide +kernel
theorem dX1_look_48 : decode cX1_look 48 = .ok (.getfield 27, 3) := by decide +kernel
theorem dX1_look_51 : decode cX1_look 51 = .ok (.if_icmp .ge 32, 3) := by decide +kernel
theorem dX1_look_54 : decode cX1_look 54 = .ok (.iload 4, 2) := by decide +kernel
theorem dX1_look_56 : decode cX1_look 56 = .ok (.iload 5, 2) := by decide +kernel
theorem dX1_look_58 : decode cX1_look 58 = .ok (.invokestatic 60, 3) := by decide +kernel
theorem dX1_look_61 : decode cX1_look 61 = .ok (.ifCond .eq 16, 3) := by decide +kernel
theorem dX1_look_64 : decode cX1_look 64 = .ok (.aload_n 0, 1) := by decide +kernel
theorem dX1_look_65 : decode cX1_look 65 = .ok (.getfield 9, 3) := by decide +kernel
theorem dX1_look_68 : decode cX1_look 68 = .ok (.iload 5, 2) := by decide +kernel
theorem dX1_look_70 : decode cX1_look 70 = .ok (.dup2, 1) := by decide +kernel
theorem dX1_look_71 : decode cX1_look 71 = .ok (.iaload, 1) := by decide +kernel
theorem dX1_look_72 : decode cX1_look 72 = .ok (.iconst 1, 1) := by decide +kernel
theorem dX1_look_73 : decode cX1_look 73 = .ok (.iload_n 3, 1) := by decide +kernel
theorem dX1_look_74 : decode cX1_look 74 = .ok (.ishl, 1) := by decide +kernel
theorem dX1_look_75 : decode cX1_look 75 = .ok (.ior, 1) := by decide +kernel
theorem dX1_look_76 : decode cX1_look 76 = .ok (.iastore, 1) := by decide +kernel
theorem dX1_look_77 : decode cX1_look 77 = .ok (.iinc 5 1, 3) := by decide +kernel
theorem dX1_look_80 : decode cX1_look 80 = .ok (.goto (-35), 3) := by decide +kernel
theorem dX1_look_83 : decode cX1_look 83 = .ok (.iinc 3 1, 3) := by decide +kernel
theorem dX1_look_86 : decode cX1_look 86 = .ok (.goto (-60), 3) := by decide +kernel
theorem dX1_look_89 : decode cX1_look 89 = .ok (.aload_n 1, 1) := by decide +kernel
theorem dX1_look_90 : decode cX1_look 90 = .ok (.getfield 64, 3) := by decide +kernel
theorem dX1_look_93 : decode cX1_look 93 = .ok (.ifCond .lt 18, 3) := by decide +kernel
theorem dX1_look_96 : decode cX1_look 96 = .ok (.aload_n 1, 1) := by decide +kernel
theorem dX1_look_97 : decode cX1_look 97 = .ok (.getfield 64, 3) := by decide +kernel
theorem dX1_look_100 : decode cX1_look 100 = .ok (.aload_n 0, 1) := by decide +kernel
theorem dX1_look_101 : decode cX1_look 101 = .ok (.getfield 27, 3) := by decide +kernel
theorem dX1_look_104 : decode cX1_look 104 = .ok (.if_icmp .ge 7, 3) := by decide +kernel
theorem dX1_look_107 : decode cX1_look 107 = .ok (.iconst 1, 1) := by decide +kernel
theorem dX1_look_108 : decode cX1_look 108 = .ok (.goto 4, 3) := by decide +kernel
theorem dX1_look_111 : decode cX1_look 111 = .ok (.iconst 0, 1) := by decide +kernel
theorem dX1_look_112 : decode cX1_look 112 = .ok (.istore_n 3, 1) := by decide +kernel
theorem dX1_look_113 : decode cX1_look 113 = .ok (.aload_n 0, 1) := by decide +kernel
theorem dX1_look_114 : decode cX1_look 114 = .ok (.iload_n 3, 1) := by decide +kernel
theorem dX1_look_115 : decode cX1_look 115 = .ok (.ifCond .eq 20, 3) := by decide +kernel
theorem dX1_look_118 : decode cX1_look 118 = .ok (.aload_n 0, 1) := by decide +kernel
theorem dX1_look_119 : decode cX1_look 119 = .ok (.getfield 9, 3) := by decide +kernel
theorem dX1_look_122 : decode cX1_look 122 = .ok (.aload_n 1, 1) := by decide +kernel
theorem dX1_look_123 : decode cX1_look 123 = .ok (.getfield 64, 3) := by decide +kernel
theorem dX1_look_126 : decode cX1_look 126 = .ok (.iaload, 1) := by decide +kernel
theorem dX1_look_127 : decode cX1_look 127 = .ok (.aload_n 0, 1) := by decide +kernel
theorem dX1_look_128 : decode cX1_look 128 = .ok (.getfield 31, 3) := by decide +kernel
theorem dX1_look_131 : decode cX1_look 131 = .ok (.iand, 1) := by decide +kernel
theorem dX1_look_132 : decode cX1_look 132 = .ok (.goto 7, 3) := by decide +kernel
theorem dX1_look_135 : decode cX1_look 135 = .ok (.aload_n 0, 1) := by decide +kernel
theorem dX1_look_136 : decode cX1_look 136 = .ok (.getfield 31, 3) := by decide +kernel
theorem dX1_look_139 : decode cX1_look 139 = .ok (.putfield 34, 3) := by decide +kernel
theorem dX1_look_142 : decode cX1_look 142 = .ok (.return_, 1) := by decide +kernel
theorem dX1_within_0 : decode cX1_within 0 = .ok (.iload_n 1, 1) := by decide +kernel
theorem dX1_within_1 : decode cX1_within 1 = .ok (.aload_n 0, 1) := by decide +kernel
theorem dX1_within_2 : decode cX1_within 2 = .ok (.getfield 31, 3) := by decide +kernel
theorem dX1_within_5 : decode cX1_within 5 = .ok (.iconst (-1), 1) := by decide +kernel
theorem dX1_within_6 : decode cX1_within 6 = .ok (.ixor, 1) := by decide +kernel
theorem dX1_within_7 : decode cX1_within 7 = .ok (.iand, 1) := by decide +kernel
theorem dX1_within_8 : decode cX1_within 8 = .ok (.ifCond .ne 7, 3) := by decide +kernel
theorem dX1_within_11 : decode cX1_within 11 = .ok (.iconst 1, 1) := by decide +kernel
theorem dX1_within_12 : decode cX1_within 12 = .ok (.goto 4, 3) := by decide +kernel
theorem dX1_within_15 : decode cX1_within 15 = .ok (.iconst 0, 1) := by decide +kernel
theorem dX1_within_16 : decode cX1_within 16 = .ok (.ireturn, 1) := by decide +kernel
theorem dX1_mayAllCome_0 : decode cX1_mayAllCome 0 = .ok (.iconst 0, 1) := by decide +kernel
theorem dX1_mayAllCome_1 : decode cX1_mayAllCome 1 = .ok (.istore_n 1, 1) := by decide +kernel
theorem dX1_mayAllCome_2 : decode cX1_mayAllCome 2 = .ok (.iconst 0, 1) := by decide +kernel
theorem dX1_mayAllCome_3 : decode cX1_mayAllCome 3 = .ok (.istore_n 2, 1) := by decide +kernel
theorem dX1_mayAllCome_4 : decode cX1_mayAllCome 4 = .ok (.iload_n 2, 1) := by decide +kernel
theorem dX1_mayAllCome_5 : decode cX1_mayAllCome 5 = .ok (.aload_n 0, 1) := by decide +kernel
theorem dX1_mayAllCome_6 : decode cX1_mayAllCome 6 = .ok (.getfield 27, 3) := by decide +kernel
theorem dX1_mayAllCome_9 : decode cX1_mayAllCome 9 = .ok (.if_icmp .ge 35, 3) := by decide +kernel
theorem dX1_mayAllCome_12 : decode cX1_mayAllCome 12 = .ok (.aload_n 0, 1) := by decide +kernel
theorem dX1_mayAllCome_13 : decode cX1_mayAllCome 13 = .ok (.getfield 31, 3) := by decide +kernel
theorem dX1_mayAllCome_16 : decode cX1_mayAllCome 16 = .ok (.iload_n 2, 1) := by decide +kernel
theorem dX1_mayAllCome_17 : decode cX1_mayAllCome 17 = .ok (.invokestatic 60, 3) := by decide +kernel
theorem dX1_mayAllCome_20 : decode cX1_mayAllCome 20 = .ok (.ifCond .eq 18, 3) := by decide +kernel
theorem dX1_mayAllCome_23 : decode cX1_mayAllCome 23 = .ok (.iload_n 1, 1) := by decide +kernel
theorem dX1_mayAllCome_24 : decode cX1_mayAllCome 24 = .ok (.aload_n 0, 1) := by decide +kernel
theorem dX1_mayAllCome_25 : decode cX1_mayAllCome 25 = .ok (.getfield 9, 3) := by decide +kernel
theorem dX1_mayAllCome_28 : decode cX1_mayAllCome 28 = .ok (.iload_n 2, 1) := by decide +kernel
theorem dX1_mayAllCome_29 : decode cX1_mayAllCome 29 = .ok (.iaload, 1) := by decide +kernel
theorem dX1_mayAllCome_30 : decode cX1_mayAllCome 30 = .ok (.iconst 1, 1) := by decide +kernel
theorem dX1_mayAllCome_31 : decode cX1_mayAllCome 31 = .ok (.iload_n 2, 1) := by decide +kernel
theorem dX1_mayAllCome_32 : decode cX1_mayAllCome 32 = .ok (.ishl, 1) := by decide +kernel
theorem dX1_mayAllCome_33 : decode cX1_mayAllCome 33 = .ok (.iconst (-1), 1) := by decide +kernel
theorem dX1_mayAllCome_34 : decode cX1_mayAllCome 34 = .ok (.ixor, 1) := by decide +kernel
theorem dX1_mayAllCome_35 : decode cX1_mayAllCome 35 = .ok (.iand, 1) := by decide +kernel
theorem dX1_mayAllCome_36 : decode cX1_mayAllCome 36 = .ok (.ior, 1) := by decide +kernel
theorem dX1_mayAllCome_37 : decode cX1_mayAllCome 37 = .ok (.istore_n 1, 1) := by decide +kernel
theorem dX1_mayAllCome_38 : decode cX1_mayAllCome 38 = .ok (.iinc 2 1, 3) := by decide +kernel
theorem dX1_mayAllCome_41 : decode cX1_mayAllCome 41 = .ok (.goto (-37), 3) := by decide +kernel
theorem dX1_mayAllCome_44 : decode cX1_mayAllCome 44 = .ok (.aload_n 0, 1) := by decide +kernel
theorem dX1_mayAllCome_45 : decode cX1_mayAllCome 45 = .ok (.getfield 31, 3) := by decide +kernel
theorem dX1_mayAllCome_48 : decode cX1_mayAllCome 48 = .ok (.iload_n 1, 1) := by decide +kernel
theorem dX1_mayAllCome_49 : decode cX1_mayAllCome 49 = .ok (.iconst (-1), 1) := by decide +kernel
theorem dX1_mayAllCome_50 : decode cX1_mayAllCome 50 = .ok (.ixor, 1) := by decide +kernel
theorem dX1_mayAllCome_51 : decode cX1_mayAllCome 51 = .ok (.iand, 1) := by decide +kernel
theorem dX1_mayAllCome_52 : decode cX1_mayAllCome 52 = .ok (.istore_n 2, 1) := by decide +kernel
theorem dX1_mayAllCome_53 : decode cX1_mayAllCome 53 = .ok (.iload_n 2, 1) := by decide +kernel
theorem dX1_mayAllCome_54 : decode cX1_mayAllCome 54 = .ok (.aload_n 0, 1) := by decide +kernel
theorem dX1_mayAllCome_55 : decode cX1_mayAllCome 55 = .ok (.getfield 34, 3) := by decide +kernel
theorem dX1_mayAllCome_58 : decode cX1_mayAllCome 58 = .ok (.iconst (-1), 1) := by decide +kernel
theorem dX1_mayAllCome_59 : decode cX1_mayAllCome 59 = .ok (.ixor, 1) := by decide +kernel
theorem dX1_mayAllCome_60 : decode cX1_mayAllCome 60 = .ok (.iand, 1) := by decide +kernel
theorem dX1_mayAllCome_61 : decode cX1_mayAllCome 61 = .ok (.ifCond .ne 15, 3) := by decide +kernel
theorem dX1_mayAllCome_64 : decode cX1_mayAllCome 64 = .ok (.iload_n 2, 1) := by decide +kernel
theorem dX1_mayAllCome_65 : decode cX1_mayAllCome 65 = .ok (.invokestatic 67, 3) := by decide +kernel
theorem dX1_mayAllCome_68 : decode cX1_mayAllCome 68 = .ok (.iconst 1, 1) := by decide +kernel
theorem dX1_mayAllCome_69 : decode cX1_mayAllCome 69 = .ok (.if_icmp .gt 7, 3) := by decide +kernel
theorem dX1_mayAllCome_72 : decode cX1_mayAllCome 72 = .ok (.iconst 1, 1) := by decide +kernel
theorem dX1_mayAllCome_73 : decode cX1_mayAllCome 73 = .ok (.goto 4, 3) := by decide +kernel
theorem dX1_mayAllCome_76 : decode cX1_mayAllCome 76 = .ok (.iconst 0, 1) := by decide +kernel
theorem dX1_mayAllCome_77 : decode cX1_mayAllCome 77 = .ok (.ireturn, 1) := by decide +kernel
theorem dX1_chain_0 : decode cX1_chain 0 = .ok (.iconst 1, 1) := by decide +kernel
theorem dX1_chain_1 : decode cX1_chain 1 = .ok (.istore_n 1, 1) := by decide +kernel
theorem dX1_chain_2 : decode cX1_chain 2 = .ok (.iload_n 1, 1) := by decide +kernel
theorem dX1_chain_3 : decode cX1_chain 3 = .ok (.aload_n 0, 1) := by decide +kernel
theorem dX1_chain_4 : decode cX1_chain 4 = .ok (.getfield 31, 3) := by decide +kernel
theorem dX1_chain_7 : decode cX1_chain 7 = .ok (.if_icmp .gt 28, 3) := by decide +kernel
theorem dX1_chain_10 : decode cX1_chain 10 = .ok (.aload_n 0, 1) := by decide +kernel
theorem dX1_chain_11 : decode cX1_chain 11 = .ok (.iload_n 1, 1) := by decide +kernel
theorem dX1_chain_12 : decode cX1_chain 12 = .ok (.invokevirtual 73, 3) := by decide +kernel
theorem dX1_chain_15 : decode cX1_chain 15 = .ok (.ifCond .eq 14, 3) := by decide +kernel
theorem dX1_chain_18 : decode cX1_chain 18 = .ok (.aload_n 0, 1) := by decide +kernel
theorem dX1_chain_19 : decode cX1_chain 19 = .ok (.getfield 15, 3) := by decide +kernel
theorem dX1_chain_22 : decode cX1_chain 22 = .ok (.iload_n 1, 1) := by decide +kernel
theorem dX1_chain_23 : decode cX1_chain 23 = .ok (.aload_n 0, 1) := by decide +kernel
theorem dX1_chain_24 : decode cX1_chain 24 = .ok (.iload_n 1, 1) := by decide +kernel
theorem dX1_chain_25 : decode cX1_chain 25 = .ok (.invokevirtual 77, 3) := by decide +kernel
theorem dX1_chain_28 : decode cX1_chain 28 = .ok (.iastore, 1) := by decide +kernel
theorem dX1_chain_29 : decode cX1_chain 29 = .ok (.iinc 1 1, 3) := by decide +kernel
theorem dX1_chain_32 : decode cX1_chain 32 = .ok (.goto (-30), 3) := by decide +kernel
theorem dX1_chain_35 : decode cX1_chain 35 = .ok (.return_, 1) := by decide +kernel
theorem dX1_startersOf_0 : decode cX1_startersOf 0 = .ok (.iconst 0, 1) := by decide +kernel
theorem dX1_startersOf_1 : decode cX1_startersOf 1 = .ok (.istore_n 2, 1) := by decide +kernel
theorem dX1_startersOf_2 : decode cX1_startersOf 2 = .ok (.iconst 0, 1) := by decide +kernel
theorem dX1_startersOf_3 : decode cX1_startersOf 3 = .ok (.istore_n 3, 1) := by decide +kernel
theorem dX1_startersOf_4 : decode cX1_startersOf 4 = .ok (.iload_n 3, 1) := by decide +kernel
theorem dX1_startersOf_5 : decode cX1_startersOf 5 = .ok (.aload_n 0, 1) := by decide +kernel
theorem dX1_startersOf_6 : decode cX1_startersOf 6 = .ok (.getfield 27, 3) := by decide +kernel
theorem dX1_startersOf_9 : decode cX1_startersOf 9 = .ok (.if_icmp .ge 54, 3) := by decide +kernel
theorem dX1_startersOf_12 : decode cX1_startersOf 12 = .ok (.iload_n 1, 1) := by decide +kernel
theorem dX1_startersOf_13 : decode cX1_startersOf 13 = .ok (.iload_n 3, 1) := by decide +kernel
theorem dX1_startersOf_14 : decode cX1_startersOf 14 = .ok (.invokestatic 60, 3) := by decide +kernel
theorem dX1_startersOf_17 : decode cX1_startersOf 17 = .ok (.ifCond .eq 40, 3) := by decide +kernel
theorem dX1_startersOf_20 : decode cX1_startersOf 20 = .ok (.iload_n 1, 1) := by decide +kernel
theorem dX1_startersOf_21 : decode cX1_startersOf 21 = .ok (.iconst 1, 1) := by decide +kernel
theorem dX1_startersOf_22 : decode cX1_startersOf 22 = .ok (.iload_n 3, 1) := by decide +kernel
theorem dX1_startersOf_23 : decode cX1_startersOf 23 = .ok (.ishl, 1) := by decide +kernel
theorem dX1_startersOf_24 : decode cX1_startersOf 24 = .ok (.iconst (-1), 1) := by decide +kernel
theorem dX1_startersOf_25 : decode cX1_startersOf 25 = .ok (.ixor, 1) := by decide +kernel
theorem dX1_startersOf_26 : decode cX1_startersOf 26 = .ok (.iand, 1) := by decide +kernel
theorem dX1_startersOf_27 : decode cX1_startersOf 27 = .ok (.istore 4, 2) := by decide +kernel
theorem dX1_startersOf_29 : decode cX1_startersOf 29 = .ok (.iload 4, 2) := by decide +kernel
theorem dX1_startersOf_31 : decode cX1_startersOf 31 = .ok (.ifCond .eq 20, 3) := by decide +kernel
theorem dX1_startersOf_34 : decode cX1_startersOf 34 = .ok (.aload_n 0, 1) := by decide +kernel
theorem dX1_startersOf_35 : decode cX1_startersOf 35 = .ok (.getfield 15, 3) := by decide +kernel
theorem dX1_startersOf_38 : decode cX1_startersOf 38 = .ok (.iload 4, 2) := by decide +kernel
theorem dX1_startersOf_40 : decode cX1_startersOf 40 = .ok (.iaload, 1) := by decide +kernel
theorem dX1_startersOf_41 : decode cX1_startersOf 41 = .ok (.aload_n 0, 1) := by decide +kernel
theorem dX1_startersOf_42 : decode cX1_startersOf 42 = .ok (.getfield 9, 3) := by decide +kernel
theorem dX1_startersOf_45 : decode cX1_startersOf 45 = .ok (.iload_n 3, 1) := by decide +kernel
theorem dX1_startersOf_46 : decode cX1_startersOf 46 = .ok (.iaload, 1) := by decide +kernel
theorem dX1_startersOf_47 : decode cX1_startersOf 47 = .ok (.iand, 1) := by decide +kernel
theorem dX1_startersOf_48 : decode cX1_startersOf 48 = .ok (.ifCond .eq 9, 3) := by decide +kernel
theorem dX1_startersOf_51 : decode cX1_startersOf 51 = .ok (.iload_n 2, 1) := by decide +kernel
theorem dX1_startersOf_52 : decode cX1_startersOf 52 = .ok (.iconst 1, 1) := by decide +kernel
theorem dX1_startersOf_53 : decode cX1_startersOf 53 = .ok (.iload_n 3, 1) := by decide +kernel
theorem dX1_startersOf_54 : decode cX1_startersOf 54 = .ok (.ishl, 1) := by decide +kernel
theorem dX1_startersOf_55 : decode cX1_startersOf 55 = .ok (.ior, 1) := by decide +kernel
theorem dX1_startersOf_56 : decode cX1_startersOf 56 = .ok (.istore_n 2, 1) := by decide +kernel
theorem dX1_startersOf_57 : decode cX1_startersOf 57 = .ok (.iinc 3 1, 3) := by decide +kernel
theorem dX1_startersOf_60 : decode cX1_startersOf 60 = .ok (.goto (-56), 3) := by decide +kernel
theorem dX1_startersOf_63 : decode cX1_startersOf 63 = .ok (.iload_n 2, 1) := by decide +kernel
theorem dX1_startersOf_64 : decode cX1_startersOf 64 = .ok (.ireturn, 1) := by decide +kernel
theorem dX1_comesThrough_0 : decode cX1_comesThrough 0 = .ok (.aload_n 0, 1) := by decide +kernel
theorem dX1_comesThrough_1 : decode cX1_comesThrough 1 = .ok (.iload_n 1, 1) := by decide +kernel
theorem dX1_comesThrough_2 : decode cX1_comesThrough 2 = .ok (.invokevirtual 73, 3) := by decide +kernel
theorem dX1_comesThrough_5 : decode cX1_comesThrough 5 = .ok (.ifCond .eq 25, 3) := by decide +kernel
theorem dX1_comesThrough_8 : decode cX1_comesThrough 8 = .ok (.iload_n 1, 1) := by decide +kernel
theorem dX1_comesThrough_9 : decode cX1_comesThrough 9 = .ok (.ifCond .eq 17, 3) := by decide +kernel
theorem dX1_comesThrough_12 : decode cX1_comesThrough 12 = .ok (.aload_n 0, 1) := by decide +kernel
theorem dX1_comesThrough_13 : decode cX1_comesThrough 13 = .ok (.getfield 15, 3) := by decide +kernel
theorem dX1_comesThrough_16 : decode cX1_comesThrough 16 = .ok (.iload_n 1, 1) := by decide +kernel
theorem dX1_comesThrough_17 : decode cX1_comesThrough 17 = .ok (.iaload, 1) := by decide +kernel
theorem dX1_comesThrough_18 : decode cX1_comesThrough 18 = .ok (.aload_n 0, 1) := by decide +kernel
theorem dX1_comesThrough_19 : decode cX1_comesThrough 19 = .ok (.getfield 34, 3) := by decide +kernel
theorem dX1_comesThrough_22 : decode cX1_comesThrough 22 = .ok (.iand, 1) := by decide +kernel
theorem dX1_comesThrough_23 : decode cX1_comesThrough 23 = .ok (.ifCond .eq 7, 3) := by decide +kernel
theorem dX1_comesThrough_26 : decode cX1_comesThrough 26 = .ok (.iconst 1, 1) := by decide +kernel
theorem dX1_comesThrough_27 : decode cX1_comesThrough 27 = .ok (.goto 4, 3) := by decide +kernel
theorem dX1_comesThrough_30 : decode cX1_comesThrough 30 = .ok (.iconst 0, 1) := by decide +kernel
theorem dX1_comesThrough_31 : decode cX1_comesThrough 31 = .ok (.ireturn, 1) := by decide +kernel
theorem dX1_rank_0 : decode cX1_rank 0 = .ok (.aload_n 0, 1) := by decide +kernel
theorem dX1_rank_1 : decode cX1_rank 1 = .ok (.getfield 18, 3) := by decide +kernel
theorem dX1_rank_4 : decode cX1_rank 4 = .ok (.iconst 0, 1) := by decide +kernel
theorem dX1_rank_5 : decode cX1_rank 5 = .ok (.iconst 0, 1) := by decide +kernel
theorem dX1_rank_6 : decode cX1_rank 6 = .ok (.iastore, 1) := by decide +kernel
theorem dX1_rank_7 : decode cX1_rank 7 = .ok (.iconst 1, 1) := by decide +kernel
theorem dX1_rank_8 : decode cX1_rank 8 = .ok (.istore_n 1, 1) := by decide +kernel
theorem dX1_rank_9 : decode cX1_rank 9 = .ok (.iload_n 1, 1) := by decide +kernel
theorem dX1_rank_10 : decode cX1_rank 10 = .ok (.aload_n 0, 1) := by decide +kernel
theorem dX1_rank_11 : decode cX1_rank 11 = .ok (.getfield 31, 3) := by decide +kernel
theorem dX1_rank_14 : decode cX1_rank 14 = .ok (.if_icmp .gt 49, 3) := by decide +kernel
theorem dX1_rank_17 : decode cX1_rank 17 = .ok (.aload_n 0, 1) := by decide +kernel
theorem dX1_rank_18 : decode cX1_rank 18 = .ok (.iload_n 1, 1) := by decide +kernel
theorem dX1_rank_19 : decode cX1_rank 19 = .ok (.invokevirtual 80, 3) := by decide +kernel
theorem dX1_rank_22 : decode cX1_rank 22 = .ok (.ifCond .eq 16, 3) := by decide +kernel
theorem dX1_rank_25 : decode cX1_rank 25 = .ok (.aload_n 0, 1) := by decide +kernel
theorem dX1_rank_26 : decode cX1_rank 26 = .ok (.getfield 18, 3) := by decide +kernel
theorem dX1_rank_29 : decode cX1_rank 29 = .ok (.iload_n 1, 1) := by decide +kernel
theorem dX1_rank_30 : decode cX1_rank 30 = .ok (.iload_n 1, 1) := by decide +kernel
theorem dX1_rank_31 : decode cX1_rank 31 = .ok (.invokestatic 67, 3) := by decide +kernel
theorem dX1_rank_34 : decode cX1_rank 34 = .ok (.iastore, 1) := by decide +kernel
theorem dX1_rank_35 : decode cX1_rank 35 = .ok (.goto 22, 3) := by decide +kernel
theorem dX1_rank_38 : decode cX1_rank 38 = .ok (.aload_n 0, 1) := by decide +kernel
theorem dX1_rank_39 : decode cX1_rank 39 = .ok (.iload_n 1, 1) := by decide +kernel
theorem dX1_rank_40 : decode cX1_rank 40 = .ok (.invokevirtual 73, 3) := by decide +kernel
theorem dX1_rank_43 : decode cX1_rank 43 = .ok (.ifCond .eq 14, 3) := by decide +kernel
theorem dX1_rank_46 : decode cX1_rank 46 = .ok (.aload_n 0, 1) := by decide +kernel
theorem dX1_rank_47 : decode cX1_rank 47 = .ok (.getfield 18, 3) := by decide +kernel
theorem dX1_rank_50 : decode cX1_rank 50 = .ok (.iload_n 1, 1) := by decide +kernel
theorem dX1_rank_51 : decode cX1_rank 51 = .ok (.aload_n 0, 1) := by decide +kernel
theorem dX1_rank_52 : decode cX1_rank 52 = .ok (.iload_n 1, 1) := by decide +kernel
theorem dX1_rank_53 : decode cX1_rank 53 = .ok (.invokevirtual 83, 3) := by decide +kernel
theorem dX1_rank_56 : decode cX1_rank 56 = .ok (.iastore, 1) := by decide +kernel
theorem dX1_rank_57 : decode cX1_rank 57 = .ok (.iinc 1 1, 3) := by decide +kernel
theorem dX1_rank_60 : decode cX1_rank 60 = .ok (.goto (-51), 3) := by decide +kernel
theorem dX1_rank_63 : decode cX1_rank 63 = .ok (.return_, 1) := by decide +kernel
theorem dX1_bestWithoutOne_0 : decode cX1_bestWithoutOne 0 = .ok (.iconst 0, 1) := by decide +kernel
theorem dX1_bestWithoutOne_1 : decode cX1_bestWithoutOne 1 = .ok (.istore_n 2, 1) := by decide +kernel
theorem dX1_bestWithoutOne_2 : decode cX1_bestWithoutOne 2 = .ok (.iconst 0, 1) := by decide +kernel
theorem dX1_bestWithoutOne_3 : decode cX1_bestWithoutOne 3 = .ok (.istore_n 3, 1) := by decide +kernel
theorem dX1_bestWithoutOne_4 : decode cX1_bestWithoutOne 4 = .ok (.iload_n 3, 1) := by decide +kernel
theorem dX1_bestWithoutOne_5 : decode cX1_bestWithoutOne 5 = .ok (.aload_n 0, 1) := by decide +kernel
theorem dX1_bestWithoutOne_6 : decode cX1_bestWithoutOne 6 = .ok (.getfield 27, 3) := by decide +kernel
theorem dX1_bestWithoutOne_9 : decode cX1_bestWithoutOne 9 = .ok (.if_icmp .ge 34, 3) := by decide +kernel
theorem dX1_bestWithoutOne_12 : decode cX1_bestWithoutOne 12 = .ok (.iload_n 1, 1) := by decide +kernel
theorem dX1_bestWithoutOne_13 : decode cX1_bestWithoutOne 13 = .ok (.iload_n 3, 1) := by decide +kernel
theorem dX1_bestWithoutOne_14 : decode cX1_bestWithoutOne 14 = .ok (.invokestatic 60, 3) := by decide +kernel
theorem dX1_bestWithoutOne_17 : decode cX1_bestWithoutOne 17 = .ok (.ifCond .eq 20, 3) := by decide +kernel
theorem dX1_bestWithoutOne_20 : decode cX1_bestWithoutOne 20 = .ok (.iload_n 2, 1) := by decide +kernel
theorem dX1_bestWithoutOne_21 : decode cX1_bestWithoutOne 21 = .ok (.aload_n 0, 1) := by decide +kernel
theorem dX1_bestWithoutOne_22 : decode cX1_bestWithoutOne 22 = .ok (.getfield 18, 3) := by decide +kernel
theorem dX1_bestWithoutOne_25 : decode cX1_bestWithoutOne 25 = .ok (.iload_n 1, 1) := by decide +kernel
theorem dX1_bestWithoutOne_26 : decode cX1_bestWithoutOne 26 = .ok (.iconst 1, 1) := by decide +kernel
theorem dX1_bestWithoutOne_27 : decode cX1_bestWithoutOne 27 = .ok (.iload_n 3, 1) := by decide +kernel
theorem dX1_bestWithoutOne_28 : decode cX1_bestWithoutOne 28 = .ok (.ishl, 1) := by decide +kernel
theorem dX1_bestWithoutOne_29 : decode cX1_bestWithoutOne 29 = .ok (.iconst (-1), 1) := by decide +kernel
theorem dX1_bestWithoutOne_30 : decode cX1_bestWithoutOne 30 = .ok (.ixor, 1) := by decide +kernel
theorem dX1_bestWithoutOne_31 : decode cX1_bestWithoutOne 31 = .ok (.iand, 1) := by decide +kernel
theorem dX1_bestWithoutOne_32 : decode cX1_bestWithoutOne 32 = .ok (.iaload, 1) := by decide +kernel
theorem dX1_bestWithoutOne_33 : decode cX1_bestWithoutOne 33 = .ok (.invokestatic 86, 3) := by decide +kernel
theorem dX1_bestWithoutOne_36 : decode cX1_bestWithoutOne 36 = .ok (.istore_n 2, 1) := by decide +kernel
theorem dX1_bestWithoutOne_37 : decode cX1_bestWithoutOne 37 = .ok (.iinc 3 1, 3) := by decide +kernel
theorem dX1_bestWithoutOne_40 : decode cX1_bestWithoutOne 40 = .ok (.goto (-36), 3) := by decide +kernel
theorem dX1_bestWithoutOne_43 : decode cX1_bestWithoutOne 43 = .ok (.iload_n 2, 1) := by decide +kernel
theorem dX1_bestWithoutOne_44 : decode cX1_bestWithoutOne 44 = .ok (.ireturn, 1) := by decide +kernel
theorem dX1_writeFirstRow_0 : decode cX1_writeFirstRow 0 = .ok (.aload_n 0, 1) := by decide +kernel
theorem dX1_writeFirstRow_1 : decode cX1_writeFirstRow 1 = .ok (.getfield 31, 3) := by decide +kernel
theorem dX1_writeFirstRow_4 : decode cX1_writeFirstRow 4 = .ok (.istore_n 3, 1) := by decide +kernel
theorem dX1_writeFirstRow_5 : decode cX1_writeFirstRow 5 = .ok (.aload_n 0, 1) := by decide +kernel
theorem dX1_writeFirstRow_6 : decode cX1_writeFirstRow 6 = .ok (.getfield 34, 3) := by decide +kernel
theorem dX1_writeFirstRow_9 : decode cX1_writeFirstRow 9 = .ok (.istore 4, 2) := by decide +kernel
theorem dX1_writeFirstRow_11 : decode cX1_writeFirstRow 11 = .ok (.iconst 0, 1) := by decide +kernel
theorem dX1_writeFirstRow_12 : decode cX1_writeFirstRow 12 = .ok (.istore 5, 2) := by decide +kernel
theorem dX1_writeFirstRow_14 : decode cX1_writeFirstRow 14 = .ok (.iload 5, 2) := by decide +kernel
theorem dX1_writeFirstRow_16 : decode cX1_writeFirstRow 16 = .ok (.iload_n 2, 1) := by decide +kernel
theorem dX1_writeFirstRow_17 : decode cX1_writeFirstRow 17 = .ok (.if_icmp .ge 67, 3) := by decide +kernel
theorem dX1_writeFirstRow_20 : decode cX1_writeFirstRow 20 = .ok (.iload 5, 2) := by decide +kernel
theorem dX1_writeFirstRow_22 : decode cX1_writeFirstRow 22 = .ok (.aload_n 1, 1) := by decide +kernel
theorem dX1_writeFirstRow_23 : decode cX1_writeFirstRow 23 = .ok (.arraylength, 1) := by decide +kernel
theorem dX1_writeFirstRow_24 : decode cX1_writeFirstRow 24 = .ok (.if_icmp .ge 60, 3) := by decide +kernel
theorem dX1_writeFirstRow_27 : decode cX1_writeFirstRow 27 = .ok (.aload_n 0, 1) := by decide +kernel
theorem dX1_writeFirstRow_28 : decode cX1_writeFirstRow 28 = .ok (.iload_n 3, 1) := by decide +kernel
theorem dX1_writeFirstRow_29 : decode cX1_writeFirstRow 29 = .ok (.iload_n 2, 1) := by decide +kernel
theorem dX1_writeFirstRow_30 : decode cX1_writeFirstRow 30 = .ok (.iload 5, 2) := by decide +kernel
theorem dX1_writeFirstRow_32 : decode cX1_writeFirstRow 32 = .ok (.isub, 1) := by decide +kernel
theorem dX1_writeFirstRow_33 : decode cX1_writeFirstRow 33 = .ok (.invokevirtual 92, 3) := by decide +kernel
theorem dX1_writeFirstRow_36 : decode cX1_writeFirstRow 36 = .ok (.iload 4, 2) := by decide +kernel
theorem dX1_writeFirstRow_38 : decode cX1_writeFirstRow 38 = .ok (.iand, 1) := by decide +kernel
theorem dX1_writeFirstRow_39 : decode cX1_writeFirstRow 39 = .ok (.invokestatic 95, 3) := by decide +kernel
theorem dX1_writeFirstRow_42 : decode cX1_writeFirstRow 42 = .ok (.istore 6, 2) := by decide +kernel
theorem dX1_writeFirstRow_44 : decode cX1_writeFirstRow 44 = .ok (.iload 6, 2) := by decide +kernel
theorem dX1_writeFirstRow_46 : decode cX1_writeFirstRow 46 = .ok (.aload_n 0, 1) := by decide +kernel
theorem dX1_writeFirstRow_47 : decode cX1_writeFirstRow 47 = .ok (.getfield 27, 3) := by decide +kernel
theorem dX1_writeFirstRow_50 : decode cX1_writeFirstRow 50 = .ok (.if_icmp .lt 4, 3) := by decide +kernel
theorem dX1_writeFirstRow_53 : decode cX1_writeFirstRow 53 = .ok (.return_, 1) := by decide +kernel
theorem dX1_writeFirstRow_54 : decode cX1_writeFirstRow 54 = .ok (.aload_n 1, 1) := by decide +kernel
theorem dX1_writeFirstRow_55 : decode cX1_writeFirstRow 55 = .ok (.iload 5, 2) := by decide +kernel
theorem dX1_writeFirstRow_57 : decode cX1_writeFirstRow 57 = .ok (.iload 6, 2) := by decide +kernel
theorem dX1_writeFirstRow_59 : decode cX1_writeFirstRow 59 = .ok (.iastore, 1) := by decide +kernel
theorem dX1_writeFirstRow_60 : decode cX1_writeFirstRow 60 = .ok (.iload_n 3, 1) := by decide +kernel
theorem dX1_writeFirstRow_61 : decode cX1_writeFirstRow 61 = .ok (.iconst 1, 1) := by decide +kernel
theorem dX1_writeFirstRow_62 : decode cX1_writeFirstRow 62 = .ok (.iload 6, 2) := by decide +kernel
theorem dX1_writeFirstRow_64 : decode cX1_writeFirstRow 64 = .ok (.ishl, 1) := by decide +kernel
theorem dX1_writeFirstRow_65 : decode cX1_writeFirstRow 65 = .ok (.iconst (-1), 1) := by decide +kernel
theorem dX1_writeFirstRow_66 : decode cX1_writeFirstRow 66 = .ok (.ixor, 1) := by decide +kernel
theorem dX1_writeFirstRow_67 : decode cX1_writeFirstRow 67 = .ok (.iand, 1) := by decide +kernel
theorem dX1_writeFirstRow_68 : decode cX1_writeFirstRow 68 = .ok (.istore_n 3, 1) := by decide +kernel
theorem dX1_writeFirstRow_69 : decode cX1_writeFirstRow 69 = .ok (.aload_n 0, 1) := by decide +kernel
theorem dX1_writeFirstRow_70 : decode cX1_writeFirstRow 70 = .ok (.getfield 9, 3) := by decide +kernel
theorem dX1_writeFirstRow_73 : decode cX1_writeFirstRow 73 = .ok (.iload 6, 2) := by decide +kernel
theorem dX1_writeFirstRow_75 : decode cX1_writeFirstRow 75 = .ok (.iaload, 1) := by decide +kernel
theorem dX1_writeFirstRow_76 : decode cX1_writeFirstRow 76 = .ok (.istore 4, 2) := by decide +kernel
theorem dX1_writeFirstRow_78 : decode cX1_writeFirstRow 78 = .ok (.iinc 5 1, 3) := by decide +kernel
theorem dX1_writeFirstRow_81 : decode cX1_writeFirstRow 81 = .ok (.goto (-67), 3) := by decide +kernel
theorem dX1_writeFirstRow_84 : decode cX1_writeFirstRow 84 = .ok (.return_, 1) := by decide +kernel
theorem dX1_firstsOf_0 : decode cX1_firstsOf 0 = .ok (.iconst 0, 1) := by decide +kernel
theorem dX1_firstsOf_1 : decode cX1_firstsOf 1 = .ok (.istore_n 3, 1) := by decide +kernel
theorem dX1_firstsOf_2 : decode cX1_firstsOf 2 = .ok (.iconst 1, 1) := by decide +kernel
theorem dX1_firstsOf_3 : decode cX1_firstsOf 3 = .ok (.istore 4, 2) := by decide +kernel
theorem dX1_firstsOf_5 : decode cX1_firstsOf 5 = .ok (.iload 4, 2) := by decide +kernel
theorem dX1_firstsOf_7 : decode cX1_firstsOf 7 = .ok (.iload_n 1, 1) := by decide +kernel
theorem dX1_firstsOf_8 : decode cX1_firstsOf 8 = .ok (.if_icmp .gt 37, 3) := by decide +kernel
theorem dX1_firstsOf_11 : decode cX1_firstsOf 11 = .ok (.iload 4, 2) := by decide +kernel
theorem dX1_firstsOf_13 : decode cX1_firstsOf 13 = .ok (.iload_n 1, 1) := by decide +kernel
theorem dX1_firstsOf_14 : decode cX1_firstsOf 14 = .ok (.iconst (-1), 1) := by decide +kernel
theorem dX1_firstsOf_15 : decode cX1_firstsOf 15 = .ok (.ixor, 1) := by decide +kernel
theorem dX1_firstsOf_16 : decode cX1_firstsOf 16 = .ok (.iand, 1) := by decide +kernel
theorem dX1_firstsOf_17 : decode cX1_firstsOf 17 = .ok (.ifCond .ne 22, 3) := by decide +kernel
theorem dX1_firstsOf_20 : decode cX1_firstsOf 20 = .ok (.iload 4, 2) := by decide +kernel
theorem dX1_firstsOf_22 : decode cX1_firstsOf 22 = .ok (.invokestatic 67, 3) := by decide +kernel
theorem dX1_firstsOf_25 : decode cX1_firstsOf 25 = .ok (.iload_n 2, 1) := by decide +kernel
theorem dX1_firstsOf_26 : decode cX1_firstsOf 26 = .ok (.if_icmp .ne 13, 3) := by decide +kernel
theorem dX1_firstsOf_29 : decode cX1_firstsOf 29 = .ok (.iload_n 3, 1) := by decide +kernel
theorem dX1_firstsOf_30 : decode cX1_firstsOf 30 = .ok (.aload_n 0, 1) := by decide +kernel
theorem dX1_firstsOf_31 : decode cX1_firstsOf 31 = .ok (.getfield 15, 3) := by decide +kernel
theorem dX1_firstsOf_34 : decode cX1_firstsOf 34 = .ok (.iload 4, 2) := by decide +kernel
theorem dX1_firstsOf_36 : decode cX1_firstsOf 36 = .ok (.iaload, 1) := by decide +kernel
theorem dX1_firstsOf_37 : decode cX1_firstsOf 37 = .ok (.ior, 1) := by decide +kernel
theorem dX1_firstsOf_38 : decode cX1_firstsOf 38 = .ok (.istore_n 3, 1) := by decide +kernel
theorem dX1_firstsOf_39 : decode cX1_firstsOf 39 = .ok (.iinc 4 1, 3) := by decide +kernel
theorem dX1_firstsOf_42 : decode cX1_firstsOf 42 = .ok (.goto (-37), 3) := by decide +kernel
theorem dX1_firstsOf_45 : decode cX1_firstsOf 45 = .ok (.iload_n 3, 1) := by decide +kernel
theorem dX1_firstsOf_46 : decode cX1_firstsOf 46 = .ok (.ireturn, 1) := by decide +kernel
theorem dX1_ordersOfAll_0 : decode cX1_ordersOfAll 0 = .ok (.aload_n 0, 1) := by decide +kernel
theorem dX1_ordersOfAll_1 : decode cX1_ordersOfAll 1 = .ok (.getfield 31, 3) := by decide +kernel
theorem dX1_ordersOfAll_4 : decode cX1_ordersOfAll 4 = .ok (.ifCond .ne 5, 3) := by decide +kernel
theorem dX1_ordersOfAll_7 : decode cX1_ordersOfAll 7 = .ok (.iconst 1, 1) := by decide +kernel
theorem dX1_ordersOfAll_8 : decode cX1_ordersOfAll 8 = .ok (.ireturn, 1) := by decide +kernel
theorem dX1_ordersOfAll_9 : decode cX1_ordersOfAll 9 = .ok (.iconst 1, 1) := by decide +kernel
theorem dX1_ordersOfAll_10 : decode cX1_ordersOfAll 10 = .ok (.istore_n 1, 1) := by decide +kernel
theorem dX1_ordersOfAll_11 : decode cX1_ordersOfAll 11 = .ok (.iload_n 1, 1) := by decide +kernel
theorem dX1_ordersOfAll_12 : decode cX1_ordersOfAll 12 = .ok (.aload_n 0, 1) := by decide +kernel
theorem dX1_ordersOfAll_13 : decode cX1_ordersOfAll 13 = .ok (.getfield 31, 3) := by decide +kernel
theorem dX1_ordersOfAll_16 : decode cX1_ordersOfAll 16 = .ok (.if_icmp .gt 22, 3) := by decide +kernel
theorem dX1_ordersOfAll_19 : decode cX1_ordersOfAll 19 = .ok (.aload_n 0, 1) := by decide +kernel
theorem dX1_ordersOfAll_20 : decode cX1_ordersOfAll 20 = .ok (.iload_n 1, 1) := by decide +kernel
theorem dX1_ordersOfAll_21 : decode cX1_ordersOfAll 21 = .ok (.invokevirtual 73, 3) := by decide +kernel
theorem dX1_ordersOfAll_24 : decode cX1_ordersOfAll 24 = .ok (.ifCond .eq 8, 3) := by decide +kernel
theorem dX1_ordersOfAll_27 : decode cX1_ordersOfAll 27 = .ok (.aload_n 0, 1) := by decide +kernel
theorem dX1_ordersOfAll_28 : decode cX1_ordersOfAll 28 = .ok (.iload_n 1, 1) := by decide +kernel
theorem dX1_ordersOfAll_29 : decode cX1_ordersOfAll 29 = .ok (.invokevirtual 98, 3) := by decide +kernel
theorem dX1_ordersOfAll_32 : decode cX1_ordersOfAll 32 = .ok (.iinc 1 1, 3) := by decide +kernel
theorem dX1_ordersOfAll_35 : decode cX1_ordersOfAll 35 = .ok (.goto (-24), 3) := by decide +kernel
theorem dX1_ordersOfAll_38 : decode cX1_ordersOfAll 38 = .ok (.aload_n 0, 1) := by decide +kernel
theorem dX1_ordersOfAll_39 : decode cX1_ordersOfAll 39 = .ok (.aload_n 0, 1) := by decide +kernel
theorem dX1_ordersOfAll_40 : decode cX1_ordersOfAll 40 = .ok (.getfield 31, 3) := by decide +kernel
theorem dX1_ordersOfAll_43 : decode cX1_ordersOfAll 43 = .ok (.aload_n 0, 1) := by decide +kernel
theorem dX1_ordersOfAll_44 : decode cX1_ordersOfAll 44 = .ok (.getfield 34, 3) := by decide +kernel
theorem dX1_ordersOfAll_47 : decode cX1_ordersOfAll 47 = .ok (.invokevirtual 102, 3) := by decide +kernel
theorem dX1_ordersOfAll_50 : decode cX1_ordersOfAll 50 = .ok (.ireturn, 1) := by decide +kernel
theorem dX1_countWays_0 : decode cX1_countWays 0 = .ok (.iconst 0, 1) := by decide +kernel
theorem dX1_countWays_1 : decode cX1_countWays 1 = .ok (.istore_n 2, 1) := by decide +kernel
theorem dX1_countWays_2 : decode cX1_countWays 2 = .ok (.iload_n 2, 1) := by decide +kernel
theorem dX1_countWays_3 : decode cX1_countWays 3 = .ok (.aload_n 0, 1) := by decide +kernel
theorem dX1_countWays_4 : decode cX1_countWays 4 = .ok (.getfield 27, 3) := by decide +kernel
theorem dX1_countWays_7 : decode cX1_countWays 7 = .ok (.if_icmp .ge 55, 3) := by decide +kernel
theorem dX1_countWays_10 : decode cX1_countWays 10 = .ok (.iload_n 1, 1) := by decide +kernel
theorem dX1_countWays_11 : decode cX1_countWays 11 = .ok (.iload_n 2, 1) := by decide +kernel
theorem dX1_countWays_12 : decode cX1_countWays 12 = .ok (.invokestatic 60, 3) := by decide +kernel
theorem dX1_countWays_15 : decode cX1_countWays 15 = .ok (.ifCond .eq 41, 3) := by decide +kernel
theorem dX1_countWays_18 : decode cX1_countWays 18 = .ok (.iload_n 1, 1) := by decide +kernel
theorem dX1_countWays_19 : decode cX1_countWays 19 = .ok (.iconst 1, 1) := by decide +kernel
theorem dX1_countWays_20 : decode cX1_countWays 20 = .ok (.iload_n 2, 1) := by decide +kernel
theorem dX1_countWays_21 : decode cX1_countWays 21 = .ok (.ishl, 1) := by decide +kernel
theorem dX1_countWays_22 : decode cX1_countWays 22 = .ok (.iconst (-1), 1) := by decide +kernel
theorem dX1_countWays_23 : decode cX1_countWays 23 = .ok (.ixor, 1) := by decide +kernel
theorem dX1_countWays_24 : decode cX1_countWays 24 = .ok (.iand, 1) := by decide +kernel
theorem dX1_countWays_25 : decode cX1_countWays 25 = .ok (.istore_n 3, 1) := by decide +kernel
theorem dX1_countWays_26 : decode cX1_countWays 26 = .ok (.aload_n 0, 1) := by decide +kernel
theorem dX1_countWays_27 : decode cX1_countWays 27 = .ok (.getfield 24, 3) := by decide +kernel
theorem dX1_countWays_30 : decode cX1_countWays 30 = .ok (.iload_n 1, 1) := by decide +kernel
theorem dX1_countWays_31 : decode cX1_countWays 31 = .ok (.bipush 7, 2) := by decide +kernel
theorem dX1_countWays_33 : decode cX1_countWays 33 = .ok (.imul, 1) := by decide +kernel
theorem dX1_countWays_34 : decode cX1_countWays 34 = .ok (.iload_n 2, 1) := by decide +kernel
theorem dX1_countWays_35 : decode cX1_countWays 35 = .ok (.iadd, 1) := by decide +kernel
theorem dX1_countWays_36 : decode cX1_countWays 36 = .ok (.iload_n 3, 1) := by decide +kernel
theorem dX1_countWays_37 : decode cX1_countWays 37 = .ok (.ifCond .ne 7, 3) := by decide +kernel
theorem dX1_countWays_40 : decode cX1_countWays 40 = .ok (.iconst 1, 1) := by decide +kernel
theorem dX1_countWays_41 : decode cX1_countWays 41 = .ok (.goto 14, 3) := by decide +kernel
theorem dX1_countWays_44 : decode cX1_countWays 44 = .ok (.aload_n 0, 1) := by decide +kernel
theorem dX1_countWays_45 : decode cX1_countWays 45 = .ok (.iload_n 3, 1) := by decide +kernel
theorem dX1_countWays_46 : decode cX1_countWays 46 = .ok (.aload_n 0, 1) := by decide +kernel
theorem dX1_countWays_47 : decode cX1_countWays 47 = .ok (.getfield 9, 3) := by decide +kernel
theorem dX1_countWays_50 : decode cX1_countWays 50 = .ok (.iload_n 2, 1) := by decide +kernel
theorem dX1_countWays_51 : decode cX1_countWays 51 = .ok (.iaload, 1) := by decide +kernel
theorem dX1_countWays_52 : decode cX1_countWays 52 = .ok (.invokevirtual 102, 3) := by decide +kernel
theorem dX1_countWays_55 : decode cX1_countWays 55 = .ok (.iastore, 1) := by decide +kernel
theorem dX1_countWays_56 : decode cX1_countWays 56 = .ok (.iinc 2 1, 3) := by decide +kernel
theorem dX1_countWays_59 : decode cX1_countWays 59 = .ok (.goto (-57), 3) := by decide +kernel
theorem dX1_countWays_62 : decode cX1_countWays 62 = .ok (.return_, 1) := by decide +kernel
theorem dX1_waysFrom_0 : decode cX1_waysFrom 0 = .ok (.iconst 0, 1) := by decide +kernel
theorem dX1_waysFrom_1 : decode cX1_waysFrom 1 = .ok (.istore_n 3, 1) := by decide +kernel
theorem dX1_waysFrom_2 : decode cX1_waysFrom 2 = .ok (.iconst 0, 1) := by decide +kernel
theorem dX1_waysFrom_3 : decode cX1_waysFrom 3 = .ok (.istore 4, 2) := by decide +kernel
theorem dX1_waysFrom_5 : decode cX1_waysFrom 5 = .ok (.iload 4, 2) := by decide +kernel
theorem dX1_waysFrom_7 : decode cX1_waysFrom 7 = .ok (.aload_n 0, 1) := by decide +kernel
theorem dX1_waysFrom_8 : decode cX1_waysFrom 8 = .ok (.getfield 27, 3) := by decide +kernel
theorem dX1_waysFrom_11 : decode cX1_waysFrom 11 = .ok (.if_icmp .ge 35, 3) := by decide +kernel
theorem dX1_waysFrom_14 : decode cX1_waysFrom 14 = .ok (.iload_n 1, 1) := by decide +kernel
theorem dX1_waysFrom_15 : decode cX1_waysFrom 15 = .ok (.iload_n 2, 1) := by decide +kernel
theorem dX1_waysFrom_16 : decode cX1_waysFrom 16 = .ok (.iand, 1) := by decide +kernel
theorem dX1_waysFrom_17 : decode cX1_waysFrom 17 = .ok (.iload 4, 2) := by decide +kernel
theorem dX1_waysFrom_19 : decode cX1_waysFrom 19 = .ok (.invokestatic 60, 3) := by decide +kernel
theorem dX1_waysFrom_22 : decode cX1_waysFrom 22 = .ok (.ifCond .eq 18, 3) := by decide +kernel
theorem dX1_waysFrom_25 : decode cX1_waysFrom 25 = .ok (.iload_n 3, 1) := by decide +kernel
theorem dX1_waysFrom_26 : decode cX1_waysFrom 26 = .ok (.aload_n 0, 1) := by decide +kernel
theorem dX1_waysFrom_27 : decode cX1_waysFrom 27 = .ok (.getfield 24, 3) := by decide +kernel
theorem dX1_waysFrom_30 : decode cX1_waysFrom 30 = .ok (.iload_n 1, 1) := by decide +kernel
theorem dX1_waysFrom_31 : decode cX1_waysFrom 31 = .ok (.bipush 7, 2) := by decide +kernel
theorem dX1_waysFrom_33 : decode cX1_waysFrom 33 = .ok (.imul, 1) := by decide +kernel
theorem dX1_waysFrom_34 : decode cX1_waysFrom 34 = .ok (.iload 4, 2) := by decide +kernel
theorem dX1_waysFrom_36 : decode cX1_waysFrom 36 = .ok (.iadd, 1) := by decide +kernel
theorem dX1_waysFrom_37 : decode cX1_waysFrom 37 = .ok (.iaload, 1) := by decide +kernel
theorem dX1_waysFrom_38 : decode cX1_waysFrom 38 = .ok (.iadd, 1) := by decide +kernel
theorem dX1_waysFrom_39 : decode cX1_waysFrom 39 = .ok (.istore_n 3, 1) := by decide +kernel
theorem dX1_waysFrom_40 : decode cX1_waysFrom 40 = .ok (.iinc 4 1, 3) := by decide +kernel
theorem dX1_waysFrom_43 : decode cX1_waysFrom 43 = .ok (.goto (-38), 3) := by decide +kernel
theorem dX1_waysFrom_46 : decode cX1_waysFrom 46 = .ok (.iload_n 3, 1) := by decide +kernel
theorem dX1_waysFrom_47 : decode cX1_waysFrom 47 = .ok (.ireturn, 1) := by decide +kernel
theorem dX1_winningGoer_0 : decode cX1_winningGoer 0 = .ok (.iconst 0, 1) := by decide +kernel
theorem dX1_winningGoer_1 : decode cX1_winningGoer 1 = .ok (.istore_n 1, 1) := by decide +kernel
theorem dX1_winningGoer_2 : decode cX1_winningGoer 2 = .ok (.iload_n 1, 1) := by decide +kernel
theorem dX1_winningGoer_3 : decode cX1_winningGoer 3 = .ok (.aload_n 0, 1) := by decide +kernel
theorem dX1_winningGoer_4 : decode cX1_winningGoer 4 = .ok (.getfield 31, 3) := by decide +kernel
theorem dX1_winningGoer_7 : decode cX1_winningGoer 7 = .ok (.if_icmp .ge 28, 3) := by decide +kernel
theorem dX1_winningGoer_10 : decode cX1_winningGoer 10 = .ok (.aload_n 0, 1) := by decide +kernel
theorem dX1_winningGoer_11 : decode cX1_winningGoer 11 = .ok (.iload_n 1, 1) := by decide +kernel
theorem dX1_winningGoer_12 : decode cX1_winningGoer 12 = .ok (.invokevirtual 73, 3) := by decide +kernel
theorem dX1_winningGoer_15 : decode cX1_winningGoer 15 = .ok (.ifCond .eq 14, 3) := by decide +kernel
theorem dX1_winningGoer_18 : decode cX1_winningGoer 18 = .ok (.aload_n 0, 1) := by decide +kernel
theorem dX1_winningGoer_19 : decode cX1_winningGoer 19 = .ok (.getfield 21, 3) := by decide +kernel
theorem dX1_winningGoer_22 : decode cX1_winningGoer 22 = .ok (.iload_n 1, 1) := by decide +kernel
theorem dX1_winningGoer_23 : decode cX1_winningGoer 23 = .ok (.aload_n 0, 1) := by decide +kernel
theorem dX1_winningGoer_24 : decode cX1_winningGoer 24 = .ok (.iload_n 1, 1) := by decide +kernel
theorem dX1_winningGoer_25 : decode cX1_winningGoer 25 = .ok (.invokevirtual 105, 3) := by decide +kernel
theorem dX1_winningGoer_28 : decode cX1_winningGoer 28 = .ok (.iastore, 1) := by decide +kernel
theorem dX1_winningGoer_29 : decode cX1_winningGoer 29 = .ok (.iinc 1 1, 3) := by decide +kernel
theorem dX1_winningGoer_32 : decode cX1_winningGoer 32 = .ok (.goto (-30), 3) := by decide +kernel
theorem dX1_winningGoer_35 : decode cX1_winningGoer 35 = .ok (.aload_n 0, 1) := by decide +kernel
theorem dX1_winningGoer_36 : decode cX1_winningGoer 36 = .ok (.aload_n 0, 1) := by decide +kernel
theorem dX1_winningGoer_37 : decode cX1_winningGoer 37 = .ok (.getfield 31, 3) := by decide +kernel
theorem dX1_winningGoer_40 : decode cX1_winningGoer 40 = .ok (.aload_n 0, 1) := by decide +kernel
theorem dX1_winningGoer_41 : decode cX1_winningGoer 41 = .ok (.getfield 34, 3) := by decide +kernel
theorem dX1_winningGoer_44 : decode cX1_winningGoer 44 = .ok (.invokevirtual 108, 3) := by decide +kernel
theorem dX1_winningGoer_47 : decode cX1_winningGoer 47 = .ok (.ireturn, 1) := by decide +kernel
theorem dX1_winnersAt_0 : decode cX1_winnersAt 0 = .ok (.iconst 0, 1) := by decide +kernel
theorem dX1_winnersAt_1 : decode cX1_winnersAt 1 = .ok (.istore_n 2, 1) := by decide +kernel
theorem dX1_winnersAt_2 : decode cX1_winnersAt 2 = .ok (.iconst 0, 1) := by decide +kernel
theorem dX1_winnersAt_3 : decode cX1_winnersAt 3 = .ok (.istore_n 3, 1) := by decide +kernel
theorem dX1_winnersAt_4 : decode cX1_winnersAt 4 = .ok (.iload_n 3, 1) := by decide +kernel
theorem dX1_winnersAt_5 : decode cX1_winnersAt 5 = .ok (.aload_n 0, 1) := by decide +kernel
theorem dX1_winnersAt_6 : decode cX1_winnersAt 6 = .ok (.getfield 27, 3) := by decide +kernel
theorem dX1_winnersAt_9 : decode cX1_winnersAt 9 = .ok (.if_icmp .ge 46, 3) := by decide +kernel
theorem dX1_winnersAt_12 : decode cX1_winnersAt 12 = .ok (.aload_n 0, 1) := by decide +kernel
theorem dX1_winnersAt_13 : decode cX1_winnersAt 13 = .ok (.getfield 31, 3) := by decide +kernel
theorem dX1_winnersAt_16 : decode cX1_winnersAt 16 = .ok (.iload_n 1, 1) := by decide +kernel
theorem dX1_winnersAt_17 : decode cX1_winnersAt 17 = .ok (.iconst (-1), 1) := by decide +kernel
theorem dX1_winnersAt_18 : decode cX1_winnersAt 18 = .ok (.ixor, 1) := by decide +kernel
theorem dX1_winnersAt_19 : decode cX1_winnersAt 19 = .ok (.iand, 1) := by decide +kernel
theorem dX1_winnersAt_20 : decode cX1_winnersAt 20 = .ok (.iload_n 3, 1) := by decide +kernel
theorem dX1_winnersAt_21 : decode cX1_winnersAt 21 = .ok (.invokestatic 60, 3) := by decide +kernel
theorem dX1_winnersAt_24 : decode cX1_winnersAt 24 = .ok (.ifCond .eq 25, 3) := by decide +kernel
theorem dX1_winnersAt_27 : decode cX1_winnersAt 27 = .ok (.aload_n 0, 1) := by decide +kernel
theorem dX1_winnersAt_28 : decode cX1_winnersAt 28 = .ok (.iload_n 1, 1) := by decide +kernel
theorem dX1_winnersAt_29 : decode cX1_winnersAt 29 = .ok (.aload_n 0, 1) := by decide +kernel
theorem dX1_winnersAt_30 : decode cX1_winnersAt 30 = .ok (.getfield 9, 3) := by decide +kernel
theorem dX1_winnersAt_33 : decode cX1_winnersAt 33 = .ok (.iload_n 3, 1) := by decide +kernel
theorem dX1_winnersAt_34 : decode cX1_winnersAt 34 = .ok (.iaload, 1) := by decide +kernel
theorem dX1_winnersAt_35 : decode cX1_winnersAt 35 = .ok (.invokevirtual 108, 3) := by decide +kernel
theorem dX1_winnersAt_38 : decode cX1_winnersAt 38 = .ok (.bipush (-9), 2) := by decide +kernel
theorem dX1_winnersAt_40 : decode cX1_winnersAt 40 = .ok (.if_icmp .eq 9, 3) := by decide +kernel
theorem dX1_winnersAt_43 : decode cX1_winnersAt 43 = .ok (.iload_n 2, 1) := by decide +kernel
theorem dX1_winnersAt_44 : decode cX1_winnersAt 44 = .ok (.iconst 1, 1) := by decide +kernel
theorem dX1_winnersAt_45 : decode cX1_winnersAt 45 = .ok (.iload_n 3, 1) := by decide +kernel
theorem dX1_winnersAt_46 : decode cX1_winnersAt 46 = .ok (.ishl, 1) := by decide +kernel
theorem dX1_winnersAt_47 : decode cX1_winnersAt 47 = .ok (.ior, 1) := by decide +kernel
theorem dX1_winnersAt_48 : decode cX1_winnersAt 48 = .ok (.istore_n 2, 1) := by decide +kernel
theorem dX1_winnersAt_49 : decode cX1_winnersAt 49 = .ok (.iinc 3 1, 3) := by decide +kernel
theorem dX1_winnersAt_52 : decode cX1_winnersAt 52 = .ok (.goto (-48), 3) := by decide +kernel
theorem dX1_winnersAt_55 : decode cX1_winnersAt 55 = .ok (.iload_n 2, 1) := by decide +kernel
theorem dX1_winnersAt_56 : decode cX1_winnersAt 56 = .ok (.ireturn, 1) := by decide +kernel
theorem dX1_winningMove_0 : decode cX1_winningMove 0 = .ok (.iconst 0, 1) := by decide +kernel
theorem dX1_winningMove_1 : decode cX1_winningMove 1 = .ok (.istore_n 3, 1) := by decide +kernel
theorem dX1_winningMove_2 : decode cX1_winningMove 2 = .ok (.iload_n 3, 1) := by decide +kernel
theorem dX1_winningMove_3 : decode cX1_winningMove 3 = .ok (.aload_n 0, 1) := by decide +kernel
theorem dX1_winningMove_4 : decode cX1_winningMove 4 = .ok (.getfield 27, 3) := by decide +kernel
theorem dX1_winningMove_7 : decode cX1_winningMove 7 = .ok (.if_icmp .ge 40, 3) := by decide +kernel
theorem dX1_winningMove_10 : decode cX1_winningMove 10 = .ok (.iload_n 1, 1) := by decide +kernel
theorem dX1_winningMove_11 : decode cX1_winningMove 11 = .ok (.iload_n 2, 1) := by decide +kernel
theorem dX1_winningMove_12 : decode cX1_winningMove 12 = .ok (.iand, 1) := by decide +kernel
theorem dX1_winningMove_13 : decode cX1_winningMove 13 = .ok (.iload_n 3, 1) := by decide +kernel
theorem dX1_winningMove_14 : decode cX1_winningMove 14 = .ok (.invokestatic 60, 3) := by decide +kernel
theorem dX1_winningMove_17 : decode cX1_winningMove 17 = .ok (.ifCond .eq 24, 3) := by decide +kernel
theorem dX1_winningMove_20 : decode cX1_winningMove 20 = .ok (.aload_n 0, 1) := by decide +kernel
theorem dX1_winningMove_21 : decode cX1_winningMove 21 = .ok (.getfield 21, 3) := by decide +kernel
theorem dX1_winningMove_24 : decode cX1_winningMove 24 = .ok (.iload_n 1, 1) := by decide +kernel
theorem dX1_winningMove_25 : decode cX1_winningMove 25 = .ok (.iconst 1, 1) := by decide +kernel
theorem dX1_winningMove_26 : decode cX1_winningMove 26 = .ok (.iload_n 3, 1) := by decide +kernel
theorem dX1_winningMove_27 : decode cX1_winningMove 27 = .ok (.ishl, 1) := by decide +kernel
theorem dX1_winningMove_28 : decode cX1_winningMove 28 = .ok (.iconst (-1), 1) := by decide +kernel
theorem dX1_winningMove_29 : decode cX1_winningMove 29 = .ok (.ixor, 1) := by decide +kernel
theorem dX1_winningMove_30 : decode cX1_winningMove 30 = .ok (.iand, 1) := by decide +kernel
theorem dX1_winningMove_31 : decode cX1_winningMove 31 = .ok (.iaload, 1) := by decide +kernel
theorem dX1_winningMove_32 : decode cX1_winningMove 32 = .ok (.iload_n 3, 1) := by decide +kernel
theorem dX1_winningMove_33 : decode cX1_winningMove 33 = .ok (.invokestatic 60, 3) := by decide +kernel
theorem dX1_winningMove_36 : decode cX1_winningMove 36 = .ok (.ifCond .ne 5, 3) := by decide +kernel
theorem dX1_winningMove_39 : decode cX1_winningMove 39 = .ok (.iload_n 3, 1) := by decide +kernel
theorem dX1_winningMove_40 : decode cX1_winningMove 40 = .ok (.ireturn, 1) := by decide +kernel
theorem dX1_winningMove_41 : decode cX1_winningMove 41 = .ok (.iinc 3 1, 3) := by decide +kernel
theorem dX1_winningMove_44 : decode cX1_winningMove 44 = .ok (.goto (-42), 3) := by decide +kernel
theorem dX1_winningMove_47 : decode cX1_winningMove 47 = .ok (.bipush (-9), 2) := by decide +kernel
theorem dX1_winningMove_49 : decode cX1_winningMove 49 = .ok (.ireturn, 1) := by decide +kernel
theorem dX2_init_0 : decode cX2_init 0 = .ok (.aload_n 0, 1) := by decide +kernel
theorem dX2_init_1 : decode cX2_init 1 = .ok (.invokespecial 1, 3) := by decide +kernel
theorem dX2_init_4 : decode cX2_init 4 = .ok (.aload_n 0, 1) := by decide +kernel
theorem dX2_init_5 : decode cX2_init 5 = .ok (.iload_n 1, 1) := by decide +kernel
theorem dX2_init_6 : decode cX2_init 6 = .ok (.iload_n 2, 1) := by decide +kernel
theorem dX2_init_7 : decode cX2_init 7 = .ok (.multianewarray 7 2, 4) := by decide +kernel
theorem dX2_init_11 : decode cX2_init 11 = .ok (.putfield 9, 3) := by decide +kernel
theorem dX2_init_14 : decode cX2_init 14 = .ok (.aload_n 0, 1) := by decide +kernel
theorem dX2_init_15 : decode cX2_init 15 = .ok (.iload_n 1, 1) := by decide +kernel
theorem dX2_init_16 : decode cX2_init 16 = .ok (.newarray .int, 2) := by decide +kernel
theorem dX2_init_18 : decode cX2_init 18 = .ok (.putfield 14, 3) := by decide +kernel
theorem dX2_init_21 : decode cX2_init 21 = .ok (.aload_n 0, 1) := by decide +kernel
theorem dX2_init_22 : decode cX2_init 22 = .ok (.iload_n 2, 1) := by decide +kernel
theorem dX2_init_23 : decode cX2_init 23 = .ok (.putfield 18, 3) := by decide +kernel
theorem dX2_init_26 : decode cX2_init 26 = .ok (.aload_n 0, 1) := by decide +kernel
theorem dX2_init_27 : decode cX2_init 27 = .ok (.getfield 14, 3) := by decide +kernel
theorem dX2_init_30 : decode cX2_init 30 = .ok (.iconst (-1), 1) := by decide +kernel
theorem dX2_init_31 : decode cX2_init 31 = .ok (.invokestatic 22, 3) := by decide +kernel
theorem dX2_init_34 : decode cX2_init 34 = .ok (.return_, 1) := by decide +kernel
theorem dX2_numbers_0 : decode cX2_numbers 0 = .ok (.iload_n 1, 1) := by decide +kernel
theorem dX2_numbers_1 : decode cX2_numbers 1 = .ok (.ifCond .lt 16, 3) := by decide +kernel
theorem dX2_numbers_4 : decode cX2_numbers 4 = .ok (.iload_n 1, 1) := by decide +kernel
theorem dX2_numbers_5 : decode cX2_numbers 5 = .ok (.aload_n 0, 1) := by decide +kernel
theorem dX2_numbers_6 : decode cX2_numbers 6 = .ok (.getfield 14, 3) := by decide +kernel
theorem dX2_numbers_9 : decode cX2_numbers 9 = .ok (.arraylength, 1) := by decide +kernel
theorem dX2_numbers_10 : decode cX2_numbers 10 = .ok (.if_icmp .ge 7, 3) := by decide +kernel
theorem dX2_numbers_13 : decode cX2_numbers 13 = .ok (.iconst 1, 1) := by decide +kernel
theorem dX2_numbers_14 : decode cX2_numbers 14 = .ok (.goto 4, 3) := by decide +kernel
theorem dX2_numbers_17 : decode cX2_numbers 17 = .ok (.iconst 0, 1) := by decide +kernel
theorem dX2_numbers_18 : decode cX2_numbers 18 = .ok (.ireturn, 1) := by decide +kernel
theorem dX2_missing_0 : decode cX2_missing 0 = .ok (.aload_n 0, 1) := by decide +kernel
theorem dX2_missing_1 : decode cX2_missing 1 = .ok (.getfield 14, 3) := by decide +kernel
end
section
theorem dX2_missing_4 : decode cX2_missing 4 = .ok (.iload_n 1, 1) := by decide +kernel
theorem dX2_missing_5 : decode cX2_missing 5 = .ok (.iaload, 1) := by decide +kernel
theorem dX2_missing_6 : decode cX2_missing 6 = .ok (.ifCond .ge 7, 3) := by decide +kernel
theorem dX2_missing_9 : decode cX2_missing 9 = .ok (.iconst 1, 1) := by decide +kernel
theorem dX2_missing_10 : decode cX2_missing 10 = .ok (.goto 4, 3) := by decide +kernel
theorem dX2_missing_13 : decode cX2_missing 13 = .ok (.iconst 0, 1) := by decide +kernel
theorem dX2_missing_14 : decode cX2_missing 14 = .ok (.ireturn, 1) := by decide +kernel
theorem dX2_reaches_0 : decode cX2_reaches 0 = .ok (.iload_n 2, 1) := by decide +kernel
theorem dX2_reaches_1 : decode cX2_reaches 1 = .ok (.ifCond .lt 29, 3) := by decide +kernel
theorem dX2_reaches_4 : decode cX2_reaches 4 = .ok (.iload_n 2, 1) := by decide +kernel
theorem dX2_reaches_5 : decode cX2_reaches 5 = .ok (.aload_n 0, 1) := by decide +kernel
theorem dX2_reaches_6 : decode cX2_reaches 6 = .ok (.getfield 14, 3) := by decide +kernel
theorem dX2_reaches_9 : decode cX2_reaches 9 = .ok (.iload_n 1, 1) := by decide +kernel
theorem dX2_reaches_10 : decode cX2_reaches 10 = .ok (.iaload, 1) := by decide +kernel
theorem dX2_reaches_11 : decode cX2_reaches 11 = .ok (.if_icmp .gt 19, 3) := by decide +kernel
theorem dX2_reaches_14 : decode cX2_reaches 14 = .ok (.iload_n 3, 1) := by decide +kernel
theorem dX2_reaches_15 : decode cX2_reaches 15 = .ok (.aload_n 0, 1) := by decide +kernel
theorem dX2_reaches_16 : decode cX2_reaches 16 = .ok (.getfield 14, 3) := by decide +kernel
theorem dX2_reaches_19 : decode cX2_reaches 19 = .ok (.iload_n 1, 1) := by decide +kernel
theorem dX2_reaches_20 : decode cX2_reaches 20 = .ok (.iaload, 1) := by decide +kernel
theorem dX2_reaches_21 : decode cX2_reaches 21 = .ok (.iload_n 2, 1) := by decide +kernel
theorem dX2_reaches_22 : decode cX2_reaches 22 = .ok (.isub, 1) := by decide +kernel
theorem dX2_reaches_23 : decode cX2_reaches 23 = .ok (.if_icmp .gt 7, 3) := by decide +kernel
theorem dX2_reaches_26 : decode cX2_reaches 26 = .ok (.iconst 1, 1) := by decide +kernel
theorem dX2_reaches_27 : decode cX2_reaches 27 = .ok (.goto 4, 3) := by decide +kernel
theorem dX2_reaches_30 : decode cX2_reaches 30 = .ok (.iconst 0, 1) := by decide +kernel
theorem dX2_reaches_31 : decode cX2_reaches 31 = .ok (.ireturn, 1) := by decide +kernel
theorem dX2_spread_0 : decode cX2_spread 0 = .ok (.aload_n 0, 1) := by decide +kernel
theorem dX2_spread_1 : decode cX2_spread 1 = .ok (.getfield 9, 3) := by decide +kernel
theorem dX2_spread_4 : decode cX2_spread 4 = .ok (.iload_n 1, 1) := by decide +kernel
theorem dX2_spread_5 : decode cX2_spread 5 = .ok (.aaload, 1) := by decide +kernel
theorem dX2_spread_6 : decode cX2_spread 6 = .ok (.iload_n 3, 1) := by decide +kernel
theorem dX2_spread_7 : decode cX2_spread 7 = .ok (.invokestatic 22, 3) := by decide +kernel
theorem dX2_spread_10 : decode cX2_spread 10 = .ok (.aload_n 0, 1) := by decide +kernel
theorem dX2_spread_11 : decode cX2_spread 11 = .ok (.getfield 14, 3) := by decide +kernel
theorem dX2_spread_14 : decode cX2_spread 14 = .ok (.iload_n 1, 1) := by decide +kernel
theorem dX2_spread_15 : decode cX2_spread 15 = .ok (.iload_n 2, 1) := by decide +kernel
theorem dX2_spread_16 : decode cX2_spread 16 = .ok (.iastore, 1) := by decide +kernel
theorem dX2_spread_17 : decode cX2_spread 17 = .ok (.return_, 1) := by decide +kernel
theorem dX2_total_0 : decode cX2_total 0 = .ok (.lconst 0, 1) := by decide +kernel
theorem dX2_total_1 : decode cX2_total 1 = .ok (.lstore_n 2, 1) := by decide +kernel
theorem dX2_total_2 : decode cX2_total 2 = .ok (.iconst 0, 1) := by decide +kernel
theorem dX2_total_3 : decode cX2_total 3 = .ok (.istore 4, 2) := by decide +kernel
theorem dX2_total_5 : decode cX2_total 5 = .ok (.iload 4, 2) := by decide +kernel
theorem dX2_total_7 : decode cX2_total 7 = .ok (.aload_n 0, 1) := by decide +kernel
theorem dX2_total_8 : decode cX2_total 8 = .ok (.getfield 14, 3) := by decide +kernel
theorem dX2_total_11 : decode cX2_total 11 = .ok (.iload_n 1, 1) := by decide +kernel
theorem dX2_total_12 : decode cX2_total 12 = .ok (.iaload, 1) := by decide +kernel
theorem dX2_total_13 : decode cX2_total 13 = .ok (.if_icmp .ge 22, 3) := by decide +kernel
theorem dX2_total_16 : decode cX2_total 16 = .ok (.lload_n 2, 1) := by decide +kernel
theorem dX2_total_17 : decode cX2_total 17 = .ok (.aload_n 0, 1) := by decide +kernel
theorem dX2_total_18 : decode cX2_total 18 = .ok (.getfield 9, 3) := by decide +kernel
theorem dX2_total_21 : decode cX2_total 21 = .ok (.iload_n 1, 1) := by decide +kernel
theorem dX2_total_22 : decode cX2_total 22 = .ok (.aaload, 1) := by decide +kernel
theorem dX2_total_23 : decode cX2_total 23 = .ok (.iload 4, 2) := by decide +kernel
theorem dX2_total_25 : decode cX2_total 25 = .ok (.iaload, 1) := by decide +kernel
theorem dX2_total_26 : decode cX2_total 26 = .ok (.i2l, 1) := by decide +kernel
theorem dX2_total_27 : decode cX2_total 27 = .ok (.ladd, 1) := by decide +kernel
theorem dX2_total_28 : decode cX2_total 28 = .ok (.lstore_n 2, 1) := by decide +kernel
theorem dX2_total_29 : decode cX2_total 29 = .ok (.iinc 4 1, 3) := by decide +kernel
theorem dX2_total_32 : decode cX2_total 32 = .ok (.goto (-27), 3) := by decide +kernel
theorem dX2_total_35 : decode cX2_total 35 = .ok (.lload_n 2, 1) := by decide +kernel
theorem dX2_total_36 : decode cX2_total 36 = .ok (.lreturn, 1) := by decide +kernel
theorem dX2_present_0 : decode cX2_present 0 = .ok (.iconst 0, 1) := by decide +kernel
theorem dX2_present_1 : decode cX2_present 1 = .ok (.istore_n 1, 1) := by decide +kernel
theorem dX2_present_2 : decode cX2_present 2 = .ok (.iconst 0, 1) := by decide +kernel
theorem dX2_present_3 : decode cX2_present 3 = .ok (.istore_n 2, 1) := by decide +kernel
theorem dX2_present_4 : decode cX2_present 4 = .ok (.iload_n 2, 1) := by decide +kernel
theorem dX2_present_5 : decode cX2_present 5 = .ok (.aload_n 0, 1) := by decide +kernel
theorem dX2_present_6 : decode cX2_present 6 = .ok (.getfield 14, 3) := by decide +kernel
theorem dX2_present_9 : decode cX2_present 9 = .ok (.arraylength, 1) := by decide +kernel
theorem dX2_present_10 : decode cX2_present 10 = .ok (.if_icmp .ge 21, 3) := by decide +kernel
theorem dX2_present_13 : decode cX2_present 13 = .ok (.aload_n 0, 1) := by decide +kernel
theorem dX2_present_14 : decode cX2_present 14 = .ok (.getfield 14, 3) := by decide +kernel
theorem dX2_present_17 : decode cX2_present 17 = .ok (.iload_n 2, 1) := by decide +kernel
theorem dX2_present_18 : decode cX2_present 18 = .ok (.iaload, 1) := by decide +kernel
theorem dX2_present_19 : decode cX2_present 19 = .ok (.ifCond .lt 6, 3) := by decide +kernel
theorem dX2_present_22 : decode cX2_present 22 = .ok (.iinc 1 1, 3) := by decide +kernel
theorem dX2_present_25 : decode cX2_present 25 = .ok (.iinc 2 1, 3) := by decide +kernel
theorem dX2_present_28 : decode cX2_present 28 = .ok (.goto (-24), 3) := by decide +kernel
theorem dX2_present_31 : decode cX2_present 31 = .ok (.iload_n 1, 1) := by decide +kernel
theorem dX2_present_32 : decode cX2_present 32 = .ok (.ireturn, 1) := by decide +kernel
theorem dX2_digestFrom_0 : decode cX2_digestFrom 0 = .ok (.lload_n 1, 1) := by decide +kernel
theorem dX2_digestFrom_1 : decode cX2_digestFrom 1 = .ok (.lstore_n 3, 1) := by decide +kernel
theorem dX2_digestFrom_2 : decode cX2_digestFrom 2 = .ok (.iconst 0, 1) := by decide +kernel
theorem dX2_digestFrom_3 : decode cX2_digestFrom 3 = .ok (.istore 5, 2) := by decide +kernel
theorem dX2_digestFrom_5 : decode cX2_digestFrom 5 = .ok (.iload 5, 2) := by decide +kernel
theorem dX2_digestFrom_7 : decode cX2_digestFrom 7 = .ok (.aload_n 0, 1) := by decide +kernel
theorem dX2_digestFrom_8 : decode cX2_digestFrom 8 = .ok (.getfield 14, 3) := by decide +kernel
theorem dX2_digestFrom_11 : decode cX2_digestFrom 11 = .ok (.arraylength, 1) := by decide +kernel
theorem dX2_digestFrom_12 : decode cX2_digestFrom 12 = .ok (.if_icmp .ge 63, 3) := by decide +kernel
theorem dX2_digestFrom_15 : decode cX2_digestFrom 15 = .ok (.ldc2_w 28, 3) := by decide +kernel
theorem dX2_digestFrom_18 : decode cX2_digestFrom 18 = .ok (.lload_n 3, 1) := by decide +kernel
theorem dX2_digestFrom_19 : decode cX2_digestFrom 19 = .ok (.lmul, 1) := by decide +kernel
theorem dX2_digestFrom_20 : decode cX2_digestFrom 20 = .ok (.aload_n 0, 1) := by decide +kernel
theorem dX2_digestFrom_21 : decode cX2_digestFrom 21 = .ok (.getfield 14, 3) := by decide +kernel
theorem dX2_digestFrom_24 : decode cX2_digestFrom 24 = .ok (.iload 5, 2) := by decide +kernel
theorem dX2_digestFrom_26 : decode cX2_digestFrom 26 = .ok (.iaload, 1) := by decide +kernel
theorem dX2_digestFrom_27 : decode cX2_digestFrom 27 = .ok (.i2l, 1) := by decide +kernel
theorem dX2_digestFrom_28 : decode cX2_digestFrom 28 = .ok (.ladd, 1) := by decide +kernel
theorem dX2_digestFrom_29 : decode cX2_digestFrom 29 = .ok (.lstore_n 3, 1) := by decide +kernel
theorem dX2_digestFrom_30 : decode cX2_digestFrom 30 = .ok (.iconst 0, 1) := by decide +kernel
theorem dX2_digestFrom_31 : decode cX2_digestFrom 31 = .ok (.istore 6, 2) := by decide +kernel
theorem dX2_digestFrom_33 : decode cX2_digestFrom 33 = .ok (.iload 6, 2) := by decide +kernel
theorem dX2_digestFrom_35 : decode cX2_digestFrom 35 = .ok (.aload_n 0, 1) := by decide +kernel
theorem dX2_digestFrom_36 : decode cX2_digestFrom 36 = .ok (.getfield 14, 3) := by decide +kernel
theorem dX2_digestFrom_39 : decode cX2_digestFrom 39 = .ok (.iload 5, 2) := by decide +kernel
theorem dX2_digestFrom_41 : decode cX2_digestFrom 41 = .ok (.iaload, 1) := by decide +kernel
theorem dX2_digestFrom_42 : decode cX2_digestFrom 42 = .ok (.if_icmp .ge 27, 3) := by decide +kernel
theorem dX2_digestFrom_45 : decode cX2_digestFrom 45 = .ok (.ldc2_w 28, 3) := by decide +kernel
theorem dX2_digestFrom_48 : decode cX2_digestFrom 48 = .ok (.lload_n 3, 1) := by decide +kernel
theorem dX2_digestFrom_49 : decode cX2_digestFrom 49 = .ok (.lmul, 1) := by decide +kernel
theorem dX2_digestFrom_50 : decode cX2_digestFrom 50 = .ok (.aload_n 0, 1) := by decide +kernel
theorem dX2_digestFrom_51 : decode cX2_digestFrom 51 = .ok (.getfield 9, 3) := by decide +kernel
theorem dX2_digestFrom_54 : decode cX2_digestFrom 54 = .ok (.iload 5, 2) := by decide +kernel
theorem dX2_digestFrom_56 : decode cX2_digestFrom 56 = .ok (.aaload, 1) := by decide +kernel
theorem dX2_digestFrom_57 : decode cX2_digestFrom 57 = .ok (.iload 6, 2) := by decide +kernel
theorem dX2_digestFrom_59 : decode cX2_digestFrom 59 = .ok (.iaload, 1) := by decide +kernel
theorem dX2_digestFrom_60 : decode cX2_digestFrom 60 = .ok (.i2l, 1) := by decide +kernel
theorem dX2_digestFrom_61 : decode cX2_digestFrom 61 = .ok (.ladd, 1) := by decide +kernel
theorem dX2_digestFrom_62 : decode cX2_digestFrom 62 = .ok (.lstore_n 3, 1) := by decide +kernel
theorem dX2_digestFrom_63 : decode cX2_digestFrom 63 = .ok (.iinc 6 1, 3) := by decide +kernel
theorem dX2_digestFrom_66 : decode cX2_digestFrom 66 = .ok (.goto (-33), 3) := by decide +kernel
theorem dX2_digestFrom_69 : decode cX2_digestFrom 69 = .ok (.iinc 5 1, 3) := by decide +kernel
theorem dX2_digestFrom_72 : decode cX2_digestFrom 72 = .ok (.goto (-67), 3) := by decide +kernel
theorem dX2_digestFrom_75 : decode cX2_digestFrom 75 = .ok (.lload_n 3, 1) := by decide +kernel
theorem dX2_digestFrom_76 : decode cX2_digestFrom 76 = .ok (.lreturn, 1) := by decide +kernel
theorem dX3_init_0 : decode cX3_init 0 = .ok (.aload_n 0, 1) := by decide +kernel
theorem dX3_init_1 : decode cX3_init 1 = .ok (.invokespecial 3, 3) := by decide +kernel
theorem dX3_init_4 : decode cX3_init 4 = .ok (.aload_n 0, 1) := by decide +kernel
theorem dX3_init_5 : decode cX3_init 5 = .ok (.new 9, 3) := by decide +kernel
theorem dX3_init_8 : decode cX3_init 8 = .ok (.dup, 1) := by decide +kernel
theorem dX3_init_9 : decode cX3_init 9 = .ok (.bipush 6, 2) := by decide +kernel
theorem dX3_init_11 : decode cX3_init 11 = .ok (.bipush 40, 2) := by decide +kernel
theorem dX3_init_13 : decode cX3_init 13 = .ok (.invokespecial 11, 3) := by decide +kernel
theorem dX3_init_16 : decode cX3_init 16 = .ok (.putfield 14, 3) := by decide +kernel
theorem dX3_init_19 : decode cX3_init 19 = .ok (.aload_n 0, 1) := by decide +kernel
theorem dX3_init_20 : decode cX3_init 20 = .ok (.new 9, 3) := by decide +kernel
theorem dX3_init_23 : decode cX3_init 23 = .ok (.dup, 1) := by decide +kernel
theorem dX3_init_24 : decode cX3_init 24 = .ok (.iconst 4, 1) := by decide +kernel
theorem dX3_init_25 : decode cX3_init 25 = .ok (.bipush 60, 2) := by decide +kernel
theorem dX3_init_27 : decode cX3_init 27 = .ok (.invokespecial 11, 3) := by decide +kernel
theorem dX3_init_30 : decode cX3_init 30 = .ok (.putfield 18, 3) := by decide +kernel
theorem dX3_init_33 : decode cX3_init 33 = .ok (.aload_n 0, 1) := by decide +kernel
theorem dX3_init_34 : decode cX3_init 34 = .ok (.new 21, 3) := by decide +kernel
theorem dX3_init_37 : decode cX3_init 37 = .ok (.dup, 1) := by decide +kernel
theorem dX3_init_38 : decode cX3_init 38 = .ok (.invokespecial 23, 3) := by decide +kernel
theorem dX3_init_41 : decode cX3_init 41 = .ok (.putfield 24, 3) := by decide +kernel
theorem dX3_init_44 : decode cX3_init 44 = .ok (.aload_n 0, 1) := by decide +kernel
theorem dX3_init_45 : decode cX3_init 45 = .ok (.new 28, 3) := by decide +kernel
theorem dX3_init_48 : decode cX3_init 48 = .ok (.dup, 1) := by decide +kernel
theorem dX3_init_49 : decode cX3_init 49 = .ok (.invokespecial 30, 3) := by decide +kernel
theorem dX3_init_52 : decode cX3_init 52 = .ok (.putfield 31, 3) := by decide +kernel
theorem dX3_init_55 : decode cX3_init 55 = .ok (.aload_n 0, 1) := by decide +kernel
theorem dX3_init_56 : decode cX3_init 56 = .ok (.iconst 3, 1) := by decide +kernel
theorem dX3_init_57 : decode cX3_init 57 = .ok (.bipush 40, 2) := by decide +kernel
theorem dX3_init_59 : decode cX3_init 59 = .ok (.multianewarray 35 2, 4) := by decide +kernel
theorem dX3_init_63 : decode cX3_init 63 = .ok (.putfield 37, 3) := by decide +kernel
theorem dX3_init_66 : decode cX3_init 66 = .ok (.aload_n 0, 1) := by decide +kernel
theorem dX3_init_67 : decode cX3_init 67 = .ok (.iconst 3, 1) := by decide +kernel
theorem dX3_init_68 : decode cX3_init 68 = .ok (.newarray .int, 2) := by decide +kernel
theorem dX3_init_70 : decode cX3_init 70 = .ok (.putfield 40, 3) := by decide +kernel
theorem dX3_init_73 : decode cX3_init 73 = .ok (.aload_n 0, 1) := by decide +kernel
theorem dX3_init_74 : decode cX3_init 74 = .ok (.bipush 7, 2) := by decide +kernel
theorem dX3_init_76 : decode cX3_init 76 = .ok (.newarray .int, 2) := by decide +kernel
theorem dX3_init_78 : decode cX3_init 78 = .ok (.putfield 44, 3) := by decide +kernel
theorem dX3_init_81 : decode cX3_init 81 = .ok (.aload_n 0, 1) := by decide +kernel
theorem dX3_init_82 : decode cX3_init 82 = .ok (.bipush 7, 2) := by decide +kernel
theorem dX3_init_84 : decode cX3_init 84 = .ok (.newarray .int, 2) := by decide +kernel
theorem dX3_init_86 : decode cX3_init 86 = .ok (.putfield 47, 3) := by decide +kernel
theorem dX3_init_89 : decode cX3_init 89 = .ok (.aload_n 0, 1) := by decide +kernel
theorem dX3_init_90 : decode cX3_init 90 = .ok (.bipush 6, 2) := by decide +kernel
theorem dX3_init_92 : decode cX3_init 92 = .ok (.newarray .int, 2) := by decide +kernel
theorem dX3_init_94 : decode cX3_init 94 = .ok (.putfield 50, 3) := by decide +kernel
theorem dX3_init_97 : decode cX3_init 97 = .ok (.aload_n 0, 1) := by decide +kernel
theorem dX3_init_98 : decode cX3_init 98 = .ok (.iconst 0, 1) := by decide +kernel
theorem dX3_init_99 : decode cX3_init 99 = .ok (.putfield 53, 3) := by decide +kernel
theorem dX3_init_102 : decode cX3_init 102 = .ok (.aload_n 0, 1) := by decide +kernel
theorem dX3_init_103 : decode cX3_init 103 = .ok (.iconst 0, 1) := by decide +kernel
theorem dX3_init_104 : decode cX3_init 104 = .ok (.putfield 57, 3) := by decide +kernel
theorem dX3_init_107 : decode cX3_init 107 = .ok (.aload_n 0, 1) := by decide +kernel
theorem dX3_init_108 : decode cX3_init 108 = .ok (.lconst 0, 1) := by decide +kernel
theorem dX3_init_109 : decode cX3_init 109 = .ok (.putfield 60, 3) := by decide +kernel
theorem dX3_init_112 : decode cX3_init 112 = .ok (.aload_n 0, 1) := by decide +kernel
theorem dX3_init_113 : decode cX3_init 113 = .ok (.lconst 1, 1) := by decide +kernel
theorem dX3_init_114 : decode cX3_init 114 = .ok (.putfield 64, 3) := by decide +kernel
theorem dX3_init_117 : decode cX3_init 117 = .ok (.aload_n 0, 1) := by decide +kernel
theorem dX3_init_118 : decode cX3_init 118 = .ok (.getfield 40, 3) := by decide +kernel
theorem dX3_init_121 : decode cX3_init 121 = .ok (.iconst (-1), 1) := by decide +kernel
theorem dX3_init_122 : decode cX3_init 122 = .ok (.invokestatic 67, 3) := by decide +kernel
theorem dX3_init_125 : decode cX3_init 125 = .ok (.return_, 1) := by decide +kernel
theorem dX3_row_0 : decode cX3_row 0 = .ok (.aload_n 0, 1) := by decide +kernel
theorem dX3_row_1 : decode cX3_row 1 = .ok (.aload_n 0, 1) := by decide +kernel
theorem dX3_row_2 : decode cX3_row 2 = .ok (.getfield 14, 3) := by decide +kernel
theorem dX3_row_5 : decode cX3_row 5 = .ok (.iload_n 1, 1) := by decide +kernel
theorem dX3_row_6 : decode cX3_row 6 = .ok (.iload_n 2, 1) := by decide +kernel
theorem dX3_row_7 : decode cX3_row 7 = .ok (.iconst 0, 1) := by decide +kernel
theorem dX3_row_8 : decode cX3_row 8 = .ok (.invokevirtual 73, 3) := by decide +kernel
theorem dX3_row_11 : decode cX3_row 11 = .ok (.ireturn, 1) := by decide +kernel
theorem dX3_lay_0 : decode cX3_lay 0 = .ok (.aload_n 0, 1) := by decide +kernel
theorem dX3_lay_1 : decode cX3_lay 1 = .ok (.aload_n 0, 1) := by decide +kernel
theorem dX3_lay_2 : decode cX3_lay 2 = .ok (.getfield 14, 3) := by decide +kernel
theorem dX3_lay_5 : decode cX3_lay 5 = .ok (.iload_n 1, 1) := by decide +kernel
theorem dX3_lay_6 : decode cX3_lay 6 = .ok (.iload_n 2, 1) := by decide +kernel
theorem dX3_lay_7 : decode cX3_lay 7 = .ok (.invokevirtual 77, 3) := by decide +kernel
theorem dX3_lay_10 : decode cX3_lay 10 = .ok (.istore 4, 2) := by decide +kernel
theorem dX3_lay_12 : decode cX3_lay 12 = .ok (.iload 4, 2) := by decide +kernel
theorem dX3_lay_14 : decode cX3_lay 14 = .ok (.ifCond .eq 6, 3) := by decide +kernel
theorem dX3_lay_17 : decode cX3_lay 17 = .ok (.iload 4, 2) := by decide +kernel
theorem dX3_lay_19 : decode cX3_lay 19 = .ok (.ireturn, 1) := by decide +kernel
theorem dX3_lay_20 : decode cX3_lay 20 = .ok (.aload_n 0, 1) := by decide +kernel
theorem dX3_lay_21 : decode cX3_lay 21 = .ok (.getfield 14, 3) := by decide +kernel
theorem dX3_lay_24 : decode cX3_lay 24 = .ok (.getfield 81, 3) := by decide +kernel
theorem dX3_lay_27 : decode cX3_lay 27 = .ok (.iload_n 1, 1) := by decide +kernel
theorem dX3_lay_28 : decode cX3_lay 28 = .ok (.aaload, 1) := by decide +kernel
theorem dX3_lay_29 : decode cX3_lay 29 = .ok (.iload_n 2, 1) := by decide +kernel
theorem dX3_lay_30 : decode cX3_lay 30 = .ok (.iaload, 1) := by decide +kernel
theorem dX3_lay_31 : decode cX3_lay 31 = .ok (.istore 5, 2) := by decide +kernel
theorem dX3_lay_33 : decode cX3_lay 33 = .ok (.aload_n 0, 1) := by decide +kernel
theorem dX3_lay_34 : decode cX3_lay 34 = .ok (.getfield 14, 3) := by decide +kernel
theorem dX3_lay_37 : decode cX3_lay 37 = .ok (.getfield 81, 3) := by decide +kernel
theorem dX3_lay_40 : decode cX3_lay 40 = .ok (.iload_n 1, 1) := by decide +kernel
theorem dX3_lay_41 : decode cX3_lay 41 = .ok (.aaload, 1) := by decide +kernel
theorem dX3_lay_42 : decode cX3_lay 42 = .ok (.iload_n 2, 1) := by decide +kernel
theorem dX3_lay_43 : decode cX3_lay 43 = .ok (.iload_n 3, 1) := by decide +kernel
theorem dX3_lay_44 : decode cX3_lay 44 = .ok (.iastore, 1) := by decide +kernel
theorem dX3_lay_45 : decode cX3_lay 45 = .ok (.aload_n 0, 1) := by decide +kernel
theorem dX3_lay_46 : decode cX3_lay 46 = .ok (.iload 5, 2) := by decide +kernel
theorem dX3_lay_48 : decode cX3_lay 48 = .ok (.invokevirtual 84, 3) := by decide +kernel
theorem dX3_lay_51 : decode cX3_lay 51 = .ok (.ireturn, 1) := by decide +kernel
theorem dX3_at_0 : decode cX3_at 0 = .ok (.aload_n 0, 1) := by decide +kernel
theorem dX3_at_1 : decode cX3_at 1 = .ok (.aload_n 0, 1) := by decide +kernel
theorem dX3_at_2 : decode cX3_at 2 = .ok (.getfield 14, 3) := by decide +kernel
theorem dX3_at_5 : decode cX3_at 5 = .ok (.iload_n 1, 1) := by decide +kernel
theorem dX3_at_6 : decode cX3_at 6 = .ok (.iload_n 2, 1) := by decide +kernel
theorem dX3_at_7 : decode cX3_at 7 = .ok (.invokevirtual 77, 3) := by decide +kernel
theorem dX3_at_10 : decode cX3_at 10 = .ok (.istore_n 3, 1) := by decide +kernel
theorem dX3_at_11 : decode cX3_at 11 = .ok (.iload_n 3, 1) := by decide +kernel
theorem dX3_at_12 : decode cX3_at 12 = .ok (.ifCond .eq 7, 3) := by decide +kernel
theorem dX3_at_15 : decode cX3_at 15 = .ok (.iload_n 3, 1) := by decide +kernel
theorem dX3_at_16 : decode cX3_at 16 = .ok (.goto 18, 3) := by decide +kernel
theorem dX3_at_19 : decode cX3_at 19 = .ok (.aload_n 0, 1) := by decide +kernel
theorem dX3_at_20 : decode cX3_at 20 = .ok (.aload_n 0, 1) := by decide +kernel
theorem dX3_at_21 : decode cX3_at 21 = .ok (.getfield 14, 3) := by decide +kernel
theorem dX3_at_24 : decode cX3_at 24 = .ok (.getfield 81, 3) := by decide +kernel
theorem dX3_at_27 : decode cX3_at 27 = .ok (.iload_n 1, 1) := by decide +kernel
theorem dX3_at_28 : decode cX3_at 28 = .ok (.aaload, 1) := by decide +kernel
theorem dX3_at_29 : decode cX3_at 29 = .ok (.iload_n 2, 1) := by decide +kernel
theorem dX3_at_30 : decode cX3_at 30 = .ok (.iaload, 1) := by decide +kernel
theorem dX3_at_31 : decode cX3_at 31 = .ok (.invokevirtual 84, 3) := by decide +kernel
theorem dX3_at_34 : decode cX3_at 34 = .ok (.ireturn, 1) := by decide +kernel
theorem dX3_tear_0 : decode cX3_tear 0 = .ok (.aload_n 0, 1) := by decide +kernel
theorem dX3_tear_1 : decode cX3_tear 1 = .ok (.aload_n 0, 1) := by decide +kernel
theorem dX3_tear_2 : decode cX3_tear 2 = .ok (.getfield 14, 3) := by decide +kernel
theorem dX3_tear_5 : decode cX3_tear 5 = .ok (.iload_n 1, 1) := by decide +kernel
theorem dX3_tear_6 : decode cX3_tear 6 = .ok (.invokevirtual 88, 3) := by decide +kernel
theorem dX3_tear_9 : decode cX3_tear 9 = .ok (.istore_n 2, 1) := by decide +kernel
theorem dX3_tear_10 : decode cX3_tear 10 = .ok (.iload_n 2, 1) := by decide +kernel
theorem dX3_tear_11 : decode cX3_tear 11 = .ok (.ifCond .eq 5, 3) := by decide +kernel
theorem dX3_tear_14 : decode cX3_tear 14 = .ok (.iload_n 2, 1) := by decide +kernel
theorem dX3_tear_15 : decode cX3_tear 15 = .ok (.ireturn, 1) := by decide +kernel
theorem dX3_tear_16 : decode cX3_tear 16 = .ok (.aload_n 0, 1) := by decide +kernel
theorem dX3_tear_17 : decode cX3_tear 17 = .ok (.getfield 14, 3) := by decide +kernel
theorem dX3_tear_20 : decode cX3_tear 20 = .ok (.getfield 92, 3) := by decide +kernel
theorem dX3_tear_23 : decode cX3_tear 23 = .ok (.iload_n 1, 1) := by decide +kernel
theorem dX3_tear_24 : decode cX3_tear 24 = .ok (.iconst (-1), 1) := by decide +kernel
theorem dX3_tear_25 : decode cX3_tear 25 = .ok (.iastore, 1) := by decide +kernel
theorem dX3_tear_26 : decode cX3_tear 26 = .ok (.iconst 1, 1) := by decide +kernel
theorem dX3_tear_27 : decode cX3_tear 27 = .ok (.ireturn, 1) := by decide +kernel
theorem dX3_copy_0 : decode cX3_copy 0 = .ok (.aload_n 0, 1) := by decide +kernel
theorem dX3_copy_1 : decode cX3_copy 1 = .ok (.getfield 14, 3) := by decide +kernel
theorem dX3_copy_4 : decode cX3_copy 4 = .ok (.iload_n 1, 1) := by decide +kernel
theorem dX3_copy_5 : decode cX3_copy 5 = .ok (.invokevirtual 95, 3) := by decide +kernel
theorem dX3_copy_8 : decode cX3_copy 8 = .ok (.ifCond .eq 14, 3) := by decide +kernel
theorem dX3_copy_11 : decode cX3_copy 11 = .ok (.aload_n 0, 1) := by decide +kernel
theorem dX3_copy_12 : decode cX3_copy 12 = .ok (.getfield 14, 3) := by decide +kernel
theorem dX3_copy_15 : decode cX3_copy 15 = .ok (.iload_n 3, 1) := by decide +kernel
theorem dX3_copy_16 : decode cX3_copy 16 = .ok (.invokevirtual 95, 3) := by decide +kernel
theorem dX3_copy_19 : decode cX3_copy 19 = .ok (.ifCond .ne 5, 3) := by decide +kernel
theorem dX3_copy_22 : decode cX3_copy 22 = .ok (.iconst (-1), 1) := by decide +kernel
theorem dX3_copy_23 : decode cX3_copy 23 = .ok (.ireturn, 1) := by decide +kernel
theorem dX3_copy_24 : decode cX3_copy 24 = .ok (.iload 5, 2) := by decide +kernel
theorem dX3_copy_26 : decode cX3_copy 26 = .ok (.ifCond .ge 9, 3) := by decide +kernel
theorem dX3_copy_29 : decode cX3_copy 29 = .ok (.aload_n 0, 1) := by decide +kernel
theorem dX3_copy_30 : decode cX3_copy 30 = .ok (.iconst 5, 1) := by decide +kernel
theorem dX3_copy_31 : decode cX3_copy 31 = .ok (.invokevirtual 99, 3) := by decide +kernel
theorem dX3_copy_34 : decode cX3_copy 34 = .ok (.ireturn, 1) := by decide +kernel
theorem dX3_copy_35 : decode cX3_copy 35 = .ok (.aload_n 0, 1) := by decide +kernel
theorem dX3_copy_36 : decode cX3_copy 36 = .ok (.getfield 14, 3) := by decide +kernel
theorem dX3_copy_39 : decode cX3_copy 39 = .ok (.iload_n 1, 1) := by decide +kernel
theorem dX3_copy_40 : decode cX3_copy 40 = .ok (.invokevirtual 102, 3) := by decide +kernel
theorem dX3_copy_43 : decode cX3_copy 43 = .ok (.ifCond .ne 14, 3) := by decide +kernel
theorem dX3_copy_46 : decode cX3_copy 46 = .ok (.aload_n 0, 1) := by decide +kernel
theorem dX3_copy_47 : decode cX3_copy 47 = .ok (.getfield 14, 3) := by decide +kernel
theorem dX3_copy_50 : decode cX3_copy 50 = .ok (.iload_n 3, 1) := by decide +kernel
theorem dX3_copy_51 : decode cX3_copy 51 = .ok (.invokevirtual 102, 3) := by decide +kernel
theorem dX3_copy_54 : decode cX3_copy 54 = .ok (.ifCond .eq 9, 3) := by decide +kernel
theorem dX3_copy_57 : decode cX3_copy 57 = .ok (.aload_n 0, 1) := by decide +kernel
theorem dX3_copy_58 : decode cX3_copy 58 = .ok (.iconst 1, 1) := by decide +kernel
theorem dX3_copy_59 : decode cX3_copy 59 = .ok (.invokevirtual 99, 3) := by decide +kernel
theorem dX3_copy_62 : decode cX3_copy 62 = .ok (.ireturn, 1) := by decide +kernel
theorem dX3_copy_63 : decode cX3_copy 63 = .ok (.aload_n 0, 1) := by decide +kernel
theorem dX3_copy_64 : decode cX3_copy 64 = .ok (.getfield 14, 3) := by decide +kernel
theorem dX3_copy_67 : decode cX3_copy 67 = .ok (.iload_n 1, 1) := by decide +kernel
theorem dX3_copy_68 : decode cX3_copy 68 = .ok (.iload_n 2, 1) := by decide +kernel
theorem dX3_copy_69 : decode cX3_copy 69 = .ok (.iload 5, 2) := by decide +kernel
theorem dX3_copy_71 : decode cX3_copy 71 = .ok (.invokevirtual 105, 3) := by decide +kernel
theorem dX3_copy_74 : decode cX3_copy 74 = .ok (.ifCond .eq 18, 3) := by decide +kernel
theorem dX3_copy_77 : decode cX3_copy 77 = .ok (.aload_n 0, 1) := by decide +kernel
theorem dX3_copy_78 : decode cX3_copy 78 = .ok (.getfield 14, 3) := by decide +kernel
theorem dX3_copy_81 : decode cX3_copy 81 = .ok (.iload_n 3, 1) := by decide +kernel
theorem dX3_copy_82 : decode cX3_copy 82 = .ok (.iload 4, 2) := by decide +kernel
theorem dX3_copy_84 : decode cX3_copy 84 = .ok (.iload 5, 2) := by decide +kernel
theorem dX3_copy_86 : decode cX3_copy 86 = .ok (.invokevirtual 105, 3) := by decide +kernel
theorem dX3_copy_89 : decode cX3_copy 89 = .ok (.ifCond .ne 9, 3) := by decide +kernel
theorem dX3_copy_92 : decode cX3_copy 92 = .ok (.aload_n 0, 1) := by decide +kernel
theorem dX3_copy_93 : decode cX3_copy 93 = .ok (.iconst 2, 1) := by decide +kernel
theorem dX3_copy_94 : decode cX3_copy 94 = .ok (.invokevirtual 99, 3) := by decide +kernel
theorem dX3_copy_97 : decode cX3_copy 97 = .ok (.ireturn, 1) := by decide +kernel
theorem dX3_copy_98 : decode cX3_copy 98 = .ok (.aload_n 0, 1) := by decide +kernel
theorem dX3_copy_99 : decode cX3_copy 99 = .ok (.getfield 14, 3) := by decide +kernel
theorem dX3_copy_102 : decode cX3_copy 102 = .ok (.getfield 81, 3) := by decide +kernel
theorem dX3_copy_105 : decode cX3_copy 105 = .ok (.iload_n 1, 1) := by decide +kernel
theorem dX3_copy_106 : decode cX3_copy 106 = .ok (.aaload, 1) := by decide +kernel
theorem dX3_copy_107 : decode cX3_copy 107 = .ok (.iload_n 2, 1) := by decide +kernel
theorem dX3_copy_108 : decode cX3_copy 108 = .ok (.aload_n 0, 1) := by decide +kernel
theorem dX3_copy_109 : decode cX3_copy 109 = .ok (.getfield 14, 3) := by decide +kernel
theorem dX3_copy_112 : decode cX3_copy 112 = .ok (.getfield 81, 3) := by decide +kernel
theorem dX3_copy_115 : decode cX3_copy 115 = .ok (.iload_n 3, 1) := by decide +kernel
theorem dX3_copy_116 : decode cX3_copy 116 = .ok (.aaload, 1) := by decide +kernel
theorem dX3_copy_117 : decode cX3_copy 117 = .ok (.iload 4, 2) := by decide +kernel
theorem dX3_copy_119 : decode cX3_copy 119 = .ok (.iload 5, 2) := by decide +kernel
theorem dX3_copy_121 : decode cX3_copy 121 = .ok (.invokestatic 109, 3) := by decide +kernel
theorem dX3_copy_124 : decode cX3_copy 124 = .ok (.iconst 1, 1) := by decide +kernel
theorem dX3_copy_125 : decode cX3_copy 125 = .ok (.ireturn, 1) := by decide +kernel
theorem dX3_mean_0 : decode cX3_mean 0 = .ok (.aload_n 0, 1) := by decide +kernel
theorem dX3_mean_1 : decode cX3_mean 1 = .ok (.aload_n 0, 1) := by decide +kernel
theorem dX3_mean_2 : decode cX3_mean 2 = .ok (.getfield 14, 3) := by decide +kernel
theorem dX3_mean_5 : decode cX3_mean 5 = .ok (.iload_n 1, 1) := by decide +kernel
theorem dX3_mean_6 : decode cX3_mean 6 = .ok (.invokevirtual 88, 3) := by decide +kernel
theorem dX3_mean_9 : decode cX3_mean 9 = .ok (.istore_n 2, 1) := by decide +kernel
theorem dX3_mean_10 : decode cX3_mean 10 = .ok (.iload_n 2, 1) := by decide +kernel
theorem dX3_mean_11 : decode cX3_mean 11 = .ok (.ifCond .eq 5, 3) := by decide +kernel
theorem dX3_mean_14 : decode cX3_mean 14 = .ok (.iload_n 2, 1) := by decide +kernel
theorem dX3_mean_15 : decode cX3_mean 15 = .ok (.ireturn, 1) := by decide +kernel
theorem dX3_mean_16 : decode cX3_mean 16 = .ok (.aload_n 0, 1) := by decide +kernel
theorem dX3_mean_17 : decode cX3_mean 17 = .ok (.getfield 14, 3) := by decide +kernel
theorem dX3_mean_20 : decode cX3_mean 20 = .ok (.getfield 92, 3) := by decide +kernel
theorem dX3_mean_23 : decode cX3_mean 23 = .ok (.iload_n 1, 1) := by decide +kernel
theorem dX3_mean_24 : decode cX3_mean 24 = .ok (.iaload, 1) := by decide +kernel
theorem dX3_mean_25 : decode cX3_mean 25 = .ok (.istore_n 3, 1) := by decide +kernel
theorem dX3_mean_26 : decode cX3_mean 26 = .ok (.iload_n 3, 1) := by decide +kernel
theorem dX3_mean_27 : decode cX3_mean 27 = .ok (.ifCond .gt 9, 3) := by decide +kernel
theorem dX3_mean_30 : decode cX3_mean 30 = .ok (.aload_n 0, 1) := by decide +kernel
theorem dX3_mean_31 : decode cX3_mean 31 = .ok (.iconst 4, 1) := by decide +kernel
theorem dX3_mean_32 : decode cX3_mean 32 = .ok (.invokevirtual 99, 3) := by decide +kernel
theorem dX3_mean_35 : decode cX3_mean 35 = .ok (.ireturn, 1) := by decide +kernel
theorem dX3_mean_36 : decode cX3_mean 36 = .ok (.aload_n 0, 1) := by decide +kernel
theorem dX3_mean_37 : decode cX3_mean 37 = .ok (.aload_n 0, 1) := by decide +kernel
theorem dX3_mean_38 : decode cX3_mean 38 = .ok (.getfield 14, 3) := by decide +kernel
theorem dX3_mean_41 : decode cX3_mean 41 = .ok (.iload_n 1, 1) := by decide +kernel
theorem dX3_mean_42 : decode cX3_mean 42 = .ok (.invokevirtual 115, 3) := by decide +kernel
theorem dX3_mean_45 : decode cX3_mean 45 = .ok (.iload_n 3, 1) := by decide +kernel
theorem dX3_mean_46 : decode cX3_mean 46 = .ok (.i2l, 1) := by decide +kernel
theorem dX3_mean_47 : decode cX3_mean 47 = .ok (.ldiv, 1) := by decide +kernel
theorem dX3_mean_48 : decode cX3_mean 48 = .ok (.l2i, 1) := by decide +kernel
theorem dX3_mean_49 : decode cX3_mean 49 = .ok (.invokevirtual 84, 3) := by decide +kernel
theorem dX3_mean_52 : decode cX3_mean 52 = .ok (.ireturn, 1) := by decide +kernel
theorem dX3_text_0 : decode cX3_text 0 = .ok (.aload_n 0, 1) := by decide +kernel
theorem dX3_text_1 : decode cX3_text 1 = .ok (.aload_n 0, 1) := by decide +kernel
theorem dX3_text_2 : decode cX3_text 2 = .ok (.getfield 18, 3) := by decide +kernel
theorem dX3_text_5 : decode cX3_text 5 = .ok (.iload_n 1, 1) := by decide +kernel
theorem dX3_text_6 : decode cX3_text 6 = .ok (.iload_n 2, 1) := by decide +kernel
theorem dX3_text_7 : decode cX3_text 7 = .ok (.bipush 32, 2) := by decide +kernel
theorem dX3_text_9 : decode cX3_text 9 = .ok (.invokevirtual 73, 3) := by decide +kernel
theorem dX3_text_12 : decode cX3_text 12 = .ok (.ireturn, 1) := by decide +kernel
theorem dX3_put_0 : decode cX3_put 0 = .ok (.aload_n 0, 1) := by decide +kernel
theorem dX3_put_1 : decode cX3_put 1 = .ok (.aload_n 0, 1) := by decide +kernel
theorem dX3_put_2 : decode cX3_put 2 = .ok (.getfield 18, 3) := by decide +kernel
theorem dX3_put_5 : decode cX3_put 5 = .ok (.iload_n 1, 1) := by decide +kernel
theorem dX3_put_6 : decode cX3_put 6 = .ok (.iload_n 2, 1) := by decide +kernel
theorem dX3_put_7 : decode cX3_put 7 = .ok (.invokevirtual 77, 3) := by decide +kernel
theorem dX3_put_10 : decode cX3_put 10 = .ok (.istore 4, 2) := by decide +kernel
theorem dX3_put_12 : decode cX3_put 12 = .ok (.iload 4, 2) := by decide +kernel
theorem dX3_put_14 : decode cX3_put 14 = .ok (.ifCond .eq 6, 3) := by decide +kernel
theorem dX3_put_17 : decode cX3_put 17 = .ok (.iload 4, 2) := by decide +kernel
theorem dX3_put_19 : decode cX3_put 19 = .ok (.ireturn, 1) := by decide +kernel
theorem dX3_put_20 : decode cX3_put 20 = .ok (.aload_n 0, 1) := by decide +kernel
theorem dX3_put_21 : decode cX3_put 21 = .ok (.getfield 18, 3) := by decide +kernel
theorem dX3_put_24 : decode cX3_put 24 = .ok (.getfield 81, 3) := by decide +kernel
theorem dX3_put_27 : decode cX3_put 27 = .ok (.iload_n 1, 1) := by decide +kernel
theorem dX3_put_28 : decode cX3_put 28 = .ok (.aaload, 1) := by decide +kernel
theorem dX3_put_29 : decode cX3_put 29 = .ok (.iload_n 2, 1) := by decide +kernel
theorem dX3_put_30 : decode cX3_put 30 = .ok (.iaload, 1) := by decide +kernel
theorem dX3_put_31 : decode cX3_put 31 = .ok (.istore 5, 2) := by decide +kernel
theorem dX3_put_33 : decode cX3_put 33 = .ok (.aload_n 0, 1) := by decide +kernel
theorem dX3_put_34 : decode cX3_put 34 = .ok (.getfield 18, 3) := by decide +kernel
theorem dX3_put_37 : decode cX3_put 37 = .ok (.getfield 81, 3) := by decide +kernel
theorem dX3_put_40 : decode cX3_put 40 = .ok (.iload_n 1, 1) := by decide +kernel
theorem dX3_put_41 : decode cX3_put 41 = .ok (.aaload, 1) := by decide +kernel
theorem dX3_put_42 : decode cX3_put 42 = .ok (.iload_n 2, 1) := by decide +kernel
theorem dX3_put_43 : decode cX3_put 43 = .ok (.iload_n 3, 1) := by decide +kernel
theorem dX3_put_44 : decode cX3_put 44 = .ok (.i2b, 1) := by decide +kernel
theorem dX3_put_45 : decode cX3_put 45 = .ok (.iastore, 1) := by decide +kernel
theorem dX3_put_46 : decode cX3_put 46 = .ok (.iload 5, 2) := by decide +kernel
theorem dX3_put_48 : decode cX3_put 48 = .ok (.sipush 1000, 3) := by decide +kernel
theorem dX3_put_51 : decode cX3_put 51 = .ok (.iadd, 1) := by decide +kernel
theorem dX3_put_52 : decode cX3_put 52 = .ok (.ireturn, 1) := by decide +kernel
theorem dX3_fault_0 : decode cX3_fault 0 = .ok (.aload_n 0, 1) := by decide +kernel
theorem dX3_fault_1 : decode cX3_fault 1 = .ok (.aload_n 0, 1) := by decide +kernel
theorem dX3_fault_2 : decode cX3_fault 2 = .ok (.getfield 18, 3) := by decide +kernel
theorem dX3_fault_5 : decode cX3_fault 5 = .ok (.iload_n 1, 1) := by decide +kernel
theorem dX3_fault_6 : decode cX3_fault 6 = .ok (.invokevirtual 88, 3) := by decide +kernel
theorem dX3_fault_9 : decode cX3_fault 9 = .ok (.istore_n 2, 1) := by decide +kernel
theorem dX3_fault_10 : decode cX3_fault 10 = .ok (.iload_n 2, 1) := by decide +kernel
theorem dX3_fault_11 : decode cX3_fault 11 = .ok (.ifCond .eq 7, 3) := by decide +kernel
theorem dX3_fault_14 : decode cX3_fault 14 = .ok (.iload_n 2, 1) := by decide +kernel
theorem dX3_fault_15 : decode cX3_fault 15 = .ok (.goto 24, 3) := by decide +kernel
theorem dX3_fault_18 : decode cX3_fault 18 = .ok (.aload_n 0, 1) := by decide +kernel
theorem dX3_fault_19 : decode cX3_fault 19 = .ok (.getfield 18, 3) := by decide +kernel
theorem dX3_fault_22 : decode cX3_fault 22 = .ok (.getfield 81, 3) := by decide +kernel
theorem dX3_fault_25 : decode cX3_fault 25 = .ok (.iload_n 1, 1) := by decide +kernel
theorem dX3_fault_26 : decode cX3_fault 26 = .ok (.aaload, 1) := by decide +kernel
theorem dX3_fault_27 : decode cX3_fault 27 = .ok (.aload_n 0, 1) := by decide +kernel
theorem dX3_fault_28 : decode cX3_fault 28 = .ok (.getfield 18, 3) := by decide +kernel
theorem dX3_fault_31 : decode cX3_fault 31 = .ok (.getfield 92, 3) := by decide +kernel
theorem dX3_fault_34 : decode cX3_fault 34 = .ok (.iload_n 1, 1) := by decide +kernel
theorem dX3_fault_35 : decode cX3_fault 35 = .ok (.iaload, 1) := by decide +kernel
theorem dX3_fault_36 : decode cX3_fault 36 = .ok (.invokestatic 119, 3) := by decide +kernel
theorem dX3_fault_39 : decode cX3_fault 39 = .ok (.ireturn, 1) := by decide +kernel
theorem dX3_gate_0 : decode cX3_gate 0 = .ok (.aload_n 0, 1) := by decide +kernel
theorem dX3_gate_1 : decode cX3_gate 1 = .ok (.aload_n 0, 1) := by decide +kernel
theorem dX3_gate_2 : decode cX3_gate 2 = .ok (.getfield 18, 3) := by decide +kernel
theorem dX3_gate_5 : decode cX3_gate 5 = .ok (.iload_n 1, 1) := by decide +kernel
theorem dX3_gate_6 : decode cX3_gate 6 = .ok (.invokevirtual 88, 3) := by decide +kernel
theorem dX3_gate_9 : decode cX3_gate 9 = .ok (.istore_n 2, 1) := by decide +kernel
theorem dX3_gate_10 : decode cX3_gate 10 = .ok (.iload_n 2, 1) := by decide +kernel
theorem dX3_gate_11 : decode cX3_gate 11 = .ok (.ifCond .eq 5, 3) := by decide +kernel
theorem dX3_gate_14 : decode cX3_gate 14 = .ok (.iload_n 2, 1) := by decide +kernel
theorem dX3_gate_15 : decode cX3_gate 15 = .ok (.ireturn, 1) := by decide +kernel
theorem dX3_gate_16 : decode cX3_gate 16 = .ok (.aload_n 0, 1) := by decide +kernel
theorem dX3_gate_17 : decode cX3_gate 17 = .ok (.getfield 18, 3) := by decide +kernel
theorem dX3_gate_20 : decode cX3_gate 20 = .ok (.getfield 81, 3) := by decide +kernel
theorem dX3_gate_23 : decode cX3_gate 23 = .ok (.iload_n 1, 1) := by decide +kernel
theorem dX3_gate_24 : decode cX3_gate 24 = .ok (.aaload, 1) := by decide +kernel
theorem dX3_gate_25 : decode cX3_gate 25 = .ok (.aload_n 0, 1) := by decide +kernel
theorem dX3_gate_26 : decode cX3_gate 26 = .ok (.getfield 18, 3) := by decide +kernel
theorem dX3_gate_29 : decode cX3_gate 29 = .ok (.getfield 92, 3) := by decide +kernel
theorem dX3_gate_32 : decode cX3_gate 32 = .ok (.iload_n 1, 1) := by decide +kernel
theorem dX3_gate_33 : decode cX3_gate 33 = .ok (.iaload, 1) := by decide +kernel
theorem dX3_gate_34 : decode cX3_gate 34 = .ok (.invokestatic 119, 3) := by decide +kernel
theorem dX3_gate_37 : decode cX3_gate 37 = .ok (.bipush (-9), 2) := by decide +kernel
theorem dX3_gate_39 : decode cX3_gate 39 = .ok (.if_icmp .eq 6, 3) := by decide +kernel
theorem dX3_gate_42 : decode cX3_gate 42 = .ok (.bipush (-4), 2) := by decide +kernel
theorem dX3_gate_44 : decode cX3_gate 44 = .ok (.ireturn, 1) := by decide +kernel
theorem dX3_gate_45 : decode cX3_gate 45 = .ok (.aload_n 0, 1) := by decide +kernel
theorem dX3_gate_46 : decode cX3_gate 46 = .ok (.getfield 24, 3) := by decide +kernel
theorem dX3_gate_49 : decode cX3_gate 49 = .ok (.aload_n 0, 1) := by decide +kernel
theorem dX3_gate_50 : decode cX3_gate 50 = .ok (.getfield 18, 3) := by decide +kernel
theorem dX3_gate_53 : decode cX3_gate 53 = .ok (.getfield 81, 3) := by decide +kernel
theorem dX3_gate_56 : decode cX3_gate 56 = .ok (.iload_n 1, 1) := by decide +kernel
theorem dX3_gate_57 : decode cX3_gate 57 = .ok (.aaload, 1) := by decide +kernel
theorem dX3_gate_58 : decode cX3_gate 58 = .ok (.aload_n 0, 1) := by decide +kernel
theorem dX3_gate_59 : decode cX3_gate 59 = .ok (.getfield 18, 3) := by decide +kernel
theorem dX3_gate_62 : decode cX3_gate 62 = .ok (.getfield 92, 3) := by decide +kernel
theorem dX3_gate_65 : decode cX3_gate 65 = .ok (.iload_n 1, 1) := by decide +kernel
theorem dX3_gate_66 : decode cX3_gate 66 = .ok (.iaload, 1) := by decide +kernel
theorem dX3_gate_67 : decode cX3_gate 67 = .ok (.invokevirtual 123, 3) := by decide +kernel
theorem dX3_gate_70 : decode cX3_gate 70 = .ok (.aload_n 0, 1) := by decide +kernel
theorem dX3_gate_71 : decode cX3_gate 71 = .ok (.getfield 40, 3) := by decide +kernel
theorem dX3_gate_74 : decode cX3_gate 74 = .ok (.iconst (-1), 1) := by decide +kernel
theorem dX3_gate_75 : decode cX3_gate 75 = .ok (.invokestatic 67, 3) := by decide +kernel
theorem dX3_gate_78 : decode cX3_gate 78 = .ok (.aload_n 0, 1) := by decide +kernel
theorem dX3_gate_79 : decode cX3_gate 79 = .ok (.getfield 24, 3) := by decide +kernel
theorem dX3_gate_82 : decode cX3_gate 82 = .ok (.getfield 126, 3) := by decide +kernel
theorem dX3_gate_85 : decode cX3_gate 85 = .ok (.ireturn, 1) := by decide +kernel
theorem dX3_goer_0 : decode cX3_goer 0 = .ok (.aload_n 0, 1) := by decide +kernel
theorem dX3_goer_1 : decode cX3_goer 1 = .ok (.getfield 24, 3) := by decide +kernel
theorem dX3_goer_4 : decode cX3_goer 4 = .ok (.iload_n 1, 1) := by decide +kernel
theorem dX3_goer_5 : decode cX3_goer 5 = .ok (.invokevirtual 129, 3) := by decide +kernel
theorem dX3_goer_8 : decode cX3_goer 8 = .ok (.ifCond .eq 13, 3) := by decide +kernel
theorem dX3_goer_11 : decode cX3_goer 11 = .ok (.iload_n 2, 1) := by decide +kernel
theorem dX3_goer_12 : decode cX3_goer 12 = .ok (.ifCond .lt 9, 3) := by decide +kernel
theorem dX3_goer_15 : decode cX3_goer 15 = .ok (.iload_n 2, 1) := by decide +kernel
theorem dX3_goer_16 : decode cX3_goer 16 = .ok (.bipush 7, 2) := by decide +kernel
theorem dX3_goer_18 : decode cX3_goer 18 = .ok (.if_icmp .lt 5, 3) := by decide +kernel
theorem dX3_goer_21 : decode cX3_goer 21 = .ok (.iconst (-1), 1) := by decide +kernel
theorem dX3_goer_22 : decode cX3_goer 22 = .ok (.ireturn, 1) := by decide +kernel
theorem dX3_goer_23 : decode cX3_goer 23 = .ok (.aload_n 0, 1) := by decide +kernel
theorem dX3_goer_24 : decode cX3_goer 24 = .ok (.aload_n 0, 1) := by decide +kernel
theorem dX3_goer_25 : decode cX3_goer 25 = .ok (.iload_n 1, 1) := by decide +kernel
theorem dX3_goer_26 : decode cX3_goer 26 = .ok (.iload_n 2, 1) := by decide +kernel
theorem dX3_goer_27 : decode cX3_goer 27 = .ok (.invokevirtual 130, 3) := by decide +kernel
theorem dX3_goer_30 : decode cX3_goer 30 = .ok (.invokevirtual 84, 3) := by decide +kernel
theorem dX3_goer_33 : decode cX3_goer 33 = .ok (.ireturn, 1) := by decide +kernel
theorem dX3_mark_0 : decode cX3_mark 0 = .ok (.aload_n 0, 1) := by decide +kernel
theorem dX3_mark_1 : decode cX3_mark 1 = .ok (.getfield 24, 3) := by decide +kernel
theorem dX3_mark_4 : decode cX3_mark 4 = .ok (.iload_n 1, 1) := by decide +kernel
theorem dX3_mark_5 : decode cX3_mark 5 = .ok (.invokevirtual 129, 3) := by decide +kernel
theorem dX3_mark_8 : decode cX3_mark 8 = .ok (.ifCond .eq 13, 3) := by decide +kernel
theorem dX3_mark_11 : decode cX3_mark 11 = .ok (.iload_n 2, 1) := by decide +kernel
theorem dX3_mark_12 : decode cX3_mark 12 = .ok (.ifCond .le 9, 3) := by decide +kernel
theorem dX3_mark_15 : decode cX3_mark 15 = .ok (.iload_n 2, 1) := by decide +kernel
theorem dX3_mark_16 : decode cX3_mark 16 = .ok (.bipush 6, 2) := by decide +kernel
theorem dX3_mark_18 : decode cX3_mark 18 = .ok (.if_icmp .lt 5, 3) := by decide +kernel
theorem dX3_mark_21 : decode cX3_mark 21 = .ok (.iconst (-1), 1) := by decide +kernel
theorem dX3_mark_22 : decode cX3_mark 22 = .ok (.ireturn, 1) := by decide +kernel
theorem dX3_mark_23 : decode cX3_mark 23 = .ok (.aload_n 0, 1) := by decide +kernel
theorem dX3_mark_24 : decode cX3_mark 24 = .ok (.getfield 24, 3) := by decide +kernel
theorem dX3_mark_27 : decode cX3_mark 27 = .ok (.getfield 134, 3) := by decide +kernel
theorem dX3_mark_30 : decode cX3_mark 30 = .ok (.iload_n 1, 1) := by decide +kernel
theorem dX3_mark_31 : decode cX3_mark 31 = .ok (.iaload, 1) := by decide +kernel
theorem dX3_mark_32 : decode cX3_mark 32 = .ok (.istore_n 3, 1) := by decide +kernel
theorem dX3_mark_33 : decode cX3_mark 33 = .ok (.iload_n 3, 1) := by decide +kernel
theorem dX3_mark_34 : decode cX3_mark 34 = .ok (.iload_n 2, 1) := by decide +kernel
theorem dX3_mark_35 : decode cX3_mark 35 = .ok (.if_icmp .eq 19, 3) := by decide +kernel
theorem dX3_mark_38 : decode cX3_mark 38 = .ok (.iload_n 3, 1) := by decide +kernel
theorem dX3_mark_39 : decode cX3_mark 39 = .ok (.iconst 5, 1) := by decide +kernel
theorem dX3_mark_40 : decode cX3_mark 40 = .ok (.if_icmp .ne 8, 3) := by decide +kernel
theorem dX3_mark_43 : decode cX3_mark 43 = .ok (.iload_n 2, 1) := by decide +kernel
theorem dX3_mark_44 : decode cX3_mark 44 = .ok (.iconst 4, 1) := by decide +kernel
theorem dX3_mark_45 : decode cX3_mark 45 = .ok (.if_icmp .eq 9, 3) := by decide +kernel
theorem dX3_mark_48 : decode cX3_mark 48 = .ok (.aload_n 0, 1) := by decide +kernel
theorem dX3_mark_49 : decode cX3_mark 49 = .ok (.iconst 3, 1) := by decide +kernel
theorem dX3_mark_50 : decode cX3_mark 50 = .ok (.invokevirtual 99, 3) := by decide +kernel
theorem dX3_mark_53 : decode cX3_mark 53 = .ok (.ireturn, 1) := by decide +kernel
theorem dX3_mark_54 : decode cX3_mark 54 = .ok (.iload_n 2, 1) := by decide +kernel
theorem dX3_mark_55 : decode cX3_mark 55 = .ok (.tableswitch 110 1 4 #[29, 51, 80, 98], 29) := by decide +kernel
theorem dX3_mark_84 : decode cX3_mark 84 = .ok (.aload_n 0, 1) := by decide +kernel
theorem dX3_mark_85 : decode cX3_mark 85 = .ok (.getfield 24, 3) := by decide +kernel
theorem dX3_mark_88 : decode cX3_mark 88 = .ok (.getfield 126, 3) := by decide +kernel
theorem dX3_mark_91 : decode cX3_mark 91 = .ok (.iconst 1, 1) := by decide +kernel
theorem dX3_mark_92 : decode cX3_mark 92 = .ok (.isub, 1) := by decide +kernel
theorem dX3_mark_93 : decode cX3_mark 93 = .ok (.aload_n 0, 1) := by decide +kernel
theorem dX3_mark_94 : decode cX3_mark 94 = .ok (.getfield 24, 3) := by decide +kernel
theorem dX3_mark_97 : decode cX3_mark 97 = .ok (.iload_n 1, 1) := by decide +kernel
theorem dX3_mark_98 : decode cX3_mark 98 = .ok (.invokevirtual 137, 3) := by decide +kernel
theorem dX3_mark_101 : decode cX3_mark 101 = .ok (.invokestatic 140, 3) := by decide +kernel
theorem dX3_mark_104 : decode cX3_mark 104 = .ok (.isub, 1) := by decide +kernel
theorem dX3_mark_105 : decode cX3_mark 105 = .ok (.ireturn, 1) := by decide +kernel
theorem dX3_mark_106 : decode cX3_mark 106 = .ok (.aload_n 0, 1) := by decide +kernel
theorem dX3_mark_107 : decode cX3_mark 107 = .ok (.getfield 24, 3) := by decide +kernel
theorem dX3_mark_110 : decode cX3_mark 110 = .ok (.iload_n 1, 1) := by decide +kernel
theorem dX3_mark_111 : decode cX3_mark 111 = .ok (.invokevirtual 145, 3) := by decide +kernel
theorem dX3_mark_114 : decode cX3_mark 114 = .ok (.aload_n 0, 1) := by decide +kernel
theorem dX3_mark_115 : decode cX3_mark 115 = .ok (.getfield 24, 3) := by decide +kernel
theorem dX3_mark_118 : decode cX3_mark 118 = .ok (.iload_n 1, 1) := by decide +kernel
theorem dX3_mark_119 : decode cX3_mark 119 = .ok (.invokevirtual 137, 3) := by decide +kernel
theorem dX3_mark_122 : decode cX3_mark 122 = .ok (.iconst (-1), 1) := by decide +kernel
theorem dX3_mark_123 : decode cX3_mark 123 = .ok (.ixor, 1) := by decide +kernel
theorem dX3_mark_124 : decode cX3_mark 124 = .ok (.iand, 1) := by decide +kernel
theorem dX3_mark_125 : decode cX3_mark 125 = .ok (.iconst 1, 1) := by decide +kernel
theorem dX3_mark_126 : decode cX3_mark 126 = .ok (.iload_n 1, 1) := by decide +kernel
theorem dX3_mark_127 : decode cX3_mark 127 = .ok (.ishl, 1) := by decide +kernel
theorem dX3_mark_128 : decode cX3_mark 128 = .ok (.iconst (-1), 1) := by decide +kernel
theorem dX3_mark_129 : decode cX3_mark 129 = .ok (.ixor, 1) := by decide +kernel
theorem dX3_mark_130 : decode cX3_mark 130 = .ok (.iand, 1) := by decide +kernel
theorem dX3_mark_131 : decode cX3_mark 131 = .ok (.invokestatic 140, 3) := by decide +kernel
theorem dX3_mark_134 : decode cX3_mark 134 = .ok (.ireturn, 1) := by decide +kernel
theorem dX3_mark_135 : decode cX3_mark 135 = .ok (.aload_n 0, 1) := by decide +kernel
theorem dX3_mark_136 : decode cX3_mark 136 = .ok (.getfield 24, 3) := by decide +kernel
theorem dX3_mark_139 : decode cX3_mark 139 = .ok (.iload_n 1, 1) := by decide +kernel
theorem dX3_mark_140 : decode cX3_mark 140 = .ok (.invokevirtual 145, 3) := by decide +kernel
theorem dX3_mark_143 : decode cX3_mark 143 = .ok (.iconst 1, 1) := by decide +kernel
theorem dX3_mark_144 : decode cX3_mark 144 = .ok (.iload_n 1, 1) := by decide +kernel
theorem dX3_mark_145 : decode cX3_mark 145 = .ok (.ishl, 1) := by decide +kernel
theorem dX3_mark_146 : decode cX3_mark 146 = .ok (.iconst (-1), 1) := by decide +kernel
theorem dX3_mark_147 : decode cX3_mark 147 = .ok (.ixor, 1) := by decide +kernel
theorem dX3_mark_148 : decode cX3_mark 148 = .ok (.iand, 1) := by decide +kernel
theorem dX3_mark_149 : decode cX3_mark 149 = .ok (.invokestatic 140, 3) := by decide +kernel
theorem dX3_mark_152 : decode cX3_mark 152 = .ok (.ireturn, 1) := by decide +kernel
theorem dX3_mark_153 : decode cX3_mark 153 = .ok (.aload_n 0, 1) := by decide +kernel
theorem dX3_mark_154 : decode cX3_mark 154 = .ok (.getfield 24, 3) := by decide +kernel
theorem dX3_mark_157 : decode cX3_mark 157 = .ok (.iload_n 1, 1) := by decide +kernel
theorem dX3_mark_158 : decode cX3_mark 158 = .ok (.invokevirtual 148, 3) := by decide +kernel
theorem dX3_mark_161 : decode cX3_mark 161 = .ok (.invokestatic 140, 3) := by decide +kernel
theorem dX3_mark_164 : decode cX3_mark 164 = .ok (.ireturn, 1) := by decide +kernel
theorem dX3_mark_165 : decode cX3_mark 165 = .ok (.aload_n 0, 1) := by decide +kernel
theorem dX3_mark_166 : decode cX3_mark 166 = .ok (.getfield 24, 3) := by decide +kernel
theorem dX3_mark_169 : decode cX3_mark 169 = .ok (.iload_n 1, 1) := by decide +kernel
theorem dX3_mark_170 : decode cX3_mark 170 = .ok (.invokevirtual 148, 3) := by decide +kernel
theorem dX3_mark_173 : decode cX3_mark 173 = .ok (.aload_n 0, 1) := by decide +kernel
theorem dX3_mark_174 : decode cX3_mark 174 = .ok (.getfield 24, 3) := by decide +kernel
theorem dX3_mark_177 : decode cX3_mark 177 = .ok (.invokevirtual 151, 3) := by decide +kernel
theorem dX3_mark_180 : decode cX3_mark 180 = .ok (.iand, 1) := by decide +kernel
theorem dX3_mark_181 : decode cX3_mark 181 = .ok (.invokestatic 140, 3) := by decide +kernel
theorem dX3_mark_184 : decode cX3_mark 184 = .ok (.ireturn, 1) := by decide +kernel
theorem dX3_tells_0 : decode cX3_tells 0 = .ok (.aload_n 0, 1) := by decide +kernel
theorem dX3_tells_1 : decode cX3_tells 1 = .ok (.getfield 24, 3) := by decide +kernel
theorem dX3_tells_4 : decode cX3_tells 4 = .ok (.iload_n 1, 1) := by decide +kernel
theorem dX3_tells_5 : decode cX3_tells 5 = .ok (.invokevirtual 129, 3) := by decide +kernel
theorem dX3_tells_8 : decode cX3_tells 8 = .ok (.ifCond .eq 14, 3) := by decide +kernel
theorem dX3_tells_11 : decode cX3_tells 11 = .ok (.aload_n 0, 1) := by decide +kernel
theorem dX3_tells_12 : decode cX3_tells 12 = .ok (.getfield 24, 3) := by decide +kernel
theorem dX3_tells_15 : decode cX3_tells 15 = .ok (.iload_n 2, 1) := by decide +kernel
theorem dX3_tells_16 : decode cX3_tells 16 = .ok (.invokevirtual 155, 3) := by decide +kernel
theorem dX3_tells_19 : decode cX3_tells 19 = .ok (.ifCond .ne 5, 3) := by decide +kernel
theorem dX3_tells_22 : decode cX3_tells 22 = .ok (.iconst (-1), 1) := by decide +kernel
theorem dX3_tells_23 : decode cX3_tells 23 = .ok (.ireturn, 1) := by decide +kernel
theorem dX3_tells_24 : decode cX3_tells 24 = .ok (.aload_n 0, 1) := by decide +kernel
theorem dX3_tells_25 : decode cX3_tells 25 = .ok (.getfield 24, 3) := by decide +kernel
theorem dX3_tells_28 : decode cX3_tells 28 = .ok (.getfield 134, 3) := by decide +kernel
theorem dX3_tells_31 : decode cX3_tells 31 = .ok (.iload_n 1, 1) := by decide +kernel
theorem dX3_tells_32 : decode cX3_tells 32 = .ok (.iaload, 1) := by decide +kernel
theorem dX3_tells_33 : decode cX3_tells 33 = .ok (.iload_n 1, 1) := by decide +kernel
theorem dX3_tells_34 : decode cX3_tells 34 = .ok (.iload_n 2, 1) := by decide +kernel
theorem dX3_tells_35 : decode cX3_tells 35 = .ok (.invokestatic 158, 3) := by decide +kernel
theorem dX3_tells_38 : decode cX3_tells 38 = .ok (.ireturn, 1) := by decide +kernel
theorem dX3_meet_0 : decode cX3_meet 0 = .ok (.aload_n 0, 1) := by decide +kernel
theorem dX3_meet_1 : decode cX3_meet 1 = .ok (.getfield 24, 3) := by decide +kernel
theorem dX3_meet_4 : decode cX3_meet 4 = .ok (.iload_n 1, 1) := by decide +kernel
theorem dX3_meet_5 : decode cX3_meet 5 = .ok (.invokevirtual 129, 3) := by decide +kernel
theorem dX3_meet_8 : decode cX3_meet 8 = .ok (.ifCond .eq 19, 3) := by decide +kernel
theorem dX3_meet_11 : decode cX3_meet 11 = .ok (.aload_n 0, 1) := by decide +kernel
theorem dX3_meet_12 : decode cX3_meet 12 = .ok (.getfield 24, 3) := by decide +kernel
theorem dX3_meet_15 : decode cX3_meet 15 = .ok (.iload_n 2, 1) := by decide +kernel
theorem dX3_meet_16 : decode cX3_meet 16 = .ok (.invokevirtual 129, 3) := by decide +kernel
theorem dX3_meet_19 : decode cX3_meet 19 = .ok (.ifCond .eq 8, 3) := by decide +kernel
theorem dX3_meet_22 : decode cX3_meet 22 = .ok (.iload_n 1, 1) := by decide +kernel
theorem dX3_meet_23 : decode cX3_meet 23 = .ok (.iload_n 2, 1) := by decide +kernel
theorem dX3_meet_24 : decode cX3_meet 24 = .ok (.if_icmp .ne 5, 3) := by decide +kernel
theorem dX3_meet_27 : decode cX3_meet 27 = .ok (.iconst (-1), 1) := by decide +kernel
theorem dX3_meet_28 : decode cX3_meet 28 = .ok (.ireturn, 1) := by decide +kernel
theorem dX3_meet_29 : decode cX3_meet 29 = .ok (.aload_n 0, 1) := by decide +kernel
theorem dX3_meet_30 : decode cX3_meet 30 = .ok (.getfield 24, 3) := by decide +kernel
theorem dX3_meet_33 : decode cX3_meet 33 = .ok (.iload_n 1, 1) := by decide +kernel
theorem dX3_meet_34 : decode cX3_meet 34 = .ok (.iload_n 2, 1) := by decide +kernel
theorem dX3_meet_35 : decode cX3_meet 35 = .ok (.invokevirtual 162, 3) := by decide +kernel
theorem dX3_meet_38 : decode cX3_meet 38 = .ok (.ifCond .ne 6, 3) := by decide +kernel
theorem dX3_meet_41 : decode cX3_meet 41 = .ok (.bipush (-4), 2) := by decide +kernel
theorem dX3_meet_43 : decode cX3_meet 43 = .ok (.ireturn, 1) := by decide +kernel
theorem dX3_meet_44 : decode cX3_meet 44 = .ok (.aload_n 0, 1) := by decide +kernel
theorem dX3_meet_45 : decode cX3_meet 45 = .ok (.getfield 24, 3) := by decide +kernel
theorem dX3_meet_48 : decode cX3_meet 48 = .ok (.invokevirtual 166, 3) := by decide +kernel
theorem dX3_meet_51 : decode cX3_meet 51 = .ok (.iconst 1, 1) := by decide +kernel
theorem dX3_meet_52 : decode cX3_meet 52 = .ok (.if_icmp .ge 6, 3) := by decide +kernel
theorem dX3_meet_55 : decode cX3_meet 55 = .ok (.bipush (-2), 2) := by decide +kernel
theorem dX3_meet_57 : decode cX3_meet 57 = .ok (.ireturn, 1) := by decide +kernel
theorem dX3_meet_58 : decode cX3_meet 58 = .ok (.aload_n 0, 1) := by decide +kernel
theorem dX3_meet_59 : decode cX3_meet 59 = .ok (.getfield 24, 3) := by decide +kernel
theorem dX3_meet_62 : decode cX3_meet 62 = .ok (.invokevirtual 169, 3) := by decide +kernel
theorem dX3_meet_65 : decode cX3_meet 65 = .ok (.istore_n 3, 1) := by decide +kernel
theorem dX3_meet_66 : decode cX3_meet 66 = .ok (.aload_n 0, 1) := by decide +kernel
theorem dX3_meet_67 : decode cX3_meet 67 = .ok (.getfield 24, 3) := by decide +kernel
theorem dX3_meet_70 : decode cX3_meet 70 = .ok (.iconst 1, 1) := by decide +kernel
theorem dX3_meet_71 : decode cX3_meet 71 = .ok (.iload_n 1, 1) := by decide +kernel
theorem dX3_meet_72 : decode cX3_meet 72 = .ok (.iload_n 2, 1) := by decide +kernel
theorem dX3_meet_73 : decode cX3_meet 73 = .ok (.invokevirtual 172, 3) := by decide +kernel
theorem dX3_meet_76 : decode cX3_meet 76 = .ok (.aload_n 0, 1) := by decide +kernel
theorem dX3_meet_77 : decode cX3_meet 77 = .ok (.getfield 24, 3) := by decide +kernel
theorem dX3_meet_80 : decode cX3_meet 80 = .ok (.invokevirtual 169, 3) := by decide +kernel
theorem dX3_meet_83 : decode cX3_meet 83 = .ok (.iload_n 3, 1) := by decide +kernel
theorem dX3_meet_84 : decode cX3_meet 84 = .ok (.isub, 1) := by decide +kernel
theorem dX3_meet_85 : decode cX3_meet 85 = .ok (.ireturn, 1) := by decide +kernel
theorem dX3_card_0 : decode cX3_card 0 = .ok (.aload_n 0, 1) := by decide +kernel
theorem dX3_card_1 : decode cX3_card 1 = .ok (.iload_n 1, 1) := by decide +kernel
theorem dX3_card_2 : decode cX3_card 2 = .ok (.invokevirtual 176, 3) := by decide +kernel
theorem dX3_card_5 : decode cX3_card 5 = .ok (.istore_n 2, 1) := by decide +kernel
theorem dX3_card_6 : decode cX3_card 6 = .ok (.iload_n 2, 1) := by decide +kernel
theorem dX3_card_7 : decode cX3_card 7 = .ok (.ifCond .eq 5, 3) := by decide +kernel
theorem dX3_card_10 : decode cX3_card 10 = .ok (.iload_n 2, 1) := by decide +kernel
theorem dX3_card_11 : decode cX3_card 11 = .ok (.ireturn, 1) := by decide +kernel
theorem dX3_card_12 : decode cX3_card 12 = .ok (.aload_n 0, 1) := by decide +kernel
theorem dX3_card_13 : decode cX3_card 13 = .ok (.getfield 24, 3) := by decide +kernel
theorem dX3_card_16 : decode cX3_card 16 = .ok (.iconst 2, 1) := by decide +kernel
theorem dX3_card_17 : decode cX3_card 17 = .ok (.iload_n 1, 1) := by decide +kernel
theorem dX3_card_18 : decode cX3_card 18 = .ok (.iconst 0, 1) := by decide +kernel
theorem dX3_card_19 : decode cX3_card 19 = .ok (.invokevirtual 172, 3) := by decide +kernel
theorem dX3_card_22 : decode cX3_card 22 = .ok (.aload_n 0, 1) := by decide +kernel
theorem dX3_card_23 : decode cX3_card 23 = .ok (.getfield 24, 3) := by decide +kernel
theorem dX3_card_26 : decode cX3_card 26 = .ok (.getfield 179, 3) := by decide +kernel
theorem dX3_card_29 : decode cX3_card 29 = .ok (.ireturn, 1) := by decide +kernel
theorem dX3_reads_0 : decode cX3_reads 0 = .ok (.aload_n 0, 1) := by decide +kernel
theorem dX3_reads_1 : decode cX3_reads 1 = .ok (.iload_n 1, 1) := by decide +kernel
theorem dX3_reads_2 : decode cX3_reads 2 = .ok (.invokevirtual 176, 3) := by decide +kernel
theorem dX3_reads_5 : decode cX3_reads 5 = .ok (.istore_n 2, 1) := by decide +kernel
theorem dX3_reads_6 : decode cX3_reads 6 = .ok (.iload_n 2, 1) := by decide +kernel
theorem dX3_reads_7 : decode cX3_reads 7 = .ok (.ifCond .eq 5, 3) := by decide +kernel
theorem dX3_reads_10 : decode cX3_reads 10 = .ok (.iload_n 2, 1) := by decide +kernel
theorem dX3_reads_11 : decode cX3_reads 11 = .ok (.ireturn, 1) := by decide +kernel
theorem dX3_reads_12 : decode cX3_reads 12 = .ok (.aload_n 0, 1) := by decide +kernel
theorem dX3_reads_13 : decode cX3_reads 13 = .ok (.getfield 24, 3) := by decide +kernel
theorem dX3_reads_16 : decode cX3_reads 16 = .ok (.invokevirtual 169, 3) := by decide +kernel
theorem dX3_reads_19 : decode cX3_reads 19 = .ok (.istore_n 3, 1) := by decide +kernel
theorem dX3_reads_20 : decode cX3_reads 20 = .ok (.aload_n 0, 1) := by decide +kernel
theorem dX3_reads_21 : decode cX3_reads 21 = .ok (.getfield 24, 3) := by decide +kernel
theorem dX3_reads_24 : decode cX3_reads 24 = .ok (.iconst 3, 1) := by decide +kernel
theorem dX3_reads_25 : decode cX3_reads 25 = .ok (.iload_n 1, 1) := by decide +kernel
theorem dX3_reads_26 : decode cX3_reads 26 = .ok (.iconst 0, 1) := by decide +kernel
theorem dX3_reads_27 : decode cX3_reads 27 = .ok (.invokevirtual 172, 3) := by decide +kernel
theorem dX3_reads_30 : decode cX3_reads 30 = .ok (.aload_n 0, 1) := by decide +kernel
theorem dX3_reads_31 : decode cX3_reads 31 = .ok (.getfield 24, 3) := by decide +kernel
theorem dX3_reads_34 : decode cX3_reads 34 = .ok (.invokevirtual 169, 3) := by decide +kernel
theorem dX3_reads_37 : decode cX3_reads 37 = .ok (.iload_n 3, 1) := by decide +kernel
theorem dX3_reads_38 : decode cX3_reads 38 = .ok (.isub, 1) := by decide +kernel
theorem dX3_reads_39 : decode cX3_reads 39 = .ok (.ireturn, 1) := by decide +kernel
theorem dX3_go_0 : decode cX3_go 0 = .ok (.aload_n 0, 1) := by decide +kernel
theorem dX3_go_1 : decode cX3_go 1 = .ok (.getfield 24, 3) := by decide +kernel
theorem dX3_go_4 : decode cX3_go 4 = .ok (.iload_n 1, 1) := by decide +kernel
theorem dX3_go_5 : decode cX3_go 5 = .ok (.invokevirtual 129, 3) := by decide +kernel
theorem dX3_go_8 : decode cX3_go 8 = .ok (.ifCond .ne 5, 3) := by decide +kernel
theorem dX3_go_11 : decode cX3_go 11 = .ok (.iconst (-1), 1) := by decide +kernel
theorem dX3_go_12 : decode cX3_go 12 = .ok (.ireturn, 1) := by decide +kernel
theorem dX3_go_13 : decode cX3_go 13 = .ok (.aload_n 0, 1) := by decide +kernel
theorem dX3_go_14 : decode cX3_go 14 = .ok (.getfield 24, 3) := by decide +kernel
theorem dX3_go_17 : decode cX3_go 17 = .ok (.iload_n 1, 1) := by decide +kernel
theorem dX3_go_18 : decode cX3_go 18 = .ok (.invokevirtual 182, 3) := by decide +kernel
theorem dX3_go_21 : decode cX3_go 21 = .ok (.ifCond .ne 6, 3) := by decide +kernel
theorem dX3_go_24 : decode cX3_go 24 = .ok (.bipush (-4), 2) := by decide +kernel
theorem dX3_go_26 : decode cX3_go 26 = .ok (.ireturn, 1) := by decide +kernel
theorem dX3_go_27 : decode cX3_go 27 = .ok (.aload_n 0, 1) := by decide +kernel
theorem dX3_go_28 : decode cX3_go 28 = .ok (.getfield 24, 3) := by decide +kernel
theorem dX3_go_31 : decode cX3_go 31 = .ok (.invokevirtual 166, 3) := by decide +kernel
theorem dX3_go_34 : decode cX3_go 34 = .ok (.iconst 1, 1) := by decide +kernel
theorem dX3_go_35 : decode cX3_go 35 = .ok (.if_icmp .ge 6, 3) := by decide +kernel
theorem dX3_go_38 : decode cX3_go 38 = .ok (.bipush (-2), 2) := by decide +kernel
theorem dX3_go_40 : decode cX3_go 40 = .ok (.ireturn, 1) := by decide +kernel
theorem dX3_go_41 : decode cX3_go 41 = .ok (.aload_n 0, 1) := by decide +kernel
theorem dX3_go_42 : decode cX3_go 42 = .ok (.getfield 24, 3) := by decide +kernel
theorem dX3_go_45 : decode cX3_go 45 = .ok (.iconst 4, 1) := by decide +kernel
theorem dX3_go_46 : decode cX3_go 46 = .ok (.iload_n 1, 1) := by decide +kernel
theorem dX3_go_47 : decode cX3_go 47 = .ok (.iconst 0, 1) := by decide +kernel
theorem dX3_go_48 : decode cX3_go 48 = .ok (.invokevirtual 172, 3) := by decide +kernel
theorem dX3_go_51 : decode cX3_go 51 = .ok (.aload_n 0, 1) := by decide +kernel
theorem dX3_go_52 : decode cX3_go 52 = .ok (.getfield 24, 3) := by decide +kernel
theorem dX3_go_55 : decode cX3_go 55 = .ok (.getfield 185, 3) := by decide +kernel
theorem dX3_go_58 : decode cX3_go 58 = .ok (.invokestatic 140, 3) := by decide +kernel
theorem dX3_go_61 : decode cX3_go 61 = .ok (.ireturn, 1) := by decide +kernel
theorem dX3_undo_0 : decode cX3_undo 0 = .ok (.iload_n 1, 1) := by decide +kernel
theorem dX3_undo_1 : decode cX3_undo 1 = .ok (.ifCond .lt 14, 3) := by decide +kernel
theorem dX3_undo_4 : decode cX3_undo 4 = .ok (.iload_n 1, 1) := by decide +kernel
theorem dX3_undo_5 : decode cX3_undo 5 = .ok (.aload_n 0, 1) := by decide +kernel
theorem dX3_undo_6 : decode cX3_undo 6 = .ok (.getfield 24, 3) := by decide +kernel
theorem dX3_undo_9 : decode cX3_undo 9 = .ok (.getfield 188, 3) := by decide +kernel
theorem dX3_undo_12 : decode cX3_undo 12 = .ok (.if_icmp .le 5, 3) := by decide +kernel
theorem dX3_undo_15 : decode cX3_undo 15 = .ok (.iconst (-1), 1) := by decide +kernel
theorem dX3_undo_16 : decode cX3_undo 16 = .ok (.ireturn, 1) := by decide +kernel
theorem dX3_undo_17 : decode cX3_undo 17 = .ok (.aload_n 0, 1) := by decide +kernel
theorem dX3_undo_18 : decode cX3_undo 18 = .ok (.getfield 24, 3) := by decide +kernel
theorem dX3_undo_21 : decode cX3_undo 21 = .ok (.getfield 188, 3) := by decide +kernel
theorem dX3_undo_24 : decode cX3_undo 24 = .ok (.iload_n 1, 1) := by decide +kernel
theorem dX3_undo_25 : decode cX3_undo 25 = .ok (.isub, 1) := by decide +kernel
theorem dX3_undo_26 : decode cX3_undo 26 = .ok (.istore_n 2, 1) := by decide +kernel
theorem dX3_undo_27 : decode cX3_undo 27 = .ok (.aload_n 0, 1) := by decide +kernel
theorem dX3_undo_28 : decode cX3_undo 28 = .ok (.getfield 24, 3) := by decide +kernel
theorem dX3_undo_31 : decode cX3_undo 31 = .ok (.aload_n 0, 1) := by decide +kernel
theorem dX3_undo_32 : decode cX3_undo 32 = .ok (.getfield 24, 3) := by decide +kernel
theorem dX3_undo_35 : decode cX3_undo 35 = .ok (.getfield 191, 3) := by decide +kernel
theorem dX3_undo_38 : decode cX3_undo 38 = .ok (.iload_n 1, 1) := by decide +kernel
theorem dX3_undo_39 : decode cX3_undo 39 = .ok (.invokevirtual 194, 3) := by decide +kernel
theorem dX3_undo_42 : decode cX3_undo 42 = .ok (.iload_n 2, 1) := by decide +kernel
theorem dX3_undo_43 : decode cX3_undo 43 = .ok (.ireturn, 1) := by decide +kernel
theorem dX3_keep_0 : decode cX3_keep 0 = .ok (.iload_n 1, 1) := by decide +kernel
theorem dX3_keep_1 : decode cX3_keep 1 = .ok (.ifCond .lt 8, 3) := by decide +kernel
theorem dX3_keep_4 : decode cX3_keep 4 = .ok (.iload_n 1, 1) := by decide +kernel
theorem dX3_keep_5 : decode cX3_keep 5 = .ok (.iconst 3, 1) := by decide +kernel
theorem dX3_keep_6 : decode cX3_keep 6 = .ok (.if_icmp .lt 5, 3) := by decide +kernel
theorem dX3_keep_9 : decode cX3_keep 9 = .ok (.iconst (-1), 1) := by decide +kernel
theorem dX3_keep_10 : decode cX3_keep 10 = .ok (.ireturn, 1) := by decide +kernel
theorem dX3_keep_11 : decode cX3_keep 11 = .ok (.aload_n 0, 1) := by decide +kernel
theorem dX3_keep_12 : decode cX3_keep 12 = .ok (.getfield 24, 3) := by decide +kernel
theorem dX3_keep_15 : decode cX3_keep 15 = .ok (.getfield 126, 3) := by decide +kernel
theorem dX3_keep_18 : decode cX3_keep 18 = .ok (.ifCond .ne 6, 3) := by decide +kernel
theorem dX3_keep_21 : decode cX3_keep 21 = .ok (.bipush (-4), 2) := by decide +kernel
theorem dX3_keep_23 : decode cX3_keep 23 = .ok (.ireturn, 1) := by decide +kernel
theorem dX3_keep_24 : decode cX3_keep 24 = .ok (.aload_n 0, 1) := by decide +kernel
theorem dX3_keep_25 : decode cX3_keep 25 = .ok (.getfield 24, 3) := by decide +kernel
theorem dX3_keep_28 : decode cX3_keep 28 = .ok (.getfield 191, 3) := by decide +kernel
theorem dX3_keep_31 : decode cX3_keep 31 = .ok (.iconst 0, 1) := by decide +kernel
theorem dX3_keep_32 : decode cX3_keep 32 = .ok (.aload_n 0, 1) := by decide +kernel
theorem dX3_keep_33 : decode cX3_keep 33 = .ok (.getfield 37, 3) := by decide +kernel
theorem dX3_keep_36 : decode cX3_keep 36 = .ok (.iload_n 1, 1) := by decide +kernel
theorem dX3_keep_37 : decode cX3_keep 37 = .ok (.aaload, 1) := by decide +kernel
theorem dX3_keep_38 : decode cX3_keep 38 = .ok (.iconst 0, 1) := by decide +kernel
theorem dX3_keep_39 : decode cX3_keep 39 = .ok (.aload_n 0, 1) := by decide +kernel
theorem dX3_keep_40 : decode cX3_keep 40 = .ok (.getfield 24, 3) := by decide +kernel
theorem dX3_keep_43 : decode cX3_keep 43 = .ok (.getfield 188, 3) := by decide +kernel
theorem dX3_keep_46 : decode cX3_keep 46 = .ok (.invokestatic 109, 3) := by decide +kernel
theorem dX3_keep_49 : decode cX3_keep 49 = .ok (.aload_n 0, 1) := by decide +kernel
theorem dX3_keep_50 : decode cX3_keep 50 = .ok (.getfield 40, 3) := by decide +kernel
theorem dX3_keep_53 : decode cX3_keep 53 = .ok (.iload_n 1, 1) := by decide +kernel
theorem dX3_keep_54 : decode cX3_keep 54 = .ok (.aload_n 0, 1) := by decide +kernel
theorem dX3_keep_55 : decode cX3_keep 55 = .ok (.getfield 24, 3) := by decide +kernel
theorem dX3_keep_58 : decode cX3_keep 58 = .ok (.getfield 188, 3) := by decide +kernel
theorem dX3_keep_61 : decode cX3_keep 61 = .ok (.iastore, 1) := by decide +kernel
theorem dX3_keep_62 : decode cX3_keep 62 = .ok (.aload_n 0, 1) := by decide +kernel
theorem dX3_keep_63 : decode cX3_keep 63 = .ok (.getfield 24, 3) := by decide +kernel
theorem dX3_keep_66 : decode cX3_keep 66 = .ok (.getfield 188, 3) := by decide +kernel
theorem dX3_keep_69 : decode cX3_keep 69 = .ok (.ireturn, 1) := by decide +kernel
theorem dX3_on_0 : decode cX3_on 0 = .ok (.iload_n 1, 1) := by decide +kernel
theorem dX3_on_1 : decode cX3_on 1 = .ok (.ifCond .lt 8, 3) := by decide +kernel
theorem dX3_on_4 : decode cX3_on 4 = .ok (.iload_n 1, 1) := by decide +kernel
theorem dX3_on_5 : decode cX3_on 5 = .ok (.iconst 3, 1) := by decide +kernel
theorem dX3_on_6 : decode cX3_on 6 = .ok (.if_icmp .lt 5, 3) := by decide +kernel
theorem dX3_on_9 : decode cX3_on 9 = .ok (.iconst (-1), 1) := by decide +kernel
theorem dX3_on_10 : decode cX3_on 10 = .ok (.ireturn, 1) := by decide +kernel
theorem dX3_on_11 : decode cX3_on 11 = .ok (.aload_n 0, 1) := by decide +kernel
theorem dX3_on_12 : decode cX3_on 12 = .ok (.getfield 40, 3) := by decide +kernel
theorem dX3_on_15 : decode cX3_on 15 = .ok (.iload_n 1, 1) := by decide +kernel
theorem dX3_on_16 : decode cX3_on 16 = .ok (.iaload, 1) := by decide +kernel
theorem dX3_on_17 : decode cX3_on 17 = .ok (.ifCond .ge 9, 3) := by decide +kernel
theorem dX3_on_20 : decode cX3_on 20 = .ok (.aload_n 0, 1) := by decide +kernel
theorem dX3_on_21 : decode cX3_on 21 = .ok (.iconst 1, 1) := by decide +kernel
theorem dX3_on_22 : decode cX3_on 22 = .ok (.invokevirtual 99, 3) := by decide +kernel
theorem dX3_on_25 : decode cX3_on 25 = .ok (.ireturn, 1) := by decide +kernel
theorem dX3_on_26 : decode cX3_on 26 = .ok (.aload_n 0, 1) := by decide +kernel
theorem dX3_on_27 : decode cX3_on 27 = .ok (.getfield 24, 3) := by decide +kernel
theorem dX3_on_30 : decode cX3_on 30 = .ok (.aload_n 0, 1) := by decide +kernel
theorem dX3_on_31 : decode cX3_on 31 = .ok (.getfield 37, 3) := by decide +kernel
theorem dX3_on_34 : decode cX3_on 34 = .ok (.iload_n 1, 1) := by decide +kernel
theorem dX3_on_35 : decode cX3_on 35 = .ok (.aaload, 1) := by decide +kernel
theorem dX3_on_36 : decode cX3_on 36 = .ok (.aload_n 0, 1) := by decide +kernel
theorem dX3_on_37 : decode cX3_on 37 = .ok (.getfield 40, 3) := by decide +kernel
theorem dX3_on_40 : decode cX3_on 40 = .ok (.iload_n 1, 1) := by decide +kernel
theorem dX3_on_41 : decode cX3_on 41 = .ok (.iaload, 1) := by decide +kernel
theorem dX3_on_42 : decode cX3_on 42 = .ok (.invokevirtual 194, 3) := by decide +kernel
theorem dX3_on_45 : decode cX3_on 45 = .ok (.aload_n 0, 1) := by decide +kernel
theorem dX3_on_46 : decode cX3_on 46 = .ok (.getfield 24, 3) := by decide +kernel
theorem dX3_on_49 : decode cX3_on 49 = .ok (.getfield 188, 3) := by decide +kernel
theorem dX3_on_52 : decode cX3_on 52 = .ok (.ireturn, 1) := by decide +kernel
theorem dX3_open_0 : decode cX3_open 0 = .ok (.iconst 1, 1) := by decide +kernel
theorem dX3_open_1 : decode cX3_open 1 = .ok (.aload_n 0, 1) := by decide +kernel
theorem dX3_open_2 : decode cX3_open 2 = .ok (.getfield 24, 3) := by decide +kernel
theorem dX3_open_5 : decode cX3_open 5 = .ok (.getfield 126, 3) := by decide +kernel
theorem dX3_open_8 : decode cX3_open 8 = .ok (.ishl, 1) := by decide +kernel
theorem dX3_open_9 : decode cX3_open 9 = .ok (.iconst 1, 1) := by decide +kernel
theorem dX3_open_10 : decode cX3_open 10 = .ok (.isub, 1) := by decide +kernel
theorem dX3_open_11 : decode cX3_open 11 = .ok (.istore_n 1, 1) := by decide +kernel
theorem dX3_open_12 : decode cX3_open 12 = .ok (.aload_n 0, 1) := by decide +kernel
theorem dX3_open_13 : decode cX3_open 13 = .ok (.aload_n 0, 1) := by decide +kernel
theorem dX3_open_14 : decode cX3_open 14 = .ok (.getfield 24, 3) := by decide +kernel
theorem dX3_open_17 : decode cX3_open 17 = .ok (.getfield 197, 3) := by decide +kernel
theorem dX3_open_20 : decode cX3_open 20 = .ok (.bipush (-9), 2) := by decide +kernel
theorem dX3_open_22 : decode cX3_open 22 = .ok (.if_icmp .ne 7, 3) := by decide +kernel
theorem dX3_open_25 : decode cX3_open 25 = .ok (.iload_n 1, 1) := by decide +kernel
theorem dX3_open_26 : decode cX3_open 26 = .ok (.goto 17, 3) := by decide +kernel
theorem dX3_open_29 : decode cX3_open 29 = .ok (.aload_n 0, 1) := by decide +kernel
theorem dX3_open_30 : decode cX3_open 30 = .ok (.getfield 24, 3) := by decide +kernel
theorem dX3_open_33 : decode cX3_open 33 = .ok (.aload_n 0, 1) := by decide +kernel
theorem dX3_open_34 : decode cX3_open 34 = .ok (.getfield 24, 3) := by decide +kernel
theorem dX3_open_37 : decode cX3_open 37 = .ok (.getfield 197, 3) := by decide +kernel
theorem dX3_open_40 : decode cX3_open 40 = .ok (.invokevirtual 145, 3) := by decide +kernel
theorem dX3_open_43 : decode cX3_open 43 = .ok (.invokestatic 140, 3) := by decide +kernel
theorem dX3_open_46 : decode cX3_open 46 = .ok (.putfield 57, 3) := by decide +kernel
theorem dX3_open_49 : decode cX3_open 49 = .ok (.aload_n 0, 1) := by decide +kernel
theorem dX3_open_50 : decode cX3_open 50 = .ok (.getfield 24, 3) := by decide +kernel
theorem dX3_open_53 : decode cX3_open 53 = .ok (.invokevirtual 200, 3) := by decide +kernel
theorem dX3_open_56 : decode cX3_open 56 = .ok (.ireturn, 1) := by decide +kernel
theorem dX3_most_0 : decode cX3_most 0 = .ok (.aload_n 0, 1) := by decide +kernel
theorem dX3_most_1 : decode cX3_most 1 = .ok (.getfield 14, 3) := by decide +kernel
theorem dX3_most_4 : decode cX3_most 4 = .ok (.iload_n 1, 1) := by decide +kernel
theorem dX3_most_5 : decode cX3_most 5 = .ok (.invokevirtual 95, 3) := by decide +kernel
theorem dX3_most_8 : decode cX3_most 8 = .ok (.ifCond .ne 5, 3) := by decide +kernel
theorem dX3_most_11 : decode cX3_most 11 = .ok (.iconst (-1), 1) := by decide +kernel
theorem dX3_most_12 : decode cX3_most 12 = .ok (.ireturn, 1) := by decide +kernel
theorem dX3_most_13 : decode cX3_most 13 = .ok (.aload_n 0, 1) := by decide +kernel
theorem dX3_most_14 : decode cX3_most 14 = .ok (.getfield 24, 3) := by decide +kernel
theorem dX3_most_17 : decode cX3_most 17 = .ok (.getfield 126, 3) := by decide +kernel
theorem dX3_most_20 : decode cX3_most 20 = .ok (.ifCond .ne 6, 3) := by decide +kernel
theorem dX3_most_23 : decode cX3_most 23 = .ok (.bipush (-4), 2) := by decide +kernel
theorem dX3_most_25 : decode cX3_most 25 = .ok (.ireturn, 1) := by decide +kernel
theorem dX3_most_26 : decode cX3_most 26 = .ok (.aload_n 0, 1) := by decide +kernel
theorem dX3_most_27 : decode cX3_most 27 = .ok (.getfield 31, 3) := by decide +kernel
theorem dX3_most_30 : decode cX3_most 30 = .ok (.aload_n 0, 1) := by decide +kernel
theorem dX3_most_31 : decode cX3_most 31 = .ok (.getfield 24, 3) := by decide +kernel
theorem dX3_most_34 : decode cX3_most 34 = .ok (.aload_n 0, 1) := by decide +kernel
theorem dX3_most_35 : decode cX3_most 35 = .ok (.getfield 24, 3) := by decide +kernel
theorem dX3_most_38 : decode cX3_most 38 = .ok (.getfield 203, 3) := by decide +kernel
theorem dX3_most_41 : decode cX3_most 41 = .ok (.invokevirtual 206, 3) := by decide +kernel
theorem dX3_most_44 : decode cX3_most 44 = .ok (.aload_n 0, 1) := by decide +kernel
theorem dX3_most_45 : decode cX3_most 45 = .ok (.getfield 31, 3) := by decide +kernel
theorem dX3_most_48 : decode cX3_most 48 = .ok (.invokevirtual 210, 3) := by decide +kernel
theorem dX3_most_51 : decode cX3_most 51 = .ok (.aload_n 0, 1) := by decide +kernel
theorem dX3_most_52 : decode cX3_most 52 = .ok (.getfield 31, 3) := by decide +kernel
theorem dX3_most_55 : decode cX3_most 55 = .ok (.getfield 213, 3) := by decide +kernel
theorem dX3_most_58 : decode cX3_most 58 = .ok (.aload_n 0, 1) := by decide +kernel
theorem dX3_most_59 : decode cX3_most 59 = .ok (.getfield 31, 3) := by decide +kernel
theorem dX3_most_62 : decode cX3_most 62 = .ok (.getfield 216, 3) := by decide +kernel
theorem dX3_most_65 : decode cX3_most 65 = .ok (.iaload, 1) := by decide +kernel
theorem dX3_most_66 : decode cX3_most 66 = .ok (.istore_n 2, 1) := by decide +kernel
theorem dX3_most_67 : decode cX3_most 67 = .ok (.aload_n 0, 1) := by decide +kernel
theorem dX3_most_68 : decode cX3_most 68 = .ok (.getfield 14, 3) := by decide +kernel
theorem dX3_most_71 : decode cX3_most 71 = .ok (.iload_n 1, 1) := by decide +kernel
theorem dX3_most_72 : decode cX3_most 72 = .ok (.iload_n 2, 1) := by decide +kernel
theorem dX3_most_73 : decode cX3_most 73 = .ok (.iconst 0, 1) := by decide +kernel
theorem dX3_most_74 : decode cX3_most 74 = .ok (.invokevirtual 218, 3) := by decide +kernel
theorem dX3_most_77 : decode cX3_most 77 = .ok (.aload_n 0, 1) := by decide +kernel
theorem dX3_most_78 : decode cX3_most 78 = .ok (.getfield 31, 3) := by decide +kernel
theorem dX3_most_81 : decode cX3_most 81 = .ok (.aload_n 0, 1) := by decide +kernel
theorem dX3_most_82 : decode cX3_most 82 = .ok (.getfield 14, 3) := by decide +kernel
theorem dX3_most_85 : decode cX3_most 85 = .ok (.getfield 81, 3) := by decide +kernel
theorem dX3_most_88 : decode cX3_most 88 = .ok (.iload_n 1, 1) := by decide +kernel
theorem dX3_most_89 : decode cX3_most 89 = .ok (.aaload, 1) := by decide +kernel
theorem dX3_most_90 : decode cX3_most 90 = .ok (.iload_n 2, 1) := by decide +kernel
theorem dX3_most_91 : decode cX3_most 91 = .ok (.invokevirtual 221, 3) := by decide +kernel
theorem dX3_most_94 : decode cX3_most 94 = .ok (.iload_n 2, 1) := by decide +kernel
theorem dX3_most_95 : decode cX3_most 95 = .ok (.ireturn, 1) := by decide +kernel
theorem dX3_worth_0 : decode cX3_worth 0 = .ok (.aload_n 0, 1) := by decide +kernel
theorem dX3_worth_1 : decode cX3_worth 1 = .ok (.getfield 24, 3) := by decide +kernel
theorem dX3_worth_4 : decode cX3_worth 4 = .ok (.getfield 126, 3) := by decide +kernel
theorem dX3_worth_7 : decode cX3_worth 7 = .ok (.ifCond .ne 6, 3) := by decide +kernel
theorem dX3_worth_10 : decode cX3_worth 10 = .ok (.bipush (-4), 2) := by decide +kernel
theorem dX3_worth_12 : decode cX3_worth 12 = .ok (.ireturn, 1) := by decide +kernel
theorem dX3_worth_13 : decode cX3_worth 13 = .ok (.aload_n 0, 1) := by decide +kernel
theorem dX3_worth_14 : decode cX3_worth 14 = .ok (.getfield 31, 3) := by decide +kernel
theorem dX3_worth_17 : decode cX3_worth 17 = .ok (.aload_n 0, 1) := by decide +kernel
theorem dX3_worth_18 : decode cX3_worth 18 = .ok (.getfield 24, 3) := by decide +kernel
theorem dX3_worth_21 : decode cX3_worth 21 = .ok (.aload_n 0, 1) := by decide +kernel
theorem dX3_worth_22 : decode cX3_worth 22 = .ok (.getfield 24, 3) := by decide +kernel
theorem dX3_worth_25 : decode cX3_worth 25 = .ok (.getfield 203, 3) := by decide +kernel
theorem dX3_worth_28 : decode cX3_worth 28 = .ok (.invokevirtual 206, 3) := by decide +kernel
theorem dX3_worth_31 : decode cX3_worth 31 = .ok (.iconst 0, 1) := by decide +kernel
theorem dX3_worth_32 : decode cX3_worth 32 = .ok (.istore_n 1, 1) := by decide +kernel
theorem dX3_worth_33 : decode cX3_worth 33 = .ok (.iconst 0, 1) := by decide +kernel
theorem dX3_worth_34 : decode cX3_worth 34 = .ok (.istore_n 2, 1) := by decide +kernel
theorem dX3_worth_35 : decode cX3_worth 35 = .ok (.iconst 1, 1) := by decide +kernel
theorem dX3_worth_36 : decode cX3_worth 36 = .ok (.istore_n 3, 1) := by decide +kernel
theorem dX3_worth_37 : decode cX3_worth 37 = .ok (.iload_n 3, 1) := by decide +kernel
theorem dX3_worth_38 : decode cX3_worth 38 = .ok (.aload_n 0, 1) := by decide +kernel
theorem dX3_worth_39 : decode cX3_worth 39 = .ok (.getfield 31, 3) := by decide +kernel
theorem dX3_worth_42 : decode cX3_worth 42 = .ok (.getfield 216, 3) := by decide +kernel
theorem dX3_worth_45 : decode cX3_worth 45 = .ok (.if_icmp .gt 60, 3) := by decide +kernel
theorem dX3_worth_48 : decode cX3_worth 48 = .ok (.aload_n 0, 1) := by decide +kernel
theorem dX3_worth_49 : decode cX3_worth 49 = .ok (.getfield 31, 3) := by decide +kernel
theorem dX3_worth_52 : decode cX3_worth 52 = .ok (.iload_n 3, 1) := by decide +kernel
theorem dX3_worth_53 : decode cX3_worth 53 = .ok (.invokevirtual 224, 3) := by decide +kernel
theorem dX3_worth_56 : decode cX3_worth 56 = .ok (.ifCond .eq 43, 3) := by decide +kernel
theorem dX3_worth_59 : decode cX3_worth 59 = .ok (.aload_n 0, 1) := by decide +kernel
theorem dX3_worth_60 : decode cX3_worth 60 = .ok (.getfield 24, 3) := by decide +kernel
theorem dX3_worth_63 : decode cX3_worth 63 = .ok (.iload_n 3, 1) := by decide +kernel
theorem dX3_worth_64 : decode cX3_worth 64 = .ok (.invokevirtual 227, 3) := by decide +kernel
theorem dX3_worth_67 : decode cX3_worth 67 = .ok (.istore 4, 2) := by decide +kernel
theorem dX3_worth_69 : decode cX3_worth 69 = .ok (.iload_n 3, 1) := by decide +kernel
theorem dX3_worth_70 : decode cX3_worth 70 = .ok (.invokestatic 140, 3) := by decide +kernel
theorem dX3_worth_73 : decode cX3_worth 73 = .ok (.istore 5, 2) := by decide +kernel
theorem dX3_worth_75 : decode cX3_worth 75 = .ok (.iload 4, 2) := by decide +kernel
theorem dX3_worth_77 : decode cX3_worth 77 = .ok (.iload_n 1, 1) := by decide +kernel
theorem dX3_worth_78 : decode cX3_worth 78 = .ok (.if_icmp .gt 15, 3) := by decide +kernel
theorem dX3_worth_81 : decode cX3_worth 81 = .ok (.iload 4, 2) := by decide +kernel
theorem dX3_worth_83 : decode cX3_worth 83 = .ok (.iload_n 1, 1) := by decide +kernel
theorem dX3_worth_84 : decode cX3_worth 84 = .ok (.if_icmp .ne 15, 3) := by decide +kernel
theorem dX3_worth_87 : decode cX3_worth 87 = .ok (.iload 5, 2) := by decide +kernel
theorem dX3_worth_89 : decode cX3_worth 89 = .ok (.iload_n 2, 1) := by decide +kernel
theorem dX3_worth_90 : decode cX3_worth 90 = .ok (.if_icmp .ge 9, 3) := by decide +kernel
theorem dX3_worth_93 : decode cX3_worth 93 = .ok (.iload 4, 2) := by decide +kernel
theorem dX3_worth_95 : decode cX3_worth 95 = .ok (.istore_n 1, 1) := by decide +kernel
theorem dX3_worth_96 : decode cX3_worth 96 = .ok (.iload 5, 2) := by decide +kernel
theorem dX3_worth_98 : decode cX3_worth 98 = .ok (.istore_n 2, 1) := by decide +kernel
theorem dX3_worth_99 : decode cX3_worth 99 = .ok (.iinc 3 1, 3) := by decide +kernel
theorem dX3_worth_102 : decode cX3_worth 102 = .ok (.goto (-65), 3) := by decide +kernel
theorem dX3_worth_105 : decode cX3_worth 105 = .ok (.aload_n 0, 1) := by decide +kernel
theorem dX3_worth_106 : decode cX3_worth 106 = .ok (.iload_n 2, 1) := by decide +kernel
theorem dX3_worth_107 : decode cX3_worth 107 = .ok (.putfield 57, 3) := by decide +kernel
theorem dX3_worth_110 : decode cX3_worth 110 = .ok (.iload_n 1, 1) := by decide +kernel
theorem dX3_worth_111 : decode cX3_worth 111 = .ok (.ireturn, 1) := by decide +kernel
theorem dX3_orders_0 : decode cX3_orders 0 = .ok (.aload_n 0, 1) := by decide +kernel
theorem dX3_orders_1 : decode cX3_orders 1 = .ok (.getfield 24, 3) := by decide +kernel
theorem dX3_orders_4 : decode cX3_orders 4 = .ok (.getfield 126, 3) := by decide +kernel
theorem dX3_orders_7 : decode cX3_orders 7 = .ok (.ifCond .ne 6, 3) := by decide +kernel
theorem dX3_orders_10 : decode cX3_orders 10 = .ok (.bipush (-4), 2) := by decide +kernel
theorem dX3_orders_12 : decode cX3_orders 12 = .ok (.ireturn, 1) := by decide +kernel
theorem dX3_orders_13 : decode cX3_orders 13 = .ok (.aload_n 0, 1) := by decide +kernel
theorem dX3_orders_14 : decode cX3_orders 14 = .ok (.getfield 31, 3) := by decide +kernel
theorem dX3_orders_17 : decode cX3_orders 17 = .ok (.aload_n 0, 1) := by decide +kernel
theorem dX3_orders_18 : decode cX3_orders 18 = .ok (.getfield 24, 3) := by decide +kernel
theorem dX3_orders_21 : decode cX3_orders 21 = .ok (.aload_n 0, 1) := by decide +kernel
theorem dX3_orders_22 : decode cX3_orders 22 = .ok (.getfield 24, 3) := by decide +kernel
theorem dX3_orders_25 : decode cX3_orders 25 = .ok (.getfield 203, 3) := by decide +kernel
theorem dX3_orders_28 : decode cX3_orders 28 = .ok (.invokevirtual 206, 3) := by decide +kernel
theorem dX3_orders_31 : decode cX3_orders 31 = .ok (.aload_n 0, 1) := by decide +kernel
theorem dX3_orders_32 : decode cX3_orders 32 = .ok (.getfield 31, 3) := by decide +kernel
theorem dX3_orders_35 : decode cX3_orders 35 = .ok (.invokevirtual 230, 3) := by decide +kernel
theorem dX3_orders_38 : decode cX3_orders 38 = .ok (.ireturn, 1) := by decide +kernel
theorem dX3_meetings_0 : decode cX3_meetings 0 = .ok (.aload_n 0, 1) := by decide +kernel
theorem dX3_meetings_1 : decode cX3_meetings 1 = .ok (.getfield 24, 3) := by decide +kernel
theorem dX3_meetings_4 : decode cX3_meetings 4 = .ok (.getfield 126, 3) := by decide +kernel
theorem dX3_meetings_7 : decode cX3_meetings 7 = .ok (.ifCond .ne 6, 3) := by decide +kernel
theorem dX3_meetings_10 : decode cX3_meetings 10 = .ok (.bipush (-4), 2) := by decide +kernel
theorem dX3_meetings_12 : decode cX3_meetings 12 = .ok (.ireturn, 1) := by decide +kernel
theorem dX3_meetings_13 : decode cX3_meetings 13 = .ok (.aload_n 0, 1) := by decide +kernel
theorem dX3_meetings_14 : decode cX3_meetings 14 = .ok (.aload_n 0, 1) := by decide +kernel
theorem dX3_meetings_15 : decode cX3_meetings 15 = .ok (.getfield 24, 3) := by decide +kernel
theorem dX3_meetings_18 : decode cX3_meetings 18 = .ok (.getfield 203, 3) := by decide +kernel
theorem dX3_meetings_21 : decode cX3_meetings 21 = .ok (.invokevirtual 233, 3) := by decide +kernel
theorem dX3_meetings_24 : decode cX3_meetings 24 = .ok (.ifCond .eq 10, 3) := by decide +kernel
theorem dX3_meetings_27 : decode cX3_meetings 27 = .ok (.aload_n 0, 1) := by decide +kernel
theorem dX3_meetings_28 : decode cX3_meetings 28 = .ok (.iconst 0, 1) := by decide +kernel
theorem dX3_meetings_29 : decode cX3_meetings 29 = .ok (.putfield 57, 3) := by decide +kernel
theorem dX3_meetings_32 : decode cX3_meetings 32 = .ok (.iconst 0, 1) := by decide +kernel
theorem dX3_meetings_33 : decode cX3_meetings 33 = .ok (.ireturn, 1) := by decide +kernel
theorem dX3_meetings_34 : decode cX3_meetings 34 = .ok (.aload_n 0, 1) := by decide +kernel
theorem dX3_meetings_35 : decode cX3_meetings 35 = .ok (.aload_n 0, 1) := by decide +kernel
theorem dX3_meetings_36 : decode cX3_meetings 36 = .ok (.getfield 24, 3) := by decide +kernel
theorem dX3_meetings_39 : decode cX3_meetings 39 = .ok (.getfield 203, 3) := by decide +kernel
theorem dX3_meetings_42 : decode cX3_meetings 42 = .ok (.aload_n 0, 1) := by decide +kernel
theorem dX3_meetings_43 : decode cX3_meetings 43 = .ok (.getfield 44, 3) := by decide +kernel
theorem dX3_meetings_46 : decode cX3_meetings 46 = .ok (.invokevirtual 237, 3) := by decide +kernel
theorem dX3_meetings_49 : decode cX3_meetings 49 = .ok (.istore_n 1, 1) := by decide +kernel
theorem dX3_meetings_50 : decode cX3_meetings 50 = .ok (.iload_n 1, 1) := by decide +kernel
theorem dX3_meetings_51 : decode cX3_meetings 51 = .ok (.bipush (-9), 2) := by decide +kernel
theorem dX3_meetings_53 : decode cX3_meetings 53 = .ok (.if_icmp .eq 10, 3) := by decide +kernel
theorem dX3_meetings_56 : decode cX3_meetings 56 = .ok (.aload_n 0, 1) := by decide +kernel
theorem dX3_meetings_57 : decode cX3_meetings 57 = .ok (.iload_n 1, 1) := by decide +kernel
theorem dX3_meetings_58 : decode cX3_meetings 58 = .ok (.putfield 57, 3) := by decide +kernel
theorem dX3_meetings_61 : decode cX3_meetings 61 = .ok (.iconst 1, 1) := by decide +kernel
theorem dX3_meetings_62 : decode cX3_meetings 62 = .ok (.ireturn, 1) := by decide +kernel
theorem dX3_meetings_63 : decode cX3_meetings 63 = .ok (.aload_n 0, 1) := by decide +kernel
theorem dX3_meetings_64 : decode cX3_meetings 64 = .ok (.invokevirtual 241, 3) := by decide +kernel
theorem dX3_meetings_67 : decode cX3_meetings 67 = .ok (.istore_n 2, 1) := by decide +kernel
theorem dX3_meetings_68 : decode cX3_meetings 68 = .ok (.iload_n 2, 1) := by decide +kernel
theorem dX3_meetings_69 : decode cX3_meetings 69 = .ok (.bipush (-9), 2) := by decide +kernel
theorem dX3_meetings_71 : decode cX3_meetings 71 = .ok (.if_icmp .ne 6, 3) := by decide +kernel
theorem dX3_meetings_74 : decode cX3_meetings 74 = .ok (.bipush (-9), 2) := by decide +kernel
theorem dX3_meetings_76 : decode cX3_meetings 76 = .ok (.ireturn, 1) := by decide +kernel
theorem dX3_meetings_77 : decode cX3_meetings 77 = .ok (.aload_n 0, 1) := by decide +kernel
theorem dX3_meetings_78 : decode cX3_meetings 78 = .ok (.iload_n 2, 1) := by decide +kernel
theorem dX3_meetings_79 : decode cX3_meetings 79 = .ok (.putfield 57, 3) := by decide +kernel
theorem dX3_meetings_82 : decode cX3_meetings 82 = .ok (.iconst 2, 1) := by decide +kernel
theorem dX3_meetings_83 : decode cX3_meetings 83 = .ok (.ireturn, 1) := by decide +kernel
theorem dX3_stone_0 : decode cX3_stone 0 = .ok (.aload_n 0, 1) := by decide +kernel
theorem dX3_stone_1 : decode cX3_stone 1 = .ok (.getfield 24, 3) := by decide +kernel
theorem dX3_stone_4 : decode cX3_stone 4 = .ok (.getfield 126, 3) := by decide +kernel
theorem dX3_stone_7 : decode cX3_stone 7 = .ok (.ifCond .ne 6, 3) := by decide +kernel
theorem dX3_stone_10 : decode cX3_stone 10 = .ok (.bipush (-4), 2) := by decide +kernel
theorem dX3_stone_12 : decode cX3_stone 12 = .ok (.ireturn, 1) := by decide +kernel
theorem dX3_stone_13 : decode cX3_stone 13 = .ok (.bipush (-9), 2) := by decide +kernel
theorem dX3_stone_15 : decode cX3_stone 15 = .ok (.istore_n 1, 1) := by decide +kernel
theorem dX3_stone_16 : decode cX3_stone 16 = .ok (.iconst (-1), 1) := by decide +kernel
theorem dX3_stone_17 : decode cX3_stone 17 = .ok (.istore_n 2, 1) := by decide +kernel
theorem dX3_stone_18 : decode cX3_stone 18 = .ok (.iconst 0, 1) := by decide +kernel
theorem dX3_stone_19 : decode cX3_stone 19 = .ok (.istore_n 3, 1) := by decide +kernel
theorem dX3_stone_20 : decode cX3_stone 20 = .ok (.iload_n 3, 1) := by decide +kernel
theorem dX3_stone_21 : decode cX3_stone 21 = .ok (.aload_n 0, 1) := by decide +kernel
theorem dX3_stone_22 : decode cX3_stone 22 = .ok (.getfield 24, 3) := by decide +kernel
theorem dX3_stone_25 : decode cX3_stone 25 = .ok (.getfield 126, 3) := by decide +kernel
theorem dX3_stone_28 : decode cX3_stone 28 = .ok (.if_icmp .ge 38, 3) := by decide +kernel
theorem dX3_stone_31 : decode cX3_stone 31 = .ok (.aload_n 0, 1) := by decide +kernel
theorem dX3_stone_32 : decode cX3_stone 32 = .ok (.getfield 24, 3) := by decide +kernel
theorem dX3_stone_35 : decode cX3_stone 35 = .ok (.iload_n 3, 1) := by decide +kernel
theorem dX3_stone_36 : decode cX3_stone 36 = .ok (.invokevirtual 244, 3) := by decide +kernel
theorem dX3_stone_39 : decode cX3_stone 39 = .ok (.ifCond .eq 21, 3) := by decide +kernel
theorem dX3_stone_42 : decode cX3_stone 42 = .ok (.aload_n 0, 1) := by decide +kernel
theorem dX3_stone_43 : decode cX3_stone 43 = .ok (.iload_n 3, 1) := by decide +kernel
theorem dX3_stone_44 : decode cX3_stone 44 = .ok (.invokevirtual 247, 3) := by decide +kernel
theorem dX3_stone_47 : decode cX3_stone 47 = .ok (.istore 4, 2) := by decide +kernel
theorem dX3_stone_49 : decode cX3_stone 49 = .ok (.iload 4, 2) := by decide +kernel
theorem dX3_stone_51 : decode cX3_stone 51 = .ok (.iload_n 2, 1) := by decide +kernel
theorem dX3_stone_52 : decode cX3_stone 52 = .ok (.if_icmp .le 8, 3) := by decide +kernel
theorem dX3_stone_55 : decode cX3_stone 55 = .ok (.iload_n 3, 1) := by decide +kernel
theorem dX3_stone_56 : decode cX3_stone 56 = .ok (.istore_n 1, 1) := by decide +kernel
theorem dX3_stone_57 : decode cX3_stone 57 = .ok (.iload 4, 2) := by decide +kernel
theorem dX3_stone_59 : decode cX3_stone 59 = .ok (.istore_n 2, 1) := by decide +kernel
theorem dX3_stone_60 : decode cX3_stone 60 = .ok (.iinc 3 1, 3) := by decide +kernel
theorem dX3_stone_63 : decode cX3_stone 63 = .ok (.goto (-43), 3) := by decide +kernel
theorem dX3_stone_66 : decode cX3_stone 66 = .ok (.iload_n 1, 1) := by decide +kernel
theorem dX3_stone_67 : decode cX3_stone 67 = .ok (.bipush (-9), 2) := by decide +kernel
theorem dX3_stone_69 : decode cX3_stone 69 = .ok (.if_icmp .ne 8, 3) := by decide +kernel
theorem dX3_stone_72 : decode cX3_stone 72 = .ok (.bipush (-9), 2) := by decide +kernel
theorem dX3_stone_74 : decode cX3_stone 74 = .ok (.goto 9, 3) := by decide +kernel
theorem dX3_stone_77 : decode cX3_stone 77 = .ok (.aload_n 0, 1) := by decide +kernel
theorem dX3_stone_78 : decode cX3_stone 78 = .ok (.iload_n 1, 1) := by decide +kernel
theorem dX3_stone_79 : decode cX3_stone 79 = .ok (.iload_n 2, 1) := by decide +kernel
theorem dX3_stone_80 : decode cX3_stone 80 = .ok (.invokevirtual 250, 3) := by decide +kernel
theorem dX3_stone_83 : decode cX3_stone 83 = .ok (.ireturn, 1) := by decide +kernel
theorem dX3_hold_0 : decode cX3_hold 0 = .ok (.aload_n 0, 1) := by decide +kernel
theorem dX3_hold_1 : decode cX3_hold 1 = .ok (.getfield 24, 3) := by decide +kernel
theorem dX3_hold_4 : decode cX3_hold 4 = .ok (.getfield 126, 3) := by decide +kernel
theorem dX3_hold_7 : decode cX3_hold 7 = .ok (.ifCond .ne 6, 3) := by decide +kernel
theorem dX3_hold_10 : decode cX3_hold 10 = .ok (.bipush (-4), 2) := by decide +kernel
theorem dX3_hold_12 : decode cX3_hold 12 = .ok (.ireturn, 1) := by decide +kernel
theorem dX3_hold_13 : decode cX3_hold 13 = .ok (.aload_n 0, 1) := by decide +kernel
theorem dX3_hold_14 : decode cX3_hold 14 = .ok (.getfield 31, 3) := by decide +kernel
theorem dX3_hold_17 : decode cX3_hold 17 = .ok (.aload_n 0, 1) := by decide +kernel
theorem dX3_hold_18 : decode cX3_hold 18 = .ok (.getfield 24, 3) := by decide +kernel
theorem dX3_hold_21 : decode cX3_hold 21 = .ok (.aload_n 0, 1) := by decide +kernel
theorem dX3_hold_22 : decode cX3_hold 22 = .ok (.getfield 24, 3) := by decide +kernel
theorem dX3_hold_25 : decode cX3_hold 25 = .ok (.getfield 203, 3) := by decide +kernel
theorem dX3_hold_28 : decode cX3_hold 28 = .ok (.invokevirtual 206, 3) := by decide +kernel
theorem dX3_hold_31 : decode cX3_hold 31 = .ok (.aload_n 0, 1) := by decide +kernel
theorem dX3_hold_32 : decode cX3_hold 32 = .ok (.getfield 31, 3) := by decide +kernel
theorem dX3_hold_35 : decode cX3_hold 35 = .ok (.invokevirtual 210, 3) := by decide +kernel
theorem dX3_hold_38 : decode cX3_hold 38 = .ok (.bipush (-9), 2) := by decide +kernel
theorem dX3_hold_40 : decode cX3_hold 40 = .ok (.istore_n 1, 1) := by decide +kernel
theorem dX3_hold_41 : decode cX3_hold 41 = .ok (.bipush 8, 2) := by decide +kernel
theorem dX3_hold_43 : decode cX3_hold 43 = .ok (.istore_n 2, 1) := by decide +kernel
theorem dX3_hold_44 : decode cX3_hold 44 = .ok (.iconst 0, 1) := by decide +kernel
theorem dX3_hold_45 : decode cX3_hold 45 = .ok (.istore_n 3, 1) := by decide +kernel
theorem dX3_hold_46 : decode cX3_hold 46 = .ok (.iload_n 3, 1) := by decide +kernel
theorem dX3_hold_47 : decode cX3_hold 47 = .ok (.aload_n 0, 1) := by decide +kernel
theorem dX3_hold_48 : decode cX3_hold 48 = .ok (.getfield 24, 3) := by decide +kernel
theorem dX3_hold_51 : decode cX3_hold 51 = .ok (.getfield 126, 3) := by decide +kernel
theorem dX3_hold_54 : decode cX3_hold 54 = .ok (.if_icmp .ge 54, 3) := by decide +kernel
theorem dX3_hold_57 : decode cX3_hold 57 = .ok (.aload_n 0, 1) := by decide +kernel
theorem dX3_hold_58 : decode cX3_hold 58 = .ok (.getfield 24, 3) := by decide +kernel
theorem dX3_hold_61 : decode cX3_hold 61 = .ok (.iload_n 3, 1) := by decide +kernel
theorem dX3_hold_62 : decode cX3_hold 62 = .ok (.invokevirtual 244, 3) := by decide +kernel
theorem dX3_hold_65 : decode cX3_hold 65 = .ok (.ifCond .eq 37, 3) := by decide +kernel
theorem dX3_hold_68 : decode cX3_hold 68 = .ok (.aload_n 0, 1) := by decide +kernel
theorem dX3_hold_69 : decode cX3_hold 69 = .ok (.getfield 31, 3) := by decide +kernel
theorem dX3_hold_72 : decode cX3_hold 72 = .ok (.getfield 213, 3) := by decide +kernel
theorem dX3_hold_75 : decode cX3_hold 75 = .ok (.aload_n 0, 1) := by decide +kernel
theorem dX3_hold_76 : decode cX3_hold 76 = .ok (.getfield 31, 3) := by decide +kernel
theorem dX3_hold_79 : decode cX3_hold 79 = .ok (.getfield 216, 3) := by decide +kernel
theorem dX3_hold_82 : decode cX3_hold 82 = .ok (.iconst 1, 1) := by decide +kernel
theorem dX3_hold_83 : decode cX3_hold 83 = .ok (.iload_n 3, 1) := by decide +kernel
theorem dX3_hold_84 : decode cX3_hold 84 = .ok (.ishl, 1) := by decide +kernel
theorem dX3_hold_85 : decode cX3_hold 85 = .ok (.iconst (-1), 1) := by decide +kernel
theorem dX3_hold_86 : decode cX3_hold 86 = .ok (.ixor, 1) := by decide +kernel
theorem dX3_hold_87 : decode cX3_hold 87 = .ok (.iand, 1) := by decide +kernel
theorem dX3_hold_88 : decode cX3_hold 88 = .ok (.iaload, 1) := by decide +kernel
theorem dX3_hold_89 : decode cX3_hold 89 = .ok (.istore 4, 2) := by decide +kernel
theorem dX3_hold_91 : decode cX3_hold 91 = .ok (.iload 4, 2) := by decide +kernel
theorem dX3_hold_93 : decode cX3_hold 93 = .ok (.iload_n 2, 1) := by decide +kernel
theorem dX3_hold_94 : decode cX3_hold 94 = .ok (.if_icmp .ge 8, 3) := by decide +kernel
theorem dX3_hold_97 : decode cX3_hold 97 = .ok (.iload_n 3, 1) := by decide +kernel
theorem dX3_hold_98 : decode cX3_hold 98 = .ok (.istore_n 1, 1) := by decide +kernel
theorem dX3_hold_99 : decode cX3_hold 99 = .ok (.iload 4, 2) := by decide +kernel
theorem dX3_hold_101 : decode cX3_hold 101 = .ok (.istore_n 2, 1) := by decide +kernel
theorem dX3_hold_102 : decode cX3_hold 102 = .ok (.iinc 3 1, 3) := by decide +kernel
theorem dX3_hold_105 : decode cX3_hold 105 = .ok (.goto (-59), 3) := by decide +kernel
theorem dX3_hold_108 : decode cX3_hold 108 = .ok (.iload_n 1, 1) := by decide +kernel
theorem dX3_hold_109 : decode cX3_hold 109 = .ok (.bipush (-9), 2) := by decide +kernel
theorem dX3_hold_111 : decode cX3_hold 111 = .ok (.if_icmp .ne 8, 3) := by decide +kernel
theorem dX3_hold_114 : decode cX3_hold 114 = .ok (.bipush (-9), 2) := by decide +kernel
theorem dX3_hold_116 : decode cX3_hold 116 = .ok (.goto 9, 3) := by decide +kernel
theorem dX3_hold_119 : decode cX3_hold 119 = .ok (.aload_n 0, 1) := by decide +kernel
theorem dX3_hold_120 : decode cX3_hold 120 = .ok (.iload_n 1, 1) := by decide +kernel
theorem dX3_hold_121 : decode cX3_hold 121 = .ok (.iload_n 2, 1) := by decide +kernel
theorem dX3_hold_122 : decode cX3_hold 122 = .ok (.invokevirtual 250, 3) := by decide +kernel
theorem dX3_hold_125 : decode cX3_hold 125 = .ok (.ireturn, 1) := by decide +kernel
theorem dX3_last_0 : decode cX3_last 0 = .ok (.aload_n 0, 1) := by decide +kernel
theorem dX3_last_1 : decode cX3_last 1 = .ok (.getfield 24, 3) := by decide +kernel
theorem dX3_last_4 : decode cX3_last 4 = .ok (.iload_n 1, 1) := by decide +kernel
theorem dX3_last_5 : decode cX3_last 5 = .ok (.invokevirtual 155, 3) := by decide +kernel
theorem dX3_last_8 : decode cX3_last 8 = .ok (.ifCond .ne 5, 3) := by decide +kernel
theorem dX3_last_11 : decode cX3_last 11 = .ok (.iconst (-1), 1) := by decide +kernel
theorem dX3_last_12 : decode cX3_last 12 = .ok (.ireturn, 1) := by decide +kernel
theorem dX3_last_13 : decode cX3_last 13 = .ok (.aload_n 0, 1) := by decide +kernel
theorem dX3_last_14 : decode cX3_last 14 = .ok (.getfield 24, 3) := by decide +kernel
theorem dX3_last_17 : decode cX3_last 17 = .ok (.getfield 126, 3) := by decide +kernel
theorem dX3_last_20 : decode cX3_last 20 = .ok (.ifCond .ne 6, 3) := by decide +kernel
theorem dX3_last_23 : decode cX3_last 23 = .ok (.bipush (-4), 2) := by decide +kernel
theorem dX3_last_25 : decode cX3_last 25 = .ok (.ireturn, 1) := by decide +kernel
theorem dX3_last_26 : decode cX3_last 26 = .ok (.iconst 0, 1) := by decide +kernel
theorem dX3_last_27 : decode cX3_last 27 = .ok (.istore_n 2, 1) := by decide +kernel
theorem dX3_last_28 : decode cX3_last 28 = .ok (.iconst 0, 1) := by decide +kernel
theorem dX3_last_29 : decode cX3_last 29 = .ok (.istore_n 3, 1) := by decide +kernel
theorem dX3_last_30 : decode cX3_last 30 = .ok (.iload_n 3, 1) := by decide +kernel
theorem dX3_last_31 : decode cX3_last 31 = .ok (.aload_n 0, 1) := by decide +kernel
theorem dX3_last_32 : decode cX3_last 32 = .ok (.getfield 24, 3) := by decide +kernel
theorem dX3_last_35 : decode cX3_last 35 = .ok (.getfield 126, 3) := by decide +kernel
theorem dX3_last_38 : decode cX3_last 38 = .ok (.if_icmp .ge 41, 3) := by decide +kernel
theorem dX3_last_41 : decode cX3_last 41 = .ok (.aload_n 0, 1) := by decide +kernel
theorem dX3_last_42 : decode cX3_last 42 = .ok (.getfield 24, 3) := by decide +kernel
theorem dX3_last_45 : decode cX3_last 45 = .ok (.iload_n 3, 1) := by decide +kernel
theorem dX3_last_46 : decode cX3_last 46 = .ok (.invokevirtual 145, 3) := by decide +kernel
theorem dX3_last_49 : decode cX3_last 49 = .ok (.aload_n 0, 1) := by decide +kernel
theorem dX3_last_50 : decode cX3_last 50 = .ok (.getfield 24, 3) := by decide +kernel
theorem dX3_last_53 : decode cX3_last 53 = .ok (.invokevirtual 151, 3) := by decide +kernel
theorem dX3_last_56 : decode cX3_last 56 = .ok (.iand, 1) := by decide +kernel
theorem dX3_last_57 : decode cX3_last 57 = .ok (.iconst 1, 1) := by decide +kernel
theorem dX3_last_58 : decode cX3_last 58 = .ok (.iload_n 3, 1) := by decide +kernel
theorem dX3_last_59 : decode cX3_last 59 = .ok (.ishl, 1) := by decide +kernel
theorem dX3_last_60 : decode cX3_last 60 = .ok (.iconst (-1), 1) := by decide +kernel
theorem dX3_last_61 : decode cX3_last 61 = .ok (.ixor, 1) := by decide +kernel
theorem dX3_last_62 : decode cX3_last 62 = .ok (.iand, 1) := by decide +kernel
theorem dX3_last_63 : decode cX3_last 63 = .ok (.iload_n 1, 1) := by decide +kernel
theorem dX3_last_64 : decode cX3_last 64 = .ok (.if_icmp .ne 9, 3) := by decide +kernel
theorem dX3_last_67 : decode cX3_last 67 = .ok (.iload_n 2, 1) := by decide +kernel
theorem dX3_last_68 : decode cX3_last 68 = .ok (.iconst 1, 1) := by decide +kernel
theorem dX3_last_69 : decode cX3_last 69 = .ok (.iload_n 3, 1) := by decide +kernel
theorem dX3_last_70 : decode cX3_last 70 = .ok (.ishl, 1) := by decide +kernel
theorem dX3_last_71 : decode cX3_last 71 = .ok (.ior, 1) := by decide +kernel
theorem dX3_last_72 : decode cX3_last 72 = .ok (.istore_n 2, 1) := by decide +kernel
theorem dX3_last_73 : decode cX3_last 73 = .ok (.iinc 3 1, 3) := by decide +kernel
theorem dX3_last_76 : decode cX3_last 76 = .ok (.goto (-46), 3) := by decide +kernel
theorem dX3_last_79 : decode cX3_last 79 = .ok (.iload_n 2, 1) := by decide +kernel
theorem dX3_last_80 : decode cX3_last 80 = .ok (.ireturn, 1) := by decide +kernel
theorem dX3_kinds_0 : decode cX3_kinds 0 = .ok (.aload_n 0, 1) := by decide +kernel
theorem dX3_kinds_1 : decode cX3_kinds 1 = .ok (.iload_n 1, 1) := by decide +kernel
theorem dX3_kinds_2 : decode cX3_kinds 2 = .ok (.iload_n 2, 1) := by decide +kernel
theorem dX3_kinds_3 : decode cX3_kinds 3 = .ok (.invokevirtual 253, 3) := by decide +kernel
theorem dX3_kinds_6 : decode cX3_kinds 6 = .ok (.istore_n 3, 1) := by decide +kernel
theorem dX3_kinds_7 : decode cX3_kinds 7 = .ok (.iload_n 3, 1) := by decide +kernel
theorem dX3_kinds_8 : decode cX3_kinds 8 = .ok (.ifCond .eq 7, 3) := by decide +kernel
theorem dX3_kinds_11 : decode cX3_kinds 11 = .ok (.iload_n 3, 1) := by decide +kernel
theorem dX3_kinds_12 : decode cX3_kinds 12 = .ok (.goto 9, 3) := by decide +kernel
theorem dX3_kinds_15 : decode cX3_kinds 15 = .ok (.aload_n 0, 1) := by decide +kernel
theorem dX3_kinds_16 : decode cX3_kinds 16 = .ok (.iload_n 1, 1) := by decide +kernel
theorem dX3_kinds_17 : decode cX3_kinds 17 = .ok (.iload_n 2, 1) := by decide +kernel
theorem dX3_kinds_18 : decode cX3_kinds 18 = .ok (.invokevirtual 256, 3) := by decide +kernel
theorem dX3_kinds_21 : decode cX3_kinds 21 = .ok (.ireturn, 1) := by decide +kernel
theorem dX3_test_0 : decode cX3_test 0 = .ok (.aload_n 0, 1) := by decide +kernel
theorem dX3_test_1 : decode cX3_test 1 = .ok (.iload_n 1, 1) := by decide +kernel
theorem dX3_test_2 : decode cX3_test 2 = .ok (.iload_n 2, 1) := by decide +kernel
theorem dX3_test_3 : decode cX3_test 3 = .ok (.invokevirtual 253, 3) := by decide +kernel
theorem dX3_test_6 : decode cX3_test 6 = .ok (.istore_n 3, 1) := by decide +kernel
theorem dX3_test_7 : decode cX3_test 7 = .ok (.iload_n 3, 1) := by decide +kernel
theorem dX3_test_8 : decode cX3_test 8 = .ok (.ifCond .eq 5, 3) := by decide +kernel
theorem dX3_test_11 : decode cX3_test 11 = .ok (.iload_n 3, 1) := by decide +kernel
end
section
theorem dX3_test_12 : decode cX3_test 12 = .ok (.ireturn, 1) := by decide +kernel
theorem dX3_test_13 : decode cX3_test 13 = .ok (.aload_n 0, 1) := by decide +kernel
theorem dX3_test_14 : decode cX3_test 14 = .ok (.iload_n 1, 1) := by decide +kernel
theorem dX3_test_15 : decode cX3_test 15 = .ok (.iload_n 2, 1) := by decide +kernel
theorem dX3_test_16 : decode cX3_test 16 = .ok (.invokevirtual 256, 3) := by decide +kernel
theorem dX3_test_19 : decode cX3_test 19 = .ok (.istore 4, 2) := by decide +kernel
theorem dX3_test_21 : decode cX3_test 21 = .ok (.iload 4, 2) := by decide +kernel
theorem dX3_test_23 : decode cX3_test 23 = .ok (.ifCond .ne 6, 3) := by decide +kernel
theorem dX3_test_26 : decode cX3_test 26 = .ok (.bipush (-9), 2) := by decide +kernel
theorem dX3_test_28 : decode cX3_test 28 = .ok (.ireturn, 1) := by decide +kernel
theorem dX3_test_29 : decode cX3_test 29 = .ok (.iconst 0, 1) := by decide +kernel
theorem dX3_test_30 : decode cX3_test 30 = .ok (.istore 5, 2) := by decide +kernel
theorem dX3_test_32 : decode cX3_test 32 = .ok (.bipush 7, 2) := by decide +kernel
theorem dX3_test_34 : decode cX3_test 34 = .ok (.istore 6, 2) := by decide +kernel
theorem dX3_test_36 : decode cX3_test 36 = .ok (.iconst 0, 1) := by decide +kernel
theorem dX3_test_37 : decode cX3_test 37 = .ok (.istore 7, 2) := by decide +kernel
theorem dX3_test_39 : decode cX3_test 39 = .ok (.iload 7, 2) := by decide +kernel
theorem dX3_test_41 : decode cX3_test 41 = .ok (.iconst 1, 1) := by decide +kernel
theorem dX3_test_42 : decode cX3_test 42 = .ok (.aload_n 0, 1) := by decide +kernel
theorem dX3_test_43 : decode cX3_test 43 = .ok (.getfield 24, 3) := by decide +kernel
theorem dX3_test_46 : decode cX3_test 46 = .ok (.getfield 126, 3) := by decide +kernel
theorem dX3_test_49 : decode cX3_test 49 = .ok (.ishl, 1) := by decide +kernel
theorem dX3_test_50 : decode cX3_test 50 = .ok (.if_icmp .ge 34, 3) := by decide +kernel
theorem dX3_test_53 : decode cX3_test 53 = .ok (.iload 4, 2) := by decide +kernel
theorem dX3_test_55 : decode cX3_test 55 = .ok (.iload_n 1, 1) := by decide +kernel
theorem dX3_test_56 : decode cX3_test 56 = .ok (.iload 7, 2) := by decide +kernel
theorem dX3_test_58 : decode cX3_test 58 = .ok (.invokestatic 259, 3) := by decide +kernel
theorem dX3_test_61 : decode cX3_test 61 = .ok (.istore 8, 2) := by decide +kernel
theorem dX3_test_63 : decode cX3_test 63 = .ok (.iload 8, 2) := by decide +kernel
theorem dX3_test_65 : decode cX3_test 65 = .ok (.iload 6, 2) := by decide +kernel
theorem dX3_test_67 : decode cX3_test 67 = .ok (.if_icmp .ge 11, 3) := by decide +kernel
theorem dX3_test_70 : decode cX3_test 70 = .ok (.iload 7, 2) := by decide +kernel
theorem dX3_test_72 : decode cX3_test 72 = .ok (.istore 5, 2) := by decide +kernel
theorem dX3_test_74 : decode cX3_test 74 = .ok (.iload 8, 2) := by decide +kernel
theorem dX3_test_76 : decode cX3_test 76 = .ok (.istore 6, 2) := by decide +kernel
theorem dX3_test_78 : decode cX3_test 78 = .ok (.iinc 7 1, 3) := by decide +kernel
theorem dX3_test_81 : decode cX3_test 81 = .ok (.goto (-42), 3) := by decide +kernel
theorem dX3_test_84 : decode cX3_test 84 = .ok (.aload_n 0, 1) := by decide +kernel
theorem dX3_test_85 : decode cX3_test 85 = .ok (.iload 5, 2) := by decide +kernel
theorem dX3_test_87 : decode cX3_test 87 = .ok (.iload 6, 2) := by decide +kernel
theorem dX3_test_89 : decode cX3_test 89 = .ok (.invokevirtual 250, 3) := by decide +kernel
theorem dX3_test_92 : decode cX3_test 92 = .ok (.ireturn, 1) := by decide +kernel
theorem dX3_duel_0 : decode cX3_duel 0 = .ok (.aload_n 0, 1) := by decide +kernel
theorem dX3_duel_1 : decode cX3_duel 1 = .ok (.getfield 24, 3) := by decide +kernel
theorem dX3_duel_4 : decode cX3_duel 4 = .ok (.getfield 126, 3) := by decide +kernel
theorem dX3_duel_7 : decode cX3_duel 7 = .ok (.ifCond .ne 6, 3) := by decide +kernel
theorem dX3_duel_10 : decode cX3_duel 10 = .ok (.bipush (-4), 2) := by decide +kernel
theorem dX3_duel_12 : decode cX3_duel 12 = .ok (.ireturn, 1) := by decide +kernel
theorem dX3_duel_13 : decode cX3_duel 13 = .ok (.aload_n 0, 1) := by decide +kernel
theorem dX3_duel_14 : decode cX3_duel 14 = .ok (.getfield 31, 3) := by decide +kernel
theorem dX3_duel_17 : decode cX3_duel 17 = .ok (.aload_n 0, 1) := by decide +kernel
theorem dX3_duel_18 : decode cX3_duel 18 = .ok (.getfield 24, 3) := by decide +kernel
theorem dX3_duel_21 : decode cX3_duel 21 = .ok (.aload_n 0, 1) := by decide +kernel
theorem dX3_duel_22 : decode cX3_duel 22 = .ok (.getfield 24, 3) := by decide +kernel
theorem dX3_duel_25 : decode cX3_duel 25 = .ok (.getfield 203, 3) := by decide +kernel
theorem dX3_duel_28 : decode cX3_duel 28 = .ok (.invokevirtual 206, 3) := by decide +kernel
theorem dX3_duel_31 : decode cX3_duel 31 = .ok (.aload_n 0, 1) := by decide +kernel
theorem dX3_duel_32 : decode cX3_duel 32 = .ok (.aload_n 0, 1) := by decide +kernel
theorem dX3_duel_33 : decode cX3_duel 33 = .ok (.getfield 31, 3) := by decide +kernel
theorem dX3_duel_36 : decode cX3_duel 36 = .ok (.invokevirtual 262, 3) := by decide +kernel
theorem dX3_duel_39 : decode cX3_duel 39 = .ok (.putfield 57, 3) := by decide +kernel
theorem dX3_duel_42 : decode cX3_duel 42 = .ok (.aload_n 0, 1) := by decide +kernel
theorem dX3_duel_43 : decode cX3_duel 43 = .ok (.getfield 57, 3) := by decide +kernel
theorem dX3_duel_46 : decode cX3_duel 46 = .ok (.bipush (-9), 2) := by decide +kernel
theorem dX3_duel_48 : decode cX3_duel 48 = .ok (.if_icmp .ne 7, 3) := by decide +kernel
theorem dX3_duel_51 : decode cX3_duel 51 = .ok (.iconst 0, 1) := by decide +kernel
theorem dX3_duel_52 : decode cX3_duel 52 = .ok (.goto 4, 3) := by decide +kernel
theorem dX3_duel_55 : decode cX3_duel 55 = .ok (.iconst 1, 1) := by decide +kernel
theorem dX3_duel_56 : decode cX3_duel 56 = .ok (.ireturn, 1) := by decide +kernel
theorem dX3_odds_0 : decode cX3_odds 0 = .ok (.iload_n 1, 1) := by decide +kernel
theorem dX3_odds_1 : decode cX3_odds 1 = .ok (.ifCond .lt 9, 3) := by decide +kernel
theorem dX3_odds_4 : decode cX3_odds 4 = .ok (.iload_n 1, 1) := by decide +kernel
theorem dX3_odds_5 : decode cX3_odds 5 = .ok (.bipush 12, 2) := by decide +kernel
theorem dX3_odds_7 : decode cX3_odds 7 = .ok (.if_icmp .le 5, 3) := by decide +kernel
theorem dX3_odds_10 : decode cX3_odds 10 = .ok (.iconst (-1), 1) := by decide +kernel
theorem dX3_odds_11 : decode cX3_odds 11 = .ok (.ireturn, 1) := by decide +kernel
theorem dX3_odds_12 : decode cX3_odds 12 = .ok (.aload_n 0, 1) := by decide +kernel
theorem dX3_odds_13 : decode cX3_odds 13 = .ok (.getfield 24, 3) := by decide +kernel
theorem dX3_odds_16 : decode cX3_odds 16 = .ok (.getfield 126, 3) := by decide +kernel
theorem dX3_odds_19 : decode cX3_odds 19 = .ok (.ifCond .ne 6, 3) := by decide +kernel
theorem dX3_odds_22 : decode cX3_odds 22 = .ok (.bipush (-4), 2) := by decide +kernel
theorem dX3_odds_24 : decode cX3_odds 24 = .ok (.ireturn, 1) := by decide +kernel
theorem dX3_odds_25 : decode cX3_odds 25 = .ok (.aload_n 0, 1) := by decide +kernel
theorem dX3_odds_26 : decode cX3_odds 26 = .ok (.getfield 31, 3) := by decide +kernel
theorem dX3_odds_29 : decode cX3_odds 29 = .ok (.aload_n 0, 1) := by decide +kernel
theorem dX3_odds_30 : decode cX3_odds 30 = .ok (.getfield 24, 3) := by decide +kernel
theorem dX3_odds_33 : decode cX3_odds 33 = .ok (.aload_n 0, 1) := by decide +kernel
theorem dX3_odds_34 : decode cX3_odds 34 = .ok (.getfield 24, 3) := by decide +kernel
theorem dX3_odds_37 : decode cX3_odds 37 = .ok (.getfield 203, 3) := by decide +kernel
theorem dX3_odds_40 : decode cX3_odds 40 = .ok (.invokevirtual 206, 3) := by decide +kernel
theorem dX3_odds_43 : decode cX3_odds 43 = .ok (.lconst 0, 1) := by decide +kernel
theorem dX3_odds_44 : decode cX3_odds 44 = .ok (.lstore_n 2, 1) := by decide +kernel
theorem dX3_odds_45 : decode cX3_odds 45 = .ok (.iconst 0, 1) := by decide +kernel
theorem dX3_odds_46 : decode cX3_odds 46 = .ok (.istore 4, 2) := by decide +kernel
theorem dX3_odds_48 : decode cX3_odds 48 = .ok (.iload 4, 2) := by decide +kernel
theorem dX3_odds_50 : decode cX3_odds 50 = .ok (.aload_n 0, 1) := by decide +kernel
theorem dX3_odds_51 : decode cX3_odds 51 = .ok (.getfield 31, 3) := by decide +kernel
theorem dX3_odds_54 : decode cX3_odds 54 = .ok (.getfield 216, 3) := by decide +kernel
theorem dX3_odds_57 : decode cX3_odds 57 = .ok (.if_icmp .gt 31, 3) := by decide +kernel
theorem dX3_odds_60 : decode cX3_odds 60 = .ok (.aload_n 0, 1) := by decide +kernel
theorem dX3_odds_61 : decode cX3_odds 61 = .ok (.getfield 31, 3) := by decide +kernel
theorem dX3_odds_64 : decode cX3_odds 64 = .ok (.iload 4, 2) := by decide +kernel
theorem dX3_odds_66 : decode cX3_odds 66 = .ok (.invokevirtual 224, 3) := by decide +kernel
theorem dX3_odds_69 : decode cX3_odds 69 = .ok (.ifCond .eq 13, 3) := by decide +kernel
theorem dX3_odds_72 : decode cX3_odds 72 = .ok (.lload_n 2, 1) := by decide +kernel
theorem dX3_odds_73 : decode cX3_odds 73 = .ok (.aload_n 0, 1) := by decide +kernel
theorem dX3_odds_74 : decode cX3_odds 74 = .ok (.iload 4, 2) := by decide +kernel
theorem dX3_odds_76 : decode cX3_odds 76 = .ok (.iload_n 1, 1) := by decide +kernel
theorem dX3_odds_77 : decode cX3_odds 77 = .ok (.invokevirtual 265, 3) := by decide +kernel
theorem dX3_odds_80 : decode cX3_odds 80 = .ok (.ladd, 1) := by decide +kernel
theorem dX3_odds_81 : decode cX3_odds 81 = .ok (.lstore_n 2, 1) := by decide +kernel
theorem dX3_odds_82 : decode cX3_odds 82 = .ok (.iinc 4 1, 3) := by decide +kernel
theorem dX3_odds_85 : decode cX3_odds 85 = .ok (.goto (-37), 3) := by decide +kernel
theorem dX3_odds_88 : decode cX3_odds 88 = .ok (.aload_n 0, 1) := by decide +kernel
theorem dX3_odds_89 : decode cX3_odds 89 = .ok (.lload_n 2, 1) := by decide +kernel
theorem dX3_odds_90 : decode cX3_odds 90 = .ok (.invokevirtual 269, 3) := by decide +kernel
theorem dX3_odds_93 : decode cX3_odds 93 = .ok (.ireturn, 1) := by decide +kernel
theorem dX3_mid_0 : decode cX3_mid 0 = .ok (.iload_n 1, 1) := by decide +kernel
theorem dX3_mid_1 : decode cX3_mid 1 = .ok (.ifCond .lt 9, 3) := by decide +kernel
theorem dX3_mid_4 : decode cX3_mid 4 = .ok (.iload_n 1, 1) := by decide +kernel
theorem dX3_mid_5 : decode cX3_mid 5 = .ok (.bipush 12, 2) := by decide +kernel
theorem dX3_mid_7 : decode cX3_mid 7 = .ok (.if_icmp .le 5, 3) := by decide +kernel
theorem dX3_mid_10 : decode cX3_mid 10 = .ok (.iconst (-1), 1) := by decide +kernel
theorem dX3_mid_11 : decode cX3_mid 11 = .ok (.ireturn, 1) := by decide +kernel
theorem dX3_mid_12 : decode cX3_mid 12 = .ok (.aload_n 0, 1) := by decide +kernel
theorem dX3_mid_13 : decode cX3_mid 13 = .ok (.getfield 24, 3) := by decide +kernel
theorem dX3_mid_16 : decode cX3_mid 16 = .ok (.getfield 126, 3) := by decide +kernel
theorem dX3_mid_19 : decode cX3_mid 19 = .ok (.ifCond .ne 6, 3) := by decide +kernel
theorem dX3_mid_22 : decode cX3_mid 22 = .ok (.bipush (-4), 2) := by decide +kernel
theorem dX3_mid_24 : decode cX3_mid 24 = .ok (.ireturn, 1) := by decide +kernel
theorem dX3_mid_25 : decode cX3_mid 25 = .ok (.aload_n 0, 1) := by decide +kernel
theorem dX3_mid_26 : decode cX3_mid 26 = .ok (.getfield 31, 3) := by decide +kernel
theorem dX3_mid_29 : decode cX3_mid 29 = .ok (.aload_n 0, 1) := by decide +kernel
theorem dX3_mid_30 : decode cX3_mid 30 = .ok (.getfield 24, 3) := by decide +kernel
theorem dX3_mid_33 : decode cX3_mid 33 = .ok (.aload_n 0, 1) := by decide +kernel
theorem dX3_mid_34 : decode cX3_mid 34 = .ok (.getfield 24, 3) := by decide +kernel
theorem dX3_mid_37 : decode cX3_mid 37 = .ok (.getfield 203, 3) := by decide +kernel
theorem dX3_mid_40 : decode cX3_mid 40 = .ok (.invokevirtual 206, 3) := by decide +kernel
theorem dX3_mid_43 : decode cX3_mid 43 = .ok (.aload_n 0, 1) := by decide +kernel
theorem dX3_mid_44 : decode cX3_mid 44 = .ok (.getfield 31, 3) := by decide +kernel
theorem dX3_mid_47 : decode cX3_mid 47 = .ok (.invokevirtual 210, 3) := by decide +kernel
theorem dX3_mid_50 : decode cX3_mid 50 = .ok (.lconst 0, 1) := by decide +kernel
theorem dX3_mid_51 : decode cX3_mid 51 = .ok (.lstore_n 2, 1) := by decide +kernel
theorem dX3_mid_52 : decode cX3_mid 52 = .ok (.iconst 0, 1) := by decide +kernel
theorem dX3_mid_53 : decode cX3_mid 53 = .ok (.istore 4, 2) := by decide +kernel
theorem dX3_mid_55 : decode cX3_mid 55 = .ok (.iload 4, 2) := by decide +kernel
theorem dX3_mid_57 : decode cX3_mid 57 = .ok (.aload_n 0, 1) := by decide +kernel
theorem dX3_mid_58 : decode cX3_mid 58 = .ok (.getfield 31, 3) := by decide +kernel
theorem dX3_mid_61 : decode cX3_mid 61 = .ok (.getfield 216, 3) := by decide +kernel
theorem dX3_mid_64 : decode cX3_mid 64 = .ok (.if_icmp .gt 43, 3) := by decide +kernel
theorem dX3_mid_67 : decode cX3_mid 67 = .ok (.aload_n 0, 1) := by decide +kernel
theorem dX3_mid_68 : decode cX3_mid 68 = .ok (.getfield 31, 3) := by decide +kernel
theorem dX3_mid_71 : decode cX3_mid 71 = .ok (.iload 4, 2) := by decide +kernel
theorem dX3_mid_73 : decode cX3_mid 73 = .ok (.invokevirtual 273, 3) := by decide +kernel
theorem dX3_mid_76 : decode cX3_mid 76 = .ok (.ifCond .eq 25, 3) := by decide +kernel
theorem dX3_mid_79 : decode cX3_mid 79 = .ok (.lload_n 2, 1) := by decide +kernel
theorem dX3_mid_80 : decode cX3_mid 80 = .ok (.aload_n 0, 1) := by decide +kernel
theorem dX3_mid_81 : decode cX3_mid 81 = .ok (.iload 4, 2) := by decide +kernel
theorem dX3_mid_83 : decode cX3_mid 83 = .ok (.iload_n 1, 1) := by decide +kernel
theorem dX3_mid_84 : decode cX3_mid 84 = .ok (.invokevirtual 265, 3) := by decide +kernel
theorem dX3_mid_87 : decode cX3_mid 87 = .ok (.aload_n 0, 1) := by decide +kernel
theorem dX3_mid_88 : decode cX3_mid 88 = .ok (.getfield 31, 3) := by decide +kernel
theorem dX3_mid_91 : decode cX3_mid 91 = .ok (.getfield 213, 3) := by decide +kernel
theorem dX3_mid_94 : decode cX3_mid 94 = .ok (.iload 4, 2) := by decide +kernel
theorem dX3_mid_96 : decode cX3_mid 96 = .ok (.iaload, 1) := by decide +kernel
theorem dX3_mid_97 : decode cX3_mid 97 = .ok (.i2l, 1) := by decide +kernel
theorem dX3_mid_98 : decode cX3_mid 98 = .ok (.lmul, 1) := by decide +kernel
theorem dX3_mid_99 : decode cX3_mid 99 = .ok (.ladd, 1) := by decide +kernel
theorem dX3_mid_100 : decode cX3_mid 100 = .ok (.lstore_n 2, 1) := by decide +kernel
theorem dX3_mid_101 : decode cX3_mid 101 = .ok (.iinc 4 1, 3) := by decide +kernel
theorem dX3_mid_104 : decode cX3_mid 104 = .ok (.goto (-49), 3) := by decide +kernel
theorem dX3_mid_107 : decode cX3_mid 107 = .ok (.aload_n 0, 1) := by decide +kernel
theorem dX3_mid_108 : decode cX3_mid 108 = .ok (.lload_n 2, 1) := by decide +kernel
theorem dX3_mid_109 : decode cX3_mid 109 = .ok (.invokevirtual 269, 3) := by decide +kernel
theorem dX3_mid_112 : decode cX3_mid 112 = .ok (.ireturn, 1) := by decide +kernel
theorem dX3_lots_0 : decode cX3_lots 0 = .ok (.iload_n 1, 1) := by decide +kernel
theorem dX3_lots_1 : decode cX3_lots 1 = .ok (.iconst 1, 1) := by decide +kernel
theorem dX3_lots_2 : decode cX3_lots 2 = .ok (.if_icmp .lt 23, 3) := by decide +kernel
theorem dX3_lots_5 : decode cX3_lots 5 = .ok (.iload_n 1, 1) := by decide +kernel
theorem dX3_lots_6 : decode cX3_lots 6 = .ok (.bipush 20, 2) := by decide +kernel
theorem dX3_lots_8 : decode cX3_lots 8 = .ok (.if_icmp .gt 17, 3) := by decide +kernel
theorem dX3_lots_11 : decode cX3_lots 11 = .ok (.iload_n 2, 1) := by decide +kernel
theorem dX3_lots_12 : decode cX3_lots 12 = .ok (.iconst 1, 1) := by decide +kernel
theorem dX3_lots_13 : decode cX3_lots 13 = .ok (.if_icmp .lt 12, 3) := by decide +kernel
theorem dX3_lots_16 : decode cX3_lots 16 = .ok (.iload_n 2, 1) := by decide +kernel
theorem dX3_lots_17 : decode cX3_lots 17 = .ok (.i2l, 1) := by decide +kernel
theorem dX3_lots_18 : decode cX3_lots 18 = .ok (.ldc2_w 276, 3) := by decide +kernel
theorem dX3_lots_21 : decode cX3_lots 21 = .ok (.lcmp, 1) := by decide +kernel
theorem dX3_lots_22 : decode cX3_lots 22 = .ok (.ifCond .lt 5, 3) := by decide +kernel
theorem dX3_lots_25 : decode cX3_lots 25 = .ok (.iconst (-1), 1) := by decide +kernel
theorem dX3_lots_26 : decode cX3_lots 26 = .ok (.ireturn, 1) := by decide +kernel
theorem dX3_lots_27 : decode cX3_lots 27 = .ok (.aload_n 0, 1) := by decide +kernel
theorem dX3_lots_28 : decode cX3_lots 28 = .ok (.getfield 24, 3) := by decide +kernel
theorem dX3_lots_31 : decode cX3_lots 31 = .ok (.getfield 126, 3) := by decide +kernel
theorem dX3_lots_34 : decode cX3_lots 34 = .ok (.ifCond .ne 6, 3) := by decide +kernel
theorem dX3_lots_37 : decode cX3_lots 37 = .ok (.bipush (-4), 2) := by decide +kernel
theorem dX3_lots_39 : decode cX3_lots 39 = .ok (.ireturn, 1) := by decide +kernel
theorem dX3_lots_40 : decode cX3_lots 40 = .ok (.aload_n 0, 1) := by decide +kernel
theorem dX3_lots_41 : decode cX3_lots 41 = .ok (.getfield 24, 3) := by decide +kernel
theorem dX3_lots_44 : decode cX3_lots 44 = .ok (.invokevirtual 166, 3) := by decide +kernel
theorem dX3_lots_47 : decode cX3_lots 47 = .ok (.iload_n 1, 1) := by decide +kernel
theorem dX3_lots_48 : decode cX3_lots 48 = .ok (.if_icmp .ge 6, 3) := by decide +kernel
theorem dX3_lots_51 : decode cX3_lots 51 = .ok (.bipush (-2), 2) := by decide +kernel
theorem dX3_lots_53 : decode cX3_lots 53 = .ok (.ireturn, 1) := by decide +kernel
theorem dX3_lots_54 : decode cX3_lots 54 = .ok (.iload_n 2, 1) := by decide +kernel
theorem dX3_lots_55 : decode cX3_lots 55 = .ok (.i2l, 1) := by decide +kernel
theorem dX3_lots_56 : decode cX3_lots 56 = .ok (.lstore_n 3, 1) := by decide +kernel
theorem dX3_lots_57 : decode cX3_lots 57 = .ok (.iconst 0, 1) := by decide +kernel
theorem dX3_lots_58 : decode cX3_lots 58 = .ok (.istore 5, 2) := by decide +kernel
theorem dX3_lots_60 : decode cX3_lots 60 = .ok (.iload 5, 2) := by decide +kernel
theorem dX3_lots_62 : decode cX3_lots 62 = .ok (.iload_n 1, 1) := by decide +kernel
theorem dX3_lots_63 : decode cX3_lots 63 = .ok (.if_icmp .ge 25, 3) := by decide +kernel
theorem dX3_lots_66 : decode cX3_lots 66 = .ok (.lload_n 3, 1) := by decide +kernel
theorem dX3_lots_67 : decode cX3_lots 67 = .ok (.ldc2_w 278, 3) := by decide +kernel
theorem dX3_lots_70 : decode cX3_lots 70 = .ok (.lmul, 1) := by decide +kernel
theorem dX3_lots_71 : decode cX3_lots 71 = .ok (.ldc2_w 276, 3) := by decide +kernel
theorem dX3_lots_74 : decode cX3_lots 74 = .ok (.lrem, 1) := by decide +kernel
theorem dX3_lots_75 : decode cX3_lots 75 = .ok (.lstore_n 3, 1) := by decide +kernel
theorem dX3_lots_76 : decode cX3_lots 76 = .ok (.aload_n 0, 1) := by decide +kernel
theorem dX3_lots_77 : decode cX3_lots 77 = .ok (.lload_n 3, 1) := by decide +kernel
theorem dX3_lots_78 : decode cX3_lots 78 = .ok (.l2i, 1) := by decide +kernel
theorem dX3_lots_79 : decode cX3_lots 79 = .ok (.invokevirtual 280, 3) := by decide +kernel
theorem dX3_lots_82 : decode cX3_lots 82 = .ok (.iinc 5 1, 3) := by decide +kernel
theorem dX3_lots_85 : decode cX3_lots 85 = .ok (.goto (-25), 3) := by decide +kernel
theorem dX3_lots_88 : decode cX3_lots 88 = .ok (.aload_n 0, 1) := by decide +kernel
theorem dX3_lots_89 : decode cX3_lots 89 = .ok (.getfield 24, 3) := by decide +kernel
theorem dX3_lots_92 : decode cX3_lots 92 = .ok (.getfield 185, 3) := by decide +kernel
theorem dX3_lots_95 : decode cX3_lots 95 = .ok (.invokestatic 140, 3) := by decide +kernel
theorem dX3_lots_98 : decode cX3_lots 98 = .ok (.ireturn, 1) := by decide +kernel
theorem dX3_asked_0 : decode cX3_asked 0 = .ok (.aload_n 0, 1) := by decide +kernel
theorem dX3_asked_1 : decode cX3_asked 1 = .ok (.getfield 57, 3) := by decide +kernel
theorem dX3_asked_4 : decode cX3_asked 4 = .ok (.ireturn, 1) := by decide +kernel
theorem dX3_upper_0 : decode cX3_upper 0 = .ok (.aload_n 0, 1) := by decide +kernel
theorem dX3_upper_1 : decode cX3_upper 1 = .ok (.getfield 60, 3) := by decide +kernel
theorem dX3_upper_4 : decode cX3_upper 4 = .ok (.lreturn, 1) := by decide +kernel
theorem dX3_lower_0 : decode cX3_lower 0 = .ok (.aload_n 0, 1) := by decide +kernel
theorem dX3_lower_1 : decode cX3_lower 1 = .ok (.getfield 64, 3) := by decide +kernel
theorem dX3_lower_4 : decode cX3_lower 4 = .ok (.lreturn, 1) := by decide +kernel
theorem dX3_count_0 : decode cX3_count 0 = .ok (.iload_n 1, 1) := by decide +kernel
theorem dX3_count_1 : decode cX3_count 1 = .ok (.ifCond .lt 9, 3) := by decide +kernel
theorem dX3_count_4 : decode cX3_count 4 = .ok (.iload_n 1, 1) := by decide +kernel
theorem dX3_count_5 : decode cX3_count 5 = .ok (.bipush 12, 2) := by decide +kernel
theorem dX3_count_7 : decode cX3_count 7 = .ok (.if_icmp .lt 7, 3) := by decide +kernel
theorem dX3_count_10 : decode cX3_count 10 = .ok (.iconst (-1), 1) := by decide +kernel
theorem dX3_count_11 : decode cX3_count 11 = .ok (.goto 8, 3) := by decide +kernel
theorem dX3_count_14 : decode cX3_count 14 = .ok (.aload_n 0, 1) := by decide +kernel
theorem dX3_count_15 : decode cX3_count 15 = .ok (.iload_n 1, 1) := by decide +kernel
theorem dX3_count_16 : decode cX3_count 16 = .ok (.invokevirtual 284, 3) := by decide +kernel
theorem dX3_count_19 : decode cX3_count 19 = .ok (.ireturn, 1) := by decide +kernel
theorem dX3_finding_0 : decode cX3_finding 0 = .ok (.aload_n 0, 1) := by decide +kernel
theorem dX3_finding_1 : decode cX3_finding 1 = .ok (.getfield 53, 3) := by decide +kernel
theorem dX3_finding_4 : decode cX3_finding 4 = .ok (.ireturn, 1) := by decide +kernel
theorem dX3_findings_0 : decode cX3_findings 0 = .ok (.iload_n 1, 1) := by decide +kernel
theorem dX3_findings_1 : decode cX3_findings 1 = .ok (.iconst 1, 1) := by decide +kernel
theorem dX3_findings_2 : decode cX3_findings 2 = .ok (.if_icmp .lt 8, 3) := by decide +kernel
theorem dX3_findings_5 : decode cX3_findings 5 = .ok (.iload_n 1, 1) := by decide +kernel
theorem dX3_findings_6 : decode cX3_findings 6 = .ok (.iconst 5, 1) := by decide +kernel
theorem dX3_findings_7 : decode cX3_findings 7 = .ok (.if_icmp .le 7, 3) := by decide +kernel
theorem dX3_findings_10 : decode cX3_findings 10 = .ok (.iconst (-1), 1) := by decide +kernel
theorem dX3_findings_11 : decode cX3_findings 11 = .ok (.goto 9, 3) := by decide +kernel
theorem dX3_findings_14 : decode cX3_findings 14 = .ok (.aload_n 0, 1) := by decide +kernel
theorem dX3_findings_15 : decode cX3_findings 15 = .ok (.getfield 50, 3) := by decide +kernel
theorem dX3_findings_18 : decode cX3_findings 18 = .ok (.iload_n 1, 1) := by decide +kernel
theorem dX3_findings_19 : decode cX3_findings 19 = .ok (.iaload, 1) := by decide +kernel
theorem dX3_findings_20 : decode cX3_findings 20 = .ok (.ireturn, 1) := by decide +kernel
theorem dX3_digest_0 : decode cX3_digest 0 = .ok (.ldc2_w 287, 3) := by decide +kernel
theorem dX3_digest_3 : decode cX3_digest 3 = .ok (.lstore_n 1, 1) := by decide +kernel
theorem dX3_digest_4 : decode cX3_digest 4 = .ok (.iconst 0, 1) := by decide +kernel
theorem dX3_digest_5 : decode cX3_digest 5 = .ok (.istore_n 3, 1) := by decide +kernel
theorem dX3_digest_6 : decode cX3_digest 6 = .ok (.iload_n 3, 1) := by decide +kernel
theorem dX3_digest_7 : decode cX3_digest 7 = .ok (.bipush 12, 2) := by decide +kernel
theorem dX3_digest_9 : decode cX3_digest 9 = .ok (.if_icmp .ge 22, 3) := by decide +kernel
theorem dX3_digest_12 : decode cX3_digest 12 = .ok (.ldc2_w 289, 3) := by decide +kernel
theorem dX3_digest_15 : decode cX3_digest 15 = .ok (.lload_n 1, 1) := by decide +kernel
theorem dX3_digest_16 : decode cX3_digest 16 = .ok (.lmul, 1) := by decide +kernel
theorem dX3_digest_17 : decode cX3_digest 17 = .ok (.aload_n 0, 1) := by decide +kernel
theorem dX3_digest_18 : decode cX3_digest 18 = .ok (.iload_n 3, 1) := by decide +kernel
theorem dX3_digest_19 : decode cX3_digest 19 = .ok (.invokevirtual 284, 3) := by decide +kernel
theorem dX3_digest_22 : decode cX3_digest 22 = .ok (.i2l, 1) := by decide +kernel
theorem dX3_digest_23 : decode cX3_digest 23 = .ok (.ladd, 1) := by decide +kernel
theorem dX3_digest_24 : decode cX3_digest 24 = .ok (.lstore_n 1, 1) := by decide +kernel
theorem dX3_digest_25 : decode cX3_digest 25 = .ok (.iinc 3 1, 3) := by decide +kernel
theorem dX3_digest_28 : decode cX3_digest 28 = .ok (.goto (-22), 3) := by decide +kernel
theorem dX3_digest_31 : decode cX3_digest 31 = .ok (.iconst 0, 1) := by decide +kernel
theorem dX3_digest_32 : decode cX3_digest 32 = .ok (.istore_n 3, 1) := by decide +kernel
theorem dX3_digest_33 : decode cX3_digest 33 = .ok (.iload_n 3, 1) := by decide +kernel
theorem dX3_digest_34 : decode cX3_digest 34 = .ok (.aload_n 0, 1) := by decide +kernel
theorem dX3_digest_35 : decode cX3_digest 35 = .ok (.getfield 24, 3) := by decide +kernel
theorem dX3_digest_38 : decode cX3_digest 38 = .ok (.getfield 126, 3) := by decide +kernel
theorem dX3_digest_41 : decode cX3_digest 41 = .ok (.if_icmp .ge 40, 3) := by decide +kernel
theorem dX3_digest_44 : decode cX3_digest 44 = .ok (.iconst 0, 1) := by decide +kernel
theorem dX3_digest_45 : decode cX3_digest 45 = .ok (.istore 4, 2) := by decide +kernel
theorem dX3_digest_47 : decode cX3_digest 47 = .ok (.iload 4, 2) := by decide +kernel
theorem dX3_digest_49 : decode cX3_digest 49 = .ok (.bipush 7, 2) := by decide +kernel
theorem dX3_digest_51 : decode cX3_digest 51 = .ok (.if_icmp .ge 24, 3) := by decide +kernel
theorem dX3_digest_54 : decode cX3_digest 54 = .ok (.ldc2_w 289, 3) := by decide +kernel
theorem dX3_digest_57 : decode cX3_digest 57 = .ok (.lload_n 1, 1) := by decide +kernel
theorem dX3_digest_58 : decode cX3_digest 58 = .ok (.lmul, 1) := by decide +kernel
theorem dX3_digest_59 : decode cX3_digest 59 = .ok (.aload_n 0, 1) := by decide +kernel
theorem dX3_digest_60 : decode cX3_digest 60 = .ok (.iload_n 3, 1) := by decide +kernel
theorem dX3_digest_61 : decode cX3_digest 61 = .ok (.iload 4, 2) := by decide +kernel
theorem dX3_digest_63 : decode cX3_digest 63 = .ok (.invokevirtual 130, 3) := by decide +kernel
theorem dX3_digest_66 : decode cX3_digest 66 = .ok (.i2l, 1) := by decide +kernel
theorem dX3_digest_67 : decode cX3_digest 67 = .ok (.ladd, 1) := by decide +kernel
theorem dX3_digest_68 : decode cX3_digest 68 = .ok (.lstore_n 1, 1) := by decide +kernel
theorem dX3_digest_69 : decode cX3_digest 69 = .ok (.iinc 4 1, 3) := by decide +kernel
theorem dX3_digest_72 : decode cX3_digest 72 = .ok (.goto (-25), 3) := by decide +kernel
theorem dX3_digest_75 : decode cX3_digest 75 = .ok (.iinc 3 1, 3) := by decide +kernel
theorem dX3_digest_78 : decode cX3_digest 78 = .ok (.goto (-45), 3) := by decide +kernel
theorem dX3_digest_81 : decode cX3_digest 81 = .ok (.iconst 0, 1) := by decide +kernel
theorem dX3_digest_82 : decode cX3_digest 82 = .ok (.istore_n 3, 1) := by decide +kernel
theorem dX3_digest_83 : decode cX3_digest 83 = .ok (.iload_n 3, 1) := by decide +kernel
theorem dX3_digest_84 : decode cX3_digest 84 = .ok (.iconst 3, 1) := by decide +kernel
theorem dX3_digest_85 : decode cX3_digest 85 = .ok (.if_icmp .ge 23, 3) := by decide +kernel
theorem dX3_digest_88 : decode cX3_digest 88 = .ok (.ldc2_w 289, 3) := by decide +kernel
theorem dX3_digest_91 : decode cX3_digest 91 = .ok (.lload_n 1, 1) := by decide +kernel
theorem dX3_digest_92 : decode cX3_digest 92 = .ok (.lmul, 1) := by decide +kernel
theorem dX3_digest_93 : decode cX3_digest 93 = .ok (.aload_n 0, 1) := by decide +kernel
theorem dX3_digest_94 : decode cX3_digest 94 = .ok (.getfield 40, 3) := by decide +kernel
theorem dX3_digest_97 : decode cX3_digest 97 = .ok (.iload_n 3, 1) := by decide +kernel
theorem dX3_digest_98 : decode cX3_digest 98 = .ok (.iaload, 1) := by decide +kernel
theorem dX3_digest_99 : decode cX3_digest 99 = .ok (.i2l, 1) := by decide +kernel
theorem dX3_digest_100 : decode cX3_digest 100 = .ok (.ladd, 1) := by decide +kernel
theorem dX3_digest_101 : decode cX3_digest 101 = .ok (.lstore_n 1, 1) := by decide +kernel
theorem dX3_digest_102 : decode cX3_digest 102 = .ok (.iinc 3 1, 3) := by decide +kernel
theorem dX3_digest_105 : decode cX3_digest 105 = .ok (.goto (-22), 3) := by decide +kernel
theorem dX3_digest_108 : decode cX3_digest 108 = .ok (.aload_n 0, 1) := by decide +kernel
theorem dX3_digest_109 : decode cX3_digest 109 = .ok (.getfield 18, 3) := by decide +kernel
theorem dX3_digest_112 : decode cX3_digest 112 = .ok (.aload_n 0, 1) := by decide +kernel
theorem dX3_digest_113 : decode cX3_digest 113 = .ok (.getfield 14, 3) := by decide +kernel
theorem dX3_digest_116 : decode cX3_digest 116 = .ok (.lload_n 1, 1) := by decide +kernel
theorem dX3_digest_117 : decode cX3_digest 117 = .ok (.invokevirtual 291, 3) := by decide +kernel
theorem dX3_digest_120 : decode cX3_digest 120 = .ok (.invokevirtual 291, 3) := by decide +kernel
theorem dX3_digest_123 : decode cX3_digest 123 = .ok (.lreturn, 1) := by decide +kernel
theorem dX3_found_0 : decode cX3_found 0 = .ok (.aload_n 0, 1) := by decide +kernel
theorem dX3_found_1 : decode cX3_found 1 = .ok (.iload_n 1, 1) := by decide +kernel
theorem dX3_found_2 : decode cX3_found 2 = .ok (.putfield 53, 3) := by decide +kernel
theorem dX3_found_5 : decode cX3_found 5 = .ok (.aload_n 0, 1) := by decide +kernel
theorem dX3_found_6 : decode cX3_found 6 = .ok (.getfield 50, 3) := by decide +kernel
theorem dX3_found_9 : decode cX3_found 9 = .ok (.iload_n 1, 1) := by decide +kernel
theorem dX3_found_10 : decode cX3_found 10 = .ok (.dup2, 1) := by decide +kernel
theorem dX3_found_11 : decode cX3_found 11 = .ok (.iaload, 1) := by decide +kernel
theorem dX3_found_12 : decode cX3_found 12 = .ok (.iconst 1, 1) := by decide +kernel
theorem dX3_found_13 : decode cX3_found 13 = .ok (.iadd, 1) := by decide +kernel
theorem dX3_found_14 : decode cX3_found 14 = .ok (.iastore, 1) := by decide +kernel
theorem dX3_found_15 : decode cX3_found 15 = .ok (.bipush (-3), 2) := by decide +kernel
theorem dX3_found_17 : decode cX3_found 17 = .ok (.ireturn, 1) := by decide +kernel
theorem dX3_toldByAsked_0 : decode cX3_toldByAsked 0 = .ok (.aload_n 0, 1) := by decide +kernel
theorem dX3_toldByAsked_1 : decode cX3_toldByAsked 1 = .ok (.iload_n 1, 1) := by decide +kernel
theorem dX3_toldByAsked_2 : decode cX3_toldByAsked 2 = .ok (.putfield 57, 3) := by decide +kernel
theorem dX3_toldByAsked_5 : decode cX3_toldByAsked 5 = .ok (.iconst 1, 1) := by decide +kernel
theorem dX3_toldByAsked_6 : decode cX3_toldByAsked 6 = .ok (.ireturn, 1) := by decide +kernel
theorem dX3_toldAside_0 : decode cX3_toldAside 0 = .ok (.aload_n 0, 1) := by decide +kernel
theorem dX3_toldAside_1 : decode cX3_toldAside 1 = .ok (.iload_n 2, 1) := by decide +kernel
theorem dX3_toldAside_2 : decode cX3_toldAside 2 = .ok (.putfield 57, 3) := by decide +kernel
theorem dX3_toldAside_5 : decode cX3_toldAside 5 = .ok (.iload_n 1, 1) := by decide +kernel
theorem dX3_toldAside_6 : decode cX3_toldAside 6 = .ok (.ireturn, 1) := by decide +kernel
theorem dX3_toldInParts_0 : decode cX3_toldInParts 0 = .ok (.bipush 12, 2) := by decide +kernel
theorem dX3_toldInParts_2 : decode cX3_toldInParts 2 = .ok (.aload_n 0, 1) := by decide +kernel
theorem dX3_toldInParts_3 : decode cX3_toldInParts 3 = .ok (.getfield 31, 3) := by decide +kernel
theorem dX3_toldInParts_6 : decode cX3_toldInParts 6 = .ok (.getfield 216, 3) := by decide +kernel
theorem dX3_toldInParts_9 : decode cX3_toldInParts 9 = .ok (.invokestatic 140, 3) := by decide +kernel
theorem dX3_toldInParts_12 : decode cX3_toldInParts 12 = .ok (.invokestatic 295, 3) := by decide +kernel
theorem dX3_toldInParts_15 : decode cX3_toldInParts 15 = .ok (.lstore_n 3, 1) := by decide +kernel
theorem dX3_toldInParts_16 : decode cX3_toldInParts 16 = .ok (.lload_n 1, 1) := by decide +kernel
theorem dX3_toldInParts_17 : decode cX3_toldInParts 17 = .ok (.lload_n 3, 1) := by decide +kernel
theorem dX3_toldInParts_18 : decode cX3_toldInParts 18 = .ok (.invokestatic 298, 3) := by decide +kernel
theorem dX3_toldInParts_21 : decode cX3_toldInParts 21 = .ok (.lstore 5, 2) := by decide +kernel
theorem dX3_toldInParts_23 : decode cX3_toldInParts 23 = .ok (.lload 5, 2) := by decide +kernel
theorem dX3_toldInParts_25 : decode cX3_toldInParts 25 = .ok (.lconst 0, 1) := by decide +kernel
theorem dX3_toldInParts_26 : decode cX3_toldInParts 26 = .ok (.lcmp, 1) := by decide +kernel
theorem dX3_toldInParts_27 : decode cX3_toldInParts 27 = .ok (.ifCond .le 19, 3) := by decide +kernel
theorem dX3_toldInParts_30 : decode cX3_toldInParts 30 = .ok (.aload_n 0, 1) := by decide +kernel
theorem dX3_toldInParts_31 : decode cX3_toldInParts 31 = .ok (.lload_n 1, 1) := by decide +kernel
theorem dX3_toldInParts_32 : decode cX3_toldInParts 32 = .ok (.lload 5, 2) := by decide +kernel
theorem dX3_toldInParts_34 : decode cX3_toldInParts 34 = .ok (.ldiv, 1) := by decide +kernel
theorem dX3_toldInParts_35 : decode cX3_toldInParts 35 = .ok (.putfield 60, 3) := by decide +kernel
theorem dX3_toldInParts_38 : decode cX3_toldInParts 38 = .ok (.aload_n 0, 1) := by decide +kernel
theorem dX3_toldInParts_39 : decode cX3_toldInParts 39 = .ok (.lload_n 3, 1) := by decide +kernel
theorem dX3_toldInParts_40 : decode cX3_toldInParts 40 = .ok (.lload 5, 2) := by decide +kernel
theorem dX3_toldInParts_42 : decode cX3_toldInParts 42 = .ok (.ldiv, 1) := by decide +kernel
theorem dX3_toldInParts_43 : decode cX3_toldInParts 43 = .ok (.putfield 64, 3) := by decide +kernel
theorem dX3_toldInParts_46 : decode cX3_toldInParts 46 = .ok (.iconst 1, 1) := by decide +kernel
theorem dX3_toldInParts_47 : decode cX3_toldInParts 47 = .ok (.ireturn, 1) := by decide +kernel
theorem dX3_make_0 : decode cX3_make 0 = .ok (.aload_n 1, 1) := by decide +kernel
theorem dX3_make_1 : decode cX3_make 1 = .ok (.iload_n 2, 1) := by decide +kernel
theorem dX3_make_2 : decode cX3_make 2 = .ok (.invokevirtual 95, 3) := by decide +kernel
theorem dX3_make_5 : decode cX3_make 5 = .ok (.ifCond .eq 11, 3) := by decide +kernel
theorem dX3_make_8 : decode cX3_make 8 = .ok (.iload_n 3, 1) := by decide +kernel
theorem dX3_make_9 : decode cX3_make 9 = .ok (.aload_n 1, 1) := by decide +kernel
theorem dX3_make_10 : decode cX3_make 10 = .ok (.getfield 302, 3) := by decide +kernel
theorem dX3_make_13 : decode cX3_make 13 = .ok (.if_icmp .le 5, 3) := by decide +kernel
theorem dX3_make_16 : decode cX3_make 16 = .ok (.iconst (-1), 1) := by decide +kernel
theorem dX3_make_17 : decode cX3_make 17 = .ok (.ireturn, 1) := by decide +kernel
theorem dX3_make_18 : decode cX3_make 18 = .ok (.iload_n 3, 1) := by decide +kernel
theorem dX3_make_19 : decode cX3_make 19 = .ok (.ifCond .ge 9, 3) := by decide +kernel
theorem dX3_make_22 : decode cX3_make 22 = .ok (.aload_n 0, 1) := by decide +kernel
theorem dX3_make_23 : decode cX3_make 23 = .ok (.iconst 5, 1) := by decide +kernel
theorem dX3_make_24 : decode cX3_make 24 = .ok (.invokevirtual 99, 3) := by decide +kernel
theorem dX3_make_27 : decode cX3_make 27 = .ok (.ireturn, 1) := by decide +kernel
theorem dX3_make_28 : decode cX3_make 28 = .ok (.aload_n 1, 1) := by decide +kernel
theorem dX3_make_29 : decode cX3_make 29 = .ok (.iload_n 2, 1) := by decide +kernel
theorem dX3_make_30 : decode cX3_make 30 = .ok (.iload_n 3, 1) := by decide +kernel
theorem dX3_make_31 : decode cX3_make 31 = .ok (.iload 4, 2) := by decide +kernel
theorem dX3_make_33 : decode cX3_make 33 = .ok (.invokevirtual 218, 3) := by decide +kernel
theorem dX3_make_36 : decode cX3_make 36 = .ok (.iload_n 3, 1) := by decide +kernel
theorem dX3_make_37 : decode cX3_make 37 = .ok (.ireturn, 1) := by decide +kernel
theorem dX3_refusalOfStrip_0 : decode cX3_refusalOfStrip 0 = .ok (.aload_n 1, 1) := by decide +kernel
theorem dX3_refusalOfStrip_1 : decode cX3_refusalOfStrip 1 = .ok (.iload_n 2, 1) := by decide +kernel
theorem dX3_refusalOfStrip_2 : decode cX3_refusalOfStrip 2 = .ok (.invokevirtual 95, 3) := by decide +kernel
theorem dX3_refusalOfStrip_5 : decode cX3_refusalOfStrip 5 = .ok (.ifCond .ne 5, 3) := by decide +kernel
theorem dX3_refusalOfStrip_8 : decode cX3_refusalOfStrip 8 = .ok (.iconst (-1), 1) := by decide +kernel
theorem dX3_refusalOfStrip_9 : decode cX3_refusalOfStrip 9 = .ok (.ireturn, 1) := by decide +kernel
theorem dX3_refusalOfStrip_10 : decode cX3_refusalOfStrip 10 = .ok (.aload_n 1, 1) := by decide +kernel
theorem dX3_refusalOfStrip_11 : decode cX3_refusalOfStrip 11 = .ok (.iload_n 2, 1) := by decide +kernel
theorem dX3_refusalOfStrip_12 : decode cX3_refusalOfStrip 12 = .ok (.invokevirtual 102, 3) := by decide +kernel
theorem dX3_refusalOfStrip_15 : decode cX3_refusalOfStrip 15 = .ok (.ifCond .eq 11, 3) := by decide +kernel
theorem dX3_refusalOfStrip_18 : decode cX3_refusalOfStrip 18 = .ok (.aload_n 0, 1) := by decide +kernel
theorem dX3_refusalOfStrip_19 : decode cX3_refusalOfStrip 19 = .ok (.iconst 1, 1) := by decide +kernel
theorem dX3_refusalOfStrip_20 : decode cX3_refusalOfStrip 20 = .ok (.invokevirtual 99, 3) := by decide +kernel
theorem dX3_refusalOfStrip_23 : decode cX3_refusalOfStrip 23 = .ok (.goto 4, 3) := by decide +kernel
theorem dX3_refusalOfStrip_26 : decode cX3_refusalOfStrip 26 = .ok (.iconst 0, 1) := by decide +kernel
theorem dX3_refusalOfStrip_27 : decode cX3_refusalOfStrip 27 = .ok (.ireturn, 1) := by decide +kernel
theorem dX3_refusalOfPlace_0 : decode cX3_refusalOfPlace 0 = .ok (.aload_n 0, 1) := by decide +kernel
theorem dX3_refusalOfPlace_1 : decode cX3_refusalOfPlace 1 = .ok (.aload_n 1, 1) := by decide +kernel
theorem dX3_refusalOfPlace_2 : decode cX3_refusalOfPlace 2 = .ok (.iload_n 2, 1) := by decide +kernel
theorem dX3_refusalOfPlace_3 : decode cX3_refusalOfPlace 3 = .ok (.invokevirtual 88, 3) := by decide +kernel
theorem dX3_refusalOfPlace_6 : decode cX3_refusalOfPlace 6 = .ok (.istore 4, 2) := by decide +kernel
theorem dX3_refusalOfPlace_8 : decode cX3_refusalOfPlace 8 = .ok (.iload 4, 2) := by decide +kernel
theorem dX3_refusalOfPlace_10 : decode cX3_refusalOfPlace 10 = .ok (.ifCond .eq 6, 3) := by decide +kernel
theorem dX3_refusalOfPlace_13 : decode cX3_refusalOfPlace 13 = .ok (.iload 4, 2) := by decide +kernel
theorem dX3_refusalOfPlace_15 : decode cX3_refusalOfPlace 15 = .ok (.ireturn, 1) := by decide +kernel
theorem dX3_refusalOfPlace_16 : decode cX3_refusalOfPlace 16 = .ok (.aload_n 1, 1) := by decide +kernel
theorem dX3_refusalOfPlace_17 : decode cX3_refusalOfPlace 17 = .ok (.iload_n 2, 1) := by decide +kernel
theorem dX3_refusalOfPlace_18 : decode cX3_refusalOfPlace 18 = .ok (.iload_n 3, 1) := by decide +kernel
theorem dX3_refusalOfPlace_19 : decode cX3_refusalOfPlace 19 = .ok (.iconst 1, 1) := by decide +kernel
theorem dX3_refusalOfPlace_20 : decode cX3_refusalOfPlace 20 = .ok (.invokevirtual 105, 3) := by decide +kernel
theorem dX3_refusalOfPlace_23 : decode cX3_refusalOfPlace 23 = .ok (.ifCond .eq 7, 3) := by decide +kernel
theorem dX3_refusalOfPlace_26 : decode cX3_refusalOfPlace 26 = .ok (.iconst 0, 1) := by decide +kernel
theorem dX3_refusalOfPlace_27 : decode cX3_refusalOfPlace 27 = .ok (.goto 8, 3) := by decide +kernel
theorem dX3_refusalOfPlace_30 : decode cX3_refusalOfPlace 30 = .ok (.aload_n 0, 1) := by decide +kernel
theorem dX3_refusalOfPlace_31 : decode cX3_refusalOfPlace 31 = .ok (.iconst 2, 1) := by decide +kernel
theorem dX3_refusalOfPlace_32 : decode cX3_refusalOfPlace 32 = .ok (.invokevirtual 99, 3) := by decide +kernel
theorem dX3_refusalOfPlace_35 : decode cX3_refusalOfPlace 35 = .ok (.ireturn, 1) := by decide +kernel
theorem dX3_refusalAtStone_0 : decode cX3_refusalAtStone 0 = .ok (.aload_n 0, 1) := by decide +kernel
theorem dX3_refusalAtStone_1 : decode cX3_refusalAtStone 1 = .ok (.getfield 24, 3) := by decide +kernel
theorem dX3_refusalAtStone_4 : decode cX3_refusalAtStone 4 = .ok (.iload_n 1, 1) := by decide +kernel
theorem dX3_refusalAtStone_5 : decode cX3_refusalAtStone 5 = .ok (.invokevirtual 129, 3) := by decide +kernel
theorem dX3_refusalAtStone_8 : decode cX3_refusalAtStone 8 = .ok (.ifCond .ne 5, 3) := by decide +kernel
theorem dX3_refusalAtStone_11 : decode cX3_refusalAtStone 11 = .ok (.iconst (-1), 1) := by decide +kernel
theorem dX3_refusalAtStone_12 : decode cX3_refusalAtStone 12 = .ok (.ireturn, 1) := by decide +kernel
theorem dX3_refusalAtStone_13 : decode cX3_refusalAtStone 13 = .ok (.aload_n 0, 1) := by decide +kernel
theorem dX3_refusalAtStone_14 : decode cX3_refusalAtStone 14 = .ok (.getfield 24, 3) := by decide +kernel
theorem dX3_refusalAtStone_17 : decode cX3_refusalAtStone 17 = .ok (.iload_n 1, 1) := by decide +kernel
theorem dX3_refusalAtStone_18 : decode cX3_refusalAtStone 18 = .ok (.invokevirtual 244, 3) := by decide +kernel
theorem dX3_refusalAtStone_21 : decode cX3_refusalAtStone 21 = .ok (.ifCond .ne 6, 3) := by decide +kernel
theorem dX3_refusalAtStone_24 : decode cX3_refusalAtStone 24 = .ok (.bipush (-4), 2) := by decide +kernel
theorem dX3_refusalAtStone_26 : decode cX3_refusalAtStone 26 = .ok (.ireturn, 1) := by decide +kernel
theorem dX3_refusalAtStone_27 : decode cX3_refusalAtStone 27 = .ok (.aload_n 0, 1) := by decide +kernel
theorem dX3_refusalAtStone_28 : decode cX3_refusalAtStone 28 = .ok (.getfield 24, 3) := by decide +kernel
theorem dX3_refusalAtStone_31 : decode cX3_refusalAtStone 31 = .ok (.invokevirtual 166, 3) := by decide +kernel
theorem dX3_refusalAtStone_34 : decode cX3_refusalAtStone 34 = .ok (.iconst 1, 1) := by decide +kernel
theorem dX3_refusalAtStone_35 : decode cX3_refusalAtStone 35 = .ok (.if_icmp .ge 8, 3) := by decide +kernel
theorem dX3_refusalAtStone_38 : decode cX3_refusalAtStone 38 = .ok (.bipush (-2), 2) := by decide +kernel
theorem dX3_refusalAtStone_40 : decode cX3_refusalAtStone 40 = .ok (.goto 4, 3) := by decide +kernel
theorem dX3_refusalAtStone_43 : decode cX3_refusalAtStone 43 = .ok (.iconst 0, 1) := by decide +kernel
theorem dX3_refusalAtStone_44 : decode cX3_refusalAtStone 44 = .ok (.ireturn, 1) := by decide +kernel
theorem dX3_refusalOfPairs_0 : decode cX3_refusalOfPairs 0 = .ok (.aload_n 0, 1) := by decide +kernel
theorem dX3_refusalOfPairs_1 : decode cX3_refusalOfPairs 1 = .ok (.getfield 24, 3) := by decide +kernel
theorem dX3_refusalOfPairs_4 : decode cX3_refusalOfPairs 4 = .ok (.iload_n 1, 1) := by decide +kernel
theorem dX3_refusalOfPairs_5 : decode cX3_refusalOfPairs 5 = .ok (.invokevirtual 129, 3) := by decide +kernel
theorem dX3_refusalOfPairs_8 : decode cX3_refusalOfPairs 8 = .ok (.ifCond .ne 5, 3) := by decide +kernel
theorem dX3_refusalOfPairs_11 : decode cX3_refusalOfPairs 11 = .ok (.iconst (-1), 1) := by decide +kernel
theorem dX3_refusalOfPairs_12 : decode cX3_refusalOfPairs 12 = .ok (.ireturn, 1) := by decide +kernel
theorem dX3_refusalOfPairs_13 : decode cX3_refusalOfPairs 13 = .ok (.aload_n 0, 1) := by decide +kernel
theorem dX3_refusalOfPairs_14 : decode cX3_refusalOfPairs 14 = .ok (.aload_n 0, 1) := by decide +kernel
theorem dX3_refusalOfPairs_15 : decode cX3_refusalOfPairs 15 = .ok (.getfield 14, 3) := by decide +kernel
theorem dX3_refusalOfPairs_18 : decode cX3_refusalOfPairs 18 = .ok (.iload_n 2, 1) := by decide +kernel
theorem dX3_refusalOfPairs_19 : decode cX3_refusalOfPairs 19 = .ok (.invokevirtual 88, 3) := by decide +kernel
theorem dX3_refusalOfPairs_22 : decode cX3_refusalOfPairs 22 = .ok (.istore_n 3, 1) := by decide +kernel
theorem dX3_refusalOfPairs_23 : decode cX3_refusalOfPairs 23 = .ok (.iload_n 3, 1) := by decide +kernel
theorem dX3_refusalOfPairs_24 : decode cX3_refusalOfPairs 24 = .ok (.ifCond .eq 5, 3) := by decide +kernel
theorem dX3_refusalOfPairs_27 : decode cX3_refusalOfPairs 27 = .ok (.iload_n 3, 1) := by decide +kernel
theorem dX3_refusalOfPairs_28 : decode cX3_refusalOfPairs 28 = .ok (.ireturn, 1) := by decide +kernel
theorem dX3_refusalOfPairs_29 : decode cX3_refusalOfPairs 29 = .ok (.aload_n 0, 1) := by decide +kernel
theorem dX3_refusalOfPairs_30 : decode cX3_refusalOfPairs 30 = .ok (.getfield 14, 3) := by decide +kernel
theorem dX3_refusalOfPairs_33 : decode cX3_refusalOfPairs 33 = .ok (.getfield 92, 3) := by decide +kernel
theorem dX3_refusalOfPairs_36 : decode cX3_refusalOfPairs 36 = .ok (.iload_n 2, 1) := by decide +kernel
theorem dX3_refusalOfPairs_37 : decode cX3_refusalOfPairs 37 = .ok (.iaload, 1) := by decide +kernel
theorem dX3_refusalOfPairs_38 : decode cX3_refusalOfPairs 38 = .ok (.iconst 2, 1) := by decide +kernel
theorem dX3_refusalOfPairs_39 : decode cX3_refusalOfPairs 39 = .ok (.irem, 1) := by decide +kernel
theorem dX3_refusalOfPairs_40 : decode cX3_refusalOfPairs 40 = .ok (.ifCond .eq 9, 3) := by decide +kernel
theorem dX3_refusalOfPairs_43 : decode cX3_refusalOfPairs 43 = .ok (.aload_n 0, 1) := by decide +kernel
theorem dX3_refusalOfPairs_44 : decode cX3_refusalOfPairs 44 = .ok (.iconst 5, 1) := by decide +kernel
theorem dX3_refusalOfPairs_45 : decode cX3_refusalOfPairs 45 = .ok (.invokevirtual 99, 3) := by decide +kernel
theorem dX3_refusalOfPairs_48 : decode cX3_refusalOfPairs 48 = .ok (.ireturn, 1) := by decide +kernel
theorem dX3_refusalOfPairs_49 : decode cX3_refusalOfPairs 49 = .ok (.iconst 0, 1) := by decide +kernel
theorem dX3_refusalOfPairs_50 : decode cX3_refusalOfPairs 50 = .ok (.istore 4, 2) := by decide +kernel
theorem dX3_refusalOfPairs_52 : decode cX3_refusalOfPairs 52 = .ok (.iload 4, 2) := by decide +kernel
theorem dX3_refusalOfPairs_54 : decode cX3_refusalOfPairs 54 = .ok (.aload_n 0, 1) := by decide +kernel
theorem dX3_refusalOfPairs_55 : decode cX3_refusalOfPairs 55 = .ok (.getfield 14, 3) := by decide +kernel
theorem dX3_refusalOfPairs_58 : decode cX3_refusalOfPairs 58 = .ok (.getfield 92, 3) := by decide +kernel
theorem dX3_refusalOfPairs_61 : decode cX3_refusalOfPairs 61 = .ok (.iload_n 2, 1) := by decide +kernel
theorem dX3_refusalOfPairs_62 : decode cX3_refusalOfPairs 62 = .ok (.iaload, 1) := by decide +kernel
theorem dX3_refusalOfPairs_63 : decode cX3_refusalOfPairs 63 = .ok (.if_icmp .ge 37, 3) := by decide +kernel
theorem dX3_refusalOfPairs_66 : decode cX3_refusalOfPairs 66 = .ok (.aload_n 0, 1) := by decide +kernel
theorem dX3_refusalOfPairs_67 : decode cX3_refusalOfPairs 67 = .ok (.getfield 24, 3) := by decide +kernel
theorem dX3_refusalOfPairs_70 : decode cX3_refusalOfPairs 70 = .ok (.aload_n 0, 1) := by decide +kernel
theorem dX3_refusalOfPairs_71 : decode cX3_refusalOfPairs 71 = .ok (.getfield 14, 3) := by decide +kernel
theorem dX3_refusalOfPairs_74 : decode cX3_refusalOfPairs 74 = .ok (.getfield 81, 3) := by decide +kernel
theorem dX3_refusalOfPairs_77 : decode cX3_refusalOfPairs 77 = .ok (.iload_n 2, 1) := by decide +kernel
theorem dX3_refusalOfPairs_78 : decode cX3_refusalOfPairs 78 = .ok (.aaload, 1) := by decide +kernel
theorem dX3_refusalOfPairs_79 : decode cX3_refusalOfPairs 79 = .ok (.iload 4, 2) := by decide +kernel
theorem dX3_refusalOfPairs_81 : decode cX3_refusalOfPairs 81 = .ok (.iaload, 1) := by decide +kernel
theorem dX3_refusalOfPairs_82 : decode cX3_refusalOfPairs 82 = .ok (.invokevirtual 155, 3) := by decide +kernel
theorem dX3_refusalOfPairs_85 : decode cX3_refusalOfPairs 85 = .ok (.ifCond .ne 9, 3) := by decide +kernel
theorem dX3_refusalOfPairs_88 : decode cX3_refusalOfPairs 88 = .ok (.aload_n 0, 1) := by decide +kernel
theorem dX3_refusalOfPairs_89 : decode cX3_refusalOfPairs 89 = .ok (.iconst 3, 1) := by decide +kernel
theorem dX3_refusalOfPairs_90 : decode cX3_refusalOfPairs 90 = .ok (.invokevirtual 99, 3) := by decide +kernel
theorem dX3_refusalOfPairs_93 : decode cX3_refusalOfPairs 93 = .ok (.ireturn, 1) := by decide +kernel
theorem dX3_refusalOfPairs_94 : decode cX3_refusalOfPairs 94 = .ok (.iinc 4 1, 3) := by decide +kernel
theorem dX3_refusalOfPairs_97 : decode cX3_refusalOfPairs 97 = .ok (.goto (-45), 3) := by decide +kernel
theorem dX3_refusalOfPairs_100 : decode cX3_refusalOfPairs 100 = .ok (.iconst 0, 1) := by decide +kernel
theorem dX3_refusalOfPairs_101 : decode cX3_refusalOfPairs 101 = .ok (.ireturn, 1) := by decide +kernel
theorem dX3_traitOf_0 : decode cX3_traitOf 0 = .ok (.iload_n 2, 1) := by decide +kernel
theorem dX3_traitOf_1 : decode cX3_traitOf 1 = .ok (.tableswitch 111 0 5 #[39, 49, 59, 69, 78, 94], 39) := by decide +kernel
theorem dX3_traitOf_40 : decode cX3_traitOf 40 = .ok (.aload_n 0, 1) := by decide +kernel
theorem dX3_traitOf_41 : decode cX3_traitOf 41 = .ok (.getfield 24, 3) := by decide +kernel
theorem dX3_traitOf_44 : decode cX3_traitOf 44 = .ok (.getfield 134, 3) := by decide +kernel
theorem dX3_traitOf_47 : decode cX3_traitOf 47 = .ok (.iload_n 1, 1) := by decide +kernel
theorem dX3_traitOf_48 : decode cX3_traitOf 48 = .ok (.iaload, 1) := by decide +kernel
theorem dX3_traitOf_49 : decode cX3_traitOf 49 = .ok (.ireturn, 1) := by decide +kernel
theorem dX3_traitOf_50 : decode cX3_traitOf 50 = .ok (.aload_n 0, 1) := by decide +kernel
theorem dX3_traitOf_51 : decode cX3_traitOf 51 = .ok (.getfield 24, 3) := by decide +kernel
theorem dX3_traitOf_54 : decode cX3_traitOf 54 = .ok (.getfield 305, 3) := by decide +kernel
theorem dX3_traitOf_57 : decode cX3_traitOf 57 = .ok (.iload_n 1, 1) := by decide +kernel
theorem dX3_traitOf_58 : decode cX3_traitOf 58 = .ok (.iaload, 1) := by decide +kernel
theorem dX3_traitOf_59 : decode cX3_traitOf 59 = .ok (.ireturn, 1) := by decide +kernel
theorem dX3_traitOf_60 : decode cX3_traitOf 60 = .ok (.aload_n 0, 1) := by decide +kernel
theorem dX3_traitOf_61 : decode cX3_traitOf 61 = .ok (.getfield 24, 3) := by decide +kernel
theorem dX3_traitOf_64 : decode cX3_traitOf 64 = .ok (.getfield 203, 3) := by decide +kernel
theorem dX3_traitOf_67 : decode cX3_traitOf 67 = .ok (.iload_n 1, 1) := by decide +kernel
theorem dX3_traitOf_68 : decode cX3_traitOf 68 = .ok (.iaload, 1) := by decide +kernel
theorem dX3_traitOf_69 : decode cX3_traitOf 69 = .ok (.ireturn, 1) := by decide +kernel
theorem dX3_traitOf_70 : decode cX3_traitOf 70 = .ok (.aload_n 0, 1) := by decide +kernel
theorem dX3_traitOf_71 : decode cX3_traitOf 71 = .ok (.getfield 24, 3) := by decide +kernel
theorem dX3_traitOf_74 : decode cX3_traitOf 74 = .ok (.iload_n 1, 1) := by decide +kernel
theorem dX3_traitOf_75 : decode cX3_traitOf 75 = .ok (.invokevirtual 148, 3) := by decide +kernel
theorem dX3_traitOf_78 : decode cX3_traitOf 78 = .ok (.ireturn, 1) := by decide +kernel
theorem dX3_traitOf_79 : decode cX3_traitOf 79 = .ok (.aload_n 0, 1) := by decide +kernel
theorem dX3_traitOf_80 : decode cX3_traitOf 80 = .ok (.getfield 24, 3) := by decide +kernel
theorem dX3_traitOf_83 : decode cX3_traitOf 83 = .ok (.iload_n 1, 1) := by decide +kernel
theorem dX3_traitOf_84 : decode cX3_traitOf 84 = .ok (.aload_n 0, 1) := by decide +kernel
theorem dX3_traitOf_85 : decode cX3_traitOf 85 = .ok (.getfield 24, 3) := by decide +kernel
theorem dX3_traitOf_88 : decode cX3_traitOf 88 = .ok (.getfield 203, 3) := by decide +kernel
theorem dX3_traitOf_91 : decode cX3_traitOf 91 = .ok (.invokevirtual 308, 3) := by decide +kernel
theorem dX3_traitOf_94 : decode cX3_traitOf 94 = .ok (.ireturn, 1) := by decide +kernel
theorem dX3_traitOf_95 : decode cX3_traitOf 95 = .ok (.aload_n 0, 1) := by decide +kernel
theorem dX3_traitOf_96 : decode cX3_traitOf 96 = .ok (.getfield 24, 3) := by decide +kernel
theorem dX3_traitOf_99 : decode cX3_traitOf 99 = .ok (.iload_n 1, 1) := by decide +kernel
theorem dX3_traitOf_100 : decode cX3_traitOf 100 = .ok (.invokevirtual 244, 3) := by decide +kernel
theorem dX3_traitOf_103 : decode cX3_traitOf 103 = .ok (.ifCond .eq 7, 3) := by decide +kernel
theorem dX3_traitOf_106 : decode cX3_traitOf 106 = .ok (.iconst 0, 1) := by decide +kernel
theorem dX3_traitOf_107 : decode cX3_traitOf 107 = .ok (.goto 4, 3) := by decide +kernel
theorem dX3_traitOf_110 : decode cX3_traitOf 110 = .ok (.iconst 1, 1) := by decide +kernel
theorem dX3_traitOf_111 : decode cX3_traitOf 111 = .ok (.ireturn, 1) := by decide +kernel
theorem dX3_traitOf_112 : decode cX3_traitOf 112 = .ok (.aload_n 0, 1) := by decide +kernel
theorem dX3_traitOf_113 : decode cX3_traitOf 113 = .ok (.getfield 24, 3) := by decide +kernel
theorem dX3_traitOf_116 : decode cX3_traitOf 116 = .ok (.iload_n 1, 1) := by decide +kernel
theorem dX3_traitOf_117 : decode cX3_traitOf 117 = .ok (.invokevirtual 182, 3) := by decide +kernel
theorem dX3_traitOf_120 : decode cX3_traitOf 120 = .ok (.ifCond .eq 7, 3) := by decide +kernel
theorem dX3_traitOf_123 : decode cX3_traitOf 123 = .ok (.iconst 1, 1) := by decide +kernel
theorem dX3_traitOf_124 : decode cX3_traitOf 124 = .ok (.goto 4, 3) := by decide +kernel
theorem dX3_traitOf_127 : decode cX3_traitOf 127 = .ok (.iconst 0, 1) := by decide +kernel
theorem dX3_traitOf_128 : decode cX3_traitOf 128 = .ok (.ireturn, 1) := by decide +kernel
theorem dX3_countOf_0 : decode cX3_countOf 0 = .ok (.iload_n 1, 1) := by decide +kernel
theorem dX3_countOf_1 : decode cX3_countOf 1 = .ok (.tableswitch 165 0 10 #[59, 67, 78, 86, 94, 102, 110, 121, 129, 137, 142], 59) := by decide +kernel
theorem dX3_countOf_60 : decode cX3_countOf 60 = .ok (.aload_n 0, 1) := by decide +kernel
theorem dX3_countOf_61 : decode cX3_countOf 61 = .ok (.getfield 24, 3) := by decide +kernel
theorem dX3_countOf_64 : decode cX3_countOf 64 = .ok (.getfield 126, 3) := by decide +kernel
theorem dX3_countOf_67 : decode cX3_countOf 67 = .ok (.ireturn, 1) := by decide +kernel
theorem dX3_countOf_68 : decode cX3_countOf 68 = .ok (.aload_n 0, 1) := by decide +kernel
theorem dX3_countOf_69 : decode cX3_countOf 69 = .ok (.getfield 24, 3) := by decide +kernel
theorem dX3_countOf_72 : decode cX3_countOf 72 = .ok (.getfield 185, 3) := by decide +kernel
theorem dX3_countOf_75 : decode cX3_countOf 75 = .ok (.invokestatic 140, 3) := by decide +kernel
theorem dX3_countOf_78 : decode cX3_countOf 78 = .ok (.ireturn, 1) := by decide +kernel
theorem dX3_countOf_79 : decode cX3_countOf 79 = .ok (.aload_n 0, 1) := by decide +kernel
theorem dX3_countOf_80 : decode cX3_countOf 80 = .ok (.getfield 24, 3) := by decide +kernel
theorem dX3_countOf_83 : decode cX3_countOf 83 = .ok (.getfield 188, 3) := by decide +kernel
theorem dX3_countOf_86 : decode cX3_countOf 86 = .ok (.ireturn, 1) := by decide +kernel
theorem dX3_countOf_87 : decode cX3_countOf 87 = .ok (.aload_n 0, 1) := by decide +kernel
theorem dX3_countOf_88 : decode cX3_countOf 88 = .ok (.getfield 24, 3) := by decide +kernel
theorem dX3_countOf_91 : decode cX3_countOf 91 = .ok (.getfield 197, 3) := by decide +kernel
theorem dX3_countOf_94 : decode cX3_countOf 94 = .ok (.ireturn, 1) := by decide +kernel
theorem dX3_countOf_95 : decode cX3_countOf 95 = .ok (.aload_n 0, 1) := by decide +kernel
theorem dX3_countOf_96 : decode cX3_countOf 96 = .ok (.getfield 24, 3) := by decide +kernel
theorem dX3_countOf_99 : decode cX3_countOf 99 = .ok (.getfield 185, 3) := by decide +kernel
theorem dX3_countOf_102 : decode cX3_countOf 102 = .ok (.ireturn, 1) := by decide +kernel
theorem dX3_countOf_103 : decode cX3_countOf 103 = .ok (.aload_n 0, 1) := by decide +kernel
theorem dX3_countOf_104 : decode cX3_countOf 104 = .ok (.getfield 24, 3) := by decide +kernel
theorem dX3_countOf_107 : decode cX3_countOf 107 = .ok (.getfield 179, 3) := by decide +kernel
theorem dX3_countOf_110 : decode cX3_countOf 110 = .ok (.ireturn, 1) := by decide +kernel
theorem dX3_countOf_111 : decode cX3_countOf 111 = .ok (.aload_n 0, 1) := by decide +kernel
theorem dX3_countOf_112 : decode cX3_countOf 112 = .ok (.getfield 24, 3) := by decide +kernel
theorem dX3_countOf_115 : decode cX3_countOf 115 = .ok (.invokevirtual 200, 3) := by decide +kernel
theorem dX3_countOf_118 : decode cX3_countOf 118 = .ok (.invokestatic 140, 3) := by decide +kernel
theorem dX3_countOf_121 : decode cX3_countOf 121 = .ok (.ireturn, 1) := by decide +kernel
theorem dX3_countOf_122 : decode cX3_countOf 122 = .ok (.aload_n 0, 1) := by decide +kernel
theorem dX3_countOf_123 : decode cX3_countOf 123 = .ok (.getfield 14, 3) := by decide +kernel
theorem dX3_countOf_126 : decode cX3_countOf 126 = .ok (.invokevirtual 312, 3) := by decide +kernel
theorem dX3_countOf_129 : decode cX3_countOf 129 = .ok (.ireturn, 1) := by decide +kernel
theorem dX3_countOf_130 : decode cX3_countOf 130 = .ok (.aload_n 0, 1) := by decide +kernel
theorem dX3_countOf_131 : decode cX3_countOf 131 = .ok (.getfield 18, 3) := by decide +kernel
theorem dX3_countOf_134 : decode cX3_countOf 134 = .ok (.invokevirtual 312, 3) := by decide +kernel
theorem dX3_countOf_137 : decode cX3_countOf 137 = .ok (.ireturn, 1) := by decide +kernel
theorem dX3_countOf_138 : decode cX3_countOf 138 = .ok (.aload_n 0, 1) := by decide +kernel
theorem dX3_countOf_139 : decode cX3_countOf 139 = .ok (.invokevirtual 315, 3) := by decide +kernel
theorem dX3_countOf_142 : decode cX3_countOf 142 = .ok (.ireturn, 1) := by decide +kernel
theorem dX3_countOf_143 : decode cX3_countOf 143 = .ok (.aload_n 0, 1) := by decide +kernel
theorem dX3_countOf_144 : decode cX3_countOf 144 = .ok (.getfield 24, 3) := by decide +kernel
theorem dX3_countOf_147 : decode cX3_countOf 147 = .ok (.getfield 318, 3) := by decide +kernel
theorem dX3_countOf_150 : decode cX3_countOf 150 = .ok (.iconst 4, 1) := by decide +kernel
theorem dX3_countOf_151 : decode cX3_countOf 151 = .ok (.iaload, 1) := by decide +kernel
theorem dX3_countOf_152 : decode cX3_countOf 152 = .ok (.aload_n 0, 1) := by decide +kernel
theorem dX3_countOf_153 : decode cX3_countOf 153 = .ok (.getfield 24, 3) := by decide +kernel
theorem dX3_countOf_156 : decode cX3_countOf 156 = .ok (.getfield 318, 3) := by decide +kernel
theorem dX3_countOf_159 : decode cX3_countOf 159 = .ok (.iconst 5, 1) := by decide +kernel
theorem dX3_countOf_160 : decode cX3_countOf 160 = .ok (.iaload, 1) := by decide +kernel
theorem dX3_countOf_161 : decode cX3_countOf 161 = .ok (.ior, 1) := by decide +kernel
theorem dX3_countOf_162 : decode cX3_countOf 162 = .ok (.invokestatic 140, 3) := by decide +kernel
theorem dX3_countOf_165 : decode cX3_countOf 165 = .ok (.ireturn, 1) := by decide +kernel
theorem dX3_countOf_166 : decode cX3_countOf 166 = .ok (.aload_n 0, 1) := by decide +kernel
theorem dX3_countOf_167 : decode cX3_countOf 167 = .ok (.getfield 24, 3) := by decide +kernel
theorem dX3_countOf_170 : decode cX3_countOf 170 = .ok (.getfield 318, 3) := by decide +kernel
theorem dX3_countOf_173 : decode cX3_countOf 173 = .ok (.iconst 1, 1) := by decide +kernel
theorem dX3_countOf_174 : decode cX3_countOf 174 = .ok (.iaload, 1) := by decide +kernel
theorem dX3_countOf_175 : decode cX3_countOf 175 = .ok (.invokestatic 140, 3) := by decide +kernel
theorem dX3_countOf_178 : decode cX3_countOf 178 = .ok (.ireturn, 1) := by decide +kernel
theorem dX3_keptGates_0 : decode cX3_keptGates 0 = .ok (.iconst 0, 1) := by decide +kernel
theorem dX3_keptGates_1 : decode cX3_keptGates 1 = .ok (.istore_n 1, 1) := by decide +kernel
theorem dX3_keptGates_2 : decode cX3_keptGates 2 = .ok (.iconst 0, 1) := by decide +kernel
theorem dX3_keptGates_3 : decode cX3_keptGates 3 = .ok (.istore_n 2, 1) := by decide +kernel
theorem dX3_keptGates_4 : decode cX3_keptGates 4 = .ok (.iload_n 2, 1) := by decide +kernel
theorem dX3_keptGates_5 : decode cX3_keptGates 5 = .ok (.iconst 3, 1) := by decide +kernel
theorem dX3_keptGates_6 : decode cX3_keptGates 6 = .ok (.if_icmp .ge 21, 3) := by decide +kernel
theorem dX3_keptGates_9 : decode cX3_keptGates 9 = .ok (.aload_n 0, 1) := by decide +kernel
theorem dX3_keptGates_10 : decode cX3_keptGates 10 = .ok (.getfield 40, 3) := by decide +kernel
theorem dX3_keptGates_13 : decode cX3_keptGates 13 = .ok (.iload_n 2, 1) := by decide +kernel
theorem dX3_keptGates_14 : decode cX3_keptGates 14 = .ok (.iaload, 1) := by decide +kernel
theorem dX3_keptGates_15 : decode cX3_keptGates 15 = .ok (.ifCond .lt 6, 3) := by decide +kernel
theorem dX3_keptGates_18 : decode cX3_keptGates 18 = .ok (.iinc 1 1, 3) := by decide +kernel
theorem dX3_keptGates_21 : decode cX3_keptGates 21 = .ok (.iinc 2 1, 3) := by decide +kernel
theorem dX3_keptGates_24 : decode cX3_keptGates 24 = .ok (.goto (-20), 3) := by decide +kernel
theorem dX3_keptGates_27 : decode cX3_keptGates 27 = .ok (.iload_n 1, 1) := by decide +kernel
theorem dX3_keptGates_28 : decode cX3_keptGates 28 = .ok (.ireturn, 1) := by decide +kernel
theorem dX3_allCome_0 : decode cX3_allCome 0 = .ok (.aload_n 0, 1) := by decide +kernel
theorem dX3_allCome_1 : decode cX3_allCome 1 = .ok (.getfield 31, 3) := by decide +kernel
theorem dX3_allCome_4 : decode cX3_allCome 4 = .ok (.aload_n 0, 1) := by decide +kernel
theorem dX3_allCome_5 : decode cX3_allCome 5 = .ok (.getfield 24, 3) := by decide +kernel
theorem dX3_allCome_8 : decode cX3_allCome 8 = .ok (.aload_n 1, 1) := by decide +kernel
theorem dX3_allCome_9 : decode cX3_allCome 9 = .ok (.invokevirtual 321, 3) := by decide +kernel
theorem dX3_allCome_12 : decode cX3_allCome 12 = .ok (.aload_n 0, 1) := by decide +kernel
theorem dX3_allCome_13 : decode cX3_allCome 13 = .ok (.getfield 31, 3) := by decide +kernel
theorem dX3_allCome_16 : decode cX3_allCome 16 = .ok (.invokevirtual 324, 3) := by decide +kernel
theorem dX3_allCome_19 : decode cX3_allCome 19 = .ok (.ifCond .ne 5, 3) := by decide +kernel
theorem dX3_allCome_22 : decode cX3_allCome 22 = .ok (.iconst 0, 1) := by decide +kernel
theorem dX3_allCome_23 : decode cX3_allCome 23 = .ok (.ireturn, 1) := by decide +kernel
theorem dX3_allCome_24 : decode cX3_allCome 24 = .ok (.aload_n 0, 1) := by decide +kernel
theorem dX3_allCome_25 : decode cX3_allCome 25 = .ok (.getfield 31, 3) := by decide +kernel
theorem dX3_allCome_28 : decode cX3_allCome 28 = .ok (.invokevirtual 328, 3) := by decide +kernel
theorem dX3_allCome_31 : decode cX3_allCome 31 = .ok (.aload_n 0, 1) := by decide +kernel
theorem dX3_allCome_32 : decode cX3_allCome 32 = .ok (.getfield 31, 3) := by decide +kernel
theorem dX3_allCome_35 : decode cX3_allCome 35 = .ok (.aload_n 0, 1) := by decide +kernel
theorem dX3_allCome_36 : decode cX3_allCome 36 = .ok (.getfield 31, 3) := by decide +kernel
theorem dX3_allCome_39 : decode cX3_allCome 39 = .ok (.getfield 216, 3) := by decide +kernel
theorem dX3_allCome_42 : decode cX3_allCome 42 = .ok (.invokevirtual 224, 3) := by decide +kernel
theorem dX3_allCome_45 : decode cX3_allCome 45 = .ok (.ireturn, 1) := by decide +kernel
theorem dX3_firstMeeting_0 : decode cX3_firstMeeting 0 = .ok (.iconst 0, 1) := by decide +kernel
theorem dX3_firstMeeting_1 : decode cX3_firstMeeting 1 = .ok (.istore_n 3, 1) := by decide +kernel
theorem dX3_firstMeeting_2 : decode cX3_firstMeeting 2 = .ok (.iload_n 3, 1) := by decide +kernel
theorem dX3_firstMeeting_3 : decode cX3_firstMeeting 3 = .ok (.aload_n 0, 1) := by decide +kernel
theorem dX3_firstMeeting_4 : decode cX3_firstMeeting 4 = .ok (.getfield 24, 3) := by decide +kernel
theorem dX3_firstMeeting_7 : decode cX3_firstMeeting 7 = .ok (.getfield 126, 3) := by decide +kernel
theorem dX3_firstMeeting_10 : decode cX3_firstMeeting 10 = .ok (.if_icmp .ge 73, 3) := by decide +kernel
theorem dX3_firstMeeting_13 : decode cX3_firstMeeting 13 = .ok (.iload_n 3, 1) := by decide +kernel
theorem dX3_firstMeeting_14 : decode cX3_firstMeeting 14 = .ok (.iconst 1, 1) := by decide +kernel
theorem dX3_firstMeeting_15 : decode cX3_firstMeeting 15 = .ok (.iadd, 1) := by decide +kernel
theorem dX3_firstMeeting_16 : decode cX3_firstMeeting 16 = .ok (.istore 4, 2) := by decide +kernel
theorem dX3_firstMeeting_18 : decode cX3_firstMeeting 18 = .ok (.iload 4, 2) := by decide +kernel
theorem dX3_firstMeeting_20 : decode cX3_firstMeeting 20 = .ok (.aload_n 0, 1) := by decide +kernel
theorem dX3_firstMeeting_21 : decode cX3_firstMeeting 21 = .ok (.getfield 24, 3) := by decide +kernel
theorem dX3_firstMeeting_24 : decode cX3_firstMeeting 24 = .ok (.getfield 126, 3) := by decide +kernel
theorem dX3_firstMeeting_27 : decode cX3_firstMeeting 27 = .ok (.if_icmp .ge 50, 3) := by decide +kernel
theorem dX3_firstMeeting_30 : decode cX3_firstMeeting 30 = .ok (.aload_n 0, 1) := by decide +kernel
theorem dX3_firstMeeting_31 : decode cX3_firstMeeting 31 = .ok (.getfield 24, 3) := by decide +kernel
theorem dX3_firstMeeting_34 : decode cX3_firstMeeting 34 = .ok (.iload_n 3, 1) := by decide +kernel
theorem dX3_firstMeeting_35 : decode cX3_firstMeeting 35 = .ok (.iload 4, 2) := by decide +kernel
theorem dX3_firstMeeting_37 : decode cX3_firstMeeting 37 = .ok (.invokevirtual 162, 3) := by decide +kernel
theorem dX3_firstMeeting_40 : decode cX3_firstMeeting 40 = .ok (.ifCond .eq 31, 3) := by decide +kernel
theorem dX3_firstMeeting_43 : decode cX3_firstMeeting 43 = .ok (.aload_n 0, 1) := by decide +kernel
theorem dX3_firstMeeting_44 : decode cX3_firstMeeting 44 = .ok (.getfield 24, 3) := by decide +kernel
theorem dX3_firstMeeting_47 : decode cX3_firstMeeting 47 = .ok (.iload_n 3, 1) := by decide +kernel
theorem dX3_firstMeeting_48 : decode cX3_firstMeeting 48 = .ok (.iload 4, 2) := by decide +kernel
theorem dX3_firstMeeting_50 : decode cX3_firstMeeting 50 = .ok (.aload_n 1, 1) := by decide +kernel
theorem dX3_firstMeeting_51 : decode cX3_firstMeeting 51 = .ok (.aload_n 2, 1) := by decide +kernel
theorem dX3_firstMeeting_52 : decode cX3_firstMeeting 52 = .ok (.invokevirtual 331, 3) := by decide +kernel
theorem dX3_firstMeeting_55 : decode cX3_firstMeeting 55 = .ok (.aload_n 0, 1) := by decide +kernel
theorem dX3_firstMeeting_56 : decode cX3_firstMeeting 56 = .ok (.aload_n 2, 1) := by decide +kernel
theorem dX3_firstMeeting_57 : decode cX3_firstMeeting 57 = .ok (.invokevirtual 233, 3) := by decide +kernel
theorem dX3_firstMeeting_60 : decode cX3_firstMeeting 60 = .ok (.ifCond .eq 11, 3) := by decide +kernel
theorem dX3_firstMeeting_63 : decode cX3_firstMeeting 63 = .ok (.bipush 10, 2) := by decide +kernel
theorem dX3_firstMeeting_65 : decode cX3_firstMeeting 65 = .ok (.iload_n 3, 1) := by decide +kernel
theorem dX3_firstMeeting_66 : decode cX3_firstMeeting 66 = .ok (.imul, 1) := by decide +kernel
theorem dX3_firstMeeting_67 : decode cX3_firstMeeting 67 = .ok (.iload 4, 2) := by decide +kernel
theorem dX3_firstMeeting_69 : decode cX3_firstMeeting 69 = .ok (.iadd, 1) := by decide +kernel
theorem dX3_firstMeeting_70 : decode cX3_firstMeeting 70 = .ok (.ireturn, 1) := by decide +kernel
theorem dX3_firstMeeting_71 : decode cX3_firstMeeting 71 = .ok (.iinc 4 1, 3) := by decide +kernel
theorem dX3_firstMeeting_74 : decode cX3_firstMeeting 74 = .ok (.goto (-56), 3) := by decide +kernel
theorem dX3_firstMeeting_77 : decode cX3_firstMeeting 77 = .ok (.iinc 3 1, 3) := by decide +kernel
theorem dX3_firstMeeting_80 : decode cX3_firstMeeting 80 = .ok (.goto (-78), 3) := by decide +kernel
theorem dX3_firstMeeting_83 : decode cX3_firstMeeting 83 = .ok (.bipush (-9), 2) := by decide +kernel
theorem dX3_firstMeeting_85 : decode cX3_firstMeeting 85 = .ok (.ireturn, 1) := by decide +kernel
theorem dX3_firstTwoMeetings_0 : decode cX3_firstTwoMeetings 0 = .ok (.iconst 0, 1) := by decide +kernel
theorem dX3_firstTwoMeetings_1 : decode cX3_firstTwoMeetings 1 = .ok (.istore_n 1, 1) := by decide +kernel
theorem dX3_firstTwoMeetings_2 : decode cX3_firstTwoMeetings 2 = .ok (.iload_n 1, 1) := by decide +kernel
theorem dX3_firstTwoMeetings_3 : decode cX3_firstTwoMeetings 3 = .ok (.aload_n 0, 1) := by decide +kernel
theorem dX3_firstTwoMeetings_4 : decode cX3_firstTwoMeetings 4 = .ok (.getfield 24, 3) := by decide +kernel
theorem dX3_firstTwoMeetings_7 : decode cX3_firstTwoMeetings 7 = .ok (.getfield 126, 3) := by decide +kernel
theorem dX3_firstTwoMeetings_10 : decode cX3_firstTwoMeetings 10 = .ok (.if_icmp .ge 93, 3) := by decide +kernel
theorem dX3_firstTwoMeetings_13 : decode cX3_firstTwoMeetings 13 = .ok (.iload_n 1, 1) := by decide +kernel
theorem dX3_firstTwoMeetings_14 : decode cX3_firstTwoMeetings 14 = .ok (.iconst 1, 1) := by decide +kernel
theorem dX3_firstTwoMeetings_15 : decode cX3_firstTwoMeetings 15 = .ok (.iadd, 1) := by decide +kernel
theorem dX3_firstTwoMeetings_16 : decode cX3_firstTwoMeetings 16 = .ok (.istore_n 2, 1) := by decide +kernel
theorem dX3_firstTwoMeetings_17 : decode cX3_firstTwoMeetings 17 = .ok (.iload_n 2, 1) := by decide +kernel
theorem dX3_firstTwoMeetings_18 : decode cX3_firstTwoMeetings 18 = .ok (.aload_n 0, 1) := by decide +kernel
theorem dX3_firstTwoMeetings_19 : decode cX3_firstTwoMeetings 19 = .ok (.getfield 24, 3) := by decide +kernel
theorem dX3_firstTwoMeetings_22 : decode cX3_firstTwoMeetings 22 = .ok (.getfield 126, 3) := by decide +kernel
theorem dX3_firstTwoMeetings_25 : decode cX3_firstTwoMeetings 25 = .ok (.if_icmp .ge 72, 3) := by decide +kernel
theorem dX3_firstTwoMeetings_28 : decode cX3_firstTwoMeetings 28 = .ok (.aload_n 0, 1) := by decide +kernel
theorem dX3_firstTwoMeetings_29 : decode cX3_firstTwoMeetings 29 = .ok (.getfield 24, 3) := by decide +kernel
theorem dX3_firstTwoMeetings_32 : decode cX3_firstTwoMeetings 32 = .ok (.iload_n 1, 1) := by decide +kernel
theorem dX3_firstTwoMeetings_33 : decode cX3_firstTwoMeetings 33 = .ok (.iload_n 2, 1) := by decide +kernel
theorem dX3_firstTwoMeetings_34 : decode cX3_firstTwoMeetings 34 = .ok (.invokevirtual 162, 3) := by decide +kernel
theorem dX3_firstTwoMeetings_37 : decode cX3_firstTwoMeetings 37 = .ok (.ifCond .eq 54, 3) := by decide +kernel
theorem dX3_firstTwoMeetings_40 : decode cX3_firstTwoMeetings 40 = .ok (.aload_n 0, 1) := by decide +kernel
theorem dX3_firstTwoMeetings_41 : decode cX3_firstTwoMeetings 41 = .ok (.getfield 24, 3) := by decide +kernel
theorem dX3_firstTwoMeetings_44 : decode cX3_firstTwoMeetings 44 = .ok (.iload_n 1, 1) := by decide +kernel
theorem dX3_firstTwoMeetings_45 : decode cX3_firstTwoMeetings 45 = .ok (.iload_n 2, 1) := by decide +kernel
theorem dX3_firstTwoMeetings_46 : decode cX3_firstTwoMeetings 46 = .ok (.aload_n 0, 1) := by decide +kernel
theorem dX3_firstTwoMeetings_47 : decode cX3_firstTwoMeetings 47 = .ok (.getfield 24, 3) := by decide +kernel
theorem dX3_firstTwoMeetings_50 : decode cX3_firstTwoMeetings 50 = .ok (.getfield 203, 3) := by decide +kernel
theorem dX3_firstTwoMeetings_53 : decode cX3_firstTwoMeetings 53 = .ok (.aload_n 0, 1) := by decide +kernel
theorem dX3_firstTwoMeetings_54 : decode cX3_firstTwoMeetings 54 = .ok (.getfield 44, 3) := by decide +kernel
theorem dX3_firstTwoMeetings_57 : decode cX3_firstTwoMeetings 57 = .ok (.invokevirtual 331, 3) := by decide +kernel
theorem dX3_firstTwoMeetings_60 : decode cX3_firstTwoMeetings 60 = .ok (.aload_n 0, 1) := by decide +kernel
theorem dX3_firstTwoMeetings_61 : decode cX3_firstTwoMeetings 61 = .ok (.aload_n 0, 1) := by decide +kernel
theorem dX3_firstTwoMeetings_62 : decode cX3_firstTwoMeetings 62 = .ok (.getfield 44, 3) := by decide +kernel
theorem dX3_firstTwoMeetings_65 : decode cX3_firstTwoMeetings 65 = .ok (.aload_n 0, 1) := by decide +kernel
theorem dX3_firstTwoMeetings_66 : decode cX3_firstTwoMeetings 66 = .ok (.getfield 47, 3) := by decide +kernel
theorem dX3_firstTwoMeetings_69 : decode cX3_firstTwoMeetings 69 = .ok (.invokevirtual 237, 3) := by decide +kernel
theorem dX3_firstTwoMeetings_72 : decode cX3_firstTwoMeetings 72 = .ok (.istore_n 3, 1) := by decide +kernel
theorem dX3_firstTwoMeetings_73 : decode cX3_firstTwoMeetings 73 = .ok (.iload_n 3, 1) := by decide +kernel
theorem dX3_firstTwoMeetings_74 : decode cX3_firstTwoMeetings 74 = .ok (.bipush (-9), 2) := by decide +kernel
theorem dX3_firstTwoMeetings_76 : decode cX3_firstTwoMeetings 76 = .ok (.if_icmp .eq 15, 3) := by decide +kernel
theorem dX3_firstTwoMeetings_79 : decode cX3_firstTwoMeetings 79 = .ok (.bipush 100, 2) := by decide +kernel
theorem dX3_firstTwoMeetings_81 : decode cX3_firstTwoMeetings 81 = .ok (.bipush 10, 2) := by decide +kernel
theorem dX3_firstTwoMeetings_83 : decode cX3_firstTwoMeetings 83 = .ok (.iload_n 1, 1) := by decide +kernel
theorem dX3_firstTwoMeetings_84 : decode cX3_firstTwoMeetings 84 = .ok (.imul, 1) := by decide +kernel
theorem dX3_firstTwoMeetings_85 : decode cX3_firstTwoMeetings 85 = .ok (.iload_n 2, 1) := by decide +kernel
theorem dX3_firstTwoMeetings_86 : decode cX3_firstTwoMeetings 86 = .ok (.iadd, 1) := by decide +kernel
theorem dX3_firstTwoMeetings_87 : decode cX3_firstTwoMeetings 87 = .ok (.imul, 1) := by decide +kernel
theorem dX3_firstTwoMeetings_88 : decode cX3_firstTwoMeetings 88 = .ok (.iload_n 3, 1) := by decide +kernel
theorem dX3_firstTwoMeetings_89 : decode cX3_firstTwoMeetings 89 = .ok (.iadd, 1) := by decide +kernel
theorem dX3_firstTwoMeetings_90 : decode cX3_firstTwoMeetings 90 = .ok (.ireturn, 1) := by decide +kernel
theorem dX3_firstTwoMeetings_91 : decode cX3_firstTwoMeetings 91 = .ok (.iinc 2 1, 3) := by decide +kernel
theorem dX3_firstTwoMeetings_94 : decode cX3_firstTwoMeetings 94 = .ok (.goto (-77), 3) := by decide +kernel
theorem dX3_firstTwoMeetings_97 : decode cX3_firstTwoMeetings 97 = .ok (.iinc 1 1, 3) := by decide +kernel
theorem dX3_firstTwoMeetings_100 : decode cX3_firstTwoMeetings 100 = .ok (.goto (-98), 3) := by decide +kernel
theorem dX3_firstTwoMeetings_103 : decode cX3_firstTwoMeetings 103 = .ok (.bipush (-9), 2) := by decide +kernel
theorem dX3_firstTwoMeetings_105 : decode cX3_firstTwoMeetings 105 = .ok (.ireturn, 1) := by decide +kernel
theorem dX3_mostByCardOf_0 : decode cX3_mostByCardOf 0 = .ok (.aload_n 0, 1) := by decide +kernel
theorem dX3_mostByCardOf_1 : decode cX3_mostByCardOf 1 = .ok (.getfield 24, 3) := by decide +kernel
theorem dX3_mostByCardOf_4 : decode cX3_mostByCardOf 4 = .ok (.getfield 179, 3) := by decide +kernel
theorem dX3_mostByCardOf_7 : decode cX3_mostByCardOf 7 = .ok (.aload_n 0, 1) := by decide +kernel
theorem dX3_mostByCardOf_8 : decode cX3_mostByCardOf 8 = .ok (.getfield 24, 3) := by decide +kernel
theorem dX3_mostByCardOf_11 : decode cX3_mostByCardOf 11 = .ok (.iload_n 1, 1) := by decide +kernel
theorem dX3_mostByCardOf_12 : decode cX3_mostByCardOf 12 = .ok (.invokevirtual 148, 3) := by decide +kernel
theorem dX3_mostByCardOf_15 : decode cX3_mostByCardOf 15 = .ok (.ior, 1) := by decide +kernel
theorem dX3_mostByCardOf_16 : decode cX3_mostByCardOf 16 = .ok (.istore_n 2, 1) := by decide +kernel
theorem dX3_mostByCardOf_17 : decode cX3_mostByCardOf 17 = .ok (.iconst 0, 1) := by decide +kernel
theorem dX3_mostByCardOf_18 : decode cX3_mostByCardOf 18 = .ok (.istore_n 3, 1) := by decide +kernel
theorem dX3_mostByCardOf_19 : decode cX3_mostByCardOf 19 = .ok (.iload_n 3, 1) := by decide +kernel
theorem dX3_mostByCardOf_20 : decode cX3_mostByCardOf 20 = .ok (.aload_n 0, 1) := by decide +kernel
theorem dX3_mostByCardOf_21 : decode cX3_mostByCardOf 21 = .ok (.getfield 24, 3) := by decide +kernel
theorem dX3_mostByCardOf_24 : decode cX3_mostByCardOf 24 = .ok (.getfield 126, 3) := by decide +kernel
theorem dX3_mostByCardOf_27 : decode cX3_mostByCardOf 27 = .ok (.if_icmp .ge 72, 3) := by decide +kernel
theorem dX3_mostByCardOf_30 : decode cX3_mostByCardOf 30 = .ok (.iload_n 3, 1) := by decide +kernel
theorem dX3_mostByCardOf_31 : decode cX3_mostByCardOf 31 = .ok (.iload_n 1, 1) := by decide +kernel
theorem dX3_mostByCardOf_32 : decode cX3_mostByCardOf 32 = .ok (.if_icmp .eq 18, 3) := by decide +kernel
theorem dX3_mostByCardOf_35 : decode cX3_mostByCardOf 35 = .ok (.aload_n 0, 1) := by decide +kernel
theorem dX3_mostByCardOf_36 : decode cX3_mostByCardOf 36 = .ok (.getfield 24, 3) := by decide +kernel
theorem dX3_mostByCardOf_39 : decode cX3_mostByCardOf 39 = .ok (.iload_n 3, 1) := by decide +kernel
theorem dX3_mostByCardOf_40 : decode cX3_mostByCardOf 40 = .ok (.invokevirtual 244, 3) := by decide +kernel
theorem dX3_mostByCardOf_43 : decode cX3_mostByCardOf 43 = .ok (.ifCond .eq 7, 3) := by decide +kernel
theorem dX3_mostByCardOf_46 : decode cX3_mostByCardOf 46 = .ok (.iconst 1, 1) := by decide +kernel
theorem dX3_mostByCardOf_47 : decode cX3_mostByCardOf 47 = .ok (.goto 4, 3) := by decide +kernel
theorem dX3_mostByCardOf_50 : decode cX3_mostByCardOf 50 = .ok (.iconst 0, 1) := by decide +kernel
theorem dX3_mostByCardOf_51 : decode cX3_mostByCardOf 51 = .ok (.istore 4, 2) := by decide +kernel
theorem dX3_mostByCardOf_53 : decode cX3_mostByCardOf 53 = .ok (.aload_n 0, 1) := by decide +kernel
theorem dX3_mostByCardOf_54 : decode cX3_mostByCardOf 54 = .ok (.getfield 44, 3) := by decide +kernel
theorem dX3_mostByCardOf_57 : decode cX3_mostByCardOf 57 = .ok (.iload_n 3, 1) := by decide +kernel
theorem dX3_mostByCardOf_58 : decode cX3_mostByCardOf 58 = .ok (.iload 4, 2) := by decide +kernel
theorem dX3_mostByCardOf_60 : decode cX3_mostByCardOf 60 = .ok (.ifCond .eq 23, 3) := by decide +kernel
theorem dX3_mostByCardOf_63 : decode cX3_mostByCardOf 63 = .ok (.aload_n 0, 1) := by decide +kernel
theorem dX3_mostByCardOf_64 : decode cX3_mostByCardOf 64 = .ok (.getfield 24, 3) := by decide +kernel
theorem dX3_mostByCardOf_67 : decode cX3_mostByCardOf 67 = .ok (.getfield 203, 3) := by decide +kernel
theorem dX3_mostByCardOf_70 : decode cX3_mostByCardOf 70 = .ok (.iload_n 3, 1) := by decide +kernel
theorem dX3_mostByCardOf_71 : decode cX3_mostByCardOf 71 = .ok (.iaload, 1) := by decide +kernel
theorem dX3_mostByCardOf_72 : decode cX3_mostByCardOf 72 = .ok (.iload_n 2, 1) := by decide +kernel
theorem dX3_mostByCardOf_73 : decode cX3_mostByCardOf 73 = .ok (.iconst 1, 1) := by decide +kernel
theorem dX3_mostByCardOf_74 : decode cX3_mostByCardOf 74 = .ok (.iload_n 3, 1) := by decide +kernel
theorem dX3_mostByCardOf_75 : decode cX3_mostByCardOf 75 = .ok (.ishl, 1) := by decide +kernel
theorem dX3_mostByCardOf_76 : decode cX3_mostByCardOf 76 = .ok (.iconst (-1), 1) := by decide +kernel
theorem dX3_mostByCardOf_77 : decode cX3_mostByCardOf 77 = .ok (.ixor, 1) := by decide +kernel
theorem dX3_mostByCardOf_78 : decode cX3_mostByCardOf 78 = .ok (.iand, 1) := by decide +kernel
theorem dX3_mostByCardOf_79 : decode cX3_mostByCardOf 79 = .ok (.ior, 1) := by decide +kernel
theorem dX3_mostByCardOf_80 : decode cX3_mostByCardOf 80 = .ok (.goto 12, 3) := by decide +kernel
theorem dX3_mostByCardOf_83 : decode cX3_mostByCardOf 83 = .ok (.aload_n 0, 1) := by decide +kernel
theorem dX3_mostByCardOf_84 : decode cX3_mostByCardOf 84 = .ok (.getfield 24, 3) := by decide +kernel
theorem dX3_mostByCardOf_87 : decode cX3_mostByCardOf 87 = .ok (.getfield 203, 3) := by decide +kernel
theorem dX3_mostByCardOf_90 : decode cX3_mostByCardOf 90 = .ok (.iload_n 3, 1) := by decide +kernel
theorem dX3_mostByCardOf_91 : decode cX3_mostByCardOf 91 = .ok (.iaload, 1) := by decide +kernel
theorem dX3_mostByCardOf_92 : decode cX3_mostByCardOf 92 = .ok (.iastore, 1) := by decide +kernel
theorem dX3_mostByCardOf_93 : decode cX3_mostByCardOf 93 = .ok (.iinc 3 1, 3) := by decide +kernel
theorem dX3_mostByCardOf_96 : decode cX3_mostByCardOf 96 = .ok (.goto (-77), 3) := by decide +kernel
theorem dX3_mostByCardOf_99 : decode cX3_mostByCardOf 99 = .ok (.aload_n 0, 1) := by decide +kernel
theorem dX3_mostByCardOf_100 : decode cX3_mostByCardOf 100 = .ok (.getfield 31, 3) := by decide +kernel
theorem dX3_mostByCardOf_103 : decode cX3_mostByCardOf 103 = .ok (.aload_n 0, 1) := by decide +kernel
theorem dX3_mostByCardOf_104 : decode cX3_mostByCardOf 104 = .ok (.getfield 24, 3) := by decide +kernel
theorem dX3_mostByCardOf_107 : decode cX3_mostByCardOf 107 = .ok (.aload_n 0, 1) := by decide +kernel
theorem dX3_mostByCardOf_108 : decode cX3_mostByCardOf 108 = .ok (.getfield 44, 3) := by decide +kernel
theorem dX3_mostByCardOf_111 : decode cX3_mostByCardOf 111 = .ok (.invokevirtual 206, 3) := by decide +kernel
theorem dX3_mostByCardOf_114 : decode cX3_mostByCardOf 114 = .ok (.aload_n 0, 1) := by decide +kernel
theorem dX3_mostByCardOf_115 : decode cX3_mostByCardOf 115 = .ok (.getfield 31, 3) := by decide +kernel
theorem dX3_mostByCardOf_118 : decode cX3_mostByCardOf 118 = .ok (.invokevirtual 210, 3) := by decide +kernel
theorem dX3_mostByCardOf_121 : decode cX3_mostByCardOf 121 = .ok (.aload_n 0, 1) := by decide +kernel
theorem dX3_mostByCardOf_122 : decode cX3_mostByCardOf 122 = .ok (.getfield 31, 3) := by decide +kernel
theorem dX3_mostByCardOf_125 : decode cX3_mostByCardOf 125 = .ok (.getfield 213, 3) := by decide +kernel
theorem dX3_mostByCardOf_128 : decode cX3_mostByCardOf 128 = .ok (.aload_n 0, 1) := by decide +kernel
theorem dX3_mostByCardOf_129 : decode cX3_mostByCardOf 129 = .ok (.getfield 31, 3) := by decide +kernel
theorem dX3_mostByCardOf_132 : decode cX3_mostByCardOf 132 = .ok (.getfield 216, 3) := by decide +kernel
theorem dX3_mostByCardOf_135 : decode cX3_mostByCardOf 135 = .ok (.iaload, 1) := by decide +kernel
theorem dX3_mostByCardOf_136 : decode cX3_mostByCardOf 136 = .ok (.ireturn, 1) := by decide +kernel
theorem dX3_kindsByPairs_0 : decode cX3_kindsByPairs 0 = .ok (.iconst 0, 1) := by decide +kernel
theorem dX3_kindsByPairs_1 : decode cX3_kindsByPairs 1 = .ok (.istore_n 3, 1) := by decide +kernel
theorem dX3_kindsByPairs_2 : decode cX3_kindsByPairs 2 = .ok (.iconst 0, 1) := by decide +kernel
theorem dX3_kindsByPairs_3 : decode cX3_kindsByPairs 3 = .ok (.istore 4, 2) := by decide +kernel
theorem dX3_kindsByPairs_5 : decode cX3_kindsByPairs 5 = .ok (.iload 4, 2) := by decide +kernel
theorem dX3_kindsByPairs_7 : decode cX3_kindsByPairs 7 = .ok (.bipush 6, 2) := by decide +kernel
theorem dX3_kindsByPairs_9 : decode cX3_kindsByPairs 9 = .ok (.if_icmp .ge 27, 3) := by decide +kernel
theorem dX3_kindsByPairs_12 : decode cX3_kindsByPairs 12 = .ok (.aload_n 0, 1) := by decide +kernel
theorem dX3_kindsByPairs_13 : decode cX3_kindsByPairs 13 = .ok (.iload 4, 2) := by decide +kernel
theorem dX3_kindsByPairs_15 : decode cX3_kindsByPairs 15 = .ok (.iload_n 1, 1) := by decide +kernel
theorem dX3_kindsByPairs_16 : decode cX3_kindsByPairs 16 = .ok (.iload_n 2, 1) := by decide +kernel
theorem dX3_kindsByPairs_17 : decode cX3_kindsByPairs 17 = .ok (.invokevirtual 335, 3) := by decide +kernel
theorem dX3_kindsByPairs_20 : decode cX3_kindsByPairs 20 = .ok (.ifCond .eq 10, 3) := by decide +kernel
theorem dX3_kindsByPairs_23 : decode cX3_kindsByPairs 23 = .ok (.iload_n 3, 1) := by decide +kernel
theorem dX3_kindsByPairs_24 : decode cX3_kindsByPairs 24 = .ok (.iconst 1, 1) := by decide +kernel
theorem dX3_kindsByPairs_25 : decode cX3_kindsByPairs 25 = .ok (.iload 4, 2) := by decide +kernel
theorem dX3_kindsByPairs_27 : decode cX3_kindsByPairs 27 = .ok (.ishl, 1) := by decide +kernel
theorem dX3_kindsByPairs_28 : decode cX3_kindsByPairs 28 = .ok (.ior, 1) := by decide +kernel
theorem dX3_kindsByPairs_29 : decode cX3_kindsByPairs 29 = .ok (.istore_n 3, 1) := by decide +kernel
theorem dX3_kindsByPairs_30 : decode cX3_kindsByPairs 30 = .ok (.iinc 4 1, 3) := by decide +kernel
theorem dX3_kindsByPairs_33 : decode cX3_kindsByPairs 33 = .ok (.goto (-28), 3) := by decide +kernel
theorem dX3_kindsByPairs_36 : decode cX3_kindsByPairs 36 = .ok (.iload_n 3, 1) := by decide +kernel
theorem dX3_kindsByPairs_37 : decode cX3_kindsByPairs 37 = .ok (.ireturn, 1) := by decide +kernel
theorem dX3_fitsPairs_0 : decode cX3_fitsPairs 0 = .ok (.aload_n 0, 1) := by decide +kernel
theorem dX3_fitsPairs_1 : decode cX3_fitsPairs 1 = .ok (.getfield 14, 3) := by decide +kernel
theorem dX3_fitsPairs_4 : decode cX3_fitsPairs 4 = .ok (.getfield 81, 3) := by decide +kernel
theorem dX3_fitsPairs_7 : decode cX3_fitsPairs 7 = .ok (.iload_n 3, 1) := by decide +kernel
theorem dX3_fitsPairs_8 : decode cX3_fitsPairs 8 = .ok (.aaload, 1) := by decide +kernel
theorem dX3_fitsPairs_9 : decode cX3_fitsPairs 9 = .ok (.astore 4, 2) := by decide +kernel
theorem dX3_fitsPairs_11 : decode cX3_fitsPairs 11 = .ok (.iconst 0, 1) := by decide +kernel
theorem dX3_fitsPairs_12 : decode cX3_fitsPairs 12 = .ok (.istore 5, 2) := by decide +kernel
theorem dX3_fitsPairs_14 : decode cX3_fitsPairs 14 = .ok (.iload 5, 2) := by decide +kernel
theorem dX3_fitsPairs_16 : decode cX3_fitsPairs 16 = .ok (.iconst 1, 1) := by decide +kernel
theorem dX3_fitsPairs_17 : decode cX3_fitsPairs 17 = .ok (.iadd, 1) := by decide +kernel
theorem dX3_fitsPairs_18 : decode cX3_fitsPairs 18 = .ok (.aload_n 0, 1) := by decide +kernel
theorem dX3_fitsPairs_19 : decode cX3_fitsPairs 19 = .ok (.getfield 14, 3) := by decide +kernel
theorem dX3_fitsPairs_22 : decode cX3_fitsPairs 22 = .ok (.getfield 92, 3) := by decide +kernel
theorem dX3_fitsPairs_25 : decode cX3_fitsPairs 25 = .ok (.iload_n 3, 1) := by decide +kernel
theorem dX3_fitsPairs_26 : decode cX3_fitsPairs 26 = .ok (.iaload, 1) := by decide +kernel
theorem dX3_fitsPairs_27 : decode cX3_fitsPairs 27 = .ok (.if_icmp .ge 31, 3) := by decide +kernel
theorem dX3_fitsPairs_30 : decode cX3_fitsPairs 30 = .ok (.iload_n 1, 1) := by decide +kernel
theorem dX3_fitsPairs_31 : decode cX3_fitsPairs 31 = .ok (.iload_n 2, 1) := by decide +kernel
theorem dX3_fitsPairs_32 : decode cX3_fitsPairs 32 = .ok (.aload 4, 2) := by decide +kernel
theorem dX3_fitsPairs_34 : decode cX3_fitsPairs 34 = .ok (.iload 5, 2) := by decide +kernel
theorem dX3_fitsPairs_36 : decode cX3_fitsPairs 36 = .ok (.iaload, 1) := by decide +kernel
theorem dX3_fitsPairs_37 : decode cX3_fitsPairs 37 = .ok (.invokestatic 158, 3) := by decide +kernel
theorem dX3_fitsPairs_40 : decode cX3_fitsPairs 40 = .ok (.aload 4, 2) := by decide +kernel
theorem dX3_fitsPairs_42 : decode cX3_fitsPairs 42 = .ok (.iload 5, 2) := by decide +kernel
theorem dX3_fitsPairs_44 : decode cX3_fitsPairs 44 = .ok (.iconst 1, 1) := by decide +kernel
theorem dX3_fitsPairs_45 : decode cX3_fitsPairs 45 = .ok (.iadd, 1) := by decide +kernel
theorem dX3_fitsPairs_46 : decode cX3_fitsPairs 46 = .ok (.iaload, 1) := by decide +kernel
theorem dX3_fitsPairs_47 : decode cX3_fitsPairs 47 = .ok (.if_icmp .eq 5, 3) := by decide +kernel
theorem dX3_fitsPairs_50 : decode cX3_fitsPairs 50 = .ok (.iconst 0, 1) := by decide +kernel
theorem dX3_fitsPairs_51 : decode cX3_fitsPairs 51 = .ok (.ireturn, 1) := by decide +kernel
theorem dX3_fitsPairs_52 : decode cX3_fitsPairs 52 = .ok (.iinc 5 2, 3) := by decide +kernel
theorem dX3_fitsPairs_55 : decode cX3_fitsPairs 55 = .ok (.goto (-41), 3) := by decide +kernel
theorem dX3_fitsPairs_58 : decode cX3_fitsPairs 58 = .ok (.iconst 1, 1) := by decide +kernel
theorem dX3_fitsPairs_59 : decode cX3_fitsPairs 59 = .ok (.ireturn, 1) := by decide +kernel
theorem dX3_doByLot_0 : decode cX3_doByLot 0 = .ok (.iload_n 1, 1) := by decide +kernel
theorem dX3_doByLot_1 : decode cX3_doByLot 1 = .ok (.bipush 8, 2) := by decide +kernel
theorem dX3_doByLot_3 : decode cX3_doByLot 3 = .ok (.idiv, 1) := by decide +kernel
theorem dX3_doByLot_4 : decode cX3_doByLot 4 = .ok (.aload_n 0, 1) := by decide +kernel
theorem dX3_doByLot_5 : decode cX3_doByLot 5 = .ok (.getfield 24, 3) := by decide +kernel
theorem dX3_doByLot_8 : decode cX3_doByLot 8 = .ok (.getfield 126, 3) := by decide +kernel
theorem dX3_doByLot_11 : decode cX3_doByLot 11 = .ok (.irem, 1) := by decide +kernel
theorem dX3_doByLot_12 : decode cX3_doByLot 12 = .ok (.istore_n 2, 1) := by decide +kernel
theorem dX3_doByLot_13 : decode cX3_doByLot 13 = .ok (.iload_n 1, 1) := by decide +kernel
theorem dX3_doByLot_14 : decode cX3_doByLot 14 = .ok (.bipush 64, 2) := by decide +kernel
theorem dX3_doByLot_16 : decode cX3_doByLot 16 = .ok (.idiv, 1) := by decide +kernel
theorem dX3_doByLot_17 : decode cX3_doByLot 17 = .ok (.aload_n 0, 1) := by decide +kernel
theorem dX3_doByLot_18 : decode cX3_doByLot 18 = .ok (.getfield 24, 3) := by decide +kernel
theorem dX3_doByLot_21 : decode cX3_doByLot 21 = .ok (.getfield 126, 3) := by decide +kernel
theorem dX3_doByLot_24 : decode cX3_doByLot 24 = .ok (.irem, 1) := by decide +kernel
theorem dX3_doByLot_25 : decode cX3_doByLot 25 = .ok (.istore_n 3, 1) := by decide +kernel
theorem dX3_doByLot_26 : decode cX3_doByLot 26 = .ok (.iload_n 1, 1) := by decide +kernel
theorem dX3_doByLot_27 : decode cX3_doByLot 27 = .ok (.iconst 4, 1) := by decide +kernel
theorem dX3_doByLot_28 : decode cX3_doByLot 28 = .ok (.irem, 1) := by decide +kernel
theorem dX3_doByLot_29 : decode cX3_doByLot 29 = .ok (.tableswitch 112 0 2 #[27, 56, 84], 27) := by decide +kernel
theorem dX3_doByLot_56 : decode cX3_doByLot 56 = .ok (.aload_n 0, 1) := by decide +kernel
theorem dX3_doByLot_57 : decode cX3_doByLot 57 = .ok (.getfield 24, 3) := by decide +kernel
theorem dX3_doByLot_60 : decode cX3_doByLot 60 = .ok (.aload_n 0, 1) := by decide +kernel
theorem dX3_doByLot_61 : decode cX3_doByLot 61 = .ok (.getfield 24, 3) := by decide +kernel
theorem dX3_doByLot_64 : decode cX3_doByLot 64 = .ok (.iload_n 2, 1) := by decide +kernel
theorem dX3_doByLot_65 : decode cX3_doByLot 65 = .ok (.iload_n 3, 1) := by decide +kernel
theorem dX3_doByLot_66 : decode cX3_doByLot 66 = .ok (.invokevirtual 162, 3) := by decide +kernel
theorem dX3_doByLot_69 : decode cX3_doByLot 69 = .ok (.ifCond .eq 7, 3) := by decide +kernel
theorem dX3_doByLot_72 : decode cX3_doByLot 72 = .ok (.iconst 1, 1) := by decide +kernel
theorem dX3_doByLot_73 : decode cX3_doByLot 73 = .ok (.goto 4, 3) := by decide +kernel
theorem dX3_doByLot_76 : decode cX3_doByLot 76 = .ok (.iconst 0, 1) := by decide +kernel
theorem dX3_doByLot_77 : decode cX3_doByLot 77 = .ok (.iload_n 2, 1) := by decide +kernel
theorem dX3_doByLot_78 : decode cX3_doByLot 78 = .ok (.iload_n 3, 1) := by decide +kernel
theorem dX3_doByLot_79 : decode cX3_doByLot 79 = .ok (.invokevirtual 172, 3) := by decide +kernel
theorem dX3_doByLot_82 : decode cX3_doByLot 82 = .ok (.goto 84, 3) := by decide +kernel
theorem dX3_doByLot_85 : decode cX3_doByLot 85 = .ok (.aload_n 0, 1) := by decide +kernel
theorem dX3_doByLot_86 : decode cX3_doByLot 86 = .ok (.getfield 24, 3) := by decide +kernel
theorem dX3_doByLot_89 : decode cX3_doByLot 89 = .ok (.aload_n 0, 1) := by decide +kernel
theorem dX3_doByLot_90 : decode cX3_doByLot 90 = .ok (.getfield 24, 3) := by decide +kernel
theorem dX3_doByLot_93 : decode cX3_doByLot 93 = .ok (.iload_n 2, 1) := by decide +kernel
theorem dX3_doByLot_94 : decode cX3_doByLot 94 = .ok (.invokevirtual 244, 3) := by decide +kernel
theorem dX3_doByLot_97 : decode cX3_doByLot 97 = .ok (.ifCond .eq 7, 3) := by decide +kernel
theorem dX3_doByLot_100 : decode cX3_doByLot 100 = .ok (.iconst 2, 1) := by decide +kernel
theorem dX3_doByLot_101 : decode cX3_doByLot 101 = .ok (.goto 4, 3) := by decide +kernel
theorem dX3_doByLot_104 : decode cX3_doByLot 104 = .ok (.iconst 0, 1) := by decide +kernel
theorem dX3_doByLot_105 : decode cX3_doByLot 105 = .ok (.iload_n 2, 1) := by decide +kernel
theorem dX3_doByLot_106 : decode cX3_doByLot 106 = .ok (.iload_n 3, 1) := by decide +kernel
theorem dX3_doByLot_107 : decode cX3_doByLot 107 = .ok (.invokevirtual 172, 3) := by decide +kernel
theorem dX3_doByLot_110 : decode cX3_doByLot 110 = .ok (.goto 56, 3) := by decide +kernel
theorem dX3_doByLot_113 : decode cX3_doByLot 113 = .ok (.aload_n 0, 1) := by decide +kernel
theorem dX3_doByLot_114 : decode cX3_doByLot 114 = .ok (.getfield 24, 3) := by decide +kernel
theorem dX3_doByLot_117 : decode cX3_doByLot 117 = .ok (.aload_n 0, 1) := by decide +kernel
theorem dX3_doByLot_118 : decode cX3_doByLot 118 = .ok (.getfield 24, 3) := by decide +kernel
theorem dX3_doByLot_121 : decode cX3_doByLot 121 = .ok (.iload_n 2, 1) := by decide +kernel
theorem dX3_doByLot_122 : decode cX3_doByLot 122 = .ok (.invokevirtual 244, 3) := by decide +kernel
theorem dX3_doByLot_125 : decode cX3_doByLot 125 = .ok (.ifCond .eq 7, 3) := by decide +kernel
theorem dX3_doByLot_128 : decode cX3_doByLot 128 = .ok (.iconst 3, 1) := by decide +kernel
theorem dX3_doByLot_129 : decode cX3_doByLot 129 = .ok (.goto 4, 3) := by decide +kernel
theorem dX3_doByLot_132 : decode cX3_doByLot 132 = .ok (.iconst 0, 1) := by decide +kernel
theorem dX3_doByLot_133 : decode cX3_doByLot 133 = .ok (.iload_n 2, 1) := by decide +kernel
theorem dX3_doByLot_134 : decode cX3_doByLot 134 = .ok (.iload_n 3, 1) := by decide +kernel
theorem dX3_doByLot_135 : decode cX3_doByLot 135 = .ok (.invokevirtual 172, 3) := by decide +kernel
theorem dX3_doByLot_138 : decode cX3_doByLot 138 = .ok (.goto 28, 3) := by decide +kernel
theorem dX3_doByLot_141 : decode cX3_doByLot 141 = .ok (.aload_n 0, 1) := by decide +kernel
theorem dX3_doByLot_142 : decode cX3_doByLot 142 = .ok (.getfield 24, 3) := by decide +kernel
theorem dX3_doByLot_145 : decode cX3_doByLot 145 = .ok (.aload_n 0, 1) := by decide +kernel
theorem dX3_doByLot_146 : decode cX3_doByLot 146 = .ok (.getfield 24, 3) := by decide +kernel
theorem dX3_doByLot_149 : decode cX3_doByLot 149 = .ok (.iload_n 2, 1) := by decide +kernel
theorem dX3_doByLot_150 : decode cX3_doByLot 150 = .ok (.invokevirtual 182, 3) := by decide +kernel
theorem dX3_doByLot_153 : decode cX3_doByLot 153 = .ok (.ifCond .eq 7, 3) := by decide +kernel
theorem dX3_doByLot_156 : decode cX3_doByLot 156 = .ok (.iconst 4, 1) := by decide +kernel
theorem dX3_doByLot_157 : decode cX3_doByLot 157 = .ok (.goto 4, 3) := by decide +kernel
theorem dX3_doByLot_160 : decode cX3_doByLot 160 = .ok (.iconst 0, 1) := by decide +kernel
theorem dX3_doByLot_161 : decode cX3_doByLot 161 = .ok (.iload_n 2, 1) := by decide +kernel
theorem dX3_doByLot_162 : decode cX3_doByLot 162 = .ok (.iload_n 3, 1) := by decide +kernel
theorem dX3_doByLot_163 : decode cX3_doByLot 163 = .ok (.invokevirtual 172, 3) := by decide +kernel
theorem dX3_doByLot_166 : decode cX3_doByLot 166 = .ok (.return_, 1) := by decide +kernel
theorem dX3_weightOf_0 : decode cX3_weightOf 0 = .ok (.iload_n 1, 1) := by decide +kernel
theorem dX3_weightOf_1 : decode cX3_weightOf 1 = .ok (.invokestatic 140, 3) := by decide +kernel
theorem dX3_weightOf_4 : decode cX3_weightOf 4 = .ok (.istore_n 3, 1) := by decide +kernel
theorem dX3_weightOf_5 : decode cX3_weightOf 5 = .ok (.aload_n 0, 1) := by decide +kernel
theorem dX3_weightOf_6 : decode cX3_weightOf 6 = .ok (.getfield 31, 3) := by decide +kernel
theorem dX3_weightOf_9 : decode cX3_weightOf 9 = .ok (.getfield 216, 3) := by decide +kernel
theorem dX3_weightOf_12 : decode cX3_weightOf 12 = .ok (.invokestatic 140, 3) := by decide +kernel
theorem dX3_weightOf_15 : decode cX3_weightOf 15 = .ok (.iload_n 3, 1) := by decide +kernel
theorem dX3_weightOf_16 : decode cX3_weightOf 16 = .ok (.isub, 1) := by decide +kernel
theorem dX3_weightOf_17 : decode cX3_weightOf 17 = .ok (.istore 4, 2) := by decide +kernel
theorem dX3_weightOf_19 : decode cX3_weightOf 19 = .ok (.bipush 12, 2) := by decide +kernel
theorem dX3_weightOf_21 : decode cX3_weightOf 21 = .ok (.iload_n 2, 1) := by decide +kernel
theorem dX3_weightOf_22 : decode cX3_weightOf 22 = .ok (.isub, 1) := by decide +kernel
theorem dX3_weightOf_23 : decode cX3_weightOf 23 = .ok (.iload_n 3, 1) := by decide +kernel
theorem dX3_weightOf_24 : decode cX3_weightOf 24 = .ok (.invokestatic 295, 3) := by decide +kernel
theorem dX3_weightOf_27 : decode cX3_weightOf 27 = .ok (.iload_n 2, 1) := by decide +kernel
theorem dX3_weightOf_28 : decode cX3_weightOf 28 = .ok (.iload 4, 2) := by decide +kernel
theorem dX3_weightOf_30 : decode cX3_weightOf 30 = .ok (.invokestatic 295, 3) := by decide +kernel
theorem dX3_weightOf_33 : decode cX3_weightOf 33 = .ok (.lmul, 1) := by decide +kernel
theorem dX3_weightOf_34 : decode cX3_weightOf 34 = .ok (.lreturn, 1) := by decide +kernel
theorem dX3_greatestPart_0 : decode cX3_greatestPart 0 = .ok (.iconst 0, 1) := by decide +kernel
theorem dX3_greatestPart_1 : decode cX3_greatestPart 1 = .ok (.istore_n 3, 1) := by decide +kernel
theorem dX3_greatestPart_2 : decode cX3_greatestPart 2 = .ok (.iconst 0, 1) := by decide +kernel
theorem dX3_greatestPart_3 : decode cX3_greatestPart 3 = .ok (.istore 4, 2) := by decide +kernel
theorem dX3_greatestPart_5 : decode cX3_greatestPart 5 = .ok (.iload 4, 2) := by decide +kernel
theorem dX3_greatestPart_7 : decode cX3_greatestPart 7 = .ok (.bipush 6, 2) := by decide +kernel
theorem dX3_greatestPart_9 : decode cX3_greatestPart 9 = .ok (.if_icmp .ge 85, 3) := by decide +kernel
theorem dX3_greatestPart_12 : decode cX3_greatestPart 12 = .ok (.iconst 0, 1) := by decide +kernel
theorem dX3_greatestPart_13 : decode cX3_greatestPart 13 = .ok (.istore 5, 2) := by decide +kernel
theorem dX3_greatestPart_15 : decode cX3_greatestPart 15 = .ok (.iconst 0, 1) := by decide +kernel
theorem dX3_greatestPart_16 : decode cX3_greatestPart 16 = .ok (.istore 6, 2) := by decide +kernel
theorem dX3_greatestPart_18 : decode cX3_greatestPart 18 = .ok (.iload 6, 2) := by decide +kernel
theorem dX3_greatestPart_20 : decode cX3_greatestPart 20 = .ok (.bipush 6, 2) := by decide +kernel
theorem dX3_greatestPart_22 : decode cX3_greatestPart 22 = .ok (.if_icmp .ge 59, 3) := by decide +kernel
theorem dX3_greatestPart_25 : decode cX3_greatestPart 25 = .ok (.iload_n 0, 1) := by decide +kernel
theorem dX3_greatestPart_26 : decode cX3_greatestPart 26 = .ok (.iload 4, 2) := by decide +kernel
theorem dX3_greatestPart_28 : decode cX3_greatestPart 28 = .ok (.invokestatic 338, 3) := by decide +kernel
theorem dX3_greatestPart_31 : decode cX3_greatestPart 31 = .ok (.ifCond .eq 16, 3) := by decide +kernel
theorem dX3_greatestPart_34 : decode cX3_greatestPart 34 = .ok (.iload_n 0, 1) := by decide +kernel
theorem dX3_greatestPart_35 : decode cX3_greatestPart 35 = .ok (.iload 6, 2) := by decide +kernel
theorem dX3_greatestPart_37 : decode cX3_greatestPart 37 = .ok (.invokestatic 338, 3) := by decide +kernel
theorem dX3_greatestPart_40 : decode cX3_greatestPart 40 = .ok (.ifCond .eq 7, 3) := by decide +kernel
theorem dX3_greatestPart_43 : decode cX3_greatestPart 43 = .ok (.iconst 1, 1) := by decide +kernel
theorem dX3_greatestPart_44 : decode cX3_greatestPart 44 = .ok (.goto 4, 3) := by decide +kernel
theorem dX3_greatestPart_47 : decode cX3_greatestPart 47 = .ok (.iconst 0, 1) := by decide +kernel
theorem dX3_greatestPart_48 : decode cX3_greatestPart 48 = .ok (.istore 7, 2) := by decide +kernel
theorem dX3_greatestPart_50 : decode cX3_greatestPart 50 = .ok (.iload 7, 2) := by decide +kernel
theorem dX3_greatestPart_52 : decode cX3_greatestPart 52 = .ok (.ifCond .eq 23, 3) := by decide +kernel
theorem dX3_greatestPart_55 : decode cX3_greatestPart 55 = .ok (.iload 4, 2) := by decide +kernel
theorem dX3_greatestPart_57 : decode cX3_greatestPart 57 = .ok (.iload_n 1, 1) := by decide +kernel
theorem dX3_greatestPart_58 : decode cX3_greatestPart 58 = .ok (.iload_n 2, 1) := by decide +kernel
theorem dX3_greatestPart_59 : decode cX3_greatestPart 59 = .ok (.invokestatic 158, 3) := by decide +kernel
theorem dX3_greatestPart_62 : decode cX3_greatestPart 62 = .ok (.iload 6, 2) := by decide +kernel
theorem dX3_greatestPart_64 : decode cX3_greatestPart 64 = .ok (.iload_n 1, 1) := by decide +kernel
theorem dX3_greatestPart_65 : decode cX3_greatestPart 65 = .ok (.iload_n 2, 1) := by decide +kernel
theorem dX3_greatestPart_66 : decode cX3_greatestPart 66 = .ok (.invokestatic 158, 3) := by decide +kernel
theorem dX3_greatestPart_69 : decode cX3_greatestPart 69 = .ok (.if_icmp .ne 6, 3) := by decide +kernel
theorem dX3_greatestPart_72 : decode cX3_greatestPart 72 = .ok (.iinc 5 1, 3) := by decide +kernel
theorem dX3_greatestPart_75 : decode cX3_greatestPart 75 = .ok (.iinc 6 1, 3) := by decide +kernel
theorem dX3_greatestPart_78 : decode cX3_greatestPart 78 = .ok (.goto (-60), 3) := by decide +kernel
theorem dX3_greatestPart_81 : decode cX3_greatestPart 81 = .ok (.iload_n 3, 1) := by decide +kernel
theorem dX3_greatestPart_82 : decode cX3_greatestPart 82 = .ok (.iload 5, 2) := by decide +kernel
theorem dX3_greatestPart_84 : decode cX3_greatestPart 84 = .ok (.invokestatic 341, 3) := by decide +kernel
theorem dX3_greatestPart_87 : decode cX3_greatestPart 87 = .ok (.istore_n 3, 1) := by decide +kernel
theorem dX3_greatestPart_88 : decode cX3_greatestPart 88 = .ok (.iinc 4 1, 3) := by decide +kernel
theorem dX3_greatestPart_91 : decode cX3_greatestPart 91 = .ok (.goto (-86), 3) := by decide +kernel
theorem dX3_greatestPart_94 : decode cX3_greatestPart 94 = .ok (.iload_n 3, 1) := by decide +kernel
theorem dX3_greatestPart_95 : decode cX3_greatestPart 95 = .ok (.ireturn, 1) := by decide +kernel
theorem dX3_tellingAs_0 : decode cX3_tellingAs 0 = .ok (.iconst 1, 1) := by decide +kernel
theorem dX3_tellingAs_1 : decode cX3_tellingAs 1 = .ok (.iload_n 1, 1) := by decide +kernel
theorem dX3_tellingAs_2 : decode cX3_tellingAs 2 = .ok (.ishl, 1) := by decide +kernel
theorem dX3_tellingAs_3 : decode cX3_tellingAs 3 = .ok (.istore_n 3, 1) := by decide +kernel
theorem dX3_tellingAs_4 : decode cX3_tellingAs 4 = .ok (.iload_n 0, 1) := by decide +kernel
theorem dX3_tellingAs_5 : decode cX3_tellingAs 5 = .ok (.tableswitch 39 3 5 #[27, 29, 33], 27) := by decide +kernel
theorem dX3_tellingAs_32 : decode cX3_tellingAs 32 = .ok (.iconst 0, 1) := by decide +kernel
theorem dX3_tellingAs_33 : decode cX3_tellingAs 33 = .ok (.ireturn, 1) := by decide +kernel
theorem dX3_tellingAs_34 : decode cX3_tellingAs 34 = .ok (.iload_n 2, 1) := by decide +kernel
theorem dX3_tellingAs_35 : decode cX3_tellingAs 35 = .ok (.iload_n 3, 1) := by decide +kernel
theorem dX3_tellingAs_36 : decode cX3_tellingAs 36 = .ok (.ior, 1) := by decide +kernel
theorem dX3_tellingAs_37 : decode cX3_tellingAs 37 = .ok (.ireturn, 1) := by decide +kernel
theorem dX3_tellingAs_38 : decode cX3_tellingAs 38 = .ok (.iload_n 2, 1) := by decide +kernel
theorem dX3_tellingAs_39 : decode cX3_tellingAs 39 = .ok (.iload_n 3, 1) := by decide +kernel
theorem dX3_tellingAs_40 : decode cX3_tellingAs 40 = .ok (.iconst (-1), 1) := by decide +kernel
theorem dX3_tellingAs_41 : decode cX3_tellingAs 41 = .ok (.ixor, 1) := by decide +kernel
theorem dX3_tellingAs_42 : decode cX3_tellingAs 42 = .ok (.iand, 1) := by decide +kernel
theorem dX3_tellingAs_43 : decode cX3_tellingAs 43 = .ok (.ireturn, 1) := by decide +kernel
theorem dX3_tellingAs_44 : decode cX3_tellingAs 44 = .ok (.iload_n 3, 1) := by decide +kernel
theorem dX3_tellingAs_45 : decode cX3_tellingAs 45 = .ok (.ireturn, 1) := by decide +kernel
theorem dX3_isIn_0 : decode cX3_isIn 0 = .ok (.iload_n 0, 1) := by decide +kernel
theorem dX3_isIn_1 : decode cX3_isIn 1 = .ok (.iload_n 1, 1) := by decide +kernel
theorem dX3_isIn_2 : decode cX3_isIn 2 = .ok (.ishr, 1) := by decide +kernel
theorem dX3_isIn_3 : decode cX3_isIn 3 = .ok (.iconst 1, 1) := by decide +kernel
theorem dX3_isIn_4 : decode cX3_isIn 4 = .ok (.iand, 1) := by decide +kernel
theorem dX3_isIn_5 : decode cX3_isIn 5 = .ok (.ifCond .eq 7, 3) := by decide +kernel
theorem dX3_isIn_8 : decode cX3_isIn 8 = .ok (.iconst 1, 1) := by decide +kernel
theorem dX3_isIn_9 : decode cX3_isIn 9 = .ok (.goto 4, 3) := by decide +kernel
theorem dX3_isIn_12 : decode cX3_isIn 12 = .ok (.iconst 0, 1) := by decide +kernel
theorem dX3_isIn_13 : decode cX3_isIn 13 = .ok (.ireturn, 1) := by decide +kernel
theorem dX3_power_0 : decode cX3_power 0 = .ok (.lconst 1, 1) := by decide +kernel
theorem dX3_power_1 : decode cX3_power 1 = .ok (.lstore_n 2, 1) := by decide +kernel
theorem dX3_power_2 : decode cX3_power 2 = .ok (.iconst 0, 1) := by decide +kernel
theorem dX3_power_3 : decode cX3_power 3 = .ok (.istore 4, 2) := by decide +kernel
theorem dX3_power_5 : decode cX3_power 5 = .ok (.iload 4, 2) := by decide +kernel
theorem dX3_power_7 : decode cX3_power 7 = .ok (.iload_n 1, 1) := by decide +kernel
theorem dX3_power_8 : decode cX3_power 8 = .ok (.if_icmp .ge 14, 3) := by decide +kernel
theorem dX3_power_11 : decode cX3_power 11 = .ok (.lload_n 2, 1) := by decide +kernel
theorem dX3_power_12 : decode cX3_power 12 = .ok (.iload_n 0, 1) := by decide +kernel
theorem dX3_power_13 : decode cX3_power 13 = .ok (.i2l, 1) := by decide +kernel
theorem dX3_power_14 : decode cX3_power 14 = .ok (.lmul, 1) := by decide +kernel
theorem dX3_power_15 : decode cX3_power 15 = .ok (.lstore_n 2, 1) := by decide +kernel
theorem dX3_power_16 : decode cX3_power 16 = .ok (.iinc 4 1, 3) := by decide +kernel
theorem dX3_power_19 : decode cX3_power 19 = .ok (.goto (-14), 3) := by decide +kernel
theorem dX3_power_22 : decode cX3_power 22 = .ok (.lload_n 2, 1) := by decide +kernel
theorem dX3_power_23 : decode cX3_power 23 = .ok (.lreturn, 1) := by decide +kernel
theorem dX3_commonDivisor_0 : decode cX3_commonDivisor 0 = .ok (.lload_n 0, 1) := by decide +kernel
theorem dX3_commonDivisor_1 : decode cX3_commonDivisor 1 = .ok (.lstore 4, 2) := by decide +kernel
theorem dX3_commonDivisor_3 : decode cX3_commonDivisor 3 = .ok (.lload_n 2, 1) := by decide +kernel
theorem dX3_commonDivisor_4 : decode cX3_commonDivisor 4 = .ok (.lstore 6, 2) := by decide +kernel
theorem dX3_commonDivisor_6 : decode cX3_commonDivisor 6 = .ok (.iconst 0, 1) := by decide +kernel
theorem dX3_commonDivisor_7 : decode cX3_commonDivisor 7 = .ok (.istore 8, 2) := by decide +kernel
theorem dX3_commonDivisor_9 : decode cX3_commonDivisor 9 = .ok (.iload 8, 2) := by decide +kernel
theorem dX3_commonDivisor_11 : decode cX3_commonDivisor 11 = .ok (.bipush 100, 2) := by decide +kernel
theorem dX3_commonDivisor_13 : decode cX3_commonDivisor 13 = .ok (.if_icmp .ge 31, 3) := by decide +kernel
theorem dX3_commonDivisor_16 : decode cX3_commonDivisor 16 = .ok (.lload 6, 2) := by decide +kernel
theorem dX3_commonDivisor_18 : decode cX3_commonDivisor 18 = .ok (.lconst 0, 1) := by decide +kernel
theorem dX3_commonDivisor_19 : decode cX3_commonDivisor 19 = .ok (.lcmp, 1) := by decide +kernel
theorem dX3_commonDivisor_20 : decode cX3_commonDivisor 20 = .ok (.ifCond .eq 24, 3) := by decide +kernel
theorem dX3_commonDivisor_23 : decode cX3_commonDivisor 23 = .ok (.lload 4, 2) := by decide +kernel
theorem dX3_commonDivisor_25 : decode cX3_commonDivisor 25 = .ok (.lload 6, 2) := by decide +kernel
theorem dX3_commonDivisor_27 : decode cX3_commonDivisor 27 = .ok (.lrem, 1) := by decide +kernel
theorem dX3_commonDivisor_28 : decode cX3_commonDivisor 28 = .ok (.lstore 9, 2) := by decide +kernel
theorem dX3_commonDivisor_30 : decode cX3_commonDivisor 30 = .ok (.lload 6, 2) := by decide +kernel
theorem dX3_commonDivisor_32 : decode cX3_commonDivisor 32 = .ok (.lstore 4, 2) := by decide +kernel
theorem dX3_commonDivisor_34 : decode cX3_commonDivisor 34 = .ok (.lload 9, 2) := by decide +kernel
theorem dX3_commonDivisor_36 : decode cX3_commonDivisor 36 = .ok (.lstore 6, 2) := by decide +kernel
theorem dX3_commonDivisor_38 : decode cX3_commonDivisor 38 = .ok (.iinc 8 1, 3) := by decide +kernel
theorem dX3_commonDivisor_41 : decode cX3_commonDivisor 41 = .ok (.goto (-32), 3) := by decide +kernel
theorem dX3_commonDivisor_44 : decode cX3_commonDivisor 44 = .ok (.lload 4, 2) := by decide +kernel
theorem dX3_commonDivisor_46 : decode cX3_commonDivisor 46 = .ok (.lreturn, 1) := by decide +kernel
theorem dX3_faultIn_0 : decode cX3_faultIn 0 = .ok (.iconst 0, 1) := by decide +kernel
theorem dX3_faultIn_1 : decode cX3_faultIn 1 = .ok (.istore_n 2, 1) := by decide +kernel
theorem dX3_faultIn_2 : decode cX3_faultIn 2 = .ok (.iconst 0, 1) := by decide +kernel
theorem dX3_faultIn_3 : decode cX3_faultIn 3 = .ok (.istore_n 3, 1) := by decide +kernel
theorem dX3_faultIn_4 : decode cX3_faultIn 4 = .ok (.iload_n 3, 1) := by decide +kernel
theorem dX3_faultIn_5 : decode cX3_faultIn 5 = .ok (.iload_n 1, 1) := by decide +kernel
theorem dX3_faultIn_6 : decode cX3_faultIn 6 = .ok (.if_icmp .ge 53, 3) := by decide +kernel
theorem dX3_faultIn_9 : decode cX3_faultIn 9 = .ok (.aload_n 0, 1) := by decide +kernel
theorem dX3_faultIn_10 : decode cX3_faultIn 10 = .ok (.iload_n 3, 1) := by decide +kernel
theorem dX3_faultIn_11 : decode cX3_faultIn 11 = .ok (.iaload, 1) := by decide +kernel
theorem dX3_faultIn_12 : decode cX3_faultIn 12 = .ok (.bipush 32, 2) := by decide +kernel
theorem dX3_faultIn_14 : decode cX3_faultIn 14 = .ok (.if_icmp .ne 9, 3) := by decide +kernel
theorem dX3_faultIn_17 : decode cX3_faultIn 17 = .ok (.iinc 3 1, 3) := by decide +kernel
theorem dX3_faultIn_20 : decode cX3_faultIn 20 = .ok (.goto (-16), 3) := by decide +kernel
theorem dX3_faultIn_23 : decode cX3_faultIn 23 = .ok (.iload_n 2, 1) := by decide +kernel
theorem dX3_faultIn_24 : decode cX3_faultIn 24 = .ok (.bipush 7, 2) := by decide +kernel
theorem dX3_faultIn_26 : decode cX3_faultIn 26 = .ok (.if_icmp .ne 5, 3) := by decide +kernel
theorem dX3_faultIn_29 : decode cX3_faultIn 29 = .ok (.iload_n 3, 1) := by decide +kernel
theorem dX3_faultIn_30 : decode cX3_faultIn 30 = .ok (.ireturn, 1) := by decide +kernel
theorem dX3_faultIn_31 : decode cX3_faultIn 31 = .ok (.aload_n 0, 1) := by decide +kernel
theorem dX3_faultIn_32 : decode cX3_faultIn 32 = .ok (.iload_n 1, 1) := by decide +kernel
theorem dX3_faultIn_33 : decode cX3_faultIn 33 = .ok (.iload_n 3, 1) := by decide +kernel
theorem dX3_faultIn_34 : decode cX3_faultIn 34 = .ok (.invokestatic 346, 3) := by decide +kernel
theorem dX3_faultIn_37 : decode cX3_faultIn 37 = .ok (.istore 4, 2) := by decide +kernel
theorem dX3_faultIn_39 : decode cX3_faultIn 39 = .ok (.iload 4, 2) := by decide +kernel
theorem dX3_faultIn_41 : decode cX3_faultIn 41 = .ok (.iconst 3, 1) := by decide +kernel
theorem dX3_faultIn_42 : decode cX3_faultIn 42 = .ok (.if_icmp .ge 8, 3) := by decide +kernel
theorem dX3_faultIn_45 : decode cX3_faultIn 45 = .ok (.iload_n 3, 1) := by decide +kernel
theorem dX3_faultIn_46 : decode cX3_faultIn 46 = .ok (.iload 4, 2) := by decide +kernel
theorem dX3_faultIn_48 : decode cX3_faultIn 48 = .ok (.iadd, 1) := by decide +kernel
theorem dX3_faultIn_49 : decode cX3_faultIn 49 = .ok (.ireturn, 1) := by decide +kernel
theorem dX3_faultIn_50 : decode cX3_faultIn 50 = .ok (.iinc 2 1, 3) := by decide +kernel
theorem dX3_faultIn_53 : decode cX3_faultIn 53 = .ok (.iinc 3 3, 3) := by decide +kernel
theorem dX3_faultIn_56 : decode cX3_faultIn 56 = .ok (.goto (-52), 3) := by decide +kernel
theorem dX3_faultIn_59 : decode cX3_faultIn 59 = .ok (.iload_n 2, 1) := by decide +kernel
theorem dX3_faultIn_60 : decode cX3_faultIn 60 = .ok (.iconst 2, 1) := by decide +kernel
theorem dX3_faultIn_61 : decode cX3_faultIn 61 = .ok (.if_icmp .ge 7, 3) := by decide +kernel
theorem dX3_faultIn_64 : decode cX3_faultIn 64 = .ok (.iload_n 1, 1) := by decide +kernel
theorem dX3_faultIn_65 : decode cX3_faultIn 65 = .ok (.goto 5, 3) := by decide +kernel
theorem dX3_faultIn_68 : decode cX3_faultIn 68 = .ok (.bipush (-9), 2) := by decide +kernel
theorem dX3_faultIn_70 : decode cX3_faultIn 70 = .ok (.ireturn, 1) := by decide +kernel
theorem dX3_goodSigns_0 : decode cX3_goodSigns 0 = .ok (.iload_n 2, 1) := by decide +kernel
theorem dX3_goodSigns_1 : decode cX3_goodSigns 1 = .ok (.iload_n 1, 1) := by decide +kernel
theorem dX3_goodSigns_2 : decode cX3_goodSigns 2 = .ok (.if_icmp .ge 14, 3) := by decide +kernel
theorem dX3_goodSigns_5 : decode cX3_goodSigns 5 = .ok (.aload_n 0, 1) := by decide +kernel
theorem dX3_goodSigns_6 : decode cX3_goodSigns 6 = .ok (.iload_n 2, 1) := by decide +kernel
theorem dX3_goodSigns_7 : decode cX3_goodSigns 7 = .ok (.iaload, 1) := by decide +kernel
theorem dX3_goodSigns_8 : decode cX3_goodSigns 8 = .ok (.invokestatic 350, 3) := by decide +kernel
theorem dX3_goodSigns_11 : decode cX3_goodSigns 11 = .ok (.bipush (-9), 2) := by decide +kernel
theorem dX3_goodSigns_13 : decode cX3_goodSigns 13 = .ok (.if_icmp .ne 5, 3) := by decide +kernel
theorem dX3_goodSigns_16 : decode cX3_goodSigns 16 = .ok (.iconst 0, 1) := by decide +kernel
theorem dX3_goodSigns_17 : decode cX3_goodSigns 17 = .ok (.ireturn, 1) := by decide +kernel
theorem dX3_goodSigns_18 : decode cX3_goodSigns 18 = .ok (.iload_n 2, 1) := by decide +kernel
theorem dX3_goodSigns_19 : decode cX3_goodSigns 19 = .ok (.iconst 1, 1) := by decide +kernel
theorem dX3_goodSigns_20 : decode cX3_goodSigns 20 = .ok (.iadd, 1) := by decide +kernel
theorem dX3_goodSigns_21 : decode cX3_goodSigns 21 = .ok (.iload_n 1, 1) := by decide +kernel
theorem dX3_goodSigns_22 : decode cX3_goodSigns 22 = .ok (.if_icmp .ge 14, 3) := by decide +kernel
theorem dX3_goodSigns_25 : decode cX3_goodSigns 25 = .ok (.aload_n 0, 1) := by decide +kernel
theorem dX3_goodSigns_26 : decode cX3_goodSigns 26 = .ok (.iload_n 2, 1) := by decide +kernel
theorem dX3_goodSigns_27 : decode cX3_goodSigns 27 = .ok (.iconst 1, 1) := by decide +kernel
theorem dX3_goodSigns_28 : decode cX3_goodSigns 28 = .ok (.iadd, 1) := by decide +kernel
theorem dX3_goodSigns_29 : decode cX3_goodSigns 29 = .ok (.iaload, 1) := by decide +kernel
theorem dX3_goodSigns_30 : decode cX3_goodSigns 30 = .ok (.invokestatic 353, 3) := by decide +kernel
theorem dX3_goodSigns_33 : decode cX3_goodSigns 33 = .ok (.ifCond .ne 5, 3) := by decide +kernel
theorem dX3_goodSigns_36 : decode cX3_goodSigns 36 = .ok (.iconst 1, 1) := by decide +kernel
theorem dX3_goodSigns_37 : decode cX3_goodSigns 37 = .ok (.ireturn, 1) := by decide +kernel
theorem dX3_goodSigns_38 : decode cX3_goodSigns 38 = .ok (.iload_n 2, 1) := by decide +kernel
theorem dX3_goodSigns_39 : decode cX3_goodSigns 39 = .ok (.iconst 2, 1) := by decide +kernel
theorem dX3_goodSigns_40 : decode cX3_goodSigns 40 = .ok (.iadd, 1) := by decide +kernel
theorem dX3_goodSigns_41 : decode cX3_goodSigns 41 = .ok (.iload_n 1, 1) := by decide +kernel
theorem dX3_goodSigns_42 : decode cX3_goodSigns 42 = .ok (.if_icmp .ge 14, 3) := by decide +kernel
theorem dX3_goodSigns_45 : decode cX3_goodSigns 45 = .ok (.aload_n 0, 1) := by decide +kernel
theorem dX3_goodSigns_46 : decode cX3_goodSigns 46 = .ok (.iload_n 2, 1) := by decide +kernel
end
section
theorem dX3_goodSigns_47 : decode cX3_goodSigns 47 = .ok (.iconst 2, 1) := by decide +kernel
theorem dX3_goodSigns_48 : decode cX3_goodSigns 48 = .ok (.iadd, 1) := by decide +kernel
theorem dX3_goodSigns_49 : decode cX3_goodSigns 49 = .ok (.iaload, 1) := by decide +kernel
theorem dX3_goodSigns_50 : decode cX3_goodSigns 50 = .ok (.invokestatic 353, 3) := by decide +kernel
theorem dX3_goodSigns_53 : decode cX3_goodSigns 53 = .ok (.ifCond .ne 7, 3) := by decide +kernel
theorem dX3_goodSigns_56 : decode cX3_goodSigns 56 = .ok (.iconst 2, 1) := by decide +kernel
theorem dX3_goodSigns_57 : decode cX3_goodSigns 57 = .ok (.goto 4, 3) := by decide +kernel
theorem dX3_goodSigns_60 : decode cX3_goodSigns 60 = .ok (.iconst 3, 1) := by decide +kernel
theorem dX3_goodSigns_61 : decode cX3_goodSigns 61 = .ok (.ireturn, 1) := by decide +kernel
theorem dX3_kindOfLetter_0 : decode cX3_kindOfLetter 0 = .ok (.iconst 0, 1) := by decide +kernel
theorem dX3_kindOfLetter_1 : decode cX3_kindOfLetter 1 = .ok (.istore_n 1, 1) := by decide +kernel
theorem dX3_kindOfLetter_2 : decode cX3_kindOfLetter 2 = .ok (.iload_n 1, 1) := by decide +kernel
theorem dX3_kindOfLetter_3 : decode cX3_kindOfLetter 3 = .ok (.bipush 6, 2) := by decide +kernel
theorem dX3_kindOfLetter_5 : decode cX3_kindOfLetter 5 = .ok (.if_icmp .ge 20, 3) := by decide +kernel
theorem dX3_kindOfLetter_8 : decode cX3_kindOfLetter 8 = .ok (.getstatic 356, 3) := by decide +kernel
theorem dX3_kindOfLetter_11 : decode cX3_kindOfLetter 11 = .ok (.iload_n 1, 1) := by decide +kernel
theorem dX3_kindOfLetter_12 : decode cX3_kindOfLetter 12 = .ok (.iaload, 1) := by decide +kernel
theorem dX3_kindOfLetter_13 : decode cX3_kindOfLetter 13 = .ok (.iload_n 0, 1) := by decide +kernel
theorem dX3_kindOfLetter_14 : decode cX3_kindOfLetter 14 = .ok (.if_icmp .ne 5, 3) := by decide +kernel
theorem dX3_kindOfLetter_17 : decode cX3_kindOfLetter 17 = .ok (.iload_n 1, 1) := by decide +kernel
theorem dX3_kindOfLetter_18 : decode cX3_kindOfLetter 18 = .ok (.ireturn, 1) := by decide +kernel
theorem dX3_kindOfLetter_19 : decode cX3_kindOfLetter 19 = .ok (.iinc 1 1, 3) := by decide +kernel
theorem dX3_kindOfLetter_22 : decode cX3_kindOfLetter 22 = .ok (.goto (-20), 3) := by decide +kernel
theorem dX3_kindOfLetter_25 : decode cX3_kindOfLetter 25 = .ok (.bipush (-9), 2) := by decide +kernel
theorem dX3_kindOfLetter_27 : decode cX3_kindOfLetter 27 = .ok (.ireturn, 1) := by decide +kernel
theorem dX3_isFigure_0 : decode cX3_isFigure 0 = .ok (.iload_n 0, 1) := by decide +kernel
theorem dX3_isFigure_1 : decode cX3_isFigure 1 = .ok (.bipush 48, 2) := by decide +kernel
theorem dX3_isFigure_3 : decode cX3_isFigure 3 = .ok (.if_icmp .lt 13, 3) := by decide +kernel
theorem dX3_isFigure_6 : decode cX3_isFigure 6 = .ok (.iload_n 0, 1) := by decide +kernel
theorem dX3_isFigure_7 : decode cX3_isFigure 7 = .ok (.bipush 57, 2) := by decide +kernel
theorem dX3_isFigure_9 : decode cX3_isFigure 9 = .ok (.if_icmp .gt 7, 3) := by decide +kernel
theorem dX3_isFigure_12 : decode cX3_isFigure 12 = .ok (.iconst 1, 1) := by decide +kernel
theorem dX3_isFigure_13 : decode cX3_isFigure 13 = .ok (.goto 4, 3) := by decide +kernel
theorem dX3_isFigure_16 : decode cX3_isFigure 16 = .ok (.iconst 0, 1) := by decide +kernel
theorem dX3_isFigure_17 : decode cX3_isFigure 17 = .ok (.ireturn, 1) := by decide +kernel
theorem dX4_init_0 : decode cX4_init 0 = .ok (.aload_n 0, 1) := by decide +kernel
theorem dX4_init_1 : decode cX4_init 1 = .ok (.invokespecial 1, 3) := by decide +kernel
theorem dX4_init_4 : decode cX4_init 4 = .ok (.aload_n 0, 1) := by decide +kernel
theorem dX4_init_5 : decode cX4_init 5 = .ok (.bipush 6, 2) := by decide +kernel
theorem dX4_init_7 : decode cX4_init 7 = .ok (.newarray .int, 2) := by decide +kernel
theorem dX4_init_9 : decode cX4_init 9 = .ok (.putfield 7, 3) := by decide +kernel
theorem dX4_init_12 : decode cX4_init 12 = .ok (.aload_n 0, 1) := by decide +kernel
theorem dX4_init_13 : decode cX4_init 13 = .ok (.lconst 1, 1) := by decide +kernel
theorem dX4_init_14 : decode cX4_init 14 = .ok (.putfield 13, 3) := by decide +kernel
theorem dX4_init_17 : decode cX4_init 17 = .ok (.aload_n 0, 1) := by decide +kernel
theorem dX4_init_18 : decode cX4_init 18 = .ok (.bipush 6, 2) := by decide +kernel
theorem dX4_init_20 : decode cX4_init 20 = .ok (.newarray .int, 2) := by decide +kernel
theorem dX4_init_22 : decode cX4_init 22 = .ok (.putfield 17, 3) := by decide +kernel
theorem dX4_init_25 : decode cX4_init 25 = .ok (.aload_n 0, 1) := by decide +kernel
theorem dX4_init_26 : decode cX4_init 26 = .ok (.sipush 240, 3) := by decide +kernel
theorem dX4_init_29 : decode cX4_init 29 = .ok (.newarray .int, 2) := by decide +kernel
theorem dX4_init_31 : decode cX4_init 31 = .ok (.putfield 20, 3) := by decide +kernel
theorem dX4_init_34 : decode cX4_init 34 = .ok (.aload_n 0, 1) := by decide +kernel
theorem dX4_init_35 : decode cX4_init 35 = .ok (.iconst 4, 1) := by decide +kernel
theorem dX4_init_36 : decode cX4_init 36 = .ok (.newarray .int, 2) := by decide +kernel
theorem dX4_init_38 : decode cX4_init 38 = .ok (.putfield 23, 3) := by decide +kernel
theorem dX4_init_41 : decode cX4_init 41 = .ok (.aload_n 0, 1) := by decide +kernel
theorem dX4_init_42 : decode cX4_init 42 = .ok (.sipush 240, 3) := by decide +kernel
theorem dX4_init_45 : decode cX4_init 45 = .ok (.newarray .byte, 2) := by decide +kernel
theorem dX4_init_47 : decode cX4_init 47 = .ok (.putfield 26, 3) := by decide +kernel
theorem dX4_init_50 : decode cX4_init 50 = .ok (.aload_n 0, 1) := by decide +kernel
theorem dX4_init_51 : decode cX4_init 51 = .ok (.bipush 40, 2) := by decide +kernel
theorem dX4_init_53 : decode cX4_init 53 = .ok (.newarray .int, 2) := by decide +kernel
theorem dX4_init_55 : decode cX4_init 55 = .ok (.putfield 30, 3) := by decide +kernel
theorem dX4_init_58 : decode cX4_init 58 = .ok (.aload_n 0, 1) := by decide +kernel
theorem dX4_init_59 : decode cX4_init 59 = .ok (.bipush 14, 2) := by decide +kernel
theorem dX4_init_61 : decode cX4_init 61 = .ok (.newarray .int, 2) := by decide +kernel
theorem dX4_init_63 : decode cX4_init 63 = .ok (.putfield 33, 3) := by decide +kernel
theorem dX4_init_66 : decode cX4_init 66 = .ok (.aload_n 0, 1) := by decide +kernel
theorem dX4_init_67 : decode cX4_init 67 = .ok (.bipush 14, 2) := by decide +kernel
theorem dX4_init_69 : decode cX4_init 69 = .ok (.newarray .int, 2) := by decide +kernel
theorem dX4_init_71 : decode cX4_init 71 = .ok (.putfield 36, 3) := by decide +kernel
theorem dX4_init_74 : decode cX4_init 74 = .ok (.aload_n 0, 1) := by decide +kernel
theorem dX4_init_75 : decode cX4_init 75 = .ok (.bipush 14, 2) := by decide +kernel
theorem dX4_init_77 : decode cX4_init 77 = .ok (.newarray .int, 2) := by decide +kernel
theorem dX4_init_79 : decode cX4_init 79 = .ok (.putfield 39, 3) := by decide +kernel
theorem dX4_init_82 : decode cX4_init 82 = .ok (.aload_n 0, 1) := by decide +kernel
theorem dX4_init_83 : decode cX4_init 83 = .ok (.sipush 410, 3) := by decide +kernel
theorem dX4_init_86 : decode cX4_init 86 = .ok (.newarray .int, 2) := by decide +kernel
theorem dX4_init_88 : decode cX4_init 88 = .ok (.putfield 42, 3) := by decide +kernel
theorem dX4_init_91 : decode cX4_init 91 = .ok (.aload_n 0, 1) := by decide +kernel
theorem dX4_init_92 : decode cX4_init 92 = .ok (.sipush 1230, 3) := by decide +kernel
theorem dX4_init_95 : decode cX4_init 95 = .ok (.newarray .int, 2) := by decide +kernel
theorem dX4_init_97 : decode cX4_init 97 = .ok (.putfield 45, 3) := by decide +kernel
theorem dX4_init_100 : decode cX4_init 100 = .ok (.aload_n 0, 1) := by decide +kernel
theorem dX4_init_101 : decode cX4_init 101 = .ok (.iconst 3, 1) := by decide +kernel
theorem dX4_init_102 : decode cX4_init 102 = .ok (.newarray .int, 2) := by decide +kernel
theorem dX4_init_104 : decode cX4_init 104 = .ok (.putfield 48, 3) := by decide +kernel
theorem dX4_init_107 : decode cX4_init 107 = .ok (.aload_n 0, 1) := by decide +kernel
theorem dX4_init_108 : decode cX4_init 108 = .ok (.bipush 7, 2) := by decide +kernel
theorem dX4_init_110 : decode cX4_init 110 = .ok (.newarray .int, 2) := by decide +kernel
theorem dX4_init_112 : decode cX4_init 112 = .ok (.putfield 51, 3) := by decide +kernel
theorem dX4_init_115 : decode cX4_init 115 = .ok (.aload_n 0, 1) := by decide +kernel
theorem dX4_init_116 : decode cX4_init 116 = .ok (.sipush 896, 3) := by decide +kernel
theorem dX4_init_119 : decode cX4_init 119 = .ok (.newarray .int, 2) := by decide +kernel
theorem dX4_init_121 : decode cX4_init 121 = .ok (.putfield 54, 3) := by decide +kernel
theorem dX4_init_124 : decode cX4_init 124 = .ok (.aload_n 0, 1) := by decide +kernel
theorem dX4_init_125 : decode cX4_init 125 = .ok (.sipush 1024, 3) := by decide +kernel
theorem dX4_init_128 : decode cX4_init 128 = .ok (.newarray .int, 2) := by decide +kernel
theorem dX4_init_130 : decode cX4_init 130 = .ok (.putfield 57, 3) := by decide +kernel
theorem dX4_init_133 : decode cX4_init 133 = .ok (.aload_n 0, 1) := by decide +kernel
theorem dX4_init_134 : decode cX4_init 134 = .ok (.bipush 7, 2) := by decide +kernel
theorem dX4_init_136 : decode cX4_init 136 = .ok (.newarray .int, 2) := by decide +kernel
theorem dX4_init_138 : decode cX4_init 138 = .ok (.putfield 60, 3) := by decide +kernel
theorem dX4_init_141 : decode cX4_init 141 = .ok (.aload_n 0, 1) := by decide +kernel
theorem dX4_init_142 : decode cX4_init 142 = .ok (.sipush 1024, 3) := by decide +kernel
theorem dX4_init_145 : decode cX4_init 145 = .ok (.newarray .boolean, 2) := by decide +kernel
theorem dX4_init_147 : decode cX4_init 147 = .ok (.putfield 63, 3) := by decide +kernel
theorem dX4_init_150 : decode cX4_init 150 = .ok (.iconst 0, 1) := by decide +kernel
theorem dX4_init_151 : decode cX4_init 151 = .ok (.istore_n 1, 1) := by decide +kernel
theorem dX4_init_152 : decode cX4_init 152 = .ok (.iload_n 1, 1) := by decide +kernel
theorem dX4_init_153 : decode cX4_init 153 = .ok (.bipush 6, 2) := by decide +kernel
theorem dX4_init_155 : decode cX4_init 155 = .ok (.if_icmp .ge 16, 3) := by decide +kernel
theorem dX4_init_158 : decode cX4_init 158 = .ok (.aload_n 0, 1) := by decide +kernel
theorem dX4_init_159 : decode cX4_init 159 = .ok (.getfield 17, 3) := by decide +kernel
theorem dX4_init_162 : decode cX4_init 162 = .ok (.iload_n 1, 1) := by decide +kernel
theorem dX4_init_163 : decode cX4_init 163 = .ok (.iconst (-1), 1) := by decide +kernel
theorem dX4_init_164 : decode cX4_init 164 = .ok (.iastore, 1) := by decide +kernel
theorem dX4_init_165 : decode cX4_init 165 = .ok (.iinc 1 1, 3) := by decide +kernel
theorem dX4_init_168 : decode cX4_init 168 = .ok (.goto (-16), 3) := by decide +kernel
theorem dX4_init_171 : decode cX4_init 171 = .ok (.iconst 0, 1) := by decide +kernel
theorem dX4_init_172 : decode cX4_init 172 = .ok (.istore_n 1, 1) := by decide +kernel
theorem dX4_init_173 : decode cX4_init 173 = .ok (.iload_n 1, 1) := by decide +kernel
theorem dX4_init_174 : decode cX4_init 174 = .ok (.iconst 4, 1) := by decide +kernel
theorem dX4_init_175 : decode cX4_init 175 = .ok (.if_icmp .ge 16, 3) := by decide +kernel
theorem dX4_init_178 : decode cX4_init 178 = .ok (.aload_n 0, 1) := by decide +kernel
theorem dX4_init_179 : decode cX4_init 179 = .ok (.getfield 23, 3) := by decide +kernel
theorem dX4_init_182 : decode cX4_init 182 = .ok (.iload_n 1, 1) := by decide +kernel
theorem dX4_init_183 : decode cX4_init 183 = .ok (.iconst (-1), 1) := by decide +kernel
theorem dX4_init_184 : decode cX4_init 184 = .ok (.iastore, 1) := by decide +kernel
theorem dX4_init_185 : decode cX4_init 185 = .ok (.iinc 1 1, 3) := by decide +kernel
theorem dX4_init_188 : decode cX4_init 188 = .ok (.goto (-15), 3) := by decide +kernel
theorem dX4_init_191 : decode cX4_init 191 = .ok (.iconst 0, 1) := by decide +kernel
theorem dX4_init_192 : decode cX4_init 192 = .ok (.istore_n 1, 1) := by decide +kernel
theorem dX4_init_193 : decode cX4_init 193 = .ok (.iload_n 1, 1) := by decide +kernel
theorem dX4_init_194 : decode cX4_init 194 = .ok (.iconst 3, 1) := by decide +kernel
theorem dX4_init_195 : decode cX4_init 195 = .ok (.if_icmp .ge 16, 3) := by decide +kernel
theorem dX4_init_198 : decode cX4_init 198 = .ok (.aload_n 0, 1) := by decide +kernel
theorem dX4_init_199 : decode cX4_init 199 = .ok (.getfield 48, 3) := by decide +kernel
theorem dX4_init_202 : decode cX4_init 202 = .ok (.iload_n 1, 1) := by decide +kernel
theorem dX4_init_203 : decode cX4_init 203 = .ok (.iconst (-1), 1) := by decide +kernel
theorem dX4_init_204 : decode cX4_init 204 = .ok (.iastore, 1) := by decide +kernel
theorem dX4_init_205 : decode cX4_init 205 = .ok (.iinc 1 1, 3) := by decide +kernel
theorem dX4_init_208 : decode cX4_init 208 = .ok (.goto (-15), 3) := by decide +kernel
theorem dX4_init_211 : decode cX4_init 211 = .ok (.aload_n 0, 1) := by decide +kernel
theorem dX4_init_212 : decode cX4_init 212 = .ok (.getfield 42, 3) := by decide +kernel
theorem dX4_init_215 : decode cX4_init 215 = .ok (.bipush 8, 2) := by decide +kernel
theorem dX4_init_217 : decode cX4_init 217 = .ok (.bipush (-9), 2) := by decide +kernel
theorem dX4_init_219 : decode cX4_init 219 = .ok (.iastore, 1) := by decide +kernel
theorem dX4_init_220 : decode cX4_init 220 = .ok (.return_, 1) := by decide +kernel
theorem dX4_in_0 : decode cX4_in 0 = .ok (.iload_n 0, 1) := by decide +kernel
theorem dX4_in_1 : decode cX4_in 1 = .ok (.iload_n 1, 1) := by decide +kernel
theorem dX4_in_2 : decode cX4_in 2 = .ok (.if_icmp .lt 12, 3) := by decide +kernel
theorem dX4_in_5 : decode cX4_in 5 = .ok (.iload_n 0, 1) := by decide +kernel
theorem dX4_in_6 : decode cX4_in 6 = .ok (.iload_n 2, 1) := by decide +kernel
theorem dX4_in_7 : decode cX4_in 7 = .ok (.if_icmp .gt 7, 3) := by decide +kernel
theorem dX4_in_10 : decode cX4_in 10 = .ok (.iconst 1, 1) := by decide +kernel
theorem dX4_in_11 : decode cX4_in 11 = .ok (.goto 4, 3) := by decide +kernel
theorem dX4_in_14 : decode cX4_in 14 = .ok (.iconst 0, 1) := by decide +kernel
theorem dX4_in_15 : decode cX4_in 15 = .ok (.ireturn, 1) := by decide +kernel
theorem dX4_has_0 : decode cX4_has 0 = .ok (.iload_n 0, 1) := by decide +kernel
theorem dX4_has_1 : decode cX4_has 1 = .ok (.iload_n 1, 1) := by decide +kernel
theorem dX4_has_2 : decode cX4_has 2 = .ok (.ishr, 1) := by decide +kernel
theorem dX4_has_3 : decode cX4_has 3 = .ok (.iconst 1, 1) := by decide +kernel
theorem dX4_has_4 : decode cX4_has 4 = .ok (.iand, 1) := by decide +kernel
theorem dX4_has_5 : decode cX4_has 5 = .ok (.iconst 1, 1) := by decide +kernel
theorem dX4_has_6 : decode cX4_has 6 = .ok (.if_icmp .ne 7, 3) := by decide +kernel
theorem dX4_has_9 : decode cX4_has 9 = .ok (.iconst 1, 1) := by decide +kernel
theorem dX4_has_10 : decode cX4_has 10 = .ok (.goto 4, 3) := by decide +kernel
theorem dX4_has_13 : decode cX4_has 13 = .ok (.iconst 0, 1) := by decide +kernel
theorem dX4_has_14 : decode cX4_has 14 = .ok (.ireturn, 1) := by decide +kernel
theorem dX4_bitsOf_0 : decode cX4_bitsOf 0 = .ok (.iconst 0, 1) := by decide +kernel
theorem dX4_bitsOf_1 : decode cX4_bitsOf 1 = .ok (.istore_n 1, 1) := by decide +kernel
theorem dX4_bitsOf_2 : decode cX4_bitsOf 2 = .ok (.iconst 0, 1) := by decide +kernel
theorem dX4_bitsOf_3 : decode cX4_bitsOf 3 = .ok (.istore_n 2, 1) := by decide +kernel
theorem dX4_bitsOf_4 : decode cX4_bitsOf 4 = .ok (.iload_n 2, 1) := by decide +kernel
theorem dX4_bitsOf_5 : decode cX4_bitsOf 5 = .ok (.bipush 8, 2) := by decide +kernel
theorem dX4_bitsOf_7 : decode cX4_bitsOf 7 = .ok (.if_icmp .ge 17, 3) := by decide +kernel
theorem dX4_bitsOf_10 : decode cX4_bitsOf 10 = .ok (.iload_n 1, 1) := by decide +kernel
theorem dX4_bitsOf_11 : decode cX4_bitsOf 11 = .ok (.iload_n 0, 1) := by decide +kernel
theorem dX4_bitsOf_12 : decode cX4_bitsOf 12 = .ok (.iload_n 2, 1) := by decide +kernel
theorem dX4_bitsOf_13 : decode cX4_bitsOf 13 = .ok (.ishr, 1) := by decide +kernel
theorem dX4_bitsOf_14 : decode cX4_bitsOf 14 = .ok (.iconst 1, 1) := by decide +kernel
theorem dX4_bitsOf_15 : decode cX4_bitsOf 15 = .ok (.iand, 1) := by decide +kernel
theorem dX4_bitsOf_16 : decode cX4_bitsOf 16 = .ok (.iadd, 1) := by decide +kernel
theorem dX4_bitsOf_17 : decode cX4_bitsOf 17 = .ok (.istore_n 1, 1) := by decide +kernel
theorem dX4_bitsOf_18 : decode cX4_bitsOf 18 = .ok (.iinc 2 1, 3) := by decide +kernel
theorem dX4_bitsOf_21 : decode cX4_bitsOf 21 = .ok (.goto (-17), 3) := by decide +kernel
theorem dX4_bitsOf_24 : decode cX4_bitsOf 24 = .ok (.iload_n 1, 1) := by decide +kernel
theorem dX4_bitsOf_25 : decode cX4_bitsOf 25 = .ok (.ireturn, 1) := by decide +kernel
theorem dX4_find_0 : decode cX4_find 0 = .ok (.aload_n 0, 1) := by decide +kernel
theorem dX4_find_1 : decode cX4_find 1 = .ok (.iload_n 1, 1) := by decide +kernel
theorem dX4_find_2 : decode cX4_find 2 = .ok (.putfield 67, 3) := by decide +kernel
theorem dX4_find_5 : decode cX4_find 5 = .ok (.aload_n 0, 1) := by decide +kernel
theorem dX4_find_6 : decode cX4_find 6 = .ok (.getfield 7, 3) := by decide +kernel
theorem dX4_find_9 : decode cX4_find 9 = .ok (.iload_n 1, 1) := by decide +kernel
theorem dX4_find_10 : decode cX4_find 10 = .ok (.dup2, 1) := by decide +kernel
theorem dX4_find_11 : decode cX4_find 11 = .ok (.iaload, 1) := by decide +kernel
theorem dX4_find_12 : decode cX4_find 12 = .ok (.iconst 1, 1) := by decide +kernel
theorem dX4_find_13 : decode cX4_find 13 = .ok (.iadd, 1) := by decide +kernel
theorem dX4_find_14 : decode cX4_find 14 = .ok (.iastore, 1) := by decide +kernel
theorem dX4_find_15 : decode cX4_find 15 = .ok (.bipush (-3), 2) := by decide +kernel
theorem dX4_find_17 : decode cX4_find 17 = .ok (.ireturn, 1) := by decide +kernel
theorem dX4_told_0 : decode cX4_told 0 = .ok (.aload_n 0, 1) := by decide +kernel
theorem dX4_told_1 : decode cX4_told 1 = .ok (.iload_n 1, 1) := by decide +kernel
theorem dX4_told_2 : decode cX4_told 2 = .ok (.putfield 71, 3) := by decide +kernel
theorem dX4_told_5 : decode cX4_told 5 = .ok (.iconst 1, 1) := by decide +kernel
theorem dX4_told_6 : decode cX4_told 6 = .ok (.ireturn, 1) := by decide +kernel
theorem dX4_fraction_0 : decode cX4_fraction 0 = .ok (.lload_n 1, 1) := by decide +kernel
theorem dX4_fraction_1 : decode cX4_fraction 1 = .ok (.lstore 5, 2) := by decide +kernel
theorem dX4_fraction_3 : decode cX4_fraction 3 = .ok (.lload_n 3, 1) := by decide +kernel
theorem dX4_fraction_4 : decode cX4_fraction 4 = .ok (.lstore 7, 2) := by decide +kernel
theorem dX4_fraction_6 : decode cX4_fraction 6 = .ok (.lload 7, 2) := by decide +kernel
theorem dX4_fraction_8 : decode cX4_fraction 8 = .ok (.lconst 0, 1) := by decide +kernel
theorem dX4_fraction_9 : decode cX4_fraction 9 = .ok (.lcmp, 1) := by decide +kernel
theorem dX4_fraction_10 : decode cX4_fraction 10 = .ok (.ifCond .eq 21, 3) := by decide +kernel
theorem dX4_fraction_13 : decode cX4_fraction 13 = .ok (.lload 5, 2) := by decide +kernel
theorem dX4_fraction_15 : decode cX4_fraction 15 = .ok (.lload 7, 2) := by decide +kernel
theorem dX4_fraction_17 : decode cX4_fraction 17 = .ok (.lrem, 1) := by decide +kernel
theorem dX4_fraction_18 : decode cX4_fraction 18 = .ok (.lstore 9, 2) := by decide +kernel
theorem dX4_fraction_20 : decode cX4_fraction 20 = .ok (.lload 7, 2) := by decide +kernel
theorem dX4_fraction_22 : decode cX4_fraction 22 = .ok (.lstore 5, 2) := by decide +kernel
theorem dX4_fraction_24 : decode cX4_fraction 24 = .ok (.lload 9, 2) := by decide +kernel
theorem dX4_fraction_26 : decode cX4_fraction 26 = .ok (.lstore 7, 2) := by decide +kernel
theorem dX4_fraction_28 : decode cX4_fraction 28 = .ok (.goto (-22), 3) := by decide +kernel
theorem dX4_fraction_31 : decode cX4_fraction 31 = .ok (.aload_n 0, 1) := by decide +kernel
theorem dX4_fraction_32 : decode cX4_fraction 32 = .ok (.lload_n 1, 1) := by decide +kernel
theorem dX4_fraction_33 : decode cX4_fraction 33 = .ok (.lload 5, 2) := by decide +kernel
theorem dX4_fraction_35 : decode cX4_fraction 35 = .ok (.ldiv, 1) := by decide +kernel
theorem dX4_fraction_36 : decode cX4_fraction 36 = .ok (.putfield 74, 3) := by decide +kernel
theorem dX4_fraction_39 : decode cX4_fraction 39 = .ok (.aload_n 0, 1) := by decide +kernel
theorem dX4_fraction_40 : decode cX4_fraction 40 = .ok (.lload_n 3, 1) := by decide +kernel
theorem dX4_fraction_41 : decode cX4_fraction 41 = .ok (.lload 5, 2) := by decide +kernel
theorem dX4_fraction_43 : decode cX4_fraction 43 = .ok (.ldiv, 1) := by decide +kernel
theorem dX4_fraction_44 : decode cX4_fraction 44 = .ok (.putfield 13, 3) := by decide +kernel
theorem dX4_fraction_47 : decode cX4_fraction 47 = .ok (.iconst 1, 1) := by decide +kernel
theorem dX4_fraction_48 : decode cX4_fraction 48 = .ok (.ireturn, 1) := by decide +kernel
theorem dX4_isRow_0 : decode cX4_isRow 0 = .ok (.iload_n 0, 1) := by decide +kernel
theorem dX4_isRow_1 : decode cX4_isRow 1 = .ok (.iconst 0, 1) := by decide +kernel
theorem dX4_isRow_2 : decode cX4_isRow 2 = .ok (.iconst 5, 1) := by decide +kernel
theorem dX4_isRow_3 : decode cX4_isRow 3 = .ok (.invokestatic 77, 3) := by decide +kernel
theorem dX4_isRow_6 : decode cX4_isRow 6 = .ok (.ireturn, 1) := by decide +kernel
theorem dX4_isText_0 : decode cX4_isText 0 = .ok (.iload_n 0, 1) := by decide +kernel
theorem dX4_isText_1 : decode cX4_isText 1 = .ok (.iconst 0, 1) := by decide +kernel
theorem dX4_isText_2 : decode cX4_isText 2 = .ok (.iconst 3, 1) := by decide +kernel
theorem dX4_isText_3 : decode cX4_isText 3 = .ok (.invokestatic 77, 3) := by decide +kernel
theorem dX4_isText_6 : decode cX4_isText 6 = .ok (.ireturn, 1) := by decide +kernel
theorem dX4_row_0 : decode cX4_row 0 = .ok (.iload_n 1, 1) := by decide +kernel
theorem dX4_row_1 : decode cX4_row 1 = .ok (.invokestatic 81, 3) := by decide +kernel
theorem dX4_row_4 : decode cX4_row 4 = .ok (.ifCond .eq 9, 3) := by decide +kernel
theorem dX4_row_7 : decode cX4_row 7 = .ok (.iload_n 2, 1) := by decide +kernel
theorem dX4_row_8 : decode cX4_row 8 = .ok (.bipush 40, 2) := by decide +kernel
theorem dX4_row_10 : decode cX4_row 10 = .ok (.if_icmp .le 5, 3) := by decide +kernel
theorem dX4_row_13 : decode cX4_row 13 = .ok (.iconst (-1), 1) := by decide +kernel
theorem dX4_row_14 : decode cX4_row 14 = .ok (.ireturn, 1) := by decide +kernel
theorem dX4_row_15 : decode cX4_row 15 = .ok (.iload_n 2, 1) := by decide +kernel
theorem dX4_row_16 : decode cX4_row 16 = .ok (.ifCond .ge 9, 3) := by decide +kernel
theorem dX4_row_19 : decode cX4_row 19 = .ok (.aload_n 0, 1) := by decide +kernel
theorem dX4_row_20 : decode cX4_row 20 = .ok (.iconst 5, 1) := by decide +kernel
theorem dX4_row_21 : decode cX4_row 21 = .ok (.invokevirtual 85, 3) := by decide +kernel
theorem dX4_row_24 : decode cX4_row 24 = .ok (.ireturn, 1) := by decide +kernel
theorem dX4_row_25 : decode cX4_row 25 = .ok (.aload_n 0, 1) := by decide +kernel
theorem dX4_row_26 : decode cX4_row 26 = .ok (.getfield 17, 3) := by decide +kernel
theorem dX4_row_29 : decode cX4_row 29 = .ok (.iload_n 1, 1) := by decide +kernel
theorem dX4_row_30 : decode cX4_row 30 = .ok (.iload_n 2, 1) := by decide +kernel
theorem dX4_row_31 : decode cX4_row 31 = .ok (.iastore, 1) := by decide +kernel
theorem dX4_row_32 : decode cX4_row 32 = .ok (.iconst 0, 1) := by decide +kernel
theorem dX4_row_33 : decode cX4_row 33 = .ok (.istore_n 3, 1) := by decide +kernel
theorem dX4_row_34 : decode cX4_row 34 = .ok (.iload_n 3, 1) := by decide +kernel
theorem dX4_row_35 : decode cX4_row 35 = .ok (.bipush 40, 2) := by decide +kernel
theorem dX4_row_37 : decode cX4_row 37 = .ok (.if_icmp .ge 21, 3) := by decide +kernel
theorem dX4_row_40 : decode cX4_row 40 = .ok (.aload_n 0, 1) := by decide +kernel
theorem dX4_row_41 : decode cX4_row 41 = .ok (.getfield 20, 3) := by decide +kernel
theorem dX4_row_44 : decode cX4_row 44 = .ok (.bipush 40, 2) := by decide +kernel
theorem dX4_row_46 : decode cX4_row 46 = .ok (.iload_n 1, 1) := by decide +kernel
theorem dX4_row_47 : decode cX4_row 47 = .ok (.imul, 1) := by decide +kernel
theorem dX4_row_48 : decode cX4_row 48 = .ok (.iload_n 3, 1) := by decide +kernel
theorem dX4_row_49 : decode cX4_row 49 = .ok (.iadd, 1) := by decide +kernel
theorem dX4_row_50 : decode cX4_row 50 = .ok (.iconst 0, 1) := by decide +kernel
theorem dX4_row_51 : decode cX4_row 51 = .ok (.iastore, 1) := by decide +kernel
theorem dX4_row_52 : decode cX4_row 52 = .ok (.iinc 3 1, 3) := by decide +kernel
theorem dX4_row_55 : decode cX4_row 55 = .ok (.goto (-21), 3) := by decide +kernel
theorem dX4_row_58 : decode cX4_row 58 = .ok (.iload_n 2, 1) := by decide +kernel
theorem dX4_row_59 : decode cX4_row 59 = .ok (.ireturn, 1) := by decide +kernel
theorem dX4_lay_0 : decode cX4_lay 0 = .ok (.iload_n 1, 1) := by decide +kernel
theorem dX4_lay_1 : decode cX4_lay 1 = .ok (.invokestatic 81, 3) := by decide +kernel
theorem dX4_lay_4 : decode cX4_lay 4 = .ok (.ifCond .ne 5, 3) := by decide +kernel
theorem dX4_lay_7 : decode cX4_lay 7 = .ok (.iconst (-1), 1) := by decide +kernel
theorem dX4_lay_8 : decode cX4_lay 8 = .ok (.ireturn, 1) := by decide +kernel
theorem dX4_lay_9 : decode cX4_lay 9 = .ok (.aload_n 0, 1) := by decide +kernel
theorem dX4_lay_10 : decode cX4_lay 10 = .ok (.getfield 17, 3) := by decide +kernel
theorem dX4_lay_13 : decode cX4_lay 13 = .ok (.iload_n 1, 1) := by decide +kernel
theorem dX4_lay_14 : decode cX4_lay 14 = .ok (.iaload, 1) := by decide +kernel
theorem dX4_lay_15 : decode cX4_lay 15 = .ok (.ifCond .ge 9, 3) := by decide +kernel
theorem dX4_lay_18 : decode cX4_lay 18 = .ok (.aload_n 0, 1) := by decide +kernel
theorem dX4_lay_19 : decode cX4_lay 19 = .ok (.iconst 1, 1) := by decide +kernel
theorem dX4_lay_20 : decode cX4_lay 20 = .ok (.invokevirtual 85, 3) := by decide +kernel
theorem dX4_lay_23 : decode cX4_lay 23 = .ok (.ireturn, 1) := by decide +kernel
theorem dX4_lay_24 : decode cX4_lay 24 = .ok (.iload_n 2, 1) := by decide +kernel
theorem dX4_lay_25 : decode cX4_lay 25 = .ok (.iconst 0, 1) := by decide +kernel
theorem dX4_lay_26 : decode cX4_lay 26 = .ok (.aload_n 0, 1) := by decide +kernel
theorem dX4_lay_27 : decode cX4_lay 27 = .ok (.getfield 17, 3) := by decide +kernel
theorem dX4_lay_30 : decode cX4_lay 30 = .ok (.iload_n 1, 1) := by decide +kernel
theorem dX4_lay_31 : decode cX4_lay 31 = .ok (.iaload, 1) := by decide +kernel
theorem dX4_lay_32 : decode cX4_lay 32 = .ok (.iconst 1, 1) := by decide +kernel
theorem dX4_lay_33 : decode cX4_lay 33 = .ok (.isub, 1) := by decide +kernel
theorem dX4_lay_34 : decode cX4_lay 34 = .ok (.invokestatic 77, 3) := by decide +kernel
theorem dX4_lay_37 : decode cX4_lay 37 = .ok (.ifCond .ne 9, 3) := by decide +kernel
theorem dX4_lay_40 : decode cX4_lay 40 = .ok (.aload_n 0, 1) := by decide +kernel
theorem dX4_lay_41 : decode cX4_lay 41 = .ok (.iconst 2, 1) := by decide +kernel
theorem dX4_lay_42 : decode cX4_lay 42 = .ok (.invokevirtual 85, 3) := by decide +kernel
theorem dX4_lay_45 : decode cX4_lay 45 = .ok (.ireturn, 1) := by decide +kernel
theorem dX4_lay_46 : decode cX4_lay 46 = .ok (.aload_n 0, 1) := by decide +kernel
theorem dX4_lay_47 : decode cX4_lay 47 = .ok (.getfield 20, 3) := by decide +kernel
theorem dX4_lay_50 : decode cX4_lay 50 = .ok (.bipush 40, 2) := by decide +kernel
theorem dX4_lay_52 : decode cX4_lay 52 = .ok (.iload_n 1, 1) := by decide +kernel
theorem dX4_lay_53 : decode cX4_lay 53 = .ok (.imul, 1) := by decide +kernel
theorem dX4_lay_54 : decode cX4_lay 54 = .ok (.iload_n 2, 1) := by decide +kernel
theorem dX4_lay_55 : decode cX4_lay 55 = .ok (.iadd, 1) := by decide +kernel
theorem dX4_lay_56 : decode cX4_lay 56 = .ok (.iaload, 1) := by decide +kernel
theorem dX4_lay_57 : decode cX4_lay 57 = .ok (.istore 4, 2) := by decide +kernel
theorem dX4_lay_59 : decode cX4_lay 59 = .ok (.aload_n 0, 1) := by decide +kernel
theorem dX4_lay_60 : decode cX4_lay 60 = .ok (.getfield 20, 3) := by decide +kernel
theorem dX4_lay_63 : decode cX4_lay 63 = .ok (.bipush 40, 2) := by decide +kernel
theorem dX4_lay_65 : decode cX4_lay 65 = .ok (.iload_n 1, 1) := by decide +kernel
theorem dX4_lay_66 : decode cX4_lay 66 = .ok (.imul, 1) := by decide +kernel
theorem dX4_lay_67 : decode cX4_lay 67 = .ok (.iload_n 2, 1) := by decide +kernel
theorem dX4_lay_68 : decode cX4_lay 68 = .ok (.iadd, 1) := by decide +kernel
theorem dX4_lay_69 : decode cX4_lay 69 = .ok (.iload_n 3, 1) := by decide +kernel
theorem dX4_lay_70 : decode cX4_lay 70 = .ok (.iastore, 1) := by decide +kernel
theorem dX4_lay_71 : decode cX4_lay 71 = .ok (.aload_n 0, 1) := by decide +kernel
theorem dX4_lay_72 : decode cX4_lay 72 = .ok (.iload 4, 2) := by decide +kernel
theorem dX4_lay_74 : decode cX4_lay 74 = .ok (.invokevirtual 89, 3) := by decide +kernel
theorem dX4_lay_77 : decode cX4_lay 77 = .ok (.ireturn, 1) := by decide +kernel
theorem dX4_at_0 : decode cX4_at 0 = .ok (.iload_n 1, 1) := by decide +kernel
theorem dX4_at_1 : decode cX4_at 1 = .ok (.invokestatic 81, 3) := by decide +kernel
theorem dX4_at_4 : decode cX4_at 4 = .ok (.ifCond .ne 5, 3) := by decide +kernel
theorem dX4_at_7 : decode cX4_at 7 = .ok (.iconst (-1), 1) := by decide +kernel
theorem dX4_at_8 : decode cX4_at 8 = .ok (.ireturn, 1) := by decide +kernel
theorem dX4_at_9 : decode cX4_at 9 = .ok (.aload_n 0, 1) := by decide +kernel
theorem dX4_at_10 : decode cX4_at 10 = .ok (.getfield 17, 3) := by decide +kernel
theorem dX4_at_13 : decode cX4_at 13 = .ok (.iload_n 1, 1) := by decide +kernel
theorem dX4_at_14 : decode cX4_at 14 = .ok (.iaload, 1) := by decide +kernel
theorem dX4_at_15 : decode cX4_at 15 = .ok (.ifCond .ge 9, 3) := by decide +kernel
theorem dX4_at_18 : decode cX4_at 18 = .ok (.aload_n 0, 1) := by decide +kernel
theorem dX4_at_19 : decode cX4_at 19 = .ok (.iconst 1, 1) := by decide +kernel
theorem dX4_at_20 : decode cX4_at 20 = .ok (.invokevirtual 85, 3) := by decide +kernel
theorem dX4_at_23 : decode cX4_at 23 = .ok (.ireturn, 1) := by decide +kernel
theorem dX4_at_24 : decode cX4_at 24 = .ok (.iload_n 2, 1) := by decide +kernel
theorem dX4_at_25 : decode cX4_at 25 = .ok (.iconst 0, 1) := by decide +kernel
theorem dX4_at_26 : decode cX4_at 26 = .ok (.aload_n 0, 1) := by decide +kernel
theorem dX4_at_27 : decode cX4_at 27 = .ok (.getfield 17, 3) := by decide +kernel
theorem dX4_at_30 : decode cX4_at 30 = .ok (.iload_n 1, 1) := by decide +kernel
theorem dX4_at_31 : decode cX4_at 31 = .ok (.iaload, 1) := by decide +kernel
theorem dX4_at_32 : decode cX4_at 32 = .ok (.iconst 1, 1) := by decide +kernel
theorem dX4_at_33 : decode cX4_at 33 = .ok (.isub, 1) := by decide +kernel
theorem dX4_at_34 : decode cX4_at 34 = .ok (.invokestatic 77, 3) := by decide +kernel
theorem dX4_at_37 : decode cX4_at 37 = .ok (.ifCond .eq 21, 3) := by decide +kernel
theorem dX4_at_40 : decode cX4_at 40 = .ok (.aload_n 0, 1) := by decide +kernel
theorem dX4_at_41 : decode cX4_at 41 = .ok (.aload_n 0, 1) := by decide +kernel
theorem dX4_at_42 : decode cX4_at 42 = .ok (.getfield 20, 3) := by decide +kernel
theorem dX4_at_45 : decode cX4_at 45 = .ok (.bipush 40, 2) := by decide +kernel
theorem dX4_at_47 : decode cX4_at 47 = .ok (.iload_n 1, 1) := by decide +kernel
theorem dX4_at_48 : decode cX4_at 48 = .ok (.imul, 1) := by decide +kernel
theorem dX4_at_49 : decode cX4_at 49 = .ok (.iload_n 2, 1) := by decide +kernel
theorem dX4_at_50 : decode cX4_at 50 = .ok (.iadd, 1) := by decide +kernel
theorem dX4_at_51 : decode cX4_at 51 = .ok (.iaload, 1) := by decide +kernel
theorem dX4_at_52 : decode cX4_at 52 = .ok (.invokevirtual 89, 3) := by decide +kernel
theorem dX4_at_55 : decode cX4_at 55 = .ok (.goto 8, 3) := by decide +kernel
theorem dX4_at_58 : decode cX4_at 58 = .ok (.aload_n 0, 1) := by decide +kernel
theorem dX4_at_59 : decode cX4_at 59 = .ok (.iconst 2, 1) := by decide +kernel
theorem dX4_at_60 : decode cX4_at 60 = .ok (.invokevirtual 85, 3) := by decide +kernel
theorem dX4_at_63 : decode cX4_at 63 = .ok (.ireturn, 1) := by decide +kernel
theorem dX4_tear_0 : decode cX4_tear 0 = .ok (.iload_n 1, 1) := by decide +kernel
theorem dX4_tear_1 : decode cX4_tear 1 = .ok (.invokestatic 81, 3) := by decide +kernel
theorem dX4_tear_4 : decode cX4_tear 4 = .ok (.ifCond .ne 5, 3) := by decide +kernel
theorem dX4_tear_7 : decode cX4_tear 7 = .ok (.iconst (-1), 1) := by decide +kernel
theorem dX4_tear_8 : decode cX4_tear 8 = .ok (.ireturn, 1) := by decide +kernel
theorem dX4_tear_9 : decode cX4_tear 9 = .ok (.aload_n 0, 1) := by decide +kernel
theorem dX4_tear_10 : decode cX4_tear 10 = .ok (.getfield 17, 3) := by decide +kernel
theorem dX4_tear_13 : decode cX4_tear 13 = .ok (.iload_n 1, 1) := by decide +kernel
theorem dX4_tear_14 : decode cX4_tear 14 = .ok (.iaload, 1) := by decide +kernel
theorem dX4_tear_15 : decode cX4_tear 15 = .ok (.ifCond .ge 9, 3) := by decide +kernel
theorem dX4_tear_18 : decode cX4_tear 18 = .ok (.aload_n 0, 1) := by decide +kernel
theorem dX4_tear_19 : decode cX4_tear 19 = .ok (.iconst 1, 1) := by decide +kernel
theorem dX4_tear_20 : decode cX4_tear 20 = .ok (.invokevirtual 85, 3) := by decide +kernel
theorem dX4_tear_23 : decode cX4_tear 23 = .ok (.ireturn, 1) := by decide +kernel
theorem dX4_tear_24 : decode cX4_tear 24 = .ok (.aload_n 0, 1) := by decide +kernel
theorem dX4_tear_25 : decode cX4_tear 25 = .ok (.getfield 17, 3) := by decide +kernel
theorem dX4_tear_28 : decode cX4_tear 28 = .ok (.iload_n 1, 1) := by decide +kernel
theorem dX4_tear_29 : decode cX4_tear 29 = .ok (.iconst (-1), 1) := by decide +kernel
theorem dX4_tear_30 : decode cX4_tear 30 = .ok (.iastore, 1) := by decide +kernel
theorem dX4_tear_31 : decode cX4_tear 31 = .ok (.iconst 1, 1) := by decide +kernel
theorem dX4_tear_32 : decode cX4_tear 32 = .ok (.ireturn, 1) := by decide +kernel
theorem dX4_copy_0 : decode cX4_copy 0 = .ok (.iload_n 1, 1) := by decide +kernel
theorem dX4_copy_1 : decode cX4_copy 1 = .ok (.invokestatic 81, 3) := by decide +kernel
theorem dX4_copy_4 : decode cX4_copy 4 = .ok (.ifCond .eq 10, 3) := by decide +kernel
theorem dX4_copy_7 : decode cX4_copy 7 = .ok (.iload_n 3, 1) := by decide +kernel
theorem dX4_copy_8 : decode cX4_copy 8 = .ok (.invokestatic 81, 3) := by decide +kernel
theorem dX4_copy_11 : decode cX4_copy 11 = .ok (.ifCond .ne 5, 3) := by decide +kernel
theorem dX4_copy_14 : decode cX4_copy 14 = .ok (.iconst (-1), 1) := by decide +kernel
theorem dX4_copy_15 : decode cX4_copy 15 = .ok (.ireturn, 1) := by decide +kernel
theorem dX4_copy_16 : decode cX4_copy 16 = .ok (.iload 5, 2) := by decide +kernel
theorem dX4_copy_18 : decode cX4_copy 18 = .ok (.ifCond .ge 9, 3) := by decide +kernel
theorem dX4_copy_21 : decode cX4_copy 21 = .ok (.aload_n 0, 1) := by decide +kernel
theorem dX4_copy_22 : decode cX4_copy 22 = .ok (.iconst 5, 1) := by decide +kernel
theorem dX4_copy_23 : decode cX4_copy 23 = .ok (.invokevirtual 85, 3) := by decide +kernel
theorem dX4_copy_26 : decode cX4_copy 26 = .ok (.ireturn, 1) := by decide +kernel
theorem dX4_copy_27 : decode cX4_copy 27 = .ok (.aload_n 0, 1) := by decide +kernel
theorem dX4_copy_28 : decode cX4_copy 28 = .ok (.getfield 17, 3) := by decide +kernel
theorem dX4_copy_31 : decode cX4_copy 31 = .ok (.iload_n 1, 1) := by decide +kernel
theorem dX4_copy_32 : decode cX4_copy 32 = .ok (.iaload, 1) := by decide +kernel
theorem dX4_copy_33 : decode cX4_copy 33 = .ok (.ifCond .lt 12, 3) := by decide +kernel
theorem dX4_copy_36 : decode cX4_copy 36 = .ok (.aload_n 0, 1) := by decide +kernel
theorem dX4_copy_37 : decode cX4_copy 37 = .ok (.getfield 17, 3) := by decide +kernel
theorem dX4_copy_40 : decode cX4_copy 40 = .ok (.iload_n 3, 1) := by decide +kernel
theorem dX4_copy_41 : decode cX4_copy 41 = .ok (.iaload, 1) := by decide +kernel
theorem dX4_copy_42 : decode cX4_copy 42 = .ok (.ifCond .ge 9, 3) := by decide +kernel
theorem dX4_copy_45 : decode cX4_copy 45 = .ok (.aload_n 0, 1) := by decide +kernel
theorem dX4_copy_46 : decode cX4_copy 46 = .ok (.iconst 1, 1) := by decide +kernel
theorem dX4_copy_47 : decode cX4_copy 47 = .ok (.invokevirtual 85, 3) := by decide +kernel
theorem dX4_copy_50 : decode cX4_copy 50 = .ok (.ireturn, 1) := by decide +kernel
theorem dX4_copy_51 : decode cX4_copy 51 = .ok (.iload_n 2, 1) := by decide +kernel
theorem dX4_copy_52 : decode cX4_copy 52 = .ok (.ifCond .lt 35, 3) := by decide +kernel
theorem dX4_copy_55 : decode cX4_copy 55 = .ok (.iload_n 2, 1) := by decide +kernel
theorem dX4_copy_56 : decode cX4_copy 56 = .ok (.aload_n 0, 1) := by decide +kernel
theorem dX4_copy_57 : decode cX4_copy 57 = .ok (.getfield 17, 3) := by decide +kernel
theorem dX4_copy_60 : decode cX4_copy 60 = .ok (.iload_n 1, 1) := by decide +kernel
theorem dX4_copy_61 : decode cX4_copy 61 = .ok (.iaload, 1) := by decide +kernel
theorem dX4_copy_62 : decode cX4_copy 62 = .ok (.iload 5, 2) := by decide +kernel
theorem dX4_copy_64 : decode cX4_copy 64 = .ok (.isub, 1) := by decide +kernel
theorem dX4_copy_65 : decode cX4_copy 65 = .ok (.if_icmp .gt 22, 3) := by decide +kernel
theorem dX4_copy_68 : decode cX4_copy 68 = .ok (.iload 4, 2) := by decide +kernel
theorem dX4_copy_70 : decode cX4_copy 70 = .ok (.ifCond .lt 17, 3) := by decide +kernel
theorem dX4_copy_73 : decode cX4_copy 73 = .ok (.iload 4, 2) := by decide +kernel
theorem dX4_copy_75 : decode cX4_copy 75 = .ok (.aload_n 0, 1) := by decide +kernel
theorem dX4_copy_76 : decode cX4_copy 76 = .ok (.getfield 17, 3) := by decide +kernel
theorem dX4_copy_79 : decode cX4_copy 79 = .ok (.iload_n 3, 1) := by decide +kernel
theorem dX4_copy_80 : decode cX4_copy 80 = .ok (.iaload, 1) := by decide +kernel
theorem dX4_copy_81 : decode cX4_copy 81 = .ok (.iload 5, 2) := by decide +kernel
theorem dX4_copy_83 : decode cX4_copy 83 = .ok (.isub, 1) := by decide +kernel
theorem dX4_copy_84 : decode cX4_copy 84 = .ok (.if_icmp .le 9, 3) := by decide +kernel
theorem dX4_copy_87 : decode cX4_copy 87 = .ok (.aload_n 0, 1) := by decide +kernel
theorem dX4_copy_88 : decode cX4_copy 88 = .ok (.iconst 2, 1) := by decide +kernel
theorem dX4_copy_89 : decode cX4_copy 89 = .ok (.invokevirtual 85, 3) := by decide +kernel
theorem dX4_copy_92 : decode cX4_copy 92 = .ok (.ireturn, 1) := by decide +kernel
theorem dX4_copy_93 : decode cX4_copy 93 = .ok (.iconst 0, 1) := by decide +kernel
theorem dX4_copy_94 : decode cX4_copy 94 = .ok (.istore 6, 2) := by decide +kernel
theorem dX4_copy_96 : decode cX4_copy 96 = .ok (.iload 6, 2) := by decide +kernel
theorem dX4_copy_98 : decode cX4_copy 98 = .ok (.iload 5, 2) := by decide +kernel
theorem dX4_copy_100 : decode cX4_copy 100 = .ok (.if_icmp .ge 30, 3) := by decide +kernel
theorem dX4_copy_103 : decode cX4_copy 103 = .ok (.aload_n 0, 1) := by decide +kernel
theorem dX4_copy_104 : decode cX4_copy 104 = .ok (.getfield 30, 3) := by decide +kernel
theorem dX4_copy_107 : decode cX4_copy 107 = .ok (.iload 6, 2) := by decide +kernel
theorem dX4_copy_109 : decode cX4_copy 109 = .ok (.aload_n 0, 1) := by decide +kernel
theorem dX4_copy_110 : decode cX4_copy 110 = .ok (.getfield 20, 3) := by decide +kernel
theorem dX4_copy_113 : decode cX4_copy 113 = .ok (.bipush 40, 2) := by decide +kernel
theorem dX4_copy_115 : decode cX4_copy 115 = .ok (.iload_n 1, 1) := by decide +kernel
theorem dX4_copy_116 : decode cX4_copy 116 = .ok (.imul, 1) := by decide +kernel
theorem dX4_copy_117 : decode cX4_copy 117 = .ok (.iload_n 2, 1) := by decide +kernel
theorem dX4_copy_118 : decode cX4_copy 118 = .ok (.iadd, 1) := by decide +kernel
theorem dX4_copy_119 : decode cX4_copy 119 = .ok (.iload 6, 2) := by decide +kernel
theorem dX4_copy_121 : decode cX4_copy 121 = .ok (.iadd, 1) := by decide +kernel
theorem dX4_copy_122 : decode cX4_copy 122 = .ok (.iaload, 1) := by decide +kernel
theorem dX4_copy_123 : decode cX4_copy 123 = .ok (.iastore, 1) := by decide +kernel
theorem dX4_copy_124 : decode cX4_copy 124 = .ok (.iinc 6 1, 3) := by decide +kernel
theorem dX4_copy_127 : decode cX4_copy 127 = .ok (.goto (-31), 3) := by decide +kernel
theorem dX4_copy_130 : decode cX4_copy 130 = .ok (.iconst 0, 1) := by decide +kernel
theorem dX4_copy_131 : decode cX4_copy 131 = .ok (.istore 6, 2) := by decide +kernel
theorem dX4_copy_133 : decode cX4_copy 133 = .ok (.iload 6, 2) := by decide +kernel
theorem dX4_copy_135 : decode cX4_copy 135 = .ok (.iload 5, 2) := by decide +kernel
theorem dX4_copy_137 : decode cX4_copy 137 = .ok (.if_icmp .ge 31, 3) := by decide +kernel
theorem dX4_copy_140 : decode cX4_copy 140 = .ok (.aload_n 0, 1) := by decide +kernel
theorem dX4_copy_141 : decode cX4_copy 141 = .ok (.getfield 20, 3) := by decide +kernel
theorem dX4_copy_144 : decode cX4_copy 144 = .ok (.bipush 40, 2) := by decide +kernel
theorem dX4_copy_146 : decode cX4_copy 146 = .ok (.iload_n 3, 1) := by decide +kernel
theorem dX4_copy_147 : decode cX4_copy 147 = .ok (.imul, 1) := by decide +kernel
theorem dX4_copy_148 : decode cX4_copy 148 = .ok (.iload 4, 2) := by decide +kernel
theorem dX4_copy_150 : decode cX4_copy 150 = .ok (.iadd, 1) := by decide +kernel
theorem dX4_copy_151 : decode cX4_copy 151 = .ok (.iload 6, 2) := by decide +kernel
theorem dX4_copy_153 : decode cX4_copy 153 = .ok (.iadd, 1) := by decide +kernel
theorem dX4_copy_154 : decode cX4_copy 154 = .ok (.aload_n 0, 1) := by decide +kernel
theorem dX4_copy_155 : decode cX4_copy 155 = .ok (.getfield 30, 3) := by decide +kernel
theorem dX4_copy_158 : decode cX4_copy 158 = .ok (.iload 6, 2) := by decide +kernel
theorem dX4_copy_160 : decode cX4_copy 160 = .ok (.iaload, 1) := by decide +kernel
theorem dX4_copy_161 : decode cX4_copy 161 = .ok (.iastore, 1) := by decide +kernel
theorem dX4_copy_162 : decode cX4_copy 162 = .ok (.iinc 6 1, 3) := by decide +kernel
theorem dX4_copy_165 : decode cX4_copy 165 = .ok (.goto (-32), 3) := by decide +kernel
theorem dX4_copy_168 : decode cX4_copy 168 = .ok (.iconst 1, 1) := by decide +kernel
theorem dX4_copy_169 : decode cX4_copy 169 = .ok (.ireturn, 1) := by decide +kernel
theorem dX4_mean_0 : decode cX4_mean 0 = .ok (.iload_n 1, 1) := by decide +kernel
theorem dX4_mean_1 : decode cX4_mean 1 = .ok (.invokestatic 81, 3) := by decide +kernel
theorem dX4_mean_4 : decode cX4_mean 4 = .ok (.ifCond .ne 5, 3) := by decide +kernel
theorem dX4_mean_7 : decode cX4_mean 7 = .ok (.iconst (-1), 1) := by decide +kernel
theorem dX4_mean_8 : decode cX4_mean 8 = .ok (.ireturn, 1) := by decide +kernel
theorem dX4_mean_9 : decode cX4_mean 9 = .ok (.aload_n 0, 1) := by decide +kernel
theorem dX4_mean_10 : decode cX4_mean 10 = .ok (.getfield 17, 3) := by decide +kernel
theorem dX4_mean_13 : decode cX4_mean 13 = .ok (.iload_n 1, 1) := by decide +kernel
theorem dX4_mean_14 : decode cX4_mean 14 = .ok (.iaload, 1) := by decide +kernel
theorem dX4_mean_15 : decode cX4_mean 15 = .ok (.ifCond .ge 9, 3) := by decide +kernel
theorem dX4_mean_18 : decode cX4_mean 18 = .ok (.aload_n 0, 1) := by decide +kernel
theorem dX4_mean_19 : decode cX4_mean 19 = .ok (.iconst 1, 1) := by decide +kernel
theorem dX4_mean_20 : decode cX4_mean 20 = .ok (.invokevirtual 85, 3) := by decide +kernel
theorem dX4_mean_23 : decode cX4_mean 23 = .ok (.ireturn, 1) := by decide +kernel
theorem dX4_mean_24 : decode cX4_mean 24 = .ok (.aload_n 0, 1) := by decide +kernel
theorem dX4_mean_25 : decode cX4_mean 25 = .ok (.getfield 17, 3) := by decide +kernel
theorem dX4_mean_28 : decode cX4_mean 28 = .ok (.iload_n 1, 1) := by decide +kernel
theorem dX4_mean_29 : decode cX4_mean 29 = .ok (.iaload, 1) := by decide +kernel
theorem dX4_mean_30 : decode cX4_mean 30 = .ok (.ifCond .ne 9, 3) := by decide +kernel
theorem dX4_mean_33 : decode cX4_mean 33 = .ok (.aload_n 0, 1) := by decide +kernel
theorem dX4_mean_34 : decode cX4_mean 34 = .ok (.iconst 4, 1) := by decide +kernel
theorem dX4_mean_35 : decode cX4_mean 35 = .ok (.invokevirtual 85, 3) := by decide +kernel
theorem dX4_mean_38 : decode cX4_mean 38 = .ok (.ireturn, 1) := by decide +kernel
theorem dX4_mean_39 : decode cX4_mean 39 = .ok (.lconst 0, 1) := by decide +kernel
theorem dX4_mean_40 : decode cX4_mean 40 = .ok (.lstore_n 2, 1) := by decide +kernel
theorem dX4_mean_41 : decode cX4_mean 41 = .ok (.iconst 0, 1) := by decide +kernel
theorem dX4_mean_42 : decode cX4_mean 42 = .ok (.istore 4, 2) := by decide +kernel
theorem dX4_mean_44 : decode cX4_mean 44 = .ok (.iload 4, 2) := by decide +kernel
theorem dX4_mean_46 : decode cX4_mean 46 = .ok (.aload_n 0, 1) := by decide +kernel
theorem dX4_mean_47 : decode cX4_mean 47 = .ok (.getfield 17, 3) := by decide +kernel
theorem dX4_mean_50 : decode cX4_mean 50 = .ok (.iload_n 1, 1) := by decide +kernel
theorem dX4_mean_51 : decode cX4_mean 51 = .ok (.iaload, 1) := by decide +kernel
theorem dX4_mean_52 : decode cX4_mean 52 = .ok (.if_icmp .ge 25, 3) := by decide +kernel
theorem dX4_mean_55 : decode cX4_mean 55 = .ok (.lload_n 2, 1) := by decide +kernel
theorem dX4_mean_56 : decode cX4_mean 56 = .ok (.aload_n 0, 1) := by decide +kernel
theorem dX4_mean_57 : decode cX4_mean 57 = .ok (.getfield 20, 3) := by decide +kernel
theorem dX4_mean_60 : decode cX4_mean 60 = .ok (.bipush 40, 2) := by decide +kernel
theorem dX4_mean_62 : decode cX4_mean 62 = .ok (.iload_n 1, 1) := by decide +kernel
theorem dX4_mean_63 : decode cX4_mean 63 = .ok (.imul, 1) := by decide +kernel
theorem dX4_mean_64 : decode cX4_mean 64 = .ok (.iload 4, 2) := by decide +kernel
theorem dX4_mean_66 : decode cX4_mean 66 = .ok (.iadd, 1) := by decide +kernel
theorem dX4_mean_67 : decode cX4_mean 67 = .ok (.iaload, 1) := by decide +kernel
theorem dX4_mean_68 : decode cX4_mean 68 = .ok (.i2l, 1) := by decide +kernel
theorem dX4_mean_69 : decode cX4_mean 69 = .ok (.ladd, 1) := by decide +kernel
theorem dX4_mean_70 : decode cX4_mean 70 = .ok (.lstore_n 2, 1) := by decide +kernel
theorem dX4_mean_71 : decode cX4_mean 71 = .ok (.iinc 4 1, 3) := by decide +kernel
theorem dX4_mean_74 : decode cX4_mean 74 = .ok (.goto (-30), 3) := by decide +kernel
theorem dX4_mean_77 : decode cX4_mean 77 = .ok (.aload_n 0, 1) := by decide +kernel
theorem dX4_mean_78 : decode cX4_mean 78 = .ok (.lload_n 2, 1) := by decide +kernel
theorem dX4_mean_79 : decode cX4_mean 79 = .ok (.aload_n 0, 1) := by decide +kernel
theorem dX4_mean_80 : decode cX4_mean 80 = .ok (.getfield 17, 3) := by decide +kernel
theorem dX4_mean_83 : decode cX4_mean 83 = .ok (.iload_n 1, 1) := by decide +kernel
theorem dX4_mean_84 : decode cX4_mean 84 = .ok (.iaload, 1) := by decide +kernel
theorem dX4_mean_85 : decode cX4_mean 85 = .ok (.i2l, 1) := by decide +kernel
theorem dX4_mean_86 : decode cX4_mean 86 = .ok (.ldiv, 1) := by decide +kernel
theorem dX4_mean_87 : decode cX4_mean 87 = .ok (.l2i, 1) := by decide +kernel
theorem dX4_mean_88 : decode cX4_mean 88 = .ok (.invokevirtual 89, 3) := by decide +kernel
theorem dX4_mean_91 : decode cX4_mean 91 = .ok (.ireturn, 1) := by decide +kernel
theorem dX4_text_0 : decode cX4_text 0 = .ok (.iload_n 1, 1) := by decide +kernel
theorem dX4_text_1 : decode cX4_text 1 = .ok (.invokestatic 92, 3) := by decide +kernel
theorem dX4_text_4 : decode cX4_text 4 = .ok (.ifCond .eq 9, 3) := by decide +kernel
theorem dX4_text_7 : decode cX4_text 7 = .ok (.iload_n 2, 1) := by decide +kernel
theorem dX4_text_8 : decode cX4_text 8 = .ok (.bipush 60, 2) := by decide +kernel
theorem dX4_text_10 : decode cX4_text 10 = .ok (.if_icmp .le 5, 3) := by decide +kernel
theorem dX4_text_13 : decode cX4_text 13 = .ok (.iconst (-1), 1) := by decide +kernel
theorem dX4_text_14 : decode cX4_text 14 = .ok (.ireturn, 1) := by decide +kernel
theorem dX4_text_15 : decode cX4_text 15 = .ok (.iload_n 2, 1) := by decide +kernel
theorem dX4_text_16 : decode cX4_text 16 = .ok (.ifCond .ge 9, 3) := by decide +kernel
theorem dX4_text_19 : decode cX4_text 19 = .ok (.aload_n 0, 1) := by decide +kernel
theorem dX4_text_20 : decode cX4_text 20 = .ok (.iconst 5, 1) := by decide +kernel
theorem dX4_text_21 : decode cX4_text 21 = .ok (.invokevirtual 85, 3) := by decide +kernel
theorem dX4_text_24 : decode cX4_text 24 = .ok (.ireturn, 1) := by decide +kernel
theorem dX4_text_25 : decode cX4_text 25 = .ok (.aload_n 0, 1) := by decide +kernel
theorem dX4_text_26 : decode cX4_text 26 = .ok (.getfield 23, 3) := by decide +kernel
theorem dX4_text_29 : decode cX4_text 29 = .ok (.iload_n 1, 1) := by decide +kernel
theorem dX4_text_30 : decode cX4_text 30 = .ok (.iload_n 2, 1) := by decide +kernel
theorem dX4_text_31 : decode cX4_text 31 = .ok (.iastore, 1) := by decide +kernel
theorem dX4_text_32 : decode cX4_text 32 = .ok (.iconst 0, 1) := by decide +kernel
theorem dX4_text_33 : decode cX4_text 33 = .ok (.istore_n 3, 1) := by decide +kernel
theorem dX4_text_34 : decode cX4_text 34 = .ok (.iload_n 3, 1) := by decide +kernel
theorem dX4_text_35 : decode cX4_text 35 = .ok (.bipush 60, 2) := by decide +kernel
theorem dX4_text_37 : decode cX4_text 37 = .ok (.if_icmp .ge 22, 3) := by decide +kernel
theorem dX4_text_40 : decode cX4_text 40 = .ok (.aload_n 0, 1) := by decide +kernel
theorem dX4_text_41 : decode cX4_text 41 = .ok (.getfield 26, 3) := by decide +kernel
theorem dX4_text_44 : decode cX4_text 44 = .ok (.bipush 60, 2) := by decide +kernel
theorem dX4_text_46 : decode cX4_text 46 = .ok (.iload_n 1, 1) := by decide +kernel
theorem dX4_text_47 : decode cX4_text 47 = .ok (.imul, 1) := by decide +kernel
theorem dX4_text_48 : decode cX4_text 48 = .ok (.iload_n 3, 1) := by decide +kernel
theorem dX4_text_49 : decode cX4_text 49 = .ok (.iadd, 1) := by decide +kernel
theorem dX4_text_50 : decode cX4_text 50 = .ok (.bipush 32, 2) := by decide +kernel
theorem dX4_text_52 : decode cX4_text 52 = .ok (.bastore, 1) := by decide +kernel
theorem dX4_text_53 : decode cX4_text 53 = .ok (.iinc 3 1, 3) := by decide +kernel
theorem dX4_text_56 : decode cX4_text 56 = .ok (.goto (-22), 3) := by decide +kernel
theorem dX4_text_59 : decode cX4_text 59 = .ok (.iload_n 2, 1) := by decide +kernel
theorem dX4_text_60 : decode cX4_text 60 = .ok (.ireturn, 1) := by decide +kernel
theorem dX4_put_0 : decode cX4_put 0 = .ok (.iload_n 1, 1) := by decide +kernel
theorem dX4_put_1 : decode cX4_put 1 = .ok (.invokestatic 92, 3) := by decide +kernel
theorem dX4_put_4 : decode cX4_put 4 = .ok (.ifCond .ne 5, 3) := by decide +kernel
theorem dX4_put_7 : decode cX4_put 7 = .ok (.iconst (-1), 1) := by decide +kernel
theorem dX4_put_8 : decode cX4_put 8 = .ok (.ireturn, 1) := by decide +kernel
theorem dX4_put_9 : decode cX4_put 9 = .ok (.aload_n 0, 1) := by decide +kernel
theorem dX4_put_10 : decode cX4_put 10 = .ok (.getfield 23, 3) := by decide +kernel
theorem dX4_put_13 : decode cX4_put 13 = .ok (.iload_n 1, 1) := by decide +kernel
theorem dX4_put_14 : decode cX4_put 14 = .ok (.iaload, 1) := by decide +kernel
theorem dX4_put_15 : decode cX4_put 15 = .ok (.ifCond .ge 9, 3) := by decide +kernel
theorem dX4_put_18 : decode cX4_put 18 = .ok (.aload_n 0, 1) := by decide +kernel
theorem dX4_put_19 : decode cX4_put 19 = .ok (.iconst 1, 1) := by decide +kernel
theorem dX4_put_20 : decode cX4_put 20 = .ok (.invokevirtual 85, 3) := by decide +kernel
theorem dX4_put_23 : decode cX4_put 23 = .ok (.ireturn, 1) := by decide +kernel
theorem dX4_put_24 : decode cX4_put 24 = .ok (.iload_n 2, 1) := by decide +kernel
theorem dX4_put_25 : decode cX4_put 25 = .ok (.iconst 0, 1) := by decide +kernel
theorem dX4_put_26 : decode cX4_put 26 = .ok (.aload_n 0, 1) := by decide +kernel
theorem dX4_put_27 : decode cX4_put 27 = .ok (.getfield 23, 3) := by decide +kernel
theorem dX4_put_30 : decode cX4_put 30 = .ok (.iload_n 1, 1) := by decide +kernel
theorem dX4_put_31 : decode cX4_put 31 = .ok (.iaload, 1) := by decide +kernel
theorem dX4_put_32 : decode cX4_put 32 = .ok (.iconst 1, 1) := by decide +kernel
theorem dX4_put_33 : decode cX4_put 33 = .ok (.isub, 1) := by decide +kernel
theorem dX4_put_34 : decode cX4_put 34 = .ok (.invokestatic 77, 3) := by decide +kernel
theorem dX4_put_37 : decode cX4_put 37 = .ok (.ifCond .ne 9, 3) := by decide +kernel
theorem dX4_put_40 : decode cX4_put 40 = .ok (.aload_n 0, 1) := by decide +kernel
theorem dX4_put_41 : decode cX4_put 41 = .ok (.iconst 2, 1) := by decide +kernel
theorem dX4_put_42 : decode cX4_put 42 = .ok (.invokevirtual 85, 3) := by decide +kernel
theorem dX4_put_45 : decode cX4_put 45 = .ok (.ireturn, 1) := by decide +kernel
theorem dX4_put_46 : decode cX4_put 46 = .ok (.aload_n 0, 1) := by decide +kernel
theorem dX4_put_47 : decode cX4_put 47 = .ok (.getfield 26, 3) := by decide +kernel
theorem dX4_put_50 : decode cX4_put 50 = .ok (.bipush 60, 2) := by decide +kernel
theorem dX4_put_52 : decode cX4_put 52 = .ok (.iload_n 1, 1) := by decide +kernel
theorem dX4_put_53 : decode cX4_put 53 = .ok (.imul, 1) := by decide +kernel
theorem dX4_put_54 : decode cX4_put 54 = .ok (.iload_n 2, 1) := by decide +kernel
theorem dX4_put_55 : decode cX4_put 55 = .ok (.iadd, 1) := by decide +kernel
theorem dX4_put_56 : decode cX4_put 56 = .ok (.baload, 1) := by decide +kernel
theorem dX4_put_57 : decode cX4_put 57 = .ok (.istore 4, 2) := by decide +kernel
theorem dX4_put_59 : decode cX4_put 59 = .ok (.aload_n 0, 1) := by decide +kernel
theorem dX4_put_60 : decode cX4_put 60 = .ok (.getfield 26, 3) := by decide +kernel
theorem dX4_put_63 : decode cX4_put 63 = .ok (.bipush 60, 2) := by decide +kernel
theorem dX4_put_65 : decode cX4_put 65 = .ok (.iload_n 1, 1) := by decide +kernel
theorem dX4_put_66 : decode cX4_put 66 = .ok (.imul, 1) := by decide +kernel
theorem dX4_put_67 : decode cX4_put 67 = .ok (.iload_n 2, 1) := by decide +kernel
theorem dX4_put_68 : decode cX4_put 68 = .ok (.iadd, 1) := by decide +kernel
theorem dX4_put_69 : decode cX4_put 69 = .ok (.iload_n 3, 1) := by decide +kernel
theorem dX4_put_70 : decode cX4_put 70 = .ok (.i2b, 1) := by decide +kernel
theorem dX4_put_71 : decode cX4_put 71 = .ok (.bastore, 1) := by decide +kernel
theorem dX4_put_72 : decode cX4_put 72 = .ok (.iload 4, 2) := by decide +kernel
theorem dX4_put_74 : decode cX4_put 74 = .ok (.sipush 1000, 3) := by decide +kernel
theorem dX4_put_77 : decode cX4_put 77 = .ok (.iadd, 1) := by decide +kernel
theorem dX4_put_78 : decode cX4_put 78 = .ok (.ireturn, 1) := by decide +kernel
theorem dX4_kindOf_0 : decode cX4_kindOf 0 = .ok (.iload_n 0, 1) := by decide +kernel
theorem dX4_kindOf_1 : decode cX4_kindOf 1 = .ok (.bipush 103, 2) := by decide +kernel
theorem dX4_kindOf_3 : decode cX4_kindOf 3 = .ok (.if_icmp .ne 7, 3) := by decide +kernel
theorem dX4_kindOf_6 : decode cX4_kindOf 6 = .ok (.iconst 0, 1) := by decide +kernel
theorem dX4_kindOf_7 : decode cX4_kindOf 7 = .ok (.goto 55, 3) := by decide +kernel
theorem dX4_kindOf_10 : decode cX4_kindOf 10 = .ok (.iload_n 0, 1) := by decide +kernel
theorem dX4_kindOf_11 : decode cX4_kindOf 11 = .ok (.bipush 107, 2) := by decide +kernel
theorem dX4_kindOf_13 : decode cX4_kindOf 13 = .ok (.if_icmp .ne 7, 3) := by decide +kernel
theorem dX4_kindOf_16 : decode cX4_kindOf 16 = .ok (.iconst 1, 1) := by decide +kernel
theorem dX4_kindOf_17 : decode cX4_kindOf 17 = .ok (.goto 45, 3) := by decide +kernel
theorem dX4_kindOf_20 : decode cX4_kindOf 20 = .ok (.iload_n 0, 1) := by decide +kernel
theorem dX4_kindOf_21 : decode cX4_kindOf 21 = .ok (.bipush 115, 2) := by decide +kernel
theorem dX4_kindOf_23 : decode cX4_kindOf 23 = .ok (.if_icmp .ne 7, 3) := by decide +kernel
theorem dX4_kindOf_26 : decode cX4_kindOf 26 = .ok (.iconst 2, 1) := by decide +kernel
theorem dX4_kindOf_27 : decode cX4_kindOf 27 = .ok (.goto 35, 3) := by decide +kernel
theorem dX4_kindOf_30 : decode cX4_kindOf 30 = .ok (.iload_n 0, 1) := by decide +kernel
theorem dX4_kindOf_31 : decode cX4_kindOf 31 = .ok (.bipush 109, 2) := by decide +kernel
theorem dX4_kindOf_33 : decode cX4_kindOf 33 = .ok (.if_icmp .ne 7, 3) := by decide +kernel
theorem dX4_kindOf_36 : decode cX4_kindOf 36 = .ok (.iconst 3, 1) := by decide +kernel
theorem dX4_kindOf_37 : decode cX4_kindOf 37 = .ok (.goto 25, 3) := by decide +kernel
theorem dX4_kindOf_40 : decode cX4_kindOf 40 = .ok (.iload_n 0, 1) := by decide +kernel
theorem dX4_kindOf_41 : decode cX4_kindOf 41 = .ok (.bipush 105, 2) := by decide +kernel
theorem dX4_kindOf_43 : decode cX4_kindOf 43 = .ok (.if_icmp .ne 7, 3) := by decide +kernel
theorem dX4_kindOf_46 : decode cX4_kindOf 46 = .ok (.iconst 4, 1) := by decide +kernel
theorem dX4_kindOf_47 : decode cX4_kindOf 47 = .ok (.goto 15, 3) := by decide +kernel
theorem dX4_kindOf_50 : decode cX4_kindOf 50 = .ok (.iload_n 0, 1) := by decide +kernel
theorem dX4_kindOf_51 : decode cX4_kindOf 51 = .ok (.bipush 102, 2) := by decide +kernel
theorem dX4_kindOf_53 : decode cX4_kindOf 53 = .ok (.if_icmp .ne 7, 3) := by decide +kernel
theorem dX4_kindOf_56 : decode cX4_kindOf 56 = .ok (.iconst 5, 1) := by decide +kernel
theorem dX4_kindOf_57 : decode cX4_kindOf 57 = .ok (.goto 5, 3) := by decide +kernel
theorem dX4_kindOf_60 : decode cX4_kindOf 60 = .ok (.bipush (-9), 2) := by decide +kernel
theorem dX4_kindOf_62 : decode cX4_kindOf 62 = .ok (.ireturn, 1) := by decide +kernel
theorem dX4_read_0 : decode cX4_read 0 = .ok (.aload_n 0, 1) := by decide +kernel
theorem dX4_read_1 : decode cX4_read 1 = .ok (.iconst 0, 1) := by decide +kernel
theorem dX4_read_2 : decode cX4_read 2 = .ok (.putfield 95, 3) := by decide +kernel
theorem dX4_read_5 : decode cX4_read 5 = .ok (.iconst 0, 1) := by decide +kernel
theorem dX4_read_6 : decode cX4_read 6 = .ok (.istore_n 2, 1) := by decide +kernel
theorem dX4_read_7 : decode cX4_read 7 = .ok (.iload_n 2, 1) := by decide +kernel
theorem dX4_read_8 : decode cX4_read 8 = .ok (.aload_n 0, 1) := by decide +kernel
theorem dX4_read_9 : decode cX4_read 9 = .ok (.getfield 23, 3) := by decide +kernel
theorem dX4_read_12 : decode cX4_read 12 = .ok (.iload_n 1, 1) := by decide +kernel
theorem dX4_read_13 : decode cX4_read 13 = .ok (.iaload, 1) := by decide +kernel
theorem dX4_read_14 : decode cX4_read 14 = .ok (.if_icmp .ge 25, 3) := by decide +kernel
theorem dX4_read_17 : decode cX4_read 17 = .ok (.aload_n 0, 1) := by decide +kernel
theorem dX4_read_18 : decode cX4_read 18 = .ok (.getfield 26, 3) := by decide +kernel
theorem dX4_read_21 : decode cX4_read 21 = .ok (.bipush 60, 2) := by decide +kernel
theorem dX4_read_23 : decode cX4_read 23 = .ok (.iload_n 1, 1) := by decide +kernel
theorem dX4_read_24 : decode cX4_read 24 = .ok (.imul, 1) := by decide +kernel
theorem dX4_read_25 : decode cX4_read 25 = .ok (.iload_n 2, 1) := by decide +kernel
theorem dX4_read_26 : decode cX4_read 26 = .ok (.iadd, 1) := by decide +kernel
theorem dX4_read_27 : decode cX4_read 27 = .ok (.baload, 1) := by decide +kernel
theorem dX4_read_28 : decode cX4_read 28 = .ok (.bipush 32, 2) := by decide +kernel
theorem dX4_read_30 : decode cX4_read 30 = .ok (.if_icmp .ne 9, 3) := by decide +kernel
theorem dX4_read_33 : decode cX4_read 33 = .ok (.iinc 2 1, 3) := by decide +kernel
theorem dX4_read_36 : decode cX4_read 36 = .ok (.goto (-29), 3) := by decide +kernel
theorem dX4_read_39 : decode cX4_read 39 = .ok (.iload_n 2, 1) := by decide +kernel
theorem dX4_read_40 : decode cX4_read 40 = .ok (.aload_n 0, 1) := by decide +kernel
theorem dX4_read_41 : decode cX4_read 41 = .ok (.getfield 23, 3) := by decide +kernel
theorem dX4_read_44 : decode cX4_read 44 = .ok (.iload_n 1, 1) := by decide +kernel
theorem dX4_read_45 : decode cX4_read 45 = .ok (.iaload, 1) := by decide +kernel
theorem dX4_read_46 : decode cX4_read 46 = .ok (.if_icmp .ne 18, 3) := by decide +kernel
theorem dX4_read_49 : decode cX4_read 49 = .ok (.aload_n 0, 1) := by decide +kernel
theorem dX4_read_50 : decode cX4_read 50 = .ok (.getfield 95, 3) := by decide +kernel
theorem dX4_read_53 : decode cX4_read 53 = .ok (.iconst 2, 1) := by decide +kernel
theorem dX4_read_54 : decode cX4_read 54 = .ok (.if_icmp .ge 7, 3) := by decide +kernel
theorem dX4_read_57 : decode cX4_read 57 = .ok (.iload_n 2, 1) := by decide +kernel
theorem dX4_read_58 : decode cX4_read 58 = .ok (.goto 5, 3) := by decide +kernel
theorem dX4_read_61 : decode cX4_read 61 = .ok (.bipush (-9), 2) := by decide +kernel
theorem dX4_read_63 : decode cX4_read 63 = .ok (.ireturn, 1) := by decide +kernel
theorem dX4_read_64 : decode cX4_read 64 = .ok (.aload_n 0, 1) := by decide +kernel
theorem dX4_read_65 : decode cX4_read 65 = .ok (.getfield 26, 3) := by decide +kernel
theorem dX4_read_68 : decode cX4_read 68 = .ok (.bipush 60, 2) := by decide +kernel
theorem dX4_read_70 : decode cX4_read 70 = .ok (.iload_n 1, 1) := by decide +kernel
theorem dX4_read_71 : decode cX4_read 71 = .ok (.imul, 1) := by decide +kernel
theorem dX4_read_72 : decode cX4_read 72 = .ok (.iload_n 2, 1) := by decide +kernel
theorem dX4_read_73 : decode cX4_read 73 = .ok (.iadd, 1) := by decide +kernel
theorem dX4_read_74 : decode cX4_read 74 = .ok (.baload, 1) := by decide +kernel
theorem dX4_read_75 : decode cX4_read 75 = .ok (.invokestatic 98, 3) := by decide +kernel
theorem dX4_read_78 : decode cX4_read 78 = .ok (.istore_n 3, 1) := by decide +kernel
theorem dX4_read_79 : decode cX4_read 79 = .ok (.iload_n 3, 1) := by decide +kernel
theorem dX4_read_80 : decode cX4_read 80 = .ok (.bipush (-9), 2) := by decide +kernel
theorem dX4_read_82 : decode cX4_read 82 = .ok (.if_icmp .eq 12, 3) := by decide +kernel
theorem dX4_read_85 : decode cX4_read 85 = .ok (.aload_n 0, 1) := by decide +kernel
theorem dX4_read_86 : decode cX4_read 86 = .ok (.getfield 95, 3) := by decide +kernel
theorem dX4_read_89 : decode cX4_read 89 = .ok (.bipush 7, 2) := by decide +kernel
theorem dX4_read_91 : decode cX4_read 91 = .ok (.if_icmp .ne 5, 3) := by decide +kernel
theorem dX4_read_94 : decode cX4_read 94 = .ok (.iload_n 2, 1) := by decide +kernel
theorem dX4_read_95 : decode cX4_read 95 = .ok (.ireturn, 1) := by decide +kernel
theorem dX4_read_96 : decode cX4_read 96 = .ok (.aload_n 0, 1) := by decide +kernel
theorem dX4_read_97 : decode cX4_read 97 = .ok (.getfield 33, 3) := by decide +kernel
theorem dX4_read_100 : decode cX4_read 100 = .ok (.bipush 7, 2) := by decide +kernel
theorem dX4_read_102 : decode cX4_read 102 = .ok (.aload_n 0, 1) := by decide +kernel
theorem dX4_read_103 : decode cX4_read 103 = .ok (.getfield 95, 3) := by decide +kernel
theorem dX4_read_106 : decode cX4_read 106 = .ok (.iadd, 1) := by decide +kernel
theorem dX4_read_107 : decode cX4_read 107 = .ok (.iload_n 3, 1) := by decide +kernel
theorem dX4_read_108 : decode cX4_read 108 = .ok (.iastore, 1) := by decide +kernel
theorem dX4_read_109 : decode cX4_read 109 = .ok (.iconst 1, 1) := by decide +kernel
theorem dX4_read_110 : decode cX4_read 110 = .ok (.istore 4, 2) := by decide +kernel
theorem dX4_read_112 : decode cX4_read 112 = .ok (.iload 4, 2) := by decide +kernel
theorem dX4_read_114 : decode cX4_read 114 = .ok (.iconst 2, 1) := by decide +kernel
theorem dX4_read_115 : decode cX4_read 115 = .ok (.if_icmp .gt 51, 3) := by decide +kernel
theorem dX4_read_118 : decode cX4_read 118 = .ok (.iload_n 2, 1) := by decide +kernel
theorem dX4_read_119 : decode cX4_read 119 = .ok (.iload 4, 2) := by decide +kernel
theorem dX4_read_121 : decode cX4_read 121 = .ok (.iadd, 1) := by decide +kernel
theorem dX4_read_122 : decode cX4_read 122 = .ok (.aload_n 0, 1) := by decide +kernel
theorem dX4_read_123 : decode cX4_read 123 = .ok (.getfield 23, 3) := by decide +kernel
theorem dX4_read_126 : decode cX4_read 126 = .ok (.iload_n 1, 1) := by decide +kernel
theorem dX4_read_127 : decode cX4_read 127 = .ok (.iaload, 1) := by decide +kernel
theorem dX4_read_128 : decode cX4_read 128 = .ok (.if_icmp .eq 27, 3) := by decide +kernel
theorem dX4_read_131 : decode cX4_read 131 = .ok (.aload_n 0, 1) := by decide +kernel
theorem dX4_read_132 : decode cX4_read 132 = .ok (.getfield 26, 3) := by decide +kernel
theorem dX4_read_135 : decode cX4_read 135 = .ok (.bipush 60, 2) := by decide +kernel
theorem dX4_read_137 : decode cX4_read 137 = .ok (.iload_n 1, 1) := by decide +kernel
theorem dX4_read_138 : decode cX4_read 138 = .ok (.imul, 1) := by decide +kernel
theorem dX4_read_139 : decode cX4_read 139 = .ok (.iload_n 2, 1) := by decide +kernel
theorem dX4_read_140 : decode cX4_read 140 = .ok (.iadd, 1) := by decide +kernel
theorem dX4_read_141 : decode cX4_read 141 = .ok (.iload 4, 2) := by decide +kernel
theorem dX4_read_143 : decode cX4_read 143 = .ok (.iadd, 1) := by decide +kernel
theorem dX4_read_144 : decode cX4_read 144 = .ok (.baload, 1) := by decide +kernel
theorem dX4_read_145 : decode cX4_read 145 = .ok (.bipush 48, 2) := by decide +kernel
theorem dX4_read_147 : decode cX4_read 147 = .ok (.bipush 57, 2) := by decide +kernel
theorem dX4_read_149 : decode cX4_read 149 = .ok (.invokestatic 77, 3) := by decide +kernel
theorem dX4_read_152 : decode cX4_read 152 = .ok (.ifCond .ne 8, 3) := by decide +kernel
theorem dX4_read_155 : decode cX4_read 155 = .ok (.iload_n 2, 1) := by decide +kernel
theorem dX4_read_156 : decode cX4_read 156 = .ok (.iload 4, 2) := by decide +kernel
theorem dX4_read_158 : decode cX4_read 158 = .ok (.iadd, 1) := by decide +kernel
theorem dX4_read_159 : decode cX4_read 159 = .ok (.ireturn, 1) := by decide +kernel
theorem dX4_read_160 : decode cX4_read 160 = .ok (.iinc 4 1, 3) := by decide +kernel
theorem dX4_read_163 : decode cX4_read 163 = .ok (.goto (-51), 3) := by decide +kernel
theorem dX4_read_166 : decode cX4_read 166 = .ok (.aload_n 0, 1) := by decide +kernel
theorem dX4_read_167 : decode cX4_read 167 = .ok (.getfield 36, 3) := by decide +kernel
theorem dX4_read_170 : decode cX4_read 170 = .ok (.bipush 7, 2) := by decide +kernel
theorem dX4_read_172 : decode cX4_read 172 = .ok (.aload_n 0, 1) := by decide +kernel
theorem dX4_read_173 : decode cX4_read 173 = .ok (.getfield 95, 3) := by decide +kernel
theorem dX4_read_176 : decode cX4_read 176 = .ok (.iadd, 1) := by decide +kernel
theorem dX4_read_177 : decode cX4_read 177 = .ok (.aload_n 0, 1) := by decide +kernel
theorem dX4_read_178 : decode cX4_read 178 = .ok (.getfield 26, 3) := by decide +kernel
theorem dX4_read_181 : decode cX4_read 181 = .ok (.bipush 60, 2) := by decide +kernel
theorem dX4_read_183 : decode cX4_read 183 = .ok (.iload_n 1, 1) := by decide +kernel
theorem dX4_read_184 : decode cX4_read 184 = .ok (.imul, 1) := by decide +kernel
theorem dX4_read_185 : decode cX4_read 185 = .ok (.iload_n 2, 1) := by decide +kernel
theorem dX4_read_186 : decode cX4_read 186 = .ok (.iadd, 1) := by decide +kernel
theorem dX4_read_187 : decode cX4_read 187 = .ok (.iconst 1, 1) := by decide +kernel
theorem dX4_read_188 : decode cX4_read 188 = .ok (.iadd, 1) := by decide +kernel
theorem dX4_read_189 : decode cX4_read 189 = .ok (.baload, 1) := by decide +kernel
theorem dX4_read_190 : decode cX4_read 190 = .ok (.bipush 48, 2) := by decide +kernel
theorem dX4_read_192 : decode cX4_read 192 = .ok (.isub, 1) := by decide +kernel
theorem dX4_read_193 : decode cX4_read 193 = .ok (.iastore, 1) := by decide +kernel
theorem dX4_read_194 : decode cX4_read 194 = .ok (.aload_n 0, 1) := by decide +kernel
theorem dX4_read_195 : decode cX4_read 195 = .ok (.getfield 39, 3) := by decide +kernel
theorem dX4_read_198 : decode cX4_read 198 = .ok (.bipush 7, 2) := by decide +kernel
theorem dX4_read_200 : decode cX4_read 200 = .ok (.aload_n 0, 1) := by decide +kernel
theorem dX4_read_201 : decode cX4_read 201 = .ok (.getfield 95, 3) := by decide +kernel
theorem dX4_read_204 : decode cX4_read 204 = .ok (.iadd, 1) := by decide +kernel
theorem dX4_read_205 : decode cX4_read 205 = .ok (.aload_n 0, 1) := by decide +kernel
theorem dX4_read_206 : decode cX4_read 206 = .ok (.getfield 26, 3) := by decide +kernel
theorem dX4_read_209 : decode cX4_read 209 = .ok (.bipush 60, 2) := by decide +kernel
theorem dX4_read_211 : decode cX4_read 211 = .ok (.iload_n 1, 1) := by decide +kernel
theorem dX4_read_212 : decode cX4_read 212 = .ok (.imul, 1) := by decide +kernel
theorem dX4_read_213 : decode cX4_read 213 = .ok (.iload_n 2, 1) := by decide +kernel
theorem dX4_read_214 : decode cX4_read 214 = .ok (.iadd, 1) := by decide +kernel
theorem dX4_read_215 : decode cX4_read 215 = .ok (.iconst 2, 1) := by decide +kernel
theorem dX4_read_216 : decode cX4_read 216 = .ok (.iadd, 1) := by decide +kernel
theorem dX4_read_217 : decode cX4_read 217 = .ok (.baload, 1) := by decide +kernel
theorem dX4_read_218 : decode cX4_read 218 = .ok (.bipush 48, 2) := by decide +kernel
theorem dX4_read_220 : decode cX4_read 220 = .ok (.isub, 1) := by decide +kernel
theorem dX4_read_221 : decode cX4_read 221 = .ok (.iastore, 1) := by decide +kernel
theorem dX4_read_222 : decode cX4_read 222 = .ok (.aload_n 0, 1) := by decide +kernel
theorem dX4_read_223 : decode cX4_read 223 = .ok (.dup, 1) := by decide +kernel
theorem dX4_read_224 : decode cX4_read 224 = .ok (.getfield 95, 3) := by decide +kernel
theorem dX4_read_227 : decode cX4_read 227 = .ok (.iconst 1, 1) := by decide +kernel
theorem dX4_read_228 : decode cX4_read 228 = .ok (.iadd, 1) := by decide +kernel
theorem dX4_read_229 : decode cX4_read 229 = .ok (.putfield 95, 3) := by decide +kernel
theorem dX4_read_232 : decode cX4_read 232 = .ok (.iinc 2 3, 3) := by decide +kernel
theorem dX4_read_235 : decode cX4_read 235 = .ok (.goto (-228), 3) := by decide +kernel
theorem dX4_fault_0 : decode cX4_fault 0 = .ok (.iload_n 1, 1) := by decide +kernel
theorem dX4_fault_1 : decode cX4_fault 1 = .ok (.invokestatic 92, 3) := by decide +kernel
theorem dX4_fault_4 : decode cX4_fault 4 = .ok (.ifCond .ne 5, 3) := by decide +kernel
theorem dX4_fault_7 : decode cX4_fault 7 = .ok (.iconst (-1), 1) := by decide +kernel
theorem dX4_fault_8 : decode cX4_fault 8 = .ok (.ireturn, 1) := by decide +kernel
theorem dX4_fault_9 : decode cX4_fault 9 = .ok (.aload_n 0, 1) := by decide +kernel
theorem dX4_fault_10 : decode cX4_fault 10 = .ok (.getfield 23, 3) := by decide +kernel
theorem dX4_fault_13 : decode cX4_fault 13 = .ok (.iload_n 1, 1) := by decide +kernel
theorem dX4_fault_14 : decode cX4_fault 14 = .ok (.iaload, 1) := by decide +kernel
theorem dX4_fault_15 : decode cX4_fault 15 = .ok (.ifCond .ge 11, 3) := by decide +kernel
theorem dX4_fault_18 : decode cX4_fault 18 = .ok (.aload_n 0, 1) := by decide +kernel
theorem dX4_fault_19 : decode cX4_fault 19 = .ok (.iconst 1, 1) := by decide +kernel
theorem dX4_fault_20 : decode cX4_fault 20 = .ok (.invokevirtual 85, 3) := by decide +kernel
theorem dX4_fault_23 : decode cX4_fault 23 = .ok (.goto 8, 3) := by decide +kernel
theorem dX4_fault_26 : decode cX4_fault 26 = .ok (.aload_n 0, 1) := by decide +kernel
theorem dX4_fault_27 : decode cX4_fault 27 = .ok (.iload_n 1, 1) := by decide +kernel
theorem dX4_fault_28 : decode cX4_fault 28 = .ok (.invokevirtual 101, 3) := by decide +kernel
theorem dX4_fault_31 : decode cX4_fault 31 = .ok (.ireturn, 1) := by decide +kernel
theorem dX4_gate_0 : decode cX4_gate 0 = .ok (.iload_n 1, 1) := by decide +kernel
theorem dX4_gate_1 : decode cX4_gate 1 = .ok (.invokestatic 92, 3) := by decide +kernel
theorem dX4_gate_4 : decode cX4_gate 4 = .ok (.ifCond .ne 5, 3) := by decide +kernel
theorem dX4_gate_7 : decode cX4_gate 7 = .ok (.iconst (-1), 1) := by decide +kernel
theorem dX4_gate_8 : decode cX4_gate 8 = .ok (.ireturn, 1) := by decide +kernel
theorem dX4_gate_9 : decode cX4_gate 9 = .ok (.aload_n 0, 1) := by decide +kernel
theorem dX4_gate_10 : decode cX4_gate 10 = .ok (.getfield 23, 3) := by decide +kernel
theorem dX4_gate_13 : decode cX4_gate 13 = .ok (.iload_n 1, 1) := by decide +kernel
theorem dX4_gate_14 : decode cX4_gate 14 = .ok (.iaload, 1) := by decide +kernel
theorem dX4_gate_15 : decode cX4_gate 15 = .ok (.ifCond .ge 9, 3) := by decide +kernel
theorem dX4_gate_18 : decode cX4_gate 18 = .ok (.aload_n 0, 1) := by decide +kernel
theorem dX4_gate_19 : decode cX4_gate 19 = .ok (.iconst 1, 1) := by decide +kernel
theorem dX4_gate_20 : decode cX4_gate 20 = .ok (.invokevirtual 85, 3) := by decide +kernel
theorem dX4_gate_23 : decode cX4_gate 23 = .ok (.ireturn, 1) := by decide +kernel
theorem dX4_gate_24 : decode cX4_gate 24 = .ok (.aload_n 0, 1) := by decide +kernel
theorem dX4_gate_25 : decode cX4_gate 25 = .ok (.iload_n 1, 1) := by decide +kernel
theorem dX4_gate_26 : decode cX4_gate 26 = .ok (.invokevirtual 101, 3) := by decide +kernel
theorem dX4_gate_29 : decode cX4_gate 29 = .ok (.bipush (-9), 2) := by decide +kernel
theorem dX4_gate_31 : decode cX4_gate 31 = .ok (.if_icmp .eq 6, 3) := by decide +kernel
theorem dX4_gate_34 : decode cX4_gate 34 = .ok (.bipush (-4), 2) := by decide +kernel
theorem dX4_gate_36 : decode cX4_gate 36 = .ok (.ireturn, 1) := by decide +kernel
theorem dX4_gate_37 : decode cX4_gate 37 = .ok (.aload_n 0, 1) := by decide +kernel
theorem dX4_gate_38 : decode cX4_gate 38 = .ok (.aload_n 0, 1) := by decide +kernel
theorem dX4_gate_39 : decode cX4_gate 39 = .ok (.getfield 95, 3) := by decide +kernel
theorem dX4_gate_42 : decode cX4_gate 42 = .ok (.putfield 104, 3) := by decide +kernel
theorem dX4_gate_45 : decode cX4_gate 45 = .ok (.iconst 0, 1) := by decide +kernel
theorem dX4_gate_46 : decode cX4_gate 46 = .ok (.istore_n 2, 1) := by decide +kernel
theorem dX4_gate_47 : decode cX4_gate 47 = .ok (.iload_n 2, 1) := by decide +kernel
theorem dX4_gate_48 : decode cX4_gate 48 = .ok (.aload_n 0, 1) := by decide +kernel
theorem dX4_gate_49 : decode cX4_gate 49 = .ok (.getfield 104, 3) := by decide +kernel
theorem dX4_gate_52 : decode cX4_gate 52 = .ok (.if_icmp .ge 77, 3) := by decide +kernel
theorem dX4_gate_55 : decode cX4_gate 55 = .ok (.aload_n 0, 1) := by decide +kernel
theorem dX4_gate_56 : decode cX4_gate 56 = .ok (.getfield 33, 3) := by decide +kernel
theorem dX4_gate_59 : decode cX4_gate 59 = .ok (.iload_n 2, 1) := by decide +kernel
theorem dX4_gate_60 : decode cX4_gate 60 = .ok (.aload_n 0, 1) := by decide +kernel
theorem dX4_gate_61 : decode cX4_gate 61 = .ok (.getfield 33, 3) := by decide +kernel
theorem dX4_gate_64 : decode cX4_gate 64 = .ok (.bipush 7, 2) := by decide +kernel
theorem dX4_gate_66 : decode cX4_gate 66 = .ok (.iload_n 2, 1) := by decide +kernel
theorem dX4_gate_67 : decode cX4_gate 67 = .ok (.iadd, 1) := by decide +kernel
theorem dX4_gate_68 : decode cX4_gate 68 = .ok (.iaload, 1) := by decide +kernel
theorem dX4_gate_69 : decode cX4_gate 69 = .ok (.iastore, 1) := by decide +kernel
theorem dX4_gate_70 : decode cX4_gate 70 = .ok (.aload_n 0, 1) := by decide +kernel
theorem dX4_gate_71 : decode cX4_gate 71 = .ok (.getfield 36, 3) := by decide +kernel
theorem dX4_gate_74 : decode cX4_gate 74 = .ok (.iload_n 2, 1) := by decide +kernel
theorem dX4_gate_75 : decode cX4_gate 75 = .ok (.aload_n 0, 1) := by decide +kernel
theorem dX4_gate_76 : decode cX4_gate 76 = .ok (.getfield 36, 3) := by decide +kernel
theorem dX4_gate_79 : decode cX4_gate 79 = .ok (.bipush 7, 2) := by decide +kernel
theorem dX4_gate_81 : decode cX4_gate 81 = .ok (.iload_n 2, 1) := by decide +kernel
theorem dX4_gate_82 : decode cX4_gate 82 = .ok (.iadd, 1) := by decide +kernel
theorem dX4_gate_83 : decode cX4_gate 83 = .ok (.iaload, 1) := by decide +kernel
theorem dX4_gate_84 : decode cX4_gate 84 = .ok (.iastore, 1) := by decide +kernel
theorem dX4_gate_85 : decode cX4_gate 85 = .ok (.aload_n 0, 1) := by decide +kernel
theorem dX4_gate_86 : decode cX4_gate 86 = .ok (.getfield 39, 3) := by decide +kernel
theorem dX4_gate_89 : decode cX4_gate 89 = .ok (.bipush 7, 2) := by decide +kernel
theorem dX4_gate_91 : decode cX4_gate 91 = .ok (.iload_n 2, 1) := by decide +kernel
theorem dX4_gate_92 : decode cX4_gate 92 = .ok (.iadd, 1) := by decide +kernel
theorem dX4_gate_93 : decode cX4_gate 93 = .ok (.iaload, 1) := by decide +kernel
theorem dX4_gate_94 : decode cX4_gate 94 = .ok (.istore_n 3, 1) := by decide +kernel
theorem dX4_gate_95 : decode cX4_gate 95 = .ok (.aload_n 0, 1) := by decide +kernel
theorem dX4_gate_96 : decode cX4_gate 96 = .ok (.getfield 42, 3) := by decide +kernel
theorem dX4_gate_99 : decode cX4_gate 99 = .ok (.iconst 0, 1) := by decide +kernel
theorem dX4_gate_100 : decode cX4_gate 100 = .ok (.iload_n 2, 1) := by decide +kernel
theorem dX4_gate_101 : decode cX4_gate 101 = .ok (.iadd, 1) := by decide +kernel
theorem dX4_gate_102 : decode cX4_gate 102 = .ok (.iload_n 3, 1) := by decide +kernel
theorem dX4_gate_103 : decode cX4_gate 103 = .ok (.aload_n 0, 1) := by decide +kernel
theorem dX4_gate_104 : decode cX4_gate 104 = .ok (.getfield 104, 3) := by decide +kernel
theorem dX4_gate_107 : decode cX4_gate 107 = .ok (.if_icmp .ge 14, 3) := by decide +kernel
theorem dX4_gate_110 : decode cX4_gate 110 = .ok (.iload_n 3, 1) := by decide +kernel
theorem dX4_gate_111 : decode cX4_gate 111 = .ok (.iload_n 2, 1) := by decide +kernel
theorem dX4_gate_112 : decode cX4_gate 112 = .ok (.if_icmp .eq 9, 3) := by decide +kernel
theorem dX4_gate_115 : decode cX4_gate 115 = .ok (.iconst 1, 1) := by decide +kernel
theorem dX4_gate_116 : decode cX4_gate 116 = .ok (.iload_n 3, 1) := by decide +kernel
theorem dX4_gate_117 : decode cX4_gate 117 = .ok (.ishl, 1) := by decide +kernel
theorem dX4_gate_118 : decode cX4_gate 118 = .ok (.goto 4, 3) := by decide +kernel
theorem dX4_gate_121 : decode cX4_gate 121 = .ok (.iconst 0, 1) := by decide +kernel
theorem dX4_gate_122 : decode cX4_gate 122 = .ok (.iastore, 1) := by decide +kernel
theorem dX4_gate_123 : decode cX4_gate 123 = .ok (.iinc 2 1, 3) := by decide +kernel
theorem dX4_gate_126 : decode cX4_gate 126 = .ok (.goto (-79), 3) := by decide +kernel
theorem dX4_gate_129 : decode cX4_gate 129 = .ok (.aload_n 0, 1) := by decide +kernel
theorem dX4_gate_130 : decode cX4_gate 130 = .ok (.getfield 42, 3) := by decide +kernel
theorem dX4_gate_133 : decode cX4_gate 133 = .ok (.bipush 7, 2) := by decide +kernel
theorem dX4_gate_135 : decode cX4_gate 135 = .ok (.iconst 0, 1) := by decide +kernel
theorem dX4_gate_136 : decode cX4_gate 136 = .ok (.iastore, 1) := by decide +kernel
theorem dX4_gate_137 : decode cX4_gate 137 = .ok (.aload_n 0, 1) := by decide +kernel
theorem dX4_gate_138 : decode cX4_gate 138 = .ok (.getfield 42, 3) := by decide +kernel
theorem dX4_gate_141 : decode cX4_gate 141 = .ok (.bipush 8, 2) := by decide +kernel
theorem dX4_gate_143 : decode cX4_gate 143 = .ok (.bipush (-9), 2) := by decide +kernel
theorem dX4_gate_145 : decode cX4_gate 145 = .ok (.iastore, 1) := by decide +kernel
theorem dX4_gate_146 : decode cX4_gate 146 = .ok (.aload_n 0, 1) := by decide +kernel
theorem dX4_gate_147 : decode cX4_gate 147 = .ok (.getfield 42, 3) := by decide +kernel
theorem dX4_gate_150 : decode cX4_gate 150 = .ok (.bipush 9, 2) := by decide +kernel
theorem dX4_gate_152 : decode cX4_gate 152 = .ok (.iconst 0, 1) := by decide +kernel
theorem dX4_gate_153 : decode cX4_gate 153 = .ok (.iastore, 1) := by decide +kernel
theorem dX4_gate_154 : decode cX4_gate 154 = .ok (.aload_n 0, 1) := by decide +kernel
theorem dX4_gate_155 : decode cX4_gate 155 = .ok (.iconst 0, 1) := by decide +kernel
theorem dX4_gate_156 : decode cX4_gate 156 = .ok (.putfield 107, 3) := by decide +kernel
theorem dX4_gate_159 : decode cX4_gate 159 = .ok (.iconst 0, 1) := by decide +kernel
theorem dX4_gate_160 : decode cX4_gate 160 = .ok (.istore_n 2, 1) := by decide +kernel
theorem dX4_gate_161 : decode cX4_gate 161 = .ok (.iload_n 2, 1) := by decide +kernel
theorem dX4_gate_162 : decode cX4_gate 162 = .ok (.iconst 3, 1) := by decide +kernel
theorem dX4_gate_163 : decode cX4_gate 163 = .ok (.if_icmp .ge 16, 3) := by decide +kernel
theorem dX4_gate_166 : decode cX4_gate 166 = .ok (.aload_n 0, 1) := by decide +kernel
theorem dX4_gate_167 : decode cX4_gate 167 = .ok (.getfield 48, 3) := by decide +kernel
theorem dX4_gate_170 : decode cX4_gate 170 = .ok (.iload_n 2, 1) := by decide +kernel
theorem dX4_gate_171 : decode cX4_gate 171 = .ok (.iconst (-1), 1) := by decide +kernel
theorem dX4_gate_172 : decode cX4_gate 172 = .ok (.iastore, 1) := by decide +kernel
theorem dX4_gate_173 : decode cX4_gate 173 = .ok (.iinc 2 1, 3) := by decide +kernel
theorem dX4_gate_176 : decode cX4_gate 176 = .ok (.goto (-15), 3) := by decide +kernel
theorem dX4_gate_179 : decode cX4_gate 179 = .ok (.aload_n 0, 1) := by decide +kernel
theorem dX4_gate_180 : decode cX4_gate 180 = .ok (.getfield 104, 3) := by decide +kernel
theorem dX4_gate_183 : decode cX4_gate 183 = .ok (.ireturn, 1) := by decide +kernel
theorem dX4_now_0 : decode cX4_now 0 = .ok (.aload_n 0, 1) := by decide +kernel
theorem dX4_now_1 : decode cX4_now 1 = .ok (.getfield 42, 3) := by decide +kernel
theorem dX4_now_4 : decode cX4_now 4 = .ok (.bipush 10, 2) := by decide +kernel
theorem dX4_now_6 : decode cX4_now 6 = .ok (.aload_n 0, 1) := by decide +kernel
theorem dX4_now_7 : decode cX4_now 7 = .ok (.getfield 107, 3) := by decide +kernel
theorem dX4_now_10 : decode cX4_now 10 = .ok (.imul, 1) := by decide +kernel
theorem dX4_now_11 : decode cX4_now 11 = .ok (.iload_n 1, 1) := by decide +kernel
theorem dX4_now_12 : decode cX4_now 12 = .ok (.iadd, 1) := by decide +kernel
theorem dX4_now_13 : decode cX4_now 13 = .ok (.iaload, 1) := by decide +kernel
theorem dX4_now_14 : decode cX4_now 14 = .ok (.ireturn, 1) := by decide +kernel
theorem dX4_isGoer_0 : decode cX4_isGoer 0 = .ok (.iload_n 1, 1) := by decide +kernel
theorem dX4_isGoer_1 : decode cX4_isGoer 1 = .ok (.iconst 0, 1) := by decide +kernel
theorem dX4_isGoer_2 : decode cX4_isGoer 2 = .ok (.aload_n 0, 1) := by decide +kernel
theorem dX4_isGoer_3 : decode cX4_isGoer 3 = .ok (.getfield 104, 3) := by decide +kernel
theorem dX4_isGoer_6 : decode cX4_isGoer 6 = .ok (.iconst 1, 1) := by decide +kernel
theorem dX4_isGoer_7 : decode cX4_isGoer 7 = .ok (.isub, 1) := by decide +kernel
theorem dX4_isGoer_8 : decode cX4_isGoer 8 = .ok (.invokestatic 77, 3) := by decide +kernel
theorem dX4_isGoer_11 : decode cX4_isGoer 11 = .ok (.ireturn, 1) := by decide +kernel
theorem dX4_isSet_0 : decode cX4_isSet 0 = .ok (.iload_n 1, 1) := by decide +kernel
theorem dX4_isSet_1 : decode cX4_isSet 1 = .ok (.iconst 0, 1) := by decide +kernel
theorem dX4_isSet_2 : decode cX4_isSet 2 = .ok (.iconst 1, 1) := by decide +kernel
theorem dX4_isSet_3 : decode cX4_isSet 3 = .ok (.aload_n 0, 1) := by decide +kernel
theorem dX4_isSet_4 : decode cX4_isSet 4 = .ok (.getfield 104, 3) := by decide +kernel
theorem dX4_isSet_7 : decode cX4_isSet 7 = .ok (.ishl, 1) := by decide +kernel
theorem dX4_isSet_8 : decode cX4_isSet 8 = .ok (.iconst 1, 1) := by decide +kernel
theorem dX4_isSet_9 : decode cX4_isSet 9 = .ok (.isub, 1) := by decide +kernel
theorem dX4_isSet_10 : decode cX4_isSet 10 = .ok (.invokestatic 77, 3) := by decide +kernel
theorem dX4_isSet_13 : decode cX4_isSet 13 = .ok (.ireturn, 1) := by decide +kernel
theorem dX4_toldOf_0 : decode cX4_toldOf 0 = .ok (.aload_n 0, 1) := by decide +kernel
theorem dX4_toldOf_1 : decode cX4_toldOf 1 = .ok (.iconst 0, 1) := by decide +kernel
theorem dX4_toldOf_2 : decode cX4_toldOf 2 = .ok (.iload_n 1, 1) := by decide +kernel
theorem dX4_toldOf_3 : decode cX4_toldOf 3 = .ok (.iadd, 1) := by decide +kernel
theorem dX4_toldOf_4 : decode cX4_toldOf 4 = .ok (.invokevirtual 110, 3) := by decide +kernel
theorem dX4_toldOf_7 : decode cX4_toldOf 7 = .ok (.ireturn, 1) := by decide +kernel
theorem dX4_tellsBy_0 : decode cX4_tellsBy 0 = .ok (.iload_n 2, 1) := by decide +kernel
theorem dX4_tellsBy_1 : decode cX4_tellsBy 1 = .ok (.iconst 1, 1) := by decide +kernel
theorem dX4_tellsBy_2 : decode cX4_tellsBy 2 = .ok (.iload_n 0, 1) := by decide +kernel
theorem dX4_tellsBy_3 : decode cX4_tellsBy 3 = .ok (.ishl, 1) := by decide +kernel
theorem dX4_tellsBy_4 : decode cX4_tellsBy 4 = .ok (.iconst (-1), 1) := by decide +kernel
theorem dX4_tellsBy_5 : decode cX4_tellsBy 5 = .ok (.ixor, 1) := by decide +kernel
theorem dX4_tellsBy_6 : decode cX4_tellsBy 6 = .ok (.iand, 1) := by decide +kernel
theorem dX4_tellsBy_7 : decode cX4_tellsBy 7 = .ok (.istore_n 3, 1) := by decide +kernel
theorem dX4_tellsBy_8 : decode cX4_tellsBy 8 = .ok (.iload_n 1, 1) := by decide +kernel
theorem dX4_tellsBy_9 : decode cX4_tellsBy 9 = .ok (.tableswitch 37 3 5 #[27, 29, 35], 27) := by decide +kernel
theorem dX4_tellsBy_36 : decode cX4_tellsBy 36 = .ok (.iconst 0, 1) := by decide +kernel
theorem dX4_tellsBy_37 : decode cX4_tellsBy 37 = .ok (.ireturn, 1) := by decide +kernel
theorem dX4_tellsBy_38 : decode cX4_tellsBy 38 = .ok (.iload_n 3, 1) := by decide +kernel
theorem dX4_tellsBy_39 : decode cX4_tellsBy 39 = .ok (.iconst 1, 1) := by decide +kernel
theorem dX4_tellsBy_40 : decode cX4_tellsBy 40 = .ok (.iload_n 0, 1) := by decide +kernel
theorem dX4_tellsBy_41 : decode cX4_tellsBy 41 = .ok (.ishl, 1) := by decide +kernel
theorem dX4_tellsBy_42 : decode cX4_tellsBy 42 = .ok (.ior, 1) := by decide +kernel
theorem dX4_tellsBy_43 : decode cX4_tellsBy 43 = .ok (.ireturn, 1) := by decide +kernel
theorem dX4_tellsBy_44 : decode cX4_tellsBy 44 = .ok (.iload_n 3, 1) := by decide +kernel
theorem dX4_tellsBy_45 : decode cX4_tellsBy 45 = .ok (.ireturn, 1) := by decide +kernel
theorem dX4_tellsBy_46 : decode cX4_tellsBy 46 = .ok (.iconst 1, 1) := by decide +kernel
theorem dX4_tellsBy_47 : decode cX4_tellsBy 47 = .ok (.iload_n 0, 1) := by decide +kernel
theorem dX4_tellsBy_48 : decode cX4_tellsBy 48 = .ok (.ishl, 1) := by decide +kernel
theorem dX4_tellsBy_49 : decode cX4_tellsBy 49 = .ok (.ireturn, 1) := by decide +kernel
theorem dX4_tellsOf_0 : decode cX4_tellsOf 0 = .ok (.iload_n 1, 1) := by decide +kernel
theorem dX4_tellsOf_1 : decode cX4_tellsOf 1 = .ok (.aload_n 0, 1) := by decide +kernel
theorem dX4_tellsOf_2 : decode cX4_tellsOf 2 = .ok (.getfield 33, 3) := by decide +kernel
theorem dX4_tellsOf_5 : decode cX4_tellsOf 5 = .ok (.iload_n 1, 1) := by decide +kernel
theorem dX4_tellsOf_6 : decode cX4_tellsOf 6 = .ok (.iaload, 1) := by decide +kernel
theorem dX4_tellsOf_7 : decode cX4_tellsOf 7 = .ok (.aload_n 0, 1) := by decide +kernel
theorem dX4_tellsOf_8 : decode cX4_tellsOf 8 = .ok (.iload_n 1, 1) := by decide +kernel
theorem dX4_tellsOf_9 : decode cX4_tellsOf 9 = .ok (.invokevirtual 113, 3) := by decide +kernel
theorem dX4_tellsOf_12 : decode cX4_tellsOf 12 = .ok (.invokestatic 116, 3) := by decide +kernel
theorem dX4_tellsOf_15 : decode cX4_tellsOf 15 = .ok (.ireturn, 1) := by decide +kernel
theorem dX4_ofKind_0 : decode cX4_ofKind 0 = .ok (.iconst 0, 1) := by decide +kernel
theorem dX4_ofKind_1 : decode cX4_ofKind 1 = .ok (.istore_n 2, 1) := by decide +kernel
theorem dX4_ofKind_2 : decode cX4_ofKind 2 = .ok (.iconst 0, 1) := by decide +kernel
theorem dX4_ofKind_3 : decode cX4_ofKind 3 = .ok (.istore_n 3, 1) := by decide +kernel
theorem dX4_ofKind_4 : decode cX4_ofKind 4 = .ok (.iload_n 3, 1) := by decide +kernel
theorem dX4_ofKind_5 : decode cX4_ofKind 5 = .ok (.aload_n 0, 1) := by decide +kernel
theorem dX4_ofKind_6 : decode cX4_ofKind 6 = .ok (.getfield 104, 3) := by decide +kernel
theorem dX4_ofKind_9 : decode cX4_ofKind 9 = .ok (.if_icmp .ge 29, 3) := by decide +kernel
theorem dX4_ofKind_12 : decode cX4_ofKind 12 = .ok (.iload_n 2, 1) := by decide +kernel
theorem dX4_ofKind_13 : decode cX4_ofKind 13 = .ok (.aload_n 0, 1) := by decide +kernel
theorem dX4_ofKind_14 : decode cX4_ofKind 14 = .ok (.getfield 33, 3) := by decide +kernel
theorem dX4_ofKind_17 : decode cX4_ofKind 17 = .ok (.iload_n 3, 1) := by decide +kernel
theorem dX4_ofKind_18 : decode cX4_ofKind 18 = .ok (.iaload, 1) := by decide +kernel
theorem dX4_ofKind_19 : decode cX4_ofKind 19 = .ok (.iload_n 1, 1) := by decide +kernel
theorem dX4_ofKind_20 : decode cX4_ofKind 20 = .ok (.if_icmp .ne 9, 3) := by decide +kernel
theorem dX4_ofKind_23 : decode cX4_ofKind 23 = .ok (.iconst 1, 1) := by decide +kernel
theorem dX4_ofKind_24 : decode cX4_ofKind 24 = .ok (.iload_n 3, 1) := by decide +kernel
theorem dX4_ofKind_25 : decode cX4_ofKind 25 = .ok (.ishl, 1) := by decide +kernel
theorem dX4_ofKind_26 : decode cX4_ofKind 26 = .ok (.goto 4, 3) := by decide +kernel
theorem dX4_ofKind_29 : decode cX4_ofKind 29 = .ok (.iconst 0, 1) := by decide +kernel
theorem dX4_ofKind_30 : decode cX4_ofKind 30 = .ok (.ior, 1) := by decide +kernel
theorem dX4_ofKind_31 : decode cX4_ofKind 31 = .ok (.istore_n 2, 1) := by decide +kernel
theorem dX4_ofKind_32 : decode cX4_ofKind 32 = .ok (.iinc 3 1, 3) := by decide +kernel
theorem dX4_ofKind_35 : decode cX4_ofKind 35 = .ok (.goto (-31), 3) := by decide +kernel
theorem dX4_ofKind_38 : decode cX4_ofKind 38 = .ok (.iload_n 2, 1) := by decide +kernel
theorem dX4_ofKind_39 : decode cX4_ofKind 39 = .ok (.ireturn, 1) := by decide +kernel
theorem dX4_namesBy_0 : decode cX4_namesBy 0 = .ok (.aload_n 0, 1) := by decide +kernel
theorem dX4_namesBy_1 : decode cX4_namesBy 1 = .ok (.iconst 2, 1) := by decide +kernel
theorem dX4_namesBy_2 : decode cX4_namesBy 2 = .ok (.invokevirtual 120, 3) := by decide +kernel
theorem dX4_namesBy_5 : decode cX4_namesBy 5 = .ok (.istore_n 3, 1) := by decide +kernel
theorem dX4_namesBy_6 : decode cX4_namesBy 6 = .ok (.iload_n 3, 1) := by decide +kernel
theorem dX4_namesBy_7 : decode cX4_namesBy 7 = .ok (.iload_n 1, 1) := by decide +kernel
theorem dX4_namesBy_8 : decode cX4_namesBy 8 = .ok (.invokestatic 123, 3) := by decide +kernel
theorem dX4_namesBy_11 : decode cX4_namesBy 11 = .ok (.ifCond .ne 9, 3) := by decide +kernel
theorem dX4_namesBy_14 : decode cX4_namesBy 14 = .ok (.iload_n 2, 1) := by decide +kernel
theorem dX4_namesBy_15 : decode cX4_namesBy 15 = .ok (.iload_n 3, 1) := by decide +kernel
theorem dX4_namesBy_16 : decode cX4_namesBy 16 = .ok (.iand, 1) := by decide +kernel
theorem dX4_namesBy_17 : decode cX4_namesBy 17 = .ok (.ifCond .eq 7, 3) := by decide +kernel
theorem dX4_namesBy_20 : decode cX4_namesBy 20 = .ok (.iconst 1, 1) := by decide +kernel
theorem dX4_namesBy_21 : decode cX4_namesBy 21 = .ok (.goto 4, 3) := by decide +kernel
theorem dX4_namesBy_24 : decode cX4_namesBy 24 = .ok (.iconst 0, 1) := by decide +kernel
theorem dX4_namesBy_25 : decode cX4_namesBy 25 = .ok (.istore 4, 2) := by decide +kernel
theorem dX4_namesBy_27 : decode cX4_namesBy 27 = .ok (.iload_n 2, 1) := by decide +kernel
theorem dX4_namesBy_28 : decode cX4_namesBy 28 = .ok (.iconst 1, 1) := by decide +kernel
theorem dX4_namesBy_29 : decode cX4_namesBy 29 = .ok (.iload_n 1, 1) := by decide +kernel
theorem dX4_namesBy_30 : decode cX4_namesBy 30 = .ok (.ishl, 1) := by decide +kernel
theorem dX4_namesBy_31 : decode cX4_namesBy 31 = .ok (.ior, 1) := by decide +kernel
theorem dX4_namesBy_32 : decode cX4_namesBy 32 = .ok (.aload_n 0, 1) := by decide +kernel
theorem dX4_namesBy_33 : decode cX4_namesBy 33 = .ok (.iconst 1, 1) := by decide +kernel
theorem dX4_namesBy_34 : decode cX4_namesBy 34 = .ok (.invokevirtual 120, 3) := by decide +kernel
theorem dX4_namesBy_37 : decode cX4_namesBy 37 = .ok (.ior, 1) := by decide +kernel
theorem dX4_namesBy_38 : decode cX4_namesBy 38 = .ok (.iload 4, 2) := by decide +kernel
theorem dX4_namesBy_40 : decode cX4_namesBy 40 = .ok (.ifCond .eq 7, 3) := by decide +kernel
theorem dX4_namesBy_43 : decode cX4_namesBy 43 = .ok (.iload_n 3, 1) := by decide +kernel
theorem dX4_namesBy_44 : decode cX4_namesBy 44 = .ok (.goto 4, 3) := by decide +kernel
theorem dX4_namesBy_47 : decode cX4_namesBy 47 = .ok (.iconst 0, 1) := by decide +kernel
theorem dX4_namesBy_48 : decode cX4_namesBy 48 = .ok (.ior, 1) := by decide +kernel
theorem dX4_namesBy_49 : decode cX4_namesBy 49 = .ok (.ireturn, 1) := by decide +kernel
theorem dX4_namesOf_0 : decode cX4_namesOf 0 = .ok (.aload_n 0, 1) := by decide +kernel
theorem dX4_namesOf_1 : decode cX4_namesOf 1 = .ok (.iload_n 1, 1) := by decide +kernel
theorem dX4_namesOf_2 : decode cX4_namesOf 2 = .ok (.aload_n 0, 1) := by decide +kernel
theorem dX4_namesOf_3 : decode cX4_namesOf 3 = .ok (.iload_n 1, 1) := by decide +kernel
theorem dX4_namesOf_4 : decode cX4_namesOf 4 = .ok (.invokevirtual 113, 3) := by decide +kernel
theorem dX4_namesOf_7 : decode cX4_namesOf 7 = .ok (.invokevirtual 127, 3) := by decide +kernel
theorem dX4_namesOf_10 : decode cX4_namesOf 10 = .ok (.ireturn, 1) := by decide +kernel
theorem dX4_isThrough_0 : decode cX4_isThrough 0 = .ok (.aload_n 0, 1) := by decide +kernel
theorem dX4_isThrough_1 : decode cX4_isThrough 1 = .ok (.bipush 7, 2) := by decide +kernel
theorem dX4_isThrough_3 : decode cX4_isThrough 3 = .ok (.invokevirtual 110, 3) := by decide +kernel
theorem dX4_isThrough_6 : decode cX4_isThrough 6 = .ok (.iload_n 1, 1) := by decide +kernel
theorem dX4_isThrough_7 : decode cX4_isThrough 7 = .ok (.invokestatic 123, 3) := by decide +kernel
theorem dX4_isThrough_10 : decode cX4_isThrough 10 = .ok (.ireturn, 1) := by decide +kernel
theorem dX4_isOpen_0 : decode cX4_isOpen 0 = .ok (.aload_n 0, 1) := by decide +kernel
theorem dX4_isOpen_1 : decode cX4_isOpen 1 = .ok (.iload_n 1, 1) := by decide +kernel
theorem dX4_isOpen_2 : decode cX4_isOpen 2 = .ok (.invokevirtual 131, 3) := by decide +kernel
theorem dX4_isOpen_5 : decode cX4_isOpen 5 = .ok (.ifCond .ne 35, 3) := by decide +kernel
theorem dX4_isOpen_8 : decode cX4_isOpen 8 = .ok (.aload_n 0, 1) := by decide +kernel
theorem dX4_isOpen_9 : decode cX4_isOpen 9 = .ok (.bipush 8, 2) := by decide +kernel
theorem dX4_isOpen_11 : decode cX4_isOpen 11 = .ok (.invokevirtual 110, 3) := by decide +kernel
theorem dX4_isOpen_14 : decode cX4_isOpen 14 = .ok (.bipush (-9), 2) := by decide +kernel
theorem dX4_isOpen_16 : decode cX4_isOpen 16 = .ok (.if_icmp .eq 20, 3) := by decide +kernel
theorem dX4_isOpen_19 : decode cX4_isOpen 19 = .ok (.aload_n 0, 1) := by decide +kernel
theorem dX4_isOpen_20 : decode cX4_isOpen 20 = .ok (.iload_n 1, 1) := by decide +kernel
theorem dX4_isOpen_21 : decode cX4_isOpen 21 = .ok (.invokevirtual 134, 3) := by decide +kernel
theorem dX4_isOpen_24 : decode cX4_isOpen 24 = .ok (.aload_n 0, 1) := by decide +kernel
theorem dX4_isOpen_25 : decode cX4_isOpen 25 = .ok (.bipush 8, 2) := by decide +kernel
theorem dX4_isOpen_27 : decode cX4_isOpen 27 = .ok (.invokevirtual 110, 3) := by decide +kernel
theorem dX4_isOpen_30 : decode cX4_isOpen 30 = .ok (.invokestatic 123, 3) := by decide +kernel
theorem dX4_isOpen_33 : decode cX4_isOpen 33 = .ok (.ifCond .eq 7, 3) := by decide +kernel
theorem dX4_isOpen_36 : decode cX4_isOpen 36 = .ok (.iconst 1, 1) := by decide +kernel
theorem dX4_isOpen_37 : decode cX4_isOpen 37 = .ok (.goto 4, 3) := by decide +kernel
theorem dX4_isOpen_40 : decode cX4_isOpen 40 = .ok (.iconst 0, 1) := by decide +kernel
theorem dX4_isOpen_41 : decode cX4_isOpen 41 = .ok (.ireturn, 1) := by decide +kernel
theorem dX4_openTo_0 : decode cX4_openTo 0 = .ok (.iconst 0, 1) := by decide +kernel
theorem dX4_openTo_1 : decode cX4_openTo 1 = .ok (.istore_n 1, 1) := by decide +kernel
theorem dX4_openTo_2 : decode cX4_openTo 2 = .ok (.iconst 0, 1) := by decide +kernel
theorem dX4_openTo_3 : decode cX4_openTo 3 = .ok (.istore_n 2, 1) := by decide +kernel
theorem dX4_openTo_4 : decode cX4_openTo 4 = .ok (.iload_n 2, 1) := by decide +kernel
theorem dX4_openTo_5 : decode cX4_openTo 5 = .ok (.aload_n 0, 1) := by decide +kernel
theorem dX4_openTo_6 : decode cX4_openTo 6 = .ok (.getfield 104, 3) := by decide +kernel
theorem dX4_openTo_9 : decode cX4_openTo 9 = .ok (.if_icmp .ge 27, 3) := by decide +kernel
theorem dX4_openTo_12 : decode cX4_openTo 12 = .ok (.iload_n 1, 1) := by decide +kernel
theorem dX4_openTo_13 : decode cX4_openTo 13 = .ok (.aload_n 0, 1) := by decide +kernel
theorem dX4_openTo_14 : decode cX4_openTo 14 = .ok (.iload_n 2, 1) := by decide +kernel
theorem dX4_openTo_15 : decode cX4_openTo 15 = .ok (.invokevirtual 137, 3) := by decide +kernel
theorem dX4_openTo_18 : decode cX4_openTo 18 = .ok (.ifCond .eq 9, 3) := by decide +kernel
theorem dX4_openTo_21 : decode cX4_openTo 21 = .ok (.iconst 1, 1) := by decide +kernel
theorem dX4_openTo_22 : decode cX4_openTo 22 = .ok (.iload_n 2, 1) := by decide +kernel
theorem dX4_openTo_23 : decode cX4_openTo 23 = .ok (.ishl, 1) := by decide +kernel
theorem dX4_openTo_24 : decode cX4_openTo 24 = .ok (.goto 4, 3) := by decide +kernel
theorem dX4_openTo_27 : decode cX4_openTo 27 = .ok (.iconst 0, 1) := by decide +kernel
theorem dX4_openTo_28 : decode cX4_openTo 28 = .ok (.ior, 1) := by decide +kernel
theorem dX4_openTo_29 : decode cX4_openTo 29 = .ok (.istore_n 1, 1) := by decide +kernel
theorem dX4_openTo_30 : decode cX4_openTo 30 = .ok (.iinc 2 1, 3) := by decide +kernel
theorem dX4_openTo_33 : decode cX4_openTo 33 = .ok (.goto (-29), 3) := by decide +kernel
theorem dX4_openTo_36 : decode cX4_openTo 36 = .ok (.iload_n 1, 1) := by decide +kernel
theorem dX4_openTo_37 : decode cX4_openTo 37 = .ok (.ireturn, 1) := by decide +kernel
theorem dX4_left_0 : decode cX4_left 0 = .ok (.iconst 1, 1) := by decide +kernel
theorem dX4_left_1 : decode cX4_left 1 = .ok (.aload_n 0, 1) := by decide +kernel
theorem dX4_left_2 : decode cX4_left 2 = .ok (.getfield 104, 3) := by decide +kernel
theorem dX4_left_5 : decode cX4_left 5 = .ok (.ishl, 1) := by decide +kernel
theorem dX4_left_6 : decode cX4_left 6 = .ok (.iconst 1, 1) := by decide +kernel
theorem dX4_left_7 : decode cX4_left 7 = .ok (.isub, 1) := by decide +kernel
theorem dX4_left_8 : decode cX4_left 8 = .ok (.aload_n 0, 1) := by decide +kernel
theorem dX4_left_9 : decode cX4_left 9 = .ok (.bipush 7, 2) := by decide +kernel
theorem dX4_left_11 : decode cX4_left 11 = .ok (.invokevirtual 110, 3) := by decide +kernel
theorem dX4_left_14 : decode cX4_left 14 = .ok (.iconst (-1), 1) := by decide +kernel
theorem dX4_left_15 : decode cX4_left 15 = .ok (.ixor, 1) := by decide +kernel
theorem dX4_left_16 : decode cX4_left 16 = .ok (.iand, 1) := by decide +kernel
theorem dX4_left_17 : decode cX4_left 17 = .ok (.ireturn, 1) := by decide +kernel
theorem dX4_factOf_0 : decode cX4_factOf 0 = .ok (.iload_n 2, 1) := by decide +kernel
theorem dX4_factOf_1 : decode cX4_factOf 1 = .ok (.tableswitch 85 0 5 #[39, 46, 53, 59, 65, 71], 39) := by decide +kernel
theorem dX4_factOf_40 : decode cX4_factOf 40 = .ok (.aload_n 0, 1) := by decide +kernel
theorem dX4_factOf_41 : decode cX4_factOf 41 = .ok (.getfield 33, 3) := by decide +kernel
theorem dX4_factOf_44 : decode cX4_factOf 44 = .ok (.iload_n 1, 1) := by decide +kernel
theorem dX4_factOf_45 : decode cX4_factOf 45 = .ok (.iaload, 1) := by decide +kernel
theorem dX4_factOf_46 : decode cX4_factOf 46 = .ok (.ireturn, 1) := by decide +kernel
theorem dX4_factOf_47 : decode cX4_factOf 47 = .ok (.aload_n 0, 1) := by decide +kernel
theorem dX4_factOf_48 : decode cX4_factOf 48 = .ok (.getfield 36, 3) := by decide +kernel
theorem dX4_factOf_51 : decode cX4_factOf 51 = .ok (.iload_n 1, 1) := by decide +kernel
theorem dX4_factOf_52 : decode cX4_factOf 52 = .ok (.iaload, 1) := by decide +kernel
theorem dX4_factOf_53 : decode cX4_factOf 53 = .ok (.ireturn, 1) := by decide +kernel
theorem dX4_factOf_54 : decode cX4_factOf 54 = .ok (.aload_n 0, 1) := by decide +kernel
theorem dX4_factOf_55 : decode cX4_factOf 55 = .ok (.iload_n 1, 1) := by decide +kernel
theorem dX4_factOf_56 : decode cX4_factOf 56 = .ok (.invokevirtual 113, 3) := by decide +kernel
theorem dX4_factOf_59 : decode cX4_factOf 59 = .ok (.ireturn, 1) := by decide +kernel
theorem dX4_factOf_60 : decode cX4_factOf 60 = .ok (.aload_n 0, 1) := by decide +kernel
theorem dX4_factOf_61 : decode cX4_factOf 61 = .ok (.iload_n 1, 1) := by decide +kernel
theorem dX4_factOf_62 : decode cX4_factOf 62 = .ok (.invokevirtual 140, 3) := by decide +kernel
theorem dX4_factOf_65 : decode cX4_factOf 65 = .ok (.ireturn, 1) := by decide +kernel
theorem dX4_factOf_66 : decode cX4_factOf 66 = .ok (.aload_n 0, 1) := by decide +kernel
theorem dX4_factOf_67 : decode cX4_factOf 67 = .ok (.iload_n 1, 1) := by decide +kernel
theorem dX4_factOf_68 : decode cX4_factOf 68 = .ok (.invokevirtual 134, 3) := by decide +kernel
theorem dX4_factOf_71 : decode cX4_factOf 71 = .ok (.ireturn, 1) := by decide +kernel
theorem dX4_factOf_72 : decode cX4_factOf 72 = .ok (.aload_n 0, 1) := by decide +kernel
theorem dX4_factOf_73 : decode cX4_factOf 73 = .ok (.iload_n 1, 1) := by decide +kernel
theorem dX4_factOf_74 : decode cX4_factOf 74 = .ok (.invokevirtual 131, 3) := by decide +kernel
theorem dX4_factOf_77 : decode cX4_factOf 77 = .ok (.ifCond .eq 7, 3) := by decide +kernel
theorem dX4_factOf_80 : decode cX4_factOf 80 = .ok (.iconst 1, 1) := by decide +kernel
theorem dX4_factOf_81 : decode cX4_factOf 81 = .ok (.goto 4, 3) := by decide +kernel
theorem dX4_factOf_84 : decode cX4_factOf 84 = .ok (.iconst 0, 1) := by decide +kernel
theorem dX4_factOf_85 : decode cX4_factOf 85 = .ok (.ireturn, 1) := by decide +kernel
theorem dX4_factOf_86 : decode cX4_factOf 86 = .ok (.aload_n 0, 1) := by decide +kernel
theorem dX4_factOf_87 : decode cX4_factOf 87 = .ok (.iload_n 1, 1) := by decide +kernel
theorem dX4_factOf_88 : decode cX4_factOf 88 = .ok (.invokevirtual 137, 3) := by decide +kernel
theorem dX4_factOf_91 : decode cX4_factOf 91 = .ok (.ifCond .eq 7, 3) := by decide +kernel
theorem dX4_factOf_94 : decode cX4_factOf 94 = .ok (.iconst 1, 1) := by decide +kernel
theorem dX4_factOf_95 : decode cX4_factOf 95 = .ok (.goto 4, 3) := by decide +kernel
theorem dX4_factOf_98 : decode cX4_factOf 98 = .ok (.iconst 0, 1) := by decide +kernel
theorem dX4_factOf_99 : decode cX4_factOf 99 = .ok (.ireturn, 1) := by decide +kernel
theorem dX4_goer_0 : decode cX4_goer 0 = .ok (.aload_n 0, 1) := by decide +kernel
theorem dX4_goer_1 : decode cX4_goer 1 = .ok (.iload_n 1, 1) := by decide +kernel
theorem dX4_goer_2 : decode cX4_goer 2 = .ok (.invokevirtual 143, 3) := by decide +kernel
theorem dX4_goer_5 : decode cX4_goer 5 = .ok (.ifCond .eq 26, 3) := by decide +kernel
theorem dX4_goer_8 : decode cX4_goer 8 = .ok (.iload_n 2, 1) := by decide +kernel
theorem dX4_goer_9 : decode cX4_goer 9 = .ok (.iconst 0, 1) := by decide +kernel
theorem dX4_goer_10 : decode cX4_goer 10 = .ok (.bipush 6, 2) := by decide +kernel
theorem dX4_goer_12 : decode cX4_goer 12 = .ok (.invokestatic 77, 3) := by decide +kernel
theorem dX4_goer_15 : decode cX4_goer 15 = .ok (.ifCond .eq 16, 3) := by decide +kernel
theorem dX4_goer_18 : decode cX4_goer 18 = .ok (.aload_n 0, 1) := by decide +kernel
theorem dX4_goer_19 : decode cX4_goer 19 = .ok (.aload_n 0, 1) := by decide +kernel
theorem dX4_goer_20 : decode cX4_goer 20 = .ok (.iload_n 1, 1) := by decide +kernel
theorem dX4_goer_21 : decode cX4_goer 21 = .ok (.iload_n 2, 1) := by decide +kernel
theorem dX4_goer_22 : decode cX4_goer 22 = .ok (.invokevirtual 146, 3) := by decide +kernel
theorem dX4_goer_25 : decode cX4_goer 25 = .ok (.invokevirtual 89, 3) := by decide +kernel
theorem dX4_goer_28 : decode cX4_goer 28 = .ok (.goto 4, 3) := by decide +kernel
theorem dX4_goer_31 : decode cX4_goer 31 = .ok (.iconst (-1), 1) := by decide +kernel
theorem dX4_goer_32 : decode cX4_goer 32 = .ok (.ireturn, 1) := by decide +kernel
theorem dX4_mark_0 : decode cX4_mark 0 = .ok (.aload_n 0, 1) := by decide +kernel
theorem dX4_mark_1 : decode cX4_mark 1 = .ok (.iload_n 1, 1) := by decide +kernel
theorem dX4_mark_2 : decode cX4_mark 2 = .ok (.invokevirtual 143, 3) := by decide +kernel
theorem dX4_mark_5 : decode cX4_mark 5 = .ok (.ifCond .eq 12, 3) := by decide +kernel
theorem dX4_mark_8 : decode cX4_mark 8 = .ok (.iload_n 2, 1) := by decide +kernel
end
section
theorem dX4_mark_9 : decode cX4_mark 9 = .ok (.iconst 1, 1) := by decide +kernel
theorem dX4_mark_10 : decode cX4_mark 10 = .ok (.iconst 5, 1) := by decide +kernel
theorem dX4_mark_11 : decode cX4_mark 11 = .ok (.invokestatic 77, 3) := by decide +kernel
theorem dX4_mark_14 : decode cX4_mark 14 = .ok (.ifCond .ne 5, 3) := by decide +kernel
theorem dX4_mark_17 : decode cX4_mark 17 = .ok (.iconst (-1), 1) := by decide +kernel
theorem dX4_mark_18 : decode cX4_mark 18 = .ok (.ireturn, 1) := by decide +kernel
theorem dX4_mark_19 : decode cX4_mark 19 = .ok (.aload_n 0, 1) := by decide +kernel
theorem dX4_mark_20 : decode cX4_mark 20 = .ok (.getfield 33, 3) := by decide +kernel
theorem dX4_mark_23 : decode cX4_mark 23 = .ok (.iload_n 1, 1) := by decide +kernel
theorem dX4_mark_24 : decode cX4_mark 24 = .ok (.iaload, 1) := by decide +kernel
theorem dX4_mark_25 : decode cX4_mark 25 = .ok (.iload_n 2, 1) := by decide +kernel
theorem dX4_mark_26 : decode cX4_mark 26 = .ok (.if_icmp .eq 24, 3) := by decide +kernel
theorem dX4_mark_29 : decode cX4_mark 29 = .ok (.iload_n 2, 1) := by decide +kernel
theorem dX4_mark_30 : decode cX4_mark 30 = .ok (.iconst 4, 1) := by decide +kernel
theorem dX4_mark_31 : decode cX4_mark 31 = .ok (.if_icmp .ne 13, 3) := by decide +kernel
theorem dX4_mark_34 : decode cX4_mark 34 = .ok (.aload_n 0, 1) := by decide +kernel
theorem dX4_mark_35 : decode cX4_mark 35 = .ok (.getfield 33, 3) := by decide +kernel
theorem dX4_mark_38 : decode cX4_mark 38 = .ok (.iload_n 1, 1) := by decide +kernel
theorem dX4_mark_39 : decode cX4_mark 39 = .ok (.iaload, 1) := by decide +kernel
theorem dX4_mark_40 : decode cX4_mark 40 = .ok (.iconst 5, 1) := by decide +kernel
theorem dX4_mark_41 : decode cX4_mark 41 = .ok (.if_icmp .eq 9, 3) := by decide +kernel
theorem dX4_mark_44 : decode cX4_mark 44 = .ok (.aload_n 0, 1) := by decide +kernel
theorem dX4_mark_45 : decode cX4_mark 45 = .ok (.iconst 3, 1) := by decide +kernel
theorem dX4_mark_46 : decode cX4_mark 46 = .ok (.invokevirtual 85, 3) := by decide +kernel
theorem dX4_mark_49 : decode cX4_mark 49 = .ok (.ireturn, 1) := by decide +kernel
theorem dX4_mark_50 : decode cX4_mark 50 = .ok (.iload_n 2, 1) := by decide +kernel
theorem dX4_mark_51 : decode cX4_mark 51 = .ok (.iconst 3, 1) := by decide +kernel
theorem dX4_mark_52 : decode cX4_mark 52 = .ok (.if_icmp .le 30, 3) := by decide +kernel
theorem dX4_mark_55 : decode cX4_mark 55 = .ok (.iload_n 2, 1) := by decide +kernel
theorem dX4_mark_56 : decode cX4_mark 56 = .ok (.iconst 4, 1) := by decide +kernel
theorem dX4_mark_57 : decode cX4_mark 57 = .ok (.if_icmp .ne 11, 3) := by decide +kernel
theorem dX4_mark_60 : decode cX4_mark 60 = .ok (.aload_n 0, 1) := by decide +kernel
theorem dX4_mark_61 : decode cX4_mark 61 = .ok (.iload_n 1, 1) := by decide +kernel
theorem dX4_mark_62 : decode cX4_mark 62 = .ok (.invokevirtual 140, 3) := by decide +kernel
theorem dX4_mark_65 : decode cX4_mark 65 = .ok (.goto 13, 3) := by decide +kernel
theorem dX4_mark_68 : decode cX4_mark 68 = .ok (.aload_n 0, 1) := by decide +kernel
theorem dX4_mark_69 : decode cX4_mark 69 = .ok (.iload_n 1, 1) := by decide +kernel
theorem dX4_mark_70 : decode cX4_mark 70 = .ok (.invokevirtual 140, 3) := by decide +kernel
theorem dX4_mark_73 : decode cX4_mark 73 = .ok (.aload_n 0, 1) := by decide +kernel
theorem dX4_mark_74 : decode cX4_mark 74 = .ok (.invokevirtual 149, 3) := by decide +kernel
theorem dX4_mark_77 : decode cX4_mark 77 = .ok (.iand, 1) := by decide +kernel
theorem dX4_mark_78 : decode cX4_mark 78 = .ok (.invokestatic 153, 3) := by decide +kernel
theorem dX4_mark_81 : decode cX4_mark 81 = .ok (.ireturn, 1) := by decide +kernel
theorem dX4_mark_82 : decode cX4_mark 82 = .ok (.iconst 0, 1) := by decide +kernel
theorem dX4_mark_83 : decode cX4_mark 83 = .ok (.istore_n 3, 1) := by decide +kernel
theorem dX4_mark_84 : decode cX4_mark 84 = .ok (.iconst 0, 1) := by decide +kernel
theorem dX4_mark_85 : decode cX4_mark 85 = .ok (.istore 4, 2) := by decide +kernel
theorem dX4_mark_87 : decode cX4_mark 87 = .ok (.iload 4, 2) := by decide +kernel
theorem dX4_mark_89 : decode cX4_mark 89 = .ok (.aload_n 0, 1) := by decide +kernel
theorem dX4_mark_90 : decode cX4_mark 90 = .ok (.getfield 104, 3) := by decide +kernel
theorem dX4_mark_93 : decode cX4_mark 93 = .ok (.if_icmp .ge 97, 3) := by decide +kernel
theorem dX4_mark_96 : decode cX4_mark 96 = .ok (.aload_n 0, 1) := by decide +kernel
theorem dX4_mark_97 : decode cX4_mark 97 = .ok (.iload 4, 2) := by decide +kernel
theorem dX4_mark_99 : decode cX4_mark 99 = .ok (.invokevirtual 113, 3) := by decide +kernel
theorem dX4_mark_102 : decode cX4_mark 102 = .ok (.iload_n 1, 1) := by decide +kernel
theorem dX4_mark_103 : decode cX4_mark 103 = .ok (.invokestatic 123, 3) := by decide +kernel
theorem dX4_mark_106 : decode cX4_mark 106 = .ok (.istore 5, 2) := by decide +kernel
theorem dX4_mark_108 : decode cX4_mark 108 = .ok (.aload_n 0, 1) := by decide +kernel
theorem dX4_mark_109 : decode cX4_mark 109 = .ok (.iload 4, 2) := by decide +kernel
theorem dX4_mark_111 : decode cX4_mark 111 = .ok (.invokevirtual 134, 3) := by decide +kernel
theorem dX4_mark_114 : decode cX4_mark 114 = .ok (.iload_n 1, 1) := by decide +kernel
theorem dX4_mark_115 : decode cX4_mark 115 = .ok (.invokestatic 123, 3) := by decide +kernel
theorem dX4_mark_118 : decode cX4_mark 118 = .ok (.istore 6, 2) := by decide +kernel
theorem dX4_mark_120 : decode cX4_mark 120 = .ok (.iload_n 2, 1) := by decide +kernel
theorem dX4_mark_121 : decode cX4_mark 121 = .ok (.iconst 1, 1) := by decide +kernel
theorem dX4_mark_122 : decode cX4_mark 122 = .ok (.if_icmp .ne 16, 3) := by decide +kernel
theorem dX4_mark_125 : decode cX4_mark 125 = .ok (.iload 5, 2) := by decide +kernel
theorem dX4_mark_127 : decode cX4_mark 127 = .ok (.ifCond .ne 7, 3) := by decide +kernel
theorem dX4_mark_130 : decode cX4_mark 130 = .ok (.iconst 1, 1) := by decide +kernel
theorem dX4_mark_131 : decode cX4_mark 131 = .ok (.goto 32, 3) := by decide +kernel
theorem dX4_mark_134 : decode cX4_mark 134 = .ok (.iconst 0, 1) := by decide +kernel
theorem dX4_mark_135 : decode cX4_mark 135 = .ok (.goto 28, 3) := by decide +kernel
theorem dX4_mark_138 : decode cX4_mark 138 = .ok (.iload_n 2, 1) := by decide +kernel
theorem dX4_mark_139 : decode cX4_mark 139 = .ok (.iconst 2, 1) := by decide +kernel
theorem dX4_mark_140 : decode cX4_mark 140 = .ok (.if_icmp .ne 21, 3) := by decide +kernel
theorem dX4_mark_143 : decode cX4_mark 143 = .ok (.iload 6, 2) := by decide +kernel
theorem dX4_mark_145 : decode cX4_mark 145 = .ok (.ifCond .eq 12, 3) := by decide +kernel
theorem dX4_mark_148 : decode cX4_mark 148 = .ok (.iload 5, 2) := by decide +kernel
theorem dX4_mark_150 : decode cX4_mark 150 = .ok (.ifCond .ne 7, 3) := by decide +kernel
theorem dX4_mark_153 : decode cX4_mark 153 = .ok (.iconst 1, 1) := by decide +kernel
theorem dX4_mark_154 : decode cX4_mark 154 = .ok (.goto 9, 3) := by decide +kernel
theorem dX4_mark_157 : decode cX4_mark 157 = .ok (.iconst 0, 1) := by decide +kernel
theorem dX4_mark_158 : decode cX4_mark 158 = .ok (.goto 5, 3) := by decide +kernel
theorem dX4_mark_161 : decode cX4_mark 161 = .ok (.iload 6, 2) := by decide +kernel
theorem dX4_mark_163 : decode cX4_mark 163 = .ok (.istore 7, 2) := by decide +kernel
theorem dX4_mark_165 : decode cX4_mark 165 = .ok (.iload_n 3, 1) := by decide +kernel
theorem dX4_mark_166 : decode cX4_mark 166 = .ok (.iload 4, 2) := by decide +kernel
theorem dX4_mark_168 : decode cX4_mark 168 = .ok (.iload_n 1, 1) := by decide +kernel
theorem dX4_mark_169 : decode cX4_mark 169 = .ok (.if_icmp .eq 12, 3) := by decide +kernel
theorem dX4_mark_172 : decode cX4_mark 172 = .ok (.iload 7, 2) := by decide +kernel
theorem dX4_mark_174 : decode cX4_mark 174 = .ok (.ifCond .eq 7, 3) := by decide +kernel
theorem dX4_mark_177 : decode cX4_mark 177 = .ok (.iconst 1, 1) := by decide +kernel
theorem dX4_mark_178 : decode cX4_mark 178 = .ok (.goto 4, 3) := by decide +kernel
theorem dX4_mark_181 : decode cX4_mark 181 = .ok (.iconst 0, 1) := by decide +kernel
theorem dX4_mark_182 : decode cX4_mark 182 = .ok (.iadd, 1) := by decide +kernel
theorem dX4_mark_183 : decode cX4_mark 183 = .ok (.istore_n 3, 1) := by decide +kernel
theorem dX4_mark_184 : decode cX4_mark 184 = .ok (.iinc 4 1, 3) := by decide +kernel
theorem dX4_mark_187 : decode cX4_mark 187 = .ok (.goto (-100), 3) := by decide +kernel
theorem dX4_mark_190 : decode cX4_mark 190 = .ok (.iload_n 3, 1) := by decide +kernel
theorem dX4_mark_191 : decode cX4_mark 191 = .ok (.ireturn, 1) := by decide +kernel
theorem dX4_tells_0 : decode cX4_tells 0 = .ok (.aload_n 0, 1) := by decide +kernel
theorem dX4_tells_1 : decode cX4_tells 1 = .ok (.iload_n 1, 1) := by decide +kernel
theorem dX4_tells_2 : decode cX4_tells 2 = .ok (.invokevirtual 143, 3) := by decide +kernel
theorem dX4_tells_5 : decode cX4_tells 5 = .ok (.ifCond .eq 25, 3) := by decide +kernel
theorem dX4_tells_8 : decode cX4_tells 8 = .ok (.aload_n 0, 1) := by decide +kernel
theorem dX4_tells_9 : decode cX4_tells 9 = .ok (.iload_n 2, 1) := by decide +kernel
theorem dX4_tells_10 : decode cX4_tells 10 = .ok (.invokevirtual 156, 3) := by decide +kernel
theorem dX4_tells_13 : decode cX4_tells 13 = .ok (.ifCond .eq 17, 3) := by decide +kernel
theorem dX4_tells_16 : decode cX4_tells 16 = .ok (.iload_n 1, 1) := by decide +kernel
theorem dX4_tells_17 : decode cX4_tells 17 = .ok (.aload_n 0, 1) := by decide +kernel
theorem dX4_tells_18 : decode cX4_tells 18 = .ok (.getfield 33, 3) := by decide +kernel
theorem dX4_tells_21 : decode cX4_tells 21 = .ok (.iload_n 1, 1) := by decide +kernel
theorem dX4_tells_22 : decode cX4_tells 22 = .ok (.iaload, 1) := by decide +kernel
theorem dX4_tells_23 : decode cX4_tells 23 = .ok (.iload_n 2, 1) := by decide +kernel
theorem dX4_tells_24 : decode cX4_tells 24 = .ok (.invokestatic 116, 3) := by decide +kernel
theorem dX4_tells_27 : decode cX4_tells 27 = .ok (.goto 4, 3) := by decide +kernel
theorem dX4_tells_30 : decode cX4_tells 30 = .ok (.iconst (-1), 1) := by decide +kernel
theorem dX4_tells_31 : decode cX4_tells 31 = .ok (.ireturn, 1) := by decide +kernel
theorem dX4_begin_0 : decode cX4_begin 0 = .ok (.iconst 0, 1) := by decide +kernel
theorem dX4_begin_1 : decode cX4_begin 1 = .ok (.istore_n 1, 1) := by decide +kernel
theorem dX4_begin_2 : decode cX4_begin 2 = .ok (.iload_n 1, 1) := by decide +kernel
theorem dX4_begin_3 : decode cX4_begin 3 = .ok (.bipush 10, 2) := by decide +kernel
theorem dX4_begin_5 : decode cX4_begin 5 = .ok (.if_icmp .ge 39, 3) := by decide +kernel
theorem dX4_begin_8 : decode cX4_begin 8 = .ok (.aload_n 0, 1) := by decide +kernel
theorem dX4_begin_9 : decode cX4_begin 9 = .ok (.getfield 42, 3) := by decide +kernel
theorem dX4_begin_12 : decode cX4_begin 12 = .ok (.bipush 10, 2) := by decide +kernel
theorem dX4_begin_14 : decode cX4_begin 14 = .ok (.aload_n 0, 1) := by decide +kernel
theorem dX4_begin_15 : decode cX4_begin 15 = .ok (.getfield 107, 3) := by decide +kernel
theorem dX4_begin_18 : decode cX4_begin 18 = .ok (.iconst 1, 1) := by decide +kernel
theorem dX4_begin_19 : decode cX4_begin 19 = .ok (.iadd, 1) := by decide +kernel
theorem dX4_begin_20 : decode cX4_begin 20 = .ok (.imul, 1) := by decide +kernel
theorem dX4_begin_21 : decode cX4_begin 21 = .ok (.iload_n 1, 1) := by decide +kernel
theorem dX4_begin_22 : decode cX4_begin 22 = .ok (.iadd, 1) := by decide +kernel
theorem dX4_begin_23 : decode cX4_begin 23 = .ok (.aload_n 0, 1) := by decide +kernel
theorem dX4_begin_24 : decode cX4_begin 24 = .ok (.getfield 42, 3) := by decide +kernel
theorem dX4_begin_27 : decode cX4_begin 27 = .ok (.bipush 10, 2) := by decide +kernel
theorem dX4_begin_29 : decode cX4_begin 29 = .ok (.aload_n 0, 1) := by decide +kernel
theorem dX4_begin_30 : decode cX4_begin 30 = .ok (.getfield 107, 3) := by decide +kernel
theorem dX4_begin_33 : decode cX4_begin 33 = .ok (.imul, 1) := by decide +kernel
theorem dX4_begin_34 : decode cX4_begin 34 = .ok (.iload_n 1, 1) := by decide +kernel
theorem dX4_begin_35 : decode cX4_begin 35 = .ok (.iadd, 1) := by decide +kernel
theorem dX4_begin_36 : decode cX4_begin 36 = .ok (.iaload, 1) := by decide +kernel
theorem dX4_begin_37 : decode cX4_begin 37 = .ok (.iastore, 1) := by decide +kernel
theorem dX4_begin_38 : decode cX4_begin 38 = .ok (.iinc 1 1, 3) := by decide +kernel
theorem dX4_begin_41 : decode cX4_begin 41 = .ok (.goto (-39), 3) := by decide +kernel
theorem dX4_begin_44 : decode cX4_begin 44 = .ok (.aload_n 0, 1) := by decide +kernel
theorem dX4_begin_45 : decode cX4_begin 45 = .ok (.dup, 1) := by decide +kernel
theorem dX4_begin_46 : decode cX4_begin 46 = .ok (.getfield 107, 3) := by decide +kernel
theorem dX4_begin_49 : decode cX4_begin 49 = .ok (.iconst 1, 1) := by decide +kernel
theorem dX4_begin_50 : decode cX4_begin 50 = .ok (.iadd, 1) := by decide +kernel
theorem dX4_begin_51 : decode cX4_begin 51 = .ok (.putfield 107, 3) := by decide +kernel
theorem dX4_begin_54 : decode cX4_begin 54 = .ok (.return_, 1) := by decide +kernel
theorem dX4_tell_0 : decode cX4_tell 0 = .ok (.bipush 10, 2) := by decide +kernel
theorem dX4_tell_2 : decode cX4_tell 2 = .ok (.aload_n 0, 1) := by decide +kernel
theorem dX4_tell_3 : decode cX4_tell 3 = .ok (.getfield 107, 3) := by decide +kernel
theorem dX4_tell_6 : decode cX4_tell 6 = .ok (.imul, 1) := by decide +kernel
theorem dX4_tell_7 : decode cX4_tell 7 = .ok (.iconst 0, 1) := by decide +kernel
theorem dX4_tell_8 : decode cX4_tell 8 = .ok (.iadd, 1) := by decide +kernel
theorem dX4_tell_9 : decode cX4_tell 9 = .ok (.iload_n 1, 1) := by decide +kernel
theorem dX4_tell_10 : decode cX4_tell 10 = .ok (.iadd, 1) := by decide +kernel
theorem dX4_tell_11 : decode cX4_tell 11 = .ok (.istore_n 3, 1) := by decide +kernel
theorem dX4_tell_12 : decode cX4_tell 12 = .ok (.aload_n 0, 1) := by decide +kernel
theorem dX4_tell_13 : decode cX4_tell 13 = .ok (.getfield 42, 3) := by decide +kernel
theorem dX4_tell_16 : decode cX4_tell 16 = .ok (.iload_n 3, 1) := by decide +kernel
theorem dX4_tell_17 : decode cX4_tell 17 = .ok (.iaload, 1) := by decide +kernel
theorem dX4_tell_18 : decode cX4_tell 18 = .ok (.invokestatic 153, 3) := by decide +kernel
theorem dX4_tell_21 : decode cX4_tell 21 = .ok (.istore 4, 2) := by decide +kernel
theorem dX4_tell_23 : decode cX4_tell 23 = .ok (.aload_n 0, 1) := by decide +kernel
theorem dX4_tell_24 : decode cX4_tell 24 = .ok (.getfield 42, 3) := by decide +kernel
theorem dX4_tell_27 : decode cX4_tell 27 = .ok (.iload_n 3, 1) := by decide +kernel
theorem dX4_tell_28 : decode cX4_tell 28 = .ok (.dup2, 1) := by decide +kernel
theorem dX4_tell_29 : decode cX4_tell 29 = .ok (.iaload, 1) := by decide +kernel
theorem dX4_tell_30 : decode cX4_tell 30 = .ok (.iload_n 2, 1) := by decide +kernel
theorem dX4_tell_31 : decode cX4_tell 31 = .ok (.iconst 1, 1) := by decide +kernel
theorem dX4_tell_32 : decode cX4_tell 32 = .ok (.iload_n 1, 1) := by decide +kernel
theorem dX4_tell_33 : decode cX4_tell 33 = .ok (.ishl, 1) := by decide +kernel
theorem dX4_tell_34 : decode cX4_tell 34 = .ok (.iconst (-1), 1) := by decide +kernel
theorem dX4_tell_35 : decode cX4_tell 35 = .ok (.ixor, 1) := by decide +kernel
theorem dX4_tell_36 : decode cX4_tell 36 = .ok (.iand, 1) := by decide +kernel
theorem dX4_tell_37 : decode cX4_tell 37 = .ok (.ior, 1) := by decide +kernel
theorem dX4_tell_38 : decode cX4_tell 38 = .ok (.iastore, 1) := by decide +kernel
theorem dX4_tell_39 : decode cX4_tell 39 = .ok (.aload_n 0, 1) := by decide +kernel
theorem dX4_tell_40 : decode cX4_tell 40 = .ok (.getfield 42, 3) := by decide +kernel
theorem dX4_tell_43 : decode cX4_tell 43 = .ok (.iload_n 3, 1) := by decide +kernel
theorem dX4_tell_44 : decode cX4_tell 44 = .ok (.iaload, 1) := by decide +kernel
theorem dX4_tell_45 : decode cX4_tell 45 = .ok (.invokestatic 153, 3) := by decide +kernel
theorem dX4_tell_48 : decode cX4_tell 48 = .ok (.iload 4, 2) := by decide +kernel
theorem dX4_tell_50 : decode cX4_tell 50 = .ok (.isub, 1) := by decide +kernel
theorem dX4_tell_51 : decode cX4_tell 51 = .ok (.ireturn, 1) := by decide +kernel
theorem dX4_meetNow_0 : decode cX4_meetNow 0 = .ok (.aload_n 0, 1) := by decide +kernel
theorem dX4_meetNow_1 : decode cX4_meetNow 1 = .ok (.iload_n 1, 1) := by decide +kernel
theorem dX4_meetNow_2 : decode cX4_meetNow 2 = .ok (.invokevirtual 140, 3) := by decide +kernel
theorem dX4_meetNow_5 : decode cX4_meetNow 5 = .ok (.istore_n 3, 1) := by decide +kernel
theorem dX4_meetNow_6 : decode cX4_meetNow 6 = .ok (.aload_n 0, 1) := by decide +kernel
theorem dX4_meetNow_7 : decode cX4_meetNow 7 = .ok (.iload_n 2, 1) := by decide +kernel
theorem dX4_meetNow_8 : decode cX4_meetNow 8 = .ok (.invokevirtual 140, 3) := by decide +kernel
theorem dX4_meetNow_11 : decode cX4_meetNow 11 = .ok (.istore 4, 2) := by decide +kernel
theorem dX4_meetNow_13 : decode cX4_meetNow 13 = .ok (.aload_n 0, 1) := by decide +kernel
theorem dX4_meetNow_14 : decode cX4_meetNow 14 = .ok (.iload_n 1, 1) := by decide +kernel
theorem dX4_meetNow_15 : decode cX4_meetNow 15 = .ok (.iload 4, 2) := by decide +kernel
theorem dX4_meetNow_17 : decode cX4_meetNow 17 = .ok (.invokevirtual 159, 3) := by decide +kernel
theorem dX4_meetNow_20 : decode cX4_meetNow 20 = .ok (.aload_n 0, 1) := by decide +kernel
theorem dX4_meetNow_21 : decode cX4_meetNow 21 = .ok (.iload_n 2, 1) := by decide +kernel
theorem dX4_meetNow_22 : decode cX4_meetNow 22 = .ok (.iload_n 3, 1) := by decide +kernel
theorem dX4_meetNow_23 : decode cX4_meetNow 23 = .ok (.invokevirtual 159, 3) := by decide +kernel
theorem dX4_meetNow_26 : decode cX4_meetNow 26 = .ok (.iadd, 1) := by decide +kernel
theorem dX4_meetNow_27 : decode cX4_meetNow 27 = .ok (.ireturn, 1) := by decide +kernel
theorem dX4_meet_0 : decode cX4_meet 0 = .ok (.aload_n 0, 1) := by decide +kernel
theorem dX4_meet_1 : decode cX4_meet 1 = .ok (.iload_n 1, 1) := by decide +kernel
theorem dX4_meet_2 : decode cX4_meet 2 = .ok (.invokevirtual 143, 3) := by decide +kernel
theorem dX4_meet_5 : decode cX4_meet 5 = .ok (.ifCond .eq 16, 3) := by decide +kernel
theorem dX4_meet_8 : decode cX4_meet 8 = .ok (.aload_n 0, 1) := by decide +kernel
theorem dX4_meet_9 : decode cX4_meet 9 = .ok (.iload_n 2, 1) := by decide +kernel
theorem dX4_meet_10 : decode cX4_meet 10 = .ok (.invokevirtual 143, 3) := by decide +kernel
theorem dX4_meet_13 : decode cX4_meet 13 = .ok (.ifCond .eq 8, 3) := by decide +kernel
theorem dX4_meet_16 : decode cX4_meet 16 = .ok (.iload_n 1, 1) := by decide +kernel
theorem dX4_meet_17 : decode cX4_meet 17 = .ok (.iload_n 2, 1) := by decide +kernel
theorem dX4_meet_18 : decode cX4_meet 18 = .ok (.if_icmp .ne 5, 3) := by decide +kernel
theorem dX4_meet_21 : decode cX4_meet 21 = .ok (.iconst (-1), 1) := by decide +kernel
theorem dX4_meet_22 : decode cX4_meet 22 = .ok (.ireturn, 1) := by decide +kernel
theorem dX4_meet_23 : decode cX4_meet 23 = .ok (.aload_n 0, 1) := by decide +kernel
theorem dX4_meet_24 : decode cX4_meet 24 = .ok (.iload_n 1, 1) := by decide +kernel
theorem dX4_meet_25 : decode cX4_meet 25 = .ok (.invokevirtual 131, 3) := by decide +kernel
theorem dX4_meet_28 : decode cX4_meet 28 = .ok (.ifCond .ne 11, 3) := by decide +kernel
theorem dX4_meet_31 : decode cX4_meet 31 = .ok (.aload_n 0, 1) := by decide +kernel
theorem dX4_meet_32 : decode cX4_meet 32 = .ok (.iload_n 2, 1) := by decide +kernel
theorem dX4_meet_33 : decode cX4_meet 33 = .ok (.invokevirtual 131, 3) := by decide +kernel
theorem dX4_meet_36 : decode cX4_meet 36 = .ok (.ifCond .eq 6, 3) := by decide +kernel
theorem dX4_meet_39 : decode cX4_meet 39 = .ok (.bipush (-4), 2) := by decide +kernel
theorem dX4_meet_41 : decode cX4_meet 41 = .ok (.ireturn, 1) := by decide +kernel
theorem dX4_meet_42 : decode cX4_meet 42 = .ok (.aload_n 0, 1) := by decide +kernel
theorem dX4_meet_43 : decode cX4_meet 43 = .ok (.getfield 107, 3) := by decide +kernel
theorem dX4_meet_46 : decode cX4_meet 46 = .ok (.bipush 40, 2) := by decide +kernel
theorem dX4_meet_48 : decode cX4_meet 48 = .ok (.if_icmp .ne 6, 3) := by decide +kernel
theorem dX4_meet_51 : decode cX4_meet 51 = .ok (.bipush (-2), 2) := by decide +kernel
theorem dX4_meet_53 : decode cX4_meet 53 = .ok (.ireturn, 1) := by decide +kernel
theorem dX4_meet_54 : decode cX4_meet 54 = .ok (.aload_n 0, 1) := by decide +kernel
theorem dX4_meet_55 : decode cX4_meet 55 = .ok (.invokevirtual 162, 3) := by decide +kernel
theorem dX4_meet_58 : decode cX4_meet 58 = .ok (.aload_n 0, 1) := by decide +kernel
theorem dX4_meet_59 : decode cX4_meet 59 = .ok (.iload_n 1, 1) := by decide +kernel
theorem dX4_meet_60 : decode cX4_meet 60 = .ok (.iload_n 2, 1) := by decide +kernel
theorem dX4_meet_61 : decode cX4_meet 61 = .ok (.invokevirtual 165, 3) := by decide +kernel
theorem dX4_meet_64 : decode cX4_meet 64 = .ok (.ireturn, 1) := by decide +kernel
theorem dX4_card_0 : decode cX4_card 0 = .ok (.aload_n 0, 1) := by decide +kernel
theorem dX4_card_1 : decode cX4_card 1 = .ok (.iload_n 1, 1) := by decide +kernel
theorem dX4_card_2 : decode cX4_card 2 = .ok (.invokevirtual 143, 3) := by decide +kernel
theorem dX4_card_5 : decode cX4_card 5 = .ok (.ifCond .ne 5, 3) := by decide +kernel
theorem dX4_card_8 : decode cX4_card 8 = .ok (.iconst (-1), 1) := by decide +kernel
theorem dX4_card_9 : decode cX4_card 9 = .ok (.ireturn, 1) := by decide +kernel
theorem dX4_card_10 : decode cX4_card 10 = .ok (.aload_n 0, 1) := by decide +kernel
theorem dX4_card_11 : decode cX4_card 11 = .ok (.iload_n 1, 1) := by decide +kernel
theorem dX4_card_12 : decode cX4_card 12 = .ok (.invokevirtual 131, 3) := by decide +kernel
theorem dX4_card_15 : decode cX4_card 15 = .ok (.ifCond .eq 6, 3) := by decide +kernel
theorem dX4_card_18 : decode cX4_card 18 = .ok (.bipush (-4), 2) := by decide +kernel
theorem dX4_card_20 : decode cX4_card 20 = .ok (.ireturn, 1) := by decide +kernel
theorem dX4_card_21 : decode cX4_card 21 = .ok (.aload_n 0, 1) := by decide +kernel
theorem dX4_card_22 : decode cX4_card 22 = .ok (.getfield 107, 3) := by decide +kernel
theorem dX4_card_25 : decode cX4_card 25 = .ok (.bipush 40, 2) := by decide +kernel
theorem dX4_card_27 : decode cX4_card 27 = .ok (.if_icmp .ne 6, 3) := by decide +kernel
theorem dX4_card_30 : decode cX4_card 30 = .ok (.bipush (-2), 2) := by decide +kernel
theorem dX4_card_32 : decode cX4_card 32 = .ok (.ireturn, 1) := by decide +kernel
theorem dX4_card_33 : decode cX4_card 33 = .ok (.aload_n 0, 1) := by decide +kernel
theorem dX4_card_34 : decode cX4_card 34 = .ok (.invokevirtual 162, 3) := by decide +kernel
theorem dX4_card_37 : decode cX4_card 37 = .ok (.aload_n 0, 1) := by decide +kernel
theorem dX4_card_38 : decode cX4_card 38 = .ok (.getfield 42, 3) := by decide +kernel
theorem dX4_card_41 : decode cX4_card 41 = .ok (.bipush 10, 2) := by decide +kernel
theorem dX4_card_43 : decode cX4_card 43 = .ok (.aload_n 0, 1) := by decide +kernel
theorem dX4_card_44 : decode cX4_card 44 = .ok (.getfield 107, 3) := by decide +kernel
theorem dX4_card_47 : decode cX4_card 47 = .ok (.imul, 1) := by decide +kernel
theorem dX4_card_48 : decode cX4_card 48 = .ok (.bipush 9, 2) := by decide +kernel
theorem dX4_card_50 : decode cX4_card 50 = .ok (.iadd, 1) := by decide +kernel
theorem dX4_card_51 : decode cX4_card 51 = .ok (.dup2, 1) := by decide +kernel
theorem dX4_card_52 : decode cX4_card 52 = .ok (.iaload, 1) := by decide +kernel
theorem dX4_card_53 : decode cX4_card 53 = .ok (.aload_n 0, 1) := by decide +kernel
theorem dX4_card_54 : decode cX4_card 54 = .ok (.iload_n 1, 1) := by decide +kernel
theorem dX4_card_55 : decode cX4_card 55 = .ok (.invokevirtual 140, 3) := by decide +kernel
theorem dX4_card_58 : decode cX4_card 58 = .ok (.ior, 1) := by decide +kernel
theorem dX4_card_59 : decode cX4_card 59 = .ok (.iastore, 1) := by decide +kernel
theorem dX4_card_60 : decode cX4_card 60 = .ok (.aload_n 0, 1) := by decide +kernel
theorem dX4_card_61 : decode cX4_card 61 = .ok (.bipush 9, 2) := by decide +kernel
theorem dX4_card_63 : decode cX4_card 63 = .ok (.invokevirtual 110, 3) := by decide +kernel
theorem dX4_card_66 : decode cX4_card 66 = .ok (.ireturn, 1) := by decide +kernel
theorem dX4_reads_0 : decode cX4_reads 0 = .ok (.aload_n 0, 1) := by decide +kernel
theorem dX4_reads_1 : decode cX4_reads 1 = .ok (.iload_n 1, 1) := by decide +kernel
theorem dX4_reads_2 : decode cX4_reads 2 = .ok (.invokevirtual 143, 3) := by decide +kernel
theorem dX4_reads_5 : decode cX4_reads 5 = .ok (.ifCond .ne 5, 3) := by decide +kernel
theorem dX4_reads_8 : decode cX4_reads 8 = .ok (.iconst (-1), 1) := by decide +kernel
theorem dX4_reads_9 : decode cX4_reads 9 = .ok (.ireturn, 1) := by decide +kernel
theorem dX4_reads_10 : decode cX4_reads 10 = .ok (.aload_n 0, 1) := by decide +kernel
theorem dX4_reads_11 : decode cX4_reads 11 = .ok (.iload_n 1, 1) := by decide +kernel
theorem dX4_reads_12 : decode cX4_reads 12 = .ok (.invokevirtual 131, 3) := by decide +kernel
theorem dX4_reads_15 : decode cX4_reads 15 = .ok (.ifCond .eq 6, 3) := by decide +kernel
theorem dX4_reads_18 : decode cX4_reads 18 = .ok (.bipush (-4), 2) := by decide +kernel
theorem dX4_reads_20 : decode cX4_reads 20 = .ok (.ireturn, 1) := by decide +kernel
theorem dX4_reads_21 : decode cX4_reads 21 = .ok (.aload_n 0, 1) := by decide +kernel
theorem dX4_reads_22 : decode cX4_reads 22 = .ok (.getfield 107, 3) := by decide +kernel
theorem dX4_reads_25 : decode cX4_reads 25 = .ok (.bipush 40, 2) := by decide +kernel
theorem dX4_reads_27 : decode cX4_reads 27 = .ok (.if_icmp .ne 6, 3) := by decide +kernel
theorem dX4_reads_30 : decode cX4_reads 30 = .ok (.bipush (-2), 2) := by decide +kernel
theorem dX4_reads_32 : decode cX4_reads 32 = .ok (.ireturn, 1) := by decide +kernel
theorem dX4_reads_33 : decode cX4_reads 33 = .ok (.aload_n 0, 1) := by decide +kernel
theorem dX4_reads_34 : decode cX4_reads 34 = .ok (.invokevirtual 162, 3) := by decide +kernel
theorem dX4_reads_37 : decode cX4_reads 37 = .ok (.aload_n 0, 1) := by decide +kernel
theorem dX4_reads_38 : decode cX4_reads 38 = .ok (.iload_n 1, 1) := by decide +kernel
theorem dX4_reads_39 : decode cX4_reads 39 = .ok (.aload_n 0, 1) := by decide +kernel
theorem dX4_reads_40 : decode cX4_reads 40 = .ok (.bipush 9, 2) := by decide +kernel
theorem dX4_reads_42 : decode cX4_reads 42 = .ok (.invokevirtual 110, 3) := by decide +kernel
theorem dX4_reads_45 : decode cX4_reads 45 = .ok (.invokevirtual 159, 3) := by decide +kernel
theorem dX4_reads_48 : decode cX4_reads 48 = .ok (.ireturn, 1) := by decide +kernel
theorem dX4_goNow_0 : decode cX4_goNow 0 = .ok (.aload_n 0, 1) := by decide +kernel
theorem dX4_goNow_1 : decode cX4_goNow 1 = .ok (.getfield 42, 3) := by decide +kernel
theorem dX4_goNow_4 : decode cX4_goNow 4 = .ok (.bipush 10, 2) := by decide +kernel
theorem dX4_goNow_6 : decode cX4_goNow 6 = .ok (.aload_n 0, 1) := by decide +kernel
theorem dX4_goNow_7 : decode cX4_goNow 7 = .ok (.getfield 107, 3) := by decide +kernel
theorem dX4_goNow_10 : decode cX4_goNow 10 = .ok (.imul, 1) := by decide +kernel
theorem dX4_goNow_11 : decode cX4_goNow 11 = .ok (.bipush 7, 2) := by decide +kernel
theorem dX4_goNow_13 : decode cX4_goNow 13 = .ok (.iadd, 1) := by decide +kernel
theorem dX4_goNow_14 : decode cX4_goNow 14 = .ok (.dup2, 1) := by decide +kernel
theorem dX4_goNow_15 : decode cX4_goNow 15 = .ok (.iaload, 1) := by decide +kernel
theorem dX4_goNow_16 : decode cX4_goNow 16 = .ok (.iconst 1, 1) := by decide +kernel
theorem dX4_goNow_17 : decode cX4_goNow 17 = .ok (.iload_n 1, 1) := by decide +kernel
theorem dX4_goNow_18 : decode cX4_goNow 18 = .ok (.ishl, 1) := by decide +kernel
theorem dX4_goNow_19 : decode cX4_goNow 19 = .ok (.ior, 1) := by decide +kernel
theorem dX4_goNow_20 : decode cX4_goNow 20 = .ok (.iastore, 1) := by decide +kernel
theorem dX4_goNow_21 : decode cX4_goNow 21 = .ok (.aload_n 0, 1) := by decide +kernel
theorem dX4_goNow_22 : decode cX4_goNow 22 = .ok (.getfield 42, 3) := by decide +kernel
theorem dX4_goNow_25 : decode cX4_goNow 25 = .ok (.bipush 10, 2) := by decide +kernel
theorem dX4_goNow_27 : decode cX4_goNow 27 = .ok (.aload_n 0, 1) := by decide +kernel
theorem dX4_goNow_28 : decode cX4_goNow 28 = .ok (.getfield 107, 3) := by decide +kernel
theorem dX4_goNow_31 : decode cX4_goNow 31 = .ok (.imul, 1) := by decide +kernel
theorem dX4_goNow_32 : decode cX4_goNow 32 = .ok (.bipush 8, 2) := by decide +kernel
theorem dX4_goNow_34 : decode cX4_goNow 34 = .ok (.iadd, 1) := by decide +kernel
theorem dX4_goNow_35 : decode cX4_goNow 35 = .ok (.iload_n 1, 1) := by decide +kernel
theorem dX4_goNow_36 : decode cX4_goNow 36 = .ok (.iastore, 1) := by decide +kernel
theorem dX4_goNow_37 : decode cX4_goNow 37 = .ok (.return_, 1) := by decide +kernel
theorem dX4_go_0 : decode cX4_go 0 = .ok (.aload_n 0, 1) := by decide +kernel
theorem dX4_go_1 : decode cX4_go 1 = .ok (.iload_n 1, 1) := by decide +kernel
theorem dX4_go_2 : decode cX4_go 2 = .ok (.invokevirtual 143, 3) := by decide +kernel
theorem dX4_go_5 : decode cX4_go 5 = .ok (.ifCond .ne 5, 3) := by decide +kernel
theorem dX4_go_8 : decode cX4_go 8 = .ok (.iconst (-1), 1) := by decide +kernel
theorem dX4_go_9 : decode cX4_go 9 = .ok (.ireturn, 1) := by decide +kernel
theorem dX4_go_10 : decode cX4_go 10 = .ok (.aload_n 0, 1) := by decide +kernel
theorem dX4_go_11 : decode cX4_go 11 = .ok (.iload_n 1, 1) := by decide +kernel
theorem dX4_go_12 : decode cX4_go 12 = .ok (.invokevirtual 137, 3) := by decide +kernel
theorem dX4_go_15 : decode cX4_go 15 = .ok (.ifCond .ne 6, 3) := by decide +kernel
theorem dX4_go_18 : decode cX4_go 18 = .ok (.bipush (-4), 2) := by decide +kernel
theorem dX4_go_20 : decode cX4_go 20 = .ok (.ireturn, 1) := by decide +kernel
theorem dX4_go_21 : decode cX4_go 21 = .ok (.aload_n 0, 1) := by decide +kernel
theorem dX4_go_22 : decode cX4_go 22 = .ok (.getfield 107, 3) := by decide +kernel
theorem dX4_go_25 : decode cX4_go 25 = .ok (.bipush 40, 2) := by decide +kernel
theorem dX4_go_27 : decode cX4_go 27 = .ok (.if_icmp .ne 6, 3) := by decide +kernel
theorem dX4_go_30 : decode cX4_go 30 = .ok (.bipush (-2), 2) := by decide +kernel
theorem dX4_go_32 : decode cX4_go 32 = .ok (.ireturn, 1) := by decide +kernel
theorem dX4_go_33 : decode cX4_go 33 = .ok (.aload_n 0, 1) := by decide +kernel
theorem dX4_go_34 : decode cX4_go 34 = .ok (.invokevirtual 162, 3) := by decide +kernel
theorem dX4_go_37 : decode cX4_go 37 = .ok (.aload_n 0, 1) := by decide +kernel
theorem dX4_go_38 : decode cX4_go 38 = .ok (.iload_n 1, 1) := by decide +kernel
theorem dX4_go_39 : decode cX4_go 39 = .ok (.invokevirtual 168, 3) := by decide +kernel
theorem dX4_go_42 : decode cX4_go 42 = .ok (.aload_n 0, 1) := by decide +kernel
theorem dX4_go_43 : decode cX4_go 43 = .ok (.bipush 7, 2) := by decide +kernel
theorem dX4_go_45 : decode cX4_go 45 = .ok (.invokevirtual 110, 3) := by decide +kernel
theorem dX4_go_48 : decode cX4_go 48 = .ok (.invokestatic 153, 3) := by decide +kernel
theorem dX4_go_51 : decode cX4_go 51 = .ok (.ireturn, 1) := by decide +kernel
theorem dX4_undo_0 : decode cX4_undo 0 = .ok (.iload_n 1, 1) := by decide +kernel
theorem dX4_undo_1 : decode cX4_undo 1 = .ok (.iconst 0, 1) := by decide +kernel
theorem dX4_undo_2 : decode cX4_undo 2 = .ok (.aload_n 0, 1) := by decide +kernel
theorem dX4_undo_3 : decode cX4_undo 3 = .ok (.getfield 107, 3) := by decide +kernel
theorem dX4_undo_6 : decode cX4_undo 6 = .ok (.invokestatic 77, 3) := by decide +kernel
theorem dX4_undo_9 : decode cX4_undo 9 = .ok (.ifCond .ne 5, 3) := by decide +kernel
theorem dX4_undo_12 : decode cX4_undo 12 = .ok (.iconst (-1), 1) := by decide +kernel
theorem dX4_undo_13 : decode cX4_undo 13 = .ok (.ireturn, 1) := by decide +kernel
theorem dX4_undo_14 : decode cX4_undo 14 = .ok (.aload_n 0, 1) := by decide +kernel
theorem dX4_undo_15 : decode cX4_undo 15 = .ok (.getfield 107, 3) := by decide +kernel
theorem dX4_undo_18 : decode cX4_undo 18 = .ok (.iload_n 1, 1) := by decide +kernel
theorem dX4_undo_19 : decode cX4_undo 19 = .ok (.isub, 1) := by decide +kernel
theorem dX4_undo_20 : decode cX4_undo 20 = .ok (.istore_n 2, 1) := by decide +kernel
theorem dX4_undo_21 : decode cX4_undo 21 = .ok (.aload_n 0, 1) := by decide +kernel
theorem dX4_undo_22 : decode cX4_undo 22 = .ok (.iload_n 1, 1) := by decide +kernel
theorem dX4_undo_23 : decode cX4_undo 23 = .ok (.putfield 107, 3) := by decide +kernel
theorem dX4_undo_26 : decode cX4_undo 26 = .ok (.iload_n 2, 1) := by decide +kernel
theorem dX4_undo_27 : decode cX4_undo 27 = .ok (.ireturn, 1) := by decide +kernel
theorem dX4_keep_0 : decode cX4_keep 0 = .ok (.iload_n 1, 1) := by decide +kernel
theorem dX4_keep_1 : decode cX4_keep 1 = .ok (.iconst 0, 1) := by decide +kernel
theorem dX4_keep_2 : decode cX4_keep 2 = .ok (.iconst 2, 1) := by decide +kernel
theorem dX4_keep_3 : decode cX4_keep 3 = .ok (.invokestatic 77, 3) := by decide +kernel
theorem dX4_keep_6 : decode cX4_keep 6 = .ok (.ifCond .ne 5, 3) := by decide +kernel
theorem dX4_keep_9 : decode cX4_keep 9 = .ok (.iconst (-1), 1) := by decide +kernel
theorem dX4_keep_10 : decode cX4_keep 10 = .ok (.ireturn, 1) := by decide +kernel
theorem dX4_keep_11 : decode cX4_keep 11 = .ok (.aload_n 0, 1) := by decide +kernel
theorem dX4_keep_12 : decode cX4_keep 12 = .ok (.getfield 104, 3) := by decide +kernel
theorem dX4_keep_15 : decode cX4_keep 15 = .ok (.ifCond .ne 6, 3) := by decide +kernel
theorem dX4_keep_18 : decode cX4_keep 18 = .ok (.bipush (-4), 2) := by decide +kernel
theorem dX4_keep_20 : decode cX4_keep 20 = .ok (.ireturn, 1) := by decide +kernel
theorem dX4_keep_21 : decode cX4_keep 21 = .ok (.iconst 0, 1) := by decide +kernel
theorem dX4_keep_22 : decode cX4_keep 22 = .ok (.istore_n 2, 1) := by decide +kernel
theorem dX4_keep_23 : decode cX4_keep 23 = .ok (.iload_n 2, 1) := by decide +kernel
theorem dX4_keep_24 : decode cX4_keep 24 = .ok (.sipush 410, 3) := by decide +kernel
theorem dX4_keep_27 : decode cX4_keep 27 = .ok (.if_icmp .ge 27, 3) := by decide +kernel
theorem dX4_keep_30 : decode cX4_keep 30 = .ok (.aload_n 0, 1) := by decide +kernel
theorem dX4_keep_31 : decode cX4_keep 31 = .ok (.getfield 45, 3) := by decide +kernel
theorem dX4_keep_34 : decode cX4_keep 34 = .ok (.sipush 410, 3) := by decide +kernel
theorem dX4_keep_37 : decode cX4_keep 37 = .ok (.iload_n 1, 1) := by decide +kernel
theorem dX4_keep_38 : decode cX4_keep 38 = .ok (.imul, 1) := by decide +kernel
theorem dX4_keep_39 : decode cX4_keep 39 = .ok (.iload_n 2, 1) := by decide +kernel
theorem dX4_keep_40 : decode cX4_keep 40 = .ok (.iadd, 1) := by decide +kernel
theorem dX4_keep_41 : decode cX4_keep 41 = .ok (.aload_n 0, 1) := by decide +kernel
theorem dX4_keep_42 : decode cX4_keep 42 = .ok (.getfield 42, 3) := by decide +kernel
theorem dX4_keep_45 : decode cX4_keep 45 = .ok (.iload_n 2, 1) := by decide +kernel
theorem dX4_keep_46 : decode cX4_keep 46 = .ok (.iaload, 1) := by decide +kernel
theorem dX4_keep_47 : decode cX4_keep 47 = .ok (.iastore, 1) := by decide +kernel
theorem dX4_keep_48 : decode cX4_keep 48 = .ok (.iinc 2 1, 3) := by decide +kernel
theorem dX4_keep_51 : decode cX4_keep 51 = .ok (.goto (-28), 3) := by decide +kernel
theorem dX4_keep_54 : decode cX4_keep 54 = .ok (.aload_n 0, 1) := by decide +kernel
theorem dX4_keep_55 : decode cX4_keep 55 = .ok (.getfield 48, 3) := by decide +kernel
theorem dX4_keep_58 : decode cX4_keep 58 = .ok (.iload_n 1, 1) := by decide +kernel
theorem dX4_keep_59 : decode cX4_keep 59 = .ok (.aload_n 0, 1) := by decide +kernel
theorem dX4_keep_60 : decode cX4_keep 60 = .ok (.getfield 107, 3) := by decide +kernel
theorem dX4_keep_63 : decode cX4_keep 63 = .ok (.iastore, 1) := by decide +kernel
theorem dX4_keep_64 : decode cX4_keep 64 = .ok (.aload_n 0, 1) := by decide +kernel
theorem dX4_keep_65 : decode cX4_keep 65 = .ok (.getfield 107, 3) := by decide +kernel
theorem dX4_keep_68 : decode cX4_keep 68 = .ok (.ireturn, 1) := by decide +kernel
theorem dX4_on_0 : decode cX4_on 0 = .ok (.iload_n 1, 1) := by decide +kernel
theorem dX4_on_1 : decode cX4_on 1 = .ok (.iconst 0, 1) := by decide +kernel
theorem dX4_on_2 : decode cX4_on 2 = .ok (.iconst 2, 1) := by decide +kernel
theorem dX4_on_3 : decode cX4_on 3 = .ok (.invokestatic 77, 3) := by decide +kernel
theorem dX4_on_6 : decode cX4_on 6 = .ok (.ifCond .ne 5, 3) := by decide +kernel
theorem dX4_on_9 : decode cX4_on 9 = .ok (.iconst (-1), 1) := by decide +kernel
theorem dX4_on_10 : decode cX4_on 10 = .ok (.ireturn, 1) := by decide +kernel
theorem dX4_on_11 : decode cX4_on 11 = .ok (.aload_n 0, 1) := by decide +kernel
theorem dX4_on_12 : decode cX4_on 12 = .ok (.getfield 48, 3) := by decide +kernel
theorem dX4_on_15 : decode cX4_on 15 = .ok (.iload_n 1, 1) := by decide +kernel
theorem dX4_on_16 : decode cX4_on 16 = .ok (.iaload, 1) := by decide +kernel
theorem dX4_on_17 : decode cX4_on 17 = .ok (.ifCond .ge 9, 3) := by decide +kernel
theorem dX4_on_20 : decode cX4_on 20 = .ok (.aload_n 0, 1) := by decide +kernel
theorem dX4_on_21 : decode cX4_on 21 = .ok (.iconst 1, 1) := by decide +kernel
theorem dX4_on_22 : decode cX4_on 22 = .ok (.invokevirtual 85, 3) := by decide +kernel
theorem dX4_on_25 : decode cX4_on 25 = .ok (.ireturn, 1) := by decide +kernel
theorem dX4_on_26 : decode cX4_on 26 = .ok (.iconst 0, 1) := by decide +kernel
theorem dX4_on_27 : decode cX4_on 27 = .ok (.istore_n 2, 1) := by decide +kernel
theorem dX4_on_28 : decode cX4_on 28 = .ok (.iload_n 2, 1) := by decide +kernel
theorem dX4_on_29 : decode cX4_on 29 = .ok (.sipush 410, 3) := by decide +kernel
theorem dX4_on_32 : decode cX4_on 32 = .ok (.if_icmp .ge 27, 3) := by decide +kernel
theorem dX4_on_35 : decode cX4_on 35 = .ok (.aload_n 0, 1) := by decide +kernel
theorem dX4_on_36 : decode cX4_on 36 = .ok (.getfield 42, 3) := by decide +kernel
theorem dX4_on_39 : decode cX4_on 39 = .ok (.iload_n 2, 1) := by decide +kernel
theorem dX4_on_40 : decode cX4_on 40 = .ok (.aload_n 0, 1) := by decide +kernel
theorem dX4_on_41 : decode cX4_on 41 = .ok (.getfield 45, 3) := by decide +kernel
theorem dX4_on_44 : decode cX4_on 44 = .ok (.sipush 410, 3) := by decide +kernel
theorem dX4_on_47 : decode cX4_on 47 = .ok (.iload_n 1, 1) := by decide +kernel
theorem dX4_on_48 : decode cX4_on 48 = .ok (.imul, 1) := by decide +kernel
theorem dX4_on_49 : decode cX4_on 49 = .ok (.iload_n 2, 1) := by decide +kernel
theorem dX4_on_50 : decode cX4_on 50 = .ok (.iadd, 1) := by decide +kernel
theorem dX4_on_51 : decode cX4_on 51 = .ok (.iaload, 1) := by decide +kernel
theorem dX4_on_52 : decode cX4_on 52 = .ok (.iastore, 1) := by decide +kernel
theorem dX4_on_53 : decode cX4_on 53 = .ok (.iinc 2 1, 3) := by decide +kernel
theorem dX4_on_56 : decode cX4_on 56 = .ok (.goto (-28), 3) := by decide +kernel
theorem dX4_on_59 : decode cX4_on 59 = .ok (.aload_n 0, 1) := by decide +kernel
theorem dX4_on_60 : decode cX4_on 60 = .ok (.aload_n 0, 1) := by decide +kernel
theorem dX4_on_61 : decode cX4_on 61 = .ok (.getfield 48, 3) := by decide +kernel
theorem dX4_on_64 : decode cX4_on 64 = .ok (.iload_n 1, 1) := by decide +kernel
theorem dX4_on_65 : decode cX4_on 65 = .ok (.iaload, 1) := by decide +kernel
theorem dX4_on_66 : decode cX4_on 66 = .ok (.putfield 107, 3) := by decide +kernel
theorem dX4_on_69 : decode cX4_on 69 = .ok (.aload_n 0, 1) := by decide +kernel
theorem dX4_on_70 : decode cX4_on 70 = .ok (.getfield 107, 3) := by decide +kernel
theorem dX4_on_73 : decode cX4_on 73 = .ok (.ireturn, 1) := by decide +kernel
theorem dX4_tellNames_0 : decode cX4_tellNames 0 = .ok (.iconst 0, 1) := by decide +kernel
theorem dX4_tellNames_1 : decode cX4_tellNames 1 = .ok (.istore_n 1, 1) := by decide +kernel
theorem dX4_tellNames_2 : decode cX4_tellNames 2 = .ok (.iload_n 1, 1) := by decide +kernel
theorem dX4_tellNames_3 : decode cX4_tellNames 3 = .ok (.aload_n 0, 1) := by decide +kernel
theorem dX4_tellNames_4 : decode cX4_tellNames 4 = .ok (.getfield 104, 3) := by decide +kernel
theorem dX4_tellNames_7 : decode cX4_tellNames 7 = .ok (.if_icmp .ge 20, 3) := by decide +kernel
theorem dX4_tellNames_10 : decode cX4_tellNames 10 = .ok (.aload_n 0, 1) := by decide +kernel
theorem dX4_tellNames_11 : decode cX4_tellNames 11 = .ok (.getfield 51, 3) := by decide +kernel
theorem dX4_tellNames_14 : decode cX4_tellNames 14 = .ok (.iload_n 1, 1) := by decide +kernel
theorem dX4_tellNames_15 : decode cX4_tellNames 15 = .ok (.aload_n 0, 1) := by decide +kernel
theorem dX4_tellNames_16 : decode cX4_tellNames 16 = .ok (.iload_n 1, 1) := by decide +kernel
theorem dX4_tellNames_17 : decode cX4_tellNames 17 = .ok (.invokevirtual 134, 3) := by decide +kernel
theorem dX4_tellNames_20 : decode cX4_tellNames 20 = .ok (.iastore, 1) := by decide +kernel
theorem dX4_tellNames_21 : decode cX4_tellNames 21 = .ok (.iinc 1 1, 3) := by decide +kernel
theorem dX4_tellNames_24 : decode cX4_tellNames 24 = .ok (.goto (-22), 3) := by decide +kernel
theorem dX4_tellNames_27 : decode cX4_tellNames 27 = .ok (.return_, 1) := by decide +kernel
theorem dX4_mayGo_0 : decode cX4_mayGo 0 = .ok (.iload_n 1, 1) := by decide +kernel
theorem dX4_mayGo_1 : decode cX4_mayGo 1 = .ok (.bipush 7, 2) := by decide +kernel
theorem dX4_mayGo_3 : decode cX4_mayGo 3 = .ok (.if_icmp .ge 14, 3) := by decide +kernel
theorem dX4_mayGo_6 : decode cX4_mayGo 6 = .ok (.aload_n 0, 1) := by decide +kernel
theorem dX4_mayGo_7 : decode cX4_mayGo 7 = .ok (.getfield 51, 3) := by decide +kernel
theorem dX4_mayGo_10 : decode cX4_mayGo 10 = .ok (.iload_n 2, 1) := by decide +kernel
theorem dX4_mayGo_11 : decode cX4_mayGo 11 = .ok (.iaload, 1) := by decide +kernel
theorem dX4_mayGo_12 : decode cX4_mayGo 12 = .ok (.iload_n 1, 1) := by decide +kernel
theorem dX4_mayGo_13 : decode cX4_mayGo 13 = .ok (.invokestatic 123, 3) := by decide +kernel
theorem dX4_mayGo_16 : decode cX4_mayGo 16 = .ok (.ireturn, 1) := by decide +kernel
theorem dX4_mayGo_17 : decode cX4_mayGo 17 = .ok (.aload_n 0, 1) := by decide +kernel
theorem dX4_mayGo_18 : decode cX4_mayGo 18 = .ok (.bipush 8, 2) := by decide +kernel
theorem dX4_mayGo_20 : decode cX4_mayGo 20 = .ok (.invokevirtual 110, 3) := by decide +kernel
theorem dX4_mayGo_23 : decode cX4_mayGo 23 = .ok (.bipush (-9), 2) := by decide +kernel
theorem dX4_mayGo_25 : decode cX4_mayGo 25 = .ok (.if_icmp .eq 21, 3) := by decide +kernel
theorem dX4_mayGo_28 : decode cX4_mayGo 28 = .ok (.aload_n 0, 1) := by decide +kernel
theorem dX4_mayGo_29 : decode cX4_mayGo 29 = .ok (.getfield 51, 3) := by decide +kernel
theorem dX4_mayGo_32 : decode cX4_mayGo 32 = .ok (.iload_n 2, 1) := by decide +kernel
theorem dX4_mayGo_33 : decode cX4_mayGo 33 = .ok (.iaload, 1) := by decide +kernel
theorem dX4_mayGo_34 : decode cX4_mayGo 34 = .ok (.aload_n 0, 1) := by decide +kernel
theorem dX4_mayGo_35 : decode cX4_mayGo 35 = .ok (.bipush 8, 2) := by decide +kernel
theorem dX4_mayGo_37 : decode cX4_mayGo 37 = .ok (.invokevirtual 110, 3) := by decide +kernel
theorem dX4_mayGo_40 : decode cX4_mayGo 40 = .ok (.invokestatic 123, 3) := by decide +kernel
theorem dX4_mayGo_43 : decode cX4_mayGo 43 = .ok (.ifCond .eq 7, 3) := by decide +kernel
theorem dX4_mayGo_46 : decode cX4_mayGo 46 = .ok (.iconst 1, 1) := by decide +kernel
theorem dX4_mayGo_47 : decode cX4_mayGo 47 = .ok (.goto 4, 3) := by decide +kernel
theorem dX4_mayGo_50 : decode cX4_mayGo 50 = .ok (.iconst 0, 1) := by decide +kernel
theorem dX4_mayGo_51 : decode cX4_mayGo 51 = .ok (.ireturn, 1) := by decide +kernel
theorem dX4_tellWays_0 : decode cX4_tellWays 0 = .ok (.aload_n 0, 1) := by decide +kernel
theorem dX4_tellWays_1 : decode cX4_tellWays 1 = .ok (.invokevirtual 149, 3) := by decide +kernel
theorem dX4_tellWays_4 : decode cX4_tellWays 4 = .ok (.istore_n 1, 1) := by decide +kernel
theorem dX4_tellWays_5 : decode cX4_tellWays 5 = .ok (.iconst 0, 1) := by decide +kernel
theorem dX4_tellWays_6 : decode cX4_tellWays 6 = .ok (.istore_n 2, 1) := by decide +kernel
theorem dX4_tellWays_7 : decode cX4_tellWays 7 = .ok (.iload_n 2, 1) := by decide +kernel
theorem dX4_tellWays_8 : decode cX4_tellWays 8 = .ok (.sipush 896, 3) := by decide +kernel
theorem dX4_tellWays_11 : decode cX4_tellWays 11 = .ok (.if_icmp .ge 16, 3) := by decide +kernel
theorem dX4_tellWays_14 : decode cX4_tellWays 14 = .ok (.aload_n 0, 1) := by decide +kernel
theorem dX4_tellWays_15 : decode cX4_tellWays 15 = .ok (.getfield 54, 3) := by decide +kernel
theorem dX4_tellWays_18 : decode cX4_tellWays 18 = .ok (.iload_n 2, 1) := by decide +kernel
theorem dX4_tellWays_19 : decode cX4_tellWays 19 = .ok (.iconst 0, 1) := by decide +kernel
theorem dX4_tellWays_20 : decode cX4_tellWays 20 = .ok (.iastore, 1) := by decide +kernel
theorem dX4_tellWays_21 : decode cX4_tellWays 21 = .ok (.iinc 2 1, 3) := by decide +kernel
theorem dX4_tellWays_24 : decode cX4_tellWays 24 = .ok (.goto (-17), 3) := by decide +kernel
theorem dX4_tellWays_27 : decode cX4_tellWays 27 = .ok (.iconst 0, 1) := by decide +kernel
theorem dX4_tellWays_28 : decode cX4_tellWays 28 = .ok (.istore_n 2, 1) := by decide +kernel
theorem dX4_tellWays_29 : decode cX4_tellWays 29 = .ok (.iload_n 2, 1) := by decide +kernel
theorem dX4_tellWays_30 : decode cX4_tellWays 30 = .ok (.aload_n 0, 1) := by decide +kernel
theorem dX4_tellWays_31 : decode cX4_tellWays 31 = .ok (.getfield 104, 3) := by decide +kernel
theorem dX4_tellWays_34 : decode cX4_tellWays 34 = .ok (.if_icmp .ge 45, 3) := by decide +kernel
theorem dX4_tellWays_37 : decode cX4_tellWays 37 = .ok (.aload_n 0, 1) := by decide +kernel
theorem dX4_tellWays_38 : decode cX4_tellWays 38 = .ok (.getfield 54, 3) := by decide +kernel
theorem dX4_tellWays_41 : decode cX4_tellWays 41 = .ok (.bipush 7, 2) := by decide +kernel
theorem dX4_tellWays_43 : decode cX4_tellWays 43 = .ok (.iconst 1, 1) := by decide +kernel
theorem dX4_tellWays_44 : decode cX4_tellWays 44 = .ok (.iload_n 2, 1) := by decide +kernel
theorem dX4_tellWays_45 : decode cX4_tellWays 45 = .ok (.ishl, 1) := by decide +kernel
theorem dX4_tellWays_46 : decode cX4_tellWays 46 = .ok (.imul, 1) := by decide +kernel
theorem dX4_tellWays_47 : decode cX4_tellWays 47 = .ok (.iload_n 2, 1) := by decide +kernel
theorem dX4_tellWays_48 : decode cX4_tellWays 48 = .ok (.iadd, 1) := by decide +kernel
theorem dX4_tellWays_49 : decode cX4_tellWays 49 = .ok (.iload_n 1, 1) := by decide +kernel
theorem dX4_tellWays_50 : decode cX4_tellWays 50 = .ok (.iload_n 2, 1) := by decide +kernel
theorem dX4_tellWays_51 : decode cX4_tellWays 51 = .ok (.invokestatic 123, 3) := by decide +kernel
theorem dX4_tellWays_54 : decode cX4_tellWays 54 = .ok (.ifCond .eq 17, 3) := by decide +kernel
theorem dX4_tellWays_57 : decode cX4_tellWays 57 = .ok (.aload_n 0, 1) := by decide +kernel
theorem dX4_tellWays_58 : decode cX4_tellWays 58 = .ok (.bipush 7, 2) := by decide +kernel
theorem dX4_tellWays_60 : decode cX4_tellWays 60 = .ok (.iload_n 2, 1) := by decide +kernel
theorem dX4_tellWays_61 : decode cX4_tellWays 61 = .ok (.invokevirtual 172, 3) := by decide +kernel
theorem dX4_tellWays_64 : decode cX4_tellWays 64 = .ok (.ifCond .eq 7, 3) := by decide +kernel
theorem dX4_tellWays_67 : decode cX4_tellWays 67 = .ok (.iconst 1, 1) := by decide +kernel
theorem dX4_tellWays_68 : decode cX4_tellWays 68 = .ok (.goto 4, 3) := by decide +kernel
theorem dX4_tellWays_71 : decode cX4_tellWays 71 = .ok (.iconst 0, 1) := by decide +kernel
theorem dX4_tellWays_72 : decode cX4_tellWays 72 = .ok (.iastore, 1) := by decide +kernel
theorem dX4_tellWays_73 : decode cX4_tellWays 73 = .ok (.iinc 2 1, 3) := by decide +kernel
theorem dX4_tellWays_76 : decode cX4_tellWays 76 = .ok (.goto (-47), 3) := by decide +kernel
theorem dX4_tellWays_79 : decode cX4_tellWays 79 = .ok (.iconst 1, 1) := by decide +kernel
theorem dX4_tellWays_80 : decode cX4_tellWays 80 = .ok (.istore_n 2, 1) := by decide +kernel
theorem dX4_tellWays_81 : decode cX4_tellWays 81 = .ok (.iload_n 2, 1) := by decide +kernel
theorem dX4_tellWays_82 : decode cX4_tellWays 82 = .ok (.iconst 1, 1) := by decide +kernel
theorem dX4_tellWays_83 : decode cX4_tellWays 83 = .ok (.aload_n 0, 1) := by decide +kernel
theorem dX4_tellWays_84 : decode cX4_tellWays 84 = .ok (.getfield 104, 3) := by decide +kernel
theorem dX4_tellWays_87 : decode cX4_tellWays 87 = .ok (.ishl, 1) := by decide +kernel
theorem dX4_tellWays_88 : decode cX4_tellWays 88 = .ok (.if_icmp .ge 111, 3) := by decide +kernel
theorem dX4_tellWays_91 : decode cX4_tellWays 91 = .ok (.iconst 0, 1) := by decide +kernel
theorem dX4_tellWays_92 : decode cX4_tellWays 92 = .ok (.istore_n 3, 1) := by decide +kernel
theorem dX4_tellWays_93 : decode cX4_tellWays 93 = .ok (.iload_n 3, 1) := by decide +kernel
theorem dX4_tellWays_94 : decode cX4_tellWays 94 = .ok (.aload_n 0, 1) := by decide +kernel
theorem dX4_tellWays_95 : decode cX4_tellWays 95 = .ok (.getfield 104, 3) := by decide +kernel
theorem dX4_tellWays_98 : decode cX4_tellWays 98 = .ok (.if_icmp .ge 95, 3) := by decide +kernel
theorem dX4_tellWays_101 : decode cX4_tellWays 101 = .ok (.aload_n 0, 1) := by decide +kernel
theorem dX4_tellWays_102 : decode cX4_tellWays 102 = .ok (.getfield 54, 3) := by decide +kernel
theorem dX4_tellWays_105 : decode cX4_tellWays 105 = .ok (.bipush 7, 2) := by decide +kernel
theorem dX4_tellWays_107 : decode cX4_tellWays 107 = .ok (.iload_n 2, 1) := by decide +kernel
theorem dX4_tellWays_108 : decode cX4_tellWays 108 = .ok (.imul, 1) := by decide +kernel
theorem dX4_tellWays_109 : decode cX4_tellWays 109 = .ok (.iload_n 3, 1) := by decide +kernel
theorem dX4_tellWays_110 : decode cX4_tellWays 110 = .ok (.iadd, 1) := by decide +kernel
theorem dX4_tellWays_111 : decode cX4_tellWays 111 = .ok (.iaload, 1) := by decide +kernel
theorem dX4_tellWays_112 : decode cX4_tellWays 112 = .ok (.istore 4, 2) := by decide +kernel
theorem dX4_tellWays_114 : decode cX4_tellWays 114 = .ok (.iconst 0, 1) := by decide +kernel
theorem dX4_tellWays_115 : decode cX4_tellWays 115 = .ok (.istore 5, 2) := by decide +kernel
theorem dX4_tellWays_117 : decode cX4_tellWays 117 = .ok (.iload 5, 2) := by decide +kernel
theorem dX4_tellWays_119 : decode cX4_tellWays 119 = .ok (.aload_n 0, 1) := by decide +kernel
theorem dX4_tellWays_120 : decode cX4_tellWays 120 = .ok (.getfield 104, 3) := by decide +kernel
theorem dX4_tellWays_123 : decode cX4_tellWays 123 = .ok (.if_icmp .ge 64, 3) := by decide +kernel
theorem dX4_tellWays_126 : decode cX4_tellWays 126 = .ok (.iload 4, 2) := by decide +kernel
theorem dX4_tellWays_128 : decode cX4_tellWays 128 = .ok (.ifCond .le 59, 3) := by decide +kernel
theorem dX4_tellWays_131 : decode cX4_tellWays 131 = .ok (.iload_n 1, 1) := by decide +kernel
theorem dX4_tellWays_132 : decode cX4_tellWays 132 = .ok (.iload 5, 2) := by decide +kernel
theorem dX4_tellWays_134 : decode cX4_tellWays 134 = .ok (.invokestatic 123, 3) := by decide +kernel
theorem dX4_tellWays_137 : decode cX4_tellWays 137 = .ok (.ifCond .eq 44, 3) := by decide +kernel
theorem dX4_tellWays_140 : decode cX4_tellWays 140 = .ok (.iload_n 2, 1) := by decide +kernel
theorem dX4_tellWays_141 : decode cX4_tellWays 141 = .ok (.iload 5, 2) := by decide +kernel
theorem dX4_tellWays_143 : decode cX4_tellWays 143 = .ok (.invokestatic 123, 3) := by decide +kernel
theorem dX4_tellWays_146 : decode cX4_tellWays 146 = .ok (.ifCond .ne 35, 3) := by decide +kernel
theorem dX4_tellWays_149 : decode cX4_tellWays 149 = .ok (.aload_n 0, 1) := by decide +kernel
theorem dX4_tellWays_150 : decode cX4_tellWays 150 = .ok (.iload_n 3, 1) := by decide +kernel
theorem dX4_tellWays_151 : decode cX4_tellWays 151 = .ok (.iload 5, 2) := by decide +kernel
theorem dX4_tellWays_153 : decode cX4_tellWays 153 = .ok (.invokevirtual 172, 3) := by decide +kernel
theorem dX4_tellWays_156 : decode cX4_tellWays 156 = .ok (.ifCond .eq 25, 3) := by decide +kernel
theorem dX4_tellWays_159 : decode cX4_tellWays 159 = .ok (.aload_n 0, 1) := by decide +kernel
theorem dX4_tellWays_160 : decode cX4_tellWays 160 = .ok (.getfield 54, 3) := by decide +kernel
theorem dX4_tellWays_163 : decode cX4_tellWays 163 = .ok (.bipush 7, 2) := by decide +kernel
theorem dX4_tellWays_165 : decode cX4_tellWays 165 = .ok (.iload_n 2, 1) := by decide +kernel
theorem dX4_tellWays_166 : decode cX4_tellWays 166 = .ok (.iconst 1, 1) := by decide +kernel
theorem dX4_tellWays_167 : decode cX4_tellWays 167 = .ok (.iload 5, 2) := by decide +kernel
theorem dX4_tellWays_169 : decode cX4_tellWays 169 = .ok (.ishl, 1) := by decide +kernel
theorem dX4_tellWays_170 : decode cX4_tellWays 170 = .ok (.ior, 1) := by decide +kernel
theorem dX4_tellWays_171 : decode cX4_tellWays 171 = .ok (.imul, 1) := by decide +kernel
theorem dX4_tellWays_172 : decode cX4_tellWays 172 = .ok (.iload 5, 2) := by decide +kernel
theorem dX4_tellWays_174 : decode cX4_tellWays 174 = .ok (.iadd, 1) := by decide +kernel
theorem dX4_tellWays_175 : decode cX4_tellWays 175 = .ok (.dup2, 1) := by decide +kernel
theorem dX4_tellWays_176 : decode cX4_tellWays 176 = .ok (.iaload, 1) := by decide +kernel
theorem dX4_tellWays_177 : decode cX4_tellWays 177 = .ok (.iload 4, 2) := by decide +kernel
theorem dX4_tellWays_179 : decode cX4_tellWays 179 = .ok (.iadd, 1) := by decide +kernel
theorem dX4_tellWays_180 : decode cX4_tellWays 180 = .ok (.iastore, 1) := by decide +kernel
theorem dX4_tellWays_181 : decode cX4_tellWays 181 = .ok (.iinc 5 1, 3) := by decide +kernel
theorem dX4_tellWays_184 : decode cX4_tellWays 184 = .ok (.goto (-67), 3) := by decide +kernel
theorem dX4_tellWays_187 : decode cX4_tellWays 187 = .ok (.iinc 3 1, 3) := by decide +kernel
theorem dX4_tellWays_190 : decode cX4_tellWays 190 = .ok (.goto (-97), 3) := by decide +kernel
theorem dX4_tellWays_193 : decode cX4_tellWays 193 = .ok (.iinc 2 1, 3) := by decide +kernel
theorem dX4_tellWays_196 : decode cX4_tellWays 196 = .ok (.goto (-115), 3) := by decide +kernel
theorem dX4_tellWays_199 : decode cX4_tellWays 199 = .ok (.return_, 1) := by decide +kernel
theorem dX4_ordersOf_0 : decode cX4_ordersOf 0 = .ok (.iload_n 1, 1) := by decide +kernel
theorem dX4_ordersOf_1 : decode cX4_ordersOf 1 = .ok (.ifCond .ne 7, 3) := by decide +kernel
theorem dX4_ordersOf_4 : decode cX4_ordersOf 4 = .ok (.iconst 1, 1) := by decide +kernel
theorem dX4_ordersOf_5 : decode cX4_ordersOf 5 = .ok (.goto 4, 3) := by decide +kernel
theorem dX4_ordersOf_8 : decode cX4_ordersOf 8 = .ok (.iconst 0, 1) := by decide +kernel
theorem dX4_ordersOf_9 : decode cX4_ordersOf 9 = .ok (.istore_n 2, 1) := by decide +kernel
theorem dX4_ordersOf_10 : decode cX4_ordersOf 10 = .ok (.iconst 0, 1) := by decide +kernel
theorem dX4_ordersOf_11 : decode cX4_ordersOf 11 = .ok (.istore_n 3, 1) := by decide +kernel
theorem dX4_ordersOf_12 : decode cX4_ordersOf 12 = .ok (.iload_n 3, 1) := by decide +kernel
theorem dX4_ordersOf_13 : decode cX4_ordersOf 13 = .ok (.aload_n 0, 1) := by decide +kernel
theorem dX4_ordersOf_14 : decode cX4_ordersOf 14 = .ok (.getfield 104, 3) := by decide +kernel
theorem dX4_ordersOf_17 : decode cX4_ordersOf 17 = .ok (.if_icmp .ge 23, 3) := by decide +kernel
theorem dX4_ordersOf_20 : decode cX4_ordersOf 20 = .ok (.iload_n 2, 1) := by decide +kernel
theorem dX4_ordersOf_21 : decode cX4_ordersOf 21 = .ok (.aload_n 0, 1) := by decide +kernel
theorem dX4_ordersOf_22 : decode cX4_ordersOf 22 = .ok (.getfield 54, 3) := by decide +kernel
theorem dX4_ordersOf_25 : decode cX4_ordersOf 25 = .ok (.bipush 7, 2) := by decide +kernel
theorem dX4_ordersOf_27 : decode cX4_ordersOf 27 = .ok (.iload_n 1, 1) := by decide +kernel
theorem dX4_ordersOf_28 : decode cX4_ordersOf 28 = .ok (.imul, 1) := by decide +kernel
theorem dX4_ordersOf_29 : decode cX4_ordersOf 29 = .ok (.iload_n 3, 1) := by decide +kernel
theorem dX4_ordersOf_30 : decode cX4_ordersOf 30 = .ok (.iadd, 1) := by decide +kernel
theorem dX4_ordersOf_31 : decode cX4_ordersOf 31 = .ok (.iaload, 1) := by decide +kernel
theorem dX4_ordersOf_32 : decode cX4_ordersOf 32 = .ok (.iadd, 1) := by decide +kernel
theorem dX4_ordersOf_33 : decode cX4_ordersOf 33 = .ok (.istore_n 2, 1) := by decide +kernel
theorem dX4_ordersOf_34 : decode cX4_ordersOf 34 = .ok (.iinc 3 1, 3) := by decide +kernel
theorem dX4_ordersOf_37 : decode cX4_ordersOf 37 = .ok (.goto (-25), 3) := by decide +kernel
theorem dX4_ordersOf_40 : decode cX4_ordersOf 40 = .ok (.iload_n 2, 1) := by decide +kernel
theorem dX4_ordersOf_41 : decode cX4_ordersOf 41 = .ok (.ireturn, 1) := by decide +kernel
theorem dX4_mostOf_0 : decode cX4_mostOf 0 = .ok (.iconst 0, 1) := by decide +kernel
theorem dX4_mostOf_1 : decode cX4_mostOf 1 = .ok (.istore_n 2, 1) := by decide +kernel
theorem dX4_mostOf_2 : decode cX4_mostOf 2 = .ok (.iconst 0, 1) := by decide +kernel
theorem dX4_mostOf_3 : decode cX4_mostOf 3 = .ok (.istore_n 3, 1) := by decide +kernel
theorem dX4_mostOf_4 : decode cX4_mostOf 4 = .ok (.iload_n 3, 1) := by decide +kernel
theorem dX4_mostOf_5 : decode cX4_mostOf 5 = .ok (.iconst 1, 1) := by decide +kernel
theorem dX4_mostOf_6 : decode cX4_mostOf 6 = .ok (.aload_n 0, 1) := by decide +kernel
theorem dX4_mostOf_7 : decode cX4_mostOf 7 = .ok (.getfield 104, 3) := by decide +kernel
theorem dX4_mostOf_10 : decode cX4_mostOf 10 = .ok (.ishl, 1) := by decide +kernel
theorem dX4_mostOf_11 : decode cX4_mostOf 11 = .ok (.if_icmp .ge 54, 3) := by decide +kernel
theorem dX4_mostOf_14 : decode cX4_mostOf 14 = .ok (.iload_n 3, 1) := by decide +kernel
theorem dX4_mostOf_15 : decode cX4_mostOf 15 = .ok (.iload_n 1, 1) := by decide +kernel
theorem dX4_mostOf_16 : decode cX4_mostOf 16 = .ok (.iconst (-1), 1) := by decide +kernel
theorem dX4_mostOf_17 : decode cX4_mostOf 17 = .ok (.ixor, 1) := by decide +kernel
theorem dX4_mostOf_18 : decode cX4_mostOf 18 = .ok (.iand, 1) := by decide +kernel
theorem dX4_mostOf_19 : decode cX4_mostOf 19 = .ok (.ifCond .ne 23, 3) := by decide +kernel
theorem dX4_mostOf_22 : decode cX4_mostOf 22 = .ok (.aload_n 0, 1) := by decide +kernel
theorem dX4_mostOf_23 : decode cX4_mostOf 23 = .ok (.iload_n 3, 1) := by decide +kernel
theorem dX4_mostOf_24 : decode cX4_mostOf 24 = .ok (.invokevirtual 175, 3) := by decide +kernel
theorem dX4_mostOf_27 : decode cX4_mostOf 27 = .ok (.ifCond .le 15, 3) := by decide +kernel
theorem dX4_mostOf_30 : decode cX4_mostOf 30 = .ok (.iload_n 3, 1) := by decide +kernel
theorem dX4_mostOf_31 : decode cX4_mostOf 31 = .ok (.invokestatic 153, 3) := by decide +kernel
theorem dX4_mostOf_34 : decode cX4_mostOf 34 = .ok (.iload_n 2, 1) := by decide +kernel
theorem dX4_mostOf_35 : decode cX4_mostOf 35 = .ok (.if_icmp .le 7, 3) := by decide +kernel
theorem dX4_mostOf_38 : decode cX4_mostOf 38 = .ok (.iconst 1, 1) := by decide +kernel
theorem dX4_mostOf_39 : decode cX4_mostOf 39 = .ok (.goto 4, 3) := by decide +kernel
theorem dX4_mostOf_42 : decode cX4_mostOf 42 = .ok (.iconst 0, 1) := by decide +kernel
theorem dX4_mostOf_43 : decode cX4_mostOf 43 = .ok (.istore 4, 2) := by decide +kernel
theorem dX4_mostOf_45 : decode cX4_mostOf 45 = .ok (.iload 4, 2) := by decide +kernel
theorem dX4_mostOf_47 : decode cX4_mostOf 47 = .ok (.ifCond .eq 10, 3) := by decide +kernel
theorem dX4_mostOf_50 : decode cX4_mostOf 50 = .ok (.iload_n 3, 1) := by decide +kernel
theorem dX4_mostOf_51 : decode cX4_mostOf 51 = .ok (.invokestatic 153, 3) := by decide +kernel
theorem dX4_mostOf_54 : decode cX4_mostOf 54 = .ok (.goto 4, 3) := by decide +kernel
theorem dX4_mostOf_57 : decode cX4_mostOf 57 = .ok (.iload_n 2, 1) := by decide +kernel
theorem dX4_mostOf_58 : decode cX4_mostOf 58 = .ok (.istore_n 2, 1) := by decide +kernel
theorem dX4_mostOf_59 : decode cX4_mostOf 59 = .ok (.iinc 3 1, 3) := by decide +kernel
theorem dX4_mostOf_62 : decode cX4_mostOf 62 = .ok (.goto (-58), 3) := by decide +kernel
theorem dX4_mostOf_65 : decode cX4_mostOf 65 = .ok (.iload_n 2, 1) := by decide +kernel
theorem dX4_mostOf_66 : decode cX4_mostOf 66 = .ok (.ireturn, 1) := by decide +kernel
theorem dX4_tellMore_0 : decode cX4_tellMore 0 = .ok (.aload_n 0, 1) := by decide +kernel
theorem dX4_tellMore_1 : decode cX4_tellMore 1 = .ok (.invokevirtual 149, 3) := by decide +kernel
theorem dX4_tellMore_4 : decode cX4_tellMore 4 = .ok (.istore_n 1, 1) := by decide +kernel
theorem dX4_tellMore_5 : decode cX4_tellMore 5 = .ok (.iconst 1, 1) := by decide +kernel
theorem dX4_tellMore_6 : decode cX4_tellMore 6 = .ok (.aload_n 0, 1) := by decide +kernel
theorem dX4_tellMore_7 : decode cX4_tellMore 7 = .ok (.getfield 104, 3) := by decide +kernel
theorem dX4_tellMore_10 : decode cX4_tellMore 10 = .ok (.ishl, 1) := by decide +kernel
theorem dX4_tellMore_11 : decode cX4_tellMore 11 = .ok (.iconst 1, 1) := by decide +kernel
theorem dX4_tellMore_12 : decode cX4_tellMore 12 = .ok (.isub, 1) := by decide +kernel
theorem dX4_tellMore_13 : decode cX4_tellMore 13 = .ok (.istore_n 2, 1) := by decide +kernel
theorem dX4_tellMore_14 : decode cX4_tellMore 14 = .ok (.iload_n 2, 1) := by decide +kernel
theorem dX4_tellMore_15 : decode cX4_tellMore 15 = .ok (.ifCond .lt 122, 3) := by decide +kernel
theorem dX4_tellMore_18 : decode cX4_tellMore 18 = .ok (.iconst 0, 1) := by decide +kernel
theorem dX4_tellMore_19 : decode cX4_tellMore 19 = .ok (.istore_n 3, 1) := by decide +kernel
theorem dX4_tellMore_20 : decode cX4_tellMore 20 = .ok (.iload_n 3, 1) := by decide +kernel
theorem dX4_tellMore_21 : decode cX4_tellMore 21 = .ok (.bipush 7, 2) := by decide +kernel
theorem dX4_tellMore_23 : decode cX4_tellMore 23 = .ok (.if_icmp .gt 108, 3) := by decide +kernel
theorem dX4_tellMore_26 : decode cX4_tellMore 26 = .ok (.iconst 0, 1) := by decide +kernel
theorem dX4_tellMore_27 : decode cX4_tellMore 27 = .ok (.istore 4, 2) := by decide +kernel
theorem dX4_tellMore_29 : decode cX4_tellMore 29 = .ok (.iconst 0, 1) := by decide +kernel
theorem dX4_tellMore_30 : decode cX4_tellMore 30 = .ok (.istore 5, 2) := by decide +kernel
theorem dX4_tellMore_32 : decode cX4_tellMore 32 = .ok (.iload 5, 2) := by decide +kernel
theorem dX4_tellMore_34 : decode cX4_tellMore 34 = .ok (.aload_n 0, 1) := by decide +kernel
theorem dX4_tellMore_35 : decode cX4_tellMore 35 = .ok (.getfield 104, 3) := by decide +kernel
theorem dX4_tellMore_38 : decode cX4_tellMore 38 = .ok (.if_icmp .ge 74, 3) := by decide +kernel
theorem dX4_tellMore_41 : decode cX4_tellMore 41 = .ok (.iload_n 1, 1) := by decide +kernel
theorem dX4_tellMore_42 : decode cX4_tellMore 42 = .ok (.iload 5, 2) := by decide +kernel
theorem dX4_tellMore_44 : decode cX4_tellMore 44 = .ok (.invokestatic 123, 3) := by decide +kernel
theorem dX4_tellMore_47 : decode cX4_tellMore 47 = .ok (.ifCond .eq 59, 3) := by decide +kernel
theorem dX4_tellMore_50 : decode cX4_tellMore 50 = .ok (.iload_n 2, 1) := by decide +kernel
theorem dX4_tellMore_51 : decode cX4_tellMore 51 = .ok (.iload 5, 2) := by decide +kernel
theorem dX4_tellMore_53 : decode cX4_tellMore 53 = .ok (.invokestatic 123, 3) := by decide +kernel
theorem dX4_tellMore_56 : decode cX4_tellMore 56 = .ok (.ifCond .ne 50, 3) := by decide +kernel
theorem dX4_tellMore_59 : decode cX4_tellMore 59 = .ok (.aload_n 0, 1) := by decide +kernel
theorem dX4_tellMore_60 : decode cX4_tellMore 60 = .ok (.iload_n 3, 1) := by decide +kernel
theorem dX4_tellMore_61 : decode cX4_tellMore 61 = .ok (.iload 5, 2) := by decide +kernel
theorem dX4_tellMore_63 : decode cX4_tellMore 63 = .ok (.invokevirtual 172, 3) := by decide +kernel
theorem dX4_tellMore_66 : decode cX4_tellMore 66 = .ok (.ifCond .eq 40, 3) := by decide +kernel
theorem dX4_tellMore_69 : decode cX4_tellMore 69 = .ok (.iconst 1, 1) := by decide +kernel
theorem dX4_tellMore_70 : decode cX4_tellMore 70 = .ok (.aload_n 0, 1) := by decide +kernel
theorem dX4_tellMore_71 : decode cX4_tellMore 71 = .ok (.getfield 57, 3) := by decide +kernel
theorem dX4_tellMore_74 : decode cX4_tellMore 74 = .ok (.bipush 8, 2) := by decide +kernel
theorem dX4_tellMore_76 : decode cX4_tellMore 76 = .ok (.iload_n 2, 1) := by decide +kernel
theorem dX4_tellMore_77 : decode cX4_tellMore 77 = .ok (.iconst 1, 1) := by decide +kernel
theorem dX4_tellMore_78 : decode cX4_tellMore 78 = .ok (.iload 5, 2) := by decide +kernel
theorem dX4_tellMore_80 : decode cX4_tellMore 80 = .ok (.ishl, 1) := by decide +kernel
theorem dX4_tellMore_81 : decode cX4_tellMore 81 = .ok (.ior, 1) := by decide +kernel
theorem dX4_tellMore_82 : decode cX4_tellMore 82 = .ok (.imul, 1) := by decide +kernel
theorem dX4_tellMore_83 : decode cX4_tellMore 83 = .ok (.iload 5, 2) := by decide +kernel
theorem dX4_tellMore_85 : decode cX4_tellMore 85 = .ok (.iadd, 1) := by decide +kernel
theorem dX4_tellMore_86 : decode cX4_tellMore 86 = .ok (.iaload, 1) := by decide +kernel
theorem dX4_tellMore_87 : decode cX4_tellMore 87 = .ok (.iadd, 1) := by decide +kernel
theorem dX4_tellMore_88 : decode cX4_tellMore 88 = .ok (.istore 6, 2) := by decide +kernel
theorem dX4_tellMore_90 : decode cX4_tellMore 90 = .ok (.iload 6, 2) := by decide +kernel
theorem dX4_tellMore_92 : decode cX4_tellMore 92 = .ok (.iload 4, 2) := by decide +kernel
theorem dX4_tellMore_94 : decode cX4_tellMore 94 = .ok (.if_icmp .le 8, 3) := by decide +kernel
theorem dX4_tellMore_97 : decode cX4_tellMore 97 = .ok (.iload 6, 2) := by decide +kernel
theorem dX4_tellMore_99 : decode cX4_tellMore 99 = .ok (.goto 5, 3) := by decide +kernel
theorem dX4_tellMore_102 : decode cX4_tellMore 102 = .ok (.iload 4, 2) := by decide +kernel
theorem dX4_tellMore_104 : decode cX4_tellMore 104 = .ok (.istore 4, 2) := by decide +kernel
theorem dX4_tellMore_106 : decode cX4_tellMore 106 = .ok (.iinc 5 1, 3) := by decide +kernel
theorem dX4_tellMore_109 : decode cX4_tellMore 109 = .ok (.goto (-77), 3) := by decide +kernel
theorem dX4_tellMore_112 : decode cX4_tellMore 112 = .ok (.aload_n 0, 1) := by decide +kernel
theorem dX4_tellMore_113 : decode cX4_tellMore 113 = .ok (.getfield 57, 3) := by decide +kernel
theorem dX4_tellMore_116 : decode cX4_tellMore 116 = .ok (.bipush 8, 2) := by decide +kernel
theorem dX4_tellMore_118 : decode cX4_tellMore 118 = .ok (.iload_n 2, 1) := by decide +kernel
theorem dX4_tellMore_119 : decode cX4_tellMore 119 = .ok (.imul, 1) := by decide +kernel
theorem dX4_tellMore_120 : decode cX4_tellMore 120 = .ok (.iload_n 3, 1) := by decide +kernel
theorem dX4_tellMore_121 : decode cX4_tellMore 121 = .ok (.iadd, 1) := by decide +kernel
theorem dX4_tellMore_122 : decode cX4_tellMore 122 = .ok (.iload 4, 2) := by decide +kernel
theorem dX4_tellMore_124 : decode cX4_tellMore 124 = .ok (.iastore, 1) := by decide +kernel
theorem dX4_tellMore_125 : decode cX4_tellMore 125 = .ok (.iinc 3 1, 3) := by decide +kernel
theorem dX4_tellMore_128 : decode cX4_tellMore 128 = .ok (.goto (-108), 3) := by decide +kernel
theorem dX4_tellMore_131 : decode cX4_tellMore 131 = .ok (.iinc 2 (-1), 3) := by decide +kernel
theorem dX4_tellMore_134 : decode cX4_tellMore 134 = .ok (.goto (-120), 3) := by decide +kernel
theorem dX4_tellMore_137 : decode cX4_tellMore 137 = .ok (.return_, 1) := by decide +kernel
theorem dX4_open_0 : decode cX4_open 0 = .ok (.iconst 0, 1) := by decide +kernel
theorem dX4_open_1 : decode cX4_open 1 = .ok (.istore_n 1, 1) := by decide +kernel
theorem dX4_open_2 : decode cX4_open 2 = .ok (.iconst 0, 1) := by decide +kernel
theorem dX4_open_3 : decode cX4_open 3 = .ok (.istore_n 2, 1) := by decide +kernel
theorem dX4_open_4 : decode cX4_open 4 = .ok (.iload_n 2, 1) := by decide +kernel
theorem dX4_open_5 : decode cX4_open 5 = .ok (.aload_n 0, 1) := by decide +kernel
theorem dX4_open_6 : decode cX4_open 6 = .ok (.getfield 104, 3) := by decide +kernel
theorem dX4_open_9 : decode cX4_open 9 = .ok (.if_icmp .ge 45, 3) := by decide +kernel
theorem dX4_open_12 : decode cX4_open 12 = .ok (.iload_n 1, 1) := by decide +kernel
theorem dX4_open_13 : decode cX4_open 13 = .ok (.aload_n 0, 1) := by decide +kernel
theorem dX4_open_14 : decode cX4_open 14 = .ok (.bipush 8, 2) := by decide +kernel
theorem dX4_open_16 : decode cX4_open 16 = .ok (.invokevirtual 110, 3) := by decide +kernel
theorem dX4_open_19 : decode cX4_open 19 = .ok (.bipush (-9), 2) := by decide +kernel
theorem dX4_open_21 : decode cX4_open 21 = .ok (.if_icmp .eq 20, 3) := by decide +kernel
theorem dX4_open_24 : decode cX4_open 24 = .ok (.aload_n 0, 1) := by decide +kernel
theorem dX4_open_25 : decode cX4_open 25 = .ok (.iload_n 2, 1) := by decide +kernel
theorem dX4_open_26 : decode cX4_open 26 = .ok (.invokevirtual 134, 3) := by decide +kernel
theorem dX4_open_29 : decode cX4_open 29 = .ok (.aload_n 0, 1) := by decide +kernel
theorem dX4_open_30 : decode cX4_open 30 = .ok (.bipush 8, 2) := by decide +kernel
theorem dX4_open_32 : decode cX4_open 32 = .ok (.invokevirtual 110, 3) := by decide +kernel
theorem dX4_open_35 : decode cX4_open 35 = .ok (.invokestatic 123, 3) := by decide +kernel
theorem dX4_open_38 : decode cX4_open 38 = .ok (.ifCond .eq 7, 3) := by decide +kernel
theorem dX4_open_41 : decode cX4_open 41 = .ok (.iconst 1, 1) := by decide +kernel
theorem dX4_open_42 : decode cX4_open 42 = .ok (.goto 4, 3) := by decide +kernel
theorem dX4_open_45 : decode cX4_open 45 = .ok (.iconst 0, 1) := by decide +kernel
theorem dX4_open_46 : decode cX4_open 46 = .ok (.iadd, 1) := by decide +kernel
theorem dX4_open_47 : decode cX4_open 47 = .ok (.istore_n 1, 1) := by decide +kernel
theorem dX4_open_48 : decode cX4_open 48 = .ok (.iinc 2 1, 3) := by decide +kernel
theorem dX4_open_51 : decode cX4_open 51 = .ok (.goto (-47), 3) := by decide +kernel
theorem dX4_open_54 : decode cX4_open 54 = .ok (.aload_n 0, 1) := by decide +kernel
theorem dX4_open_55 : decode cX4_open 55 = .ok (.iload_n 1, 1) := by decide +kernel
theorem dX4_open_56 : decode cX4_open 56 = .ok (.invokevirtual 89, 3) := by decide +kernel
theorem dX4_open_59 : decode cX4_open 59 = .ok (.pop, 1) := by decide +kernel
theorem dX4_open_60 : decode cX4_open 60 = .ok (.aload_n 0, 1) := by decide +kernel
theorem dX4_open_61 : decode cX4_open 61 = .ok (.invokevirtual 178, 3) := by decide +kernel
theorem dX4_open_64 : decode cX4_open 64 = .ok (.ireturn, 1) := by decide +kernel
theorem dX4_most_0 : decode cX4_most 0 = .ok (.iload_n 1, 1) := by decide +kernel
theorem dX4_most_1 : decode cX4_most 1 = .ok (.invokestatic 81, 3) := by decide +kernel
theorem dX4_most_4 : decode cX4_most 4 = .ok (.ifCond .ne 5, 3) := by decide +kernel
theorem dX4_most_7 : decode cX4_most 7 = .ok (.iconst (-1), 1) := by decide +kernel
theorem dX4_most_8 : decode cX4_most 8 = .ok (.ireturn, 1) := by decide +kernel
theorem dX4_most_9 : decode cX4_most 9 = .ok (.aload_n 0, 1) := by decide +kernel
theorem dX4_most_10 : decode cX4_most 10 = .ok (.getfield 104, 3) := by decide +kernel
theorem dX4_most_13 : decode cX4_most 13 = .ok (.ifCond .ne 6, 3) := by decide +kernel
theorem dX4_most_16 : decode cX4_most 16 = .ok (.bipush (-4), 2) := by decide +kernel
theorem dX4_most_18 : decode cX4_most 18 = .ok (.ireturn, 1) := by decide +kernel
theorem dX4_most_19 : decode cX4_most 19 = .ok (.aload_n 0, 1) := by decide +kernel
theorem dX4_most_20 : decode cX4_most 20 = .ok (.invokevirtual 181, 3) := by decide +kernel
theorem dX4_most_23 : decode cX4_most 23 = .ok (.aload_n 0, 1) := by decide +kernel
theorem dX4_most_24 : decode cX4_most 24 = .ok (.invokevirtual 184, 3) := by decide +kernel
theorem dX4_most_27 : decode cX4_most 27 = .ok (.aload_n 0, 1) := by decide +kernel
theorem dX4_most_28 : decode cX4_most 28 = .ok (.getfield 57, 3) := by decide +kernel
theorem dX4_most_31 : decode cX4_most 31 = .ok (.bipush 7, 2) := by decide +kernel
theorem dX4_most_33 : decode cX4_most 33 = .ok (.iaload, 1) := by decide +kernel
theorem dX4_most_34 : decode cX4_most 34 = .ok (.istore_n 2, 1) := by decide +kernel
theorem dX4_most_35 : decode cX4_most 35 = .ok (.aload_n 0, 1) := by decide +kernel
theorem dX4_most_36 : decode cX4_most 36 = .ok (.iload_n 1, 1) := by decide +kernel
theorem dX4_most_37 : decode cX4_most 37 = .ok (.iload_n 2, 1) := by decide +kernel
theorem dX4_most_38 : decode cX4_most 38 = .ok (.invokevirtual 187, 3) := by decide +kernel
theorem dX4_most_41 : decode cX4_most 41 = .ok (.pop, 1) := by decide +kernel
theorem dX4_most_42 : decode cX4_most 42 = .ok (.iconst 0, 1) := by decide +kernel
theorem dX4_most_43 : decode cX4_most 43 = .ok (.istore_n 3, 1) := by decide +kernel
theorem dX4_most_44 : decode cX4_most 44 = .ok (.bipush 7, 2) := by decide +kernel
theorem dX4_most_46 : decode cX4_most 46 = .ok (.istore 4, 2) := by decide +kernel
theorem dX4_most_48 : decode cX4_most 48 = .ok (.iconst 0, 1) := by decide +kernel
theorem dX4_most_49 : decode cX4_most 49 = .ok (.istore 5, 2) := by decide +kernel
theorem dX4_most_51 : decode cX4_most 51 = .ok (.iload 5, 2) := by decide +kernel
theorem dX4_most_53 : decode cX4_most 53 = .ok (.iload_n 2, 1) := by decide +kernel
theorem dX4_most_54 : decode cX4_most 54 = .ok (.if_icmp .ge 136, 3) := by decide +kernel
theorem dX4_most_57 : decode cX4_most 57 = .ok (.bipush (-9), 2) := by decide +kernel
theorem dX4_most_59 : decode cX4_most 59 = .ok (.istore 6, 2) := by decide +kernel
theorem dX4_most_61 : decode cX4_most 61 = .ok (.aload_n 0, 1) := by decide +kernel
theorem dX4_most_62 : decode cX4_most 62 = .ok (.getfield 104, 3) := by decide +kernel
theorem dX4_most_65 : decode cX4_most 65 = .ok (.iconst 1, 1) := by decide +kernel
theorem dX4_most_66 : decode cX4_most 66 = .ok (.isub, 1) := by decide +kernel
theorem dX4_most_67 : decode cX4_most 67 = .ok (.istore 7, 2) := by decide +kernel
theorem dX4_most_69 : decode cX4_most 69 = .ok (.iload 7, 2) := by decide +kernel
theorem dX4_most_71 : decode cX4_most 71 = .ok (.ifCond .lt 88, 3) := by decide +kernel
theorem dX4_most_74 : decode cX4_most 74 = .ok (.aload_n 0, 1) := by decide +kernel
theorem dX4_most_75 : decode cX4_most 75 = .ok (.invokevirtual 149, 3) := by decide +kernel
theorem dX4_most_78 : decode cX4_most 78 = .ok (.iload 7, 2) := by decide +kernel
theorem dX4_most_80 : decode cX4_most 80 = .ok (.invokestatic 123, 3) := by decide +kernel
theorem dX4_most_83 : decode cX4_most 83 = .ok (.ifCond .eq 27, 3) := by decide +kernel
theorem dX4_most_86 : decode cX4_most 86 = .ok (.iload_n 3, 1) := by decide +kernel
theorem dX4_most_87 : decode cX4_most 87 = .ok (.iload 7, 2) := by decide +kernel
theorem dX4_most_89 : decode cX4_most 89 = .ok (.invokestatic 123, 3) := by decide +kernel
theorem dX4_most_92 : decode cX4_most 92 = .ok (.ifCond .ne 18, 3) := by decide +kernel
theorem dX4_most_95 : decode cX4_most 95 = .ok (.aload_n 0, 1) := by decide +kernel
theorem dX4_most_96 : decode cX4_most 96 = .ok (.iload 4, 2) := by decide +kernel
theorem dX4_most_98 : decode cX4_most 98 = .ok (.iload 7, 2) := by decide +kernel
theorem dX4_most_100 : decode cX4_most 100 = .ok (.invokevirtual 172, 3) := by decide +kernel
theorem dX4_most_103 : decode cX4_most 103 = .ok (.ifCond .eq 7, 3) := by decide +kernel
theorem dX4_most_106 : decode cX4_most 106 = .ok (.iconst 1, 1) := by decide +kernel
theorem dX4_most_107 : decode cX4_most 107 = .ok (.goto 4, 3) := by decide +kernel
theorem dX4_most_110 : decode cX4_most 110 = .ok (.iconst 0, 1) := by decide +kernel
theorem dX4_most_111 : decode cX4_most 111 = .ok (.istore 8, 2) := by decide +kernel
theorem dX4_most_113 : decode cX4_most 113 = .ok (.iload 8, 2) := by decide +kernel
theorem dX4_most_115 : decode cX4_most 115 = .ok (.ifCond .eq 34, 3) := by decide +kernel
theorem dX4_most_118 : decode cX4_most 118 = .ok (.iconst 1, 1) := by decide +kernel
theorem dX4_most_119 : decode cX4_most 119 = .ok (.aload_n 0, 1) := by decide +kernel
theorem dX4_most_120 : decode cX4_most 120 = .ok (.getfield 57, 3) := by decide +kernel
theorem dX4_most_123 : decode cX4_most 123 = .ok (.bipush 8, 2) := by decide +kernel
theorem dX4_most_125 : decode cX4_most 125 = .ok (.iload_n 3, 1) := by decide +kernel
theorem dX4_most_126 : decode cX4_most 126 = .ok (.iconst 1, 1) := by decide +kernel
theorem dX4_most_127 : decode cX4_most 127 = .ok (.iload 7, 2) := by decide +kernel
theorem dX4_most_129 : decode cX4_most 129 = .ok (.ishl, 1) := by decide +kernel
theorem dX4_most_130 : decode cX4_most 130 = .ok (.ior, 1) := by decide +kernel
theorem dX4_most_131 : decode cX4_most 131 = .ok (.imul, 1) := by decide +kernel
theorem dX4_most_132 : decode cX4_most 132 = .ok (.iload 7, 2) := by decide +kernel
theorem dX4_most_134 : decode cX4_most 134 = .ok (.iadd, 1) := by decide +kernel
theorem dX4_most_135 : decode cX4_most 135 = .ok (.iaload, 1) := by decide +kernel
theorem dX4_most_136 : decode cX4_most 136 = .ok (.iadd, 1) := by decide +kernel
theorem dX4_most_137 : decode cX4_most 137 = .ok (.iload_n 2, 1) := by decide +kernel
theorem dX4_most_138 : decode cX4_most 138 = .ok (.iload 5, 2) := by decide +kernel
theorem dX4_most_140 : decode cX4_most 140 = .ok (.isub, 1) := by decide +kernel
theorem dX4_most_141 : decode cX4_most 141 = .ok (.if_icmp .ne 8, 3) := by decide +kernel
theorem dX4_most_144 : decode cX4_most 144 = .ok (.iload 7, 2) := by decide +kernel
theorem dX4_most_146 : decode cX4_most 146 = .ok (.goto 5, 3) := by decide +kernel
theorem dX4_most_149 : decode cX4_most 149 = .ok (.iload 6, 2) := by decide +kernel
theorem dX4_most_151 : decode cX4_most 151 = .ok (.istore 6, 2) := by decide +kernel
theorem dX4_most_153 : decode cX4_most 153 = .ok (.iinc 7 (-1), 3) := by decide +kernel
theorem dX4_most_156 : decode cX4_most 156 = .ok (.goto (-87), 3) := by decide +kernel
theorem dX4_most_159 : decode cX4_most 159 = .ok (.aload_n 0, 1) := by decide +kernel
theorem dX4_most_160 : decode cX4_most 160 = .ok (.getfield 20, 3) := by decide +kernel
theorem dX4_most_163 : decode cX4_most 163 = .ok (.bipush 40, 2) := by decide +kernel
theorem dX4_most_165 : decode cX4_most 165 = .ok (.iload_n 1, 1) := by decide +kernel
theorem dX4_most_166 : decode cX4_most 166 = .ok (.imul, 1) := by decide +kernel
theorem dX4_most_167 : decode cX4_most 167 = .ok (.iload 5, 2) := by decide +kernel
theorem dX4_most_169 : decode cX4_most 169 = .ok (.iadd, 1) := by decide +kernel
theorem dX4_most_170 : decode cX4_most 170 = .ok (.iload 6, 2) := by decide +kernel
theorem dX4_most_172 : decode cX4_most 172 = .ok (.iastore, 1) := by decide +kernel
theorem dX4_most_173 : decode cX4_most 173 = .ok (.iload_n 3, 1) := by decide +kernel
theorem dX4_most_174 : decode cX4_most 174 = .ok (.iconst 1, 1) := by decide +kernel
theorem dX4_most_175 : decode cX4_most 175 = .ok (.iload 6, 2) := by decide +kernel
theorem dX4_most_177 : decode cX4_most 177 = .ok (.ishl, 1) := by decide +kernel
theorem dX4_most_178 : decode cX4_most 178 = .ok (.ior, 1) := by decide +kernel
theorem dX4_most_179 : decode cX4_most 179 = .ok (.istore_n 3, 1) := by decide +kernel
theorem dX4_most_180 : decode cX4_most 180 = .ok (.iload 6, 2) := by decide +kernel
theorem dX4_most_182 : decode cX4_most 182 = .ok (.istore 4, 2) := by decide +kernel
theorem dX4_most_184 : decode cX4_most 184 = .ok (.iinc 5 1, 3) := by decide +kernel
theorem dX4_most_187 : decode cX4_most 187 = .ok (.goto (-136), 3) := by decide +kernel
theorem dX4_most_190 : decode cX4_most 190 = .ok (.iload_n 2, 1) := by decide +kernel
theorem dX4_most_191 : decode cX4_most 191 = .ok (.ireturn, 1) := by decide +kernel
theorem dX4_worthOf_0 : decode cX4_worthOf 0 = .ok (.iconst 0, 1) := by decide +kernel
theorem dX4_worthOf_1 : decode cX4_worthOf 1 = .ok (.istore_n 2, 1) := by decide +kernel
theorem dX4_worthOf_2 : decode cX4_worthOf 2 = .ok (.iconst 0, 1) := by decide +kernel
theorem dX4_worthOf_3 : decode cX4_worthOf 3 = .ok (.istore_n 3, 1) := by decide +kernel
theorem dX4_worthOf_4 : decode cX4_worthOf 4 = .ok (.iload_n 3, 1) := by decide +kernel
theorem dX4_worthOf_5 : decode cX4_worthOf 5 = .ok (.aload_n 0, 1) := by decide +kernel
theorem dX4_worthOf_6 : decode cX4_worthOf 6 = .ok (.getfield 104, 3) := by decide +kernel
theorem dX4_worthOf_9 : decode cX4_worthOf 9 = .ok (.if_icmp .ge 30, 3) := by decide +kernel
theorem dX4_worthOf_12 : decode cX4_worthOf 12 = .ok (.iload_n 2, 1) := by decide +kernel
theorem dX4_worthOf_13 : decode cX4_worthOf 13 = .ok (.iload_n 1, 1) := by decide +kernel
theorem dX4_worthOf_14 : decode cX4_worthOf 14 = .ok (.iload_n 3, 1) := by decide +kernel
theorem dX4_worthOf_15 : decode cX4_worthOf 15 = .ok (.invokestatic 123, 3) := by decide +kernel
theorem dX4_worthOf_18 : decode cX4_worthOf 18 = .ok (.ifCond .eq 12, 3) := by decide +kernel
theorem dX4_worthOf_21 : decode cX4_worthOf 21 = .ok (.aload_n 0, 1) := by decide +kernel
theorem dX4_worthOf_22 : decode cX4_worthOf 22 = .ok (.getfield 36, 3) := by decide +kernel
theorem dX4_worthOf_25 : decode cX4_worthOf 25 = .ok (.iload_n 3, 1) := by decide +kernel
theorem dX4_worthOf_26 : decode cX4_worthOf 26 = .ok (.iaload, 1) := by decide +kernel
theorem dX4_worthOf_27 : decode cX4_worthOf 27 = .ok (.goto 4, 3) := by decide +kernel
theorem dX4_worthOf_30 : decode cX4_worthOf 30 = .ok (.iconst 0, 1) := by decide +kernel
theorem dX4_worthOf_31 : decode cX4_worthOf 31 = .ok (.iadd, 1) := by decide +kernel
theorem dX4_worthOf_32 : decode cX4_worthOf 32 = .ok (.istore_n 2, 1) := by decide +kernel
theorem dX4_worthOf_33 : decode cX4_worthOf 33 = .ok (.iinc 3 1, 3) := by decide +kernel
theorem dX4_worthOf_36 : decode cX4_worthOf 36 = .ok (.goto (-32), 3) := by decide +kernel
theorem dX4_worthOf_39 : decode cX4_worthOf 39 = .ok (.iload_n 2, 1) := by decide +kernel
theorem dX4_worthOf_40 : decode cX4_worthOf 40 = .ok (.ireturn, 1) := by decide +kernel
theorem dX4_worth_0 : decode cX4_worth 0 = .ok (.aload_n 0, 1) := by decide +kernel
theorem dX4_worth_1 : decode cX4_worth 1 = .ok (.getfield 104, 3) := by decide +kernel
theorem dX4_worth_4 : decode cX4_worth 4 = .ok (.ifCond .ne 6, 3) := by decide +kernel
theorem dX4_worth_7 : decode cX4_worth 7 = .ok (.bipush (-4), 2) := by decide +kernel
theorem dX4_worth_9 : decode cX4_worth 9 = .ok (.ireturn, 1) := by decide +kernel
theorem dX4_worth_10 : decode cX4_worth 10 = .ok (.aload_n 0, 1) := by decide +kernel
theorem dX4_worth_11 : decode cX4_worth 11 = .ok (.invokevirtual 181, 3) := by decide +kernel
theorem dX4_worth_14 : decode cX4_worth 14 = .ok (.aload_n 0, 1) := by decide +kernel
theorem dX4_worth_15 : decode cX4_worth 15 = .ok (.invokevirtual 190, 3) := by decide +kernel
theorem dX4_worth_18 : decode cX4_worth 18 = .ok (.iconst 0, 1) := by decide +kernel
theorem dX4_worth_19 : decode cX4_worth 19 = .ok (.istore_n 1, 1) := by decide +kernel
theorem dX4_worth_20 : decode cX4_worth 20 = .ok (.iconst 0, 1) := by decide +kernel
theorem dX4_worth_21 : decode cX4_worth 21 = .ok (.istore_n 2, 1) := by decide +kernel
theorem dX4_worth_22 : decode cX4_worth 22 = .ok (.iconst 0, 1) := by decide +kernel
theorem dX4_worth_23 : decode cX4_worth 23 = .ok (.istore_n 3, 1) := by decide +kernel
theorem dX4_worth_24 : decode cX4_worth 24 = .ok (.iload_n 3, 1) := by decide +kernel
theorem dX4_worth_25 : decode cX4_worth 25 = .ok (.iconst 1, 1) := by decide +kernel
theorem dX4_worth_26 : decode cX4_worth 26 = .ok (.aload_n 0, 1) := by decide +kernel
theorem dX4_worth_27 : decode cX4_worth 27 = .ok (.getfield 104, 3) := by decide +kernel
theorem dX4_worth_30 : decode cX4_worth 30 = .ok (.ishl, 1) := by decide +kernel
theorem dX4_worth_31 : decode cX4_worth 31 = .ok (.if_icmp .ge 52, 3) := by decide +kernel
theorem dX4_worth_34 : decode cX4_worth 34 = .ok (.aload_n 0, 1) := by decide +kernel
theorem dX4_worth_35 : decode cX4_worth 35 = .ok (.iload_n 3, 1) := by decide +kernel
theorem dX4_worth_36 : decode cX4_worth 36 = .ok (.invokevirtual 193, 3) := by decide +kernel
theorem dX4_worth_39 : decode cX4_worth 39 = .ok (.istore 4, 2) := by decide +kernel
theorem dX4_worth_41 : decode cX4_worth 41 = .ok (.aload_n 0, 1) := by decide +kernel
theorem dX4_worth_42 : decode cX4_worth 42 = .ok (.iload_n 3, 1) := by decide +kernel
theorem dX4_worth_43 : decode cX4_worth 43 = .ok (.invokevirtual 175, 3) := by decide +kernel
theorem dX4_worth_46 : decode cX4_worth 46 = .ok (.ifCond .le 31, 3) := by decide +kernel
theorem dX4_worth_49 : decode cX4_worth 49 = .ok (.iload 4, 2) := by decide +kernel
theorem dX4_worth_51 : decode cX4_worth 51 = .ok (.iload_n 1, 1) := by decide +kernel
theorem dX4_worth_52 : decode cX4_worth 52 = .ok (.if_icmp .gt 17, 3) := by decide +kernel
theorem dX4_worth_55 : decode cX4_worth 55 = .ok (.iload 4, 2) := by decide +kernel
theorem dX4_worth_57 : decode cX4_worth 57 = .ok (.iload_n 1, 1) := by decide +kernel
theorem dX4_worth_58 : decode cX4_worth 58 = .ok (.if_icmp .ne 19, 3) := by decide +kernel
theorem dX4_worth_61 : decode cX4_worth 61 = .ok (.iload_n 3, 1) := by decide +kernel
theorem dX4_worth_62 : decode cX4_worth 62 = .ok (.invokestatic 153, 3) := by decide +kernel
theorem dX4_worth_65 : decode cX4_worth 65 = .ok (.iload_n 2, 1) := by decide +kernel
theorem dX4_worth_66 : decode cX4_worth 66 = .ok (.if_icmp .ge 11, 3) := by decide +kernel
theorem dX4_worth_69 : decode cX4_worth 69 = .ok (.iload 4, 2) := by decide +kernel
theorem dX4_worth_71 : decode cX4_worth 71 = .ok (.istore_n 1, 1) := by decide +kernel
theorem dX4_worth_72 : decode cX4_worth 72 = .ok (.iload_n 3, 1) := by decide +kernel
theorem dX4_worth_73 : decode cX4_worth 73 = .ok (.invokestatic 153, 3) := by decide +kernel
theorem dX4_worth_76 : decode cX4_worth 76 = .ok (.istore_n 2, 1) := by decide +kernel
theorem dX4_worth_77 : decode cX4_worth 77 = .ok (.iinc 3 1, 3) := by decide +kernel
theorem dX4_worth_80 : decode cX4_worth 80 = .ok (.goto (-56), 3) := by decide +kernel
theorem dX4_worth_83 : decode cX4_worth 83 = .ok (.aload_n 0, 1) := by decide +kernel
theorem dX4_worth_84 : decode cX4_worth 84 = .ok (.iload_n 2, 1) := by decide +kernel
theorem dX4_worth_85 : decode cX4_worth 85 = .ok (.invokevirtual 89, 3) := by decide +kernel
theorem dX4_worth_88 : decode cX4_worth 88 = .ok (.pop, 1) := by decide +kernel
theorem dX4_worth_89 : decode cX4_worth 89 = .ok (.iload_n 1, 1) := by decide +kernel
theorem dX4_worth_90 : decode cX4_worth 90 = .ok (.ireturn, 1) := by decide +kernel
theorem dX4_orders_0 : decode cX4_orders 0 = .ok (.aload_n 0, 1) := by decide +kernel
theorem dX4_orders_1 : decode cX4_orders 1 = .ok (.getfield 104, 3) := by decide +kernel
theorem dX4_orders_4 : decode cX4_orders 4 = .ok (.ifCond .ne 6, 3) := by decide +kernel
theorem dX4_orders_7 : decode cX4_orders 7 = .ok (.bipush (-4), 2) := by decide +kernel
theorem dX4_orders_9 : decode cX4_orders 9 = .ok (.ireturn, 1) := by decide +kernel
theorem dX4_orders_10 : decode cX4_orders 10 = .ok (.aload_n 0, 1) := by decide +kernel
theorem dX4_orders_11 : decode cX4_orders 11 = .ok (.invokevirtual 181, 3) := by decide +kernel
theorem dX4_orders_14 : decode cX4_orders 14 = .ok (.aload_n 0, 1) := by decide +kernel
theorem dX4_orders_15 : decode cX4_orders 15 = .ok (.invokevirtual 190, 3) := by decide +kernel
theorem dX4_orders_18 : decode cX4_orders 18 = .ok (.aload_n 0, 1) := by decide +kernel
theorem dX4_orders_19 : decode cX4_orders 19 = .ok (.aload_n 0, 1) := by decide +kernel
theorem dX4_orders_20 : decode cX4_orders 20 = .ok (.invokevirtual 149, 3) := by decide +kernel
theorem dX4_orders_23 : decode cX4_orders 23 = .ok (.invokevirtual 175, 3) := by decide +kernel
theorem dX4_orders_26 : decode cX4_orders 26 = .ok (.ireturn, 1) := by decide +kernel
theorem dX4_takeTold_0 : decode cX4_takeTold 0 = .ok (.iconst 0, 1) := by decide +kernel
theorem dX4_takeTold_1 : decode cX4_takeTold 1 = .ok (.istore_n 1, 1) := by decide +kernel
theorem dX4_takeTold_2 : decode cX4_takeTold 2 = .ok (.iload_n 1, 1) := by decide +kernel
theorem dX4_takeTold_3 : decode cX4_takeTold 3 = .ok (.aload_n 0, 1) := by decide +kernel
theorem dX4_takeTold_4 : decode cX4_takeTold 4 = .ok (.getfield 104, 3) := by decide +kernel
theorem dX4_takeTold_7 : decode cX4_takeTold 7 = .ok (.if_icmp .ge 20, 3) := by decide +kernel
theorem dX4_takeTold_10 : decode cX4_takeTold 10 = .ok (.aload_n 0, 1) := by decide +kernel
theorem dX4_takeTold_11 : decode cX4_takeTold 11 = .ok (.getfield 60, 3) := by decide +kernel
theorem dX4_takeTold_14 : decode cX4_takeTold 14 = .ok (.iload_n 1, 1) := by decide +kernel
theorem dX4_takeTold_15 : decode cX4_takeTold 15 = .ok (.aload_n 0, 1) := by decide +kernel
theorem dX4_takeTold_16 : decode cX4_takeTold 16 = .ok (.iload_n 1, 1) := by decide +kernel
theorem dX4_takeTold_17 : decode cX4_takeTold 17 = .ok (.invokevirtual 113, 3) := by decide +kernel
theorem dX4_takeTold_20 : decode cX4_takeTold 20 = .ok (.iastore, 1) := by decide +kernel
theorem dX4_takeTold_21 : decode cX4_takeTold 21 = .ok (.iinc 1 1, 3) := by decide +kernel
theorem dX4_takeTold_24 : decode cX4_takeTold 24 = .ok (.goto (-22), 3) := by decide +kernel
theorem dX4_takeTold_27 : decode cX4_takeTold 27 = .ok (.return_, 1) := by decide +kernel
theorem dX4_meetAside_0 : decode cX4_meetAside 0 = .ok (.iload_n 1, 1) := by decide +kernel
theorem dX4_meetAside_1 : decode cX4_meetAside 1 = .ok (.aload_n 0, 1) := by decide +kernel
theorem dX4_meetAside_2 : decode cX4_meetAside 2 = .ok (.getfield 33, 3) := by decide +kernel
theorem dX4_meetAside_5 : decode cX4_meetAside 5 = .ok (.iload_n 1, 1) := by decide +kernel
theorem dX4_meetAside_6 : decode cX4_meetAside 6 = .ok (.iaload, 1) := by decide +kernel
theorem dX4_meetAside_7 : decode cX4_meetAside 7 = .ok (.aload_n 0, 1) := by decide +kernel
theorem dX4_meetAside_8 : decode cX4_meetAside 8 = .ok (.getfield 60, 3) := by decide +kernel
theorem dX4_meetAside_11 : decode cX4_meetAside 11 = .ok (.iload_n 1, 1) := by decide +kernel
theorem dX4_meetAside_12 : decode cX4_meetAside 12 = .ok (.iaload, 1) := by decide +kernel
theorem dX4_meetAside_13 : decode cX4_meetAside 13 = .ok (.invokestatic 116, 3) := by decide +kernel
theorem dX4_meetAside_16 : decode cX4_meetAside 16 = .ok (.istore_n 3, 1) := by decide +kernel
theorem dX4_meetAside_17 : decode cX4_meetAside 17 = .ok (.iload_n 2, 1) := by decide +kernel
theorem dX4_meetAside_18 : decode cX4_meetAside 18 = .ok (.aload_n 0, 1) := by decide +kernel
theorem dX4_meetAside_19 : decode cX4_meetAside 19 = .ok (.getfield 33, 3) := by decide +kernel
theorem dX4_meetAside_22 : decode cX4_meetAside 22 = .ok (.iload_n 2, 1) := by decide +kernel
theorem dX4_meetAside_23 : decode cX4_meetAside 23 = .ok (.iaload, 1) := by decide +kernel
theorem dX4_meetAside_24 : decode cX4_meetAside 24 = .ok (.aload_n 0, 1) := by decide +kernel
theorem dX4_meetAside_25 : decode cX4_meetAside 25 = .ok (.getfield 60, 3) := by decide +kernel
theorem dX4_meetAside_28 : decode cX4_meetAside 28 = .ok (.iload_n 2, 1) := by decide +kernel
theorem dX4_meetAside_29 : decode cX4_meetAside 29 = .ok (.iaload, 1) := by decide +kernel
theorem dX4_meetAside_30 : decode cX4_meetAside 30 = .ok (.invokestatic 116, 3) := by decide +kernel
theorem dX4_meetAside_33 : decode cX4_meetAside 33 = .ok (.istore 4, 2) := by decide +kernel
theorem dX4_meetAside_35 : decode cX4_meetAside 35 = .ok (.aload_n 0, 1) := by decide +kernel
theorem dX4_meetAside_36 : decode cX4_meetAside 36 = .ok (.getfield 60, 3) := by decide +kernel
theorem dX4_meetAside_39 : decode cX4_meetAside 39 = .ok (.iload_n 1, 1) := by decide +kernel
theorem dX4_meetAside_40 : decode cX4_meetAside 40 = .ok (.dup2, 1) := by decide +kernel
theorem dX4_meetAside_41 : decode cX4_meetAside 41 = .ok (.iaload, 1) := by decide +kernel
theorem dX4_meetAside_42 : decode cX4_meetAside 42 = .ok (.iload 4, 2) := by decide +kernel
theorem dX4_meetAside_44 : decode cX4_meetAside 44 = .ok (.iconst 1, 1) := by decide +kernel
theorem dX4_meetAside_45 : decode cX4_meetAside 45 = .ok (.iload_n 1, 1) := by decide +kernel
theorem dX4_meetAside_46 : decode cX4_meetAside 46 = .ok (.ishl, 1) := by decide +kernel
theorem dX4_meetAside_47 : decode cX4_meetAside 47 = .ok (.iconst (-1), 1) := by decide +kernel
theorem dX4_meetAside_48 : decode cX4_meetAside 48 = .ok (.ixor, 1) := by decide +kernel
theorem dX4_meetAside_49 : decode cX4_meetAside 49 = .ok (.iand, 1) := by decide +kernel
theorem dX4_meetAside_50 : decode cX4_meetAside 50 = .ok (.ior, 1) := by decide +kernel
theorem dX4_meetAside_51 : decode cX4_meetAside 51 = .ok (.iastore, 1) := by decide +kernel
theorem dX4_meetAside_52 : decode cX4_meetAside 52 = .ok (.aload_n 0, 1) := by decide +kernel
theorem dX4_meetAside_53 : decode cX4_meetAside 53 = .ok (.getfield 60, 3) := by decide +kernel
theorem dX4_meetAside_56 : decode cX4_meetAside 56 = .ok (.iload_n 2, 1) := by decide +kernel
theorem dX4_meetAside_57 : decode cX4_meetAside 57 = .ok (.dup2, 1) := by decide +kernel
theorem dX4_meetAside_58 : decode cX4_meetAside 58 = .ok (.iaload, 1) := by decide +kernel
theorem dX4_meetAside_59 : decode cX4_meetAside 59 = .ok (.iload_n 3, 1) := by decide +kernel
theorem dX4_meetAside_60 : decode cX4_meetAside 60 = .ok (.iconst 1, 1) := by decide +kernel
theorem dX4_meetAside_61 : decode cX4_meetAside 61 = .ok (.iload_n 2, 1) := by decide +kernel
theorem dX4_meetAside_62 : decode cX4_meetAside 62 = .ok (.ishl, 1) := by decide +kernel
theorem dX4_meetAside_63 : decode cX4_meetAside 63 = .ok (.iconst (-1), 1) := by decide +kernel
theorem dX4_meetAside_64 : decode cX4_meetAside 64 = .ok (.ixor, 1) := by decide +kernel
theorem dX4_meetAside_65 : decode cX4_meetAside 65 = .ok (.iand, 1) := by decide +kernel
theorem dX4_meetAside_66 : decode cX4_meetAside 66 = .ok (.ior, 1) := by decide +kernel
theorem dX4_meetAside_67 : decode cX4_meetAside 67 = .ok (.iastore, 1) := by decide +kernel
theorem dX4_meetAside_68 : decode cX4_meetAside 68 = .ok (.return_, 1) := by decide +kernel
theorem dX4_canAll_0 : decode cX4_canAll 0 = .ok (.iconst 0, 1) := by decide +kernel
theorem dX4_canAll_1 : decode cX4_canAll 1 = .ok (.istore_n 1, 1) := by decide +kernel
theorem dX4_canAll_2 : decode cX4_canAll 2 = .ok (.iload_n 1, 1) := by decide +kernel
theorem dX4_canAll_3 : decode cX4_canAll 3 = .ok (.aload_n 0, 1) := by decide +kernel
theorem dX4_canAll_4 : decode cX4_canAll 4 = .ok (.getfield 104, 3) := by decide +kernel
theorem dX4_canAll_7 : decode cX4_canAll 7 = .ok (.if_icmp .ge 26, 3) := by decide +kernel
theorem dX4_canAll_10 : decode cX4_canAll 10 = .ok (.aload_n 0, 1) := by decide +kernel
theorem dX4_canAll_11 : decode cX4_canAll 11 = .ok (.getfield 51, 3) := by decide +kernel
theorem dX4_canAll_14 : decode cX4_canAll 14 = .ok (.iload_n 1, 1) := by decide +kernel
theorem dX4_canAll_15 : decode cX4_canAll 15 = .ok (.aload_n 0, 1) := by decide +kernel
theorem dX4_canAll_16 : decode cX4_canAll 16 = .ok (.iload_n 1, 1) := by decide +kernel
theorem dX4_canAll_17 : decode cX4_canAll 17 = .ok (.aload_n 0, 1) := by decide +kernel
theorem dX4_canAll_18 : decode cX4_canAll 18 = .ok (.getfield 60, 3) := by decide +kernel
theorem dX4_canAll_21 : decode cX4_canAll 21 = .ok (.iload_n 1, 1) := by decide +kernel
theorem dX4_canAll_22 : decode cX4_canAll 22 = .ok (.iaload, 1) := by decide +kernel
theorem dX4_canAll_23 : decode cX4_canAll 23 = .ok (.invokevirtual 127, 3) := by decide +kernel
theorem dX4_canAll_26 : decode cX4_canAll 26 = .ok (.iastore, 1) := by decide +kernel
theorem dX4_canAll_27 : decode cX4_canAll 27 = .ok (.iinc 1 1, 3) := by decide +kernel
theorem dX4_canAll_30 : decode cX4_canAll 30 = .ok (.goto (-28), 3) := by decide +kernel
theorem dX4_canAll_33 : decode cX4_canAll 33 = .ok (.aload_n 0, 1) := by decide +kernel
theorem dX4_canAll_34 : decode cX4_canAll 34 = .ok (.invokevirtual 190, 3) := by decide +kernel
theorem dX4_canAll_37 : decode cX4_canAll 37 = .ok (.aload_n 0, 1) := by decide +kernel
theorem dX4_canAll_38 : decode cX4_canAll 38 = .ok (.aload_n 0, 1) := by decide +kernel
theorem dX4_canAll_39 : decode cX4_canAll 39 = .ok (.invokevirtual 149, 3) := by decide +kernel
theorem dX4_canAll_42 : decode cX4_canAll 42 = .ok (.invokevirtual 175, 3) := by decide +kernel
theorem dX4_canAll_45 : decode cX4_canAll 45 = .ok (.ifCond .le 7, 3) := by decide +kernel
theorem dX4_canAll_48 : decode cX4_canAll 48 = .ok (.iconst 1, 1) := by decide +kernel
theorem dX4_canAll_49 : decode cX4_canAll 49 = .ok (.goto 4, 3) := by decide +kernel
theorem dX4_canAll_52 : decode cX4_canAll 52 = .ok (.iconst 0, 1) := by decide +kernel
theorem dX4_canAll_53 : decode cX4_canAll 53 = .ok (.ireturn, 1) := by decide +kernel
theorem dX4_areTwo_0 : decode cX4_areTwo 0 = .ok (.iload_n 1, 1) := by decide +kernel
theorem dX4_areTwo_1 : decode cX4_areTwo 1 = .ok (.bipush 10, 2) := by decide +kernel
theorem dX4_areTwo_3 : decode cX4_areTwo 3 = .ok (.idiv, 1) := by decide +kernel
theorem dX4_areTwo_4 : decode cX4_areTwo 4 = .ok (.istore_n 2, 1) := by decide +kernel
theorem dX4_areTwo_5 : decode cX4_areTwo 5 = .ok (.iload_n 1, 1) := by decide +kernel
theorem dX4_areTwo_6 : decode cX4_areTwo 6 = .ok (.bipush 10, 2) := by decide +kernel
theorem dX4_areTwo_8 : decode cX4_areTwo 8 = .ok (.irem, 1) := by decide +kernel
theorem dX4_areTwo_9 : decode cX4_areTwo 9 = .ok (.istore_n 3, 1) := by decide +kernel
theorem dX4_areTwo_10 : decode cX4_areTwo 10 = .ok (.iload_n 2, 1) := by decide +kernel
theorem dX4_areTwo_11 : decode cX4_areTwo 11 = .ok (.iload_n 3, 1) := by decide +kernel
theorem dX4_areTwo_12 : decode cX4_areTwo 12 = .ok (.if_icmp .ge 37, 3) := by decide +kernel
theorem dX4_areTwo_15 : decode cX4_areTwo 15 = .ok (.iload_n 3, 1) := by decide +kernel
theorem dX4_areTwo_16 : decode cX4_areTwo 16 = .ok (.aload_n 0, 1) := by decide +kernel
theorem dX4_areTwo_17 : decode cX4_areTwo 17 = .ok (.getfield 104, 3) := by decide +kernel
theorem dX4_areTwo_20 : decode cX4_areTwo 20 = .ok (.if_icmp .ge 29, 3) := by decide +kernel
theorem dX4_areTwo_23 : decode cX4_areTwo 23 = .ok (.aload_n 0, 1) := by decide +kernel
theorem dX4_areTwo_24 : decode cX4_areTwo 24 = .ok (.invokevirtual 149, 3) := by decide +kernel
theorem dX4_areTwo_27 : decode cX4_areTwo 27 = .ok (.iload_n 2, 1) := by decide +kernel
theorem dX4_areTwo_28 : decode cX4_areTwo 28 = .ok (.invokestatic 123, 3) := by decide +kernel
theorem dX4_areTwo_31 : decode cX4_areTwo 31 = .ok (.ifCond .eq 18, 3) := by decide +kernel
theorem dX4_areTwo_34 : decode cX4_areTwo 34 = .ok (.aload_n 0, 1) := by decide +kernel
theorem dX4_areTwo_35 : decode cX4_areTwo 35 = .ok (.invokevirtual 149, 3) := by decide +kernel
theorem dX4_areTwo_38 : decode cX4_areTwo 38 = .ok (.iload_n 3, 1) := by decide +kernel
theorem dX4_areTwo_39 : decode cX4_areTwo 39 = .ok (.invokestatic 123, 3) := by decide +kernel
theorem dX4_areTwo_42 : decode cX4_areTwo 42 = .ok (.ifCond .eq 7, 3) := by decide +kernel
theorem dX4_areTwo_45 : decode cX4_areTwo 45 = .ok (.iconst 1, 1) := by decide +kernel
theorem dX4_areTwo_46 : decode cX4_areTwo 46 = .ok (.goto 4, 3) := by decide +kernel
theorem dX4_areTwo_49 : decode cX4_areTwo 49 = .ok (.iconst 0, 1) := by decide +kernel
theorem dX4_areTwo_50 : decode cX4_areTwo 50 = .ok (.ireturn, 1) := by decide +kernel
theorem dX4_meetings_0 : decode cX4_meetings 0 = .ok (.aload_n 0, 1) := by decide +kernel
theorem dX4_meetings_1 : decode cX4_meetings 1 = .ok (.getfield 104, 3) := by decide +kernel
theorem dX4_meetings_4 : decode cX4_meetings 4 = .ok (.ifCond .ne 6, 3) := by decide +kernel
theorem dX4_meetings_7 : decode cX4_meetings 7 = .ok (.bipush (-4), 2) := by decide +kernel
theorem dX4_meetings_9 : decode cX4_meetings 9 = .ok (.ireturn, 1) := by decide +kernel
theorem dX4_meetings_10 : decode cX4_meetings 10 = .ok (.aload_n 0, 1) := by decide +kernel
theorem dX4_meetings_11 : decode cX4_meetings 11 = .ok (.invokevirtual 196, 3) := by decide +kernel
theorem dX4_meetings_14 : decode cX4_meetings 14 = .ok (.aload_n 0, 1) := by decide +kernel
theorem dX4_meetings_15 : decode cX4_meetings 15 = .ok (.invokevirtual 199, 3) := by decide +kernel
theorem dX4_meetings_18 : decode cX4_meetings 18 = .ok (.ifCond .eq 11, 3) := by decide +kernel
theorem dX4_meetings_21 : decode cX4_meetings 21 = .ok (.aload_n 0, 1) := by decide +kernel
theorem dX4_meetings_22 : decode cX4_meetings 22 = .ok (.iconst 0, 1) := by decide +kernel
theorem dX4_meetings_23 : decode cX4_meetings 23 = .ok (.invokevirtual 89, 3) := by decide +kernel
theorem dX4_meetings_26 : decode cX4_meetings 26 = .ok (.pop, 1) := by decide +kernel
theorem dX4_meetings_27 : decode cX4_meetings 27 = .ok (.iconst 0, 1) := by decide +kernel
theorem dX4_meetings_28 : decode cX4_meetings 28 = .ok (.ireturn, 1) := by decide +kernel
theorem dX4_meetings_29 : decode cX4_meetings 29 = .ok (.iconst 1, 1) := by decide +kernel
theorem dX4_meetings_30 : decode cX4_meetings 30 = .ok (.istore_n 1, 1) := by decide +kernel
theorem dX4_meetings_31 : decode cX4_meetings 31 = .ok (.iload_n 1, 1) := by decide +kernel
theorem dX4_meetings_32 : decode cX4_meetings 32 = .ok (.bipush 56, 2) := by decide +kernel
theorem dX4_meetings_34 : decode cX4_meetings 34 = .ok (.if_icmp .gt 48, 3) := by decide +kernel
theorem dX4_meetings_37 : decode cX4_meetings 37 = .ok (.aload_n 0, 1) := by decide +kernel
theorem dX4_meetings_38 : decode cX4_meetings 38 = .ok (.iload_n 1, 1) := by decide +kernel
theorem dX4_meetings_39 : decode cX4_meetings 39 = .ok (.invokevirtual 203, 3) := by decide +kernel
theorem dX4_meetings_42 : decode cX4_meetings 42 = .ok (.ifCond .eq 34, 3) := by decide +kernel
theorem dX4_meetings_45 : decode cX4_meetings 45 = .ok (.aload_n 0, 1) := by decide +kernel
theorem dX4_meetings_46 : decode cX4_meetings 46 = .ok (.invokevirtual 196, 3) := by decide +kernel
theorem dX4_meetings_49 : decode cX4_meetings 49 = .ok (.aload_n 0, 1) := by decide +kernel
theorem dX4_meetings_50 : decode cX4_meetings 50 = .ok (.iload_n 1, 1) := by decide +kernel
theorem dX4_meetings_51 : decode cX4_meetings 51 = .ok (.bipush 10, 2) := by decide +kernel
theorem dX4_meetings_53 : decode cX4_meetings 53 = .ok (.idiv, 1) := by decide +kernel
theorem dX4_meetings_54 : decode cX4_meetings 54 = .ok (.iload_n 1, 1) := by decide +kernel
theorem dX4_meetings_55 : decode cX4_meetings 55 = .ok (.bipush 10, 2) := by decide +kernel
theorem dX4_meetings_57 : decode cX4_meetings 57 = .ok (.irem, 1) := by decide +kernel
theorem dX4_meetings_58 : decode cX4_meetings 58 = .ok (.invokevirtual 206, 3) := by decide +kernel
theorem dX4_meetings_61 : decode cX4_meetings 61 = .ok (.aload_n 0, 1) := by decide +kernel
theorem dX4_meetings_62 : decode cX4_meetings 62 = .ok (.invokevirtual 199, 3) := by decide +kernel
theorem dX4_meetings_65 : decode cX4_meetings 65 = .ok (.ifCond .eq 11, 3) := by decide +kernel
theorem dX4_meetings_68 : decode cX4_meetings 68 = .ok (.aload_n 0, 1) := by decide +kernel
theorem dX4_meetings_69 : decode cX4_meetings 69 = .ok (.iload_n 1, 1) := by decide +kernel
theorem dX4_meetings_70 : decode cX4_meetings 70 = .ok (.invokevirtual 89, 3) := by decide +kernel
theorem dX4_meetings_73 : decode cX4_meetings 73 = .ok (.pop, 1) := by decide +kernel
theorem dX4_meetings_74 : decode cX4_meetings 74 = .ok (.iconst 1, 1) := by decide +kernel
theorem dX4_meetings_75 : decode cX4_meetings 75 = .ok (.ireturn, 1) := by decide +kernel
theorem dX4_meetings_76 : decode cX4_meetings 76 = .ok (.iinc 1 1, 3) := by decide +kernel
theorem dX4_meetings_79 : decode cX4_meetings 79 = .ok (.goto (-48), 3) := by decide +kernel
theorem dX4_meetings_82 : decode cX4_meetings 82 = .ok (.iconst 1, 1) := by decide +kernel
theorem dX4_meetings_83 : decode cX4_meetings 83 = .ok (.istore_n 1, 1) := by decide +kernel
theorem dX4_meetings_84 : decode cX4_meetings 84 = .ok (.iload_n 1, 1) := by decide +kernel
theorem dX4_meetings_85 : decode cX4_meetings 85 = .ok (.bipush 56, 2) := by decide +kernel
theorem dX4_meetings_87 : decode cX4_meetings 87 = .ok (.if_icmp .gt 87, 3) := by decide +kernel
theorem dX4_meetings_90 : decode cX4_meetings 90 = .ok (.iconst 1, 1) := by decide +kernel
theorem dX4_meetings_91 : decode cX4_meetings 91 = .ok (.istore_n 2, 1) := by decide +kernel
theorem dX4_meetings_92 : decode cX4_meetings 92 = .ok (.iload_n 2, 1) := by decide +kernel
theorem dX4_meetings_93 : decode cX4_meetings 93 = .ok (.bipush 56, 2) := by decide +kernel
theorem dX4_meetings_95 : decode cX4_meetings 95 = .ok (.if_icmp .gt 73, 3) := by decide +kernel
theorem dX4_meetings_98 : decode cX4_meetings 98 = .ok (.aload_n 0, 1) := by decide +kernel
theorem dX4_meetings_99 : decode cX4_meetings 99 = .ok (.iload_n 1, 1) := by decide +kernel
theorem dX4_meetings_100 : decode cX4_meetings 100 = .ok (.invokevirtual 203, 3) := by decide +kernel
theorem dX4_meetings_103 : decode cX4_meetings 103 = .ok (.ifCond .eq 65, 3) := by decide +kernel
theorem dX4_meetings_106 : decode cX4_meetings 106 = .ok (.aload_n 0, 1) := by decide +kernel
theorem dX4_meetings_107 : decode cX4_meetings 107 = .ok (.iload_n 2, 1) := by decide +kernel
theorem dX4_meetings_108 : decode cX4_meetings 108 = .ok (.invokevirtual 203, 3) := by decide +kernel
theorem dX4_meetings_111 : decode cX4_meetings 111 = .ok (.ifCond .eq 51, 3) := by decide +kernel
theorem dX4_meetings_114 : decode cX4_meetings 114 = .ok (.aload_n 0, 1) := by decide +kernel
theorem dX4_meetings_115 : decode cX4_meetings 115 = .ok (.invokevirtual 196, 3) := by decide +kernel
theorem dX4_meetings_118 : decode cX4_meetings 118 = .ok (.aload_n 0, 1) := by decide +kernel
theorem dX4_meetings_119 : decode cX4_meetings 119 = .ok (.iload_n 1, 1) := by decide +kernel
theorem dX4_meetings_120 : decode cX4_meetings 120 = .ok (.bipush 10, 2) := by decide +kernel
theorem dX4_meetings_122 : decode cX4_meetings 122 = .ok (.idiv, 1) := by decide +kernel
theorem dX4_meetings_123 : decode cX4_meetings 123 = .ok (.iload_n 1, 1) := by decide +kernel
theorem dX4_meetings_124 : decode cX4_meetings 124 = .ok (.bipush 10, 2) := by decide +kernel
theorem dX4_meetings_126 : decode cX4_meetings 126 = .ok (.irem, 1) := by decide +kernel
theorem dX4_meetings_127 : decode cX4_meetings 127 = .ok (.invokevirtual 206, 3) := by decide +kernel
theorem dX4_meetings_130 : decode cX4_meetings 130 = .ok (.aload_n 0, 1) := by decide +kernel
theorem dX4_meetings_131 : decode cX4_meetings 131 = .ok (.iload_n 2, 1) := by decide +kernel
theorem dX4_meetings_132 : decode cX4_meetings 132 = .ok (.bipush 10, 2) := by decide +kernel
end
section
theorem dX4_meetings_134 : decode cX4_meetings 134 = .ok (.idiv, 1) := by decide +kernel
theorem dX4_meetings_135 : decode cX4_meetings 135 = .ok (.iload_n 2, 1) := by decide +kernel
theorem dX4_meetings_136 : decode cX4_meetings 136 = .ok (.bipush 10, 2) := by decide +kernel
theorem dX4_meetings_138 : decode cX4_meetings 138 = .ok (.irem, 1) := by decide +kernel
theorem dX4_meetings_139 : decode cX4_meetings 139 = .ok (.invokevirtual 206, 3) := by decide +kernel
theorem dX4_meetings_142 : decode cX4_meetings 142 = .ok (.aload_n 0, 1) := by decide +kernel
theorem dX4_meetings_143 : decode cX4_meetings 143 = .ok (.invokevirtual 199, 3) := by decide +kernel
theorem dX4_meetings_146 : decode cX4_meetings 146 = .ok (.ifCond .eq 16, 3) := by decide +kernel
theorem dX4_meetings_149 : decode cX4_meetings 149 = .ok (.aload_n 0, 1) := by decide +kernel
theorem dX4_meetings_150 : decode cX4_meetings 150 = .ok (.bipush 100, 2) := by decide +kernel
theorem dX4_meetings_152 : decode cX4_meetings 152 = .ok (.iload_n 1, 1) := by decide +kernel
theorem dX4_meetings_153 : decode cX4_meetings 153 = .ok (.imul, 1) := by decide +kernel
theorem dX4_meetings_154 : decode cX4_meetings 154 = .ok (.iload_n 2, 1) := by decide +kernel
theorem dX4_meetings_155 : decode cX4_meetings 155 = .ok (.iadd, 1) := by decide +kernel
theorem dX4_meetings_156 : decode cX4_meetings 156 = .ok (.invokevirtual 89, 3) := by decide +kernel
theorem dX4_meetings_159 : decode cX4_meetings 159 = .ok (.pop, 1) := by decide +kernel
theorem dX4_meetings_160 : decode cX4_meetings 160 = .ok (.iconst 2, 1) := by decide +kernel
theorem dX4_meetings_161 : decode cX4_meetings 161 = .ok (.ireturn, 1) := by decide +kernel
theorem dX4_meetings_162 : decode cX4_meetings 162 = .ok (.iinc 2 1, 3) := by decide +kernel
theorem dX4_meetings_165 : decode cX4_meetings 165 = .ok (.goto (-73), 3) := by decide +kernel
theorem dX4_meetings_168 : decode cX4_meetings 168 = .ok (.iinc 1 1, 3) := by decide +kernel
theorem dX4_meetings_171 : decode cX4_meetings 171 = .ok (.goto (-87), 3) := by decide +kernel
theorem dX4_meetings_174 : decode cX4_meetings 174 = .ok (.bipush (-9), 2) := by decide +kernel
theorem dX4_meetings_176 : decode cX4_meetings 176 = .ok (.ireturn, 1) := by decide +kernel
theorem dX4_stone_0 : decode cX4_stone 0 = .ok (.aload_n 0, 1) := by decide +kernel
theorem dX4_stone_1 : decode cX4_stone 1 = .ok (.getfield 104, 3) := by decide +kernel
theorem dX4_stone_4 : decode cX4_stone 4 = .ok (.ifCond .ne 6, 3) := by decide +kernel
theorem dX4_stone_7 : decode cX4_stone 7 = .ok (.bipush (-4), 2) := by decide +kernel
theorem dX4_stone_9 : decode cX4_stone 9 = .ok (.ireturn, 1) := by decide +kernel
theorem dX4_stone_10 : decode cX4_stone 10 = .ok (.bipush (-9), 2) := by decide +kernel
theorem dX4_stone_12 : decode cX4_stone 12 = .ok (.istore_n 1, 1) := by decide +kernel
theorem dX4_stone_13 : decode cX4_stone 13 = .ok (.bipush (-9), 2) := by decide +kernel
theorem dX4_stone_15 : decode cX4_stone 15 = .ok (.istore_n 2, 1) := by decide +kernel
theorem dX4_stone_16 : decode cX4_stone 16 = .ok (.iconst 0, 1) := by decide +kernel
theorem dX4_stone_17 : decode cX4_stone 17 = .ok (.istore_n 3, 1) := by decide +kernel
theorem dX4_stone_18 : decode cX4_stone 18 = .ok (.iload_n 3, 1) := by decide +kernel
theorem dX4_stone_19 : decode cX4_stone 19 = .ok (.aload_n 0, 1) := by decide +kernel
theorem dX4_stone_20 : decode cX4_stone 20 = .ok (.getfield 104, 3) := by decide +kernel
theorem dX4_stone_23 : decode cX4_stone 23 = .ok (.if_icmp .ge 126, 3) := by decide +kernel
theorem dX4_stone_26 : decode cX4_stone 26 = .ok (.aload_n 0, 1) := by decide +kernel
theorem dX4_stone_27 : decode cX4_stone 27 = .ok (.iload_n 3, 1) := by decide +kernel
theorem dX4_stone_28 : decode cX4_stone 28 = .ok (.invokevirtual 131, 3) := by decide +kernel
theorem dX4_stone_31 : decode cX4_stone 31 = .ok (.ifCond .ne 112, 3) := by decide +kernel
theorem dX4_stone_34 : decode cX4_stone 34 = .ok (.aload_n 0, 1) := by decide +kernel
theorem dX4_stone_35 : decode cX4_stone 35 = .ok (.bipush 9, 2) := by decide +kernel
theorem dX4_stone_37 : decode cX4_stone 37 = .ok (.invokevirtual 110, 3) := by decide +kernel
theorem dX4_stone_40 : decode cX4_stone 40 = .ok (.aload_n 0, 1) := by decide +kernel
theorem dX4_stone_41 : decode cX4_stone 41 = .ok (.iload_n 3, 1) := by decide +kernel
theorem dX4_stone_42 : decode cX4_stone 42 = .ok (.invokevirtual 140, 3) := by decide +kernel
theorem dX4_stone_45 : decode cX4_stone 45 = .ok (.ior, 1) := by decide +kernel
theorem dX4_stone_46 : decode cX4_stone 46 = .ok (.istore 4, 2) := by decide +kernel
theorem dX4_stone_48 : decode cX4_stone 48 = .ok (.iconst 0, 1) := by decide +kernel
theorem dX4_stone_49 : decode cX4_stone 49 = .ok (.istore 5, 2) := by decide +kernel
theorem dX4_stone_51 : decode cX4_stone 51 = .ok (.iload 5, 2) := by decide +kernel
theorem dX4_stone_53 : decode cX4_stone 53 = .ok (.aload_n 0, 1) := by decide +kernel
theorem dX4_stone_54 : decode cX4_stone 54 = .ok (.getfield 104, 3) := by decide +kernel
theorem dX4_stone_57 : decode cX4_stone 57 = .ok (.if_icmp .ge 61, 3) := by decide +kernel
theorem dX4_stone_60 : decode cX4_stone 60 = .ok (.iload 5, 2) := by decide +kernel
theorem dX4_stone_62 : decode cX4_stone 62 = .ok (.iload_n 3, 1) := by decide +kernel
theorem dX4_stone_63 : decode cX4_stone 63 = .ok (.if_icmp .eq 24, 3) := by decide +kernel
theorem dX4_stone_66 : decode cX4_stone 66 = .ok (.aload_n 0, 1) := by decide +kernel
theorem dX4_stone_67 : decode cX4_stone 67 = .ok (.iload 5, 2) := by decide +kernel
theorem dX4_stone_69 : decode cX4_stone 69 = .ok (.invokevirtual 131, 3) := by decide +kernel
theorem dX4_stone_72 : decode cX4_stone 72 = .ok (.ifCond .ne 15, 3) := by decide +kernel
theorem dX4_stone_75 : decode cX4_stone 75 = .ok (.iload 4, 2) := by decide +kernel
theorem dX4_stone_77 : decode cX4_stone 77 = .ok (.iconst 1, 1) := by decide +kernel
theorem dX4_stone_78 : decode cX4_stone 78 = .ok (.iload 5, 2) := by decide +kernel
theorem dX4_stone_80 : decode cX4_stone 80 = .ok (.ishl, 1) := by decide +kernel
theorem dX4_stone_81 : decode cX4_stone 81 = .ok (.iconst (-1), 1) := by decide +kernel
theorem dX4_stone_82 : decode cX4_stone 82 = .ok (.ixor, 1) := by decide +kernel
theorem dX4_stone_83 : decode cX4_stone 83 = .ok (.iand, 1) := by decide +kernel
theorem dX4_stone_84 : decode cX4_stone 84 = .ok (.goto 4, 3) := by decide +kernel
theorem dX4_stone_87 : decode cX4_stone 87 = .ok (.iconst 0, 1) := by decide +kernel
theorem dX4_stone_88 : decode cX4_stone 88 = .ok (.istore 6, 2) := by decide +kernel
theorem dX4_stone_90 : decode cX4_stone 90 = .ok (.aload_n 0, 1) := by decide +kernel
theorem dX4_stone_91 : decode cX4_stone 91 = .ok (.getfield 51, 3) := by decide +kernel
theorem dX4_stone_94 : decode cX4_stone 94 = .ok (.iload 5, 2) := by decide +kernel
theorem dX4_stone_96 : decode cX4_stone 96 = .ok (.aload_n 0, 1) := by decide +kernel
theorem dX4_stone_97 : decode cX4_stone 97 = .ok (.iload 5, 2) := by decide +kernel
theorem dX4_stone_99 : decode cX4_stone 99 = .ok (.aload_n 0, 1) := by decide +kernel
theorem dX4_stone_100 : decode cX4_stone 100 = .ok (.iload 5, 2) := by decide +kernel
theorem dX4_stone_102 : decode cX4_stone 102 = .ok (.invokevirtual 113, 3) := by decide +kernel
theorem dX4_stone_105 : decode cX4_stone 105 = .ok (.iload 6, 2) := by decide +kernel
theorem dX4_stone_107 : decode cX4_stone 107 = .ok (.ior, 1) := by decide +kernel
theorem dX4_stone_108 : decode cX4_stone 108 = .ok (.invokevirtual 127, 3) := by decide +kernel
theorem dX4_stone_111 : decode cX4_stone 111 = .ok (.iastore, 1) := by decide +kernel
theorem dX4_stone_112 : decode cX4_stone 112 = .ok (.iinc 5 1, 3) := by decide +kernel
theorem dX4_stone_115 : decode cX4_stone 115 = .ok (.goto (-64), 3) := by decide +kernel
theorem dX4_stone_118 : decode cX4_stone 118 = .ok (.aload_n 0, 1) := by decide +kernel
theorem dX4_stone_119 : decode cX4_stone 119 = .ok (.invokevirtual 190, 3) := by decide +kernel
theorem dX4_stone_122 : decode cX4_stone 122 = .ok (.aload_n 0, 1) := by decide +kernel
theorem dX4_stone_123 : decode cX4_stone 123 = .ok (.aload_n 0, 1) := by decide +kernel
theorem dX4_stone_124 : decode cX4_stone 124 = .ok (.invokevirtual 149, 3) := by decide +kernel
theorem dX4_stone_127 : decode cX4_stone 127 = .ok (.invokevirtual 210, 3) := by decide +kernel
theorem dX4_stone_130 : decode cX4_stone 130 = .ok (.istore 5, 2) := by decide +kernel
theorem dX4_stone_132 : decode cX4_stone 132 = .ok (.iload 5, 2) := by decide +kernel
theorem dX4_stone_134 : decode cX4_stone 134 = .ok (.iload_n 2, 1) := by decide +kernel
theorem dX4_stone_135 : decode cX4_stone 135 = .ok (.if_icmp .le 8, 3) := by decide +kernel
theorem dX4_stone_138 : decode cX4_stone 138 = .ok (.iload_n 3, 1) := by decide +kernel
theorem dX4_stone_139 : decode cX4_stone 139 = .ok (.istore_n 1, 1) := by decide +kernel
theorem dX4_stone_140 : decode cX4_stone 140 = .ok (.iload 5, 2) := by decide +kernel
theorem dX4_stone_142 : decode cX4_stone 142 = .ok (.istore_n 2, 1) := by decide +kernel
theorem dX4_stone_143 : decode cX4_stone 143 = .ok (.iinc 3 1, 3) := by decide +kernel
theorem dX4_stone_146 : decode cX4_stone 146 = .ok (.goto (-128), 3) := by decide +kernel
theorem dX4_stone_149 : decode cX4_stone 149 = .ok (.iload_n 1, 1) := by decide +kernel
theorem dX4_stone_150 : decode cX4_stone 150 = .ok (.bipush (-9), 2) := by decide +kernel
theorem dX4_stone_152 : decode cX4_stone 152 = .ok (.if_icmp .eq 9, 3) := by decide +kernel
theorem dX4_stone_155 : decode cX4_stone 155 = .ok (.aload_n 0, 1) := by decide +kernel
theorem dX4_stone_156 : decode cX4_stone 156 = .ok (.iload_n 2, 1) := by decide +kernel
theorem dX4_stone_157 : decode cX4_stone 157 = .ok (.invokevirtual 89, 3) := by decide +kernel
theorem dX4_stone_160 : decode cX4_stone 160 = .ok (.pop, 1) := by decide +kernel
theorem dX4_stone_161 : decode cX4_stone 161 = .ok (.iload_n 1, 1) := by decide +kernel
theorem dX4_stone_162 : decode cX4_stone 162 = .ok (.ireturn, 1) := by decide +kernel
theorem dX4_hold_0 : decode cX4_hold 0 = .ok (.aload_n 0, 1) := by decide +kernel
theorem dX4_hold_1 : decode cX4_hold 1 = .ok (.getfield 104, 3) := by decide +kernel
theorem dX4_hold_4 : decode cX4_hold 4 = .ok (.ifCond .ne 6, 3) := by decide +kernel
theorem dX4_hold_7 : decode cX4_hold 7 = .ok (.bipush (-4), 2) := by decide +kernel
theorem dX4_hold_9 : decode cX4_hold 9 = .ok (.ireturn, 1) := by decide +kernel
theorem dX4_hold_10 : decode cX4_hold 10 = .ok (.aload_n 0, 1) := by decide +kernel
theorem dX4_hold_11 : decode cX4_hold 11 = .ok (.invokevirtual 181, 3) := by decide +kernel
theorem dX4_hold_14 : decode cX4_hold 14 = .ok (.aload_n 0, 1) := by decide +kernel
theorem dX4_hold_15 : decode cX4_hold 15 = .ok (.invokevirtual 190, 3) := by decide +kernel
theorem dX4_hold_18 : decode cX4_hold 18 = .ok (.bipush (-9), 2) := by decide +kernel
theorem dX4_hold_20 : decode cX4_hold 20 = .ok (.istore_n 1, 1) := by decide +kernel
theorem dX4_hold_21 : decode cX4_hold 21 = .ok (.bipush 8, 2) := by decide +kernel
theorem dX4_hold_23 : decode cX4_hold 23 = .ok (.istore_n 2, 1) := by decide +kernel
theorem dX4_hold_24 : decode cX4_hold 24 = .ok (.iconst 0, 1) := by decide +kernel
theorem dX4_hold_25 : decode cX4_hold 25 = .ok (.istore_n 3, 1) := by decide +kernel
theorem dX4_hold_26 : decode cX4_hold 26 = .ok (.iload_n 3, 1) := by decide +kernel
theorem dX4_hold_27 : decode cX4_hold 27 = .ok (.aload_n 0, 1) := by decide +kernel
theorem dX4_hold_28 : decode cX4_hold 28 = .ok (.getfield 104, 3) := by decide +kernel
theorem dX4_hold_31 : decode cX4_hold 31 = .ok (.if_icmp .ge 44, 3) := by decide +kernel
theorem dX4_hold_34 : decode cX4_hold 34 = .ok (.aload_n 0, 1) := by decide +kernel
theorem dX4_hold_35 : decode cX4_hold 35 = .ok (.iload_n 3, 1) := by decide +kernel
theorem dX4_hold_36 : decode cX4_hold 36 = .ok (.invokevirtual 131, 3) := by decide +kernel
theorem dX4_hold_39 : decode cX4_hold 39 = .ok (.ifCond .ne 30, 3) := by decide +kernel
theorem dX4_hold_42 : decode cX4_hold 42 = .ok (.aload_n 0, 1) := by decide +kernel
theorem dX4_hold_43 : decode cX4_hold 43 = .ok (.aload_n 0, 1) := by decide +kernel
theorem dX4_hold_44 : decode cX4_hold 44 = .ok (.invokevirtual 149, 3) := by decide +kernel
theorem dX4_hold_47 : decode cX4_hold 47 = .ok (.iconst 1, 1) := by decide +kernel
theorem dX4_hold_48 : decode cX4_hold 48 = .ok (.iload_n 3, 1) := by decide +kernel
theorem dX4_hold_49 : decode cX4_hold 49 = .ok (.ishl, 1) := by decide +kernel
theorem dX4_hold_50 : decode cX4_hold 50 = .ok (.iconst (-1), 1) := by decide +kernel
theorem dX4_hold_51 : decode cX4_hold 51 = .ok (.ixor, 1) := by decide +kernel
theorem dX4_hold_52 : decode cX4_hold 52 = .ok (.iand, 1) := by decide +kernel
theorem dX4_hold_53 : decode cX4_hold 53 = .ok (.invokevirtual 210, 3) := by decide +kernel
theorem dX4_hold_56 : decode cX4_hold 56 = .ok (.istore 4, 2) := by decide +kernel
theorem dX4_hold_58 : decode cX4_hold 58 = .ok (.iload 4, 2) := by decide +kernel
theorem dX4_hold_60 : decode cX4_hold 60 = .ok (.iload_n 2, 1) := by decide +kernel
theorem dX4_hold_61 : decode cX4_hold 61 = .ok (.if_icmp .ge 8, 3) := by decide +kernel
theorem dX4_hold_64 : decode cX4_hold 64 = .ok (.iload_n 3, 1) := by decide +kernel
theorem dX4_hold_65 : decode cX4_hold 65 = .ok (.istore_n 1, 1) := by decide +kernel
theorem dX4_hold_66 : decode cX4_hold 66 = .ok (.iload 4, 2) := by decide +kernel
theorem dX4_hold_68 : decode cX4_hold 68 = .ok (.istore_n 2, 1) := by decide +kernel
theorem dX4_hold_69 : decode cX4_hold 69 = .ok (.iinc 3 1, 3) := by decide +kernel
theorem dX4_hold_72 : decode cX4_hold 72 = .ok (.goto (-46), 3) := by decide +kernel
theorem dX4_hold_75 : decode cX4_hold 75 = .ok (.iload_n 1, 1) := by decide +kernel
theorem dX4_hold_76 : decode cX4_hold 76 = .ok (.bipush (-9), 2) := by decide +kernel
theorem dX4_hold_78 : decode cX4_hold 78 = .ok (.if_icmp .eq 9, 3) := by decide +kernel
theorem dX4_hold_81 : decode cX4_hold 81 = .ok (.aload_n 0, 1) := by decide +kernel
theorem dX4_hold_82 : decode cX4_hold 82 = .ok (.iload_n 2, 1) := by decide +kernel
theorem dX4_hold_83 : decode cX4_hold 83 = .ok (.invokevirtual 89, 3) := by decide +kernel
theorem dX4_hold_86 : decode cX4_hold 86 = .ok (.pop, 1) := by decide +kernel
theorem dX4_hold_87 : decode cX4_hold 87 = .ok (.iload_n 1, 1) := by decide +kernel
theorem dX4_hold_88 : decode cX4_hold 88 = .ok (.ireturn, 1) := by decide +kernel
theorem dX4_last_0 : decode cX4_last 0 = .ok (.aload_n 0, 1) := by decide +kernel
theorem dX4_last_1 : decode cX4_last 1 = .ok (.iload_n 1, 1) := by decide +kernel
theorem dX4_last_2 : decode cX4_last 2 = .ok (.invokevirtual 156, 3) := by decide +kernel
theorem dX4_last_5 : decode cX4_last 5 = .ok (.ifCond .ne 5, 3) := by decide +kernel
theorem dX4_last_8 : decode cX4_last 8 = .ok (.iconst (-1), 1) := by decide +kernel
theorem dX4_last_9 : decode cX4_last 9 = .ok (.ireturn, 1) := by decide +kernel
theorem dX4_last_10 : decode cX4_last 10 = .ok (.aload_n 0, 1) := by decide +kernel
theorem dX4_last_11 : decode cX4_last 11 = .ok (.getfield 104, 3) := by decide +kernel
theorem dX4_last_14 : decode cX4_last 14 = .ok (.ifCond .ne 6, 3) := by decide +kernel
theorem dX4_last_17 : decode cX4_last 17 = .ok (.bipush (-4), 2) := by decide +kernel
theorem dX4_last_19 : decode cX4_last 19 = .ok (.ireturn, 1) := by decide +kernel
theorem dX4_last_20 : decode cX4_last 20 = .ok (.iconst 0, 1) := by decide +kernel
theorem dX4_last_21 : decode cX4_last 21 = .ok (.istore_n 2, 1) := by decide +kernel
theorem dX4_last_22 : decode cX4_last 22 = .ok (.iconst 0, 1) := by decide +kernel
theorem dX4_last_23 : decode cX4_last 23 = .ok (.istore_n 3, 1) := by decide +kernel
theorem dX4_last_24 : decode cX4_last 24 = .ok (.iload_n 3, 1) := by decide +kernel
theorem dX4_last_25 : decode cX4_last 25 = .ok (.aload_n 0, 1) := by decide +kernel
theorem dX4_last_26 : decode cX4_last 26 = .ok (.getfield 104, 3) := by decide +kernel
theorem dX4_last_29 : decode cX4_last 29 = .ok (.if_icmp .ge 87, 3) := by decide +kernel
theorem dX4_last_32 : decode cX4_last 32 = .ok (.iconst 0, 1) := by decide +kernel
theorem dX4_last_33 : decode cX4_last 33 = .ok (.istore 4, 2) := by decide +kernel
theorem dX4_last_35 : decode cX4_last 35 = .ok (.iconst 0, 1) := by decide +kernel
theorem dX4_last_36 : decode cX4_last 36 = .ok (.istore 5, 2) := by decide +kernel
theorem dX4_last_38 : decode cX4_last 38 = .ok (.iload 5, 2) := by decide +kernel
theorem dX4_last_40 : decode cX4_last 40 = .ok (.aload_n 0, 1) := by decide +kernel
theorem dX4_last_41 : decode cX4_last 41 = .ok (.getfield 104, 3) := by decide +kernel
theorem dX4_last_44 : decode cX4_last 44 = .ok (.if_icmp .ge 50, 3) := by decide +kernel
theorem dX4_last_47 : decode cX4_last 47 = .ok (.iload 4, 2) := by decide +kernel
theorem dX4_last_49 : decode cX4_last 49 = .ok (.iload 5, 2) := by decide +kernel
theorem dX4_last_51 : decode cX4_last 51 = .ok (.iload_n 3, 1) := by decide +kernel
theorem dX4_last_52 : decode cX4_last 52 = .ok (.if_icmp .eq 32, 3) := by decide +kernel
theorem dX4_last_55 : decode cX4_last 55 = .ok (.aload_n 0, 1) := by decide +kernel
theorem dX4_last_56 : decode cX4_last 56 = .ok (.iload 5, 2) := by decide +kernel
theorem dX4_last_58 : decode cX4_last 58 = .ok (.invokevirtual 131, 3) := by decide +kernel
theorem dX4_last_61 : decode cX4_last 61 = .ok (.ifCond .ne 23, 3) := by decide +kernel
theorem dX4_last_64 : decode cX4_last 64 = .ok (.aload_n 0, 1) := by decide +kernel
theorem dX4_last_65 : decode cX4_last 65 = .ok (.iload 5, 2) := by decide +kernel
theorem dX4_last_67 : decode cX4_last 67 = .ok (.invokevirtual 134, 3) := by decide +kernel
theorem dX4_last_70 : decode cX4_last 70 = .ok (.iload_n 3, 1) := by decide +kernel
theorem dX4_last_71 : decode cX4_last 71 = .ok (.invokestatic 123, 3) := by decide +kernel
theorem dX4_last_74 : decode cX4_last 74 = .ok (.ifCond .eq 10, 3) := by decide +kernel
theorem dX4_last_77 : decode cX4_last 77 = .ok (.iconst 1, 1) := by decide +kernel
theorem dX4_last_78 : decode cX4_last 78 = .ok (.iload 5, 2) := by decide +kernel
theorem dX4_last_80 : decode cX4_last 80 = .ok (.ishl, 1) := by decide +kernel
theorem dX4_last_81 : decode cX4_last 81 = .ok (.goto 4, 3) := by decide +kernel
theorem dX4_last_84 : decode cX4_last 84 = .ok (.iconst 0, 1) := by decide +kernel
theorem dX4_last_85 : decode cX4_last 85 = .ok (.ior, 1) := by decide +kernel
theorem dX4_last_86 : decode cX4_last 86 = .ok (.istore 4, 2) := by decide +kernel
theorem dX4_last_88 : decode cX4_last 88 = .ok (.iinc 5 1, 3) := by decide +kernel
theorem dX4_last_91 : decode cX4_last 91 = .ok (.goto (-53), 3) := by decide +kernel
theorem dX4_last_94 : decode cX4_last 94 = .ok (.iload_n 2, 1) := by decide +kernel
theorem dX4_last_95 : decode cX4_last 95 = .ok (.iload 4, 2) := by decide +kernel
theorem dX4_last_97 : decode cX4_last 97 = .ok (.iload_n 1, 1) := by decide +kernel
theorem dX4_last_98 : decode cX4_last 98 = .ok (.if_icmp .ne 9, 3) := by decide +kernel
theorem dX4_last_101 : decode cX4_last 101 = .ok (.iconst 1, 1) := by decide +kernel
theorem dX4_last_102 : decode cX4_last 102 = .ok (.iload_n 3, 1) := by decide +kernel
theorem dX4_last_103 : decode cX4_last 103 = .ok (.ishl, 1) := by decide +kernel
theorem dX4_last_104 : decode cX4_last 104 = .ok (.goto 4, 3) := by decide +kernel
theorem dX4_last_107 : decode cX4_last 107 = .ok (.iconst 0, 1) := by decide +kernel
theorem dX4_last_108 : decode cX4_last 108 = .ok (.ior, 1) := by decide +kernel
theorem dX4_last_109 : decode cX4_last 109 = .ok (.istore_n 2, 1) := by decide +kernel
theorem dX4_last_110 : decode cX4_last 110 = .ok (.iinc 3 1, 3) := by decide +kernel
theorem dX4_last_113 : decode cX4_last 113 = .ok (.goto (-89), 3) := by decide +kernel
theorem dX4_last_116 : decode cX4_last 116 = .ok (.iload_n 2, 1) := by decide +kernel
theorem dX4_last_117 : decode cX4_last 117 = .ok (.ireturn, 1) := by decide +kernel
theorem dX4_pairs_0 : decode cX4_pairs 0 = .ok (.aload_n 0, 1) := by decide +kernel
theorem dX4_pairs_1 : decode cX4_pairs 1 = .ok (.getfield 17, 3) := by decide +kernel
theorem dX4_pairs_4 : decode cX4_pairs 4 = .ok (.iload_n 1, 1) := by decide +kernel
theorem dX4_pairs_5 : decode cX4_pairs 5 = .ok (.iaload, 1) := by decide +kernel
theorem dX4_pairs_6 : decode cX4_pairs 6 = .ok (.ifCond .ge 9, 3) := by decide +kernel
theorem dX4_pairs_9 : decode cX4_pairs 9 = .ok (.aload_n 0, 1) := by decide +kernel
theorem dX4_pairs_10 : decode cX4_pairs 10 = .ok (.iconst 1, 1) := by decide +kernel
theorem dX4_pairs_11 : decode cX4_pairs 11 = .ok (.invokevirtual 85, 3) := by decide +kernel
theorem dX4_pairs_14 : decode cX4_pairs 14 = .ok (.ireturn, 1) := by decide +kernel
theorem dX4_pairs_15 : decode cX4_pairs 15 = .ok (.aload_n 0, 1) := by decide +kernel
theorem dX4_pairs_16 : decode cX4_pairs 16 = .ok (.getfield 17, 3) := by decide +kernel
theorem dX4_pairs_19 : decode cX4_pairs 19 = .ok (.iload_n 1, 1) := by decide +kernel
theorem dX4_pairs_20 : decode cX4_pairs 20 = .ok (.iaload, 1) := by decide +kernel
theorem dX4_pairs_21 : decode cX4_pairs 21 = .ok (.iconst 2, 1) := by decide +kernel
theorem dX4_pairs_22 : decode cX4_pairs 22 = .ok (.irem, 1) := by decide +kernel
theorem dX4_pairs_23 : decode cX4_pairs 23 = .ok (.iconst 1, 1) := by decide +kernel
theorem dX4_pairs_24 : decode cX4_pairs 24 = .ok (.if_icmp .ne 9, 3) := by decide +kernel
theorem dX4_pairs_27 : decode cX4_pairs 27 = .ok (.aload_n 0, 1) := by decide +kernel
theorem dX4_pairs_28 : decode cX4_pairs 28 = .ok (.iconst 5, 1) := by decide +kernel
theorem dX4_pairs_29 : decode cX4_pairs 29 = .ok (.invokevirtual 85, 3) := by decide +kernel
theorem dX4_pairs_32 : decode cX4_pairs 32 = .ok (.ireturn, 1) := by decide +kernel
theorem dX4_pairs_33 : decode cX4_pairs 33 = .ok (.iconst 1, 1) := by decide +kernel
theorem dX4_pairs_34 : decode cX4_pairs 34 = .ok (.istore_n 2, 1) := by decide +kernel
theorem dX4_pairs_35 : decode cX4_pairs 35 = .ok (.iconst 0, 1) := by decide +kernel
theorem dX4_pairs_36 : decode cX4_pairs 36 = .ok (.istore_n 3, 1) := by decide +kernel
theorem dX4_pairs_37 : decode cX4_pairs 37 = .ok (.iload_n 3, 1) := by decide +kernel
theorem dX4_pairs_38 : decode cX4_pairs 38 = .ok (.aload_n 0, 1) := by decide +kernel
theorem dX4_pairs_39 : decode cX4_pairs 39 = .ok (.getfield 17, 3) := by decide +kernel
theorem dX4_pairs_42 : decode cX4_pairs 42 = .ok (.iload_n 1, 1) := by decide +kernel
theorem dX4_pairs_43 : decode cX4_pairs 43 = .ok (.iaload, 1) := by decide +kernel
theorem dX4_pairs_44 : decode cX4_pairs 44 = .ok (.if_icmp .ge 37, 3) := by decide +kernel
theorem dX4_pairs_47 : decode cX4_pairs 47 = .ok (.iload_n 2, 1) := by decide +kernel
theorem dX4_pairs_48 : decode cX4_pairs 48 = .ok (.ifCond .eq 25, 3) := by decide +kernel
theorem dX4_pairs_51 : decode cX4_pairs 51 = .ok (.aload_n 0, 1) := by decide +kernel
theorem dX4_pairs_52 : decode cX4_pairs 52 = .ok (.aload_n 0, 1) := by decide +kernel
theorem dX4_pairs_53 : decode cX4_pairs 53 = .ok (.getfield 20, 3) := by decide +kernel
theorem dX4_pairs_56 : decode cX4_pairs 56 = .ok (.bipush 40, 2) := by decide +kernel
theorem dX4_pairs_58 : decode cX4_pairs 58 = .ok (.iload_n 1, 1) := by decide +kernel
theorem dX4_pairs_59 : decode cX4_pairs 59 = .ok (.imul, 1) := by decide +kernel
theorem dX4_pairs_60 : decode cX4_pairs 60 = .ok (.iload_n 3, 1) := by decide +kernel
theorem dX4_pairs_61 : decode cX4_pairs 61 = .ok (.iadd, 1) := by decide +kernel
theorem dX4_pairs_62 : decode cX4_pairs 62 = .ok (.iaload, 1) := by decide +kernel
theorem dX4_pairs_63 : decode cX4_pairs 63 = .ok (.invokevirtual 156, 3) := by decide +kernel
theorem dX4_pairs_66 : decode cX4_pairs 66 = .ok (.ifCond .eq 7, 3) := by decide +kernel
theorem dX4_pairs_69 : decode cX4_pairs 69 = .ok (.iconst 1, 1) := by decide +kernel
theorem dX4_pairs_70 : decode cX4_pairs 70 = .ok (.goto 4, 3) := by decide +kernel
theorem dX4_pairs_73 : decode cX4_pairs 73 = .ok (.iconst 0, 1) := by decide +kernel
theorem dX4_pairs_74 : decode cX4_pairs 74 = .ok (.istore_n 2, 1) := by decide +kernel
theorem dX4_pairs_75 : decode cX4_pairs 75 = .ok (.iinc 3 1, 3) := by decide +kernel
theorem dX4_pairs_78 : decode cX4_pairs 78 = .ok (.goto (-41), 3) := by decide +kernel
theorem dX4_pairs_81 : decode cX4_pairs 81 = .ok (.iload_n 2, 1) := by decide +kernel
theorem dX4_pairs_82 : decode cX4_pairs 82 = .ok (.ifCond .eq 7, 3) := by decide +kernel
theorem dX4_pairs_85 : decode cX4_pairs 85 = .ok (.iconst 0, 1) := by decide +kernel
theorem dX4_pairs_86 : decode cX4_pairs 86 = .ok (.goto 8, 3) := by decide +kernel
theorem dX4_pairs_89 : decode cX4_pairs 89 = .ok (.aload_n 0, 1) := by decide +kernel
theorem dX4_pairs_90 : decode cX4_pairs 90 = .ok (.iconst 3, 1) := by decide +kernel
theorem dX4_pairs_91 : decode cX4_pairs 91 = .ok (.invokevirtual 85, 3) := by decide +kernel
theorem dX4_pairs_94 : decode cX4_pairs 94 = .ok (.ireturn, 1) := by decide +kernel
theorem dX4_kindsBy_0 : decode cX4_kindsBy 0 = .ok (.iconst 0, 1) := by decide +kernel
theorem dX4_kindsBy_1 : decode cX4_kindsBy 1 = .ok (.istore_n 3, 1) := by decide +kernel
theorem dX4_kindsBy_2 : decode cX4_kindsBy 2 = .ok (.iconst 0, 1) := by decide +kernel
theorem dX4_kindsBy_3 : decode cX4_kindsBy 3 = .ok (.istore 4, 2) := by decide +kernel
theorem dX4_kindsBy_5 : decode cX4_kindsBy 5 = .ok (.iload 4, 2) := by decide +kernel
theorem dX4_kindsBy_7 : decode cX4_kindsBy 7 = .ok (.iconst 5, 1) := by decide +kernel
theorem dX4_kindsBy_8 : decode cX4_kindsBy 8 = .ok (.if_icmp .gt 95, 3) := by decide +kernel
theorem dX4_kindsBy_11 : decode cX4_kindsBy 11 = .ok (.iconst 1, 1) := by decide +kernel
theorem dX4_kindsBy_12 : decode cX4_kindsBy 12 = .ok (.istore 5, 2) := by decide +kernel
theorem dX4_kindsBy_14 : decode cX4_kindsBy 14 = .ok (.iconst 0, 1) := by decide +kernel
theorem dX4_kindsBy_15 : decode cX4_kindsBy 15 = .ok (.istore 6, 2) := by decide +kernel
theorem dX4_kindsBy_17 : decode cX4_kindsBy 17 = .ok (.iload 6, 2) := by decide +kernel
theorem dX4_kindsBy_19 : decode cX4_kindsBy 19 = .ok (.aload_n 0, 1) := by decide +kernel
theorem dX4_kindsBy_20 : decode cX4_kindsBy 20 = .ok (.getfield 17, 3) := by decide +kernel
theorem dX4_kindsBy_23 : decode cX4_kindsBy 23 = .ok (.iload_n 2, 1) := by decide +kernel
theorem dX4_kindsBy_24 : decode cX4_kindsBy 24 = .ok (.iaload, 1) := by decide +kernel
theorem dX4_kindsBy_25 : decode cX4_kindsBy 25 = .ok (.if_icmp .ge 56, 3) := by decide +kernel
theorem dX4_kindsBy_28 : decode cX4_kindsBy 28 = .ok (.iload 5, 2) := by decide +kernel
theorem dX4_kindsBy_30 : decode cX4_kindsBy 30 = .ok (.ifCond .eq 42, 3) := by decide +kernel
theorem dX4_kindsBy_33 : decode cX4_kindsBy 33 = .ok (.iload_n 1, 1) := by decide +kernel
theorem dX4_kindsBy_34 : decode cX4_kindsBy 34 = .ok (.iload 4, 2) := by decide +kernel
theorem dX4_kindsBy_36 : decode cX4_kindsBy 36 = .ok (.aload_n 0, 1) := by decide +kernel
theorem dX4_kindsBy_37 : decode cX4_kindsBy 37 = .ok (.getfield 20, 3) := by decide +kernel
theorem dX4_kindsBy_40 : decode cX4_kindsBy 40 = .ok (.bipush 40, 2) := by decide +kernel
theorem dX4_kindsBy_42 : decode cX4_kindsBy 42 = .ok (.iload_n 2, 1) := by decide +kernel
theorem dX4_kindsBy_43 : decode cX4_kindsBy 43 = .ok (.imul, 1) := by decide +kernel
theorem dX4_kindsBy_44 : decode cX4_kindsBy 44 = .ok (.iload 6, 2) := by decide +kernel
theorem dX4_kindsBy_46 : decode cX4_kindsBy 46 = .ok (.iadd, 1) := by decide +kernel
theorem dX4_kindsBy_47 : decode cX4_kindsBy 47 = .ok (.iaload, 1) := by decide +kernel
theorem dX4_kindsBy_48 : decode cX4_kindsBy 48 = .ok (.invokestatic 116, 3) := by decide +kernel
theorem dX4_kindsBy_51 : decode cX4_kindsBy 51 = .ok (.aload_n 0, 1) := by decide +kernel
theorem dX4_kindsBy_52 : decode cX4_kindsBy 52 = .ok (.getfield 20, 3) := by decide +kernel
theorem dX4_kindsBy_55 : decode cX4_kindsBy 55 = .ok (.bipush 40, 2) := by decide +kernel
theorem dX4_kindsBy_57 : decode cX4_kindsBy 57 = .ok (.iload_n 2, 1) := by decide +kernel
theorem dX4_kindsBy_58 : decode cX4_kindsBy 58 = .ok (.imul, 1) := by decide +kernel
theorem dX4_kindsBy_59 : decode cX4_kindsBy 59 = .ok (.iload 6, 2) := by decide +kernel
theorem dX4_kindsBy_61 : decode cX4_kindsBy 61 = .ok (.iadd, 1) := by decide +kernel
theorem dX4_kindsBy_62 : decode cX4_kindsBy 62 = .ok (.iconst 1, 1) := by decide +kernel
theorem dX4_kindsBy_63 : decode cX4_kindsBy 63 = .ok (.iadd, 1) := by decide +kernel
theorem dX4_kindsBy_64 : decode cX4_kindsBy 64 = .ok (.iaload, 1) := by decide +kernel
theorem dX4_kindsBy_65 : decode cX4_kindsBy 65 = .ok (.if_icmp .ne 7, 3) := by decide +kernel
theorem dX4_kindsBy_68 : decode cX4_kindsBy 68 = .ok (.iconst 1, 1) := by decide +kernel
theorem dX4_kindsBy_69 : decode cX4_kindsBy 69 = .ok (.goto 4, 3) := by decide +kernel
theorem dX4_kindsBy_72 : decode cX4_kindsBy 72 = .ok (.iconst 0, 1) := by decide +kernel
theorem dX4_kindsBy_73 : decode cX4_kindsBy 73 = .ok (.istore 5, 2) := by decide +kernel
theorem dX4_kindsBy_75 : decode cX4_kindsBy 75 = .ok (.iinc 6 2, 3) := by decide +kernel
theorem dX4_kindsBy_78 : decode cX4_kindsBy 78 = .ok (.goto (-61), 3) := by decide +kernel
theorem dX4_kindsBy_81 : decode cX4_kindsBy 81 = .ok (.iload_n 3, 1) := by decide +kernel
theorem dX4_kindsBy_82 : decode cX4_kindsBy 82 = .ok (.iload 5, 2) := by decide +kernel
theorem dX4_kindsBy_84 : decode cX4_kindsBy 84 = .ok (.ifCond .eq 10, 3) := by decide +kernel
theorem dX4_kindsBy_87 : decode cX4_kindsBy 87 = .ok (.iconst 1, 1) := by decide +kernel
theorem dX4_kindsBy_88 : decode cX4_kindsBy 88 = .ok (.iload 4, 2) := by decide +kernel
theorem dX4_kindsBy_90 : decode cX4_kindsBy 90 = .ok (.ishl, 1) := by decide +kernel
theorem dX4_kindsBy_91 : decode cX4_kindsBy 91 = .ok (.goto 4, 3) := by decide +kernel
theorem dX4_kindsBy_94 : decode cX4_kindsBy 94 = .ok (.iconst 0, 1) := by decide +kernel
theorem dX4_kindsBy_95 : decode cX4_kindsBy 95 = .ok (.ior, 1) := by decide +kernel
theorem dX4_kindsBy_96 : decode cX4_kindsBy 96 = .ok (.istore_n 3, 1) := by decide +kernel
theorem dX4_kindsBy_97 : decode cX4_kindsBy 97 = .ok (.iinc 4 1, 3) := by decide +kernel
theorem dX4_kindsBy_100 : decode cX4_kindsBy 100 = .ok (.goto (-95), 3) := by decide +kernel
theorem dX4_kindsBy_103 : decode cX4_kindsBy 103 = .ok (.iload_n 3, 1) := by decide +kernel
theorem dX4_kindsBy_104 : decode cX4_kindsBy 104 = .ok (.ireturn, 1) := by decide +kernel
theorem dX4_kinds_0 : decode cX4_kinds 0 = .ok (.aload_n 0, 1) := by decide +kernel
theorem dX4_kinds_1 : decode cX4_kinds 1 = .ok (.iload_n 1, 1) := by decide +kernel
theorem dX4_kinds_2 : decode cX4_kinds 2 = .ok (.invokevirtual 143, 3) := by decide +kernel
theorem dX4_kinds_5 : decode cX4_kinds 5 = .ok (.ifCond .eq 10, 3) := by decide +kernel
theorem dX4_kinds_8 : decode cX4_kinds 8 = .ok (.iload_n 2, 1) := by decide +kernel
theorem dX4_kinds_9 : decode cX4_kinds 9 = .ok (.invokestatic 81, 3) := by decide +kernel
theorem dX4_kinds_12 : decode cX4_kinds 12 = .ok (.ifCond .ne 5, 3) := by decide +kernel
theorem dX4_kinds_15 : decode cX4_kinds 15 = .ok (.iconst (-1), 1) := by decide +kernel
theorem dX4_kinds_16 : decode cX4_kinds 16 = .ok (.ireturn, 1) := by decide +kernel
theorem dX4_kinds_17 : decode cX4_kinds 17 = .ok (.aload_n 0, 1) := by decide +kernel
theorem dX4_kinds_18 : decode cX4_kinds 18 = .ok (.iload_n 2, 1) := by decide +kernel
theorem dX4_kinds_19 : decode cX4_kinds 19 = .ok (.invokevirtual 213, 3) := by decide +kernel
theorem dX4_kinds_22 : decode cX4_kinds 22 = .ok (.istore_n 3, 1) := by decide +kernel
theorem dX4_kinds_23 : decode cX4_kinds 23 = .ok (.iload_n 3, 1) := by decide +kernel
theorem dX4_kinds_24 : decode cX4_kinds 24 = .ok (.ifCond .eq 7, 3) := by decide +kernel
theorem dX4_kinds_27 : decode cX4_kinds 27 = .ok (.iload_n 3, 1) := by decide +kernel
theorem dX4_kinds_28 : decode cX4_kinds 28 = .ok (.goto 9, 3) := by decide +kernel
theorem dX4_kinds_31 : decode cX4_kinds 31 = .ok (.aload_n 0, 1) := by decide +kernel
theorem dX4_kinds_32 : decode cX4_kinds 32 = .ok (.iload_n 1, 1) := by decide +kernel
theorem dX4_kinds_33 : decode cX4_kinds 33 = .ok (.iload_n 2, 1) := by decide +kernel
theorem dX4_kinds_34 : decode cX4_kinds 34 = .ok (.invokevirtual 216, 3) := by decide +kernel
theorem dX4_kinds_37 : decode cX4_kinds 37 = .ok (.ireturn, 1) := by decide +kernel
theorem dX4_test_0 : decode cX4_test 0 = .ok (.aload_n 0, 1) := by decide +kernel
theorem dX4_test_1 : decode cX4_test 1 = .ok (.iload_n 1, 1) := by decide +kernel
theorem dX4_test_2 : decode cX4_test 2 = .ok (.invokevirtual 143, 3) := by decide +kernel
theorem dX4_test_5 : decode cX4_test 5 = .ok (.ifCond .eq 10, 3) := by decide +kernel
theorem dX4_test_8 : decode cX4_test 8 = .ok (.iload_n 2, 1) := by decide +kernel
theorem dX4_test_9 : decode cX4_test 9 = .ok (.invokestatic 81, 3) := by decide +kernel
theorem dX4_test_12 : decode cX4_test 12 = .ok (.ifCond .ne 5, 3) := by decide +kernel
theorem dX4_test_15 : decode cX4_test 15 = .ok (.iconst (-1), 1) := by decide +kernel
theorem dX4_test_16 : decode cX4_test 16 = .ok (.ireturn, 1) := by decide +kernel
theorem dX4_test_17 : decode cX4_test 17 = .ok (.aload_n 0, 1) := by decide +kernel
theorem dX4_test_18 : decode cX4_test 18 = .ok (.iload_n 2, 1) := by decide +kernel
theorem dX4_test_19 : decode cX4_test 19 = .ok (.invokevirtual 213, 3) := by decide +kernel
theorem dX4_test_22 : decode cX4_test 22 = .ok (.istore_n 3, 1) := by decide +kernel
theorem dX4_test_23 : decode cX4_test 23 = .ok (.iload_n 3, 1) := by decide +kernel
theorem dX4_test_24 : decode cX4_test 24 = .ok (.ifCond .eq 5, 3) := by decide +kernel
theorem dX4_test_27 : decode cX4_test 27 = .ok (.iload_n 3, 1) := by decide +kernel
theorem dX4_test_28 : decode cX4_test 28 = .ok (.ireturn, 1) := by decide +kernel
theorem dX4_test_29 : decode cX4_test 29 = .ok (.aload_n 0, 1) := by decide +kernel
theorem dX4_test_30 : decode cX4_test 30 = .ok (.iload_n 1, 1) := by decide +kernel
theorem dX4_test_31 : decode cX4_test 31 = .ok (.iload_n 2, 1) := by decide +kernel
theorem dX4_test_32 : decode cX4_test 32 = .ok (.invokevirtual 216, 3) := by decide +kernel
theorem dX4_test_35 : decode cX4_test 35 = .ok (.istore 4, 2) := by decide +kernel
theorem dX4_test_37 : decode cX4_test 37 = .ok (.bipush (-9), 2) := by decide +kernel
theorem dX4_test_39 : decode cX4_test 39 = .ok (.istore 5, 2) := by decide +kernel
theorem dX4_test_41 : decode cX4_test 41 = .ok (.bipush 7, 2) := by decide +kernel
theorem dX4_test_43 : decode cX4_test 43 = .ok (.istore 6, 2) := by decide +kernel
theorem dX4_test_45 : decode cX4_test 45 = .ok (.iconst 0, 1) := by decide +kernel
theorem dX4_test_46 : decode cX4_test 46 = .ok (.istore 7, 2) := by decide +kernel
theorem dX4_test_48 : decode cX4_test 48 = .ok (.iload 7, 2) := by decide +kernel
theorem dX4_test_50 : decode cX4_test 50 = .ok (.iconst 1, 1) := by decide +kernel
theorem dX4_test_51 : decode cX4_test 51 = .ok (.aload_n 0, 1) := by decide +kernel
theorem dX4_test_52 : decode cX4_test 52 = .ok (.getfield 104, 3) := by decide +kernel
theorem dX4_test_55 : decode cX4_test 55 = .ok (.ishl, 1) := by decide +kernel
theorem dX4_test_56 : decode cX4_test 56 = .ok (.if_icmp .ge 147, 3) := by decide +kernel
theorem dX4_test_59 : decode cX4_test 59 = .ok (.iload 4, 2) := by decide +kernel
theorem dX4_test_61 : decode cX4_test 61 = .ok (.ifCond .eq 142, 3) := by decide +kernel
theorem dX4_test_64 : decode cX4_test 64 = .ok (.iconst 0, 1) := by decide +kernel
theorem dX4_test_65 : decode cX4_test 65 = .ok (.istore 8, 2) := by decide +kernel
theorem dX4_test_67 : decode cX4_test 67 = .ok (.iconst 0, 1) := by decide +kernel
theorem dX4_test_68 : decode cX4_test 68 = .ok (.istore 9, 2) := by decide +kernel
theorem dX4_test_70 : decode cX4_test 70 = .ok (.iload 9, 2) := by decide +kernel
theorem dX4_test_72 : decode cX4_test 72 = .ok (.iconst 5, 1) := by decide +kernel
theorem dX4_test_73 : decode cX4_test 73 = .ok (.if_icmp .gt 92, 3) := by decide +kernel
theorem dX4_test_76 : decode cX4_test 76 = .ok (.iconst 0, 1) := by decide +kernel
theorem dX4_test_77 : decode cX4_test 77 = .ok (.istore 10, 2) := by decide +kernel
theorem dX4_test_79 : decode cX4_test 79 = .ok (.iconst 0, 1) := by decide +kernel
theorem dX4_test_80 : decode cX4_test 80 = .ok (.istore 11, 2) := by decide +kernel
theorem dX4_test_82 : decode cX4_test 82 = .ok (.iload 11, 2) := by decide +kernel
theorem dX4_test_84 : decode cX4_test 84 = .ok (.iconst 5, 1) := by decide +kernel
theorem dX4_test_85 : decode cX4_test 85 = .ok (.if_icmp .gt 58, 3) := by decide +kernel
theorem dX4_test_88 : decode cX4_test 88 = .ok (.iload 10, 2) := by decide +kernel
theorem dX4_test_90 : decode cX4_test 90 = .ok (.iload 4, 2) := by decide +kernel
theorem dX4_test_92 : decode cX4_test 92 = .ok (.iload 9, 2) := by decide +kernel
theorem dX4_test_94 : decode cX4_test 94 = .ok (.invokestatic 123, 3) := by decide +kernel
theorem dX4_test_97 : decode cX4_test 97 = .ok (.ifCond .eq 36, 3) := by decide +kernel
theorem dX4_test_100 : decode cX4_test 100 = .ok (.iload 4, 2) := by decide +kernel
theorem dX4_test_102 : decode cX4_test 102 = .ok (.iload 11, 2) := by decide +kernel
theorem dX4_test_104 : decode cX4_test 104 = .ok (.invokestatic 123, 3) := by decide +kernel
theorem dX4_test_107 : decode cX4_test 107 = .ok (.ifCond .eq 26, 3) := by decide +kernel
theorem dX4_test_110 : decode cX4_test 110 = .ok (.iload_n 1, 1) := by decide +kernel
theorem dX4_test_111 : decode cX4_test 111 = .ok (.iload 9, 2) := by decide +kernel
theorem dX4_test_113 : decode cX4_test 113 = .ok (.iload 7, 2) := by decide +kernel
theorem dX4_test_115 : decode cX4_test 115 = .ok (.invokestatic 116, 3) := by decide +kernel
theorem dX4_test_118 : decode cX4_test 118 = .ok (.iload_n 1, 1) := by decide +kernel
theorem dX4_test_119 : decode cX4_test 119 = .ok (.iload 11, 2) := by decide +kernel
theorem dX4_test_121 : decode cX4_test 121 = .ok (.iload 7, 2) := by decide +kernel
theorem dX4_test_123 : decode cX4_test 123 = .ok (.invokestatic 116, 3) := by decide +kernel
theorem dX4_test_126 : decode cX4_test 126 = .ok (.if_icmp .ne 7, 3) := by decide +kernel
theorem dX4_test_129 : decode cX4_test 129 = .ok (.iconst 1, 1) := by decide +kernel
theorem dX4_test_130 : decode cX4_test 130 = .ok (.goto 4, 3) := by decide +kernel
theorem dX4_test_133 : decode cX4_test 133 = .ok (.iconst 0, 1) := by decide +kernel
theorem dX4_test_134 : decode cX4_test 134 = .ok (.iadd, 1) := by decide +kernel
theorem dX4_test_135 : decode cX4_test 135 = .ok (.istore 10, 2) := by decide +kernel
theorem dX4_test_137 : decode cX4_test 137 = .ok (.iinc 11 1, 3) := by decide +kernel
theorem dX4_test_140 : decode cX4_test 140 = .ok (.goto (-58), 3) := by decide +kernel
theorem dX4_test_143 : decode cX4_test 143 = .ok (.iload 10, 2) := by decide +kernel
theorem dX4_test_145 : decode cX4_test 145 = .ok (.iload 8, 2) := by decide +kernel
theorem dX4_test_147 : decode cX4_test 147 = .ok (.if_icmp .le 8, 3) := by decide +kernel
theorem dX4_test_150 : decode cX4_test 150 = .ok (.iload 10, 2) := by decide +kernel
theorem dX4_test_152 : decode cX4_test 152 = .ok (.goto 5, 3) := by decide +kernel
theorem dX4_test_155 : decode cX4_test 155 = .ok (.iload 8, 2) := by decide +kernel
theorem dX4_test_157 : decode cX4_test 157 = .ok (.istore 8, 2) := by decide +kernel
theorem dX4_test_159 : decode cX4_test 159 = .ok (.iinc 9 1, 3) := by decide +kernel
theorem dX4_test_162 : decode cX4_test 162 = .ok (.goto (-92), 3) := by decide +kernel
theorem dX4_test_165 : decode cX4_test 165 = .ok (.iload 8, 2) := by decide +kernel
theorem dX4_test_167 : decode cX4_test 167 = .ok (.iload 6, 2) := by decide +kernel
theorem dX4_test_169 : decode cX4_test 169 = .ok (.if_icmp .ge 8, 3) := by decide +kernel
theorem dX4_test_172 : decode cX4_test 172 = .ok (.iload 7, 2) := by decide +kernel
theorem dX4_test_174 : decode cX4_test 174 = .ok (.goto 5, 3) := by decide +kernel
theorem dX4_test_177 : decode cX4_test 177 = .ok (.iload 5, 2) := by decide +kernel
theorem dX4_test_179 : decode cX4_test 179 = .ok (.istore 5, 2) := by decide +kernel
theorem dX4_test_181 : decode cX4_test 181 = .ok (.iload 8, 2) := by decide +kernel
theorem dX4_test_183 : decode cX4_test 183 = .ok (.iload 6, 2) := by decide +kernel
theorem dX4_test_185 : decode cX4_test 185 = .ok (.if_icmp .ge 8, 3) := by decide +kernel
theorem dX4_test_188 : decode cX4_test 188 = .ok (.iload 8, 2) := by decide +kernel
theorem dX4_test_190 : decode cX4_test 190 = .ok (.goto 5, 3) := by decide +kernel
theorem dX4_test_193 : decode cX4_test 193 = .ok (.iload 6, 2) := by decide +kernel
theorem dX4_test_195 : decode cX4_test 195 = .ok (.istore 6, 2) := by decide +kernel
theorem dX4_test_197 : decode cX4_test 197 = .ok (.iinc 7 1, 3) := by decide +kernel
theorem dX4_test_200 : decode cX4_test 200 = .ok (.goto (-152), 3) := by decide +kernel
theorem dX4_test_203 : decode cX4_test 203 = .ok (.iload 5, 2) := by decide +kernel
theorem dX4_test_205 : decode cX4_test 205 = .ok (.bipush (-9), 2) := by decide +kernel
theorem dX4_test_207 : decode cX4_test 207 = .ok (.if_icmp .eq 10, 3) := by decide +kernel
theorem dX4_test_210 : decode cX4_test 210 = .ok (.aload_n 0, 1) := by decide +kernel
theorem dX4_test_211 : decode cX4_test 211 = .ok (.iload 6, 2) := by decide +kernel
theorem dX4_test_213 : decode cX4_test 213 = .ok (.invokevirtual 89, 3) := by decide +kernel
theorem dX4_test_216 : decode cX4_test 216 = .ok (.pop, 1) := by decide +kernel
theorem dX4_test_217 : decode cX4_test 217 = .ok (.iload 5, 2) := by decide +kernel
theorem dX4_test_219 : decode cX4_test 219 = .ok (.ireturn, 1) := by decide +kernel
theorem dX4_duel_0 : decode cX4_duel 0 = .ok (.aload_n 0, 1) := by decide +kernel
theorem dX4_duel_1 : decode cX4_duel 1 = .ok (.getfield 104, 3) := by decide +kernel
theorem dX4_duel_4 : decode cX4_duel 4 = .ok (.ifCond .ne 6, 3) := by decide +kernel
theorem dX4_duel_7 : decode cX4_duel 7 = .ok (.bipush (-4), 2) := by decide +kernel
theorem dX4_duel_9 : decode cX4_duel 9 = .ok (.ireturn, 1) := by decide +kernel
theorem dX4_duel_10 : decode cX4_duel 10 = .ok (.aload_n 0, 1) := by decide +kernel
theorem dX4_duel_11 : decode cX4_duel 11 = .ok (.invokevirtual 181, 3) := by decide +kernel
theorem dX4_duel_14 : decode cX4_duel 14 = .ok (.aload_n 0, 1) := by decide +kernel
theorem dX4_duel_15 : decode cX4_duel 15 = .ok (.invokevirtual 149, 3) := by decide +kernel
theorem dX4_duel_18 : decode cX4_duel 18 = .ok (.istore_n 1, 1) := by decide +kernel
theorem dX4_duel_19 : decode cX4_duel 19 = .ok (.bipush (-9), 2) := by decide +kernel
theorem dX4_duel_21 : decode cX4_duel 21 = .ok (.istore_n 2, 1) := by decide +kernel
theorem dX4_duel_22 : decode cX4_duel 22 = .ok (.iconst 1, 1) := by decide +kernel
theorem dX4_duel_23 : decode cX4_duel 23 = .ok (.aload_n 0, 1) := by decide +kernel
theorem dX4_duel_24 : decode cX4_duel 24 = .ok (.getfield 104, 3) := by decide +kernel
theorem dX4_duel_27 : decode cX4_duel 27 = .ok (.ishl, 1) := by decide +kernel
theorem dX4_duel_28 : decode cX4_duel 28 = .ok (.iconst 1, 1) := by decide +kernel
theorem dX4_duel_29 : decode cX4_duel 29 = .ok (.isub, 1) := by decide +kernel
theorem dX4_duel_30 : decode cX4_duel 30 = .ok (.istore_n 3, 1) := by decide +kernel
theorem dX4_duel_31 : decode cX4_duel 31 = .ok (.iload_n 3, 1) := by decide +kernel
theorem dX4_duel_32 : decode cX4_duel 32 = .ok (.ifCond .lt 145, 3) := by decide +kernel
theorem dX4_duel_35 : decode cX4_duel 35 = .ok (.iconst 0, 1) := by decide +kernel
theorem dX4_duel_36 : decode cX4_duel 36 = .ok (.istore 4, 2) := by decide +kernel
theorem dX4_duel_38 : decode cX4_duel 38 = .ok (.iload 4, 2) := by decide +kernel
theorem dX4_duel_40 : decode cX4_duel 40 = .ok (.bipush 7, 2) := by decide +kernel
theorem dX4_duel_42 : decode cX4_duel 42 = .ok (.if_icmp .gt 129, 3) := by decide +kernel
theorem dX4_duel_45 : decode cX4_duel 45 = .ok (.bipush (-9), 2) := by decide +kernel
theorem dX4_duel_47 : decode cX4_duel 47 = .ok (.istore 5, 2) := by decide +kernel
theorem dX4_duel_49 : decode cX4_duel 49 = .ok (.aload_n 0, 1) := by decide +kernel
theorem dX4_duel_50 : decode cX4_duel 50 = .ok (.getfield 104, 3) := by decide +kernel
theorem dX4_duel_53 : decode cX4_duel 53 = .ok (.iconst 1, 1) := by decide +kernel
theorem dX4_duel_54 : decode cX4_duel 54 = .ok (.isub, 1) := by decide +kernel
theorem dX4_duel_55 : decode cX4_duel 55 = .ok (.istore 6, 2) := by decide +kernel
theorem dX4_duel_57 : decode cX4_duel 57 = .ok (.iload 6, 2) := by decide +kernel
theorem dX4_duel_59 : decode cX4_duel 59 = .ok (.ifCond .lt 79, 3) := by decide +kernel
theorem dX4_duel_62 : decode cX4_duel 62 = .ok (.iload_n 1, 1) := by decide +kernel
theorem dX4_duel_63 : decode cX4_duel 63 = .ok (.iload 6, 2) := by decide +kernel
theorem dX4_duel_65 : decode cX4_duel 65 = .ok (.invokestatic 123, 3) := by decide +kernel
theorem dX4_duel_68 : decode cX4_duel 68 = .ok (.ifCond .eq 27, 3) := by decide +kernel
theorem dX4_duel_71 : decode cX4_duel 71 = .ok (.iload_n 3, 1) := by decide +kernel
theorem dX4_duel_72 : decode cX4_duel 72 = .ok (.iload 6, 2) := by decide +kernel
theorem dX4_duel_74 : decode cX4_duel 74 = .ok (.invokestatic 123, 3) := by decide +kernel
theorem dX4_duel_77 : decode cX4_duel 77 = .ok (.ifCond .ne 18, 3) := by decide +kernel
theorem dX4_duel_80 : decode cX4_duel 80 = .ok (.aload_n 0, 1) := by decide +kernel
theorem dX4_duel_81 : decode cX4_duel 81 = .ok (.iload 4, 2) := by decide +kernel
theorem dX4_duel_83 : decode cX4_duel 83 = .ok (.iload 6, 2) := by decide +kernel
theorem dX4_duel_85 : decode cX4_duel 85 = .ok (.invokevirtual 172, 3) := by decide +kernel
theorem dX4_duel_88 : decode cX4_duel 88 = .ok (.ifCond .eq 7, 3) := by decide +kernel
theorem dX4_duel_91 : decode cX4_duel 91 = .ok (.iconst 1, 1) := by decide +kernel
theorem dX4_duel_92 : decode cX4_duel 92 = .ok (.goto 4, 3) := by decide +kernel
theorem dX4_duel_95 : decode cX4_duel 95 = .ok (.iconst 0, 1) := by decide +kernel
theorem dX4_duel_96 : decode cX4_duel 96 = .ok (.istore 7, 2) := by decide +kernel
theorem dX4_duel_98 : decode cX4_duel 98 = .ok (.iload 7, 2) := by decide +kernel
theorem dX4_duel_100 : decode cX4_duel 100 = .ok (.ifCond .eq 28, 3) := by decide +kernel
theorem dX4_duel_103 : decode cX4_duel 103 = .ok (.aload_n 0, 1) := by decide +kernel
theorem dX4_duel_104 : decode cX4_duel 104 = .ok (.getfield 63, 3) := by decide +kernel
theorem dX4_duel_107 : decode cX4_duel 107 = .ok (.bipush 8, 2) := by decide +kernel
theorem dX4_duel_109 : decode cX4_duel 109 = .ok (.iload_n 3, 1) := by decide +kernel
theorem dX4_duel_110 : decode cX4_duel 110 = .ok (.iconst 1, 1) := by decide +kernel
theorem dX4_duel_111 : decode cX4_duel 111 = .ok (.iload 6, 2) := by decide +kernel
theorem dX4_duel_113 : decode cX4_duel 113 = .ok (.ishl, 1) := by decide +kernel
theorem dX4_duel_114 : decode cX4_duel 114 = .ok (.ior, 1) := by decide +kernel
theorem dX4_duel_115 : decode cX4_duel 115 = .ok (.imul, 1) := by decide +kernel
theorem dX4_duel_116 : decode cX4_duel 116 = .ok (.iload 6, 2) := by decide +kernel
theorem dX4_duel_118 : decode cX4_duel 118 = .ok (.iadd, 1) := by decide +kernel
theorem dX4_duel_119 : decode cX4_duel 119 = .ok (.baload, 1) := by decide +kernel
theorem dX4_duel_120 : decode cX4_duel 120 = .ok (.ifCond .ne 8, 3) := by decide +kernel
theorem dX4_duel_123 : decode cX4_duel 123 = .ok (.iload 6, 2) := by decide +kernel
theorem dX4_duel_125 : decode cX4_duel 125 = .ok (.goto 5, 3) := by decide +kernel
theorem dX4_duel_128 : decode cX4_duel 128 = .ok (.iload 5, 2) := by decide +kernel
theorem dX4_duel_130 : decode cX4_duel 130 = .ok (.istore 5, 2) := by decide +kernel
theorem dX4_duel_132 : decode cX4_duel 132 = .ok (.iinc 6 (-1), 3) := by decide +kernel
theorem dX4_duel_135 : decode cX4_duel 135 = .ok (.goto (-78), 3) := by decide +kernel
theorem dX4_duel_138 : decode cX4_duel 138 = .ok (.aload_n 0, 1) := by decide +kernel
theorem dX4_duel_139 : decode cX4_duel 139 = .ok (.getfield 63, 3) := by decide +kernel
theorem dX4_duel_142 : decode cX4_duel 142 = .ok (.bipush 8, 2) := by decide +kernel
theorem dX4_duel_144 : decode cX4_duel 144 = .ok (.iload_n 3, 1) := by decide +kernel
theorem dX4_duel_145 : decode cX4_duel 145 = .ok (.imul, 1) := by decide +kernel
theorem dX4_duel_146 : decode cX4_duel 146 = .ok (.iload 4, 2) := by decide +kernel
theorem dX4_duel_148 : decode cX4_duel 148 = .ok (.iadd, 1) := by decide +kernel
theorem dX4_duel_149 : decode cX4_duel 149 = .ok (.iload 5, 2) := by decide +kernel
theorem dX4_duel_151 : decode cX4_duel 151 = .ok (.bipush (-9), 2) := by decide +kernel
theorem dX4_duel_153 : decode cX4_duel 153 = .ok (.if_icmp .eq 7, 3) := by decide +kernel
theorem dX4_duel_156 : decode cX4_duel 156 = .ok (.iconst 1, 1) := by decide +kernel
theorem dX4_duel_157 : decode cX4_duel 157 = .ok (.goto 4, 3) := by decide +kernel
theorem dX4_duel_160 : decode cX4_duel 160 = .ok (.iconst 0, 1) := by decide +kernel
theorem dX4_duel_161 : decode cX4_duel 161 = .ok (.bastore, 1) := by decide +kernel
theorem dX4_duel_162 : decode cX4_duel 162 = .ok (.iload 5, 2) := by decide +kernel
theorem dX4_duel_164 : decode cX4_duel 164 = .ok (.istore_n 2, 1) := by decide +kernel
theorem dX4_duel_165 : decode cX4_duel 165 = .ok (.iinc 4 1, 3) := by decide +kernel
theorem dX4_duel_168 : decode cX4_duel 168 = .ok (.goto (-130), 3) := by decide +kernel
theorem dX4_duel_171 : decode cX4_duel 171 = .ok (.iinc 3 (-1), 3) := by decide +kernel
theorem dX4_duel_174 : decode cX4_duel 174 = .ok (.goto (-143), 3) := by decide +kernel
theorem dX4_duel_177 : decode cX4_duel 177 = .ok (.aload_n 0, 1) := by decide +kernel
theorem dX4_duel_178 : decode cX4_duel 178 = .ok (.iload_n 2, 1) := by decide +kernel
theorem dX4_duel_179 : decode cX4_duel 179 = .ok (.invokevirtual 89, 3) := by decide +kernel
theorem dX4_duel_182 : decode cX4_duel 182 = .ok (.pop, 1) := by decide +kernel
theorem dX4_duel_183 : decode cX4_duel 183 = .ok (.iload_n 2, 1) := by decide +kernel
theorem dX4_duel_184 : decode cX4_duel 184 = .ok (.bipush (-9), 2) := by decide +kernel
theorem dX4_duel_186 : decode cX4_duel 186 = .ok (.if_icmp .ne 7, 3) := by decide +kernel
theorem dX4_duel_189 : decode cX4_duel 189 = .ok (.iconst 0, 1) := by decide +kernel
theorem dX4_duel_190 : decode cX4_duel 190 = .ok (.goto 4, 3) := by decide +kernel
theorem dX4_duel_193 : decode cX4_duel 193 = .ok (.iconst 1, 1) := by decide +kernel
theorem dX4_duel_194 : decode cX4_duel 194 = .ok (.ireturn, 1) := by decide +kernel
theorem dX4_waysOf_0 : decode cX4_waysOf 0 = .ok (.aload_n 0, 1) := by decide +kernel
theorem dX4_waysOf_1 : decode cX4_waysOf 1 = .ok (.invokevirtual 149, 3) := by decide +kernel
theorem dX4_waysOf_4 : decode cX4_waysOf 4 = .ok (.istore_n 3, 1) := by decide +kernel
theorem dX4_waysOf_5 : decode cX4_waysOf 5 = .ok (.lconst 1, 1) := by decide +kernel
theorem dX4_waysOf_6 : decode cX4_waysOf 6 = .ok (.lstore 4, 2) := by decide +kernel
theorem dX4_waysOf_8 : decode cX4_waysOf 8 = .ok (.iconst 0, 1) := by decide +kernel
theorem dX4_waysOf_9 : decode cX4_waysOf 9 = .ok (.istore 6, 2) := by decide +kernel
theorem dX4_waysOf_11 : decode cX4_waysOf 11 = .ok (.iload 6, 2) := by decide +kernel
theorem dX4_waysOf_13 : decode cX4_waysOf 13 = .ok (.aload_n 0, 1) := by decide +kernel
theorem dX4_waysOf_14 : decode cX4_waysOf 14 = .ok (.getfield 104, 3) := by decide +kernel
theorem dX4_waysOf_17 : decode cX4_waysOf 17 = .ok (.if_icmp .ge 47, 3) := by decide +kernel
theorem dX4_waysOf_20 : decode cX4_waysOf 20 = .ok (.lload 4, 2) := by decide +kernel
theorem dX4_waysOf_22 : decode cX4_waysOf 22 = .ok (.iload_n 3, 1) := by decide +kernel
theorem dX4_waysOf_23 : decode cX4_waysOf 23 = .ok (.iload 6, 2) := by decide +kernel
theorem dX4_waysOf_25 : decode cX4_waysOf 25 = .ok (.invokestatic 123, 3) := by decide +kernel
theorem dX4_waysOf_28 : decode cX4_waysOf 28 = .ok (.ifCond .ne 7, 3) := by decide +kernel
theorem dX4_waysOf_31 : decode cX4_waysOf 31 = .ok (.lconst 1, 1) := by decide +kernel
theorem dX4_waysOf_32 : decode cX4_waysOf 32 = .ok (.goto 23, 3) := by decide +kernel
theorem dX4_waysOf_35 : decode cX4_waysOf 35 = .ok (.iload_n 1, 1) := by decide +kernel
theorem dX4_waysOf_36 : decode cX4_waysOf 36 = .ok (.iload 6, 2) := by decide +kernel
theorem dX4_waysOf_38 : decode cX4_waysOf 38 = .ok (.invokestatic 123, 3) := by decide +kernel
theorem dX4_waysOf_41 : decode cX4_waysOf 41 = .ok (.ifCond .eq 12, 3) := by decide +kernel
theorem dX4_waysOf_44 : decode cX4_waysOf 44 = .ok (.ldc2_w 219, 3) := by decide +kernel
theorem dX4_waysOf_47 : decode cX4_waysOf 47 = .ok (.iload_n 2, 1) := by decide +kernel
theorem dX4_waysOf_48 : decode cX4_waysOf 48 = .ok (.i2l, 1) := by decide +kernel
theorem dX4_waysOf_49 : decode cX4_waysOf 49 = .ok (.lsub, 1) := by decide +kernel
theorem dX4_waysOf_50 : decode cX4_waysOf 50 = .ok (.goto 5, 3) := by decide +kernel
theorem dX4_waysOf_53 : decode cX4_waysOf 53 = .ok (.iload_n 2, 1) := by decide +kernel
theorem dX4_waysOf_54 : decode cX4_waysOf 54 = .ok (.i2l, 1) := by decide +kernel
theorem dX4_waysOf_55 : decode cX4_waysOf 55 = .ok (.lmul, 1) := by decide +kernel
theorem dX4_waysOf_56 : decode cX4_waysOf 56 = .ok (.lstore 4, 2) := by decide +kernel
theorem dX4_waysOf_58 : decode cX4_waysOf 58 = .ok (.iinc 6 1, 3) := by decide +kernel
theorem dX4_waysOf_61 : decode cX4_waysOf 61 = .ok (.goto (-50), 3) := by decide +kernel
theorem dX4_waysOf_64 : decode cX4_waysOf 64 = .ok (.iload_n 1, 1) := by decide +kernel
theorem dX4_waysOf_65 : decode cX4_waysOf 65 = .ok (.iload_n 3, 1) := by decide +kernel
theorem dX4_waysOf_66 : decode cX4_waysOf 66 = .ok (.iconst (-1), 1) := by decide +kernel
theorem dX4_waysOf_67 : decode cX4_waysOf 67 = .ok (.ixor, 1) := by decide +kernel
theorem dX4_waysOf_68 : decode cX4_waysOf 68 = .ok (.iand, 1) := by decide +kernel
theorem dX4_waysOf_69 : decode cX4_waysOf 69 = .ok (.ifCond .ne 8, 3) := by decide +kernel
theorem dX4_waysOf_72 : decode cX4_waysOf 72 = .ok (.lload 4, 2) := by decide +kernel
theorem dX4_waysOf_74 : decode cX4_waysOf 74 = .ok (.goto 4, 3) := by decide +kernel
theorem dX4_waysOf_77 : decode cX4_waysOf 77 = .ok (.lconst 0, 1) := by decide +kernel
theorem dX4_waysOf_78 : decode cX4_waysOf 78 = .ok (.lreturn, 1) := by decide +kernel
theorem dX4_allWays_0 : decode cX4_allWays 0 = .ok (.lconst 1, 1) := by decide +kernel
theorem dX4_allWays_1 : decode cX4_allWays 1 = .ok (.lstore_n 1, 1) := by decide +kernel
theorem dX4_allWays_2 : decode cX4_allWays 2 = .ok (.iconst 0, 1) := by decide +kernel
theorem dX4_allWays_3 : decode cX4_allWays 3 = .ok (.istore_n 3, 1) := by decide +kernel
theorem dX4_allWays_4 : decode cX4_allWays 4 = .ok (.iload_n 3, 1) := by decide +kernel
theorem dX4_allWays_5 : decode cX4_allWays 5 = .ok (.aload_n 0, 1) := by decide +kernel
theorem dX4_allWays_6 : decode cX4_allWays 6 = .ok (.invokevirtual 149, 3) := by decide +kernel
theorem dX4_allWays_9 : decode cX4_allWays 9 = .ok (.invokestatic 153, 3) := by decide +kernel
theorem dX4_allWays_12 : decode cX4_allWays 12 = .ok (.if_icmp .ge 15, 3) := by decide +kernel
theorem dX4_allWays_15 : decode cX4_allWays 15 = .ok (.lload_n 1, 1) := by decide +kernel
theorem dX4_allWays_16 : decode cX4_allWays 16 = .ok (.ldc2_w 219, 3) := by decide +kernel
theorem dX4_allWays_19 : decode cX4_allWays 19 = .ok (.lmul, 1) := by decide +kernel
theorem dX4_allWays_20 : decode cX4_allWays 20 = .ok (.lstore_n 1, 1) := by decide +kernel
theorem dX4_allWays_21 : decode cX4_allWays 21 = .ok (.iinc 3 1, 3) := by decide +kernel
theorem dX4_allWays_24 : decode cX4_allWays 24 = .ok (.goto (-20), 3) := by decide +kernel
theorem dX4_allWays_27 : decode cX4_allWays 27 = .ok (.lload_n 1, 1) := by decide +kernel
theorem dX4_allWays_28 : decode cX4_allWays 28 = .ok (.lreturn, 1) := by decide +kernel
theorem dX4_odds_0 : decode cX4_odds 0 = .ok (.iload_n 1, 1) := by decide +kernel
theorem dX4_odds_1 : decode cX4_odds 1 = .ok (.iconst 0, 1) := by decide +kernel
theorem dX4_odds_2 : decode cX4_odds 2 = .ok (.bipush 12, 2) := by decide +kernel
theorem dX4_odds_4 : decode cX4_odds 4 = .ok (.invokestatic 77, 3) := by decide +kernel
theorem dX4_odds_7 : decode cX4_odds 7 = .ok (.ifCond .ne 5, 3) := by decide +kernel
theorem dX4_odds_10 : decode cX4_odds 10 = .ok (.iconst (-1), 1) := by decide +kernel
theorem dX4_odds_11 : decode cX4_odds 11 = .ok (.ireturn, 1) := by decide +kernel
theorem dX4_odds_12 : decode cX4_odds 12 = .ok (.aload_n 0, 1) := by decide +kernel
theorem dX4_odds_13 : decode cX4_odds 13 = .ok (.getfield 104, 3) := by decide +kernel
theorem dX4_odds_16 : decode cX4_odds 16 = .ok (.ifCond .ne 6, 3) := by decide +kernel
theorem dX4_odds_19 : decode cX4_odds 19 = .ok (.bipush (-4), 2) := by decide +kernel
theorem dX4_odds_21 : decode cX4_odds 21 = .ok (.ireturn, 1) := by decide +kernel
theorem dX4_odds_22 : decode cX4_odds 22 = .ok (.aload_n 0, 1) := by decide +kernel
theorem dX4_odds_23 : decode cX4_odds 23 = .ok (.invokevirtual 181, 3) := by decide +kernel
theorem dX4_odds_26 : decode cX4_odds 26 = .ok (.aload_n 0, 1) := by decide +kernel
theorem dX4_odds_27 : decode cX4_odds 27 = .ok (.invokevirtual 190, 3) := by decide +kernel
theorem dX4_odds_30 : decode cX4_odds 30 = .ok (.lconst 0, 1) := by decide +kernel
theorem dX4_odds_31 : decode cX4_odds 31 = .ok (.lstore_n 2, 1) := by decide +kernel
theorem dX4_odds_32 : decode cX4_odds 32 = .ok (.iconst 0, 1) := by decide +kernel
theorem dX4_odds_33 : decode cX4_odds 33 = .ok (.istore 4, 2) := by decide +kernel
theorem dX4_odds_35 : decode cX4_odds 35 = .ok (.iload 4, 2) := by decide +kernel
theorem dX4_odds_37 : decode cX4_odds 37 = .ok (.iconst 1, 1) := by decide +kernel
theorem dX4_odds_38 : decode cX4_odds 38 = .ok (.aload_n 0, 1) := by decide +kernel
theorem dX4_odds_39 : decode cX4_odds 39 = .ok (.getfield 104, 3) := by decide +kernel
theorem dX4_odds_42 : decode cX4_odds 42 = .ok (.ishl, 1) := by decide +kernel
theorem dX4_odds_43 : decode cX4_odds 43 = .ok (.if_icmp .ge 32, 3) := by decide +kernel
theorem dX4_odds_46 : decode cX4_odds 46 = .ok (.lload_n 2, 1) := by decide +kernel
theorem dX4_odds_47 : decode cX4_odds 47 = .ok (.aload_n 0, 1) := by decide +kernel
theorem dX4_odds_48 : decode cX4_odds 48 = .ok (.iload 4, 2) := by decide +kernel
theorem dX4_odds_50 : decode cX4_odds 50 = .ok (.invokevirtual 175, 3) := by decide +kernel
theorem dX4_odds_53 : decode cX4_odds 53 = .ok (.ifCond .le 13, 3) := by decide +kernel
theorem dX4_odds_56 : decode cX4_odds 56 = .ok (.aload_n 0, 1) := by decide +kernel
theorem dX4_odds_57 : decode cX4_odds 57 = .ok (.iload 4, 2) := by decide +kernel
theorem dX4_odds_59 : decode cX4_odds 59 = .ok (.iload_n 1, 1) := by decide +kernel
theorem dX4_odds_60 : decode cX4_odds 60 = .ok (.invokevirtual 221, 3) := by decide +kernel
theorem dX4_odds_63 : decode cX4_odds 63 = .ok (.goto 4, 3) := by decide +kernel
theorem dX4_odds_66 : decode cX4_odds 66 = .ok (.lconst 0, 1) := by decide +kernel
theorem dX4_odds_67 : decode cX4_odds 67 = .ok (.ladd, 1) := by decide +kernel
theorem dX4_odds_68 : decode cX4_odds 68 = .ok (.lstore_n 2, 1) := by decide +kernel
theorem dX4_odds_69 : decode cX4_odds 69 = .ok (.iinc 4 1, 3) := by decide +kernel
theorem dX4_odds_72 : decode cX4_odds 72 = .ok (.goto (-37), 3) := by decide +kernel
theorem dX4_odds_75 : decode cX4_odds 75 = .ok (.aload_n 0, 1) := by decide +kernel
theorem dX4_odds_76 : decode cX4_odds 76 = .ok (.lload_n 2, 1) := by decide +kernel
theorem dX4_odds_77 : decode cX4_odds 77 = .ok (.aload_n 0, 1) := by decide +kernel
theorem dX4_odds_78 : decode cX4_odds 78 = .ok (.invokevirtual 225, 3) := by decide +kernel
theorem dX4_odds_81 : decode cX4_odds 81 = .ok (.invokevirtual 229, 3) := by decide +kernel
theorem dX4_odds_84 : decode cX4_odds 84 = .ok (.ireturn, 1) := by decide +kernel
theorem dX4_mid_0 : decode cX4_mid 0 = .ok (.iload_n 1, 1) := by decide +kernel
theorem dX4_mid_1 : decode cX4_mid 1 = .ok (.iconst 0, 1) := by decide +kernel
theorem dX4_mid_2 : decode cX4_mid 2 = .ok (.bipush 12, 2) := by decide +kernel
theorem dX4_mid_4 : decode cX4_mid 4 = .ok (.invokestatic 77, 3) := by decide +kernel
theorem dX4_mid_7 : decode cX4_mid 7 = .ok (.ifCond .ne 5, 3) := by decide +kernel
theorem dX4_mid_10 : decode cX4_mid 10 = .ok (.iconst (-1), 1) := by decide +kernel
theorem dX4_mid_11 : decode cX4_mid 11 = .ok (.ireturn, 1) := by decide +kernel
theorem dX4_mid_12 : decode cX4_mid 12 = .ok (.aload_n 0, 1) := by decide +kernel
theorem dX4_mid_13 : decode cX4_mid 13 = .ok (.getfield 104, 3) := by decide +kernel
theorem dX4_mid_16 : decode cX4_mid 16 = .ok (.ifCond .ne 6, 3) := by decide +kernel
theorem dX4_mid_19 : decode cX4_mid 19 = .ok (.bipush (-4), 2) := by decide +kernel
theorem dX4_mid_21 : decode cX4_mid 21 = .ok (.ireturn, 1) := by decide +kernel
theorem dX4_mid_22 : decode cX4_mid 22 = .ok (.aload_n 0, 1) := by decide +kernel
theorem dX4_mid_23 : decode cX4_mid 23 = .ok (.invokevirtual 181, 3) := by decide +kernel
theorem dX4_mid_26 : decode cX4_mid 26 = .ok (.aload_n 0, 1) := by decide +kernel
theorem dX4_mid_27 : decode cX4_mid 27 = .ok (.invokevirtual 190, 3) := by decide +kernel
theorem dX4_mid_30 : decode cX4_mid 30 = .ok (.lconst 0, 1) := by decide +kernel
theorem dX4_mid_31 : decode cX4_mid 31 = .ok (.lstore_n 2, 1) := by decide +kernel
theorem dX4_mid_32 : decode cX4_mid 32 = .ok (.iconst 0, 1) := by decide +kernel
theorem dX4_mid_33 : decode cX4_mid 33 = .ok (.istore 4, 2) := by decide +kernel
theorem dX4_mid_35 : decode cX4_mid 35 = .ok (.iload 4, 2) := by decide +kernel
theorem dX4_mid_37 : decode cX4_mid 37 = .ok (.iconst 1, 1) := by decide +kernel
theorem dX4_mid_38 : decode cX4_mid 38 = .ok (.aload_n 0, 1) := by decide +kernel
theorem dX4_mid_39 : decode cX4_mid 39 = .ok (.getfield 104, 3) := by decide +kernel
theorem dX4_mid_42 : decode cX4_mid 42 = .ok (.ishl, 1) := by decide +kernel
theorem dX4_mid_43 : decode cX4_mid 43 = .ok (.if_icmp .ge 27, 3) := by decide +kernel
theorem dX4_mid_46 : decode cX4_mid 46 = .ok (.lload_n 2, 1) := by decide +kernel
theorem dX4_mid_47 : decode cX4_mid 47 = .ok (.aload_n 0, 1) := by decide +kernel
theorem dX4_mid_48 : decode cX4_mid 48 = .ok (.iload 4, 2) := by decide +kernel
theorem dX4_mid_50 : decode cX4_mid 50 = .ok (.iload_n 1, 1) := by decide +kernel
theorem dX4_mid_51 : decode cX4_mid 51 = .ok (.invokevirtual 221, 3) := by decide +kernel
theorem dX4_mid_54 : decode cX4_mid 54 = .ok (.aload_n 0, 1) := by decide +kernel
theorem dX4_mid_55 : decode cX4_mid 55 = .ok (.iload 4, 2) := by decide +kernel
theorem dX4_mid_57 : decode cX4_mid 57 = .ok (.invokevirtual 210, 3) := by decide +kernel
theorem dX4_mid_60 : decode cX4_mid 60 = .ok (.i2l, 1) := by decide +kernel
theorem dX4_mid_61 : decode cX4_mid 61 = .ok (.lmul, 1) := by decide +kernel
theorem dX4_mid_62 : decode cX4_mid 62 = .ok (.ladd, 1) := by decide +kernel
theorem dX4_mid_63 : decode cX4_mid 63 = .ok (.lstore_n 2, 1) := by decide +kernel
theorem dX4_mid_64 : decode cX4_mid 64 = .ok (.iinc 4 1, 3) := by decide +kernel
theorem dX4_mid_67 : decode cX4_mid 67 = .ok (.goto (-32), 3) := by decide +kernel
theorem dX4_mid_70 : decode cX4_mid 70 = .ok (.aload_n 0, 1) := by decide +kernel
theorem dX4_mid_71 : decode cX4_mid 71 = .ok (.lload_n 2, 1) := by decide +kernel
theorem dX4_mid_72 : decode cX4_mid 72 = .ok (.aload_n 0, 1) := by decide +kernel
theorem dX4_mid_73 : decode cX4_mid 73 = .ok (.invokevirtual 225, 3) := by decide +kernel
theorem dX4_mid_76 : decode cX4_mid 76 = .ok (.invokevirtual 229, 3) := by decide +kernel
theorem dX4_mid_79 : decode cX4_mid 79 = .ok (.ireturn, 1) := by decide +kernel
theorem dX4_lot_0 : decode cX4_lot 0 = .ok (.iload_n 1, 1) := by decide +kernel
theorem dX4_lot_1 : decode cX4_lot 1 = .ok (.tableswitch 123 0 2 #[27, 58, 96], 27) := by decide +kernel
theorem dX4_lot_28 : decode cX4_lot 28 = .ok (.iload_n 2, 1) := by decide +kernel
theorem dX4_lot_29 : decode cX4_lot 29 = .ok (.iload_n 3, 1) := by decide +kernel
theorem dX4_lot_30 : decode cX4_lot 30 = .ok (.if_icmp .eq 107, 3) := by decide +kernel
theorem dX4_lot_33 : decode cX4_lot 33 = .ok (.aload_n 0, 1) := by decide +kernel
theorem dX4_lot_34 : decode cX4_lot 34 = .ok (.iload_n 2, 1) := by decide +kernel
theorem dX4_lot_35 : decode cX4_lot 35 = .ok (.invokevirtual 131, 3) := by decide +kernel
theorem dX4_lot_38 : decode cX4_lot 38 = .ok (.ifCond .ne 99, 3) := by decide +kernel
theorem dX4_lot_41 : decode cX4_lot 41 = .ok (.aload_n 0, 1) := by decide +kernel
theorem dX4_lot_42 : decode cX4_lot 42 = .ok (.iload_n 3, 1) := by decide +kernel
theorem dX4_lot_43 : decode cX4_lot 43 = .ok (.invokevirtual 131, 3) := by decide +kernel
theorem dX4_lot_46 : decode cX4_lot 46 = .ok (.ifCond .ne 91, 3) := by decide +kernel
theorem dX4_lot_49 : decode cX4_lot 49 = .ok (.aload_n 0, 1) := by decide +kernel
theorem dX4_lot_50 : decode cX4_lot 50 = .ok (.iload_n 2, 1) := by decide +kernel
theorem dX4_lot_51 : decode cX4_lot 51 = .ok (.iload_n 3, 1) := by decide +kernel
theorem dX4_lot_52 : decode cX4_lot 52 = .ok (.invokevirtual 165, 3) := by decide +kernel
theorem dX4_lot_55 : decode cX4_lot 55 = .ok (.pop, 1) := by decide +kernel
theorem dX4_lot_56 : decode cX4_lot 56 = .ok (.goto 81, 3) := by decide +kernel
theorem dX4_lot_59 : decode cX4_lot 59 = .ok (.aload_n 0, 1) := by decide +kernel
theorem dX4_lot_60 : decode cX4_lot 60 = .ok (.getfield 42, 3) := by decide +kernel
theorem dX4_lot_63 : decode cX4_lot 63 = .ok (.bipush 10, 2) := by decide +kernel
theorem dX4_lot_65 : decode cX4_lot 65 = .ok (.aload_n 0, 1) := by decide +kernel
theorem dX4_lot_66 : decode cX4_lot 66 = .ok (.getfield 107, 3) := by decide +kernel
theorem dX4_lot_69 : decode cX4_lot 69 = .ok (.imul, 1) := by decide +kernel
theorem dX4_lot_70 : decode cX4_lot 70 = .ok (.bipush 9, 2) := by decide +kernel
theorem dX4_lot_72 : decode cX4_lot 72 = .ok (.iadd, 1) := by decide +kernel
theorem dX4_lot_73 : decode cX4_lot 73 = .ok (.dup2, 1) := by decide +kernel
theorem dX4_lot_74 : decode cX4_lot 74 = .ok (.iaload, 1) := by decide +kernel
theorem dX4_lot_75 : decode cX4_lot 75 = .ok (.aload_n 0, 1) := by decide +kernel
theorem dX4_lot_76 : decode cX4_lot 76 = .ok (.iload_n 2, 1) := by decide +kernel
theorem dX4_lot_77 : decode cX4_lot 77 = .ok (.invokevirtual 131, 3) := by decide +kernel
theorem dX4_lot_80 : decode cX4_lot 80 = .ok (.ifCond .eq 7, 3) := by decide +kernel
theorem dX4_lot_83 : decode cX4_lot 83 = .ok (.iconst 0, 1) := by decide +kernel
theorem dX4_lot_84 : decode cX4_lot 84 = .ok (.goto 8, 3) := by decide +kernel
theorem dX4_lot_87 : decode cX4_lot 87 = .ok (.aload_n 0, 1) := by decide +kernel
theorem dX4_lot_88 : decode cX4_lot 88 = .ok (.iload_n 2, 1) := by decide +kernel
theorem dX4_lot_89 : decode cX4_lot 89 = .ok (.invokevirtual 140, 3) := by decide +kernel
theorem dX4_lot_92 : decode cX4_lot 92 = .ok (.ior, 1) := by decide +kernel
theorem dX4_lot_93 : decode cX4_lot 93 = .ok (.iastore, 1) := by decide +kernel
theorem dX4_lot_94 : decode cX4_lot 94 = .ok (.goto 43, 3) := by decide +kernel
theorem dX4_lot_97 : decode cX4_lot 97 = .ok (.aload_n 0, 1) := by decide +kernel
theorem dX4_lot_98 : decode cX4_lot 98 = .ok (.iload_n 2, 1) := by decide +kernel
theorem dX4_lot_99 : decode cX4_lot 99 = .ok (.aload_n 0, 1) := by decide +kernel
theorem dX4_lot_100 : decode cX4_lot 100 = .ok (.iload_n 2, 1) := by decide +kernel
theorem dX4_lot_101 : decode cX4_lot 101 = .ok (.invokevirtual 131, 3) := by decide +kernel
theorem dX4_lot_104 : decode cX4_lot 104 = .ok (.ifCond .eq 7, 3) := by decide +kernel
theorem dX4_lot_107 : decode cX4_lot 107 = .ok (.iconst 0, 1) := by decide +kernel
theorem dX4_lot_108 : decode cX4_lot 108 = .ok (.goto 9, 3) := by decide +kernel
theorem dX4_lot_111 : decode cX4_lot 111 = .ok (.aload_n 0, 1) := by decide +kernel
theorem dX4_lot_112 : decode cX4_lot 112 = .ok (.bipush 9, 2) := by decide +kernel
theorem dX4_lot_114 : decode cX4_lot 114 = .ok (.invokevirtual 110, 3) := by decide +kernel
theorem dX4_lot_117 : decode cX4_lot 117 = .ok (.invokevirtual 159, 3) := by decide +kernel
theorem dX4_lot_120 : decode cX4_lot 120 = .ok (.pop, 1) := by decide +kernel
theorem dX4_lot_121 : decode cX4_lot 121 = .ok (.goto 16, 3) := by decide +kernel
theorem dX4_lot_124 : decode cX4_lot 124 = .ok (.aload_n 0, 1) := by decide +kernel
theorem dX4_lot_125 : decode cX4_lot 125 = .ok (.iload_n 2, 1) := by decide +kernel
theorem dX4_lot_126 : decode cX4_lot 126 = .ok (.invokevirtual 137, 3) := by decide +kernel
theorem dX4_lot_129 : decode cX4_lot 129 = .ok (.ifCond .eq 8, 3) := by decide +kernel
theorem dX4_lot_132 : decode cX4_lot 132 = .ok (.aload_n 0, 1) := by decide +kernel
theorem dX4_lot_133 : decode cX4_lot 133 = .ok (.iload_n 2, 1) := by decide +kernel
theorem dX4_lot_134 : decode cX4_lot 134 = .ok (.invokevirtual 168, 3) := by decide +kernel
theorem dX4_lot_137 : decode cX4_lot 137 = .ok (.return_, 1) := by decide +kernel
theorem dX4_lots_0 : decode cX4_lots 0 = .ok (.iload_n 1, 1) := by decide +kernel
theorem dX4_lots_1 : decode cX4_lots 1 = .ok (.iconst 1, 1) := by decide +kernel
theorem dX4_lots_2 : decode cX4_lots 2 = .ok (.bipush 20, 2) := by decide +kernel
theorem dX4_lots_4 : decode cX4_lots 4 = .ok (.invokestatic 77, 3) := by decide +kernel
theorem dX4_lots_7 : decode cX4_lots 7 = .ok (.ifCond .eq 13, 3) := by decide +kernel
theorem dX4_lots_10 : decode cX4_lots 10 = .ok (.iload_n 2, 1) := by decide +kernel
theorem dX4_lots_11 : decode cX4_lots 11 = .ok (.iconst 1, 1) := by decide +kernel
theorem dX4_lots_12 : decode cX4_lots 12 = .ok (.ldc 233, 2) := by decide +kernel
theorem dX4_lots_14 : decode cX4_lots 14 = .ok (.invokestatic 77, 3) := by decide +kernel
theorem dX4_lots_17 : decode cX4_lots 17 = .ok (.ifCond .ne 5, 3) := by decide +kernel
theorem dX4_lots_20 : decode cX4_lots 20 = .ok (.iconst (-1), 1) := by decide +kernel
theorem dX4_lots_21 : decode cX4_lots 21 = .ok (.ireturn, 1) := by decide +kernel
theorem dX4_lots_22 : decode cX4_lots 22 = .ok (.aload_n 0, 1) := by decide +kernel
theorem dX4_lots_23 : decode cX4_lots 23 = .ok (.getfield 104, 3) := by decide +kernel
theorem dX4_lots_26 : decode cX4_lots 26 = .ok (.ifCond .ne 6, 3) := by decide +kernel
theorem dX4_lots_29 : decode cX4_lots 29 = .ok (.bipush (-4), 2) := by decide +kernel
theorem dX4_lots_31 : decode cX4_lots 31 = .ok (.ireturn, 1) := by decide +kernel
theorem dX4_lots_32 : decode cX4_lots 32 = .ok (.aload_n 0, 1) := by decide +kernel
theorem dX4_lots_33 : decode cX4_lots 33 = .ok (.getfield 107, 3) := by decide +kernel
theorem dX4_lots_36 : decode cX4_lots 36 = .ok (.iload_n 1, 1) := by decide +kernel
theorem dX4_lots_37 : decode cX4_lots 37 = .ok (.iadd, 1) := by decide +kernel
theorem dX4_lots_38 : decode cX4_lots 38 = .ok (.bipush 40, 2) := by decide +kernel
theorem dX4_lots_40 : decode cX4_lots 40 = .ok (.if_icmp .le 6, 3) := by decide +kernel
theorem dX4_lots_43 : decode cX4_lots 43 = .ok (.bipush (-2), 2) := by decide +kernel
theorem dX4_lots_45 : decode cX4_lots 45 = .ok (.ireturn, 1) := by decide +kernel
theorem dX4_lots_46 : decode cX4_lots 46 = .ok (.iload_n 2, 1) := by decide +kernel
theorem dX4_lots_47 : decode cX4_lots 47 = .ok (.i2l, 1) := by decide +kernel
theorem dX4_lots_48 : decode cX4_lots 48 = .ok (.lstore_n 3, 1) := by decide +kernel
theorem dX4_lots_49 : decode cX4_lots 49 = .ok (.iconst 0, 1) := by decide +kernel
theorem dX4_lots_50 : decode cX4_lots 50 = .ok (.istore 5, 2) := by decide +kernel
theorem dX4_lots_52 : decode cX4_lots 52 = .ok (.iload 5, 2) := by decide +kernel
theorem dX4_lots_54 : decode cX4_lots 54 = .ok (.iload_n 1, 1) := by decide +kernel
theorem dX4_lots_55 : decode cX4_lots 55 = .ok (.if_icmp .ge 57, 3) := by decide +kernel
theorem dX4_lots_58 : decode cX4_lots 58 = .ok (.lload_n 3, 1) := by decide +kernel
theorem dX4_lots_59 : decode cX4_lots 59 = .ok (.ldc2_w 234, 3) := by decide +kernel
theorem dX4_lots_62 : decode cX4_lots 62 = .ok (.lmul, 1) := by decide +kernel
theorem dX4_lots_63 : decode cX4_lots 63 = .ok (.ldc2_w 236, 3) := by decide +kernel
theorem dX4_lots_66 : decode cX4_lots 66 = .ok (.lrem, 1) := by decide +kernel
theorem dX4_lots_67 : decode cX4_lots 67 = .ok (.lstore_n 3, 1) := by decide +kernel
theorem dX4_lots_68 : decode cX4_lots 68 = .ok (.aload_n 0, 1) := by decide +kernel
theorem dX4_lots_69 : decode cX4_lots 69 = .ok (.invokevirtual 162, 3) := by decide +kernel
theorem dX4_lots_72 : decode cX4_lots 72 = .ok (.aload_n 0, 1) := by decide +kernel
theorem dX4_lots_73 : decode cX4_lots 73 = .ok (.lload_n 3, 1) := by decide +kernel
theorem dX4_lots_74 : decode cX4_lots 74 = .ok (.ldc2_w 238, 3) := by decide +kernel
theorem dX4_lots_77 : decode cX4_lots 77 = .ok (.lrem, 1) := by decide +kernel
theorem dX4_lots_78 : decode cX4_lots 78 = .ok (.l2i, 1) := by decide +kernel
theorem dX4_lots_79 : decode cX4_lots 79 = .ok (.lload_n 3, 1) := by decide +kernel
theorem dX4_lots_80 : decode cX4_lots 80 = .ok (.ldc2_w 240, 3) := by decide +kernel
theorem dX4_lots_83 : decode cX4_lots 83 = .ok (.ldiv, 1) := by decide +kernel
theorem dX4_lots_84 : decode cX4_lots 84 = .ok (.aload_n 0, 1) := by decide +kernel
theorem dX4_lots_85 : decode cX4_lots 85 = .ok (.getfield 104, 3) := by decide +kernel
theorem dX4_lots_88 : decode cX4_lots 88 = .ok (.i2l, 1) := by decide +kernel
theorem dX4_lots_89 : decode cX4_lots 89 = .ok (.lrem, 1) := by decide +kernel
theorem dX4_lots_90 : decode cX4_lots 90 = .ok (.l2i, 1) := by decide +kernel
theorem dX4_lots_91 : decode cX4_lots 91 = .ok (.lload_n 3, 1) := by decide +kernel
theorem dX4_lots_92 : decode cX4_lots 92 = .ok (.ldc2_w 242, 3) := by decide +kernel
theorem dX4_lots_95 : decode cX4_lots 95 = .ok (.ldiv, 1) := by decide +kernel
theorem dX4_lots_96 : decode cX4_lots 96 = .ok (.aload_n 0, 1) := by decide +kernel
theorem dX4_lots_97 : decode cX4_lots 97 = .ok (.getfield 104, 3) := by decide +kernel
theorem dX4_lots_100 : decode cX4_lots 100 = .ok (.i2l, 1) := by decide +kernel
theorem dX4_lots_101 : decode cX4_lots 101 = .ok (.lrem, 1) := by decide +kernel
theorem dX4_lots_102 : decode cX4_lots 102 = .ok (.l2i, 1) := by decide +kernel
theorem dX4_lots_103 : decode cX4_lots 103 = .ok (.invokevirtual 244, 3) := by decide +kernel
theorem dX4_lots_106 : decode cX4_lots 106 = .ok (.iinc 5 1, 3) := by decide +kernel
theorem dX4_lots_109 : decode cX4_lots 109 = .ok (.goto (-57), 3) := by decide +kernel
theorem dX4_lots_112 : decode cX4_lots 112 = .ok (.aload_n 0, 1) := by decide +kernel
theorem dX4_lots_113 : decode cX4_lots 113 = .ok (.bipush 7, 2) := by decide +kernel
theorem dX4_lots_115 : decode cX4_lots 115 = .ok (.invokevirtual 110, 3) := by decide +kernel
theorem dX4_lots_118 : decode cX4_lots 118 = .ok (.invokestatic 153, 3) := by decide +kernel
theorem dX4_lots_121 : decode cX4_lots 121 = .ok (.ireturn, 1) := by decide +kernel
theorem dX4_asked_0 : decode cX4_asked 0 = .ok (.aload_n 0, 1) := by decide +kernel
theorem dX4_asked_1 : decode cX4_asked 1 = .ok (.getfield 71, 3) := by decide +kernel
theorem dX4_asked_4 : decode cX4_asked 4 = .ok (.ireturn, 1) := by decide +kernel
theorem dX4_upper_0 : decode cX4_upper 0 = .ok (.aload_n 0, 1) := by decide +kernel
theorem dX4_upper_1 : decode cX4_upper 1 = .ok (.getfield 74, 3) := by decide +kernel
theorem dX4_upper_4 : decode cX4_upper 4 = .ok (.lreturn, 1) := by decide +kernel
theorem dX4_lower_0 : decode cX4_lower 0 = .ok (.aload_n 0, 1) := by decide +kernel
theorem dX4_lower_1 : decode cX4_lower 1 = .ok (.getfield 13, 3) := by decide +kernel
theorem dX4_lower_4 : decode cX4_lower 4 = .ok (.lreturn, 1) := by decide +kernel
theorem dX4_thereAre_0 : decode cX4_thereAre 0 = .ok (.iconst 0, 1) := by decide +kernel
theorem dX4_thereAre_1 : decode cX4_thereAre 1 = .ok (.istore_n 2, 1) := by decide +kernel
theorem dX4_thereAre_2 : decode cX4_thereAre 2 = .ok (.iconst 0, 1) := by decide +kernel
theorem dX4_thereAre_3 : decode cX4_thereAre 3 = .ok (.istore_n 3, 1) := by decide +kernel
theorem dX4_thereAre_4 : decode cX4_thereAre 4 = .ok (.iload_n 3, 1) := by decide +kernel
theorem dX4_thereAre_5 : decode cX4_thereAre 5 = .ok (.bipush 6, 2) := by decide +kernel
theorem dX4_thereAre_7 : decode cX4_thereAre 7 = .ok (.if_icmp .ge 106, 3) := by decide +kernel
theorem dX4_thereAre_10 : decode cX4_thereAre 10 = .ok (.iload_n 2, 1) := by decide +kernel
theorem dX4_thereAre_11 : decode cX4_thereAre 11 = .ok (.iload_n 1, 1) := by decide +kernel
theorem dX4_thereAre_12 : decode cX4_thereAre 12 = .ok (.bipush 7, 2) := by decide +kernel
theorem dX4_thereAre_14 : decode cX4_thereAre 14 = .ok (.if_icmp .ne 16, 3) := by decide +kernel
theorem dX4_thereAre_17 : decode cX4_thereAre 17 = .ok (.aload_n 0, 1) := by decide +kernel
theorem dX4_thereAre_18 : decode cX4_thereAre 18 = .ok (.getfield 17, 3) := by decide +kernel
theorem dX4_thereAre_21 : decode cX4_thereAre 21 = .ok (.iload_n 3, 1) := by decide +kernel
theorem dX4_thereAre_22 : decode cX4_thereAre 22 = .ok (.iaload, 1) := by decide +kernel
theorem dX4_thereAre_23 : decode cX4_thereAre 23 = .ok (.ifCond .lt 7, 3) := by decide +kernel
theorem dX4_thereAre_26 : decode cX4_thereAre 26 = .ok (.iconst 1, 1) := by decide +kernel
theorem dX4_thereAre_27 : decode cX4_thereAre 27 = .ok (.goto 4, 3) := by decide +kernel
theorem dX4_thereAre_30 : decode cX4_thereAre 30 = .ok (.iconst 0, 1) := by decide +kernel
theorem dX4_thereAre_31 : decode cX4_thereAre 31 = .ok (.iadd, 1) := by decide +kernel
theorem dX4_thereAre_32 : decode cX4_thereAre 32 = .ok (.istore_n 2, 1) := by decide +kernel
theorem dX4_thereAre_33 : decode cX4_thereAre 33 = .ok (.iload_n 2, 1) := by decide +kernel
theorem dX4_thereAre_34 : decode cX4_thereAre 34 = .ok (.iload_n 1, 1) := by decide +kernel
theorem dX4_thereAre_35 : decode cX4_thereAre 35 = .ok (.bipush 8, 2) := by decide +kernel
theorem dX4_thereAre_37 : decode cX4_thereAre 37 = .ok (.if_icmp .ne 30, 3) := by decide +kernel
theorem dX4_thereAre_40 : decode cX4_thereAre 40 = .ok (.iload_n 3, 1) := by decide +kernel
theorem dX4_thereAre_41 : decode cX4_thereAre 41 = .ok (.iconst 4, 1) := by decide +kernel
theorem dX4_thereAre_42 : decode cX4_thereAre 42 = .ok (.if_icmp .ge 25, 3) := by decide +kernel
theorem dX4_thereAre_45 : decode cX4_thereAre 45 = .ok (.aload_n 0, 1) := by decide +kernel
theorem dX4_thereAre_46 : decode cX4_thereAre 46 = .ok (.getfield 23, 3) := by decide +kernel
theorem dX4_thereAre_49 : decode cX4_thereAre 49 = .ok (.iload_n 3, 1) := by decide +kernel
theorem dX4_thereAre_50 : decode cX4_thereAre 50 = .ok (.iconst 4, 1) := by decide +kernel
theorem dX4_thereAre_51 : decode cX4_thereAre 51 = .ok (.if_icmp .ge 7, 3) := by decide +kernel
theorem dX4_thereAre_54 : decode cX4_thereAre 54 = .ok (.iload_n 3, 1) := by decide +kernel
theorem dX4_thereAre_55 : decode cX4_thereAre 55 = .ok (.goto 4, 3) := by decide +kernel
theorem dX4_thereAre_58 : decode cX4_thereAre 58 = .ok (.iconst 0, 1) := by decide +kernel
theorem dX4_thereAre_59 : decode cX4_thereAre 59 = .ok (.iaload, 1) := by decide +kernel
theorem dX4_thereAre_60 : decode cX4_thereAre 60 = .ok (.ifCond .lt 7, 3) := by decide +kernel
theorem dX4_thereAre_63 : decode cX4_thereAre 63 = .ok (.iconst 1, 1) := by decide +kernel
theorem dX4_thereAre_64 : decode cX4_thereAre 64 = .ok (.goto 4, 3) := by decide +kernel
theorem dX4_thereAre_67 : decode cX4_thereAre 67 = .ok (.iconst 0, 1) := by decide +kernel
theorem dX4_thereAre_68 : decode cX4_thereAre 68 = .ok (.iadd, 1) := by decide +kernel
theorem dX4_thereAre_69 : decode cX4_thereAre 69 = .ok (.istore_n 2, 1) := by decide +kernel
theorem dX4_thereAre_70 : decode cX4_thereAre 70 = .ok (.iload_n 2, 1) := by decide +kernel
theorem dX4_thereAre_71 : decode cX4_thereAre 71 = .ok (.iload_n 1, 1) := by decide +kernel
theorem dX4_thereAre_72 : decode cX4_thereAre 72 = .ok (.bipush 9, 2) := by decide +kernel
theorem dX4_thereAre_74 : decode cX4_thereAre 74 = .ok (.if_icmp .ne 30, 3) := by decide +kernel
theorem dX4_thereAre_77 : decode cX4_thereAre 77 = .ok (.iload_n 3, 1) := by decide +kernel
theorem dX4_thereAre_78 : decode cX4_thereAre 78 = .ok (.iconst 3, 1) := by decide +kernel
theorem dX4_thereAre_79 : decode cX4_thereAre 79 = .ok (.if_icmp .ge 25, 3) := by decide +kernel
theorem dX4_thereAre_82 : decode cX4_thereAre 82 = .ok (.aload_n 0, 1) := by decide +kernel
theorem dX4_thereAre_83 : decode cX4_thereAre 83 = .ok (.getfield 48, 3) := by decide +kernel
theorem dX4_thereAre_86 : decode cX4_thereAre 86 = .ok (.iload_n 3, 1) := by decide +kernel
theorem dX4_thereAre_87 : decode cX4_thereAre 87 = .ok (.iconst 3, 1) := by decide +kernel
theorem dX4_thereAre_88 : decode cX4_thereAre 88 = .ok (.if_icmp .ge 7, 3) := by decide +kernel
theorem dX4_thereAre_91 : decode cX4_thereAre 91 = .ok (.iload_n 3, 1) := by decide +kernel
theorem dX4_thereAre_92 : decode cX4_thereAre 92 = .ok (.goto 4, 3) := by decide +kernel
theorem dX4_thereAre_95 : decode cX4_thereAre 95 = .ok (.iconst 0, 1) := by decide +kernel
theorem dX4_thereAre_96 : decode cX4_thereAre 96 = .ok (.iaload, 1) := by decide +kernel
theorem dX4_thereAre_97 : decode cX4_thereAre 97 = .ok (.ifCond .lt 7, 3) := by decide +kernel
theorem dX4_thereAre_100 : decode cX4_thereAre 100 = .ok (.iconst 1, 1) := by decide +kernel
theorem dX4_thereAre_101 : decode cX4_thereAre 101 = .ok (.goto 4, 3) := by decide +kernel
theorem dX4_thereAre_104 : decode cX4_thereAre 104 = .ok (.iconst 0, 1) := by decide +kernel
theorem dX4_thereAre_105 : decode cX4_thereAre 105 = .ok (.iadd, 1) := by decide +kernel
theorem dX4_thereAre_106 : decode cX4_thereAre 106 = .ok (.istore_n 2, 1) := by decide +kernel
theorem dX4_thereAre_107 : decode cX4_thereAre 107 = .ok (.iinc 3 1, 3) := by decide +kernel
theorem dX4_thereAre_110 : decode cX4_thereAre 110 = .ok (.goto (-106), 3) := by decide +kernel
theorem dX4_thereAre_113 : decode cX4_thereAre 113 = .ok (.iload_n 2, 1) := by decide +kernel
theorem dX4_thereAre_114 : decode cX4_thereAre 114 = .ok (.ireturn, 1) := by decide +kernel
theorem dX4_count_0 : decode cX4_count 0 = .ok (.iload_n 1, 1) := by decide +kernel
theorem dX4_count_1 : decode cX4_count 1 = .ok (.tableswitch 142 0 11 #[63, 68, 78, 83, 90, 97, 104, 112, 112, 112, 118, 133], 63) := by decide +kernel
theorem dX4_count_64 : decode cX4_count 64 = .ok (.aload_n 0, 1) := by decide +kernel
theorem dX4_count_65 : decode cX4_count 65 = .ok (.getfield 104, 3) := by decide +kernel
theorem dX4_count_68 : decode cX4_count 68 = .ok (.ireturn, 1) := by decide +kernel
theorem dX4_count_69 : decode cX4_count 69 = .ok (.aload_n 0, 1) := by decide +kernel
theorem dX4_count_70 : decode cX4_count 70 = .ok (.bipush 7, 2) := by decide +kernel
theorem dX4_count_72 : decode cX4_count 72 = .ok (.invokevirtual 110, 3) := by decide +kernel
theorem dX4_count_75 : decode cX4_count 75 = .ok (.invokestatic 153, 3) := by decide +kernel
theorem dX4_count_78 : decode cX4_count 78 = .ok (.ireturn, 1) := by decide +kernel
theorem dX4_count_79 : decode cX4_count 79 = .ok (.aload_n 0, 1) := by decide +kernel
theorem dX4_count_80 : decode cX4_count 80 = .ok (.getfield 107, 3) := by decide +kernel
theorem dX4_count_83 : decode cX4_count 83 = .ok (.ireturn, 1) := by decide +kernel
theorem dX4_count_84 : decode cX4_count 84 = .ok (.aload_n 0, 1) := by decide +kernel
theorem dX4_count_85 : decode cX4_count 85 = .ok (.bipush 8, 2) := by decide +kernel
theorem dX4_count_87 : decode cX4_count 87 = .ok (.invokevirtual 110, 3) := by decide +kernel
theorem dX4_count_90 : decode cX4_count 90 = .ok (.ireturn, 1) := by decide +kernel
theorem dX4_count_91 : decode cX4_count 91 = .ok (.aload_n 0, 1) := by decide +kernel
theorem dX4_count_92 : decode cX4_count 92 = .ok (.bipush 7, 2) := by decide +kernel
theorem dX4_count_94 : decode cX4_count 94 = .ok (.invokevirtual 110, 3) := by decide +kernel
theorem dX4_count_97 : decode cX4_count 97 = .ok (.ireturn, 1) := by decide +kernel
theorem dX4_count_98 : decode cX4_count 98 = .ok (.aload_n 0, 1) := by decide +kernel
theorem dX4_count_99 : decode cX4_count 99 = .ok (.bipush 9, 2) := by decide +kernel
theorem dX4_count_101 : decode cX4_count 101 = .ok (.invokevirtual 110, 3) := by decide +kernel
theorem dX4_count_104 : decode cX4_count 104 = .ok (.ireturn, 1) := by decide +kernel
theorem dX4_count_105 : decode cX4_count 105 = .ok (.aload_n 0, 1) := by decide +kernel
theorem dX4_count_106 : decode cX4_count 106 = .ok (.invokevirtual 178, 3) := by decide +kernel
theorem dX4_count_109 : decode cX4_count 109 = .ok (.invokestatic 153, 3) := by decide +kernel
theorem dX4_count_112 : decode cX4_count 112 = .ok (.ireturn, 1) := by decide +kernel
theorem dX4_count_113 : decode cX4_count 113 = .ok (.aload_n 0, 1) := by decide +kernel
theorem dX4_count_114 : decode cX4_count 114 = .ok (.iload_n 1, 1) := by decide +kernel
theorem dX4_count_115 : decode cX4_count 115 = .ok (.invokevirtual 248, 3) := by decide +kernel
theorem dX4_count_118 : decode cX4_count 118 = .ok (.ireturn, 1) := by decide +kernel
theorem dX4_count_119 : decode cX4_count 119 = .ok (.aload_n 0, 1) := by decide +kernel
theorem dX4_count_120 : decode cX4_count 120 = .ok (.iconst 4, 1) := by decide +kernel
theorem dX4_count_121 : decode cX4_count 121 = .ok (.invokevirtual 120, 3) := by decide +kernel
theorem dX4_count_124 : decode cX4_count 124 = .ok (.aload_n 0, 1) := by decide +kernel
theorem dX4_count_125 : decode cX4_count 125 = .ok (.iconst 5, 1) := by decide +kernel
theorem dX4_count_126 : decode cX4_count 126 = .ok (.invokevirtual 120, 3) := by decide +kernel
theorem dX4_count_129 : decode cX4_count 129 = .ok (.ior, 1) := by decide +kernel
theorem dX4_count_130 : decode cX4_count 130 = .ok (.invokestatic 153, 3) := by decide +kernel
theorem dX4_count_133 : decode cX4_count 133 = .ok (.ireturn, 1) := by decide +kernel
theorem dX4_count_134 : decode cX4_count 134 = .ok (.aload_n 0, 1) := by decide +kernel
theorem dX4_count_135 : decode cX4_count 135 = .ok (.iconst 1, 1) := by decide +kernel
theorem dX4_count_136 : decode cX4_count 136 = .ok (.invokevirtual 120, 3) := by decide +kernel
theorem dX4_count_139 : decode cX4_count 139 = .ok (.invokestatic 153, 3) := by decide +kernel
theorem dX4_count_142 : decode cX4_count 142 = .ok (.ireturn, 1) := by decide +kernel
theorem dX4_count_143 : decode cX4_count 143 = .ok (.iconst (-1), 1) := by decide +kernel
theorem dX4_count_144 : decode cX4_count 144 = .ok (.ireturn, 1) := by decide +kernel
theorem dX4_finding_0 : decode cX4_finding 0 = .ok (.aload_n 0, 1) := by decide +kernel
theorem dX4_finding_1 : decode cX4_finding 1 = .ok (.getfield 67, 3) := by decide +kernel
theorem dX4_finding_4 : decode cX4_finding 4 = .ok (.ireturn, 1) := by decide +kernel
theorem dX4_findings_0 : decode cX4_findings 0 = .ok (.iload_n 1, 1) := by decide +kernel
theorem dX4_findings_1 : decode cX4_findings 1 = .ok (.iconst 1, 1) := by decide +kernel
theorem dX4_findings_2 : decode cX4_findings 2 = .ok (.iconst 5, 1) := by decide +kernel
theorem dX4_findings_3 : decode cX4_findings 3 = .ok (.invokestatic 77, 3) := by decide +kernel
theorem dX4_findings_6 : decode cX4_findings 6 = .ok (.ifCond .eq 12, 3) := by decide +kernel
theorem dX4_findings_9 : decode cX4_findings 9 = .ok (.aload_n 0, 1) := by decide +kernel
theorem dX4_findings_10 : decode cX4_findings 10 = .ok (.getfield 7, 3) := by decide +kernel
theorem dX4_findings_13 : decode cX4_findings 13 = .ok (.iload_n 1, 1) := by decide +kernel
theorem dX4_findings_14 : decode cX4_findings 14 = .ok (.iaload, 1) := by decide +kernel
theorem dX4_findings_15 : decode cX4_findings 15 = .ok (.goto 4, 3) := by decide +kernel
theorem dX4_findings_18 : decode cX4_findings 18 = .ok (.iconst (-1), 1) := by decide +kernel
theorem dX4_findings_19 : decode cX4_findings 19 = .ok (.ireturn, 1) := by decide +kernel
theorem dX4_digest_0 : decode cX4_digest 0 = .ok (.ldc2_w 251, 3) := by decide +kernel
theorem dX4_digest_3 : decode cX4_digest 3 = .ok (.lstore_n 1, 1) := by decide +kernel
theorem dX4_digest_4 : decode cX4_digest 4 = .ok (.iconst 0, 1) := by decide +kernel
theorem dX4_digest_5 : decode cX4_digest 5 = .ok (.istore_n 3, 1) := by decide +kernel
theorem dX4_digest_6 : decode cX4_digest 6 = .ok (.iload_n 3, 1) := by decide +kernel
theorem dX4_digest_7 : decode cX4_digest 7 = .ok (.bipush 11, 2) := by decide +kernel
theorem dX4_digest_9 : decode cX4_digest 9 = .ok (.if_icmp .gt 22, 3) := by decide +kernel
theorem dX4_digest_12 : decode cX4_digest 12 = .ok (.ldc2_w 253, 3) := by decide +kernel
theorem dX4_digest_15 : decode cX4_digest 15 = .ok (.lload_n 1, 1) := by decide +kernel
theorem dX4_digest_16 : decode cX4_digest 16 = .ok (.lmul, 1) := by decide +kernel
theorem dX4_digest_17 : decode cX4_digest 17 = .ok (.aload_n 0, 1) := by decide +kernel
theorem dX4_digest_18 : decode cX4_digest 18 = .ok (.iload_n 3, 1) := by decide +kernel
theorem dX4_digest_19 : decode cX4_digest 19 = .ok (.invokevirtual 255, 3) := by decide +kernel
theorem dX4_digest_22 : decode cX4_digest 22 = .ok (.i2l, 1) := by decide +kernel
theorem dX4_digest_23 : decode cX4_digest 23 = .ok (.ladd, 1) := by decide +kernel
theorem dX4_digest_24 : decode cX4_digest 24 = .ok (.lstore_n 1, 1) := by decide +kernel
theorem dX4_digest_25 : decode cX4_digest 25 = .ok (.iinc 3 1, 3) := by decide +kernel
theorem dX4_digest_28 : decode cX4_digest 28 = .ok (.goto (-22), 3) := by decide +kernel
theorem dX4_digest_31 : decode cX4_digest 31 = .ok (.iconst 0, 1) := by decide +kernel
theorem dX4_digest_32 : decode cX4_digest 32 = .ok (.istore_n 3, 1) := by decide +kernel
theorem dX4_digest_33 : decode cX4_digest 33 = .ok (.iload_n 3, 1) := by decide +kernel
theorem dX4_digest_34 : decode cX4_digest 34 = .ok (.aload_n 0, 1) := by decide +kernel
theorem dX4_digest_35 : decode cX4_digest 35 = .ok (.getfield 104, 3) := by decide +kernel
theorem dX4_digest_38 : decode cX4_digest 38 = .ok (.if_icmp .ge 40, 3) := by decide +kernel
theorem dX4_digest_41 : decode cX4_digest 41 = .ok (.iconst 0, 1) := by decide +kernel
theorem dX4_digest_42 : decode cX4_digest 42 = .ok (.istore 4, 2) := by decide +kernel
theorem dX4_digest_44 : decode cX4_digest 44 = .ok (.iload 4, 2) := by decide +kernel
theorem dX4_digest_46 : decode cX4_digest 46 = .ok (.bipush 6, 2) := by decide +kernel
theorem dX4_digest_48 : decode cX4_digest 48 = .ok (.if_icmp .gt 24, 3) := by decide +kernel
theorem dX4_digest_51 : decode cX4_digest 51 = .ok (.ldc2_w 253, 3) := by decide +kernel
theorem dX4_digest_54 : decode cX4_digest 54 = .ok (.lload_n 1, 1) := by decide +kernel
theorem dX4_digest_55 : decode cX4_digest 55 = .ok (.lmul, 1) := by decide +kernel
theorem dX4_digest_56 : decode cX4_digest 56 = .ok (.aload_n 0, 1) := by decide +kernel
theorem dX4_digest_57 : decode cX4_digest 57 = .ok (.iload_n 3, 1) := by decide +kernel
theorem dX4_digest_58 : decode cX4_digest 58 = .ok (.iload 4, 2) := by decide +kernel
theorem dX4_digest_60 : decode cX4_digest 60 = .ok (.invokevirtual 146, 3) := by decide +kernel
theorem dX4_digest_63 : decode cX4_digest 63 = .ok (.i2l, 1) := by decide +kernel
theorem dX4_digest_64 : decode cX4_digest 64 = .ok (.ladd, 1) := by decide +kernel
theorem dX4_digest_65 : decode cX4_digest 65 = .ok (.lstore_n 1, 1) := by decide +kernel
theorem dX4_digest_66 : decode cX4_digest 66 = .ok (.iinc 4 1, 3) := by decide +kernel
theorem dX4_digest_69 : decode cX4_digest 69 = .ok (.goto (-25), 3) := by decide +kernel
theorem dX4_digest_72 : decode cX4_digest 72 = .ok (.iinc 3 1, 3) := by decide +kernel
theorem dX4_digest_75 : decode cX4_digest 75 = .ok (.goto (-42), 3) := by decide +kernel
theorem dX4_digest_78 : decode cX4_digest 78 = .ok (.iconst 0, 1) := by decide +kernel
theorem dX4_digest_79 : decode cX4_digest 79 = .ok (.istore_n 3, 1) := by decide +kernel
theorem dX4_digest_80 : decode cX4_digest 80 = .ok (.iload_n 3, 1) := by decide +kernel
theorem dX4_digest_81 : decode cX4_digest 81 = .ok (.iconst 3, 1) := by decide +kernel
theorem dX4_digest_82 : decode cX4_digest 82 = .ok (.if_icmp .ge 23, 3) := by decide +kernel
theorem dX4_digest_85 : decode cX4_digest 85 = .ok (.ldc2_w 253, 3) := by decide +kernel
theorem dX4_digest_88 : decode cX4_digest 88 = .ok (.lload_n 1, 1) := by decide +kernel
theorem dX4_digest_89 : decode cX4_digest 89 = .ok (.lmul, 1) := by decide +kernel
theorem dX4_digest_90 : decode cX4_digest 90 = .ok (.aload_n 0, 1) := by decide +kernel
theorem dX4_digest_91 : decode cX4_digest 91 = .ok (.getfield 48, 3) := by decide +kernel
theorem dX4_digest_94 : decode cX4_digest 94 = .ok (.iload_n 3, 1) := by decide +kernel
theorem dX4_digest_95 : decode cX4_digest 95 = .ok (.iaload, 1) := by decide +kernel
theorem dX4_digest_96 : decode cX4_digest 96 = .ok (.i2l, 1) := by decide +kernel
theorem dX4_digest_97 : decode cX4_digest 97 = .ok (.ladd, 1) := by decide +kernel
theorem dX4_digest_98 : decode cX4_digest 98 = .ok (.lstore_n 1, 1) := by decide +kernel
theorem dX4_digest_99 : decode cX4_digest 99 = .ok (.iinc 3 1, 3) := by decide +kernel
theorem dX4_digest_102 : decode cX4_digest 102 = .ok (.goto (-22), 3) := by decide +kernel
theorem dX4_digest_105 : decode cX4_digest 105 = .ok (.iconst 0, 1) := by decide +kernel
theorem dX4_digest_106 : decode cX4_digest 106 = .ok (.istore_n 3, 1) := by decide +kernel
theorem dX4_digest_107 : decode cX4_digest 107 = .ok (.iload_n 3, 1) := by decide +kernel
theorem dX4_digest_108 : decode cX4_digest 108 = .ok (.bipush 6, 2) := by decide +kernel
theorem dX4_digest_110 : decode cX4_digest 110 = .ok (.if_icmp .ge 63, 3) := by decide +kernel
theorem dX4_digest_113 : decode cX4_digest 113 = .ok (.ldc2_w 253, 3) := by decide +kernel
theorem dX4_digest_116 : decode cX4_digest 116 = .ok (.lload_n 1, 1) := by decide +kernel
theorem dX4_digest_117 : decode cX4_digest 117 = .ok (.lmul, 1) := by decide +kernel
theorem dX4_digest_118 : decode cX4_digest 118 = .ok (.aload_n 0, 1) := by decide +kernel
theorem dX4_digest_119 : decode cX4_digest 119 = .ok (.getfield 17, 3) := by decide +kernel
theorem dX4_digest_122 : decode cX4_digest 122 = .ok (.iload_n 3, 1) := by decide +kernel
theorem dX4_digest_123 : decode cX4_digest 123 = .ok (.iaload, 1) := by decide +kernel
theorem dX4_digest_124 : decode cX4_digest 124 = .ok (.i2l, 1) := by decide +kernel
theorem dX4_digest_125 : decode cX4_digest 125 = .ok (.ladd, 1) := by decide +kernel
theorem dX4_digest_126 : decode cX4_digest 126 = .ok (.lstore_n 1, 1) := by decide +kernel
theorem dX4_digest_127 : decode cX4_digest 127 = .ok (.iconst 0, 1) := by decide +kernel
theorem dX4_digest_128 : decode cX4_digest 128 = .ok (.istore 4, 2) := by decide +kernel
theorem dX4_digest_130 : decode cX4_digest 130 = .ok (.iload 4, 2) := by decide +kernel
theorem dX4_digest_132 : decode cX4_digest 132 = .ok (.aload_n 0, 1) := by decide +kernel
theorem dX4_digest_133 : decode cX4_digest 133 = .ok (.getfield 17, 3) := by decide +kernel
theorem dX4_digest_136 : decode cX4_digest 136 = .ok (.iload_n 3, 1) := by decide +kernel
theorem dX4_digest_137 : decode cX4_digest 137 = .ok (.iaload, 1) := by decide +kernel
theorem dX4_digest_138 : decode cX4_digest 138 = .ok (.if_icmp .ge 29, 3) := by decide +kernel
theorem dX4_digest_141 : decode cX4_digest 141 = .ok (.ldc2_w 253, 3) := by decide +kernel
theorem dX4_digest_144 : decode cX4_digest 144 = .ok (.lload_n 1, 1) := by decide +kernel
theorem dX4_digest_145 : decode cX4_digest 145 = .ok (.lmul, 1) := by decide +kernel
theorem dX4_digest_146 : decode cX4_digest 146 = .ok (.aload_n 0, 1) := by decide +kernel
theorem dX4_digest_147 : decode cX4_digest 147 = .ok (.getfield 20, 3) := by decide +kernel
theorem dX4_digest_150 : decode cX4_digest 150 = .ok (.bipush 40, 2) := by decide +kernel
theorem dX4_digest_152 : decode cX4_digest 152 = .ok (.iload_n 3, 1) := by decide +kernel
theorem dX4_digest_153 : decode cX4_digest 153 = .ok (.imul, 1) := by decide +kernel
theorem dX4_digest_154 : decode cX4_digest 154 = .ok (.iload 4, 2) := by decide +kernel
theorem dX4_digest_156 : decode cX4_digest 156 = .ok (.iadd, 1) := by decide +kernel
theorem dX4_digest_157 : decode cX4_digest 157 = .ok (.iaload, 1) := by decide +kernel
theorem dX4_digest_158 : decode cX4_digest 158 = .ok (.i2l, 1) := by decide +kernel
theorem dX4_digest_159 : decode cX4_digest 159 = .ok (.ladd, 1) := by decide +kernel
theorem dX4_digest_160 : decode cX4_digest 160 = .ok (.lstore_n 1, 1) := by decide +kernel
theorem dX4_digest_161 : decode cX4_digest 161 = .ok (.iinc 4 1, 3) := by decide +kernel
theorem dX4_digest_164 : decode cX4_digest 164 = .ok (.goto (-34), 3) := by decide +kernel
theorem dX4_digest_167 : decode cX4_digest 167 = .ok (.iinc 3 1, 3) := by decide +kernel
theorem dX4_digest_170 : decode cX4_digest 170 = .ok (.goto (-63), 3) := by decide +kernel
theorem dX4_digest_173 : decode cX4_digest 173 = .ok (.iconst 0, 1) := by decide +kernel
theorem dX4_digest_174 : decode cX4_digest 174 = .ok (.istore_n 3, 1) := by decide +kernel
theorem dX4_digest_175 : decode cX4_digest 175 = .ok (.iload_n 3, 1) := by decide +kernel
theorem dX4_digest_176 : decode cX4_digest 176 = .ok (.iconst 4, 1) := by decide +kernel
theorem dX4_digest_177 : decode cX4_digest 177 = .ok (.if_icmp .ge 63, 3) := by decide +kernel
theorem dX4_digest_180 : decode cX4_digest 180 = .ok (.ldc2_w 253, 3) := by decide +kernel
theorem dX4_digest_183 : decode cX4_digest 183 = .ok (.lload_n 1, 1) := by decide +kernel
theorem dX4_digest_184 : decode cX4_digest 184 = .ok (.lmul, 1) := by decide +kernel
theorem dX4_digest_185 : decode cX4_digest 185 = .ok (.aload_n 0, 1) := by decide +kernel
theorem dX4_digest_186 : decode cX4_digest 186 = .ok (.getfield 23, 3) := by decide +kernel
theorem dX4_digest_189 : decode cX4_digest 189 = .ok (.iload_n 3, 1) := by decide +kernel
theorem dX4_digest_190 : decode cX4_digest 190 = .ok (.iaload, 1) := by decide +kernel
theorem dX4_digest_191 : decode cX4_digest 191 = .ok (.i2l, 1) := by decide +kernel
theorem dX4_digest_192 : decode cX4_digest 192 = .ok (.ladd, 1) := by decide +kernel
theorem dX4_digest_193 : decode cX4_digest 193 = .ok (.lstore_n 1, 1) := by decide +kernel
theorem dX4_digest_194 : decode cX4_digest 194 = .ok (.iconst 0, 1) := by decide +kernel
theorem dX4_digest_195 : decode cX4_digest 195 = .ok (.istore 4, 2) := by decide +kernel
theorem dX4_digest_197 : decode cX4_digest 197 = .ok (.iload 4, 2) := by decide +kernel
theorem dX4_digest_199 : decode cX4_digest 199 = .ok (.aload_n 0, 1) := by decide +kernel
theorem dX4_digest_200 : decode cX4_digest 200 = .ok (.getfield 23, 3) := by decide +kernel
theorem dX4_digest_203 : decode cX4_digest 203 = .ok (.iload_n 3, 1) := by decide +kernel
theorem dX4_digest_204 : decode cX4_digest 204 = .ok (.iaload, 1) := by decide +kernel
theorem dX4_digest_205 : decode cX4_digest 205 = .ok (.if_icmp .ge 29, 3) := by decide +kernel
theorem dX4_digest_208 : decode cX4_digest 208 = .ok (.ldc2_w 253, 3) := by decide +kernel
theorem dX4_digest_211 : decode cX4_digest 211 = .ok (.lload_n 1, 1) := by decide +kernel
theorem dX4_digest_212 : decode cX4_digest 212 = .ok (.lmul, 1) := by decide +kernel
theorem dX4_digest_213 : decode cX4_digest 213 = .ok (.aload_n 0, 1) := by decide +kernel
theorem dX4_digest_214 : decode cX4_digest 214 = .ok (.getfield 26, 3) := by decide +kernel
theorem dX4_digest_217 : decode cX4_digest 217 = .ok (.bipush 60, 2) := by decide +kernel
theorem dX4_digest_219 : decode cX4_digest 219 = .ok (.iload_n 3, 1) := by decide +kernel
theorem dX4_digest_220 : decode cX4_digest 220 = .ok (.imul, 1) := by decide +kernel
theorem dX4_digest_221 : decode cX4_digest 221 = .ok (.iload 4, 2) := by decide +kernel
theorem dX4_digest_223 : decode cX4_digest 223 = .ok (.iadd, 1) := by decide +kernel
theorem dX4_digest_224 : decode cX4_digest 224 = .ok (.baload, 1) := by decide +kernel
theorem dX4_digest_225 : decode cX4_digest 225 = .ok (.i2l, 1) := by decide +kernel
theorem dX4_digest_226 : decode cX4_digest 226 = .ok (.ladd, 1) := by decide +kernel
theorem dX4_digest_227 : decode cX4_digest 227 = .ok (.lstore_n 1, 1) := by decide +kernel
theorem dX4_digest_228 : decode cX4_digest 228 = .ok (.iinc 4 1, 3) := by decide +kernel
theorem dX4_digest_231 : decode cX4_digest 231 = .ok (.goto (-34), 3) := by decide +kernel
theorem dX4_digest_234 : decode cX4_digest 234 = .ok (.iinc 3 1, 3) := by decide +kernel
theorem dX4_digest_237 : decode cX4_digest 237 = .ok (.goto (-62), 3) := by decide +kernel
theorem dX4_digest_240 : decode cX4_digest 240 = .ok (.lload_n 1, 1) := by decide +kernel
theorem dX4_digest_241 : decode cX4_digest 241 = .ok (.lreturn, 1) := by decide +kernel
theorem dJ6_numberOfTrailingZeros_0f7a4_0 : decode cJ6_numberOfTrailingZeros_0f7a4 0 = .ok (.iload_n 0, 1) := by decide +kernel
theorem dJ6_numberOfTrailingZeros_0f7a4_1 : decode cJ6_numberOfTrailingZeros_0f7a4 1 = .ok (.iconst (-1), 1) := by decide +kernel
theorem dJ6_numberOfTrailingZeros_0f7a4_2 : decode cJ6_numberOfTrailingZeros_0f7a4 2 = .ok (.ixor, 1) := by decide +kernel
theorem dJ6_numberOfTrailingZeros_0f7a4_3 : decode cJ6_numberOfTrailingZeros_0f7a4 3 = .ok (.iload_n 0, 1) := by decide +kernel
theorem dJ6_numberOfTrailingZeros_0f7a4_4 : decode cJ6_numberOfTrailingZeros_0f7a4 4 = .ok (.iconst 1, 1) := by decide +kernel
theorem dJ6_numberOfTrailingZeros_0f7a4_5 : decode cJ6_numberOfTrailingZeros_0f7a4 5 = .ok (.isub, 1) := by decide +kernel
theorem dJ6_numberOfTrailingZeros_0f7a4_6 : decode cJ6_numberOfTrailingZeros_0f7a4 6 = .ok (.iand, 1) := by decide +kernel
theorem dJ6_numberOfTrailingZeros_0f7a4_7 : decode cJ6_numberOfTrailingZeros_0f7a4 7 = .ok (.istore_n 0, 1) := by decide +kernel
theorem dJ6_numberOfTrailingZeros_0f7a4_8 : decode cJ6_numberOfTrailingZeros_0f7a4 8 = .ok (.iload_n 0, 1) := by decide +kernel
theorem dJ6_numberOfTrailingZeros_0f7a4_9 : decode cJ6_numberOfTrailingZeros_0f7a4 9 = .ok (.ifCond .gt 8, 3) := by decide +kernel
theorem dJ6_numberOfTrailingZeros_0f7a4_12 : decode cJ6_numberOfTrailingZeros_0f7a4 12 = .ok (.iload_n 0, 1) := by decide +kernel
theorem dJ6_numberOfTrailingZeros_0f7a4_13 : decode cJ6_numberOfTrailingZeros_0f7a4 13 = .ok (.bipush 32, 2) := by decide +kernel
theorem dJ6_numberOfTrailingZeros_0f7a4_15 : decode cJ6_numberOfTrailingZeros_0f7a4 15 = .ok (.iand, 1) := by decide +kernel
theorem dJ6_numberOfTrailingZeros_0f7a4_16 : decode cJ6_numberOfTrailingZeros_0f7a4 16 = .ok (.ireturn, 1) := by decide +kernel
theorem dJ6_numberOfTrailingZeros_0f7a4_17 : decode cJ6_numberOfTrailingZeros_0f7a4 17 = .ok (.iconst 1, 1) := by decide +kernel
theorem dJ6_numberOfTrailingZeros_0f7a4_18 : decode cJ6_numberOfTrailingZeros_0f7a4 18 = .ok (.istore_n 1, 1) := by decide +kernel
theorem dJ6_numberOfTrailingZeros_0f7a4_19 : decode cJ6_numberOfTrailingZeros_0f7a4 19 = .ok (.iload_n 0, 1) := by decide +kernel
theorem dJ6_numberOfTrailingZeros_0f7a4_20 : decode cJ6_numberOfTrailingZeros_0f7a4 20 = .ok (.ldc_w 264, 3) := by decide +kernel
theorem dJ6_numberOfTrailingZeros_0f7a4_23 : decode cJ6_numberOfTrailingZeros_0f7a4 23 = .ok (.if_icmp .le 11, 3) := by decide +kernel
theorem dJ6_numberOfTrailingZeros_0f7a4_26 : decode cJ6_numberOfTrailingZeros_0f7a4 26 = .ok (.iinc 1 16, 3) := by decide +kernel
theorem dJ6_numberOfTrailingZeros_0f7a4_29 : decode cJ6_numberOfTrailingZeros_0f7a4 29 = .ok (.iload_n 0, 1) := by decide +kernel
theorem dJ6_numberOfTrailingZeros_0f7a4_30 : decode cJ6_numberOfTrailingZeros_0f7a4 30 = .ok (.bipush 16, 2) := by decide +kernel
theorem dJ6_numberOfTrailingZeros_0f7a4_32 : decode cJ6_numberOfTrailingZeros_0f7a4 32 = .ok (.iushr, 1) := by decide +kernel
theorem dJ6_numberOfTrailingZeros_0f7a4_33 : decode cJ6_numberOfTrailingZeros_0f7a4 33 = .ok (.istore_n 0, 1) := by decide +kernel
theorem dJ6_numberOfTrailingZeros_0f7a4_34 : decode cJ6_numberOfTrailingZeros_0f7a4 34 = .ok (.iload_n 0, 1) := by decide +kernel
theorem dJ6_numberOfTrailingZeros_0f7a4_35 : decode cJ6_numberOfTrailingZeros_0f7a4 35 = .ok (.sipush 256, 3) := by decide +kernel
theorem dJ6_numberOfTrailingZeros_0f7a4_38 : decode cJ6_numberOfTrailingZeros_0f7a4 38 = .ok (.if_icmp .le 11, 3) := by decide +kernel
theorem dJ6_numberOfTrailingZeros_0f7a4_41 : decode cJ6_numberOfTrailingZeros_0f7a4 41 = .ok (.iinc 1 8, 3) := by decide +kernel
theorem dJ6_numberOfTrailingZeros_0f7a4_44 : decode cJ6_numberOfTrailingZeros_0f7a4 44 = .ok (.iload_n 0, 1) := by decide +kernel
theorem dJ6_numberOfTrailingZeros_0f7a4_45 : decode cJ6_numberOfTrailingZeros_0f7a4 45 = .ok (.bipush 8, 2) := by decide +kernel
theorem dJ6_numberOfTrailingZeros_0f7a4_47 : decode cJ6_numberOfTrailingZeros_0f7a4 47 = .ok (.iushr, 1) := by decide +kernel
theorem dJ6_numberOfTrailingZeros_0f7a4_48 : decode cJ6_numberOfTrailingZeros_0f7a4 48 = .ok (.istore_n 0, 1) := by decide +kernel
theorem dJ6_numberOfTrailingZeros_0f7a4_49 : decode cJ6_numberOfTrailingZeros_0f7a4 49 = .ok (.iload_n 0, 1) := by decide +kernel
theorem dJ6_numberOfTrailingZeros_0f7a4_50 : decode cJ6_numberOfTrailingZeros_0f7a4 50 = .ok (.bipush 16, 2) := by decide +kernel
theorem dJ6_numberOfTrailingZeros_0f7a4_52 : decode cJ6_numberOfTrailingZeros_0f7a4 52 = .ok (.if_icmp .le 10, 3) := by decide +kernel
theorem dJ6_numberOfTrailingZeros_0f7a4_55 : decode cJ6_numberOfTrailingZeros_0f7a4 55 = .ok (.iinc 1 4, 3) := by decide +kernel
theorem dJ6_numberOfTrailingZeros_0f7a4_58 : decode cJ6_numberOfTrailingZeros_0f7a4 58 = .ok (.iload_n 0, 1) := by decide +kernel
theorem dJ6_numberOfTrailingZeros_0f7a4_59 : decode cJ6_numberOfTrailingZeros_0f7a4 59 = .ok (.iconst 4, 1) := by decide +kernel
theorem dJ6_numberOfTrailingZeros_0f7a4_60 : decode cJ6_numberOfTrailingZeros_0f7a4 60 = .ok (.iushr, 1) := by decide +kernel
theorem dJ6_numberOfTrailingZeros_0f7a4_61 : decode cJ6_numberOfTrailingZeros_0f7a4 61 = .ok (.istore_n 0, 1) := by decide +kernel
theorem dJ6_numberOfTrailingZeros_0f7a4_62 : decode cJ6_numberOfTrailingZeros_0f7a4 62 = .ok (.iload_n 0, 1) := by decide +kernel
theorem dJ6_numberOfTrailingZeros_0f7a4_63 : decode cJ6_numberOfTrailingZeros_0f7a4 63 = .ok (.iconst 4, 1) := by decide +kernel
theorem dJ6_numberOfTrailingZeros_0f7a4_64 : decode cJ6_numberOfTrailingZeros_0f7a4 64 = .ok (.if_icmp .le 10, 3) := by decide +kernel
theorem dJ6_numberOfTrailingZeros_0f7a4_67 : decode cJ6_numberOfTrailingZeros_0f7a4 67 = .ok (.iinc 1 2, 3) := by decide +kernel
end
section
theorem dJ6_numberOfTrailingZeros_0f7a4_70 : decode cJ6_numberOfTrailingZeros_0f7a4 70 = .ok (.iload_n 0, 1) := by decide +kernel
theorem dJ6_numberOfTrailingZeros_0f7a4_71 : decode cJ6_numberOfTrailingZeros_0f7a4 71 = .ok (.iconst 2, 1) := by decide +kernel
theorem dJ6_numberOfTrailingZeros_0f7a4_72 : decode cJ6_numberOfTrailingZeros_0f7a4 72 = .ok (.iushr, 1) := by decide +kernel
theorem dJ6_numberOfTrailingZeros_0f7a4_73 : decode cJ6_numberOfTrailingZeros_0f7a4 73 = .ok (.istore_n 0, 1) := by decide +kernel
theorem dJ6_numberOfTrailingZeros_0f7a4_74 : decode cJ6_numberOfTrailingZeros_0f7a4 74 = .ok (.iload_n 1, 1) := by decide +kernel
theorem dJ6_numberOfTrailingZeros_0f7a4_75 : decode cJ6_numberOfTrailingZeros_0f7a4 75 = .ok (.iload_n 0, 1) := by decide +kernel
theorem dJ6_numberOfTrailingZeros_0f7a4_76 : decode cJ6_numberOfTrailingZeros_0f7a4 76 = .ok (.iconst 1, 1) := by decide +kernel
theorem dJ6_numberOfTrailingZeros_0f7a4_77 : decode cJ6_numberOfTrailingZeros_0f7a4 77 = .ok (.iushr, 1) := by decide +kernel
theorem dJ6_numberOfTrailingZeros_0f7a4_78 : decode cJ6_numberOfTrailingZeros_0f7a4 78 = .ok (.iadd, 1) := by decide +kernel
theorem dJ6_numberOfTrailingZeros_0f7a4_79 : decode cJ6_numberOfTrailingZeros_0f7a4 79 = .ok (.ireturn, 1) := by decide +kernel
theorem dJ6_bitCount_0f7a4_0 : decode cJ6_bitCount_0f7a4 0 = .ok (.iload_n 0, 1) := by decide +kernel
theorem dJ6_bitCount_0f7a4_1 : decode cJ6_bitCount_0f7a4 1 = .ok (.iload_n 0, 1) := by decide +kernel
theorem dJ6_bitCount_0f7a4_2 : decode cJ6_bitCount_0f7a4 2 = .ok (.iconst 1, 1) := by decide +kernel
theorem dJ6_bitCount_0f7a4_3 : decode cJ6_bitCount_0f7a4 3 = .ok (.iushr, 1) := by decide +kernel
theorem dJ6_bitCount_0f7a4_4 : decode cJ6_bitCount_0f7a4 4 = .ok (.ldc_w 265, 3) := by decide +kernel
theorem dJ6_bitCount_0f7a4_7 : decode cJ6_bitCount_0f7a4 7 = .ok (.iand, 1) := by decide +kernel
theorem dJ6_bitCount_0f7a4_8 : decode cJ6_bitCount_0f7a4 8 = .ok (.isub, 1) := by decide +kernel
theorem dJ6_bitCount_0f7a4_9 : decode cJ6_bitCount_0f7a4 9 = .ok (.istore_n 0, 1) := by decide +kernel
theorem dJ6_bitCount_0f7a4_10 : decode cJ6_bitCount_0f7a4 10 = .ok (.iload_n 0, 1) := by decide +kernel
theorem dJ6_bitCount_0f7a4_11 : decode cJ6_bitCount_0f7a4 11 = .ok (.ldc_w 266, 3) := by decide +kernel
theorem dJ6_bitCount_0f7a4_14 : decode cJ6_bitCount_0f7a4 14 = .ok (.iand, 1) := by decide +kernel
theorem dJ6_bitCount_0f7a4_15 : decode cJ6_bitCount_0f7a4 15 = .ok (.iload_n 0, 1) := by decide +kernel
theorem dJ6_bitCount_0f7a4_16 : decode cJ6_bitCount_0f7a4 16 = .ok (.iconst 2, 1) := by decide +kernel
theorem dJ6_bitCount_0f7a4_17 : decode cJ6_bitCount_0f7a4 17 = .ok (.iushr, 1) := by decide +kernel
theorem dJ6_bitCount_0f7a4_18 : decode cJ6_bitCount_0f7a4 18 = .ok (.ldc_w 266, 3) := by decide +kernel
theorem dJ6_bitCount_0f7a4_21 : decode cJ6_bitCount_0f7a4 21 = .ok (.iand, 1) := by decide +kernel
theorem dJ6_bitCount_0f7a4_22 : decode cJ6_bitCount_0f7a4 22 = .ok (.iadd, 1) := by decide +kernel
theorem dJ6_bitCount_0f7a4_23 : decode cJ6_bitCount_0f7a4 23 = .ok (.istore_n 0, 1) := by decide +kernel
theorem dJ6_bitCount_0f7a4_24 : decode cJ6_bitCount_0f7a4 24 = .ok (.iload_n 0, 1) := by decide +kernel
theorem dJ6_bitCount_0f7a4_25 : decode cJ6_bitCount_0f7a4 25 = .ok (.iload_n 0, 1) := by decide +kernel
theorem dJ6_bitCount_0f7a4_26 : decode cJ6_bitCount_0f7a4 26 = .ok (.iconst 4, 1) := by decide +kernel
theorem dJ6_bitCount_0f7a4_27 : decode cJ6_bitCount_0f7a4 27 = .ok (.iushr, 1) := by decide +kernel
theorem dJ6_bitCount_0f7a4_28 : decode cJ6_bitCount_0f7a4 28 = .ok (.iadd, 1) := by decide +kernel
theorem dJ6_bitCount_0f7a4_29 : decode cJ6_bitCount_0f7a4 29 = .ok (.ldc_w 267, 3) := by decide +kernel
theorem dJ6_bitCount_0f7a4_32 : decode cJ6_bitCount_0f7a4 32 = .ok (.iand, 1) := by decide +kernel
theorem dJ6_bitCount_0f7a4_33 : decode cJ6_bitCount_0f7a4 33 = .ok (.istore_n 0, 1) := by decide +kernel
theorem dJ6_bitCount_0f7a4_34 : decode cJ6_bitCount_0f7a4 34 = .ok (.iload_n 0, 1) := by decide +kernel
theorem dJ6_bitCount_0f7a4_35 : decode cJ6_bitCount_0f7a4 35 = .ok (.iload_n 0, 1) := by decide +kernel
theorem dJ6_bitCount_0f7a4_36 : decode cJ6_bitCount_0f7a4 36 = .ok (.bipush 8, 2) := by decide +kernel
theorem dJ6_bitCount_0f7a4_38 : decode cJ6_bitCount_0f7a4 38 = .ok (.iushr, 1) := by decide +kernel
theorem dJ6_bitCount_0f7a4_39 : decode cJ6_bitCount_0f7a4 39 = .ok (.iadd, 1) := by decide +kernel
theorem dJ6_bitCount_0f7a4_40 : decode cJ6_bitCount_0f7a4 40 = .ok (.istore_n 0, 1) := by decide +kernel
theorem dJ6_bitCount_0f7a4_41 : decode cJ6_bitCount_0f7a4 41 = .ok (.iload_n 0, 1) := by decide +kernel
theorem dJ6_bitCount_0f7a4_42 : decode cJ6_bitCount_0f7a4 42 = .ok (.iload_n 0, 1) := by decide +kernel
theorem dJ6_bitCount_0f7a4_43 : decode cJ6_bitCount_0f7a4 43 = .ok (.bipush 16, 2) := by decide +kernel
theorem dJ6_bitCount_0f7a4_45 : decode cJ6_bitCount_0f7a4 45 = .ok (.iushr, 1) := by decide +kernel
theorem dJ6_bitCount_0f7a4_46 : decode cJ6_bitCount_0f7a4 46 = .ok (.iadd, 1) := by decide +kernel
theorem dJ6_bitCount_0f7a4_47 : decode cJ6_bitCount_0f7a4 47 = .ok (.istore_n 0, 1) := by decide +kernel
theorem dJ6_bitCount_0f7a4_48 : decode cJ6_bitCount_0f7a4 48 = .ok (.iload_n 0, 1) := by decide +kernel
theorem dJ6_bitCount_0f7a4_49 : decode cJ6_bitCount_0f7a4 49 = .ok (.bipush 63, 2) := by decide +kernel
theorem dJ6_bitCount_0f7a4_51 : decode cJ6_bitCount_0f7a4 51 = .ok (.iand, 1) := by decide +kernel
theorem dJ6_bitCount_0f7a4_52 : decode cJ6_bitCount_0f7a4 52 = .ok (.ireturn, 1) := by decide +kernel
theorem dJ9_max_7cf53_0 : decode cJ9_max_7cf53 0 = .ok (.iload_n 0, 1) := by decide +kernel
theorem dJ9_max_7cf53_1 : decode cJ9_max_7cf53 1 = .ok (.iload_n 1, 1) := by decide +kernel
theorem dJ9_max_7cf53_2 : decode cJ9_max_7cf53 2 = .ok (.if_icmp .lt 7, 3) := by decide +kernel
theorem dJ9_max_7cf53_5 : decode cJ9_max_7cf53 5 = .ok (.iload_n 0, 1) := by decide +kernel
theorem dJ9_max_7cf53_6 : decode cJ9_max_7cf53 6 = .ok (.goto 4, 3) := by decide +kernel
theorem dJ9_max_7cf53_9 : decode cJ9_max_7cf53 9 = .ok (.iload_n 1, 1) := by decide +kernel
theorem dJ9_max_7cf53_10 : decode cJ9_max_7cf53 10 = .ok (.ireturn, 1) := by decide +kernel
theorem dJ7_fill_53178_0 : decode cJ7_fill_53178 0 = .ok (.iconst 0, 1) := by decide +kernel
theorem dJ7_fill_53178_1 : decode cJ7_fill_53178 1 = .ok (.istore_n 2, 1) := by decide +kernel
theorem dJ7_fill_53178_2 : decode cJ7_fill_53178 2 = .ok (.aload_n 0, 1) := by decide +kernel
theorem dJ7_fill_53178_3 : decode cJ7_fill_53178 3 = .ok (.arraylength, 1) := by decide +kernel
theorem dJ7_fill_53178_4 : decode cJ7_fill_53178 4 = .ok (.istore_n 3, 1) := by decide +kernel
theorem dJ7_fill_53178_5 : decode cJ7_fill_53178 5 = .ok (.iload_n 2, 1) := by decide +kernel
theorem dJ7_fill_53178_6 : decode cJ7_fill_53178 6 = .ok (.iload_n 3, 1) := by decide +kernel
theorem dJ7_fill_53178_7 : decode cJ7_fill_53178 7 = .ok (.if_icmp .ge 13, 3) := by decide +kernel
theorem dJ7_fill_53178_10 : decode cJ7_fill_53178 10 = .ok (.aload_n 0, 1) := by decide +kernel
theorem dJ7_fill_53178_11 : decode cJ7_fill_53178 11 = .ok (.iload_n 2, 1) := by decide +kernel
theorem dJ7_fill_53178_12 : decode cJ7_fill_53178 12 = .ok (.iload_n 1, 1) := by decide +kernel
theorem dJ7_fill_53178_13 : decode cJ7_fill_53178 13 = .ok (.iastore, 1) := by decide +kernel
theorem dJ7_fill_53178_14 : decode cJ7_fill_53178 14 = .ok (.iinc 2 1, 3) := by decide +kernel
theorem dJ7_fill_53178_17 : decode cJ7_fill_53178 17 = .ok (.goto (-12), 3) := by decide +kernel
theorem dJ7_fill_53178_20 : decode cJ7_fill_53178 20 = .ok (.return_, 1) := by decide +kernel
theorem dL_law_0 : decode cL_law 0 = .ok (.new 7, 3) := by decide +kernel
theorem dL_law_3 : decode cL_law 3 = .ok (.dup, 1) := by decide +kernel
theorem dL_law_4 : decode cL_law 4 = .ok (.invokespecial 9, 3) := by decide +kernel
theorem dL_law_7 : decode cL_law 7 = .ok (.astore_n 1, 1) := by decide +kernel
theorem dL_law_8 : decode cL_law 8 = .ok (.new 10, 3) := by decide +kernel
theorem dL_law_11 : decode cL_law 11 = .ok (.dup, 1) := by decide +kernel
theorem dL_law_12 : decode cL_law 12 = .ok (.invokespecial 12, 3) := by decide +kernel
theorem dL_law_15 : decode cL_law 15 = .ok (.astore_n 2, 1) := by decide +kernel
theorem dL_law_16 : decode cL_law 16 = .ok (.iconst 0, 1) := by decide +kernel
theorem dL_law_17 : decode cL_law 17 = .ok (.istore_n 3, 1) := by decide +kernel
theorem dL_law_18 : decode cL_law 18 = .ok (.iload_n 3, 1) := by decide +kernel
theorem dL_law_19 : decode cL_law 19 = .ok (.aload_n 0, 1) := by decide +kernel
theorem dL_law_20 : decode cL_law 20 = .ok (.arraylength, 1) := by decide +kernel
theorem dL_law_21 : decode cL_law 21 = .ok (.bipush 6, 2) := by decide +kernel
theorem dL_law_23 : decode cL_law 23 = .ok (.isub, 1) := by decide +kernel
theorem dL_law_24 : decode cL_law 24 = .ok (.if_icmp .gt 1200, 3) := by decide +kernel
theorem dL_law_27 : decode cL_law 27 = .ok (.aload_n 0, 1) := by decide +kernel
theorem dL_law_28 : decode cL_law 28 = .ok (.iload_n 3, 1) := by decide +kernel
theorem dL_law_29 : decode cL_law 29 = .ok (.iaload, 1) := by decide +kernel
theorem dL_law_30 : decode cL_law 30 = .ok (.bipush 63, 2) := by decide +kernel
theorem dL_law_32 : decode cL_law 32 = .ok (.iand, 1) := by decide +kernel
theorem dL_law_33 : decode cL_law 33 = .ok (.tableswitch 1185 0 40 #[179, 212, 255, 288, 311, 374, 397, 430, 473, 496, 519, 552, 585, 618, 651, 674, 697, 720, 743, 766, 789, 802, 825, 838, 851, 864, 877, 890, 913, 946, 979, 992, 1015, 1038, 1071, 1084, 1098, 1112, 1135, 1148, 1171], 179) := by decide +kernel
theorem dL_law_212 : decode cL_law 212 = .ok (.aload_n 1, 1) := by decide +kernel
theorem dL_law_213 : decode cL_law 213 = .ok (.aload_n 0, 1) := by decide +kernel
theorem dL_law_214 : decode cL_law 214 = .ok (.iload_n 3, 1) := by decide +kernel
theorem dL_law_215 : decode cL_law 215 = .ok (.iconst 1, 1) := by decide +kernel
theorem dL_law_216 : decode cL_law 216 = .ok (.iadd, 1) := by decide +kernel
theorem dL_law_217 : decode cL_law 217 = .ok (.iaload, 1) := by decide +kernel
theorem dL_law_218 : decode cL_law 218 = .ok (.aload_n 0, 1) := by decide +kernel
theorem dL_law_219 : decode cL_law 219 = .ok (.iload_n 3, 1) := by decide +kernel
theorem dL_law_220 : decode cL_law 220 = .ok (.iconst 2, 1) := by decide +kernel
theorem dL_law_221 : decode cL_law 221 = .ok (.iadd, 1) := by decide +kernel
theorem dL_law_222 : decode cL_law 222 = .ok (.iaload, 1) := by decide +kernel
theorem dL_law_223 : decode cL_law 223 = .ok (.invokevirtual 13, 3) := by decide +kernel
theorem dL_law_226 : decode cL_law 226 = .ok (.aload_n 2, 1) := by decide +kernel
theorem dL_law_227 : decode cL_law 227 = .ok (.aload_n 0, 1) := by decide +kernel
theorem dL_law_228 : decode cL_law 228 = .ok (.iload_n 3, 1) := by decide +kernel
theorem dL_law_229 : decode cL_law 229 = .ok (.iconst 1, 1) := by decide +kernel
theorem dL_law_230 : decode cL_law 230 = .ok (.iadd, 1) := by decide +kernel
theorem dL_law_231 : decode cL_law 231 = .ok (.iaload, 1) := by decide +kernel
theorem dL_law_232 : decode cL_law 232 = .ok (.aload_n 0, 1) := by decide +kernel
theorem dL_law_233 : decode cL_law 233 = .ok (.iload_n 3, 1) := by decide +kernel
theorem dL_law_234 : decode cL_law 234 = .ok (.iconst 2, 1) := by decide +kernel
theorem dL_law_235 : decode cL_law 235 = .ok (.iadd, 1) := by decide +kernel
theorem dL_law_236 : decode cL_law 236 = .ok (.iaload, 1) := by decide +kernel
theorem dL_law_237 : decode cL_law 237 = .ok (.invokevirtual 17, 3) := by decide +kernel
theorem dL_law_240 : decode cL_law 240 = .ok (.if_icmp .eq 978, 3) := by decide +kernel
theorem dL_law_243 : decode cL_law 243 = .ok (.iconst 0, 1) := by decide +kernel
theorem dL_law_244 : decode cL_law 244 = .ok (.ireturn, 1) := by decide +kernel
theorem dL_law_245 : decode cL_law 245 = .ok (.aload_n 1, 1) := by decide +kernel
theorem dL_law_246 : decode cL_law 246 = .ok (.aload_n 0, 1) := by decide +kernel
theorem dL_law_247 : decode cL_law 247 = .ok (.iload_n 3, 1) := by decide +kernel
theorem dL_law_248 : decode cL_law 248 = .ok (.iconst 1, 1) := by decide +kernel
theorem dL_law_249 : decode cL_law 249 = .ok (.iadd, 1) := by decide +kernel
theorem dL_law_250 : decode cL_law 250 = .ok (.iaload, 1) := by decide +kernel
theorem dL_law_251 : decode cL_law 251 = .ok (.aload_n 0, 1) := by decide +kernel
theorem dL_law_252 : decode cL_law 252 = .ok (.iload_n 3, 1) := by decide +kernel
theorem dL_law_253 : decode cL_law 253 = .ok (.iconst 2, 1) := by decide +kernel
theorem dL_law_254 : decode cL_law 254 = .ok (.iadd, 1) := by decide +kernel
theorem dL_law_255 : decode cL_law 255 = .ok (.iaload, 1) := by decide +kernel
theorem dL_law_256 : decode cL_law 256 = .ok (.aload_n 0, 1) := by decide +kernel
theorem dL_law_257 : decode cL_law 257 = .ok (.iload_n 3, 1) := by decide +kernel
theorem dL_law_258 : decode cL_law 258 = .ok (.iconst 3, 1) := by decide +kernel
theorem dL_law_259 : decode cL_law 259 = .ok (.iadd, 1) := by decide +kernel
theorem dL_law_260 : decode cL_law 260 = .ok (.iaload, 1) := by decide +kernel
theorem dL_law_261 : decode cL_law 261 = .ok (.invokevirtual 18, 3) := by decide +kernel
theorem dL_law_264 : decode cL_law 264 = .ok (.aload_n 2, 1) := by decide +kernel
theorem dL_law_265 : decode cL_law 265 = .ok (.aload_n 0, 1) := by decide +kernel
theorem dL_law_266 : decode cL_law 266 = .ok (.iload_n 3, 1) := by decide +kernel
theorem dL_law_267 : decode cL_law 267 = .ok (.iconst 1, 1) := by decide +kernel
theorem dL_law_268 : decode cL_law 268 = .ok (.iadd, 1) := by decide +kernel
theorem dL_law_269 : decode cL_law 269 = .ok (.iaload, 1) := by decide +kernel
theorem dL_law_270 : decode cL_law 270 = .ok (.aload_n 0, 1) := by decide +kernel
theorem dL_law_271 : decode cL_law 271 = .ok (.iload_n 3, 1) := by decide +kernel
theorem dL_law_272 : decode cL_law 272 = .ok (.iconst 2, 1) := by decide +kernel
theorem dL_law_273 : decode cL_law 273 = .ok (.iadd, 1) := by decide +kernel
theorem dL_law_274 : decode cL_law 274 = .ok (.iaload, 1) := by decide +kernel
theorem dL_law_275 : decode cL_law 275 = .ok (.aload_n 0, 1) := by decide +kernel
theorem dL_law_276 : decode cL_law 276 = .ok (.iload_n 3, 1) := by decide +kernel
theorem dL_law_277 : decode cL_law 277 = .ok (.iconst 3, 1) := by decide +kernel
theorem dL_law_278 : decode cL_law 278 = .ok (.iadd, 1) := by decide +kernel
theorem dL_law_279 : decode cL_law 279 = .ok (.iaload, 1) := by decide +kernel
theorem dL_law_280 : decode cL_law 280 = .ok (.invokevirtual 22, 3) := by decide +kernel
theorem dL_law_283 : decode cL_law 283 = .ok (.if_icmp .eq 935, 3) := by decide +kernel
theorem dL_law_286 : decode cL_law 286 = .ok (.iconst 0, 1) := by decide +kernel
theorem dL_law_287 : decode cL_law 287 = .ok (.ireturn, 1) := by decide +kernel
theorem dL_law_288 : decode cL_law 288 = .ok (.aload_n 1, 1) := by decide +kernel
theorem dL_law_289 : decode cL_law 289 = .ok (.aload_n 0, 1) := by decide +kernel
theorem dL_law_290 : decode cL_law 290 = .ok (.iload_n 3, 1) := by decide +kernel
theorem dL_law_291 : decode cL_law 291 = .ok (.iconst 1, 1) := by decide +kernel
theorem dL_law_292 : decode cL_law 292 = .ok (.iadd, 1) := by decide +kernel
theorem dL_law_293 : decode cL_law 293 = .ok (.iaload, 1) := by decide +kernel
theorem dL_law_294 : decode cL_law 294 = .ok (.aload_n 0, 1) := by decide +kernel
theorem dL_law_295 : decode cL_law 295 = .ok (.iload_n 3, 1) := by decide +kernel
theorem dL_law_296 : decode cL_law 296 = .ok (.iconst 2, 1) := by decide +kernel
theorem dL_law_297 : decode cL_law 297 = .ok (.iadd, 1) := by decide +kernel
theorem dL_law_298 : decode cL_law 298 = .ok (.iaload, 1) := by decide +kernel
theorem dL_law_299 : decode cL_law 299 = .ok (.invokevirtual 23, 3) := by decide +kernel
theorem dL_law_302 : decode cL_law 302 = .ok (.aload_n 2, 1) := by decide +kernel
theorem dL_law_303 : decode cL_law 303 = .ok (.aload_n 0, 1) := by decide +kernel
theorem dL_law_304 : decode cL_law 304 = .ok (.iload_n 3, 1) := by decide +kernel
theorem dL_law_305 : decode cL_law 305 = .ok (.iconst 1, 1) := by decide +kernel
theorem dL_law_306 : decode cL_law 306 = .ok (.iadd, 1) := by decide +kernel
theorem dL_law_307 : decode cL_law 307 = .ok (.iaload, 1) := by decide +kernel
theorem dL_law_308 : decode cL_law 308 = .ok (.aload_n 0, 1) := by decide +kernel
theorem dL_law_309 : decode cL_law 309 = .ok (.iload_n 3, 1) := by decide +kernel
theorem dL_law_310 : decode cL_law 310 = .ok (.iconst 2, 1) := by decide +kernel
theorem dL_law_311 : decode cL_law 311 = .ok (.iadd, 1) := by decide +kernel
theorem dL_law_312 : decode cL_law 312 = .ok (.iaload, 1) := by decide +kernel
theorem dL_law_313 : decode cL_law 313 = .ok (.invokevirtual 26, 3) := by decide +kernel
theorem dL_law_316 : decode cL_law 316 = .ok (.if_icmp .eq 902, 3) := by decide +kernel
theorem dL_law_319 : decode cL_law 319 = .ok (.iconst 0, 1) := by decide +kernel
theorem dL_law_320 : decode cL_law 320 = .ok (.ireturn, 1) := by decide +kernel
theorem dL_law_321 : decode cL_law 321 = .ok (.aload_n 1, 1) := by decide +kernel
theorem dL_law_322 : decode cL_law 322 = .ok (.aload_n 0, 1) := by decide +kernel
theorem dL_law_323 : decode cL_law 323 = .ok (.iload_n 3, 1) := by decide +kernel
theorem dL_law_324 : decode cL_law 324 = .ok (.iconst 1, 1) := by decide +kernel
theorem dL_law_325 : decode cL_law 325 = .ok (.iadd, 1) := by decide +kernel
theorem dL_law_326 : decode cL_law 326 = .ok (.iaload, 1) := by decide +kernel
theorem dL_law_327 : decode cL_law 327 = .ok (.invokevirtual 27, 3) := by decide +kernel
theorem dL_law_330 : decode cL_law 330 = .ok (.aload_n 2, 1) := by decide +kernel
theorem dL_law_331 : decode cL_law 331 = .ok (.aload_n 0, 1) := by decide +kernel
theorem dL_law_332 : decode cL_law 332 = .ok (.iload_n 3, 1) := by decide +kernel
theorem dL_law_333 : decode cL_law 333 = .ok (.iconst 1, 1) := by decide +kernel
theorem dL_law_334 : decode cL_law 334 = .ok (.iadd, 1) := by decide +kernel
theorem dL_law_335 : decode cL_law 335 = .ok (.iaload, 1) := by decide +kernel
theorem dL_law_336 : decode cL_law 336 = .ok (.invokevirtual 31, 3) := by decide +kernel
theorem dL_law_339 : decode cL_law 339 = .ok (.if_icmp .eq 879, 3) := by decide +kernel
theorem dL_law_342 : decode cL_law 342 = .ok (.iconst 0, 1) := by decide +kernel
theorem dL_law_343 : decode cL_law 343 = .ok (.ireturn, 1) := by decide +kernel
theorem dL_law_344 : decode cL_law 344 = .ok (.aload_n 1, 1) := by decide +kernel
theorem dL_law_345 : decode cL_law 345 = .ok (.aload_n 0, 1) := by decide +kernel
theorem dL_law_346 : decode cL_law 346 = .ok (.iload_n 3, 1) := by decide +kernel
theorem dL_law_347 : decode cL_law 347 = .ok (.iconst 1, 1) := by decide +kernel
theorem dL_law_348 : decode cL_law 348 = .ok (.iadd, 1) := by decide +kernel
theorem dL_law_349 : decode cL_law 349 = .ok (.iaload, 1) := by decide +kernel
theorem dL_law_350 : decode cL_law 350 = .ok (.aload_n 0, 1) := by decide +kernel
theorem dL_law_351 : decode cL_law 351 = .ok (.iload_n 3, 1) := by decide +kernel
theorem dL_law_352 : decode cL_law 352 = .ok (.iconst 2, 1) := by decide +kernel
theorem dL_law_353 : decode cL_law 353 = .ok (.iadd, 1) := by decide +kernel
theorem dL_law_354 : decode cL_law 354 = .ok (.iaload, 1) := by decide +kernel
theorem dL_law_355 : decode cL_law 355 = .ok (.aload_n 0, 1) := by decide +kernel
theorem dL_law_356 : decode cL_law 356 = .ok (.iload_n 3, 1) := by decide +kernel
theorem dL_law_357 : decode cL_law 357 = .ok (.iconst 3, 1) := by decide +kernel
theorem dL_law_358 : decode cL_law 358 = .ok (.iadd, 1) := by decide +kernel
theorem dL_law_359 : decode cL_law 359 = .ok (.iaload, 1) := by decide +kernel
theorem dL_law_360 : decode cL_law 360 = .ok (.aload_n 0, 1) := by decide +kernel
theorem dL_law_361 : decode cL_law 361 = .ok (.iload_n 3, 1) := by decide +kernel
theorem dL_law_362 : decode cL_law 362 = .ok (.iconst 4, 1) := by decide +kernel
theorem dL_law_363 : decode cL_law 363 = .ok (.iadd, 1) := by decide +kernel
theorem dL_law_364 : decode cL_law 364 = .ok (.iaload, 1) := by decide +kernel
theorem dL_law_365 : decode cL_law 365 = .ok (.aload_n 0, 1) := by decide +kernel
theorem dL_law_366 : decode cL_law 366 = .ok (.iload_n 3, 1) := by decide +kernel
theorem dL_law_367 : decode cL_law 367 = .ok (.iconst 5, 1) := by decide +kernel
theorem dL_law_368 : decode cL_law 368 = .ok (.iadd, 1) := by decide +kernel
theorem dL_law_369 : decode cL_law 369 = .ok (.iaload, 1) := by decide +kernel
theorem dL_law_370 : decode cL_law 370 = .ok (.invokevirtual 32, 3) := by decide +kernel
theorem dL_law_373 : decode cL_law 373 = .ok (.aload_n 2, 1) := by decide +kernel
theorem dL_law_374 : decode cL_law 374 = .ok (.aload_n 0, 1) := by decide +kernel
theorem dL_law_375 : decode cL_law 375 = .ok (.iload_n 3, 1) := by decide +kernel
theorem dL_law_376 : decode cL_law 376 = .ok (.iconst 1, 1) := by decide +kernel
theorem dL_law_377 : decode cL_law 377 = .ok (.iadd, 1) := by decide +kernel
theorem dL_law_378 : decode cL_law 378 = .ok (.iaload, 1) := by decide +kernel
theorem dL_law_379 : decode cL_law 379 = .ok (.aload_n 0, 1) := by decide +kernel
theorem dL_law_380 : decode cL_law 380 = .ok (.iload_n 3, 1) := by decide +kernel
theorem dL_law_381 : decode cL_law 381 = .ok (.iconst 2, 1) := by decide +kernel
theorem dL_law_382 : decode cL_law 382 = .ok (.iadd, 1) := by decide +kernel
theorem dL_law_383 : decode cL_law 383 = .ok (.iaload, 1) := by decide +kernel
theorem dL_law_384 : decode cL_law 384 = .ok (.aload_n 0, 1) := by decide +kernel
theorem dL_law_385 : decode cL_law 385 = .ok (.iload_n 3, 1) := by decide +kernel
theorem dL_law_386 : decode cL_law 386 = .ok (.iconst 3, 1) := by decide +kernel
theorem dL_law_387 : decode cL_law 387 = .ok (.iadd, 1) := by decide +kernel
theorem dL_law_388 : decode cL_law 388 = .ok (.iaload, 1) := by decide +kernel
theorem dL_law_389 : decode cL_law 389 = .ok (.aload_n 0, 1) := by decide +kernel
theorem dL_law_390 : decode cL_law 390 = .ok (.iload_n 3, 1) := by decide +kernel
theorem dL_law_391 : decode cL_law 391 = .ok (.iconst 4, 1) := by decide +kernel
theorem dL_law_392 : decode cL_law 392 = .ok (.iadd, 1) := by decide +kernel
theorem dL_law_393 : decode cL_law 393 = .ok (.iaload, 1) := by decide +kernel
theorem dL_law_394 : decode cL_law 394 = .ok (.aload_n 0, 1) := by decide +kernel
theorem dL_law_395 : decode cL_law 395 = .ok (.iload_n 3, 1) := by decide +kernel
theorem dL_law_396 : decode cL_law 396 = .ok (.iconst 5, 1) := by decide +kernel
theorem dL_law_397 : decode cL_law 397 = .ok (.iadd, 1) := by decide +kernel
theorem dL_law_398 : decode cL_law 398 = .ok (.iaload, 1) := by decide +kernel
theorem dL_law_399 : decode cL_law 399 = .ok (.invokevirtual 36, 3) := by decide +kernel
theorem dL_law_402 : decode cL_law 402 = .ok (.if_icmp .eq 816, 3) := by decide +kernel
theorem dL_law_405 : decode cL_law 405 = .ok (.iconst 0, 1) := by decide +kernel
theorem dL_law_406 : decode cL_law 406 = .ok (.ireturn, 1) := by decide +kernel
theorem dL_law_407 : decode cL_law 407 = .ok (.aload_n 1, 1) := by decide +kernel
theorem dL_law_408 : decode cL_law 408 = .ok (.aload_n 0, 1) := by decide +kernel
theorem dL_law_409 : decode cL_law 409 = .ok (.iload_n 3, 1) := by decide +kernel
theorem dL_law_410 : decode cL_law 410 = .ok (.iconst 1, 1) := by decide +kernel
theorem dL_law_411 : decode cL_law 411 = .ok (.iadd, 1) := by decide +kernel
theorem dL_law_412 : decode cL_law 412 = .ok (.iaload, 1) := by decide +kernel
theorem dL_law_413 : decode cL_law 413 = .ok (.invokevirtual 37, 3) := by decide +kernel
theorem dL_law_416 : decode cL_law 416 = .ok (.aload_n 2, 1) := by decide +kernel
theorem dL_law_417 : decode cL_law 417 = .ok (.aload_n 0, 1) := by decide +kernel
theorem dL_law_418 : decode cL_law 418 = .ok (.iload_n 3, 1) := by decide +kernel
theorem dL_law_419 : decode cL_law 419 = .ok (.iconst 1, 1) := by decide +kernel
theorem dL_law_420 : decode cL_law 420 = .ok (.iadd, 1) := by decide +kernel
theorem dL_law_421 : decode cL_law 421 = .ok (.iaload, 1) := by decide +kernel
theorem dL_law_422 : decode cL_law 422 = .ok (.invokevirtual 40, 3) := by decide +kernel
theorem dL_law_425 : decode cL_law 425 = .ok (.if_icmp .eq 793, 3) := by decide +kernel
theorem dL_law_428 : decode cL_law 428 = .ok (.iconst 0, 1) := by decide +kernel
theorem dL_law_429 : decode cL_law 429 = .ok (.ireturn, 1) := by decide +kernel
theorem dL_law_430 : decode cL_law 430 = .ok (.aload_n 1, 1) := by decide +kernel
theorem dL_law_431 : decode cL_law 431 = .ok (.aload_n 0, 1) := by decide +kernel
theorem dL_law_432 : decode cL_law 432 = .ok (.iload_n 3, 1) := by decide +kernel
theorem dL_law_433 : decode cL_law 433 = .ok (.iconst 1, 1) := by decide +kernel
theorem dL_law_434 : decode cL_law 434 = .ok (.iadd, 1) := by decide +kernel
theorem dL_law_435 : decode cL_law 435 = .ok (.iaload, 1) := by decide +kernel
theorem dL_law_436 : decode cL_law 436 = .ok (.aload_n 0, 1) := by decide +kernel
theorem dL_law_437 : decode cL_law 437 = .ok (.iload_n 3, 1) := by decide +kernel
theorem dL_law_438 : decode cL_law 438 = .ok (.iconst 2, 1) := by decide +kernel
theorem dL_law_439 : decode cL_law 439 = .ok (.iadd, 1) := by decide +kernel
theorem dL_law_440 : decode cL_law 440 = .ok (.iaload, 1) := by decide +kernel
theorem dL_law_441 : decode cL_law 441 = .ok (.invokevirtual 41, 3) := by decide +kernel
theorem dL_law_444 : decode cL_law 444 = .ok (.aload_n 2, 1) := by decide +kernel
theorem dL_law_445 : decode cL_law 445 = .ok (.aload_n 0, 1) := by decide +kernel
theorem dL_law_446 : decode cL_law 446 = .ok (.iload_n 3, 1) := by decide +kernel
theorem dL_law_447 : decode cL_law 447 = .ok (.iconst 1, 1) := by decide +kernel
theorem dL_law_448 : decode cL_law 448 = .ok (.iadd, 1) := by decide +kernel
theorem dL_law_449 : decode cL_law 449 = .ok (.iaload, 1) := by decide +kernel
theorem dL_law_450 : decode cL_law 450 = .ok (.aload_n 0, 1) := by decide +kernel
theorem dL_law_451 : decode cL_law 451 = .ok (.iload_n 3, 1) := by decide +kernel
theorem dL_law_452 : decode cL_law 452 = .ok (.iconst 2, 1) := by decide +kernel
theorem dL_law_453 : decode cL_law 453 = .ok (.iadd, 1) := by decide +kernel
theorem dL_law_454 : decode cL_law 454 = .ok (.iaload, 1) := by decide +kernel
theorem dL_law_455 : decode cL_law 455 = .ok (.invokevirtual 44, 3) := by decide +kernel
theorem dL_law_458 : decode cL_law 458 = .ok (.if_icmp .eq 760, 3) := by decide +kernel
theorem dL_law_461 : decode cL_law 461 = .ok (.iconst 0, 1) := by decide +kernel
theorem dL_law_462 : decode cL_law 462 = .ok (.ireturn, 1) := by decide +kernel
theorem dL_law_463 : decode cL_law 463 = .ok (.aload_n 1, 1) := by decide +kernel
theorem dL_law_464 : decode cL_law 464 = .ok (.aload_n 0, 1) := by decide +kernel
theorem dL_law_465 : decode cL_law 465 = .ok (.iload_n 3, 1) := by decide +kernel
theorem dL_law_466 : decode cL_law 466 = .ok (.iconst 1, 1) := by decide +kernel
theorem dL_law_467 : decode cL_law 467 = .ok (.iadd, 1) := by decide +kernel
theorem dL_law_468 : decode cL_law 468 = .ok (.iaload, 1) := by decide +kernel
theorem dL_law_469 : decode cL_law 469 = .ok (.aload_n 0, 1) := by decide +kernel
theorem dL_law_470 : decode cL_law 470 = .ok (.iload_n 3, 1) := by decide +kernel
theorem dL_law_471 : decode cL_law 471 = .ok (.iconst 2, 1) := by decide +kernel
theorem dL_law_472 : decode cL_law 472 = .ok (.iadd, 1) := by decide +kernel
theorem dL_law_473 : decode cL_law 473 = .ok (.iaload, 1) := by decide +kernel
theorem dL_law_474 : decode cL_law 474 = .ok (.aload_n 0, 1) := by decide +kernel
theorem dL_law_475 : decode cL_law 475 = .ok (.iload_n 3, 1) := by decide +kernel
theorem dL_law_476 : decode cL_law 476 = .ok (.iconst 3, 1) := by decide +kernel
theorem dL_law_477 : decode cL_law 477 = .ok (.iadd, 1) := by decide +kernel
theorem dL_law_478 : decode cL_law 478 = .ok (.iaload, 1) := by decide +kernel
theorem dL_law_479 : decode cL_law 479 = .ok (.invokevirtual 45, 3) := by decide +kernel
theorem dL_law_482 : decode cL_law 482 = .ok (.aload_n 2, 1) := by decide +kernel
theorem dL_law_483 : decode cL_law 483 = .ok (.aload_n 0, 1) := by decide +kernel
theorem dL_law_484 : decode cL_law 484 = .ok (.iload_n 3, 1) := by decide +kernel
theorem dL_law_485 : decode cL_law 485 = .ok (.iconst 1, 1) := by decide +kernel
theorem dL_law_486 : decode cL_law 486 = .ok (.iadd, 1) := by decide +kernel
theorem dL_law_487 : decode cL_law 487 = .ok (.iaload, 1) := by decide +kernel
theorem dL_law_488 : decode cL_law 488 = .ok (.aload_n 0, 1) := by decide +kernel
theorem dL_law_489 : decode cL_law 489 = .ok (.iload_n 3, 1) := by decide +kernel
theorem dL_law_490 : decode cL_law 490 = .ok (.iconst 2, 1) := by decide +kernel
theorem dL_law_491 : decode cL_law 491 = .ok (.iadd, 1) := by decide +kernel
theorem dL_law_492 : decode cL_law 492 = .ok (.iaload, 1) := by decide +kernel
theorem dL_law_493 : decode cL_law 493 = .ok (.aload_n 0, 1) := by decide +kernel
theorem dL_law_494 : decode cL_law 494 = .ok (.iload_n 3, 1) := by decide +kernel
theorem dL_law_495 : decode cL_law 495 = .ok (.iconst 3, 1) := by decide +kernel
theorem dL_law_496 : decode cL_law 496 = .ok (.iadd, 1) := by decide +kernel
theorem dL_law_497 : decode cL_law 497 = .ok (.iaload, 1) := by decide +kernel
theorem dL_law_498 : decode cL_law 498 = .ok (.invokevirtual 48, 3) := by decide +kernel
theorem dL_law_501 : decode cL_law 501 = .ok (.if_icmp .eq 717, 3) := by decide +kernel
theorem dL_law_504 : decode cL_law 504 = .ok (.iconst 0, 1) := by decide +kernel
theorem dL_law_505 : decode cL_law 505 = .ok (.ireturn, 1) := by decide +kernel
theorem dL_law_506 : decode cL_law 506 = .ok (.aload_n 1, 1) := by decide +kernel
theorem dL_law_507 : decode cL_law 507 = .ok (.aload_n 0, 1) := by decide +kernel
theorem dL_law_508 : decode cL_law 508 = .ok (.iload_n 3, 1) := by decide +kernel
theorem dL_law_509 : decode cL_law 509 = .ok (.iconst 1, 1) := by decide +kernel
theorem dL_law_510 : decode cL_law 510 = .ok (.iadd, 1) := by decide +kernel
theorem dL_law_511 : decode cL_law 511 = .ok (.iaload, 1) := by decide +kernel
theorem dL_law_512 : decode cL_law 512 = .ok (.invokevirtual 49, 3) := by decide +kernel
theorem dL_law_515 : decode cL_law 515 = .ok (.aload_n 2, 1) := by decide +kernel
theorem dL_law_516 : decode cL_law 516 = .ok (.aload_n 0, 1) := by decide +kernel
theorem dL_law_517 : decode cL_law 517 = .ok (.iload_n 3, 1) := by decide +kernel
theorem dL_law_518 : decode cL_law 518 = .ok (.iconst 1, 1) := by decide +kernel
theorem dL_law_519 : decode cL_law 519 = .ok (.iadd, 1) := by decide +kernel
theorem dL_law_520 : decode cL_law 520 = .ok (.iaload, 1) := by decide +kernel
theorem dL_law_521 : decode cL_law 521 = .ok (.invokevirtual 52, 3) := by decide +kernel
theorem dL_law_524 : decode cL_law 524 = .ok (.if_icmp .eq 694, 3) := by decide +kernel
theorem dL_law_527 : decode cL_law 527 = .ok (.iconst 0, 1) := by decide +kernel
theorem dL_law_528 : decode cL_law 528 = .ok (.ireturn, 1) := by decide +kernel
theorem dL_law_529 : decode cL_law 529 = .ok (.aload_n 1, 1) := by decide +kernel
theorem dL_law_530 : decode cL_law 530 = .ok (.aload_n 0, 1) := by decide +kernel
theorem dL_law_531 : decode cL_law 531 = .ok (.iload_n 3, 1) := by decide +kernel
theorem dL_law_532 : decode cL_law 532 = .ok (.iconst 1, 1) := by decide +kernel
theorem dL_law_533 : decode cL_law 533 = .ok (.iadd, 1) := by decide +kernel
theorem dL_law_534 : decode cL_law 534 = .ok (.iaload, 1) := by decide +kernel
theorem dL_law_535 : decode cL_law 535 = .ok (.invokevirtual 53, 3) := by decide +kernel
theorem dL_law_538 : decode cL_law 538 = .ok (.aload_n 2, 1) := by decide +kernel
theorem dL_law_539 : decode cL_law 539 = .ok (.aload_n 0, 1) := by decide +kernel
theorem dL_law_540 : decode cL_law 540 = .ok (.iload_n 3, 1) := by decide +kernel
theorem dL_law_541 : decode cL_law 541 = .ok (.iconst 1, 1) := by decide +kernel
theorem dL_law_542 : decode cL_law 542 = .ok (.iadd, 1) := by decide +kernel
theorem dL_law_543 : decode cL_law 543 = .ok (.iaload, 1) := by decide +kernel
theorem dL_law_544 : decode cL_law 544 = .ok (.invokevirtual 56, 3) := by decide +kernel
theorem dL_law_547 : decode cL_law 547 = .ok (.if_icmp .eq 671, 3) := by decide +kernel
theorem dL_law_550 : decode cL_law 550 = .ok (.iconst 0, 1) := by decide +kernel
theorem dL_law_551 : decode cL_law 551 = .ok (.ireturn, 1) := by decide +kernel
theorem dL_law_552 : decode cL_law 552 = .ok (.aload_n 1, 1) := by decide +kernel
theorem dL_law_553 : decode cL_law 553 = .ok (.aload_n 0, 1) := by decide +kernel
theorem dL_law_554 : decode cL_law 554 = .ok (.iload_n 3, 1) := by decide +kernel
theorem dL_law_555 : decode cL_law 555 = .ok (.iconst 1, 1) := by decide +kernel
theorem dL_law_556 : decode cL_law 556 = .ok (.iadd, 1) := by decide +kernel
theorem dL_law_557 : decode cL_law 557 = .ok (.iaload, 1) := by decide +kernel
theorem dL_law_558 : decode cL_law 558 = .ok (.aload_n 0, 1) := by decide +kernel
theorem dL_law_559 : decode cL_law 559 = .ok (.iload_n 3, 1) := by decide +kernel
theorem dL_law_560 : decode cL_law 560 = .ok (.iconst 2, 1) := by decide +kernel
theorem dL_law_561 : decode cL_law 561 = .ok (.iadd, 1) := by decide +kernel
theorem dL_law_562 : decode cL_law 562 = .ok (.iaload, 1) := by decide +kernel
theorem dL_law_563 : decode cL_law 563 = .ok (.invokevirtual 57, 3) := by decide +kernel
theorem dL_law_566 : decode cL_law 566 = .ok (.aload_n 2, 1) := by decide +kernel
theorem dL_law_567 : decode cL_law 567 = .ok (.aload_n 0, 1) := by decide +kernel
theorem dL_law_568 : decode cL_law 568 = .ok (.iload_n 3, 1) := by decide +kernel
theorem dL_law_569 : decode cL_law 569 = .ok (.iconst 1, 1) := by decide +kernel
theorem dL_law_570 : decode cL_law 570 = .ok (.iadd, 1) := by decide +kernel
theorem dL_law_571 : decode cL_law 571 = .ok (.iaload, 1) := by decide +kernel
theorem dL_law_572 : decode cL_law 572 = .ok (.aload_n 0, 1) := by decide +kernel
theorem dL_law_573 : decode cL_law 573 = .ok (.iload_n 3, 1) := by decide +kernel
theorem dL_law_574 : decode cL_law 574 = .ok (.iconst 2, 1) := by decide +kernel
theorem dL_law_575 : decode cL_law 575 = .ok (.iadd, 1) := by decide +kernel
theorem dL_law_576 : decode cL_law 576 = .ok (.iaload, 1) := by decide +kernel
theorem dL_law_577 : decode cL_law 577 = .ok (.invokevirtual 60, 3) := by decide +kernel
theorem dL_law_580 : decode cL_law 580 = .ok (.if_icmp .eq 638, 3) := by decide +kernel
theorem dL_law_583 : decode cL_law 583 = .ok (.iconst 0, 1) := by decide +kernel
theorem dL_law_584 : decode cL_law 584 = .ok (.ireturn, 1) := by decide +kernel
theorem dL_law_585 : decode cL_law 585 = .ok (.aload_n 1, 1) := by decide +kernel
theorem dL_law_586 : decode cL_law 586 = .ok (.aload_n 0, 1) := by decide +kernel
theorem dL_law_587 : decode cL_law 587 = .ok (.iload_n 3, 1) := by decide +kernel
theorem dL_law_588 : decode cL_law 588 = .ok (.iconst 1, 1) := by decide +kernel
theorem dL_law_589 : decode cL_law 589 = .ok (.iadd, 1) := by decide +kernel
theorem dL_law_590 : decode cL_law 590 = .ok (.iaload, 1) := by decide +kernel
theorem dL_law_591 : decode cL_law 591 = .ok (.aload_n 0, 1) := by decide +kernel
theorem dL_law_592 : decode cL_law 592 = .ok (.iload_n 3, 1) := by decide +kernel
theorem dL_law_593 : decode cL_law 593 = .ok (.iconst 2, 1) := by decide +kernel
theorem dL_law_594 : decode cL_law 594 = .ok (.iadd, 1) := by decide +kernel
theorem dL_law_595 : decode cL_law 595 = .ok (.iaload, 1) := by decide +kernel
theorem dL_law_596 : decode cL_law 596 = .ok (.invokevirtual 61, 3) := by decide +kernel
theorem dL_law_599 : decode cL_law 599 = .ok (.aload_n 2, 1) := by decide +kernel
theorem dL_law_600 : decode cL_law 600 = .ok (.aload_n 0, 1) := by decide +kernel
theorem dL_law_601 : decode cL_law 601 = .ok (.iload_n 3, 1) := by decide +kernel
theorem dL_law_602 : decode cL_law 602 = .ok (.iconst 1, 1) := by decide +kernel
theorem dL_law_603 : decode cL_law 603 = .ok (.iadd, 1) := by decide +kernel
theorem dL_law_604 : decode cL_law 604 = .ok (.iaload, 1) := by decide +kernel
theorem dL_law_605 : decode cL_law 605 = .ok (.aload_n 0, 1) := by decide +kernel
theorem dL_law_606 : decode cL_law 606 = .ok (.iload_n 3, 1) := by decide +kernel
theorem dL_law_607 : decode cL_law 607 = .ok (.iconst 2, 1) := by decide +kernel
theorem dL_law_608 : decode cL_law 608 = .ok (.iadd, 1) := by decide +kernel
theorem dL_law_609 : decode cL_law 609 = .ok (.iaload, 1) := by decide +kernel
theorem dL_law_610 : decode cL_law 610 = .ok (.invokevirtual 64, 3) := by decide +kernel
theorem dL_law_613 : decode cL_law 613 = .ok (.if_icmp .eq 605, 3) := by decide +kernel
theorem dL_law_616 : decode cL_law 616 = .ok (.iconst 0, 1) := by decide +kernel
theorem dL_law_617 : decode cL_law 617 = .ok (.ireturn, 1) := by decide +kernel
theorem dL_law_618 : decode cL_law 618 = .ok (.aload_n 1, 1) := by decide +kernel
theorem dL_law_619 : decode cL_law 619 = .ok (.aload_n 0, 1) := by decide +kernel
theorem dL_law_620 : decode cL_law 620 = .ok (.iload_n 3, 1) := by decide +kernel
theorem dL_law_621 : decode cL_law 621 = .ok (.iconst 1, 1) := by decide +kernel
theorem dL_law_622 : decode cL_law 622 = .ok (.iadd, 1) := by decide +kernel
theorem dL_law_623 : decode cL_law 623 = .ok (.iaload, 1) := by decide +kernel
theorem dL_law_624 : decode cL_law 624 = .ok (.aload_n 0, 1) := by decide +kernel
theorem dL_law_625 : decode cL_law 625 = .ok (.iload_n 3, 1) := by decide +kernel
theorem dL_law_626 : decode cL_law 626 = .ok (.iconst 2, 1) := by decide +kernel
theorem dL_law_627 : decode cL_law 627 = .ok (.iadd, 1) := by decide +kernel
theorem dL_law_628 : decode cL_law 628 = .ok (.iaload, 1) := by decide +kernel
theorem dL_law_629 : decode cL_law 629 = .ok (.invokevirtual 65, 3) := by decide +kernel
theorem dL_law_632 : decode cL_law 632 = .ok (.aload_n 2, 1) := by decide +kernel
theorem dL_law_633 : decode cL_law 633 = .ok (.aload_n 0, 1) := by decide +kernel
theorem dL_law_634 : decode cL_law 634 = .ok (.iload_n 3, 1) := by decide +kernel
theorem dL_law_635 : decode cL_law 635 = .ok (.iconst 1, 1) := by decide +kernel
theorem dL_law_636 : decode cL_law 636 = .ok (.iadd, 1) := by decide +kernel
theorem dL_law_637 : decode cL_law 637 = .ok (.iaload, 1) := by decide +kernel
theorem dL_law_638 : decode cL_law 638 = .ok (.aload_n 0, 1) := by decide +kernel
theorem dL_law_639 : decode cL_law 639 = .ok (.iload_n 3, 1) := by decide +kernel
theorem dL_law_640 : decode cL_law 640 = .ok (.iconst 2, 1) := by decide +kernel
theorem dL_law_641 : decode cL_law 641 = .ok (.iadd, 1) := by decide +kernel
theorem dL_law_642 : decode cL_law 642 = .ok (.iaload, 1) := by decide +kernel
theorem dL_law_643 : decode cL_law 643 = .ok (.invokevirtual 68, 3) := by decide +kernel
theorem dL_law_646 : decode cL_law 646 = .ok (.if_icmp .eq 572, 3) := by decide +kernel
theorem dL_law_649 : decode cL_law 649 = .ok (.iconst 0, 1) := by decide +kernel
theorem dL_law_650 : decode cL_law 650 = .ok (.ireturn, 1) := by decide +kernel
theorem dL_law_651 : decode cL_law 651 = .ok (.aload_n 1, 1) := by decide +kernel
theorem dL_law_652 : decode cL_law 652 = .ok (.aload_n 0, 1) := by decide +kernel
theorem dL_law_653 : decode cL_law 653 = .ok (.iload_n 3, 1) := by decide +kernel
theorem dL_law_654 : decode cL_law 654 = .ok (.iconst 1, 1) := by decide +kernel
theorem dL_law_655 : decode cL_law 655 = .ok (.iadd, 1) := by decide +kernel
theorem dL_law_656 : decode cL_law 656 = .ok (.iaload, 1) := by decide +kernel
theorem dL_law_657 : decode cL_law 657 = .ok (.aload_n 0, 1) := by decide +kernel
theorem dL_law_658 : decode cL_law 658 = .ok (.iload_n 3, 1) := by decide +kernel
theorem dL_law_659 : decode cL_law 659 = .ok (.iconst 2, 1) := by decide +kernel
theorem dL_law_660 : decode cL_law 660 = .ok (.iadd, 1) := by decide +kernel
theorem dL_law_661 : decode cL_law 661 = .ok (.iaload, 1) := by decide +kernel
theorem dL_law_662 : decode cL_law 662 = .ok (.invokevirtual 69, 3) := by decide +kernel
theorem dL_law_665 : decode cL_law 665 = .ok (.aload_n 2, 1) := by decide +kernel
theorem dL_law_666 : decode cL_law 666 = .ok (.aload_n 0, 1) := by decide +kernel
theorem dL_law_667 : decode cL_law 667 = .ok (.iload_n 3, 1) := by decide +kernel
theorem dL_law_668 : decode cL_law 668 = .ok (.iconst 1, 1) := by decide +kernel
theorem dL_law_669 : decode cL_law 669 = .ok (.iadd, 1) := by decide +kernel
theorem dL_law_670 : decode cL_law 670 = .ok (.iaload, 1) := by decide +kernel
theorem dL_law_671 : decode cL_law 671 = .ok (.aload_n 0, 1) := by decide +kernel
theorem dL_law_672 : decode cL_law 672 = .ok (.iload_n 3, 1) := by decide +kernel
theorem dL_law_673 : decode cL_law 673 = .ok (.iconst 2, 1) := by decide +kernel
theorem dL_law_674 : decode cL_law 674 = .ok (.iadd, 1) := by decide +kernel
theorem dL_law_675 : decode cL_law 675 = .ok (.iaload, 1) := by decide +kernel
theorem dL_law_676 : decode cL_law 676 = .ok (.invokevirtual 72, 3) := by decide +kernel
theorem dL_law_679 : decode cL_law 679 = .ok (.if_icmp .eq 539, 3) := by decide +kernel
theorem dL_law_682 : decode cL_law 682 = .ok (.iconst 0, 1) := by decide +kernel
theorem dL_law_683 : decode cL_law 683 = .ok (.ireturn, 1) := by decide +kernel
theorem dL_law_684 : decode cL_law 684 = .ok (.aload_n 1, 1) := by decide +kernel
theorem dL_law_685 : decode cL_law 685 = .ok (.aload_n 0, 1) := by decide +kernel
theorem dL_law_686 : decode cL_law 686 = .ok (.iload_n 3, 1) := by decide +kernel
theorem dL_law_687 : decode cL_law 687 = .ok (.iconst 1, 1) := by decide +kernel
theorem dL_law_688 : decode cL_law 688 = .ok (.iadd, 1) := by decide +kernel
theorem dL_law_689 : decode cL_law 689 = .ok (.iaload, 1) := by decide +kernel
theorem dL_law_690 : decode cL_law 690 = .ok (.invokevirtual 73, 3) := by decide +kernel
theorem dL_law_693 : decode cL_law 693 = .ok (.aload_n 2, 1) := by decide +kernel
theorem dL_law_694 : decode cL_law 694 = .ok (.aload_n 0, 1) := by decide +kernel
theorem dL_law_695 : decode cL_law 695 = .ok (.iload_n 3, 1) := by decide +kernel
theorem dL_law_696 : decode cL_law 696 = .ok (.iconst 1, 1) := by decide +kernel
theorem dL_law_697 : decode cL_law 697 = .ok (.iadd, 1) := by decide +kernel
theorem dL_law_698 : decode cL_law 698 = .ok (.iaload, 1) := by decide +kernel
theorem dL_law_699 : decode cL_law 699 = .ok (.invokevirtual 76, 3) := by decide +kernel
theorem dL_law_702 : decode cL_law 702 = .ok (.if_icmp .eq 516, 3) := by decide +kernel
theorem dL_law_705 : decode cL_law 705 = .ok (.iconst 0, 1) := by decide +kernel
theorem dL_law_706 : decode cL_law 706 = .ok (.ireturn, 1) := by decide +kernel
theorem dL_law_707 : decode cL_law 707 = .ok (.aload_n 1, 1) := by decide +kernel
theorem dL_law_708 : decode cL_law 708 = .ok (.aload_n 0, 1) := by decide +kernel
theorem dL_law_709 : decode cL_law 709 = .ok (.iload_n 3, 1) := by decide +kernel
theorem dL_law_710 : decode cL_law 710 = .ok (.iconst 1, 1) := by decide +kernel
theorem dL_law_711 : decode cL_law 711 = .ok (.iadd, 1) := by decide +kernel
theorem dL_law_712 : decode cL_law 712 = .ok (.iaload, 1) := by decide +kernel
theorem dL_law_713 : decode cL_law 713 = .ok (.invokevirtual 77, 3) := by decide +kernel
theorem dL_law_716 : decode cL_law 716 = .ok (.aload_n 2, 1) := by decide +kernel
theorem dL_law_717 : decode cL_law 717 = .ok (.aload_n 0, 1) := by decide +kernel
theorem dL_law_718 : decode cL_law 718 = .ok (.iload_n 3, 1) := by decide +kernel
theorem dL_law_719 : decode cL_law 719 = .ok (.iconst 1, 1) := by decide +kernel
theorem dL_law_720 : decode cL_law 720 = .ok (.iadd, 1) := by decide +kernel
theorem dL_law_721 : decode cL_law 721 = .ok (.iaload, 1) := by decide +kernel
theorem dL_law_722 : decode cL_law 722 = .ok (.invokevirtual 80, 3) := by decide +kernel
theorem dL_law_725 : decode cL_law 725 = .ok (.if_icmp .eq 493, 3) := by decide +kernel
theorem dL_law_728 : decode cL_law 728 = .ok (.iconst 0, 1) := by decide +kernel
theorem dL_law_729 : decode cL_law 729 = .ok (.ireturn, 1) := by decide +kernel
theorem dL_law_730 : decode cL_law 730 = .ok (.aload_n 1, 1) := by decide +kernel
theorem dL_law_731 : decode cL_law 731 = .ok (.aload_n 0, 1) := by decide +kernel
theorem dL_law_732 : decode cL_law 732 = .ok (.iload_n 3, 1) := by decide +kernel
theorem dL_law_733 : decode cL_law 733 = .ok (.iconst 1, 1) := by decide +kernel
theorem dL_law_734 : decode cL_law 734 = .ok (.iadd, 1) := by decide +kernel
theorem dL_law_735 : decode cL_law 735 = .ok (.iaload, 1) := by decide +kernel
theorem dL_law_736 : decode cL_law 736 = .ok (.invokevirtual 81, 3) := by decide +kernel
theorem dL_law_739 : decode cL_law 739 = .ok (.aload_n 2, 1) := by decide +kernel
theorem dL_law_740 : decode cL_law 740 = .ok (.aload_n 0, 1) := by decide +kernel
theorem dL_law_741 : decode cL_law 741 = .ok (.iload_n 3, 1) := by decide +kernel
theorem dL_law_742 : decode cL_law 742 = .ok (.iconst 1, 1) := by decide +kernel
theorem dL_law_743 : decode cL_law 743 = .ok (.iadd, 1) := by decide +kernel
theorem dL_law_744 : decode cL_law 744 = .ok (.iaload, 1) := by decide +kernel
theorem dL_law_745 : decode cL_law 745 = .ok (.invokevirtual 84, 3) := by decide +kernel
theorem dL_law_748 : decode cL_law 748 = .ok (.if_icmp .eq 470, 3) := by decide +kernel
theorem dL_law_751 : decode cL_law 751 = .ok (.iconst 0, 1) := by decide +kernel
theorem dL_law_752 : decode cL_law 752 = .ok (.ireturn, 1) := by decide +kernel
theorem dL_law_753 : decode cL_law 753 = .ok (.aload_n 1, 1) := by decide +kernel
theorem dL_law_754 : decode cL_law 754 = .ok (.aload_n 0, 1) := by decide +kernel
theorem dL_law_755 : decode cL_law 755 = .ok (.iload_n 3, 1) := by decide +kernel
theorem dL_law_756 : decode cL_law 756 = .ok (.iconst 1, 1) := by decide +kernel
theorem dL_law_757 : decode cL_law 757 = .ok (.iadd, 1) := by decide +kernel
theorem dL_law_758 : decode cL_law 758 = .ok (.iaload, 1) := by decide +kernel
theorem dL_law_759 : decode cL_law 759 = .ok (.invokevirtual 85, 3) := by decide +kernel
theorem dL_law_762 : decode cL_law 762 = .ok (.aload_n 2, 1) := by decide +kernel
theorem dL_law_763 : decode cL_law 763 = .ok (.aload_n 0, 1) := by decide +kernel
theorem dL_law_764 : decode cL_law 764 = .ok (.iload_n 3, 1) := by decide +kernel
theorem dL_law_765 : decode cL_law 765 = .ok (.iconst 1, 1) := by decide +kernel
theorem dL_law_766 : decode cL_law 766 = .ok (.iadd, 1) := by decide +kernel
theorem dL_law_767 : decode cL_law 767 = .ok (.iaload, 1) := by decide +kernel
theorem dL_law_768 : decode cL_law 768 = .ok (.invokevirtual 88, 3) := by decide +kernel
theorem dL_law_771 : decode cL_law 771 = .ok (.if_icmp .eq 447, 3) := by decide +kernel
theorem dL_law_774 : decode cL_law 774 = .ok (.iconst 0, 1) := by decide +kernel
theorem dL_law_775 : decode cL_law 775 = .ok (.ireturn, 1) := by decide +kernel
theorem dL_law_776 : decode cL_law 776 = .ok (.aload_n 1, 1) := by decide +kernel
theorem dL_law_777 : decode cL_law 777 = .ok (.aload_n 0, 1) := by decide +kernel
theorem dL_law_778 : decode cL_law 778 = .ok (.iload_n 3, 1) := by decide +kernel
theorem dL_law_779 : decode cL_law 779 = .ok (.iconst 1, 1) := by decide +kernel
theorem dL_law_780 : decode cL_law 780 = .ok (.iadd, 1) := by decide +kernel
theorem dL_law_781 : decode cL_law 781 = .ok (.iaload, 1) := by decide +kernel
theorem dL_law_782 : decode cL_law 782 = .ok (.invokevirtual 89, 3) := by decide +kernel
theorem dL_law_785 : decode cL_law 785 = .ok (.aload_n 2, 1) := by decide +kernel
theorem dL_law_786 : decode cL_law 786 = .ok (.aload_n 0, 1) := by decide +kernel
theorem dL_law_787 : decode cL_law 787 = .ok (.iload_n 3, 1) := by decide +kernel
theorem dL_law_788 : decode cL_law 788 = .ok (.iconst 1, 1) := by decide +kernel
theorem dL_law_789 : decode cL_law 789 = .ok (.iadd, 1) := by decide +kernel
theorem dL_law_790 : decode cL_law 790 = .ok (.iaload, 1) := by decide +kernel
theorem dL_law_791 : decode cL_law 791 = .ok (.invokevirtual 92, 3) := by decide +kernel
theorem dL_law_794 : decode cL_law 794 = .ok (.if_icmp .eq 424, 3) := by decide +kernel
theorem dL_law_797 : decode cL_law 797 = .ok (.iconst 0, 1) := by decide +kernel
theorem dL_law_798 : decode cL_law 798 = .ok (.ireturn, 1) := by decide +kernel
theorem dL_law_799 : decode cL_law 799 = .ok (.aload_n 1, 1) := by decide +kernel
theorem dL_law_800 : decode cL_law 800 = .ok (.aload_n 0, 1) := by decide +kernel
theorem dL_law_801 : decode cL_law 801 = .ok (.iload_n 3, 1) := by decide +kernel
theorem dL_law_802 : decode cL_law 802 = .ok (.iconst 1, 1) := by decide +kernel
theorem dL_law_803 : decode cL_law 803 = .ok (.iadd, 1) := by decide +kernel
theorem dL_law_804 : decode cL_law 804 = .ok (.iaload, 1) := by decide +kernel
theorem dL_law_805 : decode cL_law 805 = .ok (.invokevirtual 93, 3) := by decide +kernel
theorem dL_law_808 : decode cL_law 808 = .ok (.aload_n 2, 1) := by decide +kernel
theorem dL_law_809 : decode cL_law 809 = .ok (.aload_n 0, 1) := by decide +kernel
theorem dL_law_810 : decode cL_law 810 = .ok (.iload_n 3, 1) := by decide +kernel
theorem dL_law_811 : decode cL_law 811 = .ok (.iconst 1, 1) := by decide +kernel
theorem dL_law_812 : decode cL_law 812 = .ok (.iadd, 1) := by decide +kernel
theorem dL_law_813 : decode cL_law 813 = .ok (.iaload, 1) := by decide +kernel
theorem dL_law_814 : decode cL_law 814 = .ok (.invokevirtual 96, 3) := by decide +kernel
theorem dL_law_817 : decode cL_law 817 = .ok (.if_icmp .eq 401, 3) := by decide +kernel
theorem dL_law_820 : decode cL_law 820 = .ok (.iconst 0, 1) := by decide +kernel
theorem dL_law_821 : decode cL_law 821 = .ok (.ireturn, 1) := by decide +kernel
theorem dL_law_822 : decode cL_law 822 = .ok (.aload_n 1, 1) := by decide +kernel
theorem dL_law_823 : decode cL_law 823 = .ok (.invokevirtual 97, 3) := by decide +kernel
theorem dL_law_826 : decode cL_law 826 = .ok (.aload_n 2, 1) := by decide +kernel
theorem dL_law_827 : decode cL_law 827 = .ok (.invokevirtual 101, 3) := by decide +kernel
theorem dL_law_830 : decode cL_law 830 = .ok (.if_icmp .eq 388, 3) := by decide +kernel
theorem dL_law_833 : decode cL_law 833 = .ok (.iconst 0, 1) := by decide +kernel
theorem dL_law_834 : decode cL_law 834 = .ok (.ireturn, 1) := by decide +kernel
theorem dL_law_835 : decode cL_law 835 = .ok (.aload_n 1, 1) := by decide +kernel
theorem dL_law_836 : decode cL_law 836 = .ok (.aload_n 0, 1) := by decide +kernel
theorem dL_law_837 : decode cL_law 837 = .ok (.iload_n 3, 1) := by decide +kernel
theorem dL_law_838 : decode cL_law 838 = .ok (.iconst 1, 1) := by decide +kernel
theorem dL_law_839 : decode cL_law 839 = .ok (.iadd, 1) := by decide +kernel
theorem dL_law_840 : decode cL_law 840 = .ok (.iaload, 1) := by decide +kernel
theorem dL_law_841 : decode cL_law 841 = .ok (.invokevirtual 102, 3) := by decide +kernel
theorem dL_law_844 : decode cL_law 844 = .ok (.aload_n 2, 1) := by decide +kernel
theorem dL_law_845 : decode cL_law 845 = .ok (.aload_n 0, 1) := by decide +kernel
theorem dL_law_846 : decode cL_law 846 = .ok (.iload_n 3, 1) := by decide +kernel
theorem dL_law_847 : decode cL_law 847 = .ok (.iconst 1, 1) := by decide +kernel
theorem dL_law_848 : decode cL_law 848 = .ok (.iadd, 1) := by decide +kernel
theorem dL_law_849 : decode cL_law 849 = .ok (.iaload, 1) := by decide +kernel
theorem dL_law_850 : decode cL_law 850 = .ok (.invokevirtual 105, 3) := by decide +kernel
theorem dL_law_853 : decode cL_law 853 = .ok (.if_icmp .eq 365, 3) := by decide +kernel
theorem dL_law_856 : decode cL_law 856 = .ok (.iconst 0, 1) := by decide +kernel
theorem dL_law_857 : decode cL_law 857 = .ok (.ireturn, 1) := by decide +kernel
theorem dL_law_858 : decode cL_law 858 = .ok (.aload_n 1, 1) := by decide +kernel
theorem dL_law_859 : decode cL_law 859 = .ok (.invokevirtual 106, 3) := by decide +kernel
theorem dL_law_862 : decode cL_law 862 = .ok (.aload_n 2, 1) := by decide +kernel
theorem dL_law_863 : decode cL_law 863 = .ok (.invokevirtual 109, 3) := by decide +kernel
theorem dL_law_866 : decode cL_law 866 = .ok (.if_icmp .eq 352, 3) := by decide +kernel
theorem dL_law_869 : decode cL_law 869 = .ok (.iconst 0, 1) := by decide +kernel
theorem dL_law_870 : decode cL_law 870 = .ok (.ireturn, 1) := by decide +kernel
theorem dL_law_871 : decode cL_law 871 = .ok (.aload_n 1, 1) := by decide +kernel
theorem dL_law_872 : decode cL_law 872 = .ok (.invokevirtual 110, 3) := by decide +kernel
theorem dL_law_875 : decode cL_law 875 = .ok (.aload_n 2, 1) := by decide +kernel
theorem dL_law_876 : decode cL_law 876 = .ok (.invokevirtual 113, 3) := by decide +kernel
theorem dL_law_879 : decode cL_law 879 = .ok (.if_icmp .eq 339, 3) := by decide +kernel
theorem dL_law_882 : decode cL_law 882 = .ok (.iconst 0, 1) := by decide +kernel
theorem dL_law_883 : decode cL_law 883 = .ok (.ireturn, 1) := by decide +kernel
theorem dL_law_884 : decode cL_law 884 = .ok (.aload_n 1, 1) := by decide +kernel
theorem dL_law_885 : decode cL_law 885 = .ok (.invokevirtual 114, 3) := by decide +kernel
theorem dL_law_888 : decode cL_law 888 = .ok (.aload_n 2, 1) := by decide +kernel
theorem dL_law_889 : decode cL_law 889 = .ok (.invokevirtual 117, 3) := by decide +kernel
theorem dL_law_892 : decode cL_law 892 = .ok (.if_icmp .eq 326, 3) := by decide +kernel
theorem dL_law_895 : decode cL_law 895 = .ok (.iconst 0, 1) := by decide +kernel
theorem dL_law_896 : decode cL_law 896 = .ok (.ireturn, 1) := by decide +kernel
theorem dL_law_897 : decode cL_law 897 = .ok (.aload_n 1, 1) := by decide +kernel
theorem dL_law_898 : decode cL_law 898 = .ok (.invokevirtual 118, 3) := by decide +kernel
theorem dL_law_901 : decode cL_law 901 = .ok (.aload_n 2, 1) := by decide +kernel
theorem dL_law_902 : decode cL_law 902 = .ok (.invokevirtual 121, 3) := by decide +kernel
theorem dL_law_905 : decode cL_law 905 = .ok (.if_icmp .eq 313, 3) := by decide +kernel
theorem dL_law_908 : decode cL_law 908 = .ok (.iconst 0, 1) := by decide +kernel
theorem dL_law_909 : decode cL_law 909 = .ok (.ireturn, 1) := by decide +kernel
theorem dL_law_910 : decode cL_law 910 = .ok (.aload_n 1, 1) := by decide +kernel
theorem dL_law_911 : decode cL_law 911 = .ok (.invokevirtual 122, 3) := by decide +kernel
theorem dL_law_914 : decode cL_law 914 = .ok (.aload_n 2, 1) := by decide +kernel
theorem dL_law_915 : decode cL_law 915 = .ok (.invokevirtual 125, 3) := by decide +kernel
theorem dL_law_918 : decode cL_law 918 = .ok (.if_icmp .eq 300, 3) := by decide +kernel
theorem dL_law_921 : decode cL_law 921 = .ok (.iconst 0, 1) := by decide +kernel
theorem dL_law_922 : decode cL_law 922 = .ok (.ireturn, 1) := by decide +kernel
theorem dL_law_923 : decode cL_law 923 = .ok (.aload_n 1, 1) := by decide +kernel
theorem dL_law_924 : decode cL_law 924 = .ok (.aload_n 0, 1) := by decide +kernel
theorem dL_law_925 : decode cL_law 925 = .ok (.iload_n 3, 1) := by decide +kernel
theorem dL_law_926 : decode cL_law 926 = .ok (.iconst 1, 1) := by decide +kernel
theorem dL_law_927 : decode cL_law 927 = .ok (.iadd, 1) := by decide +kernel
theorem dL_law_928 : decode cL_law 928 = .ok (.iaload, 1) := by decide +kernel
theorem dL_law_929 : decode cL_law 929 = .ok (.invokevirtual 126, 3) := by decide +kernel
theorem dL_law_932 : decode cL_law 932 = .ok (.aload_n 2, 1) := by decide +kernel
theorem dL_law_933 : decode cL_law 933 = .ok (.aload_n 0, 1) := by decide +kernel
theorem dL_law_934 : decode cL_law 934 = .ok (.iload_n 3, 1) := by decide +kernel
theorem dL_law_935 : decode cL_law 935 = .ok (.iconst 1, 1) := by decide +kernel
theorem dL_law_936 : decode cL_law 936 = .ok (.iadd, 1) := by decide +kernel
theorem dL_law_937 : decode cL_law 937 = .ok (.iaload, 1) := by decide +kernel
theorem dL_law_938 : decode cL_law 938 = .ok (.invokevirtual 129, 3) := by decide +kernel
theorem dL_law_941 : decode cL_law 941 = .ok (.if_icmp .eq 277, 3) := by decide +kernel
theorem dL_law_944 : decode cL_law 944 = .ok (.iconst 0, 1) := by decide +kernel
theorem dL_law_945 : decode cL_law 945 = .ok (.ireturn, 1) := by decide +kernel
theorem dL_law_946 : decode cL_law 946 = .ok (.aload_n 1, 1) := by decide +kernel
theorem dL_law_947 : decode cL_law 947 = .ok (.aload_n 0, 1) := by decide +kernel
theorem dL_law_948 : decode cL_law 948 = .ok (.iload_n 3, 1) := by decide +kernel
theorem dL_law_949 : decode cL_law 949 = .ok (.iconst 1, 1) := by decide +kernel
theorem dL_law_950 : decode cL_law 950 = .ok (.iadd, 1) := by decide +kernel
theorem dL_law_951 : decode cL_law 951 = .ok (.iaload, 1) := by decide +kernel
theorem dL_law_952 : decode cL_law 952 = .ok (.aload_n 0, 1) := by decide +kernel
theorem dL_law_953 : decode cL_law 953 = .ok (.iload_n 3, 1) := by decide +kernel
theorem dL_law_954 : decode cL_law 954 = .ok (.iconst 2, 1) := by decide +kernel
theorem dL_law_955 : decode cL_law 955 = .ok (.iadd, 1) := by decide +kernel
theorem dL_law_956 : decode cL_law 956 = .ok (.iaload, 1) := by decide +kernel
theorem dL_law_957 : decode cL_law 957 = .ok (.invokevirtual 130, 3) := by decide +kernel
theorem dL_law_960 : decode cL_law 960 = .ok (.aload_n 2, 1) := by decide +kernel
theorem dL_law_961 : decode cL_law 961 = .ok (.aload_n 0, 1) := by decide +kernel
theorem dL_law_962 : decode cL_law 962 = .ok (.iload_n 3, 1) := by decide +kernel
theorem dL_law_963 : decode cL_law 963 = .ok (.iconst 1, 1) := by decide +kernel
theorem dL_law_964 : decode cL_law 964 = .ok (.iadd, 1) := by decide +kernel
theorem dL_law_965 : decode cL_law 965 = .ok (.iaload, 1) := by decide +kernel
theorem dL_law_966 : decode cL_law 966 = .ok (.aload_n 0, 1) := by decide +kernel
theorem dL_law_967 : decode cL_law 967 = .ok (.iload_n 3, 1) := by decide +kernel
theorem dL_law_968 : decode cL_law 968 = .ok (.iconst 2, 1) := by decide +kernel
theorem dL_law_969 : decode cL_law 969 = .ok (.iadd, 1) := by decide +kernel
theorem dL_law_970 : decode cL_law 970 = .ok (.iaload, 1) := by decide +kernel
theorem dL_law_971 : decode cL_law 971 = .ok (.invokevirtual 133, 3) := by decide +kernel
theorem dL_law_974 : decode cL_law 974 = .ok (.if_icmp .eq 244, 3) := by decide +kernel
theorem dL_law_977 : decode cL_law 977 = .ok (.iconst 0, 1) := by decide +kernel
theorem dL_law_978 : decode cL_law 978 = .ok (.ireturn, 1) := by decide +kernel
theorem dL_law_979 : decode cL_law 979 = .ok (.aload_n 1, 1) := by decide +kernel
theorem dL_law_980 : decode cL_law 980 = .ok (.aload_n 0, 1) := by decide +kernel
theorem dL_law_981 : decode cL_law 981 = .ok (.iload_n 3, 1) := by decide +kernel
theorem dL_law_982 : decode cL_law 982 = .ok (.iconst 1, 1) := by decide +kernel
theorem dL_law_983 : decode cL_law 983 = .ok (.iadd, 1) := by decide +kernel
theorem dL_law_984 : decode cL_law 984 = .ok (.iaload, 1) := by decide +kernel
theorem dL_law_985 : decode cL_law 985 = .ok (.aload_n 0, 1) := by decide +kernel
theorem dL_law_986 : decode cL_law 986 = .ok (.iload_n 3, 1) := by decide +kernel
theorem dL_law_987 : decode cL_law 987 = .ok (.iconst 2, 1) := by decide +kernel
theorem dL_law_988 : decode cL_law 988 = .ok (.iadd, 1) := by decide +kernel
theorem dL_law_989 : decode cL_law 989 = .ok (.iaload, 1) := by decide +kernel
theorem dL_law_990 : decode cL_law 990 = .ok (.invokevirtual 134, 3) := by decide +kernel
theorem dL_law_993 : decode cL_law 993 = .ok (.aload_n 2, 1) := by decide +kernel
theorem dL_law_994 : decode cL_law 994 = .ok (.aload_n 0, 1) := by decide +kernel
theorem dL_law_995 : decode cL_law 995 = .ok (.iload_n 3, 1) := by decide +kernel
theorem dL_law_996 : decode cL_law 996 = .ok (.iconst 1, 1) := by decide +kernel
theorem dL_law_997 : decode cL_law 997 = .ok (.iadd, 1) := by decide +kernel
theorem dL_law_998 : decode cL_law 998 = .ok (.iaload, 1) := by decide +kernel
theorem dL_law_999 : decode cL_law 999 = .ok (.aload_n 0, 1) := by decide +kernel
theorem dL_law_1000 : decode cL_law 1000 = .ok (.iload_n 3, 1) := by decide +kernel
theorem dL_law_1001 : decode cL_law 1001 = .ok (.iconst 2, 1) := by decide +kernel
theorem dL_law_1002 : decode cL_law 1002 = .ok (.iadd, 1) := by decide +kernel
theorem dL_law_1003 : decode cL_law 1003 = .ok (.iaload, 1) := by decide +kernel
theorem dL_law_1004 : decode cL_law 1004 = .ok (.invokevirtual 137, 3) := by decide +kernel
theorem dL_law_1007 : decode cL_law 1007 = .ok (.if_icmp .eq 211, 3) := by decide +kernel
theorem dL_law_1010 : decode cL_law 1010 = .ok (.iconst 0, 1) := by decide +kernel
theorem dL_law_1011 : decode cL_law 1011 = .ok (.ireturn, 1) := by decide +kernel
theorem dL_law_1012 : decode cL_law 1012 = .ok (.aload_n 1, 1) := by decide +kernel
theorem dL_law_1013 : decode cL_law 1013 = .ok (.invokevirtual 138, 3) := by decide +kernel
theorem dL_law_1016 : decode cL_law 1016 = .ok (.aload_n 2, 1) := by decide +kernel
theorem dL_law_1017 : decode cL_law 1017 = .ok (.invokevirtual 141, 3) := by decide +kernel
theorem dL_law_1020 : decode cL_law 1020 = .ok (.if_icmp .eq 198, 3) := by decide +kernel
theorem dL_law_1023 : decode cL_law 1023 = .ok (.iconst 0, 1) := by decide +kernel
theorem dL_law_1024 : decode cL_law 1024 = .ok (.ireturn, 1) := by decide +kernel
theorem dL_law_1025 : decode cL_law 1025 = .ok (.aload_n 1, 1) := by decide +kernel
theorem dL_law_1026 : decode cL_law 1026 = .ok (.aload_n 0, 1) := by decide +kernel
theorem dL_law_1027 : decode cL_law 1027 = .ok (.iload_n 3, 1) := by decide +kernel
theorem dL_law_1028 : decode cL_law 1028 = .ok (.iconst 1, 1) := by decide +kernel
theorem dL_law_1029 : decode cL_law 1029 = .ok (.iadd, 1) := by decide +kernel
theorem dL_law_1030 : decode cL_law 1030 = .ok (.iaload, 1) := by decide +kernel
theorem dL_law_1031 : decode cL_law 1031 = .ok (.invokevirtual 142, 3) := by decide +kernel
theorem dL_law_1034 : decode cL_law 1034 = .ok (.aload_n 2, 1) := by decide +kernel
theorem dL_law_1035 : decode cL_law 1035 = .ok (.aload_n 0, 1) := by decide +kernel
theorem dL_law_1036 : decode cL_law 1036 = .ok (.iload_n 3, 1) := by decide +kernel
theorem dL_law_1037 : decode cL_law 1037 = .ok (.iconst 1, 1) := by decide +kernel
theorem dL_law_1038 : decode cL_law 1038 = .ok (.iadd, 1) := by decide +kernel
theorem dL_law_1039 : decode cL_law 1039 = .ok (.iaload, 1) := by decide +kernel
theorem dL_law_1040 : decode cL_law 1040 = .ok (.invokevirtual 145, 3) := by decide +kernel
theorem dL_law_1043 : decode cL_law 1043 = .ok (.if_icmp .eq 175, 3) := by decide +kernel
theorem dL_law_1046 : decode cL_law 1046 = .ok (.iconst 0, 1) := by decide +kernel
theorem dL_law_1047 : decode cL_law 1047 = .ok (.ireturn, 1) := by decide +kernel
theorem dL_law_1048 : decode cL_law 1048 = .ok (.aload_n 1, 1) := by decide +kernel
theorem dL_law_1049 : decode cL_law 1049 = .ok (.aload_n 0, 1) := by decide +kernel
theorem dL_law_1050 : decode cL_law 1050 = .ok (.iload_n 3, 1) := by decide +kernel
theorem dL_law_1051 : decode cL_law 1051 = .ok (.iconst 1, 1) := by decide +kernel
theorem dL_law_1052 : decode cL_law 1052 = .ok (.iadd, 1) := by decide +kernel
theorem dL_law_1053 : decode cL_law 1053 = .ok (.iaload, 1) := by decide +kernel
theorem dL_law_1054 : decode cL_law 1054 = .ok (.invokevirtual 146, 3) := by decide +kernel
theorem dL_law_1057 : decode cL_law 1057 = .ok (.aload_n 2, 1) := by decide +kernel
theorem dL_law_1058 : decode cL_law 1058 = .ok (.aload_n 0, 1) := by decide +kernel
theorem dL_law_1059 : decode cL_law 1059 = .ok (.iload_n 3, 1) := by decide +kernel
theorem dL_law_1060 : decode cL_law 1060 = .ok (.iconst 1, 1) := by decide +kernel
theorem dL_law_1061 : decode cL_law 1061 = .ok (.iadd, 1) := by decide +kernel
theorem dL_law_1062 : decode cL_law 1062 = .ok (.iaload, 1) := by decide +kernel
theorem dL_law_1063 : decode cL_law 1063 = .ok (.invokevirtual 149, 3) := by decide +kernel
theorem dL_law_1066 : decode cL_law 1066 = .ok (.if_icmp .eq 152, 3) := by decide +kernel
theorem dL_law_1069 : decode cL_law 1069 = .ok (.iconst 0, 1) := by decide +kernel
theorem dL_law_1070 : decode cL_law 1070 = .ok (.ireturn, 1) := by decide +kernel
theorem dL_law_1071 : decode cL_law 1071 = .ok (.aload_n 1, 1) := by decide +kernel
theorem dL_law_1072 : decode cL_law 1072 = .ok (.aload_n 0, 1) := by decide +kernel
theorem dL_law_1073 : decode cL_law 1073 = .ok (.iload_n 3, 1) := by decide +kernel
theorem dL_law_1074 : decode cL_law 1074 = .ok (.iconst 1, 1) := by decide +kernel
theorem dL_law_1075 : decode cL_law 1075 = .ok (.iadd, 1) := by decide +kernel
theorem dL_law_1076 : decode cL_law 1076 = .ok (.iaload, 1) := by decide +kernel
theorem dL_law_1077 : decode cL_law 1077 = .ok (.aload_n 0, 1) := by decide +kernel
theorem dL_law_1078 : decode cL_law 1078 = .ok (.iload_n 3, 1) := by decide +kernel
theorem dL_law_1079 : decode cL_law 1079 = .ok (.iconst 2, 1) := by decide +kernel
theorem dL_law_1080 : decode cL_law 1080 = .ok (.iadd, 1) := by decide +kernel
theorem dL_law_1081 : decode cL_law 1081 = .ok (.iaload, 1) := by decide +kernel
theorem dL_law_1082 : decode cL_law 1082 = .ok (.invokevirtual 150, 3) := by decide +kernel
theorem dL_law_1085 : decode cL_law 1085 = .ok (.aload_n 2, 1) := by decide +kernel
theorem dL_law_1086 : decode cL_law 1086 = .ok (.aload_n 0, 1) := by decide +kernel
theorem dL_law_1087 : decode cL_law 1087 = .ok (.iload_n 3, 1) := by decide +kernel
theorem dL_law_1088 : decode cL_law 1088 = .ok (.iconst 1, 1) := by decide +kernel
theorem dL_law_1089 : decode cL_law 1089 = .ok (.iadd, 1) := by decide +kernel
theorem dL_law_1090 : decode cL_law 1090 = .ok (.iaload, 1) := by decide +kernel
theorem dL_law_1091 : decode cL_law 1091 = .ok (.aload_n 0, 1) := by decide +kernel
theorem dL_law_1092 : decode cL_law 1092 = .ok (.iload_n 3, 1) := by decide +kernel
theorem dL_law_1093 : decode cL_law 1093 = .ok (.iconst 2, 1) := by decide +kernel
theorem dL_law_1094 : decode cL_law 1094 = .ok (.iadd, 1) := by decide +kernel
theorem dL_law_1095 : decode cL_law 1095 = .ok (.iaload, 1) := by decide +kernel
theorem dL_law_1096 : decode cL_law 1096 = .ok (.invokevirtual 153, 3) := by decide +kernel
theorem dL_law_1099 : decode cL_law 1099 = .ok (.if_icmp .eq 119, 3) := by decide +kernel
theorem dL_law_1102 : decode cL_law 1102 = .ok (.iconst 0, 1) := by decide +kernel
theorem dL_law_1103 : decode cL_law 1103 = .ok (.ireturn, 1) := by decide +kernel
theorem dL_law_1104 : decode cL_law 1104 = .ok (.aload_n 1, 1) := by decide +kernel
theorem dL_law_1105 : decode cL_law 1105 = .ok (.invokevirtual 154, 3) := by decide +kernel
theorem dL_law_1108 : decode cL_law 1108 = .ok (.aload_n 2, 1) := by decide +kernel
theorem dL_law_1109 : decode cL_law 1109 = .ok (.invokevirtual 157, 3) := by decide +kernel
theorem dL_law_1112 : decode cL_law 1112 = .ok (.if_icmp .eq 106, 3) := by decide +kernel
theorem dL_law_1115 : decode cL_law 1115 = .ok (.iconst 0, 1) := by decide +kernel
theorem dL_law_1116 : decode cL_law 1116 = .ok (.ireturn, 1) := by decide +kernel
theorem dL_law_1117 : decode cL_law 1117 = .ok (.aload_n 1, 1) := by decide +kernel
theorem dL_law_1118 : decode cL_law 1118 = .ok (.invokevirtual 158, 3) := by decide +kernel
theorem dL_law_1121 : decode cL_law 1121 = .ok (.aload_n 2, 1) := by decide +kernel
theorem dL_law_1122 : decode cL_law 1122 = .ok (.invokevirtual 162, 3) := by decide +kernel
theorem dL_law_1125 : decode cL_law 1125 = .ok (.lcmp, 1) := by decide +kernel
theorem dL_law_1126 : decode cL_law 1126 = .ok (.ifCond .eq 92, 3) := by decide +kernel
theorem dL_law_1129 : decode cL_law 1129 = .ok (.iconst 0, 1) := by decide +kernel
theorem dL_law_1130 : decode cL_law 1130 = .ok (.ireturn, 1) := by decide +kernel
theorem dL_law_1131 : decode cL_law 1131 = .ok (.aload_n 1, 1) := by decide +kernel
theorem dL_law_1132 : decode cL_law 1132 = .ok (.invokevirtual 163, 3) := by decide +kernel
theorem dL_law_1135 : decode cL_law 1135 = .ok (.aload_n 2, 1) := by decide +kernel
theorem dL_law_1136 : decode cL_law 1136 = .ok (.invokevirtual 166, 3) := by decide +kernel
theorem dL_law_1139 : decode cL_law 1139 = .ok (.lcmp, 1) := by decide +kernel
theorem dL_law_1140 : decode cL_law 1140 = .ok (.ifCond .eq 78, 3) := by decide +kernel
theorem dL_law_1143 : decode cL_law 1143 = .ok (.iconst 0, 1) := by decide +kernel
theorem dL_law_1144 : decode cL_law 1144 = .ok (.ireturn, 1) := by decide +kernel
theorem dL_law_1145 : decode cL_law 1145 = .ok (.aload_n 1, 1) := by decide +kernel
theorem dL_law_1146 : decode cL_law 1146 = .ok (.aload_n 0, 1) := by decide +kernel
theorem dL_law_1147 : decode cL_law 1147 = .ok (.iload_n 3, 1) := by decide +kernel
theorem dL_law_1148 : decode cL_law 1148 = .ok (.iconst 1, 1) := by decide +kernel
theorem dL_law_1149 : decode cL_law 1149 = .ok (.iadd, 1) := by decide +kernel
theorem dL_law_1150 : decode cL_law 1150 = .ok (.iaload, 1) := by decide +kernel
theorem dL_law_1151 : decode cL_law 1151 = .ok (.invokevirtual 167, 3) := by decide +kernel
theorem dL_law_1154 : decode cL_law 1154 = .ok (.aload_n 2, 1) := by decide +kernel
theorem dL_law_1155 : decode cL_law 1155 = .ok (.aload_n 0, 1) := by decide +kernel
theorem dL_law_1156 : decode cL_law 1156 = .ok (.iload_n 3, 1) := by decide +kernel
theorem dL_law_1157 : decode cL_law 1157 = .ok (.iconst 1, 1) := by decide +kernel
theorem dL_law_1158 : decode cL_law 1158 = .ok (.iadd, 1) := by decide +kernel
theorem dL_law_1159 : decode cL_law 1159 = .ok (.iaload, 1) := by decide +kernel
theorem dL_law_1160 : decode cL_law 1160 = .ok (.invokevirtual 170, 3) := by decide +kernel
theorem dL_law_1163 : decode cL_law 1163 = .ok (.if_icmp .eq 55, 3) := by decide +kernel
theorem dL_law_1166 : decode cL_law 1166 = .ok (.iconst 0, 1) := by decide +kernel
theorem dL_law_1167 : decode cL_law 1167 = .ok (.ireturn, 1) := by decide +kernel
theorem dL_law_1168 : decode cL_law 1168 = .ok (.aload_n 1, 1) := by decide +kernel
theorem dL_law_1169 : decode cL_law 1169 = .ok (.invokevirtual 171, 3) := by decide +kernel
theorem dL_law_1172 : decode cL_law 1172 = .ok (.aload_n 2, 1) := by decide +kernel
theorem dL_law_1173 : decode cL_law 1173 = .ok (.invokevirtual 174, 3) := by decide +kernel
theorem dL_law_1176 : decode cL_law 1176 = .ok (.if_icmp .eq 42, 3) := by decide +kernel
theorem dL_law_1179 : decode cL_law 1179 = .ok (.iconst 0, 1) := by decide +kernel
theorem dL_law_1180 : decode cL_law 1180 = .ok (.ireturn, 1) := by decide +kernel
theorem dL_law_1181 : decode cL_law 1181 = .ok (.aload_n 1, 1) := by decide +kernel
theorem dL_law_1182 : decode cL_law 1182 = .ok (.aload_n 0, 1) := by decide +kernel
theorem dL_law_1183 : decode cL_law 1183 = .ok (.iload_n 3, 1) := by decide +kernel
theorem dL_law_1184 : decode cL_law 1184 = .ok (.iconst 1, 1) := by decide +kernel
theorem dL_law_1185 : decode cL_law 1185 = .ok (.iadd, 1) := by decide +kernel
theorem dL_law_1186 : decode cL_law 1186 = .ok (.iaload, 1) := by decide +kernel
theorem dL_law_1187 : decode cL_law 1187 = .ok (.invokevirtual 175, 3) := by decide +kernel
theorem dL_law_1190 : decode cL_law 1190 = .ok (.aload_n 2, 1) := by decide +kernel
theorem dL_law_1191 : decode cL_law 1191 = .ok (.aload_n 0, 1) := by decide +kernel
theorem dL_law_1192 : decode cL_law 1192 = .ok (.iload_n 3, 1) := by decide +kernel
theorem dL_law_1193 : decode cL_law 1193 = .ok (.iconst 1, 1) := by decide +kernel
theorem dL_law_1194 : decode cL_law 1194 = .ok (.iadd, 1) := by decide +kernel
theorem dL_law_1195 : decode cL_law 1195 = .ok (.iaload, 1) := by decide +kernel
theorem dL_law_1196 : decode cL_law 1196 = .ok (.invokevirtual 178, 3) := by decide +kernel
theorem dL_law_1199 : decode cL_law 1199 = .ok (.if_icmp .eq 19, 3) := by decide +kernel
theorem dL_law_1202 : decode cL_law 1202 = .ok (.iconst 0, 1) := by decide +kernel
theorem dL_law_1203 : decode cL_law 1203 = .ok (.ireturn, 1) := by decide +kernel
theorem dL_law_1204 : decode cL_law 1204 = .ok (.aload_n 1, 1) := by decide +kernel
theorem dL_law_1205 : decode cL_law 1205 = .ok (.invokevirtual 179, 3) := by decide +kernel
theorem dL_law_1208 : decode cL_law 1208 = .ok (.aload_n 2, 1) := by decide +kernel
theorem dL_law_1209 : decode cL_law 1209 = .ok (.invokevirtual 182, 3) := by decide +kernel
theorem dL_law_1212 : decode cL_law 1212 = .ok (.lcmp, 1) := by decide +kernel
theorem dL_law_1213 : decode cL_law 1213 = .ok (.ifCond .eq 5, 3) := by decide +kernel
theorem dL_law_1216 : decode cL_law 1216 = .ok (.iconst 0, 1) := by decide +kernel
theorem dL_law_1217 : decode cL_law 1217 = .ok (.ireturn, 1) := by decide +kernel
theorem dL_law_1218 : decode cL_law 1218 = .ok (.iinc 3 6, 3) := by decide +kernel
theorem dL_law_1221 : decode cL_law 1221 = .ok (.goto (-1203), 3) := by decide +kernel
theorem dL_law_1224 : decode cL_law 1224 = .ok (.iconst 1, 1) := by decide +kernel
theorem dL_law_1225 : decode cL_law 1225 = .ok (.ireturn, 1) := by decide +kernel
end
section
/-! THE PURE MEMORY OF BOTH OBJECTS, its shape (which never changes once both are made), and the world that it stands for. A reference is the number of its cell; ad gives its address. -/
abbrev gn_M : Type := (Nat → Nat → Int32) × (Nat → Nat → Int64)
/-- a cell: an array of ints (0), bytes (1), booleans (2) of a length; a row of references; an object of a kind with its fields (a cell; an int; a long) -/
abbrev gn_Sh : Type := (Nat × Nat) ⊕ (List Nat) ⊕ (Nat × List (Nat ⊕ Bool))
def gn_tr (ad : Nat → Nat) : Value → Value
  | .ref k => .ref (ad k)
  | v => v
def gn_F (ad : Nat → Nat) (σ : gn_M) (k j : Nat) : Nat ⊕ Bool → Value
  | .inl t => .ref (ad t)
  | .inr false => .int (σ.1 k j)
  | .inr true => .long (σ.2 k j)
def gn_E (cy : Nat → ClassId) (ad : Nat → Nat) (σ : gn_M) (k : Nat) : gn_Sh → va_E
  | .inl (t, n) => .inl (cy t, n, .inl (σ.1 k))
  | .inr (.inl ts) => .inl (cy 3, ts.length, .inr (.inr (.inr (.inr (fun i => (ts[i]?).map ad)))))
  | .inr (.inr (ci, fs)) => .inr (ci, fs.mapIdx (fun j f => gn_F ad σ k j f))
def gn_S : List gn_Sh :=
  [.inr (.inr (3, [.inl 1, .inl 4, .inl 7, .inl 8, .inl 9, .inl 23, .inl 24, .inl 25, .inl 26, .inr false, .inr false, .inr true, .inr true])),
   .inr (.inr (2, [.inl 2, .inl 3, .inr false])), .inr (.inl [10, 11, 12, 13, 14, 15]), .inl (0, 6),
   .inr (.inr (2, [.inl 5, .inl 6, .inr false])), .inr (.inl [16, 17, 18, 19]), .inl (0, 4),
   .inr (.inr (0, [.inl 27, .inl 28, .inl 29, .inl 30, .inl 31, .inl 32, .inr false, .inr false, .inr false, .inr false, .inr false])),
   .inr (.inr (1, [.inl 33, .inl 34, .inl 35, .inl 36, .inl 37, .inr false, .inr false, .inr false])),
   .inr (.inl [20, 21, 22]),
   .inl (0, 40), .inl (0, 40), .inl (0, 40), .inl (0, 40), .inl (0, 40), .inl (0, 40),
   .inl (0, 60), .inl (0, 60), .inl (0, 60), .inl (0, 60),
   .inl (0, 40), .inl (0, 40), .inl (0, 40),
   .inl (0, 3), .inl (0, 7), .inl (0, 7), .inl (0, 6),
   .inl (0, 7), .inl (0, 7), .inl (0, 7), .inl (0, 7), .inl (0, 6), .inl (0, 40),
   .inl (0, 7), .inl (0, 128), .inl (0, 128), .inl (0, 128), .inl (0, 896),
   .inr (.inr (4, [.inr false, .inl 39, .inr false, .inr true, .inr true, .inl 40, .inl 41, .inl 42, .inl 43, .inl 44, .inr false, .inl 45, .inl 46, .inl 47, .inr false, .inl 48, .inr false, .inl 49, .inl 50, .inl 51, .inl 52, .inl 53, .inl 54, .inl 55])),
   .inl (0, 6), .inl (0, 6), .inl (0, 240), .inl (0, 4), .inl (1, 240), .inl (0, 40),
   .inl (0, 14), .inl (0, 14), .inl (0, 14), .inl (0, 410), .inl (0, 1230), .inl (0, 3),
   .inl (0, 7), .inl (0, 896), .inl (0, 1024), .inl (0, 7), .inl (2, 1024)]
abbrev gn_n : Nat := 56
theorem gn_S_length : gn_S.length = gn_n := by decide +kernel
def gn_W (cy : Nat → ClassId) (ad : Nat → Nat) (σ : gn_M) : va_W := gn_S.mapIdx (fun k c => (ad k, gn_E cy ad σ k c))
def gn_A (ad : Nat → Nat) : Nat → Prop := fun q => ∃ k : Nat, k < gn_n ∧ q = ad k
theorem gn_W_at {cy : Nat → ClassId} {ad : Nat → Nat} {σ : gn_M} {k : Nat} {c : gn_Sh} (h : gn_S[k]? = some c) : (gn_W cy ad σ)[k]? = some (ad k, gn_E cy ad σ k c) := by
  rw [gn_W, List.getElem?_mapIdx, h]
  rfl
theorem gn_lt {k : Nat} {c : gn_Sh} (h : gn_S[k]? = some c) : k < gn_n := by
  have := (List.getElem?_eq_some_iff.mp h).1
  rwa [gn_S_length] at this
theorem gn_W_ad {cy : Nat → ClassId} {ad : Nat → Nat} {σ : gn_M} {k : Nat} {q : Nat × va_E} (h : (gn_W cy ad σ)[k]? = some q) : k < gn_n ∧ q.1 = ad k := by
  rw [gn_W, List.getElem?_mapIdx] at h
  cases hk : gn_S[k]? with
  | none => rw [hk] at h; cases h
  | some c => rw [hk] at h; cases h; exact ⟨gn_lt hk, rfl⟩
def gn_ap (ad : Nat → Nat) : Prop := ∀ i j : Nat, i < gn_n → j < gn_n → ad i = ad j → i = j
theorem gn_D {cy : Nat → ClassId} {ad : Nat → Nat} {σ : gn_M} (h : gn_ap ad) : va_D (gn_A ad) (gn_W cy ad σ) := by
  refine ⟨fun i j p q hi hj e => ?_, fun k q hk => ?_⟩
  · obtain ⟨h1, e1⟩ := gn_W_ad hi
    obtain ⟨h2, e2⟩ := gn_W_ad hj
    exact h i j h1 h2 (e1.symm.trans (e.trans e2))
  · obtain ⟨h1, e1⟩ := gn_W_ad hk
    exact ⟨k, h1, e1⟩
/-- one cell of the memory is another one: the world's cell is -/
theorem gn_W_set {cy : Nat → ClassId} {ad : Nat → Nat} {σ σ' : gn_M} {k : Nat} {c : gn_Sh} (h : gn_S[k]? = some c) (h1 : ∀ j, j ≠ k → σ'.1 j = σ.1 j) (h2 : ∀ j, j ≠ k → σ'.2 j = σ.2 j) : (gn_W cy ad σ).set k (ad k, gn_E cy ad σ' k c) = gn_W cy ad σ' := by
  apply List.ext_getElem?
  intro i
  by_cases hi : i = k
  · subst hi
    rw [List.getElem?_set_self (by rw [gn_W, List.length_mapIdx]; exact (List.getElem?_eq_some_iff.mp h).1), gn_W_at h]
  · rw [List.getElem?_set_ne (Ne.symm hi), gn_W, gn_W, List.getElem?_mapIdx, List.getElem?_mapIdx]
    congr 1
    funext c2
    congr 1
    match c2 with
    | .inl (t, n) => simp only [gn_E, h1 i hi]
    | .inr (.inl ts) => rfl
    | .inr (.inr (ci, fs)) =>
      simp only [gn_E]
      congr 3
      funext j f
      match f with
      | .inl t => rfl
      | .inr false => simp only [gn_F, h1 i hi]
      | .inr true => simp only [gn_F, h2 i hi]
/-- the memory with an int, a long laid into a cell's place -/
def gn_up (σ : gn_M) (k i : Nat) (v : Int32) : gn_M := (fun a b => if a = k ∧ b = i then v else σ.1 a b, σ.2)
def gn_upL (σ : gn_M) (k i : Nat) (v : Int64) : gn_M := (σ.1, fun a b => if a = k ∧ b = i then v else σ.2 a b)
/-- with places of a cell copied into another one's (perhaps its own), as if taken ahead -/
def gn_cp (σ : gn_M) (k0 sp k1 dp n : Nat) : gn_M := (fun a b => if a = k1 then va_cpy (σ.1 k0) (σ.1 k1) sp dp n b else σ.1 a b, σ.2)
theorem gn_up_1 {σ : gn_M} {k i : Nat} {v : Int32} {j : Nat} (h : j ≠ k) : (gn_up σ k i v).1 j = σ.1 j := by
  funext b
  simp [gn_up, h]
theorem gn_up_s {σ : gn_M} {k i : Nat} {v : Int32} : (gn_up σ k i v).1 k = upd (σ.1 k) i v := by
  funext b
  simp [gn_up, upd]
theorem gn_cp_1 {σ : gn_M} {k0 sp k1 dp n : Nat} {j : Nat} (h : j ≠ k1) : (gn_cp σ k0 sp k1 dp n).1 j = σ.1 j := by
  funext b
  simp [gn_cp, h]
theorem gn_cp_s {σ : gn_M} {k0 sp k1 dp n : Nat} : (gn_cp σ k0 sp k1 dp n).1 k1 = va_cpy (σ.1 k0) (σ.1 k1) sp dp n := by
  funext b
  simp [gn_cp]
/-! WORDS: those that stay, and those of nest mates -/
def gn_T : List Cond := lw_tbl.filter goodWord
def gn_isN : Cond → Bool
  | .fieldLinkNest .. => true
  | .methodLinkNest .. => true
  | _ => false
def gn_N : List Cond := lw_tbl.filter gn_isN
theorem gn_t {w : Cond} (i : Nat) (h : lw_tbl[i]? = some w) (g : goodWord w = true) : w ∈ gn_T := List.mem_filter.mpr ⟨List.mem_of_getElem? h, g⟩
theorem gn_nn {w : Cond} (i : Nat) (h : lw_tbl[i]? = some w) (g : gn_isN w = true) : w ∈ gn_N := List.mem_filter.mpr ⟨List.mem_of_getElem? h, g⟩
theorem gn_T_good {y : MethodName} {cc : ByteArray} {n : Nat} {ret : Option FieldType} {big : List Cond} (hb : ∀ w ∈ gn_T, w ∈ big) (h : Cond.code y cc n ret ∈ gn_T) : GoodIn big (Cond.code y cc n ret :: gn_T) := by
  intro w hw
  have key : ∀ v, v ∈ gn_T → v ∈ big ∧ ((v.onTables && v.keeps) = true ∨ ∃ ty, v = .arrayClass ty) := fun v hv => ⟨hb v hv, good_of_word (List.mem_filter.mp hv).2⟩
  rcases List.mem_cons.mp hw with rfl | h1
  · exact key _ h
  · exact key _ h1
/-! THE WORLD'S STANDING PART: tables, the static row of letters, the script of the law, addresses apart -/
abbrev gn_tys (cy : Nat → ClassId) : List (ClassId × FieldType) := [(cy 0, .int), (cy 1, .byte), (cy 2, .boolean), (cy 3, .array .int)]
def gn_let (j : Nat) : Int32 := ([103, 107, 115, 109, 105, 102] : List Int32).getD j 0
def gn_X (xo : Option (Nat × (Nat → Int32))) (ad : Nat → Nat) (s : State) : Prop := match xo with
  | none => True
  | some (L, xs) => va_X (ad 101) L xs s s.heap ∧ ad 101 < s.heap.size ∧ ¬ gn_A ad (ad 101)
def gn_V (xo : Option (Nat × (Nat → Int32))) (D : va_G) (cy : Nat → ClassId) (ad : Nat → Nat) (s : State) : Prop :=
  (∀ w ∈ gn_N, va_Nw w s) ∧ va_K D vwCl (gn_tys cy) s ∧ va_Z "GateNames" "LETTERS" "[I" (.ref (ad 100)) (gn_A ad) s s.heap ∧ va_T .int (ad 100) 6 (fun j => .int (gn_let j)) (gn_A ad) s s.heap ∧ gn_ap ad ∧ gn_X xo ad s
theorem gn_V.to {xo : Option (Nat × (Nat → Int32))} {D : va_G} {cy : Nat → ClassId} {ad : Nat → Nat} {s U : State} (h : gn_V xo D cy ad s) (hW : s.WarmedH U.vm) (hq : ∀ q : Nat, q < s.heap.size → ¬ gn_A ad q → U.heap[q]? = s.heap[q]?) : gn_V none D cy ad U := by
  obtain ⟨h1, h2, h3, h4, h5, -⟩ := h
  refine ⟨fun w hw => ?_, va_K.moved hW.alike h2, (h3.moved hW.alike).kept hq, (h4.moved hW.alike).kept hq, h5, trivial⟩
  have hn := (List.mem_filter.mp hw).2
  have h0 := h1 w hw
  cases w <;> first | (cases hn; done) | exact va_Nw.warmF hW h0 | exact va_Nw.warmM hW h0
theorem gn_V.blind {D : va_G} {cy : Nat → ClassId} {ad : Nat → Nat} {U : State} {g : JFrame} {mk : MethodId} {a : Array Value} (h : gn_V none D cy ad U) : gn_V none D cy ad (U.calling g mk a) := by
  obtain ⟨h1, h2, h3, h4, h5, -⟩ := h
  refine ⟨fun w hw => ?_, va_K.moved (u := U) (U := U.calling g mk a) (Vm.Alike.refl U.vm) h2, h3.moved (u := U) (U := U.calling g mk a) (Vm.Alike.refl U.vm), h4.moved (u := U) (U := U.calling g mk a) (Vm.Alike.refl U.vm), h5, trivial⟩
  have hn := (List.mem_filter.mp hw).2
  have h0 := h1 w hw
  cases w <;> first | (cases hn; done) | exact va_Nw.same (u := U) (U := U.calling g mk a) rfl rfl h0
/-! LOCALS: what is known of each place -/
def gn_L (ls : Array Slot) (nL : Nat) (ad : Nat → Nat) (lv : List (Option Value)) : Prop := ls.size = nL ∧ lv_wf ls ∧ ∀ (i : Nat) (v : Value), lv[i]? = some (some v) → ls[i]? = some (.val (gn_tr ad v))
def gn_ll (ad : Nat → Nat) (lv : List (Option Value)) : List (Nat × Value) := lv.zipIdx.filterMap (fun q => q.1.map (fun v => (q.2, gn_tr ad v)))
theorem gn_ll_mem {ad : Nat → Nat} {lv : List (Option Value)} {i : Nat} {w : Value} : (i, w) ∈ gn_ll ad lv ↔ ∃ v, lv[i]? = some (some v) ∧ w = gn_tr ad v := by
  unfold gn_ll
  rw [List.mem_filterMap]
  constructor
  · rintro ⟨⟨o, j⟩, hm, he⟩
    rw [List.mem_zipIdx_iff_getElem?] at hm
    cases o with
    | none => cases he
    | some v => cases he; exact ⟨v, hm, rfl⟩
  · rintro ⟨v, h, rfl⟩
    exact ⟨(some v, i), List.mem_zipIdx_iff_getElem?.mpr h, rfl⟩
theorem gn_L.has {ls : Array Slot} {nL : Nat} {ad : Nat → Nat} {lv : List (Option Value)} (h : gn_L ls nL ad lv) : lv_has ls nL (gn_ll ad lv) := by
  refine ⟨h.1, h.2.1, fun q hq => ?_⟩
  obtain ⟨i, w⟩ := q
  obtain ⟨v, h1, rfl⟩ := gn_ll_mem.mp hq
  exact h.2.2 i v h1
theorem gn_tr_cat (ad : Nat → Nat) (v : Value) : (gn_tr ad v).category = v.category := by cases v <;> rfl
/-- behind a store of one place: the list of what is known -/
def gn_ok1 (i : Nat) (lv : List (Option Value)) : Bool := match i with
  | 0 => true
  | j + 1 => match lv[j]? with
    | some (some w) => w.category == 1
    | _ => true
theorem gn_L.st1 {ls' : Array Slot} {nL : Nat} {ad : Nat → Nat} {lv lv' : List (Option Value)} {i : Nat} {v : Value} (hok : gn_ok1 i lv' = true) (hs : ∀ j w, j ≠ i → lv'[j]? = some (some w) → lv[j]? = some (some w)) (hv : ∀ w, lv'[i]? = some (some w) → w = v)
    (h : lv_has ls' nL ((i, gn_tr ad v) :: (gn_ll ad lv).filter (fun q => !(q.1 == i) && !(q.1 + 1 == i && q.2.category == 2)))) : gn_L ls' nL ad lv' := by
  refine ⟨h.1, h.2.1, fun j w hj => ?_⟩
  by_cases hji : j = i
  · subst hji
    rw [hv w hj]
    exact h.2.2 (j, gn_tr ad v) List.mem_cons_self
  · refine h.2.2 (j, gn_tr ad w) (List.mem_cons_of_mem _ (List.mem_filter.mpr ⟨gn_ll_mem.mpr ⟨w, hs j w hji hj, rfl⟩, ?_⟩))
    have h1 : ¬ (j + 1 = i ∧ w.category = 2) := by
      rintro ⟨rfl, hc⟩
      simp [gn_ok1, hj, hc] at hok
    simp only [gn_tr_cat]
    simp [hji]
    by_cases e : j + 1 = i
    · exact Or.inr (fun hc => h1 ⟨e, hc⟩)
    · exact Or.inl e
theorem gn_L.st2 {ls' : Array Slot} {nL : Nat} {ad : Nat → Nat} {lv lv' : List (Option Value)} {i : Nat} {v : Value} (hok : gn_ok1 i lv' = true) (hs : ∀ j w, j ≠ i → lv'[j]? = some (some w) → lv[j]? = some (some w) ∧ j ≠ i + 1) (hv : ∀ w, lv'[i]? = some (some w) → w = v)
    (h : lv_has ls' nL ((i, gn_tr ad v) :: (gn_ll ad lv).filter (fun q => !(q.1 == i) && (!(q.1 == i + 1) && !(q.1 + 1 == i && q.2.category == 2))))) : gn_L ls' nL ad lv' := by
  refine ⟨h.1, h.2.1, fun j w hj => ?_⟩
  by_cases hji : j = i
  · subst hji
    rw [hv w hj]
    exact h.2.2 (j, gn_tr ad v) List.mem_cons_self
  · refine h.2.2 (j, gn_tr ad w) (List.mem_cons_of_mem _ (List.mem_filter.mpr ⟨gn_ll_mem.mpr ⟨w, (hs j w hji hj).1, rfl⟩, ?_⟩))
    have h1 : ¬ (j + 1 = i ∧ w.category = 2) := by
      rintro ⟨rfl, hc⟩
      simp [gn_ok1, hj, hc] at hok
    have h2 := (hs j w hji hj).2
    simp only [gn_tr_cat]
    simp [hji, h2]
    by_cases e : j + 1 = i
    · exact Or.inr (fun hc => h1 ⟨e, hc⟩)
    · exact Or.inl e
def gn_clr (i : Nat) (lv : List (Option Value)) : List (Option Value) := match i with
  | 0 => lv
  | j + 1 => match lv[j]? with
    | some (some w) => if w.category = 2 then lv.set j none else lv
    | _ => lv
def gn_put1 (i : Nat) (v : Value) (lv : List (Option Value)) : List (Option Value) := (gn_clr i lv).set i (some v)
def gn_put2 (i : Nat) (v : Value) (lv : List (Option Value)) : List (Option Value) := ((gn_clr i lv).set i (some v)).set (i + 1) none
theorem gn_clr_in {i j : Nat} {w : Value} {lv : List (Option Value)} (h : (gn_clr i lv)[j]? = some (some w)) : lv[j]? = some (some w) := by
  unfold gn_clr at h
  split at h
  · exact h
  · split at h
    · split at h
      · next k _ _ _ _ =>
        by_cases hk : j = k
        · subst hk
          by_cases hl : j < lv.length
          · rw [List.getElem?_set_self hl] at h; cases h
          · rw [List.getElem?_eq_none (by rw [List.length_set]; omega)] at h; cases h
        · rwa [List.getElem?_set_ne (Ne.symm hk)] at h
      · exact h
    · exact h
theorem gn_clr_ok {i : Nat} {lv : List (Option Value)} : gn_ok1 i (gn_clr i lv) = true := by
  unfold gn_ok1
  split
  · rfl
  · next j =>
    split
    · next w hw =>
      have h1 := gn_clr_in hw
      simp only [gn_clr, h1] at hw
      rcases lv_cat w with hc | hc
      · simp [hc]
      · rw [if_pos hc] at hw
        rw [List.getElem?_set_self (List.getElem?_eq_some_iff.mp h1).1] at hw
        cases hw
    · rfl
theorem gn_ok1_set {i j : Nat} {o : Option Value} {lv : List (Option Value)} (h : gn_ok1 i lv = true) (hj : i ≤ j) : gn_ok1 i (lv.set j o) = true := by
  unfold gn_ok1 at h ⊢
  split
  · rfl
  · next k =>
    rw [List.getElem?_set_ne (by omega)]
    exact h
theorem gn_L.put1 {ls' : Array Slot} {nL : Nat} {ad : Nat → Nat} {lv : List (Option Value)} {i : Nat} {v : Value}
    (h : lv_has ls' nL ((i, gn_tr ad v) :: (gn_ll ad lv).filter (fun q => !(q.1 == i) && !(q.1 + 1 == i && q.2.category == 2)))) : gn_L ls' nL ad (gn_put1 i v lv) := by
  refine gn_L.st1 (gn_ok1_set gn_clr_ok (Nat.le_refl i)) (fun j w hj hw => ?_) (fun w hw => ?_) h
  · rw [gn_put1, List.getElem?_set_ne (Ne.symm hj)] at hw
    exact gn_clr_in hw
  · rw [gn_put1] at hw
    by_cases hl : i < (gn_clr i lv).length
    · rw [List.getElem?_set_self hl] at hw; cases hw; rfl
    · rw [List.getElem?_eq_none (by rw [List.length_set]; omega)] at hw; cases hw
theorem gn_L.put2 {ls' : Array Slot} {nL : Nat} {ad : Nat → Nat} {lv : List (Option Value)} {i : Nat} {v : Value}
    (h : lv_has ls' nL ((i, gn_tr ad v) :: (gn_ll ad lv).filter (fun q => !(q.1 == i) && (!(q.1 == i + 1) && !(q.1 + 1 == i && q.2.category == 2))))) : gn_L ls' nL ad (gn_put2 i v lv) := by
  refine gn_L.st2 (gn_ok1_set (gn_ok1_set gn_clr_ok (Nat.le_refl i)) (Nat.le_succ i)) (fun j w hj hw => ?_) (fun w hw => ?_) h
  · rw [gn_put2] at hw
    by_cases h1 : j = i + 1
    · subst h1
      exfalso
      by_cases hl : i + 1 < ((gn_clr i lv).set i (some v)).length
      · rw [List.getElem?_set_self hl] at hw; cases hw
      · rw [List.getElem?_eq_none (by rw [List.length_set]; omega)] at hw; cases hw
    · rw [List.getElem?_set_ne (fun e => h1 e.symm), List.getElem?_set_ne (Ne.symm hj)] at hw
      exact ⟨gn_clr_in hw, h1⟩
  · rw [gn_put2, List.getElem?_set_ne (by omega)] at hw
    by_cases hl : i < (gn_clr i lv).length
    · rw [List.getElem?_set_self hl] at hw; cases hw; rfl
    · rw [List.getElem?_eq_none (by rw [List.length_set]; omega)] at hw; cases hw
/-! THE JUDGEMENT: in a method, from a place of its code, with these locals, this stack and this memory, the method comes to its return with ρ and the memory σf -/
def gn_fit : Option FieldType → Option Value → Prop
  | some ty, some (.int v) => narrow ty (.int v) = .int v
  | some .long, some (.long _) => True
  | none, none => True
  | _, _ => False
def gn_isRet (cc : ByteArray) (pc : Nat) : Option Value → Prop
  | some (.int _) => decode cc pc = .ok (.ireturn, 1)
  | some (.long _) => decode cc pc = .ok (.lreturn, 1)
  | none => decode cc pc = .ok (.return_, 1)
  | _ => False
def gn_Fx (own : String) (cc : ByteArray) (nL F Lc : Nat) (R : Room) (cells slots : Nat) (p : Program) (m : MethodId) (args : Array Value) (c : Code) (s : State) : Prop :=
  p.tables.exec = Jvm.exec ∧ c.code = cc ∧ c.maxLocals = nL ∧ s.vm.findClass own = some m.cls ∧ (∀ w ∈ gn_T, w.before args s = true) ∧ F ≤ R.frames ∧ Lc ≤ R.locals ∧ cells ≤ R.cells ∧ slots ≤ R.slots
def gn_Go (own : String) (cc : ByteArray) (nL F Lc : Nat) (rt : Option FieldType) (xo : Option (Nat × (Nat → Int32))) (pc : Nat) (lv : List (Option Value)) (st : List Value) (σ : gn_M) (ρ : Option Value) (σf : gn_M) : Prop :=
  gn_fit rt ρ ∧ ∀ (p : Program) (l : Launch) (e : Env) (R : Room) (s : State) (m : MethodId) (args : Array Value) (below : List Frame) (meth : Method) (c : Code) (cells slots : Nat) (Q : State → Prop) (D : va_G) (cy : Nat → ClassId) (ad : Nat → Nat) (H : Heap) (locs : List Loc) (ls : Array Slot),
    gn_Fx own cc nL F Lc R cells slots p m args c s → gn_V xo D cy ad s → va_P D vwCl (gn_W cy ad σ) H → va_S (gn_A ad) s.heap H locs → gn_L ls nL ad lv →
    (∀ (pc' : Nat) (H' : Heap) (locs' : List Loc) (ls' : Array Slot), gn_isRet cc pc' ρ → va_P D vwCl (gn_W cy ad σf) H' → va_S (gn_A ad) s.heap H' locs' → W p l e R s m args below meth c H' locs' cells slots Q (F0 m pc' ls' (ρ.toList.map (gn_tr ad)))) →
    W p l e R s m args below meth c H locs cells slots Q (F0 m pc ls (st.map (gn_tr ad)))
/-- a method's contract at arguments and a memory -/
def gn_Cl (y : MethodName) (cc : ByteArray) (maxL : Nat) (ret : Option FieldType) (F Lc : Nat) (as : List Value) (σ : gn_M) (ρ : Option Value) (σf : gn_M) : Prop :=
  gn_fit ret ρ ∧ ∀ (l : Launch) (D : va_G) (cy : Nat → ClassId) (ad : Nat → Nat), Met l y (Cond.code y cc maxL ret :: gn_T) ({ frames := F, cells := 0, slots := 0, locals := Lc }) (fun args U => args = (as.map (gn_tr ad)).toArray ∧ gn_V none D cy ad U ∧ va_P D vwCl (gn_W cy ad σ) U.heap) (fun _ st o t => o = .returned (ρ.map (gn_tr ad)) ∧ va_P D vwCl (gn_W cy ad σf) t.heap ∧ va_F (gn_A ad) st t) 0 0 (gn_A ad)
def gn_lv0 : List Value → List (Option Value)
  | [] => []
  | v :: vs => if v.category = 2 then some v :: none :: gn_lv0 vs else some v :: gn_lv0 vs
theorem gn_lv0_mem (ad : Nat → Nat) : ∀ (as : List Value) (b i : Nat) (v : Value), (gn_lv0 as)[i]? = some (some v) → (b + i, gn_tr ad v) ∈ lv_args b (as.map (gn_tr ad))
  | [], b, i, v, h => by simp [gn_lv0] at h
  | a :: as, b, i, v, h => by
    unfold gn_lv0 at h
    rw [List.map_cons, lv_args, gn_tr_cat]
    by_cases hc : a.category = 2
    · rw [if_pos hc] at h ⊢
      match i, h with
      | 0, h => cases h; exact List.mem_cons_self
      | 1, h => cases h
      | i + 2, h =>
        have := gn_lv0_mem ad as (b + 2) i v h
        rw [show b + (i + 2) = b + 2 + i by omega]
        exact List.mem_cons_of_mem _ this
    · rw [if_neg hc] at h ⊢
      match i, h with
      | 0, h => cases h; exact List.mem_cons_self
      | i + 1, h =>
        have := gn_lv0_mem ad as (b + 1) i v h
        rw [show b + (i + 1) = b + 1 + i by omega]
        exact List.mem_cons_of_mem _ this
theorem gn_lv0_len (ad : Nat → Nat) : ∀ (as : List Value), (lg_sl (as.map (gn_tr ad))).length = (gn_lv0 as).length
  | [] => rfl
  | a :: as => by
    have ih := gn_lv0_len ad as
    unfold gn_lv0
    rw [List.map_cons, show lg_sl (gn_tr ad a :: as.map (gn_tr ad)) = (if (gn_tr ad a).category = 2 then [Slot.val (gn_tr ad a), .second] else [.val (gn_tr ad a)]) ++ lg_sl (as.map (gn_tr ad)) from rfl, gn_tr_cat, List.length_append, ih]
    by_cases hc : a.category = 2
    · rw [if_pos hc, if_pos hc]; simp; omega
    · rw [if_neg hc, if_neg hc]; simp; omega
/-- the judgement from a method's entry is its contract -/
theorem gn_met {y : MethodName} {own : String} {cc : ByteArray} {maxL F Lc : Nat} {ret : Option FieldType} {as : List Value} {lv : List (Option Value)} {σ : gn_M} {ρ : Option Value} {σf : gn_M} (hy : plainName y.cls = true) (ho : y.cls = own) (hl : gn_lv0 as ++ List.replicate (maxL - (gn_lv0 as).length) none = lv) (hn : (gn_lv0 as).length ≤ maxL)
    (k : gn_Go own cc maxL F Lc ret none 0 lv [] σ ρ σf) : gn_Cl y cc maxL ret F Lc as σ ρ σf := by
  subst ho
  refine ⟨k.1, fun l D cy ad => ?_⟩
  refine Met.ofW (cc := cc) (maxL := maxL) (ret := ret) hy rfl ?_
  intro p e s m args below meth c s₁ B hml hv
  obtain ⟨rfl, hV, hP⟩ := hv
  have hts := atoms_spec (ws := Cond.code y cc maxL ret :: gn_T) B.pre
  have hown : s.vm.findClass y.cls = some m.cls := findClass_of_methodNamed B.named
  have hlocks := B.notSynchronized
  have hent := lv_entry (as.map (gn_tr ad)) (n := maxL) (by rw [gn_lv0_len]; exact hn)
  rw [lg_entry_eq]
  generalize (lg_sl (as.map (gn_tr ad)) ++ List.replicate (maxL - (lg_sl (as.map (gn_tr ad))).length) Slot.unset).toArray = ls at hent ⊢
  refine k.2 p l e _ s m _ below meth c 0 0 _ D cy ad s.heap [] ls ⟨B.exec, B.bytes, hml, hown, fun w hw => hts w (List.mem_cons_of_mem _ hw), Nat.le_refl _, Nat.le_refl _, Nat.le_refl _, Nat.le_refl _⟩ hV hP va_S.rf ⟨hent.1, hent.2.1, fun i v hi => ?_⟩ ?_
  · have h0 : (gn_lv0 as)[i]? = some (some v) := by
      rw [← hl] at hi
      by_cases hlt : i < (gn_lv0 as).length
      · rwa [List.getElem?_append_left hlt] at hi
      · rw [List.getElem?_append_right (by omega)] at hi
        have := List.eq_of_mem_replicate (List.mem_of_getElem? hi)
        cases this
    have h1 := gn_lv0_mem ad as 0 i v h0
    rw [Nat.zero_add] at h1
    exact hent.2.2 _ h1
  · intro pc' H' locs' ls' hret hP' hS'
    have hfit := k.1
    have hr := B.returns
    cases ρ with
    | none =>
      cases ret with
      | none => exact W.vret B.exec B.bytes hr (fun t ht hW => ⟨rfl, by rw [ht]; exact hP', hS'.F ht⟩) hS'.2.2 hret
      | some ty => cases ty <;> exact hfit.elim
    | some v =>
      cases v with
      | int v =>
        cases ret with
        | none => exact hfit.elim
        | some ty => exact W.zret B.exec B.bytes hr (by cases ty <;> exact hfit) (fun t ht hW => ⟨rfl, by rw [ht]; exact hP', hS'.F ht⟩) hS'.2.2 hret
      | long v =>
        cases ret with
        | none => exact hfit.elim
        | some ty =>
          cases ty with
          | long => exact W.lret B.exec B.bytes hr (fun t ht hW => ⟨rfl, by rw [ht]; exact hP', hS'.F ht⟩) hS'.2.2 hret
          | _ => exact hfit.elim
      | _ => exact hret.elim
end
section
/-! ROWS OF THE JUDGEMENT: one an instruction -/
section GNR
variable {own : String} {cc : ByteArray} {nL F Lc : Nat} {rt : Option FieldType} {xo : Option (Nat × (Nat → Int32))} {pc : Nat} {lv lv' : List (Option Value)} {st rest : List Value} {σ : gn_M} {ρ : Option Value} {σf : gn_M}
/-- an instruction that moves values alone -/
theorem gn_st {pc2 : Nat} {st2 : List Value} (hstep : ∀ (p : Program) (l : Launch) (e : Env) (R : Room) (s : State) (m : MethodId) (args : Array Value) (below : List Frame) (meth : Method) (c : Code) (cells slots : Nat) (Q : State → Prop) (ad : Nat → Nat) (H : Heap) (locs : List Loc) (ls : Array Slot), p.tables.exec = Jvm.exec → c.code = cc → s.vm.findClass own = some m.cls → (∀ w ∈ gn_T, w.before args s = true) → gn_L ls nL ad lv → W p l e R s m args below meth c H locs cells slots Q (F0 m pc2 ls (st2.map (gn_tr ad))) → W p l e R s m args below meth c H locs cells slots Q (F0 m pc ls (st.map (gn_tr ad))))
    (k : gn_Go own cc nL F Lc rt xo pc2 lv st2 σ ρ σf) : gn_Go own cc nL F Lc rt xo pc lv st σ ρ σf := by
  refine ⟨k.1, ?_⟩
  intro p l e R s m args below meth c cells slots Q D cy ad H locs ls hF hV hP hS hL hret
  exact hstep p l e R s m args below meth c cells slots Q ad H locs ls hF.1 hF.2.1 hF.2.2.2.1 hF.2.2.2.2.1 hL (k.2 p l e R s m args below meth c cells slots Q D cy ad H locs ls hF hV hP hS hL hret)
theorem gr_iconst {n : Int} {v : Int32} (d : decode cc pc = .ok (.iconst n, 1)) (hv : Int32.ofInt n = v) (k : gn_Go own cc nL F Lc rt xo (pc + 1) lv (.int v :: rest) σ ρ σf) : gn_Go own cc nL F Lc rt xo pc lv rest σ ρ σf := gn_st (fun _ _ _ _ _ _ _ _ _ _ _ _ _ _ _ _ _ hx hb _ _ _ k => lv_iconst hx hb d hv k) k
theorem gr_bipush {n : Int} {v : Int32} (d : decode cc pc = .ok (.bipush n, 2)) (hv : (Int8.ofInt n).toInt32 = v) (k : gn_Go own cc nL F Lc rt xo (pc + 2) lv (.int v :: rest) σ ρ σf) : gn_Go own cc nL F Lc rt xo pc lv rest σ ρ σf := gn_st (fun _ _ _ _ _ _ _ _ _ _ _ _ _ _ _ _ _ hx hb _ _ _ k => lv_bipush hx hb d hv k) k
theorem gr_sipush {n : Int} {v : Int32} (d : decode cc pc = .ok (.sipush n, 3)) (hv : (Int16.ofInt n).toInt32 = v) (k : gn_Go own cc nL F Lc rt xo (pc + 3) lv (.int v :: rest) σ ρ σf) : gn_Go own cc nL F Lc rt xo pc lv rest σ ρ σf := gn_st (fun _ _ _ _ _ _ _ _ _ _ _ _ _ _ _ _ _ hx hb _ _ _ k => lv_sipush hx hb d hv k) k
theorem gr_lconst {n : Fin 2} {v : Int64} (d : decode cc pc = .ok (.lconst n, 1)) (hv : Int64.ofNat (n : Nat) = v) (k : gn_Go own cc nL F Lc rt xo (pc + 1) lv (.long v :: rest) σ ρ σf) : gn_Go own cc nL F Lc rt xo pc lv rest σ ρ σf := gn_st (fun _ _ _ _ _ _ _ _ _ _ _ _ _ _ _ _ _ hx hb _ _ _ k => lv_lconst hx hb d hv k) k
theorem gr_ldc {index : Nat} {v : Int32} (hw : Cond.constant own index v ∈ gn_T) (d : decode cc pc = .ok (.ldc index, 2)) (k : gn_Go own cc nL F Lc rt xo (pc + 2) lv (.int v :: rest) σ ρ σf) : gn_Go own cc nL F Lc rt xo pc lv rest σ ρ σf := gn_st (fun _ _ _ _ _ _ _ _ _ _ _ _ _ _ _ _ _ hx hb ho ht _ k => lv_ldc hx hb ho (ht _ hw) d k) k
theorem gr_ldcw {index : Nat} {v : Int32} (hw : Cond.constant own index v ∈ gn_T) (d : decode cc pc = .ok (.ldc_w index, 3)) (k : gn_Go own cc nL F Lc rt xo (pc + 3) lv (.int v :: rest) σ ρ σf) : gn_Go own cc nL F Lc rt xo pc lv rest σ ρ σf := gn_st (fun _ _ _ _ _ _ _ _ _ _ _ _ _ _ _ _ _ hx hb ho ht _ k => lv_ldcw hx hb ho (ht _ hw) d k) k
theorem gr_ldc2 {index : Nat} {v : Int64} (hw : Cond.constantLong own index v ∈ gn_T) (d : decode cc pc = .ok (.ldc2_w index, 3)) (k : gn_Go own cc nL F Lc rt xo (pc + 3) lv (.long v :: rest) σ ρ σf) : gn_Go own cc nL F Lc rt xo pc lv rest σ ρ σf := gn_st (fun _ _ _ _ _ _ _ _ _ _ _ _ _ _ _ _ _ hx hb ho ht _ k => lv_ldc2 hx hb ho (ht _ hw) d k) k
theorem gr_iload_n {i : Fin 4} {j : Nat} {x : Int32} (d : decode cc pc = .ok (.iload_n i, 1)) (hi : (i : Nat) = j) (hl : lv[j]? = some (some (.int x))) (k : gn_Go own cc nL F Lc rt xo (pc + 1) lv (.int x :: rest) σ ρ σf) : gn_Go own cc nL F Lc rt xo pc lv rest σ ρ σf := gn_st (fun _ _ _ _ _ _ _ _ _ _ _ _ _ _ _ _ _ hx hb _ _ hL k => lv_iload_n hx hb d hi (hL.2.2 j _ hl) k) k
theorem gr_iload {i : Nat} {x : Int32} (d : decode cc pc = .ok (.iload i, 2)) (hl : lv[i]? = some (some (.int x))) (k : gn_Go own cc nL F Lc rt xo (pc + 2) lv (.int x :: rest) σ ρ σf) : gn_Go own cc nL F Lc rt xo pc lv rest σ ρ σf := gn_st (fun _ _ _ _ _ _ _ _ _ _ _ _ _ _ _ _ _ hx hb _ _ hL k => lv_iload hx hb d (hL.2.2 i _ hl) k) k
theorem gr_aload_n {i : Fin 4} {j : Nat} {x : Nat} (d : decode cc pc = .ok (.aload_n i, 1)) (hi : (i : Nat) = j) (hl : lv[j]? = some (some (.ref x))) (k : gn_Go own cc nL F Lc rt xo (pc + 1) lv (.ref x :: rest) σ ρ σf) : gn_Go own cc nL F Lc rt xo pc lv rest σ ρ σf := gn_st (fun _ _ _ _ _ _ _ _ _ _ _ _ _ _ _ _ _ hx hb _ _ hL k => lv_aload_n hx hb d hi (hL.2.2 j _ hl) k) k
theorem gr_aload {i : Nat} {x : Nat} (d : decode cc pc = .ok (.aload i, 2)) (hl : lv[i]? = some (some (.ref x))) (k : gn_Go own cc nL F Lc rt xo (pc + 2) lv (.ref x :: rest) σ ρ σf) : gn_Go own cc nL F Lc rt xo pc lv rest σ ρ σf := gn_st (fun _ _ _ _ _ _ _ _ _ _ _ _ _ _ _ _ _ hx hb _ _ hL k => lv_aload hx hb d (hL.2.2 i _ hl) k) k
theorem gr_lload_n {i : Fin 4} {j : Nat} {x : Int64} (d : decode cc pc = .ok (.lload_n i, 1)) (hi : (i : Nat) = j) (hl : lv[j]? = some (some (.long x))) (k : gn_Go own cc nL F Lc rt xo (pc + 1) lv (.long x :: rest) σ ρ σf) : gn_Go own cc nL F Lc rt xo pc lv rest σ ρ σf := gn_st (fun _ _ _ _ _ _ _ _ _ _ _ _ _ _ _ _ _ hx hb _ _ hL k => lv_lload_n hx hb d hi (hL.2.2 j _ hl) k) k
theorem gr_lload {i : Nat} {x : Int64} (d : decode cc pc = .ok (.lload i, 2)) (hl : lv[i]? = some (some (.long x))) (k : gn_Go own cc nL F Lc rt xo (pc + 2) lv (.long x :: rest) σ ρ σf) : gn_Go own cc nL F Lc rt xo pc lv rest σ ρ σf := gn_st (fun _ _ _ _ _ _ _ _ _ _ _ _ _ _ _ _ _ hx hb _ _ hL k => lv_lload hx hb d (hL.2.2 i _ hl) k) k
/-- an instruction that changes the locals -/
theorem gn_sl {pc2 : Nat} {st2 : List Value} (hstep : ∀ (p : Program) (l : Launch) (e : Env) (R : Room) (s : State) (m : MethodId) (args : Array Value) (below : List Frame) (meth : Method) (c : Code) (cells slots : Nat) (Q : State → Prop) (ad : Nat → Nat) (H : Heap) (locs : List Loc) (ls : Array Slot), p.tables.exec = Jvm.exec → c.code = cc → gn_L ls nL ad lv → (∀ ls' : Array Slot, gn_L ls' nL ad lv' → W p l e R s m args below meth c H locs cells slots Q (F0 m pc2 ls' (st2.map (gn_tr ad)))) → W p l e R s m args below meth c H locs cells slots Q (F0 m pc ls (st.map (gn_tr ad))))
    (k : gn_Go own cc nL F Lc rt xo pc2 lv' st2 σ ρ σf) : gn_Go own cc nL F Lc rt xo pc lv st σ ρ σf := by
  refine ⟨k.1, ?_⟩
  intro p l e R s m args below meth c cells slots Q D cy ad H locs ls hF hV hP hS hL hret
  exact hstep p l e R s m args below meth c cells slots Q ad H locs ls hF.1 hF.2.1 hL (fun ls' hL' => k.2 p l e R s m args below meth c cells slots Q D cy ad H locs ls' hF hV hP hS hL' hret)
theorem gr_istore_n {i : Fin 4} {j : Nat} {x : Int32} (d : decode cc pc = .ok (.istore_n i, 1)) (hi : (i : Nat) = j) (hn : j < nL) (hl : gn_put1 j (.int x) lv = lv') (k : gn_Go own cc nL F Lc rt xo (pc + 1) lv' rest σ ρ σf) : gn_Go own cc nL F Lc rt xo pc lv (.int x :: rest) σ ρ σf := gn_sl (fun _ _ _ _ _ _ _ _ _ _ _ _ _ _ _ _ _ hx hb hL k => lv_istore_n hx hb d hi hL.has hn rfl (fun ls' h' => k ls' (by rw [← hl]; exact gn_L.put1 h'))) k
theorem gr_istore {j : Nat} {x : Int32} (d : decode cc pc = .ok (.istore j, 2)) (hn : j < nL) (hl : gn_put1 j (.int x) lv = lv') (k : gn_Go own cc nL F Lc rt xo (pc + 2) lv' rest σ ρ σf) : gn_Go own cc nL F Lc rt xo pc lv (.int x :: rest) σ ρ σf := gn_sl (fun _ _ _ _ _ _ _ _ _ _ _ _ _ _ _ _ _ hx hb hL k => lv_istore hx hb d hL.has hn rfl (fun ls' h' => k ls' (by rw [← hl]; exact gn_L.put1 h'))) k
theorem gr_astore_n {i : Fin 4} {j : Nat} {x : Nat} (d : decode cc pc = .ok (.astore_n i, 1)) (hi : (i : Nat) = j) (hn : j < nL) (hl : gn_put1 j (.ref x) lv = lv') (k : gn_Go own cc nL F Lc rt xo (pc + 1) lv' rest σ ρ σf) : gn_Go own cc nL F Lc rt xo pc lv (.ref x :: rest) σ ρ σf := gn_sl (fun _ _ _ _ _ _ _ _ _ _ _ _ _ _ _ _ _ hx hb hL k => lv_astore_n hx hb d hi hL.has hn rfl (fun ls' h' => k ls' (by rw [← hl]; exact gn_L.put1 h'))) k
theorem gr_astore {j : Nat} {x : Nat} (d : decode cc pc = .ok (.astore j, 2)) (hn : j < nL) (hl : gn_put1 j (.ref x) lv = lv') (k : gn_Go own cc nL F Lc rt xo (pc + 2) lv' rest σ ρ σf) : gn_Go own cc nL F Lc rt xo pc lv (.ref x :: rest) σ ρ σf := gn_sl (fun _ _ _ _ _ _ _ _ _ _ _ _ _ _ _ _ _ hx hb hL k => lv_astore hx hb d hL.has hn rfl (fun ls' h' => k ls' (by rw [← hl]; exact gn_L.put1 h'))) k
theorem gr_lstore_n {i : Fin 4} {j : Nat} {x : Int64} (d : decode cc pc = .ok (.lstore_n i, 1)) (hi : (i : Nat) = j) (hn : j + 1 < nL) (hl : gn_put2 j (.long x) lv = lv') (k : gn_Go own cc nL F Lc rt xo (pc + 1) lv' rest σ ρ σf) : gn_Go own cc nL F Lc rt xo pc lv (.long x :: rest) σ ρ σf := gn_sl (fun _ _ _ _ _ _ _ _ _ _ _ _ _ _ _ _ _ hx hb hL k => lv_lstore_n hx hb d hi hL.has hn rfl (fun ls' h' => k ls' (by rw [← hl]; exact gn_L.put2 h'))) k
theorem gr_lstore {j : Nat} {x : Int64} (d : decode cc pc = .ok (.lstore j, 2)) (hn : j + 1 < nL) (hl : gn_put2 j (.long x) lv = lv') (k : gn_Go own cc nL F Lc rt xo (pc + 2) lv' rest σ ρ σf) : gn_Go own cc nL F Lc rt xo pc lv (.long x :: rest) σ ρ σf := gn_sl (fun _ _ _ _ _ _ _ _ _ _ _ _ _ _ _ _ _ hx hb hL k => lv_lstore hx hb d hL.has hn rfl (fun ls' h' => k ls' (by rw [← hl]; exact gn_L.put2 h'))) k
theorem gr_iinc {j : Nat} {n : Int} {x v : Int32} (d : decode cc pc = .ok (.iinc j n, 3)) (hj : lv[j]? = some (some (.int x))) (hv : Int32.ofInt n = v) (hn : j < nL) (hl : gn_put1 j (.int (x + v)) lv = lv') (k : gn_Go own cc nL F Lc rt xo (pc + 3) lv' rest σ ρ σf) : gn_Go own cc nL F Lc rt xo pc lv rest σ ρ σf := gn_sl (fun _ _ _ _ _ _ _ _ _ _ _ _ _ ad _ _ _ hx hb hL k => by
  obtain ⟨k1, hk1⟩ := List.getElem?_of_mem (gn_ll_mem.mpr ⟨_, hj, rfl⟩ : (j, gn_tr ad (.int x)) ∈ gn_ll ad lv)
  exact lv_iinc hx hb d hL.has hk1 (by rw [hv]) hn rfl (fun ls' h' => k ls' (by rw [← hl]; exact gn_L.put1 h'))) k
theorem gr_iadd {x y : Int32} (d : decode cc pc = .ok (.iadd, 1)) (k : gn_Go own cc nL F Lc rt xo (pc + 1) lv (.int (x + y) :: rest) σ ρ σf) : gn_Go own cc nL F Lc rt xo pc lv (.int y :: .int x :: rest) σ ρ σf := gn_st (fun _ _ _ _ _ _ _ _ _ _ _ _ _ _ _ _ _ hx hb _ _ _ k => lv_iadd hx hb d k) k
theorem gr_isub {x y : Int32} (d : decode cc pc = .ok (.isub, 1)) (k : gn_Go own cc nL F Lc rt xo (pc + 1) lv (.int (x - y) :: rest) σ ρ σf) : gn_Go own cc nL F Lc rt xo pc lv (.int y :: .int x :: rest) σ ρ σf := gn_st (fun _ _ _ _ _ _ _ _ _ _ _ _ _ _ _ _ _ hx hb _ _ _ k => lv_isub hx hb d k) k
theorem gr_imul {x y : Int32} (d : decode cc pc = .ok (.imul, 1)) (k : gn_Go own cc nL F Lc rt xo (pc + 1) lv (.int (x * y) :: rest) σ ρ σf) : gn_Go own cc nL F Lc rt xo pc lv (.int y :: .int x :: rest) σ ρ σf := gn_st (fun _ _ _ _ _ _ _ _ _ _ _ _ _ _ _ _ _ hx hb _ _ _ k => lv_imul hx hb d k) k
theorem gr_iand {x y : Int32} (d : decode cc pc = .ok (.iand, 1)) (k : gn_Go own cc nL F Lc rt xo (pc + 1) lv (.int (x &&& y) :: rest) σ ρ σf) : gn_Go own cc nL F Lc rt xo pc lv (.int y :: .int x :: rest) σ ρ σf := gn_st (fun _ _ _ _ _ _ _ _ _ _ _ _ _ _ _ _ _ hx hb _ _ _ k => lv_iand hx hb d k) k
theorem gr_ior {x y : Int32} (d : decode cc pc = .ok (.ior, 1)) (k : gn_Go own cc nL F Lc rt xo (pc + 1) lv (.int (x ||| y) :: rest) σ ρ σf) : gn_Go own cc nL F Lc rt xo pc lv (.int y :: .int x :: rest) σ ρ σf := gn_st (fun _ _ _ _ _ _ _ _ _ _ _ _ _ _ _ _ _ hx hb _ _ _ k => lv_ior hx hb d k) k
theorem gr_ixor {x y : Int32} (d : decode cc pc = .ok (.ixor, 1)) (k : gn_Go own cc nL F Lc rt xo (pc + 1) lv (.int (x ^^^ y) :: rest) σ ρ σf) : gn_Go own cc nL F Lc rt xo pc lv (.int y :: .int x :: rest) σ ρ σf := gn_st (fun _ _ _ _ _ _ _ _ _ _ _ _ _ _ _ _ _ hx hb _ _ _ k => lv_ixor hx hb d k) k
theorem gr_ishl {x y : Int32} (d : decode cc pc = .ok (.ishl, 1)) (k : gn_Go own cc nL F Lc rt xo (pc + 1) lv (.int (x <<< (y &&& 31)) :: rest) σ ρ σf) : gn_Go own cc nL F Lc rt xo pc lv (.int y :: .int x :: rest) σ ρ σf := gn_st (fun _ _ _ _ _ _ _ _ _ _ _ _ _ _ _ _ _ hx hb _ _ _ k => lv_ishl hx hb d k) k
theorem gr_ishr {x y : Int32} (d : decode cc pc = .ok (.ishr, 1)) (k : gn_Go own cc nL F Lc rt xo (pc + 1) lv (.int (x >>> (y &&& 31)) :: rest) σ ρ σf) : gn_Go own cc nL F Lc rt xo pc lv (.int y :: .int x :: rest) σ ρ σf := gn_st (fun _ _ _ _ _ _ _ _ _ _ _ _ _ _ _ _ _ hx hb _ _ _ k => lv_ishr hx hb d k) k
theorem gr_iushr {x y : Int32} (d : decode cc pc = .ok (.iushr, 1)) (k : gn_Go own cc nL F Lc rt xo (pc + 1) lv (.int ((x.toUInt32 >>> (y.toUInt32 &&& Int32.toUInt32 31)).toInt32) :: rest) σ ρ σf) : gn_Go own cc nL F Lc rt xo pc lv (.int y :: .int x :: rest) σ ρ σf := gn_st (fun _ _ _ _ _ _ _ _ _ _ _ _ _ _ _ _ _ hx hb _ _ _ k => lv_iushr hx hb d rfl k) k
theorem gr_idiv {x y : Int32} (d : decode cc pc = .ok (.idiv, 1)) (hy : ¬ y = 0) (k : gn_Go own cc nL F Lc rt xo (pc + 1) lv (.int (x / y) :: rest) σ ρ σf) : gn_Go own cc nL F Lc rt xo pc lv (.int y :: .int x :: rest) σ ρ σf := gn_st (fun _ _ _ _ _ _ _ _ _ _ _ _ _ _ _ _ _ hx hb _ _ _ k => lv_idiv hx hb d hy k) k
theorem gr_irem {x y : Int32} (d : decode cc pc = .ok (.irem, 1)) (hy : ¬ y = 0) (k : gn_Go own cc nL F Lc rt xo (pc + 1) lv (.int (x - x / y * y) :: rest) σ ρ σf) : gn_Go own cc nL F Lc rt xo pc lv (.int y :: .int x :: rest) σ ρ σf := gn_st (fun _ _ _ _ _ _ _ _ _ _ _ _ _ _ _ _ _ hx hb _ _ _ k => lv_irem hx hb d hy k) k
theorem gr_ladd {x y : Int64} (d : decode cc pc = .ok (.ladd, 1)) (k : gn_Go own cc nL F Lc rt xo (pc + 1) lv (.long (x + y) :: rest) σ ρ σf) : gn_Go own cc nL F Lc rt xo pc lv (.long y :: .long x :: rest) σ ρ σf := gn_st (fun _ _ _ _ _ _ _ _ _ _ _ _ _ _ _ _ _ hx hb _ _ _ k => lv_ladd hx hb d k) k
theorem gr_lsub {x y : Int64} (d : decode cc pc = .ok (.lsub, 1)) (k : gn_Go own cc nL F Lc rt xo (pc + 1) lv (.long (x - y) :: rest) σ ρ σf) : gn_Go own cc nL F Lc rt xo pc lv (.long y :: .long x :: rest) σ ρ σf := gn_st (fun _ _ _ _ _ _ _ _ _ _ _ _ _ _ _ _ _ hx hb _ _ _ k => lv_lsub hx hb d k) k
theorem gr_lmul {x y : Int64} (d : decode cc pc = .ok (.lmul, 1)) (k : gn_Go own cc nL F Lc rt xo (pc + 1) lv (.long (x * y) :: rest) σ ρ σf) : gn_Go own cc nL F Lc rt xo pc lv (.long y :: .long x :: rest) σ ρ σf := gn_st (fun _ _ _ _ _ _ _ _ _ _ _ _ _ _ _ _ _ hx hb _ _ _ k => lv_lmul hx hb d k) k
theorem gr_ldiv {x y : Int64} (d : decode cc pc = .ok (.ldiv, 1)) (hy : ¬ y = 0) (k : gn_Go own cc nL F Lc rt xo (pc + 1) lv (.long (x / y) :: rest) σ ρ σf) : gn_Go own cc nL F Lc rt xo pc lv (.long y :: .long x :: rest) σ ρ σf := gn_st (fun _ _ _ _ _ _ _ _ _ _ _ _ _ _ _ _ _ hx hb _ _ _ k => lv_ldiv hx hb d hy k) k
theorem gr_lrem {x y : Int64} (d : decode cc pc = .ok (.lrem, 1)) (hy : ¬ y = 0) (k : gn_Go own cc nL F Lc rt xo (pc + 1) lv (.long (x - x / y * y) :: rest) σ ρ σf) : gn_Go own cc nL F Lc rt xo pc lv (.long y :: .long x :: rest) σ ρ σf := gn_st (fun _ _ _ _ _ _ _ _ _ _ _ _ _ _ _ _ _ hx hb _ _ _ k => lv_lrem hx hb d hy k) k
theorem gr_lcmp {x y : Int64} (d : decode cc pc = .ok (.lcmp, 1)) (k : gn_Go own cc nL F Lc rt xo (pc + 1) lv (.int (lg_cmp x y) :: rest) σ ρ σf) : gn_Go own cc nL F Lc rt xo pc lv (.long y :: .long x :: rest) σ ρ σf := gn_st (fun _ _ _ _ _ _ _ _ _ _ _ _ _ _ _ _ _ hx hb _ _ _ k => W.lcmp hx hb d k) k
theorem gr_i2l {x : Int32} (d : decode cc pc = .ok (.i2l, 1)) (k : gn_Go own cc nL F Lc rt xo (pc + 1) lv (.long x.toInt64 :: rest) σ ρ σf) : gn_Go own cc nL F Lc rt xo pc lv (.int x :: rest) σ ρ σf := gn_st (fun _ _ _ _ _ _ _ _ _ _ _ _ _ _ _ _ _ hx hb _ _ _ k => lv_i2l hx hb d rfl k) k
theorem gr_l2i {x : Int64} (d : decode cc pc = .ok (.l2i, 1)) (k : gn_Go own cc nL F Lc rt xo (pc + 1) lv (.int x.toInt32 :: rest) σ ρ σf) : gn_Go own cc nL F Lc rt xo pc lv (.long x :: rest) σ ρ σf := gn_st (fun _ _ _ _ _ _ _ _ _ _ _ _ _ _ _ _ _ hx hb _ _ _ k => lv_l2i hx hb d rfl k) k
theorem gr_i2b {x : Int32} (d : decode cc pc = .ok (.i2b, 1)) (k : gn_Go own cc nL F Lc rt xo (pc + 1) lv (.int x.toInt8.toInt32 :: rest) σ ρ σf) : gn_Go own cc nL F Lc rt xo pc lv (.int x :: rest) σ ρ σf := gn_st (fun _ _ _ _ _ _ _ _ _ _ _ _ _ _ _ _ _ hx hb _ _ _ k => lv_i2b hx hb d rfl k) k
theorem gr_dup {v : Value} (d : decode cc pc = .ok (.dup, 1)) (hv : v.category = 1) (k : gn_Go own cc nL F Lc rt xo (pc + 1) lv (v :: v :: rest) σ ρ σf) : gn_Go own cc nL F Lc rt xo pc lv (v :: rest) σ ρ σf := gn_st (fun _ _ _ _ _ _ _ _ _ _ _ _ _ _ _ _ _ hx hb _ _ _ k => lv_dup hx hb d (by rw [gn_tr_cat]; exact hv) k) k
theorem gr_pop {v : Value} (d : decode cc pc = .ok (.pop, 1)) (hv : v.category = 1) (k : gn_Go own cc nL F Lc rt xo (pc + 1) lv (rest) σ ρ σf) : gn_Go own cc nL F Lc rt xo pc lv (v :: rest) σ ρ σf := gn_st (fun _ _ _ _ _ _ _ _ _ _ _ _ _ _ _ _ _ hx hb _ _ _ k => lv_pop hx hb d (by rw [gn_tr_cat]; exact hv) k) k
theorem gr_dup2 {v w : Value} (d : decode cc pc = .ok (.dup2, 1)) (hv : v.category = 1) (hw : w.category = 1) (k : gn_Go own cc nL F Lc rt xo (pc + 1) lv (v :: w :: v :: w :: rest) σ ρ σf) : gn_Go own cc nL F Lc rt xo pc lv (v :: w :: rest) σ ρ σf := gn_st (fun _ _ _ _ _ _ _ _ _ _ _ _ _ _ _ _ _ hx hb _ _ _ k => lv_dup2_11 hx hb d (by rw [gn_tr_cat]; exact hv) (by rw [gn_tr_cat]; exact hw) k) k
theorem gr_goto {off : Int} {tgt : Nat} (d : decode cc pc = .ok (.goto off, 3)) (ht : (pc : Int) + off = (tgt : Int)) (k : gn_Go own cc nL F Lc rt xo tgt lv st σ ρ σf) : gn_Go own cc nL F Lc rt xo pc lv st σ ρ σf := gn_st (fun _ _ _ _ _ _ _ _ _ _ _ _ _ _ _ _ _ hx hb _ _ _ k => lv_goto hx hb d ht k) k
theorem gr_icmp_eq {α : Type} {A B : Option α} {v : α} {x y : Int32} {off : Int} {tgt : Nat} (d : decode cc pc = .ok (.if_icmp .eq off, 3)) (ht : (pc : Int) + off = (tgt : Int)) (h : (if x = y then A else B) = some v) (kt : x = y → A = some v → gn_Go own cc nL F Lc rt xo tgt lv rest σ ρ σf) (kf : ¬ (x = y) → B = some v → gn_Go own cc nL F Lc rt xo (pc + 3) lv rest σ ρ σf) : gn_Go own cc nL F Lc rt xo pc lv (.int y :: .int x :: rest) σ ρ σf := by
  by_cases hc : x = y
  · rw [if_pos hc] at h
    have k := kt hc h
    refine ⟨k.1, ?_⟩
    intro p l e R s m args below meth c cells slots Q D cy ad H locs ls hF hV hP hS hL hret
    exact lv_icmp_eq hF.1 hF.2.1 d ht (fun _ => k.2 p l e R s m args below meth c cells slots Q D cy ad H locs ls hF hV hP hS hL hret) (fun hn => absurd hc hn)
  · rw [if_neg hc] at h
    have k := kf hc h
    refine ⟨k.1, ?_⟩
    intro p l e R s m args below meth c cells slots Q D cy ad H locs ls hF hV hP hS hL hret
    exact lv_icmp_eq hF.1 hF.2.1 d ht (fun hn => absurd hn hc) (fun _ => k.2 p l e R s m args below meth c cells slots Q D cy ad H locs ls hF hV hP hS hL hret)
theorem gr_icmpT_eq {x y : Int32} {off : Int} {tgt : Nat} (d : decode cc pc = .ok (.if_icmp .eq off, 3)) (ht : (pc : Int) + off = (tgt : Int)) (hc : x = y) (k : gn_Go own cc nL F Lc rt xo tgt lv rest σ ρ σf) : gn_Go own cc nL F Lc rt xo pc lv (.int y :: .int x :: rest) σ ρ σf := gr_icmp_eq (A := some ()) (B := none) (v := ()) d ht (if_pos hc) (fun _ _ => k) (fun hn _ => absurd hc hn)
theorem gr_icmpF_eq {x y : Int32} {off : Int} {tgt : Nat} (d : decode cc pc = .ok (.if_icmp .eq off, 3)) (ht : (pc : Int) + off = (tgt : Int)) (hc : ¬ (x = y)) (k : gn_Go own cc nL F Lc rt xo (pc + 3) lv rest σ ρ σf) : gn_Go own cc nL F Lc rt xo pc lv (.int y :: .int x :: rest) σ ρ σf := gr_icmp_eq (A := none) (B := some ()) (v := ()) d ht (if_neg hc) (fun hn _ => absurd hn hc) (fun _ _ => k)
theorem gr_if_eq {α : Type} {A B : Option α} {v : α} {x : Int32} {off : Int} {tgt : Nat} (d : decode cc pc = .ok (.ifCond .eq off, 3)) (ht : (pc : Int) + off = (tgt : Int)) (h : (if x = 0 then A else B) = some v) (kt : x = 0 → A = some v → gn_Go own cc nL F Lc rt xo tgt lv rest σ ρ σf) (kf : ¬ (x = 0) → B = some v → gn_Go own cc nL F Lc rt xo (pc + 3) lv rest σ ρ σf) : gn_Go own cc nL F Lc rt xo pc lv (.int x :: rest) σ ρ σf := by
  by_cases hc : x = 0
  · rw [if_pos hc] at h
    have k := kt hc h
    refine ⟨k.1, ?_⟩
    intro p l e R s m args below meth c cells slots Q D cy ad H locs ls hF hV hP hS hL hret
    exact lv_if_eq hF.1 hF.2.1 d ht (fun _ => k.2 p l e R s m args below meth c cells slots Q D cy ad H locs ls hF hV hP hS hL hret) (fun hn => absurd hc hn)
  · rw [if_neg hc] at h
    have k := kf hc h
    refine ⟨k.1, ?_⟩
    intro p l e R s m args below meth c cells slots Q D cy ad H locs ls hF hV hP hS hL hret
    exact lv_if_eq hF.1 hF.2.1 d ht (fun hn => absurd hn hc) (fun _ => k.2 p l e R s m args below meth c cells slots Q D cy ad H locs ls hF hV hP hS hL hret)
theorem gr_ifT_eq {x : Int32} {off : Int} {tgt : Nat} (d : decode cc pc = .ok (.ifCond .eq off, 3)) (ht : (pc : Int) + off = (tgt : Int)) (hc : x = 0) (k : gn_Go own cc nL F Lc rt xo tgt lv rest σ ρ σf) : gn_Go own cc nL F Lc rt xo pc lv (.int x :: rest) σ ρ σf := gr_if_eq (A := some ()) (B := none) (v := ()) d ht (if_pos hc) (fun _ _ => k) (fun hn _ => absurd hc hn)
theorem gr_ifF_eq {x : Int32} {off : Int} {tgt : Nat} (d : decode cc pc = .ok (.ifCond .eq off, 3)) (ht : (pc : Int) + off = (tgt : Int)) (hc : ¬ (x = 0)) (k : gn_Go own cc nL F Lc rt xo (pc + 3) lv rest σ ρ σf) : gn_Go own cc nL F Lc rt xo pc lv (.int x :: rest) σ ρ σf := gr_if_eq (A := none) (B := some ()) (v := ()) d ht (if_neg hc) (fun hn _ => absurd hn hc) (fun _ _ => k)
theorem gr_icmp_ne {α : Type} {A B : Option α} {v : α} {x y : Int32} {off : Int} {tgt : Nat} (d : decode cc pc = .ok (.if_icmp .ne off, 3)) (ht : (pc : Int) + off = (tgt : Int)) (h : (if x = y then A else B) = some v) (kt : x = y → A = some v → gn_Go own cc nL F Lc rt xo (pc + 3) lv rest σ ρ σf) (kf : ¬ (x = y) → B = some v → gn_Go own cc nL F Lc rt xo tgt lv rest σ ρ σf) : gn_Go own cc nL F Lc rt xo pc lv (.int y :: .int x :: rest) σ ρ σf := by
  by_cases hc : x = y
  · rw [if_pos hc] at h
    have k := kt hc h
    refine ⟨k.1, ?_⟩
    intro p l e R s m args below meth c cells slots Q D cy ad H locs ls hF hV hP hS hL hret
    exact lv_icmp_ne hF.1 hF.2.1 d ht (fun hn => absurd hc hn) (fun _ => k.2 p l e R s m args below meth c cells slots Q D cy ad H locs ls hF hV hP hS hL hret)
  · rw [if_neg hc] at h
    have k := kf hc h
    refine ⟨k.1, ?_⟩
    intro p l e R s m args below meth c cells slots Q D cy ad H locs ls hF hV hP hS hL hret
    exact lv_icmp_ne hF.1 hF.2.1 d ht (fun _ => k.2 p l e R s m args below meth c cells slots Q D cy ad H locs ls hF hV hP hS hL hret) (fun hn => absurd hn hc)
theorem gr_icmpT_ne {x y : Int32} {off : Int} {tgt : Nat} (d : decode cc pc = .ok (.if_icmp .ne off, 3)) (ht : (pc : Int) + off = (tgt : Int)) (hc : x = y) (k : gn_Go own cc nL F Lc rt xo (pc + 3) lv rest σ ρ σf) : gn_Go own cc nL F Lc rt xo pc lv (.int y :: .int x :: rest) σ ρ σf := gr_icmp_ne (A := some ()) (B := none) (v := ()) d ht (if_pos hc) (fun _ _ => k) (fun hn _ => absurd hc hn)
theorem gr_icmpF_ne {x y : Int32} {off : Int} {tgt : Nat} (d : decode cc pc = .ok (.if_icmp .ne off, 3)) (ht : (pc : Int) + off = (tgt : Int)) (hc : ¬ (x = y)) (k : gn_Go own cc nL F Lc rt xo tgt lv rest σ ρ σf) : gn_Go own cc nL F Lc rt xo pc lv (.int y :: .int x :: rest) σ ρ σf := gr_icmp_ne (A := none) (B := some ()) (v := ()) d ht (if_neg hc) (fun hn _ => absurd hn hc) (fun _ _ => k)
theorem gr_if_ne {α : Type} {A B : Option α} {v : α} {x : Int32} {off : Int} {tgt : Nat} (d : decode cc pc = .ok (.ifCond .ne off, 3)) (ht : (pc : Int) + off = (tgt : Int)) (h : (if x = 0 then A else B) = some v) (kt : x = 0 → A = some v → gn_Go own cc nL F Lc rt xo (pc + 3) lv rest σ ρ σf) (kf : ¬ (x = 0) → B = some v → gn_Go own cc nL F Lc rt xo tgt lv rest σ ρ σf) : gn_Go own cc nL F Lc rt xo pc lv (.int x :: rest) σ ρ σf := by
  by_cases hc : x = 0
  · rw [if_pos hc] at h
    have k := kt hc h
    refine ⟨k.1, ?_⟩
    intro p l e R s m args below meth c cells slots Q D cy ad H locs ls hF hV hP hS hL hret
    exact lv_if_ne hF.1 hF.2.1 d ht (fun hn => absurd hc hn) (fun _ => k.2 p l e R s m args below meth c cells slots Q D cy ad H locs ls hF hV hP hS hL hret)
  · rw [if_neg hc] at h
    have k := kf hc h
    refine ⟨k.1, ?_⟩
    intro p l e R s m args below meth c cells slots Q D cy ad H locs ls hF hV hP hS hL hret
    exact lv_if_ne hF.1 hF.2.1 d ht (fun _ => k.2 p l e R s m args below meth c cells slots Q D cy ad H locs ls hF hV hP hS hL hret) (fun hn => absurd hn hc)
theorem gr_ifT_ne {x : Int32} {off : Int} {tgt : Nat} (d : decode cc pc = .ok (.ifCond .ne off, 3)) (ht : (pc : Int) + off = (tgt : Int)) (hc : x = 0) (k : gn_Go own cc nL F Lc rt xo (pc + 3) lv rest σ ρ σf) : gn_Go own cc nL F Lc rt xo pc lv (.int x :: rest) σ ρ σf := gr_if_ne (A := some ()) (B := none) (v := ()) d ht (if_pos hc) (fun _ _ => k) (fun hn _ => absurd hc hn)
theorem gr_ifF_ne {x : Int32} {off : Int} {tgt : Nat} (d : decode cc pc = .ok (.ifCond .ne off, 3)) (ht : (pc : Int) + off = (tgt : Int)) (hc : ¬ (x = 0)) (k : gn_Go own cc nL F Lc rt xo tgt lv rest σ ρ σf) : gn_Go own cc nL F Lc rt xo pc lv (.int x :: rest) σ ρ σf := gr_if_ne (A := none) (B := some ()) (v := ()) d ht (if_neg hc) (fun hn _ => absurd hn hc) (fun _ _ => k)
theorem gr_icmp_lt {α : Type} {A B : Option α} {v : α} {x y : Int32} {off : Int} {tgt : Nat} (d : decode cc pc = .ok (.if_icmp .lt off, 3)) (ht : (pc : Int) + off = (tgt : Int)) (h : (if x < y then A else B) = some v) (kt : x < y → A = some v → gn_Go own cc nL F Lc rt xo tgt lv rest σ ρ σf) (kf : ¬ (x < y) → B = some v → gn_Go own cc nL F Lc rt xo (pc + 3) lv rest σ ρ σf) : gn_Go own cc nL F Lc rt xo pc lv (.int y :: .int x :: rest) σ ρ σf := by
  by_cases hc : x < y
  · rw [if_pos hc] at h
    have k := kt hc h
    refine ⟨k.1, ?_⟩
    intro p l e R s m args below meth c cells slots Q D cy ad H locs ls hF hV hP hS hL hret
    exact lv_icmp_lt hF.1 hF.2.1 d ht (fun _ => k.2 p l e R s m args below meth c cells slots Q D cy ad H locs ls hF hV hP hS hL hret) (fun hn => absurd hc hn)
  · rw [if_neg hc] at h
    have k := kf hc h
    refine ⟨k.1, ?_⟩
    intro p l e R s m args below meth c cells slots Q D cy ad H locs ls hF hV hP hS hL hret
    exact lv_icmp_lt hF.1 hF.2.1 d ht (fun hn => absurd hn hc) (fun _ => k.2 p l e R s m args below meth c cells slots Q D cy ad H locs ls hF hV hP hS hL hret)
theorem gr_icmpT_lt {x y : Int32} {off : Int} {tgt : Nat} (d : decode cc pc = .ok (.if_icmp .lt off, 3)) (ht : (pc : Int) + off = (tgt : Int)) (hc : x < y) (k : gn_Go own cc nL F Lc rt xo tgt lv rest σ ρ σf) : gn_Go own cc nL F Lc rt xo pc lv (.int y :: .int x :: rest) σ ρ σf := gr_icmp_lt (A := some ()) (B := none) (v := ()) d ht (if_pos hc) (fun _ _ => k) (fun hn _ => absurd hc hn)
theorem gr_icmpF_lt {x y : Int32} {off : Int} {tgt : Nat} (d : decode cc pc = .ok (.if_icmp .lt off, 3)) (ht : (pc : Int) + off = (tgt : Int)) (hc : ¬ (x < y)) (k : gn_Go own cc nL F Lc rt xo (pc + 3) lv rest σ ρ σf) : gn_Go own cc nL F Lc rt xo pc lv (.int y :: .int x :: rest) σ ρ σf := gr_icmp_lt (A := none) (B := some ()) (v := ()) d ht (if_neg hc) (fun hn _ => absurd hn hc) (fun _ _ => k)
theorem gr_if_lt {α : Type} {A B : Option α} {v : α} {x : Int32} {off : Int} {tgt : Nat} (d : decode cc pc = .ok (.ifCond .lt off, 3)) (ht : (pc : Int) + off = (tgt : Int)) (h : (if x < 0 then A else B) = some v) (kt : x < 0 → A = some v → gn_Go own cc nL F Lc rt xo tgt lv rest σ ρ σf) (kf : ¬ (x < 0) → B = some v → gn_Go own cc nL F Lc rt xo (pc + 3) lv rest σ ρ σf) : gn_Go own cc nL F Lc rt xo pc lv (.int x :: rest) σ ρ σf := by
  by_cases hc : x < 0
  · rw [if_pos hc] at h
    have k := kt hc h
    refine ⟨k.1, ?_⟩
    intro p l e R s m args below meth c cells slots Q D cy ad H locs ls hF hV hP hS hL hret
    exact lv_if_lt hF.1 hF.2.1 d ht (fun _ => k.2 p l e R s m args below meth c cells slots Q D cy ad H locs ls hF hV hP hS hL hret) (fun hn => absurd hc hn)
  · rw [if_neg hc] at h
    have k := kf hc h
    refine ⟨k.1, ?_⟩
    intro p l e R s m args below meth c cells slots Q D cy ad H locs ls hF hV hP hS hL hret
    exact lv_if_lt hF.1 hF.2.1 d ht (fun hn => absurd hn hc) (fun _ => k.2 p l e R s m args below meth c cells slots Q D cy ad H locs ls hF hV hP hS hL hret)
theorem gr_ifT_lt {x : Int32} {off : Int} {tgt : Nat} (d : decode cc pc = .ok (.ifCond .lt off, 3)) (ht : (pc : Int) + off = (tgt : Int)) (hc : x < 0) (k : gn_Go own cc nL F Lc rt xo tgt lv rest σ ρ σf) : gn_Go own cc nL F Lc rt xo pc lv (.int x :: rest) σ ρ σf := gr_if_lt (A := some ()) (B := none) (v := ()) d ht (if_pos hc) (fun _ _ => k) (fun hn _ => absurd hc hn)
theorem gr_ifF_lt {x : Int32} {off : Int} {tgt : Nat} (d : decode cc pc = .ok (.ifCond .lt off, 3)) (ht : (pc : Int) + off = (tgt : Int)) (hc : ¬ (x < 0)) (k : gn_Go own cc nL F Lc rt xo (pc + 3) lv rest σ ρ σf) : gn_Go own cc nL F Lc rt xo pc lv (.int x :: rest) σ ρ σf := gr_if_lt (A := none) (B := some ()) (v := ()) d ht (if_neg hc) (fun hn _ => absurd hn hc) (fun _ _ => k)
theorem gr_icmp_ge {α : Type} {A B : Option α} {v : α} {x y : Int32} {off : Int} {tgt : Nat} (d : decode cc pc = .ok (.if_icmp .ge off, 3)) (ht : (pc : Int) + off = (tgt : Int)) (h : (if x < y then A else B) = some v) (kt : x < y → A = some v → gn_Go own cc nL F Lc rt xo (pc + 3) lv rest σ ρ σf) (kf : ¬ (x < y) → B = some v → gn_Go own cc nL F Lc rt xo tgt lv rest σ ρ σf) : gn_Go own cc nL F Lc rt xo pc lv (.int y :: .int x :: rest) σ ρ σf := by
  by_cases hc : x < y
  · rw [if_pos hc] at h
    have k := kt hc h
    refine ⟨k.1, ?_⟩
    intro p l e R s m args below meth c cells slots Q D cy ad H locs ls hF hV hP hS hL hret
    exact lv_icmp_ge hF.1 hF.2.1 d ht (fun hn => absurd hc (Int32.not_lt.mpr hn)) (fun _ => k.2 p l e R s m args below meth c cells slots Q D cy ad H locs ls hF hV hP hS hL hret)
  · rw [if_neg hc] at h
    have k := kf hc h
    refine ⟨k.1, ?_⟩
    intro p l e R s m args below meth c cells slots Q D cy ad H locs ls hF hV hP hS hL hret
    exact lv_icmp_ge hF.1 hF.2.1 d ht (fun _ => k.2 p l e R s m args below meth c cells slots Q D cy ad H locs ls hF hV hP hS hL hret) (fun hn => absurd (Int32.not_lt.mp hc) hn)
theorem gr_icmpT_ge {x y : Int32} {off : Int} {tgt : Nat} (d : decode cc pc = .ok (.if_icmp .ge off, 3)) (ht : (pc : Int) + off = (tgt : Int)) (hc : x < y) (k : gn_Go own cc nL F Lc rt xo (pc + 3) lv rest σ ρ σf) : gn_Go own cc nL F Lc rt xo pc lv (.int y :: .int x :: rest) σ ρ σf := gr_icmp_ge (A := some ()) (B := none) (v := ()) d ht (if_pos hc) (fun _ _ => k) (fun hn _ => absurd hc hn)
theorem gr_icmpF_ge {x y : Int32} {off : Int} {tgt : Nat} (d : decode cc pc = .ok (.if_icmp .ge off, 3)) (ht : (pc : Int) + off = (tgt : Int)) (hc : ¬ (x < y)) (k : gn_Go own cc nL F Lc rt xo tgt lv rest σ ρ σf) : gn_Go own cc nL F Lc rt xo pc lv (.int y :: .int x :: rest) σ ρ σf := gr_icmp_ge (A := none) (B := some ()) (v := ()) d ht (if_neg hc) (fun hn _ => absurd hn hc) (fun _ _ => k)
theorem gr_if_ge {α : Type} {A B : Option α} {v : α} {x : Int32} {off : Int} {tgt : Nat} (d : decode cc pc = .ok (.ifCond .ge off, 3)) (ht : (pc : Int) + off = (tgt : Int)) (h : (if x < 0 then A else B) = some v) (kt : x < 0 → A = some v → gn_Go own cc nL F Lc rt xo (pc + 3) lv rest σ ρ σf) (kf : ¬ (x < 0) → B = some v → gn_Go own cc nL F Lc rt xo tgt lv rest σ ρ σf) : gn_Go own cc nL F Lc rt xo pc lv (.int x :: rest) σ ρ σf := by
  by_cases hc : x < 0
  · rw [if_pos hc] at h
    have k := kt hc h
    refine ⟨k.1, ?_⟩
    intro p l e R s m args below meth c cells slots Q D cy ad H locs ls hF hV hP hS hL hret
    exact lv_if_ge hF.1 hF.2.1 d ht (fun hn => absurd hc (Int32.not_lt.mpr hn)) (fun _ => k.2 p l e R s m args below meth c cells slots Q D cy ad H locs ls hF hV hP hS hL hret)
  · rw [if_neg hc] at h
    have k := kf hc h
    refine ⟨k.1, ?_⟩
    intro p l e R s m args below meth c cells slots Q D cy ad H locs ls hF hV hP hS hL hret
    exact lv_if_ge hF.1 hF.2.1 d ht (fun _ => k.2 p l e R s m args below meth c cells slots Q D cy ad H locs ls hF hV hP hS hL hret) (fun hn => absurd (Int32.not_lt.mp hc) hn)
theorem gr_ifT_ge {x : Int32} {off : Int} {tgt : Nat} (d : decode cc pc = .ok (.ifCond .ge off, 3)) (ht : (pc : Int) + off = (tgt : Int)) (hc : x < 0) (k : gn_Go own cc nL F Lc rt xo (pc + 3) lv rest σ ρ σf) : gn_Go own cc nL F Lc rt xo pc lv (.int x :: rest) σ ρ σf := gr_if_ge (A := some ()) (B := none) (v := ()) d ht (if_pos hc) (fun _ _ => k) (fun hn _ => absurd hc hn)
theorem gr_ifF_ge {x : Int32} {off : Int} {tgt : Nat} (d : decode cc pc = .ok (.ifCond .ge off, 3)) (ht : (pc : Int) + off = (tgt : Int)) (hc : ¬ (x < 0)) (k : gn_Go own cc nL F Lc rt xo tgt lv rest σ ρ σf) : gn_Go own cc nL F Lc rt xo pc lv (.int x :: rest) σ ρ σf := gr_if_ge (A := none) (B := some ()) (v := ()) d ht (if_neg hc) (fun hn _ => absurd hn hc) (fun _ _ => k)
theorem gr_icmp_gt {α : Type} {A B : Option α} {v : α} {x y : Int32} {off : Int} {tgt : Nat} (d : decode cc pc = .ok (.if_icmp .gt off, 3)) (ht : (pc : Int) + off = (tgt : Int)) (h : (if y < x then A else B) = some v) (kt : y < x → A = some v → gn_Go own cc nL F Lc rt xo tgt lv rest σ ρ σf) (kf : ¬ (y < x) → B = some v → gn_Go own cc nL F Lc rt xo (pc + 3) lv rest σ ρ σf) : gn_Go own cc nL F Lc rt xo pc lv (.int y :: .int x :: rest) σ ρ σf := by
  by_cases hc : y < x
  · rw [if_pos hc] at h
    have k := kt hc h
    refine ⟨k.1, ?_⟩
    intro p l e R s m args below meth c cells slots Q D cy ad H locs ls hF hV hP hS hL hret
    exact lv_icmp_gt hF.1 hF.2.1 d ht (fun _ => k.2 p l e R s m args below meth c cells slots Q D cy ad H locs ls hF hV hP hS hL hret) (fun hn => absurd hc hn)
  · rw [if_neg hc] at h
    have k := kf hc h
    refine ⟨k.1, ?_⟩
    intro p l e R s m args below meth c cells slots Q D cy ad H locs ls hF hV hP hS hL hret
    exact lv_icmp_gt hF.1 hF.2.1 d ht (fun hn => absurd hn hc) (fun _ => k.2 p l e R s m args below meth c cells slots Q D cy ad H locs ls hF hV hP hS hL hret)
theorem gr_icmpT_gt {x y : Int32} {off : Int} {tgt : Nat} (d : decode cc pc = .ok (.if_icmp .gt off, 3)) (ht : (pc : Int) + off = (tgt : Int)) (hc : y < x) (k : gn_Go own cc nL F Lc rt xo tgt lv rest σ ρ σf) : gn_Go own cc nL F Lc rt xo pc lv (.int y :: .int x :: rest) σ ρ σf := gr_icmp_gt (A := some ()) (B := none) (v := ()) d ht (if_pos hc) (fun _ _ => k) (fun hn _ => absurd hc hn)
theorem gr_icmpF_gt {x y : Int32} {off : Int} {tgt : Nat} (d : decode cc pc = .ok (.if_icmp .gt off, 3)) (ht : (pc : Int) + off = (tgt : Int)) (hc : ¬ (y < x)) (k : gn_Go own cc nL F Lc rt xo (pc + 3) lv rest σ ρ σf) : gn_Go own cc nL F Lc rt xo pc lv (.int y :: .int x :: rest) σ ρ σf := gr_icmp_gt (A := none) (B := some ()) (v := ()) d ht (if_neg hc) (fun hn _ => absurd hn hc) (fun _ _ => k)
theorem gr_if_gt {α : Type} {A B : Option α} {v : α} {x : Int32} {off : Int} {tgt : Nat} (d : decode cc pc = .ok (.ifCond .gt off, 3)) (ht : (pc : Int) + off = (tgt : Int)) (h : (if 0 < x then A else B) = some v) (kt : 0 < x → A = some v → gn_Go own cc nL F Lc rt xo tgt lv rest σ ρ σf) (kf : ¬ (0 < x) → B = some v → gn_Go own cc nL F Lc rt xo (pc + 3) lv rest σ ρ σf) : gn_Go own cc nL F Lc rt xo pc lv (.int x :: rest) σ ρ σf := by
  by_cases hc : 0 < x
  · rw [if_pos hc] at h
    have k := kt hc h
    refine ⟨k.1, ?_⟩
    intro p l e R s m args below meth c cells slots Q D cy ad H locs ls hF hV hP hS hL hret
    exact lv_if_gt hF.1 hF.2.1 d ht (fun _ => k.2 p l e R s m args below meth c cells slots Q D cy ad H locs ls hF hV hP hS hL hret) (fun hn => absurd hc hn)
  · rw [if_neg hc] at h
    have k := kf hc h
    refine ⟨k.1, ?_⟩
    intro p l e R s m args below meth c cells slots Q D cy ad H locs ls hF hV hP hS hL hret
    exact lv_if_gt hF.1 hF.2.1 d ht (fun hn => absurd hn hc) (fun _ => k.2 p l e R s m args below meth c cells slots Q D cy ad H locs ls hF hV hP hS hL hret)
theorem gr_ifT_gt {x : Int32} {off : Int} {tgt : Nat} (d : decode cc pc = .ok (.ifCond .gt off, 3)) (ht : (pc : Int) + off = (tgt : Int)) (hc : 0 < x) (k : gn_Go own cc nL F Lc rt xo tgt lv rest σ ρ σf) : gn_Go own cc nL F Lc rt xo pc lv (.int x :: rest) σ ρ σf := gr_if_gt (A := some ()) (B := none) (v := ()) d ht (if_pos hc) (fun _ _ => k) (fun hn _ => absurd hc hn)
theorem gr_ifF_gt {x : Int32} {off : Int} {tgt : Nat} (d : decode cc pc = .ok (.ifCond .gt off, 3)) (ht : (pc : Int) + off = (tgt : Int)) (hc : ¬ (0 < x)) (k : gn_Go own cc nL F Lc rt xo (pc + 3) lv rest σ ρ σf) : gn_Go own cc nL F Lc rt xo pc lv (.int x :: rest) σ ρ σf := gr_if_gt (A := none) (B := some ()) (v := ()) d ht (if_neg hc) (fun hn _ => absurd hn hc) (fun _ _ => k)
theorem gr_icmp_le {α : Type} {A B : Option α} {v : α} {x y : Int32} {off : Int} {tgt : Nat} (d : decode cc pc = .ok (.if_icmp .le off, 3)) (ht : (pc : Int) + off = (tgt : Int)) (h : (if y < x then A else B) = some v) (kt : y < x → A = some v → gn_Go own cc nL F Lc rt xo (pc + 3) lv rest σ ρ σf) (kf : ¬ (y < x) → B = some v → gn_Go own cc nL F Lc rt xo tgt lv rest σ ρ σf) : gn_Go own cc nL F Lc rt xo pc lv (.int y :: .int x :: rest) σ ρ σf := by
  by_cases hc : y < x
  · rw [if_pos hc] at h
    have k := kt hc h
    refine ⟨k.1, ?_⟩
    intro p l e R s m args below meth c cells slots Q D cy ad H locs ls hF hV hP hS hL hret
    exact lv_icmp_le hF.1 hF.2.1 d ht (fun hn => absurd hc (Int32.not_lt.mpr hn)) (fun _ => k.2 p l e R s m args below meth c cells slots Q D cy ad H locs ls hF hV hP hS hL hret)
  · rw [if_neg hc] at h
    have k := kf hc h
    refine ⟨k.1, ?_⟩
    intro p l e R s m args below meth c cells slots Q D cy ad H locs ls hF hV hP hS hL hret
    exact lv_icmp_le hF.1 hF.2.1 d ht (fun _ => k.2 p l e R s m args below meth c cells slots Q D cy ad H locs ls hF hV hP hS hL hret) (fun hn => absurd (Int32.not_lt.mp hc) hn)
theorem gr_icmpT_le {x y : Int32} {off : Int} {tgt : Nat} (d : decode cc pc = .ok (.if_icmp .le off, 3)) (ht : (pc : Int) + off = (tgt : Int)) (hc : y < x) (k : gn_Go own cc nL F Lc rt xo (pc + 3) lv rest σ ρ σf) : gn_Go own cc nL F Lc rt xo pc lv (.int y :: .int x :: rest) σ ρ σf := gr_icmp_le (A := some ()) (B := none) (v := ()) d ht (if_pos hc) (fun _ _ => k) (fun hn _ => absurd hc hn)
theorem gr_icmpF_le {x y : Int32} {off : Int} {tgt : Nat} (d : decode cc pc = .ok (.if_icmp .le off, 3)) (ht : (pc : Int) + off = (tgt : Int)) (hc : ¬ (y < x)) (k : gn_Go own cc nL F Lc rt xo tgt lv rest σ ρ σf) : gn_Go own cc nL F Lc rt xo pc lv (.int y :: .int x :: rest) σ ρ σf := gr_icmp_le (A := none) (B := some ()) (v := ()) d ht (if_neg hc) (fun hn _ => absurd hn hc) (fun _ _ => k)
theorem gr_if_le {α : Type} {A B : Option α} {v : α} {x : Int32} {off : Int} {tgt : Nat} (d : decode cc pc = .ok (.ifCond .le off, 3)) (ht : (pc : Int) + off = (tgt : Int)) (h : (if 0 < x then A else B) = some v) (kt : 0 < x → A = some v → gn_Go own cc nL F Lc rt xo (pc + 3) lv rest σ ρ σf) (kf : ¬ (0 < x) → B = some v → gn_Go own cc nL F Lc rt xo tgt lv rest σ ρ σf) : gn_Go own cc nL F Lc rt xo pc lv (.int x :: rest) σ ρ σf := by
  by_cases hc : 0 < x
  · rw [if_pos hc] at h
    have k := kt hc h
    refine ⟨k.1, ?_⟩
    intro p l e R s m args below meth c cells slots Q D cy ad H locs ls hF hV hP hS hL hret
    exact lv_if_le hF.1 hF.2.1 d ht (fun hn => absurd hc (Int32.not_lt.mpr hn)) (fun _ => k.2 p l e R s m args below meth c cells slots Q D cy ad H locs ls hF hV hP hS hL hret)
  · rw [if_neg hc] at h
    have k := kf hc h
    refine ⟨k.1, ?_⟩
    intro p l e R s m args below meth c cells slots Q D cy ad H locs ls hF hV hP hS hL hret
    exact lv_if_le hF.1 hF.2.1 d ht (fun _ => k.2 p l e R s m args below meth c cells slots Q D cy ad H locs ls hF hV hP hS hL hret) (fun hn => absurd (Int32.not_lt.mp hc) hn)
theorem gr_ifT_le {x : Int32} {off : Int} {tgt : Nat} (d : decode cc pc = .ok (.ifCond .le off, 3)) (ht : (pc : Int) + off = (tgt : Int)) (hc : 0 < x) (k : gn_Go own cc nL F Lc rt xo (pc + 3) lv rest σ ρ σf) : gn_Go own cc nL F Lc rt xo pc lv (.int x :: rest) σ ρ σf := gr_if_le (A := some ()) (B := none) (v := ()) d ht (if_pos hc) (fun _ _ => k) (fun hn _ => absurd hc hn)
theorem gr_ifF_le {x : Int32} {off : Int} {tgt : Nat} (d : decode cc pc = .ok (.ifCond .le off, 3)) (ht : (pc : Int) + off = (tgt : Int)) (hc : ¬ (0 < x)) (k : gn_Go own cc nL F Lc rt xo tgt lv rest σ ρ σf) : gn_Go own cc nL F Lc rt xo pc lv (.int x :: rest) σ ρ σf := gr_if_le (A := none) (B := some ()) (v := ()) d ht (if_neg hc) (fun hn _ => absurd hn hc) (fun _ _ => k)
theorem gr_tsIn {dflt lo hi : Int} {offs : Array Int} {len : Nat} {x : Int32} {off : Int} {tgt : Nat} (d : decode cc pc = .ok (.tableswitch dflt lo hi offs, len)) {z : Int32} (hx : x = z) (h1 : ¬ z.toInt < lo) (h2 : ¬ hi < z.toInt) (ho : offs[(z.toInt - lo).toNat]? = some off) (ht : (pc : Int) + off = (tgt : Int)) (k : gn_Go own cc nL F Lc rt xo tgt lv rest σ ρ σf) : gn_Go own cc nL F Lc rt xo pc lv (.int x :: rest) σ ρ σf := by
  subst hx
  exact gn_st (fun _ _ _ _ _ _ _ _ _ _ _ _ _ _ _ _ _ hx hb _ _ _ k => lv_tableIn hx hb d h1 h2 ho ht k) k
theorem gr_tsOut {dflt lo hi : Int} {offs : Array Int} {len : Nat} {x : Int32} {tgt : Nat} (d : decode cc pc = .ok (.tableswitch dflt lo hi offs, len)) (h : x.toInt < lo ∨ hi < x.toInt) (ht : (pc : Int) + dflt = (tgt : Int)) (k : gn_Go own cc nL F Lc rt xo tgt lv rest σ ρ σf) : gn_Go own cc nL F Lc rt xo pc lv (.int x :: rest) σ ρ σf := gn_st (fun _ _ _ _ _ _ _ _ _ _ _ _ _ _ _ _ _ hx hb _ _ _ k => lv_tableOut hx hb d h ht k) k
theorem gr_ret (d : gn_isRet cc pc ρ) (hf : gn_fit rt ρ) (hst : ρ.toList = st) (hs : σ = σf) : gn_Go own cc nL F Lc rt xo pc lv st σ ρ σf := by
  subst hs
  subst hst
  refine ⟨hf, ?_⟩
  intro p l e R s m args below meth c cells slots Q D cy ad H locs ls hF hV hP hS hL hret
  exact hret pc H locs ls d hP hS
end GNR
end
section
/-! ROWS OF THE JUDGEMENT: memory and calls. The pure words for what may fail: an index beyond, a divisor 0 -/
def gn_rd {α : Type} (σ : gn_M) (k n : Nat) (i : Int32) (K : Int32 → Option α) : Option α := if i < 0 ∨ n ≤ i.toNatClampNeg then none else K (σ.1 k i.toNatClampNeg)
def gn_wr {α : Type} (σ : gn_M) (k n : Nat) (i x : Int32) (K : gn_M → Option α) : Option α := if i < 0 ∨ n ≤ i.toNatClampNeg then none else K (gn_up σ k i.toNatClampNeg x)
def gn_ra {α : Type} (B n : Nat) (i : Int32) (K : Nat → Option α) : Option α := if i < 0 ∨ n ≤ i.toNatClampNeg then none else K (B + i.toNatClampNeg)
def gn_rl {α : Type} (i : Int32) (K : Int32 → Option α) : Option α := if i < 0 ∨ 6 ≤ i.toNatClampNeg then none else K (gn_let i.toNatClampNeg)
def gn_rx {α : Type} (L : Nat) (xs : Nat → Int32) (i : Int32) (K : Int32 → Option α) : Option α := if i < 0 ∨ L ≤ i.toNatClampNeg then none else K (xs i.toNatClampNeg)
def gn_ac {α : Type} (σ : gn_M) (k0 n0 : Nat) (sp : Int32) (k1 n1 : Nat) (dp n : Int32) (K : gn_M → Option α) : Option α := if sp < 0 ∨ dp < 0 ∨ n < 0 ∨ n0 < sp.toNatClampNeg + n.toNatClampNeg ∨ n1 < dp.toNatClampNeg + n.toNatClampNeg then none else K (gn_cp σ k0 sp.toNatClampNeg k1 dp.toNatClampNeg n.toNatClampNeg)
def gn_dv {α : Type} (y : Int32) (K : Option α) : Option α := if y = 0 then none else K
def gn_dvL {α : Type} (y : Int64) (K : Option α) : Option α := if y = 0 then none else K
/-- a join of several ways -/
def gn_jn {α β : Type} (K : α → Option β) (t : (α → Option β) → Option β) : Option β := t K
theorem gn_jnE {α β : Type} {K : α → Option β} {t : (α → Option β) → Option β} {v : β} {G : Prop} {P : α → Prop} (h : gn_jn K t = some v) (rest : ∀ x, K x = some v → P x) (k : ∀ J : α → Option β, (∀ x, J x = some v → P x) → t J = some v → G) : G := k K rest h
theorem gn_bd {α β : Type} {o : Option α} {K : α → Option β} {v : β} (h : o.bind K = some v) : ∃ x, o = some x ∧ K x = some v := Option.bind_eq_some_iff.mp h
def gn_Fd (k ci j : Nat) (fd : Nat ⊕ Bool) (C : String) (T : u_T) (N : Nat) (ty0 : Nat → FieldType) : Prop :=
  vwCl[ci]? = some (C, T, N) ∧ (∀ w ∈ u_ws C T N, w ∈ gn_T) ∧ (∀ k, k < N → parseFieldDescriptor (T k).2.2.1 = some (ty0 k)) ∧ (∀ a, a < N → ∀ b, b < N → a ≠ b → (T a).2.1 ≠ (T b).2.1) ∧ (∃ fs, gn_S[k]? = some (.inr (.inr (ci, fs))) ∧ fs[j]? = some fd) ∧ j < N ∧ (T j).1 = C
theorem gn_E_putI {cy : Nat → ClassId} {ad : Nat → Nat} {σ : gn_M} {k ci j : Nat} {fs : List (Nat ⊕ Bool)} {x : Int32} (h : fs[j]? = some (.inr false)) : gn_E cy ad (gn_up σ k j x) k (.inr (.inr (ci, fs))) = .inr (ci, (fs.mapIdx (fun j f => gn_F ad σ k j f)).set j (.int x)) := by
  simp only [gn_E]
  congr 2
  apply List.ext_getElem?
  intro i
  by_cases hi : i = j
  · subst hi
    rw [List.getElem?_set_self (by rw [List.length_mapIdx]; exact (List.getElem?_eq_some_iff.mp h).1), List.getElem?_mapIdx, h]
    simp [gn_F, gn_up]
  · rw [List.getElem?_set_ne (Ne.symm hi), List.getElem?_mapIdx, List.getElem?_mapIdx]
    congr 1
    funext f
    match f with
    | .inl t => rfl
    | .inr false => simp [gn_F, gn_up, hi]
    | .inr true => simp [gn_F, gn_up]
theorem gn_E_putL {cy : Nat → ClassId} {ad : Nat → Nat} {σ : gn_M} {k ci j : Nat} {fs : List (Nat ⊕ Bool)} {x : Int64} (h : fs[j]? = some (.inr true)) : gn_E cy ad (gn_upL σ k j x) k (.inr (.inr (ci, fs))) = .inr (ci, (fs.mapIdx (fun j f => gn_F ad σ k j f)).set j (.long x)) := by
  simp only [gn_E]
  congr 2
  apply List.ext_getElem?
  intro i
  by_cases hi : i = j
  · subst hi
    rw [List.getElem?_set_self (by rw [List.length_mapIdx]; exact (List.getElem?_eq_some_iff.mp h).1), List.getElem?_mapIdx, h]
    simp [gn_F, gn_upL]
  · rw [List.getElem?_set_ne (Ne.symm hi), List.getElem?_mapIdx, List.getElem?_mapIdx]
    congr 1
    funext f
    match f with
    | .inl t => rfl
    | .inr false => simp [gn_F, gn_upL]
    | .inr true => simp [gn_F, gn_upL, hi]
theorem gn_GI {ws : List Cond} (h : ∀ w ∈ ws, w ∈ gn_T) : GoodIn gn_T ws := fun w hw => ⟨h w hw, good_of_word (List.mem_filter.mp (h w hw)).2⟩
/-- a method that can be called: its code, its class, its name, how many parameters -/
def gn_My (y : MethodName) (cc : ByteArray) (maxL : Nat) (ret : Option FieldType) (n : Nat) : Prop := Cond.code y cc maxL ret ∈ gn_T ∧ Cond.initialized y.cls ∈ gn_T ∧ (y.cls ≠ "java/lang/invoke/MethodHandle" ∧ y.cls ≠ "java/lang/invoke/VarHandle" ∧ (parseMethodDescriptor y.desc).map (fun d => d.parameters.length) = some n)
def gn_Mv (y : MethodName) : Prop := Cond.instanceMethod y ∈ gn_T ∧ Cond.selects y.cls y y ∈ gn_T
/-- a cell that is an object of a kind -/
def gn_Ob (k : Nat) (C : String) : Prop := ∃ (ci : Nat) (fs : List (Nat ⊕ Bool)) (T : u_T) (N : Nat), gn_S[k]? = some (.inr (.inr (ci, fs))) ∧ vwCl[ci]? = some (C, T, N)
section GNM
variable {own : String} {cc : ByteArray} {nL F Lc : Nat} {rt : Option FieldType} {xo : Option (Nat × (Nat → Int32))} {pc : Nat} {lv lv' : List (Option Value)} {st rest : List Value} {σ : gn_M} {ρ : Option Value} {σf : gn_M}
theorem gn_get {k ci j idx : Nat} {fd : Nat ⊕ Bool} {C : String} {T : u_T} {N : Nat} {ty0 : Nat → FieldType} {v : Value} (hv : ∀ ad, gn_F ad σ k j fd = gn_tr ad v) (q : gn_Fd k ci j fd C T N ty0) (hl : Cond.fieldLink own idx C (T j).2.1 (T j).2.2.1 ∈ gn_T) (d : decode cc pc = .ok (.getfield idx, 3)) (kk : gn_Go own cc nL F Lc rt xo (pc + 3) lv (v :: rest) σ ρ σf) : gn_Go own cc nL F Lc rt xo pc lv (.ref k :: rest) σ ρ σf := by
  refine ⟨kk.1, ?_⟩
  intro p l e R s m args below meth c cells slots Q D cy ad H locs ls hF hV hP hS hL hret
  obtain ⟨hc, hin, hty, hnm, ⟨fs, hs, hj⟩, hjN, hC⟩ := q
  exact va_get (D := D) (v := gn_F ad σ k j fd) hF.1 hF.2.1 hF.2.2.2.2.1 hin hF.2.2.2.1 hV.2.1 hP k (gn_W_at hs) hc j hjN (hF.2.2.2.2.1 _ hl) (fun x h => by rw [hC] at h; exact h) (by rw [List.getElem?_mapIdx, hj]; rfl) d (by rw [hv ad]; exact kk.2 p l e R s m args below meth c cells slots Q D cy ad H locs ls hF hV hP hS hL hret)
theorem gn_getN {k ci j idx : Nat} {fd : Nat ⊕ Bool} {C host : String} {T : u_T} {N : Nat} {ty0 : Nat → FieldType} {v : Value} (hv : ∀ ad, gn_F ad σ k j fd = gn_tr ad v) (q : gn_Fd k ci j fd C T N ty0) (hl : Cond.fieldLinkNest own idx C (T j).2.1 (T j).2.2.1 host ∈ gn_N) (d : decode cc pc = .ok (.getfield idx, 3)) (kk : gn_Go own cc nL F Lc rt xo (pc + 3) lv (v :: rest) σ ρ σf) : gn_Go own cc nL F Lc rt xo pc lv (.ref k :: rest) σ ρ σf := by
  refine ⟨kk.1, ?_⟩
  intro p l e R s m args below meth c cells slots Q D cy ad H locs ls hF hV hP hS hL hret
  obtain ⟨hc, hin, hty, hnm, ⟨fs, hs, hj⟩, hjN, hC⟩ := q
  exact va_getN (D := D) (v := gn_F ad σ k j fd) hF.1 hF.2.1 hF.2.2.2.2.1 hin hF.2.2.2.1 hV.2.1 hP k (gn_W_at hs) hc j hjN (va_Nw.use rfl (hV.1 _ hl)) (fun x h => by rw [hC] at h; exact h) (by rw [List.getElem?_mapIdx, hj]; rfl) d (by rw [hv ad]; exact kk.2 p l e R s m args below meth c cells slots Q D cy ad H locs ls hF hV hP hS hL hret)
theorem gr_getI {k ci j idx : Nat} {C : String} {T : u_T} {N : Nat} {ty0 : Nat → FieldType} (q : gn_Fd k ci j (.inr false) C T N ty0) (hl : Cond.fieldLink own idx C (T j).2.1 (T j).2.2.1 ∈ gn_T) (d : decode cc pc = .ok (.getfield idx, 3)) (kk : gn_Go own cc nL F Lc rt xo (pc + 3) lv (.int (σ.1 k j) :: rest) σ ρ σf) : gn_Go own cc nL F Lc rt xo pc lv (.ref k :: rest) σ ρ σf := gn_get (fun _ => rfl) q hl d kk
theorem gr_getL {k ci j idx : Nat} {C : String} {T : u_T} {N : Nat} {ty0 : Nat → FieldType} (q : gn_Fd k ci j (.inr true) C T N ty0) (hl : Cond.fieldLink own idx C (T j).2.1 (T j).2.2.1 ∈ gn_T) (d : decode cc pc = .ok (.getfield idx, 3)) (kk : gn_Go own cc nL F Lc rt xo (pc + 3) lv (.long (σ.2 k j) :: rest) σ ρ σf) : gn_Go own cc nL F Lc rt xo pc lv (.ref k :: rest) σ ρ σf := gn_get (fun _ => rfl) q hl d kk
theorem gr_getR {k ci j idx t : Nat} {C : String} {T : u_T} {N : Nat} {ty0 : Nat → FieldType} (q : gn_Fd k ci j (.inl t) C T N ty0) (hl : Cond.fieldLink own idx C (T j).2.1 (T j).2.2.1 ∈ gn_T) (d : decode cc pc = .ok (.getfield idx, 3)) (kk : gn_Go own cc nL F Lc rt xo (pc + 3) lv (.ref t :: rest) σ ρ σf) : gn_Go own cc nL F Lc rt xo pc lv (.ref k :: rest) σ ρ σf := gn_get (fun _ => rfl) q hl d kk
theorem gr_getIN {k ci j idx : Nat} {C host : String} {T : u_T} {N : Nat} {ty0 : Nat → FieldType} (q : gn_Fd k ci j (.inr false) C T N ty0) (hl : Cond.fieldLinkNest own idx C (T j).2.1 (T j).2.2.1 host ∈ gn_N) (d : decode cc pc = .ok (.getfield idx, 3)) (kk : gn_Go own cc nL F Lc rt xo (pc + 3) lv (.int (σ.1 k j) :: rest) σ ρ σf) : gn_Go own cc nL F Lc rt xo pc lv (.ref k :: rest) σ ρ σf := gn_getN (fun _ => rfl) q hl d kk
theorem gr_getRN {k ci j idx t : Nat} {C host : String} {T : u_T} {N : Nat} {ty0 : Nat → FieldType} (q : gn_Fd k ci j (.inl t) C T N ty0) (hl : Cond.fieldLinkNest own idx C (T j).2.1 (T j).2.2.1 host ∈ gn_N) (d : decode cc pc = .ok (.getfield idx, 3)) (kk : gn_Go own cc nL F Lc rt xo (pc + 3) lv (.ref t :: rest) σ ρ σf) : gn_Go own cc nL F Lc rt xo pc lv (.ref k :: rest) σ ρ σf := gn_getN (fun _ => rfl) q hl d kk
theorem gr_putI {k ci j idx : Nat} {C : String} {T : u_T} {N : Nat} {ty0 : Nat → FieldType} {x : Int32} (q : gn_Fd k ci j (.inr false) C T N ty0) (hf : (T j).2.2.2 = false) (ht : ty0 j = .int) (hl : Cond.fieldLink own idx C (T j).2.1 (T j).2.2.1 ∈ gn_T) (d : decode cc pc = .ok (.putfield idx, 3)) (kk : gn_Go own cc nL F Lc rt xo (pc + 3) lv rest (gn_up σ k j x) ρ σf) : gn_Go own cc nL F Lc rt xo pc lv (.int x :: .ref k :: rest) σ ρ σf := by
  refine ⟨kk.1, ?_⟩
  intro p l e R s m args below meth c cells slots Q D cy ad H locs ls hF hV hP hS hL hret
  obtain ⟨hc, hin, hty, hnm, ⟨fs, hs, hj⟩, hjN, hC⟩ := q
  refine va_put (D := D) (v := .int x) (ty := .int) hF.1 hF.2.1 hF.2.2.2.2.1 hin ty0 hty hnm hF.2.2.2.1 hV.2.1 hP (gn_D hV.2.2.2.2.1) hS k (gn_W_at hs) hc j hjN (hF.2.2.2.2.1 _ hl) (fun x h => by rw [hC] at h; exact h) hf (by rw [hty j hjN, ht]) rfl rfl (by rw [List.length_mapIdx]; exact (List.getElem?_eq_some_iff.mp hj).1) d (fun H1 locs1 hP1 _ hS1 => ?_)
  rw [← gn_E_putI (cy := cy) hj, gn_W_set hs (fun j hj => gn_up_1 hj) (fun _ _ => rfl)] at hP1
  exact kk.2 p l e R s m args below meth c cells slots Q D cy ad H1 locs1 ls hF hV hP1 hS1 hL hret
theorem gr_putL {k ci j idx : Nat} {C : String} {T : u_T} {N : Nat} {ty0 : Nat → FieldType} {x : Int64} (q : gn_Fd k ci j (.inr true) C T N ty0) (hf : (T j).2.2.2 = false) (ht : ty0 j = .long) (hl : Cond.fieldLink own idx C (T j).2.1 (T j).2.2.1 ∈ gn_T) (d : decode cc pc = .ok (.putfield idx, 3)) (kk : gn_Go own cc nL F Lc rt xo (pc + 3) lv rest (gn_upL σ k j x) ρ σf) : gn_Go own cc nL F Lc rt xo pc lv (.long x :: .ref k :: rest) σ ρ σf := by
  refine ⟨kk.1, ?_⟩
  intro p l e R s m args below meth c cells slots Q D cy ad H locs ls hF hV hP hS hL hret
  obtain ⟨hc, hin, hty, hnm, ⟨fs, hs, hj⟩, hjN, hC⟩ := q
  refine va_put (D := D) (v := .long x) (ty := .long) hF.1 hF.2.1 hF.2.2.2.2.1 hin ty0 hty hnm hF.2.2.2.1 hV.2.1 hP (gn_D hV.2.2.2.2.1) hS k (gn_W_at hs) hc j hjN (hF.2.2.2.2.1 _ hl) (fun x h => by rw [hC] at h; exact h) hf (by rw [hty j hjN, ht]) rfl rfl (by rw [List.length_mapIdx]; exact (List.getElem?_eq_some_iff.mp hj).1) d (fun H1 locs1 hP1 _ hS1 => ?_)
  rw [← gn_E_putL (cy := cy) hj, gn_W_set (σ := σ) (σ' := gn_upL σ k j x) hs (fun _ _ => rfl) (fun j hj => by funext b; simp [gn_upL, hj])] at hP1
  exact kk.2 p l e R s m args below meth c cells slots Q D cy ad H1 locs1 ls hF hV hP1 hS1 hL hret
theorem gr_putIN {k ci j idx : Nat} {C host : String} {T : u_T} {N : Nat} {ty0 : Nat → FieldType} {x : Int32} (q : gn_Fd k ci j (.inr false) C T N ty0) (hf : (T j).2.2.2 = false) (ht : ty0 j = .int) (hl : Cond.fieldLinkNest own idx C (T j).2.1 (T j).2.2.1 host ∈ gn_N) (d : decode cc pc = .ok (.putfield idx, 3)) (kk : gn_Go own cc nL F Lc rt xo (pc + 3) lv rest (gn_up σ k j x) ρ σf) : gn_Go own cc nL F Lc rt xo pc lv (.int x :: .ref k :: rest) σ ρ σf := by
  refine ⟨kk.1, ?_⟩
  intro p l e R s m args below meth c cells slots Q D cy ad H locs ls hF hV hP hS hL hret
  obtain ⟨hc, hin, hty, hnm, ⟨fs, hs, hj⟩, hjN, hC⟩ := q
  refine va_putN (D := D) (v := .int x) (ty := .int) hF.1 hF.2.1 hF.2.2.2.2.1 hin ty0 hty hnm hF.2.2.2.1 hV.2.1 hP (gn_D hV.2.2.2.2.1) hS k (gn_W_at hs) hc j hjN (va_Nw.use rfl (hV.1 _ hl)) (fun x h => by rw [hC] at h; exact h) hf (by rw [hty j hjN, ht]) rfl rfl (by rw [List.length_mapIdx]; exact (List.getElem?_eq_some_iff.mp hj).1) d (fun H1 locs1 hP1 _ hS1 => ?_)
  rw [← gn_E_putI (cy := cy) hj, gn_W_set hs (fun j hj => gn_up_1 hj) (fun _ _ => rfl)] at hP1
  exact kk.2 p l e R s m args below meth c cells slots Q D cy ad H1 locs1 ls hF hV hP1 hS1 hL hret
theorem gr_iaload {α : Type} {K : Int32 → Option α} {v : α} {k n : Nat} {i : Int32} (hs : gn_S[k]? = some (.inl (0, n))) (d : decode cc pc = .ok (.iaload, 1)) (h : gn_rd σ k n i K = some v) (kk : vp_in i n → K (σ.1 k i.toNatClampNeg) = some v → gn_Go own cc nL F Lc rt xo (pc + 1) lv (.int (σ.1 k i.toNatClampNeg) :: rest) σ ρ σf) : gn_Go own cc nL F Lc rt xo pc lv (.int i :: .ref k :: rest) σ ρ σf := by
  unfold gn_rd at h
  split at h
  · cases h
  · next hin =>
    have kk := kk hin h
    refine ⟨kk.1, ?_⟩
    intro p l e R s m args below meth c cells slots Q D cy ad H locs ls hF hV hP hS hL hret
    exact va_iald hF.1 hF.2.1 hV.2.1 hP k 0 (gn_W_at hs) rfl hin d (kk.2 p l e R s m args below meth c cells slots Q D cy ad H locs ls hF hV hP hS hL hret)
theorem gr_baload {α : Type} {K : Int32 → Option α} {v : α} {k n : Nat} {i : Int32} (hs : gn_S[k]? = some (.inl (1, n))) (d : decode cc pc = .ok (.baload, 1)) (h : gn_rd σ k n i K = some v) (kk : vp_in i n → K (σ.1 k i.toNatClampNeg) = some v → gn_Go own cc nL F Lc rt xo (pc + 1) lv (.int (σ.1 k i.toNatClampNeg) :: rest) σ ρ σf) : gn_Go own cc nL F Lc rt xo pc lv (.int i :: .ref k :: rest) σ ρ σf := by
  unfold gn_rd at h
  split at h
  · cases h
  · next hin =>
    have kk := kk hin h
    refine ⟨kk.1, ?_⟩
    intro p l e R s m args below meth c cells slots Q D cy ad H locs ls hF hV hP hS hL hret
    exact va_bald hF.1 hF.2.1 hV.2.1 hP k 1 (gn_W_at hs) rfl hin d (kk.2 p l e R s m args below meth c cells slots Q D cy ad H locs ls hF hV hP hS hL hret)
theorem gr_zaload {α : Type} {K : Int32 → Option α} {v : α} {k n : Nat} {i : Int32} (hs : gn_S[k]? = some (.inl (2, n))) (d : decode cc pc = .ok (.baload, 1)) (h : gn_rd σ k n i K = some v) (kk : vp_in i n → K (σ.1 k i.toNatClampNeg) = some v → gn_Go own cc nL F Lc rt xo (pc + 1) lv (.int (σ.1 k i.toNatClampNeg) :: rest) σ ρ σf) : gn_Go own cc nL F Lc rt xo pc lv (.int i :: .ref k :: rest) σ ρ σf := by
  unfold gn_rd at h
  split at h
  · cases h
  · next hin =>
    have kk := kk hin h
    refine ⟨kk.1, ?_⟩
    intro p l e R s m args below meth c cells slots Q D cy ad H locs ls hF hV hP hS hL hret
    exact va_zald hF.1 hF.2.1 hV.2.1 hP k 2 (gn_W_at hs) rfl hin d (kk.2 p l e R s m args below meth c cells slots Q D cy ad H locs ls hF hV hP hS hL hret)
theorem gr_iastore {α : Type} {K : gn_M → Option α} {v : α} {k n : Nat} {i x : Int32} (hs : gn_S[k]? = some (.inl (0, n))) (d : decode cc pc = .ok (.iastore, 1)) (h : gn_wr σ k n i x K = some v) (kk : vp_in i n → K (gn_up σ k i.toNatClampNeg x) = some v → gn_Go own cc nL F Lc rt xo (pc + 1) lv rest (gn_up σ k i.toNatClampNeg x) ρ σf) : gn_Go own cc nL F Lc rt xo pc lv (.int x :: .int i :: .ref k :: rest) σ ρ σf := by
  unfold gn_wr at h
  split at h
  · cases h
  · next hin =>
    have kk := kk hin h
    refine ⟨kk.1, ?_⟩
    intro p l e R s m args below meth c cells slots Q D cy ad H locs ls hF hV hP hS hL hret
    refine va_iast hF.1 hF.2.1 hV.2.1 hP (gn_D hV.2.2.2.2.1) hS k 0 (gn_W_at hs) rfl hin d (fun H1 locs1 hP1 _ hS1 => ?_)
    rw [← gn_up_s] at hP1
    have hP1 : va_P D vwCl ((gn_W cy ad σ).set k (ad k, gn_E cy ad (gn_up σ k i.toNatClampNeg x) k (.inl (0, n)))) H1 := hP1
    rw [gn_W_set hs (fun j hj => gn_up_1 hj) (fun _ _ => rfl)] at hP1
    exact kk.2 p l e R s m args below meth c cells slots Q D cy ad H1 locs1 ls hF hV hP1 hS1 hL hret
theorem gr_bastore {α : Type} {K : gn_M → Option α} {v : α} {k n : Nat} {i x : Int32} (hs : gn_S[k]? = some (.inl (1, n))) (d : decode cc pc = .ok (.bastore, 1)) (h : gn_wr σ k n i (vp_nar .byte x) K = some v) (kk : vp_in i n → K (gn_up σ k i.toNatClampNeg (vp_nar .byte x)) = some v → gn_Go own cc nL F Lc rt xo (pc + 1) lv rest (gn_up σ k i.toNatClampNeg (vp_nar .byte x)) ρ σf) : gn_Go own cc nL F Lc rt xo pc lv (.int x :: .int i :: .ref k :: rest) σ ρ σf := by
  unfold gn_wr at h
  split at h
  · cases h
  · next hin =>
    have kk := kk hin h
    refine ⟨kk.1, ?_⟩
    intro p l e R s m args below meth c cells slots Q D cy ad H locs ls hF hV hP hS hL hret
    refine va_bast hF.1 hF.2.1 hV.2.1 hP (gn_D hV.2.2.2.2.1) hS k 1 (gn_W_at hs) rfl hin d (fun H1 locs1 hP1 _ hS1 => ?_)
    rw [← gn_up_s] at hP1
    have hP1 : va_P D vwCl ((gn_W cy ad σ).set k (ad k, gn_E cy ad (gn_up σ k i.toNatClampNeg (vp_nar .byte x)) k (.inl (1, n)))) H1 := hP1
    rw [gn_W_set hs (fun j hj => gn_up_1 hj) (fun _ _ => rfl)] at hP1
    exact kk.2 p l e R s m args below meth c cells slots Q D cy ad H1 locs1 ls hF hV hP1 hS1 hL hret
theorem gr_zastore {α : Type} {K : gn_M → Option α} {v : α} {k n : Nat} {i x : Int32} (hs : gn_S[k]? = some (.inl (2, n))) (d : decode cc pc = .ok (.bastore, 1)) (h : gn_wr σ k n i (vp_nar .boolean x) K = some v) (kk : vp_in i n → K (gn_up σ k i.toNatClampNeg (vp_nar .boolean x)) = some v → gn_Go own cc nL F Lc rt xo (pc + 1) lv rest (gn_up σ k i.toNatClampNeg (vp_nar .boolean x)) ρ σf) : gn_Go own cc nL F Lc rt xo pc lv (.int x :: .int i :: .ref k :: rest) σ ρ σf := by
  unfold gn_wr at h
  split at h
  · cases h
  · next hin =>
    have kk := kk hin h
    refine ⟨kk.1, ?_⟩
    intro p l e R s m args below meth c cells slots Q D cy ad H locs ls hF hV hP hS hL hret
    refine va_zast hF.1 hF.2.1 hV.2.1 hP (gn_D hV.2.2.2.2.1) hS k 2 (gn_W_at hs) rfl hin d (fun H1 locs1 hP1 _ hS1 => ?_)
    rw [← gn_up_s] at hP1
    have hP1 : va_P D vwCl ((gn_W cy ad σ).set k (ad k, gn_E cy ad (gn_up σ k i.toNatClampNeg (vp_nar .boolean x)) k (.inl (2, n)))) H1 := hP1
    rw [gn_W_set hs (fun j hj => gn_up_1 hj) (fun _ _ => rfl)] at hP1
    exact kk.2 p l e R s m args below meth c cells slots Q D cy ad H1 locs1 ls hF hV hP1 hS1 hL hret
theorem gr_aaload {α : Type} {K : Nat → Option α} {v : α} {k B n : Nat} {ts : List Nat} {i : Int32} (hs : gn_S[k]? = some (.inr (.inl ts))) (hn : ts.length = n) (hB : ∀ j, j < n → ts[j]? = some (B + j)) (d : decode cc pc = .ok (.aaload, 1)) (h : gn_ra B n i K = some v) (kk : vp_in i n → K (B + i.toNatClampNeg) = some v → gn_Go own cc nL F Lc rt xo (pc + 1) lv (.ref (B + i.toNatClampNeg) :: rest) σ ρ σf) : gn_Go own cc nL F Lc rt xo pc lv (.int i :: .ref k :: rest) σ ρ σf := by
  unfold gn_ra at h
  split at h
  · cases h
  · next hin =>
    have kq := kk hin h
    refine ⟨kq.1, ?_⟩
    intro p l e R s m args below meth c cells slots Q D cy ad H locs ls hF hV hP hS hL hret
    have hlt : i.toNatClampNeg < n := Nat.not_le.mp fun q => hin (Or.inr q)
    have hcell := hP k _ (gn_W_at hs)
    clear kk
    subst hn
    refine W.aald (v := .ref (ad (B + i.toNatClampNeg))) (ty := .array .int) hF.1 hF.2.1 hcell ((hV.2.1.2 3 _ rfl).1 ts.length (fun j => va_rf ((ts[j]?).map ad))) rfl (fun q => by cases q) (by show ¬ (i < 0 ∨ (arrV _ _ _).slots.size ≤ _); rw [arrV_size]; exact hin) (by show (arrV _ _ _).slots[_]? = _; rw [arrV_read _ _ hlt]; show some (va_rf (Option.map ad ts[i.toNatClampNeg]?)) = _; rw [hB _ hlt]; rfl) rfl rfl d (kq.2 p l e R s m args below meth c cells slots Q D cy ad H locs ls hF hV hP hS hL hret)
theorem gr_alen {k n : Nat} {t : Nat} {v : Int32} (hs : gn_S[k]? = some (.inl (t, n))) (ht : t < 3) (hv : Int32.ofNat n = v) (d : decode cc pc = .ok (.arraylength, 1)) (kk : gn_Go own cc nL F Lc rt xo (pc + 1) lv (.int v :: rest) σ ρ σf) : gn_Go own cc nL F Lc rt xo pc lv (.ref k :: rest) σ ρ σf := by
  refine ⟨kk.1, ?_⟩
  intro p l e R s m args below meth c cells slots Q D cy ad H locs ls hF hV hP hS hL hret
  rcases (show t = 0 ∨ t = 1 ∨ t = 2 by omega) with rfl | rfl | rfl
  · exact va_alen hF.1 hF.2.1 hV.2.1 hP k 0 (gn_W_at hs) rfl hv d (kk.2 p l e R s m args below meth c cells slots Q D cy ad H locs ls hF hV hP hS hL hret)
  · exact va_alen hF.1 hF.2.1 hV.2.1 hP k 1 (gn_W_at hs) rfl hv d (kk.2 p l e R s m args below meth c cells slots Q D cy ad H locs ls hF hV hP hS hL hret)
  · exact va_alen hF.1 hF.2.1 hV.2.1 hP k 2 (gn_W_at hs) rfl hv d (kk.2 p l e R s m args below meth c cells slots Q D cy ad H locs ls hF hV hP hS hL hret)
theorem gr_letters {idx : Nat} (hl : Cond.fieldLink own idx "GateNames" "LETTERS" "[I" ∈ gn_T) (d : decode cc pc = .ok (.getstatic idx, 3)) (kk : gn_Go own cc nL F Lc rt xo (pc + 3) lv (.ref 100 :: rest) σ ρ σf) : gn_Go own cc nL F Lc rt xo pc lv rest σ ρ σf := by
  refine ⟨kk.1, ?_⟩
  intro p l e R s m args below meth c cells slots Q D cy ad H locs ls hF hV hP hS hL hret
  exact va_gets hF.1 hF.2.1 hV.2.2.1 hS hF.2.2.2.1 (hF.2.2.2.2.1 _ hl) (fun x h => h) d (kk.2 p l e R s m args below meth c cells slots Q D cy ad H locs ls hF hV hP hS hL hret)
theorem gr_letter {α : Type} {K : Int32 → Option α} {v : α} {i : Int32} (d : decode cc pc = .ok (.iaload, 1)) (h : gn_rl i K = some v) (kk : vp_in i 6 → K (gn_let i.toNatClampNeg) = some v → gn_Go own cc nL F Lc rt xo (pc + 1) lv (.int (gn_let i.toNatClampNeg) :: rest) σ ρ σf) : gn_Go own cc nL F Lc rt xo pc lv (.int i :: .ref 100 :: rest) σ ρ σf := by
  unfold gn_rl at h
  split at h
  · cases h
  · next hin =>
    have kk := kk hin h
    refine ⟨kk.1, ?_⟩
    intro p l e R s m args below meth c cells slots Q D cy ad H locs ls hF hV hP hS hL hret
    exact va_ti hF.1 hF.2.1 hV.2.2.2.1 hS hin rfl d (kk.2 p l e R s m args below meth c cells slots Q D cy ad H locs ls hF hV hP hS hL hret)
theorem gr_script {α : Type} {K : Int32 → Option α} {v : α} {L : Nat} {xs : Nat → Int32} {i : Int32} (d : decode cc pc = .ok (.iaload, 1)) (h : gn_rx L xs i K = some v) (kk : vp_in i L → K (xs i.toNatClampNeg) = some v → gn_Go own cc nL F Lc rt (some (L, xs)) (pc + 1) lv (.int (xs i.toNatClampNeg) :: rest) σ ρ σf) : gn_Go own cc nL F Lc rt (some (L, xs)) pc lv (.int i :: .ref 101 :: rest) σ ρ σf := by
  unfold gn_rx at h
  split at h
  · cases h
  · next hin =>
    have kk := kk hin h
    refine ⟨kk.1, ?_⟩
    intro p l e R s m args below meth c cells slots Q D cy ad H locs ls hF hV hP hS hL hret
    obtain ⟨hX, hb, hn⟩ := hV.2.2.2.2.2
    exact va_sld hF.1 hF.2.1 hX hb hn hS hin d (kk.2 p l e R s m args below meth c cells slots Q D cy ad H locs ls hF hV hP hS hL hret)
theorem gr_scriptLen {L : Nat} {xs : Nat → Int32} (d : decode cc pc = .ok (.arraylength, 1)) (kk : gn_Go own cc nL F Lc rt (some (L, xs)) (pc + 1) lv (.int (Int32.ofNat L) :: rest) σ ρ σf) : gn_Go own cc nL F Lc rt (some (L, xs)) pc lv (.ref 101 :: rest) σ ρ σf := by
  refine ⟨kk.1, ?_⟩
  intro p l e R s m args below meth c cells slots Q D cy ad H locs ls hF hV hP hS hL hret
  obtain ⟨hX, hb, hn⟩ := hV.2.2.2.2.2
  exact va_slen hF.1 hF.2.1 hX hb hn hS d (kk.2 p l e R s m args below meth c cells slots Q D cy ad H locs ls hF hV hP hS hL hret)
theorem gr_copy {α : Type} {K : gn_M → Option α} {v : α} {idx k0 n0 k1 n1 : Nat} {sp dp n : Int32} (hs0 : gn_S[k0]? = some (.inl (0, n0))) (hs1 : gn_S[k1]? = some (.inl (0, n1))) (hl : Cond.methodLink own idx arraycopyName ∈ gn_T) (hw : Cond.native arraycopyName ∈ gn_T ∧ Cond.static arraycopyName ∈ gn_T ∧ Cond.initialized "java/lang/System" ∈ gn_T) (hR : 1 ≤ F ∧ (rest.map fun v => v.category).sum + 18 ≤ Lc) (d : decode cc pc = .ok (.invokestatic idx, 3)) (h : gn_ac σ k0 n0 sp k1 n1 dp n K = some v)
    (kk : K (gn_cp σ k0 sp.toNatClampNeg k1 dp.toNatClampNeg n.toNatClampNeg) = some v → gn_Go own cc nL F Lc rt xo (pc + 3) lv rest (gn_cp σ k0 sp.toNatClampNeg k1 dp.toNatClampNeg n.toNatClampNeg) ρ σf) : gn_Go own cc nL F Lc rt xo pc lv (.int n :: .int dp :: .ref k1 :: .int sp :: .ref k0 :: rest) σ ρ σf := by
  unfold gn_ac at h
  split at h
  · cases h
  · next hin =>
    have kk := kk h
    refine ⟨kk.1, ?_⟩
    intro p l e R s m args below meth c cells slots Q D cy ad H locs ls hF hV hP hS hL hret
    obtain ⟨hx, hb, hml, hown, hts, hfr, hlo, -, -⟩ := id hF
    refine va_copyi hx hb (hml.trans hL.1.symm) hown (hts _ hl) (hts _ hw.1) (hts _ hw.2.1) (hts _ hw.2.2) hV.2.1 hP (gn_D hV.2.2.2.2.1) hS k0 k1 0 0 (gn_W_at hs0) (gn_W_at hs1) rfl rfl rfl (fun q => hin (Or.inl q)) (fun q => hin (Or.inr (Or.inl q))) (fun q => hin (Or.inr (Or.inr (Or.inl q)))) (Nat.not_lt.mp (fun q => hin (Or.inr (Or.inr (Or.inr (Or.inl q)))))) (Nat.not_lt.mp (fun q => hin (Or.inr (Or.inr (Or.inr (Or.inr q)))))) (fun i _ => rfl) (Nat.le_trans hR.1 hfr) ?_ d (fun H1 locs1 hP1 _ hS1 => ?_)
    · refine Nat.le_trans ?_ (Nat.le_trans hR.2 hlo)
      have e1 : (List.map (gn_tr ad) rest).map (fun v => v.category) = rest.map (fun v => v.category) := by rw [List.map_map]; exact List.map_congr_left (fun v _ => gn_tr_cat ad v)
      rw [e1]
      exact Nat.le_refl _
    · rw [← gn_cp_s] at hP1
      have hP1 : va_P D vwCl ((gn_W cy ad σ).set k1 (ad k1, gn_E cy ad (gn_cp σ k0 sp.toNatClampNeg k1 dp.toNatClampNeg n.toNatClampNeg) k1 (.inl (0, n1)))) H1 := hP1
      rw [gn_W_set hs1 (fun j hj => gn_cp_1 hj) (fun _ _ => rfl)] at hP1
      exact kk.2 p l e R s m args below meth c cells slots Q D cy ad H1 locs1 ls hF hV hP1 hS1 hL hret
/-- behind a call -/
theorem gn_back {p : Program} {l : Launch} {e : Env} {R : Room} {s : State} {m : MethodId} {args : Array Value} {below : List Frame} {meth : Method} {c : Code} {cells slots : Nat} {Q : State → Prop} {D : va_G} {cy : Nat → ClassId} {ad : Nat → Nat} {H : Heap} {locs : List Loc} {ls : Array Slot} {st0 rest0 : List Value} {ρ' : Option Value} {σ' : gn_M} (hr : va_Run p l e R s m args below meth c H locs cells slots 0 0 (F0 m pc ls st0) rest0 (fun st o t => o = .returned ρ' ∧ va_P D vwCl (gn_W cy ad σ') t.heap ∧ va_F (gn_A ad) st t) (gn_A ad)) (hS : va_S (gn_A ad) s.heap H locs)
    (kk : ∀ (H1 : Heap) (locs1 : List Loc), va_P D vwCl (gn_W cy ad σ') H1 → va_S (gn_A ad) s.heap H1 locs1 → W p l e R s m args below meth c H1 locs1 cells slots Q (F0 m (pc + 3) ls (ρ'.toList ++ rest0))) : W p l e R s m args below meth c H locs cells slots Q (F0 m pc ls st0) := by
  intro T hT X
  obtain ⟨v, st₀, t, T', L, h0, X', hL, e1, e2, ⟨hv, hP, hz, hk⟩, st⟩ := hr T hT X
  cases hv
  rw [h0] at hz hk
  obtain ⟨t2, a1, b1⟩ := kk T'.heap (locs ++ L) (by rw [e1]; exact hP)
    ⟨Nat.le_trans hS.1 (by rw [e1]; exact hz), fun q h1 h2 => by rw [e1, hk q (Nat.lt_of_lt_of_le h1 hS.1) h2]; exact hS.2.1 q h1 h2, fun q hq => by
      rcases List.mem_append.mp hq with h | h
      · exact hS.2.2 q h
      · exact hL q h⟩ T' rfl X'
  exact ⟨t2, st t2 a1, b1⟩
theorem gn_sum (ad : Nat → Nat) (rest : List Value) : ((rest.map (gn_tr ad)).map fun v => v.category).sum = (rest.map fun v => v.category).sum := by
  rw [List.map_map]
  exact congrArg List.sum (List.map_congr_left (fun v _ => gn_tr_cat ad v))
theorem gn_map_rev (ad : Nat → Nat) (As rest : List Value) : (As.reverse ++ rest).map (gn_tr ad) = (As.map (gn_tr ad)).reverse ++ rest.map (gn_tr ad) := by rw [List.map_append, List.map_reverse]
theorem gr_callV {idx k n F1 L1 maxL : Nat} {y : MethodName} {c1 : ByteArray} {ret : Option FieldType} {As : List Value} {ρ' : Option Value} {σ' : gn_M} (hM : gn_Cl y c1 maxL ret F1 L1 (.ref k :: As) σ ρ' σ') (hy : gn_My y c1 maxL ret n) (hv : gn_Mv y) (hk : gn_Ob k y.cls) (hl : Cond.methodLink own idx y ∈ gn_T) (hst : st = As.reverse ++ .ref k :: rest) (hn : As.length = n) (hR : F1 + 1 ≤ F ∧ 8 + (maxL + 11) + L1 ≤ Lc) (hr : (rest.map fun v => v.category).sum ≤ 8) (d : decode cc pc = .ok (.invokevirtual idx, 3))
    (kk : gn_fit ret ρ' → gn_Go own cc nL F Lc rt xo (pc + 3) lv (ρ'.toList ++ rest) σ' ρ σf) : gn_Go own cc nL F Lc rt xo pc lv st σ ρ σf := by
  have kk := kk hM.1
  subst hst
  refine ⟨kk.1, ?_⟩
  intro p l e R s m args below meth c cells slots Q D cy ad H locs ls hF hV hP hS hL hret
  obtain ⟨hx, hb, hml, hown, hts, hfr, hlo, hce, hsl⟩ := id hF
  obtain ⟨ci, fs, T, N, hsk, hck⟩ := hk
  refine gn_back (ρ' := ρ'.map (gn_tr ad)) (rest0 := rest.map (gn_tr ad)) (va_runV (As := As.map (gn_tr ad)) (rest := rest.map (gn_tr ad)) (b := ad k) (C := y.cls) (nL := nL) (Ts := gn_T) (n := n) ⟨hx, hb, hml, hown, hts⟩ (hM.2 l D cy ad) (cwV n hts (gn_GI (fun w hw => ?_)) rfl rfl rfl ⟨rfl, hy.2.2⟩ ⟨Nat.le_trans hR.1 hfr, Nat.le_trans hR.2 hlo⟩) ⟨fun a U g mk q => ⟨q.1, q.2.1.blind, q.2.2⟩, va_recv hV.2.1 hP hck (gn_W_at hsk), fun U hU hW => ⟨rfl, hV.to hW (fun q h1 h2 => by rw [hU]; exact hS.2.1 q h1 h2), by rw [hU]; exact hP⟩⟩ rfl (by rw [List.length_map]; exact hn) hL.1 (by rw [gn_map_rev]; rfl) (lv_room (by rw [gn_sum]; exact hr)) d ⟨hce, hsl⟩) hS (fun H1 locs1 hP1 hS1 => ?_)
  · rcases List.mem_append.mp hw with h | h
    · simp only [List.mem_cons, List.not_mem_nil, or_false] at h
      rcases h with rfl | rfl | rfl | rfl
      · exact hl
      · exact hv.1
      · exact hv.2
      · exact hy.2.1
    · rcases List.mem_cons.mp h with rfl | h
      · exact hy.1
      · exact h
  · have k2 := kk.2 p l e R s m args below meth c cells slots Q D cy ad H1 locs1 ls hF hV hP1 hS1 hL hret
    rw [List.map_append] at k2
    cases ρ' <;> exact k2
theorem gr_callVN {idx k n F1 L1 maxL : Nat} {y : MethodName} {host : String} {c1 : ByteArray} {ret : Option FieldType} {As : List Value} {ρ' : Option Value} {σ' : gn_M} (hM : gn_Cl y c1 maxL ret F1 L1 (.ref k :: As) σ ρ' σ') (hy : gn_My y c1 maxL ret n) (hv : gn_Mv y) (hk : gn_Ob k y.cls) (hl : Cond.methodLinkNest own idx y host ∈ gn_N) (hst : st = As.reverse ++ .ref k :: rest) (hn : As.length = n) (hR : F1 + 1 ≤ F ∧ 8 + (maxL + 11) + L1 ≤ Lc) (hr : (rest.map fun v => v.category).sum ≤ 8) (d : decode cc pc = .ok (.invokevirtual idx, 3))
    (kk : gn_fit ret ρ' → gn_Go own cc nL F Lc rt xo (pc + 3) lv (ρ'.toList ++ rest) σ' ρ σf) : gn_Go own cc nL F Lc rt xo pc lv st σ ρ σf := by
  have kk := kk hM.1
  subst hst
  refine ⟨kk.1, ?_⟩
  intro p l e R s m args below meth c cells slots Q D cy ad H locs ls hF hV hP hS hL hret
  obtain ⟨hx, hb, hml, hown, hts, hfr, hlo, hce, hsl⟩ := id hF
  obtain ⟨ci, fs, T, N, hsk, hck⟩ := hk
  refine gn_back (ρ' := ρ'.map (gn_tr ad)) (rest0 := rest.map (gn_tr ad)) (va_runVN (As := As.map (gn_tr ad)) (rest := rest.map (gn_tr ad)) (b := ad k) (C := y.cls) (nL := nL) (Ts := gn_T) (n := n) ⟨hx, hb, hml, hown, hts⟩ (hM.2 l D cy ad) ⟨va_cnB n hts (gn_T_good (fun w h => h) hy.1) rfl rfl rfl (hV.1 _ hl) (hts _ hy.2.1) hy.2.2 ⟨Nat.le_trans hR.1 hfr, Nat.le_trans hR.2 hlo⟩, hts _ hv.1, hts _ hv.2⟩ ⟨fun a U g mk q => ⟨q.1, q.2.1.blind, q.2.2⟩, va_recv hV.2.1 hP hck (gn_W_at hsk), fun U hU hW => ⟨rfl, hV.to hW (fun q h1 h2 => by rw [hU]; exact hS.2.1 q h1 h2), by rw [hU]; exact hP⟩⟩ rfl (by rw [List.length_map]; exact hn) hL.1 (by rw [gn_map_rev]; rfl) (lv_room (by rw [gn_sum]; exact hr)) d ⟨hce, hsl⟩) hS (fun H1 locs1 hP1 hS1 => ?_)
  have k2 := kk.2 p l e R s m args below meth c cells slots Q D cy ad H1 locs1 ls hF hV hP1 hS1 hL hret
  rw [List.map_append] at k2
  cases ρ' <;> exact k2
theorem gr_callS {idx n F1 L1 maxL : Nat} {y : MethodName} {c1 : ByteArray} {ret : Option FieldType} {As : List Value} {ρ' : Option Value} {σ' : gn_M} (hM : gn_Cl y c1 maxL ret F1 L1 As σ ρ' σ') (hy : gn_My y c1 maxL ret n) (hv : Cond.static y ∈ gn_T) (hl : Cond.methodLink own idx y ∈ gn_T) (hst : st = As.reverse ++ rest) (hn : As.length = n) (hR : F1 + 1 ≤ F ∧ 8 + (maxL + 11) + L1 ≤ Lc) (hr : (rest.map fun v => v.category).sum ≤ 8) (d : decode cc pc = .ok (.invokestatic idx, 3))
    (kk : gn_fit ret ρ' → gn_Go own cc nL F Lc rt xo (pc + 3) lv (ρ'.toList ++ rest) σ' ρ σf) : gn_Go own cc nL F Lc rt xo pc lv st σ ρ σf := by
  have kk := kk hM.1
  subst hst
  refine ⟨kk.1, ?_⟩
  intro p l e R s m args below meth c cells slots Q D cy ad H locs ls hF hV hP hS hL hret
  obtain ⟨hx, hb, hml, hown, hts, hfr, hlo, hce, hsl⟩ := id hF
  refine gn_back (ρ' := ρ'.map (gn_tr ad)) (rest0 := rest.map (gn_tr ad)) (va_runS (As := As.map (gn_tr ad)) (rest := rest.map (gn_tr ad)) (nL := nL) (Ts := gn_T) (n := n) ⟨hx, hb, hml, hown, hts⟩ (hM.2 l D cy ad) (va_cwS n hts (gn_GI (fun w hw => ?_)) rfl rfl rfl hy.2.2 ⟨Nat.le_trans hR.1 hfr, Nat.le_trans hR.2 hlo⟩) ⟨fun a U g mk q => ⟨q.1, q.2.1.blind, q.2.2⟩, fun U hU hW => ⟨rfl, hV.to hW (fun q h1 h2 => by rw [hU]; exact hS.2.1 q h1 h2), by rw [hU]; exact hP⟩⟩ rfl (by rw [List.length_map]; exact hn) hL.1 (by rw [gn_map_rev]) (lv_room (by rw [gn_sum]; exact hr)) d ⟨hce, hsl⟩) hS (fun H1 locs1 hP1 hS1 => ?_)
  · rcases List.mem_append.mp hw with h | h
    · simp only [List.mem_cons, List.not_mem_nil, or_false] at h
      rcases h with rfl | rfl | rfl
      · exact hl
      · exact hv
      · exact hy.2.1
    · rcases List.mem_cons.mp h with rfl | h
      · exact hy.1
      · exact h
  · have k2 := kk.2 p l e R s m args below meth c cells slots Q D cy ad H1 locs1 ls hF hV hP1 hS1 hL hret
    rw [List.map_append] at k2
    cases ρ' <;> exact k2
theorem gr_callSN {idx n F1 L1 maxL : Nat} {y : MethodName} {host : String} {c1 : ByteArray} {ret : Option FieldType} {As : List Value} {ρ' : Option Value} {σ' : gn_M} (hM : gn_Cl y c1 maxL ret F1 L1 As σ ρ' σ') (hy : gn_My y c1 maxL ret n) (hv : Cond.static y ∈ gn_T) (hl : Cond.methodLinkNest own idx y host ∈ gn_N) (hst : st = As.reverse ++ rest) (hn : As.length = n) (hR : F1 + 1 ≤ F ∧ 8 + (maxL + 11) + L1 ≤ Lc) (hr : (rest.map fun v => v.category).sum ≤ 8) (d : decode cc pc = .ok (.invokestatic idx, 3))
    (kk : gn_fit ret ρ' → gn_Go own cc nL F Lc rt xo (pc + 3) lv (ρ'.toList ++ rest) σ' ρ σf) : gn_Go own cc nL F Lc rt xo pc lv st σ ρ σf := by
  have kk := kk hM.1
  subst hst
  refine ⟨kk.1, ?_⟩
  intro p l e R s m args below meth c cells slots Q D cy ad H locs ls hF hV hP hS hL hret
  obtain ⟨hx, hb, hml, hown, hts, hfr, hlo, hce, hsl⟩ := id hF
  refine gn_back (ρ' := ρ'.map (gn_tr ad)) (rest0 := rest.map (gn_tr ad)) (va_runSN (As := As.map (gn_tr ad)) (rest := rest.map (gn_tr ad)) (nL := nL) (Ts := gn_T) (n := n) ⟨hx, hb, hml, hown, hts⟩ (hM.2 l D cy ad) ⟨va_cnB n hts (gn_T_good (fun w h => h) hy.1) rfl rfl rfl (hV.1 _ hl) (hts _ hy.2.1) hy.2.2 ⟨Nat.le_trans hR.1 hfr, Nat.le_trans hR.2 hlo⟩, hts _ hv, trivial⟩ ⟨fun a U g mk q => ⟨q.1, q.2.1.blind, q.2.2⟩, fun U hU hW => ⟨rfl, hV.to hW (fun q h1 h2 => by rw [hU]; exact hS.2.1 q h1 h2), by rw [hU]; exact hP⟩⟩ rfl (by rw [List.length_map]; exact hn) hL.1 (by rw [gn_map_rev]) (lv_room (by rw [gn_sum]; exact hr)) d ⟨hce, hsl⟩) hS (fun H1 locs1 hP1 hS1 => ?_)
  have k2 := kk.2 p l e R s m args below meth c cells slots Q D cy ad H1 locs1 ls hF hV hP1 hS1 hL hret
  rw [List.map_append] at k2
  cases ρ' <;> exact k2
end GNM
end
section
/-! THE ROWS AS THE WALKS USE THEM: what is read, the memory behind a write, get a name -/
def gn_pf {α : Type} (σ : gn_M) (k j : Nat) (x : Int32) (K : gn_M → Option α) : Option α := K (gn_up σ k j x)
def gn_pfL {α : Type} (σ : gn_M) (k j : Nat) (x : Int64) (K : gn_M → Option α) : Option α := K (gn_upL σ k j x)
def gn_nm {α β : Type} (e : α) (K : α → Option β) : Option β := K e
def gn_wk (mask : List Bool) (lv : List (Option Value)) : List (Option Value) := List.zipWith (fun (b : Bool) (o : Option Value) => match b with | true => o | false => none) mask lv
theorem gn_wk_in : ∀ (mask : List Bool) (lv : List (Option Value)) (i : Nat) (v : Value), (gn_wk mask lv)[i]? = some (some v) → lv[i]? = some (some v)
  | [], lv, i, v, h => by simp [gn_wk] at h
  | b :: mask, [], i, v, h => by simp [gn_wk] at h
  | b :: mask, o :: lv, 0, v, h => by
    cases b with
    | true => exact h
    | false => simp [gn_wk] at h
  | b :: mask, o :: lv, i + 1, v, h => gn_wk_in mask lv i v h
theorem gn_sw {α : Type} {A B : Option α} {v : α} {x z : Int32} {G : Prop} (h : (if x = z then A else B) = some v) (kt : x = z → A = some v → G) (kf : ¬ x = z → B = some v → G) : G := by
  by_cases hc : x = z
  · rw [if_pos hc] at h; exact kt hc h
  · rw [if_neg hc] at h; exact kf hc h
theorem gn_out {x : Int32} (n : Nat) (lo : Int) (h : ∀ j : Nat, j < n → ¬ x = Int32.ofInt (lo + j)) : x.toInt < lo ∨ lo + n ≤ x.toInt := by
  by_cases h1 : x.toInt < lo
  · exact Or.inl h1
  · by_cases h2 : lo + n ≤ x.toInt
    · exact Or.inr h2
    · exfalso
      refine h (x.toInt - lo).toNat (by omega) ?_
      have e : lo + ((x.toInt - lo).toNat : Int) = x.toInt := by omega
      rw [e, Int32.ofInt_toInt]
section GNQ
variable {own : String} {cc : ByteArray} {nL F Lc : Nat} {rt : Option FieldType} {xo : Option (Nat × (Nat → Int32))} {pc : Nat} {lv lv' : List (Option Value)} {st rest : List Value} {σ : gn_M} {ρ : Option Value} {σf : gn_M} {α : Type} {v : α}
theorem gn_wkn (mask : List Bool) (hw : gn_wk mask lv = lv') (k : gn_Go own cc nL F Lc rt xo pc lv' st σ ρ σf) : gn_Go own cc nL F Lc rt xo pc lv st σ ρ σf := by
  refine ⟨k.1, ?_⟩
  intro p l e R s m args below meth c cells slots Q D cy ad H locs ls hF hV hP hS hL hret
  exact k.2 p l e R s m args below meth c cells slots Q D cy ad H locs ls hF hV hP hS ⟨hL.1, hL.2.1, fun i w h => hL.2.2 i w (gn_wk_in mask lv i w (by rw [hw]; exact h))⟩ hret
theorem gq_iaload {K : Int32 → Option α} {k n : Nat} {i : Int32} (hs : gn_S[k]? = some (.inl (0, n))) (d : decode cc pc = .ok (.iaload, 1)) (h : gn_rd σ k n i K = some v) (kk : ∀ x, K x = some v → gn_Go own cc nL F Lc rt xo (pc + 1) lv (.int x :: rest) σ ρ σf) : gn_Go own cc nL F Lc rt xo pc lv (.int i :: .ref k :: rest) σ ρ σf := gr_iaload hs d h (fun _ h => kk _ h)
theorem gq_baload {K : Int32 → Option α} {k n : Nat} {i : Int32} (hs : gn_S[k]? = some (.inl (1, n))) (d : decode cc pc = .ok (.baload, 1)) (h : gn_rd σ k n i K = some v) (kk : ∀ x, K x = some v → gn_Go own cc nL F Lc rt xo (pc + 1) lv (.int x :: rest) σ ρ σf) : gn_Go own cc nL F Lc rt xo pc lv (.int i :: .ref k :: rest) σ ρ σf := gr_baload hs d h (fun _ h => kk _ h)
theorem gq_zaload {K : Int32 → Option α} {k n : Nat} {i : Int32} (hs : gn_S[k]? = some (.inl (2, n))) (d : decode cc pc = .ok (.baload, 1)) (h : gn_rd σ k n i K = some v) (kk : ∀ x, K x = some v → gn_Go own cc nL F Lc rt xo (pc + 1) lv (.int x :: rest) σ ρ σf) : gn_Go own cc nL F Lc rt xo pc lv (.int i :: .ref k :: rest) σ ρ σf := gr_zaload hs d h (fun _ h => kk _ h)
theorem gq_iastore {K : gn_M → Option α} {k n : Nat} {i x : Int32} (hs : gn_S[k]? = some (.inl (0, n))) (d : decode cc pc = .ok (.iastore, 1)) (h : gn_wr σ k n i x K = some v) (kk : ∀ σ', K σ' = some v → gn_Go own cc nL F Lc rt xo (pc + 1) lv rest σ' ρ σf) : gn_Go own cc nL F Lc rt xo pc lv (.int x :: .int i :: .ref k :: rest) σ ρ σf := gr_iastore hs d h (fun _ h => kk _ h)
theorem gq_bastore {K : gn_M → Option α} {k n : Nat} {i x : Int32} (hs : gn_S[k]? = some (.inl (1, n))) (d : decode cc pc = .ok (.bastore, 1)) (h : gn_wr σ k n i (vp_nar .byte x) K = some v) (kk : ∀ σ', K σ' = some v → gn_Go own cc nL F Lc rt xo (pc + 1) lv rest σ' ρ σf) : gn_Go own cc nL F Lc rt xo pc lv (.int x :: .int i :: .ref k :: rest) σ ρ σf := gr_bastore hs d h (fun _ h => kk _ h)
theorem gq_zastore {K : gn_M → Option α} {k n : Nat} {i x : Int32} (hs : gn_S[k]? = some (.inl (2, n))) (d : decode cc pc = .ok (.bastore, 1)) (h : gn_wr σ k n i (vp_nar .boolean x) K = some v) (kk : ∀ σ', K σ' = some v → gn_Go own cc nL F Lc rt xo (pc + 1) lv rest σ' ρ σf) : gn_Go own cc nL F Lc rt xo pc lv (.int x :: .int i :: .ref k :: rest) σ ρ σf := gr_zastore hs d h (fun _ h => kk _ h)
theorem gq_aaload {K : Nat → Option α} {k B n : Nat} {ts : List Nat} {i : Int32} {c : gn_Sh} (hs : gn_S[k]? = some (.inr (.inl ts)) ∧ ts.length = n ∧ (∀ j, j < n → ts[j]? = some (B + j)) ∧ ∀ j, j < n → gn_S[B + j]? = some c) (d : decode cc pc = .ok (.aaload, 1)) (h : gn_ra B n i K = some v) (kk : ∀ x, gn_S[x]? = some c → K x = some v → gn_Go own cc nL F Lc rt xo (pc + 1) lv (.ref x :: rest) σ ρ σf) : gn_Go own cc nL F Lc rt xo pc lv (.int i :: .ref k :: rest) σ ρ σf := gr_aaload hs.1 hs.2.1 hs.2.2.1 d h (fun hin h => kk _ (hs.2.2.2 _ (Nat.not_le.mp fun q => hin (Or.inr q))) h)
theorem gq_letter {K : Int32 → Option α} {i : Int32} (d : decode cc pc = .ok (.iaload, 1)) (h : gn_rl i K = some v) (kk : ∀ x, K x = some v → gn_Go own cc nL F Lc rt xo (pc + 1) lv (.int x :: rest) σ ρ σf) : gn_Go own cc nL F Lc rt xo pc lv (.int i :: .ref 100 :: rest) σ ρ σf := gr_letter d h (fun _ h => kk _ h)
theorem gq_script {K : Int32 → Option α} {L : Nat} {xs : Nat → Int32} {i : Int32} (d : decode cc pc = .ok (.iaload, 1)) (h : gn_rx L xs i K = some v) (kk : ∀ x, K x = some v → gn_Go own cc nL F Lc rt (some (L, xs)) (pc + 1) lv (.int x :: rest) σ ρ σf) : gn_Go own cc nL F Lc rt (some (L, xs)) pc lv (.int i :: .ref 101 :: rest) σ ρ σf := gr_script d h (fun _ h => kk _ h)
theorem gq_copy {K : gn_M → Option α} {idx k0 n0 k1 n1 : Nat} {sp dp n : Int32} (hs0 : gn_S[k0]? = some (.inl (0, n0))) (hs1 : gn_S[k1]? = some (.inl (0, n1))) (hl : Cond.methodLink own idx arraycopyName ∈ gn_T) (hw : Cond.native arraycopyName ∈ gn_T ∧ Cond.static arraycopyName ∈ gn_T ∧ Cond.initialized "java/lang/System" ∈ gn_T) (hR : 1 ≤ F ∧ (rest.map fun v => v.category).sum + 18 ≤ Lc) (d : decode cc pc = .ok (.invokestatic idx, 3)) (h : gn_ac σ k0 n0 sp k1 n1 dp n K = some v) (kk : ∀ σ', K σ' = some v → gn_Go own cc nL F Lc rt xo (pc + 3) lv rest σ' ρ σf) : gn_Go own cc nL F Lc rt xo pc lv (.int n :: .int dp :: .ref k1 :: .int sp :: .ref k0 :: rest) σ ρ σf := gr_copy hs0 hs1 hl hw hR d h (fun h => kk _ h)
theorem gq_putI {K : gn_M → Option α} {k ci j idx : Nat} {C : String} {T : u_T} {N : Nat} {ty0 : Nat → FieldType} {x : Int32} (q : gn_Fd k ci j (.inr false) C T N ty0) (hf : (T j).2.2.2 = false) (ht : ty0 j = .int) (hl : Cond.fieldLink own idx C (T j).2.1 (T j).2.2.1 ∈ gn_T) (d : decode cc pc = .ok (.putfield idx, 3)) (h : gn_pf σ k j x K = some v) (kk : ∀ σ', K σ' = some v → gn_Go own cc nL F Lc rt xo (pc + 3) lv rest σ' ρ σf) : gn_Go own cc nL F Lc rt xo pc lv (.int x :: .ref k :: rest) σ ρ σf := gr_putI q hf ht hl d (kk _ h)
theorem gq_putL {K : gn_M → Option α} {k ci j idx : Nat} {C : String} {T : u_T} {N : Nat} {ty0 : Nat → FieldType} {x : Int64} (q : gn_Fd k ci j (.inr true) C T N ty0) (hf : (T j).2.2.2 = false) (ht : ty0 j = .long) (hl : Cond.fieldLink own idx C (T j).2.1 (T j).2.2.1 ∈ gn_T) (d : decode cc pc = .ok (.putfield idx, 3)) (h : gn_pfL σ k j x K = some v) (kk : ∀ σ', K σ' = some v → gn_Go own cc nL F Lc rt xo (pc + 3) lv rest σ' ρ σf) : gn_Go own cc nL F Lc rt xo pc lv (.long x :: .ref k :: rest) σ ρ σf := gr_putL q hf ht hl d (kk _ h)
theorem gq_putIN {K : gn_M → Option α} {k ci j idx : Nat} {C : String} {host : String} {T : u_T} {N : Nat} {ty0 : Nat → FieldType} {x : Int32} (q : gn_Fd k ci j (.inr false) C T N ty0) (hf : (T j).2.2.2 = false) (ht : ty0 j = .int) (hl : Cond.fieldLinkNest own idx C (T j).2.1 (T j).2.2.1 host ∈ gn_N) (d : decode cc pc = .ok (.putfield idx, 3)) (h : gn_pf σ k j x K = some v) (kk : ∀ σ', K σ' = some v → gn_Go own cc nL F Lc rt xo (pc + 3) lv rest σ' ρ σf) : gn_Go own cc nL F Lc rt xo pc lv (.int x :: .ref k :: rest) σ ρ σf := gr_putIN q hf ht hl d (kk _ h)
theorem gq_idiv {K : Option α} {x y : Int32} (d : decode cc pc = .ok (.idiv, 1)) (h : gn_dv y K = some v) (kk : K = some v → gn_Go own cc nL F Lc rt xo (pc + 1) lv (.int (x / y) :: rest) σ ρ σf) : gn_Go own cc nL F Lc rt xo pc lv (.int y :: .int x :: rest) σ ρ σf := by
  unfold gn_dv at h
  split at h
  · cases h
  · next hy => exact gr_idiv d hy (kk h)
theorem gq_irem {K : Option α} {x y : Int32} (d : decode cc pc = .ok (.irem, 1)) (h : gn_dv y K = some v) (kk : K = some v → gn_Go own cc nL F Lc rt xo (pc + 1) lv (.int (x - x / y * y) :: rest) σ ρ σf) : gn_Go own cc nL F Lc rt xo pc lv (.int y :: .int x :: rest) σ ρ σf := by
  unfold gn_dv at h
  split at h
  · cases h
  · next hy => exact gr_irem d hy (kk h)
theorem gq_ldiv {K : Option α} {x y : Int64} (d : decode cc pc = .ok (.ldiv, 1)) (h : gn_dvL y K = some v) (kk : K = some v → gn_Go own cc nL F Lc rt xo (pc + 1) lv (.long (x / y) :: rest) σ ρ σf) : gn_Go own cc nL F Lc rt xo pc lv (.long y :: .long x :: rest) σ ρ σf := by
  unfold gn_dvL at h
  split at h
  · cases h
  · next hy => exact gr_ldiv d hy (kk h)
theorem gq_lrem {K : Option α} {x y : Int64} (d : decode cc pc = .ok (.lrem, 1)) (h : gn_dvL y K = some v) (kk : K = some v → gn_Go own cc nL F Lc rt xo (pc + 1) lv (.long (x - x / y * y) :: rest) σ ρ σf) : gn_Go own cc nL F Lc rt xo pc lv (.long y :: .long x :: rest) σ ρ σf := by
  unfold gn_dvL at h
  split at h
  · cases h
  · next hy => exact gr_lrem d hy (kk h)
theorem gq_istore_n {K : Int32 → Option α} {lf : Int32 → List (Option Value)} {i : Fin 4} {j : Nat} {e : Int32} (d : decode cc pc = .ok (.istore_n i, 1)) (h : gn_nm e K = some v) (hi : (i : Nat) = j) (hn : j < nL) (hl : ∀ x, gn_put1 j (.int x) lv = lf x) (kk : ∀ x, K x = some v → gn_Go own cc nL F Lc rt xo (pc + 1) (lf x) rest σ ρ σf) : gn_Go own cc nL F Lc rt xo pc lv (.int e :: rest) σ ρ σf := gr_istore_n d hi hn (hl e) (kk e h)
theorem gq_retI {x w : Int32} (d : decode cc pc = .ok (.ireturn, 1)) (hf : gn_fit rt (some (.int x))) (h : some x = some w) : gn_Go own cc nL F Lc rt xo pc lv [.int x] σ (some (.int w)) σ := by cases h; exact gr_ret d hf rfl rfl
theorem gq_retL {x w : Int64} (d : decode cc pc = .ok (.lreturn, 1)) (hf : gn_fit rt (some (.long x))) (h : some x = some w) : gn_Go own cc nL F Lc rt xo pc lv [.long x] σ (some (.long w)) σ := by cases h; exact gr_ret d hf rfl rfl
theorem gq_retIM {x : Int32} {w : Int32 × gn_M} (d : decode cc pc = .ok (.ireturn, 1)) (hf : gn_fit rt (some (.int x))) (h : some (x, σ) = some w) : gn_Go own cc nL F Lc rt xo pc lv [.int x] σ (some (.int w.1)) w.2 := by cases h; exact gr_ret d hf rfl rfl
theorem gq_retLM {x : Int64} {w : Int64 × gn_M} (d : decode cc pc = .ok (.lreturn, 1)) (hf : gn_fit rt (some (.long x))) (h : some (x, σ) = some w) : gn_Go own cc nL F Lc rt xo pc lv [.long x] σ (some (.long w.1)) w.2 := by cases h; exact gr_ret d hf rfl rfl
theorem gq_retVM {w : gn_M} (d : decode cc pc = .ok (.return_, 1)) (hf : gn_fit rt none) (h : some σ = some w) : gn_Go own cc nL F Lc rt xo pc lv [] σ none w := by cases h; exact gr_ret d hf rfl rfl
theorem gc_VI {idx k n F1 L1 maxL : Nat} {y : MethodName} {c1 : ByteArray} {ret : Option FieldType} {As : List Value} {r : Int32} {σ' : gn_M} (hM : gn_Cl y c1 maxL ret F1 L1 (.ref k :: As) σ (some (.int r)) σ') (hy : gn_My y c1 maxL ret n) (hv : gn_Mv y) (hk : gn_Ob k y.cls) (hl : Cond.methodLink own idx y ∈ gn_T) (hst : st = As.reverse ++ .ref k :: rest) (hn : As.length = n) (hR : F1 + 1 ≤ F ∧ 8 + (maxL + 11) + L1 ≤ Lc) (hr : (rest.map fun v => v.category).sum ≤ 8) (d : decode cc pc = .ok (.invokevirtual idx, 3)) (kk : gn_fit ret (some (.int r)) → gn_Go own cc nL F Lc rt xo (pc + 3) lv (.int r :: rest) σ' ρ σf) : gn_Go own cc nL F Lc rt xo pc lv st σ ρ σf := gr_callV hM hy hv hk hl hst hn hR hr d kk
theorem gc_VL {idx k n F1 L1 maxL : Nat} {y : MethodName} {c1 : ByteArray} {ret : Option FieldType} {As : List Value} {r : Int64} {σ' : gn_M} (hM : gn_Cl y c1 maxL ret F1 L1 (.ref k :: As) σ (some (.long r)) σ') (hy : gn_My y c1 maxL ret n) (hv : gn_Mv y) (hk : gn_Ob k y.cls) (hl : Cond.methodLink own idx y ∈ gn_T) (hst : st = As.reverse ++ .ref k :: rest) (hn : As.length = n) (hR : F1 + 1 ≤ F ∧ 8 + (maxL + 11) + L1 ≤ Lc) (hr : (rest.map fun v => v.category).sum ≤ 8) (d : decode cc pc = .ok (.invokevirtual idx, 3)) (kk : gn_fit ret (some (.long r)) → gn_Go own cc nL F Lc rt xo (pc + 3) lv (.long r :: rest) σ' ρ σf) : gn_Go own cc nL F Lc rt xo pc lv st σ ρ σf := gr_callV hM hy hv hk hl hst hn hR hr d kk
theorem gc_V0 {idx k n F1 L1 maxL : Nat} {y : MethodName} {c1 : ByteArray} {ret : Option FieldType} {As : List Value} {σ' : gn_M} (hM : gn_Cl y c1 maxL ret F1 L1 (.ref k :: As) σ none σ') (hy : gn_My y c1 maxL ret n) (hv : gn_Mv y) (hk : gn_Ob k y.cls) (hl : Cond.methodLink own idx y ∈ gn_T) (hst : st = As.reverse ++ .ref k :: rest) (hn : As.length = n) (hR : F1 + 1 ≤ F ∧ 8 + (maxL + 11) + L1 ≤ Lc) (hr : (rest.map fun v => v.category).sum ≤ 8) (d : decode cc pc = .ok (.invokevirtual idx, 3)) (kk : gn_fit ret none → gn_Go own cc nL F Lc rt xo (pc + 3) lv (rest) σ' ρ σf) : gn_Go own cc nL F Lc rt xo pc lv st σ ρ σf := gr_callV hM hy hv hk hl hst hn hR hr d kk
theorem gc_VNI {idx k n F1 L1 maxL : Nat} {y : MethodName} {host : String} {c1 : ByteArray} {ret : Option FieldType} {As : List Value} {r : Int32} {σ' : gn_M} (hM : gn_Cl y c1 maxL ret F1 L1 (.ref k :: As) σ (some (.int r)) σ') (hy : gn_My y c1 maxL ret n) (hv : gn_Mv y) (hk : gn_Ob k y.cls) (hl : Cond.methodLinkNest own idx y host ∈ gn_N) (hst : st = As.reverse ++ .ref k :: rest) (hn : As.length = n) (hR : F1 + 1 ≤ F ∧ 8 + (maxL + 11) + L1 ≤ Lc) (hr : (rest.map fun v => v.category).sum ≤ 8) (d : decode cc pc = .ok (.invokevirtual idx, 3)) (kk : gn_fit ret (some (.int r)) → gn_Go own cc nL F Lc rt xo (pc + 3) lv (.int r :: rest) σ' ρ σf) : gn_Go own cc nL F Lc rt xo pc lv st σ ρ σf := gr_callVN hM hy hv hk hl hst hn hR hr d kk
theorem gc_VNL {idx k n F1 L1 maxL : Nat} {y : MethodName} {host : String} {c1 : ByteArray} {ret : Option FieldType} {As : List Value} {r : Int64} {σ' : gn_M} (hM : gn_Cl y c1 maxL ret F1 L1 (.ref k :: As) σ (some (.long r)) σ') (hy : gn_My y c1 maxL ret n) (hv : gn_Mv y) (hk : gn_Ob k y.cls) (hl : Cond.methodLinkNest own idx y host ∈ gn_N) (hst : st = As.reverse ++ .ref k :: rest) (hn : As.length = n) (hR : F1 + 1 ≤ F ∧ 8 + (maxL + 11) + L1 ≤ Lc) (hr : (rest.map fun v => v.category).sum ≤ 8) (d : decode cc pc = .ok (.invokevirtual idx, 3)) (kk : gn_fit ret (some (.long r)) → gn_Go own cc nL F Lc rt xo (pc + 3) lv (.long r :: rest) σ' ρ σf) : gn_Go own cc nL F Lc rt xo pc lv st σ ρ σf := gr_callVN hM hy hv hk hl hst hn hR hr d kk
theorem gc_VN0 {idx k n F1 L1 maxL : Nat} {y : MethodName} {host : String} {c1 : ByteArray} {ret : Option FieldType} {As : List Value} {σ' : gn_M} (hM : gn_Cl y c1 maxL ret F1 L1 (.ref k :: As) σ none σ') (hy : gn_My y c1 maxL ret n) (hv : gn_Mv y) (hk : gn_Ob k y.cls) (hl : Cond.methodLinkNest own idx y host ∈ gn_N) (hst : st = As.reverse ++ .ref k :: rest) (hn : As.length = n) (hR : F1 + 1 ≤ F ∧ 8 + (maxL + 11) + L1 ≤ Lc) (hr : (rest.map fun v => v.category).sum ≤ 8) (d : decode cc pc = .ok (.invokevirtual idx, 3)) (kk : gn_fit ret none → gn_Go own cc nL F Lc rt xo (pc + 3) lv (rest) σ' ρ σf) : gn_Go own cc nL F Lc rt xo pc lv st σ ρ σf := gr_callVN hM hy hv hk hl hst hn hR hr d kk
theorem gc_SI {idx n F1 L1 maxL : Nat} {y : MethodName} {c1 : ByteArray} {ret : Option FieldType} {As : List Value} {r : Int32} {σ' : gn_M} (hM : gn_Cl y c1 maxL ret F1 L1 As σ (some (.int r)) σ') (hy : gn_My y c1 maxL ret n) (hv : Cond.static y ∈ gn_T) (hl : Cond.methodLink own idx y ∈ gn_T) (hst : st = As.reverse ++ rest) (hn : As.length = n) (hR : F1 + 1 ≤ F ∧ 8 + (maxL + 11) + L1 ≤ Lc) (hr : (rest.map fun v => v.category).sum ≤ 8) (d : decode cc pc = .ok (.invokestatic idx, 3)) (kk : gn_fit ret (some (.int r)) → gn_Go own cc nL F Lc rt xo (pc + 3) lv (.int r :: rest) σ' ρ σf) : gn_Go own cc nL F Lc rt xo pc lv st σ ρ σf := gr_callS hM hy hv hl hst hn hR hr d kk
theorem gc_SL {idx n F1 L1 maxL : Nat} {y : MethodName} {c1 : ByteArray} {ret : Option FieldType} {As : List Value} {r : Int64} {σ' : gn_M} (hM : gn_Cl y c1 maxL ret F1 L1 As σ (some (.long r)) σ') (hy : gn_My y c1 maxL ret n) (hv : Cond.static y ∈ gn_T) (hl : Cond.methodLink own idx y ∈ gn_T) (hst : st = As.reverse ++ rest) (hn : As.length = n) (hR : F1 + 1 ≤ F ∧ 8 + (maxL + 11) + L1 ≤ Lc) (hr : (rest.map fun v => v.category).sum ≤ 8) (d : decode cc pc = .ok (.invokestatic idx, 3)) (kk : gn_fit ret (some (.long r)) → gn_Go own cc nL F Lc rt xo (pc + 3) lv (.long r :: rest) σ' ρ σf) : gn_Go own cc nL F Lc rt xo pc lv st σ ρ σf := gr_callS hM hy hv hl hst hn hR hr d kk
theorem gc_S0 {idx n F1 L1 maxL : Nat} {y : MethodName} {c1 : ByteArray} {ret : Option FieldType} {As : List Value} {σ' : gn_M} (hM : gn_Cl y c1 maxL ret F1 L1 As σ none σ') (hy : gn_My y c1 maxL ret n) (hv : Cond.static y ∈ gn_T) (hl : Cond.methodLink own idx y ∈ gn_T) (hst : st = As.reverse ++ rest) (hn : As.length = n) (hR : F1 + 1 ≤ F ∧ 8 + (maxL + 11) + L1 ≤ Lc) (hr : (rest.map fun v => v.category).sum ≤ 8) (d : decode cc pc = .ok (.invokestatic idx, 3)) (kk : gn_fit ret none → gn_Go own cc nL F Lc rt xo (pc + 3) lv (rest) σ' ρ σf) : gn_Go own cc nL F Lc rt xo pc lv st σ ρ σf := gr_callS hM hy hv hl hst hn hR hr d kk
theorem gc_SNI {idx n F1 L1 maxL : Nat} {y : MethodName} {host : String} {c1 : ByteArray} {ret : Option FieldType} {As : List Value} {r : Int32} {σ' : gn_M} (hM : gn_Cl y c1 maxL ret F1 L1 As σ (some (.int r)) σ') (hy : gn_My y c1 maxL ret n) (hv : Cond.static y ∈ gn_T) (hl : Cond.methodLinkNest own idx y host ∈ gn_N) (hst : st = As.reverse ++ rest) (hn : As.length = n) (hR : F1 + 1 ≤ F ∧ 8 + (maxL + 11) + L1 ≤ Lc) (hr : (rest.map fun v => v.category).sum ≤ 8) (d : decode cc pc = .ok (.invokestatic idx, 3)) (kk : gn_fit ret (some (.int r)) → gn_Go own cc nL F Lc rt xo (pc + 3) lv (.int r :: rest) σ' ρ σf) : gn_Go own cc nL F Lc rt xo pc lv st σ ρ σf := gr_callSN hM hy hv hl hst hn hR hr d kk
theorem gc_SNL {idx n F1 L1 maxL : Nat} {y : MethodName} {host : String} {c1 : ByteArray} {ret : Option FieldType} {As : List Value} {r : Int64} {σ' : gn_M} (hM : gn_Cl y c1 maxL ret F1 L1 As σ (some (.long r)) σ') (hy : gn_My y c1 maxL ret n) (hv : Cond.static y ∈ gn_T) (hl : Cond.methodLinkNest own idx y host ∈ gn_N) (hst : st = As.reverse ++ rest) (hn : As.length = n) (hR : F1 + 1 ≤ F ∧ 8 + (maxL + 11) + L1 ≤ Lc) (hr : (rest.map fun v => v.category).sum ≤ 8) (d : decode cc pc = .ok (.invokestatic idx, 3)) (kk : gn_fit ret (some (.long r)) → gn_Go own cc nL F Lc rt xo (pc + 3) lv (.long r :: rest) σ' ρ σf) : gn_Go own cc nL F Lc rt xo pc lv st σ ρ σf := gr_callSN hM hy hv hl hst hn hR hr d kk
theorem gc_SN0 {idx n F1 L1 maxL : Nat} {y : MethodName} {host : String} {c1 : ByteArray} {ret : Option FieldType} {As : List Value} {σ' : gn_M} (hM : gn_Cl y c1 maxL ret F1 L1 As σ none σ') (hy : gn_My y c1 maxL ret n) (hv : Cond.static y ∈ gn_T) (hl : Cond.methodLinkNest own idx y host ∈ gn_N) (hst : st = As.reverse ++ rest) (hn : As.length = n) (hR : F1 + 1 ≤ F ∧ 8 + (maxL + 11) + L1 ≤ Lc) (hr : (rest.map fun v => v.category).sum ≤ 8) (d : decode cc pc = .ok (.invokestatic idx, 3)) (kk : gn_fit ret none → gn_Go own cc nL F Lc rt xo (pc + 3) lv (rest) σ' ρ σf) : gn_Go own cc nL F Lc rt xo pc lv st σ ρ σf := gr_callSN hM hy hv hl hst hn hR hr d kk
end GNQ
end
