section
-- ===== PART A: goes FIRST, ahead of the names: the tables' words, and 'selects' of the private methods out of them =====
/-- a private method of a class that the tables say can be made, by its rows of tables_1 -/
def lw_okq (q : MethodName × Nat) : Prop := (q.1.cls ≠ "java/lang/invoke/MethodHandle" ∧ q.1.cls ≠ "java/lang/invoke/VarHandle") ∧ Cond.instantiable q.1.cls q.2 ∈ tables_1 ∧ Cond.privateMethod q.1 ∈ tables_1 ∧ Cond.instanceMethod q.1 ∈ tables_1
theorem lw_p0 : lw_okq (⟨"PlaneDesk", "forget", "()V"⟩, 13) := ⟨⟨by decide +kernel, by decide +kernel⟩, List.mem_of_getElem? (i := 18) (by decide +kernel), List.mem_of_getElem? (i := 369) (by decide +kernel), List.mem_of_getElem? (i := 370) (by decide +kernel)⟩
theorem lw_p1 : lw_okq (⟨"PlaneDesk$Blocks", "growTree", "(LPlaneDesk$Net;I)V"⟩, 9) := ⟨⟨by decide +kernel, by decide +kernel⟩, List.mem_of_getElem? (i := 66) (by decide +kernel), List.mem_of_getElem? (i := 421) (by decide +kernel), List.mem_of_getElem? (i := 422) (by decide +kernel)⟩
theorem lw_p2 : lw_okq (⟨"PlaneDesk$Blocks", "reach", "(III)V"⟩, 9) := ⟨⟨by decide +kernel, by decide +kernel⟩, List.mem_of_getElem? (i := 66) (by decide +kernel), List.mem_of_getElem? (i := 429) (by decide +kernel), List.mem_of_getElem? (i := 430) (by decide +kernel)⟩
theorem lw_p3 : lw_okq (⟨"PlaneDesk$Blocks", "closeRing", "(II)V"⟩, 9) := ⟨⟨by decide +kernel, by decide +kernel⟩, List.mem_of_getElem? (i := 66) (by decide +kernel), List.mem_of_getElem? (i := 455) (by decide +kernel), List.mem_of_getElem? (i := 456) (by decide +kernel)⟩
theorem lw_p4 : lw_okq (⟨"PlaneDesk$Blocks", "deeper", "(II)I"⟩, 9) := ⟨⟨by decide +kernel, by decide +kernel⟩, List.mem_of_getElem? (i := 66) (by decide +kernel), List.mem_of_getElem? (i := 459) (by decide +kernel), List.mem_of_getElem? (i := 460) (by decide +kernel)⟩
theorem lw_p5 : lw_okq (⟨"PlaneDesk$Blocks", "merge", "(II)V"⟩, 9) := ⟨⟨by decide +kernel, by decide +kernel⟩, List.mem_of_getElem? (i := 66) (by decide +kernel), List.mem_of_getElem? (i := 463) (by decide +kernel), List.mem_of_getElem? (i := 464) (by decide +kernel)⟩
theorem lw_p6 : lw_okq (⟨"PlaneDesk$Blocks", "standingFor", "(I)I"⟩, 9) := ⟨⟨by decide +kernel, by decide +kernel⟩, List.mem_of_getElem? (i := 66) (by decide +kernel), List.mem_of_getElem? (i := 467) (by decide +kernel), List.mem_of_getElem? (i := 468) (by decide +kernel)⟩
theorem lw_p7 : lw_okq (⟨"PlaneDesk$Blocks", "giveNumbers", "(LPlaneDesk$Net;)V"⟩, 9) := ⟨⟨by decide +kernel, by decide +kernel⟩, List.mem_of_getElem? (i := 66) (by decide +kernel), List.mem_of_getElem? (i := 471) (by decide +kernel), List.mem_of_getElem? (i := 472) (by decide +kernel)⟩
theorem lw_p8 : lw_okq (⟨"PlaneDesk", "fits", "()Z"⟩, 13) := ⟨⟨by decide +kernel, by decide +kernel⟩, List.mem_of_getElem? (i := 18) (by decide +kernel), List.mem_of_getElem? (i := 487) (by decide +kernel), List.mem_of_getElem? (i := 488) (by decide +kernel)⟩
theorem lw_p9 : lw_okq (⟨"PlaneDesk$Layout", "takeBlock", "(LPlaneDesk$Net;I)V"⟩, 12) := ⟨⟨by decide +kernel, by decide +kernel⟩, List.mem_of_getElem? (i := 60) (by decide +kernel), List.mem_of_getElem? (i := 501) (by decide +kernel), List.mem_of_getElem? (i := 502) (by decide +kernel)⟩
theorem lw_p10 : lw_okq (⟨"PlaneDesk$Layout", "layFirstRing", "()V"⟩, 12) := ⟨⟨by decide +kernel, by decide +kernel⟩, List.mem_of_getElem? (i := 60) (by decide +kernel), List.mem_of_getElem? (i := 516) (by decide +kernel), List.mem_of_getElem? (i := 517) (by decide +kernel)⟩
theorem lw_p11 : lw_okq (⟨"PlaneDesk$Search", "traceBack", "(I)V"⟩, 4) := ⟨⟨by decide +kernel, by decide +kernel⟩, List.mem_of_getElem? (i := 156) (by decide +kernel), List.mem_of_getElem? (i := 531) (by decide +kernel), List.mem_of_getElem? (i := 532) (by decide +kernel)⟩
theorem lw_p12 : lw_okq (⟨"PlaneDesk$Layout", "markWay", "(I)V"⟩, 12) := ⟨⟨by decide +kernel, by decide +kernel⟩, List.mem_of_getElem? (i := 60) (by decide +kernel), List.mem_of_getElem? (i := 558) (by decide +kernel), List.mem_of_getElem? (i := 559) (by decide +kernel)⟩
theorem lw_p13 : lw_okq (⟨"PlaneDesk$Layout", "laysRest", "()Z"⟩, 12) := ⟨⟨by decide +kernel, by decide +kernel⟩, List.mem_of_getElem? (i := 60) (by decide +kernel), List.mem_of_getElem? (i := 565) (by decide +kernel), List.mem_of_getElem? (i := 566) (by decide +kernel)⟩
theorem lw_p14 : lw_okq (⟨"PlaneDesk$Layout", "choosePart", "()Z"⟩, 12) := ⟨⟨by decide +kernel, by decide +kernel⟩, List.mem_of_getElem? (i := 60) (by decide +kernel), List.mem_of_getElem? (i := 569) (by decide +kernel), List.mem_of_getElem? (i := 570) (by decide +kernel)⟩
theorem lw_p15 : lw_okq (⟨"PlaneDesk$Layout", "spread", "(I)I"⟩, 12) := ⟨⟨by decide +kernel, by decide +kernel⟩, List.mem_of_getElem? (i := 60) (by decide +kernel), List.mem_of_getElem? (i := 578) (by decide +kernel), List.mem_of_getElem? (i := 579) (by decide +kernel)⟩
def lw_privs_1 : List (MethodName × Nat) := [(⟨"PlaneDesk", "forget", "()V"⟩, 13), (⟨"PlaneDesk$Blocks", "growTree", "(LPlaneDesk$Net;I)V"⟩, 9), (⟨"PlaneDesk$Blocks", "reach", "(III)V"⟩, 9), (⟨"PlaneDesk$Blocks", "closeRing", "(II)V"⟩, 9), (⟨"PlaneDesk$Blocks", "deeper", "(II)I"⟩, 9), (⟨"PlaneDesk$Blocks", "merge", "(II)V"⟩, 9), (⟨"PlaneDesk$Blocks", "standingFor", "(I)I"⟩, 9), (⟨"PlaneDesk$Blocks", "giveNumbers", "(LPlaneDesk$Net;)V"⟩, 9), (⟨"PlaneDesk", "fits", "()Z"⟩, 13), (⟨"PlaneDesk$Layout", "takeBlock", "(LPlaneDesk$Net;I)V"⟩, 12), (⟨"PlaneDesk$Layout", "layFirstRing", "()V"⟩, 12), (⟨"PlaneDesk$Search", "traceBack", "(I)V"⟩, 4), (⟨"PlaneDesk$Layout", "markWay", "(I)V"⟩, 12), (⟨"PlaneDesk$Layout", "laysRest", "()Z"⟩, 12), (⟨"PlaneDesk$Layout", "choosePart", "()Z"⟩, 12), (⟨"PlaneDesk$Layout", "spread", "(I)I"⟩, 12)]
theorem lw_r1 : ∀ q ∈ lw_privs_1, lw_okq q := List.forall_mem_cons.mpr ⟨lw_p0, List.forall_mem_cons.mpr ⟨lw_p1, List.forall_mem_cons.mpr ⟨lw_p2, List.forall_mem_cons.mpr ⟨lw_p3, List.forall_mem_cons.mpr ⟨lw_p4, List.forall_mem_cons.mpr ⟨lw_p5, List.forall_mem_cons.mpr ⟨lw_p6, List.forall_mem_cons.mpr ⟨lw_p7, List.forall_mem_cons.mpr ⟨lw_p8, List.forall_mem_cons.mpr ⟨lw_p9, List.forall_mem_cons.mpr ⟨lw_p10, List.forall_mem_cons.mpr ⟨lw_p11, List.forall_mem_cons.mpr ⟨lw_p12, List.forall_mem_cons.mpr ⟨lw_p13, List.forall_mem_cons.mpr ⟨lw_p14, List.forall_mem_cons.mpr ⟨lw_p15, fun _ h => absurd h List.not_mem_nil⟩⟩⟩⟩⟩⟩⟩⟩⟩⟩⟩⟩⟩⟩⟩⟩
theorem lw_p16 : lw_okq (⟨"PlaneDesk$Layout", "weigh", "(II)Z"⟩, 12) := ⟨⟨by decide +kernel, by decide +kernel⟩, List.mem_of_getElem? (i := 60) (by decide +kernel), List.mem_of_getElem? (i := 586) (by decide +kernel), List.mem_of_getElem? (i := 587) (by decide +kernel)⟩
theorem lw_p17 : lw_okq (⟨"PlaneDesk$Layout", "findWay", "(I)V"⟩, 12) := ⟨⟨by decide +kernel, by decide +kernel⟩, List.mem_of_getElem? (i := 60) (by decide +kernel), List.mem_of_getElem? (i := 604) (by decide +kernel), List.mem_of_getElem? (i := 605) (by decide +kernel)⟩
theorem lw_p18 : lw_okq (⟨"PlaneDesk$Rings", "has", "(I)Z"⟩, 4) := ⟨⟨by decide +kernel, by decide +kernel⟩, List.mem_of_getElem? (i := 134) (by decide +kernel), List.mem_of_getElem? (i := 616) (by decide +kernel), List.mem_of_getElem? (i := 617) (by decide +kernel)⟩
theorem lw_p19 : lw_okq (⟨"PlaneDesk$Layout", "tellTurn", "()V"⟩, 12) := ⟨⟨by decide +kernel, by decide +kernel⟩, List.mem_of_getElem? (i := 60) (by decide +kernel), List.mem_of_getElem? (i := 637) (by decide +kernel), List.mem_of_getElem? (i := 638) (by decide +kernel)⟩
theorem lw_p20 : lw_okq (⟨"PlaneDesk$Layout", "tellRing", "(I)V"⟩, 12) := ⟨⟨by decide +kernel, by decide +kernel⟩, List.mem_of_getElem? (i := 60) (by decide +kernel), List.mem_of_getElem? (i := 641) (by decide +kernel), List.mem_of_getElem? (i := 642) (by decide +kernel)⟩
theorem lw_p21 : lw_okq (⟨"PlaneDesk$Layout", "tellAround", "(I)V"⟩, 12) := ⟨⟨by decide +kernel, by decide +kernel⟩, List.mem_of_getElem? (i := 60) (by decide +kernel), List.mem_of_getElem? (i := 663) (by decide +kernel), List.mem_of_getElem? (i := 664) (by decide +kernel)⟩
theorem lw_p22 : lw_okq (⟨"PlaneDesk", "layOut", "()Z"⟩, 13) := ⟨⟨by decide +kernel, by decide +kernel⟩, List.mem_of_getElem? (i := 18) (by decide +kernel), List.mem_of_getElem? (i := 673) (by decide +kernel), List.mem_of_getElem? (i := 674) (by decide +kernel)⟩
theorem lw_p23 : lw_okq (⟨"PlaneDesk$Walks", "nameDarts", "(LPlaneDesk$Net;)V"⟩, 5) := ⟨⟨by decide +kernel, by decide +kernel⟩, List.mem_of_getElem? (i := 220) (by decide +kernel), List.mem_of_getElem? (i := 686) (by decide +kernel), List.mem_of_getElem? (i := 687) (by decide +kernel)⟩
theorem lw_p24 : lw_okq (⟨"PlaneDesk$Walks", "beginOf", "(LPlaneDesk$Net;I)I"⟩, 5) := ⟨⟨by decide +kernel, by decide +kernel⟩, List.mem_of_getElem? (i := 220) (by decide +kernel), List.mem_of_getElem? (i := 693) (by decide +kernel), List.mem_of_getElem? (i := 694) (by decide +kernel)⟩
theorem lw_p25 : lw_okq (⟨"PlaneDesk$Walks", "goRound", "(I)V"⟩, 5) := ⟨⟨by decide +kernel, by decide +kernel⟩, List.mem_of_getElem? (i := 220) (by decide +kernel), List.mem_of_getElem? (i := 706) (by decide +kernel), List.mem_of_getElem? (i := 707) (by decide +kernel)⟩
theorem lw_p26 : lw_okq (⟨"PlaneDesk$Tangle", "takeRest", "(LPlaneDesk$Net;LPlaneDesk$Net;)V"⟩, 3) := ⟨⟨by decide +kernel, by decide +kernel⟩, List.mem_of_getElem? (i := 245) (by decide +kernel), List.mem_of_getElem? (i := 716) (by decide +kernel), List.mem_of_getElem? (i := 717) (by decide +kernel)⟩
theorem lw_p27 : lw_okq (⟨"PlaneDesk", "addIfItFits", "(II)V"⟩, 13) := ⟨⟨by decide +kernel, by decide +kernel⟩, List.mem_of_getElem? (i := 18) (by decide +kernel), List.mem_of_getElem? (i := 794) (by decide +kernel), List.mem_of_getElem? (i := 795) (by decide +kernel)⟩
theorem lw_p28 : lw_okq (⟨"PlaneDesk$Drawing", "findOrder", "(LPlaneDesk$Net;LPlaneDesk$Turning;III)V"⟩, 7) := ⟨⟨by decide +kernel, by decide +kernel⟩, List.mem_of_getElem? (i := 265) (by decide +kernel), List.mem_of_getElem? (i := 812) (by decide +kernel), List.mem_of_getElem? (i := 813) (by decide +kernel)⟩
theorem lw_p29 : lw_okq (⟨"PlaneDesk$Drawing", "startLine", "(III)V"⟩, 7) := ⟨⟨by decide +kernel, by decide +kernel⟩, List.mem_of_getElem? (i := 265) (by decide +kernel), List.mem_of_getElem? (i := 816) (by decide +kernel), List.mem_of_getElem? (i := 817) (by decide +kernel)⟩
theorem lw_p30 : lw_okq (⟨"PlaneDesk$Drawing", "findFree", "(LPlaneDesk$Net;)I"⟩, 7) := ⟨⟨by decide +kernel, by decide +kernel⟩, List.mem_of_getElem? (i := 265) (by decide +kernel), List.mem_of_getElem? (i := 822) (by decide +kernel), List.mem_of_getElem? (i := 823) (by decide +kernel)⟩
theorem lw_p31 : lw_okq (⟨"PlaneDesk$Drawing", "takeFromRim", "(LPlaneDesk$Turning;I)V"⟩, 7) := ⟨⟨by decide +kernel, by decide +kernel⟩, List.mem_of_getElem? (i := 265) (by decide +kernel), List.mem_of_getElem? (i := 831) (by decide +kernel), List.mem_of_getElem? (i := 832) (by decide +kernel)⟩
def lw_privs_2 : List (MethodName × Nat) := [(⟨"PlaneDesk$Layout", "weigh", "(II)Z"⟩, 12), (⟨"PlaneDesk$Layout", "findWay", "(I)V"⟩, 12), (⟨"PlaneDesk$Rings", "has", "(I)Z"⟩, 4), (⟨"PlaneDesk$Layout", "tellTurn", "()V"⟩, 12), (⟨"PlaneDesk$Layout", "tellRing", "(I)V"⟩, 12), (⟨"PlaneDesk$Layout", "tellAround", "(I)V"⟩, 12), (⟨"PlaneDesk", "layOut", "()Z"⟩, 13), (⟨"PlaneDesk$Walks", "nameDarts", "(LPlaneDesk$Net;)V"⟩, 5), (⟨"PlaneDesk$Walks", "beginOf", "(LPlaneDesk$Net;I)I"⟩, 5), (⟨"PlaneDesk$Walks", "goRound", "(I)V"⟩, 5), (⟨"PlaneDesk$Tangle", "takeRest", "(LPlaneDesk$Net;LPlaneDesk$Net;)V"⟩, 3), (⟨"PlaneDesk", "addIfItFits", "(II)V"⟩, 13), (⟨"PlaneDesk$Drawing", "findOrder", "(LPlaneDesk$Net;LPlaneDesk$Turning;III)V"⟩, 7), (⟨"PlaneDesk$Drawing", "startLine", "(III)V"⟩, 7), (⟨"PlaneDesk$Drawing", "findFree", "(LPlaneDesk$Net;)I"⟩, 7), (⟨"PlaneDesk$Drawing", "takeFromRim", "(LPlaneDesk$Turning;I)V"⟩, 7)]
theorem lw_r2 : ∀ q ∈ lw_privs_2, lw_okq q := List.forall_mem_cons.mpr ⟨lw_p16, List.forall_mem_cons.mpr ⟨lw_p17, List.forall_mem_cons.mpr ⟨lw_p18, List.forall_mem_cons.mpr ⟨lw_p19, List.forall_mem_cons.mpr ⟨lw_p20, List.forall_mem_cons.mpr ⟨lw_p21, List.forall_mem_cons.mpr ⟨lw_p22, List.forall_mem_cons.mpr ⟨lw_p23, List.forall_mem_cons.mpr ⟨lw_p24, List.forall_mem_cons.mpr ⟨lw_p25, List.forall_mem_cons.mpr ⟨lw_p26, List.forall_mem_cons.mpr ⟨lw_p27, List.forall_mem_cons.mpr ⟨lw_p28, List.forall_mem_cons.mpr ⟨lw_p29, List.forall_mem_cons.mpr ⟨lw_p30, List.forall_mem_cons.mpr ⟨lw_p31, fun _ h => absurd h List.not_mem_nil⟩⟩⟩⟩⟩⟩⟩⟩⟩⟩⟩⟩⟩⟩⟩⟩
theorem lw_p32 : lw_okq (⟨"PlaneDesk$Drawing", "put", "(III)V"⟩, 7) := ⟨⟨by decide +kernel, by decide +kernel⟩, List.mem_of_getElem? (i := 265) (by decide +kernel), List.mem_of_getElem? (i := 839) (by decide +kernel), List.mem_of_getElem? (i := 840) (by decide +kernel)⟩
theorem lw_p33 : lw_okq (⟨"PlaneDesk$Drawing", "raise", "(LPlaneDesk$Net;I)V"⟩, 7) := ⟨⟨by decide +kernel, by decide +kernel⟩, List.mem_of_getElem? (i := 265) (by decide +kernel), List.mem_of_getElem? (i := 844) (by decide +kernel), List.mem_of_getElem? (i := 845) (by decide +kernel)⟩
theorem lw_p34 : lw_okq (⟨"PlaneDesk$Drawing", "carriedByLine", "(II)I"⟩, 7) := ⟨⟨by decide +kernel, by decide +kernel⟩, List.mem_of_getElem? (i := 265) (by decide +kernel), List.mem_of_getElem? (i := 849) (by decide +kernel), List.mem_of_getElem? (i := 850) (by decide +kernel)⟩
theorem lw_p35 : lw_okq (⟨"PlaneDesk$Drawing", "move", "(II)V"⟩, 7) := ⟨⟨by decide +kernel, by decide +kernel⟩, List.mem_of_getElem? (i := 265) (by decide +kernel), List.mem_of_getElem? (i := 853) (by decide +kernel), List.mem_of_getElem? (i := 854) (by decide +kernel)⟩
theorem lw_p36 : lw_okq (⟨"PlaneDesk$Drawing", "putAbove", "(III)V"⟩, 7) := ⟨⟨by decide +kernel, by decide +kernel⟩, List.mem_of_getElem? (i := 265) (by decide +kernel), List.mem_of_getElem? (i := 858) (by decide +kernel), List.mem_of_getElem? (i := 859) (by decide +kernel)⟩
theorem lw_p37 : lw_okq (⟨"PlaneDesk$Colouring", "takeAll", "(LPlaneDesk$Net;)V"⟩, 2) := ⟨⟨by decide +kernel, by decide +kernel⟩, List.mem_of_getElem? (i := 298) (by decide +kernel), List.mem_of_getElem? (i := 876) (by decide +kernel), List.mem_of_getElem? (i := 877) (by decide +kernel)⟩
theorem lw_p38 : lw_okq (⟨"PlaneDesk$Colouring", "leastTied", "(LPlaneDesk$Net;I)I"⟩, 2) := ⟨⟨by decide +kernel, by decide +kernel⟩, List.mem_of_getElem? (i := 298) (by decide +kernel), List.mem_of_getElem? (i := 882) (by decide +kernel), List.mem_of_getElem? (i := 883) (by decide +kernel)⟩
theorem lw_p39 : lw_okq (⟨"PlaneDesk$Colouring", "leastFree", "(I)I"⟩, 2) := ⟨⟨by decide +kernel, by decide +kernel⟩, List.mem_of_getElem? (i := 298) (by decide +kernel), List.mem_of_getElem? (i := 892) (by decide +kernel), List.mem_of_getElem? (i := 893) (by decide +kernel)⟩
theorem lw_p40 : lw_okq (⟨"PlaneDeskModel", "forget", "()V"⟩, 49) := ⟨⟨by decide +kernel, by decide +kernel⟩, List.mem_of_getElem? (i := 903) (by decide +kernel), List.mem_of_getElem? (i := 1065) (by decide +kernel), List.mem_of_getElem? (i := 1066) (by decide +kernel)⟩
theorem lw_p41 : lw_okq (⟨"PlaneDeskModel", "isVertex", "(I)Z"⟩, 49) := ⟨⟨by decide +kernel, by decide +kernel⟩, List.mem_of_getElem? (i := 903) (by decide +kernel), List.mem_of_getElem? (i := 1073) (by decide +kernel), List.mem_of_getElem? (i := 1074) (by decide +kernel)⟩
theorem lw_p42 : lw_okq (⟨"PlaneDeskModel", "edgeOf", "(II)I"⟩, 49) := ⟨⟨by decide +kernel, by decide +kernel⟩, List.mem_of_getElem? (i := 903) (by decide +kernel), List.mem_of_getElem? (i := 1077) (by decide +kernel), List.mem_of_getElem? (i := 1078) (by decide +kernel)⟩
theorem lw_p43 : lw_okq (⟨"PlaneDeskModel", "put", "(II)V"⟩, 49) := ⟨⟨by decide +kernel, by decide +kernel⟩, List.mem_of_getElem? (i := 903) (by decide +kernel), List.mem_of_getElem? (i := 1081) (by decide +kernel), List.mem_of_getElem? (i := 1082) (by decide +kernel)⟩
theorem lw_p44 : lw_okq (⟨"PlaneDeskModel", "all", "()V"⟩, 49) := ⟨⟨by decide +kernel, by decide +kernel⟩, List.mem_of_getElem? (i := 903) (by decide +kernel), List.mem_of_getElem? (i := 1093) (by decide +kernel), List.mem_of_getElem? (i := 1094) (by decide +kernel)⟩
theorem lw_p45 : lw_okq (⟨"PlaneDeskModel", "makeBlocks", "()V"⟩, 49) := ⟨⟨by decide +kernel, by decide +kernel⟩, List.mem_of_getElem? (i := 903) (by decide +kernel), List.mem_of_getElem? (i := 1097) (by decide +kernel), List.mem_of_getElem? (i := 1098) (by decide +kernel)⟩
theorem lw_p46 : lw_okq (⟨"PlaneDeskModel", "forest", "()V"⟩, 49) := ⟨⟨by decide +kernel, by decide +kernel⟩, List.mem_of_getElem? (i := 903) (by decide +kernel), List.mem_of_getElem? (i := 1101) (by decide +kernel), List.mem_of_getElem? (i := 1102) (by decide +kernel)⟩
theorem lw_p47 : lw_okq (⟨"PlaneDeskModel", "spread", "(II)I"⟩, 49) := ⟨⟨by decide +kernel, by decide +kernel⟩, List.mem_of_getElem? (i := 903) (by decide +kernel), List.mem_of_getElem? (i := 1105) (by decide +kernel), List.mem_of_getElem? (i := 1106) (by decide +kernel)⟩
def lw_privs_3 : List (MethodName × Nat) := [(⟨"PlaneDesk$Drawing", "put", "(III)V"⟩, 7), (⟨"PlaneDesk$Drawing", "raise", "(LPlaneDesk$Net;I)V"⟩, 7), (⟨"PlaneDesk$Drawing", "carriedByLine", "(II)I"⟩, 7), (⟨"PlaneDesk$Drawing", "move", "(II)V"⟩, 7), (⟨"PlaneDesk$Drawing", "putAbove", "(III)V"⟩, 7), (⟨"PlaneDesk$Colouring", "takeAll", "(LPlaneDesk$Net;)V"⟩, 2), (⟨"PlaneDesk$Colouring", "leastTied", "(LPlaneDesk$Net;I)I"⟩, 2), (⟨"PlaneDesk$Colouring", "leastFree", "(I)I"⟩, 2), (⟨"PlaneDeskModel", "forget", "()V"⟩, 49), (⟨"PlaneDeskModel", "isVertex", "(I)Z"⟩, 49), (⟨"PlaneDeskModel", "edgeOf", "(II)I"⟩, 49), (⟨"PlaneDeskModel", "put", "(II)V"⟩, 49), (⟨"PlaneDeskModel", "all", "()V"⟩, 49), (⟨"PlaneDeskModel", "makeBlocks", "()V"⟩, 49), (⟨"PlaneDeskModel", "forest", "()V"⟩, 49), (⟨"PlaneDeskModel", "spread", "(II)I"⟩, 49)]
theorem lw_r3 : ∀ q ∈ lw_privs_3, lw_okq q := List.forall_mem_cons.mpr ⟨lw_p32, List.forall_mem_cons.mpr ⟨lw_p33, List.forall_mem_cons.mpr ⟨lw_p34, List.forall_mem_cons.mpr ⟨lw_p35, List.forall_mem_cons.mpr ⟨lw_p36, List.forall_mem_cons.mpr ⟨lw_p37, List.forall_mem_cons.mpr ⟨lw_p38, List.forall_mem_cons.mpr ⟨lw_p39, List.forall_mem_cons.mpr ⟨lw_p40, List.forall_mem_cons.mpr ⟨lw_p41, List.forall_mem_cons.mpr ⟨lw_p42, List.forall_mem_cons.mpr ⟨lw_p43, List.forall_mem_cons.mpr ⟨lw_p44, List.forall_mem_cons.mpr ⟨lw_p45, List.forall_mem_cons.mpr ⟨lw_p46, List.forall_mem_cons.mpr ⟨lw_p47, fun _ h => absurd h List.not_mem_nil⟩⟩⟩⟩⟩⟩⟩⟩⟩⟩⟩⟩⟩⟩⟩⟩
theorem lw_p48 : lw_okq (⟨"PlaneDeskModel", "other", "(II)I"⟩, 49) := ⟨⟨by decide +kernel, by decide +kernel⟩, List.mem_of_getElem? (i := 903) (by decide +kernel), List.mem_of_getElem? (i := 1109) (by decide +kernel), List.mem_of_getElem? (i := 1110) (by decide +kernel)⟩
theorem lw_p49 : lw_okq (⟨"PlaneDeskModel", "unite", "(II)V"⟩, 49) := ⟨⟨by decide +kernel, by decide +kernel⟩, List.mem_of_getElem? (i := 903) (by decide +kernel), List.mem_of_getElem? (i := 1113) (by decide +kernel), List.mem_of_getElem? (i := 1114) (by decide +kernel)⟩
theorem lw_p50 : lw_okq (⟨"PlaneDeskModel", "number", "()V"⟩, 49) := ⟨⟨by decide +kernel, by decide +kernel⟩, List.mem_of_getElem? (i := 903) (by decide +kernel), List.mem_of_getElem? (i := 1117) (by decide +kernel), List.mem_of_getElem? (i := 1118) (by decide +kernel)⟩
theorem lw_p51 : lw_okq (⟨"PlaneDeskModel", "lonely", "()I"⟩, 49) := ⟨⟨by decide +kernel, by decide +kernel⟩, List.mem_of_getElem? (i := 903) (by decide +kernel), List.mem_of_getElem? (i := 1125) (by decide +kernel), List.mem_of_getElem? (i := 1126) (by decide +kernel)⟩
theorem lw_p52 : lw_okq (⟨"PlaneDeskModel", "isPlane", "()Z"⟩, 49) := ⟨⟨by decide +kernel, by decide +kernel⟩, List.mem_of_getElem? (i := 903) (by decide +kernel), List.mem_of_getElem? (i := 1129) (by decide +kernel), List.mem_of_getElem? (i := 1130) (by decide +kernel)⟩
theorem lw_p53 : lw_okq (⟨"PlaneDeskModel", "layAll", "(Z)Z"⟩, 49) := ⟨⟨by decide +kernel, by decide +kernel⟩, List.mem_of_getElem? (i := 903) (by decide +kernel), List.mem_of_getElem? (i := 1133) (by decide +kernel), List.mem_of_getElem? (i := 1134) (by decide +kernel)⟩
theorem lw_p54 : lw_okq (⟨"PlaneDeskModel", "sizeOf", "(I)I"⟩, 49) := ⟨⟨by decide +kernel, by decide +kernel⟩, List.mem_of_getElem? (i := 903) (by decide +kernel), List.mem_of_getElem? (i := 1137) (by decide +kernel), List.mem_of_getElem? (i := 1138) (by decide +kernel)⟩
theorem lw_p55 : lw_okq (⟨"PlaneDeskModel", "layBlock", "(I)Z"⟩, 49) := ⟨⟨by decide +kernel, by decide +kernel⟩, List.mem_of_getElem? (i := 903) (by decide +kernel), List.mem_of_getElem? (i := 1141) (by decide +kernel), List.mem_of_getElem? (i := 1142) (by decide +kernel)⟩
theorem lw_p56 : lw_okq (⟨"PlaneDeskModel", "leastEdge", "(I)I"⟩, 49) := ⟨⟨by decide +kernel, by decide +kernel⟩, List.mem_of_getElem? (i := 903) (by decide +kernel), List.mem_of_getElem? (i := 1145) (by decide +kernel), List.mem_of_getElem? (i := 1146) (by decide +kernel)⟩
theorem lw_p57 : lw_okq (⟨"PlaneDeskModel", "firstRings", "(I)V"⟩, 49) := ⟨⟨by decide +kernel, by decide +kernel⟩, List.mem_of_getElem? (i := 903) (by decide +kernel), List.mem_of_getElem? (i := 1149) (by decide +kernel), List.mem_of_getElem? (i := 1150) (by decide +kernel)⟩
theorem lw_p58 : lw_okq (⟨"PlaneDeskModel", "allVertices", "()I"⟩, 49) := ⟨⟨by decide +kernel, by decide +kernel⟩, List.mem_of_getElem? (i := 903) (by decide +kernel), List.mem_of_getElem? (i := 1153) (by decide +kernel), List.mem_of_getElem? (i := 1154) (by decide +kernel)⟩
theorem lw_p59 : lw_okq (⟨"PlaneDeskModel", "find", "(IIIII)I"⟩, 49) := ⟨⟨by decide +kernel, by decide +kernel⟩, List.mem_of_getElem? (i := 903) (by decide +kernel), List.mem_of_getElem? (i := 1157) (by decide +kernel), List.mem_of_getElem? (i := 1158) (by decide +kernel)⟩
theorem lw_p60 : lw_okq (⟨"PlaneDeskModel", "isHere", "(I)Z"⟩, 49) := ⟨⟨by decide +kernel, by decide +kernel⟩, List.mem_of_getElem? (i := 903) (by decide +kernel), List.mem_of_getElem? (i := 1161) (by decide +kernel), List.mem_of_getElem? (i := 1162) (by decide +kernel)⟩
theorem lw_p61 : lw_okq (⟨"PlaneDeskModel", "takeWay", "(II)V"⟩, 49) := ⟨⟨by decide +kernel, by decide +kernel⟩, List.mem_of_getElem? (i := 903) (by decide +kernel), List.mem_of_getElem? (i := 1165) (by decide +kernel), List.mem_of_getElem? (i := 1166) (by decide +kernel)⟩
theorem lw_p62 : lw_okq (⟨"PlaneDeskModel", "makeParts", "()V"⟩, 49) := ⟨⟨by decide +kernel, by decide +kernel⟩, List.mem_of_getElem? (i := 903) (by decide +kernel), List.mem_of_getElem? (i := 1169) (by decide +kernel), List.mem_of_getElem? (i := 1170) (by decide +kernel)⟩
theorem lw_p63 : lw_okq (⟨"PlaneDeskModel", "nextPart", "()I"⟩, 49) := ⟨⟨by decide +kernel, by decide +kernel⟩, List.mem_of_getElem? (i := 903) (by decide +kernel), List.mem_of_getElem? (i := 1173) (by decide +kernel), List.mem_of_getElem? (i := 1174) (by decide +kernel)⟩
def lw_privs_4 : List (MethodName × Nat) := [(⟨"PlaneDeskModel", "other", "(II)I"⟩, 49), (⟨"PlaneDeskModel", "unite", "(II)V"⟩, 49), (⟨"PlaneDeskModel", "number", "()V"⟩, 49), (⟨"PlaneDeskModel", "lonely", "()I"⟩, 49), (⟨"PlaneDeskModel", "isPlane", "()Z"⟩, 49), (⟨"PlaneDeskModel", "layAll", "(Z)Z"⟩, 49), (⟨"PlaneDeskModel", "sizeOf", "(I)I"⟩, 49), (⟨"PlaneDeskModel", "layBlock", "(I)Z"⟩, 49), (⟨"PlaneDeskModel", "leastEdge", "(I)I"⟩, 49), (⟨"PlaneDeskModel", "firstRings", "(I)V"⟩, 49), (⟨"PlaneDeskModel", "allVertices", "()I"⟩, 49), (⟨"PlaneDeskModel", "find", "(IIIII)I"⟩, 49), (⟨"PlaneDeskModel", "isHere", "(I)Z"⟩, 49), (⟨"PlaneDeskModel", "takeWay", "(II)V"⟩, 49), (⟨"PlaneDeskModel", "makeParts", "()V"⟩, 49), (⟨"PlaneDeskModel", "nextPart", "()I"⟩, 49)]
theorem lw_r4 : ∀ q ∈ lw_privs_4, lw_okq q := List.forall_mem_cons.mpr ⟨lw_p48, List.forall_mem_cons.mpr ⟨lw_p49, List.forall_mem_cons.mpr ⟨lw_p50, List.forall_mem_cons.mpr ⟨lw_p51, List.forall_mem_cons.mpr ⟨lw_p52, List.forall_mem_cons.mpr ⟨lw_p53, List.forall_mem_cons.mpr ⟨lw_p54, List.forall_mem_cons.mpr ⟨lw_p55, List.forall_mem_cons.mpr ⟨lw_p56, List.forall_mem_cons.mpr ⟨lw_p57, List.forall_mem_cons.mpr ⟨lw_p58, List.forall_mem_cons.mpr ⟨lw_p59, List.forall_mem_cons.mpr ⟨lw_p60, List.forall_mem_cons.mpr ⟨lw_p61, List.forall_mem_cons.mpr ⟨lw_p62, List.forall_mem_cons.mpr ⟨lw_p63, fun _ h => absurd h List.not_mem_nil⟩⟩⟩⟩⟩⟩⟩⟩⟩⟩⟩⟩⟩⟩⟩⟩
theorem lw_p64 : lw_okq (⟨"PlaneDeskModel", "fit", "(I)V"⟩, 49) := ⟨⟨by decide +kernel, by decide +kernel⟩, List.mem_of_getElem? (i := 903) (by decide +kernel), List.mem_of_getElem? (i := 1177) (by decide +kernel), List.mem_of_getElem? (i := 1178) (by decide +kernel)⟩
theorem lw_p65 : lw_okq (⟨"PlaneDeskModel", "ringSet", "(I)I"⟩, 49) := ⟨⟨by decide +kernel, by decide +kernel⟩, List.mem_of_getElem? (i := 903) (by decide +kernel), List.mem_of_getElem? (i := 1181) (by decide +kernel), List.mem_of_getElem? (i := 1182) (by decide +kernel)⟩
theorem lw_p66 : lw_okq (⟨"PlaneDeskModel", "layPart", "(I)V"⟩, 49) := ⟨⟨by decide +kernel, by decide +kernel⟩, List.mem_of_getElem? (i := 903) (by decide +kernel), List.mem_of_getElem? (i := 1185) (by decide +kernel), List.mem_of_getElem? (i := 1186) (by decide +kernel)⟩
theorem lw_p67 : lw_okq (⟨"PlaneDeskModel", "markWay", "(II)V"⟩, 49) := ⟨⟨by decide +kernel, by decide +kernel⟩, List.mem_of_getElem? (i := 903) (by decide +kernel), List.mem_of_getElem? (i := 1189) (by decide +kernel), List.mem_of_getElem? (i := 1190) (by decide +kernel)⟩
theorem lw_p68 : lw_okq (⟨"PlaneDeskModel", "tellNeighbours", "()V"⟩, 49) := ⟨⟨by decide +kernel, by decide +kernel⟩, List.mem_of_getElem? (i := 903) (by decide +kernel), List.mem_of_getElem? (i := 1193) (by decide +kernel), List.mem_of_getElem? (i := 1194) (by decide +kernel)⟩
theorem lw_p69 : lw_okq (⟨"PlaneDeskModel", "turnOf", "(II)V"⟩, 49) := ⟨⟨by decide +kernel, by decide +kernel⟩, List.mem_of_getElem? (i := 903) (by decide +kernel), List.mem_of_getElem? (i := 1197) (by decide +kernel), List.mem_of_getElem? (i := 1198) (by decide +kernel)⟩
theorem lw_p70 : lw_okq (⟨"PlaneDeskModel", "makeFaces", "()V"⟩, 49) := ⟨⟨by decide +kernel, by decide +kernel⟩, List.mem_of_getElem? (i := 903) (by decide +kernel), List.mem_of_getElem? (i := 1209) (by decide +kernel), List.mem_of_getElem? (i := 1210) (by decide +kernel)⟩
theorem lw_p71 : lw_okq (⟨"PlaneDeskModel", "following", "(I)I"⟩, 49) := ⟨⟨by decide +kernel, by decide +kernel⟩, List.mem_of_getElem? (i := 903) (by decide +kernel), List.mem_of_getElem? (i := 1213) (by decide +kernel), List.mem_of_getElem? (i := 1214) (by decide +kernel)⟩
theorem lw_p72 : lw_okq (⟨"PlaneDeskModel", "tail", "(I)I"⟩, 49) := ⟨⟨by decide +kernel, by decide +kernel⟩, List.mem_of_getElem? (i := 903) (by decide +kernel), List.mem_of_getElem? (i := 1217) (by decide +kernel), List.mem_of_getElem? (i := 1218) (by decide +kernel)⟩
theorem lw_p73 : lw_okq (⟨"PlaneDeskModel", "dart", "(II)I"⟩, 49) := ⟨⟨by decide +kernel, by decide +kernel⟩, List.mem_of_getElem? (i := 903) (by decide +kernel), List.mem_of_getElem? (i := 1221) (by decide +kernel), List.mem_of_getElem? (i := 1222) (by decide +kernel)⟩
theorem lw_p74 : lw_okq (⟨"PlaneDeskModel", "makeKnot", "()V"⟩, 49) := ⟨⟨by decide +kernel, by decide +kernel⟩, List.mem_of_getElem? (i := 903) (by decide +kernel), List.mem_of_getElem? (i := 1225) (by decide +kernel), List.mem_of_getElem? (i := 1226) (by decide +kernel)⟩
theorem lw_p75 : lw_okq (⟨"PlaneDeskModel", "branch", "(I)I"⟩, 49) := ⟨⟨by decide +kernel, by decide +kernel⟩, List.mem_of_getElem? (i := 903) (by decide +kernel), List.mem_of_getElem? (i := 1250) (by decide +kernel), List.mem_of_getElem? (i := 1251) (by decide +kernel)⟩
theorem lw_p76 : lw_okq (⟨"PlaneDeskModel", "knotDegree", "(I)I"⟩, 49) := ⟨⟨by decide +kernel, by decide +kernel⟩, List.mem_of_getElem? (i := 903) (by decide +kernel), List.mem_of_getElem? (i := 1254) (by decide +kernel), List.mem_of_getElem? (i := 1255) (by decide +kernel)⟩
theorem lw_p77 : lw_okq (⟨"PlaneDeskModel", "could", "(II)Z"⟩, 49) := ⟨⟨by decide +kernel, by decide +kernel⟩, List.mem_of_getElem? (i := 903) (by decide +kernel), List.mem_of_getElem? (i := 1262) (by decide +kernel), List.mem_of_getElem? (i := 1263) (by decide +kernel)⟩
theorem lw_p78 : lw_okq (⟨"PlaneDeskModel", "makeOrder", "()V"⟩, 49) := ⟨⟨by decide +kernel, by decide +kernel⟩, List.mem_of_getElem? (i := 903) (by decide +kernel), List.mem_of_getElem? (i := 1275) (by decide +kernel), List.mem_of_getElem? (i := 1276) (by decide +kernel)⟩
theorem lw_p79 : lw_okq (⟨"PlaneDeskModel", "isFree", "(I)Z"⟩, 49) := ⟨⟨by decide +kernel, by decide +kernel⟩, List.mem_of_getElem? (i := 903) (by decide +kernel), List.mem_of_getElem? (i := 1280) (by decide +kernel), List.mem_of_getElem? (i := 1281) (by decide +kernel)⟩
def lw_privs_5 : List (MethodName × Nat) := [(⟨"PlaneDeskModel", "fit", "(I)V"⟩, 49), (⟨"PlaneDeskModel", "ringSet", "(I)I"⟩, 49), (⟨"PlaneDeskModel", "layPart", "(I)V"⟩, 49), (⟨"PlaneDeskModel", "markWay", "(II)V"⟩, 49), (⟨"PlaneDeskModel", "tellNeighbours", "()V"⟩, 49), (⟨"PlaneDeskModel", "turnOf", "(II)V"⟩, 49), (⟨"PlaneDeskModel", "makeFaces", "()V"⟩, 49), (⟨"PlaneDeskModel", "following", "(I)I"⟩, 49), (⟨"PlaneDeskModel", "tail", "(I)I"⟩, 49), (⟨"PlaneDeskModel", "dart", "(II)I"⟩, 49), (⟨"PlaneDeskModel", "makeKnot", "()V"⟩, 49), (⟨"PlaneDeskModel", "branch", "(I)I"⟩, 49), (⟨"PlaneDeskModel", "knotDegree", "(I)I"⟩, 49), (⟨"PlaneDeskModel", "could", "(II)Z"⟩, 49), (⟨"PlaneDeskModel", "makeOrder", "()V"⟩, 49), (⟨"PlaneDeskModel", "isFree", "(I)Z"⟩, 49)]
theorem lw_r5 : ∀ q ∈ lw_privs_5, lw_okq q := List.forall_mem_cons.mpr ⟨lw_p64, List.forall_mem_cons.mpr ⟨lw_p65, List.forall_mem_cons.mpr ⟨lw_p66, List.forall_mem_cons.mpr ⟨lw_p67, List.forall_mem_cons.mpr ⟨lw_p68, List.forall_mem_cons.mpr ⟨lw_p69, List.forall_mem_cons.mpr ⟨lw_p70, List.forall_mem_cons.mpr ⟨lw_p71, List.forall_mem_cons.mpr ⟨lw_p72, List.forall_mem_cons.mpr ⟨lw_p73, List.forall_mem_cons.mpr ⟨lw_p74, List.forall_mem_cons.mpr ⟨lw_p75, List.forall_mem_cons.mpr ⟨lw_p76, List.forall_mem_cons.mpr ⟨lw_p77, List.forall_mem_cons.mpr ⟨lw_p78, List.forall_mem_cons.mpr ⟨lw_p79, fun _ h => absurd h List.not_mem_nil⟩⟩⟩⟩⟩⟩⟩⟩⟩⟩⟩⟩⟩⟩⟩⟩
theorem lw_p80 : lw_okq (⟨"PlaneDeskModel", "gather", "(IIII)Z"⟩, 49) := ⟨⟨by decide +kernel, by decide +kernel⟩, List.mem_of_getElem? (i := 903) (by decide +kernel), List.mem_of_getElem? (i := 1284) (by decide +kernel), List.mem_of_getElem? (i := 1285) (by decide +kernel)⟩
theorem lw_p81 : lw_okq (⟨"PlaneDeskModel", "turnPlace", "(II)I"⟩, 49) := ⟨⟨by decide +kernel, by decide +kernel⟩, List.mem_of_getElem? (i := 903) (by decide +kernel), List.mem_of_getElem? (i := 1288) (by decide +kernel), List.mem_of_getElem? (i := 1289) (by decide +kernel)⟩
theorem lw_p82 : lw_okq (⟨"PlaneDeskModel", "isNew", "(I)Z"⟩, 49) := ⟨⟨by decide +kernel, by decide +kernel⟩, List.mem_of_getElem? (i := 903) (by decide +kernel), List.mem_of_getElem? (i := 1292) (by decide +kernel), List.mem_of_getElem? (i := 1293) (by decide +kernel)⟩
theorem lw_p83 : lw_okq (⟨"PlaneDeskModel", "rimPlace", "(I)I"⟩, 49) := ⟨⟨by decide +kernel, by decide +kernel⟩, List.mem_of_getElem? (i := 903) (by decide +kernel), List.mem_of_getElem? (i := 1296) (by decide +kernel), List.mem_of_getElem? (i := 1297) (by decide +kernel)⟩
theorem lw_p84 : lw_okq (⟨"PlaneDeskModel", "makePlaces", "()V"⟩, 49) := ⟨⟨by decide +kernel, by decide +kernel⟩, List.mem_of_getElem? (i := 903) (by decide +kernel), List.mem_of_getElem? (i := 1300) (by decide +kernel), List.mem_of_getElem? (i := 1301) (by decide +kernel)⟩
theorem lw_p85 : lw_okq (⟨"PlaneDeskModel", "set", "(III)V"⟩, 49) := ⟨⟨by decide +kernel, by decide +kernel⟩, List.mem_of_getElem? (i := 903) (by decide +kernel), List.mem_of_getElem? (i := 1304) (by decide +kernel), List.mem_of_getElem? (i := 1305) (by decide +kernel)⟩
theorem lw_p86 : lw_okq (⟨"PlaneDeskModel", "move", "(II)V"⟩, 49) := ⟨⟨by decide +kernel, by decide +kernel⟩, List.mem_of_getElem? (i := 903) (by decide +kernel), List.mem_of_getElem? (i := 1308) (by decide +kernel), List.mem_of_getElem? (i := 1309) (by decide +kernel)⟩
theorem lw_p87 : lw_okq (⟨"PlaneDeskModel", "joined", "(II)I"⟩, 49) := ⟨⟨by decide +kernel, by decide +kernel⟩, List.mem_of_getElem? (i := 903) (by decide +kernel), List.mem_of_getElem? (i := 1320) (by decide +kernel), List.mem_of_getElem? (i := 1321) (by decide +kernel)⟩
def lw_privs_6 : List (MethodName × Nat) := [(⟨"PlaneDeskModel", "gather", "(IIII)Z"⟩, 49), (⟨"PlaneDeskModel", "turnPlace", "(II)I"⟩, 49), (⟨"PlaneDeskModel", "isNew", "(I)Z"⟩, 49), (⟨"PlaneDeskModel", "rimPlace", "(I)I"⟩, 49), (⟨"PlaneDeskModel", "makePlaces", "()V"⟩, 49), (⟨"PlaneDeskModel", "set", "(III)V"⟩, 49), (⟨"PlaneDeskModel", "move", "(II)V"⟩, 49), (⟨"PlaneDeskModel", "joined", "(II)I"⟩, 49)]
theorem lw_r6 : ∀ q ∈ lw_privs_6, lw_okq q := List.forall_mem_cons.mpr ⟨lw_p80, List.forall_mem_cons.mpr ⟨lw_p81, List.forall_mem_cons.mpr ⟨lw_p82, List.forall_mem_cons.mpr ⟨lw_p83, List.forall_mem_cons.mpr ⟨lw_p84, List.forall_mem_cons.mpr ⟨lw_p85, List.forall_mem_cons.mpr ⟨lw_p86, List.forall_mem_cons.mpr ⟨lw_p87, fun _ h => absurd h List.not_mem_nil⟩⟩⟩⟩⟩⟩⟩⟩
def lw_privs : List (MethodName × Nat) := lw_privs_1 ++ (lw_privs_2 ++ (lw_privs_3 ++ (lw_privs_4 ++ (lw_privs_5 ++ (lw_privs_6)))))
def lw_tbl : List Cond := k2_sels lw_privs ++ tables_1
theorem lw_privs_ok : ∀ q ∈ lw_privs, lw_okq q := by
  show ∀ q ∈ lw_privs_1 ++ (lw_privs_2 ++ (lw_privs_3 ++ (lw_privs_4 ++ (lw_privs_5 ++ (lw_privs_6))))), lw_okq q
  exact List.forall_mem_append.mpr ⟨lw_r1, List.forall_mem_append.mpr ⟨lw_r2, List.forall_mem_append.mpr ⟨lw_r3, List.forall_mem_append.mpr ⟨lw_r4, List.forall_mem_append.mpr ⟨lw_r5, lw_r6⟩⟩⟩⟩⟩
end
section
def RX0 : String := "PlaneDesk$Blocks"
def TX0 : u_T := fun k => match k with
  | 0 => ("PlaneDesk$Blocks", "up", "[I", true)
  | 1 => ("PlaneDesk$Blocks", "depth", "[I", true)
  | 2 => ("PlaneDesk$Blocks", "toward", "[I", true)
  | 3 => ("PlaneDesk$Blocks", "numberFor", "[I", true)
  | 4 => ("PlaneDesk$Blocks", "number", "[I", true)
  | 5 => ("PlaneDesk$Blocks", "queue", "LPlaneDesk$Row;", true)
  | 6 => ("PlaneDesk$Blocks", "seen", "I", false)
  | 7 => ("PlaneDesk$Blocks", "components", "I", false)
  | _ => ("PlaneDesk$Blocks", "count", "I", false)
def tyX0 : Nat → FieldType := fun k => match k with
  | 0 => .array .int
  | 1 => .array .int
  | 2 => .array .int
  | 3 => .array .int
  | 4 => .array .int
  | 5 => .object "PlaneDesk$Row"
  | 6 => .int
  | 7 => .int
  | _ => .int
abbrev wsX00 : List Cond := u_ws RX0 TX0 9
theorem nmX0 : ∀ a, a < 9 → ∀ b, b < 9 → a ≠ b → (TX0 a).2.1 ≠ (TX0 b).2.1 := by decide +kernel
theorem tyX0_ok : ∀ k, k < 9 → parseFieldDescriptor (TX0 k).2.2.1 = some (tyX0 k) := by decide +kernel
abbrev cX0_init : ByteArray := prog_2_method_1_code
def yX0_init : MethodName := ⟨RX0, "<init>", "()V"⟩
abbrev cX0_of : ByteArray := prog_2_method_2_code
def yX0_of : MethodName := ⟨RX0, "of", "(I)I"⟩
abbrev cX0_find : ByteArray := prog_2_method_3_code
def yX0_find : MethodName := ⟨RX0, "find", "(LPlaneDesk$Net;)V"⟩
abbrev cX0_growTree : ByteArray := prog_2_method_4_code
def yX0_growTree : MethodName := ⟨RX0, "growTree", "(LPlaneDesk$Net;I)V"⟩
abbrev cX0_reach : ByteArray := prog_2_method_5_code
def yX0_reach : MethodName := ⟨RX0, "reach", "(III)V"⟩
abbrev cX0_deeper : ByteArray := prog_2_method_6_code
def yX0_deeper : MethodName := ⟨RX0, "deeper", "(II)I"⟩
abbrev cX0_closeRing : ByteArray := prog_2_method_7_code
def yX0_closeRing : MethodName := ⟨RX0, "closeRing", "(II)V"⟩
abbrev cX0_merge : ByteArray := prog_2_method_8_code
def yX0_merge : MethodName := ⟨RX0, "merge", "(II)V"⟩
abbrev cX0_standingFor : ByteArray := prog_2_method_9_code
def yX0_standingFor : MethodName := ⟨RX0, "standingFor", "(I)I"⟩
abbrev cX0_giveNumbers : ByteArray := prog_2_method_10_code
def yX0_giveNumbers : MethodName := ⟨RX0, "giveNumbers", "(LPlaneDesk$Net;)V"⟩
def RX1 : String := "PlaneDesk$Colouring"
def TX1 : u_T := fun k => match k with
  | 0 => ("PlaneDesk$Colouring", "colours", "[I", true)
  | _ => ("PlaneDesk$Colouring", "taken", "LPlaneDesk$Row;", true)
def tyX1 : Nat → FieldType := fun k => match k with
  | 0 => .array .int
  | _ => .object "PlaneDesk$Row"
abbrev wsX10 : List Cond := u_ws RX1 TX1 2
theorem nmX1 : ∀ a, a < 2 → ∀ b, b < 2 → a ≠ b → (TX1 a).2.1 ≠ (TX1 b).2.1 := by decide +kernel
theorem tyX1_ok : ∀ k, k < 2 → parseFieldDescriptor (TX1 k).2.2.1 = some (tyX1 k) := by decide +kernel
abbrev cX1_init : ByteArray := prog_3_method_1_code
def yX1_init : MethodName := ⟨RX1, "<init>", "()V"⟩
abbrev cX1_make : ByteArray := prog_3_method_2_code
def yX1_make : MethodName := ⟨RX1, "make", "(LPlaneDesk$Net;)I"⟩
abbrev cX1_takeAll : ByteArray := prog_3_method_3_code
def yX1_takeAll : MethodName := ⟨RX1, "takeAll", "(LPlaneDesk$Net;)V"⟩
abbrev cX1_leastTied : ByteArray := prog_3_method_4_code
def yX1_leastTied : MethodName := ⟨RX1, "leastTied", "(LPlaneDesk$Net;I)I"⟩
abbrev cX1_leastFree : ByteArray := prog_3_method_5_code
def yX1_leastFree : MethodName := ⟨RX1, "leastFree", "(I)I"⟩
def RX2 : String := "PlaneDesk$Drawing"
def TX2 : u_T := fun k => match k with
  | 0 => ("PlaneDesk$Drawing", "x", "[I", true)
  | 1 => ("PlaneDesk$Drawing", "y", "[I", true)
  | 2 => ("PlaneDesk$Drawing", "carried", "[I", true)
  | 3 => ("PlaneDesk$Drawing", "order", "LPlaneDesk$Row;", true)
  | 4 => ("PlaneDesk$Drawing", "backwards", "LPlaneDesk$Row;", true)
  | 5 => ("PlaneDesk$Drawing", "line", "LPlaneDesk$Row;", true)
  | _ => ("PlaneDesk$Drawing", "newLine", "LPlaneDesk$Row;", true)
def tyX2 : Nat → FieldType := fun k => match k with
  | 0 => .array .int
  | 1 => .array .int
  | 2 => .array .int
  | 3 => .object "PlaneDesk$Row"
  | 4 => .object "PlaneDesk$Row"
  | 5 => .object "PlaneDesk$Row"
  | _ => .object "PlaneDesk$Row"
abbrev wsX20 : List Cond := u_ws RX2 TX2 7
theorem nmX2 : ∀ a, a < 7 → ∀ b, b < 7 → a ≠ b → (TX2 a).2.1 ≠ (TX2 b).2.1 := by decide +kernel
theorem tyX2_ok : ∀ k, k < 7 → parseFieldDescriptor (TX2 k).2.2.1 = some (tyX2 k) := by decide +kernel
abbrev cX2_init : ByteArray := prog_4_method_1_code
def yX2_init : MethodName := ⟨RX2, "<init>", "()V"⟩
abbrev cX2_make : ByteArray := prog_4_method_2_code
def yX2_make : MethodName := ⟨RX2, "make", "(LPlaneDesk$Net;LPlaneDesk$Turning;I)V"⟩
abbrev cX2_startLine : ByteArray := prog_4_method_3_code
def yX2_startLine : MethodName := ⟨RX2, "startLine", "(III)V"⟩
abbrev cX2_put : ByteArray := prog_4_method_4_code
def yX2_put : MethodName := ⟨RX2, "put", "(III)V"⟩
abbrev cX2_findOrder : ByteArray := prog_4_method_5_code
def yX2_findOrder : MethodName := ⟨RX2, "findOrder", "(LPlaneDesk$Net;LPlaneDesk$Turning;III)V"⟩
abbrev cX2_findFree : ByteArray := prog_4_method_6_code
def yX2_findFree : MethodName := ⟨RX2, "findFree", "(LPlaneDesk$Net;)I"⟩
abbrev cX2_takeFromRim : ByteArray := prog_4_method_7_code
def yX2_takeFromRim : MethodName := ⟨RX2, "takeFromRim", "(LPlaneDesk$Turning;I)V"⟩
abbrev cX2_raise : ByteArray := prog_4_method_8_code
def yX2_raise : MethodName := ⟨RX2, "raise", "(LPlaneDesk$Net;I)V"⟩
abbrev cX2_carriedByLine : ByteArray := prog_4_method_9_code
def yX2_carriedByLine : MethodName := ⟨RX2, "carriedByLine", "(II)I"⟩
abbrev cX2_move : ByteArray := prog_4_method_10_code
def yX2_move : MethodName := ⟨RX2, "move", "(II)V"⟩
abbrev cX2_putAbove : ByteArray := prog_4_method_11_code
def yX2_putAbove : MethodName := ⟨RX2, "putAbove", "(III)V"⟩
def RX3 : String := "PlaneDesk$Layout"
def TX3 : u_T := fun k => match k with
  | 0 => ("PlaneDesk$Layout", "blocks", "LPlaneDesk$Blocks;", true)
  | 1 => ("PlaneDesk$Layout", "made", "LPlaneDesk$Turning;", true)
  | 2 => ("PlaneDesk$Layout", "block", "LPlaneDesk$Net;", true)
  | 3 => ("PlaneDesk$Layout", "done", "LPlaneDesk$Net;", true)
  | 4 => ("PlaneDesk$Layout", "rings", "LPlaneDesk$Rings;", true)
  | 5 => ("PlaneDesk$Layout", "search", "LPlaneDesk$Search;", true)
  | 6 => ("PlaneDesk$Layout", "follower", "[I", true)
  | 7 => ("PlaneDesk$Layout", "laid", "I", false)
  | 8 => ("PlaneDesk$Layout", "chosenInner", "I", false)
  | 9 => ("PlaneDesk$Layout", "chosenFeet", "I", false)
  | 10 => ("PlaneDesk$Layout", "chosenRing", "I", false)
  | _ => ("PlaneDesk$Layout", "chosenFitsOneAlone", "Z", false)
def tyX3 : Nat → FieldType := fun k => match k with
  | 0 => .object "PlaneDesk$Blocks"
  | 1 => .object "PlaneDesk$Turning"
  | 2 => .object "PlaneDesk$Net"
  | 3 => .object "PlaneDesk$Net"
  | 4 => .object "PlaneDesk$Rings"
  | 5 => .object "PlaneDesk$Search"
  | 6 => .array .int
  | 7 => .int
  | 8 => .int
  | 9 => .int
  | 10 => .int
  | _ => .boolean
abbrev wsX30 : List Cond := u_ws RX3 TX3 12
theorem nmX3 : ∀ a, a < 12 → ∀ b, b < 12 → a ≠ b → (TX3 a).2.1 ≠ (TX3 b).2.1 := by decide +kernel
theorem tyX3_ok : ∀ k, k < 12 → parseFieldDescriptor (TX3 k).2.2.1 = some (tyX3 k) := by decide +kernel
abbrev cX3_init : ByteArray := prog_5_method_1_code
def yX3_init : MethodName := ⟨RX3, "<init>", "()V"⟩
abbrev cX3_lays : ByteArray := prog_5_method_2_code
def yX3_lays : MethodName := ⟨RX3, "lays", "(LPlaneDesk$Net;)Z"⟩
abbrev cX3_takeBlock : ByteArray := prog_5_method_3_code
def yX3_takeBlock : MethodName := ⟨RX3, "takeBlock", "(LPlaneDesk$Net;I)V"⟩
abbrev cX3_layFirstRing : ByteArray := prog_5_method_4_code
def yX3_layFirstRing : MethodName := ⟨RX3, "layFirstRing", "()V"⟩
abbrev cX3_laysRest : ByteArray := prog_5_method_5_code
def yX3_laysRest : MethodName := ⟨RX3, "laysRest", "()Z"⟩
abbrev cX3_findWay : ByteArray := prog_5_method_6_code
def yX3_findWay : MethodName := ⟨RX3, "findWay", "(I)V"⟩
abbrev cX3_markWay : ByteArray := prog_5_method_7_code
def yX3_markWay : MethodName := ⟨RX3, "markWay", "(I)V"⟩
abbrev cX3_choosePart : ByteArray := prog_5_method_8_code
def yX3_choosePart : MethodName := ⟨RX3, "choosePart", "()Z"⟩
abbrev cX3_weigh : ByteArray := prog_5_method_9_code
def yX3_weigh : MethodName := ⟨RX3, "weigh", "(II)Z"⟩
abbrev cX3_spread : ByteArray := prog_5_method_10_code
def yX3_spread : MethodName := ⟨RX3, "spread", "(I)I"⟩
abbrev cX3_tellTurn : ByteArray := prog_5_method_11_code
def yX3_tellTurn : MethodName := ⟨RX3, "tellTurn", "()V"⟩
abbrev cX3_tellRing : ByteArray := prog_5_method_12_code
def yX3_tellRing : MethodName := ⟨RX3, "tellRing", "(I)V"⟩
abbrev cX3_tellAround : ByteArray := prog_5_method_13_code
def yX3_tellAround : MethodName := ⟨RX3, "tellAround", "(I)V"⟩
def RX4 : String := "PlaneDesk$Net"
def TX4 : u_T := fun k => match k with
  | 0 => ("PlaneDesk$Net", "lower", "[I", true)
  | 1 => ("PlaneDesk$Net", "higher", "[I", true)
  | 2 => ("PlaneDesk$Net", "near", "[I", true)
  | 3 => ("PlaneDesk$Net", "vertices", "I", false)
  | _ => ("PlaneDesk$Net", "edges", "I", false)
def tyX4 : Nat → FieldType := fun k => match k with
  | 0 => .array .int
  | 1 => .array .int
  | 2 => .array .int
  | 3 => .int
  | _ => .int
abbrev wsX40 : List Cond := u_ws RX4 TX4 5
theorem nmX4 : ∀ a, a < 5 → ∀ b, b < 5 → a ≠ b → (TX4 a).2.1 ≠ (TX4 b).2.1 := by decide +kernel
theorem tyX4_ok : ∀ k, k < 5 → parseFieldDescriptor (TX4 k).2.2.1 = some (tyX4 k) := by decide +kernel
abbrev cX4_init : ByteArray := prog_6_method_1_code
def yX4_init : MethodName := ⟨RX4, "<init>", "()V"⟩
abbrev cX4_begin : ByteArray := prog_6_method_2_code
def yX4_begin : MethodName := ⟨RX4, "begin", "(I)V"⟩
abbrev cX4_copy : ByteArray := prog_6_method_3_code
def yX4_copy : MethodName := ⟨RX4, "copy", "(LPlaneDesk$Net;)V"⟩
abbrev cX4_hasVertex : ByteArray := prog_6_method_4_code
def yX4_hasVertex : MethodName := ⟨RX4, "hasVertex", "(I)Z"⟩
abbrev cX4_hasEdge : ByteArray := prog_6_method_5_code
def yX4_hasEdge : MethodName := ⟨RX4, "hasEdge", "(I)Z"⟩
abbrev cX4_low : ByteArray := prog_6_method_6_code
def yX4_low : MethodName := ⟨RX4, "low", "(I)I"⟩
abbrev cX4_high : ByteArray := prog_6_method_7_code
def yX4_high : MethodName := ⟨RX4, "high", "(I)I"⟩
abbrev cX4_around : ByteArray := prog_6_method_8_code
def yX4_around : MethodName := ⟨RX4, "around", "(I)I"⟩
abbrev cX4_aroundAll : ByteArray := prog_6_method_9_code
def yX4_aroundAll : MethodName := ⟨RX4, "aroundAll", "(I)I"⟩
abbrev cX4_joined : ByteArray := prog_6_method_10_code
def yX4_joined : MethodName := ⟨RX4, "joined", "(II)Z"⟩
abbrev cX4_takes : ByteArray := prog_6_method_11_code
def yX4_takes : MethodName := ⟨RX4, "takes", "(II)Z"⟩
abbrev cX4_add : ByteArray := prog_6_method_12_code
def yX4_add : MethodName := ⟨RX4, "add", "(II)V"⟩
abbrev cX4_remove : ByteArray := prog_6_method_13_code
def yX4_remove : MethodName := ⟨RX4, "remove", "(I)V"⟩
abbrev cX4_lonely : ByteArray := prog_6_method_14_code
def yX4_lonely : MethodName := ⟨RX4, "lonely", "()I"⟩
abbrev cX4_isFull : ByteArray := prog_6_method_15_code
def yX4_isFull : MethodName := ⟨RX4, "isFull", "()Z"⟩
def RX5 : String := "PlaneDesk$Rings"
def TX5 : u_T := fun k => match k with
  | 0 => ("PlaneDesk$Rings", "rows", "[LPlaneDesk$Row;", true)
  | 1 => ("PlaneDesk$Rings", "bits", "[I", true)
  | 2 => ("PlaneDesk$Rings", "whole", "LPlaneDesk$Row;", true)
  | _ => ("PlaneDesk$Rings", "count", "I", false)
def tyX5 : Nat → FieldType := fun k => match k with
  | 0 => .array (.object "PlaneDesk$Row")
  | 1 => .array .int
  | 2 => .object "PlaneDesk$Row"
  | _ => .int
abbrev wsX50 : List Cond := u_ws RX5 TX5 4
theorem nmX5 : ∀ a, a < 4 → ∀ b, b < 4 → a ≠ b → (TX5 a).2.1 ≠ (TX5 b).2.1 := by decide +kernel
theorem tyX5_ok : ∀ k, k < 4 → parseFieldDescriptor (TX5 k).2.2.1 = some (tyX5 k) := by decide +kernel
abbrev cX5_init : ByteArray := prog_7_method_1_code
def yX5_init : MethodName := ⟨RX5, "<init>", "()V"⟩
abbrev cX5_has : ByteArray := prog_7_method_2_code
def yX5_has : MethodName := ⟨RX5, "has", "(I)Z"⟩
abbrev cX5_size : ByteArray := prog_7_method_3_code
def yX5_size : MethodName := ⟨RX5, "size", "(I)I"⟩
abbrev cX5_get : ByteArray := prog_7_method_4_code
def yX5_get : MethodName := ⟨RX5, "get", "(II)I"⟩
abbrev cX5_placeBehind : ByteArray := prog_7_method_5_code
def yX5_placeBehind : MethodName := ⟨RX5, "placeBehind", "(II)I"⟩
abbrev cX5_fitting : ByteArray := prog_7_method_6_code
def yX5_fitting : MethodName := ⟨RX5, "fitting", "(II)I"⟩
abbrev cX5_begin : ByteArray := prog_7_method_7_code
def yX5_begin : MethodName := ⟨RX5, "begin", "(IILPlaneDesk$Row;)V"⟩
abbrev cX5_part : ByteArray := prog_7_method_8_code
def yX5_part : MethodName := ⟨RX5, "part", "(IIILPlaneDesk$Row;)V"⟩
def RX6 : String := "PlaneDesk$Row"
def TX6 : u_T := fun k => match k with
  | 0 => ("PlaneDesk$Row", "cells", "[I", true)
  | _ => ("PlaneDesk$Row", "size", "I", false)
def tyX6 : Nat → FieldType := fun k => match k with
  | 0 => .array .int
  | _ => .int
abbrev wsX60 : List Cond := u_ws RX6 TX6 2
theorem nmX6 : ∀ a, a < 2 → ∀ b, b < 2 → a ≠ b → (TX6 a).2.1 ≠ (TX6 b).2.1 := by decide +kernel
theorem tyX6_ok : ∀ k, k < 2 → parseFieldDescriptor (TX6 k).2.2.1 = some (tyX6 k) := by decide +kernel
abbrev cX6_init : ByteArray := prog_8_method_1_code
def yX6_init : MethodName := ⟨RX6, "<init>", "(I)V"⟩
abbrev cX6_size : ByteArray := prog_8_method_2_code
def yX6_size : MethodName := ⟨RX6, "size", "()I"⟩
abbrev cX6_clear : ByteArray := prog_8_method_3_code
def yX6_clear : MethodName := ⟨RX6, "clear", "()V"⟩
abbrev cX6_add : ByteArray := prog_8_method_4_code
def yX6_add : MethodName := ⟨RX6, "add", "(I)V"⟩
abbrev cX6_get : ByteArray := prog_8_method_5_code
def yX6_get : MethodName := ⟨RX6, "get", "(I)I"⟩
abbrev cX6_find : ByteArray := prog_8_method_6_code
def yX6_find : MethodName := ⟨RX6, "find", "(I)I"⟩
abbrev cX6_exchange : ByteArray := prog_8_method_7_code
def yX6_exchange : MethodName := ⟨RX6, "exchange", "(II)Z"⟩
abbrev cX6_placeBehind : ByteArray := prog_8_method_8_code
def yX6_placeBehind : MethodName := ⟨RX6, "placeBehind", "(I)I"⟩
abbrev cX6_copy : ByteArray := prog_8_method_9_code
def yX6_copy : MethodName := ⟨RX6, "copy", "(LPlaneDesk$Row;)V"⟩
abbrev cX6_addPart : ByteArray := prog_8_method_10_code
def yX6_addPart : MethodName := ⟨RX6, "addPart", "(LPlaneDesk$Row;II)V"⟩
abbrev cX6_addBackwards : ByteArray := prog_8_method_11_code
def yX6_addBackwards : MethodName := ⟨RX6, "addBackwards", "(LPlaneDesk$Row;)V"⟩
abbrev cX6_addArc : ByteArray := prog_8_method_12_code
def yX6_addArc : MethodName := ⟨RX6, "addArc", "(LPlaneDesk$Row;II)V"⟩
abbrev cX6_bits : ByteArray := prog_8_method_13_code
def yX6_bits : MethodName := ⟨RX6, "bits", "()I"⟩
def RX7 : String := "PlaneDesk$Search"
def TX7 : u_T := fun k => match k with
  | 0 => ("PlaneDesk$Search", "cameFrom", "[I", true)
  | 1 => ("PlaneDesk$Search", "queue", "LPlaneDesk$Row;", true)
  | 2 => ("PlaneDesk$Search", "way", "LPlaneDesk$Row;", true)
  | _ => ("PlaneDesk$Search", "goal", "I", false)
def tyX7 : Nat → FieldType := fun k => match k with
  | 0 => .array .int
  | 1 => .object "PlaneDesk$Row"
  | 2 => .object "PlaneDesk$Row"
  | _ => .int
abbrev wsX70 : List Cond := u_ws RX7 TX7 4
theorem nmX7 : ∀ a, a < 4 → ∀ b, b < 4 → a ≠ b → (TX7 a).2.1 ≠ (TX7 b).2.1 := by decide +kernel
theorem tyX7_ok : ∀ k, k < 4 → parseFieldDescriptor (TX7 k).2.2.1 = some (tyX7 k) := by decide +kernel
abbrev cX7_init : ByteArray := prog_9_method_1_code
def yX7_init : MethodName := ⟨RX7, "<init>", "()V"⟩
abbrev cX7_seek : ByteArray := prog_9_method_2_code
def yX7_seek : MethodName := ⟨RX7, "seek", "(LPlaneDesk$Net;III)V"⟩
abbrev cX7_goStraight : ByteArray := prog_9_method_3_code
def yX7_goStraight : MethodName := ⟨RX7, "goStraight", "(I)V"⟩
abbrev cX7_traceBack : ByteArray := prog_9_method_4_code
def yX7_traceBack : MethodName := ⟨RX7, "traceBack", "(I)V"⟩
def RX8 : String := "PlaneDesk$Tangle"
def TX8 : u_T := fun k => match k with
  | 0 => ("PlaneDesk$Tangle", "edges", "LPlaneDesk$Row;", true)
  | 1 => ("PlaneDesk$Tangle", "branches", "LPlaneDesk$Row;", true)
  | _ => ("PlaneDesk$Tangle", "out", "J", false)
def tyX8 : Nat → FieldType := fun k => match k with
  | 0 => .object "PlaneDesk$Row"
  | 1 => .object "PlaneDesk$Row"
  | _ => .long
abbrev wsX80 : List Cond := u_ws RX8 TX8 3
theorem nmX8 : ∀ a, a < 3 → ∀ b, b < 3 → a ≠ b → (TX8 a).2.1 ≠ (TX8 b).2.1 := by decide +kernel
theorem tyX8_ok : ∀ k, k < 3 → parseFieldDescriptor (TX8 k).2.2.1 = some (tyX8 k) := by decide +kernel
abbrev cX8_init : ByteArray := prog_10_method_1_code
def yX8_init : MethodName := ⟨RX8, "<init>", "()V"⟩
abbrev cX8_find : ByteArray := prog_10_method_2_code
def yX8_find : MethodName := ⟨RX8, "find", "(LPlaneDesk$Net;LPlaneDesk$Net;LPlaneDesk$Layout;)V"⟩
abbrev cX8_takeRest : ByteArray := prog_10_method_3_code
def yX8_takeRest : MethodName := ⟨RX8, "takeRest", "(LPlaneDesk$Net;LPlaneDesk$Net;)V"⟩
abbrev cX8_sort : ByteArray := prog_10_method_4_code
def yX8_sort : MethodName := ⟨RX8, "sort", "()I"⟩
def RX9 : String := "PlaneDesk$Turning"
def TX9 : u_T := fun k => match k with
  | _ => ("PlaneDesk$Turning", "rows", "[LPlaneDesk$Row;", true)
def tyX9 : Nat → FieldType := fun k => match k with
  | _ => .array (.object "PlaneDesk$Row")
abbrev wsX90 : List Cond := u_ws RX9 TX9 1
theorem nmX9 : ∀ a, a < 1 → ∀ b, b < 1 → a ≠ b → (TX9 a).2.1 ≠ (TX9 b).2.1 := by decide +kernel
theorem tyX9_ok : ∀ k, k < 1 → parseFieldDescriptor (TX9 k).2.2.1 = some (tyX9 k) := by decide +kernel
abbrev cX9_init : ByteArray := prog_11_method_1_code
def yX9_init : MethodName := ⟨RX9, "<init>", "()V"⟩
abbrev cX9_clear : ByteArray := prog_11_method_2_code
def yX9_clear : MethodName := ⟨RX9, "clear", "()V"⟩
abbrev cX9_copy : ByteArray := prog_11_method_3_code
def yX9_copy : MethodName := ⟨RX9, "copy", "(LPlaneDesk$Turning;)V"⟩
abbrev cX9_add : ByteArray := prog_11_method_4_code
def yX9_add : MethodName := ⟨RX9, "add", "(II)V"⟩
abbrev cX9_neighbour : ByteArray := prog_11_method_5_code
def yX9_neighbour : MethodName := ⟨RX9, "neighbour", "(II)I"⟩
abbrev cX9_exchange : ByteArray := prog_11_method_6_code
def yX9_exchange : MethodName := ⟨RX9, "exchange", "(III)Z"⟩
abbrev cX9_behind : ByteArray := prog_11_method_7_code
def yX9_behind : MethodName := ⟨RX9, "behind", "(II)I"⟩
def RX10 : String := "PlaneDesk$Walks"
def TX10 : u_T := fun k => match k with
  | 0 => ("PlaneDesk$Walks", "next", "[I", true)
  | 1 => ("PlaneDesk$Walks", "dartAt", "[I", true)
  | 2 => ("PlaneDesk$Walks", "faceOf", "[I", true)
  | 3 => ("PlaneDesk$Walks", "firsts", "LPlaneDesk$Row;", true)
  | _ => ("PlaneDesk$Walks", "count", "I", false)
def tyX10 : Nat → FieldType := fun k => match k with
  | 0 => .array .int
  | 1 => .array .int
  | 2 => .array .int
  | 3 => .object "PlaneDesk$Row"
  | _ => .int
abbrev wsX100 : List Cond := u_ws RX10 TX10 5
theorem nmX10 : ∀ a, a < 5 → ∀ b, b < 5 → a ≠ b → (TX10 a).2.1 ≠ (TX10 b).2.1 := by decide +kernel
theorem tyX10_ok : ∀ k, k < 5 → parseFieldDescriptor (TX10 k).2.2.1 = some (tyX10 k) := by decide +kernel
abbrev cX10_init : ByteArray := prog_12_method_1_code
def yX10_init : MethodName := ⟨RX10, "<init>", "()V"⟩
abbrev cX10_find : ByteArray := prog_12_method_2_code
def yX10_find : MethodName := ⟨RX10, "find", "(LPlaneDesk$Net;LPlaneDesk$Turning;)V"⟩
abbrev cX10_nameDarts : ByteArray := prog_12_method_3_code
def yX10_nameDarts : MethodName := ⟨RX10, "nameDarts", "(LPlaneDesk$Net;)V"⟩
abbrev cX10_goRound : ByteArray := prog_12_method_4_code
def yX10_goRound : MethodName := ⟨RX10, "goRound", "(I)V"⟩
abbrev cX10_beginOf : ByteArray := prog_12_method_5_code
def yX10_beginOf : MethodName := ⟨RX10, "beginOf", "(LPlaneDesk$Net;I)I"⟩
abbrev cX10_beginning : ByteArray := prog_12_method_6_code
def yX10_beginning : MethodName := ⟨RX10, "beginning", "(LPlaneDesk$Net;II)I"⟩
def RX11 : String := "PlaneDesk"
def TX11 : u_T := fun k => match k with
  | 0 => ("PlaneDesk", "net", "LPlaneDesk$Net;", true)
  | 1 => ("PlaneDesk", "trial", "LPlaneDesk$Net;", true)
  | 2 => ("PlaneDesk", "layout", "LPlaneDesk$Layout;", true)
  | 3 => ("PlaneDesk", "turning", "LPlaneDesk$Turning;", true)
  | 4 => ("PlaneDesk", "walks", "LPlaneDesk$Walks;", true)
  | 5 => ("PlaneDesk", "tangle", "LPlaneDesk$Tangle;", true)
  | 6 => ("PlaneDesk", "drawing", "LPlaneDesk$Drawing;", true)
  | 7 => ("PlaneDesk", "colouring", "LPlaneDesk$Colouring;", true)
  | 8 => ("PlaneDesk", "turned", "Z", false)
  | 9 => ("PlaneDesk", "knotted", "Z", false)
  | 10 => ("PlaneDesk", "drawn", "Z", false)
  | 11 => ("PlaneDesk", "coloured", "Z", false)
  | _ => ("PlaneDesk", "fitness", "I", false)
def tyX11 : Nat → FieldType := fun k => match k with
  | 0 => .object "PlaneDesk$Net"
  | 1 => .object "PlaneDesk$Net"
  | 2 => .object "PlaneDesk$Layout"
  | 3 => .object "PlaneDesk$Turning"
  | 4 => .object "PlaneDesk$Walks"
  | 5 => .object "PlaneDesk$Tangle"
  | 6 => .object "PlaneDesk$Drawing"
  | 7 => .object "PlaneDesk$Colouring"
  | 8 => .boolean
  | 9 => .boolean
  | 10 => .boolean
  | 11 => .boolean
  | _ => .int
abbrev wsX110 : List Cond := u_ws RX11 TX11 13
theorem nmX11 : ∀ a, a < 13 → ∀ b, b < 13 → a ≠ b → (TX11 a).2.1 ≠ (TX11 b).2.1 := by decide +kernel
theorem tyX11_ok : ∀ k, k < 13 → parseFieldDescriptor (TX11 k).2.2.1 = some (tyX11 k) := by decide +kernel
abbrev cX11_init : ByteArray := prog_1_method_1_code
def yX11_init : MethodName := ⟨RX11, "<init>", "()V"⟩
abbrev cX11_graph : ByteArray := prog_1_method_2_code
def yX11_graph : MethodName := ⟨RX11, "graph", "(I)Z"⟩
abbrev cX11_join : ByteArray := prog_1_method_3_code
def yX11_join : MethodName := ⟨RX11, "join", "(II)I"⟩
abbrev cX11_cut : ByteArray := prog_1_method_4_code
def yX11_cut : MethodName := ⟨RX11, "cut", "(I)Z"⟩
abbrev cX11_edge : ByteArray := prog_1_method_5_code
def yX11_edge : MethodName := ⟨RX11, "edge", "(II)I"⟩
abbrev cX11_about : ByteArray := prog_1_method_6_code
def yX11_about : MethodName := ⟨RX11, "about", "(I)I"⟩
abbrev cX11_lay : ByteArray := prog_1_method_7_code
def yX11_lay : MethodName := ⟨RX11, "lay", "()I"⟩
abbrev cX11_turn : ByteArray := prog_1_method_8_code
def yX11_turn : MethodName := ⟨RX11, "turn", "(II)I"⟩
abbrev cX11_swap : ByteArray := prog_1_method_9_code
def yX11_swap : MethodName := ⟨RX11, "swap", "(III)Z"⟩
abbrev cX11_faces : ByteArray := prog_1_method_10_code
def yX11_faces : MethodName := ⟨RX11, "faces", "()I"⟩
abbrev cX11_face : ByteArray := prog_1_method_11_code
def yX11_face : MethodName := ⟨RX11, "face", "(II)I"⟩
abbrev cX11_genus : ByteArray := prog_1_method_12_code
def yX11_genus : MethodName := ⟨RX11, "genus", "()I"⟩
abbrev cX11_knot : ByteArray := prog_1_method_13_code
def yX11_knot : MethodName := ⟨RX11, "knot", "(I)I"⟩
abbrev cX11_may : ByteArray := prog_1_method_14_code
def yX11_may : MethodName := ⟨RX11, "may", "(II)I"⟩
abbrev cX11_fill : ByteArray := prog_1_method_15_code
def yX11_fill : MethodName := ⟨RX11, "fill", "()I"⟩
abbrev cX11_draw : ByteArray := prog_1_method_16_code
def yX11_draw : MethodName := ⟨RX11, "draw", "()Z"⟩
abbrev cX11_at : ByteArray := prog_1_method_17_code
def yX11_at : MethodName := ⟨RX11, "at", "(II)I"⟩
abbrev cX11_colour : ByteArray := prog_1_method_18_code
def yX11_colour : MethodName := ⟨RX11, "colour", "()I"⟩
abbrev cX11_colourOf : ByteArray := prog_1_method_19_code
def yX11_colourOf : MethodName := ⟨RX11, "colourOf", "(I)I"⟩
abbrev cX11_forget : ByteArray := prog_1_method_20_code
def yX11_forget : MethodName := ⟨RX11, "forget", "()V"⟩
abbrev cX11_fits : ByteArray := prog_1_method_21_code
def yX11_fits : MethodName := ⟨RX11, "fits", "()Z"⟩
abbrev cX11_layOut : ByteArray := prog_1_method_22_code
def yX11_layOut : MethodName := ⟨RX11, "layOut", "()Z"⟩
abbrev cX11_addIfItFits : ByteArray := prog_1_method_23_code
def yX11_addIfItFits : MethodName := ⟨RX11, "addIfItFits", "(II)V"⟩
abbrev cX11_canBe : ByteArray := prog_1_method_24_code
def yX11_canBe : MethodName := ⟨RX11, "canBe", "(I)Z"⟩
abbrev cX11_bit : ByteArray := prog_1_method_25_code
def yX11_bit : MethodName := ⟨RX11, "bit", "(I)I"⟩
abbrev cX11_in : ByteArray := prog_1_method_26_code
def yX11_in : MethodName := ⟨RX11, "in", "(II)Z"⟩
abbrev cX11_leastOf : ByteArray := prog_1_method_27_code
def yX11_leastOf : MethodName := ⟨RX11, "leastOf", "(I)I"⟩
def RX12 : String := "PlaneDeskModel"
def TX12 : u_T := fun k => match k with
  | 0 => ("PlaneDeskModel", "vertices", "I", false)
  | 1 => ("PlaneDeskModel", "edges", "I", false)
  | 2 => ("PlaneDeskModel", "low", "[I", true)
  | 3 => ("PlaneDeskModel", "high", "[I", true)
  | 4 => ("PlaneDeskModel", "present", "[Z", true)
  | 5 => ("PlaneDeskModel", "block", "[I", true)
  | 6 => ("PlaneDeskModel", "blocks", "I", false)
  | 7 => ("PlaneDeskModel", "turn", "[I", true)
  | 8 => ("PlaneDeskModel", "degree", "[I", true)
  | 9 => ("PlaneDeskModel", "hasTurn", "Z", false)
  | 10 => ("PlaneDeskModel", "knot", "[I", true)
  | 11 => ("PlaneDeskModel", "knots", "I", false)
  | 12 => ("PlaneDeskModel", "placeX", "[I", true)
  | 13 => ("PlaneDeskModel", "placeY", "[I", true)
  | 14 => ("PlaneDeskModel", "placeOf", "[I", true)
  | 15 => ("PlaneDeskModel", "isDrawn", "Z", false)
  | 16 => ("PlaneDeskModel", "colour", "[I", true)
  | 17 => ("PlaneDeskModel", "isColoured", "Z", false)
  | 18 => ("PlaneDeskModel", "parent", "[I", true)
  | 19 => ("PlaneDeskModel", "parentEdge", "[I", true)
  | 20 => ("PlaneDeskModel", "far", "[I", true)
  | 21 => ("PlaneDeskModel", "queue", "[I", true)
  | 22 => ("PlaneDeskModel", "components", "I", false)
  | 23 => ("PlaneDeskModel", "numberOf", "[I", true)
  | 24 => ("PlaneDeskModel", "ring", "[I", true)
  | 25 => ("PlaneDeskModel", "length", "[I", true)
  | 26 => ("PlaneDeskModel", "rings", "I", false)
  | 27 => ("PlaneDeskModel", "isLaid", "[Z", true)
  | 28 => ("PlaneDeskModel", "laidVertices", "I", false)
  | 29 => ("PlaneDeskModel", "here", "I", false)
  | 30 => ("PlaneDeskModel", "partOf", "[I", true)
  | 31 => ("PlaneDeskModel", "feet", "[I", true)
  | 32 => ("PlaneDeskModel", "parts", "I", false)
  | 33 => ("PlaneDeskModel", "before", "[I", true)
  | 34 => ("PlaneDeskModel", "way", "[I", true)
  | 35 => ("PlaneDeskModel", "ways", "I", false)
  | 36 => ("PlaneDeskModel", "firstFit", "I", false)
  | 37 => ("PlaneDeskModel", "fits", "I", false)
  | 38 => ("PlaneDeskModel", "old", "[I", true)
  | 39 => ("PlaneDeskModel", "follows", "[I", true)
  | 40 => ("PlaneDeskModel", "faceOf", "[I", true)
  | 41 => ("PlaneDeskModel", "faceMany", "I", false)
  | 42 => ("PlaneDeskModel", "order", "[I", true)
  | 43 => ("PlaneDeskModel", "isPlaced", "[Z", true)
  | 44 => ("PlaneDeskModel", "rim", "[I", true)
  | 45 => ("PlaneDeskModel", "rims", "I", false)
  | 46 => ("PlaneDeskModel", "coming", "[I", true)
  | 47 => ("PlaneDeskModel", "comings", "I", false)
  | _ => ("PlaneDeskModel", "carries", "[I", true)
def tyX12 : Nat → FieldType := fun k => match k with
  | 0 => .int
  | 1 => .int
  | 2 => .array .int
  | 3 => .array .int
  | 4 => .array .boolean
  | 5 => .array .int
  | 6 => .int
  | 7 => .array .int
  | 8 => .array .int
  | 9 => .boolean
  | 10 => .array .int
  | 11 => .int
  | 12 => .array .int
  | 13 => .array .int
  | 14 => .array .int
  | 15 => .boolean
  | 16 => .array .int
  | 17 => .boolean
  | 18 => .array .int
  | 19 => .array .int
  | 20 => .array .int
  | 21 => .array .int
  | 22 => .int
  | 23 => .array .int
  | 24 => .array .int
  | 25 => .array .int
  | 26 => .int
  | 27 => .array .boolean
  | 28 => .int
  | 29 => .int
  | 30 => .array .int
  | 31 => .array .int
  | 32 => .int
  | 33 => .array .int
  | 34 => .array .int
  | 35 => .int
  | 36 => .int
  | 37 => .int
  | 38 => .array .int
  | 39 => .array .int
  | 40 => .array .int
  | 41 => .int
  | 42 => .array .int
  | 43 => .array .boolean
  | 44 => .array .int
  | 45 => .int
  | 46 => .array .int
  | 47 => .int
  | _ => .array .int
abbrev wsX120 : List Cond := u_ws RX12 TX12 49
theorem nmX12 : ∀ a, a < 49 → ∀ b, b < 49 → a ≠ b → (TX12 a).2.1 ≠ (TX12 b).2.1 := by decide +kernel
theorem tyX12_ok : ∀ k, k < 49 → parseFieldDescriptor (TX12 k).2.2.1 = some (tyX12 k) := by decide +kernel
abbrev cX12_init : ByteArray := prog_14_method_1_code
def yX12_init : MethodName := ⟨RX12, "<init>", "()V"⟩
abbrev cX12_isIn : ByteArray := prog_14_method_2_code
def yX12_isIn : MethodName := ⟨RX12, "isIn", "(III)Z"⟩
abbrev cX12_isVertex : ByteArray := prog_14_method_3_code
def yX12_isVertex : MethodName := ⟨RX12, "isVertex", "(I)Z"⟩
abbrev cX12_forget : ByteArray := prog_14_method_4_code
def yX12_forget : MethodName := ⟨RX12, "forget", "()V"⟩
abbrev cX12_graph : ByteArray := prog_14_method_5_code
def yX12_graph : MethodName := ⟨RX12, "graph", "(I)Z"⟩
abbrev cX12_edgeOf : ByteArray := prog_14_method_6_code
def yX12_edgeOf : MethodName := ⟨RX12, "edgeOf", "(II)I"⟩
abbrev cX12_put : ByteArray := prog_14_method_7_code
def yX12_put : MethodName := ⟨RX12, "put", "(II)V"⟩
abbrev cX12_join : ByteArray := prog_14_method_8_code
def yX12_join : MethodName := ⟨RX12, "join", "(II)I"⟩
abbrev cX12_cut : ByteArray := prog_14_method_9_code
def yX12_cut : MethodName := ⟨RX12, "cut", "(I)Z"⟩
abbrev cX12_all : ByteArray := prog_14_method_10_code
def yX12_all : MethodName := ⟨RX12, "all", "()V"⟩
abbrev cX12_other : ByteArray := prog_14_method_11_code
def yX12_other : MethodName := ⟨RX12, "other", "(II)I"⟩
abbrev cX12_forest : ByteArray := prog_14_method_12_code
def yX12_forest : MethodName := ⟨RX12, "forest", "()V"⟩
abbrev cX12_spread : ByteArray := prog_14_method_13_code
def yX12_spread : MethodName := ⟨RX12, "spread", "(II)I"⟩
abbrev cX12_unite : ByteArray := prog_14_method_14_code
def yX12_unite : MethodName := ⟨RX12, "unite", "(II)V"⟩
abbrev cX12_makeBlocks : ByteArray := prog_14_method_15_code
def yX12_makeBlocks : MethodName := ⟨RX12, "makeBlocks", "()V"⟩
abbrev cX12_number : ByteArray := prog_14_method_16_code
def yX12_number : MethodName := ⟨RX12, "number", "()V"⟩
abbrev cX12_isHere : ByteArray := prog_14_method_17_code
def yX12_isHere : MethodName := ⟨RX12, "isHere", "(I)Z"⟩
abbrev cX12_sizeOf : ByteArray := prog_14_method_18_code
def yX12_sizeOf : MethodName := ⟨RX12, "sizeOf", "(I)I"⟩
abbrev cX12_leastEdge : ByteArray := prog_14_method_19_code
def yX12_leastEdge : MethodName := ⟨RX12, "leastEdge", "(I)I"⟩
abbrev cX12_find : ByteArray := prog_14_method_20_code
def yX12_find : MethodName := ⟨RX12, "find", "(IIIII)I"⟩
abbrev cX12_allVertices : ByteArray := prog_14_method_21_code
def yX12_allVertices : MethodName := ⟨RX12, "allVertices", "()I"⟩
abbrev cX12_takeWay : ByteArray := prog_14_method_22_code
def yX12_takeWay : MethodName := ⟨RX12, "takeWay", "(II)V"⟩
abbrev cX12_firstRings : ByteArray := prog_14_method_23_code
def yX12_firstRings : MethodName := ⟨RX12, "firstRings", "(I)V"⟩
abbrev cX12_makeParts : ByteArray := prog_14_method_24_code
def yX12_makeParts : MethodName := ⟨RX12, "makeParts", "()V"⟩
abbrev cX12_ringSet : ByteArray := prog_14_method_25_code
def yX12_ringSet : MethodName := ⟨RX12, "ringSet", "(I)I"⟩
abbrev cX12_fit : ByteArray := prog_14_method_26_code
def yX12_fit : MethodName := ⟨RX12, "fit", "(I)V"⟩
abbrev cX12_nextPart : ByteArray := prog_14_method_27_code
def yX12_nextPart : MethodName := ⟨RX12, "nextPart", "()I"⟩
abbrev cX12_layPart : ByteArray := prog_14_method_28_code
def yX12_layPart : MethodName := ⟨RX12, "layPart", "(I)V"⟩
abbrev cX12_markWay : ByteArray := prog_14_method_29_code
def yX12_markWay : MethodName := ⟨RX12, "markWay", "(II)V"⟩
abbrev cX12_layBlock : ByteArray := prog_14_method_30_code
def yX12_layBlock : MethodName := ⟨RX12, "layBlock", "(I)Z"⟩
abbrev cX12_layAll : ByteArray := prog_14_method_31_code
def yX12_layAll : MethodName := ⟨RX12, "layAll", "(Z)Z"⟩
abbrev cX12_tellNeighbours : ByteArray := prog_14_method_32_code
def yX12_tellNeighbours : MethodName := ⟨RX12, "tellNeighbours", "()V"⟩
abbrev cX12_turnOf : ByteArray := prog_14_method_33_code
def yX12_turnOf : MethodName := ⟨RX12, "turnOf", "(II)V"⟩
abbrev cX12_isPlane : ByteArray := prog_14_method_34_code
def yX12_isPlane : MethodName := ⟨RX12, "isPlane", "()Z"⟩
abbrev cX12_edge : ByteArray := prog_14_method_35_code
def yX12_edge : MethodName := ⟨RX12, "edge", "(II)I"⟩
abbrev cX12_lonely : ByteArray := prog_14_method_36_code
def yX12_lonely : MethodName := ⟨RX12, "lonely", "()I"⟩
abbrev cX12_about : ByteArray := prog_14_method_37_code
def yX12_about : MethodName := ⟨RX12, "about", "(I)I"⟩
abbrev cX12_lay : ByteArray := prog_14_method_38_code
def yX12_lay : MethodName := ⟨RX12, "lay", "()I"⟩
abbrev cX12_makeKnot : ByteArray := prog_14_method_39_code
def yX12_makeKnot : MethodName := ⟨RX12, "makeKnot", "()V"⟩
abbrev cX12_turn : ByteArray := prog_14_method_40_code
def yX12_turn : MethodName := ⟨RX12, "turn", "(II)I"⟩
abbrev cX12_swap : ByteArray := prog_14_method_41_code
def yX12_swap : MethodName := ⟨RX12, "swap", "(III)Z"⟩
abbrev cX12_tail : ByteArray := prog_14_method_42_code
def yX12_tail : MethodName := ⟨RX12, "tail", "(I)I"⟩
abbrev cX12_dart : ByteArray := prog_14_method_43_code
def yX12_dart : MethodName := ⟨RX12, "dart", "(II)I"⟩
abbrev cX12_following : ByteArray := prog_14_method_44_code
def yX12_following : MethodName := ⟨RX12, "following", "(I)I"⟩
abbrev cX12_makeFaces : ByteArray := prog_14_method_45_code
def yX12_makeFaces : MethodName := ⟨RX12, "makeFaces", "()V"⟩
abbrev cX12_faces : ByteArray := prog_14_method_46_code
def yX12_faces : MethodName := ⟨RX12, "faces", "()I"⟩
abbrev cX12_face : ByteArray := prog_14_method_47_code
def yX12_face : MethodName := ⟨RX12, "face", "(II)I"⟩
abbrev cX12_genus : ByteArray := prog_14_method_48_code
def yX12_genus : MethodName := ⟨RX12, "genus", "()I"⟩
abbrev cX12_knotDegree : ByteArray := prog_14_method_49_code
def yX12_knotDegree : MethodName := ⟨RX12, "knotDegree", "(I)I"⟩
abbrev cX12_branch : ByteArray := prog_14_method_50_code
def yX12_branch : MethodName := ⟨RX12, "branch", "(I)I"⟩
abbrev cX12_knot : ByteArray := prog_14_method_51_code
def yX12_knot : MethodName := ⟨RX12, "knot", "(I)I"⟩
abbrev cX12_could : ByteArray := prog_14_method_52_code
def yX12_could : MethodName := ⟨RX12, "could", "(II)Z"⟩
abbrev cX12_may : ByteArray := prog_14_method_53_code
def yX12_may : MethodName := ⟨RX12, "may", "(II)I"⟩
abbrev cX12_fill : ByteArray := prog_14_method_54_code
def yX12_fill : MethodName := ⟨RX12, "fill", "()I"⟩
abbrev cX12_rimPlace : ByteArray := prog_14_method_55_code
def yX12_rimPlace : MethodName := ⟨RX12, "rimPlace", "(I)I"⟩
abbrev cX12_isFree : ByteArray := prog_14_method_56_code
def yX12_isFree : MethodName := ⟨RX12, "isFree", "(I)Z"⟩
abbrev cX12_turnPlace : ByteArray := prog_14_method_57_code
def yX12_turnPlace : MethodName := ⟨RX12, "turnPlace", "(II)I"⟩
abbrev cX12_isNew : ByteArray := prog_14_method_58_code
def yX12_isNew : MethodName := ⟨RX12, "isNew", "(I)Z"⟩
abbrev cX12_gather : ByteArray := prog_14_method_59_code
def yX12_gather : MethodName := ⟨RX12, "gather", "(IIII)Z"⟩
abbrev cX12_makeOrder : ByteArray := prog_14_method_60_code
def yX12_makeOrder : MethodName := ⟨RX12, "makeOrder", "()V"⟩
abbrev cX12_move : ByteArray := prog_14_method_61_code
def yX12_move : MethodName := ⟨RX12, "move", "(II)V"⟩
abbrev cX12_set : ByteArray := prog_14_method_62_code
def yX12_set : MethodName := ⟨RX12, "set", "(III)V"⟩
abbrev cX12_makePlaces : ByteArray := prog_14_method_63_code
def yX12_makePlaces : MethodName := ⟨RX12, "makePlaces", "()V"⟩
abbrev cX12_draw : ByteArray := prog_14_method_64_code
def yX12_draw : MethodName := ⟨RX12, "draw", "()Z"⟩
abbrev cX12_at : ByteArray := prog_14_method_65_code
def yX12_at : MethodName := ⟨RX12, "at", "(II)I"⟩
abbrev cX12_joined : ByteArray := prog_14_method_66_code
def yX12_joined : MethodName := ⟨RX12, "joined", "(II)I"⟩
abbrev cX12_colour : ByteArray := prog_14_method_67_code
def yX12_colour : MethodName := ⟨RX12, "colour", "()I"⟩
abbrev cX12_colourOf : ByteArray := prog_14_method_68_code
def yX12_colourOf : MethodName := ⟨RX12, "colourOf", "(I)I"⟩
def RJ6 : String := "java/lang/Integer"
def TJ6 : u_T := fun k => match k with
  | _ => ("", "", "", false)
def tyJ6 : Nat → FieldType := fun k => match k with
  | _ => .int
abbrev wsJ60 : List Cond := u_ws RJ6 TJ6 0
theorem nmJ6 : ∀ a, a < 0 → ∀ b, b < 0 → a ≠ b → (TJ6 a).2.1 ≠ (TJ6 b).2.1 := by decide +kernel
theorem tyJ6_ok : ∀ k, k < 0 → parseFieldDescriptor (TJ6 k).2.2.1 = some (tyJ6 k) := by decide +kernel
abbrev cJ6_bitCount_0f7a4 : ByteArray := prog_15_method_49_code
def yJ6_bitCount_0f7a4 : MethodName := ⟨RJ6, "bitCount", "(I)I"⟩
def RJ9 : String := "java/lang/Math"
def TJ9 : u_T := fun k => match k with
  | _ => ("", "", "", false)
def tyJ9 : Nat → FieldType := fun k => match k with
  | _ => .int
abbrev wsJ90 : List Cond := u_ws RJ9 TJ9 0
theorem nmJ9 : ∀ a, a < 0 → ∀ b, b < 0 → a ≠ b → (TJ9 a).2.1 ≠ (TJ9 b).2.1 := by decide +kernel
theorem tyJ9_ok : ∀ k, k < 0 → parseFieldDescriptor (TJ9 k).2.2.1 = some (tyJ9 k) := by decide +kernel
abbrev cJ9_max_7cf53 : ByteArray := prog_16_method_65_code
def yJ9_max_7cf53 : MethodName := ⟨RJ9, "max", "(II)I"⟩
abbrev cJ9_min_7cf53 : ByteArray := prog_16_method_69_code
def yJ9_min_7cf53 : MethodName := ⟨RJ9, "min", "(II)I"⟩
def RJ7 : String := "java/util/Arrays"
def TJ7 : u_T := fun k => match k with
  | _ => ("", "", "", false)
def tyJ7 : Nat → FieldType := fun k => match k with
  | _ => .int
abbrev wsJ70 : List Cond := u_ws RJ7 TJ7 0
theorem nmJ7 : ∀ a, a < 0 → ∀ b, b < 0 → a ≠ b → (TJ7 a).2.1 ≠ (TJ7 b).2.1 := by decide +kernel
theorem tyJ7_ok : ∀ k, k < 0 → parseFieldDescriptor (TJ7 k).2.2.1 = some (tyJ7 k) := by decide +kernel
abbrev cJ7_fill_53178 : ByteArray := prog_17_method_103_code
def yJ7_fill_53178 : MethodName := ⟨RJ7, "fill", "([II)V"⟩
def RL : String := "PlaneDeskLaw"
abbrev cL_law : ByteArray := code
def yL_law : MethodName := ⟨RL, "law", "([I)Z"⟩
abbrev vwCl : List vw_C := [(RX0, TX0, 9), (RX1, TX1, 2), (RX2, TX2, 7), (RX3, TX3, 12), (RX4, TX4, 5), (RX5, TX5, 4), (RX6, TX6, 2), (RX7, TX7, 4), (RX8, TX8, 3), (RX9, TX9, 1), (RX10, TX10, 5), (RX11, TX11, 13), (RX12, TX12, 49)]
end
section
/-- pc, instruction, length, what it is resolved to -/
abbrev mi_I : Type := Nat × Instr × Nat × Nat × Nat × Nat
def tb_0 : List mi_I := [(0, .aload_n 0, 1, 0, 0, 0), (1, .invokespecial 3, 3, 999, 1, 0), (4, .aload_n 0, 1, 0, 0, 0), (5, .bipush 20, 2, 0, 0, 0), (7, .newarray .int, 2, 0, 0, 0), (9, .putfield 9, 3, 0, 0, 0), (12, .aload_n 0, 1, 0, 0, 0), (13, .bipush 20, 2, 0, 0, 0), (15, .newarray .int, 2, 0, 0, 0), (17, .putfield 15, 3, 0, 1, 0), (20, .aload_n 0, 1, 0, 0, 0), (21, .bipush 20, 2, 0, 0, 0), (23, .newarray .int, 2, 0, 0, 0), (25, .putfield 18, 3, 0, 2, 0), (28, .aload_n 0, 1, 0, 0, 0), (29, .bipush 20, 2, 0, 0, 0), (31, .newarray .int, 2, 0, 0, 0), (33, .putfield 21, 3, 0, 3, 0), (36, .aload_n 0, 1, 0, 0, 0), (37, .bipush 60, 2, 0, 0, 0), (39, .newarray .int, 2, 0, 0, 0), (41, .putfield 24, 3, 0, 4, 0), (44, .aload_n 0, 1, 0, 0, 0), (45, .new 27, 3, 6, 2, 0), (48, .dup, 1, 0, 0, 0), (49, .bipush 20, 2, 0, 0, 0), (51, .invokespecial 29, 3, 62, 2, 6), (54, .putfield 32, 3, 0, 5, 0), (57, .return_, 1, 0, 0, 0)]
def tb_1 : List mi_I := [(0, .iload_n 1, 1, 0, 0, 0), (1, .ifCond .lt 18, 3, 19, 0, 0), (4, .iload_n 1, 1, 0, 0, 0), (5, .bipush 60, 2, 0, 0, 0), (7, .if_icmp .ge 12, 3, 19, 0, 0), (10, .aload_n 0, 1, 0, 0, 0), (11, .getfield 24, 3, 0, 4, 0), (14, .iload_n 1, 1, 0, 0, 0), (15, .iaload, 1, 0, 0, 0), (16, .goto 4, 3, 20, 0, 0), (19, .iconst (-1), 1, 0, 0, 0), (20, .ireturn, 1, 0, 0, 0)]
def tb_2 : List mi_I := [(0, .aload_n 0, 1, 0, 0, 0), (1, .iconst 0, 1, 0, 0, 0), (2, .putfield 36, 3, 0, 6, 0), (5, .aload_n 0, 1, 0, 0, 0), (6, .iconst 0, 1, 0, 0, 0), (7, .putfield 40, 3, 0, 7, 0), (10, .iconst 0, 1, 0, 0, 0), (11, .istore_n 2, 1, 0, 0, 0), (12, .iload_n 2, 1, 0, 0, 0), (13, .aload_n 1, 1, 0, 0, 0), (14, .getfield 43, 3, 4, 3, 0), (17, .if_icmp .ge 36, 3, 53, 0, 0), (20, .aload_n 0, 1, 0, 0, 0), (21, .getfield 36, 3, 0, 6, 0), (24, .iload_n 2, 1, 0, 0, 0), (25, .invokestatic 48, 3, 121, 2, 11), (28, .ifCond .ne 19, 3, 47, 0, 0), (31, .aload_n 0, 1, 0, 0, 0), (32, .dup, 1, 0, 0, 0), (33, .getfield 40, 3, 0, 7, 0), (36, .iconst 1, 1, 0, 0, 0), (37, .iadd, 1, 0, 0, 0), (38, .putfield 40, 3, 0, 7, 0), (41, .aload_n 0, 1, 0, 0, 0), (42, .aload_n 1, 1, 0, 0, 0), (43, .iload_n 2, 1, 0, 0, 0), (44, .invokevirtual 52, 3, 3, 3, 0), (47, .iinc 2 1, 3, 0, 0, 0), (50, .goto (-38), 3, 12, 0, 0), (53, .iconst 0, 1, 0, 0, 0), (54, .istore_n 2, 1, 0, 0, 0), (55, .iload_n 2, 1, 0, 0, 0), (56, .aload_n 1, 1, 0, 0, 0), (57, .getfield 56, 3, 4, 4, 0), (60, .if_icmp .ge 23, 3, 83, 0, 0), (63, .aload_n 0, 1, 0, 0, 0), (64, .aload_n 1, 1, 0, 0, 0), (65, .iload_n 2, 1, 0, 0, 0), (66, .invokevirtual 59, 3, 44, 2, 4), (69, .aload_n 1, 1, 0, 0, 0), (70, .iload_n 2, 1, 0, 0, 0), (71, .invokevirtual 63, 3, 45, 2, 4), (74, .invokevirtual 66, 3, 6, 3, 0), (77, .iinc 2 1, 3, 0, 0, 0), (80, .goto (-25), 3, 55, 0, 0), (83, .aload_n 0, 1, 0, 0, 0), (84, .aload_n 1, 1, 0, 0, 0), (85, .invokevirtual 70, 3, 9, 2, 0), (88, .return_, 1, 0, 0, 0)]
def tb_3 : List mi_I := [(0, .aload_n 0, 1, 0, 0, 0), (1, .getfield 32, 3, 0, 5, 0), (4, .invokevirtual 74, 3, 64, 1, 6), (7, .aload_n 0, 1, 0, 0, 0), (8, .iload_n 2, 1, 0, 0, 0), (9, .iconst (-1), 1, 0, 0, 0), (10, .iconst 0, 1, 0, 0, 0), (11, .invokevirtual 77, 3, 4, 4, 0), (14, .iconst 0, 1, 0, 0, 0), (15, .istore_n 3, 1, 0, 0, 0), (16, .iload_n 3, 1, 0, 0, 0), (17, .bipush 20, 2, 0, 0, 0), (19, .if_icmp .ge 111, 3, 130, 0, 0), (22, .iload_n 3, 1, 0, 0, 0), (23, .aload_n 0, 1, 0, 0, 0), (24, .getfield 32, 3, 0, 5, 0), (27, .invokevirtual 81, 3, 63, 1, 6), (30, .if_icmp .ge 100, 3, 130, 0, 0), (33, .aload_n 0, 1, 0, 0, 0), (34, .getfield 32, 3, 0, 5, 0), (37, .iload_n 3, 1, 0, 0, 0), (38, .invokevirtual 85, 3, 66, 2, 6), (41, .istore 4, 2, 0, 0, 0), (43, .aload_n 1, 1, 0, 0, 0), (44, .iload 4, 2, 0, 0, 0), (46, .invokevirtual 88, 3, 46, 2, 4), (49, .aload_n 0, 1, 0, 0, 0), (50, .getfield 36, 3, 0, 6, 0), (53, .iconst (-1), 1, 0, 0, 0), (54, .ixor, 1, 0, 0, 0), (55, .iand, 1, 0, 0, 0), (56, .istore 5, 2, 0, 0, 0), (58, .iload 4, 2, 0, 0, 0), (60, .invokestatic 91, 3, 119, 1, 11), (63, .ifCond .eq 15, 3, 78, 0, 0), (66, .aload_n 0, 1, 0, 0, 0), (67, .getfield 15, 3, 0, 1, 0), (70, .iload 4, 2, 0, 0, 0), (72, .iaload, 1, 0, 0, 0), (73, .iconst 1, 1, 0, 0, 0), (74, .iadd, 1, 0, 0, 0), (75, .goto 4, 3, 79, 0, 0), (78, .iconst 0, 1, 0, 0, 0), (79, .istore 6, 2, 0, 0, 0), (81, .iconst 0, 1, 0, 0, 0), (82, .istore 7, 2, 0, 0, 0), (84, .iload 7, 2, 0, 0, 0), (86, .aload_n 1, 1, 0, 0, 0), (87, .getfield 43, 3, 4, 3, 0), (90, .if_icmp .ge 34, 3, 124, 0, 0), (93, .iload 5, 2, 0, 0, 0), (95, .ifCond .eq 29, 3, 124, 0, 0), (98, .iload 5, 2, 0, 0, 0), (100, .iload 7, 2, 0, 0, 0), (102, .invokestatic 48, 3, 121, 2, 11), (105, .ifCond .eq 13, 3, 118, 0, 0), (108, .aload_n 0, 1, 0, 0, 0), (109, .iload 7, 2, 0, 0, 0), (111, .iload 4, 2, 0, 0, 0), (113, .iload 6, 2, 0, 0, 0), (115, .invokevirtual 77, 3, 4, 4, 0), (118, .iinc 7 1, 3, 0, 0, 0), (121, .goto (-37), 3, 84, 0, 0), (124, .iinc 3 1, 3, 0, 0, 0), (127, .goto (-111), 3, 16, 0, 0), (130, .return_, 1, 0, 0, 0)]
def tb_4 : List mi_I := [(0, .iload_n 1, 1, 0, 0, 0), (1, .invokestatic 91, 3, 119, 1, 11), (4, .ifCond .ne 4, 3, 8, 0, 0), (7, .return_, 1, 0, 0, 0), (8, .aload_n 0, 1, 0, 0, 0), (9, .dup, 1, 0, 0, 0), (10, .getfield 36, 3, 0, 6, 0), (13, .iload_n 1, 1, 0, 0, 0), (14, .invokestatic 95, 3, 120, 1, 11), (17, .ior, 1, 0, 0, 0), (18, .putfield 36, 3, 0, 6, 0), (21, .aload_n 0, 1, 0, 0, 0), (22, .getfield 9, 3, 0, 0, 0), (25, .iload_n 1, 1, 0, 0, 0), (26, .iload_n 2, 1, 0, 0, 0), (27, .iastore, 1, 0, 0, 0), (28, .aload_n 0, 1, 0, 0, 0), (29, .getfield 15, 3, 0, 1, 0), (32, .iload_n 1, 1, 0, 0, 0), (33, .iload_n 3, 1, 0, 0, 0), (34, .iastore, 1, 0, 0, 0), (35, .aload_n 0, 1, 0, 0, 0), (36, .getfield 18, 3, 0, 2, 0), (39, .iload_n 1, 1, 0, 0, 0), (40, .iload_n 1, 1, 0, 0, 0), (41, .iastore, 1, 0, 0, 0), (42, .aload_n 0, 1, 0, 0, 0), (43, .getfield 21, 3, 0, 3, 0), (46, .iload_n 1, 1, 0, 0, 0), (47, .iconst (-1), 1, 0, 0, 0), (48, .iastore, 1, 0, 0, 0), (49, .aload_n 0, 1, 0, 0, 0), (50, .getfield 32, 3, 0, 5, 0), (53, .iload_n 1, 1, 0, 0, 0), (54, .invokevirtual 98, 3, 65, 2, 6), (57, .return_, 1, 0, 0, 0)]
def tb_5 : List mi_I := [(0, .iload_n 1, 1, 0, 0, 0), (1, .invokestatic 91, 3, 119, 1, 11), (4, .ifCond .eq 10, 3, 14, 0, 0), (7, .iload_n 2, 1, 0, 0, 0), (8, .invokestatic 91, 3, 119, 1, 11), (11, .ifCond .ne 7, 3, 18, 0, 0), (14, .iconst (-1), 1, 0, 0, 0), (15, .goto 23, 3, 38, 0, 0), (18, .aload_n 0, 1, 0, 0, 0), (19, .getfield 15, 3, 0, 1, 0), (22, .iload_n 1, 1, 0, 0, 0), (23, .iaload, 1, 0, 0, 0), (24, .aload_n 0, 1, 0, 0, 0), (25, .getfield 15, 3, 0, 1, 0), (28, .iload_n 2, 1, 0, 0, 0), (29, .iaload, 1, 0, 0, 0), (30, .if_icmp .le 7, 3, 37, 0, 0), (33, .iload_n 1, 1, 0, 0, 0), (34, .goto 4, 3, 38, 0, 0), (37, .iload_n 2, 1, 0, 0, 0), (38, .ireturn, 1, 0, 0, 0)]
def tb_6 : List mi_I := [(0, .iload_n 1, 1, 0, 0, 0), (1, .istore_n 3, 1, 0, 0, 0), (2, .iload_n 2, 1, 0, 0, 0), (3, .istore 4, 2, 0, 0, 0), (5, .aload_n 0, 1, 0, 0, 0), (6, .iload_n 3, 1, 0, 0, 0), (7, .iload 4, 2, 0, 0, 0), (9, .invokevirtual 101, 3, 5, 3, 0), (12, .istore 5, 2, 0, 0, 0), (14, .iconst 0, 1, 0, 0, 0), (15, .istore 6, 2, 0, 0, 0), (17, .iload 6, 2, 0, 0, 0), (19, .bipush 40, 2, 0, 0, 0), (21, .if_icmp .ge 66, 3, 87, 0, 0), (24, .iload_n 3, 1, 0, 0, 0), (25, .iload 4, 2, 0, 0, 0), (27, .if_icmp .eq 60, 3, 87, 0, 0), (30, .aload_n 0, 1, 0, 0, 0), (31, .iload_n 3, 1, 0, 0, 0), (32, .iload 4, 2, 0, 0, 0), (34, .invokevirtual 101, 3, 5, 3, 0), (37, .istore 7, 2, 0, 0, 0), (39, .iload 7, 2, 0, 0, 0), (41, .invokestatic 91, 3, 119, 1, 11), (44, .ifCond .ne 4, 3, 48, 0, 0), (47, .return_, 1, 0, 0, 0), (48, .aload_n 0, 1, 0, 0, 0), (49, .iload 5, 2, 0, 0, 0), (51, .iload 7, 2, 0, 0, 0), (53, .invokevirtual 105, 3, 7, 3, 0), (56, .iload 7, 2, 0, 0, 0), (58, .iload_n 3, 1, 0, 0, 0), (59, .if_icmp .ne 13, 3, 72, 0, 0), (62, .aload_n 0, 1, 0, 0, 0), (63, .getfield 9, 3, 0, 0, 0), (66, .iload_n 3, 1, 0, 0, 0), (67, .iaload, 1, 0, 0, 0), (68, .istore_n 3, 1, 0, 0, 0), (69, .goto 12, 3, 81, 0, 0), (72, .aload_n 0, 1, 0, 0, 0), (73, .getfield 9, 3, 0, 0, 0), (76, .iload 4, 2, 0, 0, 0), (78, .iaload, 1, 0, 0, 0), (79, .istore 4, 2, 0, 0, 0), (81, .iinc 6 1, 3, 0, 0, 0), (84, .goto (-67), 3, 17, 0, 0), (87, .return_, 1, 0, 0, 0)]
def tb_7 : List mi_I := [(0, .aload_n 0, 1, 0, 0, 0), (1, .iload_n 1, 1, 0, 0, 0), (2, .invokevirtual 108, 3, 8, 2, 0), (5, .istore_n 3, 1, 0, 0, 0), (6, .aload_n 0, 1, 0, 0, 0), (7, .iload_n 2, 1, 0, 0, 0), (8, .invokevirtual 108, 3, 8, 2, 0), (11, .istore 4, 2, 0, 0, 0), (13, .iload_n 3, 1, 0, 0, 0), (14, .invokestatic 91, 3, 119, 1, 11), (17, .ifCond .eq 19, 3, 36, 0, 0), (20, .iload 4, 2, 0, 0, 0), (22, .invokestatic 91, 3, 119, 1, 11), (25, .ifCond .eq 11, 3, 36, 0, 0), (28, .aload_n 0, 1, 0, 0, 0), (29, .getfield 18, 3, 0, 2, 0), (32, .iload_n 3, 1, 0, 0, 0), (33, .iload 4, 2, 0, 0, 0), (35, .iastore, 1, 0, 0, 0), (36, .return_, 1, 0, 0, 0)]
def tb_8 : List mi_I := [(0, .iload_n 1, 1, 0, 0, 0), (1, .istore_n 2, 1, 0, 0, 0), (2, .iconst 0, 1, 0, 0, 0), (3, .istore_n 3, 1, 0, 0, 0), (4, .iload_n 3, 1, 0, 0, 0), (5, .bipush 20, 2, 0, 0, 0), (7, .if_icmp .ge 38, 3, 45, 0, 0), (10, .iload_n 2, 1, 0, 0, 0), (11, .ifCond .lt 34, 3, 45, 0, 0), (14, .iload_n 2, 1, 0, 0, 0), (15, .bipush 20, 2, 0, 0, 0), (17, .if_icmp .ge 28, 3, 45, 0, 0), (20, .aload_n 0, 1, 0, 0, 0), (21, .getfield 18, 3, 0, 2, 0), (24, .iload_n 2, 1, 0, 0, 0), (25, .iaload, 1, 0, 0, 0), (26, .iload_n 2, 1, 0, 0, 0), (27, .if_icmp .ne 5, 3, 32, 0, 0), (30, .iload_n 2, 1, 0, 0, 0), (31, .ireturn, 1, 0, 0, 0), (32, .aload_n 0, 1, 0, 0, 0), (33, .getfield 18, 3, 0, 2, 0), (36, .iload_n 2, 1, 0, 0, 0), (37, .iaload, 1, 0, 0, 0), (38, .istore_n 2, 1, 0, 0, 0), (39, .iinc 3 1, 3, 0, 0, 0), (42, .goto (-38), 3, 4, 0, 0), (45, .iconst (-1), 1, 0, 0, 0), (46, .ireturn, 1, 0, 0, 0)]
def tb_9 : List mi_I := [(0, .aload_n 0, 1, 0, 0, 0), (1, .iconst 0, 1, 0, 0, 0), (2, .putfield 111, 3, 0, 8, 0), (5, .iconst 0, 1, 0, 0, 0), (6, .istore_n 2, 1, 0, 0, 0), (7, .iload_n 2, 1, 0, 0, 0), (8, .aload_n 1, 1, 0, 0, 0), (9, .getfield 56, 3, 4, 4, 0), (12, .if_icmp .ge 80, 3, 92, 0, 0), (15, .aload_n 0, 1, 0, 0, 0), (16, .aload_n 0, 1, 0, 0, 0), (17, .aload_n 1, 1, 0, 0, 0), (18, .iload_n 2, 1, 0, 0, 0), (19, .invokevirtual 59, 3, 44, 2, 4), (22, .aload_n 1, 1, 0, 0, 0), (23, .iload_n 2, 1, 0, 0, 0), (24, .invokevirtual 63, 3, 45, 2, 4), (27, .invokevirtual 101, 3, 5, 3, 0), (30, .invokevirtual 108, 3, 8, 2, 0), (33, .istore_n 3, 1, 0, 0, 0), (34, .iload_n 3, 1, 0, 0, 0), (35, .invokestatic 91, 3, 119, 1, 11), (38, .ifCond .ne 6, 3, 44, 0, 0), (41, .goto 45, 3, 86, 0, 0), (44, .aload_n 0, 1, 0, 0, 0), (45, .getfield 21, 3, 0, 3, 0), (48, .iload_n 3, 1, 0, 0, 0), (49, .iaload, 1, 0, 0, 0), (50, .iconst (-1), 1, 0, 0, 0), (51, .if_icmp .ne 23, 3, 74, 0, 0), (54, .aload_n 0, 1, 0, 0, 0), (55, .getfield 21, 3, 0, 3, 0), (58, .iload_n 3, 1, 0, 0, 0), (59, .aload_n 0, 1, 0, 0, 0), (60, .getfield 111, 3, 0, 8, 0), (63, .iastore, 1, 0, 0, 0), (64, .aload_n 0, 1, 0, 0, 0), (65, .dup, 1, 0, 0, 0), (66, .getfield 111, 3, 0, 8, 0), (69, .iconst 1, 1, 0, 0, 0), (70, .iadd, 1, 0, 0, 0), (71, .putfield 111, 3, 0, 8, 0), (74, .aload_n 0, 1, 0, 0, 0), (75, .getfield 24, 3, 0, 4, 0), (78, .iload_n 2, 1, 0, 0, 0), (79, .aload_n 0, 1, 0, 0, 0), (80, .getfield 21, 3, 0, 3, 0), (83, .iload_n 3, 1, 0, 0, 0), (84, .iaload, 1, 0, 0, 0), (85, .iastore, 1, 0, 0, 0), (86, .iinc 2 1, 3, 0, 0, 0), (89, .goto (-82), 3, 7, 0, 0), (92, .return_, 1, 0, 0, 0)]
def tb_10 : List mi_I := [(0, .aload_n 0, 1, 0, 0, 0), (1, .invokespecial 3, 3, 999, 1, 0), (4, .aload_n 0, 1, 0, 0, 0), (5, .bipush 20, 2, 0, 0, 0), (7, .newarray .int, 2, 0, 0, 0), (9, .putfield 9, 3, 1, 0, 0), (12, .aload_n 0, 1, 0, 0, 0), (13, .new 15, 3, 6, 2, 0), (16, .dup, 1, 0, 0, 0), (17, .bipush 20, 2, 0, 0, 0), (19, .invokespecial 17, 3, 62, 2, 6), (22, .putfield 20, 3, 1, 1, 0), (25, .return_, 1, 0, 0, 0)]
def tb_11 : List mi_I := [(0, .aload_n 0, 1, 0, 0, 0), (1, .aload_n 1, 1, 0, 0, 0), (2, .invokevirtual 24, 3, 12, 2, 1), (5, .iconst 0, 1, 0, 0, 0), (6, .istore_n 2, 1, 0, 0, 0), (7, .iconst 0, 1, 0, 0, 0), (8, .istore_n 3, 1, 0, 0, 0), (9, .aload_n 0, 1, 0, 0, 0), (10, .getfield 20, 3, 1, 1, 0), (13, .invokevirtual 28, 3, 63, 1, 6), (16, .iconst 1, 1, 0, 0, 0), (17, .isub, 1, 0, 0, 0), (18, .istore 4, 2, 0, 0, 0), (20, .iload 4, 2, 0, 0, 0), (22, .ifCond .lt 68, 3, 90, 0, 0), (25, .aload_n 0, 1, 0, 0, 0), (26, .getfield 20, 3, 1, 1, 0), (29, .iload 4, 2, 0, 0, 0), (31, .invokevirtual 32, 3, 66, 2, 6), (34, .istore 5, 2, 0, 0, 0), (36, .aload_n 0, 1, 0, 0, 0), (37, .aload_n 1, 1, 0, 0, 0), (38, .iload 5, 2, 0, 0, 0), (40, .invokevirtual 36, 3, 46, 2, 4), (43, .iload_n 3, 1, 0, 0, 0), (44, .iand, 1, 0, 0, 0), (45, .invokevirtual 41, 3, 14, 2, 1), (48, .istore 6, 2, 0, 0, 0), (50, .iload 5, 2, 0, 0, 0), (52, .invokestatic 44, 3, 119, 1, 11), (55, .ifCond .eq 12, 3, 67, 0, 0), (58, .aload_n 0, 1, 0, 0, 0), (59, .getfield 9, 3, 1, 0, 0), (62, .iload 5, 2, 0, 0, 0), (64, .iload 6, 2, 0, 0, 0), (66, .iastore, 1, 0, 0, 0), (67, .iload_n 3, 1, 0, 0, 0), (68, .iload 5, 2, 0, 0, 0), (70, .invokestatic 48, 3, 120, 1, 11), (73, .ior, 1, 0, 0, 0), (74, .istore_n 3, 1, 0, 0, 0), (75, .iload_n 2, 1, 0, 0, 0), (76, .iload 6, 2, 0, 0, 0), (78, .iconst 1, 1, 0, 0, 0), (79, .iadd, 1, 0, 0, 0), (80, .invokestatic 51, 3, 0, 2, 1), (83, .istore_n 2, 1, 0, 0, 0), (84, .iinc 4 (-1), 3, 0, 0, 0), (87, .goto (-67), 3, 20, 0, 0), (90, .iload_n 2, 1, 0, 0, 0), (91, .ireturn, 1, 0, 0, 0)]
def tb_12 : List mi_I := [(0, .iconst 0, 1, 0, 0, 0), (1, .istore_n 2, 1, 0, 0, 0), (2, .iconst 0, 1, 0, 0, 0), (3, .istore_n 3, 1, 0, 0, 0), (4, .iload_n 3, 1, 0, 0, 0), (5, .aload_n 1, 1, 0, 0, 0), (6, .getfield 57, 3, 4, 3, 0), (9, .if_icmp .ge 16, 3, 25, 0, 0), (12, .iload_n 2, 1, 0, 0, 0), (13, .iload_n 3, 1, 0, 0, 0), (14, .invokestatic 48, 3, 120, 1, 11), (17, .ior, 1, 0, 0, 0), (18, .istore_n 2, 1, 0, 0, 0), (19, .iinc 3 1, 3, 0, 0, 0), (22, .goto (-18), 3, 4, 0, 0), (25, .aload_n 0, 1, 0, 0, 0), (26, .getfield 20, 3, 1, 1, 0), (29, .invokevirtual 61, 3, 64, 1, 6), (32, .iconst 0, 1, 0, 0, 0), (33, .istore_n 3, 1, 0, 0, 0), (34, .iload_n 3, 1, 0, 0, 0), (35, .aload_n 1, 1, 0, 0, 0), (36, .getfield 57, 3, 4, 3, 0), (39, .if_icmp .ge 36, 3, 75, 0, 0), (42, .aload_n 0, 1, 0, 0, 0), (43, .aload_n 1, 1, 0, 0, 0), (44, .iload_n 2, 1, 0, 0, 0), (45, .invokevirtual 64, 3, 13, 3, 1), (48, .istore 4, 2, 0, 0, 0), (50, .aload_n 0, 1, 0, 0, 0), (51, .getfield 20, 3, 1, 1, 0), (54, .iload 4, 2, 0, 0, 0), (56, .invokevirtual 68, 3, 65, 2, 6), (59, .iload_n 2, 1, 0, 0, 0), (60, .iload 4, 2, 0, 0, 0), (62, .invokestatic 48, 3, 120, 1, 11), (65, .iconst (-1), 1, 0, 0, 0), (66, .ixor, 1, 0, 0, 0), (67, .iand, 1, 0, 0, 0), (68, .istore_n 2, 1, 0, 0, 0), (69, .iinc 3 1, 3, 0, 0, 0), (72, .goto (-38), 3, 34, 0, 0), (75, .return_, 1, 0, 0, 0)]
def tb_13 : List mi_I := [(0, .iconst (-1), 1, 0, 0, 0), (1, .istore_n 3, 1, 0, 0, 0), (2, .bipush 20, 2, 0, 0, 0), (4, .istore 4, 2, 0, 0, 0), (6, .iconst 0, 1, 0, 0, 0), (7, .istore 5, 2, 0, 0, 0), (9, .iload 5, 2, 0, 0, 0), (11, .aload_n 1, 1, 0, 0, 0), (12, .getfield 57, 3, 4, 3, 0), (15, .if_icmp .ge 45, 3, 60, 0, 0), (18, .aload_n 1, 1, 0, 0, 0), (19, .iload 5, 2, 0, 0, 0), (21, .invokevirtual 36, 3, 46, 2, 4), (24, .iload_n 2, 1, 0, 0, 0), (25, .iand, 1, 0, 0, 0), (26, .invokestatic 71, 3, 191, 1, 13), (29, .istore 6, 2, 0, 0, 0), (31, .iload_n 2, 1, 0, 0, 0), (32, .iload 5, 2, 0, 0, 0), (34, .invokestatic 76, 3, 121, 2, 11), (37, .ifCond .eq 17, 3, 54, 0, 0), (40, .iload 6, 2, 0, 0, 0), (42, .iload 4, 2, 0, 0, 0), (44, .if_icmp .ge 10, 3, 54, 0, 0), (47, .iload 5, 2, 0, 0, 0), (49, .istore_n 3, 1, 0, 0, 0), (50, .iload 6, 2, 0, 0, 0), (52, .istore 4, 2, 0, 0, 0), (54, .iinc 5 1, 3, 0, 0, 0), (57, .goto (-48), 3, 9, 0, 0), (60, .iload_n 3, 1, 0, 0, 0), (61, .ireturn, 1, 0, 0, 0)]
def tb_14 : List mi_I := [(0, .iconst 0, 1, 0, 0, 0), (1, .istore_n 2, 1, 0, 0, 0), (2, .iconst 0, 1, 0, 0, 0), (3, .istore_n 3, 1, 0, 0, 0), (4, .iload_n 3, 1, 0, 0, 0), (5, .bipush 20, 2, 0, 0, 0), (7, .if_icmp .ge 29, 3, 36, 0, 0), (10, .iload_n 1, 1, 0, 0, 0), (11, .iload_n 3, 1, 0, 0, 0), (12, .invokestatic 76, 3, 121, 2, 11), (15, .ifCond .eq 15, 3, 30, 0, 0), (18, .iload_n 2, 1, 0, 0, 0), (19, .aload_n 0, 1, 0, 0, 0), (20, .getfield 9, 3, 1, 0, 0), (23, .iload_n 3, 1, 0, 0, 0), (24, .iaload, 1, 0, 0, 0), (25, .invokestatic 48, 3, 120, 1, 11), (28, .ior, 1, 0, 0, 0), (29, .istore_n 2, 1, 0, 0, 0), (30, .iinc 3 1, 3, 0, 0, 0), (33, .goto (-29), 3, 4, 0, 0), (36, .iload_n 2, 1, 0, 0, 0), (37, .iconst (-1), 1, 0, 0, 0), (38, .ixor, 1, 0, 0, 0), (39, .invokestatic 80, 3, 122, 1, 11), (42, .ireturn, 1, 0, 0, 0)]
def tb_15 : List mi_I := [(0, .aload_n 0, 1, 0, 0, 0), (1, .invokespecial 3, 3, 999, 1, 0), (4, .aload_n 0, 1, 0, 0, 0), (5, .bipush 20, 2, 0, 0, 0), (7, .newarray .int, 2, 0, 0, 0), (9, .putfield 9, 3, 2, 0, 0), (12, .aload_n 0, 1, 0, 0, 0), (13, .bipush 20, 2, 0, 0, 0), (15, .newarray .int, 2, 0, 0, 0), (17, .putfield 15, 3, 2, 1, 0), (20, .aload_n 0, 1, 0, 0, 0), (21, .bipush 20, 2, 0, 0, 0), (23, .newarray .int, 2, 0, 0, 0), (25, .putfield 18, 3, 2, 2, 0), (28, .aload_n 0, 1, 0, 0, 0), (29, .new 21, 3, 6, 2, 0), (32, .dup, 1, 0, 0, 0), (33, .bipush 20, 2, 0, 0, 0), (35, .invokespecial 23, 3, 62, 2, 6), (38, .putfield 26, 3, 2, 3, 0), (41, .aload_n 0, 1, 0, 0, 0), (42, .new 21, 3, 6, 2, 0), (45, .dup, 1, 0, 0, 0), (46, .bipush 20, 2, 0, 0, 0), (48, .invokespecial 23, 3, 62, 2, 6), (51, .putfield 30, 3, 2, 4, 0), (54, .aload_n 0, 1, 0, 0, 0), (55, .new 21, 3, 6, 2, 0), (58, .dup, 1, 0, 0, 0), (59, .bipush 20, 2, 0, 0, 0), (61, .invokespecial 23, 3, 62, 2, 6), (64, .putfield 33, 3, 2, 5, 0), (67, .aload_n 0, 1, 0, 0, 0), (68, .new 21, 3, 6, 2, 0), (71, .dup, 1, 0, 0, 0), (72, .bipush 20, 2, 0, 0, 0), (74, .invokespecial 23, 3, 62, 2, 6), (77, .putfield 36, 3, 2, 6, 0), (80, .return_, 1, 0, 0, 0)]
def tb_16 : List mi_I := [(0, .aload_n 0, 1, 0, 0, 0), (1, .aload_n 1, 1, 0, 0, 0), (2, .aload_n 2, 1, 0, 0, 0), (3, .aload_n 1, 1, 0, 0, 0), (4, .iconst 0, 1, 0, 0, 0), (5, .invokevirtual 39, 3, 44, 2, 4), (8, .aload_n 1, 1, 0, 0, 0), (9, .iconst 0, 1, 0, 0, 0), (10, .invokevirtual 45, 3, 45, 2, 4), (13, .iload_n 3, 1, 0, 0, 0), (14, .invokevirtual 48, 3, 19, 6, 2), (17, .iconst 0, 1, 0, 0, 0), (18, .istore 4, 2, 0, 0, 0), (20, .iload 4, 2, 0, 0, 0), (22, .bipush 20, 2, 0, 0, 0), (24, .if_icmp .ge 21, 3, 45, 0, 0), (27, .aload_n 0, 1, 0, 0, 0), (28, .getfield 18, 3, 2, 2, 0), (31, .iload 4, 2, 0, 0, 0), (33, .iload 4, 2, 0, 0, 0), (35, .invokestatic 52, 3, 120, 1, 11), (38, .iastore, 1, 0, 0, 0), (39, .iinc 4 1, 3, 0, 0, 0), (42, .goto (-22), 3, 20, 0, 0), (45, .aload_n 0, 1, 0, 0, 0), (46, .aload_n 0, 1, 0, 0, 0), (47, .getfield 26, 3, 2, 3, 0), (50, .iconst 0, 1, 0, 0, 0), (51, .invokevirtual 55, 3, 66, 2, 6), (54, .iconst 0, 1, 0, 0, 0), (55, .iconst 0, 1, 0, 0, 0), (56, .invokevirtual 58, 3, 18, 4, 2), (59, .aload_n 0, 1, 0, 0, 0), (60, .aload_n 0, 1, 0, 0, 0), (61, .getfield 26, 3, 2, 3, 0), (64, .iconst 1, 1, 0, 0, 0), (65, .invokevirtual 55, 3, 66, 2, 6), (68, .iconst 2, 1, 0, 0, 0), (69, .iconst 0, 1, 0, 0, 0), (70, .invokevirtual 58, 3, 18, 4, 2), (73, .aload_n 0, 1, 0, 0, 0), (74, .aload_n 0, 1, 0, 0, 0), (75, .getfield 26, 3, 2, 3, 0), (78, .iconst 2, 1, 0, 0, 0), (79, .invokevirtual 55, 3, 66, 2, 6), (82, .iconst 1, 1, 0, 0, 0), (83, .iconst 1, 1, 0, 0, 0), (84, .invokevirtual 58, 3, 18, 4, 2), (87, .aload_n 0, 1, 0, 0, 0), (88, .aload_n 0, 1, 0, 0, 0), (89, .getfield 26, 3, 2, 3, 0), (92, .iconst 0, 1, 0, 0, 0), (93, .invokevirtual 55, 3, 66, 2, 6), (96, .aload_n 0, 1, 0, 0, 0), (97, .getfield 26, 3, 2, 3, 0), (100, .iconst 2, 1, 0, 0, 0), (101, .invokevirtual 55, 3, 66, 2, 6), (104, .aload_n 0, 1, 0, 0, 0), (105, .getfield 26, 3, 2, 3, 0), (108, .iconst 1, 1, 0, 0, 0), (109, .invokevirtual 55, 3, 66, 2, 6), (112, .invokevirtual 62, 3, 17, 4, 2), (115, .iconst 3, 1, 0, 0, 0), (116, .istore 4, 2, 0, 0, 0), (118, .iload 4, 2, 0, 0, 0), (120, .aload_n 0, 1, 0, 0, 0), (121, .getfield 26, 3, 2, 3, 0), (124, .invokevirtual 65, 3, 63, 1, 6), (127, .if_icmp .ge 23, 3, 150, 0, 0), (130, .aload_n 0, 1, 0, 0, 0), (131, .aload_n 1, 1, 0, 0, 0), (132, .aload_n 0, 1, 0, 0, 0), (133, .getfield 26, 3, 2, 3, 0), (136, .iload 4, 2, 0, 0, 0), (138, .invokevirtual 55, 3, 66, 2, 6), (141, .invokevirtual 69, 3, 22, 3, 2), (144, .iinc 4 1, 3, 0, 0, 0), (147, .goto (-29), 3, 118, 0, 0), (150, .return_, 1, 0, 0, 0)]
def tb_17 : List mi_I := [(0, .aload_n 0, 1, 0, 0, 0), (1, .getfield 33, 3, 2, 5, 0), (4, .invokevirtual 73, 3, 64, 1, 6), (7, .aload_n 0, 1, 0, 0, 0), (8, .getfield 33, 3, 2, 5, 0), (11, .iload_n 1, 1, 0, 0, 0), (12, .invokevirtual 76, 3, 65, 2, 6), (15, .aload_n 0, 1, 0, 0, 0), (16, .getfield 33, 3, 2, 5, 0), (19, .iload_n 2, 1, 0, 0, 0), (20, .invokevirtual 76, 3, 65, 2, 6), (23, .aload_n 0, 1, 0, 0, 0), (24, .getfield 33, 3, 2, 5, 0), (27, .iload_n 3, 1, 0, 0, 0), (28, .invokevirtual 76, 3, 65, 2, 6), (31, .return_, 1, 0, 0, 0)]
def tb_18 : List mi_I := [(0, .iload_n 1, 1, 0, 0, 0), (1, .invokestatic 79, 3, 119, 1, 11), (4, .ifCond .eq 17, 3, 21, 0, 0), (7, .aload_n 0, 1, 0, 0, 0), (8, .getfield 9, 3, 2, 0, 0), (11, .iload_n 1, 1, 0, 0, 0), (12, .iload_n 2, 1, 0, 0, 0), (13, .iastore, 1, 0, 0, 0), (14, .aload_n 0, 1, 0, 0, 0), (15, .getfield 15, 3, 2, 1, 0), (18, .iload_n 1, 1, 0, 0, 0), (19, .iload_n 3, 1, 0, 0, 0), (20, .iastore, 1, 0, 0, 0), (21, .return_, 1, 0, 0, 0)]
def tb_19 : List mi_I := [(0, .aload_n 0, 1, 0, 0, 0), (1, .iload_n 3, 1, 0, 0, 0), (2, .iload 5, 2, 0, 0, 0), (4, .iload 4, 2, 0, 0, 0), (6, .invokevirtual 62, 3, 17, 4, 2), (9, .aload_n 0, 1, 0, 0, 0), (10, .getfield 30, 3, 2, 4, 0), (13, .invokevirtual 73, 3, 64, 1, 6), (16, .aload_n 1, 1, 0, 0, 0), (17, .getfield 83, 3, 4, 3, 0), (20, .iconst 1, 1, 0, 0, 0), (21, .isub, 1, 0, 0, 0), (22, .istore 6, 2, 0, 0, 0), (24, .iload 6, 2, 0, 0, 0), (26, .iconst 2, 1, 0, 0, 0), (27, .if_icmp .lt 39, 3, 66, 0, 0), (30, .aload_n 0, 1, 0, 0, 0), (31, .aload_n 1, 1, 0, 0, 0), (32, .invokevirtual 87, 3, 20, 2, 2), (35, .istore 7, 2, 0, 0, 0), (37, .aload_n 0, 1, 0, 0, 0), (38, .getfield 30, 3, 2, 4, 0), (41, .aload_n 0, 1, 0, 0, 0), (42, .getfield 33, 3, 2, 5, 0), (45, .iload 7, 2, 0, 0, 0), (47, .invokevirtual 55, 3, 66, 2, 6), (50, .invokevirtual 76, 3, 65, 2, 6), (53, .aload_n 0, 1, 0, 0, 0), (54, .aload_n 2, 1, 0, 0, 0), (55, .iload 7, 2, 0, 0, 0), (57, .invokevirtual 91, 3, 21, 3, 2), (60, .iinc 6 (-1), 3, 0, 0, 0), (63, .goto (-39), 3, 24, 0, 0), (66, .aload_n 0, 1, 0, 0, 0), (67, .getfield 26, 3, 2, 3, 0), (70, .invokevirtual 73, 3, 64, 1, 6), (73, .aload_n 0, 1, 0, 0, 0), (74, .getfield 26, 3, 2, 3, 0), (77, .iload_n 3, 1, 0, 0, 0), (78, .invokevirtual 76, 3, 65, 2, 6), (81, .aload_n 0, 1, 0, 0, 0), (82, .getfield 26, 3, 2, 3, 0), (85, .iload 4, 2, 0, 0, 0), (87, .invokevirtual 76, 3, 65, 2, 6), (90, .aload_n 0, 1, 0, 0, 0), (91, .getfield 26, 3, 2, 3, 0), (94, .aload_n 0, 1, 0, 0, 0), (95, .getfield 30, 3, 2, 4, 0), (98, .invokevirtual 95, 3, 72, 2, 6), (101, .return_, 1, 0, 0, 0)]
def tb_20 : List mi_I := [(0, .aload_n 0, 1, 0, 0, 0), (1, .getfield 33, 3, 2, 5, 0), (4, .invokevirtual 99, 3, 74, 1, 6), (7, .istore_n 2, 1, 0, 0, 0), (8, .iconst (-1), 1, 0, 0, 0), (9, .istore_n 3, 1, 0, 0, 0), (10, .iconst 1, 1, 0, 0, 0), (11, .istore 4, 2, 0, 0, 0), (13, .iload 4, 2, 0, 0, 0), (15, .aload_n 0, 1, 0, 0, 0), (16, .getfield 33, 3, 2, 5, 0), (19, .invokevirtual 65, 3, 63, 1, 6), (22, .iconst 1, 1, 0, 0, 0), (23, .isub, 1, 0, 0, 0), (24, .if_icmp .ge 103, 3, 127, 0, 0), (27, .aload_n 0, 1, 0, 0, 0), (28, .getfield 33, 3, 2, 5, 0), (31, .iload 4, 2, 0, 0, 0), (33, .iconst 1, 1, 0, 0, 0), (34, .isub, 1, 0, 0, 0), (35, .invokevirtual 55, 3, 66, 2, 6), (38, .invokestatic 52, 3, 120, 1, 11), (41, .aload_n 0, 1, 0, 0, 0), (42, .getfield 33, 3, 2, 5, 0), (45, .iload 4, 2, 0, 0, 0), (47, .iconst 1, 1, 0, 0, 0), (48, .iadd, 1, 0, 0, 0), (49, .invokevirtual 55, 3, 66, 2, 6), (52, .invokestatic 52, 3, 120, 1, 11), (55, .ior, 1, 0, 0, 0), (56, .istore 5, 2, 0, 0, 0), (58, .aload_n 1, 1, 0, 0, 0), (59, .aload_n 0, 1, 0, 0, 0), (60, .getfield 33, 3, 2, 5, 0), (63, .iload 4, 2, 0, 0, 0), (65, .invokevirtual 55, 3, 66, 2, 6), (68, .invokevirtual 102, 3, 46, 2, 4), (71, .iload_n 2, 1, 0, 0, 0), (72, .iand, 1, 0, 0, 0), (73, .iload 5, 2, 0, 0, 0), (75, .iconst (-1), 1, 0, 0, 0), (76, .ixor, 1, 0, 0, 0), (77, .iand, 1, 0, 0, 0), (78, .ifCond .ne 7, 3, 85, 0, 0), (81, .iconst 1, 1, 0, 0, 0), (82, .goto 4, 3, 86, 0, 0), (85, .iconst 0, 1, 0, 0, 0), (86, .istore 6, 2, 0, 0, 0), (88, .iload 6, 2, 0, 0, 0), (90, .ifCond .eq 31, 3, 121, 0, 0), (93, .iload_n 3, 1, 0, 0, 0), (94, .iconst (-1), 1, 0, 0, 0), (95, .if_icmp .eq 23, 3, 118, 0, 0), (98, .aload_n 0, 1, 0, 0, 0), (99, .getfield 33, 3, 2, 5, 0), (102, .iload 4, 2, 0, 0, 0), (104, .invokevirtual 55, 3, 66, 2, 6), (107, .aload_n 0, 1, 0, 0, 0), (108, .getfield 33, 3, 2, 5, 0), (111, .iload_n 3, 1, 0, 0, 0), (112, .invokevirtual 55, 3, 66, 2, 6), (115, .if_icmp .ge 6, 3, 121, 0, 0), (118, .iload 4, 2, 0, 0, 0), (120, .istore_n 3, 1, 0, 0, 0), (121, .iinc 4 1, 3, 0, 0, 0), (124, .goto (-111), 3, 13, 0, 0), (127, .iload_n 3, 1, 0, 0, 0), (128, .ireturn, 1, 0, 0, 0)]
def tb_21 : List mi_I := [(0, .aload_n 0, 1, 0, 0, 0), (1, .getfield 33, 3, 2, 5, 0), (4, .iload_n 2, 1, 0, 0, 0), (5, .invokevirtual 55, 3, 66, 2, 6), (8, .istore_n 3, 1, 0, 0, 0), (9, .aload_n 0, 1, 0, 0, 0), (10, .getfield 33, 3, 2, 5, 0), (13, .iload_n 2, 1, 0, 0, 0), (14, .iconst 1, 1, 0, 0, 0), (15, .iadd, 1, 0, 0, 0), (16, .invokevirtual 55, 3, 66, 2, 6), (19, .istore 4, 2, 0, 0, 0), (21, .aload_n 1, 1, 0, 0, 0), (22, .iload_n 3, 1, 0, 0, 0), (23, .aload_n 0, 1, 0, 0, 0), (24, .getfield 33, 3, 2, 5, 0), (27, .iload_n 2, 1, 0, 0, 0), (28, .iconst 1, 1, 0, 0, 0), (29, .isub, 1, 0, 0, 0), (30, .invokevirtual 55, 3, 66, 2, 6), (33, .invokevirtual 105, 3, 89, 3, 9), (36, .istore 5, 2, 0, 0, 0), (38, .aload_n 0, 1, 0, 0, 0), (39, .getfield 36, 3, 2, 6, 0), (42, .invokevirtual 73, 3, 64, 1, 6), (45, .aload_n 0, 1, 0, 0, 0), (46, .getfield 36, 3, 2, 6, 0), (49, .aload_n 0, 1, 0, 0, 0), (50, .getfield 33, 3, 2, 5, 0), (53, .iconst 0, 1, 0, 0, 0), (54, .iload_n 2, 1, 0, 0, 0), (55, .invokevirtual 111, 3, 71, 4, 6), (58, .iconst 0, 1, 0, 0, 0), (59, .istore 6, 2, 0, 0, 0), (61, .iload 6, 2, 0, 0, 0), (63, .bipush 20, 2, 0, 0, 0), (65, .if_icmp .ge 40, 3, 105, 0, 0), (68, .iload 5, 2, 0, 0, 0), (70, .iload 4, 2, 0, 0, 0), (72, .if_icmp .eq 33, 3, 105, 0, 0), (75, .iload 5, 2, 0, 0, 0), (77, .iconst (-1), 1, 0, 0, 0), (78, .if_icmp .eq 27, 3, 105, 0, 0), (81, .aload_n 0, 1, 0, 0, 0), (82, .getfield 36, 3, 2, 6, 0), (85, .iload 5, 2, 0, 0, 0), (87, .invokevirtual 76, 3, 65, 2, 6), (90, .aload_n 1, 1, 0, 0, 0), (91, .iload_n 3, 1, 0, 0, 0), (92, .iload 5, 2, 0, 0, 0), (94, .invokevirtual 105, 3, 89, 3, 9), (97, .istore 5, 2, 0, 0, 0), (99, .iinc 6 1, 3, 0, 0, 0), (102, .goto (-41), 3, 61, 0, 0), (105, .aload_n 0, 1, 0, 0, 0), (106, .getfield 36, 3, 2, 6, 0), (109, .aload_n 0, 1, 0, 0, 0), (110, .getfield 33, 3, 2, 5, 0), (113, .iload_n 2, 1, 0, 0, 0), (114, .iconst 1, 1, 0, 0, 0), (115, .iadd, 1, 0, 0, 0), (116, .aload_n 0, 1, 0, 0, 0), (117, .getfield 33, 3, 2, 5, 0), (120, .invokevirtual 65, 3, 63, 1, 6), (123, .invokevirtual 111, 3, 71, 4, 6), (126, .aload_n 0, 1, 0, 0, 0), (127, .getfield 33, 3, 2, 5, 0), (130, .aload_n 0, 1, 0, 0, 0), (131, .getfield 36, 3, 2, 6, 0), (134, .invokevirtual 115, 3, 70, 2, 6), (137, .return_, 1, 0, 0, 0)]
def tb_22 : List mi_I := [(0, .iconst (-1), 1, 0, 0, 0), (1, .istore_n 3, 1, 0, 0, 0), (2, .iconst (-1), 1, 0, 0, 0), (3, .istore 4, 2, 0, 0, 0), (5, .iconst 0, 1, 0, 0, 0), (6, .istore 5, 2, 0, 0, 0), (8, .iload 5, 2, 0, 0, 0), (10, .aload_n 0, 1, 0, 0, 0), (11, .getfield 33, 3, 2, 5, 0), (14, .invokevirtual 65, 3, 63, 1, 6), (17, .if_icmp .ge 42, 3, 59, 0, 0), (20, .aload_n 1, 1, 0, 0, 0), (21, .iload_n 2, 1, 0, 0, 0), (22, .aload_n 0, 1, 0, 0, 0), (23, .getfield 33, 3, 2, 5, 0), (26, .iload 5, 2, 0, 0, 0), (28, .invokevirtual 55, 3, 66, 2, 6), (31, .invokevirtual 118, 3, 48, 3, 4), (34, .ifCond .eq 19, 3, 53, 0, 0), (37, .iload_n 3, 1, 0, 0, 0), (38, .iconst (-1), 1, 0, 0, 0), (39, .if_icmp .ne 8, 3, 47, 0, 0), (42, .iload 5, 2, 0, 0, 0), (44, .goto 4, 3, 48, 0, 0), (47, .iload_n 3, 1, 0, 0, 0), (48, .istore_n 3, 1, 0, 0, 0), (49, .iload 5, 2, 0, 0, 0), (51, .istore 4, 2, 0, 0, 0), (53, .iinc 5 1, 3, 0, 0, 0), (56, .goto (-48), 3, 8, 0, 0), (59, .aload_n 0, 1, 0, 0, 0), (60, .iload_n 3, 1, 0, 0, 0), (61, .iconst 1, 1, 0, 0, 0), (62, .iadd, 1, 0, 0, 0), (63, .iload 4, 2, 0, 0, 0), (65, .invokevirtual 122, 3, 23, 3, 2), (68, .istore 5, 2, 0, 0, 0), (70, .aload_n 0, 1, 0, 0, 0), (71, .iload 5, 2, 0, 0, 0), (73, .iconst 1, 1, 0, 0, 0), (74, .invokevirtual 125, 3, 24, 3, 2), (77, .aload_n 0, 1, 0, 0, 0), (78, .aload_n 0, 1, 0, 0, 0), (79, .iload 4, 2, 0, 0, 0), (81, .aload_n 0, 1, 0, 0, 0), (82, .getfield 33, 3, 2, 5, 0), (85, .invokevirtual 65, 3, 63, 1, 6), (88, .invokevirtual 122, 3, 23, 3, 2), (91, .iconst 2, 1, 0, 0, 0), (92, .invokevirtual 125, 3, 24, 3, 2), (95, .aload_n 0, 1, 0, 0, 0), (96, .iload_n 2, 1, 0, 0, 0), (97, .aload_n 0, 1, 0, 0, 0), (98, .getfield 33, 3, 2, 5, 0), (101, .iload_n 3, 1, 0, 0, 0), (102, .invokevirtual 55, 3, 66, 2, 6), (105, .aload_n 0, 1, 0, 0, 0), (106, .getfield 33, 3, 2, 5, 0), (109, .iload 4, 2, 0, 0, 0), (111, .invokevirtual 55, 3, 66, 2, 6), (114, .invokevirtual 129, 3, 25, 4, 2), (117, .iload_n 2, 1, 0, 0, 0), (118, .invokestatic 79, 3, 119, 1, 11), (121, .ifCond .eq 16, 3, 137, 0, 0), (124, .aload_n 0, 1, 0, 0, 0), (125, .getfield 18, 3, 2, 2, 0), (128, .iload_n 2, 1, 0, 0, 0), (129, .iload 5, 2, 0, 0, 0), (131, .iload_n 2, 1, 0, 0, 0), (132, .invokestatic 52, 3, 120, 1, 11), (135, .ior, 1, 0, 0, 0), (136, .iastore, 1, 0, 0, 0), (137, .aload_n 0, 1, 0, 0, 0), (138, .getfield 36, 3, 2, 6, 0), (141, .invokevirtual 73, 3, 64, 1, 6), (144, .aload_n 0, 1, 0, 0, 0), (145, .getfield 36, 3, 2, 6, 0), (148, .aload_n 0, 1, 0, 0, 0), (149, .getfield 33, 3, 2, 5, 0), (152, .iconst 0, 1, 0, 0, 0), (153, .iload_n 3, 1, 0, 0, 0), (154, .iconst 1, 1, 0, 0, 0), (155, .iadd, 1, 0, 0, 0), (156, .invokevirtual 111, 3, 71, 4, 6), (159, .aload_n 0, 1, 0, 0, 0), (160, .getfield 36, 3, 2, 6, 0), (163, .iload_n 2, 1, 0, 0, 0), (164, .invokevirtual 76, 3, 65, 2, 6), (167, .aload_n 0, 1, 0, 0, 0), (168, .getfield 36, 3, 2, 6, 0), (171, .aload_n 0, 1, 0, 0, 0), (172, .getfield 33, 3, 2, 5, 0), (175, .iload 4, 2, 0, 0, 0), (177, .aload_n 0, 1, 0, 0, 0), (178, .getfield 33, 3, 2, 5, 0), (181, .invokevirtual 65, 3, 63, 1, 6), (184, .invokevirtual 111, 3, 71, 4, 6), (187, .aload_n 0, 1, 0, 0, 0), (188, .getfield 33, 3, 2, 5, 0), (191, .aload_n 0, 1, 0, 0, 0), (192, .getfield 36, 3, 2, 6, 0), (195, .invokevirtual 115, 3, 70, 2, 6), (198, .return_, 1, 0, 0, 0)]
def tb_23 : List mi_I := [(0, .iconst 0, 1, 0, 0, 0), (1, .istore_n 3, 1, 0, 0, 0), (2, .iload_n 1, 1, 0, 0, 0), (3, .istore 4, 2, 0, 0, 0), (5, .iload 4, 2, 0, 0, 0), (7, .iload_n 2, 1, 0, 0, 0), (8, .if_icmp .ge 42, 3, 50, 0, 0), (11, .aload_n 0, 1, 0, 0, 0), (12, .getfield 33, 3, 2, 5, 0), (15, .iload 4, 2, 0, 0, 0), (17, .invokevirtual 55, 3, 66, 2, 6), (20, .istore 5, 2, 0, 0, 0), (22, .iload_n 3, 1, 0, 0, 0), (23, .iload 5, 2, 0, 0, 0), (25, .invokestatic 79, 3, 119, 1, 11), (28, .ifCond .eq 13, 3, 41, 0, 0), (31, .aload_n 0, 1, 0, 0, 0), (32, .getfield 18, 3, 2, 2, 0), (35, .iload 5, 2, 0, 0, 0), (37, .iaload, 1, 0, 0, 0), (38, .goto 4, 3, 42, 0, 0), (41, .iconst 0, 1, 0, 0, 0), (42, .ior, 1, 0, 0, 0), (43, .istore_n 3, 1, 0, 0, 0), (44, .iinc 4 1, 3, 0, 0, 0), (47, .goto (-42), 3, 5, 0, 0), (50, .iload_n 3, 1, 0, 0, 0), (51, .ireturn, 1, 0, 0, 0)]
def tb_24 : List mi_I := [(0, .iconst 0, 1, 0, 0, 0), (1, .istore_n 3, 1, 0, 0, 0), (2, .iload_n 3, 1, 0, 0, 0), (3, .bipush 20, 2, 0, 0, 0), (5, .if_icmp .ge 27, 3, 32, 0, 0), (8, .iload_n 1, 1, 0, 0, 0), (9, .iload_n 3, 1, 0, 0, 0), (10, .invokestatic 132, 3, 121, 2, 11), (13, .ifCond .eq 13, 3, 26, 0, 0), (16, .aload_n 0, 1, 0, 0, 0), (17, .getfield 9, 3, 2, 0, 0), (20, .iload_n 3, 1, 0, 0, 0), (21, .dup2, 1, 0, 0, 0), (22, .iaload, 1, 0, 0, 0), (23, .iload_n 2, 1, 0, 0, 0), (24, .iadd, 1, 0, 0, 0), (25, .iastore, 1, 0, 0, 0), (26, .iinc 3 1, 3, 0, 0, 0), (29, .goto (-27), 3, 2, 0, 0), (32, .return_, 1, 0, 0, 0)]
def tb_25 : List mi_I := [(0, .iload_n 2, 1, 0, 0, 0), (1, .invokestatic 79, 3, 119, 1, 11), (4, .ifCond .eq 73, 3, 77, 0, 0), (7, .iload_n 3, 1, 0, 0, 0), (8, .invokestatic 79, 3, 119, 1, 11), (11, .ifCond .eq 66, 3, 77, 0, 0), (14, .aload_n 0, 1, 0, 0, 0), (15, .iload_n 1, 1, 0, 0, 0), (16, .aload_n 0, 1, 0, 0, 0), (17, .getfield 9, 3, 2, 0, 0), (20, .iload_n 2, 1, 0, 0, 0), (21, .iaload, 1, 0, 0, 0), (22, .aload_n 0, 1, 0, 0, 0), (23, .getfield 9, 3, 2, 0, 0), (26, .iload_n 3, 1, 0, 0, 0), (27, .iaload, 1, 0, 0, 0), (28, .iadd, 1, 0, 0, 0), (29, .aload_n 0, 1, 0, 0, 0), (30, .getfield 15, 3, 2, 1, 0), (33, .iload_n 3, 1, 0, 0, 0), (34, .iaload, 1, 0, 0, 0), (35, .iadd, 1, 0, 0, 0), (36, .aload_n 0, 1, 0, 0, 0), (37, .getfield 15, 3, 2, 1, 0), (40, .iload_n 2, 1, 0, 0, 0), (41, .iaload, 1, 0, 0, 0), (42, .isub, 1, 0, 0, 0), (43, .iconst 2, 1, 0, 0, 0), (44, .idiv, 1, 0, 0, 0), (45, .aload_n 0, 1, 0, 0, 0), (46, .getfield 9, 3, 2, 0, 0), (49, .iload_n 3, 1, 0, 0, 0), (50, .iaload, 1, 0, 0, 0), (51, .aload_n 0, 1, 0, 0, 0), (52, .getfield 9, 3, 2, 0, 0), (55, .iload_n 2, 1, 0, 0, 0), (56, .iaload, 1, 0, 0, 0), (57, .isub, 1, 0, 0, 0), (58, .aload_n 0, 1, 0, 0, 0), (59, .getfield 15, 3, 2, 1, 0), (62, .iload_n 2, 1, 0, 0, 0), (63, .iaload, 1, 0, 0, 0), (64, .iadd, 1, 0, 0, 0), (65, .aload_n 0, 1, 0, 0, 0), (66, .getfield 15, 3, 2, 1, 0), (69, .iload_n 3, 1, 0, 0, 0), (70, .iaload, 1, 0, 0, 0), (71, .iadd, 1, 0, 0, 0), (72, .iconst 2, 1, 0, 0, 0), (73, .idiv, 1, 0, 0, 0), (74, .invokevirtual 58, 3, 18, 4, 2), (77, .return_, 1, 0, 0, 0)]
def tb_26 : List mi_I := [(0, .aload_n 0, 1, 0, 0, 0), (1, .invokespecial 3, 3, 999, 1, 0), (4, .aload_n 0, 1, 0, 0, 0), (5, .new 9, 3, 0, 9, 0), (8, .dup, 1, 0, 0, 0), (9, .invokespecial 11, 3, 0, 1, 0), (12, .putfield 12, 3, 3, 0, 0), (15, .aload_n 0, 1, 0, 0, 0), (16, .new 18, 3, 9, 1, 0), (19, .dup, 1, 0, 0, 0), (20, .invokespecial 20, 3, 83, 1, 9), (23, .putfield 21, 3, 3, 1, 0), (26, .aload_n 0, 1, 0, 0, 0), (27, .new 25, 3, 4, 5, 0), (30, .dup, 1, 0, 0, 0), (31, .invokespecial 27, 3, 39, 1, 4), (34, .putfield 28, 3, 3, 2, 0), (37, .aload_n 0, 1, 0, 0, 0), (38, .new 25, 3, 4, 5, 0), (41, .dup, 1, 0, 0, 0), (42, .invokespecial 27, 3, 39, 1, 4), (45, .putfield 32, 3, 3, 3, 0), (48, .aload_n 0, 1, 0, 0, 0), (49, .new 35, 3, 5, 4, 0), (52, .dup, 1, 0, 0, 0), (53, .invokespecial 37, 3, 54, 1, 5), (56, .putfield 38, 3, 3, 4, 0), (59, .aload_n 0, 1, 0, 0, 0), (60, .new 42, 3, 7, 4, 0), (63, .dup, 1, 0, 0, 0), (64, .invokespecial 44, 3, 75, 1, 7), (67, .putfield 45, 3, 3, 5, 0), (70, .aload_n 0, 1, 0, 0, 0), (71, .sipush 400, 3, 0, 0, 0), (74, .newarray .int, 2, 0, 0, 0), (76, .putfield 49, 3, 3, 6, 0), (79, .return_, 1, 0, 0, 0)]
def tb_27 : List mi_I := [(0, .aload_n 0, 1, 0, 0, 0), (1, .getfield 12, 3, 3, 0, 0), (4, .aload_n 1, 1, 0, 0, 0), (5, .invokevirtual 53, 3, 2, 2, 0), (8, .aload_n 0, 1, 0, 0, 0), (9, .getfield 21, 3, 3, 1, 0), (12, .invokevirtual 57, 3, 84, 1, 9), (15, .iconst 0, 1, 0, 0, 0), (16, .istore_n 2, 1, 0, 0, 0), (17, .iload_n 2, 1, 0, 0, 0), (18, .aload_n 0, 1, 0, 0, 0), (19, .getfield 12, 3, 3, 0, 0), (22, .getfield 60, 3, 0, 8, 0), (25, .if_icmp .ge 92, 3, 117, 0, 0), (28, .aload_n 0, 1, 0, 0, 0), (29, .aload_n 1, 1, 0, 0, 0), (30, .iload_n 2, 1, 0, 0, 0), (31, .invokevirtual 64, 3, 28, 3, 3), (34, .aload_n 0, 1, 0, 0, 0), (35, .getfield 28, 3, 3, 2, 0), (38, .getfield 68, 3, 4, 4, 0), (41, .iconst 1, 1, 0, 0, 0), (42, .if_icmp .ne 52, 3, 94, 0, 0), (45, .aload_n 0, 1, 0, 0, 0), (46, .getfield 21, 3, 3, 1, 0), (49, .aload_n 0, 1, 0, 0, 0), (50, .getfield 28, 3, 3, 2, 0), (53, .iconst 0, 1, 0, 0, 0), (54, .invokevirtual 71, 3, 44, 2, 4), (57, .aload_n 0, 1, 0, 0, 0), (58, .getfield 28, 3, 3, 2, 0), (61, .iconst 0, 1, 0, 0, 0), (62, .invokevirtual 75, 3, 45, 2, 4), (65, .invokevirtual 78, 3, 86, 3, 9), (68, .aload_n 0, 1, 0, 0, 0), (69, .getfield 21, 3, 3, 1, 0), (72, .aload_n 0, 1, 0, 0, 0), (73, .getfield 28, 3, 3, 2, 0), (76, .iconst 0, 1, 0, 0, 0), (77, .invokevirtual 75, 3, 45, 2, 4), (80, .aload_n 0, 1, 0, 0, 0), (81, .getfield 28, 3, 3, 2, 0), (84, .iconst 0, 1, 0, 0, 0), (85, .invokevirtual 71, 3, 44, 2, 4), (88, .invokevirtual 78, 3, 86, 3, 9), (91, .goto 20, 3, 111, 0, 0), (94, .aload_n 0, 1, 0, 0, 0), (95, .invokevirtual 82, 3, 29, 1, 3), (98, .aload_n 0, 1, 0, 0, 0), (99, .invokevirtual 85, 3, 30, 1, 3), (102, .ifCond .ne 5, 3, 107, 0, 0), (105, .iconst 0, 1, 0, 0, 0), (106, .ireturn, 1, 0, 0, 0), (107, .aload_n 0, 1, 0, 0, 0), (108, .invokevirtual 89, 3, 36, 1, 3), (111, .iinc 2 1, 3, 0, 0, 0), (114, .goto (-97), 3, 17, 0, 0), (117, .iconst 1, 1, 0, 0, 0), (118, .ireturn, 1, 0, 0, 0)]
def tb_28 : List mi_I := [(0, .aload_n 0, 1, 0, 0, 0), (1, .getfield 28, 3, 3, 2, 0), (4, .aload_n 1, 1, 0, 0, 0), (5, .getfield 92, 3, 4, 3, 0), (8, .invokevirtual 95, 3, 40, 2, 4), (11, .iconst 0, 1, 0, 0, 0), (12, .istore_n 3, 1, 0, 0, 0), (13, .iload_n 3, 1, 0, 0, 0), (14, .aload_n 1, 1, 0, 0, 0), (15, .getfield 68, 3, 4, 4, 0), (18, .if_icmp .ge 38, 3, 56, 0, 0), (21, .aload_n 0, 1, 0, 0, 0), (22, .getfield 12, 3, 3, 0, 0), (25, .iload_n 3, 1, 0, 0, 0), (26, .invokevirtual 99, 3, 1, 2, 0), (29, .iload_n 2, 1, 0, 0, 0), (30, .if_icmp .ne 20, 3, 50, 0, 0), (33, .aload_n 0, 1, 0, 0, 0), (34, .getfield 28, 3, 3, 2, 0), (37, .aload_n 1, 1, 0, 0, 0), (38, .iload_n 3, 1, 0, 0, 0), (39, .invokevirtual 71, 3, 44, 2, 4), (42, .aload_n 1, 1, 0, 0, 0), (43, .iload_n 3, 1, 0, 0, 0), (44, .invokevirtual 75, 3, 45, 2, 4), (47, .invokevirtual 102, 3, 50, 3, 4), (50, .iinc 3 1, 3, 0, 0, 0), (53, .goto (-40), 3, 13, 0, 0), (56, .return_, 1, 0, 0, 0)]
def tb_29 : List mi_I := [(0, .aload_n 0, 1, 0, 0, 0), (1, .getfield 28, 3, 3, 2, 0), (4, .iconst 0, 1, 0, 0, 0), (5, .invokevirtual 71, 3, 44, 2, 4), (8, .istore_n 1, 1, 0, 0, 0), (9, .aload_n 0, 1, 0, 0, 0), (10, .getfield 28, 3, 3, 2, 0), (13, .iconst 0, 1, 0, 0, 0), (14, .invokevirtual 75, 3, 45, 2, 4), (17, .istore_n 2, 1, 0, 0, 0), (18, .aload_n 0, 1, 0, 0, 0), (19, .iconst 0, 1, 0, 0, 0), (20, .putfield 103, 3, 3, 7, 0), (23, .aload_n 0, 1, 0, 0, 0), (24, .getfield 32, 3, 3, 3, 0), (27, .aload_n 0, 1, 0, 0, 0), (28, .getfield 28, 3, 3, 2, 0), (31, .getfield 92, 3, 4, 3, 0), (34, .invokevirtual 95, 3, 40, 2, 4), (37, .aload_n 0, 1, 0, 0, 0), (38, .getfield 32, 3, 3, 3, 0), (41, .iload_n 1, 1, 0, 0, 0), (42, .iload_n 2, 1, 0, 0, 0), (43, .invokevirtual 102, 3, 50, 3, 4), (46, .aload_n 0, 1, 0, 0, 0), (47, .getfield 45, 3, 3, 5, 0), (50, .aload_n 0, 1, 0, 0, 0), (51, .getfield 28, 3, 3, 2, 0), (54, .iload_n 2, 1, 0, 0, 0), (55, .iload_n 1, 1, 0, 0, 0), (56, .invokestatic 106, 3, 120, 1, 11), (59, .iload_n 2, 1, 0, 0, 0), (60, .invokestatic 106, 3, 120, 1, 11), (63, .ior, 1, 0, 0, 0), (64, .iconst (-1), 1, 0, 0, 0), (65, .ixor, 1, 0, 0, 0), (66, .iload_n 1, 1, 0, 0, 0), (67, .invokestatic 106, 3, 120, 1, 11), (70, .invokevirtual 109, 3, 76, 5, 7), (73, .aload_n 0, 1, 0, 0, 0), (74, .getfield 38, 3, 3, 4, 0), (77, .iload_n 1, 1, 0, 0, 0), (78, .iload_n 2, 1, 0, 0, 0), (79, .aload_n 0, 1, 0, 0, 0), (80, .getfield 45, 3, 3, 5, 0), (83, .getfield 113, 3, 7, 2, 0), (86, .invokevirtual 117, 3, 60, 4, 5), (89, .aload_n 0, 1, 0, 0, 0), (90, .iload_n 2, 1, 0, 0, 0), (91, .invokevirtual 120, 3, 32, 2, 3), (94, .return_, 1, 0, 0, 0)]
def tb_30 : List mi_I := [(0, .iconst 0, 1, 0, 0, 0), (1, .istore_n 1, 1, 0, 0, 0), (2, .iload_n 1, 1, 0, 0, 0), (3, .bipush 60, 2, 0, 0, 0), (5, .if_icmp .ge 79, 3, 84, 0, 0), (8, .aload_n 0, 1, 0, 0, 0), (9, .getfield 32, 3, 3, 3, 0), (12, .getfield 68, 3, 4, 4, 0), (15, .aload_n 0, 1, 0, 0, 0), (16, .getfield 28, 3, 3, 2, 0), (19, .getfield 68, 3, 4, 4, 0), (22, .if_icmp .ge 62, 3, 84, 0, 0), (25, .aload_n 0, 1, 0, 0, 0), (26, .invokevirtual 123, 3, 33, 1, 3), (29, .ifCond .ne 5, 3, 34, 0, 0), (32, .iconst 0, 1, 0, 0, 0), (33, .ireturn, 1, 0, 0, 0), (34, .aload_n 0, 1, 0, 0, 0), (35, .getfield 126, 3, 3, 9, 0), (38, .invokestatic 129, 3, 122, 1, 11), (41, .istore_n 2, 1, 0, 0, 0), (42, .aload_n 0, 1, 0, 0, 0), (43, .iload_n 2, 1, 0, 0, 0), (44, .invokevirtual 132, 3, 31, 2, 3), (47, .aload_n 0, 1, 0, 0, 0), (48, .getfield 38, 3, 3, 4, 0), (51, .aload_n 0, 1, 0, 0, 0), (52, .getfield 135, 3, 3, 10, 0), (55, .iload_n 2, 1, 0, 0, 0), (56, .aload_n 0, 1, 0, 0, 0), (57, .getfield 45, 3, 3, 5, 0), (60, .getfield 138, 3, 7, 3, 0), (63, .aload_n 0, 1, 0, 0, 0), (64, .getfield 45, 3, 3, 5, 0), (67, .getfield 113, 3, 7, 2, 0), (70, .invokevirtual 141, 3, 61, 5, 5), (73, .aload_n 0, 1, 0, 0, 0), (74, .iload_n 2, 1, 0, 0, 0), (75, .invokevirtual 120, 3, 32, 2, 3), (78, .iinc 1 1, 3, 0, 0, 0), (81, .goto (-79), 3, 2, 0, 0), (84, .aload_n 0, 1, 0, 0, 0), (85, .getfield 32, 3, 3, 3, 0), (88, .getfield 68, 3, 4, 4, 0), (91, .aload_n 0, 1, 0, 0, 0), (92, .getfield 28, 3, 3, 2, 0), (95, .getfield 68, 3, 4, 4, 0), (98, .if_icmp .ne 7, 3, 105, 0, 0), (101, .iconst 1, 1, 0, 0, 0), (102, .goto 4, 3, 106, 0, 0), (105, .iconst 0, 1, 0, 0, 0), (106, .ireturn, 1, 0, 0, 0)]
def tb_31 : List mi_I := [(0, .aload_n 0, 1, 0, 0, 0), (1, .getfield 126, 3, 3, 9, 0), (4, .iload_n 1, 1, 0, 0, 0), (5, .invokestatic 106, 3, 120, 1, 11), (8, .iconst (-1), 1, 0, 0, 0), (9, .ixor, 1, 0, 0, 0), (10, .iand, 1, 0, 0, 0), (11, .istore_n 2, 1, 0, 0, 0), (12, .aload_n 0, 1, 0, 0, 0), (13, .getfield 145, 3, 3, 8, 0), (16, .ifCond .ne 17, 3, 33, 0, 0), (19, .aload_n 0, 1, 0, 0, 0), (20, .getfield 45, 3, 3, 5, 0), (23, .iload_n 2, 1, 0, 0, 0), (24, .invokestatic 129, 3, 122, 1, 11), (27, .invokevirtual 148, 3, 77, 2, 7), (30, .goto 20, 3, 50, 0, 0), (33, .aload_n 0, 1, 0, 0, 0), (34, .getfield 45, 3, 3, 5, 0), (37, .aload_n 0, 1, 0, 0, 0), (38, .getfield 28, 3, 3, 2, 0), (41, .iload_n 1, 1, 0, 0, 0), (42, .aload_n 0, 1, 0, 0, 0), (43, .getfield 145, 3, 3, 8, 0), (46, .iload_n 2, 1, 0, 0, 0), (47, .invokevirtual 109, 3, 76, 5, 7), (50, .return_, 1, 0, 0, 0)]
def tb_32 : List mi_I := [(0, .aload_n 0, 1, 0, 0, 0), (1, .getfield 45, 3, 3, 5, 0), (4, .getfield 138, 3, 7, 3, 0), (7, .istore_n 2, 1, 0, 0, 0), (8, .iconst 0, 1, 0, 0, 0), (9, .istore_n 3, 1, 0, 0, 0), (10, .iload_n 3, 1, 0, 0, 0), (11, .aload_n 0, 1, 0, 0, 0), (12, .getfield 45, 3, 3, 5, 0), (15, .getfield 113, 3, 7, 2, 0), (18, .invokevirtual 151, 3, 63, 1, 6), (21, .if_icmp .ge 40, 3, 61, 0, 0), (24, .aload_n 0, 1, 0, 0, 0), (25, .getfield 32, 3, 3, 3, 0), (28, .iload_n 2, 1, 0, 0, 0), (29, .aload_n 0, 1, 0, 0, 0), (30, .getfield 45, 3, 3, 5, 0), (33, .getfield 113, 3, 7, 2, 0), (36, .iload_n 3, 1, 0, 0, 0), (37, .invokevirtual 157, 3, 66, 2, 6), (40, .invokevirtual 102, 3, 50, 3, 4), (43, .aload_n 0, 1, 0, 0, 0), (44, .getfield 45, 3, 3, 5, 0), (47, .getfield 113, 3, 7, 2, 0), (50, .iload_n 3, 1, 0, 0, 0), (51, .invokevirtual 157, 3, 66, 2, 6), (54, .istore_n 2, 1, 0, 0, 0), (55, .iinc 3 1, 3, 0, 0, 0), (58, .goto (-48), 3, 10, 0, 0), (61, .aload_n 0, 1, 0, 0, 0), (62, .getfield 32, 3, 3, 3, 0), (65, .iload_n 2, 1, 0, 0, 0), (66, .iload_n 1, 1, 0, 0, 0), (67, .invokevirtual 102, 3, 50, 3, 4), (70, .aload_n 0, 1, 0, 0, 0), (71, .dup, 1, 0, 0, 0), (72, .getfield 103, 3, 3, 7, 0), (75, .iload_n 1, 1, 0, 0, 0), (76, .invokestatic 106, 3, 120, 1, 11), (79, .aload_n 0, 1, 0, 0, 0), (80, .getfield 45, 3, 3, 5, 0), (83, .getfield 138, 3, 7, 3, 0), (86, .invokestatic 106, 3, 120, 1, 11), (89, .ior, 1, 0, 0, 0), (90, .aload_n 0, 1, 0, 0, 0), (91, .getfield 45, 3, 3, 5, 0), (94, .getfield 113, 3, 7, 2, 0), (97, .invokevirtual 160, 3, 74, 1, 6), (100, .ior, 1, 0, 0, 0), (101, .ior, 1, 0, 0, 0), (102, .putfield 103, 3, 3, 7, 0), (105, .return_, 1, 0, 0, 0)]
def tb_33 : List mi_I := [(0, .iconst 0, 1, 0, 0, 0), (1, .istore_n 1, 1, 0, 0, 0), (2, .aload_n 0, 1, 0, 0, 0), (3, .iconst (-1), 1, 0, 0, 0), (4, .putfield 135, 3, 3, 10, 0), (7, .aload_n 0, 1, 0, 0, 0), (8, .iconst 0, 1, 0, 0, 0), (9, .putfield 163, 3, 3, 11, 0), (12, .iconst 0, 1, 0, 0, 0), (13, .istore_n 2, 1, 0, 0, 0), (14, .iload_n 2, 1, 0, 0, 0), (15, .aload_n 0, 1, 0, 0, 0), (16, .getfield 28, 3, 3, 2, 0), (19, .getfield 68, 3, 4, 4, 0), (22, .if_icmp .ge 133, 3, 155, 0, 0), (25, .aload_n 0, 1, 0, 0, 0), (26, .getfield 28, 3, 3, 2, 0), (29, .iload_n 2, 1, 0, 0, 0), (30, .invokevirtual 71, 3, 44, 2, 4), (33, .invokestatic 106, 3, 120, 1, 11), (36, .aload_n 0, 1, 0, 0, 0), (37, .getfield 28, 3, 3, 2, 0), (40, .iload_n 2, 1, 0, 0, 0), (41, .invokevirtual 75, 3, 45, 2, 4), (44, .invokestatic 106, 3, 120, 1, 11), (47, .ior, 1, 0, 0, 0), (48, .istore_n 3, 1, 0, 0, 0), (49, .iload_n 3, 1, 0, 0, 0), (50, .aload_n 0, 1, 0, 0, 0), (51, .getfield 103, 3, 3, 7, 0), (54, .iconst (-1), 1, 0, 0, 0), (55, .ixor, 1, 0, 0, 0), (56, .iand, 1, 0, 0, 0), (57, .istore 4, 2, 0, 0, 0), (59, .iload 4, 2, 0, 0, 0), (61, .iload_n 1, 1, 0, 0, 0), (62, .iand, 1, 0, 0, 0), (63, .ifCond .ne 86, 3, 149, 0, 0), (66, .aload_n 0, 1, 0, 0, 0), (67, .getfield 32, 3, 3, 3, 0), (70, .aload_n 0, 1, 0, 0, 0), (71, .getfield 28, 3, 3, 2, 0), (74, .iload_n 2, 1, 0, 0, 0), (75, .invokevirtual 71, 3, 44, 2, 4), (78, .aload_n 0, 1, 0, 0, 0), (79, .getfield 28, 3, 3, 2, 0), (82, .iload_n 2, 1, 0, 0, 0), (83, .invokevirtual 75, 3, 45, 2, 4), (86, .invokevirtual 167, 3, 48, 3, 4), (89, .ifCond .eq 6, 3, 95, 0, 0), (92, .goto 57, 3, 149, 0, 0), (95, .iload 4, 2, 0, 0, 0), (97, .ifCond .ne 7, 3, 104, 0, 0), (100, .iload_n 3, 1, 0, 0, 0), (101, .goto 9, 3, 110, 0, 0), (104, .aload_n 0, 1, 0, 0, 0), (105, .iload 4, 2, 0, 0, 0), (107, .invokevirtual 171, 3, 35, 2, 3), (110, .istore 5, 2, 0, 0, 0), (112, .iload_n 1, 1, 0, 0, 0), (113, .iload 5, 2, 0, 0, 0), (115, .aload_n 0, 1, 0, 0, 0), (116, .getfield 103, 3, 3, 7, 0), (119, .iconst (-1), 1, 0, 0, 0), (120, .ixor, 1, 0, 0, 0), (121, .iand, 1, 0, 0, 0), (122, .ior, 1, 0, 0, 0), (123, .istore_n 1, 1, 0, 0, 0), (124, .aload_n 0, 1, 0, 0, 0), (125, .iload 5, 2, 0, 0, 0), (127, .aload_n 0, 1, 0, 0, 0), (128, .getfield 103, 3, 3, 7, 0), (131, .iconst (-1), 1, 0, 0, 0), (132, .ixor, 1, 0, 0, 0), (133, .iand, 1, 0, 0, 0), (134, .iload 5, 2, 0, 0, 0), (136, .aload_n 0, 1, 0, 0, 0), (137, .getfield 103, 3, 3, 7, 0), (140, .iand, 1, 0, 0, 0), (141, .invokevirtual 174, 3, 34, 3, 3), (144, .ifCond .ne 5, 3, 149, 0, 0), (147, .iconst 0, 1, 0, 0, 0), (148, .ireturn, 1, 0, 0, 0), (149, .iinc 2 1, 3, 0, 0, 0), (152, .goto (-138), 3, 14, 0, 0), (155, .aload_n 0, 1, 0, 0, 0), (156, .getfield 135, 3, 3, 10, 0), (159, .iconst (-1), 1, 0, 0, 0), (160, .if_icmp .eq 7, 3, 167, 0, 0), (163, .iconst 1, 1, 0, 0, 0), (164, .goto 4, 3, 168, 0, 0), (167, .iconst 0, 1, 0, 0, 0), (168, .ireturn, 1, 0, 0, 0)]
def tb_34 : List mi_I := [(0, .aload_n 0, 1, 0, 0, 0), (1, .getfield 38, 3, 3, 4, 0), (4, .iload_n 2, 1, 0, 0, 0), (5, .iconst 0, 1, 0, 0, 0), (6, .invokevirtual 177, 3, 59, 3, 5), (9, .istore_n 3, 1, 0, 0, 0), (10, .iload_n 3, 1, 0, 0, 0), (11, .iconst (-1), 1, 0, 0, 0), (12, .if_icmp .ne 5, 3, 17, 0, 0), (15, .iconst 0, 1, 0, 0, 0), (16, .ireturn, 1, 0, 0, 0), (17, .aload_n 0, 1, 0, 0, 0), (18, .getfield 163, 3, 3, 11, 0), (21, .ifCond .eq 5, 3, 26, 0, 0), (24, .iconst 1, 1, 0, 0, 0), (25, .ireturn, 1, 0, 0, 0), (26, .aload_n 0, 1, 0, 0, 0), (27, .getfield 38, 3, 3, 4, 0), (30, .iload_n 2, 1, 0, 0, 0), (31, .iload_n 3, 1, 0, 0, 0), (32, .iconst 1, 1, 0, 0, 0), (33, .iadd, 1, 0, 0, 0), (34, .invokevirtual 177, 3, 59, 3, 5), (37, .iconst (-1), 1, 0, 0, 0), (38, .if_icmp .ne 7, 3, 45, 0, 0), (41, .iconst 1, 1, 0, 0, 0), (42, .goto 4, 3, 46, 0, 0), (45, .iconst 0, 1, 0, 0, 0), (46, .istore 4, 2, 0, 0, 0), (48, .iload 4, 2, 0, 0, 0), (50, .ifCond .ne 11, 3, 61, 0, 0), (53, .aload_n 0, 1, 0, 0, 0), (54, .getfield 135, 3, 3, 10, 0), (57, .iconst (-1), 1, 0, 0, 0), (58, .if_icmp .ne 24, 3, 82, 0, 0), (61, .aload_n 0, 1, 0, 0, 0), (62, .iload_n 1, 1, 0, 0, 0), (63, .putfield 145, 3, 3, 8, 0), (66, .aload_n 0, 1, 0, 0, 0), (67, .iload_n 2, 1, 0, 0, 0), (68, .putfield 126, 3, 3, 9, 0), (71, .aload_n 0, 1, 0, 0, 0), (72, .iload_n 3, 1, 0, 0, 0), (73, .putfield 135, 3, 3, 10, 0), (76, .aload_n 0, 1, 0, 0, 0), (77, .iload 4, 2, 0, 0, 0), (79, .putfield 163, 3, 3, 11, 0), (82, .iconst 1, 1, 0, 0, 0), (83, .ireturn, 1, 0, 0, 0)]
def tb_35 : List mi_I := [(0, .iload_n 1, 1, 0, 0, 0), (1, .istore_n 2, 1, 0, 0, 0), (2, .iconst 0, 1, 0, 0, 0), (3, .istore_n 3, 1, 0, 0, 0), (4, .iload_n 3, 1, 0, 0, 0), (5, .bipush 20, 2, 0, 0, 0), (7, .if_icmp .ge 40, 3, 47, 0, 0), (10, .iload_n 2, 1, 0, 0, 0), (11, .aload_n 0, 1, 0, 0, 0), (12, .getfield 28, 3, 3, 2, 0), (15, .iload_n 2, 1, 0, 0, 0), (16, .aload_n 0, 1, 0, 0, 0), (17, .getfield 103, 3, 3, 7, 0), (20, .iconst (-1), 1, 0, 0, 0), (21, .ixor, 1, 0, 0, 0), (22, .iand, 1, 0, 0, 0), (23, .invokevirtual 181, 3, 47, 2, 4), (26, .ior, 1, 0, 0, 0), (27, .istore 4, 2, 0, 0, 0), (29, .iload 4, 2, 0, 0, 0), (31, .iload_n 2, 1, 0, 0, 0), (32, .if_icmp .ne 6, 3, 38, 0, 0), (35, .goto 12, 3, 47, 0, 0), (38, .iload 4, 2, 0, 0, 0), (40, .istore_n 2, 1, 0, 0, 0), (41, .iinc 3 1, 3, 0, 0, 0), (44, .goto (-40), 3, 4, 0, 0), (47, .iload_n 2, 1, 0, 0, 0), (48, .ireturn, 1, 0, 0, 0)]
def tb_36 : List mi_I := [(0, .iconst 0, 1, 0, 0, 0), (1, .istore_n 1, 1, 0, 0, 0), (2, .iload_n 1, 1, 0, 0, 0), (3, .aload_n 0, 1, 0, 0, 0), (4, .getfield 38, 3, 3, 4, 0), (7, .getfield 184, 3, 5, 3, 0), (10, .if_icmp .ge 14, 3, 24, 0, 0), (13, .aload_n 0, 1, 0, 0, 0), (14, .iload_n 1, 1, 0, 0, 0), (15, .invokevirtual 185, 3, 37, 2, 3), (18, .iinc 1 1, 3, 0, 0, 0), (21, .goto (-19), 3, 2, 0, 0), (24, .iconst 0, 1, 0, 0, 0), (25, .istore_n 1, 1, 0, 0, 0), (26, .iload_n 1, 1, 0, 0, 0), (27, .aload_n 0, 1, 0, 0, 0), (28, .getfield 28, 3, 3, 2, 0), (31, .getfield 92, 3, 4, 3, 0), (34, .if_icmp .ge 14, 3, 48, 0, 0), (37, .aload_n 0, 1, 0, 0, 0), (38, .iload_n 1, 1, 0, 0, 0), (39, .invokevirtual 188, 3, 38, 2, 3), (42, .iinc 1 1, 3, 0, 0, 0), (45, .goto (-19), 3, 26, 0, 0), (48, .return_, 1, 0, 0, 0)]
def tb_37 : List mi_I := [(0, .aload_n 0, 1, 0, 0, 0), (1, .getfield 38, 3, 3, 4, 0), (4, .iload_n 1, 1, 0, 0, 0), (5, .invokevirtual 191, 3, 56, 2, 5), (8, .istore_n 2, 1, 0, 0, 0), (9, .aload_n 0, 1, 0, 0, 0), (10, .getfield 38, 3, 3, 4, 0), (13, .iload_n 1, 1, 0, 0, 0), (14, .iload_n 2, 1, 0, 0, 0), (15, .iconst 1, 1, 0, 0, 0), (16, .isub, 1, 0, 0, 0), (17, .invokevirtual 193, 3, 57, 3, 5), (20, .istore_n 3, 1, 0, 0, 0), (21, .iconst 0, 1, 0, 0, 0), (22, .istore 4, 2, 0, 0, 0), (24, .iload 4, 2, 0, 0, 0), (26, .iload_n 2, 1, 0, 0, 0), (27, .if_icmp .ge 77, 3, 104, 0, 0), (30, .aload_n 0, 1, 0, 0, 0), (31, .getfield 38, 3, 3, 4, 0), (34, .iload_n 1, 1, 0, 0, 0), (35, .iload 4, 2, 0, 0, 0), (37, .invokevirtual 193, 3, 57, 3, 5), (40, .istore 5, 2, 0, 0, 0), (42, .aload_n 0, 1, 0, 0, 0), (43, .getfield 28, 3, 3, 2, 0), (46, .iload_n 3, 1, 0, 0, 0), (47, .invokevirtual 195, 3, 42, 2, 4), (50, .ifCond .eq 45, 3, 95, 0, 0), (53, .aload_n 0, 1, 0, 0, 0), (54, .getfield 28, 3, 3, 2, 0), (57, .iload 5, 2, 0, 0, 0), (59, .invokevirtual 195, 3, 42, 2, 4), (62, .ifCond .eq 33, 3, 95, 0, 0), (65, .aload_n 0, 1, 0, 0, 0), (66, .getfield 49, 3, 3, 6, 0), (69, .bipush 20, 2, 0, 0, 0), (71, .iload 5, 2, 0, 0, 0), (73, .imul, 1, 0, 0, 0), (74, .iload_n 3, 1, 0, 0, 0), (75, .iadd, 1, 0, 0, 0), (76, .aload_n 0, 1, 0, 0, 0), (77, .getfield 38, 3, 3, 4, 0), (80, .iload_n 1, 1, 0, 0, 0), (81, .aload_n 0, 1, 0, 0, 0), (82, .getfield 38, 3, 3, 4, 0), (85, .iload_n 1, 1, 0, 0, 0), (86, .iload 4, 2, 0, 0, 0), (88, .invokevirtual 199, 3, 58, 3, 5), (91, .invokevirtual 193, 3, 57, 3, 5), (94, .iastore, 1, 0, 0, 0), (95, .iload 5, 2, 0, 0, 0), (97, .istore_n 3, 1, 0, 0, 0), (98, .iinc 4 1, 3, 0, 0, 0), (101, .goto (-77), 3, 24, 0, 0), (104, .return_, 1, 0, 0, 0)]
def tb_38 : List mi_I := [(0, .aload_n 0, 1, 0, 0, 0), (1, .getfield 28, 3, 3, 2, 0), (4, .iload_n 1, 1, 0, 0, 0), (5, .invokevirtual 202, 3, 46, 2, 4), (8, .invokestatic 129, 3, 122, 1, 11), (11, .istore_n 2, 1, 0, 0, 0), (12, .aload_n 0, 1, 0, 0, 0), (13, .getfield 28, 3, 3, 2, 0), (16, .iload_n 1, 1, 0, 0, 0), (17, .invokevirtual 202, 3, 46, 2, 4), (20, .invokestatic 205, 3, 191, 1, 13), (23, .istore_n 3, 1, 0, 0, 0), (24, .iconst 0, 1, 0, 0, 0), (25, .istore 4, 2, 0, 0, 0), (27, .iload 4, 2, 0, 0, 0), (29, .iload_n 3, 1, 0, 0, 0), (30, .if_icmp .ge 52, 3, 82, 0, 0), (33, .aload_n 0, 1, 0, 0, 0), (34, .getfield 28, 3, 3, 2, 0), (37, .iload_n 1, 1, 0, 0, 0), (38, .invokevirtual 195, 3, 42, 2, 4), (41, .ifCond .eq 41, 3, 82, 0, 0), (44, .aload_n 0, 1, 0, 0, 0), (45, .getfield 28, 3, 3, 2, 0), (48, .iload_n 2, 1, 0, 0, 0), (49, .invokevirtual 195, 3, 42, 2, 4), (52, .ifCond .eq 30, 3, 82, 0, 0), (55, .aload_n 0, 1, 0, 0, 0), (56, .getfield 21, 3, 3, 1, 0), (59, .iload_n 1, 1, 0, 0, 0), (60, .iload_n 2, 1, 0, 0, 0), (61, .invokevirtual 78, 3, 86, 3, 9), (64, .aload_n 0, 1, 0, 0, 0), (65, .getfield 49, 3, 3, 6, 0), (68, .bipush 20, 2, 0, 0, 0), (70, .iload_n 1, 1, 0, 0, 0), (71, .imul, 1, 0, 0, 0), (72, .iload_n 2, 1, 0, 0, 0), (73, .iadd, 1, 0, 0, 0), (74, .iaload, 1, 0, 0, 0), (75, .istore_n 2, 1, 0, 0, 0), (76, .iinc 4 1, 3, 0, 0, 0), (79, .goto (-52), 3, 27, 0, 0), (82, .return_, 1, 0, 0, 0)]
def tb_39 : List mi_I := [(0, .aload_n 0, 1, 0, 0, 0), (1, .invokespecial 3, 3, 999, 1, 0), (4, .aload_n 0, 1, 0, 0, 0), (5, .bipush 60, 2, 0, 0, 0), (7, .newarray .int, 2, 0, 0, 0), (9, .putfield 9, 3, 4, 0, 0), (12, .aload_n 0, 1, 0, 0, 0), (13, .bipush 60, 2, 0, 0, 0), (15, .newarray .int, 2, 0, 0, 0), (17, .putfield 15, 3, 4, 1, 0), (20, .aload_n 0, 1, 0, 0, 0), (21, .bipush 20, 2, 0, 0, 0), (23, .newarray .int, 2, 0, 0, 0), (25, .putfield 18, 3, 4, 2, 0), (28, .return_, 1, 0, 0, 0)]
def tb_40 : List mi_I := [(0, .aload_n 0, 1, 0, 0, 0), (1, .iconst 0, 1, 0, 0, 0), (2, .iload_n 1, 1, 0, 0, 0), (3, .bipush 20, 2, 0, 0, 0), (5, .invokestatic 21, 3, 0, 2, 2), (8, .invokestatic 27, 3, 0, 2, 1), (11, .putfield 30, 3, 4, 3, 0), (14, .aload_n 0, 1, 0, 0, 0), (15, .iconst 0, 1, 0, 0, 0), (16, .putfield 34, 3, 4, 4, 0), (19, .aload_n 0, 1, 0, 0, 0), (20, .getfield 18, 3, 4, 2, 0), (23, .iconst 0, 1, 0, 0, 0), (24, .invokestatic 37, 3, 192, 2, 14), (27, .return_, 1, 0, 0, 0)]
def tb_41 : List mi_I := [(0, .aload_n 0, 1, 0, 0, 0), (1, .aload_n 1, 1, 0, 0, 0), (2, .getfield 30, 3, 4, 3, 0), (5, .invokevirtual 43, 3, 40, 2, 4), (8, .iconst 0, 1, 0, 0, 0), (9, .istore_n 2, 1, 0, 0, 0), (10, .iload_n 2, 1, 0, 0, 0), (11, .aload_n 1, 1, 0, 0, 0), (12, .getfield 34, 3, 4, 4, 0), (15, .if_icmp .ge 23, 3, 38, 0, 0), (18, .aload_n 0, 1, 0, 0, 0), (19, .aload_n 1, 1, 0, 0, 0), (20, .iload_n 2, 1, 0, 0, 0), (21, .invokevirtual 47, 3, 44, 2, 4), (24, .aload_n 1, 1, 0, 0, 0), (25, .iload_n 2, 1, 0, 0, 0), (26, .invokevirtual 51, 3, 45, 2, 4), (29, .invokevirtual 54, 3, 50, 3, 4), (32, .iinc 2 1, 3, 0, 0, 0), (35, .goto (-25), 3, 10, 0, 0), (38, .return_, 1, 0, 0, 0)]
def tb_42 : List mi_I := [(0, .iload_n 1, 1, 0, 0, 0), (1, .ifCond .lt 15, 3, 16, 0, 0), (4, .iload_n 1, 1, 0, 0, 0), (5, .aload_n 0, 1, 0, 0, 0), (6, .getfield 30, 3, 4, 3, 0), (9, .if_icmp .ge 7, 3, 16, 0, 0), (12, .iconst 1, 1, 0, 0, 0), (13, .goto 4, 3, 17, 0, 0), (16, .iconst 0, 1, 0, 0, 0), (17, .ireturn, 1, 0, 0, 0)]
def tb_43 : List mi_I := [(0, .iload_n 1, 1, 0, 0, 0), (1, .ifCond .lt 15, 3, 16, 0, 0), (4, .iload_n 1, 1, 0, 0, 0), (5, .aload_n 0, 1, 0, 0, 0), (6, .getfield 34, 3, 4, 4, 0), (9, .if_icmp .ge 7, 3, 16, 0, 0), (12, .iconst 1, 1, 0, 0, 0), (13, .goto 4, 3, 17, 0, 0), (16, .iconst 0, 1, 0, 0, 0), (17, .ireturn, 1, 0, 0, 0)]
def tb_44 : List mi_I := [(0, .aload_n 0, 1, 0, 0, 0), (1, .iload_n 1, 1, 0, 0, 0), (2, .invokevirtual 58, 3, 43, 2, 4), (5, .ifCond .eq 12, 3, 17, 0, 0), (8, .aload_n 0, 1, 0, 0, 0), (9, .getfield 9, 3, 4, 0, 0), (12, .iload_n 1, 1, 0, 0, 0), (13, .iaload, 1, 0, 0, 0), (14, .goto 4, 3, 18, 0, 0), (17, .iconst (-1), 1, 0, 0, 0), (18, .ireturn, 1, 0, 0, 0)]
def tb_45 : List mi_I := [(0, .aload_n 0, 1, 0, 0, 0), (1, .iload_n 1, 1, 0, 0, 0), (2, .invokevirtual 58, 3, 43, 2, 4), (5, .ifCond .eq 12, 3, 17, 0, 0), (8, .aload_n 0, 1, 0, 0, 0), (9, .getfield 15, 3, 4, 1, 0), (12, .iload_n 1, 1, 0, 0, 0), (13, .iaload, 1, 0, 0, 0), (14, .goto 4, 3, 18, 0, 0), (17, .iconst (-1), 1, 0, 0, 0), (18, .ireturn, 1, 0, 0, 0)]
def tb_46 : List mi_I := [(0, .iload_n 1, 1, 0, 0, 0), (1, .ifCond .lt 20, 3, 21, 0, 0), (4, .iload_n 1, 1, 0, 0, 0), (5, .aload_n 0, 1, 0, 0, 0), (6, .getfield 30, 3, 4, 3, 0), (9, .if_icmp .ge 12, 3, 21, 0, 0), (12, .aload_n 0, 1, 0, 0, 0), (13, .getfield 18, 3, 4, 2, 0), (16, .iload_n 1, 1, 0, 0, 0), (17, .iaload, 1, 0, 0, 0), (18, .goto 4, 3, 22, 0, 0), (21, .iconst 0, 1, 0, 0, 0), (22, .ireturn, 1, 0, 0, 0)]
def tb_47 : List mi_I := [(0, .iconst 0, 1, 0, 0, 0), (1, .istore_n 2, 1, 0, 0, 0), (2, .iconst 0, 1, 0, 0, 0), (3, .istore_n 3, 1, 0, 0, 0), (4, .iload_n 3, 1, 0, 0, 0), (5, .aload_n 0, 1, 0, 0, 0), (6, .getfield 30, 3, 4, 3, 0), (9, .if_icmp .ge 26, 3, 35, 0, 0), (12, .iload_n 1, 1, 0, 0, 0), (13, .iload_n 3, 1, 0, 0, 0), (14, .ishr, 1, 0, 0, 0), (15, .iconst 1, 1, 0, 0, 0), (16, .iand, 1, 0, 0, 0), (17, .ifCond .eq 12, 3, 29, 0, 0), (20, .iload_n 2, 1, 0, 0, 0), (21, .aload_n 0, 1, 0, 0, 0), (22, .getfield 18, 3, 4, 2, 0), (25, .iload_n 3, 1, 0, 0, 0), (26, .iaload, 1, 0, 0, 0), (27, .ior, 1, 0, 0, 0), (28, .istore_n 2, 1, 0, 0, 0), (29, .iinc 3 1, 3, 0, 0, 0), (32, .goto (-28), 3, 4, 0, 0), (35, .iload_n 2, 1, 0, 0, 0), (36, .ireturn, 1, 0, 0, 0)]
def tb_48 : List mi_I := [(0, .iload_n 1, 1, 0, 0, 0), (1, .ifCond .lt 28, 3, 29, 0, 0), (4, .iload_n 1, 1, 0, 0, 0), (5, .aload_n 0, 1, 0, 0, 0), (6, .getfield 30, 3, 4, 3, 0), (9, .if_icmp .ge 20, 3, 29, 0, 0), (12, .aload_n 0, 1, 0, 0, 0), (13, .getfield 18, 3, 4, 2, 0), (16, .iload_n 1, 1, 0, 0, 0), (17, .iaload, 1, 0, 0, 0), (18, .iload_n 2, 1, 0, 0, 0), (19, .invokestatic 62, 3, 121, 2, 11), (22, .ifCond .eq 7, 3, 29, 0, 0), (25, .iconst 1, 1, 0, 0, 0), (26, .goto 4, 3, 30, 0, 0), (29, .iconst 0, 1, 0, 0, 0), (30, .ireturn, 1, 0, 0, 0)]
def tb_49 : List mi_I := [(0, .iload_n 1, 1, 0, 0, 0), (1, .ifCond .lt 54, 3, 55, 0, 0), (4, .iload_n 1, 1, 0, 0, 0), (5, .aload_n 0, 1, 0, 0, 0), (6, .getfield 30, 3, 4, 3, 0), (9, .if_icmp .ge 46, 3, 55, 0, 0), (12, .iload_n 2, 1, 0, 0, 0), (13, .ifCond .lt 42, 3, 55, 0, 0), (16, .iload_n 2, 1, 0, 0, 0), (17, .aload_n 0, 1, 0, 0, 0), (18, .getfield 30, 3, 4, 3, 0), (21, .if_icmp .ge 34, 3, 55, 0, 0), (24, .iload_n 1, 1, 0, 0, 0), (25, .iload_n 2, 1, 0, 0, 0), (26, .if_icmp .eq 29, 3, 55, 0, 0), (29, .aload_n 0, 1, 0, 0, 0), (30, .getfield 18, 3, 4, 2, 0), (33, .iload_n 1, 1, 0, 0, 0), (34, .iaload, 1, 0, 0, 0), (35, .iload_n 2, 1, 0, 0, 0), (36, .ishr, 1, 0, 0, 0), (37, .iconst 1, 1, 0, 0, 0), (38, .iand, 1, 0, 0, 0), (39, .ifCond .ne 16, 3, 55, 0, 0), (42, .aload_n 0, 1, 0, 0, 0), (43, .getfield 34, 3, 4, 4, 0), (46, .bipush 60, 2, 0, 0, 0), (48, .if_icmp .ge 7, 3, 55, 0, 0), (51, .iconst 1, 1, 0, 0, 0), (52, .goto 4, 3, 56, 0, 0), (55, .iconst 0, 1, 0, 0, 0), (56, .ireturn, 1, 0, 0, 0)]
def tb_50 : List mi_I := [(0, .aload_n 0, 1, 0, 0, 0), (1, .iload_n 1, 1, 0, 0, 0), (2, .iload_n 2, 1, 0, 0, 0), (3, .invokevirtual 66, 3, 49, 3, 4), (6, .ifCond .ne 4, 3, 10, 0, 0), (9, .return_, 1, 0, 0, 0), (10, .aload_n 0, 1, 0, 0, 0), (11, .getfield 9, 3, 4, 0, 0), (14, .aload_n 0, 1, 0, 0, 0), (15, .getfield 34, 3, 4, 4, 0), (18, .iload_n 1, 1, 0, 0, 0), (19, .iload_n 2, 1, 0, 0, 0), (20, .invokestatic 21, 3, 0, 2, 2), (23, .iastore, 1, 0, 0, 0), (24, .aload_n 0, 1, 0, 0, 0), (25, .getfield 15, 3, 4, 1, 0), (28, .aload_n 0, 1, 0, 0, 0), (29, .getfield 34, 3, 4, 4, 0), (32, .iload_n 1, 1, 0, 0, 0), (33, .iload_n 2, 1, 0, 0, 0), (34, .invokestatic 27, 3, 0, 2, 1), (37, .iastore, 1, 0, 0, 0), (38, .aload_n 0, 1, 0, 0, 0), (39, .getfield 18, 3, 4, 2, 0), (42, .iload_n 1, 1, 0, 0, 0), (43, .dup2, 1, 0, 0, 0), (44, .iaload, 1, 0, 0, 0), (45, .iload_n 2, 1, 0, 0, 0), (46, .invokestatic 69, 3, 120, 1, 11), (49, .ior, 1, 0, 0, 0), (50, .iastore, 1, 0, 0, 0), (51, .aload_n 0, 1, 0, 0, 0), (52, .getfield 18, 3, 4, 2, 0), (55, .iload_n 2, 1, 0, 0, 0), (56, .dup2, 1, 0, 0, 0), (57, .iaload, 1, 0, 0, 0), (58, .iload_n 1, 1, 0, 0, 0), (59, .invokestatic 69, 3, 120, 1, 11), (62, .ior, 1, 0, 0, 0), (63, .iastore, 1, 0, 0, 0), (64, .aload_n 0, 1, 0, 0, 0), (65, .dup, 1, 0, 0, 0), (66, .getfield 34, 3, 4, 4, 0), (69, .iconst 1, 1, 0, 0, 0), (70, .iadd, 1, 0, 0, 0), (71, .putfield 34, 3, 4, 4, 0), (74, .return_, 1, 0, 0, 0)]
def tb_51 : List mi_I := [(0, .aload_n 0, 1, 0, 0, 0), (1, .iload_n 1, 1, 0, 0, 0), (2, .invokevirtual 58, 3, 43, 2, 4), (5, .ifCond .ne 4, 3, 9, 0, 0), (8, .return_, 1, 0, 0, 0), (9, .aload_n 0, 1, 0, 0, 0), (10, .getfield 9, 3, 4, 0, 0), (13, .iload_n 1, 1, 0, 0, 0), (14, .iaload, 1, 0, 0, 0), (15, .istore_n 2, 1, 0, 0, 0), (16, .aload_n 0, 1, 0, 0, 0), (17, .getfield 15, 3, 4, 1, 0), (20, .iload_n 1, 1, 0, 0, 0), (21, .iaload, 1, 0, 0, 0), (22, .istore_n 3, 1, 0, 0, 0), (23, .aload_n 0, 1, 0, 0, 0), (24, .getfield 18, 3, 4, 2, 0), (27, .iload_n 2, 1, 0, 0, 0), (28, .dup2, 1, 0, 0, 0), (29, .iaload, 1, 0, 0, 0), (30, .iload_n 3, 1, 0, 0, 0), (31, .invokestatic 69, 3, 120, 1, 11), (34, .iconst (-1), 1, 0, 0, 0), (35, .ixor, 1, 0, 0, 0), (36, .iand, 1, 0, 0, 0), (37, .iastore, 1, 0, 0, 0), (38, .aload_n 0, 1, 0, 0, 0), (39, .getfield 18, 3, 4, 2, 0), (42, .iload_n 3, 1, 0, 0, 0), (43, .dup2, 1, 0, 0, 0), (44, .iaload, 1, 0, 0, 0), (45, .iload_n 2, 1, 0, 0, 0), (46, .invokestatic 69, 3, 120, 1, 11), (49, .iconst (-1), 1, 0, 0, 0), (50, .ixor, 1, 0, 0, 0), (51, .iand, 1, 0, 0, 0), (52, .iastore, 1, 0, 0, 0), (53, .aload_n 0, 1, 0, 0, 0), (54, .dup, 1, 0, 0, 0), (55, .getfield 34, 3, 4, 4, 0), (58, .iconst 1, 1, 0, 0, 0), (59, .isub, 1, 0, 0, 0), (60, .putfield 34, 3, 4, 4, 0), (63, .iload_n 1, 1, 0, 0, 0), (64, .istore 4, 2, 0, 0, 0), (66, .iload 4, 2, 0, 0, 0), (68, .aload_n 0, 1, 0, 0, 0), (69, .getfield 34, 3, 4, 4, 0), (72, .if_icmp .ge 41, 3, 113, 0, 0), (75, .aload_n 0, 1, 0, 0, 0), (76, .getfield 9, 3, 4, 0, 0), (79, .iload 4, 2, 0, 0, 0), (81, .aload_n 0, 1, 0, 0, 0), (82, .getfield 9, 3, 4, 0, 0), (85, .iload 4, 2, 0, 0, 0), (87, .iconst 1, 1, 0, 0, 0), (88, .iadd, 1, 0, 0, 0), (89, .iaload, 1, 0, 0, 0), (90, .iastore, 1, 0, 0, 0), (91, .aload_n 0, 1, 0, 0, 0), (92, .getfield 15, 3, 4, 1, 0), (95, .iload 4, 2, 0, 0, 0), (97, .aload_n 0, 1, 0, 0, 0), (98, .getfield 15, 3, 4, 1, 0), (101, .iload 4, 2, 0, 0, 0), (103, .iconst 1, 1, 0, 0, 0), (104, .iadd, 1, 0, 0, 0), (105, .iaload, 1, 0, 0, 0), (106, .iastore, 1, 0, 0, 0), (107, .iinc 4 1, 3, 0, 0, 0), (110, .goto (-44), 3, 66, 0, 0), (113, .return_, 1, 0, 0, 0)]
def tb_52 : List mi_I := [(0, .iconst 0, 1, 0, 0, 0), (1, .istore_n 1, 1, 0, 0, 0), (2, .iconst 0, 1, 0, 0, 0), (3, .istore_n 2, 1, 0, 0, 0), (4, .iload_n 2, 1, 0, 0, 0), (5, .aload_n 0, 1, 0, 0, 0), (6, .getfield 30, 3, 4, 3, 0), (9, .if_icmp .ge 21, 3, 30, 0, 0), (12, .aload_n 0, 1, 0, 0, 0), (13, .getfield 18, 3, 4, 2, 0), (16, .iload_n 2, 1, 0, 0, 0), (17, .iaload, 1, 0, 0, 0), (18, .ifCond .ne 6, 3, 24, 0, 0), (21, .iinc 1 1, 3, 0, 0, 0), (24, .iinc 2 1, 3, 0, 0, 0), (27, .goto (-23), 3, 4, 0, 0), (30, .iload_n 1, 1, 0, 0, 0), (31, .ireturn, 1, 0, 0, 0)]
def tb_53 : List mi_I := [(0, .aload_n 0, 1, 0, 0, 0), (1, .getfield 30, 3, 4, 3, 0), (4, .iconst 3, 1, 0, 0, 0), (5, .if_icmp .lt 23, 3, 28, 0, 0), (8, .aload_n 0, 1, 0, 0, 0), (9, .getfield 34, 3, 4, 4, 0), (12, .iconst 3, 1, 0, 0, 0), (13, .aload_n 0, 1, 0, 0, 0), (14, .getfield 30, 3, 4, 3, 0), (17, .imul, 1, 0, 0, 0), (18, .bipush 6, 2, 0, 0, 0), (20, .isub, 1, 0, 0, 0), (21, .if_icmp .ne 7, 3, 28, 0, 0), (24, .iconst 1, 1, 0, 0, 0), (25, .goto 4, 3, 29, 0, 0), (28, .iconst 0, 1, 0, 0, 0), (29, .ireturn, 1, 0, 0, 0)]
def tb_54 : List mi_I := [(0, .aload_n 0, 1, 0, 0, 0), (1, .invokespecial 3, 3, 999, 1, 0), (4, .aload_n 0, 1, 0, 0, 0), (5, .bipush 40, 2, 0, 0, 0), (7, .anewarray 9, 3, 6, 2, 0), (10, .putfield 11, 3, 5, 0, 0), (13, .aload_n 0, 1, 0, 0, 0), (14, .bipush 40, 2, 0, 0, 0), (16, .newarray .int, 2, 0, 0, 0), (18, .putfield 17, 3, 5, 1, 0), (21, .aload_n 0, 1, 0, 0, 0), (22, .new 9, 3, 6, 2, 0), (25, .dup, 1, 0, 0, 0), (26, .bipush 20, 2, 0, 0, 0), (28, .invokespecial 21, 3, 62, 2, 6), (31, .putfield 24, 3, 5, 2, 0), (34, .iconst 0, 1, 0, 0, 0), (35, .istore_n 1, 1, 0, 0, 0), (36, .iload_n 1, 1, 0, 0, 0), (37, .bipush 40, 2, 0, 0, 0), (39, .if_icmp .ge 24, 3, 63, 0, 0), (42, .aload_n 0, 1, 0, 0, 0), (43, .getfield 11, 3, 5, 0, 0), (46, .iload_n 1, 1, 0, 0, 0), (47, .new 9, 3, 6, 2, 0), (50, .dup, 1, 0, 0, 0), (51, .bipush 20, 2, 0, 0, 0), (53, .invokespecial 21, 3, 62, 2, 6), (56, .aastore, 1, 0, 0, 0), (57, .iinc 1 1, 3, 0, 0, 0), (60, .goto (-24), 3, 36, 0, 0), (63, .return_, 1, 0, 0, 0)]
def tb_55 : List mi_I := [(0, .iload_n 1, 1, 0, 0, 0), (1, .ifCond .lt 15, 3, 16, 0, 0), (4, .iload_n 1, 1, 0, 0, 0), (5, .aload_n 0, 1, 0, 0, 0), (6, .getfield 28, 3, 5, 3, 0), (9, .if_icmp .ge 7, 3, 16, 0, 0), (12, .iconst 1, 1, 0, 0, 0), (13, .goto 4, 3, 17, 0, 0), (16, .iconst 0, 1, 0, 0, 0), (17, .ireturn, 1, 0, 0, 0)]
def tb_56 : List mi_I := [(0, .aload_n 0, 1, 0, 0, 0), (1, .iload_n 1, 1, 0, 0, 0), (2, .invokevirtual 32, 3, 55, 2, 5), (5, .ifCond .eq 15, 3, 20, 0, 0), (8, .aload_n 0, 1, 0, 0, 0), (9, .getfield 11, 3, 5, 0, 0), (12, .iload_n 1, 1, 0, 0, 0), (13, .aaload, 1, 0, 0, 0), (14, .invokevirtual 36, 3, 63, 1, 6), (17, .goto 4, 3, 21, 0, 0), (20, .iconst 0, 1, 0, 0, 0), (21, .ireturn, 1, 0, 0, 0)]
def tb_57 : List mi_I := [(0, .aload_n 0, 1, 0, 0, 0), (1, .iload_n 1, 1, 0, 0, 0), (2, .invokevirtual 32, 3, 55, 2, 5), (5, .ifCond .eq 16, 3, 21, 0, 0), (8, .aload_n 0, 1, 0, 0, 0), (9, .getfield 11, 3, 5, 0, 0), (12, .iload_n 1, 1, 0, 0, 0), (13, .aaload, 1, 0, 0, 0), (14, .iload_n 2, 1, 0, 0, 0), (15, .invokevirtual 40, 3, 66, 2, 6), (18, .goto 4, 3, 22, 0, 0), (21, .iconst (-1), 1, 0, 0, 0), (22, .ireturn, 1, 0, 0, 0)]
def tb_58 : List mi_I := [(0, .aload_n 0, 1, 0, 0, 0), (1, .iload_n 1, 1, 0, 0, 0), (2, .invokevirtual 32, 3, 55, 2, 5), (5, .ifCond .eq 16, 3, 21, 0, 0), (8, .aload_n 0, 1, 0, 0, 0), (9, .getfield 11, 3, 5, 0, 0), (12, .iload_n 1, 1, 0, 0, 0), (13, .aaload, 1, 0, 0, 0), (14, .iload_n 2, 1, 0, 0, 0), (15, .invokevirtual 44, 3, 69, 2, 6), (18, .goto 4, 3, 22, 0, 0), (21, .iconst 0, 1, 0, 0, 0), (22, .ireturn, 1, 0, 0, 0)]
def tb_59 : List mi_I := [(0, .iload_n 2, 1, 0, 0, 0), (1, .iconst 0, 1, 0, 0, 0), (2, .invokestatic 47, 3, 0, 2, 1), (5, .istore_n 3, 1, 0, 0, 0), (6, .iload_n 3, 1, 0, 0, 0), (7, .aload_n 0, 1, 0, 0, 0), (8, .getfield 28, 3, 5, 3, 0), (11, .if_icmp .ge 23, 3, 34, 0, 0), (14, .aload_n 0, 1, 0, 0, 0), (15, .getfield 17, 3, 5, 1, 0), (18, .iload_n 3, 1, 0, 0, 0), (19, .iaload, 1, 0, 0, 0), (20, .iload_n 1, 1, 0, 0, 0), (21, .iand, 1, 0, 0, 0), (22, .iload_n 1, 1, 0, 0, 0), (23, .if_icmp .ne 5, 3, 28, 0, 0), (26, .iload_n 3, 1, 0, 0, 0), (27, .ireturn, 1, 0, 0, 0), (28, .iinc 3 1, 3, 0, 0, 0), (31, .goto (-25), 3, 6, 0, 0), (34, .iconst (-1), 1, 0, 0, 0), (35, .ireturn, 1, 0, 0, 0)]
def tb_60 : List mi_I := [(0, .aload_n 0, 1, 0, 0, 0), (1, .getfield 11, 3, 5, 0, 0), (4, .iconst 0, 1, 0, 0, 0), (5, .aaload, 1, 0, 0, 0), (6, .astore 4, 2, 0, 0, 0), (8, .aload 4, 2, 0, 0, 0), (10, .invokevirtual 53, 3, 64, 1, 6), (13, .aload 4, 2, 0, 0, 0), (15, .iload_n 1, 1, 0, 0, 0), (16, .invokevirtual 56, 3, 65, 2, 6), (19, .aload 4, 2, 0, 0, 0), (21, .iload_n 2, 1, 0, 0, 0), (22, .invokevirtual 56, 3, 65, 2, 6), (25, .aload 4, 2, 0, 0, 0), (27, .aload_n 3, 1, 0, 0, 0), (28, .invokevirtual 59, 3, 72, 2, 6), (31, .aload_n 0, 1, 0, 0, 0), (32, .getfield 11, 3, 5, 0, 0), (35, .iconst 1, 1, 0, 0, 0), (36, .aaload, 1, 0, 0, 0), (37, .astore 5, 2, 0, 0, 0), (39, .aload 5, 2, 0, 0, 0), (41, .invokevirtual 53, 3, 64, 1, 6), (44, .aload 5, 2, 0, 0, 0), (46, .iload_n 1, 1, 0, 0, 0), (47, .invokevirtual 56, 3, 65, 2, 6), (50, .aload 5, 2, 0, 0, 0), (52, .aload_n 3, 1, 0, 0, 0), (53, .iconst 0, 1, 0, 0, 0), (54, .aload_n 3, 1, 0, 0, 0), (55, .invokevirtual 36, 3, 63, 1, 6), (58, .invokevirtual 63, 3, 71, 4, 6), (61, .aload 5, 2, 0, 0, 0), (63, .iload_n 2, 1, 0, 0, 0), (64, .invokevirtual 56, 3, 65, 2, 6), (67, .aload_n 0, 1, 0, 0, 0), (68, .getfield 17, 3, 5, 1, 0), (71, .iconst 0, 1, 0, 0, 0), (72, .aload 4, 2, 0, 0, 0), (74, .invokevirtual 67, 3, 74, 1, 6), (77, .iastore, 1, 0, 0, 0), (78, .aload_n 0, 1, 0, 0, 0), (79, .getfield 17, 3, 5, 1, 0), (82, .iconst 1, 1, 0, 0, 0), (83, .aload_n 0, 1, 0, 0, 0), (84, .getfield 17, 3, 5, 1, 0), (87, .iconst 0, 1, 0, 0, 0), (88, .iaload, 1, 0, 0, 0), (89, .iastore, 1, 0, 0, 0), (90, .aload_n 0, 1, 0, 0, 0), (91, .iconst 2, 1, 0, 0, 0), (92, .putfield 28, 3, 5, 3, 0), (95, .return_, 1, 0, 0, 0)]
def tb_61 : List mi_I := [(0, .aload_n 0, 1, 0, 0, 0), (1, .iload_n 1, 1, 0, 0, 0), (2, .invokevirtual 32, 3, 55, 2, 5), (5, .ifCond .eq 12, 3, 17, 0, 0), (8, .aload_n 0, 1, 0, 0, 0), (9, .getfield 28, 3, 5, 3, 0), (12, .bipush 40, 2, 0, 0, 0), (14, .if_icmp .lt 4, 3, 18, 0, 0), (17, .return_, 1, 0, 0, 0), (18, .aload_n 0, 1, 0, 0, 0), (19, .getfield 24, 3, 5, 2, 0), (22, .aload_n 0, 1, 0, 0, 0), (23, .getfield 11, 3, 5, 0, 0), (26, .iload_n 1, 1, 0, 0, 0), (27, .aaload, 1, 0, 0, 0), (28, .invokevirtual 69, 3, 70, 2, 6), (31, .aload_n 0, 1, 0, 0, 0), (32, .getfield 11, 3, 5, 0, 0), (35, .iload_n 1, 1, 0, 0, 0), (36, .aaload, 1, 0, 0, 0), (37, .invokevirtual 53, 3, 64, 1, 6), (40, .aload_n 0, 1, 0, 0, 0), (41, .getfield 11, 3, 5, 0, 0), (44, .iload_n 1, 1, 0, 0, 0), (45, .aaload, 1, 0, 0, 0), (46, .aload_n 0, 1, 0, 0, 0), (47, .getfield 24, 3, 5, 2, 0), (50, .iload_n 2, 1, 0, 0, 0), (51, .iload_n 3, 1, 0, 0, 0), (52, .invokevirtual 72, 3, 73, 4, 6), (55, .aload_n 0, 1, 0, 0, 0), (56, .getfield 11, 3, 5, 0, 0), (59, .iload_n 1, 1, 0, 0, 0), (60, .aaload, 1, 0, 0, 0), (61, .aload 4, 2, 0, 0, 0), (63, .iconst 0, 1, 0, 0, 0), (64, .aload 4, 2, 0, 0, 0), (66, .invokevirtual 36, 3, 63, 1, 6), (69, .invokevirtual 63, 3, 71, 4, 6), (72, .aload_n 0, 1, 0, 0, 0), (73, .getfield 17, 3, 5, 1, 0), (76, .iload_n 1, 1, 0, 0, 0), (77, .aload_n 0, 1, 0, 0, 0), (78, .getfield 11, 3, 5, 0, 0), (81, .iload_n 1, 1, 0, 0, 0), (82, .aaload, 1, 0, 0, 0), (83, .invokevirtual 67, 3, 74, 1, 6), (86, .iastore, 1, 0, 0, 0), (87, .aload_n 0, 1, 0, 0, 0), (88, .getfield 11, 3, 5, 0, 0), (91, .aload_n 0, 1, 0, 0, 0), (92, .getfield 28, 3, 5, 3, 0), (95, .aaload, 1, 0, 0, 0), (96, .invokevirtual 53, 3, 64, 1, 6), (99, .aload_n 0, 1, 0, 0, 0), (100, .getfield 11, 3, 5, 0, 0), (103, .aload_n 0, 1, 0, 0, 0), (104, .getfield 28, 3, 5, 3, 0), (107, .aaload, 1, 0, 0, 0), (108, .aload_n 0, 1, 0, 0, 0), (109, .getfield 24, 3, 5, 2, 0), (112, .iload_n 3, 1, 0, 0, 0), (113, .iload_n 2, 1, 0, 0, 0), (114, .invokevirtual 72, 3, 73, 4, 6), (117, .aload_n 0, 1, 0, 0, 0), (118, .getfield 11, 3, 5, 0, 0), (121, .aload_n 0, 1, 0, 0, 0), (122, .getfield 28, 3, 5, 3, 0), (125, .aaload, 1, 0, 0, 0), (126, .aload 4, 2, 0, 0, 0), (128, .invokevirtual 59, 3, 72, 2, 6), (131, .aload_n 0, 1, 0, 0, 0), (132, .getfield 17, 3, 5, 1, 0), (135, .aload_n 0, 1, 0, 0, 0), (136, .getfield 28, 3, 5, 3, 0), (139, .aload_n 0, 1, 0, 0, 0), (140, .getfield 11, 3, 5, 0, 0), (143, .aload_n 0, 1, 0, 0, 0), (144, .getfield 28, 3, 5, 3, 0), (147, .aaload, 1, 0, 0, 0), (148, .invokevirtual 67, 3, 74, 1, 6), (151, .iastore, 1, 0, 0, 0), (152, .aload_n 0, 1, 0, 0, 0), (153, .dup, 1, 0, 0, 0), (154, .getfield 28, 3, 5, 3, 0), (157, .iconst 1, 1, 0, 0, 0), (158, .iadd, 1, 0, 0, 0), (159, .putfield 28, 3, 5, 3, 0), (162, .return_, 1, 0, 0, 0)]
def tb_62 : List mi_I := [(0, .aload_n 0, 1, 0, 0, 0), (1, .invokespecial 3, 3, 999, 1, 0), (4, .aload_n 0, 1, 0, 0, 0), (5, .iload_n 1, 1, 0, 0, 0), (6, .iconst 0, 1, 0, 0, 0), (7, .invokestatic 9, 3, 0, 2, 1), (10, .newarray .int, 2, 0, 0, 0), (12, .putfield 15, 3, 6, 0, 0), (15, .return_, 1, 0, 0, 0)]
def tb_63 : List mi_I := [(0, .aload_n 0, 1, 0, 0, 0), (1, .getfield 21, 3, 6, 1, 0), (4, .ireturn, 1, 0, 0, 0)]
def tb_64 : List mi_I := [(0, .aload_n 0, 1, 0, 0, 0), (1, .iconst 0, 1, 0, 0, 0), (2, .putfield 21, 3, 6, 1, 0), (5, .return_, 1, 0, 0, 0)]
def tb_65 : List mi_I := [(0, .aload_n 0, 1, 0, 0, 0), (1, .getfield 21, 3, 6, 1, 0), (4, .aload_n 0, 1, 0, 0, 0), (5, .getfield 15, 3, 6, 0, 0), (8, .arraylength, 1, 0, 0, 0), (9, .if_icmp .ge 23, 3, 32, 0, 0), (12, .aload_n 0, 1, 0, 0, 0), (13, .getfield 15, 3, 6, 0, 0), (16, .aload_n 0, 1, 0, 0, 0), (17, .getfield 21, 3, 6, 1, 0), (20, .iload_n 1, 1, 0, 0, 0), (21, .iastore, 1, 0, 0, 0), (22, .aload_n 0, 1, 0, 0, 0), (23, .dup, 1, 0, 0, 0), (24, .getfield 21, 3, 6, 1, 0), (27, .iconst 1, 1, 0, 0, 0), (28, .iadd, 1, 0, 0, 0), (29, .putfield 21, 3, 6, 1, 0), (32, .return_, 1, 0, 0, 0)]
def tb_66 : List mi_I := [(0, .iload_n 1, 1, 0, 0, 0), (1, .ifCond .lt 20, 3, 21, 0, 0), (4, .iload_n 1, 1, 0, 0, 0), (5, .aload_n 0, 1, 0, 0, 0), (6, .getfield 21, 3, 6, 1, 0), (9, .if_icmp .ge 12, 3, 21, 0, 0), (12, .aload_n 0, 1, 0, 0, 0), (13, .getfield 15, 3, 6, 0, 0), (16, .iload_n 1, 1, 0, 0, 0), (17, .iaload, 1, 0, 0, 0), (18, .goto 4, 3, 22, 0, 0), (21, .iconst (-1), 1, 0, 0, 0), (22, .ireturn, 1, 0, 0, 0)]
def tb_67 : List mi_I := [(0, .iconst 0, 1, 0, 0, 0), (1, .istore_n 2, 1, 0, 0, 0), (2, .iload_n 2, 1, 0, 0, 0), (3, .aload_n 0, 1, 0, 0, 0), (4, .getfield 21, 3, 6, 1, 0), (7, .if_icmp .ge 21, 3, 28, 0, 0), (10, .aload_n 0, 1, 0, 0, 0), (11, .getfield 15, 3, 6, 0, 0), (14, .iload_n 2, 1, 0, 0, 0), (15, .iaload, 1, 0, 0, 0), (16, .iload_n 1, 1, 0, 0, 0), (17, .if_icmp .ne 5, 3, 22, 0, 0), (20, .iload_n 2, 1, 0, 0, 0), (21, .ireturn, 1, 0, 0, 0), (22, .iinc 2 1, 3, 0, 0, 0), (25, .goto (-23), 3, 2, 0, 0), (28, .iconst (-1), 1, 0, 0, 0), (29, .ireturn, 1, 0, 0, 0)]
def tb_68 : List mi_I := [(0, .iload_n 1, 1, 0, 0, 0), (1, .ifCond .lt 23, 3, 24, 0, 0), (4, .iload_n 1, 1, 0, 0, 0), (5, .aload_n 0, 1, 0, 0, 0), (6, .getfield 21, 3, 6, 1, 0), (9, .if_icmp .ge 15, 3, 24, 0, 0), (12, .iload_n 2, 1, 0, 0, 0), (13, .ifCond .lt 11, 3, 24, 0, 0), (16, .iload_n 2, 1, 0, 0, 0), (17, .aload_n 0, 1, 0, 0, 0), (18, .getfield 21, 3, 6, 1, 0), (21, .if_icmp .lt 5, 3, 26, 0, 0), (24, .iconst 0, 1, 0, 0, 0), (25, .ireturn, 1, 0, 0, 0), (26, .aload_n 0, 1, 0, 0, 0), (27, .getfield 15, 3, 6, 0, 0), (30, .iload_n 1, 1, 0, 0, 0), (31, .iaload, 1, 0, 0, 0), (32, .istore_n 3, 1, 0, 0, 0), (33, .aload_n 0, 1, 0, 0, 0), (34, .getfield 15, 3, 6, 0, 0), (37, .iload_n 1, 1, 0, 0, 0), (38, .aload_n 0, 1, 0, 0, 0), (39, .getfield 15, 3, 6, 0, 0), (42, .iload_n 2, 1, 0, 0, 0), (43, .iaload, 1, 0, 0, 0), (44, .iastore, 1, 0, 0, 0), (45, .aload_n 0, 1, 0, 0, 0), (46, .getfield 15, 3, 6, 0, 0), (49, .iload_n 2, 1, 0, 0, 0), (50, .iload_n 3, 1, 0, 0, 0), (51, .iastore, 1, 0, 0, 0), (52, .iconst 1, 1, 0, 0, 0), (53, .ireturn, 1, 0, 0, 0)]
def tb_69 : List mi_I := [(0, .iload_n 1, 1, 0, 0, 0), (1, .iconst 1, 1, 0, 0, 0), (2, .iadd, 1, 0, 0, 0), (3, .aload_n 0, 1, 0, 0, 0), (4, .getfield 21, 3, 6, 1, 0), (7, .if_icmp .ge 9, 3, 16, 0, 0), (10, .iload_n 1, 1, 0, 0, 0), (11, .iconst 1, 1, 0, 0, 0), (12, .iadd, 1, 0, 0, 0), (13, .goto 4, 3, 17, 0, 0), (16, .iconst 0, 1, 0, 0, 0), (17, .ireturn, 1, 0, 0, 0)]
def tb_70 : List mi_I := [(0, .aload_n 0, 1, 0, 0, 0), (1, .invokevirtual 25, 3, 64, 1, 6), (4, .iconst 0, 1, 0, 0, 0), (5, .istore_n 2, 1, 0, 0, 0), (6, .iload_n 2, 1, 0, 0, 0), (7, .aload_n 1, 1, 0, 0, 0), (8, .getfield 21, 3, 6, 1, 0), (11, .if_icmp .ge 18, 3, 29, 0, 0), (14, .aload_n 0, 1, 0, 0, 0), (15, .aload_n 1, 1, 0, 0, 0), (16, .iload_n 2, 1, 0, 0, 0), (17, .invokevirtual 28, 3, 66, 2, 6), (20, .invokevirtual 32, 3, 65, 2, 6), (23, .iinc 2 1, 3, 0, 0, 0), (26, .goto (-20), 3, 6, 0, 0), (29, .return_, 1, 0, 0, 0)]
def tb_71 : List mi_I := [(0, .iload_n 2, 1, 0, 0, 0), (1, .istore 4, 2, 0, 0, 0), (3, .iload 4, 2, 0, 0, 0), (5, .iload_n 3, 1, 0, 0, 0), (6, .if_icmp .ge 19, 3, 25, 0, 0), (9, .aload_n 0, 1, 0, 0, 0), (10, .aload_n 1, 1, 0, 0, 0), (11, .iload 4, 2, 0, 0, 0), (13, .invokevirtual 28, 3, 66, 2, 6), (16, .invokevirtual 32, 3, 65, 2, 6), (19, .iinc 4 1, 3, 0, 0, 0), (22, .goto (-19), 3, 3, 0, 0), (25, .return_, 1, 0, 0, 0)]
def tb_72 : List mi_I := [(0, .aload_n 1, 1, 0, 0, 0), (1, .getfield 21, 3, 6, 1, 0), (4, .iconst 1, 1, 0, 0, 0), (5, .isub, 1, 0, 0, 0), (6, .istore_n 2, 1, 0, 0, 0), (7, .iload_n 2, 1, 0, 0, 0), (8, .ifCond .lt 18, 3, 26, 0, 0), (11, .aload_n 0, 1, 0, 0, 0), (12, .aload_n 1, 1, 0, 0, 0), (13, .iload_n 2, 1, 0, 0, 0), (14, .invokevirtual 28, 3, 66, 2, 6), (17, .invokevirtual 32, 3, 65, 2, 6), (20, .iinc 2 (-1), 3, 0, 0, 0), (23, .goto (-16), 3, 7, 0, 0), (26, .return_, 1, 0, 0, 0)]
def tb_73 : List mi_I := [(0, .aload_n 1, 1, 0, 0, 0), (1, .iload_n 2, 1, 0, 0, 0), (2, .invokevirtual 36, 3, 67, 2, 6), (5, .istore 4, 2, 0, 0, 0), (7, .iconst 0, 1, 0, 0, 0), (8, .istore 5, 2, 0, 0, 0), (10, .iload 5, 2, 0, 0, 0), (12, .aload_n 1, 1, 0, 0, 0), (13, .getfield 21, 3, 6, 1, 0), (16, .if_icmp .ge 38, 3, 54, 0, 0), (19, .aload_n 1, 1, 0, 0, 0), (20, .iload 4, 2, 0, 0, 0), (22, .invokevirtual 28, 3, 66, 2, 6), (25, .istore 6, 2, 0, 0, 0), (27, .aload_n 0, 1, 0, 0, 0), (28, .iload 6, 2, 0, 0, 0), (30, .invokevirtual 32, 3, 65, 2, 6), (33, .iload 6, 2, 0, 0, 0), (35, .iload_n 3, 1, 0, 0, 0), (36, .if_icmp .ne 4, 3, 40, 0, 0), (39, .return_, 1, 0, 0, 0), (40, .aload_n 1, 1, 0, 0, 0), (41, .iload 4, 2, 0, 0, 0), (43, .invokevirtual 39, 3, 69, 2, 6), (46, .istore 4, 2, 0, 0, 0), (48, .iinc 5 1, 3, 0, 0, 0), (51, .goto (-41), 3, 10, 0, 0), (54, .return_, 1, 0, 0, 0)]
def tb_74 : List mi_I := [(0, .iconst 0, 1, 0, 0, 0), (1, .istore_n 1, 1, 0, 0, 0), (2, .iconst 0, 1, 0, 0, 0), (3, .istore_n 2, 1, 0, 0, 0), (4, .iload_n 2, 1, 0, 0, 0), (5, .aload_n 0, 1, 0, 0, 0), (6, .getfield 21, 3, 6, 1, 0), (9, .if_icmp .ge 21, 3, 30, 0, 0), (12, .iload_n 1, 1, 0, 0, 0), (13, .aload_n 0, 1, 0, 0, 0), (14, .getfield 15, 3, 6, 0, 0), (17, .iload_n 2, 1, 0, 0, 0), (18, .iaload, 1, 0, 0, 0), (19, .invokestatic 42, 3, 120, 1, 11), (22, .ior, 1, 0, 0, 0), (23, .istore_n 1, 1, 0, 0, 0), (24, .iinc 2 1, 3, 0, 0, 0), (27, .goto (-23), 3, 4, 0, 0), (30, .iload_n 1, 1, 0, 0, 0), (31, .ireturn, 1, 0, 0, 0)]
def tb_75 : List mi_I := [(0, .aload_n 0, 1, 0, 0, 0), (1, .invokespecial 3, 3, 999, 1, 0), (4, .aload_n 0, 1, 0, 0, 0), (5, .bipush 20, 2, 0, 0, 0), (7, .newarray .int, 2, 0, 0, 0), (9, .putfield 9, 3, 7, 0, 0), (12, .aload_n 0, 1, 0, 0, 0), (13, .new 15, 3, 6, 2, 0), (16, .dup, 1, 0, 0, 0), (17, .bipush 20, 2, 0, 0, 0), (19, .invokespecial 17, 3, 62, 2, 6), (22, .putfield 20, 3, 7, 1, 0), (25, .aload_n 0, 1, 0, 0, 0), (26, .new 15, 3, 6, 2, 0), (29, .dup, 1, 0, 0, 0), (30, .bipush 20, 2, 0, 0, 0), (32, .invokespecial 17, 3, 62, 2, 6), (35, .putfield 24, 3, 7, 2, 0), (38, .return_, 1, 0, 0, 0)]
def tb_76 : List mi_I := [(0, .iload_n 3, 1, 0, 0, 0), (1, .istore 5, 2, 0, 0, 0), (3, .aload_n 0, 1, 0, 0, 0), (4, .iconst (-1), 1, 0, 0, 0), (5, .putfield 27, 3, 7, 3, 0), (8, .aload_n 0, 1, 0, 0, 0), (9, .getfield 20, 3, 7, 1, 0), (12, .invokevirtual 31, 3, 64, 1, 6), (15, .aload_n 0, 1, 0, 0, 0), (16, .getfield 20, 3, 7, 1, 0), (19, .iload_n 2, 1, 0, 0, 0), (20, .invokevirtual 34, 3, 65, 2, 6), (23, .iconst 0, 1, 0, 0, 0), (24, .istore 6, 2, 0, 0, 0), (26, .iload 6, 2, 0, 0, 0), (28, .bipush 20, 2, 0, 0, 0), (30, .if_icmp .ge 146, 3, 176, 0, 0), (33, .iload 6, 2, 0, 0, 0), (35, .aload_n 0, 1, 0, 0, 0), (36, .getfield 20, 3, 7, 1, 0), (39, .invokevirtual 37, 3, 63, 1, 6), (42, .if_icmp .ge 134, 3, 176, 0, 0), (45, .aload_n 0, 1, 0, 0, 0), (46, .getfield 27, 3, 7, 3, 0), (49, .iconst (-1), 1, 0, 0, 0), (50, .if_icmp .ne 126, 3, 176, 0, 0), (53, .aload_n 0, 1, 0, 0, 0), (54, .getfield 20, 3, 7, 1, 0), (57, .iload 6, 2, 0, 0, 0), (59, .invokevirtual 41, 3, 66, 2, 6), (62, .istore 7, 2, 0, 0, 0), (64, .aload_n 1, 1, 0, 0, 0), (65, .iload 7, 2, 0, 0, 0), (67, .invokevirtual 45, 3, 46, 2, 4), (70, .iload 7, 2, 0, 0, 0), (72, .iload_n 2, 1, 0, 0, 0), (73, .if_icmp .ne 8, 3, 81, 0, 0), (76, .iload 5, 2, 0, 0, 0), (78, .goto 8, 3, 86, 0, 0), (81, .iload 5, 2, 0, 0, 0), (83, .iload 4, 2, 0, 0, 0), (85, .ior, 1, 0, 0, 0), (86, .iand, 1, 0, 0, 0), (87, .istore 8, 2, 0, 0, 0), (89, .iload 5, 2, 0, 0, 0), (91, .iload 8, 2, 0, 0, 0), (93, .iconst (-1), 1, 0, 0, 0), (94, .ixor, 1, 0, 0, 0), (95, .iand, 1, 0, 0, 0), (96, .istore 5, 2, 0, 0, 0), (98, .iconst 0, 1, 0, 0, 0), (99, .istore 9, 2, 0, 0, 0), (101, .iload 9, 2, 0, 0, 0), (103, .bipush 20, 2, 0, 0, 0), (105, .if_icmp .ge 65, 3, 170, 0, 0), (108, .aload_n 0, 1, 0, 0, 0), (109, .getfield 27, 3, 7, 3, 0), (112, .iconst (-1), 1, 0, 0, 0), (113, .if_icmp .ne 57, 3, 170, 0, 0), (116, .iload 8, 2, 0, 0, 0), (118, .iload 9, 2, 0, 0, 0), (120, .invokestatic 50, 3, 121, 2, 11), (123, .ifCond .eq 41, 3, 164, 0, 0), (126, .aload_n 0, 1, 0, 0, 0), (127, .getfield 9, 3, 7, 0, 0), (130, .iload 9, 2, 0, 0, 0), (132, .iload 7, 2, 0, 0, 0), (134, .iastore, 1, 0, 0, 0), (135, .aload_n 0, 1, 0, 0, 0), (136, .getfield 20, 3, 7, 1, 0), (139, .iload 9, 2, 0, 0, 0), (141, .invokevirtual 34, 3, 65, 2, 6), (144, .aload_n 0, 1, 0, 0, 0), (145, .iload 4, 2, 0, 0, 0), (147, .iload 9, 2, 0, 0, 0), (149, .invokestatic 50, 3, 121, 2, 11), (152, .ifCond .eq 8, 3, 160, 0, 0), (155, .iload 9, 2, 0, 0, 0), (157, .goto 4, 3, 161, 0, 0), (160, .iconst (-1), 1, 0, 0, 0), (161, .putfield 27, 3, 7, 3, 0), (164, .iinc 9 1, 3, 0, 0, 0), (167, .goto (-66), 3, 101, 0, 0), (170, .iinc 6 1, 3, 0, 0, 0), (173, .goto (-147), 3, 26, 0, 0), (176, .aload_n 0, 1, 0, 0, 0), (177, .iload_n 2, 1, 0, 0, 0), (178, .invokevirtual 54, 3, 78, 2, 7), (181, .return_, 1, 0, 0, 0)]
def tb_77 : List mi_I := [(0, .aload_n 0, 1, 0, 0, 0), (1, .iload_n 1, 1, 0, 0, 0), (2, .putfield 27, 3, 7, 3, 0), (5, .aload_n 0, 1, 0, 0, 0), (6, .getfield 24, 3, 7, 2, 0), (9, .invokevirtual 31, 3, 64, 1, 6), (12, .return_, 1, 0, 0, 0)]
def tb_78 : List mi_I := [(0, .aload_n 0, 1, 0, 0, 0), (1, .getfield 24, 3, 7, 2, 0), (4, .invokevirtual 31, 3, 64, 1, 6), (7, .aload_n 0, 1, 0, 0, 0), (8, .getfield 27, 3, 7, 3, 0), (11, .istore_n 2, 1, 0, 0, 0), (12, .iconst 0, 1, 0, 0, 0), (13, .istore_n 3, 1, 0, 0, 0), (14, .iload_n 3, 1, 0, 0, 0), (15, .bipush 20, 2, 0, 0, 0), (17, .if_icmp .ge 42, 3, 59, 0, 0), (20, .iload_n 2, 1, 0, 0, 0), (21, .invokestatic 57, 3, 119, 1, 11), (24, .ifCond .eq 13, 3, 37, 0, 0), (27, .aload_n 0, 1, 0, 0, 0), (28, .getfield 9, 3, 7, 0, 0), (31, .iload_n 2, 1, 0, 0, 0), (32, .iaload, 1, 0, 0, 0), (33, .iload_n 1, 1, 0, 0, 0), (34, .if_icmp .ne 4, 3, 38, 0, 0), (37, .return_, 1, 0, 0, 0), (38, .aload_n 0, 1, 0, 0, 0), (39, .getfield 9, 3, 7, 0, 0), (42, .iload_n 2, 1, 0, 0, 0), (43, .iaload, 1, 0, 0, 0), (44, .istore_n 2, 1, 0, 0, 0), (45, .aload_n 0, 1, 0, 0, 0), (46, .getfield 24, 3, 7, 2, 0), (49, .iload_n 2, 1, 0, 0, 0), (50, .invokevirtual 34, 3, 65, 2, 6), (53, .iinc 3 1, 3, 0, 0, 0), (56, .goto (-42), 3, 14, 0, 0), (59, .return_, 1, 0, 0, 0)]
def tb_79 : List mi_I := [(0, .aload_n 0, 1, 0, 0, 0), (1, .invokespecial 3, 3, 999, 1, 0), (4, .aload_n 0, 1, 0, 0, 0), (5, .new 9, 3, 6, 2, 0), (8, .dup, 1, 0, 0, 0), (9, .bipush 60, 2, 0, 0, 0), (11, .invokespecial 11, 3, 62, 2, 6), (14, .putfield 14, 3, 8, 0, 0), (17, .aload_n 0, 1, 0, 0, 0), (18, .new 9, 3, 6, 2, 0), (21, .dup, 1, 0, 0, 0), (22, .bipush 20, 2, 0, 0, 0), (24, .invokespecial 11, 3, 62, 2, 6), (27, .putfield 20, 3, 8, 1, 0), (30, .return_, 1, 0, 0, 0)]
def tb_80 : List mi_I := [(0, .aload_n 0, 1, 0, 0, 0), (1, .lconst 0, 1, 0, 0, 0), (2, .putfield 23, 3, 8, 2, 0), (5, .aload_n 0, 1, 0, 0, 0), (6, .getfield 14, 3, 8, 0, 0), (9, .invokevirtual 27, 3, 64, 1, 6), (12, .iconst 0, 1, 0, 0, 0), (13, .istore 4, 2, 0, 0, 0), (15, .iload 4, 2, 0, 0, 0), (17, .aload_n 1, 1, 0, 0, 0), (18, .getfield 30, 3, 4, 4, 0), (21, .if_icmp .ge 62, 3, 83, 0, 0), (24, .aload_n 0, 1, 0, 0, 0), (25, .dup, 1, 0, 0, 0), (26, .getfield 23, 3, 8, 2, 0), (29, .lconst 1, 1, 0, 0, 0), (30, .iload 4, 2, 0, 0, 0), (32, .lshl, 1, 0, 0, 0), (33, .lor, 1, 0, 0, 0), (34, .putfield 23, 3, 8, 2, 0), (37, .aload_n 0, 1, 0, 0, 0), (38, .aload_n 1, 1, 0, 0, 0), (39, .aload_n 2, 1, 0, 0, 0), (40, .invokevirtual 35, 3, 81, 3, 8), (43, .aload_n 3, 1, 0, 0, 0), (44, .aload_n 2, 1, 0, 0, 0), (45, .invokevirtual 39, 3, 27, 2, 3), (48, .ifCond .eq 29, 3, 77, 0, 0), (51, .aload_n 0, 1, 0, 0, 0), (52, .dup, 1, 0, 0, 0), (53, .getfield 23, 3, 8, 2, 0), (56, .lconst 1, 1, 0, 0, 0), (57, .iload 4, 2, 0, 0, 0), (59, .lshl, 1, 0, 0, 0), (60, .ldc2_w 45, 3, 1, 0, 0), (63, .lxor, 1, 0, 0, 0), (64, .land, 1, 0, 0, 0), (65, .putfield 23, 3, 8, 2, 0), (68, .aload_n 0, 1, 0, 0, 0), (69, .getfield 14, 3, 8, 0, 0), (72, .iload 4, 2, 0, 0, 0), (74, .invokevirtual 47, 3, 65, 2, 6), (77, .iinc 4 1, 3, 0, 0, 0), (80, .goto (-65), 3, 15, 0, 0), (83, .aload_n 0, 1, 0, 0, 0), (84, .aload_n 1, 1, 0, 0, 0), (85, .aload_n 2, 1, 0, 0, 0), (86, .invokevirtual 35, 3, 81, 3, 8), (89, .aload_n 0, 1, 0, 0, 0), (90, .getfield 20, 3, 8, 1, 0), (93, .invokevirtual 27, 3, 64, 1, 6), (96, .iconst 0, 1, 0, 0, 0), (97, .istore 4, 2, 0, 0, 0), (99, .iload 4, 2, 0, 0, 0), (101, .aload_n 2, 1, 0, 0, 0), (102, .getfield 50, 3, 4, 3, 0), (105, .if_icmp .ge 31, 3, 136, 0, 0), (108, .aload_n 2, 1, 0, 0, 0), (109, .iload 4, 2, 0, 0, 0), (111, .invokevirtual 53, 3, 46, 2, 4), (114, .invokestatic 57, 3, 191, 1, 13), (117, .iconst 3, 1, 0, 0, 0), (118, .if_icmp .lt 12, 3, 130, 0, 0), (121, .aload_n 0, 1, 0, 0, 0), (122, .getfield 20, 3, 8, 1, 0), (125, .iload 4, 2, 0, 0, 0), (127, .invokevirtual 47, 3, 65, 2, 6), (130, .iinc 4 1, 3, 0, 0, 0), (133, .goto (-34), 3, 99, 0, 0), (136, .return_, 1, 0, 0, 0)]
def tb_81 : List mi_I := [(0, .aload_n 2, 1, 0, 0, 0), (1, .aload_n 1, 1, 0, 0, 0), (2, .getfield 50, 3, 4, 3, 0), (5, .invokevirtual 62, 3, 40, 2, 4), (8, .iconst 0, 1, 0, 0, 0), (9, .istore_n 3, 1, 0, 0, 0), (10, .iload_n 3, 1, 0, 0, 0), (11, .aload_n 1, 1, 0, 0, 0), (12, .getfield 30, 3, 4, 4, 0), (15, .if_icmp .ge 36, 3, 51, 0, 0), (18, .aload_n 0, 1, 0, 0, 0), (19, .getfield 23, 3, 8, 2, 0), (22, .iload_n 3, 1, 0, 0, 0), (23, .lshr, 1, 0, 0, 0), (24, .lconst 1, 1, 0, 0, 0), (25, .land, 1, 0, 0, 0), (26, .lconst 0, 1, 0, 0, 0), (27, .lcmp, 1, 0, 0, 0), (28, .ifCond .ne 17, 3, 45, 0, 0), (31, .aload_n 2, 1, 0, 0, 0), (32, .aload_n 1, 1, 0, 0, 0), (33, .iload_n 3, 1, 0, 0, 0), (34, .invokevirtual 65, 3, 44, 2, 4), (37, .aload_n 1, 1, 0, 0, 0), (38, .iload_n 3, 1, 0, 0, 0), (39, .invokevirtual 68, 3, 45, 2, 4), (42, .invokevirtual 71, 3, 50, 3, 4), (45, .iinc 3 1, 3, 0, 0, 0), (48, .goto (-38), 3, 10, 0, 0), (51, .return_, 1, 0, 0, 0)]
def tb_82 : List mi_I := [(0, .aload_n 0, 1, 0, 0, 0), (1, .getfield 20, 3, 8, 1, 0), (4, .invokevirtual 74, 3, 63, 1, 6), (7, .iconst 5, 1, 0, 0, 0), (8, .if_icmp .ne 7, 3, 15, 0, 0), (11, .iconst 5, 1, 0, 0, 0), (12, .goto 4, 3, 16, 0, 0), (15, .iconst 3, 1, 0, 0, 0), (16, .ireturn, 1, 0, 0, 0)]
def tb_83 : List mi_I := [(0, .aload_n 0, 1, 0, 0, 0), (1, .invokespecial 3, 3, 999, 1, 0), (4, .aload_n 0, 1, 0, 0, 0), (5, .bipush 20, 2, 0, 0, 0), (7, .anewarray 9, 3, 6, 2, 0), (10, .putfield 11, 3, 9, 0, 0), (13, .iconst 0, 1, 0, 0, 0), (14, .istore_n 1, 1, 0, 0, 0), (15, .iload_n 1, 1, 0, 0, 0), (16, .bipush 20, 2, 0, 0, 0), (18, .if_icmp .ge 24, 3, 42, 0, 0), (21, .aload_n 0, 1, 0, 0, 0), (22, .getfield 11, 3, 9, 0, 0), (25, .iload_n 1, 1, 0, 0, 0), (26, .new 9, 3, 6, 2, 0), (29, .dup, 1, 0, 0, 0), (30, .bipush 20, 2, 0, 0, 0), (32, .invokespecial 17, 3, 62, 2, 6), (35, .aastore, 1, 0, 0, 0), (36, .iinc 1 1, 3, 0, 0, 0), (39, .goto (-24), 3, 15, 0, 0), (42, .return_, 1, 0, 0, 0)]
def tb_84 : List mi_I := [(0, .iconst 0, 1, 0, 0, 0), (1, .istore_n 1, 1, 0, 0, 0), (2, .iload_n 1, 1, 0, 0, 0), (3, .bipush 20, 2, 0, 0, 0), (5, .if_icmp .ge 18, 3, 23, 0, 0), (8, .aload_n 0, 1, 0, 0, 0), (9, .getfield 11, 3, 9, 0, 0), (12, .iload_n 1, 1, 0, 0, 0), (13, .aaload, 1, 0, 0, 0), (14, .invokevirtual 20, 3, 64, 1, 6), (17, .iinc 1 1, 3, 0, 0, 0), (20, .goto (-18), 3, 2, 0, 0), (23, .return_, 1, 0, 0, 0)]
def tb_85 : List mi_I := [(0, .iconst 0, 1, 0, 0, 0), (1, .istore_n 2, 1, 0, 0, 0), (2, .iload_n 2, 1, 0, 0, 0), (3, .bipush 20, 2, 0, 0, 0), (5, .if_icmp .ge 24, 3, 29, 0, 0), (8, .aload_n 0, 1, 0, 0, 0), (9, .getfield 11, 3, 9, 0, 0), (12, .iload_n 2, 1, 0, 0, 0), (13, .aaload, 1, 0, 0, 0), (14, .aload_n 1, 1, 0, 0, 0), (15, .getfield 11, 3, 9, 0, 0), (18, .iload_n 2, 1, 0, 0, 0), (19, .aaload, 1, 0, 0, 0), (20, .invokevirtual 23, 3, 70, 2, 6), (23, .iinc 2 1, 3, 0, 0, 0), (26, .goto (-24), 3, 2, 0, 0), (29, .return_, 1, 0, 0, 0)]
def tb_86 : List mi_I := [(0, .iload_n 1, 1, 0, 0, 0), (1, .invokestatic 27, 3, 119, 1, 11), (4, .ifCond .eq 13, 3, 17, 0, 0), (7, .aload_n 0, 1, 0, 0, 0), (8, .getfield 11, 3, 9, 0, 0), (11, .iload_n 1, 1, 0, 0, 0), (12, .aaload, 1, 0, 0, 0), (13, .iload_n 2, 1, 0, 0, 0), (14, .invokevirtual 31, 3, 65, 2, 6), (17, .return_, 1, 0, 0, 0)]
def tb_87 : List mi_I := [(0, .iload_n 1, 1, 0, 0, 0), (1, .invokestatic 27, 3, 119, 1, 11), (4, .ifCond .eq 16, 3, 20, 0, 0), (7, .aload_n 0, 1, 0, 0, 0), (8, .getfield 11, 3, 9, 0, 0), (11, .iload_n 1, 1, 0, 0, 0), (12, .aaload, 1, 0, 0, 0), (13, .iload_n 2, 1, 0, 0, 0), (14, .invokevirtual 34, 3, 66, 2, 6), (17, .goto 4, 3, 21, 0, 0), (20, .iconst (-1), 1, 0, 0, 0), (21, .ireturn, 1, 0, 0, 0)]
def tb_88 : List mi_I := [(0, .iload_n 1, 1, 0, 0, 0), (1, .invokestatic 27, 3, 119, 1, 11), (4, .ifCond .eq 21, 3, 25, 0, 0), (7, .aload_n 0, 1, 0, 0, 0), (8, .getfield 11, 3, 9, 0, 0), (11, .iload_n 1, 1, 0, 0, 0), (12, .aaload, 1, 0, 0, 0), (13, .iload_n 2, 1, 0, 0, 0), (14, .iload_n 3, 1, 0, 0, 0), (15, .invokevirtual 38, 3, 68, 3, 6), (18, .ifCond .eq 7, 3, 25, 0, 0), (21, .iconst 1, 1, 0, 0, 0), (22, .goto 4, 3, 26, 0, 0), (25, .iconst 0, 1, 0, 0, 0), (26, .ireturn, 1, 0, 0, 0)]
def tb_89 : List mi_I := [(0, .iload_n 1, 1, 0, 0, 0), (1, .invokestatic 27, 3, 119, 1, 11), (4, .ifCond .ne 5, 3, 9, 0, 0), (7, .iconst (-1), 1, 0, 0, 0), (8, .ireturn, 1, 0, 0, 0), (9, .aload_n 0, 1, 0, 0, 0), (10, .getfield 11, 3, 9, 0, 0), (13, .iload_n 1, 1, 0, 0, 0), (14, .aaload, 1, 0, 0, 0), (15, .iload_n 2, 1, 0, 0, 0), (16, .invokevirtual 42, 3, 67, 2, 6), (19, .istore_n 3, 1, 0, 0, 0), (20, .iload_n 3, 1, 0, 0, 0), (21, .iconst (-1), 1, 0, 0, 0), (22, .if_icmp .ne 7, 3, 29, 0, 0), (25, .iconst (-1), 1, 0, 0, 0), (26, .goto 22, 3, 48, 0, 0), (29, .aload_n 0, 1, 0, 0, 0), (30, .getfield 11, 3, 9, 0, 0), (33, .iload_n 1, 1, 0, 0, 0), (34, .aaload, 1, 0, 0, 0), (35, .aload_n 0, 1, 0, 0, 0), (36, .getfield 11, 3, 9, 0, 0), (39, .iload_n 1, 1, 0, 0, 0), (40, .aaload, 1, 0, 0, 0), (41, .iload_n 3, 1, 0, 0, 0), (42, .invokevirtual 45, 3, 69, 2, 6), (45, .invokevirtual 34, 3, 66, 2, 6), (48, .ireturn, 1, 0, 0, 0)]
def tb_90 : List mi_I := [(0, .aload_n 0, 1, 0, 0, 0), (1, .invokespecial 3, 3, 999, 1, 0), (4, .aload_n 0, 1, 0, 0, 0), (5, .bipush 120, 2, 0, 0, 0), (7, .newarray .int, 2, 0, 0, 0), (9, .putfield 9, 3, 10, 0, 0), (12, .aload_n 0, 1, 0, 0, 0), (13, .sipush 400, 3, 0, 0, 0), (16, .newarray .int, 2, 0, 0, 0), (18, .putfield 15, 3, 10, 1, 0), (21, .aload_n 0, 1, 0, 0, 0), (22, .bipush 120, 2, 0, 0, 0), (24, .newarray .int, 2, 0, 0, 0), (26, .putfield 18, 3, 10, 2, 0), (29, .aload_n 0, 1, 0, 0, 0), (30, .new 21, 3, 6, 2, 0), (33, .dup, 1, 0, 0, 0), (34, .bipush 120, 2, 0, 0, 0), (36, .invokespecial 23, 3, 62, 2, 6), (39, .putfield 26, 3, 10, 3, 0), (42, .return_, 1, 0, 0, 0)]
def tb_91 : List mi_I := [(0, .aload_n 0, 1, 0, 0, 0), (1, .aload_n 1, 1, 0, 0, 0), (2, .invokevirtual 30, 3, 92, 2, 10), (5, .iconst 0, 1, 0, 0, 0), (6, .istore_n 3, 1, 0, 0, 0), (7, .iload_n 3, 1, 0, 0, 0), (8, .iconst 2, 1, 0, 0, 0), (9, .aload_n 1, 1, 0, 0, 0), (10, .getfield 34, 3, 4, 4, 0), (13, .imul, 1, 0, 0, 0), (14, .if_icmp .ge 80, 3, 94, 0, 0), (17, .iload_n 3, 1, 0, 0, 0), (18, .bipush 120, 2, 0, 0, 0), (20, .if_icmp .ge 74, 3, 94, 0, 0), (23, .aload_n 0, 1, 0, 0, 0), (24, .aload_n 1, 1, 0, 0, 0), (25, .iload_n 3, 1, 0, 0, 0), (26, .iconst 1, 1, 0, 0, 0), (27, .ixor, 1, 0, 0, 0), (28, .invokevirtual 40, 3, 94, 3, 10), (31, .istore 4, 2, 0, 0, 0), (33, .aload_n 2, 1, 0, 0, 0), (34, .iload 4, 2, 0, 0, 0), (36, .aload_n 0, 1, 0, 0, 0), (37, .aload_n 1, 1, 0, 0, 0), (38, .iload_n 3, 1, 0, 0, 0), (39, .invokevirtual 40, 3, 94, 3, 10), (42, .invokevirtual 44, 3, 89, 3, 9), (45, .istore 5, 2, 0, 0, 0), (47, .aload_n 0, 1, 0, 0, 0), (48, .getfield 9, 3, 10, 0, 0), (51, .iload_n 3, 1, 0, 0, 0), (52, .aload_n 1, 1, 0, 0, 0), (53, .iload 4, 2, 0, 0, 0), (55, .iload 5, 2, 0, 0, 0), (57, .invokevirtual 50, 3, 48, 3, 4), (60, .ifCond .eq 19, 3, 79, 0, 0), (63, .aload_n 0, 1, 0, 0, 0), (64, .getfield 15, 3, 10, 1, 0), (67, .bipush 20, 2, 0, 0, 0), (69, .iload 4, 2, 0, 0, 0), (71, .imul, 1, 0, 0, 0), (72, .iload 5, 2, 0, 0, 0), (74, .iadd, 1, 0, 0, 0), (75, .iaload, 1, 0, 0, 0), (76, .goto 4, 3, 80, 0, 0), (79, .iconst (-1), 1, 0, 0, 0), (80, .iastore, 1, 0, 0, 0), (81, .aload_n 0, 1, 0, 0, 0), (82, .getfield 18, 3, 10, 2, 0), (85, .iload_n 3, 1, 0, 0, 0), (86, .iconst (-1), 1, 0, 0, 0), (87, .iastore, 1, 0, 0, 0), (88, .iinc 3 1, 3, 0, 0, 0), (91, .goto (-84), 3, 7, 0, 0), (94, .aload_n 0, 1, 0, 0, 0), (95, .iconst 0, 1, 0, 0, 0), (96, .putfield 54, 3, 10, 4, 0), (99, .aload_n 0, 1, 0, 0, 0), (100, .getfield 26, 3, 10, 3, 0), (103, .invokevirtual 57, 3, 64, 1, 6), (106, .iconst 0, 1, 0, 0, 0), (107, .istore_n 3, 1, 0, 0, 0), (108, .iload_n 3, 1, 0, 0, 0), (109, .iconst 2, 1, 0, 0, 0), (110, .aload_n 1, 1, 0, 0, 0), (111, .getfield 34, 3, 4, 4, 0), (114, .imul, 1, 0, 0, 0), (115, .if_icmp .ge 30, 3, 145, 0, 0), (118, .iload_n 3, 1, 0, 0, 0), (119, .bipush 120, 2, 0, 0, 0), (121, .if_icmp .ge 24, 3, 145, 0, 0), (124, .aload_n 0, 1, 0, 0, 0), (125, .getfield 18, 3, 10, 2, 0), (128, .iload_n 3, 1, 0, 0, 0), (129, .iaload, 1, 0, 0, 0), (130, .iconst (-1), 1, 0, 0, 0), (131, .if_icmp .ne 8, 3, 139, 0, 0), (134, .aload_n 0, 1, 0, 0, 0), (135, .iload_n 3, 1, 0, 0, 0), (136, .invokevirtual 60, 3, 93, 2, 10), (139, .iinc 3 1, 3, 0, 0, 0), (142, .goto (-34), 3, 108, 0, 0), (145, .return_, 1, 0, 0, 0)]
def tb_92 : List mi_I := [(0, .iconst 0, 1, 0, 0, 0), (1, .istore_n 2, 1, 0, 0, 0), (2, .iload_n 2, 1, 0, 0, 0), (3, .aload_n 1, 1, 0, 0, 0), (4, .getfield 34, 3, 4, 4, 0), (7, .if_icmp .ge 71, 3, 78, 0, 0), (10, .aload_n 1, 1, 0, 0, 0), (11, .iload_n 2, 1, 0, 0, 0), (12, .invokevirtual 63, 3, 44, 2, 4), (15, .istore_n 3, 1, 0, 0, 0), (16, .aload_n 1, 1, 0, 0, 0), (17, .iload_n 2, 1, 0, 0, 0), (18, .invokevirtual 67, 3, 45, 2, 4), (21, .istore 4, 2, 0, 0, 0), (23, .aload_n 1, 1, 0, 0, 0), (24, .iload_n 3, 1, 0, 0, 0), (25, .invokevirtual 70, 3, 42, 2, 4), (28, .ifCond .eq 44, 3, 72, 0, 0), (31, .aload_n 1, 1, 0, 0, 0), (32, .iload 4, 2, 0, 0, 0), (34, .invokevirtual 70, 3, 42, 2, 4), (37, .ifCond .eq 35, 3, 72, 0, 0), (40, .aload_n 0, 1, 0, 0, 0), (41, .getfield 15, 3, 10, 1, 0), (44, .bipush 20, 2, 0, 0, 0), (46, .iload_n 3, 1, 0, 0, 0), (47, .imul, 1, 0, 0, 0), (48, .iload 4, 2, 0, 0, 0), (50, .iadd, 1, 0, 0, 0), (51, .iconst 2, 1, 0, 0, 0), (52, .iload_n 2, 1, 0, 0, 0), (53, .imul, 1, 0, 0, 0), (54, .iastore, 1, 0, 0, 0), (55, .aload_n 0, 1, 0, 0, 0), (56, .getfield 15, 3, 10, 1, 0), (59, .bipush 20, 2, 0, 0, 0), (61, .iload 4, 2, 0, 0, 0), (63, .imul, 1, 0, 0, 0), (64, .iload_n 3, 1, 0, 0, 0), (65, .iadd, 1, 0, 0, 0), (66, .iconst 2, 1, 0, 0, 0), (67, .iload_n 2, 1, 0, 0, 0), (68, .imul, 1, 0, 0, 0), (69, .iconst 1, 1, 0, 0, 0), (70, .iadd, 1, 0, 0, 0), (71, .iastore, 1, 0, 0, 0), (72, .iinc 2 1, 3, 0, 0, 0), (75, .goto (-73), 3, 2, 0, 0), (78, .return_, 1, 0, 0, 0)]
def tb_93 : List mi_I := [(0, .iload_n 1, 1, 0, 0, 0), (1, .istore_n 2, 1, 0, 0, 0), (2, .iconst 0, 1, 0, 0, 0), (3, .istore_n 3, 1, 0, 0, 0), (4, .iload_n 3, 1, 0, 0, 0), (5, .bipush 120, 2, 0, 0, 0), (7, .if_icmp .ge 49, 3, 56, 0, 0), (10, .iload_n 2, 1, 0, 0, 0), (11, .ifCond .lt 45, 3, 56, 0, 0), (14, .iload_n 2, 1, 0, 0, 0), (15, .bipush 120, 2, 0, 0, 0), (17, .if_icmp .ge 39, 3, 56, 0, 0), (20, .aload_n 0, 1, 0, 0, 0), (21, .getfield 18, 3, 10, 2, 0), (24, .iload_n 2, 1, 0, 0, 0), (25, .iaload, 1, 0, 0, 0), (26, .iconst (-1), 1, 0, 0, 0), (27, .if_icmp .eq 6, 3, 33, 0, 0), (30, .goto 26, 3, 56, 0, 0), (33, .aload_n 0, 1, 0, 0, 0), (34, .getfield 18, 3, 10, 2, 0), (37, .iload_n 2, 1, 0, 0, 0), (38, .aload_n 0, 1, 0, 0, 0), (39, .getfield 54, 3, 10, 4, 0), (42, .iastore, 1, 0, 0, 0), (43, .aload_n 0, 1, 0, 0, 0), (44, .getfield 9, 3, 10, 0, 0), (47, .iload_n 2, 1, 0, 0, 0), (48, .iaload, 1, 0, 0, 0), (49, .istore_n 2, 1, 0, 0, 0), (50, .iinc 3 1, 3, 0, 0, 0), (53, .goto (-49), 3, 4, 0, 0), (56, .aload_n 0, 1, 0, 0, 0), (57, .getfield 26, 3, 10, 3, 0), (60, .iload_n 1, 1, 0, 0, 0), (61, .invokevirtual 74, 3, 65, 2, 6), (64, .aload_n 0, 1, 0, 0, 0), (65, .dup, 1, 0, 0, 0), (66, .getfield 54, 3, 10, 4, 0), (69, .iconst 1, 1, 0, 0, 0), (70, .iadd, 1, 0, 0, 0), (71, .putfield 54, 3, 10, 4, 0), (74, .return_, 1, 0, 0, 0)]
def tb_94 : List mi_I := [(0, .iload_n 2, 1, 0, 0, 0), (1, .iconst 1, 1, 0, 0, 0), (2, .iand, 1, 0, 0, 0), (3, .ifCond .ne 13, 3, 16, 0, 0), (6, .aload_n 1, 1, 0, 0, 0), (7, .iload_n 2, 1, 0, 0, 0), (8, .iconst 1, 1, 0, 0, 0), (9, .ishr, 1, 0, 0, 0), (10, .invokevirtual 63, 3, 44, 2, 4), (13, .goto 10, 3, 23, 0, 0), (16, .aload_n 1, 1, 0, 0, 0), (17, .iload_n 2, 1, 0, 0, 0), (18, .iconst 1, 1, 0, 0, 0), (19, .ishr, 1, 0, 0, 0), (20, .invokevirtual 67, 3, 45, 2, 4), (23, .ireturn, 1, 0, 0, 0)]
def tb_95 : List mi_I := [(0, .aload_n 0, 1, 0, 0, 0), (1, .getfield 26, 3, 10, 3, 0), (4, .iload_n 2, 1, 0, 0, 0), (5, .invokevirtual 77, 3, 66, 2, 6), (8, .istore 4, 2, 0, 0, 0), (10, .iload_n 3, 1, 0, 0, 0), (11, .ifCond .lt 15, 3, 26, 0, 0), (14, .iload_n 3, 1, 0, 0, 0), (15, .bipush 120, 2, 0, 0, 0), (17, .if_icmp .ge 9, 3, 26, 0, 0), (20, .iload 4, 2, 0, 0, 0), (22, .iconst (-1), 1, 0, 0, 0), (23, .if_icmp .ne 5, 3, 28, 0, 0), (26, .iconst (-1), 1, 0, 0, 0), (27, .ireturn, 1, 0, 0, 0), (28, .iload 4, 2, 0, 0, 0), (30, .istore 5, 2, 0, 0, 0), (32, .iconst 0, 1, 0, 0, 0), (33, .istore 6, 2, 0, 0, 0), (35, .iload 6, 2, 0, 0, 0), (37, .iload_n 3, 1, 0, 0, 0), (38, .if_icmp .ge 41, 3, 79, 0, 0), (41, .iload 5, 2, 0, 0, 0), (43, .ifCond .lt 10, 3, 53, 0, 0), (46, .iload 5, 2, 0, 0, 0), (48, .bipush 120, 2, 0, 0, 0), (50, .if_icmp .lt 5, 3, 55, 0, 0), (53, .iconst (-1), 1, 0, 0, 0), (54, .ireturn, 1, 0, 0, 0), (55, .aload_n 0, 1, 0, 0, 0), (56, .getfield 9, 3, 10, 0, 0), (59, .iload 5, 2, 0, 0, 0), (61, .iaload, 1, 0, 0, 0), (62, .istore 5, 2, 0, 0, 0), (64, .iload 5, 2, 0, 0, 0), (66, .iload 4, 2, 0, 0, 0), (68, .if_icmp .ne 5, 3, 73, 0, 0), (71, .iconst (-1), 1, 0, 0, 0), (72, .ireturn, 1, 0, 0, 0), (73, .iinc 6 1, 3, 0, 0, 0), (76, .goto (-41), 3, 35, 0, 0), (79, .aload_n 0, 1, 0, 0, 0), (80, .aload_n 1, 1, 0, 0, 0), (81, .iload 5, 2, 0, 0, 0), (83, .invokevirtual 40, 3, 94, 3, 10), (86, .ireturn, 1, 0, 0, 0)]
def tb_96 : List mi_I := [(0, .aload_n 0, 1, 0, 0, 0), (1, .invokespecial 3, 3, 999, 1, 0), (4, .aload_n 0, 1, 0, 0, 0), (5, .new 9, 3, 4, 5, 0), (8, .dup, 1, 0, 0, 0), (9, .invokespecial 11, 3, 39, 1, 4), (12, .putfield 12, 3, 11, 0, 0), (15, .aload_n 0, 1, 0, 0, 0), (16, .new 9, 3, 4, 5, 0), (19, .dup, 1, 0, 0, 0), (20, .invokespecial 11, 3, 39, 1, 4), (23, .putfield 16, 3, 11, 1, 0), (26, .aload_n 0, 1, 0, 0, 0), (27, .new 19, 3, 3, 12, 0), (30, .dup, 1, 0, 0, 0), (31, .invokespecial 21, 3, 26, 1, 3), (34, .putfield 22, 3, 11, 2, 0), (37, .aload_n 0, 1, 0, 0, 0), (38, .new 26, 3, 9, 1, 0), (41, .dup, 1, 0, 0, 0), (42, .invokespecial 28, 3, 83, 1, 9), (45, .putfield 29, 3, 11, 3, 0), (48, .aload_n 0, 1, 0, 0, 0), (49, .new 33, 3, 10, 5, 0), (52, .dup, 1, 0, 0, 0), (53, .invokespecial 35, 3, 90, 1, 10), (56, .putfield 36, 3, 11, 4, 0), (59, .aload_n 0, 1, 0, 0, 0), (60, .new 40, 3, 8, 3, 0), (63, .dup, 1, 0, 0, 0), (64, .invokespecial 42, 3, 79, 1, 8), (67, .putfield 43, 3, 11, 5, 0), (70, .aload_n 0, 1, 0, 0, 0), (71, .new 47, 3, 2, 7, 0), (74, .dup, 1, 0, 0, 0), (75, .invokespecial 49, 3, 15, 1, 2), (78, .putfield 50, 3, 11, 6, 0), (81, .aload_n 0, 1, 0, 0, 0), (82, .new 54, 3, 1, 2, 0), (85, .dup, 1, 0, 0, 0), (86, .invokespecial 56, 3, 10, 1, 1), (89, .putfield 57, 3, 11, 7, 0), (92, .aload_n 0, 1, 0, 0, 0), (93, .iconst 2, 1, 0, 0, 0), (94, .putfield 61, 3, 11, 12, 0), (97, .aload_n 0, 1, 0, 0, 0), (98, .getfield 12, 3, 11, 0, 0), (101, .iconst 0, 1, 0, 0, 0), (102, .invokevirtual 65, 3, 40, 2, 4), (105, .return_, 1, 0, 0, 0)]
def tb_97 : List mi_I := [(0, .iload_n 1, 1, 0, 0, 0), (1, .ifCond .lt 9, 3, 10, 0, 0), (4, .iload_n 1, 1, 0, 0, 0), (5, .bipush 20, 2, 0, 0, 0), (7, .if_icmp .le 5, 3, 12, 0, 0), (10, .iconst 0, 1, 0, 0, 0), (11, .ireturn, 1, 0, 0, 0), (12, .aload_n 0, 1, 0, 0, 0), (13, .getfield 12, 3, 11, 0, 0), (16, .iload_n 1, 1, 0, 0, 0), (17, .invokevirtual 65, 3, 40, 2, 4), (20, .aload_n 0, 1, 0, 0, 0), (21, .invokevirtual 69, 3, 115, 1, 11), (24, .iconst 1, 1, 0, 0, 0), (25, .ireturn, 1, 0, 0, 0)]
def tb_98 : List mi_I := [(0, .aload_n 0, 1, 0, 0, 0), (1, .getfield 12, 3, 11, 0, 0), (4, .iload_n 1, 1, 0, 0, 0), (5, .iload_n 2, 1, 0, 0, 0), (6, .invokevirtual 72, 3, 49, 3, 4), (9, .ifCond .ne 5, 3, 14, 0, 0), (12, .iconst (-1), 1, 0, 0, 0), (13, .ireturn, 1, 0, 0, 0), (14, .aload_n 0, 1, 0, 0, 0), (15, .getfield 12, 3, 11, 0, 0), (18, .iload_n 1, 1, 0, 0, 0), (19, .iload_n 2, 1, 0, 0, 0), (20, .invokevirtual 76, 3, 50, 3, 4), (23, .aload_n 0, 1, 0, 0, 0), (24, .invokevirtual 69, 3, 115, 1, 11), (27, .aload_n 0, 1, 0, 0, 0), (28, .getfield 12, 3, 11, 0, 0), (31, .getfield 80, 3, 4, 4, 0), (34, .iconst 1, 1, 0, 0, 0), (35, .isub, 1, 0, 0, 0), (36, .ireturn, 1, 0, 0, 0)]
def tb_99 : List mi_I := [(0, .aload_n 0, 1, 0, 0, 0), (1, .getfield 12, 3, 11, 0, 0), (4, .iload_n 1, 1, 0, 0, 0), (5, .invokevirtual 83, 3, 43, 2, 4), (8, .ifCond .ne 5, 3, 13, 0, 0), (11, .iconst 0, 1, 0, 0, 0), (12, .ireturn, 1, 0, 0, 0), (13, .aload_n 0, 1, 0, 0, 0), (14, .getfield 12, 3, 11, 0, 0), (17, .iload_n 1, 1, 0, 0, 0), (18, .invokevirtual 87, 3, 51, 2, 4), (21, .aload_n 0, 1, 0, 0, 0), (22, .invokevirtual 69, 3, 115, 1, 11), (25, .iconst 1, 1, 0, 0, 0), (26, .ireturn, 1, 0, 0, 0)]
def tb_100 : List mi_I := [(0, .aload_n 0, 1, 0, 0, 0), (1, .getfield 12, 3, 11, 0, 0), (4, .iload_n 1, 1, 0, 0, 0), (5, .invokevirtual 83, 3, 43, 2, 4), (8, .ifCond .ne 5, 3, 13, 0, 0), (11, .iconst (-1), 1, 0, 0, 0), (12, .ireturn, 1, 0, 0, 0), (13, .iload_n 2, 1, 0, 0, 0), (14, .tableswitch 70 0 2 #[26, 35, 44], 26, 0, 0, 0), (40, .aload_n 0, 1, 0, 0, 0), (41, .getfield 12, 3, 11, 0, 0), (44, .iload_n 1, 1, 0, 0, 0), (45, .invokevirtual 90, 3, 44, 2, 4), (48, .ireturn, 1, 0, 0, 0), (49, .aload_n 0, 1, 0, 0, 0), (50, .getfield 12, 3, 11, 0, 0), (53, .iload_n 1, 1, 0, 0, 0), (54, .invokevirtual 94, 3, 45, 2, 4), (57, .ireturn, 1, 0, 0, 0), (58, .aload_n 0, 1, 0, 0, 0), (59, .getfield 22, 3, 11, 2, 0), (62, .getfield 97, 3, 3, 0, 0), (65, .aload_n 0, 1, 0, 0, 0), (66, .getfield 12, 3, 11, 0, 0), (69, .invokevirtual 101, 3, 2, 2, 0), (72, .aload_n 0, 1, 0, 0, 0), (73, .getfield 22, 3, 11, 2, 0), (76, .getfield 97, 3, 3, 0, 0), (79, .iload_n 1, 1, 0, 0, 0), (80, .invokevirtual 107, 3, 1, 2, 0), (83, .ireturn, 1, 0, 0, 0), (84, .iconst (-1), 1, 0, 0, 0), (85, .ireturn, 1, 0, 0, 0)]
def tb_101 : List mi_I := [(0, .iload_n 1, 1, 0, 0, 0), (1, .tableswitch 126 0 5 #[39, 47, 55, 80, 88, 113], 39, 0, 0, 0), (40, .aload_n 0, 1, 0, 0, 0), (41, .getfield 12, 3, 11, 0, 0), (44, .getfield 110, 3, 4, 3, 0), (47, .ireturn, 1, 0, 0, 0), (48, .aload_n 0, 1, 0, 0, 0), (49, .getfield 12, 3, 11, 0, 0), (52, .getfield 80, 3, 4, 4, 0), (55, .ireturn, 1, 0, 0, 0), (56, .aload_n 0, 1, 0, 0, 0), (57, .getfield 22, 3, 11, 2, 0), (60, .getfield 97, 3, 3, 0, 0), (63, .aload_n 0, 1, 0, 0, 0), (64, .getfield 12, 3, 11, 0, 0), (67, .invokevirtual 101, 3, 2, 2, 0), (70, .aload_n 0, 1, 0, 0, 0), (71, .getfield 22, 3, 11, 2, 0), (74, .getfield 97, 3, 3, 0, 0), (77, .getfield 113, 3, 0, 7, 0), (80, .ireturn, 1, 0, 0, 0), (81, .aload_n 0, 1, 0, 0, 0), (82, .getfield 12, 3, 11, 0, 0), (85, .invokevirtual 116, 3, 52, 1, 4), (88, .ireturn, 1, 0, 0, 0), (89, .aload_n 0, 1, 0, 0, 0), (90, .getfield 22, 3, 11, 2, 0), (93, .getfield 97, 3, 3, 0, 0), (96, .aload_n 0, 1, 0, 0, 0), (97, .getfield 12, 3, 11, 0, 0), (100, .invokevirtual 101, 3, 2, 2, 0), (103, .aload_n 0, 1, 0, 0, 0), (104, .getfield 22, 3, 11, 2, 0), (107, .getfield 97, 3, 3, 0, 0), (110, .getfield 120, 3, 0, 8, 0), (113, .ireturn, 1, 0, 0, 0), (114, .aload_n 0, 1, 0, 0, 0), (115, .invokevirtual 123, 3, 116, 1, 11), (118, .ifCond .eq 7, 3, 125, 0, 0), (121, .iconst 1, 1, 0, 0, 0), (122, .goto 4, 3, 126, 0, 0), (125, .iconst 0, 1, 0, 0, 0), (126, .ireturn, 1, 0, 0, 0), (127, .iconst (-1), 1, 0, 0, 0), (128, .ireturn, 1, 0, 0, 0)]
def tb_102 : List mi_I := [(0, .aload_n 0, 1, 0, 0, 0), (1, .invokevirtual 127, 3, 117, 1, 11), (4, .ifCond .eq 11, 3, 15, 0, 0), (7, .aload_n 0, 1, 0, 0, 0), (8, .getfield 36, 3, 11, 4, 0), (11, .getfield 130, 3, 10, 4, 0), (14, .ireturn, 1, 0, 0, 0), (15, .aload_n 0, 1, 0, 0, 0), (16, .getfield 131, 3, 11, 9, 0), (19, .ifCond .ne 27, 3, 46, 0, 0), (22, .aload_n 0, 1, 0, 0, 0), (23, .getfield 43, 3, 11, 5, 0), (26, .aload_n 0, 1, 0, 0, 0), (27, .getfield 12, 3, 11, 0, 0), (30, .aload_n 0, 1, 0, 0, 0), (31, .getfield 16, 3, 11, 1, 0), (34, .aload_n 0, 1, 0, 0, 0), (35, .getfield 22, 3, 11, 2, 0), (38, .invokevirtual 135, 3, 80, 4, 8), (41, .aload_n 0, 1, 0, 0, 0), (42, .iconst 1, 1, 0, 0, 0), (43, .putfield 131, 3, 11, 9, 0), (46, .iconst (-1), 1, 0, 0, 0), (47, .ireturn, 1, 0, 0, 0)]
def tb_103 : List mi_I := [(0, .aload_n 0, 1, 0, 0, 0), (1, .getfield 138, 3, 11, 8, 0), (4, .ifCond .eq 15, 3, 19, 0, 0), (7, .aload_n 0, 1, 0, 0, 0), (8, .getfield 29, 3, 11, 3, 0), (11, .iload_n 1, 1, 0, 0, 0), (12, .iload_n 2, 1, 0, 0, 0), (13, .invokevirtual 141, 3, 87, 3, 9), (16, .goto 4, 3, 20, 0, 0), (19, .iconst (-1), 1, 0, 0, 0), (20, .ireturn, 1, 0, 0, 0)]
def tb_104 : List mi_I := [(0, .aload_n 0, 1, 0, 0, 0), (1, .getfield 138, 3, 11, 8, 0), (4, .ifCond .eq 16, 3, 20, 0, 0), (7, .aload_n 0, 1, 0, 0, 0), (8, .getfield 29, 3, 11, 3, 0), (11, .iload_n 1, 1, 0, 0, 0), (12, .iload_n 2, 1, 0, 0, 0), (13, .iload_n 3, 1, 0, 0, 0), (14, .invokevirtual 145, 3, 88, 4, 9), (17, .ifCond .ne 5, 3, 22, 0, 0), (20, .iconst 0, 1, 0, 0, 0), (21, .ireturn, 1, 0, 0, 0), (22, .aload_n 0, 1, 0, 0, 0), (23, .getfield 36, 3, 11, 4, 0), (26, .aload_n 0, 1, 0, 0, 0), (27, .getfield 12, 3, 11, 0, 0), (30, .aload_n 0, 1, 0, 0, 0), (31, .getfield 29, 3, 11, 3, 0), (34, .invokevirtual 149, 3, 91, 3, 10), (37, .iconst 1, 1, 0, 0, 0), (38, .ireturn, 1, 0, 0, 0)]
def tb_105 : List mi_I := [(0, .aload_n 0, 1, 0, 0, 0), (1, .getfield 138, 3, 11, 8, 0), (4, .ifCond .eq 13, 3, 17, 0, 0), (7, .aload_n 0, 1, 0, 0, 0), (8, .getfield 36, 3, 11, 4, 0), (11, .getfield 130, 3, 10, 4, 0), (14, .goto 4, 3, 18, 0, 0), (17, .iconst (-1), 1, 0, 0, 0), (18, .ireturn, 1, 0, 0, 0)]
def tb_106 : List mi_I := [(0, .aload_n 0, 1, 0, 0, 0), (1, .getfield 138, 3, 11, 8, 0), (4, .ifCond .eq 19, 3, 23, 0, 0), (7, .aload_n 0, 1, 0, 0, 0), (8, .getfield 36, 3, 11, 4, 0), (11, .aload_n 0, 1, 0, 0, 0), (12, .getfield 12, 3, 11, 0, 0), (15, .iload_n 1, 1, 0, 0, 0), (16, .iload_n 2, 1, 0, 0, 0), (17, .invokevirtual 152, 3, 95, 4, 10), (20, .goto 4, 3, 24, 0, 0), (23, .iconst (-1), 1, 0, 0, 0), (24, .ireturn, 1, 0, 0, 0)]
def tb_107 : List mi_I := [(0, .aload_n 0, 1, 0, 0, 0), (1, .getfield 138, 3, 11, 8, 0), (4, .ifCond .ne 5, 3, 9, 0, 0), (7, .iconst (-1), 1, 0, 0, 0), (8, .ireturn, 1, 0, 0, 0), (9, .aload_n 0, 1, 0, 0, 0), (10, .getfield 22, 3, 11, 2, 0), (13, .getfield 97, 3, 3, 0, 0), (16, .aload_n 0, 1, 0, 0, 0), (17, .getfield 12, 3, 11, 0, 0), (20, .invokevirtual 101, 3, 2, 2, 0), (23, .iconst 2, 1, 0, 0, 0), (24, .aload_n 0, 1, 0, 0, 0), (25, .getfield 22, 3, 11, 2, 0), (28, .getfield 97, 3, 3, 0, 0), (31, .getfield 113, 3, 0, 7, 0), (34, .imul, 1, 0, 0, 0), (35, .aload_n 0, 1, 0, 0, 0), (36, .getfield 12, 3, 11, 0, 0), (39, .invokevirtual 116, 3, 52, 1, 4), (42, .isub, 1, 0, 0, 0), (43, .aload_n 0, 1, 0, 0, 0), (44, .getfield 12, 3, 11, 0, 0), (47, .getfield 110, 3, 4, 3, 0), (50, .isub, 1, 0, 0, 0), (51, .aload_n 0, 1, 0, 0, 0), (52, .getfield 12, 3, 11, 0, 0), (55, .getfield 80, 3, 4, 4, 0), (58, .iadd, 1, 0, 0, 0), (59, .aload_n 0, 1, 0, 0, 0), (60, .getfield 36, 3, 11, 4, 0), (63, .getfield 130, 3, 10, 4, 0), (66, .isub, 1, 0, 0, 0), (67, .istore_n 1, 1, 0, 0, 0), (68, .iload_n 1, 1, 0, 0, 0), (69, .iconst 2, 1, 0, 0, 0), (70, .idiv, 1, 0, 0, 0), (71, .ireturn, 1, 0, 0, 0)]
def tb_108 : List mi_I := [(0, .aload_n 0, 1, 0, 0, 0), (1, .getfield 131, 3, 11, 9, 0), (4, .ifCond .ne 5, 3, 9, 0, 0), (7, .iconst (-1), 1, 0, 0, 0), (8, .ireturn, 1, 0, 0, 0), (9, .iload_n 1, 1, 0, 0, 0), (10, .tableswitch 56 0 2 #[26, 37, 45], 26, 0, 0, 0), (36, .aload_n 0, 1, 0, 0, 0), (37, .getfield 43, 3, 11, 5, 0), (40, .getfield 156, 3, 8, 0, 0), (43, .invokevirtual 159, 3, 63, 1, 6), (46, .ireturn, 1, 0, 0, 0), (47, .aload_n 0, 1, 0, 0, 0), (48, .getfield 43, 3, 11, 5, 0), (51, .invokevirtual 164, 3, 82, 1, 8), (54, .ireturn, 1, 0, 0, 0), (55, .aload_n 0, 1, 0, 0, 0), (56, .getfield 43, 3, 11, 5, 0), (59, .getfield 167, 3, 8, 1, 0), (62, .invokevirtual 159, 3, 63, 1, 6), (65, .ireturn, 1, 0, 0, 0), (66, .iload_n 1, 1, 0, 0, 0), (67, .sipush 200, 3, 0, 0, 0), (70, .if_icmp .lt 21, 3, 91, 0, 0), (73, .aload_n 0, 1, 0, 0, 0), (74, .getfield 43, 3, 11, 5, 0), (77, .getfield 167, 3, 8, 1, 0), (80, .iload_n 1, 1, 0, 0, 0), (81, .sipush 200, 3, 0, 0, 0), (84, .isub, 1, 0, 0, 0), (85, .invokevirtual 170, 3, 66, 2, 6), (88, .goto 21, 3, 109, 0, 0), (91, .aload_n 0, 1, 0, 0, 0), (92, .getfield 43, 3, 11, 5, 0), (95, .getfield 156, 3, 8, 0, 0), (98, .iload_n 1, 1, 0, 0, 0), (99, .iconst 0, 1, 0, 0, 0), (100, .invokestatic 173, 3, 0, 2, 1), (103, .bipush 100, 2, 0, 0, 0), (105, .isub, 1, 0, 0, 0), (106, .invokevirtual 170, 3, 66, 2, 6), (109, .ireturn, 1, 0, 0, 0)]
def tb_109 : List mi_I := [(0, .aload_n 0, 1, 0, 0, 0), (1, .getfield 12, 3, 11, 0, 0), (4, .iload_n 1, 1, 0, 0, 0), (5, .iload_n 2, 1, 0, 0, 0), (6, .invokevirtual 72, 3, 49, 3, 4), (9, .ifCond .eq 10, 3, 19, 0, 0), (12, .aload_n 0, 1, 0, 0, 0), (13, .invokevirtual 123, 3, 116, 1, 11), (16, .ifCond .ne 5, 3, 21, 0, 0), (19, .iconst (-1), 1, 0, 0, 0), (20, .ireturn, 1, 0, 0, 0), (21, .aload_n 0, 1, 0, 0, 0), (22, .getfield 16, 3, 11, 1, 0), (25, .aload_n 0, 1, 0, 0, 0), (26, .getfield 12, 3, 11, 0, 0), (29, .invokevirtual 178, 3, 41, 2, 4), (32, .aload_n 0, 1, 0, 0, 0), (33, .getfield 16, 3, 11, 1, 0), (36, .iload_n 1, 1, 0, 0, 0), (37, .iload_n 2, 1, 0, 0, 0), (38, .invokevirtual 76, 3, 50, 3, 4), (41, .aload_n 0, 1, 0, 0, 0), (42, .getfield 22, 3, 11, 2, 0), (45, .aload_n 0, 1, 0, 0, 0), (46, .getfield 16, 3, 11, 1, 0), (49, .invokevirtual 181, 3, 27, 2, 3), (52, .ifCond .eq 7, 3, 59, 0, 0), (55, .iconst 1, 1, 0, 0, 0), (56, .goto 4, 3, 60, 0, 0), (59, .iconst 0, 1, 0, 0, 0), (60, .ireturn, 1, 0, 0, 0)]
def tb_110 : List mi_I := [(0, .aload_n 0, 1, 0, 0, 0), (1, .invokevirtual 123, 3, 116, 1, 11), (4, .ifCond .ne 5, 3, 9, 0, 0), (7, .iconst (-1), 1, 0, 0, 0), (8, .ireturn, 1, 0, 0, 0), (9, .aload_n 0, 1, 0, 0, 0), (10, .getfield 12, 3, 11, 0, 0), (13, .getfield 80, 3, 4, 4, 0), (16, .istore_n 1, 1, 0, 0, 0), (17, .iconst 0, 1, 0, 0, 0), (18, .istore_n 2, 1, 0, 0, 0), (19, .iload_n 2, 1, 0, 0, 0), (20, .aload_n 0, 1, 0, 0, 0), (21, .getfield 12, 3, 11, 0, 0), (24, .getfield 110, 3, 4, 3, 0), (27, .if_icmp .ge 36, 3, 63, 0, 0), (30, .iload_n 2, 1, 0, 0, 0), (31, .iconst 1, 1, 0, 0, 0), (32, .iadd, 1, 0, 0, 0), (33, .istore_n 3, 1, 0, 0, 0), (34, .iload_n 3, 1, 0, 0, 0), (35, .aload_n 0, 1, 0, 0, 0), (36, .getfield 12, 3, 11, 0, 0), (39, .getfield 110, 3, 4, 3, 0), (42, .if_icmp .ge 15, 3, 57, 0, 0), (45, .aload_n 0, 1, 0, 0, 0), (46, .iload_n 2, 1, 0, 0, 0), (47, .iload_n 3, 1, 0, 0, 0), (48, .invokevirtual 185, 3, 118, 3, 11), (51, .iinc 3 1, 3, 0, 0, 0), (54, .goto (-20), 3, 34, 0, 0), (57, .iinc 2 1, 3, 0, 0, 0), (60, .goto (-41), 3, 19, 0, 0), (63, .aload_n 0, 1, 0, 0, 0), (64, .getfield 12, 3, 11, 0, 0), (67, .getfield 80, 3, 4, 4, 0), (70, .iload_n 1, 1, 0, 0, 0), (71, .isub, 1, 0, 0, 0), (72, .istore_n 2, 1, 0, 0, 0), (73, .iload_n 2, 1, 0, 0, 0), (74, .ifCond .le 12, 3, 86, 0, 0), (77, .aload_n 0, 1, 0, 0, 0), (78, .invokevirtual 69, 3, 115, 1, 11), (81, .aload_n 0, 1, 0, 0, 0), (82, .iconst 1, 1, 0, 0, 0), (83, .putfield 61, 3, 11, 12, 0), (86, .iload_n 2, 1, 0, 0, 0), (87, .ireturn, 1, 0, 0, 0)]
def tb_111 : List mi_I := [(0, .aload_n 0, 1, 0, 0, 0), (1, .getfield 12, 3, 11, 0, 0), (4, .invokevirtual 188, 3, 53, 1, 4), (7, .ifCond .eq 10, 3, 17, 0, 0), (10, .aload_n 0, 1, 0, 0, 0), (11, .invokevirtual 127, 3, 117, 1, 11), (14, .ifCond .ne 5, 3, 19, 0, 0), (17, .iconst 0, 1, 0, 0, 0), (18, .ireturn, 1, 0, 0, 0), (19, .aload_n 0, 1, 0, 0, 0), (20, .getfield 50, 3, 11, 6, 0), (23, .aload_n 0, 1, 0, 0, 0), (24, .getfield 12, 3, 11, 0, 0), (27, .aload_n 0, 1, 0, 0, 0), (28, .getfield 29, 3, 11, 3, 0), (31, .aload_n 0, 1, 0, 0, 0), (32, .getfield 36, 3, 11, 4, 0), (35, .aload_n 0, 1, 0, 0, 0), (36, .getfield 12, 3, 11, 0, 0), (39, .iconst 0, 1, 0, 0, 0), (40, .iconst 2, 1, 0, 0, 0), (41, .invokevirtual 152, 3, 95, 4, 10), (44, .invokevirtual 191, 3, 16, 4, 2), (47, .aload_n 0, 1, 0, 0, 0), (48, .iconst 1, 1, 0, 0, 0), (49, .putfield 195, 3, 11, 10, 0), (52, .iconst 1, 1, 0, 0, 0), (53, .ireturn, 1, 0, 0, 0)]
def tb_112 : List mi_I := [(0, .aload_n 0, 1, 0, 0, 0), (1, .getfield 195, 3, 11, 10, 0), (4, .ifCond .eq 14, 3, 18, 0, 0), (7, .aload_n 0, 1, 0, 0, 0), (8, .getfield 12, 3, 11, 0, 0), (11, .iload_n 1, 1, 0, 0, 0), (12, .invokevirtual 198, 3, 42, 2, 4), (15, .ifCond .ne 5, 3, 20, 0, 0), (18, .iconst (-1), 1, 0, 0, 0), (19, .ireturn, 1, 0, 0, 0), (20, .iload_n 2, 1, 0, 0, 0), (21, .tableswitch 59 0 2 #[27, 37, 47], 27, 0, 0, 0), (48, .aload_n 0, 1, 0, 0, 0), (49, .getfield 50, 3, 11, 6, 0), (52, .getfield 201, 3, 2, 0, 0), (55, .iload_n 1, 1, 0, 0, 0), (56, .iaload, 1, 0, 0, 0), (57, .ireturn, 1, 0, 0, 0), (58, .aload_n 0, 1, 0, 0, 0), (59, .getfield 50, 3, 11, 6, 0), (62, .getfield 205, 3, 2, 1, 0), (65, .iload_n 1, 1, 0, 0, 0), (66, .iaload, 1, 0, 0, 0), (67, .ireturn, 1, 0, 0, 0), (68, .aload_n 0, 1, 0, 0, 0), (69, .getfield 50, 3, 11, 6, 0), (72, .getfield 208, 3, 2, 3, 0), (75, .iload_n 1, 1, 0, 0, 0), (76, .invokevirtual 211, 3, 67, 2, 6), (79, .ireturn, 1, 0, 0, 0), (80, .iconst (-1), 1, 0, 0, 0), (81, .ireturn, 1, 0, 0, 0)]
def tb_113 : List mi_I := [(0, .aload_n 0, 1, 0, 0, 0), (1, .iconst 1, 1, 0, 0, 0), (2, .putfield 213, 3, 11, 11, 0), (5, .aload_n 0, 1, 0, 0, 0), (6, .getfield 57, 3, 11, 7, 0), (9, .aload_n 0, 1, 0, 0, 0), (10, .getfield 12, 3, 11, 0, 0), (13, .invokevirtual 216, 3, 11, 2, 1), (16, .ireturn, 1, 0, 0, 0)]
def tb_114 : List mi_I := [(0, .aload_n 0, 1, 0, 0, 0), (1, .getfield 213, 3, 11, 11, 0), (4, .ifCond .eq 26, 3, 30, 0, 0), (7, .aload_n 0, 1, 0, 0, 0), (8, .getfield 12, 3, 11, 0, 0), (11, .iload_n 1, 1, 0, 0, 0), (12, .invokevirtual 198, 3, 42, 2, 4), (15, .ifCond .eq 15, 3, 30, 0, 0), (18, .aload_n 0, 1, 0, 0, 0), (19, .getfield 57, 3, 11, 7, 0), (22, .getfield 219, 3, 1, 0, 0), (25, .iload_n 1, 1, 0, 0, 0), (26, .iaload, 1, 0, 0, 0), (27, .goto 4, 3, 31, 0, 0), (30, .iconst (-1), 1, 0, 0, 0), (31, .ireturn, 1, 0, 0, 0)]
def tb_115 : List mi_I := [(0, .aload_n 0, 1, 0, 0, 0), (1, .iconst 0, 1, 0, 0, 0), (2, .putfield 138, 3, 11, 8, 0), (5, .aload_n 0, 1, 0, 0, 0), (6, .iconst 0, 1, 0, 0, 0), (7, .putfield 131, 3, 11, 9, 0), (10, .aload_n 0, 1, 0, 0, 0), (11, .iconst 0, 1, 0, 0, 0), (12, .putfield 195, 3, 11, 10, 0), (15, .aload_n 0, 1, 0, 0, 0), (16, .iconst 0, 1, 0, 0, 0), (17, .putfield 213, 3, 11, 11, 0), (20, .aload_n 0, 1, 0, 0, 0), (21, .iconst 2, 1, 0, 0, 0), (22, .putfield 61, 3, 11, 12, 0), (25, .return_, 1, 0, 0, 0)]
def tb_116 : List mi_I := [(0, .aload_n 0, 1, 0, 0, 0), (1, .getfield 61, 3, 11, 12, 0), (4, .iconst 2, 1, 0, 0, 0), (5, .if_icmp .ne 26, 3, 31, 0, 0), (8, .aload_n 0, 1, 0, 0, 0), (9, .aload_n 0, 1, 0, 0, 0), (10, .getfield 22, 3, 11, 2, 0), (13, .aload_n 0, 1, 0, 0, 0), (14, .getfield 12, 3, 11, 0, 0), (17, .invokevirtual 181, 3, 27, 2, 3), (20, .ifCond .eq 7, 3, 27, 0, 0), (23, .iconst 1, 1, 0, 0, 0), (24, .goto 4, 3, 28, 0, 0), (27, .iconst 0, 1, 0, 0, 0), (28, .putfield 61, 3, 11, 12, 0), (31, .aload_n 0, 1, 0, 0, 0), (32, .getfield 61, 3, 11, 12, 0), (35, .iconst 1, 1, 0, 0, 0), (36, .if_icmp .ne 7, 3, 43, 0, 0), (39, .iconst 1, 1, 0, 0, 0), (40, .goto 4, 3, 44, 0, 0), (43, .iconst 0, 1, 0, 0, 0), (44, .ireturn, 1, 0, 0, 0)]
def tb_117 : List mi_I := [(0, .aload_n 0, 1, 0, 0, 0), (1, .getfield 61, 3, 11, 12, 0), (4, .ifCond .ne 5, 3, 9, 0, 0), (7, .iconst 0, 1, 0, 0, 0), (8, .ireturn, 1, 0, 0, 0), (9, .aload_n 0, 1, 0, 0, 0), (10, .getfield 22, 3, 11, 2, 0), (13, .aload_n 0, 1, 0, 0, 0), (14, .getfield 12, 3, 11, 0, 0), (17, .invokevirtual 181, 3, 27, 2, 3), (20, .istore_n 1, 1, 0, 0, 0), (21, .aload_n 0, 1, 0, 0, 0), (22, .iload_n 1, 1, 0, 0, 0), (23, .ifCond .eq 7, 3, 30, 0, 0), (26, .iconst 1, 1, 0, 0, 0), (27, .goto 4, 3, 31, 0, 0), (30, .iconst 0, 1, 0, 0, 0), (31, .putfield 61, 3, 11, 12, 0), (34, .iload_n 1, 1, 0, 0, 0), (35, .ifCond .eq 37, 3, 72, 0, 0), (38, .aload_n 0, 1, 0, 0, 0), (39, .getfield 29, 3, 11, 3, 0), (42, .aload_n 0, 1, 0, 0, 0), (43, .getfield 22, 3, 11, 2, 0), (46, .getfield 222, 3, 3, 1, 0), (49, .invokevirtual 225, 3, 85, 2, 9), (52, .aload_n 0, 1, 0, 0, 0), (53, .getfield 36, 3, 11, 4, 0), (56, .aload_n 0, 1, 0, 0, 0), (57, .getfield 12, 3, 11, 0, 0), (60, .aload_n 0, 1, 0, 0, 0), (61, .getfield 29, 3, 11, 3, 0), (64, .invokevirtual 149, 3, 91, 3, 10), (67, .aload_n 0, 1, 0, 0, 0), (68, .iconst 1, 1, 0, 0, 0), (69, .putfield 138, 3, 11, 8, 0), (72, .iload_n 1, 1, 0, 0, 0), (73, .ireturn, 1, 0, 0, 0)]
def tb_118 : List mi_I := [(0, .aload_n 0, 1, 0, 0, 0), (1, .getfield 12, 3, 11, 0, 0), (4, .invokevirtual 188, 3, 53, 1, 4), (7, .ifCond .ne 15, 3, 22, 0, 0), (10, .aload_n 0, 1, 0, 0, 0), (11, .getfield 12, 3, 11, 0, 0), (14, .iload_n 1, 1, 0, 0, 0), (15, .iload_n 2, 1, 0, 0, 0), (16, .invokevirtual 72, 3, 49, 3, 4), (19, .ifCond .ne 4, 3, 23, 0, 0), (22, .return_, 1, 0, 0, 0), (23, .aload_n 0, 1, 0, 0, 0), (24, .getfield 12, 3, 11, 0, 0), (27, .iload_n 1, 1, 0, 0, 0), (28, .iload_n 2, 1, 0, 0, 0), (29, .invokevirtual 76, 3, 50, 3, 4), (32, .aload_n 0, 1, 0, 0, 0), (33, .getfield 22, 3, 11, 2, 0), (36, .aload_n 0, 1, 0, 0, 0), (37, .getfield 12, 3, 11, 0, 0), (40, .invokevirtual 181, 3, 27, 2, 3), (43, .ifCond .ne 19, 3, 62, 0, 0), (46, .aload_n 0, 1, 0, 0, 0), (47, .getfield 12, 3, 11, 0, 0), (50, .aload_n 0, 1, 0, 0, 0), (51, .getfield 12, 3, 11, 0, 0), (54, .getfield 80, 3, 4, 4, 0), (57, .iconst 1, 1, 0, 0, 0), (58, .isub, 1, 0, 0, 0), (59, .invokevirtual 87, 3, 51, 2, 4), (62, .return_, 1, 0, 0, 0)]
def tb_119 : List mi_I := [(0, .iload_n 0, 1, 0, 0, 0), (1, .ifCond .lt 13, 3, 14, 0, 0), (4, .iload_n 0, 1, 0, 0, 0), (5, .bipush 20, 2, 0, 0, 0), (7, .if_icmp .ge 7, 3, 14, 0, 0), (10, .iconst 1, 1, 0, 0, 0), (11, .goto 4, 3, 15, 0, 0), (14, .iconst 0, 1, 0, 0, 0), (15, .ireturn, 1, 0, 0, 0)]
def tb_120 : List mi_I := [(0, .iload_n 0, 1, 0, 0, 0), (1, .ifCond .lt 15, 3, 16, 0, 0), (4, .iload_n 0, 1, 0, 0, 0), (5, .bipush 20, 2, 0, 0, 0), (7, .if_icmp .ge 9, 3, 16, 0, 0), (10, .iconst 1, 1, 0, 0, 0), (11, .iload_n 0, 1, 0, 0, 0), (12, .ishl, 1, 0, 0, 0), (13, .goto 4, 3, 17, 0, 0), (16, .iconst 0, 1, 0, 0, 0), (17, .ireturn, 1, 0, 0, 0)]
def tb_121 : List mi_I := [(0, .iload_n 1, 1, 0, 0, 0), (1, .ifCond .lt 21, 3, 22, 0, 0), (4, .iload_n 1, 1, 0, 0, 0), (5, .bipush 20, 2, 0, 0, 0), (7, .if_icmp .ge 15, 3, 22, 0, 0), (10, .iload_n 0, 1, 0, 0, 0), (11, .iload_n 1, 1, 0, 0, 0), (12, .ishr, 1, 0, 0, 0), (13, .iconst 1, 1, 0, 0, 0), (14, .iand, 1, 0, 0, 0), (15, .ifCond .eq 7, 3, 22, 0, 0), (18, .iconst 1, 1, 0, 0, 0), (19, .goto 4, 3, 23, 0, 0), (22, .iconst 0, 1, 0, 0, 0), (23, .ireturn, 1, 0, 0, 0)]
def tb_122 : List mi_I := [(0, .iload_n 0, 1, 0, 0, 0), (1, .ifCond .ne 7, 3, 8, 0, 0), (4, .iconst (-1), 1, 0, 0, 0), (5, .goto 12, 3, 17, 0, 0), (8, .iload_n 0, 1, 0, 0, 0), (9, .iload_n 0, 1, 0, 0, 0), (10, .ineg, 1, 0, 0, 0), (11, .iand, 1, 0, 0, 0), (12, .iconst 1, 1, 0, 0, 0), (13, .isub, 1, 0, 0, 0), (14, .invokestatic 228, 3, 191, 1, 13), (17, .ireturn, 1, 0, 0, 0)]
def tb_123 : List mi_I := [(0, .aload_n 0, 1, 0, 0, 0), (1, .invokespecial 1, 3, 999, 1, 0), (4, .aload_n 0, 1, 0, 0, 0), (5, .bipush 61, 2, 0, 0, 0), (7, .newarray .int, 2, 0, 0, 0), (9, .putfield 7, 3, 12, 2, 0), (12, .aload_n 0, 1, 0, 0, 0), (13, .bipush 61, 2, 0, 0, 0), (15, .newarray .int, 2, 0, 0, 0), (17, .putfield 13, 3, 12, 3, 0), (20, .aload_n 0, 1, 0, 0, 0), (21, .bipush 61, 2, 0, 0, 0), (23, .newarray .boolean, 2, 1, 0, 0), (25, .putfield 16, 3, 12, 4, 0), (28, .aload_n 0, 1, 0, 0, 0), (29, .bipush 61, 2, 0, 0, 0), (31, .newarray .int, 2, 0, 0, 0), (33, .putfield 20, 3, 12, 5, 0), (36, .aload_n 0, 1, 0, 0, 0), (37, .sipush 400, 3, 0, 0, 0), (40, .newarray .int, 2, 0, 0, 0), (42, .putfield 23, 3, 12, 7, 0), (45, .aload_n 0, 1, 0, 0, 0), (46, .bipush 20, 2, 0, 0, 0), (48, .newarray .int, 2, 0, 0, 0), (50, .putfield 26, 3, 12, 8, 0), (53, .aload_n 0, 1, 0, 0, 0), (54, .bipush 60, 2, 0, 0, 0), (56, .newarray .int, 2, 0, 0, 0), (58, .putfield 29, 3, 12, 10, 0), (61, .aload_n 0, 1, 0, 0, 0), (62, .bipush 20, 2, 0, 0, 0), (64, .newarray .int, 2, 0, 0, 0), (66, .putfield 32, 3, 12, 12, 0), (69, .aload_n 0, 1, 0, 0, 0), (70, .bipush 20, 2, 0, 0, 0), (72, .newarray .int, 2, 0, 0, 0), (74, .putfield 35, 3, 12, 13, 0), (77, .aload_n 0, 1, 0, 0, 0), (78, .bipush 20, 2, 0, 0, 0), (80, .newarray .int, 2, 0, 0, 0), (82, .putfield 38, 3, 12, 14, 0), (85, .aload_n 0, 1, 0, 0, 0), (86, .bipush 20, 2, 0, 0, 0), (88, .newarray .int, 2, 0, 0, 0), (90, .putfield 41, 3, 12, 16, 0), (93, .aload_n 0, 1, 0, 0, 0), (94, .bipush 20, 2, 0, 0, 0), (96, .newarray .int, 2, 0, 0, 0), (98, .putfield 44, 3, 12, 18, 0), (101, .aload_n 0, 1, 0, 0, 0), (102, .bipush 20, 2, 0, 0, 0), (104, .newarray .int, 2, 0, 0, 0), (106, .putfield 47, 3, 12, 19, 0), (109, .aload_n 0, 1, 0, 0, 0), (110, .bipush 20, 2, 0, 0, 0), (112, .newarray .int, 2, 0, 0, 0), (114, .putfield 50, 3, 12, 20, 0), (117, .aload_n 0, 1, 0, 0, 0), (118, .bipush 20, 2, 0, 0, 0), (120, .newarray .int, 2, 0, 0, 0), (122, .putfield 53, 3, 12, 21, 0), (125, .aload_n 0, 1, 0, 0, 0), (126, .bipush 61, 2, 0, 0, 0), (128, .newarray .int, 2, 0, 0, 0), (130, .putfield 56, 3, 12, 23, 0), (133, .aload_n 0, 1, 0, 0, 0), (134, .sipush 1200, 3, 0, 0, 0), (137, .newarray .int, 2, 0, 0, 0), (139, .putfield 59, 3, 12, 24, 0), (142, .aload_n 0, 1, 0, 0, 0), (143, .bipush 60, 2, 0, 0, 0), (145, .newarray .int, 2, 0, 0, 0), (147, .putfield 62, 3, 12, 25, 0), (150, .aload_n 0, 1, 0, 0, 0), (151, .bipush 61, 2, 0, 0, 0), (153, .newarray .boolean, 2, 1, 0, 0), (155, .putfield 65, 3, 12, 27, 0), (158, .aload_n 0, 1, 0, 0, 0), (159, .bipush 61, 2, 0, 0, 0), (161, .newarray .int, 2, 0, 0, 0), (163, .putfield 68, 3, 12, 30, 0), (166, .aload_n 0, 1, 0, 0, 0), (167, .bipush 61, 2, 0, 0, 0), (169, .newarray .int, 2, 0, 0, 0), (171, .putfield 71, 3, 12, 31, 0), (174, .aload_n 0, 1, 0, 0, 0), (175, .bipush 20, 2, 0, 0, 0), (177, .newarray .int, 2, 0, 0, 0), (179, .putfield 74, 3, 12, 33, 0), (182, .aload_n 0, 1, 0, 0, 0), (183, .bipush 20, 2, 0, 0, 0), (185, .newarray .int, 2, 0, 0, 0), (187, .putfield 77, 3, 12, 34, 0), (190, .aload_n 0, 1, 0, 0, 0), (191, .bipush 20, 2, 0, 0, 0), (193, .newarray .int, 2, 0, 0, 0), (195, .putfield 80, 3, 12, 38, 0), (198, .aload_n 0, 1, 0, 0, 0), (199, .sipush 400, 3, 0, 0, 0), (202, .newarray .int, 2, 0, 0, 0), (204, .putfield 83, 3, 12, 39, 0), (207, .aload_n 0, 1, 0, 0, 0), (208, .bipush 120, 2, 0, 0, 0), (210, .newarray .int, 2, 0, 0, 0), (212, .putfield 86, 3, 12, 40, 0), (215, .aload_n 0, 1, 0, 0, 0), (216, .bipush 20, 2, 0, 0, 0), (218, .newarray .int, 2, 0, 0, 0), (220, .putfield 89, 3, 12, 42, 0), (223, .aload_n 0, 1, 0, 0, 0), (224, .bipush 20, 2, 0, 0, 0), (226, .newarray .boolean, 2, 1, 0, 0), (228, .putfield 92, 3, 12, 43, 0), (231, .aload_n 0, 1, 0, 0, 0), (232, .bipush 20, 2, 0, 0, 0), (234, .newarray .int, 2, 0, 0, 0), (236, .putfield 95, 3, 12, 44, 0), (239, .aload_n 0, 1, 0, 0, 0), (240, .bipush 20, 2, 0, 0, 0), (242, .newarray .int, 2, 0, 0, 0), (244, .putfield 98, 3, 12, 46, 0), (247, .aload_n 0, 1, 0, 0, 0), (248, .bipush 20, 2, 0, 0, 0), (250, .newarray .int, 2, 0, 0, 0), (252, .putfield 101, 3, 12, 48, 0), (255, .return_, 1, 0, 0, 0)]
def tb_124 : List mi_I := [(0, .iload_n 0, 1, 0, 0, 0), (1, .iload_n 1, 1, 0, 0, 0), (2, .if_icmp .lt 12, 3, 14, 0, 0), (5, .iload_n 0, 1, 0, 0, 0), (6, .iload_n 2, 1, 0, 0, 0), (7, .if_icmp .gt 7, 3, 14, 0, 0), (10, .iconst 1, 1, 0, 0, 0), (11, .goto 4, 3, 15, 0, 0), (14, .iconst 0, 1, 0, 0, 0), (15, .ireturn, 1, 0, 0, 0)]
def tb_125 : List mi_I := [(0, .iload_n 1, 1, 0, 0, 0), (1, .iconst 0, 1, 0, 0, 0), (2, .aload_n 0, 1, 0, 0, 0), (3, .getfield 104, 3, 12, 0, 0), (6, .iconst 1, 1, 0, 0, 0), (7, .isub, 1, 0, 0, 0), (8, .invokestatic 108, 3, 124, 3, 12), (11, .ireturn, 1, 0, 0, 0)]
def tb_126 : List mi_I := [(0, .aload_n 0, 1, 0, 0, 0), (1, .iconst 0, 1, 0, 0, 0), (2, .putfield 112, 3, 12, 9, 0), (5, .aload_n 0, 1, 0, 0, 0), (6, .iconst 0, 1, 0, 0, 0), (7, .putfield 116, 3, 12, 11, 0), (10, .aload_n 0, 1, 0, 0, 0), (11, .iconst 0, 1, 0, 0, 0), (12, .putfield 119, 3, 12, 15, 0), (15, .aload_n 0, 1, 0, 0, 0), (16, .iconst 0, 1, 0, 0, 0), (17, .putfield 122, 3, 12, 17, 0), (20, .return_, 1, 0, 0, 0)]
def tb_127 : List mi_I := [(0, .iload_n 1, 1, 0, 0, 0), (1, .iconst 0, 1, 0, 0, 0), (2, .bipush 20, 2, 0, 0, 0), (4, .invokestatic 108, 3, 124, 3, 12), (7, .ifCond .ne 5, 3, 12, 0, 0), (10, .iconst 0, 1, 0, 0, 0), (11, .ireturn, 1, 0, 0, 0), (12, .aload_n 0, 1, 0, 0, 0), (13, .iload_n 1, 1, 0, 0, 0), (14, .putfield 104, 3, 12, 0, 0), (17, .aload_n 0, 1, 0, 0, 0), (18, .iconst 0, 1, 0, 0, 0), (19, .putfield 125, 3, 12, 1, 0), (22, .aload_n 0, 1, 0, 0, 0), (23, .invokevirtual 128, 3, 126, 1, 12), (26, .iconst 1, 1, 0, 0, 0), (27, .ireturn, 1, 0, 0, 0)]
def tb_128 : List mi_I := [(0, .iload_n 1, 1, 0, 0, 0), (1, .iload_n 2, 1, 0, 0, 0), (2, .if_icmp .ge 7, 3, 9, 0, 0), (5, .iload_n 1, 1, 0, 0, 0), (6, .goto 4, 3, 10, 0, 0), (9, .iload_n 2, 1, 0, 0, 0), (10, .istore_n 3, 1, 0, 0, 0), (11, .iload_n 1, 1, 0, 0, 0), (12, .iload_n 2, 1, 0, 0, 0), (13, .if_icmp .ge 7, 3, 20, 0, 0), (16, .iload_n 2, 1, 0, 0, 0), (17, .goto 4, 3, 21, 0, 0), (20, .iload_n 1, 1, 0, 0, 0), (21, .istore 4, 2, 0, 0, 0), (23, .iconst 0, 1, 0, 0, 0), (24, .istore 5, 2, 0, 0, 0), (26, .iload 5, 2, 0, 0, 0), (28, .aload_n 0, 1, 0, 0, 0), (29, .getfield 125, 3, 12, 1, 0), (32, .if_icmp .ge 35, 3, 67, 0, 0), (35, .aload_n 0, 1, 0, 0, 0), (36, .getfield 7, 3, 12, 2, 0), (39, .iload 5, 2, 0, 0, 0), (41, .iaload, 1, 0, 0, 0), (42, .iload_n 3, 1, 0, 0, 0), (43, .if_icmp .ne 18, 3, 61, 0, 0), (46, .aload_n 0, 1, 0, 0, 0), (47, .getfield 13, 3, 12, 3, 0), (50, .iload 5, 2, 0, 0, 0), (52, .iaload, 1, 0, 0, 0), (53, .iload 4, 2, 0, 0, 0), (55, .if_icmp .ne 6, 3, 61, 0, 0), (58, .iload 5, 2, 0, 0, 0), (60, .ireturn, 1, 0, 0, 0), (61, .iinc 5 1, 3, 0, 0, 0), (64, .goto (-38), 3, 26, 0, 0), (67, .iconst (-1), 1, 0, 0, 0), (68, .ireturn, 1, 0, 0, 0)]
def tb_129 : List mi_I := [(0, .aload_n 0, 1, 0, 0, 0), (1, .getfield 7, 3, 12, 2, 0), (4, .aload_n 0, 1, 0, 0, 0), (5, .getfield 125, 3, 12, 1, 0), (8, .iload_n 1, 1, 0, 0, 0), (9, .iload_n 2, 1, 0, 0, 0), (10, .if_icmp .ge 7, 3, 17, 0, 0), (13, .iload_n 1, 1, 0, 0, 0), (14, .goto 4, 3, 18, 0, 0), (17, .iload_n 2, 1, 0, 0, 0), (18, .iastore, 1, 0, 0, 0), (19, .aload_n 0, 1, 0, 0, 0), (20, .getfield 13, 3, 12, 3, 0), (23, .aload_n 0, 1, 0, 0, 0), (24, .getfield 125, 3, 12, 1, 0), (27, .iload_n 1, 1, 0, 0, 0), (28, .iload_n 2, 1, 0, 0, 0), (29, .if_icmp .ge 7, 3, 36, 0, 0), (32, .iload_n 2, 1, 0, 0, 0), (33, .goto 4, 3, 37, 0, 0), (36, .iload_n 1, 1, 0, 0, 0), (37, .iastore, 1, 0, 0, 0), (38, .aload_n 0, 1, 0, 0, 0), (39, .dup, 1, 0, 0, 0), (40, .getfield 125, 3, 12, 1, 0), (43, .iconst 1, 1, 0, 0, 0), (44, .iadd, 1, 0, 0, 0), (45, .putfield 125, 3, 12, 1, 0), (48, .return_, 1, 0, 0, 0)]
def tb_130 : List mi_I := [(0, .aload_n 0, 1, 0, 0, 0), (1, .iload_n 1, 1, 0, 0, 0), (2, .invokevirtual 131, 3, 125, 2, 12), (5, .ifCond .eq 34, 3, 39, 0, 0), (8, .aload_n 0, 1, 0, 0, 0), (9, .iload_n 2, 1, 0, 0, 0), (10, .invokevirtual 131, 3, 125, 2, 12), (13, .ifCond .eq 26, 3, 39, 0, 0), (16, .iload_n 1, 1, 0, 0, 0), (17, .iload_n 2, 1, 0, 0, 0), (18, .if_icmp .eq 21, 3, 39, 0, 0), (21, .aload_n 0, 1, 0, 0, 0), (22, .iload_n 1, 1, 0, 0, 0), (23, .iload_n 2, 1, 0, 0, 0), (24, .invokevirtual 135, 3, 128, 3, 12), (27, .ifCond .ge 12, 3, 39, 0, 0), (30, .aload_n 0, 1, 0, 0, 0), (31, .getfield 125, 3, 12, 1, 0), (34, .bipush 60, 2, 0, 0, 0), (36, .if_icmp .ne 5, 3, 41, 0, 0), (39, .iconst (-1), 1, 0, 0, 0), (40, .ireturn, 1, 0, 0, 0), (41, .aload_n 0, 1, 0, 0, 0), (42, .iload_n 1, 1, 0, 0, 0), (43, .iload_n 2, 1, 0, 0, 0), (44, .invokevirtual 139, 3, 129, 3, 12), (47, .aload_n 0, 1, 0, 0, 0), (48, .invokevirtual 128, 3, 126, 1, 12), (51, .aload_n 0, 1, 0, 0, 0), (52, .getfield 125, 3, 12, 1, 0), (55, .iconst 1, 1, 0, 0, 0), (56, .isub, 1, 0, 0, 0), (57, .ireturn, 1, 0, 0, 0)]
def tb_131 : List mi_I := [(0, .iload_n 1, 1, 0, 0, 0), (1, .iconst 0, 1, 0, 0, 0), (2, .aload_n 0, 1, 0, 0, 0), (3, .getfield 125, 3, 12, 1, 0), (6, .iconst 1, 1, 0, 0, 0), (7, .isub, 1, 0, 0, 0), (8, .invokestatic 108, 3, 124, 3, 12), (11, .ifCond .ne 5, 3, 16, 0, 0), (14, .iconst 0, 1, 0, 0, 0), (15, .ireturn, 1, 0, 0, 0), (16, .iload_n 1, 1, 0, 0, 0), (17, .istore_n 2, 1, 0, 0, 0), (18, .iload_n 2, 1, 0, 0, 0), (19, .aload_n 0, 1, 0, 0, 0), (20, .getfield 125, 3, 12, 1, 0), (23, .iconst 1, 1, 0, 0, 0), (24, .isub, 1, 0, 0, 0), (25, .if_icmp .ge 37, 3, 62, 0, 0), (28, .aload_n 0, 1, 0, 0, 0), (29, .getfield 7, 3, 12, 2, 0), (32, .iload_n 2, 1, 0, 0, 0), (33, .aload_n 0, 1, 0, 0, 0), (34, .getfield 7, 3, 12, 2, 0), (37, .iload_n 2, 1, 0, 0, 0), (38, .iconst 1, 1, 0, 0, 0), (39, .iadd, 1, 0, 0, 0), (40, .iaload, 1, 0, 0, 0), (41, .iastore, 1, 0, 0, 0), (42, .aload_n 0, 1, 0, 0, 0), (43, .getfield 13, 3, 12, 3, 0), (46, .iload_n 2, 1, 0, 0, 0), (47, .aload_n 0, 1, 0, 0, 0), (48, .getfield 13, 3, 12, 3, 0), (51, .iload_n 2, 1, 0, 0, 0), (52, .iconst 1, 1, 0, 0, 0), (53, .iadd, 1, 0, 0, 0), (54, .iaload, 1, 0, 0, 0), (55, .iastore, 1, 0, 0, 0), (56, .iinc 2 1, 3, 0, 0, 0), (59, .goto (-41), 3, 18, 0, 0), (62, .aload_n 0, 1, 0, 0, 0), (63, .dup, 1, 0, 0, 0), (64, .getfield 125, 3, 12, 1, 0), (67, .iconst 1, 1, 0, 0, 0), (68, .isub, 1, 0, 0, 0), (69, .putfield 125, 3, 12, 1, 0), (72, .aload_n 0, 1, 0, 0, 0), (73, .invokevirtual 128, 3, 126, 1, 12), (76, .iconst 1, 1, 0, 0, 0), (77, .ireturn, 1, 0, 0, 0)]
def tb_132 : List mi_I := [(0, .iconst 0, 1, 0, 0, 0), (1, .istore_n 1, 1, 0, 0, 0), (2, .iload_n 1, 1, 0, 0, 0), (3, .aload_n 0, 1, 0, 0, 0), (4, .getfield 125, 3, 12, 1, 0), (7, .if_icmp .ge 16, 3, 23, 0, 0), (10, .aload_n 0, 1, 0, 0, 0), (11, .getfield 16, 3, 12, 4, 0), (14, .iload_n 1, 1, 0, 0, 0), (15, .iconst 1, 1, 0, 0, 0), (16, .bastore, 1, 0, 0, 0), (17, .iinc 1 1, 3, 0, 0, 0), (20, .goto (-18), 3, 2, 0, 0), (23, .return_, 1, 0, 0, 0)]
def tb_133 : List mi_I := [(0, .aload_n 0, 1, 0, 0, 0), (1, .getfield 7, 3, 12, 2, 0), (4, .iload_n 1, 1, 0, 0, 0), (5, .iaload, 1, 0, 0, 0), (6, .iload_n 2, 1, 0, 0, 0), (7, .if_icmp .ne 12, 3, 19, 0, 0), (10, .aload_n 0, 1, 0, 0, 0), (11, .getfield 13, 3, 12, 3, 0), (14, .iload_n 1, 1, 0, 0, 0), (15, .iaload, 1, 0, 0, 0), (16, .goto 23, 3, 39, 0, 0), (19, .aload_n 0, 1, 0, 0, 0), (20, .getfield 13, 3, 12, 3, 0), (23, .iload_n 1, 1, 0, 0, 0), (24, .iaload, 1, 0, 0, 0), (25, .iload_n 2, 1, 0, 0, 0), (26, .if_icmp .ne 12, 3, 38, 0, 0), (29, .aload_n 0, 1, 0, 0, 0), (30, .getfield 7, 3, 12, 2, 0), (33, .iload_n 1, 1, 0, 0, 0), (34, .iaload, 1, 0, 0, 0), (35, .goto 4, 3, 39, 0, 0), (38, .iconst (-1), 1, 0, 0, 0), (39, .ireturn, 1, 0, 0, 0)]
def tb_134 : List mi_I := [(0, .aload_n 0, 1, 0, 0, 0), (1, .iconst 0, 1, 0, 0, 0), (2, .putfield 143, 3, 12, 22, 0), (5, .iconst 0, 1, 0, 0, 0), (6, .istore_n 1, 1, 0, 0, 0), (7, .iload_n 1, 1, 0, 0, 0), (8, .aload_n 0, 1, 0, 0, 0), (9, .getfield 104, 3, 12, 0, 0), (12, .if_icmp .ge 16, 3, 28, 0, 0), (15, .aload_n 0, 1, 0, 0, 0), (16, .getfield 50, 3, 12, 20, 0), (19, .iload_n 1, 1, 0, 0, 0), (20, .iconst (-1), 1, 0, 0, 0), (21, .iastore, 1, 0, 0, 0), (22, .iinc 1 1, 3, 0, 0, 0), (25, .goto (-18), 3, 7, 0, 0), (28, .iconst 0, 1, 0, 0, 0), (29, .istore_n 1, 1, 0, 0, 0), (30, .iload_n 1, 1, 0, 0, 0), (31, .aload_n 0, 1, 0, 0, 0), (32, .getfield 104, 3, 12, 0, 0), (35, .if_icmp .ge 86, 3, 121, 0, 0), (38, .aload_n 0, 1, 0, 0, 0), (39, .getfield 50, 3, 12, 20, 0), (42, .iload_n 1, 1, 0, 0, 0), (43, .iaload, 1, 0, 0, 0), (44, .ifCond .lt 6, 3, 50, 0, 0), (47, .goto 68, 3, 115, 0, 0), (50, .aload_n 0, 1, 0, 0, 0), (51, .dup, 1, 0, 0, 0), (52, .getfield 143, 3, 12, 22, 0), (55, .iconst 1, 1, 0, 0, 0), (56, .iadd, 1, 0, 0, 0), (57, .putfield 143, 3, 12, 22, 0), (60, .aload_n 0, 1, 0, 0, 0), (61, .getfield 50, 3, 12, 20, 0), (64, .iload_n 1, 1, 0, 0, 0), (65, .iconst 0, 1, 0, 0, 0), (66, .iastore, 1, 0, 0, 0), (67, .aload_n 0, 1, 0, 0, 0), (68, .getfield 44, 3, 12, 18, 0), (71, .iload_n 1, 1, 0, 0, 0), (72, .iconst (-1), 1, 0, 0, 0), (73, .iastore, 1, 0, 0, 0), (74, .aload_n 0, 1, 0, 0, 0), (75, .getfield 47, 3, 12, 19, 0), (78, .iload_n 1, 1, 0, 0, 0), (79, .iconst (-1), 1, 0, 0, 0), (80, .iastore, 1, 0, 0, 0), (81, .aload_n 0, 1, 0, 0, 0), (82, .getfield 53, 3, 12, 21, 0), (85, .iconst 0, 1, 0, 0, 0), (86, .iload_n 1, 1, 0, 0, 0), (87, .iastore, 1, 0, 0, 0), (88, .iconst 1, 1, 0, 0, 0), (89, .istore_n 2, 1, 0, 0, 0), (90, .iconst 0, 1, 0, 0, 0), (91, .istore_n 3, 1, 0, 0, 0), (92, .iload_n 3, 1, 0, 0, 0), (93, .iload_n 2, 1, 0, 0, 0), (94, .if_icmp .ge 21, 3, 115, 0, 0), (97, .aload_n 0, 1, 0, 0, 0), (98, .aload_n 0, 1, 0, 0, 0), (99, .getfield 53, 3, 12, 21, 0), (102, .iload_n 3, 1, 0, 0, 0), (103, .iaload, 1, 0, 0, 0), (104, .iload_n 2, 1, 0, 0, 0), (105, .invokevirtual 146, 3, 135, 3, 12), (108, .istore_n 2, 1, 0, 0, 0), (109, .iinc 3 1, 3, 0, 0, 0), (112, .goto (-20), 3, 92, 0, 0), (115, .iinc 1 1, 3, 0, 0, 0), (118, .goto (-88), 3, 30, 0, 0), (121, .return_, 1, 0, 0, 0)]
def tb_135 : List mi_I := [(0, .iload_n 2, 1, 0, 0, 0), (1, .istore_n 3, 1, 0, 0, 0), (2, .iconst 0, 1, 0, 0, 0), (3, .istore 4, 2, 0, 0, 0), (5, .iload 4, 2, 0, 0, 0), (7, .aload_n 0, 1, 0, 0, 0), (8, .getfield 125, 3, 12, 1, 0), (11, .if_icmp .ge 93, 3, 104, 0, 0), (14, .aload_n 0, 1, 0, 0, 0), (15, .getfield 16, 3, 12, 4, 0), (18, .iload 4, 2, 0, 0, 0), (20, .baload, 1, 0, 0, 0), (21, .ifCond .eq 13, 3, 34, 0, 0), (24, .aload_n 0, 1, 0, 0, 0), (25, .iload 4, 2, 0, 0, 0), (27, .iload_n 1, 1, 0, 0, 0), (28, .invokevirtual 149, 3, 133, 3, 12), (31, .goto 4, 3, 35, 0, 0), (34, .iconst (-1), 1, 0, 0, 0), (35, .istore 5, 2, 0, 0, 0), (37, .iload 5, 2, 0, 0, 0), (39, .ifCond .lt 59, 3, 98, 0, 0), (42, .aload_n 0, 1, 0, 0, 0), (43, .getfield 50, 3, 12, 20, 0), (46, .iload 5, 2, 0, 0, 0), (48, .iaload, 1, 0, 0, 0), (49, .ifCond .lt 6, 3, 55, 0, 0), (52, .goto 46, 3, 98, 0, 0), (55, .aload_n 0, 1, 0, 0, 0), (56, .getfield 50, 3, 12, 20, 0), (59, .iload 5, 2, 0, 0, 0), (61, .aload_n 0, 1, 0, 0, 0), (62, .getfield 50, 3, 12, 20, 0), (65, .iload_n 1, 1, 0, 0, 0), (66, .iaload, 1, 0, 0, 0), (67, .iconst 1, 1, 0, 0, 0), (68, .iadd, 1, 0, 0, 0), (69, .iastore, 1, 0, 0, 0), (70, .aload_n 0, 1, 0, 0, 0), (71, .getfield 44, 3, 12, 18, 0), (74, .iload 5, 2, 0, 0, 0), (76, .iload_n 1, 1, 0, 0, 0), (77, .iastore, 1, 0, 0, 0), (78, .aload_n 0, 1, 0, 0, 0), (79, .getfield 47, 3, 12, 19, 0), (82, .iload 5, 2, 0, 0, 0), (84, .iload 4, 2, 0, 0, 0), (86, .iastore, 1, 0, 0, 0), (87, .aload_n 0, 1, 0, 0, 0), (88, .getfield 53, 3, 12, 21, 0), (91, .iload_n 3, 1, 0, 0, 0), (92, .iload 5, 2, 0, 0, 0), (94, .iastore, 1, 0, 0, 0), (95, .iinc 3 1, 3, 0, 0, 0), (98, .iinc 4 1, 3, 0, 0, 0), (101, .goto (-96), 3, 5, 0, 0), (104, .iload_n 3, 1, 0, 0, 0), (105, .ireturn, 1, 0, 0, 0)]
def tb_136 : List mi_I := [(0, .aload_n 0, 1, 0, 0, 0), (1, .getfield 20, 3, 12, 5, 0), (4, .iload_n 1, 1, 0, 0, 0), (5, .iaload, 1, 0, 0, 0), (6, .istore_n 3, 1, 0, 0, 0), (7, .aload_n 0, 1, 0, 0, 0), (8, .getfield 20, 3, 12, 5, 0), (11, .iload_n 2, 1, 0, 0, 0), (12, .iaload, 1, 0, 0, 0), (13, .istore 4, 2, 0, 0, 0), (15, .iconst 0, 1, 0, 0, 0), (16, .istore 5, 2, 0, 0, 0), (18, .iload 5, 2, 0, 0, 0), (20, .aload_n 0, 1, 0, 0, 0), (21, .getfield 125, 3, 12, 1, 0), (24, .if_icmp .ge 29, 3, 53, 0, 0), (27, .aload_n 0, 1, 0, 0, 0), (28, .getfield 20, 3, 12, 5, 0), (31, .iload 5, 2, 0, 0, 0), (33, .iaload, 1, 0, 0, 0), (34, .iload_n 3, 1, 0, 0, 0), (35, .if_icmp .ne 12, 3, 47, 0, 0), (38, .aload_n 0, 1, 0, 0, 0), (39, .getfield 20, 3, 12, 5, 0), (42, .iload 5, 2, 0, 0, 0), (44, .iload 4, 2, 0, 0, 0), (46, .iastore, 1, 0, 0, 0), (47, .iinc 5 1, 3, 0, 0, 0), (50, .goto (-32), 3, 18, 0, 0), (53, .return_, 1, 0, 0, 0)]
def tb_137 : List mi_I := [(0, .aload_n 0, 1, 0, 0, 0), (1, .invokevirtual 152, 3, 134, 1, 12), (4, .iconst 0, 1, 0, 0, 0), (5, .istore_n 1, 1, 0, 0, 0), (6, .iload_n 1, 1, 0, 0, 0), (7, .aload_n 0, 1, 0, 0, 0), (8, .getfield 125, 3, 12, 1, 0), (11, .if_icmp .ge 16, 3, 27, 0, 0), (14, .aload_n 0, 1, 0, 0, 0), (15, .getfield 20, 3, 12, 5, 0), (18, .iload_n 1, 1, 0, 0, 0), (19, .iload_n 1, 1, 0, 0, 0), (20, .iastore, 1, 0, 0, 0), (21, .iinc 1 1, 3, 0, 0, 0), (24, .goto (-18), 3, 6, 0, 0), (27, .iconst 0, 1, 0, 0, 0), (28, .istore_n 1, 1, 0, 0, 0), (29, .iload_n 1, 1, 0, 0, 0), (30, .aload_n 0, 1, 0, 0, 0), (31, .getfield 125, 3, 12, 1, 0), (34, .if_icmp .ge 120, 3, 154, 0, 0), (37, .aload_n 0, 1, 0, 0, 0), (38, .getfield 7, 3, 12, 2, 0), (41, .iload_n 1, 1, 0, 0, 0), (42, .iaload, 1, 0, 0, 0), (43, .istore_n 2, 1, 0, 0, 0), (44, .aload_n 0, 1, 0, 0, 0), (45, .getfield 13, 3, 12, 3, 0), (48, .iload_n 1, 1, 0, 0, 0), (49, .iaload, 1, 0, 0, 0), (50, .istore_n 3, 1, 0, 0, 0), (51, .aload_n 0, 1, 0, 0, 0), (52, .getfield 16, 3, 12, 4, 0), (55, .iload_n 1, 1, 0, 0, 0), (56, .baload, 1, 0, 0, 0), (57, .ifCond .eq 91, 3, 148, 0, 0), (60, .aload_n 0, 1, 0, 0, 0), (61, .getfield 47, 3, 12, 19, 0), (64, .iload_n 2, 1, 0, 0, 0), (65, .iaload, 1, 0, 0, 0), (66, .iload_n 1, 1, 0, 0, 0), (67, .if_icmp .eq 81, 3, 148, 0, 0), (70, .aload_n 0, 1, 0, 0, 0), (71, .getfield 47, 3, 12, 19, 0), (74, .iload_n 3, 1, 0, 0, 0), (75, .iaload, 1, 0, 0, 0), (76, .iload_n 1, 1, 0, 0, 0), (77, .if_icmp .ne 6, 3, 83, 0, 0), (80, .goto 68, 3, 148, 0, 0), (83, .iload_n 2, 1, 0, 0, 0), (84, .iload_n 3, 1, 0, 0, 0), (85, .if_icmp .eq 63, 3, 148, 0, 0), (88, .aload_n 0, 1, 0, 0, 0), (89, .getfield 50, 3, 12, 20, 0), (92, .iload_n 2, 1, 0, 0, 0), (93, .iaload, 1, 0, 0, 0), (94, .aload_n 0, 1, 0, 0, 0), (95, .getfield 50, 3, 12, 20, 0), (98, .iload_n 3, 1, 0, 0, 0), (99, .iaload, 1, 0, 0, 0), (100, .if_icmp .lt 7, 3, 107, 0, 0), (103, .iload_n 2, 1, 0, 0, 0), (104, .goto 4, 3, 108, 0, 0), (107, .iload_n 3, 1, 0, 0, 0), (108, .istore 4, 2, 0, 0, 0), (110, .aload_n 0, 1, 0, 0, 0), (111, .aload_n 0, 1, 0, 0, 0), (112, .getfield 47, 3, 12, 19, 0), (115, .iload 4, 2, 0, 0, 0), (117, .iaload, 1, 0, 0, 0), (118, .iload_n 1, 1, 0, 0, 0), (119, .invokevirtual 155, 3, 136, 3, 12), (122, .iload 4, 2, 0, 0, 0), (124, .iload_n 2, 1, 0, 0, 0), (125, .if_icmp .ne 13, 3, 138, 0, 0), (128, .aload_n 0, 1, 0, 0, 0), (129, .getfield 44, 3, 12, 18, 0), (132, .iload_n 2, 1, 0, 0, 0), (133, .iaload, 1, 0, 0, 0), (134, .istore_n 2, 1, 0, 0, 0), (135, .goto 10, 3, 145, 0, 0), (138, .aload_n 0, 1, 0, 0, 0), (139, .getfield 44, 3, 12, 18, 0), (142, .iload_n 3, 1, 0, 0, 0), (143, .iaload, 1, 0, 0, 0), (144, .istore_n 3, 1, 0, 0, 0), (145, .goto (-62), 3, 83, 0, 0), (148, .iinc 1 1, 3, 0, 0, 0), (151, .goto (-122), 3, 29, 0, 0), (154, .aload_n 0, 1, 0, 0, 0), (155, .invokevirtual 158, 3, 138, 1, 12), (158, .return_, 1, 0, 0, 0)]
def tb_138 : List mi_I := [(0, .aload_n 0, 1, 0, 0, 0), (1, .iconst 0, 1, 0, 0, 0), (2, .putfield 161, 3, 12, 6, 0), (5, .iconst 0, 1, 0, 0, 0), (6, .istore_n 1, 1, 0, 0, 0), (7, .iload_n 1, 1, 0, 0, 0), (8, .aload_n 0, 1, 0, 0, 0), (9, .getfield 125, 3, 12, 1, 0), (12, .if_icmp .ge 16, 3, 28, 0, 0), (15, .aload_n 0, 1, 0, 0, 0), (16, .getfield 56, 3, 12, 23, 0), (19, .iload_n 1, 1, 0, 0, 0), (20, .iconst (-1), 1, 0, 0, 0), (21, .iastore, 1, 0, 0, 0), (22, .iinc 1 1, 3, 0, 0, 0), (25, .goto (-18), 3, 7, 0, 0), (28, .iconst 0, 1, 0, 0, 0), (29, .istore_n 1, 1, 0, 0, 0), (30, .iload_n 1, 1, 0, 0, 0), (31, .aload_n 0, 1, 0, 0, 0), (32, .getfield 125, 3, 12, 1, 0), (35, .if_icmp .ge 84, 3, 119, 0, 0), (38, .aload_n 0, 1, 0, 0, 0), (39, .getfield 16, 3, 12, 4, 0), (42, .iload_n 1, 1, 0, 0, 0), (43, .baload, 1, 0, 0, 0), (44, .ifCond .ne 13, 3, 57, 0, 0), (47, .aload_n 0, 1, 0, 0, 0), (48, .getfield 20, 3, 12, 5, 0), (51, .iload_n 1, 1, 0, 0, 0), (52, .iconst (-1), 1, 0, 0, 0), (53, .iastore, 1, 0, 0, 0), (54, .goto 59, 3, 113, 0, 0), (57, .aload_n 0, 1, 0, 0, 0), (58, .getfield 56, 3, 12, 23, 0), (61, .aload_n 0, 1, 0, 0, 0), (62, .getfield 20, 3, 12, 5, 0), (65, .iload_n 1, 1, 0, 0, 0), (66, .iaload, 1, 0, 0, 0), (67, .iaload, 1, 0, 0, 0), (68, .ifCond .ge 28, 3, 96, 0, 0), (71, .aload_n 0, 1, 0, 0, 0), (72, .getfield 56, 3, 12, 23, 0), (75, .aload_n 0, 1, 0, 0, 0), (76, .getfield 20, 3, 12, 5, 0), (79, .iload_n 1, 1, 0, 0, 0), (80, .iaload, 1, 0, 0, 0), (81, .aload_n 0, 1, 0, 0, 0), (82, .getfield 161, 3, 12, 6, 0), (85, .iastore, 1, 0, 0, 0), (86, .aload_n 0, 1, 0, 0, 0), (87, .dup, 1, 0, 0, 0), (88, .getfield 161, 3, 12, 6, 0), (91, .iconst 1, 1, 0, 0, 0), (92, .iadd, 1, 0, 0, 0), (93, .putfield 161, 3, 12, 6, 0), (96, .aload_n 0, 1, 0, 0, 0), (97, .getfield 20, 3, 12, 5, 0), (100, .iload_n 1, 1, 0, 0, 0), (101, .aload_n 0, 1, 0, 0, 0), (102, .getfield 56, 3, 12, 23, 0), (105, .aload_n 0, 1, 0, 0, 0), (106, .getfield 20, 3, 12, 5, 0), (109, .iload_n 1, 1, 0, 0, 0), (110, .iaload, 1, 0, 0, 0), (111, .iaload, 1, 0, 0, 0), (112, .iastore, 1, 0, 0, 0), (113, .iinc 1 1, 3, 0, 0, 0), (116, .goto (-86), 3, 30, 0, 0), (119, .return_, 1, 0, 0, 0)]
def tb_139 : List mi_I := [(0, .aload_n 0, 1, 0, 0, 0), (1, .getfield 16, 3, 12, 4, 0), (4, .iload_n 1, 1, 0, 0, 0), (5, .baload, 1, 0, 0, 0), (6, .ifCond .eq 20, 3, 26, 0, 0), (9, .aload_n 0, 1, 0, 0, 0), (10, .getfield 20, 3, 12, 5, 0), (13, .iload_n 1, 1, 0, 0, 0), (14, .iaload, 1, 0, 0, 0), (15, .aload_n 0, 1, 0, 0, 0), (16, .getfield 164, 3, 12, 29, 0), (19, .if_icmp .ne 7, 3, 26, 0, 0), (22, .iconst 1, 1, 0, 0, 0), (23, .goto 4, 3, 27, 0, 0), (26, .iconst 0, 1, 0, 0, 0), (27, .ireturn, 1, 0, 0, 0)]
def tb_140 : List mi_I := [(0, .iconst 0, 1, 0, 0, 0), (1, .istore_n 2, 1, 0, 0, 0), (2, .iconst 0, 1, 0, 0, 0), (3, .istore_n 3, 1, 0, 0, 0), (4, .iload_n 3, 1, 0, 0, 0), (5, .aload_n 0, 1, 0, 0, 0), (6, .getfield 125, 3, 12, 1, 0), (9, .if_icmp .ge 36, 3, 45, 0, 0), (12, .iload_n 2, 1, 0, 0, 0), (13, .aload_n 0, 1, 0, 0, 0), (14, .getfield 16, 3, 12, 4, 0), (17, .iload_n 3, 1, 0, 0, 0), (18, .baload, 1, 0, 0, 0), (19, .ifCond .eq 17, 3, 36, 0, 0), (22, .aload_n 0, 1, 0, 0, 0), (23, .getfield 20, 3, 12, 5, 0), (26, .iload_n 3, 1, 0, 0, 0), (27, .iaload, 1, 0, 0, 0), (28, .iload_n 1, 1, 0, 0, 0), (29, .if_icmp .ne 7, 3, 36, 0, 0), (32, .iconst 1, 1, 0, 0, 0), (33, .goto 4, 3, 37, 0, 0), (36, .iconst 0, 1, 0, 0, 0), (37, .iadd, 1, 0, 0, 0), (38, .istore_n 2, 1, 0, 0, 0), (39, .iinc 3 1, 3, 0, 0, 0), (42, .goto (-38), 3, 4, 0, 0), (45, .iload_n 2, 1, 0, 0, 0), (46, .ireturn, 1, 0, 0, 0)]
def tb_141 : List mi_I := [(0, .iconst 0, 1, 0, 0, 0), (1, .istore_n 2, 1, 0, 0, 0), (2, .aload_n 0, 1, 0, 0, 0), (3, .getfield 16, 3, 12, 4, 0), (6, .iload_n 2, 1, 0, 0, 0), (7, .baload, 1, 0, 0, 0), (8, .ifCond .eq 13, 3, 21, 0, 0), (11, .aload_n 0, 1, 0, 0, 0), (12, .getfield 20, 3, 12, 5, 0), (15, .iload_n 2, 1, 0, 0, 0), (16, .iaload, 1, 0, 0, 0), (17, .iload_n 1, 1, 0, 0, 0), (18, .if_icmp .eq 9, 3, 27, 0, 0), (21, .iinc 2 1, 3, 0, 0, 0), (24, .goto (-22), 3, 2, 0, 0), (27, .iload_n 2, 1, 0, 0, 0), (28, .ireturn, 1, 0, 0, 0)]
def tb_142 : List mi_I := [(0, .iconst 1, 1, 0, 0, 0), (1, .iload_n 1, 1, 0, 0, 0), (2, .ishl, 1, 0, 0, 0), (3, .istore 6, 2, 0, 0, 0), (5, .aload_n 0, 1, 0, 0, 0), (6, .getfield 53, 3, 12, 21, 0), (9, .iconst 0, 1, 0, 0, 0), (10, .iload_n 1, 1, 0, 0, 0), (11, .iastore, 1, 0, 0, 0), (12, .iconst 1, 1, 0, 0, 0), (13, .istore 7, 2, 0, 0, 0), (15, .iconst 0, 1, 0, 0, 0), (16, .istore 8, 2, 0, 0, 0), (18, .iload 8, 2, 0, 0, 0), (20, .iload 7, 2, 0, 0, 0), (22, .if_icmp .ge 167, 3, 189, 0, 0), (25, .aload_n 0, 1, 0, 0, 0), (26, .getfield 53, 3, 12, 21, 0), (29, .iload 8, 2, 0, 0, 0), (31, .iaload, 1, 0, 0, 0), (32, .istore 9, 2, 0, 0, 0), (34, .iconst 0, 1, 0, 0, 0), (35, .istore 10, 2, 0, 0, 0), (37, .iload 10, 2, 0, 0, 0), (39, .aload_n 0, 1, 0, 0, 0), (40, .getfield 104, 3, 12, 0, 0), (43, .if_icmp .ge 140, 3, 183, 0, 0), (46, .iload 6, 2, 0, 0, 0), (48, .iload 10, 2, 0, 0, 0), (50, .ishr, 1, 0, 0, 0), (51, .iconst 1, 1, 0, 0, 0), (52, .iand, 1, 0, 0, 0), (53, .iconst 1, 1, 0, 0, 0), (54, .if_icmp .ne 7, 3, 61, 0, 0), (57, .iconst (-1), 1, 0, 0, 0), (58, .goto 11, 3, 69, 0, 0), (61, .aload_n 0, 1, 0, 0, 0), (62, .iload 10, 2, 0, 0, 0), (64, .iload 9, 2, 0, 0, 0), (66, .invokevirtual 135, 3, 128, 3, 12), (69, .istore 11, 2, 0, 0, 0), (71, .iload 11, 2, 0, 0, 0), (73, .ifCond .lt 104, 3, 177, 0, 0), (76, .iload 11, 2, 0, 0, 0), (78, .iload 5, 2, 0, 0, 0), (80, .if_icmp .eq 97, 3, 177, 0, 0), (83, .aload_n 0, 1, 0, 0, 0), (84, .iload 11, 2, 0, 0, 0), (86, .invokevirtual 167, 3, 139, 2, 12), (89, .ifCond .eq 88, 3, 177, 0, 0), (92, .iload 4, 2, 0, 0, 0), (94, .iconst (-1), 1, 0, 0, 0), (95, .if_icmp .eq 18, 3, 113, 0, 0), (98, .aload_n 0, 1, 0, 0, 0), (99, .getfield 68, 3, 12, 30, 0), (102, .iload 11, 2, 0, 0, 0), (104, .iaload, 1, 0, 0, 0), (105, .iload 4, 2, 0, 0, 0), (107, .if_icmp .eq 6, 3, 113, 0, 0), (110, .goto 67, 3, 177, 0, 0), (113, .iload_n 2, 1, 0, 0, 0), (114, .iload 10, 2, 0, 0, 0), (116, .ishr, 1, 0, 0, 0), (117, .iconst 1, 1, 0, 0, 0), (118, .iand, 1, 0, 0, 0), (119, .iconst 1, 1, 0, 0, 0), (120, .if_icmp .ne 15, 3, 135, 0, 0), (123, .aload_n 0, 1, 0, 0, 0), (124, .getfield 74, 3, 12, 33, 0), (127, .iload 10, 2, 0, 0, 0), (129, .iload 9, 2, 0, 0, 0), (131, .iastore, 1, 0, 0, 0), (132, .iload 10, 2, 0, 0, 0), (134, .ireturn, 1, 0, 0, 0), (135, .iload_n 3, 1, 0, 0, 0), (136, .iload 10, 2, 0, 0, 0), (138, .ishr, 1, 0, 0, 0), (139, .iconst 1, 1, 0, 0, 0), (140, .iand, 1, 0, 0, 0), (141, .ifCond .ne 6, 3, 147, 0, 0), (144, .goto 33, 3, 177, 0, 0), (147, .iload 6, 2, 0, 0, 0), (149, .iconst 1, 1, 0, 0, 0), (150, .iload 10, 2, 0, 0, 0), (152, .ishl, 1, 0, 0, 0), (153, .ior, 1, 0, 0, 0), (154, .istore 6, 2, 0, 0, 0), (156, .aload_n 0, 1, 0, 0, 0), (157, .getfield 74, 3, 12, 33, 0), (160, .iload 10, 2, 0, 0, 0), (162, .iload 9, 2, 0, 0, 0), (164, .iastore, 1, 0, 0, 0), (165, .aload_n 0, 1, 0, 0, 0), (166, .getfield 53, 3, 12, 21, 0), (169, .iload 7, 2, 0, 0, 0), (171, .iload 10, 2, 0, 0, 0), (173, .iastore, 1, 0, 0, 0), (174, .iinc 7 1, 3, 0, 0, 0), (177, .iinc 10 1, 3, 0, 0, 0), (180, .goto (-143), 3, 37, 0, 0), (183, .iinc 8 1, 3, 0, 0, 0), (186, .goto (-168), 3, 18, 0, 0), (189, .iconst (-1), 1, 0, 0, 0), (190, .ireturn, 1, 0, 0, 0)]
def tb_143 : List mi_I := [(0, .iconst 1, 1, 0, 0, 0), (1, .aload_n 0, 1, 0, 0, 0), (2, .getfield 104, 3, 12, 0, 0), (5, .ishl, 1, 0, 0, 0), (6, .iconst 1, 1, 0, 0, 0), (7, .isub, 1, 0, 0, 0), (8, .ireturn, 1, 0, 0, 0)]
def tb_144 : List mi_I := [(0, .aload_n 0, 1, 0, 0, 0), (1, .iconst 0, 1, 0, 0, 0), (2, .putfield 170, 3, 12, 35, 0), (5, .aload_n 0, 1, 0, 0, 0), (6, .getfield 74, 3, 12, 33, 0), (9, .iload_n 2, 1, 0, 0, 0), (10, .iaload, 1, 0, 0, 0), (11, .istore_n 3, 1, 0, 0, 0), (12, .iload_n 3, 1, 0, 0, 0), (13, .iload_n 1, 1, 0, 0, 0), (14, .if_icmp .eq 23, 3, 37, 0, 0), (17, .aload_n 0, 1, 0, 0, 0), (18, .dup, 1, 0, 0, 0), (19, .getfield 170, 3, 12, 35, 0), (22, .iconst 1, 1, 0, 0, 0), (23, .iadd, 1, 0, 0, 0), (24, .putfield 170, 3, 12, 35, 0), (27, .aload_n 0, 1, 0, 0, 0), (28, .getfield 74, 3, 12, 33, 0), (31, .iload_n 3, 1, 0, 0, 0), (32, .iaload, 1, 0, 0, 0), (33, .istore_n 3, 1, 0, 0, 0), (34, .goto (-22), 3, 12, 0, 0), (37, .aload_n 0, 1, 0, 0, 0), (38, .getfield 170, 3, 12, 35, 0), (41, .istore_n 3, 1, 0, 0, 0), (42, .aload_n 0, 1, 0, 0, 0), (43, .getfield 74, 3, 12, 33, 0), (46, .iload_n 2, 1, 0, 0, 0), (47, .iaload, 1, 0, 0, 0), (48, .istore 4, 2, 0, 0, 0), (50, .iload 4, 2, 0, 0, 0), (52, .iload_n 1, 1, 0, 0, 0), (53, .if_icmp .eq 26, 3, 79, 0, 0), (56, .iinc 3 (-1), 3, 0, 0, 0), (59, .aload_n 0, 1, 0, 0, 0), (60, .getfield 77, 3, 12, 34, 0), (63, .iload_n 3, 1, 0, 0, 0), (64, .iload 4, 2, 0, 0, 0), (66, .iastore, 1, 0, 0, 0), (67, .aload_n 0, 1, 0, 0, 0), (68, .getfield 74, 3, 12, 33, 0), (71, .iload 4, 2, 0, 0, 0), (73, .iaload, 1, 0, 0, 0), (74, .istore 4, 2, 0, 0, 0), (76, .goto (-26), 3, 50, 0, 0), (79, .return_, 1, 0, 0, 0)]
def tb_145 : List mi_I := [(0, .aload_n 0, 1, 0, 0, 0), (1, .getfield 7, 3, 12, 2, 0), (4, .iload_n 1, 1, 0, 0, 0), (5, .iaload, 1, 0, 0, 0), (6, .istore_n 2, 1, 0, 0, 0), (7, .aload_n 0, 1, 0, 0, 0), (8, .getfield 13, 3, 12, 3, 0), (11, .iload_n 1, 1, 0, 0, 0), (12, .iaload, 1, 0, 0, 0), (13, .istore_n 3, 1, 0, 0, 0), (14, .aload_n 0, 1, 0, 0, 0), (15, .iload_n 3, 1, 0, 0, 0), (16, .iconst 1, 1, 0, 0, 0), (17, .iload_n 2, 1, 0, 0, 0), (18, .ishl, 1, 0, 0, 0), (19, .aload_n 0, 1, 0, 0, 0), (20, .invokevirtual 173, 3, 143, 1, 12), (23, .iconst (-1), 1, 0, 0, 0), (24, .iload_n 1, 1, 0, 0, 0), (25, .invokevirtual 177, 3, 142, 6, 12), (28, .pop, 1, 0, 0, 0), (29, .aload_n 0, 1, 0, 0, 0), (30, .iload_n 3, 1, 0, 0, 0), (31, .iload_n 2, 1, 0, 0, 0), (32, .invokevirtual 181, 3, 144, 3, 12), (35, .aload_n 0, 1, 0, 0, 0), (36, .iconst 2, 1, 0, 0, 0), (37, .putfield 184, 3, 12, 26, 0), (40, .aload_n 0, 1, 0, 0, 0), (41, .getfield 62, 3, 12, 25, 0), (44, .iconst 0, 1, 0, 0, 0), (45, .aload_n 0, 1, 0, 0, 0), (46, .getfield 170, 3, 12, 35, 0), (49, .iconst 2, 1, 0, 0, 0), (50, .iadd, 1, 0, 0, 0), (51, .iastore, 1, 0, 0, 0), (52, .aload_n 0, 1, 0, 0, 0), (53, .getfield 62, 3, 12, 25, 0), (56, .iconst 1, 1, 0, 0, 0), (57, .aload_n 0, 1, 0, 0, 0), (58, .getfield 170, 3, 12, 35, 0), (61, .iconst 2, 1, 0, 0, 0), (62, .iadd, 1, 0, 0, 0), (63, .iastore, 1, 0, 0, 0), (64, .aload_n 0, 1, 0, 0, 0), (65, .getfield 59, 3, 12, 24, 0), (68, .iconst 0, 1, 0, 0, 0), (69, .iload_n 2, 1, 0, 0, 0), (70, .iastore, 1, 0, 0, 0), (71, .aload_n 0, 1, 0, 0, 0), (72, .getfield 59, 3, 12, 24, 0), (75, .iconst 1, 1, 0, 0, 0), (76, .iload_n 3, 1, 0, 0, 0), (77, .iastore, 1, 0, 0, 0), (78, .aload_n 0, 1, 0, 0, 0), (79, .getfield 59, 3, 12, 24, 0), (82, .bipush 20, 2, 0, 0, 0), (84, .iload_n 2, 1, 0, 0, 0), (85, .iastore, 1, 0, 0, 0), (86, .aload_n 0, 1, 0, 0, 0), (87, .getfield 59, 3, 12, 24, 0), (90, .bipush 21, 2, 0, 0, 0), (92, .aload_n 0, 1, 0, 0, 0), (93, .getfield 170, 3, 12, 35, 0), (96, .iadd, 1, 0, 0, 0), (97, .iload_n 3, 1, 0, 0, 0), (98, .iastore, 1, 0, 0, 0), (99, .iconst 0, 1, 0, 0, 0), (100, .istore 4, 2, 0, 0, 0), (102, .iload 4, 2, 0, 0, 0), (104, .aload_n 0, 1, 0, 0, 0), (105, .getfield 170, 3, 12, 35, 0), (108, .if_icmp .ge 49, 3, 157, 0, 0), (111, .aload_n 0, 1, 0, 0, 0), (112, .getfield 59, 3, 12, 24, 0), (115, .iconst 2, 1, 0, 0, 0), (116, .iload 4, 2, 0, 0, 0), (118, .iadd, 1, 0, 0, 0), (119, .aload_n 0, 1, 0, 0, 0), (120, .getfield 77, 3, 12, 34, 0), (123, .iload 4, 2, 0, 0, 0), (125, .iaload, 1, 0, 0, 0), (126, .iastore, 1, 0, 0, 0), (127, .aload_n 0, 1, 0, 0, 0), (128, .getfield 59, 3, 12, 24, 0), (131, .bipush 21, 2, 0, 0, 0), (133, .iload 4, 2, 0, 0, 0), (135, .iadd, 1, 0, 0, 0), (136, .aload_n 0, 1, 0, 0, 0), (137, .getfield 77, 3, 12, 34, 0), (140, .aload_n 0, 1, 0, 0, 0), (141, .getfield 170, 3, 12, 35, 0), (144, .iconst 1, 1, 0, 0, 0), (145, .isub, 1, 0, 0, 0), (146, .iload 4, 2, 0, 0, 0), (148, .isub, 1, 0, 0, 0), (149, .iaload, 1, 0, 0, 0), (150, .iastore, 1, 0, 0, 0), (151, .iinc 4 1, 3, 0, 0, 0), (154, .goto (-52), 3, 102, 0, 0), (157, .iconst 0, 1, 0, 0, 0), (158, .istore 4, 2, 0, 0, 0), (160, .iload 4, 2, 0, 0, 0), (162, .aload_n 0, 1, 0, 0, 0), (163, .getfield 125, 3, 12, 1, 0), (166, .if_icmp .ge 17, 3, 183, 0, 0), (169, .aload_n 0, 1, 0, 0, 0), (170, .getfield 65, 3, 12, 27, 0), (173, .iload 4, 2, 0, 0, 0), (175, .iconst 0, 1, 0, 0, 0), (176, .bastore, 1, 0, 0, 0), (177, .iinc 4 1, 3, 0, 0, 0), (180, .goto (-20), 3, 160, 0, 0), (183, .aload_n 0, 1, 0, 0, 0), (184, .iconst 0, 1, 0, 0, 0), (185, .putfield 187, 3, 12, 28, 0), (188, .iconst 0, 1, 0, 0, 0), (189, .istore 4, 2, 0, 0, 0), (191, .iload 4, 2, 0, 0, 0), (193, .aload_n 0, 1, 0, 0, 0), (194, .getfield 62, 3, 12, 25, 0), (197, .iconst 0, 1, 0, 0, 0), (198, .iaload, 1, 0, 0, 0), (199, .if_icmp .ge 60, 3, 259, 0, 0), (202, .aload_n 0, 1, 0, 0, 0), (203, .dup, 1, 0, 0, 0), (204, .getfield 187, 3, 12, 28, 0), (207, .iconst 1, 1, 0, 0, 0), (208, .aload_n 0, 1, 0, 0, 0), (209, .getfield 59, 3, 12, 24, 0), (212, .iload 4, 2, 0, 0, 0), (214, .iaload, 1, 0, 0, 0), (215, .ishl, 1, 0, 0, 0), (216, .ior, 1, 0, 0, 0), (217, .putfield 187, 3, 12, 28, 0), (220, .aload_n 0, 1, 0, 0, 0), (221, .getfield 65, 3, 12, 27, 0), (224, .aload_n 0, 1, 0, 0, 0), (225, .aload_n 0, 1, 0, 0, 0), (226, .getfield 59, 3, 12, 24, 0), (229, .iload 4, 2, 0, 0, 0), (231, .iaload, 1, 0, 0, 0), (232, .aload_n 0, 1, 0, 0, 0), (233, .getfield 59, 3, 12, 24, 0), (236, .iload 4, 2, 0, 0, 0), (238, .iconst 1, 1, 0, 0, 0), (239, .iadd, 1, 0, 0, 0), (240, .aload_n 0, 1, 0, 0, 0), (241, .getfield 62, 3, 12, 25, 0), (244, .iconst 0, 1, 0, 0, 0), (245, .iaload, 1, 0, 0, 0), (246, .irem, 1, 0, 0, 0), (247, .iaload, 1, 0, 0, 0), (248, .invokevirtual 135, 3, 128, 3, 12), (251, .iconst 1, 1, 0, 0, 0), (252, .bastore, 1, 0, 0, 0), (253, .iinc 4 1, 3, 0, 0, 0), (256, .goto (-65), 3, 191, 0, 0), (259, .return_, 1, 0, 0, 0)]
def tb_146 : List mi_I := [(0, .aload_n 0, 1, 0, 0, 0), (1, .iconst 0, 1, 0, 0, 0), (2, .putfield 190, 3, 12, 32, 0), (5, .iconst 0, 1, 0, 0, 0), (6, .istore_n 1, 1, 0, 0, 0), (7, .iload_n 1, 1, 0, 0, 0), (8, .aload_n 0, 1, 0, 0, 0), (9, .getfield 125, 3, 12, 1, 0), (12, .if_icmp .ge 16, 3, 28, 0, 0), (15, .aload_n 0, 1, 0, 0, 0), (16, .getfield 68, 3, 12, 30, 0), (19, .iload_n 1, 1, 0, 0, 0), (20, .iconst (-1), 1, 0, 0, 0), (21, .iastore, 1, 0, 0, 0), (22, .iinc 1 1, 3, 0, 0, 0), (25, .goto (-18), 3, 7, 0, 0), (28, .iconst 0, 1, 0, 0, 0), (29, .istore_n 1, 1, 0, 0, 0), (30, .iload_n 1, 1, 0, 0, 0), (31, .aload_n 0, 1, 0, 0, 0), (32, .getfield 125, 3, 12, 1, 0), (35, .if_icmp .ge 269, 3, 304, 0, 0), (38, .aload_n 0, 1, 0, 0, 0), (39, .iload_n 1, 1, 0, 0, 0), (40, .invokevirtual 167, 3, 139, 2, 12), (43, .ifCond .eq 255, 3, 298, 0, 0), (46, .aload_n 0, 1, 0, 0, 0), (47, .getfield 65, 3, 12, 27, 0), (50, .iload_n 1, 1, 0, 0, 0), (51, .baload, 1, 0, 0, 0), (52, .ifCond .ne 246, 3, 298, 0, 0), (55, .aload_n 0, 1, 0, 0, 0), (56, .getfield 68, 3, 12, 30, 0), (59, .iload_n 1, 1, 0, 0, 0), (60, .iaload, 1, 0, 0, 0), (61, .ifCond .lt 6, 3, 67, 0, 0), (64, .goto 234, 3, 298, 0, 0), (67, .iconst 1, 1, 0, 0, 0), (68, .aload_n 0, 1, 0, 0, 0), (69, .getfield 7, 3, 12, 2, 0), (72, .iload_n 1, 1, 0, 0, 0), (73, .iaload, 1, 0, 0, 0), (74, .ishl, 1, 0, 0, 0), (75, .iconst 1, 1, 0, 0, 0), (76, .aload_n 0, 1, 0, 0, 0), (77, .getfield 13, 3, 12, 3, 0), (80, .iload_n 1, 1, 0, 0, 0), (81, .iaload, 1, 0, 0, 0), (82, .ishl, 1, 0, 0, 0), (83, .ior, 1, 0, 0, 0), (84, .aload_n 0, 1, 0, 0, 0), (85, .getfield 187, 3, 12, 28, 0), (88, .iconst (-1), 1, 0, 0, 0), (89, .ixor, 1, 0, 0, 0), (90, .iand, 1, 0, 0, 0), (91, .istore_n 2, 1, 0, 0, 0), (92, .iconst 0, 1, 0, 0, 0), (93, .istore_n 3, 1, 0, 0, 0), (94, .iload_n 2, 1, 0, 0, 0), (95, .iload_n 3, 1, 0, 0, 0), (96, .if_icmp .eq 88, 3, 184, 0, 0), (99, .iload_n 2, 1, 0, 0, 0), (100, .istore_n 3, 1, 0, 0, 0), (101, .iconst 0, 1, 0, 0, 0), (102, .istore 4, 2, 0, 0, 0), (104, .iload 4, 2, 0, 0, 0), (106, .aload_n 0, 1, 0, 0, 0), (107, .getfield 125, 3, 12, 1, 0), (110, .if_icmp .ge 71, 3, 181, 0, 0), (113, .aload_n 0, 1, 0, 0, 0), (114, .iload 4, 2, 0, 0, 0), (116, .invokevirtual 167, 3, 139, 2, 12), (119, .ifCond .eq 56, 3, 175, 0, 0), (122, .iconst 1, 1, 0, 0, 0), (123, .aload_n 0, 1, 0, 0, 0), (124, .getfield 7, 3, 12, 2, 0), (127, .iload 4, 2, 0, 0, 0), (129, .iaload, 1, 0, 0, 0), (130, .ishl, 1, 0, 0, 0), (131, .iconst 1, 1, 0, 0, 0), (132, .aload_n 0, 1, 0, 0, 0), (133, .getfield 13, 3, 12, 3, 0), (136, .iload 4, 2, 0, 0, 0), (138, .iaload, 1, 0, 0, 0), (139, .ishl, 1, 0, 0, 0), (140, .ior, 1, 0, 0, 0), (141, .iload_n 2, 1, 0, 0, 0), (142, .iand, 1, 0, 0, 0), (143, .ifCond .eq 32, 3, 175, 0, 0), (146, .iload_n 2, 1, 0, 0, 0), (147, .iconst 1, 1, 0, 0, 0), (148, .aload_n 0, 1, 0, 0, 0), (149, .getfield 7, 3, 12, 2, 0), (152, .iload 4, 2, 0, 0, 0), (154, .iaload, 1, 0, 0, 0), (155, .ishl, 1, 0, 0, 0), (156, .iconst 1, 1, 0, 0, 0), (157, .aload_n 0, 1, 0, 0, 0), (158, .getfield 13, 3, 12, 3, 0), (161, .iload 4, 2, 0, 0, 0), (163, .iaload, 1, 0, 0, 0), (164, .ishl, 1, 0, 0, 0), (165, .ior, 1, 0, 0, 0), (166, .aload_n 0, 1, 0, 0, 0), (167, .getfield 187, 3, 12, 28, 0), (170, .iconst (-1), 1, 0, 0, 0), (171, .ixor, 1, 0, 0, 0), (172, .iand, 1, 0, 0, 0), (173, .ior, 1, 0, 0, 0), (174, .istore_n 2, 1, 0, 0, 0), (175, .iinc 4 1, 3, 0, 0, 0), (178, .goto (-74), 3, 104, 0, 0), (181, .goto (-87), 3, 94, 0, 0), (184, .aload_n 0, 1, 0, 0, 0), (185, .getfield 71, 3, 12, 31, 0), (188, .aload_n 0, 1, 0, 0, 0), (189, .getfield 190, 3, 12, 32, 0), (192, .iconst 0, 1, 0, 0, 0), (193, .iastore, 1, 0, 0, 0), (194, .iconst 0, 1, 0, 0, 0), (195, .istore 4, 2, 0, 0, 0), (197, .iload 4, 2, 0, 0, 0), (199, .aload_n 0, 1, 0, 0, 0), (200, .getfield 125, 3, 12, 1, 0), (203, .if_icmp .ge 85, 3, 288, 0, 0), (206, .iconst 1, 1, 0, 0, 0), (207, .aload_n 0, 1, 0, 0, 0), (208, .getfield 7, 3, 12, 2, 0), (211, .iload 4, 2, 0, 0, 0), (213, .iaload, 1, 0, 0, 0), (214, .ishl, 1, 0, 0, 0), (215, .iconst 1, 1, 0, 0, 0), (216, .aload_n 0, 1, 0, 0, 0), (217, .getfield 13, 3, 12, 3, 0), (220, .iload 4, 2, 0, 0, 0), (222, .iaload, 1, 0, 0, 0), (223, .ishl, 1, 0, 0, 0), (224, .ior, 1, 0, 0, 0), (225, .istore 5, 2, 0, 0, 0), (227, .aload_n 0, 1, 0, 0, 0), (228, .iload 4, 2, 0, 0, 0), (230, .invokevirtual 167, 3, 139, 2, 12), (233, .ifCond .eq 49, 3, 282, 0, 0), (236, .iload 4, 2, 0, 0, 0), (238, .iload_n 1, 1, 0, 0, 0), (239, .if_icmp .eq 13, 3, 252, 0, 0), (242, .iload 5, 2, 0, 0, 0), (244, .iload_n 2, 1, 0, 0, 0), (245, .iand, 1, 0, 0, 0), (246, .ifCond .ne 6, 3, 252, 0, 0), (249, .goto 33, 3, 282, 0, 0), (252, .aload_n 0, 1, 0, 0, 0), (253, .getfield 68, 3, 12, 30, 0), (256, .iload 4, 2, 0, 0, 0), (258, .aload_n 0, 1, 0, 0, 0), (259, .getfield 190, 3, 12, 32, 0), (262, .iastore, 1, 0, 0, 0), (263, .aload_n 0, 1, 0, 0, 0), (264, .getfield 71, 3, 12, 31, 0), (267, .aload_n 0, 1, 0, 0, 0), (268, .getfield 190, 3, 12, 32, 0), (271, .dup2, 1, 0, 0, 0), (272, .iaload, 1, 0, 0, 0), (273, .iload 5, 2, 0, 0, 0), (275, .aload_n 0, 1, 0, 0, 0), (276, .getfield 187, 3, 12, 28, 0), (279, .iand, 1, 0, 0, 0), (280, .ior, 1, 0, 0, 0), (281, .iastore, 1, 0, 0, 0), (282, .iinc 4 1, 3, 0, 0, 0), (285, .goto (-88), 3, 197, 0, 0), (288, .aload_n 0, 1, 0, 0, 0), (289, .dup, 1, 0, 0, 0), (290, .getfield 190, 3, 12, 32, 0), (293, .iconst 1, 1, 0, 0, 0), (294, .iadd, 1, 0, 0, 0), (295, .putfield 190, 3, 12, 32, 0), (298, .iinc 1 1, 3, 0, 0, 0), (301, .goto (-271), 3, 30, 0, 0), (304, .return_, 1, 0, 0, 0)]
def tb_147 : List mi_I := [(0, .iconst 0, 1, 0, 0, 0), (1, .istore_n 2, 1, 0, 0, 0), (2, .iconst 0, 1, 0, 0, 0), (3, .istore_n 3, 1, 0, 0, 0), (4, .iload_n 3, 1, 0, 0, 0), (5, .aload_n 0, 1, 0, 0, 0), (6, .getfield 62, 3, 12, 25, 0), (9, .iload_n 1, 1, 0, 0, 0), (10, .iaload, 1, 0, 0, 0), (11, .if_icmp .ge 25, 3, 36, 0, 0), (14, .iload_n 2, 1, 0, 0, 0), (15, .iconst 1, 1, 0, 0, 0), (16, .aload_n 0, 1, 0, 0, 0), (17, .getfield 59, 3, 12, 24, 0), (20, .bipush 20, 2, 0, 0, 0), (22, .iload_n 1, 1, 0, 0, 0), (23, .imul, 1, 0, 0, 0), (24, .iload_n 3, 1, 0, 0, 0), (25, .iadd, 1, 0, 0, 0), (26, .iaload, 1, 0, 0, 0), (27, .ishl, 1, 0, 0, 0), (28, .ior, 1, 0, 0, 0), (29, .istore_n 2, 1, 0, 0, 0), (30, .iinc 3 1, 3, 0, 0, 0), (33, .goto (-29), 3, 4, 0, 0), (36, .iload_n 2, 1, 0, 0, 0), (37, .ireturn, 1, 0, 0, 0)]
def tb_148 : List mi_I := [(0, .aload_n 0, 1, 0, 0, 0), (1, .iconst (-1), 1, 0, 0, 0), (2, .putfield 193, 3, 12, 36, 0), (5, .aload_n 0, 1, 0, 0, 0), (6, .iconst 0, 1, 0, 0, 0), (7, .putfield 196, 3, 12, 37, 0), (10, .iconst 0, 1, 0, 0, 0), (11, .istore_n 2, 1, 0, 0, 0), (12, .iload_n 2, 1, 0, 0, 0), (13, .aload_n 0, 1, 0, 0, 0), (14, .getfield 184, 3, 12, 26, 0), (17, .if_icmp .ge 51, 3, 68, 0, 0), (20, .aload_n 0, 1, 0, 0, 0), (21, .getfield 71, 3, 12, 31, 0), (24, .iload_n 1, 1, 0, 0, 0), (25, .iaload, 1, 0, 0, 0), (26, .aload_n 0, 1, 0, 0, 0), (27, .iload_n 2, 1, 0, 0, 0), (28, .invokevirtual 199, 3, 147, 2, 12), (31, .iconst (-1), 1, 0, 0, 0), (32, .ixor, 1, 0, 0, 0), (33, .iand, 1, 0, 0, 0), (34, .ifCond .eq 6, 3, 40, 0, 0), (37, .goto 25, 3, 62, 0, 0), (40, .aload_n 0, 1, 0, 0, 0), (41, .getfield 193, 3, 12, 36, 0), (44, .ifCond .ge 8, 3, 52, 0, 0), (47, .aload_n 0, 1, 0, 0, 0), (48, .iload_n 2, 1, 0, 0, 0), (49, .putfield 193, 3, 12, 36, 0), (52, .aload_n 0, 1, 0, 0, 0), (53, .dup, 1, 0, 0, 0), (54, .getfield 196, 3, 12, 37, 0), (57, .iconst 1, 1, 0, 0, 0), (58, .iadd, 1, 0, 0, 0), (59, .putfield 196, 3, 12, 37, 0), (62, .iinc 2 1, 3, 0, 0, 0), (65, .goto (-53), 3, 12, 0, 0), (68, .return_, 1, 0, 0, 0)]
def tb_149 : List mi_I := [(0, .iconst (-1), 1, 0, 0, 0), (1, .istore_n 1, 1, 0, 0, 0), (2, .iconst 0, 1, 0, 0, 0), (3, .istore_n 2, 1, 0, 0, 0), (4, .iload_n 2, 1, 0, 0, 0), (5, .aload_n 0, 1, 0, 0, 0), (6, .getfield 190, 3, 12, 32, 0), (9, .if_icmp .ge 38, 3, 47, 0, 0), (12, .aload_n 0, 1, 0, 0, 0), (13, .iload_n 2, 1, 0, 0, 0), (14, .invokevirtual 203, 3, 148, 2, 12), (17, .aload_n 0, 1, 0, 0, 0), (18, .getfield 196, 3, 12, 37, 0), (21, .ifCond .ne 6, 3, 27, 0, 0), (24, .bipush (-2), 2, 0, 0, 0), (26, .ireturn, 1, 0, 0, 0), (27, .aload_n 0, 1, 0, 0, 0), (28, .getfield 196, 3, 12, 37, 0), (31, .iconst 1, 1, 0, 0, 0), (32, .if_icmp .ne 9, 3, 41, 0, 0), (35, .iload_n 1, 1, 0, 0, 0), (36, .ifCond .ge 5, 3, 41, 0, 0), (39, .iload_n 2, 1, 0, 0, 0), (40, .istore_n 1, 1, 0, 0, 0), (41, .iinc 2 1, 3, 0, 0, 0), (44, .goto (-40), 3, 4, 0, 0), (47, .iload_n 1, 1, 0, 0, 0), (48, .ifCond .ge 7, 3, 55, 0, 0), (51, .iconst 0, 1, 0, 0, 0), (52, .goto 4, 3, 56, 0, 0), (55, .iload_n 1, 1, 0, 0, 0), (56, .ireturn, 1, 0, 0, 0)]
def tb_150 : List mi_I := [(0, .aload_n 0, 1, 0, 0, 0), (1, .iload_n 1, 1, 0, 0, 0), (2, .invokevirtual 203, 3, 148, 2, 12), (5, .aload_n 0, 1, 0, 0, 0), (6, .getfield 193, 3, 12, 36, 0), (9, .istore_n 2, 1, 0, 0, 0), (10, .iconst 0, 1, 0, 0, 0), (11, .istore_n 3, 1, 0, 0, 0), (12, .aload_n 0, 1, 0, 0, 0), (13, .getfield 71, 3, 12, 31, 0), (16, .iload_n 1, 1, 0, 0, 0), (17, .iaload, 1, 0, 0, 0), (18, .iload_n 3, 1, 0, 0, 0), (19, .ishr, 1, 0, 0, 0), (20, .iconst 1, 1, 0, 0, 0), (21, .iand, 1, 0, 0, 0), (22, .ifCond .ne 9, 3, 31, 0, 0), (25, .iinc 3 1, 3, 0, 0, 0), (28, .goto (-16), 3, 12, 0, 0), (31, .aload_n 0, 1, 0, 0, 0), (32, .iload_n 3, 1, 0, 0, 0), (33, .aload_n 0, 1, 0, 0, 0), (34, .getfield 71, 3, 12, 31, 0), (37, .iload_n 1, 1, 0, 0, 0), (38, .iaload, 1, 0, 0, 0), (39, .iconst 1, 1, 0, 0, 0), (40, .iload_n 3, 1, 0, 0, 0), (41, .ishl, 1, 0, 0, 0), (42, .iconst (-1), 1, 0, 0, 0), (43, .ixor, 1, 0, 0, 0), (44, .iand, 1, 0, 0, 0), (45, .aload_n 0, 1, 0, 0, 0), (46, .invokevirtual 173, 3, 143, 1, 12), (49, .aload_n 0, 1, 0, 0, 0), (50, .getfield 187, 3, 12, 28, 0), (53, .iconst (-1), 1, 0, 0, 0), (54, .ixor, 1, 0, 0, 0), (55, .iand, 1, 0, 0, 0), (56, .iload_n 1, 1, 0, 0, 0), (57, .iconst (-1), 1, 0, 0, 0), (58, .invokevirtual 177, 3, 142, 6, 12), (61, .istore 4, 2, 0, 0, 0), (63, .aload_n 0, 1, 0, 0, 0), (64, .iload_n 3, 1, 0, 0, 0), (65, .iload 4, 2, 0, 0, 0), (67, .invokevirtual 181, 3, 144, 3, 12), (70, .aload_n 0, 1, 0, 0, 0), (71, .getfield 62, 3, 12, 25, 0), (74, .iload_n 2, 1, 0, 0, 0), (75, .iaload, 1, 0, 0, 0), (76, .istore 5, 2, 0, 0, 0), (78, .iconst 0, 1, 0, 0, 0), (79, .istore 6, 2, 0, 0, 0), (81, .iload 6, 2, 0, 0, 0), (83, .iload 5, 2, 0, 0, 0), (85, .if_icmp .ge 28, 3, 113, 0, 0), (88, .aload_n 0, 1, 0, 0, 0), (89, .getfield 80, 3, 12, 38, 0), (92, .iload 6, 2, 0, 0, 0), (94, .aload_n 0, 1, 0, 0, 0), (95, .getfield 59, 3, 12, 24, 0), (98, .bipush 20, 2, 0, 0, 0), (100, .iload_n 2, 1, 0, 0, 0), (101, .imul, 1, 0, 0, 0), (102, .iload 6, 2, 0, 0, 0), (104, .iadd, 1, 0, 0, 0), (105, .iaload, 1, 0, 0, 0), (106, .iastore, 1, 0, 0, 0), (107, .iinc 6 1, 3, 0, 0, 0), (110, .goto (-29), 3, 81, 0, 0), (113, .iconst 0, 1, 0, 0, 0), (114, .istore 6, 2, 0, 0, 0), (116, .aload_n 0, 1, 0, 0, 0), (117, .getfield 80, 3, 12, 38, 0), (120, .iload 6, 2, 0, 0, 0), (122, .iaload, 1, 0, 0, 0), (123, .iload_n 3, 1, 0, 0, 0), (124, .if_icmp .eq 9, 3, 133, 0, 0), (127, .iinc 6 1, 3, 0, 0, 0), (130, .goto (-14), 3, 116, 0, 0), (133, .iconst 0, 1, 0, 0, 0), (134, .istore 7, 2, 0, 0, 0), (136, .iload 6, 2, 0, 0, 0), (138, .istore 8, 2, 0, 0, 0), (140, .aload_n 0, 1, 0, 0, 0), (141, .getfield 80, 3, 12, 38, 0), (144, .iload 8, 2, 0, 0, 0), (146, .iaload, 1, 0, 0, 0), (147, .iload 4, 2, 0, 0, 0), (149, .if_icmp .eq 37, 3, 186, 0, 0), (152, .aload_n 0, 1, 0, 0, 0), (153, .getfield 59, 3, 12, 24, 0), (156, .bipush 20, 2, 0, 0, 0), (158, .iload_n 2, 1, 0, 0, 0), (159, .imul, 1, 0, 0, 0), (160, .iload 7, 2, 0, 0, 0), (162, .iadd, 1, 0, 0, 0), (163, .aload_n 0, 1, 0, 0, 0), (164, .getfield 80, 3, 12, 38, 0), (167, .iload 8, 2, 0, 0, 0), (169, .iaload, 1, 0, 0, 0), (170, .iastore, 1, 0, 0, 0), (171, .iinc 7 1, 3, 0, 0, 0), (174, .iload 8, 2, 0, 0, 0), (176, .iconst 1, 1, 0, 0, 0), (177, .iadd, 1, 0, 0, 0), (178, .iload 5, 2, 0, 0, 0), (180, .irem, 1, 0, 0, 0), (181, .istore 8, 2, 0, 0, 0), (183, .goto (-43), 3, 140, 0, 0), (186, .aload_n 0, 1, 0, 0, 0), (187, .getfield 59, 3, 12, 24, 0), (190, .bipush 20, 2, 0, 0, 0), (192, .iload_n 2, 1, 0, 0, 0), (193, .imul, 1, 0, 0, 0), (194, .iload 7, 2, 0, 0, 0), (196, .iadd, 1, 0, 0, 0), (197, .iload 4, 2, 0, 0, 0), (199, .iastore, 1, 0, 0, 0), (200, .iinc 7 1, 3, 0, 0, 0), (203, .aload_n 0, 1, 0, 0, 0), (204, .getfield 170, 3, 12, 35, 0), (207, .iconst 1, 1, 0, 0, 0), (208, .isub, 1, 0, 0, 0), (209, .istore 9, 2, 0, 0, 0), (211, .iload 9, 2, 0, 0, 0), (213, .ifCond .lt 31, 3, 244, 0, 0), (216, .aload_n 0, 1, 0, 0, 0), (217, .getfield 59, 3, 12, 24, 0), (220, .bipush 20, 2, 0, 0, 0), (222, .iload_n 2, 1, 0, 0, 0), (223, .imul, 1, 0, 0, 0), (224, .iload 7, 2, 0, 0, 0), (226, .iadd, 1, 0, 0, 0), (227, .aload_n 0, 1, 0, 0, 0), (228, .getfield 77, 3, 12, 34, 0), (231, .iload 9, 2, 0, 0, 0), (233, .iaload, 1, 0, 0, 0), (234, .iastore, 1, 0, 0, 0), (235, .iinc 7 1, 3, 0, 0, 0), (238, .iinc 9 (-1), 3, 0, 0, 0), (241, .goto (-30), 3, 211, 0, 0), (244, .aload_n 0, 1, 0, 0, 0), (245, .getfield 62, 3, 12, 25, 0), (248, .iload_n 2, 1, 0, 0, 0), (249, .iload 7, 2, 0, 0, 0), (251, .iastore, 1, 0, 0, 0), (252, .iconst 0, 1, 0, 0, 0), (253, .istore 7, 2, 0, 0, 0), (255, .aload_n 0, 1, 0, 0, 0), (256, .getfield 80, 3, 12, 38, 0), (259, .iload 8, 2, 0, 0, 0), (261, .iaload, 1, 0, 0, 0), (262, .iload_n 3, 1, 0, 0, 0), (263, .if_icmp .eq 40, 3, 303, 0, 0), (266, .aload_n 0, 1, 0, 0, 0), (267, .getfield 59, 3, 12, 24, 0), (270, .bipush 20, 2, 0, 0, 0), (272, .aload_n 0, 1, 0, 0, 0), (273, .getfield 184, 3, 12, 26, 0), (276, .imul, 1, 0, 0, 0), (277, .iload 7, 2, 0, 0, 0), (279, .iadd, 1, 0, 0, 0), (280, .aload_n 0, 1, 0, 0, 0), (281, .getfield 80, 3, 12, 38, 0), (284, .iload 8, 2, 0, 0, 0), (286, .iaload, 1, 0, 0, 0), (287, .iastore, 1, 0, 0, 0), (288, .iinc 7 1, 3, 0, 0, 0), (291, .iload 8, 2, 0, 0, 0), (293, .iconst 1, 1, 0, 0, 0), (294, .iadd, 1, 0, 0, 0), (295, .iload 5, 2, 0, 0, 0), (297, .irem, 1, 0, 0, 0), (298, .istore 8, 2, 0, 0, 0), (300, .goto (-45), 3, 255, 0, 0), (303, .aload_n 0, 1, 0, 0, 0), (304, .getfield 59, 3, 12, 24, 0), (307, .bipush 20, 2, 0, 0, 0), (309, .aload_n 0, 1, 0, 0, 0), (310, .getfield 184, 3, 12, 26, 0), (313, .imul, 1, 0, 0, 0), (314, .iload 7, 2, 0, 0, 0), (316, .iadd, 1, 0, 0, 0), (317, .iload_n 3, 1, 0, 0, 0), (318, .iastore, 1, 0, 0, 0), (319, .iinc 7 1, 3, 0, 0, 0), (322, .iconst 0, 1, 0, 0, 0), (323, .istore 9, 2, 0, 0, 0), (325, .iload 9, 2, 0, 0, 0), (327, .aload_n 0, 1, 0, 0, 0), (328, .getfield 170, 3, 12, 35, 0), (331, .if_icmp .ge 34, 3, 365, 0, 0), (334, .aload_n 0, 1, 0, 0, 0), (335, .getfield 59, 3, 12, 24, 0), (338, .bipush 20, 2, 0, 0, 0), (340, .aload_n 0, 1, 0, 0, 0), (341, .getfield 184, 3, 12, 26, 0), (344, .imul, 1, 0, 0, 0), (345, .iload 7, 2, 0, 0, 0), (347, .iadd, 1, 0, 0, 0), (348, .aload_n 0, 1, 0, 0, 0), (349, .getfield 77, 3, 12, 34, 0), (352, .iload 9, 2, 0, 0, 0), (354, .iaload, 1, 0, 0, 0), (355, .iastore, 1, 0, 0, 0), (356, .iinc 7 1, 3, 0, 0, 0), (359, .iinc 9 1, 3, 0, 0, 0), (362, .goto (-37), 3, 325, 0, 0), (365, .aload_n 0, 1, 0, 0, 0), (366, .getfield 62, 3, 12, 25, 0), (369, .aload_n 0, 1, 0, 0, 0), (370, .getfield 184, 3, 12, 26, 0), (373, .iload 7, 2, 0, 0, 0), (375, .iastore, 1, 0, 0, 0), (376, .aload_n 0, 1, 0, 0, 0), (377, .dup, 1, 0, 0, 0), (378, .getfield 184, 3, 12, 26, 0), (381, .iconst 1, 1, 0, 0, 0), (382, .iadd, 1, 0, 0, 0), (383, .putfield 184, 3, 12, 26, 0), (386, .aload_n 0, 1, 0, 0, 0), (387, .iload_n 3, 1, 0, 0, 0), (388, .iload 4, 2, 0, 0, 0), (390, .invokevirtual 207, 3, 151, 3, 12), (393, .return_, 1, 0, 0, 0)]
def tb_151 : List mi_I := [(0, .iload_n 1, 1, 0, 0, 0), (1, .istore_n 3, 1, 0, 0, 0), (2, .iconst 0, 1, 0, 0, 0), (3, .istore 4, 2, 0, 0, 0), (5, .iload 4, 2, 0, 0, 0), (7, .aload_n 0, 1, 0, 0, 0), (8, .getfield 170, 3, 12, 35, 0), (11, .if_icmp .gt 60, 3, 71, 0, 0), (14, .iload 4, 2, 0, 0, 0), (16, .aload_n 0, 1, 0, 0, 0), (17, .getfield 170, 3, 12, 35, 0), (20, .if_icmp .ge 13, 3, 33, 0, 0), (23, .aload_n 0, 1, 0, 0, 0), (24, .getfield 77, 3, 12, 34, 0), (27, .iload 4, 2, 0, 0, 0), (29, .iaload, 1, 0, 0, 0), (30, .goto 4, 3, 34, 0, 0), (33, .iload_n 2, 1, 0, 0, 0), (34, .istore 5, 2, 0, 0, 0), (36, .aload_n 0, 1, 0, 0, 0), (37, .getfield 65, 3, 12, 27, 0), (40, .aload_n 0, 1, 0, 0, 0), (41, .iload_n 3, 1, 0, 0, 0), (42, .iload 5, 2, 0, 0, 0), (44, .invokevirtual 135, 3, 128, 3, 12), (47, .iconst 1, 1, 0, 0, 0), (48, .bastore, 1, 0, 0, 0), (49, .aload_n 0, 1, 0, 0, 0), (50, .dup, 1, 0, 0, 0), (51, .getfield 187, 3, 12, 28, 0), (54, .iconst 1, 1, 0, 0, 0), (55, .iload 5, 2, 0, 0, 0), (57, .ishl, 1, 0, 0, 0), (58, .ior, 1, 0, 0, 0), (59, .putfield 187, 3, 12, 28, 0), (62, .iload 5, 2, 0, 0, 0), (64, .istore_n 3, 1, 0, 0, 0), (65, .iinc 4 1, 3, 0, 0, 0), (68, .goto (-63), 3, 5, 0, 0), (71, .return_, 1, 0, 0, 0)]
def tb_152 : List mi_I := [(0, .aload_n 0, 1, 0, 0, 0), (1, .iload_n 1, 1, 0, 0, 0), (2, .putfield 164, 3, 12, 29, 0), (5, .aload_n 0, 1, 0, 0, 0), (6, .aload_n 0, 1, 0, 0, 0), (7, .iload_n 1, 1, 0, 0, 0), (8, .invokevirtual 210, 3, 141, 2, 12), (11, .invokevirtual 213, 3, 145, 2, 12), (14, .aload_n 0, 1, 0, 0, 0), (15, .invokevirtual 216, 3, 146, 1, 12), (18, .aload_n 0, 1, 0, 0, 0), (19, .getfield 190, 3, 12, 32, 0), (22, .ifCond .le 26, 3, 48, 0, 0), (25, .aload_n 0, 1, 0, 0, 0), (26, .invokevirtual 219, 3, 149, 1, 12), (29, .istore_n 2, 1, 0, 0, 0), (30, .iload_n 2, 1, 0, 0, 0), (31, .ifCond .ge 5, 3, 36, 0, 0), (34, .iconst 0, 1, 0, 0, 0), (35, .ireturn, 1, 0, 0, 0), (36, .aload_n 0, 1, 0, 0, 0), (37, .iload_n 2, 1, 0, 0, 0), (38, .invokevirtual 222, 3, 150, 2, 12), (41, .aload_n 0, 1, 0, 0, 0), (42, .invokevirtual 216, 3, 146, 1, 12), (45, .goto (-27), 3, 18, 0, 0), (48, .iconst 1, 1, 0, 0, 0), (49, .ireturn, 1, 0, 0, 0)]
def tb_153 : List mi_I := [(0, .aload_n 0, 1, 0, 0, 0), (1, .invokevirtual 225, 3, 137, 1, 12), (4, .iload_n 1, 1, 0, 0, 0), (5, .ifCond .eq 26, 3, 31, 0, 0), (8, .iconst 0, 1, 0, 0, 0), (9, .istore_n 2, 1, 0, 0, 0), (10, .iload_n 2, 1, 0, 0, 0), (11, .aload_n 0, 1, 0, 0, 0), (12, .getfield 104, 3, 12, 0, 0), (15, .if_icmp .ge 16, 3, 31, 0, 0), (18, .aload_n 0, 1, 0, 0, 0), (19, .getfield 26, 3, 12, 8, 0), (22, .iload_n 2, 1, 0, 0, 0), (23, .iconst 0, 1, 0, 0, 0), (24, .iastore, 1, 0, 0, 0), (25, .iinc 2 1, 3, 0, 0, 0), (28, .goto (-18), 3, 10, 0, 0), (31, .iconst 0, 1, 0, 0, 0), (32, .istore_n 2, 1, 0, 0, 0), (33, .iload_n 2, 1, 0, 0, 0), (34, .aload_n 0, 1, 0, 0, 0), (35, .getfield 161, 3, 12, 6, 0), (38, .if_icmp .ge 148, 3, 186, 0, 0), (41, .aload_n 0, 1, 0, 0, 0), (42, .iload_n 2, 1, 0, 0, 0), (43, .invokevirtual 228, 3, 140, 2, 12), (46, .iconst 1, 1, 0, 0, 0), (47, .if_icmp .ne 7, 3, 54, 0, 0), (50, .iconst 1, 1, 0, 0, 0), (51, .goto 4, 3, 55, 0, 0), (54, .iconst 0, 1, 0, 0, 0), (55, .istore_n 3, 1, 0, 0, 0), (56, .iload_n 3, 1, 0, 0, 0), (57, .ifCond .ne 13, 3, 70, 0, 0), (60, .aload_n 0, 1, 0, 0, 0), (61, .iload_n 2, 1, 0, 0, 0), (62, .invokevirtual 231, 3, 152, 2, 12), (65, .ifCond .ne 5, 3, 70, 0, 0), (68, .iconst 0, 1, 0, 0, 0), (69, .ireturn, 1, 0, 0, 0), (70, .iload_n 1, 1, 0, 0, 0), (71, .ifCond .ne 6, 3, 77, 0, 0), (74, .goto 106, 3, 180, 0, 0), (77, .iload_n 3, 1, 0, 0, 0), (78, .ifCond .eq 73, 3, 151, 0, 0), (81, .aload_n 0, 1, 0, 0, 0), (82, .iload_n 2, 1, 0, 0, 0), (83, .invokevirtual 210, 3, 141, 2, 12), (86, .istore 4, 2, 0, 0, 0), (88, .aload_n 0, 1, 0, 0, 0), (89, .getfield 83, 3, 12, 39, 0), (92, .bipush 20, 2, 0, 0, 0), (94, .aload_n 0, 1, 0, 0, 0), (95, .getfield 7, 3, 12, 2, 0), (98, .iload 4, 2, 0, 0, 0), (100, .iaload, 1, 0, 0, 0), (101, .imul, 1, 0, 0, 0), (102, .aload_n 0, 1, 0, 0, 0), (103, .getfield 13, 3, 12, 3, 0), (106, .iload 4, 2, 0, 0, 0), (108, .iaload, 1, 0, 0, 0), (109, .iadd, 1, 0, 0, 0), (110, .aload_n 0, 1, 0, 0, 0), (111, .getfield 13, 3, 12, 3, 0), (114, .iload 4, 2, 0, 0, 0), (116, .iaload, 1, 0, 0, 0), (117, .iastore, 1, 0, 0, 0), (118, .aload_n 0, 1, 0, 0, 0), (119, .getfield 83, 3, 12, 39, 0), (122, .bipush 20, 2, 0, 0, 0), (124, .aload_n 0, 1, 0, 0, 0), (125, .getfield 13, 3, 12, 3, 0), (128, .iload 4, 2, 0, 0, 0), (130, .iaload, 1, 0, 0, 0), (131, .imul, 1, 0, 0, 0), (132, .aload_n 0, 1, 0, 0, 0), (133, .getfield 7, 3, 12, 2, 0), (136, .iload 4, 2, 0, 0, 0), (138, .iaload, 1, 0, 0, 0), (139, .iadd, 1, 0, 0, 0), (140, .aload_n 0, 1, 0, 0, 0), (141, .getfield 7, 3, 12, 2, 0), (144, .iload 4, 2, 0, 0, 0), (146, .iaload, 1, 0, 0, 0), (147, .iastore, 1, 0, 0, 0), (148, .goto 7, 3, 155, 0, 0), (151, .aload_n 0, 1, 0, 0, 0), (152, .invokevirtual 234, 3, 154, 1, 12), (155, .iconst 0, 1, 0, 0, 0), (156, .istore 4, 2, 0, 0, 0), (158, .iload 4, 2, 0, 0, 0), (160, .aload_n 0, 1, 0, 0, 0), (161, .getfield 104, 3, 12, 0, 0), (164, .if_icmp .ge 16, 3, 180, 0, 0), (167, .aload_n 0, 1, 0, 0, 0), (168, .iload 4, 2, 0, 0, 0), (170, .iload_n 2, 1, 0, 0, 0), (171, .invokevirtual 237, 3, 155, 3, 12), (174, .iinc 4 1, 3, 0, 0, 0), (177, .goto (-19), 3, 158, 0, 0), (180, .iinc 2 1, 3, 0, 0, 0), (183, .goto (-150), 3, 33, 0, 0), (186, .iconst 1, 1, 0, 0, 0), (187, .ireturn, 1, 0, 0, 0)]
def tb_154 : List mi_I := [(0, .iconst 0, 1, 0, 0, 0), (1, .istore_n 1, 1, 0, 0, 0), (2, .iload_n 1, 1, 0, 0, 0), (3, .aload_n 0, 1, 0, 0, 0), (4, .getfield 184, 3, 12, 26, 0), (7, .if_icmp .ge 79, 3, 86, 0, 0), (10, .aload_n 0, 1, 0, 0, 0), (11, .getfield 62, 3, 12, 25, 0), (14, .iload_n 1, 1, 0, 0, 0), (15, .iaload, 1, 0, 0, 0), (16, .istore_n 2, 1, 0, 0, 0), (17, .iconst 0, 1, 0, 0, 0), (18, .istore_n 3, 1, 0, 0, 0), (19, .iload_n 3, 1, 0, 0, 0), (20, .iload_n 2, 1, 0, 0, 0), (21, .if_icmp .ge 59, 3, 80, 0, 0), (24, .aload_n 0, 1, 0, 0, 0), (25, .getfield 83, 3, 12, 39, 0), (28, .bipush 20, 2, 0, 0, 0), (30, .aload_n 0, 1, 0, 0, 0), (31, .getfield 59, 3, 12, 24, 0), (34, .bipush 20, 2, 0, 0, 0), (36, .iload_n 1, 1, 0, 0, 0), (37, .imul, 1, 0, 0, 0), (38, .iload_n 3, 1, 0, 0, 0), (39, .iconst 1, 1, 0, 0, 0), (40, .iadd, 1, 0, 0, 0), (41, .iload_n 2, 1, 0, 0, 0), (42, .irem, 1, 0, 0, 0), (43, .iadd, 1, 0, 0, 0), (44, .iaload, 1, 0, 0, 0), (45, .imul, 1, 0, 0, 0), (46, .aload_n 0, 1, 0, 0, 0), (47, .getfield 59, 3, 12, 24, 0), (50, .bipush 20, 2, 0, 0, 0), (52, .iload_n 1, 1, 0, 0, 0), (53, .imul, 1, 0, 0, 0), (54, .iload_n 3, 1, 0, 0, 0), (55, .iadd, 1, 0, 0, 0), (56, .iaload, 1, 0, 0, 0), (57, .iadd, 1, 0, 0, 0), (58, .aload_n 0, 1, 0, 0, 0), (59, .getfield 59, 3, 12, 24, 0), (62, .bipush 20, 2, 0, 0, 0), (64, .iload_n 1, 1, 0, 0, 0), (65, .imul, 1, 0, 0, 0), (66, .iload_n 3, 1, 0, 0, 0), (67, .iconst 2, 1, 0, 0, 0), (68, .iadd, 1, 0, 0, 0), (69, .iload_n 2, 1, 0, 0, 0), (70, .irem, 1, 0, 0, 0), (71, .iadd, 1, 0, 0, 0), (72, .iaload, 1, 0, 0, 0), (73, .iastore, 1, 0, 0, 0), (74, .iinc 3 1, 3, 0, 0, 0), (77, .goto (-58), 3, 19, 0, 0), (80, .iinc 1 1, 3, 0, 0, 0), (83, .goto (-81), 3, 2, 0, 0), (86, .return_, 1, 0, 0, 0)]
def tb_155 : List mi_I := [(0, .iconst (-1), 1, 0, 0, 0), (1, .istore_n 3, 1, 0, 0, 0), (2, .aload_n 0, 1, 0, 0, 0), (3, .getfield 104, 3, 12, 0, 0), (6, .iconst 1, 1, 0, 0, 0), (7, .isub, 1, 0, 0, 0), (8, .istore 4, 2, 0, 0, 0), (10, .iload 4, 2, 0, 0, 0), (12, .ifCond .lt 53, 3, 65, 0, 0), (15, .aload_n 0, 1, 0, 0, 0), (16, .iload 4, 2, 0, 0, 0), (18, .iload_n 1, 1, 0, 0, 0), (19, .invokevirtual 135, 3, 128, 3, 12), (22, .istore 5, 2, 0, 0, 0), (24, .iload 4, 2, 0, 0, 0), (26, .iload_n 1, 1, 0, 0, 0), (27, .if_icmp .eq 32, 3, 59, 0, 0), (30, .iload 5, 2, 0, 0, 0), (32, .ifCond .lt 27, 3, 59, 0, 0), (35, .aload_n 0, 1, 0, 0, 0), (36, .getfield 16, 3, 12, 4, 0), (39, .iload 5, 2, 0, 0, 0), (41, .baload, 1, 0, 0, 0), (42, .ifCond .eq 17, 3, 59, 0, 0), (45, .aload_n 0, 1, 0, 0, 0), (46, .getfield 20, 3, 12, 5, 0), (49, .iload 5, 2, 0, 0, 0), (51, .iaload, 1, 0, 0, 0), (52, .iload_n 2, 1, 0, 0, 0), (53, .if_icmp .ne 6, 3, 59, 0, 0), (56, .iload 4, 2, 0, 0, 0), (58, .istore_n 3, 1, 0, 0, 0), (59, .iinc 4 (-1), 3, 0, 0, 0), (62, .goto (-52), 3, 10, 0, 0), (65, .iload_n 3, 1, 0, 0, 0), (66, .istore 4, 2, 0, 0, 0), (68, .iload 4, 2, 0, 0, 0), (70, .ifCond .lt 57, 3, 127, 0, 0), (73, .aload_n 0, 1, 0, 0, 0), (74, .getfield 23, 3, 12, 7, 0), (77, .bipush 20, 2, 0, 0, 0), (79, .iload_n 1, 1, 0, 0, 0), (80, .imul, 1, 0, 0, 0), (81, .aload_n 0, 1, 0, 0, 0), (82, .getfield 26, 3, 12, 8, 0), (85, .iload_n 1, 1, 0, 0, 0), (86, .iaload, 1, 0, 0, 0), (87, .iadd, 1, 0, 0, 0), (88, .iload 4, 2, 0, 0, 0), (90, .iastore, 1, 0, 0, 0), (91, .aload_n 0, 1, 0, 0, 0), (92, .getfield 26, 3, 12, 8, 0), (95, .iload_n 1, 1, 0, 0, 0), (96, .dup2, 1, 0, 0, 0), (97, .iaload, 1, 0, 0, 0), (98, .iconst 1, 1, 0, 0, 0), (99, .iadd, 1, 0, 0, 0), (100, .iastore, 1, 0, 0, 0), (101, .aload_n 0, 1, 0, 0, 0), (102, .getfield 83, 3, 12, 39, 0), (105, .bipush 20, 2, 0, 0, 0), (107, .iload_n 1, 1, 0, 0, 0), (108, .imul, 1, 0, 0, 0), (109, .iload 4, 2, 0, 0, 0), (111, .iadd, 1, 0, 0, 0), (112, .iaload, 1, 0, 0, 0), (113, .istore 4, 2, 0, 0, 0), (115, .iload 4, 2, 0, 0, 0), (117, .iload_n 3, 1, 0, 0, 0), (118, .if_icmp .ne (-50), 3, 68, 0, 0), (121, .iconst (-1), 1, 0, 0, 0), (122, .istore 4, 2, 0, 0, 0), (124, .goto (-56), 3, 68, 0, 0), (127, .return_, 1, 0, 0, 0)]
def tb_156 : List mi_I := [(0, .aload_n 0, 1, 0, 0, 0), (1, .invokevirtual 240, 3, 132, 1, 12), (4, .aload_n 0, 1, 0, 0, 0), (5, .iconst 0, 1, 0, 0, 0), (6, .invokevirtual 243, 3, 153, 2, 12), (9, .ireturn, 1, 0, 0, 0)]
def tb_157 : List mi_I := [(0, .iload_n 1, 1, 0, 0, 0), (1, .iconst 0, 1, 0, 0, 0), (2, .aload_n 0, 1, 0, 0, 0), (3, .getfield 125, 3, 12, 1, 0), (6, .iconst 1, 1, 0, 0, 0), (7, .isub, 1, 0, 0, 0), (8, .invokestatic 108, 3, 124, 3, 12), (11, .ifCond .ne 5, 3, 16, 0, 0), (14, .iconst (-1), 1, 0, 0, 0), (15, .ireturn, 1, 0, 0, 0), (16, .iload_n 2, 1, 0, 0, 0), (17, .ifCond .ne 10, 3, 27, 0, 0), (20, .aload_n 0, 1, 0, 0, 0), (21, .getfield 7, 3, 12, 2, 0), (24, .iload_n 1, 1, 0, 0, 0), (25, .iaload, 1, 0, 0, 0), (26, .ireturn, 1, 0, 0, 0), (27, .iload_n 2, 1, 0, 0, 0), (28, .iconst 1, 1, 0, 0, 0), (29, .if_icmp .ne 10, 3, 39, 0, 0), (32, .aload_n 0, 1, 0, 0, 0), (33, .getfield 13, 3, 12, 3, 0), (36, .iload_n 1, 1, 0, 0, 0), (37, .iaload, 1, 0, 0, 0), (38, .ireturn, 1, 0, 0, 0), (39, .iload_n 2, 1, 0, 0, 0), (40, .iconst 2, 1, 0, 0, 0), (41, .if_icmp .eq 5, 3, 46, 0, 0), (44, .iconst (-1), 1, 0, 0, 0), (45, .ireturn, 1, 0, 0, 0), (46, .aload_n 0, 1, 0, 0, 0), (47, .invokevirtual 240, 3, 132, 1, 12), (50, .aload_n 0, 1, 0, 0, 0), (51, .invokevirtual 225, 3, 137, 1, 12), (54, .aload_n 0, 1, 0, 0, 0), (55, .getfield 20, 3, 12, 5, 0), (58, .iload_n 1, 1, 0, 0, 0), (59, .iaload, 1, 0, 0, 0), (60, .ireturn, 1, 0, 0, 0)]
def tb_158 : List mi_I := [(0, .iconst 0, 1, 0, 0, 0), (1, .istore_n 1, 1, 0, 0, 0), (2, .iconst 0, 1, 0, 0, 0), (3, .istore_n 2, 1, 0, 0, 0), (4, .iload_n 2, 1, 0, 0, 0), (5, .aload_n 0, 1, 0, 0, 0), (6, .getfield 104, 3, 12, 0, 0), (9, .if_icmp .ge 61, 3, 70, 0, 0), (12, .iconst 0, 1, 0, 0, 0), (13, .istore_n 3, 1, 0, 0, 0), (14, .iconst 0, 1, 0, 0, 0), (15, .istore 4, 2, 0, 0, 0), (17, .iload 4, 2, 0, 0, 0), (19, .aload_n 0, 1, 0, 0, 0), (20, .getfield 125, 3, 12, 1, 0), (23, .if_icmp .ge 29, 3, 52, 0, 0), (26, .iload_n 3, 1, 0, 0, 0), (27, .ifCond .ne 13, 3, 40, 0, 0), (30, .aload_n 0, 1, 0, 0, 0), (31, .iload 4, 2, 0, 0, 0), (33, .iload_n 2, 1, 0, 0, 0), (34, .invokevirtual 149, 3, 133, 3, 12), (37, .ifCond .lt 7, 3, 44, 0, 0), (40, .iconst 1, 1, 0, 0, 0), (41, .goto 4, 3, 45, 0, 0), (44, .iconst 0, 1, 0, 0, 0), (45, .istore_n 3, 1, 0, 0, 0), (46, .iinc 4 1, 3, 0, 0, 0), (49, .goto (-32), 3, 17, 0, 0), (52, .iload_n 1, 1, 0, 0, 0), (53, .iload_n 3, 1, 0, 0, 0), (54, .ifCond .eq 7, 3, 61, 0, 0), (57, .iconst 0, 1, 0, 0, 0), (58, .goto 4, 3, 62, 0, 0), (61, .iconst 1, 1, 0, 0, 0), (62, .iadd, 1, 0, 0, 0), (63, .istore_n 1, 1, 0, 0, 0), (64, .iinc 2 1, 3, 0, 0, 0), (67, .goto (-63), 3, 4, 0, 0), (70, .iload_n 1, 1, 0, 0, 0), (71, .ireturn, 1, 0, 0, 0)]
def tb_159 : List mi_I := [(0, .aload_n 0, 1, 0, 0, 0), (1, .invokevirtual 240, 3, 132, 1, 12), (4, .iload_n 1, 1, 0, 0, 0), (5, .tableswitch 85 0 5 #[39, 44, 49, 58, 63, 72], 39, 0, 0, 0), (44, .aload_n 0, 1, 0, 0, 0), (45, .getfield 104, 3, 12, 0, 0), (48, .ireturn, 1, 0, 0, 0), (49, .aload_n 0, 1, 0, 0, 0), (50, .getfield 125, 3, 12, 1, 0), (53, .ireturn, 1, 0, 0, 0), (54, .aload_n 0, 1, 0, 0, 0), (55, .invokevirtual 152, 3, 134, 1, 12), (58, .aload_n 0, 1, 0, 0, 0), (59, .getfield 143, 3, 12, 22, 0), (62, .ireturn, 1, 0, 0, 0), (63, .aload_n 0, 1, 0, 0, 0), (64, .invokevirtual 247, 3, 158, 1, 12), (67, .ireturn, 1, 0, 0, 0), (68, .aload_n 0, 1, 0, 0, 0), (69, .invokevirtual 225, 3, 137, 1, 12), (72, .aload_n 0, 1, 0, 0, 0), (73, .getfield 161, 3, 12, 6, 0), (76, .ireturn, 1, 0, 0, 0), (77, .aload_n 0, 1, 0, 0, 0), (78, .invokevirtual 250, 3, 156, 1, 12), (81, .ifCond .eq 7, 3, 88, 0, 0), (84, .iconst 1, 1, 0, 0, 0), (85, .goto 4, 3, 89, 0, 0), (88, .iconst 0, 1, 0, 0, 0), (89, .ireturn, 1, 0, 0, 0), (90, .iconst (-1), 1, 0, 0, 0), (91, .ireturn, 1, 0, 0, 0)]
def tb_160 : List mi_I := [(0, .aload_n 0, 1, 0, 0, 0), (1, .invokevirtual 240, 3, 132, 1, 12), (4, .aload_n 0, 1, 0, 0, 0), (5, .iconst 1, 1, 0, 0, 0), (6, .invokevirtual 243, 3, 153, 2, 12), (9, .ifCond .eq 13, 3, 22, 0, 0), (12, .aload_n 0, 1, 0, 0, 0), (13, .iconst 1, 1, 0, 0, 0), (14, .putfield 112, 3, 12, 9, 0), (17, .aload_n 0, 1, 0, 0, 0), (18, .invokevirtual 254, 3, 168, 1, 12), (21, .ireturn, 1, 0, 0, 0), (22, .aload_n 0, 1, 0, 0, 0), (23, .iconst 0, 1, 0, 0, 0), (24, .putfield 112, 3, 12, 9, 0), (27, .aload_n 0, 1, 0, 0, 0), (28, .invokevirtual 257, 3, 161, 1, 12), (31, .iconst (-1), 1, 0, 0, 0), (32, .ireturn, 1, 0, 0, 0)]
def tb_161 : List mi_I := [(0, .aload_n 0, 1, 0, 0, 0), (1, .invokevirtual 240, 3, 132, 1, 12), (4, .iconst 0, 1, 0, 0, 0), (5, .istore_n 1, 1, 0, 0, 0), (6, .iload_n 1, 1, 0, 0, 0), (7, .aload_n 0, 1, 0, 0, 0), (8, .getfield 125, 3, 12, 1, 0), (11, .if_icmp .ge 31, 3, 42, 0, 0), (14, .aload_n 0, 1, 0, 0, 0), (15, .getfield 16, 3, 12, 4, 0), (18, .iload_n 1, 1, 0, 0, 0), (19, .iconst 0, 1, 0, 0, 0), (20, .bastore, 1, 0, 0, 0), (21, .aload_n 0, 1, 0, 0, 0), (22, .iconst 0, 1, 0, 0, 0), (23, .invokevirtual 243, 3, 153, 2, 12), (26, .ifCond .eq 10, 3, 36, 0, 0), (29, .aload_n 0, 1, 0, 0, 0), (30, .getfield 16, 3, 12, 4, 0), (33, .iload_n 1, 1, 0, 0, 0), (34, .iconst 1, 1, 0, 0, 0), (35, .bastore, 1, 0, 0, 0), (36, .iinc 1 1, 3, 0, 0, 0), (39, .goto (-33), 3, 6, 0, 0), (42, .aload_n 0, 1, 0, 0, 0), (43, .iconst 0, 1, 0, 0, 0), (44, .putfield 116, 3, 12, 11, 0), (47, .iconst 0, 1, 0, 0, 0), (48, .istore_n 1, 1, 0, 0, 0), (49, .iload_n 1, 1, 0, 0, 0), (50, .aload_n 0, 1, 0, 0, 0), (51, .getfield 125, 3, 12, 1, 0), (54, .if_icmp .ge 41, 3, 95, 0, 0), (57, .aload_n 0, 1, 0, 0, 0), (58, .getfield 16, 3, 12, 4, 0), (61, .iload_n 1, 1, 0, 0, 0), (62, .baload, 1, 0, 0, 0), (63, .ifCond .ne 6, 3, 69, 0, 0), (66, .goto 23, 3, 89, 0, 0), (69, .aload_n 0, 1, 0, 0, 0), (70, .getfield 29, 3, 12, 10, 0), (73, .aload_n 0, 1, 0, 0, 0), (74, .getfield 116, 3, 12, 11, 0), (77, .iload_n 1, 1, 0, 0, 0), (78, .iastore, 1, 0, 0, 0), (79, .aload_n 0, 1, 0, 0, 0), (80, .dup, 1, 0, 0, 0), (81, .getfield 116, 3, 12, 11, 0), (84, .iconst 1, 1, 0, 0, 0), (85, .iadd, 1, 0, 0, 0), (86, .putfield 116, 3, 12, 11, 0), (89, .iinc 1 1, 3, 0, 0, 0), (92, .goto (-43), 3, 49, 0, 0), (95, .return_, 1, 0, 0, 0)]
def tb_162 : List mi_I := [(0, .aload_n 0, 1, 0, 0, 0), (1, .getfield 112, 3, 12, 9, 0), (4, .ifCond .eq 41, 3, 45, 0, 0), (7, .aload_n 0, 1, 0, 0, 0), (8, .iload_n 1, 1, 0, 0, 0), (9, .invokevirtual 131, 3, 125, 2, 12), (12, .ifCond .eq 33, 3, 45, 0, 0), (15, .iload_n 2, 1, 0, 0, 0), (16, .iconst 0, 1, 0, 0, 0), (17, .aload_n 0, 1, 0, 0, 0), (18, .getfield 26, 3, 12, 8, 0), (21, .iload_n 1, 1, 0, 0, 0), (22, .iaload, 1, 0, 0, 0), (23, .iconst 1, 1, 0, 0, 0), (24, .isub, 1, 0, 0, 0), (25, .invokestatic 108, 3, 124, 3, 12), (28, .ifCond .eq 17, 3, 45, 0, 0), (31, .aload_n 0, 1, 0, 0, 0), (32, .getfield 23, 3, 12, 7, 0), (35, .bipush 20, 2, 0, 0, 0), (37, .iload_n 1, 1, 0, 0, 0), (38, .imul, 1, 0, 0, 0), (39, .iload_n 2, 1, 0, 0, 0), (40, .iadd, 1, 0, 0, 0), (41, .iaload, 1, 0, 0, 0), (42, .goto 4, 3, 46, 0, 0), (45, .iconst (-1), 1, 0, 0, 0), (46, .ireturn, 1, 0, 0, 0)]
def tb_163 : List mi_I := [(0, .aload_n 0, 1, 0, 0, 0), (1, .getfield 112, 3, 12, 9, 0), (4, .ifCond .eq 43, 3, 47, 0, 0), (7, .aload_n 0, 1, 0, 0, 0), (8, .iload_n 1, 1, 0, 0, 0), (9, .invokevirtual 131, 3, 125, 2, 12), (12, .ifCond .eq 35, 3, 47, 0, 0), (15, .iload_n 2, 1, 0, 0, 0), (16, .iconst 0, 1, 0, 0, 0), (17, .aload_n 0, 1, 0, 0, 0), (18, .getfield 26, 3, 12, 8, 0), (21, .iload_n 1, 1, 0, 0, 0), (22, .iaload, 1, 0, 0, 0), (23, .iconst 1, 1, 0, 0, 0), (24, .isub, 1, 0, 0, 0), (25, .invokestatic 108, 3, 124, 3, 12), (28, .ifCond .eq 19, 3, 47, 0, 0), (31, .iload_n 3, 1, 0, 0, 0), (32, .iconst 0, 1, 0, 0, 0), (33, .aload_n 0, 1, 0, 0, 0), (34, .getfield 26, 3, 12, 8, 0), (37, .iload_n 1, 1, 0, 0, 0), (38, .iaload, 1, 0, 0, 0), (39, .iconst 1, 1, 0, 0, 0), (40, .isub, 1, 0, 0, 0), (41, .invokestatic 108, 3, 124, 3, 12), (44, .ifCond .ne 5, 3, 49, 0, 0), (47, .iconst 0, 1, 0, 0, 0), (48, .ireturn, 1, 0, 0, 0), (49, .aload_n 0, 1, 0, 0, 0), (50, .getfield 23, 3, 12, 7, 0), (53, .bipush 20, 2, 0, 0, 0), (55, .iload_n 1, 1, 0, 0, 0), (56, .imul, 1, 0, 0, 0), (57, .iload_n 2, 1, 0, 0, 0), (58, .iadd, 1, 0, 0, 0), (59, .iaload, 1, 0, 0, 0), (60, .istore 4, 2, 0, 0, 0), (62, .aload_n 0, 1, 0, 0, 0), (63, .getfield 23, 3, 12, 7, 0), (66, .bipush 20, 2, 0, 0, 0), (68, .iload_n 1, 1, 0, 0, 0), (69, .imul, 1, 0, 0, 0), (70, .iload_n 2, 1, 0, 0, 0), (71, .iadd, 1, 0, 0, 0), (72, .aload_n 0, 1, 0, 0, 0), (73, .getfield 23, 3, 12, 7, 0), (76, .bipush 20, 2, 0, 0, 0), (78, .iload_n 1, 1, 0, 0, 0), (79, .imul, 1, 0, 0, 0), (80, .iload_n 3, 1, 0, 0, 0), (81, .iadd, 1, 0, 0, 0), (82, .iaload, 1, 0, 0, 0), (83, .iastore, 1, 0, 0, 0), (84, .aload_n 0, 1, 0, 0, 0), (85, .getfield 23, 3, 12, 7, 0), (88, .bipush 20, 2, 0, 0, 0), (90, .iload_n 1, 1, 0, 0, 0), (91, .imul, 1, 0, 0, 0), (92, .iload_n 3, 1, 0, 0, 0), (93, .iadd, 1, 0, 0, 0), (94, .iload 4, 2, 0, 0, 0), (96, .iastore, 1, 0, 0, 0), (97, .iconst 1, 1, 0, 0, 0), (98, .ireturn, 1, 0, 0, 0)]
def tb_164 : List mi_I := [(0, .iload_n 1, 1, 0, 0, 0), (1, .iconst 2, 1, 0, 0, 0), (2, .irem, 1, 0, 0, 0), (3, .ifCond .ne 14, 3, 17, 0, 0), (6, .aload_n 0, 1, 0, 0, 0), (7, .getfield 7, 3, 12, 2, 0), (10, .iload_n 1, 1, 0, 0, 0), (11, .iconst 2, 1, 0, 0, 0), (12, .idiv, 1, 0, 0, 0), (13, .iaload, 1, 0, 0, 0), (14, .goto 11, 3, 25, 0, 0), (17, .aload_n 0, 1, 0, 0, 0), (18, .getfield 13, 3, 12, 3, 0), (21, .iload_n 1, 1, 0, 0, 0), (22, .iconst 2, 1, 0, 0, 0), (23, .idiv, 1, 0, 0, 0), (24, .iaload, 1, 0, 0, 0), (25, .ireturn, 1, 0, 0, 0)]
def tb_165 : List mi_I := [(0, .iconst 2, 1, 0, 0, 0), (1, .aload_n 0, 1, 0, 0, 0), (2, .iload_n 1, 1, 0, 0, 0), (3, .iload_n 2, 1, 0, 0, 0), (4, .invokevirtual 135, 3, 128, 3, 12), (7, .imul, 1, 0, 0, 0), (8, .iload_n 1, 1, 0, 0, 0), (9, .iload_n 2, 1, 0, 0, 0), (10, .if_icmp .ge 7, 3, 17, 0, 0), (13, .iconst 0, 1, 0, 0, 0), (14, .goto 4, 3, 18, 0, 0), (17, .iconst 1, 1, 0, 0, 0), (18, .iadd, 1, 0, 0, 0), (19, .ireturn, 1, 0, 0, 0)]
def tb_166 : List mi_I := [(0, .aload_n 0, 1, 0, 0, 0), (1, .iload_n 1, 1, 0, 0, 0), (2, .invokevirtual 260, 3, 164, 2, 12), (5, .istore_n 2, 1, 0, 0, 0), (6, .aload_n 0, 1, 0, 0, 0), (7, .iload_n 1, 1, 0, 0, 0), (8, .iconst 1, 1, 0, 0, 0), (9, .ixor, 1, 0, 0, 0), (10, .invokevirtual 260, 3, 164, 2, 12), (13, .istore_n 3, 1, 0, 0, 0), (14, .iconst 0, 1, 0, 0, 0), (15, .istore 4, 2, 0, 0, 0), (17, .aload_n 0, 1, 0, 0, 0), (18, .getfield 23, 3, 12, 7, 0), (21, .bipush 20, 2, 0, 0, 0), (23, .iload_n 3, 1, 0, 0, 0), (24, .imul, 1, 0, 0, 0), (25, .iload 4, 2, 0, 0, 0), (27, .iadd, 1, 0, 0, 0), (28, .iaload, 1, 0, 0, 0), (29, .iload_n 2, 1, 0, 0, 0), (30, .if_icmp .eq 9, 3, 39, 0, 0), (33, .iinc 4 1, 3, 0, 0, 0), (36, .goto (-19), 3, 17, 0, 0), (39, .aload_n 0, 1, 0, 0, 0), (40, .iload_n 3, 1, 0, 0, 0), (41, .aload_n 0, 1, 0, 0, 0), (42, .getfield 23, 3, 12, 7, 0), (45, .bipush 20, 2, 0, 0, 0), (47, .iload_n 3, 1, 0, 0, 0), (48, .imul, 1, 0, 0, 0), (49, .iload 4, 2, 0, 0, 0), (51, .iconst 1, 1, 0, 0, 0), (52, .iadd, 1, 0, 0, 0), (53, .aload_n 0, 1, 0, 0, 0), (54, .getfield 26, 3, 12, 8, 0), (57, .iload_n 3, 1, 0, 0, 0), (58, .iaload, 1, 0, 0, 0), (59, .irem, 1, 0, 0, 0), (60, .iadd, 1, 0, 0, 0), (61, .iaload, 1, 0, 0, 0), (62, .invokevirtual 263, 3, 165, 3, 12), (65, .ireturn, 1, 0, 0, 0)]
def tb_167 : List mi_I := [(0, .aload_n 0, 1, 0, 0, 0), (1, .iconst 0, 1, 0, 0, 0), (2, .putfield 266, 3, 12, 41, 0), (5, .iconst 0, 1, 0, 0, 0), (6, .istore_n 1, 1, 0, 0, 0), (7, .iload_n 1, 1, 0, 0, 0), (8, .iconst 2, 1, 0, 0, 0), (9, .aload_n 0, 1, 0, 0, 0), (10, .getfield 125, 3, 12, 1, 0), (13, .imul, 1, 0, 0, 0), (14, .if_icmp .ge 16, 3, 30, 0, 0), (17, .aload_n 0, 1, 0, 0, 0), (18, .getfield 86, 3, 12, 40, 0), (21, .iload_n 1, 1, 0, 0, 0), (22, .iconst (-1), 1, 0, 0, 0), (23, .iastore, 1, 0, 0, 0), (24, .iinc 1 1, 3, 0, 0, 0), (27, .goto (-20), 3, 7, 0, 0), (30, .iconst 0, 1, 0, 0, 0), (31, .istore_n 1, 1, 0, 0, 0), (32, .iload_n 1, 1, 0, 0, 0), (33, .iconst 2, 1, 0, 0, 0), (34, .aload_n 0, 1, 0, 0, 0), (35, .getfield 125, 3, 12, 1, 0), (38, .imul, 1, 0, 0, 0), (39, .if_icmp .ge 61, 3, 100, 0, 0), (42, .aload_n 0, 1, 0, 0, 0), (43, .getfield 86, 3, 12, 40, 0), (46, .iload_n 1, 1, 0, 0, 0), (47, .iaload, 1, 0, 0, 0), (48, .ifCond .lt 6, 3, 54, 0, 0), (51, .goto 43, 3, 94, 0, 0), (54, .iload_n 1, 1, 0, 0, 0), (55, .istore_n 2, 1, 0, 0, 0), (56, .aload_n 0, 1, 0, 0, 0), (57, .getfield 86, 3, 12, 40, 0), (60, .iload_n 2, 1, 0, 0, 0), (61, .iaload, 1, 0, 0, 0), (62, .ifCond .ge 22, 3, 84, 0, 0), (65, .aload_n 0, 1, 0, 0, 0), (66, .getfield 86, 3, 12, 40, 0), (69, .iload_n 2, 1, 0, 0, 0), (70, .aload_n 0, 1, 0, 0, 0), (71, .getfield 266, 3, 12, 41, 0), (74, .iastore, 1, 0, 0, 0), (75, .aload_n 0, 1, 0, 0, 0), (76, .iload_n 2, 1, 0, 0, 0), (77, .invokevirtual 269, 3, 166, 2, 12), (80, .istore_n 2, 1, 0, 0, 0), (81, .goto (-25), 3, 56, 0, 0), (84, .aload_n 0, 1, 0, 0, 0), (85, .dup, 1, 0, 0, 0), (86, .getfield 266, 3, 12, 41, 0), (89, .iconst 1, 1, 0, 0, 0), (90, .iadd, 1, 0, 0, 0), (91, .putfield 266, 3, 12, 41, 0), (94, .iinc 1 1, 3, 0, 0, 0), (97, .goto (-65), 3, 32, 0, 0), (100, .return_, 1, 0, 0, 0)]
def tb_168 : List mi_I := [(0, .aload_n 0, 1, 0, 0, 0), (1, .getfield 112, 3, 12, 9, 0), (4, .ifCond .ne 5, 3, 9, 0, 0), (7, .iconst (-1), 1, 0, 0, 0), (8, .ireturn, 1, 0, 0, 0), (9, .aload_n 0, 1, 0, 0, 0), (10, .invokevirtual 272, 3, 167, 1, 12), (13, .aload_n 0, 1, 0, 0, 0), (14, .getfield 266, 3, 12, 41, 0), (17, .ireturn, 1, 0, 0, 0)]
def tb_169 : List mi_I := [(0, .aload_n 0, 1, 0, 0, 0), (1, .getfield 112, 3, 12, 9, 0), (4, .ifCond .eq 11, 3, 15, 0, 0), (7, .iload_n 2, 1, 0, 0, 0), (8, .ifCond .lt 7, 3, 15, 0, 0), (11, .iload_n 1, 1, 0, 0, 0), (12, .ifCond .ge 5, 3, 17, 0, 0), (15, .iconst (-1), 1, 0, 0, 0), (16, .ireturn, 1, 0, 0, 0), (17, .aload_n 0, 1, 0, 0, 0), (18, .invokevirtual 272, 3, 167, 1, 12), (21, .iconst 0, 1, 0, 0, 0), (22, .istore_n 3, 1, 0, 0, 0), (23, .iload_n 3, 1, 0, 0, 0), (24, .iconst 2, 1, 0, 0, 0), (25, .aload_n 0, 1, 0, 0, 0), (26, .getfield 125, 3, 12, 1, 0), (29, .imul, 1, 0, 0, 0), (30, .if_icmp .ge 19, 3, 49, 0, 0), (33, .aload_n 0, 1, 0, 0, 0), (34, .getfield 86, 3, 12, 40, 0), (37, .iload_n 3, 1, 0, 0, 0), (38, .iaload, 1, 0, 0, 0), (39, .iload_n 1, 1, 0, 0, 0), (40, .if_icmp .eq 9, 3, 49, 0, 0), (43, .iinc 3 1, 3, 0, 0, 0), (46, .goto (-23), 3, 23, 0, 0), (49, .iload_n 3, 1, 0, 0, 0), (50, .iconst 2, 1, 0, 0, 0), (51, .aload_n 0, 1, 0, 0, 0), (52, .getfield 125, 3, 12, 1, 0), (55, .imul, 1, 0, 0, 0), (56, .if_icmp .ne 5, 3, 61, 0, 0), (59, .iconst (-1), 1, 0, 0, 0), (60, .ireturn, 1, 0, 0, 0), (61, .iload_n 3, 1, 0, 0, 0), (62, .istore 4, 2, 0, 0, 0), (64, .iconst 0, 1, 0, 0, 0), (65, .istore 5, 2, 0, 0, 0), (67, .iload 5, 2, 0, 0, 0), (69, .iload_n 2, 1, 0, 0, 0), (70, .if_icmp .ge 25, 3, 95, 0, 0), (73, .aload_n 0, 1, 0, 0, 0), (74, .iload 4, 2, 0, 0, 0), (76, .invokevirtual 269, 3, 166, 2, 12), (79, .istore 4, 2, 0, 0, 0), (81, .iload 4, 2, 0, 0, 0), (83, .iload_n 3, 1, 0, 0, 0), (84, .if_icmp .ne 5, 3, 89, 0, 0), (87, .iconst (-1), 1, 0, 0, 0), (88, .ireturn, 1, 0, 0, 0), (89, .iinc 5 1, 3, 0, 0, 0), (92, .goto (-25), 3, 67, 0, 0), (95, .aload_n 0, 1, 0, 0, 0), (96, .iload 4, 2, 0, 0, 0), (98, .invokevirtual 260, 3, 164, 2, 12), (101, .ireturn, 1, 0, 0, 0)]
def tb_170 : List mi_I := [(0, .aload_n 0, 1, 0, 0, 0), (1, .getfield 112, 3, 12, 9, 0), (4, .ifCond .ne 5, 3, 9, 0, 0), (7, .iconst (-1), 1, 0, 0, 0), (8, .ireturn, 1, 0, 0, 0), (9, .aload_n 0, 1, 0, 0, 0), (10, .invokevirtual 272, 3, 167, 1, 12), (13, .aload_n 0, 1, 0, 0, 0), (14, .invokevirtual 240, 3, 132, 1, 12), (17, .aload_n 0, 1, 0, 0, 0), (18, .invokevirtual 152, 3, 134, 1, 12), (21, .iconst 2, 1, 0, 0, 0), (22, .aload_n 0, 1, 0, 0, 0), (23, .getfield 143, 3, 12, 22, 0), (26, .imul, 1, 0, 0, 0), (27, .aload_n 0, 1, 0, 0, 0), (28, .invokevirtual 247, 3, 158, 1, 12), (31, .isub, 1, 0, 0, 0), (32, .aload_n 0, 1, 0, 0, 0), (33, .getfield 104, 3, 12, 0, 0), (36, .isub, 1, 0, 0, 0), (37, .aload_n 0, 1, 0, 0, 0), (38, .getfield 125, 3, 12, 1, 0), (41, .iadd, 1, 0, 0, 0), (42, .aload_n 0, 1, 0, 0, 0), (43, .getfield 266, 3, 12, 41, 0), (46, .isub, 1, 0, 0, 0), (47, .iconst 2, 1, 0, 0, 0), (48, .idiv, 1, 0, 0, 0), (49, .ireturn, 1, 0, 0, 0)]
def tb_171 : List mi_I := [(0, .iconst 0, 1, 0, 0, 0), (1, .istore_n 2, 1, 0, 0, 0), (2, .iconst 0, 1, 0, 0, 0), (3, .istore_n 3, 1, 0, 0, 0), (4, .iload_n 3, 1, 0, 0, 0), (5, .aload_n 0, 1, 0, 0, 0), (6, .getfield 116, 3, 12, 11, 0), (9, .if_icmp .ge 31, 3, 40, 0, 0), (12, .iload_n 2, 1, 0, 0, 0), (13, .aload_n 0, 1, 0, 0, 0), (14, .aload_n 0, 1, 0, 0, 0), (15, .getfield 29, 3, 12, 10, 0), (18, .iload_n 3, 1, 0, 0, 0), (19, .iaload, 1, 0, 0, 0), (20, .iload_n 1, 1, 0, 0, 0), (21, .invokevirtual 149, 3, 133, 3, 12), (24, .ifCond .lt 7, 3, 31, 0, 0), (27, .iconst 1, 1, 0, 0, 0), (28, .goto 4, 3, 32, 0, 0), (31, .iconst 0, 1, 0, 0, 0), (32, .iadd, 1, 0, 0, 0), (33, .istore_n 2, 1, 0, 0, 0), (34, .iinc 3 1, 3, 0, 0, 0), (37, .goto (-33), 3, 4, 0, 0), (40, .iload_n 2, 1, 0, 0, 0), (41, .ireturn, 1, 0, 0, 0)]
def tb_172 : List mi_I := [(0, .iconst 0, 1, 0, 0, 0), (1, .istore_n 2, 1, 0, 0, 0), (2, .iconst 0, 1, 0, 0, 0), (3, .istore_n 3, 1, 0, 0, 0), (4, .iload_n 3, 1, 0, 0, 0), (5, .aload_n 0, 1, 0, 0, 0), (6, .getfield 104, 3, 12, 0, 0), (9, .if_icmp .ge 31, 3, 40, 0, 0), (12, .aload_n 0, 1, 0, 0, 0), (13, .iload_n 3, 1, 0, 0, 0), (14, .invokevirtual 275, 3, 171, 2, 12), (17, .iconst 3, 1, 0, 0, 0), (18, .if_icmp .ge 6, 3, 24, 0, 0), (21, .goto 13, 3, 34, 0, 0), (24, .iload_n 2, 1, 0, 0, 0), (25, .iload_n 1, 1, 0, 0, 0), (26, .if_icmp .ne 5, 3, 31, 0, 0), (29, .iload_n 3, 1, 0, 0, 0), (30, .ireturn, 1, 0, 0, 0), (31, .iinc 2 1, 3, 0, 0, 0), (34, .iinc 3 1, 3, 0, 0, 0), (37, .goto (-33), 3, 4, 0, 0), (40, .iload_n 1, 1, 0, 0, 0), (41, .ifCond .ge 7, 3, 48, 0, 0), (44, .iload_n 2, 1, 0, 0, 0), (45, .goto 4, 3, 49, 0, 0), (48, .iconst (-1), 1, 0, 0, 0), (49, .ireturn, 1, 0, 0, 0)]
def tb_173 : List mi_I := [(0, .aload_n 0, 1, 0, 0, 0), (1, .getfield 116, 3, 12, 11, 0), (4, .ifCond .ne 5, 3, 9, 0, 0), (7, .iconst (-1), 1, 0, 0, 0), (8, .ireturn, 1, 0, 0, 0), (9, .iload_n 1, 1, 0, 0, 0), (10, .sipush 200, 3, 0, 0, 0), (13, .if_icmp .lt 13, 3, 26, 0, 0), (16, .aload_n 0, 1, 0, 0, 0), (17, .iload_n 1, 1, 0, 0, 0), (18, .sipush 200, 3, 0, 0, 0), (21, .isub, 1, 0, 0, 0), (22, .invokevirtual 278, 3, 172, 2, 12), (25, .ireturn, 1, 0, 0, 0), (26, .iload_n 1, 1, 0, 0, 0), (27, .bipush 100, 2, 0, 0, 0), (29, .if_icmp .lt 28, 3, 57, 0, 0), (32, .iload_n 1, 1, 0, 0, 0), (33, .bipush 100, 2, 0, 0, 0), (35, .isub, 1, 0, 0, 0), (36, .aload_n 0, 1, 0, 0, 0), (37, .getfield 116, 3, 12, 11, 0), (40, .if_icmp .ge 15, 3, 55, 0, 0), (43, .aload_n 0, 1, 0, 0, 0), (44, .getfield 29, 3, 12, 10, 0), (47, .iload_n 1, 1, 0, 0, 0), (48, .bipush 100, 2, 0, 0, 0), (50, .isub, 1, 0, 0, 0), (51, .iaload, 1, 0, 0, 0), (52, .goto 4, 3, 56, 0, 0), (55, .iconst (-1), 1, 0, 0, 0), (56, .ireturn, 1, 0, 0, 0), (57, .aload_n 0, 1, 0, 0, 0), (58, .iconst (-1), 1, 0, 0, 0), (59, .invokevirtual 278, 3, 172, 2, 12), (62, .istore_n 2, 1, 0, 0, 0), (63, .iload_n 1, 1, 0, 0, 0), (64, .ifCond .ne 10, 3, 74, 0, 0), (67, .aload_n 0, 1, 0, 0, 0), (68, .getfield 116, 3, 12, 11, 0), (71, .goto 31, 3, 102, 0, 0), (74, .iload_n 1, 1, 0, 0, 0), (75, .iconst 1, 1, 0, 0, 0), (76, .if_icmp .ne 16, 3, 92, 0, 0), (79, .iload_n 2, 1, 0, 0, 0), (80, .iconst 5, 1, 0, 0, 0), (81, .if_icmp .ne 7, 3, 88, 0, 0), (84, .iconst 5, 1, 0, 0, 0), (85, .goto 17, 3, 102, 0, 0), (88, .iconst 3, 1, 0, 0, 0), (89, .goto 13, 3, 102, 0, 0), (92, .iload_n 1, 1, 0, 0, 0), (93, .iconst 2, 1, 0, 0, 0), (94, .if_icmp .ne 7, 3, 101, 0, 0), (97, .iload_n 2, 1, 0, 0, 0), (98, .goto 4, 3, 102, 0, 0), (101, .iconst (-1), 1, 0, 0, 0), (102, .ireturn, 1, 0, 0, 0)]
def tb_174 : List mi_I := [(0, .aload_n 0, 1, 0, 0, 0), (1, .iload_n 1, 1, 0, 0, 0), (2, .iload_n 2, 1, 0, 0, 0), (3, .invokevirtual 139, 3, 129, 3, 12), (6, .aload_n 0, 1, 0, 0, 0), (7, .invokevirtual 250, 3, 156, 1, 12), (10, .istore_n 3, 1, 0, 0, 0), (11, .aload_n 0, 1, 0, 0, 0), (12, .dup, 1, 0, 0, 0), (13, .getfield 125, 3, 12, 1, 0), (16, .iconst 1, 1, 0, 0, 0), (17, .isub, 1, 0, 0, 0), (18, .putfield 125, 3, 12, 1, 0), (21, .iload_n 3, 1, 0, 0, 0), (22, .ireturn, 1, 0, 0, 0)]
def tb_175 : List mi_I := [(0, .aload_n 0, 1, 0, 0, 0), (1, .iload_n 1, 1, 0, 0, 0), (2, .invokevirtual 131, 3, 125, 2, 12), (5, .ifCond .eq 41, 3, 46, 0, 0), (8, .aload_n 0, 1, 0, 0, 0), (9, .iload_n 2, 1, 0, 0, 0), (10, .invokevirtual 131, 3, 125, 2, 12), (13, .ifCond .eq 33, 3, 46, 0, 0), (16, .iload_n 1, 1, 0, 0, 0), (17, .iload_n 2, 1, 0, 0, 0), (18, .if_icmp .eq 28, 3, 46, 0, 0), (21, .aload_n 0, 1, 0, 0, 0), (22, .iload_n 1, 1, 0, 0, 0), (23, .iload_n 2, 1, 0, 0, 0), (24, .invokevirtual 135, 3, 128, 3, 12), (27, .ifCond .ge 19, 3, 46, 0, 0), (30, .aload_n 0, 1, 0, 0, 0), (31, .getfield 125, 3, 12, 1, 0), (34, .bipush 60, 2, 0, 0, 0), (36, .if_icmp .eq 10, 3, 46, 0, 0), (39, .aload_n 0, 1, 0, 0, 0), (40, .invokevirtual 250, 3, 156, 1, 12), (43, .ifCond .ne 5, 3, 48, 0, 0), (46, .iconst (-1), 1, 0, 0, 0), (47, .ireturn, 1, 0, 0, 0), (48, .aload_n 0, 1, 0, 0, 0), (49, .iload_n 1, 1, 0, 0, 0), (50, .iload_n 2, 1, 0, 0, 0), (51, .invokevirtual 281, 3, 174, 3, 12), (54, .ifCond .eq 7, 3, 61, 0, 0), (57, .iconst 1, 1, 0, 0, 0), (58, .goto 4, 3, 62, 0, 0), (61, .iconst 0, 1, 0, 0, 0), (62, .ireturn, 1, 0, 0, 0)]
def tb_176 : List mi_I := [(0, .aload_n 0, 1, 0, 0, 0), (1, .invokevirtual 250, 3, 156, 1, 12), (4, .ifCond .ne 5, 3, 9, 0, 0), (7, .iconst (-1), 1, 0, 0, 0), (8, .ireturn, 1, 0, 0, 0), (9, .aload_n 0, 1, 0, 0, 0), (10, .getfield 125, 3, 12, 1, 0), (13, .istore_n 1, 1, 0, 0, 0), (14, .iconst 0, 1, 0, 0, 0), (15, .istore_n 2, 1, 0, 0, 0), (16, .iload_n 2, 1, 0, 0, 0), (17, .aload_n 0, 1, 0, 0, 0), (18, .getfield 104, 3, 12, 0, 0), (21, .if_icmp .ge 51, 3, 72, 0, 0), (24, .iload_n 2, 1, 0, 0, 0), (25, .iconst 1, 1, 0, 0, 0), (26, .iadd, 1, 0, 0, 0), (27, .istore_n 3, 1, 0, 0, 0), (28, .iload_n 3, 1, 0, 0, 0), (29, .aload_n 0, 1, 0, 0, 0), (30, .getfield 104, 3, 12, 0, 0), (33, .if_icmp .ge 33, 3, 66, 0, 0), (36, .aload_n 0, 1, 0, 0, 0), (37, .iload_n 2, 1, 0, 0, 0), (38, .iload_n 3, 1, 0, 0, 0), (39, .invokevirtual 135, 3, 128, 3, 12), (42, .ifCond .ge 18, 3, 60, 0, 0), (45, .aload_n 0, 1, 0, 0, 0), (46, .iload_n 2, 1, 0, 0, 0), (47, .iload_n 3, 1, 0, 0, 0), (48, .invokevirtual 281, 3, 174, 3, 12), (51, .ifCond .eq 9, 3, 60, 0, 0), (54, .aload_n 0, 1, 0, 0, 0), (55, .iload_n 2, 1, 0, 0, 0), (56, .iload_n 3, 1, 0, 0, 0), (57, .invokevirtual 139, 3, 129, 3, 12), (60, .iinc 3 1, 3, 0, 0, 0), (63, .goto (-35), 3, 28, 0, 0), (66, .iinc 2 1, 3, 0, 0, 0), (69, .goto (-53), 3, 16, 0, 0), (72, .aload_n 0, 1, 0, 0, 0), (73, .getfield 125, 3, 12, 1, 0), (76, .iload_n 1, 1, 0, 0, 0), (77, .if_icmp .le 7, 3, 84, 0, 0), (80, .aload_n 0, 1, 0, 0, 0), (81, .invokevirtual 128, 3, 126, 1, 12), (84, .aload_n 0, 1, 0, 0, 0), (85, .getfield 125, 3, 12, 1, 0), (88, .iload_n 1, 1, 0, 0, 0), (89, .isub, 1, 0, 0, 0), (90, .ireturn, 1, 0, 0, 0)]
def tb_177 : List mi_I := [(0, .iconst 0, 1, 0, 0, 0), (1, .istore_n 2, 1, 0, 0, 0), (2, .iload_n 2, 1, 0, 0, 0), (3, .aload_n 0, 1, 0, 0, 0), (4, .getfield 285, 3, 12, 45, 0), (7, .if_icmp .ge 19, 3, 26, 0, 0), (10, .aload_n 0, 1, 0, 0, 0), (11, .getfield 95, 3, 12, 44, 0), (14, .iload_n 2, 1, 0, 0, 0), (15, .iaload, 1, 0, 0, 0), (16, .iload_n 1, 1, 0, 0, 0), (17, .if_icmp .eq 9, 3, 26, 0, 0), (20, .iinc 2 1, 3, 0, 0, 0), (23, .goto (-21), 3, 2, 0, 0), (26, .iload_n 2, 1, 0, 0, 0), (27, .aload_n 0, 1, 0, 0, 0), (28, .getfield 285, 3, 12, 45, 0), (31, .if_icmp .ge 7, 3, 38, 0, 0), (34, .iload_n 2, 1, 0, 0, 0), (35, .goto 4, 3, 39, 0, 0), (38, .iconst (-1), 1, 0, 0, 0), (39, .ireturn, 1, 0, 0, 0)]
def tb_178 : List mi_I := [(0, .iconst 0, 1, 0, 0, 0), (1, .istore_n 2, 1, 0, 0, 0), (2, .iload_n 2, 1, 0, 0, 0), (3, .aload_n 0, 1, 0, 0, 0), (4, .getfield 285, 3, 12, 45, 0), (7, .if_icmp .ge 49, 3, 56, 0, 0), (10, .iload_n 2, 1, 0, 0, 0), (11, .iload_n 1, 1, 0, 0, 0), (12, .if_icmp .eq 38, 3, 50, 0, 0), (15, .iload_n 2, 1, 0, 0, 0), (16, .iload_n 1, 1, 0, 0, 0), (17, .iconst 1, 1, 0, 0, 0), (18, .isub, 1, 0, 0, 0), (19, .if_icmp .eq 31, 3, 50, 0, 0), (22, .iload_n 2, 1, 0, 0, 0), (23, .iload_n 1, 1, 0, 0, 0), (24, .iconst 1, 1, 0, 0, 0), (25, .iadd, 1, 0, 0, 0), (26, .if_icmp .eq 24, 3, 50, 0, 0), (29, .aload_n 0, 1, 0, 0, 0), (30, .aload_n 0, 1, 0, 0, 0), (31, .getfield 95, 3, 12, 44, 0), (34, .iload_n 2, 1, 0, 0, 0), (35, .iaload, 1, 0, 0, 0), (36, .aload_n 0, 1, 0, 0, 0), (37, .getfield 95, 3, 12, 44, 0), (40, .iload_n 1, 1, 0, 0, 0), (41, .iaload, 1, 0, 0, 0), (42, .invokevirtual 135, 3, 128, 3, 12), (45, .ifCond .lt 5, 3, 50, 0, 0), (48, .iconst 0, 1, 0, 0, 0), (49, .ireturn, 1, 0, 0, 0), (50, .iinc 2 1, 3, 0, 0, 0), (53, .goto (-51), 3, 2, 0, 0), (56, .iconst 1, 1, 0, 0, 0), (57, .ireturn, 1, 0, 0, 0)]
def tb_179 : List mi_I := [(0, .iconst 0, 1, 0, 0, 0), (1, .istore_n 3, 1, 0, 0, 0), (2, .aload_n 0, 1, 0, 0, 0), (3, .getfield 23, 3, 12, 7, 0), (6, .bipush 20, 2, 0, 0, 0), (8, .iload_n 1, 1, 0, 0, 0), (9, .imul, 1, 0, 0, 0), (10, .iload_n 3, 1, 0, 0, 0), (11, .iadd, 1, 0, 0, 0), (12, .iaload, 1, 0, 0, 0), (13, .iload_n 2, 1, 0, 0, 0), (14, .if_icmp .eq 9, 3, 23, 0, 0), (17, .iinc 3 1, 3, 0, 0, 0), (20, .goto (-18), 3, 2, 0, 0), (23, .iload_n 3, 1, 0, 0, 0), (24, .ireturn, 1, 0, 0, 0)]
def tb_180 : List mi_I := [(0, .aload_n 0, 1, 0, 0, 0), (1, .getfield 92, 3, 12, 43, 0), (4, .iload_n 1, 1, 0, 0, 0), (5, .baload, 1, 0, 0, 0), (6, .ifCond .ne 15, 3, 21, 0, 0), (9, .aload_n 0, 1, 0, 0, 0), (10, .iload_n 1, 1, 0, 0, 0), (11, .invokevirtual 288, 3, 177, 2, 12), (14, .ifCond .ge 7, 3, 21, 0, 0), (17, .iconst 1, 1, 0, 0, 0), (18, .goto 4, 3, 22, 0, 0), (21, .iconst 0, 1, 0, 0, 0), (22, .ireturn, 1, 0, 0, 0)]
def tb_181 : List mi_I := [(0, .aload_n 0, 1, 0, 0, 0), (1, .getfield 26, 3, 12, 8, 0), (4, .iload_n 1, 1, 0, 0, 0), (5, .iaload, 1, 0, 0, 0), (6, .istore 5, 2, 0, 0, 0), (8, .aload_n 0, 1, 0, 0, 0), (9, .iconst 0, 1, 0, 0, 0), (10, .putfield 291, 3, 12, 47, 0), (13, .aload_n 0, 1, 0, 0, 0), (14, .iload_n 1, 1, 0, 0, 0), (15, .iload_n 2, 1, 0, 0, 0), (16, .invokevirtual 294, 3, 179, 3, 12), (19, .iload 4, 2, 0, 0, 0), (21, .iadd, 1, 0, 0, 0), (22, .iload 5, 2, 0, 0, 0), (24, .iadd, 1, 0, 0, 0), (25, .iload 5, 2, 0, 0, 0), (27, .irem, 1, 0, 0, 0), (28, .istore 6, 2, 0, 0, 0), (30, .aload_n 0, 1, 0, 0, 0), (31, .getfield 23, 3, 12, 7, 0), (34, .bipush 20, 2, 0, 0, 0), (36, .iload_n 1, 1, 0, 0, 0), (37, .imul, 1, 0, 0, 0), (38, .iload 6, 2, 0, 0, 0), (40, .iadd, 1, 0, 0, 0), (41, .iaload, 1, 0, 0, 0), (42, .iload_n 3, 1, 0, 0, 0), (43, .if_icmp .eq 65, 3, 108, 0, 0), (46, .aload_n 0, 1, 0, 0, 0), (47, .getfield 23, 3, 12, 7, 0), (50, .bipush 20, 2, 0, 0, 0), (52, .iload_n 1, 1, 0, 0, 0), (53, .imul, 1, 0, 0, 0), (54, .iload 6, 2, 0, 0, 0), (56, .iadd, 1, 0, 0, 0), (57, .iaload, 1, 0, 0, 0), (58, .istore 7, 2, 0, 0, 0), (60, .aload_n 0, 1, 0, 0, 0), (61, .iload 7, 2, 0, 0, 0), (63, .invokevirtual 297, 3, 180, 2, 12), (66, .ifCond .ne 5, 3, 71, 0, 0), (69, .iconst 0, 1, 0, 0, 0), (70, .ireturn, 1, 0, 0, 0), (71, .aload_n 0, 1, 0, 0, 0), (72, .getfield 98, 3, 12, 46, 0), (75, .aload_n 0, 1, 0, 0, 0), (76, .getfield 291, 3, 12, 47, 0), (79, .iload 7, 2, 0, 0, 0), (81, .iastore, 1, 0, 0, 0), (82, .aload_n 0, 1, 0, 0, 0), (83, .dup, 1, 0, 0, 0), (84, .getfield 291, 3, 12, 47, 0), (87, .iconst 1, 1, 0, 0, 0), (88, .iadd, 1, 0, 0, 0), (89, .putfield 291, 3, 12, 47, 0), (92, .iload 6, 2, 0, 0, 0), (94, .iload 4, 2, 0, 0, 0), (96, .iadd, 1, 0, 0, 0), (97, .iload 5, 2, 0, 0, 0), (99, .iadd, 1, 0, 0, 0), (100, .iload 5, 2, 0, 0, 0), (102, .irem, 1, 0, 0, 0), (103, .istore 6, 2, 0, 0, 0), (105, .goto (-75), 3, 30, 0, 0), (108, .iconst 0, 1, 0, 0, 0), (109, .istore 7, 2, 0, 0, 0), (111, .iconst 0, 1, 0, 0, 0), (112, .istore 8, 2, 0, 0, 0), (114, .iload 8, 2, 0, 0, 0), (116, .iload 5, 2, 0, 0, 0), (118, .if_icmp .ge 38, 3, 156, 0, 0), (121, .iload 7, 2, 0, 0, 0), (123, .aload_n 0, 1, 0, 0, 0), (124, .aload_n 0, 1, 0, 0, 0), (125, .getfield 23, 3, 12, 7, 0), (128, .bipush 20, 2, 0, 0, 0), (130, .iload_n 1, 1, 0, 0, 0), (131, .imul, 1, 0, 0, 0), (132, .iload 8, 2, 0, 0, 0), (134, .iadd, 1, 0, 0, 0), (135, .iaload, 1, 0, 0, 0), (136, .invokevirtual 297, 3, 180, 2, 12), (139, .ifCond .eq 7, 3, 146, 0, 0), (142, .iconst 1, 1, 0, 0, 0), (143, .goto 4, 3, 147, 0, 0), (146, .iconst 0, 1, 0, 0, 0), (147, .iadd, 1, 0, 0, 0), (148, .istore 7, 2, 0, 0, 0), (150, .iinc 8 1, 3, 0, 0, 0), (153, .goto (-39), 3, 114, 0, 0), (156, .aload_n 0, 1, 0, 0, 0), (157, .getfield 291, 3, 12, 47, 0), (160, .iload 7, 2, 0, 0, 0), (162, .if_icmp .ne 7, 3, 169, 0, 0), (165, .iconst 1, 1, 0, 0, 0), (166, .goto 4, 3, 170, 0, 0), (169, .iconst 0, 1, 0, 0, 0), (170, .ireturn, 1, 0, 0, 0)]
def tb_182 : List mi_I := [(0, .iconst 0, 1, 0, 0, 0), (1, .istore_n 1, 1, 0, 0, 0), (2, .iload_n 1, 1, 0, 0, 0), (3, .aload_n 0, 1, 0, 0, 0), (4, .getfield 104, 3, 12, 0, 0), (7, .if_icmp .ge 16, 3, 23, 0, 0), (10, .aload_n 0, 1, 0, 0, 0), (11, .getfield 92, 3, 12, 43, 0), (14, .iload_n 1, 1, 0, 0, 0), (15, .iconst 0, 1, 0, 0, 0), (16, .bastore, 1, 0, 0, 0), (17, .iinc 1 1, 3, 0, 0, 0), (20, .goto (-18), 3, 2, 0, 0), (23, .aload_n 0, 1, 0, 0, 0), (24, .getfield 89, 3, 12, 42, 0), (27, .iconst 0, 1, 0, 0, 0), (28, .aload_n 0, 1, 0, 0, 0), (29, .iconst 0, 1, 0, 0, 0), (30, .iconst 0, 1, 0, 0, 0), (31, .invokevirtual 300, 3, 169, 3, 12), (34, .iastore, 1, 0, 0, 0), (35, .aload_n 0, 1, 0, 0, 0), (36, .getfield 89, 3, 12, 42, 0), (39, .iconst 1, 1, 0, 0, 0), (40, .aload_n 0, 1, 0, 0, 0), (41, .iconst 0, 1, 0, 0, 0), (42, .iconst 1, 1, 0, 0, 0), (43, .invokevirtual 300, 3, 169, 3, 12), (46, .iastore, 1, 0, 0, 0), (47, .aload_n 0, 1, 0, 0, 0), (48, .getfield 95, 3, 12, 44, 0), (51, .iconst 0, 1, 0, 0, 0), (52, .aload_n 0, 1, 0, 0, 0), (53, .getfield 89, 3, 12, 42, 0), (56, .iconst 0, 1, 0, 0, 0), (57, .iaload, 1, 0, 0, 0), (58, .iastore, 1, 0, 0, 0), (59, .aload_n 0, 1, 0, 0, 0), (60, .getfield 95, 3, 12, 44, 0), (63, .iconst 1, 1, 0, 0, 0), (64, .aload_n 0, 1, 0, 0, 0), (65, .iconst 0, 1, 0, 0, 0), (66, .iconst 2, 1, 0, 0, 0), (67, .invokevirtual 300, 3, 169, 3, 12), (70, .iastore, 1, 0, 0, 0), (71, .aload_n 0, 1, 0, 0, 0), (72, .getfield 95, 3, 12, 44, 0), (75, .iconst 2, 1, 0, 0, 0), (76, .aload_n 0, 1, 0, 0, 0), (77, .getfield 89, 3, 12, 42, 0), (80, .iconst 1, 1, 0, 0, 0), (81, .iaload, 1, 0, 0, 0), (82, .iastore, 1, 0, 0, 0), (83, .aload_n 0, 1, 0, 0, 0), (84, .iconst 3, 1, 0, 0, 0), (85, .putfield 285, 3, 12, 45, 0), (88, .aload_n 0, 1, 0, 0, 0), (89, .getfield 104, 3, 12, 0, 0), (92, .iconst 1, 1, 0, 0, 0), (93, .isub, 1, 0, 0, 0), (94, .istore_n 1, 1, 0, 0, 0), (95, .iload_n 1, 1, 0, 0, 0), (96, .iconst 1, 1, 0, 0, 0), (97, .if_icmp .le 251, 3, 348, 0, 0), (100, .iconst (-1), 1, 0, 0, 0), (101, .istore_n 2, 1, 0, 0, 0), (102, .iconst 1, 1, 0, 0, 0), (103, .istore_n 3, 1, 0, 0, 0), (104, .iload_n 3, 1, 0, 0, 0), (105, .aload_n 0, 1, 0, 0, 0), (106, .getfield 285, 3, 12, 45, 0), (109, .iconst 1, 1, 0, 0, 0), (110, .isub, 1, 0, 0, 0), (111, .if_icmp .ge 38, 3, 149, 0, 0), (114, .aload_n 0, 1, 0, 0, 0), (115, .iload_n 3, 1, 0, 0, 0), (116, .invokevirtual 303, 3, 178, 2, 12), (119, .ifCond .eq 24, 3, 143, 0, 0), (122, .iload_n 2, 1, 0, 0, 0), (123, .ifCond .lt 18, 3, 141, 0, 0), (126, .aload_n 0, 1, 0, 0, 0), (127, .getfield 95, 3, 12, 44, 0), (130, .iload_n 3, 1, 0, 0, 0), (131, .iaload, 1, 0, 0, 0), (132, .aload_n 0, 1, 0, 0, 0), (133, .getfield 95, 3, 12, 44, 0), (136, .iload_n 2, 1, 0, 0, 0), (137, .iaload, 1, 0, 0, 0), (138, .if_icmp .ge 5, 3, 143, 0, 0), (141, .iload_n 3, 1, 0, 0, 0), (142, .istore_n 2, 1, 0, 0, 0), (143, .iinc 3 1, 3, 0, 0, 0), (146, .goto (-42), 3, 104, 0, 0), (149, .aload_n 0, 1, 0, 0, 0), (150, .getfield 95, 3, 12, 44, 0), (153, .iload_n 2, 1, 0, 0, 0), (154, .iaload, 1, 0, 0, 0), (155, .istore_n 3, 1, 0, 0, 0), (156, .aload_n 0, 1, 0, 0, 0), (157, .iload_n 3, 1, 0, 0, 0), (158, .aload_n 0, 1, 0, 0, 0), (159, .getfield 95, 3, 12, 44, 0), (162, .iload_n 2, 1, 0, 0, 0), (163, .iconst 1, 1, 0, 0, 0), (164, .isub, 1, 0, 0, 0), (165, .iaload, 1, 0, 0, 0), (166, .aload_n 0, 1, 0, 0, 0), (167, .getfield 95, 3, 12, 44, 0), (170, .iload_n 2, 1, 0, 0, 0), (171, .iconst 1, 1, 0, 0, 0), (172, .iadd, 1, 0, 0, 0), (173, .iaload, 1, 0, 0, 0), (174, .iconst 1, 1, 0, 0, 0), (175, .invokevirtual 306, 3, 181, 5, 12), (178, .ifCond .ne 26, 3, 204, 0, 0), (181, .aload_n 0, 1, 0, 0, 0), (182, .iload_n 3, 1, 0, 0, 0), (183, .aload_n 0, 1, 0, 0, 0), (184, .getfield 95, 3, 12, 44, 0), (187, .iload_n 2, 1, 0, 0, 0), (188, .iconst 1, 1, 0, 0, 0), (189, .isub, 1, 0, 0, 0), (190, .iaload, 1, 0, 0, 0), (191, .aload_n 0, 1, 0, 0, 0), (192, .getfield 95, 3, 12, 44, 0), (195, .iload_n 2, 1, 0, 0, 0), (196, .iconst 1, 1, 0, 0, 0), (197, .iadd, 1, 0, 0, 0), (198, .iaload, 1, 0, 0, 0), (199, .iconst (-1), 1, 0, 0, 0), (200, .invokevirtual 306, 3, 181, 5, 12), (203, .pop, 1, 0, 0, 0), (204, .aload_n 0, 1, 0, 0, 0), (205, .getfield 89, 3, 12, 42, 0), (208, .iload_n 1, 1, 0, 0, 0), (209, .iload_n 3, 1, 0, 0, 0), (210, .iastore, 1, 0, 0, 0), (211, .aload_n 0, 1, 0, 0, 0), (212, .getfield 92, 3, 12, 43, 0), (215, .iload_n 3, 1, 0, 0, 0), (216, .iconst 1, 1, 0, 0, 0), (217, .bastore, 1, 0, 0, 0), (218, .iconst 0, 1, 0, 0, 0), (219, .istore 4, 2, 0, 0, 0), (221, .iload 4, 2, 0, 0, 0), (223, .aload_n 0, 1, 0, 0, 0), (224, .getfield 285, 3, 12, 45, 0), (227, .if_icmp .ge 23, 3, 250, 0, 0), (230, .aload_n 0, 1, 0, 0, 0), (231, .getfield 80, 3, 12, 38, 0), (234, .iload 4, 2, 0, 0, 0), (236, .aload_n 0, 1, 0, 0, 0), (237, .getfield 95, 3, 12, 44, 0), (240, .iload 4, 2, 0, 0, 0), (242, .iaload, 1, 0, 0, 0), (243, .iastore, 1, 0, 0, 0), (244, .iinc 4 1, 3, 0, 0, 0), (247, .goto (-26), 3, 221, 0, 0), (250, .aload_n 0, 1, 0, 0, 0), (251, .getfield 285, 3, 12, 45, 0), (254, .istore 4, 2, 0, 0, 0), (256, .iconst 0, 1, 0, 0, 0), (257, .istore 5, 2, 0, 0, 0), (259, .iload 5, 2, 0, 0, 0), (261, .aload_n 0, 1, 0, 0, 0), (262, .getfield 291, 3, 12, 47, 0), (265, .if_icmp .ge 25, 3, 290, 0, 0), (268, .aload_n 0, 1, 0, 0, 0), (269, .getfield 95, 3, 12, 44, 0), (272, .iload_n 2, 1, 0, 0, 0), (273, .iload 5, 2, 0, 0, 0), (275, .iadd, 1, 0, 0, 0), (276, .aload_n 0, 1, 0, 0, 0), (277, .getfield 98, 3, 12, 46, 0), (280, .iload 5, 2, 0, 0, 0), (282, .iaload, 1, 0, 0, 0), (283, .iastore, 1, 0, 0, 0), (284, .iinc 5 1, 3, 0, 0, 0), (287, .goto (-28), 3, 259, 0, 0), (290, .iload_n 2, 1, 0, 0, 0), (291, .iconst 1, 1, 0, 0, 0), (292, .iadd, 1, 0, 0, 0), (293, .istore 5, 2, 0, 0, 0), (295, .iload 5, 2, 0, 0, 0), (297, .iload 4, 2, 0, 0, 0), (299, .if_icmp .ge 30, 3, 329, 0, 0), (302, .aload_n 0, 1, 0, 0, 0), (303, .getfield 95, 3, 12, 44, 0), (306, .iload 5, 2, 0, 0, 0), (308, .aload_n 0, 1, 0, 0, 0), (309, .getfield 291, 3, 12, 47, 0), (312, .iadd, 1, 0, 0, 0), (313, .iconst 1, 1, 0, 0, 0), (314, .isub, 1, 0, 0, 0), (315, .aload_n 0, 1, 0, 0, 0), (316, .getfield 80, 3, 12, 38, 0), (319, .iload 5, 2, 0, 0, 0), (321, .iaload, 1, 0, 0, 0), (322, .iastore, 1, 0, 0, 0), (323, .iinc 5 1, 3, 0, 0, 0), (326, .goto (-31), 3, 295, 0, 0), (329, .aload_n 0, 1, 0, 0, 0), (330, .iload 4, 2, 0, 0, 0), (332, .aload_n 0, 1, 0, 0, 0), (333, .getfield 291, 3, 12, 47, 0), (336, .iadd, 1, 0, 0, 0), (337, .iconst 1, 1, 0, 0, 0), (338, .isub, 1, 0, 0, 0), (339, .putfield 285, 3, 12, 45, 0), (342, .iinc 1 (-1), 3, 0, 0, 0), (345, .goto (-250), 3, 95, 0, 0), (348, .return_, 1, 0, 0, 0)]
def tb_183 : List mi_I := [(0, .iconst 0, 1, 0, 0, 0), (1, .istore_n 3, 1, 0, 0, 0), (2, .iload_n 3, 1, 0, 0, 0), (3, .aload_n 0, 1, 0, 0, 0), (4, .getfield 104, 3, 12, 0, 0), (7, .if_icmp .ge 28, 3, 35, 0, 0), (10, .iload_n 1, 1, 0, 0, 0), (11, .iload_n 3, 1, 0, 0, 0), (12, .ishr, 1, 0, 0, 0), (13, .iconst 1, 1, 0, 0, 0), (14, .iand, 1, 0, 0, 0), (15, .iconst 1, 1, 0, 0, 0), (16, .if_icmp .ne 13, 3, 29, 0, 0), (19, .aload_n 0, 1, 0, 0, 0), (20, .getfield 32, 3, 12, 12, 0), (23, .iload_n 3, 1, 0, 0, 0), (24, .dup2, 1, 0, 0, 0), (25, .iaload, 1, 0, 0, 0), (26, .iload_n 2, 1, 0, 0, 0), (27, .iadd, 1, 0, 0, 0), (28, .iastore, 1, 0, 0, 0), (29, .iinc 3 1, 3, 0, 0, 0), (32, .goto (-30), 3, 2, 0, 0), (35, .return_, 1, 0, 0, 0)]
def tb_184 : List mi_I := [(0, .aload_n 0, 1, 0, 0, 0), (1, .getfield 32, 3, 12, 12, 0), (4, .iload_n 1, 1, 0, 0, 0), (5, .iload_n 2, 1, 0, 0, 0), (6, .iastore, 1, 0, 0, 0), (7, .aload_n 0, 1, 0, 0, 0), (8, .getfield 35, 3, 12, 13, 0), (11, .iload_n 1, 1, 0, 0, 0), (12, .iload_n 3, 1, 0, 0, 0), (13, .iastore, 1, 0, 0, 0), (14, .aload_n 0, 1, 0, 0, 0), (15, .getfield 101, 3, 12, 48, 0), (18, .iload_n 1, 1, 0, 0, 0), (19, .iconst 1, 1, 0, 0, 0), (20, .iload_n 1, 1, 0, 0, 0), (21, .ishl, 1, 0, 0, 0), (22, .iastore, 1, 0, 0, 0), (23, .return_, 1, 0, 0, 0)]
def tb_185 : List mi_I := [(0, .aload_n 0, 1, 0, 0, 0), (1, .aload_n 0, 1, 0, 0, 0), (2, .getfield 89, 3, 12, 42, 0), (5, .iconst 0, 1, 0, 0, 0), (6, .iaload, 1, 0, 0, 0), (7, .iconst 0, 1, 0, 0, 0), (8, .iconst 0, 1, 0, 0, 0), (9, .invokevirtual 310, 3, 184, 4, 12), (12, .aload_n 0, 1, 0, 0, 0), (13, .aload_n 0, 1, 0, 0, 0), (14, .getfield 89, 3, 12, 42, 0), (17, .iconst 1, 1, 0, 0, 0), (18, .iaload, 1, 0, 0, 0), (19, .iconst 2, 1, 0, 0, 0), (20, .iconst 0, 1, 0, 0, 0), (21, .invokevirtual 310, 3, 184, 4, 12), (24, .aload_n 0, 1, 0, 0, 0), (25, .aload_n 0, 1, 0, 0, 0), (26, .getfield 89, 3, 12, 42, 0), (29, .iconst 2, 1, 0, 0, 0), (30, .iaload, 1, 0, 0, 0), (31, .iconst 1, 1, 0, 0, 0), (32, .iconst 1, 1, 0, 0, 0), (33, .invokevirtual 310, 3, 184, 4, 12), (36, .aload_n 0, 1, 0, 0, 0), (37, .getfield 95, 3, 12, 44, 0), (40, .iconst 0, 1, 0, 0, 0), (41, .aload_n 0, 1, 0, 0, 0), (42, .getfield 89, 3, 12, 42, 0), (45, .iconst 0, 1, 0, 0, 0), (46, .iaload, 1, 0, 0, 0), (47, .iastore, 1, 0, 0, 0), (48, .aload_n 0, 1, 0, 0, 0), (49, .getfield 95, 3, 12, 44, 0), (52, .iconst 1, 1, 0, 0, 0), (53, .aload_n 0, 1, 0, 0, 0), (54, .getfield 89, 3, 12, 42, 0), (57, .iconst 2, 1, 0, 0, 0), (58, .iaload, 1, 0, 0, 0), (59, .iastore, 1, 0, 0, 0), (60, .aload_n 0, 1, 0, 0, 0), (61, .getfield 95, 3, 12, 44, 0), (64, .iconst 2, 1, 0, 0, 0), (65, .aload_n 0, 1, 0, 0, 0), (66, .getfield 89, 3, 12, 42, 0), (69, .iconst 1, 1, 0, 0, 0), (70, .iaload, 1, 0, 0, 0), (71, .iastore, 1, 0, 0, 0), (72, .aload_n 0, 1, 0, 0, 0), (73, .iconst 3, 1, 0, 0, 0), (74, .putfield 285, 3, 12, 45, 0), (77, .iconst 3, 1, 0, 0, 0), (78, .istore_n 1, 1, 0, 0, 0), (79, .iload_n 1, 1, 0, 0, 0), (80, .aload_n 0, 1, 0, 0, 0), (81, .getfield 104, 3, 12, 0, 0), (84, .if_icmp .ge 343, 3, 427, 0, 0), (87, .aload_n 0, 1, 0, 0, 0), (88, .getfield 89, 3, 12, 42, 0), (91, .iload_n 1, 1, 0, 0, 0), (92, .iaload, 1, 0, 0, 0), (93, .istore_n 2, 1, 0, 0, 0), (94, .iconst 0, 1, 0, 0, 0), (95, .istore_n 3, 1, 0, 0, 0), (96, .aload_n 0, 1, 0, 0, 0), (97, .aload_n 0, 1, 0, 0, 0), (98, .getfield 95, 3, 12, 44, 0), (101, .iload_n 3, 1, 0, 0, 0), (102, .iaload, 1, 0, 0, 0), (103, .iload_n 2, 1, 0, 0, 0), (104, .invokevirtual 135, 3, 128, 3, 12), (107, .ifCond .ge 9, 3, 116, 0, 0), (110, .iinc 3 1, 3, 0, 0, 0), (113, .goto (-17), 3, 96, 0, 0), (116, .aload_n 0, 1, 0, 0, 0), (117, .getfield 285, 3, 12, 45, 0), (120, .iconst 1, 1, 0, 0, 0), (121, .isub, 1, 0, 0, 0), (122, .istore 4, 2, 0, 0, 0), (124, .aload_n 0, 1, 0, 0, 0), (125, .aload_n 0, 1, 0, 0, 0), (126, .getfield 95, 3, 12, 44, 0), (129, .iload 4, 2, 0, 0, 0), (131, .iaload, 1, 0, 0, 0), (132, .iload_n 2, 1, 0, 0, 0), (133, .invokevirtual 135, 3, 128, 3, 12), (136, .ifCond .ge 9, 3, 145, 0, 0), (139, .iinc 4 (-1), 3, 0, 0, 0), (142, .goto (-18), 3, 124, 0, 0), (145, .iconst 0, 1, 0, 0, 0), (146, .istore 5, 2, 0, 0, 0), (148, .iload_n 3, 1, 0, 0, 0), (149, .iconst 1, 1, 0, 0, 0), (150, .iadd, 1, 0, 0, 0), (151, .istore 6, 2, 0, 0, 0), (153, .iload 6, 2, 0, 0, 0), (155, .iload 4, 2, 0, 0, 0), (157, .if_icmp .ge 26, 3, 183, 0, 0), (160, .iload 5, 2, 0, 0, 0), (162, .aload_n 0, 1, 0, 0, 0), (163, .getfield 101, 3, 12, 48, 0), (166, .aload_n 0, 1, 0, 0, 0), (167, .getfield 95, 3, 12, 44, 0), (170, .iload 6, 2, 0, 0, 0), (172, .iaload, 1, 0, 0, 0), (173, .iaload, 1, 0, 0, 0), (174, .ior, 1, 0, 0, 0), (175, .istore 5, 2, 0, 0, 0), (177, .iinc 6 1, 3, 0, 0, 0), (180, .goto (-27), 3, 153, 0, 0), (183, .aload_n 0, 1, 0, 0, 0), (184, .iload 5, 2, 0, 0, 0), (186, .iconst 1, 1, 0, 0, 0), (187, .invokevirtual 314, 3, 183, 3, 12), (190, .iload 4, 2, 0, 0, 0), (192, .istore 6, 2, 0, 0, 0), (194, .iload 6, 2, 0, 0, 0), (196, .aload_n 0, 1, 0, 0, 0), (197, .getfield 285, 3, 12, 45, 0), (200, .if_icmp .ge 26, 3, 226, 0, 0), (203, .aload_n 0, 1, 0, 0, 0), (204, .aload_n 0, 1, 0, 0, 0), (205, .getfield 101, 3, 12, 48, 0), (208, .aload_n 0, 1, 0, 0, 0), (209, .getfield 95, 3, 12, 44, 0), (212, .iload 6, 2, 0, 0, 0), (214, .iaload, 1, 0, 0, 0), (215, .iaload, 1, 0, 0, 0), (216, .iconst 2, 1, 0, 0, 0), (217, .invokevirtual 314, 3, 183, 3, 12), (220, .iinc 6 1, 3, 0, 0, 0), (223, .goto (-29), 3, 194, 0, 0), (226, .aload_n 0, 1, 0, 0, 0), (227, .getfield 95, 3, 12, 44, 0), (230, .iload_n 3, 1, 0, 0, 0), (231, .iaload, 1, 0, 0, 0), (232, .istore 6, 2, 0, 0, 0), (234, .aload_n 0, 1, 0, 0, 0), (235, .getfield 95, 3, 12, 44, 0), (238, .iload 4, 2, 0, 0, 0), (240, .iaload, 1, 0, 0, 0), (241, .istore 7, 2, 0, 0, 0), (243, .aload_n 0, 1, 0, 0, 0), (244, .iload_n 2, 1, 0, 0, 0), (245, .aload_n 0, 1, 0, 0, 0), (246, .getfield 32, 3, 12, 12, 0), (249, .iload 6, 2, 0, 0, 0), (251, .iaload, 1, 0, 0, 0), (252, .aload_n 0, 1, 0, 0, 0), (253, .getfield 32, 3, 12, 12, 0), (256, .iload 7, 2, 0, 0, 0), (258, .iaload, 1, 0, 0, 0), (259, .iadd, 1, 0, 0, 0), (260, .aload_n 0, 1, 0, 0, 0), (261, .getfield 35, 3, 12, 13, 0), (264, .iload 7, 2, 0, 0, 0), (266, .iaload, 1, 0, 0, 0), (267, .iadd, 1, 0, 0, 0), (268, .aload_n 0, 1, 0, 0, 0), (269, .getfield 35, 3, 12, 13, 0), (272, .iload 6, 2, 0, 0, 0), (274, .iaload, 1, 0, 0, 0), (275, .isub, 1, 0, 0, 0), (276, .iconst 2, 1, 0, 0, 0), (277, .idiv, 1, 0, 0, 0), (278, .aload_n 0, 1, 0, 0, 0), (279, .getfield 32, 3, 12, 12, 0), (282, .iload 7, 2, 0, 0, 0), (284, .iaload, 1, 0, 0, 0), (285, .aload_n 0, 1, 0, 0, 0), (286, .getfield 32, 3, 12, 12, 0), (289, .iload 6, 2, 0, 0, 0), (291, .iaload, 1, 0, 0, 0), (292, .isub, 1, 0, 0, 0), (293, .aload_n 0, 1, 0, 0, 0), (294, .getfield 35, 3, 12, 13, 0), (297, .iload 6, 2, 0, 0, 0), (299, .iaload, 1, 0, 0, 0), (300, .iadd, 1, 0, 0, 0), (301, .aload_n 0, 1, 0, 0, 0), (302, .getfield 35, 3, 12, 13, 0), (305, .iload 7, 2, 0, 0, 0), (307, .iaload, 1, 0, 0, 0), (308, .iadd, 1, 0, 0, 0), (309, .iconst 2, 1, 0, 0, 0), (310, .idiv, 1, 0, 0, 0), (311, .invokevirtual 310, 3, 184, 4, 12), (314, .aload_n 0, 1, 0, 0, 0), (315, .getfield 101, 3, 12, 48, 0), (318, .iload_n 2, 1, 0, 0, 0), (319, .dup2, 1, 0, 0, 0), (320, .iaload, 1, 0, 0, 0), (321, .iload 5, 2, 0, 0, 0), (323, .ior, 1, 0, 0, 0), (324, .iastore, 1, 0, 0, 0), (325, .iconst 0, 1, 0, 0, 0), (326, .istore 8, 2, 0, 0, 0), (328, .iload 8, 2, 0, 0, 0), (330, .aload_n 0, 1, 0, 0, 0), (331, .getfield 285, 3, 12, 45, 0), (334, .if_icmp .ge 23, 3, 357, 0, 0), (337, .aload_n 0, 1, 0, 0, 0), (338, .getfield 80, 3, 12, 38, 0), (341, .iload 8, 2, 0, 0, 0), (343, .aload_n 0, 1, 0, 0, 0), (344, .getfield 95, 3, 12, 44, 0), (347, .iload 8, 2, 0, 0, 0), (349, .iaload, 1, 0, 0, 0), (350, .iastore, 1, 0, 0, 0), (351, .iinc 8 1, 3, 0, 0, 0), (354, .goto (-26), 3, 328, 0, 0), (357, .aload_n 0, 1, 0, 0, 0), (358, .getfield 95, 3, 12, 44, 0), (361, .iload_n 3, 1, 0, 0, 0), (362, .iconst 1, 1, 0, 0, 0), (363, .iadd, 1, 0, 0, 0), (364, .iload_n 2, 1, 0, 0, 0), (365, .iastore, 1, 0, 0, 0), (366, .iload 4, 2, 0, 0, 0), (368, .istore 8, 2, 0, 0, 0), (370, .iload 8, 2, 0, 0, 0), (372, .aload_n 0, 1, 0, 0, 0), (373, .getfield 285, 3, 12, 45, 0), (376, .if_icmp .ge 30, 3, 406, 0, 0), (379, .aload_n 0, 1, 0, 0, 0), (380, .getfield 95, 3, 12, 44, 0), (383, .iload_n 3, 1, 0, 0, 0), (384, .iconst 2, 1, 0, 0, 0), (385, .iadd, 1, 0, 0, 0), (386, .iload 8, 2, 0, 0, 0), (388, .iadd, 1, 0, 0, 0), (389, .iload 4, 2, 0, 0, 0), (391, .isub, 1, 0, 0, 0), (392, .aload_n 0, 1, 0, 0, 0), (393, .getfield 80, 3, 12, 38, 0), (396, .iload 8, 2, 0, 0, 0), (398, .iaload, 1, 0, 0, 0), (399, .iastore, 1, 0, 0, 0), (400, .iinc 8 1, 3, 0, 0, 0), (403, .goto (-33), 3, 370, 0, 0), (406, .aload_n 0, 1, 0, 0, 0), (407, .dup, 1, 0, 0, 0), (408, .getfield 285, 3, 12, 45, 0), (411, .iload_n 3, 1, 0, 0, 0), (412, .iconst 2, 1, 0, 0, 0), (413, .iadd, 1, 0, 0, 0), (414, .iload 4, 2, 0, 0, 0), (416, .isub, 1, 0, 0, 0), (417, .iadd, 1, 0, 0, 0), (418, .putfield 285, 3, 12, 45, 0), (421, .iinc 1 1, 3, 0, 0, 0), (424, .goto (-345), 3, 79, 0, 0), (427, .return_, 1, 0, 0, 0)]
def tb_186 : List mi_I := [(0, .aload_n 0, 1, 0, 0, 0), (1, .getfield 104, 3, 12, 0, 0), (4, .iconst 3, 1, 0, 0, 0), (5, .if_icmp .lt 26, 3, 31, 0, 0), (8, .aload_n 0, 1, 0, 0, 0), (9, .getfield 125, 3, 12, 1, 0), (12, .iconst 3, 1, 0, 0, 0), (13, .aload_n 0, 1, 0, 0, 0), (14, .getfield 104, 3, 12, 0, 0), (17, .imul, 1, 0, 0, 0), (18, .bipush 6, 2, 0, 0, 0), (20, .isub, 1, 0, 0, 0), (21, .if_icmp .ne 10, 3, 31, 0, 0), (24, .aload_n 0, 1, 0, 0, 0), (25, .invokevirtual 250, 3, 156, 1, 12), (28, .ifCond .ne 5, 3, 33, 0, 0), (31, .iconst 0, 1, 0, 0, 0), (32, .ireturn, 1, 0, 0, 0), (33, .aload_n 0, 1, 0, 0, 0), (34, .invokevirtual 317, 3, 160, 1, 12), (37, .pop, 1, 0, 0, 0), (38, .aload_n 0, 1, 0, 0, 0), (39, .invokevirtual 320, 3, 182, 1, 12), (42, .aload_n 0, 1, 0, 0, 0), (43, .invokevirtual 323, 3, 185, 1, 12), (46, .iconst 0, 1, 0, 0, 0), (47, .istore_n 1, 1, 0, 0, 0), (48, .iload_n 1, 1, 0, 0, 0), (49, .aload_n 0, 1, 0, 0, 0), (50, .getfield 104, 3, 12, 0, 0), (53, .if_icmp .ge 21, 3, 74, 0, 0), (56, .aload_n 0, 1, 0, 0, 0), (57, .getfield 38, 3, 12, 14, 0), (60, .aload_n 0, 1, 0, 0, 0), (61, .getfield 89, 3, 12, 42, 0), (64, .iload_n 1, 1, 0, 0, 0), (65, .iaload, 1, 0, 0, 0), (66, .iload_n 1, 1, 0, 0, 0), (67, .iastore, 1, 0, 0, 0), (68, .iinc 1 1, 3, 0, 0, 0), (71, .goto (-23), 3, 48, 0, 0), (74, .aload_n 0, 1, 0, 0, 0), (75, .iconst 1, 1, 0, 0, 0), (76, .putfield 119, 3, 12, 15, 0), (79, .iconst 1, 1, 0, 0, 0), (80, .ireturn, 1, 0, 0, 0)]
def tb_187 : List mi_I := [(0, .aload_n 0, 1, 0, 0, 0), (1, .getfield 119, 3, 12, 15, 0), (4, .ifCond .eq 11, 3, 15, 0, 0), (7, .aload_n 0, 1, 0, 0, 0), (8, .iload_n 1, 1, 0, 0, 0), (9, .invokevirtual 131, 3, 125, 2, 12), (12, .ifCond .ne 5, 3, 17, 0, 0), (15, .iconst (-1), 1, 0, 0, 0), (16, .ireturn, 1, 0, 0, 0), (17, .iload_n 2, 1, 0, 0, 0), (18, .ifCond .ne 12, 3, 30, 0, 0), (21, .aload_n 0, 1, 0, 0, 0), (22, .getfield 32, 3, 12, 12, 0), (25, .iload_n 1, 1, 0, 0, 0), (26, .iaload, 1, 0, 0, 0), (27, .goto 32, 3, 59, 0, 0), (30, .iload_n 2, 1, 0, 0, 0), (31, .iconst 1, 1, 0, 0, 0), (32, .if_icmp .ne 12, 3, 44, 0, 0), (35, .aload_n 0, 1, 0, 0, 0), (36, .getfield 35, 3, 12, 13, 0), (39, .iload_n 1, 1, 0, 0, 0), (40, .iaload, 1, 0, 0, 0), (41, .goto 18, 3, 59, 0, 0), (44, .iload_n 2, 1, 0, 0, 0), (45, .iconst 2, 1, 0, 0, 0), (46, .if_icmp .ne 12, 3, 58, 0, 0), (49, .aload_n 0, 1, 0, 0, 0), (50, .getfield 38, 3, 12, 14, 0), (53, .iload_n 1, 1, 0, 0, 0), (54, .iaload, 1, 0, 0, 0), (55, .goto 4, 3, 59, 0, 0), (58, .iconst (-1), 1, 0, 0, 0), (59, .ireturn, 1, 0, 0, 0)]
def tb_188 : List mi_I := [(0, .iconst 0, 1, 0, 0, 0), (1, .istore_n 3, 1, 0, 0, 0), (2, .iconst 0, 1, 0, 0, 0), (3, .istore 4, 2, 0, 0, 0), (5, .iload 4, 2, 0, 0, 0), (7, .aload_n 0, 1, 0, 0, 0), (8, .getfield 104, 3, 12, 0, 0), (11, .if_icmp .ge 43, 3, 54, 0, 0), (14, .iload_n 3, 1, 0, 0, 0), (15, .iload_n 2, 1, 0, 0, 0), (16, .iload 4, 2, 0, 0, 0), (18, .ishr, 1, 0, 0, 0), (19, .iconst 1, 1, 0, 0, 0), (20, .iand, 1, 0, 0, 0), (21, .iconst 1, 1, 0, 0, 0), (22, .if_icmp .ne 23, 3, 45, 0, 0), (25, .iload 4, 2, 0, 0, 0), (27, .iload_n 1, 1, 0, 0, 0), (28, .if_icmp .eq 17, 3, 45, 0, 0), (31, .aload_n 0, 1, 0, 0, 0), (32, .iload 4, 2, 0, 0, 0), (34, .iload_n 1, 1, 0, 0, 0), (35, .invokevirtual 135, 3, 128, 3, 12), (38, .ifCond .lt 7, 3, 45, 0, 0), (41, .iconst 1, 1, 0, 0, 0), (42, .goto 4, 3, 46, 0, 0), (45, .iconst 0, 1, 0, 0, 0), (46, .iadd, 1, 0, 0, 0), (47, .istore_n 3, 1, 0, 0, 0), (48, .iinc 4 1, 3, 0, 0, 0), (51, .goto (-46), 3, 5, 0, 0), (54, .iload_n 3, 1, 0, 0, 0), (55, .ireturn, 1, 0, 0, 0)]
def tb_189 : List mi_I := [(0, .aload_n 0, 1, 0, 0, 0), (1, .invokevirtual 173, 3, 143, 1, 12), (4, .istore_n 1, 1, 0, 0, 0), (5, .iconst 0, 1, 0, 0, 0), (6, .istore_n 2, 1, 0, 0, 0), (7, .iload_n 2, 1, 0, 0, 0), (8, .aload_n 0, 1, 0, 0, 0), (9, .getfield 104, 3, 12, 0, 0), (12, .if_icmp .ge 75, 3, 87, 0, 0), (15, .iconst (-1), 1, 0, 0, 0), (16, .istore_n 3, 1, 0, 0, 0), (17, .iconst 0, 1, 0, 0, 0), (18, .istore 4, 2, 0, 0, 0), (20, .iload 4, 2, 0, 0, 0), (22, .aload_n 0, 1, 0, 0, 0), (23, .getfield 104, 3, 12, 0, 0), (26, .if_icmp .ge 42, 3, 68, 0, 0), (29, .iload_n 1, 1, 0, 0, 0), (30, .iload 4, 2, 0, 0, 0), (32, .ishr, 1, 0, 0, 0), (33, .iconst 1, 1, 0, 0, 0), (34, .iand, 1, 0, 0, 0), (35, .iconst 1, 1, 0, 0, 0), (36, .if_icmp .ne 26, 3, 62, 0, 0), (39, .iload_n 3, 1, 0, 0, 0), (40, .ifCond .lt 19, 3, 59, 0, 0), (43, .aload_n 0, 1, 0, 0, 0), (44, .iload 4, 2, 0, 0, 0), (46, .iload_n 1, 1, 0, 0, 0), (47, .invokevirtual 326, 3, 188, 3, 12), (50, .aload_n 0, 1, 0, 0, 0), (51, .iload_n 3, 1, 0, 0, 0), (52, .iload_n 1, 1, 0, 0, 0), (53, .invokevirtual 326, 3, 188, 3, 12), (56, .if_icmp .ge 6, 3, 62, 0, 0), (59, .iload 4, 2, 0, 0, 0), (61, .istore_n 3, 1, 0, 0, 0), (62, .iinc 4 1, 3, 0, 0, 0), (65, .goto (-45), 3, 20, 0, 0), (68, .aload_n 0, 1, 0, 0, 0), (69, .getfield 53, 3, 12, 21, 0), (72, .iload_n 2, 1, 0, 0, 0), (73, .iload_n 3, 1, 0, 0, 0), (74, .iastore, 1, 0, 0, 0), (75, .iload_n 1, 1, 0, 0, 0), (76, .iconst 1, 1, 0, 0, 0), (77, .iload_n 3, 1, 0, 0, 0), (78, .ishl, 1, 0, 0, 0), (79, .ixor, 1, 0, 0, 0), (80, .istore_n 1, 1, 0, 0, 0), (81, .iinc 2 1, 3, 0, 0, 0), (84, .goto (-77), 3, 7, 0, 0), (87, .iconst 0, 1, 0, 0, 0), (88, .istore_n 2, 1, 0, 0, 0), (89, .iconst 0, 1, 0, 0, 0), (90, .istore_n 3, 1, 0, 0, 0), (91, .iload_n 3, 1, 0, 0, 0), (92, .aload_n 0, 1, 0, 0, 0), (93, .getfield 104, 3, 12, 0, 0), (96, .if_icmp .ge 16, 3, 112, 0, 0), (99, .aload_n 0, 1, 0, 0, 0), (100, .getfield 41, 3, 12, 16, 0), (103, .iload_n 3, 1, 0, 0, 0), (104, .iconst (-1), 1, 0, 0, 0), (105, .iastore, 1, 0, 0, 0), (106, .iinc 3 1, 3, 0, 0, 0), (109, .goto (-18), 3, 91, 0, 0), (112, .aload_n 0, 1, 0, 0, 0), (113, .getfield 104, 3, 12, 0, 0), (116, .iconst 1, 1, 0, 0, 0), (117, .isub, 1, 0, 0, 0), (118, .istore_n 3, 1, 0, 0, 0), (119, .iload_n 3, 1, 0, 0, 0), (120, .ifCond .lt 119, 3, 239, 0, 0), (123, .iconst 0, 1, 0, 0, 0), (124, .istore 4, 2, 0, 0, 0), (126, .iconst 0, 1, 0, 0, 0), (127, .istore 5, 2, 0, 0, 0), (129, .iload 5, 2, 0, 0, 0), (131, .aload_n 0, 1, 0, 0, 0), (132, .getfield 104, 3, 12, 0, 0), (135, .if_icmp .ge 48, 3, 183, 0, 0), (138, .aload_n 0, 1, 0, 0, 0), (139, .getfield 41, 3, 12, 16, 0), (142, .iload 5, 2, 0, 0, 0), (144, .iaload, 1, 0, 0, 0), (145, .ifCond .lt 32, 3, 177, 0, 0), (148, .aload_n 0, 1, 0, 0, 0), (149, .iload 5, 2, 0, 0, 0), (151, .aload_n 0, 1, 0, 0, 0), (152, .getfield 53, 3, 12, 21, 0), (155, .iload_n 3, 1, 0, 0, 0), (156, .iaload, 1, 0, 0, 0), (157, .invokevirtual 135, 3, 128, 3, 12), (160, .ifCond .lt 17, 3, 177, 0, 0), (163, .iload 4, 2, 0, 0, 0), (165, .iconst 1, 1, 0, 0, 0), (166, .aload_n 0, 1, 0, 0, 0), (167, .getfield 41, 3, 12, 16, 0), (170, .iload 5, 2, 0, 0, 0), (172, .iaload, 1, 0, 0, 0), (173, .ishl, 1, 0, 0, 0), (174, .ior, 1, 0, 0, 0), (175, .istore 4, 2, 0, 0, 0), (177, .iinc 5 1, 3, 0, 0, 0), (180, .goto (-51), 3, 129, 0, 0), (183, .iconst 0, 1, 0, 0, 0), (184, .istore 5, 2, 0, 0, 0), (186, .iload 4, 2, 0, 0, 0), (188, .iload 5, 2, 0, 0, 0), (190, .ishr, 1, 0, 0, 0), (191, .iconst 1, 1, 0, 0, 0), (192, .iand, 1, 0, 0, 0), (193, .iconst 1, 1, 0, 0, 0), (194, .if_icmp .ne 9, 3, 203, 0, 0), (197, .iinc 5 1, 3, 0, 0, 0), (200, .goto (-14), 3, 186, 0, 0), (203, .aload_n 0, 1, 0, 0, 0), (204, .getfield 41, 3, 12, 16, 0), (207, .aload_n 0, 1, 0, 0, 0), (208, .getfield 53, 3, 12, 21, 0), (211, .iload_n 3, 1, 0, 0, 0), (212, .iaload, 1, 0, 0, 0), (213, .iload 5, 2, 0, 0, 0), (215, .iastore, 1, 0, 0, 0), (216, .iload 5, 2, 0, 0, 0), (218, .iconst 1, 1, 0, 0, 0), (219, .iadd, 1, 0, 0, 0), (220, .iload_n 2, 1, 0, 0, 0), (221, .if_icmp .le 10, 3, 231, 0, 0), (224, .iload 5, 2, 0, 0, 0), (226, .iconst 1, 1, 0, 0, 0), (227, .iadd, 1, 0, 0, 0), (228, .goto 4, 3, 232, 0, 0), (231, .iload_n 2, 1, 0, 0, 0), (232, .istore_n 2, 1, 0, 0, 0), (233, .iinc 3 (-1), 3, 0, 0, 0), (236, .goto (-117), 3, 119, 0, 0), (239, .aload_n 0, 1, 0, 0, 0), (240, .iconst 1, 1, 0, 0, 0), (241, .putfield 122, 3, 12, 17, 0), (244, .iload_n 2, 1, 0, 0, 0), (245, .ireturn, 1, 0, 0, 0)]
def tb_190 : List mi_I := [(0, .aload_n 0, 1, 0, 0, 0), (1, .getfield 122, 3, 12, 17, 0), (4, .ifCond .eq 20, 3, 24, 0, 0), (7, .aload_n 0, 1, 0, 0, 0), (8, .iload_n 1, 1, 0, 0, 0), (9, .invokevirtual 131, 3, 125, 2, 12), (12, .ifCond .eq 12, 3, 24, 0, 0), (15, .aload_n 0, 1, 0, 0, 0), (16, .getfield 41, 3, 12, 16, 0), (19, .iload_n 1, 1, 0, 0, 0), (20, .iaload, 1, 0, 0, 0), (21, .goto 4, 3, 25, 0, 0), (24, .iconst (-1), 1, 0, 0, 0), (25, .ireturn, 1, 0, 0, 0)]
def tb_191 : List mi_I := [(0, .iload_n 0, 1, 0, 0, 0), (1, .iload_n 0, 1, 0, 0, 0), (2, .iconst 1, 1, 0, 0, 0), (3, .iushr, 1, 0, 0, 0), (4, .ldc_w 265, 3, 1431655765, 0, 0), (7, .iand, 1, 0, 0, 0), (8, .isub, 1, 0, 0, 0), (9, .istore_n 0, 1, 0, 0, 0), (10, .iload_n 0, 1, 0, 0, 0), (11, .ldc_w 266, 3, 858993459, 0, 0), (14, .iand, 1, 0, 0, 0), (15, .iload_n 0, 1, 0, 0, 0), (16, .iconst 2, 1, 0, 0, 0), (17, .iushr, 1, 0, 0, 0), (18, .ldc_w 266, 3, 858993459, 0, 0), (21, .iand, 1, 0, 0, 0), (22, .iadd, 1, 0, 0, 0), (23, .istore_n 0, 1, 0, 0, 0), (24, .iload_n 0, 1, 0, 0, 0), (25, .iload_n 0, 1, 0, 0, 0), (26, .iconst 4, 1, 0, 0, 0), (27, .iushr, 1, 0, 0, 0), (28, .iadd, 1, 0, 0, 0), (29, .ldc_w 267, 3, 252645135, 0, 0), (32, .iand, 1, 0, 0, 0), (33, .istore_n 0, 1, 0, 0, 0), (34, .iload_n 0, 1, 0, 0, 0), (35, .iload_n 0, 1, 0, 0, 0), (36, .bipush 8, 2, 0, 0, 0), (38, .iushr, 1, 0, 0, 0), (39, .iadd, 1, 0, 0, 0), (40, .istore_n 0, 1, 0, 0, 0), (41, .iload_n 0, 1, 0, 0, 0), (42, .iload_n 0, 1, 0, 0, 0), (43, .bipush 16, 2, 0, 0, 0), (45, .iushr, 1, 0, 0, 0), (46, .iadd, 1, 0, 0, 0), (47, .istore_n 0, 1, 0, 0, 0), (48, .iload_n 0, 1, 0, 0, 0), (49, .bipush 63, 2, 0, 0, 0), (51, .iand, 1, 0, 0, 0), (52, .ireturn, 1, 0, 0, 0)]
def tb_192 : List mi_I := [(0, .iconst 0, 1, 0, 0, 0), (1, .istore_n 2, 1, 0, 0, 0), (2, .aload_n 0, 1, 0, 0, 0), (3, .arraylength, 1, 0, 0, 0), (4, .istore_n 3, 1, 0, 0, 0), (5, .iload_n 2, 1, 0, 0, 0), (6, .iload_n 3, 1, 0, 0, 0), (7, .if_icmp .ge 13, 3, 20, 0, 0), (10, .aload_n 0, 1, 0, 0, 0), (11, .iload_n 2, 1, 0, 0, 0), (12, .iload_n 1, 1, 0, 0, 0), (13, .iastore, 1, 0, 0, 0), (14, .iinc 2 1, 3, 0, 0, 0), (17, .goto (-12), 3, 5, 0, 0), (20, .return_, 1, 0, 0, 0)]
end
section
theorem dc_0 : ∀ e ∈ tb_0, decode cX0_init e.1 = .ok (e.2.1, e.2.2.1) := by decide +kernel
theorem dc_1 : ∀ e ∈ tb_1, decode cX0_of e.1 = .ok (e.2.1, e.2.2.1) := by decide +kernel
theorem dc_2 : ∀ e ∈ tb_2, decode cX0_find e.1 = .ok (e.2.1, e.2.2.1) := by decide +kernel
theorem dc_3 : ∀ e ∈ tb_3, decode cX0_growTree e.1 = .ok (e.2.1, e.2.2.1) := by decide +kernel
theorem dc_4 : ∀ e ∈ tb_4, decode cX0_reach e.1 = .ok (e.2.1, e.2.2.1) := by decide +kernel
theorem dc_5 : ∀ e ∈ tb_5, decode cX0_deeper e.1 = .ok (e.2.1, e.2.2.1) := by decide +kernel
theorem dc_6 : ∀ e ∈ tb_6, decode cX0_closeRing e.1 = .ok (e.2.1, e.2.2.1) := by decide +kernel
theorem dc_7 : ∀ e ∈ tb_7, decode cX0_merge e.1 = .ok (e.2.1, e.2.2.1) := by decide +kernel
theorem dc_8 : ∀ e ∈ tb_8, decode cX0_standingFor e.1 = .ok (e.2.1, e.2.2.1) := by decide +kernel
theorem dc_9 : ∀ e ∈ tb_9, decode cX0_giveNumbers e.1 = .ok (e.2.1, e.2.2.1) := by decide +kernel
theorem dc_10 : ∀ e ∈ tb_10, decode cX1_init e.1 = .ok (e.2.1, e.2.2.1) := by decide +kernel
theorem dc_11 : ∀ e ∈ tb_11, decode cX1_make e.1 = .ok (e.2.1, e.2.2.1) := by decide +kernel
theorem dc_12 : ∀ e ∈ tb_12, decode cX1_takeAll e.1 = .ok (e.2.1, e.2.2.1) := by decide +kernel
theorem dc_13 : ∀ e ∈ tb_13, decode cX1_leastTied e.1 = .ok (e.2.1, e.2.2.1) := by decide +kernel
theorem dc_14 : ∀ e ∈ tb_14, decode cX1_leastFree e.1 = .ok (e.2.1, e.2.2.1) := by decide +kernel
theorem dc_15 : ∀ e ∈ tb_15, decode cX2_init e.1 = .ok (e.2.1, e.2.2.1) := by decide +kernel
theorem dc_16 : ∀ e ∈ tb_16, decode cX2_make e.1 = .ok (e.2.1, e.2.2.1) := by decide +kernel
theorem dc_17 : ∀ e ∈ tb_17, decode cX2_startLine e.1 = .ok (e.2.1, e.2.2.1) := by decide +kernel
theorem dc_18 : ∀ e ∈ tb_18, decode cX2_put e.1 = .ok (e.2.1, e.2.2.1) := by decide +kernel
theorem dc_19 : ∀ e ∈ tb_19, decode cX2_findOrder e.1 = .ok (e.2.1, e.2.2.1) := by decide +kernel
theorem dc_20 : ∀ e ∈ tb_20, decode cX2_findFree e.1 = .ok (e.2.1, e.2.2.1) := by decide +kernel
theorem dc_21 : ∀ e ∈ tb_21, decode cX2_takeFromRim e.1 = .ok (e.2.1, e.2.2.1) := by decide +kernel
theorem dc_22 : ∀ e ∈ tb_22, decode cX2_raise e.1 = .ok (e.2.1, e.2.2.1) := by decide +kernel
theorem dc_23 : ∀ e ∈ tb_23, decode cX2_carriedByLine e.1 = .ok (e.2.1, e.2.2.1) := by decide +kernel
theorem dc_24 : ∀ e ∈ tb_24, decode cX2_move e.1 = .ok (e.2.1, e.2.2.1) := by decide +kernel
theorem dc_25 : ∀ e ∈ tb_25, decode cX2_putAbove e.1 = .ok (e.2.1, e.2.2.1) := by decide +kernel
theorem dc_26 : ∀ e ∈ tb_26, decode cX3_init e.1 = .ok (e.2.1, e.2.2.1) := by decide +kernel
theorem dc_27 : ∀ e ∈ tb_27, decode cX3_lays e.1 = .ok (e.2.1, e.2.2.1) := by decide +kernel
theorem dc_28 : ∀ e ∈ tb_28, decode cX3_takeBlock e.1 = .ok (e.2.1, e.2.2.1) := by decide +kernel
theorem dc_29 : ∀ e ∈ tb_29, decode cX3_layFirstRing e.1 = .ok (e.2.1, e.2.2.1) := by decide +kernel
theorem dc_30 : ∀ e ∈ tb_30, decode cX3_laysRest e.1 = .ok (e.2.1, e.2.2.1) := by decide +kernel
theorem dc_31 : ∀ e ∈ tb_31, decode cX3_findWay e.1 = .ok (e.2.1, e.2.2.1) := by decide +kernel
theorem dc_32 : ∀ e ∈ tb_32, decode cX3_markWay e.1 = .ok (e.2.1, e.2.2.1) := by decide +kernel
theorem dc_33 : ∀ e ∈ tb_33, decode cX3_choosePart e.1 = .ok (e.2.1, e.2.2.1) := by decide +kernel
theorem dc_34 : ∀ e ∈ tb_34, decode cX3_weigh e.1 = .ok (e.2.1, e.2.2.1) := by decide +kernel
theorem dc_35 : ∀ e ∈ tb_35, decode cX3_spread e.1 = .ok (e.2.1, e.2.2.1) := by decide +kernel
theorem dc_36 : ∀ e ∈ tb_36, decode cX3_tellTurn e.1 = .ok (e.2.1, e.2.2.1) := by decide +kernel
theorem dc_37 : ∀ e ∈ tb_37, decode cX3_tellRing e.1 = .ok (e.2.1, e.2.2.1) := by decide +kernel
theorem dc_38 : ∀ e ∈ tb_38, decode cX3_tellAround e.1 = .ok (e.2.1, e.2.2.1) := by decide +kernel
theorem dc_39 : ∀ e ∈ tb_39, decode cX4_init e.1 = .ok (e.2.1, e.2.2.1) := by decide +kernel
theorem dc_40 : ∀ e ∈ tb_40, decode cX4_begin e.1 = .ok (e.2.1, e.2.2.1) := by decide +kernel
theorem dc_41 : ∀ e ∈ tb_41, decode cX4_copy e.1 = .ok (e.2.1, e.2.2.1) := by decide +kernel
theorem dc_42 : ∀ e ∈ tb_42, decode cX4_hasVertex e.1 = .ok (e.2.1, e.2.2.1) := by decide +kernel
theorem dc_43 : ∀ e ∈ tb_43, decode cX4_hasEdge e.1 = .ok (e.2.1, e.2.2.1) := by decide +kernel
theorem dc_44 : ∀ e ∈ tb_44, decode cX4_low e.1 = .ok (e.2.1, e.2.2.1) := by decide +kernel
theorem dc_45 : ∀ e ∈ tb_45, decode cX4_high e.1 = .ok (e.2.1, e.2.2.1) := by decide +kernel
theorem dc_46 : ∀ e ∈ tb_46, decode cX4_around e.1 = .ok (e.2.1, e.2.2.1) := by decide +kernel
theorem dc_47 : ∀ e ∈ tb_47, decode cX4_aroundAll e.1 = .ok (e.2.1, e.2.2.1) := by decide +kernel
theorem dc_48 : ∀ e ∈ tb_48, decode cX4_joined e.1 = .ok (e.2.1, e.2.2.1) := by decide +kernel
theorem dc_49 : ∀ e ∈ tb_49, decode cX4_takes e.1 = .ok (e.2.1, e.2.2.1) := by decide +kernel
theorem dc_50 : ∀ e ∈ tb_50, decode cX4_add e.1 = .ok (e.2.1, e.2.2.1) := by decide +kernel
theorem dc_51 : ∀ e ∈ tb_51, decode cX4_remove e.1 = .ok (e.2.1, e.2.2.1) := by decide +kernel
theorem dc_52 : ∀ e ∈ tb_52, decode cX4_lonely e.1 = .ok (e.2.1, e.2.2.1) := by decide +kernel
theorem dc_53 : ∀ e ∈ tb_53, decode cX4_isFull e.1 = .ok (e.2.1, e.2.2.1) := by decide +kernel
theorem dc_54 : ∀ e ∈ tb_54, decode cX5_init e.1 = .ok (e.2.1, e.2.2.1) := by decide +kernel
theorem dc_55 : ∀ e ∈ tb_55, decode cX5_has e.1 = .ok (e.2.1, e.2.2.1) := by decide +kernel
theorem dc_56 : ∀ e ∈ tb_56, decode cX5_size e.1 = .ok (e.2.1, e.2.2.1) := by decide +kernel
theorem dc_57 : ∀ e ∈ tb_57, decode cX5_get e.1 = .ok (e.2.1, e.2.2.1) := by decide +kernel
theorem dc_58 : ∀ e ∈ tb_58, decode cX5_placeBehind e.1 = .ok (e.2.1, e.2.2.1) := by decide +kernel
theorem dc_59 : ∀ e ∈ tb_59, decode cX5_fitting e.1 = .ok (e.2.1, e.2.2.1) := by decide +kernel
theorem dc_60 : ∀ e ∈ tb_60, decode cX5_begin e.1 = .ok (e.2.1, e.2.2.1) := by decide +kernel
theorem dc_61 : ∀ e ∈ tb_61, decode cX5_part e.1 = .ok (e.2.1, e.2.2.1) := by decide +kernel
theorem dc_62 : ∀ e ∈ tb_62, decode cX6_init e.1 = .ok (e.2.1, e.2.2.1) := by decide +kernel
theorem dc_63 : ∀ e ∈ tb_63, decode cX6_size e.1 = .ok (e.2.1, e.2.2.1) := by decide +kernel
theorem dc_64 : ∀ e ∈ tb_64, decode cX6_clear e.1 = .ok (e.2.1, e.2.2.1) := by decide +kernel
theorem dc_65 : ∀ e ∈ tb_65, decode cX6_add e.1 = .ok (e.2.1, e.2.2.1) := by decide +kernel
theorem dc_66 : ∀ e ∈ tb_66, decode cX6_get e.1 = .ok (e.2.1, e.2.2.1) := by decide +kernel
theorem dc_67 : ∀ e ∈ tb_67, decode cX6_find e.1 = .ok (e.2.1, e.2.2.1) := by decide +kernel
theorem dc_68 : ∀ e ∈ tb_68, decode cX6_exchange e.1 = .ok (e.2.1, e.2.2.1) := by decide +kernel
theorem dc_69 : ∀ e ∈ tb_69, decode cX6_placeBehind e.1 = .ok (e.2.1, e.2.2.1) := by decide +kernel
theorem dc_70 : ∀ e ∈ tb_70, decode cX6_copy e.1 = .ok (e.2.1, e.2.2.1) := by decide +kernel
theorem dc_71 : ∀ e ∈ tb_71, decode cX6_addPart e.1 = .ok (e.2.1, e.2.2.1) := by decide +kernel
theorem dc_72 : ∀ e ∈ tb_72, decode cX6_addBackwards e.1 = .ok (e.2.1, e.2.2.1) := by decide +kernel
theorem dc_73 : ∀ e ∈ tb_73, decode cX6_addArc e.1 = .ok (e.2.1, e.2.2.1) := by decide +kernel
theorem dc_74 : ∀ e ∈ tb_74, decode cX6_bits e.1 = .ok (e.2.1, e.2.2.1) := by decide +kernel
theorem dc_75 : ∀ e ∈ tb_75, decode cX7_init e.1 = .ok (e.2.1, e.2.2.1) := by decide +kernel
theorem dc_76 : ∀ e ∈ tb_76, decode cX7_seek e.1 = .ok (e.2.1, e.2.2.1) := by decide +kernel
theorem dc_77 : ∀ e ∈ tb_77, decode cX7_goStraight e.1 = .ok (e.2.1, e.2.2.1) := by decide +kernel
theorem dc_78 : ∀ e ∈ tb_78, decode cX7_traceBack e.1 = .ok (e.2.1, e.2.2.1) := by decide +kernel
theorem dc_79 : ∀ e ∈ tb_79, decode cX8_init e.1 = .ok (e.2.1, e.2.2.1) := by decide +kernel
theorem dc_80 : ∀ e ∈ tb_80, decode cX8_find e.1 = .ok (e.2.1, e.2.2.1) := by decide +kernel
theorem dc_81 : ∀ e ∈ tb_81, decode cX8_takeRest e.1 = .ok (e.2.1, e.2.2.1) := by decide +kernel
theorem dc_82 : ∀ e ∈ tb_82, decode cX8_sort e.1 = .ok (e.2.1, e.2.2.1) := by decide +kernel
theorem dc_83 : ∀ e ∈ tb_83, decode cX9_init e.1 = .ok (e.2.1, e.2.2.1) := by decide +kernel
theorem dc_84 : ∀ e ∈ tb_84, decode cX9_clear e.1 = .ok (e.2.1, e.2.2.1) := by decide +kernel
theorem dc_85 : ∀ e ∈ tb_85, decode cX9_copy e.1 = .ok (e.2.1, e.2.2.1) := by decide +kernel
theorem dc_86 : ∀ e ∈ tb_86, decode cX9_add e.1 = .ok (e.2.1, e.2.2.1) := by decide +kernel
theorem dc_87 : ∀ e ∈ tb_87, decode cX9_neighbour e.1 = .ok (e.2.1, e.2.2.1) := by decide +kernel
theorem dc_88 : ∀ e ∈ tb_88, decode cX9_exchange e.1 = .ok (e.2.1, e.2.2.1) := by decide +kernel
theorem dc_89 : ∀ e ∈ tb_89, decode cX9_behind e.1 = .ok (e.2.1, e.2.2.1) := by decide +kernel
theorem dc_90 : ∀ e ∈ tb_90, decode cX10_init e.1 = .ok (e.2.1, e.2.2.1) := by decide +kernel
theorem dc_91 : ∀ e ∈ tb_91, decode cX10_find e.1 = .ok (e.2.1, e.2.2.1) := by decide +kernel
theorem dc_92 : ∀ e ∈ tb_92, decode cX10_nameDarts e.1 = .ok (e.2.1, e.2.2.1) := by decide +kernel
theorem dc_93 : ∀ e ∈ tb_93, decode cX10_goRound e.1 = .ok (e.2.1, e.2.2.1) := by decide +kernel
theorem dc_94 : ∀ e ∈ tb_94, decode cX10_beginOf e.1 = .ok (e.2.1, e.2.2.1) := by decide +kernel
theorem dc_95 : ∀ e ∈ tb_95, decode cX10_beginning e.1 = .ok (e.2.1, e.2.2.1) := by decide +kernel
theorem dc_96 : ∀ e ∈ tb_96, decode cX11_init e.1 = .ok (e.2.1, e.2.2.1) := by decide +kernel
theorem dc_97 : ∀ e ∈ tb_97, decode cX11_graph e.1 = .ok (e.2.1, e.2.2.1) := by decide +kernel
theorem dc_98 : ∀ e ∈ tb_98, decode cX11_join e.1 = .ok (e.2.1, e.2.2.1) := by decide +kernel
theorem dc_99 : ∀ e ∈ tb_99, decode cX11_cut e.1 = .ok (e.2.1, e.2.2.1) := by decide +kernel
theorem dc_100 : ∀ e ∈ tb_100, decode cX11_edge e.1 = .ok (e.2.1, e.2.2.1) := by decide +kernel
theorem dc_101 : ∀ e ∈ tb_101, decode cX11_about e.1 = .ok (e.2.1, e.2.2.1) := by decide +kernel
theorem dc_102 : ∀ e ∈ tb_102, decode cX11_lay e.1 = .ok (e.2.1, e.2.2.1) := by decide +kernel
theorem dc_103 : ∀ e ∈ tb_103, decode cX11_turn e.1 = .ok (e.2.1, e.2.2.1) := by decide +kernel
theorem dc_104 : ∀ e ∈ tb_104, decode cX11_swap e.1 = .ok (e.2.1, e.2.2.1) := by decide +kernel
theorem dc_105 : ∀ e ∈ tb_105, decode cX11_faces e.1 = .ok (e.2.1, e.2.2.1) := by decide +kernel
theorem dc_106 : ∀ e ∈ tb_106, decode cX11_face e.1 = .ok (e.2.1, e.2.2.1) := by decide +kernel
theorem dc_107 : ∀ e ∈ tb_107, decode cX11_genus e.1 = .ok (e.2.1, e.2.2.1) := by decide +kernel
theorem dc_108 : ∀ e ∈ tb_108, decode cX11_knot e.1 = .ok (e.2.1, e.2.2.1) := by decide +kernel
theorem dc_109 : ∀ e ∈ tb_109, decode cX11_may e.1 = .ok (e.2.1, e.2.2.1) := by decide +kernel
theorem dc_110 : ∀ e ∈ tb_110, decode cX11_fill e.1 = .ok (e.2.1, e.2.2.1) := by decide +kernel
theorem dc_111 : ∀ e ∈ tb_111, decode cX11_draw e.1 = .ok (e.2.1, e.2.2.1) := by decide +kernel
theorem dc_112 : ∀ e ∈ tb_112, decode cX11_at e.1 = .ok (e.2.1, e.2.2.1) := by decide +kernel
theorem dc_113 : ∀ e ∈ tb_113, decode cX11_colour e.1 = .ok (e.2.1, e.2.2.1) := by decide +kernel
theorem dc_114 : ∀ e ∈ tb_114, decode cX11_colourOf e.1 = .ok (e.2.1, e.2.2.1) := by decide +kernel
theorem dc_115 : ∀ e ∈ tb_115, decode cX11_forget e.1 = .ok (e.2.1, e.2.2.1) := by decide +kernel
theorem dc_116 : ∀ e ∈ tb_116, decode cX11_fits e.1 = .ok (e.2.1, e.2.2.1) := by decide +kernel
theorem dc_117 : ∀ e ∈ tb_117, decode cX11_layOut e.1 = .ok (e.2.1, e.2.2.1) := by decide +kernel
theorem dc_118 : ∀ e ∈ tb_118, decode cX11_addIfItFits e.1 = .ok (e.2.1, e.2.2.1) := by decide +kernel
theorem dc_119 : ∀ e ∈ tb_119, decode cX11_canBe e.1 = .ok (e.2.1, e.2.2.1) := by decide +kernel
theorem dc_120 : ∀ e ∈ tb_120, decode cX11_bit e.1 = .ok (e.2.1, e.2.2.1) := by decide +kernel
theorem dc_121 : ∀ e ∈ tb_121, decode cX11_in e.1 = .ok (e.2.1, e.2.2.1) := by decide +kernel
theorem dc_122 : ∀ e ∈ tb_122, decode cX11_leastOf e.1 = .ok (e.2.1, e.2.2.1) := by decide +kernel
theorem dc_123 : ∀ e ∈ tb_123, decode cX12_init e.1 = .ok (e.2.1, e.2.2.1) := by decide +kernel
theorem dc_124 : ∀ e ∈ tb_124, decode cX12_isIn e.1 = .ok (e.2.1, e.2.2.1) := by decide +kernel
theorem dc_125 : ∀ e ∈ tb_125, decode cX12_isVertex e.1 = .ok (e.2.1, e.2.2.1) := by decide +kernel
theorem dc_126 : ∀ e ∈ tb_126, decode cX12_forget e.1 = .ok (e.2.1, e.2.2.1) := by decide +kernel
theorem dc_127 : ∀ e ∈ tb_127, decode cX12_graph e.1 = .ok (e.2.1, e.2.2.1) := by decide +kernel
theorem dc_128 : ∀ e ∈ tb_128, decode cX12_edgeOf e.1 = .ok (e.2.1, e.2.2.1) := by decide +kernel
theorem dc_129 : ∀ e ∈ tb_129, decode cX12_put e.1 = .ok (e.2.1, e.2.2.1) := by decide +kernel
theorem dc_130 : ∀ e ∈ tb_130, decode cX12_join e.1 = .ok (e.2.1, e.2.2.1) := by decide +kernel
theorem dc_131 : ∀ e ∈ tb_131, decode cX12_cut e.1 = .ok (e.2.1, e.2.2.1) := by decide +kernel
theorem dc_132 : ∀ e ∈ tb_132, decode cX12_all e.1 = .ok (e.2.1, e.2.2.1) := by decide +kernel
theorem dc_133 : ∀ e ∈ tb_133, decode cX12_other e.1 = .ok (e.2.1, e.2.2.1) := by decide +kernel
theorem dc_134 : ∀ e ∈ tb_134, decode cX12_forest e.1 = .ok (e.2.1, e.2.2.1) := by decide +kernel
theorem dc_135 : ∀ e ∈ tb_135, decode cX12_spread e.1 = .ok (e.2.1, e.2.2.1) := by decide +kernel
theorem dc_136 : ∀ e ∈ tb_136, decode cX12_unite e.1 = .ok (e.2.1, e.2.2.1) := by decide +kernel
theorem dc_137 : ∀ e ∈ tb_137, decode cX12_makeBlocks e.1 = .ok (e.2.1, e.2.2.1) := by decide +kernel
theorem dc_138 : ∀ e ∈ tb_138, decode cX12_number e.1 = .ok (e.2.1, e.2.2.1) := by decide +kernel
theorem dc_139 : ∀ e ∈ tb_139, decode cX12_isHere e.1 = .ok (e.2.1, e.2.2.1) := by decide +kernel
theorem dc_140 : ∀ e ∈ tb_140, decode cX12_sizeOf e.1 = .ok (e.2.1, e.2.2.1) := by decide +kernel
theorem dc_141 : ∀ e ∈ tb_141, decode cX12_leastEdge e.1 = .ok (e.2.1, e.2.2.1) := by decide +kernel
theorem dc_142 : ∀ e ∈ tb_142, decode cX12_find e.1 = .ok (e.2.1, e.2.2.1) := by decide +kernel
theorem dc_143 : ∀ e ∈ tb_143, decode cX12_allVertices e.1 = .ok (e.2.1, e.2.2.1) := by decide +kernel
theorem dc_144 : ∀ e ∈ tb_144, decode cX12_takeWay e.1 = .ok (e.2.1, e.2.2.1) := by decide +kernel
theorem dc_145 : ∀ e ∈ tb_145, decode cX12_firstRings e.1 = .ok (e.2.1, e.2.2.1) := by decide +kernel
theorem dc_146 : ∀ e ∈ tb_146, decode cX12_makeParts e.1 = .ok (e.2.1, e.2.2.1) := by decide +kernel
theorem dc_147 : ∀ e ∈ tb_147, decode cX12_ringSet e.1 = .ok (e.2.1, e.2.2.1) := by decide +kernel
theorem dc_148 : ∀ e ∈ tb_148, decode cX12_fit e.1 = .ok (e.2.1, e.2.2.1) := by decide +kernel
theorem dc_149 : ∀ e ∈ tb_149, decode cX12_nextPart e.1 = .ok (e.2.1, e.2.2.1) := by decide +kernel
theorem dc_150 : ∀ e ∈ tb_150, decode cX12_layPart e.1 = .ok (e.2.1, e.2.2.1) := by decide +kernel
theorem dc_151 : ∀ e ∈ tb_151, decode cX12_markWay e.1 = .ok (e.2.1, e.2.2.1) := by decide +kernel
theorem dc_152 : ∀ e ∈ tb_152, decode cX12_layBlock e.1 = .ok (e.2.1, e.2.2.1) := by decide +kernel
theorem dc_153 : ∀ e ∈ tb_153, decode cX12_layAll e.1 = .ok (e.2.1, e.2.2.1) := by decide +kernel
theorem dc_154 : ∀ e ∈ tb_154, decode cX12_tellNeighbours e.1 = .ok (e.2.1, e.2.2.1) := by decide +kernel
theorem dc_155 : ∀ e ∈ tb_155, decode cX12_turnOf e.1 = .ok (e.2.1, e.2.2.1) := by decide +kernel
theorem dc_156 : ∀ e ∈ tb_156, decode cX12_isPlane e.1 = .ok (e.2.1, e.2.2.1) := by decide +kernel
theorem dc_157 : ∀ e ∈ tb_157, decode cX12_edge e.1 = .ok (e.2.1, e.2.2.1) := by decide +kernel
theorem dc_158 : ∀ e ∈ tb_158, decode cX12_lonely e.1 = .ok (e.2.1, e.2.2.1) := by decide +kernel
theorem dc_159 : ∀ e ∈ tb_159, decode cX12_about e.1 = .ok (e.2.1, e.2.2.1) := by decide +kernel
theorem dc_160 : ∀ e ∈ tb_160, decode cX12_lay e.1 = .ok (e.2.1, e.2.2.1) := by decide +kernel
theorem dc_161 : ∀ e ∈ tb_161, decode cX12_makeKnot e.1 = .ok (e.2.1, e.2.2.1) := by decide +kernel
theorem dc_162 : ∀ e ∈ tb_162, decode cX12_turn e.1 = .ok (e.2.1, e.2.2.1) := by decide +kernel
theorem dc_163 : ∀ e ∈ tb_163, decode cX12_swap e.1 = .ok (e.2.1, e.2.2.1) := by decide +kernel
theorem dc_164 : ∀ e ∈ tb_164, decode cX12_tail e.1 = .ok (e.2.1, e.2.2.1) := by decide +kernel
theorem dc_165 : ∀ e ∈ tb_165, decode cX12_dart e.1 = .ok (e.2.1, e.2.2.1) := by decide +kernel
theorem dc_166 : ∀ e ∈ tb_166, decode cX12_following e.1 = .ok (e.2.1, e.2.2.1) := by decide +kernel
theorem dc_167 : ∀ e ∈ tb_167, decode cX12_makeFaces e.1 = .ok (e.2.1, e.2.2.1) := by decide +kernel
theorem dc_168 : ∀ e ∈ tb_168, decode cX12_faces e.1 = .ok (e.2.1, e.2.2.1) := by decide +kernel
theorem dc_169 : ∀ e ∈ tb_169, decode cX12_face e.1 = .ok (e.2.1, e.2.2.1) := by decide +kernel
theorem dc_170 : ∀ e ∈ tb_170, decode cX12_genus e.1 = .ok (e.2.1, e.2.2.1) := by decide +kernel
theorem dc_171 : ∀ e ∈ tb_171, decode cX12_knotDegree e.1 = .ok (e.2.1, e.2.2.1) := by decide +kernel
theorem dc_172 : ∀ e ∈ tb_172, decode cX12_branch e.1 = .ok (e.2.1, e.2.2.1) := by decide +kernel
theorem dc_173 : ∀ e ∈ tb_173, decode cX12_knot e.1 = .ok (e.2.1, e.2.2.1) := by decide +kernel
theorem dc_174 : ∀ e ∈ tb_174, decode cX12_could e.1 = .ok (e.2.1, e.2.2.1) := by decide +kernel
theorem dc_175 : ∀ e ∈ tb_175, decode cX12_may e.1 = .ok (e.2.1, e.2.2.1) := by decide +kernel
theorem dc_176 : ∀ e ∈ tb_176, decode cX12_fill e.1 = .ok (e.2.1, e.2.2.1) := by decide +kernel
theorem dc_177 : ∀ e ∈ tb_177, decode cX12_rimPlace e.1 = .ok (e.2.1, e.2.2.1) := by decide +kernel
theorem dc_178 : ∀ e ∈ tb_178, decode cX12_isFree e.1 = .ok (e.2.1, e.2.2.1) := by decide +kernel
theorem dc_179 : ∀ e ∈ tb_179, decode cX12_turnPlace e.1 = .ok (e.2.1, e.2.2.1) := by decide +kernel
theorem dc_180 : ∀ e ∈ tb_180, decode cX12_isNew e.1 = .ok (e.2.1, e.2.2.1) := by decide +kernel
theorem dc_181 : ∀ e ∈ tb_181, decode cX12_gather e.1 = .ok (e.2.1, e.2.2.1) := by decide +kernel
theorem dc_182 : ∀ e ∈ tb_182, decode cX12_makeOrder e.1 = .ok (e.2.1, e.2.2.1) := by decide +kernel
theorem dc_183 : ∀ e ∈ tb_183, decode cX12_move e.1 = .ok (e.2.1, e.2.2.1) := by decide +kernel
theorem dc_184 : ∀ e ∈ tb_184, decode cX12_set e.1 = .ok (e.2.1, e.2.2.1) := by decide +kernel
theorem dc_185 : ∀ e ∈ tb_185, decode cX12_makePlaces e.1 = .ok (e.2.1, e.2.2.1) := by decide +kernel
theorem dc_186 : ∀ e ∈ tb_186, decode cX12_draw e.1 = .ok (e.2.1, e.2.2.1) := by decide +kernel
theorem dc_187 : ∀ e ∈ tb_187, decode cX12_at e.1 = .ok (e.2.1, e.2.2.1) := by decide +kernel
theorem dc_188 : ∀ e ∈ tb_188, decode cX12_joined e.1 = .ok (e.2.1, e.2.2.1) := by decide +kernel
theorem dc_189 : ∀ e ∈ tb_189, decode cX12_colour e.1 = .ok (e.2.1, e.2.2.1) := by decide +kernel
theorem dc_190 : ∀ e ∈ tb_190, decode cX12_colourOf e.1 = .ok (e.2.1, e.2.2.1) := by decide +kernel
theorem dc_191 : ∀ e ∈ tb_191, decode cJ6_bitCount_0f7a4 e.1 = .ok (e.2.1, e.2.2.1) := by decide +kernel
theorem dc_192 : ∀ e ∈ tb_192, decode cJ7_fill_53178 e.1 = .ok (e.2.1, e.2.2.1) := by decide +kernel
end
section
abbrev mi_Me : Type := Nat × MethodName × ByteArray × Nat × Option FieldType × List mi_I × Nat × Nat × Nat
def mi_cns : List String := [RX0, RX1, RX2, RX3, RX4, RX5, RX6, RX7, RX8, RX9, RX10, RX11, RX12, RJ6, RJ7, RJ9]
def mi_cn (w : Nat) : String := mi_cns.getD w ""
def mi_tyf (ci : Nat) : Nat → FieldType := match ci with
  | 0 => tyX0
  | 1 => tyX1
  | 2 => tyX2
  | 3 => tyX3
  | 4 => tyX4
  | 5 => tyX5
  | 6 => tyX6
  | 7 => tyX7
  | 8 => tyX8
  | 9 => tyX9
  | 10 => tyX10
  | 11 => tyX11
  | 12 => tyX12
  | _ => fun _ => .int
def mi_df : mi_Me := (0, ⟨"", "", ""⟩, ⟨#[]⟩, 0, none, [], 0, 0, 0)
def mi_mes_0 : List mi_Me := [(0, yX0_init, cX0_init, 1, none, tb_0, 7, 262, 1),
  (0, yX0_of, cX0_of, 2, (some .int), tb_1, 0, 0, 2),
  (0, yX0_find, cX0_find, 3, none, tb_2, 0, 0, 2),
  (0, yX0_growTree, cX0_growTree, 8, none, tb_3, 0, 0, 3),
  (0, yX0_reach, cX0_reach, 4, none, tb_4, 0, 0, 4),
  (0, yX0_deeper, cX0_deeper, 3, (some .int), tb_5, 0, 0, 3),
  (0, yX0_closeRing, cX0_closeRing, 8, none, tb_6, 0, 0, 3),
  (0, yX0_merge, cX0_merge, 5, none, tb_7, 0, 0, 3),
  (0, yX0_standingFor, cX0_standingFor, 4, (some .int), tb_8, 0, 0, 2),
  (0, yX0_giveNumbers, cX0_giveNumbers, 4, none, tb_9, 0, 0, 2),
  (1, yX1_init, cX1_init, 1, none, tb_10, 3, 142, 1),
  (1, yX1_make, cX1_make, 7, (some .int), tb_11, 0, 0, 2),
  (1, yX1_takeAll, cX1_takeAll, 5, none, tb_12, 0, 0, 2),
  (1, yX1_leastTied, cX1_leastTied, 7, (some .int), tb_13, 0, 0, 3),
  (1, yX1_leastFree, cX1_leastFree, 4, (some .int), tb_14, 0, 0, 2),
  (2, yX2_init, cX2_init, 1, none, tb_15, 11, 548, 1),
  (2, yX2_make, cX2_make, 5, none, tb_16, 0, 0, 4),
  (2, yX2_startLine, cX2_startLine, 4, none, tb_17, 0, 0, 4),
  (2, yX2_put, cX2_put, 4, none, tb_18, 0, 0, 4),
  (2, yX2_findOrder, cX2_findOrder, 8, none, tb_19, 0, 0, 6),
  (2, yX2_findFree, cX2_findFree, 7, (some .int), tb_20, 0, 0, 2),
  (2, yX2_takeFromRim, cX2_takeFromRim, 7, none, tb_21, 0, 0, 3),
  (2, yX2_raise, cX2_raise, 6, none, tb_22, 0, 0, 3),
  (2, yX2_carriedByLine, cX2_carriedByLine, 6, (some .int), tb_23, 0, 0, 3),
  (2, yX2_move, cX2_move, 4, none, tb_24, 0, 0, 3)]
def mi_mes_1 : List mi_Me := [(2, yX2_putAbove, cX2_putAbove, 4, none, tb_25, 0, 0, 4),
  (3, yX3_init, cX3_init, 1, none, tb_26, 150, 8776, 1),
  (3, yX3_lays, cX3_lays, 3, (some .boolean), tb_27, 0, 0, 2),
  (3, yX3_takeBlock, cX3_takeBlock, 4, none, tb_28, 0, 0, 3),
  (3, yX3_layFirstRing, cX3_layFirstRing, 3, none, tb_29, 0, 0, 1),
  (3, yX3_laysRest, cX3_laysRest, 3, (some .boolean), tb_30, 0, 0, 1),
  (3, yX3_findWay, cX3_findWay, 3, none, tb_31, 0, 0, 2),
  (3, yX3_markWay, cX3_markWay, 4, none, tb_32, 0, 0, 2),
  (3, yX3_choosePart, cX3_choosePart, 6, (some .boolean), tb_33, 0, 0, 1),
  (3, yX3_weigh, cX3_weigh, 5, (some .boolean), tb_34, 0, 0, 3),
  (3, yX3_spread, cX3_spread, 5, (some .int), tb_35, 0, 0, 2),
  (3, yX3_tellTurn, cX3_tellTurn, 2, none, tb_36, 0, 0, 1),
  (3, yX3_tellRing, cX3_tellRing, 6, none, tb_37, 0, 0, 2),
  (3, yX3_tellAround, cX3_tellAround, 5, none, tb_38, 0, 0, 2),
  (4, yX4_init, cX4_init, 1, none, tb_39, 3, 140, 1),
  (4, yX4_begin, cX4_begin, 2, none, tb_40, 0, 0, 2),
  (4, yX4_copy, cX4_copy, 3, none, tb_41, 0, 0, 2),
  (4, yX4_hasVertex, cX4_hasVertex, 2, (some .boolean), tb_42, 0, 0, 2),
  (4, yX4_hasEdge, cX4_hasEdge, 2, (some .boolean), tb_43, 0, 0, 2),
  (4, yX4_low, cX4_low, 2, (some .int), tb_44, 0, 0, 2),
  (4, yX4_high, cX4_high, 2, (some .int), tb_45, 0, 0, 2),
  (4, yX4_around, cX4_around, 2, (some .int), tb_46, 0, 0, 2),
  (4, yX4_aroundAll, cX4_aroundAll, 4, (some .int), tb_47, 0, 0, 2),
  (4, yX4_joined, cX4_joined, 3, (some .boolean), tb_48, 0, 0, 3),
  (4, yX4_takes, cX4_takes, 3, (some .boolean), tb_49, 0, 0, 3)]
def mi_mes_2 : List mi_Me := [(4, yX4_add, cX4_add, 3, none, tb_50, 0, 0, 3),
  (4, yX4_remove, cX4_remove, 5, none, tb_51, 0, 0, 2),
  (4, yX4_lonely, cX4_lonely, 3, (some .int), tb_52, 0, 0, 1),
  (4, yX4_isFull, cX4_isFull, 1, (some .boolean), tb_53, 0, 0, 1),
  (5, yX5_init, cX5_init, 2, none, tb_54, 84, 5082, 1),
  (5, yX5_has, cX5_has, 2, (some .boolean), tb_55, 0, 0, 2),
  (5, yX5_size, cX5_size, 2, (some .int), tb_56, 0, 0, 2),
  (5, yX5_get, cX5_get, 3, (some .int), tb_57, 0, 0, 3),
  (5, yX5_placeBehind, cX5_placeBehind, 3, (some .int), tb_58, 0, 0, 3),
  (5, yX5_fitting, cX5_fitting, 4, (some .int), tb_59, 0, 0, 3),
  (5, yX5_begin, cX5_begin, 6, none, tb_60, 0, 0, 4),
  (5, yX5_part, cX5_part, 5, none, tb_61, 0, 0, 5),
  (6, yX6_init, cX6_init, 2, none, tb_62, 1, 120, 2),
  (6, yX6_size, cX6_size, 1, (some .int), tb_63, 0, 0, 1),
  (6, yX6_clear, cX6_clear, 1, none, tb_64, 0, 0, 1),
  (6, yX6_add, cX6_add, 2, none, tb_65, 0, 0, 2),
  (6, yX6_get, cX6_get, 2, (some .int), tb_66, 0, 0, 2),
  (6, yX6_find, cX6_find, 3, (some .int), tb_67, 0, 0, 2),
  (6, yX6_exchange, cX6_exchange, 4, (some .boolean), tb_68, 0, 0, 3),
  (6, yX6_placeBehind, cX6_placeBehind, 2, (some .int), tb_69, 0, 0, 2),
  (6, yX6_copy, cX6_copy, 3, none, tb_70, 0, 0, 2),
  (6, yX6_addPart, cX6_addPart, 5, none, tb_71, 0, 0, 4),
  (6, yX6_addBackwards, cX6_addBackwards, 3, none, tb_72, 0, 0, 2),
  (6, yX6_addArc, cX6_addArc, 7, none, tb_73, 0, 0, 4),
  (6, yX6_bits, cX6_bits, 3, (some .int), tb_74, 0, 0, 1)]
def mi_mes_3 : List mi_Me := [(7, yX7_init, cX7_init, 1, none, tb_75, 5, 264, 1),
  (7, yX7_seek, cX7_seek, 10, none, tb_76, 0, 0, 5),
  (7, yX7_goStraight, cX7_goStraight, 2, none, tb_77, 0, 0, 2),
  (7, yX7_traceBack, cX7_traceBack, 4, none, tb_78, 0, 0, 2),
  (8, yX8_init, cX8_init, 1, none, tb_79, 4, 244, 1),
  (8, yX8_find, cX8_find, 5, none, tb_80, 0, 0, 4),
  (8, yX8_takeRest, cX8_takeRest, 4, none, tb_81, 0, 0, 3),
  (8, yX8_sort, cX8_sort, 1, (some .int), tb_82, 0, 0, 1),
  (9, yX9_init, cX9_init, 2, none, tb_83, 41, 2460, 1),
  (9, yX9_clear, cX9_clear, 2, none, tb_84, 0, 0, 1),
  (9, yX9_copy, cX9_copy, 3, none, tb_85, 0, 0, 2),
  (9, yX9_add, cX9_add, 3, none, tb_86, 0, 0, 3),
  (9, yX9_neighbour, cX9_neighbour, 3, (some .int), tb_87, 0, 0, 3),
  (9, yX9_exchange, cX9_exchange, 4, (some .boolean), tb_88, 0, 0, 4),
  (9, yX9_behind, cX9_behind, 4, (some .int), tb_89, 0, 0, 3),
  (10, yX10_init, cX10_init, 1, none, tb_90, 5, 762, 1),
  (10, yX10_find, cX10_find, 6, none, tb_91, 0, 0, 3),
  (10, yX10_nameDarts, cX10_nameDarts, 5, none, tb_92, 0, 0, 2),
  (10, yX10_goRound, cX10_goRound, 4, none, tb_93, 0, 0, 2),
  (10, yX10_beginOf, cX10_beginOf, 3, (some .int), tb_94, 0, 0, 3),
  (10, yX10_beginning, cX10_beginning, 7, (some .int), tb_95, 0, 0, 4),
  (11, yX11_init, cX11_init, 1, none, tb_96, 228, 13252, 1),
  (11, yX11_graph, cX11_graph, 2, (some .boolean), tb_97, 0, 0, 2),
  (11, yX11_join, cX11_join, 3, (some .int), tb_98, 0, 0, 3),
  (11, yX11_cut, cX11_cut, 2, (some .boolean), tb_99, 0, 0, 2)]
def mi_mes_4 : List mi_Me := [(11, yX11_edge, cX11_edge, 3, (some .int), tb_100, 0, 0, 3),
  (11, yX11_about, cX11_about, 2, (some .int), tb_101, 0, 0, 2),
  (11, yX11_lay, cX11_lay, 1, (some .int), tb_102, 0, 0, 1),
  (11, yX11_turn, cX11_turn, 3, (some .int), tb_103, 0, 0, 3),
  (11, yX11_swap, cX11_swap, 4, (some .boolean), tb_104, 0, 0, 4),
  (11, yX11_faces, cX11_faces, 1, (some .int), tb_105, 0, 0, 1),
  (11, yX11_face, cX11_face, 3, (some .int), tb_106, 0, 0, 3),
  (11, yX11_genus, cX11_genus, 2, (some .int), tb_107, 0, 0, 1),
  (11, yX11_knot, cX11_knot, 2, (some .int), tb_108, 0, 0, 2),
  (11, yX11_may, cX11_may, 3, (some .int), tb_109, 0, 0, 3),
  (11, yX11_fill, cX11_fill, 4, (some .int), tb_110, 0, 0, 1),
  (11, yX11_draw, cX11_draw, 1, (some .boolean), tb_111, 0, 0, 1),
  (11, yX11_at, cX11_at, 3, (some .int), tb_112, 0, 0, 3),
  (11, yX11_colour, cX11_colour, 1, (some .int), tb_113, 0, 0, 1),
  (11, yX11_colourOf, cX11_colourOf, 2, (some .int), tb_114, 0, 0, 2),
  (11, yX11_forget, cX11_forget, 1, none, tb_115, 0, 0, 1),
  (11, yX11_fits, cX11_fits, 1, (some .boolean), tb_116, 0, 0, 1),
  (11, yX11_layOut, cX11_layOut, 2, (some .boolean), tb_117, 0, 0, 1),
  (11, yX11_addIfItFits, cX11_addIfItFits, 3, none, tb_118, 0, 0, 3),
  (11, yX11_canBe, cX11_canBe, 1, (some .boolean), tb_119, 0, 0, 1),
  (11, yX11_bit, cX11_bit, 1, (some .int), tb_120, 0, 0, 1),
  (11, yX11_in, cX11_in, 2, (some .boolean), tb_121, 0, 0, 2),
  (11, yX11_leastOf, cX11_leastOf, 1, (some .int), tb_122, 0, 0, 1),
  (12, yX12_init, cX12_init, 1, none, tb_123, 31, 3068, 1),
  (12, yX12_isIn, cX12_isIn, 3, (some .boolean), tb_124, 0, 0, 3)]
def mi_mes_5 : List mi_Me := [(12, yX12_isVertex, cX12_isVertex, 2, (some .boolean), tb_125, 0, 0, 2),
  (12, yX12_forget, cX12_forget, 1, none, tb_126, 0, 0, 1),
  (12, yX12_graph, cX12_graph, 2, (some .boolean), tb_127, 0, 0, 2),
  (12, yX12_edgeOf, cX12_edgeOf, 6, (some .int), tb_128, 0, 0, 3),
  (12, yX12_put, cX12_put, 3, none, tb_129, 0, 0, 3),
  (12, yX12_join, cX12_join, 3, (some .int), tb_130, 0, 0, 3),
  (12, yX12_cut, cX12_cut, 3, (some .boolean), tb_131, 0, 0, 2),
  (12, yX12_all, cX12_all, 2, none, tb_132, 0, 0, 1),
  (12, yX12_other, cX12_other, 3, (some .int), tb_133, 0, 0, 3),
  (12, yX12_forest, cX12_forest, 4, none, tb_134, 0, 0, 1),
  (12, yX12_spread, cX12_spread, 6, (some .int), tb_135, 0, 0, 3),
  (12, yX12_unite, cX12_unite, 6, none, tb_136, 0, 0, 3),
  (12, yX12_makeBlocks, cX12_makeBlocks, 5, none, tb_137, 0, 0, 1),
  (12, yX12_number, cX12_number, 2, none, tb_138, 0, 0, 1),
  (12, yX12_isHere, cX12_isHere, 2, (some .boolean), tb_139, 0, 0, 2),
  (12, yX12_sizeOf, cX12_sizeOf, 4, (some .int), tb_140, 0, 0, 2),
  (12, yX12_leastEdge, cX12_leastEdge, 3, (some .int), tb_141, 0, 0, 2),
  (12, yX12_find, cX12_find, 12, (some .int), tb_142, 0, 0, 6),
  (12, yX12_allVertices, cX12_allVertices, 1, (some .int), tb_143, 0, 0, 1),
  (12, yX12_takeWay, cX12_takeWay, 5, none, tb_144, 0, 0, 3),
  (12, yX12_firstRings, cX12_firstRings, 5, none, tb_145, 0, 0, 2),
  (12, yX12_makeParts, cX12_makeParts, 6, none, tb_146, 0, 0, 1),
  (12, yX12_ringSet, cX12_ringSet, 4, (some .int), tb_147, 0, 0, 2),
  (12, yX12_fit, cX12_fit, 3, none, tb_148, 0, 0, 2),
  (12, yX12_nextPart, cX12_nextPart, 3, (some .int), tb_149, 0, 0, 1)]
def mi_mes_6 : List mi_Me := [(12, yX12_layPart, cX12_layPart, 10, none, tb_150, 0, 0, 2),
  (12, yX12_markWay, cX12_markWay, 6, none, tb_151, 0, 0, 3),
  (12, yX12_layBlock, cX12_layBlock, 3, (some .boolean), tb_152, 0, 0, 2),
  (12, yX12_layAll, cX12_layAll, 5, (some .boolean), tb_153, 0, 0, 2),
  (12, yX12_tellNeighbours, cX12_tellNeighbours, 4, none, tb_154, 0, 0, 1),
  (12, yX12_turnOf, cX12_turnOf, 6, none, tb_155, 0, 0, 3),
  (12, yX12_isPlane, cX12_isPlane, 1, (some .boolean), tb_156, 0, 0, 1),
  (12, yX12_edge, cX12_edge, 3, (some .int), tb_157, 0, 0, 3),
  (12, yX12_lonely, cX12_lonely, 5, (some .int), tb_158, 0, 0, 1),
  (12, yX12_about, cX12_about, 2, (some .int), tb_159, 0, 0, 2),
  (12, yX12_lay, cX12_lay, 1, (some .int), tb_160, 0, 0, 1),
  (12, yX12_makeKnot, cX12_makeKnot, 2, none, tb_161, 0, 0, 1),
  (12, yX12_turn, cX12_turn, 3, (some .int), tb_162, 0, 0, 3),
  (12, yX12_swap, cX12_swap, 5, (some .boolean), tb_163, 0, 0, 4),
  (12, yX12_tail, cX12_tail, 2, (some .int), tb_164, 0, 0, 2),
  (12, yX12_dart, cX12_dart, 3, (some .int), tb_165, 0, 0, 3),
  (12, yX12_following, cX12_following, 5, (some .int), tb_166, 0, 0, 2),
  (12, yX12_makeFaces, cX12_makeFaces, 3, none, tb_167, 0, 0, 1),
  (12, yX12_faces, cX12_faces, 1, (some .int), tb_168, 0, 0, 1),
  (12, yX12_face, cX12_face, 6, (some .int), tb_169, 0, 0, 3),
  (12, yX12_genus, cX12_genus, 1, (some .int), tb_170, 0, 0, 1),
  (12, yX12_knotDegree, cX12_knotDegree, 4, (some .int), tb_171, 0, 0, 2),
  (12, yX12_branch, cX12_branch, 4, (some .int), tb_172, 0, 0, 2),
  (12, yX12_knot, cX12_knot, 3, (some .int), tb_173, 0, 0, 2),
  (12, yX12_could, cX12_could, 4, (some .boolean), tb_174, 0, 0, 3)]
def mi_mes_7 : List mi_Me := [(12, yX12_may, cX12_may, 3, (some .int), tb_175, 0, 0, 3),
  (12, yX12_fill, cX12_fill, 4, (some .int), tb_176, 0, 0, 1),
  (12, yX12_rimPlace, cX12_rimPlace, 3, (some .int), tb_177, 0, 0, 2),
  (12, yX12_isFree, cX12_isFree, 3, (some .boolean), tb_178, 0, 0, 2),
  (12, yX12_turnPlace, cX12_turnPlace, 4, (some .int), tb_179, 0, 0, 3),
  (12, yX12_isNew, cX12_isNew, 2, (some .boolean), tb_180, 0, 0, 2),
  (12, yX12_gather, cX12_gather, 9, (some .boolean), tb_181, 0, 0, 5),
  (12, yX12_makeOrder, cX12_makeOrder, 6, none, tb_182, 0, 0, 1),
  (12, yX12_move, cX12_move, 4, none, tb_183, 0, 0, 3),
  (12, yX12_set, cX12_set, 4, none, tb_184, 0, 0, 4),
  (12, yX12_makePlaces, cX12_makePlaces, 9, none, tb_185, 0, 0, 1),
  (12, yX12_draw, cX12_draw, 2, (some .boolean), tb_186, 0, 0, 1),
  (12, yX12_at, cX12_at, 3, (some .int), tb_187, 0, 0, 3),
  (12, yX12_joined, cX12_joined, 5, (some .int), tb_188, 0, 0, 3),
  (12, yX12_colour, cX12_colour, 6, (some .int), tb_189, 0, 0, 1),
  (12, yX12_colourOf, cX12_colourOf, 2, (some .int), tb_190, 0, 0, 2),
  (13, yJ6_bitCount_0f7a4, cJ6_bitCount_0f7a4, 1, (some .int), tb_191, 0, 0, 1),
  (14, yJ7_fill_53178, cJ7_fill_53178, 4, none, tb_192, 0, 0, 2)]
def mi_me (k : Nat) : mi_Me := match k / 25 with
  | 0 => mi_mes_0.getD (k % 25) mi_df
  | 1 => mi_mes_1.getD (k % 25) mi_df
  | 2 => mi_mes_2.getD (k % 25) mi_df
  | 3 => mi_mes_3.getD (k % 25) mi_df
  | 4 => mi_mes_4.getD (k % 25) mi_df
  | 5 => mi_mes_5.getD (k % 25) mi_df
  | 6 => mi_mes_6.getD (k % 25) mi_df
  | 7 => mi_mes_7.getD (k % 25) mi_df
  | _ => mi_df
def mi_own (k : Nat) : Nat := (mi_me k).1
def mi_y (k : Nat) : MethodName := (mi_me k).2.1
def mi_code (k : Nat) : ByteArray := (mi_me k).2.2.1
def mi_maxL (k : Nat) : Nat := (mi_me k).2.2.2.1
def mi_rt (k : Nat) : Option FieldType := (mi_me k).2.2.2.2.1
def mi_tab (k : Nat) : List mi_I := (mi_me k).2.2.2.2.2.1
def mi_mc (k : Nat) : Nat := (mi_me k).2.2.2.2.2.2.1
def mi_sl (k : Nat) : Nat := (mi_me k).2.2.2.2.2.2.2.1
def mi_na (k : Nat) : Nat := (mi_me k).2.2.2.2.2.2.2.2
def mi_nM : Nat := 193
end
section
/-! ===== a small machine: the methods' tables run over a small memory; what it comes to is a proposition ===== -/
abbrev mi_E : Type := (Nat × vp_A) ⊕ (Nat × List Value)
abbrev mi_M : Type := Nat × (Nat → mi_E)
abbrev mi_L : Type := List (Option Value)
abbrev mi_K : Type := mi_L → List Value → Nat → Nat → mi_M → Prop
abbrev mi_R : Type := Option Value → mi_M → Prop
abbrev mi_C : Type := Nat → List Value → mi_M → mi_R → Prop
def mi_up (M : mi_M) (k : Nat) (x : mi_E) : mi_M := (M.1, fun j => if j = k then x else M.2 j)
def mi_push (M : mi_M) (x : mi_E) : mi_M := (M.1 + 1, fun j => if j = M.1 then x else M.2 j)
def mi_ldi (L : mi_L) (i : Nat) (K : Int32 → Prop) : Prop := match L[i]? with
  | some (some (.int x)) => K x
  | _ => False
def mi_ldr (L : mi_L) (i : Nat) (K : Nat → Prop) : Prop := match L[i]? with
  | some (some (.ref x)) => K x
  | _ => False
def mi_obj (M : mi_M) (a ci : Nat) (K : List Value → Prop) : Prop := match M.2 a with
  | .inr (c, fs) => c = ci ∧ K fs
  | _ => False
def mi_ints (M : mi_M) (a t : Nat) (K : Nat → (Nat → Int32) → Prop) : Prop := match M.2 a with
  | .inl (u, n, .inl f) => u = t ∧ K n f
  | _ => False
def mi_refs (M : mi_M) (a : Nat) (K : Nat → (Nat → Option Nat) → Prop) : Prop := match M.2 a with
  | .inl (u, n, .inr (.inr (.inr (.inr f)))) => u = 2 ∧ K n f
  | _ => False
def mi_len (M : mi_M) (a : Nat) (K : Nat → Prop) : Prop := match M.2 a with
  | .inl (u, n, .inl _) => (u = 0 ∨ u = 1) ∧ K n
  | .inl (u, n, .inr (.inr (.inr (.inr _)))) => u = 2 ∧ K n
  | _ => False
def mi_br (c a b : Prop) : Prop := (c → a) ∧ (¬ c → b)
def mi_w8 (S : List Value) : Bool := decide ((S.map fun v => v.category).sum ≤ 8)
def mi_c1 (S : List Value) : Bool := S.all fun v => v.category == 1
def mi_nar (rt : Option FieldType) (x : Int32) : Prop := match rt with
  | some .boolean => x = 0 ∨ x = 1
  | some .int => True
  | _ => False
def mi_fit (ty : FieldType) (v : Value) : Prop := match ty, v with
  | .int, .int _ => True
  | .long, .long _ => True
  | .boolean, .int x => x = 0 ∨ x = 1
  | .array _, .ref _ => True
  | .object _, .ref _ => True
  | _, _ => False
def mi_dfs (ci n : Nat) : List Value := (List.range n).map fun j => defaultValue (mi_tyf ci j)
/-- one instruction: what it needs, and what goes on -/
def mi_x (C : mi_C) (mc ms : Nat) (rt : Option FieldType) (Q : mi_R) (pc : Nat) (i : Instr) (r1 r2 r3 : Nat) (nx : mi_K) (jp : Nat → mi_K) (L : mi_L) (S : List Value) (kc ks : Nat) (M : mi_M) : Prop :=
  match i with
  | .iconst n => nx L (.int (Int32.ofInt n) :: S) kc ks M
  | .bipush n => nx L (.int (Int8.ofInt n).toInt32 :: S) kc ks M
  | .sipush n => nx L (.int (Int16.ofInt n).toInt32 :: S) kc ks M
  | .ldc_w _ => nx L (.int (Int32.ofNat r1) :: S) kc ks M
  | .ldc2_w _ => nx L (.long (-1) :: S) kc ks M
  | .lconst n => nx L (.long (Int64.ofNat n) :: S) kc ks M
  | .iload j => mi_ldi L j fun x => nx L (.int x :: S) kc ks M
  | .iload_n j => mi_ldi L j fun x => nx L (.int x :: S) kc ks M
  | .aload j => mi_ldr L j fun x => nx L (.ref x :: S) kc ks M
  | .aload_n j => mi_ldr L j fun x => nx L (.ref x :: S) kc ks M
  | .istore j => match S with
    | .int x :: S => j < L.length ∧ nx (L.set j (some (.int x))) S kc ks M
    | _ => False
  | .istore_n j => match S with
    | .int x :: S => j.val < L.length ∧ nx (L.set j.val (some (.int x))) S kc ks M
    | _ => False
  | .astore j => match S with
    | .ref x :: S => j < L.length ∧ nx (L.set j (some (.ref x))) S kc ks M
    | _ => False
  | .astore_n j => match S with
    | .ref x :: S => j.val < L.length ∧ nx (L.set j.val (some (.ref x))) S kc ks M
    | _ => False
  | .iinc j n => mi_ldi L j fun x => nx (L.set j (some (.int (x + Int32.ofInt n)))) S kc ks M
  | .dup => match S with
    | v :: S => v.category = 1 ∧ nx L (v :: v :: S) kc ks M
    | _ => False
  | .dup2 => match S with
    | v :: w :: S => v.category = 1 ∧ w.category = 1 ∧ nx L (v :: w :: v :: w :: S) kc ks M
    | _ => False
  | .pop => match S with
    | v :: S => v.category = 1 ∧ nx L S kc ks M
    | _ => False
  | .iadd => match S with
    | .int y :: .int x :: S => nx L (.int (x + y) :: S) kc ks M
    | _ => False
  | .isub => match S with
    | .int y :: .int x :: S => nx L (.int (x - y) :: S) kc ks M
    | _ => False
  | .imul => match S with
    | .int y :: .int x :: S => nx L (.int (x * y) :: S) kc ks M
    | _ => False
  | .idiv => match S with
    | .int y :: .int x :: S => ¬ y = 0 ∧ nx L (.int (x / y) :: S) kc ks M
    | _ => False
  | .irem => match S with
    | .int y :: .int x :: S => ¬ y = 0 ∧ nx L (.int (x - x / y * y) :: S) kc ks M
    | _ => False
  | .ineg => match S with
    | .int x :: S => nx L (.int (-x) :: S) kc ks M
    | _ => False
  | .iand => match S with
    | .int y :: .int x :: S => nx L (.int (x &&& y) :: S) kc ks M
    | _ => False
  | .ior => match S with
    | .int y :: .int x :: S => nx L (.int (x ||| y) :: S) kc ks M
    | _ => False
  | .ixor => match S with
    | .int y :: .int x :: S => nx L (.int (x ^^^ y) :: S) kc ks M
    | _ => False
  | .ishl => match S with
    | .int y :: .int x :: S => nx L (.int (x <<< (y &&& 31)) :: S) kc ks M
    | _ => False
  | .ishr => match S with
    | .int y :: .int x :: S => nx L (.int (x >>> (y &&& 31)) :: S) kc ks M
    | _ => False
  | .iushr => match S with
    | .int y :: .int x :: S => nx L (.int (x.toUInt32 >>> (y.toUInt32 &&& Int32.toUInt32 31)).toInt32 :: S) kc ks M
    | _ => False
  | .land => match S with
    | .long y :: .long x :: S => nx L (.long (x &&& y) :: S) kc ks M
    | _ => False
  | .lor => match S with
    | .long y :: .long x :: S => nx L (.long (x ||| y) :: S) kc ks M
    | _ => False
  | .lxor => match S with
    | .long y :: .long x :: S => nx L (.long (x ^^^ y) :: S) kc ks M
    | _ => False
  | .lshl => match S with
    | .int y :: .long x :: S => nx L (.long (x <<< (y.toInt64 &&& 63)) :: S) kc ks M
    | _ => False
  | .lshr => match S with
    | .int y :: .long x :: S => nx L (.long (x >>> (y.toInt64 &&& 63)) :: S) kc ks M
    | _ => False
  | .lcmp => match S with
    | .long y :: .long x :: S => nx L (.int (lg_cmp x y) :: S) kc ks M
    | _ => False
  | .goto _ => jp r1 L S kc ks M
  | .ifCond c _ => match S with
    | .int x :: S => match c with
      | .eq => mi_br (x = 0) (jp r1 L S kc ks M) (nx L S kc ks M)
      | .ne => mi_br (x = 0) (nx L S kc ks M) (jp r1 L S kc ks M)
      | .lt => mi_br (x < 0) (jp r1 L S kc ks M) (nx L S kc ks M)
      | .ge => mi_br (x < 0) (nx L S kc ks M) (jp r1 L S kc ks M)
      | .gt => mi_br (x ≤ 0) (nx L S kc ks M) (jp r1 L S kc ks M)
      | .le => mi_br (x ≤ 0) (jp r1 L S kc ks M) (nx L S kc ks M)
    | _ => False
  | .if_icmp c _ => match S with
    | .int y :: .int x :: S => match c with
      | .eq => mi_br (x = y) (jp r1 L S kc ks M) (nx L S kc ks M)
      | .ne => mi_br (x = y) (nx L S kc ks M) (jp r1 L S kc ks M)
      | .lt => mi_br (x < y) (jp r1 L S kc ks M) (nx L S kc ks M)
      | .ge => mi_br (x < y) (nx L S kc ks M) (jp r1 L S kc ks M)
      | .gt => mi_br (x ≤ y) (nx L S kc ks M) (jp r1 L S kc ks M)
      | .le => mi_br (x ≤ y) (jp r1 L S kc ks M) (nx L S kc ks M)
    | _ => False
  | .tableswitch d lo hi os => match S with
    | .int x :: S => mi_br (x.toInt < lo ∨ hi < x.toInt) (0 ≤ (pc : Int) + d ∧ jp ((pc : Int) + d).toNat L S kc ks M)
        (match os[(x.toInt - lo).toNat]? with
          | some o => 0 ≤ (pc : Int) + o ∧ jp ((pc : Int) + o).toNat L S kc ks M
          | none => False)
    | _ => False
  | .getfield _ => match S with
    | .ref a :: S => mi_obj M a r1 fun fs => match fs[r2]? with
      | some v => nx L (v :: S) kc ks M
      | none => False
    | _ => False
  | .putfield _ => match S with
    | v :: .ref a :: S => mi_fit (mi_tyf r1 r2) v ∧ mi_obj M a r1 fun fs => r2 < fs.length ∧ nx L S kc ks (mi_up M a (.inr (r1, fs.set r2 v)))
    | _ => False
  | .iaload => match S with
    | .int j :: .ref a :: S => mi_ints M a 0 fun n f => vp_in j n ∧ nx L (.int (f j.toNatClampNeg) :: S) kc ks M
    | _ => False
  | .baload => match S with
    | .int j :: .ref a :: S => mi_ints M a 1 fun n f => vp_in j n ∧ nx L (.int (f j.toNatClampNeg) :: S) kc ks M
    | _ => False
  | .aaload => match S with
    | .int j :: .ref a :: S => mi_refs M a fun n f => vp_in j n ∧ match f j.toNatClampNeg with
      | some b => nx L (.ref b :: S) kc ks M
      | none => False
    | _ => False
  | .iastore => match S with
    | .int x :: .int j :: .ref a :: S => mi_ints M a 0 fun n f => vp_in j n ∧ nx L S kc ks (mi_up M a (.inl (0, n, .inl (upd f j.toNatClampNeg x))))
    | _ => False
  | .bastore => match S with
    | .int x :: .int j :: .ref a :: S => (x = 0 ∨ x = 1) ∧ mi_ints M a 1 fun n f => vp_in j n ∧ nx L S kc ks (mi_up M a (.inl (1, n, .inl (upd f j.toNatClampNeg x))))
    | _ => False
  | .aastore => match S with
    | .ref b :: .int j :: .ref a :: S => mi_obj M b 6 fun _ => mi_refs M a fun n f => vp_in j n ∧ nx L S kc ks (mi_up M a (.inl (2, n, .inr (.inr (.inr (.inr (va_up f j.toNatClampNeg (some b))))))))
    | _ => False
  | .arraylength => match S with
    | .ref a :: S => mi_len M a fun n => nx L (.int (Int32.ofNat n) :: S) kc ks M
    | _ => False
  | .new _ => kc + 1 ≤ mc ∧ ks + r2 ≤ ms ∧ nx L (.ref M.1 :: S) (kc + 1) (ks + r2) (mi_push M (.inr (r1, mi_dfs r1 r2)))
  | .newarray _ => match S with
    | .int n :: S => ¬ n < 0 ∧ n.toNatClampNeg ≤ 2000 ∧ kc + 1 ≤ mc ∧ ks + n.toNatClampNeg ≤ ms ∧ nx L (.ref M.1 :: S) (kc + 1) (ks + n.toNatClampNeg) (mi_push M (.inl (r1, n.toNatClampNeg, .inl fun _ => 0)))
    | _ => False
  | .anewarray _ => match S with
    | .int n :: S => ¬ n < 0 ∧ n.toNatClampNeg ≤ 2000 ∧ kc + 1 ≤ mc ∧ ks + n.toNatClampNeg ≤ ms ∧ nx L (.ref M.1 :: S) (kc + 1) (ks + n.toNatClampNeg) (mi_push M (.inl (2, n.toNatClampNeg, .inr (.inr (.inr (.inr fun _ => none))))))
    | _ => False
  | .invokevirtual _ => r2 ≤ S.length ∧ mi_w8 (S.drop r2) = true ∧ mi_c1 (S.take r2) = true ∧ (match (S.take r2).reverse with
      | .ref a :: _ => mi_obj M a r3 fun _ => True
      | _ => False) ∧ C r1 (S.take r2).reverse M fun r M => nx L (r.toList ++ S.drop r2) kc ks M
  | .invokestatic _ => if r3 = 1 then (match S with
      | .int y :: .int x :: S => mi_w8 S = true ∧ nx L (.int (if x < y then y else x) :: S) kc ks M
      | _ => False)
    else if r3 = 2 then (match S with
      | .int y :: .int x :: S => mi_w8 S = true ∧ nx L (.int (if y < x then y else x) :: S) kc ks M
      | _ => False)
    else r2 ≤ S.length ∧ mi_w8 (S.drop r2) = true ∧ mi_c1 (S.take r2) = true ∧ C r1 (S.take r2).reverse M fun r M => nx L (r.toList ++ S.drop r2) kc ks M
  | .invokespecial _ => if r1 = 999 then (match S with
      | .ref _ :: S => mi_w8 S = true ∧ nx L S kc ks M
      | _ => False)
    else r2 ≤ S.length ∧ mi_w8 (S.drop r2) = true ∧ mi_c1 (S.take r2) = true ∧ kc + mi_mc r1 ≤ mc ∧ ks + mi_sl r1 ≤ ms ∧ (match (S.take r2).reverse with
      | .ref _ :: _ => True
      | _ => False) ∧ C r1 (S.take r2).reverse M fun r M => nx L (r.toList ++ S.drop r2) (kc + mi_mc r1) (ks + mi_sl r1) M
  | .ireturn => match S with
    | [.int x] => mi_nar rt x ∧ kc ≤ mc ∧ ks ≤ ms ∧ Q (some (.int x)) M
    | _ => False
  | .return_ => match S with
    | [] => rt = none ∧ kc ≤ mc ∧ ks ≤ ms ∧ Q none M
    | _ => False
  | _ => False
def mi_from : List mi_I → Nat → List mi_I
  | [], _ => []
  | e :: tl, t => if e.1 = t then e :: tl else mi_from tl t
def mi_nxt (cuts : List Nat) (P : Nat → mi_K) (g : mi_K) : List mi_I → mi_K
  | [] => fun _ _ _ _ _ => False
  | e2 :: _ => if e2.1 ∈ cuts then P e2.1 else g
def mi_jmp (cuts : List Nat) (P : Nat → mi_K) (g : mi_K) (t : Nat) : mi_K := if t ∈ cuts then P t else g
def mi_go (X : mi_I → mi_K → (Nat → mi_K) → mi_K) (cuts : List Nat) (tab : List mi_I) (P : Nat → mi_K) : Nat → List mi_I → mi_K
  | 0, _ => fun _ _ _ _ _ => False
  | _ + 1, [] => fun _ _ _ _ _ => False
  | k + 1, e :: tl => X e (mi_nxt cuts P (mi_go X cuts tab P k tl) tl) (fun t => mi_jmp cuts P (mi_go X cuts tab P k (mi_from tab t)) t)
theorem mi_go_s (X : mi_I → mi_K → (Nat → mi_K) → mi_K) (cuts : List Nat) (tab : List mi_I) (P : Nat → mi_K) (k : Nat) (e : mi_I) (tl : List mi_I) : mi_go X cuts tab P (k + 1) (e :: tl) = X e (mi_nxt cuts P (mi_go X cuts tab P k tl) tl) (fun t => mi_jmp cuts P (mi_go X cuts tab P k (mi_from tab t)) t) := rfl
def mi_X (C : mi_C) (k : Nat) (Q : mi_R) : mi_I → mi_K → (Nat → mi_K) → mi_K := fun e nx jp => mi_x C (mi_mc k) (mi_sl k) (mi_rt k) Q e.1 e.2.1 e.2.2.2.1 e.2.2.2.2.1 e.2.2.2.2.2 nx jp
def mi_F (C : mi_C) (k : Nat) (cuts : List Nat) (Q : mi_R) (P : Nat → mi_K) (pc : Nat) : mi_K := mi_go (mi_X C k Q) cuts (mi_tab k) P 400 (mi_from (mi_tab k) pc)
/-- the least of what is closed under a stretch -/
def mi_WP (C : mi_C) (k : Nat) (cuts : List Nat) (Q : mi_R) (pc : Nat) : mi_K := fun L S kc ks M => ∀ P : Nat → mi_K, (∀ P' : Nat → mi_K, (∀ pc L S kc ks M, P' pc L S kc ks M → P pc L S kc ks M) → ∀ pc L S kc ks M, mi_F C k cuts Q P' pc L S kc ks M → P pc L S kc ks M) → P pc L S kc ks M
def mi_ent (k : Nat) (av : List Value) : mi_L := av.map some ++ List.replicate (mi_maxL k - av.length) none
def mi_cal : Nat → mi_C
  | 0 => fun _ _ _ _ => False
  | d + 1 => fun k av M Q => ∃ (cuts : List Nat) (Q0 : mi_R), (∀ r M, Q0 r M → Q r M) ∧ mi_WP (mi_cal d) k cuts Q0 0 (mi_ent k av) [] 0 0 M
theorem mi_fold {C : mi_C} {k : Nat} {cuts : List Nat} {Q : mi_R} {pc : Nat} {L : mi_L} {S : List Value} {kc ks : Nat} {M : mi_M} (h : mi_F C k cuts Q (mi_WP C k cuts Q) pc L S kc ks M) : mi_WP C k cuts Q pc L S kc ks M :=
  fun P hP => hP (mi_WP C k cuts Q) (fun _ _ _ _ _ _ h => h P hP) pc L S kc ks M h
theorem mi_cal_cons {d k : Nat} {av : List Value} {M : mi_M} {Q Q' : mi_R} (h : mi_cal d k av M Q) (hq : ∀ r M, Q r M → Q' r M) : mi_cal d k av M Q' := by
  cases d with
  | zero => exact (show False from h).elim
  | succ d =>
    obtain ⟨cuts, Q0, h1, h2⟩ := h
    exact ⟨cuts, Q0, fun r M z => hq r M (h1 r M z), h2⟩
end
section
/-! ===== the small memory in the machine's heap ===== -/
def mi_cv (h0 : Nat) : Value → Value
  | .ref k => .ref (h0 + k)
  | v => v
def mi_ca (h0 : Nat) : vp_A → vp_A
  | (n, .inr (.inr (.inr (.inr f)))) => (n, .inr (.inr (.inr (.inr fun i => (f i).map (fun q => h0 + q)))))
  | a => a
def mi_ce (h0 : Nat) (ca : Nat → ClassId) : mi_E → va_E
  | .inl (t, a) => .inl (ca t, mi_ca h0 a)
  | .inr (c, fs) => .inr (c, fs.map (mi_cv h0))
def mi_ws (h0 : Nat) (ca : Nat → ClassId) (M : mi_M) : va_W := (List.range M.1).map fun k => (h0 + k, mi_ce h0 ca (M.2 k))
def mi_dead : mi_E := .inr (99, [])
def mi_ok (M : mi_M) : Prop := ∀ k, M.1 ≤ k → M.2 k = mi_dead
def mi_tys (ca : Nat → ClassId) : List (ClassId × FieldType) := [(ca 0, .int), (ca 1, .boolean), (ca 2, .object RX6)]
def mi_isN : Cond → Bool
  | .fieldLinkNest .. => true
  | .methodLinkNest .. => true
  | _ => false
def mi_NW (U : State) : Prop := (∀ w ∈ lw_tbl, mi_isN w = true → va_Nw w U) ∧ va_AO RX6 U
def mi_gd : List Cond := lw_tbl.filter goodWord
def mi_wd (k : Nat) : List Cond := Cond.code (mi_y k) (mi_code k) (mi_maxL k) (mi_rt k) :: mi_gd
def mi_rm (d k : Nat) : Room := { frames := d, cells := mi_mc k, slots := mi_sl k, locals := 31 * d }
theorem mi_cat (h0 : Nat) (v : Value) : (mi_cv h0 v).category = v.category := by cases v <;> rfl
theorem mi_ws_at {h0 : Nat} {ca : Nat → ClassId} {M : mi_M} {k : Nat} (h : k < M.1) : (mi_ws h0 ca M)[k]? = some (h0 + k, mi_ce h0 ca (M.2 k)) := by
  simp [mi_ws, h]
theorem mi_ws_up {h0 : Nat} {ca : Nat → ClassId} {M : mi_M} {k : Nat} {x : mi_E} : mi_ws h0 ca (mi_up M k x) = (mi_ws h0 ca M).set k (h0 + k, mi_ce h0 ca x) := by
  apply List.ext_getElem?
  intro j
  rw [List.getElem?_set]
  by_cases hj : j < M.1
  · by_cases hk : k = j
    · subst hk
      simp [mi_ws, mi_up, hj]
    · simp [mi_ws, mi_up, hj, hk, Ne.symm hk]
  · by_cases hk : k = j
    · subst hk
      simp [mi_ws, mi_up, hj]
    · simp [mi_ws, mi_up, hj, hk]
theorem mi_ws_push {h0 : Nat} {ca : Nat → ClassId} {M : mi_M} {x : mi_E} : mi_ws h0 ca (mi_push M x) = mi_ws h0 ca M ++ [(h0 + M.1, mi_ce h0 ca x)] := by
  simp only [mi_ws, mi_push, List.range_succ, List.map_append, List.map_cons, List.map_nil, if_true]
  congr 1
  apply List.map_congr_left
  intro k hk
  have := List.mem_range.mp hk
  rw [if_neg (by omega)]
theorem mi_wsD {h0 : Nat} {ca : Nat → ClassId} {M : mi_M} : va_D (fun q => h0 ≤ q) (mi_ws h0 ca M) := by
  have key : ∀ (k : Nat) (q : Nat × va_E), (mi_ws h0 ca M)[k]? = some q → q.1 = h0 + k := by
    intro k q hk
    by_cases h : k < M.1
    · rw [mi_ws_at h] at hk
      cases hk
      rfl
    · simp [mi_ws, h] at hk
  refine ⟨fun i j x y hi hj hxy => ?_, fun k q hk => ?_⟩
  · have := key i x hi
    have := key j y hj
    omega
  · have := key k q hk
    show h0 ≤ q.1
    omega
theorem mi_lt {M : mi_M} (h : mi_ok M) {a : Nat} (hd : M.2 a ≠ mi_dead) : a < M.1 := Nat.not_le.mp fun q => hd (h a q)
theorem mi_ok_up {M : mi_M} (h : mi_ok M) {a : Nat} (ha : a < M.1) {x : mi_E} : mi_ok (mi_up M a x) := by
  intro k hk
  have hk' : M.1 ≤ k := hk
  show (if k = a then x else M.2 k) = mi_dead
  rw [if_neg (by omega)]
  exact h k hk'
theorem mi_ok_push {M : mi_M} (h : mi_ok M) {x : mi_E} : mi_ok (mi_push M x) := by
  intro k hk
  have hk' : M.1 + 1 ≤ k := hk
  show (if k = M.1 then x else M.2 k) = mi_dead
  rw [if_neg (by omega)]
  exact h k (by omega)
/-- the locals -/
def mi_has (h0 : Nat) (ls : Array Slot) (n : Nat) (L : mi_L) : Prop := ls.size = n ∧ L.length = n ∧ lv_wf ls ∧ ∀ (i : Nat) (v : Value), L[i]? = some (some v) → ls[i]? = some (.val (mi_cv h0 v)) ∧ v.category = 1
def mi_al (h0 : Nat) (L : mi_L) : List (Nat × Value) := (List.range L.length).filterMap fun i => match L[i]? with
  | some (some v) => some (i, mi_cv h0 v)
  | _ => none
theorem mi_al_mem {h0 : Nat} {L : mi_L} {q : Nat × Value} : q ∈ mi_al h0 L ↔ ∃ v, L[q.1]? = some (some v) ∧ q.2 = mi_cv h0 v := by
  obtain ⟨i, w⟩ := q
  unfold mi_al
  rw [List.mem_filterMap]
  constructor
  · rintro ⟨j, hj, h⟩
    split at h
    next v hv =>
      cases h
      exact ⟨v, hv, rfl⟩
    next => cases h
  · rintro ⟨v, h1, h2⟩
    have hl : i < L.length := (List.getElem?_eq_some_iff.mp h1).1
    refine ⟨i, List.mem_range.mpr hl, ?_⟩
    show (match L[i]? with | some (some v) => some (i, mi_cv h0 v) | _ => none) = some (i, w)
    rw [show L[i]? = some (some v) from h1]
    show some (i, mi_cv h0 v) = some (i, w)
    rw [show w = mi_cv h0 v from h2]
theorem mi_has.lv {h0 : Nat} {ls : Array Slot} {n : Nat} {L : mi_L} (h : mi_has h0 ls n L) : lv_has ls n (mi_al h0 L) := by
  refine ⟨h.1, h.2.2.1, fun q hq => ?_⟩
  obtain ⟨v, h1, h2⟩ := mi_al_mem.mp hq
  rw [h2]
  exact (h.2.2.2 q.1 v h1).1
theorem mi_has.st {h0 : Nat} {ls ls' : Array Slot} {n : Nat} {L : mi_L} (h : mi_has h0 ls n L) {i : Nat} {v : Value} (hc : v.category = 1)
    (h' : lv_has ls' n ((i, mi_cv h0 v) :: (mi_al h0 L).filter (fun q => !(q.1 == i) && !(q.1 + 1 == i && q.2.category == 2)))) : mi_has h0 ls' n (L.set i (some v)) := by
  refine ⟨h'.1, by rw [List.length_set]; exact h.2.1, h'.2.1, fun j w hj => ?_⟩
  rw [List.getElem?_set] at hj
  by_cases hij : i = j
  · subst hij
    rw [if_pos rfl] at hj
    split at hj
    · cases hj
      exact ⟨h'.2.2 (i, mi_cv h0 v) List.mem_cons_self, hc⟩
    · cases hj
  · rw [if_neg hij] at hj
    obtain ⟨-, h2⟩ := h.2.2.2 j w hj
    refine ⟨h'.2.2 (j, mi_cv h0 w) (List.mem_cons_of_mem _ (List.mem_filter.mpr ⟨mi_al_mem.mpr ⟨w, hj, rfl⟩, ?_⟩)), h2⟩
    have e1 : (mi_cv h0 w).category = 1 := by rw [mi_cat]; exact h2
    simp [e1, Ne.symm hij]
theorem mi_has.ent {h0 : Nat} {av : List Value} {n : Nat} (hn : av.length ≤ n) (hc : mi_c1 av = true) : mi_has h0 ((lg_sl (av.map (mi_cv h0)) ++ List.replicate (n - (lg_sl (av.map (mi_cv h0))).length) Slot.unset).toArray) n (av.map some ++ List.replicate (n - av.length) none) := by
  have hc' : ∀ v ∈ av, v.category = 1 := fun v hv => by simpa using List.all_eq_true.mp hc v hv
  have e0 : lg_sl (av.map (mi_cv h0)) = av.map (fun v => Slot.val (mi_cv h0 v)) := by
    clear hn hc
    induction av with
    | nil => rfl
    | cons v t ih =>
      have h1 : (mi_cv h0 v).category = 1 := by rw [mi_cat]; exact hc' v List.mem_cons_self
      have h2 := ih (fun w hw => hc' w (List.mem_cons_of_mem _ hw))
      simp only [lg_sl, List.map_cons, List.flatMap_cons, h1] at h2 ⊢
      rw [h2]
      rfl
  have hle : (lg_sl (av.map (mi_cv h0))).length ≤ n := by rw [e0]; simpa using hn
  have h1 := lv_entry (av.map (mi_cv h0)) hle
  refine ⟨h1.1, by simp; omega, h1.2.1, fun i v hv => ?_⟩
  rw [e0]
  by_cases hi : i < av.length
  · rw [List.getElem?_append_left (by simpa using hi)] at hv
    simp only [List.getElem?_map, Option.map_eq_some_iff, Option.some.injEq] at hv
    obtain ⟨w, hw, rfl⟩ := hv
    refine ⟨?_, hc' w (List.mem_of_getElem? hw)⟩
    rw [List.getElem?_toArray, List.getElem?_append_left (by simpa using hi)]
    simp [hw]
  · rw [List.getElem?_append_right (by simpa using hi)] at hv
    have := List.eq_of_mem_replicate (List.mem_of_getElem? hv)
    cases this
def mi_B (h0 : Nat) (D : va_G) (ca : Nat → ClassId) (M : mi_M) (t : State) : Prop := t.heap.size = h0 + M.1 ∧ va_P D vwCl (mi_ws h0 ca M) t.heap ∧ va_K D vwCl (mi_tys ca) t ∧ mi_NW t ∧ mi_ok M
def mi_Qc (h0 : Nat) (D : va_G) (ca : Nat → ClassId) (Q : mi_R) : Array Value → State → Outcome → State → Prop := fun _ st oc t => (∃ (r : Option Value) (M : mi_M), oc = .returned (r.map (mi_cv h0)) ∧ Q r M ∧ mi_B h0 D ca M t) ∧ va_F (fun q => h0 ≤ q) st t
def mi_Met (l : Launch) (d k : Nat) (av : List Value) (M : mi_M) (Q : mi_R) : Prop := ∀ (h0 : Nat) (D : va_G) (ca : Nat → ClassId), Met l (mi_y k) (mi_wd k) (mi_rm d k) (va_Pc (av.map (mi_cv h0)) (mi_B h0 D ca M)) (mi_Qc h0 D ca Q) (mi_mc k) (mi_sl k) (fun q => h0 ≤ q)
def mi_Sd (p : Program) (l : Launch) (e : Env) (R : Room) (s : State) (m : MethodId) (args : Array Value) (below : List Frame) (meth : Method) (c : Code) (D : va_G) (ca : Nat → ClassId) (h0 nL mc ms : Nat) (Qc : Array Value → State → Outcome → State → Prop) (pc : Nat) : mi_K := fun L S kc ks M =>
  ∀ (H : Heap) (locs : List Loc) (ls : Array Slot), H.size = h0 + M.1 → va_P D vwCl (mi_ws h0 ca M) H → va_S (fun q => h0 ≤ q) s.heap H locs → mi_has h0 ls nL L → mi_ok M → kc ≤ mc → ks ≤ ms → W p l e R s m args below meth c H locs kc ks (MQ below Qc args s mc ms (fun q => h0 ≤ q)) (F0 m pc ls (S.map (mi_cv h0)))
theorem mi_NW.moved {s U : State} (hW : s.WarmedH U.vm) (h : mi_NW s) : mi_NW U := by
  refine ⟨fun w hw hn => ?_, h.2.moved hW.alike⟩
  have h1 := h.1 w hw hn
  cases w <;> first | exact h1.warmF hW | exact h1.warmM hW | (exact absurd hn (by simp [mi_isN]))
theorem mi_NW.same {s U : State} (hv : s.vm = U.vm) (h : mi_NW s) : mi_NW U := by
  refine ⟨fun w hw hn => ?_, h.2.moved (by rw [hv]; exact Vm.Alike.refl _)⟩
  have h1 := h.1 w hw hn
  refine h1.same ?_ hv
  cases w <;> first | rfl | (exact absurd hn (by simp [mi_isN]))
end
section
/-! ===== what a table's entry must be, for the machine to do it ===== -/
def mi_ln : Instr → Nat
  | .bipush _ | .iload _ | .aload _ | .istore _ | .astore _ | .newarray _ => 2
  | .sipush _ | .ldc_w _ | .ldc2_w _ | .iinc _ _ | .goto _ | .ifCond _ _ | .if_icmp _ _ | .getfield _ | .putfield _ | .new _ | .anewarray _ | .invokevirtual _ | .invokestatic _ | .invokespecial _ => 3
  | _ => 1
def mi_CF : Prop := ∀ (ci : Nat) (q : vw_C), vwCl[ci]? = some q → (∀ w ∈ u_ws q.1 q.2.1 q.2.2, w ∈ mi_gd) ∧ (∀ k, k < q.2.2 → parseFieldDescriptor (q.2.1 k).2.2.1 = some (mi_tyf ci k)) ∧ (∀ a, a < q.2.2 → ∀ b, b < q.2.2 → a ≠ b → (q.2.1 a).2.1 ≠ (q.2.1 b).2.1) ∧ Cond.instantiable q.1 q.2.2 ∈ mi_gd ∧ Cond.initialized q.1 ∈ mi_gd ∧ ci ≤ 12
/-- a field's place in the pool of class w: slot k of class ci; nest: whether by the nest -/
def mi_fs (w ix ci k : Nat) (nest : Bool) : Prop := ∃ q : vw_C, vwCl[ci]? = some q ∧ k < q.2.2 ∧ match nest with
  | false => Cond.fieldLink (mi_cn w) ix (q.2.1 k).1 (q.2.1 k).2.1 (q.2.1 k).2.2.1 ∈ mi_gd
  | true => ∃ host, Cond.fieldLinkNest (mi_cn w) ix (q.2.1 k).1 (q.2.1 k).2.1 (q.2.1 k).2.2.1 host ∈ lw_tbl
def mi_fin (ci k : Nat) : Bool := match vwCl[ci]? with
  | some q => (q.2.1 k).2.2.2
  | none => true
def mi_cs (w ix k : Nat) : Prop := Cond.methodLink (mi_cn w) ix (mi_y k) ∈ mi_gd ∨ ∃ host, Cond.methodLinkNest (mi_cn w) ix (mi_y k) host ∈ lw_tbl
/-- what is so of each method -/
def mi_MF (k : Nat) : Prop := Cond.code (mi_y k) (mi_code k) (mi_maxL k) (mi_rt k) ∈ mi_gd ∧ Cond.initialized (mi_y k).cls ∈ mi_gd ∧ (mi_y k).cls = mi_cn (mi_own k) ∧ plainName (mi_y k).cls = true ∧ ((mi_y k).cls ≠ "java/lang/invoke/MethodHandle" ∧ (mi_y k).cls ≠ "java/lang/invoke/VarHandle") ∧ mi_maxL k ≤ 12 ∧ mi_na k ≤ mi_maxL k
def mi_inst (k : Nat) : Prop := Cond.instanceMethod (mi_y k) ∈ mi_gd ∧ (parseMethodDescriptor (mi_y k).desc).map (fun d => d.parameters.length + 1) = some (mi_na k)
def mi_stc (k : Nat) : Prop := Cond.static (mi_y k) ∈ mi_gd ∧ (parseMethodDescriptor (mi_y k).desc).map (fun d => d.parameters.length) = some (mi_na k)
def mi_st (k : Nat) (e : mi_I) : Prop := match e with
  | (pc, i, len, r1, r2, r3) => match i with
    | .tableswitch _ _ _ _ => True
    | i => len = mi_ln i ∧ match i with
      | .getfield ix => ∃ n, mi_fs (mi_own k) ix r1 r2 n
      | .putfield ix => ∃ n, mi_fs (mi_own k) ix r1 r2 n ∧ (mi_fin r1 r2 = false ∨ (n = false ∧ (mi_y k).name = "<init>" ∧ r1 = mi_own k ∧ (mi_own k) ≤ 12))
      | .ldc_w ix => Cond.constant (mi_cn (mi_own k)) ix (Int32.ofNat r1) ∈ mi_gd
      | .ldc2_w ix => Cond.constantLong (mi_cn (mi_own k)) ix (-1) ∈ mi_gd
      | .goto o => (pc : Int) + o = (r1 : Int)
      | .ifCond _ o => (pc : Int) + o = (r1 : Int)
      | .if_icmp _ o => (pc : Int) + o = (r1 : Int)
      | .new ix => ∃ q : vw_C, vwCl[r1]? = some q ∧ r2 = q.2.2 ∧ Cond.classLink (mi_cn (mi_own k)) ix q.1 ∈ mi_gd
      | .newarray a => Cond.arrayClass (newarray.typeOf a) ∈ mi_gd ∧ ((r1 = 0 ∧ newarray.typeOf a = .int) ∨ (r1 = 1 ∧ newarray.typeOf a = .boolean))
      | .anewarray ix => Cond.classLink (mi_cn (mi_own k)) ix RX6 ∈ mi_gd
      | .invokevirtual ix => mi_cs (mi_own k) ix r1 ∧ r1 < mi_nM ∧ r2 = mi_na r1 ∧ r3 = mi_own r1 ∧ r3 ≤ 12 ∧ mi_inst r1 ∧ Cond.selects (mi_y r1).cls (mi_y r1) (mi_y r1) ∈ mi_gd ∧ mi_mc r1 = 0 ∧ mi_sl r1 = 0
      | .invokestatic ix => if r3 = 1 then Cond.methodLink (mi_cn (mi_own k)) ix Lib.Math.max.name ∈ mi_gd ∧ Cond.static Lib.Math.max.name ∈ mi_gd ∧ Cond.initialized "java/lang/Math" ∈ mi_gd ∧ Cond.code Lib.Math.max.name Lib.Math.max.code 2 (some .int) ∈ mi_gd
          else if r3 = 2 then Cond.methodLink (mi_cn (mi_own k)) ix Lib.Math.min.name ∈ mi_gd ∧ Cond.static Lib.Math.min.name ∈ mi_gd ∧ Cond.initialized "java/lang/Math" ∈ mi_gd ∧ Cond.code Lib.Math.min.name Lib.Math.min.code 2 (some .int) ∈ mi_gd
          else mi_cs (mi_own k) ix r1 ∧ r1 < mi_nM ∧ r2 = mi_na r1 ∧ mi_stc r1 ∧ mi_mc r1 = 0 ∧ mi_sl r1 = 0
      | .invokespecial ix => if r1 = 999 then Cond.methodLink (mi_cn (mi_own k)) ix Lib.objectInit ∈ mi_gd ∧ Cond.instanceMethod Lib.objectInit ∈ mi_gd ∧ Cond.code Lib.objectInit ⟨#[0xb1]⟩ 1 none ∈ mi_gd
          else mi_cs (mi_own k) ix r1 ∧ r1 < mi_nM ∧ r2 = mi_na r1 ∧ mi_inst r1 ∧ (mi_y r1).name = "<init>" ∧ mi_rt r1 = none
      | _ => True
def mi_Cx (p : Program) (l : Launch) (e : Env) (R : Room) (s : State) (m : MethodId) (args : Array Value) (meth : Method) (c : Code) (D : va_G) (ca : Nat → ClassId) (h0 d k : Nat) : Prop :=
  p.tables.exec = Jvm.exec ∧ c.code = mi_code k ∧ meth.sig.returnType = mi_rt k ∧ c.maxLocals = mi_maxL k ∧ s.vm.findClass (mi_cn (mi_own k)) = some m.cls ∧ (∀ w ∈ mi_wd k, w.before args s = true) ∧ meth.locks = false ∧ ((mi_y k).name = "<init>" → meth.name = "<init>") ∧ va_K D vwCl (mi_tys ca) s ∧ mi_NW s ∧ h0 ≤ s.heap.size ∧ R = mi_rm (d + 1) k
theorem mi_gdw {k : Nat} {args : Array Value} {s : State} (h : ∀ w ∈ mi_wd k, w.before args s = true) {w : Cond} (hw : w ∈ mi_gd) : w.before args s = true := h w (List.mem_cons_of_mem _ hw)
theorem mi_wdG {k k' : Nat} (h : mi_MF k') : GoodIn (mi_wd k) (mi_wd k') := by
  intro w hw
  have hw' : w ∈ mi_gd := by
    rcases List.mem_cons.mp hw with rfl | hw
    · exact h.1
    · exact hw
  exact ⟨List.mem_cons_of_mem _ hw', good_of_word (List.mem_filter.mp hw').2⟩
theorem mi_fitV {ty : FieldType} {v : Value} (h0 : Nat) (h : mi_fit ty v) : narrow ty (mi_cv h0 v) = mi_cv h0 v ∧ fits ty (mi_cv h0 v) = true := by
  unfold mi_fit at h
  split at h
  · exact ⟨rfl, rfl⟩
  · exact ⟨rfl, rfl⟩
  · rcases h with rfl | rfl <;> exact ⟨rfl, rfl⟩
  · exact ⟨rfl, rfl⟩
  · exact ⟨rfl, rfl⟩
  · exact h.elim
end
section
/-! ===== the machine does what the small machine says: one instruction ===== -/
section MIX
variable {p : Program} {l : Launch} {e : Env} {R : Room} {s : State} {m : MethodId} {args : Array Value} {below : List Frame} {meth : Method} {c : Code} {D : va_G} {ca : Nat → ClassId} {h0 d k : Nat}
theorem mi_goon {Q : mi_R} {Qw : State → Prop} {H : Heap} {locs : List Loc} {cells slots mc ms pc : Nat} {ls : Array Slot} {st0 rest : List Value} {a : Array Value}
    (hr : va_Run p l e R s m args below meth c H locs cells slots mc ms (F0 m pc ls st0) rest (mi_Qc h0 D ca Q a) (fun q => h0 ≤ q)) (hS : va_S (fun q => h0 ≤ q) s.heap H locs)
    (kk : ∀ (r : Option Value) (M' : mi_M) (H1 : Heap) (locs1 : List Loc), Q r M' → H1.size = h0 + M'.1 → va_P D vwCl (mi_ws h0 ca M') H1 → mi_ok M' → va_S (fun q => h0 ≤ q) s.heap H1 locs1 → W p l e R s m args below meth c H1 locs1 (cells + mc) (slots + ms) Qw (F0 m (pc + 3) ls ((r.map (mi_cv h0)).toList ++ rest))) : W p l e R s m args below meth c H locs cells slots Qw (F0 m pc ls st0) := by
  intro T hT X
  obtain ⟨v, st₀, t, T', L, g0, X', hL, e1, e2, ⟨⟨r, M', hv, hq, hb⟩, hz, hk⟩, st⟩ := hr T hT X
  have hv' : v = r.map (mi_cv h0) := Outcome.returned.inj hv
  subst hv'
  rw [g0] at hz hk
  obtain ⟨b1, b2, b3, b4, b5⟩ := hb
  obtain ⟨t2, a1, c1⟩ := kk r M' T'.heap (locs ++ L) hq (by rw [e1]; exact b1) (by rw [e1]; exact b2) b5
    ⟨Nat.le_trans hS.1 (by rw [e1]; exact hz), fun q h1 h2 => by rw [e1, hk q (Nat.lt_of_lt_of_le h1 hS.1) h2]; exact hS.2.1 q h1 h2, fun q hq => by
      rcases List.mem_append.mp hq with h | h
      · exact hS.2.2 q h
      · exact hL q h⟩ T' rfl X'
  exact ⟨t2, st t2 a1, c1⟩
theorem mi_blind {av : List Value} {M : mi_M} : FrameBlind (va_Pc (av.map (mi_cv h0)) (mi_B h0 D ca M)) := fun a U g mk q => ⟨q.1, q.2.1, q.2.2.1, va_K.moved (u := U) (U := U.calling g mk a) (Vm.Alike.refl U.vm) q.2.2.2.1, mi_NW.same (s := U) (U := U.calling g mk a) rfl q.2.2.2.2.1, q.2.2.2.2.2⟩
theorem mi_Bat {M : mi_M} {H : Heap} {U : State} (hK : va_K D vwCl (mi_tys ca) s) (hN : mi_NW s) (hz : H.size = h0 + M.1) (hP : va_P D vwCl (mi_ws h0 ca M) H) (ho : mi_ok M) (hU : U.heap = H) (hW : s.WarmedH U.vm) : mi_B h0 D ca M U :=
  ⟨by rw [hU]; exact hz, by rw [hU]; exact hP, va_K.moved hW.alike hK, hN.moved hW, ho⟩
theorem mi_wsO {M : mi_M} {a ci : Nat} {fs : List Value} (ho : mi_ok M) (hci : ci ≤ 12) (h : M.2 a = .inr (ci, fs)) : a < M.1 ∧ (mi_ws h0 ca M)[a]? = some (h0 + a, .inr (ci, fs.map (mi_cv h0))) := by
  have ha : a < M.1 := mi_lt ho (by
    rw [h]
    intro q
    have : ci = 99 := (Prod.mk.inj (Sum.inr.inj q)).1
    omega)
  refine ⟨ha, ?_⟩
  rw [mi_ws_at ha, h]
  rfl
theorem mi_wsI {M : mi_M} {a t n : Nat} {f : Nat → Int32} (ho : mi_ok M) (h : M.2 a = .inl (t, n, .inl f)) : a < M.1 ∧ (mi_ws h0 ca M)[a]? = some (h0 + a, .inl (ca t, n, .inl f)) := by
  have ha : a < M.1 := mi_lt ho (by rw [h]; intro q; cases q)
  refine ⟨ha, ?_⟩
  rw [mi_ws_at ha, h]
  rfl
theorem mi_wsQ {M : mi_M} {a t n : Nat} {f : Nat → Option Nat} (ho : mi_ok M) (h : M.2 a = .inl (t, n, .inr (.inr (.inr (.inr f))))) : a < M.1 ∧ (mi_ws h0 ca M)[a]? = some (h0 + a, .inl (ca t, n, .inr (.inr (.inr (.inr fun i => (f i).map (fun q => h0 + q)))))) := by
  have ha : a < M.1 := mi_lt ho (by rw [h]; intro q; cases q)
  refine ⟨ha, ?_⟩
  rw [mi_ws_at ha, h]
  rfl
theorem mi_S8 {S : List Value} (h : mi_w8 S = true) : ((S.map (mi_cv h0)).map fun v => v.category).sum ≤ 8 := by
  have h1 : ((S.map (mi_cv h0)).map fun v => v.category) = S.map fun v => v.category := by
    rw [List.map_map]
    apply List.map_congr_left
    intro v _
    exact mi_cat h0 v
  rw [h1]
  exact of_decide_eq_true h
theorem mi_cnq : ∀ ci, ci ≤ 12 → ∃ q, vwCl[ci]? = some q ∧ q.1 = mi_cn ci := by
  intro ci h
  match ci, h with
  | 0, _ => exact ⟨_, rfl, rfl⟩
  | 1, _ => exact ⟨_, rfl, rfl⟩
  | 2, _ => exact ⟨_, rfl, rfl⟩
  | 3, _ => exact ⟨_, rfl, rfl⟩
  | 4, _ => exact ⟨_, rfl, rfl⟩
  | 5, _ => exact ⟨_, rfl, rfl⟩
  | 6, _ => exact ⟨_, rfl, rfl⟩
  | 7, _ => exact ⟨_, rfl, rfl⟩
  | 8, _ => exact ⟨_, rfl, rfl⟩
  | 9, _ => exact ⟨_, rfl, rfl⟩
  | 10, _ => exact ⟨_, rfl, rfl⟩
  | 11, _ => exact ⟨_, rfl, rfl⟩
  | 12, _ => exact ⟨_, rfl, rfl⟩
/-- a new cell -/
theorem mi_grow {M : mi_M} {H H1 : Heap} {locs : List Loc} {x : mi_E} (hz : H.size = h0 + M.1) (hP : va_P D vwCl (mi_ws h0 ca M) H) (hS : va_S (fun q => h0 ≤ q) s.heap H locs) (z1 : H1.size = H.size + 1) (o1 : ∀ q, q < H.size → H1[q]? = H[q]?) (hx : va_at D vwCl (H.size, mi_ce h0 ca x) H1) :
    H1.size = h0 + (mi_push M x).1 ∧ va_P D vwCl (mi_ws h0 ca (mi_push M x)) H1 ∧ va_S (fun q => h0 ≤ q) s.heap H1 locs := by
  have hk : ∀ (k : Nat) (y : Nat × va_E), (mi_ws h0 ca M)[k]? = some y → H1[y.1]? = H[y.1]? := fun k y hy => o1 y.1 ((hP k y hy).lt)
  refine ⟨by rw [z1, hz]; rfl, ?_, ⟨Nat.le_trans hS.1 (by omega), fun q h1 h2 => (o1 q (Nat.lt_of_lt_of_le h1 hS.1)).trans (hS.2.1 q h1 h2), hS.2.2⟩⟩
  rw [mi_ws_push]
  refine (hP.kept hk).app (fun k y hy => ?_)
  have hz1 : k < 1 := (List.getElem?_eq_some_iff.mp hy).1
  rw [show k = 0 by omega] at hy
  cases hy
  rw [← hz]
  exact hx
theorem mi_hK0 (hK : va_K D vwCl (mi_tys ca) s) {ty : FieldType} {t : Nat} (h : (mi_tys ca)[t]? = some (ca t, ty)) {cA : ClassId} (hf : s.vm.findClass ("[" ++ ty.toString) = some cA) : cA = ca t := by
  have h1 := (hK.2 t _ h).2
  cases ty with
  | object C =>
    obtain ⟨kA, comp, -, -, -, h4⟩ := h1
    exact Option.some.inj (hf.symm.trans h4)
  | _ => exact Option.some.inj (hf.symm.trans h1)
theorem mi_dfsV (ci n : Nat) : ∀ j, j < n → defaultValue (mi_tyf ci j) = vp_V ((mi_dfs ci n).map (mi_cv h0)) j := by
  intro j hj
  have h1 : ∀ ty : FieldType, mi_cv h0 (defaultValue ty) = defaultValue ty := fun ty => by cases ty <;> rfl
  simp [vp_V, mi_dfs, hj, h1]
end MIX
end
section
/-! ===== the machine does what the small machine says: fields, arrays, new cells ===== -/
section MIY
variable {p : Program} {l : Launch} {e : Env} {R : Room} {s : State} {m : MethodId} {args : Array Value} {below : List Frame} {meth : Method} {c : Code} {D : va_G} {ca : Nat → ClassId} {h0 d k : Nat}
theorem mi_get (cx : mi_Cx p l e R s m args meth c D ca h0 d k) (cf : mi_CF) {M : mi_M} {H : Heap} {locs : List Loc} {ls : Array Slot} {Qw : State → Prop} {rest : List Value} {kc ks pc ix a ci j : Nat} {n : Bool} {fs : List Value} {v : Value}
    (hP : va_P D vwCl (mi_ws h0 ca M) H) (ho : mi_ok M) (hf : mi_fs (mi_own k) ix ci j n) (ha : M.2 a = .inr (ci, fs)) (hv : fs[j]? = some v) (hd : decode (mi_code k) pc = .ok (.getfield ix, 3))
    (kk : W p l e R s m args below meth c H locs kc ks Qw (F0 m (pc + 3) ls (mi_cv h0 v :: rest))) : W p l e R s m args below meth c H locs kc ks Qw (F0 m pc ls (.ref (h0 + a) :: rest)) := by
  obtain ⟨hx, hb, hr, hml, hown, hts, hlk, hin, hK, hN, hh, hR⟩ := cx
  obtain ⟨q, hq, hj, hl⟩ := hf
  obtain ⟨c1, c2, c3, c4, c5, c6⟩ := cf ci q hq
  obtain ⟨ha', hw⟩ := mi_wsO (h0 := h0) (ca := ca) ho c6 ha
  have hv' : (fs.map (mi_cv h0))[j]? = some (mi_cv h0 v) := by rw [List.getElem?_map, hv]; rfl
  cases n with
  | false => exact va_get hx hb hts (fun w hw => List.mem_cons_of_mem _ (c1 w hw)) hown hK hP a hw hq j hj (mi_gdw hts hl) (fun _ h => h) hv' hd kk
  | true =>
    obtain ⟨host, hl⟩ := hl
    exact va_getN hx hb hts (fun w hw => List.mem_cons_of_mem _ (c1 w hw)) hown hK hP a hw hq j hj (va_Nw.use rfl (hN.1 _ hl rfl)) (fun _ h => h) hv' hd kk
theorem mi_put (cx : mi_Cx p l e R s m args meth c D ca h0 d k) (cf : mi_CF) {M : mi_M} {H : Heap} {locs : List Loc} {ls : Array Slot} {Qw : State → Prop} {rest : List Value} {kc ks pc ix a ci j : Nat} {n : Bool} {fs : List Value} {v : Value}
    (hz : H.size = h0 + M.1) (hP : va_P D vwCl (mi_ws h0 ca M) H) (hS : va_S (fun q => h0 ≤ q) s.heap H locs) (ho : mi_ok M) (hf : mi_fs (mi_own k) ix ci j n) (hfin : mi_fin ci j = false ∨ (n = false ∧ (mi_y k).name = "<init>" ∧ ci = mi_own k ∧ (mi_own k) ≤ 12)) (hft : mi_fit (mi_tyf ci j) v) (ha : M.2 a = .inr (ci, fs)) (hv : j < fs.length) (hd : decode (mi_code k) pc = .ok (.putfield ix, 3))
    (hdecl : ∀ q : vw_C, vwCl[ci]? = some q → ∀ j, j < q.2.2 → (q.2.1 j).1 = q.1)
    (kk : ∀ (H1 : Heap) (locs1 : List Loc), H1.size = h0 + (mi_up M a (.inr (ci, fs.set j v))).1 → va_P D vwCl (mi_ws h0 ca (mi_up M a (.inr (ci, fs.set j v)))) H1 → va_S (fun q => h0 ≤ q) s.heap H1 locs1 → mi_ok (mi_up M a (.inr (ci, fs.set j v))) → W p l e R s m args below meth c H1 locs1 kc ks Qw (F0 m (pc + 3) ls rest)) : W p l e R s m args below meth c H locs kc ks Qw (F0 m pc ls (mi_cv h0 v :: .ref (h0 + a) :: rest)) := by
  obtain ⟨hx, hb, hr, hml, hown, hts, hlk, hini, hK, hN, hh, hR⟩ := cx
  obtain ⟨q, hq, hj, hl⟩ := hf
  obtain ⟨c1, c2, c3, c4, c5, c6⟩ := cf ci q hq
  obtain ⟨ha', hw⟩ := mi_wsO (h0 := h0) (ca := ca) ho c6 ha
  have hin : ∀ w ∈ u_ws q.1 q.2.1 q.2.2, w ∈ mi_wd k := fun w hw => List.mem_cons_of_mem _ (c1 w hw)
  have hD := mi_wsD (h0 := h0) (ca := ca) (M := M)
  have hap := va_apart (own := mi_cn (mi_own k)) hts hin (mi_tyf ci) c2 c3 hK hq
  have hv' : j < (fs.map (mi_cv h0)).length := by rw [List.length_map]; exact hv
  have hst : (fs.map (mi_cv h0)).set j (mi_cv h0 v) = (fs.set j v).map (mi_cv h0) := by rw [List.map_set]
  obtain ⟨r, h1, cell, q1, q2, q3, q4⟩ := hP a _ hw
  have hrq : r = q := Option.some.inj (h1.symm.trans hq)
  subst hrq
  obtain ⟨hS1, hfc, kC, hkC, hkind⟩ := hK.1 ci _ hq
  obtain ⟨cf0, kf, fi, f, hi, hsl⟩ := hS1 j hj
  obtain ⟨hn1, hn2⟩ := mi_fitV h0 hft
  have hst1 := (u_facts hfc hkC (u_lays hts hin hj) hi).1
  have fin : ∀ (H' : Heap), H'[h0 + a]? = some (cell.setSlot (D.2 ci j) (mi_cv h0 v)) → H'.size = H.size → (∀ x, x ≠ h0 + a → H'[x]? = H[x]?) → W p l e R s m args below meth c H' (locs ++ [⟨h0 + a, D.2 ci j⟩]) kc ks Qw (F0 m (pc + 3) ls rest) := by
    intro H' e1 e2 e3
    refine kk H' _ (by rw [e2, hz]; rfl) ?_ (hS.put e2 e3 (Nat.le_add_right _ _)) (mi_ok_up ho ha')
    rw [mi_ws_up]
    refine hP.set hD hw ⟨r, hq, ?_⟩ e3
    show t_OB (h0 + a) (D.1 ci) r.2.2 (D.2 ci) H' (vp_V ((fs.set j v).map (mi_cv h0)))
    rw [← hst]
    exact t_OB.to (V := updV (vp_V (fs.map (mi_cv h0))) j (mi_cv h0 v)) ⟨_, e1, q2, q3, t_set q4 hap hj (mi_cv h0 v)⟩ (fun i _ => vp_updV_set hv' (mi_cv h0 v) i)
  by_cases hfi : mi_fin ci j = false
  · have hfi' : (r.2.1 j).2.2.2 = false := by
      unfold mi_fin at hfi
      rw [hq] at hfi
      exact hfi
    have hlay := hts _ (hin _ (u_in_lay hj))
    unfold u_lay at hlay
    rw [if_neg (by rw [hfi']; decide)] at hlay
    have h6 := u_store hfc hkC hkind hlay hi (c2 j hj) hn1 hn2
    cases n with
    | false =>
      refine W.putK hx hb (f := f) ⟨hown, mi_gdw hts hl, ⟨_, _, _, hi⟩, hst1⟩ (by rw [q2]; exact h6) q1 q3 (by rw [hsl]; exact k2_hasslot (q4 j hj)) rfl rfl hd fun H' e1 e2 e3 => ?_
      rw [hsl] at e1 ⊢
      exact fin H' e1 e2 e3
    | true =>
      obtain ⟨host, hl⟩ := hl
      refine va_WputK hx hb (f := f) hown (va_Nw.use rfl (hN.1 _ hl rfl)) hi hst1 (by rw [q2]; exact h6) q1 q3 (by rw [hsl]; exact k2_hasslot (q4 j hj)) rfl rfl hd fun H' e1 e2 e3 => ?_
      rw [hsl] at e1 ⊢
      exact fin H' e1 e2 e3
  · obtain ⟨rfl, hin2, hciw, hw12⟩ := hfin.resolve_left hfi
    have hfi' : (r.2.1 j).2.2.2 = true := by
      unfold mi_fin at hfi
      rw [hq] at hfi
      simpa using hfi
    have hlay := hts _ (hin _ (u_in_lay hj))
    unfold u_lay at hlay
    rw [if_pos hfi'] at hlay
    have hdec : (r.2.1 j).1 = mi_cn (mi_own k) := by
      obtain ⟨q', hq', hn'⟩ := mi_cnq ci c6
      rw [hdecl r hq j hj]
      cases hq.symm.trans hq'
      rw [hn', hciw]
    have hcf : m.cls = cf0 := by
      obtain ⟨_, _, c', _, _, _, -, -, hf', -, -, -, hown2, -⟩ := Cond.laysFinal_spec hlay
      have e1 : c' = cf0 := by have := hi.symm.trans hf'; simp at this; exact this.1.symm
      rw [hdec] at hown2
      rw [← e1]; exact Option.some.inj (hown.symm.trans hown2)
    have h6 := u_fits hfc hkC hkind (Or.inr hlay) hi (c2 j hj) hn1 hn2
    refine W.putFinK hx hb hown (mi_gdw hts hl) hi hst1 hcf (hini hin2) (by rw [q2]; exact h6) q1 q3 (by rw [hsl]; exact k2_hasslot (q4 j hj)) rfl rfl hd fun H' e1 e2 e3 => ?_
    rw [hsl] at e1 ⊢
    exact fin H' e1 e2 e3
theorem mi_astI (cx : mi_Cx p l e R s m args meth c D ca h0 d k) {M : mi_M} {H : Heap} {locs : List Loc} {ls : Array Slot} {Qw : State → Prop} {rest : List Value} {kc ks pc a n : Nat} {f : Nat → Int32} {i x : Int32}
    (hz : H.size = h0 + M.1) (hP : va_P D vwCl (mi_ws h0 ca M) H) (hS : va_S (fun q => h0 ≤ q) s.heap H locs) (ho : mi_ok M) (ha : M.2 a = .inl (0, n, .inl f)) (hin : vp_in i n) (hd : decode (mi_code k) pc = .ok (.iastore, 1))
    (kk : ∀ (H1 : Heap) (locs1 : List Loc), H1.size = h0 + (mi_up M a (.inl (0, n, .inl (upd f i.toNatClampNeg x)))).1 → va_P D vwCl (mi_ws h0 ca (mi_up M a (.inl (0, n, .inl (upd f i.toNatClampNeg x))))) H1 → va_S (fun q => h0 ≤ q) s.heap H1 locs1 → mi_ok (mi_up M a (.inl (0, n, .inl (upd f i.toNatClampNeg x)))) → W p l e R s m args below meth c H1 locs1 kc ks Qw (F0 m (pc + 1) ls rest)) : W p l e R s m args below meth c H locs kc ks Qw (F0 m pc ls (.int x :: .int i :: .ref (h0 + a) :: rest)) := by
  obtain ⟨hx, hb, hr, hml, hown, hts, hlk, hini, hK, hN, hh, hR⟩ := cx
  obtain ⟨ha', hw⟩ := mi_wsI (h0 := h0) (ca := ca) ho ha
  refine W.iast hx hb (hP a _ hw) ((hK.2 0 _ rfl).1 n (fun j => .int (f j))) (fun q => by cases q) (by show ¬ (i < 0 ∨ (arrV _ _ _).slots.size ≤ _); rw [arrV_size]; exact hin) rfl rfl hd fun H1 e1 z oq => ?_
  refine kk H1 _ (by rw [z, hz]; rfl) ?_ (hS.put z oq (Nat.le_add_right _ _)) (mi_ok_up ho ha')
  rw [mi_ws_up]
  refine hP.set mi_wsD hw ?_ oq
  show H1[h0 + a]? = some (vp_cell (ca 0) (n, .inl (upd f i.toNatClampNeg x)))
  rw [e1, vp_cell_i, vp_cell_i, arrV_store]
  congr 2
  funext q
  by_cases hq : q = i.toNatClampNeg
  · subst hq
    simp [updV, upd]
  · simp [updV, upd, hq]
theorem mi_astZ (cx : mi_Cx p l e R s m args meth c D ca h0 d k) {M : mi_M} {H : Heap} {locs : List Loc} {ls : Array Slot} {Qw : State → Prop} {rest : List Value} {kc ks pc a n : Nat} {f : Nat → Int32} {i x : Int32} (hx01 : x = 0 ∨ x = 1)
    (hz : H.size = h0 + M.1) (hP : va_P D vwCl (mi_ws h0 ca M) H) (hS : va_S (fun q => h0 ≤ q) s.heap H locs) (ho : mi_ok M) (ha : M.2 a = .inl (1, n, .inl f)) (hin : vp_in i n) (hd : decode (mi_code k) pc = .ok (.bastore, 1))
    (kk : ∀ (H1 : Heap) (locs1 : List Loc), H1.size = h0 + (mi_up M a (.inl (1, n, .inl (upd f i.toNatClampNeg x)))).1 → va_P D vwCl (mi_ws h0 ca (mi_up M a (.inl (1, n, .inl (upd f i.toNatClampNeg x))))) H1 → va_S (fun q => h0 ≤ q) s.heap H1 locs1 → mi_ok (mi_up M a (.inl (1, n, .inl (upd f i.toNatClampNeg x)))) → W p l e R s m args below meth c H1 locs1 kc ks Qw (F0 m (pc + 1) ls rest)) : W p l e R s m args below meth c H locs kc ks Qw (F0 m pc ls (.int x :: .int i :: .ref (h0 + a) :: rest)) := by
  obtain ⟨hx, hb, hr, hml, hown, hts, hlk, hini, hK, hN, hh, hR⟩ := cx
  obtain ⟨ha', hw⟩ := mi_wsI (h0 := h0) (ca := ca) ho ha
  have hnr : narrow .boolean (.int x) = .int x := by rcases hx01 with rfl | rfl <;> rfl
  refine W.zast hx hb (hP a _ hw) ((hK.2 1 _ rfl).1 n (fun j => .int (f j))) (fun q => by cases q) (by show ¬ (i < 0 ∨ (arrV _ _ _).slots.size ≤ _); rw [arrV_size]; exact hin) rfl rfl hd fun H1 e1 z oq => ?_
  refine kk H1 _ (by rw [z, hz]; rfl) ?_ (hS.put z oq (Nat.le_add_right _ _)) (mi_ok_up ho ha')
  rw [mi_ws_up]
  refine hP.set mi_wsD hw ?_ oq
  show H1[h0 + a]? = some (vp_cell (ca 1) (n, .inl (upd f i.toNatClampNeg x)))
  rw [e1, vp_cell_i, vp_cell_i, arrV_store]
  congr 2
  funext q
  by_cases hq : q = i.toNatClampNeg
  · subst hq
    simp [updV, upd, hnr]
  · simp [updV, upd, hq]
theorem mi_astQ (cx : mi_Cx p l e R s m args meth c D ca h0 d k) {M : mi_M} {H : Heap} {locs : List Loc} {ls : Array Slot} {Qw : State → Prop} {rest : List Value} {kc ks pc a b n : Nat} {fs : List Value} {f : Nat → Option Nat} {i : Int32}
    (hz : H.size = h0 + M.1) (hP : va_P D vwCl (mi_ws h0 ca M) H) (hS : va_S (fun q => h0 ≤ q) s.heap H locs) (ho : mi_ok M) (hbb : M.2 b = .inr (6, fs)) (ha : M.2 a = .inl (2, n, .inr (.inr (.inr (.inr f))))) (hin : vp_in i n) (hd : decode (mi_code k) pc = .ok (.aastore, 1))
    (kk : ∀ (H1 : Heap) (locs1 : List Loc), H1.size = h0 + (mi_up M a (.inl (2, n, .inr (.inr (.inr (.inr (va_up f i.toNatClampNeg (some b)))))))).1 → va_P D vwCl (mi_ws h0 ca (mi_up M a (.inl (2, n, .inr (.inr (.inr (.inr (va_up f i.toNatClampNeg (some b))))))))) H1 → va_S (fun q => h0 ≤ q) s.heap H1 locs1 → mi_ok (mi_up M a (.inl (2, n, .inr (.inr (.inr (.inr (va_up f i.toNatClampNeg (some b)))))))) → W p l e R s m args below meth c H1 locs1 kc ks Qw (F0 m (pc + 1) ls rest)) : W p l e R s m args below meth c H locs kc ks Qw (F0 m pc ls (.ref (h0 + b) :: .int i :: .ref (h0 + a) :: rest)) := by
  obtain ⟨hx, hb, hr, hml, hown, hts, hlk, hini, hK, hN, hh, hR⟩ := cx
  obtain ⟨ha', hw⟩ := mi_wsQ (h0 := h0) (ca := ca) ho ha
  obtain ⟨hb', hwb⟩ := mi_wsO (h0 := h0) (ca := ca) ho (by omega) hbb
  have hlt : i.toNatClampNeg < n := Nat.not_le.mp fun q => hin (Or.inr q)
  have hi0 : ¬ i < 0 := fun q => hin (Or.inl q)
  obtain ⟨r', hr', cellV, g1, g2, g3, -⟩ := hP b _ hwb
  have hcls := (hK.1 6 _ rfl).2
  obtain ⟨kA, comp, k1, k2, k3, -⟩ := (hK.2 2 _ rfl).2
  have hcomp : comp = D.1 6 := Option.some.inj (k3.symm.trans hcls.1)
  subst hcomp
  obtain ⟨kC, hkC, -⟩ := hcls.2
  refine W.aast hx hb (hP a _ hw) (fun q h => by cases h) (fun h => by cases h) k1 k2 rfl hkC ⟨hi0, by show _ < (arrV _ _ _).slots.size; rw [arrV_size]; exact hlt⟩ g1 (fun q h => by rw [g3] at h; cases h) (by rw [g2]; exact hkC) (by rw [g2]; exact va_assign hcls) rfl rfl hd fun H1 e1 z oq => ?_
  refine kk H1 _ (by rw [z, hz]; rfl) ?_ (hS.put z oq (Nat.le_add_right _ _)) (mi_ok_up ho ha')
  rw [mi_ws_up]
  refine hP.set mi_wsD hw ?_ oq
  show H1[h0 + a]? = some (vp_cell (ca 2) (n, .inr (.inr (.inr (.inr fun j => (va_up f i.toNatClampNeg (some b) j).map (fun q => h0 + q))))))
  rw [e1, vp_cell_q, vp_cell_q, arrV_store]
  congr 2
  funext q
  by_cases hq : q = i.toNatClampNeg
  · subst hq
    simp [updV, va_up, va_rf]
  · simp [updV, va_up, hq]
end MIY
end
section
/-! ===== the machine does what the small machine says: calls, ends ===== -/
section MIZ
variable {p : Program} {l : Launch} {e : Env} {R : Room} {s : State} {m : MethodId} {args : Array Value} {below : List Frame} {meth : Method} {c : Code} {D : va_G} {ca : Nat → ClassId} {h0 d k : Nat}
theorem mi_callB (cx : mi_Cx p l e R s m args meth c D ca h0 d k) {k' ix n : Nat} (mf : mi_MF k') (hl : (Cond.methodLink (mi_cn (mi_own k)) ix (mi_y k')).before args s = true) (hn : (parseMethodDescriptor (mi_y k').desc).map (fun d => d.parameters.length) = some n) :
    CallB R s args (mi_cn (mi_own k)) ix (mi_y k') (mi_code k') (mi_maxL k') (mi_rt k') (mi_wd k') (mi_rm d k') (mi_mc k') (mi_sl k') n := by
  obtain ⟨hx, hb, hr, hml, hown, hts, hlk, hini, hK, hN, hh, hR⟩ := cx
  obtain ⟨f1, f2, f3, f4, f5, f6, f7⟩ := mf
  refine callB_of n hts (mi_wdG ⟨f1, f2, f3, f4, f5, f6, f7⟩) rfl rfl rfl (mi_gdw hts f2) hl ⟨f5.1, f5.2, hn⟩ ?_
  subst hR
  exact ⟨Nat.le_refl _, by show 8 + (mi_maxL k' + 11) + 31 * d ≤ 31 * (d + 1); omega⟩
theorem mi_callN (cx : mi_Cx p l e R s m args meth c D ca h0 d k) {k' ix n : Nat} {host : String} (mf : mi_MF k') (hl : va_Nw (.methodLinkNest (mi_cn (mi_own k)) ix (mi_y k') host) s) (hn : (parseMethodDescriptor (mi_y k').desc).map (fun d => d.parameters.length) = some n) :
    va_CN R s args (mi_cn (mi_own k)) ix (mi_y k') host (mi_code k') (mi_maxL k') (mi_rt k') (mi_wd k') (mi_rm d k') (mi_mc k') (mi_sl k') n := by
  obtain ⟨hx, hb, hr, hml, hown, hts, hlk, hini, hK, hN, hh, hR⟩ := cx
  obtain ⟨f1, f2, f3, f4, f5, f6, f7⟩ := mf
  refine va_cnB n hts (mi_wdG ⟨f1, f2, f3, f4, f5, f6, f7⟩) rfl rfl rfl hl (mi_gdw hts f2) ⟨f5.1, f5.2, hn⟩ ?_
  subst hR
  exact ⟨Nat.le_refl _, by show 8 + (mi_maxL k' + 11) + 31 * d ≤ 31 * (d + 1); omega⟩
theorem mi_par {o : Option MethodDescriptor} {n : Nat} (h : o.map (fun d => d.parameters.length + 1) = some (n + 1)) : o.map (fun d => d.parameters.length) = some n := by
  cases o with
  | none => cases h
  | some x =>
    have : x.parameters.length + 1 = n + 1 := Option.some.inj h
    show some x.parameters.length = some n
    rw [Nat.succ.inj this]
/-- the call's run, whatever the kind of the call -/
theorem mi_runV (cx : mi_Cx p l e R s m args meth c D ca h0 d k) {k' ix a ci kc ks pc : Nat} {As rest : List Value} {M : mi_M} {Q : mi_R} {H : Heap} {locs : List Loc} {ls : Array Slot} {fs : List Value} (mf : mi_MF k') (hs : mi_cs (mi_own k) ix k') (hin : mi_inst k') (hsel : Cond.selects (mi_y k').cls (mi_y k') (mi_y k') ∈ mi_gd) (hna : As.length + 1 = mi_na k') (hci : ci = mi_own k') (hc12 : ci ≤ 12) (ha : M.2 a = .inr (ci, fs))
    (hM : mi_Met l d k' (.ref a :: As) M Q) (hz : H.size = h0 + M.1) (hP : va_P D vwCl (mi_ws h0 ca M) H) (ho : mi_ok M) (hl : ls.size = mi_maxL k) (h8 : mi_w8 rest = true) (hd : decode (mi_code k) pc = .ok (.invokevirtual ix, 3)) (hf : kc + mi_mc k' ≤ R.cells ∧ ks + mi_sl k' ≤ R.slots) :
    va_Run p l e R s m args below meth c H locs kc ks (mi_mc k') (mi_sl k') (F0 m pc ls ((As.map (mi_cv h0)).reverse ++ .ref (h0 + a) :: rest.map (mi_cv h0))) (rest.map (mi_cv h0)) (mi_Qc h0 D ca Q (Value.ref (h0 + a) :: As.map (mi_cv h0)).toArray) (fun q => h0 ≤ q) := by
  have cx' := cx
  obtain ⟨hx, hb, hr, hml, hown, hts, hlk, hini, hK, hN, hh, hR⟩ := cx
  obtain ⟨ha', hw⟩ := mi_wsO (h0 := h0) (ca := ca) ho hc12 ha
  obtain ⟨q, hq, hqn⟩ := mi_cnq ci hc12
  have hrecv := va_recv hK hP hq hw
  have hcls : q.1 = (mi_y k').cls := by rw [hqn, hci]; exact mf.2.2.1.symm
  rw [hcls] at hrecv
  have hn : (parseMethodDescriptor (mi_y k').desc).map (fun d => d.parameters.length) = some As.length := mi_par (by rw [hna]; exact hin.2)
  have hpre : PreV s H (mi_y k').cls (h0 + a) (va_Pc ((Value.ref a :: As).map (mi_cv h0)) (mi_B h0 D ca M)) (As.map (mi_cv h0)) := ⟨mi_blind, hrecv, fun U hU hW => ⟨rfl, mi_Bat hK hN hz hP ho hU hW⟩⟩
  rcases hs with hs | ⟨host, hs⟩
  · exact va_runV (n := As.length) ⟨hx, hb, hml, hown, hts⟩ (hM h0 D ca) ⟨mi_callB cx' mf (mi_gdw hts hs) hn, mi_gdw hts hin.1, mi_gdw hts hsel⟩ hpre rfl (by simp) hl rfl (lv_room (mi_S8 h8)) hd hf
  · exact va_runVN (n := As.length) ⟨hx, hb, hml, hown, hts⟩ (hM h0 D ca) ⟨mi_callN cx' mf (hN.1 _ hs rfl) hn, mi_gdw hts hin.1, mi_gdw hts hsel⟩ hpre rfl (by simp) hl rfl (lv_room (mi_S8 h8)) hd hf
theorem mi_runS (cx : mi_Cx p l e R s m args meth c D ca h0 d k) {k' ix kc ks pc : Nat} {As rest : List Value} {M : mi_M} {Q : mi_R} {H : Heap} {locs : List Loc} {ls : Array Slot} (mf : mi_MF k') (hs : mi_cs (mi_own k) ix k') (hin : mi_stc k') (hna : As.length = mi_na k')
    (hM : mi_Met l d k' As M Q) (hz : H.size = h0 + M.1) (hP : va_P D vwCl (mi_ws h0 ca M) H) (ho : mi_ok M) (hl : ls.size = mi_maxL k) (h8 : mi_w8 rest = true) (hd : decode (mi_code k) pc = .ok (.invokestatic ix, 3)) (hf : kc + mi_mc k' ≤ R.cells ∧ ks + mi_sl k' ≤ R.slots) :
    va_Run p l e R s m args below meth c H locs kc ks (mi_mc k') (mi_sl k') (F0 m pc ls ((As.map (mi_cv h0)).reverse ++ rest.map (mi_cv h0))) (rest.map (mi_cv h0)) (mi_Qc h0 D ca Q (As.map (mi_cv h0)).toArray) (fun q => h0 ≤ q) := by
  have cx' := cx
  obtain ⟨hx, hb, hr, hml, hown, hts, hlk, hini, hK, hN, hh, hR⟩ := cx
  have hn : (parseMethodDescriptor (mi_y k').desc).map (fun d => d.parameters.length) = some As.length := by rw [hna]; exact hin.2
  have hpre : PreS s H (va_Pc (As.map (mi_cv h0)) (mi_B h0 D ca M)) (As.map (mi_cv h0)) := ⟨mi_blind, fun U hU hW => ⟨rfl, mi_Bat hK hN hz hP ho hU hW⟩⟩
  rcases hs with hs | ⟨host, hs⟩
  · exact va_runS (n := As.length) ⟨hx, hb, hml, hown, hts⟩ (hM h0 D ca) ⟨mi_callB cx' mf (mi_gdw hts hs) hn, mi_gdw hts hin.1⟩ hpre rfl (by simp) hl rfl (lv_room (mi_S8 h8)) hd hf
  · exact va_runSN (n := As.length) ⟨hx, hb, hml, hown, hts⟩ (hM h0 D ca) ⟨mi_callN cx' mf (hN.1 _ hs rfl) hn, mi_gdw hts hin.1, trivial⟩ hpre rfl (by simp) hl rfl (lv_room (mi_S8 h8)) hd hf
theorem mi_runI (cx : mi_Cx p l e R s m args meth c D ca h0 d k) {k' ix a kc ks pc : Nat} {As rest : List Value} {M : mi_M} {Q : mi_R} {H : Heap} {locs : List Loc} {ls : Array Slot} (mf : mi_MF k') (hs : mi_cs (mi_own k) ix k') (hin : mi_inst k') (hini : (mi_y k').name = "<init>") (hrt : mi_rt k' = none) (hna : As.length + 1 = mi_na k')
    (hM : mi_Met l d k' (.ref a :: As) M Q) (hz : H.size = h0 + M.1) (hP : va_P D vwCl (mi_ws h0 ca M) H) (ho : mi_ok M) (hl : ls.size = mi_maxL k) (h8 : mi_w8 rest = true) (hd : decode (mi_code k) pc = .ok (.invokespecial ix, 3)) (hf : kc + mi_mc k' ≤ R.cells ∧ ks + mi_sl k' ≤ R.slots) :
    va_Run p l e R s m args below meth c H locs kc ks (mi_mc k') (mi_sl k') (F0 m pc ls ((As.map (mi_cv h0)).reverse ++ .ref (h0 + a) :: rest.map (mi_cv h0))) (rest.map (mi_cv h0)) (mi_Qc h0 D ca Q (Value.ref (h0 + a) :: As.map (mi_cv h0)).toArray) (fun q => h0 ≤ q) := by
  have cx' := cx
  obtain ⟨hx, hb, hr, hml, hown, hts, hlk, hini2, hK, hN, hh, hR⟩ := cx
  have hn : (parseMethodDescriptor (mi_y k').desc).map (fun d => d.parameters.length) = some As.length := mi_par (by rw [hna]; exact hin.2)
  have hpre : PreS s H (va_Pc ((Value.ref a :: As).map (mi_cv h0)) (mi_B h0 D ca M)) (.ref (h0 + a) :: As.map (mi_cv h0)) := ⟨mi_blind, fun U hU hW => ⟨rfl, mi_Bat hK hN hz hP ho hU hW⟩⟩
  rcases hs with hs | ⟨host, hs⟩
  · have cb := mi_callB cx' mf (mi_gdw hts hs) hn
    rw [hrt] at cb
    exact va_runI (n := As.length) ⟨hx, hb, hml, hown, hts⟩ (hM h0 D ca) ⟨cb, hini, mi_gdw hts hin.1⟩ hpre rfl (by simp) hl rfl (lv_room (mi_S8 h8)) hd hf
  · have cb := mi_callN cx' mf (hN.1 _ hs rfl) hn
    rw [hrt] at cb
    exact va_runIN (n := As.length) ⟨hx, hb, hml, hown, hts⟩ (hM h0 D ca) ⟨cb, hini, mi_gdw hts hin.1⟩ hpre rfl (by simp) hl rfl (lv_room (mi_S8 h8)) hd hf
end MIZ
end
section
/-! ===== the machine does what the small machine says ===== -/
section MIW
variable {p : Program} {l : Launch} {e : Env} {R : Room} {s : State} {m : MethodId} {args : Array Value} {below : List Frame} {meth : Method} {c : Code} {D : va_G} {ca : Nat → ClassId} {h0 d k : Nat}
def mi_DC : Prop := ∀ (ci : Nat) (q : vw_C), vwCl[ci]? = some q → ∀ j, j < q.2.2 → (q.2.1 j).1 = q.1
theorem mi_end (cx : mi_Cx p l e R s m args meth c D ca h0 d k) {Q : mi_R} {H : Heap} {locs : List Loc} {M : mi_M} {r : Option Value} (hz : H.size = h0 + M.1) (hP : va_P D vwCl (mi_ws h0 ca M) H) (hS : va_S (fun q => h0 ≤ q) s.heap H locs) (ho : mi_ok M) (hq : Q r M) : ∀ t : State, t.heap = H → s.WarmedH t.vm → mi_Qc h0 D ca Q args s (.returned (r.map (mi_cv h0))) t := by
  obtain ⟨hx, hb, hr, hml, hown, hts, hlk, hini, hK, hN, hh, hR⟩ := cx
  exact fun t ht hW => ⟨⟨r, M, rfl, hq, mi_Bat hK hN hz hP ho ht hW⟩, hS.F ht⟩
theorem mi_spl {S : List Value} {r : Nat} {v : Value} {As : List Value} (h : (S.take r).reverse = v :: As) : S = As.reverse ++ v :: S.drop r := by
  have h1 : S.take r = As.reverse ++ [v] := by
    have := congrArg List.reverse h
    simpa using this
  calc S = S.take r ++ S.drop r := (List.take_append_drop r S).symm
    _ = As.reverse ++ v :: S.drop r := by rw [h1]; simp
set_option maxHeartbeats 4000000 in
set_option maxRecDepth 100000 in
theorem mi_xS (cx : mi_Cx p l e R s m args meth c D ca h0 d k) (cf : mi_CF) (dc : mi_DC) (mf : ∀ k', k' < mi_nM → mi_MF k') {C : mi_C} (hC : ∀ k' av M Q, k' < mi_nM → av.length = mi_na k' → mi_c1 av = true → C k' av M Q → mi_Met l d k' av M Q) {Q Q0 : mi_R} (hQQ : ∀ r M, Q0 r M → Q r M) {pc : Nat} {i : Instr} {len r1 r2 r3 : Nat} (he : mi_st k (pc, i, len, r1, r2, r3)) (hd : decode (mi_code k) pc = .ok (i, len))
    {nx : mi_K} {jp : Nat → mi_K} (hnx : ∀ L S kc ks M, nx L S kc ks M → mi_Sd p l e R s m args below meth c D ca h0 (mi_maxL k) (mi_mc k) (mi_sl k) (mi_Qc h0 D ca Q) (pc + len) L S kc ks M) (hjp : ∀ t L S kc ks M, jp t L S kc ks M → mi_Sd p l e R s m args below meth c D ca h0 (mi_maxL k) (mi_mc k) (mi_sl k) (mi_Qc h0 D ca Q) t L S kc ks M)
    {L : mi_L} {S : List Value} {kc ks : Nat} {M : mi_M} (h : mi_x C (mi_mc k) (mi_sl k) (mi_rt k) Q0 pc i r1 r2 r3 nx jp L S kc ks M) : mi_Sd p l e R s m args below meth c D ca h0 (mi_maxL k) (mi_mc k) (mi_sl k) (mi_Qc h0 D ca Q) pc L S kc ks M := by
  have cx' := cx
  obtain ⟨hx, hb, hr, hml, hown, hts, hlk, hini, hK, hN, hh, hR⟩ := cx
  intro H locs ls hz hP hS hl ho hkc hks
  cases i with
  | iconst n =>
    obtain rfl : len = 1 := he.1
    exact lv_iconst hx hb hd rfl (hnx _ _ _ _ _ h H locs ls hz hP hS hl ho hkc hks)
  | bipush n =>
    obtain rfl : len = 2 := he.1
    exact lv_bipush hx hb hd rfl (hnx _ _ _ _ _ h H locs ls hz hP hS hl ho hkc hks)
  | sipush n =>
    obtain rfl : len = 3 := he.1
    exact lv_sipush hx hb hd rfl (hnx _ _ _ _ _ h H locs ls hz hP hS hl ho hkc hks)
  | ldc_w ix =>
    obtain rfl : len = 3 := he.1
    exact lv_ldcw hx hb hown (mi_gdw hts he.2) hd (hnx _ _ _ _ _ h H locs ls hz hP hS hl ho hkc hks)
  | ldc2_w ix =>
    obtain rfl : len = 3 := he.1
    exact lv_ldc2 hx hb hown (mi_gdw hts he.2) hd (hnx _ _ _ _ _ h H locs ls hz hP hS hl ho hkc hks)
  | lconst n =>
    obtain rfl : len = 1 := he.1
    exact lv_lconst hx hb hd rfl (hnx _ _ _ _ _ h H locs ls hz hP hS hl ho hkc hks)
  | iload j =>
    obtain rfl : len = 2 := he.1
    simp only [mi_x, mi_ldi] at h
    split at h
    next x hj => exact lv_iload hx hb hd (hl.2.2.2 _ _ hj).1 (hnx _ _ _ _ _ h H locs ls hz hP hS hl ho hkc hks)
    next => exact h.elim
  | iload_n j =>
    obtain rfl : len = 1 := he.1
    simp only [mi_x, mi_ldi] at h
    split at h
    next x hj => exact lv_iload_n hx hb hd rfl (hl.2.2.2 _ _ hj).1 (hnx _ _ _ _ _ h H locs ls hz hP hS hl ho hkc hks)
    next => exact h.elim
  | aload j =>
    obtain rfl : len = 2 := he.1
    simp only [mi_x, mi_ldr] at h
    split at h
    next x hj => exact lv_aload hx hb hd (hl.2.2.2 _ _ hj).1 (hnx _ _ _ _ _ h H locs ls hz hP hS hl ho hkc hks)
    next => exact h.elim
  | aload_n j =>
    obtain rfl : len = 1 := he.1
    simp only [mi_x, mi_ldr] at h
    split at h
    next x hj => exact lv_aload_n hx hb hd rfl (hl.2.2.2 _ _ hj).1 (hnx _ _ _ _ _ h H locs ls hz hP hS hl ho hkc hks)
    next => exact h.elim
  | istore j =>
    obtain rfl : len = 2 := he.1
    simp only [mi_x] at h
    split at h
    next x S' => exact lv_istore hx hb hd hl.lv (by rw [← hl.2.1]; exact h.1) rfl (fun ls' hl' => hnx _ _ _ _ _ h.2 H locs ls' hz hP hS (hl.st (v := .int x) rfl hl') ho hkc hks)
    next => exact h.elim
  | istore_n j =>
    obtain rfl : len = 1 := he.1
    simp only [mi_x] at h
    split at h
    next x S' => exact lv_istore_n hx hb hd rfl hl.lv (by rw [← hl.2.1]; exact h.1) rfl (fun ls' hl' => hnx _ _ _ _ _ h.2 H locs ls' hz hP hS (hl.st (v := .int x) rfl hl') ho hkc hks)
    next => exact h.elim
  | astore j =>
    obtain rfl : len = 2 := he.1
    simp only [mi_x] at h
    split at h
    next x S' => exact lv_astore hx hb hd hl.lv (by rw [← hl.2.1]; exact h.1) rfl (fun ls' hl' => hnx _ _ _ _ _ h.2 H locs ls' hz hP hS (hl.st (v := .ref x) rfl hl') ho hkc hks)
    next => exact h.elim
  | astore_n j =>
    obtain rfl : len = 1 := he.1
    simp only [mi_x] at h
    split at h
    next x S' => exact lv_astore_n hx hb hd rfl hl.lv (by rw [← hl.2.1]; exact h.1) rfl (fun ls' hl' => hnx _ _ _ _ _ h.2 H locs ls' hz hP hS (hl.st (v := .ref x) rfl hl') ho hkc hks)
    next => exact h.elim
  | iinc j n =>
    obtain rfl : len = 3 := he.1
    simp only [mi_x, mi_ldi] at h
    split at h
    next x hj =>
      obtain ⟨q, hq⟩ := List.getElem?_of_mem (mi_al_mem (h0 := h0) (q := (j, .int x)).mpr ⟨.int x, hj, rfl⟩)
      have hlt : j < mi_maxL k := by rw [← hl.2.1]; exact (List.getElem?_eq_some_iff.mp hj).1
      exact lv_iinc (k := q) hx hb hd hl.lv hq rfl hlt rfl (fun ls' hl' => hnx _ _ _ _ _ h H locs ls' hz hP hS (hl.st (v := .int (x + Int32.ofInt n)) rfl hl') ho hkc hks)
    next => exact h.elim
  | dup =>
    obtain rfl : len = 1 := he.1
    simp only [mi_x] at h
    split at h
    next v S' => exact lv_dup hx hb hd (by rw [mi_cat]; exact h.1) (hnx _ _ _ _ _ h.2 H locs ls hz hP hS hl ho hkc hks)
    next => exact h.elim
  | dup2 =>
    obtain rfl : len = 1 := he.1
    simp only [mi_x] at h
    split at h
    next v w S' => exact lv_dup2_11 hx hb hd (by rw [mi_cat]; exact h.1) (by rw [mi_cat]; exact h.2.1) (hnx _ _ _ _ _ h.2.2 H locs ls hz hP hS hl ho hkc hks)
    next => exact h.elim
  | pop =>
    obtain rfl : len = 1 := he.1
    simp only [mi_x] at h
    split at h
    next v S' => exact lv_pop hx hb hd (by rw [mi_cat]; exact h.1) (hnx _ _ _ _ _ h.2 H locs ls hz hP hS hl ho hkc hks)
    next => exact h.elim
  | iadd =>
    obtain rfl : len = 1 := he.1
    simp only [mi_x] at h
    split at h
    · exact lv_iadd hx hb hd (hnx _ _ _ _ _ h H locs ls hz hP hS hl ho hkc hks)
    · exact h.elim
  | isub =>
    obtain rfl : len = 1 := he.1
    simp only [mi_x] at h
    split at h
    · exact lv_isub hx hb hd (hnx _ _ _ _ _ h H locs ls hz hP hS hl ho hkc hks)
    · exact h.elim
  | imul =>
    obtain rfl : len = 1 := he.1
    simp only [mi_x] at h
    split at h
    · exact lv_imul hx hb hd (hnx _ _ _ _ _ h H locs ls hz hP hS hl ho hkc hks)
    · exact h.elim
  | idiv =>
    obtain rfl : len = 1 := he.1
    simp only [mi_x] at h
    split at h
    · exact lv_idiv hx hb hd h.1 (hnx _ _ _ _ _ h.2 H locs ls hz hP hS hl ho hkc hks)
    · exact h.elim
  | irem =>
    obtain rfl : len = 1 := he.1
    simp only [mi_x] at h
    split at h
    · exact lv_irem hx hb hd h.1 (hnx _ _ _ _ _ h.2 H locs ls hz hP hS hl ho hkc hks)
    · exact h.elim
  | ineg =>
    obtain rfl : len = 1 := he.1
    simp only [mi_x] at h
    split at h
    · exact lv_ineg hx hb hd (hnx _ _ _ _ _ h H locs ls hz hP hS hl ho hkc hks)
    · exact h.elim
  | iand =>
    obtain rfl : len = 1 := he.1
    simp only [mi_x] at h
    split at h
    · exact lv_iand hx hb hd (hnx _ _ _ _ _ h H locs ls hz hP hS hl ho hkc hks)
    · exact h.elim
  | ior =>
    obtain rfl : len = 1 := he.1
    simp only [mi_x] at h
    split at h
    · exact lv_ior hx hb hd (hnx _ _ _ _ _ h H locs ls hz hP hS hl ho hkc hks)
    · exact h.elim
  | ixor =>
    obtain rfl : len = 1 := he.1
    simp only [mi_x] at h
    split at h
    · exact lv_ixor hx hb hd (hnx _ _ _ _ _ h H locs ls hz hP hS hl ho hkc hks)
    · exact h.elim
  | ishl =>
    obtain rfl : len = 1 := he.1
    simp only [mi_x] at h
    split at h
    · exact lv_ishl hx hb hd (hnx _ _ _ _ _ h H locs ls hz hP hS hl ho hkc hks)
    · exact h.elim
  | ishr =>
    obtain rfl : len = 1 := he.1
    simp only [mi_x] at h
    split at h
    · exact lv_ishr hx hb hd (hnx _ _ _ _ _ h H locs ls hz hP hS hl ho hkc hks)
    · exact h.elim
  | iushr =>
    obtain rfl : len = 1 := he.1
    simp only [mi_x] at h
    split at h
    · exact lv_iushr hx hb hd rfl (hnx _ _ _ _ _ h H locs ls hz hP hS hl ho hkc hks)
    · exact h.elim
  | land =>
    obtain rfl : len = 1 := he.1
    simp only [mi_x] at h
    split at h
    · exact lv_land hx hb hd (hnx _ _ _ _ _ h H locs ls hz hP hS hl ho hkc hks)
    · exact h.elim
  | lor =>
    obtain rfl : len = 1 := he.1
    simp only [mi_x] at h
    split at h
    · exact lv_lor hx hb hd (hnx _ _ _ _ _ h H locs ls hz hP hS hl ho hkc hks)
    · exact h.elim
  | lxor =>
    obtain rfl : len = 1 := he.1
    simp only [mi_x] at h
    split at h
    · exact lv_lxor hx hb hd (hnx _ _ _ _ _ h H locs ls hz hP hS hl ho hkc hks)
    · exact h.elim
  | lshl =>
    obtain rfl : len = 1 := he.1
    simp only [mi_x] at h
    split at h
    · exact lv_lshl hx hb hd rfl (hnx _ _ _ _ _ h H locs ls hz hP hS hl ho hkc hks)
    · exact h.elim
  | lshr =>
    obtain rfl : len = 1 := he.1
    simp only [mi_x] at h
    split at h
    · exact lv_lshr hx hb hd rfl (hnx _ _ _ _ _ h H locs ls hz hP hS hl ho hkc hks)
    · exact h.elim
  | lcmp =>
    obtain rfl : len = 1 := he.1
    simp only [mi_x] at h
    split at h
    · exact W.lcmp hx hb hd (hnx _ _ _ _ _ h H locs ls hz hP hS hl ho hkc hks)
    · exact h.elim
  | goto o =>
    obtain rfl : len = 3 := he.1
    exact lv_goto hx hb hd he.2 (hjp _ _ _ _ _ _ h H locs ls hz hP hS hl ho hkc hks)
  | ifCond cd o =>
    obtain rfl : len = 3 := he.1
    simp only [mi_x] at h
    split at h
    next x S' =>
      cases cd with
      | eq => exact lv_if_eq hx hb hd he.2 (fun q => hjp _ _ _ _ _ _ (h.1 q) H locs ls hz hP hS hl ho hkc hks) (fun q => hnx _ _ _ _ _ (h.2 q) H locs ls hz hP hS hl ho hkc hks)
      | ne => exact lv_if_ne hx hb hd he.2 (fun q => hjp _ _ _ _ _ _ (h.2 q) H locs ls hz hP hS hl ho hkc hks) (fun q => hnx _ _ _ _ _ (h.1 q) H locs ls hz hP hS hl ho hkc hks)
      | lt => exact lv_if_lt hx hb hd he.2 (fun q => hjp _ _ _ _ _ _ (h.1 q) H locs ls hz hP hS hl ho hkc hks) (fun q => hnx _ _ _ _ _ (h.2 q) H locs ls hz hP hS hl ho hkc hks)
      | ge => exact lv_if_ge hx hb hd he.2 (fun q => hjp _ _ _ _ _ _ (h.2 (Int32.not_lt.mpr q)) H locs ls hz hP hS hl ho hkc hks) (fun q => hnx _ _ _ _ _ (h.1 (Int32.not_le.mp q)) H locs ls hz hP hS hl ho hkc hks)
      | gt => exact lv_if_gt hx hb hd he.2 (fun q => hjp _ _ _ _ _ _ (h.2 (Int32.not_le.mpr q)) H locs ls hz hP hS hl ho hkc hks) (fun q => hnx _ _ _ _ _ (h.1 (Int32.not_lt.mp q)) H locs ls hz hP hS hl ho hkc hks)
      | le => exact lv_if_le hx hb hd he.2 (fun q => hjp _ _ _ _ _ _ (h.1 q) H locs ls hz hP hS hl ho hkc hks) (fun q => hnx _ _ _ _ _ (h.2 q) H locs ls hz hP hS hl ho hkc hks)
    next => exact h.elim
  | if_icmp cd o =>
    obtain rfl : len = 3 := he.1
    simp only [mi_x] at h
    split at h
    next y x S' =>
      cases cd with
      | eq => exact lv_icmp_eq hx hb hd he.2 (fun q => hjp _ _ _ _ _ _ (h.1 q) H locs ls hz hP hS hl ho hkc hks) (fun q => hnx _ _ _ _ _ (h.2 q) H locs ls hz hP hS hl ho hkc hks)
      | ne => exact lv_icmp_ne hx hb hd he.2 (fun q => hjp _ _ _ _ _ _ (h.2 q) H locs ls hz hP hS hl ho hkc hks) (fun q => hnx _ _ _ _ _ (h.1 q) H locs ls hz hP hS hl ho hkc hks)
      | lt => exact lv_icmp_lt hx hb hd he.2 (fun q => hjp _ _ _ _ _ _ (h.1 q) H locs ls hz hP hS hl ho hkc hks) (fun q => hnx _ _ _ _ _ (h.2 q) H locs ls hz hP hS hl ho hkc hks)
      | ge => exact lv_icmp_ge hx hb hd he.2 (fun q => hjp _ _ _ _ _ _ (h.2 (Int32.not_lt.mpr q)) H locs ls hz hP hS hl ho hkc hks) (fun q => hnx _ _ _ _ _ (h.1 (Int32.not_le.mp q)) H locs ls hz hP hS hl ho hkc hks)
      | gt => exact lv_icmp_gt hx hb hd he.2 (fun q => hjp _ _ _ _ _ _ (h.2 (Int32.not_le.mpr q)) H locs ls hz hP hS hl ho hkc hks) (fun q => hnx _ _ _ _ _ (h.1 (Int32.not_lt.mp q)) H locs ls hz hP hS hl ho hkc hks)
      | le => exact lv_icmp_le hx hb hd he.2 (fun q => hjp _ _ _ _ _ _ (h.1 q) H locs ls hz hP hS hl ho hkc hks) (fun q => hnx _ _ _ _ _ (h.2 q) H locs ls hz hP hS hl ho hkc hks)
    next => exact h.elim
  | tableswitch dd lo hi os =>
    simp only [mi_x] at h
    split at h
    next x S' =>
      by_cases hq : x.toInt < lo ∨ hi < x.toInt
      · obtain ⟨h1, h2⟩ := h.1 hq
        exact lv_tableOut hx hb hd hq (Int.toNat_of_nonneg h1).symm (hjp _ _ _ _ _ _ h2 H locs ls hz hP hS hl ho hkc hks)
      · have h3 := h.2 hq
        split at h3
        next o ho' => exact lv_tableIn hx hb hd (fun z => hq (Or.inl z)) (fun z => hq (Or.inr z)) ho' (Int.toNat_of_nonneg h3.1).symm (hjp _ _ _ _ _ _ h3.2 H locs ls hz hP hS hl ho hkc hks)
        next => exact h3.elim
    next => exact h.elim
  | getfield ix =>
    obtain rfl : len = 3 := he.1
    obtain ⟨n, hfs⟩ := he.2
    simp only [mi_x, mi_obj] at h
    split at h
    next a S' =>
      split at h
      next ci fs ha =>
        obtain ⟨rfl, h⟩ := h
        split at h
        next v hv => exact mi_get cx' cf hP ho hfs ha hv hd (hnx _ _ _ _ _ h H locs ls hz hP hS hl ho hkc hks)
        next => exact h.elim
      next => exact h.elim
    next => exact h.elim
  | putfield ix =>
    obtain rfl : len = 3 := he.1
    obtain ⟨n, hfs, hfin⟩ := he.2
    simp only [mi_x, mi_obj] at h
    split at h
    next v a S' =>
      obtain ⟨hft, h⟩ := h
      split at h
      next ci fs ha =>
        obtain ⟨rfl, hlt, h⟩ := h
        exact mi_put cx' cf hz hP hS ho hfs hfin hft ha hlt hd (dc _) (fun H1 locs1 g1 g2 g3 g4 => hnx _ _ _ _ _ h H1 locs1 ls g1 g2 g3 hl g4 hkc hks)
      next => exact h.elim
    next => exact h.elim
  | iaload =>
    obtain rfl : len = 1 := he.1
    simp only [mi_x, mi_ints] at h
    split at h
    next j a S' =>
      split at h
      next u n f ha =>
        obtain ⟨rfl, hin, h⟩ := h
        exact va_iald hx hb hK hP a 0 (mi_wsI ho ha).2 rfl hin hd (hnx _ _ _ _ _ h H locs ls hz hP hS hl ho hkc hks)
      next => exact h.elim
    next => exact h.elim
  | baload =>
    obtain rfl : len = 1 := he.1
    simp only [mi_x, mi_ints] at h
    split at h
    next j a S' =>
      split at h
      next u n f ha =>
        obtain ⟨rfl, hin, h⟩ := h
        exact va_zald hx hb hK hP a 1 (mi_wsI ho ha).2 rfl hin hd (hnx _ _ _ _ _ h H locs ls hz hP hS hl ho hkc hks)
      next => exact h.elim
    next => exact h.elim
  | aaload =>
    obtain rfl : len = 1 := he.1
    simp only [mi_x, mi_refs] at h
    split at h
    next j a S' =>
      split at h
      next u n f ha =>
        obtain ⟨rfl, hin, h⟩ := h
        split at h
        next b hbq =>
          refine va_aldq hx hb hK hP a 2 (mi_wsQ ho ha).2 rfl hin hd ?_
          rw [hbq]
          exact hnx _ _ _ _ _ h H locs ls hz hP hS hl ho hkc hks
        next => exact h.elim
      next => exact h.elim
    next => exact h.elim
  | iastore =>
    obtain rfl : len = 1 := he.1
    simp only [mi_x, mi_ints] at h
    split at h
    next x j a S' =>
      split at h
      next u n f ha =>
        obtain ⟨rfl, hin, h⟩ := h
        exact mi_astI cx' hz hP hS ho ha hin hd (fun H1 locs1 g1 g2 g3 g4 => hnx _ _ _ _ _ h H1 locs1 ls g1 g2 g3 hl g4 hkc hks)
      next => exact h.elim
    next => exact h.elim
  | bastore =>
    obtain rfl : len = 1 := he.1
    simp only [mi_x, mi_ints] at h
    split at h
    next x j a S' =>
      obtain ⟨h01, h⟩ := h
      split at h
      next u n f ha =>
        obtain ⟨rfl, hin, h⟩ := h
        exact mi_astZ cx' h01 hz hP hS ho ha hin hd (fun H1 locs1 g1 g2 g3 g4 => hnx _ _ _ _ _ h H1 locs1 ls g1 g2 g3 hl g4 hkc hks)
      next => exact h.elim
    next => exact h.elim
  | aastore =>
    obtain rfl : len = 1 := he.1
    simp only [mi_x, mi_obj, mi_refs] at h
    split at h
    next b j a S' =>
      split at h
      next ci fs hbq =>
        obtain ⟨rfl, h⟩ := h
        split at h
        next u n f ha =>
          obtain ⟨rfl, hin, h⟩ := h
          exact mi_astQ cx' hz hP hS ho hbq ha hin hd (fun H1 locs1 g1 g2 g3 g4 => hnx _ _ _ _ _ h H1 locs1 ls g1 g2 g3 hl g4 hkc hks)
        next => exact h.elim
      next => exact h.elim
    next => exact h.elim
  | arraylength =>
    obtain rfl : len = 1 := he.1
    simp only [mi_x, mi_len] at h
    split at h
    next a S' =>
      split at h
      next u n f ha =>
        obtain ⟨hu, h⟩ := h
        rcases hu with rfl | rfl
        · exact va_alen hx hb hK hP a 0 (mi_wsI ho ha).2 (ty := .int) rfl rfl hd (hnx _ _ _ _ _ h H locs ls hz hP hS hl ho hkc hks)
        · exact va_alen hx hb hK hP a 1 (mi_wsI ho ha).2 (ty := .boolean) rfl rfl hd (hnx _ _ _ _ _ h H locs ls hz hP hS hl ho hkc hks)
      next u n f ha =>
        obtain ⟨rfl, h⟩ := h
        exact va_alen hx hb hK hP a 2 (mi_wsQ ho ha).2 (ty := .object RX6) rfl rfl hd (hnx _ _ _ _ _ h H locs ls hz hP hS hl ho hkc hks)
      next => exact h.elim
    next => exact h.elim
  | new ix =>
    obtain rfl : len = 3 := he.1
    obtain ⟨q, hq, rfl, hcl⟩ := he.2
    obtain ⟨c1, c2, c3, c4, c5, c6⟩ := cf r1 q hq
    have hin : ∀ w ∈ u_ws q.1 q.2.1 q.2.2, w ∈ mi_wd k := fun w hw => List.mem_cons_of_mem _ (c1 w hw)
    obtain ⟨h1, h2, h⟩ : kc + 1 ≤ mi_mc k ∧ ks + q.2.2 ≤ mi_sl k ∧ nx L (.ref M.1 :: S) (kc + 1) (ks + q.2.2) (mi_push M (.inr (r1, mi_dfs r1 q.2.2))) := h
    have hKn := hK.1 r1 q hq
    refine W.newcK hx hb hown (mi_gdw hts hcl) (mi_gdw hts c4) (mi_gdw hts c5) rfl hd (by rw [hR]; exact h1) (by rw [hR]; exact h2) hKn.2.1 rfl fun H1 kC hkC e1 z1 o1 => ?_
    obtain ⟨g1, g2, g3⟩ := mi_grow (x := .inr (r1, mi_dfs r1 q.2.2)) hz hP hS z1 o1 ⟨q, hq, (u_born (mi_tyf r1) hts hin hKn hkC e1 c2).to (mi_dfsV r1 q.2.2)⟩
    have := hnx _ _ _ _ _ h H1 locs ls g1 g2 g3 hl (mi_ok_push ho) h1 h2
    rw [hz]
    exact this
  | newarray at_ =>
    obtain rfl : len = 2 := he.1
    obtain ⟨hac, hty⟩ := he.2
    simp only [mi_x] at h
    split at h
    next n S' =>
      obtain ⟨hn, h2000, h1, h2, h⟩ := h
      rcases hty with ⟨rfl, hty⟩ | ⟨rfl, hty⟩
      · refine va_newaK hx hb (mi_gdw hts hac) rfl hd rfl hn rfl (by rw [hty]; show _ * 4 ≤ _; omega) (by rw [hR]; exact h1) (by rw [hR]; exact h2) rfl fun H1 cA e1 z1 o1 hAr hNm => ?_
        rw [hty] at e1 hNm
        have hcA : cA = ca 0 := mi_hK0 hK (t := 0) rfl hNm
        subst hcA
        obtain ⟨g1, g2, g3⟩ := mi_grow (x := .inl (0, n.toNatClampNeg, .inl fun _ => 0)) hz hP hS z1 o1 e1
        have := hnx _ _ _ _ _ h H1 locs ls g1 g2 g3 hl (mi_ok_push ho) h1 h2
        rw [hz]
        exact this
      · refine va_newaK hx hb (mi_gdw hts hac) rfl hd rfl hn rfl (by rw [hty]; show _ * 1 ≤ _; omega) (by rw [hR]; exact h1) (by rw [hR]; exact h2) rfl fun H1 cA e1 z1 o1 hAr hNm => ?_
        rw [hty] at e1 hNm
        have hcA : cA = ca 1 := mi_hK0 hK (t := 1) rfl hNm
        subst hcA
        obtain ⟨g1, g2, g3⟩ := mi_grow (x := .inl (1, n.toNatClampNeg, .inl fun _ => 0)) hz hP hS z1 o1 e1
        have := hnx _ _ _ _ _ h H1 locs ls g1 g2 g3 hl (mi_ok_push ho) h1 h2
        rw [hz]
        exact this
    next => exact h.elim
  | anewarray ix =>
    obtain rfl : len = 3 := he.1
    simp only [mi_x] at h
    split at h
    next n S' =>
      obtain ⟨hn, h2000, h1, h2, h⟩ := h
      refine W.anew hx hb hown (mi_gdw hts he.2) (va_AO.use hN.2) rfl hd rfl hn (by omega) (by rw [hR]; exact h1) (by rw [hR]; exact h2) fun cA kA comp f1 f2 f3 f4 => ?_
      generalize hH1 : H.push ({ cls := cA, slots := Array.replicate n.toNatClampNeg .null, vm := .none } : Cell) = H1
      have z1 : H1.size = H.size + 1 := by rw [← hH1, Array.size_push]
      have e1 : H1[H.size]? = some (arrV cA n.toNatClampNeg (fun _ => .null)) := by rw [← hH1, Array.getElem?_push_size, ← arrV_new]
      have o1 : ∀ q : Nat, q < H.size → H1[q]? = H[q]? := fun q hq => by rw [← hH1, Array.getElem?_push, if_neg (Nat.ne_of_lt hq)]
      have hcA : cA = ca 2 := mi_hK0 hK (t := 2) rfl f1
      subst hcA
      obtain ⟨g1, g2, g3⟩ := mi_grow (x := .inl (2, n.toNatClampNeg, .inr (.inr (.inr (.inr fun _ => none))))) hz hP hS z1 o1 e1
      have := hnx _ _ _ _ _ h H1 locs ls g1 g2 g3 hl (mi_ok_push ho) h1 h2
      rw [hz]
      exact this
    next => exact h.elim
  | invokevirtual ix =>
    obtain rfl : len = 3 := he.1
    obtain ⟨hcs, hlt, hna, hown3, h12, hinst, hsel, hmc, hsl⟩ := he.2
    obtain ⟨hr2, h8, hc1, hrc, hcall⟩ : r2 ≤ S.length ∧ mi_w8 (S.drop r2) = true ∧ mi_c1 (S.take r2) = true ∧ (match (S.take r2).reverse with
      | .ref a :: _ => mi_obj M a r3 fun _ => True
      | _ => False) ∧ C r1 (S.take r2).reverse M fun r M => nx L (r.toList ++ S.drop r2) kc ks M := h
    have hlen : (S.take r2).reverse.length = mi_na r1 := by simp [hr2, ← hna]
    have hc1' : mi_c1 (S.take r2).reverse = true := by simpa [mi_c1] using hc1
    have hMet := hC r1 _ M _ hlt hlen hc1' hcall
    clear hcall
    split at hrc
    next a As hav =>
      simp only [mi_obj] at hrc
      split at hrc
      next ci fs ha =>
        obtain ⟨rfl, -⟩ := hrc
        rw [hav] at hMet hlen
        have hrun := mi_runV (below := below) (locs := locs) (ls := ls) (kc := kc) (ks := ks) (rest := S.drop r2) cx' (mf r1 hlt) hcs hinst hsel (by simpa using hlen) hown3 h12 ha hMet hz hP ho hl.1 h8 hd (by rw [hR, hmc, hsl]; exact ⟨hkc, hks⟩)
        have hst : S.map (mi_cv h0) = (As.map (mi_cv h0)).reverse ++ .ref (h0 + a) :: (S.drop r2).map (mi_cv h0) := by
          conv => lhs; rw [mi_spl hav]
          simp [mi_cv]
        rw [hst]
        refine mi_goon hrun hS fun r M' H1 locs1 hq g1 g2 g3 g4 => ?_
        have := hnx _ _ _ _ _ hq H1 locs1 ls g1 g2 g4 hl g3 hkc hks
        rw [hmc, hsl]
        have e2 : (r.map (mi_cv h0)).toList ++ (S.drop r2).map (mi_cv h0) = (r.toList ++ S.drop r2).map (mi_cv h0) := by cases r <;> simp
        rw [e2]
        exact this
      next => exact hrc.elim
    next => exact hrc.elim
  | invokestatic ix =>
    obtain rfl : len = 3 := he.1
    have he2 := he.2
    simp only [mi_x] at h
    by_cases hm1 : r3 = 1
    · simp only [hm1, if_true] at h he2
      obtain ⟨k1, k2, k3, k4⟩ := he2
      split at h
      next y x S' =>
        have h8 := mi_S8 (h0 := h0) h.1
        exact va_mmax hx hb (by rw [hml]; exact hl.1.symm) hown (mi_gdw hts k1) (mi_gdw hts k2) (mi_gdw hts k3) (mi_gdw hts k4) (by rw [hR]; exact Nat.succ_le_succ (Nat.zero_le _)) (by rw [hR]; show _ + 13 ≤ 31 * (d + 1); omega) (by rw [hR]; exact hkc) (by rw [hR]; exact hks) hd (hnx _ _ _ _ _ h.2 H locs ls hz hP hS hl ho hkc hks)
      next => exact h.elim
    by_cases hm2 : r3 = 2
    · simp only [hm2, show ¬ (2 = 1) from by decide, if_true, if_false] at h he2
      obtain ⟨k1, k2, k3, k4⟩ := he2
      split at h
      next y x S' =>
        have h8 := mi_S8 (h0 := h0) h.1
        exact va_mmin hx hb (by rw [hml]; exact hl.1.symm) hown (mi_gdw hts k1) (mi_gdw hts k2) (mi_gdw hts k3) (mi_gdw hts k4) (by rw [hR]; exact Nat.succ_le_succ (Nat.zero_le _)) (by rw [hR]; show _ + 13 ≤ 31 * (d + 1); omega) (by rw [hR]; exact hkc) (by rw [hR]; exact hks) hd (hnx _ _ _ _ _ h.2 H locs ls hz hP hS hl ho hkc hks)
      next => exact h.elim
    simp only [hm1, hm2, if_false] at h he2
    obtain ⟨hcs, hlt, hna, hinst, hmc, hsl⟩ := he2
    obtain ⟨hr2, h8, hc1, hcall⟩ := h
    have hlen : (S.take r2).reverse.length = mi_na r1 := by simp [hr2, ← hna]
    have hc1' : mi_c1 (S.take r2).reverse = true := by simpa [mi_c1] using hc1
    have hMet := hC r1 _ M _ hlt hlen hc1' hcall
    have hrun := mi_runS (below := below) (locs := locs) (ls := ls) (kc := kc) (ks := ks) (rest := S.drop r2) cx' (mf r1 hlt) hcs hinst hlen hMet hz hP ho hl.1 h8 hd (by rw [hR, hmc, hsl]; exact ⟨hkc, hks⟩)
    have hst : S.map (mi_cv h0) = (((S.take r2).reverse).map (mi_cv h0)).reverse ++ (S.drop r2).map (mi_cv h0) := by
      rw [← List.map_reverse, List.reverse_reverse, ← List.map_append, List.take_append_drop]
    rw [hst]
    refine mi_goon hrun hS fun r M' H1 locs1 hq g1 g2 g3 g4 => ?_
    have := hnx _ _ _ _ _ hq H1 locs1 ls g1 g2 g4 hl g3 hkc hks
    rw [hmc, hsl]
    have e2 : (r.map (mi_cv h0)).toList ++ (S.drop r2).map (mi_cv h0) = (r.toList ++ S.drop r2).map (mi_cv h0) := by cases r <;> simp
    rw [e2]
    exact this
  | invokespecial ix =>
    obtain rfl : len = 3 := he.1
    have he2 := he.2
    simp only [mi_x] at h
    by_cases h9 : r1 = 999
    · simp only [h9, if_true] at h he2
      obtain ⟨k1, k2, k3⟩ := he2
      split at h
      next a S' =>
        exact W.objInit hx hb hown (mi_gdw hts k1) (mi_gdw hts k2) (mi_gdw hts k3) rfl (by rw [hml]; exact hl.1) rfl hd (by rw [hR]; exact Nat.succ_le_succ (Nat.zero_le _))
          (by
            have h8 := mi_S8 (h0 := h0) h.1
            have hmr : (F0 m pc ls ((Value.ref a :: S').map (mi_cv h0))).monitorRoom = 0 := rfl
            rw [hmr, hR]
            show 2 * 0 + _ + 12 ≤ 31 * (d + 1)
            omega) (hnx _ _ _ _ _ h.2 H locs ls hz hP hS hl ho hkc hks)
      next => exact h.elim
    · simp only [h9, if_false] at h he2
      obtain ⟨hcs, hlt, hna, hinst, hini', hrt⟩ := he2
      obtain ⟨hr2, h8, hc1, hb1, hb2, hrc, hcall⟩ := h
      have hlen : (S.take r2).reverse.length = mi_na r1 := by simp [hr2, ← hna]
      have hc1' : mi_c1 (S.take r2).reverse = true := by simpa [mi_c1] using hc1
      have hMet := hC r1 _ M _ hlt hlen hc1' hcall
      clear hcall
      split at hrc
      next a As hav =>
        rw [hav] at hMet hlen
        have hrun := mi_runI (below := below) (locs := locs) (ls := ls) (kc := kc) (ks := ks) (rest := S.drop r2) cx' (mf r1 hlt) hcs hinst hini' hrt (by simpa using hlen) hMet hz hP ho hl.1 h8 hd (by rw [hR]; exact ⟨hb1, hb2⟩)
        have hst : S.map (mi_cv h0) = (As.map (mi_cv h0)).reverse ++ .ref (h0 + a) :: (S.drop r2).map (mi_cv h0) := by
          conv => lhs; rw [mi_spl hav]
          simp [mi_cv]
        rw [hst]
        refine mi_goon hrun hS fun r M' H1 locs1 hq g1 g2 g3 g4 => ?_
        have := hnx _ _ _ _ _ hq H1 locs1 ls g1 g2 g4 hl g3 hb1 hb2
        have e2 : (r.map (mi_cv h0)).toList ++ (S.drop r2).map (mi_cv h0) = (r.toList ++ S.drop r2).map (mi_cv h0) := by cases r <;> simp
        rw [e2]
        exact this
      next => exact hrc.elim
  | ireturn =>
    obtain rfl : len = 1 := he.1
    simp only [mi_x, mi_nar] at h
    split at h
    next x =>
      obtain ⟨hn, h1, h2, hq⟩ := h
      refine W.widen h1 h2 ?_
      have hq' := mi_end cx' (r := some (.int x)) hz hP hS ho (hQQ _ _ hq)
      split at hn
      next hrt => exact W.zret hx hb (hr.trans hrt) (by rcases hn with rfl | rfl <;> rfl) hq' hS.2.2 hd hlk
      next hrt => exact W.zret hx hb (hr.trans hrt) rfl hq' hS.2.2 hd hlk
      next => exact hn.elim
    next => exact h.elim
  | return_ =>
    obtain rfl : len = 1 := he.1
    simp only [mi_x] at h
    split at h
    next =>
      obtain ⟨hrt, h1, h2, hq⟩ := h
      refine W.widen h1 h2 ?_
      exact W.vret hx hb (hr.trans hrt) (mi_end cx' (r := none) hz hP hS ho (hQQ _ _ hq)) hS.2.2 hd hlk
    next => exact h.elim
  | _ => exact (show False from h).elim
end MIW
end
section
/-! ===== a method's contract out of the small machine ===== -/
def mi_ctg : List mi_I → Bool
  | [] => true
  | [_] => true
  | e :: e2 :: t => (e2.1 == e.1 + e.2.2.1) && mi_ctg (e2 :: t)
def mi_TB (k : Nat) : Prop := (∀ e ∈ mi_tab k, mi_st k e) ∧ (∀ e ∈ mi_tab k, decode (mi_code k) e.1 = .ok (e.2.1, e.2.2.1)) ∧ mi_ctg (mi_tab k) = true
def mi_ALL : Prop := mi_CF ∧ mi_DC ∧ (∀ k, k < mi_nM → mi_MF k) ∧ (∀ k, k < mi_nM → mi_TB k)
theorem mi_ctg_tl {e : mi_I} {t : List mi_I} (h : mi_ctg (e :: t) = true) : mi_ctg t = true := by
  cases t with
  | nil => rfl
  | cons e2 t =>
    simp only [mi_ctg, Bool.and_eq_true] at h
    exact h.2
theorem mi_from_spec (t : Nat) : ∀ (tab : List mi_I), mi_ctg tab = true → (∀ e ∈ mi_from tab t, e ∈ tab) ∧ mi_ctg (mi_from tab t) = true ∧ ∀ e tl, mi_from tab t = e :: tl → e.1 = t
  | [], _ => ⟨fun e h => h, rfl, fun e tl h => by cases h⟩
  | a :: tab, h => by
    unfold mi_from
    by_cases ha : a.1 = t
    · rw [if_pos ha]
      exact ⟨fun e h => h, h, fun e tl h => by cases h; exact ha⟩
    · rw [if_neg ha]
      obtain ⟨h1, h2, h3⟩ := mi_from_spec t tab (mi_ctg_tl h)
      exact ⟨fun e h => List.mem_cons_of_mem _ (h1 e h), h2, h3⟩
section MIV
variable {p : Program} {l : Launch} {e : Env} {R : Room} {s : State} {m : MethodId} {args : Array Value} {below : List Frame} {meth : Method} {c : Code} {D : va_G} {ca : Nat → ClassId} {h0 d k : Nat}
theorem mi_goS (cx : mi_Cx p l e R s m args meth c D ca h0 d k) (al : mi_ALL) (hk : k < mi_nM) {C : mi_C} (hC : ∀ k' av M Q, k' < mi_nM → av.length = mi_na k' → mi_c1 av = true → C k' av M Q → mi_Met l d k' av M Q) {Q Q0 : mi_R} (hQQ : ∀ r M, Q0 r M → Q r M) {cuts : List Nat} {P : Nat → mi_K}
    (hPS : ∀ pc L S kc ks M, P pc L S kc ks M → mi_Sd p l e R s m args below meth c D ca h0 (mi_maxL k) (mi_mc k) (mi_sl k) (mi_Qc h0 D ca Q) pc L S kc ks M) :
    ∀ (n : Nat) (a : mi_I) (tl : List mi_I), (∀ q ∈ a :: tl, q ∈ mi_tab k) → mi_ctg (a :: tl) = true → ∀ L S kc ks M, mi_go (mi_X C k Q0) cuts (mi_tab k) P n (a :: tl) L S kc ks M → mi_Sd p l e R s m args below meth c D ca h0 (mi_maxL k) (mi_mc k) (mi_sl k) (mi_Qc h0 D ca Q) a.1 L S kc ks M := by
  intro n
  induction n with
  | zero => intro a tl _ _ L S kc ks M h; exact (show False from h).elim
  | succ n ih =>
    intro a tl hmem hctg L S kc ks M h
    obtain ⟨al1, al2, al3, al4⟩ := al
    obtain ⟨t1, t2, t3⟩ := al4 k hk
    have hst := t1 a (hmem a List.mem_cons_self)
    have hde := t2 a (hmem a List.mem_cons_self)
    obtain ⟨pc, i, len, r1, r2, r3⟩ := a
    rw [mi_go_s] at h
    change mi_x C (mi_mc k) (mi_sl k) (mi_rt k) Q0 pc i r1 r2 r3 (mi_nxt cuts P (mi_go (mi_X C k Q0) cuts (mi_tab k) P n tl) tl) (fun t => mi_jmp cuts P (mi_go (mi_X C k Q0) cuts (mi_tab k) P n (mi_from (mi_tab k) t)) t) L S kc ks M at h
    refine mi_xS cx al1 al2 al3 hC hQQ hst hde ?_ ?_ h
    · intro L S kc ks M hn
      cases tl with
      | nil => exact (show False from hn).elim
      | cons e2 t =>
        simp only [mi_ctg, Bool.and_eq_true, beq_iff_eq] at hctg
        have he2 : e2.1 = pc + len := hctg.1
        rw [← he2]
        by_cases hc : e2.1 ∈ cuts
        · exact hPS _ _ _ _ _ _ (by simpa only [mi_nxt, hc, if_true] using hn)
        · exact ih e2 t (fun q hq => hmem q (List.mem_cons_of_mem _ hq)) hctg.2 L S kc ks M (by simpa only [mi_nxt, hc, if_false] using hn)
    · intro t L S kc ks M hj
      by_cases hc : t ∈ cuts
      · exact hPS _ _ _ _ _ _ (by simpa only [mi_jmp, hc, if_true] using hj)
      · have hj' : mi_go (mi_X C k Q0) cuts (mi_tab k) P n (mi_from (mi_tab k) t) L S kc ks M := by simpa only [mi_jmp, hc, if_false] using hj
        obtain ⟨f1, f2, f3⟩ := mi_from_spec t (mi_tab k) t3
        cases hfr : mi_from (mi_tab k) t with
        | nil =>
          rw [hfr] at hj'
          cases n <;> exact (show False from hj').elim
        | cons e2 t2' =>
          rw [hfr] at hj' f1 f2
          have := ih e2 t2' f1 f2 L S kc ks M hj'
          rwa [f3 e2 t2' hfr] at this
theorem mi_wpS (cx : mi_Cx p l e R s m args meth c D ca h0 d k) (al : mi_ALL) (hk : k < mi_nM) {C : mi_C} (hC : ∀ k' av M Q, k' < mi_nM → av.length = mi_na k' → mi_c1 av = true → C k' av M Q → mi_Met l d k' av M Q) {Q Q0 : mi_R} (hQQ : ∀ r M, Q0 r M → Q r M) {cuts : List Nat} {pc : Nat} {L : mi_L} {S : List Value} {kc ks : Nat} {M : mi_M} (h : mi_WP C k cuts Q0 pc L S kc ks M) :
    mi_Sd p l e R s m args below meth c D ca h0 (mi_maxL k) (mi_mc k) (mi_sl k) (mi_Qc h0 D ca Q) pc L S kc ks M := by
  refine h _ fun P' hP' pc L S kc ks M hF => ?_
  obtain ⟨f1, f2, f3⟩ := mi_from_spec pc (mi_tab k) (al.2.2.2 k hk).2.2
  have hF' : mi_go (mi_X C k Q0) cuts (mi_tab k) P' 400 (mi_from (mi_tab k) pc) L S kc ks M := hF
  cases hfr : mi_from (mi_tab k) pc with
  | nil =>
    rw [hfr] at hF'
    exact (show False from hF').elim
  | cons e2 t2 =>
    rw [hfr] at hF' f1 f2
    have := mi_goS cx al hk hC hQQ hP' 400 e2 t2 f1 f2 L S kc ks M hF'
    rwa [f3 e2 t2 hfr] at this
end MIV
theorem mi_calS (al : mi_ALL) (l : Launch) : ∀ (d k : Nat) (av : List Value) (M : mi_M) (Q : mi_R), k < mi_nM → av.length = mi_na k → mi_c1 av = true → mi_cal d k av M Q → mi_Met l d k av M Q := by
  intro d
  induction d with
  | zero => intro k av M Q _ _ _ h; exact (show False from h).elim
  | succ d ih =>
    intro k av M Q hk hna hc1 h h0 D ca
    have mf := al.2.2.1 k hk
    obtain ⟨f1, f2, f3, f4, f5, f6, f7⟩ := mf
    obtain ⟨cuts, Q0, hQQ, h⟩ := h
    refine Met.ofW (cc := mi_code k) (maxL := mi_maxL k) (ret := mi_rt k) f4 rfl ?_
    intro p e s m args below meth c s₁ B hml hv
    obtain ⟨rfl, b1, b2, b3, b4, b5⟩ := hv
    have hown : s.vm.findClass (mi_y k).cls = some m.cls := findClass_of_methodNamed B.named
    rw [f3] at hown
    have cx : mi_Cx p l e (headSpec (mi_wd k) (mi_rm (d + 1) k)).room s m (av.map (mi_cv h0)).toArray meth c D ca h0 d k := ⟨B.exec, B.bytes, B.returns, hml, hown, atoms_spec (ws := mi_wd k) B.pre, B.notSynchronized, fun hi => (name_of_methodNamed B.named B.method).1.trans hi, b3, b4, by omega, rfl⟩
    rw [lg_entry_eq]
    exact mi_wpS cx al hk ih hQQ h s.heap [] _ b1 b2 va_S.rf (mi_has.ent (by omega) hc1) b5 (Nat.zero_le _) (Nat.zero_le _)
end
section
/-! ===== the flat memory: cells of known shape, their ints a function of cell and place ===== -/
abbrev fl_W : Type := Nat → Nat → Int32
def fl_tb_0 : List (Nat × Nat × List Nat) := [(0, 11, [3, 7, 11, 162, 204, 210, 215, 227, 0, 0, 0, 0, 0]), (0, 4, [4, 5, 6, 0, 0]), (1, 0, [60]), (1, 0, [60]), (1, 0, [20]), (0, 4, [8, 9, 10, 0, 0]), (1, 0, [60]), (1, 0, [60]), (1, 0, [20]), (0, 3, [12, 20, 62, 66, 70, 155, 161, 0, 0, 0, 0, 0]), (0, 0, [13, 14, 15, 16, 17, 18, 0, 0, 0]), (1, 0, [20]), (1, 0, [20]), (1, 0, [20]), (1, 0, [20]), (1, 0, [60]), (0, 6, [19, 0]), (1, 0, [20]), (0, 9, [21]), (2, 20, [20])]
def fl_tb_1 : List (Nat × Nat × List Nat) := [(0, 6, [23, 0]), (1, 0, [20]), (0, 6, [25, 0]), (1, 0, [20]), (0, 6, [27, 0]), (1, 0, [20]), (0, 6, [29, 0]), (1, 0, [20]), (0, 6, [31, 0]), (1, 0, [20]), (0, 6, [33, 0]), (1, 0, [20]), (0, 6, [35, 0]), (1, 0, [20]), (0, 6, [37, 0]), (1, 0, [20]), (0, 6, [39, 0]), (1, 0, [20]), (0, 6, [41, 0]), (1, 0, [20])]
def fl_tb_2 : List (Nat × Nat × List Nat) := [(0, 6, [43, 0]), (1, 0, [20]), (0, 6, [45, 0]), (1, 0, [20]), (0, 6, [47, 0]), (1, 0, [20]), (0, 6, [49, 0]), (1, 0, [20]), (0, 6, [51, 0]), (1, 0, [20]), (0, 6, [53, 0]), (1, 0, [20]), (0, 6, [55, 0]), (1, 0, [20]), (0, 6, [57, 0]), (1, 0, [20]), (0, 6, [59, 0]), (1, 0, [20]), (0, 6, [61, 0]), (1, 0, [20])]
def fl_tb_3 : List (Nat × Nat × List Nat) := [(0, 4, [63, 64, 65, 0, 0]), (1, 0, [60]), (1, 0, [60]), (1, 0, [20]), (0, 4, [67, 68, 69, 0, 0]), (1, 0, [60]), (1, 0, [60]), (1, 0, [20]), (0, 5, [71, 72, 73, 0]), (2, 40, [73]), (1, 0, [40]), (0, 6, [74, 0]), (1, 0, [20]), (0, 6, [76, 0]), (1, 0, [20]), (0, 6, [78, 0]), (1, 0, [20]), (0, 6, [80, 0]), (1, 0, [20]), (0, 6, [82, 0])]
def fl_tb_4 : List (Nat × Nat × List Nat) := [(1, 0, [20]), (0, 6, [84, 0]), (1, 0, [20]), (0, 6, [86, 0]), (1, 0, [20]), (0, 6, [88, 0]), (1, 0, [20]), (0, 6, [90, 0]), (1, 0, [20]), (0, 6, [92, 0]), (1, 0, [20]), (0, 6, [94, 0]), (1, 0, [20]), (0, 6, [96, 0]), (1, 0, [20]), (0, 6, [98, 0]), (1, 0, [20]), (0, 6, [100, 0]), (1, 0, [20]), (0, 6, [102, 0])]
def fl_tb_5 : List (Nat × Nat × List Nat) := [(1, 0, [20]), (0, 6, [104, 0]), (1, 0, [20]), (0, 6, [106, 0]), (1, 0, [20]), (0, 6, [108, 0]), (1, 0, [20]), (0, 6, [110, 0]), (1, 0, [20]), (0, 6, [112, 0]), (1, 0, [20]), (0, 6, [114, 0]), (1, 0, [20]), (0, 6, [116, 0]), (1, 0, [20]), (0, 6, [118, 0]), (1, 0, [20]), (0, 6, [120, 0]), (1, 0, [20]), (0, 6, [122, 0])]
def fl_tb_6 : List (Nat × Nat × List Nat) := [(1, 0, [20]), (0, 6, [124, 0]), (1, 0, [20]), (0, 6, [126, 0]), (1, 0, [20]), (0, 6, [128, 0]), (1, 0, [20]), (0, 6, [130, 0]), (1, 0, [20]), (0, 6, [132, 0]), (1, 0, [20]), (0, 6, [134, 0]), (1, 0, [20]), (0, 6, [136, 0]), (1, 0, [20]), (0, 6, [138, 0]), (1, 0, [20]), (0, 6, [140, 0]), (1, 0, [20]), (0, 6, [142, 0])]
def fl_tb_7 : List (Nat × Nat × List Nat) := [(1, 0, [20]), (0, 6, [144, 0]), (1, 0, [20]), (0, 6, [146, 0]), (1, 0, [20]), (0, 6, [148, 0]), (1, 0, [20]), (0, 6, [150, 0]), (1, 0, [20]), (0, 6, [152, 0]), (1, 0, [20]), (0, 6, [154, 0]), (1, 0, [20]), (0, 7, [156, 157, 159, 0]), (1, 0, [20]), (0, 6, [158, 0]), (1, 0, [20]), (0, 6, [160, 0]), (1, 0, [20]), (1, 0, [400])]
def fl_tb_8 : List (Nat × Nat × List Nat) := [(0, 9, [163]), (2, 20, [162]), (0, 6, [165, 0]), (1, 0, [20]), (0, 6, [167, 0]), (1, 0, [20]), (0, 6, [169, 0]), (1, 0, [20]), (0, 6, [171, 0]), (1, 0, [20]), (0, 6, [173, 0]), (1, 0, [20]), (0, 6, [175, 0]), (1, 0, [20]), (0, 6, [177, 0]), (1, 0, [20]), (0, 6, [179, 0]), (1, 0, [20]), (0, 6, [181, 0]), (1, 0, [20])]
def fl_tb_9 : List (Nat × Nat × List Nat) := [(0, 6, [183, 0]), (1, 0, [20]), (0, 6, [185, 0]), (1, 0, [20]), (0, 6, [187, 0]), (1, 0, [20]), (0, 6, [189, 0]), (1, 0, [20]), (0, 6, [191, 0]), (1, 0, [20]), (0, 6, [193, 0]), (1, 0, [20]), (0, 6, [195, 0]), (1, 0, [20]), (0, 6, [197, 0]), (1, 0, [20]), (0, 6, [199, 0]), (1, 0, [20]), (0, 6, [201, 0]), (1, 0, [20])]
def fl_tb_10 : List (Nat × Nat × List Nat) := [(0, 6, [203, 0]), (1, 0, [20]), (0, 10, [205, 206, 207, 208, 0]), (1, 0, [120]), (1, 0, [400]), (1, 0, [120]), (0, 6, [209, 0]), (1, 0, [120]), (0, 8, [211, 213, 1]), (0, 6, [212, 0]), (1, 0, [60]), (0, 6, [214, 0]), (1, 0, [20]), (0, 2, [216, 217, 218, 219, 221, 223, 225]), (1, 0, [20]), (1, 0, [20]), (1, 0, [20]), (0, 6, [220, 0]), (1, 0, [20]), (0, 6, [222, 0])]
def fl_tb_11 : List (Nat × Nat × List Nat) := [(1, 0, [20]), (0, 6, [224, 0]), (1, 0, [20]), (0, 6, [226, 0]), (1, 0, [20]), (0, 1, [228, 229]), (1, 0, [20]), (0, 6, [230, 0]), (1, 0, [20]), (0, 12, [0, 0, 232, 233, 234, 235, 0, 236, 237, 0, 238, 0, 239, 240, 241, 0, 242, 0, 243, 244, 245, 246, 0, 247, 248, 249, 0, 250, 0, 0, 251, 252, 0, 253, 254, 0, 0, 0, 255, 256, 257, 0, 258, 259, 260, 0, 261, 0, 262]), (1, 0, [61]), (1, 0, [61]), (1, 1, [61]), (1, 0, [61]), (1, 0, [400]), (1, 0, [20]), (1, 0, [60]), (1, 0, [20]), (1, 0, [20]), (1, 0, [20])]
def fl_tb_12 : List (Nat × Nat × List Nat) := [(1, 0, [20]), (1, 0, [20]), (1, 0, [20]), (1, 0, [20]), (1, 0, [20]), (1, 0, [61]), (1, 0, [1200]), (1, 0, [60]), (1, 1, [61]), (1, 0, [61]), (1, 0, [61]), (1, 0, [20]), (1, 0, [20]), (1, 0, [20]), (1, 0, [400]), (1, 0, [120]), (1, 0, [20]), (1, 1, [20]), (1, 0, [20]), (1, 0, [20])]
def fl_tb_13 : List (Nat × Nat × List Nat) := [(1, 0, [20])]
def fl_sh (i : Nat) : Nat × Nat × List Nat := match i / 20 with
  | 0 => fl_tb_0.getD (i % 20) (9, 0, [])
  | 1 => fl_tb_1.getD (i % 20) (9, 0, [])
  | 2 => fl_tb_2.getD (i % 20) (9, 0, [])
  | 3 => fl_tb_3.getD (i % 20) (9, 0, [])
  | 4 => fl_tb_4.getD (i % 20) (9, 0, [])
  | 5 => fl_tb_5.getD (i % 20) (9, 0, [])
  | 6 => fl_tb_6.getD (i % 20) (9, 0, [])
  | 7 => fl_tb_7.getD (i % 20) (9, 0, [])
  | 8 => fl_tb_8.getD (i % 20) (9, 0, [])
  | 9 => fl_tb_9.getD (i % 20) (9, 0, [])
  | 10 => fl_tb_10.getD (i % 20) (9, 0, [])
  | 11 => fl_tb_11.getD (i % 20) (9, 0, [])
  | 12 => fl_tb_12.getD (i % 20) (9, 0, [])
  | 13 => fl_tb_13.getD (i % 20) (9, 0, [])
  | _ => (9, 0, [])
def fl_N : Nat := 261
def fl_B : Nat := 229
end
section
/-! ===== the machine over the flat memory ===== -/
def fl_fl (g : Int64) (Wi : Nat → Int32) : Nat → List Nat → List Value
  | _, [] => []
  | k, q :: l => (match q with
    | 0 => .int (Wi k)
    | 1 => .long g
    | a + 2 => .ref a) :: fl_fl g Wi (k + 1) l
def fl_cell (g : Int64) (W : fl_W) (i : Nat) : mi_E := match fl_sh i with
  | (0, c, l) => .inr (c, fl_fl g (W i) 0 l)
  | (1, t, l) => .inl (t, l.headD 0, .inl (W i))
  | (2, n, l) => .inl (2, n, .inr (.inr (.inr (.inr fun j => if j < n then some (l.headD 0 + 2 * j) else none))))
  | _ => mi_dead
def fl_mk (g : Int64) (W : fl_W) : mi_M := (fl_N, fl_cell g W)
def fl_uw (W : fl_W) (i j : Nat) (x : Int32) : fl_W := fun a => if a = i then upd (W i) j x else W a
abbrev fl_K : Type := mi_L → List Value → fl_W → Prop
abbrev fl_R : Type := Option Value → fl_W → Prop
abbrev fl_C : Type := Nat → List Value → fl_W → fl_R → Prop
def fl_gIb (o ci k : Nat) : Bool := (fl_sh o).1 == 0 && ((fl_sh o).2.1 == ci && (fl_sh o).2.2[k]? == some 0)
def fl_gI (o ci k : Nat) : Prop := fl_gIb o ci k = true
def fl_gR (sh : Nat → Nat × Nat × List Nat) (o ci k : Nat) (K : Nat → Prop) : Prop := match sh o with
  | (0, c, l) => c = ci ∧ (match l[k]? with
    | some (q + 2) => K q
    | _ => False)
  | _ => False
def fl_aI (sh : Nat → Nat × Nat × List Nat) (a t : Nat) (K : Nat → Prop) : Prop := match sh a with
  | (1, u, [n]) => u = t ∧ K n
  | _ => False
def fl_aR (sh : Nat → Nat × Nat × List Nat) (a : Nat) (K : Nat → Nat → Prop) : Prop := match sh a with
  | (2, n, [b]) => K n b
  | _ => False
def fl_isb (a ci : Nat) : Bool := (fl_sh a).1 == 0 && (fl_sh a).2.1 == ci
def fl_is (a ci : Nat) : Prop := fl_isb a ci = true
def fl_rc (av : List Value) (ci : Nat) : Prop := match av with
  | .ref a :: _ => fl_is a ci
  | _ => False
def fl_q0 (K : fl_W → Prop) : fl_R := fun r W => match r with
  | none => K W
  | _ => False
def fl_q1 (K : Int32 → fl_W → Prop) : fl_R := fun r W => match r with
  | some (.int x) => K x W
  | _ => False
def fl_qq (rt : Option FieldType) (nx : List Value → fl_W → Prop) : fl_R := match rt with
  | none => fl_q0 fun W => nx [] W
  | some _ => fl_q1 fun x W => nx [.int x] W
def fl_isI (ty : FieldType) : Bool := match ty with
  | .int => true
  | .boolean => true
  | _ => false
def fl_x (C : fl_C) (rt : Option FieldType) (Q : fl_R) (pc : Nat) (i : Instr) (r1 r2 r3 : Nat) (nx : fl_K) (jp : Nat → fl_K) (L : mi_L) (S : List Value) (W : fl_W) : Prop :=
  match i with
  | .iconst n => nx L (.int (Int32.ofInt n) :: S) W
  | .bipush n => nx L (.int (Int8.ofInt n).toInt32 :: S) W
  | .sipush n => nx L (.int (Int16.ofInt n).toInt32 :: S) W
  | .ldc_w _ => nx L (.int (Int32.ofNat r1) :: S) W
  | .iload j => mi_ldi L j fun x => nx L (.int x :: S) W
  | .iload_n j => mi_ldi L j fun x => nx L (.int x :: S) W
  | .aload j => mi_ldr L j fun x => nx L (.ref x :: S) W
  | .aload_n j => mi_ldr L j fun x => nx L (.ref x :: S) W
  | .istore j => match S with
    | .int x :: S => j < L.length ∧ nx (L.set j (some (.int x))) S W
    | _ => False
  | .istore_n j => match S with
    | .int x :: S => j.val < L.length ∧ nx (L.set j.val (some (.int x))) S W
    | _ => False
  | .astore j => match S with
    | .ref x :: S => j < L.length ∧ nx (L.set j (some (.ref x))) S W
    | _ => False
  | .astore_n j => match S with
    | .ref x :: S => j.val < L.length ∧ nx (L.set j.val (some (.ref x))) S W
    | _ => False
  | .iinc j n => mi_ldi L j fun x => nx (L.set j (some (.int (x + Int32.ofInt n)))) S W
  | .dup => match S with
    | v :: S => v.category = 1 ∧ nx L (v :: v :: S) W
    | _ => False
  | .dup2 => match S with
    | v :: w :: S => v.category = 1 ∧ w.category = 1 ∧ nx L (v :: w :: v :: w :: S) W
    | _ => False
  | .pop => match S with
    | v :: S => v.category = 1 ∧ nx L S W
    | _ => False
  | .iadd => match S with
    | .int y :: .int x :: S => nx L (.int (x + y) :: S) W
    | _ => False
  | .isub => match S with
    | .int y :: .int x :: S => nx L (.int (x - y) :: S) W
    | _ => False
  | .imul => match S with
    | .int y :: .int x :: S => nx L (.int (x * y) :: S) W
    | _ => False
  | .idiv => match S with
    | .int y :: .int x :: S => ¬ y = 0 ∧ nx L (.int (x / y) :: S) W
    | _ => False
  | .irem => match S with
    | .int y :: .int x :: S => ¬ y = 0 ∧ nx L (.int (x - x / y * y) :: S) W
    | _ => False
  | .ineg => match S with
    | .int x :: S => nx L (.int (-x) :: S) W
    | _ => False
  | .iand => match S with
    | .int y :: .int x :: S => nx L (.int (x &&& y) :: S) W
    | _ => False
  | .ior => match S with
    | .int y :: .int x :: S => nx L (.int (x ||| y) :: S) W
    | _ => False
  | .ixor => match S with
    | .int y :: .int x :: S => nx L (.int (x ^^^ y) :: S) W
    | _ => False
  | .ishl => match S with
    | .int y :: .int x :: S => nx L (.int (x <<< (y &&& 31)) :: S) W
    | _ => False
  | .ishr => match S with
    | .int y :: .int x :: S => nx L (.int (x >>> (y &&& 31)) :: S) W
    | _ => False
  | .iushr => match S with
    | .int y :: .int x :: S => nx L (.int (x.toUInt32 >>> (y.toUInt32 &&& Int32.toUInt32 31)).toInt32 :: S) W
    | _ => False
  | .goto _ => jp r1 L S W
  | .ifCond c _ => match S with
    | .int x :: S => match c with
      | .eq => mi_br (x = 0) (jp r1 L S W) (nx L S W)
      | .ne => mi_br (x = 0) (nx L S W) (jp r1 L S W)
      | .lt => mi_br (x < 0) (jp r1 L S W) (nx L S W)
      | .ge => mi_br (x < 0) (nx L S W) (jp r1 L S W)
      | .gt => mi_br (x ≤ 0) (nx L S W) (jp r1 L S W)
      | .le => mi_br (x ≤ 0) (jp r1 L S W) (nx L S W)
    | _ => False
  | .if_icmp c _ => match S with
    | .int y :: .int x :: S => match c with
      | .eq => mi_br (x = y) (jp r1 L S W) (nx L S W)
      | .ne => mi_br (x = y) (nx L S W) (jp r1 L S W)
      | .lt => mi_br (x < y) (jp r1 L S W) (nx L S W)
      | .ge => mi_br (x < y) (nx L S W) (jp r1 L S W)
      | .gt => mi_br (x ≤ y) (nx L S W) (jp r1 L S W)
      | .le => mi_br (x ≤ y) (jp r1 L S W) (nx L S W)
    | _ => False
  | .tableswitch d lo hi os => match S with
    | .int x :: S => mi_br (x.toInt < lo ∨ hi < x.toInt) (0 ≤ (pc : Int) + d ∧ jp ((pc : Int) + d).toNat L S W)
        (match os[(x.toInt - lo).toNat]? with
          | some o => 0 ≤ (pc : Int) + o ∧ jp ((pc : Int) + o).toNat L S W
          | none => False)
    | _ => False
  | .getfield _ => match S with
    | .ref o :: S => match fl_isI (mi_tyf r1 r2) with
      | true => fl_gI o r1 r2 ∧ nx L (.int (W o r2) :: S) W
      | false => fl_gR fl_sh o r1 r2 fun a => nx L (.ref a :: S) W
    | _ => False
  | .putfield _ => match S with
    | .int x :: .ref o :: S => fl_gI o r1 r2 ∧ mi_fit (mi_tyf r1 r2) (.int x) ∧ nx L S (fl_uw W o r2 x)
    | _ => False
  | .iaload => match S with
    | .int j :: .ref a :: S => fl_aI fl_sh a 0 fun n => vp_in j n ∧ nx L (.int (W a j.toNatClampNeg) :: S) W
    | _ => False
  | .baload => match S with
    | .int j :: .ref a :: S => fl_aI fl_sh a 1 fun n => vp_in j n ∧ nx L (.int (W a j.toNatClampNeg) :: S) W
    | _ => False
  | .aaload => match S with
    | .int j :: .ref a :: S => fl_aR fl_sh a fun n b => vp_in j n ∧ nx L (.ref (b + 2 * j.toNatClampNeg) :: S) W
    | _ => False
  | .iastore => match S with
    | .int x :: .int j :: .ref a :: S => fl_aI fl_sh a 0 fun n => vp_in j n ∧ nx L S (fl_uw W a j.toNatClampNeg x)
    | _ => False
  | .bastore => match S with
    | .int x :: .int j :: .ref a :: S => (x = 0 ∨ x = 1) ∧ fl_aI fl_sh a 1 fun n => vp_in j n ∧ nx L S (fl_uw W a j.toNatClampNeg x)
    | _ => False
  | .arraylength => match S with
    | .ref a :: S => fl_aI fl_sh a 0 fun n => nx L (.int (Int32.ofNat n) :: S) W
    | _ => False
  | .invokevirtual _ => r2 ≤ S.length ∧ mi_w8 (S.drop r2) = true ∧ mi_c1 (S.take r2) = true ∧ fl_rc (S.take r2).reverse r3 ∧ C r1 (S.take r2).reverse W (fl_qq (mi_rt r1) fun vs W => nx L (vs ++ S.drop r2) W)
  | .invokestatic _ => match r3 with
    | 1 => (match S with
      | .int y :: .int x :: S => mi_w8 S = true ∧ nx L (.int (if x < y then y else x) :: S) W
      | _ => False)
    | 2 => (match S with
      | .int y :: .int x :: S => mi_w8 S = true ∧ nx L (.int (if y < x then y else x) :: S) W
      | _ => False)
    | _ => r2 ≤ S.length ∧ mi_w8 (S.drop r2) = true ∧ mi_c1 (S.take r2) = true ∧ C r1 (S.take r2).reverse W (fl_qq (mi_rt r1) fun vs W => nx L (vs ++ S.drop r2) W)
  | .ireturn => match S with
    | [.int x] => mi_nar rt x ∧ Q (some (.int x)) W
    | _ => False
  | .return_ => match S with
    | [] => rt = none ∧ Q none W
    | _ => False
  | _ => False
def fl_nxt (cuts : List Nat) (P : Nat → fl_K) (g : fl_K) : List mi_I → fl_K
  | [] => fun _ _ _ => False
  | e2 :: _ => if e2.1 ∈ cuts then P e2.1 else g
def fl_jmp (cuts : List Nat) (P : Nat → fl_K) (g : fl_K) (t : Nat) : fl_K := if t ∈ cuts then P t else g
def fl_go (X : mi_I → fl_K → (Nat → fl_K) → fl_K) (cuts : List Nat) (tab : List mi_I) (P : Nat → fl_K) : Nat → List mi_I → fl_K
  | 0, _ => fun _ _ _ => False
  | _ + 1, [] => fun _ _ _ => False
  | k + 1, e :: tl => X e (fl_nxt cuts P (fl_go X cuts tab P k tl) tl) (fun t => fl_jmp cuts P (fl_go X cuts tab P k (mi_from tab t)) t)
def fl_X (C : fl_C) (k : Nat) (Q : fl_R) : mi_I → fl_K → (Nat → fl_K) → fl_K := fun e nx jp => fl_x C (mi_rt k) Q e.1 e.2.1 e.2.2.2.1 e.2.2.2.2.1 e.2.2.2.2.2 nx jp
def fl_F (C : fl_C) (k : Nat) (cuts : List Nat) (Q : fl_R) (P : Nat → fl_K) (pc : Nat) : fl_K := fl_go (fl_X C k Q) cuts (mi_tab k) P 400 (mi_from (mi_tab k) pc)
def fl_WP (C : fl_C) (k : Nat) (cuts : List Nat) (Q : fl_R) (pc : Nat) : fl_K := fun L S W => ∀ P : Nat → fl_K, (∀ P' : Nat → fl_K, (∀ pc L S W, P' pc L S W → P pc L S W) → ∀ pc L S W, fl_F C k cuts Q P' pc L S W → P pc L S W) → P pc L S W
def fl_cal : Nat → fl_C
  | 0 => fun _ _ _ _ => False
  | d + 1 => fun k av W Q => ∃ (cuts : List Nat) (Q0 : fl_R), (∀ r W, Q0 r W → Q r W) ∧ fl_WP (fl_cal d) k cuts Q0 0 (mi_ent k av) [] W
theorem fl_fold {C : fl_C} {k : Nat} {cuts : List Nat} {Q : fl_R} {pc : Nat} {L : mi_L} {S : List Value} {W : fl_W} (h : fl_F C k cuts Q (fl_WP C k cuts Q) pc L S W) : fl_WP C k cuts Q pc L S W :=
  fun P hP => hP (fl_WP C k cuts Q) (fun _ _ _ _ h => h P hP) pc L S W h
theorem fl_cons {d k : Nat} {av : List Value} {W : fl_W} {Q Q' : fl_R} (h : fl_cal d k av W Q) (hq : ∀ r W, Q r W → Q' r W) : fl_cal d k av W Q' := by
  cases d with
  | zero => exact (show False from h).elim
  | succ d =>
    obtain ⟨cuts, Q0, h1, h2⟩ := h
    exact ⟨cuts, Q0, fun r M z => hq r M (h1 r M z), h2⟩
theorem fl_intro {d k : Nat} {av : List Value} {W : fl_W} {Q : fl_R} (cuts : List Nat) (h : fl_WP (fl_cal d) k cuts Q 0 (mi_ent k av) [] W) : fl_cal (d + 1) k av W Q := ⟨cuts, Q, fun _ _ h => h, h⟩
end
section
/-! ===== what the flat machine says, the small machine says ===== -/
theorem fl_fl_get (g : Int64) (Wi : Nat → Int32) : ∀ (l : List Nat) (k j : Nat), (fl_fl g Wi k l)[j]? = l[j]?.map (fun q => match q with
    | 0 => Value.int (Wi (k + j))
    | 1 => .long g
    | a + 2 => .ref a)
  | [], k, j => by simp [fl_fl]
  | q :: l, k, 0 => by
    match q with
    | 0 => simp [fl_fl]
    | 1 => simp [fl_fl]
    | a + 2 => simp [fl_fl]
  | q :: l, k, j + 1 => by
    have := fl_fl_get g Wi l (k + 1) j
    simp only [fl_fl, List.getElem?_cons_succ, this]
    congr 1
    funext q
    match q with
    | 0 => show Value.int (Wi (k + 1 + j)) = Value.int (Wi (k + (j + 1))); rw [show k + 1 + j = k + (j + 1) by omega]
    | 1 => rfl
    | a + 2 => rfl
theorem fl_fl_len (g : Int64) (Wi : Nat → Int32) : ∀ (l : List Nat) (k : Nat), (fl_fl g Wi k l).length = l.length
  | [], k => rfl
  | q :: l, k => by simp only [fl_fl, List.length_cons, fl_fl_len g Wi l (k + 1)]
theorem fl_fl_set (g : Int64) (Wi : Nat → Int32) (l : List Nat) (j : Nat) (x : Int32) (h : l[j]? = some 0) : (fl_fl g Wi 0 l).set j (.int x) = fl_fl g (upd Wi j x) 0 l := by
  apply List.ext_getElem?
  intro i
  have hj : j < l.length := (List.getElem?_eq_some_iff.mp h).1
  rw [List.getElem?_set, fl_fl_get, fl_fl_get, fl_fl_len]
  by_cases hij : j = i
  · subst hij
    rw [if_pos rfl, if_pos hj, h]
    simp [upd]
  · rw [if_neg hij]
    cases l[i]? with
    | none => rfl
    | some q =>
      match q with
      | 0 => simp [upd, Ne.symm hij]
      | 1 => rfl
      | a + 2 => rfl
theorem fl_up_o {g : Int64} {W : fl_W} {o c k : Nat} {l : List Nat} {x : Int32} (h : fl_sh o = (0, c, l)) (hk : l[k]? = some 0) : mi_up (fl_mk g W) o (.inr (c, (fl_fl g (W o) 0 l).set k (.int x))) = fl_mk g (fl_uw W o k x) := by
  unfold mi_up fl_mk
  congr 1
  funext j
  by_cases hj : j = o
  · subst hj
    simp only [if_true, fl_cell, h, fl_uw]
    rw [fl_fl_set g (W j) l k x hk]
  · simp only [hj, if_false, fl_cell, fl_uw]
theorem fl_up_a {g : Int64} {W : fl_W} {a t j : Nat} {l : List Nat} {x : Int32} (h : fl_sh a = (1, t, l)) : mi_up (fl_mk g W) a (.inl (t, l.headD 0, .inl (upd (W a) j x))) = fl_mk g (fl_uw W a j x) := by
  unfold mi_up fl_mk
  congr 1
  funext i
  by_cases hi : i = a
  · subst hi
    simp only [if_true, fl_cell, h, fl_uw]
  · simp only [hi, if_false, fl_cell, fl_uw]
theorem fl_cell_o {g : Int64} {W : fl_W} {o c : Nat} {l : List Nat} (h : fl_sh o = (0, c, l)) : (fl_mk g W).2 o = .inr (c, fl_fl g (W o) 0 l) := by
  show fl_cell g W o = _
  simp only [fl_cell, h]
theorem fl_cell_a {g : Int64} {W : fl_W} {a t : Nat} {l : List Nat} (h : fl_sh a = (1, t, l)) : (fl_mk g W).2 a = .inl (t, l.headD 0, .inl (W a)) := by
  show fl_cell g W a = _
  simp only [fl_cell, h]
theorem fl_cell_r {g : Int64} {W : fl_W} {a n : Nat} {l : List Nat} (h : fl_sh a = (2, n, l)) : (fl_mk g W).2 a = .inl (2, n, .inr (.inr (.inr (.inr fun j => if j < n then some (l.headD 0 + 2 * j) else none)))) := by
  show fl_cell g W a = _
  simp only [fl_cell, h]
theorem fl_gI_s {o ci k : Nat} (h : fl_gI o ci k) : ∃ l, fl_sh o = (0, ci, l) ∧ l[k]? = some 0 := by
  simp only [fl_gI, fl_gIb, Bool.and_eq_true, beq_iff_eq] at h
  obtain ⟨h1, h2, h3⟩ := h
  refine ⟨(fl_sh o).2.2, ?_, h3⟩
  rw [← h1, ← h2]
theorem fl_is_s {a ci : Nat} (h : fl_is a ci) : ∃ l, fl_sh a = (0, ci, l) := by
  simp only [fl_is, fl_isb, Bool.and_eq_true, beq_iff_eq] at h
  obtain ⟨h1, h2⟩ := h
  refine ⟨(fl_sh a).2.2, ?_⟩
  rw [← h1, ← h2]
theorem fl_qq_s {rt : Option FieldType} {nx : List Value → fl_W → Prop} {r : Option Value} {W : fl_W} (h : fl_qq rt nx r W) : nx r.toList W := by
  unfold fl_qq at h
  split at h
  · unfold fl_q0 at h
    split at h
    · exact h
    · exact h.elim
  · unfold fl_q1 at h
    split at h
    · exact h
    · exact h.elim
section FLX
variable {g : Int64} {C : fl_C} {C' : mi_C} {rt : Option FieldType} {Q : fl_R} {Q' : mi_R}
set_option maxHeartbeats 4000000 in
set_option maxRecDepth 100000 in
theorem fl_xS (hC : ∀ k av W Q, C k av W Q → C' k av (fl_mk g W) (fun r M => ∃ W', M = fl_mk g W' ∧ Q r W')) (hC' : ∀ k av M Q Q', C' k av M Q → (∀ r M, Q r M → Q' r M) → C' k av M Q') (hQ : ∀ r W, Q r W → Q' r (fl_mk g W))
    {mc ms pc : Nat} {i : Instr} {r1 r2 r3 : Nat} {nx : fl_K} {jp : Nat → fl_K} {nx' : mi_K} {jp' : Nat → mi_K} (hnx : ∀ L S W, nx L S W → nx' L S 0 0 (fl_mk g W)) (hjp : ∀ t L S W, jp t L S W → jp' t L S 0 0 (fl_mk g W))
    {L : mi_L} {S : List Value} {W : fl_W} (h : fl_x C rt Q pc i r1 r2 r3 nx jp L S W) : mi_x C' mc ms rt Q' pc i r1 r2 r3 nx' jp' L S 0 0 (fl_mk g W) := by
  cases i with
  | iconst n => exact hnx _ _ _ h
  | bipush n => exact hnx _ _ _ h
  | sipush n => exact hnx _ _ _ h
  | ldc_w n => exact hnx _ _ _ h
  | iload j =>
    simp only [fl_x, mi_x, mi_ldi] at h ⊢
    split at h
    next x hj => exact hnx _ _ _ h
    next => exact h.elim
  | iload_n j =>
    simp only [fl_x, mi_x, mi_ldi] at h ⊢
    split at h
    next x hj => exact hnx _ _ _ h
    next => exact h.elim
  | aload j =>
    simp only [fl_x, mi_x, mi_ldr] at h ⊢
    split at h
    next x hj => exact hnx _ _ _ h
    next => exact h.elim
  | aload_n j =>
    simp only [fl_x, mi_x, mi_ldr] at h ⊢
    split at h
    next x hj => exact hnx _ _ _ h
    next => exact h.elim
  | istore j =>
    simp only [fl_x] at h
    split at h
    next => exact ⟨h.1, hnx _ _ _ h.2⟩
    next => exact h.elim
  | istore_n j =>
    simp only [fl_x] at h
    split at h
    next => exact ⟨h.1, hnx _ _ _ h.2⟩
    next => exact h.elim
  | astore j =>
    simp only [fl_x] at h
    split at h
    next => exact ⟨h.1, hnx _ _ _ h.2⟩
    next => exact h.elim
  | astore_n j =>
    simp only [fl_x] at h
    split at h
    next => exact ⟨h.1, hnx _ _ _ h.2⟩
    next => exact h.elim
  | iinc j n =>
    simp only [fl_x, mi_x, mi_ldi] at h ⊢
    split at h
    next x hj => exact hnx _ _ _ h
    next => exact h.elim
  | dup =>
    simp only [fl_x] at h
    split at h
    next => exact ⟨h.1, hnx _ _ _ h.2⟩
    next => exact h.elim
  | dup2 =>
    simp only [fl_x] at h
    split at h
    next => exact ⟨h.1, h.2.1, hnx _ _ _ h.2.2⟩
    next => exact h.elim
  | pop =>
    simp only [fl_x] at h
    split at h
    next => exact ⟨h.1, hnx _ _ _ h.2⟩
    next => exact h.elim
  | iadd =>
    simp only [fl_x] at h
    split at h
    next => exact hnx _ _ _ h
    next => exact h.elim
  | isub =>
    simp only [fl_x] at h
    split at h
    next => exact hnx _ _ _ h
    next => exact h.elim
  | imul =>
    simp only [fl_x] at h
    split at h
    next => exact hnx _ _ _ h
    next => exact h.elim
  | idiv =>
    simp only [fl_x] at h
    split at h
    next => exact ⟨h.1, hnx _ _ _ h.2⟩
    next => exact h.elim
  | irem =>
    simp only [fl_x] at h
    split at h
    next => exact ⟨h.1, hnx _ _ _ h.2⟩
    next => exact h.elim
  | ineg =>
    simp only [fl_x] at h
    split at h
    next => exact hnx _ _ _ h
    next => exact h.elim
  | iand =>
    simp only [fl_x] at h
    split at h
    next => exact hnx _ _ _ h
    next => exact h.elim
  | ior =>
    simp only [fl_x] at h
    split at h
    next => exact hnx _ _ _ h
    next => exact h.elim
  | ixor =>
    simp only [fl_x] at h
    split at h
    next => exact hnx _ _ _ h
    next => exact h.elim
  | ishl =>
    simp only [fl_x] at h
    split at h
    next => exact hnx _ _ _ h
    next => exact h.elim
  | ishr =>
    simp only [fl_x] at h
    split at h
    next => exact hnx _ _ _ h
    next => exact h.elim
  | iushr =>
    simp only [fl_x] at h
    split at h
    next => exact hnx _ _ _ h
    next => exact h.elim
  | goto o => exact hjp _ _ _ _ h
  | ifCond cd o =>
    simp only [fl_x] at h
    split at h
    next =>
      cases cd with
      | eq => exact ⟨fun q => hjp _ _ _ _ (h.1 q), fun q => hnx _ _ _ (h.2 q)⟩
      | ne => exact ⟨fun q => hnx _ _ _ (h.1 q), fun q => hjp _ _ _ _ (h.2 q)⟩
      | lt => exact ⟨fun q => hjp _ _ _ _ (h.1 q), fun q => hnx _ _ _ (h.2 q)⟩
      | ge => exact ⟨fun q => hnx _ _ _ (h.1 q), fun q => hjp _ _ _ _ (h.2 q)⟩
      | gt => exact ⟨fun q => hnx _ _ _ (h.1 q), fun q => hjp _ _ _ _ (h.2 q)⟩
      | le => exact ⟨fun q => hjp _ _ _ _ (h.1 q), fun q => hnx _ _ _ (h.2 q)⟩
    next => exact h.elim
  | if_icmp cd o =>
    simp only [fl_x] at h
    split at h
    next =>
      cases cd with
      | eq => exact ⟨fun q => hjp _ _ _ _ (h.1 q), fun q => hnx _ _ _ (h.2 q)⟩
      | ne => exact ⟨fun q => hnx _ _ _ (h.1 q), fun q => hjp _ _ _ _ (h.2 q)⟩
      | lt => exact ⟨fun q => hjp _ _ _ _ (h.1 q), fun q => hnx _ _ _ (h.2 q)⟩
      | ge => exact ⟨fun q => hnx _ _ _ (h.1 q), fun q => hjp _ _ _ _ (h.2 q)⟩
      | gt => exact ⟨fun q => hnx _ _ _ (h.1 q), fun q => hjp _ _ _ _ (h.2 q)⟩
      | le => exact ⟨fun q => hjp _ _ _ _ (h.1 q), fun q => hnx _ _ _ (h.2 q)⟩
    next => exact h.elim
  | tableswitch d lo hi os =>
    simp only [fl_x] at h
    split at h
    next x S' =>
      refine ⟨fun q => ⟨(h.1 q).1, hjp _ _ _ _ (h.1 q).2⟩, fun q => ?_⟩
      have h3 := h.2 q
      split at h3
      next o ho =>
        simp only [ho]
        exact ⟨h3.1, hjp _ _ _ _ h3.2⟩
      next => exact h3.elim
    next => exact h.elim
  | getfield ix =>
    simp only [fl_x] at h
    split at h
    next o S' =>
      split at h
      next =>
        obtain ⟨h1, h⟩ := h
        obtain ⟨l, hs, hk⟩ := fl_gI_s h1
        simp only [mi_x, mi_obj, fl_cell_o hs]
        refine ⟨trivial, ?_⟩
        rw [fl_fl_get, hk]
        simp only [Option.map_some, Nat.zero_add]
        exact hnx _ _ _ h
      next =>
        simp only [fl_gR] at h
        split at h
        next c l hs =>
          obtain ⟨rfl, h⟩ := h
          split at h
          next q hk =>
            simp only [mi_x, mi_obj, fl_cell_o hs]
            refine ⟨trivial, ?_⟩
            rw [fl_fl_get, hk]
            exact hnx _ _ _ h
          next => exact h.elim
        next => exact h.elim
    next => exact h.elim
  | putfield ix =>
    simp only [fl_x] at h
    split at h
    next x o S' =>
      obtain ⟨h1, h2, h⟩ := h
      obtain ⟨l, hs, hk⟩ := fl_gI_s h1
      simp only [mi_x, mi_obj, fl_cell_o hs]
      refine ⟨h2, trivial, ?_, ?_⟩
      · rw [fl_fl_len]; exact (List.getElem?_eq_some_iff.mp hk).1
      · rw [fl_up_o hs hk]
        exact hnx _ _ _ h
    next => exact h.elim
  | iaload =>
    simp only [fl_x, fl_aI] at h
    split at h
    next j a S' =>
      split at h
      next t l hs =>
        obtain ⟨rfl, h1, h⟩ := h
        simp only [mi_x, mi_ints, fl_cell_a hs]
        exact ⟨trivial, h1, hnx _ _ _ h⟩
      next => exact h.elim
    next => exact h.elim
  | baload =>
    simp only [fl_x, fl_aI] at h
    split at h
    next j a S' =>
      split at h
      next t l hs =>
        obtain ⟨rfl, h1, h⟩ := h
        simp only [mi_x, mi_ints, fl_cell_a hs]
        exact ⟨trivial, h1, hnx _ _ _ h⟩
      next => exact h.elim
    next => exact h.elim
  | aaload =>
    simp only [fl_x, fl_aR] at h
    split at h
    next j a S' =>
      split at h
      next n b hs =>
        obtain ⟨h1, h⟩ := h
        have hlt : j.toNatClampNeg < n := Nat.not_le.mp fun q => h1 (Or.inr q)
        simp only [mi_x, mi_refs, fl_cell_r hs, hlt, if_true]
        exact ⟨trivial, h1, hnx _ _ _ h⟩
      next => exact h.elim
    next => exact h.elim
  | iastore =>
    simp only [fl_x, fl_aI] at h
    split at h
    next x j a S' =>
      split at h
      next t l hs =>
        obtain ⟨rfl, h1, h⟩ := h
        simp only [mi_x, mi_ints, fl_cell_a hs]
        refine ⟨trivial, h1, ?_⟩
        rw [fl_up_a hs]
        exact hnx _ _ _ h
      next => exact h.elim
    next => exact h.elim
  | bastore =>
    simp only [fl_x, fl_aI] at h
    split at h
    next x j a S' =>
      obtain ⟨h01, h⟩ := h
      split at h
      next t l hs =>
        obtain ⟨rfl, h1, h⟩ := h
        simp only [mi_x, mi_ints, fl_cell_a hs]
        refine ⟨h01, trivial, h1, ?_⟩
        rw [fl_up_a hs]
        exact hnx _ _ _ h
      next => exact h.elim
    next => exact h.elim
  | arraylength =>
    simp only [fl_x, fl_aI] at h
    split at h
    next a S' =>
      split at h
      next t l hs =>
        obtain ⟨rfl, h⟩ := h
        simp only [mi_x, mi_len, fl_cell_a hs]
        exact ⟨Or.inl trivial, hnx _ _ _ h⟩
      next => exact h.elim
    next => exact h.elim
  | invokevirtual ix =>
    obtain ⟨h1, h2, h3, h4, h5⟩ : r2 ≤ S.length ∧ mi_w8 (S.drop r2) = true ∧ mi_c1 (S.take r2) = true ∧ fl_rc (S.take r2).reverse r3 ∧ C r1 (S.take r2).reverse W (fl_qq (mi_rt r1) fun vs W => nx L (vs ++ S.drop r2) W) := h
    refine ⟨h1, h2, h3, ?_, hC' _ _ _ _ _ (hC _ _ _ _ h5) (fun r M hq => ?_)⟩
    · unfold fl_rc at h4
      split at h4
      next a As hav =>
        obtain ⟨l, hl⟩ := fl_is_s h4
        simp only [hav, mi_obj, fl_cell_o hl]
        exact ⟨trivial, trivial⟩
      next => exact h4.elim
    · obtain ⟨W', rfl, hq⟩ := hq
      exact hnx _ _ _ (fl_qq_s hq)
  | invokestatic ix =>
    simp only [fl_x] at h
    split at h
    next =>
      split at h
      next => exact ⟨h.1, hnx _ _ _ h.2⟩
      next => exact h.elim
    next =>
      split at h
      next => exact ⟨h.1, hnx _ _ _ h.2⟩
      next => exact h.elim
    next n1 n2 =>
      obtain ⟨h1, h2, h3, h5⟩ := h
      simp only [mi_x]
      rw [if_neg (fun z => n1 z), if_neg (fun z => n2 z)]
      refine ⟨h1, h2, h3, hC' _ _ _ _ _ (hC _ _ _ _ h5) (fun r M hq => ?_)⟩
      obtain ⟨W', rfl, hq⟩ := hq
      exact hnx _ _ _ (fl_qq_s hq)
  | ireturn =>
    simp only [fl_x] at h
    split at h
    next => exact ⟨h.1, Nat.zero_le _, Nat.zero_le _, hQ _ _ h.2⟩
    next => exact h.elim
  | return_ =>
    simp only [fl_x] at h
    split at h
    next => exact ⟨h.1, Nat.zero_le _, Nat.zero_le _, hQ _ _ h.2⟩
    next => exact h.elim
  | _ => exact (show False from h).elim
theorem fl_goS (hC : ∀ k av W Q, C k av W Q → C' k av (fl_mk g W) (fun r M => ∃ W', M = fl_mk g W' ∧ Q r W')) (hC' : ∀ k av M Q Q', C' k av M Q → (∀ r M, Q r M → Q' r M) → C' k av M Q') (hQ : ∀ r W, Q r W → Q' r (fl_mk g W)) {k : Nat} {cuts : List Nat} {P : Nat → fl_K} {P' : Nat → mi_K} (hP : ∀ pc L S W, P pc L S W → P' pc L S 0 0 (fl_mk g W)) :
    ∀ (n : Nat) (tl : List mi_I) L S W, fl_go (fl_X C k Q) cuts (mi_tab k) P n tl L S W → mi_go (mi_X C' k Q') cuts (mi_tab k) P' n tl L S 0 0 (fl_mk g W) := by
  intro n
  induction n with
  | zero => intro tl L S W h; exact (show False from h).elim
  | succ n ih =>
    intro tl L S W h
    cases tl with
    | nil => exact (show False from h).elim
    | cons e tl =>
      have h' : fl_x C (mi_rt k) Q e.1 e.2.1 e.2.2.2.1 e.2.2.2.2.1 e.2.2.2.2.2 (fl_nxt cuts P (fl_go (fl_X C k Q) cuts (mi_tab k) P n tl) tl) (fun t => fl_jmp cuts P (fl_go (fl_X C k Q) cuts (mi_tab k) P n (mi_from (mi_tab k) t)) t) L S W := h
      show mi_x C' (mi_mc k) (mi_sl k) (mi_rt k) Q' e.1 e.2.1 e.2.2.2.1 e.2.2.2.2.1 e.2.2.2.2.2 (mi_nxt cuts P' (mi_go (mi_X C' k Q') cuts (mi_tab k) P' n tl) tl) (fun t => mi_jmp cuts P' (mi_go (mi_X C' k Q') cuts (mi_tab k) P' n (mi_from (mi_tab k) t)) t) L S 0 0 (fl_mk g W)
      refine fl_xS hC hC' hQ ?_ ?_ h'
      · intro L S W hn
        cases tl with
        | nil => exact (show False from hn).elim
        | cons e2 t =>
          by_cases hc : e2.1 ∈ cuts
          · simp only [fl_nxt, mi_nxt, hc, if_true] at hn ⊢
            exact hP _ _ _ _ hn
          · simp only [fl_nxt, mi_nxt, hc, if_false] at hn ⊢
            exact ih _ _ _ _ hn
      · intro t L S W hj
        by_cases hc : t ∈ cuts
        · simp only [fl_jmp, mi_jmp, hc, if_true] at hj ⊢
          exact hP _ _ _ _ hj
        · simp only [fl_jmp, mi_jmp, hc, if_false] at hj ⊢
          exact ih _ _ _ _ hj
end FLX
theorem fl_calS (g : Int64) : ∀ (d k : Nat) (av : List Value) (W : fl_W) (Q : fl_R), fl_cal d k av W Q → mi_cal d k av (fl_mk g W) (fun r M => ∃ W', M = fl_mk g W' ∧ Q r W') := by
  intro d
  induction d with
  | zero => intro k av W Q h; exact (show False from h).elim
  | succ d ih =>
    intro k av W Q h
    obtain ⟨cuts, Q0, hq, h⟩ := h
    refine ⟨cuts, fun r M => ∃ W', M = fl_mk g W' ∧ Q0 r W', fun r M ⟨W', e, z⟩ => ⟨W', e, hq r W' z⟩, ?_⟩
    refine h (fun pc L S W => mi_WP (mi_cal d) k cuts (fun r M => ∃ W', M = fl_mk g W' ∧ Q0 r W') pc L S 0 0 (fl_mk g W)) fun P' hP' pc L S W hF => ?_
    exact mi_fold (fl_goS ih (fun k av M Q Q' h1 h2 => mi_cal_cons h1 h2) (fun r W z => ⟨W, rfl, z⟩) hP' 400 _ L S W hF)
end
section
/-! ===== rows, nets, turnings at any place ===== -/
def fl_row (r : Nat) : Prop := fl_isb r 6 = true
def fl_net (b : Nat) : Prop := fl_isb b 4 = true
def fl_tur (t : Nat) : Prop := fl_isb t 9 = true
def fl_cap (r : Nat) : Nat := (fl_sh (r + 1)).2.2.headD 0
theorem fl_big {i : Nat} (h : 280 ≤ i) : fl_sh i = (9, 0, []) := by
  unfold fl_sh
  split <;> first | rfl | omega
theorem fl_lt {i c : Nat} (h : fl_isb i c = true) : i < 280 := by
  rcases Nat.lt_or_ge i 280 with q | q
  · exact q
  · rw [fl_isb, fl_big q] at h
    simp at h
theorem fl_row_all : ∀ r, r < 280 → fl_isb r 6 = true → fl_sh r = (0, 6, [r + 1 + 2, 0]) ∧ fl_sh (r + 1) = (1, 0, [fl_cap r]) := by decide +kernel
theorem fl_net_a0 : ∀ b, b < 280 → fl_isb b 4 = true → fl_sh b = (0, 4, [b + 1 + 2, b + 2 + 2, b + 3 + 2, 0, 0]) := by decide +kernel
theorem fl_net_a1 : ∀ b, b < 280 → fl_isb b 4 = true → fl_sh (b + 1) = (1, 0, [60]) := by decide +kernel
theorem fl_net_a2 : ∀ b, b < 280 → fl_isb b 4 = true → fl_sh (b + 2) = (1, 0, [60]) := by decide +kernel
theorem fl_net_a3 : ∀ b, b < 280 → fl_isb b 4 = true → fl_sh (b + 3) = (1, 0, [20]) := by decide +kernel
theorem fl_net_all (b : Nat) (h1 : b < 280) (h : fl_isb b 4 = true) : fl_sh b = (0, 4, [b + 1 + 2, b + 2 + 2, b + 3 + 2, 0, 0]) ∧ fl_sh (b + 1) = (1, 0, [60]) ∧ fl_sh (b + 2) = (1, 0, [60]) ∧ fl_sh (b + 3) = (1, 0, [20]) := ⟨fl_net_a0 b h1 h, fl_net_a1 b h1 h, fl_net_a2 b h1 h, fl_net_a3 b h1 h⟩
theorem fl_tur_a0 : ∀ t, t < 280 → fl_isb t 9 = true → fl_sh t = (0, 9, [t + 1 + 2]) ∧ fl_sh (t + 1) = (2, 20, [t + 2]) := by decide +kernel
theorem fl_tur_a1 : ∀ t, t < 280 → fl_isb t 9 = true → ∀ j, j < 20 → fl_isb (t + 2 + 2 * j) 6 = true := by decide +kernel
theorem fl_tur_a2 : ∀ t, t < 280 → fl_isb t 9 = true → ∀ j, j < 20 → fl_cap (t + 2 + 2 * j) = 20 := by decide +kernel
theorem fl_tur_all (t : Nat) (h1 : t < 280) (h : fl_isb t 9 = true) : fl_sh t = (0, 9, [t + 1 + 2]) ∧ fl_sh (t + 1) = (2, 20, [t + 2]) ∧ ∀ j, j < 20 → fl_isb (t + 2 + 2 * j) 6 = true ∧ fl_cap (t + 2 + 2 * j) = 20 := ⟨(fl_tur_a0 t h1 h).1, (fl_tur_a0 t h1 h).2, fun j hj => ⟨fl_tur_a1 t h1 h j hj, fl_tur_a2 t h1 h j hj⟩⟩
theorem fl_rg_all : ∀ j, j < 40 → fl_isb (73 + 2 * j) 6 = true ∧ fl_cap (73 + 2 * j) = 20 := by decide +kernel
theorem fl_gI_of {o c k : Nat} {l : List Nat} (h : fl_sh o = (0, c, l)) (hk : l[k]? = some 0) : fl_gI o c k := by
  simp [fl_gI, fl_gIb, h, hk]
theorem fl_gR_of {o c k q : Nat} {l : List Nat} {K : Nat → Prop} (h : fl_sh o = (0, c, l)) (hk : l[k]? = some (q + 2)) (hK : K q) : fl_gR fl_sh o c k K := by
  simp only [fl_gR, h, hk]
  exact ⟨trivial, hK⟩
theorem fl_aI_of {a t n : Nat} {K : Nat → Prop} (h : fl_sh a = (1, t, [n])) (hK : K n) : fl_aI fl_sh a t K := by
  simp only [fl_aI, h]
  exact ⟨trivial, hK⟩
section FLR
variable {r b t : Nat} {K : Nat → Prop}
theorem rw_I (h : fl_row r) : fl_gI r 6 1 := fl_gI_of (fl_row_all r (fl_lt h) h).1 rfl
theorem rw_R (h : fl_row r) (hK : K (r + 1)) : fl_gR fl_sh r 6 0 K := fl_gR_of (fl_row_all r (fl_lt h) h).1 rfl hK
theorem rw_A (h : fl_row r) (hK : K (fl_cap r)) : fl_aI fl_sh (r + 1) 0 K := fl_aI_of (fl_row_all r (fl_lt h) h).2 hK
theorem rw_is (h : fl_row r) : fl_is r 6 := h
theorem nt_I3 (h : fl_net b) : fl_gI b 4 3 := fl_gI_of (fl_net_all b (fl_lt h) h).1 rfl
theorem nt_I4 (h : fl_net b) : fl_gI b 4 4 := fl_gI_of (fl_net_all b (fl_lt h) h).1 rfl
theorem nt_R0 (h : fl_net b) (hK : K (b + 1)) : fl_gR fl_sh b 4 0 K := fl_gR_of (fl_net_all b (fl_lt h) h).1 rfl hK
theorem nt_R1 (h : fl_net b) (hK : K (b + 2)) : fl_gR fl_sh b 4 1 K := fl_gR_of (fl_net_all b (fl_lt h) h).1 rfl hK
theorem nt_R2 (h : fl_net b) (hK : K (b + 3)) : fl_gR fl_sh b 4 2 K := fl_gR_of (fl_net_all b (fl_lt h) h).1 rfl hK
theorem nt_A0 (h : fl_net b) (hK : K 60) : fl_aI fl_sh (b + 1) 0 K := fl_aI_of (fl_net_all b (fl_lt h) h).2.1 hK
theorem nt_A1 (h : fl_net b) (hK : K 60) : fl_aI fl_sh (b + 2) 0 K := fl_aI_of (fl_net_all b (fl_lt h) h).2.2.1 hK
theorem nt_A2 (h : fl_net b) (hK : K 20) : fl_aI fl_sh (b + 3) 0 K := fl_aI_of (fl_net_all b (fl_lt h) h).2.2.2 hK
theorem nt_is (h : fl_net b) : fl_is b 4 := h
theorem tu_R (h : fl_tur t) (hK : K (t + 1)) : fl_gR fl_sh t 9 0 K := fl_gR_of (fl_tur_all t (fl_lt h) h).1 rfl hK
theorem tu_is (h : fl_tur t) : fl_is t 9 := h
theorem fl_in_lt {j : Int32} {n : Nat} (h : vp_in j n) : j.toNatClampNeg < n := Nat.not_le.mp fun q => h (Or.inr q)
theorem tu_A {K : Nat → Nat → Prop} (h : fl_tur t) (hK : K 20 (t + 2)) : fl_aR fl_sh (t + 1) K := by
  simp only [fl_aR, (fl_tur_all t (fl_lt h) h).2.1]
  exact hK
theorem tu_row {j : Int32} (h : fl_tur t) (hj : vp_in j 20) : fl_row (t + 2 + 2 * j.toNatClampNeg) := ((fl_tur_all t (fl_lt h) h).2.2 _ (fl_in_lt hj)).1
theorem tu_cap {j : Nat} (h : fl_tur t) (hj : j < 20) : fl_cap (t + 2 + 2 * j) = 20 := ((fl_tur_all t (fl_lt h) h).2.2 _ hj).2
theorem rg_row {j : Int32} (hj : vp_in j 40) : fl_row (73 + 2 * j.toNatClampNeg) := (fl_rg_all _ (fl_in_lt hj)).1
theorem rg_cap {j : Nat} (hj : j < 40) : fl_cap (73 + 2 * j) = 20 := (fl_rg_all _ hj).2
end FLR
theorem fl_c0 {d k : Nat} {av : List Value} {W : fl_W} {K K' : fl_W → Prop} (h : fl_cal d k av W (fl_q0 K)) (hk : ∀ W, K W → K' W) : fl_cal d k av W (fl_q0 K') := fl_cons h fun r W q => by
  cases r with
  | none => exact hk W q
  | some v => exact q.elim
theorem fl_c1 {d k : Nat} {av : List Value} {W : fl_W} {K K' : Int32 → fl_W → Prop} (h : fl_cal d k av W (fl_q1 K)) (hk : ∀ x W, K x W → K' x W) : fl_cal d k av W (fl_q1 K') := fl_cons h fun r W q => by
  cases r with
  | none => exact (show False from q).elim
  | some v => cases v <;> first | exact hk _ W q | exact (show False from q).elim
theorem fl_tsG {n : Nat} {x : Int32} {A : Prop} {B : Int → Prop} {os : Array Int} {hi : Int} (hhi : hi + 1 = n) (hn : os.size = n) (hs : n < 1000) (hc : ∀ (i : Nat) (h : i < os.size), x = Int32.ofNat i → B os[i]) (hd : (∀ i, i < n → ¬ x = Int32.ofNat i) → A) :
    mi_br (x.toInt < 0 ∨ hi < x.toInt) A (match os[(x.toInt - 0).toNat]? with
      | some o => B o
      | none => False) := by
  have hv : ∀ i : Nat, i < n → (Int32.ofNat i).toInt = i := fun i h => nI_toInt (by omega)
  refine ⟨fun h => hd fun i hi' e => ?_, fun h => ?_⟩
  · rw [e, hv i hi'] at h
    omega
  · have h1 : 0 ≤ x.toInt := by omega
    have h2 : x.toInt.toNat < n := by omega
    have h3 : x = Int32.ofNat x.toInt.toNat := Int32.toInt_inj.mp (by rw [hv _ h2]; omega)
    have h4 : x.toInt.toNat < os.size := by omega
    rw [Int.sub_zero, Array.getElem?_eq_getElem h4]
    exact hc _ h4 h3
theorem fl_ts3 {x : Int32} {A : Prop} {B : Int → Prop} {o0 o1 o2 : Int} (h0 : x = Int32.ofNat 0 → B o0) (h1 : x = Int32.ofNat 1 → B o1) (h2 : x = Int32.ofNat 2 → B o2) (hd : (¬ x = Int32.ofNat 0 ∧ ¬ x = Int32.ofNat 1 ∧ ¬ x = Int32.ofNat 2) → A) :
    mi_br (x.toInt < 0 ∨ 2 < x.toInt) A (match (#[o0, o1, o2] : Array Int)[(x.toInt - 0).toNat]? with
      | some o => B o
      | none => False) := by
  refine fl_tsG (n := 3) rfl rfl (by omega) (fun i h e => ?_) (fun h => hd ⟨h 0 (by omega), h 1 (by omega), h 2 (by omega)⟩)
  match i, h with
  | 0, _ => exact h0 e
  | 1, _ => exact h1 e
  | 2, _ => exact h2 e
theorem fl_ts6 {x : Int32} {A : Prop} {B : Int → Prop} {o0 o1 o2 o3 o4 o5 : Int} (h0 : x = Int32.ofNat 0 → B o0) (h1 : x = Int32.ofNat 1 → B o1) (h2 : x = Int32.ofNat 2 → B o2) (h3 : x = Int32.ofNat 3 → B o3) (h4 : x = Int32.ofNat 4 → B o4) (h5 : x = Int32.ofNat 5 → B o5) (hd : (¬ x = Int32.ofNat 0 ∧ ¬ x = Int32.ofNat 1 ∧ ¬ x = Int32.ofNat 2 ∧ ¬ x = Int32.ofNat 3 ∧ ¬ x = Int32.ofNat 4 ∧ ¬ x = Int32.ofNat 5) → A) :
    mi_br (x.toInt < 0 ∨ 5 < x.toInt) A (match (#[o0, o1, o2, o3, o4, o5] : Array Int)[(x.toInt - 0).toNat]? with
      | some o => B o
      | none => False) := by
  refine fl_tsG (n := 6) rfl rfl (by omega) (fun i h e => ?_) (fun h => hd ⟨h 0 (by omega), h 1 (by omega), h 2 (by omega), h 3 (by omega), h 4 (by omega), h 5 (by omega)⟩)
  match i, h with
  | 0, _ => exact h0 e
  | 1, _ => exact h1 e
  | 2, _ => exact h2 e
  | 3, _ => exact h3 e
  | 4, _ => exact h4 e
  | 5, _ => exact h5 e
end
section
/-! 63 PlaneDesk$Row.size()I -/
theorem sx_63 {d : Nat} {Q : fl_R} (r : Nat) (W : fl_W) (hr : fl_row r) (h : Q (some (.int (W r 1))) W) : fl_cal (d + 1) 63 [.ref r] W Q := fl_intro [] (fl_fold (⟨rw_I hr, ⟨trivial, h⟩⟩))
/-! 64 PlaneDesk$Row.clear()V -/
theorem sx_64 {d : Nat} {Q : fl_R} (r : Nat) (W : fl_W) (hr : fl_row r) (h : ∀ W1 : fl_W, W1 = fl_uw W r 1 (Int32.ofInt 0) → Q none W1) : fl_cal (d + 1) 64 [.ref r] W Q := fl_intro [] (fl_fold (⟨rw_I hr, trivial, have h := h _ rfl; ⟨rfl, h⟩⟩))
/-! 65 PlaneDesk$Row.add(I)V -/
theorem sx_65 {d : Nat} {Q : fl_R} (r : Nat) (v1 : Int32) (W : fl_W) (hr : fl_row r) (h : mi_br ((W r 1) < (Int32.ofNat (fl_cap r))) (vp_in (W r 1) (fl_cap r) ∧ (∀ W1 : fl_W, W1 = fl_uw W (r + 1) (W r 1).toNatClampNeg v1 → ∀ W2 : fl_W, W2 = fl_uw W1 r 1 ((W1 r 1) + (Int32.ofInt 1)) → Q none W2)) (Q none W)) : fl_cal (d + 1) 65 [.ref r, .int v1] W Q := fl_intro [] (fl_fold (⟨rw_I hr, rw_R hr (rw_A hr (⟨fun q => have h := h.1 q; rw_R hr (⟨rw_I hr, rw_A hr ⟨h.1, have h := h.2; have h := h _ rfl; ⟨rfl, ⟨rw_I hr, ⟨rw_I hr, trivial, have h := h _ rfl; ⟨rfl, h⟩⟩⟩⟩⟩⟩), fun q => have h := h.2 q; ⟨rfl, h⟩⟩))⟩))
/-! 66 PlaneDesk$Row.get(I)I -/
theorem sx_66 {d : Nat} {Q : fl_R} (r : Nat) (v1 : Int32) (W : fl_W) (hr : fl_row r) (h : mi_br (v1 < 0) (Q (some (.int (Int32.ofInt (-1)))) W) (mi_br (v1 < (W r 1)) (vp_in v1 (fl_cap r) ∧ (Q (some (.int (W (r + 1) v1.toNatClampNeg))) W)) (Q (some (.int (Int32.ofInt (-1)))) W))) : fl_cal (d + 1) 66 [.ref r, .int v1] W Q := fl_intro [] (fl_fold (⟨fun q => have h := h.1 q; ⟨trivial, h⟩, fun q => have h := h.2 q; ⟨rw_I hr, ⟨fun q => have h := h.1 q; rw_R hr (rw_A hr ⟨h.1, have h := h.2; ⟨trivial, h⟩⟩), fun q => have h := h.2 q; ⟨trivial, h⟩⟩⟩⟩))
/-! 67 PlaneDesk$Row.find(I)I -/
def hd_67_2 (d : Nat) (Q : fl_R) (r : Nat) (v1 v2 : Int32) (W : fl_W) : Prop := fl_WP (fl_cal d) 67 [2] Q 2 [some (.ref r), some (.int v1), some (.int v2)] [] W
theorem sx_67_2 {d : Nat} {Q : fl_R} (r : Nat) (v1 v2 : Int32) (W : fl_W) (hr : fl_row r) (h : mi_br (v2 < (W r 1)) (vp_in v2 (fl_cap r) ∧ (mi_br ((W (r + 1) v2.toNatClampNeg) = v1) (Q (some (.int v2)) W) (hd_67_2 d Q r v1 (v2 + Int32.ofInt 1) W))) (Q (some (.int (Int32.ofInt (-1)))) W)) : hd_67_2 d Q r v1 v2 W := fl_fold (⟨rw_I hr, ⟨fun q => have h := h.1 q; rw_R hr (rw_A hr ⟨h.1, have h := h.2; ⟨fun q => have h := h.1 q; ⟨trivial, h⟩, fun q => have h := h.2 q; h⟩⟩), fun q => have h := h.2 q; ⟨trivial, h⟩⟩⟩)
theorem sx_67 {d : Nat} {Q : fl_R} (r : Nat) (v1 : Int32) (W : fl_W) (hr : fl_row r) (h : hd_67_2 d Q r v1 (Int32.ofInt 0) W) : fl_cal (d + 1) 67 [.ref r, .int v1] W Q := fl_intro [2] (fl_fold (⟨Nat.le_of_ble_eq_true rfl, h⟩))
/-! 68 PlaneDesk$Row.exchange(II)Z -/
theorem sx_68 {d : Nat} {Q : fl_R} (r : Nat) (v1 v2 : Int32) (W : fl_W) (hr : fl_row r) (h : mi_br (v1 < 0) (Q (some (.int (Int32.ofInt 0))) W) (mi_br (v1 < (W r 1)) (mi_br (v2 < 0) (Q (some (.int (Int32.ofInt 0))) W) (mi_br (v2 < (W r 1)) (vp_in v1 (fl_cap r) ∧ (vp_in v2 (fl_cap r) ∧ (vp_in v1 (fl_cap r) ∧ (∀ W1 : fl_W, W1 = fl_uw W (r + 1) v1.toNatClampNeg (W (r + 1) v2.toNatClampNeg) → vp_in v2 (fl_cap r) ∧ (∀ W2 : fl_W, W2 = fl_uw W1 (r + 1) v2.toNatClampNeg (W (r + 1) v1.toNatClampNeg) → Q (some (.int (Int32.ofInt 1))) W2))))) (Q (some (.int (Int32.ofInt 0))) W))) (Q (some (.int (Int32.ofInt 0))) W))) : fl_cal (d + 1) 68 [.ref r, .int v1, .int v2] W Q := fl_intro [] (fl_fold (⟨fun q => have h := h.1 q; ⟨Or.inl rfl, h⟩, fun q => have h := h.2 q; ⟨rw_I hr, ⟨fun q => have h := h.1 q; ⟨fun q => have h := h.1 q; ⟨Or.inl rfl, h⟩, fun q => have h := h.2 q; ⟨rw_I hr, ⟨fun q => have h := h.1 q; rw_R hr (rw_A hr ⟨h.1, have h := h.2; ⟨Nat.le_of_ble_eq_true rfl, rw_R hr (rw_R hr (rw_A hr ⟨h.1, have h := h.2; rw_A hr ⟨h.1, have h := h.2; have h := h _ rfl; rw_R hr (rw_A hr ⟨h.1, have h := h.2; have h := h _ rfl; ⟨Or.inr rfl, h⟩⟩)⟩⟩))⟩⟩), fun q => have h := h.2 q; ⟨Or.inl rfl, h⟩⟩⟩⟩, fun q => have h := h.2 q; ⟨Or.inl rfl, h⟩⟩⟩⟩))
/-! 69 PlaneDesk$Row.placeBehind(I)I -/
theorem sx_69 {d : Nat} {Q : fl_R} (r : Nat) (v1 : Int32) (W : fl_W) (hr : fl_row r) (h : mi_br ((v1 + (Int32.ofInt 1)) < (W r 1)) (Q (some (.int (v1 + (Int32.ofInt 1)))) W) (Q (some (.int (Int32.ofInt 0))) W)) : fl_cal (d + 1) 69 [.ref r, .int v1] W Q := fl_intro [] (fl_fold (⟨rw_I hr, ⟨fun q => have h := h.1 q; ⟨trivial, h⟩, fun q => have h := h.2 q; ⟨trivial, h⟩⟩⟩))
/-! 70 PlaneDesk$Row.copy(LPlaneDesk$Row;)V -/
def hd_70_6 (d : Nat) (Q : fl_R) (r : Nat) (r2 : Nat) (v2 : Int32) (W : fl_W) : Prop := fl_WP (fl_cal d) 70 [6] Q 6 [some (.ref r), some (.ref r2), some (.int v2)] [] W
theorem sx_70_6 {d : Nat} {Q : fl_R} (r : Nat) (r2 : Nat) (v2 : Int32) (W : fl_W) (hr : fl_row r) (hr2 : fl_row r2) (h : mi_br (v2 < (W r2 1)) (fl_cal d 66 [.ref r2, .int v2] W (fl_q1 fun x1 W2 => fl_cal d 65 [.ref r, .int x1] W2 (fl_q0 fun W3 => hd_70_6 d Q r r2 (v2 + Int32.ofInt 1) W3))) (Q none W)) : hd_70_6 d Q r r2 v2 W := fl_fold (⟨rw_I hr2, ⟨fun q => have h := h.1 q; ⟨Nat.le_of_ble_eq_true rfl, rfl, rfl, rw_is hr2, fl_c1 h (fun x1 W2 h => ⟨Nat.le_of_ble_eq_true rfl, rfl, rfl, rw_is hr, fl_c0 h (fun W3 h => h)⟩)⟩, fun q => have h := h.2 q; ⟨rfl, h⟩⟩⟩)
theorem sx_70 {d : Nat} {Q : fl_R} (r : Nat) (r2 : Nat) (W : fl_W) (hr : fl_row r) (hr2 : fl_row r2) (h : fl_cal d 64 [.ref r] W (fl_q0 fun W1 => hd_70_6 d Q r r2 (Int32.ofInt 0) W1)) : fl_cal (d + 1) 70 [.ref r, .ref r2] W Q := fl_intro [6] (fl_fold (⟨Nat.le_of_ble_eq_true rfl, rfl, rfl, rw_is hr, fl_c0 h (fun W1 h => ⟨Nat.le_of_ble_eq_true rfl, h⟩)⟩))
/-! 71 PlaneDesk$Row.addPart(LPlaneDesk$Row;II)V -/
def hd_71_3 (d : Nat) (Q : fl_R) (r : Nat) (r2 : Nat) (v3 v4 : Int32) (W : fl_W) : Prop := ∀ (o2 : Option Value), fl_WP (fl_cal d) 71 [3] Q 3 [some (.ref r), some (.ref r2), o2, some (.int v3), some (.int v4)] [] W
theorem sx_71_3 {d : Nat} {Q : fl_R} (r : Nat) (r2 : Nat) (v3 v4 : Int32) (W : fl_W) (hr : fl_row r) (hr2 : fl_row r2) (h : mi_br (v4 < v3) (fl_cal d 66 [.ref r2, .int v4] W (fl_q1 fun x1 W1 => fl_cal d 65 [.ref r, .int x1] W1 (fl_q0 fun W2 => hd_71_3 d Q r r2 v3 (v4 + Int32.ofInt 1) W2))) (Q none W)) : hd_71_3 d Q r r2 v3 v4 W := fun o2 => fl_fold (⟨fun q => have h := h.1 q; ⟨Nat.le_of_ble_eq_true rfl, rfl, rfl, rw_is hr2, fl_c1 h (fun x1 W1 h => ⟨Nat.le_of_ble_eq_true rfl, rfl, rfl, rw_is hr, fl_c0 h (fun W2 h => h _)⟩)⟩, fun q => have h := h.2 q; ⟨rfl, h⟩⟩)
theorem sx_71 {d : Nat} {Q : fl_R} (r : Nat) (r2 : Nat) (v2 v3 : Int32) (W : fl_W) (hr : fl_row r) (hr2 : fl_row r2) (h : hd_71_3 d Q r r2 v3 v2 W) : fl_cal (d + 1) 71 [.ref r, .ref r2, .int v2, .int v3] W Q := fl_intro [3] (fl_fold (⟨Nat.le_of_ble_eq_true rfl, h _⟩))
/-! 72 PlaneDesk$Row.addBackwards(LPlaneDesk$Row;)V -/
def hd_72_7 (d : Nat) (Q : fl_R) (r : Nat) (r2 : Nat) (v2 : Int32) (W : fl_W) : Prop := fl_WP (fl_cal d) 72 [7] Q 7 [some (.ref r), some (.ref r2), some (.int v2)] [] W
theorem sx_72_7 {d : Nat} {Q : fl_R} (r : Nat) (r2 : Nat) (v2 : Int32) (W : fl_W) (hr : fl_row r) (hr2 : fl_row r2) (h : mi_br (v2 < 0) (Q none W) (fl_cal d 66 [.ref r2, .int v2] W (fl_q1 fun x1 W1 => fl_cal d 65 [.ref r, .int x1] W1 (fl_q0 fun W2 => hd_72_7 d Q r r2 (v2 + Int32.ofInt (-1)) W2)))) : hd_72_7 d Q r r2 v2 W := fl_fold (⟨fun q => have h := h.1 q; ⟨rfl, h⟩, fun q => have h := h.2 q; ⟨Nat.le_of_ble_eq_true rfl, rfl, rfl, rw_is hr2, fl_c1 h (fun x1 W1 h => ⟨Nat.le_of_ble_eq_true rfl, rfl, rfl, rw_is hr, fl_c0 h (fun W2 h => h)⟩)⟩⟩)
theorem sx_72 {d : Nat} {Q : fl_R} (r : Nat) (r2 : Nat) (W : fl_W) (hr : fl_row r) (hr2 : fl_row r2) (h : hd_72_7 d Q r r2 ((W r2 1) - (Int32.ofInt 1)) W) : fl_cal (d + 1) 72 [.ref r, .ref r2] W Q := fl_intro [7] (fl_fold (⟨rw_I hr2, ⟨Nat.le_of_ble_eq_true rfl, h⟩⟩))
/-! 73 PlaneDesk$Row.addArc(LPlaneDesk$Row;II)V -/
def hd_73_10 (d : Nat) (Q : fl_R) (r : Nat) (r2 : Nat) (v3 v4 v5 : Int32) (W : fl_W) : Prop := ∀ (o2 o6 : Option Value), fl_WP (fl_cal d) 73 [10] Q 10 [some (.ref r), some (.ref r2), o2, some (.int v3), some (.int v4), some (.int v5), o6] [] W
theorem sx_73_10 {d : Nat} {Q : fl_R} (r : Nat) (r2 : Nat) (v3 v4 v5 : Int32) (W : fl_W) (hr : fl_row r) (hr2 : fl_row r2) (h : mi_br (v5 < (W r2 1)) (fl_cal d 66 [.ref r2, .int v4] W (fl_q1 fun x2 W2 => fl_cal d 65 [.ref r, .int x2] W2 (fl_q0 fun W3 => mi_br (x2 = v3) (Q none W3) (fl_cal d 69 [.ref r2, .int v4] W3 (fl_q1 fun x3 W4 => hd_73_10 d Q r r2 v3 x3 (v5 + Int32.ofInt 1) W4))))) (Q none W)) : hd_73_10 d Q r r2 v3 v4 v5 W := fun o2 o6 => fl_fold (⟨rw_I hr2, ⟨fun q => have h := h.1 q; ⟨Nat.le_of_ble_eq_true rfl, rfl, rfl, rw_is hr2, fl_c1 h (fun x2 W2 h => ⟨Nat.le_of_ble_eq_true rfl, ⟨Nat.le_of_ble_eq_true rfl, rfl, rfl, rw_is hr, fl_c0 h (fun W3 h => ⟨fun q => have h := h.1 q; ⟨rfl, h⟩, fun q => have h := h.2 q; ⟨Nat.le_of_ble_eq_true rfl, rfl, rfl, rw_is hr2, fl_c1 h (fun x3 W4 h => ⟨Nat.le_of_ble_eq_true rfl, h _ _⟩)⟩⟩)⟩⟩)⟩, fun q => have h := h.2 q; ⟨rfl, h⟩⟩⟩)
theorem sx_73 {d : Nat} {Q : fl_R} (r : Nat) (r2 : Nat) (v2 v3 : Int32) (W : fl_W) (hr : fl_row r) (hr2 : fl_row r2) (h : fl_cal d 67 [.ref r2, .int v2] W (fl_q1 fun x1 W1 => hd_73_10 d Q r r2 v3 x1 (Int32.ofInt 0) W1)) : fl_cal (d + 1) 73 [.ref r, .ref r2, .int v2, .int v3] W Q := fl_intro [10] (fl_fold (⟨Nat.le_of_ble_eq_true rfl, rfl, rfl, rw_is hr2, fl_c1 h (fun x1 W1 h => ⟨Nat.le_of_ble_eq_true rfl, ⟨Nat.le_of_ble_eq_true rfl, h _ _⟩⟩)⟩))
/-! 74 PlaneDesk$Row.bits()I -/
def hd_74_4 (d : Nat) (Q : fl_R) (r : Nat) (v1 v2 : Int32) (W : fl_W) : Prop := fl_WP (fl_cal d) 74 [4] Q 4 [some (.ref r), some (.int v1), some (.int v2)] [] W
theorem sx_74_4 {d : Nat} {Q : fl_R} (r : Nat) (v1 v2 : Int32) (W : fl_W) (hr : fl_row r) (h : mi_br (v2 < (W r 1)) (vp_in v2 (fl_cap r) ∧ (fl_cal d 120 [.int (W (r + 1) v2.toNatClampNeg)] W (fl_q1 fun x1 W1 => hd_74_4 d Q r (v1 ||| x1) (v2 + Int32.ofInt 1) W1))) (Q (some (.int v1)) W)) : hd_74_4 d Q r v1 v2 W := fl_fold (⟨rw_I hr, ⟨fun q => have h := h.1 q; rw_R hr (rw_A hr ⟨h.1, have h := h.2; ⟨Nat.le_of_ble_eq_true rfl, rfl, rfl, fl_c1 h (fun x1 W1 h => ⟨Nat.le_of_ble_eq_true rfl, h⟩)⟩⟩), fun q => have h := h.2 q; ⟨trivial, h⟩⟩⟩)
theorem sx_74 {d : Nat} {Q : fl_R} (r : Nat) (W : fl_W) (hr : fl_row r) (h : hd_74_4 d Q r (Int32.ofInt 0) (Int32.ofInt 0) W) : fl_cal (d + 1) 74 [.ref r] W Q := fl_intro [4] (fl_fold (⟨Nat.le_of_ble_eq_true rfl, ⟨Nat.le_of_ble_eq_true rfl, h⟩⟩))
end
section
/-! 119 PlaneDesk.canBe(I)Z -/
theorem sx_119 {d : Nat} {Q : fl_R} (v0 : Int32) (W : fl_W) (h : mi_br (v0 < 0) (Q (some (.int (Int32.ofInt 0))) W) (mi_br (v0 < (Int8.ofInt 20).toInt32) (Q (some (.int (Int32.ofInt 1))) W) (Q (some (.int (Int32.ofInt 0))) W))) : fl_cal (d + 1) 119 [.int v0] W Q := fl_intro [] (fl_fold (⟨fun q => have h := h.1 q; ⟨Or.inl rfl, h⟩, fun q => have h := h.2 q; ⟨fun q => have h := h.1 q; ⟨Or.inr rfl, h⟩, fun q => have h := h.2 q; ⟨Or.inl rfl, h⟩⟩⟩))
/-! 120 PlaneDesk.bit(I)I -/
theorem sx_120 {d : Nat} {Q : fl_R} (v0 : Int32) (W : fl_W) (h : mi_br (v0 < 0) (Q (some (.int (Int32.ofInt 0))) W) (mi_br (v0 < (Int8.ofInt 20).toInt32) (Q (some (.int ((Int32.ofInt 1) <<< (v0 &&& 31)))) W) (Q (some (.int (Int32.ofInt 0))) W))) : fl_cal (d + 1) 120 [.int v0] W Q := fl_intro [] (fl_fold (⟨fun q => have h := h.1 q; ⟨trivial, h⟩, fun q => have h := h.2 q; ⟨fun q => have h := h.1 q; ⟨trivial, h⟩, fun q => have h := h.2 q; ⟨trivial, h⟩⟩⟩))
/-! 121 PlaneDesk.in(II)Z -/
theorem sx_121 {d : Nat} {Q : fl_R} (v0 v1 : Int32) (W : fl_W) (h : mi_br (v1 < 0) (Q (some (.int (Int32.ofInt 0))) W) (mi_br (v1 < (Int8.ofInt 20).toInt32) (mi_br (((v0 >>> (v1 &&& 31)) &&& (Int32.ofInt 1)) = 0) (Q (some (.int (Int32.ofInt 0))) W) (Q (some (.int (Int32.ofInt 1))) W)) (Q (some (.int (Int32.ofInt 0))) W))) : fl_cal (d + 1) 121 [.int v0, .int v1] W Q := fl_intro [] (fl_fold (⟨fun q => have h := h.1 q; ⟨Or.inl rfl, h⟩, fun q => have h := h.2 q; ⟨fun q => have h := h.1 q; ⟨fun q => have h := h.1 q; ⟨Or.inl rfl, h⟩, fun q => have h := h.2 q; ⟨Or.inr rfl, h⟩⟩, fun q => have h := h.2 q; ⟨Or.inl rfl, h⟩⟩⟩))
/-! 122 PlaneDesk.leastOf(I)I -/
theorem sx_122 {d : Nat} {Q : fl_R} (v0 : Int32) (W : fl_W) (h : mi_br (v0 = 0) (Q (some (.int (Int32.ofInt (-1)))) W) (fl_cal d 191 [.int ((v0 &&& (-v0)) - (Int32.ofInt 1))] W (fl_q1 fun x1 W1 => Q (some (.int x1)) W1))) : fl_cal (d + 1) 122 [.int v0] W Q := fl_intro [] (fl_fold (⟨fun q => have h := h.1 q; ⟨trivial, h⟩, fun q => have h := h.2 q; ⟨Nat.le_of_ble_eq_true rfl, rfl, rfl, fl_c1 h (fun x1 W1 h => ⟨trivial, h⟩)⟩⟩))
/-! 191 java/lang/Integer.bitCount(I)I -/
theorem sx_191 {d : Nat} {Q : fl_R} (v0 : Int32) (W : fl_W) (h : Q (some (.int ((((((((v0 - ((v0.toUInt32 >>> ((Int32.ofInt 1).toUInt32 &&& Int32.toUInt32 31)).toInt32 &&& (Int32.ofNat 1431655765))) &&& (Int32.ofNat 858993459)) + (((v0 - ((v0.toUInt32 >>> ((Int32.ofInt 1).toUInt32 &&& Int32.toUInt32 31)).toInt32 &&& (Int32.ofNat 1431655765))).toUInt32 >>> ((Int32.ofInt 2).toUInt32 &&& Int32.toUInt32 31)).toInt32 &&& (Int32.ofNat 858993459))) + ((((v0 - ((v0.toUInt32 >>> ((Int32.ofInt 1).toUInt32 &&& Int32.toUInt32 31)).toInt32 &&& (Int32.ofNat 1431655765))) &&& (Int32.ofNat 858993459)) + (((v0 - ((v0.toUInt32 >>> ((Int32.ofInt 1).toUInt32 &&& Int32.toUInt32 31)).toInt32 &&& (Int32.ofNat 1431655765))).toUInt32 >>> ((Int32.ofInt 2).toUInt32 &&& Int32.toUInt32 31)).toInt32 &&& (Int32.ofNat 858993459))).toUInt32 >>> ((Int32.ofInt 4).toUInt32 &&& Int32.toUInt32 31)).toInt32) &&& (Int32.ofNat 252645135)) + ((((((v0 - ((v0.toUInt32 >>> ((Int32.ofInt 1).toUInt32 &&& Int32.toUInt32 31)).toInt32 &&& (Int32.ofNat 1431655765))) &&& (Int32.ofNat 858993459)) + (((v0 - ((v0.toUInt32 >>> ((Int32.ofInt 1).toUInt32 &&& Int32.toUInt32 31)).toInt32 &&& (Int32.ofNat 1431655765))).toUInt32 >>> ((Int32.ofInt 2).toUInt32 &&& Int32.toUInt32 31)).toInt32 &&& (Int32.ofNat 858993459))) + ((((v0 - ((v0.toUInt32 >>> ((Int32.ofInt 1).toUInt32 &&& Int32.toUInt32 31)).toInt32 &&& (Int32.ofNat 1431655765))) &&& (Int32.ofNat 858993459)) + (((v0 - ((v0.toUInt32 >>> ((Int32.ofInt 1).toUInt32 &&& Int32.toUInt32 31)).toInt32 &&& (Int32.ofNat 1431655765))).toUInt32 >>> ((Int32.ofInt 2).toUInt32 &&& Int32.toUInt32 31)).toInt32 &&& (Int32.ofNat 858993459))).toUInt32 >>> ((Int32.ofInt 4).toUInt32 &&& Int32.toUInt32 31)).toInt32) &&& (Int32.ofNat 252645135)).toUInt32 >>> (((Int8.ofInt 8).toInt32).toUInt32 &&& Int32.toUInt32 31)).toInt32) + (((((((v0 - ((v0.toUInt32 >>> ((Int32.ofInt 1).toUInt32 &&& Int32.toUInt32 31)).toInt32 &&& (Int32.ofNat 1431655765))) &&& (Int32.ofNat 858993459)) + (((v0 - ((v0.toUInt32 >>> ((Int32.ofInt 1).toUInt32 &&& Int32.toUInt32 31)).toInt32 &&& (Int32.ofNat 1431655765))).toUInt32 >>> ((Int32.ofInt 2).toUInt32 &&& Int32.toUInt32 31)).toInt32 &&& (Int32.ofNat 858993459))) + ((((v0 - ((v0.toUInt32 >>> ((Int32.ofInt 1).toUInt32 &&& Int32.toUInt32 31)).toInt32 &&& (Int32.ofNat 1431655765))) &&& (Int32.ofNat 858993459)) + (((v0 - ((v0.toUInt32 >>> ((Int32.ofInt 1).toUInt32 &&& Int32.toUInt32 31)).toInt32 &&& (Int32.ofNat 1431655765))).toUInt32 >>> ((Int32.ofInt 2).toUInt32 &&& Int32.toUInt32 31)).toInt32 &&& (Int32.ofNat 858993459))).toUInt32 >>> ((Int32.ofInt 4).toUInt32 &&& Int32.toUInt32 31)).toInt32) &&& (Int32.ofNat 252645135)) + ((((((v0 - ((v0.toUInt32 >>> ((Int32.ofInt 1).toUInt32 &&& Int32.toUInt32 31)).toInt32 &&& (Int32.ofNat 1431655765))) &&& (Int32.ofNat 858993459)) + (((v0 - ((v0.toUInt32 >>> ((Int32.ofInt 1).toUInt32 &&& Int32.toUInt32 31)).toInt32 &&& (Int32.ofNat 1431655765))).toUInt32 >>> ((Int32.ofInt 2).toUInt32 &&& Int32.toUInt32 31)).toInt32 &&& (Int32.ofNat 858993459))) + ((((v0 - ((v0.toUInt32 >>> ((Int32.ofInt 1).toUInt32 &&& Int32.toUInt32 31)).toInt32 &&& (Int32.ofNat 1431655765))) &&& (Int32.ofNat 858993459)) + (((v0 - ((v0.toUInt32 >>> ((Int32.ofInt 1).toUInt32 &&& Int32.toUInt32 31)).toInt32 &&& (Int32.ofNat 1431655765))).toUInt32 >>> ((Int32.ofInt 2).toUInt32 &&& Int32.toUInt32 31)).toInt32 &&& (Int32.ofNat 858993459))).toUInt32 >>> ((Int32.ofInt 4).toUInt32 &&& Int32.toUInt32 31)).toInt32) &&& (Int32.ofNat 252645135)).toUInt32 >>> (((Int8.ofInt 8).toInt32).toUInt32 &&& Int32.toUInt32 31)).toInt32).toUInt32 >>> (((Int8.ofInt 16).toInt32).toUInt32 &&& Int32.toUInt32 31)).toInt32) &&& (Int8.ofInt 63).toInt32))) W) : fl_cal (d + 1) 191 [.int v0] W Q := fl_intro [] (fl_fold (⟨Nat.le_of_ble_eq_true rfl, ⟨Nat.le_of_ble_eq_true rfl, ⟨Nat.le_of_ble_eq_true rfl, ⟨Nat.le_of_ble_eq_true rfl, ⟨Nat.le_of_ble_eq_true rfl, ⟨trivial, h⟩⟩⟩⟩⟩⟩))
/-! 192 java/util/Arrays.fill([II)V -/
def hd_192_5 (d : Nat) (Q : fl_R) (a : Nat) (v1 v2 v3 : Int32) (W : fl_W) : Prop := fl_WP (fl_cal d) 192 [5] Q 5 [some (.ref a), some (.int v1), some (.int v2), some (.int v3)] [] W
theorem sx_192_5 {d : Nat} {Q : fl_R} (a : Nat) (v1 v2 v3 : Int32) (W : fl_W) {na : Nat} (ha : fl_sh a = (1, 0, [na])) (h : mi_br (v2 < v3) (vp_in v2 na ∧ (∀ W1 : fl_W, W1 = fl_uw W a v2.toNatClampNeg v1 → hd_192_5 d Q a v1 (v2 + Int32.ofInt 1) v3 W1)) (Q none W)) : hd_192_5 d Q a v1 v2 v3 W := fl_fold (⟨fun q => have h := h.1 q; fl_aI_of ha ⟨h.1, have h := h.2; have h := h _ rfl; h⟩, fun q => have h := h.2 q; ⟨rfl, h⟩⟩)
theorem sx_192 {d : Nat} {Q : fl_R} (a : Nat) (v1 : Int32) (W : fl_W) {na : Nat} (ha : fl_sh a = (1, 0, [na])) (h : hd_192_5 d Q a v1 (Int32.ofInt 0) (Int32.ofNat na) W) : fl_cal (d + 1) 192 [.ref a, .int v1] W Q := fl_intro [5] (fl_fold (⟨Nat.le_of_ble_eq_true rfl, fl_aI_of ha (⟨Nat.le_of_ble_eq_true rfl, h⟩)⟩))
/-! 40 PlaneDesk$Net.begin(I)V -/
theorem sx_40 {d : Nat} {Q : fl_R} (b : Nat) (v1 : Int32) (W : fl_W) (hb : fl_net b) (h : ∀ W1 : fl_W, W1 = fl_uw W b 3 (if (Int32.ofInt 0) < (if (Int8.ofInt 20).toInt32 < v1 then (Int8.ofInt 20).toInt32 else v1) then (if (Int8.ofInt 20).toInt32 < v1 then (Int8.ofInt 20).toInt32 else v1) else (Int32.ofInt 0)) → ∀ W2 : fl_W, W2 = fl_uw W1 b 4 (Int32.ofInt 0) → fl_cal d 192 [.ref (b + 3), .int (Int32.ofInt 0)] W2 (fl_q0 fun W3 => Q none W3)) : fl_cal (d + 1) 40 [.ref b, .int v1] W Q := fl_intro [] (fl_fold (⟨rfl, ⟨rfl, ⟨nt_I3 hb, trivial, have h := h _ rfl; ⟨nt_I4 hb, trivial, have h := h _ rfl; nt_R2 hb (⟨Nat.le_of_ble_eq_true rfl, rfl, rfl, fl_c0 h (fun W3 h => ⟨rfl, h⟩)⟩)⟩⟩⟩⟩))
/-! 41 PlaneDesk$Net.copy(LPlaneDesk$Net;)V -/
def hd_41_10 (d : Nat) (Q : fl_R) (b : Nat) (b2 : Nat) (v2 : Int32) (W : fl_W) : Prop := fl_WP (fl_cal d) 41 [10] Q 10 [some (.ref b), some (.ref b2), some (.int v2)] [] W
theorem sx_41_10 {d : Nat} {Q : fl_R} (b : Nat) (b2 : Nat) (v2 : Int32) (W : fl_W) (hb : fl_net b) (hb2 : fl_net b2) (h : mi_br (v2 < (W b2 4)) (fl_cal d 44 [.ref b2, .int v2] W (fl_q1 fun x1 W2 => fl_cal d 45 [.ref b2, .int v2] W2 (fl_q1 fun x2 W3 => fl_cal d 50 [.ref b, .int x1, .int x2] W3 (fl_q0 fun W4 => hd_41_10 d Q b b2 (v2 + Int32.ofInt 1) W4)))) (Q none W)) : hd_41_10 d Q b b2 v2 W := fl_fold (⟨nt_I4 hb2, ⟨fun q => have h := h.1 q; ⟨Nat.le_of_ble_eq_true rfl, rfl, rfl, nt_is hb2, fl_c1 h (fun x1 W2 h => ⟨Nat.le_of_ble_eq_true rfl, rfl, rfl, nt_is hb2, fl_c1 h (fun x2 W3 h => ⟨Nat.le_of_ble_eq_true rfl, rfl, rfl, nt_is hb, fl_c0 h (fun W4 h => h)⟩)⟩)⟩, fun q => have h := h.2 q; ⟨rfl, h⟩⟩⟩)
theorem sx_41 {d : Nat} {Q : fl_R} (b : Nat) (b2 : Nat) (W : fl_W) (hb : fl_net b) (hb2 : fl_net b2) (h : fl_cal d 40 [.ref b, .int (W b2 3)] W (fl_q0 fun W1 => hd_41_10 d Q b b2 (Int32.ofInt 0) W1)) : fl_cal (d + 1) 41 [.ref b, .ref b2] W Q := fl_intro [10] (fl_fold (⟨nt_I3 hb2, ⟨Nat.le_of_ble_eq_true rfl, rfl, rfl, nt_is hb, fl_c0 h (fun W1 h => ⟨Nat.le_of_ble_eq_true rfl, h⟩)⟩⟩))
/-! 42 PlaneDesk$Net.hasVertex(I)Z -/
theorem sx_42 {d : Nat} {Q : fl_R} (b : Nat) (v1 : Int32) (W : fl_W) (hb : fl_net b) (h : mi_br (v1 < 0) (Q (some (.int (Int32.ofInt 0))) W) (mi_br (v1 < (W b 3)) (Q (some (.int (Int32.ofInt 1))) W) (Q (some (.int (Int32.ofInt 0))) W))) : fl_cal (d + 1) 42 [.ref b, .int v1] W Q := fl_intro [] (fl_fold (⟨fun q => have h := h.1 q; ⟨Or.inl rfl, h⟩, fun q => have h := h.2 q; ⟨nt_I3 hb, ⟨fun q => have h := h.1 q; ⟨Or.inr rfl, h⟩, fun q => have h := h.2 q; ⟨Or.inl rfl, h⟩⟩⟩⟩))
/-! 43 PlaneDesk$Net.hasEdge(I)Z -/
theorem sx_43 {d : Nat} {Q : fl_R} (b : Nat) (v1 : Int32) (W : fl_W) (hb : fl_net b) (h : mi_br (v1 < 0) (Q (some (.int (Int32.ofInt 0))) W) (mi_br (v1 < (W b 4)) (Q (some (.int (Int32.ofInt 1))) W) (Q (some (.int (Int32.ofInt 0))) W))) : fl_cal (d + 1) 43 [.ref b, .int v1] W Q := fl_intro [] (fl_fold (⟨fun q => have h := h.1 q; ⟨Or.inl rfl, h⟩, fun q => have h := h.2 q; ⟨nt_I4 hb, ⟨fun q => have h := h.1 q; ⟨Or.inr rfl, h⟩, fun q => have h := h.2 q; ⟨Or.inl rfl, h⟩⟩⟩⟩))
/-! 44 PlaneDesk$Net.low(I)I -/
theorem sx_44 {d : Nat} {Q : fl_R} (b : Nat) (v1 : Int32) (W : fl_W) (hb : fl_net b) (h : fl_cal d 43 [.ref b, .int v1] W (fl_q1 fun x1 W1 => mi_br (x1 = 0) (Q (some (.int (Int32.ofInt (-1)))) W1) (vp_in v1 60 ∧ (Q (some (.int (W1 (b + 1) v1.toNatClampNeg))) W1)))) : fl_cal (d + 1) 44 [.ref b, .int v1] W Q := fl_intro [] (fl_fold (⟨Nat.le_of_ble_eq_true rfl, rfl, rfl, nt_is hb, fl_c1 h (fun x1 W1 h => ⟨fun q => have h := h.1 q; ⟨trivial, h⟩, fun q => have h := h.2 q; nt_R0 hb (nt_A0 hb ⟨h.1, have h := h.2; ⟨trivial, h⟩⟩)⟩)⟩))
/-! 45 PlaneDesk$Net.high(I)I -/
theorem sx_45 {d : Nat} {Q : fl_R} (b : Nat) (v1 : Int32) (W : fl_W) (hb : fl_net b) (h : fl_cal d 43 [.ref b, .int v1] W (fl_q1 fun x1 W1 => mi_br (x1 = 0) (Q (some (.int (Int32.ofInt (-1)))) W1) (vp_in v1 60 ∧ (Q (some (.int (W1 (b + 2) v1.toNatClampNeg))) W1)))) : fl_cal (d + 1) 45 [.ref b, .int v1] W Q := fl_intro [] (fl_fold (⟨Nat.le_of_ble_eq_true rfl, rfl, rfl, nt_is hb, fl_c1 h (fun x1 W1 h => ⟨fun q => have h := h.1 q; ⟨trivial, h⟩, fun q => have h := h.2 q; nt_R1 hb (nt_A1 hb ⟨h.1, have h := h.2; ⟨trivial, h⟩⟩)⟩)⟩))
/-! 46 PlaneDesk$Net.around(I)I -/
theorem sx_46 {d : Nat} {Q : fl_R} (b : Nat) (v1 : Int32) (W : fl_W) (hb : fl_net b) (h : mi_br (v1 < 0) (Q (some (.int (Int32.ofInt 0))) W) (mi_br (v1 < (W b 3)) (vp_in v1 20 ∧ (Q (some (.int (W (b + 3) v1.toNatClampNeg))) W)) (Q (some (.int (Int32.ofInt 0))) W))) : fl_cal (d + 1) 46 [.ref b, .int v1] W Q := fl_intro [] (fl_fold (⟨fun q => have h := h.1 q; ⟨trivial, h⟩, fun q => have h := h.2 q; ⟨nt_I3 hb, ⟨fun q => have h := h.1 q; nt_R2 hb (nt_A2 hb ⟨h.1, have h := h.2; ⟨trivial, h⟩⟩), fun q => have h := h.2 q; ⟨trivial, h⟩⟩⟩⟩))
/-! 47 PlaneDesk$Net.aroundAll(I)I -/
def hd_47_4 (d : Nat) (Q : fl_R) (b : Nat) (v1 v2 v3 : Int32) (W : fl_W) : Prop := fl_WP (fl_cal d) 47 [4] Q 4 [some (.ref b), some (.int v1), some (.int v2), some (.int v3)] [] W
theorem sx_47_4 {d : Nat} {Q : fl_R} (b : Nat) (v1 v2 v3 : Int32) (W : fl_W) (hb : fl_net b) (h : mi_br (v3 < (W b 3)) (mi_br (((v1 >>> (v3 &&& 31)) &&& (Int32.ofInt 1)) = 0) (hd_47_4 d Q b v1 v2 (v3 + Int32.ofInt 1) W) (vp_in v3 20 ∧ (hd_47_4 d Q b v1 (v2 ||| (W (b + 3) v3.toNatClampNeg)) (v3 + Int32.ofInt 1) W))) (Q (some (.int v2)) W)) : hd_47_4 d Q b v1 v2 v3 W := fl_fold (⟨nt_I3 hb, ⟨fun q => have h := h.1 q; ⟨fun q => have h := h.1 q; h, fun q => have h := h.2 q; nt_R2 hb (nt_A2 hb ⟨h.1, have h := h.2; ⟨Nat.le_of_ble_eq_true rfl, h⟩⟩)⟩, fun q => have h := h.2 q; ⟨trivial, h⟩⟩⟩)
theorem sx_47 {d : Nat} {Q : fl_R} (b : Nat) (v1 : Int32) (W : fl_W) (hb : fl_net b) (h : hd_47_4 d Q b v1 (Int32.ofInt 0) (Int32.ofInt 0) W) : fl_cal (d + 1) 47 [.ref b, .int v1] W Q := fl_intro [4] (fl_fold (⟨Nat.le_of_ble_eq_true rfl, ⟨Nat.le_of_ble_eq_true rfl, h⟩⟩))
/-! 48 PlaneDesk$Net.joined(II)Z -/
theorem sx_48 {d : Nat} {Q : fl_R} (b : Nat) (v1 v2 : Int32) (W : fl_W) (hb : fl_net b) (h : mi_br (v1 < 0) (Q (some (.int (Int32.ofInt 0))) W) (mi_br (v1 < (W b 3)) (vp_in v1 20 ∧ (fl_cal d 121 [.int (W (b + 3) v1.toNatClampNeg), .int v2] W (fl_q1 fun x1 W1 => mi_br (x1 = 0) (Q (some (.int (Int32.ofInt 0))) W1) (Q (some (.int (Int32.ofInt 1))) W1)))) (Q (some (.int (Int32.ofInt 0))) W))) : fl_cal (d + 1) 48 [.ref b, .int v1, .int v2] W Q := fl_intro [] (fl_fold (⟨fun q => have h := h.1 q; ⟨Or.inl rfl, h⟩, fun q => have h := h.2 q; ⟨nt_I3 hb, ⟨fun q => have h := h.1 q; nt_R2 hb (nt_A2 hb ⟨h.1, have h := h.2; ⟨Nat.le_of_ble_eq_true rfl, rfl, rfl, fl_c1 h (fun x1 W1 h => ⟨fun q => have h := h.1 q; ⟨Or.inl rfl, h⟩, fun q => have h := h.2 q; ⟨Or.inr rfl, h⟩⟩)⟩⟩), fun q => have h := h.2 q; ⟨Or.inl rfl, h⟩⟩⟩⟩))
/-! 49 PlaneDesk$Net.takes(II)Z -/
theorem sx_49 {d : Nat} {Q : fl_R} (b : Nat) (v1 v2 : Int32) (W : fl_W) (hb : fl_net b) (h : mi_br (v1 < 0) (Q (some (.int (Int32.ofInt 0))) W) (mi_br (v1 < (W b 3)) (mi_br (v2 < 0) (Q (some (.int (Int32.ofInt 0))) W) (mi_br (v2 < (W b 3)) (mi_br (v1 = v2) (Q (some (.int (Int32.ofInt 0))) W) (vp_in v1 20 ∧ (mi_br ((((W (b + 3) v1.toNatClampNeg) >>> (v2 &&& 31)) &&& (Int32.ofInt 1)) = 0) (mi_br ((W b 4) < (Int8.ofInt 60).toInt32) (Q (some (.int (Int32.ofInt 1))) W) (Q (some (.int (Int32.ofInt 0))) W)) (Q (some (.int (Int32.ofInt 0))) W)))) (Q (some (.int (Int32.ofInt 0))) W))) (Q (some (.int (Int32.ofInt 0))) W))) : fl_cal (d + 1) 49 [.ref b, .int v1, .int v2] W Q := fl_intro [] (fl_fold (⟨fun q => have h := h.1 q; ⟨Or.inl rfl, h⟩, fun q => have h := h.2 q; ⟨nt_I3 hb, ⟨fun q => have h := h.1 q; ⟨fun q => have h := h.1 q; ⟨Or.inl rfl, h⟩, fun q => have h := h.2 q; ⟨nt_I3 hb, ⟨fun q => have h := h.1 q; ⟨fun q => have h := h.1 q; ⟨Or.inl rfl, h⟩, fun q => have h := h.2 q; nt_R2 hb (nt_A2 hb ⟨h.1, have h := h.2; ⟨fun q => have h := h.1 q; ⟨nt_I4 hb, ⟨fun q => have h := h.1 q; ⟨Or.inr rfl, h⟩, fun q => have h := h.2 q; ⟨Or.inl rfl, h⟩⟩⟩, fun q => have h := h.2 q; ⟨Or.inl rfl, h⟩⟩⟩)⟩, fun q => have h := h.2 q; ⟨Or.inl rfl, h⟩⟩⟩⟩, fun q => have h := h.2 q; ⟨Or.inl rfl, h⟩⟩⟩⟩))
/-! 50 PlaneDesk$Net.add(II)V -/
theorem sx_50 {d : Nat} {Q : fl_R} (b : Nat) (v1 v2 : Int32) (W : fl_W) (hb : fl_net b) (h : fl_cal d 49 [.ref b, .int v1, .int v2] W (fl_q1 fun x1 W1 => mi_br (x1 = 0) (Q none W1) (vp_in (W1 b 4) 60 ∧ (∀ W2 : fl_W, W2 = fl_uw W1 (b + 1) (W1 b 4).toNatClampNeg (if v2 < v1 then v2 else v1) → vp_in (W2 b 4) 60 ∧ (∀ W3 : fl_W, W3 = fl_uw W2 (b + 2) (W2 b 4).toNatClampNeg (if v1 < v2 then v2 else v1) → vp_in v1 20 ∧ (fl_cal d 120 [.int v2] W3 (fl_q1 fun x2 W4 => vp_in v1 20 ∧ (∀ W5 : fl_W, W5 = fl_uw W4 (b + 3) v1.toNatClampNeg ((W3 (b + 3) v1.toNatClampNeg) ||| x2) → vp_in v2 20 ∧ (fl_cal d 120 [.int v1] W5 (fl_q1 fun x3 W6 => vp_in v2 20 ∧ (∀ W7 : fl_W, W7 = fl_uw W6 (b + 3) v2.toNatClampNeg ((W5 (b + 3) v2.toNatClampNeg) ||| x3) → ∀ W8 : fl_W, W8 = fl_uw W7 b 4 ((W7 b 4) + (Int32.ofInt 1)) → Q none W8))))))))))) : fl_cal (d + 1) 50 [.ref b, .int v1, .int v2] W Q := fl_intro [] (fl_fold (⟨Nat.le_of_ble_eq_true rfl, rfl, rfl, nt_is hb, fl_c1 h (fun x1 W1 h => ⟨fun q => have h := h.1 q; ⟨rfl, h⟩, fun q => have h := h.2 q; nt_R0 hb (⟨nt_I4 hb, ⟨rfl, nt_A0 hb ⟨h.1, have h := h.2; have h := h _ rfl; nt_R1 hb (⟨nt_I4 hb, ⟨rfl, nt_A1 hb ⟨h.1, have h := h.2; have h := h _ rfl; nt_R2 hb (⟨rfl, rfl, nt_A2 hb ⟨h.1, have h := h.2; ⟨Nat.le_of_ble_eq_true rfl, rfl, rfl, fl_c1 h (fun x2 W4 h => nt_A2 hb ⟨h.1, have h := h.2; have h := h _ rfl; nt_R2 hb (⟨rfl, rfl, nt_A2 hb ⟨h.1, have h := h.2; ⟨Nat.le_of_ble_eq_true rfl, rfl, rfl, fl_c1 h (fun x3 W6 h => nt_A2 hb ⟨h.1, have h := h.2; have h := h _ rfl; ⟨rfl, ⟨nt_I4 hb, ⟨nt_I4 hb, trivial, have h := h _ rfl; ⟨rfl, h⟩⟩⟩⟩⟩)⟩⟩⟩)⟩)⟩⟩⟩)⟩⟩⟩)⟩⟩⟩)⟩)⟩))
/-! 51 PlaneDesk$Net.remove(I)V -/
def hd_51_66 (d : Nat) (Q : fl_R) (b : Nat) (v4 : Int32) (W : fl_W) : Prop := ∀ (o1 o2 o3 : Option Value), fl_WP (fl_cal d) 51 [66] Q 66 [some (.ref b), o1, o2, o3, some (.int v4)] [] W
theorem sx_51_66 {d : Nat} {Q : fl_R} (b : Nat) (v4 : Int32) (W : fl_W) (hb : fl_net b) (h : mi_br (v4 < (W b 4)) (vp_in (v4 + (Int32.ofInt 1)) 60 ∧ (vp_in v4 60 ∧ (∀ W7 : fl_W, W7 = fl_uw W (b + 1) v4.toNatClampNeg (W (b + 1) (v4 + (Int32.ofInt 1)).toNatClampNeg) → vp_in (v4 + (Int32.ofInt 1)) 60 ∧ (vp_in v4 60 ∧ (∀ W8 : fl_W, W8 = fl_uw W7 (b + 2) v4.toNatClampNeg (W7 (b + 2) (v4 + (Int32.ofInt 1)).toNatClampNeg) → hd_51_66 d Q b (v4 + Int32.ofInt 1) W8))))) (Q none W)) : hd_51_66 d Q b v4 W := fun o1 o2 o3 => fl_fold (⟨nt_I4 hb, ⟨fun q => have h := h.1 q; nt_R0 hb (nt_R0 hb (nt_A0 hb ⟨h.1, have h := h.2; nt_A0 hb ⟨h.1, have h := h.2; have h := h _ rfl; nt_R1 hb (nt_R1 hb (nt_A1 hb ⟨h.1, have h := h.2; nt_A1 hb ⟨h.1, have h := h.2; have h := h _ rfl; h _ _ _⟩⟩))⟩⟩)), fun q => have h := h.2 q; ⟨rfl, h⟩⟩⟩)
theorem sx_51 {d : Nat} {Q : fl_R} (b : Nat) (v1 : Int32) (W : fl_W) (hb : fl_net b) (h : fl_cal d 43 [.ref b, .int v1] W (fl_q1 fun x1 W1 => mi_br (x1 = 0) (Q none W1) (vp_in v1 60 ∧ (vp_in v1 60 ∧ (vp_in (W1 (b + 1) v1.toNatClampNeg) 20 ∧ (fl_cal d 120 [.int (W1 (b + 2) v1.toNatClampNeg)] W1 (fl_q1 fun x2 W2 => vp_in (W1 (b + 1) v1.toNatClampNeg) 20 ∧ (∀ W3 : fl_W, W3 = fl_uw W2 (b + 3) (W1 (b + 1) v1.toNatClampNeg).toNatClampNeg ((W1 (b + 3) (W1 (b + 1) v1.toNatClampNeg).toNatClampNeg) &&& (x2 ^^^ (Int32.ofInt (-1)))) → vp_in (W1 (b + 2) v1.toNatClampNeg) 20 ∧ (fl_cal d 120 [.int (W1 (b + 1) v1.toNatClampNeg)] W3 (fl_q1 fun x3 W4 => vp_in (W1 (b + 2) v1.toNatClampNeg) 20 ∧ (∀ W5 : fl_W, W5 = fl_uw W4 (b + 3) (W1 (b + 2) v1.toNatClampNeg).toNatClampNeg ((W3 (b + 3) (W1 (b + 2) v1.toNatClampNeg).toNatClampNeg) &&& (x3 ^^^ (Int32.ofInt (-1)))) → ∀ W6 : fl_W, W6 = fl_uw W5 b 4 ((W5 b 4) - (Int32.ofInt 1)) → hd_51_66 d Q b v1 W6))))))))))) : fl_cal (d + 1) 51 [.ref b, .int v1] W Q := fl_intro [66] (fl_fold (⟨Nat.le_of_ble_eq_true rfl, rfl, rfl, nt_is hb, fl_c1 h (fun x1 W1 h => ⟨fun q => have h := h.1 q; ⟨rfl, h⟩, fun q => have h := h.2 q; nt_R0 hb (nt_A0 hb ⟨h.1, have h := h.2; ⟨Nat.le_of_ble_eq_true rfl, nt_R1 hb (nt_A1 hb ⟨h.1, have h := h.2; ⟨Nat.le_of_ble_eq_true rfl, nt_R2 hb (⟨rfl, rfl, nt_A2 hb ⟨h.1, have h := h.2; ⟨Nat.le_of_ble_eq_true rfl, rfl, rfl, fl_c1 h (fun x2 W2 h => nt_A2 hb ⟨h.1, have h := h.2; have h := h _ rfl; nt_R2 hb (⟨rfl, rfl, nt_A2 hb ⟨h.1, have h := h.2; ⟨Nat.le_of_ble_eq_true rfl, rfl, rfl, fl_c1 h (fun x3 W4 h => nt_A2 hb ⟨h.1, have h := h.2; have h := h _ rfl; ⟨rfl, ⟨nt_I4 hb, ⟨nt_I4 hb, trivial, have h := h _ rfl; ⟨Nat.le_of_ble_eq_true rfl, h _ _ _⟩⟩⟩⟩⟩)⟩⟩⟩)⟩)⟩⟩⟩)⟩⟩)⟩⟩)⟩)⟩))
/-! 52 PlaneDesk$Net.lonely()I -/
def hd_52_4 (d : Nat) (Q : fl_R) (b : Nat) (v1 v2 : Int32) (W : fl_W) : Prop := fl_WP (fl_cal d) 52 [4] Q 4 [some (.ref b), some (.int v1), some (.int v2)] [] W
theorem sx_52_4 {d : Nat} {Q : fl_R} (b : Nat) (v1 v2 : Int32) (W : fl_W) (hb : fl_net b) (h : mi_br (v2 < (W b 3)) (vp_in v2 20 ∧ (mi_br ((W (b + 3) v2.toNatClampNeg) = 0) (hd_52_4 d Q b (v1 + Int32.ofInt 1) (v2 + Int32.ofInt 1) W) (hd_52_4 d Q b v1 (v2 + Int32.ofInt 1) W))) (Q (some (.int v1)) W)) : hd_52_4 d Q b v1 v2 W := fl_fold (⟨nt_I3 hb, ⟨fun q => have h := h.1 q; nt_R2 hb (nt_A2 hb ⟨h.1, have h := h.2; ⟨fun q => have h := h.1 q; h, fun q => have h := h.2 q; h⟩⟩), fun q => have h := h.2 q; ⟨trivial, h⟩⟩⟩)
theorem sx_52 {d : Nat} {Q : fl_R} (b : Nat) (W : fl_W) (hb : fl_net b) (h : hd_52_4 d Q b (Int32.ofInt 0) (Int32.ofInt 0) W) : fl_cal (d + 1) 52 [.ref b] W Q := fl_intro [4] (fl_fold (⟨Nat.le_of_ble_eq_true rfl, ⟨Nat.le_of_ble_eq_true rfl, h⟩⟩))
/-! 53 PlaneDesk$Net.isFull()Z -/
theorem sx_53 {d : Nat} {Q : fl_R} (b : Nat) (W : fl_W) (hb : fl_net b) (h : mi_br ((W b 3) < (Int32.ofInt 3)) (Q (some (.int (Int32.ofInt 0))) W) (mi_br ((W b 4) = (((Int32.ofInt 3) * (W b 3)) - (Int8.ofInt 6).toInt32)) (Q (some (.int (Int32.ofInt 1))) W) (Q (some (.int (Int32.ofInt 0))) W))) : fl_cal (d + 1) 53 [.ref b] W Q := fl_intro [] (fl_fold (⟨nt_I3 hb, ⟨fun q => have h := h.1 q; ⟨Or.inl rfl, h⟩, fun q => have h := h.2 q; ⟨nt_I4 hb, ⟨nt_I3 hb, ⟨fun q => have h := h.1 q; ⟨Or.inr rfl, h⟩, fun q => have h := h.2 q; ⟨Or.inl rfl, h⟩⟩⟩⟩⟩⟩))
/-! 55 PlaneDesk$Rings.has(I)Z -/
theorem sx_55 {d : Nat} {Q : fl_R} (v1 : Int32) (W : fl_W) (h : mi_br (v1 < 0) (Q (some (.int (Int32.ofInt 0))) W) (mi_br (v1 < (W 68 3)) (Q (some (.int (Int32.ofInt 1))) W) (Q (some (.int (Int32.ofInt 0))) W))) : fl_cal (d + 1) 55 [.ref 68, .int v1] W Q := fl_intro [] (fl_fold (⟨fun q => have h := h.1 q; ⟨Or.inl rfl, h⟩, fun q => have h := h.2 q; ⟨rfl, ⟨fun q => have h := h.1 q; ⟨Or.inr rfl, h⟩, fun q => have h := h.2 q; ⟨Or.inl rfl, h⟩⟩⟩⟩))
/-! 56 PlaneDesk$Rings.size(I)I -/
theorem sx_56 {d : Nat} {Q : fl_R} (v1 : Int32) (W : fl_W) (h : fl_cal d 55 [.ref 68, .int v1] W (fl_q1 fun x1 W1 => mi_br (x1 = 0) (Q (some (.int (Int32.ofInt 0))) W1) (vp_in v1 40 ∧ (fl_cal d 63 [.ref (73 + 2 * v1.toNatClampNeg)] W1 (fl_q1 fun x2 W2 => Q (some (.int x2)) W2))))) : fl_cal (d + 1) 56 [.ref 68, .int v1] W Q := fl_intro [] (fl_fold (⟨Nat.le_of_ble_eq_true rfl, rfl, rfl, rfl, fl_c1 h (fun x1 W1 h => ⟨fun q => have h := h.1 q; ⟨trivial, h⟩, fun q => have h := h.2 q; ⟨rfl, have j1 := h.1; ⟨j1, have h := h.2; ⟨Nat.le_of_ble_eq_true rfl, rfl, rfl, rw_is (rg_row j1), fl_c1 h (fun x2 W2 h => ⟨trivial, h⟩)⟩⟩⟩⟩)⟩))
/-! 57 PlaneDesk$Rings.get(II)I -/
theorem sx_57 {d : Nat} {Q : fl_R} (v1 v2 : Int32) (W : fl_W) (h : fl_cal d 55 [.ref 68, .int v1] W (fl_q1 fun x1 W1 => mi_br (x1 = 0) (Q (some (.int (Int32.ofInt (-1)))) W1) (vp_in v1 40 ∧ (fl_cal d 66 [.ref (73 + 2 * v1.toNatClampNeg), .int v2] W1 (fl_q1 fun x2 W2 => Q (some (.int x2)) W2))))) : fl_cal (d + 1) 57 [.ref 68, .int v1, .int v2] W Q := fl_intro [] (fl_fold (⟨Nat.le_of_ble_eq_true rfl, rfl, rfl, rfl, fl_c1 h (fun x1 W1 h => ⟨fun q => have h := h.1 q; ⟨trivial, h⟩, fun q => have h := h.2 q; ⟨rfl, have j1 := h.1; ⟨j1, have h := h.2; ⟨Nat.le_of_ble_eq_true rfl, rfl, rfl, rw_is (rg_row j1), fl_c1 h (fun x2 W2 h => ⟨trivial, h⟩)⟩⟩⟩⟩)⟩))
/-! 58 PlaneDesk$Rings.placeBehind(II)I -/
theorem sx_58 {d : Nat} {Q : fl_R} (v1 v2 : Int32) (W : fl_W) (h : fl_cal d 55 [.ref 68, .int v1] W (fl_q1 fun x1 W1 => mi_br (x1 = 0) (Q (some (.int (Int32.ofInt 0))) W1) (vp_in v1 40 ∧ (fl_cal d 69 [.ref (73 + 2 * v1.toNatClampNeg), .int v2] W1 (fl_q1 fun x2 W2 => Q (some (.int x2)) W2))))) : fl_cal (d + 1) 58 [.ref 68, .int v1, .int v2] W Q := fl_intro [] (fl_fold (⟨Nat.le_of_ble_eq_true rfl, rfl, rfl, rfl, fl_c1 h (fun x1 W1 h => ⟨fun q => have h := h.1 q; ⟨trivial, h⟩, fun q => have h := h.2 q; ⟨rfl, have j1 := h.1; ⟨j1, have h := h.2; ⟨Nat.le_of_ble_eq_true rfl, rfl, rfl, rw_is (rg_row j1), fl_c1 h (fun x2 W2 h => ⟨trivial, h⟩)⟩⟩⟩⟩)⟩))
/-! 59 PlaneDesk$Rings.fitting(II)I -/
def hd_59_6 (d : Nat) (Q : fl_R) (v1 v3 : Int32) (W : fl_W) : Prop := ∀ (o2 : Option Value), fl_WP (fl_cal d) 59 [6] Q 6 [some (.ref 68), some (.int v1), o2, some (.int v3)] [] W
theorem sx_59_6 {d : Nat} {Q : fl_R} (v1 v3 : Int32) (W : fl_W) (h : mi_br (v3 < (W 68 3)) (vp_in v3 40 ∧ (mi_br (((W 70 v3.toNatClampNeg) &&& v1) = v1) (Q (some (.int v3)) W) (hd_59_6 d Q v1 (v3 + Int32.ofInt 1) W))) (Q (some (.int (Int32.ofInt (-1)))) W)) : hd_59_6 d Q v1 v3 W := fun o2 => fl_fold (⟨rfl, ⟨fun q => have h := h.1 q; ⟨rfl, ⟨rfl, ⟨h.1, have h := h.2; ⟨fun q => have h := h.1 q; ⟨trivial, h⟩, fun q => have h := h.2 q; h _⟩⟩⟩⟩, fun q => have h := h.2 q; ⟨trivial, h⟩⟩⟩)
theorem sx_59 {d : Nat} {Q : fl_R} (v1 v2 : Int32) (W : fl_W) (h : hd_59_6 d Q v1 (if v2 < (Int32.ofInt 0) then (Int32.ofInt 0) else v2) W) : fl_cal (d + 1) 59 [.ref 68, .int v1, .int v2] W Q := fl_intro [6] (fl_fold (⟨rfl, ⟨Nat.le_of_ble_eq_true rfl, h _⟩⟩))
/-! 60 PlaneDesk$Rings.begin(IILPlaneDesk$Row;)V -/
theorem sx_60 {d : Nat} {Q : fl_R} (r : Nat) (v1 v2 : Int32) (W : fl_W) (hr : fl_row r) (h : vp_in (Int32.ofInt 0) 40 ∧ (fl_cal d 64 [.ref (73 + 2 * (Int32.ofInt 0).toNatClampNeg)] W (fl_q0 fun W1 => fl_cal d 65 [.ref (73 + 2 * (Int32.ofInt 0).toNatClampNeg), .int v1] W1 (fl_q0 fun W2 => fl_cal d 65 [.ref (73 + 2 * (Int32.ofInt 0).toNatClampNeg), .int v2] W2 (fl_q0 fun W3 => fl_cal d 72 [.ref (73 + 2 * (Int32.ofInt 0).toNatClampNeg), .ref r] W3 (fl_q0 fun W4 => vp_in (Int32.ofInt 1) 40 ∧ (fl_cal d 64 [.ref (73 + 2 * (Int32.ofInt 1).toNatClampNeg)] W4 (fl_q0 fun W5 => fl_cal d 65 [.ref (73 + 2 * (Int32.ofInt 1).toNatClampNeg), .int v1] W5 (fl_q0 fun W6 => fl_cal d 63 [.ref r] W6 (fl_q1 fun x1 W7 => fl_cal d 71 [.ref (73 + 2 * (Int32.ofInt 1).toNatClampNeg), .ref r, .int (Int32.ofInt 0), .int x1] W7 (fl_q0 fun W8 => fl_cal d 65 [.ref (73 + 2 * (Int32.ofInt 1).toNatClampNeg), .int v2] W8 (fl_q0 fun W9 => fl_cal d 74 [.ref (73 + 2 * (Int32.ofInt 0).toNatClampNeg)] W9 (fl_q1 fun x2 W10 => vp_in (Int32.ofInt 0) 40 ∧ (∀ W11 : fl_W, W11 = fl_uw W10 70 (Int32.ofInt 0).toNatClampNeg x2 → vp_in (Int32.ofInt 0) 40 ∧ (vp_in (Int32.ofInt 1) 40 ∧ (∀ W12 : fl_W, W12 = fl_uw W11 70 (Int32.ofInt 1).toNatClampNeg (W11 70 (Int32.ofInt 0).toNatClampNeg) → ∀ W13 : fl_W, W13 = fl_uw W12 68 3 (Int32.ofInt 2) → Q none W13)))))))))))))))) : fl_cal (d + 1) 60 [.ref 68, .int v1, .int v2, .ref r] W Q := fl_intro [] (fl_fold (⟨rfl, have j1 := h.1; ⟨j1, have h := h.2; ⟨Nat.le_of_ble_eq_true rfl, ⟨Nat.le_of_ble_eq_true rfl, rfl, rfl, rw_is (rfl : fl_isb 73 6 = true), fl_c0 h (fun W1 h => ⟨Nat.le_of_ble_eq_true rfl, rfl, rfl, rw_is (rfl : fl_isb 73 6 = true), fl_c0 h (fun W2 h => ⟨Nat.le_of_ble_eq_true rfl, rfl, rfl, rw_is (rfl : fl_isb 73 6 = true), fl_c0 h (fun W3 h => ⟨Nat.le_of_ble_eq_true rfl, rfl, rfl, rw_is (rfl : fl_isb 73 6 = true), fl_c0 h (fun W4 h => ⟨rfl, have j2 := h.1; ⟨j2, have h := h.2; ⟨Nat.le_of_ble_eq_true rfl, ⟨Nat.le_of_ble_eq_true rfl, rfl, rfl, rw_is (rfl : fl_isb 75 6 = true), fl_c0 h (fun W5 h => ⟨Nat.le_of_ble_eq_true rfl, rfl, rfl, rw_is (rfl : fl_isb 75 6 = true), fl_c0 h (fun W6 h => ⟨Nat.le_of_ble_eq_true rfl, rfl, rfl, rw_is hr, fl_c1 h (fun x1 W7 h => ⟨Nat.le_of_ble_eq_true rfl, rfl, rfl, rw_is (rfl : fl_isb 75 6 = true), fl_c0 h (fun W8 h => ⟨Nat.le_of_ble_eq_true rfl, rfl, rfl, rw_is (rfl : fl_isb 75 6 = true), fl_c0 h (fun W9 h => ⟨rfl, ⟨Nat.le_of_ble_eq_true rfl, rfl, rfl, rw_is (rfl : fl_isb 73 6 = true), fl_c1 h (fun x2 W10 h => ⟨rfl, ⟨h.1, have h := h.2; have h := h _ rfl; ⟨rfl, ⟨rfl, ⟨rfl, ⟨h.1, have h := h.2; ⟨rfl, ⟨h.1, have h := h.2; have h := h _ rfl; ⟨rfl, trivial, have h := h _ rfl; ⟨rfl, h⟩⟩⟩⟩⟩⟩⟩⟩⟩⟩)⟩⟩)⟩)⟩)⟩)⟩)⟩⟩⟩⟩)⟩)⟩)⟩)⟩⟩⟩⟩))
/-! 61 PlaneDesk$Rings.part(IIILPlaneDesk$Row;)V -/
theorem sx_61 {d : Nat} {Q : fl_R} (r : Nat) (v1 v2 v3 : Int32) (W : fl_W) (hr : fl_row r) (h : fl_cal d 55 [.ref 68, .int v1] W (fl_q1 fun x1 W1 => mi_br (x1 = 0) (Q none W1) (mi_br ((W1 68 3) < (Int8.ofInt 40).toInt32) (vp_in v1 40 ∧ (fl_cal d 70 [.ref 71, .ref (73 + 2 * v1.toNatClampNeg)] W1 (fl_q0 fun W2 => vp_in v1 40 ∧ (fl_cal d 64 [.ref (73 + 2 * v1.toNatClampNeg)] W2 (fl_q0 fun W3 => vp_in v1 40 ∧ (fl_cal d 73 [.ref (73 + 2 * v1.toNatClampNeg), .ref 71, .int v2, .int v3] W3 (fl_q0 fun W4 => vp_in v1 40 ∧ (fl_cal d 63 [.ref r] W4 (fl_q1 fun x2 W5 => fl_cal d 71 [.ref (73 + 2 * v1.toNatClampNeg), .ref r, .int (Int32.ofInt 0), .int x2] W5 (fl_q0 fun W6 => vp_in v1 40 ∧ (fl_cal d 74 [.ref (73 + 2 * v1.toNatClampNeg)] W6 (fl_q1 fun x3 W7 => vp_in v1 40 ∧ (∀ W8 : fl_W, W8 = fl_uw W7 70 v1.toNatClampNeg x3 → vp_in (W8 68 3) 40 ∧ (fl_cal d 64 [.ref (73 + 2 * (W8 68 3).toNatClampNeg)] W8 (fl_q0 fun W9 => vp_in (W9 68 3) 40 ∧ (fl_cal d 73 [.ref (73 + 2 * (W9 68 3).toNatClampNeg), .ref 71, .int v3, .int v2] W9 (fl_q0 fun W10 => vp_in (W10 68 3) 40 ∧ (fl_cal d 72 [.ref (73 + 2 * (W10 68 3).toNatClampNeg), .ref r] W10 (fl_q0 fun W11 => vp_in (W11 68 3) 40 ∧ (fl_cal d 74 [.ref (73 + 2 * (W11 68 3).toNatClampNeg)] W11 (fl_q1 fun x4 W12 => vp_in (W11 68 3) 40 ∧ (∀ W13 : fl_W, W13 = fl_uw W12 70 (W11 68 3).toNatClampNeg x4 → ∀ W14 : fl_W, W14 = fl_uw W13 68 3 ((W13 68 3) + (Int32.ofInt 1)) → Q none W14)))))))))))))))))))))) (Q none W1)))) : fl_cal (d + 1) 61 [.ref 68, .int v1, .int v2, .int v3, .ref r] W Q := fl_intro [] (fl_fold (⟨Nat.le_of_ble_eq_true rfl, rfl, rfl, rfl, fl_c1 h (fun x1 W1 h => ⟨fun q => have h := h.1 q; ⟨rfl, h⟩, fun q => have h := h.2 q; ⟨rfl, ⟨fun q => have h := h.1 q; ⟨rfl, ⟨rfl, have j1 := h.1; ⟨j1, have h := h.2; ⟨Nat.le_of_ble_eq_true rfl, rfl, rfl, rfl, fl_c0 h (fun W2 h => ⟨rfl, have j2 := h.1; ⟨j2, have h := h.2; ⟨Nat.le_of_ble_eq_true rfl, rfl, rfl, rw_is (rg_row j2), fl_c0 h (fun W3 h => ⟨rfl, have j3 := h.1; ⟨j3, have h := h.2; ⟨rfl, ⟨Nat.le_of_ble_eq_true rfl, rfl, rfl, rw_is (rg_row j3), fl_c0 h (fun W4 h => ⟨rfl, have j4 := h.1; ⟨j4, have h := h.2; ⟨Nat.le_of_ble_eq_true rfl, rfl, rfl, rw_is hr, fl_c1 h (fun x2 W5 h => ⟨Nat.le_of_ble_eq_true rfl, rfl, rfl, rw_is (rg_row j4), fl_c0 h (fun W6 h => ⟨rfl, ⟨rfl, have j5 := h.1; ⟨j5, have h := h.2; ⟨Nat.le_of_ble_eq_true rfl, rfl, rfl, rw_is (rg_row j5), fl_c1 h (fun x3 W7 h => ⟨rfl, ⟨h.1, have h := h.2; have h := h _ rfl; ⟨rfl, ⟨rfl, have j6 := h.1; ⟨j6, have h := h.2; ⟨Nat.le_of_ble_eq_true rfl, rfl, rfl, rw_is (rg_row j6), fl_c0 h (fun W9 h => ⟨rfl, ⟨rfl, have j7 := h.1; ⟨j7, have h := h.2; ⟨rfl, ⟨Nat.le_of_ble_eq_true rfl, rfl, rfl, rw_is (rg_row j7), fl_c0 h (fun W10 h => ⟨rfl, ⟨rfl, have j8 := h.1; ⟨j8, have h := h.2; ⟨Nat.le_of_ble_eq_true rfl, rfl, rfl, rw_is (rg_row j8), fl_c0 h (fun W11 h => ⟨rfl, ⟨rfl, ⟨rfl, ⟨rfl, have j9 := h.1; ⟨j9, have h := h.2; ⟨Nat.le_of_ble_eq_true rfl, rfl, rfl, rw_is (rg_row j9), fl_c1 h (fun x4 W12 h => ⟨rfl, ⟨h.1, have h := h.2; have h := h _ rfl; ⟨rfl, ⟨rfl, ⟨rfl, trivial, have h := h _ rfl; ⟨rfl, h⟩⟩⟩⟩⟩⟩)⟩⟩⟩⟩⟩⟩)⟩⟩⟩⟩)⟩⟩⟩⟩⟩)⟩⟩⟩⟩⟩⟩)⟩⟩⟩⟩)⟩)⟩⟩⟩)⟩⟩⟩⟩)⟩⟩⟩)⟩⟩⟩⟩, fun q => have h := h.2 q; ⟨rfl, h⟩⟩⟩⟩)⟩))
/-! 76 PlaneDesk$Search.seek(LPlaneDesk$Net;III)V -/
def hd_76_26 (d : Nat) (Q : fl_R) (b : Nat) (v2 v4 v5 v6 : Int32) (W : fl_W) : Prop := ∀ (o3 o7 o8 o9 : Option Value), fl_WP (fl_cal d) 76 [26, 101] Q 26 [some (.ref 153), some (.ref b), some (.int v2), o3, some (.int v4), some (.int v5), some (.int v6), o7, o8, o9] [] W
def hd_76_101 (d : Nat) (Q : fl_R) (b : Nat) (v2 v4 v5 v6 v7 v8 v9 : Int32) (W : fl_W) : Prop := ∀ (o3 : Option Value), fl_WP (fl_cal d) 76 [26, 101] Q 101 [some (.ref 153), some (.ref b), some (.int v2), o3, some (.int v4), some (.int v5), some (.int v6), some (.int v7), some (.int v8), some (.int v9)] [] W
theorem sx_76_26 {d : Nat} {Q : fl_R} (b : Nat) (v2 v4 v5 v6 : Int32) (W : fl_W) (hb : fl_net b) (h : mi_br (v6 < (Int8.ofInt 20).toInt32) (fl_cal d 63 [.ref 155] W (fl_q1 fun x1 W5 => mi_br (v6 < x1) (mi_br ((W5 153 3) = (Int32.ofInt (-1))) (fl_cal d 66 [.ref 155, .int v6] W5 (fl_q1 fun x2 W8 => fl_cal d 46 [.ref b, .int x2] W8 (fl_q1 fun x3 W9 => mi_br (x2 = v2) (hd_76_101 d Q b v2 v4 (v5 &&& ((x3 &&& v5) ^^^ (Int32.ofInt (-1)))) v6 x2 (x3 &&& v5) (Int32.ofInt 0) W9) (hd_76_101 d Q b v2 v4 (v5 &&& ((x3 &&& (v5 ||| v4)) ^^^ (Int32.ofInt (-1)))) v6 x2 (x3 &&& (v5 ||| v4)) (Int32.ofInt 0) W9)))) (fl_cal d 78 [.ref 153, .int v2] W5 (fl_q0 fun W7 => Q none W7))) (fl_cal d 78 [.ref 153, .int v2] W5 (fl_q0 fun W6 => Q none W6)))) (fl_cal d 78 [.ref 153, .int v2] W (fl_q0 fun W4 => Q none W4))) : hd_76_26 d Q b v2 v4 v5 v6 W := fun o3 o7 o8 o9 => fl_fold (⟨fun q => have h := h.1 q; ⟨rfl, ⟨Nat.le_of_ble_eq_true rfl, rfl, rfl, rfl, fl_c1 h (fun x1 W5 h => ⟨fun q => have h := h.1 q; ⟨rfl, ⟨fun q => have h := h.1 q; ⟨rfl, ⟨Nat.le_of_ble_eq_true rfl, rfl, rfl, rfl, fl_c1 h (fun x2 W8 h => ⟨Nat.le_of_ble_eq_true rfl, ⟨Nat.le_of_ble_eq_true rfl, rfl, rfl, nt_is hb, fl_c1 h (fun x3 W9 h => ⟨fun q => have h := h.1 q; ⟨Nat.le_of_ble_eq_true rfl, ⟨Nat.le_of_ble_eq_true rfl, ⟨Nat.le_of_ble_eq_true rfl, h _⟩⟩⟩, fun q => have h := h.2 q; ⟨Nat.le_of_ble_eq_true rfl, ⟨Nat.le_of_ble_eq_true rfl, ⟨Nat.le_of_ble_eq_true rfl, h _⟩⟩⟩⟩)⟩⟩)⟩⟩, fun q => have h := h.2 q; ⟨Nat.le_of_ble_eq_true rfl, rfl, rfl, rfl, fl_c0 h (fun W7 h => ⟨rfl, h⟩)⟩⟩⟩, fun q => have h := h.2 q; ⟨Nat.le_of_ble_eq_true rfl, rfl, rfl, rfl, fl_c0 h (fun W6 h => ⟨rfl, h⟩)⟩⟩)⟩⟩, fun q => have h := h.2 q; ⟨Nat.le_of_ble_eq_true rfl, rfl, rfl, rfl, fl_c0 h (fun W4 h => ⟨rfl, h⟩)⟩⟩)
theorem sx_76_101 {d : Nat} {Q : fl_R} (b : Nat) (v2 v4 v5 v6 v7 v8 v9 : Int32) (W : fl_W) (hb : fl_net b) (h : mi_br (v9 < (Int8.ofInt 20).toInt32) (mi_br ((W 153 3) = (Int32.ofInt (-1))) (fl_cal d 121 [.int v8, .int v9] W (fl_q1 fun x4 W10 => mi_br (x4 = 0) (hd_76_101 d Q b v2 v4 v5 v6 v7 v8 (v9 + Int32.ofInt 1) W10) (vp_in v9 20 ∧ (∀ W11 : fl_W, W11 = fl_uw W10 154 v9.toNatClampNeg v7 → fl_cal d 65 [.ref 155, .int v9] W11 (fl_q0 fun W12 => fl_cal d 121 [.int v4, .int v9] W12 (fl_q1 fun x5 W13 => mi_br (x5 = 0) (∀ W14 : fl_W, W14 = fl_uw W13 153 3 (Int32.ofInt (-1)) → hd_76_101 d Q b v2 v4 v5 v6 v7 v8 (v9 + Int32.ofInt 1) W14) (∀ W15 : fl_W, W15 = fl_uw W13 153 3 v9 → hd_76_101 d Q b v2 v4 v5 v6 v7 v8 (v9 + Int32.ofInt 1) W15))))))) (hd_76_26 d Q b v2 v4 v5 (v6 + Int32.ofInt 1) W)) (hd_76_26 d Q b v2 v4 v5 (v6 + Int32.ofInt 1) W)) : hd_76_101 d Q b v2 v4 v5 v6 v7 v8 v9 W := fun o3 => fl_fold (⟨fun q => have h := h.1 q; ⟨rfl, ⟨fun q => have h := h.1 q; ⟨Nat.le_of_ble_eq_true rfl, rfl, rfl, fl_c1 h (fun x4 W10 h => ⟨fun q => have h := h.1 q; h _, fun q => have h := h.2 q; ⟨rfl, ⟨rfl, ⟨h.1, have h := h.2; have h := h _ rfl; ⟨rfl, ⟨Nat.le_of_ble_eq_true rfl, rfl, rfl, rfl, fl_c0 h (fun W12 h => ⟨Nat.le_of_ble_eq_true rfl, rfl, rfl, fl_c1 h (fun x5 W13 h => ⟨fun q => have h := h.1 q; ⟨rfl, trivial, have h := h _ rfl; h _⟩, fun q => have h := h.2 q; ⟨rfl, trivial, have h := h _ rfl; h _⟩⟩)⟩)⟩⟩⟩⟩⟩⟩)⟩, fun q => have h := h.2 q; h _ _ _ _⟩⟩, fun q => have h := h.2 q; h _ _ _ _⟩)
theorem sx_76 {d : Nat} {Q : fl_R} (b : Nat) (v2 v3 v4 : Int32) (W : fl_W) (hb : fl_net b) (h : ∀ W1 : fl_W, W1 = fl_uw W 153 3 (Int32.ofInt (-1)) → fl_cal d 64 [.ref 155] W1 (fl_q0 fun W2 => fl_cal d 65 [.ref 155, .int v2] W2 (fl_q0 fun W3 => hd_76_26 d Q b v2 v4 v3 (Int32.ofInt 0) W3))) : fl_cal (d + 1) 76 [.ref 153, .ref b, .int v2, .int v3, .int v4] W Q := fl_intro [26, 101] (fl_fold (⟨Nat.le_of_ble_eq_true rfl, ⟨rfl, trivial, have h := h _ rfl; ⟨rfl, ⟨Nat.le_of_ble_eq_true rfl, rfl, rfl, rfl, fl_c0 h (fun W2 h => ⟨rfl, ⟨Nat.le_of_ble_eq_true rfl, rfl, rfl, rfl, fl_c0 h (fun W3 h => ⟨Nat.le_of_ble_eq_true rfl, h _ _ _ _⟩)⟩⟩)⟩⟩⟩⟩))
/-! 77 PlaneDesk$Search.goStraight(I)V -/
theorem sx_77 {d : Nat} {Q : fl_R} (v1 : Int32) (W : fl_W) (h : ∀ W1 : fl_W, W1 = fl_uw W 153 3 v1 → fl_cal d 64 [.ref 157] W1 (fl_q0 fun W2 => Q none W2)) : fl_cal (d + 1) 77 [.ref 153, .int v1] W Q := fl_intro [] (fl_fold (⟨rfl, trivial, have h := h _ rfl; ⟨rfl, ⟨Nat.le_of_ble_eq_true rfl, rfl, rfl, rfl, fl_c0 h (fun W2 h => ⟨rfl, h⟩)⟩⟩⟩))
/-! 78 PlaneDesk$Search.traceBack(I)V -/
def hd_78_14 (d : Nat) (Q : fl_R) (v1 v2 v3 : Int32) (W : fl_W) : Prop := fl_WP (fl_cal d) 78 [14] Q 14 [some (.ref 153), some (.int v1), some (.int v2), some (.int v3)] [] W
theorem sx_78_14 {d : Nat} {Q : fl_R} (v1 v2 v3 : Int32) (W : fl_W) (h : mi_br (v3 < (Int8.ofInt 20).toInt32) (fl_cal d 119 [.int v2] W (fl_q1 fun x1 W2 => mi_br (x1 = 0) (Q none W2) (vp_in v2 20 ∧ (mi_br ((W2 154 v2.toNatClampNeg) = v1) (Q none W2) (vp_in v2 20 ∧ (fl_cal d 65 [.ref 157, .int (W2 154 v2.toNatClampNeg)] W2 (fl_q0 fun W3 => hd_78_14 d Q v1 (W2 154 v2.toNatClampNeg) (v3 + Int32.ofInt 1) W3))))))) (Q none W)) : hd_78_14 d Q v1 v2 v3 W := fl_fold (⟨fun q => have h := h.1 q; ⟨Nat.le_of_ble_eq_true rfl, rfl, rfl, fl_c1 h (fun x1 W2 h => ⟨fun q => have h := h.1 q; ⟨rfl, h⟩, fun q => have h := h.2 q; ⟨rfl, ⟨rfl, ⟨h.1, have h := h.2; ⟨fun q => have h := h.1 q; ⟨rfl, h⟩, fun q => have h := h.2 q; ⟨rfl, ⟨rfl, ⟨h.1, have h := h.2; ⟨Nat.le_of_ble_eq_true rfl, ⟨rfl, ⟨Nat.le_of_ble_eq_true rfl, rfl, rfl, rfl, fl_c0 h (fun W3 h => h)⟩⟩⟩⟩⟩⟩⟩⟩⟩⟩⟩)⟩, fun q => have h := h.2 q; ⟨rfl, h⟩⟩)
theorem sx_78 {d : Nat} {Q : fl_R} (v1 : Int32) (W : fl_W) (h : fl_cal d 64 [.ref 157] W (fl_q0 fun W1 => hd_78_14 d Q v1 (W1 153 3) (Int32.ofInt 0) W1)) : fl_cal (d + 1) 78 [.ref 153, .int v1] W Q := fl_intro [14] (fl_fold (⟨rfl, ⟨Nat.le_of_ble_eq_true rfl, rfl, rfl, rfl, fl_c0 h (fun W1 h => ⟨rfl, ⟨Nat.le_of_ble_eq_true rfl, ⟨Nat.le_of_ble_eq_true rfl, h⟩⟩⟩)⟩⟩))
/-! 82 PlaneDesk$Tangle.sort()I -/
theorem sx_82 {d : Nat} {Q : fl_R} (W : fl_W) (h : fl_cal d 63 [.ref 211] W (fl_q1 fun x1 W1 => mi_br (x1 = (Int32.ofInt 5)) (Q (some (.int (Int32.ofInt 5))) W1) (Q (some (.int (Int32.ofInt 3))) W1))) : fl_cal (d + 1) 82 [.ref 208] W Q := fl_intro [] (fl_fold (⟨rfl, ⟨Nat.le_of_ble_eq_true rfl, rfl, rfl, rfl, fl_c1 h (fun x1 W1 h => ⟨fun q => have h := h.1 q; ⟨trivial, h⟩, fun q => have h := h.2 q; ⟨trivial, h⟩⟩)⟩⟩))
/-! 84 PlaneDesk$Turning.clear()V -/
def hd_84_2 (d : Nat) (Q : fl_R) (t : Nat) (v1 : Int32) (W : fl_W) : Prop := fl_WP (fl_cal d) 84 [2] Q 2 [some (.ref t), some (.int v1)] [] W
theorem sx_84_2 {d : Nat} {Q : fl_R} (t : Nat) (v1 : Int32) (W : fl_W) (ht : fl_tur t) (h : mi_br (v1 < (Int8.ofInt 20).toInt32) (vp_in v1 20 ∧ (fl_cal d 64 [.ref (t + 2 + 2 * v1.toNatClampNeg)] W (fl_q0 fun W1 => hd_84_2 d Q t (v1 + Int32.ofInt 1) W1))) (Q none W)) : hd_84_2 d Q t v1 W := fl_fold (⟨fun q => have h := h.1 q; tu_R ht (have j1 := h.1; tu_A ht (⟨j1, have h := h.2; ⟨Nat.le_of_ble_eq_true rfl, rfl, rfl, rw_is (tu_row ht j1), fl_c0 h (fun W1 h => h)⟩⟩)), fun q => have h := h.2 q; ⟨rfl, h⟩⟩)
theorem sx_84 {d : Nat} {Q : fl_R} (t : Nat) (W : fl_W) (ht : fl_tur t) (h : hd_84_2 d Q t (Int32.ofInt 0) W) : fl_cal (d + 1) 84 [.ref t] W Q := fl_intro [2] (fl_fold (⟨Nat.le_of_ble_eq_true rfl, h⟩))
/-! 85 PlaneDesk$Turning.copy(LPlaneDesk$Turning;)V -/
def hd_85_2 (d : Nat) (Q : fl_R) (t : Nat) (t2 : Nat) (v2 : Int32) (W : fl_W) : Prop := fl_WP (fl_cal d) 85 [2] Q 2 [some (.ref t), some (.ref t2), some (.int v2)] [] W
theorem sx_85_2 {d : Nat} {Q : fl_R} (t : Nat) (t2 : Nat) (v2 : Int32) (W : fl_W) (ht : fl_tur t) (ht2 : fl_tur t2) (h : mi_br (v2 < (Int8.ofInt 20).toInt32) (vp_in v2 20 ∧ (vp_in v2 20 ∧ (fl_cal d 70 [.ref (t + 2 + 2 * v2.toNatClampNeg), .ref (t2 + 2 + 2 * v2.toNatClampNeg)] W (fl_q0 fun W1 => hd_85_2 d Q t t2 (v2 + Int32.ofInt 1) W1)))) (Q none W)) : hd_85_2 d Q t t2 v2 W := fl_fold (⟨fun q => have h := h.1 q; tu_R ht (have j1 := h.1; tu_A ht (⟨j1, have h := h.2; tu_R ht2 (have j2 := h.1; tu_A ht2 (⟨j2, have h := h.2; ⟨Nat.le_of_ble_eq_true rfl, rfl, rfl, rw_is (tu_row ht j1), fl_c0 h (fun W1 h => h)⟩⟩))⟩)), fun q => have h := h.2 q; ⟨rfl, h⟩⟩)
theorem sx_85 {d : Nat} {Q : fl_R} (t : Nat) (t2 : Nat) (W : fl_W) (ht : fl_tur t) (ht2 : fl_tur t2) (h : hd_85_2 d Q t t2 (Int32.ofInt 0) W) : fl_cal (d + 1) 85 [.ref t, .ref t2] W Q := fl_intro [2] (fl_fold (⟨Nat.le_of_ble_eq_true rfl, h⟩))
/-! 86 PlaneDesk$Turning.add(II)V -/
theorem sx_86 {d : Nat} {Q : fl_R} (t : Nat) (v1 v2 : Int32) (W : fl_W) (ht : fl_tur t) (h : fl_cal d 119 [.int v1] W (fl_q1 fun x1 W1 => mi_br (x1 = 0) (Q none W1) (vp_in v1 20 ∧ (fl_cal d 65 [.ref (t + 2 + 2 * v1.toNatClampNeg), .int v2] W1 (fl_q0 fun W2 => Q none W2))))) : fl_cal (d + 1) 86 [.ref t, .int v1, .int v2] W Q := fl_intro [] (fl_fold (⟨Nat.le_of_ble_eq_true rfl, rfl, rfl, fl_c1 h (fun x1 W1 h => ⟨fun q => have h := h.1 q; ⟨rfl, h⟩, fun q => have h := h.2 q; tu_R ht (have j1 := h.1; tu_A ht (⟨j1, have h := h.2; ⟨Nat.le_of_ble_eq_true rfl, rfl, rfl, rw_is (tu_row ht j1), fl_c0 h (fun W2 h => ⟨rfl, h⟩)⟩⟩))⟩)⟩))
/-! 87 PlaneDesk$Turning.neighbour(II)I -/
theorem sx_87 {d : Nat} {Q : fl_R} (t : Nat) (v1 v2 : Int32) (W : fl_W) (ht : fl_tur t) (h : fl_cal d 119 [.int v1] W (fl_q1 fun x1 W1 => mi_br (x1 = 0) (Q (some (.int (Int32.ofInt (-1)))) W1) (vp_in v1 20 ∧ (fl_cal d 66 [.ref (t + 2 + 2 * v1.toNatClampNeg), .int v2] W1 (fl_q1 fun x2 W2 => Q (some (.int x2)) W2))))) : fl_cal (d + 1) 87 [.ref t, .int v1, .int v2] W Q := fl_intro [] (fl_fold (⟨Nat.le_of_ble_eq_true rfl, rfl, rfl, fl_c1 h (fun x1 W1 h => ⟨fun q => have h := h.1 q; ⟨trivial, h⟩, fun q => have h := h.2 q; tu_R ht (have j1 := h.1; tu_A ht (⟨j1, have h := h.2; ⟨Nat.le_of_ble_eq_true rfl, rfl, rfl, rw_is (tu_row ht j1), fl_c1 h (fun x2 W2 h => ⟨trivial, h⟩)⟩⟩))⟩)⟩))
/-! 88 PlaneDesk$Turning.exchange(III)Z -/
theorem sx_88 {d : Nat} {Q : fl_R} (t : Nat) (v1 v2 v3 : Int32) (W : fl_W) (ht : fl_tur t) (h : fl_cal d 119 [.int v1] W (fl_q1 fun x1 W1 => mi_br (x1 = 0) (Q (some (.int (Int32.ofInt 0))) W1) (vp_in v1 20 ∧ (fl_cal d 68 [.ref (t + 2 + 2 * v1.toNatClampNeg), .int v2, .int v3] W1 (fl_q1 fun x2 W2 => mi_br (x2 = 0) (Q (some (.int (Int32.ofInt 0))) W2) (Q (some (.int (Int32.ofInt 1))) W2)))))) : fl_cal (d + 1) 88 [.ref t, .int v1, .int v2, .int v3] W Q := fl_intro [] (fl_fold (⟨Nat.le_of_ble_eq_true rfl, rfl, rfl, fl_c1 h (fun x1 W1 h => ⟨fun q => have h := h.1 q; ⟨Or.inl rfl, h⟩, fun q => have h := h.2 q; tu_R ht (have j1 := h.1; tu_A ht (⟨j1, have h := h.2; ⟨Nat.le_of_ble_eq_true rfl, rfl, rfl, rw_is (tu_row ht j1), fl_c1 h (fun x2 W2 h => ⟨fun q => have h := h.1 q; ⟨Or.inl rfl, h⟩, fun q => have h := h.2 q; ⟨Or.inr rfl, h⟩⟩)⟩⟩))⟩)⟩))
/-! 89 PlaneDesk$Turning.behind(II)I -/
theorem sx_89 {d : Nat} {Q : fl_R} (t : Nat) (v1 v2 : Int32) (W : fl_W) (ht : fl_tur t) (h : fl_cal d 119 [.int v1] W (fl_q1 fun x1 W1 => mi_br (x1 = 0) (Q (some (.int (Int32.ofInt (-1)))) W1) (vp_in v1 20 ∧ (fl_cal d 67 [.ref (t + 2 + 2 * v1.toNatClampNeg), .int v2] W1 (fl_q1 fun x2 W2 => mi_br (x2 = (Int32.ofInt (-1))) (Q (some (.int (Int32.ofInt (-1)))) W2) (vp_in v1 20 ∧ (vp_in v1 20 ∧ (fl_cal d 69 [.ref (t + 2 + 2 * v1.toNatClampNeg), .int x2] W2 (fl_q1 fun x3 W3 => fl_cal d 66 [.ref (t + 2 + 2 * v1.toNatClampNeg), .int x3] W3 (fl_q1 fun x4 W4 => Q (some (.int x4)) W4)))))))))) : fl_cal (d + 1) 89 [.ref t, .int v1, .int v2] W Q := fl_intro [] (fl_fold (⟨Nat.le_of_ble_eq_true rfl, rfl, rfl, fl_c1 h (fun x1 W1 h => ⟨fun q => have h := h.1 q; ⟨trivial, h⟩, fun q => have h := h.2 q; tu_R ht (have j1 := h.1; tu_A ht (⟨j1, have h := h.2; ⟨Nat.le_of_ble_eq_true rfl, rfl, rfl, rw_is (tu_row ht j1), fl_c1 h (fun x2 W2 h => ⟨Nat.le_of_ble_eq_true rfl, ⟨fun q => have h := h.1 q; ⟨trivial, h⟩, fun q => have h := h.2 q; tu_R ht (have j2 := h.1; tu_A ht (⟨j2, have h := h.2; tu_R ht (have j3 := h.1; tu_A ht (⟨j3, have h := h.2; ⟨Nat.le_of_ble_eq_true rfl, rfl, rfl, rw_is (tu_row ht j3), fl_c1 h (fun x3 W3 h => ⟨Nat.le_of_ble_eq_true rfl, rfl, rfl, rw_is (tu_row ht j2), fl_c1 h (fun x4 W4 h => ⟨trivial, h⟩)⟩)⟩⟩))⟩))⟩⟩)⟩⟩))⟩)⟩))
end
section
/-! 1 PlaneDesk$Blocks.of(I)I -/
theorem sx_1 {d : Nat} {Q : fl_R} (v1 : Int32) (W : fl_W) (h : mi_br (v1 < 0) (Q (some (.int (Int32.ofInt (-1)))) W) (mi_br (v1 < (Int8.ofInt 60).toInt32) (vp_in v1 60 ∧ (Q (some (.int (W 15 v1.toNatClampNeg))) W)) (Q (some (.int (Int32.ofInt (-1)))) W))) : fl_cal (d + 1) 1 [.ref 10, .int v1] W Q := fl_intro [] (fl_fold (⟨fun q => have h := h.1 q; ⟨trivial, h⟩, fun q => have h := h.2 q; ⟨fun q => have h := h.1 q; ⟨rfl, ⟨rfl, ⟨h.1, have h := h.2; ⟨trivial, h⟩⟩⟩⟩, fun q => have h := h.2 q; ⟨trivial, h⟩⟩⟩))
/-! 2 PlaneDesk$Blocks.find(LPlaneDesk$Net;)V -/
def hd_2_12 (d : Nat) (Q : fl_R) (b : Nat) (v2 : Int32) (W : fl_W) : Prop := fl_WP (fl_cal d) 2 [12, 55] Q 12 [some (.ref 10), some (.ref b), some (.int v2)] [] W
def hd_2_55 (d : Nat) (Q : fl_R) (b : Nat) (v2 : Int32) (W : fl_W) : Prop := fl_WP (fl_cal d) 2 [12, 55] Q 55 [some (.ref 10), some (.ref b), some (.int v2)] [] W
theorem sx_2_12 {d : Nat} {Q : fl_R} (b : Nat) (v2 : Int32) (W : fl_W) (hb : fl_net b) (h : mi_br (v2 < (W b 3)) (fl_cal d 121 [.int (W 10 6), .int v2] W (fl_q1 fun x1 W3 => mi_br (x1 = 0) (∀ W4 : fl_W, W4 = fl_uw W3 10 7 ((W3 10 7) + (Int32.ofInt 1)) → fl_cal d 3 [.ref 10, .ref b, .int v2] W4 (fl_q0 fun W5 => hd_2_12 d Q b (v2 + Int32.ofInt 1) W5)) (hd_2_12 d Q b (v2 + Int32.ofInt 1) W3))) (hd_2_55 d Q b (Int32.ofInt 0) W)) : hd_2_12 d Q b v2 W := fl_fold (⟨nt_I3 hb, ⟨fun q => have h := h.1 q; ⟨rfl, ⟨Nat.le_of_ble_eq_true rfl, rfl, rfl, fl_c1 h (fun x1 W3 h => ⟨fun q => have h := h.1 q; ⟨rfl, ⟨rfl, ⟨rfl, trivial, have h := h _ rfl; ⟨Nat.le_of_ble_eq_true rfl, rfl, rfl, rfl, fl_c0 h (fun W5 h => h)⟩⟩⟩⟩, fun q => have h := h.2 q; h⟩)⟩⟩, fun q => have h := h.2 q; ⟨Nat.le_of_ble_eq_true rfl, h⟩⟩⟩)
theorem sx_2_55 {d : Nat} {Q : fl_R} (b : Nat) (v2 : Int32) (W : fl_W) (hb : fl_net b) (h : mi_br (v2 < (W b 4)) (fl_cal d 44 [.ref b, .int v2] W (fl_q1 fun x2 W7 => fl_cal d 45 [.ref b, .int v2] W7 (fl_q1 fun x3 W8 => fl_cal d 6 [.ref 10, .int x2, .int x3] W8 (fl_q0 fun W9 => hd_2_55 d Q b (v2 + Int32.ofInt 1) W9)))) (fl_cal d 9 [.ref 10, .ref b] W (fl_q0 fun W6 => Q none W6))) : hd_2_55 d Q b v2 W := fl_fold (⟨nt_I4 hb, ⟨fun q => have h := h.1 q; ⟨Nat.le_of_ble_eq_true rfl, rfl, rfl, nt_is hb, fl_c1 h (fun x2 W7 h => ⟨Nat.le_of_ble_eq_true rfl, rfl, rfl, nt_is hb, fl_c1 h (fun x3 W8 h => ⟨Nat.le_of_ble_eq_true rfl, rfl, rfl, rfl, fl_c0 h (fun W9 h => h)⟩)⟩)⟩, fun q => have h := h.2 q; ⟨Nat.le_of_ble_eq_true rfl, rfl, rfl, rfl, fl_c0 h (fun W6 h => ⟨rfl, h⟩)⟩⟩⟩)
theorem sx_2 {d : Nat} {Q : fl_R} (b : Nat) (W : fl_W) (hb : fl_net b) (h : ∀ W1 : fl_W, W1 = fl_uw W 10 6 (Int32.ofInt 0) → ∀ W2 : fl_W, W2 = fl_uw W1 10 7 (Int32.ofInt 0) → hd_2_12 d Q b (Int32.ofInt 0) W2) : fl_cal (d + 1) 2 [.ref 10, .ref b] W Q := fl_intro [12, 55] (fl_fold (⟨rfl, trivial, have h := h _ rfl; ⟨rfl, trivial, have h := h _ rfl; ⟨Nat.le_of_ble_eq_true rfl, h⟩⟩⟩))
/-! 3 PlaneDesk$Blocks.growTree(LPlaneDesk$Net;I)V -/
def hd_3_16 (d : Nat) (Q : fl_R) (b : Nat) (v3 : Int32) (W : fl_W) : Prop := ∀ (o2 o4 o5 o6 o7 : Option Value), fl_WP (fl_cal d) 3 [16, 84] Q 16 [some (.ref 10), some (.ref b), o2, some (.int v3), o4, o5, o6, o7] [] W
def hd_3_84 (d : Nat) (Q : fl_R) (b : Nat) (v3 v4 v5 v6 v7 : Int32) (W : fl_W) : Prop := ∀ (o2 : Option Value), fl_WP (fl_cal d) 3 [16, 84] Q 84 [some (.ref 10), some (.ref b), o2, some (.int v3), some (.int v4), some (.int v5), some (.int v6), some (.int v7)] [] W
theorem sx_3_16 {d : Nat} {Q : fl_R} (b : Nat) (v3 : Int32) (W : fl_W) (hb : fl_net b) (h : mi_br (v3 < (Int8.ofInt 20).toInt32) (fl_cal d 63 [.ref 16] W (fl_q1 fun x1 W3 => mi_br (v3 < x1) (fl_cal d 66 [.ref 16, .int v3] W3 (fl_q1 fun x2 W4 => fl_cal d 46 [.ref b, .int x2] W4 (fl_q1 fun x3 W5 => fl_cal d 119 [.int x2] W5 (fl_q1 fun x4 W6 => mi_br (x4 = 0) (hd_3_84 d Q b v3 x2 (x3 &&& ((W5 10 6) ^^^ (Int32.ofInt (-1)))) (Int32.ofInt 0) (Int32.ofInt 0) W6) (vp_in x2 20 ∧ (hd_3_84 d Q b v3 x2 (x3 &&& ((W5 10 6) ^^^ (Int32.ofInt (-1)))) ((W6 12 x2.toNatClampNeg) + (Int32.ofInt 1)) (Int32.ofInt 0) W6)))))) (Q none W3))) (Q none W)) : hd_3_16 d Q b v3 W := fun o2 o4 o5 o6 o7 => fl_fold (⟨fun q => have h := h.1 q; ⟨rfl, ⟨Nat.le_of_ble_eq_true rfl, rfl, rfl, rfl, fl_c1 h (fun x1 W3 h => ⟨fun q => have h := h.1 q; ⟨rfl, ⟨Nat.le_of_ble_eq_true rfl, rfl, rfl, rfl, fl_c1 h (fun x2 W4 h => ⟨Nat.le_of_ble_eq_true rfl, ⟨Nat.le_of_ble_eq_true rfl, rfl, rfl, nt_is hb, fl_c1 h (fun x3 W5 h => ⟨rfl, ⟨Nat.le_of_ble_eq_true rfl, ⟨Nat.le_of_ble_eq_true rfl, rfl, rfl, fl_c1 h (fun x4 W6 h => ⟨fun q => have h := h.1 q; ⟨Nat.le_of_ble_eq_true rfl, ⟨Nat.le_of_ble_eq_true rfl, h _⟩⟩, fun q => have h := h.2 q; ⟨rfl, ⟨rfl, ⟨h.1, have h := h.2; ⟨Nat.le_of_ble_eq_true rfl, ⟨Nat.le_of_ble_eq_true rfl, h _⟩⟩⟩⟩⟩⟩)⟩⟩⟩)⟩⟩)⟩⟩, fun q => have h := h.2 q; ⟨rfl, h⟩⟩)⟩⟩, fun q => have h := h.2 q; ⟨rfl, h⟩⟩)
theorem sx_3_84 {d : Nat} {Q : fl_R} (b : Nat) (v3 v4 v5 v6 v7 : Int32) (W : fl_W) (hb : fl_net b) (h : mi_br (v7 < (W b 3)) (mi_br (v5 = 0) (hd_3_16 d Q b (v3 + Int32.ofInt 1) W) (fl_cal d 121 [.int v5, .int v7] W (fl_q1 fun x5 W7 => mi_br (x5 = 0) (hd_3_84 d Q b v3 v4 v5 v6 (v7 + Int32.ofInt 1) W7) (fl_cal d 4 [.ref 10, .int v7, .int v4, .int v6] W7 (fl_q0 fun W8 => hd_3_84 d Q b v3 v4 v5 v6 (v7 + Int32.ofInt 1) W8))))) (hd_3_16 d Q b (v3 + Int32.ofInt 1) W)) : hd_3_84 d Q b v3 v4 v5 v6 v7 W := fun o2 => fl_fold (⟨nt_I3 hb, ⟨fun q => have h := h.1 q; ⟨fun q => have h := h.1 q; h _ _ _ _ _, fun q => have h := h.2 q; ⟨Nat.le_of_ble_eq_true rfl, rfl, rfl, fl_c1 h (fun x5 W7 h => ⟨fun q => have h := h.1 q; h _, fun q => have h := h.2 q; ⟨Nat.le_of_ble_eq_true rfl, rfl, rfl, rfl, fl_c0 h (fun W8 h => h _)⟩⟩)⟩⟩, fun q => have h := h.2 q; h _ _ _ _ _⟩⟩)
theorem sx_3 {d : Nat} {Q : fl_R} (b : Nat) (v2 : Int32) (W : fl_W) (hb : fl_net b) (h : fl_cal d 64 [.ref 16] W (fl_q0 fun W1 => fl_cal d 4 [.ref 10, .int v2, .int (Int32.ofInt (-1)), .int (Int32.ofInt 0)] W1 (fl_q0 fun W2 => hd_3_16 d Q b (Int32.ofInt 0) W2))) : fl_cal (d + 1) 3 [.ref 10, .ref b, .int v2] W Q := fl_intro [16, 84] (fl_fold (⟨rfl, ⟨Nat.le_of_ble_eq_true rfl, rfl, rfl, rfl, fl_c0 h (fun W1 h => ⟨Nat.le_of_ble_eq_true rfl, rfl, rfl, rfl, fl_c0 h (fun W2 h => ⟨Nat.le_of_ble_eq_true rfl, h _ _ _ _ _⟩)⟩)⟩⟩))
/-! 4 PlaneDesk$Blocks.reach(III)V -/
theorem sx_4 {d : Nat} {Q : fl_R} (v1 v2 v3 : Int32) (W : fl_W) (h : fl_cal d 119 [.int v1] W (fl_q1 fun x1 W1 => mi_br (x1 = 0) (Q none W1) (fl_cal d 120 [.int v1] W1 (fl_q1 fun x2 W2 => ∀ W3 : fl_W, W3 = fl_uw W2 10 6 ((W1 10 6) ||| x2) → vp_in v1 20 ∧ (∀ W4 : fl_W, W4 = fl_uw W3 11 v1.toNatClampNeg v2 → vp_in v1 20 ∧ (∀ W5 : fl_W, W5 = fl_uw W4 12 v1.toNatClampNeg v3 → vp_in v1 20 ∧ (∀ W6 : fl_W, W6 = fl_uw W5 13 v1.toNatClampNeg v1 → vp_in v1 20 ∧ (∀ W7 : fl_W, W7 = fl_uw W6 14 v1.toNatClampNeg (Int32.ofInt (-1)) → fl_cal d 65 [.ref 16, .int v1] W7 (fl_q0 fun W8 => Q none W8))))))))) : fl_cal (d + 1) 4 [.ref 10, .int v1, .int v2, .int v3] W Q := fl_intro [] (fl_fold (⟨Nat.le_of_ble_eq_true rfl, rfl, rfl, fl_c1 h (fun x1 W1 h => ⟨fun q => have h := h.1 q; ⟨rfl, h⟩, fun q => have h := h.2 q; ⟨rfl, ⟨rfl, ⟨Nat.le_of_ble_eq_true rfl, rfl, rfl, fl_c1 h (fun x2 W2 h => ⟨rfl, trivial, have h := h _ rfl; ⟨rfl, ⟨rfl, ⟨h.1, have h := h.2; have h := h _ rfl; ⟨rfl, ⟨rfl, ⟨h.1, have h := h.2; have h := h _ rfl; ⟨rfl, ⟨rfl, ⟨h.1, have h := h.2; have h := h _ rfl; ⟨rfl, ⟨rfl, ⟨h.1, have h := h.2; have h := h _ rfl; ⟨rfl, ⟨Nat.le_of_ble_eq_true rfl, rfl, rfl, rfl, fl_c0 h (fun W8 h => ⟨rfl, h⟩)⟩⟩⟩⟩⟩⟩⟩⟩⟩⟩⟩⟩⟩⟩⟩)⟩⟩⟩⟩)⟩))
/-! 5 PlaneDesk$Blocks.deeper(II)I -/
theorem sx_5 {d : Nat} {Q : fl_R} (v1 v2 : Int32) (W : fl_W) (h : fl_cal d 119 [.int v1] W (fl_q1 fun x1 W1 => mi_br (x1 = 0) (Q (some (.int (Int32.ofInt (-1)))) W1) (fl_cal d 119 [.int v2] W1 (fl_q1 fun x2 W2 => mi_br (x2 = 0) (Q (some (.int (Int32.ofInt (-1)))) W2) (vp_in v1 20 ∧ (vp_in v2 20 ∧ (mi_br ((W2 12 v1.toNatClampNeg) ≤ (W2 12 v2.toNatClampNeg)) (Q (some (.int v2)) W2) (Q (some (.int v1)) W2)))))))) : fl_cal (d + 1) 5 [.ref 10, .int v1, .int v2] W Q := fl_intro [] (fl_fold (⟨Nat.le_of_ble_eq_true rfl, rfl, rfl, fl_c1 h (fun x1 W1 h => ⟨fun q => have h := h.1 q; ⟨trivial, h⟩, fun q => have h := h.2 q; ⟨Nat.le_of_ble_eq_true rfl, rfl, rfl, fl_c1 h (fun x2 W2 h => ⟨fun q => have h := h.1 q; ⟨trivial, h⟩, fun q => have h := h.2 q; ⟨rfl, ⟨rfl, ⟨h.1, have h := h.2; ⟨rfl, ⟨rfl, ⟨h.1, have h := h.2; ⟨fun q => have h := h.1 q; ⟨trivial, h⟩, fun q => have h := h.2 q; ⟨trivial, h⟩⟩⟩⟩⟩⟩⟩⟩⟩)⟩⟩)⟩))
/-! 6 PlaneDesk$Blocks.closeRing(II)V -/
def hd_6_17 (d : Nat) (Q : fl_R) (v3 v4 v5 v6 : Int32) (W : fl_W) : Prop := ∀ (o1 o2 o7 : Option Value), fl_WP (fl_cal d) 6 [17] Q 17 [some (.ref 10), o1, o2, some (.int v3), some (.int v4), some (.int v5), some (.int v6), o7] [] W
theorem sx_6_17 {d : Nat} {Q : fl_R} (v3 v4 v5 v6 : Int32) (W : fl_W) (h : mi_br (v6 < (Int8.ofInt 40).toInt32) (mi_br (v3 = v4) (Q none W) (fl_cal d 5 [.ref 10, .int v3, .int v4] W (fl_q1 fun x2 W2 => fl_cal d 119 [.int x2] W2 (fl_q1 fun x3 W3 => mi_br (x3 = 0) (Q none W3) (fl_cal d 7 [.ref 10, .int v5, .int x2] W3 (fl_q0 fun W4 => mi_br (x2 = v3) (vp_in v3 20 ∧ (hd_6_17 d Q (W4 11 v3.toNatClampNeg) v4 v5 (v6 + Int32.ofInt 1) W4)) (vp_in v4 20 ∧ (hd_6_17 d Q v3 (W4 11 v4.toNatClampNeg) v5 (v6 + Int32.ofInt 1) W4)))))))) (Q none W)) : hd_6_17 d Q v3 v4 v5 v6 W := fun o1 o2 o7 => fl_fold (⟨fun q => have h := h.1 q; ⟨fun q => have h := h.1 q; ⟨rfl, h⟩, fun q => have h := h.2 q; ⟨Nat.le_of_ble_eq_true rfl, rfl, rfl, rfl, fl_c1 h (fun x2 W2 h => ⟨Nat.le_of_ble_eq_true rfl, ⟨Nat.le_of_ble_eq_true rfl, rfl, rfl, fl_c1 h (fun x3 W3 h => ⟨fun q => have h := h.1 q; ⟨rfl, h⟩, fun q => have h := h.2 q; ⟨Nat.le_of_ble_eq_true rfl, rfl, rfl, rfl, fl_c0 h (fun W4 h => ⟨fun q => have h := h.1 q; ⟨rfl, ⟨rfl, ⟨h.1, have h := h.2; ⟨Nat.le_of_ble_eq_true rfl, h _ _ _⟩⟩⟩⟩, fun q => have h := h.2 q; ⟨rfl, ⟨rfl, ⟨h.1, have h := h.2; ⟨Nat.le_of_ble_eq_true rfl, h _ _ _⟩⟩⟩⟩⟩)⟩⟩)⟩⟩)⟩⟩, fun q => have h := h.2 q; ⟨rfl, h⟩⟩)
theorem sx_6 {d : Nat} {Q : fl_R} (v1 v2 : Int32) (W : fl_W) (h : fl_cal d 5 [.ref 10, .int v1, .int v2] W (fl_q1 fun x1 W1 => hd_6_17 d Q v1 v2 x1 (Int32.ofInt 0) W1)) : fl_cal (d + 1) 6 [.ref 10, .int v1, .int v2] W Q := fl_intro [17] (fl_fold (⟨Nat.le_of_ble_eq_true rfl, ⟨Nat.le_of_ble_eq_true rfl, ⟨Nat.le_of_ble_eq_true rfl, rfl, rfl, rfl, fl_c1 h (fun x1 W1 h => ⟨Nat.le_of_ble_eq_true rfl, ⟨Nat.le_of_ble_eq_true rfl, h _ _ _⟩⟩)⟩⟩⟩))
/-! 7 PlaneDesk$Blocks.merge(II)V -/
theorem sx_7 {d : Nat} {Q : fl_R} (v1 v2 : Int32) (W : fl_W) (h : fl_cal d 8 [.ref 10, .int v1] W (fl_q1 fun x1 W1 => fl_cal d 8 [.ref 10, .int v2] W1 (fl_q1 fun x2 W2 => fl_cal d 119 [.int x1] W2 (fl_q1 fun x3 W3 => mi_br (x3 = 0) (Q none W3) (fl_cal d 119 [.int x2] W3 (fl_q1 fun x4 W4 => mi_br (x4 = 0) (Q none W4) (vp_in x1 20 ∧ (∀ W5 : fl_W, W5 = fl_uw W4 13 x1.toNatClampNeg x2 → Q none W5)))))))) : fl_cal (d + 1) 7 [.ref 10, .int v1, .int v2] W Q := fl_intro [] (fl_fold (⟨Nat.le_of_ble_eq_true rfl, rfl, rfl, rfl, fl_c1 h (fun x1 W1 h => ⟨Nat.le_of_ble_eq_true rfl, ⟨Nat.le_of_ble_eq_true rfl, rfl, rfl, rfl, fl_c1 h (fun x2 W2 h => ⟨Nat.le_of_ble_eq_true rfl, ⟨Nat.le_of_ble_eq_true rfl, rfl, rfl, fl_c1 h (fun x3 W3 h => ⟨fun q => have h := h.1 q; ⟨rfl, h⟩, fun q => have h := h.2 q; ⟨Nat.le_of_ble_eq_true rfl, rfl, rfl, fl_c1 h (fun x4 W4 h => ⟨fun q => have h := h.1 q; ⟨rfl, h⟩, fun q => have h := h.2 q; ⟨rfl, ⟨rfl, ⟨h.1, have h := h.2; have h := h _ rfl; ⟨rfl, h⟩⟩⟩⟩⟩)⟩⟩)⟩⟩)⟩⟩)⟩))
/-! 8 PlaneDesk$Blocks.standingFor(I)I -/
def hd_8_4 (d : Nat) (Q : fl_R) (v2 v3 : Int32) (W : fl_W) : Prop := ∀ (o1 : Option Value), fl_WP (fl_cal d) 8 [4] Q 4 [some (.ref 10), o1, some (.int v2), some (.int v3)] [] W
theorem sx_8_4 {d : Nat} {Q : fl_R} (v2 v3 : Int32) (W : fl_W) (h : mi_br (v3 < (Int8.ofInt 20).toInt32) (mi_br (v2 < 0) (Q (some (.int (Int32.ofInt (-1)))) W) (mi_br (v2 < (Int8.ofInt 20).toInt32) (vp_in v2 20 ∧ (mi_br ((W 13 v2.toNatClampNeg) = v2) (Q (some (.int v2)) W) (vp_in v2 20 ∧ (hd_8_4 d Q (W 13 v2.toNatClampNeg) (v3 + Int32.ofInt 1) W)))) (Q (some (.int (Int32.ofInt (-1)))) W))) (Q (some (.int (Int32.ofInt (-1)))) W)) : hd_8_4 d Q v2 v3 W := fun o1 => fl_fold (⟨fun q => have h := h.1 q; ⟨fun q => have h := h.1 q; ⟨trivial, h⟩, fun q => have h := h.2 q; ⟨fun q => have h := h.1 q; ⟨rfl, ⟨rfl, ⟨h.1, have h := h.2; ⟨fun q => have h := h.1 q; ⟨trivial, h⟩, fun q => have h := h.2 q; ⟨rfl, ⟨rfl, ⟨h.1, have h := h.2; ⟨Nat.le_of_ble_eq_true rfl, h _⟩⟩⟩⟩⟩⟩⟩⟩, fun q => have h := h.2 q; ⟨trivial, h⟩⟩⟩, fun q => have h := h.2 q; ⟨trivial, h⟩⟩)
theorem sx_8 {d : Nat} {Q : fl_R} (v1 : Int32) (W : fl_W) (h : hd_8_4 d Q v1 (Int32.ofInt 0) W) : fl_cal (d + 1) 8 [.ref 10, .int v1] W Q := fl_intro [4] (fl_fold (⟨Nat.le_of_ble_eq_true rfl, ⟨Nat.le_of_ble_eq_true rfl, h _⟩⟩))
/-! 9 PlaneDesk$Blocks.giveNumbers(LPlaneDesk$Net;)V -/
def hd_9_7 (d : Nat) (Q : fl_R) (b : Nat) (v2 : Int32) (W : fl_W) : Prop := ∀ (o3 : Option Value), fl_WP (fl_cal d) 9 [7] Q 7 [some (.ref 10), some (.ref b), some (.int v2), o3] [] W
theorem sx_9_7 {d : Nat} {Q : fl_R} (b : Nat) (v2 : Int32) (W : fl_W) (hb : fl_net b) (h : mi_br (v2 < (W b 4)) (fl_cal d 44 [.ref b, .int v2] W (fl_q1 fun x1 W2 => fl_cal d 45 [.ref b, .int v2] W2 (fl_q1 fun x2 W3 => fl_cal d 5 [.ref 10, .int x1, .int x2] W3 (fl_q1 fun x3 W4 => fl_cal d 8 [.ref 10, .int x3] W4 (fl_q1 fun x4 W5 => fl_cal d 119 [.int x4] W5 (fl_q1 fun x5 W6 => mi_br (x5 = 0) (hd_9_7 d Q b (v2 + Int32.ofInt 1) W6) (vp_in x4 20 ∧ (mi_br ((W6 14 x4.toNatClampNeg) = (Int32.ofInt (-1))) (vp_in x4 20 ∧ (∀ W8 : fl_W, W8 = fl_uw W6 14 x4.toNatClampNeg (W6 10 8) → ∀ W9 : fl_W, W9 = fl_uw W8 10 8 ((W8 10 8) + (Int32.ofInt 1)) → vp_in x4 20 ∧ (vp_in v2 60 ∧ (∀ W10 : fl_W, W10 = fl_uw W9 15 v2.toNatClampNeg (W9 14 x4.toNatClampNeg) → hd_9_7 d Q b (v2 + Int32.ofInt 1) W10)))) (vp_in x4 20 ∧ (vp_in v2 60 ∧ (∀ W7 : fl_W, W7 = fl_uw W6 15 v2.toNatClampNeg (W6 14 x4.toNatClampNeg) → hd_9_7 d Q b (v2 + Int32.ofInt 1) W7))))))))))) (Q none W)) : hd_9_7 d Q b v2 W := fun o3 => fl_fold (⟨nt_I4 hb, ⟨fun q => have h := h.1 q; ⟨Nat.le_of_ble_eq_true rfl, rfl, rfl, nt_is hb, fl_c1 h (fun x1 W2 h => ⟨Nat.le_of_ble_eq_true rfl, rfl, rfl, nt_is hb, fl_c1 h (fun x2 W3 h => ⟨Nat.le_of_ble_eq_true rfl, rfl, rfl, rfl, fl_c1 h (fun x3 W4 h => ⟨Nat.le_of_ble_eq_true rfl, rfl, rfl, rfl, fl_c1 h (fun x4 W5 h => ⟨Nat.le_of_ble_eq_true rfl, ⟨Nat.le_of_ble_eq_true rfl, rfl, rfl, fl_c1 h (fun x5 W6 h => ⟨fun q => have h := h.1 q; h _, fun q => have h := h.2 q; ⟨rfl, ⟨rfl, ⟨h.1, have h := h.2; ⟨fun q => have h := h.1 q; ⟨rfl, ⟨rfl, ⟨rfl, ⟨h.1, have h := h.2; have h := h _ rfl; ⟨rfl, ⟨rfl, ⟨rfl, trivial, have h := h _ rfl; ⟨rfl, ⟨rfl, ⟨rfl, ⟨h.1, have h := h.2; ⟨rfl, ⟨h.1, have h := h.2; have h := h _ rfl; h _⟩⟩⟩⟩⟩⟩⟩⟩⟩⟩⟩⟩⟩, fun q => have h := h.2 q; ⟨rfl, ⟨rfl, ⟨rfl, ⟨h.1, have h := h.2; ⟨rfl, ⟨h.1, have h := h.2; have h := h _ rfl; h _⟩⟩⟩⟩⟩⟩⟩⟩⟩⟩⟩)⟩⟩)⟩)⟩)⟩)⟩, fun q => have h := h.2 q; ⟨rfl, h⟩⟩⟩)
theorem sx_9 {d : Nat} {Q : fl_R} (b : Nat) (W : fl_W) (hb : fl_net b) (h : ∀ W1 : fl_W, W1 = fl_uw W 10 8 (Int32.ofInt 0) → hd_9_7 d Q b (Int32.ofInt 0) W1) : fl_cal (d + 1) 9 [.ref 10, .ref b] W Q := fl_intro [7] (fl_fold (⟨rfl, trivial, have h := h _ rfl; ⟨Nat.le_of_ble_eq_true rfl, h _⟩⟩))
/-! 11 PlaneDesk$Colouring.make(LPlaneDesk$Net;)I -/
def hd_11_20 (d : Nat) (Q : fl_R) (b : Nat) (v2 v3 v4 : Int32) (W : fl_W) : Prop := ∀ (o5 o6 : Option Value), fl_WP (fl_cal d) 11 [20] Q 20 [some (.ref 225), some (.ref b), some (.int v2), some (.int v3), some (.int v4), o5, o6] [] W
theorem sx_11_20 {d : Nat} {Q : fl_R} (b : Nat) (v2 v3 v4 : Int32) (W : fl_W) (hb : fl_net b) (h : mi_br (v4 < 0) (Q (some (.int v2)) W) (fl_cal d 66 [.ref 227, .int v4] W (fl_q1 fun x2 W3 => fl_cal d 46 [.ref b, .int x2] W3 (fl_q1 fun x3 W4 => fl_cal d 14 [.ref 225, .int (x3 &&& v3)] W4 (fl_q1 fun x4 W5 => fl_cal d 119 [.int x2] W5 (fl_q1 fun x5 W6 => mi_br (x5 = 0) (fl_cal d 120 [.int x2] W6 (fl_q1 fun x6 W7 => hd_11_20 d Q b (if v2 < (x4 + (Int32.ofInt 1)) then (x4 + (Int32.ofInt 1)) else v2) (v3 ||| x6) (v4 + Int32.ofInt (-1)) W7)) (vp_in x2 20 ∧ (∀ W8 : fl_W, W8 = fl_uw W6 226 x2.toNatClampNeg x4 → fl_cal d 120 [.int x2] W8 (fl_q1 fun x7 W9 => hd_11_20 d Q b (if v2 < (x4 + (Int32.ofInt 1)) then (x4 + (Int32.ofInt 1)) else v2) (v3 ||| x7) (v4 + Int32.ofInt (-1)) W9))))))))) : hd_11_20 d Q b v2 v3 v4 W := fun o5 o6 => fl_fold (⟨fun q => have h := h.1 q; ⟨trivial, h⟩, fun q => have h := h.2 q; ⟨rfl, ⟨Nat.le_of_ble_eq_true rfl, rfl, rfl, rfl, fl_c1 h (fun x2 W3 h => ⟨Nat.le_of_ble_eq_true rfl, ⟨Nat.le_of_ble_eq_true rfl, rfl, rfl, nt_is hb, fl_c1 h (fun x3 W4 h => ⟨Nat.le_of_ble_eq_true rfl, rfl, rfl, rfl, fl_c1 h (fun x4 W5 h => ⟨Nat.le_of_ble_eq_true rfl, ⟨Nat.le_of_ble_eq_true rfl, rfl, rfl, fl_c1 h (fun x5 W6 h => ⟨fun q => have h := h.1 q; ⟨Nat.le_of_ble_eq_true rfl, rfl, rfl, fl_c1 h (fun x6 W7 h => ⟨Nat.le_of_ble_eq_true rfl, ⟨rfl, ⟨Nat.le_of_ble_eq_true rfl, h _ _⟩⟩⟩)⟩, fun q => have h := h.2 q; ⟨rfl, ⟨rfl, ⟨h.1, have h := h.2; have h := h _ rfl; ⟨Nat.le_of_ble_eq_true rfl, rfl, rfl, fl_c1 h (fun x7 W9 h => ⟨Nat.le_of_ble_eq_true rfl, ⟨rfl, ⟨Nat.le_of_ble_eq_true rfl, h _ _⟩⟩⟩)⟩⟩⟩⟩⟩)⟩⟩)⟩)⟩⟩)⟩⟩⟩)
theorem sx_11 {d : Nat} {Q : fl_R} (b : Nat) (W : fl_W) (hb : fl_net b) (h : fl_cal d 12 [.ref 225, .ref b] W (fl_q0 fun W1 => fl_cal d 63 [.ref 227] W1 (fl_q1 fun x1 W2 => hd_11_20 d Q b (Int32.ofInt 0) (Int32.ofInt 0) (x1 - (Int32.ofInt 1)) W2))) : fl_cal (d + 1) 11 [.ref 225, .ref b] W Q := fl_intro [20] (fl_fold (⟨Nat.le_of_ble_eq_true rfl, rfl, rfl, rfl, fl_c0 h (fun W1 h => ⟨Nat.le_of_ble_eq_true rfl, ⟨Nat.le_of_ble_eq_true rfl, ⟨rfl, ⟨Nat.le_of_ble_eq_true rfl, rfl, rfl, rfl, fl_c1 h (fun x1 W2 h => ⟨Nat.le_of_ble_eq_true rfl, h _ _⟩)⟩⟩⟩⟩)⟩))
/-! 12 PlaneDesk$Colouring.takeAll(LPlaneDesk$Net;)V -/
def hd_12_4 (d : Nat) (Q : fl_R) (b : Nat) (v2 v3 : Int32) (W : fl_W) : Prop := ∀ (o4 : Option Value), fl_WP (fl_cal d) 12 [4, 34] Q 4 [some (.ref 225), some (.ref b), some (.int v2), some (.int v3), o4] [] W
def hd_12_34 (d : Nat) (Q : fl_R) (b : Nat) (v2 v3 : Int32) (W : fl_W) : Prop := ∀ (o4 : Option Value), fl_WP (fl_cal d) 12 [4, 34] Q 34 [some (.ref 225), some (.ref b), some (.int v2), some (.int v3), o4] [] W
theorem sx_12_4 {d : Nat} {Q : fl_R} (b : Nat) (v2 v3 : Int32) (W : fl_W) (hb : fl_net b) (h : mi_br (v3 < (W b 3)) (fl_cal d 120 [.int v3] W (fl_q1 fun x1 W2 => hd_12_4 d Q b (v2 ||| x1) (v3 + Int32.ofInt 1) W2)) (fl_cal d 64 [.ref 227] W (fl_q0 fun W1 => hd_12_34 d Q b v2 (Int32.ofInt 0) W1))) : hd_12_4 d Q b v2 v3 W := fun o4 => fl_fold (⟨nt_I3 hb, ⟨fun q => have h := h.1 q; ⟨Nat.le_of_ble_eq_true rfl, rfl, rfl, fl_c1 h (fun x1 W2 h => ⟨Nat.le_of_ble_eq_true rfl, h _⟩)⟩, fun q => have h := h.2 q; ⟨rfl, ⟨Nat.le_of_ble_eq_true rfl, rfl, rfl, rfl, fl_c0 h (fun W1 h => ⟨Nat.le_of_ble_eq_true rfl, h _⟩)⟩⟩⟩⟩)
theorem sx_12_34 {d : Nat} {Q : fl_R} (b : Nat) (v2 v3 : Int32) (W : fl_W) (hb : fl_net b) (h : mi_br (v3 < (W b 3)) (fl_cal d 13 [.ref 225, .ref b, .int v2] W (fl_q1 fun x2 W3 => fl_cal d 65 [.ref 227, .int x2] W3 (fl_q0 fun W4 => fl_cal d 120 [.int x2] W4 (fl_q1 fun x3 W5 => hd_12_34 d Q b (v2 &&& (x3 ^^^ (Int32.ofInt (-1)))) (v3 + Int32.ofInt 1) W5)))) (Q none W)) : hd_12_34 d Q b v2 v3 W := fun o4 => fl_fold (⟨nt_I3 hb, ⟨fun q => have h := h.1 q; ⟨Nat.le_of_ble_eq_true rfl, rfl, rfl, rfl, fl_c1 h (fun x2 W3 h => ⟨Nat.le_of_ble_eq_true rfl, ⟨rfl, ⟨Nat.le_of_ble_eq_true rfl, rfl, rfl, rfl, fl_c0 h (fun W4 h => ⟨Nat.le_of_ble_eq_true rfl, rfl, rfl, fl_c1 h (fun x3 W5 h => ⟨Nat.le_of_ble_eq_true rfl, h _⟩)⟩)⟩⟩⟩)⟩, fun q => have h := h.2 q; ⟨rfl, h⟩⟩⟩)
theorem sx_12 {d : Nat} {Q : fl_R} (b : Nat) (W : fl_W) (hb : fl_net b) (h : hd_12_4 d Q b (Int32.ofInt 0) (Int32.ofInt 0) W) : fl_cal (d + 1) 12 [.ref 225, .ref b] W Q := fl_intro [4, 34] (fl_fold (⟨Nat.le_of_ble_eq_true rfl, ⟨Nat.le_of_ble_eq_true rfl, h _⟩⟩))
/-! 13 PlaneDesk$Colouring.leastTied(LPlaneDesk$Net;I)I -/
def hd_13_9 (d : Nat) (Q : fl_R) (b : Nat) (v2 v3 v4 v5 : Int32) (W : fl_W) : Prop := ∀ (o0 o6 : Option Value), fl_WP (fl_cal d) 13 [9] Q 9 [o0, some (.ref b), some (.int v2), some (.int v3), some (.int v4), some (.int v5), o6] [] W
theorem sx_13_9 {d : Nat} {Q : fl_R} (b : Nat) (v2 v3 v4 v5 : Int32) (W : fl_W) (hb : fl_net b) (h : mi_br (v5 < (W b 3)) (fl_cal d 46 [.ref b, .int v5] W (fl_q1 fun x1 W1 => fl_cal d 191 [.int (x1 &&& v2)] W1 (fl_q1 fun x2 W2 => fl_cal d 121 [.int v2, .int v5] W2 (fl_q1 fun x3 W3 => mi_br (x3 = 0) (hd_13_9 d Q b v2 v3 v4 (v5 + Int32.ofInt 1) W3) (mi_br (x2 < v4) (hd_13_9 d Q b v2 v5 x2 (v5 + Int32.ofInt 1) W3) (hd_13_9 d Q b v2 v3 v4 (v5 + Int32.ofInt 1) W3)))))) (Q (some (.int v3)) W)) : hd_13_9 d Q b v2 v3 v4 v5 W := fun o0 o6 => fl_fold (⟨nt_I3 hb, ⟨fun q => have h := h.1 q; ⟨Nat.le_of_ble_eq_true rfl, rfl, rfl, nt_is hb, fl_c1 h (fun x1 W1 h => ⟨Nat.le_of_ble_eq_true rfl, rfl, rfl, fl_c1 h (fun x2 W2 h => ⟨Nat.le_of_ble_eq_true rfl, ⟨Nat.le_of_ble_eq_true rfl, rfl, rfl, fl_c1 h (fun x3 W3 h => ⟨fun q => have h := h.1 q; h _ _, fun q => have h := h.2 q; ⟨fun q => have h := h.1 q; ⟨Nat.le_of_ble_eq_true rfl, ⟨Nat.le_of_ble_eq_true rfl, h _ _⟩⟩, fun q => have h := h.2 q; h _ _⟩⟩)⟩⟩)⟩)⟩, fun q => have h := h.2 q; ⟨trivial, h⟩⟩⟩)
theorem sx_13 {d : Nat} {Q : fl_R} (b : Nat) (v2 : Int32) (W : fl_W) (hb : fl_net b) (h : hd_13_9 d Q b v2 (Int32.ofInt (-1)) ((Int8.ofInt 20).toInt32) (Int32.ofInt 0) W) : fl_cal (d + 1) 13 [.ref 225, .ref b, .int v2] W Q := fl_intro [9] (fl_fold (⟨Nat.le_of_ble_eq_true rfl, ⟨Nat.le_of_ble_eq_true rfl, ⟨Nat.le_of_ble_eq_true rfl, h _ _⟩⟩⟩))
/-! 14 PlaneDesk$Colouring.leastFree(I)I -/
def hd_14_4 (d : Nat) (Q : fl_R) (v1 v2 v3 : Int32) (W : fl_W) : Prop := fl_WP (fl_cal d) 14 [4] Q 4 [some (.ref 225), some (.int v1), some (.int v2), some (.int v3)] [] W
theorem sx_14_4 {d : Nat} {Q : fl_R} (v1 v2 v3 : Int32) (W : fl_W) (h : mi_br (v3 < (Int8.ofInt 20).toInt32) (fl_cal d 121 [.int v1, .int v3] W (fl_q1 fun x2 W2 => mi_br (x2 = 0) (hd_14_4 d Q v1 v2 (v3 + Int32.ofInt 1) W2) (vp_in v3 20 ∧ (fl_cal d 120 [.int (W2 226 v3.toNatClampNeg)] W2 (fl_q1 fun x3 W3 => hd_14_4 d Q v1 (v2 ||| x3) (v3 + Int32.ofInt 1) W3))))) (fl_cal d 122 [.int (v2 ^^^ (Int32.ofInt (-1)))] W (fl_q1 fun x1 W1 => Q (some (.int x1)) W1))) : hd_14_4 d Q v1 v2 v3 W := fl_fold (⟨fun q => have h := h.1 q; ⟨Nat.le_of_ble_eq_true rfl, rfl, rfl, fl_c1 h (fun x2 W2 h => ⟨fun q => have h := h.1 q; h, fun q => have h := h.2 q; ⟨rfl, ⟨rfl, ⟨h.1, have h := h.2; ⟨Nat.le_of_ble_eq_true rfl, rfl, rfl, fl_c1 h (fun x3 W3 h => ⟨Nat.le_of_ble_eq_true rfl, h⟩)⟩⟩⟩⟩⟩)⟩, fun q => have h := h.2 q; ⟨Nat.le_of_ble_eq_true rfl, rfl, rfl, fl_c1 h (fun x1 W1 h => ⟨trivial, h⟩)⟩⟩)
theorem sx_14 {d : Nat} {Q : fl_R} (v1 : Int32) (W : fl_W) (h : hd_14_4 d Q v1 (Int32.ofInt 0) (Int32.ofInt 0) W) : fl_cal (d + 1) 14 [.ref 225, .int v1] W Q := fl_intro [4] (fl_fold (⟨Nat.le_of_ble_eq_true rfl, ⟨Nat.le_of_ble_eq_true rfl, h⟩⟩))
/-! 16 PlaneDesk$Drawing.make(LPlaneDesk$Net;LPlaneDesk$Turning;I)V -/
def hd_16_20 (d : Nat) (Q : fl_R) (b : Nat) (t : Nat) (v4 : Int32) (W : fl_W) : Prop := ∀ (o2 o3 : Option Value), fl_WP (fl_cal d) 16 [20, 118] Q 20 [some (.ref 213), some (.ref b), o2, o3, some (.int v4)] [] W
def hd_16_118 (d : Nat) (Q : fl_R) (b : Nat) (t : Nat) (v4 : Int32) (W : fl_W) : Prop := ∀ (o2 o3 : Option Value), fl_WP (fl_cal d) 16 [20, 118] Q 118 [some (.ref 213), some (.ref b), o2, o3, some (.int v4)] [] W
theorem sx_16_20 {d : Nat} {Q : fl_R} (b : Nat) (t : Nat) (v4 : Int32) (W : fl_W) (hb : fl_net b) (ht : fl_tur t) (h : mi_br (v4 < (Int8.ofInt 20).toInt32) (fl_cal d 120 [.int v4] W (fl_q1 fun x9 W14 => vp_in v4 20 ∧ (∀ W15 : fl_W, W15 = fl_uw W14 216 v4.toNatClampNeg x9 → hd_16_20 d Q b t (v4 + Int32.ofInt 1) W15))) (fl_cal d 66 [.ref 217, .int (Int32.ofInt 0)] W (fl_q1 fun x3 W4 => fl_cal d 18 [.ref 213, .int x3, .int (Int32.ofInt 0), .int (Int32.ofInt 0)] W4 (fl_q0 fun W5 => fl_cal d 66 [.ref 217, .int (Int32.ofInt 1)] W5 (fl_q1 fun x4 W6 => fl_cal d 18 [.ref 213, .int x4, .int (Int32.ofInt 2), .int (Int32.ofInt 0)] W6 (fl_q0 fun W7 => fl_cal d 66 [.ref 217, .int (Int32.ofInt 2)] W7 (fl_q1 fun x5 W8 => fl_cal d 18 [.ref 213, .int x5, .int (Int32.ofInt 1), .int (Int32.ofInt 1)] W8 (fl_q0 fun W9 => fl_cal d 66 [.ref 217, .int (Int32.ofInt 0)] W9 (fl_q1 fun x6 W10 => fl_cal d 66 [.ref 217, .int (Int32.ofInt 2)] W10 (fl_q1 fun x7 W11 => fl_cal d 66 [.ref 217, .int (Int32.ofInt 1)] W11 (fl_q1 fun x8 W12 => fl_cal d 17 [.ref 213, .int x6, .int x7, .int x8] W12 (fl_q0 fun W13 => hd_16_118 d Q b t (Int32.ofInt 3) W13)))))))))))) : hd_16_20 d Q b t v4 W := fun o2 o3 => fl_fold (⟨fun q => have h := h.1 q; ⟨rfl, ⟨Nat.le_of_ble_eq_true rfl, rfl, rfl, fl_c1 h (fun x9 W14 h => ⟨rfl, ⟨h.1, have h := h.2; have h := h _ rfl; h _ _⟩⟩)⟩⟩, fun q => have h := h.2 q; ⟨rfl, ⟨Nat.le_of_ble_eq_true rfl, rfl, rfl, rfl, fl_c1 h (fun x3 W4 h => ⟨Nat.le_of_ble_eq_true rfl, rfl, rfl, rfl, fl_c0 h (fun W5 h => ⟨rfl, ⟨Nat.le_of_ble_eq_true rfl, rfl, rfl, rfl, fl_c1 h (fun x4 W6 h => ⟨Nat.le_of_ble_eq_true rfl, rfl, rfl, rfl, fl_c0 h (fun W7 h => ⟨rfl, ⟨Nat.le_of_ble_eq_true rfl, rfl, rfl, rfl, fl_c1 h (fun x5 W8 h => ⟨Nat.le_of_ble_eq_true rfl, rfl, rfl, rfl, fl_c0 h (fun W9 h => ⟨rfl, ⟨Nat.le_of_ble_eq_true rfl, rfl, rfl, rfl, fl_c1 h (fun x6 W10 h => ⟨rfl, ⟨Nat.le_of_ble_eq_true rfl, rfl, rfl, rfl, fl_c1 h (fun x7 W11 h => ⟨rfl, ⟨Nat.le_of_ble_eq_true rfl, rfl, rfl, rfl, fl_c1 h (fun x8 W12 h => ⟨Nat.le_of_ble_eq_true rfl, rfl, rfl, rfl, fl_c0 h (fun W13 h => ⟨Nat.le_of_ble_eq_true rfl, h _ _⟩)⟩)⟩⟩)⟩⟩)⟩⟩)⟩)⟩⟩)⟩)⟩⟩)⟩)⟩⟩⟩)
theorem sx_16_118 {d : Nat} {Q : fl_R} (b : Nat) (t : Nat) (v4 : Int32) (W : fl_W) (hb : fl_net b) (ht : fl_tur t) (h : fl_cal d 63 [.ref 217] W (fl_q1 fun x10 W16 => mi_br (v4 < x10) (fl_cal d 66 [.ref 217, .int v4] W16 (fl_q1 fun x11 W17 => fl_cal d 22 [.ref 213, .ref b, .int x11] W17 (fl_q0 fun W18 => hd_16_118 d Q b t (v4 + Int32.ofInt 1) W18))) (Q none W16))) : hd_16_118 d Q b t v4 W := fun o2 o3 => fl_fold (⟨rfl, ⟨Nat.le_of_ble_eq_true rfl, rfl, rfl, rfl, fl_c1 h (fun x10 W16 h => ⟨fun q => have h := h.1 q; ⟨rfl, ⟨Nat.le_of_ble_eq_true rfl, rfl, rfl, rfl, fl_c1 h (fun x11 W17 h => ⟨Nat.le_of_ble_eq_true rfl, rfl, rfl, rfl, fl_c0 h (fun W18 h => h _ _)⟩)⟩⟩, fun q => have h := h.2 q; ⟨rfl, h⟩⟩)⟩⟩)
theorem sx_16 {d : Nat} {Q : fl_R} (b : Nat) (t : Nat) (v3 : Int32) (W : fl_W) (hb : fl_net b) (ht : fl_tur t) (h : fl_cal d 44 [.ref b, .int (Int32.ofInt 0)] W (fl_q1 fun x1 W1 => fl_cal d 45 [.ref b, .int (Int32.ofInt 0)] W1 (fl_q1 fun x2 W2 => fl_cal d 19 [.ref 213, .ref b, .ref t, .int x1, .int x2, .int v3] W2 (fl_q0 fun W3 => hd_16_20 d Q b t (Int32.ofInt 0) W3)))) : fl_cal (d + 1) 16 [.ref 213, .ref b, .ref t, .int v3] W Q := fl_intro [20, 118] (fl_fold (⟨Nat.le_of_ble_eq_true rfl, rfl, rfl, nt_is hb, fl_c1 h (fun x1 W1 h => ⟨Nat.le_of_ble_eq_true rfl, rfl, rfl, nt_is hb, fl_c1 h (fun x2 W2 h => ⟨Nat.le_of_ble_eq_true rfl, rfl, rfl, rfl, fl_c0 h (fun W3 h => ⟨Nat.le_of_ble_eq_true rfl, h _ _⟩)⟩)⟩)⟩))
/-! 17 PlaneDesk$Drawing.startLine(III)V -/
theorem sx_17 {d : Nat} {Q : fl_R} (v1 v2 v3 : Int32) (W : fl_W) (h : fl_cal d 64 [.ref 221] W (fl_q0 fun W1 => fl_cal d 65 [.ref 221, .int v1] W1 (fl_q0 fun W2 => fl_cal d 65 [.ref 221, .int v2] W2 (fl_q0 fun W3 => fl_cal d 65 [.ref 221, .int v3] W3 (fl_q0 fun W4 => Q none W4))))) : fl_cal (d + 1) 17 [.ref 213, .int v1, .int v2, .int v3] W Q := fl_intro [] (fl_fold (⟨rfl, ⟨Nat.le_of_ble_eq_true rfl, rfl, rfl, rfl, fl_c0 h (fun W1 h => ⟨rfl, ⟨Nat.le_of_ble_eq_true rfl, rfl, rfl, rfl, fl_c0 h (fun W2 h => ⟨rfl, ⟨Nat.le_of_ble_eq_true rfl, rfl, rfl, rfl, fl_c0 h (fun W3 h => ⟨rfl, ⟨Nat.le_of_ble_eq_true rfl, rfl, rfl, rfl, fl_c0 h (fun W4 h => ⟨rfl, h⟩)⟩⟩)⟩⟩)⟩⟩)⟩⟩))
/-! 18 PlaneDesk$Drawing.put(III)V -/
theorem sx_18 {d : Nat} {Q : fl_R} (v1 v2 v3 : Int32) (W : fl_W) (h : fl_cal d 119 [.int v1] W (fl_q1 fun x1 W1 => mi_br (x1 = 0) (Q none W1) (vp_in v1 20 ∧ (∀ W2 : fl_W, W2 = fl_uw W1 214 v1.toNatClampNeg v2 → vp_in v1 20 ∧ (∀ W3 : fl_W, W3 = fl_uw W2 215 v1.toNatClampNeg v3 → Q none W3))))) : fl_cal (d + 1) 18 [.ref 213, .int v1, .int v2, .int v3] W Q := fl_intro [] (fl_fold (⟨Nat.le_of_ble_eq_true rfl, rfl, rfl, fl_c1 h (fun x1 W1 h => ⟨fun q => have h := h.1 q; ⟨rfl, h⟩, fun q => have h := h.2 q; ⟨rfl, ⟨rfl, ⟨h.1, have h := h.2; have h := h _ rfl; ⟨rfl, ⟨rfl, ⟨h.1, have h := h.2; have h := h _ rfl; ⟨rfl, h⟩⟩⟩⟩⟩⟩⟩⟩)⟩))
/-! 19 PlaneDesk$Drawing.findOrder(LPlaneDesk$Net;LPlaneDesk$Turning;III)V -/
def hd_19_24 (d : Nat) (Q : fl_R) (b : Nat) (t : Nat) (v3 v4 v6 : Int32) (W : fl_W) : Prop := ∀ (o5 o7 : Option Value), fl_WP (fl_cal d) 19 [24] Q 24 [some (.ref 213), some (.ref b), some (.ref t), some (.int v3), some (.int v4), o5, some (.int v6), o7] [] W
theorem sx_19_24 {d : Nat} {Q : fl_R} (b : Nat) (t : Nat) (v3 v4 v6 : Int32) (W : fl_W) (hb : fl_net b) (ht : fl_tur t) (h : mi_br (v6 < (Int32.ofInt 2)) (fl_cal d 64 [.ref 217] W (fl_q0 fun W3 => fl_cal d 65 [.ref 217, .int v3] W3 (fl_q0 fun W4 => fl_cal d 65 [.ref 217, .int v4] W4 (fl_q0 fun W5 => fl_cal d 72 [.ref 217, .ref 219] W5 (fl_q0 fun W6 => Q none W6))))) (fl_cal d 20 [.ref 213, .ref b] W (fl_q1 fun x1 W7 => fl_cal d 66 [.ref 221, .int x1] W7 (fl_q1 fun x2 W8 => fl_cal d 65 [.ref 219, .int x2] W8 (fl_q0 fun W9 => fl_cal d 21 [.ref 213, .ref t, .int x1] W9 (fl_q0 fun W10 => hd_19_24 d Q b t v3 v4 (v6 + Int32.ofInt (-1)) W10)))))) : hd_19_24 d Q b t v3 v4 v6 W := fun o5 o7 => fl_fold (⟨fun q => have h := h.1 q; ⟨rfl, ⟨Nat.le_of_ble_eq_true rfl, rfl, rfl, rfl, fl_c0 h (fun W3 h => ⟨rfl, ⟨Nat.le_of_ble_eq_true rfl, rfl, rfl, rfl, fl_c0 h (fun W4 h => ⟨rfl, ⟨Nat.le_of_ble_eq_true rfl, rfl, rfl, rfl, fl_c0 h (fun W5 h => ⟨rfl, ⟨rfl, ⟨Nat.le_of_ble_eq_true rfl, rfl, rfl, rfl, fl_c0 h (fun W6 h => ⟨rfl, h⟩)⟩⟩⟩)⟩⟩)⟩⟩)⟩⟩, fun q => have h := h.2 q; ⟨Nat.le_of_ble_eq_true rfl, rfl, rfl, rfl, fl_c1 h (fun x1 W7 h => ⟨Nat.le_of_ble_eq_true rfl, ⟨rfl, ⟨rfl, ⟨Nat.le_of_ble_eq_true rfl, rfl, rfl, rfl, fl_c1 h (fun x2 W8 h => ⟨Nat.le_of_ble_eq_true rfl, rfl, rfl, rfl, fl_c0 h (fun W9 h => ⟨Nat.le_of_ble_eq_true rfl, rfl, rfl, rfl, fl_c0 h (fun W10 h => h _ _)⟩)⟩)⟩⟩⟩⟩)⟩⟩)
theorem sx_19 {d : Nat} {Q : fl_R} (b : Nat) (t : Nat) (v3 v4 v5 : Int32) (W : fl_W) (hb : fl_net b) (ht : fl_tur t) (h : fl_cal d 17 [.ref 213, .int v3, .int v5, .int v4] W (fl_q0 fun W1 => fl_cal d 64 [.ref 219] W1 (fl_q0 fun W2 => hd_19_24 d Q b t v3 v4 ((W2 b 3) - (Int32.ofInt 1)) W2))) : fl_cal (d + 1) 19 [.ref 213, .ref b, .ref t, .int v3, .int v4, .int v5] W Q := fl_intro [24] (fl_fold (⟨Nat.le_of_ble_eq_true rfl, rfl, rfl, rfl, fl_c0 h (fun W1 h => ⟨rfl, ⟨Nat.le_of_ble_eq_true rfl, rfl, rfl, rfl, fl_c0 h (fun W2 h => ⟨nt_I3 hb, ⟨Nat.le_of_ble_eq_true rfl, h _ _⟩⟩)⟩⟩)⟩))
/-! 20 PlaneDesk$Drawing.findFree(LPlaneDesk$Net;)I -/
def hd_20_13 (d : Nat) (Q : fl_R) (b : Nat) (v2 v3 v4 : Int32) (W : fl_W) : Prop := ∀ (o5 o6 : Option Value), fl_WP (fl_cal d) 20 [13] Q 13 [some (.ref 213), some (.ref b), some (.int v2), some (.int v3), some (.int v4), o5, o6] [] W
theorem sx_20_13 {d : Nat} {Q : fl_R} (b : Nat) (v2 v3 v4 : Int32) (W : fl_W) (hb : fl_net b) (h : fl_cal d 63 [.ref 221] W (fl_q1 fun x2 W2 => mi_br (v4 < (x2 - (Int32.ofInt 1))) (fl_cal d 66 [.ref 221, .int (v4 - (Int32.ofInt 1))] W2 (fl_q1 fun x3 W3 => fl_cal d 120 [.int x3] W3 (fl_q1 fun x4 W4 => fl_cal d 66 [.ref 221, .int (v4 + (Int32.ofInt 1))] W4 (fl_q1 fun x5 W5 => fl_cal d 120 [.int x5] W5 (fl_q1 fun x6 W6 => fl_cal d 66 [.ref 221, .int v4] W6 (fl_q1 fun x7 W7 => fl_cal d 46 [.ref b, .int x7] W7 (fl_q1 fun x8 W8 => mi_br (((x8 &&& v2) &&& ((x4 ||| x6) ^^^ (Int32.ofInt (-1)))) = 0) (mi_br ((Int32.ofInt 1) = 0) (hd_20_13 d Q b v2 v3 (v4 + Int32.ofInt 1) W8) (mi_br (v3 = (Int32.ofInt (-1))) (hd_20_13 d Q b v2 v4 (v4 + Int32.ofInt 1) W8) (fl_cal d 66 [.ref 221, .int v4] W8 (fl_q1 fun x11 W11 => fl_cal d 66 [.ref 221, .int v3] W11 (fl_q1 fun x12 W12 => mi_br (x11 < x12) (hd_20_13 d Q b v2 v4 (v4 + Int32.ofInt 1) W12) (hd_20_13 d Q b v2 v3 (v4 + Int32.ofInt 1) W12)))))) (mi_br ((Int32.ofInt 0) = 0) (hd_20_13 d Q b v2 v3 (v4 + Int32.ofInt 1) W8) (mi_br (v3 = (Int32.ofInt (-1))) (hd_20_13 d Q b v2 v4 (v4 + Int32.ofInt 1) W8) (fl_cal d 66 [.ref 221, .int v4] W8 (fl_q1 fun x9 W9 => fl_cal d 66 [.ref 221, .int v3] W9 (fl_q1 fun x10 W10 => mi_br (x9 < x10) (hd_20_13 d Q b v2 v4 (v4 + Int32.ofInt 1) W10) (hd_20_13 d Q b v2 v3 (v4 + Int32.ofInt 1) W10))))))))))))) (Q (some (.int v3)) W2))) : hd_20_13 d Q b v2 v3 v4 W := fun o5 o6 => fl_fold (⟨rfl, ⟨Nat.le_of_ble_eq_true rfl, rfl, rfl, rfl, fl_c1 h (fun x2 W2 h => ⟨fun q => have h := h.1 q; ⟨rfl, ⟨Nat.le_of_ble_eq_true rfl, rfl, rfl, rfl, fl_c1 h (fun x3 W3 h => ⟨Nat.le_of_ble_eq_true rfl, rfl, rfl, fl_c1 h (fun x4 W4 h => ⟨rfl, ⟨Nat.le_of_ble_eq_true rfl, rfl, rfl, rfl, fl_c1 h (fun x5 W5 h => ⟨Nat.le_of_ble_eq_true rfl, rfl, rfl, fl_c1 h (fun x6 W6 h => ⟨Nat.le_of_ble_eq_true rfl, ⟨rfl, ⟨Nat.le_of_ble_eq_true rfl, rfl, rfl, rfl, fl_c1 h (fun x7 W7 h => ⟨Nat.le_of_ble_eq_true rfl, rfl, rfl, nt_is hb, fl_c1 h (fun x8 W8 h => ⟨fun q => have h := h.1 q; ⟨Nat.le_of_ble_eq_true rfl, ⟨fun q => have h := h.1 q; h _ _, fun q => have h := h.2 q; ⟨fun q => have h := h.1 q; ⟨Nat.le_of_ble_eq_true rfl, h _ _⟩, fun q => have h := h.2 q; ⟨rfl, ⟨Nat.le_of_ble_eq_true rfl, rfl, rfl, rfl, fl_c1 h (fun x11 W11 h => ⟨rfl, ⟨Nat.le_of_ble_eq_true rfl, rfl, rfl, rfl, fl_c1 h (fun x12 W12 h => ⟨fun q => have h := h.1 q; ⟨Nat.le_of_ble_eq_true rfl, h _ _⟩, fun q => have h := h.2 q; h _ _⟩)⟩⟩)⟩⟩⟩⟩⟩, fun q => have h := h.2 q; ⟨Nat.le_of_ble_eq_true rfl, ⟨fun q => have h := h.1 q; h _ _, fun q => have h := h.2 q; ⟨fun q => have h := h.1 q; ⟨Nat.le_of_ble_eq_true rfl, h _ _⟩, fun q => have h := h.2 q; ⟨rfl, ⟨Nat.le_of_ble_eq_true rfl, rfl, rfl, rfl, fl_c1 h (fun x9 W9 h => ⟨rfl, ⟨Nat.le_of_ble_eq_true rfl, rfl, rfl, rfl, fl_c1 h (fun x10 W10 h => ⟨fun q => have h := h.1 q; ⟨Nat.le_of_ble_eq_true rfl, h _ _⟩, fun q => have h := h.2 q; h _ _⟩)⟩⟩)⟩⟩⟩⟩⟩⟩)⟩)⟩⟩⟩)⟩)⟩⟩)⟩)⟩⟩, fun q => have h := h.2 q; ⟨trivial, h⟩⟩)⟩⟩)
theorem sx_20 {d : Nat} {Q : fl_R} (b : Nat) (W : fl_W) (hb : fl_net b) (h : fl_cal d 74 [.ref 221] W (fl_q1 fun x1 W1 => hd_20_13 d Q b x1 (Int32.ofInt (-1)) (Int32.ofInt 1) W1)) : fl_cal (d + 1) 20 [.ref 213, .ref b] W Q := fl_intro [13] (fl_fold (⟨rfl, ⟨Nat.le_of_ble_eq_true rfl, rfl, rfl, rfl, fl_c1 h (fun x1 W1 h => ⟨Nat.le_of_ble_eq_true rfl, ⟨Nat.le_of_ble_eq_true rfl, ⟨Nat.le_of_ble_eq_true rfl, h _ _⟩⟩⟩)⟩⟩))
/-! 21 PlaneDesk$Drawing.takeFromRim(LPlaneDesk$Turning;I)V -/
def hd_21_61 (d : Nat) (Q : fl_R) (t : Nat) (v2 v3 v4 v5 v6 : Int32) (W : fl_W) : Prop := fl_WP (fl_cal d) 21 [61] Q 61 [some (.ref 213), some (.ref t), some (.int v2), some (.int v3), some (.int v4), some (.int v5), some (.int v6)] [] W
theorem sx_21_61 {d : Nat} {Q : fl_R} (t : Nat) (v2 v3 v4 v5 v6 : Int32) (W : fl_W) (ht : fl_tur t) (h : mi_br (v6 < (Int8.ofInt 20).toInt32) (mi_br (v5 = v4) (fl_cal d 63 [.ref 221] W (fl_q1 fun x6 W10 => fl_cal d 71 [.ref 223, .ref 221, .int (v2 + (Int32.ofInt 1)), .int x6] W10 (fl_q0 fun W11 => fl_cal d 70 [.ref 221, .ref 223] W11 (fl_q0 fun W12 => Q none W12)))) (mi_br (v5 = (Int32.ofInt (-1))) (fl_cal d 63 [.ref 221] W (fl_q1 fun x7 W13 => fl_cal d 71 [.ref 223, .ref 221, .int (v2 + (Int32.ofInt 1)), .int x7] W13 (fl_q0 fun W14 => fl_cal d 70 [.ref 221, .ref 223] W14 (fl_q0 fun W15 => Q none W15)))) (fl_cal d 65 [.ref 223, .int v5] W (fl_q0 fun W16 => fl_cal d 89 [.ref t, .int v3, .int v5] W16 (fl_q1 fun x8 W17 => hd_21_61 d Q t v2 v3 v4 x8 (v6 + Int32.ofInt 1) W17))))) (fl_cal d 63 [.ref 221] W (fl_q1 fun x5 W7 => fl_cal d 71 [.ref 223, .ref 221, .int (v2 + (Int32.ofInt 1)), .int x5] W7 (fl_q0 fun W8 => fl_cal d 70 [.ref 221, .ref 223] W8 (fl_q0 fun W9 => Q none W9))))) : hd_21_61 d Q t v2 v3 v4 v5 v6 W := fl_fold (⟨fun q => have h := h.1 q; ⟨fun q => have h := h.1 q; ⟨rfl, ⟨rfl, ⟨rfl, ⟨Nat.le_of_ble_eq_true rfl, rfl, rfl, rfl, fl_c1 h (fun x6 W10 h => ⟨Nat.le_of_ble_eq_true rfl, rfl, rfl, rfl, fl_c0 h (fun W11 h => ⟨rfl, ⟨rfl, ⟨Nat.le_of_ble_eq_true rfl, rfl, rfl, rfl, fl_c0 h (fun W12 h => ⟨rfl, h⟩)⟩⟩⟩)⟩)⟩⟩⟩⟩, fun q => have h := h.2 q; ⟨fun q => have h := h.1 q; ⟨rfl, ⟨rfl, ⟨rfl, ⟨Nat.le_of_ble_eq_true rfl, rfl, rfl, rfl, fl_c1 h (fun x7 W13 h => ⟨Nat.le_of_ble_eq_true rfl, rfl, rfl, rfl, fl_c0 h (fun W14 h => ⟨rfl, ⟨rfl, ⟨Nat.le_of_ble_eq_true rfl, rfl, rfl, rfl, fl_c0 h (fun W15 h => ⟨rfl, h⟩)⟩⟩⟩)⟩)⟩⟩⟩⟩, fun q => have h := h.2 q; ⟨rfl, ⟨Nat.le_of_ble_eq_true rfl, rfl, rfl, rfl, fl_c0 h (fun W16 h => ⟨Nat.le_of_ble_eq_true rfl, rfl, rfl, tu_is ht, fl_c1 h (fun x8 W17 h => ⟨Nat.le_of_ble_eq_true rfl, h⟩)⟩)⟩⟩⟩⟩, fun q => have h := h.2 q; ⟨rfl, ⟨rfl, ⟨rfl, ⟨Nat.le_of_ble_eq_true rfl, rfl, rfl, rfl, fl_c1 h (fun x5 W7 h => ⟨Nat.le_of_ble_eq_true rfl, rfl, rfl, rfl, fl_c0 h (fun W8 h => ⟨rfl, ⟨rfl, ⟨Nat.le_of_ble_eq_true rfl, rfl, rfl, rfl, fl_c0 h (fun W9 h => ⟨rfl, h⟩)⟩⟩⟩)⟩)⟩⟩⟩⟩⟩)
theorem sx_21 {d : Nat} {Q : fl_R} (t : Nat) (v2 : Int32) (W : fl_W) (ht : fl_tur t) (h : fl_cal d 66 [.ref 221, .int v2] W (fl_q1 fun x1 W1 => fl_cal d 66 [.ref 221, .int (v2 + (Int32.ofInt 1))] W1 (fl_q1 fun x2 W2 => fl_cal d 66 [.ref 221, .int (v2 - (Int32.ofInt 1))] W2 (fl_q1 fun x3 W3 => fl_cal d 89 [.ref t, .int x1, .int x3] W3 (fl_q1 fun x4 W4 => fl_cal d 64 [.ref 223] W4 (fl_q0 fun W5 => fl_cal d 71 [.ref 223, .ref 221, .int (Int32.ofInt 0), .int v2] W5 (fl_q0 fun W6 => hd_21_61 d Q t v2 x1 x2 x4 (Int32.ofInt 0) W6))))))) : fl_cal (d + 1) 21 [.ref 213, .ref t, .int v2] W Q := fl_intro [61] (fl_fold (⟨rfl, ⟨Nat.le_of_ble_eq_true rfl, rfl, rfl, rfl, fl_c1 h (fun x1 W1 h => ⟨Nat.le_of_ble_eq_true rfl, ⟨rfl, ⟨Nat.le_of_ble_eq_true rfl, rfl, rfl, rfl, fl_c1 h (fun x2 W2 h => ⟨Nat.le_of_ble_eq_true rfl, ⟨rfl, ⟨Nat.le_of_ble_eq_true rfl, rfl, rfl, rfl, fl_c1 h (fun x3 W3 h => ⟨Nat.le_of_ble_eq_true rfl, rfl, rfl, tu_is ht, fl_c1 h (fun x4 W4 h => ⟨Nat.le_of_ble_eq_true rfl, ⟨rfl, ⟨Nat.le_of_ble_eq_true rfl, rfl, rfl, rfl, fl_c0 h (fun W5 h => ⟨rfl, ⟨rfl, ⟨Nat.le_of_ble_eq_true rfl, rfl, rfl, rfl, fl_c0 h (fun W6 h => ⟨Nat.le_of_ble_eq_true rfl, h⟩)⟩⟩⟩)⟩⟩⟩)⟩)⟩⟩⟩)⟩⟩⟩)⟩⟩))
/-! 22 PlaneDesk$Drawing.raise(LPlaneDesk$Net;I)V -/
def hd_22_8 (d : Nat) (Q : fl_R) (b : Nat) (v2 v3 v4 v5 : Int32) (W : fl_W) : Prop := fl_WP (fl_cal d) 22 [8] Q 8 [some (.ref 213), some (.ref b), some (.int v2), some (.int v3), some (.int v4), some (.int v5)] [] W
set_option maxRecDepth 20000 in
theorem sx_22_8 {d : Nat} {Q : fl_R} (b : Nat) (v2 v3 v4 v5 : Int32) (W : fl_W) (hb : fl_net b) (h : fl_cal d 63 [.ref 221] W (fl_q1 fun x1 W1 => mi_br (v5 < x1) (fl_cal d 66 [.ref 221, .int v5] W1 (fl_q1 fun x11 W25 => fl_cal d 48 [.ref b, .int v2, .int x11] W25 (fl_q1 fun x12 W26 => mi_br (x12 = 0) (hd_22_8 d Q b v2 v3 v4 (v5 + Int32.ofInt 1) W26) (mi_br (v3 = (Int32.ofInt (-1))) (hd_22_8 d Q b v2 v5 v5 (v5 + Int32.ofInt 1) W26) (hd_22_8 d Q b v2 v3 v5 (v5 + Int32.ofInt 1) W26))))) (fl_cal d 23 [.ref 213, .int (v3 + (Int32.ofInt 1)), .int v4] W1 (fl_q1 fun x2 W2 => fl_cal d 24 [.ref 213, .int x2, .int (Int32.ofInt 1)] W2 (fl_q0 fun W3 => fl_cal d 63 [.ref 221] W3 (fl_q1 fun x3 W4 => fl_cal d 23 [.ref 213, .int v4, .int x3] W4 (fl_q1 fun x4 W5 => fl_cal d 24 [.ref 213, .int x4, .int (Int32.ofInt 2)] W5 (fl_q0 fun W6 => fl_cal d 66 [.ref 221, .int v3] W6 (fl_q1 fun x5 W7 => fl_cal d 66 [.ref 221, .int v4] W7 (fl_q1 fun x6 W8 => fl_cal d 25 [.ref 213, .int v2, .int x5, .int x6] W8 (fl_q0 fun W9 => fl_cal d 119 [.int v2] W9 (fl_q1 fun x7 W10 => mi_br (x7 = 0) (fl_cal d 64 [.ref 223] W10 (fl_q0 fun W11 => fl_cal d 71 [.ref 223, .ref 221, .int (Int32.ofInt 0), .int (v3 + (Int32.ofInt 1))] W11 (fl_q0 fun W12 => fl_cal d 65 [.ref 223, .int v2] W12 (fl_q0 fun W13 => fl_cal d 63 [.ref 221] W13 (fl_q1 fun x8 W14 => fl_cal d 71 [.ref 223, .ref 221, .int v4, .int x8] W14 (fl_q0 fun W15 => fl_cal d 70 [.ref 221, .ref 223] W15 (fl_q0 fun W16 => Q none W16))))))) (fl_cal d 120 [.int v2] W10 (fl_q1 fun x9 W17 => vp_in v2 20 ∧ (∀ W18 : fl_W, W18 = fl_uw W17 216 v2.toNatClampNeg (x2 ||| x9) → fl_cal d 64 [.ref 223] W18 (fl_q0 fun W19 => fl_cal d 71 [.ref 223, .ref 221, .int (Int32.ofInt 0), .int (v3 + (Int32.ofInt 1))] W19 (fl_q0 fun W20 => fl_cal d 65 [.ref 223, .int v2] W20 (fl_q0 fun W21 => fl_cal d 63 [.ref 221] W21 (fl_q1 fun x10 W22 => fl_cal d 71 [.ref 223, .ref 221, .int v4, .int x10] W22 (fl_q0 fun W23 => fl_cal d 70 [.ref 221, .ref 223] W23 (fl_q0 fun W24 => Q none W24))))))))))))))))))))) : hd_22_8 d Q b v2 v3 v4 v5 W := fl_fold (⟨rfl, ⟨Nat.le_of_ble_eq_true rfl, rfl, rfl, rfl, fl_c1 h (fun x1 W1 h => ⟨fun q => have h := h.1 q; ⟨rfl, ⟨Nat.le_of_ble_eq_true rfl, rfl, rfl, rfl, fl_c1 h (fun x11 W25 h => ⟨Nat.le_of_ble_eq_true rfl, rfl, rfl, nt_is hb, fl_c1 h (fun x12 W26 h => ⟨fun q => have h := h.1 q; h, fun q => have h := h.2 q; ⟨fun q => have h := h.1 q; ⟨Nat.le_of_ble_eq_true rfl, ⟨Nat.le_of_ble_eq_true rfl, h⟩⟩, fun q => have h := h.2 q; ⟨Nat.le_of_ble_eq_true rfl, ⟨Nat.le_of_ble_eq_true rfl, h⟩⟩⟩⟩)⟩)⟩⟩, fun q => have h := h.2 q; ⟨Nat.le_of_ble_eq_true rfl, rfl, rfl, rfl, fl_c1 h (fun x2 W2 h => ⟨Nat.le_of_ble_eq_true rfl, ⟨Nat.le_of_ble_eq_true rfl, rfl, rfl, rfl, fl_c0 h (fun W3 h => ⟨rfl, ⟨Nat.le_of_ble_eq_true rfl, rfl, rfl, rfl, fl_c1 h (fun x3 W4 h => ⟨Nat.le_of_ble_eq_true rfl, rfl, rfl, rfl, fl_c1 h (fun x4 W5 h => ⟨Nat.le_of_ble_eq_true rfl, rfl, rfl, rfl, fl_c0 h (fun W6 h => ⟨rfl, ⟨Nat.le_of_ble_eq_true rfl, rfl, rfl, rfl, fl_c1 h (fun x5 W7 h => ⟨rfl, ⟨Nat.le_of_ble_eq_true rfl, rfl, rfl, rfl, fl_c1 h (fun x6 W8 h => ⟨Nat.le_of_ble_eq_true rfl, rfl, rfl, rfl, fl_c0 h (fun W9 h => ⟨Nat.le_of_ble_eq_true rfl, rfl, rfl, fl_c1 h (fun x7 W10 h => ⟨fun q => have h := h.1 q; ⟨rfl, ⟨Nat.le_of_ble_eq_true rfl, rfl, rfl, rfl, fl_c0 h (fun W11 h => ⟨rfl, ⟨rfl, ⟨Nat.le_of_ble_eq_true rfl, rfl, rfl, rfl, fl_c0 h (fun W12 h => ⟨rfl, ⟨Nat.le_of_ble_eq_true rfl, rfl, rfl, rfl, fl_c0 h (fun W13 h => ⟨rfl, ⟨rfl, ⟨rfl, ⟨Nat.le_of_ble_eq_true rfl, rfl, rfl, rfl, fl_c1 h (fun x8 W14 h => ⟨Nat.le_of_ble_eq_true rfl, rfl, rfl, rfl, fl_c0 h (fun W15 h => ⟨rfl, ⟨rfl, ⟨Nat.le_of_ble_eq_true rfl, rfl, rfl, rfl, fl_c0 h (fun W16 h => ⟨rfl, h⟩)⟩⟩⟩)⟩)⟩⟩⟩⟩)⟩⟩)⟩⟩⟩)⟩⟩, fun q => have h := h.2 q; ⟨rfl, ⟨Nat.le_of_ble_eq_true rfl, rfl, rfl, fl_c1 h (fun x9 W17 h => ⟨rfl, ⟨h.1, have h := h.2; have h := h _ rfl; ⟨rfl, ⟨Nat.le_of_ble_eq_true rfl, rfl, rfl, rfl, fl_c0 h (fun W19 h => ⟨rfl, ⟨rfl, ⟨Nat.le_of_ble_eq_true rfl, rfl, rfl, rfl, fl_c0 h (fun W20 h => ⟨rfl, ⟨Nat.le_of_ble_eq_true rfl, rfl, rfl, rfl, fl_c0 h (fun W21 h => ⟨rfl, ⟨rfl, ⟨rfl, ⟨Nat.le_of_ble_eq_true rfl, rfl, rfl, rfl, fl_c1 h (fun x10 W22 h => ⟨Nat.le_of_ble_eq_true rfl, rfl, rfl, rfl, fl_c0 h (fun W23 h => ⟨rfl, ⟨rfl, ⟨Nat.le_of_ble_eq_true rfl, rfl, rfl, rfl, fl_c0 h (fun W24 h => ⟨rfl, h⟩)⟩⟩⟩)⟩)⟩⟩⟩⟩)⟩⟩)⟩⟩⟩)⟩⟩⟩⟩)⟩⟩⟩)⟩)⟩)⟩⟩)⟩⟩)⟩)⟩)⟩⟩)⟩⟩)⟩⟩)⟩⟩)
set_option maxRecDepth 20000 in
theorem sx_22 {d : Nat} {Q : fl_R} (b : Nat) (v2 : Int32) (W : fl_W) (hb : fl_net b) (h : hd_22_8 d Q b v2 (Int32.ofInt (-1)) (Int32.ofInt (-1)) (Int32.ofInt 0) W) : fl_cal (d + 1) 22 [.ref 213, .ref b, .int v2] W Q := fl_intro [8] (fl_fold (⟨Nat.le_of_ble_eq_true rfl, ⟨Nat.le_of_ble_eq_true rfl, ⟨Nat.le_of_ble_eq_true rfl, h⟩⟩⟩))
/-! 23 PlaneDesk$Drawing.carriedByLine(II)I -/
def hd_23_5 (d : Nat) (Q : fl_R) (v2 v3 v4 : Int32) (W : fl_W) : Prop := ∀ (o1 o5 : Option Value), fl_WP (fl_cal d) 23 [5] Q 5 [some (.ref 213), o1, some (.int v2), some (.int v3), some (.int v4), o5] [] W
theorem sx_23_5 {d : Nat} {Q : fl_R} (v2 v3 v4 : Int32) (W : fl_W) (h : mi_br (v4 < v2) (fl_cal d 66 [.ref 221, .int v4] W (fl_q1 fun x1 W1 => fl_cal d 119 [.int x1] W1 (fl_q1 fun x2 W2 => mi_br (x2 = 0) (hd_23_5 d Q v2 (v3 ||| (Int32.ofInt 0)) (v4 + Int32.ofInt 1) W2) (vp_in x1 20 ∧ (hd_23_5 d Q v2 (v3 ||| (W2 216 x1.toNatClampNeg)) (v4 + Int32.ofInt 1) W2))))) (Q (some (.int v3)) W)) : hd_23_5 d Q v2 v3 v4 W := fun o1 o5 => fl_fold (⟨fun q => have h := h.1 q; ⟨rfl, ⟨Nat.le_of_ble_eq_true rfl, rfl, rfl, rfl, fl_c1 h (fun x1 W1 h => ⟨Nat.le_of_ble_eq_true rfl, ⟨Nat.le_of_ble_eq_true rfl, rfl, rfl, fl_c1 h (fun x2 W2 h => ⟨fun q => have h := h.1 q; ⟨Nat.le_of_ble_eq_true rfl, h _ _⟩, fun q => have h := h.2 q; ⟨rfl, ⟨rfl, ⟨h.1, have h := h.2; ⟨Nat.le_of_ble_eq_true rfl, h _ _⟩⟩⟩⟩⟩)⟩⟩)⟩⟩, fun q => have h := h.2 q; ⟨trivial, h⟩⟩)
theorem sx_23 {d : Nat} {Q : fl_R} (v1 v2 : Int32) (W : fl_W) (h : hd_23_5 d Q v2 (Int32.ofInt 0) v1 W) : fl_cal (d + 1) 23 [.ref 213, .int v1, .int v2] W Q := fl_intro [5] (fl_fold (⟨Nat.le_of_ble_eq_true rfl, ⟨Nat.le_of_ble_eq_true rfl, h _ _⟩⟩))
/-! 24 PlaneDesk$Drawing.move(II)V -/
def hd_24_2 (d : Nat) (Q : fl_R) (v1 v2 v3 : Int32) (W : fl_W) : Prop := fl_WP (fl_cal d) 24 [2] Q 2 [some (.ref 213), some (.int v1), some (.int v2), some (.int v3)] [] W
theorem sx_24_2 {d : Nat} {Q : fl_R} (v1 v2 v3 : Int32) (W : fl_W) (h : mi_br (v3 < (Int8.ofInt 20).toInt32) (fl_cal d 121 [.int v1, .int v3] W (fl_q1 fun x1 W1 => mi_br (x1 = 0) (hd_24_2 d Q v1 v2 (v3 + Int32.ofInt 1) W1) (vp_in v3 20 ∧ (vp_in v3 20 ∧ (∀ W2 : fl_W, W2 = fl_uw W1 214 v3.toNatClampNeg ((W1 214 v3.toNatClampNeg) + v2) → hd_24_2 d Q v1 v2 (v3 + Int32.ofInt 1) W2))))) (Q none W)) : hd_24_2 d Q v1 v2 v3 W := fl_fold (⟨fun q => have h := h.1 q; ⟨Nat.le_of_ble_eq_true rfl, rfl, rfl, fl_c1 h (fun x1 W1 h => ⟨fun q => have h := h.1 q; h, fun q => have h := h.2 q; ⟨rfl, ⟨rfl, rfl, ⟨rfl, ⟨h.1, have h := h.2; ⟨rfl, ⟨h.1, have h := h.2; have h := h _ rfl; h⟩⟩⟩⟩⟩⟩⟩)⟩, fun q => have h := h.2 q; ⟨rfl, h⟩⟩)
theorem sx_24 {d : Nat} {Q : fl_R} (v1 v2 : Int32) (W : fl_W) (h : hd_24_2 d Q v1 v2 (Int32.ofInt 0) W) : fl_cal (d + 1) 24 [.ref 213, .int v1, .int v2] W Q := fl_intro [2] (fl_fold (⟨Nat.le_of_ble_eq_true rfl, h⟩))
/-! 25 PlaneDesk$Drawing.putAbove(III)V -/
theorem sx_25 {d : Nat} {Q : fl_R} (v1 v2 v3 : Int32) (W : fl_W) (h : fl_cal d 119 [.int v2] W (fl_q1 fun x1 W1 => mi_br (x1 = 0) (Q none W1) (fl_cal d 119 [.int v3] W1 (fl_q1 fun x2 W2 => mi_br (x2 = 0) (Q none W2) (vp_in v2 20 ∧ (vp_in v3 20 ∧ (vp_in v3 20 ∧ (vp_in v2 20 ∧ (vp_in v3 20 ∧ (vp_in v2 20 ∧ (vp_in v2 20 ∧ (vp_in v3 20 ∧ (fl_cal d 18 [.ref 213, .int v1, .int (((((W2 214 v2.toNatClampNeg) + (W2 214 v3.toNatClampNeg)) + (W2 215 v3.toNatClampNeg)) - (W2 215 v2.toNatClampNeg)) / (Int32.ofInt 2)), .int (((((W2 214 v3.toNatClampNeg) - (W2 214 v2.toNatClampNeg)) + (W2 215 v2.toNatClampNeg)) + (W2 215 v3.toNatClampNeg)) / (Int32.ofInt 2))] W2 (fl_q0 fun W3 => Q none W3)))))))))))))) : fl_cal (d + 1) 25 [.ref 213, .int v1, .int v2, .int v3] W Q := fl_intro [] (fl_fold (⟨Nat.le_of_ble_eq_true rfl, rfl, rfl, fl_c1 h (fun x1 W1 h => ⟨fun q => have h := h.1 q; ⟨rfl, h⟩, fun q => have h := h.2 q; ⟨Nat.le_of_ble_eq_true rfl, rfl, rfl, fl_c1 h (fun x2 W2 h => ⟨fun q => have h := h.1 q; ⟨rfl, h⟩, fun q => have h := h.2 q; ⟨rfl, ⟨rfl, ⟨h.1, have h := h.2; ⟨rfl, ⟨rfl, ⟨h.1, have h := h.2; ⟨rfl, ⟨rfl, ⟨h.1, have h := h.2; ⟨rfl, ⟨rfl, ⟨h.1, have h := h.2; ⟨by decide, ⟨rfl, ⟨rfl, ⟨h.1, have h := h.2; ⟨rfl, ⟨rfl, ⟨h.1, have h := h.2; ⟨rfl, ⟨rfl, ⟨h.1, have h := h.2; ⟨rfl, ⟨rfl, ⟨h.1, have h := h.2; ⟨by decide, ⟨Nat.le_of_ble_eq_true rfl, rfl, rfl, rfl, fl_c0 h (fun W3 h => ⟨rfl, h⟩)⟩⟩⟩⟩⟩⟩⟩⟩⟩⟩⟩⟩⟩⟩⟩⟩⟩⟩⟩⟩⟩⟩⟩⟩⟩⟩⟩⟩)⟩⟩)⟩))
end
section
/-! 27 PlaneDesk$Layout.lays(LPlaneDesk$Net;)Z -/
def hd_27_17 (d : Nat) (Q : fl_R) (b : Nat) (v2 : Int32) (W : fl_W) : Prop := fl_WP (fl_cal d) 27 [17] Q 17 [some (.ref 9), some (.ref b), some (.int v2)] [] W
theorem sx_27_17 {d : Nat} {Q : fl_R} (b : Nat) (v2 : Int32) (W : fl_W) (hb : fl_net b) (h : mi_br (v2 < (W 10 8)) (fl_cal d 28 [.ref 9, .ref b, .int v2] W (fl_q0 fun W3 => mi_br ((W3 60 4) = (Int32.ofInt 1)) (fl_cal d 44 [.ref 60, .int (Int32.ofInt 0)] W3 (fl_q1 fun x2 W7 => fl_cal d 45 [.ref 60, .int (Int32.ofInt 0)] W7 (fl_q1 fun x3 W8 => fl_cal d 86 [.ref 18, .int x2, .int x3] W8 (fl_q0 fun W9 => fl_cal d 45 [.ref 60, .int (Int32.ofInt 0)] W9 (fl_q1 fun x4 W10 => fl_cal d 44 [.ref 60, .int (Int32.ofInt 0)] W10 (fl_q1 fun x5 W11 => fl_cal d 86 [.ref 18, .int x4, .int x5] W11 (fl_q0 fun W12 => hd_27_17 d Q b (v2 + Int32.ofInt 1) W12))))))) (fl_cal d 29 [.ref 9] W3 (fl_q0 fun W4 => fl_cal d 30 [.ref 9] W4 (fl_q1 fun x1 W5 => mi_br (x1 = 0) (Q (some (.int (Int32.ofInt 0))) W5) (fl_cal d 36 [.ref 9] W5 (fl_q0 fun W6 => hd_27_17 d Q b (v2 + Int32.ofInt 1) W6))))))) (Q (some (.int (Int32.ofInt 1))) W)) : hd_27_17 d Q b v2 W := fl_fold (⟨rfl, ⟨rfl, ⟨fun q => have h := h.1 q; ⟨Nat.le_of_ble_eq_true rfl, rfl, rfl, rfl, fl_c0 h (fun W3 h => ⟨rfl, ⟨rfl, ⟨fun q => have h := h.1 q; ⟨rfl, ⟨rfl, ⟨Nat.le_of_ble_eq_true rfl, rfl, rfl, rfl, fl_c1 h (fun x2 W7 h => ⟨rfl, ⟨Nat.le_of_ble_eq_true rfl, rfl, rfl, rfl, fl_c1 h (fun x3 W8 h => ⟨Nat.le_of_ble_eq_true rfl, rfl, rfl, rfl, fl_c0 h (fun W9 h => ⟨rfl, ⟨rfl, ⟨Nat.le_of_ble_eq_true rfl, rfl, rfl, rfl, fl_c1 h (fun x4 W10 h => ⟨rfl, ⟨Nat.le_of_ble_eq_true rfl, rfl, rfl, rfl, fl_c1 h (fun x5 W11 h => ⟨Nat.le_of_ble_eq_true rfl, rfl, rfl, rfl, fl_c0 h (fun W12 h => h)⟩)⟩⟩)⟩⟩⟩)⟩)⟩⟩)⟩⟩⟩, fun q => have h := h.2 q; ⟨Nat.le_of_ble_eq_true rfl, rfl, rfl, rfl, fl_c0 h (fun W4 h => ⟨Nat.le_of_ble_eq_true rfl, rfl, rfl, rfl, fl_c1 h (fun x1 W5 h => ⟨fun q => have h := h.1 q; ⟨Or.inl rfl, h⟩, fun q => have h := h.2 q; ⟨Nat.le_of_ble_eq_true rfl, rfl, rfl, rfl, fl_c0 h (fun W6 h => h)⟩⟩)⟩)⟩⟩⟩⟩)⟩, fun q => have h := h.2 q; ⟨Or.inr rfl, h⟩⟩⟩⟩)
theorem sx_27 {d : Nat} {Q : fl_R} (b : Nat) (W : fl_W) (hb : fl_net b) (h : fl_cal d 2 [.ref 10, .ref b] W (fl_q0 fun W1 => fl_cal d 84 [.ref 18] W1 (fl_q0 fun W2 => hd_27_17 d Q b (Int32.ofInt 0) W2))) : fl_cal (d + 1) 27 [.ref 9, .ref b] W Q := fl_intro [17] (fl_fold (⟨rfl, ⟨Nat.le_of_ble_eq_true rfl, rfl, rfl, rfl, fl_c0 h (fun W1 h => ⟨rfl, ⟨Nat.le_of_ble_eq_true rfl, rfl, rfl, rfl, fl_c0 h (fun W2 h => ⟨Nat.le_of_ble_eq_true rfl, h⟩)⟩⟩)⟩⟩))
/-! 28 PlaneDesk$Layout.takeBlock(LPlaneDesk$Net;I)V -/
def hd_28_13 (d : Nat) (Q : fl_R) (b : Nat) (v2 v3 : Int32) (W : fl_W) : Prop := fl_WP (fl_cal d) 28 [13] Q 13 [some (.ref 9), some (.ref b), some (.int v2), some (.int v3)] [] W
theorem sx_28_13 {d : Nat} {Q : fl_R} (b : Nat) (v2 v3 : Int32) (W : fl_W) (hb : fl_net b) (h : mi_br (v3 < (W b 4)) (fl_cal d 1 [.ref 10, .int v3] W (fl_q1 fun x1 W2 => mi_br (x1 = v2) (fl_cal d 44 [.ref b, .int v3] W2 (fl_q1 fun x2 W3 => fl_cal d 45 [.ref b, .int v3] W3 (fl_q1 fun x3 W4 => fl_cal d 50 [.ref 60, .int x2, .int x3] W4 (fl_q0 fun W5 => hd_28_13 d Q b v2 (v3 + Int32.ofInt 1) W5)))) (hd_28_13 d Q b v2 (v3 + Int32.ofInt 1) W2))) (Q none W)) : hd_28_13 d Q b v2 v3 W := fl_fold (⟨nt_I4 hb, ⟨fun q => have h := h.1 q; ⟨rfl, ⟨Nat.le_of_ble_eq_true rfl, rfl, rfl, rfl, fl_c1 h (fun x1 W2 h => ⟨fun q => have h := h.1 q; ⟨rfl, ⟨Nat.le_of_ble_eq_true rfl, rfl, rfl, nt_is hb, fl_c1 h (fun x2 W3 h => ⟨Nat.le_of_ble_eq_true rfl, rfl, rfl, nt_is hb, fl_c1 h (fun x3 W4 h => ⟨Nat.le_of_ble_eq_true rfl, rfl, rfl, rfl, fl_c0 h (fun W5 h => h)⟩)⟩)⟩⟩, fun q => have h := h.2 q; h⟩)⟩⟩, fun q => have h := h.2 q; ⟨rfl, h⟩⟩⟩)
theorem sx_28 {d : Nat} {Q : fl_R} (b : Nat) (v2 : Int32) (W : fl_W) (hb : fl_net b) (h : fl_cal d 40 [.ref 60, .int (W b 3)] W (fl_q0 fun W1 => hd_28_13 d Q b v2 (Int32.ofInt 0) W1)) : fl_cal (d + 1) 28 [.ref 9, .ref b, .int v2] W Q := fl_intro [13] (fl_fold (⟨rfl, ⟨nt_I3 hb, ⟨Nat.le_of_ble_eq_true rfl, rfl, rfl, rfl, fl_c0 h (fun W1 h => ⟨Nat.le_of_ble_eq_true rfl, h⟩)⟩⟩⟩))
/-! 29 PlaneDesk$Layout.layFirstRing()V -/
theorem sx_29 {d : Nat} {Q : fl_R} (W : fl_W) (h : fl_cal d 44 [.ref 60, .int (Int32.ofInt 0)] W (fl_q1 fun x1 W1 => fl_cal d 45 [.ref 60, .int (Int32.ofInt 0)] W1 (fl_q1 fun x2 W2 => ∀ W3 : fl_W, W3 = fl_uw W2 9 7 (Int32.ofInt 0) → fl_cal d 40 [.ref 64, .int (W3 60 3)] W3 (fl_q0 fun W4 => fl_cal d 50 [.ref 64, .int x1, .int x2] W4 (fl_q0 fun W5 => fl_cal d 120 [.int x1] W5 (fl_q1 fun x3 W6 => fl_cal d 120 [.int x2] W6 (fl_q1 fun x4 W7 => fl_cal d 120 [.int x1] W7 (fl_q1 fun x5 W8 => fl_cal d 76 [.ref 153, .ref 60, .int x2, .int ((x3 ||| x4) ^^^ (Int32.ofInt (-1))), .int x5] W8 (fl_q0 fun W9 => fl_cal d 60 [.ref 68, .int x1, .int x2, .ref 157] W9 (fl_q0 fun W10 => fl_cal d 32 [.ref 9, .int x2] W10 (fl_q0 fun W11 => Q none W11))))))))))) : fl_cal (d + 1) 29 [.ref 9] W Q := fl_intro [] (fl_fold (⟨rfl, ⟨Nat.le_of_ble_eq_true rfl, rfl, rfl, rfl, fl_c1 h (fun x1 W1 h => ⟨Nat.le_of_ble_eq_true rfl, ⟨rfl, ⟨Nat.le_of_ble_eq_true rfl, rfl, rfl, rfl, fl_c1 h (fun x2 W2 h => ⟨Nat.le_of_ble_eq_true rfl, ⟨rfl, trivial, have h := h _ rfl; ⟨rfl, ⟨rfl, ⟨rfl, ⟨Nat.le_of_ble_eq_true rfl, rfl, rfl, rfl, fl_c0 h (fun W4 h => ⟨rfl, ⟨Nat.le_of_ble_eq_true rfl, rfl, rfl, rfl, fl_c0 h (fun W5 h => ⟨rfl, ⟨rfl, ⟨Nat.le_of_ble_eq_true rfl, rfl, rfl, fl_c1 h (fun x3 W6 h => ⟨Nat.le_of_ble_eq_true rfl, rfl, rfl, fl_c1 h (fun x4 W7 h => ⟨Nat.le_of_ble_eq_true rfl, rfl, rfl, fl_c1 h (fun x5 W8 h => ⟨Nat.le_of_ble_eq_true rfl, rfl, rfl, rfl, fl_c0 h (fun W9 h => ⟨rfl, ⟨rfl, ⟨rfl, ⟨Nat.le_of_ble_eq_true rfl, rfl, rfl, rfl, fl_c0 h (fun W10 h => ⟨Nat.le_of_ble_eq_true rfl, rfl, rfl, rfl, fl_c0 h (fun W11 h => ⟨rfl, h⟩)⟩)⟩⟩⟩⟩)⟩)⟩)⟩)⟩⟩⟩)⟩⟩)⟩⟩⟩⟩⟩⟩)⟩⟩⟩)⟩⟩))
/-! 30 PlaneDesk$Layout.laysRest()Z -/
def hd_30_2 (d : Nat) (Q : fl_R) (v1 : Int32) (W : fl_W) : Prop := ∀ (o2 : Option Value), fl_WP (fl_cal d) 30 [2] Q 2 [some (.ref 9), some (.int v1), o2] [] W
theorem sx_30_2 {d : Nat} {Q : fl_R} (v1 : Int32) (W : fl_W) (h : mi_br (v1 < (Int8.ofInt 60).toInt32) (mi_br ((W 64 4) < (W 60 4)) (fl_cal d 33 [.ref 9] W (fl_q1 fun x1 W1 => mi_br (x1 = 0) (Q (some (.int (Int32.ofInt 0))) W1) (fl_cal d 122 [.int (W1 9 9)] W1 (fl_q1 fun x2 W2 => fl_cal d 31 [.ref 9, .int x2] W2 (fl_q0 fun W3 => fl_cal d 61 [.ref 68, .int (W3 9 10), .int x2, .int (W3 153 3), .ref 157] W3 (fl_q0 fun W4 => fl_cal d 32 [.ref 9, .int x2] W4 (fl_q0 fun W5 => hd_30_2 d Q (v1 + Int32.ofInt 1) W5))))))) (mi_br ((W 64 4) = (W 60 4)) (Q (some (.int (Int32.ofInt 1))) W) (Q (some (.int (Int32.ofInt 0))) W))) (mi_br ((W 64 4) = (W 60 4)) (Q (some (.int (Int32.ofInt 1))) W) (Q (some (.int (Int32.ofInt 0))) W))) : hd_30_2 d Q v1 W := fun o2 => fl_fold (⟨fun q => have h := h.1 q; ⟨rfl, ⟨rfl, ⟨rfl, ⟨rfl, ⟨fun q => have h := h.1 q; ⟨Nat.le_of_ble_eq_true rfl, rfl, rfl, rfl, fl_c1 h (fun x1 W1 h => ⟨fun q => have h := h.1 q; ⟨Or.inl rfl, h⟩, fun q => have h := h.2 q; ⟨rfl, ⟨Nat.le_of_ble_eq_true rfl, rfl, rfl, fl_c1 h (fun x2 W2 h => ⟨Nat.le_of_ble_eq_true rfl, ⟨Nat.le_of_ble_eq_true rfl, rfl, rfl, rfl, fl_c0 h (fun W3 h => ⟨rfl, ⟨rfl, ⟨rfl, ⟨rfl, ⟨rfl, ⟨rfl, ⟨Nat.le_of_ble_eq_true rfl, rfl, rfl, rfl, fl_c0 h (fun W4 h => ⟨Nat.le_of_ble_eq_true rfl, rfl, rfl, rfl, fl_c0 h (fun W5 h => h _)⟩)⟩⟩⟩⟩⟩⟩⟩)⟩⟩)⟩⟩⟩)⟩, fun q => have h := h.2 q; ⟨rfl, ⟨rfl, ⟨rfl, ⟨rfl, ⟨fun q => have h := h.1 q; ⟨Or.inr rfl, h⟩, fun q => have h := h.2 q; ⟨Or.inl rfl, h⟩⟩⟩⟩⟩⟩⟩⟩⟩⟩⟩, fun q => have h := h.2 q; ⟨rfl, ⟨rfl, ⟨rfl, ⟨rfl, ⟨fun q => have h := h.1 q; ⟨Or.inr rfl, h⟩, fun q => have h := h.2 q; ⟨Or.inl rfl, h⟩⟩⟩⟩⟩⟩⟩)
theorem sx_30 {d : Nat} {Q : fl_R} (W : fl_W) (h : hd_30_2 d Q (Int32.ofInt 0) W) : fl_cal (d + 1) 30 [.ref 9] W Q := fl_intro [2] (fl_fold (⟨Nat.le_of_ble_eq_true rfl, h _⟩))
/-! 31 PlaneDesk$Layout.findWay(I)V -/
theorem sx_31 {d : Nat} {Q : fl_R} (v1 : Int32) (W : fl_W) (h : fl_cal d 120 [.int v1] W (fl_q1 fun x1 W1 => mi_br ((W1 9 8) = 0) (fl_cal d 122 [.int ((W 9 9) &&& (x1 ^^^ (Int32.ofInt (-1))))] W1 (fl_q1 fun x2 W3 => fl_cal d 77 [.ref 153, .int x2] W3 (fl_q0 fun W4 => Q none W4))) (fl_cal d 76 [.ref 153, .ref 60, .int v1, .int (W1 9 8), .int ((W 9 9) &&& (x1 ^^^ (Int32.ofInt (-1))))] W1 (fl_q0 fun W2 => Q none W2)))) : fl_cal (d + 1) 31 [.ref 9, .int v1] W Q := fl_intro [] (fl_fold (⟨rfl, ⟨Nat.le_of_ble_eq_true rfl, rfl, rfl, fl_c1 h (fun x1 W1 h => ⟨Nat.le_of_ble_eq_true rfl, ⟨rfl, ⟨fun q => have h := h.1 q; ⟨rfl, ⟨Nat.le_of_ble_eq_true rfl, rfl, rfl, fl_c1 h (fun x2 W3 h => ⟨Nat.le_of_ble_eq_true rfl, rfl, rfl, rfl, fl_c0 h (fun W4 h => ⟨rfl, h⟩)⟩)⟩⟩, fun q => have h := h.2 q; ⟨rfl, ⟨rfl, ⟨rfl, ⟨Nat.le_of_ble_eq_true rfl, rfl, rfl, rfl, fl_c0 h (fun W2 h => ⟨rfl, h⟩)⟩⟩⟩⟩⟩⟩⟩)⟩⟩))
/-! 32 PlaneDesk$Layout.markWay(I)V -/
def hd_32_10 (d : Nat) (Q : fl_R) (v1 v2 v3 : Int32) (W : fl_W) : Prop := fl_WP (fl_cal d) 32 [10] Q 10 [some (.ref 9), some (.int v1), some (.int v2), some (.int v3)] [] W
theorem sx_32_10 {d : Nat} {Q : fl_R} (v1 v2 v3 : Int32) (W : fl_W) (h : fl_cal d 63 [.ref 157] W (fl_q1 fun x1 W1 => mi_br (v3 < x1) (fl_cal d 66 [.ref 157, .int v3] W1 (fl_q1 fun x5 W7 => fl_cal d 50 [.ref 64, .int v2, .int x5] W7 (fl_q0 fun W8 => fl_cal d 66 [.ref 157, .int v3] W8 (fl_q1 fun x6 W9 => hd_32_10 d Q v1 x6 (v3 + Int32.ofInt 1) W9)))) (fl_cal d 50 [.ref 64, .int v2, .int v1] W1 (fl_q0 fun W2 => fl_cal d 120 [.int v1] W2 (fl_q1 fun x2 W3 => fl_cal d 120 [.int (W3 153 3)] W3 (fl_q1 fun x3 W4 => fl_cal d 74 [.ref 157] W4 (fl_q1 fun x4 W5 => ∀ W6 : fl_W, W6 = fl_uw W5 9 7 ((W2 9 7) ||| ((x2 ||| x3) ||| x4)) → Q none W6))))))) : hd_32_10 d Q v1 v2 v3 W := fl_fold (⟨rfl, ⟨rfl, ⟨Nat.le_of_ble_eq_true rfl, rfl, rfl, rfl, fl_c1 h (fun x1 W1 h => ⟨fun q => have h := h.1 q; ⟨rfl, ⟨rfl, ⟨rfl, ⟨Nat.le_of_ble_eq_true rfl, rfl, rfl, rfl, fl_c1 h (fun x5 W7 h => ⟨Nat.le_of_ble_eq_true rfl, rfl, rfl, rfl, fl_c0 h (fun W8 h => ⟨rfl, ⟨rfl, ⟨Nat.le_of_ble_eq_true rfl, rfl, rfl, rfl, fl_c1 h (fun x6 W9 h => ⟨Nat.le_of_ble_eq_true rfl, h⟩)⟩⟩⟩)⟩)⟩⟩⟩⟩, fun q => have h := h.2 q; ⟨rfl, ⟨Nat.le_of_ble_eq_true rfl, rfl, rfl, rfl, fl_c0 h (fun W2 h => ⟨rfl, ⟨rfl, ⟨Nat.le_of_ble_eq_true rfl, rfl, rfl, fl_c1 h (fun x2 W3 h => ⟨rfl, ⟨rfl, ⟨Nat.le_of_ble_eq_true rfl, rfl, rfl, fl_c1 h (fun x3 W4 h => ⟨rfl, ⟨rfl, ⟨Nat.le_of_ble_eq_true rfl, rfl, rfl, rfl, fl_c1 h (fun x4 W5 h => ⟨rfl, trivial, have h := h _ rfl; ⟨rfl, h⟩⟩)⟩⟩⟩)⟩⟩⟩)⟩⟩⟩)⟩⟩⟩)⟩⟩⟩)
theorem sx_32 {d : Nat} {Q : fl_R} (v1 : Int32) (W : fl_W) (h : hd_32_10 d Q v1 (W 153 3) (Int32.ofInt 0) W) : fl_cal (d + 1) 32 [.ref 9, .int v1] W Q := fl_intro [10] (fl_fold (⟨rfl, ⟨rfl, ⟨Nat.le_of_ble_eq_true rfl, ⟨Nat.le_of_ble_eq_true rfl, h⟩⟩⟩⟩))
/-! 33 PlaneDesk$Layout.choosePart()Z -/
def hd_33_14 (d : Nat) (Q : fl_R) (v1 v2 : Int32) (W : fl_W) : Prop := ∀ (o3 o4 o5 : Option Value), fl_WP (fl_cal d) 33 [14] Q 14 [some (.ref 9), some (.int v1), some (.int v2), o3, o4, o5] [] W
set_option maxRecDepth 20000 in
theorem sx_33_14 {d : Nat} {Q : fl_R} (v1 v2 : Int32) (W : fl_W) (h : mi_br (v2 < (W 60 4)) (fl_cal d 44 [.ref 60, .int v2] W (fl_q1 fun x1 W3 => fl_cal d 120 [.int x1] W3 (fl_q1 fun x2 W4 => fl_cal d 45 [.ref 60, .int v2] W4 (fl_q1 fun x3 W5 => fl_cal d 120 [.int x3] W5 (fl_q1 fun x4 W6 => mi_br ((((x2 ||| x4) &&& ((W6 9 7) ^^^ (Int32.ofInt (-1)))) &&& v1) = 0) (fl_cal d 44 [.ref 60, .int v2] W6 (fl_q1 fun x5 W7 => fl_cal d 45 [.ref 60, .int v2] W7 (fl_q1 fun x6 W8 => fl_cal d 48 [.ref 64, .int x5, .int x6] W8 (fl_q1 fun x7 W9 => mi_br (x7 = 0) (mi_br (((x2 ||| x4) &&& ((W6 9 7) ^^^ (Int32.ofInt (-1)))) = 0) (fl_cal d 34 [.ref 9, .int ((x2 ||| x4) &&& ((W9 9 7) ^^^ (Int32.ofInt (-1)))), .int ((x2 ||| x4) &&& (W9 9 7))] W9 (fl_q1 fun x10 W12 => mi_br (x10 = 0) (Q (some (.int (Int32.ofInt 0))) W12) (hd_33_14 d Q (v1 ||| ((x2 ||| x4) &&& ((W9 9 7) ^^^ (Int32.ofInt (-1))))) (v2 + Int32.ofInt 1) W12))) (fl_cal d 35 [.ref 9, .int ((x2 ||| x4) &&& ((W6 9 7) ^^^ (Int32.ofInt (-1))))] W9 (fl_q1 fun x8 W10 => fl_cal d 34 [.ref 9, .int (x8 &&& ((W10 9 7) ^^^ (Int32.ofInt (-1)))), .int (x8 &&& (W10 9 7))] W10 (fl_q1 fun x9 W11 => mi_br (x9 = 0) (Q (some (.int (Int32.ofInt 0))) W11) (hd_33_14 d Q (v1 ||| (x8 &&& ((W10 9 7) ^^^ (Int32.ofInt (-1))))) (v2 + Int32.ofInt 1) W11))))) (hd_33_14 d Q v1 (v2 + Int32.ofInt 1) W9))))) (hd_33_14 d Q v1 (v2 + Int32.ofInt 1) W6)))))) (mi_br ((W 9 10) = (Int32.ofInt (-1))) (Q (some (.int (Int32.ofInt 0))) W) (Q (some (.int (Int32.ofInt 1))) W))) : hd_33_14 d Q v1 v2 W := fun o3 o4 o5 => fl_fold (⟨rfl, ⟨rfl, ⟨fun q => have h := h.1 q; ⟨rfl, ⟨Nat.le_of_ble_eq_true rfl, rfl, rfl, rfl, fl_c1 h (fun x1 W3 h => ⟨Nat.le_of_ble_eq_true rfl, rfl, rfl, fl_c1 h (fun x2 W4 h => ⟨rfl, ⟨Nat.le_of_ble_eq_true rfl, rfl, rfl, rfl, fl_c1 h (fun x3 W5 h => ⟨Nat.le_of_ble_eq_true rfl, rfl, rfl, fl_c1 h (fun x4 W6 h => ⟨Nat.le_of_ble_eq_true rfl, ⟨rfl, ⟨Nat.le_of_ble_eq_true rfl, ⟨fun q => have h := h.1 q; ⟨rfl, ⟨rfl, ⟨Nat.le_of_ble_eq_true rfl, rfl, rfl, rfl, fl_c1 h (fun x5 W7 h => ⟨rfl, ⟨Nat.le_of_ble_eq_true rfl, rfl, rfl, rfl, fl_c1 h (fun x6 W8 h => ⟨Nat.le_of_ble_eq_true rfl, rfl, rfl, rfl, fl_c1 h (fun x7 W9 h => ⟨fun q => have h := h.1 q; ⟨fun q => have h := h.1 q; ⟨Nat.le_of_ble_eq_true rfl, ⟨rfl, ⟨Nat.le_of_ble_eq_true rfl, ⟨rfl, ⟨rfl, ⟨Nat.le_of_ble_eq_true rfl, rfl, rfl, rfl, fl_c1 h (fun x10 W12 h => ⟨fun q => have h := h.1 q; ⟨Or.inl rfl, h⟩, fun q => have h := h.2 q; h _ _ _⟩)⟩⟩⟩⟩⟩⟩, fun q => have h := h.2 q; ⟨Nat.le_of_ble_eq_true rfl, rfl, rfl, rfl, fl_c1 h (fun x8 W10 h => ⟨Nat.le_of_ble_eq_true rfl, ⟨rfl, ⟨Nat.le_of_ble_eq_true rfl, ⟨rfl, ⟨rfl, ⟨Nat.le_of_ble_eq_true rfl, rfl, rfl, rfl, fl_c1 h (fun x9 W11 h => ⟨fun q => have h := h.1 q; ⟨Or.inl rfl, h⟩, fun q => have h := h.2 q; h _ _ _⟩)⟩⟩⟩⟩⟩⟩)⟩⟩, fun q => have h := h.2 q; h _ _ _⟩)⟩)⟩⟩)⟩⟩⟩, fun q => have h := h.2 q; h _ _ _⟩⟩⟩⟩)⟩)⟩⟩)⟩)⟩⟩, fun q => have h := h.2 q; ⟨rfl, ⟨fun q => have h := h.1 q; ⟨Or.inl rfl, h⟩, fun q => have h := h.2 q; ⟨Or.inr rfl, h⟩⟩⟩⟩⟩⟩)
set_option maxRecDepth 20000 in
theorem sx_33 {d : Nat} {Q : fl_R} (W : fl_W) (h : ∀ W1 : fl_W, W1 = fl_uw W 9 10 (Int32.ofInt (-1)) → ∀ W2 : fl_W, W2 = fl_uw W1 9 11 (Int32.ofInt 0) → hd_33_14 d Q (Int32.ofInt 0) (Int32.ofInt 0) W2) : fl_cal (d + 1) 33 [.ref 9] W Q := fl_intro [14] (fl_fold (⟨Nat.le_of_ble_eq_true rfl, ⟨rfl, trivial, have h := h _ rfl; ⟨rfl, Or.inl rfl, have h := h _ rfl; ⟨Nat.le_of_ble_eq_true rfl, h _ _ _⟩⟩⟩⟩))
/-! 34 PlaneDesk$Layout.weigh(II)Z -/
theorem sx_34 {d : Nat} {Q : fl_R} (v1 v2 : Int32) (W : fl_W) (h : fl_cal d 59 [.ref 68, .int v2, .int (Int32.ofInt 0)] W (fl_q1 fun x1 W1 => mi_br (x1 = (Int32.ofInt (-1))) (Q (some (.int (Int32.ofInt 0))) W1) (mi_br ((W1 9 11) = 0) (fl_cal d 59 [.ref 68, .int v2, .int (x1 + (Int32.ofInt 1))] W1 (fl_q1 fun x2 W2 => mi_br (x2 = (Int32.ofInt (-1))) (mi_br ((Int32.ofInt 1) = 0) (mi_br ((W2 9 10) = (Int32.ofInt (-1))) (∀ W15 : fl_W, W15 = fl_uw W2 9 8 v1 → ∀ W16 : fl_W, W16 = fl_uw W15 9 9 v2 → ∀ W17 : fl_W, W17 = fl_uw W16 9 10 x1 → ∀ W18 : fl_W, W18 = fl_uw W17 9 11 (Int32.ofInt 1) → Q (some (.int (Int32.ofInt 1))) W18) (Q (some (.int (Int32.ofInt 1))) W2)) (∀ W11 : fl_W, W11 = fl_uw W2 9 8 v1 → ∀ W12 : fl_W, W12 = fl_uw W11 9 9 v2 → ∀ W13 : fl_W, W13 = fl_uw W12 9 10 x1 → ∀ W14 : fl_W, W14 = fl_uw W13 9 11 (Int32.ofInt 1) → Q (some (.int (Int32.ofInt 1))) W14)) (mi_br ((Int32.ofInt 0) = 0) (mi_br ((W2 9 10) = (Int32.ofInt (-1))) (∀ W7 : fl_W, W7 = fl_uw W2 9 8 v1 → ∀ W8 : fl_W, W8 = fl_uw W7 9 9 v2 → ∀ W9 : fl_W, W9 = fl_uw W8 9 10 x1 → ∀ W10 : fl_W, W10 = fl_uw W9 9 11 (Int32.ofInt 0) → Q (some (.int (Int32.ofInt 1))) W10) (Q (some (.int (Int32.ofInt 1))) W2)) (∀ W3 : fl_W, W3 = fl_uw W2 9 8 v1 → ∀ W4 : fl_W, W4 = fl_uw W3 9 9 v2 → ∀ W5 : fl_W, W5 = fl_uw W4 9 10 x1 → ∀ W6 : fl_W, W6 = fl_uw W5 9 11 (Int32.ofInt 0) → Q (some (.int (Int32.ofInt 1))) W6)))) (Q (some (.int (Int32.ofInt 1))) W1)))) : fl_cal (d + 1) 34 [.ref 9, .int v1, .int v2] W Q := fl_intro [] (fl_fold (⟨rfl, ⟨Nat.le_of_ble_eq_true rfl, rfl, rfl, rfl, fl_c1 h (fun x1 W1 h => ⟨Nat.le_of_ble_eq_true rfl, ⟨fun q => have h := h.1 q; ⟨Or.inl rfl, h⟩, fun q => have h := h.2 q; ⟨rfl, ⟨fun q => have h := h.1 q; ⟨rfl, ⟨Nat.le_of_ble_eq_true rfl, rfl, rfl, rfl, fl_c1 h (fun x2 W2 h => ⟨fun q => have h := h.1 q; ⟨Nat.le_of_ble_eq_true rfl, ⟨fun q => have h := h.1 q; ⟨rfl, ⟨fun q => have h := h.1 q; ⟨rfl, trivial, have h := h _ rfl; ⟨rfl, trivial, have h := h _ rfl; ⟨rfl, trivial, have h := h _ rfl; ⟨rfl, Or.inr rfl, have h := h _ rfl; ⟨Or.inr rfl, h⟩⟩⟩⟩⟩, fun q => have h := h.2 q; ⟨Or.inr rfl, h⟩⟩⟩, fun q => have h := h.2 q; ⟨rfl, trivial, have h := h _ rfl; ⟨rfl, trivial, have h := h _ rfl; ⟨rfl, trivial, have h := h _ rfl; ⟨rfl, Or.inr rfl, have h := h _ rfl; ⟨Or.inr rfl, h⟩⟩⟩⟩⟩⟩⟩, fun q => have h := h.2 q; ⟨Nat.le_of_ble_eq_true rfl, ⟨fun q => have h := h.1 q; ⟨rfl, ⟨fun q => have h := h.1 q; ⟨rfl, trivial, have h := h _ rfl; ⟨rfl, trivial, have h := h _ rfl; ⟨rfl, trivial, have h := h _ rfl; ⟨rfl, Or.inl rfl, have h := h _ rfl; ⟨Or.inr rfl, h⟩⟩⟩⟩⟩, fun q => have h := h.2 q; ⟨Or.inr rfl, h⟩⟩⟩, fun q => have h := h.2 q; ⟨rfl, trivial, have h := h _ rfl; ⟨rfl, trivial, have h := h _ rfl; ⟨rfl, trivial, have h := h _ rfl; ⟨rfl, Or.inl rfl, have h := h _ rfl; ⟨Or.inr rfl, h⟩⟩⟩⟩⟩⟩⟩⟩)⟩⟩, fun q => have h := h.2 q; ⟨Or.inr rfl, h⟩⟩⟩⟩⟩)⟩⟩))
/-! 35 PlaneDesk$Layout.spread(I)I -/
def hd_35_4 (d : Nat) (Q : fl_R) (v2 v3 : Int32) (W : fl_W) : Prop := ∀ (o1 o4 : Option Value), fl_WP (fl_cal d) 35 [4] Q 4 [some (.ref 9), o1, some (.int v2), some (.int v3), o4] [] W
theorem sx_35_4 {d : Nat} {Q : fl_R} (v2 v3 : Int32) (W : fl_W) (h : mi_br (v3 < (Int8.ofInt 20).toInt32) (fl_cal d 47 [.ref 60, .int (v2 &&& ((W 9 7) ^^^ (Int32.ofInt (-1))))] W (fl_q1 fun x1 W1 => mi_br ((v2 ||| x1) = v2) (Q (some (.int v2)) W1) (hd_35_4 d Q (v2 ||| x1) (v3 + Int32.ofInt 1) W1))) (Q (some (.int v2)) W)) : hd_35_4 d Q v2 v3 W := fun o1 o4 => fl_fold (⟨fun q => have h := h.1 q; ⟨rfl, ⟨rfl, ⟨Nat.le_of_ble_eq_true rfl, rfl, rfl, rfl, fl_c1 h (fun x1 W1 h => ⟨Nat.le_of_ble_eq_true rfl, ⟨fun q => have h := h.1 q; ⟨trivial, h⟩, fun q => have h := h.2 q; ⟨Nat.le_of_ble_eq_true rfl, h _ _⟩⟩⟩)⟩⟩⟩, fun q => have h := h.2 q; ⟨trivial, h⟩⟩)
theorem sx_35 {d : Nat} {Q : fl_R} (v1 : Int32) (W : fl_W) (h : hd_35_4 d Q v1 (Int32.ofInt 0) W) : fl_cal (d + 1) 35 [.ref 9, .int v1] W Q := fl_intro [4] (fl_fold (⟨Nat.le_of_ble_eq_true rfl, ⟨Nat.le_of_ble_eq_true rfl, h _ _⟩⟩))
/-! 36 PlaneDesk$Layout.tellTurn()V -/
def hd_36_2 (d : Nat) (Q : fl_R) (v1 : Int32) (W : fl_W) : Prop := fl_WP (fl_cal d) 36 [2, 26] Q 2 [some (.ref 9), some (.int v1)] [] W
def hd_36_26 (d : Nat) (Q : fl_R) (v1 : Int32) (W : fl_W) : Prop := fl_WP (fl_cal d) 36 [2, 26] Q 26 [some (.ref 9), some (.int v1)] [] W
theorem sx_36_2 {d : Nat} {Q : fl_R} (v1 : Int32) (W : fl_W) (h : mi_br (v1 < (W 68 3)) (fl_cal d 37 [.ref 9, .int v1] W (fl_q0 fun W1 => hd_36_2 d Q (v1 + Int32.ofInt 1) W1)) (hd_36_26 d Q (Int32.ofInt 0) W)) : hd_36_2 d Q v1 W := fl_fold (⟨rfl, ⟨rfl, ⟨fun q => have h := h.1 q; ⟨Nat.le_of_ble_eq_true rfl, rfl, rfl, rfl, fl_c0 h (fun W1 h => h)⟩, fun q => have h := h.2 q; ⟨Nat.le_of_ble_eq_true rfl, h⟩⟩⟩⟩)
theorem sx_36_26 {d : Nat} {Q : fl_R} (v1 : Int32) (W : fl_W) (h : mi_br (v1 < (W 60 3)) (fl_cal d 38 [.ref 9, .int v1] W (fl_q0 fun W2 => hd_36_26 d Q (v1 + Int32.ofInt 1) W2)) (Q none W)) : hd_36_26 d Q v1 W := fl_fold (⟨rfl, ⟨rfl, ⟨fun q => have h := h.1 q; ⟨Nat.le_of_ble_eq_true rfl, rfl, rfl, rfl, fl_c0 h (fun W2 h => h)⟩, fun q => have h := h.2 q; ⟨rfl, h⟩⟩⟩⟩)
theorem sx_36 {d : Nat} {Q : fl_R} (W : fl_W) (h : hd_36_2 d Q (Int32.ofInt 0) W) : fl_cal (d + 1) 36 [.ref 9] W Q := fl_intro [2, 26] (fl_fold (⟨Nat.le_of_ble_eq_true rfl, h⟩))
/-! 37 PlaneDesk$Layout.tellRing(I)V -/
def hd_37_24 (d : Nat) (Q : fl_R) (v1 v2 v3 v4 : Int32) (W : fl_W) : Prop := ∀ (o5 : Option Value), fl_WP (fl_cal d) 37 [24] Q 24 [some (.ref 9), some (.int v1), some (.int v2), some (.int v3), some (.int v4), o5] [] W
theorem sx_37_24 {d : Nat} {Q : fl_R} (v1 v2 v3 v4 : Int32) (W : fl_W) (h : mi_br (v4 < v2) (fl_cal d 57 [.ref 68, .int v1, .int v4] W (fl_q1 fun x3 W3 => fl_cal d 42 [.ref 60, .int v3] W3 (fl_q1 fun x4 W4 => mi_br (x4 = 0) (hd_37_24 d Q v1 v2 x3 (v4 + Int32.ofInt 1) W4) (fl_cal d 42 [.ref 60, .int x3] W4 (fl_q1 fun x5 W5 => mi_br (x5 = 0) (hd_37_24 d Q v1 v2 x3 (v4 + Int32.ofInt 1) W5) (fl_cal d 58 [.ref 68, .int v1, .int v4] W5 (fl_q1 fun x6 W6 => fl_cal d 57 [.ref 68, .int v1, .int x6] W6 (fl_q1 fun x7 W7 => vp_in (((Int8.ofInt 20).toInt32 * x3) + v3) 400 ∧ (∀ W8 : fl_W, W8 = fl_uw W7 159 (((Int8.ofInt 20).toInt32 * x3) + v3).toNatClampNeg x7 → hd_37_24 d Q v1 v2 x3 (v4 + Int32.ofInt 1) W8))))))))) (Q none W)) : hd_37_24 d Q v1 v2 v3 v4 W := fun o5 => fl_fold (⟨fun q => have h := h.1 q; ⟨rfl, ⟨Nat.le_of_ble_eq_true rfl, rfl, rfl, rfl, fl_c1 h (fun x3 W3 h => ⟨Nat.le_of_ble_eq_true rfl, ⟨rfl, ⟨Nat.le_of_ble_eq_true rfl, rfl, rfl, rfl, fl_c1 h (fun x4 W4 h => ⟨fun q => have h := h.1 q; ⟨Nat.le_of_ble_eq_true rfl, h _⟩, fun q => have h := h.2 q; ⟨rfl, ⟨Nat.le_of_ble_eq_true rfl, rfl, rfl, rfl, fl_c1 h (fun x5 W5 h => ⟨fun q => have h := h.1 q; ⟨Nat.le_of_ble_eq_true rfl, h _⟩, fun q => have h := h.2 q; ⟨rfl, ⟨rfl, ⟨rfl, ⟨Nat.le_of_ble_eq_true rfl, rfl, rfl, rfl, fl_c1 h (fun x6 W6 h => ⟨Nat.le_of_ble_eq_true rfl, rfl, rfl, rfl, fl_c1 h (fun x7 W7 h => ⟨rfl, ⟨h.1, have h := h.2; have h := h _ rfl; ⟨Nat.le_of_ble_eq_true rfl, h _⟩⟩⟩)⟩)⟩⟩⟩⟩⟩)⟩⟩⟩)⟩⟩⟩)⟩⟩, fun q => have h := h.2 q; ⟨rfl, h⟩⟩)
theorem sx_37 {d : Nat} {Q : fl_R} (v1 : Int32) (W : fl_W) (h : fl_cal d 56 [.ref 68, .int v1] W (fl_q1 fun x1 W1 => fl_cal d 57 [.ref 68, .int v1, .int (x1 - (Int32.ofInt 1))] W1 (fl_q1 fun x2 W2 => hd_37_24 d Q v1 x1 x2 (Int32.ofInt 0) W2))) : fl_cal (d + 1) 37 [.ref 9, .int v1] W Q := fl_intro [24] (fl_fold (⟨rfl, ⟨Nat.le_of_ble_eq_true rfl, rfl, rfl, rfl, fl_c1 h (fun x1 W1 h => ⟨Nat.le_of_ble_eq_true rfl, ⟨rfl, ⟨Nat.le_of_ble_eq_true rfl, rfl, rfl, rfl, fl_c1 h (fun x2 W2 h => ⟨Nat.le_of_ble_eq_true rfl, ⟨Nat.le_of_ble_eq_true rfl, h _⟩⟩)⟩⟩⟩)⟩⟩))
/-! 38 PlaneDesk$Layout.tellAround(I)V -/
def hd_38_27 (d : Nat) (Q : fl_R) (v1 v2 v3 v4 : Int32) (W : fl_W) : Prop := fl_WP (fl_cal d) 38 [27] Q 27 [some (.ref 9), some (.int v1), some (.int v2), some (.int v3), some (.int v4)] [] W
theorem sx_38_27 {d : Nat} {Q : fl_R} (v1 v2 v3 v4 : Int32) (W : fl_W) (h : mi_br (v4 < v3) (fl_cal d 42 [.ref 60, .int v1] W (fl_q1 fun x5 W5 => mi_br (x5 = 0) (Q none W5) (fl_cal d 42 [.ref 60, .int v2] W5 (fl_q1 fun x6 W6 => mi_br (x6 = 0) (Q none W6) (fl_cal d 86 [.ref 18, .int v1, .int v2] W6 (fl_q0 fun W7 => vp_in (((Int8.ofInt 20).toInt32 * v1) + v2) 400 ∧ (hd_38_27 d Q v1 (W7 159 (((Int8.ofInt 20).toInt32 * v1) + v2).toNatClampNeg) v3 (v4 + Int32.ofInt 1) W7))))))) (Q none W)) : hd_38_27 d Q v1 v2 v3 v4 W := fl_fold (⟨fun q => have h := h.1 q; ⟨rfl, ⟨Nat.le_of_ble_eq_true rfl, rfl, rfl, rfl, fl_c1 h (fun x5 W5 h => ⟨fun q => have h := h.1 q; ⟨rfl, h⟩, fun q => have h := h.2 q; ⟨rfl, ⟨Nat.le_of_ble_eq_true rfl, rfl, rfl, rfl, fl_c1 h (fun x6 W6 h => ⟨fun q => have h := h.1 q; ⟨rfl, h⟩, fun q => have h := h.2 q; ⟨rfl, ⟨Nat.le_of_ble_eq_true rfl, rfl, rfl, rfl, fl_c0 h (fun W7 h => ⟨rfl, ⟨rfl, ⟨h.1, have h := h.2; ⟨Nat.le_of_ble_eq_true rfl, h⟩⟩⟩⟩)⟩⟩⟩)⟩⟩⟩)⟩⟩, fun q => have h := h.2 q; ⟨rfl, h⟩⟩)
theorem sx_38 {d : Nat} {Q : fl_R} (v1 : Int32) (W : fl_W) (h : fl_cal d 46 [.ref 60, .int v1] W (fl_q1 fun x1 W1 => fl_cal d 122 [.int x1] W1 (fl_q1 fun x2 W2 => fl_cal d 46 [.ref 60, .int v1] W2 (fl_q1 fun x3 W3 => fl_cal d 191 [.int x3] W3 (fl_q1 fun x4 W4 => hd_38_27 d Q v1 x2 x4 (Int32.ofInt 0) W4))))) : fl_cal (d + 1) 38 [.ref 9, .int v1] W Q := fl_intro [27] (fl_fold (⟨rfl, ⟨Nat.le_of_ble_eq_true rfl, rfl, rfl, rfl, fl_c1 h (fun x1 W1 h => ⟨Nat.le_of_ble_eq_true rfl, rfl, rfl, fl_c1 h (fun x2 W2 h => ⟨Nat.le_of_ble_eq_true rfl, ⟨rfl, ⟨Nat.le_of_ble_eq_true rfl, rfl, rfl, rfl, fl_c1 h (fun x3 W3 h => ⟨Nat.le_of_ble_eq_true rfl, rfl, rfl, fl_c1 h (fun x4 W4 h => ⟨Nat.le_of_ble_eq_true rfl, ⟨Nat.le_of_ble_eq_true rfl, h⟩⟩)⟩)⟩⟩⟩)⟩)⟩⟩))
/-! 91 PlaneDesk$Walks.find(LPlaneDesk$Net;LPlaneDesk$Turning;)V -/
def hd_91_7 (d : Nat) (Q : fl_R) (b : Nat) (t : Nat) (v3 : Int32) (W : fl_W) : Prop := ∀ (o4 o5 : Option Value), fl_WP (fl_cal d) 91 [7, 108] Q 7 [some (.ref 202), some (.ref b), some (.ref t), some (.int v3), o4, o5] [] W
def hd_91_108 (d : Nat) (Q : fl_R) (b : Nat) (t : Nat) (v3 : Int32) (W : fl_W) : Prop := ∀ (o2 o4 o5 : Option Value), fl_WP (fl_cal d) 91 [7, 108] Q 108 [some (.ref 202), some (.ref b), o2, some (.int v3), o4, o5] [] W
theorem sx_91_7 {d : Nat} {Q : fl_R} (b : Nat) (t : Nat) (v3 : Int32) (W : fl_W) (hb : fl_net b) (ht : fl_tur t) (h : mi_br (v3 < ((Int32.ofInt 2) * (W b 4))) (mi_br (v3 < (Int8.ofInt 120).toInt32) (fl_cal d 94 [.ref 202, .ref b, .int (v3 ^^^ (Int32.ofInt 1))] W (fl_q1 fun x1 W6 => fl_cal d 94 [.ref 202, .ref b, .int v3] W6 (fl_q1 fun x2 W7 => fl_cal d 89 [.ref t, .int x1, .int x2] W7 (fl_q1 fun x3 W8 => fl_cal d 48 [.ref b, .int x1, .int x3] W8 (fl_q1 fun x4 W9 => mi_br (x4 = 0) (vp_in v3 120 ∧ (∀ W10 : fl_W, W10 = fl_uw W9 203 v3.toNatClampNeg (Int32.ofInt (-1)) → vp_in v3 120 ∧ (∀ W11 : fl_W, W11 = fl_uw W10 205 v3.toNatClampNeg (Int32.ofInt (-1)) → hd_91_7 d Q b t (v3 + Int32.ofInt 1) W11))) (vp_in (((Int8.ofInt 20).toInt32 * x1) + x3) 400 ∧ (vp_in v3 120 ∧ (∀ W12 : fl_W, W12 = fl_uw W9 203 v3.toNatClampNeg (W9 204 (((Int8.ofInt 20).toInt32 * x1) + x3).toNatClampNeg) → vp_in v3 120 ∧ (∀ W13 : fl_W, W13 = fl_uw W12 205 v3.toNatClampNeg (Int32.ofInt (-1)) → hd_91_7 d Q b t (v3 + Int32.ofInt 1) W13))))))))) (∀ W4 : fl_W, W4 = fl_uw W 202 4 (Int32.ofInt 0) → fl_cal d 64 [.ref 206] W4 (fl_q0 fun W5 => hd_91_108 d Q b t (Int32.ofInt 0) W5))) (∀ W2 : fl_W, W2 = fl_uw W 202 4 (Int32.ofInt 0) → fl_cal d 64 [.ref 206] W2 (fl_q0 fun W3 => hd_91_108 d Q b t (Int32.ofInt 0) W3))) : hd_91_7 d Q b t v3 W := fun o4 o5 => fl_fold (⟨nt_I4 hb, ⟨fun q => have h := h.1 q; ⟨fun q => have h := h.1 q; ⟨Nat.le_of_ble_eq_true rfl, rfl, rfl, rfl, fl_c1 h (fun x1 W6 h => ⟨Nat.le_of_ble_eq_true rfl, ⟨Nat.le_of_ble_eq_true rfl, rfl, rfl, rfl, fl_c1 h (fun x2 W7 h => ⟨Nat.le_of_ble_eq_true rfl, rfl, rfl, tu_is ht, fl_c1 h (fun x3 W8 h => ⟨Nat.le_of_ble_eq_true rfl, ⟨rfl, ⟨Nat.le_of_ble_eq_true rfl, rfl, rfl, nt_is hb, fl_c1 h (fun x4 W9 h => ⟨fun q => have h := h.1 q; ⟨rfl, ⟨h.1, have h := h.2; have h := h _ rfl; ⟨rfl, ⟨rfl, ⟨h.1, have h := h.2; have h := h _ rfl; h _ _⟩⟩⟩⟩⟩, fun q => have h := h.2 q; ⟨rfl, ⟨rfl, ⟨h.1, have h := h.2; ⟨rfl, ⟨h.1, have h := h.2; have h := h _ rfl; ⟨rfl, ⟨rfl, ⟨h.1, have h := h.2; have h := h _ rfl; h _ _⟩⟩⟩⟩⟩⟩⟩⟩⟩)⟩⟩⟩)⟩)⟩⟩)⟩, fun q => have h := h.2 q; ⟨rfl, trivial, have h := h _ rfl; ⟨rfl, ⟨Nat.le_of_ble_eq_true rfl, rfl, rfl, rfl, fl_c0 h (fun W5 h => ⟨Nat.le_of_ble_eq_true rfl, h _ _ _⟩)⟩⟩⟩⟩, fun q => have h := h.2 q; ⟨rfl, trivial, have h := h _ rfl; ⟨rfl, ⟨Nat.le_of_ble_eq_true rfl, rfl, rfl, rfl, fl_c0 h (fun W3 h => ⟨Nat.le_of_ble_eq_true rfl, h _ _ _⟩)⟩⟩⟩⟩⟩)
theorem sx_91_108 {d : Nat} {Q : fl_R} (b : Nat) (t : Nat) (v3 : Int32) (W : fl_W) (hb : fl_net b) (ht : fl_tur t) (h : mi_br (v3 < ((Int32.ofInt 2) * (W b 4))) (mi_br (v3 < (Int8.ofInt 120).toInt32) (vp_in v3 120 ∧ (mi_br ((W 205 v3.toNatClampNeg) = (Int32.ofInt (-1))) (fl_cal d 93 [.ref 202, .int v3] W (fl_q0 fun W14 => hd_91_108 d Q b t (v3 + Int32.ofInt 1) W14)) (hd_91_108 d Q b t (v3 + Int32.ofInt 1) W))) (Q none W)) (Q none W)) : hd_91_108 d Q b t v3 W := fun o2 o4 o5 => fl_fold (⟨nt_I4 hb, ⟨fun q => have h := h.1 q; ⟨fun q => have h := h.1 q; ⟨rfl, ⟨rfl, ⟨h.1, have h := h.2; ⟨fun q => have h := h.1 q; ⟨Nat.le_of_ble_eq_true rfl, rfl, rfl, rfl, fl_c0 h (fun W14 h => h _ _ _)⟩, fun q => have h := h.2 q; h _ _ _⟩⟩⟩⟩, fun q => have h := h.2 q; ⟨rfl, h⟩⟩, fun q => have h := h.2 q; ⟨rfl, h⟩⟩⟩)
theorem sx_91 {d : Nat} {Q : fl_R} (b : Nat) (t : Nat) (W : fl_W) (hb : fl_net b) (ht : fl_tur t) (h : fl_cal d 92 [.ref 202, .ref b] W (fl_q0 fun W1 => hd_91_7 d Q b t (Int32.ofInt 0) W1)) : fl_cal (d + 1) 91 [.ref 202, .ref b, .ref t] W Q := fl_intro [7, 108] (fl_fold (⟨Nat.le_of_ble_eq_true rfl, rfl, rfl, rfl, fl_c0 h (fun W1 h => ⟨Nat.le_of_ble_eq_true rfl, h _ _⟩)⟩))
/-! 92 PlaneDesk$Walks.nameDarts(LPlaneDesk$Net;)V -/
def hd_92_2 (d : Nat) (Q : fl_R) (b : Nat) (v2 : Int32) (W : fl_W) : Prop := ∀ (o3 o4 : Option Value), fl_WP (fl_cal d) 92 [2] Q 2 [some (.ref 202), some (.ref b), some (.int v2), o3, o4] [] W
theorem sx_92_2 {d : Nat} {Q : fl_R} (b : Nat) (v2 : Int32) (W : fl_W) (hb : fl_net b) (h : mi_br (v2 < (W b 4)) (fl_cal d 44 [.ref b, .int v2] W (fl_q1 fun x1 W1 => fl_cal d 45 [.ref b, .int v2] W1 (fl_q1 fun x2 W2 => fl_cal d 42 [.ref b, .int x1] W2 (fl_q1 fun x3 W3 => mi_br (x3 = 0) (hd_92_2 d Q b (v2 + Int32.ofInt 1) W3) (fl_cal d 42 [.ref b, .int x2] W3 (fl_q1 fun x4 W4 => mi_br (x4 = 0) (hd_92_2 d Q b (v2 + Int32.ofInt 1) W4) (vp_in (((Int8.ofInt 20).toInt32 * x1) + x2) 400 ∧ (∀ W5 : fl_W, W5 = fl_uw W4 204 (((Int8.ofInt 20).toInt32 * x1) + x2).toNatClampNeg ((Int32.ofInt 2) * v2) → vp_in (((Int8.ofInt 20).toInt32 * x2) + x1) 400 ∧ (∀ W6 : fl_W, W6 = fl_uw W5 204 (((Int8.ofInt 20).toInt32 * x2) + x1).toNatClampNeg (((Int32.ofInt 2) * v2) + (Int32.ofInt 1)) → hd_92_2 d Q b (v2 + Int32.ofInt 1) W6))))))))) (Q none W)) : hd_92_2 d Q b v2 W := fun o3 o4 => fl_fold (⟨nt_I4 hb, ⟨fun q => have h := h.1 q; ⟨Nat.le_of_ble_eq_true rfl, rfl, rfl, nt_is hb, fl_c1 h (fun x1 W1 h => ⟨Nat.le_of_ble_eq_true rfl, ⟨Nat.le_of_ble_eq_true rfl, rfl, rfl, nt_is hb, fl_c1 h (fun x2 W2 h => ⟨Nat.le_of_ble_eq_true rfl, ⟨Nat.le_of_ble_eq_true rfl, rfl, rfl, nt_is hb, fl_c1 h (fun x3 W3 h => ⟨fun q => have h := h.1 q; h _ _, fun q => have h := h.2 q; ⟨Nat.le_of_ble_eq_true rfl, rfl, rfl, nt_is hb, fl_c1 h (fun x4 W4 h => ⟨fun q => have h := h.1 q; h _ _, fun q => have h := h.2 q; ⟨rfl, ⟨rfl, ⟨h.1, have h := h.2; have h := h _ rfl; ⟨rfl, ⟨rfl, ⟨h.1, have h := h.2; have h := h _ rfl; h _ _⟩⟩⟩⟩⟩⟩⟩)⟩⟩)⟩⟩)⟩⟩)⟩, fun q => have h := h.2 q; ⟨rfl, h⟩⟩⟩)
theorem sx_92 {d : Nat} {Q : fl_R} (b : Nat) (W : fl_W) (hb : fl_net b) (h : hd_92_2 d Q b (Int32.ofInt 0) W) : fl_cal (d + 1) 92 [.ref 202, .ref b] W Q := fl_intro [2] (fl_fold (⟨Nat.le_of_ble_eq_true rfl, h _ _⟩))
/-! 93 PlaneDesk$Walks.goRound(I)V -/
def hd_93_4 (d : Nat) (Q : fl_R) (v1 v2 v3 : Int32) (W : fl_W) : Prop := fl_WP (fl_cal d) 93 [4] Q 4 [some (.ref 202), some (.int v1), some (.int v2), some (.int v3)] [] W
theorem sx_93_4 {d : Nat} {Q : fl_R} (v1 v2 v3 : Int32) (W : fl_W) (h : mi_br (v3 < (Int8.ofInt 120).toInt32) (mi_br (v2 < 0) (fl_cal d 65 [.ref 206, .int v1] W (fl_q0 fun W3 => ∀ W4 : fl_W, W4 = fl_uw W3 202 4 ((W3 202 4) + (Int32.ofInt 1)) → Q none W4)) (mi_br (v2 < (Int8.ofInt 120).toInt32) (vp_in v2 120 ∧ (mi_br ((W 205 v2.toNatClampNeg) = (Int32.ofInt (-1))) (vp_in v2 120 ∧ (∀ W7 : fl_W, W7 = fl_uw W 205 v2.toNatClampNeg (W 202 4) → vp_in v2 120 ∧ (hd_93_4 d Q v1 (W7 203 v2.toNatClampNeg) (v3 + Int32.ofInt 1) W7))) (fl_cal d 65 [.ref 206, .int v1] W (fl_q0 fun W8 => ∀ W9 : fl_W, W9 = fl_uw W8 202 4 ((W8 202 4) + (Int32.ofInt 1)) → Q none W9)))) (fl_cal d 65 [.ref 206, .int v1] W (fl_q0 fun W5 => ∀ W6 : fl_W, W6 = fl_uw W5 202 4 ((W5 202 4) + (Int32.ofInt 1)) → Q none W6)))) (fl_cal d 65 [.ref 206, .int v1] W (fl_q0 fun W1 => ∀ W2 : fl_W, W2 = fl_uw W1 202 4 ((W1 202 4) + (Int32.ofInt 1)) → Q none W2))) : hd_93_4 d Q v1 v2 v3 W := fl_fold (⟨fun q => have h := h.1 q; ⟨fun q => have h := h.1 q; ⟨rfl, ⟨Nat.le_of_ble_eq_true rfl, rfl, rfl, rfl, fl_c0 h (fun W3 h => ⟨rfl, ⟨rfl, ⟨rfl, trivial, have h := h _ rfl; ⟨rfl, h⟩⟩⟩⟩)⟩⟩, fun q => have h := h.2 q; ⟨fun q => have h := h.1 q; ⟨rfl, ⟨rfl, ⟨h.1, have h := h.2; ⟨fun q => have h := h.1 q; ⟨rfl, ⟨rfl, ⟨rfl, ⟨h.1, have h := h.2; have h := h _ rfl; ⟨rfl, ⟨rfl, ⟨h.1, have h := h.2; ⟨Nat.le_of_ble_eq_true rfl, h⟩⟩⟩⟩⟩⟩⟩⟩, fun q => have h := h.2 q; ⟨rfl, ⟨Nat.le_of_ble_eq_true rfl, rfl, rfl, rfl, fl_c0 h (fun W8 h => ⟨rfl, ⟨rfl, ⟨rfl, trivial, have h := h _ rfl; ⟨rfl, h⟩⟩⟩⟩)⟩⟩⟩⟩⟩⟩, fun q => have h := h.2 q; ⟨rfl, ⟨Nat.le_of_ble_eq_true rfl, rfl, rfl, rfl, fl_c0 h (fun W5 h => ⟨rfl, ⟨rfl, ⟨rfl, trivial, have h := h _ rfl; ⟨rfl, h⟩⟩⟩⟩)⟩⟩⟩⟩, fun q => have h := h.2 q; ⟨rfl, ⟨Nat.le_of_ble_eq_true rfl, rfl, rfl, rfl, fl_c0 h (fun W1 h => ⟨rfl, ⟨rfl, ⟨rfl, trivial, have h := h _ rfl; ⟨rfl, h⟩⟩⟩⟩)⟩⟩⟩)
theorem sx_93 {d : Nat} {Q : fl_R} (v1 : Int32) (W : fl_W) (h : hd_93_4 d Q v1 v1 (Int32.ofInt 0) W) : fl_cal (d + 1) 93 [.ref 202, .int v1] W Q := fl_intro [4] (fl_fold (⟨Nat.le_of_ble_eq_true rfl, ⟨Nat.le_of_ble_eq_true rfl, h⟩⟩))
/-! 94 PlaneDesk$Walks.beginOf(LPlaneDesk$Net;I)I -/
theorem sx_94 {d : Nat} {Q : fl_R} (b : Nat) (v2 : Int32) (W : fl_W) (hb : fl_net b) (h : mi_br ((v2 &&& (Int32.ofInt 1)) = 0) (fl_cal d 44 [.ref b, .int (v2 >>> ((Int32.ofInt 1) &&& 31))] W (fl_q1 fun x2 W2 => Q (some (.int x2)) W2)) (fl_cal d 45 [.ref b, .int (v2 >>> ((Int32.ofInt 1) &&& 31))] W (fl_q1 fun x1 W1 => Q (some (.int x1)) W1))) : fl_cal (d + 1) 94 [.ref 202, .ref b, .int v2] W Q := fl_intro [] (fl_fold (⟨fun q => have h := h.1 q; ⟨Nat.le_of_ble_eq_true rfl, rfl, rfl, nt_is hb, fl_c1 h (fun x2 W2 h => ⟨trivial, h⟩)⟩, fun q => have h := h.2 q; ⟨Nat.le_of_ble_eq_true rfl, rfl, rfl, nt_is hb, fl_c1 h (fun x1 W1 h => ⟨trivial, h⟩)⟩⟩))
/-! 95 PlaneDesk$Walks.beginning(LPlaneDesk$Net;II)I -/
def hd_95_35 (d : Nat) (Q : fl_R) (b : Nat) (v3 v4 v5 v6 : Int32) (W : fl_W) : Prop := ∀ (o2 : Option Value), fl_WP (fl_cal d) 95 [35] Q 35 [some (.ref 202), some (.ref b), o2, some (.int v3), some (.int v4), some (.int v5), some (.int v6)] [] W
theorem sx_95_35 {d : Nat} {Q : fl_R} (b : Nat) (v3 v4 v5 v6 : Int32) (W : fl_W) (hb : fl_net b) (h : mi_br (v6 < v3) (mi_br (v5 < 0) (Q (some (.int (Int32.ofInt (-1)))) W) (mi_br (v5 < (Int8.ofInt 120).toInt32) (vp_in v5 120 ∧ (mi_br ((W 203 v5.toNatClampNeg) = v4) (Q (some (.int (Int32.ofInt (-1)))) W) (hd_95_35 d Q b v3 v4 (W 203 v5.toNatClampNeg) (v6 + Int32.ofInt 1) W))) (Q (some (.int (Int32.ofInt (-1)))) W))) (fl_cal d 94 [.ref 202, .ref b, .int v5] W (fl_q1 fun x2 W2 => Q (some (.int x2)) W2))) : hd_95_35 d Q b v3 v4 v5 v6 W := fun o2 => fl_fold (⟨fun q => have h := h.1 q; ⟨fun q => have h := h.1 q; ⟨trivial, h⟩, fun q => have h := h.2 q; ⟨fun q => have h := h.1 q; ⟨rfl, ⟨rfl, ⟨h.1, have h := h.2; ⟨Nat.le_of_ble_eq_true rfl, ⟨fun q => have h := h.1 q; ⟨trivial, h⟩, fun q => have h := h.2 q; h _⟩⟩⟩⟩⟩, fun q => have h := h.2 q; ⟨trivial, h⟩⟩⟩, fun q => have h := h.2 q; ⟨Nat.le_of_ble_eq_true rfl, rfl, rfl, rfl, fl_c1 h (fun x2 W2 h => ⟨trivial, h⟩)⟩⟩)
theorem sx_95 {d : Nat} {Q : fl_R} (b : Nat) (v2 v3 : Int32) (W : fl_W) (hb : fl_net b) (h : fl_cal d 66 [.ref 206, .int v2] W (fl_q1 fun x1 W1 => mi_br (v3 < 0) (Q (some (.int (Int32.ofInt (-1)))) W1) (mi_br (v3 < (Int8.ofInt 120).toInt32) (mi_br (x1 = (Int32.ofInt (-1))) (Q (some (.int (Int32.ofInt (-1)))) W1) (hd_95_35 d Q b v3 x1 x1 (Int32.ofInt 0) W1)) (Q (some (.int (Int32.ofInt (-1)))) W1)))) : fl_cal (d + 1) 95 [.ref 202, .ref b, .int v2, .int v3] W Q := fl_intro [35] (fl_fold (⟨rfl, ⟨Nat.le_of_ble_eq_true rfl, rfl, rfl, rfl, fl_c1 h (fun x1 W1 h => ⟨Nat.le_of_ble_eq_true rfl, ⟨fun q => have h := h.1 q; ⟨trivial, h⟩, fun q => have h := h.2 q; ⟨fun q => have h := h.1 q; ⟨fun q => have h := h.1 q; ⟨trivial, h⟩, fun q => have h := h.2 q; ⟨Nat.le_of_ble_eq_true rfl, ⟨Nat.le_of_ble_eq_true rfl, h _⟩⟩⟩, fun q => have h := h.2 q; ⟨trivial, h⟩⟩⟩⟩)⟩⟩))
/-! 97 PlaneDesk.graph(I)Z -/
theorem sx_97 {d : Nat} {Q : fl_R} (v1 : Int32) (W : fl_W) (h : mi_br (v1 < 0) (Q (some (.int (Int32.ofInt 0))) W) (mi_br (v1 ≤ (Int8.ofInt 20).toInt32) (fl_cal d 40 [.ref 1, .int v1] W (fl_q0 fun W1 => fl_cal d 115 [.ref 0] W1 (fl_q0 fun W2 => Q (some (.int (Int32.ofInt 1))) W2))) (Q (some (.int (Int32.ofInt 0))) W))) : fl_cal (d + 1) 97 [.ref 0, .int v1] W Q := fl_intro [] (fl_fold (⟨fun q => have h := h.1 q; ⟨Or.inl rfl, h⟩, fun q => have h := h.2 q; ⟨fun q => have h := h.1 q; ⟨rfl, ⟨Nat.le_of_ble_eq_true rfl, rfl, rfl, rfl, fl_c0 h (fun W1 h => ⟨Nat.le_of_ble_eq_true rfl, rfl, rfl, rfl, fl_c0 h (fun W2 h => ⟨Or.inr rfl, h⟩)⟩)⟩⟩, fun q => have h := h.2 q; ⟨Or.inl rfl, h⟩⟩⟩))
/-! 98 PlaneDesk.join(II)I -/
theorem sx_98 {d : Nat} {Q : fl_R} (v1 v2 : Int32) (W : fl_W) (h : fl_cal d 49 [.ref 1, .int v1, .int v2] W (fl_q1 fun x1 W1 => mi_br (x1 = 0) (Q (some (.int (Int32.ofInt (-1)))) W1) (fl_cal d 50 [.ref 1, .int v1, .int v2] W1 (fl_q0 fun W2 => fl_cal d 115 [.ref 0] W2 (fl_q0 fun W3 => Q (some (.int ((W3 1 4) - (Int32.ofInt 1)))) W3))))) : fl_cal (d + 1) 98 [.ref 0, .int v1, .int v2] W Q := fl_intro [] (fl_fold (⟨rfl, ⟨Nat.le_of_ble_eq_true rfl, rfl, rfl, rfl, fl_c1 h (fun x1 W1 h => ⟨fun q => have h := h.1 q; ⟨trivial, h⟩, fun q => have h := h.2 q; ⟨rfl, ⟨Nat.le_of_ble_eq_true rfl, rfl, rfl, rfl, fl_c0 h (fun W2 h => ⟨Nat.le_of_ble_eq_true rfl, rfl, rfl, rfl, fl_c0 h (fun W3 h => ⟨rfl, ⟨rfl, ⟨trivial, h⟩⟩⟩)⟩)⟩⟩⟩)⟩⟩))
/-! 99 PlaneDesk.cut(I)Z -/
theorem sx_99 {d : Nat} {Q : fl_R} (v1 : Int32) (W : fl_W) (h : fl_cal d 43 [.ref 1, .int v1] W (fl_q1 fun x1 W1 => mi_br (x1 = 0) (Q (some (.int (Int32.ofInt 0))) W1) (fl_cal d 51 [.ref 1, .int v1] W1 (fl_q0 fun W2 => fl_cal d 115 [.ref 0] W2 (fl_q0 fun W3 => Q (some (.int (Int32.ofInt 1))) W3))))) : fl_cal (d + 1) 99 [.ref 0, .int v1] W Q := fl_intro [] (fl_fold (⟨rfl, ⟨Nat.le_of_ble_eq_true rfl, rfl, rfl, rfl, fl_c1 h (fun x1 W1 h => ⟨fun q => have h := h.1 q; ⟨Or.inl rfl, h⟩, fun q => have h := h.2 q; ⟨rfl, ⟨Nat.le_of_ble_eq_true rfl, rfl, rfl, rfl, fl_c0 h (fun W2 h => ⟨Nat.le_of_ble_eq_true rfl, rfl, rfl, rfl, fl_c0 h (fun W3 h => ⟨Or.inr rfl, h⟩)⟩)⟩⟩⟩)⟩⟩))
/-! 100 PlaneDesk.edge(II)I -/
theorem sx_100 {d : Nat} {Q : fl_R} (v1 v2 : Int32) (W : fl_W) (h : fl_cal d 43 [.ref 1, .int v1] W (fl_q1 fun x1 W1 => mi_br (x1 = 0) (Q (some (.int (Int32.ofInt (-1)))) W1) ((v2 = Int32.ofNat 0 → fl_cal d 44 [.ref 1, .int v1] W1 (fl_q1 fun x2 W2 => Q (some (.int x2)) W2)) ∧ (v2 = Int32.ofNat 1 → fl_cal d 45 [.ref 1, .int v1] W1 (fl_q1 fun x3 W3 => Q (some (.int x3)) W3)) ∧ (v2 = Int32.ofNat 2 → fl_cal d 2 [.ref 10, .ref 1] W1 (fl_q0 fun W4 => fl_cal d 1 [.ref 10, .int v1] W4 (fl_q1 fun x4 W5 => Q (some (.int x4)) W5))) ∧ ((¬ v2 = Int32.ofNat 0 ∧ ¬ v2 = Int32.ofNat 1 ∧ ¬ v2 = Int32.ofNat 2) → Q (some (.int (Int32.ofInt (-1)))) W1)))) : fl_cal (d + 1) 100 [.ref 0, .int v1, .int v2] W Q := fl_intro [] (fl_fold (⟨rfl, ⟨Nat.le_of_ble_eq_true rfl, rfl, rfl, rfl, fl_c1 h (fun x1 W1 h => ⟨fun q => have h := h.1 q; ⟨trivial, h⟩, fun q => have h := h.2 q; fl_ts3 (fun q => have h := (h.1) q; ⟨by decide, ⟨rfl, ⟨Nat.le_of_ble_eq_true rfl, rfl, rfl, rfl, fl_c1 h (fun x2 W2 h => ⟨trivial, h⟩)⟩⟩⟩) (fun q => have h := (h.2.1) q; ⟨by decide, ⟨rfl, ⟨Nat.le_of_ble_eq_true rfl, rfl, rfl, rfl, fl_c1 h (fun x3 W3 h => ⟨trivial, h⟩)⟩⟩⟩) (fun q => have h := (h.2.2.1) q; ⟨by decide, ⟨rfl, ⟨rfl, ⟨rfl, ⟨Nat.le_of_ble_eq_true rfl, rfl, rfl, rfl, fl_c0 h (fun W4 h => ⟨rfl, ⟨rfl, ⟨Nat.le_of_ble_eq_true rfl, rfl, rfl, rfl, fl_c1 h (fun x4 W5 h => ⟨trivial, h⟩)⟩⟩⟩)⟩⟩⟩⟩⟩) (fun q => have h := (h.2.2.2) q; ⟨by decide, ⟨trivial, h⟩⟩)⟩)⟩⟩))
/-! 101 PlaneDesk.about(I)I -/
theorem sx_101 {d : Nat} {Q : fl_R} (v1 : Int32) (W : fl_W) (h : (v1 = Int32.ofNat 0 → Q (some (.int (W 1 3))) W) ∧ (v1 = Int32.ofNat 1 → Q (some (.int (W 1 4))) W) ∧ (v1 = Int32.ofNat 2 → fl_cal d 2 [.ref 10, .ref 1] W (fl_q0 fun W1 => Q (some (.int (W1 10 7))) W1)) ∧ (v1 = Int32.ofNat 3 → fl_cal d 52 [.ref 1] W (fl_q1 fun x1 W2 => Q (some (.int x1)) W2)) ∧ (v1 = Int32.ofNat 4 → fl_cal d 2 [.ref 10, .ref 1] W (fl_q0 fun W3 => Q (some (.int (W3 10 8))) W3)) ∧ (v1 = Int32.ofNat 5 → fl_cal d 116 [.ref 0] W (fl_q1 fun x2 W4 => mi_br (x2 = 0) (Q (some (.int (Int32.ofInt 0))) W4) (Q (some (.int (Int32.ofInt 1))) W4))) ∧ ((¬ v1 = Int32.ofNat 0 ∧ ¬ v1 = Int32.ofNat 1 ∧ ¬ v1 = Int32.ofNat 2 ∧ ¬ v1 = Int32.ofNat 3 ∧ ¬ v1 = Int32.ofNat 4 ∧ ¬ v1 = Int32.ofNat 5) → Q (some (.int (Int32.ofInt (-1)))) W)) : fl_cal (d + 1) 101 [.ref 0, .int v1] W Q := fl_intro [] (fl_fold (fl_ts6 (fun q => have h := (h.1) q; ⟨by decide, ⟨rfl, ⟨rfl, ⟨trivial, h⟩⟩⟩⟩) (fun q => have h := (h.2.1) q; ⟨by decide, ⟨rfl, ⟨rfl, ⟨trivial, h⟩⟩⟩⟩) (fun q => have h := (h.2.2.1) q; ⟨by decide, ⟨rfl, ⟨rfl, ⟨rfl, ⟨Nat.le_of_ble_eq_true rfl, rfl, rfl, rfl, fl_c0 h (fun W1 h => ⟨rfl, ⟨rfl, ⟨rfl, ⟨trivial, h⟩⟩⟩⟩)⟩⟩⟩⟩⟩) (fun q => have h := (h.2.2.2.1) q; ⟨by decide, ⟨rfl, ⟨Nat.le_of_ble_eq_true rfl, rfl, rfl, rfl, fl_c1 h (fun x1 W2 h => ⟨trivial, h⟩)⟩⟩⟩) (fun q => have h := (h.2.2.2.2.1) q; ⟨by decide, ⟨rfl, ⟨rfl, ⟨rfl, ⟨Nat.le_of_ble_eq_true rfl, rfl, rfl, rfl, fl_c0 h (fun W3 h => ⟨rfl, ⟨rfl, ⟨rfl, ⟨trivial, h⟩⟩⟩⟩)⟩⟩⟩⟩⟩) (fun q => have h := (h.2.2.2.2.2.1) q; ⟨by decide, ⟨Nat.le_of_ble_eq_true rfl, rfl, rfl, rfl, fl_c1 h (fun x2 W4 h => ⟨fun q => have h := h.1 q; ⟨trivial, h⟩, fun q => have h := h.2 q; ⟨trivial, h⟩⟩)⟩⟩) (fun q => have h := (h.2.2.2.2.2.2) q; ⟨by decide, ⟨trivial, h⟩⟩)))
/-! 102 PlaneDesk.lay()I -/
theorem sx_102 {d : Nat} {Q : fl_R} (W : fl_W) (h : fl_cal d 117 [.ref 0] W (fl_q1 fun x1 W1 => mi_br (x1 = 0) (mi_br ((W1 0 9) = 0) (fl_cal d 80 [.ref 208, .ref 1, .ref 5, .ref 9] W1 (fl_q0 fun W2 => ∀ W3 : fl_W, W3 = fl_uw W2 0 9 (Int32.ofInt 1) → Q (some (.int (Int32.ofInt (-1)))) W3)) (Q (some (.int (Int32.ofInt (-1)))) W1)) (Q (some (.int (W1 202 4))) W1))) : fl_cal (d + 1) 102 [.ref 0] W Q := fl_intro [] (fl_fold (⟨Nat.le_of_ble_eq_true rfl, rfl, rfl, rfl, fl_c1 h (fun x1 W1 h => ⟨fun q => have h := h.1 q; ⟨rfl, ⟨fun q => have h := h.1 q; ⟨rfl, ⟨rfl, ⟨rfl, ⟨rfl, ⟨Nat.le_of_ble_eq_true rfl, rfl, rfl, rfl, fl_c0 h (fun W2 h => ⟨rfl, Or.inr rfl, have h := h _ rfl; ⟨trivial, h⟩⟩)⟩⟩⟩⟩⟩, fun q => have h := h.2 q; ⟨trivial, h⟩⟩⟩, fun q => have h := h.2 q; ⟨rfl, ⟨rfl, ⟨trivial, h⟩⟩⟩⟩)⟩))
/-! 103 PlaneDesk.turn(II)I -/
theorem sx_103 {d : Nat} {Q : fl_R} (v1 v2 : Int32) (W : fl_W) (h : mi_br ((W 0 8) = 0) (Q (some (.int (Int32.ofInt (-1)))) W) (fl_cal d 87 [.ref 160, .int v1, .int v2] W (fl_q1 fun x1 W1 => Q (some (.int x1)) W1))) : fl_cal (d + 1) 103 [.ref 0, .int v1, .int v2] W Q := fl_intro [] (fl_fold (⟨rfl, ⟨fun q => have h := h.1 q; ⟨trivial, h⟩, fun q => have h := h.2 q; ⟨rfl, ⟨Nat.le_of_ble_eq_true rfl, rfl, rfl, rfl, fl_c1 h (fun x1 W1 h => ⟨trivial, h⟩)⟩⟩⟩⟩))
/-! 104 PlaneDesk.swap(III)Z -/
theorem sx_104 {d : Nat} {Q : fl_R} (v1 v2 v3 : Int32) (W : fl_W) (h : mi_br ((W 0 8) = 0) (Q (some (.int (Int32.ofInt 0))) W) (fl_cal d 88 [.ref 160, .int v1, .int v2, .int v3] W (fl_q1 fun x1 W1 => mi_br (x1 = 0) (Q (some (.int (Int32.ofInt 0))) W1) (fl_cal d 91 [.ref 202, .ref 1, .ref 160] W1 (fl_q0 fun W2 => Q (some (.int (Int32.ofInt 1))) W2))))) : fl_cal (d + 1) 104 [.ref 0, .int v1, .int v2, .int v3] W Q := fl_intro [] (fl_fold (⟨rfl, ⟨fun q => have h := h.1 q; ⟨Or.inl rfl, h⟩, fun q => have h := h.2 q; ⟨rfl, ⟨Nat.le_of_ble_eq_true rfl, rfl, rfl, rfl, fl_c1 h (fun x1 W1 h => ⟨fun q => have h := h.1 q; ⟨Or.inl rfl, h⟩, fun q => have h := h.2 q; ⟨rfl, ⟨rfl, ⟨rfl, ⟨Nat.le_of_ble_eq_true rfl, rfl, rfl, rfl, fl_c0 h (fun W2 h => ⟨Or.inr rfl, h⟩)⟩⟩⟩⟩⟩)⟩⟩⟩⟩))
/-! 105 PlaneDesk.faces()I -/
theorem sx_105 {d : Nat} {Q : fl_R} (W : fl_W) (h : mi_br ((W 0 8) = 0) (Q (some (.int (Int32.ofInt (-1)))) W) (Q (some (.int (W 202 4))) W)) : fl_cal (d + 1) 105 [.ref 0] W Q := fl_intro [] (fl_fold (⟨rfl, ⟨fun q => have h := h.1 q; ⟨trivial, h⟩, fun q => have h := h.2 q; ⟨rfl, ⟨rfl, ⟨trivial, h⟩⟩⟩⟩⟩))
/-! 106 PlaneDesk.face(II)I -/
theorem sx_106 {d : Nat} {Q : fl_R} (v1 v2 : Int32) (W : fl_W) (h : mi_br ((W 0 8) = 0) (Q (some (.int (Int32.ofInt (-1)))) W) (fl_cal d 95 [.ref 202, .ref 1, .int v1, .int v2] W (fl_q1 fun x1 W1 => Q (some (.int x1)) W1))) : fl_cal (d + 1) 106 [.ref 0, .int v1, .int v2] W Q := fl_intro [] (fl_fold (⟨rfl, ⟨fun q => have h := h.1 q; ⟨trivial, h⟩, fun q => have h := h.2 q; ⟨rfl, ⟨rfl, ⟨Nat.le_of_ble_eq_true rfl, rfl, rfl, rfl, fl_c1 h (fun x1 W1 h => ⟨trivial, h⟩)⟩⟩⟩⟩⟩))
/-! 107 PlaneDesk.genus()I -/
theorem sx_107 {d : Nat} {Q : fl_R} (W : fl_W) (h : mi_br ((W 0 8) = 0) (Q (some (.int (Int32.ofInt (-1)))) W) (fl_cal d 2 [.ref 10, .ref 1] W (fl_q0 fun W1 => fl_cal d 52 [.ref 1] W1 (fl_q1 fun x1 W2 => Q (some (.int (((((((Int32.ofInt 2) * (W1 10 7)) - x1) - (W2 1 3)) + (W2 1 4)) - (W2 202 4)) / (Int32.ofInt 2)))) W2)))) : fl_cal (d + 1) 107 [.ref 0] W Q := fl_intro [] (fl_fold (⟨rfl, ⟨fun q => have h := h.1 q; ⟨trivial, h⟩, fun q => have h := h.2 q; ⟨rfl, ⟨rfl, ⟨rfl, ⟨Nat.le_of_ble_eq_true rfl, rfl, rfl, rfl, fl_c0 h (fun W1 h => ⟨rfl, ⟨rfl, ⟨rfl, ⟨rfl, ⟨Nat.le_of_ble_eq_true rfl, rfl, rfl, rfl, fl_c1 h (fun x1 W2 h => ⟨rfl, ⟨rfl, ⟨rfl, ⟨rfl, ⟨rfl, ⟨rfl, ⟨Nat.le_of_ble_eq_true rfl, ⟨by decide, ⟨trivial, h⟩⟩⟩⟩⟩⟩⟩⟩⟩)⟩⟩⟩⟩⟩)⟩⟩⟩⟩⟩⟩))
/-! 108 PlaneDesk.knot(I)I -/
theorem sx_108 {d : Nat} {Q : fl_R} (v1 : Int32) (W : fl_W) (h : mi_br ((W 0 9) = 0) (Q (some (.int (Int32.ofInt (-1)))) W) ((v1 = Int32.ofNat 0 → fl_cal d 63 [.ref 209] W (fl_q1 fun x1 W1 => Q (some (.int x1)) W1)) ∧ (v1 = Int32.ofNat 1 → fl_cal d 82 [.ref 208] W (fl_q1 fun x2 W2 => Q (some (.int x2)) W2)) ∧ (v1 = Int32.ofNat 2 → fl_cal d 63 [.ref 211] W (fl_q1 fun x3 W3 => Q (some (.int x3)) W3)) ∧ ((¬ v1 = Int32.ofNat 0 ∧ ¬ v1 = Int32.ofNat 1 ∧ ¬ v1 = Int32.ofNat 2) → mi_br (v1 < (Int16.ofInt 200).toInt32) (fl_cal d 66 [.ref 209, .int ((if v1 < (Int32.ofInt 0) then (Int32.ofInt 0) else v1) - (Int8.ofInt 100).toInt32)] W (fl_q1 fun x4 W4 => Q (some (.int x4)) W4)) (fl_cal d 66 [.ref 211, .int (v1 - (Int16.ofInt 200).toInt32)] W (fl_q1 fun x5 W5 => Q (some (.int x5)) W5))))) : fl_cal (d + 1) 108 [.ref 0, .int v1] W Q := fl_intro [] (fl_fold (⟨rfl, ⟨fun q => have h := h.1 q; ⟨trivial, h⟩, fun q => have h := h.2 q; fl_ts3 (fun q => have h := (h.1) q; ⟨by decide, ⟨rfl, ⟨rfl, ⟨Nat.le_of_ble_eq_true rfl, rfl, rfl, rfl, fl_c1 h (fun x1 W1 h => ⟨trivial, h⟩)⟩⟩⟩⟩) (fun q => have h := (h.2.1) q; ⟨by decide, ⟨rfl, ⟨Nat.le_of_ble_eq_true rfl, rfl, rfl, rfl, fl_c1 h (fun x2 W2 h => ⟨trivial, h⟩)⟩⟩⟩) (fun q => have h := (h.2.2.1) q; ⟨by decide, ⟨rfl, ⟨rfl, ⟨Nat.le_of_ble_eq_true rfl, rfl, rfl, rfl, fl_c1 h (fun x3 W3 h => ⟨trivial, h⟩)⟩⟩⟩⟩) (fun q => have h := (h.2.2.2) q; ⟨by decide, ⟨fun q => have h := h.1 q; ⟨rfl, ⟨rfl, ⟨rfl, ⟨Nat.le_of_ble_eq_true rfl, rfl, rfl, rfl, fl_c1 h (fun x4 W4 h => ⟨trivial, h⟩)⟩⟩⟩⟩, fun q => have h := h.2 q; ⟨rfl, ⟨rfl, ⟨Nat.le_of_ble_eq_true rfl, rfl, rfl, rfl, fl_c1 h (fun x5 W5 h => ⟨trivial, h⟩)⟩⟩⟩⟩⟩)⟩⟩))
/-! 109 PlaneDesk.may(II)I -/
theorem sx_109 {d : Nat} {Q : fl_R} (v1 v2 : Int32) (W : fl_W) (h : fl_cal d 49 [.ref 1, .int v1, .int v2] W (fl_q1 fun x1 W1 => mi_br (x1 = 0) (Q (some (.int (Int32.ofInt (-1)))) W1) (fl_cal d 116 [.ref 0] W1 (fl_q1 fun x2 W2 => mi_br (x2 = 0) (Q (some (.int (Int32.ofInt (-1)))) W2) (fl_cal d 41 [.ref 5, .ref 1] W2 (fl_q0 fun W3 => fl_cal d 50 [.ref 5, .int v1, .int v2] W3 (fl_q0 fun W4 => fl_cal d 27 [.ref 9, .ref 5] W4 (fl_q1 fun x3 W5 => mi_br (x3 = 0) (Q (some (.int (Int32.ofInt 0))) W5) (Q (some (.int (Int32.ofInt 1))) W5))))))))) : fl_cal (d + 1) 109 [.ref 0, .int v1, .int v2] W Q := fl_intro [] (fl_fold (⟨rfl, ⟨Nat.le_of_ble_eq_true rfl, rfl, rfl, rfl, fl_c1 h (fun x1 W1 h => ⟨fun q => have h := h.1 q; ⟨trivial, h⟩, fun q => have h := h.2 q; ⟨Nat.le_of_ble_eq_true rfl, rfl, rfl, rfl, fl_c1 h (fun x2 W2 h => ⟨fun q => have h := h.1 q; ⟨trivial, h⟩, fun q => have h := h.2 q; ⟨rfl, ⟨rfl, ⟨Nat.le_of_ble_eq_true rfl, rfl, rfl, rfl, fl_c0 h (fun W3 h => ⟨rfl, ⟨Nat.le_of_ble_eq_true rfl, rfl, rfl, rfl, fl_c0 h (fun W4 h => ⟨rfl, ⟨rfl, ⟨Nat.le_of_ble_eq_true rfl, rfl, rfl, rfl, fl_c1 h (fun x3 W5 h => ⟨fun q => have h := h.1 q; ⟨trivial, h⟩, fun q => have h := h.2 q; ⟨trivial, h⟩⟩)⟩⟩⟩)⟩⟩)⟩⟩⟩⟩)⟩⟩)⟩⟩))
/-! 110 PlaneDesk.fill()I -/
def hd_110_19 (d : Nat) (Q : fl_R) (v1 v2 : Int32) (W : fl_W) : Prop := ∀ (o3 : Option Value), fl_WP (fl_cal d) 110 [19, 34] Q 19 [some (.ref 0), some (.int v1), some (.int v2), o3] [] W
def hd_110_34 (d : Nat) (Q : fl_R) (v1 v2 v3 : Int32) (W : fl_W) : Prop := fl_WP (fl_cal d) 110 [19, 34] Q 34 [some (.ref 0), some (.int v1), some (.int v2), some (.int v3)] [] W
theorem sx_110_19 {d : Nat} {Q : fl_R} (v1 v2 : Int32) (W : fl_W) (h : mi_br (v2 < (W 1 3)) (hd_110_34 d Q v1 v2 (v2 + (Int32.ofInt 1)) W) (mi_br (((W 1 4) - v1) ≤ 0) (Q (some (.int ((W 1 4) - v1))) W) (fl_cal d 115 [.ref 0] W (fl_q0 fun W2 => ∀ W3 : fl_W, W3 = fl_uw W2 0 12 (Int32.ofInt 1) → Q (some (.int ((W 1 4) - v1))) W3)))) : hd_110_19 d Q v1 v2 W := fun o3 => fl_fold (⟨rfl, ⟨rfl, ⟨fun q => have h := h.1 q; ⟨Nat.le_of_ble_eq_true rfl, h⟩, fun q => have h := h.2 q; ⟨rfl, ⟨rfl, ⟨Nat.le_of_ble_eq_true rfl, ⟨fun q => have h := h.1 q; ⟨trivial, h⟩, fun q => have h := h.2 q; ⟨Nat.le_of_ble_eq_true rfl, rfl, rfl, rfl, fl_c0 h (fun W2 h => ⟨rfl, trivial, have h := h _ rfl; ⟨trivial, h⟩⟩)⟩⟩⟩⟩⟩⟩⟩⟩)
theorem sx_110_34 {d : Nat} {Q : fl_R} (v1 v2 v3 : Int32) (W : fl_W) (h : mi_br (v3 < (W 1 3)) (fl_cal d 118 [.ref 0, .int v2, .int v3] W (fl_q0 fun W4 => hd_110_34 d Q v1 v2 (v3 + Int32.ofInt 1) W4)) (hd_110_19 d Q v1 (v2 + Int32.ofInt 1) W)) : hd_110_34 d Q v1 v2 v3 W := fl_fold (⟨rfl, ⟨rfl, ⟨fun q => have h := h.1 q; ⟨Nat.le_of_ble_eq_true rfl, rfl, rfl, rfl, fl_c0 h (fun W4 h => h)⟩, fun q => have h := h.2 q; h _⟩⟩⟩)
theorem sx_110 {d : Nat} {Q : fl_R} (W : fl_W) (h : fl_cal d 116 [.ref 0] W (fl_q1 fun x1 W1 => mi_br (x1 = 0) (Q (some (.int (Int32.ofInt (-1)))) W1) (hd_110_19 d Q (W1 1 4) (Int32.ofInt 0) W1))) : fl_cal (d + 1) 110 [.ref 0] W Q := fl_intro [19, 34] (fl_fold (⟨Nat.le_of_ble_eq_true rfl, rfl, rfl, rfl, fl_c1 h (fun x1 W1 h => ⟨fun q => have h := h.1 q; ⟨trivial, h⟩, fun q => have h := h.2 q; ⟨rfl, ⟨rfl, ⟨Nat.le_of_ble_eq_true rfl, ⟨Nat.le_of_ble_eq_true rfl, h _⟩⟩⟩⟩⟩)⟩))
/-! 111 PlaneDesk.draw()Z -/
theorem sx_111 {d : Nat} {Q : fl_R} (W : fl_W) (h : fl_cal d 53 [.ref 1] W (fl_q1 fun x1 W1 => mi_br (x1 = 0) (Q (some (.int (Int32.ofInt 0))) W1) (fl_cal d 117 [.ref 0] W1 (fl_q1 fun x2 W2 => mi_br (x2 = 0) (Q (some (.int (Int32.ofInt 0))) W2) (fl_cal d 95 [.ref 202, .ref 1, .int (Int32.ofInt 0), .int (Int32.ofInt 2)] W2 (fl_q1 fun x3 W3 => fl_cal d 16 [.ref 213, .ref 1, .ref 160, .int x3] W3 (fl_q0 fun W4 => ∀ W5 : fl_W, W5 = fl_uw W4 0 10 (Int32.ofInt 1) → Q (some (.int (Int32.ofInt 1))) W5))))))) : fl_cal (d + 1) 111 [.ref 0] W Q := fl_intro [] (fl_fold (⟨rfl, ⟨Nat.le_of_ble_eq_true rfl, rfl, rfl, rfl, fl_c1 h (fun x1 W1 h => ⟨fun q => have h := h.1 q; ⟨Or.inl rfl, h⟩, fun q => have h := h.2 q; ⟨Nat.le_of_ble_eq_true rfl, rfl, rfl, rfl, fl_c1 h (fun x2 W2 h => ⟨fun q => have h := h.1 q; ⟨Or.inl rfl, h⟩, fun q => have h := h.2 q; ⟨rfl, ⟨rfl, ⟨rfl, ⟨rfl, ⟨rfl, ⟨Nat.le_of_ble_eq_true rfl, rfl, rfl, rfl, fl_c1 h (fun x3 W3 h => ⟨Nat.le_of_ble_eq_true rfl, rfl, rfl, rfl, fl_c0 h (fun W4 h => ⟨rfl, Or.inr rfl, have h := h _ rfl; ⟨Or.inr rfl, h⟩⟩)⟩)⟩⟩⟩⟩⟩⟩⟩)⟩⟩)⟩⟩))
/-! 112 PlaneDesk.at(II)I -/
theorem sx_112 {d : Nat} {Q : fl_R} (v1 v2 : Int32) (W : fl_W) (h : mi_br ((W 0 10) = 0) (Q (some (.int (Int32.ofInt (-1)))) W) (fl_cal d 42 [.ref 1, .int v1] W (fl_q1 fun x1 W1 => mi_br (x1 = 0) (Q (some (.int (Int32.ofInt (-1)))) W1) ((v2 = Int32.ofNat 0 → vp_in v1 20 ∧ (Q (some (.int (W1 214 v1.toNatClampNeg))) W1)) ∧ (v2 = Int32.ofNat 1 → vp_in v1 20 ∧ (Q (some (.int (W1 215 v1.toNatClampNeg))) W1)) ∧ (v2 = Int32.ofNat 2 → fl_cal d 67 [.ref 217, .int v1] W1 (fl_q1 fun x2 W2 => Q (some (.int x2)) W2)) ∧ ((¬ v2 = Int32.ofNat 0 ∧ ¬ v2 = Int32.ofNat 1 ∧ ¬ v2 = Int32.ofNat 2) → Q (some (.int (Int32.ofInt (-1)))) W1))))) : fl_cal (d + 1) 112 [.ref 0, .int v1, .int v2] W Q := fl_intro [] (fl_fold (⟨rfl, ⟨fun q => have h := h.1 q; ⟨trivial, h⟩, fun q => have h := h.2 q; ⟨rfl, ⟨Nat.le_of_ble_eq_true rfl, rfl, rfl, rfl, fl_c1 h (fun x1 W1 h => ⟨fun q => have h := h.1 q; ⟨trivial, h⟩, fun q => have h := h.2 q; fl_ts3 (fun q => have h := (h.1) q; ⟨by decide, ⟨rfl, ⟨rfl, ⟨rfl, ⟨h.1, have h := h.2; ⟨trivial, h⟩⟩⟩⟩⟩⟩) (fun q => have h := (h.2.1) q; ⟨by decide, ⟨rfl, ⟨rfl, ⟨rfl, ⟨h.1, have h := h.2; ⟨trivial, h⟩⟩⟩⟩⟩⟩) (fun q => have h := (h.2.2.1) q; ⟨by decide, ⟨rfl, ⟨rfl, ⟨Nat.le_of_ble_eq_true rfl, rfl, rfl, rfl, fl_c1 h (fun x2 W2 h => ⟨trivial, h⟩)⟩⟩⟩⟩) (fun q => have h := (h.2.2.2) q; ⟨by decide, ⟨trivial, h⟩⟩)⟩)⟩⟩⟩⟩))
/-! 113 PlaneDesk.colour()I -/
theorem sx_113 {d : Nat} {Q : fl_R} (W : fl_W) (h : ∀ W1 : fl_W, W1 = fl_uw W 0 11 (Int32.ofInt 1) → fl_cal d 11 [.ref 225, .ref 1] W1 (fl_q1 fun x1 W2 => Q (some (.int x1)) W2)) : fl_cal (d + 1) 113 [.ref 0] W Q := fl_intro [] (fl_fold (⟨rfl, Or.inr rfl, have h := h _ rfl; ⟨rfl, ⟨rfl, ⟨Nat.le_of_ble_eq_true rfl, rfl, rfl, rfl, fl_c1 h (fun x1 W2 h => ⟨trivial, h⟩)⟩⟩⟩⟩))
/-! 114 PlaneDesk.colourOf(I)I -/
theorem sx_114 {d : Nat} {Q : fl_R} (v1 : Int32) (W : fl_W) (h : mi_br ((W 0 11) = 0) (Q (some (.int (Int32.ofInt (-1)))) W) (fl_cal d 42 [.ref 1, .int v1] W (fl_q1 fun x1 W1 => mi_br (x1 = 0) (Q (some (.int (Int32.ofInt (-1)))) W1) (vp_in v1 20 ∧ (Q (some (.int (W1 226 v1.toNatClampNeg))) W1))))) : fl_cal (d + 1) 114 [.ref 0, .int v1] W Q := fl_intro [] (fl_fold (⟨rfl, ⟨fun q => have h := h.1 q; ⟨trivial, h⟩, fun q => have h := h.2 q; ⟨rfl, ⟨Nat.le_of_ble_eq_true rfl, rfl, rfl, rfl, fl_c1 h (fun x1 W1 h => ⟨fun q => have h := h.1 q; ⟨trivial, h⟩, fun q => have h := h.2 q; ⟨rfl, ⟨rfl, ⟨rfl, ⟨h.1, have h := h.2; ⟨trivial, h⟩⟩⟩⟩⟩⟩)⟩⟩⟩⟩))
/-! 115 PlaneDesk.forget()V -/
theorem sx_115 {d : Nat} {Q : fl_R} (W : fl_W) (h : ∀ W1 : fl_W, W1 = fl_uw W 0 8 (Int32.ofInt 0) → ∀ W2 : fl_W, W2 = fl_uw W1 0 9 (Int32.ofInt 0) → ∀ W3 : fl_W, W3 = fl_uw W2 0 10 (Int32.ofInt 0) → ∀ W4 : fl_W, W4 = fl_uw W3 0 11 (Int32.ofInt 0) → ∀ W5 : fl_W, W5 = fl_uw W4 0 12 (Int32.ofInt 2) → Q none W5) : fl_cal (d + 1) 115 [.ref 0] W Q := fl_intro [] (fl_fold (⟨rfl, Or.inl rfl, have h := h _ rfl; ⟨rfl, Or.inl rfl, have h := h _ rfl; ⟨rfl, Or.inl rfl, have h := h _ rfl; ⟨rfl, Or.inl rfl, have h := h _ rfl; ⟨rfl, trivial, have h := h _ rfl; ⟨rfl, h⟩⟩⟩⟩⟩⟩))
/-! 116 PlaneDesk.fits()Z -/
theorem sx_116 {d : Nat} {Q : fl_R} (W : fl_W) (h : mi_br ((W 0 12) = (Int32.ofInt 2)) (fl_cal d 27 [.ref 9, .ref 1] W (fl_q1 fun x1 W1 => mi_br (x1 = 0) (∀ W2 : fl_W, W2 = fl_uw W1 0 12 (Int32.ofInt 0) → mi_br ((W2 0 12) = (Int32.ofInt 1)) (Q (some (.int (Int32.ofInt 1))) W2) (Q (some (.int (Int32.ofInt 0))) W2)) (∀ W3 : fl_W, W3 = fl_uw W1 0 12 (Int32.ofInt 1) → mi_br ((W3 0 12) = (Int32.ofInt 1)) (Q (some (.int (Int32.ofInt 1))) W3) (Q (some (.int (Int32.ofInt 0))) W3)))) (mi_br ((W 0 12) = (Int32.ofInt 1)) (Q (some (.int (Int32.ofInt 1))) W) (Q (some (.int (Int32.ofInt 0))) W))) : fl_cal (d + 1) 116 [.ref 0] W Q := fl_intro [] (fl_fold (⟨rfl, ⟨fun q => have h := h.1 q; ⟨rfl, ⟨rfl, ⟨Nat.le_of_ble_eq_true rfl, rfl, rfl, rfl, fl_c1 h (fun x1 W1 h => ⟨fun q => have h := h.1 q; ⟨rfl, trivial, have h := h _ rfl; ⟨rfl, ⟨fun q => have h := h.1 q; ⟨Or.inr rfl, h⟩, fun q => have h := h.2 q; ⟨Or.inl rfl, h⟩⟩⟩⟩, fun q => have h := h.2 q; ⟨rfl, trivial, have h := h _ rfl; ⟨rfl, ⟨fun q => have h := h.1 q; ⟨Or.inr rfl, h⟩, fun q => have h := h.2 q; ⟨Or.inl rfl, h⟩⟩⟩⟩⟩)⟩⟩⟩, fun q => have h := h.2 q; ⟨rfl, ⟨fun q => have h := h.1 q; ⟨Or.inr rfl, h⟩, fun q => have h := h.2 q; ⟨Or.inl rfl, h⟩⟩⟩⟩⟩))
/-! 117 PlaneDesk.layOut()Z -/
theorem sx_117 {d : Nat} {Q : fl_R} (W : fl_W) (h : mi_br ((W 0 12) = 0) (Q (some (.int (Int32.ofInt 0))) W) (fl_cal d 27 [.ref 9, .ref 1] W (fl_q1 fun x1 W1 => mi_br (x1 = 0) (∀ W2 : fl_W, W2 = fl_uw W1 0 12 (Int32.ofInt 0) → mi_br (x1 = 0) ((x1 = 0 ∨ x1 = 1) ∧ Q (some (.int x1)) W2) (fl_cal d 85 [.ref 160, .ref 18] W2 (fl_q0 fun W3 => fl_cal d 91 [.ref 202, .ref 1, .ref 160] W3 (fl_q0 fun W4 => ∀ W5 : fl_W, W5 = fl_uw W4 0 8 (Int32.ofInt 1) → (x1 = 0 ∨ x1 = 1) ∧ Q (some (.int x1)) W5)))) (∀ W6 : fl_W, W6 = fl_uw W1 0 12 (Int32.ofInt 1) → mi_br (x1 = 0) ((x1 = 0 ∨ x1 = 1) ∧ Q (some (.int x1)) W6) (fl_cal d 85 [.ref 160, .ref 18] W6 (fl_q0 fun W7 => fl_cal d 91 [.ref 202, .ref 1, .ref 160] W7 (fl_q0 fun W8 => ∀ W9 : fl_W, W9 = fl_uw W8 0 8 (Int32.ofInt 1) → (x1 = 0 ∨ x1 = 1) ∧ Q (some (.int x1)) W9))))))) : fl_cal (d + 1) 117 [.ref 0] W Q := fl_intro [] (fl_fold (⟨rfl, ⟨fun q => have h := h.1 q; ⟨Or.inl rfl, h⟩, fun q => have h := h.2 q; ⟨rfl, ⟨rfl, ⟨Nat.le_of_ble_eq_true rfl, rfl, rfl, rfl, fl_c1 h (fun x1 W1 h => ⟨Nat.le_of_ble_eq_true rfl, ⟨fun q => have h := h.1 q; ⟨rfl, trivial, have h := h _ rfl; ⟨fun q => have h := h.1 q; ⟨h.1, h.2⟩, fun q => have h := h.2 q; ⟨rfl, ⟨rfl, ⟨rfl, ⟨Nat.le_of_ble_eq_true rfl, rfl, rfl, rfl, fl_c0 h (fun W3 h => ⟨rfl, ⟨rfl, ⟨rfl, ⟨Nat.le_of_ble_eq_true rfl, rfl, rfl, rfl, fl_c0 h (fun W4 h => ⟨rfl, Or.inr rfl, have h := h _ rfl; ⟨h.1, h.2⟩⟩)⟩⟩⟩⟩)⟩⟩⟩⟩⟩⟩, fun q => have h := h.2 q; ⟨rfl, trivial, have h := h _ rfl; ⟨fun q => have h := h.1 q; ⟨h.1, h.2⟩, fun q => have h := h.2 q; ⟨rfl, ⟨rfl, ⟨rfl, ⟨Nat.le_of_ble_eq_true rfl, rfl, rfl, rfl, fl_c0 h (fun W7 h => ⟨rfl, ⟨rfl, ⟨rfl, ⟨Nat.le_of_ble_eq_true rfl, rfl, rfl, rfl, fl_c0 h (fun W8 h => ⟨rfl, Or.inr rfl, have h := h _ rfl; ⟨h.1, h.2⟩⟩)⟩⟩⟩⟩)⟩⟩⟩⟩⟩⟩⟩⟩)⟩⟩⟩⟩⟩))
/-! 118 PlaneDesk.addIfItFits(II)V -/
theorem sx_118 {d : Nat} {Q : fl_R} (v1 v2 : Int32) (W : fl_W) (h : fl_cal d 53 [.ref 1] W (fl_q1 fun x1 W1 => mi_br (x1 = 0) (fl_cal d 49 [.ref 1, .int v1, .int v2] W1 (fl_q1 fun x2 W2 => mi_br (x2 = 0) (Q none W2) (fl_cal d 50 [.ref 1, .int v1, .int v2] W2 (fl_q0 fun W3 => fl_cal d 27 [.ref 9, .ref 1] W3 (fl_q1 fun x3 W4 => mi_br (x3 = 0) (fl_cal d 51 [.ref 1, .int ((W4 1 4) - (Int32.ofInt 1))] W4 (fl_q0 fun W5 => Q none W5)) (Q none W4)))))) (Q none W1))) : fl_cal (d + 1) 118 [.ref 0, .int v1, .int v2] W Q := fl_intro [] (fl_fold (⟨rfl, ⟨Nat.le_of_ble_eq_true rfl, rfl, rfl, rfl, fl_c1 h (fun x1 W1 h => ⟨fun q => have h := h.1 q; ⟨rfl, ⟨Nat.le_of_ble_eq_true rfl, rfl, rfl, rfl, fl_c1 h (fun x2 W2 h => ⟨fun q => have h := h.1 q; ⟨rfl, h⟩, fun q => have h := h.2 q; ⟨rfl, ⟨Nat.le_of_ble_eq_true rfl, rfl, rfl, rfl, fl_c0 h (fun W3 h => ⟨rfl, ⟨rfl, ⟨Nat.le_of_ble_eq_true rfl, rfl, rfl, rfl, fl_c1 h (fun x3 W4 h => ⟨fun q => have h := h.1 q; ⟨rfl, ⟨rfl, ⟨rfl, ⟨Nat.le_of_ble_eq_true rfl, rfl, rfl, rfl, fl_c0 h (fun W5 h => ⟨rfl, h⟩)⟩⟩⟩⟩, fun q => have h := h.2 q; ⟨rfl, h⟩⟩)⟩⟩⟩)⟩⟩⟩)⟩⟩, fun q => have h := h.2 q; ⟨rfl, h⟩⟩)⟩⟩))
end
section
/-! 124 PlaneDeskModel.isIn(III)Z -/
theorem sx_124 {d : Nat} {Q : fl_R} (v0 v1 v2 : Int32) (W : fl_W) (h : mi_br (v0 < v1) (Q (some (.int (Int32.ofInt 0))) W) (mi_br (v0 ≤ v2) (Q (some (.int (Int32.ofInt 1))) W) (Q (some (.int (Int32.ofInt 0))) W))) : fl_cal (d + 1) 124 [.int v0, .int v1, .int v2] W Q := fl_intro [] (fl_fold (⟨fun q => have h := h.1 q; ⟨Or.inl rfl, h⟩, fun q => have h := h.2 q; ⟨fun q => have h := h.1 q; ⟨Or.inr rfl, h⟩, fun q => have h := h.2 q; ⟨Or.inl rfl, h⟩⟩⟩))
/-! 125 PlaneDeskModel.isVertex(I)Z -/
theorem sx_125 {d : Nat} {Q : fl_R} (v1 : Int32) (W : fl_W) (h : fl_cal d 124 [.int v1, .int (Int32.ofInt 0), .int ((W 229 0) - (Int32.ofInt 1))] W (fl_q1 fun x1 W1 => (x1 = 0 ∨ x1 = 1) ∧ Q (some (.int x1)) W1)) : fl_cal (d + 1) 125 [.ref 229, .int v1] W Q := fl_intro [] (fl_fold (⟨rfl, ⟨Nat.le_of_ble_eq_true rfl, rfl, rfl, fl_c1 h (fun x1 W1 h => ⟨h.1, h.2⟩)⟩⟩))
/-! 126 PlaneDeskModel.forget()V -/
theorem sx_126 {d : Nat} {Q : fl_R} (W : fl_W) (h : ∀ W1 : fl_W, W1 = fl_uw W 229 9 (Int32.ofInt 0) → ∀ W2 : fl_W, W2 = fl_uw W1 229 11 (Int32.ofInt 0) → ∀ W3 : fl_W, W3 = fl_uw W2 229 15 (Int32.ofInt 0) → ∀ W4 : fl_W, W4 = fl_uw W3 229 17 (Int32.ofInt 0) → Q none W4) : fl_cal (d + 1) 126 [.ref 229] W Q := fl_intro [] (fl_fold (⟨rfl, Or.inl rfl, have h := h _ rfl; ⟨rfl, trivial, have h := h _ rfl; ⟨rfl, Or.inl rfl, have h := h _ rfl; ⟨rfl, Or.inl rfl, have h := h _ rfl; ⟨rfl, h⟩⟩⟩⟩⟩))
/-! 127 PlaneDeskModel.graph(I)Z -/
theorem sx_127 {d : Nat} {Q : fl_R} (v1 : Int32) (W : fl_W) (h : fl_cal d 124 [.int v1, .int (Int32.ofInt 0), .int ((Int8.ofInt 20).toInt32)] W (fl_q1 fun x1 W1 => mi_br (x1 = 0) (Q (some (.int (Int32.ofInt 0))) W1) (∀ W2 : fl_W, W2 = fl_uw W1 229 0 v1 → ∀ W3 : fl_W, W3 = fl_uw W2 229 1 (Int32.ofInt 0) → fl_cal d 126 [.ref 229] W3 (fl_q0 fun W4 => Q (some (.int (Int32.ofInt 1))) W4)))) : fl_cal (d + 1) 127 [.ref 229, .int v1] W Q := fl_intro [] (fl_fold (⟨Nat.le_of_ble_eq_true rfl, rfl, rfl, fl_c1 h (fun x1 W1 h => ⟨fun q => have h := h.1 q; ⟨Or.inl rfl, h⟩, fun q => have h := h.2 q; ⟨rfl, trivial, have h := h _ rfl; ⟨rfl, trivial, have h := h _ rfl; ⟨Nat.le_of_ble_eq_true rfl, rfl, rfl, rfl, fl_c0 h (fun W4 h => ⟨Or.inr rfl, h⟩)⟩⟩⟩⟩)⟩))
/-! 128 PlaneDeskModel.edgeOf(II)I -/
def hd_128_26 (d : Nat) (Q : fl_R) (v3 v4 v5 : Int32) (W : fl_W) : Prop := ∀ (o1 o2 : Option Value), fl_WP (fl_cal d) 128 [26] Q 26 [some (.ref 229), o1, o2, some (.int v3), some (.int v4), some (.int v5)] [] W
theorem sx_128_26 {d : Nat} {Q : fl_R} (v3 v4 v5 : Int32) (W : fl_W) (h : mi_br (v5 < (W 229 1)) (vp_in v5 61 ∧ (mi_br ((W 230 v5.toNatClampNeg) = v3) (vp_in v5 61 ∧ (mi_br ((W 231 v5.toNatClampNeg) = v4) (Q (some (.int v5)) W) (hd_128_26 d Q v3 v4 (v5 + Int32.ofInt 1) W))) (hd_128_26 d Q v3 v4 (v5 + Int32.ofInt 1) W))) (Q (some (.int (Int32.ofInt (-1)))) W)) : hd_128_26 d Q v3 v4 v5 W := fun o1 o2 => fl_fold (⟨rfl, ⟨fun q => have h := h.1 q; ⟨rfl, ⟨rfl, ⟨h.1, have h := h.2; ⟨fun q => have h := h.1 q; ⟨rfl, ⟨rfl, ⟨h.1, have h := h.2; ⟨fun q => have h := h.1 q; ⟨trivial, h⟩, fun q => have h := h.2 q; h _ _⟩⟩⟩⟩, fun q => have h := h.2 q; h _ _⟩⟩⟩⟩, fun q => have h := h.2 q; ⟨trivial, h⟩⟩⟩)
theorem sx_128 {d : Nat} {Q : fl_R} (v1 v2 : Int32) (W : fl_W) (h : mi_br (v1 < v2) (mi_br (v1 < v2) (hd_128_26 d Q v1 v2 (Int32.ofInt 0) W) (hd_128_26 d Q v1 v1 (Int32.ofInt 0) W)) (mi_br (v1 < v2) (hd_128_26 d Q v2 v2 (Int32.ofInt 0) W) (hd_128_26 d Q v2 v1 (Int32.ofInt 0) W))) : fl_cal (d + 1) 128 [.ref 229, .int v1, .int v2] W Q := fl_intro [26] (fl_fold (⟨fun q => have h := h.1 q; ⟨Nat.le_of_ble_eq_true rfl, ⟨fun q => have h := h.1 q; ⟨Nat.le_of_ble_eq_true rfl, ⟨Nat.le_of_ble_eq_true rfl, h _ _⟩⟩, fun q => have h := h.2 q; ⟨Nat.le_of_ble_eq_true rfl, ⟨Nat.le_of_ble_eq_true rfl, h _ _⟩⟩⟩⟩, fun q => have h := h.2 q; ⟨Nat.le_of_ble_eq_true rfl, ⟨fun q => have h := h.1 q; ⟨Nat.le_of_ble_eq_true rfl, ⟨Nat.le_of_ble_eq_true rfl, h _ _⟩⟩, fun q => have h := h.2 q; ⟨Nat.le_of_ble_eq_true rfl, ⟨Nat.le_of_ble_eq_true rfl, h _ _⟩⟩⟩⟩⟩))
/-! 129 PlaneDeskModel.put(II)V -/
theorem sx_129 {d : Nat} {Q : fl_R} (v1 v2 : Int32) (W : fl_W) (h : mi_br (v1 < v2) (vp_in (W 229 1) 61 ∧ (∀ W6 : fl_W, W6 = fl_uw W 230 (W 229 1).toNatClampNeg v1 → mi_br (v1 < v2) (vp_in (W6 229 1) 61 ∧ (∀ W9 : fl_W, W9 = fl_uw W6 231 (W6 229 1).toNatClampNeg v2 → ∀ W10 : fl_W, W10 = fl_uw W9 229 1 ((W9 229 1) + (Int32.ofInt 1)) → Q none W10)) (vp_in (W6 229 1) 61 ∧ (∀ W7 : fl_W, W7 = fl_uw W6 231 (W6 229 1).toNatClampNeg v1 → ∀ W8 : fl_W, W8 = fl_uw W7 229 1 ((W7 229 1) + (Int32.ofInt 1)) → Q none W8)))) (vp_in (W 229 1) 61 ∧ (∀ W1 : fl_W, W1 = fl_uw W 230 (W 229 1).toNatClampNeg v2 → mi_br (v1 < v2) (vp_in (W1 229 1) 61 ∧ (∀ W4 : fl_W, W4 = fl_uw W1 231 (W1 229 1).toNatClampNeg v2 → ∀ W5 : fl_W, W5 = fl_uw W4 229 1 ((W4 229 1) + (Int32.ofInt 1)) → Q none W5)) (vp_in (W1 229 1) 61 ∧ (∀ W2 : fl_W, W2 = fl_uw W1 231 (W1 229 1).toNatClampNeg v1 → ∀ W3 : fl_W, W3 = fl_uw W2 229 1 ((W2 229 1) + (Int32.ofInt 1)) → Q none W3))))) : fl_cal (d + 1) 129 [.ref 229, .int v1, .int v2] W Q := fl_intro [] (fl_fold (⟨rfl, ⟨rfl, ⟨fun q => have h := h.1 q; ⟨rfl, ⟨h.1, have h := h.2; have h := h _ rfl; ⟨rfl, ⟨rfl, ⟨fun q => have h := h.1 q; ⟨rfl, ⟨h.1, have h := h.2; have h := h _ rfl; ⟨rfl, ⟨rfl, ⟨rfl, trivial, have h := h _ rfl; ⟨rfl, h⟩⟩⟩⟩⟩⟩, fun q => have h := h.2 q; ⟨rfl, ⟨h.1, have h := h.2; have h := h _ rfl; ⟨rfl, ⟨rfl, ⟨rfl, trivial, have h := h _ rfl; ⟨rfl, h⟩⟩⟩⟩⟩⟩⟩⟩⟩⟩⟩, fun q => have h := h.2 q; ⟨rfl, ⟨h.1, have h := h.2; have h := h _ rfl; ⟨rfl, ⟨rfl, ⟨fun q => have h := h.1 q; ⟨rfl, ⟨h.1, have h := h.2; have h := h _ rfl; ⟨rfl, ⟨rfl, ⟨rfl, trivial, have h := h _ rfl; ⟨rfl, h⟩⟩⟩⟩⟩⟩, fun q => have h := h.2 q; ⟨rfl, ⟨h.1, have h := h.2; have h := h _ rfl; ⟨rfl, ⟨rfl, ⟨rfl, trivial, have h := h _ rfl; ⟨rfl, h⟩⟩⟩⟩⟩⟩⟩⟩⟩⟩⟩⟩⟩⟩))
/-! 130 PlaneDeskModel.join(II)I -/
theorem sx_130 {d : Nat} {Q : fl_R} (v1 v2 : Int32) (W : fl_W) (h : fl_cal d 125 [.ref 229, .int v1] W (fl_q1 fun x1 W1 => mi_br (x1 = 0) (Q (some (.int (Int32.ofInt (-1)))) W1) (fl_cal d 125 [.ref 229, .int v2] W1 (fl_q1 fun x2 W2 => mi_br (x2 = 0) (Q (some (.int (Int32.ofInt (-1)))) W2) (mi_br (v1 = v2) (Q (some (.int (Int32.ofInt (-1)))) W2) (fl_cal d 128 [.ref 229, .int v1, .int v2] W2 (fl_q1 fun x3 W3 => mi_br (x3 < 0) (mi_br ((W3 229 1) = (Int8.ofInt 60).toInt32) (Q (some (.int (Int32.ofInt (-1)))) W3) (fl_cal d 129 [.ref 229, .int v1, .int v2] W3 (fl_q0 fun W4 => fl_cal d 126 [.ref 229] W4 (fl_q0 fun W5 => Q (some (.int ((W5 229 1) - (Int32.ofInt 1)))) W5)))) (Q (some (.int (Int32.ofInt (-1)))) W3)))))))) : fl_cal (d + 1) 130 [.ref 229, .int v1, .int v2] W Q := fl_intro [] (fl_fold (⟨Nat.le_of_ble_eq_true rfl, rfl, rfl, rfl, fl_c1 h (fun x1 W1 h => ⟨fun q => have h := h.1 q; ⟨trivial, h⟩, fun q => have h := h.2 q; ⟨Nat.le_of_ble_eq_true rfl, rfl, rfl, rfl, fl_c1 h (fun x2 W2 h => ⟨fun q => have h := h.1 q; ⟨trivial, h⟩, fun q => have h := h.2 q; ⟨fun q => have h := h.1 q; ⟨trivial, h⟩, fun q => have h := h.2 q; ⟨Nat.le_of_ble_eq_true rfl, rfl, rfl, rfl, fl_c1 h (fun x3 W3 h => ⟨fun q => have h := h.1 q; ⟨rfl, ⟨fun q => have h := h.1 q; ⟨trivial, h⟩, fun q => have h := h.2 q; ⟨Nat.le_of_ble_eq_true rfl, rfl, rfl, rfl, fl_c0 h (fun W4 h => ⟨Nat.le_of_ble_eq_true rfl, rfl, rfl, rfl, fl_c0 h (fun W5 h => ⟨rfl, ⟨trivial, h⟩⟩)⟩)⟩⟩⟩, fun q => have h := h.2 q; ⟨trivial, h⟩⟩)⟩⟩⟩)⟩⟩)⟩))
/-! 131 PlaneDeskModel.cut(I)Z -/
def hd_131_18 (d : Nat) (Q : fl_R) (v2 : Int32) (W : fl_W) : Prop := ∀ (o1 : Option Value), fl_WP (fl_cal d) 131 [18] Q 18 [some (.ref 229), o1, some (.int v2)] [] W
theorem sx_131_18 {d : Nat} {Q : fl_R} (v2 : Int32) (W : fl_W) (h : mi_br (v2 < ((W 229 1) - (Int32.ofInt 1))) (vp_in (v2 + (Int32.ofInt 1)) 61 ∧ (vp_in v2 61 ∧ (∀ W4 : fl_W, W4 = fl_uw W 230 v2.toNatClampNeg (W 230 (v2 + (Int32.ofInt 1)).toNatClampNeg) → vp_in (v2 + (Int32.ofInt 1)) 61 ∧ (vp_in v2 61 ∧ (∀ W5 : fl_W, W5 = fl_uw W4 231 v2.toNatClampNeg (W4 231 (v2 + (Int32.ofInt 1)).toNatClampNeg) → hd_131_18 d Q (v2 + Int32.ofInt 1) W5))))) (∀ W2 : fl_W, W2 = fl_uw W 229 1 ((W 229 1) - (Int32.ofInt 1)) → fl_cal d 126 [.ref 229] W2 (fl_q0 fun W3 => Q (some (.int (Int32.ofInt 1))) W3))) : hd_131_18 d Q v2 W := fun o1 => fl_fold (⟨rfl, ⟨fun q => have h := h.1 q; ⟨rfl, ⟨rfl, ⟨rfl, ⟨h.1, have h := h.2; ⟨rfl, ⟨h.1, have h := h.2; have h := h _ rfl; ⟨rfl, ⟨rfl, ⟨rfl, ⟨h.1, have h := h.2; ⟨rfl, ⟨h.1, have h := h.2; have h := h _ rfl; h _⟩⟩⟩⟩⟩⟩⟩⟩⟩⟩⟩⟩, fun q => have h := h.2 q; ⟨rfl, ⟨rfl, ⟨rfl, trivial, have h := h _ rfl; ⟨Nat.le_of_ble_eq_true rfl, rfl, rfl, rfl, fl_c0 h (fun W3 h => ⟨Or.inr rfl, h⟩)⟩⟩⟩⟩⟩⟩)
theorem sx_131 {d : Nat} {Q : fl_R} (v1 : Int32) (W : fl_W) (h : fl_cal d 124 [.int v1, .int (Int32.ofInt 0), .int ((W 229 1) - (Int32.ofInt 1))] W (fl_q1 fun x1 W1 => mi_br (x1 = 0) (Q (some (.int (Int32.ofInt 0))) W1) (hd_131_18 d Q v1 W1))) : fl_cal (d + 1) 131 [.ref 229, .int v1] W Q := fl_intro [18] (fl_fold (⟨rfl, ⟨Nat.le_of_ble_eq_true rfl, rfl, rfl, fl_c1 h (fun x1 W1 h => ⟨fun q => have h := h.1 q; ⟨Or.inl rfl, h⟩, fun q => have h := h.2 q; ⟨Nat.le_of_ble_eq_true rfl, h _⟩⟩)⟩⟩))
/-! 132 PlaneDeskModel.all()V -/
def hd_132_2 (d : Nat) (Q : fl_R) (v1 : Int32) (W : fl_W) : Prop := fl_WP (fl_cal d) 132 [2] Q 2 [some (.ref 229), some (.int v1)] [] W
theorem sx_132_2 {d : Nat} {Q : fl_R} (v1 : Int32) (W : fl_W) (h : mi_br (v1 < (W 229 1)) (vp_in v1 61 ∧ (∀ W1 : fl_W, W1 = fl_uw W 232 v1.toNatClampNeg (Int32.ofInt 1) → hd_132_2 d Q (v1 + Int32.ofInt 1) W1)) (Q none W)) : hd_132_2 d Q v1 W := fl_fold (⟨rfl, ⟨fun q => have h := h.1 q; ⟨rfl, ⟨Or.inr rfl, ⟨rfl, ⟨h.1, have h := h.2; have h := h _ rfl; h⟩⟩⟩⟩, fun q => have h := h.2 q; ⟨rfl, h⟩⟩⟩)
theorem sx_132 {d : Nat} {Q : fl_R} (W : fl_W) (h : hd_132_2 d Q (Int32.ofInt 0) W) : fl_cal (d + 1) 132 [.ref 229] W Q := fl_intro [2] (fl_fold (⟨Nat.le_of_ble_eq_true rfl, h⟩))
/-! 133 PlaneDeskModel.other(II)I -/
theorem sx_133 {d : Nat} {Q : fl_R} (v1 v2 : Int32) (W : fl_W) (h : vp_in v1 61 ∧ (mi_br ((W 230 v1.toNatClampNeg) = v2) (vp_in v1 61 ∧ (Q (some (.int (W 231 v1.toNatClampNeg))) W)) (vp_in v1 61 ∧ (mi_br ((W 231 v1.toNatClampNeg) = v2) (vp_in v1 61 ∧ (Q (some (.int (W 230 v1.toNatClampNeg))) W)) (Q (some (.int (Int32.ofInt (-1)))) W))))) : fl_cal (d + 1) 133 [.ref 229, .int v1, .int v2] W Q := fl_intro [] (fl_fold (⟨rfl, ⟨rfl, ⟨h.1, have h := h.2; ⟨fun q => have h := h.1 q; ⟨rfl, ⟨rfl, ⟨h.1, have h := h.2; ⟨trivial, h⟩⟩⟩⟩, fun q => have h := h.2 q; ⟨rfl, ⟨rfl, ⟨h.1, have h := h.2; ⟨fun q => have h := h.1 q; ⟨rfl, ⟨rfl, ⟨h.1, have h := h.2; ⟨trivial, h⟩⟩⟩⟩, fun q => have h := h.2 q; ⟨trivial, h⟩⟩⟩⟩⟩⟩⟩⟩⟩))
/-! 134 PlaneDeskModel.forest()V -/
def hd_134_7 (d : Nat) (Q : fl_R) (v1 : Int32) (W : fl_W) : Prop := ∀ (o2 o3 : Option Value), fl_WP (fl_cal d) 134 [7, 30, 92] Q 7 [some (.ref 229), some (.int v1), o2, o3] [] W
def hd_134_30 (d : Nat) (Q : fl_R) (v1 : Int32) (W : fl_W) : Prop := ∀ (o2 o3 : Option Value), fl_WP (fl_cal d) 134 [7, 30, 92] Q 30 [some (.ref 229), some (.int v1), o2, o3] [] W
def hd_134_92 (d : Nat) (Q : fl_R) (v1 v2 v3 : Int32) (W : fl_W) : Prop := fl_WP (fl_cal d) 134 [7, 30, 92] Q 92 [some (.ref 229), some (.int v1), some (.int v2), some (.int v3)] [] W
theorem sx_134_7 {d : Nat} {Q : fl_R} (v1 : Int32) (W : fl_W) (h : mi_br (v1 < (W 229 0)) (vp_in v1 20 ∧ (∀ W2 : fl_W, W2 = fl_uw W 243 v1.toNatClampNeg (Int32.ofInt (-1)) → hd_134_7 d Q (v1 + Int32.ofInt 1) W2)) (hd_134_30 d Q (Int32.ofInt 0) W)) : hd_134_7 d Q v1 W := fun o2 o3 => fl_fold (⟨rfl, ⟨fun q => have h := h.1 q; ⟨rfl, ⟨rfl, ⟨h.1, have h := h.2; have h := h _ rfl; h _ _⟩⟩⟩, fun q => have h := h.2 q; ⟨Nat.le_of_ble_eq_true rfl, h _ _⟩⟩⟩)
theorem sx_134_30 {d : Nat} {Q : fl_R} (v1 : Int32) (W : fl_W) (h : mi_br (v1 < (W 229 0)) (vp_in v1 20 ∧ (mi_br ((W 243 v1.toNatClampNeg) < 0) (∀ W3 : fl_W, W3 = fl_uw W 229 22 ((W 229 22) + (Int32.ofInt 1)) → vp_in v1 20 ∧ (∀ W4 : fl_W, W4 = fl_uw W3 243 v1.toNatClampNeg (Int32.ofInt 0) → vp_in v1 20 ∧ (∀ W5 : fl_W, W5 = fl_uw W4 241 v1.toNatClampNeg (Int32.ofInt (-1)) → vp_in v1 20 ∧ (∀ W6 : fl_W, W6 = fl_uw W5 242 v1.toNatClampNeg (Int32.ofInt (-1)) → vp_in (Int32.ofInt 0) 20 ∧ (∀ W7 : fl_W, W7 = fl_uw W6 244 (Int32.ofInt 0).toNatClampNeg v1 → hd_134_92 d Q v1 (Int32.ofInt 1) (Int32.ofInt 0) W7))))) (hd_134_30 d Q (v1 + Int32.ofInt 1) W))) (Q none W)) : hd_134_30 d Q v1 W := fun o2 o3 => fl_fold (⟨rfl, ⟨fun q => have h := h.1 q; ⟨rfl, ⟨rfl, ⟨h.1, have h := h.2; ⟨fun q => have h := h.1 q; ⟨rfl, ⟨rfl, ⟨rfl, trivial, have h := h _ rfl; ⟨rfl, ⟨rfl, ⟨h.1, have h := h.2; have h := h _ rfl; ⟨rfl, ⟨rfl, ⟨h.1, have h := h.2; have h := h _ rfl; ⟨rfl, ⟨rfl, ⟨h.1, have h := h.2; have h := h _ rfl; ⟨rfl, ⟨rfl, ⟨h.1, have h := h.2; have h := h _ rfl; ⟨Nat.le_of_ble_eq_true rfl, ⟨Nat.le_of_ble_eq_true rfl, h⟩⟩⟩⟩⟩⟩⟩⟩⟩⟩⟩⟩⟩⟩⟩⟩⟩, fun q => have h := h.2 q; h _ _⟩⟩⟩⟩, fun q => have h := h.2 q; ⟨rfl, h⟩⟩⟩)
theorem sx_134_92 {d : Nat} {Q : fl_R} (v1 v2 v3 : Int32) (W : fl_W) (h : mi_br (v3 < v2) (vp_in v3 20 ∧ (fl_cal d 135 [.ref 229, .int (W 244 v3.toNatClampNeg), .int v2] W (fl_q1 fun x1 W8 => hd_134_92 d Q v1 x1 (v3 + Int32.ofInt 1) W8))) (hd_134_30 d Q (v1 + Int32.ofInt 1) W)) : hd_134_92 d Q v1 v2 v3 W := fl_fold (⟨fun q => have h := h.1 q; ⟨rfl, ⟨rfl, ⟨h.1, have h := h.2; ⟨Nat.le_of_ble_eq_true rfl, rfl, rfl, rfl, fl_c1 h (fun x1 W8 h => ⟨Nat.le_of_ble_eq_true rfl, h⟩)⟩⟩⟩⟩, fun q => have h := h.2 q; h _ _⟩)
theorem sx_134 {d : Nat} {Q : fl_R} (W : fl_W) (h : ∀ W1 : fl_W, W1 = fl_uw W 229 22 (Int32.ofInt 0) → hd_134_7 d Q (Int32.ofInt 0) W1) : fl_cal (d + 1) 134 [.ref 229] W Q := fl_intro [7, 30, 92] (fl_fold (⟨rfl, trivial, have h := h _ rfl; ⟨Nat.le_of_ble_eq_true rfl, h _ _⟩⟩))
/-! 135 PlaneDeskModel.spread(II)I -/
def hd_135_5 (d : Nat) (Q : fl_R) (v1 v3 v4 : Int32) (W : fl_W) : Prop := ∀ (o2 o5 : Option Value), fl_WP (fl_cal d) 135 [5] Q 5 [some (.ref 229), some (.int v1), o2, some (.int v3), some (.int v4), o5] [] W
theorem sx_135_5 {d : Nat} {Q : fl_R} (v1 v3 v4 : Int32) (W : fl_W) (h : mi_br (v4 < (W 229 1)) (vp_in v4 61 ∧ (mi_br ((W 232 v4.toNatClampNeg) = 0) (mi_br ((Int32.ofInt (-1)) < 0) (hd_135_5 d Q v1 v3 (v4 + Int32.ofInt 1) W) (vp_in (Int32.ofInt (-1)) 20 ∧ (mi_br ((W 243 (Int32.ofInt (-1)).toNatClampNeg) < 0) (vp_in v1 20 ∧ (vp_in (Int32.ofInt (-1)) 20 ∧ (∀ W1 : fl_W, W1 = fl_uw W 243 (Int32.ofInt (-1)).toNatClampNeg ((W 243 v1.toNatClampNeg) + (Int32.ofInt 1)) → vp_in (Int32.ofInt (-1)) 20 ∧ (∀ W2 : fl_W, W2 = fl_uw W1 241 (Int32.ofInt (-1)).toNatClampNeg v1 → vp_in (Int32.ofInt (-1)) 20 ∧ (∀ W3 : fl_W, W3 = fl_uw W2 242 (Int32.ofInt (-1)).toNatClampNeg v4 → vp_in v3 20 ∧ (∀ W4 : fl_W, W4 = fl_uw W3 244 v3.toNatClampNeg (Int32.ofInt (-1)) → hd_135_5 d Q v1 (v3 + Int32.ofInt 1) (v4 + Int32.ofInt 1) W4)))))) (hd_135_5 d Q v1 v3 (v4 + Int32.ofInt 1) W)))) (fl_cal d 133 [.ref 229, .int v4, .int v1] W (fl_q1 fun x1 W5 => mi_br (x1 < 0) (hd_135_5 d Q v1 v3 (v4 + Int32.ofInt 1) W5) (vp_in x1 20 ∧ (mi_br ((W5 243 x1.toNatClampNeg) < 0) (vp_in v1 20 ∧ (vp_in x1 20 ∧ (∀ W6 : fl_W, W6 = fl_uw W5 243 x1.toNatClampNeg ((W5 243 v1.toNatClampNeg) + (Int32.ofInt 1)) → vp_in x1 20 ∧ (∀ W7 : fl_W, W7 = fl_uw W6 241 x1.toNatClampNeg v1 → vp_in x1 20 ∧ (∀ W8 : fl_W, W8 = fl_uw W7 242 x1.toNatClampNeg v4 → vp_in v3 20 ∧ (∀ W9 : fl_W, W9 = fl_uw W8 244 v3.toNatClampNeg x1 → hd_135_5 d Q v1 (v3 + Int32.ofInt 1) (v4 + Int32.ofInt 1) W9)))))) (hd_135_5 d Q v1 v3 (v4 + Int32.ofInt 1) W5))))))) (Q (some (.int v3)) W)) : hd_135_5 d Q v1 v3 v4 W := fun o2 o5 => fl_fold (⟨rfl, ⟨fun q => have h := h.1 q; ⟨rfl, ⟨rfl, ⟨h.1, have h := h.2; ⟨fun q => have h := h.1 q; ⟨Nat.le_of_ble_eq_true rfl, ⟨fun q => have h := h.1 q; h _ _, fun q => have h := h.2 q; ⟨rfl, ⟨rfl, ⟨h.1, have h := h.2; ⟨fun q => have h := h.1 q; ⟨rfl, ⟨rfl, ⟨rfl, ⟨h.1, have h := h.2; ⟨rfl, ⟨h.1, have h := h.2; have h := h _ rfl; ⟨rfl, ⟨rfl, ⟨h.1, have h := h.2; have h := h _ rfl; ⟨rfl, ⟨rfl, ⟨h.1, have h := h.2; have h := h _ rfl; ⟨rfl, ⟨rfl, ⟨h.1, have h := h.2; have h := h _ rfl; h _ _⟩⟩⟩⟩⟩⟩⟩⟩⟩⟩⟩⟩⟩⟩⟩, fun q => have h := h.2 q; h _ _⟩⟩⟩⟩⟩⟩, fun q => have h := h.2 q; ⟨Nat.le_of_ble_eq_true rfl, rfl, rfl, rfl, fl_c1 h (fun x1 W5 h => ⟨Nat.le_of_ble_eq_true rfl, ⟨fun q => have h := h.1 q; h _ _, fun q => have h := h.2 q; ⟨rfl, ⟨rfl, ⟨h.1, have h := h.2; ⟨fun q => have h := h.1 q; ⟨rfl, ⟨rfl, ⟨rfl, ⟨h.1, have h := h.2; ⟨rfl, ⟨h.1, have h := h.2; have h := h _ rfl; ⟨rfl, ⟨rfl, ⟨h.1, have h := h.2; have h := h _ rfl; ⟨rfl, ⟨rfl, ⟨h.1, have h := h.2; have h := h _ rfl; ⟨rfl, ⟨rfl, ⟨h.1, have h := h.2; have h := h _ rfl; h _ _⟩⟩⟩⟩⟩⟩⟩⟩⟩⟩⟩⟩⟩⟩⟩, fun q => have h := h.2 q; h _ _⟩⟩⟩⟩⟩⟩)⟩⟩⟩⟩⟩, fun q => have h := h.2 q; ⟨trivial, h⟩⟩⟩)
theorem sx_135 {d : Nat} {Q : fl_R} (v1 v2 : Int32) (W : fl_W) (h : hd_135_5 d Q v1 v2 (Int32.ofInt 0) W) : fl_cal (d + 1) 135 [.ref 229, .int v1, .int v2] W Q := fl_intro [5] (fl_fold (⟨Nat.le_of_ble_eq_true rfl, ⟨Nat.le_of_ble_eq_true rfl, h _ _⟩⟩))
/-! 136 PlaneDeskModel.unite(II)V -/
def hd_136_18 (d : Nat) (Q : fl_R) (v3 v4 v5 : Int32) (W : fl_W) : Prop := ∀ (o1 o2 : Option Value), fl_WP (fl_cal d) 136 [18] Q 18 [some (.ref 229), o1, o2, some (.int v3), some (.int v4), some (.int v5)] [] W
theorem sx_136_18 {d : Nat} {Q : fl_R} (v3 v4 v5 : Int32) (W : fl_W) (h : mi_br (v5 < (W 229 1)) (vp_in v5 61 ∧ (mi_br ((W 233 v5.toNatClampNeg) = v3) (vp_in v5 61 ∧ (∀ W1 : fl_W, W1 = fl_uw W 233 v5.toNatClampNeg v4 → hd_136_18 d Q v3 v4 (v5 + Int32.ofInt 1) W1)) (hd_136_18 d Q v3 v4 (v5 + Int32.ofInt 1) W))) (Q none W)) : hd_136_18 d Q v3 v4 v5 W := fun o1 o2 => fl_fold (⟨rfl, ⟨fun q => have h := h.1 q; ⟨rfl, ⟨rfl, ⟨h.1, have h := h.2; ⟨fun q => have h := h.1 q; ⟨rfl, ⟨rfl, ⟨h.1, have h := h.2; have h := h _ rfl; h _ _⟩⟩⟩, fun q => have h := h.2 q; h _ _⟩⟩⟩⟩, fun q => have h := h.2 q; ⟨rfl, h⟩⟩⟩)
theorem sx_136 {d : Nat} {Q : fl_R} (v1 v2 : Int32) (W : fl_W) (h : vp_in v1 61 ∧ (vp_in v2 61 ∧ (hd_136_18 d Q (W 233 v1.toNatClampNeg) (W 233 v2.toNatClampNeg) (Int32.ofInt 0) W))) : fl_cal (d + 1) 136 [.ref 229, .int v1, .int v2] W Q := fl_intro [18] (fl_fold (⟨rfl, ⟨rfl, ⟨h.1, have h := h.2; ⟨Nat.le_of_ble_eq_true rfl, ⟨rfl, ⟨rfl, ⟨h.1, have h := h.2; ⟨Nat.le_of_ble_eq_true rfl, ⟨Nat.le_of_ble_eq_true rfl, h _ _⟩⟩⟩⟩⟩⟩⟩⟩⟩))
/-! 137 PlaneDeskModel.makeBlocks()V -/
def hd_137_6 (d : Nat) (Q : fl_R) (v1 : Int32) (W : fl_W) : Prop := ∀ (o2 o3 o4 : Option Value), fl_WP (fl_cal d) 137 [6, 29, 83] Q 6 [some (.ref 229), some (.int v1), o2, o3, o4] [] W
def hd_137_29 (d : Nat) (Q : fl_R) (v1 : Int32) (W : fl_W) : Prop := ∀ (o2 o3 o4 : Option Value), fl_WP (fl_cal d) 137 [6, 29, 83] Q 29 [some (.ref 229), some (.int v1), o2, o3, o4] [] W
def hd_137_83 (d : Nat) (Q : fl_R) (v1 v2 v3 : Int32) (W : fl_W) : Prop := ∀ (o4 : Option Value), fl_WP (fl_cal d) 137 [6, 29, 83] Q 83 [some (.ref 229), some (.int v1), some (.int v2), some (.int v3), o4] [] W
set_option maxRecDepth 20000 in
theorem sx_137_6 {d : Nat} {Q : fl_R} (v1 : Int32) (W : fl_W) (h : mi_br (v1 < (W 229 1)) (vp_in v1 61 ∧ (∀ W2 : fl_W, W2 = fl_uw W 233 v1.toNatClampNeg v1 → hd_137_6 d Q (v1 + Int32.ofInt 1) W2)) (hd_137_29 d Q (Int32.ofInt 0) W)) : hd_137_6 d Q v1 W := fun o2 o3 o4 => fl_fold (⟨rfl, ⟨fun q => have h := h.1 q; ⟨rfl, ⟨rfl, ⟨h.1, have h := h.2; have h := h _ rfl; h _ _ _⟩⟩⟩, fun q => have h := h.2 q; ⟨Nat.le_of_ble_eq_true rfl, h _ _ _⟩⟩⟩)
set_option maxRecDepth 20000 in
theorem sx_137_29 {d : Nat} {Q : fl_R} (v1 : Int32) (W : fl_W) (h : mi_br (v1 < (W 229 1)) (vp_in v1 61 ∧ (vp_in v1 61 ∧ (vp_in v1 61 ∧ (mi_br ((W 232 v1.toNatClampNeg) = 0) (hd_137_29 d Q (v1 + Int32.ofInt 1) W) (vp_in (W 230 v1.toNatClampNeg) 20 ∧ (mi_br ((W 242 (W 230 v1.toNatClampNeg).toNatClampNeg) = v1) (hd_137_29 d Q (v1 + Int32.ofInt 1) W) (vp_in (W 231 v1.toNatClampNeg) 20 ∧ (mi_br ((W 242 (W 231 v1.toNatClampNeg).toNatClampNeg) = v1) (hd_137_29 d Q (v1 + Int32.ofInt 1) W) (hd_137_83 d Q v1 (W 230 v1.toNatClampNeg) (W 231 v1.toNatClampNeg) W))))))))) (fl_cal d 138 [.ref 229] W (fl_q0 fun W3 => Q none W3))) : hd_137_29 d Q v1 W := fun o2 o3 o4 => fl_fold (⟨rfl, ⟨fun q => have h := h.1 q; ⟨rfl, ⟨rfl, ⟨h.1, have h := h.2; ⟨Nat.le_of_ble_eq_true rfl, ⟨rfl, ⟨rfl, ⟨h.1, have h := h.2; ⟨Nat.le_of_ble_eq_true rfl, ⟨rfl, ⟨rfl, ⟨h.1, have h := h.2; ⟨fun q => have h := h.1 q; h _ _ _, fun q => have h := h.2 q; ⟨rfl, ⟨rfl, ⟨h.1, have h := h.2; ⟨fun q => have h := h.1 q; h _ _ _, fun q => have h := h.2 q; ⟨rfl, ⟨rfl, ⟨h.1, have h := h.2; ⟨fun q => have h := h.1 q; h _ _ _, fun q => have h := h.2 q; h _⟩⟩⟩⟩⟩⟩⟩⟩⟩⟩⟩⟩⟩⟩⟩⟩⟩⟩⟩⟩, fun q => have h := h.2 q; ⟨Nat.le_of_ble_eq_true rfl, rfl, rfl, rfl, fl_c0 h (fun W3 h => ⟨rfl, h⟩)⟩⟩⟩)
set_option maxRecDepth 20000 in
theorem sx_137_83 {d : Nat} {Q : fl_R} (v1 v2 v3 : Int32) (W : fl_W) (h : mi_br (v2 = v3) (hd_137_29 d Q (v1 + Int32.ofInt 1) W) (vp_in v2 20 ∧ (vp_in v3 20 ∧ (mi_br ((W 243 v2.toNatClampNeg) < (W 243 v3.toNatClampNeg)) (vp_in v3 20 ∧ (fl_cal d 136 [.ref 229, .int (W 242 v3.toNatClampNeg), .int v1] W (fl_q0 fun W4 => mi_br (v3 = v2) (vp_in v2 20 ∧ (hd_137_83 d Q v1 (W4 241 v2.toNatClampNeg) v3 W4)) (vp_in v3 20 ∧ (hd_137_83 d Q v1 v2 (W4 241 v3.toNatClampNeg) W4))))) (vp_in v2 20 ∧ (fl_cal d 136 [.ref 229, .int (W 242 v2.toNatClampNeg), .int v1] W (fl_q0 fun W5 => mi_br (v2 = v2) (vp_in v2 20 ∧ (hd_137_83 d Q v1 (W5 241 v2.toNatClampNeg) v3 W5)) (vp_in v3 20 ∧ (hd_137_83 d Q v1 v2 (W5 241 v3.toNatClampNeg) W5))))))))) : hd_137_83 d Q v1 v2 v3 W := fun o4 => fl_fold (⟨fun q => have h := h.1 q; h _ _ _, fun q => have h := h.2 q; ⟨rfl, ⟨rfl, ⟨h.1, have h := h.2; ⟨rfl, ⟨rfl, ⟨h.1, have h := h.2; ⟨fun q => have h := h.1 q; ⟨Nat.le_of_ble_eq_true rfl, ⟨rfl, ⟨rfl, ⟨h.1, have h := h.2; ⟨Nat.le_of_ble_eq_true rfl, rfl, rfl, rfl, fl_c0 h (fun W4 h => ⟨fun q => have h := h.1 q; ⟨rfl, ⟨rfl, ⟨h.1, have h := h.2; ⟨Nat.le_of_ble_eq_true rfl, h _⟩⟩⟩⟩, fun q => have h := h.2 q; ⟨rfl, ⟨rfl, ⟨h.1, have h := h.2; ⟨Nat.le_of_ble_eq_true rfl, h _⟩⟩⟩⟩⟩)⟩⟩⟩⟩⟩, fun q => have h := h.2 q; ⟨Nat.le_of_ble_eq_true rfl, ⟨rfl, ⟨rfl, ⟨h.1, have h := h.2; ⟨Nat.le_of_ble_eq_true rfl, rfl, rfl, rfl, fl_c0 h (fun W5 h => ⟨fun q => have h := h.1 q; ⟨rfl, ⟨rfl, ⟨h.1, have h := h.2; ⟨Nat.le_of_ble_eq_true rfl, h _⟩⟩⟩⟩, fun q => have h := h.2 q; ⟨rfl, ⟨rfl, ⟨h.1, have h := h.2; ⟨Nat.le_of_ble_eq_true rfl, h _⟩⟩⟩⟩⟩)⟩⟩⟩⟩⟩⟩⟩⟩⟩⟩⟩⟩⟩)
set_option maxRecDepth 20000 in
theorem sx_137 {d : Nat} {Q : fl_R} (W : fl_W) (h : fl_cal d 134 [.ref 229] W (fl_q0 fun W1 => hd_137_6 d Q (Int32.ofInt 0) W1)) : fl_cal (d + 1) 137 [.ref 229] W Q := fl_intro [6, 29, 83] (fl_fold (⟨Nat.le_of_ble_eq_true rfl, rfl, rfl, rfl, fl_c0 h (fun W1 h => ⟨Nat.le_of_ble_eq_true rfl, h _ _ _⟩)⟩))
/-! 138 PlaneDeskModel.number()V -/
def hd_138_7 (d : Nat) (Q : fl_R) (v1 : Int32) (W : fl_W) : Prop := fl_WP (fl_cal d) 138 [7, 30] Q 7 [some (.ref 229), some (.int v1)] [] W
def hd_138_30 (d : Nat) (Q : fl_R) (v1 : Int32) (W : fl_W) : Prop := fl_WP (fl_cal d) 138 [7, 30] Q 30 [some (.ref 229), some (.int v1)] [] W
theorem sx_138_7 {d : Nat} {Q : fl_R} (v1 : Int32) (W : fl_W) (h : mi_br (v1 < (W 229 1)) (vp_in v1 61 ∧ (∀ W2 : fl_W, W2 = fl_uw W 245 v1.toNatClampNeg (Int32.ofInt (-1)) → hd_138_7 d Q (v1 + Int32.ofInt 1) W2)) (hd_138_30 d Q (Int32.ofInt 0) W)) : hd_138_7 d Q v1 W := fl_fold (⟨rfl, ⟨fun q => have h := h.1 q; ⟨rfl, ⟨rfl, ⟨h.1, have h := h.2; have h := h _ rfl; h⟩⟩⟩, fun q => have h := h.2 q; ⟨Nat.le_of_ble_eq_true rfl, h⟩⟩⟩)
theorem sx_138_30 {d : Nat} {Q : fl_R} (v1 : Int32) (W : fl_W) (h : mi_br (v1 < (W 229 1)) (vp_in v1 61 ∧ (mi_br ((W 232 v1.toNatClampNeg) = 0) (vp_in v1 61 ∧ (∀ W7 : fl_W, W7 = fl_uw W 233 v1.toNatClampNeg (Int32.ofInt (-1)) → hd_138_30 d Q (v1 + Int32.ofInt 1) W7)) (vp_in v1 61 ∧ (vp_in (W 233 v1.toNatClampNeg) 61 ∧ (mi_br ((W 245 (W 233 v1.toNatClampNeg).toNatClampNeg) < 0) (vp_in v1 61 ∧ (vp_in (W 233 v1.toNatClampNeg) 61 ∧ (∀ W4 : fl_W, W4 = fl_uw W 245 (W 233 v1.toNatClampNeg).toNatClampNeg (W 229 6) → ∀ W5 : fl_W, W5 = fl_uw W4 229 6 ((W4 229 6) + (Int32.ofInt 1)) → vp_in v1 61 ∧ (vp_in (W5 233 v1.toNatClampNeg) 61 ∧ (vp_in v1 61 ∧ (∀ W6 : fl_W, W6 = fl_uw W5 233 v1.toNatClampNeg (W5 245 (W5 233 v1.toNatClampNeg).toNatClampNeg) → hd_138_30 d Q (v1 + Int32.ofInt 1) W6)))))) (vp_in v1 61 ∧ (vp_in (W 233 v1.toNatClampNeg) 61 ∧ (vp_in v1 61 ∧ (∀ W3 : fl_W, W3 = fl_uw W 233 v1.toNatClampNeg (W 245 (W 233 v1.toNatClampNeg).toNatClampNeg) → hd_138_30 d Q (v1 + Int32.ofInt 1) W3))))))))) (Q none W)) : hd_138_30 d Q v1 W := fl_fold (⟨rfl, ⟨fun q => have h := h.1 q; ⟨rfl, ⟨rfl, ⟨h.1, have h := h.2; ⟨fun q => have h := h.1 q; ⟨rfl, ⟨rfl, ⟨h.1, have h := h.2; have h := h _ rfl; h⟩⟩⟩, fun q => have h := h.2 q; ⟨rfl, ⟨rfl, ⟨rfl, ⟨h.1, have h := h.2; ⟨rfl, ⟨h.1, have h := h.2; ⟨fun q => have h := h.1 q; ⟨rfl, ⟨rfl, ⟨rfl, ⟨h.1, have h := h.2; ⟨rfl, ⟨rfl, ⟨h.1, have h := h.2; have h := h _ rfl; ⟨rfl, ⟨rfl, ⟨rfl, trivial, have h := h _ rfl; ⟨rfl, ⟨rfl, ⟨rfl, ⟨rfl, ⟨h.1, have h := h.2; ⟨rfl, ⟨h.1, have h := h.2; ⟨rfl, ⟨h.1, have h := h.2; have h := h _ rfl; h⟩⟩⟩⟩⟩⟩⟩⟩⟩⟩⟩⟩⟩⟩⟩⟩⟩⟩⟩, fun q => have h := h.2 q; ⟨rfl, ⟨rfl, ⟨rfl, ⟨rfl, ⟨h.1, have h := h.2; ⟨rfl, ⟨h.1, have h := h.2; ⟨rfl, ⟨h.1, have h := h.2; have h := h _ rfl; h⟩⟩⟩⟩⟩⟩⟩⟩⟩⟩⟩⟩⟩⟩⟩⟩⟩⟩⟩⟩, fun q => have h := h.2 q; ⟨rfl, h⟩⟩⟩)
theorem sx_138 {d : Nat} {Q : fl_R} (W : fl_W) (h : ∀ W1 : fl_W, W1 = fl_uw W 229 6 (Int32.ofInt 0) → hd_138_7 d Q (Int32.ofInt 0) W1) : fl_cal (d + 1) 138 [.ref 229] W Q := fl_intro [7, 30] (fl_fold (⟨rfl, trivial, have h := h _ rfl; ⟨Nat.le_of_ble_eq_true rfl, h⟩⟩))
/-! 139 PlaneDeskModel.isHere(I)Z -/
theorem sx_139 {d : Nat} {Q : fl_R} (v1 : Int32) (W : fl_W) (h : vp_in v1 61 ∧ (mi_br ((W 232 v1.toNatClampNeg) = 0) (Q (some (.int (Int32.ofInt 0))) W) (vp_in v1 61 ∧ (mi_br ((W 233 v1.toNatClampNeg) = (W 229 29)) (Q (some (.int (Int32.ofInt 1))) W) (Q (some (.int (Int32.ofInt 0))) W))))) : fl_cal (d + 1) 139 [.ref 229, .int v1] W Q := fl_intro [] (fl_fold (⟨rfl, ⟨rfl, ⟨h.1, have h := h.2; ⟨fun q => have h := h.1 q; ⟨Or.inl rfl, h⟩, fun q => have h := h.2 q; ⟨rfl, ⟨rfl, ⟨h.1, have h := h.2; ⟨rfl, ⟨fun q => have h := h.1 q; ⟨Or.inr rfl, h⟩, fun q => have h := h.2 q; ⟨Or.inl rfl, h⟩⟩⟩⟩⟩⟩⟩⟩⟩⟩))
/-! 140 PlaneDeskModel.sizeOf(I)I -/
def hd_140_4 (d : Nat) (Q : fl_R) (v1 v2 v3 : Int32) (W : fl_W) : Prop := fl_WP (fl_cal d) 140 [4] Q 4 [some (.ref 229), some (.int v1), some (.int v2), some (.int v3)] [] W
theorem sx_140_4 {d : Nat} {Q : fl_R} (v1 v2 v3 : Int32) (W : fl_W) (h : mi_br (v3 < (W 229 1)) (vp_in v3 61 ∧ (mi_br ((W 232 v3.toNatClampNeg) = 0) (hd_140_4 d Q v1 (v2 + (Int32.ofInt 0)) (v3 + Int32.ofInt 1) W) (vp_in v3 61 ∧ (mi_br ((W 233 v3.toNatClampNeg) = v1) (hd_140_4 d Q v1 (v2 + (Int32.ofInt 1)) (v3 + Int32.ofInt 1) W) (hd_140_4 d Q v1 (v2 + (Int32.ofInt 0)) (v3 + Int32.ofInt 1) W))))) (Q (some (.int v2)) W)) : hd_140_4 d Q v1 v2 v3 W := fl_fold (⟨rfl, ⟨fun q => have h := h.1 q; ⟨rfl, ⟨rfl, ⟨h.1, have h := h.2; ⟨fun q => have h := h.1 q; ⟨Nat.le_of_ble_eq_true rfl, h⟩, fun q => have h := h.2 q; ⟨rfl, ⟨rfl, ⟨h.1, have h := h.2; ⟨fun q => have h := h.1 q; ⟨Nat.le_of_ble_eq_true rfl, h⟩, fun q => have h := h.2 q; ⟨Nat.le_of_ble_eq_true rfl, h⟩⟩⟩⟩⟩⟩⟩⟩⟩, fun q => have h := h.2 q; ⟨trivial, h⟩⟩⟩)
theorem sx_140 {d : Nat} {Q : fl_R} (v1 : Int32) (W : fl_W) (h : hd_140_4 d Q v1 (Int32.ofInt 0) (Int32.ofInt 0) W) : fl_cal (d + 1) 140 [.ref 229, .int v1] W Q := fl_intro [4] (fl_fold (⟨Nat.le_of_ble_eq_true rfl, ⟨Nat.le_of_ble_eq_true rfl, h⟩⟩))
/-! 141 PlaneDeskModel.leastEdge(I)I -/
def hd_141_2 (d : Nat) (Q : fl_R) (v1 v2 : Int32) (W : fl_W) : Prop := fl_WP (fl_cal d) 141 [2] Q 2 [some (.ref 229), some (.int v1), some (.int v2)] [] W
theorem sx_141_2 {d : Nat} {Q : fl_R} (v1 v2 : Int32) (W : fl_W) (h : vp_in v2 61 ∧ (mi_br ((W 232 v2.toNatClampNeg) = 0) (hd_141_2 d Q v1 (v2 + Int32.ofInt 1) W) (vp_in v2 61 ∧ (mi_br ((W 233 v2.toNatClampNeg) = v1) (Q (some (.int v2)) W) (hd_141_2 d Q v1 (v2 + Int32.ofInt 1) W))))) : hd_141_2 d Q v1 v2 W := fl_fold (⟨rfl, ⟨rfl, ⟨h.1, have h := h.2; ⟨fun q => have h := h.1 q; h, fun q => have h := h.2 q; ⟨rfl, ⟨rfl, ⟨h.1, have h := h.2; ⟨fun q => have h := h.1 q; ⟨trivial, h⟩, fun q => have h := h.2 q; h⟩⟩⟩⟩⟩⟩⟩⟩)
theorem sx_141 {d : Nat} {Q : fl_R} (v1 : Int32) (W : fl_W) (h : hd_141_2 d Q v1 (Int32.ofInt 0) W) : fl_cal (d + 1) 141 [.ref 229, .int v1] W Q := fl_intro [2] (fl_fold (⟨Nat.le_of_ble_eq_true rfl, h⟩))
/-! 142 PlaneDeskModel.find(IIIII)I -/
def hd_142_18 (d : Nat) (Q : fl_R) (v2 v3 v4 v5 v6 v7 v8 : Int32) (W : fl_W) : Prop := ∀ (o1 o9 o10 o11 : Option Value), fl_WP (fl_cal d) 142 [18, 37] Q 18 [some (.ref 229), o1, some (.int v2), some (.int v3), some (.int v4), some (.int v5), some (.int v6), some (.int v7), some (.int v8), o9, o10, o11] [] W
def hd_142_37 (d : Nat) (Q : fl_R) (v2 v3 v4 v5 v6 v7 v8 v9 v10 : Int32) (W : fl_W) : Prop := ∀ (o1 o11 : Option Value), fl_WP (fl_cal d) 142 [18, 37] Q 37 [some (.ref 229), o1, some (.int v2), some (.int v3), some (.int v4), some (.int v5), some (.int v6), some (.int v7), some (.int v8), some (.int v9), some (.int v10), o11] [] W
set_option maxRecDepth 20000 in
theorem sx_142_18 {d : Nat} {Q : fl_R} (v2 v3 v4 v5 v6 v7 v8 : Int32) (W : fl_W) (h : mi_br (v8 < v7) (vp_in v8 20 ∧ (hd_142_37 d Q v2 v3 v4 v5 v6 v7 v8 (W 244 v8.toNatClampNeg) (Int32.ofInt 0) W)) (Q (some (.int (Int32.ofInt (-1)))) W)) : hd_142_18 d Q v2 v3 v4 v5 v6 v7 v8 W := fun o1 o9 o10 o11 => fl_fold (⟨fun q => have h := h.1 q; ⟨rfl, ⟨rfl, ⟨h.1, have h := h.2; ⟨Nat.le_of_ble_eq_true rfl, ⟨Nat.le_of_ble_eq_true rfl, h _ _⟩⟩⟩⟩⟩, fun q => have h := h.2 q; ⟨trivial, h⟩⟩)
set_option maxRecDepth 20000 in
theorem sx_142_37 {d : Nat} {Q : fl_R} (v2 v3 v4 v5 v6 v7 v8 v9 v10 : Int32) (W : fl_W) (h : mi_br (v10 < (W 229 0)) (mi_br (((v6 >>> (v10 &&& 31)) &&& (Int32.ofInt 1)) = (Int32.ofInt 1)) (mi_br ((Int32.ofInt (-1)) < 0) (hd_142_37 d Q v2 v3 v4 v5 v6 v7 v8 v9 (v10 + Int32.ofInt 1) W) (mi_br ((Int32.ofInt (-1)) = v5) (hd_142_37 d Q v2 v3 v4 v5 v6 v7 v8 v9 (v10 + Int32.ofInt 1) W) (fl_cal d 139 [.ref 229, .int (Int32.ofInt (-1))] W (fl_q1 fun x3 W10 => mi_br (x3 = 0) (hd_142_37 d Q v2 v3 v4 v5 v6 v7 v8 v9 (v10 + Int32.ofInt 1) W10) (mi_br (v4 = (Int32.ofInt (-1))) (mi_br (((v2 >>> (v10 &&& 31)) &&& (Int32.ofInt 1)) = (Int32.ofInt 1)) (vp_in v10 20 ∧ (∀ W13 : fl_W, W13 = fl_uw W10 251 v10.toNatClampNeg v9 → Q (some (.int v10)) W13)) (mi_br (((v3 >>> (v10 &&& 31)) &&& (Int32.ofInt 1)) = 0) (hd_142_37 d Q v2 v3 v4 v5 v6 v7 v8 v9 (v10 + Int32.ofInt 1) W10) (vp_in v10 20 ∧ (∀ W11 : fl_W, W11 = fl_uw W10 251 v10.toNatClampNeg v9 → vp_in v7 20 ∧ (∀ W12 : fl_W, W12 = fl_uw W11 244 v7.toNatClampNeg v10 → hd_142_37 d Q v2 v3 v4 v5 (v6 ||| ((Int32.ofInt 1) <<< (v10 &&& 31))) (v7 + Int32.ofInt 1) v8 v9 (v10 + Int32.ofInt 1) W12))))) (vp_in (Int32.ofInt (-1)) 61 ∧ (mi_br ((W10 249 (Int32.ofInt (-1)).toNatClampNeg) = v4) (mi_br (((v2 >>> (v10 &&& 31)) &&& (Int32.ofInt 1)) = (Int32.ofInt 1)) (vp_in v10 20 ∧ (∀ W16 : fl_W, W16 = fl_uw W10 251 v10.toNatClampNeg v9 → Q (some (.int v10)) W16)) (mi_br (((v3 >>> (v10 &&& 31)) &&& (Int32.ofInt 1)) = 0) (hd_142_37 d Q v2 v3 v4 v5 v6 v7 v8 v9 (v10 + Int32.ofInt 1) W10) (vp_in v10 20 ∧ (∀ W14 : fl_W, W14 = fl_uw W10 251 v10.toNatClampNeg v9 → vp_in v7 20 ∧ (∀ W15 : fl_W, W15 = fl_uw W14 244 v7.toNatClampNeg v10 → hd_142_37 d Q v2 v3 v4 v5 (v6 ||| ((Int32.ofInt 1) <<< (v10 &&& 31))) (v7 + Int32.ofInt 1) v8 v9 (v10 + Int32.ofInt 1) W15))))) (hd_142_37 d Q v2 v3 v4 v5 v6 v7 v8 v9 (v10 + Int32.ofInt 1) W10)))))))) (fl_cal d 128 [.ref 229, .int v10, .int v9] W (fl_q1 fun x1 W2 => mi_br (x1 < 0) (hd_142_37 d Q v2 v3 v4 v5 v6 v7 v8 v9 (v10 + Int32.ofInt 1) W2) (mi_br (x1 = v5) (hd_142_37 d Q v2 v3 v4 v5 v6 v7 v8 v9 (v10 + Int32.ofInt 1) W2) (fl_cal d 139 [.ref 229, .int x1] W2 (fl_q1 fun x2 W3 => mi_br (x2 = 0) (hd_142_37 d Q v2 v3 v4 v5 v6 v7 v8 v9 (v10 + Int32.ofInt 1) W3) (mi_br (v4 = (Int32.ofInt (-1))) (mi_br (((v2 >>> (v10 &&& 31)) &&& (Int32.ofInt 1)) = (Int32.ofInt 1)) (vp_in v10 20 ∧ (∀ W6 : fl_W, W6 = fl_uw W3 251 v10.toNatClampNeg v9 → Q (some (.int v10)) W6)) (mi_br (((v3 >>> (v10 &&& 31)) &&& (Int32.ofInt 1)) = 0) (hd_142_37 d Q v2 v3 v4 v5 v6 v7 v8 v9 (v10 + Int32.ofInt 1) W3) (vp_in v10 20 ∧ (∀ W4 : fl_W, W4 = fl_uw W3 251 v10.toNatClampNeg v9 → vp_in v7 20 ∧ (∀ W5 : fl_W, W5 = fl_uw W4 244 v7.toNatClampNeg v10 → hd_142_37 d Q v2 v3 v4 v5 (v6 ||| ((Int32.ofInt 1) <<< (v10 &&& 31))) (v7 + Int32.ofInt 1) v8 v9 (v10 + Int32.ofInt 1) W5))))) (vp_in x1 61 ∧ (mi_br ((W3 249 x1.toNatClampNeg) = v4) (mi_br (((v2 >>> (v10 &&& 31)) &&& (Int32.ofInt 1)) = (Int32.ofInt 1)) (vp_in v10 20 ∧ (∀ W9 : fl_W, W9 = fl_uw W3 251 v10.toNatClampNeg v9 → Q (some (.int v10)) W9)) (mi_br (((v3 >>> (v10 &&& 31)) &&& (Int32.ofInt 1)) = 0) (hd_142_37 d Q v2 v3 v4 v5 v6 v7 v8 v9 (v10 + Int32.ofInt 1) W3) (vp_in v10 20 ∧ (∀ W7 : fl_W, W7 = fl_uw W3 251 v10.toNatClampNeg v9 → vp_in v7 20 ∧ (∀ W8 : fl_W, W8 = fl_uw W7 244 v7.toNatClampNeg v10 → hd_142_37 d Q v2 v3 v4 v5 (v6 ||| ((Int32.ofInt 1) <<< (v10 &&& 31))) (v7 + Int32.ofInt 1) v8 v9 (v10 + Int32.ofInt 1) W8))))) (hd_142_37 d Q v2 v3 v4 v5 v6 v7 v8 v9 (v10 + Int32.ofInt 1) W3)))))))))) (hd_142_18 d Q v2 v3 v4 v5 v6 v7 (v8 + Int32.ofInt 1) W)) : hd_142_37 d Q v2 v3 v4 v5 v6 v7 v8 v9 v10 W := fun o1 o11 => fl_fold (⟨rfl, ⟨fun q => have h := h.1 q; ⟨fun q => have h := h.1 q; ⟨Nat.le_of_ble_eq_true rfl, ⟨fun q => have h := h.1 q; h _ _, fun q => have h := h.2 q; ⟨fun q => have h := h.1 q; h _ _, fun q => have h := h.2 q; ⟨Nat.le_of_ble_eq_true rfl, rfl, rfl, rfl, fl_c1 h (fun x3 W10 h => ⟨fun q => have h := h.1 q; h _ _, fun q => have h := h.2 q; ⟨fun q => have h := h.1 q; ⟨fun q => have h := h.1 q; ⟨rfl, ⟨rfl, ⟨h.1, have h := h.2; have h := h _ rfl; ⟨trivial, h⟩⟩⟩⟩, fun q => have h := h.2 q; ⟨fun q => have h := h.1 q; h _ _, fun q => have h := h.2 q; ⟨Nat.le_of_ble_eq_true rfl, ⟨rfl, ⟨rfl, ⟨h.1, have h := h.2; have h := h _ rfl; ⟨rfl, ⟨rfl, ⟨h.1, have h := h.2; have h := h _ rfl; h _ _⟩⟩⟩⟩⟩⟩⟩⟩⟩, fun q => have h := h.2 q; ⟨rfl, ⟨rfl, ⟨h.1, have h := h.2; ⟨fun q => have h := h.1 q; ⟨fun q => have h := h.1 q; ⟨rfl, ⟨rfl, ⟨h.1, have h := h.2; have h := h _ rfl; ⟨trivial, h⟩⟩⟩⟩, fun q => have h := h.2 q; ⟨fun q => have h := h.1 q; h _ _, fun q => have h := h.2 q; ⟨Nat.le_of_ble_eq_true rfl, ⟨rfl, ⟨rfl, ⟨h.1, have h := h.2; have h := h _ rfl; ⟨rfl, ⟨rfl, ⟨h.1, have h := h.2; have h := h _ rfl; h _ _⟩⟩⟩⟩⟩⟩⟩⟩⟩, fun q => have h := h.2 q; h _ _⟩⟩⟩⟩⟩⟩)⟩⟩⟩⟩, fun q => have h := h.2 q; ⟨Nat.le_of_ble_eq_true rfl, rfl, rfl, rfl, fl_c1 h (fun x1 W2 h => ⟨Nat.le_of_ble_eq_true rfl, ⟨fun q => have h := h.1 q; h _ _, fun q => have h := h.2 q; ⟨fun q => have h := h.1 q; h _ _, fun q => have h := h.2 q; ⟨Nat.le_of_ble_eq_true rfl, rfl, rfl, rfl, fl_c1 h (fun x2 W3 h => ⟨fun q => have h := h.1 q; h _ _, fun q => have h := h.2 q; ⟨fun q => have h := h.1 q; ⟨fun q => have h := h.1 q; ⟨rfl, ⟨rfl, ⟨h.1, have h := h.2; have h := h _ rfl; ⟨trivial, h⟩⟩⟩⟩, fun q => have h := h.2 q; ⟨fun q => have h := h.1 q; h _ _, fun q => have h := h.2 q; ⟨Nat.le_of_ble_eq_true rfl, ⟨rfl, ⟨rfl, ⟨h.1, have h := h.2; have h := h _ rfl; ⟨rfl, ⟨rfl, ⟨h.1, have h := h.2; have h := h _ rfl; h _ _⟩⟩⟩⟩⟩⟩⟩⟩⟩, fun q => have h := h.2 q; ⟨rfl, ⟨rfl, ⟨h.1, have h := h.2; ⟨fun q => have h := h.1 q; ⟨fun q => have h := h.1 q; ⟨rfl, ⟨rfl, ⟨h.1, have h := h.2; have h := h _ rfl; ⟨trivial, h⟩⟩⟩⟩, fun q => have h := h.2 q; ⟨fun q => have h := h.1 q; h _ _, fun q => have h := h.2 q; ⟨Nat.le_of_ble_eq_true rfl, ⟨rfl, ⟨rfl, ⟨h.1, have h := h.2; have h := h _ rfl; ⟨rfl, ⟨rfl, ⟨h.1, have h := h.2; have h := h _ rfl; h _ _⟩⟩⟩⟩⟩⟩⟩⟩⟩, fun q => have h := h.2 q; h _ _⟩⟩⟩⟩⟩⟩)⟩⟩⟩⟩)⟩⟩, fun q => have h := h.2 q; h _ _ _ _⟩⟩)
set_option maxRecDepth 20000 in
theorem sx_142 {d : Nat} {Q : fl_R} (v1 v2 v3 v4 v5 : Int32) (W : fl_W) (h : vp_in (Int32.ofInt 0) 20 ∧ (∀ W1 : fl_W, W1 = fl_uw W 244 (Int32.ofInt 0).toNatClampNeg v1 → hd_142_18 d Q v2 v3 v4 v5 ((Int32.ofInt 1) <<< (v1 &&& 31)) (Int32.ofInt 1) (Int32.ofInt 0) W1)) : fl_cal (d + 1) 142 [.ref 229, .int v1, .int v2, .int v3, .int v4, .int v5] W Q := fl_intro [18, 37] (fl_fold (⟨Nat.le_of_ble_eq_true rfl, ⟨rfl, ⟨rfl, ⟨h.1, have h := h.2; have h := h _ rfl; ⟨Nat.le_of_ble_eq_true rfl, ⟨Nat.le_of_ble_eq_true rfl, h _ _ _ _⟩⟩⟩⟩⟩⟩))
/-! 143 PlaneDeskModel.allVertices()I -/
theorem sx_143 {d : Nat} {Q : fl_R} (W : fl_W) (h : Q (some (.int (((Int32.ofInt 1) <<< ((W 229 0) &&& 31)) - (Int32.ofInt 1)))) W) : fl_cal (d + 1) 143 [.ref 229] W Q := fl_intro [] (fl_fold (⟨rfl, ⟨trivial, h⟩⟩))
/-! 144 PlaneDeskModel.takeWay(II)V -/
def hd_144_12 (d : Nat) (Q : fl_R) (v1 v2 v3 : Int32) (W : fl_W) : Prop := ∀ (o4 : Option Value), fl_WP (fl_cal d) 144 [12, 50] Q 12 [some (.ref 229), some (.int v1), some (.int v2), some (.int v3), o4] [] W
def hd_144_50 (d : Nat) (Q : fl_R) (v1 v3 v4 : Int32) (W : fl_W) : Prop := ∀ (o2 : Option Value), fl_WP (fl_cal d) 144 [12, 50] Q 50 [some (.ref 229), some (.int v1), o2, some (.int v3), some (.int v4)] [] W
theorem sx_144_12 {d : Nat} {Q : fl_R} (v1 v2 v3 : Int32) (W : fl_W) (h : mi_br (v3 = v1) (vp_in v2 20 ∧ (hd_144_50 d Q v1 (W 229 35) (W 251 v2.toNatClampNeg) W)) (∀ W2 : fl_W, W2 = fl_uw W 229 35 ((W 229 35) + (Int32.ofInt 1)) → vp_in v3 20 ∧ (hd_144_12 d Q v1 v2 (W2 251 v3.toNatClampNeg) W2))) : hd_144_12 d Q v1 v2 v3 W := fun o4 => fl_fold (⟨fun q => have h := h.1 q; ⟨rfl, ⟨Nat.le_of_ble_eq_true rfl, ⟨rfl, ⟨rfl, ⟨h.1, have h := h.2; ⟨Nat.le_of_ble_eq_true rfl, h _⟩⟩⟩⟩⟩⟩, fun q => have h := h.2 q; ⟨rfl, ⟨rfl, ⟨rfl, trivial, have h := h _ rfl; ⟨rfl, ⟨rfl, ⟨h.1, have h := h.2; ⟨Nat.le_of_ble_eq_true rfl, h _⟩⟩⟩⟩⟩⟩⟩⟩)
theorem sx_144_50 {d : Nat} {Q : fl_R} (v1 v3 v4 : Int32) (W : fl_W) (h : mi_br (v4 = v1) (Q none W) (vp_in (v3 + Int32.ofInt (-1)) 20 ∧ (∀ W3 : fl_W, W3 = fl_uw W 252 (v3 + Int32.ofInt (-1)).toNatClampNeg v4 → vp_in v4 20 ∧ (hd_144_50 d Q v1 (v3 + Int32.ofInt (-1)) (W3 251 v4.toNatClampNeg) W3)))) : hd_144_50 d Q v1 v3 v4 W := fun o2 => fl_fold (⟨fun q => have h := h.1 q; ⟨rfl, h⟩, fun q => have h := h.2 q; ⟨rfl, ⟨rfl, ⟨h.1, have h := h.2; have h := h _ rfl; ⟨rfl, ⟨rfl, ⟨h.1, have h := h.2; ⟨Nat.le_of_ble_eq_true rfl, h _⟩⟩⟩⟩⟩⟩⟩⟩)
theorem sx_144 {d : Nat} {Q : fl_R} (v1 v2 : Int32) (W : fl_W) (h : ∀ W1 : fl_W, W1 = fl_uw W 229 35 (Int32.ofInt 0) → vp_in v2 20 ∧ (hd_144_12 d Q v1 v2 (W1 251 v2.toNatClampNeg) W1)) : fl_cal (d + 1) 144 [.ref 229, .int v1, .int v2] W Q := fl_intro [12, 50] (fl_fold (⟨rfl, trivial, have h := h _ rfl; ⟨rfl, ⟨rfl, ⟨h.1, have h := h.2; ⟨Nat.le_of_ble_eq_true rfl, h _⟩⟩⟩⟩⟩))
/-! 145 PlaneDeskModel.firstRings(I)V -/
def hd_145_102 (d : Nat) (Q : fl_R) (v4 : Int32) (W : fl_W) : Prop := ∀ (o1 o2 o3 : Option Value), fl_WP (fl_cal d) 145 [102, 160, 191] Q 102 [some (.ref 229), o1, o2, o3, some (.int v4)] [] W
def hd_145_160 (d : Nat) (Q : fl_R) (v4 : Int32) (W : fl_W) : Prop := ∀ (o1 o2 o3 : Option Value), fl_WP (fl_cal d) 145 [102, 160, 191] Q 160 [some (.ref 229), o1, o2, o3, some (.int v4)] [] W
def hd_145_191 (d : Nat) (Q : fl_R) (v4 : Int32) (W : fl_W) : Prop := ∀ (o1 o2 o3 : Option Value), fl_WP (fl_cal d) 145 [102, 160, 191] Q 191 [some (.ref 229), o1, o2, o3, some (.int v4)] [] W
set_option maxRecDepth 20000 in
theorem sx_145_102 {d : Nat} {Q : fl_R} (v4 : Int32) (W : fl_W) (h : mi_br (v4 < (W 229 35)) (vp_in v4 20 ∧ (vp_in ((Int32.ofInt 2) + v4) 1200 ∧ (∀ W11 : fl_W, W11 = fl_uw W 246 ((Int32.ofInt 2) + v4).toNatClampNeg (W 252 v4.toNatClampNeg) → vp_in (((W11 229 35) - (Int32.ofInt 1)) - v4) 20 ∧ (vp_in ((Int8.ofInt 21).toInt32 + v4) 1200 ∧ (∀ W12 : fl_W, W12 = fl_uw W11 246 ((Int8.ofInt 21).toInt32 + v4).toNatClampNeg (W11 252 (((W11 229 35) - (Int32.ofInt 1)) - v4).toNatClampNeg) → hd_145_102 d Q (v4 + Int32.ofInt 1) W12))))) (hd_145_160 d Q (Int32.ofInt 0) W)) : hd_145_102 d Q v4 W := fun o1 o2 o3 => fl_fold (⟨rfl, ⟨fun q => have h := h.1 q; ⟨rfl, ⟨rfl, ⟨rfl, ⟨h.1, have h := h.2; ⟨rfl, ⟨h.1, have h := h.2; have h := h _ rfl; ⟨rfl, ⟨rfl, ⟨rfl, ⟨rfl, ⟨h.1, have h := h.2; ⟨rfl, ⟨h.1, have h := h.2; have h := h _ rfl; h _ _ _⟩⟩⟩⟩⟩⟩⟩⟩⟩⟩⟩⟩⟩, fun q => have h := h.2 q; ⟨Nat.le_of_ble_eq_true rfl, h _ _ _⟩⟩⟩)
set_option maxRecDepth 20000 in
theorem sx_145_160 {d : Nat} {Q : fl_R} (v4 : Int32) (W : fl_W) (h : mi_br (v4 < (W 229 1)) (vp_in v4 61 ∧ (∀ W14 : fl_W, W14 = fl_uw W 248 v4.toNatClampNeg (Int32.ofInt 0) → hd_145_160 d Q (v4 + Int32.ofInt 1) W14)) (∀ W13 : fl_W, W13 = fl_uw W 229 28 (Int32.ofInt 0) → hd_145_191 d Q (Int32.ofInt 0) W13)) : hd_145_160 d Q v4 W := fun o1 o2 o3 => fl_fold (⟨rfl, ⟨fun q => have h := h.1 q; ⟨rfl, ⟨Or.inl rfl, ⟨rfl, ⟨h.1, have h := h.2; have h := h _ rfl; h _ _ _⟩⟩⟩⟩, fun q => have h := h.2 q; ⟨rfl, trivial, have h := h _ rfl; ⟨Nat.le_of_ble_eq_true rfl, h _ _ _⟩⟩⟩⟩)
set_option maxRecDepth 20000 in
theorem sx_145_191 {d : Nat} {Q : fl_R} (v4 : Int32) (W : fl_W) (h : vp_in (Int32.ofInt 0) 60 ∧ (mi_br (v4 < (W 247 (Int32.ofInt 0).toNatClampNeg)) (vp_in v4 1200 ∧ (∀ W15 : fl_W, W15 = fl_uw W 229 28 ((W 229 28) ||| ((Int32.ofInt 1) <<< ((W 246 v4.toNatClampNeg) &&& 31))) → vp_in v4 1200 ∧ (vp_in (Int32.ofInt 0) 60 ∧ ((¬ (W15 247 (Int32.ofInt 0).toNatClampNeg) = 0) ∧ (vp_in ((v4 + (Int32.ofInt 1)) - (v4 + (Int32.ofInt 1)) / (W15 247 (Int32.ofInt 0).toNatClampNeg) * (W15 247 (Int32.ofInt 0).toNatClampNeg)) 1200 ∧ (fl_cal d 128 [.ref 229, .int (W15 246 v4.toNatClampNeg), .int (W15 246 ((v4 + (Int32.ofInt 1)) - (v4 + (Int32.ofInt 1)) / (W15 247 (Int32.ofInt 0).toNatClampNeg) * (W15 247 (Int32.ofInt 0).toNatClampNeg)).toNatClampNeg)] W15 (fl_q1 fun x3 W16 => vp_in x3 61 ∧ (∀ W17 : fl_W, W17 = fl_uw W16 248 x3.toNatClampNeg (Int32.ofInt 1) → hd_145_191 d Q (v4 + Int32.ofInt 1) W17)))))))) (Q none W))) : hd_145_191 d Q v4 W := fun o1 o2 o3 => fl_fold (⟨rfl, ⟨rfl, ⟨h.1, have h := h.2; ⟨fun q => have h := h.1 q; ⟨rfl, ⟨rfl, ⟨rfl, ⟨rfl, ⟨h.1, have h := h.2; ⟨rfl, trivial, have h := h _ rfl; ⟨rfl, ⟨rfl, ⟨rfl, ⟨h.1, have h := h.2; ⟨rfl, ⟨rfl, ⟨rfl, ⟨h.1, have h := h.2; ⟨h.1, have h := h.2; ⟨rfl, ⟨h.1, have h := h.2; ⟨Nat.le_of_ble_eq_true rfl, rfl, rfl, rfl, fl_c1 h (fun x3 W16 h => ⟨Or.inr rfl, ⟨rfl, ⟨h.1, have h := h.2; have h := h _ rfl; h _ _ _⟩⟩⟩)⟩⟩⟩⟩⟩⟩⟩⟩⟩⟩⟩⟩⟩⟩⟩⟩⟩⟩, fun q => have h := h.2 q; ⟨rfl, h⟩⟩⟩⟩⟩)
set_option maxRecDepth 20000 in
theorem sx_145 {d : Nat} {Q : fl_R} (v1 : Int32) (W : fl_W) (h : vp_in v1 61 ∧ (vp_in v1 61 ∧ (fl_cal d 143 [.ref 229] W (fl_q1 fun x1 W1 => fl_cal d 142 [.ref 229, .int (W 231 v1.toNatClampNeg), .int ((Int32.ofInt 1) <<< ((W 230 v1.toNatClampNeg) &&& 31)), .int x1, .int (Int32.ofInt (-1)), .int v1] W1 (fl_q1 fun x2 W2 => fl_cal d 144 [.ref 229, .int (W 231 v1.toNatClampNeg), .int (W 230 v1.toNatClampNeg)] W2 (fl_q0 fun W3 => ∀ W4 : fl_W, W4 = fl_uw W3 229 26 (Int32.ofInt 2) → vp_in (Int32.ofInt 0) 60 ∧ (∀ W5 : fl_W, W5 = fl_uw W4 247 (Int32.ofInt 0).toNatClampNeg ((W4 229 35) + (Int32.ofInt 2)) → vp_in (Int32.ofInt 1) 60 ∧ (∀ W6 : fl_W, W6 = fl_uw W5 247 (Int32.ofInt 1).toNatClampNeg ((W5 229 35) + (Int32.ofInt 2)) → vp_in (Int32.ofInt 0) 1200 ∧ (∀ W7 : fl_W, W7 = fl_uw W6 246 (Int32.ofInt 0).toNatClampNeg (W 230 v1.toNatClampNeg) → vp_in (Int32.ofInt 1) 1200 ∧ (∀ W8 : fl_W, W8 = fl_uw W7 246 (Int32.ofInt 1).toNatClampNeg (W 231 v1.toNatClampNeg) → vp_in ((Int8.ofInt 20).toInt32) 1200 ∧ (∀ W9 : fl_W, W9 = fl_uw W8 246 ((Int8.ofInt 20).toInt32).toNatClampNeg (W 230 v1.toNatClampNeg) → vp_in ((Int8.ofInt 21).toInt32 + (W9 229 35)) 1200 ∧ (∀ W10 : fl_W, W10 = fl_uw W9 246 ((Int8.ofInt 21).toInt32 + (W9 229 35)).toNatClampNeg (W 231 v1.toNatClampNeg) → hd_145_102 d Q (Int32.ofInt 0) W10)))))))))))) : fl_cal (d + 1) 145 [.ref 229, .int v1] W Q := fl_intro [102, 160, 191] (fl_fold (⟨rfl, ⟨rfl, ⟨h.1, have h := h.2; ⟨Nat.le_of_ble_eq_true rfl, ⟨rfl, ⟨rfl, ⟨h.1, have h := h.2; ⟨Nat.le_of_ble_eq_true rfl, ⟨Nat.le_of_ble_eq_true rfl, rfl, rfl, rfl, fl_c1 h (fun x1 W1 h => ⟨Nat.le_of_ble_eq_true rfl, rfl, rfl, rfl, fl_c1 h (fun x2 W2 h => ⟨rfl, ⟨Nat.le_of_ble_eq_true rfl, rfl, rfl, rfl, fl_c0 h (fun W3 h => ⟨rfl, trivial, have h := h _ rfl; ⟨rfl, ⟨rfl, ⟨rfl, ⟨h.1, have h := h.2; have h := h _ rfl; ⟨rfl, ⟨rfl, ⟨rfl, ⟨h.1, have h := h.2; have h := h _ rfl; ⟨rfl, ⟨rfl, ⟨h.1, have h := h.2; have h := h _ rfl; ⟨rfl, ⟨rfl, ⟨h.1, have h := h.2; have h := h _ rfl; ⟨rfl, ⟨rfl, ⟨h.1, have h := h.2; have h := h _ rfl; ⟨rfl, ⟨rfl, ⟨rfl, ⟨h.1, have h := h.2; have h := h _ rfl; ⟨Nat.le_of_ble_eq_true rfl, h _ _ _⟩⟩⟩⟩⟩⟩⟩⟩⟩⟩⟩⟩⟩⟩⟩⟩⟩⟩⟩⟩⟩⟩⟩)⟩⟩)⟩)⟩⟩⟩⟩⟩⟩⟩⟩⟩))
/-! 146 PlaneDeskModel.makeParts()V -/
def hd_146_7 (d : Nat) (Q : fl_R) (v1 : Int32) (W : fl_W) : Prop := ∀ (o2 o3 o4 o5 : Option Value), fl_WP (fl_cal d) 146 [7, 30, 94, 104, 197] Q 7 [some (.ref 229), some (.int v1), o2, o3, o4, o5] [] W
def hd_146_30 (d : Nat) (Q : fl_R) (v1 : Int32) (W : fl_W) : Prop := ∀ (o2 o3 o4 o5 : Option Value), fl_WP (fl_cal d) 146 [7, 30, 94, 104, 197] Q 30 [some (.ref 229), some (.int v1), o2, o3, o4, o5] [] W
def hd_146_94 (d : Nat) (Q : fl_R) (v1 v2 v3 : Int32) (W : fl_W) : Prop := ∀ (o4 o5 : Option Value), fl_WP (fl_cal d) 146 [7, 30, 94, 104, 197] Q 94 [some (.ref 229), some (.int v1), some (.int v2), some (.int v3), o4, o5] [] W
def hd_146_104 (d : Nat) (Q : fl_R) (v1 v2 v3 v4 : Int32) (W : fl_W) : Prop := ∀ (o5 : Option Value), fl_WP (fl_cal d) 146 [7, 30, 94, 104, 197] Q 104 [some (.ref 229), some (.int v1), some (.int v2), some (.int v3), some (.int v4), o5] [] W
def hd_146_197 (d : Nat) (Q : fl_R) (v1 v2 v4 : Int32) (W : fl_W) : Prop := ∀ (o3 o5 : Option Value), fl_WP (fl_cal d) 146 [7, 30, 94, 104, 197] Q 197 [some (.ref 229), some (.int v1), some (.int v2), o3, some (.int v4), o5] [] W
set_option maxRecDepth 20000 in
theorem sx_146_7 {d : Nat} {Q : fl_R} (v1 : Int32) (W : fl_W) (h : mi_br (v1 < (W 229 1)) (vp_in v1 61 ∧ (∀ W2 : fl_W, W2 = fl_uw W 249 v1.toNatClampNeg (Int32.ofInt (-1)) → hd_146_7 d Q (v1 + Int32.ofInt 1) W2)) (hd_146_30 d Q (Int32.ofInt 0) W)) : hd_146_7 d Q v1 W := fun o2 o3 o4 o5 => fl_fold (⟨rfl, ⟨fun q => have h := h.1 q; ⟨rfl, ⟨rfl, ⟨h.1, have h := h.2; have h := h _ rfl; h _ _ _ _⟩⟩⟩, fun q => have h := h.2 q; ⟨Nat.le_of_ble_eq_true rfl, h _ _ _ _⟩⟩⟩)
set_option maxRecDepth 20000 in
theorem sx_146_30 {d : Nat} {Q : fl_R} (v1 : Int32) (W : fl_W) (h : mi_br (v1 < (W 229 1)) (fl_cal d 139 [.ref 229, .int v1] W (fl_q1 fun x1 W3 => mi_br (x1 = 0) (hd_146_30 d Q (v1 + Int32.ofInt 1) W3) (vp_in v1 61 ∧ (mi_br ((W3 248 v1.toNatClampNeg) = 0) (vp_in v1 61 ∧ (mi_br ((W3 249 v1.toNatClampNeg) < 0) (vp_in v1 61 ∧ (vp_in v1 61 ∧ (hd_146_94 d Q v1 ((((Int32.ofInt 1) <<< ((W3 230 v1.toNatClampNeg) &&& 31)) ||| ((Int32.ofInt 1) <<< ((W3 231 v1.toNatClampNeg) &&& 31))) &&& ((W3 229 28) ^^^ (Int32.ofInt (-1)))) (Int32.ofInt 0) W3))) (hd_146_30 d Q (v1 + Int32.ofInt 1) W3))) (hd_146_30 d Q (v1 + Int32.ofInt 1) W3))))) (Q none W)) : hd_146_30 d Q v1 W := fun o2 o3 o4 o5 => fl_fold (⟨rfl, ⟨fun q => have h := h.1 q; ⟨Nat.le_of_ble_eq_true rfl, rfl, rfl, rfl, fl_c1 h (fun x1 W3 h => ⟨fun q => have h := h.1 q; h _ _ _ _, fun q => have h := h.2 q; ⟨rfl, ⟨rfl, ⟨h.1, have h := h.2; ⟨fun q => have h := h.1 q; ⟨rfl, ⟨rfl, ⟨h.1, have h := h.2; ⟨fun q => have h := h.1 q; ⟨rfl, ⟨rfl, ⟨h.1, have h := h.2; ⟨rfl, ⟨rfl, ⟨h.1, have h := h.2; ⟨rfl, ⟨Nat.le_of_ble_eq_true rfl, ⟨Nat.le_of_ble_eq_true rfl, h _ _⟩⟩⟩⟩⟩⟩⟩⟩⟩, fun q => have h := h.2 q; h _ _ _ _⟩⟩⟩⟩, fun q => have h := h.2 q; h _ _ _ _⟩⟩⟩⟩⟩)⟩, fun q => have h := h.2 q; ⟨rfl, h⟩⟩⟩)
set_option maxRecDepth 20000 in
theorem sx_146_94 {d : Nat} {Q : fl_R} (v1 v2 v3 : Int32) (W : fl_W) (h : mi_br (v2 = v3) (vp_in (W 229 32) 61 ∧ (∀ W4 : fl_W, W4 = fl_uw W 250 (W 229 32).toNatClampNeg (Int32.ofInt 0) → hd_146_197 d Q v1 v2 (Int32.ofInt 0) W4)) (hd_146_104 d Q v1 v2 v2 (Int32.ofInt 0) W)) : hd_146_94 d Q v1 v2 v3 W := fun o4 o5 => fl_fold (⟨fun q => have h := h.1 q; ⟨rfl, ⟨rfl, ⟨rfl, ⟨h.1, have h := h.2; have h := h _ rfl; ⟨Nat.le_of_ble_eq_true rfl, h _ _⟩⟩⟩⟩⟩, fun q => have h := h.2 q; ⟨Nat.le_of_ble_eq_true rfl, ⟨Nat.le_of_ble_eq_true rfl, h _⟩⟩⟩)
set_option maxRecDepth 20000 in
theorem sx_146_104 {d : Nat} {Q : fl_R} (v1 v2 v3 v4 : Int32) (W : fl_W) (h : mi_br (v4 < (W 229 1)) (fl_cal d 139 [.ref 229, .int v4] W (fl_q1 fun x3 W11 => mi_br (x3 = 0) (hd_146_104 d Q v1 v2 v3 (v4 + Int32.ofInt 1) W11) (vp_in v4 61 ∧ (vp_in v4 61 ∧ (mi_br (((((Int32.ofInt 1) <<< ((W11 230 v4.toNatClampNeg) &&& 31)) ||| ((Int32.ofInt 1) <<< ((W11 231 v4.toNatClampNeg) &&& 31))) &&& v2) = 0) (hd_146_104 d Q v1 v2 v3 (v4 + Int32.ofInt 1) W11) (vp_in v4 61 ∧ (vp_in v4 61 ∧ (hd_146_104 d Q v1 (v2 ||| ((((Int32.ofInt 1) <<< ((W11 230 v4.toNatClampNeg) &&& 31)) ||| ((Int32.ofInt 1) <<< ((W11 231 v4.toNatClampNeg) &&& 31))) &&& ((W11 229 28) ^^^ (Int32.ofInt (-1))))) v3 (v4 + Int32.ofInt 1) W11)))))))) (hd_146_94 d Q v1 v2 v3 W)) : hd_146_104 d Q v1 v2 v3 v4 W := fun o5 => fl_fold (⟨rfl, ⟨fun q => have h := h.1 q; ⟨Nat.le_of_ble_eq_true rfl, rfl, rfl, rfl, fl_c1 h (fun x3 W11 h => ⟨fun q => have h := h.1 q; h _, fun q => have h := h.2 q; ⟨rfl, ⟨rfl, ⟨h.1, have h := h.2; ⟨rfl, ⟨rfl, ⟨h.1, have h := h.2; ⟨fun q => have h := h.1 q; h _, fun q => have h := h.2 q; ⟨rfl, ⟨rfl, ⟨h.1, have h := h.2; ⟨rfl, ⟨rfl, ⟨h.1, have h := h.2; ⟨rfl, ⟨Nat.le_of_ble_eq_true rfl, h _⟩⟩⟩⟩⟩⟩⟩⟩⟩⟩⟩⟩⟩⟩⟩⟩)⟩, fun q => have h := h.2 q; h _ _⟩⟩)
set_option maxRecDepth 20000 in
theorem sx_146_197 {d : Nat} {Q : fl_R} (v1 v2 v4 : Int32) (W : fl_W) (h : mi_br (v4 < (W 229 1)) (vp_in v4 61 ∧ (vp_in v4 61 ∧ (fl_cal d 139 [.ref 229, .int v4] W (fl_q1 fun x2 W6 => mi_br (x2 = 0) (hd_146_197 d Q v1 v2 (v4 + Int32.ofInt 1) W6) (mi_br (v4 = v1) (vp_in v4 61 ∧ (∀ W7 : fl_W, W7 = fl_uw W6 249 v4.toNatClampNeg (W6 229 32) → vp_in (W7 229 32) 61 ∧ (vp_in (W7 229 32) 61 ∧ (∀ W8 : fl_W, W8 = fl_uw W7 250 (W7 229 32).toNatClampNeg ((W7 250 (W7 229 32).toNatClampNeg) ||| ((((Int32.ofInt 1) <<< ((W 230 v4.toNatClampNeg) &&& 31)) ||| ((Int32.ofInt 1) <<< ((W 231 v4.toNatClampNeg) &&& 31))) &&& (W7 229 28))) → hd_146_197 d Q v1 v2 (v4 + Int32.ofInt 1) W8)))) (mi_br (((((Int32.ofInt 1) <<< ((W 230 v4.toNatClampNeg) &&& 31)) ||| ((Int32.ofInt 1) <<< ((W 231 v4.toNatClampNeg) &&& 31))) &&& v2) = 0) (hd_146_197 d Q v1 v2 (v4 + Int32.ofInt 1) W6) (vp_in v4 61 ∧ (∀ W9 : fl_W, W9 = fl_uw W6 249 v4.toNatClampNeg (W6 229 32) → vp_in (W9 229 32) 61 ∧ (vp_in (W9 229 32) 61 ∧ (∀ W10 : fl_W, W10 = fl_uw W9 250 (W9 229 32).toNatClampNeg ((W9 250 (W9 229 32).toNatClampNeg) ||| ((((Int32.ofInt 1) <<< ((W 230 v4.toNatClampNeg) &&& 31)) ||| ((Int32.ofInt 1) <<< ((W 231 v4.toNatClampNeg) &&& 31))) &&& (W9 229 28))) → hd_146_197 d Q v1 v2 (v4 + Int32.ofInt 1) W10)))))))))) (∀ W5 : fl_W, W5 = fl_uw W 229 32 ((W 229 32) + (Int32.ofInt 1)) → hd_146_30 d Q (v1 + Int32.ofInt 1) W5)) : hd_146_197 d Q v1 v2 v4 W := fun o3 o5 => fl_fold (⟨rfl, ⟨fun q => have h := h.1 q; ⟨rfl, ⟨rfl, ⟨h.1, have h := h.2; ⟨rfl, ⟨rfl, ⟨h.1, have h := h.2; ⟨Nat.le_of_ble_eq_true rfl, ⟨Nat.le_of_ble_eq_true rfl, rfl, rfl, rfl, fl_c1 h (fun x2 W6 h => ⟨fun q => have h := h.1 q; h _ _, fun q => have h := h.2 q; ⟨fun q => have h := h.1 q; ⟨rfl, ⟨rfl, ⟨rfl, ⟨h.1, have h := h.2; have h := h _ rfl; ⟨rfl, ⟨rfl, ⟨rfl, rfl, ⟨rfl, ⟨h.1, have h := h.2; ⟨rfl, ⟨rfl, ⟨h.1, have h := h.2; have h := h _ rfl; h _ _⟩⟩⟩⟩⟩⟩⟩⟩⟩⟩⟩⟩, fun q => have h := h.2 q; ⟨fun q => have h := h.1 q; h _ _, fun q => have h := h.2 q; ⟨rfl, ⟨rfl, ⟨rfl, ⟨h.1, have h := h.2; have h := h _ rfl; ⟨rfl, ⟨rfl, ⟨rfl, rfl, ⟨rfl, ⟨h.1, have h := h.2; ⟨rfl, ⟨rfl, ⟨h.1, have h := h.2; have h := h _ rfl; h _ _⟩⟩⟩⟩⟩⟩⟩⟩⟩⟩⟩⟩⟩⟩⟩)⟩⟩⟩⟩⟩⟩⟩⟩, fun q => have h := h.2 q; ⟨rfl, ⟨rfl, ⟨rfl, trivial, have h := h _ rfl; h _ _ _ _⟩⟩⟩⟩⟩)
set_option maxRecDepth 20000 in
theorem sx_146 {d : Nat} {Q : fl_R} (W : fl_W) (h : ∀ W1 : fl_W, W1 = fl_uw W 229 32 (Int32.ofInt 0) → hd_146_7 d Q (Int32.ofInt 0) W1) : fl_cal (d + 1) 146 [.ref 229] W Q := fl_intro [7, 30, 94, 104, 197] (fl_fold (⟨rfl, trivial, have h := h _ rfl; ⟨Nat.le_of_ble_eq_true rfl, h _ _ _ _⟩⟩))
/-! 147 PlaneDeskModel.ringSet(I)I -/
def hd_147_4 (d : Nat) (Q : fl_R) (v1 v2 v3 : Int32) (W : fl_W) : Prop := fl_WP (fl_cal d) 147 [4] Q 4 [some (.ref 229), some (.int v1), some (.int v2), some (.int v3)] [] W
theorem sx_147_4 {d : Nat} {Q : fl_R} (v1 v2 v3 : Int32) (W : fl_W) (h : vp_in v1 60 ∧ (mi_br (v3 < (W 247 v1.toNatClampNeg)) (vp_in (((Int8.ofInt 20).toInt32 * v1) + v3) 1200 ∧ (hd_147_4 d Q v1 (v2 ||| ((Int32.ofInt 1) <<< ((W 246 (((Int8.ofInt 20).toInt32 * v1) + v3).toNatClampNeg) &&& 31))) (v3 + Int32.ofInt 1) W)) (Q (some (.int v2)) W))) : hd_147_4 d Q v1 v2 v3 W := fl_fold (⟨rfl, ⟨rfl, ⟨h.1, have h := h.2; ⟨fun q => have h := h.1 q; ⟨rfl, ⟨rfl, ⟨h.1, have h := h.2; ⟨Nat.le_of_ble_eq_true rfl, h⟩⟩⟩⟩, fun q => have h := h.2 q; ⟨trivial, h⟩⟩⟩⟩⟩)
theorem sx_147 {d : Nat} {Q : fl_R} (v1 : Int32) (W : fl_W) (h : hd_147_4 d Q v1 (Int32.ofInt 0) (Int32.ofInt 0) W) : fl_cal (d + 1) 147 [.ref 229, .int v1] W Q := fl_intro [4] (fl_fold (⟨Nat.le_of_ble_eq_true rfl, ⟨Nat.le_of_ble_eq_true rfl, h⟩⟩))
/-! 148 PlaneDeskModel.fit(I)V -/
def hd_148_12 (d : Nat) (Q : fl_R) (v1 v2 : Int32) (W : fl_W) : Prop := fl_WP (fl_cal d) 148 [12] Q 12 [some (.ref 229), some (.int v1), some (.int v2)] [] W
theorem sx_148_12 {d : Nat} {Q : fl_R} (v1 v2 : Int32) (W : fl_W) (h : mi_br (v2 < (W 229 26)) (vp_in v1 61 ∧ (fl_cal d 147 [.ref 229, .int v2] W (fl_q1 fun x1 W3 => mi_br (((W 250 v1.toNatClampNeg) &&& (x1 ^^^ (Int32.ofInt (-1)))) = 0) (mi_br ((W3 229 36) < 0) (∀ W5 : fl_W, W5 = fl_uw W3 229 36 v2 → ∀ W6 : fl_W, W6 = fl_uw W5 229 37 ((W5 229 37) + (Int32.ofInt 1)) → hd_148_12 d Q v1 (v2 + Int32.ofInt 1) W6) (∀ W4 : fl_W, W4 = fl_uw W3 229 37 ((W3 229 37) + (Int32.ofInt 1)) → hd_148_12 d Q v1 (v2 + Int32.ofInt 1) W4)) (hd_148_12 d Q v1 (v2 + Int32.ofInt 1) W3)))) (Q none W)) : hd_148_12 d Q v1 v2 W := fl_fold (⟨rfl, ⟨fun q => have h := h.1 q; ⟨rfl, ⟨rfl, ⟨h.1, have h := h.2; ⟨Nat.le_of_ble_eq_true rfl, rfl, rfl, rfl, fl_c1 h (fun x1 W3 h => ⟨fun q => have h := h.1 q; ⟨rfl, ⟨fun q => have h := h.1 q; ⟨rfl, trivial, have h := h _ rfl; ⟨rfl, ⟨rfl, ⟨rfl, trivial, have h := h _ rfl; h⟩⟩⟩⟩, fun q => have h := h.2 q; ⟨rfl, ⟨rfl, ⟨rfl, trivial, have h := h _ rfl; h⟩⟩⟩⟩⟩, fun q => have h := h.2 q; h⟩)⟩⟩⟩⟩, fun q => have h := h.2 q; ⟨rfl, h⟩⟩⟩)
theorem sx_148 {d : Nat} {Q : fl_R} (v1 : Int32) (W : fl_W) (h : ∀ W1 : fl_W, W1 = fl_uw W 229 36 (Int32.ofInt (-1)) → ∀ W2 : fl_W, W2 = fl_uw W1 229 37 (Int32.ofInt 0) → hd_148_12 d Q v1 (Int32.ofInt 0) W2) : fl_cal (d + 1) 148 [.ref 229, .int v1] W Q := fl_intro [12] (fl_fold (⟨rfl, trivial, have h := h _ rfl; ⟨rfl, trivial, have h := h _ rfl; ⟨Nat.le_of_ble_eq_true rfl, h⟩⟩⟩))
/-! 149 PlaneDeskModel.nextPart()I -/
def hd_149_4 (d : Nat) (Q : fl_R) (v1 v2 : Int32) (W : fl_W) : Prop := fl_WP (fl_cal d) 149 [4] Q 4 [some (.ref 229), some (.int v1), some (.int v2)] [] W
theorem sx_149_4 {d : Nat} {Q : fl_R} (v1 v2 : Int32) (W : fl_W) (h : mi_br (v2 < (W 229 32)) (fl_cal d 148 [.ref 229, .int v2] W (fl_q0 fun W1 => mi_br ((W1 229 37) = 0) (Q (some (.int ((Int8.ofInt (-2)).toInt32))) W1) (mi_br ((W1 229 37) = (Int32.ofInt 1)) (mi_br (v1 < 0) (hd_149_4 d Q v2 (v2 + Int32.ofInt 1) W1) (hd_149_4 d Q v1 (v2 + Int32.ofInt 1) W1)) (hd_149_4 d Q v1 (v2 + Int32.ofInt 1) W1)))) (mi_br (v1 < 0) (Q (some (.int (Int32.ofInt 0))) W) (Q (some (.int v1)) W))) : hd_149_4 d Q v1 v2 W := fl_fold (⟨rfl, ⟨fun q => have h := h.1 q; ⟨Nat.le_of_ble_eq_true rfl, rfl, rfl, rfl, fl_c0 h (fun W1 h => ⟨rfl, ⟨fun q => have h := h.1 q; ⟨trivial, h⟩, fun q => have h := h.2 q; ⟨rfl, ⟨fun q => have h := h.1 q; ⟨fun q => have h := h.1 q; ⟨Nat.le_of_ble_eq_true rfl, h⟩, fun q => have h := h.2 q; h⟩, fun q => have h := h.2 q; h⟩⟩⟩⟩)⟩, fun q => have h := h.2 q; ⟨fun q => have h := h.1 q; ⟨trivial, h⟩, fun q => have h := h.2 q; ⟨trivial, h⟩⟩⟩⟩)
theorem sx_149 {d : Nat} {Q : fl_R} (W : fl_W) (h : hd_149_4 d Q (Int32.ofInt (-1)) (Int32.ofInt 0) W) : fl_cal (d + 1) 149 [.ref 229] W Q := fl_intro [4] (fl_fold (⟨Nat.le_of_ble_eq_true rfl, ⟨Nat.le_of_ble_eq_true rfl, h⟩⟩))
/-! 150 PlaneDeskModel.layPart(I)V -/
def hd_150_12 (d : Nat) (Q : fl_R) (v1 v2 v3 : Int32) (W : fl_W) : Prop := ∀ (o4 o5 o6 o7 o8 o9 : Option Value), fl_WP (fl_cal d) 150 [12, 81, 116, 140, 211, 255, 325] Q 12 [some (.ref 229), some (.int v1), some (.int v2), some (.int v3), o4, o5, o6, o7, o8, o9] [] W
def hd_150_81 (d : Nat) (Q : fl_R) (v2 v3 v4 v5 v6 : Int32) (W : fl_W) : Prop := ∀ (o1 o7 o8 o9 : Option Value), fl_WP (fl_cal d) 150 [12, 81, 116, 140, 211, 255, 325] Q 81 [some (.ref 229), o1, some (.int v2), some (.int v3), some (.int v4), some (.int v5), some (.int v6), o7, o8, o9] [] W
def hd_150_116 (d : Nat) (Q : fl_R) (v2 v3 v4 v5 v6 : Int32) (W : fl_W) : Prop := ∀ (o1 o7 o8 o9 : Option Value), fl_WP (fl_cal d) 150 [12, 81, 116, 140, 211, 255, 325] Q 116 [some (.ref 229), o1, some (.int v2), some (.int v3), some (.int v4), some (.int v5), some (.int v6), o7, o8, o9] [] W
def hd_150_140 (d : Nat) (Q : fl_R) (v2 v3 v4 v5 v7 v8 : Int32) (W : fl_W) : Prop := ∀ (o1 o6 o9 : Option Value), fl_WP (fl_cal d) 150 [12, 81, 116, 140, 211, 255, 325] Q 140 [some (.ref 229), o1, some (.int v2), some (.int v3), some (.int v4), some (.int v5), o6, some (.int v7), some (.int v8), o9] [] W
def hd_150_211 (d : Nat) (Q : fl_R) (v2 v3 v4 v5 v7 v8 v9 : Int32) (W : fl_W) : Prop := ∀ (o1 o6 : Option Value), fl_WP (fl_cal d) 150 [12, 81, 116, 140, 211, 255, 325] Q 211 [some (.ref 229), o1, some (.int v2), some (.int v3), some (.int v4), some (.int v5), o6, some (.int v7), some (.int v8), some (.int v9)] [] W
def hd_150_255 (d : Nat) (Q : fl_R) (v3 v4 v5 v7 v8 : Int32) (W : fl_W) : Prop := ∀ (o1 o2 o6 o9 : Option Value), fl_WP (fl_cal d) 150 [12, 81, 116, 140, 211, 255, 325] Q 255 [some (.ref 229), o1, o2, some (.int v3), some (.int v4), some (.int v5), o6, some (.int v7), some (.int v8), o9] [] W
def hd_150_325 (d : Nat) (Q : fl_R) (v3 v4 v7 v9 : Int32) (W : fl_W) : Prop := ∀ (o1 o2 o5 o6 o8 : Option Value), fl_WP (fl_cal d) 150 [12, 81, 116, 140, 211, 255, 325] Q 325 [some (.ref 229), o1, o2, some (.int v3), some (.int v4), o5, o6, some (.int v7), o8, some (.int v9)] [] W
set_option maxRecDepth 20000 in
theorem sx_150_12 {d : Nat} {Q : fl_R} (v1 v2 v3 : Int32) (W : fl_W) (h : vp_in v1 61 ∧ (mi_br ((((W 250 v1.toNatClampNeg) >>> (v3 &&& 31)) &&& (Int32.ofInt 1)) = 0) (hd_150_12 d Q v1 v2 (v3 + Int32.ofInt 1) W) (vp_in v1 61 ∧ (fl_cal d 143 [.ref 229] W (fl_q1 fun x1 W2 => fl_cal d 142 [.ref 229, .int v3, .int ((W 250 v1.toNatClampNeg) &&& (((Int32.ofInt 1) <<< (v3 &&& 31)) ^^^ (Int32.ofInt (-1)))), .int (x1 &&& ((W2 229 28) ^^^ (Int32.ofInt (-1)))), .int v1, .int (Int32.ofInt (-1))] W2 (fl_q1 fun x2 W3 => fl_cal d 144 [.ref 229, .int v3, .int x2] W3 (fl_q0 fun W4 => vp_in v2 60 ∧ (hd_150_81 d Q v2 v3 x2 (W4 247 v2.toNatClampNeg) (Int32.ofInt 0) W4)))))))) : hd_150_12 d Q v1 v2 v3 W := fun o4 o5 o6 o7 o8 o9 => fl_fold (⟨rfl, ⟨rfl, ⟨h.1, have h := h.2; ⟨fun q => have h := h.1 q; h _ _ _ _ _ _, fun q => have h := h.2 q; ⟨rfl, ⟨rfl, ⟨h.1, have h := h.2; ⟨Nat.le_of_ble_eq_true rfl, rfl, rfl, rfl, fl_c1 h (fun x1 W2 h => ⟨rfl, ⟨Nat.le_of_ble_eq_true rfl, rfl, rfl, rfl, fl_c1 h (fun x2 W3 h => ⟨Nat.le_of_ble_eq_true rfl, ⟨Nat.le_of_ble_eq_true rfl, rfl, rfl, rfl, fl_c0 h (fun W4 h => ⟨rfl, ⟨rfl, ⟨h.1, have h := h.2; ⟨Nat.le_of_ble_eq_true rfl, ⟨Nat.le_of_ble_eq_true rfl, h _ _ _ _⟩⟩⟩⟩⟩)⟩⟩)⟩⟩)⟩⟩⟩⟩⟩⟩⟩⟩)
set_option maxRecDepth 20000 in
theorem sx_150_81 {d : Nat} {Q : fl_R} (v2 v3 v4 v5 v6 : Int32) (W : fl_W) (h : mi_br (v6 < v5) (vp_in (((Int8.ofInt 20).toInt32 * v2) + v6) 1200 ∧ (vp_in v6 20 ∧ (∀ W5 : fl_W, W5 = fl_uw W 253 v6.toNatClampNeg (W 246 (((Int8.ofInt 20).toInt32 * v2) + v6).toNatClampNeg) → hd_150_81 d Q v2 v3 v4 v5 (v6 + Int32.ofInt 1) W5))) (hd_150_116 d Q v2 v3 v4 v5 (Int32.ofInt 0) W)) : hd_150_81 d Q v2 v3 v4 v5 v6 W := fun o1 o7 o8 o9 => fl_fold (⟨fun q => have h := h.1 q; ⟨rfl, ⟨rfl, ⟨rfl, ⟨h.1, have h := h.2; ⟨rfl, ⟨h.1, have h := h.2; have h := h _ rfl; h _ _ _ _⟩⟩⟩⟩⟩⟩, fun q => have h := h.2 q; ⟨Nat.le_of_ble_eq_true rfl, h _ _ _ _⟩⟩)
set_option maxRecDepth 20000 in
theorem sx_150_116 {d : Nat} {Q : fl_R} (v2 v3 v4 v5 v6 : Int32) (W : fl_W) (h : vp_in v6 20 ∧ (mi_br ((W 253 v6.toNatClampNeg) = v3) (hd_150_140 d Q v2 v3 v4 v5 (Int32.ofInt 0) v6 W) (hd_150_116 d Q v2 v3 v4 v5 (v6 + Int32.ofInt 1) W))) : hd_150_116 d Q v2 v3 v4 v5 v6 W := fun o1 o7 o8 o9 => fl_fold (⟨rfl, ⟨rfl, ⟨h.1, have h := h.2; ⟨fun q => have h := h.1 q; ⟨Nat.le_of_ble_eq_true rfl, ⟨Nat.le_of_ble_eq_true rfl, h _ _ _⟩⟩, fun q => have h := h.2 q; h _ _ _ _⟩⟩⟩⟩)
set_option maxRecDepth 20000 in
theorem sx_150_140 {d : Nat} {Q : fl_R} (v2 v3 v4 v5 v7 v8 : Int32) (W : fl_W) (h : vp_in v8 20 ∧ (mi_br ((W 253 v8.toNatClampNeg) = v4) (vp_in (((Int8.ofInt 20).toInt32 * v2) + v7) 1200 ∧ (∀ W6 : fl_W, W6 = fl_uw W 246 (((Int8.ofInt 20).toInt32 * v2) + v7).toNatClampNeg v4 → hd_150_211 d Q v2 v3 v4 v5 (v7 + Int32.ofInt 1) v8 ((W6 229 35) - (Int32.ofInt 1)) W6)) (vp_in v8 20 ∧ (vp_in (((Int8.ofInt 20).toInt32 * v2) + v7) 1200 ∧ (∀ W7 : fl_W, W7 = fl_uw W 246 (((Int8.ofInt 20).toInt32 * v2) + v7).toNatClampNeg (W 253 v8.toNatClampNeg) → (¬ v5 = 0) ∧ (hd_150_140 d Q v2 v3 v4 v5 (v7 + Int32.ofInt 1) ((v8 + (Int32.ofInt 1)) - (v8 + (Int32.ofInt 1)) / v5 * v5) W7)))))) : hd_150_140 d Q v2 v3 v4 v5 v7 v8 W := fun o1 o6 o9 => fl_fold (⟨rfl, ⟨rfl, ⟨h.1, have h := h.2; ⟨fun q => have h := h.1 q; ⟨rfl, ⟨rfl, ⟨h.1, have h := h.2; have h := h _ rfl; ⟨rfl, ⟨Nat.le_of_ble_eq_true rfl, h _ _⟩⟩⟩⟩⟩, fun q => have h := h.2 q; ⟨rfl, ⟨rfl, ⟨rfl, ⟨h.1, have h := h.2; ⟨rfl, ⟨h.1, have h := h.2; have h := h _ rfl; ⟨h.1, have h := h.2; ⟨Nat.le_of_ble_eq_true rfl, h _ _ _⟩⟩⟩⟩⟩⟩⟩⟩⟩⟩⟩⟩)
set_option maxRecDepth 20000 in
theorem sx_150_211 {d : Nat} {Q : fl_R} (v2 v3 v4 v5 v7 v8 v9 : Int32) (W : fl_W) (h : mi_br (v9 < 0) (vp_in v2 60 ∧ (∀ W8 : fl_W, W8 = fl_uw W 247 v2.toNatClampNeg v7 → hd_150_255 d Q v3 v4 v5 (Int32.ofInt 0) v8 W8)) (vp_in v9 20 ∧ (vp_in (((Int8.ofInt 20).toInt32 * v2) + v7) 1200 ∧ (∀ W9 : fl_W, W9 = fl_uw W 246 (((Int8.ofInt 20).toInt32 * v2) + v7).toNatClampNeg (W 252 v9.toNatClampNeg) → hd_150_211 d Q v2 v3 v4 v5 (v7 + Int32.ofInt 1) v8 (v9 + Int32.ofInt (-1)) W9)))) : hd_150_211 d Q v2 v3 v4 v5 v7 v8 v9 W := fun o1 o6 => fl_fold (⟨fun q => have h := h.1 q; ⟨rfl, ⟨rfl, ⟨h.1, have h := h.2; have h := h _ rfl; ⟨Nat.le_of_ble_eq_true rfl, h _ _ _ _⟩⟩⟩⟩, fun q => have h := h.2 q; ⟨rfl, ⟨rfl, ⟨rfl, ⟨h.1, have h := h.2; ⟨rfl, ⟨h.1, have h := h.2; have h := h _ rfl; h _ _⟩⟩⟩⟩⟩⟩⟩)
set_option maxRecDepth 20000 in
theorem sx_150_255 {d : Nat} {Q : fl_R} (v3 v4 v5 v7 v8 : Int32) (W : fl_W) (h : vp_in v8 20 ∧ (mi_br ((W 253 v8.toNatClampNeg) = v3) (vp_in (((Int8.ofInt 20).toInt32 * (W 229 26)) + v7) 1200 ∧ (∀ W10 : fl_W, W10 = fl_uw W 246 (((Int8.ofInt 20).toInt32 * (W 229 26)) + v7).toNatClampNeg v3 → hd_150_325 d Q v3 v4 (v7 + Int32.ofInt 1) (Int32.ofInt 0) W10)) (vp_in v8 20 ∧ (vp_in (((Int8.ofInt 20).toInt32 * (W 229 26)) + v7) 1200 ∧ (∀ W11 : fl_W, W11 = fl_uw W 246 (((Int8.ofInt 20).toInt32 * (W 229 26)) + v7).toNatClampNeg (W 253 v8.toNatClampNeg) → (¬ v5 = 0) ∧ (hd_150_255 d Q v3 v4 v5 (v7 + Int32.ofInt 1) ((v8 + (Int32.ofInt 1)) - (v8 + (Int32.ofInt 1)) / v5 * v5) W11)))))) : hd_150_255 d Q v3 v4 v5 v7 v8 W := fun o1 o2 o6 o9 => fl_fold (⟨rfl, ⟨rfl, ⟨h.1, have h := h.2; ⟨fun q => have h := h.1 q; ⟨rfl, ⟨rfl, ⟨rfl, ⟨h.1, have h := h.2; have h := h _ rfl; ⟨Nat.le_of_ble_eq_true rfl, h _ _ _ _ _⟩⟩⟩⟩⟩, fun q => have h := h.2 q; ⟨rfl, ⟨rfl, ⟨rfl, ⟨rfl, ⟨h.1, have h := h.2; ⟨rfl, ⟨h.1, have h := h.2; have h := h _ rfl; ⟨h.1, have h := h.2; ⟨Nat.le_of_ble_eq_true rfl, h _ _ _ _⟩⟩⟩⟩⟩⟩⟩⟩⟩⟩⟩⟩⟩)
set_option maxRecDepth 20000 in
theorem sx_150_325 {d : Nat} {Q : fl_R} (v3 v4 v7 v9 : Int32) (W : fl_W) (h : mi_br (v9 < (W 229 35)) (vp_in v9 20 ∧ (vp_in (((Int8.ofInt 20).toInt32 * (W 229 26)) + v7) 1200 ∧ (∀ W15 : fl_W, W15 = fl_uw W 246 (((Int8.ofInt 20).toInt32 * (W 229 26)) + v7).toNatClampNeg (W 252 v9.toNatClampNeg) → hd_150_325 d Q v3 v4 (v7 + Int32.ofInt 1) (v9 + Int32.ofInt 1) W15))) (vp_in (W 229 26) 60 ∧ (∀ W12 : fl_W, W12 = fl_uw W 247 (W 229 26).toNatClampNeg v7 → ∀ W13 : fl_W, W13 = fl_uw W12 229 26 ((W12 229 26) + (Int32.ofInt 1)) → fl_cal d 151 [.ref 229, .int v3, .int v4] W13 (fl_q0 fun W14 => Q none W14)))) : hd_150_325 d Q v3 v4 v7 v9 W := fun o1 o2 o5 o6 o8 => fl_fold (⟨rfl, ⟨fun q => have h := h.1 q; ⟨rfl, ⟨rfl, ⟨rfl, ⟨rfl, ⟨h.1, have h := h.2; ⟨rfl, ⟨h.1, have h := h.2; have h := h _ rfl; h _ _ _ _ _⟩⟩⟩⟩⟩⟩⟩, fun q => have h := h.2 q; ⟨rfl, ⟨rfl, ⟨rfl, ⟨h.1, have h := h.2; have h := h _ rfl; ⟨rfl, ⟨rfl, ⟨rfl, trivial, have h := h _ rfl; ⟨Nat.le_of_ble_eq_true rfl, rfl, rfl, rfl, fl_c0 h (fun W14 h => ⟨rfl, h⟩)⟩⟩⟩⟩⟩⟩⟩⟩⟩⟩)
set_option maxRecDepth 20000 in
theorem sx_150 {d : Nat} {Q : fl_R} (v1 : Int32) (W : fl_W) (h : fl_cal d 148 [.ref 229, .int v1] W (fl_q0 fun W1 => hd_150_12 d Q v1 (W1 229 36) (Int32.ofInt 0) W1)) : fl_cal (d + 1) 150 [.ref 229, .int v1] W Q := fl_intro [12, 81, 116, 140, 211, 255, 325] (fl_fold (⟨Nat.le_of_ble_eq_true rfl, rfl, rfl, rfl, fl_c0 h (fun W1 h => ⟨rfl, ⟨Nat.le_of_ble_eq_true rfl, ⟨Nat.le_of_ble_eq_true rfl, h _ _ _ _ _ _⟩⟩⟩)⟩))
end
section
/-! 151 PlaneDeskModel.markWay(II)V -/
def hd_151_5 (d : Nat) (Q : fl_R) (v2 v3 v4 : Int32) (W : fl_W) : Prop := ∀ (o1 o5 : Option Value), fl_WP (fl_cal d) 151 [5] Q 5 [some (.ref 229), o1, some (.int v2), some (.int v3), some (.int v4), o5] [] W
theorem sx_151_5 {d : Nat} {Q : fl_R} (v2 v3 v4 : Int32) (W : fl_W) (h : mi_br (v4 ≤ (W 229 35)) (mi_br (v4 < (W 229 35)) (vp_in v4 20 ∧ (fl_cal d 128 [.ref 229, .int v3, .int (W 252 v4.toNatClampNeg)] W (fl_q1 fun x2 W4 => vp_in x2 61 ∧ (∀ W5 : fl_W, W5 = fl_uw W4 248 x2.toNatClampNeg (Int32.ofInt 1) → ∀ W6 : fl_W, W6 = fl_uw W5 229 28 ((W5 229 28) ||| ((Int32.ofInt 1) <<< ((W 252 v4.toNatClampNeg) &&& 31))) → hd_151_5 d Q v2 (W 252 v4.toNatClampNeg) (v4 + Int32.ofInt 1) W6)))) (fl_cal d 128 [.ref 229, .int v3, .int v2] W (fl_q1 fun x1 W1 => vp_in x1 61 ∧ (∀ W2 : fl_W, W2 = fl_uw W1 248 x1.toNatClampNeg (Int32.ofInt 1) → ∀ W3 : fl_W, W3 = fl_uw W2 229 28 ((W2 229 28) ||| ((Int32.ofInt 1) <<< (v2 &&& 31))) → hd_151_5 d Q v2 v2 (v4 + Int32.ofInt 1) W3)))) (Q none W)) : hd_151_5 d Q v2 v3 v4 W := fun o1 o5 => fl_fold (⟨rfl, ⟨fun q => have h := h.1 q; ⟨rfl, ⟨fun q => have h := h.1 q; ⟨rfl, ⟨rfl, ⟨h.1, have h := h.2; ⟨Nat.le_of_ble_eq_true rfl, ⟨rfl, ⟨Nat.le_of_ble_eq_true rfl, rfl, rfl, rfl, fl_c1 h (fun x2 W4 h => ⟨Or.inr rfl, ⟨rfl, ⟨h.1, have h := h.2; have h := h _ rfl; ⟨rfl, ⟨rfl, ⟨rfl, trivial, have h := h _ rfl; ⟨Nat.le_of_ble_eq_true rfl, h _ _⟩⟩⟩⟩⟩⟩⟩)⟩⟩⟩⟩⟩⟩, fun q => have h := h.2 q; ⟨Nat.le_of_ble_eq_true rfl, ⟨rfl, ⟨Nat.le_of_ble_eq_true rfl, rfl, rfl, rfl, fl_c1 h (fun x1 W1 h => ⟨Or.inr rfl, ⟨rfl, ⟨h.1, have h := h.2; have h := h _ rfl; ⟨rfl, ⟨rfl, ⟨rfl, trivial, have h := h _ rfl; ⟨Nat.le_of_ble_eq_true rfl, h _ _⟩⟩⟩⟩⟩⟩⟩)⟩⟩⟩⟩⟩, fun q => have h := h.2 q; ⟨rfl, h⟩⟩⟩)
theorem sx_151 {d : Nat} {Q : fl_R} (v1 v2 : Int32) (W : fl_W) (h : hd_151_5 d Q v2 v1 (Int32.ofInt 0) W) : fl_cal (d + 1) 151 [.ref 229, .int v1, .int v2] W Q := fl_intro [5] (fl_fold (⟨Nat.le_of_ble_eq_true rfl, ⟨Nat.le_of_ble_eq_true rfl, h _ _⟩⟩))
/-! 152 PlaneDeskModel.layBlock(I)Z -/
def hd_152_18 (d : Nat) (Q : fl_R) (W : fl_W) : Prop := ∀ (o1 o2 : Option Value), fl_WP (fl_cal d) 152 [18] Q 18 [some (.ref 229), o1, o2] [] W
theorem sx_152_18 {d : Nat} {Q : fl_R} (W : fl_W) (h : mi_br ((W 229 32) ≤ 0) (Q (some (.int (Int32.ofInt 1))) W) (fl_cal d 149 [.ref 229] W (fl_q1 fun x2 W5 => mi_br (x2 < 0) (Q (some (.int (Int32.ofInt 0))) W5) (fl_cal d 150 [.ref 229, .int x2] W5 (fl_q0 fun W6 => fl_cal d 146 [.ref 229] W6 (fl_q0 fun W7 => hd_152_18 d Q W7)))))) : hd_152_18 d Q W := fun o1 o2 => fl_fold (⟨rfl, ⟨fun q => have h := h.1 q; ⟨Or.inr rfl, h⟩, fun q => have h := h.2 q; ⟨Nat.le_of_ble_eq_true rfl, rfl, rfl, rfl, fl_c1 h (fun x2 W5 h => ⟨Nat.le_of_ble_eq_true rfl, ⟨fun q => have h := h.1 q; ⟨Or.inl rfl, h⟩, fun q => have h := h.2 q; ⟨Nat.le_of_ble_eq_true rfl, rfl, rfl, rfl, fl_c0 h (fun W6 h => ⟨Nat.le_of_ble_eq_true rfl, rfl, rfl, rfl, fl_c0 h (fun W7 h => h _ _)⟩)⟩⟩⟩)⟩⟩⟩)
theorem sx_152 {d : Nat} {Q : fl_R} (v1 : Int32) (W : fl_W) (h : ∀ W1 : fl_W, W1 = fl_uw W 229 29 v1 → fl_cal d 141 [.ref 229, .int v1] W1 (fl_q1 fun x1 W2 => fl_cal d 145 [.ref 229, .int x1] W2 (fl_q0 fun W3 => fl_cal d 146 [.ref 229] W3 (fl_q0 fun W4 => hd_152_18 d Q W4)))) : fl_cal (d + 1) 152 [.ref 229, .int v1] W Q := fl_intro [18] (fl_fold (⟨rfl, trivial, have h := h _ rfl; ⟨Nat.le_of_ble_eq_true rfl, rfl, rfl, rfl, fl_c1 h (fun x1 W2 h => ⟨Nat.le_of_ble_eq_true rfl, rfl, rfl, rfl, fl_c0 h (fun W3 h => ⟨Nat.le_of_ble_eq_true rfl, rfl, rfl, rfl, fl_c0 h (fun W4 h => h _ _)⟩)⟩)⟩⟩))
/-! 153 PlaneDeskModel.layAll(Z)Z -/
def hd_153_10 (d : Nat) (Q : fl_R) (v1 v2 : Int32) (W : fl_W) : Prop := ∀ (o3 o4 : Option Value), fl_WP (fl_cal d) 153 [10, 33, 158] Q 10 [some (.ref 229), some (.int v1), some (.int v2), o3, o4] [] W
def hd_153_33 (d : Nat) (Q : fl_R) (v1 v2 : Int32) (W : fl_W) : Prop := ∀ (o3 o4 : Option Value), fl_WP (fl_cal d) 153 [10, 33, 158] Q 33 [some (.ref 229), some (.int v1), some (.int v2), o3, o4] [] W
def hd_153_158 (d : Nat) (Q : fl_R) (v1 v2 v4 : Int32) (W : fl_W) : Prop := ∀ (o3 : Option Value), fl_WP (fl_cal d) 153 [10, 33, 158] Q 158 [some (.ref 229), some (.int v1), some (.int v2), o3, some (.int v4)] [] W
set_option maxRecDepth 20000 in
theorem sx_153_10 {d : Nat} {Q : fl_R} (v1 v2 : Int32) (W : fl_W) (h : mi_br (v2 < (W 229 0)) (vp_in v2 20 ∧ (∀ W21 : fl_W, W21 = fl_uw W 235 v2.toNatClampNeg (Int32.ofInt 0) → hd_153_10 d Q v1 (v2 + Int32.ofInt 1) W21)) (hd_153_33 d Q v1 (Int32.ofInt 0) W)) : hd_153_10 d Q v1 v2 W := fun o3 o4 => fl_fold (⟨rfl, ⟨fun q => have h := h.1 q; ⟨rfl, ⟨rfl, ⟨h.1, have h := h.2; have h := h _ rfl; h _ _⟩⟩⟩, fun q => have h := h.2 q; ⟨Nat.le_of_ble_eq_true rfl, h _ _⟩⟩⟩)
set_option maxRecDepth 20000 in
theorem sx_153_33 {d : Nat} {Q : fl_R} (v1 v2 : Int32) (W : fl_W) (h : mi_br (v2 < (W 229 6)) (fl_cal d 140 [.ref 229, .int v2] W (fl_q1 fun x1 W2 => mi_br (x1 = (Int32.ofInt 1)) (mi_br ((Int32.ofInt 1) = 0) (fl_cal d 152 [.ref 229, .int v2] W2 (fl_q1 fun x6 W16 => mi_br (x6 = 0) (Q (some (.int (Int32.ofInt 0))) W16) (mi_br (v1 = 0) (hd_153_33 d Q v1 (v2 + Int32.ofInt 1) W16) (mi_br ((Int32.ofInt 1) = 0) (fl_cal d 154 [.ref 229] W16 (fl_q0 fun W17 => hd_153_158 d Q v1 v2 (Int32.ofInt 0) W17)) (fl_cal d 141 [.ref 229, .int v2] W16 (fl_q1 fun x7 W18 => vp_in x7 61 ∧ (vp_in x7 61 ∧ (vp_in x7 61 ∧ (vp_in (((Int8.ofInt 20).toInt32 * (W18 230 x7.toNatClampNeg)) + (W18 231 x7.toNatClampNeg)) 400 ∧ (∀ W19 : fl_W, W19 = fl_uw W18 254 (((Int8.ofInt 20).toInt32 * (W18 230 x7.toNatClampNeg)) + (W18 231 x7.toNatClampNeg)).toNatClampNeg (W18 231 x7.toNatClampNeg) → vp_in x7 61 ∧ (vp_in x7 61 ∧ (vp_in x7 61 ∧ (vp_in (((Int8.ofInt 20).toInt32 * (W19 231 x7.toNatClampNeg)) + (W19 230 x7.toNatClampNeg)) 400 ∧ (∀ W20 : fl_W, W20 = fl_uw W19 254 (((Int8.ofInt 20).toInt32 * (W19 231 x7.toNatClampNeg)) + (W19 230 x7.toNatClampNeg)).toNatClampNeg (W19 230 x7.toNatClampNeg) → hd_153_158 d Q v1 v2 (Int32.ofInt 0) W20)))))))))))))) (mi_br (v1 = 0) (hd_153_33 d Q v1 (v2 + Int32.ofInt 1) W2) (mi_br ((Int32.ofInt 1) = 0) (fl_cal d 154 [.ref 229] W2 (fl_q0 fun W12 => hd_153_158 d Q v1 v2 (Int32.ofInt 0) W12)) (fl_cal d 141 [.ref 229, .int v2] W2 (fl_q1 fun x5 W13 => vp_in x5 61 ∧ (vp_in x5 61 ∧ (vp_in x5 61 ∧ (vp_in (((Int8.ofInt 20).toInt32 * (W13 230 x5.toNatClampNeg)) + (W13 231 x5.toNatClampNeg)) 400 ∧ (∀ W14 : fl_W, W14 = fl_uw W13 254 (((Int8.ofInt 20).toInt32 * (W13 230 x5.toNatClampNeg)) + (W13 231 x5.toNatClampNeg)).toNatClampNeg (W13 231 x5.toNatClampNeg) → vp_in x5 61 ∧ (vp_in x5 61 ∧ (vp_in x5 61 ∧ (vp_in (((Int8.ofInt 20).toInt32 * (W14 231 x5.toNatClampNeg)) + (W14 230 x5.toNatClampNeg)) 400 ∧ (∀ W15 : fl_W, W15 = fl_uw W14 254 (((Int8.ofInt 20).toInt32 * (W14 231 x5.toNatClampNeg)) + (W14 230 x5.toNatClampNeg)).toNatClampNeg (W14 230 x5.toNatClampNeg) → hd_153_158 d Q v1 v2 (Int32.ofInt 0) W15))))))))))))) (mi_br ((Int32.ofInt 0) = 0) (fl_cal d 152 [.ref 229, .int v2] W2 (fl_q1 fun x3 W7 => mi_br (x3 = 0) (Q (some (.int (Int32.ofInt 0))) W7) (mi_br (v1 = 0) (hd_153_33 d Q v1 (v2 + Int32.ofInt 1) W7) (mi_br ((Int32.ofInt 0) = 0) (fl_cal d 154 [.ref 229] W7 (fl_q0 fun W8 => hd_153_158 d Q v1 v2 (Int32.ofInt 0) W8)) (fl_cal d 141 [.ref 229, .int v2] W7 (fl_q1 fun x4 W9 => vp_in x4 61 ∧ (vp_in x4 61 ∧ (vp_in x4 61 ∧ (vp_in (((Int8.ofInt 20).toInt32 * (W9 230 x4.toNatClampNeg)) + (W9 231 x4.toNatClampNeg)) 400 ∧ (∀ W10 : fl_W, W10 = fl_uw W9 254 (((Int8.ofInt 20).toInt32 * (W9 230 x4.toNatClampNeg)) + (W9 231 x4.toNatClampNeg)).toNatClampNeg (W9 231 x4.toNatClampNeg) → vp_in x4 61 ∧ (vp_in x4 61 ∧ (vp_in x4 61 ∧ (vp_in (((Int8.ofInt 20).toInt32 * (W10 231 x4.toNatClampNeg)) + (W10 230 x4.toNatClampNeg)) 400 ∧ (∀ W11 : fl_W, W11 = fl_uw W10 254 (((Int8.ofInt 20).toInt32 * (W10 231 x4.toNatClampNeg)) + (W10 230 x4.toNatClampNeg)).toNatClampNeg (W10 230 x4.toNatClampNeg) → hd_153_158 d Q v1 v2 (Int32.ofInt 0) W11)))))))))))))) (mi_br (v1 = 0) (hd_153_33 d Q v1 (v2 + Int32.ofInt 1) W2) (mi_br ((Int32.ofInt 0) = 0) (fl_cal d 154 [.ref 229] W2 (fl_q0 fun W3 => hd_153_158 d Q v1 v2 (Int32.ofInt 0) W3)) (fl_cal d 141 [.ref 229, .int v2] W2 (fl_q1 fun x2 W4 => vp_in x2 61 ∧ (vp_in x2 61 ∧ (vp_in x2 61 ∧ (vp_in (((Int8.ofInt 20).toInt32 * (W4 230 x2.toNatClampNeg)) + (W4 231 x2.toNatClampNeg)) 400 ∧ (∀ W5 : fl_W, W5 = fl_uw W4 254 (((Int8.ofInt 20).toInt32 * (W4 230 x2.toNatClampNeg)) + (W4 231 x2.toNatClampNeg)).toNatClampNeg (W4 231 x2.toNatClampNeg) → vp_in x2 61 ∧ (vp_in x2 61 ∧ (vp_in x2 61 ∧ (vp_in (((Int8.ofInt 20).toInt32 * (W5 231 x2.toNatClampNeg)) + (W5 230 x2.toNatClampNeg)) 400 ∧ (∀ W6 : fl_W, W6 = fl_uw W5 254 (((Int8.ofInt 20).toInt32 * (W5 231 x2.toNatClampNeg)) + (W5 230 x2.toNatClampNeg)).toNatClampNeg (W5 230 x2.toNatClampNeg) → hd_153_158 d Q v1 v2 (Int32.ofInt 0) W6))))))))))))))) (Q (some (.int (Int32.ofInt 1))) W)) : hd_153_33 d Q v1 v2 W := fun o3 o4 => fl_fold (⟨rfl, ⟨fun q => have h := h.1 q; ⟨Nat.le_of_ble_eq_true rfl, rfl, rfl, rfl, fl_c1 h (fun x1 W2 h => ⟨fun q => have h := h.1 q; ⟨Nat.le_of_ble_eq_true rfl, ⟨fun q => have h := h.1 q; ⟨Nat.le_of_ble_eq_true rfl, rfl, rfl, rfl, fl_c1 h (fun x6 W16 h => ⟨fun q => have h := h.1 q; ⟨Or.inl rfl, h⟩, fun q => have h := h.2 q; ⟨fun q => have h := h.1 q; h _ _, fun q => have h := h.2 q; ⟨fun q => have h := h.1 q; ⟨Nat.le_of_ble_eq_true rfl, rfl, rfl, rfl, fl_c0 h (fun W17 h => ⟨Nat.le_of_ble_eq_true rfl, h _⟩)⟩, fun q => have h := h.2 q; ⟨Nat.le_of_ble_eq_true rfl, rfl, rfl, rfl, fl_c1 h (fun x7 W18 h => ⟨Nat.le_of_ble_eq_true rfl, ⟨rfl, ⟨rfl, ⟨rfl, ⟨h.1, have h := h.2; ⟨rfl, ⟨rfl, ⟨h.1, have h := h.2; ⟨rfl, ⟨rfl, ⟨h.1, have h := h.2; ⟨rfl, ⟨h.1, have h := h.2; have h := h _ rfl; ⟨rfl, ⟨rfl, ⟨rfl, ⟨h.1, have h := h.2; ⟨rfl, ⟨rfl, ⟨h.1, have h := h.2; ⟨rfl, ⟨rfl, ⟨h.1, have h := h.2; ⟨rfl, ⟨h.1, have h := h.2; have h := h _ rfl; ⟨Nat.le_of_ble_eq_true rfl, h _⟩⟩⟩⟩⟩⟩⟩⟩⟩⟩⟩⟩⟩⟩⟩⟩⟩⟩⟩⟩⟩⟩⟩⟩⟩⟩)⟩⟩⟩⟩)⟩, fun q => have h := h.2 q; ⟨fun q => have h := h.1 q; h _ _, fun q => have h := h.2 q; ⟨fun q => have h := h.1 q; ⟨Nat.le_of_ble_eq_true rfl, rfl, rfl, rfl, fl_c0 h (fun W12 h => ⟨Nat.le_of_ble_eq_true rfl, h _⟩)⟩, fun q => have h := h.2 q; ⟨Nat.le_of_ble_eq_true rfl, rfl, rfl, rfl, fl_c1 h (fun x5 W13 h => ⟨Nat.le_of_ble_eq_true rfl, ⟨rfl, ⟨rfl, ⟨rfl, ⟨h.1, have h := h.2; ⟨rfl, ⟨rfl, ⟨h.1, have h := h.2; ⟨rfl, ⟨rfl, ⟨h.1, have h := h.2; ⟨rfl, ⟨h.1, have h := h.2; have h := h _ rfl; ⟨rfl, ⟨rfl, ⟨rfl, ⟨h.1, have h := h.2; ⟨rfl, ⟨rfl, ⟨h.1, have h := h.2; ⟨rfl, ⟨rfl, ⟨h.1, have h := h.2; ⟨rfl, ⟨h.1, have h := h.2; have h := h _ rfl; ⟨Nat.le_of_ble_eq_true rfl, h _⟩⟩⟩⟩⟩⟩⟩⟩⟩⟩⟩⟩⟩⟩⟩⟩⟩⟩⟩⟩⟩⟩⟩⟩⟩⟩)⟩⟩⟩⟩⟩, fun q => have h := h.2 q; ⟨Nat.le_of_ble_eq_true rfl, ⟨fun q => have h := h.1 q; ⟨Nat.le_of_ble_eq_true rfl, rfl, rfl, rfl, fl_c1 h (fun x3 W7 h => ⟨fun q => have h := h.1 q; ⟨Or.inl rfl, h⟩, fun q => have h := h.2 q; ⟨fun q => have h := h.1 q; h _ _, fun q => have h := h.2 q; ⟨fun q => have h := h.1 q; ⟨Nat.le_of_ble_eq_true rfl, rfl, rfl, rfl, fl_c0 h (fun W8 h => ⟨Nat.le_of_ble_eq_true rfl, h _⟩)⟩, fun q => have h := h.2 q; ⟨Nat.le_of_ble_eq_true rfl, rfl, rfl, rfl, fl_c1 h (fun x4 W9 h => ⟨Nat.le_of_ble_eq_true rfl, ⟨rfl, ⟨rfl, ⟨rfl, ⟨h.1, have h := h.2; ⟨rfl, ⟨rfl, ⟨h.1, have h := h.2; ⟨rfl, ⟨rfl, ⟨h.1, have h := h.2; ⟨rfl, ⟨h.1, have h := h.2; have h := h _ rfl; ⟨rfl, ⟨rfl, ⟨rfl, ⟨h.1, have h := h.2; ⟨rfl, ⟨rfl, ⟨h.1, have h := h.2; ⟨rfl, ⟨rfl, ⟨h.1, have h := h.2; ⟨rfl, ⟨h.1, have h := h.2; have h := h _ rfl; ⟨Nat.le_of_ble_eq_true rfl, h _⟩⟩⟩⟩⟩⟩⟩⟩⟩⟩⟩⟩⟩⟩⟩⟩⟩⟩⟩⟩⟩⟩⟩⟩⟩⟩)⟩⟩⟩⟩)⟩, fun q => have h := h.2 q; ⟨fun q => have h := h.1 q; h _ _, fun q => have h := h.2 q; ⟨fun q => have h := h.1 q; ⟨Nat.le_of_ble_eq_true rfl, rfl, rfl, rfl, fl_c0 h (fun W3 h => ⟨Nat.le_of_ble_eq_true rfl, h _⟩)⟩, fun q => have h := h.2 q; ⟨Nat.le_of_ble_eq_true rfl, rfl, rfl, rfl, fl_c1 h (fun x2 W4 h => ⟨Nat.le_of_ble_eq_true rfl, ⟨rfl, ⟨rfl, ⟨rfl, ⟨h.1, have h := h.2; ⟨rfl, ⟨rfl, ⟨h.1, have h := h.2; ⟨rfl, ⟨rfl, ⟨h.1, have h := h.2; ⟨rfl, ⟨h.1, have h := h.2; have h := h _ rfl; ⟨rfl, ⟨rfl, ⟨rfl, ⟨h.1, have h := h.2; ⟨rfl, ⟨rfl, ⟨h.1, have h := h.2; ⟨rfl, ⟨rfl, ⟨h.1, have h := h.2; ⟨rfl, ⟨h.1, have h := h.2; have h := h _ rfl; ⟨Nat.le_of_ble_eq_true rfl, h _⟩⟩⟩⟩⟩⟩⟩⟩⟩⟩⟩⟩⟩⟩⟩⟩⟩⟩⟩⟩⟩⟩⟩⟩⟩⟩)⟩⟩⟩⟩⟩⟩)⟩, fun q => have h := h.2 q; ⟨Or.inr rfl, h⟩⟩⟩)
set_option maxRecDepth 20000 in
theorem sx_153_158 {d : Nat} {Q : fl_R} (v1 v2 v4 : Int32) (W : fl_W) (h : mi_br (v4 < (W 229 0)) (fl_cal d 155 [.ref 229, .int v4, .int v2] W (fl_q0 fun W22 => hd_153_158 d Q v1 v2 (v4 + Int32.ofInt 1) W22)) (hd_153_33 d Q v1 (v2 + Int32.ofInt 1) W)) : hd_153_158 d Q v1 v2 v4 W := fun o3 => fl_fold (⟨rfl, ⟨fun q => have h := h.1 q; ⟨Nat.le_of_ble_eq_true rfl, rfl, rfl, rfl, fl_c0 h (fun W22 h => h _)⟩, fun q => have h := h.2 q; h _ _⟩⟩)
set_option maxRecDepth 20000 in
theorem sx_153 {d : Nat} {Q : fl_R} (v1 : Int32) (W : fl_W) (h : fl_cal d 137 [.ref 229] W (fl_q0 fun W1 => mi_br (v1 = 0) (hd_153_33 d Q v1 (Int32.ofInt 0) W1) (hd_153_10 d Q v1 (Int32.ofInt 0) W1))) : fl_cal (d + 1) 153 [.ref 229, .int v1] W Q := fl_intro [10, 33, 158] (fl_fold (⟨Nat.le_of_ble_eq_true rfl, rfl, rfl, rfl, fl_c0 h (fun W1 h => ⟨fun q => have h := h.1 q; ⟨Nat.le_of_ble_eq_true rfl, h _ _⟩, fun q => have h := h.2 q; ⟨Nat.le_of_ble_eq_true rfl, h _ _⟩⟩)⟩))
/-! 154 PlaneDeskModel.tellNeighbours()V -/
def hd_154_2 (d : Nat) (Q : fl_R) (v1 : Int32) (W : fl_W) : Prop := ∀ (o2 o3 : Option Value), fl_WP (fl_cal d) 154 [2, 19] Q 2 [some (.ref 229), some (.int v1), o2, o3] [] W
def hd_154_19 (d : Nat) (Q : fl_R) (v1 v2 v3 : Int32) (W : fl_W) : Prop := fl_WP (fl_cal d) 154 [2, 19] Q 19 [some (.ref 229), some (.int v1), some (.int v2), some (.int v3)] [] W
theorem sx_154_2 {d : Nat} {Q : fl_R} (v1 : Int32) (W : fl_W) (h : mi_br (v1 < (W 229 26)) (vp_in v1 60 ∧ (hd_154_19 d Q v1 (W 247 v1.toNatClampNeg) (Int32.ofInt 0) W)) (Q none W)) : hd_154_2 d Q v1 W := fun o2 o3 => fl_fold (⟨rfl, ⟨fun q => have h := h.1 q; ⟨rfl, ⟨rfl, ⟨h.1, have h := h.2; ⟨Nat.le_of_ble_eq_true rfl, ⟨Nat.le_of_ble_eq_true rfl, h⟩⟩⟩⟩⟩, fun q => have h := h.2 q; ⟨rfl, h⟩⟩⟩)
theorem sx_154_19 {d : Nat} {Q : fl_R} (v1 v2 v3 : Int32) (W : fl_W) (h : mi_br (v3 < v2) ((¬ v2 = 0) ∧ (vp_in (((Int8.ofInt 20).toInt32 * v1) + ((v3 + (Int32.ofInt 1)) - (v3 + (Int32.ofInt 1)) / v2 * v2)) 1200 ∧ (vp_in (((Int8.ofInt 20).toInt32 * v1) + v3) 1200 ∧ ((¬ v2 = 0) ∧ (vp_in (((Int8.ofInt 20).toInt32 * v1) + ((v3 + (Int32.ofInt 2)) - (v3 + (Int32.ofInt 2)) / v2 * v2)) 1200 ∧ (vp_in (((Int8.ofInt 20).toInt32 * (W 246 (((Int8.ofInt 20).toInt32 * v1) + ((v3 + (Int32.ofInt 1)) - (v3 + (Int32.ofInt 1)) / v2 * v2)).toNatClampNeg)) + (W 246 (((Int8.ofInt 20).toInt32 * v1) + v3).toNatClampNeg)) 400 ∧ (∀ W1 : fl_W, W1 = fl_uw W 254 (((Int8.ofInt 20).toInt32 * (W 246 (((Int8.ofInt 20).toInt32 * v1) + ((v3 + (Int32.ofInt 1)) - (v3 + (Int32.ofInt 1)) / v2 * v2)).toNatClampNeg)) + (W 246 (((Int8.ofInt 20).toInt32 * v1) + v3).toNatClampNeg)).toNatClampNeg (W 246 (((Int8.ofInt 20).toInt32 * v1) + ((v3 + (Int32.ofInt 2)) - (v3 + (Int32.ofInt 2)) / v2 * v2)).toNatClampNeg) → hd_154_19 d Q v1 v2 (v3 + Int32.ofInt 1) W1))))))) (hd_154_2 d Q (v1 + Int32.ofInt 1) W)) : hd_154_19 d Q v1 v2 v3 W := fl_fold (⟨fun q => have h := h.1 q; ⟨rfl, ⟨rfl, ⟨h.1, have h := h.2; ⟨rfl, ⟨h.1, have h := h.2; ⟨rfl, ⟨rfl, ⟨h.1, have h := h.2; ⟨rfl, ⟨h.1, have h := h.2; ⟨rfl, ⟨h.1, have h := h.2; ⟨rfl, ⟨h.1, have h := h.2; have h := h _ rfl; h⟩⟩⟩⟩⟩⟩⟩⟩⟩⟩⟩⟩⟩⟩, fun q => have h := h.2 q; h _ _⟩)
theorem sx_154 {d : Nat} {Q : fl_R} (W : fl_W) (h : hd_154_2 d Q (Int32.ofInt 0) W) : fl_cal (d + 1) 154 [.ref 229] W Q := fl_intro [2, 19] (fl_fold (⟨Nat.le_of_ble_eq_true rfl, h _ _⟩))
/-! 155 PlaneDeskModel.turnOf(II)V -/
def hd_155_10 (d : Nat) (Q : fl_R) (v1 v2 v3 v4 : Int32) (W : fl_W) : Prop := ∀ (o5 : Option Value), fl_WP (fl_cal d) 155 [10, 68] Q 10 [some (.ref 229), some (.int v1), some (.int v2), some (.int v3), some (.int v4), o5] [] W
def hd_155_68 (d : Nat) (Q : fl_R) (v1 v3 v4 : Int32) (W : fl_W) : Prop := ∀ (o2 o5 : Option Value), fl_WP (fl_cal d) 155 [10, 68] Q 68 [some (.ref 229), some (.int v1), o2, some (.int v3), some (.int v4), o5] [] W
theorem sx_155_10 {d : Nat} {Q : fl_R} (v1 v2 v3 v4 : Int32) (W : fl_W) (h : mi_br (v4 < 0) (hd_155_68 d Q v1 v3 v3 W) (fl_cal d 128 [.ref 229, .int v4, .int v1] W (fl_q1 fun x1 W1 => mi_br (v4 = v1) (hd_155_10 d Q v1 v2 v3 (v4 + Int32.ofInt (-1)) W1) (mi_br (x1 < 0) (hd_155_10 d Q v1 v2 v3 (v4 + Int32.ofInt (-1)) W1) (vp_in x1 61 ∧ (mi_br ((W1 232 x1.toNatClampNeg) = 0) (hd_155_10 d Q v1 v2 v3 (v4 + Int32.ofInt (-1)) W1) (vp_in x1 61 ∧ (mi_br ((W1 233 x1.toNatClampNeg) = v2) (hd_155_10 d Q v1 v2 v4 (v4 + Int32.ofInt (-1)) W1) (hd_155_10 d Q v1 v2 v3 (v4 + Int32.ofInt (-1)) W1))))))))) : hd_155_10 d Q v1 v2 v3 v4 W := fun o5 => fl_fold (⟨fun q => have h := h.1 q; ⟨Nat.le_of_ble_eq_true rfl, h _ _⟩, fun q => have h := h.2 q; ⟨Nat.le_of_ble_eq_true rfl, rfl, rfl, rfl, fl_c1 h (fun x1 W1 h => ⟨Nat.le_of_ble_eq_true rfl, ⟨fun q => have h := h.1 q; h _, fun q => have h := h.2 q; ⟨fun q => have h := h.1 q; h _, fun q => have h := h.2 q; ⟨rfl, ⟨rfl, ⟨h.1, have h := h.2; ⟨fun q => have h := h.1 q; h _, fun q => have h := h.2 q; ⟨rfl, ⟨rfl, ⟨h.1, have h := h.2; ⟨fun q => have h := h.1 q; ⟨Nat.le_of_ble_eq_true rfl, h _⟩, fun q => have h := h.2 q; h _⟩⟩⟩⟩⟩⟩⟩⟩⟩⟩⟩)⟩⟩)
theorem sx_155_68 {d : Nat} {Q : fl_R} (v1 v3 v4 : Int32) (W : fl_W) (h : mi_br (v4 < 0) (Q none W) (vp_in v1 20 ∧ (vp_in (((Int8.ofInt 20).toInt32 * v1) + (W 235 v1.toNatClampNeg)) 400 ∧ (∀ W2 : fl_W, W2 = fl_uw W 234 (((Int8.ofInt 20).toInt32 * v1) + (W 235 v1.toNatClampNeg)).toNatClampNeg v4 → vp_in v1 20 ∧ (vp_in v1 20 ∧ (∀ W3 : fl_W, W3 = fl_uw W2 235 v1.toNatClampNeg ((W2 235 v1.toNatClampNeg) + (Int32.ofInt 1)) → vp_in (((Int8.ofInt 20).toInt32 * v1) + v4) 400 ∧ (mi_br ((W3 254 (((Int8.ofInt 20).toInt32 * v1) + v4).toNatClampNeg) = v3) (hd_155_68 d Q v1 v3 (Int32.ofInt (-1)) W3) (hd_155_68 d Q v1 v3 (W3 254 (((Int8.ofInt 20).toInt32 * v1) + v4).toNatClampNeg) W3)))))))) : hd_155_68 d Q v1 v3 v4 W := fun o2 o5 => fl_fold (⟨fun q => have h := h.1 q; ⟨rfl, h⟩, fun q => have h := h.2 q; ⟨rfl, ⟨rfl, ⟨rfl, ⟨h.1, have h := h.2; ⟨rfl, ⟨h.1, have h := h.2; have h := h _ rfl; ⟨rfl, ⟨rfl, rfl, ⟨rfl, ⟨h.1, have h := h.2; ⟨rfl, ⟨h.1, have h := h.2; have h := h _ rfl; ⟨rfl, ⟨rfl, ⟨h.1, have h := h.2; ⟨Nat.le_of_ble_eq_true rfl, ⟨fun q => have h := h.1 q; ⟨Nat.le_of_ble_eq_true rfl, h _ _⟩, fun q => have h := h.2 q; h _ _⟩⟩⟩⟩⟩⟩⟩⟩⟩⟩⟩⟩⟩⟩⟩⟩⟩⟩)
theorem sx_155 {d : Nat} {Q : fl_R} (v1 v2 : Int32) (W : fl_W) (h : hd_155_10 d Q v1 v2 (Int32.ofInt (-1)) ((W 229 0) - (Int32.ofInt 1)) W) : fl_cal (d + 1) 155 [.ref 229, .int v1, .int v2] W Q := fl_intro [10, 68] (fl_fold (⟨Nat.le_of_ble_eq_true rfl, ⟨rfl, ⟨Nat.le_of_ble_eq_true rfl, h _⟩⟩⟩))
/-! 156 PlaneDeskModel.isPlane()Z -/
theorem sx_156 {d : Nat} {Q : fl_R} (W : fl_W) (h : fl_cal d 132 [.ref 229] W (fl_q0 fun W1 => fl_cal d 153 [.ref 229, .int (Int32.ofInt 0)] W1 (fl_q1 fun x1 W2 => (x1 = 0 ∨ x1 = 1) ∧ Q (some (.int x1)) W2))) : fl_cal (d + 1) 156 [.ref 229] W Q := fl_intro [] (fl_fold (⟨Nat.le_of_ble_eq_true rfl, rfl, rfl, rfl, fl_c0 h (fun W1 h => ⟨Nat.le_of_ble_eq_true rfl, rfl, rfl, rfl, fl_c1 h (fun x1 W2 h => ⟨h.1, h.2⟩)⟩)⟩))
/-! 157 PlaneDeskModel.edge(II)I -/
theorem sx_157 {d : Nat} {Q : fl_R} (v1 v2 : Int32) (W : fl_W) (h : fl_cal d 124 [.int v1, .int (Int32.ofInt 0), .int ((W 229 1) - (Int32.ofInt 1))] W (fl_q1 fun x1 W1 => mi_br (x1 = 0) (Q (some (.int (Int32.ofInt (-1)))) W1) (mi_br (v2 = 0) (vp_in v1 61 ∧ (Q (some (.int (W1 230 v1.toNatClampNeg))) W1)) (mi_br (v2 = (Int32.ofInt 1)) (vp_in v1 61 ∧ (Q (some (.int (W1 231 v1.toNatClampNeg))) W1)) (mi_br (v2 = (Int32.ofInt 2)) (fl_cal d 132 [.ref 229] W1 (fl_q0 fun W2 => fl_cal d 137 [.ref 229] W2 (fl_q0 fun W3 => vp_in v1 61 ∧ (Q (some (.int (W3 233 v1.toNatClampNeg))) W3)))) (Q (some (.int (Int32.ofInt (-1)))) W1)))))) : fl_cal (d + 1) 157 [.ref 229, .int v1, .int v2] W Q := fl_intro [] (fl_fold (⟨rfl, ⟨Nat.le_of_ble_eq_true rfl, rfl, rfl, fl_c1 h (fun x1 W1 h => ⟨fun q => have h := h.1 q; ⟨trivial, h⟩, fun q => have h := h.2 q; ⟨fun q => have h := h.1 q; ⟨rfl, ⟨rfl, ⟨h.1, have h := h.2; ⟨trivial, h⟩⟩⟩⟩, fun q => have h := h.2 q; ⟨fun q => have h := h.1 q; ⟨rfl, ⟨rfl, ⟨h.1, have h := h.2; ⟨trivial, h⟩⟩⟩⟩, fun q => have h := h.2 q; ⟨fun q => have h := h.1 q; ⟨Nat.le_of_ble_eq_true rfl, rfl, rfl, rfl, fl_c0 h (fun W2 h => ⟨Nat.le_of_ble_eq_true rfl, rfl, rfl, rfl, fl_c0 h (fun W3 h => ⟨rfl, ⟨rfl, ⟨h.1, have h := h.2; ⟨trivial, h⟩⟩⟩⟩)⟩)⟩, fun q => have h := h.2 q; ⟨trivial, h⟩⟩⟩⟩⟩)⟩⟩))
/-! 158 PlaneDeskModel.lonely()I -/
def hd_158_4 (d : Nat) (Q : fl_R) (v1 v2 : Int32) (W : fl_W) : Prop := ∀ (o3 o4 : Option Value), fl_WP (fl_cal d) 158 [4, 17] Q 4 [some (.ref 229), some (.int v1), some (.int v2), o3, o4] [] W
def hd_158_17 (d : Nat) (Q : fl_R) (v1 v2 v3 v4 : Int32) (W : fl_W) : Prop := fl_WP (fl_cal d) 158 [4, 17] Q 17 [some (.ref 229), some (.int v1), some (.int v2), some (.int v3), some (.int v4)] [] W
theorem sx_158_4 {d : Nat} {Q : fl_R} (v1 v2 : Int32) (W : fl_W) (h : mi_br (v2 < (W 229 0)) (hd_158_17 d Q v1 v2 (Int32.ofInt 0) (Int32.ofInt 0) W) (Q (some (.int v1)) W)) : hd_158_4 d Q v1 v2 W := fun o3 o4 => fl_fold (⟨rfl, ⟨fun q => have h := h.1 q; ⟨Nat.le_of_ble_eq_true rfl, ⟨Nat.le_of_ble_eq_true rfl, h⟩⟩, fun q => have h := h.2 q; ⟨trivial, h⟩⟩⟩)
theorem sx_158_17 {d : Nat} {Q : fl_R} (v1 v2 v3 v4 : Int32) (W : fl_W) (h : mi_br (v4 < (W 229 1)) (mi_br (v3 = 0) (fl_cal d 133 [.ref 229, .int v4, .int v2] W (fl_q1 fun x1 W1 => mi_br (x1 < 0) (hd_158_17 d Q v1 v2 (Int32.ofInt 0) (v4 + Int32.ofInt 1) W1) (hd_158_17 d Q v1 v2 (Int32.ofInt 1) (v4 + Int32.ofInt 1) W1))) (hd_158_17 d Q v1 v2 (Int32.ofInt 1) (v4 + Int32.ofInt 1) W)) (mi_br (v3 = 0) (hd_158_4 d Q (v1 + (Int32.ofInt 1)) (v2 + Int32.ofInt 1) W) (hd_158_4 d Q (v1 + (Int32.ofInt 0)) (v2 + Int32.ofInt 1) W))) : hd_158_17 d Q v1 v2 v3 v4 W := fl_fold (⟨rfl, ⟨fun q => have h := h.1 q; ⟨fun q => have h := h.1 q; ⟨Nat.le_of_ble_eq_true rfl, rfl, rfl, rfl, fl_c1 h (fun x1 W1 h => ⟨fun q => have h := h.1 q; ⟨Nat.le_of_ble_eq_true rfl, h⟩, fun q => have h := h.2 q; ⟨Nat.le_of_ble_eq_true rfl, h⟩⟩)⟩, fun q => have h := h.2 q; ⟨Nat.le_of_ble_eq_true rfl, h⟩⟩, fun q => have h := h.2 q; ⟨fun q => have h := h.1 q; ⟨Nat.le_of_ble_eq_true rfl, h _ _⟩, fun q => have h := h.2 q; ⟨Nat.le_of_ble_eq_true rfl, h _ _⟩⟩⟩⟩)
theorem sx_158 {d : Nat} {Q : fl_R} (W : fl_W) (h : hd_158_4 d Q (Int32.ofInt 0) (Int32.ofInt 0) W) : fl_cal (d + 1) 158 [.ref 229] W Q := fl_intro [4, 17] (fl_fold (⟨Nat.le_of_ble_eq_true rfl, ⟨Nat.le_of_ble_eq_true rfl, h _ _⟩⟩))
/-! 159 PlaneDeskModel.about(I)I -/
theorem sx_159 {d : Nat} {Q : fl_R} (v1 : Int32) (W : fl_W) (h : fl_cal d 132 [.ref 229] W (fl_q0 fun W1 => (v1 = Int32.ofNat 0 → Q (some (.int (W1 229 0))) W1) ∧ (v1 = Int32.ofNat 1 → Q (some (.int (W1 229 1))) W1) ∧ (v1 = Int32.ofNat 2 → fl_cal d 134 [.ref 229] W1 (fl_q0 fun W2 => Q (some (.int (W2 229 22))) W2)) ∧ (v1 = Int32.ofNat 3 → fl_cal d 158 [.ref 229] W1 (fl_q1 fun x1 W3 => Q (some (.int x1)) W3)) ∧ (v1 = Int32.ofNat 4 → fl_cal d 137 [.ref 229] W1 (fl_q0 fun W4 => Q (some (.int (W4 229 6))) W4)) ∧ (v1 = Int32.ofNat 5 → fl_cal d 156 [.ref 229] W1 (fl_q1 fun x2 W5 => mi_br (x2 = 0) (Q (some (.int (Int32.ofInt 0))) W5) (Q (some (.int (Int32.ofInt 1))) W5))) ∧ ((¬ v1 = Int32.ofNat 0 ∧ ¬ v1 = Int32.ofNat 1 ∧ ¬ v1 = Int32.ofNat 2 ∧ ¬ v1 = Int32.ofNat 3 ∧ ¬ v1 = Int32.ofNat 4 ∧ ¬ v1 = Int32.ofNat 5) → Q (some (.int (Int32.ofInt (-1)))) W1))) : fl_cal (d + 1) 159 [.ref 229, .int v1] W Q := fl_intro [] (fl_fold (⟨Nat.le_of_ble_eq_true rfl, rfl, rfl, rfl, fl_c0 h (fun W1 h => fl_ts6 (fun q => have h := (h.1) q; ⟨by decide, ⟨rfl, ⟨trivial, h⟩⟩⟩) (fun q => have h := (h.2.1) q; ⟨by decide, ⟨rfl, ⟨trivial, h⟩⟩⟩) (fun q => have h := (h.2.2.1) q; ⟨by decide, ⟨Nat.le_of_ble_eq_true rfl, rfl, rfl, rfl, fl_c0 h (fun W2 h => ⟨rfl, ⟨trivial, h⟩⟩)⟩⟩) (fun q => have h := (h.2.2.2.1) q; ⟨by decide, ⟨Nat.le_of_ble_eq_true rfl, rfl, rfl, rfl, fl_c1 h (fun x1 W3 h => ⟨trivial, h⟩)⟩⟩) (fun q => have h := (h.2.2.2.2.1) q; ⟨by decide, ⟨Nat.le_of_ble_eq_true rfl, rfl, rfl, rfl, fl_c0 h (fun W4 h => ⟨rfl, ⟨trivial, h⟩⟩)⟩⟩) (fun q => have h := (h.2.2.2.2.2.1) q; ⟨by decide, ⟨Nat.le_of_ble_eq_true rfl, rfl, rfl, rfl, fl_c1 h (fun x2 W5 h => ⟨fun q => have h := h.1 q; ⟨trivial, h⟩, fun q => have h := h.2 q; ⟨trivial, h⟩⟩)⟩⟩) (fun q => have h := (h.2.2.2.2.2.2) q; ⟨by decide, ⟨trivial, h⟩⟩))⟩))
/-! 160 PlaneDeskModel.lay()I -/
theorem sx_160 {d : Nat} {Q : fl_R} (W : fl_W) (h : fl_cal d 132 [.ref 229] W (fl_q0 fun W1 => fl_cal d 153 [.ref 229, .int (Int32.ofInt 1)] W1 (fl_q1 fun x1 W2 => mi_br (x1 = 0) (∀ W3 : fl_W, W3 = fl_uw W2 229 9 (Int32.ofInt 0) → fl_cal d 161 [.ref 229] W3 (fl_q0 fun W4 => Q (some (.int (Int32.ofInt (-1)))) W4)) (∀ W5 : fl_W, W5 = fl_uw W2 229 9 (Int32.ofInt 1) → fl_cal d 168 [.ref 229] W5 (fl_q1 fun x2 W6 => Q (some (.int x2)) W6))))) : fl_cal (d + 1) 160 [.ref 229] W Q := fl_intro [] (fl_fold (⟨Nat.le_of_ble_eq_true rfl, rfl, rfl, rfl, fl_c0 h (fun W1 h => ⟨Nat.le_of_ble_eq_true rfl, rfl, rfl, rfl, fl_c1 h (fun x1 W2 h => ⟨fun q => have h := h.1 q; ⟨rfl, Or.inl rfl, have h := h _ rfl; ⟨Nat.le_of_ble_eq_true rfl, rfl, rfl, rfl, fl_c0 h (fun W4 h => ⟨trivial, h⟩)⟩⟩, fun q => have h := h.2 q; ⟨rfl, Or.inr rfl, have h := h _ rfl; ⟨Nat.le_of_ble_eq_true rfl, rfl, rfl, rfl, fl_c1 h (fun x2 W6 h => ⟨trivial, h⟩)⟩⟩⟩)⟩)⟩))
/-! 161 PlaneDeskModel.makeKnot()V -/
def hd_161_6 (d : Nat) (Q : fl_R) (v1 : Int32) (W : fl_W) : Prop := fl_WP (fl_cal d) 161 [6, 49] Q 6 [some (.ref 229), some (.int v1)] [] W
def hd_161_49 (d : Nat) (Q : fl_R) (v1 : Int32) (W : fl_W) : Prop := fl_WP (fl_cal d) 161 [6, 49] Q 49 [some (.ref 229), some (.int v1)] [] W
theorem sx_161_6 {d : Nat} {Q : fl_R} (v1 : Int32) (W : fl_W) (h : mi_br (v1 < (W 229 1)) (vp_in v1 61 ∧ (∀ W3 : fl_W, W3 = fl_uw W 232 v1.toNatClampNeg (Int32.ofInt 0) → fl_cal d 153 [.ref 229, .int (Int32.ofInt 0)] W3 (fl_q1 fun x1 W4 => mi_br (x1 = 0) (hd_161_6 d Q (v1 + Int32.ofInt 1) W4) (vp_in v1 61 ∧ (∀ W5 : fl_W, W5 = fl_uw W4 232 v1.toNatClampNeg (Int32.ofInt 1) → hd_161_6 d Q (v1 + Int32.ofInt 1) W5))))) (∀ W2 : fl_W, W2 = fl_uw W 229 11 (Int32.ofInt 0) → hd_161_49 d Q (Int32.ofInt 0) W2)) : hd_161_6 d Q v1 W := fl_fold (⟨rfl, ⟨fun q => have h := h.1 q; ⟨rfl, ⟨Or.inl rfl, ⟨rfl, ⟨h.1, have h := h.2; have h := h _ rfl; ⟨Nat.le_of_ble_eq_true rfl, rfl, rfl, rfl, fl_c1 h (fun x1 W4 h => ⟨fun q => have h := h.1 q; h, fun q => have h := h.2 q; ⟨rfl, ⟨Or.inr rfl, ⟨rfl, ⟨h.1, have h := h.2; have h := h _ rfl; h⟩⟩⟩⟩⟩)⟩⟩⟩⟩⟩, fun q => have h := h.2 q; ⟨rfl, trivial, have h := h _ rfl; ⟨Nat.le_of_ble_eq_true rfl, h⟩⟩⟩⟩)
theorem sx_161_49 {d : Nat} {Q : fl_R} (v1 : Int32) (W : fl_W) (h : mi_br (v1 < (W 229 1)) (vp_in v1 61 ∧ (mi_br ((W 232 v1.toNatClampNeg) = 0) (hd_161_49 d Q (v1 + Int32.ofInt 1) W) (vp_in (W 229 11) 60 ∧ (∀ W6 : fl_W, W6 = fl_uw W 236 (W 229 11).toNatClampNeg v1 → ∀ W7 : fl_W, W7 = fl_uw W6 229 11 ((W6 229 11) + (Int32.ofInt 1)) → hd_161_49 d Q (v1 + Int32.ofInt 1) W7)))) (Q none W)) : hd_161_49 d Q v1 W := fl_fold (⟨rfl, ⟨fun q => have h := h.1 q; ⟨rfl, ⟨rfl, ⟨h.1, have h := h.2; ⟨fun q => have h := h.1 q; h, fun q => have h := h.2 q; ⟨rfl, ⟨rfl, ⟨rfl, ⟨h.1, have h := h.2; have h := h _ rfl; ⟨rfl, ⟨rfl, ⟨rfl, trivial, have h := h _ rfl; h⟩⟩⟩⟩⟩⟩⟩⟩⟩⟩⟩, fun q => have h := h.2 q; ⟨rfl, h⟩⟩⟩)
theorem sx_161 {d : Nat} {Q : fl_R} (W : fl_W) (h : fl_cal d 132 [.ref 229] W (fl_q0 fun W1 => hd_161_6 d Q (Int32.ofInt 0) W1)) : fl_cal (d + 1) 161 [.ref 229] W Q := fl_intro [6, 49] (fl_fold (⟨Nat.le_of_ble_eq_true rfl, rfl, rfl, rfl, fl_c0 h (fun W1 h => ⟨Nat.le_of_ble_eq_true rfl, h⟩)⟩))
/-! 162 PlaneDeskModel.turn(II)I -/
theorem sx_162 {d : Nat} {Q : fl_R} (v1 v2 : Int32) (W : fl_W) (h : mi_br ((W 229 9) = 0) (Q (some (.int (Int32.ofInt (-1)))) W) (fl_cal d 125 [.ref 229, .int v1] W (fl_q1 fun x1 W1 => mi_br (x1 = 0) (Q (some (.int (Int32.ofInt (-1)))) W1) (vp_in v1 20 ∧ (fl_cal d 124 [.int v2, .int (Int32.ofInt 0), .int ((W1 235 v1.toNatClampNeg) - (Int32.ofInt 1))] W1 (fl_q1 fun x2 W2 => mi_br (x2 = 0) (Q (some (.int (Int32.ofInt (-1)))) W2) (vp_in (((Int8.ofInt 20).toInt32 * v1) + v2) 400 ∧ (Q (some (.int (W2 234 (((Int8.ofInt 20).toInt32 * v1) + v2).toNatClampNeg))) W2)))))))) : fl_cal (d + 1) 162 [.ref 229, .int v1, .int v2] W Q := fl_intro [] (fl_fold (⟨rfl, ⟨fun q => have h := h.1 q; ⟨trivial, h⟩, fun q => have h := h.2 q; ⟨Nat.le_of_ble_eq_true rfl, rfl, rfl, rfl, fl_c1 h (fun x1 W1 h => ⟨fun q => have h := h.1 q; ⟨trivial, h⟩, fun q => have h := h.2 q; ⟨rfl, ⟨rfl, ⟨h.1, have h := h.2; ⟨Nat.le_of_ble_eq_true rfl, rfl, rfl, fl_c1 h (fun x2 W2 h => ⟨fun q => have h := h.1 q; ⟨trivial, h⟩, fun q => have h := h.2 q; ⟨rfl, ⟨rfl, ⟨h.1, have h := h.2; ⟨trivial, h⟩⟩⟩⟩⟩)⟩⟩⟩⟩⟩)⟩⟩⟩))
/-! 163 PlaneDeskModel.swap(III)Z -/
theorem sx_163 {d : Nat} {Q : fl_R} (v1 v2 v3 : Int32) (W : fl_W) (h : mi_br ((W 229 9) = 0) (Q (some (.int (Int32.ofInt 0))) W) (fl_cal d 125 [.ref 229, .int v1] W (fl_q1 fun x1 W1 => mi_br (x1 = 0) (Q (some (.int (Int32.ofInt 0))) W1) (vp_in v1 20 ∧ (fl_cal d 124 [.int v2, .int (Int32.ofInt 0), .int ((W1 235 v1.toNatClampNeg) - (Int32.ofInt 1))] W1 (fl_q1 fun x2 W2 => mi_br (x2 = 0) (Q (some (.int (Int32.ofInt 0))) W2) (vp_in v1 20 ∧ (fl_cal d 124 [.int v3, .int (Int32.ofInt 0), .int ((W2 235 v1.toNatClampNeg) - (Int32.ofInt 1))] W2 (fl_q1 fun x3 W3 => mi_br (x3 = 0) (Q (some (.int (Int32.ofInt 0))) W3) (vp_in (((Int8.ofInt 20).toInt32 * v1) + v2) 400 ∧ (vp_in (((Int8.ofInt 20).toInt32 * v1) + v3) 400 ∧ (vp_in (((Int8.ofInt 20).toInt32 * v1) + v2) 400 ∧ (∀ W4 : fl_W, W4 = fl_uw W3 234 (((Int8.ofInt 20).toInt32 * v1) + v2).toNatClampNeg (W3 234 (((Int8.ofInt 20).toInt32 * v1) + v3).toNatClampNeg) → vp_in (((Int8.ofInt 20).toInt32 * v1) + v3) 400 ∧ (∀ W5 : fl_W, W5 = fl_uw W4 234 (((Int8.ofInt 20).toInt32 * v1) + v3).toNatClampNeg (W3 234 (((Int8.ofInt 20).toInt32 * v1) + v2).toNatClampNeg) → Q (some (.int (Int32.ofInt 1))) W5)))))))))))))) : fl_cal (d + 1) 163 [.ref 229, .int v1, .int v2, .int v3] W Q := fl_intro [] (fl_fold (⟨rfl, ⟨fun q => have h := h.1 q; ⟨Or.inl rfl, h⟩, fun q => have h := h.2 q; ⟨Nat.le_of_ble_eq_true rfl, rfl, rfl, rfl, fl_c1 h (fun x1 W1 h => ⟨fun q => have h := h.1 q; ⟨Or.inl rfl, h⟩, fun q => have h := h.2 q; ⟨rfl, ⟨rfl, ⟨h.1, have h := h.2; ⟨Nat.le_of_ble_eq_true rfl, rfl, rfl, fl_c1 h (fun x2 W2 h => ⟨fun q => have h := h.1 q; ⟨Or.inl rfl, h⟩, fun q => have h := h.2 q; ⟨rfl, ⟨rfl, ⟨h.1, have h := h.2; ⟨Nat.le_of_ble_eq_true rfl, rfl, rfl, fl_c1 h (fun x3 W3 h => ⟨fun q => have h := h.1 q; ⟨Or.inl rfl, h⟩, fun q => have h := h.2 q; ⟨rfl, ⟨rfl, ⟨h.1, have h := h.2; ⟨Nat.le_of_ble_eq_true rfl, ⟨rfl, ⟨rfl, ⟨rfl, ⟨h.1, have h := h.2; ⟨rfl, ⟨h.1, have h := h.2; have h := h _ rfl; ⟨rfl, ⟨rfl, ⟨h.1, have h := h.2; have h := h _ rfl; ⟨Or.inr rfl, h⟩⟩⟩⟩⟩⟩⟩⟩⟩⟩⟩⟩⟩⟩⟩)⟩⟩⟩⟩⟩)⟩⟩⟩⟩⟩)⟩⟩⟩))
/-! 164 PlaneDeskModel.tail(I)I -/
theorem sx_164 {d : Nat} {Q : fl_R} (v1 : Int32) (W : fl_W) (h : mi_br ((v1 - v1 / (Int32.ofInt 2) * (Int32.ofInt 2)) = 0) (vp_in (v1 / (Int32.ofInt 2)) 61 ∧ (Q (some (.int (W 230 (v1 / (Int32.ofInt 2)).toNatClampNeg))) W)) (vp_in (v1 / (Int32.ofInt 2)) 61 ∧ (Q (some (.int (W 231 (v1 / (Int32.ofInt 2)).toNatClampNeg))) W))) : fl_cal (d + 1) 164 [.ref 229, .int v1] W Q := fl_intro [] (fl_fold (⟨by decide, ⟨fun q => have h := h.1 q; ⟨rfl, ⟨by decide, ⟨rfl, ⟨h.1, have h := h.2; ⟨trivial, h⟩⟩⟩⟩⟩, fun q => have h := h.2 q; ⟨rfl, ⟨by decide, ⟨rfl, ⟨h.1, have h := h.2; ⟨trivial, h⟩⟩⟩⟩⟩⟩⟩))
/-! 165 PlaneDeskModel.dart(II)I -/
theorem sx_165 {d : Nat} {Q : fl_R} (v1 v2 : Int32) (W : fl_W) (h : fl_cal d 128 [.ref 229, .int v1, .int v2] W (fl_q1 fun x1 W1 => mi_br (v1 < v2) (Q (some (.int (((Int32.ofInt 2) * x1) + (Int32.ofInt 0)))) W1) (Q (some (.int (((Int32.ofInt 2) * x1) + (Int32.ofInt 1)))) W1))) : fl_cal (d + 1) 165 [.ref 229, .int v1, .int v2] W Q := fl_intro [] (fl_fold (⟨Nat.le_of_ble_eq_true rfl, rfl, rfl, rfl, fl_c1 h (fun x1 W1 h => ⟨fun q => have h := h.1 q; ⟨trivial, h⟩, fun q => have h := h.2 q; ⟨trivial, h⟩⟩)⟩))
/-! 166 PlaneDeskModel.following(I)I -/
def hd_166_17 (d : Nat) (Q : fl_R) (v2 v3 v4 : Int32) (W : fl_W) : Prop := ∀ (o1 : Option Value), fl_WP (fl_cal d) 166 [17] Q 17 [some (.ref 229), o1, some (.int v2), some (.int v3), some (.int v4)] [] W
theorem sx_166_17 {d : Nat} {Q : fl_R} (v2 v3 v4 : Int32) (W : fl_W) (h : vp_in (((Int8.ofInt 20).toInt32 * v3) + v4) 400 ∧ (mi_br ((W 234 (((Int8.ofInt 20).toInt32 * v3) + v4).toNatClampNeg) = v2) (vp_in v3 20 ∧ ((¬ (W 235 v3.toNatClampNeg) = 0) ∧ (vp_in (((Int8.ofInt 20).toInt32 * v3) + ((v4 + (Int32.ofInt 1)) - (v4 + (Int32.ofInt 1)) / (W 235 v3.toNatClampNeg) * (W 235 v3.toNatClampNeg))) 400 ∧ (fl_cal d 165 [.ref 229, .int v3, .int (W 234 (((Int8.ofInt 20).toInt32 * v3) + ((v4 + (Int32.ofInt 1)) - (v4 + (Int32.ofInt 1)) / (W 235 v3.toNatClampNeg) * (W 235 v3.toNatClampNeg))).toNatClampNeg)] W (fl_q1 fun x3 W3 => Q (some (.int x3)) W3))))) (hd_166_17 d Q v2 v3 (v4 + Int32.ofInt 1) W))) : hd_166_17 d Q v2 v3 v4 W := fun o1 => fl_fold (⟨rfl, ⟨rfl, ⟨h.1, have h := h.2; ⟨fun q => have h := h.1 q; ⟨rfl, ⟨rfl, ⟨rfl, ⟨h.1, have h := h.2; ⟨h.1, have h := h.2; ⟨rfl, ⟨h.1, have h := h.2; ⟨Nat.le_of_ble_eq_true rfl, rfl, rfl, rfl, fl_c1 h (fun x3 W3 h => ⟨trivial, h⟩)⟩⟩⟩⟩⟩⟩⟩⟩, fun q => have h := h.2 q; h _⟩⟩⟩⟩)
theorem sx_166 {d : Nat} {Q : fl_R} (v1 : Int32) (W : fl_W) (h : fl_cal d 164 [.ref 229, .int v1] W (fl_q1 fun x1 W1 => fl_cal d 164 [.ref 229, .int (v1 ^^^ (Int32.ofInt 1))] W1 (fl_q1 fun x2 W2 => hd_166_17 d Q x1 x2 (Int32.ofInt 0) W2))) : fl_cal (d + 1) 166 [.ref 229, .int v1] W Q := fl_intro [17] (fl_fold (⟨Nat.le_of_ble_eq_true rfl, rfl, rfl, rfl, fl_c1 h (fun x1 W1 h => ⟨Nat.le_of_ble_eq_true rfl, ⟨Nat.le_of_ble_eq_true rfl, rfl, rfl, rfl, fl_c1 h (fun x2 W2 h => ⟨Nat.le_of_ble_eq_true rfl, ⟨Nat.le_of_ble_eq_true rfl, h _⟩⟩)⟩⟩)⟩))
/-! 167 PlaneDeskModel.makeFaces()V -/
def hd_167_7 (d : Nat) (Q : fl_R) (v1 : Int32) (W : fl_W) : Prop := ∀ (o2 : Option Value), fl_WP (fl_cal d) 167 [7, 32, 56] Q 7 [some (.ref 229), some (.int v1), o2] [] W
def hd_167_32 (d : Nat) (Q : fl_R) (v1 : Int32) (W : fl_W) : Prop := ∀ (o2 : Option Value), fl_WP (fl_cal d) 167 [7, 32, 56] Q 32 [some (.ref 229), some (.int v1), o2] [] W
def hd_167_56 (d : Nat) (Q : fl_R) (v1 v2 : Int32) (W : fl_W) : Prop := fl_WP (fl_cal d) 167 [7, 32, 56] Q 56 [some (.ref 229), some (.int v1), some (.int v2)] [] W
theorem sx_167_7 {d : Nat} {Q : fl_R} (v1 : Int32) (W : fl_W) (h : mi_br (v1 < ((Int32.ofInt 2) * (W 229 1))) (vp_in v1 120 ∧ (∀ W2 : fl_W, W2 = fl_uw W 255 v1.toNatClampNeg (Int32.ofInt (-1)) → hd_167_7 d Q (v1 + Int32.ofInt 1) W2)) (hd_167_32 d Q (Int32.ofInt 0) W)) : hd_167_7 d Q v1 W := fun o2 => fl_fold (⟨rfl, ⟨fun q => have h := h.1 q; ⟨rfl, ⟨rfl, ⟨h.1, have h := h.2; have h := h _ rfl; h _⟩⟩⟩, fun q => have h := h.2 q; ⟨Nat.le_of_ble_eq_true rfl, h _⟩⟩⟩)
theorem sx_167_32 {d : Nat} {Q : fl_R} (v1 : Int32) (W : fl_W) (h : mi_br (v1 < ((Int32.ofInt 2) * (W 229 1))) (vp_in v1 120 ∧ (mi_br ((W 255 v1.toNatClampNeg) < 0) (hd_167_56 d Q v1 v1 W) (hd_167_32 d Q (v1 + Int32.ofInt 1) W))) (Q none W)) : hd_167_32 d Q v1 W := fun o2 => fl_fold (⟨rfl, ⟨fun q => have h := h.1 q; ⟨rfl, ⟨rfl, ⟨h.1, have h := h.2; ⟨fun q => have h := h.1 q; ⟨Nat.le_of_ble_eq_true rfl, h⟩, fun q => have h := h.2 q; h _⟩⟩⟩⟩, fun q => have h := h.2 q; ⟨rfl, h⟩⟩⟩)
theorem sx_167_56 {d : Nat} {Q : fl_R} (v1 v2 : Int32) (W : fl_W) (h : vp_in v2 120 ∧ (mi_br ((W 255 v2.toNatClampNeg) < 0) (vp_in v2 120 ∧ (∀ W4 : fl_W, W4 = fl_uw W 255 v2.toNatClampNeg (W 229 41) → fl_cal d 166 [.ref 229, .int v2] W4 (fl_q1 fun x1 W5 => hd_167_56 d Q v1 x1 W5))) (∀ W3 : fl_W, W3 = fl_uw W 229 41 ((W 229 41) + (Int32.ofInt 1)) → hd_167_32 d Q (v1 + Int32.ofInt 1) W3))) : hd_167_56 d Q v1 v2 W := fl_fold (⟨rfl, ⟨rfl, ⟨h.1, have h := h.2; ⟨fun q => have h := h.1 q; ⟨rfl, ⟨rfl, ⟨rfl, ⟨h.1, have h := h.2; have h := h _ rfl; ⟨Nat.le_of_ble_eq_true rfl, rfl, rfl, rfl, fl_c1 h (fun x1 W5 h => ⟨Nat.le_of_ble_eq_true rfl, h⟩)⟩⟩⟩⟩⟩, fun q => have h := h.2 q; ⟨rfl, ⟨rfl, ⟨rfl, trivial, have h := h _ rfl; h _⟩⟩⟩⟩⟩⟩⟩)
theorem sx_167 {d : Nat} {Q : fl_R} (W : fl_W) (h : ∀ W1 : fl_W, W1 = fl_uw W 229 41 (Int32.ofInt 0) → hd_167_7 d Q (Int32.ofInt 0) W1) : fl_cal (d + 1) 167 [.ref 229] W Q := fl_intro [7, 32, 56] (fl_fold (⟨rfl, trivial, have h := h _ rfl; ⟨Nat.le_of_ble_eq_true rfl, h _⟩⟩))
/-! 168 PlaneDeskModel.faces()I -/
theorem sx_168 {d : Nat} {Q : fl_R} (W : fl_W) (h : mi_br ((W 229 9) = 0) (Q (some (.int (Int32.ofInt (-1)))) W) (fl_cal d 167 [.ref 229] W (fl_q0 fun W1 => Q (some (.int (W1 229 41))) W1))) : fl_cal (d + 1) 168 [.ref 229] W Q := fl_intro [] (fl_fold (⟨rfl, ⟨fun q => have h := h.1 q; ⟨trivial, h⟩, fun q => have h := h.2 q; ⟨Nat.le_of_ble_eq_true rfl, rfl, rfl, rfl, fl_c0 h (fun W1 h => ⟨rfl, ⟨trivial, h⟩⟩)⟩⟩⟩))
/-! 169 PlaneDeskModel.face(II)I -/
def hd_169_23 (d : Nat) (Q : fl_R) (v1 v2 v3 : Int32) (W : fl_W) : Prop := ∀ (o4 o5 : Option Value), fl_WP (fl_cal d) 169 [23, 67] Q 23 [some (.ref 229), some (.int v1), some (.int v2), some (.int v3), o4, o5] [] W
def hd_169_67 (d : Nat) (Q : fl_R) (v2 v3 v4 v5 : Int32) (W : fl_W) : Prop := ∀ (o1 : Option Value), fl_WP (fl_cal d) 169 [23, 67] Q 67 [some (.ref 229), o1, some (.int v2), some (.int v3), some (.int v4), some (.int v5)] [] W
theorem sx_169_23 {d : Nat} {Q : fl_R} (v1 v2 v3 : Int32) (W : fl_W) (h : mi_br (v3 < ((Int32.ofInt 2) * (W 229 1))) (vp_in v3 120 ∧ (mi_br ((W 255 v3.toNatClampNeg) = v1) (mi_br (v3 = ((Int32.ofInt 2) * (W 229 1))) (Q (some (.int (Int32.ofInt (-1)))) W) (hd_169_67 d Q v2 v3 v3 (Int32.ofInt 0) W)) (hd_169_23 d Q v1 v2 (v3 + Int32.ofInt 1) W))) (mi_br (v3 = ((Int32.ofInt 2) * (W 229 1))) (Q (some (.int (Int32.ofInt (-1)))) W) (hd_169_67 d Q v2 v3 v3 (Int32.ofInt 0) W))) : hd_169_23 d Q v1 v2 v3 W := fun o4 o5 => fl_fold (⟨rfl, ⟨fun q => have h := h.1 q; ⟨rfl, ⟨rfl, ⟨h.1, have h := h.2; ⟨fun q => have h := h.1 q; ⟨rfl, ⟨fun q => have h := h.1 q; ⟨trivial, h⟩, fun q => have h := h.2 q; ⟨Nat.le_of_ble_eq_true rfl, ⟨Nat.le_of_ble_eq_true rfl, h _⟩⟩⟩⟩, fun q => have h := h.2 q; h _ _⟩⟩⟩⟩, fun q => have h := h.2 q; ⟨rfl, ⟨fun q => have h := h.1 q; ⟨trivial, h⟩, fun q => have h := h.2 q; ⟨Nat.le_of_ble_eq_true rfl, ⟨Nat.le_of_ble_eq_true rfl, h _⟩⟩⟩⟩⟩⟩)
theorem sx_169_67 {d : Nat} {Q : fl_R} (v2 v3 v4 v5 : Int32) (W : fl_W) (h : mi_br (v5 < v2) (fl_cal d 166 [.ref 229, .int v4] W (fl_q1 fun x2 W3 => mi_br (x2 = v3) (Q (some (.int (Int32.ofInt (-1)))) W3) (hd_169_67 d Q v2 v3 x2 (v5 + Int32.ofInt 1) W3))) (fl_cal d 164 [.ref 229, .int v4] W (fl_q1 fun x1 W2 => Q (some (.int x1)) W2))) : hd_169_67 d Q v2 v3 v4 v5 W := fun o1 => fl_fold (⟨fun q => have h := h.1 q; ⟨Nat.le_of_ble_eq_true rfl, rfl, rfl, rfl, fl_c1 h (fun x2 W3 h => ⟨Nat.le_of_ble_eq_true rfl, ⟨fun q => have h := h.1 q; ⟨trivial, h⟩, fun q => have h := h.2 q; h _⟩⟩)⟩, fun q => have h := h.2 q; ⟨Nat.le_of_ble_eq_true rfl, rfl, rfl, rfl, fl_c1 h (fun x1 W2 h => ⟨trivial, h⟩)⟩⟩)
theorem sx_169 {d : Nat} {Q : fl_R} (v1 v2 : Int32) (W : fl_W) (h : mi_br ((W 229 9) = 0) (Q (some (.int (Int32.ofInt (-1)))) W) (mi_br (v2 < 0) (Q (some (.int (Int32.ofInt (-1)))) W) (mi_br (v1 < 0) (Q (some (.int (Int32.ofInt (-1)))) W) (fl_cal d 167 [.ref 229] W (fl_q0 fun W1 => hd_169_23 d Q v1 v2 (Int32.ofInt 0) W1))))) : fl_cal (d + 1) 169 [.ref 229, .int v1, .int v2] W Q := fl_intro [23, 67] (fl_fold (⟨rfl, ⟨fun q => have h := h.1 q; ⟨trivial, h⟩, fun q => have h := h.2 q; ⟨fun q => have h := h.1 q; ⟨trivial, h⟩, fun q => have h := h.2 q; ⟨fun q => have h := h.1 q; ⟨trivial, h⟩, fun q => have h := h.2 q; ⟨Nat.le_of_ble_eq_true rfl, rfl, rfl, rfl, fl_c0 h (fun W1 h => ⟨Nat.le_of_ble_eq_true rfl, h _ _⟩)⟩⟩⟩⟩⟩))
/-! 170 PlaneDeskModel.genus()I -/
theorem sx_170 {d : Nat} {Q : fl_R} (W : fl_W) (h : mi_br ((W 229 9) = 0) (Q (some (.int (Int32.ofInt (-1)))) W) (fl_cal d 167 [.ref 229] W (fl_q0 fun W1 => fl_cal d 132 [.ref 229] W1 (fl_q0 fun W2 => fl_cal d 134 [.ref 229] W2 (fl_q0 fun W3 => fl_cal d 158 [.ref 229] W3 (fl_q1 fun x1 W4 => Q (some (.int (((((((Int32.ofInt 2) * (W3 229 22)) - x1) - (W4 229 0)) + (W4 229 1)) - (W4 229 41)) / (Int32.ofInt 2)))) W4)))))) : fl_cal (d + 1) 170 [.ref 229] W Q := fl_intro [] (fl_fold (⟨rfl, ⟨fun q => have h := h.1 q; ⟨trivial, h⟩, fun q => have h := h.2 q; ⟨Nat.le_of_ble_eq_true rfl, rfl, rfl, rfl, fl_c0 h (fun W1 h => ⟨Nat.le_of_ble_eq_true rfl, rfl, rfl, rfl, fl_c0 h (fun W2 h => ⟨Nat.le_of_ble_eq_true rfl, rfl, rfl, rfl, fl_c0 h (fun W3 h => ⟨rfl, ⟨Nat.le_of_ble_eq_true rfl, rfl, rfl, rfl, fl_c1 h (fun x1 W4 h => ⟨rfl, ⟨rfl, ⟨rfl, ⟨by decide, ⟨trivial, h⟩⟩⟩⟩⟩)⟩⟩)⟩)⟩)⟩⟩⟩))
/-! 171 PlaneDeskModel.knotDegree(I)I -/
def hd_171_4 (d : Nat) (Q : fl_R) (v1 v2 v3 : Int32) (W : fl_W) : Prop := fl_WP (fl_cal d) 171 [4] Q 4 [some (.ref 229), some (.int v1), some (.int v2), some (.int v3)] [] W
theorem sx_171_4 {d : Nat} {Q : fl_R} (v1 v2 v3 : Int32) (W : fl_W) (h : mi_br (v3 < (W 229 11)) (vp_in v3 60 ∧ (fl_cal d 133 [.ref 229, .int (W 236 v3.toNatClampNeg), .int v1] W (fl_q1 fun x1 W1 => mi_br (x1 < 0) (hd_171_4 d Q v1 (v2 + (Int32.ofInt 0)) (v3 + Int32.ofInt 1) W1) (hd_171_4 d Q v1 (v2 + (Int32.ofInt 1)) (v3 + Int32.ofInt 1) W1)))) (Q (some (.int v2)) W)) : hd_171_4 d Q v1 v2 v3 W := fl_fold (⟨rfl, ⟨fun q => have h := h.1 q; ⟨rfl, ⟨rfl, ⟨h.1, have h := h.2; ⟨Nat.le_of_ble_eq_true rfl, rfl, rfl, rfl, fl_c1 h (fun x1 W1 h => ⟨fun q => have h := h.1 q; ⟨Nat.le_of_ble_eq_true rfl, h⟩, fun q => have h := h.2 q; ⟨Nat.le_of_ble_eq_true rfl, h⟩⟩)⟩⟩⟩⟩, fun q => have h := h.2 q; ⟨trivial, h⟩⟩⟩)
theorem sx_171 {d : Nat} {Q : fl_R} (v1 : Int32) (W : fl_W) (h : hd_171_4 d Q v1 (Int32.ofInt 0) (Int32.ofInt 0) W) : fl_cal (d + 1) 171 [.ref 229, .int v1] W Q := fl_intro [4] (fl_fold (⟨Nat.le_of_ble_eq_true rfl, ⟨Nat.le_of_ble_eq_true rfl, h⟩⟩))
/-! 172 PlaneDeskModel.branch(I)I -/
def hd_172_4 (d : Nat) (Q : fl_R) (v1 v2 v3 : Int32) (W : fl_W) : Prop := fl_WP (fl_cal d) 172 [4] Q 4 [some (.ref 229), some (.int v1), some (.int v2), some (.int v3)] [] W
theorem sx_172_4 {d : Nat} {Q : fl_R} (v1 v2 v3 : Int32) (W : fl_W) (h : mi_br (v3 < (W 229 0)) (fl_cal d 171 [.ref 229, .int v3] W (fl_q1 fun x1 W1 => mi_br (x1 < (Int32.ofInt 3)) (hd_172_4 d Q v1 v2 (v3 + Int32.ofInt 1) W1) (mi_br (v2 = v1) (Q (some (.int v3)) W1) (hd_172_4 d Q v1 (v2 + Int32.ofInt 1) (v3 + Int32.ofInt 1) W1)))) (mi_br (v1 < 0) (Q (some (.int v2)) W) (Q (some (.int (Int32.ofInt (-1)))) W))) : hd_172_4 d Q v1 v2 v3 W := fl_fold (⟨rfl, ⟨fun q => have h := h.1 q; ⟨Nat.le_of_ble_eq_true rfl, rfl, rfl, rfl, fl_c1 h (fun x1 W1 h => ⟨fun q => have h := h.1 q; h, fun q => have h := h.2 q; ⟨fun q => have h := h.1 q; ⟨trivial, h⟩, fun q => have h := h.2 q; h⟩⟩)⟩, fun q => have h := h.2 q; ⟨fun q => have h := h.1 q; ⟨trivial, h⟩, fun q => have h := h.2 q; ⟨trivial, h⟩⟩⟩⟩)
theorem sx_172 {d : Nat} {Q : fl_R} (v1 : Int32) (W : fl_W) (h : hd_172_4 d Q v1 (Int32.ofInt 0) (Int32.ofInt 0) W) : fl_cal (d + 1) 172 [.ref 229, .int v1] W Q := fl_intro [4] (fl_fold (⟨Nat.le_of_ble_eq_true rfl, ⟨Nat.le_of_ble_eq_true rfl, h⟩⟩))
/-! 173 PlaneDeskModel.knot(I)I -/
theorem sx_173 {d : Nat} {Q : fl_R} (v1 : Int32) (W : fl_W) (h : mi_br ((W 229 11) = 0) (Q (some (.int (Int32.ofInt (-1)))) W) (mi_br (v1 < (Int16.ofInt 200).toInt32) (mi_br (v1 < (Int8.ofInt 100).toInt32) (fl_cal d 172 [.ref 229, .int (Int32.ofInt (-1))] W (fl_q1 fun x1 W1 => mi_br (v1 = 0) (Q (some (.int (W1 229 11))) W1) (mi_br (v1 = (Int32.ofInt 1)) (mi_br (x1 = (Int32.ofInt 5)) (Q (some (.int (Int32.ofInt 5))) W1) (Q (some (.int (Int32.ofInt 3))) W1)) (mi_br (v1 = (Int32.ofInt 2)) (Q (some (.int x1)) W1) (Q (some (.int (Int32.ofInt (-1)))) W1))))) (mi_br ((v1 - (Int8.ofInt 100).toInt32) < (W 229 11)) (vp_in (v1 - (Int8.ofInt 100).toInt32) 60 ∧ (Q (some (.int (W 236 (v1 - (Int8.ofInt 100).toInt32).toNatClampNeg))) W)) (Q (some (.int (Int32.ofInt (-1)))) W))) (fl_cal d 172 [.ref 229, .int (v1 - (Int16.ofInt 200).toInt32)] W (fl_q1 fun x2 W2 => Q (some (.int x2)) W2)))) : fl_cal (d + 1) 173 [.ref 229, .int v1] W Q := fl_intro [] (fl_fold (⟨rfl, ⟨fun q => have h := h.1 q; ⟨trivial, h⟩, fun q => have h := h.2 q; ⟨fun q => have h := h.1 q; ⟨fun q => have h := h.1 q; ⟨Nat.le_of_ble_eq_true rfl, rfl, rfl, rfl, fl_c1 h (fun x1 W1 h => ⟨Nat.le_of_ble_eq_true rfl, ⟨fun q => have h := h.1 q; ⟨rfl, ⟨trivial, h⟩⟩, fun q => have h := h.2 q; ⟨fun q => have h := h.1 q; ⟨fun q => have h := h.1 q; ⟨trivial, h⟩, fun q => have h := h.2 q; ⟨trivial, h⟩⟩, fun q => have h := h.2 q; ⟨fun q => have h := h.1 q; ⟨trivial, h⟩, fun q => have h := h.2 q; ⟨trivial, h⟩⟩⟩⟩⟩)⟩, fun q => have h := h.2 q; ⟨rfl, ⟨fun q => have h := h.1 q; ⟨rfl, ⟨rfl, ⟨h.1, have h := h.2; ⟨trivial, h⟩⟩⟩⟩, fun q => have h := h.2 q; ⟨trivial, h⟩⟩⟩⟩, fun q => have h := h.2 q; ⟨Nat.le_of_ble_eq_true rfl, rfl, rfl, rfl, fl_c1 h (fun x2 W2 h => ⟨trivial, h⟩)⟩⟩⟩⟩))
/-! 174 PlaneDeskModel.could(II)Z -/
theorem sx_174 {d : Nat} {Q : fl_R} (v1 v2 : Int32) (W : fl_W) (h : fl_cal d 129 [.ref 229, .int v1, .int v2] W (fl_q0 fun W1 => fl_cal d 156 [.ref 229] W1 (fl_q1 fun x1 W2 => ∀ W3 : fl_W, W3 = fl_uw W2 229 1 ((W2 229 1) - (Int32.ofInt 1)) → (x1 = 0 ∨ x1 = 1) ∧ Q (some (.int x1)) W3))) : fl_cal (d + 1) 174 [.ref 229, .int v1, .int v2] W Q := fl_intro [] (fl_fold (⟨Nat.le_of_ble_eq_true rfl, rfl, rfl, rfl, fl_c0 h (fun W1 h => ⟨Nat.le_of_ble_eq_true rfl, rfl, rfl, rfl, fl_c1 h (fun x1 W2 h => ⟨Nat.le_of_ble_eq_true rfl, ⟨rfl, ⟨rfl, ⟨rfl, trivial, have h := h _ rfl; ⟨h.1, h.2⟩⟩⟩⟩⟩)⟩)⟩))
/-! 175 PlaneDeskModel.may(II)I -/
theorem sx_175 {d : Nat} {Q : fl_R} (v1 v2 : Int32) (W : fl_W) (h : fl_cal d 125 [.ref 229, .int v1] W (fl_q1 fun x1 W1 => mi_br (x1 = 0) (Q (some (.int (Int32.ofInt (-1)))) W1) (fl_cal d 125 [.ref 229, .int v2] W1 (fl_q1 fun x2 W2 => mi_br (x2 = 0) (Q (some (.int (Int32.ofInt (-1)))) W2) (mi_br (v1 = v2) (Q (some (.int (Int32.ofInt (-1)))) W2) (fl_cal d 128 [.ref 229, .int v1, .int v2] W2 (fl_q1 fun x3 W3 => mi_br (x3 < 0) (mi_br ((W3 229 1) = (Int8.ofInt 60).toInt32) (Q (some (.int (Int32.ofInt (-1)))) W3) (fl_cal d 156 [.ref 229] W3 (fl_q1 fun x4 W4 => mi_br (x4 = 0) (Q (some (.int (Int32.ofInt (-1)))) W4) (fl_cal d 174 [.ref 229, .int v1, .int v2] W4 (fl_q1 fun x5 W5 => mi_br (x5 = 0) (Q (some (.int (Int32.ofInt 0))) W5) (Q (some (.int (Int32.ofInt 1))) W5)))))) (Q (some (.int (Int32.ofInt (-1)))) W3)))))))) : fl_cal (d + 1) 175 [.ref 229, .int v1, .int v2] W Q := fl_intro [] (fl_fold (⟨Nat.le_of_ble_eq_true rfl, rfl, rfl, rfl, fl_c1 h (fun x1 W1 h => ⟨fun q => have h := h.1 q; ⟨trivial, h⟩, fun q => have h := h.2 q; ⟨Nat.le_of_ble_eq_true rfl, rfl, rfl, rfl, fl_c1 h (fun x2 W2 h => ⟨fun q => have h := h.1 q; ⟨trivial, h⟩, fun q => have h := h.2 q; ⟨fun q => have h := h.1 q; ⟨trivial, h⟩, fun q => have h := h.2 q; ⟨Nat.le_of_ble_eq_true rfl, rfl, rfl, rfl, fl_c1 h (fun x3 W3 h => ⟨fun q => have h := h.1 q; ⟨rfl, ⟨fun q => have h := h.1 q; ⟨trivial, h⟩, fun q => have h := h.2 q; ⟨Nat.le_of_ble_eq_true rfl, rfl, rfl, rfl, fl_c1 h (fun x4 W4 h => ⟨fun q => have h := h.1 q; ⟨trivial, h⟩, fun q => have h := h.2 q; ⟨Nat.le_of_ble_eq_true rfl, rfl, rfl, rfl, fl_c1 h (fun x5 W5 h => ⟨fun q => have h := h.1 q; ⟨trivial, h⟩, fun q => have h := h.2 q; ⟨trivial, h⟩⟩)⟩⟩)⟩⟩⟩, fun q => have h := h.2 q; ⟨trivial, h⟩⟩)⟩⟩⟩)⟩⟩)⟩))
/-! 176 PlaneDeskModel.fill()I -/
def hd_176_16 (d : Nat) (Q : fl_R) (v1 v2 : Int32) (W : fl_W) : Prop := ∀ (o3 : Option Value), fl_WP (fl_cal d) 176 [16, 28] Q 16 [some (.ref 229), some (.int v1), some (.int v2), o3] [] W
def hd_176_28 (d : Nat) (Q : fl_R) (v1 v2 v3 : Int32) (W : fl_W) : Prop := fl_WP (fl_cal d) 176 [16, 28] Q 28 [some (.ref 229), some (.int v1), some (.int v2), some (.int v3)] [] W
theorem sx_176_16 {d : Nat} {Q : fl_R} (v1 v2 : Int32) (W : fl_W) (h : mi_br (v2 < (W 229 0)) (hd_176_28 d Q v1 v2 (v2 + (Int32.ofInt 1)) W) (mi_br ((W 229 1) ≤ v1) (Q (some (.int ((W 229 1) - v1))) W) (fl_cal d 126 [.ref 229] W (fl_q0 fun W2 => Q (some (.int ((W2 229 1) - v1))) W2)))) : hd_176_16 d Q v1 v2 W := fun o3 => fl_fold (⟨rfl, ⟨fun q => have h := h.1 q; ⟨Nat.le_of_ble_eq_true rfl, h⟩, fun q => have h := h.2 q; ⟨rfl, ⟨fun q => have h := h.1 q; ⟨rfl, ⟨trivial, h⟩⟩, fun q => have h := h.2 q; ⟨Nat.le_of_ble_eq_true rfl, rfl, rfl, rfl, fl_c0 h (fun W2 h => ⟨rfl, ⟨trivial, h⟩⟩)⟩⟩⟩⟩⟩)
theorem sx_176_28 {d : Nat} {Q : fl_R} (v1 v2 v3 : Int32) (W : fl_W) (h : mi_br (v3 < (W 229 0)) (fl_cal d 128 [.ref 229, .int v2, .int v3] W (fl_q1 fun x2 W3 => mi_br (x2 < 0) (fl_cal d 174 [.ref 229, .int v2, .int v3] W3 (fl_q1 fun x3 W4 => mi_br (x3 = 0) (hd_176_28 d Q v1 v2 (v3 + Int32.ofInt 1) W4) (fl_cal d 129 [.ref 229, .int v2, .int v3] W4 (fl_q0 fun W5 => hd_176_28 d Q v1 v2 (v3 + Int32.ofInt 1) W5)))) (hd_176_28 d Q v1 v2 (v3 + Int32.ofInt 1) W3))) (hd_176_16 d Q v1 (v2 + Int32.ofInt 1) W)) : hd_176_28 d Q v1 v2 v3 W := fl_fold (⟨rfl, ⟨fun q => have h := h.1 q; ⟨Nat.le_of_ble_eq_true rfl, rfl, rfl, rfl, fl_c1 h (fun x2 W3 h => ⟨fun q => have h := h.1 q; ⟨Nat.le_of_ble_eq_true rfl, rfl, rfl, rfl, fl_c1 h (fun x3 W4 h => ⟨fun q => have h := h.1 q; h, fun q => have h := h.2 q; ⟨Nat.le_of_ble_eq_true rfl, rfl, rfl, rfl, fl_c0 h (fun W5 h => h)⟩⟩)⟩, fun q => have h := h.2 q; h⟩)⟩, fun q => have h := h.2 q; h _⟩⟩)
theorem sx_176 {d : Nat} {Q : fl_R} (W : fl_W) (h : fl_cal d 156 [.ref 229] W (fl_q1 fun x1 W1 => mi_br (x1 = 0) (Q (some (.int (Int32.ofInt (-1)))) W1) (hd_176_16 d Q (W1 229 1) (Int32.ofInt 0) W1))) : fl_cal (d + 1) 176 [.ref 229] W Q := fl_intro [16, 28] (fl_fold (⟨Nat.le_of_ble_eq_true rfl, rfl, rfl, rfl, fl_c1 h (fun x1 W1 h => ⟨fun q => have h := h.1 q; ⟨trivial, h⟩, fun q => have h := h.2 q; ⟨rfl, ⟨Nat.le_of_ble_eq_true rfl, ⟨Nat.le_of_ble_eq_true rfl, h _⟩⟩⟩⟩)⟩))
/-! 177 PlaneDeskModel.rimPlace(I)I -/
def hd_177_2 (d : Nat) (Q : fl_R) (v1 v2 : Int32) (W : fl_W) : Prop := fl_WP (fl_cal d) 177 [2] Q 2 [some (.ref 229), some (.int v1), some (.int v2)] [] W
theorem sx_177_2 {d : Nat} {Q : fl_R} (v1 v2 : Int32) (W : fl_W) (h : mi_br (v2 < (W 229 45)) (vp_in v2 20 ∧ (mi_br ((W 258 v2.toNatClampNeg) = v1) (mi_br (v2 < (W 229 45)) (Q (some (.int v2)) W) (Q (some (.int (Int32.ofInt (-1)))) W)) (hd_177_2 d Q v1 (v2 + Int32.ofInt 1) W))) (mi_br (v2 < (W 229 45)) (Q (some (.int v2)) W) (Q (some (.int (Int32.ofInt (-1)))) W))) : hd_177_2 d Q v1 v2 W := fl_fold (⟨rfl, ⟨fun q => have h := h.1 q; ⟨rfl, ⟨rfl, ⟨h.1, have h := h.2; ⟨fun q => have h := h.1 q; ⟨rfl, ⟨fun q => have h := h.1 q; ⟨trivial, h⟩, fun q => have h := h.2 q; ⟨trivial, h⟩⟩⟩, fun q => have h := h.2 q; h⟩⟩⟩⟩, fun q => have h := h.2 q; ⟨rfl, ⟨fun q => have h := h.1 q; ⟨trivial, h⟩, fun q => have h := h.2 q; ⟨trivial, h⟩⟩⟩⟩⟩)
theorem sx_177 {d : Nat} {Q : fl_R} (v1 : Int32) (W : fl_W) (h : hd_177_2 d Q v1 (Int32.ofInt 0) W) : fl_cal (d + 1) 177 [.ref 229, .int v1] W Q := fl_intro [2] (fl_fold (⟨Nat.le_of_ble_eq_true rfl, h⟩))
/-! 178 PlaneDeskModel.isFree(I)Z -/
def hd_178_2 (d : Nat) (Q : fl_R) (v1 v2 : Int32) (W : fl_W) : Prop := fl_WP (fl_cal d) 178 [2] Q 2 [some (.ref 229), some (.int v1), some (.int v2)] [] W
theorem sx_178_2 {d : Nat} {Q : fl_R} (v1 v2 : Int32) (W : fl_W) (h : mi_br (v2 < (W 229 45)) (mi_br (v2 = v1) (hd_178_2 d Q v1 (v2 + Int32.ofInt 1) W) (mi_br (v2 = (v1 - (Int32.ofInt 1))) (hd_178_2 d Q v1 (v2 + Int32.ofInt 1) W) (mi_br (v2 = (v1 + (Int32.ofInt 1))) (hd_178_2 d Q v1 (v2 + Int32.ofInt 1) W) (vp_in v2 20 ∧ (vp_in v1 20 ∧ (fl_cal d 128 [.ref 229, .int (W 258 v2.toNatClampNeg), .int (W 258 v1.toNatClampNeg)] W (fl_q1 fun x1 W1 => mi_br (x1 < 0) (hd_178_2 d Q v1 (v2 + Int32.ofInt 1) W1) (Q (some (.int (Int32.ofInt 0))) W1)))))))) (Q (some (.int (Int32.ofInt 1))) W)) : hd_178_2 d Q v1 v2 W := fl_fold (⟨rfl, ⟨fun q => have h := h.1 q; ⟨fun q => have h := h.1 q; h, fun q => have h := h.2 q; ⟨fun q => have h := h.1 q; h, fun q => have h := h.2 q; ⟨fun q => have h := h.1 q; h, fun q => have h := h.2 q; ⟨rfl, ⟨rfl, ⟨h.1, have h := h.2; ⟨rfl, ⟨rfl, ⟨h.1, have h := h.2; ⟨Nat.le_of_ble_eq_true rfl, rfl, rfl, rfl, fl_c1 h (fun x1 W1 h => ⟨fun q => have h := h.1 q; h, fun q => have h := h.2 q; ⟨Or.inl rfl, h⟩⟩)⟩⟩⟩⟩⟩⟩⟩⟩⟩⟩, fun q => have h := h.2 q; ⟨Or.inr rfl, h⟩⟩⟩)
theorem sx_178 {d : Nat} {Q : fl_R} (v1 : Int32) (W : fl_W) (h : hd_178_2 d Q v1 (Int32.ofInt 0) W) : fl_cal (d + 1) 178 [.ref 229, .int v1] W Q := fl_intro [2] (fl_fold (⟨Nat.le_of_ble_eq_true rfl, h⟩))
/-! 179 PlaneDeskModel.turnPlace(II)I -/
def hd_179_2 (d : Nat) (Q : fl_R) (v1 v2 v3 : Int32) (W : fl_W) : Prop := fl_WP (fl_cal d) 179 [2] Q 2 [some (.ref 229), some (.int v1), some (.int v2), some (.int v3)] [] W
theorem sx_179_2 {d : Nat} {Q : fl_R} (v1 v2 v3 : Int32) (W : fl_W) (h : vp_in (((Int8.ofInt 20).toInt32 * v1) + v3) 400 ∧ (mi_br ((W 234 (((Int8.ofInt 20).toInt32 * v1) + v3).toNatClampNeg) = v2) (Q (some (.int v3)) W) (hd_179_2 d Q v1 v2 (v3 + Int32.ofInt 1) W))) : hd_179_2 d Q v1 v2 v3 W := fl_fold (⟨rfl, ⟨rfl, ⟨h.1, have h := h.2; ⟨fun q => have h := h.1 q; ⟨trivial, h⟩, fun q => have h := h.2 q; h⟩⟩⟩⟩)
theorem sx_179 {d : Nat} {Q : fl_R} (v1 v2 : Int32) (W : fl_W) (h : hd_179_2 d Q v1 v2 (Int32.ofInt 0) W) : fl_cal (d + 1) 179 [.ref 229, .int v1, .int v2] W Q := fl_intro [2] (fl_fold (⟨Nat.le_of_ble_eq_true rfl, h⟩))
/-! 180 PlaneDeskModel.isNew(I)Z -/
theorem sx_180 {d : Nat} {Q : fl_R} (v1 : Int32) (W : fl_W) (h : vp_in v1 20 ∧ (mi_br ((W 257 v1.toNatClampNeg) = 0) (fl_cal d 177 [.ref 229, .int v1] W (fl_q1 fun x1 W1 => mi_br (x1 < 0) (Q (some (.int (Int32.ofInt 1))) W1) (Q (some (.int (Int32.ofInt 0))) W1))) (Q (some (.int (Int32.ofInt 0))) W))) : fl_cal (d + 1) 180 [.ref 229, .int v1] W Q := fl_intro [] (fl_fold (⟨rfl, ⟨rfl, ⟨h.1, have h := h.2; ⟨fun q => have h := h.1 q; ⟨Nat.le_of_ble_eq_true rfl, rfl, rfl, rfl, fl_c1 h (fun x1 W1 h => ⟨fun q => have h := h.1 q; ⟨Or.inr rfl, h⟩, fun q => have h := h.2 q; ⟨Or.inl rfl, h⟩⟩)⟩, fun q => have h := h.2 q; ⟨Or.inl rfl, h⟩⟩⟩⟩⟩))
/-! 181 PlaneDeskModel.gather(IIII)Z -/
def hd_181_30 (d : Nat) (Q : fl_R) (v1 v3 v4 v5 v6 : Int32) (W : fl_W) : Prop := ∀ (o2 o7 o8 : Option Value), fl_WP (fl_cal d) 181 [30, 114] Q 30 [some (.ref 229), some (.int v1), o2, some (.int v3), some (.int v4), some (.int v5), some (.int v6), o7, o8] [] W
def hd_181_114 (d : Nat) (Q : fl_R) (v1 v5 v7 v8 : Int32) (W : fl_W) : Prop := ∀ (o2 o3 o4 o6 : Option Value), fl_WP (fl_cal d) 181 [30, 114] Q 114 [some (.ref 229), some (.int v1), o2, o3, o4, some (.int v5), o6, some (.int v7), some (.int v8)] [] W
set_option maxRecDepth 20000 in
theorem sx_181_30 {d : Nat} {Q : fl_R} (v1 v3 v4 v5 v6 : Int32) (W : fl_W) (h : vp_in (((Int8.ofInt 20).toInt32 * v1) + v6) 400 ∧ (mi_br ((W 234 (((Int8.ofInt 20).toInt32 * v1) + v6).toNatClampNeg) = v3) (hd_181_114 d Q v1 v5 (Int32.ofInt 0) (Int32.ofInt 0) W) (vp_in (((Int8.ofInt 20).toInt32 * v1) + v6) 400 ∧ (fl_cal d 180 [.ref 229, .int (W 234 (((Int8.ofInt 20).toInt32 * v1) + v6).toNatClampNeg)] W (fl_q1 fun x2 W3 => mi_br (x2 = 0) (Q (some (.int (Int32.ofInt 0))) W3) (vp_in (W3 229 47) 20 ∧ (∀ W4 : fl_W, W4 = fl_uw W3 259 (W3 229 47).toNatClampNeg (W 234 (((Int8.ofInt 20).toInt32 * v1) + v6).toNatClampNeg) → ∀ W5 : fl_W, W5 = fl_uw W4 229 47 ((W4 229 47) + (Int32.ofInt 1)) → (¬ v5 = 0) ∧ (hd_181_30 d Q v1 v3 v4 v5 (((v6 + v4) + v5) - ((v6 + v4) + v5) / v5 * v5) W5)))))))) : hd_181_30 d Q v1 v3 v4 v5 v6 W := fun o2 o7 o8 => fl_fold (⟨rfl, ⟨rfl, ⟨h.1, have h := h.2; ⟨fun q => have h := h.1 q; ⟨Nat.le_of_ble_eq_true rfl, ⟨Nat.le_of_ble_eq_true rfl, h _ _ _ _⟩⟩, fun q => have h := h.2 q; ⟨rfl, ⟨rfl, ⟨h.1, have h := h.2; ⟨Nat.le_of_ble_eq_true rfl, ⟨Nat.le_of_ble_eq_true rfl, rfl, rfl, rfl, fl_c1 h (fun x2 W3 h => ⟨fun q => have h := h.1 q; ⟨Or.inl rfl, h⟩, fun q => have h := h.2 q; ⟨rfl, ⟨rfl, ⟨rfl, ⟨h.1, have h := h.2; have h := h _ rfl; ⟨rfl, ⟨rfl, ⟨rfl, trivial, have h := h _ rfl; ⟨h.1, have h := h.2; ⟨Nat.le_of_ble_eq_true rfl, h _ _ _⟩⟩⟩⟩⟩⟩⟩⟩⟩⟩)⟩⟩⟩⟩⟩⟩⟩⟩⟩)
set_option maxRecDepth 20000 in
theorem sx_181_114 {d : Nat} {Q : fl_R} (v1 v5 v7 v8 : Int32) (W : fl_W) (h : mi_br (v8 < v5) (vp_in (((Int8.ofInt 20).toInt32 * v1) + v8) 400 ∧ (fl_cal d 180 [.ref 229, .int (W 234 (((Int8.ofInt 20).toInt32 * v1) + v8).toNatClampNeg)] W (fl_q1 fun x3 W6 => mi_br (x3 = 0) (hd_181_114 d Q v1 v5 (v7 + (Int32.ofInt 0)) (v8 + Int32.ofInt 1) W6) (hd_181_114 d Q v1 v5 (v7 + (Int32.ofInt 1)) (v8 + Int32.ofInt 1) W6)))) (mi_br ((W 229 47) = v7) (Q (some (.int (Int32.ofInt 1))) W) (Q (some (.int (Int32.ofInt 0))) W))) : hd_181_114 d Q v1 v5 v7 v8 W := fun o2 o3 o4 o6 => fl_fold (⟨fun q => have h := h.1 q; ⟨rfl, ⟨rfl, ⟨h.1, have h := h.2; ⟨Nat.le_of_ble_eq_true rfl, rfl, rfl, rfl, fl_c1 h (fun x3 W6 h => ⟨fun q => have h := h.1 q; ⟨Nat.le_of_ble_eq_true rfl, h _ _ _ _⟩, fun q => have h := h.2 q; ⟨Nat.le_of_ble_eq_true rfl, h _ _ _ _⟩⟩)⟩⟩⟩⟩, fun q => have h := h.2 q; ⟨rfl, ⟨fun q => have h := h.1 q; ⟨Or.inr rfl, h⟩, fun q => have h := h.2 q; ⟨Or.inl rfl, h⟩⟩⟩⟩)
set_option maxRecDepth 20000 in
theorem sx_181 {d : Nat} {Q : fl_R} (v1 v2 v3 v4 : Int32) (W : fl_W) (h : vp_in v1 20 ∧ (∀ W1 : fl_W, W1 = fl_uw W 229 47 (Int32.ofInt 0) → fl_cal d 179 [.ref 229, .int v1, .int v2] W1 (fl_q1 fun x1 W2 => (¬ (W 235 v1.toNatClampNeg) = 0) ∧ (hd_181_30 d Q v1 v3 v4 (W 235 v1.toNatClampNeg) (((x1 + v4) + (W 235 v1.toNatClampNeg)) - ((x1 + v4) + (W 235 v1.toNatClampNeg)) / (W 235 v1.toNatClampNeg) * (W 235 v1.toNatClampNeg)) W2)))) : fl_cal (d + 1) 181 [.ref 229, .int v1, .int v2, .int v3, .int v4] W Q := fl_intro [30, 114] (fl_fold (⟨rfl, ⟨rfl, ⟨h.1, have h := h.2; ⟨Nat.le_of_ble_eq_true rfl, ⟨rfl, trivial, have h := h _ rfl; ⟨Nat.le_of_ble_eq_true rfl, rfl, rfl, rfl, fl_c1 h (fun x1 W2 h => ⟨h.1, have h := h.2; ⟨Nat.le_of_ble_eq_true rfl, h _ _ _⟩⟩)⟩⟩⟩⟩⟩⟩))
/-! 182 PlaneDeskModel.makeOrder()V -/
def hd_182_2 (d : Nat) (Q : fl_R) (v1 : Int32) (W : fl_W) : Prop := ∀ (o2 o3 o4 o5 : Option Value), fl_WP (fl_cal d) 182 [2, 95, 104, 221, 259, 295] Q 2 [some (.ref 229), some (.int v1), o2, o3, o4, o5] [] W
def hd_182_95 (d : Nat) (Q : fl_R) (v1 : Int32) (W : fl_W) : Prop := ∀ (o2 o3 o4 o5 : Option Value), fl_WP (fl_cal d) 182 [2, 95, 104, 221, 259, 295] Q 95 [some (.ref 229), some (.int v1), o2, o3, o4, o5] [] W
def hd_182_104 (d : Nat) (Q : fl_R) (v1 v2 v3 : Int32) (W : fl_W) : Prop := ∀ (o4 o5 : Option Value), fl_WP (fl_cal d) 182 [2, 95, 104, 221, 259, 295] Q 104 [some (.ref 229), some (.int v1), some (.int v2), some (.int v3), o4, o5] [] W
def hd_182_221 (d : Nat) (Q : fl_R) (v1 v2 v4 : Int32) (W : fl_W) : Prop := ∀ (o3 o5 : Option Value), fl_WP (fl_cal d) 182 [2, 95, 104, 221, 259, 295] Q 221 [some (.ref 229), some (.int v1), some (.int v2), o3, some (.int v4), o5] [] W
def hd_182_259 (d : Nat) (Q : fl_R) (v1 v2 v4 v5 : Int32) (W : fl_W) : Prop := ∀ (o3 : Option Value), fl_WP (fl_cal d) 182 [2, 95, 104, 221, 259, 295] Q 259 [some (.ref 229), some (.int v1), some (.int v2), o3, some (.int v4), some (.int v5)] [] W
def hd_182_295 (d : Nat) (Q : fl_R) (v1 v4 v5 : Int32) (W : fl_W) : Prop := ∀ (o2 o3 : Option Value), fl_WP (fl_cal d) 182 [2, 95, 104, 221, 259, 295] Q 295 [some (.ref 229), some (.int v1), o2, o3, some (.int v4), some (.int v5)] [] W
set_option maxRecDepth 20000 in
theorem sx_182_2 {d : Nat} {Q : fl_R} (v1 : Int32) (W : fl_W) (h : mi_br (v1 < (W 229 0)) (vp_in v1 20 ∧ (∀ W10 : fl_W, W10 = fl_uw W 257 v1.toNatClampNeg (Int32.ofInt 0) → hd_182_2 d Q (v1 + Int32.ofInt 1) W10)) (fl_cal d 169 [.ref 229, .int (Int32.ofInt 0), .int (Int32.ofInt 0)] W (fl_q1 fun x1 W1 => vp_in (Int32.ofInt 0) 20 ∧ (∀ W2 : fl_W, W2 = fl_uw W1 256 (Int32.ofInt 0).toNatClampNeg x1 → fl_cal d 169 [.ref 229, .int (Int32.ofInt 0), .int (Int32.ofInt 1)] W2 (fl_q1 fun x2 W3 => vp_in (Int32.ofInt 1) 20 ∧ (∀ W4 : fl_W, W4 = fl_uw W3 256 (Int32.ofInt 1).toNatClampNeg x2 → vp_in (Int32.ofInt 0) 20 ∧ (vp_in (Int32.ofInt 0) 20 ∧ (∀ W5 : fl_W, W5 = fl_uw W4 258 (Int32.ofInt 0).toNatClampNeg (W4 256 (Int32.ofInt 0).toNatClampNeg) → fl_cal d 169 [.ref 229, .int (Int32.ofInt 0), .int (Int32.ofInt 2)] W5 (fl_q1 fun x3 W6 => vp_in (Int32.ofInt 1) 20 ∧ (∀ W7 : fl_W, W7 = fl_uw W6 258 (Int32.ofInt 1).toNatClampNeg x3 → vp_in (Int32.ofInt 1) 20 ∧ (vp_in (Int32.ofInt 2) 20 ∧ (∀ W8 : fl_W, W8 = fl_uw W7 258 (Int32.ofInt 2).toNatClampNeg (W7 256 (Int32.ofInt 1).toNatClampNeg) → ∀ W9 : fl_W, W9 = fl_uw W8 229 45 (Int32.ofInt 3) → hd_182_95 d Q ((W9 229 0) - (Int32.ofInt 1)) W9)))))))))))) : hd_182_2 d Q v1 W := fun o2 o3 o4 o5 => fl_fold (⟨rfl, ⟨fun q => have h := h.1 q; ⟨rfl, ⟨Or.inl rfl, ⟨rfl, ⟨h.1, have h := h.2; have h := h _ rfl; h _ _ _ _⟩⟩⟩⟩, fun q => have h := h.2 q; ⟨rfl, ⟨Nat.le_of_ble_eq_true rfl, rfl, rfl, rfl, fl_c1 h (fun x1 W1 h => ⟨rfl, ⟨h.1, have h := h.2; have h := h _ rfl; ⟨rfl, ⟨Nat.le_of_ble_eq_true rfl, rfl, rfl, rfl, fl_c1 h (fun x2 W3 h => ⟨rfl, ⟨h.1, have h := h.2; have h := h _ rfl; ⟨rfl, ⟨rfl, ⟨rfl, ⟨h.1, have h := h.2; ⟨rfl, ⟨h.1, have h := h.2; have h := h _ rfl; ⟨rfl, ⟨Nat.le_of_ble_eq_true rfl, rfl, rfl, rfl, fl_c1 h (fun x3 W6 h => ⟨rfl, ⟨h.1, have h := h.2; have h := h _ rfl; ⟨rfl, ⟨rfl, ⟨rfl, ⟨h.1, have h := h.2; ⟨rfl, ⟨h.1, have h := h.2; have h := h _ rfl; ⟨rfl, trivial, have h := h _ rfl; ⟨rfl, ⟨Nat.le_of_ble_eq_true rfl, h _ _ _ _⟩⟩⟩⟩⟩⟩⟩⟩⟩⟩⟩)⟩⟩⟩⟩⟩⟩⟩⟩⟩⟩)⟩⟩⟩⟩)⟩⟩⟩⟩)
set_option maxRecDepth 20000 in
theorem sx_182_95 {d : Nat} {Q : fl_R} (v1 : Int32) (W : fl_W) (h : mi_br (v1 ≤ (Int32.ofInt 1)) (Q none W) (hd_182_104 d Q v1 (Int32.ofInt (-1)) (Int32.ofInt 1) W)) : hd_182_95 d Q v1 W := fun o2 o3 o4 o5 => fl_fold (⟨fun q => have h := h.1 q; ⟨rfl, h⟩, fun q => have h := h.2 q; ⟨Nat.le_of_ble_eq_true rfl, ⟨Nat.le_of_ble_eq_true rfl, h _ _⟩⟩⟩)
set_option maxRecDepth 20000 in
theorem sx_182_104 {d : Nat} {Q : fl_R} (v1 v2 v3 : Int32) (W : fl_W) (h : mi_br (v3 < ((W 229 45) - (Int32.ofInt 1))) (fl_cal d 178 [.ref 229, .int v3] W (fl_q1 fun x6 W17 => mi_br (x6 = 0) (hd_182_104 d Q v1 v2 (v3 + Int32.ofInt 1) W17) (mi_br (v2 < 0) (hd_182_104 d Q v1 v3 (v3 + Int32.ofInt 1) W17) (vp_in v3 20 ∧ (vp_in v2 20 ∧ (mi_br ((W17 258 v3.toNatClampNeg) < (W17 258 v2.toNatClampNeg)) (hd_182_104 d Q v1 v3 (v3 + Int32.ofInt 1) W17) (hd_182_104 d Q v1 v2 (v3 + Int32.ofInt 1) W17))))))) (vp_in v2 20 ∧ (vp_in (v2 - (Int32.ofInt 1)) 20 ∧ (vp_in (v2 + (Int32.ofInt 1)) 20 ∧ (fl_cal d 181 [.ref 229, .int (W 258 v2.toNatClampNeg), .int (W 258 (v2 - (Int32.ofInt 1)).toNatClampNeg), .int (W 258 (v2 + (Int32.ofInt 1)).toNatClampNeg), .int (Int32.ofInt 1)] W (fl_q1 fun x4 W11 => mi_br (x4 = 0) (vp_in (v2 - (Int32.ofInt 1)) 20 ∧ (vp_in (v2 + (Int32.ofInt 1)) 20 ∧ (fl_cal d 181 [.ref 229, .int (W 258 v2.toNatClampNeg), .int (W11 258 (v2 - (Int32.ofInt 1)).toNatClampNeg), .int (W11 258 (v2 + (Int32.ofInt 1)).toNatClampNeg), .int (Int32.ofInt (-1))] W11 (fl_q1 fun x5 W14 => vp_in v1 20 ∧ (∀ W15 : fl_W, W15 = fl_uw W14 256 v1.toNatClampNeg (W 258 v2.toNatClampNeg) → vp_in (W 258 v2.toNatClampNeg) 20 ∧ (∀ W16 : fl_W, W16 = fl_uw W15 257 (W 258 v2.toNatClampNeg).toNatClampNeg (Int32.ofInt 1) → hd_182_221 d Q v1 v2 (Int32.ofInt 0) W16)))))) (vp_in v1 20 ∧ (∀ W12 : fl_W, W12 = fl_uw W11 256 v1.toNatClampNeg (W 258 v2.toNatClampNeg) → vp_in (W 258 v2.toNatClampNeg) 20 ∧ (∀ W13 : fl_W, W13 = fl_uw W12 257 (W 258 v2.toNatClampNeg).toNatClampNeg (Int32.ofInt 1) → hd_182_221 d Q v1 v2 (Int32.ofInt 0) W13))))))))) : hd_182_104 d Q v1 v2 v3 W := fun o4 o5 => fl_fold (⟨rfl, ⟨fun q => have h := h.1 q; ⟨Nat.le_of_ble_eq_true rfl, rfl, rfl, rfl, fl_c1 h (fun x6 W17 h => ⟨fun q => have h := h.1 q; h _ _, fun q => have h := h.2 q; ⟨fun q => have h := h.1 q; ⟨Nat.le_of_ble_eq_true rfl, h _ _⟩, fun q => have h := h.2 q; ⟨rfl, ⟨rfl, ⟨h.1, have h := h.2; ⟨rfl, ⟨rfl, ⟨h.1, have h := h.2; ⟨fun q => have h := h.1 q; ⟨Nat.le_of_ble_eq_true rfl, h _ _⟩, fun q => have h := h.2 q; h _ _⟩⟩⟩⟩⟩⟩⟩⟩⟩)⟩, fun q => have h := h.2 q; ⟨rfl, ⟨rfl, ⟨h.1, have h := h.2; ⟨Nat.le_of_ble_eq_true rfl, ⟨rfl, ⟨rfl, ⟨h.1, have h := h.2; ⟨rfl, ⟨rfl, ⟨h.1, have h := h.2; ⟨Nat.le_of_ble_eq_true rfl, rfl, rfl, rfl, fl_c1 h (fun x4 W11 h => ⟨fun q => have h := h.1 q; ⟨rfl, ⟨rfl, ⟨h.1, have h := h.2; ⟨rfl, ⟨rfl, ⟨h.1, have h := h.2; ⟨Nat.le_of_ble_eq_true rfl, rfl, rfl, rfl, fl_c1 h (fun x5 W14 h => ⟨rfl, ⟨rfl, ⟨rfl, ⟨h.1, have h := h.2; have h := h _ rfl; ⟨rfl, ⟨Or.inr rfl, ⟨rfl, ⟨h.1, have h := h.2; have h := h _ rfl; ⟨Nat.le_of_ble_eq_true rfl, h _ _⟩⟩⟩⟩⟩⟩⟩⟩⟩)⟩⟩⟩⟩⟩⟩⟩, fun q => have h := h.2 q; ⟨rfl, ⟨rfl, ⟨h.1, have h := h.2; have h := h _ rfl; ⟨rfl, ⟨Or.inr rfl, ⟨rfl, ⟨h.1, have h := h.2; have h := h _ rfl; ⟨Nat.le_of_ble_eq_true rfl, h _ _⟩⟩⟩⟩⟩⟩⟩⟩⟩)⟩⟩⟩⟩⟩⟩⟩⟩⟩⟩⟩⟩⟩)
set_option maxRecDepth 20000 in
theorem sx_182_221 {d : Nat} {Q : fl_R} (v1 v2 v4 : Int32) (W : fl_W) (h : mi_br (v4 < (W 229 45)) (vp_in v4 20 ∧ (vp_in v4 20 ∧ (∀ W18 : fl_W, W18 = fl_uw W 253 v4.toNatClampNeg (W 258 v4.toNatClampNeg) → hd_182_221 d Q v1 v2 (v4 + Int32.ofInt 1) W18))) (hd_182_259 d Q v1 v2 (W 229 45) (Int32.ofInt 0) W)) : hd_182_221 d Q v1 v2 v4 W := fun o3 o5 => fl_fold (⟨rfl, ⟨fun q => have h := h.1 q; ⟨rfl, ⟨rfl, ⟨rfl, ⟨h.1, have h := h.2; ⟨rfl, ⟨h.1, have h := h.2; have h := h _ rfl; h _ _⟩⟩⟩⟩⟩⟩, fun q => have h := h.2 q; ⟨rfl, ⟨Nat.le_of_ble_eq_true rfl, ⟨Nat.le_of_ble_eq_true rfl, h _⟩⟩⟩⟩⟩)
set_option maxRecDepth 20000 in
theorem sx_182_259 {d : Nat} {Q : fl_R} (v1 v2 v4 v5 : Int32) (W : fl_W) (h : mi_br (v5 < (W 229 47)) (vp_in v5 20 ∧ (vp_in (v2 + v5) 20 ∧ (∀ W19 : fl_W, W19 = fl_uw W 258 (v2 + v5).toNatClampNeg (W 259 v5.toNatClampNeg) → hd_182_259 d Q v1 v2 v4 (v5 + Int32.ofInt 1) W19))) (hd_182_295 d Q v1 v4 (v2 + (Int32.ofInt 1)) W)) : hd_182_259 d Q v1 v2 v4 v5 W := fun o3 => fl_fold (⟨rfl, ⟨fun q => have h := h.1 q; ⟨rfl, ⟨rfl, ⟨rfl, ⟨h.1, have h := h.2; ⟨rfl, ⟨h.1, have h := h.2; have h := h _ rfl; h _⟩⟩⟩⟩⟩⟩, fun q => have h := h.2 q; ⟨Nat.le_of_ble_eq_true rfl, h _ _⟩⟩⟩)
set_option maxRecDepth 20000 in
theorem sx_182_295 {d : Nat} {Q : fl_R} (v1 v4 v5 : Int32) (W : fl_W) (h : mi_br (v5 < v4) (vp_in v5 20 ∧ (vp_in ((v5 + (W 229 47)) - (Int32.ofInt 1)) 20 ∧ (∀ W21 : fl_W, W21 = fl_uw W 258 ((v5 + (W 229 47)) - (Int32.ofInt 1)).toNatClampNeg (W 253 v5.toNatClampNeg) → hd_182_295 d Q v1 v4 (v5 + Int32.ofInt 1) W21))) (∀ W20 : fl_W, W20 = fl_uw W 229 45 ((v4 + (W 229 47)) - (Int32.ofInt 1)) → hd_182_95 d Q (v1 + Int32.ofInt (-1)) W20)) : hd_182_295 d Q v1 v4 v5 W := fun o2 o3 => fl_fold (⟨fun q => have h := h.1 q; ⟨rfl, ⟨rfl, ⟨rfl, ⟨rfl, ⟨h.1, have h := h.2; ⟨rfl, ⟨h.1, have h := h.2; have h := h _ rfl; h _ _⟩⟩⟩⟩⟩⟩⟩, fun q => have h := h.2 q; ⟨rfl, ⟨rfl, trivial, have h := h _ rfl; h _ _ _ _⟩⟩⟩)
set_option maxRecDepth 20000 in
theorem sx_182 {d : Nat} {Q : fl_R} (W : fl_W) (h : hd_182_2 d Q (Int32.ofInt 0) W) : fl_cal (d + 1) 182 [.ref 229] W Q := fl_intro [2, 95, 104, 221, 259, 295] (fl_fold (⟨Nat.le_of_ble_eq_true rfl, h _ _ _ _⟩))
/-! 183 PlaneDeskModel.move(II)V -/
def hd_183_2 (d : Nat) (Q : fl_R) (v1 v2 v3 : Int32) (W : fl_W) : Prop := fl_WP (fl_cal d) 183 [2] Q 2 [some (.ref 229), some (.int v1), some (.int v2), some (.int v3)] [] W
theorem sx_183_2 {d : Nat} {Q : fl_R} (v1 v2 v3 : Int32) (W : fl_W) (h : mi_br (v3 < (W 229 0)) (mi_br (((v1 >>> (v3 &&& 31)) &&& (Int32.ofInt 1)) = (Int32.ofInt 1)) (vp_in v3 20 ∧ (vp_in v3 20 ∧ (∀ W1 : fl_W, W1 = fl_uw W 237 v3.toNatClampNeg ((W 237 v3.toNatClampNeg) + v2) → hd_183_2 d Q v1 v2 (v3 + Int32.ofInt 1) W1))) (hd_183_2 d Q v1 v2 (v3 + Int32.ofInt 1) W)) (Q none W)) : hd_183_2 d Q v1 v2 v3 W := fl_fold (⟨rfl, ⟨fun q => have h := h.1 q; ⟨fun q => have h := h.1 q; ⟨rfl, ⟨rfl, rfl, ⟨rfl, ⟨h.1, have h := h.2; ⟨rfl, ⟨h.1, have h := h.2; have h := h _ rfl; h⟩⟩⟩⟩⟩⟩, fun q => have h := h.2 q; h⟩, fun q => have h := h.2 q; ⟨rfl, h⟩⟩⟩)
theorem sx_183 {d : Nat} {Q : fl_R} (v1 v2 : Int32) (W : fl_W) (h : hd_183_2 d Q v1 v2 (Int32.ofInt 0) W) : fl_cal (d + 1) 183 [.ref 229, .int v1, .int v2] W Q := fl_intro [2] (fl_fold (⟨Nat.le_of_ble_eq_true rfl, h⟩))
/-! 184 PlaneDeskModel.set(III)V -/
theorem sx_184 {d : Nat} {Q : fl_R} (v1 v2 v3 : Int32) (W : fl_W) (h : vp_in v1 20 ∧ (∀ W1 : fl_W, W1 = fl_uw W 237 v1.toNatClampNeg v2 → vp_in v1 20 ∧ (∀ W2 : fl_W, W2 = fl_uw W1 238 v1.toNatClampNeg v3 → vp_in v1 20 ∧ (∀ W3 : fl_W, W3 = fl_uw W2 260 v1.toNatClampNeg ((Int32.ofInt 1) <<< (v1 &&& 31)) → Q none W3)))) : fl_cal (d + 1) 184 [.ref 229, .int v1, .int v2, .int v3] W Q := fl_intro [] (fl_fold (⟨rfl, ⟨rfl, ⟨h.1, have h := h.2; have h := h _ rfl; ⟨rfl, ⟨rfl, ⟨h.1, have h := h.2; have h := h _ rfl; ⟨rfl, ⟨rfl, ⟨h.1, have h := h.2; have h := h _ rfl; ⟨rfl, h⟩⟩⟩⟩⟩⟩⟩⟩⟩⟩))
/-! 185 PlaneDeskModel.makePlaces()V -/
def hd_185_79 (d : Nat) (Q : fl_R) (v1 : Int32) (W : fl_W) : Prop := ∀ (o2 o3 o4 o5 o6 o7 o8 : Option Value), fl_WP (fl_cal d) 185 [79, 96, 124, 153, 194, 328, 370] Q 79 [some (.ref 229), some (.int v1), o2, o3, o4, o5, o6, o7, o8] [] W
def hd_185_96 (d : Nat) (Q : fl_R) (v1 v2 v3 : Int32) (W : fl_W) : Prop := ∀ (o4 o5 o6 o7 o8 : Option Value), fl_WP (fl_cal d) 185 [79, 96, 124, 153, 194, 328, 370] Q 96 [some (.ref 229), some (.int v1), some (.int v2), some (.int v3), o4, o5, o6, o7, o8] [] W
def hd_185_124 (d : Nat) (Q : fl_R) (v1 v2 v3 v4 : Int32) (W : fl_W) : Prop := ∀ (o5 o6 o7 o8 : Option Value), fl_WP (fl_cal d) 185 [79, 96, 124, 153, 194, 328, 370] Q 124 [some (.ref 229), some (.int v1), some (.int v2), some (.int v3), some (.int v4), o5, o6, o7, o8] [] W
def hd_185_153 (d : Nat) (Q : fl_R) (v1 v2 v3 v4 v5 v6 : Int32) (W : fl_W) : Prop := ∀ (o7 o8 : Option Value), fl_WP (fl_cal d) 185 [79, 96, 124, 153, 194, 328, 370] Q 153 [some (.ref 229), some (.int v1), some (.int v2), some (.int v3), some (.int v4), some (.int v5), some (.int v6), o7, o8] [] W
def hd_185_194 (d : Nat) (Q : fl_R) (v1 v2 v3 v4 v5 v6 : Int32) (W : fl_W) : Prop := ∀ (o7 o8 : Option Value), fl_WP (fl_cal d) 185 [79, 96, 124, 153, 194, 328, 370] Q 194 [some (.ref 229), some (.int v1), some (.int v2), some (.int v3), some (.int v4), some (.int v5), some (.int v6), o7, o8] [] W
def hd_185_328 (d : Nat) (Q : fl_R) (v1 v2 v3 v4 v8 : Int32) (W : fl_W) : Prop := ∀ (o5 o6 o7 : Option Value), fl_WP (fl_cal d) 185 [79, 96, 124, 153, 194, 328, 370] Q 328 [some (.ref 229), some (.int v1), some (.int v2), some (.int v3), some (.int v4), o5, o6, o7, some (.int v8)] [] W
def hd_185_370 (d : Nat) (Q : fl_R) (v1 v3 v4 v8 : Int32) (W : fl_W) : Prop := ∀ (o2 o5 o6 o7 : Option Value), fl_WP (fl_cal d) 185 [79, 96, 124, 153, 194, 328, 370] Q 370 [some (.ref 229), some (.int v1), o2, some (.int v3), some (.int v4), o5, o6, o7, some (.int v8)] [] W
set_option maxRecDepth 20000 in
theorem sx_185_79 {d : Nat} {Q : fl_R} (v1 : Int32) (W : fl_W) (h : mi_br (v1 < (W 229 0)) (vp_in v1 20 ∧ (hd_185_96 d Q v1 (W 256 v1.toNatClampNeg) (Int32.ofInt 0) W)) (Q none W)) : hd_185_79 d Q v1 W := fun o2 o3 o4 o5 o6 o7 o8 => fl_fold (⟨rfl, ⟨fun q => have h := h.1 q; ⟨rfl, ⟨rfl, ⟨h.1, have h := h.2; ⟨Nat.le_of_ble_eq_true rfl, ⟨Nat.le_of_ble_eq_true rfl, h _ _ _ _ _⟩⟩⟩⟩⟩, fun q => have h := h.2 q; ⟨rfl, h⟩⟩⟩)
set_option maxRecDepth 20000 in
theorem sx_185_96 {d : Nat} {Q : fl_R} (v1 v2 v3 : Int32) (W : fl_W) (h : vp_in v3 20 ∧ (fl_cal d 128 [.ref 229, .int (W 258 v3.toNatClampNeg), .int v2] W (fl_q1 fun x1 W8 => mi_br (x1 < 0) (hd_185_96 d Q v1 v2 (v3 + Int32.ofInt 1) W8) (hd_185_124 d Q v1 v2 v3 ((W8 229 45) - (Int32.ofInt 1)) W8)))) : hd_185_96 d Q v1 v2 v3 W := fun o4 o5 o6 o7 o8 => fl_fold (⟨rfl, ⟨rfl, ⟨h.1, have h := h.2; ⟨Nat.le_of_ble_eq_true rfl, rfl, rfl, rfl, fl_c1 h (fun x1 W8 h => ⟨fun q => have h := h.1 q; h _ _ _ _ _, fun q => have h := h.2 q; ⟨rfl, ⟨Nat.le_of_ble_eq_true rfl, h _ _ _ _⟩⟩⟩)⟩⟩⟩⟩)
set_option maxRecDepth 20000 in
theorem sx_185_124 {d : Nat} {Q : fl_R} (v1 v2 v3 v4 : Int32) (W : fl_W) (h : vp_in v4 20 ∧ (fl_cal d 128 [.ref 229, .int (W 258 v4.toNatClampNeg), .int v2] W (fl_q1 fun x2 W9 => mi_br (x2 < 0) (hd_185_124 d Q v1 v2 v3 (v4 + Int32.ofInt (-1)) W9) (hd_185_153 d Q v1 v2 v3 v4 (Int32.ofInt 0) (v3 + (Int32.ofInt 1)) W9)))) : hd_185_124 d Q v1 v2 v3 v4 W := fun o5 o6 o7 o8 => fl_fold (⟨rfl, ⟨rfl, ⟨h.1, have h := h.2; ⟨Nat.le_of_ble_eq_true rfl, rfl, rfl, rfl, fl_c1 h (fun x2 W9 h => ⟨fun q => have h := h.1 q; h _ _ _ _, fun q => have h := h.2 q; ⟨Nat.le_of_ble_eq_true rfl, ⟨Nat.le_of_ble_eq_true rfl, h _ _⟩⟩⟩)⟩⟩⟩⟩)
set_option maxRecDepth 20000 in
theorem sx_185_153 {d : Nat} {Q : fl_R} (v1 v2 v3 v4 v5 v6 : Int32) (W : fl_W) (h : mi_br (v6 < v4) (vp_in v6 20 ∧ (vp_in (W 258 v6.toNatClampNeg) 20 ∧ (hd_185_153 d Q v1 v2 v3 v4 (v5 ||| (W 260 (W 258 v6.toNatClampNeg).toNatClampNeg)) (v6 + Int32.ofInt 1) W))) (fl_cal d 183 [.ref 229, .int v5, .int (Int32.ofInt 1)] W (fl_q0 fun W10 => hd_185_194 d Q v1 v2 v3 v4 v5 v4 W10))) : hd_185_153 d Q v1 v2 v3 v4 v5 v6 W := fun o7 o8 => fl_fold (⟨fun q => have h := h.1 q; ⟨rfl, ⟨rfl, ⟨rfl, ⟨h.1, have h := h.2; ⟨rfl, ⟨h.1, have h := h.2; ⟨Nat.le_of_ble_eq_true rfl, h _ _⟩⟩⟩⟩⟩⟩⟩, fun q => have h := h.2 q; ⟨Nat.le_of_ble_eq_true rfl, rfl, rfl, rfl, fl_c0 h (fun W10 h => ⟨Nat.le_of_ble_eq_true rfl, h _ _⟩)⟩⟩)
set_option maxRecDepth 20000 in
theorem sx_185_194 {d : Nat} {Q : fl_R} (v1 v2 v3 v4 v5 v6 : Int32) (W : fl_W) (h : mi_br (v6 < (W 229 45)) (vp_in v6 20 ∧ (vp_in (W 258 v6.toNatClampNeg) 20 ∧ (fl_cal d 183 [.ref 229, .int (W 260 (W 258 v6.toNatClampNeg).toNatClampNeg), .int (Int32.ofInt 2)] W (fl_q0 fun W13 => hd_185_194 d Q v1 v2 v3 v4 v5 (v6 + Int32.ofInt 1) W13)))) (vp_in v3 20 ∧ (vp_in v4 20 ∧ (vp_in (W 258 v3.toNatClampNeg) 20 ∧ (vp_in (W 258 v4.toNatClampNeg) 20 ∧ (vp_in (W 258 v4.toNatClampNeg) 20 ∧ (vp_in (W 258 v3.toNatClampNeg) 20 ∧ (vp_in (W 258 v4.toNatClampNeg) 20 ∧ (vp_in (W 258 v3.toNatClampNeg) 20 ∧ (vp_in (W 258 v3.toNatClampNeg) 20 ∧ (vp_in (W 258 v4.toNatClampNeg) 20 ∧ (fl_cal d 184 [.ref 229, .int v2, .int (((((W 237 (W 258 v3.toNatClampNeg).toNatClampNeg) + (W 237 (W 258 v4.toNatClampNeg).toNatClampNeg)) + (W 238 (W 258 v4.toNatClampNeg).toNatClampNeg)) - (W 238 (W 258 v3.toNatClampNeg).toNatClampNeg)) / (Int32.ofInt 2)), .int (((((W 237 (W 258 v4.toNatClampNeg).toNatClampNeg) - (W 237 (W 258 v3.toNatClampNeg).toNatClampNeg)) + (W 238 (W 258 v3.toNatClampNeg).toNatClampNeg)) + (W 238 (W 258 v4.toNatClampNeg).toNatClampNeg)) / (Int32.ofInt 2))] W (fl_q0 fun W11 => vp_in v2 20 ∧ (vp_in v2 20 ∧ (∀ W12 : fl_W, W12 = fl_uw W11 260 v2.toNatClampNeg ((W11 260 v2.toNatClampNeg) ||| v5) → hd_185_328 d Q v1 v2 v3 v4 (Int32.ofInt 0) W12))))))))))))))) : hd_185_194 d Q v1 v2 v3 v4 v5 v6 W := fun o7 o8 => fl_fold (⟨rfl, ⟨fun q => have h := h.1 q; ⟨rfl, ⟨rfl, ⟨rfl, ⟨h.1, have h := h.2; ⟨rfl, ⟨h.1, have h := h.2; ⟨Nat.le_of_ble_eq_true rfl, rfl, rfl, rfl, fl_c0 h (fun W13 h => h _ _)⟩⟩⟩⟩⟩⟩⟩, fun q => have h := h.2 q; ⟨rfl, ⟨rfl, ⟨h.1, have h := h.2; ⟨Nat.le_of_ble_eq_true rfl, ⟨rfl, ⟨rfl, ⟨h.1, have h := h.2; ⟨Nat.le_of_ble_eq_true rfl, ⟨rfl, ⟨rfl, ⟨h.1, have h := h.2; ⟨rfl, ⟨rfl, ⟨h.1, have h := h.2; ⟨rfl, ⟨rfl, ⟨h.1, have h := h.2; ⟨rfl, ⟨rfl, ⟨h.1, have h := h.2; ⟨by decide, ⟨rfl, ⟨rfl, ⟨h.1, have h := h.2; ⟨rfl, ⟨rfl, ⟨h.1, have h := h.2; ⟨rfl, ⟨rfl, ⟨h.1, have h := h.2; ⟨rfl, ⟨rfl, ⟨h.1, have h := h.2; ⟨by decide, ⟨Nat.le_of_ble_eq_true rfl, rfl, rfl, rfl, fl_c0 h (fun W11 h => ⟨rfl, ⟨rfl, rfl, ⟨rfl, ⟨h.1, have h := h.2; ⟨rfl, ⟨h.1, have h := h.2; have h := h _ rfl; ⟨Nat.le_of_ble_eq_true rfl, h _ _ _⟩⟩⟩⟩⟩⟩⟩)⟩⟩⟩⟩⟩⟩⟩⟩⟩⟩⟩⟩⟩⟩⟩⟩⟩⟩⟩⟩⟩⟩⟩⟩⟩⟩⟩⟩⟩⟩⟩⟩⟩⟩⟩⟩⟩)
set_option maxRecDepth 20000 in
theorem sx_185_328 {d : Nat} {Q : fl_R} (v1 v2 v3 v4 v8 : Int32) (W : fl_W) (h : mi_br (v8 < (W 229 45)) (vp_in v8 20 ∧ (vp_in v8 20 ∧ (∀ W15 : fl_W, W15 = fl_uw W 253 v8.toNatClampNeg (W 258 v8.toNatClampNeg) → hd_185_328 d Q v1 v2 v3 v4 (v8 + Int32.ofInt 1) W15))) (vp_in (v3 + (Int32.ofInt 1)) 20 ∧ (∀ W14 : fl_W, W14 = fl_uw W 258 (v3 + (Int32.ofInt 1)).toNatClampNeg v2 → hd_185_370 d Q v1 v3 v4 v4 W14))) : hd_185_328 d Q v1 v2 v3 v4 v8 W := fun o5 o6 o7 => fl_fold (⟨rfl, ⟨fun q => have h := h.1 q; ⟨rfl, ⟨rfl, ⟨rfl, ⟨h.1, have h := h.2; ⟨rfl, ⟨h.1, have h := h.2; have h := h _ rfl; h _ _ _⟩⟩⟩⟩⟩⟩, fun q => have h := h.2 q; ⟨rfl, ⟨rfl, ⟨h.1, have h := h.2; have h := h _ rfl; ⟨Nat.le_of_ble_eq_true rfl, h _ _ _ _⟩⟩⟩⟩⟩⟩)
set_option maxRecDepth 20000 in
theorem sx_185_370 {d : Nat} {Q : fl_R} (v1 v3 v4 v8 : Int32) (W : fl_W) (h : mi_br (v8 < (W 229 45)) (vp_in v8 20 ∧ (vp_in (((v3 + (Int32.ofInt 2)) + v8) - v4) 20 ∧ (∀ W17 : fl_W, W17 = fl_uw W 258 (((v3 + (Int32.ofInt 2)) + v8) - v4).toNatClampNeg (W 253 v8.toNatClampNeg) → hd_185_370 d Q v1 v3 v4 (v8 + Int32.ofInt 1) W17))) (∀ W16 : fl_W, W16 = fl_uw W 229 45 ((W 229 45) + ((v3 + (Int32.ofInt 2)) - v4)) → hd_185_79 d Q (v1 + Int32.ofInt 1) W16)) : hd_185_370 d Q v1 v3 v4 v8 W := fun o2 o5 o6 o7 => fl_fold (⟨rfl, ⟨fun q => have h := h.1 q; ⟨rfl, ⟨rfl, ⟨rfl, ⟨h.1, have h := h.2; ⟨rfl, ⟨h.1, have h := h.2; have h := h _ rfl; h _ _ _ _⟩⟩⟩⟩⟩⟩, fun q => have h := h.2 q; ⟨rfl, ⟨rfl, ⟨rfl, trivial, have h := h _ rfl; h _ _ _ _ _ _ _⟩⟩⟩⟩⟩)
set_option maxRecDepth 20000 in
theorem sx_185 {d : Nat} {Q : fl_R} (W : fl_W) (h : vp_in (Int32.ofInt 0) 20 ∧ (fl_cal d 184 [.ref 229, .int (W 256 (Int32.ofInt 0).toNatClampNeg), .int (Int32.ofInt 0), .int (Int32.ofInt 0)] W (fl_q0 fun W1 => vp_in (Int32.ofInt 1) 20 ∧ (fl_cal d 184 [.ref 229, .int (W1 256 (Int32.ofInt 1).toNatClampNeg), .int (Int32.ofInt 2), .int (Int32.ofInt 0)] W1 (fl_q0 fun W2 => vp_in (Int32.ofInt 2) 20 ∧ (fl_cal d 184 [.ref 229, .int (W2 256 (Int32.ofInt 2).toNatClampNeg), .int (Int32.ofInt 1), .int (Int32.ofInt 1)] W2 (fl_q0 fun W3 => vp_in (Int32.ofInt 0) 20 ∧ (vp_in (Int32.ofInt 0) 20 ∧ (∀ W4 : fl_W, W4 = fl_uw W3 258 (Int32.ofInt 0).toNatClampNeg (W3 256 (Int32.ofInt 0).toNatClampNeg) → vp_in (Int32.ofInt 2) 20 ∧ (vp_in (Int32.ofInt 1) 20 ∧ (∀ W5 : fl_W, W5 = fl_uw W4 258 (Int32.ofInt 1).toNatClampNeg (W4 256 (Int32.ofInt 2).toNatClampNeg) → vp_in (Int32.ofInt 1) 20 ∧ (vp_in (Int32.ofInt 2) 20 ∧ (∀ W6 : fl_W, W6 = fl_uw W5 258 (Int32.ofInt 2).toNatClampNeg (W5 256 (Int32.ofInt 1).toNatClampNeg) → ∀ W7 : fl_W, W7 = fl_uw W6 229 45 (Int32.ofInt 3) → hd_185_79 d Q (Int32.ofInt 3) W7))))))))))))) : fl_cal (d + 1) 185 [.ref 229] W Q := fl_intro [79, 96, 124, 153, 194, 328, 370] (fl_fold (⟨rfl, ⟨rfl, ⟨h.1, have h := h.2; ⟨Nat.le_of_ble_eq_true rfl, rfl, rfl, rfl, fl_c0 h (fun W1 h => ⟨rfl, ⟨rfl, ⟨h.1, have h := h.2; ⟨Nat.le_of_ble_eq_true rfl, rfl, rfl, rfl, fl_c0 h (fun W2 h => ⟨rfl, ⟨rfl, ⟨h.1, have h := h.2; ⟨Nat.le_of_ble_eq_true rfl, rfl, rfl, rfl, fl_c0 h (fun W3 h => ⟨rfl, ⟨rfl, ⟨rfl, ⟨h.1, have h := h.2; ⟨rfl, ⟨h.1, have h := h.2; have h := h _ rfl; ⟨rfl, ⟨rfl, ⟨rfl, ⟨h.1, have h := h.2; ⟨rfl, ⟨h.1, have h := h.2; have h := h _ rfl; ⟨rfl, ⟨rfl, ⟨rfl, ⟨h.1, have h := h.2; ⟨rfl, ⟨h.1, have h := h.2; have h := h _ rfl; ⟨rfl, trivial, have h := h _ rfl; ⟨Nat.le_of_ble_eq_true rfl, h _ _ _ _ _ _ _⟩⟩⟩⟩⟩⟩⟩⟩⟩⟩⟩⟩⟩⟩⟩⟩⟩⟩⟩⟩)⟩⟩⟩⟩)⟩⟩⟩⟩)⟩⟩⟩⟩))
/-! 186 PlaneDeskModel.draw()Z -/
def hd_186_48 (d : Nat) (Q : fl_R) (v1 : Int32) (W : fl_W) : Prop := fl_WP (fl_cal d) 186 [48] Q 48 [some (.ref 229), some (.int v1)] [] W
theorem sx_186_48 {d : Nat} {Q : fl_R} (v1 : Int32) (W : fl_W) (h : mi_br (v1 < (W 229 0)) (vp_in v1 20 ∧ (vp_in (W 256 v1.toNatClampNeg) 20 ∧ (∀ W6 : fl_W, W6 = fl_uw W 239 (W 256 v1.toNatClampNeg).toNatClampNeg v1 → hd_186_48 d Q (v1 + Int32.ofInt 1) W6))) (∀ W5 : fl_W, W5 = fl_uw W 229 15 (Int32.ofInt 1) → Q (some (.int (Int32.ofInt 1))) W5)) : hd_186_48 d Q v1 W := fl_fold (⟨rfl, ⟨fun q => have h := h.1 q; ⟨rfl, ⟨rfl, ⟨rfl, ⟨h.1, have h := h.2; ⟨rfl, ⟨h.1, have h := h.2; have h := h _ rfl; h⟩⟩⟩⟩⟩⟩, fun q => have h := h.2 q; ⟨rfl, Or.inr rfl, have h := h _ rfl; ⟨Or.inr rfl, h⟩⟩⟩⟩)
theorem sx_186 {d : Nat} {Q : fl_R} (W : fl_W) (h : mi_br ((W 229 0) < (Int32.ofInt 3)) (Q (some (.int (Int32.ofInt 0))) W) (mi_br ((W 229 1) = (((Int32.ofInt 3) * (W 229 0)) - (Int8.ofInt 6).toInt32)) (fl_cal d 156 [.ref 229] W (fl_q1 fun x1 W1 => mi_br (x1 = 0) (Q (some (.int (Int32.ofInt 0))) W1) (fl_cal d 160 [.ref 229] W1 (fl_q1 fun x2 W2 => fl_cal d 182 [.ref 229] W2 (fl_q0 fun W3 => fl_cal d 185 [.ref 229] W3 (fl_q0 fun W4 => hd_186_48 d Q (Int32.ofInt 0) W4)))))) (Q (some (.int (Int32.ofInt 0))) W))) : fl_cal (d + 1) 186 [.ref 229] W Q := fl_intro [48] (fl_fold (⟨rfl, ⟨fun q => have h := h.1 q; ⟨Or.inl rfl, h⟩, fun q => have h := h.2 q; ⟨rfl, ⟨rfl, ⟨fun q => have h := h.1 q; ⟨Nat.le_of_ble_eq_true rfl, rfl, rfl, rfl, fl_c1 h (fun x1 W1 h => ⟨fun q => have h := h.1 q; ⟨Or.inl rfl, h⟩, fun q => have h := h.2 q; ⟨Nat.le_of_ble_eq_true rfl, rfl, rfl, rfl, fl_c1 h (fun x2 W2 h => ⟨rfl, ⟨Nat.le_of_ble_eq_true rfl, rfl, rfl, rfl, fl_c0 h (fun W3 h => ⟨Nat.le_of_ble_eq_true rfl, rfl, rfl, rfl, fl_c0 h (fun W4 h => ⟨Nat.le_of_ble_eq_true rfl, h⟩)⟩)⟩⟩)⟩⟩)⟩, fun q => have h := h.2 q; ⟨Or.inl rfl, h⟩⟩⟩⟩⟩⟩))
/-! 187 PlaneDeskModel.at(II)I -/
theorem sx_187 {d : Nat} {Q : fl_R} (v1 v2 : Int32) (W : fl_W) (h : mi_br ((W 229 15) = 0) (Q (some (.int (Int32.ofInt (-1)))) W) (fl_cal d 125 [.ref 229, .int v1] W (fl_q1 fun x1 W1 => mi_br (x1 = 0) (Q (some (.int (Int32.ofInt (-1)))) W1) (mi_br (v2 = 0) (vp_in v1 20 ∧ (Q (some (.int (W1 237 v1.toNatClampNeg))) W1)) (mi_br (v2 = (Int32.ofInt 1)) (vp_in v1 20 ∧ (Q (some (.int (W1 238 v1.toNatClampNeg))) W1)) (mi_br (v2 = (Int32.ofInt 2)) (vp_in v1 20 ∧ (Q (some (.int (W1 239 v1.toNatClampNeg))) W1)) (Q (some (.int (Int32.ofInt (-1)))) W1))))))) : fl_cal (d + 1) 187 [.ref 229, .int v1, .int v2] W Q := fl_intro [] (fl_fold (⟨rfl, ⟨fun q => have h := h.1 q; ⟨trivial, h⟩, fun q => have h := h.2 q; ⟨Nat.le_of_ble_eq_true rfl, rfl, rfl, rfl, fl_c1 h (fun x1 W1 h => ⟨fun q => have h := h.1 q; ⟨trivial, h⟩, fun q => have h := h.2 q; ⟨fun q => have h := h.1 q; ⟨rfl, ⟨rfl, ⟨h.1, have h := h.2; ⟨trivial, h⟩⟩⟩⟩, fun q => have h := h.2 q; ⟨fun q => have h := h.1 q; ⟨rfl, ⟨rfl, ⟨h.1, have h := h.2; ⟨trivial, h⟩⟩⟩⟩, fun q => have h := h.2 q; ⟨fun q => have h := h.1 q; ⟨rfl, ⟨rfl, ⟨h.1, have h := h.2; ⟨trivial, h⟩⟩⟩⟩, fun q => have h := h.2 q; ⟨trivial, h⟩⟩⟩⟩⟩)⟩⟩⟩))
/-! 188 PlaneDeskModel.joined(II)I -/
def hd_188_5 (d : Nat) (Q : fl_R) (v1 v2 v3 v4 : Int32) (W : fl_W) : Prop := fl_WP (fl_cal d) 188 [5] Q 5 [some (.ref 229), some (.int v1), some (.int v2), some (.int v3), some (.int v4)] [] W
theorem sx_188_5 {d : Nat} {Q : fl_R} (v1 v2 v3 v4 : Int32) (W : fl_W) (h : mi_br (v4 < (W 229 0)) (mi_br (((v2 >>> (v4 &&& 31)) &&& (Int32.ofInt 1)) = (Int32.ofInt 1)) (mi_br (v4 = v1) (hd_188_5 d Q v1 v2 (v3 + (Int32.ofInt 0)) (v4 + Int32.ofInt 1) W) (fl_cal d 128 [.ref 229, .int v4, .int v1] W (fl_q1 fun x1 W1 => mi_br (x1 < 0) (hd_188_5 d Q v1 v2 (v3 + (Int32.ofInt 0)) (v4 + Int32.ofInt 1) W1) (hd_188_5 d Q v1 v2 (v3 + (Int32.ofInt 1)) (v4 + Int32.ofInt 1) W1)))) (hd_188_5 d Q v1 v2 (v3 + (Int32.ofInt 0)) (v4 + Int32.ofInt 1) W)) (Q (some (.int v3)) W)) : hd_188_5 d Q v1 v2 v3 v4 W := fl_fold (⟨rfl, ⟨fun q => have h := h.1 q; ⟨fun q => have h := h.1 q; ⟨fun q => have h := h.1 q; ⟨Nat.le_of_ble_eq_true rfl, h⟩, fun q => have h := h.2 q; ⟨Nat.le_of_ble_eq_true rfl, rfl, rfl, rfl, fl_c1 h (fun x1 W1 h => ⟨fun q => have h := h.1 q; ⟨Nat.le_of_ble_eq_true rfl, h⟩, fun q => have h := h.2 q; ⟨Nat.le_of_ble_eq_true rfl, h⟩⟩)⟩⟩, fun q => have h := h.2 q; ⟨Nat.le_of_ble_eq_true rfl, h⟩⟩, fun q => have h := h.2 q; ⟨trivial, h⟩⟩⟩)
theorem sx_188 {d : Nat} {Q : fl_R} (v1 v2 : Int32) (W : fl_W) (h : hd_188_5 d Q v1 v2 (Int32.ofInt 0) (Int32.ofInt 0) W) : fl_cal (d + 1) 188 [.ref 229, .int v1, .int v2] W Q := fl_intro [5] (fl_fold (⟨Nat.le_of_ble_eq_true rfl, ⟨Nat.le_of_ble_eq_true rfl, h⟩⟩))
/-! 189 PlaneDeskModel.colour()I -/
def hd_189_7 (d : Nat) (Q : fl_R) (v1 v2 : Int32) (W : fl_W) : Prop := ∀ (o3 o4 o5 : Option Value), fl_WP (fl_cal d) 189 [7, 20, 91, 119, 129, 186] Q 7 [some (.ref 229), some (.int v1), some (.int v2), o3, o4, o5] [] W
def hd_189_20 (d : Nat) (Q : fl_R) (v1 v2 v3 v4 : Int32) (W : fl_W) : Prop := ∀ (o5 : Option Value), fl_WP (fl_cal d) 189 [7, 20, 91, 119, 129, 186] Q 20 [some (.ref 229), some (.int v1), some (.int v2), some (.int v3), some (.int v4), o5] [] W
def hd_189_91 (d : Nat) (Q : fl_R) (v2 v3 : Int32) (W : fl_W) : Prop := ∀ (o1 o4 o5 : Option Value), fl_WP (fl_cal d) 189 [7, 20, 91, 119, 129, 186] Q 91 [some (.ref 229), o1, some (.int v2), some (.int v3), o4, o5] [] W
def hd_189_119 (d : Nat) (Q : fl_R) (v2 v3 : Int32) (W : fl_W) : Prop := ∀ (o1 o4 o5 : Option Value), fl_WP (fl_cal d) 189 [7, 20, 91, 119, 129, 186] Q 119 [some (.ref 229), o1, some (.int v2), some (.int v3), o4, o5] [] W
def hd_189_129 (d : Nat) (Q : fl_R) (v2 v3 v4 v5 : Int32) (W : fl_W) : Prop := ∀ (o1 : Option Value), fl_WP (fl_cal d) 189 [7, 20, 91, 119, 129, 186] Q 129 [some (.ref 229), o1, some (.int v2), some (.int v3), some (.int v4), some (.int v5)] [] W
def hd_189_186 (d : Nat) (Q : fl_R) (v2 v3 v4 v5 : Int32) (W : fl_W) : Prop := ∀ (o1 : Option Value), fl_WP (fl_cal d) 189 [7, 20, 91, 119, 129, 186] Q 186 [some (.ref 229), o1, some (.int v2), some (.int v3), some (.int v4), some (.int v5)] [] W
set_option maxRecDepth 20000 in
theorem sx_189_7 {d : Nat} {Q : fl_R} (v1 v2 : Int32) (W : fl_W) (h : mi_br (v2 < (W 229 0)) (hd_189_20 d Q v1 v2 (Int32.ofInt (-1)) (Int32.ofInt 0) W) (hd_189_91 d Q (Int32.ofInt 0) (Int32.ofInt 0) W)) : hd_189_7 d Q v1 v2 W := fun o3 o4 o5 => fl_fold (⟨rfl, ⟨fun q => have h := h.1 q; ⟨Nat.le_of_ble_eq_true rfl, ⟨Nat.le_of_ble_eq_true rfl, h _⟩⟩, fun q => have h := h.2 q; ⟨Nat.le_of_ble_eq_true rfl, ⟨Nat.le_of_ble_eq_true rfl, h _ _ _⟩⟩⟩⟩)
set_option maxRecDepth 20000 in
theorem sx_189_20 {d : Nat} {Q : fl_R} (v1 v2 v3 v4 : Int32) (W : fl_W) (h : mi_br (v4 < (W 229 0)) (mi_br (((v1 >>> (v4 &&& 31)) &&& (Int32.ofInt 1)) = (Int32.ofInt 1)) (mi_br (v3 < 0) (hd_189_20 d Q v1 v2 v4 (v4 + Int32.ofInt 1) W) (fl_cal d 188 [.ref 229, .int v4, .int v1] W (fl_q1 fun x2 W4 => fl_cal d 188 [.ref 229, .int v3, .int v1] W4 (fl_q1 fun x3 W5 => mi_br (x2 < x3) (hd_189_20 d Q v1 v2 v4 (v4 + Int32.ofInt 1) W5) (hd_189_20 d Q v1 v2 v3 (v4 + Int32.ofInt 1) W5))))) (hd_189_20 d Q v1 v2 v3 (v4 + Int32.ofInt 1) W)) (vp_in v2 20 ∧ (∀ W3 : fl_W, W3 = fl_uw W 244 v2.toNatClampNeg v3 → hd_189_7 d Q (v1 ^^^ ((Int32.ofInt 1) <<< (v3 &&& 31))) (v2 + Int32.ofInt 1) W3))) : hd_189_20 d Q v1 v2 v3 v4 W := fun o5 => fl_fold (⟨rfl, ⟨fun q => have h := h.1 q; ⟨fun q => have h := h.1 q; ⟨fun q => have h := h.1 q; ⟨Nat.le_of_ble_eq_true rfl, h _⟩, fun q => have h := h.2 q; ⟨Nat.le_of_ble_eq_true rfl, rfl, rfl, rfl, fl_c1 h (fun x2 W4 h => ⟨Nat.le_of_ble_eq_true rfl, rfl, rfl, rfl, fl_c1 h (fun x3 W5 h => ⟨fun q => have h := h.1 q; ⟨Nat.le_of_ble_eq_true rfl, h _⟩, fun q => have h := h.2 q; h _⟩)⟩)⟩⟩, fun q => have h := h.2 q; h _⟩, fun q => have h := h.2 q; ⟨rfl, ⟨rfl, ⟨h.1, have h := h.2; have h := h _ rfl; ⟨Nat.le_of_ble_eq_true rfl, h _ _ _⟩⟩⟩⟩⟩⟩)
set_option maxRecDepth 20000 in
theorem sx_189_91 {d : Nat} {Q : fl_R} (v2 v3 : Int32) (W : fl_W) (h : mi_br (v3 < (W 229 0)) (vp_in v3 20 ∧ (∀ W2 : fl_W, W2 = fl_uw W 240 v3.toNatClampNeg (Int32.ofInt (-1)) → hd_189_91 d Q v2 (v3 + Int32.ofInt 1) W2)) (hd_189_119 d Q v2 ((W 229 0) - (Int32.ofInt 1)) W)) : hd_189_91 d Q v2 v3 W := fun o1 o4 o5 => fl_fold (⟨rfl, ⟨fun q => have h := h.1 q; ⟨rfl, ⟨rfl, ⟨h.1, have h := h.2; have h := h _ rfl; h _ _ _⟩⟩⟩, fun q => have h := h.2 q; ⟨rfl, ⟨Nat.le_of_ble_eq_true rfl, h _ _ _⟩⟩⟩⟩)
set_option maxRecDepth 20000 in
theorem sx_189_119 {d : Nat} {Q : fl_R} (v2 v3 : Int32) (W : fl_W) (h : mi_br (v3 < 0) (∀ W6 : fl_W, W6 = fl_uw W 229 17 (Int32.ofInt 1) → Q (some (.int v2)) W6) (hd_189_129 d Q v2 v3 (Int32.ofInt 0) (Int32.ofInt 0) W)) : hd_189_119 d Q v2 v3 W := fun o1 o4 o5 => fl_fold (⟨fun q => have h := h.1 q; ⟨rfl, Or.inr rfl, have h := h _ rfl; ⟨trivial, h⟩⟩, fun q => have h := h.2 q; ⟨Nat.le_of_ble_eq_true rfl, ⟨Nat.le_of_ble_eq_true rfl, h _⟩⟩⟩)
set_option maxRecDepth 20000 in
theorem sx_189_129 {d : Nat} {Q : fl_R} (v2 v3 v4 v5 : Int32) (W : fl_W) (h : mi_br (v5 < (W 229 0)) (vp_in v5 20 ∧ (mi_br ((W 240 v5.toNatClampNeg) < 0) (hd_189_129 d Q v2 v3 v4 (v5 + Int32.ofInt 1) W) (vp_in v3 20 ∧ (fl_cal d 128 [.ref 229, .int v5, .int (W 244 v3.toNatClampNeg)] W (fl_q1 fun x4 W7 => mi_br (x4 < 0) (hd_189_129 d Q v2 v3 v4 (v5 + Int32.ofInt 1) W7) (vp_in v5 20 ∧ (hd_189_129 d Q v2 v3 (v4 ||| ((Int32.ofInt 1) <<< ((W7 240 v5.toNatClampNeg) &&& 31))) (v5 + Int32.ofInt 1) W7))))))) (hd_189_186 d Q v2 v3 v4 (Int32.ofInt 0) W)) : hd_189_129 d Q v2 v3 v4 v5 W := fun o1 => fl_fold (⟨rfl, ⟨fun q => have h := h.1 q; ⟨rfl, ⟨rfl, ⟨h.1, have h := h.2; ⟨fun q => have h := h.1 q; h _, fun q => have h := h.2 q; ⟨rfl, ⟨rfl, ⟨h.1, have h := h.2; ⟨Nat.le_of_ble_eq_true rfl, rfl, rfl, rfl, fl_c1 h (fun x4 W7 h => ⟨fun q => have h := h.1 q; h _, fun q => have h := h.2 q; ⟨rfl, ⟨rfl, ⟨h.1, have h := h.2; ⟨Nat.le_of_ble_eq_true rfl, h _⟩⟩⟩⟩⟩)⟩⟩⟩⟩⟩⟩⟩⟩, fun q => have h := h.2 q; ⟨Nat.le_of_ble_eq_true rfl, h _⟩⟩⟩)
set_option maxRecDepth 20000 in
theorem sx_189_186 {d : Nat} {Q : fl_R} (v2 v3 v4 v5 : Int32) (W : fl_W) (h : mi_br (((v4 >>> (v5 &&& 31)) &&& (Int32.ofInt 1)) = (Int32.ofInt 1)) (hd_189_186 d Q v2 v3 v4 (v5 + Int32.ofInt 1) W) (vp_in v3 20 ∧ (vp_in (W 244 v3.toNatClampNeg) 20 ∧ (∀ W8 : fl_W, W8 = fl_uw W 240 (W 244 v3.toNatClampNeg).toNatClampNeg v5 → mi_br ((v5 + (Int32.ofInt 1)) ≤ v2) (hd_189_119 d Q v2 (v3 + Int32.ofInt (-1)) W8) (hd_189_119 d Q (v5 + (Int32.ofInt 1)) (v3 + Int32.ofInt (-1)) W8))))) : hd_189_186 d Q v2 v3 v4 v5 W := fun o1 => fl_fold (⟨fun q => have h := h.1 q; h _, fun q => have h := h.2 q; ⟨rfl, ⟨rfl, ⟨rfl, ⟨h.1, have h := h.2; ⟨rfl, ⟨h.1, have h := h.2; have h := h _ rfl; ⟨fun q => have h := h.1 q; ⟨Nat.le_of_ble_eq_true rfl, h _ _ _⟩, fun q => have h := h.2 q; ⟨Nat.le_of_ble_eq_true rfl, h _ _ _⟩⟩⟩⟩⟩⟩⟩⟩⟩)
set_option maxRecDepth 20000 in
theorem sx_189 {d : Nat} {Q : fl_R} (W : fl_W) (h : fl_cal d 143 [.ref 229] W (fl_q1 fun x1 W1 => hd_189_7 d Q x1 (Int32.ofInt 0) W1)) : fl_cal (d + 1) 189 [.ref 229] W Q := fl_intro [7, 20, 91, 119, 129, 186] (fl_fold (⟨Nat.le_of_ble_eq_true rfl, rfl, rfl, rfl, fl_c1 h (fun x1 W1 h => ⟨Nat.le_of_ble_eq_true rfl, ⟨Nat.le_of_ble_eq_true rfl, h _ _ _⟩⟩)⟩))
/-! 190 PlaneDeskModel.colourOf(I)I -/
theorem sx_190 {d : Nat} {Q : fl_R} (v1 : Int32) (W : fl_W) (h : mi_br ((W 229 17) = 0) (Q (some (.int (Int32.ofInt (-1)))) W) (fl_cal d 125 [.ref 229, .int v1] W (fl_q1 fun x1 W1 => mi_br (x1 = 0) (Q (some (.int (Int32.ofInt (-1)))) W1) (vp_in v1 20 ∧ (Q (some (.int (W1 240 v1.toNatClampNeg))) W1))))) : fl_cal (d + 1) 190 [.ref 229, .int v1] W Q := fl_intro [] (fl_fold (⟨rfl, ⟨fun q => have h := h.1 q; ⟨trivial, h⟩, fun q => have h := h.2 q; ⟨Nat.le_of_ble_eq_true rfl, rfl, rfl, rfl, fl_c1 h (fun x1 W1 h => ⟨fun q => have h := h.1 q; ⟨trivial, h⟩, fun q => have h := h.2 q; ⟨rfl, ⟨rfl, ⟨h.1, have h := h.2; ⟨trivial, h⟩⟩⟩⟩⟩)⟩⟩⟩))
end
section
/-! ===== numbers ===== -/
theorem ci_0 : Int32.ofInt 0 = nI 0 := rfl
theorem ci_1 : Int32.ofInt 1 = nI 1 := rfl
theorem ci_2 : Int32.ofInt 2 = nI 2 := rfl
theorem ci_3 : Int32.ofInt 3 = nI 3 := rfl
theorem ci_4 : Int32.ofInt 4 = nI 4 := rfl
theorem ci_5 : Int32.ofInt 5 = nI 5 := rfl
theorem ci_m : Int32.ofInt (-1) = -1 := rfl
theorem cb_6 : (Int8.ofInt 6).toInt32 = nI 6 := rfl
theorem cb_20 : (Int8.ofInt 20).toInt32 = nI 20 := rfl
theorem cb_21 : (Int8.ofInt 21).toInt32 = nI 21 := rfl
theorem cb_40 : (Int8.ofInt 40).toInt32 = nI 40 := rfl
theorem cb_60 : (Int8.ofInt 60).toInt32 = nI 60 := rfl
theorem cb_100 : (Int8.ofInt 100).toInt32 = nI 100 := rfl
theorem cb_120 : (Int8.ofInt 120).toInt32 = nI 120 := rfl
theorem cs_200 : (Int16.ofInt 200).toInt32 = nI 200 := rfl
theorem cz_0 : (0 : Int32) = nI 0 := rfl
theorem cz_1 : (1 : Int32) = nI 1 := rfl
theorem co_N (n : Nat) : Int32.ofNat n = nI n := rfl
theorem i_lt {a b : Int32} : a < b ↔ a.toInt < b.toInt := Int32.lt_iff_toInt_lt
theorem i_le {a b : Int32} : a ≤ b ↔ a.toInt ≤ b.toInt := Int32.le_iff_toInt_le
theorem i_eq {a b : Int32} : a = b ↔ a.toInt = b.toInt := Int32.toInt_inj.symm
theorem i_m1 : (-1 : Int32).toInt = -1 := rfl
theorem i_0 : (0 : Int32).toInt = 0 := rfl
theorem i_1 : (1 : Int32).toInt = 1 := rfl
/-- an Int32 that isn't below 0 and is below nI n is some nI k -/
theorem i_nat {v : Int32} {n : Nat} (h0 : ¬ v < 0) (h : v < nI n) (hn : n < 2 ^ 31) : ∃ k, k < n ∧ v = nI k := by
  rw [i_lt, i_0] at h0
  rw [i_lt, nI_toInt hn] at h
  refine ⟨v.toInt.toNat, by omega, ?_⟩
  rw [i_eq, nI_toInt (by omega)]
  omega
theorem i_nonneg {v : Int32} (h0 : ¬ v < 0) : ∃ k, k < 2 ^ 31 ∧ v = nI k := nI_of h0
theorem nI_ne {a b : Nat} (ha : a < 2 ^ 31) (hb : b < 2 ^ 31) (h : a ≠ b) : nI a ≠ nI b := fun e => h ((nI_eq ha hb).mp e)
theorem nI_nm {a : Nat} (ha : a < 2 ^ 31) : nI a ≠ -1 := fun e => by
  have := congrArg Int32.toInt e
  rw [nI_toInt ha, i_m1] at this
  omega
theorem in_N {n N : Nat} (h : n < N) (hN : N < 2 ^ 31) : vp_in (nI n) N := vp_in_nI h hN
/-! ===== the flat memory's changes ===== -/
theorem uw_s {W : fl_W} {i j : Nat} {x : Int32} : fl_uw W i j x i j = x := by simp [fl_uw, upd]
theorem uw_n {W : fl_W} {i j a : Nat} {x : Int32} (h : a ≠ i) : fl_uw W i j x a = W a := by simp [fl_uw, h]
theorem uw_m {W : fl_W} {i j b : Nat} {x : Int32} (h : b ≠ j) : fl_uw W i j x i b = W i b := by simp [fl_uw, upd, h]
/-- nothing has changed but in the cells of l -/
def EqX (l : List Nat) (W W' : fl_W) : Prop := ∀ a, a ∉ l → W' a = W a
theorem EqX.rf {l : List Nat} {W : fl_W} : EqX l W W := fun _ _ => rfl
theorem EqX.tr {l : List Nat} {W W' W'' : fl_W} (h1 : EqX l W W') (h2 : EqX l W' W'') : EqX l W W'' := fun a ha => (h2 a ha).trans (h1 a ha)
theorem EqX.mono {l l' : List Nat} {W W' : fl_W} (h : EqX l W W') (hl : ∀ a ∈ l, a ∈ l') : EqX l' W W' := fun a ha => h a fun q => ha (hl a q)
theorem EqX.uw {l : List Nat} {W : fl_W} {i j : Nat} {x : Int32} (hi : i ∈ l) : EqX l W (fl_uw W i j x) := fun a ha => uw_n fun e => ha (e ▸ hi)
/-! ===== a row ===== -/
def RowR (W : fl_W) (r : Nat) (xs : List Int32) : Prop := W r 1 = nI xs.length ∧ xs.length ≤ fl_cap r ∧ ∀ i x, xs[i]? = some x → W (r + 1) i = x
theorem RowR.fr {W W' : fl_W} {r : Nat} {xs : List Int32} {l : List Nat} (h : RowR W r xs) (hE : EqX l W W') (h1 : r ∉ l) (h2 : r + 1 ∉ l) : RowR W' r xs := by
  refine ⟨by rw [hE r h1]; exact h.1, h.2.1, fun i x hx => ?_⟩
  rw [hE _ h2]
  exact h.2.2 i x hx
theorem fl_cap_le : ∀ r, r < 280 → fl_cap r ≤ 1200 := by decide +kernel
theorem row_cap {r : Nat} (h : fl_row r) : fl_cap r ≤ 1200 := fl_cap_le r (fl_lt h)
section ROW
variable {d : Nat} {Q : fl_R} {r : Nat} {W : fl_W} {xs : List Int32}
theorem row_size (hr : fl_row r) (hR : RowR W r xs) (h : Q (some (.int (nI xs.length))) W) : fl_cal (d + 1) 63 [.ref r] W Q := by
  refine sx_63 r W hr ?_
  rw [hR.1]
  exact h
theorem row_clear (hr : fl_row r) (h : ∀ W', RowR W' r [] → EqX [r, r + 1] W W' → Q none W') : fl_cal (d + 1) 64 [.ref r] W Q := by
  refine sx_64 r W hr fun W1 e => ?_
  subst e
  exact h _ ⟨uw_s, Nat.zero_le _, fun i x hx => by simp at hx⟩ (EqX.uw (by simp))
theorem row_add {x : Int32} (hr : fl_row r) (hR : RowR W r xs) (hc : xs.length < fl_cap r) (h : ∀ W', RowR W' r (xs ++ [x]) → EqX [r, r + 1] W W' → Q none W') : fl_cal (d + 1) 65 [.ref r, .int x] W Q := by
  have hcap := row_cap hr
  refine sx_65 r x W hr ⟨fun q => ⟨?_, fun W1 e1 W2 e2 => ?_⟩, fun q => absurd ?_ q⟩
  · rw [hR.1]; exact in_N hc (by omega)
  · rw [hR.1, nI_clamp (by omega)] at e1
    subst e1
    rw [uw_n (by omega : r ≠ r + 1), hR.1, ci_1, nI_add] at e2
    subst e2
    refine h _ ⟨?_, by simp; omega, fun i y hy => ?_⟩ ((EqX.uw (by simp)).tr (EqX.uw (by simp)))
    · rw [uw_s]; simp
    · rw [uw_n (by omega : r + 1 ≠ r)]
      by_cases hi : i = xs.length
      · subst hi
        rw [uw_s]
        simpa using hy
      · rw [uw_m hi]
        have hl := (List.getElem?_eq_some_iff.mp hy).1
        rw [List.length_append, List.length_singleton] at hl
        rw [List.getElem?_append_left (by omega)] at hy
        exact hR.2.2 i y hy
  · rw [hR.1, co_N]; exact nI_lt hc (by omega)
/-- what stands at a place, or -1 -/
def getI (xs : List Int32) (i : Int32) : Int32 := if i < 0 then -1 else xs.getD i.toNatClampNeg (-1)
theorem getI_N {xs : List Int32} {n : Nat} (hn : n < 2 ^ 31) : getI xs (nI n) = xs.getD n (-1) := by
  rw [getI, if_neg (nI_pos hn), nI_clamp hn]
theorem row_get {i : Int32} (hr : fl_row r) (hR : RowR W r xs) (h : Q (some (.int (getI xs i))) W) : fl_cal (d + 1) 66 [.ref r, .int i] W Q := by
  have hcap := row_cap hr
  have hl := hR.2.1
  refine sx_66 r i W hr ⟨fun q => ?_, fun q => ⟨fun q2 => ?_, fun q2 => ?_⟩⟩
  · rw [getI, if_pos q] at h
    exact h
  · rw [hR.1] at q2
    obtain ⟨n, hn, rfl⟩ := i_nat q q2 (by omega)
    refine ⟨in_N (by omega) (by omega), ?_⟩
    rw [getI_N (by omega)] at h
    rw [nI_clamp (by omega), hR.2.2 n _ (List.getElem?_eq_getElem hn)]
    simpa [List.getD_eq_getElem?_getD, hn] using h
  · rw [hR.1] at q2
    obtain ⟨n, hn, rfl⟩ := i_nonneg q
    rw [nI_ltI hn (by omega)] at q2
    rw [getI_N hn] at h
    simpa [List.getD_eq_getElem?_getD, List.getElem?_eq_none (Nat.not_lt.mp q2)] using h
end ROW
end
section
/-! ===== a row: the rest of its methods ===== -/
theorem row_nr {r : Nat} (h : fl_row r) : ¬ fl_row (r + 1) := by
  have h1 := (fl_row_all r (fl_lt h) h).2
  intro h2
  unfold fl_row fl_isb at h2
  rw [h1] at h2
  simp at h2
theorem row_ap {r s : Nat} (hr : fl_row r) (hs : fl_row s) (h : r ≠ s) : s ∉ [r, r + 1] ∧ s + 1 ∉ [r, r + 1] := by
  have h1 : s ≠ r + 1 := fun e => row_nr hr (e ▸ hs)
  have h2 : r ≠ s + 1 := fun e => row_nr hs (e ▸ hr)
  constructor <;> simp <;> omega
/-- the first place of x in a list, told from i on, or -1 -/
def fndF : List Int32 → Int32 → Nat → Int32
  | [], _, _ => -1
  | y :: l, x, i => if y = x then nI i else fndF l x (i + 1)
/-- a list up to x, x too -/
def arcL : List Int32 → Int32 → List Int32
  | [], _ => []
  | z :: l, x => if z = x then [z] else z :: arcL l x
def bitI (v : Int32) : Int32 := if v < 0 then 0 else if v < nI 20 then 1 <<< (v &&& 31) else 0
def bitsL (xs : List Int32) (a : Int32) : Int32 := xs.foldl (fun a x => a ||| bitI x) a
theorem getI_at {xs : List Int32} {n : Nat} {x : Int32} (hn : n < 2 ^ 31) (h : xs[n]? = some x) : getI xs (nI n) = x := by
  rw [getI_N hn, List.getD_eq_getElem?_getD, h]; rfl
section ROW2
variable {d : Nat} {Q : fl_R} {r s : Nat} {W : fl_W} {xs ys : List Int32}
theorem row_find_l {x : Int32} (hr : fl_row r) (hR : RowR W r xs) : ∀ (n i : Nat), xs.length - i = n → i ≤ xs.length → Q (some (.int (fndF (xs.drop i) x i))) W → hd_67_2 d Q r x (nI i) W := by
  have hcap := row_cap hr
  have hl := hR.2.1
  intro n
  induction n with
  | zero =>
    intro i h1 h2 h
    have hi : i = xs.length := by omega
    subst hi
    refine sx_67_2 r x _ W hr ⟨fun q => absurd q ?_, fun _ => ?_⟩
    · rw [hR.1]; exact nI_nlt (Nat.le_refl _) (by omega)
    · simpa [fndF] using h
  | succ n ih =>
    intro i h1 h2 h
    have hi : i < xs.length := by omega
    rw [List.drop_eq_getElem_cons hi] at h
    have hx := hR.2.2 i _ (List.getElem?_eq_getElem hi)
    refine sx_67_2 r x _ W hr ⟨fun _ => ⟨in_N (by omega) (by omega), ?_⟩, fun q => absurd ?_ q⟩
    · rw [nI_clamp (by omega), hx]
      refine ⟨fun e => ?_, fun e => ?_⟩
      · simpa [fndF, e] using h
      · rw [ci_1, nI_add]
        refine ih (i + 1) (by omega) (by omega) ?_
        simpa [fndF, e] using h
    · rw [hR.1]; exact nI_lt hi (by omega)
theorem row_find {x : Int32} (hr : fl_row r) (hR : RowR W r xs) (h : Q (some (.int (fndF xs x 0))) W) : fl_cal (d + 1) 67 [.ref r, .int x] W Q :=
  sx_67 r x W hr (row_find_l hr hR xs.length 0 (by simp) (Nat.zero_le _) (by simpa using h))
theorem row_behind {i : Int32} (hr : fl_row r) (hR : RowR W r xs) (h : Q (some (.int (if i + 1 < nI xs.length then i + 1 else 0))) W) : fl_cal (d + 1) 69 [.ref r, .int i] W Q := by
  refine sx_69 r i W hr ⟨fun q => ?_, fun q => ?_⟩
  · rw [hR.1] at q
    rw [if_pos (show i + 1 < nI xs.length from q)] at h
    exact h
  · rw [hR.1] at q
    rw [if_neg (show ¬ i + 1 < nI xs.length from q)] at h
    exact h
theorem row_exch_no {i k : Int32} (hr : fl_row r) (hR : RowR W r xs) (hn : ¬ (vp_in i xs.length ∧ vp_in k xs.length)) (h : Q (some (.int 0)) W) : fl_cal (d + 1) 68 [.ref r, .int i, .int k] W Q := by
  have hcap := row_cap hr
  have hl := hR.2.1
  refine sx_68 r i k W hr ⟨fun _ => h, fun q1 => ⟨fun q2 => ⟨fun _ => h, fun q3 => ⟨fun q4 => absurd ?_ hn, fun _ => h⟩⟩, fun _ => h⟩⟩
  rw [hR.1] at q2 q4
  obtain ⟨a, ha, rfl⟩ := i_nat q1 q2 (by omega)
  obtain ⟨b, hb, rfl⟩ := i_nat q3 q4 (by omega)
  exact ⟨in_N ha (by omega), in_N hb (by omega)⟩
theorem row_exch {a b : Nat} {x y : Int32} (hr : fl_row r) (hR : RowR W r xs) (ha : xs[a]? = some x) (hb : xs[b]? = some y) (h : ∀ W', RowR W' r ((xs.set a y).set b x) → EqX [r, r + 1] W W' → Q (some (.int 1)) W') : fl_cal (d + 1) 68 [.ref r, .int (nI a), .int (nI b)] W Q := by
  have hcap := row_cap hr
  have hl := hR.2.1
  have la := (List.getElem?_eq_some_iff.mp ha).1
  have lb := (List.getElem?_eq_some_iff.mp hb).1
  refine sx_68 r _ _ W hr ⟨fun q => absurd q (nI_pos (by omega)), fun q1 => ⟨fun q2 => ⟨fun q => absurd q (nI_pos (by omega)), fun q3 => ⟨fun q4 => ⟨in_N (by omega) (by omega), in_N (by omega) (by omega), in_N (by omega) (by omega), fun W1 e1 => ⟨in_N (by omega) (by omega), fun W2 e2 => ?_⟩⟩, fun q => absurd ?_ q⟩⟩, fun q => absurd ?_ q⟩⟩
  · rw [nI_clamp (by omega), nI_clamp (by omega), hR.2.2 b y hb] at e1
    rw [nI_clamp (by omega), nI_clamp (by omega), hR.2.2 a x ha] at e2
    subst e1
    subst e2
    refine h _ ⟨?_, by simpa using hl, fun i z hz => ?_⟩ ((EqX.uw (by simp)).tr (EqX.uw (by simp)))
    · rw [uw_n (by omega : r ≠ r + 1), uw_n (by omega : r ≠ r + 1), hR.1]; simp
    · by_cases hib : i = b
      · subst hib
        rw [uw_s]
        rw [List.getElem?_set_self (by simpa using lb)] at hz
        exact Option.some.inj hz
      · rw [uw_m hib]
        rw [List.getElem?_set_ne (Ne.symm hib)] at hz
        by_cases hia : i = a
        · subst hia
          rw [uw_s]
          rw [List.getElem?_set_self la] at hz
          exact Option.some.inj hz
        · rw [uw_m hia]
          rw [List.getElem?_set_ne (Ne.symm hia)] at hz
          exact hR.2.2 i z hz
  · rw [hR.1]; exact nI_lt lb (by omega)
  · rw [hR.1]; exact nI_lt la (by omega)
theorem row_copy_l (hr : fl_row r) (hs : fl_row s) (hrs : r ≠ s) (hfit : ys.length ≤ fl_cap r) : ∀ (n i : Nat) (W : fl_W) (xs : List Int32), ys.length - i = n → i ≤ ys.length → RowR W s ys → RowR W r xs → xs = ys.take i → (∀ W', RowR W' r ys → EqX [r, r + 1] W W' → Q none W') → hd_70_6 (d + 1) Q r s (nI i) W := by
  have hcap := row_cap hr
  have hap := row_ap hr hs hrs
  intro n
  induction n with
  | zero =>
    intro i W xs h1 h2 hS hR hx h
    have hi : i = ys.length := by omega
    have hcs := row_cap hs
    have := hS.2.1
    refine sx_70_6 r s _ W hr hs ⟨fun q => absurd q ?_, fun _ => h W ?_ EqX.rf⟩
    · rw [hS.1, hi]; exact nI_nlt (Nat.le_refl _) (by omega)
    · rw [hx, hi, List.take_length] at hR; exact hR
  | succ n ih =>
    intro i W xs h1 h2 hS hR hx h
    have hcs := row_cap hs
    have := hS.2.1
    have hi : i < ys.length := by omega
    refine sx_70_6 r s _ W hr hs ⟨fun _ => ?_, fun q => absurd ?_ q⟩
    · refine row_get hs hS ?_
      have hxl : xs.length = i := by rw [hx, List.length_take]; omega
      rw [getI_at (by omega) (List.getElem?_eq_getElem hi)]
      refine row_add hr hR (by omega) fun W' hR' hE => ?_
      show hd_70_6 (d + 1) Q r s (nI i + Int32.ofInt 1) W'
      rw [ci_1, nI_add]
      refine ih (i + 1) W' _ (by omega) (by omega) (hS.fr hE hap.1 hap.2) hR' ?_ fun W'' g1 g2 => h W'' g1 (hE.tr g2)
      rw [hx, List.take_add_one, List.getElem?_eq_getElem hi]
      rfl
    · rw [hS.1]; exact nI_lt hi (by omega)
theorem row_copy (hr : fl_row r) (hs : fl_row s) (hrs : r ≠ s) (hS : RowR W s ys) (hfit : ys.length ≤ fl_cap r) (h : ∀ W', RowR W' r ys → EqX [r, r + 1] W W' → Q none W') : fl_cal (d + 2) 70 [.ref r, .ref s] W Q := by
  have hap := row_ap hr hs hrs
  refine sx_70 r s W hr hs (row_clear hr fun W' hR hE => ?_)
  exact row_copy_l hr hs hrs hfit ys.length 0 W' [] (by simp) (Nat.zero_le _) (hS.fr hE hap.1 hap.2) hR (by simp) fun W'' g1 g2 => h W'' g1 (hE.tr g2)
theorem row_part_l (hr : fl_row r) (hs : fl_row s) (hrs : r ≠ s) {b : Nat} : ∀ (n i : Nat) (W : fl_W) (xs : List Int32), b - i = n → i ≤ b → b ≤ ys.length → xs.length + (b - i) ≤ fl_cap r → RowR W s ys → RowR W r xs → (∀ W', RowR W' r (xs ++ (ys.drop i).take (b - i)) → EqX [r, r + 1] W W' → Q none W') → hd_71_3 (d + 1) Q r s (nI b) (nI i) W := by
  have hcap := row_cap hr
  have hap := row_ap hr hs hrs
  intro n
  induction n with
  | zero =>
    intro i W xs h1 h2 h3 h4 hS hR h
    have hcs := row_cap hs
    have := hS.2.1
    refine sx_71_3 r s _ _ W hr hs ⟨fun q => absurd q (nI_nlt (by omega) (by omega)), fun _ => h W ?_ EqX.rf⟩
    rw [show b - i = 0 by omega]
    simpa using hR
  | succ n ih =>
    intro i W xs h1 h2 h3 h4 hS hR h
    have hcs := row_cap hs
    have := hS.2.1
    have hi : i < ys.length := by omega
    refine sx_71_3 r s _ _ W hr hs ⟨fun _ => ?_, fun q => absurd (nI_lt (by omega) (by omega)) q⟩
    refine row_get hs hS ?_
    rw [getI_at (by omega) (List.getElem?_eq_getElem hi)]
    refine row_add hr hR (by omega) fun W' hR' hE => ?_
    show hd_71_3 (d + 1) Q r s (nI b) (nI i + Int32.ofInt 1) W'
    rw [ci_1, nI_add]
    refine ih (i + 1) W' _ (by omega) (by omega) h3 (by simp; omega) (hS.fr hE hap.1 hap.2) hR' fun W'' g1 g2 => h W'' ?_ (hE.tr g2)
    rw [List.drop_eq_getElem_cons hi, show b - i = (b - (i + 1)) + 1 by omega, List.take_succ_cons]
    simpa using g1
theorem row_part (hr : fl_row r) (hs : fl_row s) (hrs : r ≠ s) {a b : Nat} (hab : a ≤ b) (hb : b ≤ ys.length) (hS : RowR W s ys) (hR : RowR W r xs) (hfit : xs.length + (b - a) ≤ fl_cap r) (h : ∀ W', RowR W' r (xs ++ (ys.drop a).take (b - a)) → EqX [r, r + 1] W W' → Q none W') : fl_cal (d + 2) 71 [.ref r, .ref s, .int (nI a), .int (nI b)] W Q :=
  sx_71 r s _ _ W hr hs (row_part_l hr hs hrs (b - a) a W xs rfl hab hb hfit hS hR h)
theorem row_back_l (hr : fl_row r) (hs : fl_row s) (hrs : r ≠ s) : ∀ (i : Nat) (W : fl_W) (xs : List Int32), i ≤ ys.length → xs.length + i ≤ fl_cap r → RowR W s ys → RowR W r xs → (∀ W', RowR W' r (xs ++ (ys.take i).reverse) → EqX [r, r + 1] W W' → Q none W') → hd_72_7 (d + 1) Q r s (nI i - 1) W := by
  have hcap := row_cap hr
  have hap := row_ap hr hs hrs
  intro i
  induction i with
  | zero =>
    intro W xs h2 h4 hS hR h
    refine sx_72_7 r s _ W hr hs ⟨fun _ => h W (by simpa using hR) EqX.rf, fun q => absurd (by decide) q⟩
  | succ i ih =>
    intro W xs h2 h4 hS hR h
    have hcs := row_cap hs
    have := hS.2.1
    have hi : i < ys.length := by omega
    rw [nI_pred]
    refine sx_72_7 r s _ W hr hs ⟨fun q => absurd q (nI_pos (by omega)), fun _ => ?_⟩
    refine row_get hs hS ?_
    rw [getI_at (by omega) (List.getElem?_eq_getElem hi)]
    refine row_add hr hR (by omega) fun W' hR' hE => ?_
    show hd_72_7 (d + 1) Q r s (nI i + Int32.ofInt (-1)) W'
    rw [ci_m, show nI i + (-1) = nI i - 1 from (Int32.sub_eq_add_neg (nI i) 1).symm]
    refine ih W' _ (by omega) (by simp; omega) (hS.fr hE hap.1 hap.2) hR' fun W'' g1 g2 => h W'' ?_ (hE.tr g2)
    have e : (ys.take (i + 1)).reverse = ys[i] :: (ys.take i).reverse := by rw [List.take_succ_eq_append_getElem hi, List.reverse_append]; rfl
    rw [e]
    simpa using g1
theorem row_back (hr : fl_row r) (hs : fl_row s) (hrs : r ≠ s) (hS : RowR W s ys) (hR : RowR W r xs) (hfit : xs.length + ys.length ≤ fl_cap r) (h : ∀ W', RowR W' r (xs ++ ys.reverse) → EqX [r, r + 1] W W' → Q none W') : fl_cal (d + 2) 72 [.ref r, .ref s] W Q := by
  refine sx_72 r s W hr hs ?_
  rw [hS.1, ci_1]
  exact row_back_l hr hs hrs ys.length W xs (Nat.le_refl _) hfit hS hR (by simpa using h)
theorem row_arc_l (hr : fl_row r) (hs : fl_row s) (hrs : r ≠ s) {x : Int32} : ∀ (n i a : Nat) (W : fl_W) (xs : List Int32), ys.length - i = n → i ≤ ys.length → a < ys.length → xs.length + (ys.length - i) ≤ fl_cap r → RowR W s ys → RowR W r xs → (∀ W', RowR W' r (xs ++ arcL ((ys.drop a ++ ys.take a).take (ys.length - i)) x) → EqX [r, r + 1] W W' → Q none W') → hd_73_10 (d + 1) Q r s x (nI a) (nI i) W := by
  have hcap := row_cap hr
  have hap := row_ap hr hs hrs
  intro n
  induction n with
  | zero =>
    intro i a W xs h1 h2 h3 h4 hS hR h
    have hcs := row_cap hs
    have := hS.2.1
    refine sx_73_10 r s _ _ _ W hr hs ⟨fun q => absurd q ?_, fun _ => h W ?_ EqX.rf⟩
    · rw [hS.1]; exact nI_nlt (by omega) (by omega)
    · rw [show ys.length - i = 0 by omega]
      simpa [arcL] using hR
  | succ n ih =>
    intro i a W xs h1 h2 h3 h4 hS hR h
    have hcs := row_cap hs
    have := hS.2.1
    have ha := List.getElem?_eq_getElem h3
    refine sx_73_10 r s _ _ _ W hr hs ⟨fun _ => ?_, fun q => absurd ?_ q⟩
    · refine row_get hs hS ?_
      rw [getI_at (by omega) ha]
      refine row_add hr hR (by omega) fun W' hR' hE => ?_
      have hdr : ys.drop a ++ ys.take a = ys[a] :: (ys.drop (a + 1) ++ ys.take a) := by rw [List.drop_eq_getElem_cons h3]; rfl
      have hL : ys.length - i = (ys.length - (i + 1)) + 1 := by omega
      refine ⟨fun e => h W' ?_ hE, fun e => ?_⟩
      · rw [hdr, hL, List.take_succ_cons, arcL, if_pos e]
        exact hR'
      · refine row_behind hs (hS.fr hE hap.1 hap.2) ?_
        show hd_73_10 (d + 1) Q r s x _ (nI i + Int32.ofInt 1) W'
        rw [ci_1, nI_add]
        have hg : ∀ W'' : fl_W, RowR W'' r ((xs ++ [ys[a]]) ++ arcL ((ys.drop (a + 1) ++ ys.take a).take (ys.length - (i + 1))) x) → EqX [r, r + 1] W' W'' → Q none W'' := fun W'' g1 g2 => h W'' (by
          rw [hdr, hL, List.take_succ_cons, arcL, if_neg e]
          simpa using g1) (hE.tr g2)
        have hl' : (xs ++ [ys[a]]).length + (ys.length - (i + 1)) ≤ fl_cap r := by simp; omega
        by_cases hlast : a + 1 < ys.length
        · rw [if_pos (show nI a + 1 < nI ys.length by rw [show nI a + 1 = nI (a + 1) from nI_1 a]; exact nI_lt hlast (by omega)), show nI a + 1 = nI (a + 1) from nI_1 a]
          refine ih (i + 1) (a + 1) W' _ (by omega) (by omega) hlast hl' (hS.fr hE hap.1 hap.2) hR' fun W'' g1 g2 => hg W'' ?_ g2
          have e2 : (ys.drop (a + 1) ++ ys.take (a + 1)).take (ys.length - (i + 1)) = (ys.drop (a + 1) ++ ys.take a).take (ys.length - (i + 1)) := by
            rw [List.take_succ_eq_append_getElem h3, ← List.append_assoc, List.take_append_of_le_length]
            simp; omega
          rw [e2] at g1
          exact g1
        · rw [if_neg (show ¬ nI a + 1 < nI ys.length by rw [show nI a + 1 = nI (a + 1) from nI_1 a]; exact nI_nlt (by omega) (by omega)), cz_0]
          refine ih (i + 1) 0 W' _ (by omega) (by omega) (by omega) hl' (hS.fr hE hap.1 hap.2) hR' fun W'' g1 g2 => hg W'' ?_ g2
          have e1 : ys.drop (a + 1) = [] := List.drop_eq_nil_of_le (by omega)
          have e2 : (ys.drop 0 ++ ys.take 0).take (ys.length - (i + 1)) = (ys.drop (a + 1) ++ ys.take a).take (ys.length - (i + 1)) := by
            rw [e1, List.drop_zero, List.take_zero, List.append_nil, List.nil_append, List.take_take, Nat.min_eq_left (by omega)]
          rw [e2] at g1
          exact g1
    · rw [hS.1]; exact nI_lt (by omega) (by omega)
theorem row_arc (hr : fl_row r) (hs : fl_row s) (hrs : r ≠ s) {x y : Int32} {a : Nat} (ha : fndF ys y 0 = nI a) (hal : a < ys.length) (hS : RowR W s ys) (hR : RowR W r xs) (hfit : xs.length + ys.length ≤ fl_cap r) (h : ∀ W', RowR W' r (xs ++ arcL (ys.drop a ++ ys.take a) x) → EqX [r, r + 1] W W' → Q none W') : fl_cal (d + 2) 73 [.ref r, .ref s, .int y, .int x] W Q := by
  refine sx_73 r s _ _ W hr hs (row_find hs hS ?_)
  rw [ha]
  refine row_arc_l hr hs hrs ys.length 0 a W xs (by simp) (Nat.zero_le _) hal (by simpa using hfit) hS hR fun W' g1 g2 => h W' ?_ g2
  rw [List.take_of_length_le (by simp; omega)] at g1
  exact g1
theorem st_bit {v : Int32} (h : Q (some (.int (bitI v))) W) : fl_cal (d + 1) 120 [.int v] W Q := by
  refine sx_120 v W ⟨fun q => ?_, fun q => ⟨fun q2 => ?_, fun q2 => ?_⟩⟩
  · rw [bitI, if_pos q] at h; exact h
  · rw [bitI, if_neg q, if_pos (show v < nI 20 from q2)] at h; exact h
  · rw [bitI, if_neg q, if_neg (show ¬ v < nI 20 from q2)] at h; exact h
theorem row_bits_l (hr : fl_row r) (hR : RowR W r xs) : ∀ (n i : Nat) (a : Int32), xs.length - i = n → i ≤ xs.length → Q (some (.int (bitsL (xs.drop i) a))) W → hd_74_4 (d + 1) Q r a (nI i) W := by
  have hcap := row_cap hr
  have hl := hR.2.1
  intro n
  induction n with
  | zero =>
    intro i a h1 h2 h
    refine sx_74_4 r a _ W hr ⟨fun q => absurd q ?_, fun _ => ?_⟩
    · rw [hR.1]; exact nI_nlt (by omega) (by omega)
    · rw [List.drop_eq_nil_of_le (by omega)] at h; exact h
  | succ n ih =>
    intro i a h1 h2 h
    have hi : i < xs.length := by omega
    rw [List.drop_eq_getElem_cons hi] at h
    refine sx_74_4 r a _ W hr ⟨fun _ => ⟨in_N (by omega) (by omega), ?_⟩, fun q => absurd ?_ q⟩
    · rw [nI_clamp (by omega), hR.2.2 i _ (List.getElem?_eq_getElem hi)]
      refine st_bit ?_
      show hd_74_4 (d + 1) Q r (a ||| bitI xs[i]) (nI i + Int32.ofInt 1) W
      rw [ci_1, nI_add]
      exact ih (i + 1) _ (by omega) (by omega) h
    · rw [hR.1]; exact nI_lt hi (by omega)
theorem row_bits (hr : fl_row r) (hR : RowR W r xs) (h : Q (some (.int (bitsL xs 0))) W) : fl_cal (d + 2) 74 [.ref r] W Q :=
  sx_74 r W hr (row_bits_l hr hR xs.length 0 _ (by simp) (Nat.zero_le _) h)
end ROW2
end
section
/-! ===== bits (the first rows after the kit's family of bits) ===== -/
def sb (x : Int32) (i : Nat) : Bool := x.toBitVec.getLsbD i
theorem sb_ext {x y : Int32} (h : ∀ i, i < 32 → sb x i = sb y i) : x = y := Int32.toBitVec_inj.mp (BitVec.eq_of_getLsbD_eq (fun i hi => h i hi))
theorem sb_or (x y : Int32) (i : Nat) : sb (x ||| y) i = (sb x i || sb y i) := by unfold sb; rw [Int32.toBitVec_or, BitVec.getLsbD_or]
theorem sb_and (x y : Int32) (i : Nat) : sb (x &&& y) i = (sb x i && sb y i) := by unfold sb; rw [Int32.toBitVec_and, BitVec.getLsbD_and]
theorem sb_xor (x y : Int32) (i : Nat) : sb (x ^^^ y) i = (sb x i ^^ sb y i) := by unfold sb; rw [Int32.toBitVec_xor, BitVec.getLsbD_xor]
theorem sb_big {x : Int32} {i : Nat} (h : 32 ≤ i) : sb x i = false := BitVec.getLsbD_of_ge _ _ h
theorem sb_a1 : ∀ i, i < 32 → sb (-1) i = true := by decide +kernel
theorem sb_0 (i : Nat) : sb 0 i = false := BitVec.getLsbD_zero
theorem sb_1 : ∀ i, i < 32 → sb 1 i = decide (i = 0) := by decide +kernel
theorem sb_sl : ∀ n, n < 32 → ((nI n &&& 31).toBitVec.smod 32).toNat = n := by decide +kernel
theorem sb_shl (n : Nat) (hn : n < 32) (x : Int32) {i : Nat} (hi : i < 32) : sb (x <<< (nI n &&& 31)) i = (decide (n ≤ i) && sb x (i - n)) := by
  unfold sb
  rw [Int32.toBitVec_shiftLeft]
  show (x.toBitVec <<< ((nI n &&& 31).toBitVec.smod 32).toNat).getLsbD i = _
  rw [sb_sl n hn, BitVec.getLsbD_shiftLeft]
  rcases Nat.lt_or_ge i n with h | h
  · simp [h, Nat.not_le.mpr h]
  · simp [hi, h, Nat.not_lt.mpr h]
theorem sb_sshr (n : Nat) (hn : n < 32) (x : Int32) {i : Nat} (hi : i < 32) : sb (x >>> (nI n &&& 31)) i = if n + i < 32 then sb x (n + i) else sb x 31 := by
  unfold sb
  rw [Int32.toBitVec_shiftRight]
  show (x.toBitVec.sshiftRight ((nI n &&& 31).toBitVec.smod 32).toNat).getLsbD i = _
  rw [sb_sl n hn, BitVec.getLsbD_sshiftRight, BitVec.msb_eq_getLsbD_last]
  simp [hi]
theorem sb_not (x : Int32) {i : Nat} (hi : i < 32) : sb (x ^^^ (-1)) i = !sb x i := by rw [sb_xor, sb_a1 i hi]; cases sb x i <;> rfl
theorem sb_z {x : Int32} : x = 0 ↔ ∀ i, i < 32 → sb x i = false := ⟨fun h i _ => by rw [h]; exact sb_0 i, fun h => sb_ext fun i hi => by rw [h i hi, sb_0]⟩
/-- the bit v, v < 32 -/
theorem sb_one {v : Nat} (hv : v < 32) (i : Nat) : sb ((1 : Int32) <<< (nI v &&& 31)) i = decide (i = v) := by
  rcases Nat.lt_or_ge i 32 with hi | hi
  · rw [sb_shl v hv 1 hi, sb_1 (i - v) (by omega)]
    by_cases h : i = v
    · simp [h]
    · by_cases h2 : v ≤ i
      · simp [h, h2]; omega
      · simp [h, h2]
  · rw [sb_big hi, decide_eq_false (by omega)]
/-- asking for the bit v -/
theorem sb_ask {v : Nat} (hv : v < 32) (x : Int32) : ((x >>> (nI v &&& 31)) &&& 1) = 0 ↔ sb x v = false := by
  rw [sb_z]
  constructor
  · intro h
    have := h 0 (by omega)
    rw [sb_and, sb_sshr v hv x (by omega), sb_1 0 (by omega), if_pos (by omega)] at this
    simpa using this
  · intro h i hi
    rw [sb_and, sb_1 i hi]
    by_cases h0 : i = 0
    · subst h0
      rw [sb_sshr v hv x hi, if_pos (by omega)]
      simpa using h
    · simp [h0]
theorem sb_ask1 {v : Nat} (hv : v < 32) (x : Int32) : ((x >>> (nI v &&& 31)) &&& 1) = 1 ↔ sb x v = true := by
  constructor
  · intro h
    cases hb : sb x v with
    | true => rfl
    | false => rw [(sb_ask hv x).mpr hb] at h; exact absurd h (by decide)
  · intro h
    apply sb_ext
    intro i hi
    rw [sb_and, sb_1 i hi]
    by_cases h0 : i = 0
    · subst h0
      rw [sb_sshr v hv x hi, if_pos (by omega)]
      simpa using h
    · simp [h0]
theorem sb_nI {n i : Nat} (hn : n < 2 ^ 32) : sb (nI n) i = n.testBit i := by
  unfold sb
  rw [← BitVec.testBit_toNat, pk_tn hn]
/-- the bits of a vertex: none for what is none -/
theorem sb_bit {v : Nat} (hv : v < 20) (i : Nat) : sb (bitI (nI v)) i = decide (i = v) := by
  rw [bitI, if_neg (nI_pos (by omega)), if_pos (nI_lt hv (by omega))]
  exact sb_one (by omega) i
theorem bitI_m : bitI (-1) = 0 := by rw [bitI, if_pos (by decide)]
/-! how many bits -/
def cnt (p : Nat → Bool) : Nat → Nat
  | 0 => 0
  | k + 1 => cnt p k + (if p k then 1 else 0)
theorem cnt_congr {p q : Nat → Bool} : ∀ {n : Nat}, (∀ i, i < n → p i = q i) → cnt p n = cnt q n
  | 0, _ => rfl
  | n + 1, h => by
    rw [cnt, cnt, cnt_congr (fun i hi => h i (by omega)), h n (by omega)]
theorem cnt_add (p : Nat → Bool) (a : Nat) : ∀ b, cnt p (a + b) = cnt p a + cnt (fun i => p (a + i)) b
  | 0 => rfl
  | b + 1 => by
    rw [← Nat.add_assoc, cnt, cnt_add p a b, cnt]
    omega
theorem cnt_le (p : Nat → Bool) : ∀ n, cnt p n ≤ n
  | 0 => Nat.le_refl _
  | n + 1 => by
    have := cnt_le p n
    rw [cnt]
    split <;> omega
theorem pc_L {a y m M k : Nat} (ha : a < 2 ^ 8) (hk : k ≤ 8) (hm : m < 2 ^ (8 - k)) : ((2 ^ 8 * y + a) / 2 ^ k) &&& (2 ^ 8 * M + m) = 2 ^ 8 * ((y / 2 ^ k) &&& M) + ((a / 2 ^ k) &&& m) := by
  have hm8 : m < 2 ^ 8 := Nat.lt_of_lt_of_le hm (Nat.pow_le_pow_right (by omega) (by omega))
  apply Nat.eq_of_testBit_eq
  intro j
  rw [Nat.testBit_and, Nat.testBit_div_two_pow, Nat.testBit_two_pow_mul_add _ ha, Nat.testBit_two_pow_mul_add _ hm8, Nat.testBit_two_pow_mul_add _ (Nat.and_lt_two_pow _ hm8)]
  by_cases hj : j < 8
  · simp only [hj, if_true, Nat.testBit_and, Nat.testBit_div_two_pow]
    by_cases hjk : j + k < 8
    · simp only [hjk, if_true]
    · have : m.testBit j = false := Nat.testBit_lt_two_pow (Nat.lt_of_lt_of_le hm (Nat.pow_le_pow_right (by omega) (by omega)))
      simp [this]
  · have h2 : ¬ j + k < 8 := by omega
    simp only [hj, h2, if_false, Nat.testBit_and, Nat.testBit_div_two_pow]
    rw [show j + k - 8 = j - 8 + k by omega]
def pc_1 (m n : Nat) : Nat := n - ((n / 2 ^ 1) &&& m)
def pc_2 (m n : Nat) : Nat := ((n / 2 ^ 0) &&& m) + ((n / 2 ^ 2) &&& m)
theorem pc_1L {a y M : Nat} (ha : a < 2 ^ 8) : pc_1 (2 ^ 8 * M + 85) (2 ^ 8 * y + a) = 2 ^ 8 * pc_1 M y + pc_1 85 a := by
  have h1 : (a / 2 ^ 1) &&& 85 ≤ a / 2 ^ 1 := Nat.and_le_left
  have h2 : (y / 2 ^ 1) &&& M ≤ y / 2 ^ 1 := Nat.and_le_left
  unfold pc_1
  rw [pc_L ha (by omega) (by decide)]
  omega
theorem pc_2L {a y M : Nat} (ha : a < 2 ^ 8) : pc_2 (2 ^ 8 * M + 51) (2 ^ 8 * y + a) = 2 ^ 8 * pc_2 M y + pc_2 51 a := by
  unfold pc_2
  rw [pc_L ha (by omega) (by decide), pc_L ha (by omega) (by decide)]
  omega
def pc_3 (n : Nat) : Nat := (n + n / 16) &&& 252645135
def pc_4 (n : Nat) : Nat := n + n / 256
def pc_5 (n : Nat) : Nat := n + n / 65536
theorem pc_byte : ∀ a, a < 256 → pc_1 85 a < 256 ∧ pc_2 51 (pc_1 85 a) % 16 ≤ 4 ∧ pc_2 51 (pc_1 85 a) ≤ 68 ∧ pc_2 51 (pc_1 85 a) % 16 + pc_2 51 (pc_1 85 a) / 16 = cnt a.testBit 8 := by decide +kernel
theorem pc_top : ∀ a, a < 16 → pc_1 21845 a < 256 ∧ pc_2 13107 (pc_1 21845 a) ≤ 4 ∧ pc_2 13107 (pc_1 21845 a) = cnt a.testBit 4 := by decide +kernel
theorem pc_end : ∀ a, a < 69 → a % 16 ≤ 4 → ∀ b, b < 69 → b % 16 ≤ 4 → ∀ c, c < 5 → (pc_5 (pc_4 (pc_3 (2 ^ 8 * (2 ^ 8 * c + b) + a)))) &&& 63 = (a % 16 + a / 16) + (b % 16 + b / 16) + c := by decide +kernel
theorem pc_all {n : Nat} (hn : n < 2 ^ 20) : (pc_5 (pc_4 (pc_3 (pc_2 858993459 (pc_1 1431655765 n))))) &&& 63 = cnt n.testBit 20 := by
  obtain ⟨a, b, c, rfl, ha, hb, hc⟩ : ∃ a b c, n = 2 ^ 8 * (2 ^ 8 * c + b) + a ∧ a < 2 ^ 8 ∧ b < 2 ^ 8 ∧ c < 16 := ⟨n % 256, n / 256 % 256, n / 65536, by omega, by omega, by omega, by omega⟩
  obtain ⟨a1, a2, a3, a4⟩ := pc_byte a ha
  obtain ⟨b1, b2, b3, b4⟩ := pc_byte b hb
  obtain ⟨c1, c2, c3⟩ := pc_top c hc
  have e1 : pc_1 1431655765 (2 ^ 8 * (2 ^ 8 * c + b) + a) = 2 ^ 8 * (2 ^ 8 * pc_1 21845 c + pc_1 85 b) + pc_1 85 a := by
    rw [show (1431655765 : Nat) = 2 ^ 8 * (2 ^ 8 * 21845 + 85) + 85 from rfl, pc_1L ha, pc_1L hb]
  have e2 : pc_2 858993459 (2 ^ 8 * (2 ^ 8 * pc_1 21845 c + pc_1 85 b) + pc_1 85 a) = 2 ^ 8 * (2 ^ 8 * pc_2 13107 (pc_1 21845 c) + pc_2 51 (pc_1 85 b)) + pc_2 51 (pc_1 85 a) := by
    rw [show (858993459 : Nat) = 2 ^ 8 * (2 ^ 8 * 13107 + 51) + 51 from rfl, pc_2L a1, pc_2L b1]
  rw [e1, e2, pc_end _ (by omega) a2 _ (by omega) b2 _ (by omega), a4, b4, c3]
  rw [show (20 : Nat) = 8 + (8 + 4) from rfl, cnt_add, cnt_add, ← Nat.add_assoc]
  congr 1
  · congr 1
    · apply cnt_congr
      intro i hi
      rw [Nat.testBit_two_pow_mul_add _ ha, if_pos hi]
    · apply cnt_congr
      intro i hi
      rw [Nat.testBit_two_pow_mul_add _ ha, if_neg (by omega), Nat.testBit_two_pow_mul_add _ hb, if_pos (by omega)]
      congr 1; omega
  · apply cnt_congr
    intro i hi
    rw [Nat.testBit_two_pow_mul_add _ ha, if_neg (by omega), Nat.testBit_two_pow_mul_add _ hb, if_neg (by omega)]
    congr 1; omega
def usI (x : Int32) (k : Nat) : Int32 := (x.toUInt32 >>> ((nI k).toUInt32 &&& Int32.toUInt32 31)).toInt32
def bc_1 (x : Int32) : Int32 := x - (usI x 1 &&& Int32.ofNat 1431655765)
def bc_2 (x : Int32) : Int32 := (bc_1 x &&& Int32.ofNat 858993459) + (usI (bc_1 x) 2 &&& Int32.ofNat 858993459)
def bc_3 (x : Int32) : Int32 := (bc_2 x + usI (bc_2 x) 4) &&& Int32.ofNat 252645135
def bc_4 (x : Int32) : Int32 := bc_3 x + usI (bc_3 x) 8
def bcI (x : Int32) : Int32 := (bc_4 x + usI (bc_4 x) 16) &&& nI 63
theorem st_bc {d : Nat} {Q : fl_R} {W : fl_W} {v : Int32} (h : Q (some (.int (bcI v))) W) : fl_cal (d + 1) 191 [.int v] W Q := sx_191 v W h
theorem nI_and (a b : Nat) : nI a &&& nI b = nI (a &&& b) := by
  apply sb_ext
  intro i hi
  show (nI a &&& nI b).toBitVec.getLsbD i = (nI (a &&& b)).toBitVec.getLsbD i
  have e : ∀ n : Nat, (nI n).toBitVec = BitVec.ofNat 32 n := fun n => rfl
  rw [Int32.toBitVec_and, BitVec.getLsbD_and, e, e, e, BitVec.getLsbD_ofNat, BitVec.getLsbD_ofNat, BitVec.getLsbD_ofNat, Nat.testBit_and]
  simp [hi]
theorem usI_N {n k : Nat} (hn : n < 2 ^ 32) (hk : k < 32) : usI (nI n) k = nI (n / 2 ^ k) := by
  have : ∀ k, k < 32 → (((nI k).toUInt32 &&& Int32.toUInt32 31).toBitVec % 32).toNat = k := by decide +kernel
  exact pk_ushrN hn (nI k) k (this k hk)
theorem pc_1le (m n : Nat) : pc_1 m n ≤ n := Nat.sub_le _ _
theorem bcI_N {n : Nat} (hn : n < 2 ^ 20) : bcI (nI n) = nI (cnt n.testBit 20) := by
  have h1 : bc_1 (nI n) = nI (pc_1 1431655765 n) := by
    unfold bc_1
    rw [usI_N (by omega) (by omega), show Int32.ofNat 1431655765 = nI 1431655765 from rfl, nI_and, pk_sub]
    · rfl
    · exact Nat.le_trans Nat.and_le_left (Nat.div_le_self _ _)
  have l1 := pc_1le 1431655765 n
  have h2 : bc_2 (nI n) = nI (pc_2 858993459 (pc_1 1431655765 n)) := by
    unfold bc_2
    rw [h1, usI_N (by omega) (by omega), show Int32.ofNat 858993459 = nI 858993459 from rfl, nI_and, nI_and, nI_add, pc_2, Nat.pow_zero, Nat.div_one]
  have l2 : pc_2 858993459 (pc_1 1431655765 n) < 2 ^ 22 := by
    have a1 : (pc_1 1431655765 n / 2 ^ 0) &&& 858993459 ≤ pc_1 1431655765 n / 2 ^ 0 := Nat.and_le_left
    have a2 : (pc_1 1431655765 n / 2 ^ 2) &&& 858993459 ≤ pc_1 1431655765 n / 2 ^ 2 := Nat.and_le_left
    unfold pc_2
    omega
  have h3 : bc_3 (nI n) = nI (pc_3 (pc_2 858993459 (pc_1 1431655765 n))) := by
    unfold bc_3
    rw [h2, usI_N (by omega) (by omega), show Int32.ofNat 252645135 = nI 252645135 from rfl, nI_add, nI_and]
    rfl
  have l3 : pc_3 (pc_2 858993459 (pc_1 1431655765 n)) < 2 ^ 23 := by
    have a1 : (pc_2 858993459 (pc_1 1431655765 n) + pc_2 858993459 (pc_1 1431655765 n) / 16) &&& 252645135 ≤ pc_2 858993459 (pc_1 1431655765 n) + pc_2 858993459 (pc_1 1431655765 n) / 16 := Nat.and_le_left
    unfold pc_3
    omega
  have h4 : bc_4 (nI n) = nI (pc_4 (pc_3 (pc_2 858993459 (pc_1 1431655765 n)))) := by
    unfold bc_4
    rw [h3, usI_N (by omega) (by omega), nI_add]
    rfl
  have l4 : pc_4 (pc_3 (pc_2 858993459 (pc_1 1431655765 n))) < 2 ^ 24 := by unfold pc_4; omega
  unfold bcI
  rw [h4, usI_N (by omega) (by omega), nI_add, nI_and, ← pc_all hn]
  rfl
/-- a set of vertices as bits -/
def BS (x : Int32) (p : Nat → Bool) : Prop := ∀ i, i < 32 → sb x i = (decide (i < 20) && p i)
theorem sb_nat (x : Int32) : ∃ n, n < 2 ^ 32 ∧ x = nI n ∧ ∀ i, n.testBit i = sb x i := by
  have h1 : x.toBitVec.toNat < 2 ^ 32 := x.toBitVec.isLt
  have h2 : ∀ i, x.toBitVec.toNat.testBit i = sb x i := fun i => by unfold sb; rw [BitVec.testBit_toNat]
  exact ⟨_, h1, sb_ext fun i _ => by rw [sb_nI h1, h2], h2⟩
theorem BS.nat {x : Int32} {p : Nat → Bool} (h : BS x p) : ∃ n, n < 2 ^ 20 ∧ x = nI n ∧ ∀ i, i < 20 → n.testBit i = p i := by
  obtain ⟨n, h1, h2, h3⟩ := sb_nat x
  refine ⟨n, Nat.lt_pow_two_of_testBit n fun i hi => ?_, h2, fun i hi => ?_⟩
  · rw [h3]
    rcases Nat.lt_or_ge i 32 with q | q
    · rw [h i q, decide_eq_false (by omega)]; rfl
    · exact sb_big q
  · rw [h3, h i (by omega), decide_eq_true hi]; rfl
/-- the low bits, whatever stands above -/
def BT (x : Int32) (p : Nat → Bool) : Prop := ∀ i, i < 20 → sb x i = p i
theorem BS.lo {x : Int32} {p : Nat → Bool} (h : BS x p) : BT x p := fun i hi => by rw [h i (by omega), decide_eq_true hi]; rfl
theorem BS.congr {x : Int32} {p q : Nat → Bool} (h : BS x p) (e : ∀ i, i < 20 → p i = q i) : BS x q := fun i hi => by
  rw [h i hi]
  by_cases h2 : i < 20
  · rw [e i h2]
  · simp [h2]
theorem BT.congr {x : Int32} {p q : Nat → Bool} (h : BT x p) (e : ∀ i, i < 20 → p i = q i) : BT x q := fun i hi => by rw [h i hi, e i hi]
theorem BS.and {x y : Int32} {p q : Nat → Bool} (h : BS x p) (g : BT y q) : BS (x &&& y) (fun i => p i && q i) := fun i hi => by
  rw [sb_and, h i hi]
  by_cases h2 : i < 20
  · simp [h2, g i h2]
  · simp [h2]
theorem BS.and' {x y : Int32} {p q : Nat → Bool} (h : BT x p) (g : BS y q) : BS (x &&& y) (fun i => p i && q i) := fun i hi => by
  rw [sb_and, g i hi]
  by_cases h2 : i < 20
  · simp [h2, h i h2]
  · simp [h2]
theorem BT.and {x y : Int32} {p q : Nat → Bool} (h : BT x p) (g : BT y q) : BT (x &&& y) (fun i => p i && q i) := fun i hi => by rw [sb_and, h i hi, g i hi]
theorem BS.or {x y : Int32} {p q : Nat → Bool} (h : BS x p) (g : BS y q) : BS (x ||| y) (fun i => p i || q i) := fun i hi => by
  rw [sb_or, h i hi, g i hi]
  by_cases h2 : i < 20 <;> simp [h2]
theorem BT.or {x y : Int32} {p q : Nat → Bool} (h : BT x p) (g : BT y q) : BT (x ||| y) (fun i => p i || q i) := fun i hi => by rw [sb_or, h i hi, g i hi]
theorem BT.not {x : Int32} {p : Nat → Bool} (h : BT x p) : BT (x ^^^ (-1)) (fun i => !p i) := fun i hi => by rw [sb_not x (by omega), h i hi]
theorem BS.zero : BS 0 (fun _ => false) := fun i _ => by rw [sb_0]; simp
theorem BS.bit {v : Nat} (hv : v < 20) : BS (bitI (nI v)) (fun i => decide (i = v)) := fun i hi => by
  rw [sb_bit hv]
  by_cases h : i = v
  · simp [h, hv]
  · simp [h]
theorem BS.one {v : Nat} (hv : v < 20) : BS ((1 : Int32) <<< (nI v &&& 31)) (fun i => decide (i = v)) := fun i hi => by
  rw [sb_one (by omega)]
  by_cases h : i = v
  · simp [h, hv]
  · simp [h]
theorem BS.eq {x y : Int32} {p q : Nat → Bool} (h : BS x p) (g : BS y q) : x = y ↔ ∀ i, i < 20 → p i = q i := by
  constructor
  · intro e i hi
    rw [← h.lo i hi, ← g.lo i hi, e]
  · intro e
    exact sb_ext fun i hi => by rw [(h.congr e) i hi, g i hi]
theorem BS.z {x : Int32} {p : Nat → Bool} (h : BS x p) : x = 0 ↔ ∀ i, i < 20 → p i = false := h.eq BS.zero
theorem BS.pc {x : Int32} {p : Nat → Bool} (h : BS x p) : bcI x = nI (cnt p 20) := by
  obtain ⟨n, h1, rfl, h3⟩ := h.nat
  rw [bcI_N h1, cnt_congr h3]
theorem bc_low : ∀ k, k ≤ 20 → 2 ^ k - 1 < 2 ^ 20 ∧ cnt (2 ^ k - 1).testBit 20 = k := by decide +kernel
/-- the least of the bits -/
theorem bc_least {x : Int32} {k : Nat} (hk : k ≤ 20) (h1 : sb x k = true) (h2 : ∀ j, j < k → sb x j = false) : bcI ((x &&& (-x)) - nI 1) = nI k := by
  have e : x &&& (-x) = nI (2 ^ k) := by
    apply sb_ext
    intro i hi
    have hp : (2 : Nat) ^ k < 2 ^ 32 := Nat.pow_lt_pow_right (by omega) (by omega)
    rw [sb_nI hp, Nat.testBit_two_pow, sb_and]
    have hn : sb (-x) i = (sb x i ^^ decide (∃ j, j < i ∧ sb x j = true)) := by
      show (-x).toBitVec.getLsbD i = _
      rw [Int32.toBitVec_neg, BitVec.getLsbD_neg, decide_eq_true hi]
      rfl
    rw [hn]
    by_cases hik : i = k
    · subst hik
      have hno : ¬ ∃ j, j < i ∧ sb x j = true := fun ⟨j, g1, g2⟩ => by rw [h2 j g1] at g2; cases g2
      simp [h1, hno]
    · rcases Nat.lt_or_ge i k with q | q
      · simp [h2 i q, Ne.symm hik]
      · have hex : ∃ j, j < i ∧ sb x j = true := ⟨k, by omega, h1⟩
        simp [hex, Ne.symm hik]
  obtain ⟨g1, g2⟩ := bc_low k hk
  rw [e, pk_sub (Nat.one_le_two_pow), bcI_N g1, g2]
/-- whether an int is a place below n -/
def ixB (v : Int32) (n : Nat) : Bool := decide (0 ≤ v.toInt) && decide (v.toInt < (n : Int))
theorem ixB_iff {v : Int32} {n : Nat} : ixB v n = true ↔ vp_in v n := by
  rw [vp_in_iff, ixB, Bool.and_eq_true, decide_eq_true_iff, decide_eq_true_iff]
theorem ixB_N {k n : Nat} (hk : k < 2 ^ 31) : ixB (nI k) n = decide (k < n) := by
  rw [ixB, nI_toInt hk]
  by_cases h : k < n
  · simp [h]
  · simp [h]
theorem ixB_neg {v : Int32} {n : Nat} (h : v < 0) : ixB v n = false := by
  rw [i_lt, i_0] at h
  rw [ixB, decide_eq_false (by omega)]; rfl
theorem ixB_ge {v : Int32} {n : Nat} (hn : n < 2 ^ 31) (h : ¬ v < nI n) : ixB v n = false := by
  rw [i_lt, nI_toInt hn] at h
  rw [ixB, decide_eq_false (p := v.toInt < (n : Int)) (by omega), Bool.and_false]
theorem ixB_lt {v : Int32} {n : Nat} (hn : n < 2 ^ 31) (h0 : ¬ v < 0) (h : v < nI n) : ixB v n = true := by
  rw [i_lt, nI_toInt hn] at h
  rw [i_lt, i_0] at h0
  rw [ixB, decide_eq_true (by omega), decide_eq_true (by omega)]; rfl
theorem ixB_ex {v : Int32} {n : Nat} (hn : n < 2 ^ 31) (h : ixB v n = true) : ∃ k, k < n ∧ v = nI k := by
  rw [ixB_iff] at h
  exact vp_in_of h hn
section STAT
variable {d : Nat} {Q : fl_R} {W : fl_W}
theorem st_leastNo (h : Q (some (.int (-1))) W) : fl_cal (d + 2) 122 [.int 0] W Q := sx_122 0 W ⟨fun _ => h, fun q => absurd rfl q⟩
theorem st_least {x : Int32} {k : Nat} (hk : k ≤ 20) (h1 : sb x k = true) (h2 : ∀ j, j < k → sb x j = false) (h : Q (some (.int (nI k))) W) : fl_cal (d + 2) 122 [.int x] W Q := by
  refine sx_122 x W ⟨fun q => ?_, fun _ => st_bc ?_⟩
  · rw [q, sb_0] at h1; cases h1
  · show Q (some (.int (bcI ((x &&& (-x)) - nI 1)))) W
    rw [bc_least hk h1 h2]
    exact h
theorem st_can {v : Int32} (h : Q (some (.int (if ixB v 20 then 1 else 0))) W) : fl_cal (d + 1) 119 [.int v] W Q := by
  refine sx_119 v W ⟨fun q => ?_, fun q => ⟨fun q2 => ?_, fun q2 => ?_⟩⟩
  · rw [ixB_neg q] at h; exact h
  · rw [ixB_lt (n := 20) (by omega) q q2] at h; exact h
  · rw [ixB_ge (n := 20) (by omega) q2] at h; exact h
/-- whether v is one of the bits -/
def inI (x v : Int32) : Bool := ixB v 20 && sb x v.toNatClampNeg
theorem inI_N {x : Int32} {n : Nat} (hn : n < 20) : inI x (nI n) = sb x n := by
  rw [inI, ixB_N (by omega), decide_eq_true hn, nI_clamp (by omega)]; rfl
theorem st_in {x v : Int32} (h : Q (some (.int (if inI x v then 1 else 0))) W) : fl_cal (d + 1) 121 [.int x, .int v] W Q := by
  refine sx_121 x v W ⟨fun q => ?_, fun q => ⟨fun q2 => ?_, fun q2 => ?_⟩⟩
  · rw [inI, ixB_neg q] at h; exact h
  · obtain ⟨n, hn, rfl⟩ := i_nat (n := 20) q q2 (by omega)
    rw [inI_N hn] at h
    refine ⟨fun z => ?_, fun z => ?_⟩
    · rw [(sb_ask (by omega) x).mp z] at h; exact h
    · cases hb : sb x n with
      | false => exact absurd ((sb_ask (by omega) x).mpr hb) z
      | true => rw [hb] at h; exact h
  · rw [inI, ixB_ge (n := 20) (by omega) q2] at h; exact h
end STAT
end
section
/-! ===== a graph, and a net that holds it ===== -/
abbrev gE : Type := List (Nat × Nat)
def adj (es : gE) (u v : Nat) : Bool := es.any fun p => (p.1 == u && p.2 == v) || (p.1 == v && p.2 == u)
def okE (V : Nat) (es : gE) : Prop := (∀ p ∈ es, p.1 < p.2 ∧ p.2 < V) ∧ es.Nodup
theorem adj_iff {es : gE} {u v : Nat} : adj es u v = true ↔ (u, v) ∈ es ∨ (v, u) ∈ es := by
  unfold adj
  rw [List.any_eq_true]
  constructor
  · rintro ⟨⟨a, b⟩, h1, h2⟩
    simp only [Bool.or_eq_true, Bool.and_eq_true, beq_iff_eq] at h2
    rcases h2 with ⟨rfl, rfl⟩ | ⟨rfl, rfl⟩
    · exact Or.inl h1
    · exact Or.inr h1
  · rintro (h | h)
    · exact ⟨_, h, by simp⟩
    · exact ⟨_, h, by simp⟩
theorem adj_sym {es : gE} {u v : Nat} : adj es u v = adj es v u := by
  rw [Bool.eq_iff_iff, adj_iff, adj_iff, or_comm]
theorem adj_lt {V : Nat} {es : gE} (h : okE V es) {u v : Nat} (ha : adj es u v = true) : u < V ∧ v < V ∧ u ≠ v := by
  rcases adj_iff.mp ha with q | q
  · have := h.1 _ q
    exact ⟨by omega, by omega, by omega⟩
  · have := h.1 _ q
    exact ⟨by omega, by omega, by omega⟩
theorem adj_app {es fs : gE} {u v : Nat} : adj (es ++ fs) u v = (adj es u v || adj fs u v) := by
  unfold adj
  rw [List.any_append]
theorem adj_nil {u v : Nat} : adj [] u v = false := rfl
theorem adj_one {a b u v : Nat} : adj [(a, b)] u v = ((a == u && b == v) || (a == v && b == u)) := by simp [adj]
def NetR (W : fl_W) (b V : Nat) (es : gE) : Prop := V ≤ 20 ∧ es.length ≤ 60 ∧ okE V es ∧ W b 3 = nI V ∧ W b 4 = nI es.length ∧ (∀ i p, es[i]? = some p → W (b + 1) i = nI p.1 ∧ W (b + 2) i = nI p.2) ∧ ∀ v, v < 20 → BS (W (b + 3) v) (adj es v)
def nl (b : Nat) : List Nat := [b, b + 1, b + 2, b + 3]
theorem NetR.fr {W W' : fl_W} {b V : Nat} {es : gE} {l : List Nat} (h : NetR W b V es) (hE : EqX l W W') (hd : ∀ a ∈ nl b, a ∉ l) : NetR W' b V es := by
  obtain ⟨h1, h2, h3, h4, h5, h6, h7⟩ := h
  have e0 := hE b (hd b (by simp [nl]))
  have e1 := hE (b + 1) (hd _ (by simp [nl]))
  have e2 := hE (b + 2) (hd _ (by simp [nl]))
  have e3 := hE (b + 3) (hd _ (by simp [nl]))
  refine ⟨h1, h2, h3, by rw [e0]; exact h4, by rw [e0]; exact h5, fun i p hp => ?_, fun v hv => ?_⟩
  · rw [e1, e2]; exact h6 i p hp
  · rw [e3]; exact h7 v hv
theorem net_bases : ∀ b, b < 280 → fl_isb b 4 = true → b = 1 ∨ b = 5 ∨ b = 60 ∨ b = 64 := by decide +kernel
theorem net_dis {b c : Nat} (hb : fl_net b) (hc : fl_net c) (h : b ≠ c) : ∀ a ∈ nl b, a ∉ nl c := by
  intro a ha hc2
  simp only [nl, List.mem_cons, List.not_mem_nil, or_false] at ha hc2
  have h1 := net_bases b (fl_lt hb) hb
  have h2 := net_bases c (fl_lt hc) hc
  omega
section NET
variable {d : Nat} {Q : fl_R} {b : Nat} {W : fl_W} {V : Nat} {es : gE}
/-! Arrays.fill -/
theorem ar_fill_l {a n : Nat} {x : Int32} (ha : fl_sh a = (1, 0, [n])) (hn : n < 2 ^ 31) : ∀ (m i : Nat) (W : fl_W), n - i = m → i ≤ n → (∀ W', (∀ j, i ≤ j → j < n → W' a j = x) → (∀ j, j < i → W' a j = W a j) → EqX [a] W W' → Q none W') → hd_192_5 d Q a x (nI i) (nI n) W := by
  intro m
  induction m with
  | zero =>
    intro i W h1 h2 h
    exact sx_192_5 a x _ _ W ha ⟨fun q => absurd q (nI_nlt (by omega) (by omega)), fun _ => h W (fun j _ _ => by omega) (fun _ _ => rfl) EqX.rf⟩
  | succ m ih =>
    intro i W h1 h2 h
    refine sx_192_5 a x _ _ W ha ⟨fun _ => ⟨in_N (by omega) hn, fun W1 e => ?_⟩, fun q => absurd (nI_lt (by omega) hn) q⟩
    rw [nI_clamp (by omega)] at e
    subst e
    rw [ci_1, nI_add]
    refine ih (i + 1) _ (by omega) (by omega) fun W' g1 g2 g3 => h W' (fun j hj1 hj2 => ?_) (fun j hj => ?_) ((EqX.uw (by simp)).tr g3)
    · rcases Nat.lt_or_ge i j with q | q
      · exact g1 j q hj2
      · have : j = i := by omega
        subst this
        rw [g2 j (by omega), uw_s]
    · rw [g2 j (by omega), uw_m (by omega)]
theorem ar_fill {a n : Nat} {x : Int32} (ha : fl_sh a = (1, 0, [n])) (hn : n < 2 ^ 31) (h : ∀ W', (∀ j, j < n → W' a j = x) → EqX [a] W W' → Q none W') : fl_cal (d + 1) 192 [.ref a, .int x] W Q :=
  sx_192 a x W ha (ar_fill_l ha hn n 0 W (by omega) (Nat.zero_le _) fun W' g1 _ g3 => h W' (fun j hj => g1 j (Nat.zero_le _) hj) g3)
theorem net_begin {n : Nat} (hb : fl_net b) (hn : n ≤ 20) (h : ∀ W', NetR W' b n [] → EqX (nl b) W W' → Q none W') : fl_cal (d + 2) 40 [.ref b, .int (nI n)] W Q := by
  refine sx_40 b _ W hb fun W1 e1 W2 e2 => ?_
  have e : (if Int32.ofInt 0 < (if (Int8.ofInt 20).toInt32 < nI n then (Int8.ofInt 20).toInt32 else nI n) then (if (Int8.ofInt 20).toInt32 < nI n then (Int8.ofInt 20).toInt32 else nI n) else Int32.ofInt 0) = nI n := by
    rw [cb_20, ci_0, if_neg (nI_nlt hn (by omega))]
    by_cases h0 : n = 0
    · subst h0; rw [if_neg (nI_nlt (Nat.le_refl _) (by omega))]
    · rw [if_pos (nI_lt (by omega) (by omega))]
  rw [e] at e1
  subst e1
  subst e2
  refine ar_fill (fl_net_all b (fl_lt hb) hb).2.2.2 (by omega) fun W' g1 g2 => h W' ⟨hn, by simp, ⟨fun p hp => by simp at hp, List.nodup_nil⟩, ?_, ?_, fun i p hp => by simp at hp, fun v hv => ?_⟩ ?_
  · rw [g2 b (by simp), uw_m (by omega), uw_s]
  · rw [g2 b (by simp), uw_s]; rfl
  · rw [g1 v hv]
    exact BS.zero.congr fun i _ => adj_nil.symm
  · refine ((EqX.uw (by simp [nl])).tr (EqX.uw (by simp [nl]))).tr (g2.mono (by simp [nl]))
theorem net_hasV {v : Int32} (hb : fl_net b) (hN : NetR W b V es) (h : Q (some (.int (if ixB v V then 1 else 0))) W) : fl_cal (d + 1) 42 [.ref b, .int v] W Q := by
  have hV := hN.1
  refine sx_42 b v W hb ⟨fun q => ?_, fun q => ⟨fun q2 => ?_, fun q2 => ?_⟩⟩
  · rw [ixB_neg q] at h; exact h
  · rw [hN.2.2.2.1] at q2; rw [ixB_lt (by omega) q q2] at h; exact h
  · rw [hN.2.2.2.1] at q2; rw [ixB_ge (by omega) q2] at h; exact h
theorem net_hasE {e : Int32} (hb : fl_net b) (hN : NetR W b V es) (h : Q (some (.int (if ixB e es.length then 1 else 0))) W) : fl_cal (d + 1) 43 [.ref b, .int e] W Q := by
  have hE := hN.2.1
  refine sx_43 b e W hb ⟨fun q => ?_, fun q => ⟨fun q2 => ?_, fun q2 => ?_⟩⟩
  · rw [ixB_neg q] at h; exact h
  · rw [hN.2.2.2.2.1] at q2; rw [ixB_lt (by omega) q q2] at h; exact h
  · rw [hN.2.2.2.2.1] at q2; rw [ixB_ge (by omega) q2] at h; exact h
theorem net_low {i : Nat} {p : Nat × Nat} (hb : fl_net b) (hN : NetR W b V es) (hp : es[i]? = some p) (h : Q (some (.int (nI p.1))) W) : fl_cal (d + 2) 44 [.ref b, .int (nI i)] W Q := by
  have hE := hN.2.1
  have hi := (List.getElem?_eq_some_iff.mp hp).1
  refine sx_44 b _ W hb (net_hasE hb hN ?_)
  rw [ixB_N (by omega), decide_eq_true hi]
  refine ⟨fun q => absurd q (by decide), fun _ => ⟨in_N (by omega) (by omega), ?_⟩⟩
  rw [nI_clamp (by omega), (hN.2.2.2.2.2.1 i p hp).1]
  exact h
theorem net_high {i : Nat} {p : Nat × Nat} (hb : fl_net b) (hN : NetR W b V es) (hp : es[i]? = some p) (h : Q (some (.int (nI p.2))) W) : fl_cal (d + 2) 45 [.ref b, .int (nI i)] W Q := by
  have hE := hN.2.1
  have hi := (List.getElem?_eq_some_iff.mp hp).1
  refine sx_45 b _ W hb (net_hasE hb hN ?_)
  rw [ixB_N (by omega), decide_eq_true hi]
  refine ⟨fun q => absurd q (by decide), fun _ => ⟨in_N (by omega) (by omega), ?_⟩⟩
  rw [nI_clamp (by omega), (hN.2.2.2.2.2.1 i p hp).2]
  exact h
theorem net_lowNo {e : Int32} (hb : fl_net b) (hN : NetR W b V es) (hp : ixB e es.length = false) (h : Q (some (.int (-1))) W) : fl_cal (d + 2) 44 [.ref b, .int e] W Q := by
  refine sx_44 b _ W hb (net_hasE hb hN ?_)
  rw [hp]
  exact ⟨fun _ => h, fun q => absurd rfl q⟩
theorem net_highNo {e : Int32} (hb : fl_net b) (hN : NetR W b V es) (hp : ixB e es.length = false) (h : Q (some (.int (-1))) W) : fl_cal (d + 2) 45 [.ref b, .int e] W Q := by
  refine sx_45 b _ W hb (net_hasE hb hN ?_)
  rw [hp]
  exact ⟨fun _ => h, fun q => absurd rfl q⟩
theorem net_around {v : Nat} (hb : fl_net b) (hN : NetR W b V es) (hv : v < V) (h : ∀ x, BS x (adj es v) → Q (some (.int x)) W) : fl_cal (d + 1) 46 [.ref b, .int (nI v)] W Q := by
  have hV := hN.1
  refine sx_46 b _ W hb ⟨fun q => absurd q (nI_pos (by omega)), fun _ => ⟨fun _ => ⟨in_N (by omega) (by omega), ?_⟩, fun q => absurd ?_ q⟩⟩
  · rw [nI_clamp (by omega)]
    exact h _ (hN.2.2.2.2.2.2 v (by omega))
  · rw [hN.2.2.2.1]; exact nI_lt hv (by omega)
theorem net_aroundNo {v : Int32} (hb : fl_net b) (hN : NetR W b V es) (hv : ixB v V = false) (h : Q (some (.int 0)) W) : fl_cal (d + 1) 46 [.ref b, .int v] W Q := by
  have hV := hN.1
  refine sx_46 b _ W hb ⟨fun _ => h, fun q => ⟨fun q2 => ?_, fun _ => h⟩⟩
  rw [hN.2.2.2.1] at q2
  rw [ixB_lt (by omega) q q2] at hv
  cases hv
theorem net_joined {u v : Nat} (hb : fl_net b) (hN : NetR W b V es) (hu : u < V) (hv : v < 20) (h : Q (some (.int (if adj es u v then 1 else 0))) W) : fl_cal (d + 2) 48 [.ref b, .int (nI u), .int (nI v)] W Q := by
  have hV := hN.1
  refine sx_48 b _ _ W hb ⟨fun q => absurd q (nI_pos (by omega)), fun _ => ⟨fun _ => ⟨in_N (by omega) (by omega), st_in ?_⟩, fun q => absurd ?_ q⟩⟩
  · rw [nI_clamp (by omega), inI_N hv, (hN.2.2.2.2.2.2 u (by omega)).lo v hv]
    generalize adj es u v = z at h ⊢
    cases z with
    | false => exact ⟨fun _ => h, fun q => absurd rfl q⟩
    | true => exact ⟨fun q => absurd q (by decide), fun _ => h⟩
  · rw [hN.2.2.2.1]; exact nI_lt hu (by omega)
theorem net_joinedNo {u v : Int32} (hb : fl_net b) (hN : NetR W b V es) (hn : ixB u V = false ∨ ixB v 20 = false) (h : Q (some (.int 0)) W) : fl_cal (d + 2) 48 [.ref b, .int u, .int v] W Q := by
  have hV := hN.1
  refine sx_48 b _ _ W hb ⟨fun _ => h, fun q => ⟨fun q2 => ?_, fun _ => h⟩⟩
  rw [hN.2.2.2.1] at q2
  obtain ⟨n, hn', rfl⟩ := i_nat q q2 (by omega)
  refine ⟨in_N (by omega) (by omega), st_in ?_⟩
  rw [ixB_N (by omega), decide_eq_true hn'] at hn
  rw [inI, hn.resolve_left (by decide)]
  exact ⟨fun _ => h, fun q => absurd rfl q⟩
def tkB (V : Nat) (es : gE) (u v : Int32) : Bool := ixB u V && ixB v V && decide (u ≠ v) && !adj es u.toNatClampNeg v.toNatClampNeg && decide (es.length < 60)
theorem net_takes {u v : Int32} (hb : fl_net b) (hN : NetR W b V es) (h : Q (some (.int (if tkB V es u v then 1 else 0))) W) : fl_cal (d + 1) 49 [.ref b, .int u, .int v] W Q := by
  have hV := hN.1
  have hE := hN.2.1
  have h3 := hN.2.2.2.1
  have no : tkB V es u v = false → Q (some (.int 0)) W := fun z => by rw [z] at h; exact h
  refine sx_49 b u v W hb ⟨fun q => no (by rw [tkB, ixB_neg q]; rfl), fun q1 => ⟨fun q2 => ⟨fun q => no (by rw [tkB, ixB_neg q]; simp), fun q3 => ⟨fun q4 => ⟨fun q => no (by rw [tkB, q]; simp), fun q5 => ?_⟩, fun q => no (by rw [h3] at q; rw [tkB, ixB_ge (v := v) (by omega) q]; simp)⟩⟩, fun q => no (by rw [h3] at q; rw [tkB, ixB_ge (by omega) q]; rfl)⟩⟩
  rw [h3] at q2 q4
  obtain ⟨a, ha, rfl⟩ := i_nat q1 q2 (by omega)
  obtain ⟨c, hc, rfl⟩ := i_nat q3 q4 (by omega)
  have hB := (hN.2.2.2.2.2.2 a (by omega)).lo c (by omega)
  have hT : tkB V es (nI a) (nI c) = (!adj es a c && decide (es.length < 60)) := by
    rw [tkB, ixB_N (by omega), ixB_N (by omega), decide_eq_true ha, decide_eq_true hc, decide_eq_true q5, nI_clamp (by omega), nI_clamp (by omega)]
    simp
  rw [hT] at h
  refine ⟨in_N (by omega) (by omega), ⟨fun q6 => ⟨fun q7 => ?_, fun q7 => ?_⟩, fun q6 => ?_⟩⟩
  · rw [nI_clamp (by omega)] at q6
    have := (sb_ask (by omega) _).mp q6
    rw [hN.2.2.2.2.1, cb_60] at q7
    rw [hB] at this
    rw [this, decide_eq_true ((nI_ltI (by omega) (by omega)).mp q7)] at h
    exact h
  · rw [hN.2.2.2.2.1, cb_60] at q7
    rw [decide_eq_false (fun z => q7 (nI_lt z (by omega)))] at h
    simpa using h
  · rw [nI_clamp (by omega)] at q6
    cases hq : adj es a c with
    | false => rw [hq] at hB; exact absurd ((sb_ask (by omega) _).mpr hB) q6
    | true => rw [hq] at h; exact h
theorem net_full (hb : fl_net b) (hN : NetR W b V es) (h : Q (some (.int (if decide (3 ≤ V ∧ es.length = 3 * V - 6) then 1 else 0))) W) : fl_cal (d + 1) 53 [.ref b] W Q := by
  have hV := hN.1
  have hE := hN.2.1
  refine sx_53 b W hb ?_
  rw [hN.2.2.2.1, hN.2.2.2.2.1, ci_3, cb_6]
  refine ⟨fun q => ?_, fun q => ?_⟩
  · rw [nI_ltI (by omega) (by omega)] at q
    rw [decide_eq_false (by omega)] at h; exact h
  · rw [nI_ltI (by omega) (by omega)] at q
    rw [pk_mul, pk_sub (by omega)]
    refine ⟨fun e => ?_, fun e => ?_⟩
    · rw [nI_eq (by omega) (by omega)] at e
      rw [decide_eq_true ⟨by omega, e⟩] at h; exact h
    · rw [nI_eq (by omega) (by omega)] at e
      rw [decide_eq_false (fun z => e z.2)] at h; exact h
/-! adding an edge, taking one away -/
theorem okE_add {u v : Nat} (hO : okE V es) (hu : u < V) (hv : v < V) (huv : u ≠ v) (hn : adj es u v = false) : okE V (es ++ [(min u v, max u v)]) := by
  refine ⟨fun p hp => ?_, ?_⟩
  · rcases List.mem_append.mp hp with q | q
    · exact hO.1 p q
    · rw [List.mem_singleton.mp q]
      show min u v < max u v ∧ max u v < V
      omega
  · rw [List.nodup_append]
    refine ⟨hO.2, by simp, fun p hp q hq e => ?_⟩
    rw [List.mem_singleton.mp hq] at e
    subst e
    have : adj es u v = true := by
      rw [adj_iff]
      rcases Nat.lt_or_ge u v with h | h
      · left; rwa [Nat.min_eq_left (by omega), Nat.max_eq_right (by omega)] at hp
      · right; rwa [Nat.min_eq_right (by omega), Nat.max_eq_left (by omega)] at hp
    rw [hn] at this
    cases this
theorem adj_mm {u v i j : Nat} : adj [(min u v, max u v)] i j = (decide (i = u ∧ j = v) || decide (i = v ∧ j = u)) := by
  rw [adj_one, Bool.eq_iff_iff]
  simp only [Bool.or_eq_true, Bool.and_eq_true, beq_iff_eq, decide_eq_true_eq]
  omega
theorem net_addNo {u v : Int32} (hb : fl_net b) (hN : NetR W b V es) (ht : tkB V es u v = false) (h : Q none W) : fl_cal (d + 2) 50 [.ref b, .int u, .int v] W Q := by
  refine sx_50 b u v W hb (net_takes hb hN ?_)
  rw [ht]
  exact ⟨fun _ => h, fun q => absurd rfl q⟩
theorem tkB_N {u v : Nat} (hu : u < 2 ^ 31) (hv : v < 2 ^ 31) : tkB V es (nI u) (nI v) = (decide (u < V) && decide (v < V) && decide (u ≠ v) && !adj es u v && decide (es.length < 60)) := by
  rw [tkB, ixB_N hu, ixB_N hv, nI_clamp hu, nI_clamp hv]
  congr 3
  rw [Bool.eq_iff_iff, decide_eq_true_iff, decide_eq_true_iff, Ne, nI_eq hu hv]
theorem net_add {u v : Nat} (hb : fl_net b) (hN : NetR W b V es) (hu : u < V) (hv : v < V) (huv : u ≠ v) (hn : adj es u v = false) (hl : es.length < 60) (h : ∀ W', NetR W' b V (es ++ [(min u v, max u v)]) → EqX (nl b) W W' → Q none W') : fl_cal (d + 2) 50 [.ref b, .int (nI u), .int (nI v)] W Q := by
  have hV := hN.1
  have h4 := hN.2.2.2.2.1
  refine sx_50 b _ _ W hb (net_takes hb hN ?_)
  rw [tkB_N (by omega) (by omega), decide_eq_true hu, decide_eq_true hv, decide_eq_true huv, hn, decide_eq_true hl]
  refine ⟨fun q => absurd q (by decide), fun _ => ⟨by rw [h4]; exact in_N hl (by omega), fun W2 e2 => ?_⟩⟩
  rw [h4, nI_clamp (by omega)] at e2
  have hW2 : W2 b = W b := by rw [e2]; exact uw_n (by omega)
  refine ⟨by rw [hW2, h4]; exact in_N hl (by omega), fun W3 e3 => ⟨in_N (by omega) (by omega), st_bit ⟨in_N (by omega) (by omega), fun W5 e5 => ⟨in_N (by omega) (by omega), st_bit ⟨in_N (by omega) (by omega), fun W7 e7 W8 e8 => ?_⟩⟩⟩⟩⟩
  rw [hW2, h4, nI_clamp (by omega)] at e3
  rw [nI_clamp (by omega)] at e5
  rw [nI_clamp (by omega)] at e7
  have f2 : EqX (nl b) W W2 := by rw [e2]; exact EqX.uw (by simp [nl])
  have f3 : EqX (nl b) W2 W3 := by rw [e3]; exact EqX.uw (by simp [nl])
  have f5 : EqX (nl b) W3 W5 := by rw [e5]; exact EqX.uw (by simp [nl])
  have f7 : EqX (nl b) W5 W7 := by rw [e7]; exact EqX.uw (by simp [nl])
  have f8 : EqX (nl b) W7 W8 := by rw [e8]; exact EqX.uw (by simp [nl])
  have a7 : W7 b = W b := by rw [e7, uw_n (by omega), e5, uw_n (by omega), e3, uw_n (by omega), hW2]
  rw [a7, h4, ci_1, nI_add] at e8
  have hmin : (if nI v < nI u then nI v else nI u) = nI (min u v) := by
    by_cases q : v < u
    · rw [if_pos (nI_lt q (by omega)), Nat.min_eq_right (by omega)]
    · rw [if_neg (nI_nlt (by omega) (by omega)), Nat.min_eq_left (by omega)]
  have hmax : (if nI u < nI v then nI v else nI u) = nI (max u v) := by
    by_cases q : u < v
    · rw [if_pos (nI_lt q (by omega)), Nat.max_eq_right (by omega)]
    · rw [if_neg (nI_nlt (by omega) (by omega)), Nat.max_eq_left (by omega)]
  rw [hmin] at e2
  rw [hmax] at e3
  have b1 : W8 (b + 1) = upd (W (b + 1)) es.length (nI (min u v)) := by
    rw [e8, uw_n (by omega), e7, uw_n (by omega), e5, uw_n (by omega), e3, uw_n (by omega), e2]
    simp [fl_uw]
  have b2 : W8 (b + 2) = upd (W (b + 2)) es.length (nI (max u v)) := by
    rw [e8, uw_n (by omega), e7, uw_n (by omega), e5, uw_n (by omega), e3]
    simp only [fl_uw, if_true]
    rw [e2, uw_n (by omega)]
  have n3 : W3 (b + 3) = W (b + 3) := by rw [e3, uw_n (by omega), e2, uw_n (by omega)]
  have b3 : ∀ i, i < 20 → BS (W8 (b + 3) i) (adj (es ++ [(min u v, max u v)]) i) := by
    intro i hi
    have g := hN.2.2.2.2.2.2
    have key : ∀ j, adj (es ++ [(min u v, max u v)]) i j = (adj es i j || (decide (i = u ∧ j = v) || decide (i = v ∧ j = u))) := fun j => by rw [adj_app, adj_mm]
    rw [e8, uw_n (by omega), e7]
    by_cases hiv : i = v
    · subst hiv
      rw [uw_s, e5, uw_m (by omega), n3]
      refine ((g i hi).or (BS.bit (by omega))).congr fun j hj => ?_
      rw [key]
      simp [huv.symm]
    · rw [uw_m hiv, e5]
      by_cases hiu : i = u
      · subst hiu
        rw [uw_s, n3]
        refine ((g i hi).or (BS.bit (by omega))).congr fun j hj => ?_
        rw [key]
        simp [huv]
      · rw [uw_m hiu, n3]
        refine (g i hi).congr fun j hj => ?_
        rw [key]
        simp [hiu, hiv]
  refine h W8 ⟨hV, by simp; omega, okE_add hN.2.2.1 hu hv huv hn, ?_, ?_, fun i p hp => ?_, b3⟩ ((((f2.tr f3).tr f5).tr f7).tr f8)
  · rw [e8, uw_m (by omega), a7]; exact hN.2.2.2.1
  · rw [e8, uw_s]; simp
  · rw [b1, b2]
    by_cases hi : i = es.length
    · subst hi
      rw [List.getElem?_concat_length] at hp
      cases hp
      simp [upd]
    · have hl2 := (List.getElem?_eq_some_iff.mp hp).1
      simp only [List.length_append, List.length_singleton] at hl2
      rw [List.getElem?_append_left (by omega)] at hp
      simp only [upd, hi, if_false]
      exact hN.2.2.2.2.2.1 i p hp
end NET
end
section
/-! ===== a net: taking away, copying, all around ===== -/
theorem nd_split {es : gE} {e : Nat} {p : Nat × Nat} (hp : es[e]? = some p) : es = es.take e ++ p :: es.drop (e + 1) := by
  obtain ⟨h1, h2⟩ := List.getElem?_eq_some_iff.mp hp
  rw [← h2, ← List.drop_eq_getElem_cons h1, List.take_append_drop]
theorem mem_erase {es : gE} (hn : es.Nodup) {e : Nat} {p q : Nat × Nat} (hp : es[e]? = some p) : q ∈ es.eraseIdx e ↔ q ∈ es ∧ q ≠ p := by
  rw [List.eraseIdx_eq_take_drop_succ]
  have hs := nd_split hp
  generalize es.take e = l1 at hs ⊢
  generalize es.drop (e + 1) = l2 at hs ⊢
  subst hs
  rw [List.nodup_append] at hn
  obtain ⟨n1, n2, n3⟩ := hn
  rw [List.nodup_cons] at n2
  simp only [List.mem_append, List.mem_cons]
  constructor
  · rintro (h | h)
    · exact ⟨Or.inl h, n3 q h p List.mem_cons_self⟩
    · exact ⟨Or.inr (Or.inr h), fun z => n2.1 (z ▸ h)⟩
  · rintro ⟨h | h | h, z⟩
    · exact Or.inl h
    · exact absurd h z
    · exact Or.inr h
theorem adj_erase {V : Nat} {es : gE} (hO : okE V es) {e : Nat} {p : Nat × Nat} (hp : es[e]? = some p) (i j : Nat) : adj (es.eraseIdx e) i j = (adj es i j && !(decide (i = p.1 ∧ j = p.2) || decide (i = p.2 ∧ j = p.1))) := by
  have hm := hO.1 p (List.mem_of_getElem? hp)
  obtain ⟨a, b⟩ := p
  rw [Bool.eq_iff_iff]
  simp only [Bool.and_eq_true, Bool.not_eq_true', Bool.or_eq_false_iff, decide_eq_false_iff_not, adj_iff, mem_erase hO.2 hp, Ne, Prod.mk.injEq]
  constructor
  · rintro (⟨h1, h2⟩ | ⟨h1, h2⟩)
    · have := hO.1 _ h1
      refine ⟨Or.inl h1, h2, fun z => ?_⟩
      simp only at hm this
      omega
    · have := hO.1 _ h1
      refine ⟨Or.inr h1, fun z => ?_, fun z => h2 ⟨z.2, z.1⟩⟩
      simp only at hm this
      omega
  · rintro ⟨h1 | h1, h2, h3⟩
    · exact Or.inl ⟨h1, h2⟩
    · exact Or.inr ⟨h1, fun z => h3 ⟨z.2, z.1⟩⟩
theorem okE_erase {V : Nat} {es : gE} (hO : okE V es) (e : Nat) : okE V (es.eraseIdx e) :=
  ⟨fun p hp => hO.1 p ((List.eraseIdx_sublist es e).subset hp), hO.2.sublist (List.eraseIdx_sublist es e)⟩
theorem okE_sub {V : Nat} {es fs : gE} (hO : okE V es) (h : fs.Sublist es) : okE V fs := ⟨fun p hp => hO.1 p (h.subset hp), hO.2.sublist h⟩
/-- an edge of a graph isn't among those ahead of it -/
theorem adj_ahead {V : Nat} {es l1 l2 : gE} {p : Nat × Nat} (hO : okE V es) (h : es = l1 ++ p :: l2) : adj l1 p.1 p.2 = false := by
  cases hq : adj l1 p.1 p.2 with
  | false => rfl
  | true =>
    exfalso
    subst h
    have hm := hO.1 p (by simp)
    have hn := hO.2
    rw [List.nodup_append] at hn
    rcases adj_iff.mp hq with z | z
    · exact hn.2.2 _ z p List.mem_cons_self rfl
    · have := hO.1 _ (List.mem_append_left _ z)
      simp only at this
      omega
section NET2
variable {d : Nat} {Q : fl_R} {b : Nat} {W : fl_W} {V : Nat} {es : gE}
/-- adding an edge as it stands in a list -/
theorem net_addE {p : Nat × Nat} (hb : fl_net b) (hN : NetR W b V es) (hp : p.1 < p.2 ∧ p.2 < V) (hn : adj es p.1 p.2 = false) (hl : es.length < 60) (h : ∀ W', NetR W' b V (es ++ [p]) → EqX (nl b) W W' → Q none W') : fl_cal (d + 2) 50 [.ref b, .int (nI p.1), .int (nI p.2)] W Q := by
  refine net_add hb hN (by omega) hp.2 (by omega) hn hl fun W' g1 g2 => h W' ?_ g2
  rwa [Nat.min_eq_left (by omega), Nat.max_eq_right (by omega)] at g1
theorem net_rem_l {m : Nat} (hb : fl_net b) (hm : m < 60) : ∀ (n i : Nat) (W : fl_W), m - i = n → i ≤ m → W b 4 = nI m → (∀ W', (∀ j, j < i → W' (b + 1) j = W (b + 1) j ∧ W' (b + 2) j = W (b + 2) j) → (∀ j, i ≤ j → j < m → W' (b + 1) j = W (b + 1) (j + 1) ∧ W' (b + 2) j = W (b + 2) (j + 1)) → EqX [b + 1, b + 2] W W' → Q none W') → hd_51_66 d Q b (nI i) W := by
  intro n
  induction n with
  | zero =>
    intro i W h1 h2 h4 h
    refine sx_51_66 b _ W hb ⟨fun q => absurd q ?_, fun _ => h W (fun _ _ => ⟨rfl, rfl⟩) (fun j _ _ => by omega) EqX.rf⟩
    rw [h4]; exact nI_nlt (by omega) (by omega)
  | succ n ih =>
    intro i W h1 h2 h4 h
    have e1 : nI i + Int32.ofInt 1 = nI (i + 1) := by rw [ci_1, nI_add]
    refine sx_51_66 b _ W hb ⟨fun _ => ?_, fun q => absurd ?_ q⟩
    · rw [e1]
      refine ⟨in_N (by omega) (by omega), in_N (by omega) (by omega), fun W7 e7 => ⟨in_N (by omega) (by omega), in_N (by omega) (by omega), fun W8 e8 => ?_⟩⟩
      rw [nI_clamp (by omega), nI_clamp (by omega)] at e7
      rw [nI_clamp (by omega), nI_clamp (by omega)] at e8
      have a1 : ∀ j, W8 (b + 1) j = if j = i then W (b + 1) (i + 1) else W (b + 1) j := by
        intro j
        rw [e8, uw_n (by omega), e7]
        by_cases hj : j = i
        · subst hj; rw [uw_s, if_pos rfl]
        · rw [uw_m hj, if_neg hj]
      have a2 : ∀ j, W8 (b + 2) j = if j = i then W (b + 2) (i + 1) else W (b + 2) j := by
        intro j
        rw [e8]
        by_cases hj : j = i
        · subst hj; rw [uw_s, if_pos rfl, e7, uw_n (by omega)]
        · rw [uw_m hj, if_neg hj, e7, uw_n (by omega)]
      have f : EqX [b + 1, b + 2] W W8 := by rw [e8, e7]; exact (EqX.uw (by simp)).tr (EqX.uw (by simp))
      refine ih (i + 1) W8 (by omega) (by omega) (by rw [f b (by simp)]; exact h4) fun W' g1 g2 g3 => h W' (fun j hj => ?_) (fun j hj1 hj2 => ?_) (f.tr g3)
      · have := g1 j (by omega)
        rw [a1, a2, if_neg (by omega), if_neg (by omega)] at this
        exact this
      · rcases Nat.lt_or_ge i j with q | q
        · have := g2 j q hj2
          rw [a1, a2, if_neg (by omega), if_neg (by omega)] at this
          exact this
        · have hji : j = i := by omega
          subst hji
          have := g1 j (by omega)
          rw [a1, a2, if_pos rfl, if_pos rfl] at this
          exact this
    · rw [h4]; exact nI_lt (by omega) (by omega)
theorem net_rem {e : Nat} {p : Nat × Nat} (hb : fl_net b) (hN : NetR W b V es) (hp : es[e]? = some p) (h : ∀ W', NetR W' b V (es.eraseIdx e) → EqX (nl b) W W' → Q none W') : fl_cal (d + 2) 51 [.ref b, .int (nI e)] W Q := by
  have hV := hN.1
  have hE := hN.2.1
  have h4 := hN.2.2.2.2.1
  have hi := (List.getElem?_eq_some_iff.mp hp).1
  have hpp := hN.2.2.1.1 p (List.mem_of_getElem? hp)
  obtain ⟨c1, c2⟩ := hN.2.2.2.2.2.1 e p hp
  refine sx_51 b _ W hb (net_hasE hb hN ?_)
  rw [ixB_N (by omega), decide_eq_true hi]
  refine ⟨fun q => absurd q (by decide), fun _ => ?_⟩
  simp only [nI_clamp (show e < 2 ^ 31 by omega), c1, c2, nI_clamp (show p.1 < 2 ^ 31 by omega), nI_clamp (show p.2 < 2 ^ 31 by omega)]
  refine ⟨in_N (by omega) (by omega), in_N (by omega) (by omega), in_N (by omega) (by omega), st_bit ⟨in_N (by omega) (by omega), fun W3 e3 => ⟨in_N (by omega) (by omega), st_bit ⟨in_N (by omega) (by omega), fun W5 e5 W6 e6 => ?_⟩⟩⟩⟩
  have a5 : W5 b = W b := by rw [e5, uw_n (by omega), e3, uw_n (by omega)]
  rw [a5, h4, ci_1, pk_sub (by omega)] at e6
  have f : EqX (nl b) W W6 := by
    rw [e6, e5, e3]
    exact ((EqX.uw (by simp [nl])).tr (EqX.uw (by simp [nl]))).tr (EqX.uw (by simp [nl]))
  have l1 : W6 (b + 1) = W (b + 1) := by rw [e6, uw_n (by omega), e5, uw_n (by omega), e3, uw_n (by omega)]
  have l2 : W6 (b + 2) = W (b + 2) := by rw [e6, uw_n (by omega), e5, uw_n (by omega), e3, uw_n (by omega)]
  have l3 : ∀ i, i < 20 → BS (W6 (b + 3) i) (adj (es.eraseIdx e) i) := by
    intro i hi20
    have g := hN.2.2.2.2.2.2
    rw [e6, uw_n (by omega), e5]
    by_cases hiv : i = p.2
    · subst hiv
      rw [uw_s, e3, uw_m (by omega)]
      refine ((g _ hi20).and (BT.not (BS.bit (by omega)).lo)).congr fun j hj => ?_
      rw [adj_erase hN.2.2.1 hp]
      have : ¬ p.2 = p.1 := by omega
      simp [this]
    · rw [uw_m hiv, e3]
      by_cases hiu : i = p.1
      · subst hiu
        rw [uw_s]
        refine ((g _ hi20).and (BT.not (BS.bit (by omega)).lo)).congr fun j hj => ?_
        rw [adj_erase hN.2.2.1 hp]
        have : ¬ p.1 = p.2 := by omega
        simp [this]
      · rw [uw_m hiu]
        refine (g _ hi20).congr fun j hj => ?_
        rw [adj_erase hN.2.2.1 hp]
        simp [hiu, hiv]
  refine net_rem_l hb (m := es.length - 1) (by omega) _ e W6 rfl (by omega) (by rw [e6, uw_s]) fun W' g1 g2 g3 => h W' ⟨hV, ?_, okE_erase hN.2.2.1 e, ?_, ?_, fun i q hq => ?_, fun v hv => ?_⟩ (f.tr (g3.mono (by simp [nl])))
  · rw [List.length_eraseIdx]; split <;> omega
  · rw [g3 b (by simp), e6, uw_m (by omega), a5]; exact hN.2.2.2.1
  · rw [g3 b (by simp), e6, uw_s, List.length_eraseIdx, if_pos hi]
  · rw [List.getElem?_eraseIdx] at hq
    by_cases hie : i < e
    · rw [if_pos hie] at hq
      rw [(g1 i hie).1, (g1 i hie).2, l1, l2]
      exact hN.2.2.2.2.2.1 i q hq
    · rw [if_neg hie] at hq
      have hl := (List.getElem?_eq_some_iff.mp hq).1
      have := g2 i (by omega) (by omega)
      rw [this.1, this.2, l1, l2]
      exact hN.2.2.2.2.2.1 (i + 1) q hq
  · rw [g3 (b + 3) (by simp)]
    exact l3 v hv
theorem net_copy_l {b2 : Nat} {fs : gE} (hb : fl_net b) (hb2 : fl_net b2) (hne : b ≠ b2) : ∀ (n i : Nat) (W : fl_W), fs.length - i = n → i ≤ fs.length → NetR W b2 V fs → NetR W b V (fs.take i) → (∀ W', NetR W' b V fs → EqX (nl b) W W' → Q none W') → hd_41_10 (d + 2) Q b b2 (nI i) W := by
  have hdis := net_dis hb2 hb (Ne.symm hne)
  intro n
  induction n with
  | zero =>
    intro i W h1 h2 hS hN h
    have := hS.2.1
    refine sx_41_10 b b2 _ W hb hb2 ⟨fun q => absurd q ?_, fun _ => h W ?_ EqX.rf⟩
    · rw [hS.2.2.2.2.1]; exact nI_nlt (by omega) (by omega)
    · rwa [List.take_of_length_le (by omega)] at hN
  | succ n ih =>
    intro i W h1 h2 hS hN h
    have := hS.2.1
    have hi : i < fs.length := by omega
    have hp := List.getElem?_eq_getElem hi
    refine sx_41_10 b b2 _ W hb hb2 ⟨fun _ => ?_, fun q => absurd ?_ q⟩
    · refine net_low hb2 hS hp (net_high hb2 hS hp (net_addE hb hN (hS.2.2.1.1 _ (List.mem_of_getElem? hp)) (adj_ahead hS.2.2.1 (nd_split hp)) (by simp; omega) fun W' g1 g2 => ?_))
      show hd_41_10 (d + 2) Q b b2 (nI i + Int32.ofInt 1) W'
      rw [ci_1, nI_add]
      refine ih (i + 1) W' (by omega) (by omega) (hS.fr g2 hdis) ?_ fun W'' k1 k2 => h W'' k1 (g2.tr k2)
      rwa [List.take_succ_eq_append_getElem hi]
    · rw [hS.2.2.2.2.1]; exact nI_lt hi (by omega)
theorem net_copy {b2 : Nat} {fs : gE} (hb : fl_net b) (hb2 : fl_net b2) (hne : b ≠ b2) (hS : NetR W b2 V fs) (h : ∀ W', NetR W' b V fs → EqX (nl b) W W' → Q none W') : fl_cal (d + 3) 41 [.ref b, .ref b2] W Q := by
  have hdis := net_dis hb2 hb (Ne.symm hne)
  refine sx_41 b b2 W hb hb2 ?_
  rw [hS.2.2.2.1]
  refine net_begin hb hS.1 fun W' g1 g2 => ?_
  exact net_copy_l hb hb2 hne fs.length 0 W' (by simp) (Nat.zero_le _) (hS.fr g2 hdis) (by simpa using g1) fun W'' k1 k2 => h W'' k1 (g2.tr k2)
/-- all neighbours of a set -/
def arnd (es : gE) (p : Nat → Bool) (n : Nat) (i : Nat) : Bool := (List.range n).any fun v => p v && adj es v i
theorem arnd_succ {p : Nat → Bool} {n i : Nat} : arnd es p (n + 1) i = (arnd es p n i || (p n && adj es n i)) := by
  unfold arnd
  rw [List.range_succ, List.any_append]
  simp
theorem net_all_l {p : Nat → Bool} {x : Int32} (hb : fl_net b) (hN : NetR W b V es) (hx : BT x p) : ∀ (n i : Nat) (y : Int32), V - i = n → i ≤ V → BS y (arnd es p i) → (∀ z, BS z (arnd es p V) → Q (some (.int z)) W) → hd_47_4 d Q b x y (nI i) W := by
  have hV := hN.1
  intro n
  induction n with
  | zero =>
    intro i y h1 h2 hy h
    refine sx_47_4 b _ _ _ W hb ⟨fun q => absurd q ?_, fun _ => h y ?_⟩
    · rw [hN.2.2.2.1]; exact nI_nlt (by omega) (by omega)
    · rwa [show i = V by omega] at hy
  | succ n ih =>
    intro i y h1 h2 hy h
    have e1 : nI i + Int32.ofInt 1 = nI (i + 1) := by rw [ci_1, nI_add]
    refine sx_47_4 b _ _ _ W hb ⟨fun _ => ⟨fun q => ?_, fun q => ?_⟩, fun q => absurd ?_ q⟩
    · rw [e1]
      refine ih (i + 1) y (by omega) (by omega) (hy.congr fun j hj => ?_) h
      have := (sb_ask (by omega) x).mp q
      rw [hx i (by omega)] at this
      rw [arnd_succ, this]
      simp
    · refine ⟨in_N (by omega) (by omega), ?_⟩
      rw [e1, nI_clamp (by omega)]
      refine ih (i + 1) _ (by omega) (by omega) ((hy.or (hN.2.2.2.2.2.2 i (by omega))).congr fun j hj => ?_) h
      have : p i = true := by
        cases hq : p i with
        | true => rfl
        | false => rw [← hx i (by omega)] at hq; exact absurd ((sb_ask (by omega) x).mpr hq) q
      rw [arnd_succ, this]
      simp
    · rw [hN.2.2.2.1]; exact nI_lt (by omega) (by omega)
theorem net_all {p : Nat → Bool} {x : Int32} (hb : fl_net b) (hN : NetR W b V es) (hx : BT x p) (h : ∀ z, BS z (arnd es p V) → Q (some (.int z)) W) : fl_cal (d + 1) 47 [.ref b, .int x] W Q :=
  sx_47 b x W hb (net_all_l hb hN hx V 0 _ (by omega) (Nat.zero_le _) (BS.zero.congr fun i _ => by simp [arnd]) h)
def lonB (es : gE) (v : Nat) : Bool := (List.range 20).all fun j => !adj es v j
theorem net_lon_l (hb : fl_net b) (hN : NetR W b V es) : ∀ (n i : Nat), V - i = n → i ≤ V → Q (some (.int (nI (cnt (lonB es) V)))) W → hd_52_4 d Q b (nI (cnt (lonB es) i)) (nI i) W := by
  have hV := hN.1
  intro n
  induction n with
  | zero =>
    intro i h1 h2 h
    refine sx_52_4 b _ _ W hb ⟨fun q => absurd q ?_, fun _ => ?_⟩
    · rw [hN.2.2.2.1]; exact nI_nlt (by omega) (by omega)
    · rwa [show i = V by omega]
  | succ n ih =>
    intro i h1 h2 h
    have e1 : nI i + Int32.ofInt 1 = nI (i + 1) := by rw [ci_1, nI_add]
    have hz := (hN.2.2.2.2.2.2 i (by omega)).z
    have hl : (lonB es i = true) ↔ W (b + 3) i = 0 := by
      rw [hz, lonB, List.all_eq_true]
      constructor
      · intro z j hj
        simpa using z j (List.mem_range.mpr hj)
      · intro z j hj
        simpa using z j (List.mem_range.mp hj)
    refine sx_52_4 b _ _ W hb ⟨fun _ => ⟨in_N (by omega) (by omega), ⟨fun q => ?_, fun q => ?_⟩⟩, fun q => absurd ?_ q⟩
    · rw [nI_clamp (by omega)] at q
      have := ih (i + 1) (by omega) (by omega) h
      rw [cnt, hl.mpr q] at this
      rw [e1, ci_1, nI_add]
      exact this
    · rw [nI_clamp (by omega)] at q
      have := ih (i + 1) (by omega) (by omega) h
      rw [cnt, if_neg (fun z => q (hl.mp z))] at this
      rw [e1]
      exact this
    · rw [hN.2.2.2.1]; exact nI_lt (by omega) (by omega)
theorem net_lon (hb : fl_net b) (hN : NetR W b V es) (h : Q (some (.int (nI (cnt (lonB es) V)))) W) : fl_cal (d + 1) 52 [.ref b] W Q :=
  sx_52 b W hb (net_lon_l hb hN V 0 (by omega) (Nat.zero_le _) h)
end NET2
end
section
/-! ===== a turning: around each vertex a list ===== -/
def nL (l : List Nat) : List Int32 := l.map nI
theorem nL_len {l : List Nat} : (nL l).length = l.length := by simp [nL]
theorem nL_at {l : List Nat} {i x : Nat} (h : l[i]? = some x) : (nL l)[i]? = some (nI x) := by simp [nL, h]
theorem nL_app {l l' : List Nat} : nL (l ++ l') = nL l ++ nL l' := by simp [nL]
theorem nL_get {l : List Nat} {n : Nat} (hn : n < 2 ^ 31) (h : n < l.length) : getI (nL l) (nI n) = nI (l[n]'h) := getI_at hn (nL_at (List.getElem?_eq_getElem h))
theorem nL_getNo {l : List Nat} {i : Int32} (hl : l.length < 2 ^ 31) (h : ixB i l.length = false) : getI (nL l) i = -1 := by
  rw [getI]
  split
  · rfl
  · rename_i q
    obtain ⟨n, hn, rfl⟩ := i_nonneg q
    rw [ixB_N hn, decide_eq_false_iff_not] at h
    rw [nI_clamp hn, List.getD_eq_getElem?_getD, List.getElem?_eq_none (by rw [nL_len]; omega)]
    rfl
theorem fndF_in : ∀ {l : List Nat} {x i : Nat}, x < 2 ^ 31 → (∀ y ∈ l, y < 2 ^ 31) → x ∈ l → fndF (nL l) (nI x) i = nI (i + l.idxOf x)
  | [], x, i, _, _, h => absurd h List.not_mem_nil
  | y :: l, x, i, hx, hl, h => by
    show (if nI y = nI x then nI i else fndF (nL l) (nI x) (i + 1)) = _
    by_cases e : y = x
    · subst e
      rw [if_pos rfl, List.idxOf_cons_self, Nat.add_zero]
    · have hy := hl y List.mem_cons_self
      rw [if_neg (nI_ne hy hx e), fndF_in hx (fun z hz => hl z (List.mem_cons_of_mem _ hz)) ((List.mem_cons.mp h).resolve_left (Ne.symm e)), show (y :: l).idxOf x = l.idxOf x + 1 by rw [List.idxOf_cons, show (y == x) = false by simpa using e]; rfl, Nat.add_right_comm, Nat.add_assoc]
theorem fndF_no : ∀ {l : List Nat} {x i : Nat}, x < 2 ^ 31 → (∀ y ∈ l, y < 2 ^ 31) → x ∉ l → fndF (nL l) (nI x) i = -1
  | [], x, i, _, _, h => rfl
  | y :: l, x, i, hx, hl, h => by
    show (if nI y = nI x then nI i else fndF (nL l) (nI x) (i + 1)) = _
    have e : y ≠ x := fun e => h (e ▸ List.mem_cons_self)
    rw [if_neg (nI_ne (hl y List.mem_cons_self) hx e), fndF_no hx (fun z hz => hl z (List.mem_cons_of_mem _ hz)) fun z => h (List.mem_cons_of_mem _ z)]
/-- what follows x in a ring -/
def nxtN (l : List Nat) (x : Nat) : Nat := l.getD (if l.idxOf x + 1 < l.length then l.idxOf x + 1 else 0) 0
def TurR (W : fl_W) (t : Nat) (R : Nat → List Nat) : Prop := ∀ v, v < 20 → RowR W (t + 2 + 2 * v) (nL (R v))
def tl (t : Nat) : List Nat := (List.range 40).map fun i => t + 2 + i
theorem mem_tl {t a : Nat} : a ∈ tl t ↔ t + 2 ≤ a ∧ a < t + 42 := by
  unfold tl
  rw [List.mem_map]
  constructor
  · rintro ⟨i, hi, rfl⟩
    have := List.mem_range.mp hi
    omega
  · intro h
    exact ⟨a - (t + 2), List.mem_range.mpr (by omega), by omega⟩
theorem TurR.fr {W W' : fl_W} {t : Nat} {R : Nat → List Nat} {l : List Nat} (h : TurR W t R) (hE : EqX l W W') (hd : ∀ a ∈ tl t, a ∉ l) : TurR W' t R :=
  fun v hv => (h v hv).fr hE (hd _ (mem_tl.mpr (by omega))) (hd _ (mem_tl.mpr (by omega)))
theorem tur_row {t v : Nat} (ht : fl_tur t) (hv : v < 20) : fl_row (t + 2 + 2 * v) := ((fl_tur_all t (fl_lt ht) ht).2.2 v hv).1
theorem tur_bases : ∀ t, t < 280 → fl_isb t 9 = true → t = 18 ∨ t = 160 := by decide +kernel
section TUR
variable {d : Nat} {Q : fl_R} {t : Nat} {W : fl_W} {R : Nat → List Nat}
theorem tur_clear_l (ht : fl_tur t) : ∀ (n i : Nat) (W : fl_W), 20 - i = n → i ≤ 20 → (∀ v, v < i → RowR W (t + 2 + 2 * v) []) → (∀ W', TurR W' t (fun _ => []) → EqX (tl t) W W' → Q none W') → hd_84_2 (d + 1) Q t (nI i) W := by
  intro n
  induction n with
  | zero =>
    intro i W h1 h2 hR h
    refine sx_84_2 t _ W ht ⟨fun q => absurd q ?_, fun _ => h W (fun v hv => hR v (by omega)) EqX.rf⟩
    rw [cb_20]; exact nI_nlt (by omega) (by omega)
  | succ n ih =>
    intro i W h1 h2 hR h
    refine sx_84_2 t _ W ht ⟨fun _ => ⟨in_N (by omega) (by omega), ?_⟩, fun q => absurd ?_ q⟩
    · rw [nI_clamp (by omega)]
      have hri := tur_row ht (v := i) (by omega)
      refine row_clear hri fun W' g1 g2 => ?_
      show hd_84_2 (d + 1) Q t (nI i + Int32.ofInt 1) W'
      rw [ci_1, nI_add]
      refine ih (i + 1) W' (by omega) (by omega) (fun v hv => ?_) fun W'' k1 k2 => h W'' k1 ((g2.mono fun a ha => ?_).tr k2)
      · by_cases hvi : v = i
        · subst hvi; exact g1
        · refine (hR v (by omega)).fr g2 ?_ ?_ <;> simp <;> omega
      · rw [mem_tl]; simp at ha; omega
    · rw [cb_20]; exact nI_lt (by omega) (by omega)
theorem tur_clear (ht : fl_tur t) (h : ∀ W', TurR W' t (fun _ => []) → EqX (tl t) W W' → Q none W') : fl_cal (d + 2) 84 [.ref t] W Q :=
  sx_84 t W ht (tur_clear_l ht 20 0 W rfl (by omega) (fun v hv => by omega) h)
theorem tur_copy_l {s : Nat} (ht : fl_tur t) (hs : fl_tur s) (hts : t ≠ s) (hlen : ∀ v, v < 20 → (R v).length ≤ 20) : ∀ (n i : Nat) (W : fl_W), 20 - i = n → i ≤ 20 → TurR W s R → (∀ v, v < i → RowR W (t + 2 + 2 * v) (nL (R v))) → (∀ W', TurR W' t R → EqX (tl t) W W' → Q none W') → hd_85_2 (d + 2) Q t s (nI i) W := by
  have hb1 := tur_bases t (fl_lt ht) ht
  have hb2 := tur_bases s (fl_lt hs) hs
  intro n
  induction n with
  | zero =>
    intro i W h1 h2 hS hR h
    refine sx_85_2 t s _ W ht hs ⟨fun q => absurd q ?_, fun _ => h W (fun v hv => hR v (by omega)) EqX.rf⟩
    rw [cb_20]; exact nI_nlt (by omega) (by omega)
  | succ n ih =>
    intro i W h1 h2 hS hR h
    refine sx_85_2 t s _ W ht hs ⟨fun _ => ⟨in_N (by omega) (by omega), in_N (by omega) (by omega), ?_⟩, fun q => absurd ?_ q⟩
    · rw [nI_clamp (by omega)]
      refine row_copy (tur_row ht (v := i) (by omega)) (tur_row hs (v := i) (by omega)) (by omega) (hS i (by omega)) ?_ fun W' g1 g2 => ?_
      · rw [nL_len, tu_cap ht (by omega)]; exact hlen i (by omega)
      · show hd_85_2 (d + 2) Q t s (nI i + Int32.ofInt 1) W'
        rw [ci_1, nI_add]
        refine ih (i + 1) W' (by omega) (by omega) (hS.fr g2 fun a ha => ?_) (fun v hv => ?_) fun W'' k1 k2 => h W'' k1 ((g2.mono fun a ha => ?_).tr k2)
        · rw [mem_tl] at ha; simp; omega
        · by_cases hvi : v = i
          · subst hvi; exact g1
          · refine (hR v (by omega)).fr g2 ?_ ?_ <;> simp <;> omega
        · rw [mem_tl]; simp at ha; omega
    · rw [cb_20]; exact nI_lt (by omega) (by omega)
theorem tur_copy {s : Nat} (ht : fl_tur t) (hs : fl_tur s) (hts : t ≠ s) (hS : TurR W s R) (hlen : ∀ v, v < 20 → (R v).length ≤ 20) (h : ∀ W', TurR W' t R → EqX (tl t) W W' → Q none W') : fl_cal (d + 3) 85 [.ref t, .ref s] W Q :=
  sx_85 t s W ht hs (tur_copy_l ht hs hts hlen 20 0 W rfl (by omega) hS (fun v hv => by omega) h)
theorem tur_add {v x : Nat} (ht : fl_tur t) (hR : TurR W t R) (hv : v < 20) (hl : (R v).length < 20) (h : ∀ W', TurR W' t (fun u => if u = v then R v ++ [x] else R u) → EqX (tl t) W W' → Q none W') : fl_cal (d + 2) 86 [.ref t, .int (nI v), .int (nI x)] W Q := by
  refine sx_86 t _ _ W ht (st_can ?_)
  rw [ixB_N (by omega), decide_eq_true hv]
  refine ⟨fun q => absurd q (by decide), fun _ => ⟨in_N hv (by omega), ?_⟩⟩
  rw [nI_clamp (by omega)]
  refine row_add (tur_row ht hv) (hR v hv) (by rw [nL_len, tu_cap ht hv]; exact hl) fun W' g1 g2 => h W' (fun u hu => ?_) (g2.mono fun a ha => ?_)
  · by_cases huv : u = v
    · subst huv
      show RowR W' _ (nL (if u = u then _ else _))
      rw [if_pos rfl, nL_app]
      exact g1
    · show RowR W' _ (nL (if u = v then _ else _))
      rw [if_neg huv]
      refine (hR u hu).fr g2 ?_ ?_ <;> simp <;> omega
  · rw [mem_tl]; simp at ha; omega
theorem tur_nb {v i : Int32} (ht : fl_tur t) (hR : TurR W t R) (h : Q (some (.int (if ixB v 20 then getI (nL (R v.toNatClampNeg)) i else -1))) W) : fl_cal (d + 2) 87 [.ref t, .int v, .int i] W Q := by
  refine sx_87 t _ _ W ht (st_can ?_)
  cases hv : ixB v 20 with
  | false =>
    rw [hv] at h
    exact ⟨fun _ => h, fun q => absurd rfl q⟩
  | true =>
    rw [hv] at h
    obtain ⟨n, hn, rfl⟩ := ixB_ex (by omega) hv
    refine ⟨fun q => absurd q (by decide), fun _ => ⟨in_N hn (by omega), ?_⟩⟩
    rw [nI_clamp (by omega)] at h ⊢
    exact row_get (tur_row ht hn) (hR n hn) h
theorem tur_exNo {v i k : Int32} (ht : fl_tur t) (hR : TurR W t R) (hn : ixB v 20 = false ∨ ¬ (vp_in i (R v.toNatClampNeg).length ∧ vp_in k (R v.toNatClampNeg).length)) (h : Q (some (.int 0)) W) : fl_cal (d + 2) 88 [.ref t, .int v, .int i, .int k] W Q := by
  refine sx_88 t _ _ _ W ht (st_can ?_)
  cases hv : ixB v 20 with
  | false => exact ⟨fun _ => h, fun q => absurd rfl q⟩
  | true =>
    have hn := hn.resolve_left (by rw [hv]; decide)
    obtain ⟨n, hn2, rfl⟩ := ixB_ex (by omega) hv
    refine ⟨fun q => absurd q (by decide), fun _ => ⟨in_N hn2 (by omega), ?_⟩⟩
    rw [nI_clamp (by omega)] at hn ⊢
    refine row_exch_no (tur_row ht hn2) (hR n hn2) (by rw [nL_len]; exact hn) ⟨fun _ => h, fun q => absurd rfl q⟩
theorem tur_ex {v a c x y : Nat} (ht : fl_tur t) (hR : TurR W t R) (hv : v < 20) (ha : (R v)[a]? = some x) (hc : (R v)[c]? = some y) (h : ∀ W', TurR W' t (fun u => if u = v then ((R v).set a y).set c x else R u) → EqX (tl t) W W' → Q (some (.int 1)) W') : fl_cal (d + 2) 88 [.ref t, .int (nI v), .int (nI a), .int (nI c)] W Q := by
  refine sx_88 t _ _ _ W ht (st_can ?_)
  rw [ixB_N (by omega), decide_eq_true hv]
  refine ⟨fun q => absurd q (by decide), fun _ => ⟨in_N hv (by omega), ?_⟩⟩
  rw [nI_clamp (by omega)]
  refine row_exch (tur_row ht hv) (hR v hv) (nL_at ha) (nL_at hc) fun W' g1 g2 => ⟨fun q => absurd q (by decide), fun _ => h W' (fun u hu => ?_) (g2.mono fun a ha => ?_)⟩
  · by_cases huv : u = v
    · subst huv
      show RowR W' _ (nL (if u = u then _ else _))
      rw [if_pos rfl]
      have e : nL (((R u).set a y).set c x) = ((nL (R u)).set a (nI y)).set c (nI x) := by simp [nL, List.map_set]
      rw [e]
      exact g1
    · show RowR W' _ (nL (if u = v then _ else _))
      rw [if_neg huv]
      refine (hR u hu).fr g2 ?_ ?_ <;> simp <;> omega
  · rw [mem_tl]; simp at ha; omega
theorem tur_behind {v x : Nat} (ht : fl_tur t) (hR : TurR W t R) (hv : v < 20) (hl : ∀ y ∈ R v, y < 20) (hx : x ∈ R v) (h : Q (some (.int (nI (nxtN (R v) x)))) W) : fl_cal (d + 2) 89 [.ref t, .int (nI v), .int (nI x)] W Q := by
  have hr := tur_row ht hv
  have hlen := (hR v hv).2.1
  rw [nL_len, tu_cap ht hv] at hlen
  have hi := List.idxOf_lt_length_of_mem hx
  refine sx_89 t _ _ W ht (st_can ?_)
  rw [ixB_N (by omega), decide_eq_true hv]
  refine ⟨fun q => absurd q (by decide), fun _ => ⟨in_N hv (by omega), ?_⟩⟩
  rw [nI_clamp (by omega)]
  refine row_find hr (hR v hv) ?_
  rw [fndF_in (by have := hl x hx; omega) (fun y hy => by have := hl y hy; omega) hx, Nat.zero_add]
  refine ⟨fun q => absurd q (nI_nm (by omega)), fun _ => ⟨in_N hv (by omega), in_N hv (by omega), ?_⟩⟩
  refine row_behind hr (hR v hv) ?_
  refine row_get hr (hR v hv) ?_
  rw [nL_len, show nI ((R v).idxOf x) + 1 = nI ((R v).idxOf x + 1) from nI_1 _]
  rw [nxtN] at h
  by_cases hq : (R v).idxOf x + 1 < (R v).length
  · rw [if_pos hq, List.getD_eq_getElem?_getD, List.getElem?_eq_getElem hq] at h
    rw [if_pos (nI_lt hq (by omega)), nL_get (by omega) hq]
    exact h
  · have h0 : 0 < (R v).length := by omega
    rw [if_neg hq, List.getD_eq_getElem?_getD, List.getElem?_eq_getElem h0] at h
    rw [if_neg (nI_nlt (by omega) (by omega)), cz_0, nL_get (by omega) h0]
    exact h
theorem tur_behindNo {v x : Nat} (ht : fl_tur t) (hR : TurR W t R) (hv : v < 20) (hx20 : x < 20) (hl : ∀ y ∈ R v, y < 20) (hx : x ∉ R v) (h : Q (some (.int (-1))) W) : fl_cal (d + 2) 89 [.ref t, .int (nI v), .int (nI x)] W Q := by
  refine sx_89 t _ _ W ht (st_can ?_)
  rw [ixB_N (by omega), decide_eq_true hv]
  refine ⟨fun q => absurd q (by decide), fun _ => ⟨in_N hv (by omega), ?_⟩⟩
  rw [nI_clamp (by omega)]
  refine row_find (tur_row ht hv) (hR v hv) ?_
  rw [fndF_no (by omega) (fun y hy => by have := hl y hy; omega) hx]
  exact ⟨fun _ => h, fun q => absurd rfl q⟩
end TUR
end
section
/-! ===== the rings ===== -/
def arcN : List Nat → Nat → List Nat
  | [], _ => []
  | z :: l, x => if z = x then [z] else z :: arcN l x
theorem arcL_N : ∀ {l : List Nat} {x : Nat}, x < 2 ^ 31 → (∀ y ∈ l, y < 2 ^ 31) → arcL (nL l) (nI x) = nL (arcN l x)
  | [], _, _, _ => rfl
  | y :: l, x, hx, hl => by
    show (if nI y = nI x then [nI y] else nI y :: arcL (nL l) (nI x)) = nL (if y = x then [y] else y :: arcN l x)
    by_cases e : y = x
    · rw [if_pos (by rw [e]), if_pos e]; rfl
    · rw [if_neg (nI_ne (hl y List.mem_cons_self) hx e), if_neg e, arcL_N hx fun z hz => hl z (List.mem_cons_of_mem _ hz)]
      rfl
theorem arcN_sub : ∀ {l : List Nat} {x : Nat}, (arcN l x).Sublist l
  | [], _ => List.Sublist.refl _
  | y :: l, x => by
    rw [arcN]
    split
    · exact List.Sublist.cons_cons _ (List.nil_sublist _)
    · exact List.Sublist.cons_cons _ arcN_sub
theorem arcN_len {l : List Nat} {x : Nat} : (arcN l x).length ≤ l.length := arcN_sub.length_le
/-- the ring from a on -/
def rotN (l : List Nat) (a : Nat) : List Nat := l.drop (l.idxOf a) ++ l.take (l.idxOf a)
theorem rotN_len {l : List Nat} {a : Nat} : (rotN l a).length = l.length := by simp [rotN]; omega
theorem mem_rotN {l : List Nat} {a x : Nat} : x ∈ rotN l a ↔ x ∈ l := by
  unfold rotN
  rw [List.mem_append]
  constructor
  · rintro (h | h)
    · exact List.mem_of_mem_drop h
    · exact List.mem_of_mem_take h
  · intro h
    rw [← List.take_append_drop (l.idxOf a) l, List.mem_append] at h
    exact h.symm
theorem bitsL_BS : ∀ {l : List Nat} {a : Int32} {p : Nat → Bool}, BS a p → (∀ x ∈ l, x < 20) → BS (bitsL (nL l) a) (fun v => p v || l.contains v)
  | [], a, p, h, _ => h.congr fun i _ => by simp
  | y :: l, a, p, h, hl => by
    have := bitsL_BS (l := l) (h.or (BS.bit (hl y List.mem_cons_self))) fun z hz => hl z (List.mem_cons_of_mem _ hz)
    refine BS.congr (x := bitsL (nL l) (a ||| bitI (nI y))) this fun i _ => ?_
    rw [List.contains_cons, Bool.or_assoc]
    congr 1
/-- whether a ring has all the feet -/
def fitB (q : Nat → Bool) (r : List Nat) : Bool := (List.range 20).all fun v => !q v || r.contains v
def fitF (q : Nat → Bool) : List (List Nat) → Nat → Option Nat
  | [], _ => none
  | r :: l, i => if fitB q r then some i else fitF q l (i + 1)
def optI : Option Nat → Int32
  | none => -1
  | some i => nI i
def RgR (W : fl_W) (rs : List (List Nat)) : Prop := rs.length ≤ 40 ∧ W 68 3 = nI rs.length ∧ ∀ i r, rs[i]? = some r → RowR W (73 + 2 * i) (nL r) ∧ BS (W 70 i) (fun v => r.contains v) ∧ ∀ x ∈ r, x < 20
def rgl : List Nat := 68 :: 70 :: (List.range 82).map fun i => 71 + i
theorem mem_rgl {a : Nat} : a ∈ rgl ↔ a = 68 ∨ a = 70 ∨ (71 ≤ a ∧ a < 153) := by
  unfold rgl
  rw [List.mem_cons, List.mem_cons, List.mem_map]
  constructor
  · rintro (h | h | ⟨i, hi, rfl⟩)
    · exact Or.inl h
    · exact Or.inr (Or.inl h)
    · have := List.mem_range.mp hi; omega
  · rintro (h | h | h)
    · exact Or.inl h
    · exact Or.inr (Or.inl h)
    · exact Or.inr (Or.inr ⟨a - 71, List.mem_range.mpr (by omega), by omega⟩)
theorem RgR.fr {W W' : fl_W} {rs : List (List Nat)} {l : List Nat} (h : RgR W rs) (hE : EqX l W W') (hd : ∀ a ∈ rgl, a ∉ l) : RgR W' rs := by
  refine ⟨h.1, by rw [hE 68 (hd _ (mem_rgl.mpr (by omega)))]; exact h.2.1, fun i r hr => ?_⟩
  have hi := (List.getElem?_eq_some_iff.mp hr).1
  have h1 := h.1
  obtain ⟨g1, g2, g3⟩ := h.2.2 i r hr
  refine ⟨g1.fr hE (hd _ (mem_rgl.mpr (by omega))) (hd _ (mem_rgl.mpr (by omega))), ?_, g3⟩
  rw [hE 70 (hd _ (mem_rgl.mpr (by omega)))]
  exact g2
theorem rg_rw {i : Nat} (h : i < 40) : fl_row (73 + 2 * i) := (fl_rg_all i h).1
theorem RgR.len {W : fl_W} {rs : List (List Nat)} (h : RgR W rs) {i : Nat} {r : List Nat} (hr : rs[i]? = some r) : r.length ≤ 20 := by
  have hi := (List.getElem?_eq_some_iff.mp hr).1
  have := (h.2.2 i r hr).1.2.1
  rwa [nL_len, rg_cap (by have := h.1; omega)] at this
section RINGS
variable {d : Nat} {Q : fl_R} {W : fl_W} {rs : List (List Nat)}
theorem rg_has {v : Int32} (hR : RgR W rs) (h : Q (some (.int (if ixB v rs.length then 1 else 0))) W) : fl_cal (d + 1) 55 [.ref 68, .int v] W Q := by
  have h1 := hR.1
  refine sx_55 v W ⟨fun q => ?_, fun q => ⟨fun q2 => ?_, fun q2 => ?_⟩⟩
  · rw [ixB_neg q] at h; exact h
  · rw [hR.2.1] at q2; rw [ixB_lt (by omega) q q2] at h; exact h
  · rw [hR.2.1] at q2; rw [ixB_ge (by omega) q2] at h; exact h
theorem rg_size {i : Nat} {r : List Nat} (hR : RgR W rs) (hr : rs[i]? = some r) (h : Q (some (.int (nI r.length))) W) : fl_cal (d + 2) 56 [.ref 68, .int (nI i)] W Q := by
  have h1 := hR.1
  have hi := (List.getElem?_eq_some_iff.mp hr).1
  refine sx_56 _ W (rg_has hR ?_)
  rw [ixB_N (by omega), decide_eq_true hi]
  refine ⟨fun q => absurd q (by decide), fun _ => ⟨in_N (by omega) (by omega), ?_⟩⟩
  rw [nI_clamp (by omega)]
  refine row_size (rg_rw (by omega)) (hR.2.2 i r hr).1 ?_
  rw [nL_len]
  exact h
theorem rg_get {i : Nat} {r : List Nat} {j : Int32} (hR : RgR W rs) (hr : rs[i]? = some r) (h : Q (some (.int (getI (nL r) j))) W) : fl_cal (d + 2) 57 [.ref 68, .int (nI i), .int j] W Q := by
  have h1 := hR.1
  have hi := (List.getElem?_eq_some_iff.mp hr).1
  refine sx_57 _ _ W (rg_has hR ?_)
  rw [ixB_N (by omega), decide_eq_true hi]
  refine ⟨fun q => absurd q (by decide), fun _ => ⟨in_N (by omega) (by omega), ?_⟩⟩
  rw [nI_clamp (by omega)]
  exact row_get (rg_rw (by omega)) (hR.2.2 i r hr).1 h
theorem rg_behind {i : Nat} {r : List Nat} {j : Int32} (hR : RgR W rs) (hr : rs[i]? = some r) (h : Q (some (.int (if j + 1 < nI r.length then j + 1 else 0))) W) : fl_cal (d + 2) 58 [.ref 68, .int (nI i), .int j] W Q := by
  have h1 := hR.1
  have hi := (List.getElem?_eq_some_iff.mp hr).1
  refine sx_58 _ _ W (rg_has hR ?_)
  rw [ixB_N (by omega), decide_eq_true hi]
  refine ⟨fun q => absurd q (by decide), fun _ => ⟨in_N (by omega) (by omega), ?_⟩⟩
  rw [nI_clamp (by omega)]
  refine row_behind (rg_rw (by omega)) (hR.2.2 i r hr).1 ?_
  rw [nL_len]
  exact h
theorem rg_fit_l {x : Int32} {q : Nat → Bool} (hR : RgR W rs) (hx : BS x q) : ∀ (n i : Nat), rs.length - i = n → i ≤ rs.length → Q (some (.int (optI (fitF q (rs.drop i) i)))) W → hd_59_6 d Q x (nI i) W := by
  have h1 := hR.1
  intro n
  induction n with
  | zero =>
    intro i a1 a2 h
    refine sx_59_6 x _ W ⟨fun z => absurd z ?_, fun _ => ?_⟩
    · rw [hR.2.1]; exact nI_nlt (by omega) (by omega)
    · rw [List.drop_eq_nil_of_le (by omega)] at h; exact h
  | succ n ih =>
    intro i a1 a2 h
    have hi : i < rs.length := by omega
    have hr := List.getElem?_eq_getElem hi
    rw [List.drop_eq_getElem_cons hi] at h
    have hb := (hR.2.2 i _ hr).2.1
    have hiff : (W 70 i &&& x = x) ↔ fitB q rs[i] = true := by
      rw [(hb.and hx.lo).eq hx, fitB, List.all_eq_true]
      constructor
      · intro z v hv
        have := z v (List.mem_range.mp hv)
        cases hq : q v with
        | false => rfl
        | true => rw [hq, Bool.and_true] at this; rw [this]; rfl
      · intro z v hv
        have := z v (List.mem_range.mpr hv)
        cases hq : q v with
        | false => simp
        | true => rw [hq] at this; simpa using this
    refine sx_59_6 x _ W ⟨fun _ => ⟨in_N (by omega) (by omega), ⟨fun z => ?_, fun z => ?_⟩⟩, fun z => absurd ?_ z⟩
    · rw [nI_clamp (by omega)] at z
      rw [fitF, if_pos (hiff.mp z)] at h
      exact h
    · rw [nI_clamp (by omega)] at z
      rw [fitF, if_neg (fun w => z (hiff.mpr w))] at h
      rw [ci_1, nI_add]
      exact ih (i + 1) (by omega) (by omega) h
    · rw [hR.2.1]; exact nI_lt hi (by omega)
theorem rg_fit {x : Int32} {q : Nat → Bool} {i : Nat} (hR : RgR W rs) (hx : BS x q) (hi : i ≤ rs.length) (h : Q (some (.int (optI (fitF q (rs.drop i) i)))) W) : fl_cal (d + 1) 59 [.ref 68, .int x, .int (nI i)] W Q := by
  have h1 := hR.1
  refine sx_59 x _ W ?_
  rw [ci_0, if_neg (nI_nlt (Nat.zero_le _) (by omega))]
  exact rg_fit_l hR hx _ i rfl hi h
/-- the first two rings; the way lies in row 157 -/
theorem rg_begin {lo hi : Nat} {ws : List Nat} (hlo : lo < 20) (hhi : hi < 20) (hw : RowR W 157 (nL ws)) (hw20 : ∀ x ∈ ws, x < 20) (hl : ws.length + 2 ≤ 20) (h : ∀ W', RgR W' [lo :: hi :: ws.reverse, lo :: (ws ++ [hi])] → EqX rgl W W' → Q none W') : fl_cal (d + 3) 60 [.ref 68, .int (nI lo), .int (nI hi), .ref 157] W Q := by
  have hc0 : fl_cap 73 = 20 := rfl
  have hc1 : fl_cap 75 = 20 := rfl
  have m0 : ∀ a ∈ [73, 73 + 1], a ∈ rgl := by decide +kernel
  have m1 : ∀ a ∈ [75, 75 + 1], a ∈ rgl := by decide +kernel
  have v0 : vp_in (Int32.ofInt 0) 40 := in_N (n := 0) (by omega) (by omega)
  have v1 : vp_in (Int32.ofInt 1) 40 := in_N (n := 1) (by omega) (by omega)
  refine sx_60 157 _ _ W rfl ⟨v0, ?_⟩
  show fl_cal (d + 2) 64 [.ref 73] W _
  refine row_clear rfl fun W1 r1 f1 => ?_
  show fl_cal (d + 2) 65 [.ref 73, .int (nI lo)] W1 _
  refine row_add rfl r1 (by decide) fun W2 r2 f2 => ?_
  show fl_cal (d + 2) 65 [.ref 73, .int (nI hi)] W2 _
  refine row_add rfl r2 (by rw [hc0]; simp) fun W3 r3 f3 => ?_
  have w3 := ((hw.fr f1 (by decide) (by decide)).fr f2 (by decide) (by decide)).fr f3 (by decide) (by decide)
  show fl_cal (d + 2) 72 [.ref 73, .ref 157] W3 _
  refine row_back rfl rfl (by decide) w3 r3 (by rw [hc0, nL_len]; simp; omega) fun W4 r4 f4 => ⟨v1, ?_⟩
  show fl_cal (d + 2) 64 [.ref 75] W4 _
  refine row_clear rfl fun W5 r5 f5 => ?_
  show fl_cal (d + 2) 65 [.ref 75, .int (nI lo)] W5 _
  refine row_add rfl r5 (by decide) fun W6 r6 f6 => ?_
  have w6 := ((w3.fr f4 (by decide) (by decide)).fr f5 (by decide) (by decide)).fr f6 (by decide) (by decide)
  show fl_cal (d + 2) 63 [.ref 157] W6 _
  refine row_size rfl w6 ?_
  show fl_cal (d + 2) 71 [.ref 75, .ref 157, .int (nI 0), .int (nI (nL ws).length)] W6 _
  refine row_part (r := 75) (s := 157) rfl rfl (by decide) (Nat.zero_le _) (Nat.le_refl _) w6 r6 (by rw [hc1, nL_len]; simp; omega) fun W7 r7 f7 => ?_
  rw [List.drop_zero, Nat.sub_zero, List.take_length] at r7
  show fl_cal (d + 2) 65 [.ref 75, .int (nI hi)] W7 _
  refine row_add rfl r7 (by rw [hc1]; simp [nL_len]; omega) fun W8 r8 f8 => ?_
  have r48 := ((((r4.fr f5 (by decide) (by decide)).fr f6 (by decide) (by decide)).fr f7 (by decide) (by decide)).fr f8 (by decide) (by decide))
  show fl_cal (d + 2) 74 [.ref 73] W8 _
  refine row_bits rfl r48 ⟨v0, fun W11 e11 => ⟨v0, v1, fun W12 e12 W13 e13 => ?_⟩⟩
  have e4 : nL (lo :: hi :: ws.reverse) = [] ++ [nI lo] ++ [nI hi] ++ (nL ws).reverse := by simp [nL]
  have e8 : nL (lo :: (ws ++ [hi])) = [] ++ [nI lo] ++ nL ws ++ [nI hi] := by simp [nL]
  have z0 : (Int32.ofInt 0).toNatClampNeg = 0 := rfl
  have z1 : (Int32.ofInt 1).toNatClampNeg = 1 := rfl
  rw [z0] at e11
  rw [z0, z1] at e12
  rw [← e4] at e11
  have hmem : ∀ x ∈ lo :: hi :: ws.reverse, x < 20 := by
    intro x hx
    simp only [List.mem_cons, List.mem_reverse] at hx
    rcases hx with rfl | rfl | hx
    · exact hlo
    · exact hhi
    · exact hw20 x hx
  have hB := bitsL_BS BS.zero hmem
  have fA : EqX rgl W W8 := ((((((((f1.mono m0).tr (f2.mono m0)).tr (f3.mono m0)).tr (f4.mono m0)).tr (f5.mono m1)).tr (f6.mono m1)).tr (f7.mono m1)).tr (f8.mono m1))
  have fB : EqX [68, 70] W8 W13 := by
    rw [e13, e12, e11]
    exact ((EqX.uw (by simp)).tr (EqX.uw (by simp))).tr (EqX.uw (by simp))
  have b0 : W13 70 0 = bitsL (nL (lo :: hi :: ws.reverse)) 0 := by rw [e13, uw_n (by decide), e12, uw_m (by decide), e11, uw_s]
  have b1 : W13 70 1 = bitsL (nL (lo :: hi :: ws.reverse)) 0 := by rw [e13, uw_n (by decide), e12, uw_s, e11, uw_s]
  refine h W13 ⟨by simp, by rw [e13, uw_s]; rfl, fun i r hr => ?_⟩ (fA.tr (fB.mono (by decide +kernel)))
  match i, hr with
  | 0, hr =>
    cases hr
    refine ⟨?_, ?_, hmem⟩
    · rw [e4]; exact r48.fr fB (by decide) (by decide)
    · rw [b0]; exact hB.congr fun v _ => by simp
  | 1, hr =>
    cases hr
    refine ⟨?_, ?_, ?_⟩
    · rw [e8]; exact r8.fr fB (by decide) (by decide)
    · rw [b1]
      refine hB.congr fun v _ => ?_
      rw [Bool.eq_iff_iff]
      simp
      constructor
      · rintro (h | h | h) <;> simp [h]
      · rintro (h | h | h) <;> simp [h]
    · intro x hx
      simp only [List.mem_cons, List.mem_append, List.not_mem_nil, or_false] at hx
      rcases hx with rfl | hx | rfl
      · exact hlo
      · exact hw20 x hx
      · exact hhi
theorem nL_rot {l : List Nat} {a : Nat} : (nL l).drop (l.idxOf a) ++ (nL l).take (l.idxOf a) = nL (rotN l a) := by simp [nL, rotN, List.map_drop, List.map_take]
theorem rg_part {ri a b : Nat} {ring ws : List Nat} (hR : RgR W rs) (hri : rs[ri]? = some ring) (ha : a ∈ ring) (hb : b ∈ ring) (hw : RowR W 157 (nL ws)) (hw20 : ∀ x ∈ ws, x < 20) (h40 : rs.length < 40) (l1 : (arcN (rotN ring a) b).length + ws.length ≤ 20) (l2 : (arcN (rotN ring b) a).length + ws.length ≤ 20)
    (h : ∀ W', RgR W' (rs.set ri (arcN (rotN ring a) b ++ ws) ++ [arcN (rotN ring b) a ++ ws.reverse]) → EqX rgl W W' → Q none W') : fl_cal (d + 3) 61 [.ref 68, .int (nI ri), .int (nI a), .int (nI b), .ref 157] W Q := by
  have hl := (List.getElem?_eq_some_iff.mp hri).1
  have hlen := hR.len hri
  obtain ⟨hrow, hbits, hr20⟩ := hR.2.2 ri ring hri
  have hrX := rg_rw (i := ri) (by omega)
  have hrY := rg_rw (i := rs.length) h40
  have cX := rg_cap (j := ri) (by omega)
  have cY := rg_cap (j := rs.length) h40
  have a20 := hr20 a ha
  have b20 := hr20 b hb
  have big : ∀ y ∈ ring, y < 2 ^ 31 := fun y hy => by have := hr20 y hy; omega
  have rb : ∀ z, ∀ y ∈ rotN ring z, y < 2 ^ 31 := fun z y hy => big y (mem_rotN.mp hy)
  have ia := List.idxOf_lt_length_of_mem ha
  have ib := List.idxOf_lt_length_of_mem hb
  generalize hX : 73 + 2 * ri = X at hrX cX hrow
  generalize hY : 73 + 2 * rs.length = Y at hrY cY
  have vX : vp_in (nI ri) 40 := in_N (by omega) (by omega)
  have eX : 73 + 2 * (nI ri).toNatClampNeg = X := by rw [nI_clamp (by omega)]; exact hX
  have vY : vp_in (nI rs.length) 40 := in_N h40 (by omega)
  have eY : 73 + 2 * (nI rs.length).toNatClampNeg = Y := by rw [nI_clamp (by omega)]; exact hY
  refine sx_61 157 _ _ _ W rfl (rg_has hR ?_)
  rw [ixB_N (by omega), decide_eq_true hl]
  refine ⟨fun q => absurd q (by decide), fun _ => ⟨fun _ => ⟨vX, ?_⟩, fun q => absurd ?_ q⟩⟩
  rotate_left
  · rw [hR.2.1, cb_40]; exact nI_lt h40 (by omega)
  rw [eX]
  have m71 : ∀ z ∈ [71, 71 + 1], z ∈ rgl := by decide +kernel
  have mX : ∀ z ∈ [X, X + 1], z ∈ rgl := by intro z hz; rw [mem_rgl]; simp at hz; omega
  have mY : ∀ z ∈ [Y, Y + 1], z ∈ rgl := by intro z hz; rw [mem_rgl]; simp at hz; omega
  refine row_copy (r := 71) (s := X) rfl hrX (by omega) hrow (by rw [nL_len]; show ring.length ≤ 20; exact hlen) fun W2 r2 f2 => ⟨vX, ?_⟩
  refine row_clear hrX fun W3 r3 f3 => ⟨vX, ?_⟩
  have q3 := r2.fr f3 (by simp; omega) (by simp; omega)
  refine row_arc (r := X) (s := 71) (a := ring.idxOf a) hrX rfl (by omega) ?_ (by rw [nL_len]; exact ia) q3 r3 (by rw [cX, nL_len]; simpa using hlen) fun W4 r4 f4 => ⟨vX, ?_⟩
  · rw [fndF_in (by omega) big ha, Nat.zero_add]
  rw [nL_rot, arcL_N (by omega) (rb a), List.nil_append] at r4
  have q4 := q3.fr f4 (by simp; omega) (by simp; omega)
  have w4 := ((hw.fr f2 (by decide) (by decide)).fr f3 (by simp; omega) (by simp; omega)).fr f4 (by simp; omega) (by simp; omega)
  refine row_size rfl w4 ?_
  show fl_cal (d + 2) 71 [.ref X, .ref 157, .int (nI 0), .int (nI (nL ws).length)] W4 _
  refine row_part (r := X) (s := 157) hrX rfl (by omega) (Nat.zero_le _) (Nat.le_refl _) w4 r4 (by rw [cX, nL_len, nL_len]; simpa using l1) fun W6 r6 f6 => ⟨vX, ?_⟩
  rw [List.drop_zero, Nat.sub_zero, List.take_length, ← nL_app] at r6
  refine row_bits hrX r6 ⟨vX, fun W8 e8 => ?_⟩
  rw [nI_clamp (by omega)] at e8
  have f8 : EqX [70] W6 W8 := by rw [e8]; exact EqX.uw (by simp)
  have c8 : W8 68 3 = nI rs.length := by
    rw [f8 68 (by decide), f6 68 (by simp; omega), f4 68 (by simp; omega), f3 68 (by simp; omega), f2 68 (by decide)]
    exact hR.2.1
  rw [c8]
  refine ⟨vY, ?_⟩
  rw [eY]
  refine row_clear hrY fun W9 r9 f9 => ?_
  have c9 : W9 68 3 = nI rs.length := by rw [f9 68 (by simp; omega)]; exact c8
  show vp_in (W9 68 3) 40 ∧ _
  rw [c9]
  refine ⟨vY, ?_⟩
  rw [eY]
  have q9 := ((q4.fr f6 (by simp; omega) (by simp; omega)).fr f8 (by decide) (by decide)).fr f9 (by simp; omega) (by simp; omega)
  have w9 := ((w4.fr f6 (by simp; omega) (by simp; omega)).fr f8 (by decide) (by decide)).fr f9 (by simp; omega) (by simp; omega)
  refine row_arc (r := Y) (s := 71) (a := ring.idxOf b) hrY rfl (by omega) ?_ (by rw [nL_len]; exact ib) q9 r9 (by rw [cY, nL_len]; simpa using hlen) fun W10 r10 f10 => ?_
  · rw [fndF_in (by omega) big hb, Nat.zero_add]
  rw [nL_rot, arcL_N (by omega) (rb b), List.nil_append] at r10
  have w10 := w9.fr f10 (by simp; omega) (by simp; omega)
  have c10 : W10 68 3 = nI rs.length := by rw [f10 68 (by simp; omega)]; exact c9
  show vp_in (W10 68 3) 40 ∧ _
  rw [c10]
  refine ⟨vY, ?_⟩
  rw [eY]
  refine row_back (r := Y) (s := 157) hrY rfl (by omega) w10 r10 (by rw [cY, nL_len, nL_len]; exact l2) fun W11 r11 f11 => ?_
  have c11 : W11 68 3 = nI rs.length := by rw [f11 68 (by simp; omega)]; exact c10
  have e11 : nL (arcN (rotN ring b) a) ++ (nL ws).reverse = nL (arcN (rotN ring b) a ++ ws.reverse) := by simp [nL]
  rw [e11] at r11
  show vp_in (W11 68 3) 40 ∧ _
  rw [c11]
  refine ⟨vY, ?_⟩
  rw [eY]
  refine row_bits hrY r11 ?_
  show vp_in (nI rs.length) 40 ∧ _
  refine ⟨vY, fun W13 e13 W14 e14 => ?_⟩
  rw [nI_clamp (by omega)] at e13
  have c13 : W13 68 3 = nI rs.length := by rw [e13, uw_n (by decide)]; exact c11
  rw [c13, ci_1, nI_add] at e14
  have f13 : EqX [68, 70] W11 W14 := by rw [e14, e13]; exact (EqX.uw (by simp)).tr (EqX.uw (by simp))
  have hB1 := bitsL_BS (l := arcN (rotN ring a) b ++ ws) BS.zero (by
    intro x hx
    rcases List.mem_append.mp hx with hx | hx
    · exact hr20 x (mem_rotN.mp (arcN_sub.subset hx))
    · exact hw20 x hx)
  have hB2 := bitsL_BS (l := arcN (rotN ring b) a ++ ws.reverse) BS.zero (by
    intro x hx
    rcases List.mem_append.mp hx with hx | hx
    · exact hr20 x (mem_rotN.mp (arcN_sub.subset hx))
    · exact hw20 x (List.mem_reverse.mp hx))
  have m2 : ∀ z ∈ [68, 70], z ∈ rgl := by decide +kernel
  have fAll : EqX rgl W W14 := (((((((((f2.mono m71).tr (f3.mono mX)).tr (f4.mono mX)).tr (f6.mono mX)).tr (f8.mono (by decide +kernel))).tr (f9.mono mY)).tr (f10.mono mY)).tr (f11.mono mY)).tr (f13.mono m2))
  -- the cells of bits
  have s70 : ∀ j, j ≠ rs.length → W14 70 j = W8 70 j := by
    intro j hj
    rw [e14, uw_n (by decide), e13, uw_m hj, f11 70 (by simp; omega), f10 70 (by simp; omega), f9 70 (by simp; omega)]
  have s70' : ∀ j, j ≠ ri → W8 70 j = W 70 j := by
    intro j hj
    rw [e8, uw_m hj, f6 70 (by simp; omega), f4 70 (by simp; omega), f3 70 (by simp; omega), f2 70 (by decide)]
  have hsz : (rs.set ri (arcN (rotN ring a) b ++ ws) ++ [arcN (rotN ring b) a ++ ws.reverse]).length = rs.length + 1 := by simp
  refine h W14 ⟨by rw [hsz]; omega, by rw [hsz, e14, uw_s], fun i r hr => ?_⟩ fAll
  by_cases hin : i = rs.length
  · subst hin
    rw [List.getElem?_append_right (by simp), List.length_set, Nat.sub_self] at hr
    cases hr
    refine ⟨?_, ?_, ?_⟩
    · rw [hY]; exact r11.fr f13 (by simp; omega) (by simp; omega)
    · rw [e14, uw_n (by decide), e13, uw_s]
      exact hB2.congr fun v _ => by simp
    · intro x hx
      rcases List.mem_append.mp hx with hx | hx
      · exact hr20 x (mem_rotN.mp (arcN_sub.subset hx))
      · exact hw20 x (List.mem_reverse.mp hx)
  · have hlt : i < rs.length := by
      have := (List.getElem?_eq_some_iff.mp hr).1
      rw [hsz] at this
      omega
    rw [List.getElem?_append_left (by simpa using hlt), List.getElem?_set] at hr
    by_cases hir : ri = i
    · subst hir
      rw [if_pos rfl, if_pos hlt] at hr
      cases hr
      refine ⟨?_, ?_, ?_⟩
      · rw [hX]
        exact ((((r6.fr f8 (by simp; omega) (by simp; omega)).fr f9 (by simp; omega) (by simp; omega)).fr f10 (by simp; omega) (by simp; omega)).fr f11 (by simp; omega) (by simp; omega)).fr f13 (by simp; omega) (by simp; omega)
      · rw [s70 ri (by omega), e8, uw_s]
        exact hB1.congr fun v _ => by simp
      · intro x hx
        rcases List.mem_append.mp hx with hx | hx
        · exact hr20 x (mem_rotN.mp (arcN_sub.subset hx))
        · exact hw20 x hx
    · rw [if_neg hir] at hr
      obtain ⟨g1, g2, g3⟩ := hR.2.2 i r hr
      refine ⟨?_, ?_, g3⟩
      · exact ((((((((g1.fr f2 (by simp; omega) (by simp; omega)).fr f3 (by simp; omega) (by simp; omega)).fr f4 (by simp; omega) (by simp; omega)).fr f6 (by simp; omega) (by simp; omega)).fr f8 (by simp; omega) (by simp; omega)).fr f9 (by simp; omega) (by simp; omega)).fr f10 (by simp; omega) (by simp; omega)).fr f11 (by simp; omega) (by simp; omega)).fr f13 (by simp; omega) (by simp; omega)
      · rw [s70 i hin, s70' i (Ne.symm hir)]
        exact g2
end RINGS
end
section
/-! ===== breadth first: a queue of paths (told from their ends), their heads are what was come to ===== -/
def hds (q : List (List Nat)) : List Nat := q.map fun p => p.headD 0
def bfsRow (Ax goal : Nat → Bool) (p : List Nat) : List Nat → List (List Nat) → List Nat ⊕ List (List Nat)
  | [], q => .inr q
  | v :: vs, q => if Ax v && !(hds q).contains v then (if goal v then .inl (v :: p) else bfsRow Ax goal p vs (q ++ [v :: p])) else bfsRow Ax goal p vs q
def bfs (A : Nat → Nat → Bool) (goal : Nat → Bool) : Nat → Nat → List (List Nat) → Option (List Nat)
  | 0, _, _ => none
  | f + 1, k, q => match q[k]? with
    | none => none
    | some p => match bfsRow (A (p.headD 0)) goal p (List.range 20) q with
      | .inl r => some r
      | .inr q' => bfs A goal f (k + 1) q'
def bfsP (A : Nat → Nat → Bool) (goal : Nat → Bool) (s : Nat) : Option (List Nat) := bfs A goal 21 0 [[s]]
/-- a path as it is told: from its end back to s; A from each to the one that stands ahead of it in the list -/
def pthA (A : Nat → Nat → Bool) : List Nat → Prop
  | u :: w :: l => A w u = true ∧ pthA A (w :: l)
  | _ => True
def pOK (A : Nat → Nat → Bool) (s : Nat) (q : List (List Nat)) (k : Nat) (p : List Nat) : Prop := ∃ l, p = l ++ [s] ∧ s ∉ l ∧ l.length ≤ k ∧ (∀ x ∈ p, x ∈ hds q) ∧ pthA A p ∧ p.Nodup
def bInv (A : Nat → Nat → Bool) (goal : Nat → Bool) (s : Nat) (q : List (List Nat)) : Prop := q[0]? = some [s] ∧ (∀ k p, q[k]? = some p → pOK A s q k p) ∧ (hds q).Nodup ∧ (∀ x ∈ hds q, x < 20) ∧ ∀ x ∈ hds q, x ≠ s → goal x = false
theorem hds_app {q : List (List Nat)} {p : List Nat} : hds (q ++ [p]) = hds q ++ [p.headD 0] := by simp [hds]
theorem nd_le : ∀ (n : Nat) {l : List Nat}, l.Nodup → (∀ x ∈ l, x < n) → l.length ≤ n
  | 0, l, _, h => by
    cases l with
    | nil => simp
    | cons a l => exact absurd (h a List.mem_cons_self) (by omega)
  | n + 1, l, hn, h => by
    have h1 : (l.erase n).length ≤ n := nd_le n (hn.erase n) fun x hx => by
      have h2 := h x (List.mem_of_mem_erase hx)
      have h3 : x ≠ n := fun e => (List.Nodup.not_mem_erase hn) (e ▸ hx)
      omega
    have h4 : l.length ≤ (l.erase n).length + 1 := by rw [List.length_erase]; split <;> omega
    omega
theorem bInv.len {A : Nat → Nat → Bool} {goal : Nat → Bool} {s : Nat} {q : List (List Nat)} (h : bInv A goal s q) : q.length ≤ 20 := by
  have := nd_le 20 h.2.2.1 h.2.2.2.1
  simpa [hds] using this
theorem bInv.start {A : Nat → Nat → Bool} {goal : Nat → Bool} {s : Nat} (hs : s < 20) : bInv A goal s [[s]] := by
  refine ⟨rfl, fun k p hp => ?_, by simp [hds], by simp [hds]; exact hs, fun x hx hne => by simp [hds] at hx; exact absurd hx hne⟩
  match k, hp with
  | 0, hp =>
    cases hp
    exact ⟨[], rfl, by simp, by simp, by simp [hds], trivial, by simp⟩
/-- another path behind the queue -/
theorem bInv.push {A : Nat → Nat → Bool} {goal : Nat → Bool} {s : Nat} {q : List (List Nat)} (h : bInv A goal s q) {k : Nat} {p : List Nat} (hp : q[k]? = some p) {v : Nat} (hv : v < 20) (hA : A (p.headD 0) v = true) (hn : v ∉ hds q) (hg : goal v = false) : bInv A goal s (q ++ [v :: p]) := by
  obtain ⟨h0, h1, h2, h3, h4⟩ := h
  have hk := (List.getElem?_eq_some_iff.mp hp).1
  have hq : 0 < q.length := by omega
  have hsub : ∀ x ∈ hds q, x ∈ hds (q ++ [v :: p]) := fun x hx => by rw [hds_app]; exact List.mem_append_left _ hx
  have hs : s ∈ hds q := by
    have := List.mem_of_getElem? h0
    exact List.mem_map.mpr ⟨_, this, rfl⟩
  refine ⟨by rw [List.getElem?_append_left hq]; exact h0, fun j r hr => ?_, ?_, ?_, ?_⟩
  · by_cases hj : j < q.length
    · rw [List.getElem?_append_left hj] at hr
      obtain ⟨l, a1, a2, a3, a4, a5⟩ := h1 j r hr
      exact ⟨l, a1, a2, a3, fun x hx => hsub x (a4 x hx), a5⟩
    · have hl := (List.getElem?_eq_some_iff.mp hr).1
      simp only [List.length_append, List.length_singleton] at hl
      have hje : j = q.length := by omega
      subst hje
      rw [List.getElem?_concat_length] at hr
      cases hr
      obtain ⟨l, a1, a2, a3, a4, a5, a6⟩ := h1 k p hp
      refine ⟨v :: l, by rw [a1]; rfl, ?_, by simp; omega, fun x hx => ?_, ?_, ?_⟩
      · intro hx
        rcases List.mem_cons.mp hx with e | e
        · exact hn (e ▸ hs)
        · exact a2 e
      · rcases List.mem_cons.mp hx with e | e
        · rw [hds_app]; exact List.mem_append_right _ (by simp [e])
        · exact hsub x (a4 x e)
      · cases hpl : p with
        | nil => trivial
        | cons u t =>
          rw [hpl] at hA a5
          exact ⟨hA, a5⟩
      · exact List.nodup_cons.mpr ⟨fun hx => hn (a4 v hx), a6⟩
  · rw [hds_app, List.nodup_append]
    exact ⟨h2, by simp, fun a ha b hb e => hn (by simp at hb; rw [← hb, ← e]; exact ha)⟩
  · intro x hx
    rw [hds_app] at hx
    rcases List.mem_append.mp hx with e | e
    · exact h3 x e
    · simp at e; omega
  · intro x hx hne
    rw [hds_app] at hx
    rcases List.mem_append.mp hx with e | e
    · exact h4 x e hne
    · simp at e; rw [e]; exact hg
/-- a result -/
def bRes (A : Nat → Nat → Bool) (goal : Nat → Bool) (s : Nat) (r : List Nat) : Prop := ∃ g l, r = g :: (l ++ [s]) ∧ g ≠ s ∧ s ∉ l ∧ l.length ≤ 19 ∧ goal g = true ∧ (∀ x ∈ l, goal x = false) ∧ pthA A r ∧ r.Nodup ∧ ∀ x ∈ r, x < 20
theorem bRow_spec {A : Nat → Nat → Bool} {goal : Nat → Bool} {s k : Nat} {p : List Nat} : ∀ (vs : List Nat) (q : List (List Nat)), bInv A goal s q → q[k]? = some p → (∀ v ∈ vs, v < 20) →
    match bfsRow (A (p.headD 0)) goal p vs q with
    | .inl r => ∃ g, r = g :: p ∧ goal g = true ∧ g < 20 ∧ A (p.headD 0) g = true ∧ ∃ q', bInv A goal s q' ∧ q'[k]? = some p ∧ g ∉ hds q'
    | .inr q' => bInv A goal s q' ∧ (∀ (j : Nat) (r : List Nat), q[j]? = some r → q'[j]? = some r) ∧ ∀ v ∈ vs, A (p.headD 0) v = true → v ∈ hds q'
  | [], q, h, hp, _ => ⟨h, fun _ _ h => h, fun v hv => absurd hv List.not_mem_nil⟩
  | v :: vs, q, h, hp, hv => by
    have hvs : ∀ x ∈ vs, x < 20 := fun x hx => hv x (List.mem_cons_of_mem _ hx)
    have hmono : ∀ {a b : List (List Nat)}, (∀ (j : Nat) (r : List Nat), a[j]? = some r → b[j]? = some r) → ∀ x ∈ hds a, x ∈ hds b := by
      intro a b hab x hx
      obtain ⟨r, hr, rfl⟩ := List.mem_map.mp hx
      obtain ⟨j, hj⟩ := List.getElem?_of_mem hr
      exact List.mem_map.mpr ⟨r, List.mem_of_getElem? (hab j r hj), rfl⟩
    rw [bfsRow]
    by_cases hc : (A (p.headD 0) v && !(hds q).contains v) = true
    · rw [if_pos hc]
      simp only [Bool.and_eq_true, Bool.not_eq_true', List.contains_eq_mem, decide_eq_false_iff_not] at hc
      by_cases hg : goal v = true
      · rw [if_pos hg]
        exact ⟨v, rfl, hg, hv v List.mem_cons_self, hc.1, q, h, hp, hc.2⟩
      · rw [if_neg hg]
        have hk := (List.getElem?_eq_some_iff.mp hp).1
        have h' := h.push hp (hv v List.mem_cons_self) hc.1 hc.2 (by simpa using hg)
        have ih := bRow_spec (A := A) (goal := goal) (s := s) (k := k) (p := p) vs (q ++ [v :: p]) h' (by rw [List.getElem?_append_left hk]; exact hp) hvs
        cases hr : bfsRow (A (p.headD 0)) goal p vs (q ++ [v :: p]) with
        | inl r => rw [hr] at ih; exact ih
        | inr q' =>
          rw [hr] at ih
          obtain ⟨i1, i2, i3⟩ := ih
          refine ⟨i1, fun j r hj => i2 j r (by rw [List.getElem?_append_left (List.getElem?_eq_some_iff.mp hj).1]; exact hj), fun x hx hA => ?_⟩
          rcases List.mem_cons.mp hx with e | e
          · subst e
            exact hmono i2 x (by rw [hds_app]; exact List.mem_append_right _ (by simp))
          · exact i3 x e hA
    · rw [if_neg hc]
      have ih := bRow_spec (A := A) (goal := goal) (s := s) (k := k) (p := p) vs q h hp hvs
      cases hr : bfsRow (A (p.headD 0)) goal p vs q with
      | inl r => rw [hr] at ih; exact ih
      | inr q' =>
        rw [hr] at ih
        obtain ⟨i1, i2, i3⟩ := ih
        refine ⟨i1, i2, fun x hx hA => ?_⟩
        rcases List.mem_cons.mp hx with e | e
        · subst e
          simp only [hA, Bool.true_and, Bool.not_eq_true', List.contains_eq_mem, decide_eq_false_iff_not, Classical.not_not] at hc
          exact hmono i2 x hc
        · exact i3 x e hA
theorem bfs_spec {A : Nat → Nat → Bool} {goal : Nat → Bool} {s : Nat} (hs : goal s = false) : ∀ (f k : Nat) (q : List (List Nat)), bInv A goal s q → (∀ j p, j < k → q[j]? = some p → ∀ v, v < 20 → A (p.headD 0) v = true → v ∈ hds q) → 21 ≤ f + k → k ≤ q.length →
    match bfs A goal f k q with
    | some r => bRes A goal s r
    | none => ∃ S : List Nat, s ∈ S ∧ (∀ x ∈ S, goal x = false) ∧ ∀ x ∈ S, ∀ v, v < 20 → A x v = true → v ∈ S
  | 0, k, q, h, _, hf, hk => by
    have := h.len
    omega
  | f + 1, k, q, h, hcl, hf, hk => by
    rw [bfs]
    cases hq : q[k]? with
    | none =>
      refine ⟨hds q, ?_, fun x hx => ?_, fun x hx v hv hA => ?_⟩
      · exact List.mem_map.mpr ⟨[s], List.mem_of_getElem? h.1, rfl⟩
      · by_cases e : x = s
        · rw [e]; exact hs
        · exact h.2.2.2.2 x hx e
      · obtain ⟨p, hp, rfl⟩ := List.mem_map.mp hx
        obtain ⟨j, hj⟩ := List.getElem?_of_mem hp
        have hl := (List.getElem?_eq_some_iff.mp hj).1
        have hk2 : q.length ≤ k := List.getElem?_eq_none_iff.mp hq
        exact hcl j p (by omega) hj v hv hA
    | some p =>
      have hkl := (List.getElem?_eq_some_iff.mp hq).1
      have hr := bRow_spec (A := A) (goal := goal) (s := s) (k := k) (p := p) (List.range 20) q h hq (fun v hv => List.mem_range.mp hv)
      show match (match bfsRow (A (p.headD 0)) goal p (List.range 20) q with
        | .inl r => some r
        | .inr q' => bfs A goal f (k + 1) q') with
        | some r => bRes A goal s r
        | none => _
      cases hb : bfsRow (A (p.headD 0)) goal p (List.range 20) q with
      | inl r =>
        rw [hb] at hr
        obtain ⟨g, rfl, hg, hg20, hA, q', hq', hp', hn⟩ := hr
        obtain ⟨l, a1, a2, a3, a4, a5, a6⟩ := hq'.2.1 k p hp'
        have hk' := (List.getElem?_eq_some_iff.mp hp').1
        have hl' := hq'.len
        have hgs : g ≠ s := fun e => by rw [e, hs] at hg; cases hg
        refine ⟨g, l, by rw [a1], hgs, a2, by omega, hg, fun x hx => ?_, ?_, List.nodup_cons.mpr ⟨fun hx => hn (a4 g hx), a6⟩, fun x hx => ?_⟩
        · exact hq'.2.2.2.2 x (a4 x (by rw [a1]; exact List.mem_append_left _ hx)) (fun e => a2 (e ▸ hx))
        · cases hpl : p with
          | nil => trivial
          | cons u t =>
            rw [hpl] at hA a5
            exact ⟨hA, a5⟩
        · rcases List.mem_cons.mp hx with e | e
          · omega
          · exact hq'.2.2.2.1 x (a4 x e)
      | inr q' =>
        rw [hb] at hr
        obtain ⟨i1, i2, i3⟩ := hr
        have hlen : k + 1 ≤ q'.length := (List.getElem?_eq_some_iff.mp (i2 k p hq)).1
        refine bfs_spec hs f (k + 1) q' i1 (fun j r hj hr v hv hA => ?_) (by omega) hlen
        by_cases hjk : j = k
        · subst hjk
          cases (i2 j p hq).symm.trans hr
          exact i3 v (List.mem_range.mpr hv) hA
        · have hjl : j < q.length := by omega
          have e1 := List.getElem?_eq_getElem hjl
          cases (i2 j _ e1).symm.trans hr
          have := hcl j _ (by omega) e1 v hv hA
          obtain ⟨w, hw, hwv⟩ := List.mem_map.mp this
          obtain ⟨m, hm⟩ := List.getElem?_of_mem hw
          exact List.mem_map.mpr ⟨w, List.mem_of_getElem? (i2 m w hm), hwv⟩
theorem bfsP_spec {A : Nat → Nat → Bool} {goal : Nat → Bool} {s : Nat} (hs20 : s < 20) (hs : goal s = false) :
    match bfsP A goal s with
    | some r => bRes A goal s r
    | none => ∃ S : List Nat, s ∈ S ∧ (∀ x ∈ S, goal x = false) ∧ ∀ x ∈ S, ∀ v, v < 20 → A x v = true → v ∈ S :=
  bfs_spec hs 21 0 [[s]] (bInv.start hs20) (fun j p hj => by omega) (by omega) (Nat.zero_le _)
end
section
/-! ===== the class's search is breadth first ===== -/
def chn (f : Nat → Int32) : List Nat → Prop
  | u :: w :: l => f u = nI w ∧ chn f (w :: l)
  | _ => True
theorem chn_upd {f : Nat → Int32} {v : Nat} {x : Int32} : ∀ {l : List Nat}, v ∉ l → chn f l → chn (upd f v x) l
  | [], _, _ => trivial
  | [_], _, _ => trivial
  | u :: w :: l, hn, h => by
    refine ⟨?_, chn_upd (fun z => hn (List.mem_cons_of_mem _ z)) h.2⟩
    have : u ≠ v := fun e => hn (e ▸ List.mem_cons_self)
    simp only [upd, this, if_false]
    exact h.1
def srl : List Nat := [153, 154, 155, 156, 157, 158]
def sPost (W : fl_W) : Option (List Nat) → Prop
  | some (g :: t) => W 153 3 = nI g ∧ RowR W 157 (nL t.dropLast)
  | _ => W 153 3 = -1 ∧ RowR W 157 []
theorem bRow_mem {Ax goal : Nat → Bool} {p : List Nat} : ∀ {vs : List Nat} {q q' : List (List Nat)}, bfsRow Ax goal p vs q = .inr q' → ∀ v ∈ hds q', v ∈ hds q ∨ (Ax v = true ∧ goal v = false)
  | [], q, q', h, v, hv => by
    cases h
    exact Or.inl hv
  | u :: vs, q, q', h, v, hv => by
    rw [bfsRow] at h
    by_cases hc : (Ax u && !(hds q).contains u) = true
    · rw [if_pos hc] at h
      by_cases hg : goal u = true
      · rw [if_pos hg] at h; cases h
      · rw [if_neg hg] at h
        rcases bRow_mem h v hv with z | z
        · rw [hds_app] at z
          rcases List.mem_append.mp z with z | z
          · exact Or.inl z
          · simp at z
            subst z
            simp only [Bool.and_eq_true] at hc
            exact Or.inr ⟨hc.1, by simpa using hg⟩
        · exact Or.inr z
    · rw [if_neg hc] at h
      exact bRow_mem h v hv
section SEARCH
variable {d : Nat} {Q : fl_R} {b : Nat} {W : fl_W} {V : Nat} {es : gE}
theorem se_trace_l {s : Nat} (hs : s < 20) : ∀ (l : List Nat) (v i : Nat) (W : fl_W) (xs : List Nat), RowR W 157 (nL xs) → chn (W 154) (v :: (l ++ [s])) → s ∉ l → v < 20 → (∀ x ∈ l, x < 20) → i + l.length < 20 → xs.length ≤ i → (∀ W', RowR W' 157 (nL (xs ++ l)) → EqX [157, 158] W W' → Q none W') → hd_78_14 (d + 1) Q (nI s) (nI v) (nI i) W := by
  intro l
  induction l with
  | nil =>
    intro v i W xs hR hc hsl hv hl hi hxs h
    refine sx_78_14 _ _ _ W ⟨fun _ => st_can ?_, fun q => absurd ?_ q⟩
    · rw [ixB_N (by omega), decide_eq_true hv]
      refine ⟨fun q => absurd q (by decide), fun _ => ⟨in_N hv (by omega), ?_⟩⟩
      rw [nI_clamp (by omega)]
      exact ⟨fun _ => h W (by simpa using hR) EqX.rf, fun q => absurd hc.1 q⟩
    · rw [cb_20]; exact nI_lt (by simp at hi; omega) (by omega)
  | cons w l ih =>
    intro v i W xs hR hc hsl hv hl hi hxs h
    have hw := hl w List.mem_cons_self
    have hws : w ≠ s := fun e => hsl (e ▸ List.mem_cons_self)
    simp only [List.length_cons] at hi
    refine sx_78_14 _ _ _ W ⟨fun _ => st_can ?_, fun q => absurd ?_ q⟩
    · rw [ixB_N (by omega), decide_eq_true hv]
      refine ⟨fun q => absurd q (by decide), fun _ => ⟨in_N hv (by omega), ?_⟩⟩
      have hcv : W 154 v = nI w := hc.1
      rw [nI_clamp (by omega), hcv]
      refine ⟨fun q => absurd q (nI_ne (by omega) (by omega) hws), fun _ => ⟨in_N hv (by omega), ?_⟩⟩
      refine row_add (r := 157) rfl hR (by rw [nL_len]; show xs.length < 20; omega) fun W' g1 g2 => ?_
      show hd_78_14 (d + 1) Q (nI s) (nI w) (nI i + Int32.ofInt 1) W'
      rw [ci_1, nI_add]
      refine ih w (i + 1) W' (xs ++ [w]) (by rw [nL_app]; exact g1) ?_ (fun z => hsl (List.mem_cons_of_mem _ z)) hw (fun x hx => hl x (List.mem_cons_of_mem _ hx)) (by omega) (by simp; omega) fun W'' k1 k2 => h W'' (by simpa using k1) (g2.tr k2)
      rw [g2 154 (by decide)]
      exact hc.2
    · rw [cb_20]; exact nI_lt (by omega) (by omega)
theorem se_trace {s g : Nat} {l : List Nat} (hs : s < 20) (hg : W 153 3 = nI g) (hc : chn (W 154) (g :: (l ++ [s]))) (hsl : s ∉ l) (hg20 : g < 20) (hl : ∀ x ∈ l, x < 20) (hlen : l.length ≤ 19) (h : ∀ W', RowR W' 157 (nL l) → EqX [157, 158] W W' → Q none W') : fl_cal (d + 2) 78 [.ref 153, .int (nI s)] W Q := by
  refine sx_78 _ W (row_clear (r := 157) rfl fun W1 r1 f1 => ?_)
  show hd_78_14 (d + 1) Q (nI s) (W1 153 3) (Int32.ofInt 0) W1
  rw [f1 153 (by decide), hg]
  refine se_trace_l hs l g 0 W1 [] r1 ?_ hsl hg20 hl (by omega) (by simp) fun W' k1 k2 => h W' (by simpa using k1) (f1.tr k2)
  rw [f1 154 (by decide)]
  exact hc
theorem se_traceNo {s : Nat} (hg : W 153 3 = -1) (h : ∀ W', RowR W' 157 [] → EqX [157, 158] W W' → Q none W') : fl_cal (d + 2) 78 [.ref 153, .int (nI s)] W Q := by
  refine sx_78 _ W (row_clear (r := 157) rfl fun W1 r1 f1 => ?_)
  show hd_78_14 (d + 1) Q (nI s) (W1 153 3) (Int32.ofInt 0) W1
  rw [f1 153 (by decide), hg]
  refine sx_78_14 _ _ _ W1 ⟨fun _ => st_can ?_, fun q => absurd ?_ q⟩
  · rw [ixB_neg (by decide)]
    exact ⟨fun _ => h W1 r1 f1, fun q => absurd rfl q⟩
  · decide
/-- the step of the class: by an edge, to what may be gone through, or, but from s, to a goal -/
def clA (es : gE) (th gs : Nat → Bool) (s : Nat) (x v : Nat) : Bool := adj es x v && (th v || (decide (x ≠ s) && gs v))
def sInv (W : fl_W) (b V : Nat) (es : gE) (q : List (List Nat)) : Prop := NetR W b V es ∧ RowR W 155 (nL (hds q)) ∧ ∀ p ∈ q, chn (W 154) p
theorem se_dis {b : Nat} (hb : fl_net b) : ∀ a ∈ nl b, a ∉ srl := by
  intro a ha
  have := net_bases b (fl_lt hb) hb
  simp only [nl, srl, List.mem_cons, List.not_mem_nil, or_false] at ha ⊢
  omega
theorem range_drop {i : Nat} (h : i < 20) : (List.range 20).drop i = i :: (List.range 20).drop (i + 1) := by
  rw [List.drop_eq_getElem_cons (by simpa using h)]
  simp
theorem se_inner {s k x : Nat} {p : List Nat} {A : Nat → Nat → Bool} {gs : Nat → Bool} {goals left next : Int32} (hb : fl_net b) (hgs : BT goals gs) (hpx : p.headD 0 = x) (hk20 : k < 20) :
    ∀ (n i : Nat) (W : fl_W) (q : List (List Nat)), 20 - i = n → i ≤ 20 → bInv A gs s q → q[k]? = some p → sInv W b V es q → W 153 3 = -1 → (∀ v, i ≤ v → v < 20 → sb next v = (A x v && !(hds q).contains v)) →
      (∀ W' q', bfsRow (A x) gs p ((List.range 20).drop i) q = .inr q' → bInv A gs s q' → sInv W' b V es q' → W' 153 3 = -1 → EqX srl W W' → hd_76_26 (d + 2) Q b (nI s) goals left (nI (k + 1)) W') →
      (∀ W' g, bfsRow (A x) gs p ((List.range 20).drop i) q = .inl (g :: p) → g < 20 → W' 153 3 = nI g → chn (W' 154) (g :: p) → EqX srl W W' → hd_76_26 (d + 2) Q b (nI s) goals left (nI (k + 1)) W') →
      hd_76_101 (d + 2) Q b (nI s) goals left (nI k) (nI x) next (nI i) W := by
  intro n
  induction n with
  | zero =>
    intro i W q a1 a2 hI hp hS hg hn h1 h2
    have hi : i = 20 := by omega
    subst hi
    refine sx_76_101 b _ _ _ _ _ _ _ W hb ⟨fun z => absurd z ?_, fun _ => ?_⟩
    · rw [cb_20]; exact nI_nlt (Nat.le_refl _) (by omega)
    · rw [ci_1, nI_add]
      exact h1 W q (by rw [List.drop_eq_nil_of_le (by simp)]; rfl) hI hS hg EqX.rf
  | succ n ih =>
    intro i W q a1 a2 hI hp hS hg hn h1 h2
    have hi : i < 20 := by omega
    rw [range_drop hi] at h1 h2
    have hni := hn i (Nat.le_refl _) hi
    refine sx_76_101 b _ _ _ _ _ _ _ W hb ⟨fun _ => ⟨fun _ => st_in ?_, fun z => absurd hg z⟩, fun z => absurd ?_ z⟩
    · rw [inI_N hi, hni]
      cases hc : (A x i && !(hds q).contains i) with
      | false =>
        refine ⟨fun _ => ?_, fun z => absurd rfl z⟩
        rw [ci_1, nI_add]
        have e : bfsRow (A x) gs p (i :: (List.range 20).drop (i + 1)) q = bfsRow (A x) gs p ((List.range 20).drop (i + 1)) q := by rw [bfsRow, hc]; rfl
        rw [e] at h1 h2
        exact ih (i + 1) W q (by omega) (by omega) hI hp hS hg (fun v hv1 hv2 => hn v (by omega) hv2) h1 h2
      | true =>
        refine ⟨fun z => absurd z (by decide), fun _ => ⟨in_N hi (by omega), fun W11 e11 => ?_⟩⟩
        rw [nI_clamp (by omega)] at e11
        simp only [Bool.and_eq_true, Bool.not_eq_true', List.contains_eq_mem, decide_eq_false_iff_not] at hc
        have hnot := hc.2
        have f11 : EqX srl W W11 := by rw [e11]; exact EqX.uw (by simp [srl])
        have hR11 : RowR W11 155 (nL (hds q)) := hS.2.1.fr (l := [154]) (by rw [e11]; exact EqX.uw (by simp)) (by decide) (by decide)
        have hlq := hI.len
        have hhl : (hds q).length < 20 := by
          have h5 : (hds q ++ [i]).length ≤ 20 := nd_le 20 (by
            rw [List.nodup_append]
            exact ⟨hI.2.2.1, by simp, fun a ha c hcc e => hnot (by simp at hcc; rw [← hcc, ← e]; exact ha)⟩) (by
            intro y hy
            rcases List.mem_append.mp hy with z | z
            · exact hI.2.2.2.1 y z
            · simp at z; omega)
          simp at h5; omega
        refine row_add (r := 155) rfl hR11 (by rw [nL_len]; exact hhl) fun W12 r12 f12 => ?_
        have f12' : EqX srl W11 W12 := f12.mono (by decide)
        refine st_in ?_
        rw [inI_N hi, hgs i hi]
        have h154 : W12 154 = upd (W 154) i (nI x) := by
          rw [f12 154 (by decide), e11]
          simp [fl_uw]
        have hchq : ∀ r ∈ q, chn (W12 154) r := by
          intro r hr
          rw [h154]
          obtain ⟨j, hj⟩ := List.getElem?_of_mem hr
          obtain ⟨l, b1, b2, b3, b4, -⟩ := hI.2.1 j r hj
          exact chn_upd (fun z => hnot (b4 i z)) (hS.2.2 r hr)
        have hchp : chn (W12 154) (i :: p) := by
          cases hpl : p with
          | nil => trivial
          | cons u t =>
            have hux : u = x := by rw [hpl] at hpx; exact hpx
            refine ⟨?_, ?_⟩
            · rw [h154, hux]; simp [upd]
            · rw [← hpl]; exact hchq p (List.mem_of_getElem? hp)
        cases hgi : gs i with
        | false =>
          refine ⟨fun _ W14 e14 => ?_, fun z => absurd rfl z⟩
          rw [ci_1, nI_add]
          have f14 : EqX srl W12 W14 := by rw [e14]; exact EqX.uw (by simp [srl])
          have f14' : EqX [153] W12 W14 := by rw [e14]; exact EqX.uw (by simp)
          have hk := (List.getElem?_eq_some_iff.mp hp).1
          have hI' := hI.push hp hi (by rw [hpx]; exact hc.1) hnot hgi
          have fAll := (f11.tr f12').tr f14
          have e : bfsRow (A x) gs p (i :: (List.range 20).drop (i + 1)) q = bfsRow (A x) gs p ((List.range 20).drop (i + 1)) (q ++ [i :: p]) := by
            rw [bfsRow, if_pos (by simp [hc.1, hnot]), hgi]; rfl
          rw [e] at h1 h2
          refine ih (i + 1) W14 (q ++ [i :: p]) (by omega) (by omega) hI' (by rw [List.getElem?_append_left hk]; exact hp) ⟨hS.1.fr fAll (se_dis hb), ?_, ?_⟩ (by rw [e14, uw_s]; rfl) (fun v hv1 hv2 => ?_) (fun W' q' k1 k2 k3 k4 k5 => h1 W' q' k1 k2 k3 k4 (fAll.tr k5)) (fun W' g k1 k2 k3 k4 k5 => h2 W' g k1 k2 k3 k4 (fAll.tr k5))
          · rw [hds_app, nL_app]
            exact r12.fr f14' (by decide) (by decide)
          · intro r hr
            rw [f14' 154 (by decide)]
            rcases List.mem_append.mp hr with z | z
            · exact hchq r z
            · rw [List.mem_singleton.mp z]; exact hchp
          · rw [hn v (by omega) hv2, hds_app]
            congr 2
            rw [Bool.eq_iff_iff]
            simp
            omega
        | true =>
          refine ⟨fun z => absurd z (by decide), fun _ W15 e15 => ?_⟩
          have f15 : EqX srl W12 W15 := by rw [e15]; exact EqX.uw (by simp [srl])
          have fAll := (f11.tr f12').tr f15
          have e : bfsRow (A x) gs p (i :: (List.range 20).drop (i + 1)) q = .inl (i :: p) := by
            rw [bfsRow, if_pos (by simp [hc.1, hnot]), hgi]; rfl
          have fin := h2 W15 i e hi (by rw [e15, uw_s]) (by rw [e15, uw_n (by decide)]; exact hchp) fAll
          rw [ci_1, nI_add]
          refine sx_76_101 b _ _ _ _ _ _ _ W15 hb ⟨fun _ => ⟨fun z => ?_, fun _ => ?_⟩, fun _ => ?_⟩
          · rw [e15, uw_s] at z
            exact absurd z (nI_nm (by omega))
          · rw [ci_1, nI_add]; exact fin
          · rw [ci_1, nI_add]; exact fin
    · rw [cb_20]; exact nI_lt hi (by omega)
theorem se_outer {s : Nat} {th gs : Nat → Bool} {goals : Int32} (hb : fl_net b) (hs : s < 20) (hgs : BT goals gs) (hgss : gs s = false) (hdj : ∀ v, v < 20 → gs v = true → th v = false) :
    ∀ (f k : Nat) (q : List (List Nat)) (left : Int32) (W : fl_W), 21 ≤ f + k → k ≤ q.length → bInv (clA es th gs s) gs s q → sInv W b V es q → W 153 3 = -1 → BT left (fun v => th v && !(hds q).contains v) →
      (∀ W', sPost W' (bfs (clA es th gs s) gs f k q) → EqX srl W W' → Q none W') → hd_76_26 (d + 2) Q b (nI s) goals left (nI k) W := by
  intro f
  induction f with
  | zero =>
    intro k q left W h1 h2 hI
    have := hI.len
    omega
  | succ f ih =>
    intro k q left W h1 h2 hI hS hg hleft h
    have hlen := hI.len
    have hRlen : (nL (hds q)).length = q.length := by simp [nL, hds]
    -- what happens when the queue is at its end
    have stop : q[k]? = none → fl_cal (d + 2) 78 [.ref 153, .int (nI s)] W (fl_q0 fun W' => Q none W') := by
      intro hq
      refine se_traceNo hg fun W' k1 k2 => ?_
      show Q none W'
      refine h W' ?_ (k2.mono (by decide))
      rw [bfs, hq]
      exact ⟨by rw [k2 153 (by decide)]; exact hg, k1⟩
    refine sx_76_26 b _ _ _ _ W hb ⟨fun hk => ?_, fun hk => stop ?_⟩
    · refine row_size (r := 155) rfl hS.2.1 ?_
      rw [hRlen]
      refine ⟨fun hkq => ⟨fun _ => ?_, fun z => absurd hg z⟩, fun hkq => stop ?_⟩
      · rw [nI_ltI (by omega) (by omega)] at hkq
        have hk20 : k < 20 := by omega
        obtain ⟨p, hp⟩ : ∃ p, q[k]? = some p := ⟨_, List.getElem?_eq_getElem hkq⟩
        have hx20 : p.headD 0 < 20 := hI.2.2.2.1 _ (List.mem_map.mpr ⟨p, List.mem_of_getElem? hp, rfl⟩)
        generalize hx : p.headD 0 = x at hx20
        refine row_get (r := 155) rfl hS.2.1 ?_
        have hgx : getI (nL (hds q)) (nI k) = nI x := by
          refine getI_at (by omega) (nL_at ?_)
          rw [hds, List.getElem?_map, hp]
          show some (p.headD 0) = some x
          rw [hx]
        rw [hgx]
        have hV := hS.1.1
        -- the neighbours of x that are new
        have row : ∀ (y : Int32), BS y (adj es x) → mi_br (nI x = nI s)
            (hd_76_101 (d + 2) Q b (nI s) goals (left &&& ((y &&& left) ^^^ (Int32.ofInt (-1)))) (nI k) (nI x) (y &&& left) (Int32.ofInt 0) W)
            (hd_76_101 (d + 2) Q b (nI s) goals (left &&& ((y &&& (left ||| goals)) ^^^ (Int32.ofInt (-1)))) (nI k) (nI x) (y &&& (left ||| goals)) (Int32.ofInt 0) W) := by
          intro y hy
          -- one proof for both
          have both : ∀ (nx : Int32), (∀ v, v < 20 → sb nx v = (clA es th gs s x v && !(hds q).contains v)) → hd_76_101 (d + 2) Q b (nI s) goals (left &&& (nx ^^^ (Int32.ofInt (-1)))) (nI k) (nI x) nx (nI 0) W := by
            intro nx hnx
            refine se_inner (A := clA es th gs s) hb hgs hx hk20 20 0 W q rfl (by omega) hI hp hS hg (fun v _ hv => hnx v hv) (fun W' q' k1 k2 k3 k4 k5 => ?_) (fun W' g k1 k2 k3 k4 k5 => ?_)
            · rw [List.drop_zero] at k1
              have sp := bRow_spec (A := clA es th gs s) (goal := gs) (s := s) (k := k) (p := p) (List.range 20) q hI hp (fun v hv => List.mem_range.mp hv)
              rw [hx, k1] at sp
              refine ih (k + 1) q' _ W' (by omega) ?_ k2 k3 k4 (fun v hv => ?_) fun W'' j1 j2 => h W'' ?_ (k5.tr j2)
              · exact (List.getElem?_eq_some_iff.mp (sp.2.1 k p hp)).1
              · rw [sb_and, ci_m, sb_not _ (by omega), hleft v hv, hnx v hv]
                have hm := bRow_mem k1 v
                have hm2 := sp.2.2 v (List.mem_range.mpr hv)
                have hsub : v ∈ hds q → v ∈ hds q' := fun z => by
                  obtain ⟨r, hr, hrv⟩ := List.mem_map.mp z
                  obtain ⟨j, hj⟩ := List.getElem?_of_mem hr
                  exact List.mem_map.mpr ⟨r, List.mem_of_getElem? (sp.2.1 j r hj), hrv⟩
                rw [Bool.eq_iff_iff]
                simp only [Bool.and_eq_true, Bool.not_eq_true', Bool.and_eq_false_iff, List.contains_eq_mem, decide_eq_false_iff_not, decide_eq_true_eq, Bool.not_eq_false']
                constructor
                · rintro ⟨⟨z1, z2⟩, z3⟩
                  refine ⟨z1, fun z4 => ?_⟩
                  rcases hm z4 with z5 | z5
                  · exact z2 z5
                  · rcases z3 with z6 | z6
                    · rw [z5.1] at z6; cases z6
                    · exact z2 z6
                · rintro ⟨z1, z2⟩
                  refine ⟨⟨z1, fun z => z2 (hsub z)⟩, ?_⟩
                  cases hA : clA es th gs s x v with
                  | false => exact Or.inl rfl
                  | true => exact absurd (hm2 hA) z2
              · rw [bfs, hp]
                show sPost W'' (match bfsRow (clA es th gs s (p.headD 0)) gs p (List.range 20) q with
                  | .inl r => some r
                  | .inr q' => bfs (clA es th gs s) gs f (k + 1) q')
                rw [hx, k1]
                exact j1
            · rw [List.drop_zero] at k1
              have sp := bfs_spec (A := clA es th gs s) (goal := gs) (s := s) hgss
              have hb2 : bfs (clA es th gs s) gs (f + 1) k q = some (g :: p) := by
                rw [bfs, hp]
                show (match bfsRow (clA es th gs s (p.headD 0)) gs p (List.range 20) q with
                  | .inl r => some r
                  | .inr q' => bfs (clA es th gs s) gs f (k + 1) q') = _
                rw [hx, k1]
              obtain ⟨l, b1, b2, b3, b4, b5⟩ := hI.2.1 k p hp
              have tr : fl_cal (d + 2) 78 [.ref 153, .int (nI s)] W' (fl_q0 fun W'' => Q none W'') := by
                refine se_trace (l := l) hs k3 (by rw [← b1]; exact k4) b2 k2 (fun y hy => hI.2.2.2.1 y (b4 y (by rw [b1]; exact List.mem_append_left _ hy))) (by omega) fun W'' j1 j2 => ?_
                show Q none W''
                refine h W'' ?_ (k5.tr (j2.mono (by decide)))
                rw [hb2]
                refine ⟨by rw [j2 153 (by decide)]; exact k3, ?_⟩
                rw [b1, List.dropLast_concat]
                exact j1
              refine sx_76_26 b _ _ _ _ W' hb ⟨fun _ => sx_63 155 W' rfl ⟨fun _ => ⟨fun z => ?_, fun _ => tr⟩, fun _ => tr⟩, fun _ => tr⟩
              rw [k3] at z
              exact absurd z (nI_nm (by omega))
          refine ⟨fun e => ?_, fun e => ?_⟩
          · refine both (y &&& left) fun v hv => ?_
            have hlv : sb left v = (th v && !(hds q).contains v) := hleft v hv
            rw [sb_and, hy.lo v hv, hlv, clA, decide_eq_false (by rw [nI_eq (by omega) (by omega)] at e; simp [e])]
            cases adj es x v <;> cases th v <;> simp
          · refine both (y &&& (left ||| goals)) fun v hv => ?_
            have hxs : x ≠ s := fun z => e (by rw [z])
            have hlv : sb left v = (th v && !(hds q).contains v) := hleft v hv
            rw [sb_and, sb_or, hy.lo v hv, hlv, hgs v hv, clA, decide_eq_true hxs]
            cases hgv : gs v with
            | false => cases adj es x v <;> cases th v <;> simp
            | true =>
              have h3 := hdj v hv hgv
              have h4 : (hds q).contains v = false := by
                rw [List.contains_eq_mem, decide_eq_false_iff_not]
                intro z
                by_cases e2 : v = s
                · rw [e2, hgss] at hgv; cases hgv
                · rw [hI.2.2.2.2 v z e2] at hgv; cases hgv
              rw [h3, h4]
              cases adj es x v <;> simp
        by_cases hxV : x < V
        · refine net_around hb hS.1 hxV fun y hy => row y hy
        · refine net_aroundNo hb hS.1 (by rw [ixB_N (by omega), decide_eq_false hxV]) (row 0 (BS.zero.congr fun i hi => ?_))
          cases hA : adj es x i with
          | false => rfl
          | true => exact absurd (adj_lt hS.1.2.2.1 hA).1 hxV
      · rw [nI_ltI (by omega) (by omega)] at hkq
        exact List.getElem?_eq_none (by omega)
    · rw [cb_20, nI_ltI (by omega) (by omega)] at hk
      exact List.getElem?_eq_none (by omega)
/-- Search.seek: breadth first from s -/
theorem se_seek {s : Nat} {th gs : Nat → Bool} {through goals : Int32} (hb : fl_net b) (hN : NetR W b V es) (hs : s < 20) (hth : BT through th) (hgs : BT goals gs) (hths : th s = false) (hgss : gs s = false) (hdj : ∀ v, v < 20 → gs v = true → th v = false) (h : ∀ W', sPost W' (bfsP (clA es th gs s) gs s) → EqX srl W W' → Q none W') : fl_cal (d + 3) 76 [.ref 153, .ref b, .int (nI s), .int through, .int goals] W Q := by
  refine sx_76 b _ _ _ W hb fun W1 e1 => ?_
  have f1 : EqX srl W W1 := by rw [e1]; exact EqX.uw (by simp [srl])
  refine row_clear (r := 155) rfl fun W2 r2 f2 => ?_
  refine row_add (r := 155) rfl r2 (by decide) fun W3 r3 f3 => ?_
  have fA : EqX srl W W3 := (f1.tr (f2.mono (by decide))).tr (f3.mono (by decide))
  refine se_outer hb hs hgs hgss hdj 21 0 [[s]] through W3 (by omega) (Nat.zero_le _) (bInv.start hs) ⟨hN.fr fA (se_dis hb), r3, fun p hp => ?_⟩ ?_ (fun v hv => ?_) fun W' k1 k2 => h W' k1 (fA.tr k2)
  · rw [List.mem_singleton.mp hp]; trivial
  · rw [f3 153 (by decide), f2 153 (by decide), e1, uw_s]; rfl
  · show sb through v = (th v && !(hds [[s]]).contains v)
    rw [hth v hv]
    by_cases e : v = s
    · rw [e, hths]; rfl
    · simp [hds, e]
theorem se_straight {x : Int32} (h : ∀ W', W' 153 3 = x → RowR W' 157 [] → EqX srl W W' → Q none W') : fl_cal (d + 2) 77 [.ref 153, .int x] W Q := by
  refine sx_77 x W fun W1 e1 => row_clear (r := 157) rfl fun W2 r2 f2 => ?_
  refine h W2 (by rw [f2 153 (by decide), e1, uw_s]) r2 ?_
  exact (show EqX srl W W1 by rw [e1]; exact EqX.uw (by simp [srl])).tr (f2.mono (by decide))
end SEARCH
end
section
/-! ===== sums of bits, even sets of edges, forests and what closes with them ===== -/
def xsm {α : Type} (f : α → Bool) : List α → Bool
  | [] => false
  | a :: l => f a ^^ xsm f l
theorem xsm_congr {α : Type} {f g : α → Bool} : ∀ {l : List α}, (∀ a ∈ l, f a = g a) → xsm f l = xsm g l
  | [], _ => rfl
  | a :: l, h => by rw [xsm, xsm, h a List.mem_cons_self, xsm_congr fun b hb => h b (List.mem_cons_of_mem _ hb)]
theorem xsm_zero {α : Type} {f : α → Bool} {l : List α} (h : ∀ a ∈ l, f a = false) : xsm f l = false := by
  induction l with
  | nil => rfl
  | cons a l ih => rw [xsm, h a List.mem_cons_self, ih fun b hb => h b (List.mem_cons_of_mem _ hb)]; rfl
theorem xsm_xor {α : Type} (f g : α → Bool) : ∀ l : List α, xsm (fun a => f a ^^ g a) l = (xsm f l ^^ xsm g l)
  | [] => rfl
  | a :: l => by
    rw [xsm, xsm, xsm, xsm_xor f g l]
    cases f a <;> cases g a <;> cases xsm f l <;> cases xsm g l <;> rfl
theorem xsm_and {α : Type} (c : Bool) (f : α → Bool) : ∀ l : List α, xsm (fun a => c && f a) l = (c && xsm f l)
  | [] => by cases c <;> rfl
  | a :: l => by
    rw [xsm, xsm, xsm_and c f l]
    cases c <;> rfl
theorem xsm_swap {α β : Type} (f : α → β → Bool) (m : List β) : ∀ l : List α, xsm (fun a => xsm (fun b => f a b) m) l = xsm (fun b => xsm (fun a => f a b) l) m
  | [] => (xsm_zero fun _ _ => rfl).symm
  | a :: l => by
    rw [xsm, xsm_swap f m l, ← xsm_xor]
    rfl
theorem xsm_one {α : Type} [DecidableEq α] {f : α → Bool} {a : α} : ∀ {l : List α}, l.Nodup → a ∈ l → xsm (fun x => decide (x = a) && f x) l = f a
  | [], _, h => absurd h List.not_mem_nil
  | b :: l, hn, h => by
    rw [List.nodup_cons] at hn
    rw [xsm]
    by_cases e : b = a
    · subst e
      rw [decide_eq_true rfl, xsm_zero (f := fun x => decide (x = b) && f x) fun c hc => by rw [decide_eq_false fun (e : c = b) => hn.1 (e ▸ hc)]; rfl]
      cases f b <;> rfl
    · rw [decide_eq_false e, xsm_one hn.2 ((List.mem_cons.mp h).resolve_left fun z => e z.symm)]
      cases f a <;> rfl
theorem xsm_app {α : Type} (f : α → Bool) : ∀ (l m : List α), xsm f (l ++ m) = (xsm f l ^^ xsm f m)
  | [], m => by rw [List.nil_append, xsm]; cases xsm f m <;> rfl
  | a :: l, m => by
    rw [List.cons_append, xsm, xsm, xsm_app f l m]
    cases f a <;> cases xsm f l <;> cases xsm f m <;> rfl
/-- a sum that is odd has an odd term -/
theorem xsm_ex {α : Type} {f : α → Bool} : ∀ {l : List α}, xsm f l = true → ∃ a, a ∈ l ∧ f a = true
  | [], h => by cases h
  | a :: l, h => by
    rw [xsm] at h
    cases hf : f a with
    | true => exact ⟨a, List.mem_cons_self, hf⟩
    | false =>
      rw [hf] at h
      obtain ⟨b, h1, h2⟩ := xsm_ex (by simpa using h)
      exact ⟨b, List.mem_cons_of_mem _ h1, h2⟩
/-- an even sum with an odd term has another one -/
theorem xsm_two {α : Type} {f : α → Bool} : ∀ {l : List α}, xsm f l = false → ∀ a, a ∈ l → l.Nodup → f a = true → ∃ b, b ∈ l ∧ b ≠ a ∧ f b = true
  | [], _, a, h, _, _ => absurd h List.not_mem_nil
  | c :: l, h, a, ha, hn, hf => by
    rw [List.nodup_cons] at hn
    rw [xsm] at h
    rcases List.mem_cons.mp ha with e | e
    · subst e
      rw [hf] at h
      obtain ⟨b, h1, h2⟩ := xsm_ex (f := f) (l := l) (by simpa using h)
      exact ⟨b, List.mem_cons_of_mem _ h1, fun z => hn.1 (z ▸ h1), h2⟩
    · cases hc : f c with
      | true => exact ⟨c, List.mem_cons_self, fun z => hn.1 (z ▸ e), hc⟩
      | false =>
        rw [hc] at h
        obtain ⟨b, h1, h2, h3⟩ := xsm_two (f := f) (l := l) (by simpa using h) a e hn.2 hf
        exact ⟨b, List.mem_cons_of_mem _ h1, h2, h3⟩
def inc (p : Nat × Nat) (v : Nat) : Bool := decide (v = p.1) || decide (v = p.2)
theorem inc_iff {p : Nat × Nat} {v : Nat} : inc p v = true ↔ v = p.1 ∨ v = p.2 := by simp [inc]
theorem inc_xor {p : Nat × Nat} (h : p.1 ≠ p.2) (v : Nat) : inc p v = (decide (v = p.1) ^^ decide (v = p.2)) := by
  unfold inc
  by_cases h1 : v = p.1
  · by_cases h2 : v = p.2
    · exact absurd (h1.symm.trans h2) h
    · simp [h1, h2, h]
  · by_cases h2 : v = p.2 <;> simp [h1, h2, Ne.symm h]
/-- the forest's edge of x -/
def te (par : Nat → Nat) (x : Nat) : Nat × Nat := (min x (par x), max x (par x))
theorem inc_te {par : Nat → Nat} {x v : Nat} : inc (te par x) v = (decide (v = x) || decide (v = par x)) := by
  rw [Bool.eq_iff_iff, inc_iff]
  simp only [te, Bool.or_eq_true, decide_eq_true_eq]
  omega
def ev (V : Nat) (es : gE) (C : Nat × Nat → Bool) : Prop := ∀ v, v < V → xsm (fun g => C g && inc g v) es = false
def FC (V : Nat) (es : gE) (far par : Nat → Nat) (X : Nat × Nat → Nat → Bool) : Prop :=
  (∀ x, x < V → far x ≠ 0 → par x < V ∧ far x = far (par x) + 1 ∧ te par x ∈ es) ∧
  (∀ g, g ∈ es → ∀ x, X g x = true → x < V ∧ far x ≠ 0) ∧
  (∀ g, g ∈ es → ∀ v, v < V → inc g v = xsm (fun x => X g x && inc (te par x) v) (List.range V)) ∧
  (∀ z, z < V → far z ≠ 0 → ∀ x, x < V → X (te par z) x = decide (x = z))
section FCS
variable {V : Nat} {es : gE} {far par : Nat → Nat} {X : Nat × Nat → Nat → Bool}
theorem fc_bd (far : Nat → Nat) : ∀ V : Nat, ∃ M, ∀ y, y < V → far y ≤ M
  | 0 => ⟨0, fun y hy => by omega⟩
  | V + 1 => by
    obtain ⟨M, hM⟩ := fc_bd far V
    refine ⟨M + far V, fun y hy => ?_⟩
    by_cases e : y = V
    · subst e; omega
    · have := hM y (by omega); omega
theorem fc_ne (h : FC V es far par X) {x : Nat} (hx : x < V) (hf : far x ≠ 0) : par x ≠ x := fun e => by
  have := (h.1 x hx hf).2.1
  rw [e] at this
  omega
/-- each vertex of the forest is gone over an even number of times by an even set -/
theorem fc_K (h : FC V es far par X) {C : Nat × Nat → Bool} (hC : ev V es C) : ∀ (n x : Nat), x < V → far x ≠ 0 → (∀ y, y < V → far y ≤ far x + n) → xsm (fun g => C g && X g x) es = false := by
  have main : ∀ x, x < V → far x ≠ 0 → (∀ y, y < V → far y ≠ 0 → y ≠ x → par y = x → xsm (fun g => C g && X g y) es = false) → xsm (fun g => C g && X g x) es = false := by
    intro x hx hf hch
    have h0 := hC x hx
    have h1 : xsm (fun g => C g && inc g x) es = xsm (fun g => xsm (fun y => C g && (X g y && inc (te par y) x)) (List.range V)) es :=
      xsm_congr fun g hg => by rw [h.2.2.1 g hg x hx, xsm_and]
    rw [h1, xsm_swap] at h0
    have h2 : xsm (fun y => xsm (fun g => C g && (X g y && inc (te par y) x)) es) (List.range V) = xsm (fun y => decide (y = x) && xsm (fun g => C g && X g x) es) (List.range V) := by
      refine xsm_congr fun y hy => ?_
      have hyV := List.mem_range.mp hy
      have e1 : xsm (fun g => C g && (X g y && inc (te par y) x)) es = (inc (te par y) x && xsm (fun g => C g && X g y) es) := by
        rw [← xsm_and]
        exact xsm_congr fun g _ => by cases C g <;> cases X g y <;> cases inc (te par y) x <;> rfl
      rw [e1]
      by_cases e : y = x
      · subst e
        rw [inc_te, decide_eq_true rfl, Bool.true_or]
      · rw [decide_eq_false e, Bool.false_and]
        by_cases hfy : far y = 0
        · rw [xsm_zero (f := fun g => C g && X g y) fun g hg => ?_, Bool.and_false]
          cases hX : X g y with
          | false => exact Bool.and_false _
          | true => exact absurd hfy (h.2.1 g hg y hX).2
        · by_cases hp : par y = x
          · rw [hch y hyV hfy e hp, Bool.and_false]
          · rw [inc_te, decide_eq_false fun z => e z.symm, decide_eq_false fun z => hp z.symm]; rfl
    rw [h2, xsm_one List.nodup_range (List.mem_range.mpr hx)] at h0
    exact h0
  intro n
  induction n with
  | zero =>
    intro x hx hf hb
    refine main x hx hf fun y hy hfy hyx hp => ?_
    have h1 := (h.1 y hy hfy).2.1
    have h2 := hb y hy
    rw [hp] at h1
    omega
  | succ n ih =>
    intro x hx hf hb
    refine main x hx hf fun y hy hfy hyx hp => ih y hy hfy fun z hz => ?_
    have h1 := (h.1 y hy hfy).2.1
    rw [hp] at h1
    have := hb z hz
    omega
theorem fc_k (h : FC V es far par X) {C : Nat × Nat → Bool} (hC : ev V es C) {x : Nat} (hx : x < V) (hf : far x ≠ 0) : xsm (fun g => C g && X g x) es = false := by
  obtain ⟨M, hM⟩ := fc_bd far V
  exact fc_K h hC M x hx hf fun y hy => by have := hM y hy; omega
/-- a class of labels cuts an even set evenly -/
theorem fc_cut (h : FC V es far par X) {C : Nat × Nat → Bool} (hC : ev V es C) {P : Nat × Nat → Bool} (hP : ∀ g, g ∈ es → ∀ x, X g x = true → P g = P (te par x)) : ev V es (fun g => C g && P g) := by
  intro v hv
  have h1 : xsm (fun g => C g && P g && inc g v) es = xsm (fun g => xsm (fun y => C g && P g && (X g y && inc (te par y) v)) (List.range V)) es :=
    xsm_congr fun g hg => by rw [h.2.2.1 g hg v hv, xsm_and]
  rw [h1, xsm_swap]
  refine xsm_zero fun y hy => ?_
  have hyV := List.mem_range.mp hy
  have e1 : xsm (fun g => C g && P g && (X g y && inc (te par y) v)) es = ((P (te par y) && inc (te par y) v) && xsm (fun g => C g && X g y) es) := by
    rw [← xsm_and]
    refine xsm_congr fun g hg => ?_
    cases hX : X g y with
    | false => simp
    | true => rw [hP g hg y hX]; cases C g <;> cases P (te par y) <;> cases inc (te par y) v <;> rfl
  rw [e1]
  by_cases hfy : far y = 0
  · rw [xsm_zero (f := fun g => C g && X g y) fun g hg => ?_, Bool.and_false]
    cases hX : X g y with
    | false => exact Bool.and_false _
    | true => exact absurd hfy (h.2.1 g hg y hX).2
  · rw [fc_k h hC hyV hfy, Bool.and_false]
/-- the edges of the forest -/
def isT (V : Nat) (far par : Nat → Nat) (g : Nat × Nat) : Prop := ∃ z, z < V ∧ far z ≠ 0 ∧ te par z = g
theorem te_inj (h : FC V es far par X) {x y : Nat} (hx : x < V) (hy : y < V) (fx : far x ≠ 0) (fy : far y ≠ 0) (e : te par x = te par y) : x = y := by
  have h1 := (h.1 x hx fx).2.1
  have h2 := (h.1 y hy fy).2.1
  simp only [te, Prod.mk.injEq] at e
  by_cases q : x = y
  · exact q
  · have h3 : x = par y := by omega
    have h4 : y = par x := by omega
    rw [← h3] at h2
    rw [← h4] at h1
    omega
/-- an even set of edges of the forest is empty -/
theorem fc_empty (h : FC V es far par X) (hn : es.Nodup) {C : Nat × Nat → Bool} (hC : ev V es C) (hT : ∀ g, g ∈ es → C g = true → isT V far par g) : ∀ g, g ∈ es → C g = false := by
  intro g hg
  cases hc : C g with
  | false => rfl
  | true =>
    obtain ⟨z, hz, fz, e⟩ := hT g hg hc
    have h1 := fc_k h hC hz fz
    have h2 : xsm (fun g => C g && X g z) es = xsm (fun g' => decide (g' = g) && C g') es := by
      refine xsm_congr fun g' hg' => ?_
      cases hc' : C g' with
      | false => simp
      | true =>
        obtain ⟨y, hy, fy, e'⟩ := hT g' hg' hc'
        rw [← e', h.2.2.2 y hy fy z hz, ← e, Bool.and_true, Bool.true_and, Bool.eq_iff_iff, decide_eq_true_iff, decide_eq_true_iff]
        exact ⟨fun q => by rw [q], fun q => (te_inj h hy hz fy fz q).symm⟩
    rw [h2, xsm_one hn hg, hc] at h1
    cases h1
/-- the ring that an edge closes with the forest -/
def rgC (V : Nat) (par : Nat → Nat) (X : Nat × Nat → Nat → Bool) (g0 g : Nat × Nat) : Bool := decide (g = g0) ^^ xsm (fun x => X g0 x && decide (g = te par x)) (List.range V)
theorem rgC_ev (h : FC V es far par X) (hn : es.Nodup) {g0 : Nat × Nat} (hg0 : g0 ∈ es) : ev V es (rgC V par X g0) := by
  intro v hv
  have h1 : xsm (fun g => rgC V par X g0 g && inc g v) es = (xsm (fun g => decide (g = g0) && inc g v) es ^^ xsm (fun g => xsm (fun x => X g0 x && (decide (g = te par x) && inc g v)) (List.range V)) es) := by
    rw [← xsm_xor]
    refine xsm_congr fun g _ => ?_
    have e1 : xsm (fun x => X g0 x && (decide (g = te par x) && inc g v)) (List.range V) = (inc g v && xsm (fun x => X g0 x && decide (g = te par x)) (List.range V)) := by
      rw [← xsm_and]
      exact xsm_congr fun x _ => by cases X g0 x <;> cases decide (g = te par x) <;> cases inc g v <;> rfl
    rw [e1, rgC]
    cases inc g v <;> simp
  rw [h1, xsm_one hn hg0, xsm_swap, h.2.2.1 g0 hg0 v hv, ← xsm_xor]
  refine xsm_zero fun x hx => ?_
  cases hX : X g0 x with
  | false =>
    have e3 : xsm (fun a => false && (decide (a = te par x) && inc a v)) es = false := xsm_zero fun _ _ => rfl
    rw [e3]; rfl
  | true =>
    obtain ⟨a1, a2⟩ := h.2.1 g0 hg0 x hX
    have e2 : xsm (fun g => true && (decide (g = te par x) && inc g v)) es = inc (te par x) v := by
      have := xsm_one (f := fun g => inc g v) hn (h.1 x a1 a2).2.2
      rw [← this]
      exact xsm_congr fun g _ => Bool.true_and _
    rw [e2]
    cases inc (te par x) v <;> rfl
theorem rgC_te (h : FC V es far par X) {g0 : Nat × Nat} (hg0 : g0 ∈ es) (hT : ¬ isT V far par g0) {x : Nat} (hX : X g0 x = true) : rgC V par X g0 (te par x) = true := by
  obtain ⟨a1, a2⟩ := h.2.1 g0 hg0 x hX
  have h1 : xsm (fun y => X g0 y && decide (te par x = te par y)) (List.range V) = xsm (fun y => decide (y = x) && X g0 y) (List.range V) := by
    refine xsm_congr fun y hy => ?_
    cases hXy : X g0 y with
    | false => simp
    | true =>
      obtain ⟨b1, b2⟩ := h.2.1 g0 hg0 y hXy
      rw [Bool.true_and, Bool.and_true, Bool.eq_iff_iff, decide_eq_true_iff, decide_eq_true_iff]
      exact ⟨fun e => (te_inj h a1 b1 a2 b2 e).symm, fun e => by rw [e]⟩
  rw [rgC, h1, xsm_one List.nodup_range (List.mem_range.mpr a1), hX, decide_eq_false fun e => hT ⟨x, a1, a2, e⟩]
  rfl
theorem rgC_self (h : FC V es far par X) {g0 : Nat × Nat} (hg0 : g0 ∈ es) (hT : ¬ isT V far par g0) : rgC V par X g0 g0 = true := by
  rw [rgC, decide_eq_true rfl, xsm_zero fun x _ => ?_]
  · rfl
  · cases hX : X g0 x with
    | false => rfl
    | true =>
      obtain ⟨a1, a2⟩ := h.2.1 g0 hg0 x hX
      rw [decide_eq_false fun e => hT ⟨x, a1, a2, e.symm⟩]; rfl
theorem rgC_mem {g0 g : Nat × Nat} (h : rgC V par X g0 g = true) : g = g0 ∨ ∃ x, X g0 x = true ∧ g = te par x := by
  rw [rgC] at h
  by_cases e : g = g0
  · exact Or.inl e
  · rw [decide_eq_false e] at h
    obtain ⟨x, _, hx⟩ := xsm_ex (f := fun x => X g0 x && decide (g = te par x)) (l := List.range V) (by simpa using h)
    simp only [Bool.and_eq_true, decide_eq_true_eq] at hx
    exact Or.inr ⟨x, hx⟩
/-- what is even within a ring is all of it or nothing -/
theorem rgC_min (h : FC V es far par X) (hn : es.Nodup) {g0 : Nat × Nat} (hg0 : g0 ∈ es) (hT : ¬ isT V far par g0) {P : Nat × Nat → Bool} (hP : ev V es (fun g => rgC V par X g0 g && P g)) : ∀ x, X g0 x = true → P g0 = P (te par x) := by
  -- the part of the ring that doesn't go with g0 is even and lies in the forest
  have hE : ∀ c, P g0 = c → ∀ g, g ∈ es → (rgC V par X g0 g && (P g ^^ c)) = false := by
    intro c hc
    refine fc_empty h hn ?_ ?_
    · intro v hv
      have h1 := hP v hv
      have h2 := rgC_ev h hn hg0 v hv
      cases c with
      | false =>
        refine Eq.trans ?_ h1
        exact xsm_congr fun g _ => by simp
      | true =>
        have h3 : xsm (fun g => rgC V par X g0 g && (P g ^^ true) && inc g v) es = (xsm (fun g => rgC V par X g0 g && P g && inc g v) es ^^ xsm (fun g => rgC V par X g0 g && inc g v) es) := by
          rw [← xsm_xor]
          exact xsm_congr fun g _ => by cases rgC V par X g0 g <;> cases P g <;> cases inc g v <;> rfl
        rw [h3, h1, h2]; rfl
    · intro g _ hc2
      simp only [Bool.and_eq_true] at hc2
      rcases rgC_mem hc2.1 with e | ⟨x, hX, e⟩
      · rw [e, hc] at hc2
        cases c <;> simp at hc2
      · obtain ⟨a1, a2⟩ := h.2.1 g0 hg0 x hX
        exact ⟨x, a1, a2, e.symm⟩
  intro x hX
  obtain ⟨a1, a2⟩ := h.2.1 g0 hg0 x hX
  have h4 := hE (P g0) rfl (te par x) (h.1 x a1 a2).2.2
  rw [rgC_te h hg0 hT hX] at h4
  cases hP0 : P g0 <;> cases hPx : P (te par x) <;> simp_all
end FCS
end
section
/-! ===== blocks: labels of edges that rings make, whatever the forest ===== -/
def lbC (es : gE) (par : Nat → Nat) (X : Nat × Nat → Nat → Bool) (L : Nat × Nat → Nat) : Prop := ∀ g, g ∈ es → ∀ x, X g x = true → L g = L (te par x)
def lbS (es : gE) (par : Nat → Nat) (X : Nat × Nat → Nat → Bool) (L : Nat × Nat → Nat) : Prop := ∀ f : Nat × Nat → Nat, lbC es par X f → ∀ g, g ∈ es → ∀ g', g' ∈ es → L g = L g' → f g = f g'
def BlkOK (V : Nat) (es : gE) (L : Nat × Nat → Nat) : Prop := ∃ far par X, FC V es far par X ∧ lbC es par X L ∧ lbS es par X L
theorem blk_sub {V : Nat} {es : gE} (hO : okE V es) {far par far' par' : Nat → Nat} {X X' : Nat × Nat → Nat → Bool} {L' : Nat × Nat → Nat} (hF : FC V es far par X) (hF' : FC V es far' par' X') (hC' : lbC es par' X' L') : lbC es par X L' := by
  intro g hg x hX
  by_cases hT : isT V far par g
  · obtain ⟨z, hz, fz, e⟩ := hT
    have hxV := (hF.2.1 g hg x hX).1
    rw [← e, hF.2.2.2 z hz fz x hxV] at hX
    rw [of_decide_eq_true hX, e]
  · have h1 := fc_cut hF' (rgC_ev hF hO.2 hg) (P := fun q => decide (L' q = L' g)) fun q hq y hy => by rw [hC' q hq y hy]
    have h2 := rgC_min hF hO.2 hg hT h1 x hX
    rw [decide_eq_true rfl] at h2
    exact (of_decide_eq_true h2.symm).symm
theorem blk_uniq {V : Nat} {es : gE} (hO : okE V es) {L L' : Nat × Nat → Nat} (h : BlkOK V es L) (h' : BlkOK V es L') : ∀ g, g ∈ es → ∀ g', g' ∈ es → (L g = L g' ↔ L' g = L' g') := by
  obtain ⟨far, par, X, hF, hC, hS⟩ := h
  obtain ⟨far', par', X', hF', hC', hS'⟩ := h'
  intro g hg g' hg'
  exact ⟨hS L' (blk_sub hO hF hF' hC') g hg g' hg', hS' L (blk_sub hO hF' hF hC) g hg g' hg'⟩
theorem xsm_inc {V : Nat} {g : Nat × Nat} (h : g.1 < g.2 ∧ g.2 < V) : xsm (fun v => inc g v) (List.range V) = false := by
  have h1 : xsm (fun v => inc g v) (List.range V) = (xsm (fun v => decide (v = g.1) && true) (List.range V) ^^ xsm (fun v => decide (v = g.2) && true) (List.range V)) := by
    rw [← xsm_xor]
    exact xsm_congr fun v _ => by rw [inc_xor (by omega), Bool.and_true, Bool.and_true]
  rw [h1, xsm_one (f := fun _ => true) List.nodup_range (List.mem_range.mpr (by omega)), xsm_one (f := fun _ => true) List.nodup_range (List.mem_range.mpr (by omega))]
  rfl
theorem hand {V : Nat} {es : gE} (hO : okE V es) (A : Nat × Nat → Bool) : xsm (fun v => xsm (fun g => A g && inc g v) es) (List.range V) = false := by
  rw [xsm_swap]
  refine xsm_zero fun g hg => ?_
  rw [xsm_and, xsm_inc (hO.1 g hg), Bool.and_false]
/-- two vertices stand between a part of a block and the rest of it -/
theorem blk_two {V : Nat} {es : gE} (hO : okE V es) {L : Nat × Nat → Nat} (h : BlkOK V es L) {P : Nat × Nat → Bool} {p q : Nat × Nat} (hp : p ∈ es) (hq : q ∈ es) (hL : L p = L q) (hP : P p = true) (hQ : P q = false) :
    ∃ v1 v2, v1 ≠ v2 ∧ ∀ v, v = v1 ∨ v = v2 → (∃ g, g ∈ es ∧ L g = L p ∧ P g = true ∧ inc g v = true) ∧ ∃ g, g ∈ es ∧ L g = L p ∧ P g = false ∧ inc g v = true := by
  obtain ⟨far, par, X, hF, hC, hS⟩ := h
  have h1 : ∃ g x, g ∈ es ∧ X g x = true ∧ L g = L p ∧ P g ≠ P (te par x) := by
    refine Classical.byContradiction fun hno => ?_
    have h2 : lbC es par X (fun g => if L g = L p then (if P g then 1 else 0) else 2) := by
      intro g hg x hX
      have h3 := hC g hg x hX
      simp only [← h3]
      by_cases e : L g = L p
      · rw [if_pos e, if_pos e]
        by_cases e2 : P g = P (te par x)
        · rw [e2]
        · exact absurd ⟨g, x, hg, hX, e, e2⟩ hno
      · rw [if_neg e, if_neg e]
    have h4 := hS _ h2 p hp q hq hL
    simp [hL, hP, hQ] at h4
  obtain ⟨g, x, hg, hX, hLg, hne⟩ := h1
  have hT : ¬ isT V far par g := by
    rintro ⟨z, hz, fz, e⟩
    have hxV := (hF.2.1 g hg x hX).1
    rw [← e, hF.2.2.2 z hz fz x hxV] at hX
    rw [of_decide_eq_true hX, e] at hne
    exact hne rfl
  have hlab : ∀ g', g' ∈ es → rgC V par X g g' = true → L g' = L p := by
    intro g' _ hr
    rcases rgC_mem hr with e | ⟨y, hy, e⟩
    · rw [e, hLg]
    · rw [e, ← hC g hg y hy, hLg]
  have hodd : ∃ v1, v1 < V ∧ xsm (fun g' => rgC V par X g g' && P g' && inc g' v1) es = true := by
    refine Classical.byContradiction fun hno => hne (rgC_min hF hO.2 hg hT (P := P) (fun v hv => ?_) x hX)
    cases hc : xsm (fun g' => (rgC V par X g g' && P g') && inc g' v) es with
    | false => rfl
    | true => exact absurd ⟨v, hv, hc⟩ hno
  obtain ⟨v1, hv1, ho1⟩ := hodd
  obtain ⟨v2, hv2, hne2, ho2⟩ := xsm_two (hand hO fun g' => rgC V par X g g' && P g') v1 (List.mem_range.mpr hv1) List.nodup_range ho1
  have both : ∀ v, v < V → xsm (fun g' => rgC V par X g g' && P g' && inc g' v) es = true → (∃ g, g ∈ es ∧ L g = L p ∧ P g = true ∧ inc g v = true) ∧ ∃ g, g ∈ es ∧ L g = L p ∧ P g = false ∧ inc g v = true := by
    intro v hv ho
    constructor
    · obtain ⟨a, ha, hb⟩ := xsm_ex ho
      simp only [Bool.and_eq_true] at hb
      exact ⟨a, ha, hlab a ha hb.1.1, hb.1.2, hb.2⟩
    · have h5 : xsm (fun g' => rgC V par X g g' && !P g' && inc g' v) es = true := by
        have h6 := rgC_ev hF hO.2 hg v hv
        have h7 : xsm (fun g' => rgC V par X g g' && inc g' v) es = (xsm (fun g' => rgC V par X g g' && P g' && inc g' v) es ^^ xsm (fun g' => rgC V par X g g' && !P g' && inc g' v) es) := by
          rw [← xsm_xor]
          exact xsm_congr fun g' _ => by cases rgC V par X g g' <;> cases P g' <;> cases inc g' v <;> rfl
        rw [h7, ho] at h6
        simpa using h6
      obtain ⟨a, ha, hb⟩ := xsm_ex h5
      simp only [Bool.and_eq_true, Bool.not_eq_true'] at hb
      exact ⟨a, ha, hlab a ha hb.1.1, hb.1.2, hb.2⟩
  refine ⟨v1, v2, Ne.symm hne2, fun v hv => ?_⟩
  rcases hv with e | e
  · rw [e]; exact both v1 hv1 ho1
  · rw [e]; exact both v2 (List.mem_range.mp hv2) ho2
/-! ===== numbers of labels in the order of their first edges ===== -/
def dst : List Nat → List Nat → List Nat
  | acc, [] => acc
  | acc, a :: l => dst (if a ∈ acc then acc else acc ++ [a]) l
theorem dst_app : ∀ (l m acc : List Nat), dst acc (l ++ m) = dst (dst acc l) m
  | [], m, acc => rfl
  | a :: l, m, acc => by rw [List.cons_append, dst, dst, dst_app l m]
theorem dst_mem : ∀ (l acc : List Nat) (x : Nat), x ∈ dst acc l ↔ x ∈ acc ∨ x ∈ l
  | [], acc, x => by simp [dst]
  | a :: l, acc, x => by
    rw [dst, dst_mem l]
    by_cases h : a ∈ acc
    · rw [if_pos h, List.mem_cons]
      constructor
      · rintro (q | q)
        · exact Or.inl q
        · exact Or.inr (Or.inr q)
      · rintro (q | q | q)
        · exact Or.inl q
        · exact Or.inl (q ▸ h)
        · exact Or.inr q
    · rw [if_neg h, List.mem_append, List.mem_singleton, List.mem_cons, or_assoc]
theorem dst_nd : ∀ (l acc : List Nat), acc.Nodup → (dst acc l).Nodup
  | [], acc, h => h
  | a :: l, acc, h => by
    rw [dst]
    refine dst_nd l _ ?_
    by_cases q : a ∈ acc
    · rw [if_pos q]; exact h
    · rw [if_neg q, List.nodup_append]
      exact ⟨h, by simp, fun x hx y hy e => q (by simp at hy; rw [← hy, ← e]; exact hx)⟩
theorem dst_pre : ∀ (l acc : List Nat), ∃ t, dst acc l = acc ++ t
  | [], acc => ⟨[], by simp [dst]⟩
  | a :: l, acc => by
    rw [dst]
    obtain ⟨t, ht⟩ := dst_pre l (if a ∈ acc then acc else acc ++ [a])
    by_cases q : a ∈ acc
    · rw [if_pos q] at ht ⊢; exact ⟨t, ht⟩
    · rw [if_neg q] at ht ⊢; exact ⟨a :: t, by rw [ht]; simp⟩
theorem idx_app {l t : List Nat} {x : Nat} (h : x ∈ l) : (l ++ t).idxOf x = l.idxOf x := by rw [List.idxOf_append, if_pos h]
theorem idx_at {l : List Nat} {x : Nat} (h : x ∈ l) : l[l.idxOf x]? = some x := by
  rw [List.getElem?_eq_getElem (List.idxOf_lt_length_of_mem h)]
  simp
/-- the number of the block of g -/
def bnum (es : gE) (L : Nat × Nat → Nat) (g : Nat × Nat) : Nat := (dst [] (es.map L)).idxOf (L g)
def bcnt (es : gE) (L : Nat × Nat → Nat) : Nat := (dst [] (es.map L)).length
theorem bnum_lt {es : gE} {L : Nat × Nat → Nat} {g : Nat × Nat} (hg : g ∈ es) : bnum es L g < bcnt es L := List.idxOf_lt_length_of_mem ((dst_mem _ _ _).mpr (Or.inr (List.mem_map.mpr ⟨g, hg, rfl⟩)))
theorem bnum_eq {es : gE} {L : Nat × Nat → Nat} {g g' : Nat × Nat} (hg : g ∈ es) (hg' : g' ∈ es) : bnum es L g = bnum es L g' ↔ L g = L g' := by
  constructor
  · intro h
    have m1 : L g ∈ dst [] (es.map L) := (dst_mem _ _ _).mpr (Or.inr (List.mem_map.mpr ⟨g, hg, rfl⟩))
    have m2 : L g' ∈ dst [] (es.map L) := (dst_mem _ _ _).mpr (Or.inr (List.mem_map.mpr ⟨g', hg', rfl⟩))
    have e1 := idx_at m1
    have e2 := idx_at m2
    rw [show (dst [] (es.map L)).idxOf (L g) = (dst [] (es.map L)).idxOf (L g') from h, e2] at e1
    exact (Option.some.inj e1).symm
  · intro h
    rw [bnum, bnum, h]
theorem bnum_ex {es : gE} {L : Nat × Nat → Nat} {b : Nat} (hb : b < bcnt es L) : ∃ g, g ∈ es ∧ bnum es L g = b := by
  have hm : (dst [] (es.map L))[b]'hb ∈ dst [] (es.map L) := List.getElem_mem hb
  rcases (dst_mem _ _ _).mp hm with z | z
  · exact absurd z List.not_mem_nil
  · obtain ⟨g, hg, e⟩ := List.mem_map.mp z
    refine ⟨g, hg, ?_⟩
    rw [bnum, e]
    exact (dst_nd _ _ List.nodup_nil).idxOf_getElem b hb
/-- equivalent labels have the same numbers -/
theorem dst_same {L L' : Nat × Nat → Nat} : ∀ (n : Nat) (l : gE), l.length = n → (∀ g, g ∈ l → ∀ g', g' ∈ l → (L g = L g' ↔ L' g = L' g')) → bcnt l L = bcnt l L' ∧ ∀ g, g ∈ l → bnum l L g = bnum l L' g := by
  intro n
  induction n with
  | zero =>
    intro l hl _
    rw [List.length_eq_zero_iff.mp hl]
    exact ⟨rfl, fun g hg => absurd hg List.not_mem_nil⟩
  | succ n ih =>
    intro l hl h
    have hne : l ≠ [] := fun e => by rw [e] at hl; simp at hl
    obtain ⟨l0, p, rfl⟩ : ∃ l0 p, l = l0 ++ [p] := ⟨l.dropLast, l.getLast hne, (List.dropLast_concat_getLast hne).symm⟩
    obtain ⟨i1, i2⟩ := ih l0 (by simpa using hl) fun g hg g' hg' => h g (List.mem_append_left _ hg) g' (List.mem_append_left _ hg')
    have hdef : ∀ M : Nat × Nat → Nat, dst [] ((l0 ++ [p]).map M) = if M p ∈ dst [] (l0.map M) then dst [] (l0.map M) else dst [] (l0.map M) ++ [M p] := fun M => by
      rw [List.map_append, dst_app]; rfl
    have hmem : ∀ M : Nat × Nat → Nat, M p ∈ dst [] (l0.map M) ↔ ∃ g, g ∈ l0 ∧ M g = M p := fun M => by
      rw [dst_mem]
      constructor
      · rintro (z | z)
        · exact absurd z List.not_mem_nil
        · obtain ⟨g, a, b⟩ := List.mem_map.mp z; exact ⟨g, a, b⟩
      · rintro ⟨g, a, b⟩; exact Or.inr (List.mem_map.mpr ⟨g, a, b⟩)
    have hiff : L p ∈ dst [] (l0.map L) ↔ L' p ∈ dst [] (l0.map L') := by
      rw [hmem, hmem]
      constructor
      · rintro ⟨g, a, b⟩; exact ⟨g, a, (h g (List.mem_append_left _ a) p (by simp)).mp b⟩
      · rintro ⟨g, a, b⟩; exact ⟨g, a, (h g (List.mem_append_left _ a) p (by simp)).mpr b⟩
    have hin : ∀ M : Nat × Nat → Nat, ∀ g, g ∈ l0 → M g ∈ dst [] (l0.map M) := fun M g hg => (dst_mem _ _ _).mpr (Or.inr (List.mem_map.mpr ⟨g, hg, rfl⟩))
    by_cases q : L p ∈ dst [] (l0.map L)
    · have q' := hiff.mp q
      have e1 : ∀ g, bnum (l0 ++ [p]) L g = bnum l0 L g := fun g => by rw [bnum, hdef, if_pos q, bnum]
      have e2 : ∀ g, bnum (l0 ++ [p]) L' g = bnum l0 L' g := fun g => by rw [bnum, hdef, if_pos q', bnum]
      refine ⟨by rw [bcnt, bcnt, hdef, hdef, if_pos q, if_pos q']; exact i1, fun g hg => ?_⟩
      rw [e1, e2]
      rcases List.mem_append.mp hg with z | z
      · exact i2 g z
      · rw [List.mem_singleton.mp z]
        obtain ⟨g1, a, b⟩ := (hmem L).mp q
        have b' := (h g1 (List.mem_append_left _ a) p (by simp)).mp b
        have := i2 g1 a
        rw [bnum, bnum, b, b'] at this
        exact this
    · have q' := fun z => q (hiff.mpr z)
      refine ⟨by rw [bcnt, bcnt, hdef, hdef, if_neg q, if_neg q', List.length_append, List.length_append]; rw [bcnt, bcnt] at i1; rw [i1]; rfl, fun g hg => ?_⟩
      rw [bnum, bnum, hdef, hdef, if_neg q, if_neg q']
      rcases List.mem_append.mp hg with z | z
      · rw [idx_app (hin L g z), idx_app (hin L' g z)]
        exact i2 g z
      · rw [List.mem_singleton.mp z, List.idxOf_append, List.idxOf_append, if_neg q, if_neg q']
        rw [bcnt, bcnt] at i1
        rw [i1]
        simp
theorem blk_num {V : Nat} {es : gE} (hO : okE V es) {L L' : Nat × Nat → Nat} (h : BlkOK V es L) (h' : BlkOK V es L') : bcnt es L = bcnt es L' ∧ ∀ g, g ∈ es → bnum es L g = bnum es L' g := dst_same _ es rfl (blk_uniq hO h h')
end
section
/-! ===== forests, and the ways up to where two vertices meet ===== -/
def Frs (V : Nat) (es : gE) (far par rt : Nat → Nat) : Prop :=
  (∀ x, x < V → rt x ≤ x ∧ ((far x = 0 ∧ rt x = x) ∨ (far x ≠ 0 ∧ par x < V ∧ far x = far (par x) + 1 ∧ te par x ∈ es ∧ rt (par x) = rt x))) ∧ ∀ g, g ∈ es → rt g.1 = rt g.2
def pkA (far : Nat → Nat) (tie : Bool) (a b : Nat) : Bool := if tie then decide (far b ≤ far a) else decide (far b < far a)
def wlk (far par : Nat → Nat) (tie : Bool) : Nat → Nat → Nat → List Nat
  | 0, _, _ => []
  | f + 1, a, b => if a = b then [] else if pkA far tie a b then a :: wlk far par tie f (par a) b else b :: wlk far par tie f a (par b)
theorem pkA_le {far : Nat → Nat} {tie : Bool} {a b : Nat} (h : pkA far tie a b = true) : far b ≤ far a := by
  cases tie
  · exact Nat.le_of_lt (of_decide_eq_true h)
  · exact of_decide_eq_true h
theorem pkA_le' {far : Nat → Nat} {tie : Bool} {a b : Nat} (h : pkA far tie a b = false) : far a ≤ far b := by
  cases tie
  · have := of_decide_eq_false h; omega
  · have := of_decide_eq_false h; omega
theorem xsm_sub {α : Type} [BEq α] [LawfulBEq α] [DecidableEq α] {f : α → Bool} {m : List α} (hm : m.Nodup) : ∀ {l : List α}, l.Nodup → (∀ x ∈ l, x ∈ m) → xsm (fun x => l.contains x && f x) m = xsm f l
  | [], _, _ => xsm_zero fun _ _ => rfl
  | a :: l, hn, hs => by
    rw [List.nodup_cons] at hn
    have h1 := xsm_sub (f := f) hm hn.2 fun x hx => hs x (List.mem_cons_of_mem _ hx)
    have h2 := xsm_one (f := f) hm (hs a List.mem_cons_self)
    rw [xsm, ← h1, ← h2, ← xsm_xor]
    refine xsm_congr fun x _ => ?_
    rw [List.contains_eq_mem, List.contains_eq_mem]
    by_cases e : x = a
    · subst e
      simp [hn.1]
    · simp [e]
section WLK
variable {V : Nat} {es : gE} {far par rt : Nat → Nat} {tie : Bool}
theorem wlk_far : ∀ (f a b y : Nat), y ∈ wlk far par tie f a b → (∀ x, x < V → far x ≠ 0 → par x < V ∧ far (par x) < far x) → a < V → b < V → (∀ a b, a < V → b < V → a ≠ b → rt a = rt b → far a ≠ 0 ∨ far b ≠ 0) → (∀ x, x < V → far x ≠ 0 → rt (par x) = rt x) → rt a = rt b → y < V ∧ far y ≠ 0 ∧ ((far y < far a ∨ y = a) ∨ (far y < far b ∨ y = b)) := by
  intro f
  induction f with
  | zero => intro a b y h; exact absurd h List.not_mem_nil
  | succ f ih =>
    intro a b y h hp ha hb hr hrt hab
    rw [wlk] at h
    by_cases e : a = b
    · rw [if_pos e] at h; exact absurd h List.not_mem_nil
    · rw [if_neg e] at h
      have h0 := hr a b ha hb e hab
      cases hk : pkA far tie a b with
      | true =>
        rw [hk, if_pos rfl] at h
        have hle := pkA_le hk
        have hfa : far a ≠ 0 := by omega
        obtain ⟨p1, p2⟩ := hp a ha hfa
        rcases List.mem_cons.mp h with q | q
        · rw [q]; exact ⟨ha, hfa, Or.inl (Or.inr rfl)⟩
        · obtain ⟨r1, r2, r3⟩ := ih (par a) b y q hp p1 hb hr hrt ((hrt a ha hfa).trans hab)
          refine ⟨r1, r2, ?_⟩
          rcases r3 with (r | r) | r
          · exact Or.inl (Or.inl (by omega))
          · exact Or.inl (Or.inl (by rw [r]; omega))
          · exact Or.inr r
      | false =>
        rw [hk] at h
        simp only [Bool.false_eq_true, if_false] at h
        have hle := pkA_le' hk
        have hfb : far b ≠ 0 := by omega
        obtain ⟨p1, p2⟩ := hp b hb hfb
        rcases List.mem_cons.mp h with q | q
        · rw [q]; exact ⟨hb, hfb, Or.inr (Or.inr rfl)⟩
        · obtain ⟨r1, r2, r3⟩ := ih a (par b) y q hp ha p1 hr hrt (hab.trans (hrt b hb hfb).symm)
          refine ⟨r1, r2, ?_⟩
          rcases r3 with r | (r | r)
          · exact Or.inl r
          · exact Or.inr (Or.inl (by omega))
          · exact Or.inr (Or.inl (by rw [r]; omega))
theorem Frs.p1 (h : Frs V es far par rt) : ∀ x, x < V → far x ≠ 0 → par x < V ∧ far (par x) < far x := fun x hx hf => by
  rcases (h.1 x hx).2 with q | q
  · exact absurd q.1 hf
  · exact ⟨q.2.1, by omega⟩
theorem Frs.p2 (h : Frs V es far par rt) : ∀ a b, a < V → b < V → a ≠ b → rt a = rt b → far a ≠ 0 ∨ far b ≠ 0 := fun a b ha hb hne hab => by
  rcases (h.1 a ha).2 with q | q
  · rcases (h.1 b hb).2 with r | r
    · exact absurd (q.2.symm.trans (hab.trans r.2)) hne
    · exact Or.inr r.1
  · exact Or.inl q.1
theorem Frs.p3 (h : Frs V es far par rt) : ∀ x, x < V → far x ≠ 0 → rt (par x) = rt x := fun x hx hf => by
  rcases (h.1 x hx).2 with q | q
  · exact absurd q.1 hf
  · exact q.2.2.2.2
theorem Frs.p4 (h : Frs V es far par rt) : ∀ x, x < V → far x ≠ 0 → far x = far (par x) + 1 ∧ te par x ∈ es := fun x hx hf => by
  rcases (h.1 x hx).2 with q | q
  · exact absurd q.1 hf
  · exact ⟨q.2.2.1, q.2.2.2.1⟩
theorem wlk_nd (h : Frs V es far par rt) : ∀ (f a b : Nat), a < V → b < V → rt a = rt b → (wlk far par tie f a b).Nodup := by
  intro f
  induction f with
  | zero => intro a b _ _ _; exact List.nodup_nil
  | succ f ih =>
    intro a b ha hb hab
    rw [wlk]
    by_cases e : a = b
    · rw [if_pos e]; exact List.nodup_nil
    · rw [if_neg e]
      have h0 := h.p2 a b ha hb e hab
      cases hk : pkA far tie a b with
      | true =>
        rw [if_pos rfl, List.nodup_cons]
        have hle := pkA_le hk
        have hfa : far a ≠ 0 := by omega
        obtain ⟨p1, p2⟩ := h.p1 a ha hfa
        have hab' := (h.p3 a ha hfa).trans hab
        refine ⟨fun z => ?_, ih _ _ p1 hb hab'⟩
        rcases (wlk_far f (par a) b a z h.p1 p1 hb h.p2 h.p3 hab').2.2 with (r | r) | (r | r)
        · omega
        · rw [← r] at p2; omega
        · omega
        · exact e r
      | false =>
        simp only [Bool.false_eq_true, if_false]
        rw [List.nodup_cons]
        have hle := pkA_le' hk
        have hfb : far b ≠ 0 := by omega
        obtain ⟨p1, p2⟩ := h.p1 b hb hfb
        have hab' := hab.trans (h.p3 b hb hfb).symm
        refine ⟨fun z => ?_, ih _ _ ha p1 hab'⟩
        rcases (wlk_far f a (par b) b z h.p1 ha p1 h.p2 h.p3 hab').2.2 with (r | r) | (r | r)
        · omega
        · exact e r.symm
        · omega
        · rw [← r] at p2; omega
theorem wlk_par (h : Frs V es far par rt) : ∀ (f a b : Nat), a < V → b < V → rt a = rt b → far a + far b ≤ f → ∀ v, (decide (v = a) ^^ decide (v = b)) = xsm (fun x => inc (te par x) v) (wlk far par tie f a b) := by
  intro f
  induction f with
  | zero =>
    intro a b ha hb hab hf v
    have : a = b := Classical.byContradiction fun e => by
      have := h.p2 a b ha hb e hab; omega
    rw [this, wlk]
    cases decide (v = b) <;> rfl
  | succ f ih =>
    intro a b ha hb hab hf v
    rw [wlk]
    by_cases e : a = b
    · rw [if_pos e, e, xsm]
      cases decide (v = b) <;> rfl
    · rw [if_neg e]
      have h0 := h.p2 a b ha hb e hab
      cases hk : pkA far tie a b with
      | true =>
        have hle := pkA_le hk
        have hfa : far a ≠ 0 := by omega
        obtain ⟨p1, p2⟩ := h.p1 a ha hfa
        have hne : a ≠ par a := fun z => by rw [← z] at p2; omega
        rw [if_pos rfl, xsm, ← ih _ _ p1 hb ((h.p3 a ha hfa).trans hab) (by omega) v, inc_te]
        by_cases e1 : v = a
        · by_cases e2 : v = par a
          · exact absurd (e1.symm.trans e2) hne
          · rw [decide_eq_true e1, decide_eq_false e2]; cases decide (v = b) <;> rfl
        · rw [decide_eq_false e1]; cases decide (v = par a) <;> cases decide (v = b) <;> rfl
      | false =>
        have hle := pkA_le' hk
        have hfb : far b ≠ 0 := by omega
        obtain ⟨p1, p2⟩ := h.p1 b hb hfb
        have hne : b ≠ par b := fun z => by rw [← z] at p2; omega
        simp only [Bool.false_eq_true, if_false]
        rw [xsm, ← ih _ _ ha p1 (hab.trans (h.p3 b hb hfb).symm) (by omega) v, inc_te]
        by_cases e1 : v = b
        · by_cases e2 : v = par b
          · exact absurd (e1.symm.trans e2) hne
          · rw [decide_eq_true e1, decide_eq_false e2]; cases decide (v = a) <;> rfl
        · rw [decide_eq_false e1]; cases decide (v = par b) <;> cases decide (v = a) <;> rfl
theorem frs_far_l (h : Frs V es far par rt) : ∀ (n x : Nat), x < V → far x = n → ∃ l : List Nat, l.length = n + 1 ∧ l.Nodup ∧ (∀ y ∈ l, y < V) ∧ ∀ y ∈ l, far y ≤ n := by
  intro n
  induction n with
  | zero => intro x hx hf; exact ⟨[x], rfl, by simp, fun y hy => by simp at hy; omega, fun y hy => by simp at hy; rw [hy]; omega⟩
  | succ n ih =>
    intro x hx hf
    obtain ⟨l, h1, h2, h3, h4⟩ := ih (par x) (h.p1 x hx (by omega)).1 (by have := (h.p4 x hx (by omega)).1; omega)
    refine ⟨x :: l, by simp [h1], List.nodup_cons.mpr ⟨fun z => ?_, h2⟩, fun y hy => ?_, fun y hy => ?_⟩
    · have := h4 x z; omega
    · rcases List.mem_cons.mp hy with q | q
      · omega
      · exact h3 y q
    · rcases List.mem_cons.mp hy with q | q
      · rw [q]; omega
      · have := h4 y q; omega
theorem frs_far (h : Frs V es far par rt) {x : Nat} (hx : x < V) : far x < V := by
  obtain ⟨l, h1, h2, h3, _⟩ := frs_far_l h (far x) x hx rfl
  have := nd_le V h2 h3
  omega
def wX (far par : Nat → Nat) (tie : Bool) (g : Nat × Nat) (x : Nat) : Bool := (wlk far par tie 40 g.1 g.2).contains x
theorem wX_iff {g : Nat × Nat} {x : Nat} : wX far par tie g x = true ↔ x ∈ wlk far par tie 40 g.1 g.2 := by simp [wX]
/-- a forest and the ways up in it -/
theorem frs_FC (hO : okE V es) (hV : V ≤ 20) (h : Frs V es far par rt) : FC V es far par (wX far par tie) := by
  refine ⟨fun x hx hf => ⟨(h.p1 x hx hf).1, h.p4 x hx hf⟩, fun g hg x hX => ?_, fun g hg v hv => ?_, fun z hz fz x hx => ?_⟩
  · have hp := hO.1 g hg
    have := wlk_far 40 g.1 g.2 x (wX_iff.mp hX) h.p1 (by omega) (by omega) h.p2 h.p3 (h.2 g hg)
    exact ⟨this.1, this.2.1⟩
  · have hp := hO.1 g hg
    have f1 := frs_far h (x := g.1) (by omega)
    have f2 := frs_far h (x := g.2) (by omega)
    rw [inc_xor (by omega), wlk_par (tie := tie) h 40 g.1 g.2 (by omega) (by omega) (h.2 g hg) (by omega) v]
    exact (xsm_sub List.nodup_range (wlk_nd h 40 g.1 g.2 (by omega) (by omega) (h.2 g hg)) fun x hx => List.mem_range.mpr (wlk_far 40 g.1 g.2 x hx h.p1 (by omega) (by omega) h.p2 h.p3 (h.2 g hg)).1).symm
  · have h1 := (h.p4 z hz fz).1
    have hne : z ≠ par z := fun e => by rw [← e] at h1; omega
    have e : wlk far par tie 40 (te par z).1 (te par z).2 = [z] := by
      rw [wlk, te]
      rcases Nat.lt_or_ge z (par z) with q | q
      · rw [show min z (par z) = z by omega, show max z (par z) = par z by omega, if_neg hne]
        have : pkA far tie z (par z) = true := by cases tie <;> simp [pkA] <;> omega
        rw [this, if_pos rfl, wlk, if_pos rfl]
      · rw [show min z (par z) = par z by omega, show max z (par z) = z by omega, if_neg (Ne.symm hne)]
        have : pkA far tie (par z) z = false := by cases tie <;> simp [pkA] <;> omega
        rw [this]
        simp only [Bool.false_eq_true, if_false]
        rw [wlk, if_pos rfl]
    rw [wX, e, Bool.eq_iff_iff]
    simp
/-! how many pieces -/
theorem frs_f (h : Frs V es far par rt) {α : Type} {f : Nat → α} (hf : ∀ g, g ∈ es → f g.1 = f g.2) : ∀ (n x : Nat), x < V → far x = n → f x = f (rt x) := by
  intro n
  induction n with
  | zero =>
    intro x hx hn
    rcases (h.1 x hx).2 with q | q
    · rw [q.2]
    · exact absurd hn q.1
  | succ n ih =>
    intro x hx hn
    obtain ⟨a1, a2⟩ := h.p4 x hx (by omega)
    have h1 := hf _ a2
    have h2 : f x = f (par x) := by
      simp only [te] at h1
      rcases Nat.lt_or_ge x (par x) with q | q
      · rw [show min x (par x) = x by omega, show max x (par x) = par x by omega] at h1; exact h1
      · rw [show min x (par x) = par x by omega, show max x (par x) = x by omega] at h1; exact h1.symm
    rw [h2, ih (par x) (h.p1 x hx (by omega)).1 (by omega), h.p3 x hx (by omega)]
theorem frs_rt {far' par' rt' : Nat → Nat} (h : Frs V es far par rt) (h' : Frs V es far' par' rt') {x : Nat} (hx : x < V) : rt x = rt' x := by
  have rtlt : ∀ {far par rt : Nat → Nat}, Frs V es far par rt → rt x < V := fun h => Nat.lt_of_le_of_lt (h.1 x hx).1 hx
  have e1 := frs_f h (f := rt') h'.2 (far x) x hx rfl
  have e2 := frs_f h' (f := rt) h.2 (far' x) x hx rfl
  have l1 := (h'.1 (rt x) (rtlt h)).1
  have l2 := (h.1 (rt' x) (rtlt h')).1
  omega
theorem frs_root (h : Frs V es far par rt) {x : Nat} (hx : x < V) : far x = 0 ↔ rt x = x := by
  rcases (h.1 x hx).2 with q | q
  · exact ⟨fun _ => q.2, fun _ => q.1⟩
  · refine ⟨fun z => absurd z q.1, fun z => ?_⟩
    have h1 := (h.1 (par x) q.2.1).1
    have h2 : ∀ (n y : Nat), y < V → far y = n → far (rt y) = 0 := by
      intro n
      induction n with
      | zero =>
        intro y hy hn
        rcases (h.1 y hy).2 with r | r
        · rw [r.2]; exact hn
        · exact absurd hn r.1
      | succ n ih =>
        intro y hy hn
        rw [← h.p3 y hy (by omega)]
        exact ih _ (h.p1 y hy (by omega)).1 (by have := (h.p4 y hy (by omega)).1; omega)
    have := h2 (far x) x hx rfl
    rw [z] at this
    exact this
end WLK
def CmpR (V : Nat) (es : gE) (c : Nat) : Prop := ∃ far par rt, Frs V es far par rt ∧ c = cnt (fun v => decide (far v = 0)) V
theorem cmp_uniq {V : Nat} {es : gE} {c c' : Nat} (h : CmpR V es c) (h' : CmpR V es c') : c = c' := by
  obtain ⟨far, par, rt, hF, rfl⟩ := h
  obtain ⟨far', par', rt', hF', rfl⟩ := h'
  refine cnt_congr fun v hv => ?_
  rw [Bool.eq_iff_iff, decide_eq_true_iff, decide_eq_true_iff, frs_root hF hv, frs_root hF' hv, frs_rt hF hF' hv]
end
section
/-! ===== Blocks: the forest ===== -/
/-- a forest on what was seen -/
def PF (V : Nat) (es : gE) (S : Nat → Bool) (far par rt : Nat → Nat) : Prop := ∀ x, S x = true → x < V ∧ rt x ≤ x ∧ ((far x = 0 ∧ rt x = x) ∨ (far x ≠ 0 ∧ S (par x) = true ∧ far x = far (par x) + 1 ∧ te par x ∈ es ∧ rt (par x) = rt x))
def setN (f : Nat → Nat) (v x : Nat) : Nat → Nat := fun j => if j = v then x else f j
def setB (S : Nat → Bool) (v : Nat) : Nat → Bool := fun j => S j || decide (j = v)
theorem setN_s {f : Nat → Nat} {v x : Nat} : setN f v x v = x := by simp [setN]
theorem setN_n {f : Nat → Nat} {v x j : Nat} (h : j ≠ v) : setN f v x j = f j := by simp [setN, h]
theorem setB_iff {S : Nat → Bool} {v j : Nat} : setB S v j = true ↔ S j = true ∨ j = v := by simp [setB]
theorem te_setN {par : Nat → Nat} {v x j : Nat} (h : j ≠ v) : te (setN par v x) j = te par j := by simp [te, setN_n h]
theorem adj_te {es : gE} {V : Nat} (hO : okE V es) {u v : Nat} (h : adj es u v = true) : (min u v, max u v) ∈ es := by
  rcases adj_iff.mp h with q | q
  · have := hO.1 _ q
    simp only at this
    rw [show min u v = u by omega, show max u v = v by omega]; exact q
  · have := hO.1 _ q
    simp only at this
    rw [show min u v = v by omega, show max u v = u by omega]; exact q
theorem PF.add {V : Nat} {es : gE} {S : Nat → Bool} {far par rt : Nat → Nat} (hO : okE V es) (h : PF V es S far par rt) {x v : Nat} (hx : S x = true) (hv : v < V) (hn : S v = false) (ha : adj es x v = true) (hr : rt x ≤ v) : PF V es (setB S v) (setN far v (far x + 1)) (setN par v x) (setN rt v (rt x)) := by
  have hxv : x ≠ v := fun e => by rw [e, hn] at hx; cases hx
  intro y hy
  rcases setB_iff.mp hy with q | q
  · have hyv : y ≠ v := fun e => by rw [e, hn] at q; cases q
    obtain ⟨a1, a2, a3⟩ := h y q
    rw [setN_n hyv, setN_n hyv, setN_n hyv, te_setN hyv]
    refine ⟨a1, a2, a3.imp id fun z => ?_⟩
    have hpv : par y ≠ v := fun e => by rw [e, hn] at z; cases z.2.1
    rw [setN_n hpv, setN_n hpv]
    exact ⟨z.1, setB_iff.mpr (Or.inl z.2.1), z.2.2⟩
  · subst q
    rw [setN_s, setN_s, setN_s, setN_n hxv, setN_n hxv]
    refine ⟨hv, hr, Or.inr ⟨by omega, setB_iff.mpr (Or.inl hx), rfl, ?_, rfl⟩⟩
    rw [te, setN_s]
    exact adj_te hO (by rw [adj_sym]; exact ha)
theorem PF.root {V : Nat} {es : gE} {S : Nat → Bool} {far par rt : Nat → Nat} (h : PF V es S far par rt) {v p : Nat} (hv : v < V) (hn : S v = false) : PF V es (setB S v) (setN far v 0) (setN par v p) (setN rt v v) := by
  intro y hy
  rcases setB_iff.mp hy with q | q
  · have hyv : y ≠ v := fun e => by rw [e, hn] at q; cases q
    obtain ⟨a1, a2, a3⟩ := h y q
    rw [setN_n hyv, setN_n hyv, setN_n hyv, te_setN hyv]
    refine ⟨a1, a2, a3.imp id fun z => ?_⟩
    have hpv : par y ≠ v := fun e => by rw [e, hn] at z; cases z.2.1
    rw [setN_n hpv, setN_n hpv]
    exact ⟨z.1, setB_iff.mpr (Or.inl z.2.1), z.2.2⟩
  · subst q
    rw [setN_s, setN_s]
    exact ⟨hv, Nat.le_refl _, Or.inl ⟨rfl, rfl⟩⟩
/-- closed: what is next to it is of it, and of the same tree -/
def Cls (es : gE) (S : Nat → Bool) (rt : Nat → Nat) : Prop := ∀ x, S x = true → ∀ v, adj es x v = true → S v = true ∧ rt v = rt x
theorem PF.frs {V : Nat} {es : gE} {S : Nat → Bool} {far par rt : Nat → Nat} (hO : okE V es) (h : PF V es S far par rt) (hc : Cls es S rt) (ha : ∀ v, v < V → S v = true) : Frs V es far par rt := by
  refine ⟨fun x hx => ?_, fun g hg => ?_⟩
  · obtain ⟨_, a2, a3⟩ := h x (ha x hx)
    exact ⟨a2, a3.imp id fun z => ⟨z.1, (h _ z.2.1).1, z.2.2⟩⟩
  · have hp := hO.1 g hg
    exact (hc g.1 (ha _ (by omega)) g.2 (adj_iff.mpr (Or.inl hg))).2.symm
/-- a tree that grows from r: S0 was seen before, q is the queue -/
def TI (S0 S : Nat → Bool) (rt : Nat → Nat) (r : Nat) (q : List Nat) : Prop := (∀ x, S x = (S0 x || q.contains x)) ∧ q.Nodup ∧ ∀ x, x ∈ q → S0 x = false ∧ rt x = r
theorem TI.add {S0 S : Nat → Bool} {rt : Nat → Nat} {r : Nat} {q : List Nat} (h : TI S0 S rt r q) {v : Nat} (hn : S v = false) : TI S0 (setB S v) (setN rt v r) r (q ++ [v]) := by
  have h1 := h.1 v
  rw [hn] at h1
  have h2 : S0 v = false := by
    cases hs : S0 v with
    | false => rfl
    | true => rw [hs] at h1; cases h1
  have h3 : v ∉ q := fun z => by simp [z] at h1
  refine ⟨fun x => ?_, ?_, fun x hx => ?_⟩
  · rw [setB, h.1 x]
    simp only [List.contains_eq_mem, List.mem_append, List.mem_singleton]
    by_cases e : x = v <;> simp [e]
  · rw [List.nodup_append]
    exact ⟨h.2.1, by simp, fun a ha b hb e => h3 (by simp at hb; rw [← hb, ← e]; exact ha)⟩
  · rcases List.mem_append.mp hx with z | z
    · have hxv : x ≠ v := fun e => h3 (e ▸ z)
      rw [setN_n hxv]
      exact h.2.2 x z
    · rw [List.mem_singleton.mp z, setN_s]
      exact ⟨h2, rfl⟩
theorem TI.cls {es : gE} {S0 S : Nat → Bool} {rt : Nat → Nat} {r : Nat} {q : List Nat} (h : TI S0 S rt r q) (h0 : Cls es S0 rt) (hq : ∀ x, x ∈ q → ∀ v, adj es x v = true → S v = true) : Cls es S rt := by
  intro x hx v hv
  rw [h.1 x, Bool.or_eq_true] at hx
  rcases hx with z | z
  · obtain ⟨a, b⟩ := h0 x z v hv
    exact ⟨by rw [h.1 v, a]; rfl, b⟩
  · have z' : x ∈ q := by simpa using z
    have h1 := hq x z' v hv
    refine ⟨h1, ?_⟩
    rw [h.1 v, Bool.or_eq_true] at h1
    rcases h1 with w | w
    · have := (h0 v w x (by rw [adj_sym]; exact hv)).1
      rw [(h.2.2 x z').1] at this
      cases this
    · rw [(h.2.2 x z').2, (h.2.2 v (by simpa using w)).2]
def bll : List Nat := [10, 11, 12, 13, 14, 15, 16, 17]
theorem net_bll {b : Nat} (hb : fl_net b) : ∀ a ∈ nl b, a ∉ bll := by
  intro a ha hc
  simp only [nl, bll, List.mem_cons, List.not_mem_nil, or_false] at ha hc
  have h1 := net_bases b (fl_lt hb) hb
  omega
def FM (W : fl_W) (S : Nat → Bool) (far par : Nat → Nat) : Prop := ∀ x, S x = true → W 12 x = nI (far x) ∧ W 13 x = nI x ∧ W 14 x = -1 ∧ (far x ≠ 0 → W 11 x = nI (par x))
def GS (W : fl_W) (b V : Nat) (es : gE) (c r : Nat) (S0 S : Nat → Bool) (far par rt far0 rt0 : Nat → Nat) (q : List Nat) : Prop :=
  NetR W b V es ∧ W 10 7 = nI c ∧ BS (W 10 6) S ∧ FM W S far par ∧ RowR W 16 (nL q) ∧ PF V es S far par rt ∧ TI S0 S rt r q ∧ (∀ x, S0 x = true → far x = far0 x ∧ rt x = rt0 x) ∧ far r = 0
section BLK
variable {d : Nat} {Q : fl_R} {b : Nat} {W : fl_W} {V : Nat} {es : gE}
theorem bl_reach {v : Nat} {fr dp : Int32} {q : List Nat} (hv : v < 20) (hq : RowR W 16 (nL q)) (hl : q.length < 20)
    (h : ∀ W', (∀ S, BS (W 10 6) S → BS (W' 10 6) (setB S v)) → W' 10 7 = W 10 7 → W' 11 = upd (W 11) v fr → W' 12 = upd (W 12) v dp → W' 13 = upd (W 13) v (nI v) → W' 14 = upd (W 14) v (-1) → RowR W' 16 (nL (q ++ [v])) → EqX bll W W' → Q none W') : fl_cal (d + 2) 4 [.ref 10, .int (nI v), .int fr, .int dp] W Q := by
  refine sx_4 _ _ _ W (st_can ?_)
  rw [ixB_N (by omega), decide_eq_true hv]
  refine ⟨fun z => absurd z (by decide), fun _ => st_bit ?_⟩
  intro W3 e3
  have hin : vp_in (nI v) 20 := in_N hv (by omega)
  refine ⟨hin, fun W4 e4 => ⟨hin, fun W5 e5 => ⟨hin, fun W6 e6 => ⟨hin, fun W7 e7 => ?_⟩⟩⟩⟩
  rw [nI_clamp (by omega)] at e4 e5 e6 e7
  have f3 : EqX bll W W3 := by rw [e3]; exact EqX.uw (by simp [bll])
  have f4 : EqX bll W3 W4 := by rw [e4]; exact EqX.uw (by simp [bll])
  have f5 : EqX bll W4 W5 := by rw [e5]; exact EqX.uw (by simp [bll])
  have f6 : EqX bll W5 W6 := by rw [e6]; exact EqX.uw (by simp [bll])
  have f7 : EqX bll W6 W7 := by rw [e7]; exact EqX.uw (by simp [bll])
  have hq7 : RowR W7 16 (nL q) := by
    refine hq.fr (l := [10, 11, 12, 13, 14]) ?_ (by decide) (by decide)
    rw [e7, e6, e5, e4, e3]
    exact ((((EqX.uw (by simp)).tr (EqX.uw (by simp))).tr (EqX.uw (by simp))).tr (EqX.uw (by simp))).tr (EqX.uw (by simp))
  refine row_add (r := 16) rfl hq7 (by rw [nL_len]; exact hl) fun W8 r8 f8 => ?_
  have a10 : W8 10 = W3 10 := by rw [f8 10 (by decide), e7, uw_n (by decide), e6, uw_n (by decide), e5, uw_n (by decide), e4, uw_n (by decide)]
  refine h W8 (fun S hS => ?_) ?_ ?_ ?_ ?_ ?_ (by rw [nL_app]; exact r8) (((((f3.tr f4).tr f5).tr f6).tr f7).tr (f8.mono (by decide)))
  · rw [a10, e3, uw_s]
    exact hS.or (BS.bit hv)
  · rw [a10, e3, uw_m (by decide)]
  · rw [f8 11 (by decide), e7, uw_n (by decide), e6, uw_n (by decide), e5, uw_n (by decide), e4, e3]
    simp [fl_uw]
  · rw [f8 12 (by decide), e7, uw_n (by decide), e6, uw_n (by decide), e5, e4, e3]
    simp [fl_uw]
  · rw [f8 13 (by decide), e7, uw_n (by decide), e6, e5, e4, e3]
    simp [fl_uw]
  · rw [f8 14 (by decide), e7, e6, e5, e4, e3]
    simp [fl_uw]
theorem upd_s {f : Nat → Int32} {v : Nat} {x : Int32} : upd f v x v = x := by simp [upd]
theorem upd_n {f : Nat → Int32} {v j : Nat} {x : Int32} (h : j ≠ v) : upd f v x j = f j := by simp [upd, h]
theorem FM.add {W' : fl_W} {S : Nat → Bool} {far par : Nat → Nat} {v x dd : Nat} {fr : Int32} (h : FM W S far par) (hn : S v = false) (h11 : W' 11 = upd (W 11) v fr) (h12 : W' 12 = upd (W 12) v (nI dd)) (h13 : W' 13 = upd (W 13) v (nI v)) (h14 : W' 14 = upd (W 14) v (-1)) (hfr : dd ≠ 0 → fr = nI x) : FM W' (setB S v) (setN far v dd) (setN par v x) := by
  intro y hy
  rw [h11, h12, h13, h14]
  by_cases e : y = v
  · subst e
    rw [upd_s, upd_s, upd_s, upd_s, setN_s, setN_s]
    exact ⟨rfl, rfl, rfl, hfr⟩
  · rw [upd_n e, upd_n e, upd_n e, upd_n e, setN_n e, setN_n e]
    exact h y ((setB_iff.mp hy).resolve_right e)
theorem GS.lt {c r : Nat} {S0 S : Nat → Bool} {far par rt far0 rt0 : Nat → Nat} {q : List Nat} (h : GS W b V es c r S0 S far par rt far0 rt0 q) {x : Nat} (hx : x ∈ q) : S x = true ∧ x < V := by
  obtain ⟨-, -, -, -, -, hP, hT, -, -⟩ := h
  have h1 : S x = true := by rw [hT.1 x]; simp [hx]
  exact ⟨h1, (hP x h1).1⟩
theorem GS.room {c r : Nat} {S0 S : Nat → Bool} {far par rt far0 rt0 : Nat → Nat} {q : List Nat} (h : GS W b V es c r S0 S far par rt far0 rt0 q) {v : Nat} (hv : v < V) (hn : S v = false) : q.length < 20 := by
  have hT := h.2.2.2.2.2.2.1
  have h1 := hT.1 v
  rw [hn] at h1
  have h3 : v ∉ q := fun z => by simp [z] at h1
  have h5 : (q ++ [v]).length ≤ 20 := nd_le 20 (by
    rw [List.nodup_append]
    exact ⟨hT.2.1, by simp, fun a ha c hcc e => h3 (by simp at hcc; rw [← hcc, ← e]; exact ha)⟩) (by
    intro y hy
    have hV := h.1.1
    rcases List.mem_append.mp hy with z | z
    · have := (h.lt z).2; omega
    · simp at z; omega)
  simp at h5; omega
theorem bl_row {c r k x : Nat} {S0 Sk : Nat → Bool} {far0 rt0 : Nat → Nat} {fresh deep : Int32} (hb : fl_net b) (hk : k < 20) (hfr : BS fresh (fun v => adj es x v && !Sk v)) (hr : ∀ u, u < r → S0 u = true) :
    ∀ (n i : Nat) (W : fl_W) (S : Nat → Bool) (far par rt : Nat → Nat) (q : List Nat), V - i = n → i ≤ V → GS W b V es c r S0 S far par rt far0 rt0 q → S r = true → x ∈ q → deep = nI (far x + 1) → (∀ v, Sk v = true → S v = true) → (∀ v, i ≤ v → S v = Sk v) → (∀ v, v < i → adj es x v = true → S v = true) →
      (∀ W' S' far' par' rt' t, GS W' b V es c r S0 S' far' par' rt' far0 rt0 (q ++ t) → (∀ v, S v = true → S' v = true) → (∀ v, adj es x v = true → S' v = true) → EqX bll W W' → hd_3_16 (d + 2) Q b (nI (k + 1)) W') →
      hd_3_84 (d + 2) Q b (nI k) (nI x) fresh deep (nI i) W := by
  intro n
  induction n with
  | zero =>
    intro i W S far par rt q h1 h2 hG hrq hx hdp hm he hc h
    have hi : i = V := by omega
    refine sx_3_84 b _ _ _ _ _ W hb ⟨fun z => absurd z ?_, fun _ => ?_⟩
    · rw [hG.1.2.2.2.1, hi]; exact nI_nlt (Nat.le_refl _) (by have := hG.1.1; omega)
    · rw [ci_1, nI_add]
      exact h W S far par rt [] (by rw [List.append_nil]; exact hG) (fun _ z => z) (fun v hv => hc v (by rw [hi]; exact (adj_lt hG.1.2.2.1 hv).2.1) hv) EqX.rf
  | succ n ih =>
    intro i W S far par rt q h1 h2 hG hrq hx hdp hm he hc h
    have hi : i < V := by omega
    have hV := hG.1.1
    refine sx_3_84 b _ _ _ _ _ W hb ⟨fun _ => ⟨fun z => ?_, fun _ => st_in ?_⟩, fun z => absurd ?_ z⟩
    · rw [ci_1, nI_add]
      refine h W S far par rt [] (by rw [List.append_nil]; exact hG) (fun _ z => z) (fun v hv => ?_) EqX.rf
      have h4 := hfr.z.mp z v (by have := (adj_lt hG.1.2.2.1 hv).2.1; omega)
      rw [hv, Bool.true_and, Bool.not_eq_false'] at h4
      exact hm v h4
    · have hfi : sb fresh i = (adj es x i && !S i) := by rw [he i (Nat.le_refl _)]; exact hfr.lo i (by omega)
      rw [inI_N (by omega), hfi]
      cases hf : (adj es x i && !S i) with
      | false =>
        refine ⟨fun _ => ?_, fun z => absurd rfl z⟩
        rw [ci_1, nI_add]
        refine ih (i + 1) W S far par rt q (by omega) (by omega) hG hrq hx hdp hm (fun v hv => he v (by omega)) (fun v hv hv2 => ?_) h
        by_cases e : v = i
        · rw [e] at hv2 ⊢
          rw [hv2, Bool.true_and, Bool.not_eq_false'] at hf
          exact hf
        · exact hc v (by omega) hv2
      | true =>
        simp only [Bool.and_eq_true, Bool.not_eq_true'] at hf
        refine ⟨fun z => absurd z (by decide), fun _ => ?_⟩
        obtain ⟨g1, g2, g3, g4, g5, g6, g7, g8, g9⟩ := id hG
        obtain ⟨hSx, hxV⟩ := hG.lt hx
        refine bl_reach (by omega) g5 (hG.room hi hf.2) fun W8 a1 a2 a3 a4 a5 a6 a7 a8 => ?_
        rw [ci_1, nI_add]
        rw [hdp] at a4
        have hrx := (g7.2.2 x hx).2
        have hri : r ≤ i := by
          rcases Nat.lt_or_ge i r with z | z
          · have z1 := hr i z
            have z2 := g7.1 i
            rw [z1, hf.2] at z2
            cases z2
          · exact z
        have hxi : x ≠ i := fun e => by rw [e, hf.2] at hSx; cases hSx
        have hG' : GS W8 b V es c r S0 (setB S i) (setN far i (far x + 1)) (setN par i x) (setN rt i (rt x)) far0 rt0 (q ++ [i]) := by
          refine ⟨g1.fr a8 (net_bll hb), by rw [a2]; exact g2, a1 S g3, g4.add hf.2 a3 a4 a5 a6 (fun _ => rfl), a7, g6.add g1.2.2.1 hSx hi hf.2 hf.1 (by rw [hrx]; exact hri), ?_, fun y hy => ?_, ?_⟩
          · rw [hrx]; exact g7.add hf.2
          · have hyi : y ≠ i := fun e => by
              have z2 := g7.1 i
              rw [← e, hy, e, hf.2] at z2
              cases z2
            rw [setN_n hyi, setN_n hyi]
            exact g8 y hy
          · have hri2 : r ≠ i := fun e => by
              have z1 := hrq
              rw [e, hf.2] at z1
              cases z1
            rw [setN_n hri2]; exact g9
        refine ih (i + 1) W8 _ _ _ _ (q ++ [i]) (by omega) (by omega) hG' (setB_iff.mpr (Or.inl hrq)) (List.mem_append_left _ hx) (by rw [setN_n hxi]; exact hdp) (fun v hv => setB_iff.mpr (Or.inl (hm v hv))) (fun v hv => ?_) (fun v hv hv2 => ?_) fun W' S' far' par' rt' t k1 k2 k3 k4 => ?_
        · rw [setB, decide_eq_false (by omega), Bool.or_false, he v (by omega)]
        · by_cases e : v = i
          · exact setB_iff.mpr (Or.inr e)
          · exact setB_iff.mpr (Or.inl (hc v (by omega) hv2))
        · rw [List.append_assoc] at k1
          exact h W' S' far' par' rt' _ k1 (fun v hv => k2 v (setB_iff.mpr (Or.inl hv))) k3 (a8.tr k4)
    · rw [hG.1.2.2.2.1]; exact nI_lt hi (by omega)
theorem bl_grow_l {c r : Nat} {S0 : Nat → Bool} {far0 rt0 : Nat → Nat} (hb : fl_net b) (hr : ∀ u, u < r → S0 u = true) :
    ∀ (n k : Nat) (W : fl_W) (S : Nat → Bool) (far par rt : Nat → Nat) (q : List Nat), 20 - k = n → k ≤ q.length → GS W b V es c r S0 S far par rt far0 rt0 q → r ∈ q → (∀ j y, j < k → q[j]? = some y → ∀ v, adj es y v = true → S v = true) →
      (∀ W' S' far' par' rt' t, GS W' b V es c r S0 S' far' par' rt' far0 rt0 (q ++ t) → (∀ y, y ∈ q ++ t → ∀ v, adj es y v = true → S' v = true) → EqX bll W W' → Q none W') →
      hd_3_16 (d + 2) Q b (nI k) W := by
  intro n
  induction n with
  | zero =>
    intro k W S far par rt q h1 h2 hG hrq hc h
    have hql : q.length ≤ 20 := nd_le 20 hG.2.2.2.2.2.2.1.2.1 fun x hx => by have := (hG.lt hx).2; have := hG.1.1; omega
    have hk : k = 20 := by omega
    refine sx_3_16 b _ W hb ⟨fun z => absurd z ?_, fun _ => h W S far par rt [] (by rw [List.append_nil]; exact hG) (fun y hy v hv => ?_) EqX.rf⟩
    · rw [cb_20, hk]; exact nI_nlt (Nat.le_refl _) (by omega)
    · rw [List.append_nil] at hy
      obtain ⟨j, hj⟩ := List.getElem?_of_mem hy
      exact hc j y (by have := (List.getElem?_eq_some_iff.mp hj).1; omega) hj v hv
  | succ n ih =>
    intro k W S far par rt q h1 h2 hG hrq hc h
    obtain ⟨g1, g2, g3, g4, g5, g6, g7, g8, g9⟩ := id hG
    have hV := g1.1
    have hql : q.length ≤ 20 := nd_le 20 g7.2.1 fun x hx => by have := (hG.lt hx).2; omega
    refine sx_3_16 b _ W hb ⟨fun _ => row_size (r := 16) rfl g5 ?_, fun z => absurd ?_ z⟩
    · rw [nL_len]
      refine ⟨fun hkq => ?_, fun hkq => ?_⟩
      · rw [nI_ltI (by omega) (by omega)] at hkq
        have hx : q[k]? = some q[k] := List.getElem?_eq_getElem hkq
        generalize q[k] = x at hx
        have hxq := List.mem_of_getElem? hx
        obtain ⟨hSx, hxV⟩ := hG.lt hxq
        refine row_get (r := 16) rfl g5 ?_
        rw [getI_at (by omega) (nL_at hx)]
        refine net_around hb g1 hxV fun y hy => st_can ?_
        rw [ixB_N (by omega), decide_eq_true (by omega)]
        refine ⟨fun z => absurd z (by decide), fun _ => ⟨in_N (by omega) (by omega), ?_⟩⟩
        rw [nI_clamp (by omega), (g4 x hSx).1, ci_1, nI_add]
        refine bl_row (Sk := S) hb (by omega) (hy.and (by rw [ci_m]; exact g3.lo.not)) hr V 0 W S far par rt q (by omega) (by omega) hG (hG.lt hrq).1 hxq rfl (fun _ z => z) (fun _ _ => rfl) (fun v hv => by omega) fun W' S' far' par' rt' t k1 k2 k3 k4 => ?_
        refine ih (k + 1) W' S' far' par' rt' (q ++ t) (by omega) (by simp; omega) k1 (List.mem_append_left _ hrq) (fun j y hj hy2 v hv => ?_) fun W2 S2 far2 par2 rt2 t2 m1 m2 m3 => ?_
        · rw [List.getElem?_append_left (by omega)] at hy2
          by_cases e : j = k
          · rw [e, hx] at hy2
            cases hy2
            exact k3 v hv
          · exact k2 v (hc j y (by omega) hy2 v hv)
        · rw [List.append_assoc] at m1 m2
          exact h W2 S2 far2 par2 rt2 _ m1 m2 (k4.tr m3)
      · rw [nI_ltI (by omega) (by omega)] at hkq
        refine h W S far par rt [] (by rw [List.append_nil]; exact hG) (fun y hy v hv => ?_) EqX.rf
        rw [List.append_nil] at hy
        obtain ⟨j, hj⟩ := List.getElem?_of_mem hy
        exact hc j y (by have := (List.getElem?_eq_some_iff.mp hj).1; omega) hj v hv
    · rw [cb_20]; exact nI_lt (by omega) (by omega)
/-- growTree: what was closed is closed again, with r's tree -/
theorem bl_grow {c r : Nat} {S0 : Nat → Bool} {far par rt : Nat → Nat} (hb : fl_net b) (hr : ∀ u, u < r → S0 u = true) (hrV : r < V) (hnr : S0 r = false) (hN : NetR W b V es) (hc7 : W 10 7 = nI c) (hS : BS (W 10 6) S0) (hM : FM W S0 far par) (hP : PF V es S0 far par rt) (hCl : Cls es S0 rt)
    (h : ∀ W' S' far' par' rt', NetR W' b V es → W' 10 7 = nI c → BS (W' 10 6) S' → FM W' S' far' par' → PF V es S' far' par' rt' → Cls es S' rt' → (∀ x, S0 x = true → S' x = true ∧ far' x = far x ∧ rt' x = rt x) → S' r = true → far' r = 0 → (∀ x, S' x = true → S0 x = false → rt' x = r) → EqX bll W W' → Q none W') : fl_cal (d + 3) 3 [.ref 10, .ref b, .int (nI r)] W Q := by
  have hV := hN.1
  refine sx_3 b _ W hb (row_clear (r := 16) rfl fun W1 r1 f1 => ?_)
  have f1' : EqX bll W W1 := f1.mono (by decide)
  refine bl_reach (q := []) (by omega) r1 (by simp) fun W2 a1 a2 a3 a4 a5 a6 a7 a8 => ?_
  have e10 : W1 10 = W 10 := f1 10 (by decide)
  have hM1 : FM W1 S0 far par := fun x hx => by
    rw [f1 11 (by decide), f1 12 (by decide), f1 13 (by decide), f1 14 (by decide)]; exact hM x hx
  have hTI0 : TI S0 S0 rt r [] := ⟨fun x => by simp, List.nodup_nil, fun x hx => absurd hx List.not_mem_nil⟩
  rw [ci_m, ci_0] at *
  have hG : GS W2 b V es c r S0 (setB S0 r) (setN far r 0) (setN par r 0) (setN rt r r) far rt [r] := by
    refine ⟨(hN.fr f1' (net_bll hb)).fr a8 (net_bll hb), by rw [a2, e10]; exact hc7, a1 S0 (by rw [e10]; exact hS), hM1.add hnr a3 a4 a5 a6 (fun z => absurd rfl z), a7, hP.root hrV hnr, hTI0.add hnr, fun x hx => ?_, setN_s⟩
    have hxr : x ≠ r := fun e => by rw [e, hnr] at hx; cases hx
    rw [setN_n hxr, setN_n hxr]
    exact ⟨rfl, rfl⟩
  refine bl_grow_l hb hr 20 0 W2 _ _ _ _ [r] rfl (by simp) hG (by simp) (fun j y hj => by omega) fun W' S' far' par' rt' t k1 k2 k3 => ?_
  obtain ⟨g1, g2, g3, g4, g5, g6, g7, g8, g9⟩ := id k1
  have hCl' : Cls es S0 rt' := fun x hx v hv => by
    obtain ⟨z1, z2⟩ := hCl x hx v hv
    exact ⟨z1, by rw [(g8 v z1).2, (g8 x hx).2, z2]⟩
  have hrq : r ∈ [r] ++ t := by simp
  obtain ⟨hSr, _⟩ := k1.lt hrq
  refine h W' S' far' par' rt' g1 g2 g3 g4 g6 (g7.cls hCl' k2) (fun x hx => ⟨by rw [g7.1 x, hx]; rfl, g8 x hx⟩) hSr ?_ (fun x hx hx0 => ?_) ((f1'.tr a8).tr k3)
  · exact g9
  · rw [g7.1 x, hx0] at hx
    exact (g7.2.2 x (by simpa using hx)).2
end BLK
end
section
/-! ===== the reference: its graph ===== -/
/-- nothing has changed but the fields fs of the reference and the arrays of l -/
def EqF (fs l : List Nat) (W W' : fl_W) : Prop := (∀ a, a ≠ 229 → a ∉ l → W' a = W a) ∧ ∀ k, k ∉ fs → W' 229 k = W 229 k
theorem EqF.rf {fs l : List Nat} {W : fl_W} : EqF fs l W W := ⟨fun _ _ _ => rfl, fun _ _ => rfl⟩
theorem EqF.tr {fs l : List Nat} {W W' W'' : fl_W} (h1 : EqF fs l W W') (h2 : EqF fs l W' W'') : EqF fs l W W'' := ⟨fun a h3 h4 => (h2.1 a h3 h4).trans (h1.1 a h3 h4), fun k hk => (h2.2 k hk).trans (h1.2 k hk)⟩
theorem EqF.mono {fs l fs' l' : List Nat} {W W' : fl_W} (h : EqF fs l W W') (h1 : ∀ a ∈ fs, a ∈ fs') (h2 : ∀ a ∈ l, a ∈ l') : EqF fs' l' W W' := ⟨fun a h3 h4 => h.1 a h3 fun z => h4 (h2 a z), fun k hk => h.2 k fun z => hk (h1 k z)⟩
theorem EqF.uwF {fs l : List Nat} {W : fl_W} {j : Nat} {x : Int32} (hj : j ∈ fs) : EqF fs l W (fl_uw W 229 j x) := ⟨fun a h1 _ => uw_n h1, fun k hk => uw_m fun e => hk (e ▸ hj)⟩
theorem EqF.uwA {fs l : List Nat} {W : fl_W} {a j : Nat} {x : Int32} (ha : a ∈ l) (h9 : a ≠ 229) : EqF fs l W (fl_uw W a j x) := ⟨fun b _ h2 => uw_n fun e => h2 (e ▸ ha), fun k _ => by rw [uw_n (Ne.symm h9)]⟩
def RfG (W : fl_W) (V : Nat) (es : gE) : Prop := V ≤ 20 ∧ es.length ≤ 60 ∧ okE V es ∧ W 229 0 = nI V ∧ W 229 1 = nI es.length ∧ ∀ i p, es[i]? = some p → W 230 i = nI p.1 ∧ W 231 i = nI p.2
theorem RfG.fr {W W' : fl_W} {V : Nat} {es : gE} {fs l : List Nat} (h : RfG W V es) (hE : EqF fs l W W') (h0 : 0 ∉ fs) (h1 : 1 ∉ fs) (h2 : 230 ∉ l) (h3 : 231 ∉ l) : RfG W' V es := by
  obtain ⟨a1, a2, a3, a4, a5, a6⟩ := h
  refine ⟨a1, a2, a3, by rw [hE.2 0 h0]; exact a4, by rw [hE.2 1 h1]; exact a5, fun i p hp => ?_⟩
  rw [hE.1 230 (by decide) h2, hE.1 231 (by decide) h3]
  exact a6 i p hp
section REF1
variable {d : Nat} {Q : fl_R} {W : fl_W} {V : Nat} {es : gE}
theorem rf_isIn {v a c : Int32} (h : Q (some (.int (if decide (a.toInt ≤ v.toInt) && decide (v.toInt ≤ c.toInt) then 1 else 0))) W) : fl_cal (d + 1) 124 [.int v, .int a, .int c] W Q := by
  refine sx_124 v a c W ⟨fun q => ?_, fun q => ⟨fun q2 => ?_, fun q2 => ?_⟩⟩
  · rw [i_lt] at q
    rw [decide_eq_false (by omega)] at h; exact h
  · rw [i_lt] at q
    rw [i_le] at q2
    rw [decide_eq_true (by omega), decide_eq_true q2] at h; exact h
  · rw [i_le] at q2
    rw [decide_eq_false (p := v.toInt ≤ c.toInt) q2, Bool.and_false] at h; exact h
theorem nI_m1 {n : Nat} (hn : n ≤ 1000) : (nI n - nI 1).toInt = (n : Int) - 1 := by
  cases n with
  | zero => rfl
  | succ n => rw [show nI 1 = 1 from rfl, nI_pred, nI_toInt (by omega)]; omega
theorem rf_ix {v : Int32} {n : Nat} (hn : n ≤ 1000) : (decide ((nI 0).toInt ≤ v.toInt) && decide (v.toInt ≤ (nI n - nI 1).toInt)) = ixB v n := by
  rw [nI_m1 hn, show (nI 0).toInt = 0 from rfl, ixB]
  congr 1
  rw [Bool.eq_iff_iff, decide_eq_true_iff, decide_eq_true_iff]
  omega
theorem rf_inN {v : Int32} {n : Nat} (hn : n ≤ 1000) (h : Q (some (.int (if ixB v n then 1 else 0))) W) : fl_cal (d + 1) 124 [.int v, .int (nI 0), .int (nI n - nI 1)] W Q := rf_isIn (by rw [rf_ix hn]; exact h)
theorem rf_isV {v : Int32} (hG : RfG W V es) (h : Q (some (.int (if ixB v V then 1 else 0))) W) : fl_cal (d + 2) 125 [.ref 229, .int v] W Q := by
  refine sx_125 v W ?_
  rw [hG.2.2.2.1]
  refine rf_inN (by have := hG.1; omega) ⟨?_, h⟩
  cases ixB v V
  · exact Or.inl rfl
  · exact Or.inr rfl
def fgL : List Nat := [9, 11, 15, 17]
theorem rf_forget (h : ∀ W', W' 229 9 = 0 → W' 229 11 = 0 → W' 229 15 = 0 → W' 229 17 = 0 → EqF fgL [] W W' → Q none W') : fl_cal (d + 1) 126 [.ref 229] W Q := by
  refine sx_126 W fun W1 e1 W2 e2 W3 e3 W4 e4 => ?_
  subst e1; subst e2; subst e3; subst e4
  refine h _ ?_ ?_ ?_ ?_ ((((EqF.uwF (by simp [fgL])).tr (EqF.uwF (by simp [fgL]))).tr (EqF.uwF (by simp [fgL]))).tr (EqF.uwF (by simp [fgL])))
  · rw [uw_m (by decide), uw_m (by decide), uw_m (by decide), uw_s]; rfl
  · rw [uw_m (by decide), uw_m (by decide), uw_s]; rfl
  · rw [uw_m (by decide), uw_s]; rfl
  · rw [uw_s]; rfl
theorem rf_graphNo {n : Int32} (hn : ixB n 21 = false) (h : Q (some (.int 0)) W) : fl_cal (d + 2) 127 [.ref 229, .int n] W Q := by
  refine sx_127 n W ?_
  have e : (Int8.ofInt 20).toInt32 = nI 21 - nI 1 := rfl
  rw [e]
  refine rf_inN (n := 21) (by omega) ?_
  rw [hn]
  exact ⟨fun _ => h, fun q => absurd rfl q⟩
theorem rf_graph {n : Nat} (hn : n ≤ 20) (h : ∀ W', RfG W' n [] → W' 229 9 = 0 → W' 229 11 = 0 → W' 229 15 = 0 → W' 229 17 = 0 → EqF (0 :: 1 :: fgL) [] W W' → Q (some (.int 1)) W') : fl_cal (d + 2) 127 [.ref 229, .int (nI n)] W Q := by
  refine sx_127 _ W ?_
  have e : (Int8.ofInt 20).toInt32 = nI 21 - nI 1 := rfl
  rw [e]
  refine rf_inN (n := 21) (by omega) ?_
  rw [ixB_N (by omega), decide_eq_true (by omega)]
  refine ⟨fun q => absurd q (by decide), fun _ W2 e2 W3 e3 => rf_forget fun W4 a1 a2 a3 a4 f4 => ?_⟩
  have f : EqF (0 :: 1 :: fgL) [] W W3 := by rw [e3, e2]; exact (EqF.uwF (by simp)).tr (EqF.uwF (by simp))
  refine h W4 ⟨hn, by simp, ⟨fun p hp => by simp at hp, List.nodup_nil⟩, ?_, ?_, fun i p hp => by simp at hp⟩ a1 a2 a3 a4 (f.tr (f4.mono (by decide) (by simp)))
  · rw [f4.2 0 (by decide), e3, uw_m (by decide), e2, uw_s]
  · rw [f4.2 1 (by decide), e3, uw_s]; rfl
/-- the number of an edge, told from i on -/
def eIx (a c : Nat) : gE → Nat → Option Nat
  | [], _ => none
  | p :: l, i => if p.1 = a ∧ p.2 = c then some i else eIx a c l (i + 1)
theorem rf_eOf_l {a c : Nat} (ha : a < 20) (hc : c < 20) (hG : RfG W V es) : ∀ (n i : Nat), es.length - i = n → i ≤ es.length → Q (some (.int (optI (eIx a c (es.drop i) i)))) W → hd_128_26 d Q (nI a) (nI c) (nI i) W := by
  have hE := hG.2.1
  have hV := hG.1
  intro n
  induction n with
  | zero =>
    intro i h1 h2 h
    refine sx_128_26 _ _ _ W ⟨fun q => absurd q ?_, fun _ => ?_⟩
    · rw [hG.2.2.2.2.1]; exact nI_nlt (by omega) (by omega)
    · rw [List.drop_eq_nil_of_le (by omega)] at h; exact h
  | succ n ih =>
    intro i h1 h2 h
    have hi : i < es.length := by omega
    have hp := List.getElem?_eq_getElem hi
    have hpp := hG.2.2.1.1 _ (List.mem_of_getElem? hp)
    obtain ⟨c1, c2⟩ := hG.2.2.2.2.2 i _ hp
    rw [List.drop_eq_getElem_cons hi, eIx] at h
    have nxt : ¬ (es[i].1 = a ∧ es[i].2 = c) → hd_128_26 d Q (nI a) (nI c) (nI i + Int32.ofInt 1) W := fun z => by
      rw [if_neg z] at h
      rw [ci_1, nI_add]
      exact ih (i + 1) (by omega) (by omega) h
    refine sx_128_26 _ _ _ W ⟨fun _ => ⟨in_N (by omega) (by omega), ?_⟩, fun q => absurd ?_ q⟩
    · rw [nI_clamp (by omega), c1, c2]
      refine ⟨fun e1 => ⟨in_N (by omega) (by omega), ⟨fun e2 => ?_, fun e2 => nxt fun z => e2 (by rw [z.2])⟩⟩, fun e1 => nxt fun z => e1 (by rw [z.1])⟩
      rw [nI_eq (by omega) (by omega)] at e1 e2
      rw [if_pos ⟨e1, e2⟩] at h
      exact h
    · rw [hG.2.2.2.2.1]; exact nI_lt hi (by omega)
/-- the number of the edge between u and v -/
def eNo (es : gE) (u v : Nat) : Option Nat := eIx (min u v) (max u v) es 0
theorem rf_eOf {u v : Nat} (hu : u < 20) (hv : v < 20) (hG : RfG W V es) (h : Q (some (.int (optI (eNo es u v)))) W) : fl_cal (d + 1) 128 [.ref 229, .int (nI u), .int (nI v)] W Q := by
  have go := rf_eOf_l (d := d) (Q := Q) (a := min u v) (c := max u v) (by omega) (by omega) hG es.length 0 (by simp) (Nat.zero_le _) h
  refine sx_128 _ _ W ⟨fun q => ⟨fun _ => ?_, fun q2 => absurd q q2⟩, fun q => ⟨fun q2 => absurd q2 q, fun _ => ?_⟩⟩
  · rw [nI_ltI (by omega) (by omega)] at q
    rwa [Nat.min_eq_left (by omega), Nat.max_eq_right (by omega)] at go
  · rw [nI_ltI (by omega) (by omega)] at q
    rwa [Nat.min_eq_right (by omega), Nat.max_eq_left (by omega)] at go
theorem eIx_some {a c : Nat} : ∀ {es : gE} {i k : Nat}, eIx a c es i = some k → i ≤ k ∧ es[k - i]? = some (a, c)
  | [], i, k, h => by cases h
  | p :: l, i, k, h => by
    rw [eIx] at h
    split at h
    · cases h
      rename_i z
      refine ⟨Nat.le_refl _, ?_⟩
      rw [Nat.sub_self]
      show some p = _
      rw [← z.1, ← z.2]
    · obtain ⟨h1, h2⟩ := eIx_some h
      refine ⟨by omega, ?_⟩
      rw [show k - i = (k - (i + 1)) + 1 by omega, List.getElem?_cons_succ]
      exact h2
theorem eIx_none {a c : Nat} : ∀ {es : gE} {i : Nat}, eIx a c es i = none → (a, c) ∉ es
  | [], i, h => List.not_mem_nil
  | p :: l, i, h => by
    rw [eIx] at h
    split at h
    · cases h
    · rename_i z
      intro hm
      rcases List.mem_cons.mp hm with e | e
      · exact z (by rw [← e]; exact ⟨rfl, rfl⟩)
      · exact eIx_none h e
theorem eNo_adj {u v : Nat} (hO : okE V es) : (eNo es u v).isSome = adj es u v := by
  rw [Bool.eq_iff_iff, adj_iff]
  cases h : eNo es u v with
  | none =>
    have h1 := eIx_none h
    simp only [Option.isSome_none, Bool.false_eq_true, false_iff, not_or]
    constructor
    · intro z
      have := hO.1 _ z
      simp only at this
      rw [Nat.min_eq_left (by omega), Nat.max_eq_right (by omega)] at h1
      exact h1 z
    · intro z
      have := hO.1 _ z
      simp only at this
      rw [Nat.min_eq_right (by omega), Nat.max_eq_left (by omega)] at h1
      exact h1 z
  | some k =>
    have h1 := List.mem_of_getElem? (eIx_some h).2
    simp only [Option.isSome_some, true_iff]
    rcases Nat.lt_or_ge u v with q | q
    · rw [Nat.min_eq_left (by omega), Nat.max_eq_right (by omega)] at h1
      exact Or.inl h1
    · rw [Nat.min_eq_right (by omega), Nat.max_eq_left (by omega)] at h1
      exact Or.inr h1
theorem eNo_at {u v k : Nat} (h : eNo es u v = some k) : es[k]? = some (min u v, max u v) := by
  have := (eIx_some h).2
  rwa [Nat.sub_zero] at this
theorem eNo_of {i : Nat} {p : Nat × Nat} (hO : okE V es) (hp : es[i]? = some p) : eNo es p.1 p.2 = some i := by
  have hm := hO.1 p (List.mem_of_getElem? hp)
  have h1 := eNo_adj (u := p.1) (v := p.2) hO
  rw [adj_iff.mpr (Or.inl (List.mem_of_getElem? hp))] at h1
  obtain ⟨k, hk⟩ := Option.isSome_iff_exists.mp h1
  have h2 := eNo_at hk
  rw [Nat.min_eq_left (by omega), Nat.max_eq_right (by omega)] at h2
  have hl1 := (List.getElem?_eq_some_iff.mp hp).1
  rw [hk]
  congr 1
  exact ((List.getElem?_inj hl1 hO.2).mp (hp.trans h2.symm)).symm
theorem eNo_sym {u v : Nat} : eNo es u v = eNo es v u := by rw [eNo, eNo, Nat.min_comm, Nat.max_comm]
end REF1
end
section
/-! ===== the reference: put, join, cut, all, other ===== -/
section REF2
variable {d : Nat} {Q : fl_R} {W : fl_W} {V : Nat} {es : gE}
theorem rf_put {u v : Nat} (hG : RfG W V es) (hu : u < V) (hv : v < V) (huv : u ≠ v) (hn : adj es u v = false) (hl : es.length < 60) (h : ∀ W', RfG W' V (es ++ [(min u v, max u v)]) → EqF [1] [230, 231] W W' → Q none W') : fl_cal (d + 1) 129 [.ref 229, .int (nI u), .int (nI v)] W Q := by
  have hV := hG.1
  have h1 := hG.2.2.2.2.1
  have hin : vp_in (W 229 1) 61 := by rw [h1]; exact in_N (by omega) (by omega)
  have fin : ∀ (W6 W9 W10 : fl_W), W6 = fl_uw W 230 (W 229 1).toNatClampNeg (nI (min u v)) → W9 = fl_uw W6 231 (W6 229 1).toNatClampNeg (nI (max u v)) → W10 = fl_uw W9 229 1 ((W9 229 1) + (Int32.ofInt 1)) → Q none W10 := by
    intro W6 W9 W10 e6 e9 e10
    have a6 : W6 229 = W 229 := by rw [e6]; exact uw_n (by decide)
    have a9 : W9 229 = W 229 := by rw [e9, uw_n (by decide), a6]
    rw [h1, nI_clamp (by omega)] at e6
    rw [a6, h1, nI_clamp (by omega)] at e9
    rw [a9, h1, ci_1, nI_add] at e10
    refine h W10 ⟨hV, by simp; omega, okE_add hG.2.2.1 hu hv huv hn, ?_, ?_, fun i p hp => ?_⟩ ?_
    · rw [e10, uw_m (by decide), a9]; exact hG.2.2.2.1
    · rw [e10, uw_s]; simp
    · have b1 : W10 230 = upd (W 230) es.length (nI (min u v)) := by rw [e10, uw_n (by decide), e9, uw_n (by decide), e6]; simp [fl_uw]
      have b2 : W10 231 = upd (W 231) es.length (nI (max u v)) := by
        rw [e10, uw_n (by decide), e9]
        simp only [fl_uw, if_true]
        rw [e6, uw_n (by decide)]
      rw [b1, b2]
      by_cases hi : i = es.length
      · subst hi
        rw [List.getElem?_concat_length] at hp
        cases hp
        simp [upd]
      · have hl2 := (List.getElem?_eq_some_iff.mp hp).1
        simp only [List.length_append, List.length_singleton] at hl2
        rw [List.getElem?_append_left (by omega)] at hp
        simp only [upd, hi, if_false]
        exact hG.2.2.2.2.2 i p hp
    · rw [e10, e9, e6]
      exact ((EqF.uwA (by simp) (by decide)).tr (EqF.uwA (by simp) (by decide))).tr (EqF.uwF (by simp))
  have hin6 : ∀ (x : Int32) (W6 : fl_W), W6 = fl_uw W 230 (W 229 1).toNatClampNeg x → vp_in (W6 229 1) 61 := fun x W6 e6 => by rw [e6, uw_n (by decide)]; exact hin
  refine sx_129 _ _ W ⟨fun q => ⟨hin, fun W6 e6 => ⟨fun _ => ⟨hin6 _ W6 e6, fun W9 e9 W10 e10 => fin W6 W9 W10 ?_ ?_ e10⟩, fun q2 => absurd q q2⟩⟩, fun q => ⟨hin, fun W6 e6 => ⟨fun q2 => absurd q2 q, fun _ => ⟨hin6 _ W6 e6, fun W9 e9 W10 e10 => fin W6 W9 W10 ?_ ?_ e10⟩⟩⟩⟩
  · rw [nI_ltI (by omega) (by omega)] at q
    rw [Nat.min_eq_left (by omega)]; exact e6
  · rw [nI_ltI (by omega) (by omega)] at q
    rw [Nat.max_eq_right (by omega)]; exact e9
  · rw [nI_ltI (by omega) (by omega)] at q
    rw [Nat.min_eq_right (by omega)]; exact e6
  · rw [nI_ltI (by omega) (by omega)] at q
    rw [Nat.max_eq_left (by omega)]; exact e9
theorem optI_neg {o : Option Nat} (ho : ∀ k, o = some k → k < 2 ^ 31) : optI o < 0 ↔ o = none := by
  cases o with
  | none => exact ⟨fun _ => rfl, fun _ => by decide⟩
  | some k => exact ⟨fun z => absurd z (nI_pos (ho k rfl)), fun z => by cases z⟩
theorem eNo_lt {u v k : Nat} (h : eNo es u v = some k) : k < es.length := (List.getElem?_eq_some_iff.mp (eNo_at h)).1
theorem rf_eNo_neg {u v : Nat} (hG : RfG W V es) : optI (eNo es u v) < 0 ↔ adj es u v = false := by
  rw [optI_neg fun k hk => by have := eNo_lt hk; have := hG.2.1; omega, ← eNo_adj hG.2.2.1]
  cases eNo es u v <;> simp
/-- what join answers -/
theorem rf_joinNo {u v : Int32} (hG : RfG W V es) (ht : tkB V es u v = false) (h : Q (some (.int (-1))) W) : fl_cal (d + 3) 130 [.ref 229, .int u, .int v] W Q := by
  have hV := hG.1
  have hE := hG.2.1
  refine sx_130 u v W (rf_isV hG ?_)
  cases hu : ixB u V with
  | false => exact ⟨fun _ => h, fun q => absurd rfl q⟩
  | true =>
    refine ⟨fun q => absurd q (by decide), fun _ => rf_isV hG ?_⟩
    cases hv : ixB v V with
    | false => exact ⟨fun _ => h, fun q => absurd rfl q⟩
    | true =>
      refine ⟨fun q => absurd q (by decide), fun _ => ⟨fun _ => h, fun huv => ?_⟩⟩
      obtain ⟨a, ha, rfl⟩ := ixB_ex (by omega) hu
      obtain ⟨c, hc, rfl⟩ := ixB_ex (by omega) hv
      refine rf_eOf (by omega) (by omega) hG ⟨fun hneg => ?_, fun _ => h⟩
      rw [rf_eNo_neg hG] at hneg
      rw [hG.2.2.2.2.1, cb_60]
      refine ⟨fun _ => h, fun hne => ?_⟩
      rw [tkB_N (by omega) (by omega), decide_eq_true ha, decide_eq_true hc, hneg, decide_eq_true (show a ≠ c from fun z => huv (by rw [z])), decide_eq_true (show es.length < 60 from Nat.lt_of_le_of_ne hE fun z => hne (by rw [z]))] at ht
      cases ht
theorem rf_join {u v : Nat} (hG : RfG W V es) (hu : u < V) (hv : v < V) (huv : u ≠ v) (hn : adj es u v = false) (hl : es.length < 60) (h : ∀ W', RfG W' V (es ++ [(min u v, max u v)]) → W' 229 9 = 0 → W' 229 11 = 0 → W' 229 15 = 0 → W' 229 17 = 0 → EqF (1 :: fgL) [230, 231] W W' → Q (some (.int (nI es.length))) W') : fl_cal (d + 3) 130 [.ref 229, .int (nI u), .int (nI v)] W Q := by
  have hV := hG.1
  refine sx_130 _ _ W (rf_isV hG ?_)
  rw [ixB_N (by omega), decide_eq_true hu]
  refine ⟨fun q => absurd q (by decide), fun _ => rf_isV hG ?_⟩
  rw [ixB_N (by omega), decide_eq_true hv]
  refine ⟨fun q => absurd q (by decide), fun _ => ⟨fun q => absurd q (nI_ne (by omega) (by omega) huv), fun _ => rf_eOf (by omega) (by omega) hG ⟨fun _ => ?_, fun q => absurd ((rf_eNo_neg hG).mpr hn) q⟩⟩⟩
  rw [hG.2.2.2.2.1, cb_60]
  refine ⟨fun q => absurd q (nI_ne (by omega) (by omega) (by omega)), fun _ => rf_put hG hu hv huv hn hl fun W4 g4 f4 => rf_forget fun W5 a1 a2 a3 a4 f5 => ?_⟩
  have g5 := g4.fr f5 (by decide) (by decide) (by decide) (by decide)
  show Q (some (.int (W5 229 1 - Int32.ofInt 1))) W5
  rw [g5.2.2.2.2.1, ci_1, show nI 1 = 1 from rfl, List.length_append, List.length_singleton, nI_pred]
  exact h W5 g5 a1 a2 a3 a4 ((f4.mono (by simp) (by simp)).tr (f5.mono (by simp [fgL]) (by simp)))
theorem rf_cutNo {e : Int32} (hG : RfG W V es) (he : ixB e es.length = false) (h : Q (some (.int 0)) W) : fl_cal (d + 2) 131 [.ref 229, .int e] W Q := by
  refine sx_131 e W ?_
  rw [hG.2.2.2.2.1]
  refine rf_inN (by have := hG.2.1; omega) ?_
  rw [he]
  exact ⟨fun _ => h, fun q => absurd rfl q⟩
theorem rf_cut_l {m : Nat} (hm : m < 60) : ∀ (n i : Nat) (W : fl_W), m - i = n → i ≤ m → W 229 1 = nI (m + 1) → (∀ W', (∀ j, j < i → W' 230 j = W 230 j ∧ W' 231 j = W 231 j) → (∀ j, i ≤ j → j < m → W' 230 j = W 230 (j + 1) ∧ W' 231 j = W 231 (j + 1)) → EqF [] [230, 231] W W' → ∀ W2 : fl_W, W2 = fl_uw W' 229 1 ((W' 229 1) - (Int32.ofInt 1)) → fl_cal d 126 [.ref 229] W2 (fl_q0 fun W3 => Q (some (.int (Int32.ofInt 1))) W3)) → hd_131_18 d Q (nI i) W := by
  intro n
  induction n with
  | zero =>
    intro i W h1 h2 h4 h
    refine sx_131_18 _ W ⟨fun q => absurd q ?_, fun _ => h W (fun _ _ => ⟨rfl, rfl⟩) (fun j _ _ => by omega) EqF.rf⟩
    rw [h4, ci_1, show nI 1 = 1 from rfl, nI_pred]; exact nI_nlt (by omega) (by omega)
  | succ n ih =>
    intro i W h1 h2 h4 h
    have e1 : nI i + Int32.ofInt 1 = nI (i + 1) := by rw [ci_1, nI_add]
    refine sx_131_18 _ W ⟨fun _ => ?_, fun q => absurd ?_ q⟩
    · rw [e1]
      refine ⟨in_N (by omega) (by omega), in_N (by omega) (by omega), fun W7 e7 => ⟨in_N (by omega) (by omega), in_N (by omega) (by omega), fun W8 e8 => ?_⟩⟩
      rw [nI_clamp (by omega), nI_clamp (by omega)] at e7
      rw [nI_clamp (by omega), nI_clamp (by omega)] at e8
      have a1 : ∀ j, W8 230 j = if j = i then W 230 (i + 1) else W 230 j := by
        intro j
        rw [e8, uw_n (by decide), e7]
        by_cases hj : j = i
        · subst hj; rw [uw_s, if_pos rfl]
        · rw [uw_m hj, if_neg hj]
      have a2 : ∀ j, W8 231 j = if j = i then W 231 (i + 1) else W 231 j := by
        intro j
        rw [e8]
        by_cases hj : j = i
        · subst hj; rw [uw_s, if_pos rfl, e7, uw_n (by decide)]
        · rw [uw_m hj, if_neg hj, e7, uw_n (by decide)]
      have f : EqF [] [230, 231] W W8 := by rw [e8, e7]; exact (EqF.uwA (by simp) (by decide)).tr (EqF.uwA (by simp) (by decide))
      refine ih (i + 1) W8 (by omega) (by omega) (by rw [f.2 1 (by simp)]; exact h4) fun W' g1 g2 g3 => h W' (fun j hj => ?_) (fun j hj1 hj2 => ?_) (f.tr g3)
      · have := g1 j (by omega)
        rw [a1, a2, if_neg (by omega), if_neg (by omega)] at this
        exact this
      · rcases Nat.lt_or_ge i j with q | q
        · have := g2 j q hj2
          rw [a1, a2, if_neg (by omega), if_neg (by omega)] at this
          exact this
        · have hji : j = i := by omega
          subst hji
          have := g1 j (by omega)
          rw [a1, a2, if_pos rfl, if_pos rfl] at this
          exact this
    · rw [h4, ci_1, show nI 1 = 1 from rfl, nI_pred]; exact nI_lt (by omega) (by omega)
theorem rf_cut {e : Nat} (hG : RfG W V es) (he : e < es.length) (h : ∀ W', RfG W' V (es.eraseIdx e) → W' 229 9 = 0 → W' 229 11 = 0 → W' 229 15 = 0 → W' 229 17 = 0 → EqF (1 :: fgL) [230, 231] W W' → Q (some (.int 1)) W') : fl_cal (d + 2) 131 [.ref 229, .int (nI e)] W Q := by
  have hE := hG.2.1
  have h1 := hG.2.2.2.2.1
  refine sx_131 _ W ?_
  rw [h1]
  refine rf_inN (by omega) ?_
  rw [ixB_N (by omega), decide_eq_true he]
  refine ⟨fun q => absurd q (by decide), fun _ => ?_⟩
  refine rf_cut_l (m := es.length - 1) (by omega) _ e W rfl (by omega) (by rw [h1, Nat.sub_add_cancel (by omega)]) fun W' g1 g2 g3 W2 e2 => rf_forget fun W3 a1 a2 a3 a4 f3 => ?_
  have hw1 : W' 229 1 = nI es.length := by rw [g3.2 1 (by simp)]; exact h1
  rw [hw1, ci_1, pk_sub (by omega)] at e2
  have f2 : EqF (1 :: fgL) [230, 231] W' W2 := by rw [e2]; exact EqF.uwF (by simp)
  refine h W3 ⟨hG.1, ?_, okE_erase hG.2.2.1 e, ?_, ?_, fun i q hq => ?_⟩ a1 a2 a3 a4 (((g3.mono (by simp) (by simp)).tr f2).tr (f3.mono (by simp [fgL]) (by simp)))
  · rw [List.length_eraseIdx]; split <;> omega
  · rw [f3.2 0 (by decide), e2, uw_m (by decide), g3.2 0 (by simp)]; exact hG.2.2.2.1
  · rw [f3.2 1 (by decide), e2, uw_s, List.length_eraseIdx, if_pos he]
  · have s0 : W3 230 = W' 230 := by rw [f3.1 230 (by decide) (by simp), e2, uw_n (by decide)]
    have s1 : W3 231 = W' 231 := by rw [f3.1 231 (by decide) (by simp), e2, uw_n (by decide)]
    rw [s0, s1]
    rw [List.getElem?_eraseIdx] at hq
    by_cases hie : i < e
    · rw [if_pos hie] at hq
      rw [(g1 i hie).1, (g1 i hie).2]
      exact hG.2.2.2.2.2 i q hq
    · rw [if_neg hie] at hq
      have hl := (List.getElem?_eq_some_iff.mp hq).1
      have := g2 i (by omega) (by omega)
      rw [this.1, this.2]
      exact hG.2.2.2.2.2 (i + 1) q hq
theorem rf_all_l (hG : RfG W V es) : ∀ (n i : Nat) (W : fl_W), es.length - i = n → i ≤ es.length → RfG W V es → (∀ j, j < i → W 232 j = 1) → (∀ W', (∀ j, j < es.length → W' 232 j = 1) → EqF [] [232] W W' → Q none W') → hd_132_2 d Q (nI i) W := by
  have hE := hG.2.1
  intro n
  induction n with
  | zero =>
    intro i W h1 h2 hG hb h
    refine sx_132_2 _ W ⟨fun q => absurd q ?_, fun _ => h W (fun j hj => hb j (by omega)) EqF.rf⟩
    rw [hG.2.2.2.2.1]; exact nI_nlt (by omega) (by omega)
  | succ n ih =>
    intro i W h1 h2 hG hb h
    refine sx_132_2 _ W ⟨fun _ => ⟨in_N (by omega) (by omega), fun W1 e1 => ?_⟩, fun q => absurd ?_ q⟩
    · rw [nI_clamp (by omega)] at e1
      have f : EqF [] [232] W W1 := by rw [e1]; exact EqF.uwA (by simp) (by decide)
      rw [ci_1, nI_add]
      refine ih (i + 1) W1 (by omega) (by omega) (hG.fr f (by simp) (by simp) (by decide) (by decide)) (fun j hj => ?_) fun W' k1 k2 => h W' k1 (f.tr k2)
      by_cases hji : j = i
      · subst hji; rw [e1, uw_s]; rfl
      · rw [e1, uw_m hji]; exact hb j (by omega)
    · rw [hG.2.2.2.2.1]; exact nI_lt (by omega) (by omega)
theorem rf_all (hG : RfG W V es) (h : ∀ W', (∀ j, j < es.length → W' 232 j = 1) → EqF [] [232] W W' → Q none W') : fl_cal (d + 1) 132 [.ref 229] W Q :=
  sx_132 W (rf_all_l hG es.length 0 W (by simp) (Nat.zero_le _) hG (fun j hj => by omega) h)
/-- the other end of an edge -/
def othN (p : Nat × Nat) (v : Nat) : Option Nat := if p.1 = v then some p.2 else if p.2 = v then some p.1 else none
theorem rf_other {i v : Nat} {p : Nat × Nat} (hG : RfG W V es) (hp : es[i]? = some p) (hv : v < 2 ^ 31) (h : Q (some (.int (optI (othN p v)))) W) : fl_cal (d + 1) 133 [.ref 229, .int (nI i), .int (nI v)] W Q := by
  have hE := hG.2.1
  have hV := hG.1
  have hi := (List.getElem?_eq_some_iff.mp hp).1
  have hpp := hG.2.2.1.1 _ (List.mem_of_getElem? hp)
  obtain ⟨c1, c2⟩ := hG.2.2.2.2.2 i p hp
  have hin : vp_in (nI i) 61 := in_N (by omega) (by omega)
  refine sx_133 _ _ W ⟨hin, ?_⟩
  rw [nI_clamp (by omega), c1, c2]
  refine ⟨fun e => ⟨hin, ?_⟩, fun e => ⟨hin, ⟨fun e2 => ⟨hin, ?_⟩, fun e2 => ?_⟩⟩⟩
  · rw [nI_eq (by omega) hv] at e
    rw [othN, if_pos e] at h; exact h
  · rw [nI_eq (by omega) hv] at e e2
    rw [othN, if_neg e, if_pos e2] at h; exact h
  · rw [nI_eq (by omega) hv] at e e2
    rw [othN, if_neg e, if_neg e2] at h; exact h
end REF2
end
