section
-- ===== PART A: goes FIRST, ahead of the names: the tables' words, and 'selects' of the private methods out of them =====
/-- a private method of a class that the tables say can be made, by its rows of tables_1 -/
def lw_okq (q : MethodName × Nat) : Prop := (q.1.cls ≠ "java/lang/invoke/MethodHandle" ∧ q.1.cls ≠ "java/lang/invoke/VarHandle") ∧ Cond.instantiable q.1.cls q.2 ∈ tables_1 ∧ Cond.privateMethod q.1 ∈ tables_1 ∧ Cond.instanceMethod q.1 ∈ tables_1
theorem lw_p0 : lw_okq (⟨"MineDesk$Grid", "layCell", "(II)V"⟩, 8) := ⟨⟨by decide +kernel, by decide +kernel⟩, List.mem_of_getElem? (i := 29) (by decide +kernel), List.mem_of_getElem? (i := 357) (by decide +kernel), List.mem_of_getElem? (i := 358) (by decide +kernel)⟩
theorem lw_p1 : lw_okq (⟨"MineDesk$Grid", "at", "(II)I"⟩, 8) := ⟨⟨by decide +kernel, by decide +kernel⟩, List.mem_of_getElem? (i := 29) (by decide +kernel), List.mem_of_getElem? (i := 361) (by decide +kernel), List.mem_of_getElem? (i := 362) (by decide +kernel)⟩
theorem lw_p2 : lw_okq (⟨"MineDesk$Grid", "link", "(II)V"⟩, 8) := ⟨⟨by decide +kernel, by decide +kernel⟩, List.mem_of_getElem? (i := 29) (by decide +kernel), List.mem_of_getElem? (i := 368) (by decide +kernel), List.mem_of_getElem? (i := 369) (by decide +kernel)⟩
theorem lw_p3 : lw_okq (⟨"MineDesk$Grid", "linked", "(II)Z"⟩, 8) := ⟨⟨by decide +kernel, by decide +kernel⟩, List.mem_of_getElem? (i := 29) (by decide +kernel), List.mem_of_getElem? (i := 372) (by decide +kernel), List.mem_of_getElem? (i := 373) (by decide +kernel)⟩
theorem lw_p4 : lw_okq (⟨"MineDesk", "forget", "()V"⟩, 8) := ⟨⟨by decide +kernel, by decide +kernel⟩, List.mem_of_getElem? (i := 15) (by decide +kernel), List.mem_of_getElem? (i := 424) (by decide +kernel), List.mem_of_getElem? (i := 425) (by decide +kernel)⟩
theorem lw_p5 : lw_okq (⟨"MineDesk", "forgetHint", "()V"⟩, 8) := ⟨⟨by decide +kernel, by decide +kernel⟩, List.mem_of_getElem? (i := 15) (by decide +kernel), List.mem_of_getElem? (i := 429) (by decide +kernel), List.mem_of_getElem? (i := 430) (by decide +kernel)⟩
theorem lw_p6 : lw_okq (⟨"MineDesk$Maker", "play", "(I)Z"⟩, 5) := ⟨⟨by decide +kernel, by decide +kernel⟩, List.mem_of_getElem? (i := 318) (by decide +kernel), List.mem_of_getElem? (i := 493) (by decide +kernel), List.mem_of_getElem? (i := 494) (by decide +kernel)⟩
theorem lw_p7 : lw_okq (⟨"MineDesk$Board", "show", "(I)V"⟩, 9) := ⟨⟨by decide +kernel, by decide +kernel⟩, List.mem_of_getElem? (i := 23) (by decide +kernel), List.mem_of_getElem? (i := 504) (by decide +kernel), List.mem_of_getElem? (i := 505) (by decide +kernel)⟩
theorem lw_p8 : lw_okq (⟨"MineDesk$Board", "showAround", "(II)I"⟩, 9) := ⟨⟨by decide +kernel, by decide +kernel⟩, List.mem_of_getElem? (i := 23) (by decide +kernel), List.mem_of_getElem? (i := 517) (by decide +kernel), List.mem_of_getElem? (i := 518) (by decide +kernel)⟩
theorem lw_p9 : lw_okq (⟨"MineDesk$Reasoner", "giveByOne", "(I)Z"⟩, 13) := ⟨⟨by decide +kernel, by decide +kernel⟩, List.mem_of_getElem? (i := 266) (by decide +kernel), List.mem_of_getElem? (i := 536) (by decide +kernel), List.mem_of_getElem? (i := 537) (by decide +kernel)⟩
theorem lw_p10 : lw_okq (⟨"MineDesk$Reasoner", "give", "(JJI)Z"⟩, 13) := ⟨⟨by decide +kernel, by decide +kernel⟩, List.mem_of_getElem? (i := 266) (by decide +kernel), List.mem_of_getElem? (i := 545) (by decide +kernel), List.mem_of_getElem? (i := 546) (by decide +kernel)⟩
theorem lw_p11 : lw_okq (⟨"MineDesk$Reasoner", "blame", "(I)V"⟩, 13) := ⟨⟨by decide +kernel, by decide +kernel⟩, List.mem_of_getElem? (i := 266) (by decide +kernel), List.mem_of_getElem? (i := 551) (by decide +kernel), List.mem_of_getElem? (i := 552) (by decide +kernel)⟩
theorem lw_p12 : lw_okq (⟨"MineDesk$Reasoner", "giveByTwo", "(I)Z"⟩, 13) := ⟨⟨by decide +kernel, by decide +kernel⟩, List.mem_of_getElem? (i := 266) (by decide +kernel), List.mem_of_getElem? (i := 556) (by decide +kernel), List.mem_of_getElem? (i := 557) (by decide +kernel)⟩
theorem lw_p13 : lw_okq (⟨"MineDesk$Reasoner", "giveByPair", "(II)Z"⟩, 13) := ⟨⟨by decide +kernel, by decide +kernel⟩, List.mem_of_getElem? (i := 266) (by decide +kernel), List.mem_of_getElem? (i := 565) (by decide +kernel), List.mem_of_getElem? (i := 566) (by decide +kernel)⟩
theorem lw_p14 : lw_okq (⟨"MineDesk$Placements", "spread", "(LMineDesk$Board;II)I"⟩, 15) := ⟨⟨by decide +kernel, by decide +kernel⟩, List.mem_of_getElem? (i := 179) (by decide +kernel), List.mem_of_getElem? (i := 579) (by decide +kernel), List.mem_of_getElem? (i := 580) (by decide +kernel)⟩
theorem lw_p15 : lw_okq (⟨"MineDesk$Placements", "listAround", "(LMineDesk$Board;II)I"⟩, 15) := ⟨⟨by decide +kernel, by decide +kernel⟩, List.mem_of_getElem? (i := 179) (by decide +kernel), List.mem_of_getElem? (i := 584) (by decide +kernel), List.mem_of_getElem? (i := 585) (by decide +kernel)⟩
def lw_privs_1 : List (MethodName × Nat) := [(⟨"MineDesk$Grid", "layCell", "(II)V"⟩, 8), (⟨"MineDesk$Grid", "at", "(II)I"⟩, 8), (⟨"MineDesk$Grid", "link", "(II)V"⟩, 8), (⟨"MineDesk$Grid", "linked", "(II)Z"⟩, 8), (⟨"MineDesk", "forget", "()V"⟩, 8), (⟨"MineDesk", "forgetHint", "()V"⟩, 8), (⟨"MineDesk$Maker", "play", "(I)Z"⟩, 5), (⟨"MineDesk$Board", "show", "(I)V"⟩, 9), (⟨"MineDesk$Board", "showAround", "(II)I"⟩, 9), (⟨"MineDesk$Reasoner", "giveByOne", "(I)Z"⟩, 13), (⟨"MineDesk$Reasoner", "give", "(JJI)Z"⟩, 13), (⟨"MineDesk$Reasoner", "blame", "(I)V"⟩, 13), (⟨"MineDesk$Reasoner", "giveByTwo", "(I)Z"⟩, 13), (⟨"MineDesk$Reasoner", "giveByPair", "(II)Z"⟩, 13), (⟨"MineDesk$Placements", "spread", "(LMineDesk$Board;II)I"⟩, 15), (⟨"MineDesk$Placements", "listAround", "(LMineDesk$Board;II)I"⟩, 15)]
theorem lw_r1 : ∀ q ∈ lw_privs_1, lw_okq q := List.forall_mem_cons.mpr ⟨lw_p0, List.forall_mem_cons.mpr ⟨lw_p1, List.forall_mem_cons.mpr ⟨lw_p2, List.forall_mem_cons.mpr ⟨lw_p3, List.forall_mem_cons.mpr ⟨lw_p4, List.forall_mem_cons.mpr ⟨lw_p5, List.forall_mem_cons.mpr ⟨lw_p6, List.forall_mem_cons.mpr ⟨lw_p7, List.forall_mem_cons.mpr ⟨lw_p8, List.forall_mem_cons.mpr ⟨lw_p9, List.forall_mem_cons.mpr ⟨lw_p10, List.forall_mem_cons.mpr ⟨lw_p11, List.forall_mem_cons.mpr ⟨lw_p12, List.forall_mem_cons.mpr ⟨lw_p13, List.forall_mem_cons.mpr ⟨lw_p14, List.forall_mem_cons.mpr ⟨lw_p15, fun _ h => absurd h List.not_mem_nil⟩⟩⟩⟩⟩⟩⟩⟩⟩⟩⟩⟩⟩⟩⟩⟩
theorem lw_p16 : lw_okq (⟨"MineDesk$Search", "fits", "(II)Z"⟩, 8) := ⟨⟨by decide +kernel, by decide +kernel⟩, List.mem_of_getElem? (i := 187) (by decide +kernel), List.mem_of_getElem? (i := 612) (by decide +kernel), List.mem_of_getElem? (i := 613) (by decide +kernel)⟩
theorem lw_p17 : lw_okq (⟨"MineDesk$Search", "note", "(I)V"⟩, 8) := ⟨⟨by decide +kernel, by decide +kernel⟩, List.mem_of_getElem? (i := 187) (by decide +kernel), List.mem_of_getElem? (i := 622) (by decide +kernel), List.mem_of_getElem? (i := 623) (by decide +kernel)⟩
theorem lw_p18 : lw_okq (⟨"MineDesk$Placements", "keepCounts", "(I)V"⟩, 15) := ⟨⟨by decide +kernel, by decide +kernel⟩, List.mem_of_getElem? (i := 179) (by decide +kernel), List.mem_of_getElem? (i := 626) (by decide +kernel), List.mem_of_getElem? (i := 627) (by decide +kernel)⟩
theorem lw_p19 : lw_okq (⟨"MineDesk$Placements", "sumWithout", "(I)V"⟩, 15) := ⟨⟨by decide +kernel, by decide +kernel⟩, List.mem_of_getElem? (i := 179) (by decide +kernel), List.mem_of_getElem? (i := 648) (by decide +kernel), List.mem_of_getElem? (i := 649) (by decide +kernel)⟩
theorem lw_p20 : lw_okq (⟨"MineDesk$Placements", "forcePart", "(III)V"⟩, 15) := ⟨⟨by decide +kernel, by decide +kernel⟩, List.mem_of_getElem? (i := 179) (by decide +kernel), List.mem_of_getElem? (i := 657) (by decide +kernel), List.mem_of_getElem? (i := 658) (by decide +kernel)⟩
theorem lw_p21 : lw_okq (⟨"MineDesk$Placements", "reaches", "(II)Z"⟩, 15) := ⟨⟨by decide +kernel, by decide +kernel⟩, List.mem_of_getElem? (i := 179) (by decide +kernel), List.mem_of_getElem? (i := 661) (by decide +kernel), List.mem_of_getElem? (i := 662) (by decide +kernel)⟩
theorem lw_p22 : lw_okq (⟨"MineDesk$Placements", "forceLoose", "(LMineDesk$Board;II)V"⟩, 15) := ⟨⟨by decide +kernel, by decide +kernel⟩, List.mem_of_getElem? (i := 179) (by decide +kernel), List.mem_of_getElem? (i := 669) (by decide +kernel), List.mem_of_getElem? (i := 670) (by decide +kernel)⟩
theorem lw_p23 : lw_okq (⟨"MineDesk$Reasoner", "giveByAll", "()Z"⟩, 13) := ⟨⟨by decide +kernel, by decide +kernel⟩, List.mem_of_getElem? (i := 266) (by decide +kernel), List.mem_of_getElem? (i := 681) (by decide +kernel), List.mem_of_getElem? (i := 682) (by decide +kernel)⟩
theorem lw_p24 : lw_okq (⟨"MineDesk$Maker", "mend", "()Z"⟩, 5) := ⟨⟨by decide +kernel, by decide +kernel⟩, List.mem_of_getElem? (i := 318) (by decide +kernel), List.mem_of_getElem? (i := 710) (by decide +kernel), List.mem_of_getElem? (i := 711) (by decide +kernel)⟩
theorem lw_p25 : lw_okq (⟨"MineDesk$Board", "isQuiet", "(I)Z"⟩, 9) := ⟨⟨by decide +kernel, by decide +kernel⟩, List.mem_of_getElem? (i := 23) (by decide +kernel), List.mem_of_getElem? (i := 787) (by decide +kernel), List.mem_of_getElem? (i := 788) (by decide +kernel)⟩
theorem lw_p26 : lw_okq (⟨"MineDesk$Board", "heapUp", "(I)V"⟩, 9) := ⟨⟨by decide +kernel, by decide +kernel⟩, List.mem_of_getElem? (i := 23) (by decide +kernel), List.mem_of_getElem? (i := 792) (by decide +kernel), List.mem_of_getElem? (i := 793) (by decide +kernel)⟩
theorem lw_p27 : lw_okq (⟨"MineDesk", "putTold", "(IZ)I"⟩, 8) := ⟨⟨by decide +kernel, by decide +kernel⟩, List.mem_of_getElem? (i := 15) (by decide +kernel), List.mem_of_getElem? (i := 825) (by decide +kernel), List.mem_of_getElem? (i := 826) (by decide +kernel)⟩
theorem lw_p28 : lw_okq (⟨"MineDesk$Placements", "pushAround", "(LMineDesk$Board;I)Z"⟩, 15) := ⟨⟨by decide +kernel, by decide +kernel⟩, List.mem_of_getElem? (i := 179) (by decide +kernel), List.mem_of_getElem? (i := 841) (by decide +kernel), List.mem_of_getElem? (i := 842) (by decide +kernel)⟩
theorem lw_p29 : lw_okq (⟨"MineDesk$Placements", "countWithout", "(I)V"⟩, 15) := ⟨⟨by decide +kernel, by decide +kernel⟩, List.mem_of_getElem? (i := 179) (by decide +kernel), List.mem_of_getElem? (i := 864) (by decide +kernel), List.mem_of_getElem? (i := 865) (by decide +kernel)⟩
theorem lw_p30 : lw_okq (⟨"MineDesk$Placements", "chooseFrom", "(I)V"⟩, 15) := ⟨⟨by decide +kernel, by decide +kernel⟩, List.mem_of_getElem? (i := 179) (by decide +kernel), List.mem_of_getElem? (i := 872) (by decide +kernel), List.mem_of_getElem? (i := 873) (by decide +kernel)⟩
theorem lw_p31 : lw_okq (⟨"MineDesk$Placements", "fill", "(I)J"⟩, 15) := ⟨⟨by decide +kernel, by decide +kernel⟩, List.mem_of_getElem? (i := 179) (by decide +kernel), List.mem_of_getElem? (i := 876) (by decide +kernel), List.mem_of_getElem? (i := 877) (by decide +kernel)⟩
def lw_privs_2 : List (MethodName × Nat) := [(⟨"MineDesk$Search", "fits", "(II)Z"⟩, 8), (⟨"MineDesk$Search", "note", "(I)V"⟩, 8), (⟨"MineDesk$Placements", "keepCounts", "(I)V"⟩, 15), (⟨"MineDesk$Placements", "sumWithout", "(I)V"⟩, 15), (⟨"MineDesk$Placements", "forcePart", "(III)V"⟩, 15), (⟨"MineDesk$Placements", "reaches", "(II)Z"⟩, 15), (⟨"MineDesk$Placements", "forceLoose", "(LMineDesk$Board;II)V"⟩, 15), (⟨"MineDesk$Reasoner", "giveByAll", "()Z"⟩, 13), (⟨"MineDesk$Maker", "mend", "()Z"⟩, 5), (⟨"MineDesk$Board", "isQuiet", "(I)Z"⟩, 9), (⟨"MineDesk$Board", "heapUp", "(I)V"⟩, 9), (⟨"MineDesk", "putTold", "(IZ)I"⟩, 8), (⟨"MineDesk$Placements", "pushAround", "(LMineDesk$Board;I)Z"⟩, 15), (⟨"MineDesk$Placements", "countWithout", "(I)V"⟩, 15), (⟨"MineDesk$Placements", "chooseFrom", "(I)V"⟩, 15), (⟨"MineDesk$Placements", "fill", "(I)J"⟩, 15)]
theorem lw_r2 : ∀ q ∈ lw_privs_2, lw_okq q := List.forall_mem_cons.mpr ⟨lw_p16, List.forall_mem_cons.mpr ⟨lw_p17, List.forall_mem_cons.mpr ⟨lw_p18, List.forall_mem_cons.mpr ⟨lw_p19, List.forall_mem_cons.mpr ⟨lw_p20, List.forall_mem_cons.mpr ⟨lw_p21, List.forall_mem_cons.mpr ⟨lw_p22, List.forall_mem_cons.mpr ⟨lw_p23, List.forall_mem_cons.mpr ⟨lw_p24, List.forall_mem_cons.mpr ⟨lw_p25, List.forall_mem_cons.mpr ⟨lw_p26, List.forall_mem_cons.mpr ⟨lw_p27, List.forall_mem_cons.mpr ⟨lw_p28, List.forall_mem_cons.mpr ⟨lw_p29, List.forall_mem_cons.mpr ⟨lw_p30, List.forall_mem_cons.mpr ⟨lw_p31, fun _ h => absurd h List.not_mem_nil⟩⟩⟩⟩⟩⟩⟩⟩⟩⟩⟩⟩⟩⟩⟩⟩
theorem lw_p32 : lw_okq (⟨"MineDeskModel", "layOut", "(III)V"⟩, 38) := ⟨⟨by decide +kernel, by decide +kernel⟩, List.mem_of_getElem? (i := 888) (by decide +kernel), List.mem_of_getElem? (i := 894) (by decide +kernel), List.mem_of_getElem? (i := 895) (by decide +kernel)⟩
theorem lw_p33 : lw_okq (⟨"MineDeskModel", "join", "(III)V"⟩, 38) := ⟨⟨by decide +kernel, by decide +kernel⟩, List.mem_of_getElem? (i := 888) (by decide +kernel), List.mem_of_getElem? (i := 898) (by decide +kernel), List.mem_of_getElem? (i := 899) (by decide +kernel)⟩
theorem lw_p34 : lw_okq (⟨"MineDeskModel", "hideAll", "()V"⟩, 38) := ⟨⟨by decide +kernel, by decide +kernel⟩, List.mem_of_getElem? (i := 888) (by decide +kernel), List.mem_of_getElem? (i := 1025) (by decide +kernel), List.mem_of_getElem? (i := 1026) (by decide +kernel)⟩
theorem lw_p35 : lw_okq (⟨"MineDeskModel", "forget", "()V"⟩, 38) := ⟨⟨by decide +kernel, by decide +kernel⟩, List.mem_of_getElem? (i := 888) (by decide +kernel), List.mem_of_getElem? (i := 1029) (by decide +kernel), List.mem_of_getElem? (i := 1030) (by decide +kernel)⟩
theorem lw_p36 : lw_okq (⟨"MineDeskModel", "isCell", "(I)Z"⟩, 38) := ⟨⟨by decide +kernel, by decide +kernel⟩, List.mem_of_getElem? (i := 888) (by decide +kernel), List.mem_of_getElem? (i := 1037) (by decide +kernel), List.mem_of_getElem? (i := 1038) (by decide +kernel)⟩
theorem lw_p37 : lw_okq (⟨"MineDeskModel", "inState", "(I)I"⟩, 38) := ⟨⟨by decide +kernel, by decide +kernel⟩, List.mem_of_getElem? (i := 888) (by decide +kernel), List.mem_of_getElem? (i := 1041) (by decide +kernel), List.mem_of_getElem? (i := 1042) (by decide +kernel)⟩
theorem lw_p38 : lw_okq (⟨"MineDeskModel", "mines", "()I"⟩, 38) := ⟨⟨by decide +kernel, by decide +kernel⟩, List.mem_of_getElem? (i := 888) (by decide +kernel), List.mem_of_getElem? (i := 1045) (by decide +kernel), List.mem_of_getElem? (i := 1046) (by decide +kernel)⟩
theorem lw_p39 : lw_okq (⟨"MineDeskModel", "canBeMined", "(II)Z"⟩, 38) := ⟨⟨by decide +kernel, by decide +kernel⟩, List.mem_of_getElem? (i := 888) (by decide +kernel), List.mem_of_getElem? (i := 1053) (by decide +kernel), List.mem_of_getElem? (i := 1054) (by decide +kernel)⟩
theorem lw_p40 : lw_okq (⟨"MineDeskModel", "isNear", "(II)Z"⟩, 38) := ⟨⟨by decide +kernel, by decide +kernel⟩, List.mem_of_getElem? (i := 888) (by decide +kernel), List.mem_of_getElem? (i := 1057) (by decide +kernel), List.mem_of_getElem? (i := 1058) (by decide +kernel)⟩
theorem lw_p41 : lw_okq (⟨"MineDeskModel", "keepBoard", "()V"⟩, 38) := ⟨⟨by decide +kernel, by decide +kernel⟩, List.mem_of_getElem? (i := 888) (by decide +kernel), List.mem_of_getElem? (i := 1061) (by decide +kernel), List.mem_of_getElem? (i := 1062) (by decide +kernel)⟩
theorem lw_p42 : lw_okq (⟨"MineDeskModel", "drawMines", "(III)V"⟩, 38) := ⟨⟨by decide +kernel, by decide +kernel⟩, List.mem_of_getElem? (i := 888) (by decide +kernel), List.mem_of_getElem? (i := 1065) (by decide +kernel), List.mem_of_getElem? (i := 1066) (by decide +kernel)⟩
theorem lw_p43 : lw_okq (⟨"MineDeskModel", "plays", "(II)Z"⟩, 38) := ⟨⟨by decide +kernel, by decide +kernel⟩, List.mem_of_getElem? (i := 888) (by decide +kernel), List.mem_of_getElem? (i := 1072) (by decide +kernel), List.mem_of_getElem? (i := 1073) (by decide +kernel)⟩
theorem lw_p44 : lw_okq (⟨"MineDeskModel", "uncover", "(I)V"⟩, 38) := ⟨⟨by decide +kernel, by decide +kernel⟩, List.mem_of_getElem? (i := 888) (by decide +kernel), List.mem_of_getElem? (i := 1076) (by decide +kernel), List.mem_of_getElem? (i := 1077) (by decide +kernel)⟩
theorem lw_p45 : lw_okq (⟨"MineDeskModel", "numberOf", "(I)I"⟩, 38) := ⟨⟨by decide +kernel, by decide +kernel⟩, List.mem_of_getElem? (i := 888) (by decide +kernel), List.mem_of_getElem? (i := 1080) (by decide +kernel), List.mem_of_getElem? (i := 1081) (by decide +kernel)⟩
theorem lw_p46 : lw_okq (⟨"MineDeskModel", "isSolved", "()Z"⟩, 38) := ⟨⟨by decide +kernel, by decide +kernel⟩, List.mem_of_getElem? (i := 888) (by decide +kernel), List.mem_of_getElem? (i := 1084) (by decide +kernel), List.mem_of_getElem? (i := 1085) (by decide +kernel)⟩
theorem lw_p47 : lw_okq (⟨"MineDeskModel", "find", "(I)V"⟩, 38) := ⟨⟨by decide +kernel, by decide +kernel⟩, List.mem_of_getElem? (i := 888) (by decide +kernel), List.mem_of_getElem? (i := 1088) (by decide +kernel), List.mem_of_getElem? (i := 1089) (by decide +kernel)⟩
def lw_privs_3 : List (MethodName × Nat) := [(⟨"MineDeskModel", "layOut", "(III)V"⟩, 38), (⟨"MineDeskModel", "join", "(III)V"⟩, 38), (⟨"MineDeskModel", "hideAll", "()V"⟩, 38), (⟨"MineDeskModel", "forget", "()V"⟩, 38), (⟨"MineDeskModel", "isCell", "(I)Z"⟩, 38), (⟨"MineDeskModel", "inState", "(I)I"⟩, 38), (⟨"MineDeskModel", "mines", "()I"⟩, 38), (⟨"MineDeskModel", "canBeMined", "(II)Z"⟩, 38), (⟨"MineDeskModel", "isNear", "(II)Z"⟩, 38), (⟨"MineDeskModel", "keepBoard", "()V"⟩, 38), (⟨"MineDeskModel", "drawMines", "(III)V"⟩, 38), (⟨"MineDeskModel", "plays", "(II)Z"⟩, 38), (⟨"MineDeskModel", "uncover", "(I)V"⟩, 38), (⟨"MineDeskModel", "numberOf", "(I)I"⟩, 38), (⟨"MineDeskModel", "isSolved", "()Z"⟩, 38), (⟨"MineDeskModel", "find", "(I)V"⟩, 38)]
theorem lw_r3 : ∀ q ∈ lw_privs_3, lw_okq q := List.forall_mem_cons.mpr ⟨lw_p32, List.forall_mem_cons.mpr ⟨lw_p33, List.forall_mem_cons.mpr ⟨lw_p34, List.forall_mem_cons.mpr ⟨lw_p35, List.forall_mem_cons.mpr ⟨lw_p36, List.forall_mem_cons.mpr ⟨lw_p37, List.forall_mem_cons.mpr ⟨lw_p38, List.forall_mem_cons.mpr ⟨lw_p39, List.forall_mem_cons.mpr ⟨lw_p40, List.forall_mem_cons.mpr ⟨lw_p41, List.forall_mem_cons.mpr ⟨lw_p42, List.forall_mem_cons.mpr ⟨lw_p43, List.forall_mem_cons.mpr ⟨lw_p44, List.forall_mem_cons.mpr ⟨lw_p45, List.forall_mem_cons.mpr ⟨lw_p46, List.forall_mem_cons.mpr ⟨lw_p47, fun _ h => absurd h List.not_mem_nil⟩⟩⟩⟩⟩⟩⟩⟩⟩⟩⟩⟩⟩⟩⟩⟩
theorem lw_p48 : lw_okq (⟨"MineDeskModel", "rule", "(I)I"⟩, 38) := ⟨⟨by decide +kernel, by decide +kernel⟩, List.mem_of_getElem? (i := 888) (by decide +kernel), List.mem_of_getElem? (i := 1092) (by decide +kernel), List.mem_of_getElem? (i := 1093) (by decide +kernel)⟩
theorem lw_p49 : lw_okq (⟨"MineDeskModel", "clearGiven", "()V"⟩, 38) := ⟨⟨by decide +kernel, by decide +kernel⟩, List.mem_of_getElem? (i := 888) (by decide +kernel), List.mem_of_getElem? (i := 1096) (by decide +kernel), List.mem_of_getElem? (i := 1097) (by decide +kernel)⟩
theorem lw_p50 : lw_okq (⟨"MineDeskModel", "ruleOne", "()Z"⟩, 38) := ⟨⟨by decide +kernel, by decide +kernel⟩, List.mem_of_getElem? (i := 888) (by decide +kernel), List.mem_of_getElem? (i := 1100) (by decide +kernel), List.mem_of_getElem? (i := 1101) (by decide +kernel)⟩
theorem lw_p51 : lw_okq (⟨"MineDeskModel", "unsure", "(I)I"⟩, 38) := ⟨⟨by decide +kernel, by decide +kernel⟩, List.mem_of_getElem? (i := 888) (by decide +kernel), List.mem_of_getElem? (i := 1104) (by decide +kernel), List.mem_of_getElem? (i := 1105) (by decide +kernel)⟩
theorem lw_p52 : lw_okq (⟨"MineDeskModel", "isUnsure", "(II)Z"⟩, 38) := ⟨⟨by decide +kernel, by decide +kernel⟩, List.mem_of_getElem? (i := 888) (by decide +kernel), List.mem_of_getElem? (i := 1108) (by decide +kernel), List.mem_of_getElem? (i := 1109) (by decide +kernel)⟩
theorem lw_p53 : lw_okq (⟨"MineDeskModel", "due", "(I)I"⟩, 38) := ⟨⟨by decide +kernel, by decide +kernel⟩, List.mem_of_getElem? (i := 888) (by decide +kernel), List.mem_of_getElem? (i := 1112) (by decide +kernel), List.mem_of_getElem? (i := 1113) (by decide +kernel)⟩
theorem lw_p54 : lw_okq (⟨"MineDeskModel", "nearState", "(II)I"⟩, 38) := ⟨⟨by decide +kernel, by decide +kernel⟩, List.mem_of_getElem? (i := 888) (by decide +kernel), List.mem_of_getElem? (i := 1116) (by decide +kernel), List.mem_of_getElem? (i := 1117) (by decide +kernel)⟩
theorem lw_p55 : lw_okq (⟨"MineDeskModel", "becauseOf", "(I)V"⟩, 38) := ⟨⟨by decide +kernel, by decide +kernel⟩, List.mem_of_getElem? (i := 888) (by decide +kernel), List.mem_of_getElem? (i := 1120) (by decide +kernel), List.mem_of_getElem? (i := 1121) (by decide +kernel)⟩
theorem lw_p56 : lw_okq (⟨"MineDeskModel", "ruleTwo", "()Z"⟩, 38) := ⟨⟨by decide +kernel, by decide +kernel⟩, List.mem_of_getElem? (i := 888) (by decide +kernel), List.mem_of_getElem? (i := 1124) (by decide +kernel), List.mem_of_getElem? (i := 1125) (by decide +kernel)⟩
theorem lw_p57 : lw_okq (⟨"MineDeskModel", "isWithin", "(II)Z"⟩, 38) := ⟨⟨by decide +kernel, by decide +kernel⟩, List.mem_of_getElem? (i := 888) (by decide +kernel), List.mem_of_getElem? (i := 1128) (by decide +kernel), List.mem_of_getElem? (i := 1129) (by decide +kernel)⟩
theorem lw_p58 : lw_okq (⟨"MineDeskModel", "ruleThree", "()Z"⟩, 38) := ⟨⟨by decide +kernel, by decide +kernel⟩, List.mem_of_getElem? (i := 888) (by decide +kernel), List.mem_of_getElem? (i := 1132) (by decide +kernel), List.mem_of_getElem? (i := 1133) (by decide +kernel)⟩
theorem lw_p59 : lw_okq (⟨"MineDeskModel", "findParts", "()Z"⟩, 38) := ⟨⟨by decide +kernel, by decide +kernel⟩, List.mem_of_getElem? (i := 888) (by decide +kernel), List.mem_of_getElem? (i := 1136) (by decide +kernel), List.mem_of_getElem? (i := 1137) (by decide +kernel)⟩
theorem lw_p60 : lw_okq (⟨"MineDeskModel", "findWays", "()V"⟩, 38) := ⟨⟨by decide +kernel, by decide +kernel⟩, List.mem_of_getElem? (i := 888) (by decide +kernel), List.mem_of_getElem? (i := 1140) (by decide +kernel), List.mem_of_getElem? (i := 1141) (by decide +kernel)⟩
theorem lw_p61 : lw_okq (⟨"MineDeskModel", "tryPart", "(I)V"⟩, 38) := ⟨⟨by decide +kernel, by decide +kernel⟩, List.mem_of_getElem? (i := 888) (by decide +kernel), List.mem_of_getElem? (i := 1144) (by decide +kernel), List.mem_of_getElem? (i := 1145) (by decide +kernel)⟩
theorem lw_p62 : lw_okq (⟨"MineDeskModel", "fits", "(I)Z"⟩, 38) := ⟨⟨by decide +kernel, by decide +kernel⟩, List.mem_of_getElem? (i := 888) (by decide +kernel), List.mem_of_getElem? (i := 1148) (by decide +kernel), List.mem_of_getElem? (i := 1149) (by decide +kernel)⟩
theorem lw_p63 : lw_okq (⟨"MineDeskModel", "countOne", "(II)V"⟩, 38) := ⟨⟨by decide +kernel, by decide +kernel⟩, List.mem_of_getElem? (i := 888) (by decide +kernel), List.mem_of_getElem? (i := 1152) (by decide +kernel), List.mem_of_getElem? (i := 1153) (by decide +kernel)⟩
def lw_privs_4 : List (MethodName × Nat) := [(⟨"MineDeskModel", "rule", "(I)I"⟩, 38), (⟨"MineDeskModel", "clearGiven", "()V"⟩, 38), (⟨"MineDeskModel", "ruleOne", "()Z"⟩, 38), (⟨"MineDeskModel", "unsure", "(I)I"⟩, 38), (⟨"MineDeskModel", "isUnsure", "(II)Z"⟩, 38), (⟨"MineDeskModel", "due", "(I)I"⟩, 38), (⟨"MineDeskModel", "nearState", "(II)I"⟩, 38), (⟨"MineDeskModel", "becauseOf", "(I)V"⟩, 38), (⟨"MineDeskModel", "ruleTwo", "()Z"⟩, 38), (⟨"MineDeskModel", "isWithin", "(II)Z"⟩, 38), (⟨"MineDeskModel", "ruleThree", "()Z"⟩, 38), (⟨"MineDeskModel", "findParts", "()Z"⟩, 38), (⟨"MineDeskModel", "findWays", "()V"⟩, 38), (⟨"MineDeskModel", "tryPart", "(I)V"⟩, 38), (⟨"MineDeskModel", "fits", "(I)Z"⟩, 38), (⟨"MineDeskModel", "countOne", "(II)V"⟩, 38)]
theorem lw_r4 : ∀ q ∈ lw_privs_4, lw_okq q := List.forall_mem_cons.mpr ⟨lw_p48, List.forall_mem_cons.mpr ⟨lw_p49, List.forall_mem_cons.mpr ⟨lw_p50, List.forall_mem_cons.mpr ⟨lw_p51, List.forall_mem_cons.mpr ⟨lw_p52, List.forall_mem_cons.mpr ⟨lw_p53, List.forall_mem_cons.mpr ⟨lw_p54, List.forall_mem_cons.mpr ⟨lw_p55, List.forall_mem_cons.mpr ⟨lw_p56, List.forall_mem_cons.mpr ⟨lw_p57, List.forall_mem_cons.mpr ⟨lw_p58, List.forall_mem_cons.mpr ⟨lw_p59, List.forall_mem_cons.mpr ⟨lw_p60, List.forall_mem_cons.mpr ⟨lw_p61, List.forall_mem_cons.mpr ⟨lw_p62, List.forall_mem_cons.mpr ⟨lw_p63, fun _ h => absurd h List.not_mem_nil⟩⟩⟩⟩⟩⟩⟩⟩⟩⟩⟩⟩⟩⟩⟩⟩
theorem lw_p64 : lw_okq (⟨"MineDeskModel", "canBe", "(II)Z"⟩, 38) := ⟨⟨by decide +kernel, by decide +kernel⟩, List.mem_of_getElem? (i := 888) (by decide +kernel), List.mem_of_getElem? (i := 1156) (by decide +kernel), List.mem_of_getElem? (i := 1157) (by decide +kernel)⟩
theorem lw_p65 : lw_okq (⟨"MineDeskModel", "sumParts", "(IZ)V"⟩, 38) := ⟨⟨by decide +kernel, by decide +kernel⟩, List.mem_of_getElem? (i := 888) (by decide +kernel), List.mem_of_getElem? (i := 1160) (by decide +kernel), List.mem_of_getElem? (i := 1161) (by decide +kernel)⟩
theorem lw_p66 : lw_okq (⟨"MineDeskModel", "addPart", "(IZZ)V"⟩, 38) := ⟨⟨by decide +kernel, by decide +kernel⟩, List.mem_of_getElem? (i := 888) (by decide +kernel), List.mem_of_getElem? (i := 1164) (by decide +kernel), List.mem_of_getElem? (i := 1165) (by decide +kernel)⟩
theorem lw_p67 : lw_okq (⟨"MineDeskModel", "mineLeft", "()I"⟩, 38) := ⟨⟨by decide +kernel, by decide +kernel⟩, List.mem_of_getElem? (i := 888) (by decide +kernel), List.mem_of_getElem? (i := 1169) (by decide +kernel), List.mem_of_getElem? (i := 1170) (by decide +kernel)⟩
theorem lw_p68 : lw_okq (⟨"MineDeskModel", "mends", "()Z"⟩, 38) := ⟨⟨by decide +kernel, by decide +kernel⟩, List.mem_of_getElem? (i := 888) (by decide +kernel), List.mem_of_getElem? (i := 1173) (by decide +kernel), List.mem_of_getElem? (i := 1174) (by decide +kernel)⟩
theorem lw_p69 : lw_okq (⟨"MineDeskModel", "bringBack", "()V"⟩, 38) := ⟨⟨by decide +kernel, by decide +kernel⟩, List.mem_of_getElem? (i := 888) (by decide +kernel), List.mem_of_getElem? (i := 1177) (by decide +kernel), List.mem_of_getElem? (i := 1178) (by decide +kernel)⟩
theorem lw_p70 : lw_okq (⟨"MineDeskModel", "move", "()V"⟩, 38) := ⟨⟨by decide +kernel, by decide +kernel⟩, List.mem_of_getElem? (i := 888) (by decide +kernel), List.mem_of_getElem? (i := 1201) (by decide +kernel), List.mem_of_getElem? (i := 1202) (by decide +kernel)⟩
theorem lw_p71 : lw_okq (⟨"MineDeskModel", "flagsNear", "(I)I"⟩, 38) := ⟨⟨by decide +kernel, by decide +kernel⟩, List.mem_of_getElem? (i := 888) (by decide +kernel), List.mem_of_getElem? (i := 1213) (by decide +kernel), List.mem_of_getElem? (i := 1214) (by decide +kernel)⟩
theorem lw_p72 : lw_okq (⟨"MineDeskModel", "isBare", "(I)Z"⟩, 38) := ⟨⟨by decide +kernel, by decide +kernel⟩, List.mem_of_getElem? (i := 888) (by decide +kernel), List.mem_of_getElem? (i := 1233) (by decide +kernel), List.mem_of_getElem? (i := 1234) (by decide +kernel)⟩
theorem lw_p73 : lw_okq (⟨"MineDeskModel", "change", "(IZ)I"⟩, 38) := ⟨⟨by decide +kernel, by decide +kernel⟩, List.mem_of_getElem? (i := 888) (by decide +kernel), List.mem_of_getElem? (i := 1261) (by decide +kernel), List.mem_of_getElem? (i := 1262) (by decide +kernel)⟩
theorem lw_p74 : lw_okq (⟨"MineDeskModel", "spokenOf", "(I)I"⟩, 38) := ⟨⟨by decide +kernel, by decide +kernel⟩, List.mem_of_getElem? (i := 888) (by decide +kernel), List.mem_of_getElem? (i := 1273) (by decide +kernel), List.mem_of_getElem? (i := 1274) (by decide +kernel)⟩
theorem lw_p75 : lw_okq (⟨"MineDeskModel", "together", "(II)I"⟩, 38) := ⟨⟨by decide +kernel, by decide +kernel⟩, List.mem_of_getElem? (i := 888) (by decide +kernel), List.mem_of_getElem? (i := 1284) (by decide +kernel), List.mem_of_getElem? (i := 1285) (by decide +kernel)⟩
theorem lw_p76 : lw_okq (⟨"MineDeskModel", "findChoices", "(I)V"⟩, 38) := ⟨⟨by decide +kernel, by decide +kernel⟩, List.mem_of_getElem? (i := 888) (by decide +kernel), List.mem_of_getElem? (i := 1288) (by decide +kernel), List.mem_of_getElem? (i := 1289) (by decide +kernel)⟩
def lw_privs_5 : List (MethodName × Nat) := [(⟨"MineDeskModel", "canBe", "(II)Z"⟩, 38), (⟨"MineDeskModel", "sumParts", "(IZ)V"⟩, 38), (⟨"MineDeskModel", "addPart", "(IZZ)V"⟩, 38), (⟨"MineDeskModel", "mineLeft", "()I"⟩, 38), (⟨"MineDeskModel", "mends", "()Z"⟩, 38), (⟨"MineDeskModel", "bringBack", "()V"⟩, 38), (⟨"MineDeskModel", "move", "()V"⟩, 38), (⟨"MineDeskModel", "flagsNear", "(I)I"⟩, 38), (⟨"MineDeskModel", "isBare", "(I)Z"⟩, 38), (⟨"MineDeskModel", "change", "(IZ)I"⟩, 38), (⟨"MineDeskModel", "spokenOf", "(I)I"⟩, 38), (⟨"MineDeskModel", "together", "(II)I"⟩, 38), (⟨"MineDeskModel", "findChoices", "(I)V"⟩, 38)]
theorem lw_r5 : ∀ q ∈ lw_privs_5, lw_okq q := List.forall_mem_cons.mpr ⟨lw_p64, List.forall_mem_cons.mpr ⟨lw_p65, List.forall_mem_cons.mpr ⟨lw_p66, List.forall_mem_cons.mpr ⟨lw_p67, List.forall_mem_cons.mpr ⟨lw_p68, List.forall_mem_cons.mpr ⟨lw_p69, List.forall_mem_cons.mpr ⟨lw_p70, List.forall_mem_cons.mpr ⟨lw_p71, List.forall_mem_cons.mpr ⟨lw_p72, List.forall_mem_cons.mpr ⟨lw_p73, List.forall_mem_cons.mpr ⟨lw_p74, List.forall_mem_cons.mpr ⟨lw_p75, List.forall_mem_cons.mpr ⟨lw_p76, fun _ h => absurd h List.not_mem_nil⟩⟩⟩⟩⟩⟩⟩⟩⟩⟩⟩⟩⟩
def lw_privs : List (MethodName × Nat) := lw_privs_1 ++ (lw_privs_2 ++ (lw_privs_3 ++ (lw_privs_4 ++ (lw_privs_5))))
def lw_tbl : List Cond := k2_sels lw_privs ++ tables_1
theorem lw_privs_ok : ∀ q ∈ lw_privs, lw_okq q := by
  show ∀ q ∈ lw_privs_1 ++ (lw_privs_2 ++ (lw_privs_3 ++ (lw_privs_4 ++ (lw_privs_5)))), lw_okq q
  exact List.forall_mem_append.mpr ⟨lw_r1, List.forall_mem_append.mpr ⟨lw_r2, List.forall_mem_append.mpr ⟨lw_r3, List.forall_mem_append.mpr ⟨lw_r4, lw_r5⟩⟩⟩⟩
end
section
def RX0 : String := "MineDesk$Bits"
def TX0 : u_T := fun k => match k with
  | 0 => ("MineDesk$Bits", "lo", "J", false)
  | _ => ("MineDesk$Bits", "hi", "J", false)
def tyX0 : Nat → FieldType := fun k => match k with
  | 0 => .long
  | _ => .long
theorem nmX0 : ∀ a, a < 2 → ∀ b, b < 2 → a ≠ b → (TX0 a).2.1 ≠ (TX0 b).2.1 := by decide +kernel
theorem tyX0_ok : ∀ k, k < 2 → parseFieldDescriptor (TX0 k).2.2.1 = some (tyX0 k) := by decide +kernel
abbrev cX0_init : ByteArray := prog_2_method_1_code
def yX0_init : MethodName := ⟨RX0, "<init>", "()V"⟩
abbrev cX0_clear : ByteArray := prog_2_method_2_code
def yX0_clear : MethodName := ⟨RX0, "clear", "()V"⟩
abbrev cX0_copy : ByteArray := prog_2_method_3_code
def yX0_copy : MethodName := ⟨RX0, "copy", "(LMineDesk$Bits;)V"⟩
abbrev cX0_has : ByteArray := prog_2_method_4_code
def yX0_has : MethodName := ⟨RX0, "has", "(I)Z"⟩
abbrev cX0_add : ByteArray := prog_2_method_5_code
def yX0_add : MethodName := ⟨RX0, "add", "(I)V"⟩
abbrev cX0_drop : ByteArray := prog_2_method_6_code
def yX0_drop : MethodName := ⟨RX0, "drop", "(I)V"⟩
abbrev cX0_put : ByteArray := prog_2_method_7_code
def yX0_put : MethodName := ⟨RX0, "put", "(IZ)V"⟩
abbrev cX0_join : ByteArray := prog_2_method_8_code
def yX0_join : MethodName := ⟨RX0, "join", "(LMineDesk$Bits;)V"⟩
abbrev cX0_meet : ByteArray := prog_2_method_9_code
def yX0_meet : MethodName := ⟨RX0, "meet", "(LMineDesk$Bits;)V"⟩
abbrev cX0_leave : ByteArray := prog_2_method_10_code
def yX0_leave : MethodName := ⟨RX0, "leave", "(LMineDesk$Bits;)V"⟩
abbrev cX0_joinMoved : ByteArray := prog_2_method_11_code
def yX0_joinMoved : MethodName := ⟨RX0, "joinMoved", "(LMineDesk$Bits;I)V"⟩
abbrev cX0_size : ByteArray := prog_2_method_12_code
def yX0_size : MethodName := ⟨RX0, "size", "()I"⟩
abbrev cX0_least : ByteArray := prog_2_method_13_code
def yX0_least : MethodName := ⟨RX0, "least", "()I"⟩
abbrev cX0_nth : ByteArray := prog_2_method_14_code
def yX0_nth : MethodName := ⟨RX0, "nth", "(II)I"⟩
abbrev cX0_lowest : ByteArray := prog_2_method_15_code
def yX0_lowest : MethodName := ⟨RX0, "lowest", "(J)I"⟩
def RX1 : String := "MineDesk$Board"
def TX1 : u_T := fun k => match k with
  | 0 => ("MineDesk$Board", "grid", "LMineDesk$Grid;", true)
  | 1 => ("MineDesk$Board", "all", "LMineDesk$Bits;", true)
  | 2 => ("MineDesk$Board", "mines", "LMineDesk$Bits;", true)
  | 3 => ("MineDesk$Board", "hidden", "LMineDesk$Bits;", true)
  | 4 => ("MineDesk$Board", "opened", "LMineDesk$Bits;", true)
  | 5 => ("MineDesk$Board", "blown", "LMineDesk$Bits;", true)
  | 6 => ("MineDesk$Board", "flags", "LMineDesk$Bits;", true)
  | 7 => ("MineDesk$Board", "heaps", "LMineDesk$Bits;", true)
  | _ => ("MineDesk$Board", "queue", "[I", true)
def tyX1 : Nat → FieldType := fun k => match k with
  | 0 => .object "MineDesk$Grid"
  | 1 => .object "MineDesk$Bits"
  | 2 => .object "MineDesk$Bits"
  | 3 => .object "MineDesk$Bits"
  | 4 => .object "MineDesk$Bits"
  | 5 => .object "MineDesk$Bits"
  | 6 => .object "MineDesk$Bits"
  | 7 => .object "MineDesk$Bits"
  | _ => .array .int
theorem nmX1 : ∀ a, a < 9 → ∀ b, b < 9 → a ≠ b → (TX1 a).2.1 ≠ (TX1 b).2.1 := by decide +kernel
theorem tyX1_ok : ∀ k, k < 9 → parseFieldDescriptor (TX1 k).2.2.1 = some (tyX1 k) := by decide +kernel
abbrev cX1_init : ByteArray := prog_3_method_1_code
def yX1_init : MethodName := ⟨RX1, "<init>", "()V"⟩
abbrev cX1_start : ByteArray := prog_3_method_2_code
def yX1_start : MethodName := ⟨RX1, "start", "(III)V"⟩
abbrev cX1_hideAll : ByteArray := prog_3_method_3_code
def yX1_hideAll : MethodName := ⟨RX1, "hideAll", "()V"⟩
abbrev cX1_number : ByteArray := prog_3_method_4_code
def yX1_number : MethodName := ⟨RX1, "number", "(I)I"⟩
abbrev cX1_due : ByteArray := prog_3_method_5_code
def yX1_due : MethodName := ⟨RX1, "due", "(ILMineDesk$Bits;)I"⟩
abbrev cX1_minesLeft : ByteArray := prog_3_method_6_code
def yX1_minesLeft : MethodName := ⟨RX1, "minesLeft", "()I"⟩
abbrev cX1_marked : ByteArray := prog_3_method_7_code
def yX1_marked : MethodName := ⟨RX1, "marked", "(I)I"⟩
abbrev cX1_cleared : ByteArray := prog_3_method_8_code
def yX1_cleared : MethodName := ⟨RX1, "cleared", "()Z"⟩
abbrev cX1_uncover : ByteArray := prog_3_method_9_code
def yX1_uncover : MethodName := ⟨RX1, "uncover", "(I)V"⟩
abbrev cX1_showAround : ByteArray := prog_3_method_10_code
def yX1_showAround : MethodName := ⟨RX1, "showAround", "(II)I"⟩
abbrev cX1_show : ByteArray := prog_3_method_11_code
def yX1_show : MethodName := ⟨RX1, "show", "(I)V"⟩
abbrev cX1_uncoverAround : ByteArray := prog_3_method_12_code
def yX1_uncoverAround : MethodName := ⟨RX1, "uncoverAround", "(I)V"⟩
abbrev cX1_leastOpenings : ByteArray := prog_3_method_13_code
def yX1_leastOpenings : MethodName := ⟨RX1, "leastOpenings", "()I"⟩
abbrev cX1_isQuiet : ByteArray := prog_3_method_14_code
def yX1_isQuiet : MethodName := ⟨RX1, "isQuiet", "(I)Z"⟩
abbrev cX1_heapUp : ByteArray := prog_3_method_15_code
def yX1_heapUp : MethodName := ⟨RX1, "heapUp", "(I)V"⟩
def RX2 : String := "MineDesk$Grid"
def TX2 : u_T := fun k => match k with
  | 0 => ("MineDesk$Grid", "nearLo", "[J", true)
  | 1 => ("MineDesk$Grid", "nearHi", "[J", true)
  | 2 => ("MineDesk$Grid", "near", "[I", true)
  | 3 => ("MineDesk$Grid", "degree", "[I", true)
  | 4 => ("MineDesk$Grid", "w", "I", false)
  | 5 => ("MineDesk$Grid", "h", "I", false)
  | 6 => ("MineDesk$Grid", "shape", "I", false)
  | _ => ("MineDesk$Grid", "cells", "I", false)
def tyX2 : Nat → FieldType := fun k => match k with
  | 0 => .array .long
  | 1 => .array .long
  | 2 => .array .int
  | 3 => .array .int
  | 4 => .int
  | 5 => .int
  | 6 => .int
  | _ => .int
theorem nmX2 : ∀ a, a < 8 → ∀ b, b < 8 → a ≠ b → (TX2 a).2.1 ≠ (TX2 b).2.1 := by decide +kernel
theorem tyX2_ok : ∀ k, k < 8 → parseFieldDescriptor (TX2 k).2.2.1 = some (tyX2 k) := by decide +kernel
abbrev cX2_init : ByteArray := prog_4_method_1_code
def yX2_init : MethodName := ⟨RX2, "<init>", "()V"⟩
abbrev cX2_fits : ByteArray := prog_4_method_2_code
def yX2_fits : MethodName := ⟨RX2, "fits", "(III)Z"⟩
abbrev cX2_holds : ByteArray := prog_4_method_3_code
def yX2_holds : MethodName := ⟨RX2, "holds", "(I)Z"⟩
abbrev cX2_lay : ByteArray := prog_4_method_4_code
def yX2_lay : MethodName := ⟨RX2, "lay", "(III)V"⟩
abbrev cX2_layCell : ByteArray := prog_4_method_5_code
def yX2_layCell : MethodName := ⟨RX2, "layCell", "(II)V"⟩
abbrev cX2_at : ByteArray := prog_4_method_6_code
def yX2_at : MethodName := ⟨RX2, "at", "(II)I"⟩
abbrev cX2_wrap : ByteArray := prog_4_method_7_code
def yX2_wrap : MethodName := ⟨RX2, "wrap", "(II)I"⟩
abbrev cX2_link : ByteArray := prog_4_method_8_code
def yX2_link : MethodName := ⟨RX2, "link", "(II)V"⟩
abbrev cX2_linked : ByteArray := prog_4_method_9_code
def yX2_linked : MethodName := ⟨RX2, "linked", "(II)Z"⟩
abbrev cX2_touches : ByteArray := prog_4_method_10_code
def yX2_touches : MethodName := ⟨RX2, "touches", "(ILMineDesk$Bits;)Z"⟩
abbrev cX2_countNear : ByteArray := prog_4_method_11_code
def yX2_countNear : MethodName := ⟨RX2, "countNear", "(ILMineDesk$Bits;)I"⟩
def RX3 : String := "MineDesk$Maker"
def TX3 : u_T := fun k => match k with
  | 0 => ("MineDesk$Maker", "board", "LMineDesk$Board;", true)
  | 1 => ("MineDesk$Maker", "room", "LMineDesk$Bits;", true)
  | 2 => ("MineDesk$Maker", "mendings", "I", false)
  | 3 => ("MineDesk$Maker", "reasoner", "LMineDesk$Reasoner;", true)
  | _ => ("MineDesk$Maker", "firstCell", "I", false)
def tyX3 : Nat → FieldType := fun k => match k with
  | 0 => .object "MineDesk$Board"
  | 1 => .object "MineDesk$Bits"
  | 2 => .int
  | 3 => .object "MineDesk$Reasoner"
  | _ => .int
theorem nmX3 : ∀ a, a < 5 → ∀ b, b < 5 → a ≠ b → (TX3 a).2.1 ≠ (TX3 b).2.1 := by decide +kernel
theorem tyX3_ok : ∀ k, k < 5 → parseFieldDescriptor (TX3 k).2.2.1 = some (tyX3 k) := by decide +kernel
abbrev cX3_init : ByteArray := prog_5_method_1_code
def yX3_init : MethodName := ⟨RX3, "<init>", "(LMineDesk$Reasoner;)V"⟩
abbrev cX3_prepare : ByteArray := prog_5_method_2_code
def yX3_prepare : MethodName := ⟨RX3, "prepare", "(III)V"⟩
abbrev cX3_draw : ByteArray := prog_5_method_3_code
def yX3_draw : MethodName := ⟨RX3, "draw", "(II)V"⟩
abbrev cX3_mendToClear : ByteArray := prog_5_method_4_code
def yX3_mendToClear : MethodName := ⟨RX3, "mendToClear", "(I)Z"⟩
abbrev cX3_play : ByteArray := prog_5_method_5_code
def yX3_play : MethodName := ⟨RX3, "play", "(I)Z"⟩
abbrev cX3_mend : ByteArray := prog_5_method_6_code
def yX3_mend : MethodName := ⟨RX3, "mend", "()Z"⟩
def RX4 : String := "MineDesk$Moves"
def TX4 : u_T := fun k => match k with
  | 0 => ("MineDesk$Moves", "rows", "[J", true)
  | _ => ("MineDesk$Moves", "size", "I", false)
def tyX4 : Nat → FieldType := fun k => match k with
  | 0 => .array .long
  | _ => .int
theorem nmX4 : ∀ a, a < 2 → ∀ b, b < 2 → a ≠ b → (TX4 a).2.1 ≠ (TX4 b).2.1 := by decide +kernel
theorem tyX4_ok : ∀ k, k < 2 → parseFieldDescriptor (TX4 k).2.2.1 = some (tyX4 k) := by decide +kernel
abbrev cX4_init : ByteArray := prog_6_method_1_code
def yX4_init : MethodName := ⟨RX4, "<init>", "()V"⟩
abbrev cX4_keep : ByteArray := prog_6_method_2_code
def yX4_keep : MethodName := ⟨RX4, "keep", "(LMineDesk$Board;)V"⟩
abbrev cX4_takeBack : ByteArray := prog_6_method_3_code
def yX4_takeBack : MethodName := ⟨RX4, "takeBack", "(LMineDesk$Board;)Z"⟩
def RX5 : String := "MineDesk$Placements"
def TX5 : u_T := fun k => match k with
  | 0 => ("MineDesk$Placements", "mustBe", "LMineDesk$Bits;", true)
  | 1 => ("MineDesk$Placements", "cannotBe", "LMineDesk$Bits;", true)
  | 2 => ("MineDesk$Placements", "search", "LMineDesk$Search;", true)
  | 3 => ("MineDesk$Placements", "border", "LMineDesk$Bits;", true)
  | 4 => ("MineDesk$Placements", "sums", "LMineDesk$Bits;", true)
  | 5 => ("MineDesk$Placements", "nextSums", "LMineDesk$Bits;", true)
  | 6 => ("MineDesk$Placements", "order", "[I", true)
  | 7 => ("MineDesk$Placements", "firstOf", "[I", true)
  | 8 => ("MineDesk$Placements", "partOf", "[I", true)
  | 9 => ("MineDesk$Placements", "partCounts", "[I", true)
  | 10 => ("MineDesk$Placements", "cellCounts", "[I", true)
  | 11 => ("MineDesk$Placements", "totals", "[J", true)
  | 12 => ("MineDesk$Placements", "nextTotals", "[J", true)
  | 13 => ("MineDesk$Placements", "choose", "[J", true)
  | _ => ("MineDesk$Placements", "parts", "I", false)
def tyX5 : Nat → FieldType := fun k => match k with
  | 0 => .object "MineDesk$Bits"
  | 1 => .object "MineDesk$Bits"
  | 2 => .object "MineDesk$Search"
  | 3 => .object "MineDesk$Bits"
  | 4 => .object "MineDesk$Bits"
  | 5 => .object "MineDesk$Bits"
  | 6 => .array .int
  | 7 => .array .int
  | 8 => .array .int
  | 9 => .array .int
  | 10 => .array .int
  | 11 => .array .long
  | 12 => .array .long
  | 13 => .array .long
  | _ => .int
theorem nmX5 : ∀ a, a < 15 → ∀ b, b < 15 → a ≠ b → (TX5 a).2.1 ≠ (TX5 b).2.1 := by decide +kernel
theorem tyX5_ok : ∀ k, k < 15 → parseFieldDescriptor (TX5 k).2.2.1 = some (tyX5 k) := by decide +kernel
abbrev cX5_init : ByteArray := prog_7_method_1_code
def yX5_init : MethodName := ⟨RX5, "<init>", "()V"⟩
abbrev cX5_gather : ByteArray := prog_7_method_2_code
def yX5_gather : MethodName := ⟨RX5, "gather", "(LMineDesk$Board;)Z"⟩
abbrev cX5_spread : ByteArray := prog_7_method_3_code
def yX5_spread : MethodName := ⟨RX5, "spread", "(LMineDesk$Board;II)I"⟩
abbrev cX5_listAround : ByteArray := prog_7_method_4_code
def yX5_listAround : MethodName := ⟨RX5, "listAround", "(LMineDesk$Board;II)I"⟩
abbrev cX5_study : ByteArray := prog_7_method_5_code
def yX5_study : MethodName := ⟨RX5, "study", "(LMineDesk$Board;)V"⟩
abbrev cX5_keepCounts : ByteArray := prog_7_method_6_code
def yX5_keepCounts : MethodName := ⟨RX5, "keepCounts", "(I)V"⟩
abbrev cX5_force : ByteArray := prog_7_method_7_code
def yX5_force : MethodName := ⟨RX5, "force", "(LMineDesk$Board;)V"⟩
abbrev cX5_forcePart : ByteArray := prog_7_method_8_code
def yX5_forcePart : MethodName := ⟨RX5, "forcePart", "(III)V"⟩
abbrev cX5_forceLoose : ByteArray := prog_7_method_9_code
def yX5_forceLoose : MethodName := ⟨RX5, "forceLoose", "(LMineDesk$Board;II)V"⟩
abbrev cX5_sumWithout : ByteArray := prog_7_method_10_code
def yX5_sumWithout : MethodName := ⟨RX5, "sumWithout", "(I)V"⟩
abbrev cX5_reaches : ByteArray := prog_7_method_11_code
def yX5_reaches : MethodName := ⟨RX5, "reaches", "(II)Z"⟩
abbrev cX5_countAll : ByteArray := prog_7_method_12_code
def yX5_countAll : MethodName := ⟨RX5, "countAll", "(LMineDesk$Board;)I"⟩
abbrev cX5_countHolding : ByteArray := prog_7_method_13_code
def yX5_countHolding : MethodName := ⟨RX5, "countHolding", "(LMineDesk$Board;I)I"⟩
abbrev cX5_countWithout : ByteArray := prog_7_method_14_code
def yX5_countWithout : MethodName := ⟨RX5, "countWithout", "(I)V"⟩
abbrev cX5_chooseFrom : ByteArray := prog_7_method_15_code
def yX5_chooseFrom : MethodName := ⟨RX5, "chooseFrom", "(I)V"⟩
abbrev cX5_startRow : ByteArray := prog_7_method_16_code
def yX5_startRow : MethodName := ⟨RX5, "startRow", "([J)V"⟩
abbrev cX5_fill : ByteArray := prog_7_method_17_code
def yX5_fill : MethodName := ⟨RX5, "fill", "(I)J"⟩
abbrev cX5_studyTold : ByteArray := prog_7_method_18_code
def yX5_studyTold : MethodName := ⟨RX5, "studyTold", "(LMineDesk$Board;LMineDesk$Bits;I)Z"⟩
abbrev cX5_pushAround : ByteArray := prog_7_method_19_code
def yX5_pushAround : MethodName := ⟨RX5, "pushAround", "(LMineDesk$Board;I)Z"⟩
abbrev cX5_fitsOpposite : ByteArray := prog_7_method_20_code
def yX5_fitsOpposite : MethodName := ⟨RX5, "fitsOpposite", "(LMineDesk$Board;ZZ)Z"⟩
def RX6 : String := "MineDesk$Reasoner"
def TX6 : u_T := fun k => match k with
  | 0 => ("MineDesk$Reasoner", "given", "LMineDesk$Bits;", true)
  | 1 => ("MineDesk$Reasoner", "why", "LMineDesk$Bits;", true)
  | 2 => ("MineDesk$Reasoner", "givenMined", "Z", false)
  | 3 => ("MineDesk$Reasoner", "rule", "I", false)
  | 4 => ("MineDesk$Reasoner", "placements", "LMineDesk$Placements;", true)
  | 5 => ("MineDesk$Reasoner", "whyLo", "[J", true)
  | 6 => ("MineDesk$Reasoner", "whyHi", "[J", true)
  | 7 => ("MineDesk$Reasoner", "free", "LMineDesk$Bits;", true)
  | 8 => ("MineDesk$Reasoner", "held", "LMineDesk$Bits;", true)
  | 9 => ("MineDesk$Reasoner", "board", "LMineDesk$Board;", false)
  | 10 => ("MineDesk$Reasoner", "deep", "Z", false)
  | 11 => ("MineDesk$Reasoner", "studied", "Z", false)
  | _ => ("MineDesk$Reasoner", "studiedWell", "Z", false)
def tyX6 : Nat → FieldType := fun k => match k with
  | 0 => .object "MineDesk$Bits"
  | 1 => .object "MineDesk$Bits"
  | 2 => .boolean
  | 3 => .int
  | 4 => .object "MineDesk$Placements"
  | 5 => .array .long
  | 6 => .array .long
  | 7 => .object "MineDesk$Bits"
  | 8 => .object "MineDesk$Bits"
  | 9 => .object "MineDesk$Board"
  | 10 => .boolean
  | 11 => .boolean
  | _ => .boolean
theorem nmX6 : ∀ a, a < 13 → ∀ b, b < 13 → a ≠ b → (TX6 a).2.1 ≠ (TX6 b).2.1 := by decide +kernel
theorem tyX6_ok : ∀ k, k < 13 → parseFieldDescriptor (TX6 k).2.2.1 = some (tyX6 k) := by decide +kernel
abbrev cX6_init : ByteArray := prog_8_method_1_code
def yX6_init : MethodName := ⟨RX6, "<init>", "(LMineDesk$Board;LMineDesk$Placements;)V"⟩
abbrev cX6_begin : ByteArray := prog_8_method_2_code
def yX6_begin : MethodName := ⟨RX6, "begin", "(LMineDesk$Board;)V"⟩
abbrev cX6_goOn : ByteArray := prog_8_method_3_code
def yX6_goOn : MethodName := ⟨RX6, "goOn", "()V"⟩
abbrev cX6_find : ByteArray := prog_8_method_4_code
def yX6_find : MethodName := ⟨RX6, "find", "(I)Z"⟩
abbrev cX6_firstNews : ByteArray := prog_8_method_5_code
def yX6_firstNews : MethodName := ⟨RX6, "firstNews", "()I"⟩
abbrev cX6_accept : ByteArray := prog_8_method_6_code
def yX6_accept : MethodName := ⟨RX6, "accept", "()V"⟩
abbrev cX6_giveByOne : ByteArray := prog_8_method_7_code
def yX6_giveByOne : MethodName := ⟨RX6, "giveByOne", "(I)Z"⟩
abbrev cX6_giveByTwo : ByteArray := prog_8_method_8_code
def yX6_giveByTwo : MethodName := ⟨RX6, "giveByTwo", "(I)Z"⟩
abbrev cX6_giveByPair : ByteArray := prog_8_method_9_code
def yX6_giveByPair : MethodName := ⟨RX6, "giveByPair", "(II)Z"⟩
abbrev cX6_giveByAll : ByteArray := prog_8_method_10_code
def yX6_giveByAll : MethodName := ⟨RX6, "giveByAll", "()Z"⟩
abbrev cX6_give : ByteArray := prog_8_method_11_code
def yX6_give : MethodName := ⟨RX6, "give", "(JJI)Z"⟩
abbrev cX6_blame : ByteArray := prog_8_method_12_code
def yX6_blame : MethodName := ⟨RX6, "blame", "(I)V"⟩
def RX7 : String := "MineDesk$Search"
def TX7 : u_T := fun k => match k with
  | 0 => ("MineDesk$Search", "cells", "[I", true)
  | 1 => ("MineDesk$Search", "rules", "[I", true)
  | 2 => ("MineDesk$Search", "ruleCount", "[I", true)
  | 3 => ("MineDesk$Search", "maskOf", "[I", true)
  | 4 => ("MineDesk$Search", "needOf", "[I", true)
  | 5 => ("MineDesk$Search", "found", "[I", true)
  | 6 => ("MineDesk$Search", "holding", "[I", true)
  | _ => ("MineDesk$Search", "size", "I", false)
def tyX7 : Nat → FieldType := fun k => match k with
  | 0 => .array .int
  | 1 => .array .int
  | 2 => .array .int
  | 3 => .array .int
  | 4 => .array .int
  | 5 => .array .int
  | 6 => .array .int
  | _ => .int
theorem nmX7 : ∀ a, a < 8 → ∀ b, b < 8 → a ≠ b → (TX7 a).2.1 ≠ (TX7 b).2.1 := by decide +kernel
theorem tyX7_ok : ∀ k, k < 8 → parseFieldDescriptor (TX7 k).2.2.1 = some (tyX7 k) := by decide +kernel
abbrev cX7_init : ByteArray := prog_9_method_1_code
def yX7_init : MethodName := ⟨RX7, "<init>", "()V"⟩
abbrev cX7_clear : ByteArray := prog_9_method_2_code
def yX7_clear : MethodName := ⟨RX7, "clear", "()V"⟩
abbrev cX7_push : ByteArray := prog_9_method_3_code
def yX7_push : MethodName := ⟨RX7, "push", "(I)Z"⟩
abbrev cX7_size : ByteArray := prog_9_method_4_code
def yX7_size : MethodName := ⟨RX7, "size", "()I"⟩
abbrev cX7_found : ByteArray := prog_9_method_5_code
def yX7_found : MethodName := ⟨RX7, "found", "(I)I"⟩
abbrev cX7_foundHolding : ByteArray := prog_9_method_6_code
def yX7_foundHolding : MethodName := ⟨RX7, "foundHolding", "(II)I"⟩
abbrev cX7_bind : ByteArray := prog_9_method_7_code
def yX7_bind : MethodName := ⟨RX7, "bind", "(LMineDesk$Board;LMineDesk$Bits;)V"⟩
abbrev cX7_run : ByteArray := prog_9_method_8_code
def yX7_run : MethodName := ⟨RX7, "run", "()V"⟩
abbrev cX7_fits : ByteArray := prog_9_method_9_code
def yX7_fits : MethodName := ⟨RX7, "fits", "(II)Z"⟩
abbrev cX7_note : ByteArray := prog_9_method_10_code
def yX7_note : MethodName := ⟨RX7, "note", "(I)V"⟩
def RX8 : String := "MineDesk"
def TX8 : u_T := fun k => match k with
  | 0 => ("MineDesk", "board", "LMineDesk$Board;", true)
  | 1 => ("MineDesk", "moves", "LMineDesk$Moves;", true)
  | 2 => ("MineDesk", "placements", "LMineDesk$Placements;", true)
  | 3 => ("MineDesk", "reasoner", "LMineDesk$Reasoner;", true)
  | 4 => ("MineDesk", "maker", "LMineDesk$Maker;", true)
  | 5 => ("MineDesk", "hintReasons", "LMineDesk$Bits;", true)
  | 6 => ("MineDesk", "told", "LMineDesk$Bits;", true)
  | _ => ("MineDesk", "hintKind", "I", false)
def tyX8 : Nat → FieldType := fun k => match k with
  | 0 => .object "MineDesk$Board"
  | 1 => .object "MineDesk$Moves"
  | 2 => .object "MineDesk$Placements"
  | 3 => .object "MineDesk$Reasoner"
  | 4 => .object "MineDesk$Maker"
  | 5 => .object "MineDesk$Bits"
  | 6 => .object "MineDesk$Bits"
  | _ => .int
theorem nmX8 : ∀ a, a < 8 → ∀ b, b < 8 → a ≠ b → (TX8 a).2.1 ≠ (TX8 b).2.1 := by decide +kernel
theorem tyX8_ok : ∀ k, k < 8 → parseFieldDescriptor (TX8 k).2.2.1 = some (tyX8 k) := by decide +kernel
abbrev cX8_init : ByteArray := prog_1_method_1_code
def yX8_init : MethodName := ⟨RX8, "<init>", "()V"⟩
abbrev cX8_blank : ByteArray := prog_1_method_2_code
def yX8_blank : MethodName := ⟨RX8, "blank", "(III)I"⟩
abbrev cX8_edit : ByteArray := prog_1_method_3_code
def yX8_edit : MethodName := ⟨RX8, "edit", "(IZ)I"⟩
abbrev cX8_make : ByteArray := prog_1_method_4_code
def yX8_make : MethodName := ⟨RX8, "make", "(IIIIII)I"⟩
abbrev cX8_mended : ByteArray := prog_1_method_5_code
def yX8_mended : MethodName := ⟨RX8, "mended", "()I"⟩
abbrev cX8_count : ByteArray := prog_1_method_6_code
def yX8_count : MethodName := ⟨RX8, "count", "(I)I"⟩
abbrev cX8_neighbour : ByteArray := prog_1_method_7_code
def yX8_neighbour : MethodName := ⟨RX8, "neighbour", "(II)I"⟩
abbrev cX8_mined : ByteArray := prog_1_method_8_code
def yX8_mined : MethodName := ⟨RX8, "mined", "(I)Z"⟩
abbrev cX8_open : ByteArray := prog_1_method_9_code
def yX8_open : MethodName := ⟨RX8, "open", "(I)I"⟩
abbrev cX8_flag : ByteArray := prog_1_method_10_code
def yX8_flag : MethodName := ⟨RX8, "flag", "(I)I"⟩
abbrev cX8_chord : ByteArray := prog_1_method_11_code
def yX8_chord : MethodName := ⟨RX8, "chord", "(I)I"⟩
abbrev cX8_undo : ByteArray := prog_1_method_12_code
def yX8_undo : MethodName := ⟨RX8, "undo", "()I"⟩
abbrev cX8_shown : ByteArray := prog_1_method_13_code
def yX8_shown : MethodName := ⟨RX8, "shown", "(I)I"⟩
abbrev cX8_solved : ByteArray := prog_1_method_14_code
def yX8_solved : MethodName := ⟨RX8, "solved", "()Z"⟩
abbrev cX8_clicks : ByteArray := prog_1_method_15_code
def yX8_clicks : MethodName := ⟨RX8, "clicks", "()I"⟩
abbrev cX8_hint : ByteArray := prog_1_method_16_code
def yX8_hint : MethodName := ⟨RX8, "hint", "(I)I"⟩
abbrev cX8_kind : ByteArray := prog_1_method_17_code
def yX8_kind : MethodName := ⟨RX8, "kind", "()I"⟩
abbrev cX8_reason : ByteArray := prog_1_method_18_code
def yX8_reason : MethodName := ⟨RX8, "reason", "(I)I"⟩
abbrev cX8_total : ByteArray := prog_1_method_19_code
def yX8_total : MethodName := ⟨RX8, "total", "()Z"⟩
abbrev cX8_take : ByteArray := prog_1_method_20_code
def yX8_take : MethodName := ⟨RX8, "take", "()I"⟩
abbrev cX8_tell : ByteArray := prog_1_method_21_code
def yX8_tell : MethodName := ⟨RX8, "tell", "(IZ)I"⟩
abbrev cX8_name : ByteArray := prog_1_method_22_code
def yX8_name : MethodName := ⟨RX8, "name", "(Z)I"⟩
abbrev cX8_check : ByteArray := prog_1_method_23_code
def yX8_check : MethodName := ⟨RX8, "check", "(II)I"⟩
abbrev cX8_ways : ByteArray := prog_1_method_24_code
def yX8_ways : MethodName := ⟨RX8, "ways", "()I"⟩
abbrev cX8_with : ByteArray := prog_1_method_25_code
def yX8_with : MethodName := ⟨RX8, "with", "(I)I"⟩
abbrev cX8_putTold : ByteArray := prog_1_method_26_code
def yX8_putTold : MethodName := ⟨RX8, "putTold", "(IZ)I"⟩
abbrev cX8_forget : ByteArray := prog_1_method_27_code
def yX8_forget : MethodName := ⟨RX8, "forget", "()V"⟩
abbrev cX8_forgetHint : ByteArray := prog_1_method_28_code
def yX8_forgetHint : MethodName := ⟨RX8, "forgetHint", "()V"⟩
def RX9 : String := "MineDeskModel"
def TX9 : u_T := fun k => match k with
  | 0 => ("MineDeskModel", "columns", "I", false)
  | 1 => ("MineDeskModel", "rows", "I", false)
  | 2 => ("MineDeskModel", "shape", "I", false)
  | 3 => ("MineDeskModel", "cells", "I", false)
  | 4 => ("MineDeskModel", "near", "[Z", true)
  | 5 => ("MineDeskModel", "mine", "[Z", true)
  | 6 => ("MineDeskModel", "state", "[I", true)
  | 7 => ("MineDeskModel", "flag", "[Z", true)
  | 8 => ("MineDeskModel", "mends", "I", false)
  | 9 => ("MineDeskModel", "past", "[I", true)
  | 10 => ("MineDeskModel", "moves", "I", false)
  | 11 => ("MineDeskModel", "hadMine", "[Z", true)
  | 12 => ("MineDeskModel", "hadState", "[I", true)
  | 13 => ("MineDeskModel", "hadFlag", "[Z", true)
  | 14 => ("MineDeskModel", "hintCell", "I", false)
  | 15 => ("MineDeskModel", "hintVerdict", "I", false)
  | 16 => ("MineDeskModel", "hintKind", "I", false)
  | 17 => ("MineDeskModel", "reasons", "[Z", true)
  | 18 => ("MineDeskModel", "told", "[Z", true)
  | 19 => ("MineDeskModel", "verdict", "[I", true)
  | 20 => ("MineDeskModel", "why", "[Z", true)
  | 21 => ("MineDeskModel", "given", "[I", true)
  | 22 => ("MineDeskModel", "because", "[Z", true)
  | 23 => ("MineDeskModel", "foundCell", "I", false)
  | 24 => ("MineDeskModel", "foundKind", "I", false)
  | 25 => ("MineDeskModel", "part", "[I", true)
  | 26 => ("MineDeskModel", "parts", "I", false)
  | 27 => ("MineDeskModel", "inside", "I", false)
  | 28 => ("MineDeskModel", "list", "[I", true)
  | 29 => ("MineDeskModel", "tried", "[I", true)
  | 30 => ("MineDeskModel", "ways", "[J", true)
  | 31 => ("MineDeskModel", "waysWith", "[J", true)
  | 32 => ("MineDeskModel", "sums", "[J", true)
  | 33 => ("MineDeskModel", "next", "[J", true)
  | 34 => ("MineDeskModel", "choose", "[J", true)
  | 35 => ("MineDeskModel", "pile", "[I", true)
  | 36 => ("MineDeskModel", "masks", "[I", true)
  | _ => ("MineDeskModel", "needs", "[I", true)
def tyX9 : Nat → FieldType := fun k => match k with
  | 0 => .int
  | 1 => .int
  | 2 => .int
  | 3 => .int
  | 4 => .array .boolean
  | 5 => .array .boolean
  | 6 => .array .int
  | 7 => .array .boolean
  | 8 => .int
  | 9 => .array .int
  | 10 => .int
  | 11 => .array .boolean
  | 12 => .array .int
  | 13 => .array .boolean
  | 14 => .int
  | 15 => .int
  | 16 => .int
  | 17 => .array .boolean
  | 18 => .array .boolean
  | 19 => .array .int
  | 20 => .array .boolean
  | 21 => .array .int
  | 22 => .array .boolean
  | 23 => .int
  | 24 => .int
  | 25 => .array .int
  | 26 => .int
  | 27 => .int
  | 28 => .array .int
  | 29 => .array .int
  | 30 => .array .long
  | 31 => .array .long
  | 32 => .array .long
  | 33 => .array .long
  | 34 => .array .long
  | 35 => .array .int
  | 36 => .array .int
  | _ => .array .int
theorem nmX9 : ∀ a, a < 38 → ∀ b, b < 38 → a ≠ b → (TX9 a).2.1 ≠ (TX9 b).2.1 := by decide +kernel
theorem tyX9_ok : ∀ k, k < 38 → parseFieldDescriptor (TX9 k).2.2.1 = some (tyX9 k) := by decide +kernel
abbrev cX9_init : ByteArray := prog_11_method_1_code
def yX9_init : MethodName := ⟨RX9, "<init>", "()V"⟩
abbrev cX9_join : ByteArray := prog_11_method_2_code
def yX9_join : MethodName := ⟨RX9, "join", "(III)V"⟩
abbrev cX9_layOut : ByteArray := prog_11_method_3_code
def yX9_layOut : MethodName := ⟨RX9, "layOut", "(III)V"⟩
abbrev cX9_isNear : ByteArray := prog_11_method_4_code
def yX9_isNear : MethodName := ⟨RX9, "isNear", "(II)Z"⟩
abbrev cX9_isCell : ByteArray := prog_11_method_5_code
def yX9_isCell : MethodName := ⟨RX9, "isCell", "(I)Z"⟩
abbrev cX9_isBoard : ByteArray := prog_11_method_6_code
def yX9_isBoard : MethodName := ⟨RX9, "isBoard", "(III)Z"⟩
abbrev cX9_hideAll : ByteArray := prog_11_method_7_code
def yX9_hideAll : MethodName := ⟨RX9, "hideAll", "()V"⟩
abbrev cX9_forget : ByteArray := prog_11_method_8_code
def yX9_forget : MethodName := ⟨RX9, "forget", "()V"⟩
abbrev cX9_blank : ByteArray := prog_11_method_9_code
def yX9_blank : MethodName := ⟨RX9, "blank", "(III)I"⟩
abbrev cX9_mines : ByteArray := prog_11_method_10_code
def yX9_mines : MethodName := ⟨RX9, "mines", "()I"⟩
abbrev cX9_inState : ByteArray := prog_11_method_11_code
def yX9_inState : MethodName := ⟨RX9, "inState", "(I)I"⟩
abbrev cX9_edit : ByteArray := prog_11_method_12_code
def yX9_edit : MethodName := ⟨RX9, "edit", "(IZ)I"⟩
abbrev cX9_numberOf : ByteArray := prog_11_method_13_code
def yX9_numberOf : MethodName := ⟨RX9, "numberOf", "(I)I"⟩
abbrev cX9_nearState : ByteArray := prog_11_method_14_code
def yX9_nearState : MethodName := ⟨RX9, "nearState", "(II)I"⟩
abbrev cX9_isSolved : ByteArray := prog_11_method_15_code
def yX9_isSolved : MethodName := ⟨RX9, "isSolved", "()Z"⟩
abbrev cX9_uncover : ByteArray := prog_11_method_16_code
def yX9_uncover : MethodName := ⟨RX9, "uncover", "(I)V"⟩
abbrev cX9_keepBoard : ByteArray := prog_11_method_17_code
def yX9_keepBoard : MethodName := ⟨RX9, "keepBoard", "()V"⟩
abbrev cX9_bringBack : ByteArray := prog_11_method_18_code
def yX9_bringBack : MethodName := ⟨RX9, "bringBack", "()V"⟩
abbrev cX9_canBeMined : ByteArray := prog_11_method_19_code
def yX9_canBeMined : MethodName := ⟨RX9, "canBeMined", "(II)Z"⟩
abbrev cX9_drawMines : ByteArray := prog_11_method_20_code
def yX9_drawMines : MethodName := ⟨RX9, "drawMines", "(III)V"⟩
abbrev cX9_plays : ByteArray := prog_11_method_21_code
def yX9_plays : MethodName := ⟨RX9, "plays", "(II)Z"⟩
abbrev cX9_mends : ByteArray := prog_11_method_22_code
def yX9_mends : MethodName := ⟨RX9, "mends", "()Z"⟩
abbrev cX9_make : ByteArray := prog_11_method_23_code
def yX9_make : MethodName := ⟨RX9, "make", "(IIIIII)I"⟩
abbrev cX9_mended : ByteArray := prog_11_method_24_code
def yX9_mended : MethodName := ⟨RX9, "mended", "()I"⟩
abbrev cX9_count : ByteArray := prog_11_method_25_code
def yX9_count : MethodName := ⟨RX9, "count", "(I)I"⟩
abbrev cX9_neighbour : ByteArray := prog_11_method_26_code
def yX9_neighbour : MethodName := ⟨RX9, "neighbour", "(II)I"⟩
abbrev cX9_mined : ByteArray := prog_11_method_27_code
def yX9_mined : MethodName := ⟨RX9, "mined", "(I)Z"⟩
abbrev cX9_move : ByteArray := prog_11_method_28_code
def yX9_move : MethodName := ⟨RX9, "move", "()V"⟩
abbrev cX9_open : ByteArray := prog_11_method_29_code
def yX9_open : MethodName := ⟨RX9, "open", "(I)I"⟩
abbrev cX9_flag : ByteArray := prog_11_method_30_code
def yX9_flag : MethodName := ⟨RX9, "flag", "(I)I"⟩
abbrev cX9_flagsNear : ByteArray := prog_11_method_31_code
def yX9_flagsNear : MethodName := ⟨RX9, "flagsNear", "(I)I"⟩
abbrev cX9_chord : ByteArray := prog_11_method_32_code
def yX9_chord : MethodName := ⟨RX9, "chord", "(I)I"⟩
abbrev cX9_undo : ByteArray := prog_11_method_33_code
def yX9_undo : MethodName := ⟨RX9, "undo", "()I"⟩
abbrev cX9_shown : ByteArray := prog_11_method_34_code
def yX9_shown : MethodName := ⟨RX9, "shown", "(I)I"⟩
abbrev cX9_solved : ByteArray := prog_11_method_35_code
def yX9_solved : MethodName := ⟨RX9, "solved", "()Z"⟩
abbrev cX9_isBare : ByteArray := prog_11_method_36_code
def yX9_isBare : MethodName := ⟨RX9, "isBare", "(I)Z"⟩
abbrev cX9_clicks : ByteArray := prog_11_method_37_code
def yX9_clicks : MethodName := ⟨RX9, "clicks", "()I"⟩
abbrev cX9_isUnsure : ByteArray := prog_11_method_38_code
def yX9_isUnsure : MethodName := ⟨RX9, "isUnsure", "(II)Z"⟩
abbrev cX9_unsure : ByteArray := prog_11_method_39_code
def yX9_unsure : MethodName := ⟨RX9, "unsure", "(I)I"⟩
abbrev cX9_due : ByteArray := prog_11_method_40_code
def yX9_due : MethodName := ⟨RX9, "due", "(I)I"⟩
abbrev cX9_clearGiven : ByteArray := prog_11_method_41_code
def yX9_clearGiven : MethodName := ⟨RX9, "clearGiven", "()V"⟩
abbrev cX9_becauseOf : ByteArray := prog_11_method_42_code
def yX9_becauseOf : MethodName := ⟨RX9, "becauseOf", "(I)V"⟩
abbrev cX9_ruleOne : ByteArray := prog_11_method_43_code
def yX9_ruleOne : MethodName := ⟨RX9, "ruleOne", "()Z"⟩
abbrev cX9_isWithin : ByteArray := prog_11_method_44_code
def yX9_isWithin : MethodName := ⟨RX9, "isWithin", "(II)Z"⟩
abbrev cX9_ruleTwo : ByteArray := prog_11_method_45_code
def yX9_ruleTwo : MethodName := ⟨RX9, "ruleTwo", "()Z"⟩
abbrev cX9_ruleThree : ByteArray := prog_11_method_46_code
def yX9_ruleThree : MethodName := ⟨RX9, "ruleThree", "()Z"⟩
abbrev cX9_rule : ByteArray := prog_11_method_47_code
def yX9_rule : MethodName := ⟨RX9, "rule", "(I)I"⟩
abbrev cX9_find : ByteArray := prog_11_method_48_code
def yX9_find : MethodName := ⟨RX9, "find", "(I)V"⟩
abbrev cX9_hint : ByteArray := prog_11_method_49_code
def yX9_hint : MethodName := ⟨RX9, "hint", "(I)I"⟩
abbrev cX9_kind : ByteArray := prog_11_method_50_code
def yX9_kind : MethodName := ⟨RX9, "kind", "()I"⟩
abbrev cX9_reason : ByteArray := prog_11_method_51_code
def yX9_reason : MethodName := ⟨RX9, "reason", "(I)I"⟩
abbrev cX9_total : ByteArray := prog_11_method_52_code
def yX9_total : MethodName := ⟨RX9, "total", "()Z"⟩
abbrev cX9_take : ByteArray := prog_11_method_53_code
def yX9_take : MethodName := ⟨RX9, "take", "()I"⟩
abbrev cX9_change : ByteArray := prog_11_method_54_code
def yX9_change : MethodName := ⟨RX9, "change", "(IZ)I"⟩
abbrev cX9_tell : ByteArray := prog_11_method_55_code
def yX9_tell : MethodName := ⟨RX9, "tell", "(IZ)I"⟩
abbrev cX9_name : ByteArray := prog_11_method_56_code
def yX9_name : MethodName := ⟨RX9, "name", "(Z)I"⟩
abbrev cX9_bits : ByteArray := prog_11_method_57_code
def yX9_bits : MethodName := ⟨RX9, "bits", "(I)I"⟩
abbrev cX9_spokenOf : ByteArray := prog_11_method_58_code
def yX9_spokenOf : MethodName := ⟨RX9, "spokenOf", "(I)I"⟩
abbrev cX9_check : ByteArray := prog_11_method_59_code
def yX9_check : MethodName := ⟨RX9, "check", "(II)I"⟩
abbrev cX9_findParts : ByteArray := prog_11_method_60_code
def yX9_findParts : MethodName := ⟨RX9, "findParts", "()Z"⟩
abbrev cX9_fits : ByteArray := prog_11_method_61_code
def yX9_fits : MethodName := ⟨RX9, "fits", "(I)Z"⟩
abbrev cX9_countOne : ByteArray := prog_11_method_62_code
def yX9_countOne : MethodName := ⟨RX9, "countOne", "(II)V"⟩
abbrev cX9_tryPart : ByteArray := prog_11_method_63_code
def yX9_tryPart : MethodName := ⟨RX9, "tryPart", "(I)V"⟩
abbrev cX9_findWays : ByteArray := prog_11_method_64_code
def yX9_findWays : MethodName := ⟨RX9, "findWays", "()V"⟩
abbrev cX9_sumParts : ByteArray := prog_11_method_65_code
def yX9_sumParts : MethodName := ⟨RX9, "sumParts", "(IZ)V"⟩
abbrev cX9_addPart : ByteArray := prog_11_method_66_code
def yX9_addPart : MethodName := ⟨RX9, "addPart", "(IZZ)V"⟩
abbrev cX9_mineLeft : ByteArray := prog_11_method_67_code
def yX9_mineLeft : MethodName := ⟨RX9, "mineLeft", "()I"⟩
abbrev cX9_canBe : ByteArray := prog_11_method_68_code
def yX9_canBe : MethodName := ⟨RX9, "canBe", "(II)Z"⟩
abbrev cX9_findChoices : ByteArray := prog_11_method_69_code
def yX9_findChoices : MethodName := ⟨RX9, "findChoices", "(I)V"⟩
abbrev cX9_together : ByteArray := prog_11_method_70_code
def yX9_together : MethodName := ⟨RX9, "together", "(II)I"⟩
abbrev cX9_ways : ByteArray := prog_11_method_71_code
def yX9_ways : MethodName := ⟨RX9, "ways", "()I"⟩
abbrev cX9_with : ByteArray := prog_11_method_72_code
def yX9_with : MethodName := ⟨RX9, "with", "(I)I"⟩
def RJ6 : String := "java/lang/Integer"
def TJ6 : u_T := fun k => match k with
  | _ => ("", "", "", false)
def tyJ6 : Nat → FieldType := fun k => match k with
  | _ => .int
abbrev cJ6_bitCount_0f7a4 : ByteArray := prog_12_method_49_code
def yJ6_bitCount_0f7a4 : MethodName := ⟨RJ6, "bitCount", "(I)I"⟩
def RJ13 : String := "java/lang/Long"
def TJ13 : u_T := fun k => match k with
  | _ => ("", "", "", false)
def tyJ13 : Nat → FieldType := fun k => match k with
  | _ => .int
abbrev cJ13_bitCount_95d88 : ByteArray := prog_13_method_50_code
def yJ13_bitCount_95d88 : MethodName := ⟨RJ13, "bitCount", "(J)I"⟩
def RJ9 : String := "java/lang/Math"
def TJ9 : u_T := fun k => match k with
  | _ => ("", "", "", false)
def tyJ9 : Nat → FieldType := fun k => match k with
  | _ => .int
abbrev cJ9_max_7cf53 : ByteArray := prog_14_method_65_code
def yJ9_max_7cf53 : MethodName := ⟨RJ9, "max", "(II)I"⟩
def RL : String := "MineDeskLaw"
abbrev cL_law : ByteArray := code
def yL_law : MethodName := ⟨RL, "law", "([I)Z"⟩
abbrev vwCl : List vw_C := [(RX0, TX0, 2), (RX1, TX1, 9), (RX2, TX2, 8), (RX3, TX3, 5), (RX4, TX4, 2), (RX5, TX5, 15), (RX6, TX6, 13), (RX7, TX7, 8), (RX8, TX8, 8), (RX9, TX9, 38)]
def gt_tbl : List Cond := lw_tbl.filter goodWord
theorem tb_at {w : Cond} (i : Nat) (h : lw_tbl[i]? = some w) (hg : goodWord w = true) : w ∈ gt_tbl := List.mem_filter.mpr ⟨List.mem_of_getElem? h, hg⟩
theorem tb_all {ws : List Cond} (ps : List Nat) (hp : ws = ps.filterMap (fun i => lw_tbl[i]?)) (hg : ws.all goodWord = true) : ∀ w ∈ ws, w ∈ gt_tbl := by
  intro w hw
  have h1 := List.all_eq_true.mp hg w hw
  rw [hp] at hw
  obtain ⟨i, -, hi⟩ := List.mem_filterMap.mp hw
  exact List.mem_filter.mpr ⟨List.mem_of_getElem? hi, h1⟩
theorem inX0 : ∀ w ∈ u_ws RX0 TX0 2, w ∈ gt_tbl := tb_all [182, 184] (by decide +kernel) (by decide +kernel)
theorem inX1 : ∀ w ∈ u_ws RX1 TX1 9, w ∈ gt_tbl := tb_all [222, 224, 226, 228, 230, 232, 234, 236, 238] (by decide +kernel) (by decide +kernel)
theorem inX2 : ∀ w ∈ u_ws RX2 TX2 8, w ∈ gt_tbl := tb_all [145, 147, 149, 151, 153, 155, 157, 159] (by decide +kernel) (by decide +kernel)
theorem inX3 : ∀ w ∈ u_ws RX3 TX3 5, w ∈ gt_tbl := tb_all [412, 414, 416, 418, 420] (by decide +kernel) (by decide +kernel)
theorem inX4 : ∀ w ∈ u_ws RX4 TX4 2, w ∈ gt_tbl := tb_all [250, 252] (by decide +kernel) (by decide +kernel)
theorem inX5 : ∀ w ∈ u_ws RX5 TX5 15, w ∈ gt_tbl := tb_all [311, 313, 315, 317, 319, 321, 323, 325, 327, 329, 331, 333, 335, 337, 339] (by decide +kernel) (by decide +kernel)
theorem inX6 : ∀ w ∈ u_ws RX6 TX6 13, w ∈ gt_tbl := tb_all [367, 369, 371, 373, 375, 377, 379, 381, 383, 385, 387, 389, 391] (by decide +kernel) (by decide +kernel)
theorem inX7 : ∀ w ∈ u_ws RX7 TX7 8, w ∈ gt_tbl := tb_all [277, 279, 281, 283, 285, 287, 289, 291] (by decide +kernel) (by decide +kernel)
theorem inX8 : ∀ w ∈ u_ws RX8 TX8 8, w ∈ gt_tbl := tb_all [476, 478, 480, 482, 484, 486, 488, 490] (by decide +kernel) (by decide +kernel)
theorem inX9 : ∀ w ∈ u_ws RX9 TX9 38, w ∈ gt_tbl := tb_all [1016, 1018, 1020, 1022, 1024, 1026, 1028, 1030, 1032, 1034, 1036, 1038, 1040, 1042, 1044, 1046, 1048, 1050, 1052, 1054, 1056, 1058, 1060, 1062, 1064, 1066, 1068, 1070, 1072, 1074, 1076, 1078, 1080, 1082, 1084, 1086, 1088, 1090] (by decide +kernel) (by decide +kernel)
theorem gt_in : ∀ w ∈ gt_tbl, w ∈ lw_tbl := fun w h => (List.mem_filter.mp h).1
theorem gt_good : GoodIn gt_tbl gt_tbl := fun w h => ⟨h, good_of_word (List.mem_filter.mp h).2⟩
end
section

/-! THE PACKED MACHINE: a fixed world of cells of fixed shape; ints and longs by cell and place. -/
abbrev tg_S : Type := (Nat × Nat) ⊕ (Nat × List (Nat × Nat))
abbrev tg_G : Type := (Nat → tg_S) × Nat
abbrev tg_I : Type := Nat → Nat → Int32
abbrev tg_J : Type := Nat → Nat → Int64
abbrev zM : Type := MethodName × ByteArray × Nat × Option FieldType × Nat × Nat
abbrev z_y (Z : zM) : MethodName := Z.1
abbrev z_c (Z : zM) : ByteArray := Z.2.1
abbrev z_n (Z : zM) : Nat := Z.2.2.1
abbrev z_r (Z : zM) : Option FieldType := Z.2.2.2.1
abbrev z_f (Z : zM) : Nat := Z.2.2.2.2.1
abbrev z_l (Z : zM) : Nat := Z.2.2.2.2.2
abbrev z_w (Z : zM) : List Cond := Cond.code (z_y Z) (z_c Z) (z_n Z) (z_r Z) :: gt_tbl
abbrev z_R (Z : zM) : Room := { frames := z_f Z, cells := 0, slots := 0, locals := z_l Z }
def tg_v (ad : Nat → Nat) : Value → Value
  | .ref k => .ref (ad k)
  | v => v
def tg_lv (ad : Nat → Nat) (lv : List (Nat × Value)) : List (Nat × Value) := lv.map fun q => (q.1, tg_v ad q.2)
def tg_fv (ad : Nat → Nat) (I : tg_I) (J : tg_J) (k j : Nat) (q : Nat × Nat) : Value := match q.1 with
  | 0 => .int (I k j)
  | 1 => .long (J k j)
  | 2 => .ref (ad q.2)
  | _ => .ref (ad (I k j).toNatClampNeg)
def tg_fs (ad : Nat → Nat) (I : tg_I) (J : tg_J) (k : Nat) (fk : List (Nat × Nat)) : List Value := (List.range fk.length).map fun j => tg_fv ad I J k j (fk.getD j (0, 0))
def tg_e (ad : Nat → Nat) (cA : Nat → ClassId) (G : tg_G) (I : tg_I) (J : tg_J) (k : Nat) : va_E := match G.1 k with
  | .inl (2, n) => .inl (cA 2, n, .inr (.inl (J k)))
  | .inl (t, n) => .inl (cA t, n, .inl (I k))
  | .inr (ci, fk) => .inr (ci, tg_fs ad I J k fk)
def tg_W (ad : Nat → Nat) (cA : Nat → ClassId) (G : tg_G) (I : tg_I) (J : tg_J) : va_W := (List.range G.2).map fun k => (ad k, tg_e ad cA G I J k)
def u2 {α : Type} (f : Nat → Nat → α) (k j : Nat) (v : α) : Nat → Nat → α := fun a b => if a = k ∧ b = j then v else f a b
def tg_D (ad : Nat → Nat) (N : Nat) (A : Nat → Prop) : Prop := (∀ i j, i < N → j < N → ad i = ad j → i = j) ∧ ∀ k, k < N → A (ad k)
def tg_A (ad : Nat → Nat) (N sz : Nat) : Nat → Prop := fun q => (∃ k, k < N ∧ ad k = q) ∨ sz ≤ q
abbrev tg_ty (cA : Nat → ClassId) : List (ClassId × FieldType) := [(cA 0, .int), (cA 1, .boolean), (cA 2, .long)]
theorem tg_get {ad : Nat → Nat} {cA : Nat → ClassId} {G : tg_G} {I : tg_I} {J : tg_J} {k : Nat} (h : k < G.2) : (tg_W ad cA G I J)[k]? = some (ad k, tg_e ad cA G I J k) := by
  simp [tg_W, h]
theorem tg_set {ad : Nat → Nat} {cA : Nat → ClassId} {G : tg_G} {I I' : tg_I} {J J' : tg_J} {k : Nat} (h : k < G.2) (he : ∀ i, i ≠ k → tg_e ad cA G I' J' i = tg_e ad cA G I J i) : (tg_W ad cA G I J).set k (ad k, tg_e ad cA G I' J' k) = tg_W ad cA G I' J' := by
  apply List.ext_getElem?
  intro i
  by_cases hi : i = k
  · subst hi
    rw [List.getElem?_set_self (by simpa [tg_W] using h), tg_get h]
  · rw [List.getElem?_set_ne (fun q => hi q.symm)]
    by_cases hl : i < G.2
    · rw [tg_get hl, tg_get hl, he i hi]
    · have e1 : (tg_W ad cA G I J)[i]? = none := List.getElem?_eq_none (by simp [tg_W]; omega)
      have e2 : (tg_W ad cA G I' J')[i]? = none := List.getElem?_eq_none (by simp [tg_W]; omega)
      rw [e1, e2]
theorem tg_vaD {ad : Nat → Nat} {cA : Nat → ClassId} {G : tg_G} {I : tg_I} {J : tg_J} {A : Nat → Prop} (h : tg_D ad G.2 A) : va_D A (tg_W ad cA G I J) := by
  have key : ∀ (k : Nat) (q : Nat × va_E), (tg_W ad cA G I J)[k]? = some q → k < G.2 ∧ q.1 = ad k := by
    intro k q hk
    have hl : k < G.2 := by
      have := (List.getElem?_eq_some_iff.mp hk).1
      simpa [tg_W] using this
    rw [tg_get hl] at hk
    cases hk
    exact ⟨hl, rfl⟩
  refine ⟨fun i j p q hi hj hpq => ?_, fun k q hk => ?_⟩
  · obtain ⟨a1, a2⟩ := key i p hi
    obtain ⟨b1, b2⟩ := key j q hj
    exact h.1 i j a1 b1 (by rw [← a2, ← b2]; exact hpq)
  · obtain ⟨a1, a2⟩ := key k q hk
    rw [a2]
    exact h.2 k a1
theorem u2_other {α : Type} (f : Nat → Nat → α) (k j : Nat) (v : α) {i : Nat} (h : i ≠ k) : u2 f k j v i = f i := by
  funext b
  simp [u2, h]
theorem u2_same {α : Type} (f : Nat → Nat → α) (k j : Nat) (v : α) : u2 f k j v k = fun b => if b = j then v else f k b := by
  funext b
  simp [u2]
theorem tg_e_otherI {ad : Nat → Nat} {cA : Nat → ClassId} {G : tg_G} {I : tg_I} {J : tg_J} {k j : Nat} {v : Int32} : ∀ i, i ≠ k → tg_e ad cA G (u2 I k j v) J i = tg_e ad cA G I J i := by
  intro i hi
  have h := u2_other I k j v hi
  have h2 : ∀ fk, tg_fs ad (u2 I k j v) J i fk = tg_fs ad I J i fk := by
    intro fk
    unfold tg_fs tg_fv
    simp only [h]
  unfold tg_e
  simp only [h, h2]
theorem tg_e_otherJ {ad : Nat → Nat} {cA : Nat → ClassId} {G : tg_G} {I : tg_I} {J : tg_J} {k j : Nat} {v : Int64} : ∀ i, i ≠ k → tg_e ad cA G I (u2 J k j v) i = tg_e ad cA G I J i := by
  intro i hi
  have h := u2_other J k j v hi
  have h2 : ∀ fk, tg_fs ad I (u2 J k j v) i fk = tg_fs ad I J i fk := by
    intro fk
    unfold tg_fs tg_fv
    simp only [h]
  unfold tg_e
  simp only [h, h2]
theorem tg_fs_get {ad : Nat → Nat} {I : tg_I} {J : tg_J} {k j : Nat} {fk : List (Nat × Nat)} {q : Nat × Nat} (h : fk[j]? = some q) : (tg_fs ad I J k fk)[j]? = some (tg_fv ad I J k j q) := by
  obtain ⟨hl, rfl⟩ := List.getElem?_eq_some_iff.mp h
  simp [tg_fs, hl]
theorem tg_fs_len {ad : Nat → Nat} {I : tg_I} {J : tg_J} {k : Nat} {fk : List (Nat × Nat)} : (tg_fs ad I J k fk).length = fk.length := by simp [tg_fs]
theorem tg_fs_set {ad : Nat → Nat} {I I' : tg_I} {J J' : tg_J} {k j : Nat} {fk : List (Nat × Nat)} {q : Nat × Nat} (h : fk[j]? = some q) (ho : ∀ b, b ≠ j → I' k b = I k b ∧ J' k b = J k b) : (tg_fs ad I J k fk).set j (tg_fv ad I' J' k j q) = tg_fs ad I' J' k fk := by
  have hl : j < fk.length := (List.getElem?_eq_some_iff.mp h).1
  apply List.ext_getElem?
  intro i
  by_cases hi : i = j
  · subst hi
    rw [List.getElem?_set_self (by rw [tg_fs_len]; exact hl), tg_fs_get h]
  · rw [List.getElem?_set_ne (fun z => hi z.symm)]
    by_cases hb : i < fk.length
    · obtain ⟨r, hr⟩ : ∃ r, fk[i]? = some r := ⟨fk[i], List.getElem?_eq_getElem hb⟩
      rw [tg_fs_get hr, tg_fs_get hr]
      obtain ⟨e1, e2⟩ := ho i hi
      unfold tg_fv
      rw [e1, e2]
    · have e1 : (tg_fs ad I J k fk)[i]? = none := List.getElem?_eq_none (by rw [tg_fs_len]; omega)
      have e2 : (tg_fs ad I' J' k fk)[i]? = none := List.getElem?_eq_none (by rw [tg_fs_len]; omega)
      rw [e1, e2]
theorem tg_cat (ad : Nat → Nat) (v : Value) : (tg_v ad v).category = v.category := by cases v <;> rfl
theorem tg_sum (ad : Nat → Nat) (st : List Value) : ((st.map (tg_v ad)).map fun v => v.category).sum = (st.map fun v => v.category).sum := by
  induction st with
  | nil => rfl
  | cons v vs ih => simp only [List.map_cons, List.sum_cons, tg_cat, ih]
theorem tg_lv_at {ad : Nat → Nat} {lv : List (Nat × Value)} {k i : Nat} {v : Value} (h : lv[k]? = some (i, v)) : (tg_lv ad lv)[k]? = some (i, tg_v ad v) := by
  simp [tg_lv, h]
theorem tg_lv_f1 {ad : Nat → Nat} {lv : List (Nat × Value)} {i : Nat} : (tg_lv ad lv).filter (fun q => !(q.1 == i) && !(q.1 + 1 == i && q.2.category == 2)) = tg_lv ad (lv.filter (fun q => !(q.1 == i) && !(q.1 + 1 == i && q.2.category == 2))) := by
  induction lv with
  | nil => rfl
  | cons q qs ih =>
    simp only [tg_lv, List.map_cons, List.filter_cons, tg_cat] at ih ⊢
    split <;> simp_all
theorem tg_lv_f2 {ad : Nat → Nat} {lv : List (Nat × Value)} {i : Nat} : (tg_lv ad lv).filter (fun q => !(q.1 == i) && (!(q.1 == i + 1) && !(q.1 + 1 == i && q.2.category == 2))) = tg_lv ad (lv.filter (fun q => !(q.1 == i) && (!(q.1 == i + 1) && !(q.1 + 1 == i && q.2.category == 2)))) := by
  induction lv with
  | nil => rfl
  | cons q qs ih =>
    simp only [tg_lv, List.map_cons, List.filter_cons, tg_cat] at ih ⊢
    split <;> simp_all
theorem tg_lv_args (ad : Nat → Nat) (vs : List Value) : ∀ i, lv_args i (vs.map (tg_v ad)) = tg_lv ad (lv_args i vs) := by
  induction vs with
  | nil => intro i; rfl
  | cons v vs ih =>
    intro i
    simp only [List.map_cons, lv_args, tg_cat, ih]
    rfl
def tg_C (Z : zM) (p : Program) (s : State) (m : MethodId) (args : Array Value) (meth : Method) (c : Code) (D : va_G) (cA : Nat → ClassId) : Prop :=
  p.tables.exec = Jvm.exec ∧ c.code = z_c Z ∧ meth.sig.returnType = z_r Z ∧ c.maxLocals = z_n Z ∧ s.vm.findClass (z_y Z).cls = some m.cls ∧ (∀ w ∈ gt_tbl, w.before args s = true) ∧ meth.locks = false ∧ va_K D vwCl (tg_ty cA) s
/-- from pc on, with these locals, this stack and this world, the method returns, with P -/
def rr (G : tg_G) (Z : zM) (pc : Nat) (lv : List (Nat × Value)) (st : List Value) (I : tg_I) (J : tg_J) (P : Option Value → tg_I → tg_J → Prop) : Prop :=
  ∀ {p : Program} {l : Launch} {e : Env} {s : State} {m : MethodId} {args : Array Value} {below : List Frame} {meth : Method} {c : Code} {D : va_G} {ad : Nat → Nat} {cA : Nat → ClassId} {A : Nat → Prop} {Qc : Array Value → State → Outcome → State → Prop} {H : Heap} {locs : List Loc} {ls : Array Slot},
    tg_C Z p s m args meth c D cA → tg_D ad G.2 A → (∀ q : Nat, s.heap.size ≤ q → A q) → lv_has ls (z_n Z) (tg_lv ad lv) → va_P D vwCl (tg_W ad cA G I J) H → va_S A s.heap H locs →
    (∀ (v : Option Value) (I' : tg_I) (J' : tg_J) (H' : Heap) (locs' : List Loc) (t : State), P v I' J' → va_P D vwCl (tg_W ad cA G I' J') H' → va_S A s.heap H' locs' → t.heap = H' → s.WarmedH t.vm → Qc args s (.returned (v.map (tg_v ad))) t) →
    W p l e (z_R Z) s m args below meth c H locs 0 0 (MQ below Qc args s 0 0 A) (F0 m pc ls (st.map (tg_v ad)))
def tg_Q (G : tg_G) (D : va_G) (ad : Nat → Nat) (cA : Nat → ClassId) (sz : Nat) (P : Option Value → tg_I → tg_J → Prop) : Array Value → State → Outcome → State → Prop := fun _ st oc t => (∃ (v : Option Value) (I' : tg_I) (J' : tg_J), oc = .returned (v.map (tg_v ad)) ∧ P v I' J' ∧ va_P D vwCl (tg_W ad cA G I' J') t.heap) ∧ va_F (tg_A ad G.2 sz) st t
def tg_Pc (G : tg_G) (D : va_G) (ad : Nat → Nat) (cA : Nat → ClassId) (sz : Nat) (av : List Value) (I : tg_I) (J : tg_J) : Array Value → State → Prop := va_Pc (av.map (tg_v ad)) (fun U => U.heap.size = sz ∧ (∀ i j, i < G.2 → j < G.2 → ad i = ad j → i = j) ∧ va_P D vwCl (tg_W ad cA G I J) U.heap ∧ va_K D vwCl (tg_ty cA) U)
/-- a call of the method, with these arguments, in this world: it returns, with P -/
def call (G : tg_G) (Z : zM) (av : List Value) (I : tg_I) (J : tg_J) (P : Option Value → tg_I → tg_J → Prop) : Prop :=
  ∀ (l : Launch) (D : va_G) (ad : Nat → Nat) (cA : Nat → ClassId) (sz : Nat), Met l (z_y Z) (z_w Z) (z_R Z) (tg_Pc G D ad cA sz av I J) (tg_Q G D ad cA sz P) 0 0 (tg_A ad G.2 sz)
theorem call_of {G : tg_G} {Z : zM} {av : List Value} {I : tg_I} {J : tg_J} {P : Option Value → tg_I → tg_J → Prop} (hy : plainName (z_y Z).cls = true) (hlen : ∀ ad, (lg_sl (av.map (tg_v ad))).length ≤ z_n Z) (h : rr G Z 0 (lv_args 0 av) [] I J P) : call G Z av I J P := by
  intro l D ad cA sz
  refine Met.ofW (cc := z_c Z) (maxL := z_n Z) (ret := z_r Z) hy rfl ?_
  intro p e s m args below meth c s₁ B hml hv
  obtain ⟨rfl, hsz, hinj, hP, hK⟩ := hv
  have hts := atoms_spec (ws := z_w Z) B.pre
  have hl := lv_entry (av.map (tg_v ad)) (n := z_n Z) (hlen ad)
  rw [tg_lv_args] at hl
  rw [lg_entry_eq]
  refine h (Qc := tg_Q G D ad cA sz P) ⟨B.exec, B.bytes, B.returns, hml, findClass_of_methodNamed B.named, fun w hw => hts w (List.mem_cons_of_mem _ hw), B.notSynchronized, hK⟩ ⟨hinj, fun k hk => Or.inl ⟨k, hk, rfl⟩⟩ (fun q hq => Or.inr (by rw [← hsz]; exact hq)) hl hP va_S.rf ?_
  intro v I' J' H' locs' t hp hP' hS' ht hW
  exact ⟨⟨v, I', J', rfl, hp, by rw [ht]; exact hP'⟩, hS'.F ht⟩
theorem call.mono {G : tg_G} {Z : zM} {av : List Value} {I : tg_I} {J : tg_J} {P P' : Option Value → tg_I → tg_J → Prop} (h : call G Z av I J P) (hp : ∀ v I' J', P v I' J' → P' v I' J') : call G Z av I J P' := by
  intro l D ad cA sz
  have hm := h l D ad cA sz
  intro p e ha hc hk s m args below hf happ hP hK
  obtain ⟨k, o, h1, h2, h3, ⟨⟨⟨v, I', J', e1, e2, e3⟩, hF⟩, hE⟩⟩ := hm p e ha hc hk s m args below hf happ hP hK
  exact ⟨k, o, h1, h2, h3, ⟨⟨v, I', J', e1, hp _ _ _ e2, e3⟩, hF⟩, hE⟩


section RR
variable {G : tg_G} {Z : zM} {pc pc' : Nat} {lv lv' : List (Nat × Value)} {st : List Value} {I : tg_I} {J : tg_J} {P : Option Value → tg_I → tg_J → Prop}
theorem rr.sub (ks : List Nat) (hs : lv_pick lv ks = lv') (hk : rr G Z pc lv' st I J P) : rr G Z pc lv st I J P := by
  intro p l e s m args below meth c D ad cA A Qc H locs ls C hD hA hl hP hS hr
  refine hk C hD hA ?_ hP hS hr
  refine lv_sub hl ks ?_
  subst hs
  simp only [lv_pick, tg_lv, List.getElem?_map, List.map_filterMap]
theorem rr.mono {P' : Option Value → tg_I → tg_J → Prop} (hk : rr G Z pc lv st I J P) (hp : ∀ v I' J', P v I' J' → P' v I' J') : rr G Z pc lv st I J P' := by
  intro p l e s m args below meth c D ad cA A Qc H locs ls C hD hA hl hP hS hr
  exact hk C hD hA hl hP hS (fun v I' J' H' locs' t h1 => hr v I' J' H' locs' t (hp _ _ _ h1))

theorem rr_iload_n {k : Fin 4} {i : Nat} {x : Int32} (hd : decode (z_c Z) pc = .ok (.iload_n k, 1)) (hi : (k : Nat) = i) (j : Nat) (hj : lv[j]? = some (i, .int x)) (e : pc + 1 = pc') (hk : rr G Z pc' lv (.int x :: st) I J P) : rr G Z pc lv (st) I J P := by
  subst e
  intro p l e s m args below meth c D ad cA A Qc H locs ls C hD hA hl hP hS hr
  exact lv_iload_n C.1 C.2.1 hd hi (lv_at hl j (tg_lv_at hj)) (hk C hD hA hl hP hS hr)

theorem rr_iload {i : Nat} {x : Int32} (hd : decode (z_c Z) pc = .ok (.iload i, 2)) (j : Nat) (hj : lv[j]? = some (i, .int x)) (e : pc + 2 = pc') (hk : rr G Z pc' lv (.int x :: st) I J P) : rr G Z pc lv (st) I J P := by
  subst e
  intro p l e s m args below meth c D ad cA A Qc H locs ls C hD hA hl hP hS hr
  exact lv_iload C.1 C.2.1 hd (lv_at hl j (tg_lv_at hj)) (hk C hD hA hl hP hS hr)

theorem rr_lload_n {k : Fin 4} {i : Nat} {x : Int64} (hd : decode (z_c Z) pc = .ok (.lload_n k, 1)) (hi : (k : Nat) = i) (j : Nat) (hj : lv[j]? = some (i, .long x)) (e : pc + 1 = pc') (hk : rr G Z pc' lv (.long x :: st) I J P) : rr G Z pc lv (st) I J P := by
  subst e
  intro p l e s m args below meth c D ad cA A Qc H locs ls C hD hA hl hP hS hr
  exact lv_lload_n C.1 C.2.1 hd hi (lv_at hl j (tg_lv_at hj)) (hk C hD hA hl hP hS hr)

theorem rr_lload {i : Nat} {x : Int64} (hd : decode (z_c Z) pc = .ok (.lload i, 2)) (j : Nat) (hj : lv[j]? = some (i, .long x)) (e : pc + 2 = pc') (hk : rr G Z pc' lv (.long x :: st) I J P) : rr G Z pc lv (st) I J P := by
  subst e
  intro p l e s m args below meth c D ad cA A Qc H locs ls C hD hA hl hP hS hr
  exact lv_lload C.1 C.2.1 hd (lv_at hl j (tg_lv_at hj)) (hk C hD hA hl hP hS hr)

theorem rr_aload_n {k : Fin 4} {i : Nat} {x : Nat} (hd : decode (z_c Z) pc = .ok (.aload_n k, 1)) (hi : (k : Nat) = i) (j : Nat) (hj : lv[j]? = some (i, .ref x)) (e : pc + 1 = pc') (hk : rr G Z pc' lv (.ref x :: st) I J P) : rr G Z pc lv (st) I J P := by
  subst e
  intro p l e s m args below meth c D ad cA A Qc H locs ls C hD hA hl hP hS hr
  exact lv_aload_n C.1 C.2.1 hd hi (lv_at hl j (tg_lv_at hj)) (hk C hD hA hl hP hS hr)

theorem rr_aload {i : Nat} {x : Nat} (hd : decode (z_c Z) pc = .ok (.aload i, 2)) (j : Nat) (hj : lv[j]? = some (i, .ref x)) (e : pc + 2 = pc') (hk : rr G Z pc' lv (.ref x :: st) I J P) : rr G Z pc lv (st) I J P := by
  subst e
  intro p l e s m args below meth c D ad cA A Qc H locs ls C hD hA hl hP hS hr
  exact lv_aload C.1 C.2.1 hd (lv_at hl j (tg_lv_at hj)) (hk C hD hA hl hP hS hr)

theorem rr_istore_n {k : Fin 4} {i : Nat} {x : Int32} (hd : decode (z_c Z) pc = .ok (.istore_n k, 1)) (hi : (k : Nat) = i) (hn : i < z_n Z) (hl9 : (i, Value.int x) :: lv.filter (fun q => !(q.1 == i) && !(q.1 + 1 == i && q.2.category == 2)) = lv') (e : pc + 1 = pc') (hk : rr G Z pc' lv' st I J P) : rr G Z pc lv (.int x :: st) I J P := by
  subst e
  intro p l e s m args below meth c D ad cA A Qc H locs ls C hD hA hl hP hS hr
  exact lv_istore_n C.1 C.2.1 hd hi hl hn (lv' := tg_lv ad lv') (by rw [tg_lv_f1, ← hl9]; rfl) (fun ls hl => hk C hD hA hl hP hS hr)

theorem rr_istore {i : Nat} {x : Int32} (hd : decode (z_c Z) pc = .ok (.istore i, 2)) (hn : i < z_n Z) (hl9 : (i, Value.int x) :: lv.filter (fun q => !(q.1 == i) && !(q.1 + 1 == i && q.2.category == 2)) = lv') (e : pc + 2 = pc') (hk : rr G Z pc' lv' st I J P) : rr G Z pc lv (.int x :: st) I J P := by
  subst e
  intro p l e s m args below meth c D ad cA A Qc H locs ls C hD hA hl hP hS hr
  exact lv_istore C.1 C.2.1 hd hl hn (lv' := tg_lv ad lv') (by rw [tg_lv_f1, ← hl9]; rfl) (fun ls hl => hk C hD hA hl hP hS hr)

theorem rr_lstore_n {k : Fin 4} {i : Nat} {x : Int64} (hd : decode (z_c Z) pc = .ok (.lstore_n k, 1)) (hi : (k : Nat) = i) (hn : i + 1 < z_n Z) (hl9 : (i, Value.long x) :: lv.filter (fun q => !(q.1 == i) && (!(q.1 == i + 1) && !(q.1 + 1 == i && q.2.category == 2))) = lv') (e : pc + 1 = pc') (hk : rr G Z pc' lv' st I J P) : rr G Z pc lv (.long x :: st) I J P := by
  subst e
  intro p l e s m args below meth c D ad cA A Qc H locs ls C hD hA hl hP hS hr
  exact lv_lstore_n C.1 C.2.1 hd hi hl hn (lv' := tg_lv ad lv') (by rw [tg_lv_f2, ← hl9]; rfl) (fun ls hl => hk C hD hA hl hP hS hr)

theorem rr_lstore {i : Nat} {x : Int64} (hd : decode (z_c Z) pc = .ok (.lstore i, 2)) (hn : i + 1 < z_n Z) (hl9 : (i, Value.long x) :: lv.filter (fun q => !(q.1 == i) && (!(q.1 == i + 1) && !(q.1 + 1 == i && q.2.category == 2))) = lv') (e : pc + 2 = pc') (hk : rr G Z pc' lv' st I J P) : rr G Z pc lv (.long x :: st) I J P := by
  subst e
  intro p l e s m args below meth c D ad cA A Qc H locs ls C hD hA hl hP hS hr
  exact lv_lstore C.1 C.2.1 hd hl hn (lv' := tg_lv ad lv') (by rw [tg_lv_f2, ← hl9]; rfl) (fun ls hl => hk C hD hA hl hP hS hr)

theorem rr_astore_n {k : Fin 4} {i : Nat} {x : Nat} (hd : decode (z_c Z) pc = .ok (.astore_n k, 1)) (hi : (k : Nat) = i) (hn : i < z_n Z) (hl9 : (i, Value.ref x) :: lv.filter (fun q => !(q.1 == i) && !(q.1 + 1 == i && q.2.category == 2)) = lv') (e : pc + 1 = pc') (hk : rr G Z pc' lv' st I J P) : rr G Z pc lv (.ref x :: st) I J P := by
  subst e
  intro p l e s m args below meth c D ad cA A Qc H locs ls C hD hA hl hP hS hr
  exact lv_astore_n C.1 C.2.1 hd hi hl hn (lv' := tg_lv ad lv') (by rw [tg_lv_f1, ← hl9]; rfl) (fun ls hl => hk C hD hA hl hP hS hr)

theorem rr_astore {i : Nat} {x : Nat} (hd : decode (z_c Z) pc = .ok (.astore i, 2)) (hn : i < z_n Z) (hl9 : (i, Value.ref x) :: lv.filter (fun q => !(q.1 == i) && !(q.1 + 1 == i && q.2.category == 2)) = lv') (e : pc + 2 = pc') (hk : rr G Z pc' lv' st I J P) : rr G Z pc lv (.ref x :: st) I J P := by
  subst e
  intro p l e s m args below meth c D ad cA A Qc H locs ls C hD hA hl hP hS hr
  exact lv_astore C.1 C.2.1 hd hl hn (lv' := tg_lv ad lv') (by rw [tg_lv_f1, ← hl9]; rfl) (fun ls hl => hk C hD hA hl hP hS hr)

theorem rr_iinc {i k : Nat} {n : Int} {x v : Int32} (hd : decode (z_c Z) pc = .ok (.iinc i n, 3)) (hj : lv[k]? = some (i, .int x)) (hv : x + Int32.ofInt n = v) (hn : i < z_n Z) (hl9 : (i, Value.int v) :: lv.filter (fun q => !(q.1 == i) && !(q.1 + 1 == i && q.2.category == 2)) = lv') (e : pc + 3 = pc') (hk : rr G Z pc' lv' st I J P) : rr G Z pc lv st I J P := by
  subst e
  intro p l e s m args below meth c D ad cA A Qc H locs ls C hD hA hl hP hS hr
  exact lv_iinc C.1 C.2.1 hd hl (tg_lv_at hj) hv hn (lv' := tg_lv ad lv') (by rw [tg_lv_f1, ← hl9]; rfl) (fun ls hl => hk C hD hA hl hP hS hr)

theorem rr_iconst {n : Int} {v : Int32} (hd : decode (z_c Z) pc = .ok (.iconst n, 1)) (hv : Int32.ofInt n = v) (e : pc + 1 = pc') (hk : rr G Z pc' lv (.int v :: st) I J P) : rr G Z pc lv (st) I J P := by
  subst e
  intro p l e s m args below meth c D ad cA A Qc H locs ls C hD hA hl hP hS hr
  exact lv_iconst C.1 C.2.1 hd hv (hk C hD hA hl hP hS hr)

theorem rr_bipush {n : Int} {v : Int32} (hd : decode (z_c Z) pc = .ok (.bipush n, 2)) (hv : (Int8.ofInt n).toInt32 = v) (e : pc + 2 = pc') (hk : rr G Z pc' lv (.int v :: st) I J P) : rr G Z pc lv (st) I J P := by
  subst e
  intro p l e s m args below meth c D ad cA A Qc H locs ls C hD hA hl hP hS hr
  exact lv_bipush C.1 C.2.1 hd hv (hk C hD hA hl hP hS hr)

theorem rr_sipush {n : Int} {v : Int32} (hd : decode (z_c Z) pc = .ok (.sipush n, 3)) (hv : (Int16.ofInt n).toInt32 = v) (e : pc + 3 = pc') (hk : rr G Z pc' lv (.int v :: st) I J P) : rr G Z pc lv (st) I J P := by
  subst e
  intro p l e s m args below meth c D ad cA A Qc H locs ls C hD hA hl hP hS hr
  exact lv_sipush C.1 C.2.1 hd hv (hk C hD hA hl hP hS hr)

theorem rr_lconst {n : Fin 2} {v : Int64} (hd : decode (z_c Z) pc = .ok (.lconst n, 1)) (hv : Int64.ofNat (n : Nat) = v) (e : pc + 1 = pc') (hk : rr G Z pc' lv (.long v :: st) I J P) : rr G Z pc lv (st) I J P := by
  subst e
  intro p l e s m args below meth c D ad cA A Qc H locs ls C hD hA hl hP hS hr
  exact lv_lconst C.1 C.2.1 hd hv (hk C hD hA hl hP hS hr)

theorem rr_ldc {i : Nat} {v : Int32} (hd : decode (z_c Z) pc = .ok (.ldc i, 2)) (hw : Cond.constant (z_y Z).cls i v ∈ gt_tbl) (e : pc + 2 = pc') (hk : rr G Z pc' lv (.int v :: st) I J P) : rr G Z pc lv (st) I J P := by
  subst e
  intro p l e s m args below meth c D ad cA A Qc H locs ls C hD hA hl hP hS hr
  exact lv_ldc C.1 C.2.1 C.2.2.2.2.1 (C.2.2.2.2.2.1 _ hw) hd (hk C hD hA hl hP hS hr)

theorem rr_ldc2 {i : Nat} {v : Int64} (hd : decode (z_c Z) pc = .ok (.ldc2_w i, 3)) (hw : Cond.constantLong (z_y Z).cls i v ∈ gt_tbl) (e : pc + 3 = pc') (hk : rr G Z pc' lv (.long v :: st) I J P) : rr G Z pc lv (st) I J P := by
  subst e
  intro p l e s m args below meth c D ad cA A Qc H locs ls C hD hA hl hP hS hr
  exact lv_ldc2 C.1 C.2.1 C.2.2.2.2.1 (C.2.2.2.2.2.1 _ hw) hd (hk C hD hA hl hP hS hr)

theorem rr_iadd {x y : Int32} (hd : decode (z_c Z) pc = .ok (.iadd, 1)) (e : pc + 1 = pc') (hk : rr G Z pc' lv (.int (x + y) :: st) I J P) : rr G Z pc lv (.int y :: .int x :: st) I J P := by
  subst e
  intro p l e s m args below meth c D ad cA A Qc H locs ls C hD hA hl hP hS hr
  exact lv_iadd C.1 C.2.1 hd (hk C hD hA hl hP hS hr)

theorem rr_isub {x y : Int32} (hd : decode (z_c Z) pc = .ok (.isub, 1)) (e : pc + 1 = pc') (hk : rr G Z pc' lv (.int (x - y) :: st) I J P) : rr G Z pc lv (.int y :: .int x :: st) I J P := by
  subst e
  intro p l e s m args below meth c D ad cA A Qc H locs ls C hD hA hl hP hS hr
  exact lv_isub C.1 C.2.1 hd (hk C hD hA hl hP hS hr)

theorem rr_imul {x y : Int32} (hd : decode (z_c Z) pc = .ok (.imul, 1)) (e : pc + 1 = pc') (hk : rr G Z pc' lv (.int (x * y) :: st) I J P) : rr G Z pc lv (.int y :: .int x :: st) I J P := by
  subst e
  intro p l e s m args below meth c D ad cA A Qc H locs ls C hD hA hl hP hS hr
  exact lv_imul C.1 C.2.1 hd (hk C hD hA hl hP hS hr)

theorem rr_iand {x y : Int32} (hd : decode (z_c Z) pc = .ok (.iand, 1)) (e : pc + 1 = pc') (hk : rr G Z pc' lv (.int (x &&& y) :: st) I J P) : rr G Z pc lv (.int y :: .int x :: st) I J P := by
  subst e
  intro p l e s m args below meth c D ad cA A Qc H locs ls C hD hA hl hP hS hr
  exact lv_iand C.1 C.2.1 hd (hk C hD hA hl hP hS hr)

theorem rr_ior {x y : Int32} (hd : decode (z_c Z) pc = .ok (.ior, 1)) (e : pc + 1 = pc') (hk : rr G Z pc' lv (.int (x ||| y) :: st) I J P) : rr G Z pc lv (.int y :: .int x :: st) I J P := by
  subst e
  intro p l e s m args below meth c D ad cA A Qc H locs ls C hD hA hl hP hS hr
  exact lv_ior C.1 C.2.1 hd (hk C hD hA hl hP hS hr)

theorem rr_ixor {x y : Int32} (hd : decode (z_c Z) pc = .ok (.ixor, 1)) (e : pc + 1 = pc') (hk : rr G Z pc' lv (.int (x ^^^ y) :: st) I J P) : rr G Z pc lv (.int y :: .int x :: st) I J P := by
  subst e
  intro p l e s m args below meth c D ad cA A Qc H locs ls C hD hA hl hP hS hr
  exact lv_ixor C.1 C.2.1 hd (hk C hD hA hl hP hS hr)

theorem rr_ishl {x y : Int32} (hd : decode (z_c Z) pc = .ok (.ishl, 1)) (e : pc + 1 = pc') (hk : rr G Z pc' lv (.int (x <<< (y &&& 31)) :: st) I J P) : rr G Z pc lv (.int y :: .int x :: st) I J P := by
  subst e
  intro p l e s m args below meth c D ad cA A Qc H locs ls C hD hA hl hP hS hr
  exact lv_ishl C.1 C.2.1 hd (hk C hD hA hl hP hS hr)

theorem rr_ishr {x y : Int32} (hd : decode (z_c Z) pc = .ok (.ishr, 1)) (e : pc + 1 = pc') (hk : rr G Z pc' lv (.int (x >>> (y &&& 31)) :: st) I J P) : rr G Z pc lv (.int y :: .int x :: st) I J P := by
  subst e
  intro p l e s m args below meth c D ad cA A Qc H locs ls C hD hA hl hP hS hr
  exact lv_ishr C.1 C.2.1 hd (hk C hD hA hl hP hS hr)

theorem rr_idiv {x y : Int32} (hd : decode (z_c Z) pc = .ok (.idiv, 1)) (hne : ¬ y = 0) (e : pc + 1 = pc') (hk : rr G Z pc' lv (.int (x / y) :: st) I J P) : rr G Z pc lv (.int y :: .int x :: st) I J P := by
  subst e
  intro p l e s m args below meth c D ad cA A Qc H locs ls C hD hA hl hP hS hr
  exact lv_idiv C.1 C.2.1 hd hne (hk C hD hA hl hP hS hr)

theorem rr_irem {x y : Int32} (hd : decode (z_c Z) pc = .ok (.irem, 1)) (hne : ¬ y = 0) (e : pc + 1 = pc') (hk : rr G Z pc' lv (.int (x - x / y * y) :: st) I J P) : rr G Z pc lv (.int y :: .int x :: st) I J P := by
  subst e
  intro p l e s m args below meth c D ad cA A Qc H locs ls C hD hA hl hP hS hr
  exact lv_irem C.1 C.2.1 hd hne (hk C hD hA hl hP hS hr)

theorem rr_ladd {x y : Int64} (hd : decode (z_c Z) pc = .ok (.ladd, 1)) (e : pc + 1 = pc') (hk : rr G Z pc' lv (.long (x + y) :: st) I J P) : rr G Z pc lv (.long y :: .long x :: st) I J P := by
  subst e
  intro p l e s m args below meth c D ad cA A Qc H locs ls C hD hA hl hP hS hr
  exact lv_ladd C.1 C.2.1 hd (hk C hD hA hl hP hS hr)

theorem rr_lsub {x y : Int64} (hd : decode (z_c Z) pc = .ok (.lsub, 1)) (e : pc + 1 = pc') (hk : rr G Z pc' lv (.long (x - y) :: st) I J P) : rr G Z pc lv (.long y :: .long x :: st) I J P := by
  subst e
  intro p l e s m args below meth c D ad cA A Qc H locs ls C hD hA hl hP hS hr
  exact lv_lsub C.1 C.2.1 hd (hk C hD hA hl hP hS hr)

theorem rr_lmul {x y : Int64} (hd : decode (z_c Z) pc = .ok (.lmul, 1)) (e : pc + 1 = pc') (hk : rr G Z pc' lv (.long (x * y) :: st) I J P) : rr G Z pc lv (.long y :: .long x :: st) I J P := by
  subst e
  intro p l e s m args below meth c D ad cA A Qc H locs ls C hD hA hl hP hS hr
  exact lv_lmul C.1 C.2.1 hd (hk C hD hA hl hP hS hr)

theorem rr_land {x y : Int64} (hd : decode (z_c Z) pc = .ok (.land, 1)) (e : pc + 1 = pc') (hk : rr G Z pc' lv (.long (x &&& y) :: st) I J P) : rr G Z pc lv (.long y :: .long x :: st) I J P := by
  subst e
  intro p l e s m args below meth c D ad cA A Qc H locs ls C hD hA hl hP hS hr
  exact lv_land C.1 C.2.1 hd (hk C hD hA hl hP hS hr)

theorem rr_lor {x y : Int64} (hd : decode (z_c Z) pc = .ok (.lor, 1)) (e : pc + 1 = pc') (hk : rr G Z pc' lv (.long (x ||| y) :: st) I J P) : rr G Z pc lv (.long y :: .long x :: st) I J P := by
  subst e
  intro p l e s m args below meth c D ad cA A Qc H locs ls C hD hA hl hP hS hr
  exact lv_lor C.1 C.2.1 hd (hk C hD hA hl hP hS hr)

theorem rr_lxor {x y : Int64} (hd : decode (z_c Z) pc = .ok (.lxor, 1)) (e : pc + 1 = pc') (hk : rr G Z pc' lv (.long (x ^^^ y) :: st) I J P) : rr G Z pc lv (.long y :: .long x :: st) I J P := by
  subst e
  intro p l e s m args below meth c D ad cA A Qc H locs ls C hD hA hl hP hS hr
  exact lv_lxor C.1 C.2.1 hd (hk C hD hA hl hP hS hr)

theorem rr_lrem {x y : Int64} (hd : decode (z_c Z) pc = .ok (.lrem, 1)) (hne : ¬ y = 0) (e : pc + 1 = pc') (hk : rr G Z pc' lv (.long (x - x / y * y) :: st) I J P) : rr G Z pc lv (.long y :: .long x :: st) I J P := by
  subst e
  intro p l e s m args below meth c D ad cA A Qc H locs ls C hD hA hl hP hS hr
  exact lv_lrem C.1 C.2.1 hd hne (hk C hD hA hl hP hS hr)

theorem rr_iushr {x y : Int32} (hd : decode (z_c Z) pc = .ok (.iushr, 1)) (e : pc + 1 = pc') (hk : rr G Z pc' lv (.int ((x.toUInt32 >>> (y.toUInt32 &&& Int32.toUInt32 31)).toInt32) :: st) I J P) : rr G Z pc lv (.int y :: .int x :: st) I J P := by
  subst e
  intro p l e s m args below meth c D ad cA A Qc H locs ls C hD hA hl hP hS hr
  exact lv_iushr C.1 C.2.1 hd rfl (hk C hD hA hl hP hS hr)

theorem rr_lushr {x : Int64} {y : Int32} (hd : decode (z_c Z) pc = .ok (.lushr, 1)) (e : pc + 1 = pc') (hk : rr G Z pc' lv (.long ((x.toUInt64 >>> (y.toInt64.toUInt64 &&& Int64.toUInt64 63)).toInt64) :: st) I J P) : rr G Z pc lv (.int y :: .long x :: st) I J P := by
  subst e
  intro p l e s m args below meth c D ad cA A Qc H locs ls C hD hA hl hP hS hr
  exact lv_lushr C.1 C.2.1 hd rfl (hk C hD hA hl hP hS hr)

theorem rr_lshl {x : Int64} {y : Int32} (hd : decode (z_c Z) pc = .ok (.lshl, 1)) (e : pc + 1 = pc') (hk : rr G Z pc' lv (.long (x <<< (y.toInt64 &&& 63)) :: st) I J P) : rr G Z pc lv (.int y :: .long x :: st) I J P := by
  subst e
  intro p l e s m args below meth c D ad cA A Qc H locs ls C hD hA hl hP hS hr
  exact lv_lshl C.1 C.2.1 hd rfl (hk C hD hA hl hP hS hr)

theorem rr_i2l {x : Int32} (hd : decode (z_c Z) pc = .ok (.i2l, 1)) (e : pc + 1 = pc') (hk : rr G Z pc' lv (.long x.toInt64 :: st) I J P) : rr G Z pc lv (.int x :: st) I J P := by
  subst e
  intro p l e s m args below meth c D ad cA A Qc H locs ls C hD hA hl hP hS hr
  exact lv_i2l C.1 C.2.1 hd rfl (hk C hD hA hl hP hS hr)

theorem rr_l2i {x : Int64} (hd : decode (z_c Z) pc = .ok (.l2i, 1)) (e : pc + 1 = pc') (hk : rr G Z pc' lv (.int x.toInt32 :: st) I J P) : rr G Z pc lv (.long x :: st) I J P := by
  subst e
  intro p l e s m args below meth c D ad cA A Qc H locs ls C hD hA hl hP hS hr
  exact lv_l2i C.1 C.2.1 hd rfl (hk C hD hA hl hP hS hr)

theorem rr_lneg {x : Int64} (hd : decode (z_c Z) pc = .ok (.lneg, 1)) (e : pc + 1 = pc') (hk : rr G Z pc' lv (.long (-x) :: st) I J P) : rr G Z pc lv (.long x :: st) I J P := by
  subst e
  intro p l e s m args below meth c D ad cA A Qc H locs ls C hD hA hl hP hS hr
  exact lv_lneg C.1 C.2.1 hd (hk C hD hA hl hP hS hr)

theorem rr_lcmp {x y : Int64} (hd : decode (z_c Z) pc = .ok (.lcmp, 1)) (e : pc + 1 = pc') (hk : rr G Z pc' lv (.int (lg_cmp x y) :: st) I J P) : rr G Z pc lv (.long y :: .long x :: st) I J P := by
  subst e
  intro p l e s m args below meth c D ad cA A Qc H locs ls C hD hA hl hP hS hr
  exact W.lcmp C.1 C.2.1 hd (hk C hD hA hl hP hS hr)

theorem rr_dup {v : Value} (hd : decode (z_c Z) pc = .ok (.dup, 1)) (hv : v.category = 1) (e : pc + 1 = pc') (hk : rr G Z pc' lv (v :: v :: st) I J P) : rr G Z pc lv (v :: st) I J P := by
  subst e
  intro p l e s m args below meth c D ad cA A Qc H locs ls C hD hA hl hP hS hr
  exact lv_dup C.1 C.2.1 hd (by rw [tg_cat]; exact hv) (hk C hD hA hl hP hS hr)

theorem rr_pop {v : Value} (hd : decode (z_c Z) pc = .ok (.pop, 1)) (hv : v.category = 1) (e : pc + 1 = pc') (hk : rr G Z pc' lv (st) I J P) : rr G Z pc lv (v :: st) I J P := by
  subst e
  intro p l e s m args below meth c D ad cA A Qc H locs ls C hD hA hl hP hS hr
  exact lv_pop C.1 C.2.1 hd (by rw [tg_cat]; exact hv) (hk C hD hA hl hP hS hr)

theorem rr_dup2_11 {v w : Value} (hd : decode (z_c Z) pc = .ok (.dup2, 1)) (hv : v.category = 1) (hw : w.category = 1) (e : pc + 1 = pc') (hk : rr G Z pc' lv (v :: w :: v :: w :: st) I J P) : rr G Z pc lv (v :: w :: st) I J P := by
  subst e
  intro p l e s m args below meth c D ad cA A Qc H locs ls C hD hA hl hP hS hr
  exact lv_dup2_11 C.1 C.2.1 hd (by rw [tg_cat]; exact hv) (by rw [tg_cat]; exact hw) (hk C hD hA hl hP hS hr)

theorem rr_dup2_2 {v : Value} (hd : decode (z_c Z) pc = .ok (.dup2, 1)) (hv : v.category = 2) (e : pc + 1 = pc') (hk : rr G Z pc' lv (v :: v :: st) I J P) : rr G Z pc lv (v :: st) I J P := by
  subst e
  intro p l e s m args below meth c D ad cA A Qc H locs ls C hD hA hl hP hS hr
  exact lv_dup2_2 C.1 C.2.1 hd (by rw [tg_cat]; exact hv) (hk C hD hA hl hP hS hr)

theorem rr_if_eq {x : Int32} {off : Int} {tgt : Nat} (hd : decode (z_c Z) pc = .ok (.ifCond .eq off, 3)) (ht : (pc : Int) + off = (tgt : Int)) (e : pc + 3 = pc') (h : (x = 0 → rr G Z tgt lv st I J P) ∧ (¬ x = 0 → rr G Z pc' lv st I J P)) : rr G Z pc lv (.int x :: st) I J P := by
  subst e
  intro p l e s m args below meth c D ad cA A Qc H locs ls C hD hA hl hP hS hr
  exact lv_if_eq C.1 C.2.1 hd ht (fun z => h.1 z C hD hA hl hP hS hr) (fun z => h.2 z C hD hA hl hP hS hr)

theorem rr_icmp_eq {x y : Int32} {off : Int} {tgt : Nat} (hd : decode (z_c Z) pc = .ok (.if_icmp .eq off, 3)) (ht : (pc : Int) + off = (tgt : Int)) (e : pc + 3 = pc') (h : (x = y → rr G Z tgt lv st I J P) ∧ (¬ x = y → rr G Z pc' lv st I J P)) : rr G Z pc lv (.int y :: .int x :: st) I J P := by
  subst e
  intro p l e s m args below meth c D ad cA A Qc H locs ls C hD hA hl hP hS hr
  exact lv_icmp_eq C.1 C.2.1 hd ht (fun z => h.1 z C hD hA hl hP hS hr) (fun z => h.2 z C hD hA hl hP hS hr)

theorem rr_if_ne {x : Int32} {off : Int} {tgt : Nat} (hd : decode (z_c Z) pc = .ok (.ifCond .ne off, 3)) (ht : (pc : Int) + off = (tgt : Int)) (e : pc + 3 = pc') (h : (¬ x = 0 → rr G Z tgt lv st I J P) ∧ (x = 0 → rr G Z pc' lv st I J P)) : rr G Z pc lv (.int x :: st) I J P := by
  subst e
  intro p l e s m args below meth c D ad cA A Qc H locs ls C hD hA hl hP hS hr
  exact lv_if_ne C.1 C.2.1 hd ht (fun z => h.1 z C hD hA hl hP hS hr) (fun z => h.2 z C hD hA hl hP hS hr)

theorem rr_icmp_ne {x y : Int32} {off : Int} {tgt : Nat} (hd : decode (z_c Z) pc = .ok (.if_icmp .ne off, 3)) (ht : (pc : Int) + off = (tgt : Int)) (e : pc + 3 = pc') (h : (¬ x = y → rr G Z tgt lv st I J P) ∧ (x = y → rr G Z pc' lv st I J P)) : rr G Z pc lv (.int y :: .int x :: st) I J P := by
  subst e
  intro p l e s m args below meth c D ad cA A Qc H locs ls C hD hA hl hP hS hr
  exact lv_icmp_ne C.1 C.2.1 hd ht (fun z => h.1 z C hD hA hl hP hS hr) (fun z => h.2 z C hD hA hl hP hS hr)

theorem rr_if_lt {x : Int32} {off : Int} {tgt : Nat} (hd : decode (z_c Z) pc = .ok (.ifCond .lt off, 3)) (ht : (pc : Int) + off = (tgt : Int)) (e : pc + 3 = pc') (h : (x < 0 → rr G Z tgt lv st I J P) ∧ (¬ x < 0 → rr G Z pc' lv st I J P)) : rr G Z pc lv (.int x :: st) I J P := by
  subst e
  intro p l e s m args below meth c D ad cA A Qc H locs ls C hD hA hl hP hS hr
  exact lv_if_lt C.1 C.2.1 hd ht (fun z => h.1 z C hD hA hl hP hS hr) (fun z => h.2 z C hD hA hl hP hS hr)

theorem rr_icmp_lt {x y : Int32} {off : Int} {tgt : Nat} (hd : decode (z_c Z) pc = .ok (.if_icmp .lt off, 3)) (ht : (pc : Int) + off = (tgt : Int)) (e : pc + 3 = pc') (h : (x < y → rr G Z tgt lv st I J P) ∧ (¬ x < y → rr G Z pc' lv st I J P)) : rr G Z pc lv (.int y :: .int x :: st) I J P := by
  subst e
  intro p l e s m args below meth c D ad cA A Qc H locs ls C hD hA hl hP hS hr
  exact lv_icmp_lt C.1 C.2.1 hd ht (fun z => h.1 z C hD hA hl hP hS hr) (fun z => h.2 z C hD hA hl hP hS hr)

theorem rr_if_ge {x : Int32} {off : Int} {tgt : Nat} (hd : decode (z_c Z) pc = .ok (.ifCond .ge off, 3)) (ht : (pc : Int) + off = (tgt : Int)) (e : pc + 3 = pc') (h : (0 ≤ x → rr G Z tgt lv st I J P) ∧ (¬ 0 ≤ x → rr G Z pc' lv st I J P)) : rr G Z pc lv (.int x :: st) I J P := by
  subst e
  intro p l e s m args below meth c D ad cA A Qc H locs ls C hD hA hl hP hS hr
  exact lv_if_ge C.1 C.2.1 hd ht (fun z => h.1 z C hD hA hl hP hS hr) (fun z => h.2 z C hD hA hl hP hS hr)

theorem rr_icmp_ge {x y : Int32} {off : Int} {tgt : Nat} (hd : decode (z_c Z) pc = .ok (.if_icmp .ge off, 3)) (ht : (pc : Int) + off = (tgt : Int)) (e : pc + 3 = pc') (h : (y ≤ x → rr G Z tgt lv st I J P) ∧ (¬ y ≤ x → rr G Z pc' lv st I J P)) : rr G Z pc lv (.int y :: .int x :: st) I J P := by
  subst e
  intro p l e s m args below meth c D ad cA A Qc H locs ls C hD hA hl hP hS hr
  exact lv_icmp_ge C.1 C.2.1 hd ht (fun z => h.1 z C hD hA hl hP hS hr) (fun z => h.2 z C hD hA hl hP hS hr)

theorem rr_if_gt {x : Int32} {off : Int} {tgt : Nat} (hd : decode (z_c Z) pc = .ok (.ifCond .gt off, 3)) (ht : (pc : Int) + off = (tgt : Int)) (e : pc + 3 = pc') (h : (0 < x → rr G Z tgt lv st I J P) ∧ (¬ 0 < x → rr G Z pc' lv st I J P)) : rr G Z pc lv (.int x :: st) I J P := by
  subst e
  intro p l e s m args below meth c D ad cA A Qc H locs ls C hD hA hl hP hS hr
  exact lv_if_gt C.1 C.2.1 hd ht (fun z => h.1 z C hD hA hl hP hS hr) (fun z => h.2 z C hD hA hl hP hS hr)

theorem rr_icmp_gt {x y : Int32} {off : Int} {tgt : Nat} (hd : decode (z_c Z) pc = .ok (.if_icmp .gt off, 3)) (ht : (pc : Int) + off = (tgt : Int)) (e : pc + 3 = pc') (h : (y < x → rr G Z tgt lv st I J P) ∧ (¬ y < x → rr G Z pc' lv st I J P)) : rr G Z pc lv (.int y :: .int x :: st) I J P := by
  subst e
  intro p l e s m args below meth c D ad cA A Qc H locs ls C hD hA hl hP hS hr
  exact lv_icmp_gt C.1 C.2.1 hd ht (fun z => h.1 z C hD hA hl hP hS hr) (fun z => h.2 z C hD hA hl hP hS hr)

theorem rr_if_le {x : Int32} {off : Int} {tgt : Nat} (hd : decode (z_c Z) pc = .ok (.ifCond .le off, 3)) (ht : (pc : Int) + off = (tgt : Int)) (e : pc + 3 = pc') (h : (x ≤ 0 → rr G Z tgt lv st I J P) ∧ (¬ x ≤ 0 → rr G Z pc' lv st I J P)) : rr G Z pc lv (.int x :: st) I J P := by
  subst e
  intro p l e s m args below meth c D ad cA A Qc H locs ls C hD hA hl hP hS hr
  exact lv_if_le C.1 C.2.1 hd ht (fun z => h.1 z C hD hA hl hP hS hr) (fun z => h.2 z C hD hA hl hP hS hr)

theorem rr_icmp_le {x y : Int32} {off : Int} {tgt : Nat} (hd : decode (z_c Z) pc = .ok (.if_icmp .le off, 3)) (ht : (pc : Int) + off = (tgt : Int)) (e : pc + 3 = pc') (h : (x ≤ y → rr G Z tgt lv st I J P) ∧ (¬ x ≤ y → rr G Z pc' lv st I J P)) : rr G Z pc lv (.int y :: .int x :: st) I J P := by
  subst e
  intro p l e s m args below meth c D ad cA A Qc H locs ls C hD hA hl hP hS hr
  exact lv_icmp_le C.1 C.2.1 hd ht (fun z => h.1 z C hD hA hl hP hS hr) (fun z => h.2 z C hD hA hl hP hS hr)

theorem rr_goto {off : Int} {tgt : Nat} (hd : decode (z_c Z) pc = .ok (.goto off, 3)) (ht : (pc : Int) + off = (tgt : Int)) (hk : rr G Z tgt lv st I J P) : rr G Z pc lv st I J P := by
  intro p l e s m args below meth c D ad cA A Qc H locs ls C hD hA hl hP hS hr
  exact lv_goto C.1 C.2.1 hd ht (hk C hD hA hl hP hS hr)

theorem rr_tableIn {dflt lo hi : Int} {offs : Array Int} {len : Nat} {x : Int32} {off : Int} {tgt : Nat} (hd : decode (z_c Z) pc = .ok (.tableswitch dflt lo hi offs, len)) (h1 : ¬ x.toInt < lo) (h2 : ¬ hi < x.toInt) (ho : offs[(x.toInt - lo).toNat]? = some off) (ht : (pc : Int) + off = (tgt : Int)) (hk : rr G Z tgt lv st I J P) : rr G Z pc lv (.int x :: st) I J P := by
  intro p l e s m args below meth c D ad cA A Qc H locs ls C hD hA hl hP hS hr
  exact lv_tableIn C.1 C.2.1 hd h1 h2 ho ht (hk C hD hA hl hP hS hr)

theorem rr_tableOut {dflt lo hi : Int} {offs : Array Int} {len : Nat} {x : Int32} {tgt : Nat} (hd : decode (z_c Z) pc = .ok (.tableswitch dflt lo hi offs, len)) (h : x.toInt < lo ∨ hi < x.toInt) (ht : (pc : Int) + dflt = (tgt : Int)) (hk : rr G Z tgt lv st I J P) : rr G Z pc lv (.int x :: st) I J P := by
  intro p l e s m args below meth c D ad cA A Qc H locs ls C hD hA hl hP hS hr
  exact lv_tableOut C.1 C.2.1 hd h ht (hk C hD hA hl hP hS hr)

theorem rr_iret {x : Int32} (hd : decode (z_c Z) pc = .ok (.ireturn, 1)) (ht : z_r Z = some .int) (hk : P (some (.int x)) I J) : rr G Z pc lv [.int x] I J P := by
  intro p l e s m args below meth c D ad cA A Qc H locs ls C hD hA hl hP hS hr
  exact W.iret (v := x) C.1 C.2.1 (C.2.2.1.trans ht) (fun t h1 h2 => hr (some (.int x)) I J H locs t hk hP hS h1 h2) hS.2.2 hd C.2.2.2.2.2.2.1

theorem rr_zret {x : Int32} (hd : decode (z_c Z) pc = .ok (.ireturn, 1)) (ht : z_r Z = some .boolean) (hn : narrow .boolean (.int x) = .int x) (hk : P (some (.int x)) I J) : rr G Z pc lv [.int x] I J P := by
  intro p l e s m args below meth c D ad cA A Qc H locs ls C hD hA hl hP hS hr
  exact W.zret (v := x) C.1 C.2.1 (C.2.2.1.trans ht) hn (fun t h1 h2 => hr (some (.int x)) I J H locs t hk hP hS h1 h2) hS.2.2 hd C.2.2.2.2.2.2.1

theorem rr_lret {x : Int64} (hd : decode (z_c Z) pc = .ok (.lreturn, 1)) (ht : z_r Z = some .long) (hk : P (some (.long x)) I J) : rr G Z pc lv [.long x] I J P := by
  intro p l e s m args below meth c D ad cA A Qc H locs ls C hD hA hl hP hS hr
  exact W.lret (v := x) C.1 C.2.1 (C.2.2.1.trans ht) (fun t h1 h2 => hr (some (.long x)) I J H locs t hk hP hS h1 h2) hS.2.2 hd C.2.2.2.2.2.2.1

theorem rr_vret (hd : decode (z_c Z) pc = .ok (.return_, 1)) (ht : z_r Z = none) (hk : P none I J) : rr G Z pc lv [] I J P := by
  intro p l e s m args below meth c D ad cA A Qc H locs ls C hD hA hl hP hS hr
  exact W.vret C.1 C.2.1 (C.2.2.1.trans ht) (fun t h1 h2 => hr none I J H locs t hk hP hS h1 h2) hS.2.2 hd C.2.2.2.2.2.2.1

/-- a field's link: own class, place in its pool, number of the field's class, the field's place -/
def fOK (own : String) (idx ci j : Nat) : Prop := ∃ (C : String) (T : u_T) (n : Nat), vwCl[ci]? = some (C, T, n) ∧ j < n ∧ (∀ w ∈ u_ws C T n, w ∈ gt_tbl) ∧ Cond.fieldLink own idx (T j).1 (T j).2.1 (T j).2.2.1 ∈ gt_tbl
def fPut (own : String) (idx ci j : Nat) (ty : FieldType) : Prop := ∃ (C : String) (T : u_T) (n : Nat) (ty0 : Nat → FieldType), vwCl[ci]? = some (C, T, n) ∧ j < n ∧ (∀ w ∈ u_ws C T n, w ∈ gt_tbl) ∧ Cond.fieldLink own idx (T j).1 (T j).2.1 (T j).2.2.1 ∈ gt_tbl ∧ (∀ k, k < n → parseFieldDescriptor (T k).2.2.1 = some (ty0 k)) ∧ (∀ a, a < n → ∀ b, b < n → a ≠ b → (T a).2.1 ≠ (T b).2.1) ∧ (T j).2.2.2 = false ∧ parseFieldDescriptor (T j).2.2.1 = some ty
theorem tg_obj {ad : Nat → Nat} {cA : Nat → ClassId} {I : tg_I} {J : tg_J} {k ci : Nat} {fk : List (Nat × Nat)} (hk : k < G.2) (hs : G.1 k = .inr (ci, fk)) : (tg_W ad cA G I J)[k]? = some (ad k, .inr (ci, tg_fs ad I J k fk)) := by
  rw [tg_get hk]
  simp only [tg_e, hs]
theorem rr_get {idx k ci j : Nat} {fk : List (Nat × Nat)} {q : Nat × Nat} {v : Value} (hd : decode (z_c Z) pc = .ok (.getfield idx, 3)) (hf : fOK (z_y Z).cls idx ci j) (hk : k < G.2) (hs : G.1 k = .inr (ci, fk)) (hj : fk[j]? = some q) (hv : ∀ ad, tg_fv ad I J k j q = tg_v ad v) (e : pc + 3 = pc') (hk2 : rr G Z pc' lv (v :: st) I J P) : rr G Z pc lv (.ref k :: st) I J P := by
  subst e
  intro p l e s m args below meth c D ad cA A Qc H locs ls C hD hA hl hP hS hr
  obtain ⟨Cn, T, n, h1, h2, h3, h4⟩ := hf
  exact va_get (v := tg_v ad v) C.1 C.2.1 C.2.2.2.2.2.1 h3 C.2.2.2.2.1 C.2.2.2.2.2.2.2 hP k (tg_obj hk hs) h1 j h2 (C.2.2.2.2.2.1 _ h4) (fun _ h => h) (by rw [← hv]; exact tg_fs_get hj) hd (hk2 C hD hA hl hP hS hr)
theorem rr_put {idx k ci j : Nat} {fk : List (Nat × Nat)} {q : Nat × Nat} {v : Value} {ty : FieldType} {I' : tg_I} {J' : tg_J} (hd : decode (z_c Z) pc = .ok (.putfield idx, 3)) (hf : fPut (z_y Z).cls idx ci j ty) (hk : k < G.2) (hs : G.1 k = .inr (ci, fk)) (hj : fk[j]? = some q) (hv : ∀ ad, tg_fv ad I' J' k j q = tg_v ad v) (hn : ∀ ad, narrow ty (tg_v ad v) = tg_v ad v ∧ fits ty (tg_v ad v) = true) (ho : ∀ b, b ≠ j → I' k b = I k b ∧ J' k b = J k b) (hoo : ∀ i, i ≠ k → I' i = I i ∧ J' i = J i) (e : pc + 3 = pc') (hk2 : rr G Z pc' lv st I' J' P) : rr G Z pc lv (v :: .ref k :: st) I J P := by
  subst e
  intro p l e s m args below meth c D ad cA A Qc H locs ls C hD hA hl hP hS hr
  obtain ⟨Cn, T, n, ty0, h1, h2, h3, h4, h5, h6, h7, h8⟩ := hf
  have hlen : j < fk.length := (List.getElem?_eq_some_iff.mp hj).1
  refine va_put (v := tg_v ad v) (ty := ty) C.1 C.2.1 C.2.2.2.2.2.1 h3 ty0 h5 h6 C.2.2.2.2.1 C.2.2.2.2.2.2.2 hP (tg_vaD hD) hS k (tg_obj hk hs) h1 j h2 (C.2.2.2.2.2.1 _ h4) (fun _ h => h) h7 h8 (hn ad).1 (hn ad).2 (by rw [tg_fs_len]; exact hlen) hd (fun H1 locs1 hP1 hD1 hS1 => ?_)
  refine hk2 C hD hA hl ?_ hS1 hr
  have e1 : (tg_fs ad I J k fk).set j (tg_v ad v) = tg_fs ad I' J' k fk := by
    rw [← hv ad]
    exact tg_fs_set hj ho
  rw [e1] at hP1
  have e2 : (Sum.inr (ci, tg_fs ad I' J' k fk) : va_E) = tg_e ad cA G I' J' k := by simp only [tg_e, hs]
  rw [e2, tg_set hk] at hP1
  · exact hP1
  · intro i hi
    obtain ⟨a1, a2⟩ := hoo i hi
    have h9 : ∀ fk, tg_fs ad I' J' i fk = tg_fs ad I J i fk := by
      intro fk
      unfold tg_fs tg_fv
      simp only [a1, a2]
    unfold tg_e
    simp only [a1, a2, h9]
theorem rr_getI {idx k ci j z : Nat} {fk : List (Nat × Nat)} (hd : decode (z_c Z) pc = .ok (.getfield idx, 3)) (hf : fOK (z_y Z).cls idx ci j) (hk : k < G.2) (hs : G.1 k = .inr (ci, fk)) (hj : fk[j]? = some (0, z)) (e : pc + 3 = pc') (hk2 : rr G Z pc' lv (.int (I k j) :: st) I J P) : rr G Z pc lv (.ref k :: st) I J P := rr_get hd hf hk hs hj (fun _ => rfl) e hk2
theorem rr_getJ {idx k ci j z : Nat} {fk : List (Nat × Nat)} (hd : decode (z_c Z) pc = .ok (.getfield idx, 3)) (hf : fOK (z_y Z).cls idx ci j) (hk : k < G.2) (hs : G.1 k = .inr (ci, fk)) (hj : fk[j]? = some (1, z)) (e : pc + 3 = pc') (hk2 : rr G Z pc' lv (.long (J k j) :: st) I J P) : rr G Z pc lv (.ref k :: st) I J P := rr_get hd hf hk hs hj (fun _ => rfl) e hk2
theorem rr_getR {idx k ci j z : Nat} {fk : List (Nat × Nat)} (hd : decode (z_c Z) pc = .ok (.getfield idx, 3)) (hf : fOK (z_y Z).cls idx ci j) (hk : k < G.2) (hs : G.1 k = .inr (ci, fk)) (hj : fk[j]? = some (2, z)) (e : pc + 3 = pc') (hk2 : rr G Z pc' lv (.ref z :: st) I J P) : rr G Z pc lv (.ref k :: st) I J P := rr_get hd hf hk hs hj (fun _ => rfl) e hk2
theorem rr_getV {idx k ci j z b : Nat} {fk : List (Nat × Nat)} (hd : decode (z_c Z) pc = .ok (.getfield idx, 3)) (hf : fOK (z_y Z).cls idx ci j) (hk : k < G.2) (hs : G.1 k = .inr (ci, fk)) (hj : fk[j]? = some (3, z)) (hb : (I k j).toNatClampNeg = b) (e : pc + 3 = pc') (hk2 : rr G Z pc' lv (.ref b :: st) I J P) : rr G Z pc lv (.ref k :: st) I J P := rr_get hd hf hk hs hj (fun ad => by show Value.ref (ad (I k j).toNatClampNeg) = _; rw [hb]; rfl) e hk2
theorem u2_ne1 {α : Type} (f : Nat → Nat → α) (k j : Nat) (v : α) {b : Nat} (h : b ≠ j) : u2 f k j v k b = f k b := by simp [u2, h]
theorem u2_eq {α : Type} (f : Nat → Nat → α) (k j : Nat) (v : α) : u2 f k j v k j = v := by simp [u2]
theorem rr_putI {idx k ci j z : Nat} {fk : List (Nat × Nat)} {x : Int32} (hd : decode (z_c Z) pc = .ok (.putfield idx, 3)) (hf : fPut (z_y Z).cls idx ci j .int) (hk : k < G.2) (hs : G.1 k = .inr (ci, fk)) (hj : fk[j]? = some (0, z)) (e : pc + 3 = pc') (hk2 : rr G Z pc' lv st (u2 I k j x) J P) : rr G Z pc lv (.int x :: .ref k :: st) I J P := rr_put hd hf hk hs hj (fun _ => by show Value.int (u2 I k j x k j) = _; rw [u2_eq]; rfl) (fun _ => ⟨rfl, rfl⟩) (fun b hb => ⟨u2_ne1 I k j x hb, rfl⟩) (fun i hi => ⟨u2_other I k j x hi, rfl⟩) e hk2
theorem rr_putZ {idx k ci j z : Nat} {fk : List (Nat × Nat)} {x : Int32} (hd : decode (z_c Z) pc = .ok (.putfield idx, 3)) (hf : fPut (z_y Z).cls idx ci j .boolean) (hk : k < G.2) (hs : G.1 k = .inr (ci, fk)) (hj : fk[j]? = some (0, z)) (hn : narrow .boolean (.int x) = .int x ∧ fits .boolean (.int x) = true) (e : pc + 3 = pc') (hk2 : rr G Z pc' lv st (u2 I k j x) J P) : rr G Z pc lv (.int x :: .ref k :: st) I J P := rr_put (v := .int x) hd hf hk hs hj (fun _ => by show Value.int (u2 I k j x k j) = _; rw [u2_eq]; rfl) (fun _ => hn) (fun b hb => ⟨u2_ne1 I k j x hb, rfl⟩) (fun i hi => ⟨u2_other I k j x hi, rfl⟩) e hk2
theorem rr_putJ {idx k ci j z : Nat} {fk : List (Nat × Nat)} {x : Int64} (hd : decode (z_c Z) pc = .ok (.putfield idx, 3)) (hf : fPut (z_y Z).cls idx ci j .long) (hk : k < G.2) (hs : G.1 k = .inr (ci, fk)) (hj : fk[j]? = some (1, z)) (e : pc + 3 = pc') (hk2 : rr G Z pc' lv st I (u2 J k j x) P) : rr G Z pc lv (.long x :: .ref k :: st) I J P := rr_put hd hf hk hs hj (fun _ => by show Value.long (u2 J k j x k j) = _; rw [u2_eq]; rfl) (fun _ => ⟨rfl, rfl⟩) (fun b hb => ⟨rfl, u2_ne1 J k j x hb⟩) (fun i hi => ⟨rfl, u2_other J k j x hi⟩) e hk2
theorem rr_putV {idx k ci j z b : Nat} {Cn : String} {fk : List (Nat × Nat)} (hd : decode (z_c Z) pc = .ok (.putfield idx, 3)) (hf : fPut (z_y Z).cls idx ci j (.object Cn)) (hk : k < G.2) (hs : G.1 k = .inr (ci, fk)) (hj : fk[j]? = some (3, z)) (hb : b < 2 ^ 31) (e : pc + 3 = pc') (hk2 : rr G Z pc' lv st (u2 I k j (nI b)) J P) : rr G Z pc lv (.ref b :: .ref k :: st) I J P := rr_put hd hf hk hs hj (fun ad => by show Value.ref (ad (u2 I k j (nI b) k j).toNatClampNeg) = _; rw [u2_eq, nI_clamp hb]; rfl) (fun _ => ⟨rfl, rfl⟩) (fun c hc => ⟨u2_ne1 I k j (nI b) hc, rfl⟩) (fun i hi => ⟨u2_other I k j (nI b) hi, rfl⟩) e hk2
/- arrays -/
theorem tg_arrI {ad : Nat → Nat} {cA : Nat → ClassId} {I : tg_I} {J : tg_J} {k n : Nat} (hk : k < G.2) (hs : G.1 k = .inl (0, n)) : (tg_W ad cA G I J)[k]? = some (ad k, .inl (cA 0, n, .inl (I k))) := by
  rw [tg_get hk]
  simp only [tg_e, hs]
theorem tg_arrZ {ad : Nat → Nat} {cA : Nat → ClassId} {I : tg_I} {J : tg_J} {k n : Nat} (hk : k < G.2) (hs : G.1 k = .inl (1, n)) : (tg_W ad cA G I J)[k]? = some (ad k, .inl (cA 1, n, .inl (I k))) := by
  rw [tg_get hk]
  simp only [tg_e, hs]
theorem tg_arrJ {ad : Nat → Nat} {cA : Nat → ClassId} {I : tg_I} {J : tg_J} {k n : Nat} (hk : k < G.2) (hs : G.1 k = .inl (2, n)) : (tg_W ad cA G I J)[k]? = some (ad k, .inl (cA 2, n, .inr (.inl (J k)))) := by
  rw [tg_get hk]
  simp only [tg_e, hs]
theorem rr_iald {k n : Nat} {i : Int32} (hd : decode (z_c Z) pc = .ok (.iaload, 1)) (hk : k < G.2) (hs : G.1 k = .inl (0, n)) (e : pc + 1 = pc') (h : vp_in i n ∧ rr G Z pc' lv (.int (I k i.toNatClampNeg) :: st) I J P) : rr G Z pc lv (.int i :: .ref k :: st) I J P := by
  subst e
  intro p l e s m args below meth c D ad cA A Qc H locs ls C hD hA hl hP hS hr
  exact va_iald C.1 C.2.1 C.2.2.2.2.2.2.2 hP k 0 (tg_arrI hk hs) rfl h.1 hd (h.2 C hD hA hl hP hS hr)
theorem rr_zald {k n : Nat} {i : Int32} (hd : decode (z_c Z) pc = .ok (.baload, 1)) (hk : k < G.2) (hs : G.1 k = .inl (1, n)) (e : pc + 1 = pc') (h : vp_in i n ∧ rr G Z pc' lv (.int (I k i.toNatClampNeg) :: st) I J P) : rr G Z pc lv (.int i :: .ref k :: st) I J P := by
  subst e
  intro p l e s m args below meth c D ad cA A Qc H locs ls C hD hA hl hP hS hr
  exact va_zald C.1 C.2.1 C.2.2.2.2.2.2.2 hP k 1 (tg_arrZ hk hs) rfl h.1 hd (h.2 C hD hA hl hP hS hr)
theorem rr_lald {k n : Nat} {i : Int32} (hd : decode (z_c Z) pc = .ok (.laload, 1)) (hk : k < G.2) (hs : G.1 k = .inl (2, n)) (e : pc + 1 = pc') (h : vp_in i n ∧ rr G Z pc' lv (.long (J k i.toNatClampNeg) :: st) I J P) : rr G Z pc lv (.int i :: .ref k :: st) I J P := by
  subst e
  intro p l e s m args below meth c D ad cA A Qc H locs ls C hD hA hl hP hS hr
  exact va_lald C.1 C.2.1 C.2.2.2.2.2.2.2 hP k 2 (tg_arrJ hk hs) rfl h.1 hd (h.2 C hD hA hl hP hS hr)
theorem rr_iast {k n : Nat} {i x : Int32} (hd : decode (z_c Z) pc = .ok (.iastore, 1)) (hk : k < G.2) (hs : G.1 k = .inl (0, n)) (e : pc + 1 = pc') (h : vp_in i n ∧ rr G Z pc' lv st (u2 I k i.toNatClampNeg x) J P) : rr G Z pc lv (.int x :: .int i :: .ref k :: st) I J P := by
  subst e
  intro p l e s m args below meth c D ad cA A Qc H locs ls C hD hA hl hP hS hr
  refine va_iast C.1 C.2.1 C.2.2.2.2.2.2.2 hP (tg_vaD hD) hS k 0 (tg_arrI hk hs) rfl h.1 hd (fun H1 locs1 hP1 hD1 hS1 => ?_)
  refine h.2 C hD hA hl ?_ hS1 hr
  have e2 : (Sum.inl (cA 0, n, Sum.inl (upd (I k) i.toNatClampNeg x)) : va_E) = tg_e ad cA G (u2 I k i.toNatClampNeg x) J k := by
    simp only [tg_e, hs, u2_same]
    rfl
  rw [e2, tg_set hk tg_e_otherI] at hP1
  exact hP1
theorem rr_zast {k n : Nat} {i x : Int32} (hd : decode (z_c Z) pc = .ok (.bastore, 1)) (hk : k < G.2) (hs : G.1 k = .inl (1, n)) (e : pc + 1 = pc') (h : vp_in i n ∧ rr G Z pc' lv st (u2 I k i.toNatClampNeg (vp_nar .boolean x)) J P) : rr G Z pc lv (.int x :: .int i :: .ref k :: st) I J P := by
  subst e
  intro p l e s m args below meth c D ad cA A Qc H locs ls C hD hA hl hP hS hr
  refine va_zast C.1 C.2.1 C.2.2.2.2.2.2.2 hP (tg_vaD hD) hS k 1 (tg_arrZ hk hs) rfl h.1 hd (fun H1 locs1 hP1 hD1 hS1 => ?_)
  refine h.2 C hD hA hl ?_ hS1 hr
  have e2 : (Sum.inl (cA 1, n, Sum.inl (upd (I k) i.toNatClampNeg (vp_nar .boolean x))) : va_E) = tg_e ad cA G (u2 I k i.toNatClampNeg (vp_nar .boolean x)) J k := by
    simp only [tg_e, hs, u2_same]
    rfl
  rw [e2, tg_set hk tg_e_otherI] at hP1
  exact hP1
theorem rr_last {k n : Nat} {i : Int32} {x : Int64} (hd : decode (z_c Z) pc = .ok (.lastore, 1)) (hk : k < G.2) (hs : G.1 k = .inl (2, n)) (e : pc + 1 = pc') (h : vp_in i n ∧ rr G Z pc' lv st I (u2 J k i.toNatClampNeg x) P) : rr G Z pc lv (.long x :: .int i :: .ref k :: st) I J P := by
  subst e
  intro p l e s m args below meth c D ad cA A Qc H locs ls C hD hA hl hP hS hr
  refine va_last C.1 C.2.1 C.2.2.2.2.2.2.2 hP (tg_vaD hD) hS k 2 (tg_arrJ hk hs) rfl h.1 hd (fun H1 locs1 hP1 hD1 hS1 => ?_)
  refine h.2 C hD hA hl ?_ hS1 hr
  have e2 : (Sum.inl (cA 2, n, Sum.inr (Sum.inl (vp_updL (J k) i.toNatClampNeg x))) : va_E) = tg_e ad cA G I (u2 J k i.toNatClampNeg x) k := by
    simp only [tg_e, hs, u2_same]
    rfl
  rw [e2, tg_set hk tg_e_otherJ] at hP1
  exact hP1
theorem rr_alenJ {k n : Nat} {v : Int32} (hd : decode (z_c Z) pc = .ok (.arraylength, 1)) (hk : k < G.2) (hs : G.1 k = .inl (2, n)) (hv : Int32.ofNat n = v) (e : pc + 1 = pc') (h : rr G Z pc' lv (.int v :: st) I J P) : rr G Z pc lv (.ref k :: st) I J P := by
  subst e
  intro p l e s m args below meth c D ad cA A Qc H locs ls C hD hA hl hP hS hr
  exact va_alen C.1 C.2.1 C.2.2.2.2.2.2.2 hP k 2 (tg_arrJ hk hs) (ty := .long) rfl hv hd (h C hD hA hl hP hS hr)
end RR


/-! calls -/
def zOK (Z : zM) : Prop := plainName (z_y Z).cls = true ∧ (z_y Z).cls ≠ "java/lang/invoke/MethodHandle" ∧ (z_y Z).cls ≠ "java/lang/invoke/VarHandle" ∧ Cond.code (z_y Z) (z_c Z) (z_n Z) (z_r Z) ∈ gt_tbl ∧ Cond.initialized (z_y Z).cls ∈ gt_tbl
def zV (Z : zM) (n ci : Nat) : Prop := zOK Z ∧ (parseMethodDescriptor (z_y Z).desc).map (fun d => d.parameters.length) = some n ∧ Cond.instanceMethod (z_y Z) ∈ gt_tbl ∧ Cond.selects (z_y Z).cls (z_y Z) (z_y Z) ∈ gt_tbl ∧ ∃ q : vw_C, vwCl[ci]? = some q ∧ q.1 = (z_y Z).cls
def zS (Z : zM) (n : Nat) : Prop := zOK Z ∧ (parseMethodDescriptor (z_y Z).desc).map (fun d => d.parameters.length) = some n ∧ Cond.static (z_y Z) ∈ gt_tbl
theorem z_goodIn {Z : zM} (h : zOK Z) : GoodIn gt_tbl (z_w Z) := by
  intro w hw
  rcases List.mem_cons.mp hw with rfl | hw
  · exact gt_good _ h.2.2.2.1
  · exact gt_good _ hw
theorem tg_blind {G : tg_G} {D : va_G} {ad : Nat → Nat} {cA : Nat → ClassId} {sz : Nat} {av : List Value} {I : tg_I} {J : tg_J} : FrameBlind (tg_Pc G D ad cA sz av I J) := by
  intro a U g mk q
  obtain ⟨q0, q1, q2, q3, q4⟩ := q
  exact ⟨q0, q1, q2, q3, va_K.moved (u := U) (U := U.calling g mk a) (Vm.Alike.refl U.vm) q4⟩
theorem tg_after {p : Program} {l : Launch} {e : Env} {R : Room} {s : State} {m : MethodId} {args : Array Value} {below : List Frame} {meth : Method} {c : Code} {H H0 : Heap} {locs : List Loc} {cells slots : Nat} {Q : State → Prop} {G : tg_G} {D : va_G} {ad : Nat → Nat} {cA : Nat → ClassId} {P' : Option Value → tg_I → tg_J → Prop} {pc : Nat} {ls : Array Slot} {st0 rest : List Value} {a : Array Value} {A0 free : Nat → Prop}
    (hr : va_Run p l e R s m args below meth c H locs cells slots 0 0 (F0 m pc ls st0) rest (tg_Q G D ad cA H.size P' a) free) (hS : va_S A0 H0 H locs) (hf : ∀ q, free q → A0 q) (hA : ∀ q, q < H.size → tg_A ad G.2 H.size q → A0 q)
    (kk : ∀ (v : Option Value) (I' : tg_I) (J' : tg_J) (H1 : Heap) (locs1 : List Loc), P' v I' J' → va_P D vwCl (tg_W ad cA G I' J') H1 → va_S A0 H0 H1 locs1 → H.size ≤ H1.size → (∀ q : Nat, q < H.size → ¬ tg_A ad G.2 H.size q → H1[q]? = H[q]?) → W p l e R s m args below meth c H1 locs1 cells slots Q (F0 m (pc + 3) ls ((v.map (tg_v ad)).toList ++ rest))) : W p l e R s m args below meth c H locs cells slots Q (F0 m pc ls st0) := by
  intro T hT X
  obtain ⟨v, st₀, t, T', L, h0, X', hL, e1, e2, ⟨⟨v', I', J', hv, hp, hb⟩, hz, hk⟩, st⟩ := hr T hT X
  have hv' : v = v'.map (tg_v ad) := by injection hv
  subst hv'
  rw [h0] at hz hk
  obtain ⟨t2, a1, b1⟩ := kk v' I' J' T'.heap (locs ++ L) hp (by rw [e1]; exact hb)
    ⟨Nat.le_trans hS.1 (by rw [e1]; exact hz), fun q h1 h2 => by rw [e1, hk q (Nat.lt_of_lt_of_le h1 hS.1) (fun z => h2 (hA q (Nat.lt_of_lt_of_le h1 hS.1) z))]; exact hS.2.1 q h1 h2, fun q hq => by
      rcases List.mem_append.mp hq with h | h
      · exact hS.2.2 q h
      · exact hf _ (hL q h)⟩ (by rw [e1]; exact hz) (fun q h1 h2 => by rw [e1]; exact hk q h1 h2) T' rfl X'
  exact ⟨t2, st t2 a1, b1⟩
theorem tg_pre {G : tg_G} {D : va_G} {ad : Nat → Nat} {cA : Nat → ClassId} {av : List Value} {I : tg_I} {J : tg_J} {s : State} {H : Heap} (hinj : ∀ i j, i < G.2 → j < G.2 → ad i = ad j → i = j) (hP : va_P D vwCl (tg_W ad cA G I J) H) (hK : va_K D vwCl (tg_ty cA) s) : ∀ U : State, U.heap = H → s.WarmedH U.vm → tg_Pc G D ad cA H.size av I J (av.map (tg_v ad)).toArray U := by
  intro U hU hW
  exact ⟨rfl, by rw [hU], hinj, by rw [hU]; exact hP, va_K.moved hW.alike hK⟩
section CC
variable {G : tg_G} {Z Z' : zM} {pc pc' : Nat} {lv : List (Nat × Value)} {st : List Value} {I : tg_I} {J : tg_J} {P : Option Value → tg_I → tg_J → Prop}
theorem rr_V {idx k ci n : Nat} {fk : List (Nat × Nat)} (As : List Value) (rest : List Value) (hd : decode (z_c Z) pc = .ok (.invokevirtual idx, 3)) (hz : zV Z' n ci) (hm : Cond.methodLink (z_y Z).cls idx (z_y Z') ∈ gt_tbl) (hR : z_f Z' + 1 ≤ z_f Z ∧ 8 + (z_n Z' + 11) + z_l Z' ≤ z_l Z) (hk : k < G.2) (hs : G.1 k = .inr (ci, fk)) (hn : As.length = n) (hst : As.reverse ++ .ref k :: rest = st) (hw : (rest.map fun v => v.category).sum ≤ 8) (e : pc + 3 = pc') (h : call G Z' (.ref k :: As) I J (fun v I' J' => rr G Z pc' lv (v.toList ++ rest) I' J' P)) : rr G Z pc lv st I J P := by
  subst e
  subst hst
  intro p l e s m args below meth c D ad cA A Qc H locs ls C hD hA hl hP hS hr
  obtain ⟨C1, C2, C3, C4, C5, C6, C7, C8⟩ := id C
  obtain ⟨h0, h1, h2, h3, q, h4, h5⟩ := hz
  have hF : ∀ x, tg_A ad G.2 H.size x → A x := by
    intro x hx
    rcases hx with ⟨i, hi, rfl⟩ | hx
    · exact hD.2 i hi
    · exact hA x (Nat.le_trans hS.1 hx)
  have cw : CallW (z_R Z) s args (z_y Z).cls (z_y Z').cls idx (z_y Z') (z_c Z') (z_n Z') (z_r Z') (z_w Z') (z_R Z') 0 0 n :=
    ⟨callB_of n C6 (z_goodIn h0) rfl rfl rfl (C6 _ h0.2.2.2.2) (C6 _ hm) ⟨h0.2.1, h0.2.2.1, h1⟩ hR, C6 _ h2, C6 _ h3⟩
  have hpre : PreV s H (z_y Z').cls (ad k) (tg_Pc G D ad cA H.size (.ref k :: As) I J) (As.map (tg_v ad)) := by
    refine ⟨tg_blind, ?_, tg_pre (av := .ref k :: As) hD.1 hP C8⟩
    rw [← h5]
    exact va_recv C8 hP h4 (tg_obj hk hs)
  refine tg_after (a := (Value.ref (ad k) :: As.map (tg_v ad)).toArray) (rest := rest.map (tg_v ad)) (va_runV (As := As.map (tg_v ad)) ⟨C1, C2, C4, C5, C6⟩ (h l D ad cA H.size) cw hpre rfl (by rw [List.length_map]; exact hn) hl.1 (by simp [tg_v]) (lv_room (by rw [tg_sum]; exact hw)) hd ⟨Nat.le_refl _, Nat.le_refl _⟩) hS hF (fun x _ hx => hF x hx) ?_
  intro v I' J' H1 locs1 hp hP1 hS1 _ _
  have hx := hp C hD hA hl hP1 hS1 hr (p := p) (l := l) (e := e) (below := below)
  cases v <;> exact hx
theorem rr_S {idx n : Nat} (As : List Value) (rest : List Value) (hd : decode (z_c Z) pc = .ok (.invokestatic idx, 3)) (hz : zS Z' n) (hm : Cond.methodLink (z_y Z).cls idx (z_y Z') ∈ gt_tbl) (hR : z_f Z' + 1 ≤ z_f Z ∧ 8 + (z_n Z' + 11) + z_l Z' ≤ z_l Z) (hn : As.length = n) (hst : As.reverse ++ rest = st) (hw : (rest.map fun v => v.category).sum ≤ 8) (e : pc + 3 = pc') (h : call G Z' As I J (fun v I' J' => rr G Z pc' lv (v.toList ++ rest) I' J' P)) : rr G Z pc lv st I J P := by
  subst e
  subst hst
  intro p l e s m args below meth c D ad cA A Qc H locs ls C hD hA hl hP hS hr
  obtain ⟨C1, C2, C3, C4, C5, C6, C7, C8⟩ := id C
  obtain ⟨h0, h1, h2⟩ := hz
  have hF : ∀ x, tg_A ad G.2 H.size x → A x := by
    intro x hx
    rcases hx with ⟨i, hi, rfl⟩ | hx
    · exact hD.2 i hi
    · exact hA x (Nat.le_trans hS.1 hx)
  have cw : CallB (z_R Z) s args (z_y Z).cls idx (z_y Z') (z_c Z') (z_n Z') (z_r Z') (z_w Z') (z_R Z') 0 0 n ∧ (Cond.static (z_y Z')).before args s = true :=
    ⟨callB_of n C6 (z_goodIn h0) rfl rfl rfl (C6 _ h0.2.2.2.2) (C6 _ hm) ⟨h0.2.1, h0.2.2.1, h1⟩ hR, C6 _ h2⟩
  have hpre : PreS s H (tg_Pc G D ad cA H.size As I J) (As.map (tg_v ad)) := ⟨tg_blind, tg_pre (av := As) hD.1 hP C8⟩
  refine tg_after (a := (As.map (tg_v ad)).toArray) (rest := rest.map (tg_v ad)) (va_runS (As := As.map (tg_v ad)) ⟨C1, C2, C4, C5, C6⟩ (h l D ad cA H.size) cw hpre rfl (by rw [List.length_map]; exact hn) hl.1 (by simp) (lv_room (by rw [tg_sum]; exact hw)) hd ⟨Nat.le_refl _, Nat.le_refl _⟩) hS hF (fun x _ hx => hF x hx) ?_
  intro v I' J' H1 locs1 hp hP1 hS1 _ _
  have hx := hp C hD hA hl hP1 hS1 hr (p := p) (l := l) (e := e) (below := below)
  cases v <;> exact hx
end CC
end
