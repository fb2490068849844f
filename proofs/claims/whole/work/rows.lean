section
-- ===== PART A: goes FIRST, ahead of the names: the tables' words, and 'selects' of the private methods out of them =====
/-- a private method of a class that the tables say can be made, by its rows of tables_1 -/
def lw_okq (q : MethodName × Nat) : Prop := (q.1.cls ≠ "java/lang/invoke/MethodHandle" ∧ q.1.cls ≠ "java/lang/invoke/VarHandle") ∧ Cond.instantiable q.1.cls q.2 ∈ tables_1 ∧ Cond.privateMethod q.1 ∈ tables_1 ∧ Cond.instanceMethod q.1 ∈ tables_1
theorem lw_p0 : lw_okq (⟨"SidingOrders$Pad", "signAt", "(I)I"⟩, 2) := ⟨⟨by decide +kernel, by decide +kernel⟩, List.mem_of_getElem? (i := 26) (by decide +kernel), List.mem_of_getElem? (i := 271) (by decide +kernel), List.mem_of_getElem? (i := 272) (by decide +kernel)⟩
theorem lw_p1 : lw_okq (⟨"SidingOrders$Yard", "takesOutAt", "(II)Z"⟩, 9) := ⟨⟨by decide +kernel, by decide +kernel⟩, List.mem_of_getElem? (i := 41) (by decide +kernel), List.mem_of_getElem? (i := 290) (by decide +kernel), List.mem_of_getElem? (i := 291) (by decide +kernel)⟩
theorem lw_p2 : lw_okq (⟨"SidingOrders$Yard", "listMovesFrom", "(II)V"⟩, 9) := ⟨⟨by decide +kernel, by decide +kernel⟩, List.mem_of_getElem? (i := 41) (by decide +kernel), List.mem_of_getElem? (i := 298) (by decide +kernel), List.mem_of_getElem? (i := 299) (by decide +kernel)⟩
theorem lw_p3 : lw_okq (⟨"SidingOrders$Yard", "stageOf", "(I)I"⟩, 9) := ⟨⟨by decide +kernel, by decide +kernel⟩, List.mem_of_getElem? (i := 41) (by decide +kernel), List.mem_of_getElem? (i := 306) (by decide +kernel), List.mem_of_getElem? (i := 307) (by decide +kernel)⟩
theorem lw_p4 : lw_okq (⟨"SidingOrders$Yard", "putsInAt", "(II)Z"⟩, 9) := ⟨⟨by decide +kernel, by decide +kernel⟩, List.mem_of_getElem? (i := 41) (by decide +kernel), List.mem_of_getElem? (i := 314) (by decide +kernel), List.mem_of_getElem? (i := 315) (by decide +kernel)⟩
theorem lw_p5 : lw_okq (⟨"SidingOrders$Yard", "addMove", "(I)V"⟩, 9) := ⟨⟨by decide +kernel, by decide +kernel⟩, List.mem_of_getElem? (i := 41) (by decide +kernel), List.mem_of_getElem? (i := 318) (by decide +kernel), List.mem_of_getElem? (i := 319) (by decide +kernel)⟩
theorem lw_p6 : lw_okq (⟨"SidingOrders", "forgetFindings", "()V"⟩, 10) := ⟨⟨by decide +kernel, by decide +kernel⟩, List.mem_of_getElem? (i := 18) (by decide +kernel), List.mem_of_getElem? (i := 395) (by decide +kernel), List.mem_of_getElem? (i := 396) (by decide +kernel)⟩
theorem lw_p7 : lw_okq (⟨"SidingOrders", "isMissing", "(I)Z"⟩, 10) := ⟨⟨by decide +kernel, by decide +kernel⟩, List.mem_of_getElem? (i := 18) (by decide +kernel), List.mem_of_getElem? (i := 417) (by decide +kernel), List.mem_of_getElem? (i := 418) (by decide +kernel)⟩
theorem lw_p8 : lw_okq (⟨"SidingOrders", "leastOf", "(LSidingOrders$Yard;III)I"⟩, 10) := ⟨⟨by decide +kernel, by decide +kernel⟩, List.mem_of_getElem? (i := 18) (by decide +kernel), List.mem_of_getElem? (i := 438) (by decide +kernel), List.mem_of_getElem? (i := 439) (by decide +kernel)⟩
theorem lw_p9 : lw_okq (⟨"SidingOrders$Places", "insert", "(III)V"⟩, 2) := ⟨⟨by decide +kernel, by decide +kernel⟩, List.mem_of_getElem? (i := 110) (by decide +kernel), List.mem_of_getElem? (i := 468) (by decide +kernel), List.mem_of_getElem? (i := 469) (by decide +kernel)⟩
theorem lw_p10 : lw_okq (⟨"SidingOrders$Places", "insertAt", "(III)V"⟩, 2) := ⟨⟨by decide +kernel, by decide +kernel⟩, List.mem_of_getElem? (i := 110) (by decide +kernel), List.mem_of_getElem? (i := 479) (by decide +kernel), List.mem_of_getElem? (i := 480) (by decide +kernel)⟩
theorem lw_p11 : lw_okq (⟨"SidingOrders$Survey", "spread", "(LSidingOrders$Yard;IJ)V"⟩, 3) := ⟨⟨by decide +kernel, by decide +kernel⟩, List.mem_of_getElem? (i := 177) (by decide +kernel), List.mem_of_getElem? (i := 507) (by decide +kernel), List.mem_of_getElem? (i := 508) (by decide +kernel)⟩
theorem lw_p12 : lw_okq (⟨"SidingOrders$Places", "take", "(IZ)I"⟩, 2) := ⟨⟨by decide +kernel, by decide +kernel⟩, List.mem_of_getElem? (i := 110) (by decide +kernel), List.mem_of_getElem? (i := 527) (by decide +kernel), List.mem_of_getElem? (i := 528) (by decide +kernel)⟩
theorem lw_p13 : lw_okq (⟨"SidingOrders$Places", "put", "(IIZ)V"⟩, 2) := ⟨⟨by decide +kernel, by decide +kernel⟩, List.mem_of_getElem? (i := 110) (by decide +kernel), List.mem_of_getElem? (i := 534) (by decide +kernel), List.mem_of_getElem? (i := 535) (by decide +kernel)⟩
theorem lw_p14 : lw_okq (⟨"SidingOrders$Survey", "reach", "(IIJ)V"⟩, 3) := ⟨⟨by decide +kernel, by decide +kernel⟩, List.mem_of_getElem? (i := 177) (by decide +kernel), List.mem_of_getElem? (i := 544) (by decide +kernel), List.mem_of_getElem? (i := 545) (by decide +kernel)⟩
theorem lw_p15 : lw_okq (⟨"SidingOrders$Search", "bestMove", "()I"⟩, 6) := ⟨⟨by decide +kernel, by decide +kernel⟩, List.mem_of_getElem? (i := 196) (by decide +kernel), List.mem_of_getElem? (i := 592) (by decide +kernel), List.mem_of_getElem? (i := 593) (by decide +kernel)⟩
def lw_privs_1 : List (MethodName × Nat) := [(⟨"SidingOrders$Pad", "signAt", "(I)I"⟩, 2), (⟨"SidingOrders$Yard", "takesOutAt", "(II)Z"⟩, 9), (⟨"SidingOrders$Yard", "listMovesFrom", "(II)V"⟩, 9), (⟨"SidingOrders$Yard", "stageOf", "(I)I"⟩, 9), (⟨"SidingOrders$Yard", "putsInAt", "(II)Z"⟩, 9), (⟨"SidingOrders$Yard", "addMove", "(I)V"⟩, 9), (⟨"SidingOrders", "forgetFindings", "()V"⟩, 10), (⟨"SidingOrders", "isMissing", "(I)Z"⟩, 10), (⟨"SidingOrders", "leastOf", "(LSidingOrders$Yard;III)I"⟩, 10), (⟨"SidingOrders$Places", "insert", "(III)V"⟩, 2), (⟨"SidingOrders$Places", "insertAt", "(III)V"⟩, 2), (⟨"SidingOrders$Survey", "spread", "(LSidingOrders$Yard;IJ)V"⟩, 3), (⟨"SidingOrders$Places", "take", "(IZ)I"⟩, 2), (⟨"SidingOrders$Places", "put", "(IIZ)V"⟩, 2), (⟨"SidingOrders$Survey", "reach", "(IIJ)V"⟩, 3), (⟨"SidingOrders$Search", "bestMove", "()I"⟩, 6)]
theorem lw_r1 : ∀ q ∈ lw_privs_1, lw_okq q := List.forall_mem_cons.mpr ⟨lw_p0, List.forall_mem_cons.mpr ⟨lw_p1, List.forall_mem_cons.mpr ⟨lw_p2, List.forall_mem_cons.mpr ⟨lw_p3, List.forall_mem_cons.mpr ⟨lw_p4, List.forall_mem_cons.mpr ⟨lw_p5, List.forall_mem_cons.mpr ⟨lw_p6, List.forall_mem_cons.mpr ⟨lw_p7, List.forall_mem_cons.mpr ⟨lw_p8, List.forall_mem_cons.mpr ⟨lw_p9, List.forall_mem_cons.mpr ⟨lw_p10, List.forall_mem_cons.mpr ⟨lw_p11, List.forall_mem_cons.mpr ⟨lw_p12, List.forall_mem_cons.mpr ⟨lw_p13, List.forall_mem_cons.mpr ⟨lw_p14, List.forall_mem_cons.mpr ⟨lw_p15, fun _ h => absurd h List.not_mem_nil⟩⟩⟩⟩⟩⟩⟩⟩⟩⟩⟩⟩⟩⟩⟩⟩
theorem lw_p16 : lw_okq (⟨"SidingOrders$Search", "isAstray", "()Z"⟩, 6) := ⟨⟨by decide +kernel, by decide +kernel⟩, List.mem_of_getElem? (i := 196) (by decide +kernel), List.mem_of_getElem? (i := 600) (by decide +kernel), List.mem_of_getElem? (i := 601) (by decide +kernel)⟩
theorem lw_p17 : lw_okq (⟨"SidingOrders$Search", "fits", "(I)Z"⟩, 6) := ⟨⟨by decide +kernel, by decide +kernel⟩, List.mem_of_getElem? (i := 196) (by decide +kernel), List.mem_of_getElem? (i := 607) (by decide +kernel), List.mem_of_getElem? (i := 608) (by decide +kernel)⟩
theorem lw_p18 : lw_okq (⟨"SidingOrders", "leastSorted", "(LSidingOrders$Yard;II)I"⟩, 10) := ⟨⟨by decide +kernel, by decide +kernel⟩, List.mem_of_getElem? (i := 18) (by decide +kernel), List.mem_of_getElem? (i := 640) (by decide +kernel), List.mem_of_getElem? (i := 641) (by decide +kernel)⟩
theorem lw_p19 : lw_okq (⟨"SidingOrders$Needs", "setLengths", "(LSidingOrders$Yard;I)I"⟩, 3) := ⟨⟨by decide +kernel, by decide +kernel⟩, List.mem_of_getElem? (i := 223) (by decide +kernel), List.mem_of_getElem? (i := 663) (by decide +kernel), List.mem_of_getElem? (i := 664) (by decide +kernel)⟩
theorem lw_p20 : lw_okq (⟨"SidingOrders", "aimAtPlay", "()V"⟩, 10) := ⟨⟨by decide +kernel, by decide +kernel⟩, List.mem_of_getElem? (i := 18) (by decide +kernel), List.mem_of_getElem? (i := 723) (by decide +kernel), List.mem_of_getElem? (i := 724) (by decide +kernel)⟩
theorem lw_p21 : lw_okq (⟨"SidingOrders$Thumbs", "choose", "(LSidingOrders$Yard;I)I"⟩, 1) := ⟨⟨by decide +kernel, by decide +kernel⟩, List.mem_of_getElem? (i := 243) (by decide +kernel), List.mem_of_getElem? (i := 766) (by decide +kernel), List.mem_of_getElem? (i := 767) (by decide +kernel)⟩
theorem lw_p22 : lw_okq (⟨"SidingOrders$Thumbs", "wantedOut", "(LSidingOrders$Yard;)I"⟩, 1) := ⟨⟨by decide +kernel, by decide +kernel⟩, List.mem_of_getElem? (i := 243) (by decide +kernel), List.mem_of_getElem? (i := 770) (by decide +kernel), List.mem_of_getElem? (i := 771) (by decide +kernel)⟩
theorem lw_p23 : lw_okq (⟨"SidingOrders$Thumbs", "fromEntry", "(LSidingOrders$Yard;I)I"⟩, 1) := ⟨⟨by decide +kernel, by decide +kernel⟩, List.mem_of_getElem? (i := 243) (by decide +kernel), List.mem_of_getElem? (i := 777) (by decide +kernel), List.mem_of_getElem? (i := 778) (by decide +kernel)⟩
theorem lw_p24 : lw_okq (⟨"SidingOrders$Thumbs", "isBelowAll", "(II)Z"⟩, 1) := ⟨⟨by decide +kernel, by decide +kernel⟩, List.mem_of_getElem? (i := 243) (by decide +kernel), List.mem_of_getElem? (i := 782) (by decide +kernel), List.mem_of_getElem? (i := 783) (by decide +kernel)⟩
theorem lw_p25 : lw_okq (⟨"SidingOrders$Thumbs", "onward", "(LSidingOrders$Yard;)I"⟩, 1) := ⟨⟨by decide +kernel, by decide +kernel⟩, List.mem_of_getElem? (i := 243) (by decide +kernel), List.mem_of_getElem? (i := 788) (by decide +kernel), List.mem_of_getElem? (i := 789) (by decide +kernel)⟩
theorem lw_p26 : lw_okq (⟨"SidingOrders", "imageAt", "(I)LSidingOrders$Image;"⟩, 10) := ⟨⟨by decide +kernel, by decide +kernel⟩, List.mem_of_getElem? (i := 18) (by decide +kernel), List.mem_of_getElem? (i := 808) (by decide +kernel), List.mem_of_getElem? (i := 809) (by decide +kernel)⟩
theorem lw_p27 : lw_okq (⟨"SidingOrdersModel", "forget", "()V"⟩, 44) := ⟨⟨by decide +kernel, by decide +kernel⟩, List.mem_of_getElem? (i := 826) (by decide +kernel), List.mem_of_getElem? (i := 995) (by decide +kernel), List.mem_of_getElem? (i := 996) (by decide +kernel)⟩
theorem lw_p28 : lw_okq (⟨"SidingOrdersModel", "isSiding", "(I)Z"⟩, 44) := ⟨⟨by decide +kernel, by decide +kernel⟩, List.mem_of_getElem? (i := 826) (by decide +kernel), List.mem_of_getElem? (i := 1003) (by decide +kernel), List.mem_of_getElem? (i := 1004) (by decide +kernel)⟩
theorem lw_p29 : lw_okq (⟨"SidingOrdersModel", "goes", "(II)Z"⟩, 44) := ⟨⟨by decide +kernel, by decide +kernel⟩, List.mem_of_getElem? (i := 826) (by decide +kernel), List.mem_of_getElem? (i := 1013) (by decide +kernel), List.mem_of_getElem? (i := 1014) (by decide +kernel)⟩
theorem lw_p30 : lw_okq (⟨"SidingOrdersModel", "found", "(III)I"⟩, 44) := ⟨⟨by decide +kernel, by decide +kernel⟩, List.mem_of_getElem? (i := 826) (by decide +kernel), List.mem_of_getElem? (i := 1028) (by decide +kernel), List.mem_of_getElem? (i := 1029) (by decide +kernel)⟩
theorem lw_p31 : lw_okq (⟨"SidingOrdersModel", "findAll", "(I)V"⟩, 44) := ⟨⟨by decide +kernel, by decide +kernel⟩, List.mem_of_getElem? (i := 826) (by decide +kernel), List.mem_of_getElem? (i := 1032) (by decide +kernel), List.mem_of_getElem? (i := 1033) (by decide +kernel)⟩
def lw_privs_2 : List (MethodName × Nat) := [(⟨"SidingOrders$Search", "isAstray", "()Z"⟩, 6), (⟨"SidingOrders$Search", "fits", "(I)Z"⟩, 6), (⟨"SidingOrders", "leastSorted", "(LSidingOrders$Yard;II)I"⟩, 10), (⟨"SidingOrders$Needs", "setLengths", "(LSidingOrders$Yard;I)I"⟩, 3), (⟨"SidingOrders", "aimAtPlay", "()V"⟩, 10), (⟨"SidingOrders$Thumbs", "choose", "(LSidingOrders$Yard;I)I"⟩, 1), (⟨"SidingOrders$Thumbs", "wantedOut", "(LSidingOrders$Yard;)I"⟩, 1), (⟨"SidingOrders$Thumbs", "fromEntry", "(LSidingOrders$Yard;I)I"⟩, 1), (⟨"SidingOrders$Thumbs", "isBelowAll", "(II)Z"⟩, 1), (⟨"SidingOrders$Thumbs", "onward", "(LSidingOrders$Yard;)I"⟩, 1), (⟨"SidingOrders", "imageAt", "(I)LSidingOrders$Image;"⟩, 10), (⟨"SidingOrdersModel", "forget", "()V"⟩, 44), (⟨"SidingOrdersModel", "isSiding", "(I)Z"⟩, 44), (⟨"SidingOrdersModel", "goes", "(II)Z"⟩, 44), (⟨"SidingOrdersModel", "found", "(III)I"⟩, 44), (⟨"SidingOrdersModel", "findAll", "(I)V"⟩, 44)]
theorem lw_r2 : ∀ q ∈ lw_privs_2, lw_okq q := List.forall_mem_cons.mpr ⟨lw_p16, List.forall_mem_cons.mpr ⟨lw_p17, List.forall_mem_cons.mpr ⟨lw_p18, List.forall_mem_cons.mpr ⟨lw_p19, List.forall_mem_cons.mpr ⟨lw_p20, List.forall_mem_cons.mpr ⟨lw_p21, List.forall_mem_cons.mpr ⟨lw_p22, List.forall_mem_cons.mpr ⟨lw_p23, List.forall_mem_cons.mpr ⟨lw_p24, List.forall_mem_cons.mpr ⟨lw_p25, List.forall_mem_cons.mpr ⟨lw_p26, List.forall_mem_cons.mpr ⟨lw_p27, List.forall_mem_cons.mpr ⟨lw_p28, List.forall_mem_cons.mpr ⟨lw_p29, List.forall_mem_cons.mpr ⟨lw_p30, List.forall_mem_cons.mpr ⟨lw_p31, fun _ h => absurd h List.not_mem_nil⟩⟩⟩⟩⟩⟩⟩⟩⟩⟩⟩⟩⟩⟩⟩⟩
theorem lw_p32 : lw_okq (⟨"SidingOrdersModel", "search", "(II)I"⟩, 44) := ⟨⟨by decide +kernel, by decide +kernel⟩, List.mem_of_getElem? (i := 826) (by decide +kernel), List.mem_of_getElem? (i := 1036) (by decide +kernel), List.mem_of_getElem? (i := 1037) (by decide +kernel)⟩
theorem lw_p33 : lw_okq (⟨"SidingOrdersModel", "decode", "(I)V"⟩, 44) := ⟨⟨by decide +kernel, by decide +kernel⟩, List.mem_of_getElem? (i := 826) (by decide +kernel), List.mem_of_getElem? (i := 1040) (by decide +kernel), List.mem_of_getElem? (i := 1041) (by decide +kernel)⟩
theorem lw_p34 : lw_okq (⟨"SidingOrdersModel", "putNear", "(II)V"⟩, 44) := ⟨⟨by decide +kernel, by decide +kernel⟩, List.mem_of_getElem? (i := 826) (by decide +kernel), List.mem_of_getElem? (i := 1044) (by decide +kernel), List.mem_of_getElem? (i := 1045) (by decide +kernel)⟩
theorem lw_p35 : lw_okq (⟨"SidingOrdersModel", "isWanted", "()Z"⟩, 44) := ⟨⟨by decide +kernel, by decide +kernel⟩, List.mem_of_getElem? (i := 826) (by decide +kernel), List.mem_of_getElem? (i := 1048) (by decide +kernel), List.mem_of_getElem? (i := 1049) (by decide +kernel)⟩
theorem lw_p36 : lw_okq (⟨"SidingOrdersModel", "come", "(IIJ)V"⟩, 44) := ⟨⟨by decide +kernel, by decide +kernel⟩, List.mem_of_getElem? (i := 826) (by decide +kernel), List.mem_of_getElem? (i := 1052) (by decide +kernel), List.mem_of_getElem? (i := 1053) (by decide +kernel)⟩
theorem lw_p37 : lw_okq (⟨"SidingOrdersModel", "slotOf", "(I)I"⟩, 44) := ⟨⟨by decide +kernel, by decide +kernel⟩, List.mem_of_getElem? (i := 826) (by decide +kernel), List.mem_of_getElem? (i := 1056) (by decide +kernel), List.mem_of_getElem? (i := 1057) (by decide +kernel)⟩
theorem lw_p38 : lw_okq (⟨"SidingOrdersModel", "spread", "(II)V"⟩, 44) := ⟨⟨by decide +kernel, by decide +kernel⟩, List.mem_of_getElem? (i := 826) (by decide +kernel), List.mem_of_getElem? (i := 1063) (by decide +kernel), List.mem_of_getElem? (i := 1064) (by decide +kernel)⟩
theorem lw_p39 : lw_okq (⟨"SidingOrdersModel", "canMove", "(IIIII)Z"⟩, 44) := ⟨⟨by decide +kernel, by decide +kernel⟩, List.mem_of_getElem? (i := 826) (by decide +kernel), List.mem_of_getElem? (i := 1067) (by decide +kernel), List.mem_of_getElem? (i := 1068) (by decide +kernel)⟩
theorem lw_p40 : lw_okq (⟨"SidingOrdersModel", "isOut", "(II)Z"⟩, 44) := ⟨⟨by decide +kernel, by decide +kernel⟩, List.mem_of_getElem? (i := 826) (by decide +kernel), List.mem_of_getElem? (i := 1071) (by decide +kernel), List.mem_of_getElem? (i := 1072) (by decide +kernel)⟩
theorem lw_p41 : lw_okq (⟨"SidingOrdersModel", "isIn", "(II)Z"⟩, 44) := ⟨⟨by decide +kernel, by decide +kernel⟩, List.mem_of_getElem? (i := 826) (by decide +kernel), List.mem_of_getElem? (i := 1075) (by decide +kernel), List.mem_of_getElem? (i := 1076) (by decide +kernel)⟩
theorem lw_p42 : lw_okq (⟨"SidingOrdersModel", "doMove", "(IIII)V"⟩, 44) := ⟨⟨by decide +kernel, by decide +kernel⟩, List.mem_of_getElem? (i := 826) (by decide +kernel), List.mem_of_getElem? (i := 1079) (by decide +kernel), List.mem_of_getElem? (i := 1080) (by decide +kernel)⟩
theorem lw_p43 : lw_okq (⟨"SidingOrdersModel", "takeNear", "(I)I"⟩, 44) := ⟨⟨by decide +kernel, by decide +kernel⟩, List.mem_of_getElem? (i := 826) (by decide +kernel), List.mem_of_getElem? (i := 1083) (by decide +kernel), List.mem_of_getElem? (i := 1084) (by decide +kernel)⟩
theorem lw_p44 : lw_okq (⟨"SidingOrdersModel", "takeFar", "(I)I"⟩, 44) := ⟨⟨by decide +kernel, by decide +kernel⟩, List.mem_of_getElem? (i := 826) (by decide +kernel), List.mem_of_getElem? (i := 1087) (by decide +kernel), List.mem_of_getElem? (i := 1088) (by decide +kernel)⟩
theorem lw_p45 : lw_okq (⟨"SidingOrdersModel", "putFar", "(II)V"⟩, 44) := ⟨⟨by decide +kernel, by decide +kernel⟩, List.mem_of_getElem? (i := 826) (by decide +kernel), List.mem_of_getElem? (i := 1091) (by decide +kernel), List.mem_of_getElem? (i := 1092) (by decide +kernel)⟩
theorem lw_p46 : lw_okq (⟨"SidingOrdersModel", "encode", "()I"⟩, 44) := ⟨⟨by decide +kernel, by decide +kernel⟩, List.mem_of_getElem? (i := 826) (by decide +kernel), List.mem_of_getElem? (i := 1095) (by decide +kernel), List.mem_of_getElem? (i := 1096) (by decide +kernel)⟩
theorem lw_p47 : lw_okq (⟨"SidingOrdersModel", "rankOf", "(I)I"⟩, 44) := ⟨⟨by decide +kernel, by decide +kernel⟩, List.mem_of_getElem? (i := 826) (by decide +kernel), List.mem_of_getElem? (i := 1099) (by decide +kernel), List.mem_of_getElem? (i := 1100) (by decide +kernel)⟩
def lw_privs_3 : List (MethodName × Nat) := [(⟨"SidingOrdersModel", "search", "(II)I"⟩, 44), (⟨"SidingOrdersModel", "decode", "(I)V"⟩, 44), (⟨"SidingOrdersModel", "putNear", "(II)V"⟩, 44), (⟨"SidingOrdersModel", "isWanted", "()Z"⟩, 44), (⟨"SidingOrdersModel", "come", "(IIJ)V"⟩, 44), (⟨"SidingOrdersModel", "slotOf", "(I)I"⟩, 44), (⟨"SidingOrdersModel", "spread", "(II)V"⟩, 44), (⟨"SidingOrdersModel", "canMove", "(IIIII)Z"⟩, 44), (⟨"SidingOrdersModel", "isOut", "(II)Z"⟩, 44), (⟨"SidingOrdersModel", "isIn", "(II)Z"⟩, 44), (⟨"SidingOrdersModel", "doMove", "(IIII)V"⟩, 44), (⟨"SidingOrdersModel", "takeNear", "(I)I"⟩, 44), (⟨"SidingOrdersModel", "takeFar", "(I)I"⟩, 44), (⟨"SidingOrdersModel", "putFar", "(II)V"⟩, 44), (⟨"SidingOrdersModel", "encode", "()I"⟩, 44), (⟨"SidingOrdersModel", "rankOf", "(I)I"⟩, 44)]
theorem lw_r3 : ∀ q ∈ lw_privs_3, lw_okq q := List.forall_mem_cons.mpr ⟨lw_p32, List.forall_mem_cons.mpr ⟨lw_p33, List.forall_mem_cons.mpr ⟨lw_p34, List.forall_mem_cons.mpr ⟨lw_p35, List.forall_mem_cons.mpr ⟨lw_p36, List.forall_mem_cons.mpr ⟨lw_p37, List.forall_mem_cons.mpr ⟨lw_p38, List.forall_mem_cons.mpr ⟨lw_p39, List.forall_mem_cons.mpr ⟨lw_p40, List.forall_mem_cons.mpr ⟨lw_p41, List.forall_mem_cons.mpr ⟨lw_p42, List.forall_mem_cons.mpr ⟨lw_p43, List.forall_mem_cons.mpr ⟨lw_p44, List.forall_mem_cons.mpr ⟨lw_p45, List.forall_mem_cons.mpr ⟨lw_p46, List.forall_mem_cons.mpr ⟨lw_p47, fun _ h => absurd h List.not_mem_nil⟩⟩⟩⟩⟩⟩⟩⟩⟩⟩⟩⟩⟩⟩⟩⟩
theorem lw_p48 : lw_okq (⟨"SidingOrdersModel", "layTrain", "(II)V"⟩, 44) := ⟨⟨by decide +kernel, by decide +kernel⟩, List.mem_of_getElem? (i := 826) (by decide +kernel), List.mem_of_getElem? (i := 1103) (by decide +kernel), List.mem_of_getElem? (i := 1104) (by decide +kernel)⟩
theorem lw_p49 : lw_okq (⟨"SidingOrdersModel", "layOrder", "(II)V"⟩, 44) := ⟨⟨by decide +kernel, by decide +kernel⟩, List.mem_of_getElem? (i := 826) (by decide +kernel), List.mem_of_getElem? (i := 1110) (by decide +kernel), List.mem_of_getElem? (i := 1111) (by decide +kernel)⟩
theorem lw_p50 : lw_okq (⟨"SidingOrdersModel", "placeOf", "(II)I"⟩, 44) := ⟨⟨by decide +kernel, by decide +kernel⟩, List.mem_of_getElem? (i := 826) (by decide +kernel), List.mem_of_getElem? (i := 1114) (by decide +kernel), List.mem_of_getElem? (i := 1115) (by decide +kernel)⟩
theorem lw_p51 : lw_okq (⟨"SidingOrdersModel", "want", "(III)V"⟩, 44) := ⟨⟨by decide +kernel, by decide +kernel⟩, List.mem_of_getElem? (i := 826) (by decide +kernel), List.mem_of_getElem? (i := 1127) (by decide +kernel), List.mem_of_getElem? (i := 1128) (by decide +kernel)⟩
theorem lw_p52 : lw_okq (⟨"SidingOrdersModel", "nextOf", "(III)I"⟩, 44) := ⟨⟨by decide +kernel, by decide +kernel⟩, List.mem_of_getElem? (i := 826) (by decide +kernel), List.mem_of_getElem? (i := 1131) (by decide +kernel), List.mem_of_getElem? (i := 1132) (by decide +kernel)⟩
theorem lw_p53 : lw_okq (⟨"SidingOrdersModel", "isMove", "(IIII)Z"⟩, 44) := ⟨⟨by decide +kernel, by decide +kernel⟩, List.mem_of_getElem? (i := 826) (by decide +kernel), List.mem_of_getElem? (i := 1135) (by decide +kernel), List.mem_of_getElem? (i := 1136) (by decide +kernel)⟩
theorem lw_p54 : lw_okq (⟨"SidingOrdersModel", "moved", "(II)I"⟩, 44) := ⟨⟨by decide +kernel, by decide +kernel⟩, List.mem_of_getElem? (i := 826) (by decide +kernel), List.mem_of_getElem? (i := 1139) (by decide +kernel), List.mem_of_getElem? (i := 1140) (by decide +kernel)⟩
theorem lw_p55 : lw_okq (⟨"SidingOrdersModel", "layRow", "(II)V"⟩, 44) := ⟨⟨by decide +kernel, by decide +kernel⟩, List.mem_of_getElem? (i := 826) (by decide +kernel), List.mem_of_getElem? (i := 1150) (by decide +kernel), List.mem_of_getElem? (i := 1151) (by decide +kernel)⟩
theorem lw_p56 : lw_okq (⟨"SidingOrdersModel", "insert", "(II)V"⟩, 44) := ⟨⟨by decide +kernel, by decide +kernel⟩, List.mem_of_getElem? (i := 826) (by decide +kernel), List.mem_of_getElem? (i := 1154) (by decide +kernel), List.mem_of_getElem? (i := 1155) (by decide +kernel)⟩
theorem lw_p57 : lw_okq (⟨"SidingOrdersModel", "trainOf", "(II)I"⟩, 44) := ⟨⟨by decide +kernel, by decide +kernel⟩, List.mem_of_getElem? (i := 826) (by decide +kernel), List.mem_of_getElem? (i := 1165) (by decide +kernel), List.mem_of_getElem? (i := 1166) (by decide +kernel)⟩
theorem lw_p58 : lw_okq (⟨"SidingOrdersModel", "sortFar", "(II)I"⟩, 44) := ⟨⟨by decide +kernel, by decide +kernel⟩, List.mem_of_getElem? (i := 826) (by decide +kernel), List.mem_of_getElem? (i := 1169) (by decide +kernel), List.mem_of_getElem? (i := 1170) (by decide +kernel)⟩
theorem lw_p59 : lw_okq (⟨"SidingOrdersModel", "sortedOf", "(I)I"⟩, 44) := ⟨⟨by decide +kernel, by decide +kernel⟩, List.mem_of_getElem? (i := 826) (by decide +kernel), List.mem_of_getElem? (i := 1173) (by decide +kernel), List.mem_of_getElem? (i := 1174) (by decide +kernel)⟩
theorem lw_p60 : lw_okq (⟨"SidingOrdersModel", "findNeed", "(II)I"⟩, 44) := ⟨⟨by decide +kernel, by decide +kernel⟩, List.mem_of_getElem? (i := 826) (by decide +kernel), List.mem_of_getElem? (i := 1189) (by decide +kernel), List.mem_of_getElem? (i := 1190) (by decide +kernel)⟩
theorem lw_p61 : lw_okq (⟨"SidingOrdersModel", "changeAbout", "()V"⟩, 44) := ⟨⟨by decide +kernel, by decide +kernel⟩, List.mem_of_getElem? (i := 826) (by decide +kernel), List.mem_of_getElem? (i := 1201) (by decide +kernel), List.mem_of_getElem? (i := 1202) (by decide +kernel)⟩
theorem lw_p62 : lw_okq (⟨"SidingOrdersModel", "restOf", "()I"⟩, 44) := ⟨⟨by decide +kernel, by decide +kernel⟩, List.mem_of_getElem? (i := 826) (by decide +kernel), List.mem_of_getElem? (i := 1221) (by decide +kernel), List.mem_of_getElem? (i := 1222) (by decide +kernel)⟩
theorem lw_p63 : lw_okq (⟨"SidingOrdersModel", "thumbed", "(III)I"⟩, 44) := ⟨⟨by decide +kernel, by decide +kernel⟩, List.mem_of_getElem? (i := 826) (by decide +kernel), List.mem_of_getElem? (i := 1242) (by decide +kernel), List.mem_of_getElem? (i := 1243) (by decide +kernel)⟩
def lw_privs_4 : List (MethodName × Nat) := [(⟨"SidingOrdersModel", "layTrain", "(II)V"⟩, 44), (⟨"SidingOrdersModel", "layOrder", "(II)V"⟩, 44), (⟨"SidingOrdersModel", "placeOf", "(II)I"⟩, 44), (⟨"SidingOrdersModel", "want", "(III)V"⟩, 44), (⟨"SidingOrdersModel", "nextOf", "(III)I"⟩, 44), (⟨"SidingOrdersModel", "isMove", "(IIII)Z"⟩, 44), (⟨"SidingOrdersModel", "moved", "(II)I"⟩, 44), (⟨"SidingOrdersModel", "layRow", "(II)V"⟩, 44), (⟨"SidingOrdersModel", "insert", "(II)V"⟩, 44), (⟨"SidingOrdersModel", "trainOf", "(II)I"⟩, 44), (⟨"SidingOrdersModel", "sortFar", "(II)I"⟩, 44), (⟨"SidingOrdersModel", "sortedOf", "(I)I"⟩, 44), (⟨"SidingOrdersModel", "findNeed", "(II)I"⟩, 44), (⟨"SidingOrdersModel", "changeAbout", "()V"⟩, 44), (⟨"SidingOrdersModel", "restOf", "()I"⟩, 44), (⟨"SidingOrdersModel", "thumbed", "(III)I"⟩, 44)]
theorem lw_r4 : ∀ q ∈ lw_privs_4, lw_okq q := List.forall_mem_cons.mpr ⟨lw_p48, List.forall_mem_cons.mpr ⟨lw_p49, List.forall_mem_cons.mpr ⟨lw_p50, List.forall_mem_cons.mpr ⟨lw_p51, List.forall_mem_cons.mpr ⟨lw_p52, List.forall_mem_cons.mpr ⟨lw_p53, List.forall_mem_cons.mpr ⟨lw_p54, List.forall_mem_cons.mpr ⟨lw_p55, List.forall_mem_cons.mpr ⟨lw_p56, List.forall_mem_cons.mpr ⟨lw_p57, List.forall_mem_cons.mpr ⟨lw_p58, List.forall_mem_cons.mpr ⟨lw_p59, List.forall_mem_cons.mpr ⟨lw_p60, List.forall_mem_cons.mpr ⟨lw_p61, List.forall_mem_cons.mpr ⟨lw_p62, List.forall_mem_cons.mpr ⟨lw_p63, fun _ h => absurd h List.not_mem_nil⟩⟩⟩⟩⟩⟩⟩⟩⟩⟩⟩⟩⟩⟩⟩⟩
theorem lw_p64 : lw_okq (⟨"SidingOrdersModel", "letOut", "(I)Z"⟩, 44) := ⟨⟨by decide +kernel, by decide +kernel⟩, List.mem_of_getElem? (i := 826) (by decide +kernel), List.mem_of_getElem? (i := 1246) (by decide +kernel), List.mem_of_getElem? (i := 1247) (by decide +kernel)⟩
theorem lw_p65 : lw_okq (⟨"SidingOrdersModel", "wagonAt", "(I)I"⟩, 44) := ⟨⟨by decide +kernel, by decide +kernel⟩, List.mem_of_getElem? (i := 826) (by decide +kernel), List.mem_of_getElem? (i := 1250) (by decide +kernel), List.mem_of_getElem? (i := 1251) (by decide +kernel)⟩
theorem lw_p66 : lw_okq (⟨"SidingOrdersModel", "goIn", "(II)Z"⟩, 44) := ⟨⟨by decide +kernel, by decide +kernel⟩, List.mem_of_getElem? (i := 826) (by decide +kernel), List.mem_of_getElem? (i := 1254) (by decide +kernel), List.mem_of_getElem? (i := 1255) (by decide +kernel)⟩
theorem lw_p67 : lw_okq (⟨"SidingOrdersModel", "chosen", "(II)I"⟩, 44) := ⟨⟨by decide +kernel, by decide +kernel⟩, List.mem_of_getElem? (i := 826) (by decide +kernel), List.mem_of_getElem? (i := 1258) (by decide +kernel), List.mem_of_getElem? (i := 1259) (by decide +kernel)⟩
theorem lw_p68 : lw_okq (⟨"SidingOrdersModel", "hasRoom", "(I)Z"⟩, 44) := ⟨⟨by decide +kernel, by decide +kernel⟩, List.mem_of_getElem? (i := 826) (by decide +kernel), List.mem_of_getElem? (i := 1262) (by decide +kernel), List.mem_of_getElem? (i := 1263) (by decide +kernel)⟩
theorem lw_p69 : lw_okq (⟨"SidingOrdersModel", "areHigher", "(II)Z"⟩, 44) := ⟨⟨by decide +kernel, by decide +kernel⟩, List.mem_of_getElem? (i := 826) (by decide +kernel), List.mem_of_getElem? (i := 1266) (by decide +kernel), List.mem_of_getElem? (i := 1267) (by decide +kernel)⟩
theorem lw_p70 : lw_okq (⟨"SidingOrdersModel", "goOn", "(I)Z"⟩, 44) := ⟨⟨by decide +kernel, by decide +kernel⟩, List.mem_of_getElem? (i := 826) (by decide +kernel), List.mem_of_getElem? (i := 1270) (by decide +kernel), List.mem_of_getElem? (i := 1271) (by decide +kernel)⟩
theorem lw_p71 : lw_okq (⟨"SidingOrdersModel", "passAll", "()V"⟩, 44) := ⟨⟨by decide +kernel, by decide +kernel⟩, List.mem_of_getElem? (i := 826) (by decide +kernel), List.mem_of_getElem? (i := 1288) (by decide +kernel), List.mem_of_getElem? (i := 1289) (by decide +kernel)⟩
theorem lw_p72 : lw_okq (⟨"SidingOrdersModel", "pass", "(I)I"⟩, 44) := ⟨⟨by decide +kernel, by decide +kernel⟩, List.mem_of_getElem? (i := 826) (by decide +kernel), List.mem_of_getElem? (i := 1292) (by decide +kernel), List.mem_of_getElem? (i := 1293) (by decide +kernel)⟩
def lw_privs_5 : List (MethodName × Nat) := [(⟨"SidingOrdersModel", "letOut", "(I)Z"⟩, 44), (⟨"SidingOrdersModel", "wagonAt", "(I)I"⟩, 44), (⟨"SidingOrdersModel", "goIn", "(II)Z"⟩, 44), (⟨"SidingOrdersModel", "chosen", "(II)I"⟩, 44), (⟨"SidingOrdersModel", "hasRoom", "(I)Z"⟩, 44), (⟨"SidingOrdersModel", "areHigher", "(II)Z"⟩, 44), (⟨"SidingOrdersModel", "goOn", "(I)Z"⟩, 44), (⟨"SidingOrdersModel", "passAll", "()V"⟩, 44), (⟨"SidingOrdersModel", "pass", "(I)I"⟩, 44)]
theorem lw_r5 : ∀ q ∈ lw_privs_5, lw_okq q := List.forall_mem_cons.mpr ⟨lw_p64, List.forall_mem_cons.mpr ⟨lw_p65, List.forall_mem_cons.mpr ⟨lw_p66, List.forall_mem_cons.mpr ⟨lw_p67, List.forall_mem_cons.mpr ⟨lw_p68, List.forall_mem_cons.mpr ⟨lw_p69, List.forall_mem_cons.mpr ⟨lw_p70, List.forall_mem_cons.mpr ⟨lw_p71, List.forall_mem_cons.mpr ⟨lw_p72, fun _ h => absurd h List.not_mem_nil⟩⟩⟩⟩⟩⟩⟩⟩⟩
def lw_privs : List (MethodName × Nat) := lw_privs_1 ++ (lw_privs_2 ++ (lw_privs_3 ++ (lw_privs_4 ++ (lw_privs_5))))
def lw_tbl : List Cond := k2_sels lw_privs ++ tables_1
theorem lw_privs_ok : ∀ q ∈ lw_privs, lw_okq q := by
  show ∀ q ∈ lw_privs_1 ++ (lw_privs_2 ++ (lw_privs_3 ++ (lw_privs_4 ++ (lw_privs_5)))), lw_okq q
  exact List.forall_mem_append.mpr ⟨lw_r1, List.forall_mem_append.mpr ⟨lw_r2, List.forall_mem_append.mpr ⟨lw_r3, List.forall_mem_append.mpr ⟨lw_r4, lw_r5⟩⟩⟩⟩
-- ===== end of PART A; then your names; then what follows =====
end
section
/-! ===== END ===== -/

/-! ===== BEGIN printed: names, fields, word lists, decode rows ===== -/
def RX0 : String := "SidingOrders$Image"
def TX0 : u_T := fun k => match k with
  | 0 => ("SidingOrders$Image", "kept", "Z", false)
  | 1 => ("SidingOrders$Image", "yard", "LSidingOrders$Yard;", true)
  | 2 => ("SidingOrders$Image", "other", "LSidingOrders$Yard;", true)
  | _ => ("SidingOrders$Image", "play", "LSidingOrders$Play;", true)
def tyX0 : Nat → FieldType := fun k => match k with
  | 0 => .boolean
  | 1 => .object "SidingOrders$Yard"
  | 2 => .object "SidingOrders$Yard"
  | _ => .object "SidingOrders$Play"
abbrev wsX00 : List Cond := u_ws RX0 TX0 4
theorem nmX0 : ∀ a, a < 4 → ∀ b, b < 4 → a ≠ b → (TX0 a).2.1 ≠ (TX0 b).2.1 := by decide +kernel
theorem tyX0_ok : ∀ k, k < 4 → parseFieldDescriptor (TX0 k).2.2.1 = some (tyX0 k) := by decide +kernel
abbrev cX0_init : ByteArray := prog_2_method_1_code
def yX0_init : MethodName := ⟨RX0, "<init>", "()V"⟩
def RX1 : String := "SidingOrders$Needs"
def TX1 : u_T := fun k => match k with
  | 0 => ("SidingOrders$Needs", "train", "I", false)
  | 1 => ("SidingOrders$Needs", "sum", "I", false)
  | _ => ("SidingOrders$Needs", "narrow", "LSidingOrders$Yard;", true)
def tyX1 : Nat → FieldType := fun k => match k with
  | 0 => .int
  | 1 => .int
  | _ => .object "SidingOrders$Yard"
abbrev wsX10 : List Cond := u_ws RX1 TX1 3
theorem nmX1 : ∀ a, a < 3 → ∀ b, b < 3 → a ≠ b → (TX1 a).2.1 ≠ (TX1 b).2.1 := by decide +kernel
theorem tyX1_ok : ∀ k, k < 3 → parseFieldDescriptor (TX1 k).2.2.1 = some (tyX1 k) := by decide +kernel
abbrev cX1_init : ByteArray := prog_3_method_1_code
def yX1_init : MethodName := ⟨RX1, "<init>", "()V"⟩
abbrev cX1_find : ByteArray := prog_3_method_2_code
def yX1_find : MethodName := ⟨RX1, "find", "(LSidingOrders$Yard;LSidingOrders$Search;II)V"⟩
abbrev cX1_setLengths : ByteArray := prog_3_method_3_code
def yX1_setLengths : MethodName := ⟨RX1, "setLengths", "(LSidingOrders$Yard;I)I"⟩
def RX2 : String := "SidingOrders$Outcomes"
def TX2 : u_T := fun k => match k with
  | 0 => ("SidingOrders$Outcomes", "surveyed", "I", false)
  | 1 => ("SidingOrders$Outcomes", "least", "[I", true)
  | _ => ("SidingOrders$Outcomes", "ways", "[J", true)
def tyX2 : Nat → FieldType := fun k => match k with
  | 0 => .int
  | 1 => .array .int
  | _ => .array .long
abbrev wsX20 : List Cond := u_ws RX2 TX2 3
theorem nmX2 : ∀ a, a < 3 → ∀ b, b < 3 → a ≠ b → (TX2 a).2.1 ≠ (TX2 b).2.1 := by decide +kernel
theorem tyX2_ok : ∀ k, k < 3 → parseFieldDescriptor (TX2 k).2.2.1 = some (tyX2 k) := by decide +kernel
abbrev cX2_init : ByteArray := prog_4_method_1_code
def yX2_init : MethodName := ⟨RX2, "<init>", "()V"⟩
abbrev cX2_forget : ByteArray := prog_4_method_2_code
def yX2_forget : MethodName := ⟨RX2, "forget", "()V"⟩
abbrev cX2_copyFrom : ByteArray := prog_4_method_3_code
def yX2_copyFrom : MethodName := ⟨RX2, "copyFrom", "(LSidingOrders$Outcomes;)V"⟩
abbrev cX2_know : ByteArray := prog_4_method_4_code
def yX2_know : MethodName := ⟨RX2, "know", "(I)Z"⟩
abbrev cX2_nowKnow : ByteArray := prog_4_method_5_code
def yX2_nowKnow : MethodName := ⟨RX2, "nowKnow", "(I)V"⟩
abbrev cX2_cellOf : ByteArray := prog_4_method_6_code
def yX2_cellOf : MethodName := ⟨RX2, "cellOf", "(II)I"⟩
abbrev cX2_note : ByteArray := prog_4_method_7_code
def yX2_note : MethodName := ⟨RX2, "note", "(IIIJ)V"⟩
abbrev cX2_leastOf : ByteArray := prog_4_method_8_code
def yX2_leastOf : MethodName := ⟨RX2, "leastOf", "(II)I"⟩
abbrev cX2_waysOf : ByteArray := prog_4_method_9_code
def yX2_waysOf : MethodName := ⟨RX2, "waysOf", "(II)J"⟩
def RX3 : String := "SidingOrders$Pad"
def TX3 : u_T := fun k => match k with
  | 0 => ("SidingOrders$Pad", "signs", "[I", true)
  | _ => ("SidingOrders$Pad", "count", "I", false)
def tyX3 : Nat → FieldType := fun k => match k with
  | 0 => .array .int
  | _ => .int
abbrev wsX30 : List Cond := u_ws RX3 TX3 2
theorem nmX3 : ∀ a, a < 2 → ∀ b, b < 2 → a ≠ b → (TX3 a).2.1 ≠ (TX3 b).2.1 := by decide +kernel
theorem tyX3_ok : ∀ k, k < 2 → parseFieldDescriptor (TX3 k).2.2.1 = some (tyX3 k) := by decide +kernel
abbrev cX3_init : ByteArray := prog_5_method_1_code
def yX3_init : MethodName := ⟨RX3, "<init>", "()V"⟩
abbrev cX3_add : ByteArray := prog_5_method_2_code
def yX3_add : MethodName := ⟨RX3, "add", "(I)Z"⟩
abbrev cX3_clear : ByteArray := prog_5_method_3_code
def yX3_clear : MethodName := ⟨RX3, "clear", "()V"⟩
abbrev cX3_signAt : ByteArray := prog_5_method_4_code
def yX3_signAt : MethodName := ⟨RX3, "signAt", "(I)I"⟩
abbrev cX3_isLetter : ByteArray := prog_5_method_5_code
def yX3_isLetter : MethodName := ⟨RX3, "isLetter", "(I)Z"⟩
abbrev cX3_faultAt : ByteArray := prog_5_method_6_code
def yX3_faultAt : MethodName := ⟨RX3, "faultAt", "()I"⟩
abbrev cX3_layOut : ByteArray := prog_5_method_7_code
def yX3_layOut : MethodName := ⟨RX3, "layOut", "(LSidingOrders$Yard;)V"⟩
def RX4 : String := "SidingOrders$Places"
def TX4 : u_T := fun k => match k with
  | 0 => ("SidingOrders$Places", "rows", "[I", true)
  | _ => ("SidingOrders$Places", "counts", "[I", true)
def tyX4 : Nat → FieldType := fun k => match k with
  | 0 => .array .int
  | _ => .array .int
abbrev wsX40 : List Cond := u_ws RX4 TX4 2
theorem nmX4 : ∀ a, a < 2 → ∀ b, b < 2 → a ≠ b → (TX4 a).2.1 ≠ (TX4 b).2.1 := by decide +kernel
theorem tyX4_ok : ∀ k, k < 2 → parseFieldDescriptor (TX4 k).2.2.1 = some (tyX4 k) := by decide +kernel
abbrev cX4_init : ByteArray := prog_6_method_1_code
def yX4_init : MethodName := ⟨RX4, "<init>", "()V"⟩
abbrev cX4_begin : ByteArray := prog_6_method_2_code
def yX4_begin : MethodName := ⟨RX4, "begin", "(II)V"⟩
abbrev cX4_copyFrom : ByteArray := prog_6_method_3_code
def yX4_copyFrom : MethodName := ⟨RX4, "copyFrom", "(LSidingOrders$Places;)V"⟩
abbrev cX4_rowAt : ByteArray := prog_6_method_4_code
def yX4_rowAt : MethodName := ⟨RX4, "rowAt", "(I)I"⟩
abbrev cX4_countAt : ByteArray := prog_6_method_5_code
def yX4_countAt : MethodName := ⟨RX4, "countAt", "(I)I"⟩
abbrev cX4_isFarPut : ByteArray := prog_6_method_6_code
def yX4_isFarPut : MethodName := ⟨RX4, "isFarPut", "(I)Z"⟩
abbrev cX4_isFarTake : ByteArray := prog_6_method_7_code
def yX4_isFarTake : MethodName := ⟨RX4, "isFarTake", "(I)Z"⟩
abbrev cX4_allows : ByteArray := prog_6_method_8_code
def yX4_allows : MethodName := ⟨RX4, "allows", "(LSidingOrders$Yard;I)Z"⟩
abbrev cX4_wagonOf : ByteArray := prog_6_method_9_code
def yX4_wagonOf : MethodName := ⟨RX4, "wagonOf", "(I)I"⟩
abbrev cX4_shift : ByteArray := prog_6_method_10_code
def yX4_shift : MethodName := ⟨RX4, "shift", "(I)V"⟩
abbrev cX4_unshift : ByteArray := prog_6_method_11_code
def yX4_unshift : MethodName := ⟨RX4, "unshift", "(I)V"⟩
abbrev cX4_take : ByteArray := prog_6_method_12_code
def yX4_take : MethodName := ⟨RX4, "take", "(IZ)I"⟩
abbrev cX4_put : ByteArray := prog_6_method_13_code
def yX4_put : MethodName := ⟨RX4, "put", "(IIZ)V"⟩
abbrev cX4_placeOfList : ByteArray := prog_6_method_14_code
def yX4_placeOfList : MethodName := ⟨RX4, "placeOfList", "(II)I"⟩
abbrev cX4_index : ByteArray := prog_6_method_15_code
def yX4_index : MethodName := ⟨RX4, "index", "(I)I"⟩
abbrev cX4_indices : ByteArray := prog_6_method_16_code
def yX4_indices : MethodName := ⟨RX4, "indices", "(II)I"⟩
abbrev cX4_setUp : ByteArray := prog_6_method_17_code
def yX4_setUp : MethodName := ⟨RX4, "setUp", "(III)V"⟩
abbrev cX4_insert : ByteArray := prog_6_method_18_code
def yX4_insert : MethodName := ⟨RX4, "insert", "(III)V"⟩
abbrev cX4_insertAt : ByteArray := prog_6_method_19_code
def yX4_insertAt : MethodName := ⟨RX4, "insertAt", "(III)V"⟩
def RX5 : String := "SidingOrders$Play"
def TX5 : u_T := fun k => match k with
  | 0 => ("SidingOrders$Play", "on", "Z", false)
  | 1 => ("SidingOrders$Play", "train", "I", false)
  | 2 => ("SidingOrders$Play", "order", "I", false)
  | 3 => ("SidingOrders$Play", "wagons", "I", false)
  | 4 => ("SidingOrders$Play", "done", "I", false)
  | 5 => ("SidingOrders$Play", "rows", "[I", true)
  | _ => ("SidingOrders$Play", "places", "LSidingOrders$Places;", true)
def tyX5 : Nat → FieldType := fun k => match k with
  | 0 => .boolean
  | 1 => .int
  | 2 => .int
  | 3 => .int
  | 4 => .int
  | 5 => .array .int
  | _ => .object "SidingOrders$Places"
abbrev wsX50 : List Cond := u_ws RX5 TX5 7
theorem nmX5 : ∀ a, a < 7 → ∀ b, b < 7 → a ≠ b → (TX5 a).2.1 ≠ (TX5 b).2.1 := by decide +kernel
theorem tyX5_ok : ∀ k, k < 7 → parseFieldDescriptor (TX5 k).2.2.1 = some (tyX5 k) := by decide +kernel
abbrev cX5_init : ByteArray := prog_7_method_1_code
def yX5_init : MethodName := ⟨RX5, "<init>", "()V"⟩
abbrev cX5_begin : ByteArray := prog_7_method_2_code
def yX5_begin : MethodName := ⟨RX5, "begin", "(III)V"⟩
abbrev cX5_copyFrom : ByteArray := prog_7_method_3_code
def yX5_copyFrom : MethodName := ⟨RX5, "copyFrom", "(LSidingOrders$Play;)V"⟩
abbrev cX5_add : ByteArray := prog_7_method_4_code
def yX5_add : MethodName := ⟨RX5, "add", "(I)Z"⟩
abbrev cX5_takeBack : ByteArray := prog_7_method_5_code
def yX5_takeBack : MethodName := ⟨RX5, "takeBack", "()Z"⟩
def RX6 : String := "SidingOrders$Rows"
def TX6 : u_T := fun k => match k with
  | _ => ("", "", "", false)
def tyX6 : Nat → FieldType := fun k => match k with
  | _ => .int
abbrev wsX60 : List Cond := u_ws RX6 TX6 0
theorem nmX6 : ∀ a, a < 0 → ∀ b, b < 0 → a ≠ b → (TX6 a).2.1 ≠ (TX6 b).2.1 := by decide +kernel
theorem tyX6_ok : ∀ k, k < 0 → parseFieldDescriptor (TX6 k).2.2.1 = some (tyX6 k) := by decide +kernel
abbrev cX6_wagons : ByteArray := prog_8_method_2_code
def yX6_wagons : MethodName := ⟨RX6, "wagons", "(I)I"⟩
abbrev cX6_setUpTo : ByteArray := prog_8_method_3_code
def yX6_setUpTo : MethodName := ⟨RX6, "setUpTo", "(I)I"⟩
abbrev cX6_pick : ByteArray := prog_8_method_4_code
def yX6_pick : MethodName := ⟨RX6, "pick", "(II)I"⟩
abbrev cX6_ofNumber : ByteArray := prog_8_method_5_code
def yX6_ofNumber : MethodName := ⟨RX6, "ofNumber", "(I)I"⟩
abbrev cX6_toNumber : ByteArray := prog_8_method_6_code
def yX6_toNumber : MethodName := ⟨RX6, "toNumber", "(I)I"⟩
abbrev cX6_wagonAt : ByteArray := prog_8_method_7_code
def yX6_wagonAt : MethodName := ⟨RX6, "wagonAt", "(II)I"⟩
abbrev cX6_placeOf : ByteArray := prog_8_method_8_code
def yX6_placeOf : MethodName := ⟨RX6, "placeOf", "(II)I"⟩
abbrev cX6_upTo : ByteArray := prog_8_method_9_code
def yX6_upTo : MethodName := ⟨RX6, "upTo", "(I)I"⟩
abbrev cX6_relative : ByteArray := prog_8_method_10_code
def yX6_relative : MethodName := ⟨RX6, "relative", "(III)I"⟩
abbrev cX6_named : ByteArray := prog_8_method_11_code
def yX6_named : MethodName := ⟨RX6, "named", "(II)I"⟩
abbrev cX6_factorial : ByteArray := prog_8_method_12_code
def yX6_factorial : MethodName := ⟨RX6, "factorial", "(I)I"⟩
abbrev cX6_rankOf : ByteArray := prog_8_method_13_code
def yX6_rankOf : MethodName := ⟨RX6, "rankOf", "(II)I"⟩
abbrev cX6_ofRank : ByteArray := prog_8_method_14_code
def yX6_ofRank : MethodName := ⟨RX6, "ofRank", "(II)I"⟩
def RX7 : String := "SidingOrders$Search"
def TX7 : u_T := fun k => match k with
  | 0 => ("SidingOrders$Search", "known", "[I", true)
  | 1 => ("SidingOrders$Search", "places", "LSidingOrders$Places;", true)
  | 2 => ("SidingOrders$Search", "stamp", "I", false)
  | 3 => ("SidingOrders$Search", "yard", "LSidingOrders$Yard;", false)
  | 4 => ("SidingOrders$Search", "wagons", "I", false)
  | _ => ("SidingOrders$Search", "wanted", "I", false)
def tyX7 : Nat → FieldType := fun k => match k with
  | 0 => .array .int
  | 1 => .object "SidingOrders$Places"
  | 2 => .int
  | 3 => .object "SidingOrders$Yard"
  | 4 => .int
  | _ => .int
abbrev wsX70 : List Cond := u_ws RX7 TX7 6
theorem nmX7 : ∀ a, a < 6 → ∀ b, b < 6 → a ≠ b → (TX7 a).2.1 ≠ (TX7 b).2.1 := by decide +kernel
theorem tyX7_ok : ∀ k, k < 6 → parseFieldDescriptor (TX7 k).2.2.1 = some (tyX7 k) := by decide +kernel
abbrev cX7_init : ByteArray := prog_9_method_1_code
def yX7_init : MethodName := ⟨RX7, "<init>", "(LSidingOrders$Yard;)V"⟩
abbrev cX7_aim : ByteArray := prog_9_method_2_code
def yX7_aim : MethodName := ⟨RX7, "aim", "(LSidingOrders$Yard;II)V"⟩
abbrev cX7_forget : ByteArray := prog_9_method_3_code
def yX7_forget : MethodName := ⟨RX7, "forget", "()V"⟩
abbrev cX7_comesOut : ByteArray := prog_9_method_4_code
def yX7_comesOut : MethodName := ⟨RX7, "comesOut", "()Z"⟩
abbrev cX7_restFrom : ByteArray := prog_9_method_5_code
def yX7_restFrom : MethodName := ⟨RX7, "restFrom", "(LSidingOrders$Places;)I"⟩
abbrev cX7_nextFrom : ByteArray := prog_9_method_6_code
def yX7_nextFrom : MethodName := ⟨RX7, "nextFrom", "(LSidingOrders$Places;)I"⟩
abbrev cX7_firstRow : ByteArray := prog_9_method_7_code
def yX7_firstRow : MethodName := ⟨RX7, "firstRow", "(I)I"⟩
abbrev cX7_fits : ByteArray := prog_9_method_8_code
def yX7_fits : MethodName := ⟨RX7, "fits", "(I)Z"⟩
abbrev cX7_isAstray : ByteArray := prog_9_method_9_code
def yX7_isAstray : MethodName := ⟨RX7, "isAstray", "()Z"⟩
abbrev cX7_bestMove : ByteArray := prog_9_method_10_code
def yX7_bestMove : MethodName := ⟨RX7, "bestMove", "()I"⟩
abbrev cX7_remaining : ByteArray := prog_9_method_11_code
def yX7_remaining : MethodName := ⟨RX7, "remaining", "(LSidingOrders$Search;I)I"⟩
def RX8 : String := "SidingOrders$Survey"
def TX8 : u_T := fun k => match k with
  | 0 => ("SidingOrders$Survey", "steps", "[B", true)
  | 1 => ("SidingOrders$Survey", "rows", "[J", true)
  | _ => ("SidingOrders$Survey", "places", "LSidingOrders$Places;", true)
def tyX8 : Nat → FieldType := fun k => match k with
  | 0 => .array .byte
  | 1 => .array .long
  | _ => .object "SidingOrders$Places"
abbrev wsX80 : List Cond := u_ws RX8 TX8 3
theorem nmX8 : ∀ a, a < 3 → ∀ b, b < 3 → a ≠ b → (TX8 a).2.1 ≠ (TX8 b).2.1 := by decide +kernel
theorem tyX8_ok : ∀ k, k < 3 → parseFieldDescriptor (TX8 k).2.2.1 = some (tyX8 k) := by decide +kernel
abbrev cX8_init : ByteArray := prog_10_method_1_code
def yX8_init : MethodName := ⟨RX8, "<init>", "()V"⟩
abbrev cX8_fill : ByteArray := prog_10_method_2_code
def yX8_fill : MethodName := ⟨RX8, "fill", "(LSidingOrders$Yard;I)V"⟩
abbrev cX8_spread : ByteArray := prog_10_method_3_code
def yX8_spread : MethodName := ⟨RX8, "spread", "(LSidingOrders$Yard;IJ)V"⟩
abbrev cX8_reach : ByteArray := prog_10_method_4_code
def yX8_reach : MethodName := ⟨RX8, "reach", "(IIJ)V"⟩
def RX9 : String := "SidingOrders$Thumbs"
def TX9 : u_T := fun k => match k with
  | _ => ("SidingOrders$Thumbs", "places", "LSidingOrders$Places;", true)
def tyX9 : Nat → FieldType := fun k => match k with
  | _ => .object "SidingOrders$Places"
abbrev wsX90 : List Cond := u_ws RX9 TX9 1
theorem nmX9 : ∀ a, a < 1 → ∀ b, b < 1 → a ≠ b → (TX9 a).2.1 ≠ (TX9 b).2.1 := by decide +kernel
theorem tyX9_ok : ∀ k, k < 1 → parseFieldDescriptor (TX9 k).2.2.1 = some (tyX9 k) := by decide +kernel
abbrev cX9_init : ByteArray := prog_11_method_1_code
def yX9_init : MethodName := ⟨RX9, "<init>", "()V"⟩
abbrev cX9_outInOrder : ByteArray := prog_11_method_2_code
def yX9_outInOrder : MethodName := ⟨RX9, "outInOrder", "(LSidingOrders$Yard;III)I"⟩
abbrev cX9_choose : ByteArray := prog_11_method_3_code
def yX9_choose : MethodName := ⟨RX9, "choose", "(LSidingOrders$Yard;I)I"⟩
abbrev cX9_wantedOut : ByteArray := prog_11_method_4_code
def yX9_wantedOut : MethodName := ⟨RX9, "wantedOut", "(LSidingOrders$Yard;)I"⟩
abbrev cX9_fromEntry : ByteArray := prog_11_method_5_code
def yX9_fromEntry : MethodName := ⟨RX9, "fromEntry", "(LSidingOrders$Yard;I)I"⟩
abbrev cX9_isBelowAll : ByteArray := prog_11_method_6_code
def yX9_isBelowAll : MethodName := ⟨RX9, "isBelowAll", "(II)Z"⟩
abbrev cX9_onward : ByteArray := prog_11_method_7_code
def yX9_onward : MethodName := ⟨RX9, "onward", "(LSidingOrders$Yard;)I"⟩
def RX10 : String := "SidingOrders$Yard"
def TX10 : u_T := fun k => match k with
  | 0 => ("SidingOrders$Yard", "sidings", "I", false)
  | 1 => ("SidingOrders$Yard", "stages", "I", false)
  | 2 => ("SidingOrders$Yard", "moveCount", "I", false)
  | 3 => ("SidingOrders$Yard", "dashes", "I", false)
  | 4 => ("SidingOrders$Yard", "letter", "[I", true)
  | 5 => ("SidingOrders$Yard", "length", "[I", true)
  | 6 => ("SidingOrders$Yard", "stage", "[I", true)
  | 7 => ("SidingOrders$Yard", "numbers", "[I", true)
  | _ => ("SidingOrders$Yard", "outcomes", "LSidingOrders$Outcomes;", true)
def tyX10 : Nat → FieldType := fun k => match k with
  | 0 => .int
  | 1 => .int
  | 2 => .int
  | 3 => .int
  | 4 => .array .int
  | 5 => .array .int
  | 6 => .array .int
  | 7 => .array .int
  | _ => .object "SidingOrders$Outcomes"
abbrev wsX100 : List Cond := u_ws RX10 TX10 9
theorem nmX10 : ∀ a, a < 9 → ∀ b, b < 9 → a ≠ b → (TX10 a).2.1 ≠ (TX10 b).2.1 := by decide +kernel
theorem tyX10_ok : ∀ k, k < 9 → parseFieldDescriptor (TX10 k).2.2.1 = some (tyX10 k) := by decide +kernel
abbrev cX10_init : ByteArray := prog_12_method_1_code
def yX10_init : MethodName := ⟨RX10, "<init>", "()V"⟩
abbrev cX10_clear : ByteArray := prog_12_method_2_code
def yX10_clear : MethodName := ⟨RX10, "clear", "()V"⟩
abbrev cX10_copyFrom : ByteArray := prog_12_method_3_code
def yX10_copyFrom : MethodName := ⟨RX10, "copyFrom", "(LSidingOrders$Yard;)V"⟩
abbrev cX10_addDash : ByteArray := prog_12_method_4_code
def yX10_addDash : MethodName := ⟨RX10, "addDash", "()V"⟩
abbrev cX10_addSiding : ByteArray := prog_12_method_5_code
def yX10_addSiding : MethodName := ⟨RX10, "addSiding", "(II)V"⟩
abbrev cX10_letterAt : ByteArray := prog_12_method_6_code
def yX10_letterAt : MethodName := ⟨RX10, "letterAt", "(I)I"⟩
abbrev cX10_lengthAt : ByteArray := prog_12_method_7_code
def yX10_lengthAt : MethodName := ⟨RX10, "lengthAt", "(I)I"⟩
abbrev cX10_setLength : ByteArray := prog_12_method_8_code
def yX10_setLength : MethodName := ⟨RX10, "setLength", "(II)V"⟩
abbrev cX10_stageAt : ByteArray := prog_12_method_9_code
def yX10_stageAt : MethodName := ⟨RX10, "stageAt", "(I)I"⟩
abbrev cX10_stageOf : ByteArray := prog_12_method_10_code
def yX10_stageOf : MethodName := ⟨RX10, "stageOf", "(I)I"⟩
abbrev cX10_reaches : ByteArray := prog_12_method_11_code
def yX10_reaches : MethodName := ⟨RX10, "reaches", "(II)Z"⟩
abbrev cX10_takesOutAt : ByteArray := prog_12_method_12_code
def yX10_takesOutAt : MethodName := ⟨RX10, "takesOutAt", "(II)Z"⟩
abbrev cX10_putsInAt : ByteArray := prog_12_method_13_code
def yX10_putsInAt : MethodName := ⟨RX10, "putsInAt", "(II)Z"⟩
abbrev cX10_listMoves : ByteArray := prog_12_method_14_code
def yX10_listMoves : MethodName := ⟨RX10, "listMoves", "()V"⟩
abbrev cX10_listMovesFrom : ByteArray := prog_12_method_15_code
def yX10_listMovesFrom : MethodName := ⟨RX10, "listMovesFrom", "(II)V"⟩
abbrev cX10_addMove : ByteArray := prog_12_method_16_code
def yX10_addMove : MethodName := ⟨RX10, "addMove", "(I)V"⟩
abbrev cX10_moveAt : ByteArray := prog_12_method_17_code
def yX10_moveAt : MethodName := ⟨RX10, "moveAt", "(I)I"⟩
abbrev cX10_hasMove : ByteArray := prog_12_method_18_code
def yX10_hasMove : MethodName := ⟨RX10, "hasMove", "(I)Z"⟩
def RX11 : String := "SidingOrders"
def TX11 : u_T := fun k => match k with
  | 0 => ("SidingOrders", "pad", "LSidingOrders$Pad;", true)
  | 1 => ("SidingOrders", "yard", "LSidingOrders$Yard;", true)
  | 2 => ("SidingOrders", "other", "LSidingOrders$Yard;", true)
  | 3 => ("SidingOrders", "play", "LSidingOrders$Play;", true)
  | 4 => ("SidingOrders", "imageZero", "LSidingOrders$Image;", true)
  | 5 => ("SidingOrders", "imageOne", "LSidingOrders$Image;", true)
  | 6 => ("SidingOrders", "survey", "LSidingOrders$Survey;", true)
  | 7 => ("SidingOrders", "search", "LSidingOrders$Search;", true)
  | 8 => ("SidingOrders", "needs", "LSidingOrders$Needs;", true)
  | _ => ("SidingOrders", "thumbs", "LSidingOrders$Thumbs;", true)
def tyX11 : Nat → FieldType := fun k => match k with
  | 0 => .object "SidingOrders$Pad"
  | 1 => .object "SidingOrders$Yard"
  | 2 => .object "SidingOrders$Yard"
  | 3 => .object "SidingOrders$Play"
  | 4 => .object "SidingOrders$Image"
  | 5 => .object "SidingOrders$Image"
  | 6 => .object "SidingOrders$Survey"
  | 7 => .object "SidingOrders$Search"
  | 8 => .object "SidingOrders$Needs"
  | _ => .object "SidingOrders$Thumbs"
abbrev wsX110 : List Cond := u_ws RX11 TX11 10
theorem nmX11 : ∀ a, a < 10 → ∀ b, b < 10 → a ≠ b → (TX11 a).2.1 ≠ (TX11 b).2.1 := by decide +kernel
theorem tyX11_ok : ∀ k, k < 10 → parseFieldDescriptor (TX11 k).2.2.1 = some (tyX11 k) := by decide +kernel
abbrev cX11_init : ByteArray := prog_1_method_1_code
def yX11_init : MethodName := ⟨RX11, "<init>", "()V"⟩
abbrev cX11_say : ByteArray := prog_1_method_2_code
def yX11_say : MethodName := ⟨RX11, "say", "(I)I"⟩
abbrev cX11_wipe : ByteArray := prog_1_method_3_code
def yX11_wipe : MethodName := ⟨RX11, "wipe", "()I"⟩
abbrev cX11_fault : ByteArray := prog_1_method_4_code
def yX11_fault : MethodName := ⟨RX11, "fault", "()I"⟩
abbrev cX11_yard : ByteArray := prog_1_method_5_code
def yX11_yard : MethodName := ⟨RX11, "yard", "()I"⟩
abbrev cX11_siding : ByteArray := prog_1_method_6_code
def yX11_siding : MethodName := ⟨RX11, "siding", "(II)I"⟩
abbrev cX11_leads : ByteArray := prog_1_method_7_code
def yX11_leads : MethodName := ⟨RX11, "leads", "(II)I"⟩
abbrev cX11_least : ByteArray := prog_1_method_8_code
def yX11_least : MethodName := ⟨RX11, "least", "(II)I"⟩
abbrev cX11_ways : ByteArray := prog_1_method_9_code
def yX11_ways : MethodName := ⟨RX11, "ways", "(II)J"⟩
abbrev cX11_first : ByteArray := prog_1_method_10_code
def yX11_first : MethodName := ⟨RX11, "first", "(III)I"⟩
abbrev cX11_orders : ByteArray := prog_1_method_11_code
def yX11_orders : MethodName := ⟨RX11, "orders", "(II)I"⟩
abbrev cX11_good : ByteArray := prog_1_method_12_code
def yX11_good : MethodName := ⟨RX11, "good", "(II)I"⟩
abbrev cX11_mean : ByteArray := prog_1_method_13_code
def yX11_mean : MethodName := ⟨RX11, "mean", "(II)J"⟩
abbrev cX11_need : ByteArray := prog_1_method_14_code
def yX11_need : MethodName := ⟨RX11, "need", "(II)I"⟩
abbrev cX11_keep : ByteArray := prog_1_method_15_code
def yX11_keep : MethodName := ⟨RX11, "keep", "()I"⟩
abbrev cX11_unlike : ByteArray := prog_1_method_16_code
def yX11_unlike : MethodName := ⟨RX11, "unlike", "(I)I"⟩
abbrev cX11_play : ByteArray := prog_1_method_17_code
def yX11_play : MethodName := ⟨RX11, "play", "(II)I"⟩
abbrev cX11_move : ByteArray := prog_1_method_18_code
def yX11_move : MethodName := ⟨RX11, "move", "(I)I"⟩
abbrev cX11_back : ByteArray := prog_1_method_19_code
def yX11_back : MethodName := ⟨RX11, "back", "()I"⟩
abbrev cX11_rest : ByteArray := prog_1_method_20_code
def yX11_rest : MethodName := ⟨RX11, "rest", "()I"⟩
abbrev cX11_next : ByteArray := prog_1_method_21_code
def yX11_next : MethodName := ⟨RX11, "next", "()I"⟩
abbrev cX11_moves : ByteArray := prog_1_method_22_code
def yX11_moves : MethodName := ⟨RX11, "moves", "(I)I"⟩
abbrev cX11_stand : ByteArray := prog_1_method_23_code
def yX11_stand : MethodName := ⟨RX11, "stand", "(I)I"⟩
abbrev cX11_thumb : ByteArray := prog_1_method_24_code
def yX11_thumb : MethodName := ⟨RX11, "thumb", "(II)I"⟩
abbrev cX11_sorts : ByteArray := prog_1_method_25_code
def yX11_sorts : MethodName := ⟨RX11, "sorts", "(II)I"⟩
abbrev cX11_draw : ByteArray := prog_1_method_26_code
def yX11_draw : MethodName := ⟨RX11, "draw", "(II)I"⟩
abbrev cX11_image : ByteArray := prog_1_method_27_code
def yX11_image : MethodName := ⟨RX11, "image", "(I)I"⟩
abbrev cX11_restore : ByteArray := prog_1_method_28_code
def yX11_restore : MethodName := ⟨RX11, "restore", "(I)I"⟩
abbrev cX11_told : ByteArray := prog_1_method_29_code
def yX11_told : MethodName := ⟨RX11, "told", "(I)I"⟩
abbrev cX11_forgetFindings : ByteArray := prog_1_method_30_code
def yX11_forgetFindings : MethodName := ⟨RX11, "forgetFindings", "()V"⟩
abbrev cX11_isMissing : ByteArray := prog_1_method_31_code
def yX11_isMissing : MethodName := ⟨RX11, "isMissing", "(I)Z"⟩
abbrev cX11_arePair : ByteArray := prog_1_method_32_code
def yX11_arePair : MethodName := ⟨RX11, "arePair", "(II)Z"⟩
abbrev cX11_leastOf : ByteArray := prog_1_method_33_code
def yX11_leastOf : MethodName := ⟨RX11, "leastOf", "(LSidingOrders$Yard;III)I"⟩
abbrev cX11_leastSorted : ByteArray := prog_1_method_34_code
def yX11_leastSorted : MethodName := ⟨RX11, "leastSorted", "(LSidingOrders$Yard;II)I"⟩
abbrev cX11_aimAtPlay : ByteArray := prog_1_method_35_code
def yX11_aimAtPlay : MethodName := ⟨RX11, "aimAtPlay", "()V"⟩
abbrev cX11_imageAt : ByteArray := prog_1_method_36_code
def yX11_imageAt : MethodName := ⟨RX11, "imageAt", "(I)LSidingOrders$Image;"⟩
abbrev cX11_inLowestTerms : ByteArray := prog_1_method_37_code
def yX11_inLowestTerms : MethodName := ⟨RX11, "inLowestTerms", "(III)J"⟩
abbrev cX11_copyInts : ByteArray := prog_1_method_38_code
def yX11_copyInts : MethodName := ⟨RX11, "copyInts", "([I[I)V"⟩
def RX12 : String := "SidingOrdersModel"
def TX12 : u_T := fun k => match k with
  | 0 => ("SidingOrdersModel", "letter", "[I", true)
  | 1 => ("SidingOrdersModel", "length", "[I", true)
  | 2 => ("SidingOrdersModel", "stageOf", "[I", true)
  | 3 => ("SidingOrdersModel", "straight", "[I", true)
  | 4 => ("SidingOrdersModel", "many", "I", false)
  | 5 => ("SidingOrdersModel", "stages", "I", false)
  | 6 => ("SidingOrdersModel", "otherLetter", "[I", true)
  | 7 => ("SidingOrdersModel", "otherLength", "[I", true)
  | 8 => ("SidingOrdersModel", "otherStage", "[I", true)
  | 9 => ("SidingOrdersModel", "otherStraight", "[I", true)
  | 10 => ("SidingOrdersModel", "otherMany", "I", false)
  | 11 => ("SidingOrdersModel", "otherStages", "I", false)
  | 12 => ("SidingOrdersModel", "signs", "[I", true)
  | 13 => ("SidingOrdersModel", "signMany", "I", false)
  | 14 => ("SidingOrdersModel", "item", "[I", true)
  | 15 => ("SidingOrdersModel", "count", "[I", true)
  | 16 => ("SidingOrdersModel", "gone", "I", false)
  | 17 => ("SidingOrdersModel", "slotKey", "[I", true)
  | 18 => ("SidingOrdersModel", "slotMark", "[I", true)
  | 19 => ("SidingOrdersModel", "slotFar", "[I", true)
  | 20 => ("SidingOrdersModel", "slotWays", "[J", true)
  | 21 => ("SidingOrdersModel", "queue", "[I", true)
  | 22 => ("SidingOrdersModel", "queued", "I", false)
  | 23 => ("SidingOrdersModel", "mark", "I", false)
  | 24 => ("SidingOrdersModel", "wanted", "[I", true)
  | 25 => ("SidingOrdersModel", "wantedMany", "I", false)
  | 26 => ("SidingOrdersModel", "farOf", "[I", true)
  | 27 => ("SidingOrdersModel", "waysOf", "[J", true)
  | 28 => ("SidingOrdersModel", "isFound", "[Z", true)
  | 29 => ("SidingOrdersModel", "row", "[I", true)
  | 30 => ("SidingOrdersModel", "train", "[I", true)
  | 31 => ("SidingOrdersModel", "listed", "[I", true)
  | 32 => ("SidingOrdersModel", "was", "[I", true)
  | 33 => ("SidingOrdersModel", "bestNeed", "[I", true)
  | 34 => ("SidingOrdersModel", "isGood", "[Z", true)
  | 35 => ("SidingOrdersModel", "playTrain", "I", false)
  | 36 => ("SidingOrdersModel", "playOrder", "I", false)
  | 37 => ("SidingOrdersModel", "playWagons", "I", false)
  | 38 => ("SidingOrdersModel", "playKeys", "[I", true)
  | 39 => ("SidingOrdersModel", "playDone", "I", false)
  | 40 => ("SidingOrdersModel", "kept", "[I", true)
  | 41 => ("SidingOrdersModel", "isKept", "[Z", true)
  | 42 => ("SidingOrdersModel", "keptAt", "I", false)
  | _ => ("SidingOrdersModel", "isWriting", "Z", false)
def tyX12 : Nat → FieldType := fun k => match k with
  | 0 => .array .int
  | 1 => .array .int
  | 2 => .array .int
  | 3 => .array .int
  | 4 => .int
  | 5 => .int
  | 6 => .array .int
  | 7 => .array .int
  | 8 => .array .int
  | 9 => .array .int
  | 10 => .int
  | 11 => .int
  | 12 => .array .int
  | 13 => .int
  | 14 => .array .int
  | 15 => .array .int
  | 16 => .int
  | 17 => .array .int
  | 18 => .array .int
  | 19 => .array .int
  | 20 => .array .long
  | 21 => .array .int
  | 22 => .int
  | 23 => .int
  | 24 => .array .int
  | 25 => .int
  | 26 => .array .int
  | 27 => .array .long
  | 28 => .array .boolean
  | 29 => .array .int
  | 30 => .array .int
  | 31 => .array .int
  | 32 => .array .int
  | 33 => .array .int
  | 34 => .array .boolean
  | 35 => .int
  | 36 => .int
  | 37 => .int
  | 38 => .array .int
  | 39 => .int
  | 40 => .array .int
  | 41 => .array .boolean
  | 42 => .int
  | _ => .boolean
abbrev wsX120 : List Cond := u_ws RX12 TX12 44
theorem nmX12 : ∀ a, a < 44 → ∀ b, b < 44 → a ≠ b → (TX12 a).2.1 ≠ (TX12 b).2.1 := by decide +kernel
theorem tyX12_ok : ∀ k, k < 44 → parseFieldDescriptor (TX12 k).2.2.1 = some (tyX12 k) := by decide +kernel
abbrev cX12_init : ByteArray := prog_14_method_1_code
def yX12_init : MethodName := ⟨RX12, "<init>", "()V"⟩
abbrev cX12_in : ByteArray := prog_14_method_3_code
def yX12_in : MethodName := ⟨RX12, "in", "(JJJ)Z"⟩
abbrev cX12_lowest : ByteArray := prog_14_method_4_code
def yX12_lowest : MethodName := ⟨RX12, "lowest", "(JJI)J"⟩
abbrev cX12_say : ByteArray := prog_14_method_5_code
def yX12_say : MethodName := ⟨RX12, "say", "(I)I"⟩
abbrev cX12_wipe : ByteArray := prog_14_method_6_code
def yX12_wipe : MethodName := ⟨RX12, "wipe", "()I"⟩
abbrev cX12_isLetter : ByteArray := prog_14_method_7_code
def yX12_isLetter : MethodName := ⟨RX12, "isLetter", "(I)Z"⟩
abbrev cX12_fault : ByteArray := prog_14_method_8_code
def yX12_fault : MethodName := ⟨RX12, "fault", "()I"⟩
abbrev cX12_yard : ByteArray := prog_14_method_9_code
def yX12_yard : MethodName := ⟨RX12, "yard", "()I"⟩
abbrev cX12_isSiding : ByteArray := prog_14_method_10_code
def yX12_isSiding : MethodName := ⟨RX12, "isSiding", "(I)Z"⟩
abbrev cX12_siding : ByteArray := prog_14_method_11_code
def yX12_siding : MethodName := ⟨RX12, "siding", "(II)I"⟩
abbrev cX12_goes : ByteArray := prog_14_method_12_code
def yX12_goes : MethodName := ⟨RX12, "goes", "(II)Z"⟩
abbrev cX12_leads : ByteArray := prog_14_method_13_code
def yX12_leads : MethodName := ⟨RX12, "leads", "(II)I"⟩
abbrev cX12_decode : ByteArray := prog_14_method_14_code
def yX12_decode : MethodName := ⟨RX12, "decode", "(I)V"⟩
abbrev cX12_putNear : ByteArray := prog_14_method_15_code
def yX12_putNear : MethodName := ⟨RX12, "putNear", "(II)V"⟩
abbrev cX12_putFar : ByteArray := prog_14_method_16_code
def yX12_putFar : MethodName := ⟨RX12, "putFar", "(II)V"⟩
abbrev cX12_encode : ByteArray := prog_14_method_17_code
def yX12_encode : MethodName := ⟨RX12, "encode", "()I"⟩
abbrev cX12_takeNear : ByteArray := prog_14_method_18_code
def yX12_takeNear : MethodName := ⟨RX12, "takeNear", "(I)I"⟩
abbrev cX12_takeFar : ByteArray := prog_14_method_19_code
def yX12_takeFar : MethodName := ⟨RX12, "takeFar", "(I)I"⟩
abbrev cX12_canMove : ByteArray := prog_14_method_20_code
def yX12_canMove : MethodName := ⟨RX12, "canMove", "(IIIII)Z"⟩
abbrev cX12_isOut : ByteArray := prog_14_method_21_code
def yX12_isOut : MethodName := ⟨RX12, "isOut", "(II)Z"⟩
abbrev cX12_isIn : ByteArray := prog_14_method_22_code
def yX12_isIn : MethodName := ⟨RX12, "isIn", "(II)Z"⟩
abbrev cX12_doMove : ByteArray := prog_14_method_23_code
def yX12_doMove : MethodName := ⟨RX12, "doMove", "(IIII)V"⟩
abbrev cX12_slotOf : ByteArray := prog_14_method_24_code
def yX12_slotOf : MethodName := ⟨RX12, "slotOf", "(I)I"⟩
abbrev cX12_come : ByteArray := prog_14_method_25_code
def yX12_come : MethodName := ⟨RX12, "come", "(IIJ)V"⟩
abbrev cX12_isWanted : ByteArray := prog_14_method_26_code
def yX12_isWanted : MethodName := ⟨RX12, "isWanted", "()Z"⟩
abbrev cX12_search : ByteArray := prog_14_method_27_code
def yX12_search : MethodName := ⟨RX12, "search", "(II)I"⟩
abbrev cX12_spread : ByteArray := prog_14_method_28_code
def yX12_spread : MethodName := ⟨RX12, "spread", "(II)V"⟩
abbrev cX12_forget : ByteArray := prog_14_method_29_code
def yX12_forget : MethodName := ⟨RX12, "forget", "()V"⟩
abbrev cX12_power : ByteArray := prog_14_method_30_code
def yX12_power : MethodName := ⟨RX12, "power", "(I)I"⟩
abbrev cX12_rankOf : ByteArray := prog_14_method_31_code
def yX12_rankOf : MethodName := ⟨RX12, "rankOf", "(I)I"⟩
abbrev cX12_layRow : ByteArray := prog_14_method_32_code
def yX12_layRow : MethodName := ⟨RX12, "layRow", "(II)V"⟩
abbrev cX12_findAll : ByteArray := prog_14_method_33_code
def yX12_findAll : MethodName := ⟨RX12, "findAll", "(I)V"⟩
abbrev cX12_wagonsOf : ByteArray := prog_14_method_34_code
def yX12_wagonsOf : MethodName := ⟨RX12, "wagonsOf", "(I)I"⟩
abbrev cX12_digitAt : ByteArray := prog_14_method_35_code
def yX12_digitAt : MethodName := ⟨RX12, "digitAt", "(III)I"⟩
abbrev cX12_layTrain : ByteArray := prog_14_method_36_code
def yX12_layTrain : MethodName := ⟨RX12, "layTrain", "(II)V"⟩
abbrev cX12_placeOf : ByteArray := prog_14_method_37_code
def yX12_placeOf : MethodName := ⟨RX12, "placeOf", "(II)I"⟩
abbrev cX12_layOrder : ByteArray := prog_14_method_38_code
def yX12_layOrder : MethodName := ⟨RX12, "layOrder", "(II)V"⟩
abbrev cX12_sortedOf : ByteArray := prog_14_method_39_code
def yX12_sortedOf : MethodName := ⟨RX12, "sortedOf", "(I)I"⟩
abbrev cX12_found : ByteArray := prog_14_method_40_code
def yX12_found : MethodName := ⟨RX12, "found", "(III)I"⟩
abbrev cX12_areTwo : ByteArray := prog_14_method_41_code
def yX12_areTwo : MethodName := ⟨RX12, "areTwo", "(II)Z"⟩
abbrev cX12_least : ByteArray := prog_14_method_42_code
def yX12_least : MethodName := ⟨RX12, "least", "(II)I"⟩
abbrev cX12_ways : ByteArray := prog_14_method_43_code
def yX12_ways : MethodName := ⟨RX12, "ways", "(II)J"⟩
abbrev cX12_nextOf : ByteArray := prog_14_method_44_code
def yX12_nextOf : MethodName := ⟨RX12, "nextOf", "(III)I"⟩
abbrev cX12_isMove : ByteArray := prog_14_method_45_code
def yX12_isMove : MethodName := ⟨RX12, "isMove", "(IIII)Z"⟩
abbrev cX12_moved : ByteArray := prog_14_method_46_code
def yX12_moved : MethodName := ⟨RX12, "moved", "(II)I"⟩
abbrev cX12_want : ByteArray := prog_14_method_47_code
def yX12_want : MethodName := ⟨RX12, "want", "(III)V"⟩
abbrev cX12_first : ByteArray := prog_14_method_48_code
def yX12_first : MethodName := ⟨RX12, "first", "(III)I"⟩
abbrev cX12_orders : ByteArray := prog_14_method_49_code
def yX12_orders : MethodName := ⟨RX12, "orders", "(II)I"⟩
abbrev cX12_insert : ByteArray := prog_14_method_50_code
def yX12_insert : MethodName := ⟨RX12, "insert", "(II)V"⟩
abbrev cX12_trainOf : ByteArray := prog_14_method_51_code
def yX12_trainOf : MethodName := ⟨RX12, "trainOf", "(II)I"⟩
abbrev cX12_sortFar : ByteArray := prog_14_method_52_code
def yX12_sortFar : MethodName := ⟨RX12, "sortFar", "(II)I"⟩
abbrev cX12_isCount : ByteArray := prog_14_method_53_code
def yX12_isCount : MethodName := ⟨RX12, "isCount", "(I)Z"⟩
abbrev cX12_good : ByteArray := prog_14_method_54_code
def yX12_good : MethodName := ⟨RX12, "good", "(II)I"⟩
abbrev cX12_mean : ByteArray := prog_14_method_55_code
def yX12_mean : MethodName := ⟨RX12, "mean", "(II)J"⟩
abbrev cX12_findNeed : ByteArray := prog_14_method_56_code
def yX12_findNeed : MethodName := ⟨RX12, "findNeed", "(II)I"⟩
abbrev cX12_need : ByteArray := prog_14_method_57_code
def yX12_need : MethodName := ⟨RX12, "need", "(II)I"⟩
abbrev cX12_keep : ByteArray := prog_14_method_58_code
def yX12_keep : MethodName := ⟨RX12, "keep", "()I"⟩
abbrev cX12_changeAbout : ByteArray := prog_14_method_59_code
def yX12_changeAbout : MethodName := ⟨RX12, "changeAbout", "()V"⟩
abbrev cX12_unlike : ByteArray := prog_14_method_60_code
def yX12_unlike : MethodName := ⟨RX12, "unlike", "(I)I"⟩
abbrev cX12_play : ByteArray := prog_14_method_61_code
def yX12_play : MethodName := ⟨RX12, "play", "(II)I"⟩
abbrev cX12_move : ByteArray := prog_14_method_62_code
def yX12_move : MethodName := ⟨RX12, "move", "(I)I"⟩
abbrev cX12_back : ByteArray := prog_14_method_63_code
def yX12_back : MethodName := ⟨RX12, "back", "()I"⟩
abbrev cX12_restOf : ByteArray := prog_14_method_64_code
def yX12_restOf : MethodName := ⟨RX12, "restOf", "()I"⟩
abbrev cX12_rest : ByteArray := prog_14_method_65_code
def yX12_rest : MethodName := ⟨RX12, "rest", "()I"⟩
abbrev cX12_next : ByteArray := prog_14_method_66_code
def yX12_next : MethodName := ⟨RX12, "next", "()I"⟩
abbrev cX12_moves : ByteArray := prog_14_method_67_code
def yX12_moves : MethodName := ⟨RX12, "moves", "(I)I"⟩
abbrev cX12_stand : ByteArray := prog_14_method_68_code
def yX12_stand : MethodName := ⟨RX12, "stand", "(I)I"⟩
abbrev cX12_wagonAt : ByteArray := prog_14_method_69_code
def yX12_wagonAt : MethodName := ⟨RX12, "wagonAt", "(I)I"⟩
abbrev cX12_letOut : ByteArray := prog_14_method_70_code
def yX12_letOut : MethodName := ⟨RX12, "letOut", "(I)Z"⟩
abbrev cX12_areHigher : ByteArray := prog_14_method_71_code
def yX12_areHigher : MethodName := ⟨RX12, "areHigher", "(II)Z"⟩
abbrev cX12_hasRoom : ByteArray := prog_14_method_72_code
def yX12_hasRoom : MethodName := ⟨RX12, "hasRoom", "(I)Z"⟩
abbrev cX12_chosen : ByteArray := prog_14_method_73_code
def yX12_chosen : MethodName := ⟨RX12, "chosen", "(II)I"⟩
abbrev cX12_goIn : ByteArray := prog_14_method_74_code
def yX12_goIn : MethodName := ⟨RX12, "goIn", "(II)Z"⟩
abbrev cX12_goOn : ByteArray := prog_14_method_75_code
def yX12_goOn : MethodName := ⟨RX12, "goOn", "(I)Z"⟩
abbrev cX12_thumbed : ByteArray := prog_14_method_76_code
def yX12_thumbed : MethodName := ⟨RX12, "thumbed", "(III)I"⟩
abbrev cX12_thumb : ByteArray := prog_14_method_77_code
def yX12_thumb : MethodName := ⟨RX12, "thumb", "(II)I"⟩
abbrev cX12_sorts : ByteArray := prog_14_method_78_code
def yX12_sorts : MethodName := ⟨RX12, "sorts", "(II)I"⟩
abbrev cX12_draw : ByteArray := prog_14_method_79_code
def yX12_draw : MethodName := ⟨RX12, "draw", "(II)I"⟩
abbrev cX12_pass : ByteArray := prog_14_method_80_code
def yX12_pass : MethodName := ⟨RX12, "pass", "(I)I"⟩
abbrev cX12_passAll : ByteArray := prog_14_method_81_code
def yX12_passAll : MethodName := ⟨RX12, "passAll", "()V"⟩
abbrev cX12_image : ByteArray := prog_14_method_82_code
def yX12_image : MethodName := ⟨RX12, "image", "(I)I"⟩
abbrev cX12_restore : ByteArray := prog_14_method_83_code
def yX12_restore : MethodName := ⟨RX12, "restore", "(I)I"⟩
abbrev cX12_told : ByteArray := prog_14_method_84_code
def yX12_told : MethodName := ⟨RX12, "told", "(I)I"⟩
def RJ6 : String := "java/lang/Integer"
def TJ6 : u_T := fun k => match k with
  | _ => ("", "", "", false)
def tyJ6 : Nat → FieldType := fun k => match k with
  | _ => .int
abbrev wsJ60 : List Cond := u_ws RJ6 TJ6 0
theorem nmJ6 : ∀ a, a < 0 → ∀ b, b < 0 → a ≠ b → (TJ6 a).2.1 ≠ (TJ6 b).2.1 := by decide +kernel
theorem tyJ6_ok : ∀ k, k < 0 → parseFieldDescriptor (TJ6 k).2.2.1 = some (tyJ6 k) := by decide +kernel
abbrev cJ6_bitCount_0f7a4 : ByteArray := prog_15_method_49_code
def yJ6_bitCount_0f7a4 : MethodName := ⟨RJ6, "bitCount", "(I)I"⟩
def RJ9 : String := "java/lang/Math"
def TJ9 : u_T := fun k => match k with
  | _ => ("", "", "", false)
def tyJ9 : Nat → FieldType := fun k => match k with
  | _ => .int
abbrev wsJ90 : List Cond := u_ws RJ9 TJ9 0
theorem nmJ9 : ∀ a, a < 0 → ∀ b, b < 0 → a ≠ b → (TJ9 a).2.1 ≠ (TJ9 b).2.1 := by decide +kernel
theorem tyJ9_ok : ∀ k, k < 0 → parseFieldDescriptor (TJ9 k).2.2.1 = some (tyJ9 k) := by decide +kernel
abbrev cJ9_max_7cf53 : ByteArray := prog_16_method_65_code
def yJ9_max_7cf53 : MethodName := ⟨RJ9, "max", "(II)I"⟩
abbrev cJ9_min_7cf53 : ByteArray := prog_16_method_69_code
def yJ9_min_7cf53 : MethodName := ⟨RJ9, "min", "(II)I"⟩
def RJ10 : String := "java/lang/System"
def TJ10 : u_T := fun k => match k with
  | _ => ("", "", "", false)
def tyJ10 : Nat → FieldType := fun k => match k with
  | _ => .int
abbrev wsJ100 : List Cond := u_ws RJ10 TJ10 0
theorem nmJ10 : ∀ a, a < 0 → ∀ b, b < 0 → a ≠ b → (TJ10 a).2.1 ≠ (TJ10 b).2.1 := by decide +kernel
theorem tyJ10_ok : ∀ k, k < 0 → parseFieldDescriptor (TJ10 k).2.2.1 = some (tyJ10 k) := by decide +kernel
def RL : String := "SidingOrdersLaw"
abbrev cL_law : ByteArray := code
def yL_law : MethodName := ⟨RL, "law", "([I)Z"⟩
/-! what follows is written here -/
abbrev CL : List vw_C := [(RX0, TX0, 4), (RX1, TX1, 3), (RX2, TX2, 3), (RX3, TX3, 2), (RX4, TX4, 2), (RX5, TX5, 7), (RX7, TX7, 6), (RX8, TX8, 3), (RX9, TX9, 1), (RX10, TX10, 9), (RX11, TX11, 10), (RX12, TX12, 44)]
def tyL : List (Nat → FieldType) := [tyX0, tyX1, tyX2, tyX3, tyX4, tyX5, tyX7, tyX8, tyX9, tyX10, tyX11, tyX12]
def TG : List Cond := lw_tbl.filter goodWord
theorem TG_in : ∀ w ∈ TG, w ∈ lw_tbl := fun w h => (List.mem_filter.mp h).1
theorem TG_good : ∀ w ∈ TG, goodWord w = true := fun w h => (List.mem_filter.mp h).2
theorem inX0 : ∀ w ∈ u_ws RX0 TX0 4, w ∈ TG := by decide +kernel
theorem inX1 : ∀ w ∈ u_ws RX1 TX1 3, w ∈ TG := by decide +kernel
theorem inX2 : ∀ w ∈ u_ws RX2 TX2 3, w ∈ TG := by decide +kernel
theorem inX3 : ∀ w ∈ u_ws RX3 TX3 2, w ∈ TG := by decide +kernel
theorem inX4 : ∀ w ∈ u_ws RX4 TX4 2, w ∈ TG := by decide +kernel
theorem inX5 : ∀ w ∈ u_ws RX5 TX5 7, w ∈ TG := by decide +kernel
theorem inX7 : ∀ w ∈ u_ws RX7 TX7 6, w ∈ TG := by decide +kernel
theorem inX8 : ∀ w ∈ u_ws RX8 TX8 3, w ∈ TG := by decide +kernel
theorem inX9 : ∀ w ∈ u_ws RX9 TX9 1, w ∈ TG := by decide +kernel
theorem inX10 : ∀ w ∈ u_ws RX10 TX10 9, w ∈ TG := by decide +kernel
theorem inX11 : ∀ w ∈ u_ws RX11 TX11 10, w ∈ TG := by decide +kernel
theorem inX12 : ∀ w ∈ u_ws RX12 TX12 44, w ∈ TG := by decide +kernel
end
section
/-! THE ABSTRACT MACHINE: cells in a list, references by their places in it; straight stretches of code as a function -/
abbrev AE : Type := (Nat × vp_A) ⊕ (Nat × List Value)
abbrev AH : Type := List AE
/-- pc, locals, stack, cells, cells and slots that may still be made -/
abbrev AC : Type := Nat × List (Option Value) × List Value × AH × Nat × Nat
/-- pc, length, instruction, three numbers that the link gives, a constant -/
abbrev CI : Type := Nat × Nat × Instr × Nat × Nat × Nat × Value
def cV (ad : Nat → Nat) : Value → Value
  | .ref i => .ref (ad i)
  | .int v => .int v
  | .long v => .long v
  | .float v => .float v
  | .double v => .double v
  | .null => .null
  | .retAddr q => .retAddr q
def cE (ad : Nat → Nat) (cA : Nat → ClassId) : AE → va_E
  | .inl x => .inl (cA x.1, x.2)
  | .inr x => .inr (x.1, x.2.map (cV ad))
def cW (ad : Nat → Nat) (cA : Nat → ClassId) (h : AH) : va_W := h.mapIdx (fun i e => (ad i, cE ad cA e))
theorem cV_cat (ad : Nat → Nat) (v : Value) : (cV ad v).category = v.category := by cases v <;> rfl
theorem cW_get {ad : Nat → Nat} {cA : Nat → ClassId} {h : AH} {i : Nat} {e : AE} (he : h[i]? = some e) : (cW ad cA h)[i]? = some (ad i, cE ad cA e) := by
  simp [cW, he]
theorem cW_len (ad : Nat → Nat) (cA : Nat → ClassId) (h : AH) : (cW ad cA h).length = h.length := by simp [cW]
theorem cW_of {ad : Nat → Nat} {cA : Nat → ClassId} {h : AH} {i : Nat} {q : Nat × va_E} (hq : (cW ad cA h)[i]? = some q) : ∃ e, h[i]? = some e ∧ q = (ad i, cE ad cA e) := by
  rw [cW, List.getElem?_mapIdx] at hq
  cases he : h[i]? with
  | none => rw [he] at hq; cases hq
  | some e => rw [he] at hq; exact ⟨e, rfl, (Option.some.inj hq).symm⟩
theorem cW_set (ad : Nat → Nat) (cA : Nat → ClassId) (h : AH) (i : Nat) (e : AE) : (cW ad cA h).set i (ad i, cE ad cA e) = cW ad cA (h.set i e) := by
  apply List.ext_getElem?
  intro j
  rw [cW, cW, List.getElem?_mapIdx, List.getElem?_set, List.getElem?_set, List.getElem?_mapIdx, List.length_mapIdx]
  by_cases hj : i = j
  · subst hj
    by_cases hl : i < h.length <;> simp [hl]
  · simp [hj]
theorem cE_fields {ad : Nat → Nat} {cA : Nat → ClassId} {ci k : Nat} {fs : List Value} {v : Value} : (.inr (ci, (fs.map (cV ad)).set k (cV ad v)) : va_E) = cE ad cA (.inr (ci, fs.set k v)) := by
  simp [cE, List.map_set]
abbrev tysOf (cA : Nat → ClassId) : List (ClassId × FieldType) := [(cA 0, .int), (cA 1, .long), (cA 2, .byte), (cA 3, .boolean)]
abbrev inb (i : Int32) (n : Nat) : Prop := ¬ (i < 0 ∨ n ≤ i.toNatClampNeg)
abbrev isZ (v : Int32) : Prop := narrow .boolean (.int v) = .int v
def irm (x y : Int32) : Int32 := x - x / y * y
def lrm (x y : Int64) : Int64 := x - x / y * y
def iush (x y : Int32) : Int32 := (x.toUInt32 >>> (y.toUInt32 &&& Int32.toUInt32 31)).toInt32
/-- the locals: what is known of them -/
def LH (ad : Nat → Nat) (nL : Nat) (vs : List (Option Value)) (ls : Array Slot) : Prop := vs.length = nL ∧ ls.size = nL ∧ lv_wf ls ∧ ∀ (i : Nat) (v : Value), vs[i]? = some (some v) → ls[i]? = some (.val (cV ad v))
def lvp (ad : Nat → Nat) (vs : List (Option Value)) : List (Nat × Value) := (vs.mapIdx (fun i o => o.map (fun v => (i, cV ad v)))).filterMap id
theorem lvp_mem {ad : Nat → Nat} {vs : List (Option Value)} {q : Nat × Value} : q ∈ lvp ad vs ↔ ∃ v, vs[q.1]? = some (some v) ∧ q.2 = cV ad v := by
  unfold lvp
  rw [List.mem_filterMap]
  constructor
  · rintro ⟨o, ho, hq⟩
    obtain ⟨i, hi⟩ := List.getElem?_of_mem ho
    rw [List.getElem?_mapIdx] at hi
    cases hv : vs[i]? with
    | none => rw [hv] at hi; cases hi
    | some o2 =>
      rw [hv] at hi
      have h1 := Option.some.inj hi
      subst h1
      cases o2 with
      | none => cases hq
      | some v => cases hq; exact ⟨v, hv, rfl⟩
  · rintro ⟨v, hv, hq⟩
    refine ⟨some q, List.mem_of_getElem? (i := q.1) ?_, rfl⟩
    rw [List.getElem?_mapIdx, hv]
    obtain ⟨a, b⟩ := q
    simp at hq
    simp [hq]
theorem LH_has {ad : Nat → Nat} {nL : Nat} {vs : List (Option Value)} {ls : Array Slot} (h : LH ad nL vs ls) : lv_has ls nL (lvp ad vs) := by
  refine ⟨h.2.1, h.2.2.1, fun q hq => ?_⟩
  obtain ⟨v, hv, e⟩ := lvp_mem.mp hq
  rw [e]
  exact h.2.2.2 _ _ hv
/-- what is written at i goes over a long that stands at i - 1 -/
def clr (vs : List (Option Value)) (i : Nat) : List (Option Value) := match i with
  | 0 => vs
  | j + 1 => match vs[j]? with
    | some (some (.long _)) => vs.set j none
    | some (some (.double _)) => vs.set j none
    | _ => vs
theorem clr_len (vs : List (Option Value)) (i : Nat) : (clr vs i).length = vs.length := by
  unfold clr; split
  · rfl
  · split <;> simp
theorem clr_of {vs : List (Option Value)} {i j : Nat} {v : Value} (h : (clr vs i)[j]? = some (some v)) : vs[j]? = some (some v) ∧ ¬ (j + 1 = i ∧ v.category = 2) := by
  unfold clr at h
  split at h
  · exact ⟨h, by omega⟩
  · rename_i i
    split at h
    · rw [List.getElem?_set] at h
      by_cases hij : i = j
      · simp [hij] at h
      · simp [hij] at h; exact ⟨h, by omega⟩
    · rw [List.getElem?_set] at h
      by_cases hij : i = j
      · simp [hij] at h
      · simp [hij] at h; exact ⟨h, by omega⟩
    · rename_i h1 h2
      refine ⟨h, ?_⟩
      rintro ⟨e, hc⟩
      have : i = j := by omega
      subst this
      cases v <;> simp [Value.category] at hc
      · exact h1 _ h
      · exact h2 _ h
theorem LH_store1 {ad : Nat → Nat} {nL : Nat} {vs : List (Option Value)} {ls : Array Slot} (h : LH ad nL vs ls) {i : Nat} {v : Value} (hi : i < nL) {ls' : Array Slot} (h' : lv_has ls' nL ((i, cV ad v) :: (lvp ad vs).filter (fun q => !(q.1 == i) && !(q.1 + 1 == i && q.2.category == 2)))) : LH ad nL ((clr vs i).set i (some v)) ls' := by
  refine ⟨by rw [List.length_set, clr_len]; exact h.1, h'.1, h'.2.1, fun j w hw => ?_⟩
  rw [List.getElem?_set] at hw
  by_cases hij : i = j
  · subst hij
    have hl : i < (clr vs i).length := by rw [clr_len, h.1]; exact hi
    simp [hl] at hw
    subst hw
    exact h'.2.2 (i, cV ad v) List.mem_cons_self
  · simp [hij] at hw
    obtain ⟨h1, h2⟩ := clr_of hw
    refine h'.2.2 (j, cV ad w) (List.mem_cons_of_mem _ (List.mem_filter.mpr ⟨lvp_mem.mpr ⟨w, h1, rfl⟩, ?_⟩))
    have : ¬ j = i := fun e => hij e.symm
    simp [this, cV_cat]
    by_cases e : j + 1 = i
    · exact Or.inr (fun hc => h2 ⟨e, hc⟩)
    · exact Or.inl e
theorem LH_store2 {ad : Nat → Nat} {nL : Nat} {vs : List (Option Value)} {ls : Array Slot} (h : LH ad nL vs ls) {i : Nat} {v : Value} (hi : i + 1 < nL) {ls' : Array Slot} (h' : lv_has ls' nL ((i, cV ad v) :: (lvp ad vs).filter (fun q => !(q.1 == i) && (!(q.1 == i + 1) && !(q.1 + 1 == i && q.2.category == 2))))) : LH ad nL (((clr vs i).set i (some v)).set (i + 1) none) ls' := by
  refine ⟨by rw [List.length_set, List.length_set, clr_len]; exact h.1, h'.1, h'.2.1, fun j w hw => ?_⟩
  rw [List.getElem?_set] at hw
  by_cases hij1 : i + 1 = j
  · simp [hij1] at hw
  simp [hij1] at hw
  rw [List.getElem?_set] at hw
  by_cases hij : i = j
  · subst hij
    have hl : i < (clr vs i).length := by rw [clr_len, h.1]; omega
    simp [hl] at hw
    subst hw
    exact h'.2.2 (i, cV ad v) List.mem_cons_self
  · simp [hij] at hw
    obtain ⟨h1, h2⟩ := clr_of hw
    refine h'.2.2 (j, cV ad w) (List.mem_cons_of_mem _ (List.mem_filter.mpr ⟨lvp_mem.mpr ⟨w, h1, rfl⟩, ?_⟩))
    have e1 : ¬ j = i := fun e => hij e.symm
    have e2 : ¬ j = i + 1 := fun e => hij1 e.symm
    simp [e1, e2, cV_cat]
    by_cases e : j + 1 = i
    · exact Or.inr (fun hc => h2 ⟨e, hc⟩)
    · exact Or.inl e
end
section
/-! ONE STEP of the abstract machine: what it asks (a list of facts), and where it comes -/
def astp : CI → AC → Option (List Prop × AC)
  | (_, len, I, r1, r2, _, cv), (pc, vs, st, h, bk, bn) =>
    match I with
    | .iconst _ => some ([], (pc + len, vs, cv :: st, h, bk, bn))
    | .bipush _ => some ([], (pc + len, vs, cv :: st, h, bk, bn))
    | .sipush _ => some ([], (pc + len, vs, cv :: st, h, bk, bn))
    | .lconst _ => some ([], (pc + len, vs, cv :: st, h, bk, bn))
    | .ldc _ => some ([], (pc + len, vs, cv :: st, h, bk, bn))
    | .ldc_w _ => some ([], (pc + len, vs, cv :: st, h, bk, bn))
    | .ldc2_w _ => some ([], (pc + len, vs, cv :: st, h, bk, bn))
    | .iload _ => match vs[r1]? with
      | some (some (.int x)) => some ([], (pc + len, vs, .int x :: st, h, bk, bn))
      | _ => none
    | .iload_n _ => match vs[r1]? with
      | some (some (.int x)) => some ([], (pc + len, vs, .int x :: st, h, bk, bn))
      | _ => none
    | .lload _ => match vs[r1]? with
      | some (some (.long x)) => some ([], (pc + len, vs, .long x :: st, h, bk, bn))
      | _ => none
    | .lload_n _ => match vs[r1]? with
      | some (some (.long x)) => some ([], (pc + len, vs, .long x :: st, h, bk, bn))
      | _ => none
    | .aload_n _ => match vs[r1]? with
      | some (some (.ref x)) => some ([], (pc + len, vs, .ref x :: st, h, bk, bn))
      | _ => none
    | .istore _ => match st with
      | .int x :: st => match vs[r1]? with
        | some _ => some ([], (pc + len, (clr vs r1).set r1 (some (.int x)), st, h, bk, bn))
        | _ => none
      | _ => none
    | .istore_n _ => match st with
      | .int x :: st => match vs[r1]? with
        | some _ => some ([], (pc + len, (clr vs r1).set r1 (some (.int x)), st, h, bk, bn))
        | _ => none
      | _ => none
    | .astore_n _ => match st with
      | .ref x :: st => match vs[r1]? with
        | some _ => some ([], (pc + len, (clr vs r1).set r1 (some (.ref x)), st, h, bk, bn))
        | _ => none
      | _ => none
    | .lstore _ => match st with
      | .long x :: st => match vs[r1 + 1]? with
        | some _ => some ([], (pc + len, ((clr vs r1).set r1 (some (.long x))).set (r1 + 1) none, st, h, bk, bn))
        | _ => none
      | _ => none
    | .lstore_n _ => match st with
      | .long x :: st => match vs[r1 + 1]? with
        | some _ => some ([], (pc + len, ((clr vs r1).set r1 (some (.long x))).set (r1 + 1) none, st, h, bk, bn))
        | _ => none
      | _ => none
    | .iinc _ _ => match vs[r1]?, cv with
      | some (some (.int x)), .int y => some ([], (pc + len, (clr vs r1).set r1 (some (.int (x + y))), st, h, bk, bn))
      | _, _ => none
    | .iadd => match st with
      | .int y :: .int x :: st => some ([], (pc + len, vs, .int (x + y) :: st, h, bk, bn))
      | _ => none
    | .isub => match st with
      | .int y :: .int x :: st => some ([], (pc + len, vs, .int (x - y) :: st, h, bk, bn))
      | _ => none
    | .imul => match st with
      | .int y :: .int x :: st => some ([], (pc + len, vs, .int (x * y) :: st, h, bk, bn))
      | _ => none
    | .idiv => match st with
      | .int y :: .int x :: st => some ([¬ y = 0], (pc + len, vs, .int (x / y) :: st, h, bk, bn))
      | _ => none
    | .irem => match st with
      | .int y :: .int x :: st => some ([¬ y = 0], (pc + len, vs, .int (irm x y) :: st, h, bk, bn))
      | _ => none
    | .iand => match st with
      | .int y :: .int x :: st => some ([], (pc + len, vs, .int (x &&& y) :: st, h, bk, bn))
      | _ => none
    | .ior => match st with
      | .int y :: .int x :: st => some ([], (pc + len, vs, .int (x ||| y) :: st, h, bk, bn))
      | _ => none
    | .ixor => match st with
      | .int y :: .int x :: st => some ([], (pc + len, vs, .int (x ^^^ y) :: st, h, bk, bn))
      | _ => none
    | .ishl => match st with
      | .int y :: .int x :: st => some ([], (pc + len, vs, .int (x <<< (y &&& 31)) :: st, h, bk, bn))
      | _ => none
    | .ishr => match st with
      | .int y :: .int x :: st => some ([], (pc + len, vs, .int (x >>> (y &&& 31)) :: st, h, bk, bn))
      | _ => none
    | .iushr => match st with
      | .int y :: .int x :: st => some ([], (pc + len, vs, .int (iush x y) :: st, h, bk, bn))
      | _ => none
    | .ladd => match st with
      | .long y :: .long x :: st => some ([], (pc + len, vs, .long (x + y) :: st, h, bk, bn))
      | _ => none
    | .lmul => match st with
      | .long y :: .long x :: st => some ([], (pc + len, vs, .long (x * y) :: st, h, bk, bn))
      | _ => none
    | .ldiv => match st with
      | .long y :: .long x :: st => some ([¬ y = 0], (pc + len, vs, .long (x / y) :: st, h, bk, bn))
      | _ => none
    | .lrem => match st with
      | .long y :: .long x :: st => some ([¬ y = 0], (pc + len, vs, .long (lrm x y) :: st, h, bk, bn))
      | _ => none
    | .land => match st with
      | .long y :: .long x :: st => some ([], (pc + len, vs, .long (x &&& y) :: st, h, bk, bn))
      | _ => none
    | .lshr => match st with
      | .int y :: .long x :: st => some ([], (pc + len, vs, .long (x >>> (y.toInt64 &&& 63)) :: st, h, bk, bn))
      | _ => none
    | .lcmp => match st with
      | .long y :: .long x :: st => some ([], (pc + len, vs, .int (lg_cmp x y) :: st, h, bk, bn))
      | _ => none
    | .i2l => match st with
      | .int x :: st => some ([], (pc + len, vs, .long x.toInt64 :: st, h, bk, bn))
      | _ => none
    | .l2i => match st with
      | .long x :: st => some ([], (pc + len, vs, .int x.toInt32 :: st, h, bk, bn))
      | _ => none
    | .i2b => match st with
      | .int x :: st => some ([], (pc + len, vs, .int x.toInt8.toInt32 :: st, h, bk, bn))
      | _ => none
    | .dup => match st with
      | .int x :: st => some ([], (pc + len, vs, .int x :: .int x :: st, h, bk, bn))
      | .ref x :: st => some ([], (pc + len, vs, .ref x :: .ref x :: st, h, bk, bn))
      | _ => none
    | .dup2 => match st with
      | .int x :: .ref y :: st => some ([], (pc + len, vs, .int x :: .ref y :: .int x :: .ref y :: st, h, bk, bn))
      | _ => none
    | .pop => match st with
      | .int _ :: st => some ([], (pc + len, vs, st, h, bk, bn))
      | .ref _ :: st => some ([], (pc + len, vs, st, h, bk, bn))
      | _ => none
    | .goto _ => some ([], (r1, vs, st, h, bk, bn))
    | .getfield _ => match st with
      | .ref o :: st => match h[o]? with
        | some (.inr (ci, fs)) => match Nat.beq ci r1, fs[r2]? with
          | true, some v => some ([], (pc + len, vs, v :: st, h, bk, bn))
          | _, _ => none
        | _ => none
      | _ => none
    | .putfield _ => match st with
      | v :: .ref o :: st => match h[o]? with
        | some (.inr (ci, fs)) => match Nat.beq ci r1, fs[r2]?, cv, v with
          | true, some _, .int _, .int x => some ([], (pc + len, vs, st, h.set o (.inr (ci, fs.set r2 (.int x))), bk, bn))
          | true, some _, .long _, .int x => some ([isZ x], (pc + len, vs, st, h.set o (.inr (ci, fs.set r2 (.int x))), bk, bn))
          | true, some _, .ref _, .ref x => some ([], (pc + len, vs, st, h.set o (.inr (ci, fs.set r2 (.ref x))), bk, bn))
          | true, some _, .null, .ref x => some ([], (pc + len, vs, st, h.set o (.inr (ci, fs.set r2 (.ref x))), bk, bn))
          | _, _, _, _ => none
        | _ => none
      | _ => none
    | .arraylength => match st with
      | .ref a :: st => match h[a]? with
        | some (.inl (0, n, _)) => some ([], (pc + len, vs, .int (Int32.ofNat n) :: st, h, bk, bn))
        | _ => none
      | _ => none
    | .iaload => match st with
      | .int i :: .ref a :: st => match h[a]? with
        | some (.inl (0, n, .inl f)) => some ([inb i n], (pc + len, vs, .int (f i.toNatClampNeg) :: st, h, bk, bn))
        | _ => none
      | _ => none
    | .laload => match st with
      | .int i :: .ref a :: st => match h[a]? with
        | some (.inl (1, n, .inr (.inl f))) => some ([inb i n], (pc + len, vs, .long (f i.toNatClampNeg) :: st, h, bk, bn))
        | _ => none
      | _ => none
    | .baload => match st with
      | .int i :: .ref a :: st => match h[a]? with
        | some (.inl (2, n, .inl f)) => some ([inb i n], (pc + len, vs, .int (f i.toNatClampNeg) :: st, h, bk, bn))
        | some (.inl (3, n, .inl f)) => some ([inb i n], (pc + len, vs, .int (f i.toNatClampNeg) :: st, h, bk, bn))
        | _ => none
      | _ => none
    | .iastore => match st with
      | .int x :: .int i :: .ref a :: st => match h[a]? with
        | some (.inl (0, n, .inl f)) => some ([inb i n], (pc + len, vs, st, h.set a (.inl (0, n, .inl (upd f i.toNatClampNeg x))), bk, bn))
        | _ => none
      | _ => none
    | .lastore => match st with
      | .long x :: .int i :: .ref a :: st => match h[a]? with
        | some (.inl (1, n, .inr (.inl f))) => some ([inb i n], (pc + len, vs, st, h.set a (.inl (1, n, .inr (.inl (vp_updL f i.toNatClampNeg x)))), bk, bn))
        | _ => none
      | _ => none
    | .bastore => match st with
      | .int x :: .int i :: .ref a :: st => match h[a]? with
        | some (.inl (2, n, .inl f)) => some ([inb i n], (pc + len, vs, st, h.set a (.inl (2, n, .inl (upd f i.toNatClampNeg (vp_nar .byte x)))), bk, bn))
        | some (.inl (3, n, .inl f)) => some ([inb i n], (pc + len, vs, st, h.set a (.inl (3, n, .inl (upd f i.toNatClampNeg (vp_nar .boolean x)))), bk, bn))
        | _ => none
      | _ => none
    | _ => none
def isOT (d : Option FieldType) : Bool := match d with
  | some (.object _) => true
  | some (.array _) => true
  | _ => false
def okP (T : u_T) (k : Nat) (own : String) (ini : Bool) (cv : Value) : Bool := match cv with
  | .int _ => decide (parseFieldDescriptor (T k).2.2.1 = some .int) && decide ((T k).2.2.2 = false)
  | .long _ => decide (parseFieldDescriptor (T k).2.2.1 = some .boolean) && decide ((T k).2.2.2 = false)
  | .ref _ => isOT (parseFieldDescriptor (T k).2.2.1) && decide ((T k).2.2.2 = false)
  | .null => isOT (parseFieldDescriptor (T k).2.2.1) && decide ((T k).2.2.2 = true) && ini && decide ((T k).1 = own)
  | _ => false
/-- what a row of a method's table must be: its instruction as decoded, its links as the tables' words say -/
def okI (own : String) (ini : Bool) (b : ByteArray) (ci : CI) : Bool :=
  decide (decode b ci.1 = .ok (ci.2.2.1, ci.2.1)) &&
    match ci with
    | (pc, len, I, r1, r2, r3, cv) => match I with
      | .iconst n => decide (len = 1) && match cv with | .int v => decide (Int32.ofInt n = v) | _ => false
      | .bipush n => decide (len = 2) && match cv with | .int v => decide ((Int8.ofInt n).toInt32 = v) | _ => false
      | .sipush n => decide (len = 3) && match cv with | .int v => decide ((Int16.ofInt n).toInt32 = v) | _ => false
      | .lconst n => decide (len = 1) && match cv with | .long v => decide (Int64.ofNat (n : Nat) = v) | _ => false
      | .ldc i => decide (len = 2) && match cv with | .int v => decide (TG[r3]? = some (.constant own i v)) | _ => false
      | .ldc_w i => decide (len = 3) && match cv with | .int v => decide (TG[r3]? = some (.constant own i v)) | _ => false
      | .ldc2_w i => decide (len = 3) && match cv with | .long v => decide (TG[r3]? = some (.constantLong own i v)) | _ => false
      | .iload i => decide (i = r1) && decide (len = 2)
      | .lload i => decide (i = r1) && decide (len = 2)
      | .istore i => decide (i = r1) && decide (len = 2)
      | .lstore i => decide (i = r1) && decide (len = 2)
      | .iload_n i => decide ((i : Nat) = r1) && decide (len = 1)
      | .lload_n i => decide ((i : Nat) = r1) && decide (len = 1)
      | .aload_n i => decide ((i : Nat) = r1) && decide (len = 1)
      | .istore_n i => decide ((i : Nat) = r1) && decide (len = 1)
      | .astore_n i => decide ((i : Nat) = r1) && decide (len = 1)
      | .lstore_n i => decide ((i : Nat) = r1) && decide (len = 1)
      | .iinc i n => decide (i = r1) && decide (len = 3) && match cv with | .int v => decide (Int32.ofInt n = v) | _ => false
      | .goto off => decide ((pc : Int) + off = (r1 : Int)) && decide (len = 3)
      | .if_icmp _ off => decide ((pc : Int) + off = (r1 : Int)) && decide (len = 3)
      | .ifCond _ off => decide ((pc : Int) + off = (r1 : Int)) && decide (len = 3)
      | .getfield i => decide (len = 3) && match CL[r1]? with
        | some q => decide (r2 < q.2.2) && decide (TG[r3]? = some (.fieldLink own i (q.2.1 r2).1 (q.2.1 r2).2.1 (q.2.1 r2).2.2.1))
        | none => false
      | .putfield i => decide (len = 3) && match CL[r1]? with
        | some q => decide (r2 < q.2.2) && decide (TG[r3]? = some (.fieldLink own i (q.2.1 r2).1 (q.2.1 r2).2.1 (q.2.1 r2).2.2.1)) && okP q.2.1 r2 own ini cv
        | none => false
      | .invokevirtual _ => true
      | .invokespecial _ => true
      | .invokestatic _ => true
      | .new _ => true
      | .newarray _ => true
      | .tableswitch _ _ _ _ => true
      | _ => decide (len = 1)
def brun : List CI → AC → Option (List Prop × AC)
  | [], c => some ([], c)
  | i :: r, c => match Nat.beq i.1 c.1 with
    | false => none
    | true => match astp i c with
      | none => none
      | some (gs, c') => match brun r c' with
        | none => none
        | some (gs', c'') => some (gs ++ gs', c'')
def AllP : List Prop → Prop
  | [] => True
  | [g] => g
  | g :: gs => g ∧ AllP gs
theorem AllP_all : ∀ {gs : List Prop}, AllP gs → ∀ g ∈ gs, g
  | [], _, g, hg => by cases hg
  | [a], h, g, hg => by
    rw [List.mem_singleton.mp hg]; exact h
  | a :: b :: r, h, g, hg => by
    rcases List.mem_cons.mp hg with e | e
    · rw [e]; exact h.1
    · exact AllP_all (gs := b :: r) h.2 g e
end
section
def tX0_init : List CI := [
  (0, 1, .aload_n 0, 0, 0, 0, .null), (1, 3, .invokespecial 1, 0, 0, 0, .null), (4, 1, .aload_n 0, 0, 0, 0, .null), (5, 3, .new 7, 0, 0, 0, .null), (8, 1, .dup, 0, 0, 0, .null), 
  (9, 3, .invokespecial 9, 0, 0, 0, .null), (12, 3, .putfield 10, 0, 1, 226, .null), (15, 1, .aload_n 0, 0, 0, 0, .null), (16, 3, .new 7, 0, 0, 0, .null), 
  (19, 1, .dup, 0, 0, 0, .null), (20, 3, .invokespecial 9, 0, 0, 0, .null), (23, 3, .putfield 16, 0, 2, 228, .null), (26, 1, .aload_n 0, 0, 0, 0, .null), 
  (27, 3, .new 19, 0, 0, 0, .null), (30, 1, .dup, 0, 0, 0, .null), (31, 3, .invokespecial 21, 0, 0, 0, .null), (34, 3, .putfield 22, 0, 3, 230, .null), 
  (37, 1, .return_, 0, 0, 0, .null)]
theorem okX0_init : tX0_init.all (okI yX0_init.cls (decide (yX0_init.name = "<init>")) cX0_init) = true := by decide +kernel
def tX1_init : List CI := [
  (0, 1, .aload_n 0, 0, 0, 0, .null), (1, 3, .invokespecial 3, 0, 0, 0, .null), (4, 1, .aload_n 0, 0, 0, 0, .null), (5, 3, .new 9, 0, 0, 0, .null), (8, 1, .dup, 0, 0, 0, .null), 
  (9, 3, .invokespecial 11, 0, 0, 0, .null), (12, 3, .putfield 12, 1, 2, 293, .null), (15, 1, .return_, 0, 0, 0, .null)]
theorem okX1_init : tX1_init.all (okI yX1_init.cls (decide (yX1_init.name = "<init>")) cX1_init) = true := by decide +kernel
def tX1_find : List CI := [
  (0, 1, .aload_n 0, 0, 0, 0, .null), (1, 3, .getfield 12, 1, 2, 293, .null), (4, 1, .aload_n 1, 1, 0, 0, .null), (5, 3, .invokevirtual 18, 0, 0, 0, .null), 
  (8, 1, .iconst 0, 0, 0, 0, .int 0), (9, 2, .istore 5, 5, 0, 0, .null), (11, 1, .iconst 1, 0, 0, 0, .int 1), (12, 2, .istore 6, 6, 0, 0, .null), 
  (14, 1, .iconst 0, 0, 0, 0, .int 0), (15, 2, .istore 7, 7, 0, 0, .null), (17, 2, .iload 7, 7, 0, 0, .null), (19, 1, .aload_n 1, 1, 0, 0, .null), 
  (20, 3, .getfield 22, 9, 0, 134, .null), (23, 3, .if_icmp .ge 26, 49, 0, 0, .null), (26, 2, .iload 5, 5, 0, 0, .null), (28, 1, .aload_n 1, 1, 0, 0, .null), 
  (29, 2, .iload 7, 7, 0, 0, .null), (31, 3, .invokevirtual 26, 0, 0, 0, .null), (34, 1, .iadd, 0, 0, 0, .null), (35, 2, .istore 5, 5, 0, 0, .null), 
  (37, 2, .iload 6, 6, 0, 0, .null), (39, 1, .iconst 5, 0, 0, 0, .int 5), (40, 1, .imul, 0, 0, 0, .null), (41, 2, .istore 6, 6, 0, 0, .null), (43, 3, .iinc 7 1, 7, 0, 0, .int 1), 
  (46, 3, .goto (-29), 17, 0, 0, .null), (49, 1, .iconst 0, 0, 0, 0, .int 0), (50, 2, .istore 7, 7, 0, 0, .null), (52, 1, .aload_n 1, 1, 0, 0, .null), 
  (53, 3, .getfield 22, 9, 0, 134, .null), (56, 2, .istore 8, 8, 0, 0, .null), (58, 2, .iload 8, 8, 0, 0, .null), (60, 2, .iload 5, 5, 0, 0, .null), 
  (62, 3, .if_icmp .gt 74, 136, 0, 0, .null), (65, 2, .iload 7, 7, 0, 0, .null), (67, 3, .ifCond .ne 69, 136, 0, 0, .null), (70, 1, .iconst 0, 0, 0, 0, .int 0), 
  (71, 2, .istore 9, 9, 0, 0, .null), (73, 2, .iload 9, 9, 0, 0, .null), (75, 2, .iload 6, 6, 0, 0, .null), (77, 3, .if_icmp .ge 53, 130, 0, 0, .null), 
  (80, 2, .iload 7, 7, 0, 0, .null), (82, 3, .ifCond .ne 48, 130, 0, 0, .null), (85, 1, .aload_n 0, 0, 0, 0, .null), (86, 1, .aload_n 1, 1, 0, 0, .null), 
  (87, 2, .iload 9, 9, 0, 0, .null), (89, 3, .invokevirtual 30, 0, 0, 0, .null), (92, 2, .iload 8, 8, 0, 0, .null), (94, 3, .if_icmp .ne 30, 124, 0, 0, .null), 
  (97, 1, .aload_n 2, 2, 0, 0, .null), (98, 3, .invokevirtual 34, 0, 0, 0, .null), (101, 1, .aload_n 2, 2, 0, 0, .null), (102, 1, .aload_n 0, 0, 0, 0, .null), 
  (103, 3, .getfield 12, 1, 2, 293, .null), (106, 1, .iload_n 3, 3, 0, 0, .null), (107, 2, .iload 4, 4, 0, 0, .null), (109, 3, .invokevirtual 39, 0, 0, 0, .null), 
  (112, 1, .aload_n 2, 2, 0, 0, .null), (113, 3, .invokevirtual 43, 0, 0, 0, .null), (116, 2, .istore 7, 7, 0, 0, .null), (118, 1, .aload_n 0, 0, 0, 0, .null), 
  (119, 2, .iload 8, 8, 0, 0, .null), (121, 3, .putfield 47, 1, 1, 291, .int 0), (124, 3, .iinc 9 1, 9, 0, 0, .int 1), (127, 3, .goto (-54), 73, 0, 0, .null), 
  (130, 3, .iinc 8 1, 8, 0, 0, .int 1), (133, 3, .goto (-75), 58, 0, 0, .null), (136, 1, .aload_n 2, 2, 0, 0, .null), (137, 3, .invokevirtual 34, 0, 0, 0, .null), 
  (140, 1, .return_, 0, 0, 0, .null)]
theorem okX1_find : tX1_find.all (okI yX1_find.cls (decide (yX1_find.name = "<init>")) cX1_find) = true := by decide +kernel
def tX1_setLengths : List CI := [
  (0, 1, .iload_n 2, 2, 0, 0, .null), (1, 1, .istore_n 3, 3, 0, 0, .null), (2, 1, .iconst 0, 0, 0, 0, .int 0), (3, 2, .istore 4, 4, 0, 0, .null), 
  (5, 1, .iconst 1, 0, 0, 0, .int 1), (6, 2, .istore 5, 5, 0, 0, .null), (8, 1, .aload_n 1, 1, 0, 0, .null), (9, 3, .getfield 22, 9, 0, 134, .null), 
  (12, 1, .iconst 1, 0, 0, 0, .int 1), (13, 1, .isub, 0, 0, 0, .null), (14, 2, .istore 6, 6, 0, 0, .null), (16, 2, .iload 6, 6, 0, 0, .null), 
  (18, 3, .ifCond .lt 61, 79, 0, 0, .null), (21, 1, .iload_n 3, 3, 0, 0, .null), (22, 1, .iconst 5, 0, 0, 0, .int 5), (23, 1, .irem, 0, 0, 0, .null), 
  (24, 1, .iconst 1, 0, 0, 0, .int 1), (25, 1, .iadd, 0, 0, 0, .null), (26, 2, .istore 7, 7, 0, 0, .null), (28, 1, .iload_n 3, 3, 0, 0, .null), 
  (29, 1, .iconst 5, 0, 0, 0, .int 5), (30, 1, .idiv, 0, 0, 0, .null), (31, 1, .istore_n 3, 3, 0, 0, .null), (32, 1, .aload_n 0, 0, 0, 0, .null), 
  (33, 3, .getfield 12, 1, 2, 293, .null), (36, 2, .iload 6, 6, 0, 0, .null), (38, 2, .iload 7, 7, 0, 0, .null), (40, 3, .invokevirtual 50, 0, 0, 0, .null), 
  (43, 2, .iload 5, 5, 0, 0, .null), (45, 3, .ifCond .eq 18, 63, 0, 0, .null), (48, 2, .iload 7, 7, 0, 0, .null), (50, 1, .aload_n 1, 1, 0, 0, .null), 
  (51, 2, .iload 6, 6, 0, 0, .null), (53, 3, .invokevirtual 26, 0, 0, 0, .null), (56, 3, .if_icmp .gt 7, 63, 0, 0, .null), (59, 1, .iconst 1, 0, 0, 0, .int 1), 
  (60, 3, .goto 4, 64, 0, 0, .null), (63, 1, .iconst 0, 0, 0, 0, .int 0), (64, 2, .istore 5, 5, 0, 0, .null), (66, 2, .iload 4, 4, 0, 0, .null), (68, 2, .iload 7, 7, 0, 0, .null), 
  (70, 1, .iadd, 0, 0, 0, .null), (71, 2, .istore 4, 4, 0, 0, .null), (73, 3, .iinc 6 (-1), 6, 0, 0, .int (-1)), (76, 3, .goto (-60), 16, 0, 0, .null), 
  (79, 2, .iload 5, 5, 0, 0, .null), (81, 3, .ifCond .eq 8, 89, 0, 0, .null), (84, 2, .iload 4, 4, 0, 0, .null), (86, 3, .goto 4, 90, 0, 0, .null), 
  (89, 1, .iconst 0, 0, 0, 0, .int 0), (90, 1, .ireturn, 0, 0, 0, .null)]
theorem okX1_setLengths : tX1_setLengths.all (okI yX1_setLengths.cls (decide (yX1_setLengths.name = "<init>")) cX1_setLengths) = true := by decide +kernel
def tX2_init : List CI := [
  (0, 1, .aload_n 0, 0, 0, 0, .null), (1, 3, .invokespecial 3, 0, 0, 0, .null), (4, 1, .aload_n 0, 0, 0, 0, .null), (5, 3, .sipush 153, 0, 0, 0, .int 153), 
  (8, 2, .newarray .int, 0, 0, 0, .null), (10, 3, .putfield 9, 2, 1, 123, .null), (13, 1, .aload_n 0, 0, 0, 0, .null), (14, 3, .sipush 153, 0, 0, 0, .int 153), 
  (17, 2, .newarray .long, 0, 0, 0, .null), (19, 3, .putfield 15, 2, 2, 124, .null), (22, 1, .return_, 0, 0, 0, .null)]
theorem okX2_init : tX2_init.all (okI yX2_init.cls (decide (yX2_init.name = "<init>")) cX2_init) = true := by decide +kernel
def tX2_forget : List CI := [
  (0, 1, .aload_n 0, 0, 0, 0, .null), (1, 1, .iconst 0, 0, 0, 0, .int 0), (2, 3, .putfield 19, 2, 0, 122, .int 0), (5, 1, .iconst 0, 0, 0, 0, .int 0), 
  (6, 1, .istore_n 1, 1, 0, 0, .null), (7, 1, .iload_n 1, 1, 0, 0, .null), (8, 3, .sipush 153, 0, 0, 0, .int 153), (11, 3, .if_icmp .ge 23, 34, 0, 0, .null), 
  (14, 1, .aload_n 0, 0, 0, 0, .null), (15, 3, .getfield 9, 2, 1, 123, .null), (18, 1, .iload_n 1, 1, 0, 0, .null), (19, 1, .iconst 0, 0, 0, 0, .int 0), 
  (20, 1, .iastore, 0, 0, 0, .null), (21, 1, .aload_n 0, 0, 0, 0, .null), (22, 3, .getfield 15, 2, 2, 124, .null), (25, 1, .iload_n 1, 1, 0, 0, .null), 
  (26, 1, .lconst 0, 0, 0, 0, .long 0), (27, 1, .lastore, 0, 0, 0, .null), (28, 3, .iinc 1 1, 1, 0, 0, .int 1), (31, 3, .goto (-24), 7, 0, 0, .null), 
  (34, 1, .return_, 0, 0, 0, .null)]
theorem okX2_forget : tX2_forget.all (okI yX2_forget.cls (decide (yX2_forget.name = "<init>")) cX2_forget) = true := by decide +kernel
def tX2_copyFrom : List CI := [
  (0, 1, .aload_n 0, 0, 0, 0, .null), (1, 1, .aload_n 1, 1, 0, 0, .null), (2, 3, .getfield 19, 2, 0, 122, .null), (5, 3, .putfield 19, 2, 0, 122, .int 0), 
  (8, 1, .aload_n 1, 1, 0, 0, .null), (9, 3, .getfield 9, 2, 1, 123, .null), (12, 1, .aload_n 0, 0, 0, 0, .null), (13, 3, .getfield 9, 2, 1, 123, .null), 
  (16, 3, .invokestatic 23, 0, 0, 0, .null), (19, 1, .iconst 0, 0, 0, 0, .int 0), (20, 1, .istore_n 2, 2, 0, 0, .null), (21, 1, .iload_n 2, 2, 0, 0, .null), 
  (22, 3, .sipush 153, 0, 0, 0, .int 153), (25, 3, .if_icmp .ge 21, 46, 0, 0, .null), (28, 1, .aload_n 0, 0, 0, 0, .null), (29, 3, .getfield 15, 2, 2, 124, .null), 
  (32, 1, .iload_n 2, 2, 0, 0, .null), (33, 1, .aload_n 1, 1, 0, 0, .null), (34, 3, .getfield 15, 2, 2, 124, .null), (37, 1, .iload_n 2, 2, 0, 0, .null), 
  (38, 1, .laload, 0, 0, 0, .null), (39, 1, .lastore, 0, 0, 0, .null), (40, 3, .iinc 2 1, 2, 0, 0, .int 1), (43, 3, .goto (-22), 21, 0, 0, .null), 
  (46, 1, .return_, 0, 0, 0, .null)]
theorem okX2_copyFrom : tX2_copyFrom.all (okI yX2_copyFrom.cls (decide (yX2_copyFrom.name = "<init>")) cX2_copyFrom) = true := by decide +kernel
def tX2_know : List CI := [
  (0, 1, .aload_n 0, 0, 0, 0, .null), (1, 3, .getfield 19, 2, 0, 122, .null), (4, 1, .iload_n 1, 1, 0, 0, .null), (5, 1, .ishr, 0, 0, 0, .null), 
  (6, 1, .iconst 1, 0, 0, 0, .int 1), (7, 1, .iand, 0, 0, 0, .null), (8, 1, .iconst 1, 0, 0, 0, .int 1), (9, 3, .if_icmp .ne 7, 16, 0, 0, .null), 
  (12, 1, .iconst 1, 0, 0, 0, .int 1), (13, 3, .goto 4, 17, 0, 0, .null), (16, 1, .iconst 0, 0, 0, 0, .int 0), (17, 1, .ireturn, 0, 0, 0, .null)]
theorem okX2_know : tX2_know.all (okI yX2_know.cls (decide (yX2_know.name = "<init>")) cX2_know) = true := by decide +kernel
def tX2_nowKnow : List CI := [
  (0, 1, .aload_n 0, 0, 0, 0, .null), (1, 1, .dup, 0, 0, 0, .null), (2, 3, .getfield 19, 2, 0, 122, .null), (5, 1, .iconst 1, 0, 0, 0, .int 1), (6, 1, .iload_n 1, 1, 0, 0, .null), 
  (7, 1, .ishl, 0, 0, 0, .null), (8, 1, .ior, 0, 0, 0, .null), (9, 3, .putfield 19, 2, 0, 122, .int 0), (12, 1, .return_, 0, 0, 0, .null)]
theorem okX2_nowKnow : tX2_nowKnow.all (okI yX2_nowKnow.cls (decide (yX2_nowKnow.name = "<init>")) cX2_nowKnow) = true := by decide +kernel
def tX2_cellOf : List CI := [
  (0, 1, .iload_n 0, 0, 0, 0, .null), (1, 1, .iload_n 1, 1, 0, 0, .null), (2, 3, .invokestatic 27, 0, 0, 0, .null), (5, 1, .istore_n 2, 2, 0, 0, .null), 
  (6, 1, .iconst 1, 0, 0, 0, .int 1), (7, 1, .istore_n 3, 3, 0, 0, .null), (8, 1, .iload_n 3, 3, 0, 0, .null), (9, 1, .iload_n 1, 1, 0, 0, .null), 
  (10, 3, .if_icmp .ge 21, 31, 0, 0, .null), (13, 1, .iload_n 3, 3, 0, 0, .null), (14, 1, .iconst 5, 0, 0, 0, .int 5), (15, 3, .if_icmp .ge 16, 31, 0, 0, .null), 
  (18, 1, .iload_n 2, 2, 0, 0, .null), (19, 1, .iload_n 3, 3, 0, 0, .null), (20, 3, .invokestatic 33, 0, 0, 0, .null), (23, 1, .iadd, 0, 0, 0, .null), 
  (24, 1, .istore_n 2, 2, 0, 0, .null), (25, 3, .iinc 3 1, 3, 0, 0, .int 1), (28, 3, .goto (-20), 8, 0, 0, .null), (31, 1, .iload_n 2, 2, 0, 0, .null), 
  (32, 1, .ireturn, 0, 0, 0, .null)]
theorem okX2_cellOf : tX2_cellOf.all (okI yX2_cellOf.cls (decide (yX2_cellOf.name = "<init>")) cX2_cellOf) = true := by decide +kernel
def tX2_note : List CI := [
  (0, 1, .iload_n 1, 1, 0, 0, .null), (1, 1, .iload_n 2, 2, 0, 0, .null), (2, 3, .invokestatic 37, 0, 0, 0, .null), (5, 2, .istore 6, 6, 0, 0, .null), 
  (7, 2, .iload 6, 6, 0, 0, .null), (9, 3, .ifCond .lt 28, 37, 0, 0, .null), (12, 2, .iload 6, 6, 0, 0, .null), (14, 3, .sipush 153, 0, 0, 0, .int 153), 
  (17, 3, .if_icmp .ge 20, 37, 0, 0, .null), (20, 1, .aload_n 0, 0, 0, 0, .null), (21, 3, .getfield 9, 2, 1, 123, .null), (24, 2, .iload 6, 6, 0, 0, .null), 
  (26, 1, .iload_n 3, 3, 0, 0, .null), (27, 1, .iastore, 0, 0, 0, .null), (28, 1, .aload_n 0, 0, 0, 0, .null), (29, 3, .getfield 15, 2, 2, 124, .null), 
  (32, 2, .iload 6, 6, 0, 0, .null), (34, 2, .lload 4, 4, 0, 0, .null), (36, 1, .lastore, 0, 0, 0, .null), (37, 1, .return_, 0, 0, 0, .null)]
theorem okX2_note : tX2_note.all (okI yX2_note.cls (decide (yX2_note.name = "<init>")) cX2_note) = true := by decide +kernel
def tX2_leastOf : List CI := [
  (0, 1, .iload_n 1, 1, 0, 0, .null), (1, 1, .iload_n 2, 2, 0, 0, .null), (2, 3, .invokestatic 37, 0, 0, 0, .null), (5, 1, .istore_n 3, 3, 0, 0, .null), 
  (6, 1, .iload_n 3, 3, 0, 0, .null), (7, 3, .ifCond .lt 19, 26, 0, 0, .null), (10, 1, .iload_n 3, 3, 0, 0, .null), (11, 3, .sipush 153, 0, 0, 0, .int 153), 
  (14, 3, .if_icmp .ge 12, 26, 0, 0, .null), (17, 1, .aload_n 0, 0, 0, 0, .null), (18, 3, .getfield 9, 2, 1, 123, .null), (21, 1, .iload_n 3, 3, 0, 0, .null), 
  (22, 1, .iaload, 0, 0, 0, .null), (23, 3, .goto 4, 27, 0, 0, .null), (26, 1, .iconst 0, 0, 0, 0, .int 0), (27, 1, .ireturn, 0, 0, 0, .null)]
theorem okX2_leastOf : tX2_leastOf.all (okI yX2_leastOf.cls (decide (yX2_leastOf.name = "<init>")) cX2_leastOf) = true := by decide +kernel
def tX2_waysOf : List CI := [
  (0, 1, .iload_n 1, 1, 0, 0, .null), (1, 1, .iload_n 2, 2, 0, 0, .null), (2, 3, .invokestatic 37, 0, 0, 0, .null), (5, 1, .istore_n 3, 3, 0, 0, .null), 
  (6, 1, .iload_n 3, 3, 0, 0, .null), (7, 3, .ifCond .lt 19, 26, 0, 0, .null), (10, 1, .iload_n 3, 3, 0, 0, .null), (11, 3, .sipush 153, 0, 0, 0, .int 153), 
  (14, 3, .if_icmp .ge 12, 26, 0, 0, .null), (17, 1, .aload_n 0, 0, 0, 0, .null), (18, 3, .getfield 15, 2, 2, 124, .null), (21, 1, .iload_n 3, 3, 0, 0, .null), 
  (22, 1, .laload, 0, 0, 0, .null), (23, 3, .goto 4, 27, 0, 0, .null), (26, 1, .lconst 0, 0, 0, 0, .long 0), (27, 1, .lreturn, 0, 0, 0, .null)]
theorem okX2_waysOf : tX2_waysOf.all (okI yX2_waysOf.cls (decide (yX2_waysOf.name = "<init>")) cX2_waysOf) = true := by decide +kernel
def tX3_init : List CI := [
  (0, 1, .aload_n 0, 0, 0, 0, .null), (1, 3, .invokespecial 3, 0, 0, 0, .null), (4, 1, .aload_n 0, 0, 0, 0, .null), (5, 2, .bipush 16, 0, 0, 0, .int 16), 
  (7, 2, .newarray .int, 0, 0, 0, .null), (9, 3, .putfield 9, 3, 0, 103, .null), (12, 1, .return_, 0, 0, 0, .null)]
theorem okX3_init : tX3_init.all (okI yX3_init.cls (decide (yX3_init.name = "<init>")) cX3_init) = true := by decide +kernel
def tX3_add : List CI := [
  (0, 1, .aload_n 0, 0, 0, 0, .null), (1, 3, .getfield 15, 3, 1, 104, .null), (4, 3, .ifCond .lt 15, 19, 0, 0, .null), (7, 1, .aload_n 0, 0, 0, 0, .null), 
  (8, 3, .getfield 15, 3, 1, 104, .null), (11, 1, .aload_n 0, 0, 0, 0, .null), (12, 3, .getfield 9, 3, 0, 103, .null), (15, 1, .arraylength, 0, 0, 0, .null), 
  (16, 3, .if_icmp .lt 5, 21, 0, 0, .null), (19, 1, .iconst 0, 0, 0, 0, .int 0), (20, 1, .ireturn, 0, 0, 0, .null), (21, 1, .aload_n 0, 0, 0, 0, .null), 
  (22, 3, .getfield 9, 3, 0, 103, .null), (25, 1, .aload_n 0, 0, 0, 0, .null), (26, 3, .getfield 15, 3, 1, 104, .null), (29, 1, .iload_n 1, 1, 0, 0, .null), 
  (30, 1, .iastore, 0, 0, 0, .null), (31, 1, .aload_n 0, 0, 0, 0, .null), (32, 1, .dup, 0, 0, 0, .null), (33, 3, .getfield 15, 3, 1, 104, .null), 
  (36, 1, .iconst 1, 0, 0, 0, .int 1), (37, 1, .iadd, 0, 0, 0, .null), (38, 3, .putfield 15, 3, 1, 104, .int 0), (41, 1, .iconst 1, 0, 0, 0, .int 1), 
  (42, 1, .ireturn, 0, 0, 0, .null)]
theorem okX3_add : tX3_add.all (okI yX3_add.cls (decide (yX3_add.name = "<init>")) cX3_add) = true := by decide +kernel
def tX3_clear : List CI := [
  (0, 1, .aload_n 0, 0, 0, 0, .null), (1, 1, .iconst 0, 0, 0, 0, .int 0), (2, 3, .putfield 15, 3, 1, 104, .int 0), (5, 1, .return_, 0, 0, 0, .null)]
theorem okX3_clear : tX3_clear.all (okI yX3_clear.cls (decide (yX3_clear.name = "<init>")) cX3_clear) = true := by decide +kernel
def tX3_signAt : List CI := [
  (0, 1, .iload_n 1, 1, 0, 0, .null), (1, 3, .ifCond .lt 29, 30, 0, 0, .null), (4, 1, .iload_n 1, 1, 0, 0, .null), (5, 1, .aload_n 0, 0, 0, 0, .null), 
  (6, 3, .getfield 15, 3, 1, 104, .null), (9, 3, .if_icmp .ge 21, 30, 0, 0, .null), (12, 1, .iload_n 1, 1, 0, 0, .null), (13, 1, .aload_n 0, 0, 0, 0, .null), 
  (14, 3, .getfield 9, 3, 0, 103, .null), (17, 1, .arraylength, 0, 0, 0, .null), (18, 3, .if_icmp .ge 12, 30, 0, 0, .null), (21, 1, .aload_n 0, 0, 0, 0, .null), 
  (22, 3, .getfield 9, 3, 0, 103, .null), (25, 1, .iload_n 1, 1, 0, 0, .null), (26, 1, .iaload, 0, 0, 0, .null), (27, 3, .goto 4, 31, 0, 0, .null), 
  (30, 1, .iconst 0, 0, 0, 0, .int 0), (31, 1, .ireturn, 0, 0, 0, .null)]
theorem okX3_signAt : tX3_signAt.all (okI yX3_signAt.cls (decide (yX3_signAt.name = "<init>")) cX3_signAt) = true := by decide +kernel
def tX3_isLetter : List CI := [
  (0, 1, .iload_n 0, 0, 0, 0, .null), (1, 2, .bipush 115, 0, 0, 0, .int 115), (3, 3, .if_icmp .eq 15, 18, 0, 0, .null), (6, 1, .iload_n 0, 0, 0, 0, .null), 
  (7, 2, .bipush 113, 0, 0, 0, .int 113), (9, 3, .if_icmp .eq 9, 18, 0, 0, .null), (12, 1, .iload_n 0, 0, 0, 0, .null), (13, 2, .bipush 100, 0, 0, 0, .int 100), 
  (15, 3, .if_icmp .ne 7, 22, 0, 0, .null), (18, 1, .iconst 1, 0, 0, 0, .int 1), (19, 3, .goto 4, 23, 0, 0, .null), (22, 1, .iconst 0, 0, 0, 0, .int 0), 
  (23, 1, .ireturn, 0, 0, 0, .null)]
theorem okX3_isLetter : tX3_isLetter.all (okI yX3_isLetter.cls (decide (yX3_isLetter.name = "<init>")) cX3_isLetter) = true := by decide +kernel
def tX3_faultAt : List CI := [
  (0, 1, .iconst 0, 0, 0, 0, .int 0), (1, 1, .istore_n 1, 1, 0, 0, .null), (2, 1, .iconst 1, 0, 0, 0, .int 1), (3, 1, .istore_n 2, 2, 0, 0, .null), 
  (4, 1, .iconst 0, 0, 0, 0, .int 0), (5, 1, .istore_n 3, 3, 0, 0, .null), (6, 1, .iconst 1, 0, 0, 0, .int 1), (7, 2, .istore 4, 4, 0, 0, .null), 
  (9, 1, .iconst 0, 0, 0, 0, .int 0), (10, 2, .istore 5, 5, 0, 0, .null), (12, 2, .iload 5, 5, 0, 0, .null), (14, 1, .aload_n 0, 0, 0, 0, .null), 
  (15, 3, .getfield 15, 3, 1, 104, .null), (18, 3, .if_icmp .ge 150, 168, 0, 0, .null), (21, 1, .aload_n 0, 0, 0, 0, .null), (22, 2, .iload 5, 5, 0, 0, .null), 
  (24, 3, .invokevirtual 19, 0, 0, 0, .null), (27, 2, .istore 6, 6, 0, 0, .null), (29, 1, .aload_n 0, 0, 0, 0, .null), (30, 2, .iload 5, 5, 0, 0, .null), 
  (32, 1, .iconst 1, 0, 0, 0, .int 1), (33, 1, .isub, 0, 0, 0, .null), (34, 3, .invokevirtual 19, 0, 0, 0, .null), (37, 3, .invokestatic 23, 0, 0, 0, .null), 
  (40, 3, .ifCond .eq 27, 67, 0, 0, .null), (43, 2, .iload 6, 6, 0, 0, .null), (45, 2, .bipush 49, 0, 0, 0, .int 49), (47, 3, .if_icmp .lt 14, 61, 0, 0, .null), 
  (50, 2, .iload 6, 6, 0, 0, .null), (52, 2, .bipush 54, 0, 0, 0, .int 54), (54, 3, .if_icmp .ge 7, 61, 0, 0, .null), (57, 1, .iconst 1, 0, 0, 0, .int 1), 
  (58, 3, .goto 4, 62, 0, 0, .null), (61, 1, .iconst 0, 0, 0, 0, .int 0), (62, 2, .istore 7, 7, 0, 0, .null), (64, 3, .goto 90, 154, 0, 0, .null), 
  (67, 2, .iload 6, 6, 0, 0, .null), (69, 2, .bipush 59, 0, 0, 0, .int 59), (71, 3, .if_icmp .ne 31, 102, 0, 0, .null), (74, 2, .iload 4, 4, 0, 0, .null), 
  (76, 3, .ifCond .ne 12, 88, 0, 0, .null), (79, 1, .iload_n 2, 2, 0, 0, .null), (80, 1, .iconst 3, 0, 0, 0, .int 3), (81, 3, .if_icmp .ge 7, 88, 0, 0, .null), 
  (84, 1, .iconst 1, 0, 0, 0, .int 1), (85, 3, .goto 4, 89, 0, 0, .null), (88, 1, .iconst 0, 0, 0, 0, .int 0), (89, 2, .istore 7, 7, 0, 0, .null), 
  (91, 3, .iinc 2 1, 2, 0, 0, .int 1), (94, 1, .iconst 0, 0, 0, 0, .int 0), (95, 1, .istore_n 3, 3, 0, 0, .null), (96, 1, .iconst 1, 0, 0, 0, .int 1), 
  (97, 2, .istore 4, 4, 0, 0, .null), (99, 3, .goto 55, 154, 0, 0, .null), (102, 2, .iload 6, 6, 0, 0, .null), (104, 2, .bipush 45, 0, 0, 0, .int 45), 
  (106, 3, .if_icmp .ne 22, 128, 0, 0, .null), (109, 1, .iload_n 3, 3, 0, 0, .null), (110, 3, .ifCond .ne 7, 117, 0, 0, .null), (113, 1, .iconst 1, 0, 0, 0, .int 1), 
  (114, 3, .goto 4, 118, 0, 0, .null), (117, 1, .iconst 0, 0, 0, 0, .int 0), (118, 2, .istore 7, 7, 0, 0, .null), (120, 1, .iconst 1, 0, 0, 0, .int 1), 
  (121, 1, .istore_n 3, 3, 0, 0, .null), (122, 1, .iconst 0, 0, 0, 0, .int 0), (123, 2, .istore 4, 4, 0, 0, .null), (125, 3, .goto 29, 154, 0, 0, .null), 
  (128, 2, .iload 6, 6, 0, 0, .null), (130, 3, .invokestatic 23, 0, 0, 0, .null), (133, 3, .ifCond .eq 12, 145, 0, 0, .null), (136, 1, .iload_n 1, 1, 0, 0, .null), 
  (137, 1, .iconst 4, 0, 0, 0, .int 4), (138, 3, .if_icmp .ge 7, 145, 0, 0, .null), (141, 1, .iconst 1, 0, 0, 0, .int 1), (142, 3, .goto 4, 146, 0, 0, .null), 
  (145, 1, .iconst 0, 0, 0, 0, .int 0), (146, 2, .istore 7, 7, 0, 0, .null), (148, 3, .iinc 1 1, 1, 0, 0, .int 1), (151, 1, .iconst 0, 0, 0, 0, .int 0), 
  (152, 2, .istore 4, 4, 0, 0, .null), (154, 2, .iload 7, 7, 0, 0, .null), (156, 3, .ifCond .ne 6, 162, 0, 0, .null), (159, 2, .iload 5, 5, 0, 0, .null), 
  (161, 1, .ireturn, 0, 0, 0, .null), (162, 3, .iinc 5 1, 5, 0, 0, .int 1), (165, 3, .goto (-153), 12, 0, 0, .null), (168, 2, .iload 4, 4, 0, 0, .null), 
  (170, 3, .ifCond .ne 23, 193, 0, 0, .null), (173, 1, .iload_n 1, 1, 0, 0, .null), (174, 3, .ifCond .eq 19, 193, 0, 0, .null), (177, 1, .aload_n 0, 0, 0, 0, .null), 
  (178, 1, .aload_n 0, 0, 0, 0, .null), (179, 3, .getfield 15, 3, 1, 104, .null), (182, 1, .iconst 1, 0, 0, 0, .int 1), (183, 1, .isub, 0, 0, 0, .null), 
  (184, 3, .invokevirtual 19, 0, 0, 0, .null), (187, 3, .invokestatic 23, 0, 0, 0, .null), (190, 3, .ifCond .eq 10, 200, 0, 0, .null), (193, 1, .aload_n 0, 0, 0, 0, .null), 
  (194, 3, .getfield 15, 3, 1, 104, .null), (197, 3, .goto 5, 202, 0, 0, .null), (200, 2, .bipush (-6), 0, 0, 0, .int (-6)), (202, 1, .ireturn, 0, 0, 0, .null)]
theorem okX3_faultAt : tX3_faultAt.all (okI yX3_faultAt.cls (decide (yX3_faultAt.name = "<init>")) cX3_faultAt) = true := by decide +kernel
def tX3_layOut : List CI := [
  (0, 1, .aload_n 1, 1, 0, 0, .null), (1, 3, .invokevirtual 27, 0, 0, 0, .null), (4, 1, .iconst 0, 0, 0, 0, .int 0), (5, 1, .istore_n 2, 2, 0, 0, .null), 
  (6, 1, .iload_n 2, 2, 0, 0, .null), (7, 1, .aload_n 0, 0, 0, 0, .null), (8, 3, .getfield 15, 3, 1, 104, .null), (11, 3, .if_icmp .ge 69, 80, 0, 0, .null), 
  (14, 1, .aload_n 0, 0, 0, 0, .null), (15, 1, .iload_n 2, 2, 0, 0, .null), (16, 3, .invokevirtual 19, 0, 0, 0, .null), (19, 1, .istore_n 3, 3, 0, 0, .null), 
  (20, 1, .iload_n 3, 3, 0, 0, .null), (21, 2, .bipush 59, 0, 0, 0, .int 59), (23, 3, .if_icmp .ne 16, 39, 0, 0, .null), (26, 1, .aload_n 1, 1, 0, 0, .null), 
  (27, 1, .dup, 0, 0, 0, .null), (28, 3, .getfield 32, 9, 1, 139, .null), (31, 1, .iconst 1, 0, 0, 0, .int 1), (32, 1, .iadd, 0, 0, 0, .null), 
  (33, 3, .putfield 32, 9, 1, 139, .int 0), (36, 3, .goto 38, 74, 0, 0, .null), (39, 1, .iload_n 3, 3, 0, 0, .null), (40, 2, .bipush 45, 0, 0, 0, .int 45), 
  (42, 3, .if_icmp .ne 10, 52, 0, 0, .null), (45, 1, .aload_n 1, 1, 0, 0, .null), (46, 3, .invokevirtual 35, 0, 0, 0, .null), (49, 3, .goto 25, 74, 0, 0, .null), 
  (52, 1, .iload_n 3, 3, 0, 0, .null), (53, 3, .invokestatic 23, 0, 0, 0, .null), (56, 3, .ifCond .eq 18, 74, 0, 0, .null), (59, 1, .aload_n 1, 1, 0, 0, .null), 
  (60, 1, .iload_n 3, 3, 0, 0, .null), (61, 1, .aload_n 0, 0, 0, 0, .null), (62, 1, .iload_n 2, 2, 0, 0, .null), (63, 1, .iconst 1, 0, 0, 0, .int 1), 
  (64, 1, .iadd, 0, 0, 0, .null), (65, 3, .invokevirtual 19, 0, 0, 0, .null), (68, 2, .bipush 48, 0, 0, 0, .int 48), (70, 1, .isub, 0, 0, 0, .null), 
  (71, 3, .invokevirtual 38, 0, 0, 0, .null), (74, 3, .iinc 2 1, 2, 0, 0, .int 1), (77, 3, .goto (-71), 6, 0, 0, .null), (80, 1, .aload_n 1, 1, 0, 0, .null), 
  (81, 3, .invokevirtual 42, 0, 0, 0, .null), (84, 1, .return_, 0, 0, 0, .null)]
theorem okX3_layOut : tX3_layOut.all (okI yX3_layOut.cls (decide (yX3_layOut.name = "<init>")) cX3_layOut) = true := by decide +kernel
def tX4_init : List CI := [
  (0, 1, .aload_n 0, 0, 0, 0, .null), (1, 3, .invokespecial 3, 0, 0, 0, .null), (4, 1, .aload_n 0, 0, 0, 0, .null), (5, 2, .bipush 6, 0, 0, 0, .int 6), 
  (7, 2, .newarray .int, 0, 0, 0, .null), (9, 3, .putfield 9, 4, 0, 183, .null), (12, 1, .aload_n 0, 0, 0, 0, .null), (13, 2, .bipush 6, 0, 0, 0, .int 6), 
  (15, 2, .newarray .int, 0, 0, 0, .null), (17, 3, .putfield 15, 4, 1, 184, .null), (20, 1, .return_, 0, 0, 0, .null)]
theorem okX4_init : tX4_init.all (okI yX4_init.cls (decide (yX4_init.name = "<init>")) cX4_init) = true := by decide +kernel
def tX4_begin : List CI := [
  (0, 1, .iconst 0, 0, 0, 0, .int 0), (1, 1, .istore_n 3, 3, 0, 0, .null), (2, 1, .iload_n 3, 3, 0, 0, .null), (3, 2, .bipush 6, 0, 0, 0, .int 6), 
  (5, 3, .if_icmp .ge 23, 28, 0, 0, .null), (8, 1, .aload_n 0, 0, 0, 0, .null), (9, 3, .getfield 9, 4, 0, 183, .null), (12, 1, .iload_n 3, 3, 0, 0, .null), 
  (13, 1, .iconst 0, 0, 0, 0, .int 0), (14, 1, .iastore, 0, 0, 0, .null), (15, 1, .aload_n 0, 0, 0, 0, .null), (16, 3, .getfield 15, 4, 1, 184, .null), 
  (19, 1, .iload_n 3, 3, 0, 0, .null), (20, 1, .iconst 0, 0, 0, 0, .int 0), (21, 1, .iastore, 0, 0, 0, .null), (22, 3, .iinc 3 1, 3, 0, 0, .int 1), 
  (25, 3, .goto (-23), 2, 0, 0, .null), (28, 1, .aload_n 0, 0, 0, 0, .null), (29, 3, .getfield 9, 4, 0, 183, .null), (32, 1, .iconst 0, 0, 0, 0, .int 0), 
  (33, 1, .iload_n 1, 1, 0, 0, .null), (34, 1, .iastore, 0, 0, 0, .null), (35, 1, .aload_n 0, 0, 0, 0, .null), (36, 3, .getfield 15, 4, 1, 184, .null), 
  (39, 1, .iconst 0, 0, 0, 0, .int 0), (40, 1, .iload_n 2, 2, 0, 0, .null), (41, 1, .iastore, 0, 0, 0, .null), (42, 1, .return_, 0, 0, 0, .null)]
theorem okX4_begin : tX4_begin.all (okI yX4_begin.cls (decide (yX4_begin.name = "<init>")) cX4_begin) = true := by decide +kernel
def tX4_copyFrom : List CI := [
  (0, 1, .aload_n 1, 1, 0, 0, .null), (1, 3, .getfield 9, 4, 0, 183, .null), (4, 1, .aload_n 0, 0, 0, 0, .null), (5, 3, .getfield 9, 4, 0, 183, .null), 
  (8, 3, .invokestatic 18, 0, 0, 0, .null), (11, 1, .aload_n 1, 1, 0, 0, .null), (12, 3, .getfield 15, 4, 1, 184, .null), (15, 1, .aload_n 0, 0, 0, 0, .null), 
  (16, 3, .getfield 15, 4, 1, 184, .null), (19, 3, .invokestatic 18, 0, 0, 0, .null), (22, 1, .return_, 0, 0, 0, .null)]
theorem okX4_copyFrom : tX4_copyFrom.all (okI yX4_copyFrom.cls (decide (yX4_copyFrom.name = "<init>")) cX4_copyFrom) = true := by decide +kernel
def tX4_rowAt : List CI := [
  (0, 1, .iload_n 1, 1, 0, 0, .null), (1, 3, .ifCond .lt 18, 19, 0, 0, .null), (4, 1, .iload_n 1, 1, 0, 0, .null), (5, 2, .bipush 6, 0, 0, 0, .int 6), 
  (7, 3, .if_icmp .ge 12, 19, 0, 0, .null), (10, 1, .aload_n 0, 0, 0, 0, .null), (11, 3, .getfield 9, 4, 0, 183, .null), (14, 1, .iload_n 1, 1, 0, 0, .null), 
  (15, 1, .iaload, 0, 0, 0, .null), (16, 3, .goto 4, 20, 0, 0, .null), (19, 1, .iconst 0, 0, 0, 0, .int 0), (20, 1, .ireturn, 0, 0, 0, .null)]
theorem okX4_rowAt : tX4_rowAt.all (okI yX4_rowAt.cls (decide (yX4_rowAt.name = "<init>")) cX4_rowAt) = true := by decide +kernel
def tX4_countAt : List CI := [
  (0, 1, .iload_n 1, 1, 0, 0, .null), (1, 3, .ifCond .lt 18, 19, 0, 0, .null), (4, 1, .iload_n 1, 1, 0, 0, .null), (5, 2, .bipush 6, 0, 0, 0, .int 6), 
  (7, 3, .if_icmp .ge 12, 19, 0, 0, .null), (10, 1, .aload_n 0, 0, 0, 0, .null), (11, 3, .getfield 15, 4, 1, 184, .null), (14, 1, .iload_n 1, 1, 0, 0, .null), 
  (15, 1, .iaload, 0, 0, 0, .null), (16, 3, .goto 4, 20, 0, 0, .null), (19, 1, .iconst 0, 0, 0, 0, .int 0), (20, 1, .ireturn, 0, 0, 0, .null)]
theorem okX4_countAt : tX4_countAt.all (okI yX4_countAt.cls (decide (yX4_countAt.name = "<init>")) cX4_countAt) = true := by decide +kernel
def tX4_isFarPut : List CI := [
  (0, 1, .iload_n 0, 0, 0, 0, .null), (1, 2, .bipush 10, 0, 0, 0, .int 10), (3, 1, .idiv, 0, 0, 0, .null), (4, 2, .bipush 10, 0, 0, 0, .int 10), (6, 1, .irem, 0, 0, 0, .null), 
  (7, 1, .iconst 5, 0, 0, 0, .int 5), (8, 3, .if_icmp .eq 11, 19, 0, 0, .null), (11, 1, .iload_n 0, 0, 0, 0, .null), (12, 2, .bipush 10, 0, 0, 0, .int 10), 
  (14, 1, .irem, 0, 0, 0, .null), (15, 1, .iconst 1, 0, 0, 0, .int 1), (16, 3, .if_icmp .ne 7, 23, 0, 0, .null), (19, 1, .iconst 1, 0, 0, 0, .int 1), 
  (20, 3, .goto 4, 24, 0, 0, .null), (23, 1, .iconst 0, 0, 0, 0, .int 0), (24, 1, .ireturn, 0, 0, 0, .null)]
theorem okX4_isFarPut : tX4_isFarPut.all (okI yX4_isFarPut.cls (decide (yX4_isFarPut.name = "<init>")) cX4_isFarPut) = true := by decide +kernel
def tX4_isFarTake : List CI := [
  (0, 1, .iload_n 0, 0, 0, 0, .null), (1, 2, .bipush 100, 0, 0, 0, .int 100), (3, 1, .idiv, 0, 0, 0, .null), (4, 2, .bipush 10, 0, 0, 0, .int 10), (6, 1, .irem, 0, 0, 0, .null), 
  (7, 1, .iconst 1, 0, 0, 0, .int 1), (8, 3, .if_icmp .ne 7, 15, 0, 0, .null), (11, 1, .iconst 1, 0, 0, 0, .int 1), (12, 3, .goto 4, 16, 0, 0, .null), 
  (15, 1, .iconst 0, 0, 0, 0, .int 0), (16, 1, .ireturn, 0, 0, 0, .null)]
theorem okX4_isFarTake : tX4_isFarTake.all (okI yX4_isFarTake.cls (decide (yX4_isFarTake.name = "<init>")) cX4_isFarTake) = true := by decide +kernel
def tX4_allows : List CI := [
  (0, 1, .iload_n 2, 2, 0, 0, .null), (1, 2, .bipush 10, 0, 0, 0, .int 10), (3, 1, .idiv, 0, 0, 0, .null), (4, 2, .bipush 10, 0, 0, 0, .int 10), (6, 1, .irem, 0, 0, 0, .null), 
  (7, 1, .istore_n 3, 3, 0, 0, .null), (8, 1, .aload_n 0, 0, 0, 0, .null), (9, 1, .iload_n 2, 2, 0, 0, .null), (10, 3, .sipush 1000, 0, 0, 0, .int 1000), 
  (13, 1, .idiv, 0, 0, 0, .null), (14, 3, .invokevirtual 22, 0, 0, 0, .null), (17, 3, .ifCond .le 27, 44, 0, 0, .null), (20, 1, .iload_n 3, 3, 0, 0, .null), 
  (21, 1, .iconst 5, 0, 0, 0, .int 5), (22, 3, .if_icmp .eq 18, 40, 0, 0, .null), (25, 1, .aload_n 0, 0, 0, 0, .null), (26, 1, .iload_n 3, 3, 0, 0, .null), 
  (27, 3, .invokevirtual 22, 0, 0, 0, .null), (30, 1, .aload_n 1, 1, 0, 0, .null), (31, 1, .iload_n 3, 3, 0, 0, .null), (32, 1, .iconst 1, 0, 0, 0, .int 1), 
  (33, 1, .isub, 0, 0, 0, .null), (34, 3, .invokevirtual 26, 0, 0, 0, .null), (37, 3, .if_icmp .ge 7, 44, 0, 0, .null), (40, 1, .iconst 1, 0, 0, 0, .int 1), 
  (41, 3, .goto 4, 45, 0, 0, .null), (44, 1, .iconst 0, 0, 0, 0, .int 0), (45, 1, .ireturn, 0, 0, 0, .null)]
theorem okX4_allows : tX4_allows.all (okI yX4_allows.cls (decide (yX4_allows.name = "<init>")) cX4_allows) = true := by decide +kernel
def tX4_wagonOf : List CI := [
  (0, 1, .iload_n 1, 1, 0, 0, .null), (1, 3, .sipush 1000, 0, 0, 0, .int 1000), (4, 1, .idiv, 0, 0, 0, .null), (5, 1, .istore_n 2, 2, 0, 0, .null), 
  (6, 1, .aload_n 0, 0, 0, 0, .null), (7, 1, .iload_n 2, 2, 0, 0, .null), (8, 3, .invokevirtual 31, 0, 0, 0, .null), (11, 1, .iload_n 1, 1, 0, 0, .null), 
  (12, 3, .invokestatic 34, 0, 0, 0, .null), (15, 3, .ifCond .eq 13, 28, 0, 0, .null), (18, 1, .aload_n 0, 0, 0, 0, .null), (19, 1, .iload_n 2, 2, 0, 0, .null), 
  (20, 3, .invokevirtual 22, 0, 0, 0, .null), (23, 1, .iconst 1, 0, 0, 0, .int 1), (24, 1, .isub, 0, 0, 0, .null), (25, 3, .goto 4, 29, 0, 0, .null), 
  (28, 1, .iconst 0, 0, 0, 0, .int 0), (29, 3, .invokestatic 38, 0, 0, 0, .null), (32, 1, .ireturn, 0, 0, 0, .null)]
theorem okX4_wagonOf : tX4_wagonOf.all (okI yX4_wagonOf.cls (decide (yX4_wagonOf.name = "<init>")) cX4_wagonOf) = true := by decide +kernel
def tX4_shift : List CI := [
  (0, 1, .aload_n 0, 0, 0, 0, .null), (1, 1, .iload_n 1, 1, 0, 0, .null), (2, 2, .bipush 10, 0, 0, 0, .int 10), (4, 1, .idiv, 0, 0, 0, .null), 
  (5, 2, .bipush 10, 0, 0, 0, .int 10), (7, 1, .irem, 0, 0, 0, .null), (8, 1, .aload_n 0, 0, 0, 0, .null), (9, 1, .iload_n 1, 1, 0, 0, .null), 
  (10, 3, .sipush 1000, 0, 0, 0, .int 1000), (13, 1, .idiv, 0, 0, 0, .null), (14, 1, .iload_n 1, 1, 0, 0, .null), (15, 3, .invokestatic 34, 0, 0, 0, .null), 
  (18, 3, .invokevirtual 44, 0, 0, 0, .null), (21, 1, .iload_n 1, 1, 0, 0, .null), (22, 3, .invokestatic 48, 0, 0, 0, .null), (25, 3, .invokevirtual 51, 0, 0, 0, .null), 
  (28, 1, .return_, 0, 0, 0, .null)]
theorem okX4_shift : tX4_shift.all (okI yX4_shift.cls (decide (yX4_shift.name = "<init>")) cX4_shift) = true := by decide +kernel
def tX4_unshift : List CI := [
  (0, 1, .aload_n 0, 0, 0, 0, .null), (1, 1, .iload_n 1, 1, 0, 0, .null), (2, 3, .sipush 1000, 0, 0, 0, .int 1000), (5, 1, .idiv, 0, 0, 0, .null), 
  (6, 1, .aload_n 0, 0, 0, 0, .null), (7, 1, .iload_n 1, 1, 0, 0, .null), (8, 2, .bipush 10, 0, 0, 0, .int 10), (10, 1, .idiv, 0, 0, 0, .null), 
  (11, 2, .bipush 10, 0, 0, 0, .int 10), (13, 1, .irem, 0, 0, 0, .null), (14, 1, .iload_n 1, 1, 0, 0, .null), (15, 3, .invokestatic 48, 0, 0, 0, .null), 
  (18, 3, .invokevirtual 44, 0, 0, 0, .null), (21, 1, .iload_n 1, 1, 0, 0, .null), (22, 3, .invokestatic 34, 0, 0, 0, .null), (25, 3, .invokevirtual 51, 0, 0, 0, .null), 
  (28, 1, .return_, 0, 0, 0, .null)]
theorem okX4_unshift : tX4_unshift.all (okI yX4_unshift.cls (decide (yX4_unshift.name = "<init>")) cX4_unshift) = true := by decide +kernel
def tX4_take : List CI := [
  (0, 1, .iload_n 1, 1, 0, 0, .null), (1, 3, .ifCond .lt 19, 20, 0, 0, .null), (4, 1, .iload_n 1, 1, 0, 0, .null), (5, 2, .bipush 6, 0, 0, 0, .int 6), 
  (7, 3, .if_icmp .ge 13, 20, 0, 0, .null), (10, 1, .aload_n 0, 0, 0, 0, .null), (11, 3, .getfield 15, 4, 1, 184, .null), (14, 1, .iload_n 1, 1, 0, 0, .null), 
  (15, 1, .iaload, 0, 0, 0, .null), (16, 1, .iconst 1, 0, 0, 0, .int 1), (17, 3, .if_icmp .ge 5, 22, 0, 0, .null), (20, 1, .iconst 0, 0, 0, 0, .int 0), 
  (21, 1, .ireturn, 0, 0, 0, .null), (22, 1, .aload_n 0, 0, 0, 0, .null), (23, 3, .getfield 15, 4, 1, 184, .null), (26, 1, .iload_n 1, 1, 0, 0, .null), 
  (27, 1, .dup2, 0, 0, 0, .null), (28, 1, .iaload, 0, 0, 0, .null), (29, 1, .iconst 1, 0, 0, 0, .int 1), (30, 1, .isub, 0, 0, 0, .null), (31, 1, .iastore, 0, 0, 0, .null), 
  (32, 1, .aload_n 0, 0, 0, 0, .null), (33, 3, .getfield 9, 4, 0, 183, .null), (36, 1, .iload_n 1, 1, 0, 0, .null), (37, 1, .iaload, 0, 0, 0, .null), 
  (38, 1, .istore_n 3, 3, 0, 0, .null), (39, 1, .iload_n 2, 2, 0, 0, .null), (40, 3, .ifCond .ne 17, 57, 0, 0, .null), (43, 1, .aload_n 0, 0, 0, 0, .null), 
  (44, 3, .getfield 9, 4, 0, 183, .null), (47, 1, .iload_n 1, 1, 0, 0, .null), (48, 1, .iload_n 3, 3, 0, 0, .null), (49, 1, .iconst 3, 0, 0, 0, .int 3), 
  (50, 1, .ishr, 0, 0, 0, .null), (51, 1, .iastore, 0, 0, 0, .null), (52, 1, .iload_n 3, 3, 0, 0, .null), (53, 2, .bipush 7, 0, 0, 0, .int 7), (55, 1, .iand, 0, 0, 0, .null), 
  (56, 1, .ireturn, 0, 0, 0, .null), (57, 1, .iconst 3, 0, 0, 0, .int 3), (58, 1, .aload_n 0, 0, 0, 0, .null), (59, 3, .getfield 15, 4, 1, 184, .null), 
  (62, 1, .iload_n 1, 1, 0, 0, .null), (63, 1, .iaload, 0, 0, 0, .null), (64, 1, .imul, 0, 0, 0, .null), (65, 2, .istore 4, 4, 0, 0, .null), (67, 1, .aload_n 0, 0, 0, 0, .null), 
  (68, 3, .getfield 9, 4, 0, 183, .null), (71, 1, .iload_n 1, 1, 0, 0, .null), (72, 1, .iload_n 3, 3, 0, 0, .null), (73, 1, .iconst 1, 0, 0, 0, .int 1), 
  (74, 2, .iload 4, 4, 0, 0, .null), (76, 1, .ishl, 0, 0, 0, .null), (77, 1, .iconst 1, 0, 0, 0, .int 1), (78, 1, .isub, 0, 0, 0, .null), (79, 1, .iand, 0, 0, 0, .null), 
  (80, 1, .iastore, 0, 0, 0, .null), (81, 1, .iload_n 3, 3, 0, 0, .null), (82, 2, .iload 4, 4, 0, 0, .null), (84, 1, .ishr, 0, 0, 0, .null), (85, 2, .bipush 7, 0, 0, 0, .int 7), 
  (87, 1, .iand, 0, 0, 0, .null), (88, 1, .ireturn, 0, 0, 0, .null)]
theorem okX4_take : tX4_take.all (okI yX4_take.cls (decide (yX4_take.name = "<init>")) cX4_take) = true := by decide +kernel
def tX4_put : List CI := [
  (0, 1, .iload_n 1, 1, 0, 0, .null), (1, 3, .ifCond .lt 13, 14, 0, 0, .null), (4, 1, .iload_n 1, 1, 0, 0, .null), (5, 2, .bipush 6, 0, 0, 0, .int 6), 
  (7, 3, .if_icmp .ge 7, 14, 0, 0, .null), (10, 1, .iload_n 2, 2, 0, 0, .null), (11, 3, .ifCond .ne 4, 15, 0, 0, .null), (14, 1, .return_, 0, 0, 0, .null), 
  (15, 1, .aload_n 0, 0, 0, 0, .null), (16, 3, .getfield 9, 4, 0, 183, .null), (19, 1, .iload_n 1, 1, 0, 0, .null), (20, 1, .iload_n 3, 3, 0, 0, .null), 
  (21, 3, .ifCond .eq 23, 44, 0, 0, .null), (24, 1, .aload_n 0, 0, 0, 0, .null), (25, 3, .getfield 9, 4, 0, 183, .null), (28, 1, .iload_n 1, 1, 0, 0, .null), 
  (29, 1, .iaload, 0, 0, 0, .null), (30, 1, .iload_n 2, 2, 0, 0, .null), (31, 1, .iconst 3, 0, 0, 0, .int 3), (32, 1, .aload_n 0, 0, 0, 0, .null), 
  (33, 3, .getfield 15, 4, 1, 184, .null), (36, 1, .iload_n 1, 1, 0, 0, .null), (37, 1, .iaload, 0, 0, 0, .null), (38, 1, .imul, 0, 0, 0, .null), (39, 1, .ishl, 0, 0, 0, .null), 
  (40, 1, .ior, 0, 0, 0, .null), (41, 3, .goto 13, 54, 0, 0, .null), (44, 1, .aload_n 0, 0, 0, 0, .null), (45, 3, .getfield 9, 4, 0, 183, .null), 
  (48, 1, .iload_n 1, 1, 0, 0, .null), (49, 1, .iaload, 0, 0, 0, .null), (50, 1, .iconst 3, 0, 0, 0, .int 3), (51, 1, .ishl, 0, 0, 0, .null), (52, 1, .iload_n 2, 2, 0, 0, .null), 
  (53, 1, .ior, 0, 0, 0, .null), (54, 1, .iastore, 0, 0, 0, .null), (55, 1, .aload_n 0, 0, 0, 0, .null), (56, 3, .getfield 15, 4, 1, 184, .null), 
  (59, 1, .iload_n 1, 1, 0, 0, .null), (60, 1, .dup2, 0, 0, 0, .null), (61, 1, .iaload, 0, 0, 0, .null), (62, 1, .iconst 1, 0, 0, 0, .int 1), (63, 1, .iadd, 0, 0, 0, .null), 
  (64, 1, .iastore, 0, 0, 0, .null), (65, 1, .return_, 0, 0, 0, .null)]
theorem okX4_put : tX4_put.all (okI yX4_put.cls (decide (yX4_put.name = "<init>")) cX4_put) = true := by decide +kernel
def tX4_placeOfList : List CI := [
  (0, 1, .iload_n 0, 0, 0, 0, .null), (1, 1, .iload_n 1, 1, 0, 0, .null), (2, 3, .if_icmp .ge 9, 11, 0, 0, .null), (5, 1, .iload_n 0, 0, 0, 0, .null), 
  (6, 1, .iconst 1, 0, 0, 0, .int 1), (7, 1, .iadd, 0, 0, 0, .null), (8, 3, .goto 4, 12, 0, 0, .null), (11, 1, .iconst 5, 0, 0, 0, .int 5), (12, 1, .ireturn, 0, 0, 0, .null)]
theorem okX4_placeOfList : tX4_placeOfList.all (okI yX4_placeOfList.cls (decide (yX4_placeOfList.name = "<init>")) cX4_placeOfList) = true := by decide +kernel
def tX4_index : List CI := [
  (0, 1, .iconst 0, 0, 0, 0, .int 0), (1, 1, .istore_n 2, 2, 0, 0, .null), (2, 1, .iconst 0, 0, 0, 0, .int 0), (3, 1, .istore_n 3, 3, 0, 0, .null), 
  (4, 1, .iconst 0, 0, 0, 0, .int 0), (5, 2, .istore 4, 4, 0, 0, .null), (7, 2, .iload 4, 4, 0, 0, .null), (9, 1, .iload_n 1, 1, 0, 0, .null), 
  (10, 3, .if_icmp .gt 89, 99, 0, 0, .null), (13, 2, .iload 4, 4, 0, 0, .null), (15, 1, .iconst 4, 0, 0, 0, .int 4), (16, 3, .if_icmp .gt 83, 99, 0, 0, .null), 
  (19, 1, .aload_n 0, 0, 0, 0, .null), (20, 2, .iload 4, 4, 0, 0, .null), (22, 1, .iload_n 1, 1, 0, 0, .null), (23, 3, .invokestatic 55, 0, 0, 0, .null), 
  (26, 3, .invokevirtual 31, 0, 0, 0, .null), (29, 2, .istore 5, 5, 0, 0, .null), (31, 1, .iconst 0, 0, 0, 0, .int 0), (32, 2, .istore 6, 6, 0, 0, .null), 
  (34, 2, .iload 6, 6, 0, 0, .null), (36, 1, .iconst 5, 0, 0, 0, .int 5), (37, 3, .if_icmp .ge 56, 93, 0, 0, .null), (40, 2, .iload 5, 5, 0, 0, .null), 
  (42, 3, .ifCond .le 51, 93, 0, 0, .null), (45, 2, .iload 5, 5, 0, 0, .null), (47, 2, .bipush 7, 0, 0, 0, .int 7), (49, 1, .iand, 0, 0, 0, .null), 
  (50, 2, .istore 7, 7, 0, 0, .null), (52, 1, .iload_n 3, 3, 0, 0, .null), (53, 2, .iload 4, 4, 0, 0, .null), (55, 1, .iload_n 2, 2, 0, 0, .null), 
  (56, 1, .iconst 1, 0, 0, 0, .int 1), (57, 2, .iload 7, 7, 0, 0, .null), (59, 1, .ishl, 0, 0, 0, .null), (60, 1, .iconst 1, 0, 0, 0, .int 1), (61, 1, .isub, 0, 0, 0, .null), 
  (62, 1, .iand, 0, 0, 0, .null), (63, 3, .invokestatic 58, 0, 0, 0, .null), (66, 1, .iadd, 0, 0, 0, .null), (67, 1, .iconst 4, 0, 0, 0, .int 4), 
  (68, 2, .iload 7, 7, 0, 0, .null), (70, 1, .imul, 0, 0, 0, .null), (71, 1, .ishl, 0, 0, 0, .null), (72, 1, .ior, 0, 0, 0, .null), (73, 1, .istore_n 3, 3, 0, 0, .null), 
  (74, 1, .iload_n 2, 2, 0, 0, .null), (75, 1, .iconst 1, 0, 0, 0, .int 1), (76, 2, .iload 7, 7, 0, 0, .null), (78, 1, .ishl, 0, 0, 0, .null), (79, 1, .ior, 0, 0, 0, .null), 
  (80, 1, .istore_n 2, 2, 0, 0, .null), (81, 2, .iload 5, 5, 0, 0, .null), (83, 1, .iconst 3, 0, 0, 0, .int 3), (84, 1, .ishr, 0, 0, 0, .null), (85, 2, .istore 5, 5, 0, 0, .null), 
  (87, 3, .iinc 6 1, 6, 0, 0, .int 1), (90, 3, .goto (-56), 34, 0, 0, .null), (93, 3, .iinc 4 1, 4, 0, 0, .int 1), (96, 3, .goto (-89), 7, 0, 0, .null), 
  (99, 1, .iload_n 2, 2, 0, 0, .null), (100, 3, .invokestatic 58, 0, 0, 0, .null), (103, 2, .istore 4, 4, 0, 0, .null), (105, 1, .iconst 0, 0, 0, 0, .int 0), 
  (106, 2, .istore 5, 5, 0, 0, .null), (108, 1, .iconst 1, 0, 0, 0, .int 1), (109, 2, .istore 6, 6, 0, 0, .null), (111, 1, .iconst 0, 0, 0, 0, .int 0), 
  (112, 2, .istore 7, 7, 0, 0, .null), (114, 1, .iconst 1, 0, 0, 0, .int 1), (115, 2, .istore 8, 8, 0, 0, .null), (117, 2, .iload 8, 8, 0, 0, .null), 
  (119, 2, .iload 4, 4, 0, 0, .null), (121, 3, .if_icmp .gt 44, 165, 0, 0, .null), (124, 2, .iload 5, 5, 0, 0, .null), (126, 2, .iload 6, 6, 0, 0, .null), 
  (128, 1, .iadd, 0, 0, 0, .null), (129, 2, .istore 5, 5, 0, 0, .null), (131, 2, .iload 6, 6, 0, 0, .null), (133, 2, .iload 8, 8, 0, 0, .null), 
  (135, 1, .iload_n 1, 1, 0, 0, .null), (136, 1, .iadd, 0, 0, 0, .null), (137, 1, .imul, 0, 0, 0, .null), (138, 2, .istore 6, 6, 0, 0, .null), (140, 2, .iload 7, 7, 0, 0, .null), 
  (142, 2, .iload 8, 8, 0, 0, .null), (144, 1, .iload_n 1, 1, 0, 0, .null), (145, 1, .iadd, 0, 0, 0, .null), (146, 1, .imul, 0, 0, 0, .null), (147, 1, .iload_n 3, 3, 0, 0, .null), 
  (148, 1, .iconst 4, 0, 0, 0, .int 4), (149, 2, .iload 8, 8, 0, 0, .null), (151, 1, .imul, 0, 0, 0, .null), (152, 1, .ishr, 0, 0, 0, .null), 
  (153, 2, .bipush 15, 0, 0, 0, .int 15), (155, 1, .iand, 0, 0, 0, .null), (156, 1, .iadd, 0, 0, 0, .null), (157, 2, .istore 7, 7, 0, 0, .null), 
  (159, 3, .iinc 8 1, 8, 0, 0, .int 1), (162, 3, .goto (-45), 117, 0, 0, .null), (165, 2, .iload 5, 5, 0, 0, .null), (167, 2, .iload 7, 7, 0, 0, .null), 
  (169, 1, .iadd, 0, 0, 0, .null), (170, 1, .ireturn, 0, 0, 0, .null)]
theorem okX4_index : tX4_index.all (okI yX4_index.cls (decide (yX4_index.name = "<init>")) cX4_index) = true := by decide +kernel
def tX4_indices : List CI := [
  (0, 1, .iconst 1, 0, 0, 0, .int 1), (1, 1, .istore_n 2, 2, 0, 0, .null), (2, 1, .iconst 1, 0, 0, 0, .int 1), (3, 1, .istore_n 3, 3, 0, 0, .null), 
  (4, 1, .iconst 1, 0, 0, 0, .int 1), (5, 2, .istore 4, 4, 0, 0, .null), (7, 2, .iload 4, 4, 0, 0, .null), (9, 1, .iload_n 0, 0, 0, 0, .null), 
  (10, 3, .if_icmp .gt 26, 36, 0, 0, .null), (13, 2, .iload 4, 4, 0, 0, .null), (15, 1, .iconst 5, 0, 0, 0, .int 5), (16, 3, .if_icmp .gt 20, 36, 0, 0, .null), 
  (19, 1, .iload_n 2, 2, 0, 0, .null), (20, 2, .iload 4, 4, 0, 0, .null), (22, 1, .iload_n 1, 1, 0, 0, .null), (23, 1, .iadd, 0, 0, 0, .null), (24, 1, .imul, 0, 0, 0, .null), 
  (25, 1, .istore_n 2, 2, 0, 0, .null), (26, 1, .iload_n 3, 3, 0, 0, .null), (27, 1, .iload_n 2, 2, 0, 0, .null), (28, 1, .iadd, 0, 0, 0, .null), 
  (29, 1, .istore_n 3, 3, 0, 0, .null), (30, 3, .iinc 4 1, 4, 0, 0, .int 1), (33, 3, .goto (-26), 7, 0, 0, .null), (36, 1, .iload_n 3, 3, 0, 0, .null), 
  (37, 1, .ireturn, 0, 0, 0, .null)]
theorem okX4_indices : tX4_indices.all (okI yX4_indices.cls (decide (yX4_indices.name = "<init>")) cX4_indices) = true := by decide +kernel
def tX4_setUp : List CI := [
  (0, 1, .iconst 0, 0, 0, 0, .int 0), (1, 2, .istore 4, 4, 0, 0, .null), (3, 1, .iconst 1, 0, 0, 0, .int 1), (4, 2, .istore 5, 5, 0, 0, .null), (6, 1, .iload_n 1, 1, 0, 0, .null), 
  (7, 2, .istore 6, 6, 0, 0, .null), (9, 2, .iload 4, 4, 0, 0, .null), (11, 1, .iload_n 2, 2, 0, 0, .null), (12, 3, .if_icmp .ge 32, 44, 0, 0, .null), 
  (15, 2, .iload 6, 6, 0, 0, .null), (17, 2, .iload 5, 5, 0, 0, .null), (19, 3, .if_icmp .lt 25, 44, 0, 0, .null), (22, 2, .iload 6, 6, 0, 0, .null), 
  (24, 2, .iload 5, 5, 0, 0, .null), (26, 1, .isub, 0, 0, 0, .null), (27, 2, .istore 6, 6, 0, 0, .null), (29, 3, .iinc 4 1, 4, 0, 0, .int 1), (32, 2, .iload 5, 5, 0, 0, .null), 
  (34, 2, .iload 4, 4, 0, 0, .null), (36, 1, .iload_n 3, 3, 0, 0, .null), (37, 1, .iadd, 0, 0, 0, .null), (38, 1, .imul, 0, 0, 0, .null), (39, 2, .istore 5, 5, 0, 0, .null), 
  (41, 3, .goto (-32), 9, 0, 0, .null), (44, 1, .iconst 0, 0, 0, 0, .int 0), (45, 2, .istore 7, 7, 0, 0, .null), (47, 2, .iload 4, 4, 0, 0, .null), 
  (49, 2, .istore 8, 8, 0, 0, .null), (51, 2, .iload 8, 8, 0, 0, .null), (53, 3, .ifCond .le 41, 94, 0, 0, .null), (56, 1, .iconst 1, 0, 0, 0, .int 1), 
  (57, 2, .iload 8, 8, 0, 0, .null), (59, 1, .iload_n 3, 3, 0, 0, .null), (60, 1, .iadd, 0, 0, 0, .null), (61, 3, .invokestatic 63, 0, 0, 0, .null), 
  (64, 2, .istore 9, 9, 0, 0, .null), (66, 2, .iload 7, 7, 0, 0, .null), (68, 2, .iload 6, 6, 0, 0, .null), (70, 2, .iload 9, 9, 0, 0, .null), (72, 1, .irem, 0, 0, 0, .null), 
  (73, 1, .iconst 4, 0, 0, 0, .int 4), (74, 2, .iload 8, 8, 0, 0, .null), (76, 1, .imul, 0, 0, 0, .null), (77, 1, .ishl, 0, 0, 0, .null), (78, 1, .ior, 0, 0, 0, .null), 
  (79, 2, .istore 7, 7, 0, 0, .null), (81, 2, .iload 6, 6, 0, 0, .null), (83, 2, .iload 9, 9, 0, 0, .null), (85, 1, .idiv, 0, 0, 0, .null), (86, 2, .istore 6, 6, 0, 0, .null), 
  (88, 3, .iinc 8 (-1), 8, 0, 0, .int (-1)), (91, 3, .goto (-40), 51, 0, 0, .null), (94, 1, .aload_n 0, 0, 0, 0, .null), (95, 1, .iload_n 2, 2, 0, 0, .null), 
  (96, 3, .invokestatic 68, 0, 0, 0, .null), (99, 1, .iconst 3, 0, 0, 0, .int 3), (100, 2, .iload 4, 4, 0, 0, .null), (102, 1, .imul, 0, 0, 0, .null), 
  (103, 1, .ishr, 0, 0, 0, .null), (104, 1, .iload_n 2, 2, 0, 0, .null), (105, 2, .iload 4, 4, 0, 0, .null), (107, 1, .isub, 0, 0, 0, .null), 
  (108, 3, .invokevirtual 71, 0, 0, 0, .null), (111, 1, .iconst 1, 0, 0, 0, .int 1), (112, 2, .istore 8, 8, 0, 0, .null), (114, 2, .iload 8, 8, 0, 0, .null), 
  (116, 2, .iload 4, 4, 0, 0, .null), (118, 3, .if_icmp .gt 26, 144, 0, 0, .null), (121, 1, .aload_n 0, 0, 0, 0, .null), (122, 2, .iload 8, 8, 0, 0, .null), 
  (124, 2, .iload 7, 7, 0, 0, .null), (126, 1, .iconst 4, 0, 0, 0, .int 4), (127, 2, .iload 8, 8, 0, 0, .null), (129, 1, .imul, 0, 0, 0, .null), (130, 1, .ishr, 0, 0, 0, .null), 
  (131, 2, .bipush 15, 0, 0, 0, .int 15), (133, 1, .iand, 0, 0, 0, .null), (134, 1, .iload_n 3, 3, 0, 0, .null), (135, 3, .invokevirtual 75, 0, 0, 0, .null), 
  (138, 3, .iinc 8 1, 8, 0, 0, .int 1), (141, 3, .goto (-27), 114, 0, 0, .null), (144, 1, .return_, 0, 0, 0, .null)]
theorem okX4_setUp : tX4_setUp.all (okI yX4_setUp.cls (decide (yX4_setUp.name = "<init>")) cX4_setUp) = true := by decide +kernel
def tX4_insert : List CI := [
  (0, 1, .iload_n 2, 2, 0, 0, .null), (1, 2, .istore 4, 4, 0, 0, .null), (3, 1, .iconst 0, 0, 0, 0, .int 0), (4, 2, .istore 5, 5, 0, 0, .null), (6, 2, .iload 5, 5, 0, 0, .null), 
  (8, 1, .iload_n 3, 3, 0, 0, .null), (9, 3, .if_icmp .gt 51, 60, 0, 0, .null), (12, 2, .iload 5, 5, 0, 0, .null), (14, 1, .iload_n 3, 3, 0, 0, .null), 
  (15, 3, .invokestatic 55, 0, 0, 0, .null), (18, 2, .istore 6, 6, 0, 0, .null), (20, 1, .aload_n 0, 0, 0, 0, .null), (21, 2, .iload 6, 6, 0, 0, .null), 
  (23, 3, .invokevirtual 22, 0, 0, 0, .null), (26, 2, .istore 7, 7, 0, 0, .null), (28, 2, .iload 4, 4, 0, 0, .null), (30, 2, .iload 7, 7, 0, 0, .null), 
  (32, 3, .if_icmp .gt 13, 45, 0, 0, .null), (35, 1, .aload_n 0, 0, 0, 0, .null), (36, 2, .iload 6, 6, 0, 0, .null), (38, 1, .iload_n 1, 1, 0, 0, .null), 
  (39, 2, .iload 4, 4, 0, 0, .null), (41, 3, .invokevirtual 79, 0, 0, 0, .null), (44, 1, .return_, 0, 0, 0, .null), (45, 2, .iload 4, 4, 0, 0, .null), 
  (47, 2, .iload 7, 7, 0, 0, .null), (49, 1, .iconst 1, 0, 0, 0, .int 1), (50, 1, .iadd, 0, 0, 0, .null), (51, 1, .isub, 0, 0, 0, .null), (52, 2, .istore 4, 4, 0, 0, .null), 
  (54, 3, .iinc 5 1, 5, 0, 0, .int 1), (57, 3, .goto (-51), 6, 0, 0, .null), (60, 1, .return_, 0, 0, 0, .null)]
theorem okX4_insert : tX4_insert.all (okI yX4_insert.cls (decide (yX4_insert.name = "<init>")) cX4_insert) = true := by decide +kernel
def tX4_insertAt : List CI := [
  (0, 1, .iload_n 1, 1, 0, 0, .null), (1, 3, .ifCond .lt 63, 64, 0, 0, .null), (4, 1, .iload_n 1, 1, 0, 0, .null), (5, 2, .bipush 6, 0, 0, 0, .int 6), 
  (7, 3, .if_icmp .ge 57, 64, 0, 0, .null), (10, 1, .iconst 3, 0, 0, 0, .int 3), (11, 1, .iload_n 3, 3, 0, 0, .null), (12, 1, .imul, 0, 0, 0, .null), 
  (13, 2, .istore 4, 4, 0, 0, .null), (15, 1, .aload_n 0, 0, 0, 0, .null), (16, 3, .getfield 9, 4, 0, 183, .null), (19, 1, .iload_n 1, 1, 0, 0, .null), 
  (20, 1, .iaload, 0, 0, 0, .null), (21, 2, .istore 5, 5, 0, 0, .null), (23, 1, .aload_n 0, 0, 0, 0, .null), (24, 3, .getfield 9, 4, 0, 183, .null), 
  (27, 1, .iload_n 1, 1, 0, 0, .null), (28, 2, .iload 5, 5, 0, 0, .null), (30, 1, .iconst 1, 0, 0, 0, .int 1), (31, 2, .iload 4, 4, 0, 0, .null), (33, 1, .ishl, 0, 0, 0, .null), 
  (34, 1, .iconst 1, 0, 0, 0, .int 1), (35, 1, .isub, 0, 0, 0, .null), (36, 1, .iand, 0, 0, 0, .null), (37, 1, .iload_n 2, 2, 0, 0, .null), (38, 2, .iload 4, 4, 0, 0, .null), 
  (40, 1, .ishl, 0, 0, 0, .null), (41, 1, .ior, 0, 0, 0, .null), (42, 2, .iload 5, 5, 0, 0, .null), (44, 2, .iload 4, 4, 0, 0, .null), (46, 1, .ishr, 0, 0, 0, .null), 
  (47, 2, .iload 4, 4, 0, 0, .null), (49, 1, .iconst 3, 0, 0, 0, .int 3), (50, 1, .iadd, 0, 0, 0, .null), (51, 1, .ishl, 0, 0, 0, .null), (52, 1, .ior, 0, 0, 0, .null), 
  (53, 1, .iastore, 0, 0, 0, .null), (54, 1, .aload_n 0, 0, 0, 0, .null), (55, 3, .getfield 15, 4, 1, 184, .null), (58, 1, .iload_n 1, 1, 0, 0, .null), 
  (59, 1, .dup2, 0, 0, 0, .null), (60, 1, .iaload, 0, 0, 0, .null), (61, 1, .iconst 1, 0, 0, 0, .int 1), (62, 1, .iadd, 0, 0, 0, .null), (63, 1, .iastore, 0, 0, 0, .null), 
  (64, 1, .return_, 0, 0, 0, .null)]
theorem okX4_insertAt : tX4_insertAt.all (okI yX4_insertAt.cls (decide (yX4_insertAt.name = "<init>")) cX4_insertAt) = true := by decide +kernel
def tX5_init : List CI := [
  (0, 1, .aload_n 0, 0, 0, 0, .null), (1, 3, .invokespecial 3, 0, 0, 0, .null), (4, 1, .aload_n 0, 0, 0, 0, .null), (5, 2, .bipush 20, 0, 0, 0, .int 20), 
  (7, 2, .newarray .int, 0, 0, 0, .null), (9, 3, .putfield 9, 5, 5, 200, .null), (12, 1, .aload_n 0, 0, 0, 0, .null), (13, 3, .new 15, 0, 0, 0, .null), 
  (16, 1, .dup, 0, 0, 0, .null), (17, 3, .invokespecial 17, 0, 0, 0, .null), (20, 3, .putfield 18, 5, 6, 201, .null), (23, 1, .return_, 0, 0, 0, .null)]
theorem okX5_init : tX5_init.all (okI yX5_init.cls (decide (yX5_init.name = "<init>")) cX5_init) = true := by decide +kernel
def tX5_begin : List CI := [
  (0, 1, .aload_n 0, 0, 0, 0, .null), (1, 1, .iconst 1, 0, 0, 0, .int 1), (2, 3, .putfield 22, 5, 0, 190, .long 0), (5, 1, .aload_n 0, 0, 0, 0, .null), 
  (6, 1, .iload_n 1, 1, 0, 0, .null), (7, 3, .putfield 26, 5, 1, 192, .int 0), (10, 1, .aload_n 0, 0, 0, 0, .null), (11, 1, .iload_n 2, 2, 0, 0, .null), 
  (12, 3, .putfield 30, 5, 2, 194, .int 0), (15, 1, .aload_n 0, 0, 0, 0, .null), (16, 1, .iload_n 3, 3, 0, 0, .null), (17, 3, .putfield 33, 5, 3, 196, .int 0), 
  (20, 1, .aload_n 0, 0, 0, 0, .null), (21, 1, .iconst 0, 0, 0, 0, .int 0), (22, 3, .putfield 36, 5, 4, 198, .int 0), (25, 1, .aload_n 0, 0, 0, 0, .null), 
  (26, 3, .getfield 18, 5, 6, 201, .null), (29, 1, .iload_n 3, 3, 0, 0, .null), (30, 3, .invokestatic 39, 0, 0, 0, .null), (33, 1, .iload_n 3, 3, 0, 0, .null), 
  (34, 3, .invokevirtual 45, 0, 0, 0, .null), (37, 1, .return_, 0, 0, 0, .null)]
theorem okX5_begin : tX5_begin.all (okI yX5_begin.cls (decide (yX5_begin.name = "<init>")) cX5_begin) = true := by decide +kernel
def tX5_copyFrom : List CI := [
  (0, 1, .aload_n 0, 0, 0, 0, .null), (1, 1, .aload_n 1, 1, 0, 0, .null), (2, 3, .getfield 22, 5, 0, 190, .null), (5, 3, .putfield 22, 5, 0, 190, .long 0), 
  (8, 1, .aload_n 0, 0, 0, 0, .null), (9, 1, .aload_n 1, 1, 0, 0, .null), (10, 3, .getfield 26, 5, 1, 192, .null), (13, 3, .putfield 26, 5, 1, 192, .int 0), 
  (16, 1, .aload_n 0, 0, 0, 0, .null), (17, 1, .aload_n 1, 1, 0, 0, .null), (18, 3, .getfield 30, 5, 2, 194, .null), (21, 3, .putfield 30, 5, 2, 194, .int 0), 
  (24, 1, .aload_n 0, 0, 0, 0, .null), (25, 1, .aload_n 1, 1, 0, 0, .null), (26, 3, .getfield 33, 5, 3, 196, .null), (29, 3, .putfield 33, 5, 3, 196, .int 0), 
  (32, 1, .aload_n 0, 0, 0, 0, .null), (33, 1, .aload_n 1, 1, 0, 0, .null), (34, 3, .getfield 36, 5, 4, 198, .null), (37, 3, .putfield 36, 5, 4, 198, .int 0), 
  (40, 1, .aload_n 1, 1, 0, 0, .null), (41, 3, .getfield 9, 5, 5, 200, .null), (44, 1, .aload_n 0, 0, 0, 0, .null), (45, 3, .getfield 9, 5, 5, 200, .null), 
  (48, 3, .invokestatic 49, 0, 0, 0, .null), (51, 1, .aload_n 0, 0, 0, 0, .null), (52, 3, .getfield 18, 5, 6, 201, .null), (55, 1, .aload_n 1, 1, 0, 0, .null), 
  (56, 3, .getfield 18, 5, 6, 201, .null), (59, 3, .invokevirtual 53, 0, 0, 0, .null), (62, 1, .return_, 0, 0, 0, .null)]
theorem okX5_copyFrom : tX5_copyFrom.all (okI yX5_copyFrom.cls (decide (yX5_copyFrom.name = "<init>")) cX5_copyFrom) = true := by decide +kernel
def tX5_add : List CI := [
  (0, 1, .aload_n 0, 0, 0, 0, .null), (1, 3, .getfield 36, 5, 4, 198, .null), (4, 3, .ifCond .lt 12, 16, 0, 0, .null), (7, 1, .aload_n 0, 0, 0, 0, .null), 
  (8, 3, .getfield 36, 5, 4, 198, .null), (11, 2, .bipush 20, 0, 0, 0, .int 20), (13, 3, .if_icmp .lt 5, 18, 0, 0, .null), (16, 1, .iconst 0, 0, 0, 0, .int 0), 
  (17, 1, .ireturn, 0, 0, 0, .null), (18, 1, .aload_n 0, 0, 0, 0, .null), (19, 3, .getfield 9, 5, 5, 200, .null), (22, 1, .aload_n 0, 0, 0, 0, .null), 
  (23, 3, .getfield 36, 5, 4, 198, .null), (26, 1, .iload_n 1, 1, 0, 0, .null), (27, 1, .iastore, 0, 0, 0, .null), (28, 1, .aload_n 0, 0, 0, 0, .null), 
  (29, 1, .dup, 0, 0, 0, .null), (30, 3, .getfield 36, 5, 4, 198, .null), (33, 1, .iconst 1, 0, 0, 0, .int 1), (34, 1, .iadd, 0, 0, 0, .null), 
  (35, 3, .putfield 36, 5, 4, 198, .int 0), (38, 1, .aload_n 0, 0, 0, 0, .null), (39, 3, .getfield 18, 5, 6, 201, .null), (42, 1, .iload_n 1, 1, 0, 0, .null), 
  (43, 3, .invokevirtual 57, 0, 0, 0, .null), (46, 1, .iconst 1, 0, 0, 0, .int 1), (47, 1, .ireturn, 0, 0, 0, .null)]
theorem okX5_add : tX5_add.all (okI yX5_add.cls (decide (yX5_add.name = "<init>")) cX5_add) = true := by decide +kernel
def tX5_takeBack : List CI := [
  (0, 1, .aload_n 0, 0, 0, 0, .null), (1, 3, .getfield 36, 5, 4, 198, .null), (4, 1, .iconst 1, 0, 0, 0, .int 1), (5, 3, .if_icmp .lt 12, 17, 0, 0, .null), 
  (8, 1, .aload_n 0, 0, 0, 0, .null), (9, 3, .getfield 36, 5, 4, 198, .null), (12, 2, .bipush 20, 0, 0, 0, .int 20), (14, 3, .if_icmp .le 5, 19, 0, 0, .null), 
  (17, 1, .iconst 0, 0, 0, 0, .int 0), (18, 1, .ireturn, 0, 0, 0, .null), (19, 1, .aload_n 0, 0, 0, 0, .null), (20, 1, .dup, 0, 0, 0, .null), 
  (21, 3, .getfield 36, 5, 4, 198, .null), (24, 1, .iconst 1, 0, 0, 0, .int 1), (25, 1, .isub, 0, 0, 0, .null), (26, 3, .putfield 36, 5, 4, 198, .int 0), 
  (29, 1, .aload_n 0, 0, 0, 0, .null), (30, 3, .getfield 18, 5, 6, 201, .null), (33, 1, .aload_n 0, 0, 0, 0, .null), (34, 3, .getfield 9, 5, 5, 200, .null), 
  (37, 1, .aload_n 0, 0, 0, 0, .null), (38, 3, .getfield 36, 5, 4, 198, .null), (41, 1, .iaload, 0, 0, 0, .null), (42, 3, .invokevirtual 61, 0, 0, 0, .null), 
  (45, 1, .iconst 1, 0, 0, 0, .int 1), (46, 1, .ireturn, 0, 0, 0, .null)]
theorem okX5_takeBack : tX5_takeBack.all (okI yX5_takeBack.cls (decide (yX5_takeBack.name = "<init>")) cX5_takeBack) = true := by decide +kernel
def tX6_wagons : List CI := [
  (0, 1, .iload_n 0, 0, 0, 0, .null), (1, 1, .istore_n 1, 1, 0, 0, .null), (2, 1, .iconst 0, 0, 0, 0, .int 0), (3, 1, .istore_n 2, 2, 0, 0, .null), 
  (4, 1, .iconst 0, 0, 0, 0, .int 0), (5, 1, .istore_n 3, 3, 0, 0, .null), (6, 1, .iload_n 1, 1, 0, 0, .null), (7, 3, .ifCond .le 28, 35, 0, 0, .null), 
  (10, 1, .iload_n 3, 3, 0, 0, .null), (11, 1, .iconst 5, 0, 0, 0, .int 5), (12, 3, .if_icmp .ge 23, 35, 0, 0, .null), (15, 1, .iload_n 2, 2, 0, 0, .null), 
  (16, 1, .iconst 1, 0, 0, 0, .int 1), (17, 1, .iload_n 1, 1, 0, 0, .null), (18, 2, .bipush 10, 0, 0, 0, .int 10), (20, 1, .irem, 0, 0, 0, .null), (21, 1, .ishl, 0, 0, 0, .null), 
  (22, 1, .ior, 0, 0, 0, .null), (23, 1, .istore_n 2, 2, 0, 0, .null), (24, 1, .iload_n 1, 1, 0, 0, .null), (25, 2, .bipush 10, 0, 0, 0, .int 10), (27, 1, .idiv, 0, 0, 0, .null), 
  (28, 1, .istore_n 1, 1, 0, 0, .null), (29, 3, .iinc 3 1, 3, 0, 0, .int 1), (32, 3, .goto (-26), 6, 0, 0, .null), (35, 1, .iload_n 1, 1, 0, 0, .null), 
  (36, 3, .ifCond .ne 19, 55, 0, 0, .null), (39, 1, .iload_n 3, 3, 0, 0, .null), (40, 3, .ifCond .le 15, 55, 0, 0, .null), (43, 1, .iload_n 2, 2, 0, 0, .null), 
  (44, 1, .iload_n 3, 3, 0, 0, .null), (45, 3, .invokestatic 9, 0, 0, 0, .null), (48, 3, .if_icmp .ne 7, 55, 0, 0, .null), (51, 1, .iload_n 3, 3, 0, 0, .null), 
  (52, 3, .goto 4, 56, 0, 0, .null), (55, 1, .iconst 0, 0, 0, 0, .int 0), (56, 1, .ireturn, 0, 0, 0, .null)]
theorem okX6_wagons : tX6_wagons.all (okI yX6_wagons.cls (decide (yX6_wagons.name = "<init>")) cX6_wagons) = true := by decide +kernel
def tX6_setUpTo : List CI := [
  (0, 1, .iconst 1, 0, 0, 0, .int 1), (1, 1, .iload_n 0, 0, 0, 0, .null), (2, 1, .iconst 1, 0, 0, 0, .int 1), (3, 1, .iadd, 0, 0, 0, .null), (4, 1, .ishl, 0, 0, 0, .null), 
  (5, 1, .iconst 2, 0, 0, 0, .int 2), (6, 1, .isub, 0, 0, 0, .null), (7, 1, .ireturn, 0, 0, 0, .null)]
theorem okX6_setUpTo : tX6_setUpTo.all (okI yX6_setUpTo.cls (decide (yX6_setUpTo.name = "<init>")) cX6_setUpTo) = true := by decide +kernel
def tX6_pick : List CI := [
  (0, 1, .iconst 0, 0, 0, 0, .int 0), (1, 1, .istore_n 2, 2, 0, 0, .null), (2, 1, .iconst 1, 0, 0, 0, .int 1), (3, 1, .istore_n 3, 3, 0, 0, .null), 
  (4, 1, .iload_n 3, 3, 0, 0, .null), (5, 1, .iconst 5, 0, 0, 0, .int 5), (6, 3, .if_icmp .gt 28, 34, 0, 0, .null), (9, 1, .iload_n 0, 0, 0, 0, .null), 
  (10, 1, .iload_n 3, 3, 0, 0, .null), (11, 1, .ishr, 0, 0, 0, .null), (12, 1, .iconst 1, 0, 0, 0, .int 1), (13, 1, .iand, 0, 0, 0, .null), (14, 1, .iconst 1, 0, 0, 0, .int 1), 
  (15, 3, .if_icmp .ne 13, 28, 0, 0, .null), (18, 1, .iload_n 2, 2, 0, 0, .null), (19, 1, .iload_n 1, 1, 0, 0, .null), (20, 3, .if_icmp .ne 5, 25, 0, 0, .null), 
  (23, 1, .iload_n 3, 3, 0, 0, .null), (24, 1, .ireturn, 0, 0, 0, .null), (25, 3, .iinc 2 1, 2, 0, 0, .int 1), (28, 3, .iinc 3 1, 3, 0, 0, .int 1), 
  (31, 3, .goto (-27), 4, 0, 0, .null), (34, 1, .iconst 0, 0, 0, 0, .int 0), (35, 1, .ireturn, 0, 0, 0, .null)]
theorem okX6_pick : tX6_pick.all (okI yX6_pick.cls (decide (yX6_pick.name = "<init>")) cX6_pick) = true := by decide +kernel
def tX6_ofNumber : List CI := [
  (0, 1, .iconst 0, 0, 0, 0, .int 0), (1, 1, .istore_n 1, 1, 0, 0, .null), (2, 1, .iload_n 0, 0, 0, 0, .null), (3, 1, .istore_n 2, 2, 0, 0, .null), 
  (4, 1, .iconst 0, 0, 0, 0, .int 0), (5, 1, .istore_n 3, 3, 0, 0, .null), (6, 1, .iload_n 3, 3, 0, 0, .null), (7, 1, .iconst 5, 0, 0, 0, .int 5), 
  (8, 3, .if_icmp .ge 27, 35, 0, 0, .null), (11, 1, .iload_n 2, 2, 0, 0, .null), (12, 3, .ifCond .le 23, 35, 0, 0, .null), (15, 1, .iload_n 1, 1, 0, 0, .null), 
  (16, 1, .iconst 3, 0, 0, 0, .int 3), (17, 1, .ishl, 0, 0, 0, .null), (18, 1, .iload_n 2, 2, 0, 0, .null), (19, 2, .bipush 10, 0, 0, 0, .int 10), (21, 1, .irem, 0, 0, 0, .null), 
  (22, 1, .ior, 0, 0, 0, .null), (23, 1, .istore_n 1, 1, 0, 0, .null), (24, 1, .iload_n 2, 2, 0, 0, .null), (25, 2, .bipush 10, 0, 0, 0, .int 10), (27, 1, .idiv, 0, 0, 0, .null), 
  (28, 1, .istore_n 2, 2, 0, 0, .null), (29, 3, .iinc 3 1, 3, 0, 0, .int 1), (32, 3, .goto (-26), 6, 0, 0, .null), (35, 1, .iload_n 1, 1, 0, 0, .null), 
  (36, 1, .ireturn, 0, 0, 0, .null)]
theorem okX6_ofNumber : tX6_ofNumber.all (okI yX6_ofNumber.cls (decide (yX6_ofNumber.name = "<init>")) cX6_ofNumber) = true := by decide +kernel
def tX6_toNumber : List CI := [
  (0, 1, .iconst 0, 0, 0, 0, .int 0), (1, 1, .istore_n 1, 1, 0, 0, .null), (2, 1, .iconst 0, 0, 0, 0, .int 0), (3, 1, .istore_n 2, 2, 0, 0, .null), 
  (4, 1, .iload_n 2, 2, 0, 0, .null), (5, 1, .iconst 5, 0, 0, 0, .int 5), (6, 3, .if_icmp .ge 28, 34, 0, 0, .null), (9, 1, .iload_n 0, 0, 0, 0, .null), 
  (10, 1, .iload_n 2, 2, 0, 0, .null), (11, 3, .invokestatic 15, 0, 0, 0, .null), (14, 3, .ifCond .le 20, 34, 0, 0, .null), (17, 1, .iload_n 1, 1, 0, 0, .null), 
  (18, 2, .bipush 10, 0, 0, 0, .int 10), (20, 1, .imul, 0, 0, 0, .null), (21, 1, .iload_n 0, 0, 0, 0, .null), (22, 1, .iload_n 2, 2, 0, 0, .null), 
  (23, 3, .invokestatic 15, 0, 0, 0, .null), (26, 1, .iadd, 0, 0, 0, .null), (27, 1, .istore_n 1, 1, 0, 0, .null), (28, 3, .iinc 2 1, 2, 0, 0, .int 1), 
  (31, 3, .goto (-27), 4, 0, 0, .null), (34, 1, .iload_n 1, 1, 0, 0, .null), (35, 1, .ireturn, 0, 0, 0, .null)]
theorem okX6_toNumber : tX6_toNumber.all (okI yX6_toNumber.cls (decide (yX6_toNumber.name = "<init>")) cX6_toNumber) = true := by decide +kernel
def tX6_wagonAt : List CI := [
  (0, 1, .iload_n 1, 1, 0, 0, .null), (1, 3, .ifCond .lt 19, 20, 0, 0, .null), (4, 1, .iload_n 1, 1, 0, 0, .null), (5, 1, .iconst 5, 0, 0, 0, .int 5), 
  (6, 3, .if_icmp .ge 14, 20, 0, 0, .null), (9, 1, .iload_n 0, 0, 0, 0, .null), (10, 1, .iconst 3, 0, 0, 0, .int 3), (11, 1, .iload_n 1, 1, 0, 0, .null), 
  (12, 1, .imul, 0, 0, 0, .null), (13, 1, .ishr, 0, 0, 0, .null), (14, 2, .bipush 7, 0, 0, 0, .int 7), (16, 1, .iand, 0, 0, 0, .null), (17, 3, .goto 4, 21, 0, 0, .null), 
  (20, 1, .iconst 0, 0, 0, 0, .int 0), (21, 1, .ireturn, 0, 0, 0, .null)]
theorem okX6_wagonAt : tX6_wagonAt.all (okI yX6_wagonAt.cls (decide (yX6_wagonAt.name = "<init>")) cX6_wagonAt) = true := by decide +kernel
def tX6_placeOf : List CI := [
  (0, 1, .iconst 0, 0, 0, 0, .int 0), (1, 1, .istore_n 2, 2, 0, 0, .null), (2, 1, .iload_n 2, 2, 0, 0, .null), (3, 1, .iconst 5, 0, 0, 0, .int 5), 
  (4, 3, .if_icmp .ge 22, 26, 0, 0, .null), (7, 1, .iload_n 0, 0, 0, 0, .null), (8, 1, .iload_n 2, 2, 0, 0, .null), (9, 3, .invokestatic 15, 0, 0, 0, .null), 
  (12, 1, .iload_n 1, 1, 0, 0, .null), (13, 3, .if_icmp .ne 7, 20, 0, 0, .null), (16, 1, .iload_n 2, 2, 0, 0, .null), (17, 1, .iconst 1, 0, 0, 0, .int 1), 
  (18, 1, .iadd, 0, 0, 0, .null), (19, 1, .ireturn, 0, 0, 0, .null), (20, 3, .iinc 2 1, 2, 0, 0, .int 1), (23, 3, .goto (-21), 2, 0, 0, .null), 
  (26, 1, .iconst 0, 0, 0, 0, .int 0), (27, 1, .ireturn, 0, 0, 0, .null)]
theorem okX6_placeOf : tX6_placeOf.all (okI yX6_placeOf.cls (decide (yX6_placeOf.name = "<init>")) cX6_placeOf) = true := by decide +kernel
def tX6_upTo : List CI := [
  (0, 1, .iconst 0, 0, 0, 0, .int 0), (1, 1, .istore_n 1, 1, 0, 0, .null), (2, 1, .iconst 1, 0, 0, 0, .int 1), (3, 1, .istore_n 2, 2, 0, 0, .null), 
  (4, 1, .iload_n 2, 2, 0, 0, .null), (5, 1, .iload_n 0, 0, 0, 0, .null), (6, 3, .if_icmp .gt 24, 30, 0, 0, .null), (9, 1, .iload_n 2, 2, 0, 0, .null), 
  (10, 1, .iconst 5, 0, 0, 0, .int 5), (11, 3, .if_icmp .gt 19, 30, 0, 0, .null), (14, 1, .iload_n 1, 1, 0, 0, .null), (15, 1, .iload_n 2, 2, 0, 0, .null), 
  (16, 1, .iconst 3, 0, 0, 0, .int 3), (17, 1, .iload_n 2, 2, 0, 0, .null), (18, 1, .iconst 1, 0, 0, 0, .int 1), (19, 1, .isub, 0, 0, 0, .null), (20, 1, .imul, 0, 0, 0, .null), 
  (21, 1, .ishl, 0, 0, 0, .null), (22, 1, .ior, 0, 0, 0, .null), (23, 1, .istore_n 1, 1, 0, 0, .null), (24, 3, .iinc 2 1, 2, 0, 0, .int 1), (27, 3, .goto (-23), 4, 0, 0, .null), 
  (30, 1, .iload_n 1, 1, 0, 0, .null), (31, 1, .ireturn, 0, 0, 0, .null)]
theorem okX6_upTo : tX6_upTo.all (okI yX6_upTo.cls (decide (yX6_upTo.name = "<init>")) cX6_upTo) = true := by decide +kernel
def tX6_relative : List CI := [
  (0, 1, .iconst 0, 0, 0, 0, .int 0), (1, 1, .istore_n 3, 3, 0, 0, .null), (2, 1, .iconst 0, 0, 0, 0, .int 0), (3, 2, .istore 4, 4, 0, 0, .null), (5, 2, .iload 4, 4, 0, 0, .null), 
  (7, 1, .iload_n 2, 2, 0, 0, .null), (8, 3, .if_icmp .ge 33, 41, 0, 0, .null), (11, 2, .iload 4, 4, 0, 0, .null), (13, 1, .iconst 5, 0, 0, 0, .int 5), 
  (14, 3, .if_icmp .ge 27, 41, 0, 0, .null), (17, 1, .iload_n 3, 3, 0, 0, .null), (18, 1, .iload_n 0, 0, 0, 0, .null), (19, 1, .iload_n 1, 1, 0, 0, .null), 
  (20, 2, .iload 4, 4, 0, 0, .null), (22, 3, .invokestatic 15, 0, 0, 0, .null), (25, 3, .invokestatic 19, 0, 0, 0, .null), (28, 1, .iconst 3, 0, 0, 0, .int 3), 
  (29, 2, .iload 4, 4, 0, 0, .null), (31, 1, .imul, 0, 0, 0, .null), (32, 1, .ishl, 0, 0, 0, .null), (33, 1, .ior, 0, 0, 0, .null), (34, 1, .istore_n 3, 3, 0, 0, .null), 
  (35, 3, .iinc 4 1, 4, 0, 0, .int 1), (38, 3, .goto (-33), 5, 0, 0, .null), (41, 1, .iload_n 3, 3, 0, 0, .null), (42, 1, .ireturn, 0, 0, 0, .null)]
theorem okX6_relative : tX6_relative.all (okI yX6_relative.cls (decide (yX6_relative.name = "<init>")) cX6_relative) = true := by decide +kernel
def tX6_named : List CI := [
  (0, 1, .iconst 0, 0, 0, 0, .int 0), (1, 1, .istore_n 2, 2, 0, 0, .null), (2, 1, .iconst 0, 0, 0, 0, .int 0), (3, 1, .istore_n 3, 3, 0, 0, .null), 
  (4, 1, .iload_n 3, 3, 0, 0, .null), (5, 1, .iconst 5, 0, 0, 0, .int 5), (6, 3, .if_icmp .ge 35, 41, 0, 0, .null), (9, 1, .iload_n 0, 0, 0, 0, .null), 
  (10, 1, .iload_n 3, 3, 0, 0, .null), (11, 3, .invokestatic 15, 0, 0, 0, .null), (14, 3, .ifCond .le 27, 41, 0, 0, .null), (17, 1, .iload_n 2, 2, 0, 0, .null), 
  (18, 1, .iload_n 1, 1, 0, 0, .null), (19, 1, .iload_n 0, 0, 0, 0, .null), (20, 1, .iload_n 3, 3, 0, 0, .null), (21, 3, .invokestatic 15, 0, 0, 0, .null), 
  (24, 1, .iconst 1, 0, 0, 0, .int 1), (25, 1, .isub, 0, 0, 0, .null), (26, 3, .invokestatic 15, 0, 0, 0, .null), (29, 1, .iconst 3, 0, 0, 0, .int 3), 
  (30, 1, .iload_n 3, 3, 0, 0, .null), (31, 1, .imul, 0, 0, 0, .null), (32, 1, .ishl, 0, 0, 0, .null), (33, 1, .ior, 0, 0, 0, .null), (34, 1, .istore_n 2, 2, 0, 0, .null), 
  (35, 3, .iinc 3 1, 3, 0, 0, .int 1), (38, 3, .goto (-34), 4, 0, 0, .null), (41, 1, .iload_n 2, 2, 0, 0, .null), (42, 1, .ireturn, 0, 0, 0, .null)]
theorem okX6_named : tX6_named.all (okI yX6_named.cls (decide (yX6_named.name = "<init>")) cX6_named) = true := by decide +kernel
def tX6_factorial : List CI := [
  (0, 1, .iconst 1, 0, 0, 0, .int 1), (1, 1, .istore_n 1, 1, 0, 0, .null), (2, 1, .iconst 2, 0, 0, 0, .int 2), (3, 1, .istore_n 2, 2, 0, 0, .null), 
  (4, 1, .iload_n 2, 2, 0, 0, .null), (5, 1, .iload_n 0, 0, 0, 0, .null), (6, 3, .if_icmp .gt 18, 24, 0, 0, .null), (9, 1, .iload_n 2, 2, 0, 0, .null), 
  (10, 1, .iconst 5, 0, 0, 0, .int 5), (11, 3, .if_icmp .gt 13, 24, 0, 0, .null), (14, 1, .iload_n 1, 1, 0, 0, .null), (15, 1, .iload_n 2, 2, 0, 0, .null), 
  (16, 1, .imul, 0, 0, 0, .null), (17, 1, .istore_n 1, 1, 0, 0, .null), (18, 3, .iinc 2 1, 2, 0, 0, .int 1), (21, 3, .goto (-17), 4, 0, 0, .null), 
  (24, 1, .iload_n 1, 1, 0, 0, .null), (25, 1, .ireturn, 0, 0, 0, .null)]
theorem okX6_factorial : tX6_factorial.all (okI yX6_factorial.cls (decide (yX6_factorial.name = "<init>")) cX6_factorial) = true := by decide +kernel
def tX6_rankOf : List CI := [
  (0, 1, .iconst 0, 0, 0, 0, .int 0), (1, 1, .istore_n 2, 2, 0, 0, .null), (2, 1, .iload_n 0, 0, 0, 0, .null), (3, 1, .istore_n 3, 3, 0, 0, .null), 
  (4, 1, .iload_n 1, 1, 0, 0, .null), (5, 3, .invokestatic 9, 0, 0, 0, .null), (8, 2, .istore 4, 4, 0, 0, .null), (10, 1, .iconst 0, 0, 0, 0, .int 0), 
  (11, 2, .istore 5, 5, 0, 0, .null), (13, 2, .iload 5, 5, 0, 0, .null), (15, 1, .iload_n 1, 1, 0, 0, .null), (16, 3, .if_icmp .ge 56, 72, 0, 0, .null), 
  (19, 2, .iload 5, 5, 0, 0, .null), (21, 1, .iconst 5, 0, 0, 0, .int 5), (22, 3, .if_icmp .ge 50, 72, 0, 0, .null), (25, 1, .iload_n 3, 3, 0, 0, .null), 
  (26, 2, .bipush 7, 0, 0, 0, .int 7), (28, 1, .iand, 0, 0, 0, .null), (29, 2, .istore 6, 6, 0, 0, .null), (31, 1, .iload_n 3, 3, 0, 0, .null), 
  (32, 1, .iconst 3, 0, 0, 0, .int 3), (33, 1, .ishr, 0, 0, 0, .null), (34, 1, .istore_n 3, 3, 0, 0, .null), (35, 2, .iload 4, 4, 0, 0, .null), 
  (37, 1, .iconst 1, 0, 0, 0, .int 1), (38, 2, .iload 6, 6, 0, 0, .null), (40, 1, .ishl, 0, 0, 0, .null), (41, 1, .iconst (-1), 0, 0, 0, .int (-1)), 
  (42, 1, .ixor, 0, 0, 0, .null), (43, 1, .iand, 0, 0, 0, .null), (44, 2, .istore 4, 4, 0, 0, .null), (46, 1, .iload_n 2, 2, 0, 0, .null), (47, 1, .iload_n 1, 1, 0, 0, .null), 
  (48, 2, .iload 5, 5, 0, 0, .null), (50, 1, .isub, 0, 0, 0, .null), (51, 1, .imul, 0, 0, 0, .null), (52, 2, .iload 4, 4, 0, 0, .null), (54, 1, .iconst 1, 0, 0, 0, .int 1), 
  (55, 2, .iload 6, 6, 0, 0, .null), (57, 1, .ishl, 0, 0, 0, .null), (58, 1, .iconst 1, 0, 0, 0, .int 1), (59, 1, .isub, 0, 0, 0, .null), (60, 1, .iand, 0, 0, 0, .null), 
  (61, 3, .invokestatic 22, 0, 0, 0, .null), (64, 1, .iadd, 0, 0, 0, .null), (65, 1, .istore_n 2, 2, 0, 0, .null), (66, 3, .iinc 5 1, 5, 0, 0, .int 1), 
  (69, 3, .goto (-56), 13, 0, 0, .null), (72, 1, .iload_n 2, 2, 0, 0, .null), (73, 1, .ireturn, 0, 0, 0, .null)]
theorem okX6_rankOf : tX6_rankOf.all (okI yX6_rankOf.cls (decide (yX6_rankOf.name = "<init>")) cX6_rankOf) = true := by decide +kernel
def tX6_ofRank : List CI := [
  (0, 1, .iconst 0, 0, 0, 0, .int 0), (1, 1, .istore_n 2, 2, 0, 0, .null), (2, 1, .iload_n 1, 1, 0, 0, .null), (3, 3, .invokestatic 9, 0, 0, 0, .null), 
  (6, 1, .istore_n 3, 3, 0, 0, .null), (7, 1, .iload_n 0, 0, 0, 0, .null), (8, 2, .istore 4, 4, 0, 0, .null), (10, 1, .iconst 0, 0, 0, 0, .int 0), 
  (11, 2, .istore 5, 5, 0, 0, .null), (13, 2, .iload 5, 5, 0, 0, .null), (15, 1, .iload_n 1, 1, 0, 0, .null), (16, 3, .if_icmp .ge 67, 83, 0, 0, .null), 
  (19, 2, .iload 5, 5, 0, 0, .null), (21, 1, .iconst 5, 0, 0, 0, .int 5), (22, 3, .if_icmp .ge 61, 83, 0, 0, .null), (25, 1, .iconst 1, 0, 0, 0, .int 1), 
  (26, 1, .iload_n 1, 1, 0, 0, .null), (27, 1, .iconst 1, 0, 0, 0, .int 1), (28, 1, .isub, 0, 0, 0, .null), (29, 2, .iload 5, 5, 0, 0, .null), (31, 1, .isub, 0, 0, 0, .null), 
  (32, 3, .invokestatic 27, 0, 0, 0, .null), (35, 3, .invokestatic 30, 0, 0, 0, .null), (38, 2, .istore 6, 6, 0, 0, .null), (40, 1, .iload_n 3, 3, 0, 0, .null), 
  (41, 2, .iload 4, 4, 0, 0, .null), (43, 2, .iload 6, 6, 0, 0, .null), (45, 1, .idiv, 0, 0, 0, .null), (46, 3, .invokestatic 35, 0, 0, 0, .null), 
  (49, 2, .istore 7, 7, 0, 0, .null), (51, 2, .iload 4, 4, 0, 0, .null), (53, 2, .iload 6, 6, 0, 0, .null), (55, 1, .irem, 0, 0, 0, .null), (56, 2, .istore 4, 4, 0, 0, .null), 
  (58, 1, .iload_n 3, 3, 0, 0, .null), (59, 1, .iconst 1, 0, 0, 0, .int 1), (60, 2, .iload 7, 7, 0, 0, .null), (62, 1, .ishl, 0, 0, 0, .null), 
  (63, 1, .iconst (-1), 0, 0, 0, .int (-1)), (64, 1, .ixor, 0, 0, 0, .null), (65, 1, .iand, 0, 0, 0, .null), (66, 1, .istore_n 3, 3, 0, 0, .null), 
  (67, 1, .iload_n 2, 2, 0, 0, .null), (68, 2, .iload 7, 7, 0, 0, .null), (70, 1, .iconst 3, 0, 0, 0, .int 3), (71, 2, .iload 5, 5, 0, 0, .null), (73, 1, .imul, 0, 0, 0, .null), 
  (74, 1, .ishl, 0, 0, 0, .null), (75, 1, .ior, 0, 0, 0, .null), (76, 1, .istore_n 2, 2, 0, 0, .null), (77, 3, .iinc 5 1, 5, 0, 0, .int 1), (80, 3, .goto (-67), 13, 0, 0, .null), 
  (83, 1, .iload_n 2, 2, 0, 0, .null), (84, 1, .ireturn, 0, 0, 0, .null)]
theorem okX6_ofRank : tX6_ofRank.all (okI yX6_ofRank.cls (decide (yX6_ofRank.name = "<init>")) cX6_ofRank) = true := by decide +kernel
def tX7_init : List CI := [
  (0, 1, .aload_n 0, 0, 0, 0, .null), (1, 3, .invokespecial 3, 0, 0, 0, .null), (4, 1, .aload_n 0, 0, 0, 0, .null), (5, 3, .sipush 17046, 0, 0, 0, .int 17046), 
  (8, 2, .newarray .int, 0, 0, 0, .null), (10, 3, .putfield 9, 6, 0, 265, .null), (13, 1, .aload_n 0, 0, 0, 0, .null), (14, 3, .new 15, 0, 0, 0, .null), 
  (17, 1, .dup, 0, 0, 0, .null), (18, 3, .invokespecial 17, 0, 0, 0, .null), (21, 3, .putfield 18, 6, 1, 266, .null), (24, 1, .aload_n 0, 0, 0, 0, .null), 
  (25, 1, .aload_n 1, 1, 0, 0, .null), (26, 3, .putfield 22, 6, 3, 268, .ref 0), (29, 1, .return_, 0, 0, 0, .null)]
theorem okX7_init : tX7_init.all (okI yX7_init.cls (decide (yX7_init.name = "<init>")) cX7_init) = true := by decide +kernel
def tX7_aim : List CI := [
  (0, 1, .iload_n 2, 2, 0, 0, .null), (1, 1, .aload_n 0, 0, 0, 0, .null), (2, 3, .getfield 26, 6, 4, 269, .null), (5, 3, .if_icmp .ne 11, 16, 0, 0, .null), 
  (8, 1, .iload_n 3, 3, 0, 0, .null), (9, 1, .aload_n 0, 0, 0, 0, .null), (10, 3, .getfield 30, 6, 5, 270, .null), (13, 3, .if_icmp .eq 13, 26, 0, 0, .null), 
  (16, 1, .aload_n 0, 0, 0, 0, .null), (17, 1, .dup, 0, 0, 0, .null), (18, 3, .getfield 33, 6, 2, 267, .null), (21, 1, .iconst 1, 0, 0, 0, .int 1), (22, 1, .iadd, 0, 0, 0, .null), 
  (23, 3, .putfield 33, 6, 2, 267, .int 0), (26, 1, .aload_n 0, 0, 0, 0, .null), (27, 1, .aload_n 1, 1, 0, 0, .null), (28, 3, .putfield 22, 6, 3, 268, .ref 0), 
  (31, 1, .aload_n 0, 0, 0, 0, .null), (32, 1, .iload_n 2, 2, 0, 0, .null), (33, 3, .putfield 26, 6, 4, 269, .int 0), (36, 1, .aload_n 0, 0, 0, 0, .null), 
  (37, 1, .iload_n 3, 3, 0, 0, .null), (38, 3, .putfield 30, 6, 5, 270, .int 0), (41, 1, .return_, 0, 0, 0, .null)]
theorem okX7_aim : tX7_aim.all (okI yX7_aim.cls (decide (yX7_aim.name = "<init>")) cX7_aim) = true := by decide +kernel
def tX7_forget : List CI := [
  (0, 1, .aload_n 0, 0, 0, 0, .null), (1, 1, .iconst 0, 0, 0, 0, .int 0), (2, 3, .putfield 26, 6, 4, 269, .int 0), (5, 1, .aload_n 0, 0, 0, 0, .null), 
  (6, 1, .iconst 0, 0, 0, 0, .int 0), (7, 3, .putfield 30, 6, 5, 270, .int 0), (10, 1, .return_, 0, 0, 0, .null)]
theorem okX7_forget : tX7_forget.all (okI yX7_forget.cls (decide (yX7_forget.name = "<init>")) cX7_forget) = true := by decide +kernel
def tX7_comesOut : List CI := [
  (0, 1, .aload_n 0, 0, 0, 0, .null), (1, 3, .getfield 18, 6, 1, 266, .null), (4, 1, .aload_n 0, 0, 0, 0, .null), (5, 3, .getfield 26, 6, 4, 269, .null), 
  (8, 3, .invokestatic 36, 0, 0, 0, .null), (11, 1, .aload_n 0, 0, 0, 0, .null), (12, 3, .getfield 26, 6, 4, 269, .null), (15, 3, .invokevirtual 42, 0, 0, 0, .null), 
  (18, 1, .aload_n 0, 0, 0, 0, .null), (19, 1, .iconst 0, 0, 0, 0, .int 0), (20, 3, .invokestatic 46, 0, 0, 0, .null), (23, 3, .ifCond .lt 7, 30, 0, 0, .null), 
  (26, 1, .iconst 1, 0, 0, 0, .int 1), (27, 3, .goto 4, 31, 0, 0, .null), (30, 1, .iconst 0, 0, 0, 0, .int 0), (31, 1, .ireturn, 0, 0, 0, .null)]
theorem okX7_comesOut : tX7_comesOut.all (okI yX7_comesOut.cls (decide (yX7_comesOut.name = "<init>")) cX7_comesOut) = true := by decide +kernel
def tX7_restFrom : List CI := [
  (0, 1, .aload_n 0, 0, 0, 0, .null), (1, 3, .getfield 18, 6, 1, 266, .null), (4, 1, .aload_n 1, 1, 0, 0, .null), (5, 3, .invokevirtual 50, 0, 0, 0, .null), 
  (8, 1, .aload_n 0, 0, 0, 0, .null), (9, 1, .iconst 0, 0, 0, 0, .int 0), (10, 3, .invokestatic 46, 0, 0, 0, .null), (13, 1, .ireturn, 0, 0, 0, .null)]
theorem okX7_restFrom : tX7_restFrom.all (okI yX7_restFrom.cls (decide (yX7_restFrom.name = "<init>")) cX7_restFrom) = true := by decide +kernel
def tX7_nextFrom : List CI := [
  (0, 1, .aload_n 0, 0, 0, 0, .null), (1, 3, .getfield 18, 6, 1, 266, .null), (4, 1, .aload_n 1, 1, 0, 0, .null), (5, 3, .invokevirtual 50, 0, 0, 0, .null), 
  (8, 1, .aload_n 0, 0, 0, 0, .null), (9, 3, .invokevirtual 54, 0, 0, 0, .null), (12, 1, .ireturn, 0, 0, 0, .null)]
theorem okX7_nextFrom : tX7_nextFrom.all (okI yX7_nextFrom.cls (decide (yX7_nextFrom.name = "<init>")) cX7_nextFrom) = true := by decide +kernel
def tX7_firstRow : List CI := [
  (0, 1, .aload_n 0, 0, 0, 0, .null), (1, 3, .getfield 18, 6, 1, 266, .null), (4, 1, .aload_n 0, 0, 0, 0, .null), (5, 3, .getfield 26, 6, 4, 269, .null), 
  (8, 3, .invokestatic 36, 0, 0, 0, .null), (11, 1, .aload_n 0, 0, 0, 0, .null), (12, 3, .getfield 26, 6, 4, 269, .null), (15, 3, .invokevirtual 42, 0, 0, 0, .null), 
  (18, 1, .aload_n 0, 0, 0, 0, .null), (19, 3, .invokevirtual 54, 0, 0, 0, .null), (22, 1, .istore_n 2, 2, 0, 0, .null), (23, 1, .iconst 0, 0, 0, 0, .int 0), 
  (24, 1, .istore_n 3, 3, 0, 0, .null), (25, 1, .iload_n 3, 3, 0, 0, .null), (26, 1, .iload_n 1, 1, 0, 0, .null), (27, 3, .if_icmp .ge 34, 61, 0, 0, .null), 
  (30, 1, .iload_n 3, 3, 0, 0, .null), (31, 2, .bipush 20, 0, 0, 0, .int 20), (33, 3, .if_icmp .ge 28, 61, 0, 0, .null), (36, 1, .iload_n 2, 2, 0, 0, .null), 
  (37, 2, .bipush (-6), 0, 0, 0, .int (-6)), (39, 3, .if_icmp .eq 22, 61, 0, 0, .null), (42, 1, .aload_n 0, 0, 0, 0, .null), (43, 3, .getfield 18, 6, 1, 266, .null), 
  (46, 1, .iload_n 2, 2, 0, 0, .null), (47, 3, .invokevirtual 58, 0, 0, 0, .null), (50, 1, .aload_n 0, 0, 0, 0, .null), (51, 3, .invokevirtual 54, 0, 0, 0, .null), 
  (54, 1, .istore_n 2, 2, 0, 0, .null), (55, 3, .iinc 3 1, 3, 0, 0, .int 1), (58, 3, .goto (-33), 25, 0, 0, .null), (61, 1, .iload_n 2, 2, 0, 0, .null), 
  (62, 1, .ireturn, 0, 0, 0, .null)]
theorem okX7_firstRow : tX7_firstRow.all (okI yX7_firstRow.cls (decide (yX7_firstRow.name = "<init>")) cX7_firstRow) = true := by decide +kernel
def tX7_fits : List CI := [
  (0, 1, .aload_n 0, 0, 0, 0, .null), (1, 3, .getfield 18, 6, 1, 266, .null), (4, 1, .aload_n 0, 0, 0, 0, .null), (5, 3, .getfield 22, 6, 3, 268, .null), 
  (8, 1, .iload_n 1, 1, 0, 0, .null), (9, 3, .invokevirtual 62, 0, 0, 0, .null), (12, 3, .ifCond .ne 5, 17, 0, 0, .null), (15, 1, .iconst 0, 0, 0, 0, .int 0), 
  (16, 1, .ireturn, 0, 0, 0, .null), (17, 1, .iload_n 1, 1, 0, 0, .null), (18, 2, .bipush 10, 0, 0, 0, .int 10), (20, 1, .idiv, 0, 0, 0, .null), 
  (21, 2, .bipush 10, 0, 0, 0, .int 10), (23, 1, .irem, 0, 0, 0, .null), (24, 1, .iconst 5, 0, 0, 0, .int 5), (25, 3, .if_icmp .ne 29, 54, 0, 0, .null), 
  (28, 1, .aload_n 0, 0, 0, 0, .null), (29, 3, .getfield 18, 6, 1, 266, .null), (32, 1, .iload_n 1, 1, 0, 0, .null), (33, 3, .invokevirtual 66, 0, 0, 0, .null), 
  (36, 1, .aload_n 0, 0, 0, 0, .null), (37, 3, .getfield 30, 6, 5, 270, .null), (40, 1, .aload_n 0, 0, 0, 0, .null), (41, 3, .getfield 18, 6, 1, 266, .null), 
  (44, 1, .iconst 5, 0, 0, 0, .int 5), (45, 3, .invokevirtual 69, 0, 0, 0, .null), (48, 3, .invokestatic 72, 0, 0, 0, .null), (51, 3, .if_icmp .ne 7, 58, 0, 0, .null), 
  (54, 1, .iconst 1, 0, 0, 0, .int 1), (55, 3, .goto 4, 59, 0, 0, .null), (58, 1, .iconst 0, 0, 0, 0, .int 0), (59, 1, .ireturn, 0, 0, 0, .null)]
theorem okX7_fits : tX7_fits.all (okI yX7_fits.cls (decide (yX7_fits.name = "<init>")) cX7_fits) = true := by decide +kernel
def tX7_isAstray : List CI := [
  (0, 1, .aload_n 0, 0, 0, 0, .null), (1, 3, .getfield 18, 6, 1, 266, .null), (4, 1, .iconst 5, 0, 0, 0, .int 5), (5, 3, .invokevirtual 69, 0, 0, 0, .null), 
  (8, 1, .istore_n 1, 1, 0, 0, .null), (9, 1, .aload_n 0, 0, 0, 0, .null), (10, 3, .getfield 18, 6, 1, 266, .null), (13, 1, .iconst 5, 0, 0, 0, .int 5), 
  (14, 3, .invokevirtual 76, 0, 0, 0, .null), (17, 1, .aload_n 0, 0, 0, 0, .null), (18, 3, .getfield 30, 6, 5, 270, .null), (21, 1, .iconst 1, 0, 0, 0, .int 1), 
  (22, 1, .iconst 3, 0, 0, 0, .int 3), (23, 1, .iload_n 1, 1, 0, 0, .null), (24, 1, .imul, 0, 0, 0, .null), (25, 1, .ishl, 0, 0, 0, .null), (26, 1, .iconst 1, 0, 0, 0, .int 1), 
  (27, 1, .isub, 0, 0, 0, .null), (28, 1, .iand, 0, 0, 0, .null), (29, 3, .if_icmp .eq 7, 36, 0, 0, .null), (32, 1, .iconst 1, 0, 0, 0, .int 1), (33, 3, .goto 4, 37, 0, 0, .null), 
  (36, 1, .iconst 0, 0, 0, 0, .int 0), (37, 1, .ireturn, 0, 0, 0, .null)]
theorem okX7_isAstray : tX7_isAstray.all (okI yX7_isAstray.cls (decide (yX7_isAstray.name = "<init>")) cX7_isAstray) = true := by decide +kernel
def tX7_bestMove : List CI := [
  (0, 1, .aload_n 0, 0, 0, 0, .null), (1, 1, .iconst 0, 0, 0, 0, .int 0), (2, 3, .invokestatic 46, 0, 0, 0, .null), (5, 1, .istore_n 1, 1, 0, 0, .null), 
  (6, 1, .iload_n 1, 1, 0, 0, .null), (7, 1, .iconst 1, 0, 0, 0, .int 1), (8, 3, .if_icmp .ge 6, 14, 0, 0, .null), (11, 2, .bipush (-6), 0, 0, 0, .int (-6)), 
  (13, 1, .ireturn, 0, 0, 0, .null), (14, 1, .iconst 0, 0, 0, 0, .int 0), (15, 1, .istore_n 2, 2, 0, 0, .null), (16, 1, .iload_n 2, 2, 0, 0, .null), 
  (17, 1, .aload_n 0, 0, 0, 0, .null), (18, 3, .getfield 22, 6, 3, 268, .null), (21, 3, .getfield 79, 9, 2, 144, .null), (24, 3, .if_icmp .ge 59, 83, 0, 0, .null), 
  (27, 1, .aload_n 0, 0, 0, 0, .null), (28, 3, .getfield 22, 6, 3, 268, .null), (31, 1, .iload_n 2, 2, 0, 0, .null), (32, 3, .invokevirtual 84, 0, 0, 0, .null), 
  (35, 1, .istore_n 3, 3, 0, 0, .null), (36, 1, .aload_n 0, 0, 0, 0, .null), (37, 1, .iload_n 3, 3, 0, 0, .null), (38, 3, .invokevirtual 87, 0, 0, 0, .null), 
  (41, 3, .ifCond .eq 36, 77, 0, 0, .null), (44, 1, .aload_n 0, 0, 0, 0, .null), (45, 3, .getfield 18, 6, 1, 266, .null), (48, 1, .iload_n 3, 3, 0, 0, .null), 
  (49, 3, .invokevirtual 58, 0, 0, 0, .null), (52, 1, .aload_n 0, 0, 0, 0, .null), (53, 1, .iconst 1, 0, 0, 0, .int 1), (54, 3, .invokestatic 46, 0, 0, 0, .null), 
  (57, 2, .istore 4, 4, 0, 0, .null), (59, 1, .aload_n 0, 0, 0, 0, .null), (60, 3, .getfield 18, 6, 1, 266, .null), (63, 1, .iload_n 3, 3, 0, 0, .null), 
  (64, 3, .invokevirtual 91, 0, 0, 0, .null), (67, 2, .iload 4, 4, 0, 0, .null), (69, 1, .iload_n 1, 1, 0, 0, .null), (70, 1, .iconst 1, 0, 0, 0, .int 1), 
  (71, 1, .isub, 0, 0, 0, .null), (72, 3, .if_icmp .ne 5, 77, 0, 0, .null), (75, 1, .iload_n 3, 3, 0, 0, .null), (76, 1, .ireturn, 0, 0, 0, .null), 
  (77, 3, .iinc 2 1, 2, 0, 0, .int 1), (80, 3, .goto (-64), 16, 0, 0, .null), (83, 2, .bipush (-6), 0, 0, 0, .int (-6)), (85, 1, .ireturn, 0, 0, 0, .null)]
theorem okX7_bestMove : tX7_bestMove.all (okI yX7_bestMove.cls (decide (yX7_bestMove.name = "<init>")) cX7_bestMove) = true := by decide +kernel
def tX7_remaining : List CI := [
  (0, 1, .aload_n 0, 0, 0, 0, .null), (1, 3, .getfield 18, 6, 1, 266, .null), (4, 1, .aload_n 0, 0, 0, 0, .null), (5, 3, .getfield 22, 6, 3, 268, .null), 
  (8, 3, .getfield 94, 9, 0, 137, .null), (11, 3, .invokevirtual 97, 0, 0, 0, .null), (14, 1, .istore_n 2, 2, 0, 0, .null), (15, 1, .iload_n 1, 1, 0, 0, .null), 
  (16, 2, .bipush 20, 0, 0, 0, .int 20), (18, 3, .if_icmp .gt 21, 39, 0, 0, .null), (21, 1, .iload_n 2, 2, 0, 0, .null), (22, 3, .ifCond .lt 17, 39, 0, 0, .null), 
  (25, 1, .iload_n 2, 2, 0, 0, .null), (26, 3, .sipush 17046, 0, 0, 0, .int 17046), (29, 3, .if_icmp .ge 10, 39, 0, 0, .null), (32, 1, .aload_n 0, 0, 0, 0, .null), 
  (33, 3, .invokevirtual 100, 0, 0, 0, .null), (36, 3, .ifCond .eq 5, 41, 0, 0, .null), (39, 1, .iconst (-1), 0, 0, 0, .int (-1)), (40, 1, .ireturn, 0, 0, 0, .null), 
  (41, 1, .aload_n 0, 0, 0, 0, .null), (42, 3, .getfield 18, 6, 1, 266, .null), (45, 1, .iconst 5, 0, 0, 0, .int 5), (46, 3, .invokevirtual 69, 0, 0, 0, .null), 
  (49, 1, .aload_n 0, 0, 0, 0, .null), (50, 3, .getfield 26, 6, 4, 269, .null), (53, 3, .if_icmp .ne 5, 58, 0, 0, .null), (56, 1, .iconst 0, 0, 0, 0, .int 0), 
  (57, 1, .ireturn, 0, 0, 0, .null), (58, 1, .aload_n 0, 0, 0, 0, .null), (59, 3, .getfield 9, 6, 0, 265, .null), (62, 1, .iload_n 2, 2, 0, 0, .null), 
  (63, 1, .iaload, 0, 0, 0, .null), (64, 2, .bipush 32, 0, 0, 0, .int 32), (66, 1, .aload_n 0, 0, 0, 0, .null), (67, 3, .getfield 33, 6, 2, 267, .null), 
  (70, 1, .imul, 0, 0, 0, .null), (71, 1, .isub, 0, 0, 0, .null), (72, 1, .istore_n 3, 3, 0, 0, .null), (73, 1, .iload_n 3, 3, 0, 0, .null), 
  (74, 3, .ifCond .lt 7, 81, 0, 0, .null), (77, 1, .iload_n 3, 3, 0, 0, .null), (78, 1, .iconst 1, 0, 0, 0, .int 1), (79, 1, .isub, 0, 0, 0, .null), 
  (80, 1, .ireturn, 0, 0, 0, .null), (81, 1, .iconst (-1), 0, 0, 0, .int (-1)), (82, 2, .istore 4, 4, 0, 0, .null), (84, 1, .iconst 0, 0, 0, 0, .int 0), 
  (85, 2, .istore 5, 5, 0, 0, .null), (87, 2, .iload 5, 5, 0, 0, .null), (89, 1, .aload_n 0, 0, 0, 0, .null), (90, 3, .getfield 22, 6, 3, 268, .null), 
  (93, 3, .getfield 79, 9, 2, 144, .null), (96, 3, .if_icmp .ge 81, 177, 0, 0, .null), (99, 1, .aload_n 0, 0, 0, 0, .null), (100, 3, .getfield 22, 6, 3, 268, .null), 
  (103, 2, .iload 5, 5, 0, 0, .null), (105, 3, .invokevirtual 84, 0, 0, 0, .null), (108, 2, .istore 6, 6, 0, 0, .null), (110, 1, .aload_n 0, 0, 0, 0, .null), 
  (111, 2, .iload 6, 6, 0, 0, .null), (113, 3, .invokevirtual 87, 0, 0, 0, .null), (116, 3, .ifCond .eq 55, 171, 0, 0, .null), (119, 1, .aload_n 0, 0, 0, 0, .null), 
  (120, 3, .getfield 18, 6, 1, 266, .null), (123, 2, .iload 6, 6, 0, 0, .null), (125, 3, .invokevirtual 58, 0, 0, 0, .null), (128, 1, .aload_n 0, 0, 0, 0, .null), 
  (129, 1, .iload_n 1, 1, 0, 0, .null), (130, 1, .iconst 1, 0, 0, 0, .int 1), (131, 1, .iadd, 0, 0, 0, .null), (132, 3, .invokestatic 46, 0, 0, 0, .null), 
  (135, 2, .istore 7, 7, 0, 0, .null), (137, 1, .aload_n 0, 0, 0, 0, .null), (138, 3, .getfield 18, 6, 1, 266, .null), (141, 2, .iload 6, 6, 0, 0, .null), 
  (143, 3, .invokevirtual 91, 0, 0, 0, .null), (146, 2, .iload 7, 7, 0, 0, .null), (148, 3, .ifCond .lt 23, 171, 0, 0, .null), (151, 2, .iload 4, 4, 0, 0, .null), 
  (153, 3, .ifCond .lt 12, 165, 0, 0, .null), (156, 2, .iload 7, 7, 0, 0, .null), (158, 1, .iconst 1, 0, 0, 0, .int 1), (159, 1, .iadd, 0, 0, 0, .null), 
  (160, 2, .iload 4, 4, 0, 0, .null), (162, 3, .if_icmp .ge 9, 171, 0, 0, .null), (165, 2, .iload 7, 7, 0, 0, .null), (167, 1, .iconst 1, 0, 0, 0, .int 1), 
  (168, 1, .iadd, 0, 0, 0, .null), (169, 2, .istore 4, 4, 0, 0, .null), (171, 3, .iinc 5 1, 5, 0, 0, .int 1), (174, 3, .goto (-87), 87, 0, 0, .null), 
  (177, 1, .aload_n 0, 0, 0, 0, .null), (178, 3, .getfield 9, 6, 0, 265, .null), (181, 1, .iload_n 2, 2, 0, 0, .null), (182, 2, .bipush 32, 0, 0, 0, .int 32), 
  (184, 1, .aload_n 0, 0, 0, 0, .null), (185, 3, .getfield 33, 6, 2, 267, .null), (188, 1, .imul, 0, 0, 0, .null), (189, 2, .iload 4, 4, 0, 0, .null), 
  (191, 1, .iadd, 0, 0, 0, .null), (192, 1, .iconst 1, 0, 0, 0, .int 1), (193, 1, .iadd, 0, 0, 0, .null), (194, 1, .iastore, 0, 0, 0, .null), (195, 2, .iload 4, 4, 0, 0, .null), 
  (197, 1, .ireturn, 0, 0, 0, .null)]
theorem okX7_remaining : tX7_remaining.all (okI yX7_remaining.cls (decide (yX7_remaining.name = "<init>")) cX7_remaining) = true := by decide +kernel
def tX8_init : List CI := [
  (0, 1, .aload_n 0, 0, 0, 0, .null), (1, 3, .invokespecial 3, 0, 0, 0, .null), (4, 1, .aload_n 0, 0, 0, 0, .null), (5, 3, .sipush 17046, 0, 0, 0, .int 17046), 
  (8, 2, .newarray .byte, 0, 0, 0, .null), (10, 3, .putfield 9, 7, 0, 247, .null), (13, 1, .aload_n 0, 0, 0, 0, .null), (14, 3, .sipush 17046, 0, 0, 0, .int 17046), 
  (17, 2, .newarray .long, 0, 0, 0, .null), (19, 3, .putfield 15, 7, 1, 248, .null), (22, 1, .aload_n 0, 0, 0, 0, .null), (23, 3, .new 19, 0, 0, 0, .null), 
  (26, 1, .dup, 0, 0, 0, .null), (27, 3, .invokespecial 21, 0, 0, 0, .null), (30, 3, .putfield 22, 7, 2, 249, .null), (33, 1, .return_, 0, 0, 0, .null)]
theorem okX8_init : tX8_init.all (okI yX8_init.cls (decide (yX8_init.name = "<init>")) cX8_init) = true := by decide +kernel
def tX8_fill : List CI := [
  (0, 1, .iload_n 2, 2, 0, 0, .null), (1, 1, .iconst 1, 0, 0, 0, .int 1), (2, 3, .if_icmp .lt 19, 21, 0, 0, .null), (5, 1, .iload_n 2, 2, 0, 0, .null), 
  (6, 1, .iconst 5, 0, 0, 0, .int 5), (7, 3, .if_icmp .gt 14, 21, 0, 0, .null), (10, 1, .aload_n 1, 1, 0, 0, .null), (11, 3, .getfield 26, 9, 8, 152, .null), 
  (14, 1, .iload_n 2, 2, 0, 0, .null), (15, 3, .invokevirtual 32, 0, 0, 0, .null), (18, 3, .ifCond .eq 4, 22, 0, 0, .null), (21, 1, .return_, 0, 0, 0, .null), 
  (22, 3, .sipush 17046, 0, 0, 0, .int 17046), (25, 1, .iload_n 2, 2, 0, 0, .null), (26, 1, .aload_n 1, 1, 0, 0, .null), (27, 3, .getfield 38, 9, 0, 135, .null), 
  (30, 3, .invokestatic 42, 0, 0, 0, .null), (33, 3, .invokestatic 46, 0, 0, 0, .null), (36, 1, .istore_n 3, 3, 0, 0, .null), (37, 1, .iconst 0, 0, 0, 0, .int 0), 
  (38, 2, .istore 4, 4, 0, 0, .null), (40, 2, .iload 4, 4, 0, 0, .null), (42, 1, .iload_n 3, 3, 0, 0, .null), (43, 3, .if_icmp .ge 25, 68, 0, 0, .null), 
  (46, 1, .aload_n 0, 0, 0, 0, .null), (47, 3, .getfield 9, 7, 0, 247, .null), (50, 2, .iload 4, 4, 0, 0, .null), (52, 1, .iconst 0, 0, 0, 0, .int 0), 
  (53, 1, .bastore, 0, 0, 0, .null), (54, 1, .aload_n 0, 0, 0, 0, .null), (55, 3, .getfield 15, 7, 1, 248, .null), (58, 2, .iload 4, 4, 0, 0, .null), 
  (60, 1, .lconst 0, 0, 0, 0, .long 0), (61, 1, .lastore, 0, 0, 0, .null), (62, 3, .iinc 4 1, 4, 0, 0, .int 1), (65, 3, .goto (-25), 40, 0, 0, .null), 
  (68, 1, .aload_n 0, 0, 0, 0, .null), (69, 3, .getfield 9, 7, 0, 247, .null), (72, 1, .iconst 0, 0, 0, 0, .int 0), (73, 1, .iconst 1, 0, 0, 0, .int 1), 
  (74, 1, .bastore, 0, 0, 0, .null), (75, 1, .aload_n 0, 0, 0, 0, .null), (76, 3, .getfield 15, 7, 1, 248, .null), (79, 1, .iconst 0, 0, 0, 0, .int 0), 
  (80, 1, .lconst 1, 0, 0, 0, .long 1), (81, 1, .lastore, 0, 0, 0, .null), (82, 1, .iconst 0, 0, 0, 0, .int 0), (83, 2, .istore 4, 4, 0, 0, .null), 
  (85, 2, .iload 4, 4, 0, 0, .null), (87, 1, .iload_n 3, 3, 0, 0, .null), (88, 3, .if_icmp .ge 101, 189, 0, 0, .null), (91, 1, .aload_n 0, 0, 0, 0, .null), 
  (92, 3, .getfield 9, 7, 0, 247, .null), (95, 2, .iload 4, 4, 0, 0, .null), (97, 1, .baload, 0, 0, 0, .null), (98, 3, .ifCond .le 85, 183, 0, 0, .null), 
  (101, 1, .aload_n 0, 0, 0, 0, .null), (102, 3, .getfield 22, 7, 2, 249, .null), (105, 2, .iload 4, 4, 0, 0, .null), (107, 1, .iload_n 2, 2, 0, 0, .null), 
  (108, 1, .aload_n 1, 1, 0, 0, .null), (109, 3, .getfield 38, 9, 0, 135, .null), (112, 3, .invokevirtual 51, 0, 0, 0, .null), (115, 1, .aload_n 0, 0, 0, 0, .null), 
  (116, 3, .getfield 22, 7, 2, 249, .null), (119, 1, .iconst 5, 0, 0, 0, .int 5), (120, 3, .invokevirtual 55, 0, 0, 0, .null), (123, 1, .iload_n 2, 2, 0, 0, .null), 
  (124, 3, .if_icmp .ne 38, 162, 0, 0, .null), (127, 1, .aload_n 1, 1, 0, 0, .null), (128, 3, .getfield 26, 9, 8, 152, .null), (131, 1, .aload_n 0, 0, 0, 0, .null), 
  (132, 3, .getfield 22, 7, 2, 249, .null), (135, 1, .iconst 5, 0, 0, 0, .int 5), (136, 3, .invokevirtual 59, 0, 0, 0, .null), (139, 1, .iload_n 2, 2, 0, 0, .null), 
  (140, 1, .aload_n 0, 0, 0, 0, .null), (141, 3, .getfield 9, 7, 0, 247, .null), (144, 2, .iload 4, 4, 0, 0, .null), (146, 1, .baload, 0, 0, 0, .null), 
  (147, 1, .iconst 1, 0, 0, 0, .int 1), (148, 1, .isub, 0, 0, 0, .null), (149, 1, .aload_n 0, 0, 0, 0, .null), (150, 3, .getfield 15, 7, 1, 248, .null), 
  (153, 2, .iload 4, 4, 0, 0, .null), (155, 1, .laload, 0, 0, 0, .null), (156, 3, .invokevirtual 62, 0, 0, 0, .null), (159, 3, .goto 24, 183, 0, 0, .null), 
  (162, 1, .aload_n 0, 0, 0, 0, .null), (163, 1, .aload_n 1, 1, 0, 0, .null), (164, 1, .aload_n 0, 0, 0, 0, .null), (165, 3, .getfield 9, 7, 0, 247, .null), 
  (168, 2, .iload 4, 4, 0, 0, .null), (170, 1, .baload, 0, 0, 0, .null), (171, 1, .iconst 1, 0, 0, 0, .int 1), (172, 1, .iadd, 0, 0, 0, .null), 
  (173, 1, .aload_n 0, 0, 0, 0, .null), (174, 3, .getfield 15, 7, 1, 248, .null), (177, 2, .iload 4, 4, 0, 0, .null), (179, 1, .laload, 0, 0, 0, .null), 
  (180, 3, .invokevirtual 66, 0, 0, 0, .null), (183, 3, .iinc 4 1, 4, 0, 0, .int 1), (186, 3, .goto (-101), 85, 0, 0, .null), (189, 1, .aload_n 1, 1, 0, 0, .null), 
  (190, 3, .getfield 26, 9, 8, 152, .null), (193, 1, .iload_n 2, 2, 0, 0, .null), (194, 3, .invokevirtual 70, 0, 0, 0, .null), (197, 1, .return_, 0, 0, 0, .null)]
theorem okX8_fill : tX8_fill.all (okI yX8_fill.cls (decide (yX8_fill.name = "<init>")) cX8_fill) = true := by decide +kernel
def tX8_spread : List CI := [
  (0, 1, .iconst 0, 0, 0, 0, .int 0), (1, 2, .istore 5, 5, 0, 0, .null), (3, 2, .iload 5, 5, 0, 0, .null), (5, 1, .aload_n 1, 1, 0, 0, .null), 
  (6, 3, .getfield 74, 9, 2, 142, .null), (9, 3, .if_icmp .ge 65, 74, 0, 0, .null), (12, 1, .aload_n 1, 1, 0, 0, .null), (13, 2, .iload 5, 5, 0, 0, .null), 
  (15, 3, .invokevirtual 77, 0, 0, 0, .null), (18, 2, .istore 6, 6, 0, 0, .null), (20, 1, .aload_n 0, 0, 0, 0, .null), (21, 3, .getfield 22, 7, 2, 249, .null), 
  (24, 1, .aload_n 1, 1, 0, 0, .null), (25, 2, .iload 6, 6, 0, 0, .null), (27, 3, .invokevirtual 80, 0, 0, 0, .null), (30, 3, .ifCond .eq 38, 68, 0, 0, .null), 
  (33, 1, .aload_n 0, 0, 0, 0, .null), (34, 3, .getfield 22, 7, 2, 249, .null), (37, 2, .iload 6, 6, 0, 0, .null), (39, 3, .invokevirtual 84, 0, 0, 0, .null), 
  (42, 1, .aload_n 0, 0, 0, 0, .null), (43, 1, .aload_n 0, 0, 0, 0, .null), (44, 3, .getfield 22, 7, 2, 249, .null), (47, 1, .aload_n 1, 1, 0, 0, .null), 
  (48, 3, .getfield 38, 9, 0, 135, .null), (51, 3, .invokevirtual 87, 0, 0, 0, .null), (54, 1, .iload_n 2, 2, 0, 0, .null), (55, 1, .lload_n 3, 3, 0, 0, .null), 
  (56, 3, .invokevirtual 90, 0, 0, 0, .null), (59, 1, .aload_n 0, 0, 0, 0, .null), (60, 3, .getfield 22, 7, 2, 249, .null), (63, 2, .iload 6, 6, 0, 0, .null), 
  (65, 3, .invokevirtual 94, 0, 0, 0, .null), (68, 3, .iinc 5 1, 5, 0, 0, .int 1), (71, 3, .goto (-68), 3, 0, 0, .null), (74, 1, .return_, 0, 0, 0, .null)]
theorem okX8_spread : tX8_spread.all (okI yX8_spread.cls (decide (yX8_spread.name = "<init>")) cX8_spread) = true := by decide +kernel
def tX8_reach : List CI := [
  (0, 1, .iload_n 1, 1, 0, 0, .null), (1, 3, .ifCond .lt 10, 11, 0, 0, .null), (4, 1, .iload_n 1, 1, 0, 0, .null), (5, 3, .sipush 17046, 0, 0, 0, .int 17046), 
  (8, 3, .if_icmp .lt 4, 12, 0, 0, .null), (11, 1, .return_, 0, 0, 0, .null), (12, 1, .aload_n 0, 0, 0, 0, .null), (13, 3, .getfield 9, 7, 0, 247, .null), 
  (16, 1, .iload_n 1, 1, 0, 0, .null), (17, 1, .baload, 0, 0, 0, .null), (18, 3, .ifCond .eq 13, 31, 0, 0, .null), (21, 1, .iload_n 2, 2, 0, 0, .null), 
  (22, 1, .aload_n 0, 0, 0, 0, .null), (23, 3, .getfield 9, 7, 0, 247, .null), (26, 1, .iload_n 1, 1, 0, 0, .null), (27, 1, .baload, 0, 0, 0, .null), 
  (28, 3, .if_icmp .ge 21, 49, 0, 0, .null), (31, 1, .aload_n 0, 0, 0, 0, .null), (32, 3, .getfield 9, 7, 0, 247, .null), (35, 1, .iload_n 1, 1, 0, 0, .null), 
  (36, 1, .iload_n 2, 2, 0, 0, .null), (37, 1, .i2b, 0, 0, 0, .null), (38, 1, .bastore, 0, 0, 0, .null), (39, 1, .aload_n 0, 0, 0, 0, .null), 
  (40, 3, .getfield 15, 7, 1, 248, .null), (43, 1, .iload_n 1, 1, 0, 0, .null), (44, 1, .lload_n 3, 3, 0, 0, .null), (45, 1, .lastore, 0, 0, 0, .null), 
  (46, 3, .goto 23, 69, 0, 0, .null), (49, 1, .iload_n 2, 2, 0, 0, .null), (50, 1, .aload_n 0, 0, 0, 0, .null), (51, 3, .getfield 9, 7, 0, 247, .null), 
  (54, 1, .iload_n 1, 1, 0, 0, .null), (55, 1, .baload, 0, 0, 0, .null), (56, 3, .if_icmp .ne 13, 69, 0, 0, .null), (59, 1, .aload_n 0, 0, 0, 0, .null), 
  (60, 3, .getfield 15, 7, 1, 248, .null), (63, 1, .iload_n 1, 1, 0, 0, .null), (64, 1, .dup2, 0, 0, 0, .null), (65, 1, .laload, 0, 0, 0, .null), 
  (66, 1, .lload_n 3, 3, 0, 0, .null), (67, 1, .ladd, 0, 0, 0, .null), (68, 1, .lastore, 0, 0, 0, .null), (69, 1, .return_, 0, 0, 0, .null)]
theorem okX8_reach : tX8_reach.all (okI yX8_reach.cls (decide (yX8_reach.name = "<init>")) cX8_reach) = true := by decide +kernel
def tX9_init : List CI := [
  (0, 1, .aload_n 0, 0, 0, 0, .null), (1, 3, .invokespecial 3, 0, 0, 0, .null), (4, 1, .aload_n 0, 0, 0, 0, .null), (5, 3, .new 9, 0, 0, 0, .null), (8, 1, .dup, 0, 0, 0, .null), 
  (9, 3, .invokespecial 11, 0, 0, 0, .null), (12, 3, .putfield 12, 8, 0, 308, .null), (15, 1, .return_, 0, 0, 0, .null)]
theorem okX9_init : tX9_init.all (okI yX9_init.cls (decide (yX9_init.name = "<init>")) cX9_init) = true := by decide +kernel
def tX9_outInOrder : List CI := [
  (0, 1, .aload_n 0, 0, 0, 0, .null), (1, 3, .getfield 12, 8, 0, 308, .null), (4, 1, .iload_n 2, 2, 0, 0, .null), (5, 1, .iload_n 3, 3, 0, 0, .null), 
  (6, 3, .invokevirtual 18, 0, 0, 0, .null), (9, 1, .aload_n 0, 0, 0, 0, .null), (10, 1, .aload_n 1, 1, 0, 0, .null), (11, 2, .iload 4, 4, 0, 0, .null), 
  (13, 3, .invokevirtual 22, 0, 0, 0, .null), (16, 2, .istore 5, 5, 0, 0, .null), (18, 1, .iconst 0, 0, 0, 0, .int 0), (19, 2, .istore 6, 6, 0, 0, .null), 
  (21, 2, .iload 6, 6, 0, 0, .null), (23, 2, .bipush 20, 0, 0, 0, .int 20), (25, 3, .if_icmp .ge 34, 59, 0, 0, .null), (28, 2, .iload 5, 5, 0, 0, .null), 
  (30, 2, .bipush (-6), 0, 0, 0, .int (-6)), (32, 3, .if_icmp .eq 27, 59, 0, 0, .null), (35, 1, .aload_n 0, 0, 0, 0, .null), (36, 3, .getfield 12, 8, 0, 308, .null), 
  (39, 2, .iload 5, 5, 0, 0, .null), (41, 3, .invokevirtual 26, 0, 0, 0, .null), (44, 1, .aload_n 0, 0, 0, 0, .null), (45, 1, .aload_n 1, 1, 0, 0, .null), 
  (46, 2, .iload 4, 4, 0, 0, .null), (48, 3, .invokevirtual 22, 0, 0, 0, .null), (51, 2, .istore 5, 5, 0, 0, .null), (53, 3, .iinc 6 1, 6, 0, 0, .int 1), 
  (56, 3, .goto (-35), 21, 0, 0, .null), (59, 1, .aload_n 0, 0, 0, 0, .null), (60, 3, .getfield 12, 8, 0, 308, .null), (63, 1, .iconst 5, 0, 0, 0, .int 5), 
  (64, 3, .invokevirtual 30, 0, 0, 0, .null), (67, 1, .ireturn, 0, 0, 0, .null)]
theorem okX9_outInOrder : tX9_outInOrder.all (okI yX9_outInOrder.cls (decide (yX9_outInOrder.name = "<init>")) cX9_outInOrder) = true := by decide +kernel
def tX9_choose : List CI := [
  (0, 1, .aload_n 0, 0, 0, 0, .null), (1, 1, .aload_n 1, 1, 0, 0, .null), (2, 3, .invokevirtual 34, 0, 0, 0, .null), (5, 1, .istore_n 3, 3, 0, 0, .null), 
  (6, 1, .iload_n 3, 3, 0, 0, .null), (7, 2, .bipush (-6), 0, 0, 0, .int (-6)), (9, 3, .if_icmp .ne 10, 19, 0, 0, .null), (12, 1, .aload_n 0, 0, 0, 0, .null), 
  (13, 1, .aload_n 1, 1, 0, 0, .null), (14, 1, .iload_n 2, 2, 0, 0, .null), (15, 3, .invokevirtual 38, 0, 0, 0, .null), (18, 1, .istore_n 3, 3, 0, 0, .null), 
  (19, 1, .iload_n 3, 3, 0, 0, .null), (20, 2, .bipush (-6), 0, 0, 0, .int (-6)), (22, 3, .if_icmp .ne 11, 33, 0, 0, .null), (25, 1, .aload_n 0, 0, 0, 0, .null), 
  (26, 1, .aload_n 1, 1, 0, 0, .null), (27, 3, .invokevirtual 41, 0, 0, 0, .null), (30, 3, .goto 4, 34, 0, 0, .null), (33, 1, .iload_n 3, 3, 0, 0, .null), 
  (34, 1, .ireturn, 0, 0, 0, .null)]
theorem okX9_choose : tX9_choose.all (okI yX9_choose.cls (decide (yX9_choose.name = "<init>")) cX9_choose) = true := by decide +kernel
def tX9_wantedOut : List CI := [
  (0, 1, .aload_n 0, 0, 0, 0, .null), (1, 3, .getfield 12, 8, 0, 308, .null), (4, 1, .iconst 5, 0, 0, 0, .int 5), (5, 3, .invokevirtual 30, 0, 0, 0, .null), 
  (8, 1, .iconst 1, 0, 0, 0, .int 1), (9, 1, .iadd, 0, 0, 0, .null), (10, 1, .istore_n 2, 2, 0, 0, .null), (11, 1, .iconst 0, 0, 0, 0, .int 0), 
  (12, 1, .istore_n 3, 3, 0, 0, .null), (13, 1, .iload_n 3, 3, 0, 0, .null), (14, 1, .aload_n 1, 1, 0, 0, .null), (15, 3, .getfield 44, 9, 2, 143, .null), 
  (18, 3, .if_icmp .ge 44, 62, 0, 0, .null), (21, 1, .aload_n 1, 1, 0, 0, .null), (22, 1, .iload_n 3, 3, 0, 0, .null), (23, 3, .invokevirtual 50, 0, 0, 0, .null), 
  (26, 2, .istore 4, 4, 0, 0, .null), (28, 2, .iload 4, 4, 0, 0, .null), (30, 2, .bipush 10, 0, 0, 0, .int 10), (32, 1, .idiv, 0, 0, 0, .null), 
  (33, 2, .bipush 10, 0, 0, 0, .int 10), (35, 1, .irem, 0, 0, 0, .null), (36, 1, .iconst 5, 0, 0, 0, .int 5), (37, 3, .if_icmp .ne 19, 56, 0, 0, .null), 
  (40, 1, .aload_n 0, 0, 0, 0, .null), (41, 3, .getfield 12, 8, 0, 308, .null), (44, 2, .iload 4, 4, 0, 0, .null), (46, 3, .invokevirtual 53, 0, 0, 0, .null), 
  (49, 1, .iload_n 2, 2, 0, 0, .null), (50, 3, .if_icmp .ne 6, 56, 0, 0, .null), (53, 2, .iload 4, 4, 0, 0, .null), (55, 1, .ireturn, 0, 0, 0, .null), 
  (56, 3, .iinc 3 1, 3, 0, 0, .int 1), (59, 3, .goto (-46), 13, 0, 0, .null), (62, 2, .bipush (-6), 0, 0, 0, .int (-6)), (64, 1, .ireturn, 0, 0, 0, .null)]
theorem okX9_wantedOut : tX9_wantedOut.all (okI yX9_wantedOut.cls (decide (yX9_wantedOut.name = "<init>")) cX9_wantedOut) = true := by decide +kernel
def tX9_fromEntry : List CI := [
  (0, 2, .bipush (-6), 0, 0, 0, .int (-6)), (2, 1, .istore_n 3, 3, 0, 0, .null), (3, 2, .bipush (-6), 0, 0, 0, .int (-6)), (5, 2, .istore 4, 4, 0, 0, .null), 
  (7, 2, .bipush (-6), 0, 0, 0, .int (-6)), (9, 2, .istore 5, 5, 0, 0, .null), (11, 1, .iconst 0, 0, 0, 0, .int 0), (12, 2, .istore 6, 6, 0, 0, .null), 
  (14, 2, .iload 6, 6, 0, 0, .null), (16, 1, .aload_n 1, 1, 0, 0, .null), (17, 3, .getfield 44, 9, 2, 143, .null), (20, 3, .if_icmp .ge 177, 197, 0, 0, .null), 
  (23, 1, .aload_n 1, 1, 0, 0, .null), (24, 2, .iload 6, 6, 0, 0, .null), (26, 3, .invokevirtual 50, 0, 0, 0, .null), (29, 2, .istore 7, 7, 0, 0, .null), 
  (31, 2, .iload 7, 7, 0, 0, .null), (33, 2, .bipush 10, 0, 0, 0, .int 10), (35, 1, .idiv, 0, 0, 0, .null), (36, 2, .bipush 10, 0, 0, 0, .int 10), (38, 1, .irem, 0, 0, 0, .null), 
  (39, 2, .istore 8, 8, 0, 0, .null), (41, 2, .iload 7, 7, 0, 0, .null), (43, 3, .sipush 1000, 0, 0, 0, .int 1000), (46, 1, .idiv, 0, 0, 0, .null), 
  (47, 3, .ifCond .ne 21, 68, 0, 0, .null), (50, 2, .iload 8, 8, 0, 0, .null), (52, 1, .iconst 5, 0, 0, 0, .int 5), (53, 3, .if_icmp .eq 15, 68, 0, 0, .null), 
  (56, 2, .iload 7, 7, 0, 0, .null), (58, 2, .bipush 10, 0, 0, 0, .int 10), (60, 1, .irem, 0, 0, 0, .null), (61, 3, .ifCond .ne 7, 68, 0, 0, .null), 
  (64, 1, .iconst 1, 0, 0, 0, .int 1), (65, 3, .goto 4, 69, 0, 0, .null), (68, 1, .iconst 0, 0, 0, 0, .int 0), (69, 2, .istore 9, 9, 0, 0, .null), 
  (71, 2, .iload 9, 9, 0, 0, .null), (73, 3, .ifCond .eq 118, 191, 0, 0, .null), (76, 1, .aload_n 0, 0, 0, 0, .null), (77, 3, .getfield 12, 8, 0, 308, .null), 
  (80, 1, .aload_n 1, 1, 0, 0, .null), (81, 2, .iload 7, 7, 0, 0, .null), (83, 3, .invokevirtual 56, 0, 0, 0, .null), (86, 3, .ifCond .eq 105, 191, 0, 0, .null), 
  (89, 1, .iload_n 3, 3, 0, 0, .null), (90, 2, .bipush (-6), 0, 0, 0, .int (-6)), (92, 3, .if_icmp .ne 8, 100, 0, 0, .null), (95, 2, .iload 7, 7, 0, 0, .null), 
  (97, 3, .goto 4, 101, 0, 0, .null), (100, 1, .iload_n 3, 3, 0, 0, .null), (101, 1, .istore_n 3, 3, 0, 0, .null), (102, 2, .iload 4, 4, 0, 0, .null), 
  (104, 2, .bipush (-6), 0, 0, 0, .int (-6)), (106, 3, .if_icmp .ne 26, 132, 0, 0, .null), (109, 1, .aload_n 0, 0, 0, 0, .null), (110, 1, .aload_n 0, 0, 0, 0, .null), 
  (111, 3, .getfield 12, 8, 0, 308, .null), (114, 2, .iload 7, 7, 0, 0, .null), (116, 3, .invokevirtual 53, 0, 0, 0, .null), (119, 2, .iload 8, 8, 0, 0, .null), 
  (121, 3, .invokevirtual 60, 0, 0, 0, .null), (124, 3, .ifCond .eq 8, 132, 0, 0, .null), (127, 2, .iload 7, 7, 0, 0, .null), (129, 3, .goto 5, 134, 0, 0, .null), 
  (132, 2, .iload 4, 4, 0, 0, .null), (134, 2, .istore 4, 4, 0, 0, .null), (136, 2, .iload 5, 5, 0, 0, .null), (138, 2, .bipush (-6), 0, 0, 0, .int (-6)), 
  (140, 3, .if_icmp .eq 30, 170, 0, 0, .null), (143, 1, .aload_n 0, 0, 0, 0, .null), (144, 3, .getfield 12, 8, 0, 308, .null), (147, 2, .iload 8, 8, 0, 0, .null), 
  (149, 3, .invokevirtual 30, 0, 0, 0, .null), (152, 1, .aload_n 0, 0, 0, 0, .null), (153, 3, .getfield 12, 8, 0, 308, .null), (156, 2, .iload 5, 5, 0, 0, .null), 
  (158, 2, .bipush 10, 0, 0, 0, .int 10), (160, 1, .idiv, 0, 0, 0, .null), (161, 2, .bipush 10, 0, 0, 0, .int 10), (163, 1, .irem, 0, 0, 0, .null), 
  (164, 3, .invokevirtual 30, 0, 0, 0, .null), (167, 3, .if_icmp .ge 7, 174, 0, 0, .null), (170, 1, .iconst 1, 0, 0, 0, .int 1), (171, 3, .goto 4, 175, 0, 0, .null), 
  (174, 1, .iconst 0, 0, 0, 0, .int 0), (175, 2, .istore 10, 10, 0, 0, .null), (177, 2, .iload 10, 10, 0, 0, .null), (179, 3, .ifCond .eq 8, 187, 0, 0, .null), 
  (182, 2, .iload 7, 7, 0, 0, .null), (184, 3, .goto 5, 189, 0, 0, .null), (187, 2, .iload 5, 5, 0, 0, .null), (189, 2, .istore 5, 5, 0, 0, .null), 
  (191, 3, .iinc 6 1, 6, 0, 0, .int 1), (194, 3, .goto (-180), 14, 0, 0, .null), (197, 1, .iload_n 2, 2, 0, 0, .null), (198, 1, .iconst 2, 0, 0, 0, .int 2), 
  (199, 3, .if_icmp .ne 6, 205, 0, 0, .null), (202, 2, .iload 5, 5, 0, 0, .null), (204, 1, .ireturn, 0, 0, 0, .null), (205, 1, .iload_n 2, 2, 0, 0, .null), 
  (206, 1, .iconst 1, 0, 0, 0, .int 1), (207, 3, .if_icmp .ne 15, 222, 0, 0, .null), (210, 2, .iload 4, 4, 0, 0, .null), (212, 2, .bipush (-6), 0, 0, 0, .int (-6)), 
  (214, 3, .if_icmp .eq 8, 222, 0, 0, .null), (217, 2, .iload 4, 4, 0, 0, .null), (219, 3, .goto 4, 223, 0, 0, .null), (222, 1, .iload_n 3, 3, 0, 0, .null), 
  (223, 1, .ireturn, 0, 0, 0, .null)]
theorem okX9_fromEntry : tX9_fromEntry.all (okI yX9_fromEntry.cls (decide (yX9_fromEntry.name = "<init>")) cX9_fromEntry) = true := by decide +kernel
def tX9_isBelowAll : List CI := [
  (0, 1, .iconst 1, 0, 0, 0, .int 1), (1, 1, .istore_n 3, 3, 0, 0, .null), (2, 1, .iconst 0, 0, 0, 0, .int 0), (3, 2, .istore 4, 4, 0, 0, .null), (5, 2, .iload 4, 4, 0, 0, .null), 
  (7, 1, .aload_n 0, 0, 0, 0, .null), (8, 3, .getfield 12, 8, 0, 308, .null), (11, 1, .iload_n 2, 2, 0, 0, .null), (12, 3, .invokevirtual 30, 0, 0, 0, .null), 
  (15, 3, .if_icmp .ge 36, 51, 0, 0, .null), (18, 1, .iload_n 3, 3, 0, 0, .null), (19, 3, .ifCond .eq 24, 43, 0, 0, .null), (22, 1, .iload_n 1, 1, 0, 0, .null), 
  (23, 1, .aload_n 0, 0, 0, 0, .null), (24, 3, .getfield 12, 8, 0, 308, .null), (27, 1, .iload_n 2, 2, 0, 0, .null), (28, 3, .invokevirtual 64, 0, 0, 0, .null), 
  (31, 2, .iload 4, 4, 0, 0, .null), (33, 3, .invokestatic 67, 0, 0, 0, .null), (36, 3, .if_icmp .ge 7, 43, 0, 0, .null), (39, 1, .iconst 1, 0, 0, 0, .int 1), 
  (40, 3, .goto 4, 44, 0, 0, .null), (43, 1, .iconst 0, 0, 0, 0, .int 0), (44, 1, .istore_n 3, 3, 0, 0, .null), (45, 3, .iinc 4 1, 4, 0, 0, .int 1), 
  (48, 3, .goto (-43), 5, 0, 0, .null), (51, 1, .iload_n 3, 3, 0, 0, .null), (52, 1, .ireturn, 0, 0, 0, .null)]
theorem okX9_isBelowAll : tX9_isBelowAll.all (okI yX9_isBelowAll.cls (decide (yX9_isBelowAll.name = "<init>")) cX9_isBelowAll) = true := by decide +kernel
def tX9_onward : List CI := [
  (0, 1, .iconst 0, 0, 0, 0, .int 0), (1, 1, .istore_n 2, 2, 0, 0, .null), (2, 1, .iload_n 2, 2, 0, 0, .null), (3, 1, .aload_n 1, 1, 0, 0, .null), 
  (4, 3, .getfield 44, 9, 2, 143, .null), (7, 3, .if_icmp .ge 48, 55, 0, 0, .null), (10, 1, .aload_n 1, 1, 0, 0, .null), (11, 1, .iload_n 2, 2, 0, 0, .null), 
  (12, 3, .invokevirtual 50, 0, 0, 0, .null), (15, 1, .istore_n 3, 3, 0, 0, .null), (16, 1, .iload_n 3, 3, 0, 0, .null), (17, 3, .sipush 1000, 0, 0, 0, .int 1000), 
  (20, 1, .idiv, 0, 0, 0, .null), (21, 3, .ifCond .eq 28, 49, 0, 0, .null), (24, 1, .iload_n 3, 3, 0, 0, .null), (25, 2, .bipush 10, 0, 0, 0, .int 10), 
  (27, 1, .idiv, 0, 0, 0, .null), (28, 2, .bipush 10, 0, 0, 0, .int 10), (30, 1, .irem, 0, 0, 0, .null), (31, 1, .iconst 5, 0, 0, 0, .int 5), 
  (32, 3, .if_icmp .eq 17, 49, 0, 0, .null), (35, 1, .aload_n 0, 0, 0, 0, .null), (36, 3, .getfield 12, 8, 0, 308, .null), (39, 1, .aload_n 1, 1, 0, 0, .null), 
  (40, 1, .iload_n 3, 3, 0, 0, .null), (41, 3, .invokevirtual 56, 0, 0, 0, .null), (44, 3, .ifCond .eq 5, 49, 0, 0, .null), (47, 1, .iload_n 3, 3, 0, 0, .null), 
  (48, 1, .ireturn, 0, 0, 0, .null), (49, 3, .iinc 2 1, 2, 0, 0, .int 1), (52, 3, .goto (-50), 2, 0, 0, .null), (55, 2, .bipush (-6), 0, 0, 0, .int (-6)), 
  (57, 1, .ireturn, 0, 0, 0, .null)]
theorem okX9_onward : tX9_onward.all (okI yX9_onward.cls (decide (yX9_onward.name = "<init>")) cX9_onward) = true := by decide +kernel
def tX10_init : List CI := [
  (0, 1, .aload_n 0, 0, 0, 0, .null), (1, 3, .invokespecial 3, 0, 0, 0, .null), (4, 1, .aload_n 0, 0, 0, 0, .null), (5, 1, .iconst 4, 0, 0, 0, .int 4), 
  (6, 2, .newarray .int, 0, 0, 0, .null), (8, 3, .putfield 9, 9, 4, 147, .null), (11, 1, .aload_n 0, 0, 0, 0, .null), (12, 1, .iconst 4, 0, 0, 0, .int 4), 
  (13, 2, .newarray .int, 0, 0, 0, .null), (15, 3, .putfield 15, 9, 5, 148, .null), (18, 1, .aload_n 0, 0, 0, 0, .null), (19, 1, .iconst 4, 0, 0, 0, .int 4), 
  (20, 2, .newarray .int, 0, 0, 0, .null), (22, 3, .putfield 18, 9, 6, 149, .null), (25, 1, .aload_n 0, 0, 0, 0, .null), (26, 2, .bipush 64, 0, 0, 0, .int 64), 
  (28, 2, .newarray .int, 0, 0, 0, .null), (30, 3, .putfield 21, 9, 7, 150, .null), (33, 1, .aload_n 0, 0, 0, 0, .null), (34, 3, .new 24, 0, 0, 0, .null), 
  (37, 1, .dup, 0, 0, 0, .null), (38, 3, .invokespecial 26, 0, 0, 0, .null), (41, 3, .putfield 27, 9, 8, 151, .null), (44, 1, .return_, 0, 0, 0, .null)]
theorem okX10_init : tX10_init.all (okI yX10_init.cls (decide (yX10_init.name = "<init>")) cX10_init) = true := by decide +kernel
def tX10_clear : List CI := [
  (0, 1, .aload_n 0, 0, 0, 0, .null), (1, 1, .iconst 0, 0, 0, 0, .int 0), (2, 3, .putfield 31, 9, 0, 133, .int 0), (5, 1, .aload_n 0, 0, 0, 0, .null), 
  (6, 1, .iconst 1, 0, 0, 0, .int 1), (7, 3, .putfield 35, 9, 1, 138, .int 0), (10, 1, .aload_n 0, 0, 0, 0, .null), (11, 1, .iconst 0, 0, 0, 0, .int 0), 
  (12, 3, .putfield 38, 9, 2, 141, .int 0), (15, 1, .aload_n 0, 0, 0, 0, .null), (16, 1, .iconst 0, 0, 0, 0, .int 0), (17, 3, .putfield 41, 9, 3, 146, .int 0), 
  (20, 1, .aload_n 0, 0, 0, 0, .null), (21, 3, .getfield 27, 9, 8, 151, .null), (24, 3, .invokevirtual 44, 0, 0, 0, .null), (27, 1, .return_, 0, 0, 0, .null)]
theorem okX10_clear : tX10_clear.all (okI yX10_clear.cls (decide (yX10_clear.name = "<init>")) cX10_clear) = true := by decide +kernel
def tX10_copyFrom : List CI := [
  (0, 1, .aload_n 0, 0, 0, 0, .null), (1, 1, .aload_n 1, 1, 0, 0, .null), (2, 3, .getfield 31, 9, 0, 133, .null), (5, 3, .putfield 31, 9, 0, 133, .int 0), 
  (8, 1, .aload_n 0, 0, 0, 0, .null), (9, 1, .aload_n 1, 1, 0, 0, .null), (10, 3, .getfield 35, 9, 1, 138, .null), (13, 3, .putfield 35, 9, 1, 138, .int 0), 
  (16, 1, .aload_n 0, 0, 0, 0, .null), (17, 1, .aload_n 1, 1, 0, 0, .null), (18, 3, .getfield 38, 9, 2, 141, .null), (21, 3, .putfield 38, 9, 2, 141, .int 0), 
  (24, 1, .aload_n 0, 0, 0, 0, .null), (25, 1, .aload_n 1, 1, 0, 0, .null), (26, 3, .getfield 41, 9, 3, 146, .null), (29, 3, .putfield 41, 9, 3, 146, .int 0), 
  (32, 1, .aload_n 1, 1, 0, 0, .null), (33, 3, .getfield 9, 9, 4, 147, .null), (36, 1, .aload_n 0, 0, 0, 0, .null), (37, 3, .getfield 9, 9, 4, 147, .null), 
  (40, 3, .invokestatic 47, 0, 0, 0, .null), (43, 1, .aload_n 1, 1, 0, 0, .null), (44, 3, .getfield 15, 9, 5, 148, .null), (47, 1, .aload_n 0, 0, 0, 0, .null), 
  (48, 3, .getfield 15, 9, 5, 148, .null), (51, 3, .invokestatic 47, 0, 0, 0, .null), (54, 1, .aload_n 1, 1, 0, 0, .null), (55, 3, .getfield 18, 9, 6, 149, .null), 
  (58, 1, .aload_n 0, 0, 0, 0, .null), (59, 3, .getfield 18, 9, 6, 149, .null), (62, 3, .invokestatic 47, 0, 0, 0, .null), (65, 1, .aload_n 1, 1, 0, 0, .null), 
  (66, 3, .getfield 21, 9, 7, 150, .null), (69, 1, .aload_n 0, 0, 0, 0, .null), (70, 3, .getfield 21, 9, 7, 150, .null), (73, 3, .invokestatic 47, 0, 0, 0, .null), 
  (76, 1, .aload_n 0, 0, 0, 0, .null), (77, 3, .getfield 27, 9, 8, 151, .null), (80, 1, .aload_n 1, 1, 0, 0, .null), (81, 3, .getfield 27, 9, 8, 151, .null), 
  (84, 3, .invokevirtual 51, 0, 0, 0, .null), (87, 1, .return_, 0, 0, 0, .null)]
theorem okX10_copyFrom : tX10_copyFrom.all (okI yX10_copyFrom.cls (decide (yX10_copyFrom.name = "<init>")) cX10_copyFrom) = true := by decide +kernel
def tX10_addDash : List CI := [
  (0, 1, .aload_n 0, 0, 0, 0, .null), (1, 1, .dup, 0, 0, 0, .null), (2, 3, .getfield 41, 9, 3, 146, .null), (5, 1, .iconst 1, 0, 0, 0, .int 1), (6, 1, .aload_n 0, 0, 0, 0, .null), 
  (7, 3, .getfield 35, 9, 1, 138, .null), (10, 1, .iconst 1, 0, 0, 0, .int 1), (11, 1, .isub, 0, 0, 0, .null), (12, 1, .ishl, 0, 0, 0, .null), (13, 1, .ior, 0, 0, 0, .null), 
  (14, 3, .putfield 41, 9, 3, 146, .int 0), (17, 1, .return_, 0, 0, 0, .null)]
theorem okX10_addDash : tX10_addDash.all (okI yX10_addDash.cls (decide (yX10_addDash.name = "<init>")) cX10_addDash) = true := by decide +kernel
def tX10_addSiding : List CI := [
  (0, 1, .aload_n 0, 0, 0, 0, .null), (1, 3, .getfield 31, 9, 0, 133, .null), (4, 3, .ifCond .lt 56, 60, 0, 0, .null), (7, 1, .aload_n 0, 0, 0, 0, .null), 
  (8, 3, .getfield 31, 9, 0, 133, .null), (11, 1, .iconst 4, 0, 0, 0, .int 4), (12, 3, .if_icmp .ge 48, 60, 0, 0, .null), (15, 1, .aload_n 0, 0, 0, 0, .null), 
  (16, 3, .getfield 9, 9, 4, 147, .null), (19, 1, .aload_n 0, 0, 0, 0, .null), (20, 3, .getfield 31, 9, 0, 133, .null), (23, 1, .iload_n 1, 1, 0, 0, .null), 
  (24, 1, .iastore, 0, 0, 0, .null), (25, 1, .aload_n 0, 0, 0, 0, .null), (26, 3, .getfield 15, 9, 5, 148, .null), (29, 1, .aload_n 0, 0, 0, 0, .null), 
  (30, 3, .getfield 31, 9, 0, 133, .null), (33, 1, .iload_n 2, 2, 0, 0, .null), (34, 1, .iastore, 0, 0, 0, .null), (35, 1, .aload_n 0, 0, 0, 0, .null), 
  (36, 3, .getfield 18, 9, 6, 149, .null), (39, 1, .aload_n 0, 0, 0, 0, .null), (40, 3, .getfield 31, 9, 0, 133, .null), (43, 1, .aload_n 0, 0, 0, 0, .null), 
  (44, 3, .getfield 35, 9, 1, 138, .null), (47, 1, .iconst 1, 0, 0, 0, .int 1), (48, 1, .isub, 0, 0, 0, .null), (49, 1, .iastore, 0, 0, 0, .null), 
  (50, 1, .aload_n 0, 0, 0, 0, .null), (51, 1, .dup, 0, 0, 0, .null), (52, 3, .getfield 31, 9, 0, 133, .null), (55, 1, .iconst 1, 0, 0, 0, .int 1), (56, 1, .iadd, 0, 0, 0, .null), 
  (57, 3, .putfield 31, 9, 0, 133, .int 0), (60, 1, .return_, 0, 0, 0, .null)]
theorem okX10_addSiding : tX10_addSiding.all (okI yX10_addSiding.cls (decide (yX10_addSiding.name = "<init>")) cX10_addSiding) = true := by decide +kernel
def tX10_letterAt : List CI := [
  (0, 1, .iload_n 1, 1, 0, 0, .null), (1, 3, .ifCond .lt 21, 22, 0, 0, .null), (4, 1, .iload_n 1, 1, 0, 0, .null), (5, 1, .aload_n 0, 0, 0, 0, .null), 
  (6, 3, .getfield 9, 9, 4, 147, .null), (9, 1, .arraylength, 0, 0, 0, .null), (10, 3, .if_icmp .ge 12, 22, 0, 0, .null), (13, 1, .aload_n 0, 0, 0, 0, .null), 
  (14, 3, .getfield 9, 9, 4, 147, .null), (17, 1, .iload_n 1, 1, 0, 0, .null), (18, 1, .iaload, 0, 0, 0, .null), (19, 3, .goto 4, 23, 0, 0, .null), 
  (22, 1, .iconst 0, 0, 0, 0, .int 0), (23, 1, .ireturn, 0, 0, 0, .null)]
theorem okX10_letterAt : tX10_letterAt.all (okI yX10_letterAt.cls (decide (yX10_letterAt.name = "<init>")) cX10_letterAt) = true := by decide +kernel
def tX10_lengthAt : List CI := [
  (0, 1, .iload_n 1, 1, 0, 0, .null), (1, 3, .ifCond .lt 21, 22, 0, 0, .null), (4, 1, .iload_n 1, 1, 0, 0, .null), (5, 1, .aload_n 0, 0, 0, 0, .null), 
  (6, 3, .getfield 15, 9, 5, 148, .null), (9, 1, .arraylength, 0, 0, 0, .null), (10, 3, .if_icmp .ge 12, 22, 0, 0, .null), (13, 1, .aload_n 0, 0, 0, 0, .null), 
  (14, 3, .getfield 15, 9, 5, 148, .null), (17, 1, .iload_n 1, 1, 0, 0, .null), (18, 1, .iaload, 0, 0, 0, .null), (19, 3, .goto 4, 23, 0, 0, .null), 
  (22, 1, .iconst 0, 0, 0, 0, .int 0), (23, 1, .ireturn, 0, 0, 0, .null)]
theorem okX10_lengthAt : tX10_lengthAt.all (okI yX10_lengthAt.cls (decide (yX10_lengthAt.name = "<init>")) cX10_lengthAt) = true := by decide +kernel
def tX10_setLength : List CI := [
  (0, 1, .iload_n 1, 1, 0, 0, .null), (1, 3, .ifCond .lt 19, 20, 0, 0, .null), (4, 1, .iload_n 1, 1, 0, 0, .null), (5, 1, .aload_n 0, 0, 0, 0, .null), 
  (6, 3, .getfield 15, 9, 5, 148, .null), (9, 1, .arraylength, 0, 0, 0, .null), (10, 3, .if_icmp .ge 10, 20, 0, 0, .null), (13, 1, .aload_n 0, 0, 0, 0, .null), 
  (14, 3, .getfield 15, 9, 5, 148, .null), (17, 1, .iload_n 1, 1, 0, 0, .null), (18, 1, .iload_n 2, 2, 0, 0, .null), (19, 1, .iastore, 0, 0, 0, .null), 
  (20, 1, .return_, 0, 0, 0, .null)]
theorem okX10_setLength : tX10_setLength.all (okI yX10_setLength.cls (decide (yX10_setLength.name = "<init>")) cX10_setLength) = true := by decide +kernel
def tX10_stageAt : List CI := [
  (0, 1, .iload_n 1, 1, 0, 0, .null), (1, 3, .ifCond .lt 21, 22, 0, 0, .null), (4, 1, .iload_n 1, 1, 0, 0, .null), (5, 1, .aload_n 0, 0, 0, 0, .null), 
  (6, 3, .getfield 18, 9, 6, 149, .null), (9, 1, .arraylength, 0, 0, 0, .null), (10, 3, .if_icmp .ge 12, 22, 0, 0, .null), (13, 1, .aload_n 0, 0, 0, 0, .null), 
  (14, 3, .getfield 18, 9, 6, 149, .null), (17, 1, .iload_n 1, 1, 0, 0, .null), (18, 1, .iaload, 0, 0, 0, .null), (19, 3, .goto 4, 23, 0, 0, .null), 
  (22, 1, .iconst 0, 0, 0, 0, .int 0), (23, 1, .ireturn, 0, 0, 0, .null)]
theorem okX10_stageAt : tX10_stageAt.all (okI yX10_stageAt.cls (decide (yX10_stageAt.name = "<init>")) cX10_stageAt) = true := by decide +kernel
def tX10_stageOf : List CI := [
  (0, 1, .iload_n 1, 1, 0, 0, .null), (1, 3, .ifCond .ne 5, 6, 0, 0, .null), (4, 1, .iconst (-1), 0, 0, 0, .int (-1)), (5, 1, .ireturn, 0, 0, 0, .null), 
  (6, 1, .iload_n 1, 1, 0, 0, .null), (7, 1, .iconst 5, 0, 0, 0, .int 5), (8, 3, .if_icmp .ne 10, 18, 0, 0, .null), (11, 1, .aload_n 0, 0, 0, 0, .null), 
  (12, 3, .getfield 35, 9, 1, 138, .null), (15, 3, .goto 10, 25, 0, 0, .null), (18, 1, .aload_n 0, 0, 0, 0, .null), (19, 1, .iload_n 1, 1, 0, 0, .null), 
  (20, 1, .iconst 1, 0, 0, 0, .int 1), (21, 1, .isub, 0, 0, 0, .null), (22, 3, .invokevirtual 55, 0, 0, 0, .null), (25, 1, .ireturn, 0, 0, 0, .null)]
theorem okX10_stageOf : tX10_stageOf.all (okI yX10_stageOf.cls (decide (yX10_stageOf.name = "<init>")) cX10_stageOf) = true := by decide +kernel
def tX10_reaches : List CI := [
  (0, 1, .aload_n 0, 0, 0, 0, .null), (1, 1, .iload_n 2, 2, 0, 0, .null), (2, 3, .invokevirtual 59, 0, 0, 0, .null), (5, 1, .istore_n 3, 3, 0, 0, .null), 
  (6, 1, .aload_n 0, 0, 0, 0, .null), (7, 1, .iload_n 1, 1, 0, 0, .null), (8, 3, .invokevirtual 59, 0, 0, 0, .null), (11, 2, .istore 4, 4, 0, 0, .null), 
  (13, 2, .iload 4, 4, 0, 0, .null), (15, 1, .iload_n 3, 3, 0, 0, .null), (16, 3, .if_icmp .ge 7, 23, 0, 0, .null), (19, 1, .iconst 1, 0, 0, 0, .int 1), 
  (20, 3, .goto 4, 24, 0, 0, .null), (23, 1, .iconst 0, 0, 0, 0, .int 0), (24, 2, .istore 5, 5, 0, 0, .null), (26, 2, .iload 4, 4, 0, 0, .null), 
  (28, 1, .iconst 1, 0, 0, 0, .int 1), (29, 1, .iadd, 0, 0, 0, .null), (30, 2, .istore 6, 6, 0, 0, .null), (32, 2, .iload 6, 6, 0, 0, .null), (34, 1, .iload_n 3, 3, 0, 0, .null), 
  (35, 3, .if_icmp .ge 34, 69, 0, 0, .null), (38, 2, .iload 5, 5, 0, 0, .null), (40, 3, .ifCond .eq 20, 60, 0, 0, .null), (43, 1, .aload_n 0, 0, 0, 0, .null), 
  (44, 3, .getfield 41, 9, 3, 146, .null), (47, 2, .iload 6, 6, 0, 0, .null), (49, 1, .ishr, 0, 0, 0, .null), (50, 1, .iconst 1, 0, 0, 0, .int 1), (51, 1, .iand, 0, 0, 0, .null), 
  (52, 1, .iconst 1, 0, 0, 0, .int 1), (53, 3, .if_icmp .ne 7, 60, 0, 0, .null), (56, 1, .iconst 1, 0, 0, 0, .int 1), (57, 3, .goto 4, 61, 0, 0, .null), 
  (60, 1, .iconst 0, 0, 0, 0, .int 0), (61, 2, .istore 5, 5, 0, 0, .null), (63, 3, .iinc 6 1, 6, 0, 0, .int 1), (66, 3, .goto (-34), 32, 0, 0, .null), 
  (69, 2, .iload 5, 5, 0, 0, .null), (71, 1, .ireturn, 0, 0, 0, .null)]
theorem okX10_reaches : tX10_reaches.all (okI yX10_reaches.cls (decide (yX10_reaches.name = "<init>")) cX10_reaches) = true := by decide +kernel
def tX10_takesOutAt : List CI := [
  (0, 1, .iload_n 1, 1, 0, 0, .null), (1, 3, .ifCond .ne 8, 9, 0, 0, .null), (4, 2, .bipush 115, 0, 0, 0, .int 115), (6, 3, .goto 10, 16, 0, 0, .null), 
  (9, 1, .aload_n 0, 0, 0, 0, .null), (10, 1, .iload_n 1, 1, 0, 0, .null), (11, 1, .iconst 1, 0, 0, 0, .int 1), (12, 1, .isub, 0, 0, 0, .null), 
  (13, 3, .invokevirtual 62, 0, 0, 0, .null), (16, 1, .istore_n 3, 3, 0, 0, .null), (17, 1, .iload_n 3, 3, 0, 0, .null), (18, 2, .bipush 100, 0, 0, 0, .int 100), 
  (20, 3, .if_icmp .eq 21, 41, 0, 0, .null), (23, 1, .iload_n 3, 3, 0, 0, .null), (24, 2, .bipush 113, 0, 0, 0, .int 113), (26, 3, .if_icmp .ne 11, 37, 0, 0, .null), 
  (29, 1, .iload_n 2, 2, 0, 0, .null), (30, 1, .iconst 1, 0, 0, 0, .int 1), (31, 3, .if_icmp .ne 14, 45, 0, 0, .null), (34, 3, .goto 7, 41, 0, 0, .null), 
  (37, 1, .iload_n 2, 2, 0, 0, .null), (38, 3, .ifCond .ne 7, 45, 0, 0, .null), (41, 1, .iconst 1, 0, 0, 0, .int 1), (42, 3, .goto 4, 46, 0, 0, .null), 
  (45, 1, .iconst 0, 0, 0, 0, .int 0), (46, 1, .ireturn, 0, 0, 0, .null)]
theorem okX10_takesOutAt : tX10_takesOutAt.all (okI yX10_takesOutAt.cls (decide (yX10_takesOutAt.name = "<init>")) cX10_takesOutAt) = true := by decide +kernel
def tX10_putsInAt : List CI := [
  (0, 1, .iload_n 2, 2, 0, 0, .null), (1, 3, .ifCond .eq 20, 21, 0, 0, .null), (4, 1, .iload_n 1, 1, 0, 0, .null), (5, 1, .iconst 5, 0, 0, 0, .int 5), 
  (6, 3, .if_icmp .eq 19, 25, 0, 0, .null), (9, 1, .aload_n 0, 0, 0, 0, .null), (10, 1, .iload_n 1, 1, 0, 0, .null), (11, 1, .iconst 1, 0, 0, 0, .int 1), 
  (12, 1, .isub, 0, 0, 0, .null), (13, 3, .invokevirtual 62, 0, 0, 0, .null), (16, 2, .bipush 100, 0, 0, 0, .int 100), (18, 3, .if_icmp .ne 7, 25, 0, 0, .null), 
  (21, 1, .iconst 1, 0, 0, 0, .int 1), (22, 3, .goto 4, 26, 0, 0, .null), (25, 1, .iconst 0, 0, 0, 0, .int 0), (26, 1, .ireturn, 0, 0, 0, .null)]
theorem okX10_putsInAt : tX10_putsInAt.all (okI yX10_putsInAt.cls (decide (yX10_putsInAt.name = "<init>")) cX10_putsInAt) = true := by decide +kernel
def tX10_listMoves : List CI := [
  (0, 1, .aload_n 0, 0, 0, 0, .null), (1, 1, .iconst 0, 0, 0, 0, .int 0), (2, 3, .putfield 38, 9, 2, 141, .int 0), (5, 1, .iconst 0, 0, 0, 0, .int 0), 
  (6, 1, .istore_n 1, 1, 0, 0, .null), (7, 1, .iload_n 1, 1, 0, 0, .null), (8, 1, .aload_n 0, 0, 0, 0, .null), (9, 3, .getfield 31, 9, 0, 133, .null), 
  (12, 3, .if_icmp .gt 37, 49, 0, 0, .null), (15, 1, .iconst 0, 0, 0, 0, .int 0), (16, 1, .istore_n 2, 2, 0, 0, .null), (17, 1, .iload_n 2, 2, 0, 0, .null), 
  (18, 1, .iconst 1, 0, 0, 0, .int 1), (19, 3, .if_icmp .gt 24, 43, 0, 0, .null), (22, 1, .aload_n 0, 0, 0, 0, .null), (23, 1, .iload_n 1, 1, 0, 0, .null), 
  (24, 1, .iload_n 2, 2, 0, 0, .null), (25, 3, .invokevirtual 65, 0, 0, 0, .null), (28, 3, .ifCond .eq 9, 37, 0, 0, .null), (31, 1, .aload_n 0, 0, 0, 0, .null), 
  (32, 1, .iload_n 1, 1, 0, 0, .null), (33, 1, .iload_n 2, 2, 0, 0, .null), (34, 3, .invokevirtual 69, 0, 0, 0, .null), (37, 3, .iinc 2 1, 2, 0, 0, .int 1), 
  (40, 3, .goto (-23), 17, 0, 0, .null), (43, 3, .iinc 1 1, 1, 0, 0, .int 1), (46, 3, .goto (-39), 7, 0, 0, .null), (49, 1, .return_, 0, 0, 0, .null)]
theorem okX10_listMoves : tX10_listMoves.all (okI yX10_listMoves.cls (decide (yX10_listMoves.name = "<init>")) cX10_listMoves) = true := by decide +kernel
def tX10_listMovesFrom : List CI := [
  (0, 1, .iconst 1, 0, 0, 0, .int 1), (1, 1, .istore_n 3, 3, 0, 0, .null), (2, 1, .iload_n 3, 3, 0, 0, .null), (3, 1, .iconst 5, 0, 0, 0, .int 5), 
  (4, 3, .if_icmp .gt 90, 94, 0, 0, .null), (7, 1, .iload_n 3, 3, 0, 0, .null), (8, 1, .aload_n 0, 0, 0, 0, .null), (9, 3, .getfield 31, 9, 0, 133, .null), 
  (12, 3, .if_icmp .le 8, 20, 0, 0, .null), (15, 1, .iload_n 3, 3, 0, 0, .null), (16, 1, .iconst 5, 0, 0, 0, .int 5), (17, 3, .if_icmp .ne 7, 24, 0, 0, .null), 
  (20, 1, .iconst 1, 0, 0, 0, .int 1), (21, 3, .goto 4, 25, 0, 0, .null), (24, 1, .iconst 0, 0, 0, 0, .int 0), (25, 2, .istore 4, 4, 0, 0, .null), 
  (27, 1, .iconst 0, 0, 0, 0, .int 0), (28, 2, .istore 5, 5, 0, 0, .null), (30, 2, .iload 5, 5, 0, 0, .null), (32, 1, .iconst 1, 0, 0, 0, .int 1), 
  (33, 3, .if_icmp .gt 55, 88, 0, 0, .null), (36, 2, .iload 4, 4, 0, 0, .null), (38, 3, .ifCond .eq 44, 82, 0, 0, .null), (41, 1, .aload_n 0, 0, 0, 0, .null), 
  (42, 1, .iload_n 1, 1, 0, 0, .null), (43, 1, .iload_n 3, 3, 0, 0, .null), (44, 3, .invokevirtual 73, 0, 0, 0, .null), (47, 3, .ifCond .eq 35, 82, 0, 0, .null), 
  (50, 1, .aload_n 0, 0, 0, 0, .null), (51, 1, .iload_n 3, 3, 0, 0, .null), (52, 2, .iload 5, 5, 0, 0, .null), (54, 3, .invokevirtual 76, 0, 0, 0, .null), 
  (57, 3, .ifCond .eq 25, 82, 0, 0, .null), (60, 1, .aload_n 0, 0, 0, 0, .null), (61, 3, .sipush 1000, 0, 0, 0, .int 1000), (64, 1, .iload_n 1, 1, 0, 0, .null), 
  (65, 1, .imul, 0, 0, 0, .null), (66, 2, .bipush 100, 0, 0, 0, .int 100), (68, 1, .iload_n 2, 2, 0, 0, .null), (69, 1, .imul, 0, 0, 0, .null), (70, 1, .iadd, 0, 0, 0, .null), 
  (71, 2, .bipush 10, 0, 0, 0, .int 10), (73, 1, .iload_n 3, 3, 0, 0, .null), (74, 1, .imul, 0, 0, 0, .null), (75, 1, .iadd, 0, 0, 0, .null), (76, 2, .iload 5, 5, 0, 0, .null), 
  (78, 1, .iadd, 0, 0, 0, .null), (79, 3, .invokevirtual 79, 0, 0, 0, .null), (82, 3, .iinc 5 1, 5, 0, 0, .int 1), (85, 3, .goto (-55), 30, 0, 0, .null), 
  (88, 3, .iinc 3 1, 3, 0, 0, .int 1), (91, 3, .goto (-89), 2, 0, 0, .null), (94, 1, .return_, 0, 0, 0, .null)]
theorem okX10_listMovesFrom : tX10_listMovesFrom.all (okI yX10_listMovesFrom.cls (decide (yX10_listMovesFrom.name = "<init>")) cX10_listMovesFrom) = true := by decide +kernel
def tX10_addMove : List CI := [
  (0, 1, .aload_n 0, 0, 0, 0, .null), (1, 3, .getfield 38, 9, 2, 141, .null), (4, 3, .ifCond .lt 35, 39, 0, 0, .null), (7, 1, .aload_n 0, 0, 0, 0, .null), 
  (8, 3, .getfield 38, 9, 2, 141, .null), (11, 1, .aload_n 0, 0, 0, 0, .null), (12, 3, .getfield 21, 9, 7, 150, .null), (15, 1, .arraylength, 0, 0, 0, .null), 
  (16, 3, .if_icmp .ge 23, 39, 0, 0, .null), (19, 1, .aload_n 0, 0, 0, 0, .null), (20, 3, .getfield 21, 9, 7, 150, .null), (23, 1, .aload_n 0, 0, 0, 0, .null), 
  (24, 3, .getfield 38, 9, 2, 141, .null), (27, 1, .iload_n 1, 1, 0, 0, .null), (28, 1, .iastore, 0, 0, 0, .null), (29, 1, .aload_n 0, 0, 0, 0, .null), 
  (30, 1, .dup, 0, 0, 0, .null), (31, 3, .getfield 38, 9, 2, 141, .null), (34, 1, .iconst 1, 0, 0, 0, .int 1), (35, 1, .iadd, 0, 0, 0, .null), 
  (36, 3, .putfield 38, 9, 2, 141, .int 0), (39, 1, .return_, 0, 0, 0, .null)]
theorem okX10_addMove : tX10_addMove.all (okI yX10_addMove.cls (decide (yX10_addMove.name = "<init>")) cX10_addMove) = true := by decide +kernel
def tX10_moveAt : List CI := [
  (0, 1, .iload_n 1, 1, 0, 0, .null), (1, 3, .ifCond .lt 29, 30, 0, 0, .null), (4, 1, .iload_n 1, 1, 0, 0, .null), (5, 1, .aload_n 0, 0, 0, 0, .null), 
  (6, 3, .getfield 38, 9, 2, 141, .null), (9, 3, .if_icmp .ge 21, 30, 0, 0, .null), (12, 1, .iload_n 1, 1, 0, 0, .null), (13, 1, .aload_n 0, 0, 0, 0, .null), 
  (14, 3, .getfield 21, 9, 7, 150, .null), (17, 1, .arraylength, 0, 0, 0, .null), (18, 3, .if_icmp .ge 12, 30, 0, 0, .null), (21, 1, .aload_n 0, 0, 0, 0, .null), 
  (22, 3, .getfield 21, 9, 7, 150, .null), (25, 1, .iload_n 1, 1, 0, 0, .null), (26, 1, .iaload, 0, 0, 0, .null), (27, 3, .goto 4, 31, 0, 0, .null), 
  (30, 1, .iconst 0, 0, 0, 0, .int 0), (31, 1, .ireturn, 0, 0, 0, .null)]
theorem okX10_moveAt : tX10_moveAt.all (okI yX10_moveAt.cls (decide (yX10_moveAt.name = "<init>")) cX10_moveAt) = true := by decide +kernel
def tX10_hasMove : List CI := [
  (0, 1, .iconst 0, 0, 0, 0, .int 0), (1, 1, .istore_n 2, 2, 0, 0, .null), (2, 1, .iconst 0, 0, 0, 0, .int 0), (3, 1, .istore_n 3, 3, 0, 0, .null), 
  (4, 1, .iload_n 3, 3, 0, 0, .null), (5, 1, .aload_n 0, 0, 0, 0, .null), (6, 3, .getfield 38, 9, 2, 141, .null), (9, 3, .if_icmp .ge 28, 37, 0, 0, .null), 
  (12, 1, .iload_n 2, 2, 0, 0, .null), (13, 3, .ifCond .ne 12, 25, 0, 0, .null), (16, 1, .aload_n 0, 0, 0, 0, .null), (17, 1, .iload_n 3, 3, 0, 0, .null), 
  (18, 3, .invokevirtual 83, 0, 0, 0, .null), (21, 1, .iload_n 1, 1, 0, 0, .null), (22, 3, .if_icmp .ne 7, 29, 0, 0, .null), (25, 1, .iconst 1, 0, 0, 0, .int 1), 
  (26, 3, .goto 4, 30, 0, 0, .null), (29, 1, .iconst 0, 0, 0, 0, .int 0), (30, 1, .istore_n 2, 2, 0, 0, .null), (31, 3, .iinc 3 1, 3, 0, 0, .int 1), 
  (34, 3, .goto (-30), 4, 0, 0, .null), (37, 1, .iload_n 2, 2, 0, 0, .null), (38, 1, .ireturn, 0, 0, 0, .null)]
theorem okX10_hasMove : tX10_hasMove.all (okI yX10_hasMove.cls (decide (yX10_hasMove.name = "<init>")) cX10_hasMove) = true := by decide +kernel
def tX11_init : List CI := [
  (0, 1, .aload_n 0, 0, 0, 0, .null), (1, 3, .invokespecial 3, 0, 0, 0, .null), (4, 1, .aload_n 0, 0, 0, 0, .null), (5, 3, .new 9, 0, 0, 0, .null), (8, 1, .dup, 0, 0, 0, .null), 
  (9, 3, .invokespecial 11, 0, 0, 0, .null), (12, 3, .putfield 12, 10, 0, 393, .null), (15, 1, .aload_n 0, 0, 0, 0, .null), (16, 3, .new 16, 0, 0, 0, .null), 
  (19, 1, .dup, 0, 0, 0, .null), (20, 3, .invokespecial 18, 0, 0, 0, .null), (23, 3, .putfield 19, 10, 1, 394, .null), (26, 1, .aload_n 0, 0, 0, 0, .null), 
  (27, 3, .new 16, 0, 0, 0, .null), (30, 1, .dup, 0, 0, 0, .null), (31, 3, .invokespecial 18, 0, 0, 0, .null), (34, 3, .putfield 23, 10, 2, 395, .null), 
  (37, 1, .aload_n 0, 0, 0, 0, .null), (38, 3, .new 26, 0, 0, 0, .null), (41, 1, .dup, 0, 0, 0, .null), (42, 3, .invokespecial 28, 0, 0, 0, .null), 
  (45, 3, .putfield 29, 10, 3, 396, .null), (48, 1, .aload_n 0, 0, 0, 0, .null), (49, 3, .new 33, 0, 0, 0, .null), (52, 1, .dup, 0, 0, 0, .null), 
  (53, 3, .invokespecial 35, 0, 0, 0, .null), (56, 3, .putfield 36, 10, 4, 397, .null), (59, 1, .aload_n 0, 0, 0, 0, .null), (60, 3, .new 33, 0, 0, 0, .null), 
  (63, 1, .dup, 0, 0, 0, .null), (64, 3, .invokespecial 35, 0, 0, 0, .null), (67, 3, .putfield 40, 10, 5, 398, .null), (70, 1, .aload_n 0, 0, 0, 0, .null), 
  (71, 3, .new 43, 0, 0, 0, .null), (74, 1, .dup, 0, 0, 0, .null), (75, 3, .invokespecial 45, 0, 0, 0, .null), (78, 3, .putfield 46, 10, 6, 399, .null), 
  (81, 1, .aload_n 0, 0, 0, 0, .null), (82, 3, .new 50, 0, 0, 0, .null), (85, 1, .dup, 0, 0, 0, .null), (86, 1, .aload_n 0, 0, 0, 0, .null), 
  (87, 3, .getfield 19, 10, 1, 394, .null), (90, 3, .invokespecial 52, 0, 0, 0, .null), (93, 3, .putfield 55, 10, 7, 400, .null), (96, 1, .aload_n 0, 0, 0, 0, .null), 
  (97, 3, .new 59, 0, 0, 0, .null), (100, 1, .dup, 0, 0, 0, .null), (101, 3, .invokespecial 61, 0, 0, 0, .null), (104, 3, .putfield 62, 10, 8, 401, .null), 
  (107, 1, .aload_n 0, 0, 0, 0, .null), (108, 3, .new 66, 0, 0, 0, .null), (111, 1, .dup, 0, 0, 0, .null), (112, 3, .invokespecial 68, 0, 0, 0, .null), 
  (115, 3, .putfield 69, 10, 9, 402, .null), (118, 1, .aload_n 0, 0, 0, 0, .null), (119, 3, .getfield 12, 10, 0, 393, .null), (122, 2, .bipush 115, 0, 0, 0, .int 115), 
  (124, 3, .invokevirtual 73, 0, 0, 0, .null), (127, 1, .pop, 0, 0, 0, .null), (128, 1, .aload_n 0, 0, 0, 0, .null), (129, 3, .getfield 12, 10, 0, 393, .null), 
  (132, 2, .bipush 53, 0, 0, 0, .int 53), (134, 3, .invokevirtual 73, 0, 0, 0, .null), (137, 1, .pop, 0, 0, 0, .null), (138, 1, .aload_n 0, 0, 0, 0, .null), 
  (139, 3, .getfield 12, 10, 0, 393, .null), (142, 1, .aload_n 0, 0, 0, 0, .null), (143, 3, .getfield 19, 10, 1, 394, .null), (146, 3, .invokevirtual 77, 0, 0, 0, .null), 
  (149, 1, .aload_n 0, 0, 0, 0, .null), (150, 3, .getfield 12, 10, 0, 393, .null), (153, 3, .invokevirtual 80, 0, 0, 0, .null), (156, 1, .aload_n 0, 0, 0, 0, .null), 
  (157, 3, .getfield 23, 10, 2, 395, .null), (160, 1, .aload_n 0, 0, 0, 0, .null), (161, 3, .getfield 19, 10, 1, 394, .null), (164, 3, .invokevirtual 83, 0, 0, 0, .null), 
  (167, 1, .return_, 0, 0, 0, .null)]
theorem okX11_init : tX11_init.all (okI yX11_init.cls (decide (yX11_init.name = "<init>")) cX11_init) = true := by decide +kernel
def tX11_say : List CI := [
  (0, 1, .iload_n 1, 1, 0, 0, .null), (1, 2, .bipush 33, 0, 0, 0, .int 33), (3, 3, .if_icmp .lt 9, 12, 0, 0, .null), (6, 1, .iload_n 1, 1, 0, 0, .null), 
  (7, 2, .bipush 126, 0, 0, 0, .int 126), (9, 3, .if_icmp .le 6, 15, 0, 0, .null), (12, 2, .bipush (-2), 0, 0, 0, .int (-2)), (14, 1, .ireturn, 0, 0, 0, .null), 
  (15, 1, .aload_n 0, 0, 0, 0, .null), (16, 3, .getfield 12, 10, 0, 393, .null), (19, 1, .iload_n 1, 1, 0, 0, .null), (20, 3, .invokevirtual 73, 0, 0, 0, .null), 
  (23, 3, .ifCond .eq 13, 36, 0, 0, .null), (26, 1, .aload_n 0, 0, 0, 0, .null), (27, 3, .getfield 12, 10, 0, 393, .null), (30, 3, .getfield 86, 3, 1, 105, .null), 
  (33, 3, .goto 5, 38, 0, 0, .null), (36, 2, .bipush (-4), 0, 0, 0, .int (-4)), (38, 1, .ireturn, 0, 0, 0, .null)]
theorem okX11_say : tX11_say.all (okI yX11_say.cls (decide (yX11_say.name = "<init>")) cX11_say) = true := by decide +kernel
def tX11_wipe : List CI := [
  (0, 1, .aload_n 0, 0, 0, 0, .null), (1, 3, .getfield 12, 10, 0, 393, .null), (4, 3, .getfield 86, 3, 1, 105, .null), (7, 1, .istore_n 1, 1, 0, 0, .null), 
  (8, 1, .aload_n 0, 0, 0, 0, .null), (9, 3, .getfield 12, 10, 0, 393, .null), (12, 3, .invokevirtual 80, 0, 0, 0, .null), (15, 1, .iload_n 1, 1, 0, 0, .null), 
  (16, 1, .ireturn, 0, 0, 0, .null)]
theorem okX11_wipe : tX11_wipe.all (okI yX11_wipe.cls (decide (yX11_wipe.name = "<init>")) cX11_wipe) = true := by decide +kernel
def tX11_fault : List CI := [
  (0, 1, .aload_n 0, 0, 0, 0, .null), (1, 3, .getfield 12, 10, 0, 393, .null), (4, 3, .invokevirtual 90, 0, 0, 0, .null), (7, 1, .ireturn, 0, 0, 0, .null)]
theorem okX11_fault : tX11_fault.all (okI yX11_fault.cls (decide (yX11_fault.name = "<init>")) cX11_fault) = true := by decide +kernel
def tX11_yard : List CI := [
  (0, 1, .aload_n 0, 0, 0, 0, .null), (1, 3, .getfield 12, 10, 0, 393, .null), (4, 3, .invokevirtual 90, 0, 0, 0, .null), (7, 2, .bipush (-6), 0, 0, 0, .int (-6)), 
  (9, 3, .if_icmp .eq 6, 15, 0, 0, .null), (12, 2, .bipush (-5), 0, 0, 0, .int (-5)), (14, 1, .ireturn, 0, 0, 0, .null), (15, 1, .aload_n 0, 0, 0, 0, .null), 
  (16, 3, .getfield 12, 10, 0, 393, .null), (19, 1, .aload_n 0, 0, 0, 0, .null), (20, 3, .getfield 19, 10, 1, 394, .null), (23, 3, .invokevirtual 77, 0, 0, 0, .null), 
  (26, 1, .aload_n 0, 0, 0, 0, .null), (27, 3, .getfield 12, 10, 0, 393, .null), (30, 3, .invokevirtual 80, 0, 0, 0, .null), (33, 1, .aload_n 0, 0, 0, 0, .null), 
  (34, 3, .getfield 29, 10, 3, 396, .null), (37, 1, .iconst 0, 0, 0, 0, .int 0), (38, 3, .putfield 94, 5, 0, 191, .long 0), (41, 1, .aload_n 0, 0, 0, 0, .null), 
  (42, 3, .invokevirtual 98, 0, 0, 0, .null), (45, 1, .aload_n 0, 0, 0, 0, .null), (46, 3, .getfield 19, 10, 1, 394, .null), (49, 3, .getfield 101, 9, 0, 136, .null), 
  (52, 1, .ireturn, 0, 0, 0, .null)]
theorem okX11_yard : tX11_yard.all (okI yX11_yard.cls (decide (yX11_yard.name = "<init>")) cX11_yard) = true := by decide +kernel
def tX11_siding : List CI := [
  (0, 1, .iload_n 1, 1, 0, 0, .null), (1, 3, .ifCond .lt 14, 15, 0, 0, .null), (4, 1, .iload_n 1, 1, 0, 0, .null), (5, 1, .aload_n 0, 0, 0, 0, .null), 
  (6, 3, .getfield 19, 10, 1, 394, .null), (9, 3, .getfield 101, 9, 0, 136, .null), (12, 3, .if_icmp .lt 5, 17, 0, 0, .null), (15, 1, .iconst (-1), 0, 0, 0, .int (-1)), 
  (16, 1, .ireturn, 0, 0, 0, .null), (17, 1, .iload_n 2, 2, 0, 0, .null), (18, 26, .tableswitch 53 0 2 #[26, 35, 44], 0, 0, 0, .null), (44, 1, .aload_n 0, 0, 0, 0, .null), 
  (45, 3, .getfield 19, 10, 1, 394, .null), (48, 1, .iload_n 1, 1, 0, 0, .null), (49, 3, .invokevirtual 104, 0, 0, 0, .null), (52, 1, .ireturn, 0, 0, 0, .null), 
  (53, 1, .aload_n 0, 0, 0, 0, .null), (54, 3, .getfield 19, 10, 1, 394, .null), (57, 1, .iload_n 1, 1, 0, 0, .null), (58, 3, .invokevirtual 108, 0, 0, 0, .null), 
  (61, 1, .ireturn, 0, 0, 0, .null), (62, 1, .aload_n 0, 0, 0, 0, .null), (63, 3, .getfield 19, 10, 1, 394, .null), (66, 1, .iload_n 1, 1, 0, 0, .null), 
  (67, 3, .invokevirtual 111, 0, 0, 0, .null), (70, 1, .ireturn, 0, 0, 0, .null), (71, 2, .bipush (-2), 0, 0, 0, .int (-2)), (73, 1, .ireturn, 0, 0, 0, .null)]
theorem okX11_siding : tX11_siding.all (okI yX11_siding.cls (decide (yX11_siding.name = "<init>")) cX11_siding) = true := by decide +kernel
def tX11_leads : List CI := [
  (0, 1, .aload_n 0, 0, 0, 0, .null), (1, 1, .iload_n 1, 1, 0, 0, .null), (2, 3, .invokevirtual 114, 0, 0, 0, .null), (5, 3, .ifCond .ne 11, 16, 0, 0, .null), 
  (8, 1, .aload_n 0, 0, 0, 0, .null), (9, 1, .iload_n 2, 2, 0, 0, .null), (10, 3, .invokevirtual 114, 0, 0, 0, .null), (13, 3, .ifCond .eq 5, 18, 0, 0, .null), 
  (16, 1, .iconst (-1), 0, 0, 0, .int (-1)), (17, 1, .ireturn, 0, 0, 0, .null), (18, 1, .iload_n 1, 1, 0, 0, .null), (19, 3, .ifCond .lt 17, 36, 0, 0, .null), 
  (22, 1, .iload_n 1, 1, 0, 0, .null), (23, 1, .iconst 5, 0, 0, 0, .int 5), (24, 3, .if_icmp .ge 12, 36, 0, 0, .null), (27, 1, .iload_n 2, 2, 0, 0, .null), 
  (28, 3, .ifCond .le 8, 36, 0, 0, .null), (31, 1, .iload_n 2, 2, 0, 0, .null), (32, 1, .iconst 5, 0, 0, 0, .int 5), (33, 3, .if_icmp .le 6, 39, 0, 0, .null), 
  (36, 2, .bipush (-2), 0, 0, 0, .int (-2)), (38, 1, .ireturn, 0, 0, 0, .null), (39, 1, .aload_n 0, 0, 0, 0, .null), (40, 3, .getfield 19, 10, 1, 394, .null), 
  (43, 1, .iload_n 1, 1, 0, 0, .null), (44, 1, .iload_n 2, 2, 0, 0, .null), (45, 3, .invokevirtual 117, 0, 0, 0, .null), (48, 3, .ifCond .eq 7, 55, 0, 0, .null), 
  (51, 1, .iconst 1, 0, 0, 0, .int 1), (52, 3, .goto 4, 56, 0, 0, .null), (55, 1, .iconst 0, 0, 0, 0, .int 0), (56, 1, .ireturn, 0, 0, 0, .null)]
theorem okX11_leads : tX11_leads.all (okI yX11_leads.cls (decide (yX11_leads.name = "<init>")) cX11_leads) = true := by decide +kernel
def tX11_least : List CI := [
  (0, 1, .iload_n 1, 1, 0, 0, .null), (1, 1, .iload_n 2, 2, 0, 0, .null), (2, 3, .invokestatic 121, 0, 0, 0, .null), (5, 3, .ifCond .ne 6, 11, 0, 0, .null), 
  (8, 2, .bipush (-2), 0, 0, 0, .int (-2)), (10, 1, .ireturn, 0, 0, 0, .null), (11, 1, .aload_n 0, 0, 0, 0, .null), (12, 1, .aload_n 0, 0, 0, 0, .null), 
  (13, 3, .getfield 19, 10, 1, 394, .null), (16, 1, .iload_n 1, 1, 0, 0, .null), (17, 3, .invokestatic 124, 0, 0, 0, .null), (20, 1, .iload_n 2, 2, 0, 0, .null), 
  (21, 3, .invokestatic 124, 0, 0, 0, .null), (24, 1, .iload_n 1, 1, 0, 0, .null), (25, 3, .invokestatic 129, 0, 0, 0, .null), (28, 3, .invokevirtual 132, 0, 0, 0, .null), 
  (31, 1, .istore_n 3, 3, 0, 0, .null), (32, 1, .iload_n 3, 3, 0, 0, .null), (33, 3, .ifCond .le 7, 40, 0, 0, .null), (36, 1, .iload_n 3, 3, 0, 0, .null), 
  (37, 3, .goto 5, 42, 0, 0, .null), (40, 2, .bipush (-6), 0, 0, 0, .int (-6)), (42, 1, .ireturn, 0, 0, 0, .null)]
theorem okX11_least : tX11_least.all (okI yX11_least.cls (decide (yX11_least.name = "<init>")) cX11_least) = true := by decide +kernel
def tX11_ways : List CI := [
  (0, 1, .iload_n 1, 1, 0, 0, .null), (1, 1, .iload_n 2, 2, 0, 0, .null), (2, 3, .invokestatic 121, 0, 0, 0, .null), (5, 3, .ifCond .ne 7, 12, 0, 0, .null), 
  (8, 3, .ldc2_w 136, 0, 0, 613, .long (-2)), (11, 1, .lreturn, 0, 0, 0, .null), (12, 1, .iload_n 1, 1, 0, 0, .null), (13, 3, .invokestatic 129, 0, 0, 0, .null), 
  (16, 1, .istore_n 3, 3, 0, 0, .null), (17, 1, .aload_n 0, 0, 0, 0, .null), (18, 3, .getfield 46, 10, 6, 399, .null), (21, 1, .aload_n 0, 0, 0, 0, .null), 
  (22, 3, .getfield 19, 10, 1, 394, .null), (25, 1, .iload_n 3, 3, 0, 0, .null), (26, 3, .invokevirtual 138, 0, 0, 0, .null), (29, 1, .aload_n 0, 0, 0, 0, .null), 
  (30, 3, .getfield 19, 10, 1, 394, .null), (33, 3, .getfield 142, 9, 8, 153, .null), (36, 1, .iload_n 1, 1, 0, 0, .null), (37, 3, .invokestatic 124, 0, 0, 0, .null), 
  (40, 1, .iload_n 2, 2, 0, 0, .null), (41, 3, .invokestatic 124, 0, 0, 0, .null), (44, 1, .iload_n 3, 3, 0, 0, .null), (45, 3, .invokestatic 146, 0, 0, 0, .null), 
  (48, 1, .iload_n 3, 3, 0, 0, .null), (49, 3, .invokevirtual 150, 0, 0, 0, .null), (52, 1, .lreturn, 0, 0, 0, .null)]
theorem okX11_ways : tX11_ways.all (okI yX11_ways.cls (decide (yX11_ways.name = "<init>")) cX11_ways) = true := by decide +kernel
def tX11_first : List CI := [
  (0, 1, .iload_n 1, 1, 0, 0, .null), (1, 1, .iload_n 2, 2, 0, 0, .null), (2, 3, .invokestatic 121, 0, 0, 0, .null), (5, 3, .ifCond .ne 6, 11, 0, 0, .null), 
  (8, 2, .bipush (-2), 0, 0, 0, .int (-2)), (10, 1, .ireturn, 0, 0, 0, .null), (11, 1, .iload_n 3, 3, 0, 0, .null), (12, 3, .ifCond .lt 9, 21, 0, 0, .null), 
  (15, 1, .iload_n 3, 3, 0, 0, .null), (16, 2, .bipush 20, 0, 0, 0, .int 20), (18, 3, .if_icmp .lt 6, 24, 0, 0, .null), (21, 2, .bipush (-6), 0, 0, 0, .int (-6)), 
  (23, 1, .ireturn, 0, 0, 0, .null), (24, 1, .iload_n 1, 1, 0, 0, .null), (25, 3, .invokestatic 129, 0, 0, 0, .null), (28, 2, .istore 4, 4, 0, 0, .null), 
  (30, 1, .aload_n 0, 0, 0, 0, .null), (31, 3, .getfield 55, 10, 7, 400, .null), (34, 1, .aload_n 0, 0, 0, 0, .null), (35, 3, .getfield 19, 10, 1, 394, .null), 
  (38, 2, .iload 4, 4, 0, 0, .null), (40, 1, .iload_n 1, 1, 0, 0, .null), (41, 3, .invokestatic 124, 0, 0, 0, .null), (44, 1, .iload_n 2, 2, 0, 0, .null), 
  (45, 3, .invokestatic 124, 0, 0, 0, .null), (48, 2, .iload 4, 4, 0, 0, .null), (50, 3, .invokestatic 146, 0, 0, 0, .null), (53, 3, .invokevirtual 156, 0, 0, 0, .null), 
  (56, 1, .aload_n 0, 0, 0, 0, .null), (57, 3, .getfield 55, 10, 7, 400, .null), (60, 1, .iload_n 3, 3, 0, 0, .null), (61, 3, .invokevirtual 160, 0, 0, 0, .null), 
  (64, 1, .ireturn, 0, 0, 0, .null)]
theorem okX11_first : tX11_first.all (okI yX11_first.cls (decide (yX11_first.name = "<init>")) cX11_first) = true := by decide +kernel
def tX11_orders : List CI := [
  (0, 1, .iload_n 1, 1, 0, 0, .null), (1, 3, .invokestatic 129, 0, 0, 0, .null), (4, 1, .istore_n 3, 3, 0, 0, .null), (5, 1, .iload_n 3, 3, 0, 0, .null), 
  (6, 3, .ifCond .ne 6, 12, 0, 0, .null), (9, 2, .bipush (-2), 0, 0, 0, .int (-2)), (11, 1, .ireturn, 0, 0, 0, .null), (12, 1, .iload_n 1, 1, 0, 0, .null), 
  (13, 3, .invokestatic 124, 0, 0, 0, .null), (16, 2, .istore 4, 4, 0, 0, .null), (18, 1, .iload_n 3, 3, 0, 0, .null), (19, 3, .invokestatic 163, 0, 0, 0, .null), 
  (22, 2, .istore 5, 5, 0, 0, .null), (24, 1, .iconst 0, 0, 0, 0, .int 0), (25, 2, .istore 6, 6, 0, 0, .null), (27, 1, .iconst 0, 0, 0, 0, .int 0), 
  (28, 2, .istore 7, 7, 0, 0, .null), (30, 2, .iload 7, 7, 0, 0, .null), (32, 2, .iload 5, 5, 0, 0, .null), (34, 3, .if_icmp .ge 48, 82, 0, 0, .null), 
  (37, 2, .iload 7, 7, 0, 0, .null), (39, 1, .iload_n 3, 3, 0, 0, .null), (40, 3, .invokestatic 166, 0, 0, 0, .null), (43, 2, .istore 8, 8, 0, 0, .null), 
  (45, 1, .aload_n 0, 0, 0, 0, .null), (46, 1, .aload_n 0, 0, 0, 0, .null), (47, 3, .getfield 19, 10, 1, 394, .null), (50, 2, .iload 4, 4, 0, 0, .null), 
  (52, 2, .iload 8, 8, 0, 0, .null), (54, 1, .iload_n 3, 3, 0, 0, .null), (55, 3, .invokevirtual 132, 0, 0, 0, .null), (58, 3, .ifCond .le 18, 76, 0, 0, .null), 
  (61, 2, .iload 6, 6, 0, 0, .null), (63, 1, .iload_n 2, 2, 0, 0, .null), (64, 3, .if_icmp .ne 9, 73, 0, 0, .null), (67, 2, .iload 8, 8, 0, 0, .null), 
  (69, 3, .invokestatic 170, 0, 0, 0, .null), (72, 1, .ireturn, 0, 0, 0, .null), (73, 3, .iinc 6 1, 6, 0, 0, .int 1), (76, 3, .iinc 7 1, 7, 0, 0, .int 1), 
  (79, 3, .goto (-49), 30, 0, 0, .null), (82, 1, .iload_n 2, 2, 0, 0, .null), (83, 1, .iconst (-1), 0, 0, 0, .int (-1)), (84, 3, .if_icmp .ne 8, 92, 0, 0, .null), 
  (87, 2, .iload 6, 6, 0, 0, .null), (89, 3, .goto 5, 94, 0, 0, .null), (92, 2, .bipush (-6), 0, 0, 0, .int (-6)), (94, 1, .ireturn, 0, 0, 0, .null)]
theorem okX11_orders : tX11_orders.all (okI yX11_orders.cls (decide (yX11_orders.name = "<init>")) cX11_orders) = true := by decide +kernel
def tX11_good : List CI := [
  (0, 1, .iload_n 1, 1, 0, 0, .null), (1, 1, .iconst 1, 0, 0, 0, .int 1), (2, 3, .if_icmp .lt 17, 19, 0, 0, .null), (5, 1, .iload_n 1, 1, 0, 0, .null), 
  (6, 1, .iconst 5, 0, 0, 0, .int 5), (7, 3, .if_icmp .gt 12, 19, 0, 0, .null), (10, 1, .iload_n 2, 2, 0, 0, .null), (11, 3, .ifCond .lt 8, 19, 0, 0, .null), 
  (14, 1, .iload_n 2, 2, 0, 0, .null), (15, 1, .iconst 1, 0, 0, 0, .int 1), (16, 3, .if_icmp .le 6, 22, 0, 0, .null), (19, 2, .bipush (-2), 0, 0, 0, .int (-2)), 
  (21, 1, .ireturn, 0, 0, 0, .null), (22, 1, .iload_n 1, 1, 0, 0, .null), (23, 3, .invokestatic 163, 0, 0, 0, .null), (26, 1, .istore_n 3, 3, 0, 0, .null), 
  (27, 1, .iconst 0, 0, 0, 0, .int 0), (28, 2, .istore 4, 4, 0, 0, .null), (30, 1, .iconst 0, 0, 0, 0, .int 0), (31, 2, .istore 5, 5, 0, 0, .null), 
  (33, 2, .iload 5, 5, 0, 0, .null), (35, 1, .iload_n 3, 3, 0, 0, .null), (36, 3, .if_icmp .ge 48, 84, 0, 0, .null), (39, 2, .iload 5, 5, 0, 0, .null), 
  (41, 1, .iload_n 1, 1, 0, 0, .null), (42, 3, .invokestatic 166, 0, 0, 0, .null), (45, 2, .istore 6, 6, 0, 0, .null), (47, 1, .aload_n 0, 0, 0, 0, .null), 
  (48, 1, .aload_n 0, 0, 0, 0, .null), (49, 3, .getfield 19, 10, 1, 394, .null), (52, 2, .iload 6, 6, 0, 0, .null), (54, 1, .iload_n 1, 1, 0, 0, .null), 
  (55, 3, .invokevirtual 173, 0, 0, 0, .null), (58, 3, .ifCond .le 9, 67, 0, 0, .null), (61, 3, .iinc 4 1, 4, 0, 0, .int 1), (64, 3, .goto 14, 78, 0, 0, .null), 
  (67, 1, .iload_n 2, 2, 0, 0, .null), (68, 1, .iconst 1, 0, 0, 0, .int 1), (69, 3, .if_icmp .ne 9, 78, 0, 0, .null), (72, 2, .iload 6, 6, 0, 0, .null), 
  (74, 3, .invokestatic 170, 0, 0, 0, .null), (77, 1, .ireturn, 0, 0, 0, .null), (78, 3, .iinc 5 1, 5, 0, 0, .int 1), (81, 3, .goto (-48), 33, 0, 0, .null), 
  (84, 1, .iload_n 2, 2, 0, 0, .null), (85, 3, .ifCond .ne 8, 93, 0, 0, .null), (88, 2, .iload 4, 4, 0, 0, .null), (90, 3, .goto 5, 95, 0, 0, .null), 
  (93, 2, .bipush (-6), 0, 0, 0, .int (-6)), (95, 1, .ireturn, 0, 0, 0, .null)]
theorem okX11_good : tX11_good.all (okI yX11_good.cls (decide (yX11_good.name = "<init>")) cX11_good) = true := by decide +kernel
def tX11_mean : List CI := [
  (0, 1, .iload_n 1, 1, 0, 0, .null), (1, 1, .iconst 1, 0, 0, 0, .int 1), (2, 3, .if_icmp .lt 17, 19, 0, 0, .null), (5, 1, .iload_n 1, 1, 0, 0, .null), 
  (6, 1, .iconst 5, 0, 0, 0, .int 5), (7, 3, .if_icmp .gt 12, 19, 0, 0, .null), (10, 1, .iload_n 2, 2, 0, 0, .null), (11, 3, .ifCond .lt 8, 19, 0, 0, .null), 
  (14, 1, .iload_n 2, 2, 0, 0, .null), (15, 1, .iconst 1, 0, 0, 0, .int 1), (16, 3, .if_icmp .le 7, 23, 0, 0, .null), 
  (19, 3, .ldc2_w 177, 0, 0, 685, .long (-1000000000000000002)), (22, 1, .lreturn, 0, 0, 0, .null), (23, 1, .iload_n 1, 1, 0, 0, .null), 
  (24, 3, .invokestatic 163, 0, 0, 0, .null), (27, 1, .istore_n 3, 3, 0, 0, .null), (28, 1, .iconst 0, 0, 0, 0, .int 0), (29, 2, .istore 4, 4, 0, 0, .null), 
  (31, 1, .iconst 0, 0, 0, 0, .int 0), (32, 2, .istore 5, 5, 0, 0, .null), (34, 1, .iconst 0, 0, 0, 0, .int 0), (35, 2, .istore 6, 6, 0, 0, .null), 
  (37, 2, .iload 6, 6, 0, 0, .null), (39, 1, .iload_n 3, 3, 0, 0, .null), (40, 3, .if_icmp .ge 41, 81, 0, 0, .null), (43, 1, .aload_n 0, 0, 0, 0, .null), 
  (44, 1, .aload_n 0, 0, 0, 0, .null), (45, 3, .getfield 19, 10, 1, 394, .null), (48, 2, .iload 6, 6, 0, 0, .null), (50, 1, .iload_n 1, 1, 0, 0, .null), 
  (51, 3, .invokestatic 166, 0, 0, 0, .null), (54, 1, .iload_n 1, 1, 0, 0, .null), (55, 3, .invokevirtual 173, 0, 0, 0, .null), (58, 2, .istore 7, 7, 0, 0, .null), 
  (60, 2, .iload 7, 7, 0, 0, .null), (62, 3, .ifCond .le 13, 75, 0, 0, .null), (65, 3, .iinc 4 1, 4, 0, 0, .int 1), (68, 2, .iload 5, 5, 0, 0, .null), 
  (70, 2, .iload 7, 7, 0, 0, .null), (72, 1, .iadd, 0, 0, 0, .null), (73, 2, .istore 5, 5, 0, 0, .null), (75, 3, .iinc 6 1, 6, 0, 0, .int 1), 
  (78, 3, .goto (-41), 37, 0, 0, .null), (81, 2, .iload 5, 5, 0, 0, .null), (83, 2, .iload 4, 4, 0, 0, .null), (85, 1, .iload_n 2, 2, 0, 0, .null), 
  (86, 3, .invokestatic 179, 0, 0, 0, .null), (89, 1, .lreturn, 0, 0, 0, .null)]
theorem okX11_mean : tX11_mean.all (okI yX11_mean.cls (decide (yX11_mean.name = "<init>")) cX11_mean) = true := by decide +kernel
def tX11_need : List CI := [
  (0, 1, .iload_n 2, 2, 0, 0, .null), (1, 1, .iconst (-1), 0, 0, 0, .int (-1)), (2, 3, .if_icmp .lt 14, 16, 0, 0, .null), (5, 1, .iload_n 2, 2, 0, 0, .null), 
  (6, 1, .aload_n 0, 0, 0, 0, .null), (7, 3, .getfield 19, 10, 1, 394, .null), (10, 3, .getfield 101, 9, 0, 136, .null), (13, 3, .if_icmp .lt 5, 18, 0, 0, .null), 
  (16, 1, .iconst (-1), 0, 0, 0, .int (-1)), (17, 1, .ireturn, 0, 0, 0, .null), (18, 1, .iload_n 1, 1, 0, 0, .null), (19, 3, .invokestatic 129, 0, 0, 0, .null), 
  (22, 1, .istore_n 3, 3, 0, 0, .null), (23, 1, .iload_n 3, 3, 0, 0, .null), (24, 3, .ifCond .ne 6, 30, 0, 0, .null), (27, 2, .bipush (-2), 0, 0, 0, .int (-2)), 
  (29, 1, .ireturn, 0, 0, 0, .null), (30, 1, .iload_n 1, 1, 0, 0, .null), (31, 3, .invokestatic 124, 0, 0, 0, .null), (34, 2, .istore 4, 4, 0, 0, .null), 
  (36, 1, .aload_n 0, 0, 0, 0, .null), (37, 1, .aload_n 0, 0, 0, 0, .null), (38, 3, .getfield 19, 10, 1, 394, .null), (41, 2, .iload 4, 4, 0, 0, .null), 
  (43, 1, .iload_n 3, 3, 0, 0, .null), (44, 3, .invokevirtual 173, 0, 0, 0, .null), (47, 3, .ifCond .ne 6, 53, 0, 0, .null), (50, 2, .bipush (-5), 0, 0, 0, .int (-5)), 
  (52, 1, .ireturn, 0, 0, 0, .null), (53, 1, .aload_n 0, 0, 0, 0, .null), (54, 3, .getfield 62, 10, 8, 401, .null), (57, 3, .getfield 183, 1, 0, 290, .null), 
  (60, 1, .iload_n 1, 1, 0, 0, .null), (61, 3, .if_icmp .eq 37, 98, 0, 0, .null), (64, 1, .aload_n 0, 0, 0, 0, .null), (65, 3, .getfield 62, 10, 8, 401, .null), 
  (68, 1, .aload_n 0, 0, 0, 0, .null), (69, 3, .getfield 19, 10, 1, 394, .null), (72, 1, .aload_n 0, 0, 0, 0, .null), (73, 3, .getfield 55, 10, 7, 400, .null), 
  (76, 1, .iload_n 3, 3, 0, 0, .null), (77, 2, .iload 4, 4, 0, 0, .null), (79, 1, .iload_n 3, 3, 0, 0, .null), (80, 3, .invokestatic 186, 0, 0, 0, .null), 
  (83, 1, .iload_n 3, 3, 0, 0, .null), (84, 3, .invokestatic 146, 0, 0, 0, .null), (87, 3, .invokevirtual 189, 0, 0, 0, .null), (90, 1, .aload_n 0, 0, 0, 0, .null), 
  (91, 3, .getfield 62, 10, 8, 401, .null), (94, 1, .iload_n 1, 1, 0, 0, .null), (95, 3, .putfield 183, 1, 0, 290, .int 0), (98, 1, .iload_n 2, 2, 0, 0, .null), 
  (99, 1, .iconst (-1), 0, 0, 0, .int (-1)), (100, 3, .if_icmp .ne 13, 113, 0, 0, .null), (103, 1, .aload_n 0, 0, 0, 0, .null), (104, 3, .getfield 62, 10, 8, 401, .null), 
  (107, 3, .getfield 193, 1, 1, 292, .null), (110, 3, .goto 14, 124, 0, 0, .null), (113, 1, .aload_n 0, 0, 0, 0, .null), (114, 3, .getfield 62, 10, 8, 401, .null), 
  (117, 3, .getfield 196, 1, 2, 294, .null), (120, 1, .iload_n 2, 2, 0, 0, .null), (121, 3, .invokevirtual 108, 0, 0, 0, .null), (124, 1, .ireturn, 0, 0, 0, .null)]
theorem okX11_need : tX11_need.all (okI yX11_need.cls (decide (yX11_need.name = "<init>")) cX11_need) = true := by decide +kernel
def tX11_keep : List CI := [
  (0, 1, .aload_n 0, 0, 0, 0, .null), (1, 3, .getfield 23, 10, 2, 395, .null), (4, 1, .aload_n 0, 0, 0, 0, .null), (5, 3, .getfield 19, 10, 1, 394, .null), 
  (8, 3, .invokevirtual 83, 0, 0, 0, .null), (11, 1, .aload_n 0, 0, 0, 0, .null), (12, 3, .getfield 23, 10, 2, 395, .null), (15, 3, .getfield 101, 9, 0, 136, .null), 
  (18, 1, .ireturn, 0, 0, 0, .null)]
theorem okX11_keep : tX11_keep.all (okI yX11_keep.cls (decide (yX11_keep.name = "<init>")) cX11_keep) = true := by decide +kernel
def tX11_unlike : List CI := [
  (0, 1, .iload_n 1, 1, 0, 0, .null), (1, 1, .iconst 1, 0, 0, 0, .int 1), (2, 3, .if_icmp .lt 8, 10, 0, 0, .null), (5, 1, .iload_n 1, 1, 0, 0, .null), 
  (6, 1, .iconst 5, 0, 0, 0, .int 5), (7, 3, .if_icmp .le 6, 13, 0, 0, .null), (10, 2, .bipush (-2), 0, 0, 0, .int (-2)), (12, 1, .ireturn, 0, 0, 0, .null), 
  (13, 1, .iload_n 1, 1, 0, 0, .null), (14, 3, .invokestatic 163, 0, 0, 0, .null), (17, 1, .istore_n 2, 2, 0, 0, .null), (18, 1, .iconst 0, 0, 0, 0, .int 0), 
  (19, 1, .istore_n 3, 3, 0, 0, .null), (20, 1, .iload_n 3, 3, 0, 0, .null), (21, 1, .iload_n 2, 2, 0, 0, .null), (22, 3, .if_icmp .ge 71, 93, 0, 0, .null), 
  (25, 1, .iload_n 3, 3, 0, 0, .null), (26, 1, .iload_n 1, 1, 0, 0, .null), (27, 3, .invokestatic 166, 0, 0, 0, .null), (30, 2, .istore 4, 4, 0, 0, .null), 
  (32, 1, .aload_n 0, 0, 0, 0, .null), (33, 1, .aload_n 0, 0, 0, 0, .null), (34, 3, .getfield 19, 10, 1, 394, .null), (37, 2, .iload 4, 4, 0, 0, .null), 
  (39, 1, .iload_n 1, 1, 0, 0, .null), (40, 3, .invokevirtual 173, 0, 0, 0, .null), (43, 3, .ifCond .le 7, 50, 0, 0, .null), (46, 1, .iconst 1, 0, 0, 0, .int 1), 
  (47, 3, .goto 4, 51, 0, 0, .null), (50, 1, .iconst 0, 0, 0, 0, .int 0), (51, 2, .istore 5, 5, 0, 0, .null), (53, 1, .aload_n 0, 0, 0, 0, .null), 
  (54, 1, .aload_n 0, 0, 0, 0, .null), (55, 3, .getfield 23, 10, 2, 395, .null), (58, 2, .iload 4, 4, 0, 0, .null), (60, 1, .iload_n 1, 1, 0, 0, .null), 
  (61, 3, .invokevirtual 173, 0, 0, 0, .null), (64, 3, .ifCond .le 7, 71, 0, 0, .null), (67, 1, .iconst 1, 0, 0, 0, .int 1), (68, 3, .goto 4, 72, 0, 0, .null), 
  (71, 1, .iconst 0, 0, 0, 0, .int 0), (72, 2, .istore 6, 6, 0, 0, .null), (74, 2, .iload 5, 5, 0, 0, .null), (76, 2, .iload 6, 6, 0, 0, .null), 
  (78, 3, .if_icmp .eq 9, 87, 0, 0, .null), (81, 2, .iload 4, 4, 0, 0, .null), (83, 3, .invokestatic 170, 0, 0, 0, .null), (86, 1, .ireturn, 0, 0, 0, .null), 
  (87, 3, .iinc 3 1, 3, 0, 0, .int 1), (90, 3, .goto (-70), 20, 0, 0, .null), (93, 2, .bipush (-6), 0, 0, 0, .int (-6)), (95, 1, .ireturn, 0, 0, 0, .null)]
theorem okX11_unlike : tX11_unlike.all (okI yX11_unlike.cls (decide (yX11_unlike.name = "<init>")) cX11_unlike) = true := by decide +kernel
def tX11_play : List CI := [
  (0, 1, .iload_n 1, 1, 0, 0, .null), (1, 1, .iload_n 2, 2, 0, 0, .null), (2, 3, .invokestatic 121, 0, 0, 0, .null), (5, 3, .ifCond .ne 6, 11, 0, 0, .null), 
  (8, 2, .bipush (-2), 0, 0, 0, .int (-2)), (10, 1, .ireturn, 0, 0, 0, .null), (11, 1, .iload_n 1, 1, 0, 0, .null), (12, 3, .invokestatic 129, 0, 0, 0, .null), 
  (15, 1, .istore_n 3, 3, 0, 0, .null), (16, 1, .aload_n 0, 0, 0, 0, .null), (17, 3, .getfield 29, 10, 3, 396, .null), (20, 1, .iload_n 1, 1, 0, 0, .null), 
  (21, 3, .invokestatic 124, 0, 0, 0, .null), (24, 1, .iload_n 2, 2, 0, 0, .null), (25, 3, .invokestatic 124, 0, 0, 0, .null), (28, 1, .iload_n 3, 3, 0, 0, .null), 
  (29, 3, .invokevirtual 199, 0, 0, 0, .null), (32, 1, .aload_n 0, 0, 0, 0, .null), (33, 1, .aload_n 0, 0, 0, 0, .null), (34, 3, .getfield 19, 10, 1, 394, .null), 
  (37, 1, .aload_n 0, 0, 0, 0, .null), (38, 3, .getfield 29, 10, 3, 396, .null), (41, 3, .getfield 203, 5, 1, 193, .null), (44, 1, .aload_n 0, 0, 0, 0, .null), 
  (45, 3, .getfield 29, 10, 3, 396, .null), (48, 3, .getfield 204, 5, 2, 195, .null), (51, 1, .iload_n 3, 3, 0, 0, .null), (52, 3, .invokevirtual 132, 0, 0, 0, .null), 
  (55, 2, .istore 4, 4, 0, 0, .null), (57, 2, .iload 4, 4, 0, 0, .null), (59, 3, .ifCond .le 8, 67, 0, 0, .null), (62, 2, .iload 4, 4, 0, 0, .null), 
  (64, 3, .goto 5, 69, 0, 0, .null), (67, 2, .bipush (-6), 0, 0, 0, .int (-6)), (69, 1, .ireturn, 0, 0, 0, .null)]
theorem okX11_play : tX11_play.all (okI yX11_play.cls (decide (yX11_play.name = "<init>")) cX11_play) = true := by decide +kernel
def tX11_move : List CI := [
  (0, 1, .aload_n 0, 0, 0, 0, .null), (1, 3, .getfield 29, 10, 3, 396, .null), (4, 3, .getfield 94, 5, 0, 191, .null), (7, 3, .ifCond .ne 6, 13, 0, 0, .null), 
  (10, 2, .bipush (-3), 0, 0, 0, .int (-3)), (12, 1, .ireturn, 0, 0, 0, .null), (13, 1, .aload_n 0, 0, 0, 0, .null), (14, 3, .getfield 19, 10, 1, 394, .null), 
  (17, 1, .iload_n 1, 1, 0, 0, .null), (18, 3, .invokevirtual 207, 0, 0, 0, .null), (21, 3, .ifCond .eq 42, 63, 0, 0, .null), (24, 1, .aload_n 0, 0, 0, 0, .null), 
  (25, 3, .getfield 29, 10, 3, 396, .null), (28, 3, .getfield 210, 5, 6, 202, .null), (31, 1, .aload_n 0, 0, 0, 0, .null), (32, 3, .getfield 19, 10, 1, 394, .null), 
  (35, 1, .iload_n 1, 1, 0, 0, .null), (36, 3, .invokevirtual 214, 0, 0, 0, .null), (39, 3, .ifCond .eq 24, 63, 0, 0, .null), (42, 1, .aload_n 0, 0, 0, 0, .null), 
  (43, 3, .getfield 29, 10, 3, 396, .null), (46, 1, .iload_n 1, 1, 0, 0, .null), (47, 3, .invokevirtual 220, 0, 0, 0, .null), (50, 3, .ifCond .eq 13, 63, 0, 0, .null), 
  (53, 1, .aload_n 0, 0, 0, 0, .null), (54, 3, .getfield 29, 10, 3, 396, .null), (57, 3, .getfield 221, 5, 4, 199, .null), (60, 3, .goto 5, 65, 0, 0, .null), 
  (63, 2, .bipush (-5), 0, 0, 0, .int (-5)), (65, 1, .ireturn, 0, 0, 0, .null)]
theorem okX11_move : tX11_move.all (okI yX11_move.cls (decide (yX11_move.name = "<init>")) cX11_move) = true := by decide +kernel
def tX11_back : List CI := [
  (0, 1, .aload_n 0, 0, 0, 0, .null), (1, 3, .getfield 29, 10, 3, 396, .null), (4, 3, .getfield 94, 5, 0, 191, .null), (7, 3, .ifCond .ne 6, 13, 0, 0, .null), 
  (10, 2, .bipush (-3), 0, 0, 0, .int (-3)), (12, 1, .ireturn, 0, 0, 0, .null), (13, 1, .aload_n 0, 0, 0, 0, .null), (14, 3, .getfield 29, 10, 3, 396, .null), 
  (17, 3, .invokevirtual 224, 0, 0, 0, .null), (20, 3, .ifCond .eq 13, 33, 0, 0, .null), (23, 1, .aload_n 0, 0, 0, 0, .null), (24, 3, .getfield 29, 10, 3, 396, .null), 
  (27, 3, .getfield 221, 5, 4, 199, .null), (30, 3, .goto 5, 35, 0, 0, .null), (33, 2, .bipush (-5), 0, 0, 0, .int (-5)), (35, 1, .ireturn, 0, 0, 0, .null)]
theorem okX11_back : tX11_back.all (okI yX11_back.cls (decide (yX11_back.name = "<init>")) cX11_back) = true := by decide +kernel
def tX11_rest : List CI := [
  (0, 1, .aload_n 0, 0, 0, 0, .null), (1, 3, .getfield 29, 10, 3, 396, .null), (4, 3, .getfield 94, 5, 0, 191, .null), (7, 3, .ifCond .ne 6, 13, 0, 0, .null), 
  (10, 2, .bipush (-3), 0, 0, 0, .int (-3)), (12, 1, .ireturn, 0, 0, 0, .null), (13, 1, .aload_n 0, 0, 0, 0, .null), (14, 3, .invokevirtual 228, 0, 0, 0, .null), 
  (17, 1, .aload_n 0, 0, 0, 0, .null), (18, 3, .getfield 55, 10, 7, 400, .null), (21, 1, .aload_n 0, 0, 0, 0, .null), (22, 3, .getfield 29, 10, 3, 396, .null), 
  (25, 3, .getfield 210, 5, 6, 202, .null), (28, 3, .invokevirtual 231, 0, 0, 0, .null), (31, 1, .istore_n 1, 1, 0, 0, .null), (32, 1, .iload_n 1, 1, 0, 0, .null), 
  (33, 3, .ifCond .ge 8, 41, 0, 0, .null), (36, 2, .bipush (-6), 0, 0, 0, .int (-6)), (38, 3, .goto 4, 42, 0, 0, .null), (41, 1, .iload_n 1, 1, 0, 0, .null), 
  (42, 1, .ireturn, 0, 0, 0, .null)]
theorem okX11_rest : tX11_rest.all (okI yX11_rest.cls (decide (yX11_rest.name = "<init>")) cX11_rest) = true := by decide +kernel
def tX11_next : List CI := [
  (0, 1, .aload_n 0, 0, 0, 0, .null), (1, 3, .getfield 29, 10, 3, 396, .null), (4, 3, .getfield 94, 5, 0, 191, .null), (7, 3, .ifCond .ne 6, 13, 0, 0, .null), 
  (10, 2, .bipush (-3), 0, 0, 0, .int (-3)), (12, 1, .ireturn, 0, 0, 0, .null), (13, 1, .aload_n 0, 0, 0, 0, .null), (14, 3, .invokevirtual 228, 0, 0, 0, .null), 
  (17, 1, .aload_n 0, 0, 0, 0, .null), (18, 3, .getfield 55, 10, 7, 400, .null), (21, 1, .aload_n 0, 0, 0, 0, .null), (22, 3, .getfield 29, 10, 3, 396, .null), 
  (25, 3, .getfield 210, 5, 6, 202, .null), (28, 3, .invokevirtual 235, 0, 0, 0, .null), (31, 1, .ireturn, 0, 0, 0, .null)]
theorem okX11_next : tX11_next.all (okI yX11_next.cls (decide (yX11_next.name = "<init>")) cX11_next) = true := by decide +kernel
def tX11_moves : List CI := [
  (0, 1, .aload_n 0, 0, 0, 0, .null), (1, 3, .getfield 29, 10, 3, 396, .null), (4, 3, .getfield 94, 5, 0, 191, .null), (7, 3, .ifCond .ne 6, 13, 0, 0, .null), 
  (10, 2, .bipush (-3), 0, 0, 0, .int (-3)), (12, 1, .ireturn, 0, 0, 0, .null), (13, 1, .iconst 0, 0, 0, 0, .int 0), (14, 1, .istore_n 2, 2, 0, 0, .null), 
  (15, 1, .iconst 0, 0, 0, 0, .int 0), (16, 1, .istore_n 3, 3, 0, 0, .null), (17, 1, .iload_n 3, 3, 0, 0, .null), (18, 1, .aload_n 0, 0, 0, 0, .null), 
  (19, 3, .getfield 19, 10, 1, 394, .null), (22, 3, .getfield 238, 9, 2, 145, .null), (25, 3, .if_icmp .ge 49, 74, 0, 0, .null), (28, 1, .aload_n 0, 0, 0, 0, .null), 
  (29, 3, .getfield 19, 10, 1, 394, .null), (32, 1, .iload_n 3, 3, 0, 0, .null), (33, 3, .invokevirtual 241, 0, 0, 0, .null), (36, 2, .istore 4, 4, 0, 0, .null), 
  (38, 1, .aload_n 0, 0, 0, 0, .null), (39, 3, .getfield 29, 10, 3, 396, .null), (42, 3, .getfield 210, 5, 6, 202, .null), (45, 1, .aload_n 0, 0, 0, 0, .null), 
  (46, 3, .getfield 19, 10, 1, 394, .null), (49, 2, .iload 4, 4, 0, 0, .null), (51, 3, .invokevirtual 214, 0, 0, 0, .null), (54, 3, .ifCond .eq 14, 68, 0, 0, .null), 
  (57, 1, .iload_n 2, 2, 0, 0, .null), (58, 1, .iload_n 1, 1, 0, 0, .null), (59, 3, .if_icmp .ne 6, 65, 0, 0, .null), (62, 2, .iload 4, 4, 0, 0, .null), 
  (64, 1, .ireturn, 0, 0, 0, .null), (65, 3, .iinc 2 1, 2, 0, 0, .int 1), (68, 3, .iinc 3 1, 3, 0, 0, .int 1), (71, 3, .goto (-54), 17, 0, 0, .null), 
  (74, 1, .iload_n 1, 1, 0, 0, .null), (75, 1, .iconst (-1), 0, 0, 0, .int (-1)), (76, 3, .if_icmp .ne 7, 83, 0, 0, .null), (79, 1, .iload_n 2, 2, 0, 0, .null), 
  (80, 3, .goto 5, 85, 0, 0, .null), (83, 2, .bipush (-6), 0, 0, 0, .int (-6)), (85, 1, .ireturn, 0, 0, 0, .null)]
theorem okX11_moves : tX11_moves.all (okI yX11_moves.cls (decide (yX11_moves.name = "<init>")) cX11_moves) = true := by decide +kernel
def tX11_stand : List CI := [
  (0, 1, .aload_n 0, 0, 0, 0, .null), (1, 1, .iload_n 1, 1, 0, 0, .null), (2, 3, .invokevirtual 114, 0, 0, 0, .null), (5, 3, .ifCond .eq 5, 10, 0, 0, .null), 
  (8, 1, .iconst (-1), 0, 0, 0, .int (-1)), (9, 1, .ireturn, 0, 0, 0, .null), (10, 1, .iload_n 1, 1, 0, 0, .null), (11, 3, .ifCond .lt 8, 19, 0, 0, .null), 
  (14, 1, .iload_n 1, 1, 0, 0, .null), (15, 1, .iconst 5, 0, 0, 0, .int 5), (16, 3, .if_icmp .le 6, 22, 0, 0, .null), (19, 2, .bipush (-2), 0, 0, 0, .int (-2)), 
  (21, 1, .ireturn, 0, 0, 0, .null), (22, 1, .aload_n 0, 0, 0, 0, .null), (23, 3, .getfield 29, 10, 3, 396, .null), (26, 3, .getfield 94, 5, 0, 191, .null), 
  (29, 3, .ifCond .ne 6, 35, 0, 0, .null), (32, 2, .bipush (-3), 0, 0, 0, .int (-3)), (34, 1, .ireturn, 0, 0, 0, .null), (35, 1, .aload_n 0, 0, 0, 0, .null), 
  (36, 3, .getfield 29, 10, 3, 396, .null), (39, 3, .getfield 210, 5, 6, 202, .null), (42, 1, .iload_n 1, 1, 0, 0, .null), (43, 3, .invokevirtual 244, 0, 0, 0, .null), 
  (46, 1, .aload_n 0, 0, 0, 0, .null), (47, 3, .getfield 29, 10, 3, 396, .null), (50, 3, .getfield 203, 5, 1, 193, .null), (53, 3, .invokestatic 247, 0, 0, 0, .null), 
  (56, 3, .invokestatic 170, 0, 0, 0, .null), (59, 1, .ireturn, 0, 0, 0, .null)]
theorem okX11_stand : tX11_stand.all (okI yX11_stand.cls (decide (yX11_stand.name = "<init>")) cX11_stand) = true := by decide +kernel
def tX11_thumb : List CI := [
  (0, 1, .iload_n 1, 1, 0, 0, .null), (1, 3, .invokestatic 129, 0, 0, 0, .null), (4, 1, .istore_n 3, 3, 0, 0, .null), (5, 1, .iload_n 3, 3, 0, 0, .null), 
  (6, 3, .ifCond .eq 12, 18, 0, 0, .null), (9, 1, .iload_n 2, 2, 0, 0, .null), (10, 3, .ifCond .lt 8, 18, 0, 0, .null), (13, 1, .iload_n 2, 2, 0, 0, .null), 
  (14, 1, .iconst 2, 0, 0, 0, .int 2), (15, 3, .if_icmp .le 6, 21, 0, 0, .null), (18, 2, .bipush (-2), 0, 0, 0, .int (-2)), (20, 1, .ireturn, 0, 0, 0, .null), 
  (21, 1, .aload_n 0, 0, 0, 0, .null), (22, 3, .getfield 69, 10, 9, 402, .null), (25, 1, .aload_n 0, 0, 0, 0, .null), (26, 3, .getfield 19, 10, 1, 394, .null), 
  (29, 1, .iload_n 1, 1, 0, 0, .null), (30, 3, .invokestatic 124, 0, 0, 0, .null), (33, 1, .iload_n 3, 3, 0, 0, .null), (34, 1, .iload_n 2, 2, 0, 0, .null), 
  (35, 3, .invokevirtual 250, 0, 0, 0, .null), (38, 1, .ireturn, 0, 0, 0, .null)]
theorem okX11_thumb : tX11_thumb.all (okI yX11_thumb.cls (decide (yX11_thumb.name = "<init>")) cX11_thumb) = true := by decide +kernel
def tX11_sorts : List CI := [
  (0, 1, .iload_n 1, 1, 0, 0, .null), (1, 1, .iconst 1, 0, 0, 0, .int 1), (2, 3, .if_icmp .lt 17, 19, 0, 0, .null), (5, 1, .iload_n 1, 1, 0, 0, .null), 
  (6, 1, .iconst 5, 0, 0, 0, .int 5), (7, 3, .if_icmp .gt 12, 19, 0, 0, .null), (10, 1, .iload_n 2, 2, 0, 0, .null), (11, 3, .ifCond .lt 8, 19, 0, 0, .null), 
  (14, 1, .iload_n 2, 2, 0, 0, .null), (15, 1, .iconst 2, 0, 0, 0, .int 2), (16, 3, .if_icmp .le 6, 22, 0, 0, .null), (19, 2, .bipush (-2), 0, 0, 0, .int (-2)), 
  (21, 1, .ireturn, 0, 0, 0, .null), (22, 1, .iload_n 1, 1, 0, 0, .null), (23, 3, .invokestatic 163, 0, 0, 0, .null), (26, 1, .istore_n 3, 3, 0, 0, .null), 
  (27, 1, .iconst 0, 0, 0, 0, .int 0), (28, 2, .istore 4, 4, 0, 0, .null), (30, 1, .iconst 0, 0, 0, 0, .int 0), (31, 2, .istore 5, 5, 0, 0, .null), 
  (33, 2, .iload 5, 5, 0, 0, .null), (35, 1, .iload_n 3, 3, 0, 0, .null), (36, 3, .if_icmp .ge 35, 71, 0, 0, .null), (39, 1, .aload_n 0, 0, 0, 0, .null), 
  (40, 3, .getfield 69, 10, 9, 402, .null), (43, 1, .aload_n 0, 0, 0, 0, .null), (44, 3, .getfield 19, 10, 1, 394, .null), (47, 2, .iload 5, 5, 0, 0, .null), 
  (49, 1, .iload_n 1, 1, 0, 0, .null), (50, 3, .invokestatic 166, 0, 0, 0, .null), (53, 1, .iload_n 1, 1, 0, 0, .null), (54, 1, .iload_n 2, 2, 0, 0, .null), 
  (55, 3, .invokevirtual 250, 0, 0, 0, .null), (58, 1, .iload_n 1, 1, 0, 0, .null), (59, 3, .if_icmp .ne 6, 65, 0, 0, .null), (62, 3, .iinc 4 1, 4, 0, 0, .int 1), 
  (65, 3, .iinc 5 1, 5, 0, 0, .int 1), (68, 3, .goto (-35), 33, 0, 0, .null), (71, 2, .iload 4, 4, 0, 0, .null), (73, 1, .ireturn, 0, 0, 0, .null)]
theorem okX11_sorts : tX11_sorts.all (okI yX11_sorts.cls (decide (yX11_sorts.name = "<init>")) cX11_sorts) = true := by decide +kernel
def tX11_draw : List CI := [
  (0, 1, .iload_n 1, 1, 0, 0, .null), (1, 3, .ifCond .lt 20, 21, 0, 0, .null), (4, 1, .iload_n 1, 1, 0, 0, .null), (5, 3, .sipush 9999, 0, 0, 0, .int 9999), 
  (8, 3, .if_icmp .gt 13, 21, 0, 0, .null), (11, 1, .iload_n 2, 2, 0, 0, .null), (12, 1, .iconst 1, 0, 0, 0, .int 1), (13, 3, .if_icmp .lt 8, 21, 0, 0, .null), 
  (16, 1, .iload_n 2, 2, 0, 0, .null), (17, 1, .iconst 5, 0, 0, 0, .int 5), (18, 3, .if_icmp .le 6, 24, 0, 0, .null), (21, 2, .bipush (-2), 0, 0, 0, .int (-2)), 
  (23, 1, .ireturn, 0, 0, 0, .null), (24, 1, .iload_n 1, 1, 0, 0, .null), (25, 1, .istore_n 3, 3, 0, 0, .null), (26, 1, .iload_n 2, 2, 0, 0, .null), 
  (27, 3, .invokestatic 253, 0, 0, 0, .null), (30, 2, .istore 4, 4, 0, 0, .null), (32, 1, .iconst 0, 0, 0, 0, .int 0), (33, 2, .istore 5, 5, 0, 0, .null), 
  (35, 1, .iload_n 2, 2, 0, 0, .null), (36, 2, .istore 6, 6, 0, 0, .null), (38, 2, .iload 6, 6, 0, 0, .null), (40, 3, .ifCond .le 53, 93, 0, 0, .null), 
  (43, 1, .iload_n 3, 3, 0, 0, .null), (44, 2, .bipush 75, 0, 0, 0, .int 75), (46, 1, .imul, 0, 0, 0, .null), (47, 2, .bipush 74, 0, 0, 0, .int 74), 
  (49, 1, .iadd, 0, 0, 0, .null), (50, 3, .ldc_w 256, 0, 0, 830, .int 65537), (53, 1, .irem, 0, 0, 0, .null), (54, 1, .istore_n 3, 3, 0, 0, .null), 
  (55, 2, .iload 4, 4, 0, 0, .null), (57, 1, .iload_n 3, 3, 0, 0, .null), (58, 2, .iload 6, 6, 0, 0, .null), (60, 1, .irem, 0, 0, 0, .null), 
  (61, 3, .invokestatic 257, 0, 0, 0, .null), (64, 2, .istore 7, 7, 0, 0, .null), (66, 2, .iload 4, 4, 0, 0, .null), (68, 1, .iconst 1, 0, 0, 0, .int 1), 
  (69, 2, .iload 7, 7, 0, 0, .null), (71, 1, .ishl, 0, 0, 0, .null), (72, 1, .iconst (-1), 0, 0, 0, .int (-1)), (73, 1, .ixor, 0, 0, 0, .null), (74, 1, .iand, 0, 0, 0, .null), 
  (75, 2, .istore 4, 4, 0, 0, .null), (77, 2, .iload 5, 5, 0, 0, .null), (79, 2, .bipush 10, 0, 0, 0, .int 10), (81, 1, .imul, 0, 0, 0, .null), (82, 2, .iload 7, 7, 0, 0, .null), 
  (84, 1, .iadd, 0, 0, 0, .null), (85, 2, .istore 5, 5, 0, 0, .null), (87, 3, .iinc 6 (-1), 6, 0, 0, .int (-1)), (90, 3, .goto (-52), 38, 0, 0, .null), 
  (93, 2, .iload 5, 5, 0, 0, .null), (95, 1, .ireturn, 0, 0, 0, .null)]
theorem okX11_draw : tX11_draw.all (okI yX11_draw.cls (decide (yX11_draw.name = "<init>")) cX11_draw) = true := by decide +kernel
def tX11_image : List CI := [
  (0, 1, .iload_n 1, 1, 0, 0, .null), (1, 3, .ifCond .lt 8, 9, 0, 0, .null), (4, 1, .iload_n 1, 1, 0, 0, .null), (5, 1, .iconst 1, 0, 0, 0, .int 1), 
  (6, 3, .if_icmp .le 6, 12, 0, 0, .null), (9, 2, .bipush (-2), 0, 0, 0, .int (-2)), (11, 1, .ireturn, 0, 0, 0, .null), (12, 1, .aload_n 0, 0, 0, 0, .null), 
  (13, 1, .iload_n 1, 1, 0, 0, .null), (14, 3, .invokevirtual 260, 0, 0, 0, .null), (17, 1, .astore_n 2, 2, 0, 0, .null), (18, 1, .aload_n 2, 2, 0, 0, .null), 
  (19, 1, .iconst 1, 0, 0, 0, .int 1), (20, 3, .putfield 264, 0, 0, 225, .long 0), (23, 1, .aload_n 2, 2, 0, 0, .null), (24, 3, .getfield 267, 0, 1, 227, .null), 
  (27, 1, .aload_n 0, 0, 0, 0, .null), (28, 3, .getfield 19, 10, 1, 394, .null), (31, 3, .invokevirtual 83, 0, 0, 0, .null), (34, 1, .aload_n 2, 2, 0, 0, .null), 
  (35, 3, .getfield 268, 0, 2, 229, .null), (38, 1, .aload_n 0, 0, 0, 0, .null), (39, 3, .getfield 23, 10, 2, 395, .null), (42, 3, .invokevirtual 83, 0, 0, 0, .null), 
  (45, 1, .aload_n 2, 2, 0, 0, .null), (46, 3, .getfield 269, 0, 3, 231, .null), (49, 1, .aload_n 0, 0, 0, 0, .null), (50, 3, .getfield 29, 10, 3, 396, .null), 
  (53, 3, .invokevirtual 270, 0, 0, 0, .null), (56, 1, .iconst 1, 0, 0, 0, .int 1), (57, 1, .ireturn, 0, 0, 0, .null)]
theorem okX11_image : tX11_image.all (okI yX11_image.cls (decide (yX11_image.name = "<init>")) cX11_image) = true := by decide +kernel
def tX11_restore : List CI := [
  (0, 1, .iload_n 1, 1, 0, 0, .null), (1, 3, .ifCond .lt 8, 9, 0, 0, .null), (4, 1, .iload_n 1, 1, 0, 0, .null), (5, 1, .iconst 1, 0, 0, 0, .int 1), 
  (6, 3, .if_icmp .le 6, 12, 0, 0, .null), (9, 2, .bipush (-2), 0, 0, 0, .int (-2)), (11, 1, .ireturn, 0, 0, 0, .null), (12, 1, .aload_n 0, 0, 0, 0, .null), 
  (13, 1, .iload_n 1, 1, 0, 0, .null), (14, 3, .invokevirtual 260, 0, 0, 0, .null), (17, 1, .astore_n 2, 2, 0, 0, .null), (18, 1, .aload_n 2, 2, 0, 0, .null), 
  (19, 3, .getfield 264, 0, 0, 225, .null), (22, 3, .ifCond .ne 6, 28, 0, 0, .null), (25, 2, .bipush (-3), 0, 0, 0, .int (-3)), (27, 1, .ireturn, 0, 0, 0, .null), 
  (28, 1, .aload_n 0, 0, 0, 0, .null), (29, 3, .getfield 19, 10, 1, 394, .null), (32, 1, .aload_n 2, 2, 0, 0, .null), (33, 3, .getfield 267, 0, 1, 227, .null), 
  (36, 3, .invokevirtual 83, 0, 0, 0, .null), (39, 1, .aload_n 0, 0, 0, 0, .null), (40, 3, .getfield 23, 10, 2, 395, .null), (43, 1, .aload_n 2, 2, 0, 0, .null), 
  (44, 3, .getfield 268, 0, 2, 229, .null), (47, 3, .invokevirtual 83, 0, 0, 0, .null), (50, 1, .aload_n 0, 0, 0, 0, .null), (51, 3, .getfield 29, 10, 3, 396, .null), 
  (54, 1, .aload_n 2, 2, 0, 0, .null), (55, 3, .getfield 269, 0, 3, 231, .null), (58, 3, .invokevirtual 270, 0, 0, 0, .null), (61, 1, .aload_n 0, 0, 0, 0, .null), 
  (62, 3, .invokevirtual 98, 0, 0, 0, .null), (65, 1, .iconst 1, 0, 0, 0, .int 1), (66, 1, .ireturn, 0, 0, 0, .null)]
theorem okX11_restore : tX11_restore.all (okI yX11_restore.cls (decide (yX11_restore.name = "<init>")) cX11_restore) = true := by decide +kernel
def tX11_told : List CI := [
  (0, 1, .iload_n 1, 1, 0, 0, .null), (1, 35, .tableswitch 90 0 4 #[35, 43, 51, 59, 82], 0, 0, 0, .null), (36, 1, .aload_n 0, 0, 0, 0, .null), 
  (37, 3, .getfield 12, 10, 0, 393, .null), (40, 3, .getfield 86, 3, 1, 105, .null), (43, 1, .ireturn, 0, 0, 0, .null), (44, 1, .aload_n 0, 0, 0, 0, .null), 
  (45, 3, .getfield 19, 10, 1, 394, .null), (48, 3, .getfield 101, 9, 0, 136, .null), (51, 1, .ireturn, 0, 0, 0, .null), (52, 1, .aload_n 0, 0, 0, 0, .null), 
  (53, 3, .getfield 19, 10, 1, 394, .null), (56, 3, .getfield 273, 9, 1, 140, .null), (59, 1, .ireturn, 0, 0, 0, .null), (60, 1, .aload_n 0, 0, 0, 0, .null), 
  (61, 3, .getfield 29, 10, 3, 396, .null), (64, 3, .getfield 94, 5, 0, 191, .null), (67, 3, .ifCond .eq 13, 80, 0, 0, .null), (70, 1, .aload_n 0, 0, 0, 0, .null), 
  (71, 3, .getfield 29, 10, 3, 396, .null), (74, 3, .getfield 221, 5, 4, 199, .null), (77, 3, .goto 5, 82, 0, 0, .null), (80, 2, .bipush (-6), 0, 0, 0, .int (-6)), 
  (82, 1, .ireturn, 0, 0, 0, .null), (83, 1, .aload_n 0, 0, 0, 0, .null), (84, 3, .getfield 23, 10, 2, 395, .null), (87, 3, .getfield 101, 9, 0, 136, .null), 
  (90, 1, .ireturn, 0, 0, 0, .null), (91, 2, .bipush (-2), 0, 0, 0, .int (-2)), (93, 1, .ireturn, 0, 0, 0, .null)]
theorem okX11_told : tX11_told.all (okI yX11_told.cls (decide (yX11_told.name = "<init>")) cX11_told) = true := by decide +kernel
def tX11_forgetFindings : List CI := [
  (0, 1, .aload_n 0, 0, 0, 0, .null), (1, 3, .getfield 55, 10, 7, 400, .null), (4, 3, .invokevirtual 276, 0, 0, 0, .null), (7, 1, .aload_n 0, 0, 0, 0, .null), 
  (8, 3, .getfield 62, 10, 8, 401, .null), (11, 1, .iconst 0, 0, 0, 0, .int 0), (12, 3, .putfield 183, 1, 0, 290, .int 0), (15, 1, .return_, 0, 0, 0, .null)]
theorem okX11_forgetFindings : tX11_forgetFindings.all (okI yX11_forgetFindings.cls (decide (yX11_forgetFindings.name = "<init>")) cX11_forgetFindings) = true := by decide +kernel
def tX11_isMissing : List CI := [
  (0, 1, .iload_n 1, 1, 0, 0, .null), (1, 1, .aload_n 0, 0, 0, 0, .null), (2, 3, .getfield 19, 10, 1, 394, .null), (5, 3, .getfield 101, 9, 0, 136, .null), 
  (8, 3, .if_icmp .le 12, 20, 0, 0, .null), (11, 1, .iload_n 1, 1, 0, 0, .null), (12, 1, .iconst 4, 0, 0, 0, .int 4), (13, 3, .if_icmp .gt 7, 20, 0, 0, .null), 
  (16, 1, .iconst 1, 0, 0, 0, .int 1), (17, 3, .goto 4, 21, 0, 0, .null), (20, 1, .iconst 0, 0, 0, 0, .int 0), (21, 1, .ireturn, 0, 0, 0, .null)]
theorem okX11_isMissing : tX11_isMissing.all (okI yX11_isMissing.cls (decide (yX11_isMissing.name = "<init>")) cX11_isMissing) = true := by decide +kernel
def tX11_arePair : List CI := [
  (0, 1, .iload_n 0, 0, 0, 0, .null), (1, 3, .invokestatic 129, 0, 0, 0, .null), (4, 1, .istore_n 2, 2, 0, 0, .null), (5, 1, .iload_n 2, 2, 0, 0, .null), 
  (6, 3, .ifCond .le 15, 21, 0, 0, .null), (9, 1, .iload_n 1, 1, 0, 0, .null), (10, 3, .invokestatic 129, 0, 0, 0, .null), (13, 1, .iload_n 2, 2, 0, 0, .null), 
  (14, 3, .if_icmp .ne 7, 21, 0, 0, .null), (17, 1, .iconst 1, 0, 0, 0, .int 1), (18, 3, .goto 4, 22, 0, 0, .null), (21, 1, .iconst 0, 0, 0, 0, .int 0), 
  (22, 1, .ireturn, 0, 0, 0, .null)]
theorem okX11_arePair : tX11_arePair.all (okI yX11_arePair.cls (decide (yX11_arePair.name = "<init>")) cX11_arePair) = true := by decide +kernel
def tX11_leastOf : List CI := [
  (0, 1, .aload_n 0, 0, 0, 0, .null), (1, 3, .getfield 46, 10, 6, 399, .null), (4, 1, .aload_n 1, 1, 0, 0, .null), (5, 2, .iload 4, 4, 0, 0, .null), 
  (7, 3, .invokevirtual 138, 0, 0, 0, .null), (10, 1, .aload_n 1, 1, 0, 0, .null), (11, 3, .getfield 142, 9, 8, 153, .null), (14, 1, .iload_n 2, 2, 0, 0, .null), 
  (15, 1, .iload_n 3, 3, 0, 0, .null), (16, 2, .iload 4, 4, 0, 0, .null), (18, 3, .invokestatic 146, 0, 0, 0, .null), (21, 2, .iload 4, 4, 0, 0, .null), 
  (23, 3, .invokevirtual 279, 0, 0, 0, .null), (26, 1, .ireturn, 0, 0, 0, .null)]
theorem okX11_leastOf : tX11_leastOf.all (okI yX11_leastOf.cls (decide (yX11_leastOf.name = "<init>")) cX11_leastOf) = true := by decide +kernel
def tX11_leastSorted : List CI := [
  (0, 1, .aload_n 0, 0, 0, 0, .null), (1, 1, .aload_n 1, 1, 0, 0, .null), (2, 1, .iload_n 2, 2, 0, 0, .null), (3, 1, .iload_n 3, 3, 0, 0, .null), 
  (4, 3, .invokestatic 186, 0, 0, 0, .null), (7, 1, .iload_n 3, 3, 0, 0, .null), (8, 3, .invokevirtual 132, 0, 0, 0, .null), (11, 1, .ireturn, 0, 0, 0, .null)]
theorem okX11_leastSorted : tX11_leastSorted.all (okI yX11_leastSorted.cls (decide (yX11_leastSorted.name = "<init>")) cX11_leastSorted) = true := by decide +kernel
def tX11_aimAtPlay : List CI := [
  (0, 1, .aload_n 0, 0, 0, 0, .null), (1, 3, .getfield 55, 10, 7, 400, .null), (4, 1, .aload_n 0, 0, 0, 0, .null), (5, 3, .getfield 19, 10, 1, 394, .null), 
  (8, 1, .aload_n 0, 0, 0, 0, .null), (9, 3, .getfield 29, 10, 3, 396, .null), (12, 3, .getfield 281, 5, 3, 197, .null), (15, 1, .aload_n 0, 0, 0, 0, .null), 
  (16, 3, .getfield 29, 10, 3, 396, .null), (19, 3, .getfield 203, 5, 1, 193, .null), (22, 1, .aload_n 0, 0, 0, 0, .null), (23, 3, .getfield 29, 10, 3, 396, .null), 
  (26, 3, .getfield 204, 5, 2, 195, .null), (29, 1, .aload_n 0, 0, 0, 0, .null), (30, 3, .getfield 29, 10, 3, 396, .null), (33, 3, .getfield 281, 5, 3, 197, .null), 
  (36, 3, .invokestatic 146, 0, 0, 0, .null), (39, 3, .invokevirtual 156, 0, 0, 0, .null), (42, 1, .return_, 0, 0, 0, .null)]
theorem okX11_aimAtPlay : tX11_aimAtPlay.all (okI yX11_aimAtPlay.cls (decide (yX11_aimAtPlay.name = "<init>")) cX11_aimAtPlay) = true := by decide +kernel
def tX11_imageAt : List CI := [
  (0, 1, .iload_n 1, 1, 0, 0, .null), (1, 3, .ifCond .ne 10, 11, 0, 0, .null), (4, 1, .aload_n 0, 0, 0, 0, .null), (5, 3, .getfield 36, 10, 4, 397, .null), 
  (8, 3, .goto 7, 15, 0, 0, .null), (11, 1, .aload_n 0, 0, 0, 0, .null), (12, 3, .getfield 40, 10, 5, 398, .null), (15, 1, .areturn, 0, 0, 0, .null)]
theorem okX11_imageAt : tX11_imageAt.all (okI yX11_imageAt.cls (decide (yX11_imageAt.name = "<init>")) cX11_imageAt) = true := by decide +kernel
def tX11_inLowestTerms : List CI := [
  (0, 1, .iload_n 0, 0, 0, 0, .null), (1, 1, .istore_n 3, 3, 0, 0, .null), (2, 1, .iload_n 1, 1, 0, 0, .null), (3, 2, .istore 4, 4, 0, 0, .null), 
  (5, 1, .iconst 0, 0, 0, 0, .int 0), (6, 2, .istore 5, 5, 0, 0, .null), (8, 2, .iload 5, 5, 0, 0, .null), (10, 2, .bipush 64, 0, 0, 0, .int 64), 
  (12, 3, .if_icmp .ge 27, 39, 0, 0, .null), (15, 2, .iload 4, 4, 0, 0, .null), (17, 3, .ifCond .le 22, 39, 0, 0, .null), (20, 1, .iload_n 3, 3, 0, 0, .null), 
  (21, 2, .iload 4, 4, 0, 0, .null), (23, 1, .irem, 0, 0, 0, .null), (24, 2, .istore 6, 6, 0, 0, .null), (26, 2, .iload 4, 4, 0, 0, .null), (28, 1, .istore_n 3, 3, 0, 0, .null), 
  (29, 2, .iload 6, 6, 0, 0, .null), (31, 2, .istore 4, 4, 0, 0, .null), (33, 3, .iinc 5 1, 5, 0, 0, .int 1), (36, 3, .goto (-28), 8, 0, 0, .null), 
  (39, 1, .iload_n 3, 3, 0, 0, .null), (40, 1, .iconst 1, 0, 0, 0, .int 1), (41, 3, .if_icmp .lt 8, 49, 0, 0, .null), (44, 1, .iload_n 1, 1, 0, 0, .null), 
  (45, 1, .iconst 1, 0, 0, 0, .int 1), (46, 3, .if_icmp .ge 6, 52, 0, 0, .null), (49, 1, .iload_n 2, 2, 0, 0, .null), (50, 1, .i2l, 0, 0, 0, .null), 
  (51, 1, .lreturn, 0, 0, 0, .null), (52, 1, .iload_n 2, 2, 0, 0, .null), (53, 3, .ifCond .ne 10, 63, 0, 0, .null), (56, 1, .iload_n 0, 0, 0, 0, .null), 
  (57, 1, .iload_n 3, 3, 0, 0, .null), (58, 1, .idiv, 0, 0, 0, .null), (59, 1, .i2l, 0, 0, 0, .null), (60, 3, .goto 7, 67, 0, 0, .null), (63, 1, .iload_n 1, 1, 0, 0, .null), 
  (64, 1, .iload_n 3, 3, 0, 0, .null), (65, 1, .idiv, 0, 0, 0, .null), (66, 1, .i2l, 0, 0, 0, .null), (67, 1, .lreturn, 0, 0, 0, .null)]
theorem okX11_inLowestTerms : tX11_inLowestTerms.all (okI yX11_inLowestTerms.cls (decide (yX11_inLowestTerms.name = "<init>")) cX11_inLowestTerms) = true := by decide +kernel
def tX11_copyInts : List CI := [
  (0, 1, .aload_n 0, 0, 0, 0, .null), (1, 1, .iconst 0, 0, 0, 0, .int 0), (2, 1, .aload_n 1, 1, 0, 0, .null), (3, 1, .iconst 0, 0, 0, 0, .int 0), 
  (4, 1, .aload_n 0, 0, 0, 0, .null), (5, 1, .arraylength, 0, 0, 0, .null), (6, 1, .aload_n 1, 1, 0, 0, .null), (7, 1, .arraylength, 0, 0, 0, .null), 
  (8, 3, .invokestatic 283, 0, 0, 0, .null), (11, 3, .invokestatic 288, 0, 0, 0, .null), (14, 1, .return_, 0, 0, 0, .null)]
theorem okX11_copyInts : tX11_copyInts.all (okI yX11_copyInts.cls (decide (yX11_copyInts.name = "<init>")) cX11_copyInts) = true := by decide +kernel
def tX12_init : List CI := [
  (0, 1, .aload_n 0, 0, 0, 0, .null), (1, 3, .invokespecial 1, 0, 0, 0, .null), (4, 1, .aload_n 0, 0, 0, 0, .null), (5, 1, .iconst 4, 0, 0, 0, .int 4), 
  (6, 2, .newarray .int, 0, 0, 0, .null), (8, 3, .putfield 7, 11, 0, 860, .null), (11, 1, .aload_n 0, 0, 0, 0, .null), (12, 1, .iconst 4, 0, 0, 0, .int 4), 
  (13, 2, .newarray .int, 0, 0, 0, .null), (15, 3, .putfield 13, 11, 1, 861, .null), (18, 1, .aload_n 0, 0, 0, 0, .null), (19, 1, .iconst 4, 0, 0, 0, .int 4), 
  (20, 2, .newarray .int, 0, 0, 0, .null), (22, 3, .putfield 16, 11, 2, 862, .null), (25, 1, .aload_n 0, 0, 0, 0, .null), (26, 1, .iconst 3, 0, 0, 0, .int 3), 
  (27, 2, .newarray .int, 0, 0, 0, .null), (29, 3, .putfield 19, 11, 3, 863, .null), (32, 1, .aload_n 0, 0, 0, 0, .null), (33, 1, .iconst 4, 0, 0, 0, .int 4), 
  (34, 2, .newarray .int, 0, 0, 0, .null), (36, 3, .putfield 22, 11, 6, 866, .null), (39, 1, .aload_n 0, 0, 0, 0, .null), (40, 1, .iconst 4, 0, 0, 0, .int 4), 
  (41, 2, .newarray .int, 0, 0, 0, .null), (43, 3, .putfield 25, 11, 7, 867, .null), (46, 1, .aload_n 0, 0, 0, 0, .null), (47, 1, .iconst 4, 0, 0, 0, .int 4), 
  (48, 2, .newarray .int, 0, 0, 0, .null), (50, 3, .putfield 28, 11, 8, 868, .null), (53, 1, .aload_n 0, 0, 0, 0, .null), (54, 1, .iconst 3, 0, 0, 0, .int 3), 
  (55, 2, .newarray .int, 0, 0, 0, .null), (57, 3, .putfield 31, 11, 9, 869, .null), (60, 1, .aload_n 0, 0, 0, 0, .null), (61, 2, .bipush 16, 0, 0, 0, .int 16), 
  (63, 2, .newarray .int, 0, 0, 0, .null), (65, 3, .putfield 34, 11, 12, 872, .null), (68, 1, .aload_n 0, 0, 0, 0, .null), (69, 2, .bipush 25, 0, 0, 0, .int 25), 
  (71, 2, .newarray .int, 0, 0, 0, .null), (73, 3, .putfield 37, 11, 14, 874, .null), (76, 1, .aload_n 0, 0, 0, 0, .null), (77, 1, .iconst 5, 0, 0, 0, .int 5), 
  (78, 2, .newarray .int, 0, 0, 0, .null), (80, 3, .putfield 40, 11, 15, 875, .null), (83, 1, .aload_n 0, 0, 0, 0, .null), (84, 2, .ldc 43, 0, 0, 858, .int 65536), 
  (86, 2, .newarray .int, 0, 0, 0, .null), (88, 3, .putfield 44, 11, 17, 877, .null), (91, 1, .aload_n 0, 0, 0, 0, .null), (92, 2, .ldc 43, 0, 0, 858, .int 65536), 
  (94, 2, .newarray .int, 0, 0, 0, .null), (96, 3, .putfield 47, 11, 18, 878, .null), (99, 1, .aload_n 0, 0, 0, 0, .null), (100, 2, .ldc 43, 0, 0, 858, .int 65536), 
  (102, 2, .newarray .int, 0, 0, 0, .null), (104, 3, .putfield 50, 11, 19, 879, .null), (107, 1, .aload_n 0, 0, 0, 0, .null), (108, 2, .ldc 43, 0, 0, 858, .int 65536), 
  (110, 2, .newarray .long, 0, 0, 0, .null), (112, 3, .putfield 53, 11, 20, 880, .null), (115, 1, .aload_n 0, 0, 0, 0, .null), (116, 2, .ldc 57, 0, 0, 859, .int 32768), 
  (118, 2, .newarray .int, 0, 0, 0, .null), (120, 3, .putfield 58, 11, 21, 881, .null), (123, 1, .aload_n 0, 0, 0, 0, .null), (124, 1, .iconst 5, 0, 0, 0, .int 5), 
  (125, 2, .newarray .int, 0, 0, 0, .null), (127, 3, .putfield 61, 11, 24, 884, .null), (130, 1, .aload_n 0, 0, 0, 0, .null), (131, 3, .sipush 720, 0, 0, 0, .int 720), 
  (134, 2, .newarray .int, 0, 0, 0, .null), (136, 3, .putfield 64, 11, 26, 886, .null), (139, 1, .aload_n 0, 0, 0, 0, .null), (140, 3, .sipush 720, 0, 0, 0, .int 720), 
  (143, 2, .newarray .long, 0, 0, 0, .null), (145, 3, .putfield 67, 11, 27, 887, .null), (148, 1, .aload_n 0, 0, 0, 0, .null), (149, 2, .bipush 6, 0, 0, 0, .int 6), 
  (151, 2, .newarray .boolean, 0, 0, 0, .null), (153, 3, .putfield 70, 11, 28, 888, .null), (156, 1, .aload_n 0, 0, 0, 0, .null), (157, 1, .iconst 5, 0, 0, 0, .int 5), 
  (158, 2, .newarray .int, 0, 0, 0, .null), (160, 3, .putfield 74, 11, 29, 889, .null), (163, 1, .aload_n 0, 0, 0, 0, .null), (164, 1, .iconst 5, 0, 0, 0, .int 5), 
  (165, 2, .newarray .int, 0, 0, 0, .null), (167, 3, .putfield 77, 11, 30, 890, .null), (170, 1, .aload_n 0, 0, 0, 0, .null), (171, 2, .bipush 120, 0, 0, 0, .int 120), 
  (173, 2, .newarray .int, 0, 0, 0, .null), (175, 3, .putfield 80, 11, 31, 891, .null), (178, 1, .aload_n 0, 0, 0, 0, .null), (179, 1, .iconst 4, 0, 0, 0, .int 4), 
  (180, 2, .newarray .int, 0, 0, 0, .null), (182, 3, .putfield 83, 11, 32, 892, .null), (185, 1, .aload_n 0, 0, 0, 0, .null), (186, 1, .iconst 4, 0, 0, 0, .int 4), 
  (187, 2, .newarray .int, 0, 0, 0, .null), (189, 3, .putfield 86, 11, 33, 893, .null), (192, 1, .aload_n 0, 0, 0, 0, .null), (193, 2, .bipush 120, 0, 0, 0, .int 120), 
  (195, 2, .newarray .boolean, 0, 0, 0, .null), (197, 3, .putfield 89, 11, 34, 894, .null), (200, 1, .aload_n 0, 0, 0, 0, .null), (201, 2, .bipush 41, 0, 0, 0, .int 41), 
  (203, 2, .newarray .int, 0, 0, 0, .null), (205, 3, .putfield 92, 11, 38, 898, .null), (208, 1, .aload_n 0, 0, 0, 0, .null), (209, 3, .sipush 200, 0, 0, 0, .int 200), 
  (212, 2, .newarray .int, 0, 0, 0, .null), (214, 3, .putfield 95, 11, 40, 900, .null), (217, 1, .aload_n 0, 0, 0, 0, .null), (218, 1, .iconst 2, 0, 0, 0, .int 2), 
  (219, 2, .newarray .boolean, 0, 0, 0, .null), (221, 3, .putfield 98, 11, 41, 901, .null), (224, 1, .aload_n 0, 0, 0, 0, .null), (225, 1, .iconst 1, 0, 0, 0, .int 1), 
  (226, 3, .putfield 101, 11, 4, 864, .int 0), (229, 1, .aload_n 0, 0, 0, 0, .null), (230, 1, .iconst 1, 0, 0, 0, .int 1), (231, 3, .putfield 105, 11, 5, 865, .int 0), 
  (234, 1, .aload_n 0, 0, 0, 0, .null), (235, 3, .getfield 7, 11, 0, 860, .null), (238, 1, .iconst 0, 0, 0, 0, .int 0), (239, 2, .bipush 115, 0, 0, 0, .int 115), 
  (241, 1, .iastore, 0, 0, 0, .null), (242, 1, .aload_n 0, 0, 0, 0, .null), (243, 3, .getfield 13, 11, 1, 861, .null), (246, 1, .iconst 0, 0, 0, 0, .int 0), 
  (247, 1, .iconst 5, 0, 0, 0, .int 5), (248, 1, .iastore, 0, 0, 0, .null), (249, 1, .aload_n 0, 0, 0, 0, .null), (250, 1, .iconst 1, 0, 0, 0, .int 1), 
  (251, 3, .putfield 108, 11, 10, 870, .int 0), (254, 1, .aload_n 0, 0, 0, 0, .null), (255, 1, .iconst 1, 0, 0, 0, .int 1), (256, 3, .putfield 111, 11, 11, 871, .int 0), 
  (259, 1, .aload_n 0, 0, 0, 0, .null), (260, 3, .getfield 22, 11, 6, 866, .null), (263, 1, .iconst 0, 0, 0, 0, .int 0), (264, 2, .bipush 115, 0, 0, 0, .int 115), 
  (266, 1, .iastore, 0, 0, 0, .null), (267, 1, .aload_n 0, 0, 0, 0, .null), (268, 3, .getfield 25, 11, 7, 867, .null), (271, 1, .iconst 0, 0, 0, 0, .int 0), 
  (272, 1, .iconst 5, 0, 0, 0, .int 5), (273, 1, .iastore, 0, 0, 0, .null), (274, 1, .aload_n 0, 0, 0, 0, .null), (275, 1, .iconst 0, 0, 0, 0, .int 0), 
  (276, 3, .putfield 114, 11, 37, 897, .int 0), (279, 1, .return_, 0, 0, 0, .null)]
theorem okX12_init : tX12_init.all (okI yX12_init.cls (decide (yX12_init.name = "<init>")) cX12_init) = true := by decide +kernel
def tX12_in : List CI := [
  (0, 1, .lload_n 0, 0, 0, 0, .null), (1, 1, .lload_n 2, 2, 0, 0, .null), (2, 1, .lcmp, 0, 0, 0, .null), (3, 3, .ifCond .lt 14, 17, 0, 0, .null), 
  (6, 1, .lload_n 0, 0, 0, 0, .null), (7, 2, .lload 4, 4, 0, 0, .null), (9, 1, .lcmp, 0, 0, 0, .null), (10, 3, .ifCond .gt 7, 17, 0, 0, .null), 
  (13, 1, .iconst 1, 0, 0, 0, .int 1), (14, 3, .goto 4, 18, 0, 0, .null), (17, 1, .iconst 0, 0, 0, 0, .int 0), (18, 1, .ireturn, 0, 0, 0, .null)]
theorem okX12_in : tX12_in.all (okI yX12_in.cls (decide (yX12_in.name = "<init>")) cX12_in) = true := by decide +kernel
def tX12_lowest : List CI := [
  (0, 1, .lload_n 2, 2, 0, 0, .null), (1, 1, .lconst 0, 0, 0, 0, .long 0), (2, 1, .lcmp, 0, 0, 0, .null), (3, 3, .ifCond .ne 7, 10, 0, 0, .null), (6, 2, .iload 4, 4, 0, 0, .null), 
  (8, 1, .i2l, 0, 0, 0, .null), (9, 1, .lreturn, 0, 0, 0, .null), (10, 1, .lload_n 0, 0, 0, 0, .null), (11, 2, .lstore 5, 5, 0, 0, .null), (13, 1, .lload_n 2, 2, 0, 0, .null), 
  (14, 2, .lstore 7, 7, 0, 0, .null), (16, 2, .lload 7, 7, 0, 0, .null), (18, 1, .lconst 0, 0, 0, 0, .long 0), (19, 1, .lcmp, 0, 0, 0, .null), 
  (20, 3, .ifCond .eq 21, 41, 0, 0, .null), (23, 2, .lload 5, 5, 0, 0, .null), (25, 2, .lload 7, 7, 0, 0, .null), (27, 1, .lrem, 0, 0, 0, .null), 
  (28, 2, .lstore 9, 9, 0, 0, .null), (30, 2, .lload 7, 7, 0, 0, .null), (32, 2, .lstore 5, 5, 0, 0, .null), (34, 2, .lload 9, 9, 0, 0, .null), (36, 2, .lstore 7, 7, 0, 0, .null), 
  (38, 3, .goto (-22), 16, 0, 0, .null), (41, 2, .iload 4, 4, 0, 0, .null), (43, 3, .ifCond .ne 10, 53, 0, 0, .null), (46, 1, .lload_n 0, 0, 0, 0, .null), 
  (47, 2, .lload 5, 5, 0, 0, .null), (49, 1, .ldiv, 0, 0, 0, .null), (50, 3, .goto 7, 57, 0, 0, .null), (53, 1, .lload_n 2, 2, 0, 0, .null), (54, 2, .lload 5, 5, 0, 0, .null), 
  (56, 1, .ldiv, 0, 0, 0, .null), (57, 1, .lreturn, 0, 0, 0, .null)]
theorem okX12_lowest : tX12_lowest.all (okI yX12_lowest.cls (decide (yX12_lowest.name = "<init>")) cX12_lowest) = true := by decide +kernel
def tX12_say : List CI := [
  (0, 1, .iload_n 1, 1, 0, 0, .null), (1, 1, .i2l, 0, 0, 0, .null), (2, 3, .ldc2_w 117, 0, 0, 998, .long 33), (5, 3, .ldc2_w 119, 0, 0, 999, .long 126), 
  (8, 3, .invokestatic 121, 0, 0, 0, .null), (11, 3, .ifCond .ne 6, 17, 0, 0, .null), (14, 2, .bipush (-2), 0, 0, 0, .int (-2)), (16, 1, .ireturn, 0, 0, 0, .null), 
  (17, 1, .aload_n 0, 0, 0, 0, .null), (18, 3, .getfield 125, 11, 13, 873, .null), (21, 2, .bipush 16, 0, 0, 0, .int 16), (23, 3, .if_icmp .ne 6, 29, 0, 0, .null), 
  (26, 2, .bipush (-4), 0, 0, 0, .int (-4)), (28, 1, .ireturn, 0, 0, 0, .null), (29, 1, .aload_n 0, 0, 0, 0, .null), (30, 3, .getfield 34, 11, 12, 872, .null), 
  (33, 1, .aload_n 0, 0, 0, 0, .null), (34, 3, .getfield 125, 11, 13, 873, .null), (37, 1, .iload_n 1, 1, 0, 0, .null), (38, 1, .iastore, 0, 0, 0, .null), 
  (39, 1, .aload_n 0, 0, 0, 0, .null), (40, 1, .dup, 0, 0, 0, .null), (41, 3, .getfield 125, 11, 13, 873, .null), (44, 1, .iconst 1, 0, 0, 0, .int 1), 
  (45, 1, .iadd, 0, 0, 0, .null), (46, 3, .putfield 125, 11, 13, 873, .int 0), (49, 1, .aload_n 0, 0, 0, 0, .null), (50, 3, .getfield 125, 11, 13, 873, .null), 
  (53, 1, .ireturn, 0, 0, 0, .null)]
theorem okX12_say : tX12_say.all (okI yX12_say.cls (decide (yX12_say.name = "<init>")) cX12_say) = true := by decide +kernel
def tX12_wipe : List CI := [
  (0, 1, .aload_n 0, 0, 0, 0, .null), (1, 3, .getfield 125, 11, 13, 873, .null), (4, 1, .istore_n 1, 1, 0, 0, .null), (5, 1, .aload_n 0, 0, 0, 0, .null), 
  (6, 1, .iconst 0, 0, 0, 0, .int 0), (7, 3, .putfield 125, 11, 13, 873, .int 0), (10, 1, .iload_n 1, 1, 0, 0, .null), (11, 1, .ireturn, 0, 0, 0, .null)]
theorem okX12_wipe : tX12_wipe.all (okI yX12_wipe.cls (decide (yX12_wipe.name = "<init>")) cX12_wipe) = true := by decide +kernel
def tX12_isLetter : List CI := [
  (0, 1, .iload_n 0, 0, 0, 0, .null), (1, 2, .bipush 115, 0, 0, 0, .int 115), (3, 3, .if_icmp .eq 15, 18, 0, 0, .null), (6, 1, .iload_n 0, 0, 0, 0, .null), 
  (7, 2, .bipush 113, 0, 0, 0, .int 113), (9, 3, .if_icmp .eq 9, 18, 0, 0, .null), (12, 1, .iload_n 0, 0, 0, 0, .null), (13, 2, .bipush 100, 0, 0, 0, .int 100), 
  (15, 3, .if_icmp .ne 7, 22, 0, 0, .null), (18, 1, .iconst 1, 0, 0, 0, .int 1), (19, 3, .goto 4, 23, 0, 0, .null), (22, 1, .iconst 0, 0, 0, 0, .int 0), 
  (23, 1, .ireturn, 0, 0, 0, .null)]
theorem okX12_isLetter : tX12_isLetter.all (okI yX12_isLetter.cls (decide (yX12_isLetter.name = "<init>")) cX12_isLetter) = true := by decide +kernel
def tX12_fault : List CI := [
  (0, 1, .iconst 0, 0, 0, 0, .int 0), (1, 1, .istore_n 1, 1, 0, 0, .null), (2, 1, .iconst 0, 0, 0, 0, .int 0), (3, 1, .istore_n 2, 2, 0, 0, .null), 
  (4, 1, .iconst 0, 0, 0, 0, .int 0), (5, 1, .istore_n 3, 3, 0, 0, .null), (6, 1, .iconst 0, 0, 0, 0, .int 0), (7, 2, .istore 4, 4, 0, 0, .null), 
  (9, 1, .iconst 0, 0, 0, 0, .int 0), (10, 2, .istore 5, 5, 0, 0, .null), (12, 2, .iload 5, 5, 0, 0, .null), (14, 1, .aload_n 0, 0, 0, 0, .null), 
  (15, 3, .getfield 125, 11, 13, 873, .null), (18, 3, .if_icmp .ge 118, 136, 0, 0, .null), (21, 1, .aload_n 0, 0, 0, 0, .null), (22, 3, .getfield 34, 11, 12, 872, .null), 
  (25, 2, .iload 5, 5, 0, 0, .null), (27, 1, .iaload, 0, 0, 0, .null), (28, 2, .istore 6, 6, 0, 0, .null), (30, 1, .iload_n 1, 1, 0, 0, .null), 
  (31, 1, .iconst 2, 0, 0, 0, .int 2), (32, 3, .if_icmp .ne 26, 58, 0, 0, .null), (35, 2, .iload 6, 6, 0, 0, .null), (37, 1, .i2l, 0, 0, 0, .null), 
  (38, 3, .ldc2_w 128, 0, 0, 1011, .long 49), (41, 3, .ldc2_w 130, 0, 0, 1012, .long 53), (44, 3, .invokestatic 121, 0, 0, 0, .null), (47, 3, .ifCond .ne 6, 53, 0, 0, .null), 
  (50, 2, .iload 5, 5, 0, 0, .null), (52, 1, .ireturn, 0, 0, 0, .null), (53, 1, .iconst 1, 0, 0, 0, .int 1), (54, 1, .istore_n 1, 1, 0, 0, .null), 
  (55, 3, .goto 75, 130, 0, 0, .null), (58, 2, .iload 6, 6, 0, 0, .null), (60, 3, .invokestatic 132, 0, 0, 0, .null), (63, 3, .ifCond .eq 16, 79, 0, 0, .null), 
  (66, 1, .iload_n 2, 2, 0, 0, .null), (67, 1, .iconst 4, 0, 0, 0, .int 4), (68, 3, .if_icmp .ge 11, 79, 0, 0, .null), (71, 3, .iinc 2 1, 2, 0, 0, .int 1), 
  (74, 1, .iconst 2, 0, 0, 0, .int 2), (75, 1, .istore_n 1, 1, 0, 0, .null), (76, 3, .goto 54, 130, 0, 0, .null), (79, 2, .iload 6, 6, 0, 0, .null), 
  (81, 2, .bipush 45, 0, 0, 0, .int 45), (83, 3, .if_icmp .ne 16, 99, 0, 0, .null), (86, 2, .iload 4, 4, 0, 0, .null), (88, 3, .ifCond .ne 11, 99, 0, 0, .null), 
  (91, 1, .iconst 1, 0, 0, 0, .int 1), (92, 2, .istore 4, 4, 0, 0, .null), (94, 1, .iconst 1, 0, 0, 0, .int 1), (95, 1, .istore_n 1, 1, 0, 0, .null), 
  (96, 3, .goto 34, 130, 0, 0, .null), (99, 2, .iload 6, 6, 0, 0, .null), (101, 2, .bipush 59, 0, 0, 0, .int 59), (103, 3, .if_icmp .ne 24, 127, 0, 0, .null), 
  (106, 1, .iload_n 1, 1, 0, 0, .null), (107, 1, .iconst 1, 0, 0, 0, .int 1), (108, 3, .if_icmp .ne 19, 127, 0, 0, .null), (111, 1, .iload_n 3, 3, 0, 0, .null), 
  (112, 1, .iconst 2, 0, 0, 0, .int 2), (113, 3, .if_icmp .ge 14, 127, 0, 0, .null), (116, 3, .iinc 3 1, 3, 0, 0, .int 1), (119, 1, .iconst 0, 0, 0, 0, .int 0), 
  (120, 2, .istore 4, 4, 0, 0, .null), (122, 1, .iconst 0, 0, 0, 0, .int 0), (123, 1, .istore_n 1, 1, 0, 0, .null), (124, 3, .goto 6, 130, 0, 0, .null), 
  (127, 2, .iload 5, 5, 0, 0, .null), (129, 1, .ireturn, 0, 0, 0, .null), (130, 3, .iinc 5 1, 5, 0, 0, .int 1), (133, 3, .goto (-121), 12, 0, 0, .null), 
  (136, 1, .iload_n 1, 1, 0, 0, .null), (137, 1, .iconst 1, 0, 0, 0, .int 1), (138, 3, .if_icmp .ne 12, 150, 0, 0, .null), (141, 1, .iload_n 2, 2, 0, 0, .null), 
  (142, 3, .ifCond .le 8, 150, 0, 0, .null), (145, 2, .bipush (-6), 0, 0, 0, .int (-6)), (147, 3, .goto 7, 154, 0, 0, .null), (150, 1, .aload_n 0, 0, 0, 0, .null), 
  (151, 3, .getfield 125, 11, 13, 873, .null), (154, 1, .ireturn, 0, 0, 0, .null)]
theorem okX12_fault : tX12_fault.all (okI yX12_fault.cls (decide (yX12_fault.name = "<init>")) cX12_fault) = true := by decide +kernel
def tX12_yard : List CI := [
  (0, 1, .aload_n 0, 0, 0, 0, .null), (1, 3, .invokevirtual 136, 0, 0, 0, .null), (4, 3, .ifCond .lt 6, 10, 0, 0, .null), (7, 2, .bipush (-5), 0, 0, 0, .int (-5)), 
  (9, 1, .ireturn, 0, 0, 0, .null), (10, 1, .aload_n 0, 0, 0, 0, .null), (11, 1, .iconst 0, 0, 0, 0, .int 0), (12, 3, .putfield 101, 11, 4, 864, .int 0), 
  (15, 1, .aload_n 0, 0, 0, 0, .null), (16, 1, .iconst 1, 0, 0, 0, .int 1), (17, 3, .putfield 105, 11, 5, 865, .int 0), (20, 1, .aload_n 0, 0, 0, 0, .null), 
  (21, 3, .getfield 19, 11, 3, 863, .null), (24, 1, .iconst 0, 0, 0, 0, .int 0), (25, 1, .iconst 0, 0, 0, 0, .int 0), (26, 1, .iastore, 0, 0, 0, .null), 
  (27, 1, .iconst 0, 0, 0, 0, .int 0), (28, 1, .istore_n 1, 1, 0, 0, .null), (29, 1, .iload_n 1, 1, 0, 0, .null), (30, 1, .aload_n 0, 0, 0, 0, .null), 
  (31, 3, .getfield 125, 11, 13, 873, .null), (34, 3, .if_icmp .ge 126, 160, 0, 0, .null), (37, 1, .aload_n 0, 0, 0, 0, .null), (38, 3, .getfield 34, 11, 12, 872, .null), 
  (41, 1, .iload_n 1, 1, 0, 0, .null), (42, 1, .iaload, 0, 0, 0, .null), (43, 1, .istore_n 2, 2, 0, 0, .null), (44, 1, .iload_n 2, 2, 0, 0, .null), 
  (45, 3, .invokestatic 132, 0, 0, 0, .null), (48, 3, .ifCond .eq 41, 89, 0, 0, .null), (51, 1, .aload_n 0, 0, 0, 0, .null), (52, 3, .getfield 7, 11, 0, 860, .null), 
  (55, 1, .aload_n 0, 0, 0, 0, .null), (56, 3, .getfield 101, 11, 4, 864, .null), (59, 1, .iload_n 2, 2, 0, 0, .null), (60, 1, .iastore, 0, 0, 0, .null), 
  (61, 1, .aload_n 0, 0, 0, 0, .null), (62, 3, .getfield 16, 11, 2, 862, .null), (65, 1, .aload_n 0, 0, 0, 0, .null), (66, 3, .getfield 101, 11, 4, 864, .null), 
  (69, 1, .aload_n 0, 0, 0, 0, .null), (70, 3, .getfield 105, 11, 5, 865, .null), (73, 1, .iconst 1, 0, 0, 0, .int 1), (74, 1, .isub, 0, 0, 0, .null), 
  (75, 1, .iastore, 0, 0, 0, .null), (76, 1, .aload_n 0, 0, 0, 0, .null), (77, 1, .dup, 0, 0, 0, .null), (78, 3, .getfield 101, 11, 4, 864, .null), 
  (81, 1, .iconst 1, 0, 0, 0, .int 1), (82, 1, .iadd, 0, 0, 0, .null), (83, 3, .putfield 101, 11, 4, 864, .int 0), (86, 3, .goto 68, 154, 0, 0, .null), 
  (89, 1, .iload_n 2, 2, 0, 0, .null), (90, 2, .bipush 45, 0, 0, 0, .int 45), (92, 3, .if_icmp .ne 18, 110, 0, 0, .null), (95, 1, .aload_n 0, 0, 0, 0, .null), 
  (96, 3, .getfield 19, 11, 3, 863, .null), (99, 1, .aload_n 0, 0, 0, 0, .null), (100, 3, .getfield 105, 11, 5, 865, .null), (103, 1, .iconst 1, 0, 0, 0, .int 1), 
  (104, 1, .isub, 0, 0, 0, .null), (105, 1, .iconst 1, 0, 0, 0, .int 1), (106, 1, .iastore, 0, 0, 0, .null), (107, 3, .goto 47, 154, 0, 0, .null), 
  (110, 1, .iload_n 2, 2, 0, 0, .null), (111, 2, .bipush 59, 0, 0, 0, .int 59), (113, 3, .if_icmp .ne 26, 139, 0, 0, .null), (116, 1, .aload_n 0, 0, 0, 0, .null), 
  (117, 3, .getfield 19, 11, 3, 863, .null), (120, 1, .aload_n 0, 0, 0, 0, .null), (121, 3, .getfield 105, 11, 5, 865, .null), (124, 1, .iconst 0, 0, 0, 0, .int 0), 
  (125, 1, .iastore, 0, 0, 0, .null), (126, 1, .aload_n 0, 0, 0, 0, .null), (127, 1, .dup, 0, 0, 0, .null), (128, 3, .getfield 105, 11, 5, 865, .null), 
  (131, 1, .iconst 1, 0, 0, 0, .int 1), (132, 1, .iadd, 0, 0, 0, .null), (133, 3, .putfield 105, 11, 5, 865, .int 0), (136, 3, .goto 18, 154, 0, 0, .null), 
  (139, 1, .aload_n 0, 0, 0, 0, .null), (140, 3, .getfield 13, 11, 1, 861, .null), (143, 1, .aload_n 0, 0, 0, 0, .null), (144, 3, .getfield 101, 11, 4, 864, .null), 
  (147, 1, .iconst 1, 0, 0, 0, .int 1), (148, 1, .isub, 0, 0, 0, .null), (149, 1, .iload_n 2, 2, 0, 0, .null), (150, 2, .bipush 48, 0, 0, 0, .int 48), 
  (152, 1, .isub, 0, 0, 0, .null), (153, 1, .iastore, 0, 0, 0, .null), (154, 3, .iinc 1 1, 1, 0, 0, .int 1), (157, 3, .goto (-128), 29, 0, 0, .null), 
  (160, 1, .aload_n 0, 0, 0, 0, .null), (161, 1, .iconst 0, 0, 0, 0, .int 0), (162, 3, .putfield 125, 11, 13, 873, .int 0), (165, 1, .aload_n 0, 0, 0, 0, .null), 
  (166, 1, .iconst 0, 0, 0, 0, .int 0), (167, 3, .putfield 114, 11, 37, 897, .int 0), (170, 1, .aload_n 0, 0, 0, 0, .null), (171, 3, .invokevirtual 140, 0, 0, 0, .null), 
  (174, 1, .aload_n 0, 0, 0, 0, .null), (175, 3, .getfield 101, 11, 4, 864, .null), (178, 1, .ireturn, 0, 0, 0, .null)]
theorem okX12_yard : tX12_yard.all (okI yX12_yard.cls (decide (yX12_yard.name = "<init>")) cX12_yard) = true := by decide +kernel
def tX12_isSiding : List CI := [
  (0, 1, .iload_n 1, 1, 0, 0, .null), (1, 1, .i2l, 0, 0, 0, .null), (2, 1, .lconst 0, 0, 0, 0, .long 0), (3, 1, .aload_n 0, 0, 0, 0, .null), 
  (4, 3, .getfield 101, 11, 4, 864, .null), (7, 1, .iconst 1, 0, 0, 0, .int 1), (8, 1, .isub, 0, 0, 0, .null), (9, 1, .i2l, 0, 0, 0, .null), 
  (10, 3, .invokestatic 121, 0, 0, 0, .null), (13, 1, .ireturn, 0, 0, 0, .null)]
theorem okX12_isSiding : tX12_isSiding.all (okI yX12_isSiding.cls (decide (yX12_isSiding.name = "<init>")) cX12_isSiding) = true := by decide +kernel
def tX12_siding : List CI := [
  (0, 1, .aload_n 0, 0, 0, 0, .null), (1, 1, .iload_n 1, 1, 0, 0, .null), (2, 3, .invokevirtual 143, 0, 0, 0, .null), (5, 3, .ifCond .ne 5, 10, 0, 0, .null), 
  (8, 1, .iconst (-1), 0, 0, 0, .int (-1)), (9, 1, .ireturn, 0, 0, 0, .null), (10, 1, .iload_n 2, 2, 0, 0, .null), (11, 25, .tableswitch 46 0 2 #[25, 32, 39], 0, 0, 0, .null), 
  (36, 1, .aload_n 0, 0, 0, 0, .null), (37, 3, .getfield 7, 11, 0, 860, .null), (40, 1, .iload_n 1, 1, 0, 0, .null), (41, 1, .iaload, 0, 0, 0, .null), 
  (42, 1, .ireturn, 0, 0, 0, .null), (43, 1, .aload_n 0, 0, 0, 0, .null), (44, 3, .getfield 13, 11, 1, 861, .null), (47, 1, .iload_n 1, 1, 0, 0, .null), 
  (48, 1, .iaload, 0, 0, 0, .null), (49, 1, .ireturn, 0, 0, 0, .null), (50, 1, .aload_n 0, 0, 0, 0, .null), (51, 3, .getfield 16, 11, 2, 862, .null), 
  (54, 1, .iload_n 1, 1, 0, 0, .null), (55, 1, .iaload, 0, 0, 0, .null), (56, 1, .ireturn, 0, 0, 0, .null), (57, 2, .bipush (-2), 0, 0, 0, .int (-2)), 
  (59, 1, .ireturn, 0, 0, 0, .null)]
theorem okX12_siding : tX12_siding.all (okI yX12_siding.cls (decide (yX12_siding.name = "<init>")) cX12_siding) = true := by decide +kernel
def tX12_goes : List CI := [
  (0, 1, .iload_n 1, 1, 0, 0, .null), (1, 3, .ifCond .ne 7, 8, 0, 0, .null), (4, 1, .iconst 0, 0, 0, 0, .int 0), (5, 3, .goto 13, 18, 0, 0, .null), 
  (8, 1, .aload_n 0, 0, 0, 0, .null), (9, 3, .getfield 16, 11, 2, 862, .null), (12, 1, .iload_n 1, 1, 0, 0, .null), (13, 1, .iconst 1, 0, 0, 0, .int 1), 
  (14, 1, .isub, 0, 0, 0, .null), (15, 1, .iaload, 0, 0, 0, .null), (16, 1, .iconst 1, 0, 0, 0, .int 1), (17, 1, .iadd, 0, 0, 0, .null), (18, 1, .istore_n 3, 3, 0, 0, .null), 
  (19, 1, .iload_n 2, 2, 0, 0, .null), (20, 1, .iconst 5, 0, 0, 0, .int 5), (21, 3, .if_icmp .ne 10, 31, 0, 0, .null), (24, 1, .aload_n 0, 0, 0, 0, .null), 
  (25, 3, .getfield 105, 11, 5, 865, .null), (28, 3, .goto 11, 39, 0, 0, .null), (31, 1, .aload_n 0, 0, 0, 0, .null), (32, 3, .getfield 16, 11, 2, 862, .null), 
  (35, 1, .iload_n 2, 2, 0, 0, .null), (36, 1, .iconst 1, 0, 0, 0, .int 1), (37, 1, .isub, 0, 0, 0, .null), (38, 1, .iaload, 0, 0, 0, .null), (39, 2, .istore 4, 4, 0, 0, .null), 
  (41, 1, .iload_n 3, 3, 0, 0, .null), (42, 2, .iload 4, 4, 0, 0, .null), (44, 3, .if_icmp .gt 7, 51, 0, 0, .null), (47, 1, .iconst 1, 0, 0, 0, .int 1), 
  (48, 3, .goto 4, 52, 0, 0, .null), (51, 1, .iconst 0, 0, 0, 0, .int 0), (52, 2, .istore 5, 5, 0, 0, .null), (54, 1, .iload_n 3, 3, 0, 0, .null), 
  (55, 2, .istore 6, 6, 0, 0, .null), (57, 2, .iload 6, 6, 0, 0, .null), (59, 2, .iload 4, 4, 0, 0, .null), (61, 3, .if_icmp .ge 32, 93, 0, 0, .null), 
  (64, 2, .iload 5, 5, 0, 0, .null), (66, 3, .ifCond .eq 27, 93, 0, 0, .null), (69, 1, .aload_n 0, 0, 0, 0, .null), (70, 3, .getfield 19, 11, 3, 863, .null), 
  (73, 2, .iload 6, 6, 0, 0, .null), (75, 1, .iaload, 0, 0, 0, .null), (76, 1, .iconst 1, 0, 0, 0, .int 1), (77, 3, .if_icmp .ne 7, 84, 0, 0, .null), 
  (80, 1, .iconst 1, 0, 0, 0, .int 1), (81, 3, .goto 4, 85, 0, 0, .null), (84, 1, .iconst 0, 0, 0, 0, .int 0), (85, 2, .istore 5, 5, 0, 0, .null), 
  (87, 3, .iinc 6 1, 6, 0, 0, .int 1), (90, 3, .goto (-33), 57, 0, 0, .null), (93, 2, .iload 5, 5, 0, 0, .null), (95, 1, .ireturn, 0, 0, 0, .null)]
theorem okX12_goes : tX12_goes.all (okI yX12_goes.cls (decide (yX12_goes.name = "<init>")) cX12_goes) = true := by decide +kernel
def tX12_leads : List CI := [
  (0, 1, .iload_n 1, 1, 0, 0, .null), (1, 1, .i2l, 0, 0, 0, .null), (2, 1, .lconst 1, 0, 0, 0, .long 1), (3, 3, .ldc2_w 146, 0, 0, 1035, .long 4), 
  (6, 3, .invokestatic 121, 0, 0, 0, .null), (9, 3, .ifCond .eq 13, 22, 0, 0, .null), (12, 1, .aload_n 0, 0, 0, 0, .null), (13, 1, .iload_n 1, 1, 0, 0, .null), 
  (14, 1, .iconst 1, 0, 0, 0, .int 1), (15, 1, .isub, 0, 0, 0, .null), (16, 3, .invokevirtual 143, 0, 0, 0, .null), (19, 3, .ifCond .eq 25, 44, 0, 0, .null), 
  (22, 1, .iload_n 2, 2, 0, 0, .null), (23, 1, .i2l, 0, 0, 0, .null), (24, 1, .lconst 1, 0, 0, 0, .long 1), (25, 3, .ldc2_w 146, 0, 0, 1035, .long 4), 
  (28, 3, .invokestatic 121, 0, 0, 0, .null), (31, 3, .ifCond .eq 15, 46, 0, 0, .null), (34, 1, .aload_n 0, 0, 0, 0, .null), (35, 1, .iload_n 2, 2, 0, 0, .null), 
  (36, 1, .iconst 1, 0, 0, 0, .int 1), (37, 1, .isub, 0, 0, 0, .null), (38, 3, .invokevirtual 143, 0, 0, 0, .null), (41, 3, .ifCond .ne 5, 46, 0, 0, .null), 
  (44, 1, .iconst (-1), 0, 0, 0, .int (-1)), (45, 1, .ireturn, 0, 0, 0, .null), (46, 1, .iload_n 1, 1, 0, 0, .null), (47, 1, .i2l, 0, 0, 0, .null), 
  (48, 1, .lconst 0, 0, 0, 0, .long 0), (49, 3, .ldc2_w 146, 0, 0, 1035, .long 4), (52, 3, .invokestatic 121, 0, 0, 0, .null), (55, 3, .ifCond .eq 15, 70, 0, 0, .null), 
  (58, 1, .iload_n 2, 2, 0, 0, .null), (59, 1, .i2l, 0, 0, 0, .null), (60, 1, .lconst 1, 0, 0, 0, .long 1), (61, 3, .ldc2_w 148, 0, 0, 1036, .long 5), 
  (64, 3, .invokestatic 121, 0, 0, 0, .null), (67, 3, .ifCond .ne 6, 73, 0, 0, .null), (70, 2, .bipush (-2), 0, 0, 0, .int (-2)), (72, 1, .ireturn, 0, 0, 0, .null), 
  (73, 1, .aload_n 0, 0, 0, 0, .null), (74, 1, .iload_n 1, 1, 0, 0, .null), (75, 1, .iload_n 2, 2, 0, 0, .null), (76, 3, .invokevirtual 150, 0, 0, 0, .null), 
  (79, 3, .ifCond .eq 7, 86, 0, 0, .null), (82, 1, .iconst 1, 0, 0, 0, .int 1), (83, 3, .goto 4, 87, 0, 0, .null), (86, 1, .iconst 0, 0, 0, 0, .int 0), 
  (87, 1, .ireturn, 0, 0, 0, .null)]
theorem okX12_leads : tX12_leads.all (okI yX12_leads.cls (decide (yX12_leads.name = "<init>")) cX12_leads) = true := by decide +kernel
def tX12_decode : List CI := [
  (0, 1, .iconst 0, 0, 0, 0, .int 0), (1, 1, .istore_n 2, 2, 0, 0, .null), (2, 1, .iload_n 2, 2, 0, 0, .null), (3, 1, .iconst 5, 0, 0, 0, .int 5), 
  (4, 3, .if_icmp .ge 16, 20, 0, 0, .null), (7, 1, .aload_n 0, 0, 0, 0, .null), (8, 3, .getfield 40, 11, 15, 875, .null), (11, 1, .iload_n 2, 2, 0, 0, .null), 
  (12, 1, .iconst 0, 0, 0, 0, .int 0), (13, 1, .iastore, 0, 0, 0, .null), (14, 3, .iinc 2 1, 2, 0, 0, .int 1), (17, 3, .goto (-15), 2, 0, 0, .null), 
  (20, 1, .aload_n 0, 0, 0, 0, .null), (21, 1, .iconst 0, 0, 0, 0, .int 0), (22, 3, .putfield 154, 11, 16, 876, .int 0), (25, 1, .aload_n 0, 0, 0, 0, .null), 
  (26, 3, .getfield 101, 11, 4, 864, .null), (29, 1, .istore_n 2, 2, 0, 0, .null), (30, 1, .iload_n 1, 1, 0, 0, .null), (31, 1, .istore_n 3, 3, 0, 0, .null), 
  (32, 1, .iload_n 3, 3, 0, 0, .null), (33, 3, .ifCond .le 45, 78, 0, 0, .null), (36, 1, .iload_n 3, 3, 0, 0, .null), (37, 2, .bipush 6, 0, 0, 0, .int 6), 
  (39, 1, .irem, 0, 0, 0, .null), (40, 2, .istore 4, 4, 0, 0, .null), (42, 1, .iload_n 3, 3, 0, 0, .null), (43, 2, .bipush 6, 0, 0, 0, .int 6), (45, 1, .idiv, 0, 0, 0, .null), 
  (46, 1, .istore_n 3, 3, 0, 0, .null), (47, 2, .iload 4, 4, 0, 0, .null), (49, 3, .ifCond .ne 9, 58, 0, 0, .null), (52, 3, .iinc 2 (-1), 2, 0, 0, .int (-1)), 
  (55, 3, .goto 20, 75, 0, 0, .null), (58, 1, .aload_n 0, 0, 0, 0, .null), (59, 1, .iload_n 2, 2, 0, 0, .null), (60, 2, .iload 4, 4, 0, 0, .null), 
  (62, 3, .invokevirtual 157, 0, 0, 0, .null), (65, 1, .aload_n 0, 0, 0, 0, .null), (66, 1, .dup, 0, 0, 0, .null), (67, 3, .getfield 154, 11, 16, 876, .null), 
  (70, 1, .iconst 1, 0, 0, 0, .int 1), (71, 1, .iadd, 0, 0, 0, .null), (72, 3, .putfield 154, 11, 16, 876, .int 0), (75, 3, .goto (-43), 32, 0, 0, .null), 
  (78, 1, .return_, 0, 0, 0, .null)]
theorem okX12_decode : tX12_decode.all (okI yX12_decode.cls (decide (yX12_decode.name = "<init>")) cX12_decode) = true := by decide +kernel
def tX12_putNear : List CI := [
  (0, 1, .aload_n 0, 0, 0, 0, .null), (1, 3, .getfield 40, 11, 15, 875, .null), (4, 1, .iload_n 1, 1, 0, 0, .null), (5, 1, .iaload, 0, 0, 0, .null), 
  (6, 1, .istore_n 3, 3, 0, 0, .null), (7, 1, .iload_n 3, 3, 0, 0, .null), (8, 3, .ifCond .le 31, 39, 0, 0, .null), (11, 1, .aload_n 0, 0, 0, 0, .null), 
  (12, 3, .getfield 37, 11, 14, 874, .null), (15, 1, .iconst 5, 0, 0, 0, .int 5), (16, 1, .iload_n 1, 1, 0, 0, .null), (17, 1, .imul, 0, 0, 0, .null), 
  (18, 1, .iload_n 3, 3, 0, 0, .null), (19, 1, .iadd, 0, 0, 0, .null), (20, 1, .aload_n 0, 0, 0, 0, .null), (21, 3, .getfield 37, 11, 14, 874, .null), 
  (24, 1, .iconst 5, 0, 0, 0, .int 5), (25, 1, .iload_n 1, 1, 0, 0, .null), (26, 1, .imul, 0, 0, 0, .null), (27, 1, .iload_n 3, 3, 0, 0, .null), (28, 1, .iadd, 0, 0, 0, .null), 
  (29, 1, .iconst 1, 0, 0, 0, .int 1), (30, 1, .isub, 0, 0, 0, .null), (31, 1, .iaload, 0, 0, 0, .null), (32, 1, .iastore, 0, 0, 0, .null), 
  (33, 3, .iinc 3 (-1), 3, 0, 0, .int (-1)), (36, 3, .goto (-29), 7, 0, 0, .null), (39, 1, .aload_n 0, 0, 0, 0, .null), (40, 3, .getfield 37, 11, 14, 874, .null), 
  (43, 1, .iconst 5, 0, 0, 0, .int 5), (44, 1, .iload_n 1, 1, 0, 0, .null), (45, 1, .imul, 0, 0, 0, .null), (46, 1, .iload_n 2, 2, 0, 0, .null), (47, 1, .iastore, 0, 0, 0, .null), 
  (48, 1, .aload_n 0, 0, 0, 0, .null), (49, 3, .getfield 40, 11, 15, 875, .null), (52, 1, .iload_n 1, 1, 0, 0, .null), (53, 1, .dup2, 0, 0, 0, .null), 
  (54, 1, .iaload, 0, 0, 0, .null), (55, 1, .iconst 1, 0, 0, 0, .int 1), (56, 1, .iadd, 0, 0, 0, .null), (57, 1, .iastore, 0, 0, 0, .null), (58, 1, .return_, 0, 0, 0, .null)]
theorem okX12_putNear : tX12_putNear.all (okI yX12_putNear.cls (decide (yX12_putNear.name = "<init>")) cX12_putNear) = true := by decide +kernel
def tX12_putFar : List CI := [
  (0, 1, .aload_n 0, 0, 0, 0, .null), (1, 3, .getfield 37, 11, 14, 874, .null), (4, 1, .iconst 5, 0, 0, 0, .int 5), (5, 1, .iload_n 1, 1, 0, 0, .null), 
  (6, 1, .imul, 0, 0, 0, .null), (7, 1, .aload_n 0, 0, 0, 0, .null), (8, 3, .getfield 40, 11, 15, 875, .null), (11, 1, .iload_n 1, 1, 0, 0, .null), 
  (12, 1, .iaload, 0, 0, 0, .null), (13, 1, .iadd, 0, 0, 0, .null), (14, 1, .iload_n 2, 2, 0, 0, .null), (15, 1, .iastore, 0, 0, 0, .null), (16, 1, .aload_n 0, 0, 0, 0, .null), 
  (17, 3, .getfield 40, 11, 15, 875, .null), (20, 1, .iload_n 1, 1, 0, 0, .null), (21, 1, .dup2, 0, 0, 0, .null), (22, 1, .iaload, 0, 0, 0, .null), 
  (23, 1, .iconst 1, 0, 0, 0, .int 1), (24, 1, .iadd, 0, 0, 0, .null), (25, 1, .iastore, 0, 0, 0, .null), (26, 1, .return_, 0, 0, 0, .null)]
theorem okX12_putFar : tX12_putFar.all (okI yX12_putFar.cls (decide (yX12_putFar.name = "<init>")) cX12_putFar) = true := by decide +kernel
def tX12_encode : List CI := [
  (0, 1, .iconst 0, 0, 0, 0, .int 0), (1, 1, .istore_n 1, 1, 0, 0, .null), (2, 1, .iconst 0, 0, 0, 0, .int 0), (3, 1, .istore_n 2, 2, 0, 0, .null), 
  (4, 1, .iload_n 2, 2, 0, 0, .null), (5, 1, .aload_n 0, 0, 0, 0, .null), (6, 3, .getfield 101, 11, 4, 864, .null), (9, 3, .if_icmp .gt 56, 65, 0, 0, .null), 
  (12, 1, .iload_n 2, 2, 0, 0, .null), (13, 3, .ifCond .le 10, 23, 0, 0, .null), (16, 2, .bipush 6, 0, 0, 0, .int 6), (18, 1, .iload_n 1, 1, 0, 0, .null), 
  (19, 1, .imul, 0, 0, 0, .null), (20, 3, .goto 4, 24, 0, 0, .null), (23, 1, .iconst 0, 0, 0, 0, .int 0), (24, 1, .istore_n 1, 1, 0, 0, .null), 
  (25, 1, .iconst 0, 0, 0, 0, .int 0), (26, 1, .istore_n 3, 3, 0, 0, .null), (27, 1, .iload_n 3, 3, 0, 0, .null), (28, 1, .aload_n 0, 0, 0, 0, .null), 
  (29, 3, .getfield 40, 11, 15, 875, .null), (32, 1, .iload_n 2, 2, 0, 0, .null), (33, 1, .iaload, 0, 0, 0, .null), (34, 3, .if_icmp .ge 25, 59, 0, 0, .null), 
  (37, 2, .bipush 6, 0, 0, 0, .int 6), (39, 1, .iload_n 1, 1, 0, 0, .null), (40, 1, .imul, 0, 0, 0, .null), (41, 1, .aload_n 0, 0, 0, 0, .null), 
  (42, 3, .getfield 37, 11, 14, 874, .null), (45, 1, .iconst 5, 0, 0, 0, .int 5), (46, 1, .iload_n 2, 2, 0, 0, .null), (47, 1, .imul, 0, 0, 0, .null), 
  (48, 1, .iload_n 3, 3, 0, 0, .null), (49, 1, .iadd, 0, 0, 0, .null), (50, 1, .iaload, 0, 0, 0, .null), (51, 1, .iadd, 0, 0, 0, .null), (52, 1, .istore_n 1, 1, 0, 0, .null), 
  (53, 3, .iinc 3 1, 3, 0, 0, .int 1), (56, 3, .goto (-29), 27, 0, 0, .null), (59, 3, .iinc 2 1, 2, 0, 0, .int 1), (62, 3, .goto (-58), 4, 0, 0, .null), 
  (65, 1, .iload_n 1, 1, 0, 0, .null), (66, 1, .ireturn, 0, 0, 0, .null)]
theorem okX12_encode : tX12_encode.all (okI yX12_encode.cls (decide (yX12_encode.name = "<init>")) cX12_encode) = true := by decide +kernel
def tX12_takeNear : List CI := [
  (0, 1, .aload_n 0, 0, 0, 0, .null), (1, 3, .getfield 37, 11, 14, 874, .null), (4, 1, .iconst 5, 0, 0, 0, .int 5), (5, 1, .iload_n 1, 1, 0, 0, .null), 
  (6, 1, .imul, 0, 0, 0, .null), (7, 1, .iaload, 0, 0, 0, .null), (8, 1, .istore_n 2, 2, 0, 0, .null), (9, 1, .aload_n 0, 0, 0, 0, .null), 
  (10, 3, .getfield 40, 11, 15, 875, .null), (13, 1, .iload_n 1, 1, 0, 0, .null), (14, 1, .dup2, 0, 0, 0, .null), (15, 1, .iaload, 0, 0, 0, .null), 
  (16, 1, .iconst 1, 0, 0, 0, .int 1), (17, 1, .isub, 0, 0, 0, .null), (18, 1, .iastore, 0, 0, 0, .null), (19, 1, .iconst 0, 0, 0, 0, .int 0), 
  (20, 1, .istore_n 3, 3, 0, 0, .null), (21, 1, .iload_n 3, 3, 0, 0, .null), (22, 1, .aload_n 0, 0, 0, 0, .null), (23, 3, .getfield 40, 11, 15, 875, .null), 
  (26, 1, .iload_n 1, 1, 0, 0, .null), (27, 1, .iaload, 0, 0, 0, .null), (28, 3, .if_icmp .ge 31, 59, 0, 0, .null), (31, 1, .aload_n 0, 0, 0, 0, .null), 
  (32, 3, .getfield 37, 11, 14, 874, .null), (35, 1, .iconst 5, 0, 0, 0, .int 5), (36, 1, .iload_n 1, 1, 0, 0, .null), (37, 1, .imul, 0, 0, 0, .null), 
  (38, 1, .iload_n 3, 3, 0, 0, .null), (39, 1, .iadd, 0, 0, 0, .null), (40, 1, .aload_n 0, 0, 0, 0, .null), (41, 3, .getfield 37, 11, 14, 874, .null), 
  (44, 1, .iconst 5, 0, 0, 0, .int 5), (45, 1, .iload_n 1, 1, 0, 0, .null), (46, 1, .imul, 0, 0, 0, .null), (47, 1, .iload_n 3, 3, 0, 0, .null), (48, 1, .iadd, 0, 0, 0, .null), 
  (49, 1, .iconst 1, 0, 0, 0, .int 1), (50, 1, .iadd, 0, 0, 0, .null), (51, 1, .iaload, 0, 0, 0, .null), (52, 1, .iastore, 0, 0, 0, .null), (53, 3, .iinc 3 1, 3, 0, 0, .int 1), 
  (56, 3, .goto (-35), 21, 0, 0, .null), (59, 1, .iload_n 2, 2, 0, 0, .null), (60, 1, .ireturn, 0, 0, 0, .null)]
theorem okX12_takeNear : tX12_takeNear.all (okI yX12_takeNear.cls (decide (yX12_takeNear.name = "<init>")) cX12_takeNear) = true := by decide +kernel
def tX12_takeFar : List CI := [
  (0, 1, .aload_n 0, 0, 0, 0, .null), (1, 3, .getfield 40, 11, 15, 875, .null), (4, 1, .iload_n 1, 1, 0, 0, .null), (5, 1, .dup2, 0, 0, 0, .null), (6, 1, .iaload, 0, 0, 0, .null), 
  (7, 1, .iconst 1, 0, 0, 0, .int 1), (8, 1, .isub, 0, 0, 0, .null), (9, 1, .iastore, 0, 0, 0, .null), (10, 1, .aload_n 0, 0, 0, 0, .null), 
  (11, 3, .getfield 37, 11, 14, 874, .null), (14, 1, .iconst 5, 0, 0, 0, .int 5), (15, 1, .iload_n 1, 1, 0, 0, .null), (16, 1, .imul, 0, 0, 0, .null), 
  (17, 1, .aload_n 0, 0, 0, 0, .null), (18, 3, .getfield 40, 11, 15, 875, .null), (21, 1, .iload_n 1, 1, 0, 0, .null), (22, 1, .iaload, 0, 0, 0, .null), 
  (23, 1, .iadd, 0, 0, 0, .null), (24, 1, .iaload, 0, 0, 0, .null), (25, 1, .ireturn, 0, 0, 0, .null)]
theorem okX12_takeFar : tX12_takeFar.all (okI yX12_takeFar.cls (decide (yX12_takeFar.name = "<init>")) cX12_takeFar) = true := by decide +kernel
def tX12_canMove : List CI := [
  (0, 1, .iload_n 1, 1, 0, 0, .null), (1, 3, .ifCond .ne 24, 25, 0, 0, .null), (4, 1, .iload_n 2, 2, 0, 0, .null), (5, 3, .ifCond .ne 16, 21, 0, 0, .null), 
  (8, 1, .aload_n 0, 0, 0, 0, .null), (9, 3, .getfield 154, 11, 16, 876, .null), (12, 2, .iload 5, 5, 0, 0, .null), (14, 3, .if_icmp .ge 7, 21, 0, 0, .null), 
  (17, 1, .iconst 1, 0, 0, 0, .int 1), (18, 3, .goto 34, 52, 0, 0, .null), (21, 1, .iconst 0, 0, 0, 0, .int 0), (22, 3, .goto 30, 52, 0, 0, .null), 
  (25, 1, .aload_n 0, 0, 0, 0, .null), (26, 3, .getfield 40, 11, 15, 875, .null), (29, 1, .iload_n 1, 1, 0, 0, .null), (30, 1, .iconst 1, 0, 0, 0, .int 1), 
  (31, 1, .isub, 0, 0, 0, .null), (32, 1, .iaload, 0, 0, 0, .null), (33, 3, .ifCond .le 18, 51, 0, 0, .null), (36, 1, .aload_n 0, 0, 0, 0, .null), 
  (37, 1, .iload_n 1, 1, 0, 0, .null), (38, 1, .iconst 1, 0, 0, 0, .int 1), (39, 1, .isub, 0, 0, 0, .null), (40, 1, .iload_n 2, 2, 0, 0, .null), 
  (41, 3, .invokevirtual 161, 0, 0, 0, .null), (44, 3, .ifCond .eq 7, 51, 0, 0, .null), (47, 1, .iconst 1, 0, 0, 0, .int 1), (48, 3, .goto 4, 52, 0, 0, .null), 
  (51, 1, .iconst 0, 0, 0, 0, .int 0), (52, 2, .istore 6, 6, 0, 0, .null), (54, 1, .iload_n 3, 3, 0, 0, .null), (55, 1, .iconst 5, 0, 0, 0, .int 5), 
  (56, 3, .if_icmp .ne 16, 72, 0, 0, .null), (59, 2, .iload 4, 4, 0, 0, .null), (61, 3, .ifCond .ne 7, 68, 0, 0, .null), (64, 1, .iconst 1, 0, 0, 0, .int 1), 
  (65, 3, .goto 43, 108, 0, 0, .null), (68, 1, .iconst 0, 0, 0, 0, .int 0), (69, 3, .goto 39, 108, 0, 0, .null), (72, 1, .aload_n 0, 0, 0, 0, .null), 
  (73, 3, .getfield 40, 11, 15, 875, .null), (76, 1, .iload_n 3, 3, 0, 0, .null), (77, 1, .iconst 1, 0, 0, 0, .int 1), (78, 1, .isub, 0, 0, 0, .null), 
  (79, 1, .iaload, 0, 0, 0, .null), (80, 1, .aload_n 0, 0, 0, 0, .null), (81, 3, .getfield 13, 11, 1, 861, .null), (84, 1, .iload_n 3, 3, 0, 0, .null), 
  (85, 1, .iconst 1, 0, 0, 0, .int 1), (86, 1, .isub, 0, 0, 0, .null), (87, 1, .iaload, 0, 0, 0, .null), (88, 3, .if_icmp .ge 19, 107, 0, 0, .null), 
  (91, 1, .aload_n 0, 0, 0, 0, .null), (92, 1, .iload_n 3, 3, 0, 0, .null), (93, 1, .iconst 1, 0, 0, 0, .int 1), (94, 1, .isub, 0, 0, 0, .null), (95, 2, .iload 4, 4, 0, 0, .null), 
  (97, 3, .invokevirtual 164, 0, 0, 0, .null), (100, 3, .ifCond .eq 7, 107, 0, 0, .null), (103, 1, .iconst 1, 0, 0, 0, .int 1), (104, 3, .goto 4, 108, 0, 0, .null), 
  (107, 1, .iconst 0, 0, 0, 0, .int 0), (108, 2, .istore 7, 7, 0, 0, .null), (110, 2, .iload 6, 6, 0, 0, .null), (112, 3, .ifCond .eq 21, 133, 0, 0, .null), 
  (115, 2, .iload 7, 7, 0, 0, .null), (117, 3, .ifCond .eq 16, 133, 0, 0, .null), (120, 1, .aload_n 0, 0, 0, 0, .null), (121, 1, .iload_n 1, 1, 0, 0, .null), 
  (122, 1, .iload_n 3, 3, 0, 0, .null), (123, 3, .invokevirtual 150, 0, 0, 0, .null), (126, 3, .ifCond .eq 7, 133, 0, 0, .null), (129, 1, .iconst 1, 0, 0, 0, .int 1), 
  (130, 3, .goto 4, 134, 0, 0, .null), (133, 1, .iconst 0, 0, 0, 0, .int 0), (134, 1, .ireturn, 0, 0, 0, .null)]
theorem okX12_canMove : tX12_canMove.all (okI yX12_canMove.cls (decide (yX12_canMove.name = "<init>")) cX12_canMove) = true := by decide +kernel
def tX12_isOut : List CI := [
  (0, 1, .aload_n 0, 0, 0, 0, .null), (1, 3, .getfield 7, 11, 0, 860, .null), (4, 1, .iload_n 1, 1, 0, 0, .null), (5, 1, .iaload, 0, 0, 0, .null), 
  (6, 2, .bipush 100, 0, 0, 0, .int 100), (8, 3, .if_icmp .eq 26, 34, 0, 0, .null), (11, 1, .aload_n 0, 0, 0, 0, .null), (12, 3, .getfield 7, 11, 0, 860, .null), 
  (15, 1, .iload_n 1, 1, 0, 0, .null), (16, 1, .iaload, 0, 0, 0, .null), (17, 2, .bipush 115, 0, 0, 0, .int 115), (19, 3, .if_icmp .ne 10, 29, 0, 0, .null), 
  (22, 1, .iload_n 2, 2, 0, 0, .null), (23, 3, .ifCond .ne 15, 38, 0, 0, .null), (26, 3, .goto 8, 34, 0, 0, .null), (29, 1, .iload_n 2, 2, 0, 0, .null), 
  (30, 1, .iconst 1, 0, 0, 0, .int 1), (31, 3, .if_icmp .ne 7, 38, 0, 0, .null), (34, 1, .iconst 1, 0, 0, 0, .int 1), (35, 3, .goto 4, 39, 0, 0, .null), 
  (38, 1, .iconst 0, 0, 0, 0, .int 0), (39, 1, .ireturn, 0, 0, 0, .null)]
theorem okX12_isOut : tX12_isOut.all (okI yX12_isOut.cls (decide (yX12_isOut.name = "<init>")) cX12_isOut) = true := by decide +kernel
def tX12_isIn : List CI := [
  (0, 1, .aload_n 0, 0, 0, 0, .null), (1, 3, .getfield 7, 11, 0, 860, .null), (4, 1, .iload_n 1, 1, 0, 0, .null), (5, 1, .iaload, 0, 0, 0, .null), 
  (6, 2, .bipush 100, 0, 0, 0, .int 100), (8, 3, .if_icmp .eq 7, 15, 0, 0, .null), (11, 1, .iload_n 2, 2, 0, 0, .null), (12, 3, .ifCond .ne 7, 19, 0, 0, .null), 
  (15, 1, .iconst 1, 0, 0, 0, .int 1), (16, 3, .goto 4, 20, 0, 0, .null), (19, 1, .iconst 0, 0, 0, 0, .int 0), (20, 1, .ireturn, 0, 0, 0, .null)]
theorem okX12_isIn : tX12_isIn.all (okI yX12_isIn.cls (decide (yX12_isIn.name = "<init>")) cX12_isIn) = true := by decide +kernel
def tX12_doMove : List CI := [
  (0, 1, .iconst 0, 0, 0, 0, .int 0), (1, 2, .istore 5, 5, 0, 0, .null), (3, 1, .iload_n 1, 1, 0, 0, .null), (4, 3, .ifCond .ne 22, 26, 0, 0, .null), 
  (7, 1, .aload_n 0, 0, 0, 0, .null), (8, 1, .dup, 0, 0, 0, .null), (9, 3, .getfield 154, 11, 16, 876, .null), (12, 1, .iconst 1, 0, 0, 0, .int 1), (13, 1, .iadd, 0, 0, 0, .null), 
  (14, 3, .putfield 154, 11, 16, 876, .int 0), (17, 1, .aload_n 0, 0, 0, 0, .null), (18, 3, .getfield 154, 11, 16, 876, .null), (21, 2, .istore 5, 5, 0, 0, .null), 
  (23, 3, .goto 26, 49, 0, 0, .null), (26, 1, .iload_n 2, 2, 0, 0, .null), (27, 3, .ifCond .ne 13, 40, 0, 0, .null), (30, 1, .aload_n 0, 0, 0, 0, .null), 
  (31, 1, .iload_n 1, 1, 0, 0, .null), (32, 1, .iconst 1, 0, 0, 0, .int 1), (33, 1, .isub, 0, 0, 0, .null), (34, 3, .invokevirtual 167, 0, 0, 0, .null), 
  (37, 3, .goto 10, 47, 0, 0, .null), (40, 1, .aload_n 0, 0, 0, 0, .null), (41, 1, .iload_n 1, 1, 0, 0, .null), (42, 1, .iconst 1, 0, 0, 0, .int 1), 
  (43, 1, .isub, 0, 0, 0, .null), (44, 3, .invokevirtual 171, 0, 0, 0, .null), (47, 2, .istore 5, 5, 0, 0, .null), (49, 1, .iload_n 3, 3, 0, 0, .null), 
  (50, 1, .iconst 5, 0, 0, 0, .int 5), (51, 3, .if_icmp .ne 10, 61, 0, 0, .null), (54, 1, .aload_n 0, 0, 0, 0, .null), (55, 3, .getfield 101, 11, 4, 864, .null), 
  (58, 3, .goto 6, 64, 0, 0, .null), (61, 1, .iload_n 3, 3, 0, 0, .null), (62, 1, .iconst 1, 0, 0, 0, .int 1), (63, 1, .isub, 0, 0, 0, .null), (64, 2, .istore 6, 6, 0, 0, .null), 
  (66, 1, .iload_n 3, 3, 0, 0, .null), (67, 1, .iconst 5, 0, 0, 0, .int 5), (68, 3, .if_icmp .eq 19, 87, 0, 0, .null), (71, 2, .iload 4, 4, 0, 0, .null), 
  (73, 3, .ifCond .ne 14, 87, 0, 0, .null), (76, 1, .aload_n 0, 0, 0, 0, .null), (77, 2, .iload 6, 6, 0, 0, .null), (79, 2, .iload 5, 5, 0, 0, .null), 
  (81, 3, .invokevirtual 157, 0, 0, 0, .null), (84, 3, .goto 11, 95, 0, 0, .null), (87, 1, .aload_n 0, 0, 0, 0, .null), (88, 2, .iload 6, 6, 0, 0, .null), 
  (90, 2, .iload 5, 5, 0, 0, .null), (92, 3, .invokevirtual 174, 0, 0, 0, .null), (95, 1, .return_, 0, 0, 0, .null)]
theorem okX12_doMove : tX12_doMove.all (okI yX12_doMove.cls (decide (yX12_doMove.name = "<init>")) cX12_doMove) = true := by decide +kernel
def tX12_slotOf : List CI := [
  (0, 1, .iload_n 1, 1, 0, 0, .null), (1, 1, .i2l, 0, 0, 0, .null), (2, 3, .ldc2_w 177, 0, 0, 1075, .long 2654435761), (5, 1, .lmul, 0, 0, 0, .null), 
  (6, 2, .bipush 8, 0, 0, 0, .int 8), (8, 1, .lshr, 0, 0, 0, .null), (9, 3, .ldc2_w 179, 0, 0, 1076, .long 65535), (12, 1, .land, 0, 0, 0, .null), (13, 1, .l2i, 0, 0, 0, .null), 
  (14, 1, .istore_n 2, 2, 0, 0, .null), (15, 1, .aload_n 0, 0, 0, 0, .null), (16, 3, .getfield 47, 11, 18, 878, .null), (19, 1, .iload_n 2, 2, 0, 0, .null), 
  (20, 1, .iaload, 0, 0, 0, .null), (21, 1, .aload_n 0, 0, 0, 0, .null), (22, 3, .getfield 181, 11, 23, 883, .null), (25, 3, .if_icmp .ne 23, 48, 0, 0, .null), 
  (28, 1, .aload_n 0, 0, 0, 0, .null), (29, 3, .getfield 44, 11, 17, 877, .null), (32, 1, .iload_n 2, 2, 0, 0, .null), (33, 1, .iaload, 0, 0, 0, .null), 
  (34, 1, .iload_n 1, 1, 0, 0, .null), (35, 3, .if_icmp .eq 13, 48, 0, 0, .null), (38, 1, .iload_n 2, 2, 0, 0, .null), (39, 1, .iconst 1, 0, 0, 0, .int 1), 
  (40, 1, .iadd, 0, 0, 0, .null), (41, 2, .ldc 184, 0, 0, 1077, .int 65535), (43, 1, .iand, 0, 0, 0, .null), (44, 1, .istore_n 2, 2, 0, 0, .null), 
  (45, 3, .goto (-30), 15, 0, 0, .null), (48, 1, .iload_n 2, 2, 0, 0, .null), (49, 1, .ireturn, 0, 0, 0, .null)]
theorem okX12_slotOf : tX12_slotOf.all (okI yX12_slotOf.cls (decide (yX12_slotOf.name = "<init>")) cX12_slotOf) = true := by decide +kernel
def tX12_come : List CI := [
  (0, 1, .aload_n 0, 0, 0, 0, .null), (1, 1, .iload_n 1, 1, 0, 0, .null), (2, 3, .invokevirtual 185, 0, 0, 0, .null), (5, 2, .istore 5, 5, 0, 0, .null), 
  (7, 1, .aload_n 0, 0, 0, 0, .null), (8, 3, .getfield 47, 11, 18, 878, .null), (11, 2, .iload 5, 5, 0, 0, .null), (13, 1, .iaload, 0, 0, 0, .null), 
  (14, 1, .aload_n 0, 0, 0, 0, .null), (15, 3, .getfield 181, 11, 23, 883, .null), (18, 3, .if_icmp .eq 59, 77, 0, 0, .null), (21, 1, .aload_n 0, 0, 0, 0, .null), 
  (22, 3, .getfield 47, 11, 18, 878, .null), (25, 2, .iload 5, 5, 0, 0, .null), (27, 1, .aload_n 0, 0, 0, 0, .null), (28, 3, .getfield 181, 11, 23, 883, .null), 
  (31, 1, .iastore, 0, 0, 0, .null), (32, 1, .aload_n 0, 0, 0, 0, .null), (33, 3, .getfield 44, 11, 17, 877, .null), (36, 2, .iload 5, 5, 0, 0, .null), 
  (38, 1, .iload_n 1, 1, 0, 0, .null), (39, 1, .iastore, 0, 0, 0, .null), (40, 1, .aload_n 0, 0, 0, 0, .null), (41, 3, .getfield 50, 11, 19, 879, .null), 
  (44, 2, .iload 5, 5, 0, 0, .null), (46, 1, .iload_n 2, 2, 0, 0, .null), (47, 1, .iastore, 0, 0, 0, .null), (48, 1, .aload_n 0, 0, 0, 0, .null), 
  (49, 3, .getfield 53, 11, 20, 880, .null), (52, 2, .iload 5, 5, 0, 0, .null), (54, 1, .lconst 0, 0, 0, 0, .long 0), (55, 1, .lastore, 0, 0, 0, .null), 
  (56, 1, .aload_n 0, 0, 0, 0, .null), (57, 3, .getfield 58, 11, 21, 881, .null), (60, 1, .aload_n 0, 0, 0, 0, .null), (61, 3, .getfield 188, 11, 22, 882, .null), 
  (64, 2, .iload 5, 5, 0, 0, .null), (66, 1, .iastore, 0, 0, 0, .null), (67, 1, .aload_n 0, 0, 0, 0, .null), (68, 1, .dup, 0, 0, 0, .null), 
  (69, 3, .getfield 188, 11, 22, 882, .null), (72, 1, .iconst 1, 0, 0, 0, .int 1), (73, 1, .iadd, 0, 0, 0, .null), (74, 3, .putfield 188, 11, 22, 882, .int 0), 
  (77, 1, .aload_n 0, 0, 0, 0, .null), (78, 3, .getfield 53, 11, 20, 880, .null), (81, 2, .iload 5, 5, 0, 0, .null), (83, 1, .dup2, 0, 0, 0, .null), 
  (84, 1, .laload, 0, 0, 0, .null), (85, 1, .aload_n 0, 0, 0, 0, .null), (86, 3, .getfield 50, 11, 19, 879, .null), (89, 2, .iload 5, 5, 0, 0, .null), 
  (91, 1, .iaload, 0, 0, 0, .null), (92, 1, .iload_n 2, 2, 0, 0, .null), (93, 3, .if_icmp .ne 7, 100, 0, 0, .null), (96, 1, .lload_n 3, 3, 0, 0, .null), 
  (97, 3, .goto 4, 101, 0, 0, .null), (100, 1, .lconst 0, 0, 0, 0, .long 0), (101, 1, .ladd, 0, 0, 0, .null), (102, 1, .lastore, 0, 0, 0, .null), 
  (103, 1, .return_, 0, 0, 0, .null)]
theorem okX12_come : tX12_come.all (okI yX12_come.cls (decide (yX12_come.name = "<init>")) cX12_come) = true := by decide +kernel
def tX12_isWanted : List CI := [
  (0, 1, .iconst 1, 0, 0, 0, .int 1), (1, 1, .istore_n 1, 1, 0, 0, .null), (2, 1, .iconst 0, 0, 0, 0, .int 0), (3, 1, .istore_n 2, 2, 0, 0, .null), 
  (4, 1, .iload_n 2, 2, 0, 0, .null), (5, 1, .aload_n 0, 0, 0, 0, .null), (6, 3, .getfield 40, 11, 15, 875, .null), (9, 1, .aload_n 0, 0, 0, 0, .null), 
  (10, 3, .getfield 101, 11, 4, 864, .null), (13, 1, .iaload, 0, 0, 0, .null), (14, 3, .if_icmp .ge 49, 63, 0, 0, .null), (17, 1, .iload_n 2, 2, 0, 0, .null), 
  (18, 1, .aload_n 0, 0, 0, 0, .null), (19, 3, .getfield 191, 11, 25, 885, .null), (22, 3, .if_icmp .ge 41, 63, 0, 0, .null), (25, 1, .iload_n 1, 1, 0, 0, .null), 
  (26, 3, .ifCond .eq 29, 55, 0, 0, .null), (29, 1, .aload_n 0, 0, 0, 0, .null), (30, 3, .getfield 37, 11, 14, 874, .null), (33, 1, .iconst 5, 0, 0, 0, .int 5), 
  (34, 1, .aload_n 0, 0, 0, 0, .null), (35, 3, .getfield 101, 11, 4, 864, .null), (38, 1, .imul, 0, 0, 0, .null), (39, 1, .iload_n 2, 2, 0, 0, .null), 
  (40, 1, .iadd, 0, 0, 0, .null), (41, 1, .iaload, 0, 0, 0, .null), (42, 1, .aload_n 0, 0, 0, 0, .null), (43, 3, .getfield 61, 11, 24, 884, .null), 
  (46, 1, .iload_n 2, 2, 0, 0, .null), (47, 1, .iaload, 0, 0, 0, .null), (48, 3, .if_icmp .ne 7, 55, 0, 0, .null), (51, 1, .iconst 1, 0, 0, 0, .int 1), 
  (52, 3, .goto 4, 56, 0, 0, .null), (55, 1, .iconst 0, 0, 0, 0, .int 0), (56, 1, .istore_n 1, 1, 0, 0, .null), (57, 3, .iinc 2 1, 2, 0, 0, .int 1), 
  (60, 3, .goto (-56), 4, 0, 0, .null), (63, 1, .iload_n 1, 1, 0, 0, .null), (64, 1, .ireturn, 0, 0, 0, .null)]
theorem okX12_isWanted : tX12_isWanted.all (okI yX12_isWanted.cls (decide (yX12_isWanted.name = "<init>")) cX12_isWanted) = true := by decide +kernel
def tX12_search : List CI := [
  (0, 1, .aload_n 0, 0, 0, 0, .null), (1, 1, .dup, 0, 0, 0, .null), (2, 3, .getfield 181, 11, 23, 883, .null), (5, 1, .iconst 1, 0, 0, 0, .int 1), (6, 1, .iadd, 0, 0, 0, .null), 
  (7, 3, .putfield 181, 11, 23, 883, .int 0), (10, 1, .aload_n 0, 0, 0, 0, .null), (11, 1, .iconst 0, 0, 0, 0, .int 0), (12, 3, .putfield 188, 11, 22, 882, .int 0), 
  (15, 1, .aload_n 0, 0, 0, 0, .null), (16, 1, .iload_n 1, 1, 0, 0, .null), (17, 3, .invokevirtual 194, 0, 0, 0, .null), (20, 1, .aload_n 0, 0, 0, 0, .null), 
  (21, 3, .invokevirtual 198, 0, 0, 0, .null), (24, 3, .ifCond .ne 6, 30, 0, 0, .null), (27, 2, .bipush (-6), 0, 0, 0, .int (-6)), (29, 1, .ireturn, 0, 0, 0, .null), 
  (30, 1, .aload_n 0, 0, 0, 0, .null), (31, 1, .iload_n 1, 1, 0, 0, .null), (32, 1, .iconst 0, 0, 0, 0, .int 0), (33, 1, .lconst 1, 0, 0, 0, .long 1), 
  (34, 3, .invokevirtual 202, 0, 0, 0, .null), (37, 1, .iconst 0, 0, 0, 0, .int 0), (38, 1, .istore_n 3, 3, 0, 0, .null), (39, 1, .iload_n 3, 3, 0, 0, .null), 
  (40, 1, .aload_n 0, 0, 0, 0, .null), (41, 3, .getfield 188, 11, 22, 882, .null), (44, 3, .if_icmp .ge 63, 107, 0, 0, .null), (47, 1, .aload_n 0, 0, 0, 0, .null), 
  (48, 3, .getfield 58, 11, 21, 881, .null), (51, 1, .iload_n 3, 3, 0, 0, .null), (52, 1, .iaload, 0, 0, 0, .null), (53, 2, .istore 4, 4, 0, 0, .null), 
  (55, 1, .aload_n 0, 0, 0, 0, .null), (56, 1, .aload_n 0, 0, 0, 0, .null), (57, 3, .getfield 44, 11, 17, 877, .null), (60, 2, .iload 4, 4, 0, 0, .null), 
  (62, 1, .iaload, 0, 0, 0, .null), (63, 3, .invokevirtual 194, 0, 0, 0, .null), (66, 1, .aload_n 0, 0, 0, 0, .null), (67, 3, .getfield 40, 11, 15, 875, .null), 
  (70, 1, .aload_n 0, 0, 0, 0, .null), (71, 3, .getfield 101, 11, 4, 864, .null), (74, 1, .iaload, 0, 0, 0, .null), (75, 1, .iload_n 2, 2, 0, 0, .null), 
  (76, 3, .if_icmp .ne 18, 94, 0, 0, .null), (79, 1, .aload_n 0, 0, 0, 0, .null), (80, 3, .getfield 191, 11, 25, 885, .null), (83, 3, .ifCond .le 11, 94, 0, 0, .null), 
  (86, 1, .aload_n 0, 0, 0, 0, .null), (87, 3, .getfield 50, 11, 19, 879, .null), (90, 2, .iload 4, 4, 0, 0, .null), (92, 1, .iaload, 0, 0, 0, .null), 
  (93, 1, .ireturn, 0, 0, 0, .null), (94, 1, .aload_n 0, 0, 0, 0, .null), (95, 2, .iload 4, 4, 0, 0, .null), (97, 1, .iload_n 2, 2, 0, 0, .null), 
  (98, 3, .invokevirtual 206, 0, 0, 0, .null), (101, 3, .iinc 3 1, 3, 0, 0, .int 1), (104, 3, .goto (-65), 39, 0, 0, .null), (107, 2, .bipush (-6), 0, 0, 0, .int (-6)), 
  (109, 1, .ireturn, 0, 0, 0, .null)]
theorem okX12_search : tX12_search.all (okI yX12_search.cls (decide (yX12_search.name = "<init>")) cX12_search) = true := by decide +kernel
def tX12_spread : List CI := [
  (0, 1, .iconst 0, 0, 0, 0, .int 0), (1, 1, .istore_n 3, 3, 0, 0, .null), (2, 1, .iload_n 3, 3, 0, 0, .null), (3, 1, .aload_n 0, 0, 0, 0, .null), 
  (4, 3, .getfield 101, 11, 4, 864, .null), (7, 3, .if_icmp .gt 134, 141, 0, 0, .null), (10, 1, .iconst 0, 0, 0, 0, .int 0), (11, 2, .istore 4, 4, 0, 0, .null), 
  (13, 2, .iload 4, 4, 0, 0, .null), (15, 1, .iconst 2, 0, 0, 0, .int 2), (16, 3, .if_icmp .ge 119, 135, 0, 0, .null), (19, 1, .iconst 1, 0, 0, 0, .int 1), 
  (20, 2, .istore 5, 5, 0, 0, .null), (22, 2, .iload 5, 5, 0, 0, .null), (24, 1, .iconst 5, 0, 0, 0, .int 5), (25, 3, .if_icmp .gt 104, 129, 0, 0, .null), 
  (28, 1, .iconst 0, 0, 0, 0, .int 0), (29, 2, .istore 6, 6, 0, 0, .null), (31, 2, .iload 6, 6, 0, 0, .null), (33, 1, .iconst 2, 0, 0, 0, .int 2), 
  (34, 3, .if_icmp .ge 89, 123, 0, 0, .null), (37, 2, .iload 5, 5, 0, 0, .null), (39, 1, .aload_n 0, 0, 0, 0, .null), (40, 3, .getfield 101, 11, 4, 864, .null), 
  (43, 3, .if_icmp .le 9, 52, 0, 0, .null), (46, 2, .iload 5, 5, 0, 0, .null), (48, 1, .iconst 5, 0, 0, 0, .int 5), (49, 3, .if_icmp .ne 74, 123, 0, 0, .null), 
  (52, 1, .aload_n 0, 0, 0, 0, .null), (53, 1, .aload_n 0, 0, 0, 0, .null), (54, 3, .getfield 44, 11, 17, 877, .null), (57, 1, .iload_n 1, 1, 0, 0, .null), 
  (58, 1, .iaload, 0, 0, 0, .null), (59, 3, .invokevirtual 194, 0, 0, 0, .null), (62, 1, .aload_n 0, 0, 0, 0, .null), (63, 1, .iload_n 3, 3, 0, 0, .null), 
  (64, 2, .iload 4, 4, 0, 0, .null), (66, 2, .iload 5, 5, 0, 0, .null), (68, 2, .iload 6, 6, 0, 0, .null), (70, 1, .iload_n 2, 2, 0, 0, .null), 
  (71, 3, .invokevirtual 209, 0, 0, 0, .null), (74, 3, .ifCond .eq 43, 117, 0, 0, .null), (77, 1, .aload_n 0, 0, 0, 0, .null), (78, 1, .iload_n 3, 3, 0, 0, .null), 
  (79, 2, .iload 4, 4, 0, 0, .null), (81, 2, .iload 5, 5, 0, 0, .null), (83, 2, .iload 6, 6, 0, 0, .null), (85, 3, .invokevirtual 213, 0, 0, 0, .null), 
  (88, 1, .aload_n 0, 0, 0, 0, .null), (89, 3, .invokevirtual 198, 0, 0, 0, .null), (92, 3, .ifCond .eq 25, 117, 0, 0, .null), (95, 1, .aload_n 0, 0, 0, 0, .null), 
  (96, 1, .aload_n 0, 0, 0, 0, .null), (97, 3, .invokevirtual 217, 0, 0, 0, .null), (100, 1, .aload_n 0, 0, 0, 0, .null), (101, 3, .getfield 50, 11, 19, 879, .null), 
  (104, 1, .iload_n 1, 1, 0, 0, .null), (105, 1, .iaload, 0, 0, 0, .null), (106, 1, .iconst 1, 0, 0, 0, .int 1), (107, 1, .iadd, 0, 0, 0, .null), 
  (108, 1, .aload_n 0, 0, 0, 0, .null), (109, 3, .getfield 53, 11, 20, 880, .null), (112, 1, .iload_n 1, 1, 0, 0, .null), (113, 1, .laload, 0, 0, 0, .null), 
  (114, 3, .invokevirtual 202, 0, 0, 0, .null), (117, 3, .iinc 6 1, 6, 0, 0, .int 1), (120, 3, .goto (-89), 31, 0, 0, .null), (123, 3, .iinc 5 1, 5, 0, 0, .int 1), 
  (126, 3, .goto (-104), 22, 0, 0, .null), (129, 3, .iinc 4 1, 4, 0, 0, .int 1), (132, 3, .goto (-119), 13, 0, 0, .null), (135, 3, .iinc 3 1, 3, 0, 0, .int 1), 
  (138, 3, .goto (-136), 2, 0, 0, .null), (141, 1, .return_, 0, 0, 0, .null)]
theorem okX12_spread : tX12_spread.all (okI yX12_spread.cls (decide (yX12_spread.name = "<init>")) cX12_spread) = true := by decide +kernel
def tX12_forget : List CI := [
  (0, 1, .iconst 0, 0, 0, 0, .int 0), (1, 1, .istore_n 1, 1, 0, 0, .null), (2, 1, .iload_n 1, 1, 0, 0, .null), (3, 1, .iconst 5, 0, 0, 0, .int 5), 
  (4, 3, .if_icmp .gt 16, 20, 0, 0, .null), (7, 1, .aload_n 0, 0, 0, 0, .null), (8, 3, .getfield 70, 11, 28, 888, .null), (11, 1, .iload_n 1, 1, 0, 0, .null), 
  (12, 1, .iconst 0, 0, 0, 0, .int 0), (13, 1, .bastore, 0, 0, 0, .null), (14, 3, .iinc 1 1, 1, 0, 0, .int 1), (17, 3, .goto (-15), 2, 0, 0, .null), 
  (20, 1, .return_, 0, 0, 0, .null)]
theorem okX12_forget : tX12_forget.all (okI yX12_forget.cls (decide (yX12_forget.name = "<init>")) cX12_forget) = true := by decide +kernel
def tX12_power : List CI := [
  (0, 1, .iconst 1, 0, 0, 0, .int 1), (1, 1, .istore_n 1, 1, 0, 0, .null), (2, 1, .iconst 2, 0, 0, 0, .int 2), (3, 1, .istore_n 2, 2, 0, 0, .null), 
  (4, 1, .iload_n 2, 2, 0, 0, .null), (5, 1, .iload_n 0, 0, 0, 0, .null), (6, 3, .if_icmp .gt 13, 19, 0, 0, .null), (9, 1, .iload_n 1, 1, 0, 0, .null), 
  (10, 1, .iload_n 2, 2, 0, 0, .null), (11, 1, .imul, 0, 0, 0, .null), (12, 1, .istore_n 1, 1, 0, 0, .null), (13, 3, .iinc 2 1, 2, 0, 0, .int 1), 
  (16, 3, .goto (-12), 4, 0, 0, .null), (19, 1, .iload_n 1, 1, 0, 0, .null), (20, 1, .ireturn, 0, 0, 0, .null)]
theorem okX12_power : tX12_power.all (okI yX12_power.cls (decide (yX12_power.name = "<init>")) cX12_power) = true := by decide +kernel
def tX12_rankOf : List CI := [
  (0, 1, .iconst 0, 0, 0, 0, .int 0), (1, 1, .istore_n 2, 2, 0, 0, .null), (2, 1, .iconst 0, 0, 0, 0, .int 0), (3, 1, .istore_n 3, 3, 0, 0, .null), 
  (4, 1, .iload_n 3, 3, 0, 0, .null), (5, 1, .iload_n 1, 1, 0, 0, .null), (6, 3, .if_icmp .ge 64, 70, 0, 0, .null), (9, 1, .iconst 0, 0, 0, 0, .int 0), 
  (10, 2, .istore 4, 4, 0, 0, .null), (12, 1, .iload_n 3, 3, 0, 0, .null), (13, 1, .iconst 1, 0, 0, 0, .int 1), (14, 1, .iadd, 0, 0, 0, .null), (15, 2, .istore 5, 5, 0, 0, .null), 
  (17, 2, .iload 5, 5, 0, 0, .null), (19, 1, .iload_n 1, 1, 0, 0, .null), (20, 3, .if_icmp .ge 35, 55, 0, 0, .null), (23, 2, .iload 4, 4, 0, 0, .null), 
  (25, 1, .aload_n 0, 0, 0, 0, .null), (26, 3, .getfield 74, 11, 29, 889, .null), (29, 2, .iload 5, 5, 0, 0, .null), (31, 1, .iaload, 0, 0, 0, .null), 
  (32, 1, .aload_n 0, 0, 0, 0, .null), (33, 3, .getfield 74, 11, 29, 889, .null), (36, 1, .iload_n 3, 3, 0, 0, .null), (37, 1, .iaload, 0, 0, 0, .null), 
  (38, 3, .if_icmp .ge 7, 45, 0, 0, .null), (41, 1, .iconst 1, 0, 0, 0, .int 1), (42, 3, .goto 4, 46, 0, 0, .null), (45, 1, .iconst 0, 0, 0, 0, .int 0), 
  (46, 1, .iadd, 0, 0, 0, .null), (47, 2, .istore 4, 4, 0, 0, .null), (49, 3, .iinc 5 1, 5, 0, 0, .int 1), (52, 3, .goto (-35), 17, 0, 0, .null), 
  (55, 1, .iload_n 2, 2, 0, 0, .null), (56, 1, .iload_n 1, 1, 0, 0, .null), (57, 1, .iload_n 3, 3, 0, 0, .null), (58, 1, .isub, 0, 0, 0, .null), (59, 1, .imul, 0, 0, 0, .null), 
  (60, 2, .iload 4, 4, 0, 0, .null), (62, 1, .iadd, 0, 0, 0, .null), (63, 1, .istore_n 2, 2, 0, 0, .null), (64, 3, .iinc 3 1, 3, 0, 0, .int 1), 
  (67, 3, .goto (-63), 4, 0, 0, .null), (70, 1, .iload_n 2, 2, 0, 0, .null), (71, 1, .ireturn, 0, 0, 0, .null)]
theorem okX12_rankOf : tX12_rankOf.all (okI yX12_rankOf.cls (decide (yX12_rankOf.name = "<init>")) cX12_rankOf) = true := by decide +kernel
def tX12_layRow : List CI := [
  (0, 1, .iload_n 1, 1, 0, 0, .null), (1, 1, .istore_n 3, 3, 0, 0, .null), (2, 1, .iload_n 2, 2, 0, 0, .null), (3, 1, .iconst 1, 0, 0, 0, .int 1), (4, 1, .isub, 0, 0, 0, .null), 
  (5, 2, .istore 4, 4, 0, 0, .null), (7, 2, .iload 4, 4, 0, 0, .null), (9, 3, .ifCond .lt 29, 38, 0, 0, .null), (12, 1, .aload_n 0, 0, 0, 0, .null), 
  (13, 3, .getfield 74, 11, 29, 889, .null), (16, 2, .iload 4, 4, 0, 0, .null), (18, 1, .iload_n 3, 3, 0, 0, .null), (19, 1, .iload_n 2, 2, 0, 0, .null), 
  (20, 2, .iload 4, 4, 0, 0, .null), (22, 1, .isub, 0, 0, 0, .null), (23, 1, .irem, 0, 0, 0, .null), (24, 1, .iastore, 0, 0, 0, .null), (25, 1, .iload_n 3, 3, 0, 0, .null), 
  (26, 1, .iload_n 2, 2, 0, 0, .null), (27, 2, .iload 4, 4, 0, 0, .null), (29, 1, .isub, 0, 0, 0, .null), (30, 1, .idiv, 0, 0, 0, .null), (31, 1, .istore_n 3, 3, 0, 0, .null), 
  (32, 3, .iinc 4 (-1), 4, 0, 0, .int (-1)), (35, 3, .goto (-28), 7, 0, 0, .null), (38, 1, .iload_n 2, 2, 0, 0, .null), (39, 1, .iconst 1, 0, 0, 0, .int 1), 
  (40, 1, .isub, 0, 0, 0, .null), (41, 2, .istore 4, 4, 0, 0, .null), (43, 2, .iload 4, 4, 0, 0, .null), (45, 3, .ifCond .lt 70, 115, 0, 0, .null), 
  (48, 1, .aload_n 0, 0, 0, 0, .null), (49, 3, .getfield 74, 11, 29, 889, .null), (52, 2, .iload 4, 4, 0, 0, .null), (54, 1, .dup2, 0, 0, 0, .null), 
  (55, 1, .iaload, 0, 0, 0, .null), (56, 1, .iconst 1, 0, 0, 0, .int 1), (57, 1, .iadd, 0, 0, 0, .null), (58, 1, .iastore, 0, 0, 0, .null), (59, 2, .iload 4, 4, 0, 0, .null), 
  (61, 1, .iconst 1, 0, 0, 0, .int 1), (62, 1, .iadd, 0, 0, 0, .null), (63, 2, .istore 5, 5, 0, 0, .null), (65, 2, .iload 5, 5, 0, 0, .null), (67, 1, .iload_n 2, 2, 0, 0, .null), 
  (68, 3, .if_icmp .ge 41, 109, 0, 0, .null), (71, 1, .aload_n 0, 0, 0, 0, .null), (72, 3, .getfield 74, 11, 29, 889, .null), (75, 2, .iload 5, 5, 0, 0, .null), 
  (77, 1, .dup2, 0, 0, 0, .null), (78, 1, .iaload, 0, 0, 0, .null), (79, 1, .aload_n 0, 0, 0, 0, .null), (80, 3, .getfield 74, 11, 29, 889, .null), 
  (83, 2, .iload 5, 5, 0, 0, .null), (85, 1, .iaload, 0, 0, 0, .null), (86, 1, .aload_n 0, 0, 0, 0, .null), (87, 3, .getfield 74, 11, 29, 889, .null), 
  (90, 2, .iload 4, 4, 0, 0, .null), (92, 1, .iaload, 0, 0, 0, .null), (93, 3, .if_icmp .lt 7, 100, 0, 0, .null), (96, 1, .iconst 1, 0, 0, 0, .int 1), 
  (97, 3, .goto 4, 101, 0, 0, .null), (100, 1, .iconst 0, 0, 0, 0, .int 0), (101, 1, .iadd, 0, 0, 0, .null), (102, 1, .iastore, 0, 0, 0, .null), 
  (103, 3, .iinc 5 1, 5, 0, 0, .int 1), (106, 3, .goto (-41), 65, 0, 0, .null), (109, 3, .iinc 4 (-1), 4, 0, 0, .int (-1)), (112, 3, .goto (-69), 43, 0, 0, .null), 
  (115, 1, .return_, 0, 0, 0, .null)]
theorem okX12_layRow : tX12_layRow.all (okI yX12_layRow.cls (decide (yX12_layRow.name = "<init>")) cX12_layRow) = true := by decide +kernel
def tX12_findAll : List CI := [
  (0, 1, .aload_n 0, 0, 0, 0, .null), (1, 3, .getfield 70, 11, 28, 888, .null), (4, 1, .iload_n 1, 1, 0, 0, .null), (5, 1, .baload, 0, 0, 0, .null), 
  (6, 3, .ifCond .eq 4, 10, 0, 0, .null), (9, 1, .return_, 0, 0, 0, .null), (10, 1, .aload_n 0, 0, 0, 0, .null), (11, 3, .getfield 70, 11, 28, 888, .null), 
  (14, 1, .iload_n 1, 1, 0, 0, .null), (15, 1, .iconst 1, 0, 0, 0, .int 1), (16, 1, .bastore, 0, 0, 0, .null), (17, 1, .iconst 0, 0, 0, 0, .int 0), 
  (18, 1, .istore_n 2, 2, 0, 0, .null), (19, 1, .iload_n 2, 2, 0, 0, .null), (20, 2, .bipush 120, 0, 0, 0, .int 120), (22, 3, .if_icmp .ge 34, 56, 0, 0, .null), 
  (25, 1, .aload_n 0, 0, 0, 0, .null), (26, 3, .getfield 64, 11, 26, 886, .null), (29, 2, .bipush 120, 0, 0, 0, .int 120), (31, 1, .iload_n 1, 1, 0, 0, .null), 
  (32, 1, .imul, 0, 0, 0, .null), (33, 1, .iload_n 2, 2, 0, 0, .null), (34, 1, .iadd, 0, 0, 0, .null), (35, 2, .bipush (-6), 0, 0, 0, .int (-6)), 
  (37, 1, .iastore, 0, 0, 0, .null), (38, 1, .aload_n 0, 0, 0, 0, .null), (39, 3, .getfield 67, 11, 27, 887, .null), (42, 2, .bipush 120, 0, 0, 0, .int 120), 
  (44, 1, .iload_n 1, 1, 0, 0, .null), (45, 1, .imul, 0, 0, 0, .null), (46, 1, .iload_n 2, 2, 0, 0, .null), (47, 1, .iadd, 0, 0, 0, .null), (48, 1, .lconst 0, 0, 0, 0, .long 0), 
  (49, 1, .lastore, 0, 0, 0, .null), (50, 3, .iinc 2 1, 2, 0, 0, .int 1), (53, 3, .goto (-34), 19, 0, 0, .null), (56, 1, .aload_n 0, 0, 0, 0, .null), 
  (57, 1, .iconst 0, 0, 0, 0, .int 0), (58, 3, .putfield 191, 11, 25, 885, .int 0), (61, 1, .aload_n 0, 0, 0, 0, .null), (62, 1, .iconst 0, 0, 0, 0, .int 0), 
  (63, 1, .iload_n 1, 1, 0, 0, .null), (64, 3, .invokevirtual 220, 0, 0, 0, .null), (67, 1, .pop, 0, 0, 0, .null), (68, 1, .iconst 0, 0, 0, 0, .int 0), 
  (69, 1, .istore_n 2, 2, 0, 0, .null), (70, 1, .iload_n 2, 2, 0, 0, .null), (71, 1, .aload_n 0, 0, 0, 0, .null), (72, 3, .getfield 188, 11, 22, 882, .null), 
  (75, 3, .if_icmp .ge 113, 188, 0, 0, .null), (78, 1, .aload_n 0, 0, 0, 0, .null), (79, 3, .getfield 58, 11, 21, 881, .null), (82, 1, .iload_n 2, 2, 0, 0, .null), 
  (83, 1, .iaload, 0, 0, 0, .null), (84, 1, .istore_n 3, 3, 0, 0, .null), (85, 1, .aload_n 0, 0, 0, 0, .null), (86, 1, .aload_n 0, 0, 0, 0, .null), 
  (87, 3, .getfield 44, 11, 17, 877, .null), (90, 1, .iload_n 3, 3, 0, 0, .null), (91, 1, .iaload, 0, 0, 0, .null), (92, 3, .invokevirtual 194, 0, 0, 0, .null), 
  (95, 1, .aload_n 0, 0, 0, 0, .null), (96, 3, .getfield 40, 11, 15, 875, .null), (99, 1, .aload_n 0, 0, 0, 0, .null), (100, 3, .getfield 101, 11, 4, 864, .null), 
  (103, 1, .iaload, 0, 0, 0, .null), (104, 1, .iload_n 1, 1, 0, 0, .null), (105, 3, .if_icmp .ne 77, 182, 0, 0, .null), (108, 1, .iconst 0, 0, 0, 0, .int 0), 
  (109, 2, .istore 4, 4, 0, 0, .null), (111, 2, .iload 4, 4, 0, 0, .null), (113, 1, .iload_n 1, 1, 0, 0, .null), (114, 3, .if_icmp .ge 30, 144, 0, 0, .null), 
  (117, 1, .aload_n 0, 0, 0, 0, .null), (118, 3, .getfield 74, 11, 29, 889, .null), (121, 2, .iload 4, 4, 0, 0, .null), (123, 1, .aload_n 0, 0, 0, 0, .null), 
  (124, 3, .getfield 37, 11, 14, 874, .null), (127, 1, .iconst 5, 0, 0, 0, .int 5), (128, 1, .aload_n 0, 0, 0, 0, .null), (129, 3, .getfield 101, 11, 4, 864, .null), 
  (132, 1, .imul, 0, 0, 0, .null), (133, 2, .iload 4, 4, 0, 0, .null), (135, 1, .iadd, 0, 0, 0, .null), (136, 1, .iaload, 0, 0, 0, .null), (137, 1, .iastore, 0, 0, 0, .null), 
  (138, 3, .iinc 4 1, 4, 0, 0, .int 1), (141, 3, .goto (-30), 111, 0, 0, .null), (144, 2, .bipush 120, 0, 0, 0, .int 120), (146, 1, .iload_n 1, 1, 0, 0, .null), 
  (147, 1, .imul, 0, 0, 0, .null), (148, 1, .aload_n 0, 0, 0, 0, .null), (149, 1, .iload_n 1, 1, 0, 0, .null), (150, 3, .invokevirtual 224, 0, 0, 0, .null), 
  (153, 1, .iadd, 0, 0, 0, .null), (154, 2, .istore 4, 4, 0, 0, .null), (156, 1, .aload_n 0, 0, 0, 0, .null), (157, 3, .getfield 64, 11, 26, 886, .null), 
  (160, 2, .iload 4, 4, 0, 0, .null), (162, 1, .aload_n 0, 0, 0, 0, .null), (163, 3, .getfield 50, 11, 19, 879, .null), (166, 1, .iload_n 3, 3, 0, 0, .null), 
  (167, 1, .iaload, 0, 0, 0, .null), (168, 1, .iastore, 0, 0, 0, .null), (169, 1, .aload_n 0, 0, 0, 0, .null), (170, 3, .getfield 67, 11, 27, 887, .null), 
  (173, 2, .iload 4, 4, 0, 0, .null), (175, 1, .aload_n 0, 0, 0, 0, .null), (176, 3, .getfield 53, 11, 20, 880, .null), (179, 1, .iload_n 3, 3, 0, 0, .null), 
  (180, 1, .laload, 0, 0, 0, .null), (181, 1, .lastore, 0, 0, 0, .null), (182, 3, .iinc 2 1, 2, 0, 0, .int 1), (185, 3, .goto (-115), 70, 0, 0, .null), 
  (188, 1, .return_, 0, 0, 0, .null)]
theorem okX12_findAll : tX12_findAll.all (okI yX12_findAll.cls (decide (yX12_findAll.name = "<init>")) cX12_findAll) = true := by decide +kernel
def tX12_wagonsOf : List CI := [
  (0, 1, .iconst 0, 0, 0, 0, .int 0), (1, 1, .istore_n 1, 1, 0, 0, .null), (2, 1, .iconst 0, 0, 0, 0, .int 0), (3, 1, .istore_n 2, 2, 0, 0, .null), 
  (4, 1, .iload_n 0, 0, 0, 0, .null), (5, 1, .istore_n 3, 3, 0, 0, .null), (6, 1, .iload_n 3, 3, 0, 0, .null), (7, 3, .ifCond .le 27, 34, 0, 0, .null), 
  (10, 1, .iload_n 3, 3, 0, 0, .null), (11, 2, .bipush 10, 0, 0, 0, .int 10), (13, 1, .irem, 0, 0, 0, .null), (14, 2, .istore 4, 4, 0, 0, .null), 
  (16, 1, .iload_n 2, 2, 0, 0, .null), (17, 1, .iconst 1, 0, 0, 0, .int 1), (18, 2, .iload 4, 4, 0, 0, .null), (20, 1, .ishl, 0, 0, 0, .null), (21, 1, .ior, 0, 0, 0, .null), 
  (22, 1, .istore_n 2, 2, 0, 0, .null), (23, 3, .iinc 1 1, 1, 0, 0, .int 1), (26, 1, .iload_n 3, 3, 0, 0, .null), (27, 2, .bipush 10, 0, 0, 0, .int 10), 
  (29, 1, .idiv, 0, 0, 0, .null), (30, 1, .istore_n 3, 3, 0, 0, .null), (31, 3, .goto (-25), 6, 0, 0, .null), (34, 1, .iload_n 0, 0, 0, 0, .null), (35, 1, .i2l, 0, 0, 0, .null), 
  (36, 1, .lconst 1, 0, 0, 0, .long 1), (37, 3, .ldc2_w 227, 0, 0, 1050, .long 54321), (40, 3, .invokestatic 121, 0, 0, 0, .null), (43, 3, .ifCond .eq 18, 61, 0, 0, .null), 
  (46, 1, .iload_n 2, 2, 0, 0, .null), (47, 1, .iconst 1, 0, 0, 0, .int 1), (48, 1, .iload_n 1, 1, 0, 0, .null), (49, 1, .iconst 1, 0, 0, 0, .int 1), 
  (50, 1, .iadd, 0, 0, 0, .null), (51, 1, .ishl, 0, 0, 0, .null), (52, 1, .iconst 2, 0, 0, 0, .int 2), (53, 1, .isub, 0, 0, 0, .null), (54, 3, .if_icmp .ne 7, 61, 0, 0, .null), 
  (57, 1, .iload_n 1, 1, 0, 0, .null), (58, 3, .goto 4, 62, 0, 0, .null), (61, 1, .iconst 0, 0, 0, 0, .int 0), (62, 1, .ireturn, 0, 0, 0, .null)]
theorem okX12_wagonsOf : tX12_wagonsOf.all (okI yX12_wagonsOf.cls (decide (yX12_wagonsOf.name = "<init>")) cX12_wagonsOf) = true := by decide +kernel
def tX12_digitAt : List CI := [
  (0, 1, .iload_n 0, 0, 0, 0, .null), (1, 1, .istore_n 3, 3, 0, 0, .null), (2, 1, .iload_n 1, 1, 0, 0, .null), (3, 1, .iconst 1, 0, 0, 0, .int 1), (4, 1, .isub, 0, 0, 0, .null), 
  (5, 2, .istore 4, 4, 0, 0, .null), (7, 2, .iload 4, 4, 0, 0, .null), (9, 1, .iload_n 2, 2, 0, 0, .null), (10, 3, .if_icmp .le 14, 24, 0, 0, .null), 
  (13, 1, .iload_n 3, 3, 0, 0, .null), (14, 2, .bipush 10, 0, 0, 0, .int 10), (16, 1, .idiv, 0, 0, 0, .null), (17, 1, .istore_n 3, 3, 0, 0, .null), 
  (18, 3, .iinc 4 (-1), 4, 0, 0, .int (-1)), (21, 3, .goto (-14), 7, 0, 0, .null), (24, 1, .iload_n 3, 3, 0, 0, .null), (25, 2, .bipush 10, 0, 0, 0, .int 10), 
  (27, 1, .irem, 0, 0, 0, .null), (28, 1, .ireturn, 0, 0, 0, .null)]
theorem okX12_digitAt : tX12_digitAt.all (okI yX12_digitAt.cls (decide (yX12_digitAt.name = "<init>")) cX12_digitAt) = true := by decide +kernel
def tX12_layTrain : List CI := [
  (0, 1, .iconst 0, 0, 0, 0, .int 0), (1, 1, .istore_n 3, 3, 0, 0, .null), (2, 1, .iload_n 3, 3, 0, 0, .null), (3, 1, .iload_n 2, 2, 0, 0, .null), 
  (4, 3, .if_icmp .ge 21, 25, 0, 0, .null), (7, 1, .aload_n 0, 0, 0, 0, .null), (8, 3, .getfield 77, 11, 30, 890, .null), (11, 1, .iload_n 3, 3, 0, 0, .null), 
  (12, 1, .iload_n 1, 1, 0, 0, .null), (13, 1, .iload_n 2, 2, 0, 0, .null), (14, 1, .iload_n 3, 3, 0, 0, .null), (15, 3, .invokestatic 229, 0, 0, 0, .null), 
  (18, 1, .iastore, 0, 0, 0, .null), (19, 3, .iinc 3 1, 3, 0, 0, .int 1), (22, 3, .goto (-20), 2, 0, 0, .null), (25, 1, .return_, 0, 0, 0, .null)]
theorem okX12_layTrain : tX12_layTrain.all (okI yX12_layTrain.cls (decide (yX12_layTrain.name = "<init>")) cX12_layTrain) = true := by decide +kernel
def tX12_placeOf : List CI := [
  (0, 1, .iconst 0, 0, 0, 0, .int 0), (1, 1, .istore_n 3, 3, 0, 0, .null), (2, 1, .iconst 0, 0, 0, 0, .int 0), (3, 2, .istore 4, 4, 0, 0, .null), (5, 2, .iload 4, 4, 0, 0, .null), 
  (7, 1, .iload_n 2, 2, 0, 0, .null), (8, 3, .if_icmp .ge 29, 37, 0, 0, .null), (11, 1, .aload_n 0, 0, 0, 0, .null), (12, 3, .getfield 77, 11, 30, 890, .null), 
  (15, 2, .iload 4, 4, 0, 0, .null), (17, 1, .iaload, 0, 0, 0, .null), (18, 1, .iload_n 1, 1, 0, 0, .null), (19, 3, .if_icmp .ne 10, 29, 0, 0, .null), 
  (22, 2, .iload 4, 4, 0, 0, .null), (24, 1, .iconst 1, 0, 0, 0, .int 1), (25, 1, .iadd, 0, 0, 0, .null), (26, 3, .goto 4, 30, 0, 0, .null), (29, 1, .iload_n 3, 3, 0, 0, .null), 
  (30, 1, .istore_n 3, 3, 0, 0, .null), (31, 3, .iinc 4 1, 4, 0, 0, .int 1), (34, 3, .goto (-29), 5, 0, 0, .null), (37, 1, .iload_n 3, 3, 0, 0, .null), 
  (38, 1, .ireturn, 0, 0, 0, .null)]
theorem okX12_placeOf : tX12_placeOf.all (okI yX12_placeOf.cls (decide (yX12_placeOf.name = "<init>")) cX12_placeOf) = true := by decide +kernel
def tX12_layOrder : List CI := [
  (0, 1, .iconst 0, 0, 0, 0, .int 0), (1, 1, .istore_n 3, 3, 0, 0, .null), (2, 1, .iload_n 3, 3, 0, 0, .null), (3, 1, .iload_n 2, 2, 0, 0, .null), 
  (4, 3, .if_icmp .ge 26, 30, 0, 0, .null), (7, 1, .aload_n 0, 0, 0, 0, .null), (8, 3, .getfield 74, 11, 29, 889, .null), (11, 1, .iload_n 3, 3, 0, 0, .null), 
  (12, 1, .aload_n 0, 0, 0, 0, .null), (13, 1, .iload_n 1, 1, 0, 0, .null), (14, 1, .iload_n 2, 2, 0, 0, .null), (15, 1, .iload_n 3, 3, 0, 0, .null), 
  (16, 3, .invokestatic 229, 0, 0, 0, .null), (19, 1, .iload_n 2, 2, 0, 0, .null), (20, 3, .invokevirtual 233, 0, 0, 0, .null), (23, 1, .iastore, 0, 0, 0, .null), 
  (24, 3, .iinc 3 1, 3, 0, 0, .int 1), (27, 3, .goto (-25), 2, 0, 0, .null), (30, 1, .return_, 0, 0, 0, .null)]
theorem okX12_layOrder : tX12_layOrder.all (okI yX12_layOrder.cls (decide (yX12_layOrder.name = "<init>")) cX12_layOrder) = true := by decide +kernel
def tX12_sortedOf : List CI := [
  (0, 1, .iconst 0, 0, 0, 0, .int 0), (1, 1, .istore_n 2, 2, 0, 0, .null), (2, 1, .iconst 1, 0, 0, 0, .int 1), (3, 1, .istore_n 3, 3, 0, 0, .null), 
  (4, 1, .iload_n 3, 3, 0, 0, .null), (5, 1, .iload_n 1, 1, 0, 0, .null), (6, 3, .if_icmp .gt 16, 22, 0, 0, .null), (9, 2, .bipush 10, 0, 0, 0, .int 10), 
  (11, 1, .iload_n 2, 2, 0, 0, .null), (12, 1, .imul, 0, 0, 0, .null), (13, 1, .iload_n 3, 3, 0, 0, .null), (14, 1, .iadd, 0, 0, 0, .null), (15, 1, .istore_n 2, 2, 0, 0, .null), 
  (16, 3, .iinc 3 1, 3, 0, 0, .int 1), (19, 3, .goto (-15), 4, 0, 0, .null), (22, 1, .iload_n 2, 2, 0, 0, .null), (23, 1, .ireturn, 0, 0, 0, .null)]
theorem okX12_sortedOf : tX12_sortedOf.all (okI yX12_sortedOf.cls (decide (yX12_sortedOf.name = "<init>")) cX12_sortedOf) = true := by decide +kernel
def tX12_found : List CI := [
  (0, 1, .aload_n 0, 0, 0, 0, .null), (1, 1, .iload_n 3, 3, 0, 0, .null), (2, 3, .invokevirtual 236, 0, 0, 0, .null), (5, 1, .aload_n 0, 0, 0, 0, .null), 
  (6, 1, .iload_n 1, 1, 0, 0, .null), (7, 1, .iload_n 3, 3, 0, 0, .null), (8, 3, .invokevirtual 239, 0, 0, 0, .null), (11, 1, .aload_n 0, 0, 0, 0, .null), 
  (12, 1, .iload_n 2, 2, 0, 0, .null), (13, 1, .iload_n 3, 3, 0, 0, .null), (14, 3, .invokevirtual 242, 0, 0, 0, .null), (17, 2, .bipush 120, 0, 0, 0, .int 120), 
  (19, 1, .iload_n 3, 3, 0, 0, .null), (20, 1, .imul, 0, 0, 0, .null), (21, 1, .aload_n 0, 0, 0, 0, .null), (22, 1, .iload_n 3, 3, 0, 0, .null), 
  (23, 3, .invokevirtual 224, 0, 0, 0, .null), (26, 1, .iadd, 0, 0, 0, .null), (27, 1, .ireturn, 0, 0, 0, .null)]
theorem okX12_found : tX12_found.all (okI yX12_found.cls (decide (yX12_found.name = "<init>")) cX12_found) = true := by decide +kernel
def tX12_areTwo : List CI := [
  (0, 1, .iload_n 0, 0, 0, 0, .null), (1, 3, .invokestatic 245, 0, 0, 0, .null), (4, 3, .ifCond .le 18, 22, 0, 0, .null), (7, 1, .iload_n 1, 1, 0, 0, .null), 
  (8, 3, .invokestatic 245, 0, 0, 0, .null), (11, 1, .iload_n 0, 0, 0, 0, .null), (12, 3, .invokestatic 245, 0, 0, 0, .null), (15, 3, .if_icmp .ne 7, 22, 0, 0, .null), 
  (18, 1, .iconst 1, 0, 0, 0, .int 1), (19, 3, .goto 4, 23, 0, 0, .null), (22, 1, .iconst 0, 0, 0, 0, .int 0), (23, 1, .ireturn, 0, 0, 0, .null)]
theorem okX12_areTwo : tX12_areTwo.all (okI yX12_areTwo.cls (decide (yX12_areTwo.name = "<init>")) cX12_areTwo) = true := by decide +kernel
def tX12_least : List CI := [
  (0, 1, .iload_n 1, 1, 0, 0, .null), (1, 1, .iload_n 2, 2, 0, 0, .null), (2, 3, .invokestatic 248, 0, 0, 0, .null), (5, 3, .ifCond .eq 21, 26, 0, 0, .null), 
  (8, 1, .aload_n 0, 0, 0, 0, .null), (9, 3, .getfield 64, 11, 26, 886, .null), (12, 1, .aload_n 0, 0, 0, 0, .null), (13, 1, .iload_n 1, 1, 0, 0, .null), 
  (14, 1, .iload_n 2, 2, 0, 0, .null), (15, 1, .iload_n 1, 1, 0, 0, .null), (16, 3, .invokestatic 245, 0, 0, 0, .null), (19, 3, .invokevirtual 251, 0, 0, 0, .null), 
  (22, 1, .iaload, 0, 0, 0, .null), (23, 3, .goto 5, 28, 0, 0, .null), (26, 2, .bipush (-2), 0, 0, 0, .int (-2)), (28, 1, .ireturn, 0, 0, 0, .null)]
theorem okX12_least : tX12_least.all (okI yX12_least.cls (decide (yX12_least.name = "<init>")) cX12_least) = true := by decide +kernel
def tX12_ways : List CI := [
  (0, 1, .iload_n 1, 1, 0, 0, .null), (1, 1, .iload_n 2, 2, 0, 0, .null), (2, 3, .invokestatic 248, 0, 0, 0, .null), (5, 3, .ifCond .eq 21, 26, 0, 0, .null), 
  (8, 1, .aload_n 0, 0, 0, 0, .null), (9, 3, .getfield 67, 11, 27, 887, .null), (12, 1, .aload_n 0, 0, 0, 0, .null), (13, 1, .iload_n 1, 1, 0, 0, .null), 
  (14, 1, .iload_n 2, 2, 0, 0, .null), (15, 1, .iload_n 1, 1, 0, 0, .null), (16, 3, .invokestatic 245, 0, 0, 0, .null), (19, 3, .invokevirtual 251, 0, 0, 0, .null), 
  (22, 1, .laload, 0, 0, 0, .null), (23, 3, .goto 6, 29, 0, 0, .null), (26, 3, .ldc2_w 254, 0, 0, 1124, .long (-2)), (29, 1, .lreturn, 0, 0, 0, .null)]
theorem okX12_ways : tX12_ways.all (okI yX12_ways.cls (decide (yX12_ways.name = "<init>")) cX12_ways) = true := by decide +kernel
def tX12_nextOf : List CI := [
  (0, 1, .iconst 0, 0, 0, 0, .int 0), (1, 2, .istore 4, 4, 0, 0, .null), (3, 2, .iload 4, 4, 0, 0, .null), (5, 3, .sipush 5000, 0, 0, 0, .int 5000), 
  (8, 3, .if_icmp .ge 110, 118, 0, 0, .null), (11, 2, .iload 4, 4, 0, 0, .null), (13, 3, .sipush 1000, 0, 0, 0, .int 1000), (16, 1, .idiv, 0, 0, 0, .null), 
  (17, 2, .istore 5, 5, 0, 0, .null), (19, 2, .iload 4, 4, 0, 0, .null), (21, 2, .bipush 100, 0, 0, 0, .int 100), (23, 1, .idiv, 0, 0, 0, .null), 
  (24, 2, .bipush 10, 0, 0, 0, .int 10), (26, 1, .irem, 0, 0, 0, .null), (27, 2, .istore 6, 6, 0, 0, .null), (29, 2, .iload 4, 4, 0, 0, .null), 
  (31, 2, .bipush 10, 0, 0, 0, .int 10), (33, 1, .idiv, 0, 0, 0, .null), (34, 2, .bipush 10, 0, 0, 0, .int 10), (36, 1, .irem, 0, 0, 0, .null), (37, 2, .istore 7, 7, 0, 0, .null), 
  (39, 2, .iload 4, 4, 0, 0, .null), (41, 2, .bipush 10, 0, 0, 0, .int 10), (43, 1, .irem, 0, 0, 0, .null), (44, 2, .istore 8, 8, 0, 0, .null), 
  (46, 1, .aload_n 0, 0, 0, 0, .null), (47, 2, .iload 5, 5, 0, 0, .null), (49, 2, .iload 6, 6, 0, 0, .null), (51, 2, .iload 7, 7, 0, 0, .null), (53, 2, .iload 8, 8, 0, 0, .null), 
  (55, 3, .invokevirtual 256, 0, 0, 0, .null), (58, 3, .ifCond .eq 54, 112, 0, 0, .null), (61, 1, .aload_n 0, 0, 0, 0, .null), (62, 1, .iload_n 1, 1, 0, 0, .null), 
  (63, 3, .invokevirtual 194, 0, 0, 0, .null), (66, 1, .aload_n 0, 0, 0, 0, .null), (67, 2, .iload 5, 5, 0, 0, .null), (69, 2, .iload 6, 6, 0, 0, .null), 
  (71, 2, .iload 7, 7, 0, 0, .null), (73, 2, .iload 8, 8, 0, 0, .null), (75, 1, .iload_n 2, 2, 0, 0, .null), (76, 3, .invokevirtual 209, 0, 0, 0, .null), 
  (79, 3, .ifCond .eq 33, 112, 0, 0, .null), (82, 1, .aload_n 0, 0, 0, 0, .null), (83, 2, .iload 5, 5, 0, 0, .null), (85, 2, .iload 6, 6, 0, 0, .null), 
  (87, 2, .iload 7, 7, 0, 0, .null), (89, 2, .iload 8, 8, 0, 0, .null), (91, 3, .invokevirtual 213, 0, 0, 0, .null), (94, 1, .aload_n 0, 0, 0, 0, .null), 
  (95, 1, .aload_n 0, 0, 0, 0, .null), (96, 3, .invokevirtual 217, 0, 0, 0, .null), (99, 1, .iload_n 2, 2, 0, 0, .null), (100, 3, .invokevirtual 220, 0, 0, 0, .null), 
  (103, 1, .iload_n 3, 3, 0, 0, .null), (104, 1, .iconst 1, 0, 0, 0, .int 1), (105, 1, .isub, 0, 0, 0, .null), (106, 3, .if_icmp .ne 6, 112, 0, 0, .null), 
  (109, 2, .iload 4, 4, 0, 0, .null), (111, 1, .ireturn, 0, 0, 0, .null), (112, 3, .iinc 4 1, 4, 0, 0, .int 1), (115, 3, .goto (-112), 3, 0, 0, .null), 
  (118, 2, .bipush (-6), 0, 0, 0, .int (-6)), (120, 1, .ireturn, 0, 0, 0, .null)]
theorem okX12_nextOf : tX12_nextOf.all (okI yX12_nextOf.cls (decide (yX12_nextOf.name = "<init>")) cX12_nextOf) = true := by decide +kernel
def tX12_isMove : List CI := [
  (0, 1, .iload_n 1, 1, 0, 0, .null), (1, 1, .i2l, 0, 0, 0, .null), (2, 1, .lconst 0, 0, 0, 0, .long 0), (3, 1, .aload_n 0, 0, 0, 0, .null), 
  (4, 3, .getfield 101, 11, 4, 864, .null), (7, 1, .i2l, 0, 0, 0, .null), (8, 3, .invokestatic 121, 0, 0, 0, .null), (11, 3, .ifCond .eq 37, 48, 0, 0, .null), 
  (14, 1, .iload_n 2, 2, 0, 0, .null), (15, 1, .iconst 2, 0, 0, 0, .int 2), (16, 3, .if_icmp .ge 32, 48, 0, 0, .null), (19, 1, .iload_n 3, 3, 0, 0, .null), 
  (20, 1, .iconst 5, 0, 0, 0, .int 5), (21, 3, .if_icmp .eq 17, 38, 0, 0, .null), (24, 1, .iload_n 3, 3, 0, 0, .null), (25, 1, .i2l, 0, 0, 0, .null), 
  (26, 1, .lconst 1, 0, 0, 0, .long 1), (27, 1, .aload_n 0, 0, 0, 0, .null), (28, 3, .getfield 101, 11, 4, 864, .null), (31, 1, .i2l, 0, 0, 0, .null), 
  (32, 3, .invokestatic 121, 0, 0, 0, .null), (35, 3, .ifCond .eq 13, 48, 0, 0, .null), (38, 2, .iload 4, 4, 0, 0, .null), (40, 1, .iconst 2, 0, 0, 0, .int 2), 
  (41, 3, .if_icmp .ge 7, 48, 0, 0, .null), (44, 1, .iconst 1, 0, 0, 0, .int 1), (45, 3, .goto 4, 49, 0, 0, .null), (48, 1, .iconst 0, 0, 0, 0, .int 0), 
  (49, 1, .ireturn, 0, 0, 0, .null)]
theorem okX12_isMove : tX12_isMove.all (okI yX12_isMove.cls (decide (yX12_isMove.name = "<init>")) cX12_isMove) = true := by decide +kernel
def tX12_moved : List CI := [
  (0, 1, .aload_n 0, 0, 0, 0, .null), (1, 1, .iload_n 1, 1, 0, 0, .null), (2, 3, .invokevirtual 194, 0, 0, 0, .null), (5, 1, .aload_n 0, 0, 0, 0, .null), 
  (6, 1, .iload_n 2, 2, 0, 0, .null), (7, 3, .sipush 1000, 0, 0, 0, .int 1000), (10, 1, .idiv, 0, 0, 0, .null), (11, 1, .iload_n 2, 2, 0, 0, .null), 
  (12, 2, .bipush 100, 0, 0, 0, .int 100), (14, 1, .idiv, 0, 0, 0, .null), (15, 2, .bipush 10, 0, 0, 0, .int 10), (17, 1, .irem, 0, 0, 0, .null), 
  (18, 1, .iload_n 2, 2, 0, 0, .null), (19, 2, .bipush 10, 0, 0, 0, .int 10), (21, 1, .idiv, 0, 0, 0, .null), (22, 2, .bipush 10, 0, 0, 0, .int 10), 
  (24, 1, .irem, 0, 0, 0, .null), (25, 1, .iload_n 2, 2, 0, 0, .null), (26, 2, .bipush 10, 0, 0, 0, .int 10), (28, 1, .irem, 0, 0, 0, .null), 
  (29, 3, .invokevirtual 213, 0, 0, 0, .null), (32, 1, .aload_n 0, 0, 0, 0, .null), (33, 3, .invokevirtual 217, 0, 0, 0, .null), (36, 1, .ireturn, 0, 0, 0, .null)]
theorem okX12_moved : tX12_moved.all (okI yX12_moved.cls (decide (yX12_moved.name = "<init>")) cX12_moved) = true := by decide +kernel
def tX12_want : List CI := [
  (0, 1, .aload_n 0, 0, 0, 0, .null), (1, 1, .iload_n 1, 1, 0, 0, .null), (2, 1, .iload_n 3, 3, 0, 0, .null), (3, 3, .invokevirtual 239, 0, 0, 0, .null), 
  (6, 1, .aload_n 0, 0, 0, 0, .null), (7, 1, .iload_n 2, 2, 0, 0, .null), (8, 1, .iload_n 3, 3, 0, 0, .null), (9, 3, .invokevirtual 242, 0, 0, 0, .null), 
  (12, 1, .iconst 0, 0, 0, 0, .int 0), (13, 2, .istore 4, 4, 0, 0, .null), (15, 2, .iload 4, 4, 0, 0, .null), (17, 1, .iload_n 3, 3, 0, 0, .null), 
  (18, 3, .if_icmp .ge 23, 41, 0, 0, .null), (21, 1, .aload_n 0, 0, 0, 0, .null), (22, 3, .getfield 61, 11, 24, 884, .null), (25, 2, .iload 4, 4, 0, 0, .null), 
  (27, 1, .aload_n 0, 0, 0, 0, .null), (28, 3, .getfield 74, 11, 29, 889, .null), (31, 2, .iload 4, 4, 0, 0, .null), (33, 1, .iaload, 0, 0, 0, .null), 
  (34, 1, .iastore, 0, 0, 0, .null), (35, 3, .iinc 4 1, 4, 0, 0, .int 1), (38, 3, .goto (-23), 15, 0, 0, .null), (41, 1, .aload_n 0, 0, 0, 0, .null), 
  (42, 1, .iload_n 3, 3, 0, 0, .null), (43, 3, .putfield 191, 11, 25, 885, .int 0), (46, 1, .return_, 0, 0, 0, .null)]
theorem okX12_want : tX12_want.all (okI yX12_want.cls (decide (yX12_want.name = "<init>")) cX12_want) = true := by decide +kernel
def tX12_first : List CI := [
  (0, 1, .iload_n 1, 1, 0, 0, .null), (1, 1, .iload_n 2, 2, 0, 0, .null), (2, 3, .invokestatic 248, 0, 0, 0, .null), (5, 3, .ifCond .ne 6, 11, 0, 0, .null), 
  (8, 2, .bipush (-2), 0, 0, 0, .int (-2)), (10, 1, .ireturn, 0, 0, 0, .null), (11, 1, .iload_n 1, 1, 0, 0, .null), (12, 3, .invokestatic 245, 0, 0, 0, .null), 
  (15, 2, .istore 4, 4, 0, 0, .null), (17, 1, .aload_n 0, 0, 0, 0, .null), (18, 3, .getfield 64, 11, 26, 886, .null), (21, 1, .aload_n 0, 0, 0, 0, .null), 
  (22, 1, .iload_n 1, 1, 0, 0, .null), (23, 1, .iload_n 2, 2, 0, 0, .null), (24, 2, .iload 4, 4, 0, 0, .null), (26, 3, .invokevirtual 251, 0, 0, 0, .null), 
  (29, 1, .iaload, 0, 0, 0, .null), (30, 2, .istore 5, 5, 0, 0, .null), (32, 1, .iload_n 3, 3, 0, 0, .null), (33, 1, .i2l, 0, 0, 0, .null), (34, 1, .lconst 0, 0, 0, 0, .long 0), 
  (35, 2, .iload 5, 5, 0, 0, .null), (37, 1, .iconst 1, 0, 0, 0, .int 1), (38, 1, .isub, 0, 0, 0, .null), (39, 1, .i2l, 0, 0, 0, .null), 
  (40, 3, .invokestatic 121, 0, 0, 0, .null), (43, 3, .ifCond .ne 6, 49, 0, 0, .null), (46, 2, .bipush (-6), 0, 0, 0, .int (-6)), (48, 1, .ireturn, 0, 0, 0, .null), 
  (49, 1, .aload_n 0, 0, 0, 0, .null), (50, 1, .iload_n 1, 1, 0, 0, .null), (51, 1, .iload_n 2, 2, 0, 0, .null), (52, 2, .iload 4, 4, 0, 0, .null), 
  (54, 3, .invokevirtual 260, 0, 0, 0, .null), (57, 1, .iconst 0, 0, 0, 0, .int 0), (58, 2, .istore 6, 6, 0, 0, .null), (60, 2, .bipush (-6), 0, 0, 0, .int (-6)), 
  (62, 2, .istore 7, 7, 0, 0, .null), (64, 1, .iconst 0, 0, 0, 0, .int 0), (65, 2, .istore 8, 8, 0, 0, .null), (67, 2, .iload 8, 8, 0, 0, .null), 
  (69, 1, .iload_n 3, 3, 0, 0, .null), (70, 3, .if_icmp .gt 34, 104, 0, 0, .null), (73, 1, .aload_n 0, 0, 0, 0, .null), (74, 2, .iload 6, 6, 0, 0, .null), 
  (76, 2, .iload 4, 4, 0, 0, .null), (78, 2, .iload 5, 5, 0, 0, .null), (80, 2, .iload 8, 8, 0, 0, .null), (82, 1, .isub, 0, 0, 0, .null), 
  (83, 3, .invokevirtual 264, 0, 0, 0, .null), (86, 2, .istore 7, 7, 0, 0, .null), (88, 1, .aload_n 0, 0, 0, 0, .null), (89, 2, .iload 6, 6, 0, 0, .null), 
  (91, 2, .iload 7, 7, 0, 0, .null), (93, 3, .invokevirtual 267, 0, 0, 0, .null), (96, 2, .istore 6, 6, 0, 0, .null), (98, 3, .iinc 8 1, 8, 0, 0, .int 1), 
  (101, 3, .goto (-34), 67, 0, 0, .null), (104, 2, .iload 7, 7, 0, 0, .null), (106, 1, .ireturn, 0, 0, 0, .null)]
theorem okX12_first : tX12_first.all (okI yX12_first.cls (decide (yX12_first.name = "<init>")) cX12_first) = true := by decide +kernel
def tX12_orders : List CI := [
  (0, 1, .iload_n 1, 1, 0, 0, .null), (1, 3, .invokestatic 245, 0, 0, 0, .null), (4, 1, .istore_n 3, 3, 0, 0, .null), (5, 1, .iload_n 3, 3, 0, 0, .null), 
  (6, 3, .ifCond .ne 6, 12, 0, 0, .null), (9, 2, .bipush (-2), 0, 0, 0, .int (-2)), (11, 1, .ireturn, 0, 0, 0, .null), (12, 1, .aload_n 0, 0, 0, 0, .null), 
  (13, 1, .iload_n 3, 3, 0, 0, .null), (14, 3, .invokevirtual 236, 0, 0, 0, .null), (17, 1, .aload_n 0, 0, 0, 0, .null), (18, 1, .iload_n 1, 1, 0, 0, .null), 
  (19, 1, .iload_n 3, 3, 0, 0, .null), (20, 3, .invokevirtual 239, 0, 0, 0, .null), (23, 1, .iconst 0, 0, 0, 0, .int 0), (24, 2, .istore 4, 4, 0, 0, .null), 
  (26, 1, .iconst 0, 0, 0, 0, .int 0), (27, 2, .istore 5, 5, 0, 0, .null), (29, 2, .iload 5, 5, 0, 0, .null), (31, 1, .iload_n 3, 3, 0, 0, .null), 
  (32, 3, .invokestatic 270, 0, 0, 0, .null), (35, 3, .if_icmp .ge 82, 117, 0, 0, .null), (38, 1, .aload_n 0, 0, 0, 0, .null), (39, 3, .getfield 64, 11, 26, 886, .null), 
  (42, 2, .bipush 120, 0, 0, 0, .int 120), (44, 1, .iload_n 3, 3, 0, 0, .null), (45, 1, .imul, 0, 0, 0, .null), (46, 2, .iload 5, 5, 0, 0, .null), (48, 1, .iadd, 0, 0, 0, .null), 
  (49, 1, .iaload, 0, 0, 0, .null), (50, 3, .ifCond .lt 61, 111, 0, 0, .null), (53, 1, .aload_n 0, 0, 0, 0, .null), (54, 2, .iload 5, 5, 0, 0, .null), 
  (56, 1, .iload_n 3, 3, 0, 0, .null), (57, 3, .invokevirtual 273, 0, 0, 0, .null), (60, 1, .iconst 0, 0, 0, 0, .int 0), (61, 2, .istore 6, 6, 0, 0, .null), 
  (63, 1, .iconst 0, 0, 0, 0, .int 0), (64, 2, .istore 7, 7, 0, 0, .null), (66, 2, .iload 7, 7, 0, 0, .null), (68, 1, .iload_n 3, 3, 0, 0, .null), 
  (69, 3, .if_icmp .ge 31, 100, 0, 0, .null), (72, 2, .bipush 10, 0, 0, 0, .int 10), (74, 2, .iload 6, 6, 0, 0, .null), (76, 1, .imul, 0, 0, 0, .null), 
  (77, 1, .aload_n 0, 0, 0, 0, .null), (78, 3, .getfield 77, 11, 30, 890, .null), (81, 1, .aload_n 0, 0, 0, 0, .null), (82, 3, .getfield 74, 11, 29, 889, .null), 
  (85, 2, .iload 7, 7, 0, 0, .null), (87, 1, .iaload, 0, 0, 0, .null), (88, 1, .iconst 1, 0, 0, 0, .int 1), (89, 1, .isub, 0, 0, 0, .null), (90, 1, .iaload, 0, 0, 0, .null), 
  (91, 1, .iadd, 0, 0, 0, .null), (92, 2, .istore 6, 6, 0, 0, .null), (94, 3, .iinc 7 1, 7, 0, 0, .int 1), (97, 3, .goto (-31), 66, 0, 0, .null), 
  (100, 1, .aload_n 0, 0, 0, 0, .null), (101, 2, .iload 4, 4, 0, 0, .null), (103, 2, .iload 6, 6, 0, 0, .null), (105, 3, .invokevirtual 276, 0, 0, 0, .null), 
  (108, 3, .iinc 4 1, 4, 0, 0, .int 1), (111, 3, .iinc 5 1, 5, 0, 0, .int 1), (114, 3, .goto (-85), 29, 0, 0, .null), (117, 1, .iload_n 2, 2, 0, 0, .null), 
  (118, 1, .iconst (-1), 0, 0, 0, .int (-1)), (119, 3, .if_icmp .ne 8, 127, 0, 0, .null), (122, 2, .iload 4, 4, 0, 0, .null), (124, 3, .goto 28, 152, 0, 0, .null), 
  (127, 1, .iload_n 2, 2, 0, 0, .null), (128, 1, .i2l, 0, 0, 0, .null), (129, 1, .lconst 0, 0, 0, 0, .long 0), (130, 2, .iload 4, 4, 0, 0, .null), 
  (132, 1, .iconst 1, 0, 0, 0, .int 1), (133, 1, .isub, 0, 0, 0, .null), (134, 1, .i2l, 0, 0, 0, .null), (135, 3, .invokestatic 121, 0, 0, 0, .null), 
  (138, 3, .ifCond .eq 12, 150, 0, 0, .null), (141, 1, .aload_n 0, 0, 0, 0, .null), (142, 3, .getfield 80, 11, 31, 891, .null), (145, 1, .iload_n 2, 2, 0, 0, .null), 
  (146, 1, .iaload, 0, 0, 0, .null), (147, 3, .goto 5, 152, 0, 0, .null), (150, 2, .bipush (-6), 0, 0, 0, .int (-6)), (152, 1, .ireturn, 0, 0, 0, .null)]
theorem okX12_orders : tX12_orders.all (okI yX12_orders.cls (decide (yX12_orders.name = "<init>")) cX12_orders) = true := by decide +kernel
def tX12_insert : List CI := [
  (0, 1, .iload_n 1, 1, 0, 0, .null), (1, 1, .istore_n 3, 3, 0, 0, .null), (2, 1, .iload_n 3, 3, 0, 0, .null), (3, 3, .ifCond .le 35, 38, 0, 0, .null), 
  (6, 1, .aload_n 0, 0, 0, 0, .null), (7, 3, .getfield 80, 11, 31, 891, .null), (10, 1, .iload_n 3, 3, 0, 0, .null), (11, 1, .iconst 1, 0, 0, 0, .int 1), 
  (12, 1, .isub, 0, 0, 0, .null), (13, 1, .iaload, 0, 0, 0, .null), (14, 1, .iload_n 2, 2, 0, 0, .null), (15, 3, .if_icmp .le 23, 38, 0, 0, .null), 
  (18, 1, .aload_n 0, 0, 0, 0, .null), (19, 3, .getfield 80, 11, 31, 891, .null), (22, 1, .iload_n 3, 3, 0, 0, .null), (23, 1, .aload_n 0, 0, 0, 0, .null), 
  (24, 3, .getfield 80, 11, 31, 891, .null), (27, 1, .iload_n 3, 3, 0, 0, .null), (28, 1, .iconst 1, 0, 0, 0, .int 1), (29, 1, .isub, 0, 0, 0, .null), 
  (30, 1, .iaload, 0, 0, 0, .null), (31, 1, .iastore, 0, 0, 0, .null), (32, 3, .iinc 3 (-1), 3, 0, 0, .int (-1)), (35, 3, .goto (-33), 2, 0, 0, .null), 
  (38, 1, .aload_n 0, 0, 0, 0, .null), (39, 3, .getfield 80, 11, 31, 891, .null), (42, 1, .iload_n 3, 3, 0, 0, .null), (43, 1, .iload_n 2, 2, 0, 0, .null), 
  (44, 1, .iastore, 0, 0, 0, .null), (45, 1, .return_, 0, 0, 0, .null)]
theorem okX12_insert : tX12_insert.all (okI yX12_insert.cls (decide (yX12_insert.name = "<init>")) cX12_insert) = true := by decide +kernel
def tX12_trainOf : List CI := [
  (0, 1, .aload_n 0, 0, 0, 0, .null), (1, 1, .iload_n 1, 1, 0, 0, .null), (2, 1, .iload_n 2, 2, 0, 0, .null), (3, 3, .invokevirtual 273, 0, 0, 0, .null), 
  (6, 1, .iconst 0, 0, 0, 0, .int 0), (7, 1, .istore_n 3, 3, 0, 0, .null), (8, 1, .iconst 0, 0, 0, 0, .int 0), (9, 2, .istore 4, 4, 0, 0, .null), 
  (11, 2, .iload 4, 4, 0, 0, .null), (13, 1, .iload_n 2, 2, 0, 0, .null), (14, 3, .if_icmp .ge 22, 36, 0, 0, .null), (17, 2, .bipush 10, 0, 0, 0, .int 10), 
  (19, 1, .iload_n 3, 3, 0, 0, .null), (20, 1, .imul, 0, 0, 0, .null), (21, 1, .aload_n 0, 0, 0, 0, .null), (22, 3, .getfield 74, 11, 29, 889, .null), 
  (25, 2, .iload 4, 4, 0, 0, .null), (27, 1, .iaload, 0, 0, 0, .null), (28, 1, .iadd, 0, 0, 0, .null), (29, 1, .istore_n 3, 3, 0, 0, .null), (30, 3, .iinc 4 1, 4, 0, 0, .int 1), 
  (33, 3, .goto (-22), 11, 0, 0, .null), (36, 1, .iload_n 3, 3, 0, 0, .null), (37, 1, .ireturn, 0, 0, 0, .null)]
theorem okX12_trainOf : tX12_trainOf.all (okI yX12_trainOf.cls (decide (yX12_trainOf.name = "<init>")) cX12_trainOf) = true := by decide +kernel
def tX12_sortFar : List CI := [
  (0, 1, .aload_n 0, 0, 0, 0, .null), (1, 3, .getfield 64, 11, 26, 886, .null), (4, 1, .aload_n 0, 0, 0, 0, .null), (5, 1, .iload_n 1, 1, 0, 0, .null), 
  (6, 1, .aload_n 0, 0, 0, 0, .null), (7, 1, .iload_n 2, 2, 0, 0, .null), (8, 3, .invokevirtual 279, 0, 0, 0, .null), (11, 1, .iload_n 2, 2, 0, 0, .null), 
  (12, 3, .invokevirtual 251, 0, 0, 0, .null), (15, 1, .iaload, 0, 0, 0, .null), (16, 1, .ireturn, 0, 0, 0, .null)]
theorem okX12_sortFar : tX12_sortFar.all (okI yX12_sortFar.cls (decide (yX12_sortFar.name = "<init>")) cX12_sortFar) = true := by decide +kernel
def tX12_isCount : List CI := [
  (0, 1, .iload_n 0, 0, 0, 0, .null), (1, 1, .i2l, 0, 0, 0, .null), (2, 1, .lconst 1, 0, 0, 0, .long 1), (3, 3, .ldc2_w 148, 0, 0, 1036, .long 5), 
  (6, 3, .invokestatic 121, 0, 0, 0, .null), (9, 1, .ireturn, 0, 0, 0, .null)]
theorem okX12_isCount : tX12_isCount.all (okI yX12_isCount.cls (decide (yX12_isCount.name = "<init>")) cX12_isCount) = true := by decide +kernel
def tX12_good : List CI := [
  (0, 1, .iload_n 1, 1, 0, 0, .null), (1, 3, .invokestatic 282, 0, 0, 0, .null), (4, 3, .ifCond .eq 13, 17, 0, 0, .null), (7, 1, .iload_n 2, 2, 0, 0, .null), 
  (8, 1, .i2l, 0, 0, 0, .null), (9, 1, .lconst 0, 0, 0, 0, .long 0), (10, 1, .lconst 1, 0, 0, 0, .long 1), (11, 3, .invokestatic 121, 0, 0, 0, .null), 
  (14, 3, .ifCond .ne 6, 20, 0, 0, .null), (17, 2, .bipush (-2), 0, 0, 0, .int (-2)), (19, 1, .ireturn, 0, 0, 0, .null), (20, 1, .iconst 0, 0, 0, 0, .int 0), 
  (21, 1, .istore_n 3, 3, 0, 0, .null), (22, 2, .bipush (-6), 0, 0, 0, .int (-6)), (24, 2, .istore 4, 4, 0, 0, .null), (26, 1, .iload_n 1, 1, 0, 0, .null), 
  (27, 3, .invokestatic 270, 0, 0, 0, .null), (30, 1, .iconst 1, 0, 0, 0, .int 1), (31, 1, .isub, 0, 0, 0, .null), (32, 2, .istore 5, 5, 0, 0, .null), 
  (34, 2, .iload 5, 5, 0, 0, .null), (36, 3, .ifCond .lt 38, 74, 0, 0, .null), (39, 1, .aload_n 0, 0, 0, 0, .null), (40, 2, .iload 5, 5, 0, 0, .null), 
  (42, 1, .iload_n 1, 1, 0, 0, .null), (43, 3, .invokevirtual 285, 0, 0, 0, .null), (46, 2, .istore 6, 6, 0, 0, .null), (48, 1, .aload_n 0, 0, 0, 0, .null), 
  (49, 2, .iload 6, 6, 0, 0, .null), (51, 1, .iload_n 1, 1, 0, 0, .null), (52, 3, .invokevirtual 288, 0, 0, 0, .null), (55, 3, .ifCond .lt 9, 64, 0, 0, .null), 
  (58, 3, .iinc 3 1, 3, 0, 0, .int 1), (61, 3, .goto 7, 68, 0, 0, .null), (64, 2, .iload 6, 6, 0, 0, .null), (66, 2, .istore 4, 4, 0, 0, .null), 
  (68, 3, .iinc 5 (-1), 5, 0, 0, .int (-1)), (71, 3, .goto (-37), 34, 0, 0, .null), (74, 1, .iload_n 2, 2, 0, 0, .null), (75, 3, .ifCond .ne 7, 82, 0, 0, .null), 
  (78, 1, .iload_n 3, 3, 0, 0, .null), (79, 3, .goto 5, 84, 0, 0, .null), (82, 2, .iload 4, 4, 0, 0, .null), (84, 1, .ireturn, 0, 0, 0, .null)]
theorem okX12_good : tX12_good.all (okI yX12_good.cls (decide (yX12_good.name = "<init>")) cX12_good) = true := by decide +kernel
def tX12_mean : List CI := [
  (0, 1, .iload_n 1, 1, 0, 0, .null), (1, 3, .invokestatic 282, 0, 0, 0, .null), (4, 3, .ifCond .eq 13, 17, 0, 0, .null), (7, 1, .iload_n 2, 2, 0, 0, .null), 
  (8, 1, .i2l, 0, 0, 0, .null), (9, 1, .lconst 0, 0, 0, 0, .long 0), (10, 1, .lconst 1, 0, 0, 0, .long 1), (11, 3, .invokestatic 121, 0, 0, 0, .null), 
  (14, 3, .ifCond .ne 7, 21, 0, 0, .null), (17, 3, .ldc2_w 291, 0, 0, 1174, .long (-1000000000000000002)), (20, 1, .lreturn, 0, 0, 0, .null), (21, 1, .lconst 0, 0, 0, 0, .long 0), 
  (22, 1, .lstore_n 3, 3, 0, 0, .null), (23, 1, .lconst 0, 0, 0, 0, .long 0), (24, 2, .lstore 5, 5, 0, 0, .null), (26, 1, .iconst 0, 0, 0, 0, .int 0), 
  (27, 2, .istore 7, 7, 0, 0, .null), (29, 2, .iload 7, 7, 0, 0, .null), (31, 1, .iload_n 1, 1, 0, 0, .null), (32, 3, .invokestatic 270, 0, 0, 0, .null), 
  (35, 3, .if_icmp .ge 53, 88, 0, 0, .null), (38, 1, .aload_n 0, 0, 0, 0, .null), (39, 1, .aload_n 0, 0, 0, 0, .null), (40, 2, .iload 7, 7, 0, 0, .null), 
  (42, 1, .iload_n 1, 1, 0, 0, .null), (43, 3, .invokevirtual 285, 0, 0, 0, .null), (46, 1, .iload_n 1, 1, 0, 0, .null), (47, 3, .invokevirtual 288, 0, 0, 0, .null), 
  (50, 2, .istore 8, 8, 0, 0, .null), (52, 1, .lload_n 3, 3, 0, 0, .null), (53, 2, .iload 8, 8, 0, 0, .null), (55, 3, .ifCond .ge 7, 62, 0, 0, .null), 
  (58, 1, .lconst 0, 0, 0, 0, .long 0), (59, 3, .goto 6, 65, 0, 0, .null), (62, 2, .iload 8, 8, 0, 0, .null), (64, 1, .i2l, 0, 0, 0, .null), (65, 1, .ladd, 0, 0, 0, .null), 
  (66, 1, .lstore_n 3, 3, 0, 0, .null), (67, 2, .lload 5, 5, 0, 0, .null), (69, 2, .iload 8, 8, 0, 0, .null), (71, 3, .ifCond .ge 7, 78, 0, 0, .null), 
  (74, 1, .lconst 0, 0, 0, 0, .long 0), (75, 3, .goto 4, 79, 0, 0, .null), (78, 1, .lconst 1, 0, 0, 0, .long 1), (79, 1, .ladd, 0, 0, 0, .null), 
  (80, 2, .lstore 5, 5, 0, 0, .null), (82, 3, .iinc 7 1, 7, 0, 0, .int 1), (85, 3, .goto (-56), 29, 0, 0, .null), (88, 1, .lload_n 3, 3, 0, 0, .null), 
  (89, 2, .lload 5, 5, 0, 0, .null), (91, 1, .iload_n 2, 2, 0, 0, .null), (92, 3, .invokestatic 293, 0, 0, 0, .null), (95, 1, .lreturn, 0, 0, 0, .null)]
theorem okX12_mean : tX12_mean.all (okI yX12_mean.cls (decide (yX12_mean.name = "<init>")) cX12_mean) = true := by decide +kernel
def tX12_findNeed : List CI := [
  (0, 1, .aload_n 0, 0, 0, 0, .null), (1, 1, .iload_n 1, 1, 0, 0, .null), (2, 1, .aload_n 0, 0, 0, 0, .null), (3, 1, .iload_n 2, 2, 0, 0, .null), 
  (4, 3, .invokevirtual 279, 0, 0, 0, .null), (7, 1, .iload_n 2, 2, 0, 0, .null), (8, 3, .invokevirtual 260, 0, 0, 0, .null), (11, 1, .iconst 0, 0, 0, 0, .int 0), 
  (12, 1, .istore_n 3, 3, 0, 0, .null), (13, 1, .iload_n 3, 3, 0, 0, .null), (14, 1, .iconst 4, 0, 0, 0, .int 4), (15, 3, .if_icmp .ge 28, 43, 0, 0, .null), 
  (18, 1, .aload_n 0, 0, 0, 0, .null), (19, 3, .getfield 83, 11, 32, 892, .null), (22, 1, .iload_n 3, 3, 0, 0, .null), (23, 1, .aload_n 0, 0, 0, 0, .null), 
  (24, 3, .getfield 13, 11, 1, 861, .null), (27, 1, .iload_n 3, 3, 0, 0, .null), (28, 1, .iaload, 0, 0, 0, .null), (29, 1, .iastore, 0, 0, 0, .null), 
  (30, 1, .aload_n 0, 0, 0, 0, .null), (31, 3, .getfield 13, 11, 1, 861, .null), (34, 1, .iload_n 3, 3, 0, 0, .null), (35, 1, .iconst 1, 0, 0, 0, .int 1), 
  (36, 1, .iastore, 0, 0, 0, .null), (37, 3, .iinc 3 1, 3, 0, 0, .int 1), (40, 3, .goto (-27), 13, 0, 0, .null), (43, 2, .bipush (-6), 0, 0, 0, .int (-6)), 
  (45, 1, .istore_n 3, 3, 0, 0, .null), (46, 1, .iconst 1, 0, 0, 0, .int 1), (47, 2, .istore 4, 4, 0, 0, .null), (49, 2, .iload 4, 4, 0, 0, .null), 
  (51, 3, .ifCond .eq 165, 216, 0, 0, .null), (54, 1, .iconst 0, 0, 0, 0, .int 0), (55, 2, .istore 5, 5, 0, 0, .null), (57, 1, .iconst 0, 0, 0, 0, .int 0), 
  (58, 2, .istore 6, 6, 0, 0, .null), (60, 2, .iload 6, 6, 0, 0, .null), (62, 1, .aload_n 0, 0, 0, 0, .null), (63, 3, .getfield 101, 11, 4, 864, .null), 
  (66, 3, .if_icmp .ge 21, 87, 0, 0, .null), (69, 2, .iload 5, 5, 0, 0, .null), (71, 1, .aload_n 0, 0, 0, 0, .null), (72, 3, .getfield 13, 11, 1, 861, .null), 
  (75, 2, .iload 6, 6, 0, 0, .null), (77, 1, .iaload, 0, 0, 0, .null), (78, 1, .iadd, 0, 0, 0, .null), (79, 2, .istore 5, 5, 0, 0, .null), (81, 3, .iinc 6 1, 6, 0, 0, .int 1), 
  (84, 3, .goto (-24), 60, 0, 0, .null), (87, 1, .iload_n 3, 3, 0, 0, .null), (88, 3, .ifCond .lt 9, 97, 0, 0, .null), (91, 2, .iload 5, 5, 0, 0, .null), 
  (93, 1, .iload_n 3, 3, 0, 0, .null), (94, 3, .if_icmp .ge 47, 141, 0, 0, .null), (97, 1, .aload_n 0, 0, 0, 0, .null), (98, 1, .iconst 0, 0, 0, 0, .int 0), 
  (99, 1, .iload_n 2, 2, 0, 0, .null), (100, 3, .invokevirtual 220, 0, 0, 0, .null), (103, 3, .ifCond .lt 38, 141, 0, 0, .null), (106, 2, .iload 5, 5, 0, 0, .null), 
  (108, 1, .istore_n 3, 3, 0, 0, .null), (109, 1, .iconst 0, 0, 0, 0, .int 0), (110, 2, .istore 6, 6, 0, 0, .null), (112, 2, .iload 6, 6, 0, 0, .null), 
  (114, 1, .aload_n 0, 0, 0, 0, .null), (115, 3, .getfield 101, 11, 4, 864, .null), (118, 3, .if_icmp .ge 23, 141, 0, 0, .null), (121, 1, .aload_n 0, 0, 0, 0, .null), 
  (122, 3, .getfield 86, 11, 33, 893, .null), (125, 2, .iload 6, 6, 0, 0, .null), (127, 1, .aload_n 0, 0, 0, 0, .null), (128, 3, .getfield 13, 11, 1, 861, .null), 
  (131, 2, .iload 6, 6, 0, 0, .null), (133, 1, .iaload, 0, 0, 0, .null), (134, 1, .iastore, 0, 0, 0, .null), (135, 3, .iinc 6 1, 6, 0, 0, .int 1), 
  (138, 3, .goto (-26), 112, 0, 0, .null), (141, 1, .aload_n 0, 0, 0, 0, .null), (142, 3, .getfield 101, 11, 4, 864, .null), (145, 1, .iconst 1, 0, 0, 0, .int 1), 
  (146, 1, .isub, 0, 0, 0, .null), (147, 2, .istore 6, 6, 0, 0, .null), (149, 2, .iload 6, 6, 0, 0, .null), (151, 3, .ifCond .lt 34, 185, 0, 0, .null), 
  (154, 1, .aload_n 0, 0, 0, 0, .null), (155, 3, .getfield 13, 11, 1, 861, .null), (158, 2, .iload 6, 6, 0, 0, .null), (160, 1, .iaload, 0, 0, 0, .null), 
  (161, 1, .aload_n 0, 0, 0, 0, .null), (162, 3, .getfield 83, 11, 32, 892, .null), (165, 2, .iload 6, 6, 0, 0, .null), (167, 1, .iaload, 0, 0, 0, .null), 
  (168, 3, .if_icmp .ne 17, 185, 0, 0, .null), (171, 1, .aload_n 0, 0, 0, 0, .null), (172, 3, .getfield 13, 11, 1, 861, .null), (175, 2, .iload 6, 6, 0, 0, .null), 
  (177, 1, .iconst 1, 0, 0, 0, .int 1), (178, 1, .iastore, 0, 0, 0, .null), (179, 3, .iinc 6 (-1), 6, 0, 0, .int (-1)), (182, 3, .goto (-33), 149, 0, 0, .null), 
  (185, 2, .iload 6, 6, 0, 0, .null), (187, 3, .ifCond .lt 7, 194, 0, 0, .null), (190, 1, .iconst 1, 0, 0, 0, .int 1), (191, 3, .goto 4, 195, 0, 0, .null), 
  (194, 1, .iconst 0, 0, 0, 0, .int 0), (195, 2, .istore 4, 4, 0, 0, .null), (197, 2, .iload 4, 4, 0, 0, .null), (199, 3, .ifCond .eq 14, 213, 0, 0, .null), 
  (202, 1, .aload_n 0, 0, 0, 0, .null), (203, 3, .getfield 13, 11, 1, 861, .null), (206, 2, .iload 6, 6, 0, 0, .null), (208, 1, .dup2, 0, 0, 0, .null), 
  (209, 1, .iaload, 0, 0, 0, .null), (210, 1, .iconst 1, 0, 0, 0, .int 1), (211, 1, .iadd, 0, 0, 0, .null), (212, 1, .iastore, 0, 0, 0, .null), 
  (213, 3, .goto (-164), 49, 0, 0, .null), (216, 1, .iconst 0, 0, 0, 0, .int 0), (217, 2, .istore 5, 5, 0, 0, .null), (219, 2, .iload 5, 5, 0, 0, .null), 
  (221, 1, .iconst 4, 0, 0, 0, .int 4), (222, 3, .if_icmp .ge 23, 245, 0, 0, .null), (225, 1, .aload_n 0, 0, 0, 0, .null), (226, 3, .getfield 13, 11, 1, 861, .null), 
  (229, 2, .iload 5, 5, 0, 0, .null), (231, 1, .aload_n 0, 0, 0, 0, .null), (232, 3, .getfield 83, 11, 32, 892, .null), (235, 2, .iload 5, 5, 0, 0, .null), 
  (237, 1, .iaload, 0, 0, 0, .null), (238, 1, .iastore, 0, 0, 0, .null), (239, 3, .iinc 5 1, 5, 0, 0, .int 1), (242, 3, .goto (-23), 219, 0, 0, .null), 
  (245, 1, .iload_n 3, 3, 0, 0, .null), (246, 1, .ireturn, 0, 0, 0, .null)]
theorem okX12_findNeed : tX12_findNeed.all (okI yX12_findNeed.cls (decide (yX12_findNeed.name = "<init>")) cX12_findNeed) = true := by decide +kernel
def tX12_need : List CI := [
  (0, 1, .iload_n 2, 2, 0, 0, .null), (1, 1, .iconst (-1), 0, 0, 0, .int (-1)), (2, 3, .if_icmp .eq 13, 15, 0, 0, .null), (5, 1, .aload_n 0, 0, 0, 0, .null), 
  (6, 1, .iload_n 2, 2, 0, 0, .null), (7, 3, .invokevirtual 143, 0, 0, 0, .null), (10, 3, .ifCond .ne 5, 15, 0, 0, .null), (13, 1, .iconst (-1), 0, 0, 0, .int (-1)), 
  (14, 1, .ireturn, 0, 0, 0, .null), (15, 1, .iload_n 1, 1, 0, 0, .null), (16, 3, .invokestatic 245, 0, 0, 0, .null), (19, 1, .istore_n 3, 3, 0, 0, .null), 
  (20, 1, .iload_n 3, 3, 0, 0, .null), (21, 3, .ifCond .ne 6, 27, 0, 0, .null), (24, 2, .bipush (-2), 0, 0, 0, .int (-2)), (26, 1, .ireturn, 0, 0, 0, .null), 
  (27, 1, .aload_n 0, 0, 0, 0, .null), (28, 1, .iload_n 1, 1, 0, 0, .null), (29, 1, .iload_n 3, 3, 0, 0, .null), (30, 3, .invokevirtual 297, 0, 0, 0, .null), 
  (33, 2, .istore 4, 4, 0, 0, .null), (35, 2, .iload 4, 4, 0, 0, .null), (37, 3, .ifCond .ge 8, 45, 0, 0, .null), (40, 2, .bipush (-5), 0, 0, 0, .int (-5)), 
  (42, 3, .goto 19, 61, 0, 0, .null), (45, 1, .iload_n 2, 2, 0, 0, .null), (46, 1, .iconst (-1), 0, 0, 0, .int (-1)), (47, 3, .if_icmp .ne 8, 55, 0, 0, .null), 
  (50, 2, .iload 4, 4, 0, 0, .null), (52, 3, .goto 9, 61, 0, 0, .null), (55, 1, .aload_n 0, 0, 0, 0, .null), (56, 3, .getfield 86, 11, 33, 893, .null), 
  (59, 1, .iload_n 2, 2, 0, 0, .null), (60, 1, .iaload, 0, 0, 0, .null), (61, 1, .ireturn, 0, 0, 0, .null)]
theorem okX12_need : tX12_need.all (okI yX12_need.cls (decide (yX12_need.name = "<init>")) cX12_need) = true := by decide +kernel
def tX12_keep : List CI := [
  (0, 1, .iconst 0, 0, 0, 0, .int 0), (1, 1, .istore_n 1, 1, 0, 0, .null), (2, 1, .iload_n 1, 1, 0, 0, .null), (3, 1, .iconst 4, 0, 0, 0, .int 4), 
  (4, 3, .if_icmp .ge 45, 49, 0, 0, .null), (7, 1, .aload_n 0, 0, 0, 0, .null), (8, 3, .getfield 22, 11, 6, 866, .null), (11, 1, .iload_n 1, 1, 0, 0, .null), 
  (12, 1, .aload_n 0, 0, 0, 0, .null), (13, 3, .getfield 7, 11, 0, 860, .null), (16, 1, .iload_n 1, 1, 0, 0, .null), (17, 1, .iaload, 0, 0, 0, .null), 
  (18, 1, .iastore, 0, 0, 0, .null), (19, 1, .aload_n 0, 0, 0, 0, .null), (20, 3, .getfield 25, 11, 7, 867, .null), (23, 1, .iload_n 1, 1, 0, 0, .null), 
  (24, 1, .aload_n 0, 0, 0, 0, .null), (25, 3, .getfield 13, 11, 1, 861, .null), (28, 1, .iload_n 1, 1, 0, 0, .null), (29, 1, .iaload, 0, 0, 0, .null), 
  (30, 1, .iastore, 0, 0, 0, .null), (31, 1, .aload_n 0, 0, 0, 0, .null), (32, 3, .getfield 28, 11, 8, 868, .null), (35, 1, .iload_n 1, 1, 0, 0, .null), 
  (36, 1, .aload_n 0, 0, 0, 0, .null), (37, 3, .getfield 16, 11, 2, 862, .null), (40, 1, .iload_n 1, 1, 0, 0, .null), (41, 1, .iaload, 0, 0, 0, .null), 
  (42, 1, .iastore, 0, 0, 0, .null), (43, 3, .iinc 1 1, 1, 0, 0, .int 1), (46, 3, .goto (-44), 2, 0, 0, .null), (49, 1, .iconst 0, 0, 0, 0, .int 0), 
  (50, 1, .istore_n 1, 1, 0, 0, .null), (51, 1, .iload_n 1, 1, 0, 0, .null), (52, 1, .iconst 3, 0, 0, 0, .int 3), (53, 3, .if_icmp .ge 21, 74, 0, 0, .null), 
  (56, 1, .aload_n 0, 0, 0, 0, .null), (57, 3, .getfield 31, 11, 9, 869, .null), (60, 1, .iload_n 1, 1, 0, 0, .null), (61, 1, .aload_n 0, 0, 0, 0, .null), 
  (62, 3, .getfield 19, 11, 3, 863, .null), (65, 1, .iload_n 1, 1, 0, 0, .null), (66, 1, .iaload, 0, 0, 0, .null), (67, 1, .iastore, 0, 0, 0, .null), 
  (68, 3, .iinc 1 1, 1, 0, 0, .int 1), (71, 3, .goto (-20), 51, 0, 0, .null), (74, 1, .aload_n 0, 0, 0, 0, .null), (75, 1, .aload_n 0, 0, 0, 0, .null), 
  (76, 3, .getfield 101, 11, 4, 864, .null), (79, 3, .putfield 108, 11, 10, 870, .int 0), (82, 1, .aload_n 0, 0, 0, 0, .null), (83, 1, .aload_n 0, 0, 0, 0, .null), 
  (84, 3, .getfield 105, 11, 5, 865, .null), (87, 3, .putfield 111, 11, 11, 871, .int 0), (90, 1, .aload_n 0, 0, 0, 0, .null), (91, 3, .getfield 101, 11, 4, 864, .null), 
  (94, 1, .ireturn, 0, 0, 0, .null)]
theorem okX12_keep : tX12_keep.all (okI yX12_keep.cls (decide (yX12_keep.name = "<init>")) cX12_keep) = true := by decide +kernel
def tX12_changeAbout : List CI := [
  (0, 1, .iconst 0, 0, 0, 0, .int 0), (1, 1, .istore_n 1, 1, 0, 0, .null), (2, 1, .iload_n 1, 1, 0, 0, .null), (3, 1, .iconst 4, 0, 0, 0, .int 4), 
  (4, 3, .if_icmp .ge 87, 91, 0, 0, .null), (7, 1, .aload_n 0, 0, 0, 0, .null), (8, 3, .getfield 7, 11, 0, 860, .null), (11, 1, .iload_n 1, 1, 0, 0, .null), 
  (12, 1, .iaload, 0, 0, 0, .null), (13, 1, .istore_n 2, 2, 0, 0, .null), (14, 1, .aload_n 0, 0, 0, 0, .null), (15, 3, .getfield 7, 11, 0, 860, .null), 
  (18, 1, .iload_n 1, 1, 0, 0, .null), (19, 1, .aload_n 0, 0, 0, 0, .null), (20, 3, .getfield 22, 11, 6, 866, .null), (23, 1, .iload_n 1, 1, 0, 0, .null), 
  (24, 1, .iaload, 0, 0, 0, .null), (25, 1, .iastore, 0, 0, 0, .null), (26, 1, .aload_n 0, 0, 0, 0, .null), (27, 3, .getfield 22, 11, 6, 866, .null), 
  (30, 1, .iload_n 1, 1, 0, 0, .null), (31, 1, .iload_n 2, 2, 0, 0, .null), (32, 1, .iastore, 0, 0, 0, .null), (33, 1, .aload_n 0, 0, 0, 0, .null), 
  (34, 3, .getfield 13, 11, 1, 861, .null), (37, 1, .iload_n 1, 1, 0, 0, .null), (38, 1, .iaload, 0, 0, 0, .null), (39, 1, .istore_n 2, 2, 0, 0, .null), 
  (40, 1, .aload_n 0, 0, 0, 0, .null), (41, 3, .getfield 13, 11, 1, 861, .null), (44, 1, .iload_n 1, 1, 0, 0, .null), (45, 1, .aload_n 0, 0, 0, 0, .null), 
  (46, 3, .getfield 25, 11, 7, 867, .null), (49, 1, .iload_n 1, 1, 0, 0, .null), (50, 1, .iaload, 0, 0, 0, .null), (51, 1, .iastore, 0, 0, 0, .null), 
  (52, 1, .aload_n 0, 0, 0, 0, .null), (53, 3, .getfield 25, 11, 7, 867, .null), (56, 1, .iload_n 1, 1, 0, 0, .null), (57, 1, .iload_n 2, 2, 0, 0, .null), 
  (58, 1, .iastore, 0, 0, 0, .null), (59, 1, .aload_n 0, 0, 0, 0, .null), (60, 3, .getfield 16, 11, 2, 862, .null), (63, 1, .iload_n 1, 1, 0, 0, .null), 
  (64, 1, .iaload, 0, 0, 0, .null), (65, 1, .istore_n 2, 2, 0, 0, .null), (66, 1, .aload_n 0, 0, 0, 0, .null), (67, 3, .getfield 16, 11, 2, 862, .null), 
  (70, 1, .iload_n 1, 1, 0, 0, .null), (71, 1, .aload_n 0, 0, 0, 0, .null), (72, 3, .getfield 28, 11, 8, 868, .null), (75, 1, .iload_n 1, 1, 0, 0, .null), 
  (76, 1, .iaload, 0, 0, 0, .null), (77, 1, .iastore, 0, 0, 0, .null), (78, 1, .aload_n 0, 0, 0, 0, .null), (79, 3, .getfield 28, 11, 8, 868, .null), 
  (82, 1, .iload_n 1, 1, 0, 0, .null), (83, 1, .iload_n 2, 2, 0, 0, .null), (84, 1, .iastore, 0, 0, 0, .null), (85, 3, .iinc 1 1, 1, 0, 0, .int 1), 
  (88, 3, .goto (-86), 2, 0, 0, .null), (91, 1, .iconst 0, 0, 0, 0, .int 0), (92, 1, .istore_n 1, 1, 0, 0, .null), (93, 1, .iload_n 1, 1, 0, 0, .null), 
  (94, 1, .iconst 3, 0, 0, 0, .int 3), (95, 3, .if_icmp .ge 35, 130, 0, 0, .null), (98, 1, .aload_n 0, 0, 0, 0, .null), (99, 3, .getfield 19, 11, 3, 863, .null), 
  (102, 1, .iload_n 1, 1, 0, 0, .null), (103, 1, .iaload, 0, 0, 0, .null), (104, 1, .istore_n 2, 2, 0, 0, .null), (105, 1, .aload_n 0, 0, 0, 0, .null), 
  (106, 3, .getfield 19, 11, 3, 863, .null), (109, 1, .iload_n 1, 1, 0, 0, .null), (110, 1, .aload_n 0, 0, 0, 0, .null), (111, 3, .getfield 31, 11, 9, 869, .null), 
  (114, 1, .iload_n 1, 1, 0, 0, .null), (115, 1, .iaload, 0, 0, 0, .null), (116, 1, .iastore, 0, 0, 0, .null), (117, 1, .aload_n 0, 0, 0, 0, .null), 
  (118, 3, .getfield 31, 11, 9, 869, .null), (121, 1, .iload_n 1, 1, 0, 0, .null), (122, 1, .iload_n 2, 2, 0, 0, .null), (123, 1, .iastore, 0, 0, 0, .null), 
  (124, 3, .iinc 1 1, 1, 0, 0, .int 1), (127, 3, .goto (-34), 93, 0, 0, .null), (130, 1, .aload_n 0, 0, 0, 0, .null), (131, 3, .getfield 101, 11, 4, 864, .null), 
  (134, 1, .istore_n 1, 1, 0, 0, .null), (135, 1, .aload_n 0, 0, 0, 0, .null), (136, 1, .aload_n 0, 0, 0, 0, .null), (137, 3, .getfield 108, 11, 10, 870, .null), 
  (140, 3, .putfield 101, 11, 4, 864, .int 0), (143, 1, .aload_n 0, 0, 0, 0, .null), (144, 1, .iload_n 1, 1, 0, 0, .null), (145, 3, .putfield 108, 11, 10, 870, .int 0), 
  (148, 1, .aload_n 0, 0, 0, 0, .null), (149, 3, .getfield 105, 11, 5, 865, .null), (152, 1, .istore_n 1, 1, 0, 0, .null), (153, 1, .aload_n 0, 0, 0, 0, .null), 
  (154, 1, .aload_n 0, 0, 0, 0, .null), (155, 3, .getfield 111, 11, 11, 871, .null), (158, 3, .putfield 105, 11, 5, 865, .int 0), (161, 1, .aload_n 0, 0, 0, 0, .null), 
  (162, 1, .iload_n 1, 1, 0, 0, .null), (163, 3, .putfield 111, 11, 11, 871, .int 0), (166, 1, .aload_n 0, 0, 0, 0, .null), (167, 3, .invokevirtual 140, 0, 0, 0, .null), 
  (170, 1, .return_, 0, 0, 0, .null)]
theorem okX12_changeAbout : tX12_changeAbout.all (okI yX12_changeAbout.cls (decide (yX12_changeAbout.name = "<init>")) cX12_changeAbout) = true := by decide +kernel
def tX12_unlike : List CI := [
  (0, 1, .iload_n 1, 1, 0, 0, .null), (1, 3, .invokestatic 282, 0, 0, 0, .null), (4, 3, .ifCond .ne 6, 10, 0, 0, .null), (7, 2, .bipush (-2), 0, 0, 0, .int (-2)), 
  (9, 1, .ireturn, 0, 0, 0, .null), (10, 1, .aload_n 0, 0, 0, 0, .null), (11, 3, .invokevirtual 300, 0, 0, 0, .null), (14, 1, .iconst 0, 0, 0, 0, .int 0), 
  (15, 1, .istore_n 2, 2, 0, 0, .null), (16, 1, .iload_n 2, 2, 0, 0, .null), (17, 1, .iload_n 1, 1, 0, 0, .null), (18, 3, .invokestatic 270, 0, 0, 0, .null), 
  (21, 3, .if_icmp .ge 34, 55, 0, 0, .null), (24, 1, .aload_n 0, 0, 0, 0, .null), (25, 3, .getfield 89, 11, 34, 894, .null), (28, 1, .iload_n 2, 2, 0, 0, .null), 
  (29, 1, .aload_n 0, 0, 0, 0, .null), (30, 1, .aload_n 0, 0, 0, 0, .null), (31, 1, .iload_n 2, 2, 0, 0, .null), (32, 1, .iload_n 1, 1, 0, 0, .null), 
  (33, 3, .invokevirtual 285, 0, 0, 0, .null), (36, 1, .iload_n 1, 1, 0, 0, .null), (37, 3, .invokevirtual 288, 0, 0, 0, .null), (40, 3, .ifCond .lt 7, 47, 0, 0, .null), 
  (43, 1, .iconst 1, 0, 0, 0, .int 1), (44, 3, .goto 4, 48, 0, 0, .null), (47, 1, .iconst 0, 0, 0, 0, .int 0), (48, 1, .bastore, 0, 0, 0, .null), 
  (49, 3, .iinc 2 1, 2, 0, 0, .int 1), (52, 3, .goto (-36), 16, 0, 0, .null), (55, 1, .aload_n 0, 0, 0, 0, .null), (56, 3, .invokevirtual 300, 0, 0, 0, .null), 
  (59, 1, .iconst 0, 0, 0, 0, .int 0), (60, 1, .istore_n 2, 2, 0, 0, .null), (61, 1, .iload_n 2, 2, 0, 0, .null), (62, 1, .iload_n 1, 1, 0, 0, .null), 
  (63, 3, .invokestatic 270, 0, 0, 0, .null), (66, 3, .if_icmp .ge 41, 107, 0, 0, .null), (69, 1, .aload_n 0, 0, 0, 0, .null), (70, 1, .iload_n 2, 2, 0, 0, .null), 
  (71, 1, .iload_n 1, 1, 0, 0, .null), (72, 3, .invokevirtual 285, 0, 0, 0, .null), (75, 1, .istore_n 3, 3, 0, 0, .null), (76, 1, .aload_n 0, 0, 0, 0, .null), 
  (77, 3, .getfield 89, 11, 34, 894, .null), (80, 1, .iload_n 2, 2, 0, 0, .null), (81, 1, .baload, 0, 0, 0, .null), (82, 1, .aload_n 0, 0, 0, 0, .null), 
  (83, 1, .iload_n 3, 3, 0, 0, .null), (84, 1, .iload_n 1, 1, 0, 0, .null), (85, 3, .invokevirtual 288, 0, 0, 0, .null), (88, 3, .ifCond .lt 7, 95, 0, 0, .null), 
  (91, 1, .iconst 1, 0, 0, 0, .int 1), (92, 3, .goto 4, 96, 0, 0, .null), (95, 1, .iconst 0, 0, 0, 0, .int 0), (96, 3, .if_icmp .eq 5, 101, 0, 0, .null), 
  (99, 1, .iload_n 3, 3, 0, 0, .null), (100, 1, .ireturn, 0, 0, 0, .null), (101, 3, .iinc 2 1, 2, 0, 0, .int 1), (104, 3, .goto (-43), 61, 0, 0, .null), 
  (107, 2, .bipush (-6), 0, 0, 0, .int (-6)), (109, 1, .ireturn, 0, 0, 0, .null)]
theorem okX12_unlike : tX12_unlike.all (okI yX12_unlike.cls (decide (yX12_unlike.name = "<init>")) cX12_unlike) = true := by decide +kernel
def tX12_play : List CI := [
  (0, 1, .iload_n 1, 1, 0, 0, .null), (1, 1, .iload_n 2, 2, 0, 0, .null), (2, 3, .invokestatic 248, 0, 0, 0, .null), (5, 3, .ifCond .ne 6, 11, 0, 0, .null), 
  (8, 2, .bipush (-2), 0, 0, 0, .int (-2)), (10, 1, .ireturn, 0, 0, 0, .null), (11, 1, .aload_n 0, 0, 0, 0, .null), (12, 1, .iload_n 1, 1, 0, 0, .null), 
  (13, 3, .putfield 303, 11, 35, 895, .int 0), (16, 1, .aload_n 0, 0, 0, 0, .null), (17, 1, .iload_n 2, 2, 0, 0, .null), (18, 3, .putfield 306, 11, 36, 896, .int 0), 
  (21, 1, .aload_n 0, 0, 0, 0, .null), (22, 1, .iload_n 1, 1, 0, 0, .null), (23, 3, .invokestatic 245, 0, 0, 0, .null), (26, 3, .putfield 114, 11, 37, 897, .int 0), 
  (29, 1, .aload_n 0, 0, 0, 0, .null), (30, 1, .iconst 0, 0, 0, 0, .int 0), (31, 3, .putfield 309, 11, 39, 899, .int 0), (34, 1, .aload_n 0, 0, 0, 0, .null), 
  (35, 3, .getfield 92, 11, 38, 898, .null), (38, 1, .iconst 0, 0, 0, 0, .int 0), (39, 1, .iconst 0, 0, 0, 0, .int 0), (40, 1, .iastore, 0, 0, 0, .null), 
  (41, 1, .aload_n 0, 0, 0, 0, .null), (42, 3, .getfield 64, 11, 26, 886, .null), (45, 1, .aload_n 0, 0, 0, 0, .null), (46, 1, .iload_n 1, 1, 0, 0, .null), 
  (47, 1, .iload_n 2, 2, 0, 0, .null), (48, 1, .aload_n 0, 0, 0, 0, .null), (49, 3, .getfield 114, 11, 37, 897, .null), (52, 3, .invokevirtual 251, 0, 0, 0, .null), 
  (55, 1, .iaload, 0, 0, 0, .null), (56, 1, .ireturn, 0, 0, 0, .null)]
theorem okX12_play : tX12_play.all (okI yX12_play.cls (decide (yX12_play.name = "<init>")) cX12_play) = true := by decide +kernel
def tX12_move : List CI := [
  (0, 1, .aload_n 0, 0, 0, 0, .null), (1, 3, .getfield 114, 11, 37, 897, .null), (4, 3, .ifCond .ne 6, 10, 0, 0, .null), (7, 2, .bipush (-3), 0, 0, 0, .int (-3)), 
  (9, 1, .ireturn, 0, 0, 0, .null), (10, 1, .iload_n 1, 1, 0, 0, .null), (11, 3, .sipush 1000, 0, 0, 0, .int 1000), (14, 1, .idiv, 0, 0, 0, .null), 
  (15, 1, .istore_n 2, 2, 0, 0, .null), (16, 1, .iload_n 1, 1, 0, 0, .null), (17, 2, .bipush 100, 0, 0, 0, .int 100), (19, 1, .idiv, 0, 0, 0, .null), 
  (20, 2, .bipush 10, 0, 0, 0, .int 10), (22, 1, .irem, 0, 0, 0, .null), (23, 1, .istore_n 3, 3, 0, 0, .null), (24, 1, .iload_n 1, 1, 0, 0, .null), 
  (25, 2, .bipush 10, 0, 0, 0, .int 10), (27, 1, .idiv, 0, 0, 0, .null), (28, 2, .bipush 10, 0, 0, 0, .int 10), (30, 1, .irem, 0, 0, 0, .null), (31, 2, .istore 4, 4, 0, 0, .null), 
  (33, 1, .iload_n 1, 1, 0, 0, .null), (34, 2, .bipush 10, 0, 0, 0, .int 10), (36, 1, .irem, 0, 0, 0, .null), (37, 2, .istore 5, 5, 0, 0, .null), 
  (39, 1, .iload_n 1, 1, 0, 0, .null), (40, 3, .ifCond .lt 16, 56, 0, 0, .null), (43, 1, .aload_n 0, 0, 0, 0, .null), (44, 1, .iload_n 2, 2, 0, 0, .null), 
  (45, 1, .iload_n 3, 3, 0, 0, .null), (46, 2, .iload 4, 4, 0, 0, .null), (48, 2, .iload 5, 5, 0, 0, .null), (50, 3, .invokevirtual 256, 0, 0, 0, .null), 
  (53, 3, .ifCond .ne 6, 59, 0, 0, .null), (56, 2, .bipush (-5), 0, 0, 0, .int (-5)), (58, 1, .ireturn, 0, 0, 0, .null), (59, 1, .aload_n 0, 0, 0, 0, .null), 
  (60, 1, .aload_n 0, 0, 0, 0, .null), (61, 3, .getfield 92, 11, 38, 898, .null), (64, 1, .aload_n 0, 0, 0, 0, .null), (65, 3, .getfield 309, 11, 39, 899, .null), 
  (68, 1, .iaload, 0, 0, 0, .null), (69, 3, .invokevirtual 194, 0, 0, 0, .null), (72, 1, .aload_n 0, 0, 0, 0, .null), (73, 1, .iload_n 2, 2, 0, 0, .null), 
  (74, 1, .iload_n 3, 3, 0, 0, .null), (75, 2, .iload 4, 4, 0, 0, .null), (77, 2, .iload 5, 5, 0, 0, .null), (79, 1, .aload_n 0, 0, 0, 0, .null), 
  (80, 3, .getfield 114, 11, 37, 897, .null), (83, 3, .invokevirtual 209, 0, 0, 0, .null), (86, 3, .ifCond .ne 6, 92, 0, 0, .null), (89, 2, .bipush (-5), 0, 0, 0, .int (-5)), 
  (91, 1, .ireturn, 0, 0, 0, .null), (92, 1, .aload_n 0, 0, 0, 0, .null), (93, 1, .iload_n 2, 2, 0, 0, .null), (94, 1, .iload_n 3, 3, 0, 0, .null), 
  (95, 2, .iload 4, 4, 0, 0, .null), (97, 2, .iload 5, 5, 0, 0, .null), (99, 3, .invokevirtual 213, 0, 0, 0, .null), (102, 1, .aload_n 0, 0, 0, 0, .null), 
  (103, 1, .dup, 0, 0, 0, .null), (104, 3, .getfield 309, 11, 39, 899, .null), (107, 1, .iconst 1, 0, 0, 0, .int 1), (108, 1, .iadd, 0, 0, 0, .null), 
  (109, 3, .putfield 309, 11, 39, 899, .int 0), (112, 1, .aload_n 0, 0, 0, 0, .null), (113, 3, .getfield 92, 11, 38, 898, .null), (116, 1, .aload_n 0, 0, 0, 0, .null), 
  (117, 3, .getfield 309, 11, 39, 899, .null), (120, 1, .aload_n 0, 0, 0, 0, .null), (121, 3, .invokevirtual 217, 0, 0, 0, .null), (124, 1, .iastore, 0, 0, 0, .null), 
  (125, 1, .aload_n 0, 0, 0, 0, .null), (126, 3, .getfield 309, 11, 39, 899, .null), (129, 1, .ireturn, 0, 0, 0, .null)]
theorem okX12_move : tX12_move.all (okI yX12_move.cls (decide (yX12_move.name = "<init>")) cX12_move) = true := by decide +kernel
def tX12_back : List CI := [
  (0, 1, .aload_n 0, 0, 0, 0, .null), (1, 3, .getfield 114, 11, 37, 897, .null), (4, 3, .ifCond .ne 6, 10, 0, 0, .null), (7, 2, .bipush (-3), 0, 0, 0, .int (-3)), 
  (9, 1, .ireturn, 0, 0, 0, .null), (10, 1, .aload_n 0, 0, 0, 0, .null), (11, 3, .getfield 309, 11, 39, 899, .null), (14, 3, .ifCond .ne 6, 20, 0, 0, .null), 
  (17, 2, .bipush (-5), 0, 0, 0, .int (-5)), (19, 1, .ireturn, 0, 0, 0, .null), (20, 1, .aload_n 0, 0, 0, 0, .null), (21, 1, .dup, 0, 0, 0, .null), 
  (22, 3, .getfield 309, 11, 39, 899, .null), (25, 1, .iconst 1, 0, 0, 0, .int 1), (26, 1, .isub, 0, 0, 0, .null), (27, 3, .putfield 309, 11, 39, 899, .int 0), 
  (30, 1, .aload_n 0, 0, 0, 0, .null), (31, 3, .getfield 309, 11, 39, 899, .null), (34, 1, .ireturn, 0, 0, 0, .null)]
theorem okX12_back : tX12_back.all (okI yX12_back.cls (decide (yX12_back.name = "<init>")) cX12_back) = true := by decide +kernel
def tX12_restOf : List CI := [
  (0, 1, .aload_n 0, 0, 0, 0, .null), (1, 1, .aload_n 0, 0, 0, 0, .null), (2, 3, .getfield 303, 11, 35, 895, .null), (5, 1, .aload_n 0, 0, 0, 0, .null), 
  (6, 3, .getfield 306, 11, 36, 896, .null), (9, 1, .aload_n 0, 0, 0, 0, .null), (10, 3, .getfield 114, 11, 37, 897, .null), (13, 3, .invokevirtual 260, 0, 0, 0, .null), 
  (16, 1, .aload_n 0, 0, 0, 0, .null), (17, 1, .aload_n 0, 0, 0, 0, .null), (18, 3, .getfield 92, 11, 38, 898, .null), (21, 1, .aload_n 0, 0, 0, 0, .null), 
  (22, 3, .getfield 309, 11, 39, 899, .null), (25, 1, .iaload, 0, 0, 0, .null), (26, 1, .aload_n 0, 0, 0, 0, .null), (27, 3, .getfield 114, 11, 37, 897, .null), 
  (30, 3, .invokevirtual 220, 0, 0, 0, .null), (33, 1, .ireturn, 0, 0, 0, .null)]
theorem okX12_restOf : tX12_restOf.all (okI yX12_restOf.cls (decide (yX12_restOf.name = "<init>")) cX12_restOf) = true := by decide +kernel
def tX12_rest : List CI := [
  (0, 1, .aload_n 0, 0, 0, 0, .null), (1, 3, .getfield 114, 11, 37, 897, .null), (4, 3, .ifCond .ne 8, 12, 0, 0, .null), (7, 2, .bipush (-3), 0, 0, 0, .int (-3)), 
  (9, 3, .goto 7, 16, 0, 0, .null), (12, 1, .aload_n 0, 0, 0, 0, .null), (13, 3, .invokevirtual 312, 0, 0, 0, .null), (16, 1, .ireturn, 0, 0, 0, .null)]
theorem okX12_rest : tX12_rest.all (okI yX12_rest.cls (decide (yX12_rest.name = "<init>")) cX12_rest) = true := by decide +kernel
def tX12_next : List CI := [
  (0, 1, .aload_n 0, 0, 0, 0, .null), (1, 3, .getfield 114, 11, 37, 897, .null), (4, 3, .ifCond .ne 6, 10, 0, 0, .null), (7, 2, .bipush (-3), 0, 0, 0, .int (-3)), 
  (9, 1, .ireturn, 0, 0, 0, .null), (10, 1, .aload_n 0, 0, 0, 0, .null), (11, 3, .invokevirtual 312, 0, 0, 0, .null), (14, 1, .istore_n 1, 1, 0, 0, .null), 
  (15, 1, .iload_n 1, 1, 0, 0, .null), (16, 3, .ifCond .gt 8, 24, 0, 0, .null), (19, 2, .bipush (-6), 0, 0, 0, .int (-6)), (21, 3, .goto 21, 42, 0, 0, .null), 
  (24, 1, .aload_n 0, 0, 0, 0, .null), (25, 1, .aload_n 0, 0, 0, 0, .null), (26, 3, .getfield 92, 11, 38, 898, .null), (29, 1, .aload_n 0, 0, 0, 0, .null), 
  (30, 3, .getfield 309, 11, 39, 899, .null), (33, 1, .iaload, 0, 0, 0, .null), (34, 1, .aload_n 0, 0, 0, 0, .null), (35, 3, .getfield 114, 11, 37, 897, .null), 
  (38, 1, .iload_n 1, 1, 0, 0, .null), (39, 3, .invokevirtual 264, 0, 0, 0, .null), (42, 1, .ireturn, 0, 0, 0, .null)]
theorem okX12_next : tX12_next.all (okI yX12_next.cls (decide (yX12_next.name = "<init>")) cX12_next) = true := by decide +kernel
def tX12_moves : List CI := [
  (0, 1, .aload_n 0, 0, 0, 0, .null), (1, 3, .getfield 114, 11, 37, 897, .null), (4, 3, .ifCond .ne 6, 10, 0, 0, .null), (7, 2, .bipush (-3), 0, 0, 0, .int (-3)), 
  (9, 1, .ireturn, 0, 0, 0, .null), (10, 1, .aload_n 0, 0, 0, 0, .null), (11, 1, .aload_n 0, 0, 0, 0, .null), (12, 3, .getfield 92, 11, 38, 898, .null), 
  (15, 1, .aload_n 0, 0, 0, 0, .null), (16, 3, .getfield 309, 11, 39, 899, .null), (19, 1, .iaload, 0, 0, 0, .null), (20, 3, .invokevirtual 194, 0, 0, 0, .null), 
  (23, 1, .iconst 0, 0, 0, 0, .int 0), (24, 1, .istore_n 2, 2, 0, 0, .null), (25, 1, .iconst 0, 0, 0, 0, .int 0), (26, 1, .istore_n 3, 3, 0, 0, .null), 
  (27, 1, .iload_n 3, 3, 0, 0, .null), (28, 3, .sipush 5000, 0, 0, 0, .int 5000), (31, 3, .if_icmp .ge 84, 115, 0, 0, .null), (34, 1, .iload_n 3, 3, 0, 0, .null), 
  (35, 3, .sipush 1000, 0, 0, 0, .int 1000), (38, 1, .idiv, 0, 0, 0, .null), (39, 2, .istore 4, 4, 0, 0, .null), (41, 1, .iload_n 3, 3, 0, 0, .null), 
  (42, 2, .bipush 100, 0, 0, 0, .int 100), (44, 1, .idiv, 0, 0, 0, .null), (45, 2, .bipush 10, 0, 0, 0, .int 10), (47, 1, .irem, 0, 0, 0, .null), 
  (48, 2, .istore 5, 5, 0, 0, .null), (50, 1, .iload_n 3, 3, 0, 0, .null), (51, 2, .bipush 10, 0, 0, 0, .int 10), (53, 1, .idiv, 0, 0, 0, .null), 
  (54, 2, .bipush 10, 0, 0, 0, .int 10), (56, 1, .irem, 0, 0, 0, .null), (57, 2, .istore 6, 6, 0, 0, .null), (59, 1, .iload_n 3, 3, 0, 0, .null), 
  (60, 2, .bipush 10, 0, 0, 0, .int 10), (62, 1, .irem, 0, 0, 0, .null), (63, 2, .istore 7, 7, 0, 0, .null), (65, 1, .aload_n 0, 0, 0, 0, .null), 
  (66, 2, .iload 4, 4, 0, 0, .null), (68, 2, .iload 5, 5, 0, 0, .null), (70, 2, .iload 6, 6, 0, 0, .null), (72, 2, .iload 7, 7, 0, 0, .null), 
  (74, 3, .invokevirtual 256, 0, 0, 0, .null), (77, 3, .ifCond .eq 32, 109, 0, 0, .null), (80, 1, .aload_n 0, 0, 0, 0, .null), (81, 2, .iload 4, 4, 0, 0, .null), 
  (83, 2, .iload 5, 5, 0, 0, .null), (85, 2, .iload 6, 6, 0, 0, .null), (87, 2, .iload 7, 7, 0, 0, .null), (89, 1, .aload_n 0, 0, 0, 0, .null), 
  (90, 3, .getfield 114, 11, 37, 897, .null), (93, 3, .invokevirtual 209, 0, 0, 0, .null), (96, 3, .ifCond .eq 13, 109, 0, 0, .null), (99, 1, .iload_n 2, 2, 0, 0, .null), 
  (100, 1, .iload_n 1, 1, 0, 0, .null), (101, 3, .if_icmp .ne 5, 106, 0, 0, .null), (104, 1, .iload_n 3, 3, 0, 0, .null), (105, 1, .ireturn, 0, 0, 0, .null), 
  (106, 3, .iinc 2 1, 2, 0, 0, .int 1), (109, 3, .iinc 3 1, 3, 0, 0, .int 1), (112, 3, .goto (-85), 27, 0, 0, .null), (115, 1, .iload_n 1, 1, 0, 0, .null), 
  (116, 1, .iconst (-1), 0, 0, 0, .int (-1)), (117, 3, .if_icmp .ne 7, 124, 0, 0, .null), (120, 1, .iload_n 2, 2, 0, 0, .null), (121, 3, .goto 5, 126, 0, 0, .null), 
  (124, 2, .bipush (-6), 0, 0, 0, .int (-6)), (126, 1, .ireturn, 0, 0, 0, .null)]
theorem okX12_moves : tX12_moves.all (okI yX12_moves.cls (decide (yX12_moves.name = "<init>")) cX12_moves) = true := by decide +kernel
def tX12_stand : List CI := [
  (0, 1, .iload_n 1, 1, 0, 0, .null), (1, 1, .i2l, 0, 0, 0, .null), (2, 1, .lconst 1, 0, 0, 0, .long 1), (3, 3, .ldc2_w 146, 0, 0, 1035, .long 4), 
  (6, 3, .invokestatic 121, 0, 0, 0, .null), (9, 3, .ifCond .eq 15, 24, 0, 0, .null), (12, 1, .aload_n 0, 0, 0, 0, .null), (13, 1, .iload_n 1, 1, 0, 0, .null), 
  (14, 1, .iconst 1, 0, 0, 0, .int 1), (15, 1, .isub, 0, 0, 0, .null), (16, 3, .invokevirtual 143, 0, 0, 0, .null), (19, 3, .ifCond .ne 5, 24, 0, 0, .null), 
  (22, 1, .iconst (-1), 0, 0, 0, .int (-1)), (23, 1, .ireturn, 0, 0, 0, .null), (24, 1, .iload_n 1, 1, 0, 0, .null), (25, 1, .i2l, 0, 0, 0, .null), 
  (26, 1, .lconst 0, 0, 0, 0, .long 0), (27, 3, .ldc2_w 148, 0, 0, 1036, .long 5), (30, 3, .invokestatic 121, 0, 0, 0, .null), (33, 3, .ifCond .ne 6, 39, 0, 0, .null), 
  (36, 2, .bipush (-2), 0, 0, 0, .int (-2)), (38, 1, .ireturn, 0, 0, 0, .null), (39, 1, .aload_n 0, 0, 0, 0, .null), (40, 3, .getfield 114, 11, 37, 897, .null), 
  (43, 3, .ifCond .ne 6, 49, 0, 0, .null), (46, 2, .bipush (-3), 0, 0, 0, .int (-3)), (48, 1, .ireturn, 0, 0, 0, .null), (49, 1, .aload_n 0, 0, 0, 0, .null), 
  (50, 1, .aload_n 0, 0, 0, 0, .null), (51, 3, .getfield 92, 11, 38, 898, .null), (54, 1, .aload_n 0, 0, 0, 0, .null), (55, 3, .getfield 309, 11, 39, 899, .null), 
  (58, 1, .iaload, 0, 0, 0, .null), (59, 3, .invokevirtual 194, 0, 0, 0, .null), (62, 1, .aload_n 0, 0, 0, 0, .null), (63, 1, .aload_n 0, 0, 0, 0, .null), 
  (64, 3, .getfield 303, 11, 35, 895, .null), (67, 1, .aload_n 0, 0, 0, 0, .null), (68, 3, .getfield 114, 11, 37, 897, .null), (71, 3, .invokevirtual 239, 0, 0, 0, .null), 
  (74, 1, .iconst 0, 0, 0, 0, .int 0), (75, 1, .istore_n 2, 2, 0, 0, .null), (76, 1, .iload_n 1, 1, 0, 0, .null), (77, 3, .ifCond .ne 36, 113, 0, 0, .null), 
  (80, 1, .aload_n 0, 0, 0, 0, .null), (81, 3, .getfield 154, 11, 16, 876, .null), (84, 1, .istore_n 3, 3, 0, 0, .null), (85, 1, .iload_n 3, 3, 0, 0, .null), 
  (86, 1, .aload_n 0, 0, 0, 0, .null), (87, 3, .getfield 114, 11, 37, 897, .null), (90, 3, .if_icmp .ge 21, 111, 0, 0, .null), (93, 2, .bipush 10, 0, 0, 0, .int 10), 
  (95, 1, .iload_n 2, 2, 0, 0, .null), (96, 1, .imul, 0, 0, 0, .null), (97, 1, .aload_n 0, 0, 0, 0, .null), (98, 3, .getfield 77, 11, 30, 890, .null), 
  (101, 1, .iload_n 3, 3, 0, 0, .null), (102, 1, .iaload, 0, 0, 0, .null), (103, 1, .iadd, 0, 0, 0, .null), (104, 1, .istore_n 2, 2, 0, 0, .null), 
  (105, 3, .iinc 3 1, 3, 0, 0, .int 1), (108, 3, .goto (-23), 85, 0, 0, .null), (111, 1, .iload_n 2, 2, 0, 0, .null), (112, 1, .ireturn, 0, 0, 0, .null), 
  (113, 1, .iload_n 1, 1, 0, 0, .null), (114, 1, .iconst 5, 0, 0, 0, .int 5), (115, 3, .if_icmp .ne 10, 125, 0, 0, .null), (118, 1, .aload_n 0, 0, 0, 0, .null), 
  (119, 3, .getfield 101, 11, 4, 864, .null), (122, 3, .goto 6, 128, 0, 0, .null), (125, 1, .iload_n 1, 1, 0, 0, .null), (126, 1, .iconst 1, 0, 0, 0, .int 1), 
  (127, 1, .isub, 0, 0, 0, .null), (128, 1, .istore_n 3, 3, 0, 0, .null), (129, 1, .iconst 0, 0, 0, 0, .int 0), (130, 2, .istore 4, 4, 0, 0, .null), 
  (132, 2, .iload 4, 4, 0, 0, .null), (134, 1, .aload_n 0, 0, 0, 0, .null), (135, 3, .getfield 40, 11, 15, 875, .null), (138, 1, .iload_n 3, 3, 0, 0, .null), 
  (139, 1, .iaload, 0, 0, 0, .null), (140, 3, .if_icmp .ge 33, 173, 0, 0, .null), (143, 2, .bipush 10, 0, 0, 0, .int 10), (145, 1, .iload_n 2, 2, 0, 0, .null), 
  (146, 1, .imul, 0, 0, 0, .null), (147, 1, .aload_n 0, 0, 0, 0, .null), (148, 3, .getfield 77, 11, 30, 890, .null), (151, 1, .aload_n 0, 0, 0, 0, .null), 
  (152, 3, .getfield 37, 11, 14, 874, .null), (155, 1, .iconst 5, 0, 0, 0, .int 5), (156, 1, .iload_n 3, 3, 0, 0, .null), (157, 1, .imul, 0, 0, 0, .null), 
  (158, 2, .iload 4, 4, 0, 0, .null), (160, 1, .iadd, 0, 0, 0, .null), (161, 1, .iaload, 0, 0, 0, .null), (162, 1, .iconst 1, 0, 0, 0, .int 1), (163, 1, .isub, 0, 0, 0, .null), 
  (164, 1, .iaload, 0, 0, 0, .null), (165, 1, .iadd, 0, 0, 0, .null), (166, 1, .istore_n 2, 2, 0, 0, .null), (167, 3, .iinc 4 1, 4, 0, 0, .int 1), 
  (170, 3, .goto (-38), 132, 0, 0, .null), (173, 1, .iload_n 2, 2, 0, 0, .null), (174, 1, .ireturn, 0, 0, 0, .null)]
theorem okX12_stand : tX12_stand.all (okI yX12_stand.cls (decide (yX12_stand.name = "<init>")) cX12_stand) = true := by decide +kernel
def tX12_wagonAt : List CI := [
  (0, 1, .aload_n 0, 0, 0, 0, .null), (1, 3, .getfield 77, 11, 30, 890, .null), (4, 1, .iload_n 1, 1, 0, 0, .null), (5, 1, .iconst 1, 0, 0, 0, .int 1), 
  (6, 1, .isub, 0, 0, 0, .null), (7, 1, .iaload, 0, 0, 0, .null), (8, 1, .ireturn, 0, 0, 0, .null)]
theorem okX12_wagonAt : tX12_wagonAt.all (okI yX12_wagonAt.cls (decide (yX12_wagonAt.name = "<init>")) cX12_wagonAt) = true := by decide +kernel
def tX12_letOut : List CI := [
  (0, 1, .aload_n 0, 0, 0, 0, .null), (1, 3, .getfield 40, 11, 15, 875, .null), (4, 1, .aload_n 0, 0, 0, 0, .null), (5, 3, .getfield 101, 11, 4, 864, .null), 
  (8, 1, .iaload, 0, 0, 0, .null), (9, 1, .iconst 1, 0, 0, 0, .int 1), (10, 1, .iadd, 0, 0, 0, .null), (11, 1, .istore_n 2, 2, 0, 0, .null), (12, 1, .aload_n 0, 0, 0, 0, .null), 
  (13, 3, .getfield 154, 11, 16, 876, .null), (16, 1, .iload_n 1, 1, 0, 0, .null), (17, 3, .if_icmp .ge 35, 52, 0, 0, .null), (20, 1, .aload_n 0, 0, 0, 0, .null), 
  (21, 3, .getfield 77, 11, 30, 890, .null), (24, 1, .aload_n 0, 0, 0, 0, .null), (25, 3, .getfield 154, 11, 16, 876, .null), (28, 1, .iaload, 0, 0, 0, .null), 
  (29, 1, .iload_n 2, 2, 0, 0, .null), (30, 3, .if_icmp .ne 22, 52, 0, 0, .null), (33, 1, .aload_n 0, 0, 0, 0, .null), (34, 1, .iconst 0, 0, 0, 0, .int 0), 
  (35, 1, .iconst 5, 0, 0, 0, .int 5), (36, 3, .invokevirtual 150, 0, 0, 0, .null), (39, 3, .ifCond .eq 13, 52, 0, 0, .null), (42, 1, .aload_n 0, 0, 0, 0, .null), 
  (43, 1, .iconst 0, 0, 0, 0, .int 0), (44, 1, .iconst 0, 0, 0, 0, .int 0), (45, 1, .iconst 5, 0, 0, 0, .int 5), (46, 1, .iconst 0, 0, 0, 0, .int 0), 
  (47, 3, .invokevirtual 213, 0, 0, 0, .null), (50, 1, .iconst 1, 0, 0, 0, .int 1), (51, 1, .ireturn, 0, 0, 0, .null), (52, 1, .iconst 0, 0, 0, 0, .int 0), 
  (53, 1, .istore_n 3, 3, 0, 0, .null), (54, 1, .iload_n 3, 3, 0, 0, .null), (55, 1, .aload_n 0, 0, 0, 0, .null), (56, 3, .getfield 101, 11, 4, 864, .null), 
  (59, 3, .if_icmp .ge 112, 171, 0, 0, .null), (62, 1, .iconst 0, 0, 0, 0, .int 0), (63, 2, .istore 4, 4, 0, 0, .null), (65, 2, .iload 4, 4, 0, 0, .null), 
  (67, 1, .iconst 2, 0, 0, 0, .int 2), (68, 3, .if_icmp .ge 97, 165, 0, 0, .null), (71, 1, .aload_n 0, 0, 0, 0, .null), (72, 3, .getfield 40, 11, 15, 875, .null), 
  (75, 1, .iload_n 3, 3, 0, 0, .null), (76, 1, .iaload, 0, 0, 0, .null), (77, 3, .ifCond .le 82, 159, 0, 0, .null), (80, 1, .aload_n 0, 0, 0, 0, .null), 
  (81, 1, .iload_n 3, 3, 0, 0, .null), (82, 2, .iload 4, 4, 0, 0, .null), (84, 3, .invokevirtual 161, 0, 0, 0, .null), (87, 3, .ifCond .eq 72, 159, 0, 0, .null), 
  (90, 1, .aload_n 0, 0, 0, 0, .null), (91, 1, .iload_n 3, 3, 0, 0, .null), (92, 1, .iconst 1, 0, 0, 0, .int 1), (93, 1, .iadd, 0, 0, 0, .null), 
  (94, 1, .iconst 5, 0, 0, 0, .int 5), (95, 3, .invokevirtual 150, 0, 0, 0, .null), (98, 3, .ifCond .eq 61, 159, 0, 0, .null), (101, 2, .iload 4, 4, 0, 0, .null), 
  (103, 3, .ifCond .ne 14, 117, 0, 0, .null), (106, 1, .aload_n 0, 0, 0, 0, .null), (107, 3, .getfield 37, 11, 14, 874, .null), (110, 1, .iconst 5, 0, 0, 0, .int 5), 
  (111, 1, .iload_n 3, 3, 0, 0, .null), (112, 1, .imul, 0, 0, 0, .null), (113, 1, .iaload, 0, 0, 0, .null), (114, 3, .goto 20, 134, 0, 0, .null), 
  (117, 1, .aload_n 0, 0, 0, 0, .null), (118, 3, .getfield 37, 11, 14, 874, .null), (121, 1, .iconst 5, 0, 0, 0, .int 5), (122, 1, .iload_n 3, 3, 0, 0, .null), 
  (123, 1, .imul, 0, 0, 0, .null), (124, 1, .aload_n 0, 0, 0, 0, .null), (125, 3, .getfield 40, 11, 15, 875, .null), (128, 1, .iload_n 3, 3, 0, 0, .null), 
  (129, 1, .iaload, 0, 0, 0, .null), (130, 1, .iadd, 0, 0, 0, .null), (131, 1, .iconst 1, 0, 0, 0, .int 1), (132, 1, .isub, 0, 0, 0, .null), (133, 1, .iaload, 0, 0, 0, .null), 
  (134, 2, .istore 5, 5, 0, 0, .null), (136, 1, .aload_n 0, 0, 0, 0, .null), (137, 2, .iload 5, 5, 0, 0, .null), (139, 3, .invokevirtual 315, 0, 0, 0, .null), 
  (142, 1, .iload_n 2, 2, 0, 0, .null), (143, 3, .if_icmp .ne 16, 159, 0, 0, .null), (146, 1, .aload_n 0, 0, 0, 0, .null), (147, 1, .iload_n 3, 3, 0, 0, .null), 
  (148, 1, .iconst 1, 0, 0, 0, .int 1), (149, 1, .iadd, 0, 0, 0, .null), (150, 2, .iload 4, 4, 0, 0, .null), (152, 1, .iconst 5, 0, 0, 0, .int 5), 
  (153, 1, .iconst 0, 0, 0, 0, .int 0), (154, 3, .invokevirtual 213, 0, 0, 0, .null), (157, 1, .iconst 1, 0, 0, 0, .int 1), (158, 1, .ireturn, 0, 0, 0, .null), 
  (159, 3, .iinc 4 1, 4, 0, 0, .int 1), (162, 3, .goto (-97), 65, 0, 0, .null), (165, 3, .iinc 3 1, 3, 0, 0, .int 1), (168, 3, .goto (-114), 54, 0, 0, .null), 
  (171, 1, .iconst 0, 0, 0, 0, .int 0), (172, 1, .ireturn, 0, 0, 0, .null)]
theorem okX12_letOut : tX12_letOut.all (okI yX12_letOut.cls (decide (yX12_letOut.name = "<init>")) cX12_letOut) = true := by decide +kernel
def tX12_areHigher : List CI := [
  (0, 1, .iconst 1, 0, 0, 0, .int 1), (1, 1, .istore_n 3, 3, 0, 0, .null), (2, 1, .iconst 0, 0, 0, 0, .int 0), (3, 2, .istore 4, 4, 0, 0, .null), (5, 2, .iload 4, 4, 0, 0, .null), 
  (7, 1, .aload_n 0, 0, 0, 0, .null), (8, 3, .getfield 40, 11, 15, 875, .null), (11, 1, .iload_n 1, 1, 0, 0, .null), (12, 1, .iaload, 0, 0, 0, .null), 
  (13, 3, .if_icmp .ge 38, 51, 0, 0, .null), (16, 1, .iload_n 3, 3, 0, 0, .null), (17, 3, .ifCond .eq 26, 43, 0, 0, .null), (20, 1, .aload_n 0, 0, 0, 0, .null), 
  (21, 1, .aload_n 0, 0, 0, 0, .null), (22, 3, .getfield 37, 11, 14, 874, .null), (25, 1, .iconst 5, 0, 0, 0, .int 5), (26, 1, .iload_n 1, 1, 0, 0, .null), 
  (27, 1, .imul, 0, 0, 0, .null), (28, 2, .iload 4, 4, 0, 0, .null), (30, 1, .iadd, 0, 0, 0, .null), (31, 1, .iaload, 0, 0, 0, .null), (32, 3, .invokevirtual 315, 0, 0, 0, .null), 
  (35, 1, .iload_n 2, 2, 0, 0, .null), (36, 3, .if_icmp .le 7, 43, 0, 0, .null), (39, 1, .iconst 1, 0, 0, 0, .int 1), (40, 3, .goto 4, 44, 0, 0, .null), 
  (43, 1, .iconst 0, 0, 0, 0, .int 0), (44, 1, .istore_n 3, 3, 0, 0, .null), (45, 3, .iinc 4 1, 4, 0, 0, .int 1), (48, 3, .goto (-43), 5, 0, 0, .null), 
  (51, 1, .iload_n 3, 3, 0, 0, .null), (52, 1, .ireturn, 0, 0, 0, .null)]
theorem okX12_areHigher : tX12_areHigher.all (okI yX12_areHigher.cls (decide (yX12_areHigher.name = "<init>")) cX12_areHigher) = true := by decide +kernel
def tX12_hasRoom : List CI := [
  (0, 1, .aload_n 0, 0, 0, 0, .null), (1, 3, .getfield 40, 11, 15, 875, .null), (4, 1, .iload_n 1, 1, 0, 0, .null), (5, 1, .iaload, 0, 0, 0, .null), 
  (6, 1, .aload_n 0, 0, 0, 0, .null), (7, 3, .getfield 13, 11, 1, 861, .null), (10, 1, .iload_n 1, 1, 0, 0, .null), (11, 1, .iaload, 0, 0, 0, .null), 
  (12, 3, .if_icmp .ge 18, 30, 0, 0, .null), (15, 1, .aload_n 0, 0, 0, 0, .null), (16, 1, .iconst 0, 0, 0, 0, .int 0), (17, 1, .iload_n 1, 1, 0, 0, .null), 
  (18, 1, .iconst 1, 0, 0, 0, .int 1), (19, 1, .iadd, 0, 0, 0, .null), (20, 3, .invokevirtual 150, 0, 0, 0, .null), (23, 3, .ifCond .eq 7, 30, 0, 0, .null), 
  (26, 1, .iconst 1, 0, 0, 0, .int 1), (27, 3, .goto 4, 31, 0, 0, .null), (30, 1, .iconst 0, 0, 0, 0, .int 0), (31, 1, .ireturn, 0, 0, 0, .null)]
theorem okX12_hasRoom : tX12_hasRoom.all (okI yX12_hasRoom.cls (decide (yX12_hasRoom.name = "<init>")) cX12_hasRoom) = true := by decide +kernel
def tX12_chosen : List CI := [
  (0, 2, .bipush (-6), 0, 0, 0, .int (-6)), (2, 1, .istore_n 3, 3, 0, 0, .null), (3, 2, .bipush (-6), 0, 0, 0, .int (-6)), (5, 2, .istore 4, 4, 0, 0, .null), 
  (7, 2, .bipush (-6), 0, 0, 0, .int (-6)), (9, 2, .istore 5, 5, 0, 0, .null), (11, 1, .iconst 0, 0, 0, 0, .int 0), (12, 2, .istore 6, 6, 0, 0, .null), 
  (14, 2, .iload 6, 6, 0, 0, .null), (16, 1, .aload_n 0, 0, 0, 0, .null), (17, 3, .getfield 101, 11, 4, 864, .null), (20, 3, .if_icmp .ge 84, 104, 0, 0, .null), 
  (23, 1, .aload_n 0, 0, 0, 0, .null), (24, 2, .iload 6, 6, 0, 0, .null), (26, 3, .invokevirtual 318, 0, 0, 0, .null), (29, 3, .ifCond .eq 69, 98, 0, 0, .null), 
  (32, 1, .iload_n 3, 3, 0, 0, .null), (33, 3, .ifCond .ge 8, 41, 0, 0, .null), (36, 2, .iload 6, 6, 0, 0, .null), (38, 3, .goto 4, 42, 0, 0, .null), 
  (41, 1, .iload_n 3, 3, 0, 0, .null), (42, 1, .istore_n 3, 3, 0, 0, .null), (43, 2, .iload 4, 4, 0, 0, .null), (45, 3, .ifCond .lt 20, 65, 0, 0, .null), 
  (48, 1, .aload_n 0, 0, 0, 0, .null), (49, 3, .getfield 40, 11, 15, 875, .null), (52, 2, .iload 6, 6, 0, 0, .null), (54, 1, .iaload, 0, 0, 0, .null), 
  (55, 1, .aload_n 0, 0, 0, 0, .null), (56, 3, .getfield 40, 11, 15, 875, .null), (59, 2, .iload 4, 4, 0, 0, .null), (61, 1, .iaload, 0, 0, 0, .null), 
  (62, 3, .if_icmp .ge 8, 70, 0, 0, .null), (65, 2, .iload 6, 6, 0, 0, .null), (67, 3, .goto 5, 72, 0, 0, .null), (70, 2, .iload 4, 4, 0, 0, .null), 
  (72, 2, .istore 4, 4, 0, 0, .null), (74, 2, .iload 5, 5, 0, 0, .null), (76, 3, .ifCond .ge 18, 94, 0, 0, .null), (79, 1, .aload_n 0, 0, 0, 0, .null), 
  (80, 2, .iload 6, 6, 0, 0, .null), (82, 1, .iload_n 1, 1, 0, 0, .null), (83, 3, .invokevirtual 321, 0, 0, 0, .null), (86, 3, .ifCond .eq 8, 94, 0, 0, .null), 
  (89, 2, .iload 6, 6, 0, 0, .null), (91, 3, .goto 5, 96, 0, 0, .null), (94, 2, .iload 5, 5, 0, 0, .null), (96, 2, .istore 5, 5, 0, 0, .null), (98, 3, .iinc 6 1, 6, 0, 0, .int 1), 
  (101, 3, .goto (-87), 14, 0, 0, .null), (104, 1, .iload_n 2, 2, 0, 0, .null), (105, 1, .iconst 2, 0, 0, 0, .int 2), (106, 3, .if_icmp .ne 8, 114, 0, 0, .null), 
  (109, 2, .iload 4, 4, 0, 0, .null), (111, 3, .goto 19, 130, 0, 0, .null), (114, 1, .iload_n 2, 2, 0, 0, .null), (115, 1, .iconst 1, 0, 0, 0, .int 1), 
  (116, 3, .if_icmp .ne 13, 129, 0, 0, .null), (119, 2, .iload 5, 5, 0, 0, .null), (121, 3, .ifCond .lt 8, 129, 0, 0, .null), (124, 2, .iload 5, 5, 0, 0, .null), 
  (126, 3, .goto 4, 130, 0, 0, .null), (129, 1, .iload_n 3, 3, 0, 0, .null), (130, 1, .ireturn, 0, 0, 0, .null)]
theorem okX12_chosen : tX12_chosen.all (okI yX12_chosen.cls (decide (yX12_chosen.name = "<init>")) cX12_chosen) = true := by decide +kernel
def tX12_goIn : List CI := [
  (0, 1, .aload_n 0, 0, 0, 0, .null), (1, 3, .getfield 154, 11, 16, 876, .null), (4, 1, .iload_n 1, 1, 0, 0, .null), (5, 3, .if_icmp .ne 5, 10, 0, 0, .null), 
  (8, 1, .iconst 0, 0, 0, 0, .int 0), (9, 1, .ireturn, 0, 0, 0, .null), (10, 1, .aload_n 0, 0, 0, 0, .null), (11, 1, .aload_n 0, 0, 0, 0, .null), 
  (12, 3, .getfield 77, 11, 30, 890, .null), (15, 1, .aload_n 0, 0, 0, 0, .null), (16, 3, .getfield 154, 11, 16, 876, .null), (19, 1, .iaload, 0, 0, 0, .null), 
  (20, 1, .iload_n 2, 2, 0, 0, .null), (21, 3, .invokevirtual 324, 0, 0, 0, .null), (24, 1, .istore_n 3, 3, 0, 0, .null), (25, 1, .iload_n 3, 3, 0, 0, .null), 
  (26, 3, .ifCond .ge 5, 31, 0, 0, .null), (29, 1, .iconst 0, 0, 0, 0, .int 0), (30, 1, .ireturn, 0, 0, 0, .null), (31, 1, .aload_n 0, 0, 0, 0, .null), 
  (32, 1, .iconst 0, 0, 0, 0, .int 0), (33, 1, .iconst 0, 0, 0, 0, .int 0), (34, 1, .iload_n 3, 3, 0, 0, .null), (35, 1, .iconst 1, 0, 0, 0, .int 1), 
  (36, 1, .iadd, 0, 0, 0, .null), (37, 1, .iconst 0, 0, 0, 0, .int 0), (38, 3, .invokevirtual 213, 0, 0, 0, .null), (41, 1, .iconst 1, 0, 0, 0, .int 1), 
  (42, 1, .ireturn, 0, 0, 0, .null)]
theorem okX12_goIn : tX12_goIn.all (okI yX12_goIn.cls (decide (yX12_goIn.name = "<init>")) cX12_goIn) = true := by decide +kernel
def tX12_goOn : List CI := [
  (0, 1, .iconst 1, 0, 0, 0, .int 1), (1, 1, .istore_n 2, 2, 0, 0, .null), (2, 1, .iload_n 2, 2, 0, 0, .null), (3, 1, .aload_n 0, 0, 0, 0, .null), 
  (4, 3, .getfield 101, 11, 4, 864, .null), (7, 3, .if_icmp .gt 81, 88, 0, 0, .null), (10, 1, .iconst 0, 0, 0, 0, .int 0), (11, 1, .istore_n 3, 3, 0, 0, .null), 
  (12, 1, .iload_n 3, 3, 0, 0, .null), (13, 1, .iconst 2, 0, 0, 0, .int 2), (14, 3, .if_icmp .ge 68, 82, 0, 0, .null), (17, 1, .iconst 1, 0, 0, 0, .int 1), 
  (18, 2, .istore 4, 4, 0, 0, .null), (20, 2, .iload 4, 4, 0, 0, .null), (22, 1, .aload_n 0, 0, 0, 0, .null), (23, 3, .getfield 101, 11, 4, 864, .null), 
  (26, 3, .if_icmp .gt 50, 76, 0, 0, .null), (29, 1, .iconst 0, 0, 0, 0, .int 0), (30, 2, .istore 5, 5, 0, 0, .null), (32, 2, .iload 5, 5, 0, 0, .null), 
  (34, 1, .iconst 2, 0, 0, 0, .int 2), (35, 3, .if_icmp .ge 35, 70, 0, 0, .null), (38, 1, .aload_n 0, 0, 0, 0, .null), (39, 1, .iload_n 2, 2, 0, 0, .null), 
  (40, 1, .iload_n 3, 3, 0, 0, .null), (41, 2, .iload 4, 4, 0, 0, .null), (43, 2, .iload 5, 5, 0, 0, .null), (45, 1, .iload_n 1, 1, 0, 0, .null), 
  (46, 3, .invokevirtual 209, 0, 0, 0, .null), (49, 3, .ifCond .eq 15, 64, 0, 0, .null), (52, 1, .aload_n 0, 0, 0, 0, .null), (53, 1, .iload_n 2, 2, 0, 0, .null), 
  (54, 1, .iload_n 3, 3, 0, 0, .null), (55, 2, .iload 4, 4, 0, 0, .null), (57, 2, .iload 5, 5, 0, 0, .null), (59, 3, .invokevirtual 213, 0, 0, 0, .null), 
  (62, 1, .iconst 1, 0, 0, 0, .int 1), (63, 1, .ireturn, 0, 0, 0, .null), (64, 3, .iinc 5 1, 5, 0, 0, .int 1), (67, 3, .goto (-35), 32, 0, 0, .null), 
  (70, 3, .iinc 4 1, 4, 0, 0, .int 1), (73, 3, .goto (-53), 20, 0, 0, .null), (76, 3, .iinc 3 1, 3, 0, 0, .int 1), (79, 3, .goto (-67), 12, 0, 0, .null), 
  (82, 3, .iinc 2 1, 2, 0, 0, .int 1), (85, 3, .goto (-83), 2, 0, 0, .null), (88, 1, .iconst 0, 0, 0, 0, .int 0), (89, 1, .ireturn, 0, 0, 0, .null)]
theorem okX12_goOn : tX12_goOn.all (okI yX12_goOn.cls (decide (yX12_goOn.name = "<init>")) cX12_goOn) = true := by decide +kernel
def tX12_thumbed : List CI := [
  (0, 1, .aload_n 0, 0, 0, 0, .null), (1, 1, .iload_n 1, 1, 0, 0, .null), (2, 1, .iload_n 2, 2, 0, 0, .null), (3, 3, .invokevirtual 239, 0, 0, 0, .null), 
  (6, 1, .aload_n 0, 0, 0, 0, .null), (7, 1, .iconst 0, 0, 0, 0, .int 0), (8, 3, .invokevirtual 194, 0, 0, 0, .null), (11, 1, .iconst 1, 0, 0, 0, .int 1), 
  (12, 2, .istore 4, 4, 0, 0, .null), (14, 2, .iload 4, 4, 0, 0, .null), (16, 3, .ifCond .eq 54, 70, 0, 0, .null), (19, 1, .aload_n 0, 0, 0, 0, .null), 
  (20, 1, .iload_n 2, 2, 0, 0, .null), (21, 3, .invokevirtual 327, 0, 0, 0, .null), (24, 2, .istore 4, 4, 0, 0, .null), (26, 2, .iload 4, 4, 0, 0, .null), 
  (28, 3, .ifCond .ne 12, 40, 0, 0, .null), (31, 1, .aload_n 0, 0, 0, 0, .null), (32, 1, .iload_n 2, 2, 0, 0, .null), (33, 1, .iload_n 3, 3, 0, 0, .null), 
  (34, 3, .invokevirtual 330, 0, 0, 0, .null), (37, 3, .ifCond .eq 7, 44, 0, 0, .null), (40, 1, .iconst 1, 0, 0, 0, .int 1), (41, 3, .goto 4, 45, 0, 0, .null), 
  (44, 1, .iconst 0, 0, 0, 0, .int 0), (45, 2, .istore 4, 4, 0, 0, .null), (47, 2, .iload 4, 4, 0, 0, .null), (49, 3, .ifCond .ne 11, 60, 0, 0, .null), 
  (52, 1, .aload_n 0, 0, 0, 0, .null), (53, 1, .iload_n 2, 2, 0, 0, .null), (54, 3, .invokevirtual 333, 0, 0, 0, .null), (57, 3, .ifCond .eq 7, 64, 0, 0, .null), 
  (60, 1, .iconst 1, 0, 0, 0, .int 1), (61, 3, .goto 4, 65, 0, 0, .null), (64, 1, .iconst 0, 0, 0, 0, .int 0), (65, 2, .istore 4, 4, 0, 0, .null), 
  (67, 3, .goto (-53), 14, 0, 0, .null), (70, 1, .aload_n 0, 0, 0, 0, .null), (71, 3, .getfield 40, 11, 15, 875, .null), (74, 1, .aload_n 0, 0, 0, 0, .null), 
  (75, 3, .getfield 101, 11, 4, 864, .null), (78, 1, .iaload, 0, 0, 0, .null), (79, 1, .ireturn, 0, 0, 0, .null)]
theorem okX12_thumbed : tX12_thumbed.all (okI yX12_thumbed.cls (decide (yX12_thumbed.name = "<init>")) cX12_thumbed) = true := by decide +kernel
def tX12_thumb : List CI := [
  (0, 1, .iload_n 1, 1, 0, 0, .null), (1, 3, .invokestatic 245, 0, 0, 0, .null), (4, 1, .istore_n 3, 3, 0, 0, .null), (5, 1, .iload_n 3, 3, 0, 0, .null), 
  (6, 3, .ifCond .le 25, 31, 0, 0, .null), (9, 1, .iload_n 2, 2, 0, 0, .null), (10, 1, .i2l, 0, 0, 0, .null), (11, 1, .lconst 0, 0, 0, 0, .long 0), 
  (12, 3, .ldc2_w 336, 0, 0, 1231, .long 2), (15, 3, .invokestatic 121, 0, 0, 0, .null), (18, 3, .ifCond .eq 13, 31, 0, 0, .null), (21, 1, .aload_n 0, 0, 0, 0, .null), 
  (22, 1, .iload_n 1, 1, 0, 0, .null), (23, 1, .iload_n 3, 3, 0, 0, .null), (24, 1, .iload_n 2, 2, 0, 0, .null), (25, 3, .invokevirtual 338, 0, 0, 0, .null), 
  (28, 3, .goto 5, 33, 0, 0, .null), (31, 2, .bipush (-2), 0, 0, 0, .int (-2)), (33, 1, .ireturn, 0, 0, 0, .null)]
theorem okX12_thumb : tX12_thumb.all (okI yX12_thumb.cls (decide (yX12_thumb.name = "<init>")) cX12_thumb) = true := by decide +kernel
def tX12_sorts : List CI := [
  (0, 1, .iload_n 1, 1, 0, 0, .null), (1, 3, .invokestatic 282, 0, 0, 0, .null), (4, 3, .ifCond .eq 15, 19, 0, 0, .null), (7, 1, .iload_n 2, 2, 0, 0, .null), 
  (8, 1, .i2l, 0, 0, 0, .null), (9, 1, .lconst 0, 0, 0, 0, .long 0), (10, 3, .ldc2_w 336, 0, 0, 1231, .long 2), (13, 3, .invokestatic 121, 0, 0, 0, .null), 
  (16, 3, .ifCond .ne 6, 22, 0, 0, .null), (19, 2, .bipush (-2), 0, 0, 0, .int (-2)), (21, 1, .ireturn, 0, 0, 0, .null), (22, 1, .iconst 0, 0, 0, 0, .int 0), 
  (23, 1, .istore_n 3, 3, 0, 0, .null), (24, 1, .iconst 0, 0, 0, 0, .int 0), (25, 2, .istore 4, 4, 0, 0, .null), (27, 2, .iload 4, 4, 0, 0, .null), 
  (29, 1, .iload_n 1, 1, 0, 0, .null), (30, 3, .invokestatic 270, 0, 0, 0, .null), (33, 3, .if_icmp .ge 34, 67, 0, 0, .null), (36, 1, .iload_n 3, 3, 0, 0, .null), 
  (37, 1, .aload_n 0, 0, 0, 0, .null), (38, 1, .aload_n 0, 0, 0, 0, .null), (39, 2, .iload 4, 4, 0, 0, .null), (41, 1, .iload_n 1, 1, 0, 0, .null), 
  (42, 3, .invokevirtual 285, 0, 0, 0, .null), (45, 1, .iload_n 1, 1, 0, 0, .null), (46, 1, .iload_n 2, 2, 0, 0, .null), (47, 3, .invokevirtual 338, 0, 0, 0, .null), 
  (50, 1, .iload_n 1, 1, 0, 0, .null), (51, 3, .if_icmp .ne 7, 58, 0, 0, .null), (54, 1, .iconst 1, 0, 0, 0, .int 1), (55, 3, .goto 4, 59, 0, 0, .null), 
  (58, 1, .iconst 0, 0, 0, 0, .int 0), (59, 1, .iadd, 0, 0, 0, .null), (60, 1, .istore_n 3, 3, 0, 0, .null), (61, 3, .iinc 4 1, 4, 0, 0, .int 1), 
  (64, 3, .goto (-37), 27, 0, 0, .null), (67, 1, .iload_n 3, 3, 0, 0, .null), (68, 1, .ireturn, 0, 0, 0, .null)]
theorem okX12_sorts : tX12_sorts.all (okI yX12_sorts.cls (decide (yX12_sorts.name = "<init>")) cX12_sorts) = true := by decide +kernel
def tX12_draw : List CI := [
  (0, 1, .iload_n 1, 1, 0, 0, .null), (1, 1, .i2l, 0, 0, 0, .null), (2, 1, .lconst 0, 0, 0, 0, .long 0), (3, 3, .ldc2_w 341, 0, 0, 1264, .long 9999), 
  (6, 3, .invokestatic 121, 0, 0, 0, .null), (9, 3, .ifCond .eq 10, 19, 0, 0, .null), (12, 1, .iload_n 2, 2, 0, 0, .null), (13, 3, .invokestatic 282, 0, 0, 0, .null), 
  (16, 3, .ifCond .ne 6, 22, 0, 0, .null), (19, 2, .bipush (-2), 0, 0, 0, .int (-2)), (21, 1, .ireturn, 0, 0, 0, .null), (22, 1, .iload_n 1, 1, 0, 0, .null), 
  (23, 1, .istore_n 3, 3, 0, 0, .null), (24, 1, .iconst 0, 0, 0, 0, .int 0), (25, 2, .istore 4, 4, 0, 0, .null), (27, 1, .iconst 0, 0, 0, 0, .int 0), 
  (28, 2, .istore 5, 5, 0, 0, .null), (30, 1, .iconst 0, 0, 0, 0, .int 0), (31, 2, .istore 6, 6, 0, 0, .null), (33, 2, .iload 6, 6, 0, 0, .null), 
  (35, 1, .iload_n 2, 2, 0, 0, .null), (36, 3, .if_icmp .ge 94, 130, 0, 0, .null), (39, 2, .bipush 75, 0, 0, 0, .int 75), (41, 1, .iload_n 3, 3, 0, 0, .null), 
  (42, 1, .imul, 0, 0, 0, .null), (43, 2, .bipush 74, 0, 0, 0, .int 74), (45, 1, .iadd, 0, 0, 0, .null), (46, 3, .ldc_w 343, 0, 0, 1265, .int 65537), 
  (49, 1, .irem, 0, 0, 0, .null), (50, 1, .istore_n 3, 3, 0, 0, .null), (51, 1, .iload_n 3, 3, 0, 0, .null), (52, 1, .iload_n 2, 2, 0, 0, .null), 
  (53, 2, .iload 6, 6, 0, 0, .null), (55, 1, .isub, 0, 0, 0, .null), (56, 1, .irem, 0, 0, 0, .null), (57, 2, .istore 7, 7, 0, 0, .null), (59, 1, .iconst 1, 0, 0, 0, .int 1), 
  (60, 2, .istore 8, 8, 0, 0, .null), (62, 2, .iload 4, 4, 0, 0, .null), (64, 2, .iload 8, 8, 0, 0, .null), (66, 1, .ishr, 0, 0, 0, .null), (67, 1, .iconst 1, 0, 0, 0, .int 1), 
  (68, 1, .iand, 0, 0, 0, .null), (69, 1, .iconst 1, 0, 0, 0, .int 1), (70, 3, .if_icmp .eq 8, 78, 0, 0, .null), (73, 2, .iload 7, 7, 0, 0, .null), 
  (75, 3, .ifCond .le 30, 105, 0, 0, .null), (78, 2, .iload 7, 7, 0, 0, .null), (80, 2, .iload 4, 4, 0, 0, .null), (82, 2, .iload 8, 8, 0, 0, .null), 
  (84, 1, .ishr, 0, 0, 0, .null), (85, 1, .iconst 1, 0, 0, 0, .int 1), (86, 1, .iand, 0, 0, 0, .null), (87, 1, .iconst 1, 0, 0, 0, .int 1), 
  (88, 3, .if_icmp .ne 7, 95, 0, 0, .null), (91, 1, .iconst 0, 0, 0, 0, .int 0), (92, 3, .goto 4, 96, 0, 0, .null), (95, 1, .iconst 1, 0, 0, 0, .int 1), 
  (96, 1, .isub, 0, 0, 0, .null), (97, 2, .istore 7, 7, 0, 0, .null), (99, 3, .iinc 8 1, 8, 0, 0, .int 1), (102, 3, .goto (-40), 62, 0, 0, .null), 
  (105, 2, .iload 4, 4, 0, 0, .null), (107, 1, .iconst 1, 0, 0, 0, .int 1), (108, 2, .iload 8, 8, 0, 0, .null), (110, 1, .ishl, 0, 0, 0, .null), (111, 1, .ior, 0, 0, 0, .null), 
  (112, 2, .istore 4, 4, 0, 0, .null), (114, 2, .bipush 10, 0, 0, 0, .int 10), (116, 2, .iload 5, 5, 0, 0, .null), (118, 1, .imul, 0, 0, 0, .null), 
  (119, 2, .iload 8, 8, 0, 0, .null), (121, 1, .iadd, 0, 0, 0, .null), (122, 2, .istore 5, 5, 0, 0, .null), (124, 3, .iinc 6 1, 6, 0, 0, .int 1), 
  (127, 3, .goto (-94), 33, 0, 0, .null), (130, 2, .iload 5, 5, 0, 0, .null), (132, 1, .ireturn, 0, 0, 0, .null)]
theorem okX12_draw : tX12_draw.all (okI yX12_draw.cls (decide (yX12_draw.name = "<init>")) cX12_draw) = true := by decide +kernel
def tX12_pass : List CI := [
  (0, 1, .aload_n 0, 0, 0, 0, .null), (1, 3, .getfield 344, 11, 43, 903, .null), (4, 3, .ifCond .eq 7, 11, 0, 0, .null), (7, 1, .iload_n 1, 1, 0, 0, .null), 
  (8, 3, .goto 12, 20, 0, 0, .null), (11, 1, .aload_n 0, 0, 0, 0, .null), (12, 3, .getfield 95, 11, 40, 900, .null), (15, 1, .aload_n 0, 0, 0, 0, .null), 
  (16, 3, .getfield 348, 11, 42, 902, .null), (19, 1, .iaload, 0, 0, 0, .null), (20, 1, .istore_n 2, 2, 0, 0, .null), (21, 1, .aload_n 0, 0, 0, 0, .null), 
  (22, 3, .getfield 95, 11, 40, 900, .null), (25, 1, .aload_n 0, 0, 0, 0, .null), (26, 3, .getfield 348, 11, 42, 902, .null), (29, 1, .iload_n 2, 2, 0, 0, .null), 
  (30, 1, .iastore, 0, 0, 0, .null), (31, 1, .aload_n 0, 0, 0, 0, .null), (32, 1, .dup, 0, 0, 0, .null), (33, 3, .getfield 348, 11, 42, 902, .null), 
  (36, 1, .iconst 1, 0, 0, 0, .int 1), (37, 1, .iadd, 0, 0, 0, .null), (38, 3, .putfield 348, 11, 42, 902, .int 0), (41, 1, .iload_n 2, 2, 0, 0, .null), 
  (42, 1, .ireturn, 0, 0, 0, .null)]
theorem okX12_pass : tX12_pass.all (okI yX12_pass.cls (decide (yX12_pass.name = "<init>")) cX12_pass) = true := by decide +kernel
def tX12_passAll : List CI := [
  (0, 1, .aload_n 0, 0, 0, 0, .null), (1, 1, .aload_n 0, 0, 0, 0, .null), (2, 1, .aload_n 0, 0, 0, 0, .null), (3, 3, .getfield 101, 11, 4, 864, .null), 
  (6, 3, .invokevirtual 351, 0, 0, 0, .null), (9, 3, .putfield 101, 11, 4, 864, .int 0), (12, 1, .aload_n 0, 0, 0, 0, .null), (13, 1, .aload_n 0, 0, 0, 0, .null), 
  (14, 1, .aload_n 0, 0, 0, 0, .null), (15, 3, .getfield 105, 11, 5, 865, .null), (18, 3, .invokevirtual 351, 0, 0, 0, .null), (21, 3, .putfield 105, 11, 5, 865, .int 0), 
  (24, 1, .aload_n 0, 0, 0, 0, .null), (25, 1, .aload_n 0, 0, 0, 0, .null), (26, 1, .aload_n 0, 0, 0, 0, .null), (27, 3, .getfield 108, 11, 10, 870, .null), 
  (30, 3, .invokevirtual 351, 0, 0, 0, .null), (33, 3, .putfield 108, 11, 10, 870, .int 0), (36, 1, .aload_n 0, 0, 0, 0, .null), (37, 1, .aload_n 0, 0, 0, 0, .null), 
  (38, 1, .aload_n 0, 0, 0, 0, .null), (39, 3, .getfield 111, 11, 11, 871, .null), (42, 3, .invokevirtual 351, 0, 0, 0, .null), (45, 3, .putfield 111, 11, 11, 871, .int 0), 
  (48, 1, .aload_n 0, 0, 0, 0, .null), (49, 1, .aload_n 0, 0, 0, 0, .null), (50, 1, .aload_n 0, 0, 0, 0, .null), (51, 3, .getfield 303, 11, 35, 895, .null), 
  (54, 3, .invokevirtual 351, 0, 0, 0, .null), (57, 3, .putfield 303, 11, 35, 895, .int 0), (60, 1, .aload_n 0, 0, 0, 0, .null), (61, 1, .aload_n 0, 0, 0, 0, .null), 
  (62, 1, .aload_n 0, 0, 0, 0, .null), (63, 3, .getfield 306, 11, 36, 896, .null), (66, 3, .invokevirtual 351, 0, 0, 0, .null), (69, 3, .putfield 306, 11, 36, 896, .int 0), 
  (72, 1, .aload_n 0, 0, 0, 0, .null), (73, 1, .aload_n 0, 0, 0, 0, .null), (74, 1, .aload_n 0, 0, 0, 0, .null), (75, 3, .getfield 114, 11, 37, 897, .null), 
  (78, 3, .invokevirtual 351, 0, 0, 0, .null), (81, 3, .putfield 114, 11, 37, 897, .int 0), (84, 1, .aload_n 0, 0, 0, 0, .null), (85, 1, .aload_n 0, 0, 0, 0, .null), 
  (86, 1, .aload_n 0, 0, 0, 0, .null), (87, 3, .getfield 309, 11, 39, 899, .null), (90, 3, .invokevirtual 351, 0, 0, 0, .null), (93, 3, .putfield 309, 11, 39, 899, .int 0), 
  (96, 1, .iconst 0, 0, 0, 0, .int 0), (97, 1, .istore_n 1, 1, 0, 0, .null), (98, 1, .iload_n 1, 1, 0, 0, .null), (99, 1, .iconst 4, 0, 0, 0, .int 4), 
  (100, 3, .if_icmp .ge 105, 205, 0, 0, .null), (103, 1, .aload_n 0, 0, 0, 0, .null), (104, 3, .getfield 7, 11, 0, 860, .null), (107, 1, .iload_n 1, 1, 0, 0, .null), 
  (108, 1, .aload_n 0, 0, 0, 0, .null), (109, 1, .aload_n 0, 0, 0, 0, .null), (110, 3, .getfield 7, 11, 0, 860, .null), (113, 1, .iload_n 1, 1, 0, 0, .null), 
  (114, 1, .iaload, 0, 0, 0, .null), (115, 3, .invokevirtual 351, 0, 0, 0, .null), (118, 1, .iastore, 0, 0, 0, .null), (119, 1, .aload_n 0, 0, 0, 0, .null), 
  (120, 3, .getfield 13, 11, 1, 861, .null), (123, 1, .iload_n 1, 1, 0, 0, .null), (124, 1, .aload_n 0, 0, 0, 0, .null), (125, 1, .aload_n 0, 0, 0, 0, .null), 
  (126, 3, .getfield 13, 11, 1, 861, .null), (129, 1, .iload_n 1, 1, 0, 0, .null), (130, 1, .iaload, 0, 0, 0, .null), (131, 3, .invokevirtual 351, 0, 0, 0, .null), 
  (134, 1, .iastore, 0, 0, 0, .null), (135, 1, .aload_n 0, 0, 0, 0, .null), (136, 3, .getfield 16, 11, 2, 862, .null), (139, 1, .iload_n 1, 1, 0, 0, .null), 
  (140, 1, .aload_n 0, 0, 0, 0, .null), (141, 1, .aload_n 0, 0, 0, 0, .null), (142, 3, .getfield 16, 11, 2, 862, .null), (145, 1, .iload_n 1, 1, 0, 0, .null), 
  (146, 1, .iaload, 0, 0, 0, .null), (147, 3, .invokevirtual 351, 0, 0, 0, .null), (150, 1, .iastore, 0, 0, 0, .null), (151, 1, .aload_n 0, 0, 0, 0, .null), 
  (152, 3, .getfield 22, 11, 6, 866, .null), (155, 1, .iload_n 1, 1, 0, 0, .null), (156, 1, .aload_n 0, 0, 0, 0, .null), (157, 1, .aload_n 0, 0, 0, 0, .null), 
  (158, 3, .getfield 22, 11, 6, 866, .null), (161, 1, .iload_n 1, 1, 0, 0, .null), (162, 1, .iaload, 0, 0, 0, .null), (163, 3, .invokevirtual 351, 0, 0, 0, .null), 
  (166, 1, .iastore, 0, 0, 0, .null), (167, 1, .aload_n 0, 0, 0, 0, .null), (168, 3, .getfield 25, 11, 7, 867, .null), (171, 1, .iload_n 1, 1, 0, 0, .null), 
  (172, 1, .aload_n 0, 0, 0, 0, .null), (173, 1, .aload_n 0, 0, 0, 0, .null), (174, 3, .getfield 25, 11, 7, 867, .null), (177, 1, .iload_n 1, 1, 0, 0, .null), 
  (178, 1, .iaload, 0, 0, 0, .null), (179, 3, .invokevirtual 351, 0, 0, 0, .null), (182, 1, .iastore, 0, 0, 0, .null), (183, 1, .aload_n 0, 0, 0, 0, .null), 
  (184, 3, .getfield 28, 11, 8, 868, .null), (187, 1, .iload_n 1, 1, 0, 0, .null), (188, 1, .aload_n 0, 0, 0, 0, .null), (189, 1, .aload_n 0, 0, 0, 0, .null), 
  (190, 3, .getfield 28, 11, 8, 868, .null), (193, 1, .iload_n 1, 1, 0, 0, .null), (194, 1, .iaload, 0, 0, 0, .null), (195, 3, .invokevirtual 351, 0, 0, 0, .null), 
  (198, 1, .iastore, 0, 0, 0, .null), (199, 3, .iinc 1 1, 1, 0, 0, .int 1), (202, 3, .goto (-104), 98, 0, 0, .null), (205, 1, .iconst 0, 0, 0, 0, .int 0), 
  (206, 1, .istore_n 1, 1, 0, 0, .null), (207, 1, .iload_n 1, 1, 0, 0, .null), (208, 1, .iconst 3, 0, 0, 0, .int 3), (209, 3, .if_icmp .ge 41, 250, 0, 0, .null), 
  (212, 1, .aload_n 0, 0, 0, 0, .null), (213, 3, .getfield 19, 11, 3, 863, .null), (216, 1, .iload_n 1, 1, 0, 0, .null), (217, 1, .aload_n 0, 0, 0, 0, .null), 
  (218, 1, .aload_n 0, 0, 0, 0, .null), (219, 3, .getfield 19, 11, 3, 863, .null), (222, 1, .iload_n 1, 1, 0, 0, .null), (223, 1, .iaload, 0, 0, 0, .null), 
  (224, 3, .invokevirtual 351, 0, 0, 0, .null), (227, 1, .iastore, 0, 0, 0, .null), (228, 1, .aload_n 0, 0, 0, 0, .null), (229, 3, .getfield 31, 11, 9, 869, .null), 
  (232, 1, .iload_n 1, 1, 0, 0, .null), (233, 1, .aload_n 0, 0, 0, 0, .null), (234, 1, .aload_n 0, 0, 0, 0, .null), (235, 3, .getfield 31, 11, 9, 869, .null), 
  (238, 1, .iload_n 1, 1, 0, 0, .null), (239, 1, .iaload, 0, 0, 0, .null), (240, 3, .invokevirtual 351, 0, 0, 0, .null), (243, 1, .iastore, 0, 0, 0, .null), 
  (244, 3, .iinc 1 1, 1, 0, 0, .int 1), (247, 3, .goto (-40), 207, 0, 0, .null), (250, 1, .iconst 0, 0, 0, 0, .int 0), (251, 1, .istore_n 1, 1, 0, 0, .null), 
  (252, 1, .iload_n 1, 1, 0, 0, .null), (253, 2, .bipush 40, 0, 0, 0, .int 40), (255, 3, .if_icmp .gt 25, 280, 0, 0, .null), (258, 1, .aload_n 0, 0, 0, 0, .null), 
  (259, 3, .getfield 92, 11, 38, 898, .null), (262, 1, .iload_n 1, 1, 0, 0, .null), (263, 1, .aload_n 0, 0, 0, 0, .null), (264, 1, .aload_n 0, 0, 0, 0, .null), 
  (265, 3, .getfield 92, 11, 38, 898, .null), (268, 1, .iload_n 1, 1, 0, 0, .null), (269, 1, .iaload, 0, 0, 0, .null), (270, 3, .invokevirtual 351, 0, 0, 0, .null), 
  (273, 1, .iastore, 0, 0, 0, .null), (274, 3, .iinc 1 1, 1, 0, 0, .int 1), (277, 3, .goto (-25), 252, 0, 0, .null), (280, 1, .aload_n 0, 0, 0, 0, .null), 
  (281, 3, .invokevirtual 140, 0, 0, 0, .null), (284, 1, .return_, 0, 0, 0, .null)]
theorem okX12_passAll : tX12_passAll.all (okI yX12_passAll.cls (decide (yX12_passAll.name = "<init>")) cX12_passAll) = true := by decide +kernel
def tX12_image : List CI := [
  (0, 1, .iload_n 1, 1, 0, 0, .null), (1, 1, .i2l, 0, 0, 0, .null), (2, 1, .lconst 0, 0, 0, 0, .long 0), (3, 1, .lconst 1, 0, 0, 0, .long 1), 
  (4, 3, .invokestatic 121, 0, 0, 0, .null), (7, 3, .ifCond .ne 6, 13, 0, 0, .null), (10, 2, .bipush (-2), 0, 0, 0, .int (-2)), (12, 1, .ireturn, 0, 0, 0, .null), 
  (13, 1, .aload_n 0, 0, 0, 0, .null), (14, 2, .bipush 100, 0, 0, 0, .int 100), (16, 1, .iload_n 1, 1, 0, 0, .null), (17, 1, .imul, 0, 0, 0, .null), 
  (18, 3, .putfield 348, 11, 42, 902, .int 0), (21, 1, .aload_n 0, 0, 0, 0, .null), (22, 1, .iconst 1, 0, 0, 0, .int 1), (23, 3, .putfield 344, 11, 43, 903, .long 0), 
  (26, 1, .aload_n 0, 0, 0, 0, .null), (27, 3, .invokevirtual 354, 0, 0, 0, .null), (30, 1, .aload_n 0, 0, 0, 0, .null), (31, 3, .getfield 98, 11, 41, 901, .null), 
  (34, 1, .iload_n 1, 1, 0, 0, .null), (35, 1, .iconst 1, 0, 0, 0, .int 1), (36, 1, .bastore, 0, 0, 0, .null), (37, 1, .iconst 1, 0, 0, 0, .int 1), 
  (38, 1, .ireturn, 0, 0, 0, .null)]
theorem okX12_image : tX12_image.all (okI yX12_image.cls (decide (yX12_image.name = "<init>")) cX12_image) = true := by decide +kernel
def tX12_restore : List CI := [
  (0, 1, .iload_n 1, 1, 0, 0, .null), (1, 1, .i2l, 0, 0, 0, .null), (2, 1, .lconst 0, 0, 0, 0, .long 0), (3, 1, .lconst 1, 0, 0, 0, .long 1), 
  (4, 3, .invokestatic 121, 0, 0, 0, .null), (7, 3, .ifCond .ne 6, 13, 0, 0, .null), (10, 2, .bipush (-2), 0, 0, 0, .int (-2)), (12, 1, .ireturn, 0, 0, 0, .null), 
  (13, 1, .aload_n 0, 0, 0, 0, .null), (14, 3, .getfield 98, 11, 41, 901, .null), (17, 1, .iload_n 1, 1, 0, 0, .null), (18, 1, .baload, 0, 0, 0, .null), 
  (19, 3, .ifCond .ne 6, 25, 0, 0, .null), (22, 2, .bipush (-3), 0, 0, 0, .int (-3)), (24, 1, .ireturn, 0, 0, 0, .null), (25, 1, .aload_n 0, 0, 0, 0, .null), 
  (26, 2, .bipush 100, 0, 0, 0, .int 100), (28, 1, .iload_n 1, 1, 0, 0, .null), (29, 1, .imul, 0, 0, 0, .null), (30, 3, .putfield 348, 11, 42, 902, .int 0), 
  (33, 1, .aload_n 0, 0, 0, 0, .null), (34, 1, .iconst 0, 0, 0, 0, .int 0), (35, 3, .putfield 344, 11, 43, 903, .long 0), (38, 1, .aload_n 0, 0, 0, 0, .null), 
  (39, 3, .invokevirtual 354, 0, 0, 0, .null), (42, 1, .iconst 1, 0, 0, 0, .int 1), (43, 1, .ireturn, 0, 0, 0, .null)]
theorem okX12_restore : tX12_restore.all (okI yX12_restore.cls (decide (yX12_restore.name = "<init>")) cX12_restore) = true := by decide +kernel
def tX12_told : List CI := [
  (0, 1, .iload_n 1, 1, 0, 0, .null), (1, 35, .tableswitch 72 0 4 #[35, 40, 45, 50, 67], 0, 0, 0, .null), (36, 1, .aload_n 0, 0, 0, 0, .null), 
  (37, 3, .getfield 125, 11, 13, 873, .null), (40, 1, .ireturn, 0, 0, 0, .null), (41, 1, .aload_n 0, 0, 0, 0, .null), (42, 3, .getfield 101, 11, 4, 864, .null), 
  (45, 1, .ireturn, 0, 0, 0, .null), (46, 1, .aload_n 0, 0, 0, 0, .null), (47, 3, .getfield 105, 11, 5, 865, .null), (50, 1, .ireturn, 0, 0, 0, .null), 
  (51, 1, .aload_n 0, 0, 0, 0, .null), (52, 3, .getfield 114, 11, 37, 897, .null), (55, 3, .ifCond .ne 8, 63, 0, 0, .null), (58, 2, .bipush (-6), 0, 0, 0, .int (-6)), 
  (60, 3, .goto 7, 67, 0, 0, .null), (63, 1, .aload_n 0, 0, 0, 0, .null), (64, 3, .getfield 309, 11, 39, 899, .null), (67, 1, .ireturn, 0, 0, 0, .null), 
  (68, 1, .aload_n 0, 0, 0, 0, .null), (69, 3, .getfield 108, 11, 10, 870, .null), (72, 1, .ireturn, 0, 0, 0, .null), (73, 2, .bipush (-2), 0, 0, 0, .int (-2)), 
  (75, 1, .ireturn, 0, 0, 0, .null)]
theorem okX12_told : tX12_told.all (okI yX12_told.cls (decide (yX12_told.name = "<init>")) cX12_told) = true := by decide +kernel
def tJ6_bitCount_0f7a4 : List CI := [
  (0, 1, .iload_n 0, 0, 0, 0, .null), (1, 1, .iload_n 0, 0, 0, 0, .null), (2, 1, .iconst 1, 0, 0, 0, .int 1), (3, 1, .iushr, 0, 0, 0, .null), 
  (4, 3, .ldc_w 265, 0, 0, 545, .int 1431655765), (7, 1, .iand, 0, 0, 0, .null), (8, 1, .isub, 0, 0, 0, .null), (9, 1, .istore_n 0, 0, 0, 0, .null), 
  (10, 1, .iload_n 0, 0, 0, 0, .null), (11, 3, .ldc_w 266, 0, 0, 546, .int 858993459), (14, 1, .iand, 0, 0, 0, .null), (15, 1, .iload_n 0, 0, 0, 0, .null), 
  (16, 1, .iconst 2, 0, 0, 0, .int 2), (17, 1, .iushr, 0, 0, 0, .null), (18, 3, .ldc_w 266, 0, 0, 546, .int 858993459), (21, 1, .iand, 0, 0, 0, .null), 
  (22, 1, .iadd, 0, 0, 0, .null), (23, 1, .istore_n 0, 0, 0, 0, .null), (24, 1, .iload_n 0, 0, 0, 0, .null), (25, 1, .iload_n 0, 0, 0, 0, .null), 
  (26, 1, .iconst 4, 0, 0, 0, .int 4), (27, 1, .iushr, 0, 0, 0, .null), (28, 1, .iadd, 0, 0, 0, .null), (29, 3, .ldc_w 267, 0, 0, 547, .int 252645135), 
  (32, 1, .iand, 0, 0, 0, .null), (33, 1, .istore_n 0, 0, 0, 0, .null), (34, 1, .iload_n 0, 0, 0, 0, .null), (35, 1, .iload_n 0, 0, 0, 0, .null), 
  (36, 2, .bipush 8, 0, 0, 0, .int 8), (38, 1, .iushr, 0, 0, 0, .null), (39, 1, .iadd, 0, 0, 0, .null), (40, 1, .istore_n 0, 0, 0, 0, .null), (41, 1, .iload_n 0, 0, 0, 0, .null), 
  (42, 1, .iload_n 0, 0, 0, 0, .null), (43, 2, .bipush 16, 0, 0, 0, .int 16), (45, 1, .iushr, 0, 0, 0, .null), (46, 1, .iadd, 0, 0, 0, .null), 
  (47, 1, .istore_n 0, 0, 0, 0, .null), (48, 1, .iload_n 0, 0, 0, 0, .null), (49, 2, .bipush 63, 0, 0, 0, .int 63), (51, 1, .iand, 0, 0, 0, .null), 
  (52, 1, .ireturn, 0, 0, 0, .null)]
theorem okJ6_bitCount_0f7a4 : tJ6_bitCount_0f7a4.all (okI yJ6_bitCount_0f7a4.cls (decide (yJ6_bitCount_0f7a4.name = "<init>")) cJ6_bitCount_0f7a4) = true := by decide +kernel
end
section
theorem in_by {ws : List Cond} (ps : List Nat) (h : ps.map (fun i => TG[i]?) = ws.map some) : ∀ w ∈ ws, w ∈ TG := by
  intro w hw
  have h1 : some w ∈ ws.map some := List.mem_map.mpr ⟨w, hw, rfl⟩
  rw [← h] at h1
  obtain ⟨i, -, hi⟩ := List.mem_map.mp h1
  exact List.mem_of_getElem? hi
def isNest : Cond → Bool
  | .methodLinkNest _ _ _ _ => true
  | _ => false
/-- the words that a callee's words can't hold: they come with the start -/
def NW : List Cond := lw_tbl.filter isNest
end
section
theorem dpX12_in : (decide (yX12_in.cls ≠ "java/lang/invoke/MethodHandle") && decide (yX12_in.cls ≠ "java/lang/invoke/VarHandle") && decide ((parseMethodDescriptor yX12_in.desc).map (fun d => d.parameters.length) = some 3)) = true := by decide +kernel
theorem lkX12_121 : ∀ w ∈ [Cond.methodLink RX12 121 yX12_in, .static yX12_in, .initialized yX12_in.cls, .code yX12_in cX12_in 6 (some .boolean)], w ∈ TG := in_by [1000, 1001, 87, 1002] (by decide +kernel)
theorem dpX12_isLetter : (decide (yX12_isLetter.cls ≠ "java/lang/invoke/MethodHandle") && decide (yX12_isLetter.cls ≠ "java/lang/invoke/VarHandle") && decide ((parseMethodDescriptor yX12_isLetter.desc).map (fun d => d.parameters.length) = some 1)) = true := by decide +kernel
theorem lkX12_132 : ∀ w ∈ [Cond.methodLink RX12 132 yX12_isLetter, .static yX12_isLetter, .initialized yX12_isLetter.cls, .code yX12_isLetter cX12_isLetter 1 (some .boolean)], w ∈ TG := in_by [1013, 1014, 87, 1015] (by decide +kernel)
theorem dpX12_fault : (decide (yX12_fault.cls ≠ "java/lang/invoke/MethodHandle") && decide (yX12_fault.cls ≠ "java/lang/invoke/VarHandle") && decide ((parseMethodDescriptor yX12_fault.desc).map (fun d => d.parameters.length) = some 0)) = true := by decide +kernel
theorem lkX12_136 : ∀ w ∈ [Cond.methodLink RX12 136 yX12_fault, .instanceMethod yX12_fault, .selects yX12_fault.cls yX12_fault yX12_fault, .initialized yX12_fault.cls, .code yX12_fault cX12_fault 7 (some .int)], w ∈ TG := in_by [1020, 1008, 1009, 87, 1010] (by decide +kernel)
theorem dpX12_forget : (decide (yX12_forget.cls ≠ "java/lang/invoke/MethodHandle") && decide (yX12_forget.cls ≠ "java/lang/invoke/VarHandle") && decide ((parseMethodDescriptor yX12_forget.desc).map (fun d => d.parameters.length) = some 0)) = true := by decide +kernel
theorem lkX12_140 : ∀ w ∈ [Cond.methodLink RX12 140 yX12_forget, .instanceMethod yX12_forget, .selects yX12_forget.cls yX12_forget yX12_forget, .initialized yX12_forget.cls, .code yX12_forget cX12_forget 2 none], w ∈ TG := in_by [1021, 1022, 27, 87, 1023] (by decide +kernel)
theorem dpX12_isSiding : (decide (yX12_isSiding.cls ≠ "java/lang/invoke/MethodHandle") && decide (yX12_isSiding.cls ≠ "java/lang/invoke/VarHandle") && decide ((parseMethodDescriptor yX12_isSiding.desc).map (fun d => d.parameters.length) = some 1)) = true := by decide +kernel
theorem lkX12_143 : ∀ w ∈ [Cond.methodLink RX12 143 yX12_isSiding, .instanceMethod yX12_isSiding, .selects yX12_isSiding.cls yX12_isSiding yX12_isSiding, .initialized yX12_isSiding.cls, .code yX12_isSiding cX12_isSiding 2 (some .boolean)], w ∈ TG := in_by [1028, 1029, 28, 87, 1030] (by decide +kernel)
theorem dpX12_goes : (decide (yX12_goes.cls ≠ "java/lang/invoke/MethodHandle") && decide (yX12_goes.cls ≠ "java/lang/invoke/VarHandle") && decide ((parseMethodDescriptor yX12_goes.desc).map (fun d => d.parameters.length) = some 2)) = true := by decide +kernel
theorem lkX12_150 : ∀ w ∈ [Cond.methodLink RX12 150 yX12_goes, .instanceMethod yX12_goes, .selects yX12_goes.cls yX12_goes yX12_goes, .initialized yX12_goes.cls, .code yX12_goes cX12_goes 7 (some .boolean)], w ∈ TG := in_by [1037, 1038, 29, 87, 1039] (by decide +kernel)
theorem dpX12_putNear : (decide (yX12_putNear.cls ≠ "java/lang/invoke/MethodHandle") && decide (yX12_putNear.cls ≠ "java/lang/invoke/VarHandle") && decide ((parseMethodDescriptor yX12_putNear.desc).map (fun d => d.parameters.length) = some 2)) = true := by decide +kernel
theorem lkX12_157 : ∀ w ∈ [Cond.methodLink RX12 157 yX12_putNear, .instanceMethod yX12_putNear, .selects yX12_putNear.cls yX12_putNear yX12_putNear, .initialized yX12_putNear.cls, .code yX12_putNear cX12_putNear 4 none], w ∈ TG := in_by [1063, 1064, 34, 87, 1065] (by decide +kernel)
theorem dpX12_isIn : (decide (yX12_isIn.cls ≠ "java/lang/invoke/MethodHandle") && decide (yX12_isIn.cls ≠ "java/lang/invoke/VarHandle") && decide ((parseMethodDescriptor yX12_isIn.desc).map (fun d => d.parameters.length) = some 2)) = true := by decide +kernel
theorem lkX12_164 : ∀ w ∈ [Cond.methodLink RX12 164 yX12_isIn, .instanceMethod yX12_isIn, .selects yX12_isIn.cls yX12_isIn yX12_isIn, .initialized yX12_isIn.cls, .code yX12_isIn cX12_isIn 3 (some .boolean)], w ∈ TG := in_by [1087, 1088, 41, 87, 1089] (by decide +kernel)
theorem dpX12_isOut : (decide (yX12_isOut.cls ≠ "java/lang/invoke/MethodHandle") && decide (yX12_isOut.cls ≠ "java/lang/invoke/VarHandle") && decide ((parseMethodDescriptor yX12_isOut.desc).map (fun d => d.parameters.length) = some 2)) = true := by decide +kernel
theorem lkX12_161 : ∀ w ∈ [Cond.methodLink RX12 161 yX12_isOut, .instanceMethod yX12_isOut, .selects yX12_isOut.cls yX12_isOut yX12_isOut, .initialized yX12_isOut.cls, .code yX12_isOut cX12_isOut 3 (some .boolean)], w ∈ TG := in_by [1084, 1085, 40, 87, 1086] (by decide +kernel)
theorem dpX12_putFar : (decide (yX12_putFar.cls ≠ "java/lang/invoke/MethodHandle") && decide (yX12_putFar.cls ≠ "java/lang/invoke/VarHandle") && decide ((parseMethodDescriptor yX12_putFar.desc).map (fun d => d.parameters.length) = some 2)) = true := by decide +kernel
theorem lkX12_174 : ∀ w ∈ [Cond.methodLink RX12 174 yX12_putFar, .instanceMethod yX12_putFar, .selects yX12_putFar.cls yX12_putFar yX12_putFar, .initialized yX12_putFar.cls, .code yX12_putFar cX12_putFar 3 none], w ∈ TG := in_by [1099, 1100, 45, 87, 1101] (by decide +kernel)
theorem dpX12_takeNear : (decide (yX12_takeNear.cls ≠ "java/lang/invoke/MethodHandle") && decide (yX12_takeNear.cls ≠ "java/lang/invoke/VarHandle") && decide ((parseMethodDescriptor yX12_takeNear.desc).map (fun d => d.parameters.length) = some 1)) = true := by decide +kernel
theorem lkX12_167 : ∀ w ∈ [Cond.methodLink RX12 167 yX12_takeNear, .instanceMethod yX12_takeNear, .selects yX12_takeNear.cls yX12_takeNear yX12_takeNear, .initialized yX12_takeNear.cls, .code yX12_takeNear cX12_takeNear 4 (some .int)], w ∈ TG := in_by [1093, 1094, 43, 87, 1095] (by decide +kernel)
theorem dpX12_takeFar : (decide (yX12_takeFar.cls ≠ "java/lang/invoke/MethodHandle") && decide (yX12_takeFar.cls ≠ "java/lang/invoke/VarHandle") && decide ((parseMethodDescriptor yX12_takeFar.desc).map (fun d => d.parameters.length) = some 1)) = true := by decide +kernel
theorem lkX12_171 : ∀ w ∈ [Cond.methodLink RX12 171 yX12_takeFar, .instanceMethod yX12_takeFar, .selects yX12_takeFar.cls yX12_takeFar yX12_takeFar, .initialized yX12_takeFar.cls, .code yX12_takeFar cX12_takeFar 2 (some .int)], w ∈ TG := in_by [1096, 1097, 44, 87, 1098] (by decide +kernel)
theorem dpX12_slotOf : (decide (yX12_slotOf.cls ≠ "java/lang/invoke/MethodHandle") && decide (yX12_slotOf.cls ≠ "java/lang/invoke/VarHandle") && decide ((parseMethodDescriptor yX12_slotOf.desc).map (fun d => d.parameters.length) = some 1)) = true := by decide +kernel
theorem lkX12_185 : ∀ w ∈ [Cond.methodLink RX12 185 yX12_slotOf, .instanceMethod yX12_slotOf, .selects yX12_slotOf.cls yX12_slotOf yX12_slotOf, .initialized yX12_slotOf.cls, .code yX12_slotOf cX12_slotOf 3 (some .int)], w ∈ TG := in_by [1072, 1073, 37, 87, 1074] (by decide +kernel)
theorem dpX12_decode : (decide (yX12_decode.cls ≠ "java/lang/invoke/MethodHandle") && decide (yX12_decode.cls ≠ "java/lang/invoke/VarHandle") && decide ((parseMethodDescriptor yX12_decode.desc).map (fun d => d.parameters.length) = some 1)) = true := by decide +kernel
theorem lkX12_194 : ∀ w ∈ [Cond.methodLink RX12 194 yX12_decode, .instanceMethod yX12_decode, .selects yX12_decode.cls yX12_decode yX12_decode, .initialized yX12_decode.cls, .code yX12_decode cX12_decode 5 none], w ∈ TG := in_by [1060, 1061, 33, 87, 1062] (by decide +kernel)
theorem dpX12_canMove : (decide (yX12_canMove.cls ≠ "java/lang/invoke/MethodHandle") && decide (yX12_canMove.cls ≠ "java/lang/invoke/VarHandle") && decide ((parseMethodDescriptor yX12_canMove.desc).map (fun d => d.parameters.length) = some 5)) = true := by decide +kernel
theorem lkX12_209 : ∀ w ∈ [Cond.methodLink RX12 209 yX12_canMove, .instanceMethod yX12_canMove, .selects yX12_canMove.cls yX12_canMove yX12_canMove, .initialized yX12_canMove.cls, .code yX12_canMove cX12_canMove 8 (some .boolean)], w ∈ TG := in_by [1081, 1082, 39, 87, 1083] (by decide +kernel)
theorem dpX12_doMove : (decide (yX12_doMove.cls ≠ "java/lang/invoke/MethodHandle") && decide (yX12_doMove.cls ≠ "java/lang/invoke/VarHandle") && decide ((parseMethodDescriptor yX12_doMove.desc).map (fun d => d.parameters.length) = some 4)) = true := by decide +kernel
theorem lkX12_213 : ∀ w ∈ [Cond.methodLink RX12 213 yX12_doMove, .instanceMethod yX12_doMove, .selects yX12_doMove.cls yX12_doMove yX12_doMove, .initialized yX12_doMove.cls, .code yX12_doMove cX12_doMove 7 none], w ∈ TG := in_by [1090, 1091, 42, 87, 1092] (by decide +kernel)
theorem dpX12_isWanted : (decide (yX12_isWanted.cls ≠ "java/lang/invoke/MethodHandle") && decide (yX12_isWanted.cls ≠ "java/lang/invoke/VarHandle") && decide ((parseMethodDescriptor yX12_isWanted.desc).map (fun d => d.parameters.length) = some 0)) = true := by decide +kernel
theorem lkX12_198 : ∀ w ∈ [Cond.methodLink RX12 198 yX12_isWanted, .instanceMethod yX12_isWanted, .selects yX12_isWanted.cls yX12_isWanted yX12_isWanted, .initialized yX12_isWanted.cls, .code yX12_isWanted cX12_isWanted 3 (some .boolean)], w ∈ TG := in_by [1066, 1067, 35, 87, 1068] (by decide +kernel)
theorem dpX12_encode : (decide (yX12_encode.cls ≠ "java/lang/invoke/MethodHandle") && decide (yX12_encode.cls ≠ "java/lang/invoke/VarHandle") && decide ((parseMethodDescriptor yX12_encode.desc).map (fun d => d.parameters.length) = some 0)) = true := by decide +kernel
theorem lkX12_217 : ∀ w ∈ [Cond.methodLink RX12 217 yX12_encode, .instanceMethod yX12_encode, .selects yX12_encode.cls yX12_encode yX12_encode, .initialized yX12_encode.cls, .code yX12_encode cX12_encode 4 (some .int)], w ∈ TG := in_by [1102, 1103, 46, 87, 1104] (by decide +kernel)
theorem dpX12_come : (decide (yX12_come.cls ≠ "java/lang/invoke/MethodHandle") && decide (yX12_come.cls ≠ "java/lang/invoke/VarHandle") && decide ((parseMethodDescriptor yX12_come.desc).map (fun d => d.parameters.length) = some 3)) = true := by decide +kernel
theorem lkX12_202 : ∀ w ∈ [Cond.methodLink RX12 202 yX12_come, .instanceMethod yX12_come, .selects yX12_come.cls yX12_come yX12_come, .initialized yX12_come.cls, .code yX12_come cX12_come 6 none], w ∈ TG := in_by [1069, 1070, 36, 87, 1071] (by decide +kernel)
theorem dpX12_spread : (decide (yX12_spread.cls ≠ "java/lang/invoke/MethodHandle") && decide (yX12_spread.cls ≠ "java/lang/invoke/VarHandle") && decide ((parseMethodDescriptor yX12_spread.desc).map (fun d => d.parameters.length) = some 2)) = true := by decide +kernel
theorem lkX12_206 : ∀ w ∈ [Cond.methodLink RX12 206 yX12_spread, .instanceMethod yX12_spread, .selects yX12_spread.cls yX12_spread yX12_spread, .initialized yX12_spread.cls, .code yX12_spread cX12_spread 7 none], w ∈ TG := in_by [1078, 1079, 38, 87, 1080] (by decide +kernel)
theorem dpX12_search : (decide (yX12_search.cls ≠ "java/lang/invoke/MethodHandle") && decide (yX12_search.cls ≠ "java/lang/invoke/VarHandle") && decide ((parseMethodDescriptor yX12_search.desc).map (fun d => d.parameters.length) = some 2)) = true := by decide +kernel
theorem lkX12_220 : ∀ w ∈ [Cond.methodLink RX12 220 yX12_search, .instanceMethod yX12_search, .selects yX12_search.cls yX12_search yX12_search, .initialized yX12_search.cls, .code yX12_search cX12_search 5 (some .int)], w ∈ TG := in_by [1057, 1058, 32, 87, 1059] (by decide +kernel)
theorem dpX12_rankOf : (decide (yX12_rankOf.cls ≠ "java/lang/invoke/MethodHandle") && decide (yX12_rankOf.cls ≠ "java/lang/invoke/VarHandle") && decide ((parseMethodDescriptor yX12_rankOf.desc).map (fun d => d.parameters.length) = some 1)) = true := by decide +kernel
theorem lkX12_224 : ∀ w ∈ [Cond.methodLink RX12 224 yX12_rankOf, .instanceMethod yX12_rankOf, .selects yX12_rankOf.cls yX12_rankOf yX12_rankOf, .initialized yX12_rankOf.cls, .code yX12_rankOf cX12_rankOf 6 (some .int)], w ∈ TG := in_by [1105, 1106, 47, 87, 1107] (by decide +kernel)
theorem dpX12_digitAt : (decide (yX12_digitAt.cls ≠ "java/lang/invoke/MethodHandle") && decide (yX12_digitAt.cls ≠ "java/lang/invoke/VarHandle") && decide ((parseMethodDescriptor yX12_digitAt.desc).map (fun d => d.parameters.length) = some 3)) = true := by decide +kernel
theorem lkX12_229 : ∀ w ∈ [Cond.methodLink RX12 229 yX12_digitAt, .static yX12_digitAt, .initialized yX12_digitAt.cls, .code yX12_digitAt cX12_digitAt 5 (some .int)], w ∈ TG := in_by [1111, 1112, 87, 1113] (by decide +kernel)
theorem dpX12_placeOf : (decide (yX12_placeOf.cls ≠ "java/lang/invoke/MethodHandle") && decide (yX12_placeOf.cls ≠ "java/lang/invoke/VarHandle") && decide ((parseMethodDescriptor yX12_placeOf.desc).map (fun d => d.parameters.length) = some 2)) = true := by decide +kernel
theorem lkX12_233 : ∀ w ∈ [Cond.methodLink RX12 233 yX12_placeOf, .instanceMethod yX12_placeOf, .selects yX12_placeOf.cls yX12_placeOf yX12_placeOf, .initialized yX12_placeOf.cls, .code yX12_placeOf cX12_placeOf 5 (some .int)], w ∈ TG := in_by [1117, 1118, 50, 87, 1119] (by decide +kernel)
theorem dpX12_findAll : (decide (yX12_findAll.cls ≠ "java/lang/invoke/MethodHandle") && decide (yX12_findAll.cls ≠ "java/lang/invoke/VarHandle") && decide ((parseMethodDescriptor yX12_findAll.desc).map (fun d => d.parameters.length) = some 1)) = true := by decide +kernel
theorem lkX12_236 : ∀ w ∈ [Cond.methodLink RX12 236 yX12_findAll, .instanceMethod yX12_findAll, .selects yX12_findAll.cls yX12_findAll yX12_findAll, .initialized yX12_findAll.cls, .code yX12_findAll cX12_findAll 5 none], w ∈ TG := in_by [1054, 1055, 31, 87, 1056] (by decide +kernel)
theorem dpX12_layTrain : (decide (yX12_layTrain.cls ≠ "java/lang/invoke/MethodHandle") && decide (yX12_layTrain.cls ≠ "java/lang/invoke/VarHandle") && decide ((parseMethodDescriptor yX12_layTrain.desc).map (fun d => d.parameters.length) = some 2)) = true := by decide +kernel
theorem lkX12_239 : ∀ w ∈ [Cond.methodLink RX12 239 yX12_layTrain, .instanceMethod yX12_layTrain, .selects yX12_layTrain.cls yX12_layTrain yX12_layTrain, .initialized yX12_layTrain.cls, .code yX12_layTrain cX12_layTrain 4 none], w ∈ TG := in_by [1108, 1109, 48, 87, 1110] (by decide +kernel)
theorem dpX12_layOrder : (decide (yX12_layOrder.cls ≠ "java/lang/invoke/MethodHandle") && decide (yX12_layOrder.cls ≠ "java/lang/invoke/VarHandle") && decide ((parseMethodDescriptor yX12_layOrder.desc).map (fun d => d.parameters.length) = some 2)) = true := by decide +kernel
theorem lkX12_242 : ∀ w ∈ [Cond.methodLink RX12 242 yX12_layOrder, .instanceMethod yX12_layOrder, .selects yX12_layOrder.cls yX12_layOrder yX12_layOrder, .initialized yX12_layOrder.cls, .code yX12_layOrder cX12_layOrder 4 none], w ∈ TG := in_by [1114, 1115, 49, 87, 1116] (by decide +kernel)
theorem dpX12_wagonsOf : (decide (yX12_wagonsOf.cls ≠ "java/lang/invoke/MethodHandle") && decide (yX12_wagonsOf.cls ≠ "java/lang/invoke/VarHandle") && decide ((parseMethodDescriptor yX12_wagonsOf.desc).map (fun d => d.parameters.length) = some 1)) = true := by decide +kernel
theorem lkX12_245 : ∀ w ∈ [Cond.methodLink RX12 245 yX12_wagonsOf, .static yX12_wagonsOf, .initialized yX12_wagonsOf.cls, .code yX12_wagonsOf cX12_wagonsOf 5 (some .int)], w ∈ TG := in_by [1047, 1048, 87, 1049] (by decide +kernel)
theorem dpX12_areTwo : (decide (yX12_areTwo.cls ≠ "java/lang/invoke/MethodHandle") && decide (yX12_areTwo.cls ≠ "java/lang/invoke/VarHandle") && decide ((parseMethodDescriptor yX12_areTwo.desc).map (fun d => d.parameters.length) = some 2)) = true := by decide +kernel
theorem lkX12_248 : ∀ w ∈ [Cond.methodLink RX12 248 yX12_areTwo, .static yX12_areTwo, .initialized yX12_areTwo.cls, .code yX12_areTwo cX12_areTwo 2 (some .boolean)], w ∈ TG := in_by [1044, 1045, 87, 1046] (by decide +kernel)
theorem dpX12_found : (decide (yX12_found.cls ≠ "java/lang/invoke/MethodHandle") && decide (yX12_found.cls ≠ "java/lang/invoke/VarHandle") && decide ((parseMethodDescriptor yX12_found.desc).map (fun d => d.parameters.length) = some 3)) = true := by decide +kernel
theorem lkX12_251 : ∀ w ∈ [Cond.methodLink RX12 251 yX12_found, .instanceMethod yX12_found, .selects yX12_found.cls yX12_found yX12_found, .initialized yX12_found.cls, .code yX12_found cX12_found 4 (some .int)], w ∈ TG := in_by [1051, 1052, 30, 87, 1053] (by decide +kernel)
theorem dpX12_isMove : (decide (yX12_isMove.cls ≠ "java/lang/invoke/MethodHandle") && decide (yX12_isMove.cls ≠ "java/lang/invoke/VarHandle") && decide ((parseMethodDescriptor yX12_isMove.desc).map (fun d => d.parameters.length) = some 4)) = true := by decide +kernel
theorem lkX12_256 : ∀ w ∈ [Cond.methodLink RX12 256 yX12_isMove, .instanceMethod yX12_isMove, .selects yX12_isMove.cls yX12_isMove yX12_isMove, .initialized yX12_isMove.cls, .code yX12_isMove cX12_isMove 5 (some .boolean)], w ∈ TG := in_by [1135, 1136, 53, 87, 1137] (by decide +kernel)
theorem dpX12_want : (decide (yX12_want.cls ≠ "java/lang/invoke/MethodHandle") && decide (yX12_want.cls ≠ "java/lang/invoke/VarHandle") && decide ((parseMethodDescriptor yX12_want.desc).map (fun d => d.parameters.length) = some 3)) = true := by decide +kernel
theorem lkX12_260 : ∀ w ∈ [Cond.methodLink RX12 260 yX12_want, .instanceMethod yX12_want, .selects yX12_want.cls yX12_want yX12_want, .initialized yX12_want.cls, .code yX12_want cX12_want 5 none], w ∈ TG := in_by [1129, 1130, 51, 87, 1131] (by decide +kernel)
theorem dpX12_nextOf : (decide (yX12_nextOf.cls ≠ "java/lang/invoke/MethodHandle") && decide (yX12_nextOf.cls ≠ "java/lang/invoke/VarHandle") && decide ((parseMethodDescriptor yX12_nextOf.desc).map (fun d => d.parameters.length) = some 3)) = true := by decide +kernel
theorem lkX12_264 : ∀ w ∈ [Cond.methodLink RX12 264 yX12_nextOf, .instanceMethod yX12_nextOf, .selects yX12_nextOf.cls yX12_nextOf yX12_nextOf, .initialized yX12_nextOf.cls, .code yX12_nextOf cX12_nextOf 9 (some .int)], w ∈ TG := in_by [1132, 1133, 52, 87, 1134] (by decide +kernel)
theorem dpX12_moved : (decide (yX12_moved.cls ≠ "java/lang/invoke/MethodHandle") && decide (yX12_moved.cls ≠ "java/lang/invoke/VarHandle") && decide ((parseMethodDescriptor yX12_moved.desc).map (fun d => d.parameters.length) = some 2)) = true := by decide +kernel
theorem lkX12_267 : ∀ w ∈ [Cond.methodLink RX12 267 yX12_moved, .instanceMethod yX12_moved, .selects yX12_moved.cls yX12_moved yX12_moved, .initialized yX12_moved.cls, .code yX12_moved cX12_moved 3 (some .int)], w ∈ TG := in_by [1138, 1139, 54, 87, 1140] (by decide +kernel)
theorem dpX12_power : (decide (yX12_power.cls ≠ "java/lang/invoke/MethodHandle") && decide (yX12_power.cls ≠ "java/lang/invoke/VarHandle") && decide ((parseMethodDescriptor yX12_power.desc).map (fun d => d.parameters.length) = some 1)) = true := by decide +kernel
theorem lkX12_270 : ∀ w ∈ [Cond.methodLink RX12 270 yX12_power, .static yX12_power, .initialized yX12_power.cls, .code yX12_power cX12_power 3 (some .int)], w ∈ TG := in_by [1145, 1146, 87, 1147] (by decide +kernel)
theorem dpX12_layRow : (decide (yX12_layRow.cls ≠ "java/lang/invoke/MethodHandle") && decide (yX12_layRow.cls ≠ "java/lang/invoke/VarHandle") && decide ((parseMethodDescriptor yX12_layRow.desc).map (fun d => d.parameters.length) = some 2)) = true := by decide +kernel
theorem lkX12_273 : ∀ w ∈ [Cond.methodLink RX12 273 yX12_layRow, .instanceMethod yX12_layRow, .selects yX12_layRow.cls yX12_layRow yX12_layRow, .initialized yX12_layRow.cls, .code yX12_layRow cX12_layRow 6 none], w ∈ TG := in_by [1148, 1149, 55, 87, 1150] (by decide +kernel)
theorem dpX12_insert : (decide (yX12_insert.cls ≠ "java/lang/invoke/MethodHandle") && decide (yX12_insert.cls ≠ "java/lang/invoke/VarHandle") && decide ((parseMethodDescriptor yX12_insert.desc).map (fun d => d.parameters.length) = some 2)) = true := by decide +kernel
theorem lkX12_276 : ∀ w ∈ [Cond.methodLink RX12 276 yX12_insert, .instanceMethod yX12_insert, .selects yX12_insert.cls yX12_insert yX12_insert, .initialized yX12_insert.cls, .code yX12_insert cX12_insert 4 none], w ∈ TG := in_by [1151, 1152, 56, 87, 1153] (by decide +kernel)
theorem dpX12_sortedOf : (decide (yX12_sortedOf.cls ≠ "java/lang/invoke/MethodHandle") && decide (yX12_sortedOf.cls ≠ "java/lang/invoke/VarHandle") && decide ((parseMethodDescriptor yX12_sortedOf.desc).map (fun d => d.parameters.length) = some 1)) = true := by decide +kernel
theorem lkX12_279 : ∀ w ∈ [Cond.methodLink RX12 279 yX12_sortedOf, .instanceMethod yX12_sortedOf, .selects yX12_sortedOf.cls yX12_sortedOf yX12_sortedOf, .initialized yX12_sortedOf.cls, .code yX12_sortedOf cX12_sortedOf 4 (some .int)], w ∈ TG := in_by [1167, 1168, 59, 87, 1169] (by decide +kernel)
theorem dpX12_isCount : (decide (yX12_isCount.cls ≠ "java/lang/invoke/MethodHandle") && decide (yX12_isCount.cls ≠ "java/lang/invoke/VarHandle") && decide ((parseMethodDescriptor yX12_isCount.desc).map (fun d => d.parameters.length) = some 1)) = true := by decide +kernel
theorem lkX12_282 : ∀ w ∈ [Cond.methodLink RX12 282 yX12_isCount, .static yX12_isCount, .initialized yX12_isCount.cls, .code yX12_isCount cX12_isCount 1 (some .boolean)], w ∈ TG := in_by [1158, 1159, 87, 1160] (by decide +kernel)
theorem dpX12_trainOf : (decide (yX12_trainOf.cls ≠ "java/lang/invoke/MethodHandle") && decide (yX12_trainOf.cls ≠ "java/lang/invoke/VarHandle") && decide ((parseMethodDescriptor yX12_trainOf.desc).map (fun d => d.parameters.length) = some 2)) = true := by decide +kernel
theorem lkX12_285 : ∀ w ∈ [Cond.methodLink RX12 285 yX12_trainOf, .instanceMethod yX12_trainOf, .selects yX12_trainOf.cls yX12_trainOf yX12_trainOf, .initialized yX12_trainOf.cls, .code yX12_trainOf cX12_trainOf 5 (some .int)], w ∈ TG := in_by [1161, 1162, 57, 87, 1163] (by decide +kernel)
theorem dpX12_sortFar : (decide (yX12_sortFar.cls ≠ "java/lang/invoke/MethodHandle") && decide (yX12_sortFar.cls ≠ "java/lang/invoke/VarHandle") && decide ((parseMethodDescriptor yX12_sortFar.desc).map (fun d => d.parameters.length) = some 2)) = true := by decide +kernel
theorem lkX12_288 : ∀ w ∈ [Cond.methodLink RX12 288 yX12_sortFar, .instanceMethod yX12_sortFar, .selects yX12_sortFar.cls yX12_sortFar yX12_sortFar, .initialized yX12_sortFar.cls, .code yX12_sortFar cX12_sortFar 3 (some .int)], w ∈ TG := in_by [1164, 1165, 58, 87, 1166] (by decide +kernel)
theorem dpX12_lowest : (decide (yX12_lowest.cls ≠ "java/lang/invoke/MethodHandle") && decide (yX12_lowest.cls ≠ "java/lang/invoke/VarHandle") && decide ((parseMethodDescriptor yX12_lowest.desc).map (fun d => d.parameters.length) = some 3)) = true := by decide +kernel
theorem lkX12_293 : ∀ w ∈ [Cond.methodLink RX12 293 yX12_lowest, .static yX12_lowest, .initialized yX12_lowest.cls, .code yX12_lowest cX12_lowest 11 (some .long)], w ∈ TG := in_by [1175, 1176, 87, 1177] (by decide +kernel)
theorem dpX12_findNeed : (decide (yX12_findNeed.cls ≠ "java/lang/invoke/MethodHandle") && decide (yX12_findNeed.cls ≠ "java/lang/invoke/VarHandle") && decide ((parseMethodDescriptor yX12_findNeed.desc).map (fun d => d.parameters.length) = some 2)) = true := by decide +kernel
theorem lkX12_297 : ∀ w ∈ [Cond.methodLink RX12 297 yX12_findNeed, .instanceMethod yX12_findNeed, .selects yX12_findNeed.cls yX12_findNeed yX12_findNeed, .initialized yX12_findNeed.cls, .code yX12_findNeed cX12_findNeed 7 (some .int)], w ∈ TG := in_by [1182, 1183, 60, 87, 1184] (by decide +kernel)
theorem dpX12_changeAbout : (decide (yX12_changeAbout.cls ≠ "java/lang/invoke/MethodHandle") && decide (yX12_changeAbout.cls ≠ "java/lang/invoke/VarHandle") && decide ((parseMethodDescriptor yX12_changeAbout.desc).map (fun d => d.parameters.length) = some 0)) = true := by decide +kernel
theorem lkX12_300 : ∀ w ∈ [Cond.methodLink RX12 300 yX12_changeAbout, .instanceMethod yX12_changeAbout, .selects yX12_changeAbout.cls yX12_changeAbout yX12_changeAbout, .initialized yX12_changeAbout.cls, .code yX12_changeAbout cX12_changeAbout 3 none], w ∈ TG := in_by [1193, 1194, 61, 87, 1195] (by decide +kernel)
theorem dpX12_restOf : (decide (yX12_restOf.cls ≠ "java/lang/invoke/MethodHandle") && decide (yX12_restOf.cls ≠ "java/lang/invoke/VarHandle") && decide ((parseMethodDescriptor yX12_restOf.desc).map (fun d => d.parameters.length) = some 0)) = true := by decide +kernel
theorem lkX12_312 : ∀ w ∈ [Cond.methodLink RX12 312 yX12_restOf, .instanceMethod yX12_restOf, .selects yX12_restOf.cls yX12_restOf yX12_restOf, .initialized yX12_restOf.cls, .code yX12_restOf cX12_restOf 1 (some .int)], w ∈ TG := in_by [1212, 1213, 62, 87, 1214] (by decide +kernel)
theorem dpX12_wagonAt : (decide (yX12_wagonAt.cls ≠ "java/lang/invoke/MethodHandle") && decide (yX12_wagonAt.cls ≠ "java/lang/invoke/VarHandle") && decide ((parseMethodDescriptor yX12_wagonAt.desc).map (fun d => d.parameters.length) = some 1)) = true := by decide +kernel
theorem lkX12_315 : ∀ w ∈ [Cond.methodLink RX12 315 yX12_wagonAt, .instanceMethod yX12_wagonAt, .selects yX12_wagonAt.cls yX12_wagonAt yX12_wagonAt, .initialized yX12_wagonAt.cls, .code yX12_wagonAt cX12_wagonAt 2 (some .int)], w ∈ TG := in_by [1238, 1239, 65, 87, 1240] (by decide +kernel)
theorem dpX12_hasRoom : (decide (yX12_hasRoom.cls ≠ "java/lang/invoke/MethodHandle") && decide (yX12_hasRoom.cls ≠ "java/lang/invoke/VarHandle") && decide ((parseMethodDescriptor yX12_hasRoom.desc).map (fun d => d.parameters.length) = some 1)) = true := by decide +kernel
theorem lkX12_318 : ∀ w ∈ [Cond.methodLink RX12 318 yX12_hasRoom, .instanceMethod yX12_hasRoom, .selects yX12_hasRoom.cls yX12_hasRoom yX12_hasRoom, .initialized yX12_hasRoom.cls, .code yX12_hasRoom cX12_hasRoom 2 (some .boolean)], w ∈ TG := in_by [1247, 1248, 68, 87, 1249] (by decide +kernel)
theorem dpX12_areHigher : (decide (yX12_areHigher.cls ≠ "java/lang/invoke/MethodHandle") && decide (yX12_areHigher.cls ≠ "java/lang/invoke/VarHandle") && decide ((parseMethodDescriptor yX12_areHigher.desc).map (fun d => d.parameters.length) = some 2)) = true := by decide +kernel
theorem lkX12_321 : ∀ w ∈ [Cond.methodLink RX12 321 yX12_areHigher, .instanceMethod yX12_areHigher, .selects yX12_areHigher.cls yX12_areHigher yX12_areHigher, .initialized yX12_areHigher.cls, .code yX12_areHigher cX12_areHigher 5 (some .boolean)], w ∈ TG := in_by [1250, 1251, 69, 87, 1252] (by decide +kernel)
theorem dpX12_chosen : (decide (yX12_chosen.cls ≠ "java/lang/invoke/MethodHandle") && decide (yX12_chosen.cls ≠ "java/lang/invoke/VarHandle") && decide ((parseMethodDescriptor yX12_chosen.desc).map (fun d => d.parameters.length) = some 2)) = true := by decide +kernel
theorem lkX12_324 : ∀ w ∈ [Cond.methodLink RX12 324 yX12_chosen, .instanceMethod yX12_chosen, .selects yX12_chosen.cls yX12_chosen yX12_chosen, .initialized yX12_chosen.cls, .code yX12_chosen cX12_chosen 7 (some .int)], w ∈ TG := in_by [1244, 1245, 67, 87, 1246] (by decide +kernel)
theorem dpX12_letOut : (decide (yX12_letOut.cls ≠ "java/lang/invoke/MethodHandle") && decide (yX12_letOut.cls ≠ "java/lang/invoke/VarHandle") && decide ((parseMethodDescriptor yX12_letOut.desc).map (fun d => d.parameters.length) = some 1)) = true := by decide +kernel
theorem lkX12_327 : ∀ w ∈ [Cond.methodLink RX12 327 yX12_letOut, .instanceMethod yX12_letOut, .selects yX12_letOut.cls yX12_letOut yX12_letOut, .initialized yX12_letOut.cls, .code yX12_letOut cX12_letOut 6 (some .boolean)], w ∈ TG := in_by [1235, 1236, 64, 87, 1237] (by decide +kernel)
theorem dpX12_goIn : (decide (yX12_goIn.cls ≠ "java/lang/invoke/MethodHandle") && decide (yX12_goIn.cls ≠ "java/lang/invoke/VarHandle") && decide ((parseMethodDescriptor yX12_goIn.desc).map (fun d => d.parameters.length) = some 2)) = true := by decide +kernel
theorem lkX12_330 : ∀ w ∈ [Cond.methodLink RX12 330 yX12_goIn, .instanceMethod yX12_goIn, .selects yX12_goIn.cls yX12_goIn yX12_goIn, .initialized yX12_goIn.cls, .code yX12_goIn cX12_goIn 4 (some .boolean)], w ∈ TG := in_by [1241, 1242, 66, 87, 1243] (by decide +kernel)
theorem dpX12_goOn : (decide (yX12_goOn.cls ≠ "java/lang/invoke/MethodHandle") && decide (yX12_goOn.cls ≠ "java/lang/invoke/VarHandle") && decide ((parseMethodDescriptor yX12_goOn.desc).map (fun d => d.parameters.length) = some 1)) = true := by decide +kernel
theorem lkX12_333 : ∀ w ∈ [Cond.methodLink RX12 333 yX12_goOn, .instanceMethod yX12_goOn, .selects yX12_goOn.cls yX12_goOn yX12_goOn, .initialized yX12_goOn.cls, .code yX12_goOn cX12_goOn 6 (some .boolean)], w ∈ TG := in_by [1253, 1254, 70, 87, 1255] (by decide +kernel)
theorem dpX12_thumbed : (decide (yX12_thumbed.cls ≠ "java/lang/invoke/MethodHandle") && decide (yX12_thumbed.cls ≠ "java/lang/invoke/VarHandle") && decide ((parseMethodDescriptor yX12_thumbed.desc).map (fun d => d.parameters.length) = some 3)) = true := by decide +kernel
theorem lkX12_338 : ∀ w ∈ [Cond.methodLink RX12 338 yX12_thumbed, .instanceMethod yX12_thumbed, .selects yX12_thumbed.cls yX12_thumbed yX12_thumbed, .initialized yX12_thumbed.cls, .code yX12_thumbed cX12_thumbed 5 (some .int)], w ∈ TG := in_by [1232, 1233, 63, 87, 1234] (by decide +kernel)
theorem dpX12_pass : (decide (yX12_pass.cls ≠ "java/lang/invoke/MethodHandle") && decide (yX12_pass.cls ≠ "java/lang/invoke/VarHandle") && decide ((parseMethodDescriptor yX12_pass.desc).map (fun d => d.parameters.length) = some 1)) = true := by decide +kernel
theorem lkX12_351 : ∀ w ∈ [Cond.methodLink RX12 351 yX12_pass, .instanceMethod yX12_pass, .selects yX12_pass.cls yX12_pass yX12_pass, .initialized yX12_pass.cls, .code yX12_pass cX12_pass 3 (some .int)], w ∈ TG := in_by [1273, 1274, 72, 87, 1275] (by decide +kernel)
theorem dpX12_passAll : (decide (yX12_passAll.cls ≠ "java/lang/invoke/MethodHandle") && decide (yX12_passAll.cls ≠ "java/lang/invoke/VarHandle") && decide ((parseMethodDescriptor yX12_passAll.desc).map (fun d => d.parameters.length) = some 0)) = true := by decide +kernel
theorem lkX12_354 : ∀ w ∈ [Cond.methodLink RX12 354 yX12_passAll, .instanceMethod yX12_passAll, .selects yX12_passAll.cls yX12_passAll yX12_passAll, .initialized yX12_passAll.cls, .code yX12_passAll cX12_passAll 2 none], w ∈ TG := in_by [1270, 1271, 71, 87, 1272] (by decide +kernel)
theorem nkX2_23 : decide (Cond.methodLinkNest RX2 23 yX11_copyInts "SidingOrders" ∈ NW) = true := by decide +kernel
theorem dpX11_copyInts : (decide (yX11_copyInts.cls ≠ "java/lang/invoke/MethodHandle") && decide (yX11_copyInts.cls ≠ "java/lang/invoke/VarHandle") && decide ((parseMethodDescriptor yX11_copyInts.desc).map (fun d => d.parameters.length) = some 2)) = true := by decide +kernel
theorem lkX2_23 : ∀ w ∈ [Cond.static yX11_copyInts, .initialized yX11_copyInts.cls, .code yX11_copyInts cX11_copyInts 2 none], w ∈ TG := in_by [381, 74, 382] (by decide +kernel)
theorem nkX10_47 : decide (Cond.methodLinkNest RX10 47 yX11_copyInts "SidingOrders" ∈ NW) = true := by decide +kernel
theorem lkX10_47 : ∀ w ∈ [Cond.static yX11_copyInts, .initialized yX11_copyInts.cls, .code yX11_copyInts cX11_copyInts 2 none], w ∈ TG := in_by [381, 74, 382] (by decide +kernel)
theorem dpX2_copyFrom : (decide (yX2_copyFrom.cls ≠ "java/lang/invoke/MethodHandle") && decide (yX2_copyFrom.cls ≠ "java/lang/invoke/VarHandle") && decide ((parseMethodDescriptor yX2_copyFrom.desc).map (fun d => d.parameters.length) = some 1)) = true := by decide +kernel
theorem lkX10_51 : ∀ w ∈ [Cond.methodLink RX10 51 yX2_copyFrom, .instanceMethod yX2_copyFrom, .selects yX2_copyFrom.cls yX2_copyFrom yX2_copyFrom, .initialized yX2_copyFrom.cls, .code yX2_copyFrom cX2_copyFrom 3 none], w ∈ TG := in_by [389, 390, 391, 77, 392] (by decide +kernel)
theorem dpX10_setLength : (decide (yX10_setLength.cls ≠ "java/lang/invoke/MethodHandle") && decide (yX10_setLength.cls ≠ "java/lang/invoke/VarHandle") && decide ((parseMethodDescriptor yX10_setLength.desc).map (fun d => d.parameters.length) = some 2)) = true := by decide +kernel
theorem lkX1_50 : ∀ w ∈ [Cond.methodLink RX1 50 yX10_setLength, .instanceMethod yX10_setLength, .selects yX10_setLength.cls yX10_setLength yX10_setLength, .initialized yX10_setLength.cls, .code yX10_setLength cX10_setLength 3 none], w ∈ TG := in_by [702, 703, 704, 76, 705] (by decide +kernel)
theorem dpX10_lengthAt : (decide (yX10_lengthAt.cls ≠ "java/lang/invoke/MethodHandle") && decide (yX10_lengthAt.cls ≠ "java/lang/invoke/VarHandle") && decide ((parseMethodDescriptor yX10_lengthAt.desc).map (fun d => d.parameters.length) = some 1)) = true := by decide +kernel
theorem lkX1_26 : ∀ w ∈ [Cond.methodLink RX1 26 yX10_lengthAt, .instanceMethod yX10_lengthAt, .selects yX10_lengthAt.cls yX10_lengthAt yX10_lengthAt, .initialized yX10_lengthAt.cls, .code yX10_lengthAt cX10_lengthAt 2 (some .int)], w ∈ TG := in_by [698, 457, 458, 76, 459] (by decide +kernel)
theorem dpX4_placeOfList : (decide (yX4_placeOfList.cls ≠ "java/lang/invoke/MethodHandle") && decide (yX4_placeOfList.cls ≠ "java/lang/invoke/VarHandle") && decide ((parseMethodDescriptor yX4_placeOfList.desc).map (fun d => d.parameters.length) = some 2)) = true := by decide +kernel
theorem lkX4_55 : ∀ w ∈ [Cond.methodLink RX4 55 yX4_placeOfList, .static yX4_placeOfList, .initialized yX4_placeOfList.cls, .code yX4_placeOfList cX4_placeOfList 2 (some .int)], w ∈ TG := in_by [517, 518, 79, 519] (by decide +kernel)
theorem dpX4_rowAt : (decide (yX4_rowAt.cls ≠ "java/lang/invoke/MethodHandle") && decide (yX4_rowAt.cls ≠ "java/lang/invoke/VarHandle") && decide ((parseMethodDescriptor yX4_rowAt.desc).map (fun d => d.parameters.length) = some 1)) = true := by decide +kernel
theorem lkX4_31 : ∀ w ∈ [Cond.methodLink RX4 31 yX4_rowAt, .instanceMethod yX4_rowAt, .selects yX4_rowAt.cls yX4_rowAt yX4_rowAt, .initialized yX4_rowAt.cls, .code yX4_rowAt cX4_rowAt 2 (some .int)], w ∈ TG := in_by [583, 529, 530, 79, 531] (by decide +kernel)
theorem dpJ6_bitCount_0f7a4 : (decide (yJ6_bitCount_0f7a4.cls ≠ "java/lang/invoke/MethodHandle") && decide (yJ6_bitCount_0f7a4.cls ≠ "java/lang/invoke/VarHandle") && decide ((parseMethodDescriptor yJ6_bitCount_0f7a4.desc).map (fun d => d.parameters.length) = some 1)) = true := by decide +kernel
theorem lkX4_58 : ∀ w ∈ [Cond.methodLink RX4 58 yJ6_bitCount_0f7a4, .static yJ6_bitCount_0f7a4, .initialized yJ6_bitCount_0f7a4.cls, .code yJ6_bitCount_0f7a4 cJ6_bitCount_0f7a4 1 (some .int)], w ∈ TG := in_by [584, 543, 89, 544] (by decide +kernel)
theorem dpX4_countAt : (decide (yX4_countAt.cls ≠ "java/lang/invoke/MethodHandle") && decide (yX4_countAt.cls ≠ "java/lang/invoke/VarHandle") && decide ((parseMethodDescriptor yX4_countAt.desc).map (fun d => d.parameters.length) = some 1)) = true := by decide +kernel
theorem lkX7_69 : ∀ w ∈ [Cond.methodLink RX7 69 yX4_countAt, .instanceMethod yX4_countAt, .selects yX4_countAt.cls yX4_countAt yX4_countAt, .initialized yX4_countAt.cls, .code yX4_countAt cX4_countAt 2 (some .int)], w ∈ TG := in_by [642, 521, 522, 79, 523] (by decide +kernel)
theorem lkX7_76 : ∀ w ∈ [Cond.methodLink RX7 76 yX4_rowAt, .instanceMethod yX4_rowAt, .selects yX4_rowAt.cls yX4_rowAt yX4_rowAt, .initialized yX4_rowAt.cls, .code yX4_rowAt cX4_rowAt 2 (some .int)], w ∈ TG := in_by [643, 529, 530, 79, 531] (by decide +kernel)
theorem lkX4_22 : ∀ w ∈ [Cond.methodLink RX4 22 yX4_countAt, .instanceMethod yX4_countAt, .selects yX4_countAt.cls yX4_countAt yX4_countAt, .initialized yX4_countAt.cls, .code yX4_countAt cX4_countAt 2 (some .int)], w ∈ TG := in_by [520, 521, 522, 79, 523] (by decide +kernel)
theorem lkX4_26 : ∀ w ∈ [Cond.methodLink RX4 26 yX10_lengthAt, .instanceMethod yX10_lengthAt, .selects yX10_lengthAt.cls yX10_lengthAt yX10_lengthAt, .initialized yX10_lengthAt.cls, .code yX10_lengthAt cX10_lengthAt 2 (some .int)], w ∈ TG := in_by [562, 457, 458, 76, 459] (by decide +kernel)
theorem dpX4_isFarTake : (decide (yX4_isFarTake.cls ≠ "java/lang/invoke/MethodHandle") && decide (yX4_isFarTake.cls ≠ "java/lang/invoke/VarHandle") && decide ((parseMethodDescriptor yX4_isFarTake.desc).map (fun d => d.parameters.length) = some 1)) = true := by decide +kernel
theorem lkX4_34 : ∀ w ∈ [Cond.methodLink RX4 34 yX4_isFarTake, .static yX4_isFarTake, .initialized yX4_isFarTake.cls, .code yX4_isFarTake cX4_isFarTake 1 (some .boolean)], w ∈ TG := in_by [567, 568, 79, 569] (by decide +kernel)
theorem dpX6_wagonAt : (decide (yX6_wagonAt.cls ≠ "java/lang/invoke/MethodHandle") && decide (yX6_wagonAt.cls ≠ "java/lang/invoke/VarHandle") && decide ((parseMethodDescriptor yX6_wagonAt.desc).map (fun d => d.parameters.length) = some 2)) = true := by decide +kernel
theorem lkX4_38 : ∀ w ∈ [Cond.methodLink RX4 38 yX6_wagonAt, .static yX6_wagonAt, .initialized yX6_wagonAt.cls, .code yX6_wagonAt cX6_wagonAt 2 (some .int)], w ∈ TG := in_by [653, 600, 88, 601] (by decide +kernel)
theorem dpX4_allows : (decide (yX4_allows.cls ≠ "java/lang/invoke/MethodHandle") && decide (yX4_allows.cls ≠ "java/lang/invoke/VarHandle") && decide ((parseMethodDescriptor yX4_allows.desc).map (fun d => d.parameters.length) = some 2)) = true := by decide +kernel
theorem lkX7_62 : ∀ w ∈ [Cond.methodLink RX7 62 yX4_allows, .instanceMethod yX4_allows, .selects yX4_allows.cls yX4_allows yX4_allows, .initialized yX4_allows.cls, .code yX4_allows cX4_allows 4 (some .boolean)], w ∈ TG := in_by [648, 559, 560, 79, 561] (by decide +kernel)
theorem dpX4_wagonOf : (decide (yX4_wagonOf.cls ≠ "java/lang/invoke/MethodHandle") && decide (yX4_wagonOf.cls ≠ "java/lang/invoke/VarHandle") && decide ((parseMethodDescriptor yX4_wagonOf.desc).map (fun d => d.parameters.length) = some 1)) = true := by decide +kernel
theorem lkX7_66 : ∀ w ∈ [Cond.methodLink RX7 66 yX4_wagonOf, .instanceMethod yX4_wagonOf, .selects yX4_wagonOf.cls yX4_wagonOf yX4_wagonOf, .initialized yX4_wagonOf.cls, .code yX4_wagonOf cX4_wagonOf 3 (some .int)], w ∈ TG := in_by [649, 650, 651, 79, 652] (by decide +kernel)
theorem lkX7_72 : ∀ w ∈ [Cond.methodLink RX7 72 yX6_wagonAt, .static yX6_wagonAt, .initialized yX6_wagonAt.cls, .code yX6_wagonAt cX6_wagonAt 2 (some .int)], w ∈ TG := in_by [654, 600, 88, 601] (by decide +kernel)
theorem dpX4_take : (decide (yX4_take.cls ≠ "java/lang/invoke/MethodHandle") && decide (yX4_take.cls ≠ "java/lang/invoke/VarHandle") && decide ((parseMethodDescriptor yX4_take.desc).map (fun d => d.parameters.length) = some 2)) = true := by decide +kernel
theorem lkX4_44 : ∀ w ∈ [Cond.methodLink RX4 44 yX4_take, .instanceMethod yX4_take, .selects yX4_take.cls yX4_take yX4_take, .initialized yX4_take.cls, .code yX4_take cX4_take 5 (some .int)], w ∈ TG := in_by [570, 571, 12, 79, 572] (by decide +kernel)
theorem dpX4_isFarPut : (decide (yX4_isFarPut.cls ≠ "java/lang/invoke/MethodHandle") && decide (yX4_isFarPut.cls ≠ "java/lang/invoke/VarHandle") && decide ((parseMethodDescriptor yX4_isFarPut.desc).map (fun d => d.parameters.length) = some 1)) = true := by decide +kernel
theorem lkX4_48 : ∀ w ∈ [Cond.methodLink RX4 48 yX4_isFarPut, .static yX4_isFarPut, .initialized yX4_isFarPut.cls, .code yX4_isFarPut cX4_isFarPut 1 (some .boolean)], w ∈ TG := in_by [573, 574, 79, 575] (by decide +kernel)
theorem dpX4_put : (decide (yX4_put.cls ≠ "java/lang/invoke/MethodHandle") && decide (yX4_put.cls ≠ "java/lang/invoke/VarHandle") && decide ((parseMethodDescriptor yX4_put.desc).map (fun d => d.parameters.length) = some 3)) = true := by decide +kernel
theorem lkX4_51 : ∀ w ∈ [Cond.methodLink RX4 51 yX4_put, .instanceMethod yX4_put, .selects yX4_put.cls yX4_put yX4_put, .initialized yX4_put.cls, .code yX4_put cX4_put 4 none], w ∈ TG := in_by [576, 577, 13, 79, 578] (by decide +kernel)
theorem dpX4_index : (decide (yX4_index.cls ≠ "java/lang/invoke/MethodHandle") && decide (yX4_index.cls ≠ "java/lang/invoke/VarHandle") && decide ((parseMethodDescriptor yX4_index.desc).map (fun d => d.parameters.length) = some 1)) = true := by decide +kernel
theorem lkX7_97 : ∀ w ∈ [Cond.methodLink RX7 97 yX4_index, .instanceMethod yX4_index, .selects yX4_index.cls yX4_index yX4_index, .initialized yX4_index.cls, .code yX4_index cX4_index 9 (some .int)], w ∈ TG := in_by [638, 580, 581, 79, 582] (by decide +kernel)
theorem dpX7_isAstray : (decide (yX7_isAstray.cls ≠ "java/lang/invoke/MethodHandle") && decide (yX7_isAstray.cls ≠ "java/lang/invoke/VarHandle") && decide ((parseMethodDescriptor yX7_isAstray.desc).map (fun d => d.parameters.length) = some 0)) = true := by decide +kernel
theorem lkX7_100 : ∀ w ∈ [Cond.methodLink RX7 100 yX7_isAstray, .instanceMethod yX7_isAstray, .selects yX7_isAstray.cls yX7_isAstray yX7_isAstray, .initialized yX7_isAstray.cls, .code yX7_isAstray cX7_isAstray 2 (some .boolean)], w ∈ TG := in_by [639, 640, 16, 82, 641] (by decide +kernel)
theorem dpX10_moveAt : (decide (yX10_moveAt.cls ≠ "java/lang/invoke/MethodHandle") && decide (yX10_moveAt.cls ≠ "java/lang/invoke/VarHandle") && decide ((parseMethodDescriptor yX10_moveAt.desc).map (fun d => d.parameters.length) = some 1)) = true := by decide +kernel
theorem lkX7_84 : ∀ w ∈ [Cond.methodLink RX7 84 yX10_moveAt, .instanceMethod yX10_moveAt, .selects yX10_moveAt.cls yX10_moveAt yX10_moveAt, .initialized yX10_moveAt.cls, .code yX10_moveAt cX10_moveAt 2 (some .int)], w ∈ TG := in_by [644, 555, 556, 76, 557] (by decide +kernel)
theorem dpX7_fits : (decide (yX7_fits.cls ≠ "java/lang/invoke/MethodHandle") && decide (yX7_fits.cls ≠ "java/lang/invoke/VarHandle") && decide ((parseMethodDescriptor yX7_fits.desc).map (fun d => d.parameters.length) = some 1)) = true := by decide +kernel
theorem lkX7_87 : ∀ w ∈ [Cond.methodLink RX7 87 yX7_fits, .instanceMethod yX7_fits, .selects yX7_fits.cls yX7_fits yX7_fits, .initialized yX7_fits.cls, .code yX7_fits cX7_fits 2 (some .boolean)], w ∈ TG := in_by [645, 646, 17, 82, 647] (by decide +kernel)
theorem dpX4_shift : (decide (yX4_shift.cls ≠ "java/lang/invoke/MethodHandle") && decide (yX4_shift.cls ≠ "java/lang/invoke/VarHandle") && decide ((parseMethodDescriptor yX4_shift.desc).map (fun d => d.parameters.length) = some 1)) = true := by decide +kernel
theorem lkX7_58 : ∀ w ∈ [Cond.methodLink RX7 58 yX4_shift, .instanceMethod yX4_shift, .selects yX4_shift.cls yX4_shift yX4_shift, .initialized yX4_shift.cls, .code yX4_shift cX4_shift 2 none], w ∈ TG := in_by [655, 564, 565, 79, 566] (by decide +kernel)
theorem dpX7_remaining : (decide (yX7_remaining.cls ≠ "java/lang/invoke/MethodHandle") && decide (yX7_remaining.cls ≠ "java/lang/invoke/VarHandle") && decide ((parseMethodDescriptor yX7_remaining.desc).map (fun d => d.parameters.length) = some 2)) = true := by decide +kernel
theorem lkX7_46 : ∀ w ∈ [Cond.methodLink RX7 46 yX7_remaining, .static yX7_remaining, .initialized yX7_remaining.cls, .code yX7_remaining cX7_remaining 8 (some .int)], w ∈ TG := in_by [635, 636, 82, 637] (by decide +kernel)
theorem dpX4_unshift : (decide (yX4_unshift.cls ≠ "java/lang/invoke/MethodHandle") && decide (yX4_unshift.cls ≠ "java/lang/invoke/VarHandle") && decide ((parseMethodDescriptor yX4_unshift.desc).map (fun d => d.parameters.length) = some 1)) = true := by decide +kernel
theorem lkX7_91 : ∀ w ∈ [Cond.methodLink RX7 91 yX4_unshift, .instanceMethod yX4_unshift, .selects yX4_unshift.cls yX4_unshift yX4_unshift, .initialized yX4_unshift.cls, .code yX4_unshift cX4_unshift 2 none], w ∈ TG := in_by [656, 589, 590, 79, 591] (by decide +kernel)
theorem dpX6_upTo : (decide (yX6_upTo.cls ≠ "java/lang/invoke/MethodHandle") && decide (yX6_upTo.cls ≠ "java/lang/invoke/VarHandle") && decide ((parseMethodDescriptor yX6_upTo.desc).map (fun d => d.parameters.length) = some 1)) = true := by decide +kernel
theorem lkX7_36 : ∀ w ∈ [Cond.methodLink RX7 36 yX6_upTo, .static yX6_upTo, .initialized yX6_upTo.cls, .code yX6_upTo cX6_upTo 3 (some .int)], w ∈ TG := in_by [630, 508, 88, 509] (by decide +kernel)
theorem dpX4_begin : (decide (yX4_begin.cls ≠ "java/lang/invoke/MethodHandle") && decide (yX4_begin.cls ≠ "java/lang/invoke/VarHandle") && decide ((parseMethodDescriptor yX4_begin.desc).map (fun d => d.parameters.length) = some 2)) = true := by decide +kernel
theorem lkX7_42 : ∀ w ∈ [Cond.methodLink RX7 42 yX4_begin, .instanceMethod yX4_begin, .selects yX4_begin.cls yX4_begin yX4_begin, .initialized yX4_begin.cls, .code yX4_begin cX4_begin 4 none], w ∈ TG := in_by [631, 511, 512, 79, 513] (by decide +kernel)
theorem dpX10_copyFrom : (decide (yX10_copyFrom.cls ≠ "java/lang/invoke/MethodHandle") && decide (yX10_copyFrom.cls ≠ "java/lang/invoke/VarHandle") && decide ((parseMethodDescriptor yX10_copyFrom.desc).map (fun d => d.parameters.length) = some 1)) = true := by decide +kernel
theorem lkX1_18 : ∀ w ∈ [Cond.methodLink RX1 18 yX10_copyFrom, .instanceMethod yX10_copyFrom, .selects yX10_copyFrom.cls yX10_copyFrom yX10_copyFrom, .initialized yX10_copyFrom.cls, .code yX10_copyFrom cX10_copyFrom 2 none], w ∈ TG := in_by [697, 378, 379, 76, 380] (by decide +kernel)
theorem dpX1_setLengths : (decide (yX1_setLengths.cls ≠ "java/lang/invoke/MethodHandle") && decide (yX1_setLengths.cls ≠ "java/lang/invoke/VarHandle") && decide ((parseMethodDescriptor yX1_setLengths.desc).map (fun d => d.parameters.length) = some 2)) = true := by decide +kernel
theorem lkX1_30 : ∀ w ∈ [Cond.methodLink RX1 30 yX1_setLengths, .instanceMethod yX1_setLengths, .selects yX1_setLengths.cls yX1_setLengths yX1_setLengths, .initialized yX1_setLengths.cls, .code yX1_setLengths cX1_setLengths 8 (some .int)], w ∈ TG := in_by [699, 700, 19, 83, 701] (by decide +kernel)
theorem dpX7_forget : (decide (yX7_forget.cls ≠ "java/lang/invoke/MethodHandle") && decide (yX7_forget.cls ≠ "java/lang/invoke/VarHandle") && decide ((parseMethodDescriptor yX7_forget.desc).map (fun d => d.parameters.length) = some 0)) = true := by decide +kernel
theorem lkX1_34 : ∀ w ∈ [Cond.methodLink RX1 34 yX7_forget, .instanceMethod yX7_forget, .selects yX7_forget.cls yX7_forget yX7_forget, .initialized yX7_forget.cls, .code yX7_forget cX7_forget 1 none], w ∈ TG := in_by [706, 448, 449, 82, 450] (by decide +kernel)
theorem dpX7_aim : (decide (yX7_aim.cls ≠ "java/lang/invoke/MethodHandle") && decide (yX7_aim.cls ≠ "java/lang/invoke/VarHandle") && decide ((parseMethodDescriptor yX7_aim.desc).map (fun d => d.parameters.length) = some 3)) = true := by decide +kernel
theorem lkX1_39 : ∀ w ∈ [Cond.methodLink RX1 39 yX7_aim, .instanceMethod yX7_aim, .selects yX7_aim.cls yX7_aim yX7_aim, .initialized yX7_aim.cls, .code yX7_aim cX7_aim 4 none], w ∈ TG := in_by [707, 623, 624, 82, 625] (by decide +kernel)
theorem dpX7_comesOut : (decide (yX7_comesOut.cls ≠ "java/lang/invoke/MethodHandle") && decide (yX7_comesOut.cls ≠ "java/lang/invoke/VarHandle") && decide ((parseMethodDescriptor yX7_comesOut.desc).map (fun d => d.parameters.length) = some 0)) = true := by decide +kernel
theorem lkX1_43 : ∀ w ∈ [Cond.methodLink RX1 43 yX7_comesOut, .instanceMethod yX7_comesOut, .selects yX7_comesOut.cls yX7_comesOut yX7_comesOut, .initialized yX7_comesOut.cls, .code yX7_comesOut cX7_comesOut 1 (some .boolean)], w ∈ TG := in_by [708, 709, 710, 82, 711] (by decide +kernel)
theorem dpX6_setUpTo : (decide (yX6_setUpTo.cls ≠ "java/lang/invoke/MethodHandle") && decide (yX6_setUpTo.cls ≠ "java/lang/invoke/VarHandle") && decide ((parseMethodDescriptor yX6_setUpTo.desc).map (fun d => d.parameters.length) = some 1)) = true := by decide +kernel
theorem lkX6_9 : ∀ w ∈ [Cond.methodLink RX6 9 yX6_setUpTo, .static yX6_setUpTo, .initialized yX6_setUpTo.cls, .code yX6_setUpTo cX6_setUpTo 1 (some .int)], w ∈ TG := in_by [479, 480, 88, 481] (by decide +kernel)
theorem lkX6_22 : ∀ w ∈ [Cond.methodLink RX6 22 yJ6_bitCount_0f7a4, .static yJ6_bitCount_0f7a4, .initialized yJ6_bitCount_0f7a4.cls, .code yJ6_bitCount_0f7a4 cJ6_bitCount_0f7a4 1 (some .int)], w ∈ TG := in_by [542, 543, 89, 544] (by decide +kernel)
theorem dpX6_rankOf : (decide (yX6_rankOf.cls ≠ "java/lang/invoke/MethodHandle") && decide (yX6_rankOf.cls ≠ "java/lang/invoke/VarHandle") && decide ((parseMethodDescriptor yX6_rankOf.desc).map (fun d => d.parameters.length) = some 2)) = true := by decide +kernel
theorem lkX2_27 : ∀ w ∈ [Cond.methodLink RX2 27 yX6_rankOf, .static yX6_rankOf, .initialized yX6_rankOf.cls, .code yX6_rankOf cX6_rankOf 7 (some .int)], w ∈ TG := in_by [539, 540, 88, 541] (by decide +kernel)
theorem dpX6_factorial : (decide (yX6_factorial.cls ≠ "java/lang/invoke/MethodHandle") && decide (yX6_factorial.cls ≠ "java/lang/invoke/VarHandle") && decide ((parseMethodDescriptor yX6_factorial.desc).map (fun d => d.parameters.length) = some 1)) = true := by decide +kernel
theorem lkX2_33 : ∀ w ∈ [Cond.methodLink RX2 33 yX6_factorial, .static yX6_factorial, .initialized yX6_factorial.cls, .code yX6_factorial cX6_factorial 3 (some .int)], w ∈ TG := in_by [548, 549, 88, 550] (by decide +kernel)
theorem dpX2_cellOf : (decide (yX2_cellOf.cls ≠ "java/lang/invoke/MethodHandle") && decide (yX2_cellOf.cls ≠ "java/lang/invoke/VarHandle") && decide ((parseMethodDescriptor yX2_cellOf.desc).map (fun d => d.parameters.length) = some 2)) = true := by decide +kernel
theorem lkX2_37 : ∀ w ∈ [Cond.methodLink RX2 37 yX2_cellOf, .static yX2_cellOf, .initialized yX2_cellOf.cls, .code yX2_cellOf cX2_cellOf 4 (some .int)], w ∈ TG := in_by [536, 537, 77, 538] (by decide +kernel)
theorem dpX3_signAt : (decide (yX3_signAt.cls ≠ "java/lang/invoke/MethodHandle") && decide (yX3_signAt.cls ≠ "java/lang/invoke/VarHandle") && decide ((parseMethodDescriptor yX3_signAt.desc).map (fun d => d.parameters.length) = some 1)) = true := by decide +kernel
theorem lkX3_19 : ∀ w ∈ [Cond.methodLink RX3 19 yX3_signAt, .instanceMethod yX3_signAt, .selects yX3_signAt.cls yX3_signAt yX3_signAt, .initialized yX3_signAt.cls, .code yX3_signAt cX3_signAt 2 (some .int)], w ∈ TG := in_by [328, 329, 0, 75, 330] (by decide +kernel)
theorem dpX3_isLetter : (decide (yX3_isLetter.cls ≠ "java/lang/invoke/MethodHandle") && decide (yX3_isLetter.cls ≠ "java/lang/invoke/VarHandle") && decide ((parseMethodDescriptor yX3_isLetter.desc).map (fun d => d.parameters.length) = some 1)) = true := by decide +kernel
theorem lkX3_23 : ∀ w ∈ [Cond.methodLink RX3 23 yX3_isLetter, .static yX3_isLetter, .initialized yX3_isLetter.cls, .code yX3_isLetter cX3_isLetter 1 (some .boolean)], w ∈ TG := in_by [335, 336, 75, 337] (by decide +kernel)
theorem dpX2_forget : (decide (yX2_forget.cls ≠ "java/lang/invoke/MethodHandle") && decide (yX2_forget.cls ≠ "java/lang/invoke/VarHandle") && decide ((parseMethodDescriptor yX2_forget.desc).map (fun d => d.parameters.length) = some 0)) = true := by decide +kernel
theorem lkX10_44 : ∀ w ∈ [Cond.methodLink RX10 44 yX2_forget, .instanceMethod yX2_forget, .selects yX2_forget.cls yX2_forget yX2_forget, .initialized yX2_forget.cls, .code yX2_forget cX2_forget 2 none], w ∈ TG := in_by [324, 325, 326, 77, 327] (by decide +kernel)
theorem dpX10_letterAt : (decide (yX10_letterAt.cls ≠ "java/lang/invoke/MethodHandle") && decide (yX10_letterAt.cls ≠ "java/lang/invoke/VarHandle") && decide ((parseMethodDescriptor yX10_letterAt.desc).map (fun d => d.parameters.length) = some 1)) = true := by decide +kernel
theorem lkX10_62 : ∀ w ∈ [Cond.methodLink RX10 62 yX10_letterAt, .instanceMethod yX10_letterAt, .selects yX10_letterAt.cls yX10_letterAt yX10_letterAt, .initialized yX10_letterAt.cls, .code yX10_letterAt cX10_letterAt 2 (some .int)], w ∈ TG := in_by [349, 350, 351, 76, 352] (by decide +kernel)
theorem dpX10_stageAt : (decide (yX10_stageAt.cls ≠ "java/lang/invoke/MethodHandle") && decide (yX10_stageAt.cls ≠ "java/lang/invoke/VarHandle") && decide ((parseMethodDescriptor yX10_stageAt.desc).map (fun d => d.parameters.length) = some 1)) = true := by decide +kernel
theorem lkX10_55 : ∀ w ∈ [Cond.methodLink RX10 55 yX10_stageAt, .instanceMethod yX10_stageAt, .selects yX10_stageAt.cls yX10_stageAt yX10_stageAt, .initialized yX10_stageAt.cls, .code yX10_stageAt cX10_stageAt 2 (some .int)], w ∈ TG := in_by [363, 364, 365, 76, 366] (by decide +kernel)
theorem dpX10_stageOf : (decide (yX10_stageOf.cls ≠ "java/lang/invoke/MethodHandle") && decide (yX10_stageOf.cls ≠ "java/lang/invoke/VarHandle") && decide ((parseMethodDescriptor yX10_stageOf.desc).map (fun d => d.parameters.length) = some 1)) = true := by decide +kernel
theorem lkX10_59 : ∀ w ∈ [Cond.methodLink RX10 59 yX10_stageOf, .instanceMethod yX10_stageOf, .selects yX10_stageOf.cls yX10_stageOf yX10_stageOf, .initialized yX10_stageOf.cls, .code yX10_stageOf cX10_stageOf 2 (some .int)], w ∈ TG := in_by [360, 361, 3, 76, 362] (by decide +kernel)
theorem dpX10_reaches : (decide (yX10_reaches.cls ≠ "java/lang/invoke/MethodHandle") && decide (yX10_reaches.cls ≠ "java/lang/invoke/VarHandle") && decide ((parseMethodDescriptor yX10_reaches.desc).map (fun d => d.parameters.length) = some 2)) = true := by decide +kernel
theorem lkX10_73 : ∀ w ∈ [Cond.methodLink RX10 73 yX10_reaches, .instanceMethod yX10_reaches, .selects yX10_reaches.cls yX10_reaches yX10_reaches, .initialized yX10_reaches.cls, .code yX10_reaches cX10_reaches 7 (some .boolean)], w ∈ TG := in_by [356, 357, 358, 76, 359] (by decide +kernel)
theorem dpX10_putsInAt : (decide (yX10_putsInAt.cls ≠ "java/lang/invoke/MethodHandle") && decide (yX10_putsInAt.cls ≠ "java/lang/invoke/VarHandle") && decide ((parseMethodDescriptor yX10_putsInAt.desc).map (fun d => d.parameters.length) = some 2)) = true := by decide +kernel
theorem lkX10_76 : ∀ w ∈ [Cond.methodLink RX10 76 yX10_putsInAt, .instanceMethod yX10_putsInAt, .selects yX10_putsInAt.cls yX10_putsInAt yX10_putsInAt, .initialized yX10_putsInAt.cls, .code yX10_putsInAt cX10_putsInAt 3 (some .boolean)], w ∈ TG := in_by [367, 368, 4, 76, 369] (by decide +kernel)
theorem dpX10_addMove : (decide (yX10_addMove.cls ≠ "java/lang/invoke/MethodHandle") && decide (yX10_addMove.cls ≠ "java/lang/invoke/VarHandle") && decide ((parseMethodDescriptor yX10_addMove.desc).map (fun d => d.parameters.length) = some 1)) = true := by decide +kernel
theorem lkX10_79 : ∀ w ∈ [Cond.methodLink RX10 79 yX10_addMove, .instanceMethod yX10_addMove, .selects yX10_addMove.cls yX10_addMove yX10_addMove, .initialized yX10_addMove.cls, .code yX10_addMove cX10_addMove 2 none], w ∈ TG := in_by [370, 371, 5, 76, 372] (by decide +kernel)
theorem dpX10_takesOutAt : (decide (yX10_takesOutAt.cls ≠ "java/lang/invoke/MethodHandle") && decide (yX10_takesOutAt.cls ≠ "java/lang/invoke/VarHandle") && decide ((parseMethodDescriptor yX10_takesOutAt.desc).map (fun d => d.parameters.length) = some 2)) = true := by decide +kernel
theorem lkX10_65 : ∀ w ∈ [Cond.methodLink RX10 65 yX10_takesOutAt, .instanceMethod yX10_takesOutAt, .selects yX10_takesOutAt.cls yX10_takesOutAt yX10_takesOutAt, .initialized yX10_takesOutAt.cls, .code yX10_takesOutAt cX10_takesOutAt 4 (some .boolean)], w ∈ TG := in_by [346, 347, 1, 76, 348] (by decide +kernel)
theorem dpX10_listMovesFrom : (decide (yX10_listMovesFrom.cls ≠ "java/lang/invoke/MethodHandle") && decide (yX10_listMovesFrom.cls ≠ "java/lang/invoke/VarHandle") && decide ((parseMethodDescriptor yX10_listMovesFrom.desc).map (fun d => d.parameters.length) = some 2)) = true := by decide +kernel
theorem lkX10_69 : ∀ w ∈ [Cond.methodLink RX10 69 yX10_listMovesFrom, .instanceMethod yX10_listMovesFrom, .selects yX10_listMovesFrom.cls yX10_listMovesFrom yX10_listMovesFrom, .initialized yX10_listMovesFrom.cls, .code yX10_listMovesFrom cX10_listMovesFrom 6 none], w ∈ TG := in_by [353, 354, 2, 76, 355] (by decide +kernel)
theorem dpX10_clear : (decide (yX10_clear.cls ≠ "java/lang/invoke/MethodHandle") && decide (yX10_clear.cls ≠ "java/lang/invoke/VarHandle") && decide ((parseMethodDescriptor yX10_clear.desc).map (fun d => d.parameters.length) = some 0)) = true := by decide +kernel
theorem lkX3_27 : ∀ w ∈ [Cond.methodLink RX3 27 yX10_clear, .instanceMethod yX10_clear, .selects yX10_clear.cls yX10_clear yX10_clear, .initialized yX10_clear.cls, .code yX10_clear cX10_clear 1 none], w ∈ TG := in_by [320, 321, 322, 76, 323] (by decide +kernel)
theorem dpX10_addDash : (decide (yX10_addDash.cls ≠ "java/lang/invoke/MethodHandle") && decide (yX10_addDash.cls ≠ "java/lang/invoke/VarHandle") && decide ((parseMethodDescriptor yX10_addDash.desc).map (fun d => d.parameters.length) = some 0)) = true := by decide +kernel
theorem lkX3_35 : ∀ w ∈ [Cond.methodLink RX3 35 yX10_addDash, .instanceMethod yX10_addDash, .selects yX10_addDash.cls yX10_addDash yX10_addDash, .initialized yX10_addDash.cls, .code yX10_addDash cX10_addDash 1 none], w ∈ TG := in_by [331, 332, 333, 76, 334] (by decide +kernel)
theorem dpX10_addSiding : (decide (yX10_addSiding.cls ≠ "java/lang/invoke/MethodHandle") && decide (yX10_addSiding.cls ≠ "java/lang/invoke/VarHandle") && decide ((parseMethodDescriptor yX10_addSiding.desc).map (fun d => d.parameters.length) = some 2)) = true := by decide +kernel
theorem lkX3_38 : ∀ w ∈ [Cond.methodLink RX3 38 yX10_addSiding, .instanceMethod yX10_addSiding, .selects yX10_addSiding.cls yX10_addSiding yX10_addSiding, .initialized yX10_addSiding.cls, .code yX10_addSiding cX10_addSiding 3 none], w ∈ TG := in_by [338, 339, 340, 76, 341] (by decide +kernel)
theorem dpX10_listMoves : (decide (yX10_listMoves.cls ≠ "java/lang/invoke/MethodHandle") && decide (yX10_listMoves.cls ≠ "java/lang/invoke/VarHandle") && decide ((parseMethodDescriptor yX10_listMoves.desc).map (fun d => d.parameters.length) = some 0)) = true := by decide +kernel
theorem lkX3_42 : ∀ w ∈ [Cond.methodLink RX3 42 yX10_listMoves, .instanceMethod yX10_listMoves, .selects yX10_listMoves.cls yX10_listMoves yX10_listMoves, .initialized yX10_listMoves.cls, .code yX10_listMoves cX10_listMoves 3 none], w ∈ TG := in_by [342, 343, 344, 76, 345] (by decide +kernel)
theorem nkX4_18 : decide (Cond.methodLinkNest RX4 18 yX11_copyInts "SidingOrders" ∈ NW) = true := by decide +kernel
theorem lkX4_18 : ∀ w ∈ [Cond.static yX11_copyInts, .initialized yX11_copyInts.cls, .code yX11_copyInts cX11_copyInts 2 none], w ∈ TG := in_by [381, 74, 382] (by decide +kernel)
theorem dpX4_insertAt : (decide (yX4_insertAt.cls ≠ "java/lang/invoke/MethodHandle") && decide (yX4_insertAt.cls ≠ "java/lang/invoke/VarHandle") && decide ((parseMethodDescriptor yX4_insertAt.desc).map (fun d => d.parameters.length) = some 3)) = true := by decide +kernel
theorem lkX4_79 : ∀ w ∈ [Cond.methodLink RX4 79 yX4_insertAt, .instanceMethod yX4_insertAt, .selects yX4_insertAt.cls yX4_insertAt yX4_insertAt, .initialized yX4_insertAt.cls, .code yX4_insertAt cX4_insertAt 6 none], w ∈ TG := in_by [524, 525, 10, 79, 526] (by decide +kernel)
theorem lkX4_63 : ∀ w ∈ [Cond.methodLink RX4 63 Lib.Math.max.name, .static Lib.Math.max.name, .initialized "java/lang/Math", .code Lib.Math.max.name Lib.Math.max.code 2 (some .int)], w ∈ TG := in_by [504, 505, 85, 506] (by decide +kernel)
theorem lkX4_68 : ∀ w ∈ [Cond.methodLink RX4 68 yX6_upTo, .static yX6_upTo, .initialized yX6_upTo.cls, .code yX6_upTo cX6_upTo 3 (some .int)], w ∈ TG := in_by [507, 508, 88, 509] (by decide +kernel)
theorem lkX4_71 : ∀ w ∈ [Cond.methodLink RX4 71 yX4_begin, .instanceMethod yX4_begin, .selects yX4_begin.cls yX4_begin yX4_begin, .initialized yX4_begin.cls, .code yX4_begin cX4_begin 4 none], w ∈ TG := in_by [510, 511, 512, 79, 513] (by decide +kernel)
theorem dpX4_insert : (decide (yX4_insert.cls ≠ "java/lang/invoke/MethodHandle") && decide (yX4_insert.cls ≠ "java/lang/invoke/VarHandle") && decide ((parseMethodDescriptor yX4_insert.desc).map (fun d => d.parameters.length) = some 3)) = true := by decide +kernel
theorem lkX4_75 : ∀ w ∈ [Cond.methodLink RX4 75 yX4_insert, .instanceMethod yX4_insert, .selects yX4_insert.cls yX4_insert yX4_insert, .initialized yX4_insert.cls, .code yX4_insert cX4_insert 8 none], w ∈ TG := in_by [514, 515, 9, 79, 516] (by decide +kernel)
theorem lkX5_39 : ∀ w ∈ [Cond.methodLink RX5 39 yX6_upTo, .static yX6_upTo, .initialized yX6_upTo.cls, .code yX6_upTo cX6_upTo 3 (some .int)], w ∈ TG := in_by [728, 508, 88, 509] (by decide +kernel)
theorem lkX5_45 : ∀ w ∈ [Cond.methodLink RX5 45 yX4_begin, .instanceMethod yX4_begin, .selects yX4_begin.cls yX4_begin yX4_begin, .initialized yX4_begin.cls, .code yX4_begin cX4_begin 4 none], w ∈ TG := in_by [729, 511, 512, 79, 513] (by decide +kernel)
theorem nkX5_49 : decide (Cond.methodLinkNest RX5 49 yX11_copyInts "SidingOrders" ∈ NW) = true := by decide +kernel
theorem lkX5_49 : ∀ w ∈ [Cond.static yX11_copyInts, .initialized yX11_copyInts.cls, .code yX11_copyInts cX11_copyInts 2 none], w ∈ TG := in_by [381, 74, 382] (by decide +kernel)
theorem dpX4_copyFrom : (decide (yX4_copyFrom.cls ≠ "java/lang/invoke/MethodHandle") && decide (yX4_copyFrom.cls ≠ "java/lang/invoke/VarHandle") && decide ((parseMethodDescriptor yX4_copyFrom.desc).map (fun d => d.parameters.length) = some 1)) = true := by decide +kernel
theorem lkX5_53 : ∀ w ∈ [Cond.methodLink RX5 53 yX4_copyFrom, .instanceMethod yX4_copyFrom, .selects yX4_copyFrom.cls yX4_copyFrom yX4_copyFrom, .initialized yX4_copyFrom.cls, .code yX4_copyFrom cX4_copyFrom 2 none], w ∈ TG := in_by [843, 766, 767, 79, 768] (by decide +kernel)
theorem lkX5_57 : ∀ w ∈ [Cond.methodLink RX5 57 yX4_shift, .instanceMethod yX4_shift, .selects yX4_shift.cls yX4_shift yX4_shift, .initialized yX4_shift.cls, .code yX4_shift cX4_shift 2 none], w ∈ TG := in_by [744, 564, 565, 79, 566] (by decide +kernel)
theorem lkX5_61 : ∀ w ∈ [Cond.methodLink RX5 61 yX4_unshift, .instanceMethod yX4_unshift, .selects yX4_unshift.cls yX4_unshift yX4_unshift, .initialized yX4_unshift.cls, .code yX4_unshift cX4_unshift 2 none], w ∈ TG := in_by [753, 589, 590, 79, 591] (by decide +kernel)
theorem lkX6_15 : ∀ w ∈ [Cond.methodLink RX6 15 yX6_wagonAt, .static yX6_wagonAt, .initialized yX6_wagonAt.cls, .code yX6_wagonAt cX6_wagonAt 2 (some .int)], w ∈ TG := in_by [599, 600, 88, 601] (by decide +kernel)
theorem dpX6_placeOf : (decide (yX6_placeOf.cls ≠ "java/lang/invoke/MethodHandle") && decide (yX6_placeOf.cls ≠ "java/lang/invoke/VarHandle") && decide ((parseMethodDescriptor yX6_placeOf.desc).map (fun d => d.parameters.length) = some 2)) = true := by decide +kernel
theorem lkX6_19 : ∀ w ∈ [Cond.methodLink RX6 19 yX6_placeOf, .static yX6_placeOf, .initialized yX6_placeOf.cls, .code yX6_placeOf cX6_placeOf 3 (some .int)], w ∈ TG := in_by [602, 603, 88, 604] (by decide +kernel)
theorem lkX6_27 : ∀ w ∈ [Cond.methodLink RX6 27 yX6_factorial, .static yX6_factorial, .initialized yX6_factorial.cls, .code yX6_factorial cX6_factorial 3 (some .int)], w ∈ TG := in_by [665, 549, 88, 550] (by decide +kernel)
theorem lkX6_30 : ∀ w ∈ [Cond.methodLink RX6 30 Lib.Math.max.name, .static Lib.Math.max.name, .initialized "java/lang/Math", .code Lib.Math.max.name Lib.Math.max.code 2 (some .int)], w ∈ TG := in_by [666, 505, 85, 506] (by decide +kernel)
theorem dpX6_pick : (decide (yX6_pick.cls ≠ "java/lang/invoke/MethodHandle") && decide (yX6_pick.cls ≠ "java/lang/invoke/VarHandle") && decide ((parseMethodDescriptor yX6_pick.desc).map (fun d => d.parameters.length) = some 2)) = true := by decide +kernel
theorem lkX6_35 : ∀ w ∈ [Cond.methodLink RX6 35 yX6_pick, .static yX6_pick, .initialized yX6_pick.cls, .code yX6_pick cX6_pick 4 (some .int)], w ∈ TG := in_by [667, 668, 88, 669] (by decide +kernel)
theorem lkX7_50 : ∀ w ∈ [Cond.methodLink RX7 50 yX4_copyFrom, .instanceMethod yX4_copyFrom, .selects yX4_copyFrom.cls yX4_copyFrom yX4_copyFrom, .initialized yX4_copyFrom.cls, .code yX4_copyFrom cX4_copyFrom 2 none], w ∈ TG := in_by [765, 766, 767, 79, 768] (by decide +kernel)
theorem dpX7_bestMove : (decide (yX7_bestMove.cls ≠ "java/lang/invoke/MethodHandle") && decide (yX7_bestMove.cls ≠ "java/lang/invoke/VarHandle") && decide ((parseMethodDescriptor yX7_bestMove.desc).map (fun d => d.parameters.length) = some 0)) = true := by decide +kernel
theorem lkX7_54 : ∀ w ∈ [Cond.methodLink RX7 54 yX7_bestMove, .instanceMethod yX7_bestMove, .selects yX7_bestMove.cls yX7_bestMove yX7_bestMove, .initialized yX7_bestMove.cls, .code yX7_bestMove cX7_bestMove 5 (some .int)], w ∈ TG := in_by [632, 633, 15, 82, 634] (by decide +kernel)
theorem lkX8_77 : ∀ w ∈ [Cond.methodLink RX8 77 yX10_moveAt, .instanceMethod yX10_moveAt, .selects yX10_moveAt.cls yX10_moveAt yX10_moveAt, .initialized yX10_moveAt.cls, .code yX10_moveAt cX10_moveAt 2 (some .int)], w ∈ TG := in_by [554, 555, 556, 76, 557] (by decide +kernel)
theorem lkX8_80 : ∀ w ∈ [Cond.methodLink RX8 80 yX4_allows, .instanceMethod yX4_allows, .selects yX4_allows.cls yX4_allows yX4_allows, .initialized yX4_allows.cls, .code yX4_allows cX4_allows 4 (some .boolean)], w ∈ TG := in_by [558, 559, 560, 79, 561] (by decide +kernel)
theorem lkX8_84 : ∀ w ∈ [Cond.methodLink RX8 84 yX4_shift, .instanceMethod yX4_shift, .selects yX4_shift.cls yX4_shift yX4_shift, .initialized yX4_shift.cls, .code yX4_shift cX4_shift 2 none], w ∈ TG := in_by [563, 564, 565, 79, 566] (by decide +kernel)
theorem lkX8_87 : ∀ w ∈ [Cond.methodLink RX8 87 yX4_index, .instanceMethod yX4_index, .selects yX4_index.cls yX4_index yX4_index, .initialized yX4_index.cls, .code yX4_index cX4_index 9 (some .int)], w ∈ TG := in_by [579, 580, 581, 79, 582] (by decide +kernel)
theorem dpX8_reach : (decide (yX8_reach.cls ≠ "java/lang/invoke/MethodHandle") && decide (yX8_reach.cls ≠ "java/lang/invoke/VarHandle") && decide ((parseMethodDescriptor yX8_reach.desc).map (fun d => d.parameters.length) = some 3)) = true := by decide +kernel
theorem lkX8_90 : ∀ w ∈ [Cond.methodLink RX8 90 yX8_reach, .instanceMethod yX8_reach, .selects yX8_reach.cls yX8_reach yX8_reach, .initialized yX8_reach.cls, .code yX8_reach cX8_reach 5 none], w ∈ TG := in_by [585, 586, 14, 81, 587] (by decide +kernel)
theorem lkX8_94 : ∀ w ∈ [Cond.methodLink RX8 94 yX4_unshift, .instanceMethod yX4_unshift, .selects yX4_unshift.cls yX4_unshift yX4_unshift, .initialized yX4_unshift.cls, .code yX4_unshift cX4_unshift 2 none], w ∈ TG := in_by [588, 589, 590, 79, 591] (by decide +kernel)
theorem dpX2_know : (decide (yX2_know.cls ≠ "java/lang/invoke/MethodHandle") && decide (yX2_know.cls ≠ "java/lang/invoke/VarHandle") && decide ((parseMethodDescriptor yX2_know.desc).map (fun d => d.parameters.length) = some 1)) = true := by decide +kernel
theorem lkX8_32 : ∀ w ∈ [Cond.methodLink RX8 32 yX2_know, .instanceMethod yX2_know, .selects yX2_know.cls yX2_know yX2_know, .initialized yX2_know.cls, .code yX2_know cX2_know 2 (some .boolean)], w ∈ TG := in_by [492, 493, 494, 77, 495] (by decide +kernel)
theorem dpX4_indices : (decide (yX4_indices.cls ≠ "java/lang/invoke/MethodHandle") && decide (yX4_indices.cls ≠ "java/lang/invoke/VarHandle") && decide ((parseMethodDescriptor yX4_indices.desc).map (fun d => d.parameters.length) = some 2)) = true := by decide +kernel
theorem lkX8_42 : ∀ w ∈ [Cond.methodLink RX8 42 yX4_indices, .static yX4_indices, .initialized yX4_indices.cls, .code yX4_indices cX4_indices 5 (some .int)], w ∈ TG := in_by [496, 497, 79, 498] (by decide +kernel)
theorem lkX8_46 : ∀ w ∈ [Cond.methodLink RX8 46 Lib.Math.min.name, .static Lib.Math.min.name, .initialized "java/lang/Math", .code Lib.Math.min.name Lib.Math.min.code 2 (some .int)], w ∈ TG := in_by [499, 384, 85, 385] (by decide +kernel)
theorem dpX4_setUp : (decide (yX4_setUp.cls ≠ "java/lang/invoke/MethodHandle") && decide (yX4_setUp.cls ≠ "java/lang/invoke/VarHandle") && decide ((parseMethodDescriptor yX4_setUp.desc).map (fun d => d.parameters.length) = some 3)) = true := by decide +kernel
theorem lkX8_51 : ∀ w ∈ [Cond.methodLink RX8 51 yX4_setUp, .instanceMethod yX4_setUp, .selects yX4_setUp.cls yX4_setUp yX4_setUp, .initialized yX4_setUp.cls, .code yX4_setUp cX4_setUp 10 none], w ∈ TG := in_by [500, 501, 502, 79, 503] (by decide +kernel)
theorem lkX8_55 : ∀ w ∈ [Cond.methodLink RX8 55 yX4_countAt, .instanceMethod yX4_countAt, .selects yX4_countAt.cls yX4_countAt yX4_countAt, .initialized yX4_countAt.cls, .code yX4_countAt cX4_countAt 2 (some .int)], w ∈ TG := in_by [527, 521, 522, 79, 523] (by decide +kernel)
theorem lkX8_59 : ∀ w ∈ [Cond.methodLink RX8 59 yX4_rowAt, .instanceMethod yX4_rowAt, .selects yX4_rowAt.cls yX4_rowAt yX4_rowAt, .initialized yX4_rowAt.cls, .code yX4_rowAt cX4_rowAt 2 (some .int)], w ∈ TG := in_by [528, 529, 530, 79, 531] (by decide +kernel)
theorem dpX2_note : (decide (yX2_note.cls ≠ "java/lang/invoke/MethodHandle") && decide (yX2_note.cls ≠ "java/lang/invoke/VarHandle") && decide ((parseMethodDescriptor yX2_note.desc).map (fun d => d.parameters.length) = some 4)) = true := by decide +kernel
theorem lkX8_62 : ∀ w ∈ [Cond.methodLink RX8 62 yX2_note, .instanceMethod yX2_note, .selects yX2_note.cls yX2_note yX2_note, .initialized yX2_note.cls, .code yX2_note cX2_note 7 none], w ∈ TG := in_by [532, 533, 534, 77, 535] (by decide +kernel)
theorem dpX8_spread : (decide (yX8_spread.cls ≠ "java/lang/invoke/MethodHandle") && decide (yX8_spread.cls ≠ "java/lang/invoke/VarHandle") && decide ((parseMethodDescriptor yX8_spread.desc).map (fun d => d.parameters.length) = some 3)) = true := by decide +kernel
theorem lkX8_66 : ∀ w ∈ [Cond.methodLink RX8 66 yX8_spread, .instanceMethod yX8_spread, .selects yX8_spread.cls yX8_spread yX8_spread, .initialized yX8_spread.cls, .code yX8_spread cX8_spread 7 none], w ∈ TG := in_by [551, 552, 11, 81, 553] (by decide +kernel)
theorem dpX2_nowKnow : (decide (yX2_nowKnow.cls ≠ "java/lang/invoke/MethodHandle") && decide (yX2_nowKnow.cls ≠ "java/lang/invoke/VarHandle") && decide ((parseMethodDescriptor yX2_nowKnow.desc).map (fun d => d.parameters.length) = some 1)) = true := by decide +kernel
theorem lkX8_70 : ∀ w ∈ [Cond.methodLink RX8 70 yX2_nowKnow, .instanceMethod yX2_nowKnow, .selects yX2_nowKnow.cls yX2_nowKnow yX2_nowKnow, .initialized yX2_nowKnow.cls, .code yX2_nowKnow cX2_nowKnow 2 none], w ∈ TG := in_by [592, 593, 594, 77, 595] (by decide +kernel)
theorem lkX9_30 : ∀ w ∈ [Cond.methodLink RX9 30 yX4_countAt, .instanceMethod yX4_countAt, .selects yX4_countAt.cls yX4_countAt yX4_countAt, .initialized yX4_countAt.cls, .code yX4_countAt cX4_countAt 2 (some .int)], w ∈ TG := in_by [805, 521, 522, 79, 523] (by decide +kernel)
theorem lkX9_50 : ∀ w ∈ [Cond.methodLink RX9 50 yX10_moveAt, .instanceMethod yX10_moveAt, .selects yX10_moveAt.cls yX10_moveAt yX10_moveAt, .initialized yX10_moveAt.cls, .code yX10_moveAt cX10_moveAt 2 (some .int)], w ∈ TG := in_by [806, 555, 556, 76, 557] (by decide +kernel)
theorem lkX9_53 : ∀ w ∈ [Cond.methodLink RX9 53 yX4_wagonOf, .instanceMethod yX4_wagonOf, .selects yX4_wagonOf.cls yX4_wagonOf yX4_wagonOf, .initialized yX4_wagonOf.cls, .code yX4_wagonOf cX4_wagonOf 3 (some .int)], w ∈ TG := in_by [807, 650, 651, 79, 652] (by decide +kernel)
theorem lkX9_64 : ∀ w ∈ [Cond.methodLink RX9 64 yX4_rowAt, .instanceMethod yX4_rowAt, .selects yX4_rowAt.cls yX4_rowAt yX4_rowAt, .initialized yX4_rowAt.cls, .code yX4_rowAt cX4_rowAt 2 (some .int)], w ∈ TG := in_by [815, 529, 530, 79, 531] (by decide +kernel)
theorem lkX9_67 : ∀ w ∈ [Cond.methodLink RX9 67 yX6_wagonAt, .static yX6_wagonAt, .initialized yX6_wagonAt.cls, .code yX6_wagonAt cX6_wagonAt 2 (some .int)], w ∈ TG := in_by [816, 600, 88, 601] (by decide +kernel)
theorem lkX9_56 : ∀ w ∈ [Cond.methodLink RX9 56 yX4_allows, .instanceMethod yX4_allows, .selects yX4_allows.cls yX4_allows yX4_allows, .initialized yX4_allows.cls, .code yX4_allows cX4_allows 4 (some .boolean)], w ∈ TG := in_by [811, 559, 560, 79, 561] (by decide +kernel)
theorem dpX9_isBelowAll : (decide (yX9_isBelowAll.cls ≠ "java/lang/invoke/MethodHandle") && decide (yX9_isBelowAll.cls ≠ "java/lang/invoke/VarHandle") && decide ((parseMethodDescriptor yX9_isBelowAll.desc).map (fun d => d.parameters.length) = some 2)) = true := by decide +kernel
theorem lkX9_60 : ∀ w ∈ [Cond.methodLink RX9 60 yX9_isBelowAll, .instanceMethod yX9_isBelowAll, .selects yX9_isBelowAll.cls yX9_isBelowAll yX9_isBelowAll, .initialized yX9_isBelowAll.cls, .code yX9_isBelowAll cX9_isBelowAll 5 (some .boolean)], w ∈ TG := in_by [812, 813, 24, 84, 814] (by decide +kernel)
theorem dpX9_wantedOut : (decide (yX9_wantedOut.cls ≠ "java/lang/invoke/MethodHandle") && decide (yX9_wantedOut.cls ≠ "java/lang/invoke/VarHandle") && decide ((parseMethodDescriptor yX9_wantedOut.desc).map (fun d => d.parameters.length) = some 1)) = true := by decide +kernel
theorem lkX9_34 : ∀ w ∈ [Cond.methodLink RX9 34 yX9_wantedOut, .instanceMethod yX9_wantedOut, .selects yX9_wantedOut.cls yX9_wantedOut yX9_wantedOut, .initialized yX9_wantedOut.cls, .code yX9_wantedOut cX9_wantedOut 5 (some .int)], w ∈ TG := in_by [802, 803, 22, 84, 804] (by decide +kernel)
theorem dpX9_fromEntry : (decide (yX9_fromEntry.cls ≠ "java/lang/invoke/MethodHandle") && decide (yX9_fromEntry.cls ≠ "java/lang/invoke/VarHandle") && decide ((parseMethodDescriptor yX9_fromEntry.desc).map (fun d => d.parameters.length) = some 2)) = true := by decide +kernel
theorem lkX9_38 : ∀ w ∈ [Cond.methodLink RX9 38 yX9_fromEntry, .instanceMethod yX9_fromEntry, .selects yX9_fromEntry.cls yX9_fromEntry yX9_fromEntry, .initialized yX9_fromEntry.cls, .code yX9_fromEntry cX9_fromEntry 11 (some .int)], w ∈ TG := in_by [808, 809, 23, 84, 810] (by decide +kernel)
theorem dpX9_onward : (decide (yX9_onward.cls ≠ "java/lang/invoke/MethodHandle") && decide (yX9_onward.cls ≠ "java/lang/invoke/VarHandle") && decide ((parseMethodDescriptor yX9_onward.desc).map (fun d => d.parameters.length) = some 1)) = true := by decide +kernel
theorem lkX9_41 : ∀ w ∈ [Cond.methodLink RX9 41 yX9_onward, .instanceMethod yX9_onward, .selects yX9_onward.cls yX9_onward yX9_onward, .initialized yX9_onward.cls, .code yX9_onward cX9_onward 4 (some .int)], w ∈ TG := in_by [817, 818, 25, 84, 819] (by decide +kernel)
theorem lkX9_18 : ∀ w ∈ [Cond.methodLink RX9 18 yX4_begin, .instanceMethod yX4_begin, .selects yX4_begin.cls yX4_begin yX4_begin, .initialized yX4_begin.cls, .code yX4_begin cX4_begin 4 none], w ∈ TG := in_by [798, 511, 512, 79, 513] (by decide +kernel)
theorem dpX9_choose : (decide (yX9_choose.cls ≠ "java/lang/invoke/MethodHandle") && decide (yX9_choose.cls ≠ "java/lang/invoke/VarHandle") && decide ((parseMethodDescriptor yX9_choose.desc).map (fun d => d.parameters.length) = some 2)) = true := by decide +kernel
theorem lkX9_22 : ∀ w ∈ [Cond.methodLink RX9 22 yX9_choose, .instanceMethod yX9_choose, .selects yX9_choose.cls yX9_choose yX9_choose, .initialized yX9_choose.cls, .code yX9_choose cX9_choose 4 (some .int)], w ∈ TG := in_by [799, 800, 21, 84, 801] (by decide +kernel)
theorem lkX9_26 : ∀ w ∈ [Cond.methodLink RX9 26 yX4_shift, .instanceMethod yX4_shift, .selects yX4_shift.cls yX4_shift yX4_shift, .initialized yX4_shift.cls, .code yX4_shift cX4_shift 2 none], w ∈ TG := in_by [820, 564, 565, 79, 566] (by decide +kernel)
theorem lkX10_83 : ∀ w ∈ [Cond.methodLink RX10 83 yX10_moveAt, .instanceMethod yX10_moveAt, .selects yX10_moveAt.cls yX10_moveAt yX10_moveAt, .initialized yX10_moveAt.cls, .code yX10_moveAt cX10_moveAt 2 (some .int)], w ∈ TG := in_by [738, 555, 556, 76, 557] (by decide +kernel)
theorem dpX3_add : (decide (yX3_add.cls ≠ "java/lang/invoke/MethodHandle") && decide (yX3_add.cls ≠ "java/lang/invoke/VarHandle") && decide ((parseMethodDescriptor yX3_add.desc).map (fun d => d.parameters.length) = some 1)) = true := by decide +kernel
theorem lkX11_73 : ∀ w ∈ [Cond.methodLink RX11 73 yX3_add, .instanceMethod yX3_add, .selects yX3_add.cls yX3_add yX3_add, .initialized yX3_add.cls, .code yX3_add cX3_add 2 (some .boolean)], w ∈ TG := in_by [312, 313, 314, 75, 315] (by decide +kernel)
theorem dpX3_clear : (decide (yX3_clear.cls ≠ "java/lang/invoke/MethodHandle") && decide (yX3_clear.cls ≠ "java/lang/invoke/VarHandle") && decide ((parseMethodDescriptor yX3_clear.desc).map (fun d => d.parameters.length) = some 0)) = true := by decide +kernel
theorem lkX11_80 : ∀ w ∈ [Cond.methodLink RX11 80 yX3_clear, .instanceMethod yX3_clear, .selects yX3_clear.cls yX3_clear yX3_clear, .initialized yX3_clear.cls, .code yX3_clear cX3_clear 1 none], w ∈ TG := in_by [373, 374, 375, 75, 376] (by decide +kernel)
theorem dpX3_faultAt : (decide (yX3_faultAt.cls ≠ "java/lang/invoke/MethodHandle") && decide (yX3_faultAt.cls ≠ "java/lang/invoke/VarHandle") && decide ((parseMethodDescriptor yX3_faultAt.desc).map (fun d => d.parameters.length) = some 0)) = true := by decide +kernel
theorem lkX11_90 : ∀ w ∈ [Cond.methodLink RX11 90 yX3_faultAt, .instanceMethod yX3_faultAt, .selects yX3_faultAt.cls yX3_faultAt yX3_faultAt, .initialized yX3_faultAt.cls, .code yX3_faultAt cX3_faultAt 8 (some .int)], w ∈ TG := in_by [436, 437, 438, 75, 439] (by decide +kernel)
theorem lkX11_276 : ∀ w ∈ [Cond.methodLink RX11 276 yX7_forget, .instanceMethod yX7_forget, .selects yX7_forget.cls yX7_forget yX7_forget, .initialized yX7_forget.cls, .code yX7_forget cX7_forget 1 none], w ∈ TG := in_by [447, 448, 449, 82, 450] (by decide +kernel)
theorem dpX3_layOut : (decide (yX3_layOut.cls ≠ "java/lang/invoke/MethodHandle") && decide (yX3_layOut.cls ≠ "java/lang/invoke/VarHandle") && decide ((parseMethodDescriptor yX3_layOut.desc).map (fun d => d.parameters.length) = some 1)) = true := by decide +kernel
theorem lkX11_77 : ∀ w ∈ [Cond.methodLink RX11 77 yX3_layOut, .instanceMethod yX3_layOut, .selects yX3_layOut.cls yX3_layOut yX3_layOut, .initialized yX3_layOut.cls, .code yX3_layOut cX3_layOut 4 none], w ∈ TG := in_by [316, 317, 318, 75, 319] (by decide +kernel)
theorem dpX11_forgetFindings : (decide (yX11_forgetFindings.cls ≠ "java/lang/invoke/MethodHandle") && decide (yX11_forgetFindings.cls ≠ "java/lang/invoke/VarHandle") && decide ((parseMethodDescriptor yX11_forgetFindings.desc).map (fun d => d.parameters.length) = some 0)) = true := by decide +kernel
theorem lkX11_98 : ∀ w ∈ [Cond.methodLink RX11 98 yX11_forgetFindings, .instanceMethod yX11_forgetFindings, .selects yX11_forgetFindings.cls yX11_forgetFindings yX11_forgetFindings, .initialized yX11_forgetFindings.cls, .code yX11_forgetFindings cX11_forgetFindings 1 none], w ∈ TG := in_by [444, 445, 6, 74, 446] (by decide +kernel)
theorem lkX11_104 : ∀ w ∈ [Cond.methodLink RX11 104 yX10_letterAt, .instanceMethod yX10_letterAt, .selects yX10_letterAt.cls yX10_letterAt yX10_letterAt, .initialized yX10_letterAt.cls, .code yX10_letterAt cX10_letterAt 2 (some .int)], w ∈ TG := in_by [455, 350, 351, 76, 352] (by decide +kernel)
theorem lkX11_108 : ∀ w ∈ [Cond.methodLink RX11 108 yX10_lengthAt, .instanceMethod yX10_lengthAt, .selects yX10_lengthAt.cls yX10_lengthAt yX10_lengthAt, .initialized yX10_lengthAt.cls, .code yX10_lengthAt cX10_lengthAt 2 (some .int)], w ∈ TG := in_by [456, 457, 458, 76, 459] (by decide +kernel)
theorem lkX11_111 : ∀ w ∈ [Cond.methodLink RX11 111 yX10_stageAt, .instanceMethod yX10_stageAt, .selects yX10_stageAt.cls yX10_stageAt yX10_stageAt, .initialized yX10_stageAt.cls, .code yX10_stageAt cX10_stageAt 2 (some .int)], w ∈ TG := in_by [460, 364, 365, 76, 366] (by decide +kernel)
theorem dpX11_isMissing : (decide (yX11_isMissing.cls ≠ "java/lang/invoke/MethodHandle") && decide (yX11_isMissing.cls ≠ "java/lang/invoke/VarHandle") && decide ((parseMethodDescriptor yX11_isMissing.desc).map (fun d => d.parameters.length) = some 1)) = true := by decide +kernel
theorem lkX11_114 : ∀ w ∈ [Cond.methodLink RX11 114 yX11_isMissing, .instanceMethod yX11_isMissing, .selects yX11_isMissing.cls yX11_isMissing yX11_isMissing, .initialized yX11_isMissing.cls, .code yX11_isMissing cX11_isMissing 2 (some .boolean)], w ∈ TG := in_by [465, 466, 7, 74, 467] (by decide +kernel)
theorem lkX11_117 : ∀ w ∈ [Cond.methodLink RX11 117 yX10_reaches, .instanceMethod yX10_reaches, .selects yX10_reaches.cls yX10_reaches yX10_reaches, .initialized yX10_reaches.cls, .code yX10_reaches cX10_reaches 7 (some .boolean)], w ∈ TG := in_by [468, 357, 358, 76, 359] (by decide +kernel)
theorem dpX6_wagons : (decide (yX6_wagons.cls ≠ "java/lang/invoke/MethodHandle") && decide (yX6_wagons.cls ≠ "java/lang/invoke/VarHandle") && decide ((parseMethodDescriptor yX6_wagons.desc).map (fun d => d.parameters.length) = some 1)) = true := by decide +kernel
theorem lkX11_129 : ∀ w ∈ [Cond.methodLink RX11 129 yX6_wagons, .static yX6_wagons, .initialized yX6_wagons.cls, .code yX6_wagons cX6_wagons 4 (some .int)], w ∈ TG := in_by [476, 477, 88, 478] (by decide +kernel)
theorem dpX8_fill : (decide (yX8_fill.cls ≠ "java/lang/invoke/MethodHandle") && decide (yX8_fill.cls ≠ "java/lang/invoke/VarHandle") && decide ((parseMethodDescriptor yX8_fill.desc).map (fun d => d.parameters.length) = some 2)) = true := by decide +kernel
theorem lkX11_138 : ∀ w ∈ [Cond.methodLink RX11 138 yX8_fill, .instanceMethod yX8_fill, .selects yX8_fill.cls yX8_fill yX8_fill, .initialized yX8_fill.cls, .code yX8_fill cX8_fill 5 none], w ∈ TG := in_by [488, 489, 490, 81, 491] (by decide +kernel)
theorem dpX6_relative : (decide (yX6_relative.cls ≠ "java/lang/invoke/MethodHandle") && decide (yX6_relative.cls ≠ "java/lang/invoke/VarHandle") && decide ((parseMethodDescriptor yX6_relative.desc).map (fun d => d.parameters.length) = some 3)) = true := by decide +kernel
theorem lkX11_146 : ∀ w ∈ [Cond.methodLink RX11 146 yX6_relative, .static yX6_relative, .initialized yX6_relative.cls, .code yX6_relative cX6_relative 5 (some .int)], w ∈ TG := in_by [596, 597, 88, 598] (by decide +kernel)
theorem dpX2_leastOf : (decide (yX2_leastOf.cls ≠ "java/lang/invoke/MethodHandle") && decide (yX2_leastOf.cls ≠ "java/lang/invoke/VarHandle") && decide ((parseMethodDescriptor yX2_leastOf.desc).map (fun d => d.parameters.length) = some 2)) = true := by decide +kernel
theorem lkX11_279 : ∀ w ∈ [Cond.methodLink RX11 279 yX2_leastOf, .instanceMethod yX2_leastOf, .selects yX2_leastOf.cls yX2_leastOf yX2_leastOf, .initialized yX2_leastOf.cls, .code yX2_leastOf cX2_leastOf 4 (some .int)], w ∈ TG := in_by [605, 606, 607, 77, 608] (by decide +kernel)
theorem dpX11_arePair : (decide (yX11_arePair.cls ≠ "java/lang/invoke/MethodHandle") && decide (yX11_arePair.cls ≠ "java/lang/invoke/VarHandle") && decide ((parseMethodDescriptor yX11_arePair.desc).map (fun d => d.parameters.length) = some 2)) = true := by decide +kernel
theorem lkX11_121 : ∀ w ∈ [Cond.methodLink RX11 121 yX11_arePair, .static yX11_arePair, .initialized yX11_arePair.cls, .code yX11_arePair cX11_arePair 3 (some .boolean)], w ∈ TG := in_by [473, 474, 74, 475] (by decide +kernel)
theorem dpX6_ofNumber : (decide (yX6_ofNumber.cls ≠ "java/lang/invoke/MethodHandle") && decide (yX6_ofNumber.cls ≠ "java/lang/invoke/VarHandle") && decide ((parseMethodDescriptor yX6_ofNumber.desc).map (fun d => d.parameters.length) = some 1)) = true := by decide +kernel
theorem lkX11_124 : ∀ w ∈ [Cond.methodLink RX11 124 yX6_ofNumber, .static yX6_ofNumber, .initialized yX6_ofNumber.cls, .code yX6_ofNumber cX6_ofNumber 4 (some .int)], w ∈ TG := in_by [482, 483, 88, 484] (by decide +kernel)
theorem dpX11_leastOf : (decide (yX11_leastOf.cls ≠ "java/lang/invoke/MethodHandle") && decide (yX11_leastOf.cls ≠ "java/lang/invoke/VarHandle") && decide ((parseMethodDescriptor yX11_leastOf.desc).map (fun d => d.parameters.length) = some 4)) = true := by decide +kernel
theorem lkX11_132 : ∀ w ∈ [Cond.methodLink RX11 132 yX11_leastOf, .instanceMethod yX11_leastOf, .selects yX11_leastOf.cls yX11_leastOf yX11_leastOf, .initialized yX11_leastOf.cls, .code yX11_leastOf cX11_leastOf 5 (some .int)], w ∈ TG := in_by [485, 486, 8, 74, 487] (by decide +kernel)
theorem dpX2_waysOf : (decide (yX2_waysOf.cls ≠ "java/lang/invoke/MethodHandle") && decide (yX2_waysOf.cls ≠ "java/lang/invoke/VarHandle") && decide ((parseMethodDescriptor yX2_waysOf.desc).map (fun d => d.parameters.length) = some 2)) = true := by decide +kernel
theorem lkX11_150 : ∀ w ∈ [Cond.methodLink RX11 150 yX2_waysOf, .instanceMethod yX2_waysOf, .selects yX2_waysOf.cls yX2_waysOf yX2_waysOf, .initialized yX2_waysOf.cls, .code yX2_waysOf cX2_waysOf 4 (some .long)], w ∈ TG := in_by [614, 615, 616, 77, 617] (by decide +kernel)
theorem lkX11_156 : ∀ w ∈ [Cond.methodLink RX11 156 yX7_aim, .instanceMethod yX7_aim, .selects yX7_aim.cls yX7_aim yX7_aim, .initialized yX7_aim.cls, .code yX7_aim cX7_aim 4 none], w ∈ TG := in_by [622, 623, 624, 82, 625] (by decide +kernel)
theorem dpX7_firstRow : (decide (yX7_firstRow.cls ≠ "java/lang/invoke/MethodHandle") && decide (yX7_firstRow.cls ≠ "java/lang/invoke/VarHandle") && decide ((parseMethodDescriptor yX7_firstRow.desc).map (fun d => d.parameters.length) = some 1)) = true := by decide +kernel
theorem lkX11_160 : ∀ w ∈ [Cond.methodLink RX11 160 yX7_firstRow, .instanceMethod yX7_firstRow, .selects yX7_firstRow.cls yX7_firstRow yX7_firstRow, .initialized yX7_firstRow.cls, .code yX7_firstRow cX7_firstRow 4 (some .int)], w ∈ TG := in_by [626, 627, 628, 82, 629] (by decide +kernel)
theorem lkX11_163 : ∀ w ∈ [Cond.methodLink RX11 163 yX6_factorial, .static yX6_factorial, .initialized yX6_factorial.cls, .code yX6_factorial cX6_factorial 3 (some .int)], w ∈ TG := in_by [661, 549, 88, 550] (by decide +kernel)
theorem dpX6_ofRank : (decide (yX6_ofRank.cls ≠ "java/lang/invoke/MethodHandle") && decide (yX6_ofRank.cls ≠ "java/lang/invoke/VarHandle") && decide ((parseMethodDescriptor yX6_ofRank.desc).map (fun d => d.parameters.length) = some 2)) = true := by decide +kernel
theorem lkX11_166 : ∀ w ∈ [Cond.methodLink RX11 166 yX6_ofRank, .static yX6_ofRank, .initialized yX6_ofRank.cls, .code yX6_ofRank cX6_ofRank 8 (some .int)], w ∈ TG := in_by [662, 663, 88, 664] (by decide +kernel)
theorem dpX6_toNumber : (decide (yX6_toNumber.cls ≠ "java/lang/invoke/MethodHandle") && decide (yX6_toNumber.cls ≠ "java/lang/invoke/VarHandle") && decide ((parseMethodDescriptor yX6_toNumber.desc).map (fun d => d.parameters.length) = some 1)) = true := by decide +kernel
theorem lkX11_170 : ∀ w ∈ [Cond.methodLink RX11 170 yX6_toNumber, .static yX6_toNumber, .initialized yX6_toNumber.cls, .code yX6_toNumber cX6_toNumber 3 (some .int)], w ∈ TG := in_by [670, 671, 88, 672] (by decide +kernel)
theorem lkX11_186 : ∀ w ∈ [Cond.methodLink RX11 186 yX6_upTo, .static yX6_upTo, .initialized yX6_upTo.cls, .code yX6_upTo cX6_upTo 3 (some .int)], w ∈ TG := in_by [680, 508, 88, 509] (by decide +kernel)
theorem dpX11_leastSorted : (decide (yX11_leastSorted.cls ≠ "java/lang/invoke/MethodHandle") && decide (yX11_leastSorted.cls ≠ "java/lang/invoke/VarHandle") && decide ((parseMethodDescriptor yX11_leastSorted.desc).map (fun d => d.parameters.length) = some 3)) = true := by decide +kernel
theorem lkX11_173 : ∀ w ∈ [Cond.methodLink RX11 173 yX11_leastSorted, .instanceMethod yX11_leastSorted, .selects yX11_leastSorted.cls yX11_leastSorted yX11_leastSorted, .initialized yX11_leastSorted.cls, .code yX11_leastSorted cX11_leastSorted 4 (some .int)], w ∈ TG := in_by [677, 678, 18, 74, 679] (by decide +kernel)
theorem dpX11_inLowestTerms : (decide (yX11_inLowestTerms.cls ≠ "java/lang/invoke/MethodHandle") && decide (yX11_inLowestTerms.cls ≠ "java/lang/invoke/VarHandle") && decide ((parseMethodDescriptor yX11_inLowestTerms.desc).map (fun d => d.parameters.length) = some 3)) = true := by decide +kernel
theorem lkX11_179 : ∀ w ∈ [Cond.methodLink RX11 179 yX11_inLowestTerms, .static yX11_inLowestTerms, .initialized yX11_inLowestTerms.cls, .code yX11_inLowestTerms cX11_inLowestTerms 7 (some .long)], w ∈ TG := in_by [686, 687, 74, 688] (by decide +kernel)
theorem dpX1_find : (decide (yX1_find.cls ≠ "java/lang/invoke/MethodHandle") && decide (yX1_find.cls ≠ "java/lang/invoke/VarHandle") && decide ((parseMethodDescriptor yX1_find.desc).map (fun d => d.parameters.length) = some 4)) = true := by decide +kernel
theorem lkX11_189 : ∀ w ∈ [Cond.methodLink RX11 189 yX1_find, .instanceMethod yX1_find, .selects yX1_find.cls yX1_find yX1_find, .initialized yX1_find.cls, .code yX1_find cX1_find 10 none], w ∈ TG := in_by [693, 694, 695, 83, 696] (by decide +kernel)
theorem lkX11_83 : ∀ w ∈ [Cond.methodLink RX11 83 yX10_copyFrom, .instanceMethod yX10_copyFrom, .selects yX10_copyFrom.cls yX10_copyFrom yX10_copyFrom, .initialized yX10_copyFrom.cls, .code yX10_copyFrom cX10_copyFrom 2 none], w ∈ TG := in_by [377, 378, 379, 76, 380] (by decide +kernel)
theorem dpX5_begin : (decide (yX5_begin.cls ≠ "java/lang/invoke/MethodHandle") && decide (yX5_begin.cls ≠ "java/lang/invoke/VarHandle") && decide ((parseMethodDescriptor yX5_begin.desc).map (fun d => d.parameters.length) = some 3)) = true := by decide +kernel
theorem lkX11_199 : ∀ w ∈ [Cond.methodLink RX11 199 yX5_begin, .instanceMethod yX5_begin, .selects yX5_begin.cls yX5_begin yX5_begin, .initialized yX5_begin.cls, .code yX5_begin cX5_begin 4 none], w ∈ TG := in_by [724, 725, 726, 78, 727] (by decide +kernel)
theorem dpX10_hasMove : (decide (yX10_hasMove.cls ≠ "java/lang/invoke/MethodHandle") && decide (yX10_hasMove.cls ≠ "java/lang/invoke/VarHandle") && decide ((parseMethodDescriptor yX10_hasMove.desc).map (fun d => d.parameters.length) = some 1)) = true := by decide +kernel
theorem lkX11_207 : ∀ w ∈ [Cond.methodLink RX11 207 yX10_hasMove, .instanceMethod yX10_hasMove, .selects yX10_hasMove.cls yX10_hasMove yX10_hasMove, .initialized yX10_hasMove.cls, .code yX10_hasMove cX10_hasMove 4 (some .boolean)], w ∈ TG := in_by [734, 735, 736, 76, 737] (by decide +kernel)
theorem lkX11_214 : ∀ w ∈ [Cond.methodLink RX11 214 yX4_allows, .instanceMethod yX4_allows, .selects yX4_allows.cls yX4_allows yX4_allows, .initialized yX4_allows.cls, .code yX4_allows cX4_allows 4 (some .boolean)], w ∈ TG := in_by [739, 559, 560, 79, 561] (by decide +kernel)
theorem dpX5_add : (decide (yX5_add.cls ≠ "java/lang/invoke/MethodHandle") && decide (yX5_add.cls ≠ "java/lang/invoke/VarHandle") && decide ((parseMethodDescriptor yX5_add.desc).map (fun d => d.parameters.length) = some 1)) = true := by decide +kernel
theorem lkX11_220 : ∀ w ∈ [Cond.methodLink RX11 220 yX5_add, .instanceMethod yX5_add, .selects yX5_add.cls yX5_add yX5_add, .initialized yX5_add.cls, .code yX5_add cX5_add 2 (some .boolean)], w ∈ TG := in_by [740, 741, 742, 78, 743] (by decide +kernel)
theorem dpX5_takeBack : (decide (yX5_takeBack.cls ≠ "java/lang/invoke/MethodHandle") && decide (yX5_takeBack.cls ≠ "java/lang/invoke/VarHandle") && decide ((parseMethodDescriptor yX5_takeBack.desc).map (fun d => d.parameters.length) = some 0)) = true := by decide +kernel
theorem lkX11_224 : ∀ w ∈ [Cond.methodLink RX11 224 yX5_takeBack, .instanceMethod yX5_takeBack, .selects yX5_takeBack.cls yX5_takeBack yX5_takeBack, .initialized yX5_takeBack.cls, .code yX5_takeBack cX5_takeBack 1 (some .boolean)], w ∈ TG := in_by [749, 750, 751, 78, 752] (by decide +kernel)
theorem dpX11_aimAtPlay : (decide (yX11_aimAtPlay.cls ≠ "java/lang/invoke/MethodHandle") && decide (yX11_aimAtPlay.cls ≠ "java/lang/invoke/VarHandle") && decide ((parseMethodDescriptor yX11_aimAtPlay.desc).map (fun d => d.parameters.length) = some 0)) = true := by decide +kernel
theorem lkX11_228 : ∀ w ∈ [Cond.methodLink RX11 228 yX11_aimAtPlay, .instanceMethod yX11_aimAtPlay, .selects yX11_aimAtPlay.cls yX11_aimAtPlay yX11_aimAtPlay, .initialized yX11_aimAtPlay.cls, .code yX11_aimAtPlay cX11_aimAtPlay 1 none], w ∈ TG := in_by [758, 759, 20, 74, 760] (by decide +kernel)
theorem dpX7_restFrom : (decide (yX7_restFrom.cls ≠ "java/lang/invoke/MethodHandle") && decide (yX7_restFrom.cls ≠ "java/lang/invoke/VarHandle") && decide ((parseMethodDescriptor yX7_restFrom.desc).map (fun d => d.parameters.length) = some 1)) = true := by decide +kernel
theorem lkX11_231 : ∀ w ∈ [Cond.methodLink RX11 231 yX7_restFrom, .instanceMethod yX7_restFrom, .selects yX7_restFrom.cls yX7_restFrom yX7_restFrom, .initialized yX7_restFrom.cls, .code yX7_restFrom cX7_restFrom 2 (some .int)], w ∈ TG := in_by [761, 762, 763, 82, 764] (by decide +kernel)
theorem dpX7_nextFrom : (decide (yX7_nextFrom.cls ≠ "java/lang/invoke/MethodHandle") && decide (yX7_nextFrom.cls ≠ "java/lang/invoke/VarHandle") && decide ((parseMethodDescriptor yX7_nextFrom.desc).map (fun d => d.parameters.length) = some 1)) = true := by decide +kernel
theorem lkX11_235 : ∀ w ∈ [Cond.methodLink RX11 235 yX7_nextFrom, .instanceMethod yX7_nextFrom, .selects yX7_nextFrom.cls yX7_nextFrom yX7_nextFrom, .initialized yX7_nextFrom.cls, .code yX7_nextFrom cX7_nextFrom 2 (some .int)], w ∈ TG := in_by [773, 774, 775, 82, 776] (by decide +kernel)
theorem lkX11_241 : ∀ w ∈ [Cond.methodLink RX11 241 yX10_moveAt, .instanceMethod yX10_moveAt, .selects yX10_moveAt.cls yX10_moveAt yX10_moveAt, .initialized yX10_moveAt.cls, .code yX10_moveAt cX10_moveAt 2 (some .int)], w ∈ TG := in_by [781, 555, 556, 76, 557] (by decide +kernel)
theorem lkX11_244 : ∀ w ∈ [Cond.methodLink RX11 244 yX4_rowAt, .instanceMethod yX4_rowAt, .selects yX4_rowAt.cls yX4_rowAt yX4_rowAt, .initialized yX4_rowAt.cls, .code yX4_rowAt cX4_rowAt 2 (some .int)], w ∈ TG := in_by [786, 529, 530, 79, 531] (by decide +kernel)
theorem dpX6_named : (decide (yX6_named.cls ≠ "java/lang/invoke/MethodHandle") && decide (yX6_named.cls ≠ "java/lang/invoke/VarHandle") && decide ((parseMethodDescriptor yX6_named.desc).map (fun d => d.parameters.length) = some 2)) = true := by decide +kernel
theorem lkX11_247 : ∀ w ∈ [Cond.methodLink RX11 247 yX6_named, .static yX6_named, .initialized yX6_named.cls, .code yX6_named cX6_named 4 (some .int)], w ∈ TG := in_by [787, 788, 88, 789] (by decide +kernel)
theorem dpX9_outInOrder : (decide (yX9_outInOrder.cls ≠ "java/lang/invoke/MethodHandle") && decide (yX9_outInOrder.cls ≠ "java/lang/invoke/VarHandle") && decide ((parseMethodDescriptor yX9_outInOrder.desc).map (fun d => d.parameters.length) = some 4)) = true := by decide +kernel
theorem lkX11_250 : ∀ w ∈ [Cond.methodLink RX11 250 yX9_outInOrder, .instanceMethod yX9_outInOrder, .selects yX9_outInOrder.cls yX9_outInOrder yX9_outInOrder, .initialized yX9_outInOrder.cls, .code yX9_outInOrder cX9_outInOrder 7 (some .int)], w ∈ TG := in_by [794, 795, 796, 84, 797] (by decide +kernel)
theorem lkX11_253 : ∀ w ∈ [Cond.methodLink RX11 253 yX6_setUpTo, .static yX6_setUpTo, .initialized yX6_setUpTo.cls, .code yX6_setUpTo cX6_setUpTo 1 (some .int)], w ∈ TG := in_by [829, 480, 88, 481] (by decide +kernel)
theorem lkX11_257 : ∀ w ∈ [Cond.methodLink RX11 257 yX6_pick, .static yX6_pick, .initialized yX6_pick.cls, .code yX6_pick cX6_pick 4 (some .int)], w ∈ TG := in_by [831, 668, 88, 669] (by decide +kernel)
theorem dpX11_imageAt : (decide (yX11_imageAt.cls ≠ "java/lang/invoke/MethodHandle") && decide (yX11_imageAt.cls ≠ "java/lang/invoke/VarHandle") && decide ((parseMethodDescriptor yX11_imageAt.desc).map (fun d => d.parameters.length) = some 1)) = true := by decide +kernel
theorem lkX11_260 : ∀ w ∈ [Cond.methodLink RX11 260 yX11_imageAt, .instanceMethod yX11_imageAt, .selects yX11_imageAt.cls yX11_imageAt yX11_imageAt, .initialized yX11_imageAt.cls, .code yX11_imageAt cX11_imageAt 2 (some (.object RX0))], w ∈ TG := in_by [836, 837, 26, 74, 838] (by decide +kernel)
theorem dpX5_copyFrom : (decide (yX5_copyFrom.cls ≠ "java/lang/invoke/MethodHandle") && decide (yX5_copyFrom.cls ≠ "java/lang/invoke/VarHandle") && decide ((parseMethodDescriptor yX5_copyFrom.desc).map (fun d => d.parameters.length) = some 1)) = true := by decide +kernel
theorem lkX11_270 : ∀ w ∈ [Cond.methodLink RX11 270 yX5_copyFrom, .instanceMethod yX5_copyFrom, .selects yX5_copyFrom.cls yX5_copyFrom yX5_copyFrom, .initialized yX5_copyFrom.cls, .code yX5_copyFrom cX5_copyFrom 2 none], w ∈ TG := in_by [839, 840, 841, 78, 842] (by decide +kernel)
theorem lkX11_283 : ∀ w ∈ [Cond.methodLink RX11 283 Lib.Math.min.name, .static Lib.Math.min.name, .initialized "java/lang/Math", .code Lib.Math.min.name Lib.Math.min.code 2 (some .int)], w ∈ TG := in_by [383, 384, 85, 385] (by decide +kernel)
theorem lkX11_288 : ∀ w ∈ [Cond.methodLink RX11 288 arraycopyName, .native arraycopyName, .static arraycopyName, .initialized "java/lang/System"], w ∈ TG := in_by [386, 388, 387, 86] (by decide +kernel)
end
section
/-! WHAT A STRETCH OF CODE DOES, over the machine: MW X conf: from conf the method ends as X says -/
abbrev CTX : Type := Program × Launch × Env × Room × State × MethodId × Array Value × List Frame × Method × Code × va_G × (Nat → ClassId) × (Nat → Nat) × Nat × (Nat → Prop) × Nat × Nat × (State → Prop)
theorem NW_warm {w : Cond} (h : w ∈ NW) {s U : State} (hW : s.WarmedH U.vm) (hZ : va_Nw w s) : va_Nw w U := by
  have h1 := (List.mem_filter.mp h).2
  unfold isNest at h1
  split at h1
  · exact va_Nw.warmM hW hZ
  · cases h1
theorem NW_same {w : Cond} (h : w ∈ NW) {s U : State} (hv : s.vm = U.vm) (hZ : va_Nw w s) : va_Nw w U := by
  have h1 := (List.mem_filter.mp h).2
  unfold isNest at h1
  split at h1
  · exact va_Nw.same rfl hv hZ
  · cases h1
def MW (X : CTX) (c0 : AC) : Prop :=
  match X, c0 with
  | (p, l, e, R, s, m, args, below, meth, c, D, cA, ad0, n0, A, mc, ms, Q), (pc, vs, st, h, bk, bn) =>
    ∀ (ad : Nat → Nat) (H : Heap) (locs : List Loc) (ls : Array Slot) (k n : Nat), n0 ≤ h.length → (∀ i, i < n0 ∨ h.length ≤ i → ad i = ad0 i) → va_P D CL (cW ad cA h) H → va_D A (cW ad cA h) → va_S A s.heap H locs → LH ad c.maxLocals vs ls → k + bk ≤ mc → n + bn ≤ ms →
      W p l e R s m args below meth c H locs k n Q (F0 m pc ls (st.map (cV ad)))
def CX (X : CTX) (b : ByteArray) (own : String) (ini : Bool) (fr lo : Nat) : Prop :=
  match X with
  | (p, _, _, R, s, m, args, _, meth, c, D, cA, _, _, A, mc, ms, _) =>
    p.tables.exec = Jvm.exec ∧ c.code = b ∧ s.vm.findClass own = some m.cls ∧ (∀ w ∈ TG, w.before args s = true) ∧ va_K D CL (tysOf cA) s ∧ meth.locks = false ∧ (∀ q, s.heap.size ≤ q → A q) ∧ (ini = true → meth.name = "<init>") ∧ R.cells = mc ∧ R.slots = ms ∧ fr ≤ R.frames ∧ lo ≤ R.locals ∧ ∀ w ∈ NW, va_Nw w s
theorem CL_in : ∀ (i : Nat) (C : String) (T : u_T) (N : Nat), CL[i]? = some (C, T, N) → ∀ w ∈ u_ws C T N, w ∈ TG := by
  intro i C T N h
  match i, h with
  | 0, h => cases h; exact inX0
  | 1, h => cases h; exact inX1
  | 2, h => cases h; exact inX2
  | 3, h => cases h; exact inX3
  | 4, h => cases h; exact inX4
  | 5, h => cases h; exact inX5
  | 6, h => cases h; exact inX7
  | 7, h => cases h; exact inX8
  | 8, h => cases h; exact inX9
  | 9, h => cases h; exact inX10
  | 10, h => cases h; exact inX11
  | 11, h => cases h; exact inX12
  | n + 12, h => simp [CL] at h
theorem CL_ty : ∀ (i : Nat) (C : String) (T : u_T) (N : Nat), CL[i]? = some (C, T, N) → ∃ ty : Nat → FieldType, (∀ k, k < N → parseFieldDescriptor (T k).2.2.1 = some (ty k)) ∧ ∀ a, a < N → ∀ b, b < N → a ≠ b → (T a).2.1 ≠ (T b).2.1 := by
  intro i C T N h
  match i, h with
  | 0, h => cases h; exact ⟨tyX0, tyX0_ok, nmX0⟩
  | 1, h => cases h; exact ⟨tyX1, tyX1_ok, nmX1⟩
  | 2, h => cases h; exact ⟨tyX2, tyX2_ok, nmX2⟩
  | 3, h => cases h; exact ⟨tyX3, tyX3_ok, nmX3⟩
  | 4, h => cases h; exact ⟨tyX4, tyX4_ok, nmX4⟩
  | 5, h => cases h; exact ⟨tyX5, tyX5_ok, nmX5⟩
  | 6, h => cases h; exact ⟨tyX7, tyX7_ok, nmX7⟩
  | 7, h => cases h; exact ⟨tyX8, tyX8_ok, nmX8⟩
  | 8, h => cases h; exact ⟨tyX9, tyX9_ok, nmX9⟩
  | 9, h => cases h; exact ⟨tyX10, tyX10_ok, nmX10⟩
  | 10, h => cases h; exact ⟨tyX11, tyX11_ok, nmX11⟩
  | 11, h => cases h; exact ⟨tyX12, tyX12_ok, nmX12⟩
  | n + 12, h => simp [CL] at h
theorem okI_dec {own : String} {ini : Bool} {b : ByteArray} {ci : CI} (h : okI own ini b ci = true) : decode b ci.1 = .ok (ci.2.2.1, ci.2.1) := by
  unfold okI at h
  rw [Bool.and_eq_true] at h
  exact of_decide_eq_true h.1
theorem isZ_fits {x : Int32} (h : isZ x) : fits .boolean (.int x) = true := by
  have h1 : x &&& 1 = x := by
    have := h
    unfold isZ at this
    simp [narrow] at this
    exact this
  have h2 : x = 0 ∨ x = 1 := by
    obtain ⟨j, hj, e⟩ := pk_andE x (m := 1) 1 rfl
    rw [h1] at e
    rcases (show j = 0 ∨ j = 1 by omega) with z | z
    · subst z; exact Or.inl e
    · subst z; exact Or.inr e
  rcases h2 with e | e <;> subst e <;> rfl
theorem isOT_spec {d : Option FieldType} (h : isOT d = true) (a : Nat) : ∃ ty, d = some ty ∧ narrow ty (.ref a) = .ref a ∧ fits ty (.ref a) = true := by
  unfold isOT at h
  split at h
  · exact ⟨_, rfl, rfl, rfl⟩
  · exact ⟨_, rfl, rfl, rfl⟩
  · cases h
set_option maxHeartbeats 4000000 in
theorem MW_step {X : CTX} {b : ByteArray} {own : String} {ini : Bool} {fr lo : Nat} (C : CX X b own ini fr lo) {ci : CI} {cf cf' : AC} {gs : List Prop} (hi : okI own ini b ci = true) (hp : ci.1 = cf.1) (he : astp ci cf = some (gs, cf')) (hg : ∀ g ∈ gs, g) (kk : MW X cf') : MW X cf := by
  obtain ⟨p, l, e, R, s, m, args, below, meth, c, D, cA, ad0, n0, A, mc, ms, Q⟩ := X
  obtain ⟨pc, len, I, r1, r2, r3, cv⟩ := ci
  obtain ⟨pc', vs, st, h, bk, bn⟩ := cf
  obtain ⟨hx, hb, hown, hts, hK, hlk, hA, hin, hRc, hRs, hfr, hlo, hNW⟩ := C
  dsimp only at hp
  subst hp
  have hd := okI_dec hi
  dsimp only at hd
  unfold okI at hi
  rw [Bool.and_eq_true] at hi
  have hi := hi.2
  dsimp only at hi
  intro ad H locs ls k n hn0 had hP hD hS hl hk hn
  cases I with
  | iconst n9 =>
    dsimp only [astp] at he
    cases he
    rw [Bool.and_eq_true] at hi
    obtain ⟨h1, h2⟩ := hi
    have h1 := of_decide_eq_true h1
    subst h1
    split at h2
    · exact lv_iconst hx hb hd (of_decide_eq_true h2) (kk ad H locs ls k n hn0 had hP hD hS hl hk hn)
    · cases h2
  | bipush n9 =>
    dsimp only [astp] at he
    cases he
    rw [Bool.and_eq_true] at hi
    obtain ⟨h1, h2⟩ := hi
    have h1 := of_decide_eq_true h1
    subst h1
    split at h2
    · exact lv_bipush hx hb hd (of_decide_eq_true h2) (kk ad H locs ls k n hn0 had hP hD hS hl hk hn)
    · cases h2
  | sipush n9 =>
    dsimp only [astp] at he
    cases he
    rw [Bool.and_eq_true] at hi
    obtain ⟨h1, h2⟩ := hi
    have h1 := of_decide_eq_true h1
    subst h1
    split at h2
    · exact lv_sipush hx hb hd (of_decide_eq_true h2) (kk ad H locs ls k n hn0 had hP hD hS hl hk hn)
    · cases h2
  | lconst n9 =>
    dsimp only [astp] at he
    cases he
    rw [Bool.and_eq_true] at hi
    obtain ⟨h1, h2⟩ := hi
    have h1 := of_decide_eq_true h1
    subst h1
    split at h2
    · exact lv_lconst hx hb hd (of_decide_eq_true h2) (kk ad H locs ls k n hn0 had hP hD hS hl hk hn)
    · cases h2
  | ldc n9 =>
    dsimp only [astp] at he
    cases he
    rw [Bool.and_eq_true] at hi
    obtain ⟨h1, h2⟩ := hi
    have h1 := of_decide_eq_true h1
    subst h1
    split at h2
    · exact lv_ldc hx hb hown (hts _ (List.mem_of_getElem? (of_decide_eq_true h2))) hd (kk ad H locs ls k n hn0 had hP hD hS hl hk hn)
    · cases h2
  | ldc_w n9 =>
    dsimp only [astp] at he
    cases he
    rw [Bool.and_eq_true] at hi
    obtain ⟨h1, h2⟩ := hi
    have h1 := of_decide_eq_true h1
    subst h1
    split at h2
    · exact lv_ldcw hx hb hown (hts _ (List.mem_of_getElem? (of_decide_eq_true h2))) hd (kk ad H locs ls k n hn0 had hP hD hS hl hk hn)
    · cases h2
  | ldc2_w n9 =>
    dsimp only [astp] at he
    cases he
    rw [Bool.and_eq_true] at hi
    obtain ⟨h1, h2⟩ := hi
    have h1 := of_decide_eq_true h1
    subst h1
    split at h2
    · exact lv_ldc2 hx hb hown (hts _ (List.mem_of_getElem? (of_decide_eq_true h2))) hd (kk ad H locs ls k n hn0 had hP hD hS hl hk hn)
    · cases h2
  | iload i9 =>
    dsimp only [astp] at he
    rw [Bool.and_eq_true] at hi
    have h1 := of_decide_eq_true hi.1
    have h2 := of_decide_eq_true hi.2
    subst h1
    subst h2
    split at he
    · rename_i x hx1
      cases he
      exact lv_iload hx hb hd (hl.2.2.2 _ _ hx1) (kk ad H locs ls k n hn0 had hP hD hS hl hk hn)
    · cases he
  | lload i9 =>
    dsimp only [astp] at he
    rw [Bool.and_eq_true] at hi
    have h1 := of_decide_eq_true hi.1
    have h2 := of_decide_eq_true hi.2
    subst h1
    subst h2
    split at he
    · rename_i x hx1
      cases he
      exact lv_lload hx hb hd (hl.2.2.2 _ _ hx1) (kk ad H locs ls k n hn0 had hP hD hS hl hk hn)
    · cases he
  | iload_n i9 =>
    dsimp only [astp] at he
    rw [Bool.and_eq_true] at hi
    have h1 := of_decide_eq_true hi.1
    have h2 := of_decide_eq_true hi.2
    subst h2
    split at he
    · rename_i x hx1
      cases he
      exact lv_iload_n hx hb hd h1 (hl.2.2.2 _ _ hx1) (kk ad H locs ls k n hn0 had hP hD hS hl hk hn)
    · cases he
  | lload_n i9 =>
    dsimp only [astp] at he
    rw [Bool.and_eq_true] at hi
    have h1 := of_decide_eq_true hi.1
    have h2 := of_decide_eq_true hi.2
    subst h2
    split at he
    · rename_i x hx1
      cases he
      exact lv_lload_n hx hb hd h1 (hl.2.2.2 _ _ hx1) (kk ad H locs ls k n hn0 had hP hD hS hl hk hn)
    · cases he
  | aload_n i9 =>
    dsimp only [astp] at he
    rw [Bool.and_eq_true] at hi
    have h1 := of_decide_eq_true hi.1
    have h2 := of_decide_eq_true hi.2
    subst h2
    split at he
    · rename_i x hx1
      cases he
      exact lv_aload_n hx hb hd h1 (hl.2.2.2 _ _ hx1) (kk ad H locs ls k n hn0 had hP hD hS hl hk hn)
    · cases he
  | istore i9 =>
    dsimp only [astp] at he
    rw [Bool.and_eq_true] at hi
    have h1 := of_decide_eq_true hi.1
    have h2 := of_decide_eq_true hi.2
    subst h2
    subst h1
    split at he
    · rename_i x st
      split at he
      · rename_i o ho
        cases he
        have hlt : i9 < c.maxLocals := by rw [← hl.1]; exact (List.getElem?_eq_some_iff.mp ho).1
        exact lv_istore hx hb hd (LH_has hl) hlt rfl (fun ls' h' => kk ad H locs ls' k n hn0 had hP hD hS (LH_store1 (v := .int x) hl hlt h') hk hn)
      · cases he
    · cases he
  | istore_n i9 =>
    dsimp only [astp] at he
    rw [Bool.and_eq_true] at hi
    have h1 := of_decide_eq_true hi.1
    have h2 := of_decide_eq_true hi.2
    subst h2
    split at he
    · rename_i x st
      split at he
      · rename_i o ho
        cases he
        have hlt : r1 < c.maxLocals := by rw [← hl.1]; exact (List.getElem?_eq_some_iff.mp ho).1
        exact lv_istore_n hx hb hd h1 (LH_has hl) hlt rfl (fun ls' h' => kk ad H locs ls' k n hn0 had hP hD hS (LH_store1 (v := .int x) hl hlt h') hk hn)
      · cases he
    · cases he
  | astore_n i9 =>
    dsimp only [astp] at he
    rw [Bool.and_eq_true] at hi
    have h1 := of_decide_eq_true hi.1
    have h2 := of_decide_eq_true hi.2
    subst h2
    split at he
    · rename_i x st
      split at he
      · rename_i o ho
        cases he
        have hlt : r1 < c.maxLocals := by rw [← hl.1]; exact (List.getElem?_eq_some_iff.mp ho).1
        exact lv_astore_n hx hb hd h1 (LH_has hl) hlt rfl (fun ls' h' => kk ad H locs ls' k n hn0 had hP hD hS (LH_store1 (v := .ref x) hl hlt h') hk hn)
      · cases he
    · cases he
  | lstore i9 =>
    dsimp only [astp] at he
    rw [Bool.and_eq_true] at hi
    have h1 := of_decide_eq_true hi.1
    have h2 := of_decide_eq_true hi.2
    subst h2
    subst h1
    split at he
    · rename_i x st
      split at he
      · rename_i o ho
        cases he
        have hlt : i9 + 1 < c.maxLocals := by rw [← hl.1]; exact (List.getElem?_eq_some_iff.mp ho).1
        exact lv_lstore hx hb hd (LH_has hl) hlt rfl (fun ls' h' => kk ad H locs ls' k n hn0 had hP hD hS (LH_store2 (v := .long x) hl hlt h') hk hn)
      · cases he
    · cases he
  | lstore_n i9 =>
    dsimp only [astp] at he
    rw [Bool.and_eq_true] at hi
    have h1 := of_decide_eq_true hi.1
    have h2 := of_decide_eq_true hi.2
    subst h2
    split at he
    · rename_i x st
      split at he
      · rename_i o ho
        cases he
        have hlt : r1 + 1 < c.maxLocals := by rw [← hl.1]; exact (List.getElem?_eq_some_iff.mp ho).1
        exact lv_lstore_n hx hb hd h1 (LH_has hl) hlt rfl (fun ls' h' => kk ad H locs ls' k n hn0 had hP hD hS (LH_store2 (v := .long x) hl hlt h') hk hn)
      · cases he
    · cases he
  | iinc i9 n9 =>
    dsimp only [astp] at he
    rw [Bool.and_eq_true, Bool.and_eq_true] at hi
    have h1 := of_decide_eq_true hi.1.1
    have h2 := of_decide_eq_true hi.1.2
    have h3 := hi.2
    subst h1
    subst h2
    split at he
    · rename_i x y hx1 hi9
      cases he
      have h3 := of_decide_eq_true h3
      have hlt : i9 < c.maxLocals := by rw [← hl.1]; exact (List.getElem?_eq_some_iff.mp hx1).1
      obtain ⟨j, hj⟩ := List.getElem?_of_mem (lvp_mem.mpr ⟨_, hx1, rfl⟩ : (i9, cV ad (.int x)) ∈ lvp ad vs)
      exact lv_iinc (k := j) (v := x + y) hx hb hd (LH_has hl) hj (by rw [h3]) hlt rfl (fun ls' h' => kk ad H locs ls' k n hn0 had hP hD hS (LH_store1 (v := .int (x + y)) hl hlt h') hk hn)
    · cases he
  | iadd =>
    dsimp only [astp] at he
    have h1 := of_decide_eq_true hi
    subst h1
    split at he
    · cases he
      exact lv_iadd hx hb hd (kk ad H locs ls k n hn0 had hP hD hS hl hk hn)
    · cases he
  | isub =>
    dsimp only [astp] at he
    have h1 := of_decide_eq_true hi
    subst h1
    split at he
    · cases he
      exact lv_isub hx hb hd (kk ad H locs ls k n hn0 had hP hD hS hl hk hn)
    · cases he
  | imul =>
    dsimp only [astp] at he
    have h1 := of_decide_eq_true hi
    subst h1
    split at he
    · cases he
      exact lv_imul hx hb hd (kk ad H locs ls k n hn0 had hP hD hS hl hk hn)
    · cases he
  | iand =>
    dsimp only [astp] at he
    have h1 := of_decide_eq_true hi
    subst h1
    split at he
    · cases he
      exact lv_iand hx hb hd (kk ad H locs ls k n hn0 had hP hD hS hl hk hn)
    · cases he
  | ior =>
    dsimp only [astp] at he
    have h1 := of_decide_eq_true hi
    subst h1
    split at he
    · cases he
      exact lv_ior hx hb hd (kk ad H locs ls k n hn0 had hP hD hS hl hk hn)
    · cases he
  | ixor =>
    dsimp only [astp] at he
    have h1 := of_decide_eq_true hi
    subst h1
    split at he
    · cases he
      exact lv_ixor hx hb hd (kk ad H locs ls k n hn0 had hP hD hS hl hk hn)
    · cases he
  | ishl =>
    dsimp only [astp] at he
    have h1 := of_decide_eq_true hi
    subst h1
    split at he
    · cases he
      exact lv_ishl hx hb hd (kk ad H locs ls k n hn0 had hP hD hS hl hk hn)
    · cases he
  | ishr =>
    dsimp only [astp] at he
    have h1 := of_decide_eq_true hi
    subst h1
    split at he
    · cases he
      exact lv_ishr hx hb hd (kk ad H locs ls k n hn0 had hP hD hS hl hk hn)
    · cases he
  | ladd =>
    dsimp only [astp] at he
    have h1 := of_decide_eq_true hi
    subst h1
    split at he
    · cases he
      exact lv_ladd hx hb hd (kk ad H locs ls k n hn0 had hP hD hS hl hk hn)
    · cases he
  | lmul =>
    dsimp only [astp] at he
    have h1 := of_decide_eq_true hi
    subst h1
    split at he
    · cases he
      exact lv_lmul hx hb hd (kk ad H locs ls k n hn0 had hP hD hS hl hk hn)
    · cases he
  | land =>
    dsimp only [astp] at he
    have h1 := of_decide_eq_true hi
    subst h1
    split at he
    · cases he
      exact lv_land hx hb hd (kk ad H locs ls k n hn0 had hP hD hS hl hk hn)
    · cases he
  | idiv =>
    dsimp only [astp] at he
    have h1 := of_decide_eq_true hi
    subst h1
    split at he
    · cases he
      exact lv_idiv hx hb hd (hg _ List.mem_cons_self) (kk ad H locs ls k n hn0 had hP hD hS hl hk hn)
    · cases he
  | irem =>
    dsimp only [astp] at he
    have h1 := of_decide_eq_true hi
    subst h1
    split at he
    · cases he
      exact lv_irem hx hb hd (hg _ List.mem_cons_self) (kk ad H locs ls k n hn0 had hP hD hS hl hk hn)
    · cases he
  | ldiv =>
    dsimp only [astp] at he
    have h1 := of_decide_eq_true hi
    subst h1
    split at he
    · cases he
      exact lv_ldiv hx hb hd (hg _ List.mem_cons_self) (kk ad H locs ls k n hn0 had hP hD hS hl hk hn)
    · cases he
  | lrem =>
    dsimp only [astp] at he
    have h1 := of_decide_eq_true hi
    subst h1
    split at he
    · cases he
      exact lv_lrem hx hb hd (hg _ List.mem_cons_self) (kk ad H locs ls k n hn0 had hP hD hS hl hk hn)
    · cases he
  | iushr =>
    dsimp only [astp] at he
    have h1 := of_decide_eq_true hi
    subst h1
    split at he
    · cases he
      exact lv_iushr hx hb hd rfl (kk ad H locs ls k n hn0 had hP hD hS hl hk hn)
    · cases he
  | lshr =>
    dsimp only [astp] at he
    have h1 := of_decide_eq_true hi
    subst h1
    split at he
    · cases he
      exact lv_lshr hx hb hd rfl (kk ad H locs ls k n hn0 had hP hD hS hl hk hn)
    · cases he
  | lcmp =>
    dsimp only [astp] at he
    have h1 := of_decide_eq_true hi
    subst h1
    split at he
    · cases he
      exact W.lcmp hx hb hd (kk ad H locs ls k n hn0 had hP hD hS hl hk hn)
    · cases he
  | i2l =>
    dsimp only [astp] at he
    have h1 := of_decide_eq_true hi
    subst h1
    split at he
    · cases he
      exact lv_i2l hx hb hd rfl (kk ad H locs ls k n hn0 had hP hD hS hl hk hn)
    · cases he
  | l2i =>
    dsimp only [astp] at he
    have h1 := of_decide_eq_true hi
    subst h1
    split at he
    · cases he
      exact lv_l2i hx hb hd rfl (kk ad H locs ls k n hn0 had hP hD hS hl hk hn)
    · cases he
  | i2b =>
    dsimp only [astp] at he
    have h1 := of_decide_eq_true hi
    subst h1
    split at he
    · cases he
      exact lv_i2b hx hb hd rfl (kk ad H locs ls k n hn0 had hP hD hS hl hk hn)
    · cases he
  | dup =>
    dsimp only [astp] at he
    have h1 := of_decide_eq_true hi
    subst h1
    split at he
    · cases he
      exact lv_dup hx hb hd rfl (kk ad H locs ls k n hn0 had hP hD hS hl hk hn)
    · cases he
      exact lv_dup hx hb hd rfl (kk ad H locs ls k n hn0 had hP hD hS hl hk hn)
    · cases he
  | dup2 =>
    dsimp only [astp] at he
    have h1 := of_decide_eq_true hi
    subst h1
    split at he
    · cases he
      exact lv_dup2_11 hx hb hd rfl rfl (kk ad H locs ls k n hn0 had hP hD hS hl hk hn)
    · cases he
  | pop =>
    dsimp only [astp] at he
    have h1 := of_decide_eq_true hi
    subst h1
    split at he
    · cases he
      exact lv_pop hx hb hd rfl (kk ad H locs ls k n hn0 had hP hD hS hl hk hn)
    · cases he
      exact lv_pop hx hb hd rfl (kk ad H locs ls k n hn0 had hP hD hS hl hk hn)
    · cases he
  | goto o9 =>
    dsimp only [astp] at he
    cases he
    rw [Bool.and_eq_true] at hi
    have h1 := of_decide_eq_true hi.1
    have h2 := of_decide_eq_true hi.2
    subst h2
    exact lv_goto hx hb hd h1 (kk ad H locs ls k n hn0 had hP hD hS hl hk hn)
  | getfield i9 =>
    dsimp only [astp] at he
    rw [Bool.and_eq_true] at hi
    have h1 := of_decide_eq_true hi.1
    have h2 := hi.2
    subst h1
    split at he
    · rename_i o st
      split at he
      · rename_i ci fs ho
        split at he
        · rename_i v hc hv
          cases he
          have hc := Nat.eq_of_beq_eq_true hc
          subst hc
          split at h2
          · rename_i q hq
            obtain ⟨C0, T0, N0⟩ := q
            rw [Bool.and_eq_true] at h2
            exact va_get (D := D) (ci := ci) (C := C0) (T := T0) (N := N0) hx hb hts (CL_in _ _ _ _ hq) hown hK hP o (cW_get ho) hq r2 (of_decide_eq_true h2.1) (hts _ (List.mem_of_getElem? (of_decide_eq_true h2.2))) (fun _ z => z) (by rw [List.getElem?_map, hv]; rfl) hd (kk ad H locs ls k n hn0 had hP hD hS hl hk hn)
          · cases h2
        · cases he
      · cases he
    · cases he
  | putfield i9 =>
    dsimp only [astp] at he
    rw [Bool.and_eq_true] at hi
    have h1 := of_decide_eq_true hi.1
    have h2 := hi.2
    subst h1
    split at he
    · rename_i v o st
      split at he
      · rename_i ci fs ho
        have hPq := cW_get (ad := ad) (cA := cA) ho
        split at h2
        · rename_i q hq
          obtain ⟨C0, T0, N0⟩ := q
          obtain ⟨ty0, hty0, hnm0⟩ := CL_ty _ _ _ _ hq
          rw [Bool.and_eq_true, Bool.and_eq_true] at h2
          obtain ⟨⟨h21, h22⟩, h23⟩ := h2
          have h21 := of_decide_eq_true h21
          have h22 := hts _ (List.mem_of_getElem? (of_decide_eq_true h22))
          split at he
          · rename_i y x hc hv hi9
            cases he
            have hc := Nat.eq_of_beq_eq_true hc
            subst hc
            have hlt : r2 < (fs.map (cV ad)).length := by rw [List.length_map]; exact (List.getElem?_eq_some_iff.mp hv).1
            dsimp only [okP] at h23
            rw [Bool.and_eq_true] at h23
            have h24 := of_decide_eq_true h23.1
            have h25 := of_decide_eq_true h23.2
            refine va_put (D := D) (ci := ci) (v := cV ad (.int x)) (ty := .int) (C := C0) (T := T0) (N := N0) hx hb hts (CL_in _ _ _ _ hq) ty0 hty0 hnm0 hown hK hP hD hS o hPq hq r2 h21 h22 (fun _ z => z) h25 h24 rfl rfl hlt hd (fun H1 locs1 hP1 hD1 hS1 => ?_)
            rw [cE_fields, cW_set] at hP1 hD1
            exact kk ad H1 locs1 ls k n (by rw [List.length_set]; exact hn0) (by rw [List.length_set]; exact had) hP1 hD1 hS1 hl hk hn
          · rename_i y x hc hv hi9
            cases he
            have hc := Nat.eq_of_beq_eq_true hc
            subst hc
            have hlt : r2 < (fs.map (cV ad)).length := by rw [List.length_map]; exact (List.getElem?_eq_some_iff.mp hv).1
            dsimp only [okP] at h23
            rw [Bool.and_eq_true] at h23
            have h24 := of_decide_eq_true h23.1
            have h25 := of_decide_eq_true h23.2
            refine va_put (D := D) (ci := ci) (v := cV ad (.int x)) (ty := .boolean) (C := C0) (T := T0) (N := N0) hx hb hts (CL_in _ _ _ _ hq) ty0 hty0 hnm0 hown hK hP hD hS o hPq hq r2 h21 h22 (fun _ z => z) h25 h24 (hg _ List.mem_cons_self) (isZ_fits (hg _ List.mem_cons_self)) hlt hd (fun H1 locs1 hP1 hD1 hS1 => ?_)
            rw [cE_fields, cW_set] at hP1 hD1
            exact kk ad H1 locs1 ls k n (by rw [List.length_set]; exact hn0) (by rw [List.length_set]; exact had) hP1 hD1 hS1 hl hk hn
          · rename_i y x hc hv hi9
            cases he
            have hc := Nat.eq_of_beq_eq_true hc
            subst hc
            have hlt : r2 < (fs.map (cV ad)).length := by rw [List.length_map]; exact (List.getElem?_eq_some_iff.mp hv).1
            dsimp only [okP] at h23
            rw [Bool.and_eq_true] at h23
            obtain ⟨ty, h24, h26⟩ := isOT_spec h23.1 (ad x)
            have h25 := of_decide_eq_true h23.2
            refine va_put (D := D) (ci := ci) (v := cV ad (.ref x)) (ty := ty) (C := C0) (T := T0) (N := N0) hx hb hts (CL_in _ _ _ _ hq) ty0 hty0 hnm0 hown hK hP hD hS o hPq hq r2 h21 h22 (fun _ z => z) h25 h24 h26.1 h26.2 hlt hd (fun H1 locs1 hP1 hD1 hS1 => ?_)
            rw [cE_fields, cW_set] at hP1 hD1
            exact kk ad H1 locs1 ls k n (by rw [List.length_set]; exact hn0) (by rw [List.length_set]; exact had) hP1 hD1 hS1 hl hk hn
          · rename_i x hc hv hi9
            cases he
            have hc := Nat.eq_of_beq_eq_true hc
            subst hc
            have hlt : r2 < (fs.map (cV ad)).length := by rw [List.length_map]; exact (List.getElem?_eq_some_iff.mp hv).1
            dsimp only [okP] at h23
            rw [Bool.and_eq_true, Bool.and_eq_true, Bool.and_eq_true] at h23
            obtain ⟨ty, h24, h26⟩ := isOT_spec h23.1.1.1 (ad x)
            have h25 := of_decide_eq_true h23.1.1.2
            refine va_putF (D := D) (ci := ci) (v := cV ad (.ref x)) (ty := ty) (C := C0) (T := T0) (N := N0) hx hb hts (CL_in _ _ _ _ hq) ty0 hty0 hnm0 hown hK hP hD hS o hPq hq r2 h21 h22 (fun _ z => z) h25 (hin h23.1.2) (of_decide_eq_true h23.2) h24 h26.1 h26.2 hlt hd (fun H1 locs1 hP1 hD1 hS1 => ?_)
            rw [cE_fields, cW_set] at hP1 hD1
            exact kk ad H1 locs1 ls k n (by rw [List.length_set]; exact hn0) (by rw [List.length_set]; exact had) hP1 hD1 hS1 hl hk hn
          · cases he
        · cases h2
      · cases he
    · cases he
  | arraylength =>
    dsimp only [astp] at he
    have h1 := of_decide_eq_true hi
    subst h1
    split at he
    · rename_i a st
      split at he
      · rename_i nn x ha
        cases he
        exact va_alen hx hb hK hP a 0 (cW_get ha) rfl rfl hd (kk ad H locs ls k n hn0 had hP hD hS hl hk hn)
      · cases he
    · cases he
  | iaload =>
    dsimp only [astp] at he
    have h1 := of_decide_eq_true hi
    subst h1
    split at he
    · rename_i i a st
      split at he
      · rename_i nn f ha
        cases he
        exact va_iald hx hb hK hP a 0 (cW_get ha) rfl (hg _ List.mem_cons_self) hd (kk ad H locs ls k n hn0 had hP hD hS hl hk hn)
      · cases he
    · cases he
  | laload =>
    dsimp only [astp] at he
    have h1 := of_decide_eq_true hi
    subst h1
    split at he
    · rename_i i a st
      split at he
      · rename_i nn f ha
        cases he
        exact va_lald hx hb hK hP a 1 (cW_get ha) rfl (hg _ List.mem_cons_self) hd (kk ad H locs ls k n hn0 had hP hD hS hl hk hn)
      · cases he
    · cases he
  | baload =>
    dsimp only [astp] at he
    have h1 := of_decide_eq_true hi
    subst h1
    split at he
    · rename_i i a st
      split at he
      · rename_i nn f ha
        cases he
        exact va_bald hx hb hK hP a 2 (cW_get ha) rfl (hg _ List.mem_cons_self) hd (kk ad H locs ls k n hn0 had hP hD hS hl hk hn)
      · rename_i nn f ha
        cases he
        exact va_zald hx hb hK hP a 3 (cW_get ha) rfl (hg _ List.mem_cons_self) hd (kk ad H locs ls k n hn0 had hP hD hS hl hk hn)
      · cases he
    · cases he
  | iastore =>
    dsimp only [astp] at he
    have h1 := of_decide_eq_true hi
    subst h1
    split at he
    · rename_i x i a st
      split at he
      · rename_i nn f ha
        cases he
        refine va_iast hx hb hK hP hD hS a 0 (cW_get ha) rfl (hg _ List.mem_cons_self) hd (fun H1 locs1 hP1 hD1 hS1 => ?_)
        have e1 := cW_set ad cA h a (.inl (0, nn, .inl (upd f i.toNatClampNeg x)))
        refine kk ad H1 locs1 ls k n (by rw [List.length_set]; exact hn0) (by rw [List.length_set]; exact had) ?_ ?_ hS1 hl hk hn
        · rw [← e1]; exact hP1
        · rw [← e1]; exact hD1
      · cases he
    · cases he
  | lastore =>
    dsimp only [astp] at he
    have h1 := of_decide_eq_true hi
    subst h1
    split at he
    · rename_i x i a st
      split at he
      · rename_i nn f ha
        cases he
        refine va_last hx hb hK hP hD hS a 1 (cW_get ha) rfl (hg _ List.mem_cons_self) hd (fun H1 locs1 hP1 hD1 hS1 => ?_)
        have e1 := cW_set ad cA h a (.inl (1, nn, .inr (.inl (vp_updL f i.toNatClampNeg x))))
        refine kk ad H1 locs1 ls k n (by rw [List.length_set]; exact hn0) (by rw [List.length_set]; exact had) ?_ ?_ hS1 hl hk hn
        · rw [← e1]; exact hP1
        · rw [← e1]; exact hD1
      · cases he
    · cases he
  | bastore =>
    dsimp only [astp] at he
    have h1 := of_decide_eq_true hi
    subst h1
    split at he
    · rename_i x i a st
      split at he
      · rename_i nn f ha
        cases he
        refine va_bast hx hb hK hP hD hS a 2 (cW_get ha) rfl (hg _ List.mem_cons_self) hd (fun H1 locs1 hP1 hD1 hS1 => ?_)
        have e1 := cW_set ad cA h a (.inl (2, nn, .inl (upd f i.toNatClampNeg (vp_nar .byte x))))
        refine kk ad H1 locs1 ls k n (by rw [List.length_set]; exact hn0) (by rw [List.length_set]; exact had) ?_ ?_ hS1 hl hk hn
        · rw [← e1]; exact hP1
        · rw [← e1]; exact hD1
      · rename_i nn f ha
        cases he
        refine va_zast hx hb hK hP hD hS a 3 (cW_get ha) rfl (hg _ List.mem_cons_self) hd (fun H1 locs1 hP1 hD1 hS1 => ?_)
        have e1 := cW_set ad cA h a (.inl (3, nn, .inl (upd f i.toNatClampNeg (vp_nar .boolean x))))
        refine kk ad H1 locs1 ls k n (by rw [List.length_set]; exact hn0) (by rw [List.length_set]; exact had) ?_ ?_ hS1 hl hk hn
        · rw [← e1]; exact hP1
        · rw [← e1]; exact hD1
      · cases he
    · cases he
  | _ =>
    dsimp only [astp] at he
    cases he
end
section
/-! STRETCHES, BRANCHES, RETURNS, CONTRACTS -/
theorem MW_runL {X : CTX} {b : ByteArray} {own : String} {ini : Bool} {fr lo : Nat} (C : CX X b own ini fr lo) : ∀ (blk : List CI), (∀ ci ∈ blk, okI own ini b ci = true) → ∀ (cf cf' : AC) (gs : List Prop), brun blk cf = some (gs, cf') → (∀ g ∈ gs, g) → MW X cf' → MW X cf
  | [], _, cf, cf', gs, he, _, k => by cases he; exact k
  | i :: r, hb, cf, cf', gs, he, hg, k => by
    unfold brun at he
    split at he
    · cases he
    · rename_i hpc
      split at he
      · cases he
      · rename_i gs1 c1 h1
        split at he
        · cases he
        · rename_i gs2 c2 h2
          cases he
          exact MW_step C (hb i List.mem_cons_self) (Nat.eq_of_beq_eq_true hpc) h1 (fun g h => hg g (List.mem_append_left _ h)) (MW_runL C r (fun ci h => hb ci (List.mem_cons_of_mem _ h)) c1 cf' gs2 h2 (fun g h => hg g (List.mem_append_right _ h)) k)
theorem MW_run {X : CTX} {b : ByteArray} {own : String} {ini : Bool} {fr lo : Nat} (C : CX X b own ini fr lo) {tab : List CI} (ht : tab.all (okI own ini b) = true) (i n : Nat) {cf cf' : AC} {gs : List Prop} (he : brun ((tab.drop i).take n) cf = some (gs, cf')) (hg : AllP gs) (k : MW X cf') : MW X cf :=
  MW_runL C _ (fun ci h => List.all_eq_true.mp ht ci (List.mem_of_mem_drop (List.mem_of_mem_take h))) cf cf' gs he (AllP_all hg) k
/-- a branch: what is asked, whether 'yes' goes on straight, the rest of the stack -/
def bcnd : Instr → List Value → Option (Prop × Bool × List Value)
  | I, st => match I with
    | .if_icmp c _ => match st with
      | .int y :: .int x :: r => match c with
        | .eq => some (x = y, false, r)
        | .ne => some (x = y, true, r)
        | .lt => some (x < y, false, r)
        | .ge => some (x < y, true, r)
        | .gt => some (y < x, false, r)
        | .le => some (y < x, true, r)
      | _ => none
    | .ifCond c _ => match st with
      | .int x :: r => match c with
        | .eq => some (x = 0, false, r)
        | .ne => some (x = 0, true, r)
        | .lt => some (x < 0, false, r)
        | .ge => some (x < 0, true, r)
        | .gt => some (0 < x, false, r)
        | .le => some (0 < x, true, r)
      | _ => none
    | _ => none
theorem i_nlt {x y : Int32} (h : ¬ x < y) : y ≤ x := Int32.not_lt.mp h
theorem i_nle {x y : Int32} (h : ¬ x ≤ y) : y < x := Int32.not_le.mp h
theorem i_ltn {x y : Int32} (h : y ≤ x) : ¬ x < y := Int32.not_lt.mpr h
theorem MW_br {X : CTX} {b : ByteArray} {own : String} {ini : Bool} {fr lo : Nat} (C : CX X b own ini fr lo) {tab : List CI} (ht : tab.all (okI own ini b) = true) (i : Nat) {pc tgt : Nat} {vs : List (Option Value)} {st r : List Value} {h : AH} {bk bn : Nat} {I : Instr} {r2 r3 : Nat} {cv : Value} {P : Prop} {sw : Bool}
    (hc : tab[i]? = some (pc, 3, I, tgt, r2, r3, cv)) (hb : bcnd I st = some (P, sw, r)) (kt : P → MW X (bif sw then pc + 3 else tgt, vs, r, h, bk, bn)) (kf : ¬ P → MW X (bif sw then tgt else pc + 3, vs, r, h, bk, bn)) : MW X (pc, vs, st, h, bk, bn) := by
  have hi : okI own ini b (pc, 3, I, tgt, r2, r3, cv) = true := List.all_eq_true.mp ht _ (List.mem_of_getElem? hc)
  obtain ⟨p, l, e, R, s, m, args, below, meth, c, D, cA, ad0, n0, A, mc, ms, Q⟩ := X
  obtain ⟨hx, hcb, hown, hts, hK, hlk, hA, hin, hRc, hRs, hfr, hlo, hNW⟩ := C
  have hd := okI_dec hi
  dsimp only at hd
  unfold okI at hi
  rw [Bool.and_eq_true] at hi
  have hi := hi.2
  dsimp only at hi
  intro ad H locs ls k n hn0 had hP hD hS hl hk hn
  cases I with
  | if_icmp cc off =>
    dsimp only at hi
    rw [Bool.and_eq_true] at hi
    have htg := of_decide_eq_true hi.1
    dsimp only [bcnd] at hb
    split at hb
    · rename_i y x r
      cases cc <;> (dsimp only at hb; cases hb)
      · exact lv_icmp_eq hx hcb hd htg (fun q => kt q ad H locs ls k n hn0 had hP hD hS hl hk hn) (fun q => kf q ad H locs ls k n hn0 had hP hD hS hl hk hn)
      · exact lv_icmp_ne hx hcb hd htg (fun q => kf q ad H locs ls k n hn0 had hP hD hS hl hk hn) (fun q => kt q ad H locs ls k n hn0 had hP hD hS hl hk hn)
      · exact lv_icmp_lt hx hcb hd htg (fun q => kt q ad H locs ls k n hn0 had hP hD hS hl hk hn) (fun q => kf q ad H locs ls k n hn0 had hP hD hS hl hk hn)
      · exact lv_icmp_ge hx hcb hd htg (fun q => kf (i_ltn q) ad H locs ls k n hn0 had hP hD hS hl hk hn) (fun q => kt (i_nle q) ad H locs ls k n hn0 had hP hD hS hl hk hn)
      · exact lv_icmp_gt hx hcb hd htg (fun q => kt q ad H locs ls k n hn0 had hP hD hS hl hk hn) (fun q => kf q ad H locs ls k n hn0 had hP hD hS hl hk hn)
      · exact lv_icmp_le hx hcb hd htg (fun q => kf (i_ltn q) ad H locs ls k n hn0 had hP hD hS hl hk hn) (fun q => kt (i_nle q) ad H locs ls k n hn0 had hP hD hS hl hk hn)
    · cases hb
  | ifCond cc off =>
    dsimp only at hi
    rw [Bool.and_eq_true] at hi
    have htg := of_decide_eq_true hi.1
    dsimp only [bcnd] at hb
    split at hb
    · rename_i x r
      cases cc <;> (dsimp only at hb; cases hb)
      · exact lv_if_eq hx hcb hd htg (fun q => kt q ad H locs ls k n hn0 had hP hD hS hl hk hn) (fun q => kf q ad H locs ls k n hn0 had hP hD hS hl hk hn)
      · exact lv_if_ne hx hcb hd htg (fun q => kf q ad H locs ls k n hn0 had hP hD hS hl hk hn) (fun q => kt q ad H locs ls k n hn0 had hP hD hS hl hk hn)
      · exact lv_if_lt hx hcb hd htg (fun q => kt q ad H locs ls k n hn0 had hP hD hS hl hk hn) (fun q => kf q ad H locs ls k n hn0 had hP hD hS hl hk hn)
      · exact lv_if_ge hx hcb hd htg (fun q => kf (i_ltn q) ad H locs ls k n hn0 had hP hD hS hl hk hn) (fun q => kt (i_nle q) ad H locs ls k n hn0 had hP hD hS hl hk hn)
      · exact lv_if_gt hx hcb hd htg (fun q => kt q ad H locs ls k n hn0 had hP hD hS hl hk hn) (fun q => kf q ad H locs ls k n hn0 had hP hD hS hl hk hn)
      · exact lv_if_le hx hcb hd htg (fun q => kf (i_ltn q) ad H locs ls k n hn0 had hP hD hS hl hk hn) (fun q => kt (i_nle q) ad H locs ls k n hn0 had hP hD hS hl hk hn)
    · cases hb
  | _ => dsimp only [bcnd] at hb; cases hb
/-- fewer locals are said -/
def pick : List Bool → List (Option Value) → List (Option Value)
  | [], _ => []
  | _, [] => []
  | c :: cs, v :: vs => (bif c then v else none) :: pick cs vs
theorem pick_of : ∀ (cs : List Bool) (vs : List (Option Value)) (i : Nat) (v : Value), (pick cs vs)[i]? = some (some v) → vs[i]? = some (some v)
  | [], vs, i, v, h => by cases vs <;> simp [pick] at h
  | c :: cs, [], i, v, h => by simp [pick] at h
  | c :: cs, w :: vs, 0, v, h => by
    cases c <;> simp [pick] at h
    simp [h]
  | c :: cs, w :: vs, i + 1, v, h => by
    simp [pick] at h
    simpa using pick_of cs vs i v h
theorem pick_len : ∀ (cs : List Bool) (vs : List (Option Value)), cs.length = vs.length → (pick cs vs).length = vs.length
  | [], [], _ => rfl
  | [], w :: vs, h => by cases h
  | c :: cs, [], h => by cases h
  | c :: cs, w :: vs, h => by simp [pick, pick_len cs vs (by simpa using h)]
theorem MW_pick {X : CTX} {pc : Nat} {vs vs' : List (Option Value)} {st : List Value} {h : AH} {bk bn : Nat} (cs : List Bool) (hl : cs.length = vs.length) (he : pick cs vs = vs') (k : MW X (pc, vs', st, h, bk, bn)) : MW X (pc, vs, st, h, bk, bn) := by
  subst he
  obtain ⟨p, l, e, R, s, m, args, below, meth, c, D, cA, ad0, n0, A, mc, ms, Q⟩ := X
  intro ad H locs ls kk n hn0 had hP hD hS hL hk hn
  exact k ad H locs ls kk n hn0 had hP hD hS ⟨by rw [pick_len cs vs hl]; exact hL.1, hL.2.1, hL.2.2.1, fun i v hv => hL.2.2.2 i v (pick_of cs vs i v hv)⟩ hk hn
theorem MW_eq {X : CTX} {cf cf' : AC} (e : cf = cf') (k : MW X cf') : MW X cf := e ▸ k
/-- the end of a method: its answer and the cells as K says -/
def QK (D : va_G) (cA : Nat → ClassId) (n0 : Nat) (ad0 : Nat → Nat) (A : Nat → Prop) (K : Option Value → AH → Prop) : Array Value → State → Outcome → State → Prop := fun _ st o t =>
  (∃ (v : Option Value) (ad : Nat → Nat) (h : AH), o = .returned (v.map (cV ad)) ∧ (∀ i, i < n0 ∨ h.length ≤ i → ad i = ad0 i) ∧ n0 ≤ h.length ∧ K v h ∧ va_P D CL (cW ad cA h) t.heap ∧ va_K D CL (tysOf cA) t ∧ va_D A (cW ad cA h)) ∧ va_F A st t
end
section
/-! CONTRACTS: a method's start, its end, its calls -/
def RQ (X : CTX) (ret : Option FieldType) (K : Option Value → AH → Prop) : Prop :=
  match X with
  | (_, _, _, _, s, _, args, below, meth, _, D, cA, ad0, n0, A, mc, ms, Q) => meth.sig.returnType = ret ∧ Q = MQ below (QK D cA n0 ad0 A K) args s mc ms A
/-- the contract: from the cells h and the arguments as, the method ends, and K says how -/
def CT (y : MethodName) (b : ByteArray) (nL : Nat) (ret : Option FieldType) (fr lo mc ms : Nat) (as : List Value) (h : AH) (K : Option Value → AH → Prop) : Prop :=
  ∀ (l : Launch) (D : va_G) (cA : Nat → ClassId) (ad : Nat → Nat) (sz : Nat), Met l y (.code y b nL ret :: TG) { frames := fr, cells := mc, slots := ms, locals := lo }
    (va_Pc (as.map (cV ad)) (fun U => U.heap.size = sz ∧ va_P D CL (cW ad cA h) U.heap ∧ va_K D CL (tysOf cA) U ∧ va_D (fun _ => True) (cW ad cA h) ∧ ∀ w ∈ NW, va_Nw w U))
    (QK D cA h.length ad (va_A (cW ad cA h) sz) K) mc ms (va_A (cW ad cA h) sz)
def ent : List Value → List (Option Value)
  | [] => []
  | v :: r => match v with
    | .long x => some (.long x) :: none :: ent r
    | .double x => some (.double x) :: none :: ent r
    | v => some v :: ent r
theorem ent_of (ad : Nat → Nat) : ∀ (as : List Value) (i0 j : Nat) (v : Value), (ent as)[j]? = some (some v) → (i0 + j, cV ad v) ∈ lv_args i0 (as.map (cV ad))
  | [], i0, j, v, h => by simp [ent] at h
  | a :: r, i0, j, v, h => by
    cases a with
    | long x =>
      dsimp only [ent] at h
      match j, h with
      | 0, h => cases h; exact List.mem_cons_self
      | 1, h => cases h
      | j + 2, h =>
        have h1 := ent_of ad r (i0 + 2) j v (by simpa using h)
        rw [show i0 + (j + 2) = i0 + 2 + j by omega]
        exact List.mem_cons_of_mem _ h1
    | double x =>
      dsimp only [ent] at h
      match j, h with
      | 0, h => cases h; exact List.mem_cons_self
      | 1, h => cases h
      | j + 2, h =>
        have h1 := ent_of ad r (i0 + 2) j v (by simpa using h)
        rw [show i0 + (j + 2) = i0 + 2 + j by omega]
        exact List.mem_cons_of_mem _ h1
    | int x =>
      dsimp only [ent] at h
      match j, h with
      | 0, h => cases h; exact List.mem_cons_self
      | j + 1, h =>
        have h1 := ent_of ad r (i0 + 1) j v (by simpa using h)
        rw [show i0 + (j + 1) = i0 + 1 + j by omega]
        exact List.mem_cons_of_mem _ h1
    | ref x =>
      dsimp only [ent] at h
      match j, h with
      | 0, h => cases h; exact List.mem_cons_self
      | j + 1, h =>
        have h1 := ent_of ad r (i0 + 1) j v (by simpa using h)
        rw [show i0 + (j + 1) = i0 + 1 + j by omega]
        exact List.mem_cons_of_mem _ h1
    | float x =>
      dsimp only [ent] at h
      match j, h with
      | 0, h => cases h; exact List.mem_cons_self
      | j + 1, h =>
        have h1 := ent_of ad r (i0 + 1) j v (by simpa using h)
        rw [show i0 + (j + 1) = i0 + 1 + j by omega]
        exact List.mem_cons_of_mem _ h1
    | null =>
      dsimp only [ent] at h
      match j, h with
      | 0, h => cases h; exact List.mem_cons_self
      | j + 1, h =>
        have h1 := ent_of ad r (i0 + 1) j v (by simpa using h)
        rw [show i0 + (j + 1) = i0 + 1 + j by omega]
        exact List.mem_cons_of_mem _ h1
    | retAddr x =>
      dsimp only [ent] at h
      match j, h with
      | 0, h => cases h; exact List.mem_cons_self
      | j + 1, h =>
        have h1 := ent_of ad r (i0 + 1) j v (by simpa using h)
        rw [show i0 + (j + 1) = i0 + 1 + j by omega]
        exact List.mem_cons_of_mem _ h1
theorem lg_sl_len (ad : Nat → Nat) : ∀ as : List Value, (lg_sl (as.map (cV ad))).length = (ent as).length
  | [] => rfl
  | a :: r => by
    have ih := lg_sl_len ad r
    cases a <;> simp [lg_sl, ent, cV, Value.category] at ih ⊢ <;> simp [ih]
theorem CT_of {y : MethodName} {b : ByteArray} {nL : Nat} {ret : Option FieldType} {fr lo mc ms : Nat} {as : List Value} {h : AH} {K : Option Value → AH → Prop} (hy : plainName y.cls = true) {vs0 : List (Option Value)} (hvs : ent as ++ List.replicate (nL - (ent as).length) none = vs0) (hle : Nat.ble (ent as).length nL = true)
    (kk : ∀ X : CTX, CX X b y.cls (decide (y.name = "<init>")) fr lo → RQ X ret K → MW X (0, vs0, [], h, mc, ms)) : CT y b nL ret fr lo mc ms as h K := by
  intro l D cA ad sz
  refine Met.ofW (cc := b) (maxL := nL) (ret := ret) hy rfl ?_
  intro p e s m args below meth c s₁ B hml hv
  obtain ⟨rfl, hsz, hP, hK, hD0, hNW⟩ := hv
  subst hsz
  have hts := atoms_spec (ws := .code y b nL ret :: TG) B.pre
  have C : CX (p, l, e, { frames := fr, cells := mc, slots := ms, locals := lo }, s, m, (as.map (cV ad)).toArray, below, meth, c, D, cA, ad, h.length, va_A (cW ad cA h) s.heap.size, mc, ms, MQ below (QK D cA h.length ad (va_A (cW ad cA h) s.heap.size) K) (as.map (cV ad)).toArray s mc ms (va_A (cW ad cA h) s.heap.size)) b y.cls (decide (y.name = "<init>")) fr lo :=
    ⟨B.exec, B.bytes, findClass_of_methodNamed B.named, fun w hw => hts w (List.mem_cons_of_mem _ hw), hK, B.notSynchronized, fun q hq => Or.inr hq, fun hi => by rw [(name_of_methodNamed B.named B.method).1]; exact of_decide_eq_true hi, rfl, rfl, Nat.le_refl _, Nat.le_refl _, hNW⟩
  have hrq : RQ (p, l, e, { frames := fr, cells := mc, slots := ms, locals := lo }, s, m, (as.map (cV ad)).toArray, below, meth, c, D, cA, ad, h.length, va_A (cW ad cA h) s.heap.size, mc, ms, MQ below (QK D cA h.length ad (va_A (cW ad cA h) s.heap.size) K) (as.map (cV ad)).toArray s mc ms (va_A (cW ad cA h) s.heap.size)) ret K := ⟨B.returns, rfl⟩
  have hle := Nat.le_of_ble_eq_true hle
  have hl := lv_entry (as.map (cV ad)) (n := nL) (by rw [lg_sl_len]; exact hle)
  rw [lg_entry_eq]
  generalize hls : (lg_sl (as.map (cV ad)) ++ List.replicate (nL - (lg_sl (as.map (cV ad))).length) Slot.unset).toArray = ls at hl ⊢
  have hLH : LH ad c.maxLocals vs0 ls := by
    rw [hml, ← hvs]
    refine ⟨?_, hl.1, hl.2.1, fun i v hv => ?_⟩
    · rw [List.length_append, List.length_replicate]; omega
    · rw [List.getElem?_append] at hv
      split at hv
      · have h1 := ent_of ad as 0 i v hv
        rw [Nat.zero_add] at h1
        exact hl.2.2 _ h1
      · rw [List.getElem?_replicate] at hv
        split at hv <;> cases hv
  exact kk _ C hrq ad s.heap [] ls 0 0 (Nat.le_refl _) (fun _ _ => rfl) hP (hD0.self) va_S.rf hLH (by omega) (by omega)
section
variable {X : CTX} {b : ByteArray} {own : String} {ini : Bool} {fr lo : Nat} {tab : List CI} {pc : Nat} {vs : List (Option Value)} {h : AH} {bk bn : Nat} {K : Option Value → AH → Prop} {r1 r2 r3 : Nat} {cv : Value}
theorem MW_iret (C : CX X b own ini fr lo) (ht : tab.all (okI own ini b) = true) (hq : RQ X (some .int) K) (i : Nat) (hc : tab[i]? = some (pc, 1, .ireturn, r1, r2, r3, cv)) {v : Int32} (hk : K (some (.int v)) h) : MW X (pc, vs, [.int v], h, bk, bn) := by
  have hi : okI own ini b (pc, 1, .ireturn, r1, r2, r3, cv) = true := List.all_eq_true.mp ht _ (List.mem_of_getElem? hc)
  obtain ⟨p, l, e, R, s, m, args, below, meth, c, D, cA, ad0, n0, A, mc, ms, Q⟩ := X
  obtain ⟨hx, hcb, hown, hts, hK, hlk, hA, hin, hRc, hRs, hfr, hlo, hNW⟩ := C
  obtain ⟨hr, hQ⟩ := hq
  subst hQ
  have hd := okI_dec hi
  intro ad H locs ls k n hn0 had hP hD hS hl hk1 hn1
  refine W.widen (k := mc) (n := ms) (by omega) (by omega) ?_
  exact W.iret hx hcb hr (fun t ht hW => ⟨⟨some (.int v), ad, h, rfl, had, hn0, hk, by rw [ht]; exact hP, va_K.moved hW.alike hK, hD⟩, hS.F ht⟩) hS.2.2 hd hlk
theorem MW_zret (C : CX X b own ini fr lo) (ht : tab.all (okI own ini b) = true) (hq : RQ X (some .boolean) K) (i : Nat) (hc : tab[i]? = some (pc, 1, .ireturn, r1, r2, r3, cv)) {v : Int32} (hz : isZ v) (hk : K (some (.int v)) h) : MW X (pc, vs, [.int v], h, bk, bn) := by
  have hi : okI own ini b (pc, 1, .ireturn, r1, r2, r3, cv) = true := List.all_eq_true.mp ht _ (List.mem_of_getElem? hc)
  obtain ⟨p, l, e, R, s, m, args, below, meth, c, D, cA, ad0, n0, A, mc, ms, Q⟩ := X
  obtain ⟨hx, hcb, hown, hts, hK, hlk, hA, hin, hRc, hRs, hfr, hlo, hNW⟩ := C
  obtain ⟨hr, hQ⟩ := hq
  subst hQ
  have hd := okI_dec hi
  intro ad H locs ls k n hn0 had hP hD hS hl hk1 hn1
  refine W.widen (k := mc) (n := ms) (by omega) (by omega) ?_
  exact W.zret hx hcb hr hz (fun t ht hW => ⟨⟨some (.int v), ad, h, rfl, had, hn0, hk, by rw [ht]; exact hP, va_K.moved hW.alike hK, hD⟩, hS.F ht⟩) hS.2.2 hd hlk
theorem MW_lret (C : CX X b own ini fr lo) (ht : tab.all (okI own ini b) = true) (hq : RQ X (some .long) K) (i : Nat) (hc : tab[i]? = some (pc, 1, .lreturn, r1, r2, r3, cv)) {v : Int64} (hk : K (some (.long v)) h) : MW X (pc, vs, [.long v], h, bk, bn) := by
  have hi : okI own ini b (pc, 1, .lreturn, r1, r2, r3, cv) = true := List.all_eq_true.mp ht _ (List.mem_of_getElem? hc)
  obtain ⟨p, l, e, R, s, m, args, below, meth, c, D, cA, ad0, n0, A, mc, ms, Q⟩ := X
  obtain ⟨hx, hcb, hown, hts, hK, hlk, hA, hin, hRc, hRs, hfr, hlo, hNW⟩ := C
  obtain ⟨hr, hQ⟩ := hq
  subst hQ
  have hd := okI_dec hi
  intro ad H locs ls k n hn0 had hP hD hS hl hk1 hn1
  refine W.widen (k := mc) (n := ms) (by omega) (by omega) ?_
  exact W.lret hx hcb hr (fun t ht hW => ⟨⟨some (.long v), ad, h, rfl, had, hn0, hk, by rw [ht]; exact hP, va_K.moved hW.alike hK, hD⟩, hS.F ht⟩) hS.2.2 hd hlk
theorem MW_vret (C : CX X b own ini fr lo) (ht : tab.all (okI own ini b) = true) (hq : RQ X none K) (i : Nat) (hc : tab[i]? = some (pc, 1, .return_, r1, r2, r3, cv)) (hk : K none h) : MW X (pc, vs, [], h, bk, bn) := by
  have hi : okI own ini b (pc, 1, .return_, r1, r2, r3, cv) = true := List.all_eq_true.mp ht _ (List.mem_of_getElem? hc)
  obtain ⟨p, l, e, R, s, m, args, below, meth, c, D, cA, ad0, n0, A, mc, ms, Q⟩ := X
  obtain ⟨hx, hcb, hown, hts, hK, hlk, hA, hin, hRc, hRs, hfr, hlo, hNW⟩ := C
  obtain ⟨hr, hQ⟩ := hq
  subst hQ
  have hd := okI_dec hi
  intro ad H locs ls k n hn0 had hP hD hS hl hk1 hn1
  refine W.widen (k := mc) (n := ms) (by omega) (by omega) ?_
  exact W.vret hx hcb hr (fun t ht hW => ⟨⟨none, ad, h, rfl, had, hn0, hk, by rw [ht]; exact hP, va_K.moved hW.alike hK, hD⟩, hS.F ht⟩) hS.2.2 hd hlk
theorem MW_aret (C : CX X b own ini fr lo) (ht : tab.all (okI own ini b) = true) {ty : FieldType} (hq : RQ X (some ty) K) (hty : isOT (some ty) = true) (i : Nat) (hc : tab[i]? = some (pc, 1, .areturn, r1, r2, r3, cv)) {a : Nat} (hk : K (some (.ref a)) h) : MW X (pc, vs, [.ref a], h, bk, bn) := by
  have hi : okI own ini b (pc, 1, .areturn, r1, r2, r3, cv) = true := List.all_eq_true.mp ht _ (List.mem_of_getElem? hc)
  obtain ⟨p, l, e, R, s, m, args, below, meth, c, D, cA, ad0, n0, A, mc, ms, Q⟩ := X
  obtain ⟨hx, hcb, hown, hts, hK, hlk, hA, hin, hRc, hRs, hfr, hlo, hNW⟩ := C
  obtain ⟨hr, hQ⟩ := hq
  subst hQ
  have hd := okI_dec hi
  have hrt : (∃ n, ty = .object n) ∨ ∃ t, ty = .array t := by
    unfold isOT at hty
    split at hty
    · rename_i q e; cases e; exact Or.inl ⟨_, rfl⟩
    · rename_i q e; cases e; exact Or.inr ⟨_, rfl⟩
    · cases hty
  intro ad H locs ls k n hn0 had hP hD hS hl hk1 hn1
  refine W.widen (k := mc) (n := ms) (by omega) (by omega) ?_
  exact W.aret (v := .ref (ad a)) hx hcb hr hrt (Or.inr ⟨_, rfl⟩) (fun t ht hW => ⟨⟨some (.ref a), ad, h, rfl, had, hn0, hk, by rw [ht]; exact hP, va_K.moved hW.alike hK, hD⟩, hS.F ht⟩) hS.2.2 hd hlk
end
end
section
/-! CALLS: the callee's cells lie among the caller's -/
def rE (f : Nat → Nat) : AE → AE
  | .inl x => .inl x
  | .inr x => .inr (x.1, x.2.map (cV f))
theorem cV_comp {ad ad' f : Nat → Nat} (hf : ∀ r, ad (f r) = ad' r) (v : Value) : cV ad' v = cV ad (cV f v) := by cases v <;> simp [cV, hf]
theorem cE_comp {ad ad' f : Nat → Nat} (hf : ∀ r, ad (f r) = ad' r) (cA : Nat → ClassId) (e : AE) : cE ad' cA e = cE ad cA (rE f e) := by
  cases e with
  | inl x => rfl
  | inr x =>
    simp only [cE, rE, List.map_map]
    congr 2
    apply List.map_congr_left
    intro v _
    exact cV_comp hf v
/-- what of cs stands at place j, by the places is -/
def posAt : List Nat → AH → Nat → Option AE
  | i :: is, c :: cs, j => match Nat.beq i j with
    | true => some c
    | false => posAt is cs j
  | _, _, _ => none
theorem posAt_some : ∀ (is : List Nat) (cs : AH) (j : Nat) (c : AE), posAt is cs j = some c → ∃ i : Nat, is[i]? = some j ∧ cs[i]? = some c
  | [], cs, j, c, h => by cases h
  | i :: is, [], j, c, h => by cases h
  | i :: is, d :: cs, j, c, h => by
    unfold posAt at h
    split at h
    · rename_i hb
      have hb := Nat.eq_of_beq_eq_true hb
      cases h
      exact ⟨0, by simp [hb], rfl⟩
    · obtain ⟨k, h1, h2⟩ := posAt_some is cs j c h
      exact ⟨k + 1, by simpa using h1, by simpa using h2⟩
theorem posAt_none : ∀ (is : List Nat) (cs : AH) (j : Nat), is.length ≤ cs.length → posAt is cs j = none → j ∉ is
  | [], cs, j, _, h => by simp
  | i :: is, [], j, hl, h => by simp at hl
  | i :: is, d :: cs, j, hl, h => by
    unfold posAt at h
    split at h
    · cases h
    · rename_i hb
      have h1 := posAt_none is cs j (by simpa using hl) h
      have h2 : ¬ i = j := Nat.ne_of_beq_eq_false hb
      simp [h1]
      exact fun e => h2 e.symm
def jnA (f : Nat → Nat) (is : List Nat) (cs : AH) : Nat → AH → AH
  | _, [] => []
  | j, c :: r => (match posAt is cs j with
    | some d => rE f d
    | none => c) :: jnA f is cs (j + 1) r
theorem jnA_len (f : Nat → Nat) (is : List Nat) (cs : AH) : ∀ (j : Nat) (h : AH), (jnA f is cs j h).length = h.length
  | _, [] => rfl
  | j, c :: r => by rw [jnA, List.length_cons, jnA_len f is cs (j + 1) r, List.length_cons]
theorem jnA_get (f : Nat → Nat) (is : List Nat) (cs : AH) (hl : is.length ≤ cs.length) : ∀ (h : AH) (k j : Nat) (e : AE), (jnA f is cs k h)[j]? = some e → (∃ (i : Nat) (c : AE), is[i]? = some (k + j) ∧ cs[i]? = some c ∧ e = rE f c) ∨ (h[j]? = some e ∧ (k + j) ∉ is)
  | [], k, j, e, he => by simp [jnA] at he
  | c :: r, k, 0, e, he => by
    unfold jnA at he
    simp only [List.getElem?_cons_zero] at he
    have he := Option.some.inj he
    split at he
    · rename_i d hp
      obtain ⟨i, h1, h2⟩ := posAt_some is cs k d hp
      exact Or.inl ⟨i, d, h1, h2, he.symm⟩
    · rename_i hp
      exact Or.inr ⟨by simp [he], posAt_none is cs k hl hp⟩
  | c :: r, k, j + 1, e, he => by
    unfold jnA at he
    simp only [List.getElem?_cons_succ] at he
    rcases jnA_get f is cs hl r (k + 1) j e he with ⟨i, d, h1, h2⟩ | ⟨h1, h2⟩
    · exact Or.inl ⟨i, d, by rw [h1]; congr 1; omega, h2⟩
    · exact Or.inr ⟨by simpa using h1, by rw [show k + (j + 1) = k + 1 + j by omega]; exact h2⟩
/-- the callee's place r in the caller's cells -/
def rnF (rho : List Nat) (N : Nat) (r : Nat) : Nat := match rho[r]? with
  | some x => x
  | none => N + (r - rho.length)
/-- ++, under a name of its own -/
def apn : AH → AH → AH
  | [], b => b
  | a :: r, b => a :: apn r b
theorem apn_eq : ∀ a b : AH, apn a b = a ++ b
  | [], b => rfl
  | a :: r, b => by rw [apn, apn_eq r b]; rfl
def jn (h : AH) (rho : List Nat) (nc : Nat) (h' : AH) : AH := apn (jnA (rnF rho h.length) (rho.take nc) h' 0 h) ((h'.drop nc).map (rE (rnF rho h.length)))
theorem jn_len (h : AH) (rho : List Nat) (nc : Nat) (h' : AH) : (jn h rho nc h').length = h.length + (h'.length - nc) := by
  simp [jn, apn_eq, jnA_len]
theorem jn_get {h : AH} {rho : List Nat} {nc : Nat} {h' : AH} (hnc : nc ≤ h'.length) (hr : nc ≤ rho.length) (hnd : va_nd (rho.take nc) = true) (hal : h'.length = nc ∨ rho.length = nc) {j : Nat} {e : AE} (he : (jn h rho nc h')[j]? = some e) :
    (∃ i c, h'[i]? = some c ∧ j = rnF rho h.length i ∧ e = rE (rnF rho h.length) c) ∨ (h[j]? = some e ∧ j ∉ rho.take nc) := by
  unfold jn at he
  rw [apn_eq, List.getElem?_append] at he
  split at he
  · rcases jnA_get _ _ _ (by rw [List.length_take]; omega) h 0 j e he with ⟨i, c, h1, h2, h3⟩ | h1
    · refine Or.inl ⟨i, c, h2, ?_, h3⟩
      rw [List.getElem?_take] at h1
      split at h1
      · unfold rnF; rw [h1]; simp
      · simp at h1
    · rw [Nat.zero_add] at h1; exact Or.inr h1
  · rename_i hj
    rw [jnA_len] at hj he
    rw [List.getElem?_map, List.getElem?_drop] at he
    cases hc : h'[nc + (j - h.length)]? with
    | none => rw [hc] at he; cases he
    | some c =>
      rw [hc] at he
      refine Or.inl ⟨_, c, hc, ?_, (Option.some.inj he).symm⟩
      have hl := (List.getElem?_eq_some_iff.mp hc).1
      have hr2 : rho.length = nc := by rcases hal with h1 | h1 <;> omega
      unfold rnF
      rw [List.getElem?_eq_none (by omega)]
      simp only
      omega
/-- no reference beyond N, but those to things outside (1000 and on) -/
def refLt (N : Nat) : Value → Bool
  | .ref i => Nat.blt i N || Nat.ble 1000 i
  | _ => true
def allLt (N : Nat) : List Value → Bool
  | [] => true
  | v :: r => refLt N v && allLt N r
def allLtO (N : Nat) : List (Option Value) → Bool
  | [] => true
  | none :: r => allLtO N r
  | some v :: r => refLt N v && allLtO N r
def cellsLt (N : Nat) : AH → Bool
  | [] => true
  | .inl _ :: r => cellsLt N r
  | .inr x :: r => allLt N x.2 && cellsLt N r
theorem refLt_v {N : Nat} {v : Value} (h : refLt N v = true) {ad ad' : Nat → Nat} (ha : ∀ i, i < N ∨ 1000 ≤ i → ad' i = ad i) : cV ad' v = cV ad v := by
  cases v <;> simp [cV]
  exact ha _ (by simpa [refLt, Nat.blt_eq, Nat.ble_eq] using h)
theorem allLt_v : ∀ {N : Nat} {l : List Value}, allLt N l = true → ∀ {ad ad' : Nat → Nat}, (∀ i, i < N ∨ 1000 ≤ i → ad' i = ad i) → l.map (cV ad') = l.map (cV ad)
  | N, [], _, ad, ad', _ => rfl
  | N, v :: r, h, ad, ad', ha => by
    simp only [allLt, Bool.and_eq_true] at h
    rw [List.map_cons, List.map_cons, refLt_v h.1 ha, allLt_v h.2 ha]
theorem allLtO_v : ∀ {N : Nat} {l : List (Option Value)}, allLtO N l = true → ∀ {i : Nat} {v : Value}, l[i]? = some (some v) → refLt N v = true
  | N, [], _, i, v, h => by simp at h
  | N, none :: r, hl, 0, v, h => by simp at h
  | N, none :: r, hl, i + 1, v, h => allLtO_v (l := r) hl (by simpa using h)
  | N, some w :: r, hl, 0, v, h => by
    simp only [allLtO, Bool.and_eq_true] at hl
    simp at h
    subst h
    exact hl.1
  | N, some w :: r, hl, i + 1, v, h => by
    simp only [allLtO, Bool.and_eq_true] at hl
    exact allLtO_v (l := r) hl.2 (by simpa using h)
theorem cellsLt_v : ∀ {N : Nat} {h : AH}, cellsLt N h = true → ∀ {i : Nat} {e : AE}, h[i]? = some e → ∀ {ad ad' : Nat → Nat}, (∀ i, i < N ∨ 1000 ≤ i → ad' i = ad i) → ∀ cA, cE ad' cA e = cE ad cA e
  | N, [], _, i, e, he, ad, ad', _, cA => by simp at he
  | N, .inl x :: r, hl, 0, e, he, ad, ad', ha, cA => by simp at he; subst he; rfl
  | N, .inl x :: r, hl, i + 1, e, he, ad, ad', ha, cA => cellsLt_v (h := r) hl (by simpa using he) ha cA
  | N, .inr x :: r, hl, 0, e, he, ad, ad', ha, cA => by
    simp only [cellsLt, Bool.and_eq_true] at hl
    simp at he
    subst he
    simp only [cE]
    rw [allLt_v hl.1 ha]
  | N, .inr x :: r, hl, i + 1, e, he, ad, ad', ha, cA => by
    simp only [cellsLt, Bool.and_eq_true] at hl
    exact cellsLt_v (h := r) hl.2 (by simpa using he) ha cA
theorem jn_world {D : va_G} {cA : Nat → ClassId} {A : Nat → Prop} {ad ad' ad2 : Nat → Nat} {h hc h' : AH} {rho : List Nat} {H H1 : Heap}
    (hr : hc.length ≤ rho.length) (hnd : va_nd (rho.take hc.length) = true) (hnc : hc.length ≤ h'.length) (hal : h'.length = hc.length ∨ rho.length = hc.length)
    (hm : (rho.take hc.length).map (fun i => h[i]?) = hc.map (fun c => some (rE (rnF rho h.length) c)))
    (hP : va_P D CL (cW ad cA h) H) (hD : va_D A (cW ad cA h))
    (hk : ∀ q : Nat, q < H.size → ¬ va_A (cW (fun r => ad (rnF rho h.length r)) cA hc) H.size q → H1[q]? = H[q]?) (hF : ∀ q, va_A (cW (fun r => ad (rnF rho h.length r)) cA hc) H.size q → A q)
    (hP1 : va_P D CL (cW ad' cA h') H1) (hD1 : va_D (va_A (cW (fun r => ad (rnF rho h.length r)) cA hc) H.size) (cW ad' cA h'))
    (h2 : ∀ r, ad2 (rnF rho h.length r) = ad' r) (h3 : ∀ j, j < h.length → ad2 j = ad j) (h4 : ∀ (j : Nat) (e : AE), h[j]? = some e → cE ad2 cA e = cE ad cA e) :
    va_P D CL (cW ad2 cA (jn h rho hc.length h')) H1 ∧ va_D A (cW ad2 cA (jn h rho hc.length h')) := by
  have one : ∀ (k : Nat) (q : Nat × va_E), (cW ad2 cA (jn h rho hc.length h'))[k]? = some q → (∃ i c, h'[i]? = some c ∧ k = rnF rho h.length i ∧ q = (ad' i, cE ad' cA c)) ∨ (∃ e, h[k]? = some e ∧ k ∉ rho.take hc.length ∧ q = (ad k, cE ad cA e)) := by
    intro k q hq
    obtain ⟨e, he, hqe⟩ := cW_of hq
    rcases jn_get hnc hr hnd hal he with ⟨i, c, h5, h6, h7⟩ | ⟨h5, h6⟩
    · refine Or.inl ⟨i, c, h5, h6, ?_⟩
      rw [hqe, h6, h2, h7, ← cE_comp h2]
    · refine Or.inr ⟨e, h5, h6, ?_⟩
      rw [hqe, h3 k (List.getElem?_eq_some_iff.mp h5).1, h4 k e h5]
  have apart : ∀ (k : Nat) (e : AE), h[k]? = some e → k ∉ rho.take hc.length → ad k < H.size ∧ ¬ va_A (cW (fun r => ad (rnF rho h.length r)) cA hc) H.size (ad k) := by
    intro k e he hk2
    have hlt : ad k < H.size := (hP k _ (cW_get he)).lt
    refine ⟨hlt, fun hz => ?_⟩
    rcases hz with ⟨k3, e3, h5⟩ | h5
    · obtain ⟨c, hcc, hq⟩ := cW_of h5
      have e1 : ad k = ad (rnF rho h.length k3) := congrArg Prod.fst hq
      have hl3 := (List.getElem?_eq_some_iff.mp hcc).1
      have hx : ((rho.take hc.length).map (fun i => h[i]?))[k3]? = some (some (rE (rnF rho h.length) c)) := by rw [hm, List.getElem?_map, hcc]; rfl
      rw [List.getElem?_map] at hx
      cases hr3 : (rho.take hc.length)[k3]? with
      | none => rw [hr3] at hx; cases hx
      | some j =>
        rw [hr3] at hx
        have hj := Option.some.inj hx
        have hfj : rnF rho h.length k3 = j := by
          have hr4 := hr3
          rw [List.getElem?_take] at hr4
          split at hr4
          · unfold rnF; rw [hr4]
          · omega
        rw [hfj] at e1
        have : k = j := hD.1 k j _ _ (cW_get he) (cW_get hj) e1
        subst this
        exact hk2 (List.mem_of_getElem? hr3)
    · omega
  refine ⟨fun k q hq => ?_, fun i j p q hi hj hpq => ?_, fun k q hq => ?_⟩
  · rcases one k q hq with ⟨i, c, h5, -, h7⟩ | ⟨e, h5, h6, h7⟩
    · rw [h7]; exact hP1 i _ (cW_get h5)
    · rw [h7]
      obtain ⟨g1, g2⟩ := apart k e h5 h6
      exact (hP k _ (cW_get h5)).kept (hk _ g1 g2)
  · rcases one i p hi with ⟨i1, c1, a1, a2, a3⟩ | ⟨e1, a1, a2, a3⟩ <;> rcases one j q hj with ⟨i2, c2, b1, b2, b3⟩ | ⟨e2, b1, b2, b3⟩
    · have : i1 = i2 := hD1.1 i1 i2 _ _ (cW_get a1) (cW_get b1) (by rw [a3, b3] at hpq; exact hpq)
      rw [a2, b2, this]
    · exfalso
      have e : ad' i1 = ad j := by rw [a3, b3] at hpq; exact hpq
      exact (apart j e2 b1 b2).2 (by rw [← e]; exact hD1.2 i1 _ (cW_get a1))
    · exfalso
      have e : ad i = ad' i2 := by rw [a3, b3] at hpq; exact hpq
      exact (apart i e1 a1 a2).2 (by rw [e]; exact hD1.2 i2 _ (cW_get b1))
    · exact hD.1 i j _ _ (cW_get a1) (cW_get b1) (by rw [a3, b3] at hpq; exact hpq)
  · rcases one k q hq with ⟨i, c, h5, -, h7⟩ | ⟨e, h5, h6, h7⟩
    · rw [h7]; exact hF _ (hD1.2 i _ (cW_get h5))
    · rw [h7]; exact hD.2 k _ (cW_get h5)
end
section
/-! CALLS, row by row -/
theorem K_blind {D : va_G} {cA : Nat → ClassId} {ad : Nat → Nat} {sz : Nat} {as : List Value} {h : AH} : FrameBlind (va_Pc (as.map (cV ad)) (fun U => U.heap.size = sz ∧ va_P D CL (cW ad cA h) U.heap ∧ va_K D CL (tysOf cA) U ∧ va_D (fun _ => True) (cW ad cA h) ∧ ∀ w ∈ NW, va_Nw w U)) := by
  intro a U g mk hq
  obtain ⟨q0, q1, qP, qK, qD, qN⟩ := hq
  exact ⟨q0, q1, qP, va_K.moved (u := U) (U := U.calling g mk a) (Vm.Alike.refl U.vm) qK, qD, fun w hw => NW_same (s := U) hw rfl (qN w hw)⟩
/-- what the caller knows ahead of a call -/
theorem call_pre {D : va_G} {cA : Nat → ClassId} {A : Nat → Prop} {ad : Nat → Nat} {h hc : AH} {rho : List Nat} {H H0 : Heap} {locs : List Loc} (hS : va_S A H0 H locs) (hA : ∀ q, H0.size ≤ q → A q)
    (hr : hc.length ≤ rho.length) (hnd : va_nd (rho.take hc.length) = true) (hm : (rho.take hc.length).map (fun i => h[i]?) = hc.map (fun c => some (rE (rnF rho h.length) c)))
    (hP : va_P D CL (cW ad cA h) H) (hD : va_D A (cW ad cA h)) :
    va_P D CL (cW (fun r => ad (rnF rho h.length r)) cA hc) H ∧ va_D (fun _ => True) (cW (fun r => ad (rnF rho h.length r)) cA hc) ∧ ∀ q, va_A (cW (fun r => ad (rnF rho h.length r)) cA hc) H.size q → A q := by
  have key : ∀ (k : Nat) (q : Nat × va_E), (cW (fun r => ad (rnF rho h.length r)) cA hc)[k]? = some q → ∃ j, (rho.take hc.length)[k]? = some j ∧ (cW ad cA h)[j]? = some q := by
    intro k q hq
    obtain ⟨c, hcc, hqe⟩ := cW_of hq
    have hx : ((rho.take hc.length).map (fun i => h[i]?))[k]? = some (some (rE (rnF rho h.length) c)) := by rw [hm, List.getElem?_map, hcc]; rfl
    rw [List.getElem?_map] at hx
    cases hr3 : (rho.take hc.length)[k]? with
    | none => rw [hr3] at hx; cases hx
    | some j =>
      rw [hr3] at hx
      have hj := Option.some.inj hx
      refine ⟨j, rfl, ?_⟩
      rw [cW_get hj, hqe]
      have hfj : rnF rho h.length k = j := by
        have hr4 := hr3
        rw [List.getElem?_take] at hr4
        split at hr4
        · unfold rnF; rw [hr4]
        · have := (List.getElem?_eq_some_iff.mp hcc).1
          omega
      rw [hfj, ← cE_comp (ad := ad) (ad' := fun r => ad (rnF rho h.length r)) (f := rnF rho h.length) (fun _ => rfl)]
  refine ⟨fun k q hq => ?_, ⟨fun i j p q hi hj hpq => ?_, fun _ _ _ => trivial⟩, fun q hq => ?_⟩
  · obtain ⟨j, -, h2⟩ := key k q hq
    exact hP j q h2
  · obtain ⟨i1, a1, a2⟩ := key i p hi
    obtain ⟨j1, b1, b2⟩ := key j q hj
    have := hD.1 i1 j1 p q a2 b2 hpq
    subst this
    exact va_nd_inj _ hnd i j i1 a1 b1
  · rcases hq with ⟨k, e, hq⟩ | hq
    · obtain ⟨j, -, h2⟩ := key k (q, e) hq
      exact hD.2 j (q, e) h2
    · exact hA q (Nat.le_trans hS.1 hq)
theorem call_post {p : Program} {l : Launch} {e : Env} {R : Room} {s : State} {m : MethodId} {args : Array Value} {below : List Frame} {meth : Method} {c : Code} {D : va_G} {cA : Nat → ClassId} {ad0 : Nat → Nat} {n0 : Nat} {A : Nat → Prop} {mc ms : Nat} {Q : State → Prop}
    {pc : Nat} {vs : List (Option Value)} {rest st0 : List Value} {h hc : AH} {bk bn : Nat} {K : Option Value → AH → Prop} {rho : List Nat} {mc' ms' : Nat} {ad : Nat → Nat} {H : Heap} {locs : List Loc} {ls : Array Slot} {k n : Nat} {a : Array Value}
    (hr : hc.length ≤ rho.length) (hnd : va_nd (rho.take hc.length) = true) (hm : (rho.take hc.length).map (fun i => h[i]?) = hc.map (fun c => some (rE (rnF rho h.length) c)))
    (hal : ∀ v h', K v h' → h'.length = hc.length ∨ (rho.length = hc.length ∧ cellsLt h.length h = true ∧ allLtO h.length vs = true ∧ allLt h.length rest = true ∧ Nat.ble (h.length + (h'.length - hc.length)) 1000 = true))
    (hn0 : n0 ≤ h.length) (had : ∀ i, i < n0 ∨ h.length ≤ i → ad i = ad0 i) (hP : va_P D CL (cW ad cA h) H) (hD : va_D A (cW ad cA h)) (hS : va_S A s.heap H locs) (hl : LH ad c.maxLocals vs ls) (hk : k + (bk + mc') ≤ mc) (hn : n + (bn + ms') ≤ ms)
    (hF : ∀ q, va_A (cW (fun r => ad (rnF rho h.length r)) cA hc) H.size q → A q)
    (hrun : va_Run p l e R s m args below meth c H locs k n mc' ms' (F0 m pc ls st0) (rest.map (cV ad)) (QK D cA hc.length (fun r => ad (rnF rho h.length r)) (va_A (cW (fun r => ad (rnF rho h.length r)) cA hc) H.size) K a) (va_A (cW (fun r => ad (rnF rho h.length r)) cA hc) H.size))
    (kk : ∀ (v : Option Value) (h' : AH), K v h' → MW (p, l, e, R, s, m, args, below, meth, c, D, cA, ad0, n0, A, mc, ms, Q) (pc + 3, vs, v.toList.map (cV (rnF rho h.length)) ++ rest, jn h rho hc.length h', bk, bn)) :
    W p l e R s m args below meth c H locs k n Q (F0 m pc ls st0) := by
  intro T hT Xs
  obtain ⟨v, st₀, t, T', L, h0, X', hL, e1, e2, ⟨⟨v', ad', h', hv, hag, hlen, hKv, hP1, hK1, hD1⟩, hz, hkp⟩, st⟩ := hrun T hT Xs
  have hv : v = v'.map (cV ad') := by cases hv; rfl
  subst hv
  rw [h0] at hz hkp
  rw [← e1] at hz hkp hP1
  have hal1 := hal v' h' hKv
  -- the new places
  have hex : ∃ ad2 : Nat → Nat, (∀ r, ad2 (rnF rho h.length r) = ad' r) ∧ (∀ j, j < h.length → ad2 j = ad j) ∧ (∀ (j : Nat) (e : AE), h[j]? = some e → cE ad2 cA e = cE ad cA e) ∧ (∀ j, h.length + (h'.length - hc.length) ≤ j → ad2 j = ad j) ∧ LH ad2 c.maxLocals vs ls ∧ rest.map (cV ad2) = rest.map (cV ad) := by
    rcases hal1 with he | ⟨he, hc1, hc2, hc3, hc4⟩
    · refine ⟨ad, fun r => ?_, fun _ _ => rfl, fun _ _ _ => rfl, fun _ _ => rfl, hl, rfl⟩
      have := hag r (by omega)
      rw [this]
    · have hf : ∀ r, hc.length ≤ r → rnF rho h.length r = h.length + (r - hc.length) := fun r hr9 => by
        unfold rnF
        rw [List.getElem?_eq_none (by omega), he]
      have hlt : ∀ r, r < hc.length → rnF rho h.length r < h.length := fun r hr9 => by
        have hx : ((rho.take hc.length).map (fun i => h[i]?))[r]? = some (some (rE (rnF rho h.length) hc[r])) := by
          rw [hm, List.getElem?_map, List.getElem?_eq_getElem hr9]; rfl
        rw [List.getElem?_map] at hx
        cases hr3 : (rho.take hc.length)[r]? with
        | none => rw [hr3] at hx; cases hx
        | some j =>
          rw [hr3] at hx
          have hj := (List.getElem?_eq_some_iff.mp (Option.some.inj hx)).1
          rw [List.getElem?_take, if_pos hr9] at hr3
          unfold rnF; rw [hr3]; exact hj
      have hc4 := Nat.le_of_ble_eq_true hc4
      have hag2 : ∀ i, i < h.length ∨ 1000 ≤ i → (if i < h.length then ad i else ad' (hc.length + (i - h.length))) = ad i := fun i hi => by
        by_cases hlt9 : i < h.length
        · rw [if_pos hlt9]
        · rw [if_neg hlt9, hag _ (Or.inr (by omega))]
          show ad (rnF rho h.length (hc.length + (i - h.length))) = ad i
          rw [hf _ (by omega)]
          congr 1
          omega
      refine ⟨fun j => if j < h.length then ad j else ad' (hc.length + (j - h.length)), fun r => ?_, fun j hj => by simp [hj], fun j e0 he0 => cellsLt_v hc1 he0 hag2 cA, fun j hj => ?_, ?_, allLt_v hc3 hag2⟩
      · rcases Nat.lt_or_ge r hc.length with hr9 | hr9
        · simp only [hlt r hr9, if_true]
          exact (hag r (Or.inl hr9)).symm
        · rw [hf r hr9]
          have e3 : ¬ (h.length + (r - hc.length) < h.length) := by omega
          simp only [e3, if_false]
          congr 1
          omega
      · have e3 : ¬ j < h.length := by omega
        simp only [e3, if_false]
        rw [hag _ (Or.inr (by omega))]
        show ad (rnF rho h.length (hc.length + (j - h.length))) = ad j
        rw [hf _ (by omega)]
        congr 1
        omega
      · refine ⟨hl.1, hl.2.1, hl.2.2.1, fun i w hw => ?_⟩
        rw [refLt_v (ad := ad) (allLtO_v hc2 hw) hag2]
        exact hl.2.2.2 i w hw
  obtain ⟨ad2, g1, g2, g3, g4, g5, g6⟩ := hex
  obtain ⟨hP2, hD2⟩ := jn_world hr hnd hlen (by rcases hal1 with z | z; exact Or.inl z; exact Or.inr z.1) hm hP hD (fun q z1 z2 => hkp q z1 z2) hF hP1 hD1 g1 g2 g3
  have hS2 : va_S A s.heap T'.heap (locs ++ L) := ⟨Nat.le_trans hS.1 hz, fun q h1 h2 => by rw [hkp q (Nat.lt_of_lt_of_le h1 hS.1) (fun z => h2 (hF q z))]; exact hS.2.1 q h1 h2, fun q hq => by
      rcases List.mem_append.mp hq with z | z
      · exact hS.2.2 q z
      · exact hF _ (hL q z)⟩
  obtain ⟨t2, a1, b1⟩ := kk v' h' hKv ad2 T'.heap (locs ++ L) ls (k + mc') (n + ms') (by rw [jn_len]; omega) (fun i hi => by
      rw [jn_len] at hi
      rcases hi with z | z
      · rw [g2 i (by omega)]; exact had i (Or.inl z)
      · rw [g4 i z]; exact had i (Or.inr (by omega))) hP2 hD2 hS2 g5 (by omega) (by omega) T' rfl X'
  refine ⟨t2, st t2 ?_, b1⟩
  have hstk : List.map (cV ad2) (v'.toList.map (cV (rnF rho h.length)) ++ rest) = (v'.map (cV ad')).toList ++ rest.map (cV ad) := by
    rw [List.map_append, g6, List.map_map]
    congr 1
    cases v' with
    | none => rfl
    | some w => simp [cV_comp g1 w]
  rw [hstk] at a1
  exact a1

theorem stk_eq (ad f : Nat → Nat) (as rest : List Value) : List.map (cV ad) ((as.map (cV f)).reverse ++ rest) = (as.map (cV (fun r => ad (f r)))).reverse ++ rest.map (cV ad) := by
  rw [List.map_append, List.map_reverse, List.map_map]
  congr 2
  apply List.map_congr_left
  intro v _
  exact (cV_comp (ad := ad) (ad' := fun r => ad (f r)) (f := f) (fun _ => rfl) v).symm
theorem cat_eq {ad : Nat → Nat} {rest : List Value} (hrs : (rest.map fun v => v.category).sum ≤ 8) : ((rest.map (cV ad)).map fun v => v.category).sum ≤ 8 := by
  rw [List.map_map]
  have : (fun v => Value.category v) ∘ cV ad = fun v => v.category := by funext v; exact cV_cat ad v
  rw [this]; exact hrs
section
variable {X : CTX} {b : ByteArray} {own : String} {ini : Bool} {fr lo : Nat} {tab : List CI} {pc : Nat} {vs : List (Option Value)} {st : List Value} {h hc : AH} {bk bn bk' bn' : Nat} {K : Option Value → AH → Prop} {r1 r2 r3 index : Nat} {cv : Value} {y : MethodName} {by' : ByteArray} {nL' fr' lo' mc' ms' : Nat} {ret' : Option FieldType} {as : List Value} {rho : List Nat}
theorem pay_words {s U : State} {args a' : Array Value} (hts : ∀ w ∈ TG, w.before args s = true) (hcode : (Cond.code y by' nL' ret') ∈ TG) (hW : s.WarmedH U.vm) : ∀ w ∈ (Cond.code y by' nL' ret' :: TG), w.before a' U = true := fun w hw => by
  have hw2 : w ∈ TG := by
    rcases List.mem_cons.mp hw with e | e
    · rw [e]; exact hcode
    · exact e
  exact word_at hW (good_of_word (TG_good w hw2)) (hts w hw2)
theorem good_pay (hcode : (Cond.code y by' nL' ret') ∈ TG) : GoodIn TG (Cond.code y by' nL' ret' :: TG) := fun w hw => by
  have hw2 : w ∈ TG := by
    rcases List.mem_cons.mp hw with e | e
    · rw [e]; exact hcode
    · exact e
  exact ⟨hw2, good_of_word (TG_good w hw2)⟩
/-- a call of an instance method -/
theorem MW_callV (C : CX X b own ini fr lo) (ht : tab.all (okI own ini b) = true) (i : Nat) (hc0 : tab[i]? = some (pc, 3, .invokevirtual index, r1, r2, r3, cv)) (hCT : CT y by' nL' ret' fr' lo' mc' ms' as hc K)
    (hw : ∀ w ∈ [Cond.methodLink own index y, .instanceMethod y, .selects y.cls y y, .initialized y.cls, .code y by' nL' ret'], w ∈ TG) (n : Nat)
    (hd : (decide (y.cls ≠ "java/lang/invoke/MethodHandle") && decide (y.cls ≠ "java/lang/invoke/VarHandle") && decide ((parseMethodDescriptor y.desc).map (fun d => d.parameters.length) = some n)) = true)
    (hR : (Nat.ble (fr' + 1) fr && Nat.ble (8 + (nL' + 11) + lo') lo) = true)
    {rr ci : Nat} {q : vw_C} {fs : List Value} {As rest : List Value} (has : as = .ref rr :: As) (hlen : As.length = n) (hrecv : hc[rr]? = some (.inr (ci, fs))) (hcl : CL[ci]? = some q) (hqy : q.1 = y.cls)
    (hst : st = (as.map (cV (rnF rho h.length))).reverse ++ rest) (hrs : Nat.ble (rest.map fun v => v.category).sum 8 = true)
    (hr : Nat.ble hc.length rho.length = true) (hnd : va_nd (rho.take hc.length) = true) (hm : (rho.take hc.length).map (fun i => h[i]?) = hc.map (fun c => some (rE (rnF rho h.length) c)))
    (hal : ∀ v h', K v h' → h'.length = hc.length ∨ (rho.length = hc.length ∧ cellsLt h.length h = true ∧ allLtO h.length vs = true ∧ allLt h.length rest = true ∧ Nat.ble (h.length + (h'.length - hc.length)) 1000 = true))
    (hbk : bk = bk' + mc') (hbn : bn = bn' + ms')
    (kk : ∀ (v : Option Value) (h' : AH), K v h' → MW X (pc + 3, vs, v.toList.map (cV (rnF rho h.length)) ++ rest, jn h rho hc.length h', bk', bn')) : MW X (pc, vs, st, h, bk, bn) := by
  have hi : okI own ini b (pc, 3, .invokevirtual index, r1, r2, r3, cv) = true := List.all_eq_true.mp ht _ (List.mem_of_getElem? hc0)
  obtain ⟨p, l, e, R, s, m, args, below, meth, c, D, cA, ad0, n0, A, mc, ms, Q⟩ := X
  obtain ⟨hx, hcb, hown, hts, hK, hlk, hA, hin, hRc, hRs, hfr, hlo, hNW⟩ := C
  have hdg := okI_dec hi
  dsimp only at hdg
  rw [Bool.and_eq_true, Bool.and_eq_true] at hd
  rw [Bool.and_eq_true] at hR
  have hR1 := Nat.le_of_ble_eq_true hR.1
  have hR2 := Nat.le_of_ble_eq_true hR.2
  have hr := Nat.le_of_ble_eq_true hr
  have hrs := Nat.le_of_ble_eq_true hrs
  have hwin := hw
  have hcode := hwin (.code y by' nL' ret') (by simp)
  subst hst hbk hbn
  intro ad H locs ls k n9 hn0 had hP hD hS hl hk hn
  obtain ⟨hPc, hDc, hFc⟩ := call_pre hS hA hr hnd hm hP hD
  have hM := hCT l D cA (fun r => ad (rnF rho h.length r)) H.size
  have hKq : va_K D CL (tysOf cA) s := hK
  have hcw : CallW R s args own y.cls index y by' nL' ret' (.code y by' nL' ret' :: TG) { frames := fr', cells := mc', slots := ms', locals := lo' } mc' ms' n := by
    refine cwV (Ts := TG) n hts (fun w h9 => ?_) rfl rfl rfl ⟨rfl, of_decide_eq_true hd.1.1, of_decide_eq_true hd.1.2, of_decide_eq_true hd.2⟩ ⟨by show fr' + 1 ≤ R.frames; omega, by show 8 + (nL' + 11) + lo' ≤ R.locals; omega⟩
    unfold wsV at h9
    rcases List.mem_append.mp h9 with z | z
    · have hw2 : w ∈ TG := hwin w (by
        simp only [List.mem_cons, List.not_mem_nil, or_false] at z ⊢
        rcases z with z | z | z | z <;> simp [z])
      exact ⟨hw2, good_of_word (TG_good w hw2)⟩
    · exact good_pay hcode w z
  have hargs : as.map (cV (fun r => ad (rnF rho h.length r))) = .ref (ad (rnF rho h.length rr)) :: As.map (cV (fun r => ad (rnF rho h.length r))) := by rw [has]; rfl
  have hpre : PreV s H y.cls (ad (rnF rho h.length rr)) (va_Pc (as.map (cV (fun r => ad (rnF rho h.length r)))) (fun U => U.heap.size = H.size ∧ va_P D CL (cW (fun r => ad (rnF rho h.length r)) cA hc) U.heap ∧ va_K D CL (tysOf cA) U ∧ va_D (fun _ => True) (cW (fun r => ad (rnF rho h.length r)) cA hc) ∧ ∀ w ∈ NW, va_Nw w U)) (As.map (cV (fun r => ad (rnF rho h.length r)))) := by
    refine ⟨K_blind, ?_, fun U hU hW => ⟨by rw [hargs], by rw [hU], by rw [hU]; exact hPc, va_K.moved hW.alike hK, hDc, fun w h9 => NW_warm h9 hW (hNW w h9)⟩⟩
    rw [← hqy]
    exact va_recv hK hPc hcl (cW_get hrecv)
  have hrun := va_runV (p := p) (l := l) (e := e) (R := R) (s := s) (m := m) (args := args) (below := below) (meth := meth) (c := c) (H := H) (locs := locs) (cells := k) (slots := n9) (g := F0 m pc ls (((as.map (cV (rnF rho h.length))).reverse ++ rest).map (cV ad))) (rest := rest.map (cV ad)) (Ts := TG) ⟨hx, hcb, rfl, hown, hts⟩ hM hcw hpre rfl (by rw [List.length_map]; exact hlen) hl.2.1
    (by
      show List.map (cV ad) ((as.map (cV (rnF rho h.length))).reverse ++ rest) = _
      rw [stk_eq, hargs, List.reverse_cons, List.append_assoc]; rfl)
    (lv_room (cat_eq hrs)) hdg ⟨by omega, by omega⟩
  exact call_post hr hnd hm hal hn0 had hP hD hS hl (by omega) (by omega) hFc hrun kk
/-- a call of an static method -/
theorem MW_callS (C : CX X b own ini fr lo) (ht : tab.all (okI own ini b) = true) (i : Nat) (hc0 : tab[i]? = some (pc, 3, .invokestatic index, r1, r2, r3, cv)) (hCT : CT y by' nL' ret' fr' lo' mc' ms' as hc K)
    (hw : ∀ w ∈ [Cond.methodLink own index y, .static y, .initialized y.cls, .code y by' nL' ret'], w ∈ TG) (n : Nat)
    (hd : (decide (y.cls ≠ "java/lang/invoke/MethodHandle") && decide (y.cls ≠ "java/lang/invoke/VarHandle") && decide ((parseMethodDescriptor y.desc).map (fun d => d.parameters.length) = some n)) = true)
    (hR : (Nat.ble (fr' + 1) fr && Nat.ble (8 + (nL' + 11) + lo') lo) = true)
    {rest : List Value} (hlen : as.length = n)
    (hst : st = (as.map (cV (rnF rho h.length))).reverse ++ rest) (hrs : Nat.ble (rest.map fun v => v.category).sum 8 = true)
    (hr : Nat.ble hc.length rho.length = true) (hnd : va_nd (rho.take hc.length) = true) (hm : (rho.take hc.length).map (fun i => h[i]?) = hc.map (fun c => some (rE (rnF rho h.length) c)))
    (hal : ∀ v h', K v h' → h'.length = hc.length ∨ (rho.length = hc.length ∧ cellsLt h.length h = true ∧ allLtO h.length vs = true ∧ allLt h.length rest = true ∧ Nat.ble (h.length + (h'.length - hc.length)) 1000 = true))
    (hbk : bk = bk' + mc') (hbn : bn = bn' + ms')
    (kk : ∀ (v : Option Value) (h' : AH), K v h' → MW X (pc + 3, vs, v.toList.map (cV (rnF rho h.length)) ++ rest, jn h rho hc.length h', bk', bn')) : MW X (pc, vs, st, h, bk, bn) := by
  have hi : okI own ini b (pc, 3, .invokestatic index, r1, r2, r3, cv) = true := List.all_eq_true.mp ht _ (List.mem_of_getElem? hc0)
  obtain ⟨p, l, e, R, s, m, args, below, meth, c, D, cA, ad0, n0, A, mc, ms, Q⟩ := X
  obtain ⟨hx, hcb, hown, hts, hK, hlk, hA, hin, hRc, hRs, hfr, hlo, hNW⟩ := C
  have hdg := okI_dec hi
  dsimp only at hdg
  rw [Bool.and_eq_true, Bool.and_eq_true] at hd
  rw [Bool.and_eq_true] at hR
  have hR1 := Nat.le_of_ble_eq_true hR.1
  have hR2 := Nat.le_of_ble_eq_true hR.2
  have hr := Nat.le_of_ble_eq_true hr
  have hrs := Nat.le_of_ble_eq_true hrs
  have hwin := hw
  have hcode := hwin (.code y by' nL' ret') (by simp)
  subst hst hbk hbn
  intro ad H locs ls k n9 hn0 had hP hD hS hl hk hn
  obtain ⟨hPc, hDc, hFc⟩ := call_pre hS hA hr hnd hm hP hD
  have hM := hCT l D cA (fun r => ad (rnF rho h.length r)) H.size
  have hKq : va_K D CL (tysOf cA) s := hK
  have hcw := va_cwS (R := R) (s := s) (args := args) (own := own) (index := index) (y := y) (bytes := by') (maxL := nL') (ret := ret') (ws := .code y by' nL' ret' :: TG) (ws' := TG) (rm := { frames := fr', cells := mc', slots := ms', locals := lo' }) (mc := mc') (ms := ms') (Ts := TG) n hts (fun w h9 => by
    unfold va_wsS at h9
    rcases List.mem_append.mp h9 with z | z
    · have hw2 : w ∈ TG := hwin w (by
        simp only [List.mem_cons, List.not_mem_nil, or_false] at z ⊢
        rcases z with z | z | z <;> simp [z])
      exact ⟨hw2, good_of_word (TG_good w hw2)⟩
    · exact good_pay hcode w z) rfl rfl rfl ⟨of_decide_eq_true hd.1.1, of_decide_eq_true hd.1.2, of_decide_eq_true hd.2⟩ ⟨by show fr' + 1 ≤ R.frames; omega, by show 8 + (nL' + 11) + lo' ≤ R.locals; omega⟩
  have hpre : PreS s H (va_Pc (as.map (cV (fun r => ad (rnF rho h.length r)))) (fun U => U.heap.size = H.size ∧ va_P D CL (cW (fun r => ad (rnF rho h.length r)) cA hc) U.heap ∧ va_K D CL (tysOf cA) U ∧ va_D (fun _ => True) (cW (fun r => ad (rnF rho h.length r)) cA hc) ∧ ∀ w ∈ NW, va_Nw w U)) (as.map (cV (fun r => ad (rnF rho h.length r)))) :=
    ⟨K_blind, fun U hU hW => ⟨rfl, by rw [hU], by rw [hU]; exact hPc, va_K.moved hW.alike hK, hDc, fun w h9 => NW_warm h9 hW (hNW w h9)⟩⟩
  have hrun := va_runS (p := p) (l := l) (e := e) (R := R) (s := s) (m := m) (args := args) (below := below) (meth := meth) (c := c) (H := H) (locs := locs) (cells := k) (slots := n9) (g := F0 m pc ls (((as.map (cV (rnF rho h.length))).reverse ++ rest).map (cV ad))) (rest := rest.map (cV ad)) (Ts := TG) ⟨hx, hcb, rfl, hown, hts⟩ hM hcw hpre rfl (by rw [List.length_map]; exact hlen) hl.2.1
    (by
      show List.map (cV ad) ((as.map (cV (rnF rho h.length))).reverse ++ rest) = _
      rw [stk_eq])
    (lv_room (cat_eq hrs)) hdg ⟨by omega, by omega⟩
  exact call_post hr hnd hm hal hn0 had hP hD hS hl (by omega) (by omega) hFc hrun kk
/-- a call of an nest mate's static method -/
theorem MW_callSN (C : CX X b own ini fr lo) (ht : tab.all (okI own ini b) = true) (i : Nat) (hc0 : tab[i]? = some (pc, 3, .invokestatic index, r1, r2, r3, cv)) (hCT : CT y by' nL' ret' fr' lo' mc' ms' as hc K)
    (hw : ∀ w ∈ [Cond.static y, .initialized y.cls, .code y by' nL' ret'], w ∈ TG) (n : Nat)
    (hd : (decide (y.cls ≠ "java/lang/invoke/MethodHandle") && decide (y.cls ≠ "java/lang/invoke/VarHandle") && decide ((parseMethodDescriptor y.desc).map (fun d => d.parameters.length) = some n)) = true)
    (hR : (Nat.ble (fr' + 1) fr && Nat.ble (8 + (nL' + 11) + lo') lo) = true)
    {rest : List Value} {host : String} (hlen : as.length = n) (hnw : decide (Cond.methodLinkNest own index y host ∈ NW) = true)
    (hst : st = (as.map (cV (rnF rho h.length))).reverse ++ rest) (hrs : Nat.ble (rest.map fun v => v.category).sum 8 = true)
    (hr : Nat.ble hc.length rho.length = true) (hnd : va_nd (rho.take hc.length) = true) (hm : (rho.take hc.length).map (fun i => h[i]?) = hc.map (fun c => some (rE (rnF rho h.length) c)))
    (hal : ∀ v h', K v h' → h'.length = hc.length ∨ (rho.length = hc.length ∧ cellsLt h.length h = true ∧ allLtO h.length vs = true ∧ allLt h.length rest = true ∧ Nat.ble (h.length + (h'.length - hc.length)) 1000 = true))
    (hbk : bk = bk' + mc') (hbn : bn = bn' + ms')
    (kk : ∀ (v : Option Value) (h' : AH), K v h' → MW X (pc + 3, vs, v.toList.map (cV (rnF rho h.length)) ++ rest, jn h rho hc.length h', bk', bn')) : MW X (pc, vs, st, h, bk, bn) := by
  have hi : okI own ini b (pc, 3, .invokestatic index, r1, r2, r3, cv) = true := List.all_eq_true.mp ht _ (List.mem_of_getElem? hc0)
  obtain ⟨p, l, e, R, s, m, args, below, meth, c, D, cA, ad0, n0, A, mc, ms, Q⟩ := X
  obtain ⟨hx, hcb, hown, hts, hK, hlk, hA, hin, hRc, hRs, hfr, hlo, hNW⟩ := C
  have hdg := okI_dec hi
  dsimp only at hdg
  rw [Bool.and_eq_true, Bool.and_eq_true] at hd
  rw [Bool.and_eq_true] at hR
  have hR1 := Nat.le_of_ble_eq_true hR.1
  have hR2 := Nat.le_of_ble_eq_true hR.2
  have hr := Nat.le_of_ble_eq_true hr
  have hrs := Nat.le_of_ble_eq_true hrs
  have hwin := hw
  have hcode := hwin (.code y by' nL' ret') (by simp)
  subst hst hbk hbn
  intro ad H locs ls k n9 hn0 had hP hD hS hl hk hn
  obtain ⟨hPc, hDc, hFc⟩ := call_pre hS hA hr hnd hm hP hD
  have hM := hCT l D cA (fun r => ad (rnF rho h.length r)) H.size
  have hKq : va_K D CL (tysOf cA) s := hK
  have hcw := va_cnB (R := R) (s := s) (args := args) (own := own) (host := host) (index := index) (y := y) (bytes := by') (maxL := nL') (ret := ret') (ws := .code y by' nL' ret' :: TG) (ws' := TG) (rm := { frames := fr', cells := mc', slots := ms', locals := lo' }) (mc := mc') (ms := ms') (Ts := TG) n hts (good_pay hcode) rfl rfl rfl (hNW _ (of_decide_eq_true hnw)) (hts _ (hwin _ (by simp))) ⟨of_decide_eq_true hd.1.1, of_decide_eq_true hd.1.2, of_decide_eq_true hd.2⟩ ⟨by show fr' + 1 ≤ R.frames; omega, by show 8 + (nL' + 11) + lo' ≤ R.locals; omega⟩
  have hpre : PreS s H (va_Pc (as.map (cV (fun r => ad (rnF rho h.length r)))) (fun U => U.heap.size = H.size ∧ va_P D CL (cW (fun r => ad (rnF rho h.length r)) cA hc) U.heap ∧ va_K D CL (tysOf cA) U ∧ va_D (fun _ => True) (cW (fun r => ad (rnF rho h.length r)) cA hc) ∧ ∀ w ∈ NW, va_Nw w U)) (as.map (cV (fun r => ad (rnF rho h.length r)))) :=
    ⟨K_blind, fun U hU hW => ⟨rfl, by rw [hU], by rw [hU]; exact hPc, va_K.moved hW.alike hK, hDc, fun w h9 => NW_warm h9 hW (hNW w h9)⟩⟩
  have hrun := va_runSN (p := p) (l := l) (e := e) (R := R) (s := s) (m := m) (args := args) (below := below) (meth := meth) (c := c) (H := H) (locs := locs) (cells := k) (slots := n9) (g := F0 m pc ls (((as.map (cV (rnF rho h.length))).reverse ++ rest).map (cV ad))) (rest := rest.map (cV ad)) (Ts := TG) ⟨hx, hcb, rfl, hown, hts⟩ hM ⟨hcw, hts _ (hwin _ (by simp)), trivial⟩ hpre rfl (by rw [List.length_map]; exact hlen) hl.2.1
    (by
      show List.map (cV ad) ((as.map (cV (rnF rho h.length))).reverse ++ rest) = _
      rw [stk_eq])
    (lv_room (cat_eq hrs)) hdg ⟨by omega, by omega⟩
  exact call_post hr hnd hm hal hn0 had hP hD hS hl (by omega) (by omega) hFc hrun kk
/-- a call of an nest mate's constructor -/
theorem MW_callIN (C : CX X b own ini fr lo) (ht : tab.all (okI own ini b) = true) (i : Nat) (hc0 : tab[i]? = some (pc, 3, .invokespecial index, r1, r2, r3, cv)) (hCT : CT y by' nL' none fr' lo' mc' ms' as hc K)
    (hw : ∀ w ∈ [Cond.instanceMethod y, .initialized y.cls, .code y by' nL' none], w ∈ TG) (n : Nat)
    (hd : (decide (y.cls ≠ "java/lang/invoke/MethodHandle") && decide (y.cls ≠ "java/lang/invoke/VarHandle") && decide ((parseMethodDescriptor y.desc).map (fun d => d.parameters.length) = some n)) = true)
    (hR : (Nat.ble (fr' + 1) fr && Nat.ble (8 + (nL' + 11) + lo') lo) = true)
    {rr : Nat} {As rest : List Value} {host : String} (has : as = .ref rr :: As) (hyi : y.name = "<init>") (hlen : As.length = n) (hnw : decide (Cond.methodLinkNest own index y host ∈ NW) = true)
    (hst : st = (as.map (cV (rnF rho h.length))).reverse ++ rest) (hrs : Nat.ble (rest.map fun v => v.category).sum 8 = true)
    (hr : Nat.ble hc.length rho.length = true) (hnd : va_nd (rho.take hc.length) = true) (hm : (rho.take hc.length).map (fun i => h[i]?) = hc.map (fun c => some (rE (rnF rho h.length) c)))
    (hal : ∀ v h', K v h' → h'.length = hc.length ∨ (rho.length = hc.length ∧ cellsLt h.length h = true ∧ allLtO h.length vs = true ∧ allLt h.length rest = true ∧ Nat.ble (h.length + (h'.length - hc.length)) 1000 = true))
    (hbk : bk = bk' + mc') (hbn : bn = bn' + ms')
    (kk : ∀ (v : Option Value) (h' : AH), K v h' → MW X (pc + 3, vs, v.toList.map (cV (rnF rho h.length)) ++ rest, jn h rho hc.length h', bk', bn')) : MW X (pc, vs, st, h, bk, bn) := by
  have hi : okI own ini b (pc, 3, .invokespecial index, r1, r2, r3, cv) = true := List.all_eq_true.mp ht _ (List.mem_of_getElem? hc0)
  obtain ⟨p, l, e, R, s, m, args, below, meth, c, D, cA, ad0, n0, A, mc, ms, Q⟩ := X
  obtain ⟨hx, hcb, hown, hts, hK, hlk, hA, hin, hRc, hRs, hfr, hlo, hNW⟩ := C
  have hdg := okI_dec hi
  dsimp only at hdg
  rw [Bool.and_eq_true, Bool.and_eq_true] at hd
  rw [Bool.and_eq_true] at hR
  have hR1 := Nat.le_of_ble_eq_true hR.1
  have hR2 := Nat.le_of_ble_eq_true hR.2
  have hr := Nat.le_of_ble_eq_true hr
  have hrs := Nat.le_of_ble_eq_true hrs
  have hwin := hw
  have hcode := hwin (.code y by' nL' none) (by simp)
  subst hst hbk hbn
  intro ad H locs ls k n9 hn0 had hP hD hS hl hk hn
  obtain ⟨hPc, hDc, hFc⟩ := call_pre hS hA hr hnd hm hP hD
  have hM := hCT l D cA (fun r => ad (rnF rho h.length r)) H.size
  have hKq : va_K D CL (tysOf cA) s := hK
  have hcw := va_cnB (R := R) (s := s) (args := args) (own := own) (host := host) (index := index) (y := y) (bytes := by') (maxL := nL') (ret := none) (ws := .code y by' nL' none :: TG) (ws' := TG) (rm := { frames := fr', cells := mc', slots := ms', locals := lo' }) (mc := mc') (ms := ms') (Ts := TG) n hts (good_pay hcode) rfl rfl rfl (hNW _ (of_decide_eq_true hnw)) (hts _ (hwin _ (by simp))) ⟨of_decide_eq_true hd.1.1, of_decide_eq_true hd.1.2, of_decide_eq_true hd.2⟩ ⟨by show fr' + 1 ≤ R.frames; omega, by show 8 + (nL' + 11) + lo' ≤ R.locals; omega⟩
  have hargs : as.map (cV (fun r => ad (rnF rho h.length r))) = .ref (ad (rnF rho h.length rr)) :: As.map (cV (fun r => ad (rnF rho h.length r))) := by rw [has]; rfl
  have hpre : PreS s H (va_Pc (as.map (cV (fun r => ad (rnF rho h.length r)))) (fun U => U.heap.size = H.size ∧ va_P D CL (cW (fun r => ad (rnF rho h.length r)) cA hc) U.heap ∧ va_K D CL (tysOf cA) U ∧ va_D (fun _ => True) (cW (fun r => ad (rnF rho h.length r)) cA hc) ∧ ∀ w ∈ NW, va_Nw w U)) (.ref (ad (rnF rho h.length rr)) :: As.map (cV (fun r => ad (rnF rho h.length r)))) :=
    ⟨K_blind, fun U hU hW => ⟨by rw [hargs], by rw [hU], by rw [hU]; exact hPc, va_K.moved hW.alike hK, hDc, fun w h9 => NW_warm h9 hW (hNW w h9)⟩⟩
  have hrun := va_runIN (p := p) (l := l) (e := e) (R := R) (s := s) (m := m) (args := args) (below := below) (meth := meth) (c := c) (H := H) (locs := locs) (cells := k) (slots := n9) (g := F0 m pc ls (((as.map (cV (rnF rho h.length))).reverse ++ rest).map (cV ad))) (rest := rest.map (cV ad)) (Ts := TG) ⟨hx, hcb, rfl, hown, hts⟩ hM ⟨hcw, hyi, hts _ (hwin _ (by simp))⟩ hpre rfl (by rw [List.length_map]; exact hlen) hl.2.1
    (by
      show List.map (cV ad) ((as.map (cV (rnF rho h.length))).reverse ++ rest) = _
      rw [stk_eq, hargs, List.reverse_cons, List.append_assoc]; rfl)
    (lv_room (cat_eq hrs)) hdg ⟨by omega, by omega⟩
  exact call_post hr hnd hm hal hn0 had hP hD hS hl (by omega) (by omega) hFc hrun kk
/-- a call of an constructor -/
theorem MW_callI (C : CX X b own ini fr lo) (ht : tab.all (okI own ini b) = true) (i : Nat) (hc0 : tab[i]? = some (pc, 3, .invokespecial index, r1, r2, r3, cv)) (hCT : CT y by' nL' none fr' lo' mc' ms' as hc K)
    (hw : ∀ w ∈ [Cond.methodLink own index y, .instanceMethod y, .initialized y.cls, .code y by' nL' none], w ∈ TG) (n : Nat)
    (hd : (decide (y.cls ≠ "java/lang/invoke/MethodHandle") && decide (y.cls ≠ "java/lang/invoke/VarHandle") && decide ((parseMethodDescriptor y.desc).map (fun d => d.parameters.length) = some n)) = true)
    (hR : (Nat.ble (fr' + 1) fr && Nat.ble (8 + (nL' + 11) + lo') lo) = true)
    {rr : Nat} {As rest : List Value} (has : as = .ref rr :: As) (hyi : y.name = "<init>") (hlen : As.length = n)
    (hst : st = (as.map (cV (rnF rho h.length))).reverse ++ rest) (hrs : Nat.ble (rest.map fun v => v.category).sum 8 = true)
    (hr : Nat.ble hc.length rho.length = true) (hnd : va_nd (rho.take hc.length) = true) (hm : (rho.take hc.length).map (fun i => h[i]?) = hc.map (fun c => some (rE (rnF rho h.length) c)))
    (hal : ∀ v h', K v h' → h'.length = hc.length ∨ (rho.length = hc.length ∧ cellsLt h.length h = true ∧ allLtO h.length vs = true ∧ allLt h.length rest = true ∧ Nat.ble (h.length + (h'.length - hc.length)) 1000 = true))
    (hbk : bk = bk' + mc') (hbn : bn = bn' + ms')
    (kk : ∀ (v : Option Value) (h' : AH), K v h' → MW X (pc + 3, vs, v.toList.map (cV (rnF rho h.length)) ++ rest, jn h rho hc.length h', bk', bn')) : MW X (pc, vs, st, h, bk, bn) := by
  have hi : okI own ini b (pc, 3, .invokespecial index, r1, r2, r3, cv) = true := List.all_eq_true.mp ht _ (List.mem_of_getElem? hc0)
  obtain ⟨p, l, e, R, s, m, args, below, meth, c, D, cA, ad0, n0, A, mc, ms, Q⟩ := X
  obtain ⟨hx, hcb, hown, hts, hK, hlk, hA, hin, hRc, hRs, hfr, hlo, hNW⟩ := C
  have hdg := okI_dec hi
  dsimp only at hdg
  rw [Bool.and_eq_true, Bool.and_eq_true] at hd
  rw [Bool.and_eq_true] at hR
  have hR1 := Nat.le_of_ble_eq_true hR.1
  have hR2 := Nat.le_of_ble_eq_true hR.2
  have hr := Nat.le_of_ble_eq_true hr
  have hrs := Nat.le_of_ble_eq_true hrs
  have hwin := hw
  have hcode := hwin (.code y by' nL' none) (by simp)
  subst hst hbk hbn
  intro ad H locs ls k n9 hn0 had hP hD hS hl hk hn
  obtain ⟨hPc, hDc, hFc⟩ := call_pre hS hA hr hnd hm hP hD
  have hM := hCT l D cA (fun r => ad (rnF rho h.length r)) H.size
  have hKq : va_K D CL (tysOf cA) s := hK
  have hcw := cwI (R := R) (s := s) (args := args) (own := own) (index := index) (y := y) (bytes := by') (maxL := nL') (ws := .code y by' nL' none :: TG) (ws' := TG) (rm := { frames := fr', cells := mc', slots := ms', locals := lo' }) (mc := mc') (ms := ms') (Ts := TG) n hts (good_pay hcode) rfl rfl rfl (hts _ (hwin _ (by simp))) (hts _ (hwin _ (by simp))) (hts _ (hwin _ (by simp))) hyi ⟨of_decide_eq_true hd.1.1, of_decide_eq_true hd.1.2, of_decide_eq_true hd.2⟩ ⟨by show fr' + 1 ≤ R.frames; omega, by show 8 + (nL' + 11) + lo' ≤ R.locals; omega⟩
  have hargs : as.map (cV (fun r => ad (rnF rho h.length r))) = .ref (ad (rnF rho h.length rr)) :: As.map (cV (fun r => ad (rnF rho h.length r))) := by rw [has]; rfl
  have hpre : PreS s H (va_Pc (as.map (cV (fun r => ad (rnF rho h.length r)))) (fun U => U.heap.size = H.size ∧ va_P D CL (cW (fun r => ad (rnF rho h.length r)) cA hc) U.heap ∧ va_K D CL (tysOf cA) U ∧ va_D (fun _ => True) (cW (fun r => ad (rnF rho h.length r)) cA hc) ∧ ∀ w ∈ NW, va_Nw w U)) (.ref (ad (rnF rho h.length rr)) :: As.map (cV (fun r => ad (rnF rho h.length r)))) :=
    ⟨K_blind, fun U hU hW => ⟨by rw [hargs], by rw [hU], by rw [hU]; exact hPc, va_K.moved hW.alike hK, hDc, fun w h9 => NW_warm h9 hW (hNW w h9)⟩⟩
  have hrun := va_runI (p := p) (l := l) (e := e) (R := R) (s := s) (m := m) (args := args) (below := below) (meth := meth) (c := c) (H := H) (locs := locs) (cells := k) (slots := n9) (g := F0 m pc ls (((as.map (cV (rnF rho h.length))).reverse ++ rest).map (cV ad))) (rest := rest.map (cV ad)) (Ts := TG) ⟨hx, hcb, rfl, hown, hts⟩ hM hcw hpre rfl (by rw [List.length_map]; exact hlen) hl.2.1
    (by
      show List.map (cV ad) ((as.map (cV (rnF rho h.length))).reverse ++ rest) = _
      rw [stk_eq, hargs, List.reverse_cons, List.append_assoc]; rfl)
    (lv_room (cat_eq hrs)) hdg ⟨by omega, by omega⟩
  exact call_post hr hnd hm hal hn0 had hP hD hS hl (by omega) (by omega) hFc hrun kk
end
end
section
/-! MAKING, AND THE LIBRARY's OWN ROWS -/
section
variable {X : CTX} {b : ByteArray} {own : String} {ini : Bool} {fr lo : Nat} {tab : List CI} {pc : Nat} {vs : List (Option Value)} {st rest : List Value} {h : AH} {bk bn : Nat} {r1 r2 r3 index : Nat} {cv : Value}
theorem MW_objInit (C : CX X b own ini fr lo) (ht : tab.all (okI own ini b) = true) (i : Nat) (hc0 : tab[i]? = some (pc, 3, .invokespecial index, r1, r2, r3, cv)) {a : Nat}
    (hw : ∀ w ∈ [Cond.methodLink own index objectInit, .instanceMethod objectInit, .code objectInit ⟨#[0xb1]⟩ 1 none], w ∈ TG) (hR : (Nat.ble 1 fr && Nat.ble ((rest.map fun v => v.category).sum + 12) lo) = true)
    (kk : MW X (pc + 3, vs, rest, h, bk, bn)) : MW X (pc, vs, .ref a :: rest, h, bk, bn) := by
  have hi : okI own ini b (pc, 3, .invokespecial index, r1, r2, r3, cv) = true := List.all_eq_true.mp ht _ (List.mem_of_getElem? hc0)
  obtain ⟨p, l, e, R, s, m, args, below, meth, c, D, cA, ad0, n0, A, mc, ms, Q⟩ := X
  obtain ⟨hx, hcb, hown, hts, hK, hlk, hA, hin, hRc, hRs, hfr, hlo, hNW⟩ := C
  have hdg := okI_dec hi
  rw [Bool.and_eq_true] at hR
  have hR1 := Nat.le_of_ble_eq_true hR.1
  have hR2 := Nat.le_of_ble_eq_true hR.2
  have hwin := hw
  intro ad H locs ls k n hn0 had hP hD hS hl hk hn
  refine W.objInit hx hcb hown (hts _ (hwin _ (by simp))) (hts _ (hwin _ (by simp))) (hts _ (hwin _ (by simp))) rfl hl.2.1 rfl hdg (by omega) ?_ (kk ad H locs ls k n hn0 had hP hD hS hl hk hn)
  show 2 * 0 + ((rest.map (cV ad)).map fun v => v.category).sum + 12 ≤ R.locals
  have e1 : ((rest.map (cV ad)).map fun v => v.category) = rest.map fun v => v.category := by
    rw [List.map_map]; apply List.map_congr_left; intro v _; exact cV_cat ad v
  rw [e1]; omega
/-- the map of places with a new one -/
theorem ad_push {D : va_G} {cA : Nat → ClassId} {A : Nat → Prop} {ad : Nat → Nat} {h : AH} {e0 : AE} {q : Nat} {H1 : Heap} (hN : h.length < 1000) (hc1 : cellsLt h.length h = true) (he0 : ∀ ad' : Nat → Nat, cE ad' cA e0 = cE ad cA e0)
    (hP : va_P D CL (cW ad cA h ++ [(q, cE ad cA e0)]) H1) (hD : va_D A (cW ad cA h ++ [(q, cE ad cA e0)])) :
    va_P D CL (cW (fun j => if j = h.length then q else ad j) cA (h ++ [e0])) H1 ∧ va_D A (cW (fun j => if j = h.length then q else ad j) cA (h ++ [e0])) := by
  have e : cW (fun j => if j = h.length then q else ad j) cA (h ++ [e0]) = cW ad cA h ++ [(q, cE ad cA e0)] := by
    apply List.ext_getElem?
    intro j
    rw [List.getElem?_append, cW_len]
    split
    · rename_i hj
      have h1 : (h ++ [e0])[j]? = some h[j] := by rw [List.getElem?_append_left hj, List.getElem?_eq_getElem hj]
      rw [cW_get h1, cW_get (List.getElem?_eq_getElem hj)]
      have h2 : ¬ j = h.length := by omega
      rw [if_neg h2, cellsLt_v hc1 (List.getElem?_eq_getElem hj) (ad := ad) (fun i hi => by rw [if_neg (by omega)]) cA]
    · rename_i hj
      by_cases hjl : j = h.length
      · subst hjl
        have h1 : (h ++ [e0])[h.length]? = some e0 := by simp
        rw [cW_get h1, he0]
        simp
      · rw [List.getElem?_eq_none (by rw [cW_len, List.length_append]; simp; omega), List.getElem?_eq_none (by simp; omega)]
  rw [e]
  exact ⟨hP, hD⟩
def dfl : FieldType → Value
  | .long => .long 0
  | .object _ => .null
  | .array _ => .null
  | _ => .int 0
theorem MW_new (C : CX X b own ini fr lo) (ht : tab.all (okI own ini b) = true) (i : Nat) (hc0 : tab[i]? = some (pc, 3, .new index, r1, r2, r3, cv)) {ci : Nat} {Cn : String} {T : u_T} {N : Nat} (hcl : CL[ci]? = some (Cn, T, N)) {fs : List Value}
    (hw : ∀ w ∈ [Cond.classLink own index Cn, .instantiable Cn N, .initialized Cn], w ∈ TG)
    (hfs : ∀ k, k < N → (parseFieldDescriptor (T k).2.2.1).map defaultValue = some (fs.getD k .null)) (hf0 : fs.all (fun v => match v with | .ref _ => false | _ => true) = true)
    (hN0 : Nat.blt h.length 1000 = true) (hc1 : cellsLt h.length h = true) (hc2 : allLtO h.length vs = true) (hc3 : allLt h.length st = true)
    (kk : MW X (pc + 3, vs, .ref h.length :: st, h ++ [.inr (ci, fs)], bk, bn)) : MW X (pc, vs, st, h, bk + 1, bn + N) := by
  have hi : okI own ini b (pc, 3, .new index, r1, r2, r3, cv) = true := List.all_eq_true.mp ht _ (List.mem_of_getElem? hc0)
  obtain ⟨p, l, e, R, s, m, args, below, meth, c, D, cA, ad0, n0, A, mc, ms, Q⟩ := X
  obtain ⟨hx, hcb, hown, hts, hK, hlk, hA, hin, hRc, hRs, hfr, hlo, hNW⟩ := C
  have hdg := okI_dec hi
  have hN1 : h.length < 1000 := by simpa [Nat.blt_eq] using hN0
  have hwin := hw
  obtain ⟨ty0, hty0, hnm0⟩ := CL_ty _ _ _ _ hcl
  have hnor : ∀ ad1 ad2 : Nat → Nat, fs.map (cV ad1) = fs.map (cV ad2) := fun ad1 ad2 => by
    apply List.map_congr_left
    intro v hv
    have := List.all_eq_true.mp hf0 v hv
    cases v <;> simp at this <;> rfl
  intro ad H locs ls k n hn0 had hP hD hS hl hk hn
  refine va_new (D := D) (ci := ci) (fs := fs.map (cV ad)) (C := Cn) (T := T) (N := N) hx hcb hts (CL_in _ _ _ _ hcl) ty0 hty0 hown (hts _ (hwin _ (by simp))) (hts _ (hwin _ (by simp))) (hts _ (hwin _ (by simp))) hK hP hD hS hA hcl (fun j hj => ?_) (by omega) (by omega) hdg (fun q H1 hP1 hD1 hS1 => ?_)
  · have h1 := hfs j hj
    rw [hty0 j hj] at h1
    have h2 := Option.some.inj h1
    show defaultValue (ty0 j) = (fs.map (cV ad)).getD j .null
    rw [h2, List.getD_eq_getElem?_getD, List.getD_eq_getElem?_getD, List.getElem?_map]
    cases hv : fs[j]? with
    | none => rfl
    | some v =>
      have := List.all_eq_true.mp hf0 v (List.mem_of_getElem? hv)
      cases v <;> simp at this <;> rfl
  · obtain ⟨hP2, hD2⟩ := ad_push (e0 := .inr (ci, fs)) hN1 hc1 (fun ad' => by simp only [cE]; rw [hnor ad' ad]) hP1 hD1
    have hag : ∀ i, i < h.length ∨ 1000 ≤ i → (fun j => if j = h.length then q else ad j) i = ad i := fun i hi => if_neg (by omega)
    have := kk (fun j => if j = h.length then q else ad j) H1 locs ls (k + 1) (n + N) (by simp; omega) (fun i hi => by
      have : ¬ i = h.length := by simp at hi; omega
      simp only [this, if_false]
      exact had i (by simp at hi; omega)) hP2 hD2 hS1 ⟨hl.1, hl.2.1, hl.2.2.1, fun i v hv => by rw [refLt_v (allLtO_v hc2 hv) hag]; exact hl.2.2.2 i v hv⟩ (by omega) (by omega)
    have e9 : List.map (cV (fun j => if j = h.length then q else ad j)) (.ref h.length :: st) = .ref q :: st.map (cV ad) := by
      rw [List.map_cons, allLt_v hc3 hag]; simp [cV]
    rw [e9] at this
    exact this
theorem MW_newa (C : CX X b own ini fr lo) (ht : tab.all (okI own ini b) = true) (i : Nat) {at9 : ArrayType} (hc0 : tab[i]? = some (pc, 2, .newarray at9, r1, r2, r3, cv)) {n : Int32} {N : Nat} {t : Nat} {ty : FieldType} {a0 : vp_A} (hty : newarray.typeOf at9 = ty) (htt : (tysOf (fun j => (j : ClassId)))[t]? = some ((t : ClassId), ty))
    (hw : ∀ w ∈ [Cond.arrayClass ty], w ∈ TG) (ha : ∀ cA : ClassId, vp_cell cA a0 = arrV cA N (fun _ => defaultValue ty)) (hn9 : ¬ n < 0) (hN : n.toNatClampNeg = N) (hb9 : Nat.ble (N * componentBytes ty) 536870912 = true)
    (hN0 : Nat.blt h.length 1000 = true) (hc1 : cellsLt h.length h = true) (hc2 : allLtO h.length vs = true) (hc3 : allLt h.length st = true)
    (kk : MW X (pc + 2, vs, .ref h.length :: st, h ++ [.inl (t, a0)], bk, bn)) : MW X (pc, vs, .int n :: st, h, bk + 1, bn + N) := by
  have hi : okI own ini b (pc, 2, .newarray at9, r1, r2, r3, cv) = true := List.all_eq_true.mp ht _ (List.mem_of_getElem? hc0)
  obtain ⟨p, l, e, R, s, m, args, below, meth, c, D, cA, ad0, n0, A, mc, ms, Q⟩ := X
  obtain ⟨hx, hcb, hown, hts, hK, hlk, hA, hin, hRc, hRs, hfr, hlo, hNW⟩ := C
  have hdg := okI_dec hi
  have hN1 : h.length < 1000 := by simpa [Nat.blt_eq] using hN0
  have hw1 := hts _ (hw _ List.mem_cons_self)
  subst hty
  intro ad H locs ls k n2 hn0 had hP hD hS hl hk hn
  refine va_newa hx hcb hw1 rfl hK hP hD hS hA ha hn9 hN (Nat.le_of_ble_eq_true hb9) (by omega) (by omega) hdg (fun q cQ H1 hK1 hP1 hD1 hS1 => ?_)
  -- the new row's class is the known one of its type
  have hcls : cQ = cA t := by
    have h1 := hK1.2 4 (cQ, newarray.typeOf at9) rfl
    match t, htt with
    | 0, htt =>
      have e1 : newarray.typeOf at9 = .int := (congrArg Prod.snd (Option.some.inj htt)).symm
      have h2 := hK.2 0 (cA 0, .int) rfl
      rw [e1] at h1
      exact Option.some.inj (h1.2.symm.trans h2.2)
    | 1, htt =>
      have e1 : newarray.typeOf at9 = .long := (congrArg Prod.snd (Option.some.inj htt)).symm
      have h2 := hK.2 1 (cA 1, .long) rfl
      rw [e1] at h1
      exact Option.some.inj (h1.2.symm.trans h2.2)
    | 2, htt =>
      have e1 : newarray.typeOf at9 = .byte := (congrArg Prod.snd (Option.some.inj htt)).symm
      have h2 := hK.2 2 (cA 2, .byte) rfl
      rw [e1] at h1
      exact Option.some.inj (h1.2.symm.trans h2.2)
    | 3, htt =>
      have e1 : newarray.typeOf at9 = .boolean := (congrArg Prod.snd (Option.some.inj htt)).symm
      have h2 := hK.2 3 (cA 3, .boolean) rfl
      rw [e1] at h1
      exact Option.some.inj (h1.2.symm.trans h2.2)
    | t + 4, htt => simp at htt
  subst hcls
  obtain ⟨hP2, hD2⟩ := ad_push (e0 := .inl (t, a0)) hN1 hc1 (fun ad' => rfl) hP1 hD1
  have hag : ∀ i, i < h.length ∨ 1000 ≤ i → (fun j => if j = h.length then q else ad j) i = ad i := fun i hi => if_neg (by omega)
  have := kk (fun j => if j = h.length then q else ad j) H1 locs ls (k + 1) (n2 + N) (by simp; omega) (fun i hi => by
    have : ¬ i = h.length := by simp at hi; omega
    simp only [this, if_false]
    exact had i (by simp at hi; omega)) hP2 hD2 hS1 ⟨hl.1, hl.2.1, hl.2.2.1, fun i v hv => by rw [refLt_v (allLtO_v hc2 hv) hag]; exact hl.2.2.2 i v hv⟩ (by omega) (by omega)
  have e9 : List.map (cV (fun j => if j = h.length then q else ad j)) (.ref h.length :: st) = .ref q :: st.map (cV ad) := by
    rw [List.map_cons, allLt_v hc3 hag]; simp [cV]
  rw [e9] at this
  exact this
end
section
variable {X : CTX} {b : ByteArray} {own : String} {ini : Bool} {fr lo : Nat} {tab : List CI} {pc : Nat} {vs : List (Option Value)} {st rest : List Value} {h : AH} {bk bn : Nat} {r1 r2 r3 index : Nat} {cv : Value}
def imax (x y : Int32) : Int32 := if x < y then y else x
def imin (x y : Int32) : Int32 := if y < x then y else x
theorem cat_sum {ad : Nat → Nat} {rest : List Value} : ((rest.map (cV ad)).map fun v => v.category) = rest.map fun v => v.category := by
  rw [List.map_map]; apply List.map_congr_left; intro v _; exact cV_cat ad v
theorem MW_mmax (C : CX X b own ini fr lo) (ht : tab.all (okI own ini b) = true) (i : Nat) (hc0 : tab[i]? = some (pc, 3, .invokestatic index, r1, r2, r3, cv)) {x y : Int32}
    (hw : ∀ w ∈ [Cond.methodLink own index Lib.Math.max.name, .static Lib.Math.max.name, .initialized "java/lang/Math", .code Lib.Math.max.name Lib.Math.max.code 2 (some .int)], w ∈ TG) (hR : (Nat.ble 1 fr && Nat.ble ((rest.map fun v => v.category).sum + 13) lo) = true)
    (kk : MW X (pc + 3, vs, .int (imax x y) :: rest, h, bk, bn)) : MW X (pc, vs, .int y :: .int x :: rest, h, bk, bn) := by
  have hi : okI own ini b (pc, 3, .invokestatic index, r1, r2, r3, cv) = true := List.all_eq_true.mp ht _ (List.mem_of_getElem? hc0)
  obtain ⟨p, l, e, R, s, m, args, below, meth, c, D, cA, ad0, n0, A, mc, ms, Q⟩ := X
  obtain ⟨hx, hcb, hown, hts, hK, hlk, hA, hin, hRc, hRs, hfr, hlo, hNW⟩ := C
  have hdg := okI_dec hi
  rw [Bool.and_eq_true] at hR
  have hR1 := Nat.le_of_ble_eq_true hR.1
  have hR2 := Nat.le_of_ble_eq_true hR.2
  have hwin := hw
  intro ad H locs ls k n hn0 had hP hD hS hl hk hn
  exact va_mmax hx hcb hl.2.1.symm hown (hts _ (hwin _ (by simp))) (hts _ (hwin _ (by simp))) (hts _ (hwin _ (by simp))) (hts _ (hwin _ (by simp))) (by omega) (by rw [cat_sum]; omega) (by omega) (by omega) hdg (kk ad H locs ls k n hn0 had hP hD hS hl hk hn)
theorem MW_mmin (C : CX X b own ini fr lo) (ht : tab.all (okI own ini b) = true) (i : Nat) (hc0 : tab[i]? = some (pc, 3, .invokestatic index, r1, r2, r3, cv)) {x y : Int32}
    (hw : ∀ w ∈ [Cond.methodLink own index Lib.Math.min.name, .static Lib.Math.min.name, .initialized "java/lang/Math", .code Lib.Math.min.name Lib.Math.min.code 2 (some .int)], w ∈ TG) (hR : (Nat.ble 1 fr && Nat.ble ((rest.map fun v => v.category).sum + 13) lo) = true)
    (kk : MW X (pc + 3, vs, .int (imin x y) :: rest, h, bk, bn)) : MW X (pc, vs, .int y :: .int x :: rest, h, bk, bn) := by
  have hi : okI own ini b (pc, 3, .invokestatic index, r1, r2, r3, cv) = true := List.all_eq_true.mp ht _ (List.mem_of_getElem? hc0)
  obtain ⟨p, l, e, R, s, m, args, below, meth, c, D, cA, ad0, n0, A, mc, ms, Q⟩ := X
  obtain ⟨hx, hcb, hown, hts, hK, hlk, hA, hin, hRc, hRs, hfr, hlo, hNW⟩ := C
  have hdg := okI_dec hi
  rw [Bool.and_eq_true] at hR
  have hR1 := Nat.le_of_ble_eq_true hR.1
  have hR2 := Nat.le_of_ble_eq_true hR.2
  have hwin := hw
  intro ad H locs ls k n hn0 had hP hD hS hl hk hn
  exact va_mmin hx hcb hl.2.1.symm hown (hts _ (hwin _ (by simp))) (hts _ (hwin _ (by simp))) (hts _ (hwin _ (by simp))) (hts _ (hwin _ (by simp))) (by omega) (by rw [cat_sum]; omega) (by omega) (by omega) hdg (kk ad H locs ls k n hn0 had hP hD hS hl hk hn)
theorem MW_copyi (C : CX X b own ini fr lo) (ht : tab.all (okI own ini b) = true) (i : Nat) (hc0 : tab[i]? = some (pc, 3, .invokestatic index, r1, r2, r3, cv)) {sp dp nn : Int32} {a0 a : Nat} {m0 m1 : Nat} {f g : Nat → Int32} (ha0 : h[a0]? = some (.inl (0, m0, .inl f))) (ha : h[a]? = some (.inl (0, m1, .inl g)))
    (hw : ∀ w ∈ [Cond.methodLink own index arraycopyName, .native arraycopyName, .static arraycopyName, .initialized "java/lang/System"], w ∈ TG) (hR : (Nat.ble 1 fr && Nat.ble ((rest.map fun v => v.category).sum + 18) lo) = true)
    (hg : ¬ sp < 0 ∧ ¬ dp < 0 ∧ ¬ nn < 0 ∧ sp.toNatClampNeg + nn.toNatClampNeg ≤ m0 ∧ dp.toNatClampNeg + nn.toNatClampNeg ≤ m1)
    (kk : MW X (pc + 3, vs, rest, h.set a (.inl (0, m1, .inl (va_cpy f g sp.toNatClampNeg dp.toNatClampNeg nn.toNatClampNeg))), bk, bn)) : MW X (pc, vs, .int nn :: .int dp :: .ref a :: .int sp :: .ref a0 :: rest, h, bk, bn) := by
  have hi : okI own ini b (pc, 3, .invokestatic index, r1, r2, r3, cv) = true := List.all_eq_true.mp ht _ (List.mem_of_getElem? hc0)
  obtain ⟨p, l, e, R, s, m, args, below, meth, c, D, cA, ad0, n0, A, mc, ms, Q⟩ := X
  obtain ⟨hx, hcb, hown, hts, hK, hlk, hA, hin, hRc, hRs, hfr, hlo, hNW⟩ := C
  have hdg := okI_dec hi
  rw [Bool.and_eq_true] at hR
  have hR1 := Nat.le_of_ble_eq_true hR.1
  have hR2 := Nat.le_of_ble_eq_true hR.2
  have hwin := hw
  intro ad H locs ls k n hn0 had hP hD hS hl hk hn
  refine va_copyi hx hcb hl.2.1.symm hown (hts _ (hwin _ (by simp))) (hts _ (hwin _ (by simp))) (hts _ (hwin _ (by simp))) (hts _ (hwin _ (by simp))) hK hP hD hS a0 a 0 0 (cW_get ha0) (cW_get ha) rfl rfl rfl hg.1 hg.2.1 hg.2.2.1 hg.2.2.2.1 hg.2.2.2.2 (fun _ _ => rfl) (by omega) (by rw [cat_sum]; simp [nativeFrameWords]; omega) hdg (fun H1 locs1 hP1 hD1 hS1 => ?_)
  have e1 := cW_set ad cA h a (.inl (0, m1, .inl (va_cpy f g sp.toNatClampNeg dp.toNatClampNeg nn.toNatClampNeg)))
  refine kk ad H1 locs1 ls k n (by rw [List.length_set]; exact hn0) (by rw [List.length_set]; exact had) ?_ ?_ hS1 hl hk hn
  · rw [← e1]; exact hP1
  · rw [← e1]; exact hD1
theorem MW_tsw (C : CX X b own ini fr lo) (ht : tab.all (okI own ini b) = true) (i : Nat) {len : Nat} {df hi9 : Int} {offs : Array Int} (hc0 : tab[i]? = some (pc, len, .tableswitch df 0 hi9 offs, r1, r2, r3, cv)) {x : Int32} (tgts : List Nat) (dt : Nat)
    (hw : (decide (hi9 = (tgts.length : Int) - 1) && decide (offs.toList.map (fun o => (pc : Int) + o) = tgts.map Int.ofNat) && decide ((pc : Int) + df = (dt : Int)) && Nat.ble tgts.length 1000) = true)
    (kin : ∀ (j t : Nat), tgts[j]? = some t → x = Int32.ofNat j → MW X (t, vs, rest, h, bk, bn)) (kout : (∀ j, j < tgts.length → ¬ x = Int32.ofNat j) → MW X (dt, vs, rest, h, bk, bn)) : MW X (pc, vs, .int x :: rest, h, bk, bn) := by
  have hi : okI own ini b (pc, len, .tableswitch df 0 hi9 offs, r1, r2, r3, cv) = true := List.all_eq_true.mp ht _ (List.mem_of_getElem? hc0)
  have hdg := okI_dec hi
  dsimp only at hdg
  clear hi
  simp only [Bool.and_eq_true, decide_eq_true_eq] at hw
  obtain ⟨⟨⟨w1, w2⟩, w3⟩, w4⟩ := hw
  have w4 := Nat.le_of_ble_eq_true w4
  by_cases hin9 : x.toInt < 0 ∨ hi9 < x.toInt
  · have hk9 := kout (fun j hj e => by
      subst e
      have : (Int32.ofNat j).toInt = j := nI_toInt (by omega)
      omega)
    obtain ⟨p, l, e, R, s, m, args, below, meth, c, D, cA, ad0, n0, A, mc, ms, Q⟩ := X
    obtain ⟨hx, hcb, hown, hts, hK, hlk, hA, hin, hRc, hRs, hfr, hlo, hNW⟩ := C
    intro ad H locs ls k n hn0 had hP hD hS hl hk hn
    exact lv_tableOut (dflt := df) (lo := 0) (hi := hi9) (offs := offs) (len := len) hx hcb hdg hin9 w3 (hk9 ad H locs ls k n hn0 had hP hD hS hl hk hn)
  · have a1 : ¬ x.toInt < 0 := fun z => hin9 (Or.inl z)
    have a2 : ¬ hi9 < x.toInt := fun z => hin9 (Or.inr z)
    have hl9 : offs.toList.length = tgts.length := by
      have := congrArg List.length w2
      simpa using this
    have hj : x.toInt.toNat < tgts.length := by omega
    have hx9 : x = Int32.ofNat x.toInt.toNat := by
      apply Int32.toInt_inj.mp
      rw [show (Int32.ofNat x.toInt.toNat).toInt = (x.toInt.toNat : Int) from nI_toInt (by omega)]
      omega
    have hk9 := kin x.toInt.toNat tgts[x.toInt.toNat] (List.getElem?_eq_getElem hj) hx9
    have hlo9 : x.toInt.toNat < offs.toList.length := by omega
    have ho : offs[(x.toInt - 0).toNat]? = some (offs.toList[x.toInt.toNat]) := by
      rw [show (x.toInt - 0).toNat = x.toInt.toNat by omega, ← Array.getElem?_toList, List.getElem?_eq_getElem hlo9]
    have htg : (pc : Int) + offs.toList[x.toInt.toNat] = (tgts[x.toInt.toNat] : Int) := by
      have := congrArg (fun l => l[x.toInt.toNat]?) w2
      simp only [List.getElem?_map, List.getElem?_eq_getElem hlo9, List.getElem?_eq_getElem hj] at this
      exact Option.some.inj this
    obtain ⟨p, l, e, R, s, m, args, below, meth, c, D, cA, ad0, n0, A, mc, ms, Q⟩ := X
    obtain ⟨hx, hcb, hown, hts, hK, hlk, hA, hin, hRc, hRs, hfr, hlo, hNW⟩ := C
    intro ad H locs ls k n hn0 had hP hD hS hl hk hn
    exact lv_tableIn (dflt := df) (lo := 0) (hi := hi9) (offs := offs) (len := len) hx hcb hdg a1 a2 ho htg (hk9 ad H locs ls k n hn0 had hP hD hS hl hk hn)
end
end
section
/-! WHAT THE WRITTEN-OUT WALKS USE -/
theorem of_guard {α : Type} {c : Prop} [Decidable c] {a : Option α} {r : α} (h : (if c then a else none) = some r) : c ∧ a = some r := by
  by_cases hc : c
  · rw [if_pos hc] at h; exact ⟨hc, h⟩
  · rw [if_neg hc] at h; cases h
theorem of_if {α : Type} {c : Prop} [Decidable c] {a b : Option α} {r : α} (h : (if c then a else b) = some r) : (c → a = some r) ∧ (¬ c → b = some r) := ⟨fun hc => by rw [if_pos hc] at h; exact h, fun hc => by rw [if_neg hc] at h; exact h⟩
theorem of_bind {α β : Type} {x : Option α} {f : α → Option β} {r : β} (h : x.bind f = some r) : ∃ a, x = some a ∧ f a = some r := Option.bind_eq_some_iff.mp h
def rd {α : Type} (f : Nat → α) (i : Int32) : α := f i.toNatClampNeg
def wr (f : Nat → Int32) (i : Int32) (x : Int32) : Nat → Int32 := upd f i.toNatClampNeg x
def wrL (f : Nat → Int64) (i : Int32) (x : Int64) : Nat → Int64 := vp_updL f i.toNatClampNeg x
def N0 : Nat := 1000000
def narB (x : Int32) : Int32 := vp_nar .byte x
def narZ (x : Int32) : Int32 := vp_nar .boolean x
section
variable {X : CTX} {b : ByteArray} {own : String} {ini : Bool} {fr lo : Nat} {tab : List CI} {pc : Nat} {vs : List (Option Value)} {st : List Value} {h hc : AH} {bk bn bk' bn' : Nat} {K : Option Value → AH → Prop} {r1 r2 r3 index : Nat} {cv : Value} {y : MethodName} {by' : ByteArray} {nL' fr' lo' mc' ms' : Nat} {ret' : Option FieldType} {as : List Value}
theorem MW_brT (C : CX X b own ini fr lo) (ht : tab.all (okI own ini b) = true) (i : Nat) {tgt : Nat} {r : List Value} {I : Instr} {P : Prop}
    (hc : tab[i]? = some (pc, 3, I, tgt, r2, r3, cv)) (hb : bcnd I st = some (P, false, r)) (kt : P → MW X (tgt, vs, r, h, bk, bn)) (kf : ¬ P → MW X (pc + 3, vs, r, h, bk, bn)) : MW X (pc, vs, st, h, bk, bn) := MW_br C ht i hc hb kt kf
theorem MW_brF (C : CX X b own ini fr lo) (ht : tab.all (okI own ini b) = true) (i : Nat) {tgt : Nat} {r : List Value} {I : Instr} {P : Prop}
    (hc : tab[i]? = some (pc, 3, I, tgt, r2, r3, cv)) (hb : bcnd I st = some (P, true, r)) (kt : P → MW X (pc + 3, vs, r, h, bk, bn)) (kf : ¬ P → MW X (tgt, vs, r, h, bk, bn)) : MW X (pc, vs, st, h, bk, bn) := MW_br C ht i hc hb kt kf
theorem rnF_range (N r : Nat) : rnF (List.range N) N r = r := by
  unfold rnF
  by_cases h : r < N
  · rw [List.getElem?_range h]
  · rw [List.getElem?_eq_none (by simp; omega)]
    simp; omega
theorem cV_idf {f : Nat → Nat} (hf : ∀ i, f i = i) (v : Value) : cV f v = v := by cases v <;> simp [cV, hf]
theorem l_idf {f : Nat → Nat} (hf : ∀ i, f i = i) (l : List Value) : l.map (cV f) = l := by
  have : cV f = id := by funext v; exact cV_idf hf v
  rw [this, List.map_id]
theorem rE_idf {f : Nat → Nat} (hf : ∀ i, f i = i) (e : AE) : rE f e = e := by
  cases e with
  | inl x => rfl
  | inr x => simp only [rE]; rw [l_idf hf]
theorem cells_idf {f : Nat → Nat} (hf : ∀ i, f i = i) (l : AH) : l.map (rE f) = l := by
  have : rE f = id := by funext v; exact rE_idf hf v
  rw [this, List.map_id]
theorem posAt_range : ∀ (n k : Nat) (cs : AH) (j : Nat), cs.length = n → j < n → posAt (List.range' k n) cs (k + j) = cs[j]?
  | 0, k, cs, j, _, hj => by omega
  | n + 1, k, [], j, hl, _ => by simp at hl
  | n + 1, k, c :: cs, 0, hl, _ => by
    rw [List.range'_succ, posAt]
    simp
  | n + 1, k, c :: cs, j + 1, hl, hj => by
    rw [List.range'_succ, posAt]
    have : Nat.beq k (k + (j + 1)) = false := by
      cases h : Nat.beq k (k + (j + 1)) with
      | false => rfl
      | true => exact absurd (Nat.eq_of_beq_eq_true h) (by omega)
    rw [this]
    have := posAt_range n (k + 1) cs j (by simpa using hl) (by omega)
    rw [show k + 1 + j = k + (j + 1) by omega] at this
    simpa using this
theorem jnA_id {f : Nat → Nat} (hf : ∀ i, f i = i) (cs : AH) : ∀ (h : AH) (k : Nat), k + h.length = cs.length → jnA f (List.range cs.length) cs k h = cs.drop k
  | [], k, hk => by
    rw [jnA, List.drop_eq_nil_of_le (by simp at hk; omega)]
  | c :: r, k, hk => by
    have hlt : k < cs.length := by simp at hk; omega
    have h1 := posAt_range cs.length 0 cs k rfl hlt
    rw [Nat.zero_add, ← List.range_eq_range', List.getElem?_eq_getElem hlt] at h1
    rw [jnA, h1, jnA_id hf cs r (k + 1) (by simp at hk; omega), List.drop_eq_getElem_cons hlt]
    simp only
    rw [rE_idf hf]
theorem jn_id {h h' : AH} (hl : h'.length = h.length) : jn h (List.range h.length) h.length h' = h' := by
  unfold jn
  rw [List.take_of_length_le (by simp), List.drop_eq_nil_of_le (by omega), List.map_nil, apn_eq, List.append_nil]
  have := jnA_id (rnF_range h.length) h' h 0 (by omega)
  rw [hl] at this
  exact this
theorem nd_range (n : Nat) : va_nd ((List.range n).take n) = true := by
  rw [List.take_of_length_le (by simp)]
  have : ∀ l : List Nat, l.Nodup → va_nd l = true := by
    intro l hl
    induction l with
    | nil => rfl
    | cons a l ih =>
      have h2 := List.nodup_cons.mp hl
      simp only [va_nd, Bool.and_eq_true, decide_eq_true_eq]
      exact ⟨h2.1, ih h2.2⟩
  exact this _ List.nodup_range
theorem map_range (h : AH) : ((List.range h.length).take h.length).map (fun i => h[i]?) = h.map (fun c => some (rE (rnF (List.range h.length) h.length) c)) := by
  have e : h.map (fun c => some (rE (rnF (List.range h.length) h.length) c)) = (h.map (rE (rnF (List.range h.length) h.length))).map some := by rw [List.map_map]; rfl
  rw [e, cells_idf (rnF_range _), List.take_of_length_le (by simp)]
  apply List.ext_getElem?
  intro j
  rw [List.getElem?_map, List.getElem?_map]
  by_cases hj : j < h.length
  · rw [List.getElem?_range hj, List.getElem?_eq_getElem hj]; simp
  · rw [List.getElem?_eq_none (by simp; omega), List.getElem?_eq_none (by omega)]; rfl
/-- a call whose cells are all the caller's -/
theorem MW_callV0 (C : CX X b own ini fr lo) (ht : tab.all (okI own ini b) = true) (i : Nat) (hc0 : tab[i]? = some (pc, 3, .invokevirtual index, r1, r2, r3, cv)) {v0 : Option Value} {h0 : AH} (hCT : CT y by' nL' ret' fr' lo' 0 0 as h (fun v h' => v = v0 ∧ h' = h0))
    (hw : ∀ w ∈ [Cond.methodLink own index y, .instanceMethod y, .selects y.cls y y, .initialized y.cls, .code y by' nL' ret'], w ∈ TG) (n : Nat)
    (hd : (decide (y.cls ≠ "java/lang/invoke/MethodHandle") && decide (y.cls ≠ "java/lang/invoke/VarHandle") && decide ((parseMethodDescriptor y.desc).map (fun d => d.parameters.length) = some n)) = true)
    (hR : (Nat.ble (fr' + 1) fr && Nat.ble (8 + (nL' + 11) + lo') lo) = true) {rr ci : Nat} {q : vw_C} {fs : List Value} {As rest : List Value} (has : as = .ref rr :: As) (hlen : As.length = n) (hrecv : h[rr]? = some (.inr (ci, fs))) (hcl : CL[ci]? = some q) (hqy : q.1 = y.cls)
    (hst : st = as.reverse ++ rest) (hrs : Nat.ble (rest.map fun v => v.category).sum 8 = true) (hl0 : h0.length = h.length)
    (kk : MW X (pc + 3, vs, v0.toList ++ rest, h0, bk, bn)) : MW X (pc, vs, st, h, bk, bn) := by
  refine MW_callV (rho := List.range h.length) (hc := h) C ht i hc0 hCT hw n hd hR has hlen hrecv hcl hqy (rest := rest) (by rw [hst, l_idf (rnF_range _)]) hrs (by simp) (nd_range _) (map_range h) (fun v h' hk => Or.inl (by rw [hk.2]; exact hl0)) (bk' := bk) (bn' := bn) (by omega) (by omega) (fun v h' hk => ?_)
  obtain ⟨rfl, rfl⟩ := hk
  rw [l_idf (rnF_range _), jn_id hl0]
  exact kk
theorem MW_callS0 (C : CX X b own ini fr lo) (ht : tab.all (okI own ini b) = true) (i : Nat) (hc0 : tab[i]? = some (pc, 3, .invokestatic index, r1, r2, r3, cv)) {v0 : Option Value} (hCT : CT y by' nL' ret' fr' lo' 0 0 as [] (fun v h' => v = v0 ∧ h' = []))
    (hw : ∀ w ∈ [Cond.methodLink own index y, .static y, .initialized y.cls, .code y by' nL' ret'], w ∈ TG) (n : Nat)
    (hd : (decide (y.cls ≠ "java/lang/invoke/MethodHandle") && decide (y.cls ≠ "java/lang/invoke/VarHandle") && decide ((parseMethodDescriptor y.desc).map (fun d => d.parameters.length) = some n)) = true)
    (hR : (Nat.ble (fr' + 1) fr && Nat.ble (8 + (nL' + 11) + lo') lo) = true) {rest : List Value} (hlen : as.length = n)
    (hst : st = as.reverse ++ rest) (hrs : Nat.ble (rest.map fun v => v.category).sum 8 = true) (halt : as.all (fun v => match v with | .ref _ => false | _ => true) = true) (hvlt : v0.toList.all (fun v => match v with | .ref _ => false | _ => true) = true)
    (kk : MW X (pc + 3, vs, v0.toList ++ rest, h, bk, bn)) : MW X (pc, vs, st, h, bk, bn) := by
  have hf : ∀ (f : Nat → Nat) (l : List Value), l.all (fun v => match v with | .ref _ => false | _ => true) = true → l.map (cV f) = l := fun f l hl => by
    have : l.map (cV f) = l.map id := by
      apply List.map_congr_left
      intro v hv
      have := List.all_eq_true.mp hl v hv
      cases v <;> simp at this <;> rfl
    rw [this, List.map_id]
  refine MW_callS (rho := []) (hc := []) C ht i hc0 hCT hw n hd hR hlen (rest := rest) (by rw [hst, hf _ _ halt]) hrs rfl rfl rfl (fun v h' hk => Or.inl (by rw [hk.2])) (bk' := bk) (bn' := bn) (by omega) (by omega) (fun v h' hk => ?_)
  obtain ⟨rfl, rfl⟩ := hk
  rw [hf _ _ hvlt]
  have : jn h [] (List.length ([] : AH)) [] = h := by
    unfold jn
    rw [apn_eq, List.drop_nil, List.map_nil, List.append_nil]
    have : ∀ (k : Nat) (g : AH), jnA (rnF [] h.length) (List.take 0 []) [] k g = g := by
      intro k g
      induction g generalizing k with
      | nil => rfl
      | cons c r ih => rw [jnA, ih]; rfl
    exact this 0 h
  rw [this]
  exact kk
/-- calls whose cells are some of the caller's, and whose end is known -/
theorem MW_callV1 (C : CX X b own ini fr lo) (ht : tab.all (okI own ini b) = true) (i : Nat) (hc0 : tab[i]? = some (pc, 3, .invokevirtual index, r1, r2, r3, cv)) (rho : List Nat) {v0 : Option Value} {h0 : AH} (hCT : CT y by' nL' ret' fr' lo' 0 0 as hc (fun v h' => v = v0 ∧ h' = h0))
    (hw : ∀ w ∈ [Cond.methodLink own index y, .instanceMethod y, .selects y.cls y y, .initialized y.cls, .code y by' nL' ret'], w ∈ TG) (n : Nat)
    (hd : (decide (y.cls ≠ "java/lang/invoke/MethodHandle") && decide (y.cls ≠ "java/lang/invoke/VarHandle") && decide ((parseMethodDescriptor y.desc).map (fun d => d.parameters.length) = some n)) = true)
    (hR : (Nat.ble (fr' + 1) fr && Nat.ble (8 + (nL' + 11) + lo') lo) = true) {rr ci : Nat} {q : vw_C} {fs : List Value} {As rest : List Value} (has : as = .ref rr :: As) (hlen : As.length = n) (hrecv : hc[rr]? = some (.inr (ci, fs))) (hcl : CL[ci]? = some q) (hqy : q.1 = y.cls)
    (hst : st = (as.map (cV (rnF rho h.length))).reverse ++ rest) (hrs : Nat.ble (rest.map fun v => v.category).sum 8 = true) (hr : Nat.ble hc.length rho.length = true) (hnd : va_nd (rho.take hc.length) = true) (hm : (rho.take hc.length).map (fun i => h[i]?) = hc.map (fun c => some (rE (rnF rho h.length) c))) (hl0 : h0.length = hc.length)
    {st2 : List Value} {h2 : AH} (hs2 : v0.toList.map (cV (rnF rho h.length)) ++ rest = st2) (hj : jn h rho hc.length h0 = h2)
    (kk : MW X (pc + 3, vs, st2, h2, bk, bn)) : MW X (pc, vs, st, h, bk, bn) := by
  refine MW_callV C ht i hc0 hCT hw n hd hR has hlen hrecv hcl hqy (rest := rest) hst hrs hr hnd hm (fun v h' hk => Or.inl (by rw [hk.2]; exact hl0)) (bk' := bk) (bn' := bn) (by omega) (by omega) (fun v h' hk => ?_)
  obtain ⟨rfl, rfl⟩ := hk
  rw [hs2, hj]
  exact kk
theorem MW_callS1 (C : CX X b own ini fr lo) (ht : tab.all (okI own ini b) = true) (i : Nat) (hc0 : tab[i]? = some (pc, 3, .invokestatic index, r1, r2, r3, cv)) (rho : List Nat) {v0 : Option Value} {h0 : AH} (hCT : CT y by' nL' ret' fr' lo' 0 0 as hc (fun v h' => v = v0 ∧ h' = h0))
    (hw : ∀ w ∈ [Cond.methodLink own index y, .static y, .initialized y.cls, .code y by' nL' ret'], w ∈ TG) (n : Nat)
    (hd : (decide (y.cls ≠ "java/lang/invoke/MethodHandle") && decide (y.cls ≠ "java/lang/invoke/VarHandle") && decide ((parseMethodDescriptor y.desc).map (fun d => d.parameters.length) = some n)) = true)
    (hR : (Nat.ble (fr' + 1) fr && Nat.ble (8 + (nL' + 11) + lo') lo) = true) {rest : List Value} (hlen : as.length = n)
    (hst : st = (as.map (cV (rnF rho h.length))).reverse ++ rest) (hrs : Nat.ble (rest.map fun v => v.category).sum 8 = true) (hr : Nat.ble hc.length rho.length = true) (hnd : va_nd (rho.take hc.length) = true) (hm : (rho.take hc.length).map (fun i => h[i]?) = hc.map (fun c => some (rE (rnF rho h.length) c))) (hl0 : h0.length = hc.length)
    {st2 : List Value} {h2 : AH} (hs2 : v0.toList.map (cV (rnF rho h.length)) ++ rest = st2) (hj : jn h rho hc.length h0 = h2)
    (kk : MW X (pc + 3, vs, st2, h2, bk, bn)) : MW X (pc, vs, st, h, bk, bn) := by
  refine MW_callS C ht i hc0 hCT hw n hd hR hlen (rest := rest) hst hrs hr hnd hm (fun v h' hk => Or.inl (by rw [hk.2]; exact hl0)) (bk' := bk) (bn' := bn) (by omega) (by omega) (fun v h' hk => ?_)
  obtain ⟨rfl, rfl⟩ := hk
  rw [hs2, hj]
  exact kk
theorem MW_callSN1 (C : CX X b own ini fr lo) (ht : tab.all (okI own ini b) = true) (i : Nat) (hc0 : tab[i]? = some (pc, 3, .invokestatic index, r1, r2, r3, cv)) (rho : List Nat) {v0 : Option Value} {h0 : AH} (hCT : CT y by' nL' ret' fr' lo' 0 0 as hc (fun v h' => v = v0 ∧ h' = h0))
    (hw : ∀ w ∈ [Cond.static y, .initialized y.cls, .code y by' nL' ret'], w ∈ TG) (n : Nat)
    (hd : (decide (y.cls ≠ "java/lang/invoke/MethodHandle") && decide (y.cls ≠ "java/lang/invoke/VarHandle") && decide ((parseMethodDescriptor y.desc).map (fun d => d.parameters.length) = some n)) = true)
    (hR : (Nat.ble (fr' + 1) fr && Nat.ble (8 + (nL' + 11) + lo') lo) = true) {rest : List Value} {host : String} (hlen : as.length = n) (hnw : decide (Cond.methodLinkNest own index y host ∈ NW) = true)
    (hst : st = (as.map (cV (rnF rho h.length))).reverse ++ rest) (hrs : Nat.ble (rest.map fun v => v.category).sum 8 = true) (hr : Nat.ble hc.length rho.length = true) (hnd : va_nd (rho.take hc.length) = true) (hm : (rho.take hc.length).map (fun i => h[i]?) = hc.map (fun c => some (rE (rnF rho h.length) c))) (hl0 : h0.length = hc.length)
    {st2 : List Value} {h2 : AH} (hs2 : v0.toList.map (cV (rnF rho h.length)) ++ rest = st2) (hj : jn h rho hc.length h0 = h2)
    (kk : MW X (pc + 3, vs, st2, h2, bk, bn)) : MW X (pc, vs, st, h, bk, bn) := by
  refine MW_callSN C ht i hc0 hCT hw n hd hR hlen hnw (rest := rest) hst hrs hr hnd hm (fun v h' hk => Or.inl (by rw [hk.2]; exact hl0)) (bk' := bk) (bn' := bn) (by omega) (by omega) (fun v h' hk => ?_)
  obtain ⟨rfl, rfl⟩ := hk
  rw [hs2, hj]
  exact kk
end
end
