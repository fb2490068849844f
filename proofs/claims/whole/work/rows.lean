section
-- ===== PART A: goes FIRST, ahead of the names: the tables' words, and 'selects' of the private methods out of them =====
/-- a private method of a class that the tables say can be made, by its rows of tables_1 -/
def lw_okq (q : MethodName × Nat) : Prop := (q.1.cls ≠ "java/lang/invoke/MethodHandle" ∧ q.1.cls ≠ "java/lang/invoke/VarHandle") ∧ Cond.instantiable q.1.cls q.2 ∈ tables_1 ∧ Cond.privateMethod q.1 ∈ tables_1 ∧ Cond.instanceMethod q.1 ∈ tables_1
theorem lw_p0 : lw_okq (⟨"SidingOrders$Pad", "signAt", "(I)I"⟩, 2) := ⟨⟨by decide +kernel, by decide +kernel⟩, List.mem_of_getElem? (i := 26) (by decide +kernel), List.mem_of_getElem? (i := 271) (by decide +kernel), List.mem_of_getElem? (i := 272) (by decide +kernel)⟩
theorem lw_p1 : lw_okq (⟨"SidingOrders$Yard", "takesOutAt", "(II)Z"⟩, 9) := ⟨⟨by decide +kernel, by decide +kernel⟩, List.mem_of_getElem? (i := 41) (by decide +kernel), List.mem_of_getElem? (i := 290) (by decide +kernel), List.mem_of_getElem? (i := 291) (by decide +kernel)⟩
theorem lw_p2 : lw_okq (⟨"SidingOrders$Yard", "listMovesFrom", "(II)V"⟩, 9) := ⟨⟨by decide +kernel, by decide +kernel⟩, List.mem_of_getElem? (i := 41) (by decide +kernel), List.mem_of_getElem? (i := 298) (by decide +kernel), List.mem_of_getElem? (i := 299) (by decide +kernel)⟩
theorem lw_p3 : lw_okq (⟨"SidingOrders$Yard", "stageOf", "(I)I"⟩, 9) := ⟨⟨by decide +kernel, by decide +kernel⟩, List.mem_of_getElem? (i := 41) (by decide +kernel), List.mem_of_getElem? (i := 306) (by decide +kernel), List.mem_of_getElem? (i := 307) (by decide +kernel)⟩
theorem lw_p4 : lw_okq (⟨"SidingOrders$Yard", "putsInAt", "(II)Z"⟩, 9) := ⟨⟨by decide +kernel, by decide +kernel⟩, List.mem_of_getElem? (i := 41) (by decide +kernel), List.mem_of_getElem? (i := 314) (by decide +kernel), List.mem_of_getElem? (i := 315) (by decide +kernel)⟩
theorem lw_p5 : lw_okq (⟨"SidingOrders$Yard", "addMove", "(I)V"⟩, 9) := ⟨⟨by decide +kernel, by decide +kernel⟩, List.mem_of_getElem? (i := 41) (by decide +kernel), List.mem_of_getElem? (i := 318) (by decide +kernel), List.mem_of_getElem? (i := 319) (by decide +kernel)⟩
theorem lw_p6 : lw_okq (⟨"SidingOrders", "forgetFindings", "()V"⟩, 10) := ⟨⟨by decide +kernel, by decide +kernel⟩, List.mem_of_getElem? (i := 18) (by decide +kernel), List.mem_of_getElem? (i := 395) (by decide +kernel), List.mem_of_getElem? (i := 396) (by decide +kernel)⟩
theorem lw_p7 : lw_okq (⟨"SidingOrders", "isMissing", "(I)Z"⟩, 10) := ⟨⟨by decide +kernel, by decide +kernel⟩, List.mem_of_getElem? (i := 18) (by decide +kernel), List.mem_of_getElem? (i := 417) (by decide +kernel), List.mem_of_getElem? (i := 418) (by decide +kernel)⟩
theorem lw_p8 : lw_okq (⟨"SidingOrders", "leastOf", "(LSidingOrders$Yard;III)I"⟩, 10) := ⟨⟨by decide +kernel, by decide +kernel⟩, List.mem_of_getElem? (i := 18) (by decide +kernel), List.mem_of_getElem? (i := 438) (by decide +kernel), List.mem_of_getElem? (i := 439) (by decide +kernel)⟩
theorem lw_p9 : lw_okq (⟨"SidingOrders$Places", "insert", "(III)V"⟩, 2) := ⟨⟨by decide +kernel, by decide +kernel⟩, List.mem_of_getElem? (i := 110) (by decide +kernel), List.mem_of_getElem? (i := 468) (by decide +kernel), List.mem_of_getElem? (i := 469) (by decide +kernel)⟩
theorem lw_p10 : lw_okq (⟨"SidingOrders$Places", "insertAt", "(III)V"⟩, 2) := ⟨⟨by decide +kernel, by decide +kernel⟩, List.mem_of_getElem? (i := 110) (by decide +kernel), List.mem_of_getElem? (i := 479) (by decide +kernel), List.mem_of_getElem? (i := 480) (by decide +kernel)⟩
theorem lw_p11 : lw_okq (⟨"SidingOrders$Survey", "spread", "(LSidingOrders$Yard;IJ)V"⟩, 3) := ⟨⟨by decide +kernel, by decide +kernel⟩, List.mem_of_getElem? (i := 177) (by decide +kernel), List.mem_of_getElem? (i := 507) (by decide +kernel), List.mem_of_getElem? (i := 508) (by decide +kernel)⟩
theorem lw_p12 : lw_okq (⟨"SidingOrders$Places", "take", "(IZ)I"⟩, 2) := ⟨⟨by decide +kernel, by decide +kernel⟩, List.mem_of_getElem? (i := 110) (by decide +kernel), List.mem_of_getElem? (i := 527) (by decide +kernel), List.mem_of_getElem? (i := 528) (by decide +kernel)⟩
theorem lw_p13 : lw_okq (⟨"SidingOrders$Places", "put", "(IIZ)V"⟩, 2) := ⟨⟨by decide +kernel, by decide +kernel⟩, List.mem_of_getElem? (i := 110) (by decide +kernel), List.mem_of_getElem? (i := 534) (by decide +kernel), List.mem_of_getElem? (i := 535) (by decide +kernel)⟩
theorem lw_p14 : lw_okq (⟨"SidingOrders$Survey", "reach", "(IIJ)V"⟩, 3) := ⟨⟨by decide +kernel, by decide +kernel⟩, List.mem_of_getElem? (i := 177) (by decide +kernel), List.mem_of_getElem? (i := 544) (by decide +kernel), List.mem_of_getElem? (i := 545) (by decide +kernel)⟩
theorem lw_p15 : lw_okq (⟨"SidingOrders$Search", "bestMove", "()I"⟩, 6) := ⟨⟨by decide +kernel, by decide +kernel⟩, List.mem_of_getElem? (i := 196) (by decide +kernel), List.mem_of_getElem? (i := 592) (by decide +kernel), List.mem_of_getElem? (i := 593) (by decide +kernel)⟩
def lw_privs_1 : List (MethodName × Nat) := [(⟨"SidingOrders$Pad", "signAt", "(I)I"⟩, 2), (⟨"SidingOrders$Yard", "takesOutAt", "(II)Z"⟩, 9), (⟨"SidingOrders$Yard", "listMovesFrom", "(II)V"⟩, 9), (⟨"SidingOrders$Yard", "stageOf", "(I)I"⟩, 9), (⟨"SidingOrders$Yard", "putsInAt", "(II)Z"⟩, 9), (⟨"SidingOrders$Yard", "addMove", "(I)V"⟩, 9), (⟨"SidingOrders", "forgetFindings", "()V"⟩, 10), (⟨"SidingOrders", "isMissing", "(I)Z"⟩, 10), (⟨"SidingOrders", "leastOf", "(LSidingOrders$Yard;III)I"⟩, 10), (⟨"SidingOrders$Places", "insert", "(III)V"⟩, 2), (⟨"SidingOrders$Places", "insertAt", "(III)V"⟩, 2), (⟨"SidingOrders$Survey", "spread", "(LSidingOrders$Yard;IJ)V"⟩, 3), (⟨"SidingOrders$Places", "take", "(IZ)I"⟩, 2), (⟨"SidingOrders$Places", "put", "(IIZ)V"⟩, 2), (⟨"SidingOrders$Survey", "reach", "(IIJ)V"⟩, 3), (⟨"SidingOrders$Search", "bestMove", "()I"⟩, 6)]
theorem lw_r1 : ∀ q ∈ lw_privs_1, lw_okq q := List.forall_mem_cons.mpr ⟨lw_p0, List.forall_mem_cons.mpr ⟨lw_p1, List.forall_mem_cons.mpr ⟨lw_p2, List.forall_mem_cons.mpr ⟨lw_p3, List.forall_mem_cons.mpr ⟨lw_p4, List.forall_mem_cons.mpr ⟨lw_p5, List.forall_mem_cons.mpr ⟨lw_p6, List.forall_mem_cons.mpr ⟨lw_p7, List.forall_mem_cons.mpr ⟨lw_p8, List.forall_mem_cons.mpr ⟨lw_p9, List.forall_mem_cons.mpr ⟨lw_p10, List.forall_mem_cons.mpr ⟨lw_p11, List.forall_mem_cons.mpr ⟨lw_p12, List.forall_mem_cons.mpr ⟨lw_p13, List.forall_mem_cons.mpr ⟨lw_p14, List.forall_mem_cons.mpr ⟨lw_p15, fun _ h => absurd h List.not_mem_nil⟩⟩⟩⟩⟩⟩⟩⟩⟩⟩⟩⟩⟩⟩⟩⟩
theorem lw_p16 : lw_okq (⟨"SidingOrders$Search", "isAstray", "()Z"⟩, 6) := ⟨⟨by decide +kernel, by decide +kernel⟩, List.mem_of_getElem? (i := 196) (by decide +kernel), List.mem_of_getElem? (i := 600) (by decide +kernel), List.mem_of_getElem? (i := 601) (by decide +kernel)⟩
theorem lw_p17 : lw_okq (⟨"SidingOrders$Search", "fits", "(I)Z"⟩, 6) := ⟨⟨by decide +kernel, by decide +kernel⟩, List.mem_of_getElem? (i := 196) (by decide +kernel), List.mem_of_getElem? (i := 607) (by decide +kernel), List.mem_of_getElem? (i := 608) (by decide +kernel)⟩
theorem lw_p18 : lw_okq (⟨"SidingOrders", "leastSorted", "(LSidingOrders$Yard;II)I"⟩, 10) := ⟨⟨by decide +kernel, by decide +kernel⟩, List.mem_of_getElem? (i := 18) (by decide +kernel), List.mem_of_getElem? (i := 640) (by decide +kernel), List.mem_of_getElem? (i := 641) (by decide +kernel)⟩
theorem lw_p19 : lw_okq (⟨"SidingOrders$Needs", "setLengths", "(LSidingOrders$Yard;I)I"⟩, 3) := ⟨⟨by decide +kernel, by decide +kernel⟩, List.mem_of_getElem? (i := 223) (by decide +kernel), List.mem_of_getElem? (i := 663) (by decide +kernel), List.mem_of_getElem? (i := 664) (by decide +kernel)⟩
theorem lw_p20 : lw_okq (⟨"SidingOrders", "aimAtPlay", "()V"⟩, 10) := ⟨⟨by decide +kernel, by decide +kernel⟩, List.mem_of_getElem? (i := 18) (by decide +kernel), List.mem_of_getElem? (i := 723) (by decide +kernel), List.mem_of_getElem? (i := 724) (by decide +kernel)⟩
theorem lw_p21 : lw_okq (⟨"SidingOrders$Thumbs", "choose", "(LSidingOrders$Yard;I)I"⟩, 1) := ⟨⟨by decide +kernel, by decide +kernel⟩, List.mem_of_getElem? (i := 243) (by decide +kernel), List.mem_of_getElem? (i := 766) (by decide +kernel), List.mem_of_getElem? (i := 767) (by decide +kernel)⟩
theorem lw_p22 : lw_okq (⟨"SidingOrders$Thumbs", "wantedOut", "(LSidingOrders$Yard;)I"⟩, 1) := ⟨⟨by decide +kernel, by decide +kernel⟩, List.mem_of_getElem? (i := 243) (by decide +kernel), List.mem_of_getElem? (i := 770) (by decide +kernel), List.mem_of_getElem? (i := 771) (by decide +kernel)⟩
theorem lw_p23 : lw_okq (⟨"SidingOrders$Thumbs", "fromEntry", "(LSidingOrders$Yard;I)I"⟩, 1) := ⟨⟨by decide +kernel, by decide +kernel⟩, List.mem_of_getElem? (i := 243) (by decide +kernel), List.mem_of_getElem? (i := 777) (by decide +kernel), List.mem_of_getElem? (i := 778) (by decide +kernel)⟩
theorem lw_p24 : lw_okq (⟨"SidingOrders$Thumbs", "isBelowAll", "(II)Z"⟩, 1) := ⟨⟨by decide +kernel, by decide +kernel⟩, List.mem_of_getElem? (i := 243) (by decide +kernel), List.mem_of_getElem? (i := 782) (by decide +kernel), List.mem_of_getElem? (i := 783) (by decide +kernel)⟩
theorem lw_p25 : lw_okq (⟨"SidingOrders$Thumbs", "onward", "(LSidingOrders$Yard;)I"⟩, 1) := ⟨⟨by decide +kernel, by decide +kernel⟩, List.mem_of_getElem? (i := 243) (by decide +kernel), List.mem_of_getElem? (i := 788) (by decide +kernel), List.mem_of_getElem? (i := 789) (by decide +kernel)⟩
theorem lw_p26 : lw_okq (⟨"SidingOrders", "imageAt", "(I)LSidingOrders$Image;"⟩, 10) := ⟨⟨by decide +kernel, by decide +kernel⟩, List.mem_of_getElem? (i := 18) (by decide +kernel), List.mem_of_getElem? (i := 808) (by decide +kernel), List.mem_of_getElem? (i := 809) (by decide +kernel)⟩
theorem lw_p27 : lw_okq (⟨"SidingOrdersModel", "forget", "()V"⟩, 44) := ⟨⟨by decide +kernel, by decide +kernel⟩, List.mem_of_getElem? (i := 826) (by decide +kernel), List.mem_of_getElem? (i := 995) (by decide +kernel), List.mem_of_getElem? (i := 996) (by decide +kernel)⟩
theorem lw_p28 : lw_okq (⟨"SidingOrdersModel", "isSiding", "(I)Z"⟩, 44) := ⟨⟨by decide +kernel, by decide +kernel⟩, List.mem_of_getElem? (i := 826) (by decide +kernel), List.mem_of_getElem? (i := 1003) (by decide +kernel), List.mem_of_getElem? (i := 1004) (by decide +kernel)⟩
theorem lw_p29 : lw_okq (⟨"SidingOrdersModel", "goes", "(II)Z"⟩, 44) := ⟨⟨by decide +kernel, by decide +kernel⟩, List.mem_of_getElem? (i := 826) (by decide +kernel), List.mem_of_getElem? (i := 1013) (by decide +kernel), List.mem_of_getElem? (i := 1014) (by decide +kernel)⟩
theorem lw_p30 : lw_okq (⟨"SidingOrdersModel", "found", "(III)I"⟩, 44) := ⟨⟨by decide +kernel, by decide +kernel⟩, List.mem_of_getElem? (i := 826) (by decide +kernel), List.mem_of_getElem? (i := 1028) (by decide +kernel), List.mem_of_getElem? (i := 1029) (by decide +kernel)⟩
theorem lw_p31 : lw_okq (⟨"SidingOrdersModel", "findAll", "(I)V"⟩, 44) := ⟨⟨by decide +kernel, by decide +kernel⟩, List.mem_of_getElem? (i := 826) (by decide +kernel), List.mem_of_getElem? (i := 1032) (by decide +kernel), List.mem_of_getElem? (i := 1033) (by decide +kernel)⟩
def lw_privs_2 : List (MethodName × Nat) := [(⟨"SidingOrders$Search", "isAstray", "()Z"⟩, 6), (⟨"SidingOrders$Search", "fits", "(I)Z"⟩, 6), (⟨"SidingOrders", "leastSorted", "(LSidingOrders$Yard;II)I"⟩, 10), (⟨"SidingOrders$Needs", "setLengths", "(LSidingOrders$Yard;I)I"⟩, 3), (⟨"SidingOrders", "aimAtPlay", "()V"⟩, 10), (⟨"SidingOrders$Thumbs", "choose", "(LSidingOrders$Yard;I)I"⟩, 1), (⟨"SidingOrders$Thumbs", "wantedOut", "(LSidingOrders$Yard;)I"⟩, 1), (⟨"SidingOrders$Thumbs", "fromEntry", "(LSidingOrders$Yard;I)I"⟩, 1), (⟨"SidingOrders$Thumbs", "isBelowAll", "(II)Z"⟩, 1), (⟨"SidingOrders$Thumbs", "onward", "(LSidingOrders$Yard;)I"⟩, 1), (⟨"SidingOrders", "imageAt", "(I)LSidingOrders$Image;"⟩, 10), (⟨"SidingOrdersModel", "forget", "()V"⟩, 44), (⟨"SidingOrdersModel", "isSiding", "(I)Z"⟩, 44), (⟨"SidingOrdersModel", "goes", "(II)Z"⟩, 44), (⟨"SidingOrdersModel", "found", "(III)I"⟩, 44), (⟨"SidingOrdersModel", "findAll", "(I)V"⟩, 44)]
theorem lw_r2 : ∀ q ∈ lw_privs_2, lw_okq q := List.forall_mem_cons.mpr ⟨lw_p16, List.forall_mem_cons.mpr ⟨lw_p17, List.forall_mem_cons.mpr ⟨lw_p18, List.forall_mem_cons.mpr ⟨lw_p19, List.forall_mem_cons.mpr ⟨lw_p20, List.forall_mem_cons.mpr ⟨lw_p21, List.forall_mem_cons.mpr ⟨lw_p22, List.forall_mem_cons.mpr ⟨lw_p23, List.forall_mem_cons.mpr ⟨lw_p24, List.forall_mem_cons.mpr ⟨lw_p25, List.forall_mem_cons.mpr ⟨lw_p26, List.forall_mem_cons.mpr ⟨lw_p27, List.forall_mem_cons.mpr ⟨lw_p28, List.forall_mem_cons.mpr ⟨lw_p29, List.forall_mem_cons.mpr ⟨lw_p30, List.forall_mem_cons.mpr ⟨lw_p31, fun _ h => absurd h List.not_mem_nil⟩⟩⟩⟩⟩⟩⟩⟩⟩⟩⟩⟩⟩⟩⟩⟩
theorem lw_p32 : lw_okq (⟨"SidingOrdersModel", "search", "(II)I"⟩, 44) := ⟨⟨by decide +kernel, by decide +kernel⟩, List.mem_of_getElem? (i := 826) (by decide +kernel), List.mem_of_getElem? (i := 1036) (by decide +kernel), List.mem_of_getElem? (i := 1037) (by decide +kernel)⟩
theorem lw_p33 : lw_okq (⟨"SidingOrdersModel", "decode", "(I)V"⟩, 44) := ⟨⟨by decide +kernel, by decide +kernel⟩, List.mem_of_getElem? (i := 826) (by decide +kernel), List.mem_of_getElem? (i := 1040) (by decide +kernel), List.mem_of_getElem? (i := 1041) (by decide +kernel)⟩
theorem lw_p34 : lw_okq (⟨"SidingOrdersModel", "putNear", "(II)V"⟩, 44) := ⟨⟨by decide +kernel, by decide +kernel⟩, List.mem_of_getElem? (i := 826) (by decide +kernel), List.mem_of_getElem? (i := 1044) (by decide +kernel), List.mem_of_getElem? (i := 1045) (by decide +kernel)⟩
theorem lw_p35 : lw_okq (⟨"SidingOrdersModel", "isWanted", "()Z"⟩, 44) := ⟨⟨by decide +kernel, by decide +kernel⟩, List.mem_of_getElem? (i := 826) (by decide +kernel), List.mem_of_getElem? (i := 1048) (by decide +kernel), List.mem_of_getElem? (i := 1049) (by decide +kernel)⟩
theorem lw_p36 : lw_okq (⟨"SidingOrdersModel", "come", "(IIJ)V"⟩, 44) := ⟨⟨by decide +kernel, by decide +kernel⟩, List.mem_of_getElem? (i := 826) (by decide +kernel), List.mem_of_getElem? (i := 1052) (by decide +kernel), List.mem_of_getElem? (i := 1053) (by decide +kernel)⟩
theorem lw_p37 : lw_okq (⟨"SidingOrdersModel", "slotOf", "(I)I"⟩, 44) := ⟨⟨by decide +kernel, by decide +kernel⟩, List.mem_of_getElem? (i := 826) (by decide +kernel), List.mem_of_getElem? (i := 1056) (by decide +kernel), List.mem_of_getElem? (i := 1057) (by decide +kernel)⟩
theorem lw_p38 : lw_okq (⟨"SidingOrdersModel", "spread", "(II)V"⟩, 44) := ⟨⟨by decide +kernel, by decide +kernel⟩, List.mem_of_getElem? (i := 826) (by decide +kernel), List.mem_of_getElem? (i := 1063) (by decide +kernel), List.mem_of_getElem? (i := 1064) (by decide +kernel)⟩
theorem lw_p39 : lw_okq (⟨"SidingOrdersModel", "canMove", "(IIIII)Z"⟩, 44) := ⟨⟨by decide +kernel, by decide +kernel⟩, List.mem_of_getElem? (i := 826) (by decide +kernel), List.mem_of_getElem? (i := 1067) (by decide +kernel), List.mem_of_getElem? (i := 1068) (by decide +kernel)⟩
theorem lw_p40 : lw_okq (⟨"SidingOrdersModel", "isOut", "(II)Z"⟩, 44) := ⟨⟨by decide +kernel, by decide +kernel⟩, List.mem_of_getElem? (i := 826) (by decide +kernel), List.mem_of_getElem? (i := 1071) (by decide +kernel), List.mem_of_getElem? (i := 1072) (by decide +kernel)⟩
theorem lw_p41 : lw_okq (⟨"SidingOrdersModel", "isIn", "(II)Z"⟩, 44) := ⟨⟨by decide +kernel, by decide +kernel⟩, List.mem_of_getElem? (i := 826) (by decide +kernel), List.mem_of_getElem? (i := 1075) (by decide +kernel), List.mem_of_getElem? (i := 1076) (by decide +kernel)⟩
theorem lw_p42 : lw_okq (⟨"SidingOrdersModel", "doMove", "(IIII)V"⟩, 44) := ⟨⟨by decide +kernel, by decide +kernel⟩, List.mem_of_getElem? (i := 826) (by decide +kernel), List.mem_of_getElem? (i := 1079) (by decide +kernel), List.mem_of_getElem? (i := 1080) (by decide +kernel)⟩
theorem lw_p43 : lw_okq (⟨"SidingOrdersModel", "takeNear", "(I)I"⟩, 44) := ⟨⟨by decide +kernel, by decide +kernel⟩, List.mem_of_getElem? (i := 826) (by decide +kernel), List.mem_of_getElem? (i := 1083) (by decide +kernel), List.mem_of_getElem? (i := 1084) (by decide +kernel)⟩
theorem lw_p44 : lw_okq (⟨"SidingOrdersModel", "takeFar", "(I)I"⟩, 44) := ⟨⟨by decide +kernel, by decide +kernel⟩, List.mem_of_getElem? (i := 826) (by decide +kernel), List.mem_of_getElem? (i := 1087) (by decide +kernel), List.mem_of_getElem? (i := 1088) (by decide +kernel)⟩
theorem lw_p45 : lw_okq (⟨"SidingOrdersModel", "putFar", "(II)V"⟩, 44) := ⟨⟨by decide +kernel, by decide +kernel⟩, List.mem_of_getElem? (i := 826) (by decide +kernel), List.mem_of_getElem? (i := 1091) (by decide +kernel), List.mem_of_getElem? (i := 1092) (by decide +kernel)⟩
theorem lw_p46 : lw_okq (⟨"SidingOrdersModel", "encode", "()I"⟩, 44) := ⟨⟨by decide +kernel, by decide +kernel⟩, List.mem_of_getElem? (i := 826) (by decide +kernel), List.mem_of_getElem? (i := 1095) (by decide +kernel), List.mem_of_getElem? (i := 1096) (by decide +kernel)⟩
theorem lw_p47 : lw_okq (⟨"SidingOrdersModel", "rankOf", "(I)I"⟩, 44) := ⟨⟨by decide +kernel, by decide +kernel⟩, List.mem_of_getElem? (i := 826) (by decide +kernel), List.mem_of_getElem? (i := 1099) (by decide +kernel), List.mem_of_getElem? (i := 1100) (by decide +kernel)⟩
def lw_privs_3 : List (MethodName × Nat) := [(⟨"SidingOrdersModel", "search", "(II)I"⟩, 44), (⟨"SidingOrdersModel", "decode", "(I)V"⟩, 44), (⟨"SidingOrdersModel", "putNear", "(II)V"⟩, 44), (⟨"SidingOrdersModel", "isWanted", "()Z"⟩, 44), (⟨"SidingOrdersModel", "come", "(IIJ)V"⟩, 44), (⟨"SidingOrdersModel", "slotOf", "(I)I"⟩, 44), (⟨"SidingOrdersModel", "spread", "(II)V"⟩, 44), (⟨"SidingOrdersModel", "canMove", "(IIIII)Z"⟩, 44), (⟨"SidingOrdersModel", "isOut", "(II)Z"⟩, 44), (⟨"SidingOrdersModel", "isIn", "(II)Z"⟩, 44), (⟨"SidingOrdersModel", "doMove", "(IIII)V"⟩, 44), (⟨"SidingOrdersModel", "takeNear", "(I)I"⟩, 44), (⟨"SidingOrdersModel", "takeFar", "(I)I"⟩, 44), (⟨"SidingOrdersModel", "putFar", "(II)V"⟩, 44), (⟨"SidingOrdersModel", "encode", "()I"⟩, 44), (⟨"SidingOrdersModel", "rankOf", "(I)I"⟩, 44)]
theorem lw_r3 : ∀ q ∈ lw_privs_3, lw_okq q := List.forall_mem_cons.mpr ⟨lw_p32, List.forall_mem_cons.mpr ⟨lw_p33, List.forall_mem_cons.mpr ⟨lw_p34, List.forall_mem_cons.mpr ⟨lw_p35, List.forall_mem_cons.mpr ⟨lw_p36, List.forall_mem_cons.mpr ⟨lw_p37, List.forall_mem_cons.mpr ⟨lw_p38, List.forall_mem_cons.mpr ⟨lw_p39, List.forall_mem_cons.mpr ⟨lw_p40, List.forall_mem_cons.mpr ⟨lw_p41, List.forall_mem_cons.mpr ⟨lw_p42, List.forall_mem_cons.mpr ⟨lw_p43, List.forall_mem_cons.mpr ⟨lw_p44, List.forall_mem_cons.mpr ⟨lw_p45, List.forall_mem_cons.mpr ⟨lw_p46, List.forall_mem_cons.mpr ⟨lw_p47, fun _ h => absurd h List.not_mem_nil⟩⟩⟩⟩⟩⟩⟩⟩⟩⟩⟩⟩⟩⟩⟩⟩
theorem lw_p48 : lw_okq (⟨"SidingOrdersModel", "layTrain", "(II)V"⟩, 44) := ⟨⟨by decide +kernel, by decide +kernel⟩, List.mem_of_getElem? (i := 826) (by decide +kernel), List.mem_of_getElem? (i := 1103) (by decide +kernel), List.mem_of_getElem? (i := 1104) (by decide +kernel)⟩
theorem lw_p49 : lw_okq (⟨"SidingOrdersModel", "layOrder", "(II)V"⟩, 44) := ⟨⟨by decide +kernel, by decide +kernel⟩, List.mem_of_getElem? (i := 826) (by decide +kernel), List.mem_of_getElem? (i := 1110) (by decide +kernel), List.mem_of_getElem? (i := 1111) (by decide +kernel)⟩
theorem lw_p50 : lw_okq (⟨"SidingOrdersModel", "placeOf", "(II)I"⟩, 44) := ⟨⟨by decide +kernel, by decide +kernel⟩, List.mem_of_getElem? (i := 826) (by decide +kernel), List.mem_of_getElem? (i := 1114) (by decide +kernel), List.mem_of_getElem? (i := 1115) (by decide +kernel)⟩
theorem lw_p51 : lw_okq (⟨"SidingOrdersModel", "want", "(III)V"⟩, 44) := ⟨⟨by decide +kernel, by decide +kernel⟩, List.mem_of_getElem? (i := 826) (by decide +kernel), List.mem_of_getElem? (i := 1127) (by decide +kernel), List.mem_of_getElem? (i := 1128) (by decide +kernel)⟩
theorem lw_p52 : lw_okq (⟨"SidingOrdersModel", "nextOf", "(III)I"⟩, 44) := ⟨⟨by decide +kernel, by decide +kernel⟩, List.mem_of_getElem? (i := 826) (by decide +kernel), List.mem_of_getElem? (i := 1131) (by decide +kernel), List.mem_of_getElem? (i := 1132) (by decide +kernel)⟩
theorem lw_p53 : lw_okq (⟨"SidingOrdersModel", "isMove", "(IIII)Z"⟩, 44) := ⟨⟨by decide +kernel, by decide +kernel⟩, List.mem_of_getElem? (i := 826) (by decide +kernel), List.mem_of_getElem? (i := 1135) (by decide +kernel), List.mem_of_getElem? (i := 1136) (by decide +kernel)⟩
theorem lw_p54 : lw_okq (⟨"SidingOrdersModel", "moved", "(II)I"⟩, 44) := ⟨⟨by decide +kernel, by decide +kernel⟩, List.mem_of_getElem? (i := 826) (by decide +kernel), List.mem_of_getElem? (i := 1139) (by decide +kernel), List.mem_of_getElem? (i := 1140) (by decide +kernel)⟩
theorem lw_p55 : lw_okq (⟨"SidingOrdersModel", "layRow", "(II)V"⟩, 44) := ⟨⟨by decide +kernel, by decide +kernel⟩, List.mem_of_getElem? (i := 826) (by decide +kernel), List.mem_of_getElem? (i := 1150) (by decide +kernel), List.mem_of_getElem? (i := 1151) (by decide +kernel)⟩
theorem lw_p56 : lw_okq (⟨"SidingOrdersModel", "insert", "(II)V"⟩, 44) := ⟨⟨by decide +kernel, by decide +kernel⟩, List.mem_of_getElem? (i := 826) (by decide +kernel), List.mem_of_getElem? (i := 1154) (by decide +kernel), List.mem_of_getElem? (i := 1155) (by decide +kernel)⟩
theorem lw_p57 : lw_okq (⟨"SidingOrdersModel", "trainOf", "(II)I"⟩, 44) := ⟨⟨by decide +kernel, by decide +kernel⟩, List.mem_of_getElem? (i := 826) (by decide +kernel), List.mem_of_getElem? (i := 1165) (by decide +kernel), List.mem_of_getElem? (i := 1166) (by decide +kernel)⟩
theorem lw_p58 : lw_okq (⟨"SidingOrdersModel", "sortFar", "(II)I"⟩, 44) := ⟨⟨by decide +kernel, by decide +kernel⟩, List.mem_of_getElem? (i := 826) (by decide +kernel), List.mem_of_getElem? (i := 1169) (by decide +kernel), List.mem_of_getElem? (i := 1170) (by decide +kernel)⟩
theorem lw_p59 : lw_okq (⟨"SidingOrdersModel", "sortedOf", "(I)I"⟩, 44) := ⟨⟨by decide +kernel, by decide +kernel⟩, List.mem_of_getElem? (i := 826) (by decide +kernel), List.mem_of_getElem? (i := 1173) (by decide +kernel), List.mem_of_getElem? (i := 1174) (by decide +kernel)⟩
theorem lw_p60 : lw_okq (⟨"SidingOrdersModel", "findNeed", "(II)I"⟩, 44) := ⟨⟨by decide +kernel, by decide +kernel⟩, List.mem_of_getElem? (i := 826) (by decide +kernel), List.mem_of_getElem? (i := 1189) (by decide +kernel), List.mem_of_getElem? (i := 1190) (by decide +kernel)⟩
theorem lw_p61 : lw_okq (⟨"SidingOrdersModel", "changeAbout", "()V"⟩, 44) := ⟨⟨by decide +kernel, by decide +kernel⟩, List.mem_of_getElem? (i := 826) (by decide +kernel), List.mem_of_getElem? (i := 1201) (by decide +kernel), List.mem_of_getElem? (i := 1202) (by decide +kernel)⟩
theorem lw_p62 : lw_okq (⟨"SidingOrdersModel", "restOf", "()I"⟩, 44) := ⟨⟨by decide +kernel, by decide +kernel⟩, List.mem_of_getElem? (i := 826) (by decide +kernel), List.mem_of_getElem? (i := 1221) (by decide +kernel), List.mem_of_getElem? (i := 1222) (by decide +kernel)⟩
theorem lw_p63 : lw_okq (⟨"SidingOrdersModel", "thumbed", "(III)I"⟩, 44) := ⟨⟨by decide +kernel, by decide +kernel⟩, List.mem_of_getElem? (i := 826) (by decide +kernel), List.mem_of_getElem? (i := 1242) (by decide +kernel), List.mem_of_getElem? (i := 1243) (by decide +kernel)⟩
def lw_privs_4 : List (MethodName × Nat) := [(⟨"SidingOrdersModel", "layTrain", "(II)V"⟩, 44), (⟨"SidingOrdersModel", "layOrder", "(II)V"⟩, 44), (⟨"SidingOrdersModel", "placeOf", "(II)I"⟩, 44), (⟨"SidingOrdersModel", "want", "(III)V"⟩, 44), (⟨"SidingOrdersModel", "nextOf", "(III)I"⟩, 44), (⟨"SidingOrdersModel", "isMove", "(IIII)Z"⟩, 44), (⟨"SidingOrdersModel", "moved", "(II)I"⟩, 44), (⟨"SidingOrdersModel", "layRow", "(II)V"⟩, 44), (⟨"SidingOrdersModel", "insert", "(II)V"⟩, 44), (⟨"SidingOrdersModel", "trainOf", "(II)I"⟩, 44), (⟨"SidingOrdersModel", "sortFar", "(II)I"⟩, 44), (⟨"SidingOrdersModel", "sortedOf", "(I)I"⟩, 44), (⟨"SidingOrdersModel", "findNeed", "(II)I"⟩, 44), (⟨"SidingOrdersModel", "changeAbout", "()V"⟩, 44), (⟨"SidingOrdersModel", "restOf", "()I"⟩, 44), (⟨"SidingOrdersModel", "thumbed", "(III)I"⟩, 44)]
theorem lw_r4 : ∀ q ∈ lw_privs_4, lw_okq q := List.forall_mem_cons.mpr ⟨lw_p48, List.forall_mem_cons.mpr ⟨lw_p49, List.forall_mem_cons.mpr ⟨lw_p50, List.forall_mem_cons.mpr ⟨lw_p51, List.forall_mem_cons.mpr ⟨lw_p52, List.forall_mem_cons.mpr ⟨lw_p53, List.forall_mem_cons.mpr ⟨lw_p54, List.forall_mem_cons.mpr ⟨lw_p55, List.forall_mem_cons.mpr ⟨lw_p56, List.forall_mem_cons.mpr ⟨lw_p57, List.forall_mem_cons.mpr ⟨lw_p58, List.forall_mem_cons.mpr ⟨lw_p59, List.forall_mem_cons.mpr ⟨lw_p60, List.forall_mem_cons.mpr ⟨lw_p61, List.forall_mem_cons.mpr ⟨lw_p62, List.forall_mem_cons.mpr ⟨lw_p63, fun _ h => absurd h List.not_mem_nil⟩⟩⟩⟩⟩⟩⟩⟩⟩⟩⟩⟩⟩⟩⟩⟩
theorem lw_p64 : lw_okq (⟨"SidingOrdersModel", "letOut", "(I)Z"⟩, 44) := ⟨⟨by decide +kernel, by decide +kernel⟩, List.mem_of_getElem? (i := 826) (by decide +kernel), List.mem_of_getElem? (i := 1246) (by decide +kernel), List.mem_of_getElem? (i := 1247) (by decide +kernel)⟩
theorem lw_p65 : lw_okq (⟨"SidingOrdersModel", "wagonAt", "(I)I"⟩, 44) := ⟨⟨by decide +kernel, by decide +kernel⟩, List.mem_of_getElem? (i := 826) (by decide +kernel), List.mem_of_getElem? (i := 1250) (by decide +kernel), List.mem_of_getElem? (i := 1251) (by decide +kernel)⟩
theorem lw_p66 : lw_okq (⟨"SidingOrdersModel", "goIn", "(II)Z"⟩, 44) := ⟨⟨by decide +kernel, by decide +kernel⟩, List.mem_of_getElem? (i := 826) (by decide +kernel), List.mem_of_getElem? (i := 1254) (by decide +kernel), List.mem_of_getElem? (i := 1255) (by decide +kernel)⟩
theorem lw_p67 : lw_okq (⟨"SidingOrdersModel", "chosen", "(II)I"⟩, 44) := ⟨⟨by decide +kernel, by decide +kernel⟩, List.mem_of_getElem? (i := 826) (by decide +kernel), List.mem_of_getElem? (i := 1258) (by decide +kernel), List.mem_of_getElem? (i := 1259) (by decide +kernel)⟩
theorem lw_p68 : lw_okq (⟨"SidingOrdersModel", "hasRoom", "(I)Z"⟩, 44) := ⟨⟨by decide +kernel, by decide +kernel⟩, List.mem_of_getElem? (i := 826) (by decide +kernel), List.mem_of_getElem? (i := 1262) (by decide +kernel), List.mem_of_getElem? (i := 1263) (by decide +kernel)⟩
theorem lw_p69 : lw_okq (⟨"SidingOrdersModel", "areHigher", "(II)Z"⟩, 44) := ⟨⟨by decide +kernel, by decide +kernel⟩, List.mem_of_getElem? (i := 826) (by decide +kernel), List.mem_of_getElem? (i := 1266) (by decide +kernel), List.mem_of_getElem? (i := 1267) (by decide +kernel)⟩
theorem lw_p70 : lw_okq (⟨"SidingOrdersModel", "goOn", "(I)Z"⟩, 44) := ⟨⟨by decide +kernel, by decide +kernel⟩, List.mem_of_getElem? (i := 826) (by decide +kernel), List.mem_of_getElem? (i := 1270) (by decide +kernel), List.mem_of_getElem? (i := 1271) (by decide +kernel)⟩
theorem lw_p71 : lw_okq (⟨"SidingOrdersModel", "passAll", "()V"⟩, 44) := ⟨⟨by decide +kernel, by decide +kernel⟩, List.mem_of_getElem? (i := 826) (by decide +kernel), List.mem_of_getElem? (i := 1288) (by decide +kernel), List.mem_of_getElem? (i := 1289) (by decide +kernel)⟩
theorem lw_p72 : lw_okq (⟨"SidingOrdersModel", "pass", "(I)I"⟩, 44) := ⟨⟨by decide +kernel, by decide +kernel⟩, List.mem_of_getElem? (i := 826) (by decide +kernel), List.mem_of_getElem? (i := 1292) (by decide +kernel), List.mem_of_getElem? (i := 1293) (by decide +kernel)⟩
def lw_privs_5 : List (MethodName × Nat) := [(⟨"SidingOrdersModel", "letOut", "(I)Z"⟩, 44), (⟨"SidingOrdersModel", "wagonAt", "(I)I"⟩, 44), (⟨"SidingOrdersModel", "goIn", "(II)Z"⟩, 44), (⟨"SidingOrdersModel", "chosen", "(II)I"⟩, 44), (⟨"SidingOrdersModel", "hasRoom", "(I)Z"⟩, 44), (⟨"SidingOrdersModel", "areHigher", "(II)Z"⟩, 44), (⟨"SidingOrdersModel", "goOn", "(I)Z"⟩, 44), (⟨"SidingOrdersModel", "passAll", "()V"⟩, 44), (⟨"SidingOrdersModel", "pass", "(I)I"⟩, 44)]
theorem lw_r5 : ∀ q ∈ lw_privs_5, lw_okq q := List.forall_mem_cons.mpr ⟨lw_p64, List.forall_mem_cons.mpr ⟨lw_p65, List.forall_mem_cons.mpr ⟨lw_p66, List.forall_mem_cons.mpr ⟨lw_p67, List.forall_mem_cons.mpr ⟨lw_p68, List.forall_mem_cons.mpr ⟨lw_p69, List.forall_mem_cons.mpr ⟨lw_p70, List.forall_mem_cons.mpr ⟨lw_p71, List.forall_mem_cons.mpr ⟨lw_p72, fun _ h => absurd h List.not_mem_nil⟩⟩⟩⟩⟩⟩⟩⟩⟩
def lw_privs : List (MethodName × Nat) := lw_privs_1 ++ (lw_privs_2 ++ (lw_privs_3 ++ (lw_privs_4 ++ (lw_privs_5))))
def lw_tbl : List Cond := k2_sels lw_privs ++ tables_1
theorem lw_privs_ok : ∀ q ∈ lw_privs, lw_okq q := by
  show ∀ q ∈ lw_privs_1 ++ (lw_privs_2 ++ (lw_privs_3 ++ (lw_privs_4 ++ (lw_privs_5)))), lw_okq q
  exact List.forall_mem_append.mpr ⟨lw_r1, List.forall_mem_append.mpr ⟨lw_r2, List.forall_mem_append.mpr ⟨lw_r3, List.forall_mem_append.mpr ⟨lw_r4, lw_r5⟩⟩⟩⟩
-- ===== end of PART A; then your names; then what follows =====
end
section
/-! ===== END ===== -/

/-! ===== BEGIN printed: names, fields, word lists, decode rows ===== -/
def RX0 : String := "SidingOrders$Image"
def TX0 : u_T := fun k => match k with
  | 0 => ("SidingOrders$Image", "kept", "Z", false)
  | 1 => ("SidingOrders$Image", "yard", "LSidingOrders$Yard;", true)
  | 2 => ("SidingOrders$Image", "other", "LSidingOrders$Yard;", true)
  | _ => ("SidingOrders$Image", "play", "LSidingOrders$Play;", true)
def tyX0 : Nat → FieldType := fun k => match k with
  | 0 => .boolean
  | 1 => .object "SidingOrders$Yard"
  | 2 => .object "SidingOrders$Yard"
  | _ => .object "SidingOrders$Play"
abbrev wsX00 : List Cond := u_ws RX0 TX0 4
theorem nmX0 : ∀ a, a < 4 → ∀ b, b < 4 → a ≠ b → (TX0 a).2.1 ≠ (TX0 b).2.1 := by decide +kernel
theorem tyX0_ok : ∀ k, k < 4 → parseFieldDescriptor (TX0 k).2.2.1 = some (tyX0 k) := by decide +kernel
abbrev cX0_init : ByteArray := prog_2_method_1_code
def yX0_init : MethodName := ⟨RX0, "<init>", "()V"⟩
def RX1 : String := "SidingOrders$Needs"
def TX1 : u_T := fun k => match k with
  | 0 => ("SidingOrders$Needs", "train", "I", false)
  | 1 => ("SidingOrders$Needs", "sum", "I", false)
  | _ => ("SidingOrders$Needs", "narrow", "LSidingOrders$Yard;", true)
def tyX1 : Nat → FieldType := fun k => match k with
  | 0 => .int
  | 1 => .int
  | _ => .object "SidingOrders$Yard"
abbrev wsX10 : List Cond := u_ws RX1 TX1 3
theorem nmX1 : ∀ a, a < 3 → ∀ b, b < 3 → a ≠ b → (TX1 a).2.1 ≠ (TX1 b).2.1 := by decide +kernel
theorem tyX1_ok : ∀ k, k < 3 → parseFieldDescriptor (TX1 k).2.2.1 = some (tyX1 k) := by decide +kernel
abbrev cX1_init : ByteArray := prog_3_method_1_code
def yX1_init : MethodName := ⟨RX1, "<init>", "()V"⟩
abbrev cX1_find : ByteArray := prog_3_method_2_code
def yX1_find : MethodName := ⟨RX1, "find", "(LSidingOrders$Yard;LSidingOrders$Search;II)V"⟩
abbrev cX1_setLengths : ByteArray := prog_3_method_3_code
def yX1_setLengths : MethodName := ⟨RX1, "setLengths", "(LSidingOrders$Yard;I)I"⟩
def RX2 : String := "SidingOrders$Outcomes"
def TX2 : u_T := fun k => match k with
  | 0 => ("SidingOrders$Outcomes", "surveyed", "I", false)
  | 1 => ("SidingOrders$Outcomes", "least", "[I", true)
  | _ => ("SidingOrders$Outcomes", "ways", "[J", true)
def tyX2 : Nat → FieldType := fun k => match k with
  | 0 => .int
  | 1 => .array .int
  | _ => .array .long
abbrev wsX20 : List Cond := u_ws RX2 TX2 3
theorem nmX2 : ∀ a, a < 3 → ∀ b, b < 3 → a ≠ b → (TX2 a).2.1 ≠ (TX2 b).2.1 := by decide +kernel
theorem tyX2_ok : ∀ k, k < 3 → parseFieldDescriptor (TX2 k).2.2.1 = some (tyX2 k) := by decide +kernel
abbrev cX2_init : ByteArray := prog_4_method_1_code
def yX2_init : MethodName := ⟨RX2, "<init>", "()V"⟩
abbrev cX2_forget : ByteArray := prog_4_method_2_code
def yX2_forget : MethodName := ⟨RX2, "forget", "()V"⟩
abbrev cX2_copyFrom : ByteArray := prog_4_method_3_code
def yX2_copyFrom : MethodName := ⟨RX2, "copyFrom", "(LSidingOrders$Outcomes;)V"⟩
abbrev cX2_know : ByteArray := prog_4_method_4_code
def yX2_know : MethodName := ⟨RX2, "know", "(I)Z"⟩
abbrev cX2_nowKnow : ByteArray := prog_4_method_5_code
def yX2_nowKnow : MethodName := ⟨RX2, "nowKnow", "(I)V"⟩
abbrev cX2_cellOf : ByteArray := prog_4_method_6_code
def yX2_cellOf : MethodName := ⟨RX2, "cellOf", "(II)I"⟩
abbrev cX2_note : ByteArray := prog_4_method_7_code
def yX2_note : MethodName := ⟨RX2, "note", "(IIIJ)V"⟩
abbrev cX2_leastOf : ByteArray := prog_4_method_8_code
def yX2_leastOf : MethodName := ⟨RX2, "leastOf", "(II)I"⟩
abbrev cX2_waysOf : ByteArray := prog_4_method_9_code
def yX2_waysOf : MethodName := ⟨RX2, "waysOf", "(II)J"⟩
def RX3 : String := "SidingOrders$Pad"
def TX3 : u_T := fun k => match k with
  | 0 => ("SidingOrders$Pad", "signs", "[I", true)
  | _ => ("SidingOrders$Pad", "count", "I", false)
def tyX3 : Nat → FieldType := fun k => match k with
  | 0 => .array .int
  | _ => .int
abbrev wsX30 : List Cond := u_ws RX3 TX3 2
theorem nmX3 : ∀ a, a < 2 → ∀ b, b < 2 → a ≠ b → (TX3 a).2.1 ≠ (TX3 b).2.1 := by decide +kernel
theorem tyX3_ok : ∀ k, k < 2 → parseFieldDescriptor (TX3 k).2.2.1 = some (tyX3 k) := by decide +kernel
abbrev cX3_init : ByteArray := prog_5_method_1_code
def yX3_init : MethodName := ⟨RX3, "<init>", "()V"⟩
abbrev cX3_add : ByteArray := prog_5_method_2_code
def yX3_add : MethodName := ⟨RX3, "add", "(I)Z"⟩
abbrev cX3_clear : ByteArray := prog_5_method_3_code
def yX3_clear : MethodName := ⟨RX3, "clear", "()V"⟩
abbrev cX3_signAt : ByteArray := prog_5_method_4_code
def yX3_signAt : MethodName := ⟨RX3, "signAt", "(I)I"⟩
abbrev cX3_isLetter : ByteArray := prog_5_method_5_code
def yX3_isLetter : MethodName := ⟨RX3, "isLetter", "(I)Z"⟩
abbrev cX3_faultAt : ByteArray := prog_5_method_6_code
def yX3_faultAt : MethodName := ⟨RX3, "faultAt", "()I"⟩
abbrev cX3_layOut : ByteArray := prog_5_method_7_code
def yX3_layOut : MethodName := ⟨RX3, "layOut", "(LSidingOrders$Yard;)V"⟩
def RX4 : String := "SidingOrders$Places"
def TX4 : u_T := fun k => match k with
  | 0 => ("SidingOrders$Places", "rows", "[I", true)
  | _ => ("SidingOrders$Places", "counts", "[I", true)
def tyX4 : Nat → FieldType := fun k => match k with
  | 0 => .array .int
  | _ => .array .int
abbrev wsX40 : List Cond := u_ws RX4 TX4 2
theorem nmX4 : ∀ a, a < 2 → ∀ b, b < 2 → a ≠ b → (TX4 a).2.1 ≠ (TX4 b).2.1 := by decide +kernel
theorem tyX4_ok : ∀ k, k < 2 → parseFieldDescriptor (TX4 k).2.2.1 = some (tyX4 k) := by decide +kernel
abbrev cX4_init : ByteArray := prog_6_method_1_code
def yX4_init : MethodName := ⟨RX4, "<init>", "()V"⟩
abbrev cX4_begin : ByteArray := prog_6_method_2_code
def yX4_begin : MethodName := ⟨RX4, "begin", "(II)V"⟩
abbrev cX4_copyFrom : ByteArray := prog_6_method_3_code
def yX4_copyFrom : MethodName := ⟨RX4, "copyFrom", "(LSidingOrders$Places;)V"⟩
abbrev cX4_rowAt : ByteArray := prog_6_method_4_code
def yX4_rowAt : MethodName := ⟨RX4, "rowAt", "(I)I"⟩
abbrev cX4_countAt : ByteArray := prog_6_method_5_code
def yX4_countAt : MethodName := ⟨RX4, "countAt", "(I)I"⟩
abbrev cX4_isFarPut : ByteArray := prog_6_method_6_code
def yX4_isFarPut : MethodName := ⟨RX4, "isFarPut", "(I)Z"⟩
abbrev cX4_isFarTake : ByteArray := prog_6_method_7_code
def yX4_isFarTake : MethodName := ⟨RX4, "isFarTake", "(I)Z"⟩
abbrev cX4_allows : ByteArray := prog_6_method_8_code
def yX4_allows : MethodName := ⟨RX4, "allows", "(LSidingOrders$Yard;I)Z"⟩
abbrev cX4_wagonOf : ByteArray := prog_6_method_9_code
def yX4_wagonOf : MethodName := ⟨RX4, "wagonOf", "(I)I"⟩
abbrev cX4_shift : ByteArray := prog_6_method_10_code
def yX4_shift : MethodName := ⟨RX4, "shift", "(I)V"⟩
abbrev cX4_unshift : ByteArray := prog_6_method_11_code
def yX4_unshift : MethodName := ⟨RX4, "unshift", "(I)V"⟩
abbrev cX4_take : ByteArray := prog_6_method_12_code
def yX4_take : MethodName := ⟨RX4, "take", "(IZ)I"⟩
abbrev cX4_put : ByteArray := prog_6_method_13_code
def yX4_put : MethodName := ⟨RX4, "put", "(IIZ)V"⟩
abbrev cX4_placeOfList : ByteArray := prog_6_method_14_code
def yX4_placeOfList : MethodName := ⟨RX4, "placeOfList", "(II)I"⟩
abbrev cX4_index : ByteArray := prog_6_method_15_code
def yX4_index : MethodName := ⟨RX4, "index", "(I)I"⟩
abbrev cX4_indices : ByteArray := prog_6_method_16_code
def yX4_indices : MethodName := ⟨RX4, "indices", "(II)I"⟩
abbrev cX4_setUp : ByteArray := prog_6_method_17_code
def yX4_setUp : MethodName := ⟨RX4, "setUp", "(III)V"⟩
abbrev cX4_insert : ByteArray := prog_6_method_18_code
def yX4_insert : MethodName := ⟨RX4, "insert", "(III)V"⟩
abbrev cX4_insertAt : ByteArray := prog_6_method_19_code
def yX4_insertAt : MethodName := ⟨RX4, "insertAt", "(III)V"⟩
def RX5 : String := "SidingOrders$Play"
def TX5 : u_T := fun k => match k with
  | 0 => ("SidingOrders$Play", "on", "Z", false)
  | 1 => ("SidingOrders$Play", "train", "I", false)
  | 2 => ("SidingOrders$Play", "order", "I", false)
  | 3 => ("SidingOrders$Play", "wagons", "I", false)
  | 4 => ("SidingOrders$Play", "done", "I", false)
  | 5 => ("SidingOrders$Play", "rows", "[I", true)
  | _ => ("SidingOrders$Play", "places", "LSidingOrders$Places;", true)
def tyX5 : Nat → FieldType := fun k => match k with
  | 0 => .boolean
  | 1 => .int
  | 2 => .int
  | 3 => .int
  | 4 => .int
  | 5 => .array .int
  | _ => .object "SidingOrders$Places"
abbrev wsX50 : List Cond := u_ws RX5 TX5 7
theorem nmX5 : ∀ a, a < 7 → ∀ b, b < 7 → a ≠ b → (TX5 a).2.1 ≠ (TX5 b).2.1 := by decide +kernel
theorem tyX5_ok : ∀ k, k < 7 → parseFieldDescriptor (TX5 k).2.2.1 = some (tyX5 k) := by decide +kernel
abbrev cX5_init : ByteArray := prog_7_method_1_code
def yX5_init : MethodName := ⟨RX5, "<init>", "()V"⟩
abbrev cX5_begin : ByteArray := prog_7_method_2_code
def yX5_begin : MethodName := ⟨RX5, "begin", "(III)V"⟩
abbrev cX5_copyFrom : ByteArray := prog_7_method_3_code
def yX5_copyFrom : MethodName := ⟨RX5, "copyFrom", "(LSidingOrders$Play;)V"⟩
abbrev cX5_add : ByteArray := prog_7_method_4_code
def yX5_add : MethodName := ⟨RX5, "add", "(I)Z"⟩
abbrev cX5_takeBack : ByteArray := prog_7_method_5_code
def yX5_takeBack : MethodName := ⟨RX5, "takeBack", "()Z"⟩
def RX6 : String := "SidingOrders$Rows"
def TX6 : u_T := fun k => match k with
  | _ => ("", "", "", false)
def tyX6 : Nat → FieldType := fun k => match k with
  | _ => .int
abbrev wsX60 : List Cond := u_ws RX6 TX6 0
theorem nmX6 : ∀ a, a < 0 → ∀ b, b < 0 → a ≠ b → (TX6 a).2.1 ≠ (TX6 b).2.1 := by decide +kernel
theorem tyX6_ok : ∀ k, k < 0 → parseFieldDescriptor (TX6 k).2.2.1 = some (tyX6 k) := by decide +kernel
abbrev cX6_wagons : ByteArray := prog_8_method_2_code
def yX6_wagons : MethodName := ⟨RX6, "wagons", "(I)I"⟩
abbrev cX6_setUpTo : ByteArray := prog_8_method_3_code
def yX6_setUpTo : MethodName := ⟨RX6, "setUpTo", "(I)I"⟩
abbrev cX6_pick : ByteArray := prog_8_method_4_code
def yX6_pick : MethodName := ⟨RX6, "pick", "(II)I"⟩
abbrev cX6_ofNumber : ByteArray := prog_8_method_5_code
def yX6_ofNumber : MethodName := ⟨RX6, "ofNumber", "(I)I"⟩
abbrev cX6_toNumber : ByteArray := prog_8_method_6_code
def yX6_toNumber : MethodName := ⟨RX6, "toNumber", "(I)I"⟩
abbrev cX6_wagonAt : ByteArray := prog_8_method_7_code
def yX6_wagonAt : MethodName := ⟨RX6, "wagonAt", "(II)I"⟩
abbrev cX6_placeOf : ByteArray := prog_8_method_8_code
def yX6_placeOf : MethodName := ⟨RX6, "placeOf", "(II)I"⟩
abbrev cX6_upTo : ByteArray := prog_8_method_9_code
def yX6_upTo : MethodName := ⟨RX6, "upTo", "(I)I"⟩
abbrev cX6_relative : ByteArray := prog_8_method_10_code
def yX6_relative : MethodName := ⟨RX6, "relative", "(III)I"⟩
abbrev cX6_named : ByteArray := prog_8_method_11_code
def yX6_named : MethodName := ⟨RX6, "named", "(II)I"⟩
abbrev cX6_factorial : ByteArray := prog_8_method_12_code
def yX6_factorial : MethodName := ⟨RX6, "factorial", "(I)I"⟩
abbrev cX6_rankOf : ByteArray := prog_8_method_13_code
def yX6_rankOf : MethodName := ⟨RX6, "rankOf", "(II)I"⟩
abbrev cX6_ofRank : ByteArray := prog_8_method_14_code
def yX6_ofRank : MethodName := ⟨RX6, "ofRank", "(II)I"⟩
def RX7 : String := "SidingOrders$Search"
def TX7 : u_T := fun k => match k with
  | 0 => ("SidingOrders$Search", "known", "[I", true)
  | 1 => ("SidingOrders$Search", "places", "LSidingOrders$Places;", true)
  | 2 => ("SidingOrders$Search", "stamp", "I", false)
  | 3 => ("SidingOrders$Search", "yard", "LSidingOrders$Yard;", false)
  | 4 => ("SidingOrders$Search", "wagons", "I", false)
  | _ => ("SidingOrders$Search", "wanted", "I", false)
def tyX7 : Nat → FieldType := fun k => match k with
  | 0 => .array .int
  | 1 => .object "SidingOrders$Places"
  | 2 => .int
  | 3 => .object "SidingOrders$Yard"
  | 4 => .int
  | _ => .int
abbrev wsX70 : List Cond := u_ws RX7 TX7 6
theorem nmX7 : ∀ a, a < 6 → ∀ b, b < 6 → a ≠ b → (TX7 a).2.1 ≠ (TX7 b).2.1 := by decide +kernel
theorem tyX7_ok : ∀ k, k < 6 → parseFieldDescriptor (TX7 k).2.2.1 = some (tyX7 k) := by decide +kernel
abbrev cX7_init : ByteArray := prog_9_method_1_code
def yX7_init : MethodName := ⟨RX7, "<init>", "(LSidingOrders$Yard;)V"⟩
abbrev cX7_aim : ByteArray := prog_9_method_2_code
def yX7_aim : MethodName := ⟨RX7, "aim", "(LSidingOrders$Yard;II)V"⟩
abbrev cX7_forget : ByteArray := prog_9_method_3_code
def yX7_forget : MethodName := ⟨RX7, "forget", "()V"⟩
abbrev cX7_comesOut : ByteArray := prog_9_method_4_code
def yX7_comesOut : MethodName := ⟨RX7, "comesOut", "()Z"⟩
abbrev cX7_restFrom : ByteArray := prog_9_method_5_code
def yX7_restFrom : MethodName := ⟨RX7, "restFrom", "(LSidingOrders$Places;)I"⟩
abbrev cX7_nextFrom : ByteArray := prog_9_method_6_code
def yX7_nextFrom : MethodName := ⟨RX7, "nextFrom", "(LSidingOrders$Places;)I"⟩
abbrev cX7_firstRow : ByteArray := prog_9_method_7_code
def yX7_firstRow : MethodName := ⟨RX7, "firstRow", "(I)I"⟩
abbrev cX7_fits : ByteArray := prog_9_method_8_code
def yX7_fits : MethodName := ⟨RX7, "fits", "(I)Z"⟩
abbrev cX7_isAstray : ByteArray := prog_9_method_9_code
def yX7_isAstray : MethodName := ⟨RX7, "isAstray", "()Z"⟩
abbrev cX7_bestMove : ByteArray := prog_9_method_10_code
def yX7_bestMove : MethodName := ⟨RX7, "bestMove", "()I"⟩
abbrev cX7_remaining : ByteArray := prog_9_method_11_code
def yX7_remaining : MethodName := ⟨RX7, "remaining", "(LSidingOrders$Search;I)I"⟩
def RX8 : String := "SidingOrders$Survey"
def TX8 : u_T := fun k => match k with
  | 0 => ("SidingOrders$Survey", "steps", "[B", true)
  | 1 => ("SidingOrders$Survey", "rows", "[J", true)
  | _ => ("SidingOrders$Survey", "places", "LSidingOrders$Places;", true)
def tyX8 : Nat → FieldType := fun k => match k with
  | 0 => .array .byte
  | 1 => .array .long
  | _ => .object "SidingOrders$Places"
abbrev wsX80 : List Cond := u_ws RX8 TX8 3
theorem nmX8 : ∀ a, a < 3 → ∀ b, b < 3 → a ≠ b → (TX8 a).2.1 ≠ (TX8 b).2.1 := by decide +kernel
theorem tyX8_ok : ∀ k, k < 3 → parseFieldDescriptor (TX8 k).2.2.1 = some (tyX8 k) := by decide +kernel
abbrev cX8_init : ByteArray := prog_10_method_1_code
def yX8_init : MethodName := ⟨RX8, "<init>", "()V"⟩
abbrev cX8_fill : ByteArray := prog_10_method_2_code
def yX8_fill : MethodName := ⟨RX8, "fill", "(LSidingOrders$Yard;I)V"⟩
abbrev cX8_spread : ByteArray := prog_10_method_3_code
def yX8_spread : MethodName := ⟨RX8, "spread", "(LSidingOrders$Yard;IJ)V"⟩
abbrev cX8_reach : ByteArray := prog_10_method_4_code
def yX8_reach : MethodName := ⟨RX8, "reach", "(IIJ)V"⟩
def RX9 : String := "SidingOrders$Thumbs"
def TX9 : u_T := fun k => match k with
  | _ => ("SidingOrders$Thumbs", "places", "LSidingOrders$Places;", true)
def tyX9 : Nat → FieldType := fun k => match k with
  | _ => .object "SidingOrders$Places"
abbrev wsX90 : List Cond := u_ws RX9 TX9 1
theorem nmX9 : ∀ a, a < 1 → ∀ b, b < 1 → a ≠ b → (TX9 a).2.1 ≠ (TX9 b).2.1 := by decide +kernel
theorem tyX9_ok : ∀ k, k < 1 → parseFieldDescriptor (TX9 k).2.2.1 = some (tyX9 k) := by decide +kernel
abbrev cX9_init : ByteArray := prog_11_method_1_code
def yX9_init : MethodName := ⟨RX9, "<init>", "()V"⟩
abbrev cX9_outInOrder : ByteArray := prog_11_method_2_code
def yX9_outInOrder : MethodName := ⟨RX9, "outInOrder", "(LSidingOrders$Yard;III)I"⟩
abbrev cX9_choose : ByteArray := prog_11_method_3_code
def yX9_choose : MethodName := ⟨RX9, "choose", "(LSidingOrders$Yard;I)I"⟩
abbrev cX9_wantedOut : ByteArray := prog_11_method_4_code
def yX9_wantedOut : MethodName := ⟨RX9, "wantedOut", "(LSidingOrders$Yard;)I"⟩
abbrev cX9_fromEntry : ByteArray := prog_11_method_5_code
def yX9_fromEntry : MethodName := ⟨RX9, "fromEntry", "(LSidingOrders$Yard;I)I"⟩
abbrev cX9_isBelowAll : ByteArray := prog_11_method_6_code
def yX9_isBelowAll : MethodName := ⟨RX9, "isBelowAll", "(II)Z"⟩
abbrev cX9_onward : ByteArray := prog_11_method_7_code
def yX9_onward : MethodName := ⟨RX9, "onward", "(LSidingOrders$Yard;)I"⟩
def RX10 : String := "SidingOrders$Yard"
def TX10 : u_T := fun k => match k with
  | 0 => ("SidingOrders$Yard", "sidings", "I", false)
  | 1 => ("SidingOrders$Yard", "stages", "I", false)
  | 2 => ("SidingOrders$Yard", "moveCount", "I", false)
  | 3 => ("SidingOrders$Yard", "dashes", "I", false)
  | 4 => ("SidingOrders$Yard", "letter", "[I", true)
  | 5 => ("SidingOrders$Yard", "length", "[I", true)
  | 6 => ("SidingOrders$Yard", "stage", "[I", true)
  | 7 => ("SidingOrders$Yard", "numbers", "[I", true)
  | _ => ("SidingOrders$Yard", "outcomes", "LSidingOrders$Outcomes;", true)
def tyX10 : Nat → FieldType := fun k => match k with
  | 0 => .int
  | 1 => .int
  | 2 => .int
  | 3 => .int
  | 4 => .array .int
  | 5 => .array .int
  | 6 => .array .int
  | 7 => .array .int
  | _ => .object "SidingOrders$Outcomes"
abbrev wsX100 : List Cond := u_ws RX10 TX10 9
theorem nmX10 : ∀ a, a < 9 → ∀ b, b < 9 → a ≠ b → (TX10 a).2.1 ≠ (TX10 b).2.1 := by decide +kernel
theorem tyX10_ok : ∀ k, k < 9 → parseFieldDescriptor (TX10 k).2.2.1 = some (tyX10 k) := by decide +kernel
abbrev cX10_init : ByteArray := prog_12_method_1_code
def yX10_init : MethodName := ⟨RX10, "<init>", "()V"⟩
abbrev cX10_clear : ByteArray := prog_12_method_2_code
def yX10_clear : MethodName := ⟨RX10, "clear", "()V"⟩
abbrev cX10_copyFrom : ByteArray := prog_12_method_3_code
def yX10_copyFrom : MethodName := ⟨RX10, "copyFrom", "(LSidingOrders$Yard;)V"⟩
abbrev cX10_addDash : ByteArray := prog_12_method_4_code
def yX10_addDash : MethodName := ⟨RX10, "addDash", "()V"⟩
abbrev cX10_addSiding : ByteArray := prog_12_method_5_code
def yX10_addSiding : MethodName := ⟨RX10, "addSiding", "(II)V"⟩
abbrev cX10_letterAt : ByteArray := prog_12_method_6_code
def yX10_letterAt : MethodName := ⟨RX10, "letterAt", "(I)I"⟩
abbrev cX10_lengthAt : ByteArray := prog_12_method_7_code
def yX10_lengthAt : MethodName := ⟨RX10, "lengthAt", "(I)I"⟩
abbrev cX10_setLength : ByteArray := prog_12_method_8_code
def yX10_setLength : MethodName := ⟨RX10, "setLength", "(II)V"⟩
abbrev cX10_stageAt : ByteArray := prog_12_method_9_code
def yX10_stageAt : MethodName := ⟨RX10, "stageAt", "(I)I"⟩
abbrev cX10_stageOf : ByteArray := prog_12_method_10_code
def yX10_stageOf : MethodName := ⟨RX10, "stageOf", "(I)I"⟩
abbrev cX10_reaches : ByteArray := prog_12_method_11_code
def yX10_reaches : MethodName := ⟨RX10, "reaches", "(II)Z"⟩
abbrev cX10_takesOutAt : ByteArray := prog_12_method_12_code
def yX10_takesOutAt : MethodName := ⟨RX10, "takesOutAt", "(II)Z"⟩
abbrev cX10_putsInAt : ByteArray := prog_12_method_13_code
def yX10_putsInAt : MethodName := ⟨RX10, "putsInAt", "(II)Z"⟩
abbrev cX10_listMoves : ByteArray := prog_12_method_14_code
def yX10_listMoves : MethodName := ⟨RX10, "listMoves", "()V"⟩
abbrev cX10_listMovesFrom : ByteArray := prog_12_method_15_code
def yX10_listMovesFrom : MethodName := ⟨RX10, "listMovesFrom", "(II)V"⟩
abbrev cX10_addMove : ByteArray := prog_12_method_16_code
def yX10_addMove : MethodName := ⟨RX10, "addMove", "(I)V"⟩
abbrev cX10_moveAt : ByteArray := prog_12_method_17_code
def yX10_moveAt : MethodName := ⟨RX10, "moveAt", "(I)I"⟩
abbrev cX10_hasMove : ByteArray := prog_12_method_18_code
def yX10_hasMove : MethodName := ⟨RX10, "hasMove", "(I)Z"⟩
def RX11 : String := "SidingOrders"
def TX11 : u_T := fun k => match k with
  | 0 => ("SidingOrders", "pad", "LSidingOrders$Pad;", true)
  | 1 => ("SidingOrders", "yard", "LSidingOrders$Yard;", true)
  | 2 => ("SidingOrders", "other", "LSidingOrders$Yard;", true)
  | 3 => ("SidingOrders", "play", "LSidingOrders$Play;", true)
  | 4 => ("SidingOrders", "imageZero", "LSidingOrders$Image;", true)
  | 5 => ("SidingOrders", "imageOne", "LSidingOrders$Image;", true)
  | 6 => ("SidingOrders", "survey", "LSidingOrders$Survey;", true)
  | 7 => ("SidingOrders", "search", "LSidingOrders$Search;", true)
  | 8 => ("SidingOrders", "needs", "LSidingOrders$Needs;", true)
  | _ => ("SidingOrders", "thumbs", "LSidingOrders$Thumbs;", true)
def tyX11 : Nat → FieldType := fun k => match k with
  | 0 => .object "SidingOrders$Pad"
  | 1 => .object "SidingOrders$Yard"
  | 2 => .object "SidingOrders$Yard"
  | 3 => .object "SidingOrders$Play"
  | 4 => .object "SidingOrders$Image"
  | 5 => .object "SidingOrders$Image"
  | 6 => .object "SidingOrders$Survey"
  | 7 => .object "SidingOrders$Search"
  | 8 => .object "SidingOrders$Needs"
  | _ => .object "SidingOrders$Thumbs"
abbrev wsX110 : List Cond := u_ws RX11 TX11 10
theorem nmX11 : ∀ a, a < 10 → ∀ b, b < 10 → a ≠ b → (TX11 a).2.1 ≠ (TX11 b).2.1 := by decide +kernel
theorem tyX11_ok : ∀ k, k < 10 → parseFieldDescriptor (TX11 k).2.2.1 = some (tyX11 k) := by decide +kernel
abbrev cX11_init : ByteArray := prog_1_method_1_code
def yX11_init : MethodName := ⟨RX11, "<init>", "()V"⟩
abbrev cX11_say : ByteArray := prog_1_method_2_code
def yX11_say : MethodName := ⟨RX11, "say", "(I)I"⟩
abbrev cX11_wipe : ByteArray := prog_1_method_3_code
def yX11_wipe : MethodName := ⟨RX11, "wipe", "()I"⟩
abbrev cX11_fault : ByteArray := prog_1_method_4_code
def yX11_fault : MethodName := ⟨RX11, "fault", "()I"⟩
abbrev cX11_yard : ByteArray := prog_1_method_5_code
def yX11_yard : MethodName := ⟨RX11, "yard", "()I"⟩
abbrev cX11_siding : ByteArray := prog_1_method_6_code
def yX11_siding : MethodName := ⟨RX11, "siding", "(II)I"⟩
abbrev cX11_leads : ByteArray := prog_1_method_7_code
def yX11_leads : MethodName := ⟨RX11, "leads", "(II)I"⟩
abbrev cX11_least : ByteArray := prog_1_method_8_code
def yX11_least : MethodName := ⟨RX11, "least", "(II)I"⟩
abbrev cX11_ways : ByteArray := prog_1_method_9_code
def yX11_ways : MethodName := ⟨RX11, "ways", "(II)J"⟩
abbrev cX11_first : ByteArray := prog_1_method_10_code
def yX11_first : MethodName := ⟨RX11, "first", "(III)I"⟩
abbrev cX11_orders : ByteArray := prog_1_method_11_code
def yX11_orders : MethodName := ⟨RX11, "orders", "(II)I"⟩
abbrev cX11_good : ByteArray := prog_1_method_12_code
def yX11_good : MethodName := ⟨RX11, "good", "(II)I"⟩
abbrev cX11_mean : ByteArray := prog_1_method_13_code
def yX11_mean : MethodName := ⟨RX11, "mean", "(II)J"⟩
abbrev cX11_need : ByteArray := prog_1_method_14_code
def yX11_need : MethodName := ⟨RX11, "need", "(II)I"⟩
abbrev cX11_keep : ByteArray := prog_1_method_15_code
def yX11_keep : MethodName := ⟨RX11, "keep", "()I"⟩
abbrev cX11_unlike : ByteArray := prog_1_method_16_code
def yX11_unlike : MethodName := ⟨RX11, "unlike", "(I)I"⟩
abbrev cX11_play : ByteArray := prog_1_method_17_code
def yX11_play : MethodName := ⟨RX11, "play", "(II)I"⟩
abbrev cX11_move : ByteArray := prog_1_method_18_code
def yX11_move : MethodName := ⟨RX11, "move", "(I)I"⟩
abbrev cX11_back : ByteArray := prog_1_method_19_code
def yX11_back : MethodName := ⟨RX11, "back", "()I"⟩
abbrev cX11_rest : ByteArray := prog_1_method_20_code
def yX11_rest : MethodName := ⟨RX11, "rest", "()I"⟩
abbrev cX11_next : ByteArray := prog_1_method_21_code
def yX11_next : MethodName := ⟨RX11, "next", "()I"⟩
abbrev cX11_moves : ByteArray := prog_1_method_22_code
def yX11_moves : MethodName := ⟨RX11, "moves", "(I)I"⟩
abbrev cX11_stand : ByteArray := prog_1_method_23_code
def yX11_stand : MethodName := ⟨RX11, "stand", "(I)I"⟩
abbrev cX11_thumb : ByteArray := prog_1_method_24_code
def yX11_thumb : MethodName := ⟨RX11, "thumb", "(II)I"⟩
abbrev cX11_sorts : ByteArray := prog_1_method_25_code
def yX11_sorts : MethodName := ⟨RX11, "sorts", "(II)I"⟩
abbrev cX11_draw : ByteArray := prog_1_method_26_code
def yX11_draw : MethodName := ⟨RX11, "draw", "(II)I"⟩
abbrev cX11_image : ByteArray := prog_1_method_27_code
def yX11_image : MethodName := ⟨RX11, "image", "(I)I"⟩
abbrev cX11_restore : ByteArray := prog_1_method_28_code
def yX11_restore : MethodName := ⟨RX11, "restore", "(I)I"⟩
abbrev cX11_told : ByteArray := prog_1_method_29_code
def yX11_told : MethodName := ⟨RX11, "told", "(I)I"⟩
abbrev cX11_forgetFindings : ByteArray := prog_1_method_30_code
def yX11_forgetFindings : MethodName := ⟨RX11, "forgetFindings", "()V"⟩
abbrev cX11_isMissing : ByteArray := prog_1_method_31_code
def yX11_isMissing : MethodName := ⟨RX11, "isMissing", "(I)Z"⟩
abbrev cX11_arePair : ByteArray := prog_1_method_32_code
def yX11_arePair : MethodName := ⟨RX11, "arePair", "(II)Z"⟩
abbrev cX11_leastOf : ByteArray := prog_1_method_33_code
def yX11_leastOf : MethodName := ⟨RX11, "leastOf", "(LSidingOrders$Yard;III)I"⟩
abbrev cX11_leastSorted : ByteArray := prog_1_method_34_code
def yX11_leastSorted : MethodName := ⟨RX11, "leastSorted", "(LSidingOrders$Yard;II)I"⟩
abbrev cX11_aimAtPlay : ByteArray := prog_1_method_35_code
def yX11_aimAtPlay : MethodName := ⟨RX11, "aimAtPlay", "()V"⟩
abbrev cX11_imageAt : ByteArray := prog_1_method_36_code
def yX11_imageAt : MethodName := ⟨RX11, "imageAt", "(I)LSidingOrders$Image;"⟩
abbrev cX11_inLowestTerms : ByteArray := prog_1_method_37_code
def yX11_inLowestTerms : MethodName := ⟨RX11, "inLowestTerms", "(III)J"⟩
abbrev cX11_copyInts : ByteArray := prog_1_method_38_code
def yX11_copyInts : MethodName := ⟨RX11, "copyInts", "([I[I)V"⟩
def RX12 : String := "SidingOrdersModel"
def TX12 : u_T := fun k => match k with
  | 0 => ("SidingOrdersModel", "letter", "[I", true)
  | 1 => ("SidingOrdersModel", "length", "[I", true)
  | 2 => ("SidingOrdersModel", "stageOf", "[I", true)
  | 3 => ("SidingOrdersModel", "straight", "[I", true)
  | 4 => ("SidingOrdersModel", "many", "I", false)
  | 5 => ("SidingOrdersModel", "stages", "I", false)
  | 6 => ("SidingOrdersModel", "otherLetter", "[I", true)
  | 7 => ("SidingOrdersModel", "otherLength", "[I", true)
  | 8 => ("SidingOrdersModel", "otherStage", "[I", true)
  | 9 => ("SidingOrdersModel", "otherStraight", "[I", true)
  | 10 => ("SidingOrdersModel", "otherMany", "I", false)
  | 11 => ("SidingOrdersModel", "otherStages", "I", false)
  | 12 => ("SidingOrdersModel", "signs", "[I", true)
  | 13 => ("SidingOrdersModel", "signMany", "I", false)
  | 14 => ("SidingOrdersModel", "item", "[I", true)
  | 15 => ("SidingOrdersModel", "count", "[I", true)
  | 16 => ("SidingOrdersModel", "gone", "I", false)
  | 17 => ("SidingOrdersModel", "slotKey", "[I", true)
  | 18 => ("SidingOrdersModel", "slotMark", "[I", true)
  | 19 => ("SidingOrdersModel", "slotFar", "[I", true)
  | 20 => ("SidingOrdersModel", "slotWays", "[J", true)
  | 21 => ("SidingOrdersModel", "queue", "[I", true)
  | 22 => ("SidingOrdersModel", "queued", "I", false)
  | 23 => ("SidingOrdersModel", "mark", "I", false)
  | 24 => ("SidingOrdersModel", "wanted", "[I", true)
  | 25 => ("SidingOrdersModel", "wantedMany", "I", false)
  | 26 => ("SidingOrdersModel", "farOf", "[I", true)
  | 27 => ("SidingOrdersModel", "waysOf", "[J", true)
  | 28 => ("SidingOrdersModel", "isFound", "[Z", true)
  | 29 => ("SidingOrdersModel", "row", "[I", true)
  | 30 => ("SidingOrdersModel", "train", "[I", true)
  | 31 => ("SidingOrdersModel", "listed", "[I", true)
  | 32 => ("SidingOrdersModel", "was", "[I", true)
  | 33 => ("SidingOrdersModel", "bestNeed", "[I", true)
  | 34 => ("SidingOrdersModel", "isGood", "[Z", true)
  | 35 => ("SidingOrdersModel", "playTrain", "I", false)
  | 36 => ("SidingOrdersModel", "playOrder", "I", false)
  | 37 => ("SidingOrdersModel", "playWagons", "I", false)
  | 38 => ("SidingOrdersModel", "playKeys", "[I", true)
  | 39 => ("SidingOrdersModel", "playDone", "I", false)
  | 40 => ("SidingOrdersModel", "kept", "[I", true)
  | 41 => ("SidingOrdersModel", "isKept", "[Z", true)
  | 42 => ("SidingOrdersModel", "keptAt", "I", false)
  | _ => ("SidingOrdersModel", "isWriting", "Z", false)
def tyX12 : Nat → FieldType := fun k => match k with
  | 0 => .array .int
  | 1 => .array .int
  | 2 => .array .int
  | 3 => .array .int
  | 4 => .int
  | 5 => .int
  | 6 => .array .int
  | 7 => .array .int
  | 8 => .array .int
  | 9 => .array .int
  | 10 => .int
  | 11 => .int
  | 12 => .array .int
  | 13 => .int
  | 14 => .array .int
  | 15 => .array .int
  | 16 => .int
  | 17 => .array .int
  | 18 => .array .int
  | 19 => .array .int
  | 20 => .array .long
  | 21 => .array .int
  | 22 => .int
  | 23 => .int
  | 24 => .array .int
  | 25 => .int
  | 26 => .array .int
  | 27 => .array .long
  | 28 => .array .boolean
  | 29 => .array .int
  | 30 => .array .int
  | 31 => .array .int
  | 32 => .array .int
  | 33 => .array .int
  | 34 => .array .boolean
  | 35 => .int
  | 36 => .int
  | 37 => .int
  | 38 => .array .int
  | 39 => .int
  | 40 => .array .int
  | 41 => .array .boolean
  | 42 => .int
  | _ => .boolean
abbrev wsX120 : List Cond := u_ws RX12 TX12 44
theorem nmX12 : ∀ a, a < 44 → ∀ b, b < 44 → a ≠ b → (TX12 a).2.1 ≠ (TX12 b).2.1 := by decide +kernel
theorem tyX12_ok : ∀ k, k < 44 → parseFieldDescriptor (TX12 k).2.2.1 = some (tyX12 k) := by decide +kernel
abbrev cX12_init : ByteArray := prog_14_method_1_code
def yX12_init : MethodName := ⟨RX12, "<init>", "()V"⟩
abbrev cX12_in : ByteArray := prog_14_method_3_code
def yX12_in : MethodName := ⟨RX12, "in", "(JJJ)Z"⟩
abbrev cX12_lowest : ByteArray := prog_14_method_4_code
def yX12_lowest : MethodName := ⟨RX12, "lowest", "(JJI)J"⟩
abbrev cX12_say : ByteArray := prog_14_method_5_code
def yX12_say : MethodName := ⟨RX12, "say", "(I)I"⟩
abbrev cX12_wipe : ByteArray := prog_14_method_6_code
def yX12_wipe : MethodName := ⟨RX12, "wipe", "()I"⟩
abbrev cX12_isLetter : ByteArray := prog_14_method_7_code
def yX12_isLetter : MethodName := ⟨RX12, "isLetter", "(I)Z"⟩
abbrev cX12_fault : ByteArray := prog_14_method_8_code
def yX12_fault : MethodName := ⟨RX12, "fault", "()I"⟩
abbrev cX12_yard : ByteArray := prog_14_method_9_code
def yX12_yard : MethodName := ⟨RX12, "yard", "()I"⟩
abbrev cX12_isSiding : ByteArray := prog_14_method_10_code
def yX12_isSiding : MethodName := ⟨RX12, "isSiding", "(I)Z"⟩
abbrev cX12_siding : ByteArray := prog_14_method_11_code
def yX12_siding : MethodName := ⟨RX12, "siding", "(II)I"⟩
abbrev cX12_goes : ByteArray := prog_14_method_12_code
def yX12_goes : MethodName := ⟨RX12, "goes", "(II)Z"⟩
abbrev cX12_leads : ByteArray := prog_14_method_13_code
def yX12_leads : MethodName := ⟨RX12, "leads", "(II)I"⟩
abbrev cX12_decode : ByteArray := prog_14_method_14_code
def yX12_decode : MethodName := ⟨RX12, "decode", "(I)V"⟩
abbrev cX12_putNear : ByteArray := prog_14_method_15_code
def yX12_putNear : MethodName := ⟨RX12, "putNear", "(II)V"⟩
abbrev cX12_putFar : ByteArray := prog_14_method_16_code
def yX12_putFar : MethodName := ⟨RX12, "putFar", "(II)V"⟩
abbrev cX12_encode : ByteArray := prog_14_method_17_code
def yX12_encode : MethodName := ⟨RX12, "encode", "()I"⟩
abbrev cX12_takeNear : ByteArray := prog_14_method_18_code
def yX12_takeNear : MethodName := ⟨RX12, "takeNear", "(I)I"⟩
abbrev cX12_takeFar : ByteArray := prog_14_method_19_code
def yX12_takeFar : MethodName := ⟨RX12, "takeFar", "(I)I"⟩
abbrev cX12_canMove : ByteArray := prog_14_method_20_code
def yX12_canMove : MethodName := ⟨RX12, "canMove", "(IIIII)Z"⟩
abbrev cX12_isOut : ByteArray := prog_14_method_21_code
def yX12_isOut : MethodName := ⟨RX12, "isOut", "(II)Z"⟩
abbrev cX12_isIn : ByteArray := prog_14_method_22_code
def yX12_isIn : MethodName := ⟨RX12, "isIn", "(II)Z"⟩
abbrev cX12_doMove : ByteArray := prog_14_method_23_code
def yX12_doMove : MethodName := ⟨RX12, "doMove", "(IIII)V"⟩
abbrev cX12_slotOf : ByteArray := prog_14_method_24_code
def yX12_slotOf : MethodName := ⟨RX12, "slotOf", "(I)I"⟩
abbrev cX12_come : ByteArray := prog_14_method_25_code
def yX12_come : MethodName := ⟨RX12, "come", "(IIJ)V"⟩
abbrev cX12_isWanted : ByteArray := prog_14_method_26_code
def yX12_isWanted : MethodName := ⟨RX12, "isWanted", "()Z"⟩
abbrev cX12_search : ByteArray := prog_14_method_27_code
def yX12_search : MethodName := ⟨RX12, "search", "(II)I"⟩
abbrev cX12_spread : ByteArray := prog_14_method_28_code
def yX12_spread : MethodName := ⟨RX12, "spread", "(II)V"⟩
abbrev cX12_forget : ByteArray := prog_14_method_29_code
def yX12_forget : MethodName := ⟨RX12, "forget", "()V"⟩
abbrev cX12_power : ByteArray := prog_14_method_30_code
def yX12_power : MethodName := ⟨RX12, "power", "(I)I"⟩
abbrev cX12_rankOf : ByteArray := prog_14_method_31_code
def yX12_rankOf : MethodName := ⟨RX12, "rankOf", "(I)I"⟩
abbrev cX12_layRow : ByteArray := prog_14_method_32_code
def yX12_layRow : MethodName := ⟨RX12, "layRow", "(II)V"⟩
abbrev cX12_findAll : ByteArray := prog_14_method_33_code
def yX12_findAll : MethodName := ⟨RX12, "findAll", "(I)V"⟩
abbrev cX12_wagonsOf : ByteArray := prog_14_method_34_code
def yX12_wagonsOf : MethodName := ⟨RX12, "wagonsOf", "(I)I"⟩
abbrev cX12_digitAt : ByteArray := prog_14_method_35_code
def yX12_digitAt : MethodName := ⟨RX12, "digitAt", "(III)I"⟩
abbrev cX12_layTrain : ByteArray := prog_14_method_36_code
def yX12_layTrain : MethodName := ⟨RX12, "layTrain", "(II)V"⟩
abbrev cX12_placeOf : ByteArray := prog_14_method_37_code
def yX12_placeOf : MethodName := ⟨RX12, "placeOf", "(II)I"⟩
abbrev cX12_layOrder : ByteArray := prog_14_method_38_code
def yX12_layOrder : MethodName := ⟨RX12, "layOrder", "(II)V"⟩
abbrev cX12_sortedOf : ByteArray := prog_14_method_39_code
def yX12_sortedOf : MethodName := ⟨RX12, "sortedOf", "(I)I"⟩
abbrev cX12_found : ByteArray := prog_14_method_40_code
def yX12_found : MethodName := ⟨RX12, "found", "(III)I"⟩
abbrev cX12_areTwo : ByteArray := prog_14_method_41_code
def yX12_areTwo : MethodName := ⟨RX12, "areTwo", "(II)Z"⟩
abbrev cX12_least : ByteArray := prog_14_method_42_code
def yX12_least : MethodName := ⟨RX12, "least", "(II)I"⟩
abbrev cX12_ways : ByteArray := prog_14_method_43_code
def yX12_ways : MethodName := ⟨RX12, "ways", "(II)J"⟩
abbrev cX12_nextOf : ByteArray := prog_14_method_44_code
def yX12_nextOf : MethodName := ⟨RX12, "nextOf", "(III)I"⟩
abbrev cX12_isMove : ByteArray := prog_14_method_45_code
def yX12_isMove : MethodName := ⟨RX12, "isMove", "(IIII)Z"⟩
abbrev cX12_moved : ByteArray := prog_14_method_46_code
def yX12_moved : MethodName := ⟨RX12, "moved", "(II)I"⟩
abbrev cX12_want : ByteArray := prog_14_method_47_code
def yX12_want : MethodName := ⟨RX12, "want", "(III)V"⟩
abbrev cX12_first : ByteArray := prog_14_method_48_code
def yX12_first : MethodName := ⟨RX12, "first", "(III)I"⟩
abbrev cX12_orders : ByteArray := prog_14_method_49_code
def yX12_orders : MethodName := ⟨RX12, "orders", "(II)I"⟩
abbrev cX12_insert : ByteArray := prog_14_method_50_code
def yX12_insert : MethodName := ⟨RX12, "insert", "(II)V"⟩
abbrev cX12_trainOf : ByteArray := prog_14_method_51_code
def yX12_trainOf : MethodName := ⟨RX12, "trainOf", "(II)I"⟩
abbrev cX12_sortFar : ByteArray := prog_14_method_52_code
def yX12_sortFar : MethodName := ⟨RX12, "sortFar", "(II)I"⟩
abbrev cX12_isCount : ByteArray := prog_14_method_53_code
def yX12_isCount : MethodName := ⟨RX12, "isCount", "(I)Z"⟩
abbrev cX12_good : ByteArray := prog_14_method_54_code
def yX12_good : MethodName := ⟨RX12, "good", "(II)I"⟩
abbrev cX12_mean : ByteArray := prog_14_method_55_code
def yX12_mean : MethodName := ⟨RX12, "mean", "(II)J"⟩
abbrev cX12_findNeed : ByteArray := prog_14_method_56_code
def yX12_findNeed : MethodName := ⟨RX12, "findNeed", "(II)I"⟩
abbrev cX12_need : ByteArray := prog_14_method_57_code
def yX12_need : MethodName := ⟨RX12, "need", "(II)I"⟩
abbrev cX12_keep : ByteArray := prog_14_method_58_code
def yX12_keep : MethodName := ⟨RX12, "keep", "()I"⟩
abbrev cX12_changeAbout : ByteArray := prog_14_method_59_code
def yX12_changeAbout : MethodName := ⟨RX12, "changeAbout", "()V"⟩
abbrev cX12_unlike : ByteArray := prog_14_method_60_code
def yX12_unlike : MethodName := ⟨RX12, "unlike", "(I)I"⟩
abbrev cX12_play : ByteArray := prog_14_method_61_code
def yX12_play : MethodName := ⟨RX12, "play", "(II)I"⟩
abbrev cX12_move : ByteArray := prog_14_method_62_code
def yX12_move : MethodName := ⟨RX12, "move", "(I)I"⟩
abbrev cX12_back : ByteArray := prog_14_method_63_code
def yX12_back : MethodName := ⟨RX12, "back", "()I"⟩
abbrev cX12_restOf : ByteArray := prog_14_method_64_code
def yX12_restOf : MethodName := ⟨RX12, "restOf", "()I"⟩
abbrev cX12_rest : ByteArray := prog_14_method_65_code
def yX12_rest : MethodName := ⟨RX12, "rest", "()I"⟩
abbrev cX12_next : ByteArray := prog_14_method_66_code
def yX12_next : MethodName := ⟨RX12, "next", "()I"⟩
abbrev cX12_moves : ByteArray := prog_14_method_67_code
def yX12_moves : MethodName := ⟨RX12, "moves", "(I)I"⟩
abbrev cX12_stand : ByteArray := prog_14_method_68_code
def yX12_stand : MethodName := ⟨RX12, "stand", "(I)I"⟩
abbrev cX12_wagonAt : ByteArray := prog_14_method_69_code
def yX12_wagonAt : MethodName := ⟨RX12, "wagonAt", "(I)I"⟩
abbrev cX12_letOut : ByteArray := prog_14_method_70_code
def yX12_letOut : MethodName := ⟨RX12, "letOut", "(I)Z"⟩
abbrev cX12_areHigher : ByteArray := prog_14_method_71_code
def yX12_areHigher : MethodName := ⟨RX12, "areHigher", "(II)Z"⟩
abbrev cX12_hasRoom : ByteArray := prog_14_method_72_code
def yX12_hasRoom : MethodName := ⟨RX12, "hasRoom", "(I)Z"⟩
abbrev cX12_chosen : ByteArray := prog_14_method_73_code
def yX12_chosen : MethodName := ⟨RX12, "chosen", "(II)I"⟩
abbrev cX12_goIn : ByteArray := prog_14_method_74_code
def yX12_goIn : MethodName := ⟨RX12, "goIn", "(II)Z"⟩
abbrev cX12_goOn : ByteArray := prog_14_method_75_code
def yX12_goOn : MethodName := ⟨RX12, "goOn", "(I)Z"⟩
abbrev cX12_thumbed : ByteArray := prog_14_method_76_code
def yX12_thumbed : MethodName := ⟨RX12, "thumbed", "(III)I"⟩
abbrev cX12_thumb : ByteArray := prog_14_method_77_code
def yX12_thumb : MethodName := ⟨RX12, "thumb", "(II)I"⟩
abbrev cX12_sorts : ByteArray := prog_14_method_78_code
def yX12_sorts : MethodName := ⟨RX12, "sorts", "(II)I"⟩
abbrev cX12_draw : ByteArray := prog_14_method_79_code
def yX12_draw : MethodName := ⟨RX12, "draw", "(II)I"⟩
abbrev cX12_pass : ByteArray := prog_14_method_80_code
def yX12_pass : MethodName := ⟨RX12, "pass", "(I)I"⟩
abbrev cX12_passAll : ByteArray := prog_14_method_81_code
def yX12_passAll : MethodName := ⟨RX12, "passAll", "()V"⟩
abbrev cX12_image : ByteArray := prog_14_method_82_code
def yX12_image : MethodName := ⟨RX12, "image", "(I)I"⟩
abbrev cX12_restore : ByteArray := prog_14_method_83_code
def yX12_restore : MethodName := ⟨RX12, "restore", "(I)I"⟩
abbrev cX12_told : ByteArray := prog_14_method_84_code
def yX12_told : MethodName := ⟨RX12, "told", "(I)I"⟩
def RJ6 : String := "java/lang/Integer"
def TJ6 : u_T := fun k => match k with
  | _ => ("", "", "", false)
def tyJ6 : Nat → FieldType := fun k => match k with
  | _ => .int
abbrev wsJ60 : List Cond := u_ws RJ6 TJ6 0
theorem nmJ6 : ∀ a, a < 0 → ∀ b, b < 0 → a ≠ b → (TJ6 a).2.1 ≠ (TJ6 b).2.1 := by decide +kernel
theorem tyJ6_ok : ∀ k, k < 0 → parseFieldDescriptor (TJ6 k).2.2.1 = some (tyJ6 k) := by decide +kernel
abbrev cJ6_bitCount_0f7a4 : ByteArray := prog_15_method_49_code
def yJ6_bitCount_0f7a4 : MethodName := ⟨RJ6, "bitCount", "(I)I"⟩
def RJ9 : String := "java/lang/Math"
def TJ9 : u_T := fun k => match k with
  | _ => ("", "", "", false)
def tyJ9 : Nat → FieldType := fun k => match k with
  | _ => .int
abbrev wsJ90 : List Cond := u_ws RJ9 TJ9 0
theorem nmJ9 : ∀ a, a < 0 → ∀ b, b < 0 → a ≠ b → (TJ9 a).2.1 ≠ (TJ9 b).2.1 := by decide +kernel
theorem tyJ9_ok : ∀ k, k < 0 → parseFieldDescriptor (TJ9 k).2.2.1 = some (tyJ9 k) := by decide +kernel
abbrev cJ9_max_7cf53 : ByteArray := prog_16_method_65_code
def yJ9_max_7cf53 : MethodName := ⟨RJ9, "max", "(II)I"⟩
abbrev cJ9_min_7cf53 : ByteArray := prog_16_method_69_code
def yJ9_min_7cf53 : MethodName := ⟨RJ9, "min", "(II)I"⟩
def RJ10 : String := "java/lang/System"
def TJ10 : u_T := fun k => match k with
  | _ => ("", "", "", false)
def tyJ10 : Nat → FieldType := fun k => match k with
  | _ => .int
abbrev wsJ100 : List Cond := u_ws RJ10 TJ10 0
theorem nmJ10 : ∀ a, a < 0 → ∀ b, b < 0 → a ≠ b → (TJ10 a).2.1 ≠ (TJ10 b).2.1 := by decide +kernel
theorem tyJ10_ok : ∀ k, k < 0 → parseFieldDescriptor (TJ10 k).2.2.1 = some (tyJ10 k) := by decide +kernel
def RL : String := "SidingOrdersLaw"
abbrev cL_law : ByteArray := code
def yL_law : MethodName := ⟨RL, "law", "([I)Z"⟩
/-! what follows is written here -/
abbrev CL : List vw_C := [(RX0, TX0, 4), (RX1, TX1, 3), (RX2, TX2, 3), (RX3, TX3, 2), (RX4, TX4, 2), (RX5, TX5, 7), (RX7, TX7, 6), (RX8, TX8, 3), (RX9, TX9, 1), (RX10, TX10, 9), (RX11, TX11, 10), (RX12, TX12, 44)]
def tyL : List (Nat → FieldType) := [tyX0, tyX1, tyX2, tyX3, tyX4, tyX5, tyX7, tyX8, tyX9, tyX10, tyX11, tyX12]
def TG : List Cond := lw_tbl.filter goodWord
theorem TG_in : ∀ w ∈ TG, w ∈ lw_tbl := fun w h => (List.mem_filter.mp h).1
theorem TG_good : ∀ w ∈ TG, goodWord w = true := fun w h => (List.mem_filter.mp h).2
theorem inX0 : ∀ w ∈ u_ws RX0 TX0 4, w ∈ TG := by decide +kernel
theorem inX1 : ∀ w ∈ u_ws RX1 TX1 3, w ∈ TG := by decide +kernel
theorem inX2 : ∀ w ∈ u_ws RX2 TX2 3, w ∈ TG := by decide +kernel
theorem inX3 : ∀ w ∈ u_ws RX3 TX3 2, w ∈ TG := by decide +kernel
theorem inX4 : ∀ w ∈ u_ws RX4 TX4 2, w ∈ TG := by decide +kernel
theorem inX5 : ∀ w ∈ u_ws RX5 TX5 7, w ∈ TG := by decide +kernel
theorem inX7 : ∀ w ∈ u_ws RX7 TX7 6, w ∈ TG := by decide +kernel
theorem inX8 : ∀ w ∈ u_ws RX8 TX8 3, w ∈ TG := by decide +kernel
theorem inX9 : ∀ w ∈ u_ws RX9 TX9 1, w ∈ TG := by decide +kernel
theorem inX10 : ∀ w ∈ u_ws RX10 TX10 9, w ∈ TG := by decide +kernel
theorem inX11 : ∀ w ∈ u_ws RX11 TX11 10, w ∈ TG := by decide +kernel
theorem inX12 : ∀ w ∈ u_ws RX12 TX12 44, w ∈ TG := by decide +kernel
end
section
/-! THE ABSTRACT MACHINE: cells in a list, references by their places in it; straight stretches of code as a function -/
abbrev AE : Type := (Nat × vp_A) ⊕ (Nat × List Value)
abbrev AH : Type := List AE
/-- pc, locals, stack, cells, cells and slots that may still be made -/
abbrev AC : Type := Nat × List (Option Value) × List Value × AH × Nat × Nat
/-- pc, length, instruction, three numbers that the link gives, a constant -/
abbrev CI : Type := Nat × Nat × Instr × Nat × Nat × Nat × Value
def cV (ad : Nat → Nat) : Value → Value
  | .ref i => .ref (ad i)
  | .int v => .int v
  | .long v => .long v
  | .float v => .float v
  | .double v => .double v
  | .null => .null
  | .retAddr q => .retAddr q
def cE (ad : Nat → Nat) (cA : Nat → ClassId) : AE → va_E
  | .inl x => .inl (cA x.1, x.2)
  | .inr x => .inr (x.1, x.2.map (cV ad))
def cW (ad : Nat → Nat) (cA : Nat → ClassId) (h : AH) : va_W := h.mapIdx (fun i e => (ad i, cE ad cA e))
theorem cV_cat (ad : Nat → Nat) (v : Value) : (cV ad v).category = v.category := by cases v <;> rfl
theorem cW_get {ad : Nat → Nat} {cA : Nat → ClassId} {h : AH} {i : Nat} {e : AE} (he : h[i]? = some e) : (cW ad cA h)[i]? = some (ad i, cE ad cA e) := by
  simp [cW, he]
theorem cW_len (ad : Nat → Nat) (cA : Nat → ClassId) (h : AH) : (cW ad cA h).length = h.length := by simp [cW]
theorem cW_of {ad : Nat → Nat} {cA : Nat → ClassId} {h : AH} {i : Nat} {q : Nat × va_E} (hq : (cW ad cA h)[i]? = some q) : ∃ e, h[i]? = some e ∧ q = (ad i, cE ad cA e) := by
  rw [cW, List.getElem?_mapIdx] at hq
  cases he : h[i]? with
  | none => rw [he] at hq; cases hq
  | some e => rw [he] at hq; exact ⟨e, rfl, (Option.some.inj hq).symm⟩
theorem cW_set (ad : Nat → Nat) (cA : Nat → ClassId) (h : AH) (i : Nat) (e : AE) : (cW ad cA h).set i (ad i, cE ad cA e) = cW ad cA (h.set i e) := by
  apply List.ext_getElem?
  intro j
  rw [cW, cW, List.getElem?_mapIdx, List.getElem?_set, List.getElem?_set, List.getElem?_mapIdx, List.length_mapIdx]
  by_cases hj : i = j
  · subst hj
    by_cases hl : i < h.length <;> simp [hl]
  · simp [hj]
theorem cE_fields {ad : Nat → Nat} {cA : Nat → ClassId} {ci k : Nat} {fs : List Value} {v : Value} : (.inr (ci, (fs.map (cV ad)).set k (cV ad v)) : va_E) = cE ad cA (.inr (ci, fs.set k v)) := by
  simp [cE, List.map_set]
abbrev tysOf (cA : Nat → ClassId) : List (ClassId × FieldType) := [(cA 0, .int), (cA 1, .long), (cA 2, .byte), (cA 3, .boolean)]
abbrev inb (i : Int32) (n : Nat) : Prop := ¬ (i < 0 ∨ n ≤ i.toNatClampNeg)
abbrev isZ (v : Int32) : Prop := narrow .boolean (.int v) = .int v
def irm (x y : Int32) : Int32 := x - x / y * y
def lrm (x y : Int64) : Int64 := x - x / y * y
def iush (x y : Int32) : Int32 := (x.toUInt32 >>> (y.toUInt32 &&& Int32.toUInt32 31)).toInt32
/-- the locals: what is known of them -/
def LH (ad : Nat → Nat) (nL : Nat) (vs : List (Option Value)) (ls : Array Slot) : Prop := vs.length = nL ∧ ls.size = nL ∧ lv_wf ls ∧ ∀ (i : Nat) (v : Value), vs[i]? = some (some v) → ls[i]? = some (.val (cV ad v))
def lvp (ad : Nat → Nat) (vs : List (Option Value)) : List (Nat × Value) := (vs.mapIdx (fun i o => o.map (fun v => (i, cV ad v)))).filterMap id
theorem lvp_mem {ad : Nat → Nat} {vs : List (Option Value)} {q : Nat × Value} : q ∈ lvp ad vs ↔ ∃ v, vs[q.1]? = some (some v) ∧ q.2 = cV ad v := by
  unfold lvp
  rw [List.mem_filterMap]
  constructor
  · rintro ⟨o, ho, hq⟩
    obtain ⟨i, hi⟩ := List.getElem?_of_mem ho
    rw [List.getElem?_mapIdx] at hi
    cases hv : vs[i]? with
    | none => rw [hv] at hi; cases hi
    | some o2 =>
      rw [hv] at hi
      have h1 := Option.some.inj hi
      subst h1
      cases o2 with
      | none => cases hq
      | some v => cases hq; exact ⟨v, hv, rfl⟩
  · rintro ⟨v, hv, hq⟩
    refine ⟨some q, List.mem_of_getElem? (i := q.1) ?_, rfl⟩
    rw [List.getElem?_mapIdx, hv]
    obtain ⟨a, b⟩ := q
    simp at hq
    simp [hq]
theorem LH_has {ad : Nat → Nat} {nL : Nat} {vs : List (Option Value)} {ls : Array Slot} (h : LH ad nL vs ls) : lv_has ls nL (lvp ad vs) := by
  refine ⟨h.2.1, h.2.2.1, fun q hq => ?_⟩
  obtain ⟨v, hv, e⟩ := lvp_mem.mp hq
  rw [e]
  exact h.2.2.2 _ _ hv
/-- what is written at i goes over a long that stands at i - 1 -/
def clr (vs : List (Option Value)) (i : Nat) : List (Option Value) := match i with
  | 0 => vs
  | j + 1 => match vs[j]? with
    | some (some (.long _)) => vs.set j none
    | some (some (.double _)) => vs.set j none
    | _ => vs
theorem clr_len (vs : List (Option Value)) (i : Nat) : (clr vs i).length = vs.length := by
  unfold clr; split
  · rfl
  · split <;> simp
theorem clr_of {vs : List (Option Value)} {i j : Nat} {v : Value} (h : (clr vs i)[j]? = some (some v)) : vs[j]? = some (some v) ∧ ¬ (j + 1 = i ∧ v.category = 2) := by
  unfold clr at h
  split at h
  · exact ⟨h, by omega⟩
  · rename_i i
    split at h
    · rw [List.getElem?_set] at h
      by_cases hij : i = j
      · simp [hij] at h
      · simp [hij] at h; exact ⟨h, by omega⟩
    · rw [List.getElem?_set] at h
      by_cases hij : i = j
      · simp [hij] at h
      · simp [hij] at h; exact ⟨h, by omega⟩
    · rename_i h1 h2
      refine ⟨h, ?_⟩
      rintro ⟨e, hc⟩
      have : i = j := by omega
      subst this
      cases v <;> simp [Value.category] at hc
      · exact h1 _ h
      · exact h2 _ h
theorem LH_store1 {ad : Nat → Nat} {nL : Nat} {vs : List (Option Value)} {ls : Array Slot} (h : LH ad nL vs ls) {i : Nat} {v : Value} (hi : i < nL) {ls' : Array Slot} (h' : lv_has ls' nL ((i, cV ad v) :: (lvp ad vs).filter (fun q => !(q.1 == i) && !(q.1 + 1 == i && q.2.category == 2)))) : LH ad nL ((clr vs i).set i (some v)) ls' := by
  refine ⟨by rw [List.length_set, clr_len]; exact h.1, h'.1, h'.2.1, fun j w hw => ?_⟩
  rw [List.getElem?_set] at hw
  by_cases hij : i = j
  · subst hij
    have hl : i < (clr vs i).length := by rw [clr_len, h.1]; exact hi
    simp [hl] at hw
    subst hw
    exact h'.2.2 (i, cV ad v) List.mem_cons_self
  · simp [hij] at hw
    obtain ⟨h1, h2⟩ := clr_of hw
    refine h'.2.2 (j, cV ad w) (List.mem_cons_of_mem _ (List.mem_filter.mpr ⟨lvp_mem.mpr ⟨w, h1, rfl⟩, ?_⟩))
    have : ¬ j = i := fun e => hij e.symm
    simp [this, cV_cat]
    by_cases e : j + 1 = i
    · exact Or.inr (fun hc => h2 ⟨e, hc⟩)
    · exact Or.inl e
theorem LH_store2 {ad : Nat → Nat} {nL : Nat} {vs : List (Option Value)} {ls : Array Slot} (h : LH ad nL vs ls) {i : Nat} {v : Value} (hi : i + 1 < nL) {ls' : Array Slot} (h' : lv_has ls' nL ((i, cV ad v) :: (lvp ad vs).filter (fun q => !(q.1 == i) && (!(q.1 == i + 1) && !(q.1 + 1 == i && q.2.category == 2))))) : LH ad nL (((clr vs i).set i (some v)).set (i + 1) none) ls' := by
  refine ⟨by rw [List.length_set, List.length_set, clr_len]; exact h.1, h'.1, h'.2.1, fun j w hw => ?_⟩
  rw [List.getElem?_set] at hw
  by_cases hij1 : i + 1 = j
  · simp [hij1] at hw
  simp [hij1] at hw
  rw [List.getElem?_set] at hw
  by_cases hij : i = j
  · subst hij
    have hl : i < (clr vs i).length := by rw [clr_len, h.1]; omega
    simp [hl] at hw
    subst hw
    exact h'.2.2 (i, cV ad v) List.mem_cons_self
  · simp [hij] at hw
    obtain ⟨h1, h2⟩ := clr_of hw
    refine h'.2.2 (j, cV ad w) (List.mem_cons_of_mem _ (List.mem_filter.mpr ⟨lvp_mem.mpr ⟨w, h1, rfl⟩, ?_⟩))
    have e1 : ¬ j = i := fun e => hij e.symm
    have e2 : ¬ j = i + 1 := fun e => hij1 e.symm
    simp [e1, e2, cV_cat]
    by_cases e : j + 1 = i
    · exact Or.inr (fun hc => h2 ⟨e, hc⟩)
    · exact Or.inl e
end
section
/-! ONE STEP of the abstract machine: what it asks (a list of facts), and where it comes -/
def astp : CI → AC → Option (List Prop × AC)
  | (_, len, I, r1, r2, _, cv), (pc, vs, st, h, bk, bn) =>
    match I with
    | .iconst _ => some ([], (pc + len, vs, cv :: st, h, bk, bn))
    | .bipush _ => some ([], (pc + len, vs, cv :: st, h, bk, bn))
    | .sipush _ => some ([], (pc + len, vs, cv :: st, h, bk, bn))
    | .lconst _ => some ([], (pc + len, vs, cv :: st, h, bk, bn))
    | .ldc _ => some ([], (pc + len, vs, cv :: st, h, bk, bn))
    | .ldc_w _ => some ([], (pc + len, vs, cv :: st, h, bk, bn))
    | .ldc2_w _ => some ([], (pc + len, vs, cv :: st, h, bk, bn))
    | .iload _ => match vs[r1]? with
      | some (some (.int x)) => some ([], (pc + len, vs, .int x :: st, h, bk, bn))
      | _ => none
    | .iload_n _ => match vs[r1]? with
      | some (some (.int x)) => some ([], (pc + len, vs, .int x :: st, h, bk, bn))
      | _ => none
    | .lload _ => match vs[r1]? with
      | some (some (.long x)) => some ([], (pc + len, vs, .long x :: st, h, bk, bn))
      | _ => none
    | .lload_n _ => match vs[r1]? with
      | some (some (.long x)) => some ([], (pc + len, vs, .long x :: st, h, bk, bn))
      | _ => none
    | .aload_n _ => match vs[r1]? with
      | some (some (.ref x)) => some ([], (pc + len, vs, .ref x :: st, h, bk, bn))
      | _ => none
    | .istore _ => match st with
      | .int x :: st => match vs[r1]? with
        | some _ => some ([], (pc + len, (clr vs r1).set r1 (some (.int x)), st, h, bk, bn))
        | _ => none
      | _ => none
    | .istore_n _ => match st with
      | .int x :: st => match vs[r1]? with
        | some _ => some ([], (pc + len, (clr vs r1).set r1 (some (.int x)), st, h, bk, bn))
        | _ => none
      | _ => none
    | .astore_n _ => match st with
      | .ref x :: st => match vs[r1]? with
        | some _ => some ([], (pc + len, (clr vs r1).set r1 (some (.ref x)), st, h, bk, bn))
        | _ => none
      | _ => none
    | .lstore _ => match st with
      | .long x :: st => match vs[r1 + 1]? with
        | some _ => some ([], (pc + len, ((clr vs r1).set r1 (some (.long x))).set (r1 + 1) none, st, h, bk, bn))
        | _ => none
      | _ => none
    | .lstore_n _ => match st with
      | .long x :: st => match vs[r1 + 1]? with
        | some _ => some ([], (pc + len, ((clr vs r1).set r1 (some (.long x))).set (r1 + 1) none, st, h, bk, bn))
        | _ => none
      | _ => none
    | .iinc _ _ => match vs[r1]?, cv with
      | some (some (.int x)), .int y => some ([], (pc + len, (clr vs r1).set r1 (some (.int (x + y))), st, h, bk, bn))
      | _, _ => none
    | .iadd => match st with
      | .int y :: .int x :: st => some ([], (pc + len, vs, .int (x + y) :: st, h, bk, bn))
      | _ => none
    | .isub => match st with
      | .int y :: .int x :: st => some ([], (pc + len, vs, .int (x - y) :: st, h, bk, bn))
      | _ => none
    | .imul => match st with
      | .int y :: .int x :: st => some ([], (pc + len, vs, .int (x * y) :: st, h, bk, bn))
      | _ => none
    | .idiv => match st with
      | .int y :: .int x :: st => some ([¬ y = 0], (pc + len, vs, .int (x / y) :: st, h, bk, bn))
      | _ => none
    | .irem => match st with
      | .int y :: .int x :: st => some ([¬ y = 0], (pc + len, vs, .int (irm x y) :: st, h, bk, bn))
      | _ => none
    | .iand => match st with
      | .int y :: .int x :: st => some ([], (pc + len, vs, .int (x &&& y) :: st, h, bk, bn))
      | _ => none
    | .ior => match st with
      | .int y :: .int x :: st => some ([], (pc + len, vs, .int (x ||| y) :: st, h, bk, bn))
      | _ => none
    | .ixor => match st with
      | .int y :: .int x :: st => some ([], (pc + len, vs, .int (x ^^^ y) :: st, h, bk, bn))
      | _ => none
    | .ishl => match st with
      | .int y :: .int x :: st => some ([], (pc + len, vs, .int (x <<< (y &&& 31)) :: st, h, bk, bn))
      | _ => none
    | .ishr => match st with
      | .int y :: .int x :: st => some ([], (pc + len, vs, .int (x >>> (y &&& 31)) :: st, h, bk, bn))
      | _ => none
    | .iushr => match st with
      | .int y :: .int x :: st => some ([], (pc + len, vs, .int (iush x y) :: st, h, bk, bn))
      | _ => none
    | .ladd => match st with
      | .long y :: .long x :: st => some ([], (pc + len, vs, .long (x + y) :: st, h, bk, bn))
      | _ => none
    | .lmul => match st with
      | .long y :: .long x :: st => some ([], (pc + len, vs, .long (x * y) :: st, h, bk, bn))
      | _ => none
    | .ldiv => match st with
      | .long y :: .long x :: st => some ([¬ y = 0], (pc + len, vs, .long (x / y) :: st, h, bk, bn))
      | _ => none
    | .lrem => match st with
      | .long y :: .long x :: st => some ([¬ y = 0], (pc + len, vs, .long (lrm x y) :: st, h, bk, bn))
      | _ => none
    | .land => match st with
      | .long y :: .long x :: st => some ([], (pc + len, vs, .long (x &&& y) :: st, h, bk, bn))
      | _ => none
    | .lshr => match st with
      | .int y :: .long x :: st => some ([], (pc + len, vs, .long (x >>> (y.toInt64 &&& 63)) :: st, h, bk, bn))
      | _ => none
    | .lcmp => match st with
      | .long y :: .long x :: st => some ([], (pc + len, vs, .int (lg_cmp x y) :: st, h, bk, bn))
      | _ => none
    | .i2l => match st with
      | .int x :: st => some ([], (pc + len, vs, .long x.toInt64 :: st, h, bk, bn))
      | _ => none
    | .l2i => match st with
      | .long x :: st => some ([], (pc + len, vs, .int x.toInt32 :: st, h, bk, bn))
      | _ => none
    | .i2b => match st with
      | .int x :: st => some ([], (pc + len, vs, .int x.toInt8.toInt32 :: st, h, bk, bn))
      | _ => none
    | .dup => match st with
      | .int x :: st => some ([], (pc + len, vs, .int x :: .int x :: st, h, bk, bn))
      | .ref x :: st => some ([], (pc + len, vs, .ref x :: .ref x :: st, h, bk, bn))
      | _ => none
    | .dup2 => match st with
      | .int x :: .ref y :: st => some ([], (pc + len, vs, .int x :: .ref y :: .int x :: .ref y :: st, h, bk, bn))
      | _ => none
    | .pop => match st with
      | .int _ :: st => some ([], (pc + len, vs, st, h, bk, bn))
      | .ref _ :: st => some ([], (pc + len, vs, st, h, bk, bn))
      | _ => none
    | .goto _ => some ([], (r1, vs, st, h, bk, bn))
    | .getfield _ => match st with
      | .ref o :: st => match h[o]? with
        | some (.inr (ci, fs)) => match Nat.beq ci r1, fs[r2]? with
          | true, some v => some ([], (pc + len, vs, v :: st, h, bk, bn))
          | _, _ => none
        | _ => none
      | _ => none
    | .putfield _ => match st with
      | v :: .ref o :: st => match h[o]? with
        | some (.inr (ci, fs)) => match Nat.beq ci r1, fs[r2]?, cv, v with
          | true, some _, .int _, .int x => some ([], (pc + len, vs, st, h.set o (.inr (ci, fs.set r2 (.int x))), bk, bn))
          | true, some _, .long _, .int x => some ([isZ x], (pc + len, vs, st, h.set o (.inr (ci, fs.set r2 (.int x))), bk, bn))
          | true, some _, .ref _, .ref x => some ([], (pc + len, vs, st, h.set o (.inr (ci, fs.set r2 (.ref x))), bk, bn))
          | true, some _, .null, .ref x => some ([], (pc + len, vs, st, h.set o (.inr (ci, fs.set r2 (.ref x))), bk, bn))
          | _, _, _, _ => none
        | _ => none
      | _ => none
    | .arraylength => match st with
      | .ref a :: st => match h[a]? with
        | some (.inl (0, n, _)) => some ([], (pc + len, vs, .int (Int32.ofNat n) :: st, h, bk, bn))
        | _ => none
      | _ => none
    | .iaload => match st with
      | .int i :: .ref a :: st => match h[a]? with
        | some (.inl (0, n, .inl f)) => some ([inb i n], (pc + len, vs, .int (f i.toNatClampNeg) :: st, h, bk, bn))
        | _ => none
      | _ => none
    | .laload => match st with
      | .int i :: .ref a :: st => match h[a]? with
        | some (.inl (1, n, .inr (.inl f))) => some ([inb i n], (pc + len, vs, .long (f i.toNatClampNeg) :: st, h, bk, bn))
        | _ => none
      | _ => none
    | .baload => match st with
      | .int i :: .ref a :: st => match h[a]? with
        | some (.inl (2, n, .inl f)) => some ([inb i n], (pc + len, vs, .int (f i.toNatClampNeg) :: st, h, bk, bn))
        | some (.inl (3, n, .inl f)) => some ([inb i n], (pc + len, vs, .int (f i.toNatClampNeg) :: st, h, bk, bn))
        | _ => none
      | _ => none
    | .iastore => match st with
      | .int x :: .int i :: .ref a :: st => match h[a]? with
        | some (.inl (0, n, .inl f)) => some ([inb i n], (pc + len, vs, st, h.set a (.inl (0, n, .inl (upd f i.toNatClampNeg x))), bk, bn))
        | _ => none
      | _ => none
    | .lastore => match st with
      | .long x :: .int i :: .ref a :: st => match h[a]? with
        | some (.inl (1, n, .inr (.inl f))) => some ([inb i n], (pc + len, vs, st, h.set a (.inl (1, n, .inr (.inl (vp_updL f i.toNatClampNeg x)))), bk, bn))
        | _ => none
      | _ => none
    | .bastore => match st with
      | .int x :: .int i :: .ref a :: st => match h[a]? with
        | some (.inl (2, n, .inl f)) => some ([inb i n], (pc + len, vs, st, h.set a (.inl (2, n, .inl (upd f i.toNatClampNeg (vp_nar .byte x)))), bk, bn))
        | some (.inl (3, n, .inl f)) => some ([inb i n], (pc + len, vs, st, h.set a (.inl (3, n, .inl (upd f i.toNatClampNeg (vp_nar .boolean x)))), bk, bn))
        | _ => none
      | _ => none
    | _ => none
def isOT (d : Option FieldType) : Bool := match d with
  | some (.object _) => true
  | some (.array _) => true
  | _ => false
def okP (T : u_T) (k : Nat) (own : String) (ini : Bool) (cv : Value) : Bool := match cv with
  | .int _ => decide (parseFieldDescriptor (T k).2.2.1 = some .int) && decide ((T k).2.2.2 = false)
  | .long _ => decide (parseFieldDescriptor (T k).2.2.1 = some .boolean) && decide ((T k).2.2.2 = false)
  | .ref _ => isOT (parseFieldDescriptor (T k).2.2.1) && decide ((T k).2.2.2 = false)
  | .null => isOT (parseFieldDescriptor (T k).2.2.1) && decide ((T k).2.2.2 = true) && ini && decide ((T k).1 = own)
  | _ => false
/-- what a row of a method's table must be: its instruction as decoded, its links as the tables' words say -/
def okI (own : String) (ini : Bool) (b : ByteArray) (ci : CI) : Bool :=
  decide (decode b ci.1 = .ok (ci.2.2.1, ci.2.1)) &&
    match ci with
    | (pc, len, I, r1, r2, _, cv) => match I with
      | .iconst n => decide (len = 1) && match cv with | .int v => decide (Int32.ofInt n = v) | _ => false
      | .bipush n => decide (len = 2) && match cv with | .int v => decide ((Int8.ofInt n).toInt32 = v) | _ => false
      | .sipush n => decide (len = 3) && match cv with | .int v => decide ((Int16.ofInt n).toInt32 = v) | _ => false
      | .lconst n => decide (len = 1) && match cv with | .long v => decide (Int64.ofNat (n : Nat) = v) | _ => false
      | .ldc i => decide (len = 2) && match cv with | .int v => decide (.constant own i v ∈ TG) | _ => false
      | .ldc_w i => decide (len = 3) && match cv with | .int v => decide (.constant own i v ∈ TG) | _ => false
      | .ldc2_w i => decide (len = 3) && match cv with | .long v => decide (.constantLong own i v ∈ TG) | _ => false
      | .iload i => decide (i = r1) && decide (len = 2)
      | .lload i => decide (i = r1) && decide (len = 2)
      | .istore i => decide (i = r1) && decide (len = 2)
      | .lstore i => decide (i = r1) && decide (len = 2)
      | .iload_n i => decide ((i : Nat) = r1) && decide (len = 1)
      | .lload_n i => decide ((i : Nat) = r1) && decide (len = 1)
      | .aload_n i => decide ((i : Nat) = r1) && decide (len = 1)
      | .istore_n i => decide ((i : Nat) = r1) && decide (len = 1)
      | .astore_n i => decide ((i : Nat) = r1) && decide (len = 1)
      | .lstore_n i => decide ((i : Nat) = r1) && decide (len = 1)
      | .iinc i n => decide (i = r1) && decide (len = 3) && match cv with | .int v => decide (Int32.ofInt n = v) | _ => false
      | .goto off => decide ((pc : Int) + off = (r1 : Int)) && decide (len = 3)
      | .if_icmp _ off => decide ((pc : Int) + off = (r1 : Int)) && decide (len = 3)
      | .ifCond _ off => decide ((pc : Int) + off = (r1 : Int)) && decide (len = 3)
      | .getfield i => decide (len = 3) && match CL[r1]? with
        | some q => decide (r2 < q.2.2) && decide (.fieldLink own i (q.2.1 r2).1 (q.2.1 r2).2.1 (q.2.1 r2).2.2.1 ∈ TG)
        | none => false
      | .putfield i => decide (len = 3) && match CL[r1]? with
        | some q => decide (r2 < q.2.2) && decide (.fieldLink own i (q.2.1 r2).1 (q.2.1 r2).2.1 (q.2.1 r2).2.2.1 ∈ TG) && okP q.2.1 r2 own ini cv
        | none => false
      | .invokevirtual _ => true
      | .invokespecial _ => true
      | .invokestatic _ => true
      | .new _ => true
      | .newarray _ => true
      | .tableswitch _ _ _ _ => true
      | _ => decide (len = 1)
def brun : List CI → AC → Option (List Prop × AC)
  | [], c => some ([], c)
  | i :: r, c => match Nat.beq i.1 c.1 with
    | false => none
    | true => match astp i c with
      | none => none
      | some (gs, c') => match brun r c' with
        | none => none
        | some (gs', c'') => some (gs ++ gs', c'')
def AllP : List Prop → Prop
  | [] => True
  | [g] => g
  | g :: gs => g ∧ AllP gs
theorem AllP_all : ∀ {gs : List Prop}, AllP gs → ∀ g ∈ gs, g
  | [], _, g, hg => by cases hg
  | [a], h, g, hg => by
    rw [List.mem_singleton.mp hg]; exact h
  | a :: b :: r, h, g, hg => by
    rcases List.mem_cons.mp hg with e | e
    · rw [e]; exact h.1
    · exact AllP_all (gs := b :: r) h.2 g e
end
section
/-! WHAT A STRETCH OF CODE DOES, over the machine: MW X conf: from conf the method ends as X says -/
abbrev CTX : Type := Program × Launch × Env × Room × State × MethodId × Array Value × List Frame × Method × Code × va_G × (Nat → ClassId) × (Nat → Nat) × Nat × (Nat → Prop) × Nat × Nat × (State → Prop)
def isNest : Cond → Bool
  | .methodLinkNest _ _ _ _ => true
  | _ => false
/-- the words that a callee's words can't hold: they come with the start -/
def NW : List Cond := lw_tbl.filter isNest
theorem NW_warm {w : Cond} (h : w ∈ NW) {s U : State} (hW : s.WarmedH U.vm) (hZ : va_Nw w s) : va_Nw w U := by
  have h1 := (List.mem_filter.mp h).2
  unfold isNest at h1
  split at h1
  · exact va_Nw.warmM hW hZ
  · cases h1
theorem NW_same {w : Cond} (h : w ∈ NW) {s U : State} (hv : s.vm = U.vm) (hZ : va_Nw w s) : va_Nw w U := by
  have h1 := (List.mem_filter.mp h).2
  unfold isNest at h1
  split at h1
  · exact va_Nw.same rfl hv hZ
  · cases h1
def MW (X : CTX) (c0 : AC) : Prop :=
  match X, c0 with
  | (p, l, e, R, s, m, args, below, meth, c, D, cA, ad0, n0, A, mc, ms, Q), (pc, vs, st, h, bk, bn) =>
    ∀ (ad : Nat → Nat) (H : Heap) (locs : List Loc) (ls : Array Slot) (k n : Nat), n0 ≤ h.length → (∀ i, i < n0 ∨ h.length ≤ i → ad i = ad0 i) → va_P D CL (cW ad cA h) H → va_D A (cW ad cA h) → va_S A s.heap H locs → LH ad c.maxLocals vs ls → k + bk ≤ mc → n + bn ≤ ms →
      W p l e R s m args below meth c H locs k n Q (F0 m pc ls (st.map (cV ad)))
def CX (X : CTX) (b : ByteArray) (own : String) (ini : Bool) (fr lo : Nat) : Prop :=
  match X with
  | (p, _, _, R, s, m, args, _, meth, c, D, cA, _, _, A, mc, ms, _) =>
    p.tables.exec = Jvm.exec ∧ c.code = b ∧ s.vm.findClass own = some m.cls ∧ (∀ w ∈ TG, w.before args s = true) ∧ va_K D CL (tysOf cA) s ∧ meth.locks = false ∧ (∀ q, s.heap.size ≤ q → A q) ∧ (ini = true → meth.name = "<init>") ∧ R.cells = mc ∧ R.slots = ms ∧ fr ≤ R.frames ∧ lo ≤ R.locals ∧ ∀ w ∈ NW, va_Nw w s
theorem CL_in : ∀ (i : Nat) (C : String) (T : u_T) (N : Nat), CL[i]? = some (C, T, N) → ∀ w ∈ u_ws C T N, w ∈ TG := by
  intro i C T N h
  match i, h with
  | 0, h => cases h; exact inX0
  | 1, h => cases h; exact inX1
  | 2, h => cases h; exact inX2
  | 3, h => cases h; exact inX3
  | 4, h => cases h; exact inX4
  | 5, h => cases h; exact inX5
  | 6, h => cases h; exact inX7
  | 7, h => cases h; exact inX8
  | 8, h => cases h; exact inX9
  | 9, h => cases h; exact inX10
  | 10, h => cases h; exact inX11
  | 11, h => cases h; exact inX12
  | n + 12, h => simp [CL] at h
theorem CL_ty : ∀ (i : Nat) (C : String) (T : u_T) (N : Nat), CL[i]? = some (C, T, N) → ∃ ty : Nat → FieldType, (∀ k, k < N → parseFieldDescriptor (T k).2.2.1 = some (ty k)) ∧ ∀ a, a < N → ∀ b, b < N → a ≠ b → (T a).2.1 ≠ (T b).2.1 := by
  intro i C T N h
  match i, h with
  | 0, h => cases h; exact ⟨tyX0, tyX0_ok, nmX0⟩
  | 1, h => cases h; exact ⟨tyX1, tyX1_ok, nmX1⟩
  | 2, h => cases h; exact ⟨tyX2, tyX2_ok, nmX2⟩
  | 3, h => cases h; exact ⟨tyX3, tyX3_ok, nmX3⟩
  | 4, h => cases h; exact ⟨tyX4, tyX4_ok, nmX4⟩
  | 5, h => cases h; exact ⟨tyX5, tyX5_ok, nmX5⟩
  | 6, h => cases h; exact ⟨tyX7, tyX7_ok, nmX7⟩
  | 7, h => cases h; exact ⟨tyX8, tyX8_ok, nmX8⟩
  | 8, h => cases h; exact ⟨tyX9, tyX9_ok, nmX9⟩
  | 9, h => cases h; exact ⟨tyX10, tyX10_ok, nmX10⟩
  | 10, h => cases h; exact ⟨tyX11, tyX11_ok, nmX11⟩
  | 11, h => cases h; exact ⟨tyX12, tyX12_ok, nmX12⟩
  | n + 12, h => simp [CL] at h
theorem okI_dec {own : String} {ini : Bool} {b : ByteArray} {ci : CI} (h : okI own ini b ci = true) : decode b ci.1 = .ok (ci.2.2.1, ci.2.1) := by
  unfold okI at h
  rw [Bool.and_eq_true] at h
  exact of_decide_eq_true h.1
theorem isZ_fits {x : Int32} (h : isZ x) : fits .boolean (.int x) = true := by
  have h1 : x &&& 1 = x := by
    have := h
    unfold isZ at this
    simp [narrow] at this
    exact this
  have h2 : x = 0 ∨ x = 1 := by
    obtain ⟨j, hj, e⟩ := pk_andE x (m := 1) 1 rfl
    rw [h1] at e
    rcases (show j = 0 ∨ j = 1 by omega) with z | z
    · subst z; exact Or.inl e
    · subst z; exact Or.inr e
  rcases h2 with e | e <;> subst e <;> rfl
theorem isOT_spec {d : Option FieldType} (h : isOT d = true) (a : Nat) : ∃ ty, d = some ty ∧ narrow ty (.ref a) = .ref a ∧ fits ty (.ref a) = true := by
  unfold isOT at h
  split at h
  · exact ⟨_, rfl, rfl, rfl⟩
  · exact ⟨_, rfl, rfl, rfl⟩
  · cases h
set_option maxHeartbeats 4000000 in
theorem MW_step {X : CTX} {b : ByteArray} {own : String} {ini : Bool} {fr lo : Nat} (C : CX X b own ini fr lo) {ci : CI} {cf cf' : AC} {gs : List Prop} (hi : okI own ini b ci = true) (hp : ci.1 = cf.1) (he : astp ci cf = some (gs, cf')) (hg : ∀ g ∈ gs, g) (kk : MW X cf') : MW X cf := by
  obtain ⟨p, l, e, R, s, m, args, below, meth, c, D, cA, ad0, n0, A, mc, ms, Q⟩ := X
  obtain ⟨pc, len, I, r1, r2, r3, cv⟩ := ci
  obtain ⟨pc', vs, st, h, bk, bn⟩ := cf
  obtain ⟨hx, hb, hown, hts, hK, hlk, hA, hin, hRc, hRs, hfr, hlo, hNW⟩ := C
  dsimp only at hp
  subst hp
  have hd := okI_dec hi
  dsimp only at hd
  unfold okI at hi
  rw [Bool.and_eq_true] at hi
  have hi := hi.2
  dsimp only at hi
  intro ad H locs ls k n hn0 had hP hD hS hl hk hn
  cases I with
  | iconst n9 =>
    dsimp only [astp] at he
    cases he
    rw [Bool.and_eq_true] at hi
    obtain ⟨h1, h2⟩ := hi
    have h1 := of_decide_eq_true h1
    subst h1
    split at h2
    · exact lv_iconst hx hb hd (of_decide_eq_true h2) (kk ad H locs ls k n hn0 had hP hD hS hl hk hn)
    · cases h2
  | bipush n9 =>
    dsimp only [astp] at he
    cases he
    rw [Bool.and_eq_true] at hi
    obtain ⟨h1, h2⟩ := hi
    have h1 := of_decide_eq_true h1
    subst h1
    split at h2
    · exact lv_bipush hx hb hd (of_decide_eq_true h2) (kk ad H locs ls k n hn0 had hP hD hS hl hk hn)
    · cases h2
  | sipush n9 =>
    dsimp only [astp] at he
    cases he
    rw [Bool.and_eq_true] at hi
    obtain ⟨h1, h2⟩ := hi
    have h1 := of_decide_eq_true h1
    subst h1
    split at h2
    · exact lv_sipush hx hb hd (of_decide_eq_true h2) (kk ad H locs ls k n hn0 had hP hD hS hl hk hn)
    · cases h2
  | lconst n9 =>
    dsimp only [astp] at he
    cases he
    rw [Bool.and_eq_true] at hi
    obtain ⟨h1, h2⟩ := hi
    have h1 := of_decide_eq_true h1
    subst h1
    split at h2
    · exact lv_lconst hx hb hd (of_decide_eq_true h2) (kk ad H locs ls k n hn0 had hP hD hS hl hk hn)
    · cases h2
  | ldc n9 =>
    dsimp only [astp] at he
    cases he
    rw [Bool.and_eq_true] at hi
    obtain ⟨h1, h2⟩ := hi
    have h1 := of_decide_eq_true h1
    subst h1
    split at h2
    · exact lv_ldc hx hb hown (hts _ (of_decide_eq_true h2)) hd (kk ad H locs ls k n hn0 had hP hD hS hl hk hn)
    · cases h2
  | ldc_w n9 =>
    dsimp only [astp] at he
    cases he
    rw [Bool.and_eq_true] at hi
    obtain ⟨h1, h2⟩ := hi
    have h1 := of_decide_eq_true h1
    subst h1
    split at h2
    · exact lv_ldcw hx hb hown (hts _ (of_decide_eq_true h2)) hd (kk ad H locs ls k n hn0 had hP hD hS hl hk hn)
    · cases h2
  | ldc2_w n9 =>
    dsimp only [astp] at he
    cases he
    rw [Bool.and_eq_true] at hi
    obtain ⟨h1, h2⟩ := hi
    have h1 := of_decide_eq_true h1
    subst h1
    split at h2
    · exact lv_ldc2 hx hb hown (hts _ (of_decide_eq_true h2)) hd (kk ad H locs ls k n hn0 had hP hD hS hl hk hn)
    · cases h2
  | iload i9 =>
    dsimp only [astp] at he
    rw [Bool.and_eq_true] at hi
    have h1 := of_decide_eq_true hi.1
    have h2 := of_decide_eq_true hi.2
    subst h1
    subst h2
    split at he
    · rename_i x hx1
      cases he
      exact lv_iload hx hb hd (hl.2.2.2 _ _ hx1) (kk ad H locs ls k n hn0 had hP hD hS hl hk hn)
    · cases he
  | lload i9 =>
    dsimp only [astp] at he
    rw [Bool.and_eq_true] at hi
    have h1 := of_decide_eq_true hi.1
    have h2 := of_decide_eq_true hi.2
    subst h1
    subst h2
    split at he
    · rename_i x hx1
      cases he
      exact lv_lload hx hb hd (hl.2.2.2 _ _ hx1) (kk ad H locs ls k n hn0 had hP hD hS hl hk hn)
    · cases he
  | iload_n i9 =>
    dsimp only [astp] at he
    rw [Bool.and_eq_true] at hi
    have h1 := of_decide_eq_true hi.1
    have h2 := of_decide_eq_true hi.2
    subst h2
    split at he
    · rename_i x hx1
      cases he
      exact lv_iload_n hx hb hd h1 (hl.2.2.2 _ _ hx1) (kk ad H locs ls k n hn0 had hP hD hS hl hk hn)
    · cases he
  | lload_n i9 =>
    dsimp only [astp] at he
    rw [Bool.and_eq_true] at hi
    have h1 := of_decide_eq_true hi.1
    have h2 := of_decide_eq_true hi.2
    subst h2
    split at he
    · rename_i x hx1
      cases he
      exact lv_lload_n hx hb hd h1 (hl.2.2.2 _ _ hx1) (kk ad H locs ls k n hn0 had hP hD hS hl hk hn)
    · cases he
  | aload_n i9 =>
    dsimp only [astp] at he
    rw [Bool.and_eq_true] at hi
    have h1 := of_decide_eq_true hi.1
    have h2 := of_decide_eq_true hi.2
    subst h2
    split at he
    · rename_i x hx1
      cases he
      exact lv_aload_n hx hb hd h1 (hl.2.2.2 _ _ hx1) (kk ad H locs ls k n hn0 had hP hD hS hl hk hn)
    · cases he
  | istore i9 =>
    dsimp only [astp] at he
    rw [Bool.and_eq_true] at hi
    have h1 := of_decide_eq_true hi.1
    have h2 := of_decide_eq_true hi.2
    subst h2
    subst h1
    split at he
    · rename_i x st
      split at he
      · rename_i o ho
        cases he
        have hlt : i9 < c.maxLocals := by rw [← hl.1]; exact (List.getElem?_eq_some_iff.mp ho).1
        exact lv_istore hx hb hd (LH_has hl) hlt rfl (fun ls' h' => kk ad H locs ls' k n hn0 had hP hD hS (LH_store1 (v := .int x) hl hlt h') hk hn)
      · cases he
    · cases he
  | istore_n i9 =>
    dsimp only [astp] at he
    rw [Bool.and_eq_true] at hi
    have h1 := of_decide_eq_true hi.1
    have h2 := of_decide_eq_true hi.2
    subst h2
    split at he
    · rename_i x st
      split at he
      · rename_i o ho
        cases he
        have hlt : r1 < c.maxLocals := by rw [← hl.1]; exact (List.getElem?_eq_some_iff.mp ho).1
        exact lv_istore_n hx hb hd h1 (LH_has hl) hlt rfl (fun ls' h' => kk ad H locs ls' k n hn0 had hP hD hS (LH_store1 (v := .int x) hl hlt h') hk hn)
      · cases he
    · cases he
  | astore_n i9 =>
    dsimp only [astp] at he
    rw [Bool.and_eq_true] at hi
    have h1 := of_decide_eq_true hi.1
    have h2 := of_decide_eq_true hi.2
    subst h2
    split at he
    · rename_i x st
      split at he
      · rename_i o ho
        cases he
        have hlt : r1 < c.maxLocals := by rw [← hl.1]; exact (List.getElem?_eq_some_iff.mp ho).1
        exact lv_astore_n hx hb hd h1 (LH_has hl) hlt rfl (fun ls' h' => kk ad H locs ls' k n hn0 had hP hD hS (LH_store1 (v := .ref x) hl hlt h') hk hn)
      · cases he
    · cases he
  | lstore i9 =>
    dsimp only [astp] at he
    rw [Bool.and_eq_true] at hi
    have h1 := of_decide_eq_true hi.1
    have h2 := of_decide_eq_true hi.2
    subst h2
    subst h1
    split at he
    · rename_i x st
      split at he
      · rename_i o ho
        cases he
        have hlt : i9 + 1 < c.maxLocals := by rw [← hl.1]; exact (List.getElem?_eq_some_iff.mp ho).1
        exact lv_lstore hx hb hd (LH_has hl) hlt rfl (fun ls' h' => kk ad H locs ls' k n hn0 had hP hD hS (LH_store2 (v := .long x) hl hlt h') hk hn)
      · cases he
    · cases he
  | lstore_n i9 =>
    dsimp only [astp] at he
    rw [Bool.and_eq_true] at hi
    have h1 := of_decide_eq_true hi.1
    have h2 := of_decide_eq_true hi.2
    subst h2
    split at he
    · rename_i x st
      split at he
      · rename_i o ho
        cases he
        have hlt : r1 + 1 < c.maxLocals := by rw [← hl.1]; exact (List.getElem?_eq_some_iff.mp ho).1
        exact lv_lstore_n hx hb hd h1 (LH_has hl) hlt rfl (fun ls' h' => kk ad H locs ls' k n hn0 had hP hD hS (LH_store2 (v := .long x) hl hlt h') hk hn)
      · cases he
    · cases he
  | iinc i9 n9 =>
    dsimp only [astp] at he
    rw [Bool.and_eq_true, Bool.and_eq_true] at hi
    have h1 := of_decide_eq_true hi.1.1
    have h2 := of_decide_eq_true hi.1.2
    have h3 := hi.2
    subst h1
    subst h2
    split at he
    · rename_i x y hx1 hi9
      cases he
      have h3 := of_decide_eq_true h3
      have hlt : i9 < c.maxLocals := by rw [← hl.1]; exact (List.getElem?_eq_some_iff.mp hx1).1
      obtain ⟨j, hj⟩ := List.getElem?_of_mem (lvp_mem.mpr ⟨_, hx1, rfl⟩ : (i9, cV ad (.int x)) ∈ lvp ad vs)
      exact lv_iinc (k := j) (v := x + y) hx hb hd (LH_has hl) hj (by rw [h3]) hlt rfl (fun ls' h' => kk ad H locs ls' k n hn0 had hP hD hS (LH_store1 (v := .int (x + y)) hl hlt h') hk hn)
    · cases he
  | iadd =>
    dsimp only [astp] at he
    have h1 := of_decide_eq_true hi
    subst h1
    split at he
    · cases he
      exact lv_iadd hx hb hd (kk ad H locs ls k n hn0 had hP hD hS hl hk hn)
    · cases he
  | isub =>
    dsimp only [astp] at he
    have h1 := of_decide_eq_true hi
    subst h1
    split at he
    · cases he
      exact lv_isub hx hb hd (kk ad H locs ls k n hn0 had hP hD hS hl hk hn)
    · cases he
  | imul =>
    dsimp only [astp] at he
    have h1 := of_decide_eq_true hi
    subst h1
    split at he
    · cases he
      exact lv_imul hx hb hd (kk ad H locs ls k n hn0 had hP hD hS hl hk hn)
    · cases he
  | iand =>
    dsimp only [astp] at he
    have h1 := of_decide_eq_true hi
    subst h1
    split at he
    · cases he
      exact lv_iand hx hb hd (kk ad H locs ls k n hn0 had hP hD hS hl hk hn)
    · cases he
  | ior =>
    dsimp only [astp] at he
    have h1 := of_decide_eq_true hi
    subst h1
    split at he
    · cases he
      exact lv_ior hx hb hd (kk ad H locs ls k n hn0 had hP hD hS hl hk hn)
    · cases he
  | ixor =>
    dsimp only [astp] at he
    have h1 := of_decide_eq_true hi
    subst h1
    split at he
    · cases he
      exact lv_ixor hx hb hd (kk ad H locs ls k n hn0 had hP hD hS hl hk hn)
    · cases he
  | ishl =>
    dsimp only [astp] at he
    have h1 := of_decide_eq_true hi
    subst h1
    split at he
    · cases he
      exact lv_ishl hx hb hd (kk ad H locs ls k n hn0 had hP hD hS hl hk hn)
    · cases he
  | ishr =>
    dsimp only [astp] at he
    have h1 := of_decide_eq_true hi
    subst h1
    split at he
    · cases he
      exact lv_ishr hx hb hd (kk ad H locs ls k n hn0 had hP hD hS hl hk hn)
    · cases he
  | ladd =>
    dsimp only [astp] at he
    have h1 := of_decide_eq_true hi
    subst h1
    split at he
    · cases he
      exact lv_ladd hx hb hd (kk ad H locs ls k n hn0 had hP hD hS hl hk hn)
    · cases he
  | lmul =>
    dsimp only [astp] at he
    have h1 := of_decide_eq_true hi
    subst h1
    split at he
    · cases he
      exact lv_lmul hx hb hd (kk ad H locs ls k n hn0 had hP hD hS hl hk hn)
    · cases he
  | land =>
    dsimp only [astp] at he
    have h1 := of_decide_eq_true hi
    subst h1
    split at he
    · cases he
      exact lv_land hx hb hd (kk ad H locs ls k n hn0 had hP hD hS hl hk hn)
    · cases he
  | idiv =>
    dsimp only [astp] at he
    have h1 := of_decide_eq_true hi
    subst h1
    split at he
    · cases he
      exact lv_idiv hx hb hd (hg _ List.mem_cons_self) (kk ad H locs ls k n hn0 had hP hD hS hl hk hn)
    · cases he
  | irem =>
    dsimp only [astp] at he
    have h1 := of_decide_eq_true hi
    subst h1
    split at he
    · cases he
      exact lv_irem hx hb hd (hg _ List.mem_cons_self) (kk ad H locs ls k n hn0 had hP hD hS hl hk hn)
    · cases he
  | ldiv =>
    dsimp only [astp] at he
    have h1 := of_decide_eq_true hi
    subst h1
    split at he
    · cases he
      exact lv_ldiv hx hb hd (hg _ List.mem_cons_self) (kk ad H locs ls k n hn0 had hP hD hS hl hk hn)
    · cases he
  | lrem =>
    dsimp only [astp] at he
    have h1 := of_decide_eq_true hi
    subst h1
    split at he
    · cases he
      exact lv_lrem hx hb hd (hg _ List.mem_cons_self) (kk ad H locs ls k n hn0 had hP hD hS hl hk hn)
    · cases he
  | iushr =>
    dsimp only [astp] at he
    have h1 := of_decide_eq_true hi
    subst h1
    split at he
    · cases he
      exact lv_iushr hx hb hd rfl (kk ad H locs ls k n hn0 had hP hD hS hl hk hn)
    · cases he
  | lshr =>
    dsimp only [astp] at he
    have h1 := of_decide_eq_true hi
    subst h1
    split at he
    · cases he
      exact lv_lshr hx hb hd rfl (kk ad H locs ls k n hn0 had hP hD hS hl hk hn)
    · cases he
  | lcmp =>
    dsimp only [astp] at he
    have h1 := of_decide_eq_true hi
    subst h1
    split at he
    · cases he
      exact W.lcmp hx hb hd (kk ad H locs ls k n hn0 had hP hD hS hl hk hn)
    · cases he
  | i2l =>
    dsimp only [astp] at he
    have h1 := of_decide_eq_true hi
    subst h1
    split at he
    · cases he
      exact lv_i2l hx hb hd rfl (kk ad H locs ls k n hn0 had hP hD hS hl hk hn)
    · cases he
  | l2i =>
    dsimp only [astp] at he
    have h1 := of_decide_eq_true hi
    subst h1
    split at he
    · cases he
      exact lv_l2i hx hb hd rfl (kk ad H locs ls k n hn0 had hP hD hS hl hk hn)
    · cases he
  | i2b =>
    dsimp only [astp] at he
    have h1 := of_decide_eq_true hi
    subst h1
    split at he
    · cases he
      exact lv_i2b hx hb hd rfl (kk ad H locs ls k n hn0 had hP hD hS hl hk hn)
    · cases he
  | dup =>
    dsimp only [astp] at he
    have h1 := of_decide_eq_true hi
    subst h1
    split at he
    · cases he
      exact lv_dup hx hb hd rfl (kk ad H locs ls k n hn0 had hP hD hS hl hk hn)
    · cases he
      exact lv_dup hx hb hd rfl (kk ad H locs ls k n hn0 had hP hD hS hl hk hn)
    · cases he
  | dup2 =>
    dsimp only [astp] at he
    have h1 := of_decide_eq_true hi
    subst h1
    split at he
    · cases he
      exact lv_dup2_11 hx hb hd rfl rfl (kk ad H locs ls k n hn0 had hP hD hS hl hk hn)
    · cases he
  | pop =>
    dsimp only [astp] at he
    have h1 := of_decide_eq_true hi
    subst h1
    split at he
    · cases he
      exact lv_pop hx hb hd rfl (kk ad H locs ls k n hn0 had hP hD hS hl hk hn)
    · cases he
      exact lv_pop hx hb hd rfl (kk ad H locs ls k n hn0 had hP hD hS hl hk hn)
    · cases he
  | goto o9 =>
    dsimp only [astp] at he
    cases he
    rw [Bool.and_eq_true] at hi
    have h1 := of_decide_eq_true hi.1
    have h2 := of_decide_eq_true hi.2
    subst h2
    exact lv_goto hx hb hd h1 (kk ad H locs ls k n hn0 had hP hD hS hl hk hn)
  | getfield i9 =>
    dsimp only [astp] at he
    rw [Bool.and_eq_true] at hi
    have h1 := of_decide_eq_true hi.1
    have h2 := hi.2
    subst h1
    split at he
    · rename_i o st
      split at he
      · rename_i ci fs ho
        split at he
        · rename_i v hc hv
          cases he
          have hc := Nat.eq_of_beq_eq_true hc
          subst hc
          split at h2
          · rename_i q hq
            obtain ⟨C0, T0, N0⟩ := q
            rw [Bool.and_eq_true] at h2
            exact va_get (D := D) (ci := ci) (C := C0) (T := T0) (N := N0) hx hb hts (CL_in _ _ _ _ hq) hown hK hP o (cW_get ho) hq r2 (of_decide_eq_true h2.1) (hts _ (of_decide_eq_true h2.2)) (fun _ z => z) (by rw [List.getElem?_map, hv]; rfl) hd (kk ad H locs ls k n hn0 had hP hD hS hl hk hn)
          · cases h2
        · cases he
      · cases he
    · cases he
  | putfield i9 =>
    dsimp only [astp] at he
    rw [Bool.and_eq_true] at hi
    have h1 := of_decide_eq_true hi.1
    have h2 := hi.2
    subst h1
    split at he
    · rename_i v o st
      split at he
      · rename_i ci fs ho
        have hPq := cW_get (ad := ad) (cA := cA) ho
        split at h2
        · rename_i q hq
          obtain ⟨C0, T0, N0⟩ := q
          obtain ⟨ty0, hty0, hnm0⟩ := CL_ty _ _ _ _ hq
          rw [Bool.and_eq_true, Bool.and_eq_true] at h2
          obtain ⟨⟨h21, h22⟩, h23⟩ := h2
          have h21 := of_decide_eq_true h21
          have h22 := hts _ (of_decide_eq_true h22)
          split at he
          · rename_i y x hc hv hi9
            cases he
            have hc := Nat.eq_of_beq_eq_true hc
            subst hc
            have hlt : r2 < (fs.map (cV ad)).length := by rw [List.length_map]; exact (List.getElem?_eq_some_iff.mp hv).1
            dsimp only [okP] at h23
            rw [Bool.and_eq_true] at h23
            have h24 := of_decide_eq_true h23.1
            have h25 := of_decide_eq_true h23.2
            refine va_put (D := D) (ci := ci) (v := cV ad (.int x)) (ty := .int) (C := C0) (T := T0) (N := N0) hx hb hts (CL_in _ _ _ _ hq) ty0 hty0 hnm0 hown hK hP hD hS o hPq hq r2 h21 h22 (fun _ z => z) h25 h24 rfl rfl hlt hd (fun H1 locs1 hP1 hD1 hS1 => ?_)
            rw [cE_fields, cW_set] at hP1 hD1
            exact kk ad H1 locs1 ls k n (by rw [List.length_set]; exact hn0) (by rw [List.length_set]; exact had) hP1 hD1 hS1 hl hk hn
          · rename_i y x hc hv hi9
            cases he
            have hc := Nat.eq_of_beq_eq_true hc
            subst hc
            have hlt : r2 < (fs.map (cV ad)).length := by rw [List.length_map]; exact (List.getElem?_eq_some_iff.mp hv).1
            dsimp only [okP] at h23
            rw [Bool.and_eq_true] at h23
            have h24 := of_decide_eq_true h23.1
            have h25 := of_decide_eq_true h23.2
            refine va_put (D := D) (ci := ci) (v := cV ad (.int x)) (ty := .boolean) (C := C0) (T := T0) (N := N0) hx hb hts (CL_in _ _ _ _ hq) ty0 hty0 hnm0 hown hK hP hD hS o hPq hq r2 h21 h22 (fun _ z => z) h25 h24 (hg _ List.mem_cons_self) (isZ_fits (hg _ List.mem_cons_self)) hlt hd (fun H1 locs1 hP1 hD1 hS1 => ?_)
            rw [cE_fields, cW_set] at hP1 hD1
            exact kk ad H1 locs1 ls k n (by rw [List.length_set]; exact hn0) (by rw [List.length_set]; exact had) hP1 hD1 hS1 hl hk hn
          · rename_i y x hc hv hi9
            cases he
            have hc := Nat.eq_of_beq_eq_true hc
            subst hc
            have hlt : r2 < (fs.map (cV ad)).length := by rw [List.length_map]; exact (List.getElem?_eq_some_iff.mp hv).1
            dsimp only [okP] at h23
            rw [Bool.and_eq_true] at h23
            obtain ⟨ty, h24, h26⟩ := isOT_spec h23.1 (ad x)
            have h25 := of_decide_eq_true h23.2
            refine va_put (D := D) (ci := ci) (v := cV ad (.ref x)) (ty := ty) (C := C0) (T := T0) (N := N0) hx hb hts (CL_in _ _ _ _ hq) ty0 hty0 hnm0 hown hK hP hD hS o hPq hq r2 h21 h22 (fun _ z => z) h25 h24 h26.1 h26.2 hlt hd (fun H1 locs1 hP1 hD1 hS1 => ?_)
            rw [cE_fields, cW_set] at hP1 hD1
            exact kk ad H1 locs1 ls k n (by rw [List.length_set]; exact hn0) (by rw [List.length_set]; exact had) hP1 hD1 hS1 hl hk hn
          · rename_i x hc hv hi9
            cases he
            have hc := Nat.eq_of_beq_eq_true hc
            subst hc
            have hlt : r2 < (fs.map (cV ad)).length := by rw [List.length_map]; exact (List.getElem?_eq_some_iff.mp hv).1
            dsimp only [okP] at h23
            rw [Bool.and_eq_true, Bool.and_eq_true, Bool.and_eq_true] at h23
            obtain ⟨ty, h24, h26⟩ := isOT_spec h23.1.1.1 (ad x)
            have h25 := of_decide_eq_true h23.1.1.2
            refine va_putF (D := D) (ci := ci) (v := cV ad (.ref x)) (ty := ty) (C := C0) (T := T0) (N := N0) hx hb hts (CL_in _ _ _ _ hq) ty0 hty0 hnm0 hown hK hP hD hS o hPq hq r2 h21 h22 (fun _ z => z) h25 (hin h23.1.2) (of_decide_eq_true h23.2) h24 h26.1 h26.2 hlt hd (fun H1 locs1 hP1 hD1 hS1 => ?_)
            rw [cE_fields, cW_set] at hP1 hD1
            exact kk ad H1 locs1 ls k n (by rw [List.length_set]; exact hn0) (by rw [List.length_set]; exact had) hP1 hD1 hS1 hl hk hn
          · cases he
        · cases h2
      · cases he
    · cases he
  | arraylength =>
    dsimp only [astp] at he
    have h1 := of_decide_eq_true hi
    subst h1
    split at he
    · rename_i a st
      split at he
      · rename_i nn x ha
        cases he
        exact va_alen hx hb hK hP a 0 (cW_get ha) rfl rfl hd (kk ad H locs ls k n hn0 had hP hD hS hl hk hn)
      · cases he
    · cases he
  | iaload =>
    dsimp only [astp] at he
    have h1 := of_decide_eq_true hi
    subst h1
    split at he
    · rename_i i a st
      split at he
      · rename_i nn f ha
        cases he
        exact va_iald hx hb hK hP a 0 (cW_get ha) rfl (hg _ List.mem_cons_self) hd (kk ad H locs ls k n hn0 had hP hD hS hl hk hn)
      · cases he
    · cases he
  | laload =>
    dsimp only [astp] at he
    have h1 := of_decide_eq_true hi
    subst h1
    split at he
    · rename_i i a st
      split at he
      · rename_i nn f ha
        cases he
        exact va_lald hx hb hK hP a 1 (cW_get ha) rfl (hg _ List.mem_cons_self) hd (kk ad H locs ls k n hn0 had hP hD hS hl hk hn)
      · cases he
    · cases he
  | baload =>
    dsimp only [astp] at he
    have h1 := of_decide_eq_true hi
    subst h1
    split at he
    · rename_i i a st
      split at he
      · rename_i nn f ha
        cases he
        exact va_bald hx hb hK hP a 2 (cW_get ha) rfl (hg _ List.mem_cons_self) hd (kk ad H locs ls k n hn0 had hP hD hS hl hk hn)
      · rename_i nn f ha
        cases he
        exact va_zald hx hb hK hP a 3 (cW_get ha) rfl (hg _ List.mem_cons_self) hd (kk ad H locs ls k n hn0 had hP hD hS hl hk hn)
      · cases he
    · cases he
  | iastore =>
    dsimp only [astp] at he
    have h1 := of_decide_eq_true hi
    subst h1
    split at he
    · rename_i x i a st
      split at he
      · rename_i nn f ha
        cases he
        refine va_iast hx hb hK hP hD hS a 0 (cW_get ha) rfl (hg _ List.mem_cons_self) hd (fun H1 locs1 hP1 hD1 hS1 => ?_)
        have e1 := cW_set ad cA h a (.inl (0, nn, .inl (upd f i.toNatClampNeg x)))
        refine kk ad H1 locs1 ls k n (by rw [List.length_set]; exact hn0) (by rw [List.length_set]; exact had) ?_ ?_ hS1 hl hk hn
        · rw [← e1]; exact hP1
        · rw [← e1]; exact hD1
      · cases he
    · cases he
  | lastore =>
    dsimp only [astp] at he
    have h1 := of_decide_eq_true hi
    subst h1
    split at he
    · rename_i x i a st
      split at he
      · rename_i nn f ha
        cases he
        refine va_last hx hb hK hP hD hS a 1 (cW_get ha) rfl (hg _ List.mem_cons_self) hd (fun H1 locs1 hP1 hD1 hS1 => ?_)
        have e1 := cW_set ad cA h a (.inl (1, nn, .inr (.inl (vp_updL f i.toNatClampNeg x))))
        refine kk ad H1 locs1 ls k n (by rw [List.length_set]; exact hn0) (by rw [List.length_set]; exact had) ?_ ?_ hS1 hl hk hn
        · rw [← e1]; exact hP1
        · rw [← e1]; exact hD1
      · cases he
    · cases he
  | bastore =>
    dsimp only [astp] at he
    have h1 := of_decide_eq_true hi
    subst h1
    split at he
    · rename_i x i a st
      split at he
      · rename_i nn f ha
        cases he
        refine va_bast hx hb hK hP hD hS a 2 (cW_get ha) rfl (hg _ List.mem_cons_self) hd (fun H1 locs1 hP1 hD1 hS1 => ?_)
        have e1 := cW_set ad cA h a (.inl (2, nn, .inl (upd f i.toNatClampNeg (vp_nar .byte x))))
        refine kk ad H1 locs1 ls k n (by rw [List.length_set]; exact hn0) (by rw [List.length_set]; exact had) ?_ ?_ hS1 hl hk hn
        · rw [← e1]; exact hP1
        · rw [← e1]; exact hD1
      · rename_i nn f ha
        cases he
        refine va_zast hx hb hK hP hD hS a 3 (cW_get ha) rfl (hg _ List.mem_cons_self) hd (fun H1 locs1 hP1 hD1 hS1 => ?_)
        have e1 := cW_set ad cA h a (.inl (3, nn, .inl (upd f i.toNatClampNeg (vp_nar .boolean x))))
        refine kk ad H1 locs1 ls k n (by rw [List.length_set]; exact hn0) (by rw [List.length_set]; exact had) ?_ ?_ hS1 hl hk hn
        · rw [← e1]; exact hP1
        · rw [← e1]; exact hD1
      · cases he
    · cases he
  | _ =>
    dsimp only [astp] at he
    cases he
end
section
/-! STRETCHES, BRANCHES, RETURNS, CONTRACTS -/
theorem MW_runL {X : CTX} {b : ByteArray} {own : String} {ini : Bool} {fr lo : Nat} (C : CX X b own ini fr lo) : ∀ (blk : List CI), (∀ ci ∈ blk, okI own ini b ci = true) → ∀ (cf cf' : AC) (gs : List Prop), brun blk cf = some (gs, cf') → (∀ g ∈ gs, g) → MW X cf' → MW X cf
  | [], _, cf, cf', gs, he, _, k => by cases he; exact k
  | i :: r, hb, cf, cf', gs, he, hg, k => by
    unfold brun at he
    split at he
    · cases he
    · rename_i hpc
      split at he
      · cases he
      · rename_i gs1 c1 h1
        split at he
        · cases he
        · rename_i gs2 c2 h2
          cases he
          exact MW_step C (hb i List.mem_cons_self) (Nat.eq_of_beq_eq_true hpc) h1 (fun g h => hg g (List.mem_append_left _ h)) (MW_runL C r (fun ci h => hb ci (List.mem_cons_of_mem _ h)) c1 cf' gs2 h2 (fun g h => hg g (List.mem_append_right _ h)) k)
theorem MW_run {X : CTX} {b : ByteArray} {own : String} {ini : Bool} {fr lo : Nat} (C : CX X b own ini fr lo) {tab : List CI} (ht : tab.all (okI own ini b) = true) (i n : Nat) {cf cf' : AC} {gs : List Prop} (he : brun ((tab.drop i).take n) cf = some (gs, cf')) (hg : AllP gs) (k : MW X cf') : MW X cf :=
  MW_runL C _ (fun ci h => List.all_eq_true.mp ht ci (List.mem_of_mem_drop (List.mem_of_mem_take h))) cf cf' gs he (AllP_all hg) k
/-- a branch: what is asked, whether 'yes' goes on straight, the rest of the stack -/
def bcnd : Instr → List Value → Option (Prop × Bool × List Value)
  | I, st => match I with
    | .if_icmp c _ => match st with
      | .int y :: .int x :: r => match c with
        | .eq => some (x = y, false, r)
        | .ne => some (x = y, true, r)
        | .lt => some (x < y, false, r)
        | .ge => some (x < y, true, r)
        | .gt => some (y < x, false, r)
        | .le => some (y < x, true, r)
      | _ => none
    | .ifCond c _ => match st with
      | .int x :: r => match c with
        | .eq => some (x = 0, false, r)
        | .ne => some (x = 0, true, r)
        | .lt => some (x < 0, false, r)
        | .ge => some (x < 0, true, r)
        | .gt => some (0 < x, false, r)
        | .le => some (0 < x, true, r)
      | _ => none
    | _ => none
theorem i_nlt {x y : Int32} (h : ¬ x < y) : y ≤ x := Int32.not_lt.mp h
theorem i_nle {x y : Int32} (h : ¬ x ≤ y) : y < x := Int32.not_le.mp h
theorem i_ltn {x y : Int32} (h : y ≤ x) : ¬ x < y := Int32.not_lt.mpr h
theorem MW_br {X : CTX} {b : ByteArray} {own : String} {ini : Bool} {fr lo : Nat} (C : CX X b own ini fr lo) {tab : List CI} (ht : tab.all (okI own ini b) = true) (i : Nat) {pc tgt : Nat} {vs : List (Option Value)} {st r : List Value} {h : AH} {bk bn : Nat} {I : Instr} {r2 r3 : Nat} {cv : Value} {P : Prop} {sw : Bool}
    (hc : tab[i]? = some (pc, 3, I, tgt, r2, r3, cv)) (hb : bcnd I st = some (P, sw, r)) (kt : P → MW X (bif sw then pc + 3 else tgt, vs, r, h, bk, bn)) (kf : ¬ P → MW X (bif sw then tgt else pc + 3, vs, r, h, bk, bn)) : MW X (pc, vs, st, h, bk, bn) := by
  have hi : okI own ini b (pc, 3, I, tgt, r2, r3, cv) = true := List.all_eq_true.mp ht _ (List.mem_of_getElem? hc)
  obtain ⟨p, l, e, R, s, m, args, below, meth, c, D, cA, ad0, n0, A, mc, ms, Q⟩ := X
  obtain ⟨hx, hcb, hown, hts, hK, hlk, hA, hin, hRc, hRs, hfr, hlo, hNW⟩ := C
  have hd := okI_dec hi
  dsimp only at hd
  unfold okI at hi
  rw [Bool.and_eq_true] at hi
  have hi := hi.2
  dsimp only at hi
  intro ad H locs ls k n hn0 had hP hD hS hl hk hn
  cases I with
  | if_icmp cc off =>
    dsimp only at hi
    rw [Bool.and_eq_true] at hi
    have htg := of_decide_eq_true hi.1
    dsimp only [bcnd] at hb
    split at hb
    · rename_i y x r
      cases cc <;> (dsimp only at hb; cases hb)
      · exact lv_icmp_eq hx hcb hd htg (fun q => kt q ad H locs ls k n hn0 had hP hD hS hl hk hn) (fun q => kf q ad H locs ls k n hn0 had hP hD hS hl hk hn)
      · exact lv_icmp_ne hx hcb hd htg (fun q => kf q ad H locs ls k n hn0 had hP hD hS hl hk hn) (fun q => kt q ad H locs ls k n hn0 had hP hD hS hl hk hn)
      · exact lv_icmp_lt hx hcb hd htg (fun q => kt q ad H locs ls k n hn0 had hP hD hS hl hk hn) (fun q => kf q ad H locs ls k n hn0 had hP hD hS hl hk hn)
      · exact lv_icmp_ge hx hcb hd htg (fun q => kf (i_ltn q) ad H locs ls k n hn0 had hP hD hS hl hk hn) (fun q => kt (i_nle q) ad H locs ls k n hn0 had hP hD hS hl hk hn)
      · exact lv_icmp_gt hx hcb hd htg (fun q => kt q ad H locs ls k n hn0 had hP hD hS hl hk hn) (fun q => kf q ad H locs ls k n hn0 had hP hD hS hl hk hn)
      · exact lv_icmp_le hx hcb hd htg (fun q => kf (i_ltn q) ad H locs ls k n hn0 had hP hD hS hl hk hn) (fun q => kt (i_nle q) ad H locs ls k n hn0 had hP hD hS hl hk hn)
    · cases hb
  | ifCond cc off =>
    dsimp only at hi
    rw [Bool.and_eq_true] at hi
    have htg := of_decide_eq_true hi.1
    dsimp only [bcnd] at hb
    split at hb
    · rename_i x r
      cases cc <;> (dsimp only at hb; cases hb)
      · exact lv_if_eq hx hcb hd htg (fun q => kt q ad H locs ls k n hn0 had hP hD hS hl hk hn) (fun q => kf q ad H locs ls k n hn0 had hP hD hS hl hk hn)
      · exact lv_if_ne hx hcb hd htg (fun q => kf q ad H locs ls k n hn0 had hP hD hS hl hk hn) (fun q => kt q ad H locs ls k n hn0 had hP hD hS hl hk hn)
      · exact lv_if_lt hx hcb hd htg (fun q => kt q ad H locs ls k n hn0 had hP hD hS hl hk hn) (fun q => kf q ad H locs ls k n hn0 had hP hD hS hl hk hn)
      · exact lv_if_ge hx hcb hd htg (fun q => kf (i_ltn q) ad H locs ls k n hn0 had hP hD hS hl hk hn) (fun q => kt (i_nle q) ad H locs ls k n hn0 had hP hD hS hl hk hn)
      · exact lv_if_gt hx hcb hd htg (fun q => kt q ad H locs ls k n hn0 had hP hD hS hl hk hn) (fun q => kf q ad H locs ls k n hn0 had hP hD hS hl hk hn)
      · exact lv_if_le hx hcb hd htg (fun q => kf (i_ltn q) ad H locs ls k n hn0 had hP hD hS hl hk hn) (fun q => kt (i_nle q) ad H locs ls k n hn0 had hP hD hS hl hk hn)
    · cases hb
  | _ => dsimp only [bcnd] at hb; cases hb
/-- fewer locals are said -/
def pick : List Bool → List (Option Value) → List (Option Value)
  | [], _ => []
  | _, [] => []
  | c :: cs, v :: vs => (bif c then v else none) :: pick cs vs
theorem pick_of : ∀ (cs : List Bool) (vs : List (Option Value)) (i : Nat) (v : Value), (pick cs vs)[i]? = some (some v) → vs[i]? = some (some v)
  | [], vs, i, v, h => by cases vs <;> simp [pick] at h
  | c :: cs, [], i, v, h => by simp [pick] at h
  | c :: cs, w :: vs, 0, v, h => by
    cases c <;> simp [pick] at h
    simp [h]
  | c :: cs, w :: vs, i + 1, v, h => by
    simp [pick] at h
    simpa using pick_of cs vs i v h
theorem pick_len : ∀ (cs : List Bool) (vs : List (Option Value)), cs.length = vs.length → (pick cs vs).length = vs.length
  | [], [], _ => rfl
  | [], w :: vs, h => by cases h
  | c :: cs, [], h => by cases h
  | c :: cs, w :: vs, h => by simp [pick, pick_len cs vs (by simpa using h)]
theorem MW_pick {X : CTX} {pc : Nat} {vs vs' : List (Option Value)} {st : List Value} {h : AH} {bk bn : Nat} (cs : List Bool) (hl : cs.length = vs.length) (he : pick cs vs = vs') (k : MW X (pc, vs', st, h, bk, bn)) : MW X (pc, vs, st, h, bk, bn) := by
  subst he
  obtain ⟨p, l, e, R, s, m, args, below, meth, c, D, cA, ad0, n0, A, mc, ms, Q⟩ := X
  intro ad H locs ls kk n hn0 had hP hD hS hL hk hn
  exact k ad H locs ls kk n hn0 had hP hD hS ⟨by rw [pick_len cs vs hl]; exact hL.1, hL.2.1, hL.2.2.1, fun i v hv => hL.2.2.2 i v (pick_of cs vs i v hv)⟩ hk hn
theorem MW_eq {X : CTX} {cf cf' : AC} (e : cf = cf') (k : MW X cf') : MW X cf := e ▸ k
/-- the end of a method: its answer and the cells as K says -/
def QK (D : va_G) (cA : Nat → ClassId) (n0 : Nat) (ad0 : Nat → Nat) (A : Nat → Prop) (K : Option Value → AH → Prop) : Array Value → State → Outcome → State → Prop := fun _ st o t =>
  (∃ (v : Option Value) (ad : Nat → Nat) (h : AH), o = .returned (v.map (cV ad)) ∧ (∀ i, i < n0 ∨ h.length ≤ i → ad i = ad0 i) ∧ n0 ≤ h.length ∧ K v h ∧ va_P D CL (cW ad cA h) t.heap ∧ va_K D CL (tysOf cA) t ∧ va_D A (cW ad cA h)) ∧ va_F A st t
end
section
/-! CONTRACTS: a method's start, its end, its calls -/
def RQ (X : CTX) (ret : Option FieldType) (K : Option Value → AH → Prop) : Prop :=
  match X with
  | (_, _, _, _, s, _, args, below, meth, _, D, cA, ad0, n0, A, mc, ms, Q) => meth.sig.returnType = ret ∧ Q = MQ below (QK D cA n0 ad0 A K) args s mc ms A
/-- the contract: from the cells h and the arguments as, the method ends, and K says how -/
def CT (y : MethodName) (b : ByteArray) (nL : Nat) (ret : Option FieldType) (fr lo mc ms : Nat) (as : List Value) (h : AH) (K : Option Value → AH → Prop) : Prop :=
  ∀ (l : Launch) (D : va_G) (cA : Nat → ClassId) (ad : Nat → Nat) (sz : Nat), Met l y (.code y b nL ret :: TG) { frames := fr, cells := mc, slots := ms, locals := lo }
    (va_Pc (as.map (cV ad)) (fun U => U.heap.size = sz ∧ va_P D CL (cW ad cA h) U.heap ∧ va_K D CL (tysOf cA) U ∧ va_D (fun _ => True) (cW ad cA h) ∧ ∀ w ∈ NW, va_Nw w U))
    (QK D cA h.length ad (va_A (cW ad cA h) sz) K) mc ms (va_A (cW ad cA h) sz)
def ent : List Value → List (Option Value)
  | [] => []
  | v :: r => match v with
    | .long x => some (.long x) :: none :: ent r
    | .double x => some (.double x) :: none :: ent r
    | v => some v :: ent r
theorem ent_of (ad : Nat → Nat) : ∀ (as : List Value) (i0 j : Nat) (v : Value), (ent as)[j]? = some (some v) → (i0 + j, cV ad v) ∈ lv_args i0 (as.map (cV ad))
  | [], i0, j, v, h => by simp [ent] at h
  | a :: r, i0, j, v, h => by
    cases a with
    | long x =>
      dsimp only [ent] at h
      match j, h with
      | 0, h => cases h; exact List.mem_cons_self
      | 1, h => cases h
      | j + 2, h =>
        have h1 := ent_of ad r (i0 + 2) j v (by simpa using h)
        rw [show i0 + (j + 2) = i0 + 2 + j by omega]
        exact List.mem_cons_of_mem _ h1
    | double x =>
      dsimp only [ent] at h
      match j, h with
      | 0, h => cases h; exact List.mem_cons_self
      | 1, h => cases h
      | j + 2, h =>
        have h1 := ent_of ad r (i0 + 2) j v (by simpa using h)
        rw [show i0 + (j + 2) = i0 + 2 + j by omega]
        exact List.mem_cons_of_mem _ h1
    | int x =>
      dsimp only [ent] at h
      match j, h with
      | 0, h => cases h; exact List.mem_cons_self
      | j + 1, h =>
        have h1 := ent_of ad r (i0 + 1) j v (by simpa using h)
        rw [show i0 + (j + 1) = i0 + 1 + j by omega]
        exact List.mem_cons_of_mem _ h1
    | ref x =>
      dsimp only [ent] at h
      match j, h with
      | 0, h => cases h; exact List.mem_cons_self
      | j + 1, h =>
        have h1 := ent_of ad r (i0 + 1) j v (by simpa using h)
        rw [show i0 + (j + 1) = i0 + 1 + j by omega]
        exact List.mem_cons_of_mem _ h1
    | float x =>
      dsimp only [ent] at h
      match j, h with
      | 0, h => cases h; exact List.mem_cons_self
      | j + 1, h =>
        have h1 := ent_of ad r (i0 + 1) j v (by simpa using h)
        rw [show i0 + (j + 1) = i0 + 1 + j by omega]
        exact List.mem_cons_of_mem _ h1
    | null =>
      dsimp only [ent] at h
      match j, h with
      | 0, h => cases h; exact List.mem_cons_self
      | j + 1, h =>
        have h1 := ent_of ad r (i0 + 1) j v (by simpa using h)
        rw [show i0 + (j + 1) = i0 + 1 + j by omega]
        exact List.mem_cons_of_mem _ h1
    | retAddr x =>
      dsimp only [ent] at h
      match j, h with
      | 0, h => cases h; exact List.mem_cons_self
      | j + 1, h =>
        have h1 := ent_of ad r (i0 + 1) j v (by simpa using h)
        rw [show i0 + (j + 1) = i0 + 1 + j by omega]
        exact List.mem_cons_of_mem _ h1
theorem lg_sl_len (ad : Nat → Nat) : ∀ as : List Value, (lg_sl (as.map (cV ad))).length = (ent as).length
  | [] => rfl
  | a :: r => by
    have ih := lg_sl_len ad r
    cases a <;> simp [lg_sl, ent, cV, Value.category] at ih ⊢ <;> simp [ih]
theorem CT_of {y : MethodName} {b : ByteArray} {nL : Nat} {ret : Option FieldType} {fr lo mc ms : Nat} {as : List Value} {h : AH} {K : Option Value → AH → Prop} (hy : plainName y.cls = true) {vs0 : List (Option Value)} (hvs : ent as ++ List.replicate (nL - (ent as).length) none = vs0) (hle : Nat.ble (ent as).length nL = true)
    (kk : ∀ X : CTX, CX X b y.cls (decide (y.name = "<init>")) fr lo → RQ X ret K → MW X (0, vs0, [], h, mc, ms)) : CT y b nL ret fr lo mc ms as h K := by
  intro l D cA ad sz
  refine Met.ofW (cc := b) (maxL := nL) (ret := ret) hy rfl ?_
  intro p e s m args below meth c s₁ B hml hv
  obtain ⟨rfl, hsz, hP, hK, hD0, hNW⟩ := hv
  subst hsz
  have hts := atoms_spec (ws := .code y b nL ret :: TG) B.pre
  have C : CX (p, l, e, { frames := fr, cells := mc, slots := ms, locals := lo }, s, m, (as.map (cV ad)).toArray, below, meth, c, D, cA, ad, h.length, va_A (cW ad cA h) s.heap.size, mc, ms, MQ below (QK D cA h.length ad (va_A (cW ad cA h) s.heap.size) K) (as.map (cV ad)).toArray s mc ms (va_A (cW ad cA h) s.heap.size)) b y.cls (decide (y.name = "<init>")) fr lo :=
    ⟨B.exec, B.bytes, findClass_of_methodNamed B.named, fun w hw => hts w (List.mem_cons_of_mem _ hw), hK, B.notSynchronized, fun q hq => Or.inr hq, fun hi => by rw [(name_of_methodNamed B.named B.method).1]; exact of_decide_eq_true hi, rfl, rfl, Nat.le_refl _, Nat.le_refl _, hNW⟩
  have hrq : RQ (p, l, e, { frames := fr, cells := mc, slots := ms, locals := lo }, s, m, (as.map (cV ad)).toArray, below, meth, c, D, cA, ad, h.length, va_A (cW ad cA h) s.heap.size, mc, ms, MQ below (QK D cA h.length ad (va_A (cW ad cA h) s.heap.size) K) (as.map (cV ad)).toArray s mc ms (va_A (cW ad cA h) s.heap.size)) ret K := ⟨B.returns, rfl⟩
  have hle := Nat.le_of_ble_eq_true hle
  have hl := lv_entry (as.map (cV ad)) (n := nL) (by rw [lg_sl_len]; exact hle)
  rw [lg_entry_eq]
  generalize hls : (lg_sl (as.map (cV ad)) ++ List.replicate (nL - (lg_sl (as.map (cV ad))).length) Slot.unset).toArray = ls at hl ⊢
  have hLH : LH ad c.maxLocals vs0 ls := by
    rw [hml, ← hvs]
    refine ⟨?_, hl.1, hl.2.1, fun i v hv => ?_⟩
    · rw [List.length_append, List.length_replicate]; omega
    · rw [List.getElem?_append] at hv
      split at hv
      · have h1 := ent_of ad as 0 i v hv
        rw [Nat.zero_add] at h1
        exact hl.2.2 _ h1
      · rw [List.getElem?_replicate] at hv
        split at hv <;> cases hv
  exact kk _ C hrq ad s.heap [] ls 0 0 (Nat.le_refl _) (fun _ _ => rfl) hP (hD0.self) va_S.rf hLH (by omega) (by omega)
section
variable {X : CTX} {b : ByteArray} {own : String} {ini : Bool} {fr lo : Nat} {tab : List CI} {pc : Nat} {vs : List (Option Value)} {h : AH} {bk bn : Nat} {K : Option Value → AH → Prop} {r1 r2 r3 : Nat} {cv : Value}
theorem MW_iret (C : CX X b own ini fr lo) (ht : tab.all (okI own ini b) = true) (hq : RQ X (some .int) K) (i : Nat) (hc : tab[i]? = some (pc, 1, .ireturn, r1, r2, r3, cv)) {v : Int32} (hk : K (some (.int v)) h) : MW X (pc, vs, [.int v], h, bk, bn) := by
  have hi : okI own ini b (pc, 1, .ireturn, r1, r2, r3, cv) = true := List.all_eq_true.mp ht _ (List.mem_of_getElem? hc)
  obtain ⟨p, l, e, R, s, m, args, below, meth, c, D, cA, ad0, n0, A, mc, ms, Q⟩ := X
  obtain ⟨hx, hcb, hown, hts, hK, hlk, hA, hin, hRc, hRs, hfr, hlo, hNW⟩ := C
  obtain ⟨hr, hQ⟩ := hq
  subst hQ
  have hd := okI_dec hi
  intro ad H locs ls k n hn0 had hP hD hS hl hk1 hn1
  refine W.widen (k := mc) (n := ms) (by omega) (by omega) ?_
  exact W.iret hx hcb hr (fun t ht hW => ⟨⟨some (.int v), ad, h, rfl, had, hn0, hk, by rw [ht]; exact hP, va_K.moved hW.alike hK, hD⟩, hS.F ht⟩) hS.2.2 hd hlk
theorem MW_zret (C : CX X b own ini fr lo) (ht : tab.all (okI own ini b) = true) (hq : RQ X (some .boolean) K) (i : Nat) (hc : tab[i]? = some (pc, 1, .ireturn, r1, r2, r3, cv)) {v : Int32} (hz : isZ v) (hk : K (some (.int v)) h) : MW X (pc, vs, [.int v], h, bk, bn) := by
  have hi : okI own ini b (pc, 1, .ireturn, r1, r2, r3, cv) = true := List.all_eq_true.mp ht _ (List.mem_of_getElem? hc)
  obtain ⟨p, l, e, R, s, m, args, below, meth, c, D, cA, ad0, n0, A, mc, ms, Q⟩ := X
  obtain ⟨hx, hcb, hown, hts, hK, hlk, hA, hin, hRc, hRs, hfr, hlo, hNW⟩ := C
  obtain ⟨hr, hQ⟩ := hq
  subst hQ
  have hd := okI_dec hi
  intro ad H locs ls k n hn0 had hP hD hS hl hk1 hn1
  refine W.widen (k := mc) (n := ms) (by omega) (by omega) ?_
  exact W.zret hx hcb hr hz (fun t ht hW => ⟨⟨some (.int v), ad, h, rfl, had, hn0, hk, by rw [ht]; exact hP, va_K.moved hW.alike hK, hD⟩, hS.F ht⟩) hS.2.2 hd hlk
theorem MW_lret (C : CX X b own ini fr lo) (ht : tab.all (okI own ini b) = true) (hq : RQ X (some .long) K) (i : Nat) (hc : tab[i]? = some (pc, 1, .lreturn, r1, r2, r3, cv)) {v : Int64} (hk : K (some (.long v)) h) : MW X (pc, vs, [.long v], h, bk, bn) := by
  have hi : okI own ini b (pc, 1, .lreturn, r1, r2, r3, cv) = true := List.all_eq_true.mp ht _ (List.mem_of_getElem? hc)
  obtain ⟨p, l, e, R, s, m, args, below, meth, c, D, cA, ad0, n0, A, mc, ms, Q⟩ := X
  obtain ⟨hx, hcb, hown, hts, hK, hlk, hA, hin, hRc, hRs, hfr, hlo, hNW⟩ := C
  obtain ⟨hr, hQ⟩ := hq
  subst hQ
  have hd := okI_dec hi
  intro ad H locs ls k n hn0 had hP hD hS hl hk1 hn1
  refine W.widen (k := mc) (n := ms) (by omega) (by omega) ?_
  exact W.lret hx hcb hr (fun t ht hW => ⟨⟨some (.long v), ad, h, rfl, had, hn0, hk, by rw [ht]; exact hP, va_K.moved hW.alike hK, hD⟩, hS.F ht⟩) hS.2.2 hd hlk
theorem MW_vret (C : CX X b own ini fr lo) (ht : tab.all (okI own ini b) = true) (hq : RQ X none K) (i : Nat) (hc : tab[i]? = some (pc, 1, .return_, r1, r2, r3, cv)) (hk : K none h) : MW X (pc, vs, [], h, bk, bn) := by
  have hi : okI own ini b (pc, 1, .return_, r1, r2, r3, cv) = true := List.all_eq_true.mp ht _ (List.mem_of_getElem? hc)
  obtain ⟨p, l, e, R, s, m, args, below, meth, c, D, cA, ad0, n0, A, mc, ms, Q⟩ := X
  obtain ⟨hx, hcb, hown, hts, hK, hlk, hA, hin, hRc, hRs, hfr, hlo, hNW⟩ := C
  obtain ⟨hr, hQ⟩ := hq
  subst hQ
  have hd := okI_dec hi
  intro ad H locs ls k n hn0 had hP hD hS hl hk1 hn1
  refine W.widen (k := mc) (n := ms) (by omega) (by omega) ?_
  exact W.vret hx hcb hr (fun t ht hW => ⟨⟨none, ad, h, rfl, had, hn0, hk, by rw [ht]; exact hP, va_K.moved hW.alike hK, hD⟩, hS.F ht⟩) hS.2.2 hd hlk
theorem MW_aret (C : CX X b own ini fr lo) (ht : tab.all (okI own ini b) = true) {ty : FieldType} (hq : RQ X (some ty) K) (hty : isOT (some ty) = true) (i : Nat) (hc : tab[i]? = some (pc, 1, .areturn, r1, r2, r3, cv)) {a : Nat} (hk : K (some (.ref a)) h) : MW X (pc, vs, [.ref a], h, bk, bn) := by
  have hi : okI own ini b (pc, 1, .areturn, r1, r2, r3, cv) = true := List.all_eq_true.mp ht _ (List.mem_of_getElem? hc)
  obtain ⟨p, l, e, R, s, m, args, below, meth, c, D, cA, ad0, n0, A, mc, ms, Q⟩ := X
  obtain ⟨hx, hcb, hown, hts, hK, hlk, hA, hin, hRc, hRs, hfr, hlo, hNW⟩ := C
  obtain ⟨hr, hQ⟩ := hq
  subst hQ
  have hd := okI_dec hi
  have hrt : (∃ n, ty = .object n) ∨ ∃ t, ty = .array t := by
    unfold isOT at hty
    split at hty
    · rename_i q e; cases e; exact Or.inl ⟨_, rfl⟩
    · rename_i q e; cases e; exact Or.inr ⟨_, rfl⟩
    · cases hty
  intro ad H locs ls k n hn0 had hP hD hS hl hk1 hn1
  refine W.widen (k := mc) (n := ms) (by omega) (by omega) ?_
  exact W.aret (v := .ref (ad a)) hx hcb hr hrt (Or.inr ⟨_, rfl⟩) (fun t ht hW => ⟨⟨some (.ref a), ad, h, rfl, had, hn0, hk, by rw [ht]; exact hP, va_K.moved hW.alike hK, hD⟩, hS.F ht⟩) hS.2.2 hd hlk
end
end
section
/-! CALLS: the callee's cells lie among the caller's -/
def rE (f : Nat → Nat) : AE → AE
  | .inl x => .inl x
  | .inr x => .inr (x.1, x.2.map (cV f))
theorem cV_comp {ad ad' f : Nat → Nat} (hf : ∀ r, ad (f r) = ad' r) (v : Value) : cV ad' v = cV ad (cV f v) := by cases v <;> simp [cV, hf]
theorem cE_comp {ad ad' f : Nat → Nat} (hf : ∀ r, ad (f r) = ad' r) (cA : Nat → ClassId) (e : AE) : cE ad' cA e = cE ad cA (rE f e) := by
  cases e with
  | inl x => rfl
  | inr x =>
    simp only [cE, rE, List.map_map]
    congr 2
    apply List.map_congr_left
    intro v _
    exact cV_comp hf v
def setAll : AH → List Nat → AH → AH
  | h, i :: is, c :: cs => setAll (h.set i c) is cs
  | h, _, _ => h
theorem setAll_len : ∀ (h : AH) (is : List Nat) (cs : AH), (setAll h is cs).length = h.length
  | h, [], cs => by cases cs <;> rfl
  | h, i :: is, [] => rfl
  | h, i :: is, c :: cs => by rw [setAll, setAll_len, List.length_set]
theorem setAll_get : ∀ (is : List Nat) (cs : AH) (h : AH) (j : Nat) (e : AE), is.length ≤ cs.length → va_nd is = true → (setAll h is cs)[j]? = some e → (∃ i : Nat, is[i]? = some j ∧ cs[i]? = some e) ∨ (h[j]? = some e ∧ j ∉ is)
  | [], cs, h, j, e, _, _, he => by
    cases cs <;> exact Or.inr ⟨he, by simp⟩
  | i :: is, [], h, j, e, hl, _, _ => by simp at hl
  | i :: is, c :: cs, h, j, e, hl, hn, he => by
    simp only [va_nd, Bool.and_eq_true, decide_eq_true_eq] at hn
    rcases setAll_get is cs (h.set i c) j e (by simpa using hl) hn.2 he with ⟨k, h1, h2⟩ | ⟨h1, h2⟩
    · exact Or.inl ⟨k + 1, by simpa using h1, by simpa using h2⟩
    · rw [List.getElem?_set] at h1
      by_cases hij : i = j
      · subst hij
        by_cases hlt : i < h.length
        · simp [hlt] at h1
          exact Or.inl ⟨0, rfl, by simp [h1]⟩
        · simp [hlt] at h1
      · simp [hij] at h1
        exact Or.inr ⟨h1, by simp [h2]; exact fun e => hij e.symm⟩
/-- the callee's place r in the caller's cells -/
def rnF (rho : List Nat) (N : Nat) (r : Nat) : Nat := match rho[r]? with
  | some x => x
  | none => N + (r - rho.length)
def jn (h : AH) (rho : List Nat) (nc : Nat) (h' : AH) : AH := setAll h (rho.take nc) (h'.map (rE (rnF rho h.length))) ++ (h'.drop nc).map (rE (rnF rho h.length))
theorem jn_len (h : AH) (rho : List Nat) (nc : Nat) (h' : AH) : (jn h rho nc h').length = h.length + (h'.length - nc) := by
  simp [jn, setAll_len]
theorem jn_get {h : AH} {rho : List Nat} {nc : Nat} {h' : AH} (hnc : nc ≤ h'.length) (hr : nc ≤ rho.length) (hnd : va_nd (rho.take nc) = true) (hal : h'.length = nc ∨ rho.length = nc) {j : Nat} {e : AE} (he : (jn h rho nc h')[j]? = some e) :
    (∃ i c, h'[i]? = some c ∧ j = rnF rho h.length i ∧ e = rE (rnF rho h.length) c) ∨ (h[j]? = some e ∧ j ∉ rho.take nc) := by
  unfold jn at he
  rw [List.getElem?_append] at he
  split at he
  · rcases setAll_get _ _ _ _ _ (by rw [List.length_take, List.length_map]; omega) hnd he with ⟨i, h1, h2⟩ | h1
    · rw [List.getElem?_map] at h2
      cases hc : h'[i]? with
      | none => rw [hc] at h2; cases h2
      | some c =>
        rw [hc] at h2
        refine Or.inl ⟨i, c, hc, ?_, (Option.some.inj h2).symm⟩
        rw [List.getElem?_take] at h1
        split at h1
        · unfold rnF; rw [h1]
        · cases h1
    · exact Or.inr h1
  · rename_i hj
    rw [setAll_len] at hj he
    rw [List.getElem?_map, List.getElem?_drop] at he
    cases hc : h'[nc + (j - h.length)]? with
    | none => rw [hc] at he; cases he
    | some c =>
      rw [hc] at he
      refine Or.inl ⟨_, c, hc, ?_, (Option.some.inj he).symm⟩
      have hl := (List.getElem?_eq_some_iff.mp hc).1
      have hr2 : rho.length = nc := by rcases hal with h1 | h1 <;> omega
      unfold rnF
      rw [List.getElem?_eq_none (by omega)]
      simp only
      omega
/-- no reference beyond N -/
def refLt (N : Nat) : Value → Bool
  | .ref i => Nat.blt i N
  | _ => true
def allLt (N : Nat) : List Value → Bool
  | [] => true
  | v :: r => refLt N v && allLt N r
def allLtO (N : Nat) : List (Option Value) → Bool
  | [] => true
  | none :: r => allLtO N r
  | some v :: r => refLt N v && allLtO N r
def cellsLt (N : Nat) : AH → Bool
  | [] => true
  | .inl _ :: r => cellsLt N r
  | .inr x :: r => allLt N x.2 && cellsLt N r
theorem refLt_v {N : Nat} {v : Value} (h : refLt N v = true) {ad ad' : Nat → Nat} (ha : ∀ i, i < N → ad' i = ad i) : cV ad' v = cV ad v := by
  cases v <;> simp [cV]
  exact ha _ (by simpa [refLt, Nat.blt_eq] using h)
theorem allLt_v : ∀ {N : Nat} {l : List Value}, allLt N l = true → ∀ {ad ad' : Nat → Nat}, (∀ i, i < N → ad' i = ad i) → l.map (cV ad') = l.map (cV ad)
  | N, [], _, ad, ad', _ => rfl
  | N, v :: r, h, ad, ad', ha => by
    simp only [allLt, Bool.and_eq_true] at h
    rw [List.map_cons, List.map_cons, refLt_v h.1 ha, allLt_v h.2 ha]
theorem allLtO_v : ∀ {N : Nat} {l : List (Option Value)}, allLtO N l = true → ∀ {i : Nat} {v : Value}, l[i]? = some (some v) → refLt N v = true
  | N, [], _, i, v, h => by simp at h
  | N, none :: r, hl, 0, v, h => by simp at h
  | N, none :: r, hl, i + 1, v, h => allLtO_v (l := r) hl (by simpa using h)
  | N, some w :: r, hl, 0, v, h => by
    simp only [allLtO, Bool.and_eq_true] at hl
    simp at h
    subst h
    exact hl.1
  | N, some w :: r, hl, i + 1, v, h => by
    simp only [allLtO, Bool.and_eq_true] at hl
    exact allLtO_v (l := r) hl.2 (by simpa using h)
theorem cellsLt_v : ∀ {N : Nat} {h : AH}, cellsLt N h = true → ∀ {i : Nat} {e : AE}, h[i]? = some e → ∀ {ad ad' : Nat → Nat}, (∀ i, i < N → ad' i = ad i) → ∀ cA, cE ad' cA e = cE ad cA e
  | N, [], _, i, e, he, ad, ad', _, cA => by simp at he
  | N, .inl x :: r, hl, 0, e, he, ad, ad', ha, cA => by simp at he; subst he; rfl
  | N, .inl x :: r, hl, i + 1, e, he, ad, ad', ha, cA => cellsLt_v (h := r) hl (by simpa using he) ha cA
  | N, .inr x :: r, hl, 0, e, he, ad, ad', ha, cA => by
    simp only [cellsLt, Bool.and_eq_true] at hl
    simp at he
    subst he
    simp only [cE]
    rw [allLt_v hl.1 ha]
  | N, .inr x :: r, hl, i + 1, e, he, ad, ad', ha, cA => by
    simp only [cellsLt, Bool.and_eq_true] at hl
    exact cellsLt_v (h := r) hl.2 (by simpa using he) ha cA
theorem jn_world {D : va_G} {cA : Nat → ClassId} {A : Nat → Prop} {ad ad' ad2 : Nat → Nat} {h hc h' : AH} {rho : List Nat} {H H1 : Heap}
    (hr : hc.length ≤ rho.length) (hnd : va_nd (rho.take hc.length) = true) (hnc : hc.length ≤ h'.length) (hal : h'.length = hc.length ∨ rho.length = hc.length)
    (hm : (rho.take hc.length).map (fun i => h[i]?) = hc.map (fun c => some (rE (rnF rho h.length) c)))
    (hP : va_P D CL (cW ad cA h) H) (hD : va_D A (cW ad cA h))
    (hk : ∀ q : Nat, q < H.size → ¬ va_A (cW (fun r => ad (rnF rho h.length r)) cA hc) H.size q → H1[q]? = H[q]?) (hF : ∀ q, va_A (cW (fun r => ad (rnF rho h.length r)) cA hc) H.size q → A q)
    (hP1 : va_P D CL (cW ad' cA h') H1) (hD1 : va_D (va_A (cW (fun r => ad (rnF rho h.length r)) cA hc) H.size) (cW ad' cA h'))
    (h2 : ∀ r, ad2 (rnF rho h.length r) = ad' r) (h3 : ∀ j, j < h.length → ad2 j = ad j) (h4 : ∀ (j : Nat) (e : AE), h[j]? = some e → cE ad2 cA e = cE ad cA e) :
    va_P D CL (cW ad2 cA (jn h rho hc.length h')) H1 ∧ va_D A (cW ad2 cA (jn h rho hc.length h')) := by
  have one : ∀ (k : Nat) (q : Nat × va_E), (cW ad2 cA (jn h rho hc.length h'))[k]? = some q → (∃ i c, h'[i]? = some c ∧ k = rnF rho h.length i ∧ q = (ad' i, cE ad' cA c)) ∨ (∃ e, h[k]? = some e ∧ k ∉ rho.take hc.length ∧ q = (ad k, cE ad cA e)) := by
    intro k q hq
    obtain ⟨e, he, hqe⟩ := cW_of hq
    rcases jn_get hnc hr hnd hal he with ⟨i, c, h5, h6, h7⟩ | ⟨h5, h6⟩
    · refine Or.inl ⟨i, c, h5, h6, ?_⟩
      rw [hqe, h6, h2, h7, ← cE_comp h2]
    · refine Or.inr ⟨e, h5, h6, ?_⟩
      rw [hqe, h3 k (List.getElem?_eq_some_iff.mp h5).1, h4 k e h5]
  have apart : ∀ (k : Nat) (e : AE), h[k]? = some e → k ∉ rho.take hc.length → ad k < H.size ∧ ¬ va_A (cW (fun r => ad (rnF rho h.length r)) cA hc) H.size (ad k) := by
    intro k e he hk2
    have hlt : ad k < H.size := (hP k _ (cW_get he)).lt
    refine ⟨hlt, fun hz => ?_⟩
    rcases hz with ⟨k3, e3, h5⟩ | h5
    · obtain ⟨c, hcc, hq⟩ := cW_of h5
      have e1 : ad k = ad (rnF rho h.length k3) := congrArg Prod.fst hq
      have hl3 := (List.getElem?_eq_some_iff.mp hcc).1
      have hx : ((rho.take hc.length).map (fun i => h[i]?))[k3]? = some (some (rE (rnF rho h.length) c)) := by rw [hm, List.getElem?_map, hcc]; rfl
      rw [List.getElem?_map] at hx
      cases hr3 : (rho.take hc.length)[k3]? with
      | none => rw [hr3] at hx; cases hx
      | some j =>
        rw [hr3] at hx
        have hj := Option.some.inj hx
        have hfj : rnF rho h.length k3 = j := by
          have hr4 := hr3
          rw [List.getElem?_take] at hr4
          split at hr4
          · unfold rnF; rw [hr4]
          · omega
        rw [hfj] at e1
        have : k = j := hD.1 k j _ _ (cW_get he) (cW_get hj) e1
        subst this
        exact hk2 (List.mem_of_getElem? hr3)
    · omega
  refine ⟨fun k q hq => ?_, fun i j p q hi hj hpq => ?_, fun k q hq => ?_⟩
  · rcases one k q hq with ⟨i, c, h5, -, h7⟩ | ⟨e, h5, h6, h7⟩
    · rw [h7]; exact hP1 i _ (cW_get h5)
    · rw [h7]
      obtain ⟨g1, g2⟩ := apart k e h5 h6
      exact (hP k _ (cW_get h5)).kept (hk _ g1 g2)
  · rcases one i p hi with ⟨i1, c1, a1, a2, a3⟩ | ⟨e1, a1, a2, a3⟩ <;> rcases one j q hj with ⟨i2, c2, b1, b2, b3⟩ | ⟨e2, b1, b2, b3⟩
    · have : i1 = i2 := hD1.1 i1 i2 _ _ (cW_get a1) (cW_get b1) (by rw [a3, b3] at hpq; exact hpq)
      rw [a2, b2, this]
    · exfalso
      have e : ad' i1 = ad j := by rw [a3, b3] at hpq; exact hpq
      exact (apart j e2 b1 b2).2 (by rw [← e]; exact hD1.2 i1 _ (cW_get a1))
    · exfalso
      have e : ad i = ad' i2 := by rw [a3, b3] at hpq; exact hpq
      exact (apart i e1 a1 a2).2 (by rw [e]; exact hD1.2 i2 _ (cW_get b1))
    · exact hD.1 i j _ _ (cW_get a1) (cW_get b1) (by rw [a3, b3] at hpq; exact hpq)
  · rcases one k q hq with ⟨i, c, h5, -, h7⟩ | ⟨e, h5, h6, h7⟩
    · rw [h7]; exact hF _ (hD1.2 i _ (cW_get h5))
    · rw [h7]; exact hD.2 k _ (cW_get h5)
end
section
/-! CALLS, row by row -/
theorem K_blind {D : va_G} {cA : Nat → ClassId} {ad : Nat → Nat} {sz : Nat} {as : List Value} {h : AH} : FrameBlind (va_Pc (as.map (cV ad)) (fun U => U.heap.size = sz ∧ va_P D CL (cW ad cA h) U.heap ∧ va_K D CL (tysOf cA) U ∧ va_D (fun _ => True) (cW ad cA h) ∧ ∀ w ∈ NW, va_Nw w U)) := by
  intro a U g mk hq
  obtain ⟨q0, q1, qP, qK, qD, qN⟩ := hq
  exact ⟨q0, q1, qP, va_K.moved (u := U) (U := U.calling g mk a) (Vm.Alike.refl U.vm) qK, qD, fun w hw => NW_same (s := U) hw rfl (qN w hw)⟩
/-- what the caller knows ahead of a call -/
theorem call_pre {D : va_G} {cA : Nat → ClassId} {A : Nat → Prop} {ad : Nat → Nat} {h hc : AH} {rho : List Nat} {H H0 : Heap} {locs : List Loc} (hS : va_S A H0 H locs) (hA : ∀ q, H0.size ≤ q → A q)
    (hr : hc.length ≤ rho.length) (hnd : va_nd (rho.take hc.length) = true) (hm : (rho.take hc.length).map (fun i => h[i]?) = hc.map (fun c => some (rE (rnF rho h.length) c)))
    (hP : va_P D CL (cW ad cA h) H) (hD : va_D A (cW ad cA h)) :
    va_P D CL (cW (fun r => ad (rnF rho h.length r)) cA hc) H ∧ va_D (fun _ => True) (cW (fun r => ad (rnF rho h.length r)) cA hc) ∧ ∀ q, va_A (cW (fun r => ad (rnF rho h.length r)) cA hc) H.size q → A q := by
  have key : ∀ (k : Nat) (q : Nat × va_E), (cW (fun r => ad (rnF rho h.length r)) cA hc)[k]? = some q → ∃ j, (rho.take hc.length)[k]? = some j ∧ (cW ad cA h)[j]? = some q := by
    intro k q hq
    obtain ⟨c, hcc, hqe⟩ := cW_of hq
    have hx : ((rho.take hc.length).map (fun i => h[i]?))[k]? = some (some (rE (rnF rho h.length) c)) := by rw [hm, List.getElem?_map, hcc]; rfl
    rw [List.getElem?_map] at hx
    cases hr3 : (rho.take hc.length)[k]? with
    | none => rw [hr3] at hx; cases hx
    | some j =>
      rw [hr3] at hx
      have hj := Option.some.inj hx
      refine ⟨j, rfl, ?_⟩
      rw [cW_get hj, hqe]
      have hfj : rnF rho h.length k = j := by
        have hr4 := hr3
        rw [List.getElem?_take] at hr4
        split at hr4
        · unfold rnF; rw [hr4]
        · have := (List.getElem?_eq_some_iff.mp hcc).1
          omega
      rw [hfj, ← cE_comp (ad := ad) (ad' := fun r => ad (rnF rho h.length r)) (f := rnF rho h.length) (fun _ => rfl)]
  refine ⟨fun k q hq => ?_, ⟨fun i j p q hi hj hpq => ?_, fun _ _ _ => trivial⟩, fun q hq => ?_⟩
  · obtain ⟨j, -, h2⟩ := key k q hq
    exact hP j q h2
  · obtain ⟨i1, a1, a2⟩ := key i p hi
    obtain ⟨j1, b1, b2⟩ := key j q hj
    have := hD.1 i1 j1 p q a2 b2 hpq
    subst this
    exact va_nd_inj _ hnd i j i1 a1 b1
  · rcases hq with ⟨k, e, hq⟩ | hq
    · obtain ⟨j, -, h2⟩ := key k (q, e) hq
      exact hD.2 j (q, e) h2
    · exact hA q (Nat.le_trans hS.1 hq)
theorem call_post {p : Program} {l : Launch} {e : Env} {R : Room} {s : State} {m : MethodId} {args : Array Value} {below : List Frame} {meth : Method} {c : Code} {D : va_G} {cA : Nat → ClassId} {ad0 : Nat → Nat} {n0 : Nat} {A : Nat → Prop} {mc ms : Nat} {Q : State → Prop}
    {pc : Nat} {vs : List (Option Value)} {rest st0 : List Value} {h hc : AH} {bk bn : Nat} {K : Option Value → AH → Prop} {rho : List Nat} {mc' ms' : Nat} {ad : Nat → Nat} {H : Heap} {locs : List Loc} {ls : Array Slot} {k n : Nat} {a : Array Value}
    (hr : hc.length ≤ rho.length) (hnd : va_nd (rho.take hc.length) = true) (hm : (rho.take hc.length).map (fun i => h[i]?) = hc.map (fun c => some (rE (rnF rho h.length) c)))
    (hal : ∀ v h', K v h' → h'.length = hc.length ∨ (rho.length = hc.length ∧ cellsLt h.length h = true ∧ allLtO h.length vs = true ∧ allLt h.length rest = true))
    (hn0 : n0 ≤ h.length) (had : ∀ i, i < n0 ∨ h.length ≤ i → ad i = ad0 i) (hP : va_P D CL (cW ad cA h) H) (hD : va_D A (cW ad cA h)) (hS : va_S A s.heap H locs) (hl : LH ad c.maxLocals vs ls) (hk : k + (bk + mc') ≤ mc) (hn : n + (bn + ms') ≤ ms)
    (hF : ∀ q, va_A (cW (fun r => ad (rnF rho h.length r)) cA hc) H.size q → A q)
    (hrun : va_Run p l e R s m args below meth c H locs k n mc' ms' (F0 m pc ls st0) (rest.map (cV ad)) (QK D cA hc.length (fun r => ad (rnF rho h.length r)) (va_A (cW (fun r => ad (rnF rho h.length r)) cA hc) H.size) K a) (va_A (cW (fun r => ad (rnF rho h.length r)) cA hc) H.size))
    (kk : ∀ (v : Option Value) (h' : AH), K v h' → MW (p, l, e, R, s, m, args, below, meth, c, D, cA, ad0, n0, A, mc, ms, Q) (pc + 3, vs, v.toList.map (cV (rnF rho h.length)) ++ rest, jn h rho hc.length h', bk, bn)) :
    W p l e R s m args below meth c H locs k n Q (F0 m pc ls st0) := by
  intro T hT Xs
  obtain ⟨v, st₀, t, T', L, h0, X', hL, e1, e2, ⟨⟨v', ad', h', hv, hag, hlen, hKv, hP1, hK1, hD1⟩, hz, hkp⟩, st⟩ := hrun T hT Xs
  have hv : v = v'.map (cV ad') := by cases hv; rfl
  subst hv
  rw [h0] at hz hkp
  rw [← e1] at hz hkp hP1
  have hal1 := hal v' h' hKv
  -- the new places
  have hex : ∃ ad2 : Nat → Nat, (∀ r, ad2 (rnF rho h.length r) = ad' r) ∧ (∀ j, j < h.length → ad2 j = ad j) ∧ (∀ (j : Nat) (e : AE), h[j]? = some e → cE ad2 cA e = cE ad cA e) ∧ (∀ j, h.length + (h'.length - hc.length) ≤ j → ad2 j = ad j) ∧ LH ad2 c.maxLocals vs ls ∧ rest.map (cV ad2) = rest.map (cV ad) := by
    rcases hal1 with he | ⟨he, hc1, hc2, hc3⟩
    · refine ⟨ad, fun r => ?_, fun _ _ => rfl, fun _ _ _ => rfl, fun _ _ => rfl, hl, rfl⟩
      have := hag r (by omega)
      rw [this]
    · have hf : ∀ r, hc.length ≤ r → rnF rho h.length r = h.length + (r - hc.length) := fun r hr9 => by
        unfold rnF
        rw [List.getElem?_eq_none (by omega), he]
      have hlt : ∀ r, r < hc.length → rnF rho h.length r < h.length := fun r hr9 => by
        have hx : ((rho.take hc.length).map (fun i => h[i]?))[r]? = some (some (rE (rnF rho h.length) hc[r])) := by
          rw [hm, List.getElem?_map, List.getElem?_eq_getElem hr9]; rfl
        rw [List.getElem?_map] at hx
        cases hr3 : (rho.take hc.length)[r]? with
        | none => rw [hr3] at hx; cases hx
        | some j =>
          rw [hr3] at hx
          have hj := (List.getElem?_eq_some_iff.mp (Option.some.inj hx)).1
          rw [List.getElem?_take, if_pos hr9] at hr3
          unfold rnF; rw [hr3]; exact hj
      refine ⟨fun j => if j < h.length then ad j else ad' (hc.length + (j - h.length)), fun r => ?_, fun j hj => by simp [hj], fun j e0 he0 => cellsLt_v hc1 he0 (fun i hi => by simp [hi]) cA, fun j hj => ?_, ?_, allLt_v hc3 (fun i hi => by simp [hi])⟩
      · rcases Nat.lt_or_ge r hc.length with hr9 | hr9
        · simp only [hlt r hr9, if_true]
          exact (hag r (Or.inl hr9)).symm
        · rw [hf r hr9]
          have e3 : ¬ (h.length + (r - hc.length) < h.length) := by omega
          simp only [e3, if_false]
          congr 1
          omega
      · have e3 : ¬ j < h.length := by omega
        simp only [e3, if_false]
        rw [hag _ (Or.inr (by omega))]
        show ad (rnF rho h.length (hc.length + (j - h.length))) = ad j
        rw [hf _ (by omega)]
        congr 1
        omega
      · refine ⟨hl.1, hl.2.1, hl.2.2.1, fun i w hw => ?_⟩
        rw [refLt_v (ad := ad) (allLtO_v hc2 hw) (fun i hi => by simp [hi])]
        exact hl.2.2.2 i w hw
  obtain ⟨ad2, g1, g2, g3, g4, g5, g6⟩ := hex
  obtain ⟨hP2, hD2⟩ := jn_world hr hnd hlen (by rcases hal1 with z | z; exact Or.inl z; exact Or.inr z.1) hm hP hD (fun q z1 z2 => hkp q z1 z2) hF hP1 hD1 g1 g2 g3
  have hS2 : va_S A s.heap T'.heap (locs ++ L) := ⟨Nat.le_trans hS.1 hz, fun q h1 h2 => by rw [hkp q (Nat.lt_of_lt_of_le h1 hS.1) (fun z => h2 (hF q z))]; exact hS.2.1 q h1 h2, fun q hq => by
      rcases List.mem_append.mp hq with z | z
      · exact hS.2.2 q z
      · exact hF _ (hL q z)⟩
  obtain ⟨t2, a1, b1⟩ := kk v' h' hKv ad2 T'.heap (locs ++ L) ls (k + mc') (n + ms') (by rw [jn_len]; omega) (fun i hi => by
      rw [jn_len] at hi
      rcases hi with z | z
      · rw [g2 i (by omega)]; exact had i (Or.inl z)
      · rw [g4 i z]; exact had i (Or.inr (by omega))) hP2 hD2 hS2 g5 (by omega) (by omega) T' rfl X'
  refine ⟨t2, st t2 ?_, b1⟩
  have hstk : List.map (cV ad2) (v'.toList.map (cV (rnF rho h.length)) ++ rest) = (v'.map (cV ad')).toList ++ rest.map (cV ad) := by
    rw [List.map_append, g6, List.map_map]
    congr 1
    cases v' with
    | none => rfl
    | some w => simp [cV_comp g1 w]
  rw [hstk] at a1
  exact a1

theorem stk_eq (ad f : Nat → Nat) (as rest : List Value) : List.map (cV ad) ((as.map (cV f)).reverse ++ rest) = (as.map (cV (fun r => ad (f r)))).reverse ++ rest.map (cV ad) := by
  rw [List.map_append, List.map_reverse, List.map_map]
  congr 2
  apply List.map_congr_left
  intro v _
  exact (cV_comp (ad := ad) (ad' := fun r => ad (f r)) (f := f) (fun _ => rfl) v).symm
theorem cat_eq {ad : Nat → Nat} {rest : List Value} (hrs : (rest.map fun v => v.category).sum ≤ 8) : ((rest.map (cV ad)).map fun v => v.category).sum ≤ 8 := by
  rw [List.map_map]
  have : (fun v => Value.category v) ∘ cV ad = fun v => v.category := by funext v; exact cV_cat ad v
  rw [this]; exact hrs
section
variable {X : CTX} {b : ByteArray} {own : String} {ini : Bool} {fr lo : Nat} {tab : List CI} {pc : Nat} {vs : List (Option Value)} {st : List Value} {h hc : AH} {bk bn bk' bn' : Nat} {K : Option Value → AH → Prop} {r1 r2 r3 index : Nat} {cv : Value} {y : MethodName} {by' : ByteArray} {nL' fr' lo' mc' ms' : Nat} {ret' : Option FieldType} {as : List Value} {rho : List Nat}
theorem pay_words {s U : State} {args a' : Array Value} (hts : ∀ w ∈ TG, w.before args s = true) (hcode : (Cond.code y by' nL' ret') ∈ TG) (hW : s.WarmedH U.vm) : ∀ w ∈ (Cond.code y by' nL' ret' :: TG), w.before a' U = true := fun w hw => by
  have hw2 : w ∈ TG := by
    rcases List.mem_cons.mp hw with e | e
    · rw [e]; exact hcode
    · exact e
  exact word_at hW (good_of_word (TG_good w hw2)) (hts w hw2)
theorem good_pay (hcode : (Cond.code y by' nL' ret') ∈ TG) : GoodIn TG (Cond.code y by' nL' ret' :: TG) := fun w hw => by
  have hw2 : w ∈ TG := by
    rcases List.mem_cons.mp hw with e | e
    · rw [e]; exact hcode
    · exact e
  exact ⟨hw2, good_of_word (TG_good w hw2)⟩
/-- a call of an instance method -/
theorem MW_callV (C : CX X b own ini fr lo) (ht : tab.all (okI own ini b) = true) (i : Nat) (hc0 : tab[i]? = some (pc, 3, .invokevirtual index, r1, r2, r3, cv)) (hCT : CT y by' nL' ret' fr' lo' mc' ms' as hc K)
    (hw : [Cond.methodLink own index y, .instanceMethod y, .selects y.cls y y, .initialized y.cls, .code y by' nL' ret'].all (fun w => decide (w ∈ TG)) = true) (n : Nat)
    (hd : (decide (y.cls ≠ "java/lang/invoke/MethodHandle") && decide (y.cls ≠ "java/lang/invoke/VarHandle") && decide ((parseMethodDescriptor y.desc).map (fun d => d.parameters.length) = some n)) = true)
    (hR : (Nat.ble (fr' + 1) fr && Nat.ble (8 + (nL' + 11) + lo') lo) = true)
    {rr ci : Nat} {q : vw_C} {fs : List Value} {As rest : List Value} (has : as = .ref rr :: As) (hlen : As.length = n) (hrecv : hc[rr]? = some (.inr (ci, fs))) (hcl : CL[ci]? = some q) (hqy : q.1 = y.cls)
    (hst : st = (as.map (cV (rnF rho h.length))).reverse ++ rest) (hrs : Nat.ble (rest.map fun v => v.category).sum 8 = true)
    (hr : Nat.ble hc.length rho.length = true) (hnd : va_nd (rho.take hc.length) = true) (hm : (rho.take hc.length).map (fun i => h[i]?) = hc.map (fun c => some (rE (rnF rho h.length) c)))
    (hal : ∀ v h', K v h' → h'.length = hc.length ∨ (rho.length = hc.length ∧ cellsLt h.length h = true ∧ allLtO h.length vs = true ∧ allLt h.length rest = true))
    (hbk : bk = bk' + mc') (hbn : bn = bn' + ms')
    (kk : ∀ (v : Option Value) (h' : AH), K v h' → MW X (pc + 3, vs, v.toList.map (cV (rnF rho h.length)) ++ rest, jn h rho hc.length h', bk', bn')) : MW X (pc, vs, st, h, bk, bn) := by
  have hi : okI own ini b (pc, 3, .invokevirtual index, r1, r2, r3, cv) = true := List.all_eq_true.mp ht _ (List.mem_of_getElem? hc0)
  obtain ⟨p, l, e, R, s, m, args, below, meth, c, D, cA, ad0, n0, A, mc, ms, Q⟩ := X
  obtain ⟨hx, hcb, hown, hts, hK, hlk, hA, hin, hRc, hRs, hfr, hlo, hNW⟩ := C
  have hdg := okI_dec hi
  dsimp only at hdg
  rw [Bool.and_eq_true, Bool.and_eq_true] at hd
  rw [Bool.and_eq_true] at hR
  have hR1 := Nat.le_of_ble_eq_true hR.1
  have hR2 := Nat.le_of_ble_eq_true hR.2
  have hr := Nat.le_of_ble_eq_true hr
  have hrs := Nat.le_of_ble_eq_true hrs
  have hwin : ∀ w ∈ [Cond.methodLink own index y, .instanceMethod y, .selects y.cls y y, .initialized y.cls, .code y by' nL' ret'], w ∈ TG := fun w h9 => of_decide_eq_true (List.all_eq_true.mp hw w h9)
  have hcode := hwin (.code y by' nL' ret') (by simp)
  subst hst hbk hbn
  intro ad H locs ls k n9 hn0 had hP hD hS hl hk hn
  obtain ⟨hPc, hDc, hFc⟩ := call_pre hS hA hr hnd hm hP hD
  have hM := hCT l D cA (fun r => ad (rnF rho h.length r)) H.size
  have hKq : va_K D CL (tysOf cA) s := hK
  have hcw : CallW R s args own y.cls index y by' nL' ret' (.code y by' nL' ret' :: TG) { frames := fr', cells := mc', slots := ms', locals := lo' } mc' ms' n := by
    refine cwV (Ts := TG) n hts (fun w h9 => ?_) rfl rfl rfl ⟨rfl, of_decide_eq_true hd.1.1, of_decide_eq_true hd.1.2, of_decide_eq_true hd.2⟩ ⟨by show fr' + 1 ≤ R.frames; omega, by show 8 + (nL' + 11) + lo' ≤ R.locals; omega⟩
    unfold wsV at h9
    rcases List.mem_append.mp h9 with z | z
    · have hw2 : w ∈ TG := hwin w (by
        simp only [List.mem_cons, List.not_mem_nil, or_false] at z ⊢
        rcases z with z | z | z | z <;> simp [z])
      exact ⟨hw2, good_of_word (TG_good w hw2)⟩
    · exact good_pay hcode w z
  have hargs : as.map (cV (fun r => ad (rnF rho h.length r))) = .ref (ad (rnF rho h.length rr)) :: As.map (cV (fun r => ad (rnF rho h.length r))) := by rw [has]; rfl
  have hpre : PreV s H y.cls (ad (rnF rho h.length rr)) (va_Pc (as.map (cV (fun r => ad (rnF rho h.length r)))) (fun U => U.heap.size = H.size ∧ va_P D CL (cW (fun r => ad (rnF rho h.length r)) cA hc) U.heap ∧ va_K D CL (tysOf cA) U ∧ va_D (fun _ => True) (cW (fun r => ad (rnF rho h.length r)) cA hc) ∧ ∀ w ∈ NW, va_Nw w U)) (As.map (cV (fun r => ad (rnF rho h.length r)))) := by
    refine ⟨K_blind, ?_, fun U hU hW => ⟨by rw [hargs], by rw [hU], by rw [hU]; exact hPc, va_K.moved hW.alike hK, hDc, fun w h9 => NW_warm h9 hW (hNW w h9)⟩⟩
    rw [← hqy]
    exact va_recv hK hPc hcl (cW_get hrecv)
  have hrun := va_runV (p := p) (l := l) (e := e) (R := R) (s := s) (m := m) (args := args) (below := below) (meth := meth) (c := c) (H := H) (locs := locs) (cells := k) (slots := n9) (g := F0 m pc ls (((as.map (cV (rnF rho h.length))).reverse ++ rest).map (cV ad))) (rest := rest.map (cV ad)) (Ts := TG) ⟨hx, hcb, rfl, hown, hts⟩ hM hcw hpre rfl (by rw [List.length_map]; exact hlen) hl.2.1
    (by
      show List.map (cV ad) ((as.map (cV (rnF rho h.length))).reverse ++ rest) = _
      rw [stk_eq, hargs, List.reverse_cons, List.append_assoc]; rfl)
    (lv_room (cat_eq hrs)) hdg ⟨by omega, by omega⟩
  exact call_post hr hnd hm hal hn0 had hP hD hS hl (by omega) (by omega) hFc hrun kk
/-- a call of an static method -/
theorem MW_callS (C : CX X b own ini fr lo) (ht : tab.all (okI own ini b) = true) (i : Nat) (hc0 : tab[i]? = some (pc, 3, .invokestatic index, r1, r2, r3, cv)) (hCT : CT y by' nL' ret' fr' lo' mc' ms' as hc K)
    (hw : [Cond.methodLink own index y, .static y, .initialized y.cls, .code y by' nL' ret'].all (fun w => decide (w ∈ TG)) = true) (n : Nat)
    (hd : (decide (y.cls ≠ "java/lang/invoke/MethodHandle") && decide (y.cls ≠ "java/lang/invoke/VarHandle") && decide ((parseMethodDescriptor y.desc).map (fun d => d.parameters.length) = some n)) = true)
    (hR : (Nat.ble (fr' + 1) fr && Nat.ble (8 + (nL' + 11) + lo') lo) = true)
    {rest : List Value} (hlen : as.length = n)
    (hst : st = (as.map (cV (rnF rho h.length))).reverse ++ rest) (hrs : Nat.ble (rest.map fun v => v.category).sum 8 = true)
    (hr : Nat.ble hc.length rho.length = true) (hnd : va_nd (rho.take hc.length) = true) (hm : (rho.take hc.length).map (fun i => h[i]?) = hc.map (fun c => some (rE (rnF rho h.length) c)))
    (hal : ∀ v h', K v h' → h'.length = hc.length ∨ (rho.length = hc.length ∧ cellsLt h.length h = true ∧ allLtO h.length vs = true ∧ allLt h.length rest = true))
    (hbk : bk = bk' + mc') (hbn : bn = bn' + ms')
    (kk : ∀ (v : Option Value) (h' : AH), K v h' → MW X (pc + 3, vs, v.toList.map (cV (rnF rho h.length)) ++ rest, jn h rho hc.length h', bk', bn')) : MW X (pc, vs, st, h, bk, bn) := by
  have hi : okI own ini b (pc, 3, .invokestatic index, r1, r2, r3, cv) = true := List.all_eq_true.mp ht _ (List.mem_of_getElem? hc0)
  obtain ⟨p, l, e, R, s, m, args, below, meth, c, D, cA, ad0, n0, A, mc, ms, Q⟩ := X
  obtain ⟨hx, hcb, hown, hts, hK, hlk, hA, hin, hRc, hRs, hfr, hlo, hNW⟩ := C
  have hdg := okI_dec hi
  dsimp only at hdg
  rw [Bool.and_eq_true, Bool.and_eq_true] at hd
  rw [Bool.and_eq_true] at hR
  have hR1 := Nat.le_of_ble_eq_true hR.1
  have hR2 := Nat.le_of_ble_eq_true hR.2
  have hr := Nat.le_of_ble_eq_true hr
  have hrs := Nat.le_of_ble_eq_true hrs
  have hwin : ∀ w ∈ [Cond.methodLink own index y, .static y, .initialized y.cls, .code y by' nL' ret'], w ∈ TG := fun w h9 => of_decide_eq_true (List.all_eq_true.mp hw w h9)
  have hcode := hwin (.code y by' nL' ret') (by simp)
  subst hst hbk hbn
  intro ad H locs ls k n9 hn0 had hP hD hS hl hk hn
  obtain ⟨hPc, hDc, hFc⟩ := call_pre hS hA hr hnd hm hP hD
  have hM := hCT l D cA (fun r => ad (rnF rho h.length r)) H.size
  have hKq : va_K D CL (tysOf cA) s := hK
  have hcw := va_cwS (R := R) (s := s) (args := args) (own := own) (index := index) (y := y) (bytes := by') (maxL := nL') (ret := ret') (ws := .code y by' nL' ret' :: TG) (ws' := TG) (rm := { frames := fr', cells := mc', slots := ms', locals := lo' }) (mc := mc') (ms := ms') (Ts := TG) n hts (fun w h9 => by
    unfold va_wsS at h9
    rcases List.mem_append.mp h9 with z | z
    · have hw2 : w ∈ TG := hwin w (by
        simp only [List.mem_cons, List.not_mem_nil, or_false] at z ⊢
        rcases z with z | z | z <;> simp [z])
      exact ⟨hw2, good_of_word (TG_good w hw2)⟩
    · exact good_pay hcode w z) rfl rfl rfl ⟨of_decide_eq_true hd.1.1, of_decide_eq_true hd.1.2, of_decide_eq_true hd.2⟩ ⟨by show fr' + 1 ≤ R.frames; omega, by show 8 + (nL' + 11) + lo' ≤ R.locals; omega⟩
  have hpre : PreS s H (va_Pc (as.map (cV (fun r => ad (rnF rho h.length r)))) (fun U => U.heap.size = H.size ∧ va_P D CL (cW (fun r => ad (rnF rho h.length r)) cA hc) U.heap ∧ va_K D CL (tysOf cA) U ∧ va_D (fun _ => True) (cW (fun r => ad (rnF rho h.length r)) cA hc) ∧ ∀ w ∈ NW, va_Nw w U)) (as.map (cV (fun r => ad (rnF rho h.length r)))) :=
    ⟨K_blind, fun U hU hW => ⟨rfl, by rw [hU], by rw [hU]; exact hPc, va_K.moved hW.alike hK, hDc, fun w h9 => NW_warm h9 hW (hNW w h9)⟩⟩
  have hrun := va_runS (p := p) (l := l) (e := e) (R := R) (s := s) (m := m) (args := args) (below := below) (meth := meth) (c := c) (H := H) (locs := locs) (cells := k) (slots := n9) (g := F0 m pc ls (((as.map (cV (rnF rho h.length))).reverse ++ rest).map (cV ad))) (rest := rest.map (cV ad)) (Ts := TG) ⟨hx, hcb, rfl, hown, hts⟩ hM hcw hpre rfl (by rw [List.length_map]; exact hlen) hl.2.1
    (by
      show List.map (cV ad) ((as.map (cV (rnF rho h.length))).reverse ++ rest) = _
      rw [stk_eq])
    (lv_room (cat_eq hrs)) hdg ⟨by omega, by omega⟩
  exact call_post hr hnd hm hal hn0 had hP hD hS hl (by omega) (by omega) hFc hrun kk
/-- a call of an nest mate's static method -/
theorem MW_callSN (C : CX X b own ini fr lo) (ht : tab.all (okI own ini b) = true) (i : Nat) (hc0 : tab[i]? = some (pc, 3, .invokestatic index, r1, r2, r3, cv)) (hCT : CT y by' nL' ret' fr' lo' mc' ms' as hc K)
    (hw : [Cond.static y, .initialized y.cls, .code y by' nL' ret'].all (fun w => decide (w ∈ TG)) = true) (n : Nat)
    (hd : (decide (y.cls ≠ "java/lang/invoke/MethodHandle") && decide (y.cls ≠ "java/lang/invoke/VarHandle") && decide ((parseMethodDescriptor y.desc).map (fun d => d.parameters.length) = some n)) = true)
    (hR : (Nat.ble (fr' + 1) fr && Nat.ble (8 + (nL' + 11) + lo') lo) = true)
    {rest : List Value} {host : String} (hlen : as.length = n) (hnw : decide (Cond.methodLinkNest own index y host ∈ NW) = true)
    (hst : st = (as.map (cV (rnF rho h.length))).reverse ++ rest) (hrs : Nat.ble (rest.map fun v => v.category).sum 8 = true)
    (hr : Nat.ble hc.length rho.length = true) (hnd : va_nd (rho.take hc.length) = true) (hm : (rho.take hc.length).map (fun i => h[i]?) = hc.map (fun c => some (rE (rnF rho h.length) c)))
    (hal : ∀ v h', K v h' → h'.length = hc.length ∨ (rho.length = hc.length ∧ cellsLt h.length h = true ∧ allLtO h.length vs = true ∧ allLt h.length rest = true))
    (hbk : bk = bk' + mc') (hbn : bn = bn' + ms')
    (kk : ∀ (v : Option Value) (h' : AH), K v h' → MW X (pc + 3, vs, v.toList.map (cV (rnF rho h.length)) ++ rest, jn h rho hc.length h', bk', bn')) : MW X (pc, vs, st, h, bk, bn) := by
  have hi : okI own ini b (pc, 3, .invokestatic index, r1, r2, r3, cv) = true := List.all_eq_true.mp ht _ (List.mem_of_getElem? hc0)
  obtain ⟨p, l, e, R, s, m, args, below, meth, c, D, cA, ad0, n0, A, mc, ms, Q⟩ := X
  obtain ⟨hx, hcb, hown, hts, hK, hlk, hA, hin, hRc, hRs, hfr, hlo, hNW⟩ := C
  have hdg := okI_dec hi
  dsimp only at hdg
  rw [Bool.and_eq_true, Bool.and_eq_true] at hd
  rw [Bool.and_eq_true] at hR
  have hR1 := Nat.le_of_ble_eq_true hR.1
  have hR2 := Nat.le_of_ble_eq_true hR.2
  have hr := Nat.le_of_ble_eq_true hr
  have hrs := Nat.le_of_ble_eq_true hrs
  have hwin : ∀ w ∈ [Cond.static y, .initialized y.cls, .code y by' nL' ret'], w ∈ TG := fun w h9 => of_decide_eq_true (List.all_eq_true.mp hw w h9)
  have hcode := hwin (.code y by' nL' ret') (by simp)
  subst hst hbk hbn
  intro ad H locs ls k n9 hn0 had hP hD hS hl hk hn
  obtain ⟨hPc, hDc, hFc⟩ := call_pre hS hA hr hnd hm hP hD
  have hM := hCT l D cA (fun r => ad (rnF rho h.length r)) H.size
  have hKq : va_K D CL (tysOf cA) s := hK
  have hcw := va_cnB (R := R) (s := s) (args := args) (own := own) (host := host) (index := index) (y := y) (bytes := by') (maxL := nL') (ret := ret') (ws := .code y by' nL' ret' :: TG) (ws' := TG) (rm := { frames := fr', cells := mc', slots := ms', locals := lo' }) (mc := mc') (ms := ms') (Ts := TG) n hts (good_pay hcode) rfl rfl rfl (hNW _ (of_decide_eq_true hnw)) (hts _ (hwin _ (by simp))) ⟨of_decide_eq_true hd.1.1, of_decide_eq_true hd.1.2, of_decide_eq_true hd.2⟩ ⟨by show fr' + 1 ≤ R.frames; omega, by show 8 + (nL' + 11) + lo' ≤ R.locals; omega⟩
  have hpre : PreS s H (va_Pc (as.map (cV (fun r => ad (rnF rho h.length r)))) (fun U => U.heap.size = H.size ∧ va_P D CL (cW (fun r => ad (rnF rho h.length r)) cA hc) U.heap ∧ va_K D CL (tysOf cA) U ∧ va_D (fun _ => True) (cW (fun r => ad (rnF rho h.length r)) cA hc) ∧ ∀ w ∈ NW, va_Nw w U)) (as.map (cV (fun r => ad (rnF rho h.length r)))) :=
    ⟨K_blind, fun U hU hW => ⟨rfl, by rw [hU], by rw [hU]; exact hPc, va_K.moved hW.alike hK, hDc, fun w h9 => NW_warm h9 hW (hNW w h9)⟩⟩
  have hrun := va_runSN (p := p) (l := l) (e := e) (R := R) (s := s) (m := m) (args := args) (below := below) (meth := meth) (c := c) (H := H) (locs := locs) (cells := k) (slots := n9) (g := F0 m pc ls (((as.map (cV (rnF rho h.length))).reverse ++ rest).map (cV ad))) (rest := rest.map (cV ad)) (Ts := TG) ⟨hx, hcb, rfl, hown, hts⟩ hM ⟨hcw, hts _ (hwin _ (by simp)), trivial⟩ hpre rfl (by rw [List.length_map]; exact hlen) hl.2.1
    (by
      show List.map (cV ad) ((as.map (cV (rnF rho h.length))).reverse ++ rest) = _
      rw [stk_eq])
    (lv_room (cat_eq hrs)) hdg ⟨by omega, by omega⟩
  exact call_post hr hnd hm hal hn0 had hP hD hS hl (by omega) (by omega) hFc hrun kk
/-- a call of an nest mate's constructor -/
theorem MW_callIN (C : CX X b own ini fr lo) (ht : tab.all (okI own ini b) = true) (i : Nat) (hc0 : tab[i]? = some (pc, 3, .invokespecial index, r1, r2, r3, cv)) (hCT : CT y by' nL' none fr' lo' mc' ms' as hc K)
    (hw : [Cond.instanceMethod y, .initialized y.cls, .code y by' nL' none].all (fun w => decide (w ∈ TG)) = true) (n : Nat)
    (hd : (decide (y.cls ≠ "java/lang/invoke/MethodHandle") && decide (y.cls ≠ "java/lang/invoke/VarHandle") && decide ((parseMethodDescriptor y.desc).map (fun d => d.parameters.length) = some n)) = true)
    (hR : (Nat.ble (fr' + 1) fr && Nat.ble (8 + (nL' + 11) + lo') lo) = true)
    {rr : Nat} {As rest : List Value} {host : String} (has : as = .ref rr :: As) (hyi : y.name = "<init>") (hlen : As.length = n) (hnw : decide (Cond.methodLinkNest own index y host ∈ NW) = true)
    (hst : st = (as.map (cV (rnF rho h.length))).reverse ++ rest) (hrs : Nat.ble (rest.map fun v => v.category).sum 8 = true)
    (hr : Nat.ble hc.length rho.length = true) (hnd : va_nd (rho.take hc.length) = true) (hm : (rho.take hc.length).map (fun i => h[i]?) = hc.map (fun c => some (rE (rnF rho h.length) c)))
    (hal : ∀ v h', K v h' → h'.length = hc.length ∨ (rho.length = hc.length ∧ cellsLt h.length h = true ∧ allLtO h.length vs = true ∧ allLt h.length rest = true))
    (hbk : bk = bk' + mc') (hbn : bn = bn' + ms')
    (kk : ∀ (v : Option Value) (h' : AH), K v h' → MW X (pc + 3, vs, v.toList.map (cV (rnF rho h.length)) ++ rest, jn h rho hc.length h', bk', bn')) : MW X (pc, vs, st, h, bk, bn) := by
  have hi : okI own ini b (pc, 3, .invokespecial index, r1, r2, r3, cv) = true := List.all_eq_true.mp ht _ (List.mem_of_getElem? hc0)
  obtain ⟨p, l, e, R, s, m, args, below, meth, c, D, cA, ad0, n0, A, mc, ms, Q⟩ := X
  obtain ⟨hx, hcb, hown, hts, hK, hlk, hA, hin, hRc, hRs, hfr, hlo, hNW⟩ := C
  have hdg := okI_dec hi
  dsimp only at hdg
  rw [Bool.and_eq_true, Bool.and_eq_true] at hd
  rw [Bool.and_eq_true] at hR
  have hR1 := Nat.le_of_ble_eq_true hR.1
  have hR2 := Nat.le_of_ble_eq_true hR.2
  have hr := Nat.le_of_ble_eq_true hr
  have hrs := Nat.le_of_ble_eq_true hrs
  have hwin : ∀ w ∈ [Cond.instanceMethod y, .initialized y.cls, .code y by' nL' none], w ∈ TG := fun w h9 => of_decide_eq_true (List.all_eq_true.mp hw w h9)
  have hcode := hwin (.code y by' nL' none) (by simp)
  subst hst hbk hbn
  intro ad H locs ls k n9 hn0 had hP hD hS hl hk hn
  obtain ⟨hPc, hDc, hFc⟩ := call_pre hS hA hr hnd hm hP hD
  have hM := hCT l D cA (fun r => ad (rnF rho h.length r)) H.size
  have hKq : va_K D CL (tysOf cA) s := hK
  have hcw := va_cnB (R := R) (s := s) (args := args) (own := own) (host := host) (index := index) (y := y) (bytes := by') (maxL := nL') (ret := none) (ws := .code y by' nL' none :: TG) (ws' := TG) (rm := { frames := fr', cells := mc', slots := ms', locals := lo' }) (mc := mc') (ms := ms') (Ts := TG) n hts (good_pay hcode) rfl rfl rfl (hNW _ (of_decide_eq_true hnw)) (hts _ (hwin _ (by simp))) ⟨of_decide_eq_true hd.1.1, of_decide_eq_true hd.1.2, of_decide_eq_true hd.2⟩ ⟨by show fr' + 1 ≤ R.frames; omega, by show 8 + (nL' + 11) + lo' ≤ R.locals; omega⟩
  have hargs : as.map (cV (fun r => ad (rnF rho h.length r))) = .ref (ad (rnF rho h.length rr)) :: As.map (cV (fun r => ad (rnF rho h.length r))) := by rw [has]; rfl
  have hpre : PreS s H (va_Pc (as.map (cV (fun r => ad (rnF rho h.length r)))) (fun U => U.heap.size = H.size ∧ va_P D CL (cW (fun r => ad (rnF rho h.length r)) cA hc) U.heap ∧ va_K D CL (tysOf cA) U ∧ va_D (fun _ => True) (cW (fun r => ad (rnF rho h.length r)) cA hc) ∧ ∀ w ∈ NW, va_Nw w U)) (.ref (ad (rnF rho h.length rr)) :: As.map (cV (fun r => ad (rnF rho h.length r)))) :=
    ⟨K_blind, fun U hU hW => ⟨by rw [hargs], by rw [hU], by rw [hU]; exact hPc, va_K.moved hW.alike hK, hDc, fun w h9 => NW_warm h9 hW (hNW w h9)⟩⟩
  have hrun := va_runIN (p := p) (l := l) (e := e) (R := R) (s := s) (m := m) (args := args) (below := below) (meth := meth) (c := c) (H := H) (locs := locs) (cells := k) (slots := n9) (g := F0 m pc ls (((as.map (cV (rnF rho h.length))).reverse ++ rest).map (cV ad))) (rest := rest.map (cV ad)) (Ts := TG) ⟨hx, hcb, rfl, hown, hts⟩ hM ⟨hcw, hyi, hts _ (hwin _ (by simp))⟩ hpre rfl (by rw [List.length_map]; exact hlen) hl.2.1
    (by
      show List.map (cV ad) ((as.map (cV (rnF rho h.length))).reverse ++ rest) = _
      rw [stk_eq, hargs, List.reverse_cons, List.append_assoc]; rfl)
    (lv_room (cat_eq hrs)) hdg ⟨by omega, by omega⟩
  exact call_post hr hnd hm hal hn0 had hP hD hS hl (by omega) (by omega) hFc hrun kk
/-- a call of an constructor -/
theorem MW_callI (C : CX X b own ini fr lo) (ht : tab.all (okI own ini b) = true) (i : Nat) (hc0 : tab[i]? = some (pc, 3, .invokespecial index, r1, r2, r3, cv)) (hCT : CT y by' nL' none fr' lo' mc' ms' as hc K)
    (hw : [Cond.methodLink own index y, .instanceMethod y, .initialized y.cls, .code y by' nL' none].all (fun w => decide (w ∈ TG)) = true) (n : Nat)
    (hd : (decide (y.cls ≠ "java/lang/invoke/MethodHandle") && decide (y.cls ≠ "java/lang/invoke/VarHandle") && decide ((parseMethodDescriptor y.desc).map (fun d => d.parameters.length) = some n)) = true)
    (hR : (Nat.ble (fr' + 1) fr && Nat.ble (8 + (nL' + 11) + lo') lo) = true)
    {rr : Nat} {As rest : List Value} (has : as = .ref rr :: As) (hyi : y.name = "<init>") (hlen : As.length = n)
    (hst : st = (as.map (cV (rnF rho h.length))).reverse ++ rest) (hrs : Nat.ble (rest.map fun v => v.category).sum 8 = true)
    (hr : Nat.ble hc.length rho.length = true) (hnd : va_nd (rho.take hc.length) = true) (hm : (rho.take hc.length).map (fun i => h[i]?) = hc.map (fun c => some (rE (rnF rho h.length) c)))
    (hal : ∀ v h', K v h' → h'.length = hc.length ∨ (rho.length = hc.length ∧ cellsLt h.length h = true ∧ allLtO h.length vs = true ∧ allLt h.length rest = true))
    (hbk : bk = bk' + mc') (hbn : bn = bn' + ms')
    (kk : ∀ (v : Option Value) (h' : AH), K v h' → MW X (pc + 3, vs, v.toList.map (cV (rnF rho h.length)) ++ rest, jn h rho hc.length h', bk', bn')) : MW X (pc, vs, st, h, bk, bn) := by
  have hi : okI own ini b (pc, 3, .invokespecial index, r1, r2, r3, cv) = true := List.all_eq_true.mp ht _ (List.mem_of_getElem? hc0)
  obtain ⟨p, l, e, R, s, m, args, below, meth, c, D, cA, ad0, n0, A, mc, ms, Q⟩ := X
  obtain ⟨hx, hcb, hown, hts, hK, hlk, hA, hin, hRc, hRs, hfr, hlo, hNW⟩ := C
  have hdg := okI_dec hi
  dsimp only at hdg
  rw [Bool.and_eq_true, Bool.and_eq_true] at hd
  rw [Bool.and_eq_true] at hR
  have hR1 := Nat.le_of_ble_eq_true hR.1
  have hR2 := Nat.le_of_ble_eq_true hR.2
  have hr := Nat.le_of_ble_eq_true hr
  have hrs := Nat.le_of_ble_eq_true hrs
  have hwin : ∀ w ∈ [Cond.methodLink own index y, .instanceMethod y, .initialized y.cls, .code y by' nL' none], w ∈ TG := fun w h9 => of_decide_eq_true (List.all_eq_true.mp hw w h9)
  have hcode := hwin (.code y by' nL' none) (by simp)
  subst hst hbk hbn
  intro ad H locs ls k n9 hn0 had hP hD hS hl hk hn
  obtain ⟨hPc, hDc, hFc⟩ := call_pre hS hA hr hnd hm hP hD
  have hM := hCT l D cA (fun r => ad (rnF rho h.length r)) H.size
  have hKq : va_K D CL (tysOf cA) s := hK
  have hcw := cwI (R := R) (s := s) (args := args) (own := own) (index := index) (y := y) (bytes := by') (maxL := nL') (ws := .code y by' nL' none :: TG) (ws' := TG) (rm := { frames := fr', cells := mc', slots := ms', locals := lo' }) (mc := mc') (ms := ms') (Ts := TG) n hts (good_pay hcode) rfl rfl rfl (hts _ (hwin _ (by simp))) (hts _ (hwin _ (by simp))) (hts _ (hwin _ (by simp))) hyi ⟨of_decide_eq_true hd.1.1, of_decide_eq_true hd.1.2, of_decide_eq_true hd.2⟩ ⟨by show fr' + 1 ≤ R.frames; omega, by show 8 + (nL' + 11) + lo' ≤ R.locals; omega⟩
  have hargs : as.map (cV (fun r => ad (rnF rho h.length r))) = .ref (ad (rnF rho h.length rr)) :: As.map (cV (fun r => ad (rnF rho h.length r))) := by rw [has]; rfl
  have hpre : PreS s H (va_Pc (as.map (cV (fun r => ad (rnF rho h.length r)))) (fun U => U.heap.size = H.size ∧ va_P D CL (cW (fun r => ad (rnF rho h.length r)) cA hc) U.heap ∧ va_K D CL (tysOf cA) U ∧ va_D (fun _ => True) (cW (fun r => ad (rnF rho h.length r)) cA hc) ∧ ∀ w ∈ NW, va_Nw w U)) (.ref (ad (rnF rho h.length rr)) :: As.map (cV (fun r => ad (rnF rho h.length r)))) :=
    ⟨K_blind, fun U hU hW => ⟨by rw [hargs], by rw [hU], by rw [hU]; exact hPc, va_K.moved hW.alike hK, hDc, fun w h9 => NW_warm h9 hW (hNW w h9)⟩⟩
  have hrun := va_runI (p := p) (l := l) (e := e) (R := R) (s := s) (m := m) (args := args) (below := below) (meth := meth) (c := c) (H := H) (locs := locs) (cells := k) (slots := n9) (g := F0 m pc ls (((as.map (cV (rnF rho h.length))).reverse ++ rest).map (cV ad))) (rest := rest.map (cV ad)) (Ts := TG) ⟨hx, hcb, rfl, hown, hts⟩ hM hcw hpre rfl (by rw [List.length_map]; exact hlen) hl.2.1
    (by
      show List.map (cV ad) ((as.map (cV (rnF rho h.length))).reverse ++ rest) = _
      rw [stk_eq, hargs, List.reverse_cons, List.append_assoc]; rfl)
    (lv_room (cat_eq hrs)) hdg ⟨by omega, by omega⟩
  exact call_post hr hnd hm hal hn0 had hP hD hS hl (by omega) (by omega) hFc hrun kk
end
end
section
/-! MAKING, AND THE LIBRARY's OWN ROWS -/
section
variable {X : CTX} {b : ByteArray} {own : String} {ini : Bool} {fr lo : Nat} {tab : List CI} {pc : Nat} {vs : List (Option Value)} {st rest : List Value} {h : AH} {bk bn : Nat} {r1 r2 r3 index : Nat} {cv : Value}
theorem MW_objInit (C : CX X b own ini fr lo) (ht : tab.all (okI own ini b) = true) (i : Nat) (hc0 : tab[i]? = some (pc, 3, .invokespecial index, r1, r2, r3, cv)) {a : Nat}
    (hw : [Cond.methodLink own index objectInit, .instanceMethod objectInit, .code objectInit ⟨#[0xb1]⟩ 1 none].all (fun w => decide (w ∈ TG)) = true) (hR : (Nat.ble 1 fr && Nat.ble ((rest.map fun v => v.category).sum + 12) lo) = true)
    (kk : MW X (pc + 3, vs, rest, h, bk, bn)) : MW X (pc, vs, .ref a :: rest, h, bk, bn) := by
  have hi : okI own ini b (pc, 3, .invokespecial index, r1, r2, r3, cv) = true := List.all_eq_true.mp ht _ (List.mem_of_getElem? hc0)
  obtain ⟨p, l, e, R, s, m, args, below, meth, c, D, cA, ad0, n0, A, mc, ms, Q⟩ := X
  obtain ⟨hx, hcb, hown, hts, hK, hlk, hA, hin, hRc, hRs, hfr, hlo, hNW⟩ := C
  have hdg := okI_dec hi
  rw [Bool.and_eq_true] at hR
  have hR1 := Nat.le_of_ble_eq_true hR.1
  have hR2 := Nat.le_of_ble_eq_true hR.2
  have hwin : ∀ w ∈ [Cond.methodLink own index objectInit, .instanceMethod objectInit, .code objectInit ⟨#[0xb1]⟩ 1 none], w ∈ TG := fun w h9 => of_decide_eq_true (List.all_eq_true.mp hw w h9)
  intro ad H locs ls k n hn0 had hP hD hS hl hk hn
  refine W.objInit hx hcb hown (hts _ (hwin _ (by simp))) (hts _ (hwin _ (by simp))) (hts _ (hwin _ (by simp))) rfl hl.2.1 rfl hdg (by omega) ?_ (kk ad H locs ls k n hn0 had hP hD hS hl hk hn)
  show 2 * 0 + ((rest.map (cV ad)).map fun v => v.category).sum + 12 ≤ R.locals
  have e1 : ((rest.map (cV ad)).map fun v => v.category) = rest.map fun v => v.category := by
    rw [List.map_map]; apply List.map_congr_left; intro v _; exact cV_cat ad v
  rw [e1]; omega
/-- the map of places with a new one -/
theorem ad_push {D : va_G} {cA : Nat → ClassId} {A : Nat → Prop} {ad : Nat → Nat} {h : AH} {e0 : AE} {q : Nat} {H1 : Heap} (hc1 : cellsLt h.length h = true) (he0 : ∀ ad' : Nat → Nat, cE ad' cA e0 = cE ad cA e0)
    (hP : va_P D CL (cW ad cA h ++ [(q, cE ad cA e0)]) H1) (hD : va_D A (cW ad cA h ++ [(q, cE ad cA e0)])) :
    va_P D CL (cW (fun j => if j = h.length then q else ad j) cA (h ++ [e0])) H1 ∧ va_D A (cW (fun j => if j = h.length then q else ad j) cA (h ++ [e0])) := by
  have e : cW (fun j => if j = h.length then q else ad j) cA (h ++ [e0]) = cW ad cA h ++ [(q, cE ad cA e0)] := by
    apply List.ext_getElem?
    intro j
    rw [List.getElem?_append, cW_len]
    split
    · rename_i hj
      have h1 : (h ++ [e0])[j]? = some h[j] := by rw [List.getElem?_append_left hj, List.getElem?_eq_getElem hj]
      rw [cW_get h1, cW_get (List.getElem?_eq_getElem hj)]
      have h2 : ¬ j = h.length := by omega
      rw [if_neg h2, cellsLt_v hc1 (List.getElem?_eq_getElem hj) (ad := ad) (fun i hi => by rw [if_neg (by omega)]) cA]
    · rename_i hj
      by_cases hjl : j = h.length
      · subst hjl
        have h1 : (h ++ [e0])[h.length]? = some e0 := by simp
        rw [cW_get h1, he0]
        simp
      · rw [List.getElem?_eq_none (by rw [cW_len, List.length_append]; simp; omega), List.getElem?_eq_none (by simp; omega)]
  rw [e]
  exact ⟨hP, hD⟩
def dfl : FieldType → Value
  | .long => .long 0
  | .object _ => .null
  | .array _ => .null
  | _ => .int 0
theorem MW_new (C : CX X b own ini fr lo) (ht : tab.all (okI own ini b) = true) (i : Nat) (hc0 : tab[i]? = some (pc, 3, .new index, r1, r2, r3, cv)) {ci : Nat} {Cn : String} {T : u_T} {N : Nat} (hcl : CL[ci]? = some (Cn, T, N)) {fs : List Value}
    (hw : [Cond.classLink own index Cn, .instantiable Cn N, .initialized Cn].all (fun w => decide (w ∈ TG)) = true)
    (hfs : ∀ k, k < N → (parseFieldDescriptor (T k).2.2.1).map defaultValue = some (fs.getD k .null)) (hf0 : fs.all (fun v => match v with | .ref _ => false | _ => true) = true)
    (hc1 : cellsLt h.length h = true) (hc2 : allLtO h.length vs = true) (hc3 : allLt h.length st = true)
    (kk : MW X (pc + 3, vs, .ref h.length :: st, h ++ [.inr (ci, fs)], bk, bn)) : MW X (pc, vs, st, h, bk + 1, bn + N) := by
  have hi : okI own ini b (pc, 3, .new index, r1, r2, r3, cv) = true := List.all_eq_true.mp ht _ (List.mem_of_getElem? hc0)
  obtain ⟨p, l, e, R, s, m, args, below, meth, c, D, cA, ad0, n0, A, mc, ms, Q⟩ := X
  obtain ⟨hx, hcb, hown, hts, hK, hlk, hA, hin, hRc, hRs, hfr, hlo, hNW⟩ := C
  have hdg := okI_dec hi
  have hwin : ∀ w ∈ [Cond.classLink own index Cn, .instantiable Cn N, .initialized Cn], w ∈ TG := fun w h9 => of_decide_eq_true (List.all_eq_true.mp hw w h9)
  obtain ⟨ty0, hty0, hnm0⟩ := CL_ty _ _ _ _ hcl
  have hnor : ∀ ad1 ad2 : Nat → Nat, fs.map (cV ad1) = fs.map (cV ad2) := fun ad1 ad2 => by
    apply List.map_congr_left
    intro v hv
    have := List.all_eq_true.mp hf0 v hv
    cases v <;> simp at this <;> rfl
  intro ad H locs ls k n hn0 had hP hD hS hl hk hn
  refine va_new (D := D) (ci := ci) (fs := fs.map (cV ad)) (C := Cn) (T := T) (N := N) hx hcb hts (CL_in _ _ _ _ hcl) ty0 hty0 hown (hts _ (hwin _ (by simp))) (hts _ (hwin _ (by simp))) (hts _ (hwin _ (by simp))) hK hP hD hS hA hcl (fun j hj => ?_) (by omega) (by omega) hdg (fun q H1 hP1 hD1 hS1 => ?_)
  · have h1 := hfs j hj
    rw [hty0 j hj] at h1
    have h2 := Option.some.inj h1
    show defaultValue (ty0 j) = (fs.map (cV ad)).getD j .null
    rw [h2, List.getD_eq_getElem?_getD, List.getD_eq_getElem?_getD, List.getElem?_map]
    cases hv : fs[j]? with
    | none => rfl
    | some v =>
      have := List.all_eq_true.mp hf0 v (List.mem_of_getElem? hv)
      cases v <;> simp at this <;> rfl
  · obtain ⟨hP2, hD2⟩ := ad_push (e0 := .inr (ci, fs)) hc1 (fun ad' => by simp only [cE]; rw [hnor ad' ad]) hP1 hD1
    have hag : ∀ i, i < h.length → (fun j => if j = h.length then q else ad j) i = ad i := fun i hi => if_neg (by omega)
    have := kk (fun j => if j = h.length then q else ad j) H1 locs ls (k + 1) (n + N) (by simp; omega) (fun i hi => by
      have : ¬ i = h.length := by simp at hi; omega
      simp only [this, if_false]
      exact had i (by simp at hi; omega)) hP2 hD2 hS1 ⟨hl.1, hl.2.1, hl.2.2.1, fun i v hv => by rw [refLt_v (allLtO_v hc2 hv) hag]; exact hl.2.2.2 i v hv⟩ (by omega) (by omega)
    have e9 : List.map (cV (fun j => if j = h.length then q else ad j)) (.ref h.length :: st) = .ref q :: st.map (cV ad) := by
      rw [List.map_cons, allLt_v hc3 hag]; simp [cV]
    rw [e9] at this
    exact this
theorem MW_newa (C : CX X b own ini fr lo) (ht : tab.all (okI own ini b) = true) (i : Nat) {at9 : ArrayType} (hc0 : tab[i]? = some (pc, 2, .newarray at9, r1, r2, r3, cv)) {n : Int32} {N : Nat} {t : Nat} {ty : FieldType} {a0 : vp_A} (hty : newarray.typeOf at9 = ty) (htt : (tysOf (fun j => (j : ClassId)))[t]? = some ((t : ClassId), ty))
    (hw : decide (Cond.arrayClass ty ∈ TG) = true) (ha : ∀ cA : ClassId, vp_cell cA a0 = arrV cA N (fun _ => defaultValue ty)) (hn9 : ¬ n < 0) (hN : n.toNatClampNeg = N) (hb9 : Nat.ble (N * componentBytes ty) 536870912 = true)
    (hc1 : cellsLt h.length h = true) (hc2 : allLtO h.length vs = true) (hc3 : allLt h.length st = true)
    (kk : MW X (pc + 2, vs, .ref h.length :: st, h ++ [.inl (t, a0)], bk, bn)) : MW X (pc, vs, .int n :: st, h, bk + 1, bn + N) := by
  have hi : okI own ini b (pc, 2, .newarray at9, r1, r2, r3, cv) = true := List.all_eq_true.mp ht _ (List.mem_of_getElem? hc0)
  obtain ⟨p, l, e, R, s, m, args, below, meth, c, D, cA, ad0, n0, A, mc, ms, Q⟩ := X
  obtain ⟨hx, hcb, hown, hts, hK, hlk, hA, hin, hRc, hRs, hfr, hlo, hNW⟩ := C
  have hdg := okI_dec hi
  have hw1 := hts _ (of_decide_eq_true hw)
  subst hty
  intro ad H locs ls k n2 hn0 had hP hD hS hl hk hn
  refine va_newa hx hcb hw1 rfl hK hP hD hS hA ha hn9 hN (Nat.le_of_ble_eq_true hb9) (by omega) (by omega) hdg (fun q cQ H1 hK1 hP1 hD1 hS1 => ?_)
  -- the new row's class is the known one of its type
  have hcls : cQ = cA t := by
    have h1 := hK1.2 4 (cQ, newarray.typeOf at9) rfl
    match t, htt with
    | 0, htt =>
      have e1 : newarray.typeOf at9 = .int := (congrArg Prod.snd (Option.some.inj htt)).symm
      have h2 := hK.2 0 (cA 0, .int) rfl
      rw [e1] at h1
      exact Option.some.inj (h1.2.symm.trans h2.2)
    | 1, htt =>
      have e1 : newarray.typeOf at9 = .long := (congrArg Prod.snd (Option.some.inj htt)).symm
      have h2 := hK.2 1 (cA 1, .long) rfl
      rw [e1] at h1
      exact Option.some.inj (h1.2.symm.trans h2.2)
    | 2, htt =>
      have e1 : newarray.typeOf at9 = .byte := (congrArg Prod.snd (Option.some.inj htt)).symm
      have h2 := hK.2 2 (cA 2, .byte) rfl
      rw [e1] at h1
      exact Option.some.inj (h1.2.symm.trans h2.2)
    | 3, htt =>
      have e1 : newarray.typeOf at9 = .boolean := (congrArg Prod.snd (Option.some.inj htt)).symm
      have h2 := hK.2 3 (cA 3, .boolean) rfl
      rw [e1] at h1
      exact Option.some.inj (h1.2.symm.trans h2.2)
    | t + 4, htt => simp at htt
  subst hcls
  obtain ⟨hP2, hD2⟩ := ad_push (e0 := .inl (t, a0)) hc1 (fun ad' => rfl) hP1 hD1
  have hag : ∀ i, i < h.length → (fun j => if j = h.length then q else ad j) i = ad i := fun i hi => if_neg (by omega)
  have := kk (fun j => if j = h.length then q else ad j) H1 locs ls (k + 1) (n2 + N) (by simp; omega) (fun i hi => by
    have : ¬ i = h.length := by simp at hi; omega
    simp only [this, if_false]
    exact had i (by simp at hi; omega)) hP2 hD2 hS1 ⟨hl.1, hl.2.1, hl.2.2.1, fun i v hv => by rw [refLt_v (allLtO_v hc2 hv) hag]; exact hl.2.2.2 i v hv⟩ (by omega) (by omega)
  have e9 : List.map (cV (fun j => if j = h.length then q else ad j)) (.ref h.length :: st) = .ref q :: st.map (cV ad) := by
    rw [List.map_cons, allLt_v hc3 hag]; simp [cV]
  rw [e9] at this
  exact this
end
section
variable {X : CTX} {b : ByteArray} {own : String} {ini : Bool} {fr lo : Nat} {tab : List CI} {pc : Nat} {vs : List (Option Value)} {st rest : List Value} {h : AH} {bk bn : Nat} {r1 r2 r3 index : Nat} {cv : Value}
def imax (x y : Int32) : Int32 := if x < y then y else x
def imin (x y : Int32) : Int32 := if y < x then y else x
theorem cat_sum {ad : Nat → Nat} {rest : List Value} : ((rest.map (cV ad)).map fun v => v.category) = rest.map fun v => v.category := by
  rw [List.map_map]; apply List.map_congr_left; intro v _; exact cV_cat ad v
theorem MW_mmax (C : CX X b own ini fr lo) (ht : tab.all (okI own ini b) = true) (i : Nat) (hc0 : tab[i]? = some (pc, 3, .invokestatic index, r1, r2, r3, cv)) {x y : Int32}
    (hw : [Cond.methodLink own index Lib.Math.max.name, .static Lib.Math.max.name, .initialized "java/lang/Math", .code Lib.Math.max.name Lib.Math.max.code 2 (some .int)].all (fun w => decide (w ∈ TG)) = true) (hR : (Nat.ble 1 fr && Nat.ble ((rest.map fun v => v.category).sum + 13) lo) = true)
    (kk : MW X (pc + 3, vs, .int (imax x y) :: rest, h, bk, bn)) : MW X (pc, vs, .int y :: .int x :: rest, h, bk, bn) := by
  have hi : okI own ini b (pc, 3, .invokestatic index, r1, r2, r3, cv) = true := List.all_eq_true.mp ht _ (List.mem_of_getElem? hc0)
  obtain ⟨p, l, e, R, s, m, args, below, meth, c, D, cA, ad0, n0, A, mc, ms, Q⟩ := X
  obtain ⟨hx, hcb, hown, hts, hK, hlk, hA, hin, hRc, hRs, hfr, hlo, hNW⟩ := C
  have hdg := okI_dec hi
  rw [Bool.and_eq_true] at hR
  have hR1 := Nat.le_of_ble_eq_true hR.1
  have hR2 := Nat.le_of_ble_eq_true hR.2
  have hwin : ∀ w ∈ [Cond.methodLink own index Lib.Math.max.name, .static Lib.Math.max.name, .initialized "java/lang/Math", .code Lib.Math.max.name Lib.Math.max.code 2 (some .int)], w ∈ TG := fun w h9 => of_decide_eq_true (List.all_eq_true.mp hw w h9)
  intro ad H locs ls k n hn0 had hP hD hS hl hk hn
  exact va_mmax hx hcb hl.2.1.symm hown (hts _ (hwin _ (by simp))) (hts _ (hwin _ (by simp))) (hts _ (hwin _ (by simp))) (hts _ (hwin _ (by simp))) (by omega) (by rw [cat_sum]; omega) (by omega) (by omega) hdg (kk ad H locs ls k n hn0 had hP hD hS hl hk hn)
theorem MW_mmin (C : CX X b own ini fr lo) (ht : tab.all (okI own ini b) = true) (i : Nat) (hc0 : tab[i]? = some (pc, 3, .invokestatic index, r1, r2, r3, cv)) {x y : Int32}
    (hw : [Cond.methodLink own index Lib.Math.min.name, .static Lib.Math.min.name, .initialized "java/lang/Math", .code Lib.Math.min.name Lib.Math.min.code 2 (some .int)].all (fun w => decide (w ∈ TG)) = true) (hR : (Nat.ble 1 fr && Nat.ble ((rest.map fun v => v.category).sum + 13) lo) = true)
    (kk : MW X (pc + 3, vs, .int (imin x y) :: rest, h, bk, bn)) : MW X (pc, vs, .int y :: .int x :: rest, h, bk, bn) := by
  have hi : okI own ini b (pc, 3, .invokestatic index, r1, r2, r3, cv) = true := List.all_eq_true.mp ht _ (List.mem_of_getElem? hc0)
  obtain ⟨p, l, e, R, s, m, args, below, meth, c, D, cA, ad0, n0, A, mc, ms, Q⟩ := X
  obtain ⟨hx, hcb, hown, hts, hK, hlk, hA, hin, hRc, hRs, hfr, hlo, hNW⟩ := C
  have hdg := okI_dec hi
  rw [Bool.and_eq_true] at hR
  have hR1 := Nat.le_of_ble_eq_true hR.1
  have hR2 := Nat.le_of_ble_eq_true hR.2
  have hwin : ∀ w ∈ [Cond.methodLink own index Lib.Math.min.name, .static Lib.Math.min.name, .initialized "java/lang/Math", .code Lib.Math.min.name Lib.Math.min.code 2 (some .int)], w ∈ TG := fun w h9 => of_decide_eq_true (List.all_eq_true.mp hw w h9)
  intro ad H locs ls k n hn0 had hP hD hS hl hk hn
  exact va_mmin hx hcb hl.2.1.symm hown (hts _ (hwin _ (by simp))) (hts _ (hwin _ (by simp))) (hts _ (hwin _ (by simp))) (hts _ (hwin _ (by simp))) (by omega) (by rw [cat_sum]; omega) (by omega) (by omega) hdg (kk ad H locs ls k n hn0 had hP hD hS hl hk hn)
theorem MW_copyi (C : CX X b own ini fr lo) (ht : tab.all (okI own ini b) = true) (i : Nat) (hc0 : tab[i]? = some (pc, 3, .invokestatic index, r1, r2, r3, cv)) {sp dp nn : Int32} {a0 a : Nat} {m0 m1 : Nat} {f g : Nat → Int32} (ha0 : h[a0]? = some (.inl (0, m0, .inl f))) (ha : h[a]? = some (.inl (0, m1, .inl g)))
    (hw : [Cond.methodLink own index arraycopyName, .native arraycopyName, .static arraycopyName, .initialized "java/lang/System"].all (fun w => decide (w ∈ TG)) = true) (hR : (Nat.ble 1 fr && Nat.ble ((rest.map fun v => v.category).sum + 18) lo) = true)
    (hg : ¬ sp < 0 ∧ ¬ dp < 0 ∧ ¬ nn < 0 ∧ sp.toNatClampNeg + nn.toNatClampNeg ≤ m0 ∧ dp.toNatClampNeg + nn.toNatClampNeg ≤ m1)
    (kk : MW X (pc + 3, vs, rest, h.set a (.inl (0, m1, .inl (va_cpy f g sp.toNatClampNeg dp.toNatClampNeg nn.toNatClampNeg))), bk, bn)) : MW X (pc, vs, .int nn :: .int dp :: .ref a :: .int sp :: .ref a0 :: rest, h, bk, bn) := by
  have hi : okI own ini b (pc, 3, .invokestatic index, r1, r2, r3, cv) = true := List.all_eq_true.mp ht _ (List.mem_of_getElem? hc0)
  obtain ⟨p, l, e, R, s, m, args, below, meth, c, D, cA, ad0, n0, A, mc, ms, Q⟩ := X
  obtain ⟨hx, hcb, hown, hts, hK, hlk, hA, hin, hRc, hRs, hfr, hlo, hNW⟩ := C
  have hdg := okI_dec hi
  rw [Bool.and_eq_true] at hR
  have hR1 := Nat.le_of_ble_eq_true hR.1
  have hR2 := Nat.le_of_ble_eq_true hR.2
  have hwin : ∀ w ∈ [Cond.methodLink own index arraycopyName, .native arraycopyName, .static arraycopyName, .initialized "java/lang/System"], w ∈ TG := fun w h9 => of_decide_eq_true (List.all_eq_true.mp hw w h9)
  intro ad H locs ls k n hn0 had hP hD hS hl hk hn
  refine va_copyi hx hcb hl.2.1.symm hown (hts _ (hwin _ (by simp))) (hts _ (hwin _ (by simp))) (hts _ (hwin _ (by simp))) (hts _ (hwin _ (by simp))) hK hP hD hS a0 a 0 0 (cW_get ha0) (cW_get ha) rfl rfl rfl hg.1 hg.2.1 hg.2.2.1 hg.2.2.2.1 hg.2.2.2.2 (fun _ _ => rfl) (by omega) (by rw [cat_sum]; simp [nativeFrameWords]; omega) hdg (fun H1 locs1 hP1 hD1 hS1 => ?_)
  have e1 := cW_set ad cA h a (.inl (0, m1, .inl (va_cpy f g sp.toNatClampNeg dp.toNatClampNeg nn.toNatClampNeg)))
  refine kk ad H1 locs1 ls k n (by rw [List.length_set]; exact hn0) (by rw [List.length_set]; exact had) ?_ ?_ hS1 hl hk hn
  · rw [← e1]; exact hP1
  · rw [← e1]; exact hD1
theorem MW_tsw (C : CX X b own ini fr lo) (ht : tab.all (okI own ini b) = true) (i : Nat) {len : Nat} {df hi9 : Int} {offs : Array Int} (hc0 : tab[i]? = some (pc, len, .tableswitch df 0 hi9 offs, r1, r2, r3, cv)) {x : Int32} (tgts : List Nat) (dt : Nat)
    (hw : (decide (hi9 = (tgts.length : Int) - 1) && decide (offs.toList.map (fun o => (pc : Int) + o) = tgts.map Int.ofNat) && decide ((pc : Int) + df = (dt : Int)) && Nat.ble tgts.length 1000) = true)
    (kin : ∀ (j t : Nat), tgts[j]? = some t → x = Int32.ofNat j → MW X (t, vs, rest, h, bk, bn)) (kout : (∀ j, j < tgts.length → ¬ x = Int32.ofNat j) → MW X (dt, vs, rest, h, bk, bn)) : MW X (pc, vs, .int x :: rest, h, bk, bn) := by
  have hi : okI own ini b (pc, len, .tableswitch df 0 hi9 offs, r1, r2, r3, cv) = true := List.all_eq_true.mp ht _ (List.mem_of_getElem? hc0)
  have hdg := okI_dec hi
  dsimp only at hdg
  clear hi
  simp only [Bool.and_eq_true, decide_eq_true_eq] at hw
  obtain ⟨⟨⟨w1, w2⟩, w3⟩, w4⟩ := hw
  have w4 := Nat.le_of_ble_eq_true w4
  by_cases hin9 : x.toInt < 0 ∨ hi9 < x.toInt
  · have hk9 := kout (fun j hj e => by
      subst e
      have : (Int32.ofNat j).toInt = j := nI_toInt (by omega)
      omega)
    obtain ⟨p, l, e, R, s, m, args, below, meth, c, D, cA, ad0, n0, A, mc, ms, Q⟩ := X
    obtain ⟨hx, hcb, hown, hts, hK, hlk, hA, hin, hRc, hRs, hfr, hlo, hNW⟩ := C
    intro ad H locs ls k n hn0 had hP hD hS hl hk hn
    exact lv_tableOut (dflt := df) (lo := 0) (hi := hi9) (offs := offs) (len := len) hx hcb hdg hin9 w3 (hk9 ad H locs ls k n hn0 had hP hD hS hl hk hn)
  · have a1 : ¬ x.toInt < 0 := fun z => hin9 (Or.inl z)
    have a2 : ¬ hi9 < x.toInt := fun z => hin9 (Or.inr z)
    have hl9 : offs.toList.length = tgts.length := by
      have := congrArg List.length w2
      simpa using this
    have hj : x.toInt.toNat < tgts.length := by omega
    have hx9 : x = Int32.ofNat x.toInt.toNat := by
      apply Int32.toInt_inj.mp
      rw [show (Int32.ofNat x.toInt.toNat).toInt = (x.toInt.toNat : Int) from nI_toInt (by omega)]
      omega
    have hk9 := kin x.toInt.toNat tgts[x.toInt.toNat] (List.getElem?_eq_getElem hj) hx9
    have hlo9 : x.toInt.toNat < offs.toList.length := by omega
    have ho : offs[(x.toInt - 0).toNat]? = some (offs.toList[x.toInt.toNat]) := by
      rw [show (x.toInt - 0).toNat = x.toInt.toNat by omega, ← Array.getElem?_toList, List.getElem?_eq_getElem hlo9]
    have htg : (pc : Int) + offs.toList[x.toInt.toNat] = (tgts[x.toInt.toNat] : Int) := by
      have := congrArg (fun l => l[x.toInt.toNat]?) w2
      simp only [List.getElem?_map, List.getElem?_eq_getElem hlo9, List.getElem?_eq_getElem hj] at this
      exact Option.some.inj this
    obtain ⟨p, l, e, R, s, m, args, below, meth, c, D, cA, ad0, n0, A, mc, ms, Q⟩ := X
    obtain ⟨hx, hcb, hown, hts, hK, hlk, hA, hin, hRc, hRs, hfr, hlo, hNW⟩ := C
    intro ad H locs ls k n hn0 had hP hD hS hl hk hn
    exact lv_tableIn (dflt := df) (lo := 0) (hi := hi9) (offs := offs) (len := len) hx hcb hdg a1 a2 ho htg (hk9 ad H locs ls k n hn0 had hP hD hS hl hk hn)
end
end
section
/-! WHAT THE WRITTEN-OUT WALKS USE -/
theorem of_guard {α : Type} {c : Prop} [Decidable c] {a : Option α} {r : α} (h : (if c then a else none) = some r) : c ∧ a = some r := by
  by_cases hc : c
  · rw [if_pos hc] at h; exact ⟨hc, h⟩
  · rw [if_neg hc] at h; cases h
theorem of_bind {α β : Type} {x : Option α} {f : α → Option β} {r : β} (h : x.bind f = some r) : ∃ a, x = some a ∧ f a = some r := Option.bind_eq_some_iff.mp h
def rd {α : Type} (f : Nat → α) (i : Int32) : α := f i.toNatClampNeg
def wr (f : Nat → Int32) (i : Int32) (x : Int32) : Nat → Int32 := upd f i.toNatClampNeg x
def wrL (f : Nat → Int64) (i : Int32) (x : Int64) : Nat → Int64 := vp_updL f i.toNatClampNeg x
def N0 : Nat := 1000000
def narB (x : Int32) : Int32 := vp_nar .byte x
def narZ (x : Int32) : Int32 := vp_nar .boolean x
section
variable {X : CTX} {b : ByteArray} {own : String} {ini : Bool} {fr lo : Nat} {tab : List CI} {pc : Nat} {vs : List (Option Value)} {st : List Value} {h hc : AH} {bk bn bk' bn' : Nat} {K : Option Value → AH → Prop} {r1 r2 r3 index : Nat} {cv : Value} {y : MethodName} {by' : ByteArray} {nL' fr' lo' mc' ms' : Nat} {ret' : Option FieldType} {as : List Value}
theorem MW_brT (C : CX X b own ini fr lo) (ht : tab.all (okI own ini b) = true) (i : Nat) {tgt : Nat} {r : List Value} {I : Instr} {P : Prop}
    (hc : tab[i]? = some (pc, 3, I, tgt, r2, r3, cv)) (hb : bcnd I st = some (P, false, r)) (kt : P → MW X (tgt, vs, r, h, bk, bn)) (kf : ¬ P → MW X (pc + 3, vs, r, h, bk, bn)) : MW X (pc, vs, st, h, bk, bn) := MW_br C ht i hc hb kt kf
theorem MW_brF (C : CX X b own ini fr lo) (ht : tab.all (okI own ini b) = true) (i : Nat) {tgt : Nat} {r : List Value} {I : Instr} {P : Prop}
    (hc : tab[i]? = some (pc, 3, I, tgt, r2, r3, cv)) (hb : bcnd I st = some (P, true, r)) (kt : P → MW X (pc + 3, vs, r, h, bk, bn)) (kf : ¬ P → MW X (tgt, vs, r, h, bk, bn)) : MW X (pc, vs, st, h, bk, bn) := MW_br C ht i hc hb kt kf
theorem cV_id {f : Nat → Nat} {N : Nat} (hf : ∀ i, i < N → f i = i) {v : Value} (h : refLt N v = true) : cV f v = v := by
  have h1 := refLt_v (ad := fun i => i) (ad' := f) h hf
  rw [h1]; cases v <;> rfl
theorem allLt_id : ∀ {f : Nat → Nat} {N : Nat}, (∀ i, i < N → f i = i) → ∀ {l : List Value}, allLt N l = true → l.map (cV f) = l
  | f, N, hf, [], _ => rfl
  | f, N, hf, v :: l, h => by
    simp only [allLt, Bool.and_eq_true] at h
    rw [List.map_cons, cV_id hf h.1, allLt_id hf h.2]
theorem cells_id : ∀ {f : Nat → Nat} {N : Nat}, (∀ i, i < N → f i = i) → ∀ {l : AH}, cellsLt N l = true → l.map (rE f) = l
  | f, N, hf, [], _ => rfl
  | f, N, hf, .inl x :: l, h => by
    rw [List.map_cons, cells_id (l := l) hf h]; rfl
  | f, N, hf, .inr x :: l, h => by
    simp only [cellsLt, Bool.and_eq_true] at h
    rw [List.map_cons, cells_id (l := l) hf h.2]
    simp only [rE]
    rw [allLt_id hf h.1]
theorem setAll_range : ∀ (n i : Nat) (h h' : AH), h.length = i + n → h'.length = i + n → (∀ j, j < i → h[j]? = h'[j]?) → setAll h (List.range' i n) (h'.drop i) = h'
  | 0, i, h, h', e1, e2, hp => by
    rw [List.range'_zero]
    have : setAll h [] (h'.drop i) = h := by cases h'.drop i <;> rfl
    rw [this]
    apply List.ext_getElem?
    intro j
    by_cases hj : j < i
    · exact hp j hj
    · rw [List.getElem?_eq_none (by omega), List.getElem?_eq_none (by omega)]
  | n + 1, i, h, h', e1, e2, hp => by
    have hlt : i < h'.length := by omega
    rw [List.range'_succ, List.drop_eq_getElem_cons hlt, setAll]
    apply setAll_range n (i + 1) _ h' (by rw [List.length_set]; omega) (by omega)
    intro j hj
    rw [List.getElem?_set]
    by_cases hij : i = j
    · subst hij
      simp [show i < h.length by omega, List.getElem?_eq_getElem hlt]
    · simp [hij]
      exact hp j (by omega)
theorem jn_id {h h' : AH} (hl : h'.length = h.length) (hc : cellsLt h.length h' = true) : jn h (List.range h.length) h.length h' = h' := by
  have hf : ∀ i, i < h.length → rnF (List.range h.length) h.length i = i := fun i hi => by
    unfold rnF; rw [List.getElem?_range hi]
  unfold jn
  rw [cells_id hf hc, List.take_of_length_le (by simp), List.drop_eq_nil_of_le (by omega), List.map_nil, List.append_nil]
  have := setAll_range h.length 0 h h' (by omega) (by omega) (fun j hj => by omega)
  rw [List.drop_zero] at this
  rw [List.range_eq_range']
  exact this
theorem nd_range (n : Nat) : va_nd ((List.range n).take n) = true := by
  rw [List.take_of_length_le (by simp)]
  have : ∀ l : List Nat, l.Nodup → va_nd l = true := by
    intro l hl
    induction l with
    | nil => rfl
    | cons a l ih =>
      have h2 := List.nodup_cons.mp hl
      simp only [va_nd, Bool.and_eq_true, decide_eq_true_eq]
      exact ⟨h2.1, ih h2.2⟩
  exact this _ List.nodup_range
theorem map_range {h : AH} (hc : cellsLt h.length h = true) : ((List.range h.length).take h.length).map (fun i => h[i]?) = h.map (fun c => some (rE (rnF (List.range h.length) h.length) c)) := by
  have hf : ∀ i, i < h.length → rnF (List.range h.length) h.length i = i := fun i hi => by
    unfold rnF; rw [List.getElem?_range hi]
  have e : h.map (fun c => some (rE (rnF (List.range h.length) h.length) c)) = (h.map (rE (rnF (List.range h.length) h.length))).map some := by rw [List.map_map]; rfl
  rw [e, cells_id hf hc, List.take_of_length_le (by simp)]
  apply List.ext_getElem?
  intro j
  rw [List.getElem?_map, List.getElem?_map]
  by_cases hj : j < h.length
  · rw [List.getElem?_range hj, List.getElem?_eq_getElem hj]; simp
  · rw [List.getElem?_eq_none (by simp; omega), List.getElem?_eq_none (by omega)]; rfl
/-- a call whose cells are all the caller's -/
theorem MW_callV0 (C : CX X b own ini fr lo) (ht : tab.all (okI own ini b) = true) (i : Nat) (hc0 : tab[i]? = some (pc, 3, .invokevirtual index, r1, r2, r3, cv)) {v0 : Option Value} {h0 : AH} (hCT : CT y by' nL' ret' fr' lo' 0 0 as h (fun v h' => v = v0 ∧ h' = h0))
    (hw : [Cond.methodLink own index y, .instanceMethod y, .selects y.cls y y, .initialized y.cls, .code y by' nL' ret'].all (fun w => decide (w ∈ TG)) = true) (n : Nat)
    (hd : (decide (y.cls ≠ "java/lang/invoke/MethodHandle") && decide (y.cls ≠ "java/lang/invoke/VarHandle") && decide ((parseMethodDescriptor y.desc).map (fun d => d.parameters.length) = some n)) = true)
    (hR : (Nat.ble (fr' + 1) fr && Nat.ble (8 + (nL' + 11) + lo') lo) = true) {rr ci : Nat} {q : vw_C} {fs : List Value} {As rest : List Value} (has : as = .ref rr :: As) (hlen : As.length = n) (hrecv : h[rr]? = some (.inr (ci, fs))) (hcl : CL[ci]? = some q) (hqy : q.1 = y.cls)
    (hst : st = as.reverse ++ rest) (hrs : Nat.ble (rest.map fun v => v.category).sum 8 = true) (hlt : cellsLt h.length h = true) (hlt0 : cellsLt h.length h0 = true) (hl0 : h0.length = h.length) (halt : allLt h.length as = true) (hvlt : allLt h.length v0.toList = true)
    (kk : MW X (pc + 3, vs, v0.toList ++ rest, h0, bk, bn)) : MW X (pc, vs, st, h, bk, bn) := by
  have hf : ∀ i, i < h.length → rnF (List.range h.length) h.length i = i := fun i hi => by
    unfold rnF; rw [List.getElem?_range hi]
  refine MW_callV (rho := List.range h.length) (hc := h) C ht i hc0 hCT hw n hd hR has hlen hrecv hcl hqy (rest := rest) (by rw [hst, allLt_id hf halt]) hrs (by simp) (nd_range _) (map_range hlt) (fun v h' hk => Or.inl (by rw [hk.2]; exact hl0)) (bk' := bk) (bn' := bn) (by omega) (by omega) (fun v h' hk => ?_)
  obtain ⟨rfl, rfl⟩ := hk
  rw [allLt_id hf hvlt, jn_id hl0 hlt0]
  exact kk
theorem MW_callS0 (C : CX X b own ini fr lo) (ht : tab.all (okI own ini b) = true) (i : Nat) (hc0 : tab[i]? = some (pc, 3, .invokestatic index, r1, r2, r3, cv)) {v0 : Option Value} (hCT : CT y by' nL' ret' fr' lo' 0 0 as [] (fun v h' => v = v0 ∧ h' = []))
    (hw : [Cond.methodLink own index y, .static y, .initialized y.cls, .code y by' nL' ret'].all (fun w => decide (w ∈ TG)) = true) (n : Nat)
    (hd : (decide (y.cls ≠ "java/lang/invoke/MethodHandle") && decide (y.cls ≠ "java/lang/invoke/VarHandle") && decide ((parseMethodDescriptor y.desc).map (fun d => d.parameters.length) = some n)) = true)
    (hR : (Nat.ble (fr' + 1) fr && Nat.ble (8 + (nL' + 11) + lo') lo) = true) {rest : List Value} (hlen : as.length = n)
    (hst : st = as.reverse ++ rest) (hrs : Nat.ble (rest.map fun v => v.category).sum 8 = true) (halt : allLt 0 as = true) (hvlt : allLt 0 v0.toList = true)
    (kk : MW X (pc + 3, vs, v0.toList ++ rest, h, bk, bn)) : MW X (pc, vs, st, h, bk, bn) := by
  have hf : ∀ f : Nat → Nat, ∀ i, i < 0 → f i = i := fun f i hi => by omega
  refine MW_callS (rho := []) (hc := []) C ht i hc0 hCT hw n hd hR hlen (rest := rest) (by rw [hst, allLt_id (hf _) halt]) hrs rfl rfl rfl (fun v h' hk => Or.inl (by rw [hk.2])) (bk' := bk) (bn' := bn) (by omega) (by omega) (fun v h' hk => ?_)
  obtain ⟨rfl, rfl⟩ := hk
  rw [allLt_id (hf _) hvlt]
  have : jn h [] (List.length ([] : AH)) [] = h := by
    unfold jn
    cases h <;> simp [setAll]
  rw [this]
  exact kk
/-- calls whose cells are some of the caller's, and whose end is known -/
theorem MW_callV1 (C : CX X b own ini fr lo) (ht : tab.all (okI own ini b) = true) (i : Nat) (hc0 : tab[i]? = some (pc, 3, .invokevirtual index, r1, r2, r3, cv)) (rho : List Nat) {v0 : Option Value} {h0 : AH} (hCT : CT y by' nL' ret' fr' lo' 0 0 as hc (fun v h' => v = v0 ∧ h' = h0))
    (hw : [Cond.methodLink own index y, .instanceMethod y, .selects y.cls y y, .initialized y.cls, .code y by' nL' ret'].all (fun w => decide (w ∈ TG)) = true) (n : Nat)
    (hd : (decide (y.cls ≠ "java/lang/invoke/MethodHandle") && decide (y.cls ≠ "java/lang/invoke/VarHandle") && decide ((parseMethodDescriptor y.desc).map (fun d => d.parameters.length) = some n)) = true)
    (hR : (Nat.ble (fr' + 1) fr && Nat.ble (8 + (nL' + 11) + lo') lo) = true) {rr ci : Nat} {q : vw_C} {fs : List Value} {As rest : List Value} (has : as = .ref rr :: As) (hlen : As.length = n) (hrecv : hc[rr]? = some (.inr (ci, fs))) (hcl : CL[ci]? = some q) (hqy : q.1 = y.cls)
    (hst : st = (as.map (cV (rnF rho h.length))).reverse ++ rest) (hrs : Nat.ble (rest.map fun v => v.category).sum 8 = true) (hr : Nat.ble hc.length rho.length = true) (hnd : va_nd (rho.take hc.length) = true) (hm : (rho.take hc.length).map (fun i => h[i]?) = hc.map (fun c => some (rE (rnF rho h.length) c))) (hl0 : h0.length = hc.length)
    {st2 : List Value} {h2 : AH} (hs2 : v0.toList.map (cV (rnF rho h.length)) ++ rest = st2) (hj : jn h rho hc.length h0 = h2)
    (kk : MW X (pc + 3, vs, st2, h2, bk, bn)) : MW X (pc, vs, st, h, bk, bn) := by
  refine MW_callV C ht i hc0 hCT hw n hd hR has hlen hrecv hcl hqy (rest := rest) hst hrs hr hnd hm (fun v h' hk => Or.inl (by rw [hk.2]; exact hl0)) (bk' := bk) (bn' := bn) (by omega) (by omega) (fun v h' hk => ?_)
  obtain ⟨rfl, rfl⟩ := hk
  rw [hs2, hj]
  exact kk
theorem MW_callS1 (C : CX X b own ini fr lo) (ht : tab.all (okI own ini b) = true) (i : Nat) (hc0 : tab[i]? = some (pc, 3, .invokestatic index, r1, r2, r3, cv)) (rho : List Nat) {v0 : Option Value} {h0 : AH} (hCT : CT y by' nL' ret' fr' lo' 0 0 as hc (fun v h' => v = v0 ∧ h' = h0))
    (hw : [Cond.methodLink own index y, .static y, .initialized y.cls, .code y by' nL' ret'].all (fun w => decide (w ∈ TG)) = true) (n : Nat)
    (hd : (decide (y.cls ≠ "java/lang/invoke/MethodHandle") && decide (y.cls ≠ "java/lang/invoke/VarHandle") && decide ((parseMethodDescriptor y.desc).map (fun d => d.parameters.length) = some n)) = true)
    (hR : (Nat.ble (fr' + 1) fr && Nat.ble (8 + (nL' + 11) + lo') lo) = true) {rest : List Value} (hlen : as.length = n)
    (hst : st = (as.map (cV (rnF rho h.length))).reverse ++ rest) (hrs : Nat.ble (rest.map fun v => v.category).sum 8 = true) (hr : Nat.ble hc.length rho.length = true) (hnd : va_nd (rho.take hc.length) = true) (hm : (rho.take hc.length).map (fun i => h[i]?) = hc.map (fun c => some (rE (rnF rho h.length) c))) (hl0 : h0.length = hc.length)
    {st2 : List Value} {h2 : AH} (hs2 : v0.toList.map (cV (rnF rho h.length)) ++ rest = st2) (hj : jn h rho hc.length h0 = h2)
    (kk : MW X (pc + 3, vs, st2, h2, bk, bn)) : MW X (pc, vs, st, h, bk, bn) := by
  refine MW_callS C ht i hc0 hCT hw n hd hR hlen (rest := rest) hst hrs hr hnd hm (fun v h' hk => Or.inl (by rw [hk.2]; exact hl0)) (bk' := bk) (bn' := bn) (by omega) (by omega) (fun v h' hk => ?_)
  obtain ⟨rfl, rfl⟩ := hk
  rw [hs2, hj]
  exact kk
theorem MW_callSN1 (C : CX X b own ini fr lo) (ht : tab.all (okI own ini b) = true) (i : Nat) (hc0 : tab[i]? = some (pc, 3, .invokestatic index, r1, r2, r3, cv)) (rho : List Nat) {v0 : Option Value} {h0 : AH} (hCT : CT y by' nL' ret' fr' lo' 0 0 as hc (fun v h' => v = v0 ∧ h' = h0))
    (hw : [Cond.static y, .initialized y.cls, .code y by' nL' ret'].all (fun w => decide (w ∈ TG)) = true) (n : Nat)
    (hd : (decide (y.cls ≠ "java/lang/invoke/MethodHandle") && decide (y.cls ≠ "java/lang/invoke/VarHandle") && decide ((parseMethodDescriptor y.desc).map (fun d => d.parameters.length) = some n)) = true)
    (hR : (Nat.ble (fr' + 1) fr && Nat.ble (8 + (nL' + 11) + lo') lo) = true) {rest : List Value} {host : String} (hlen : as.length = n) (hnw : decide (Cond.methodLinkNest own index y host ∈ NW) = true)
    (hst : st = (as.map (cV (rnF rho h.length))).reverse ++ rest) (hrs : Nat.ble (rest.map fun v => v.category).sum 8 = true) (hr : Nat.ble hc.length rho.length = true) (hnd : va_nd (rho.take hc.length) = true) (hm : (rho.take hc.length).map (fun i => h[i]?) = hc.map (fun c => some (rE (rnF rho h.length) c))) (hl0 : h0.length = hc.length)
    {st2 : List Value} {h2 : AH} (hs2 : v0.toList.map (cV (rnF rho h.length)) ++ rest = st2) (hj : jn h rho hc.length h0 = h2)
    (kk : MW X (pc + 3, vs, st2, h2, bk, bn)) : MW X (pc, vs, st, h, bk, bn) := by
  refine MW_callSN C ht i hc0 hCT hw n hd hR hlen hnw (rest := rest) hst hrs hr hnd hm (fun v h' hk => Or.inl (by rw [hk.2]; exact hl0)) (bk' := bk) (bn' := bn) (by omega) (by omega) (fun v h' hk => ?_)
  obtain ⟨rfl, rfl⟩ := hk
  rw [hs2, hj]
  exact kk
end
end
