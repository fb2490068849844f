section
-- ===== PART A: goes FIRST, ahead of the names: the tables' words, and 'selects' of the private methods out of them =====
/-- a private method of a class that the tables say can be made, by its rows of tables_1 -/
def lw_okq (q : MethodName × Nat) : Prop := (q.1.cls ≠ "java/lang/invoke/MethodHandle" ∧ q.1.cls ≠ "java/lang/invoke/VarHandle") ∧ Cond.instantiable q.1.cls q.2 ∈ tables_1 ∧ Cond.privateMethod q.1 ∈ tables_1 ∧ Cond.instanceMethod q.1 ∈ tables_1
theorem lw_p0 : lw_okq (⟨"SidingOrders$Pad", "signAt", "(I)I"⟩, 2) := ⟨⟨by decide +kernel, by decide +kernel⟩, List.mem_of_getElem? (i := 26) (by decide +kernel), List.mem_of_getElem? (i := 271) (by decide +kernel), List.mem_of_getElem? (i := 272) (by decide +kernel)⟩
theorem lw_p1 : lw_okq (⟨"SidingOrders$Yard", "takesOutAt", "(II)Z"⟩, 9) := ⟨⟨by decide +kernel, by decide +kernel⟩, List.mem_of_getElem? (i := 41) (by decide +kernel), List.mem_of_getElem? (i := 290) (by decide +kernel), List.mem_of_getElem? (i := 291) (by decide +kernel)⟩
theorem lw_p2 : lw_okq (⟨"SidingOrders$Yard", "listMovesFrom", "(II)V"⟩, 9) := ⟨⟨by decide +kernel, by decide +kernel⟩, List.mem_of_getElem? (i := 41) (by decide +kernel), List.mem_of_getElem? (i := 298) (by decide +kernel), List.mem_of_getElem? (i := 299) (by decide +kernel)⟩
theorem lw_p3 : lw_okq (⟨"SidingOrders$Yard", "stageOf", "(I)I"⟩, 9) := ⟨⟨by decide +kernel, by decide +kernel⟩, List.mem_of_getElem? (i := 41) (by decide +kernel), List.mem_of_getElem? (i := 306) (by decide +kernel), List.mem_of_getElem? (i := 307) (by decide +kernel)⟩
theorem lw_p4 : lw_okq (⟨"SidingOrders$Yard", "putsInAt", "(II)Z"⟩, 9) := ⟨⟨by decide +kernel, by decide +kernel⟩, List.mem_of_getElem? (i := 41) (by decide +kernel), List.mem_of_getElem? (i := 314) (by decide +kernel), List.mem_of_getElem? (i := 315) (by decide +kernel)⟩
theorem lw_p5 : lw_okq (⟨"SidingOrders$Yard", "addMove", "(I)V"⟩, 9) := ⟨⟨by decide +kernel, by decide +kernel⟩, List.mem_of_getElem? (i := 41) (by decide +kernel), List.mem_of_getElem? (i := 318) (by decide +kernel), List.mem_of_getElem? (i := 319) (by decide +kernel)⟩
theorem lw_p6 : lw_okq (⟨"SidingOrders", "forgetFindings", "()V"⟩, 10) := ⟨⟨by decide +kernel, by decide +kernel⟩, List.mem_of_getElem? (i := 18) (by decide +kernel), List.mem_of_getElem? (i := 395) (by decide +kernel), List.mem_of_getElem? (i := 396) (by decide +kernel)⟩
theorem lw_p7 : lw_okq (⟨"SidingOrders", "isMissing", "(I)Z"⟩, 10) := ⟨⟨by decide +kernel, by decide +kernel⟩, List.mem_of_getElem? (i := 18) (by decide +kernel), List.mem_of_getElem? (i := 417) (by decide +kernel), List.mem_of_getElem? (i := 418) (by decide +kernel)⟩
theorem lw_p8 : lw_okq (⟨"SidingOrders", "leastOf", "(LSidingOrders$Yard;III)I"⟩, 10) := ⟨⟨by decide +kernel, by decide +kernel⟩, List.mem_of_getElem? (i := 18) (by decide +kernel), List.mem_of_getElem? (i := 438) (by decide +kernel), List.mem_of_getElem? (i := 439) (by decide +kernel)⟩
theorem lw_p9 : lw_okq (⟨"SidingOrders$Places", "insert", "(III)V"⟩, 2) := ⟨⟨by decide +kernel, by decide +kernel⟩, List.mem_of_getElem? (i := 110) (by decide +kernel), List.mem_of_getElem? (i := 468) (by decide +kernel), List.mem_of_getElem? (i := 469) (by decide +kernel)⟩
theorem lw_p10 : lw_okq (⟨"SidingOrders$Places", "insertAt", "(III)V"⟩, 2) := ⟨⟨by decide +kernel, by decide +kernel⟩, List.mem_of_getElem? (i := 110) (by decide +kernel), List.mem_of_getElem? (i := 479) (by decide +kernel), List.mem_of_getElem? (i := 480) (by decide +kernel)⟩
theorem lw_p11 : lw_okq (⟨"SidingOrders$Survey", "spread", "(LSidingOrders$Yard;IJ)V"⟩, 3) := ⟨⟨by decide +kernel, by decide +kernel⟩, List.mem_of_getElem? (i := 177) (by decide +kernel), List.mem_of_getElem? (i := 507) (by decide +kernel), List.mem_of_getElem? (i := 508) (by decide +kernel)⟩
theorem lw_p12 : lw_okq (⟨"SidingOrders$Places", "take", "(IZ)I"⟩, 2) := ⟨⟨by decide +kernel, by decide +kernel⟩, List.mem_of_getElem? (i := 110) (by decide +kernel), List.mem_of_getElem? (i := 527) (by decide +kernel), List.mem_of_getElem? (i := 528) (by decide +kernel)⟩
theorem lw_p13 : lw_okq (⟨"SidingOrders$Places", "put", "(IIZ)V"⟩, 2) := ⟨⟨by decide +kernel, by decide +kernel⟩, List.mem_of_getElem? (i := 110) (by decide +kernel), List.mem_of_getElem? (i := 534) (by decide +kernel), List.mem_of_getElem? (i := 535) (by decide +kernel)⟩
theorem lw_p14 : lw_okq (⟨"SidingOrders$Survey", "reach", "(IIJ)V"⟩, 3) := ⟨⟨by decide +kernel, by decide +kernel⟩, List.mem_of_getElem? (i := 177) (by decide +kernel), List.mem_of_getElem? (i := 544) (by decide +kernel), List.mem_of_getElem? (i := 545) (by decide +kernel)⟩
theorem lw_p15 : lw_okq (⟨"SidingOrders$Search", "bestMove", "()I"⟩, 6) := ⟨⟨by decide +kernel, by decide +kernel⟩, List.mem_of_getElem? (i := 196) (by decide +kernel), List.mem_of_getElem? (i := 592) (by decide +kernel), List.mem_of_getElem? (i := 593) (by decide +kernel)⟩
def lw_privs_1 : List (MethodName × Nat) := [(⟨"SidingOrders$Pad", "signAt", "(I)I"⟩, 2), (⟨"SidingOrders$Yard", "takesOutAt", "(II)Z"⟩, 9), (⟨"SidingOrders$Yard", "listMovesFrom", "(II)V"⟩, 9), (⟨"SidingOrders$Yard", "stageOf", "(I)I"⟩, 9), (⟨"SidingOrders$Yard", "putsInAt", "(II)Z"⟩, 9), (⟨"SidingOrders$Yard", "addMove", "(I)V"⟩, 9), (⟨"SidingOrders", "forgetFindings", "()V"⟩, 10), (⟨"SidingOrders", "isMissing", "(I)Z"⟩, 10), (⟨"SidingOrders", "leastOf", "(LSidingOrders$Yard;III)I"⟩, 10), (⟨"SidingOrders$Places", "insert", "(III)V"⟩, 2), (⟨"SidingOrders$Places", "insertAt", "(III)V"⟩, 2), (⟨"SidingOrders$Survey", "spread", "(LSidingOrders$Yard;IJ)V"⟩, 3), (⟨"SidingOrders$Places", "take", "(IZ)I"⟩, 2), (⟨"SidingOrders$Places", "put", "(IIZ)V"⟩, 2), (⟨"SidingOrders$Survey", "reach", "(IIJ)V"⟩, 3), (⟨"SidingOrders$Search", "bestMove", "()I"⟩, 6)]
theorem lw_r1 : ∀ q ∈ lw_privs_1, lw_okq q := List.forall_mem_cons.mpr ⟨lw_p0, List.forall_mem_cons.mpr ⟨lw_p1, List.forall_mem_cons.mpr ⟨lw_p2, List.forall_mem_cons.mpr ⟨lw_p3, List.forall_mem_cons.mpr ⟨lw_p4, List.forall_mem_cons.mpr ⟨lw_p5, List.forall_mem_cons.mpr ⟨lw_p6, List.forall_mem_cons.mpr ⟨lw_p7, List.forall_mem_cons.mpr ⟨lw_p8, List.forall_mem_cons.mpr ⟨lw_p9, List.forall_mem_cons.mpr ⟨lw_p10, List.forall_mem_cons.mpr ⟨lw_p11, List.forall_mem_cons.mpr ⟨lw_p12, List.forall_mem_cons.mpr ⟨lw_p13, List.forall_mem_cons.mpr ⟨lw_p14, List.forall_mem_cons.mpr ⟨lw_p15, fun _ h => absurd h List.not_mem_nil⟩⟩⟩⟩⟩⟩⟩⟩⟩⟩⟩⟩⟩⟩⟩⟩
theorem lw_p16 : lw_okq (⟨"SidingOrders$Search", "isAstray", "()Z"⟩, 6) := ⟨⟨by decide +kernel, by decide +kernel⟩, List.mem_of_getElem? (i := 196) (by decide +kernel), List.mem_of_getElem? (i := 600) (by decide +kernel), List.mem_of_getElem? (i := 601) (by decide +kernel)⟩
theorem lw_p17 : lw_okq (⟨"SidingOrders$Search", "fits", "(I)Z"⟩, 6) := ⟨⟨by decide +kernel, by decide +kernel⟩, List.mem_of_getElem? (i := 196) (by decide +kernel), List.mem_of_getElem? (i := 607) (by decide +kernel), List.mem_of_getElem? (i := 608) (by decide +kernel)⟩
theorem lw_p18 : lw_okq (⟨"SidingOrders", "leastSorted", "(LSidingOrders$Yard;II)I"⟩, 10) := ⟨⟨by decide +kernel, by decide +kernel⟩, List.mem_of_getElem? (i := 18) (by decide +kernel), List.mem_of_getElem? (i := 640) (by decide +kernel), List.mem_of_getElem? (i := 641) (by decide +kernel)⟩
theorem lw_p19 : lw_okq (⟨"SidingOrders$Needs", "setLengths", "(LSidingOrders$Yard;I)I"⟩, 3) := ⟨⟨by decide +kernel, by decide +kernel⟩, List.mem_of_getElem? (i := 223) (by decide +kernel), List.mem_of_getElem? (i := 663) (by decide +kernel), List.mem_of_getElem? (i := 664) (by decide +kernel)⟩
theorem lw_p20 : lw_okq (⟨"SidingOrders", "aimAtPlay", "()V"⟩, 10) := ⟨⟨by decide +kernel, by decide +kernel⟩, List.mem_of_getElem? (i := 18) (by decide +kernel), List.mem_of_getElem? (i := 723) (by decide +kernel), List.mem_of_getElem? (i := 724) (by decide +kernel)⟩
theorem lw_p21 : lw_okq (⟨"SidingOrders$Thumbs", "choose", "(LSidingOrders$Yard;I)I"⟩, 1) := ⟨⟨by decide +kernel, by decide +kernel⟩, List.mem_of_getElem? (i := 243) (by decide +kernel), List.mem_of_getElem? (i := 766) (by decide +kernel), List.mem_of_getElem? (i := 767) (by decide +kernel)⟩
theorem lw_p22 : lw_okq (⟨"SidingOrders$Thumbs", "wantedOut", "(LSidingOrders$Yard;)I"⟩, 1) := ⟨⟨by decide +kernel, by decide +kernel⟩, List.mem_of_getElem? (i := 243) (by decide +kernel), List.mem_of_getElem? (i := 770) (by decide +kernel), List.mem_of_getElem? (i := 771) (by decide +kernel)⟩
theorem lw_p23 : lw_okq (⟨"SidingOrders$Thumbs", "fromEntry", "(LSidingOrders$Yard;I)I"⟩, 1) := ⟨⟨by decide +kernel, by decide +kernel⟩, List.mem_of_getElem? (i := 243) (by decide +kernel), List.mem_of_getElem? (i := 777) (by decide +kernel), List.mem_of_getElem? (i := 778) (by decide +kernel)⟩
theorem lw_p24 : lw_okq (⟨"SidingOrders$Thumbs", "isBelowAll", "(II)Z"⟩, 1) := ⟨⟨by decide +kernel, by decide +kernel⟩, List.mem_of_getElem? (i := 243) (by decide +kernel), List.mem_of_getElem? (i := 782) (by decide +kernel), List.mem_of_getElem? (i := 783) (by decide +kernel)⟩
theorem lw_p25 : lw_okq (⟨"SidingOrders$Thumbs", "onward", "(LSidingOrders$Yard;)I"⟩, 1) := ⟨⟨by decide +kernel, by decide +kernel⟩, List.mem_of_getElem? (i := 243) (by decide +kernel), List.mem_of_getElem? (i := 788) (by decide +kernel), List.mem_of_getElem? (i := 789) (by decide +kernel)⟩
theorem lw_p26 : lw_okq (⟨"SidingOrders", "imageAt", "(I)LSidingOrders$Image;"⟩, 10) := ⟨⟨by decide +kernel, by decide +kernel⟩, List.mem_of_getElem? (i := 18) (by decide +kernel), List.mem_of_getElem? (i := 808) (by decide +kernel), List.mem_of_getElem? (i := 809) (by decide +kernel)⟩
theorem lw_p27 : lw_okq (⟨"SidingOrdersModel", "forget", "()V"⟩, 44) := ⟨⟨by decide +kernel, by decide +kernel⟩, List.mem_of_getElem? (i := 826) (by decide +kernel), List.mem_of_getElem? (i := 995) (by decide +kernel), List.mem_of_getElem? (i := 996) (by decide +kernel)⟩
theorem lw_p28 : lw_okq (⟨"SidingOrdersModel", "isSiding", "(I)Z"⟩, 44) := ⟨⟨by decide +kernel, by decide +kernel⟩, List.mem_of_getElem? (i := 826) (by decide +kernel), List.mem_of_getElem? (i := 1003) (by decide +kernel), List.mem_of_getElem? (i := 1004) (by decide +kernel)⟩
theorem lw_p29 : lw_okq (⟨"SidingOrdersModel", "goes", "(II)Z"⟩, 44) := ⟨⟨by decide +kernel, by decide +kernel⟩, List.mem_of_getElem? (i := 826) (by decide +kernel), List.mem_of_getElem? (i := 1013) (by decide +kernel), List.mem_of_getElem? (i := 1014) (by decide +kernel)⟩
theorem lw_p30 : lw_okq (⟨"SidingOrdersModel", "found", "(III)I"⟩, 44) := ⟨⟨by decide +kernel, by decide +kernel⟩, List.mem_of_getElem? (i := 826) (by decide +kernel), List.mem_of_getElem? (i := 1028) (by decide +kernel), List.mem_of_getElem? (i := 1029) (by decide +kernel)⟩
theorem lw_p31 : lw_okq (⟨"SidingOrdersModel", "findAll", "(I)V"⟩, 44) := ⟨⟨by decide +kernel, by decide +kernel⟩, List.mem_of_getElem? (i := 826) (by decide +kernel), List.mem_of_getElem? (i := 1032) (by decide +kernel), List.mem_of_getElem? (i := 1033) (by decide +kernel)⟩
def lw_privs_2 : List (MethodName × Nat) := [(⟨"SidingOrders$Search", "isAstray", "()Z"⟩, 6), (⟨"SidingOrders$Search", "fits", "(I)Z"⟩, 6), (⟨"SidingOrders", "leastSorted", "(LSidingOrders$Yard;II)I"⟩, 10), (⟨"SidingOrders$Needs", "setLengths", "(LSidingOrders$Yard;I)I"⟩, 3), (⟨"SidingOrders", "aimAtPlay", "()V"⟩, 10), (⟨"SidingOrders$Thumbs", "choose", "(LSidingOrders$Yard;I)I"⟩, 1), (⟨"SidingOrders$Thumbs", "wantedOut", "(LSidingOrders$Yard;)I"⟩, 1), (⟨"SidingOrders$Thumbs", "fromEntry", "(LSidingOrders$Yard;I)I"⟩, 1), (⟨"SidingOrders$Thumbs", "isBelowAll", "(II)Z"⟩, 1), (⟨"SidingOrders$Thumbs", "onward", "(LSidingOrders$Yard;)I"⟩, 1), (⟨"SidingOrders", "imageAt", "(I)LSidingOrders$Image;"⟩, 10), (⟨"SidingOrdersModel", "forget", "()V"⟩, 44), (⟨"SidingOrdersModel", "isSiding", "(I)Z"⟩, 44), (⟨"SidingOrdersModel", "goes", "(II)Z"⟩, 44), (⟨"SidingOrdersModel", "found", "(III)I"⟩, 44), (⟨"SidingOrdersModel", "findAll", "(I)V"⟩, 44)]
theorem lw_r2 : ∀ q ∈ lw_privs_2, lw_okq q := List.forall_mem_cons.mpr ⟨lw_p16, List.forall_mem_cons.mpr ⟨lw_p17, List.forall_mem_cons.mpr ⟨lw_p18, List.forall_mem_cons.mpr ⟨lw_p19, List.forall_mem_cons.mpr ⟨lw_p20, List.forall_mem_cons.mpr ⟨lw_p21, List.forall_mem_cons.mpr ⟨lw_p22, List.forall_mem_cons.mpr ⟨lw_p23, List.forall_mem_cons.mpr ⟨lw_p24, List.forall_mem_cons.mpr ⟨lw_p25, List.forall_mem_cons.mpr ⟨lw_p26, List.forall_mem_cons.mpr ⟨lw_p27, List.forall_mem_cons.mpr ⟨lw_p28, List.forall_mem_cons.mpr ⟨lw_p29, List.forall_mem_cons.mpr ⟨lw_p30, List.forall_mem_cons.mpr ⟨lw_p31, fun _ h => absurd h List.not_mem_nil⟩⟩⟩⟩⟩⟩⟩⟩⟩⟩⟩⟩⟩⟩⟩⟩
theorem lw_p32 : lw_okq (⟨"SidingOrdersModel", "search", "(II)I"⟩, 44) := ⟨⟨by decide +kernel, by decide +kernel⟩, List.mem_of_getElem? (i := 826) (by decide +kernel), List.mem_of_getElem? (i := 1036) (by decide +kernel), List.mem_of_getElem? (i := 1037) (by decide +kernel)⟩
theorem lw_p33 : lw_okq (⟨"SidingOrdersModel", "decode", "(I)V"⟩, 44) := ⟨⟨by decide +kernel, by decide +kernel⟩, List.mem_of_getElem? (i := 826) (by decide +kernel), List.mem_of_getElem? (i := 1040) (by decide +kernel), List.mem_of_getElem? (i := 1041) (by decide +kernel)⟩
theorem lw_p34 : lw_okq (⟨"SidingOrdersModel", "putNear", "(II)V"⟩, 44) := ⟨⟨by decide +kernel, by decide +kernel⟩, List.mem_of_getElem? (i := 826) (by decide +kernel), List.mem_of_getElem? (i := 1044) (by decide +kernel), List.mem_of_getElem? (i := 1045) (by decide +kernel)⟩
theorem lw_p35 : lw_okq (⟨"SidingOrdersModel", "isWanted", "()Z"⟩, 44) := ⟨⟨by decide +kernel, by decide +kernel⟩, List.mem_of_getElem? (i := 826) (by decide +kernel), List.mem_of_getElem? (i := 1048) (by decide +kernel), List.mem_of_getElem? (i := 1049) (by decide +kernel)⟩
theorem lw_p36 : lw_okq (⟨"SidingOrdersModel", "come", "(IIJ)V"⟩, 44) := ⟨⟨by decide +kernel, by decide +kernel⟩, List.mem_of_getElem? (i := 826) (by decide +kernel), List.mem_of_getElem? (i := 1052) (by decide +kernel), List.mem_of_getElem? (i := 1053) (by decide +kernel)⟩
theorem lw_p37 : lw_okq (⟨"SidingOrdersModel", "slotOf", "(I)I"⟩, 44) := ⟨⟨by decide +kernel, by decide +kernel⟩, List.mem_of_getElem? (i := 826) (by decide +kernel), List.mem_of_getElem? (i := 1056) (by decide +kernel), List.mem_of_getElem? (i := 1057) (by decide +kernel)⟩
theorem lw_p38 : lw_okq (⟨"SidingOrdersModel", "spread", "(II)V"⟩, 44) := ⟨⟨by decide +kernel, by decide +kernel⟩, List.mem_of_getElem? (i := 826) (by decide +kernel), List.mem_of_getElem? (i := 1063) (by decide +kernel), List.mem_of_getElem? (i := 1064) (by decide +kernel)⟩
theorem lw_p39 : lw_okq (⟨"SidingOrdersModel", "canMove", "(IIIII)Z"⟩, 44) := ⟨⟨by decide +kernel, by decide +kernel⟩, List.mem_of_getElem? (i := 826) (by decide +kernel), List.mem_of_getElem? (i := 1067) (by decide +kernel), List.mem_of_getElem? (i := 1068) (by decide +kernel)⟩
theorem lw_p40 : lw_okq (⟨"SidingOrdersModel", "isOut", "(II)Z"⟩, 44) := ⟨⟨by decide +kernel, by decide +kernel⟩, List.mem_of_getElem? (i := 826) (by decide +kernel), List.mem_of_getElem? (i := 1071) (by decide +kernel), List.mem_of_getElem? (i := 1072) (by decide +kernel)⟩
theorem lw_p41 : lw_okq (⟨"SidingOrdersModel", "isIn", "(II)Z"⟩, 44) := ⟨⟨by decide +kernel, by decide +kernel⟩, List.mem_of_getElem? (i := 826) (by decide +kernel), List.mem_of_getElem? (i := 1075) (by decide +kernel), List.mem_of_getElem? (i := 1076) (by decide +kernel)⟩
theorem lw_p42 : lw_okq (⟨"SidingOrdersModel", "doMove", "(IIII)V"⟩, 44) := ⟨⟨by decide +kernel, by decide +kernel⟩, List.mem_of_getElem? (i := 826) (by decide +kernel), List.mem_of_getElem? (i := 1079) (by decide +kernel), List.mem_of_getElem? (i := 1080) (by decide +kernel)⟩
theorem lw_p43 : lw_okq (⟨"SidingOrdersModel", "takeNear", "(I)I"⟩, 44) := ⟨⟨by decide +kernel, by decide +kernel⟩, List.mem_of_getElem? (i := 826) (by decide +kernel), List.mem_of_getElem? (i := 1083) (by decide +kernel), List.mem_of_getElem? (i := 1084) (by decide +kernel)⟩
theorem lw_p44 : lw_okq (⟨"SidingOrdersModel", "takeFar", "(I)I"⟩, 44) := ⟨⟨by decide +kernel, by decide +kernel⟩, List.mem_of_getElem? (i := 826) (by decide +kernel), List.mem_of_getElem? (i := 1087) (by decide +kernel), List.mem_of_getElem? (i := 1088) (by decide +kernel)⟩
theorem lw_p45 : lw_okq (⟨"SidingOrdersModel", "putFar", "(II)V"⟩, 44) := ⟨⟨by decide +kernel, by decide +kernel⟩, List.mem_of_getElem? (i := 826) (by decide +kernel), List.mem_of_getElem? (i := 1091) (by decide +kernel), List.mem_of_getElem? (i := 1092) (by decide +kernel)⟩
theorem lw_p46 : lw_okq (⟨"SidingOrdersModel", "encode", "()I"⟩, 44) := ⟨⟨by decide +kernel, by decide +kernel⟩, List.mem_of_getElem? (i := 826) (by decide +kernel), List.mem_of_getElem? (i := 1095) (by decide +kernel), List.mem_of_getElem? (i := 1096) (by decide +kernel)⟩
theorem lw_p47 : lw_okq (⟨"SidingOrdersModel", "rankOf", "(I)I"⟩, 44) := ⟨⟨by decide +kernel, by decide +kernel⟩, List.mem_of_getElem? (i := 826) (by decide +kernel), List.mem_of_getElem? (i := 1099) (by decide +kernel), List.mem_of_getElem? (i := 1100) (by decide +kernel)⟩
def lw_privs_3 : List (MethodName × Nat) := [(⟨"SidingOrdersModel", "search", "(II)I"⟩, 44), (⟨"SidingOrdersModel", "decode", "(I)V"⟩, 44), (⟨"SidingOrdersModel", "putNear", "(II)V"⟩, 44), (⟨"SidingOrdersModel", "isWanted", "()Z"⟩, 44), (⟨"SidingOrdersModel", "come", "(IIJ)V"⟩, 44), (⟨"SidingOrdersModel", "slotOf", "(I)I"⟩, 44), (⟨"SidingOrdersModel", "spread", "(II)V"⟩, 44), (⟨"SidingOrdersModel", "canMove", "(IIIII)Z"⟩, 44), (⟨"SidingOrdersModel", "isOut", "(II)Z"⟩, 44), (⟨"SidingOrdersModel", "isIn", "(II)Z"⟩, 44), (⟨"SidingOrdersModel", "doMove", "(IIII)V"⟩, 44), (⟨"SidingOrdersModel", "takeNear", "(I)I"⟩, 44), (⟨"SidingOrdersModel", "takeFar", "(I)I"⟩, 44), (⟨"SidingOrdersModel", "putFar", "(II)V"⟩, 44), (⟨"SidingOrdersModel", "encode", "()I"⟩, 44), (⟨"SidingOrdersModel", "rankOf", "(I)I"⟩, 44)]
theorem lw_r3 : ∀ q ∈ lw_privs_3, lw_okq q := List.forall_mem_cons.mpr ⟨lw_p32, List.forall_mem_cons.mpr ⟨lw_p33, List.forall_mem_cons.mpr ⟨lw_p34, List.forall_mem_cons.mpr ⟨lw_p35, List.forall_mem_cons.mpr ⟨lw_p36, List.forall_mem_cons.mpr ⟨lw_p37, List.forall_mem_cons.mpr ⟨lw_p38, List.forall_mem_cons.mpr ⟨lw_p39, List.forall_mem_cons.mpr ⟨lw_p40, List.forall_mem_cons.mpr ⟨lw_p41, List.forall_mem_cons.mpr ⟨lw_p42, List.forall_mem_cons.mpr ⟨lw_p43, List.forall_mem_cons.mpr ⟨lw_p44, List.forall_mem_cons.mpr ⟨lw_p45, List.forall_mem_cons.mpr ⟨lw_p46, List.forall_mem_cons.mpr ⟨lw_p47, fun _ h => absurd h List.not_mem_nil⟩⟩⟩⟩⟩⟩⟩⟩⟩⟩⟩⟩⟩⟩⟩⟩
theorem lw_p48 : lw_okq (⟨"SidingOrdersModel", "layTrain", "(II)V"⟩, 44) := ⟨⟨by decide +kernel, by decide +kernel⟩, List.mem_of_getElem? (i := 826) (by decide +kernel), List.mem_of_getElem? (i := 1103) (by decide +kernel), List.mem_of_getElem? (i := 1104) (by decide +kernel)⟩
theorem lw_p49 : lw_okq (⟨"SidingOrdersModel", "layOrder", "(II)V"⟩, 44) := ⟨⟨by decide +kernel, by decide +kernel⟩, List.mem_of_getElem? (i := 826) (by decide +kernel), List.mem_of_getElem? (i := 1110) (by decide +kernel), List.mem_of_getElem? (i := 1111) (by decide +kernel)⟩
theorem lw_p50 : lw_okq (⟨"SidingOrdersModel", "placeOf", "(II)I"⟩, 44) := ⟨⟨by decide +kernel, by decide +kernel⟩, List.mem_of_getElem? (i := 826) (by decide +kernel), List.mem_of_getElem? (i := 1114) (by decide +kernel), List.mem_of_getElem? (i := 1115) (by decide +kernel)⟩
theorem lw_p51 : lw_okq (⟨"SidingOrdersModel", "want", "(III)V"⟩, 44) := ⟨⟨by decide +kernel, by decide +kernel⟩, List.mem_of_getElem? (i := 826) (by decide +kernel), List.mem_of_getElem? (i := 1127) (by decide +kernel), List.mem_of_getElem? (i := 1128) (by decide +kernel)⟩
theorem lw_p52 : lw_okq (⟨"SidingOrdersModel", "nextOf", "(III)I"⟩, 44) := ⟨⟨by decide +kernel, by decide +kernel⟩, List.mem_of_getElem? (i := 826) (by decide +kernel), List.mem_of_getElem? (i := 1131) (by decide +kernel), List.mem_of_getElem? (i := 1132) (by decide +kernel)⟩
theorem lw_p53 : lw_okq (⟨"SidingOrdersModel", "isMove", "(IIII)Z"⟩, 44) := ⟨⟨by decide +kernel, by decide +kernel⟩, List.mem_of_getElem? (i := 826) (by decide +kernel), List.mem_of_getElem? (i := 1135) (by decide +kernel), List.mem_of_getElem? (i := 1136) (by decide +kernel)⟩
theorem lw_p54 : lw_okq (⟨"SidingOrdersModel", "moved", "(II)I"⟩, 44) := ⟨⟨by decide +kernel, by decide +kernel⟩, List.mem_of_getElem? (i := 826) (by decide +kernel), List.mem_of_getElem? (i := 1139) (by decide +kernel), List.mem_of_getElem? (i := 1140) (by decide +kernel)⟩
theorem lw_p55 : lw_okq (⟨"SidingOrdersModel", "layRow", "(II)V"⟩, 44) := ⟨⟨by decide +kernel, by decide +kernel⟩, List.mem_of_getElem? (i := 826) (by decide +kernel), List.mem_of_getElem? (i := 1150) (by decide +kernel), List.mem_of_getElem? (i := 1151) (by decide +kernel)⟩
theorem lw_p56 : lw_okq (⟨"SidingOrdersModel", "insert", "(II)V"⟩, 44) := ⟨⟨by decide +kernel, by decide +kernel⟩, List.mem_of_getElem? (i := 826) (by decide +kernel), List.mem_of_getElem? (i := 1154) (by decide +kernel), List.mem_of_getElem? (i := 1155) (by decide +kernel)⟩
theorem lw_p57 : lw_okq (⟨"SidingOrdersModel", "trainOf", "(II)I"⟩, 44) := ⟨⟨by decide +kernel, by decide +kernel⟩, List.mem_of_getElem? (i := 826) (by decide +kernel), List.mem_of_getElem? (i := 1165) (by decide +kernel), List.mem_of_getElem? (i := 1166) (by decide +kernel)⟩
theorem lw_p58 : lw_okq (⟨"SidingOrdersModel", "sortFar", "(II)I"⟩, 44) := ⟨⟨by decide +kernel, by decide +kernel⟩, List.mem_of_getElem? (i := 826) (by decide +kernel), List.mem_of_getElem? (i := 1169) (by decide +kernel), List.mem_of_getElem? (i := 1170) (by decide +kernel)⟩
theorem lw_p59 : lw_okq (⟨"SidingOrdersModel", "sortedOf", "(I)I"⟩, 44) := ⟨⟨by decide +kernel, by decide +kernel⟩, List.mem_of_getElem? (i := 826) (by decide +kernel), List.mem_of_getElem? (i := 1173) (by decide +kernel), List.mem_of_getElem? (i := 1174) (by decide +kernel)⟩
theorem lw_p60 : lw_okq (⟨"SidingOrdersModel", "findNeed", "(II)I"⟩, 44) := ⟨⟨by decide +kernel, by decide +kernel⟩, List.mem_of_getElem? (i := 826) (by decide +kernel), List.mem_of_getElem? (i := 1189) (by decide +kernel), List.mem_of_getElem? (i := 1190) (by decide +kernel)⟩
theorem lw_p61 : lw_okq (⟨"SidingOrdersModel", "changeAbout", "()V"⟩, 44) := ⟨⟨by decide +kernel, by decide +kernel⟩, List.mem_of_getElem? (i := 826) (by decide +kernel), List.mem_of_getElem? (i := 1201) (by decide +kernel), List.mem_of_getElem? (i := 1202) (by decide +kernel)⟩
theorem lw_p62 : lw_okq (⟨"SidingOrdersModel", "restOf", "()I"⟩, 44) := ⟨⟨by decide +kernel, by decide +kernel⟩, List.mem_of_getElem? (i := 826) (by decide +kernel), List.mem_of_getElem? (i := 1221) (by decide +kernel), List.mem_of_getElem? (i := 1222) (by decide +kernel)⟩
theorem lw_p63 : lw_okq (⟨"SidingOrdersModel", "thumbed", "(III)I"⟩, 44) := ⟨⟨by decide +kernel, by decide +kernel⟩, List.mem_of_getElem? (i := 826) (by decide +kernel), List.mem_of_getElem? (i := 1242) (by decide +kernel), List.mem_of_getElem? (i := 1243) (by decide +kernel)⟩
def lw_privs_4 : List (MethodName × Nat) := [(⟨"SidingOrdersModel", "layTrain", "(II)V"⟩, 44), (⟨"SidingOrdersModel", "layOrder", "(II)V"⟩, 44), (⟨"SidingOrdersModel", "placeOf", "(II)I"⟩, 44), (⟨"SidingOrdersModel", "want", "(III)V"⟩, 44), (⟨"SidingOrdersModel", "nextOf", "(III)I"⟩, 44), (⟨"SidingOrdersModel", "isMove", "(IIII)Z"⟩, 44), (⟨"SidingOrdersModel", "moved", "(II)I"⟩, 44), (⟨"SidingOrdersModel", "layRow", "(II)V"⟩, 44), (⟨"SidingOrdersModel", "insert", "(II)V"⟩, 44), (⟨"SidingOrdersModel", "trainOf", "(II)I"⟩, 44), (⟨"SidingOrdersModel", "sortFar", "(II)I"⟩, 44), (⟨"SidingOrdersModel", "sortedOf", "(I)I"⟩, 44), (⟨"SidingOrdersModel", "findNeed", "(II)I"⟩, 44), (⟨"SidingOrdersModel", "changeAbout", "()V"⟩, 44), (⟨"SidingOrdersModel", "restOf", "()I"⟩, 44), (⟨"SidingOrdersModel", "thumbed", "(III)I"⟩, 44)]
theorem lw_r4 : ∀ q ∈ lw_privs_4, lw_okq q := List.forall_mem_cons.mpr ⟨lw_p48, List.forall_mem_cons.mpr ⟨lw_p49, List.forall_mem_cons.mpr ⟨lw_p50, List.forall_mem_cons.mpr ⟨lw_p51, List.forall_mem_cons.mpr ⟨lw_p52, List.forall_mem_cons.mpr ⟨lw_p53, List.forall_mem_cons.mpr ⟨lw_p54, List.forall_mem_cons.mpr ⟨lw_p55, List.forall_mem_cons.mpr ⟨lw_p56, List.forall_mem_cons.mpr ⟨lw_p57, List.forall_mem_cons.mpr ⟨lw_p58, List.forall_mem_cons.mpr ⟨lw_p59, List.forall_mem_cons.mpr ⟨lw_p60, List.forall_mem_cons.mpr ⟨lw_p61, List.forall_mem_cons.mpr ⟨lw_p62, List.forall_mem_cons.mpr ⟨lw_p63, fun _ h => absurd h List.not_mem_nil⟩⟩⟩⟩⟩⟩⟩⟩⟩⟩⟩⟩⟩⟩⟩⟩
theorem lw_p64 : lw_okq (⟨"SidingOrdersModel", "letOut", "(I)Z"⟩, 44) := ⟨⟨by decide +kernel, by decide +kernel⟩, List.mem_of_getElem? (i := 826) (by decide +kernel), List.mem_of_getElem? (i := 1246) (by decide +kernel), List.mem_of_getElem? (i := 1247) (by decide +kernel)⟩
theorem lw_p65 : lw_okq (⟨"SidingOrdersModel", "wagonAt", "(I)I"⟩, 44) := ⟨⟨by decide +kernel, by decide +kernel⟩, List.mem_of_getElem? (i := 826) (by decide +kernel), List.mem_of_getElem? (i := 1250) (by decide +kernel), List.mem_of_getElem? (i := 1251) (by decide +kernel)⟩
theorem lw_p66 : lw_okq (⟨"SidingOrdersModel", "goIn", "(II)Z"⟩, 44) := ⟨⟨by decide +kernel, by decide +kernel⟩, List.mem_of_getElem? (i := 826) (by decide +kernel), List.mem_of_getElem? (i := 1254) (by decide +kernel), List.mem_of_getElem? (i := 1255) (by decide +kernel)⟩
theorem lw_p67 : lw_okq (⟨"SidingOrdersModel", "chosen", "(II)I"⟩, 44) := ⟨⟨by decide +kernel, by decide +kernel⟩, List.mem_of_getElem? (i := 826) (by decide +kernel), List.mem_of_getElem? (i := 1258) (by decide +kernel), List.mem_of_getElem? (i := 1259) (by decide +kernel)⟩
theorem lw_p68 : lw_okq (⟨"SidingOrdersModel", "hasRoom", "(I)Z"⟩, 44) := ⟨⟨by decide +kernel, by decide +kernel⟩, List.mem_of_getElem? (i := 826) (by decide +kernel), List.mem_of_getElem? (i := 1262) (by decide +kernel), List.mem_of_getElem? (i := 1263) (by decide +kernel)⟩
theorem lw_p69 : lw_okq (⟨"SidingOrdersModel", "areHigher", "(II)Z"⟩, 44) := ⟨⟨by decide +kernel, by decide +kernel⟩, List.mem_of_getElem? (i := 826) (by decide +kernel), List.mem_of_getElem? (i := 1266) (by decide +kernel), List.mem_of_getElem? (i := 1267) (by decide +kernel)⟩
theorem lw_p70 : lw_okq (⟨"SidingOrdersModel", "goOn", "(I)Z"⟩, 44) := ⟨⟨by decide +kernel, by decide +kernel⟩, List.mem_of_getElem? (i := 826) (by decide +kernel), List.mem_of_getElem? (i := 1270) (by decide +kernel), List.mem_of_getElem? (i := 1271) (by decide +kernel)⟩
theorem lw_p71 : lw_okq (⟨"SidingOrdersModel", "passAll", "()V"⟩, 44) := ⟨⟨by decide +kernel, by decide +kernel⟩, List.mem_of_getElem? (i := 826) (by decide +kernel), List.mem_of_getElem? (i := 1288) (by decide +kernel), List.mem_of_getElem? (i := 1289) (by decide +kernel)⟩
theorem lw_p72 : lw_okq (⟨"SidingOrdersModel", "pass", "(I)I"⟩, 44) := ⟨⟨by decide +kernel, by decide +kernel⟩, List.mem_of_getElem? (i := 826) (by decide +kernel), List.mem_of_getElem? (i := 1292) (by decide +kernel), List.mem_of_getElem? (i := 1293) (by decide +kernel)⟩
def lw_privs_5 : List (MethodName × Nat) := [(⟨"SidingOrdersModel", "letOut", "(I)Z"⟩, 44), (⟨"SidingOrdersModel", "wagonAt", "(I)I"⟩, 44), (⟨"SidingOrdersModel", "goIn", "(II)Z"⟩, 44), (⟨"SidingOrdersModel", "chosen", "(II)I"⟩, 44), (⟨"SidingOrdersModel", "hasRoom", "(I)Z"⟩, 44), (⟨"SidingOrdersModel", "areHigher", "(II)Z"⟩, 44), (⟨"SidingOrdersModel", "goOn", "(I)Z"⟩, 44), (⟨"SidingOrdersModel", "passAll", "()V"⟩, 44), (⟨"SidingOrdersModel", "pass", "(I)I"⟩, 44)]
theorem lw_r5 : ∀ q ∈ lw_privs_5, lw_okq q := List.forall_mem_cons.mpr ⟨lw_p64, List.forall_mem_cons.mpr ⟨lw_p65, List.forall_mem_cons.mpr ⟨lw_p66, List.forall_mem_cons.mpr ⟨lw_p67, List.forall_mem_cons.mpr ⟨lw_p68, List.forall_mem_cons.mpr ⟨lw_p69, List.forall_mem_cons.mpr ⟨lw_p70, List.forall_mem_cons.mpr ⟨lw_p71, List.forall_mem_cons.mpr ⟨lw_p72, fun _ h => absurd h List.not_mem_nil⟩⟩⟩⟩⟩⟩⟩⟩⟩
def lw_privs : List (MethodName × Nat) := lw_privs_1 ++ (lw_privs_2 ++ (lw_privs_3 ++ (lw_privs_4 ++ (lw_privs_5))))
def lw_tbl : List Cond := k2_sels lw_privs ++ tables_1
theorem lw_privs_ok : ∀ q ∈ lw_privs, lw_okq q := by
  show ∀ q ∈ lw_privs_1 ++ (lw_privs_2 ++ (lw_privs_3 ++ (lw_privs_4 ++ (lw_privs_5)))), lw_okq q
  exact List.forall_mem_append.mpr ⟨lw_r1, List.forall_mem_append.mpr ⟨lw_r2, List.forall_mem_append.mpr ⟨lw_r3, List.forall_mem_append.mpr ⟨lw_r4, lw_r5⟩⟩⟩⟩
-- ===== end of PART A; then your names; then what follows =====
end
section
/-! ===== END ===== -/

/-! ===== BEGIN printed: names, fields, word lists, decode rows ===== -/
def RX0 : String := "SidingOrders$Image"
def TX0 : u_T := fun k => match k with
  | 0 => ("SidingOrders$Image", "kept", "Z", false)
  | 1 => ("SidingOrders$Image", "yard", "LSidingOrders$Yard;", true)
  | 2 => ("SidingOrders$Image", "other", "LSidingOrders$Yard;", true)
  | _ => ("SidingOrders$Image", "play", "LSidingOrders$Play;", true)
def tyX0 : Nat → FieldType := fun k => match k with
  | 0 => .boolean
  | 1 => .object "SidingOrders$Yard"
  | 2 => .object "SidingOrders$Yard"
  | _ => .object "SidingOrders$Play"
abbrev wsX00 : List Cond := u_ws RX0 TX0 4
theorem nmX0 : ∀ a, a < 4 → ∀ b, b < 4 → a ≠ b → (TX0 a).2.1 ≠ (TX0 b).2.1 := by decide +kernel
theorem tyX0_ok : ∀ k, k < 4 → parseFieldDescriptor (TX0 k).2.2.1 = some (tyX0 k) := by decide +kernel
abbrev cX0_init : ByteArray := prog_2_method_1_code
def yX0_init : MethodName := ⟨RX0, "<init>", "()V"⟩
def RX1 : String := "SidingOrders$Needs"
def TX1 : u_T := fun k => match k with
  | 0 => ("SidingOrders$Needs", "train", "I", false)
  | 1 => ("SidingOrders$Needs", "sum", "I", false)
  | _ => ("SidingOrders$Needs", "narrow", "LSidingOrders$Yard;", true)
def tyX1 : Nat → FieldType := fun k => match k with
  | 0 => .int
  | 1 => .int
  | _ => .object "SidingOrders$Yard"
abbrev wsX10 : List Cond := u_ws RX1 TX1 3
theorem nmX1 : ∀ a, a < 3 → ∀ b, b < 3 → a ≠ b → (TX1 a).2.1 ≠ (TX1 b).2.1 := by decide +kernel
theorem tyX1_ok : ∀ k, k < 3 → parseFieldDescriptor (TX1 k).2.2.1 = some (tyX1 k) := by decide +kernel
abbrev cX1_init : ByteArray := prog_3_method_1_code
def yX1_init : MethodName := ⟨RX1, "<init>", "()V"⟩
abbrev cX1_find : ByteArray := prog_3_method_2_code
def yX1_find : MethodName := ⟨RX1, "find", "(LSidingOrders$Yard;LSidingOrders$Search;II)V"⟩
abbrev cX1_setLengths : ByteArray := prog_3_method_3_code
def yX1_setLengths : MethodName := ⟨RX1, "setLengths", "(LSidingOrders$Yard;I)I"⟩
def RX2 : String := "SidingOrders$Outcomes"
def TX2 : u_T := fun k => match k with
  | 0 => ("SidingOrders$Outcomes", "surveyed", "I", false)
  | 1 => ("SidingOrders$Outcomes", "least", "[I", true)
  | _ => ("SidingOrders$Outcomes", "ways", "[J", true)
def tyX2 : Nat → FieldType := fun k => match k with
  | 0 => .int
  | 1 => .array .int
  | _ => .array .long
abbrev wsX20 : List Cond := u_ws RX2 TX2 3
theorem nmX2 : ∀ a, a < 3 → ∀ b, b < 3 → a ≠ b → (TX2 a).2.1 ≠ (TX2 b).2.1 := by decide +kernel
theorem tyX2_ok : ∀ k, k < 3 → parseFieldDescriptor (TX2 k).2.2.1 = some (tyX2 k) := by decide +kernel
abbrev cX2_init : ByteArray := prog_4_method_1_code
def yX2_init : MethodName := ⟨RX2, "<init>", "()V"⟩
abbrev cX2_forget : ByteArray := prog_4_method_2_code
def yX2_forget : MethodName := ⟨RX2, "forget", "()V"⟩
abbrev cX2_copyFrom : ByteArray := prog_4_method_3_code
def yX2_copyFrom : MethodName := ⟨RX2, "copyFrom", "(LSidingOrders$Outcomes;)V"⟩
abbrev cX2_know : ByteArray := prog_4_method_4_code
def yX2_know : MethodName := ⟨RX2, "know", "(I)Z"⟩
abbrev cX2_nowKnow : ByteArray := prog_4_method_5_code
def yX2_nowKnow : MethodName := ⟨RX2, "nowKnow", "(I)V"⟩
abbrev cX2_cellOf : ByteArray := prog_4_method_6_code
def yX2_cellOf : MethodName := ⟨RX2, "cellOf", "(II)I"⟩
abbrev cX2_note : ByteArray := prog_4_method_7_code
def yX2_note : MethodName := ⟨RX2, "note", "(IIIJ)V"⟩
abbrev cX2_leastOf : ByteArray := prog_4_method_8_code
def yX2_leastOf : MethodName := ⟨RX2, "leastOf", "(II)I"⟩
abbrev cX2_waysOf : ByteArray := prog_4_method_9_code
def yX2_waysOf : MethodName := ⟨RX2, "waysOf", "(II)J"⟩
def RX3 : String := "SidingOrders$Pad"
def TX3 : u_T := fun k => match k with
  | 0 => ("SidingOrders$Pad", "signs", "[I", true)
  | _ => ("SidingOrders$Pad", "count", "I", false)
def tyX3 : Nat → FieldType := fun k => match k with
  | 0 => .array .int
  | _ => .int
abbrev wsX30 : List Cond := u_ws RX3 TX3 2
theorem nmX3 : ∀ a, a < 2 → ∀ b, b < 2 → a ≠ b → (TX3 a).2.1 ≠ (TX3 b).2.1 := by decide +kernel
theorem tyX3_ok : ∀ k, k < 2 → parseFieldDescriptor (TX3 k).2.2.1 = some (tyX3 k) := by decide +kernel
abbrev cX3_init : ByteArray := prog_5_method_1_code
def yX3_init : MethodName := ⟨RX3, "<init>", "()V"⟩
abbrev cX3_add : ByteArray := prog_5_method_2_code
def yX3_add : MethodName := ⟨RX3, "add", "(I)Z"⟩
abbrev cX3_clear : ByteArray := prog_5_method_3_code
def yX3_clear : MethodName := ⟨RX3, "clear", "()V"⟩
abbrev cX3_signAt : ByteArray := prog_5_method_4_code
def yX3_signAt : MethodName := ⟨RX3, "signAt", "(I)I"⟩
abbrev cX3_isLetter : ByteArray := prog_5_method_5_code
def yX3_isLetter : MethodName := ⟨RX3, "isLetter", "(I)Z"⟩
abbrev cX3_faultAt : ByteArray := prog_5_method_6_code
def yX3_faultAt : MethodName := ⟨RX3, "faultAt", "()I"⟩
abbrev cX3_layOut : ByteArray := prog_5_method_7_code
def yX3_layOut : MethodName := ⟨RX3, "layOut", "(LSidingOrders$Yard;)V"⟩
def RX4 : String := "SidingOrders$Places"
def TX4 : u_T := fun k => match k with
  | 0 => ("SidingOrders$Places", "rows", "[I", true)
  | _ => ("SidingOrders$Places", "counts", "[I", true)
def tyX4 : Nat → FieldType := fun k => match k with
  | 0 => .array .int
  | _ => .array .int
abbrev wsX40 : List Cond := u_ws RX4 TX4 2
theorem nmX4 : ∀ a, a < 2 → ∀ b, b < 2 → a ≠ b → (TX4 a).2.1 ≠ (TX4 b).2.1 := by decide +kernel
theorem tyX4_ok : ∀ k, k < 2 → parseFieldDescriptor (TX4 k).2.2.1 = some (tyX4 k) := by decide +kernel
abbrev cX4_init : ByteArray := prog_6_method_1_code
def yX4_init : MethodName := ⟨RX4, "<init>", "()V"⟩
abbrev cX4_begin : ByteArray := prog_6_method_2_code
def yX4_begin : MethodName := ⟨RX4, "begin", "(II)V"⟩
abbrev cX4_copyFrom : ByteArray := prog_6_method_3_code
def yX4_copyFrom : MethodName := ⟨RX4, "copyFrom", "(LSidingOrders$Places;)V"⟩
abbrev cX4_rowAt : ByteArray := prog_6_method_4_code
def yX4_rowAt : MethodName := ⟨RX4, "rowAt", "(I)I"⟩
abbrev cX4_countAt : ByteArray := prog_6_method_5_code
def yX4_countAt : MethodName := ⟨RX4, "countAt", "(I)I"⟩
abbrev cX4_isFarPut : ByteArray := prog_6_method_6_code
def yX4_isFarPut : MethodName := ⟨RX4, "isFarPut", "(I)Z"⟩
abbrev cX4_isFarTake : ByteArray := prog_6_method_7_code
def yX4_isFarTake : MethodName := ⟨RX4, "isFarTake", "(I)Z"⟩
abbrev cX4_allows : ByteArray := prog_6_method_8_code
def yX4_allows : MethodName := ⟨RX4, "allows", "(LSidingOrders$Yard;I)Z"⟩
abbrev cX4_wagonOf : ByteArray := prog_6_method_9_code
def yX4_wagonOf : MethodName := ⟨RX4, "wagonOf", "(I)I"⟩
abbrev cX4_shift : ByteArray := prog_6_method_10_code
def yX4_shift : MethodName := ⟨RX4, "shift", "(I)V"⟩
abbrev cX4_unshift : ByteArray := prog_6_method_11_code
def yX4_unshift : MethodName := ⟨RX4, "unshift", "(I)V"⟩
abbrev cX4_take : ByteArray := prog_6_method_12_code
def yX4_take : MethodName := ⟨RX4, "take", "(IZ)I"⟩
abbrev cX4_put : ByteArray := prog_6_method_13_code
def yX4_put : MethodName := ⟨RX4, "put", "(IIZ)V"⟩
abbrev cX4_placeOfList : ByteArray := prog_6_method_14_code
def yX4_placeOfList : MethodName := ⟨RX4, "placeOfList", "(II)I"⟩
abbrev cX4_index : ByteArray := prog_6_method_15_code
def yX4_index : MethodName := ⟨RX4, "index", "(I)I"⟩
abbrev cX4_indices : ByteArray := prog_6_method_16_code
def yX4_indices : MethodName := ⟨RX4, "indices", "(II)I"⟩
abbrev cX4_setUp : ByteArray := prog_6_method_17_code
def yX4_setUp : MethodName := ⟨RX4, "setUp", "(III)V"⟩
abbrev cX4_insert : ByteArray := prog_6_method_18_code
def yX4_insert : MethodName := ⟨RX4, "insert", "(III)V"⟩
abbrev cX4_insertAt : ByteArray := prog_6_method_19_code
def yX4_insertAt : MethodName := ⟨RX4, "insertAt", "(III)V"⟩
def RX5 : String := "SidingOrders$Play"
def TX5 : u_T := fun k => match k with
  | 0 => ("SidingOrders$Play", "on", "Z", false)
  | 1 => ("SidingOrders$Play", "train", "I", false)
  | 2 => ("SidingOrders$Play", "order", "I", false)
  | 3 => ("SidingOrders$Play", "wagons", "I", false)
  | 4 => ("SidingOrders$Play", "done", "I", false)
  | 5 => ("SidingOrders$Play", "rows", "[I", true)
  | _ => ("SidingOrders$Play", "places", "LSidingOrders$Places;", true)
def tyX5 : Nat → FieldType := fun k => match k with
  | 0 => .boolean
  | 1 => .int
  | 2 => .int
  | 3 => .int
  | 4 => .int
  | 5 => .array .int
  | _ => .object "SidingOrders$Places"
abbrev wsX50 : List Cond := u_ws RX5 TX5 7
theorem nmX5 : ∀ a, a < 7 → ∀ b, b < 7 → a ≠ b → (TX5 a).2.1 ≠ (TX5 b).2.1 := by decide +kernel
theorem tyX5_ok : ∀ k, k < 7 → parseFieldDescriptor (TX5 k).2.2.1 = some (tyX5 k) := by decide +kernel
abbrev cX5_init : ByteArray := prog_7_method_1_code
def yX5_init : MethodName := ⟨RX5, "<init>", "()V"⟩
abbrev cX5_begin : ByteArray := prog_7_method_2_code
def yX5_begin : MethodName := ⟨RX5, "begin", "(III)V"⟩
abbrev cX5_copyFrom : ByteArray := prog_7_method_3_code
def yX5_copyFrom : MethodName := ⟨RX5, "copyFrom", "(LSidingOrders$Play;)V"⟩
abbrev cX5_add : ByteArray := prog_7_method_4_code
def yX5_add : MethodName := ⟨RX5, "add", "(I)Z"⟩
abbrev cX5_takeBack : ByteArray := prog_7_method_5_code
def yX5_takeBack : MethodName := ⟨RX5, "takeBack", "()Z"⟩
def RX6 : String := "SidingOrders$Rows"
def TX6 : u_T := fun k => match k with
  | _ => ("", "", "", false)
def tyX6 : Nat → FieldType := fun k => match k with
  | _ => .int
abbrev wsX60 : List Cond := u_ws RX6 TX6 0
theorem nmX6 : ∀ a, a < 0 → ∀ b, b < 0 → a ≠ b → (TX6 a).2.1 ≠ (TX6 b).2.1 := by decide +kernel
theorem tyX6_ok : ∀ k, k < 0 → parseFieldDescriptor (TX6 k).2.2.1 = some (tyX6 k) := by decide +kernel
abbrev cX6_wagons : ByteArray := prog_8_method_2_code
def yX6_wagons : MethodName := ⟨RX6, "wagons", "(I)I"⟩
abbrev cX6_setUpTo : ByteArray := prog_8_method_3_code
def yX6_setUpTo : MethodName := ⟨RX6, "setUpTo", "(I)I"⟩
abbrev cX6_pick : ByteArray := prog_8_method_4_code
def yX6_pick : MethodName := ⟨RX6, "pick", "(II)I"⟩
abbrev cX6_ofNumber : ByteArray := prog_8_method_5_code
def yX6_ofNumber : MethodName := ⟨RX6, "ofNumber", "(I)I"⟩
abbrev cX6_toNumber : ByteArray := prog_8_method_6_code
def yX6_toNumber : MethodName := ⟨RX6, "toNumber", "(I)I"⟩
abbrev cX6_wagonAt : ByteArray := prog_8_method_7_code
def yX6_wagonAt : MethodName := ⟨RX6, "wagonAt", "(II)I"⟩
abbrev cX6_placeOf : ByteArray := prog_8_method_8_code
def yX6_placeOf : MethodName := ⟨RX6, "placeOf", "(II)I"⟩
abbrev cX6_upTo : ByteArray := prog_8_method_9_code
def yX6_upTo : MethodName := ⟨RX6, "upTo", "(I)I"⟩
abbrev cX6_relative : ByteArray := prog_8_method_10_code
def yX6_relative : MethodName := ⟨RX6, "relative", "(III)I"⟩
abbrev cX6_named : ByteArray := prog_8_method_11_code
def yX6_named : MethodName := ⟨RX6, "named", "(II)I"⟩
abbrev cX6_factorial : ByteArray := prog_8_method_12_code
def yX6_factorial : MethodName := ⟨RX6, "factorial", "(I)I"⟩
abbrev cX6_rankOf : ByteArray := prog_8_method_13_code
def yX6_rankOf : MethodName := ⟨RX6, "rankOf", "(II)I"⟩
abbrev cX6_ofRank : ByteArray := prog_8_method_14_code
def yX6_ofRank : MethodName := ⟨RX6, "ofRank", "(II)I"⟩
def RX7 : String := "SidingOrders$Search"
def TX7 : u_T := fun k => match k with
  | 0 => ("SidingOrders$Search", "known", "[I", true)
  | 1 => ("SidingOrders$Search", "places", "LSidingOrders$Places;", true)
  | 2 => ("SidingOrders$Search", "stamp", "I", false)
  | 3 => ("SidingOrders$Search", "yard", "LSidingOrders$Yard;", false)
  | 4 => ("SidingOrders$Search", "wagons", "I", false)
  | _ => ("SidingOrders$Search", "wanted", "I", false)
def tyX7 : Nat → FieldType := fun k => match k with
  | 0 => .array .int
  | 1 => .object "SidingOrders$Places"
  | 2 => .int
  | 3 => .object "SidingOrders$Yard"
  | 4 => .int
  | _ => .int
abbrev wsX70 : List Cond := u_ws RX7 TX7 6
theorem nmX7 : ∀ a, a < 6 → ∀ b, b < 6 → a ≠ b → (TX7 a).2.1 ≠ (TX7 b).2.1 := by decide +kernel
theorem tyX7_ok : ∀ k, k < 6 → parseFieldDescriptor (TX7 k).2.2.1 = some (tyX7 k) := by decide +kernel
abbrev cX7_init : ByteArray := prog_9_method_1_code
def yX7_init : MethodName := ⟨RX7, "<init>", "(LSidingOrders$Yard;)V"⟩
abbrev cX7_aim : ByteArray := prog_9_method_2_code
def yX7_aim : MethodName := ⟨RX7, "aim", "(LSidingOrders$Yard;II)V"⟩
abbrev cX7_forget : ByteArray := prog_9_method_3_code
def yX7_forget : MethodName := ⟨RX7, "forget", "()V"⟩
abbrev cX7_comesOut : ByteArray := prog_9_method_4_code
def yX7_comesOut : MethodName := ⟨RX7, "comesOut", "()Z"⟩
abbrev cX7_restFrom : ByteArray := prog_9_method_5_code
def yX7_restFrom : MethodName := ⟨RX7, "restFrom", "(LSidingOrders$Places;)I"⟩
abbrev cX7_nextFrom : ByteArray := prog_9_method_6_code
def yX7_nextFrom : MethodName := ⟨RX7, "nextFrom", "(LSidingOrders$Places;)I"⟩
abbrev cX7_firstRow : ByteArray := prog_9_method_7_code
def yX7_firstRow : MethodName := ⟨RX7, "firstRow", "(I)I"⟩
abbrev cX7_fits : ByteArray := prog_9_method_8_code
def yX7_fits : MethodName := ⟨RX7, "fits", "(I)Z"⟩
abbrev cX7_isAstray : ByteArray := prog_9_method_9_code
def yX7_isAstray : MethodName := ⟨RX7, "isAstray", "()Z"⟩
abbrev cX7_bestMove : ByteArray := prog_9_method_10_code
def yX7_bestMove : MethodName := ⟨RX7, "bestMove", "()I"⟩
abbrev cX7_remaining : ByteArray := prog_9_method_11_code
def yX7_remaining : MethodName := ⟨RX7, "remaining", "(LSidingOrders$Search;I)I"⟩
def RX8 : String := "SidingOrders$Survey"
def TX8 : u_T := fun k => match k with
  | 0 => ("SidingOrders$Survey", "steps", "[B", true)
  | 1 => ("SidingOrders$Survey", "rows", "[J", true)
  | _ => ("SidingOrders$Survey", "places", "LSidingOrders$Places;", true)
def tyX8 : Nat → FieldType := fun k => match k with
  | 0 => .array .byte
  | 1 => .array .long
  | _ => .object "SidingOrders$Places"
abbrev wsX80 : List Cond := u_ws RX8 TX8 3
theorem nmX8 : ∀ a, a < 3 → ∀ b, b < 3 → a ≠ b → (TX8 a).2.1 ≠ (TX8 b).2.1 := by decide +kernel
theorem tyX8_ok : ∀ k, k < 3 → parseFieldDescriptor (TX8 k).2.2.1 = some (tyX8 k) := by decide +kernel
abbrev cX8_init : ByteArray := prog_10_method_1_code
def yX8_init : MethodName := ⟨RX8, "<init>", "()V"⟩
abbrev cX8_fill : ByteArray := prog_10_method_2_code
def yX8_fill : MethodName := ⟨RX8, "fill", "(LSidingOrders$Yard;I)V"⟩
abbrev cX8_spread : ByteArray := prog_10_method_3_code
def yX8_spread : MethodName := ⟨RX8, "spread", "(LSidingOrders$Yard;IJ)V"⟩
abbrev cX8_reach : ByteArray := prog_10_method_4_code
def yX8_reach : MethodName := ⟨RX8, "reach", "(IIJ)V"⟩
def RX9 : String := "SidingOrders$Thumbs"
def TX9 : u_T := fun k => match k with
  | _ => ("SidingOrders$Thumbs", "places", "LSidingOrders$Places;", true)
def tyX9 : Nat → FieldType := fun k => match k with
  | _ => .object "SidingOrders$Places"
abbrev wsX90 : List Cond := u_ws RX9 TX9 1
theorem nmX9 : ∀ a, a < 1 → ∀ b, b < 1 → a ≠ b → (TX9 a).2.1 ≠ (TX9 b).2.1 := by decide +kernel
theorem tyX9_ok : ∀ k, k < 1 → parseFieldDescriptor (TX9 k).2.2.1 = some (tyX9 k) := by decide +kernel
abbrev cX9_init : ByteArray := prog_11_method_1_code
def yX9_init : MethodName := ⟨RX9, "<init>", "()V"⟩
abbrev cX9_outInOrder : ByteArray := prog_11_method_2_code
def yX9_outInOrder : MethodName := ⟨RX9, "outInOrder", "(LSidingOrders$Yard;III)I"⟩
abbrev cX9_choose : ByteArray := prog_11_method_3_code
def yX9_choose : MethodName := ⟨RX9, "choose", "(LSidingOrders$Yard;I)I"⟩
abbrev cX9_wantedOut : ByteArray := prog_11_method_4_code
def yX9_wantedOut : MethodName := ⟨RX9, "wantedOut", "(LSidingOrders$Yard;)I"⟩
abbrev cX9_fromEntry : ByteArray := prog_11_method_5_code
def yX9_fromEntry : MethodName := ⟨RX9, "fromEntry", "(LSidingOrders$Yard;I)I"⟩
abbrev cX9_isBelowAll : ByteArray := prog_11_method_6_code
def yX9_isBelowAll : MethodName := ⟨RX9, "isBelowAll", "(II)Z"⟩
abbrev cX9_onward : ByteArray := prog_11_method_7_code
def yX9_onward : MethodName := ⟨RX9, "onward", "(LSidingOrders$Yard;)I"⟩
def RX10 : String := "SidingOrders$Yard"
def TX10 : u_T := fun k => match k with
  | 0 => ("SidingOrders$Yard", "sidings", "I", false)
  | 1 => ("SidingOrders$Yard", "stages", "I", false)
  | 2 => ("SidingOrders$Yard", "moveCount", "I", false)
  | 3 => ("SidingOrders$Yard", "dashes", "I", false)
  | 4 => ("SidingOrders$Yard", "letter", "[I", true)
  | 5 => ("SidingOrders$Yard", "length", "[I", true)
  | 6 => ("SidingOrders$Yard", "stage", "[I", true)
  | 7 => ("SidingOrders$Yard", "numbers", "[I", true)
  | _ => ("SidingOrders$Yard", "outcomes", "LSidingOrders$Outcomes;", true)
def tyX10 : Nat → FieldType := fun k => match k with
  | 0 => .int
  | 1 => .int
  | 2 => .int
  | 3 => .int
  | 4 => .array .int
  | 5 => .array .int
  | 6 => .array .int
  | 7 => .array .int
  | _ => .object "SidingOrders$Outcomes"
abbrev wsX100 : List Cond := u_ws RX10 TX10 9
theorem nmX10 : ∀ a, a < 9 → ∀ b, b < 9 → a ≠ b → (TX10 a).2.1 ≠ (TX10 b).2.1 := by decide +kernel
theorem tyX10_ok : ∀ k, k < 9 → parseFieldDescriptor (TX10 k).2.2.1 = some (tyX10 k) := by decide +kernel
abbrev cX10_init : ByteArray := prog_12_method_1_code
def yX10_init : MethodName := ⟨RX10, "<init>", "()V"⟩
abbrev cX10_clear : ByteArray := prog_12_method_2_code
def yX10_clear : MethodName := ⟨RX10, "clear", "()V"⟩
abbrev cX10_copyFrom : ByteArray := prog_12_method_3_code
def yX10_copyFrom : MethodName := ⟨RX10, "copyFrom", "(LSidingOrders$Yard;)V"⟩
abbrev cX10_addDash : ByteArray := prog_12_method_4_code
def yX10_addDash : MethodName := ⟨RX10, "addDash", "()V"⟩
abbrev cX10_addSiding : ByteArray := prog_12_method_5_code
def yX10_addSiding : MethodName := ⟨RX10, "addSiding", "(II)V"⟩
abbrev cX10_letterAt : ByteArray := prog_12_method_6_code
def yX10_letterAt : MethodName := ⟨RX10, "letterAt", "(I)I"⟩
abbrev cX10_lengthAt : ByteArray := prog_12_method_7_code
def yX10_lengthAt : MethodName := ⟨RX10, "lengthAt", "(I)I"⟩
abbrev cX10_setLength : ByteArray := prog_12_method_8_code
def yX10_setLength : MethodName := ⟨RX10, "setLength", "(II)V"⟩
abbrev cX10_stageAt : ByteArray := prog_12_method_9_code
def yX10_stageAt : MethodName := ⟨RX10, "stageAt", "(I)I"⟩
abbrev cX10_stageOf : ByteArray := prog_12_method_10_code
def yX10_stageOf : MethodName := ⟨RX10, "stageOf", "(I)I"⟩
abbrev cX10_reaches : ByteArray := prog_12_method_11_code
def yX10_reaches : MethodName := ⟨RX10, "reaches", "(II)Z"⟩
abbrev cX10_takesOutAt : ByteArray := prog_12_method_12_code
def yX10_takesOutAt : MethodName := ⟨RX10, "takesOutAt", "(II)Z"⟩
abbrev cX10_putsInAt : ByteArray := prog_12_method_13_code
def yX10_putsInAt : MethodName := ⟨RX10, "putsInAt", "(II)Z"⟩
abbrev cX10_listMoves : ByteArray := prog_12_method_14_code
def yX10_listMoves : MethodName := ⟨RX10, "listMoves", "()V"⟩
abbrev cX10_listMovesFrom : ByteArray := prog_12_method_15_code
def yX10_listMovesFrom : MethodName := ⟨RX10, "listMovesFrom", "(II)V"⟩
abbrev cX10_addMove : ByteArray := prog_12_method_16_code
def yX10_addMove : MethodName := ⟨RX10, "addMove", "(I)V"⟩
abbrev cX10_moveAt : ByteArray := prog_12_method_17_code
def yX10_moveAt : MethodName := ⟨RX10, "moveAt", "(I)I"⟩
abbrev cX10_hasMove : ByteArray := prog_12_method_18_code
def yX10_hasMove : MethodName := ⟨RX10, "hasMove", "(I)Z"⟩
def RX11 : String := "SidingOrders"
def TX11 : u_T := fun k => match k with
  | 0 => ("SidingOrders", "pad", "LSidingOrders$Pad;", true)
  | 1 => ("SidingOrders", "yard", "LSidingOrders$Yard;", true)
  | 2 => ("SidingOrders", "other", "LSidingOrders$Yard;", true)
  | 3 => ("SidingOrders", "play", "LSidingOrders$Play;", true)
  | 4 => ("SidingOrders", "imageZero", "LSidingOrders$Image;", true)
  | 5 => ("SidingOrders", "imageOne", "LSidingOrders$Image;", true)
  | 6 => ("SidingOrders", "survey", "LSidingOrders$Survey;", true)
  | 7 => ("SidingOrders", "search", "LSidingOrders$Search;", true)
  | 8 => ("SidingOrders", "needs", "LSidingOrders$Needs;", true)
  | _ => ("SidingOrders", "thumbs", "LSidingOrders$Thumbs;", true)
def tyX11 : Nat → FieldType := fun k => match k with
  | 0 => .object "SidingOrders$Pad"
  | 1 => .object "SidingOrders$Yard"
  | 2 => .object "SidingOrders$Yard"
  | 3 => .object "SidingOrders$Play"
  | 4 => .object "SidingOrders$Image"
  | 5 => .object "SidingOrders$Image"
  | 6 => .object "SidingOrders$Survey"
  | 7 => .object "SidingOrders$Search"
  | 8 => .object "SidingOrders$Needs"
  | _ => .object "SidingOrders$Thumbs"
abbrev wsX110 : List Cond := u_ws RX11 TX11 10
theorem nmX11 : ∀ a, a < 10 → ∀ b, b < 10 → a ≠ b → (TX11 a).2.1 ≠ (TX11 b).2.1 := by decide +kernel
theorem tyX11_ok : ∀ k, k < 10 → parseFieldDescriptor (TX11 k).2.2.1 = some (tyX11 k) := by decide +kernel
abbrev cX11_init : ByteArray := prog_1_method_1_code
def yX11_init : MethodName := ⟨RX11, "<init>", "()V"⟩
abbrev cX11_say : ByteArray := prog_1_method_2_code
def yX11_say : MethodName := ⟨RX11, "say", "(I)I"⟩
abbrev cX11_wipe : ByteArray := prog_1_method_3_code
def yX11_wipe : MethodName := ⟨RX11, "wipe", "()I"⟩
abbrev cX11_fault : ByteArray := prog_1_method_4_code
def yX11_fault : MethodName := ⟨RX11, "fault", "()I"⟩
abbrev cX11_yard : ByteArray := prog_1_method_5_code
def yX11_yard : MethodName := ⟨RX11, "yard", "()I"⟩
abbrev cX11_siding : ByteArray := prog_1_method_6_code
def yX11_siding : MethodName := ⟨RX11, "siding", "(II)I"⟩
abbrev cX11_leads : ByteArray := prog_1_method_7_code
def yX11_leads : MethodName := ⟨RX11, "leads", "(II)I"⟩
abbrev cX11_least : ByteArray := prog_1_method_8_code
def yX11_least : MethodName := ⟨RX11, "least", "(II)I"⟩
abbrev cX11_ways : ByteArray := prog_1_method_9_code
def yX11_ways : MethodName := ⟨RX11, "ways", "(II)J"⟩
abbrev cX11_first : ByteArray := prog_1_method_10_code
def yX11_first : MethodName := ⟨RX11, "first", "(III)I"⟩
abbrev cX11_orders : ByteArray := prog_1_method_11_code
def yX11_orders : MethodName := ⟨RX11, "orders", "(II)I"⟩
abbrev cX11_good : ByteArray := prog_1_method_12_code
def yX11_good : MethodName := ⟨RX11, "good", "(II)I"⟩
abbrev cX11_mean : ByteArray := prog_1_method_13_code
def yX11_mean : MethodName := ⟨RX11, "mean", "(II)J"⟩
abbrev cX11_need : ByteArray := prog_1_method_14_code
def yX11_need : MethodName := ⟨RX11, "need", "(II)I"⟩
abbrev cX11_keep : ByteArray := prog_1_method_15_code
def yX11_keep : MethodName := ⟨RX11, "keep", "()I"⟩
abbrev cX11_unlike : ByteArray := prog_1_method_16_code
def yX11_unlike : MethodName := ⟨RX11, "unlike", "(I)I"⟩
abbrev cX11_play : ByteArray := prog_1_method_17_code
def yX11_play : MethodName := ⟨RX11, "play", "(II)I"⟩
abbrev cX11_move : ByteArray := prog_1_method_18_code
def yX11_move : MethodName := ⟨RX11, "move", "(I)I"⟩
abbrev cX11_back : ByteArray := prog_1_method_19_code
def yX11_back : MethodName := ⟨RX11, "back", "()I"⟩
abbrev cX11_rest : ByteArray := prog_1_method_20_code
def yX11_rest : MethodName := ⟨RX11, "rest", "()I"⟩
abbrev cX11_next : ByteArray := prog_1_method_21_code
def yX11_next : MethodName := ⟨RX11, "next", "()I"⟩
abbrev cX11_moves : ByteArray := prog_1_method_22_code
def yX11_moves : MethodName := ⟨RX11, "moves", "(I)I"⟩
abbrev cX11_stand : ByteArray := prog_1_method_23_code
def yX11_stand : MethodName := ⟨RX11, "stand", "(I)I"⟩
abbrev cX11_thumb : ByteArray := prog_1_method_24_code
def yX11_thumb : MethodName := ⟨RX11, "thumb", "(II)I"⟩
abbrev cX11_sorts : ByteArray := prog_1_method_25_code
def yX11_sorts : MethodName := ⟨RX11, "sorts", "(II)I"⟩
abbrev cX11_draw : ByteArray := prog_1_method_26_code
def yX11_draw : MethodName := ⟨RX11, "draw", "(II)I"⟩
abbrev cX11_image : ByteArray := prog_1_method_27_code
def yX11_image : MethodName := ⟨RX11, "image", "(I)I"⟩
abbrev cX11_restore : ByteArray := prog_1_method_28_code
def yX11_restore : MethodName := ⟨RX11, "restore", "(I)I"⟩
abbrev cX11_told : ByteArray := prog_1_method_29_code
def yX11_told : MethodName := ⟨RX11, "told", "(I)I"⟩
abbrev cX11_forgetFindings : ByteArray := prog_1_method_30_code
def yX11_forgetFindings : MethodName := ⟨RX11, "forgetFindings", "()V"⟩
abbrev cX11_isMissing : ByteArray := prog_1_method_31_code
def yX11_isMissing : MethodName := ⟨RX11, "isMissing", "(I)Z"⟩
abbrev cX11_arePair : ByteArray := prog_1_method_32_code
def yX11_arePair : MethodName := ⟨RX11, "arePair", "(II)Z"⟩
abbrev cX11_leastOf : ByteArray := prog_1_method_33_code
def yX11_leastOf : MethodName := ⟨RX11, "leastOf", "(LSidingOrders$Yard;III)I"⟩
abbrev cX11_leastSorted : ByteArray := prog_1_method_34_code
def yX11_leastSorted : MethodName := ⟨RX11, "leastSorted", "(LSidingOrders$Yard;II)I"⟩
abbrev cX11_aimAtPlay : ByteArray := prog_1_method_35_code
def yX11_aimAtPlay : MethodName := ⟨RX11, "aimAtPlay", "()V"⟩
abbrev cX11_imageAt : ByteArray := prog_1_method_36_code
def yX11_imageAt : MethodName := ⟨RX11, "imageAt", "(I)LSidingOrders$Image;"⟩
abbrev cX11_inLowestTerms : ByteArray := prog_1_method_37_code
def yX11_inLowestTerms : MethodName := ⟨RX11, "inLowestTerms", "(III)J"⟩
abbrev cX11_copyInts : ByteArray := prog_1_method_38_code
def yX11_copyInts : MethodName := ⟨RX11, "copyInts", "([I[I)V"⟩
def RX12 : String := "SidingOrdersModel"
def TX12 : u_T := fun k => match k with
  | 0 => ("SidingOrdersModel", "letter", "[I", true)
  | 1 => ("SidingOrdersModel", "length", "[I", true)
  | 2 => ("SidingOrdersModel", "stageOf", "[I", true)
  | 3 => ("SidingOrdersModel", "straight", "[I", true)
  | 4 => ("SidingOrdersModel", "many", "I", false)
  | 5 => ("SidingOrdersModel", "stages", "I", false)
  | 6 => ("SidingOrdersModel", "otherLetter", "[I", true)
  | 7 => ("SidingOrdersModel", "otherLength", "[I", true)
  | 8 => ("SidingOrdersModel", "otherStage", "[I", true)
  | 9 => ("SidingOrdersModel", "otherStraight", "[I", true)
  | 10 => ("SidingOrdersModel", "otherMany", "I", false)
  | 11 => ("SidingOrdersModel", "otherStages", "I", false)
  | 12 => ("SidingOrdersModel", "signs", "[I", true)
  | 13 => ("SidingOrdersModel", "signMany", "I", false)
  | 14 => ("SidingOrdersModel", "item", "[I", true)
  | 15 => ("SidingOrdersModel", "count", "[I", true)
  | 16 => ("SidingOrdersModel", "gone", "I", false)
  | 17 => ("SidingOrdersModel", "slotKey", "[I", true)
  | 18 => ("SidingOrdersModel", "slotMark", "[I", true)
  | 19 => ("SidingOrdersModel", "slotFar", "[I", true)
  | 20 => ("SidingOrdersModel", "slotWays", "[J", true)
  | 21 => ("SidingOrdersModel", "queue", "[I", true)
  | 22 => ("SidingOrdersModel", "queued", "I", false)
  | 23 => ("SidingOrdersModel", "mark", "I", false)
  | 24 => ("SidingOrdersModel", "wanted", "[I", true)
  | 25 => ("SidingOrdersModel", "wantedMany", "I", false)
  | 26 => ("SidingOrdersModel", "farOf", "[I", true)
  | 27 => ("SidingOrdersModel", "waysOf", "[J", true)
  | 28 => ("SidingOrdersModel", "isFound", "[Z", true)
  | 29 => ("SidingOrdersModel", "row", "[I", true)
  | 30 => ("SidingOrdersModel", "train", "[I", true)
  | 31 => ("SidingOrdersModel", "listed", "[I", true)
  | 32 => ("SidingOrdersModel", "was", "[I", true)
  | 33 => ("SidingOrdersModel", "bestNeed", "[I", true)
  | 34 => ("SidingOrdersModel", "isGood", "[Z", true)
  | 35 => ("SidingOrdersModel", "playTrain", "I", false)
  | 36 => ("SidingOrdersModel", "playOrder", "I", false)
  | 37 => ("SidingOrdersModel", "playWagons", "I", false)
  | 38 => ("SidingOrdersModel", "playKeys", "[I", true)
  | 39 => ("SidingOrdersModel", "playDone", "I", false)
  | 40 => ("SidingOrdersModel", "kept", "[I", true)
  | 41 => ("SidingOrdersModel", "isKept", "[Z", true)
  | 42 => ("SidingOrdersModel", "keptAt", "I", false)
  | _ => ("SidingOrdersModel", "isWriting", "Z", false)
def tyX12 : Nat → FieldType := fun k => match k with
  | 0 => .array .int
  | 1 => .array .int
  | 2 => .array .int
  | 3 => .array .int
  | 4 => .int
  | 5 => .int
  | 6 => .array .int
  | 7 => .array .int
  | 8 => .array .int
  | 9 => .array .int
  | 10 => .int
  | 11 => .int
  | 12 => .array .int
  | 13 => .int
  | 14 => .array .int
  | 15 => .array .int
  | 16 => .int
  | 17 => .array .int
  | 18 => .array .int
  | 19 => .array .int
  | 20 => .array .long
  | 21 => .array .int
  | 22 => .int
  | 23 => .int
  | 24 => .array .int
  | 25 => .int
  | 26 => .array .int
  | 27 => .array .long
  | 28 => .array .boolean
  | 29 => .array .int
  | 30 => .array .int
  | 31 => .array .int
  | 32 => .array .int
  | 33 => .array .int
  | 34 => .array .boolean
  | 35 => .int
  | 36 => .int
  | 37 => .int
  | 38 => .array .int
  | 39 => .int
  | 40 => .array .int
  | 41 => .array .boolean
  | 42 => .int
  | _ => .boolean
abbrev wsX120 : List Cond := u_ws RX12 TX12 44
theorem nmX12 : ∀ a, a < 44 → ∀ b, b < 44 → a ≠ b → (TX12 a).2.1 ≠ (TX12 b).2.1 := by decide +kernel
theorem tyX12_ok : ∀ k, k < 44 → parseFieldDescriptor (TX12 k).2.2.1 = some (tyX12 k) := by decide +kernel
abbrev cX12_init : ByteArray := prog_14_method_1_code
def yX12_init : MethodName := ⟨RX12, "<init>", "()V"⟩
abbrev cX12_in : ByteArray := prog_14_method_3_code
def yX12_in : MethodName := ⟨RX12, "in", "(JJJ)Z"⟩
abbrev cX12_lowest : ByteArray := prog_14_method_4_code
def yX12_lowest : MethodName := ⟨RX12, "lowest", "(JJI)J"⟩
abbrev cX12_say : ByteArray := prog_14_method_5_code
def yX12_say : MethodName := ⟨RX12, "say", "(I)I"⟩
abbrev cX12_wipe : ByteArray := prog_14_method_6_code
def yX12_wipe : MethodName := ⟨RX12, "wipe", "()I"⟩
abbrev cX12_isLetter : ByteArray := prog_14_method_7_code
def yX12_isLetter : MethodName := ⟨RX12, "isLetter", "(I)Z"⟩
abbrev cX12_fault : ByteArray := prog_14_method_8_code
def yX12_fault : MethodName := ⟨RX12, "fault", "()I"⟩
abbrev cX12_yard : ByteArray := prog_14_method_9_code
def yX12_yard : MethodName := ⟨RX12, "yard", "()I"⟩
abbrev cX12_isSiding : ByteArray := prog_14_method_10_code
def yX12_isSiding : MethodName := ⟨RX12, "isSiding", "(I)Z"⟩
abbrev cX12_siding : ByteArray := prog_14_method_11_code
def yX12_siding : MethodName := ⟨RX12, "siding", "(II)I"⟩
abbrev cX12_goes : ByteArray := prog_14_method_12_code
def yX12_goes : MethodName := ⟨RX12, "goes", "(II)Z"⟩
abbrev cX12_leads : ByteArray := prog_14_method_13_code
def yX12_leads : MethodName := ⟨RX12, "leads", "(II)I"⟩
abbrev cX12_decode : ByteArray := prog_14_method_14_code
def yX12_decode : MethodName := ⟨RX12, "decode", "(I)V"⟩
abbrev cX12_putNear : ByteArray := prog_14_method_15_code
def yX12_putNear : MethodName := ⟨RX12, "putNear", "(II)V"⟩
abbrev cX12_putFar : ByteArray := prog_14_method_16_code
def yX12_putFar : MethodName := ⟨RX12, "putFar", "(II)V"⟩
abbrev cX12_encode : ByteArray := prog_14_method_17_code
def yX12_encode : MethodName := ⟨RX12, "encode", "()I"⟩
abbrev cX12_takeNear : ByteArray := prog_14_method_18_code
def yX12_takeNear : MethodName := ⟨RX12, "takeNear", "(I)I"⟩
abbrev cX12_takeFar : ByteArray := prog_14_method_19_code
def yX12_takeFar : MethodName := ⟨RX12, "takeFar", "(I)I"⟩
abbrev cX12_canMove : ByteArray := prog_14_method_20_code
def yX12_canMove : MethodName := ⟨RX12, "canMove", "(IIIII)Z"⟩
abbrev cX12_isOut : ByteArray := prog_14_method_21_code
def yX12_isOut : MethodName := ⟨RX12, "isOut", "(II)Z"⟩
abbrev cX12_isIn : ByteArray := prog_14_method_22_code
def yX12_isIn : MethodName := ⟨RX12, "isIn", "(II)Z"⟩
abbrev cX12_doMove : ByteArray := prog_14_method_23_code
def yX12_doMove : MethodName := ⟨RX12, "doMove", "(IIII)V"⟩
abbrev cX12_slotOf : ByteArray := prog_14_method_24_code
def yX12_slotOf : MethodName := ⟨RX12, "slotOf", "(I)I"⟩
abbrev cX12_come : ByteArray := prog_14_method_25_code
def yX12_come : MethodName := ⟨RX12, "come", "(IIJ)V"⟩
abbrev cX12_isWanted : ByteArray := prog_14_method_26_code
def yX12_isWanted : MethodName := ⟨RX12, "isWanted", "()Z"⟩
abbrev cX12_search : ByteArray := prog_14_method_27_code
def yX12_search : MethodName := ⟨RX12, "search", "(II)I"⟩
abbrev cX12_spread : ByteArray := prog_14_method_28_code
def yX12_spread : MethodName := ⟨RX12, "spread", "(II)V"⟩
abbrev cX12_forget : ByteArray := prog_14_method_29_code
def yX12_forget : MethodName := ⟨RX12, "forget", "()V"⟩
abbrev cX12_power : ByteArray := prog_14_method_30_code
def yX12_power : MethodName := ⟨RX12, "power", "(I)I"⟩
abbrev cX12_rankOf : ByteArray := prog_14_method_31_code
def yX12_rankOf : MethodName := ⟨RX12, "rankOf", "(I)I"⟩
abbrev cX12_layRow : ByteArray := prog_14_method_32_code
def yX12_layRow : MethodName := ⟨RX12, "layRow", "(II)V"⟩
abbrev cX12_findAll : ByteArray := prog_14_method_33_code
def yX12_findAll : MethodName := ⟨RX12, "findAll", "(I)V"⟩
abbrev cX12_wagonsOf : ByteArray := prog_14_method_34_code
def yX12_wagonsOf : MethodName := ⟨RX12, "wagonsOf", "(I)I"⟩
abbrev cX12_digitAt : ByteArray := prog_14_method_35_code
def yX12_digitAt : MethodName := ⟨RX12, "digitAt", "(III)I"⟩
abbrev cX12_layTrain : ByteArray := prog_14_method_36_code
def yX12_layTrain : MethodName := ⟨RX12, "layTrain", "(II)V"⟩
abbrev cX12_placeOf : ByteArray := prog_14_method_37_code
def yX12_placeOf : MethodName := ⟨RX12, "placeOf", "(II)I"⟩
abbrev cX12_layOrder : ByteArray := prog_14_method_38_code
def yX12_layOrder : MethodName := ⟨RX12, "layOrder", "(II)V"⟩
abbrev cX12_sortedOf : ByteArray := prog_14_method_39_code
def yX12_sortedOf : MethodName := ⟨RX12, "sortedOf", "(I)I"⟩
abbrev cX12_found : ByteArray := prog_14_method_40_code
def yX12_found : MethodName := ⟨RX12, "found", "(III)I"⟩
abbrev cX12_areTwo : ByteArray := prog_14_method_41_code
def yX12_areTwo : MethodName := ⟨RX12, "areTwo", "(II)Z"⟩
abbrev cX12_least : ByteArray := prog_14_method_42_code
def yX12_least : MethodName := ⟨RX12, "least", "(II)I"⟩
abbrev cX12_ways : ByteArray := prog_14_method_43_code
def yX12_ways : MethodName := ⟨RX12, "ways", "(II)J"⟩
abbrev cX12_nextOf : ByteArray := prog_14_method_44_code
def yX12_nextOf : MethodName := ⟨RX12, "nextOf", "(III)I"⟩
abbrev cX12_isMove : ByteArray := prog_14_method_45_code
def yX12_isMove : MethodName := ⟨RX12, "isMove", "(IIII)Z"⟩
abbrev cX12_moved : ByteArray := prog_14_method_46_code
def yX12_moved : MethodName := ⟨RX12, "moved", "(II)I"⟩
abbrev cX12_want : ByteArray := prog_14_method_47_code
def yX12_want : MethodName := ⟨RX12, "want", "(III)V"⟩
abbrev cX12_first : ByteArray := prog_14_method_48_code
def yX12_first : MethodName := ⟨RX12, "first", "(III)I"⟩
abbrev cX12_orders : ByteArray := prog_14_method_49_code
def yX12_orders : MethodName := ⟨RX12, "orders", "(II)I"⟩
abbrev cX12_insert : ByteArray := prog_14_method_50_code
def yX12_insert : MethodName := ⟨RX12, "insert", "(II)V"⟩
abbrev cX12_trainOf : ByteArray := prog_14_method_51_code
def yX12_trainOf : MethodName := ⟨RX12, "trainOf", "(II)I"⟩
abbrev cX12_sortFar : ByteArray := prog_14_method_52_code
def yX12_sortFar : MethodName := ⟨RX12, "sortFar", "(II)I"⟩
abbrev cX12_isCount : ByteArray := prog_14_method_53_code
def yX12_isCount : MethodName := ⟨RX12, "isCount", "(I)Z"⟩
abbrev cX12_good : ByteArray := prog_14_method_54_code
def yX12_good : MethodName := ⟨RX12, "good", "(II)I"⟩
abbrev cX12_mean : ByteArray := prog_14_method_55_code
def yX12_mean : MethodName := ⟨RX12, "mean", "(II)J"⟩
abbrev cX12_findNeed : ByteArray := prog_14_method_56_code
def yX12_findNeed : MethodName := ⟨RX12, "findNeed", "(II)I"⟩
abbrev cX12_need : ByteArray := prog_14_method_57_code
def yX12_need : MethodName := ⟨RX12, "need", "(II)I"⟩
abbrev cX12_keep : ByteArray := prog_14_method_58_code
def yX12_keep : MethodName := ⟨RX12, "keep", "()I"⟩
abbrev cX12_changeAbout : ByteArray := prog_14_method_59_code
def yX12_changeAbout : MethodName := ⟨RX12, "changeAbout", "()V"⟩
abbrev cX12_unlike : ByteArray := prog_14_method_60_code
def yX12_unlike : MethodName := ⟨RX12, "unlike", "(I)I"⟩
abbrev cX12_play : ByteArray := prog_14_method_61_code
def yX12_play : MethodName := ⟨RX12, "play", "(II)I"⟩
abbrev cX12_move : ByteArray := prog_14_method_62_code
def yX12_move : MethodName := ⟨RX12, "move", "(I)I"⟩
abbrev cX12_back : ByteArray := prog_14_method_63_code
def yX12_back : MethodName := ⟨RX12, "back", "()I"⟩
abbrev cX12_restOf : ByteArray := prog_14_method_64_code
def yX12_restOf : MethodName := ⟨RX12, "restOf", "()I"⟩
abbrev cX12_rest : ByteArray := prog_14_method_65_code
def yX12_rest : MethodName := ⟨RX12, "rest", "()I"⟩
abbrev cX12_next : ByteArray := prog_14_method_66_code
def yX12_next : MethodName := ⟨RX12, "next", "()I"⟩
abbrev cX12_moves : ByteArray := prog_14_method_67_code
def yX12_moves : MethodName := ⟨RX12, "moves", "(I)I"⟩
abbrev cX12_stand : ByteArray := prog_14_method_68_code
def yX12_stand : MethodName := ⟨RX12, "stand", "(I)I"⟩
abbrev cX12_wagonAt : ByteArray := prog_14_method_69_code
def yX12_wagonAt : MethodName := ⟨RX12, "wagonAt", "(I)I"⟩
abbrev cX12_letOut : ByteArray := prog_14_method_70_code
def yX12_letOut : MethodName := ⟨RX12, "letOut", "(I)Z"⟩
abbrev cX12_areHigher : ByteArray := prog_14_method_71_code
def yX12_areHigher : MethodName := ⟨RX12, "areHigher", "(II)Z"⟩
abbrev cX12_hasRoom : ByteArray := prog_14_method_72_code
def yX12_hasRoom : MethodName := ⟨RX12, "hasRoom", "(I)Z"⟩
abbrev cX12_chosen : ByteArray := prog_14_method_73_code
def yX12_chosen : MethodName := ⟨RX12, "chosen", "(II)I"⟩
abbrev cX12_goIn : ByteArray := prog_14_method_74_code
def yX12_goIn : MethodName := ⟨RX12, "goIn", "(II)Z"⟩
abbrev cX12_goOn : ByteArray := prog_14_method_75_code
def yX12_goOn : MethodName := ⟨RX12, "goOn", "(I)Z"⟩
abbrev cX12_thumbed : ByteArray := prog_14_method_76_code
def yX12_thumbed : MethodName := ⟨RX12, "thumbed", "(III)I"⟩
abbrev cX12_thumb : ByteArray := prog_14_method_77_code
def yX12_thumb : MethodName := ⟨RX12, "thumb", "(II)I"⟩
abbrev cX12_sorts : ByteArray := prog_14_method_78_code
def yX12_sorts : MethodName := ⟨RX12, "sorts", "(II)I"⟩
abbrev cX12_draw : ByteArray := prog_14_method_79_code
def yX12_draw : MethodName := ⟨RX12, "draw", "(II)I"⟩
abbrev cX12_pass : ByteArray := prog_14_method_80_code
def yX12_pass : MethodName := ⟨RX12, "pass", "(I)I"⟩
abbrev cX12_passAll : ByteArray := prog_14_method_81_code
def yX12_passAll : MethodName := ⟨RX12, "passAll", "()V"⟩
abbrev cX12_image : ByteArray := prog_14_method_82_code
def yX12_image : MethodName := ⟨RX12, "image", "(I)I"⟩
abbrev cX12_restore : ByteArray := prog_14_method_83_code
def yX12_restore : MethodName := ⟨RX12, "restore", "(I)I"⟩
abbrev cX12_told : ByteArray := prog_14_method_84_code
def yX12_told : MethodName := ⟨RX12, "told", "(I)I"⟩
def RJ6 : String := "java/lang/Integer"
def TJ6 : u_T := fun k => match k with
  | _ => ("", "", "", false)
def tyJ6 : Nat → FieldType := fun k => match k with
  | _ => .int
abbrev wsJ60 : List Cond := u_ws RJ6 TJ6 0
theorem nmJ6 : ∀ a, a < 0 → ∀ b, b < 0 → a ≠ b → (TJ6 a).2.1 ≠ (TJ6 b).2.1 := by decide +kernel
theorem tyJ6_ok : ∀ k, k < 0 → parseFieldDescriptor (TJ6 k).2.2.1 = some (tyJ6 k) := by decide +kernel
abbrev cJ6_bitCount_0f7a4 : ByteArray := prog_15_method_49_code
def yJ6_bitCount_0f7a4 : MethodName := ⟨RJ6, "bitCount", "(I)I"⟩
def RJ9 : String := "java/lang/Math"
def TJ9 : u_T := fun k => match k with
  | _ => ("", "", "", false)
def tyJ9 : Nat → FieldType := fun k => match k with
  | _ => .int
abbrev wsJ90 : List Cond := u_ws RJ9 TJ9 0
theorem nmJ9 : ∀ a, a < 0 → ∀ b, b < 0 → a ≠ b → (TJ9 a).2.1 ≠ (TJ9 b).2.1 := by decide +kernel
theorem tyJ9_ok : ∀ k, k < 0 → parseFieldDescriptor (TJ9 k).2.2.1 = some (tyJ9 k) := by decide +kernel
abbrev cJ9_max_7cf53 : ByteArray := prog_16_method_65_code
def yJ9_max_7cf53 : MethodName := ⟨RJ9, "max", "(II)I"⟩
abbrev cJ9_min_7cf53 : ByteArray := prog_16_method_69_code
def yJ9_min_7cf53 : MethodName := ⟨RJ9, "min", "(II)I"⟩
def RJ10 : String := "java/lang/System"
def TJ10 : u_T := fun k => match k with
  | _ => ("", "", "", false)
def tyJ10 : Nat → FieldType := fun k => match k with
  | _ => .int
abbrev wsJ100 : List Cond := u_ws RJ10 TJ10 0
theorem nmJ10 : ∀ a, a < 0 → ∀ b, b < 0 → a ≠ b → (TJ10 a).2.1 ≠ (TJ10 b).2.1 := by decide +kernel
theorem tyJ10_ok : ∀ k, k < 0 → parseFieldDescriptor (TJ10 k).2.2.1 = some (tyJ10 k) := by decide +kernel
def RL : String := "SidingOrdersLaw"
abbrev cL_law : ByteArray := code
def yL_law : MethodName := ⟨RL, "law", "([I)Z"⟩
/-! what follows is written here -/
abbrev CL : List vw_C := [(RX0, TX0, 4), (RX1, TX1, 3), (RX2, TX2, 3), (RX3, TX3, 2), (RX4, TX4, 2), (RX5, TX5, 7), (RX7, TX7, 6), (RX8, TX8, 3), (RX9, TX9, 1), (RX10, TX10, 9), (RX11, TX11, 10), (RX12, TX12, 44)]
def tyL : List (Nat → FieldType) := [tyX0, tyX1, tyX2, tyX3, tyX4, tyX5, tyX7, tyX8, tyX9, tyX10, tyX11, tyX12]
def TG : List Cond := lw_tbl.filter goodWord
theorem TG_in : ∀ w ∈ TG, w ∈ lw_tbl := fun w h => (List.mem_filter.mp h).1
theorem TG_good : ∀ w ∈ TG, goodWord w = true := fun w h => (List.mem_filter.mp h).2
theorem inX0 : ∀ w ∈ u_ws RX0 TX0 4, w ∈ TG := by decide +kernel
theorem inX1 : ∀ w ∈ u_ws RX1 TX1 3, w ∈ TG := by decide +kernel
theorem inX2 : ∀ w ∈ u_ws RX2 TX2 3, w ∈ TG := by decide +kernel
theorem inX3 : ∀ w ∈ u_ws RX3 TX3 2, w ∈ TG := by decide +kernel
theorem inX4 : ∀ w ∈ u_ws RX4 TX4 2, w ∈ TG := by decide +kernel
theorem inX5 : ∀ w ∈ u_ws RX5 TX5 7, w ∈ TG := by decide +kernel
theorem inX7 : ∀ w ∈ u_ws RX7 TX7 6, w ∈ TG := by decide +kernel
theorem inX8 : ∀ w ∈ u_ws RX8 TX8 3, w ∈ TG := by decide +kernel
theorem inX9 : ∀ w ∈ u_ws RX9 TX9 1, w ∈ TG := by decide +kernel
theorem inX10 : ∀ w ∈ u_ws RX10 TX10 9, w ∈ TG := by decide +kernel
theorem inX11 : ∀ w ∈ u_ws RX11 TX11 10, w ∈ TG := by decide +kernel
theorem inX12 : ∀ w ∈ u_ws RX12 TX12 44, w ∈ TG := by decide +kernel
end
section
/-! THE ABSTRACT MACHINE: cells in a list, references by their places in it; straight stretches of code as a function -/
abbrev AE : Type := (Nat × vp_A) ⊕ (Nat × List Value)
abbrev AH : Type := List AE
/-- pc, locals, stack, cells, cells and slots that may still be made -/
abbrev AC : Type := Nat × List (Option Value) × List Value × AH × Nat × Nat
/-- pc, length, instruction, three numbers that the link gives, a constant -/
abbrev CI : Type := Nat × Nat × Instr × Nat × Nat × Nat × Value
def cV (ad : Nat → Nat) : Value → Value
  | .ref i => .ref (ad i)
  | .int v => .int v
  | .long v => .long v
  | .float v => .float v
  | .double v => .double v
  | .null => .null
  | .retAddr q => .retAddr q
def cE (ad : Nat → Nat) (cA : Nat → ClassId) : AE → va_E
  | .inl x => .inl (cA x.1, x.2)
  | .inr x => .inr (x.1, x.2.map (cV ad))
def cW (ad : Nat → Nat) (cA : Nat → ClassId) (h : AH) : va_W := h.mapIdx (fun i e => (ad i, cE ad cA e))
theorem cV_cat (ad : Nat → Nat) (v : Value) : (cV ad v).category = v.category := by cases v <;> rfl
theorem cW_get {ad : Nat → Nat} {cA : Nat → ClassId} {h : AH} {i : Nat} {e : AE} (he : h[i]? = some e) : (cW ad cA h)[i]? = some (ad i, cE ad cA e) := by
  simp [cW, he]
theorem cW_len (ad : Nat → Nat) (cA : Nat → ClassId) (h : AH) : (cW ad cA h).length = h.length := by simp [cW]
theorem cW_of {ad : Nat → Nat} {cA : Nat → ClassId} {h : AH} {i : Nat} {q : Nat × va_E} (hq : (cW ad cA h)[i]? = some q) : ∃ e, h[i]? = some e ∧ q = (ad i, cE ad cA e) := by
  rw [cW, List.getElem?_mapIdx] at hq
  cases he : h[i]? with
  | none => rw [he] at hq; cases hq
  | some e => rw [he] at hq; exact ⟨e, rfl, (Option.some.inj hq).symm⟩
theorem cW_set (ad : Nat → Nat) (cA : Nat → ClassId) (h : AH) (i : Nat) (e : AE) : (cW ad cA h).set i (ad i, cE ad cA e) = cW ad cA (h.set i e) := by
  apply List.ext_getElem?
  intro j
  rw [cW, cW, List.getElem?_mapIdx, List.getElem?_set, List.getElem?_set, List.getElem?_mapIdx, List.length_mapIdx]
  by_cases hj : i = j
  · subst hj
    by_cases hl : i < h.length <;> simp [hl]
  · simp [hj]
theorem cE_fields {ad : Nat → Nat} {cA : Nat → ClassId} {ci k : Nat} {fs : List Value} {v : Value} : (.inr (ci, (fs.map (cV ad)).set k (cV ad v)) : va_E) = cE ad cA (.inr (ci, fs.set k v)) := by
  simp [cE, List.map_set]
abbrev tysOf (cA : Nat → ClassId) : List (ClassId × FieldType) := [(cA 0, .int), (cA 1, .long), (cA 2, .byte), (cA 3, .boolean)]
abbrev inb (i : Int32) (n : Nat) : Prop := ¬ (i < 0 ∨ n ≤ i.toNatClampNeg)
abbrev isZ (v : Int32) : Prop := narrow .boolean (.int v) = .int v
def irm (x y : Int32) : Int32 := x - x / y * y
def lrm (x y : Int64) : Int64 := x - x / y * y
def iush (x y : Int32) : Int32 := (x.toUInt32 >>> (y.toUInt32 &&& Int32.toUInt32 31)).toInt32
/-- the locals: what is known of them -/
def LH (ad : Nat → Nat) (nL : Nat) (vs : List (Option Value)) (ls : Array Slot) : Prop := vs.length = nL ∧ ls.size = nL ∧ lv_wf ls ∧ ∀ (i : Nat) (v : Value), vs[i]? = some (some v) → ls[i]? = some (.val (cV ad v))
def lvp (ad : Nat → Nat) (vs : List (Option Value)) : List (Nat × Value) := (vs.mapIdx (fun i o => o.map (fun v => (i, cV ad v)))).filterMap id
theorem lvp_mem {ad : Nat → Nat} {vs : List (Option Value)} {q : Nat × Value} : q ∈ lvp ad vs ↔ ∃ v, vs[q.1]? = some (some v) ∧ q.2 = cV ad v := by
  unfold lvp
  rw [List.mem_filterMap]
  constructor
  · rintro ⟨o, ho, hq⟩
    obtain ⟨i, hi⟩ := List.getElem?_of_mem ho
    rw [List.getElem?_mapIdx] at hi
    cases hv : vs[i]? with
    | none => rw [hv] at hi; cases hi
    | some o2 =>
      rw [hv] at hi
      have h1 := Option.some.inj hi
      subst h1
      cases o2 with
      | none => cases hq
      | some v => cases hq; exact ⟨v, hv, rfl⟩
  · rintro ⟨v, hv, hq⟩
    refine ⟨some q, List.mem_of_getElem? (i := q.1) ?_, rfl⟩
    rw [List.getElem?_mapIdx, hv]
    obtain ⟨a, b⟩ := q
    simp at hq
    simp [hq]
theorem LH_has {ad : Nat → Nat} {nL : Nat} {vs : List (Option Value)} {ls : Array Slot} (h : LH ad nL vs ls) : lv_has ls nL (lvp ad vs) := by
  refine ⟨h.2.1, h.2.2.1, fun q hq => ?_⟩
  obtain ⟨v, hv, e⟩ := lvp_mem.mp hq
  rw [e]
  exact h.2.2.2 _ _ hv
/-- what is written at i goes over a long that stands at i - 1 -/
def clr (vs : List (Option Value)) (i : Nat) : List (Option Value) := match i with
  | 0 => vs
  | j + 1 => match vs[j]? with
    | some (some (.long _)) => vs.set j none
    | some (some (.double _)) => vs.set j none
    | _ => vs
theorem clr_len (vs : List (Option Value)) (i : Nat) : (clr vs i).length = vs.length := by
  unfold clr; split
  · rfl
  · split <;> simp
theorem clr_of {vs : List (Option Value)} {i j : Nat} {v : Value} (h : (clr vs i)[j]? = some (some v)) : vs[j]? = some (some v) ∧ ¬ (j + 1 = i ∧ v.category = 2) := by
  unfold clr at h
  split at h
  · exact ⟨h, by omega⟩
  · rename_i i
    split at h
    · rw [List.getElem?_set] at h
      by_cases hij : i = j
      · simp [hij] at h
      · simp [hij] at h; exact ⟨h, by omega⟩
    · rw [List.getElem?_set] at h
      by_cases hij : i = j
      · simp [hij] at h
      · simp [hij] at h; exact ⟨h, by omega⟩
    · rename_i h1 h2
      refine ⟨h, ?_⟩
      rintro ⟨e, hc⟩
      have : i = j := by omega
      subst this
      cases v <;> simp [Value.category] at hc
      · exact h1 _ h
      · exact h2 _ h
theorem LH_store1 {ad : Nat → Nat} {nL : Nat} {vs : List (Option Value)} {ls : Array Slot} (h : LH ad nL vs ls) {i : Nat} {v : Value} (hi : i < nL) {ls' : Array Slot} (h' : lv_has ls' nL ((i, cV ad v) :: (lvp ad vs).filter (fun q => !(q.1 == i) && !(q.1 + 1 == i && q.2.category == 2)))) : LH ad nL ((clr vs i).set i (some v)) ls' := by
  refine ⟨by rw [List.length_set, clr_len]; exact h.1, h'.1, h'.2.1, fun j w hw => ?_⟩
  rw [List.getElem?_set] at hw
  by_cases hij : i = j
  · subst hij
    have hl : i < (clr vs i).length := by rw [clr_len, h.1]; exact hi
    simp [hl] at hw
    subst hw
    exact h'.2.2 (i, cV ad v) List.mem_cons_self
  · simp [hij] at hw
    obtain ⟨h1, h2⟩ := clr_of hw
    refine h'.2.2 (j, cV ad w) (List.mem_cons_of_mem _ (List.mem_filter.mpr ⟨lvp_mem.mpr ⟨w, h1, rfl⟩, ?_⟩))
    have : ¬ j = i := fun e => hij e.symm
    simp [this, cV_cat]
    by_cases e : j + 1 = i
    · exact Or.inr (fun hc => h2 ⟨e, hc⟩)
    · exact Or.inl e
theorem LH_store2 {ad : Nat → Nat} {nL : Nat} {vs : List (Option Value)} {ls : Array Slot} (h : LH ad nL vs ls) {i : Nat} {v : Value} (hi : i + 1 < nL) {ls' : Array Slot} (h' : lv_has ls' nL ((i, cV ad v) :: (lvp ad vs).filter (fun q => !(q.1 == i) && (!(q.1 == i + 1) && !(q.1 + 1 == i && q.2.category == 2))))) : LH ad nL (((clr vs i).set i (some v)).set (i + 1) none) ls' := by
  refine ⟨by rw [List.length_set, List.length_set, clr_len]; exact h.1, h'.1, h'.2.1, fun j w hw => ?_⟩
  rw [List.getElem?_set] at hw
  by_cases hij1 : i + 1 = j
  · simp [hij1] at hw
  simp [hij1] at hw
  rw [List.getElem?_set] at hw
  by_cases hij : i = j
  · subst hij
    have hl : i < (clr vs i).length := by rw [clr_len, h.1]; omega
    simp [hl] at hw
    subst hw
    exact h'.2.2 (i, cV ad v) List.mem_cons_self
  · simp [hij] at hw
    obtain ⟨h1, h2⟩ := clr_of hw
    refine h'.2.2 (j, cV ad w) (List.mem_cons_of_mem _ (List.mem_filter.mpr ⟨lvp_mem.mpr ⟨w, h1, rfl⟩, ?_⟩))
    have e1 : ¬ j = i := fun e => hij e.symm
    have e2 : ¬ j = i + 1 := fun e => hij1 e.symm
    simp [e1, e2, cV_cat]
    by_cases e : j + 1 = i
    · exact Or.inr (fun hc => h2 ⟨e, hc⟩)
    · exact Or.inl e
end
section
/-! ONE STEP of the abstract machine: what it asks (a list of facts), and where it comes -/
def astp : CI → AC → Option (List Prop × AC)
  | (_, len, I, r1, r2, _, cv), (pc, vs, st, h, bk, bn) =>
    match I with
    | .iconst _ => some ([], (pc + len, vs, cv :: st, h, bk, bn))
    | .bipush _ => some ([], (pc + len, vs, cv :: st, h, bk, bn))
    | .sipush _ => some ([], (pc + len, vs, cv :: st, h, bk, bn))
    | .lconst _ => some ([], (pc + len, vs, cv :: st, h, bk, bn))
    | .ldc _ => some ([], (pc + len, vs, cv :: st, h, bk, bn))
    | .ldc_w _ => some ([], (pc + len, vs, cv :: st, h, bk, bn))
    | .ldc2_w _ => some ([], (pc + len, vs, cv :: st, h, bk, bn))
    | .iload _ => match vs[r1]? with
      | some (some (.int x)) => some ([], (pc + len, vs, .int x :: st, h, bk, bn))
      | _ => none
    | .iload_n _ => match vs[r1]? with
      | some (some (.int x)) => some ([], (pc + len, vs, .int x :: st, h, bk, bn))
      | _ => none
    | .lload _ => match vs[r1]? with
      | some (some (.long x)) => some ([], (pc + len, vs, .long x :: st, h, bk, bn))
      | _ => none
    | .lload_n _ => match vs[r1]? with
      | some (some (.long x)) => some ([], (pc + len, vs, .long x :: st, h, bk, bn))
      | _ => none
    | .aload_n _ => match vs[r1]? with
      | some (some (.ref x)) => some ([], (pc + len, vs, .ref x :: st, h, bk, bn))
      | _ => none
    | .istore _ => match st with
      | .int x :: st => match vs[r1]? with
        | some _ => some ([], (pc + len, (clr vs r1).set r1 (some (.int x)), st, h, bk, bn))
        | _ => none
      | _ => none
    | .istore_n _ => match st with
      | .int x :: st => match vs[r1]? with
        | some _ => some ([], (pc + len, (clr vs r1).set r1 (some (.int x)), st, h, bk, bn))
        | _ => none
      | _ => none
    | .astore_n _ => match st with
      | .ref x :: st => match vs[r1]? with
        | some _ => some ([], (pc + len, (clr vs r1).set r1 (some (.ref x)), st, h, bk, bn))
        | _ => none
      | _ => none
    | .lstore _ => match st with
      | .long x :: st => match vs[r1 + 1]? with
        | some _ => some ([], (pc + len, ((clr vs r1).set r1 (some (.long x))).set (r1 + 1) none, st, h, bk, bn))
        | _ => none
      | _ => none
    | .lstore_n _ => match st with
      | .long x :: st => match vs[r1 + 1]? with
        | some _ => some ([], (pc + len, ((clr vs r1).set r1 (some (.long x))).set (r1 + 1) none, st, h, bk, bn))
        | _ => none
      | _ => none
    | .iinc _ _ => match vs[r1]?, cv with
      | some (some (.int x)), .int y => some ([], (pc + len, (clr vs r1).set r1 (some (.int (x + y))), st, h, bk, bn))
      | _, _ => none
    | .iadd => match st with
      | .int y :: .int x :: st => some ([], (pc + len, vs, .int (x + y) :: st, h, bk, bn))
      | _ => none
    | .isub => match st with
      | .int y :: .int x :: st => some ([], (pc + len, vs, .int (x - y) :: st, h, bk, bn))
      | _ => none
    | .imul => match st with
      | .int y :: .int x :: st => some ([], (pc + len, vs, .int (x * y) :: st, h, bk, bn))
      | _ => none
    | .idiv => match st with
      | .int y :: .int x :: st => some ([¬ y = 0], (pc + len, vs, .int (x / y) :: st, h, bk, bn))
      | _ => none
    | .irem => match st with
      | .int y :: .int x :: st => some ([¬ y = 0], (pc + len, vs, .int (irm x y) :: st, h, bk, bn))
      | _ => none
    | .iand => match st with
      | .int y :: .int x :: st => some ([], (pc + len, vs, .int (x &&& y) :: st, h, bk, bn))
      | _ => none
    | .ior => match st with
      | .int y :: .int x :: st => some ([], (pc + len, vs, .int (x ||| y) :: st, h, bk, bn))
      | _ => none
    | .ixor => match st with
      | .int y :: .int x :: st => some ([], (pc + len, vs, .int (x ^^^ y) :: st, h, bk, bn))
      | _ => none
    | .ishl => match st with
      | .int y :: .int x :: st => some ([], (pc + len, vs, .int (x <<< (y &&& 31)) :: st, h, bk, bn))
      | _ => none
    | .ishr => match st with
      | .int y :: .int x :: st => some ([], (pc + len, vs, .int (x >>> (y &&& 31)) :: st, h, bk, bn))
      | _ => none
    | .iushr => match st with
      | .int y :: .int x :: st => some ([], (pc + len, vs, .int (iush x y) :: st, h, bk, bn))
      | _ => none
    | .ladd => match st with
      | .long y :: .long x :: st => some ([], (pc + len, vs, .long (x + y) :: st, h, bk, bn))
      | _ => none
    | .lmul => match st with
      | .long y :: .long x :: st => some ([], (pc + len, vs, .long (x * y) :: st, h, bk, bn))
      | _ => none
    | .ldiv => match st with
      | .long y :: .long x :: st => some ([¬ y = 0], (pc + len, vs, .long (x / y) :: st, h, bk, bn))
      | _ => none
    | .lrem => match st with
      | .long y :: .long x :: st => some ([¬ y = 0], (pc + len, vs, .long (lrm x y) :: st, h, bk, bn))
      | _ => none
    | .land => match st with
      | .long y :: .long x :: st => some ([], (pc + len, vs, .long (x &&& y) :: st, h, bk, bn))
      | _ => none
    | .lshr => match st with
      | .int y :: .long x :: st => some ([], (pc + len, vs, .long (x >>> (y.toInt64 &&& 63)) :: st, h, bk, bn))
      | _ => none
    | .lcmp => match st with
      | .long y :: .long x :: st => some ([], (pc + len, vs, .int (lg_cmp x y) :: st, h, bk, bn))
      | _ => none
    | .i2l => match st with
      | .int x :: st => some ([], (pc + len, vs, .long x.toInt64 :: st, h, bk, bn))
      | _ => none
    | .l2i => match st with
      | .long x :: st => some ([], (pc + len, vs, .int x.toInt32 :: st, h, bk, bn))
      | _ => none
    | .i2b => match st with
      | .int x :: st => some ([], (pc + len, vs, .int x.toInt8.toInt32 :: st, h, bk, bn))
      | _ => none
    | .dup => match st with
      | .int x :: st => some ([], (pc + len, vs, .int x :: .int x :: st, h, bk, bn))
      | .ref x :: st => some ([], (pc + len, vs, .ref x :: .ref x :: st, h, bk, bn))
      | _ => none
    | .dup2 => match st with
      | .int x :: .ref y :: st => some ([], (pc + len, vs, .int x :: .ref y :: .int x :: .ref y :: st, h, bk, bn))
      | _ => none
    | .pop => match st with
      | .int _ :: st => some ([], (pc + len, vs, st, h, bk, bn))
      | .ref _ :: st => some ([], (pc + len, vs, st, h, bk, bn))
      | _ => none
    | .goto _ => some ([], (r1, vs, st, h, bk, bn))
    | .getfield _ => match st with
      | .ref o :: st => match h[o]? with
        | some (.inr (ci, fs)) => match Nat.beq ci r1, fs[r2]? with
          | true, some v => some ([], (pc + len, vs, v :: st, h, bk, bn))
          | _, _ => none
        | _ => none
      | _ => none
    | .putfield _ => match st with
      | v :: .ref o :: st => match h[o]? with
        | some (.inr (ci, fs)) => match Nat.beq ci r1, fs[r2]?, cv, v with
          | true, some _, .int _, .int x => some ([], (pc + len, vs, st, h.set o (.inr (ci, fs.set r2 (.int x))), bk, bn))
          | true, some _, .long _, .int x => some ([isZ x], (pc + len, vs, st, h.set o (.inr (ci, fs.set r2 (.int x))), bk, bn))
          | true, some _, .ref _, .ref x => some ([], (pc + len, vs, st, h.set o (.inr (ci, fs.set r2 (.ref x))), bk, bn))
          | true, some _, .null, .ref x => some ([], (pc + len, vs, st, h.set o (.inr (ci, fs.set r2 (.ref x))), bk, bn))
          | _, _, _, _ => none
        | _ => none
      | _ => none
    | .arraylength => match st with
      | .ref a :: st => match h[a]? with
        | some (.inl (0, n, _)) => some ([], (pc + len, vs, .int (Int32.ofNat n) :: st, h, bk, bn))
        | _ => none
      | _ => none
    | .iaload => match st with
      | .int i :: .ref a :: st => match h[a]? with
        | some (.inl (0, n, .inl f)) => some ([inb i n], (pc + len, vs, .int (f i.toNatClampNeg) :: st, h, bk, bn))
        | _ => none
      | _ => none
    | .laload => match st with
      | .int i :: .ref a :: st => match h[a]? with
        | some (.inl (1, n, .inr (.inl f))) => some ([inb i n], (pc + len, vs, .long (f i.toNatClampNeg) :: st, h, bk, bn))
        | _ => none
      | _ => none
    | .baload => match st with
      | .int i :: .ref a :: st => match h[a]? with
        | some (.inl (2, n, .inl f)) => some ([inb i n], (pc + len, vs, .int (f i.toNatClampNeg) :: st, h, bk, bn))
        | some (.inl (3, n, .inl f)) => some ([inb i n], (pc + len, vs, .int (f i.toNatClampNeg) :: st, h, bk, bn))
        | _ => none
      | _ => none
    | .iastore => match st with
      | .int x :: .int i :: .ref a :: st => match h[a]? with
        | some (.inl (0, n, .inl f)) => some ([inb i n], (pc + len, vs, st, h.set a (.inl (0, n, .inl (upd f i.toNatClampNeg x))), bk, bn))
        | _ => none
      | _ => none
    | .lastore => match st with
      | .long x :: .int i :: .ref a :: st => match h[a]? with
        | some (.inl (1, n, .inr (.inl f))) => some ([inb i n], (pc + len, vs, st, h.set a (.inl (1, n, .inr (.inl (vp_updL f i.toNatClampNeg x)))), bk, bn))
        | _ => none
      | _ => none
    | .bastore => match st with
      | .int x :: .int i :: .ref a :: st => match h[a]? with
        | some (.inl (2, n, .inl f)) => some ([inb i n], (pc + len, vs, st, h.set a (.inl (2, n, .inl (upd f i.toNatClampNeg (vp_nar .byte x)))), bk, bn))
        | some (.inl (3, n, .inl f)) => some ([inb i n], (pc + len, vs, st, h.set a (.inl (3, n, .inl (upd f i.toNatClampNeg (vp_nar .boolean x)))), bk, bn))
        | _ => none
      | _ => none
    | _ => none
def isOT (d : Option FieldType) : Bool := match d with
  | some (.object _) => true
  | some (.array _) => true
  | _ => false
def okP (T : u_T) (k : Nat) (own : String) (ini : Bool) (cv : Value) : Bool := match cv with
  | .int _ => decide (parseFieldDescriptor (T k).2.2.1 = some .int) && decide ((T k).2.2.2 = false)
  | .long _ => decide (parseFieldDescriptor (T k).2.2.1 = some .boolean) && decide ((T k).2.2.2 = false)
  | .ref _ => isOT (parseFieldDescriptor (T k).2.2.1) && decide ((T k).2.2.2 = false)
  | .null => isOT (parseFieldDescriptor (T k).2.2.1) && decide ((T k).2.2.2 = true) && ini && decide ((T k).1 = own)
  | _ => false
/-- what a row of a method's table must be: its instruction as decoded, its links as the tables' words say -/
def okI (own : String) (ini : Bool) (b : ByteArray) (ci : CI) : Bool :=
  decide (decode b ci.1 = .ok (ci.2.2.1, ci.2.1)) &&
    match ci with
    | (pc, len, I, r1, r2, _, cv) => match I with
      | .iconst n => decide (len = 1) && match cv with | .int v => decide (Int32.ofInt n = v) | _ => false
      | .bipush n => decide (len = 2) && match cv with | .int v => decide ((Int8.ofInt n).toInt32 = v) | _ => false
      | .sipush n => decide (len = 3) && match cv with | .int v => decide ((Int16.ofInt n).toInt32 = v) | _ => false
      | .lconst n => decide (len = 1) && match cv with | .long v => decide (Int64.ofNat (n : Nat) = v) | _ => false
      | .ldc i => decide (len = 2) && match cv with | .int v => decide (.constant own i v ∈ TG) | _ => false
      | .ldc_w i => decide (len = 3) && match cv with | .int v => decide (.constant own i v ∈ TG) | _ => false
      | .ldc2_w i => decide (len = 3) && match cv with | .long v => decide (.constantLong own i v ∈ TG) | _ => false
      | .iload i => decide (i = r1) && decide (len = 2)
      | .lload i => decide (i = r1) && decide (len = 2)
      | .istore i => decide (i = r1) && decide (len = 2)
      | .lstore i => decide (i = r1) && decide (len = 2)
      | .iload_n i => decide ((i : Nat) = r1) && decide (len = 1)
      | .lload_n i => decide ((i : Nat) = r1) && decide (len = 1)
      | .aload_n i => decide ((i : Nat) = r1) && decide (len = 1)
      | .istore_n i => decide ((i : Nat) = r1) && decide (len = 1)
      | .astore_n i => decide ((i : Nat) = r1) && decide (len = 1)
      | .lstore_n i => decide ((i : Nat) = r1) && decide (len = 1)
      | .iinc i n => decide (i = r1) && decide (len = 3) && match cv with | .int v => decide (Int32.ofInt n = v) | _ => false
      | .goto off => decide ((pc : Int) + off = (r1 : Int)) && decide (len = 3)
      | .if_icmp _ off => decide ((pc : Int) + off = (r1 : Int)) && decide (len = 3)
      | .ifCond _ off => decide ((pc : Int) + off = (r1 : Int)) && decide (len = 3)
      | .getfield i => decide (len = 3) && match CL[r1]? with
        | some q => decide (r2 < q.2.2) && decide (.fieldLink own i (q.2.1 r2).1 (q.2.1 r2).2.1 (q.2.1 r2).2.2.1 ∈ TG)
        | none => false
      | .putfield i => decide (len = 3) && match CL[r1]? with
        | some q => decide (r2 < q.2.2) && decide (.fieldLink own i (q.2.1 r2).1 (q.2.1 r2).2.1 (q.2.1 r2).2.2.1 ∈ TG) && okP q.2.1 r2 own ini cv
        | none => false
      | .invokevirtual _ => true
      | .invokespecial _ => true
      | .invokestatic _ => true
      | .new _ => true
      | .newarray _ => true
      | .tableswitch _ _ _ _ => true
      | _ => decide (len = 1)
def brun : List CI → AC → Option (List Prop × AC)
  | [], c => some ([], c)
  | i :: r, c => match Nat.beq i.1 c.1 with
    | false => none
    | true => match astp i c with
      | none => none
      | some (gs, c') => match brun r c' with
        | none => none
        | some (gs', c'') => some (gs ++ gs', c'')
def AllP : List Prop → Prop
  | [] => True
  | [g] => g
  | g :: gs => g ∧ AllP gs
theorem AllP_all : ∀ {gs : List Prop}, AllP gs → ∀ g ∈ gs, g
  | [], _, g, hg => by cases hg
  | [a], h, g, hg => by
    rw [List.mem_singleton.mp hg]; exact h
  | a :: b :: r, h, g, hg => by
    rcases List.mem_cons.mp hg with e | e
    · rw [e]; exact h.1
    · exact AllP_all (gs := b :: r) h.2 g e
end
section
/-! WHAT A STRETCH OF CODE DOES, over the machine: MW X conf: from conf the method ends as X says -/
abbrev CTX : Type := Program × Launch × Env × Room × State × MethodId × Array Value × List Frame × Method × Code × va_G × (Nat → ClassId) × (Nat → Nat) × Nat × (Nat → Prop) × Nat × Nat × (State → Prop)
def MW (X : CTX) (c0 : AC) : Prop :=
  match X, c0 with
  | (p, l, e, R, s, m, args, below, meth, c, D, cA, ad0, n0, A, mc, ms, Q), (pc, vs, st, h, bk, bn) =>
    ∀ (ad : Nat → Nat) (H : Heap) (locs : List Loc) (ls : Array Slot) (k n : Nat), n0 ≤ h.length → (∀ i, i < n0 → ad i = ad0 i) → va_P D CL (cW ad cA h) H → va_D A (cW ad cA h) → va_S A s.heap H locs → LH ad c.maxLocals vs ls → k + bk ≤ mc → n + bn ≤ ms →
      W p l e R s m args below meth c H locs k n Q (F0 m pc ls (st.map (cV ad)))
def CX (X : CTX) (b : ByteArray) (own : String) (ini : Bool) (fr lo : Nat) : Prop :=
  match X with
  | (p, _, _, R, s, m, args, _, meth, c, D, cA, _, _, A, mc, ms, _) =>
    p.tables.exec = Jvm.exec ∧ c.code = b ∧ s.vm.findClass own = some m.cls ∧ (∀ w ∈ TG, w.before args s = true) ∧ va_K D CL (tysOf cA) s ∧ meth.locks = false ∧ (∀ q, s.heap.size ≤ q → A q) ∧ (ini = true → meth.name = "<init>") ∧ R.cells = mc ∧ R.slots = ms ∧ fr ≤ R.frames ∧ lo ≤ R.locals
theorem CL_in : ∀ (i : Nat) (C : String) (T : u_T) (N : Nat), CL[i]? = some (C, T, N) → ∀ w ∈ u_ws C T N, w ∈ TG := by
  intro i C T N h
  match i, h with
  | 0, h => cases h; exact inX0
  | 1, h => cases h; exact inX1
  | 2, h => cases h; exact inX2
  | 3, h => cases h; exact inX3
  | 4, h => cases h; exact inX4
  | 5, h => cases h; exact inX5
  | 6, h => cases h; exact inX7
  | 7, h => cases h; exact inX8
  | 8, h => cases h; exact inX9
  | 9, h => cases h; exact inX10
  | 10, h => cases h; exact inX11
  | 11, h => cases h; exact inX12
  | n + 12, h => simp [CL] at h
theorem CL_ty : ∀ (i : Nat) (C : String) (T : u_T) (N : Nat), CL[i]? = some (C, T, N) → ∃ ty : Nat → FieldType, (∀ k, k < N → parseFieldDescriptor (T k).2.2.1 = some (ty k)) ∧ ∀ a, a < N → ∀ b, b < N → a ≠ b → (T a).2.1 ≠ (T b).2.1 := by
  intro i C T N h
  match i, h with
  | 0, h => cases h; exact ⟨tyX0, tyX0_ok, nmX0⟩
  | 1, h => cases h; exact ⟨tyX1, tyX1_ok, nmX1⟩
  | 2, h => cases h; exact ⟨tyX2, tyX2_ok, nmX2⟩
  | 3, h => cases h; exact ⟨tyX3, tyX3_ok, nmX3⟩
  | 4, h => cases h; exact ⟨tyX4, tyX4_ok, nmX4⟩
  | 5, h => cases h; exact ⟨tyX5, tyX5_ok, nmX5⟩
  | 6, h => cases h; exact ⟨tyX7, tyX7_ok, nmX7⟩
  | 7, h => cases h; exact ⟨tyX8, tyX8_ok, nmX8⟩
  | 8, h => cases h; exact ⟨tyX9, tyX9_ok, nmX9⟩
  | 9, h => cases h; exact ⟨tyX10, tyX10_ok, nmX10⟩
  | 10, h => cases h; exact ⟨tyX11, tyX11_ok, nmX11⟩
  | 11, h => cases h; exact ⟨tyX12, tyX12_ok, nmX12⟩
  | n + 12, h => simp [CL] at h
theorem okI_dec {own : String} {ini : Bool} {b : ByteArray} {ci : CI} (h : okI own ini b ci = true) : decode b ci.1 = .ok (ci.2.2.1, ci.2.1) := by
  unfold okI at h
  rw [Bool.and_eq_true] at h
  exact of_decide_eq_true h.1
theorem isZ_fits {x : Int32} (h : isZ x) : fits .boolean (.int x) = true := by
  have h1 : x &&& 1 = x := by
    have := h
    unfold isZ at this
    simp [narrow] at this
    exact this
  have h2 : x = 0 ∨ x = 1 := by
    obtain ⟨j, hj, e⟩ := pk_andE x (m := 1) 1 rfl
    rw [h1] at e
    rcases (show j = 0 ∨ j = 1 by omega) with z | z
    · subst z; exact Or.inl e
    · subst z; exact Or.inr e
  rcases h2 with e | e <;> subst e <;> rfl
theorem isOT_spec {d : Option FieldType} (h : isOT d = true) (a : Nat) : ∃ ty, d = some ty ∧ narrow ty (.ref a) = .ref a ∧ fits ty (.ref a) = true := by
  unfold isOT at h
  split at h
  · exact ⟨_, rfl, rfl, rfl⟩
  · exact ⟨_, rfl, rfl, rfl⟩
  · cases h
set_option maxHeartbeats 4000000 in
theorem MW_step {X : CTX} {b : ByteArray} {own : String} {ini : Bool} {fr lo : Nat} (C : CX X b own ini fr lo) {ci : CI} {cf cf' : AC} {gs : List Prop} (hi : okI own ini b ci = true) (hp : ci.1 = cf.1) (he : astp ci cf = some (gs, cf')) (hg : ∀ g ∈ gs, g) (kk : MW X cf') : MW X cf := by
  obtain ⟨p, l, e, R, s, m, args, below, meth, c, D, cA, ad0, n0, A, mc, ms, Q⟩ := X
  obtain ⟨pc, len, I, r1, r2, r3, cv⟩ := ci
  obtain ⟨pc', vs, st, h, bk, bn⟩ := cf
  obtain ⟨hx, hb, hown, hts, hK, hlk, hA, hin, hRc, hRs, hfr, hlo⟩ := C
  dsimp only at hp
  subst hp
  have hd := okI_dec hi
  dsimp only at hd
  unfold okI at hi
  rw [Bool.and_eq_true] at hi
  have hi := hi.2
  dsimp only at hi
  intro ad H locs ls k n hn0 had hP hD hS hl hk hn
  cases I with
  | iconst n9 =>
    dsimp only [astp] at he
    cases he
    rw [Bool.and_eq_true] at hi
    obtain ⟨h1, h2⟩ := hi
    have h1 := of_decide_eq_true h1
    subst h1
    split at h2
    · exact lv_iconst hx hb hd (of_decide_eq_true h2) (kk ad H locs ls k n hn0 had hP hD hS hl hk hn)
    · cases h2
  | bipush n9 =>
    dsimp only [astp] at he
    cases he
    rw [Bool.and_eq_true] at hi
    obtain ⟨h1, h2⟩ := hi
    have h1 := of_decide_eq_true h1
    subst h1
    split at h2
    · exact lv_bipush hx hb hd (of_decide_eq_true h2) (kk ad H locs ls k n hn0 had hP hD hS hl hk hn)
    · cases h2
  | sipush n9 =>
    dsimp only [astp] at he
    cases he
    rw [Bool.and_eq_true] at hi
    obtain ⟨h1, h2⟩ := hi
    have h1 := of_decide_eq_true h1
    subst h1
    split at h2
    · exact lv_sipush hx hb hd (of_decide_eq_true h2) (kk ad H locs ls k n hn0 had hP hD hS hl hk hn)
    · cases h2
  | lconst n9 =>
    dsimp only [astp] at he
    cases he
    rw [Bool.and_eq_true] at hi
    obtain ⟨h1, h2⟩ := hi
    have h1 := of_decide_eq_true h1
    subst h1
    split at h2
    · exact lv_lconst hx hb hd (of_decide_eq_true h2) (kk ad H locs ls k n hn0 had hP hD hS hl hk hn)
    · cases h2
  | ldc n9 =>
    dsimp only [astp] at he
    cases he
    rw [Bool.and_eq_true] at hi
    obtain ⟨h1, h2⟩ := hi
    have h1 := of_decide_eq_true h1
    subst h1
    split at h2
    · exact lv_ldc hx hb hown (hts _ (of_decide_eq_true h2)) hd (kk ad H locs ls k n hn0 had hP hD hS hl hk hn)
    · cases h2
  | ldc_w n9 =>
    dsimp only [astp] at he
    cases he
    rw [Bool.and_eq_true] at hi
    obtain ⟨h1, h2⟩ := hi
    have h1 := of_decide_eq_true h1
    subst h1
    split at h2
    · exact lv_ldcw hx hb hown (hts _ (of_decide_eq_true h2)) hd (kk ad H locs ls k n hn0 had hP hD hS hl hk hn)
    · cases h2
  | ldc2_w n9 =>
    dsimp only [astp] at he
    cases he
    rw [Bool.and_eq_true] at hi
    obtain ⟨h1, h2⟩ := hi
    have h1 := of_decide_eq_true h1
    subst h1
    split at h2
    · exact lv_ldc2 hx hb hown (hts _ (of_decide_eq_true h2)) hd (kk ad H locs ls k n hn0 had hP hD hS hl hk hn)
    · cases h2
  | iload i9 =>
    dsimp only [astp] at he
    rw [Bool.and_eq_true] at hi
    have h1 := of_decide_eq_true hi.1
    have h2 := of_decide_eq_true hi.2
    subst h1
    subst h2
    split at he
    · rename_i x hx1
      cases he
      exact lv_iload hx hb hd (hl.2.2.2 _ _ hx1) (kk ad H locs ls k n hn0 had hP hD hS hl hk hn)
    · cases he
  | lload i9 =>
    dsimp only [astp] at he
    rw [Bool.and_eq_true] at hi
    have h1 := of_decide_eq_true hi.1
    have h2 := of_decide_eq_true hi.2
    subst h1
    subst h2
    split at he
    · rename_i x hx1
      cases he
      exact lv_lload hx hb hd (hl.2.2.2 _ _ hx1) (kk ad H locs ls k n hn0 had hP hD hS hl hk hn)
    · cases he
  | iload_n i9 =>
    dsimp only [astp] at he
    rw [Bool.and_eq_true] at hi
    have h1 := of_decide_eq_true hi.1
    have h2 := of_decide_eq_true hi.2
    subst h2
    split at he
    · rename_i x hx1
      cases he
      exact lv_iload_n hx hb hd h1 (hl.2.2.2 _ _ hx1) (kk ad H locs ls k n hn0 had hP hD hS hl hk hn)
    · cases he
  | lload_n i9 =>
    dsimp only [astp] at he
    rw [Bool.and_eq_true] at hi
    have h1 := of_decide_eq_true hi.1
    have h2 := of_decide_eq_true hi.2
    subst h2
    split at he
    · rename_i x hx1
      cases he
      exact lv_lload_n hx hb hd h1 (hl.2.2.2 _ _ hx1) (kk ad H locs ls k n hn0 had hP hD hS hl hk hn)
    · cases he
  | aload_n i9 =>
    dsimp only [astp] at he
    rw [Bool.and_eq_true] at hi
    have h1 := of_decide_eq_true hi.1
    have h2 := of_decide_eq_true hi.2
    subst h2
    split at he
    · rename_i x hx1
      cases he
      exact lv_aload_n hx hb hd h1 (hl.2.2.2 _ _ hx1) (kk ad H locs ls k n hn0 had hP hD hS hl hk hn)
    · cases he
  | istore i9 =>
    dsimp only [astp] at he
    rw [Bool.and_eq_true] at hi
    have h1 := of_decide_eq_true hi.1
    have h2 := of_decide_eq_true hi.2
    subst h2
    subst h1
    split at he
    · rename_i x st
      split at he
      · rename_i o ho
        cases he
        have hlt : i9 < c.maxLocals := by rw [← hl.1]; exact (List.getElem?_eq_some_iff.mp ho).1
        exact lv_istore hx hb hd (LH_has hl) hlt rfl (fun ls' h' => kk ad H locs ls' k n hn0 had hP hD hS (LH_store1 (v := .int x) hl hlt h') hk hn)
      · cases he
    · cases he
  | istore_n i9 =>
    dsimp only [astp] at he
    rw [Bool.and_eq_true] at hi
    have h1 := of_decide_eq_true hi.1
    have h2 := of_decide_eq_true hi.2
    subst h2
    split at he
    · rename_i x st
      split at he
      · rename_i o ho
        cases he
        have hlt : r1 < c.maxLocals := by rw [← hl.1]; exact (List.getElem?_eq_some_iff.mp ho).1
        exact lv_istore_n hx hb hd h1 (LH_has hl) hlt rfl (fun ls' h' => kk ad H locs ls' k n hn0 had hP hD hS (LH_store1 (v := .int x) hl hlt h') hk hn)
      · cases he
    · cases he
  | astore_n i9 =>
    dsimp only [astp] at he
    rw [Bool.and_eq_true] at hi
    have h1 := of_decide_eq_true hi.1
    have h2 := of_decide_eq_true hi.2
    subst h2
    split at he
    · rename_i x st
      split at he
      · rename_i o ho
        cases he
        have hlt : r1 < c.maxLocals := by rw [← hl.1]; exact (List.getElem?_eq_some_iff.mp ho).1
        exact lv_astore_n hx hb hd h1 (LH_has hl) hlt rfl (fun ls' h' => kk ad H locs ls' k n hn0 had hP hD hS (LH_store1 (v := .ref x) hl hlt h') hk hn)
      · cases he
    · cases he
  | lstore i9 =>
    dsimp only [astp] at he
    rw [Bool.and_eq_true] at hi
    have h1 := of_decide_eq_true hi.1
    have h2 := of_decide_eq_true hi.2
    subst h2
    subst h1
    split at he
    · rename_i x st
      split at he
      · rename_i o ho
        cases he
        have hlt : i9 + 1 < c.maxLocals := by rw [← hl.1]; exact (List.getElem?_eq_some_iff.mp ho).1
        exact lv_lstore hx hb hd (LH_has hl) hlt rfl (fun ls' h' => kk ad H locs ls' k n hn0 had hP hD hS (LH_store2 (v := .long x) hl hlt h') hk hn)
      · cases he
    · cases he
  | lstore_n i9 =>
    dsimp only [astp] at he
    rw [Bool.and_eq_true] at hi
    have h1 := of_decide_eq_true hi.1
    have h2 := of_decide_eq_true hi.2
    subst h2
    split at he
    · rename_i x st
      split at he
      · rename_i o ho
        cases he
        have hlt : r1 + 1 < c.maxLocals := by rw [← hl.1]; exact (List.getElem?_eq_some_iff.mp ho).1
        exact lv_lstore_n hx hb hd h1 (LH_has hl) hlt rfl (fun ls' h' => kk ad H locs ls' k n hn0 had hP hD hS (LH_store2 (v := .long x) hl hlt h') hk hn)
      · cases he
    · cases he
  | iinc i9 n9 =>
    dsimp only [astp] at he
    rw [Bool.and_eq_true, Bool.and_eq_true] at hi
    have h1 := of_decide_eq_true hi.1.1
    have h2 := of_decide_eq_true hi.1.2
    have h3 := hi.2
    subst h1
    subst h2
    split at he
    · rename_i x y hx1 hi9
      cases he
      have h3 := of_decide_eq_true h3
      have hlt : i9 < c.maxLocals := by rw [← hl.1]; exact (List.getElem?_eq_some_iff.mp hx1).1
      obtain ⟨j, hj⟩ := List.getElem?_of_mem (lvp_mem.mpr ⟨_, hx1, rfl⟩ : (i9, cV ad (.int x)) ∈ lvp ad vs)
      exact lv_iinc (k := j) (v := x + y) hx hb hd (LH_has hl) hj (by rw [h3]) hlt rfl (fun ls' h' => kk ad H locs ls' k n hn0 had hP hD hS (LH_store1 (v := .int (x + y)) hl hlt h') hk hn)
    · cases he
  | iadd =>
    dsimp only [astp] at he
    have h1 := of_decide_eq_true hi
    subst h1
    split at he
    · cases he
      exact lv_iadd hx hb hd (kk ad H locs ls k n hn0 had hP hD hS hl hk hn)
    · cases he
  | isub =>
    dsimp only [astp] at he
    have h1 := of_decide_eq_true hi
    subst h1
    split at he
    · cases he
      exact lv_isub hx hb hd (kk ad H locs ls k n hn0 had hP hD hS hl hk hn)
    · cases he
  | imul =>
    dsimp only [astp] at he
    have h1 := of_decide_eq_true hi
    subst h1
    split at he
    · cases he
      exact lv_imul hx hb hd (kk ad H locs ls k n hn0 had hP hD hS hl hk hn)
    · cases he
  | iand =>
    dsimp only [astp] at he
    have h1 := of_decide_eq_true hi
    subst h1
    split at he
    · cases he
      exact lv_iand hx hb hd (kk ad H locs ls k n hn0 had hP hD hS hl hk hn)
    · cases he
  | ior =>
    dsimp only [astp] at he
    have h1 := of_decide_eq_true hi
    subst h1
    split at he
    · cases he
      exact lv_ior hx hb hd (kk ad H locs ls k n hn0 had hP hD hS hl hk hn)
    · cases he
  | ixor =>
    dsimp only [astp] at he
    have h1 := of_decide_eq_true hi
    subst h1
    split at he
    · cases he
      exact lv_ixor hx hb hd (kk ad H locs ls k n hn0 had hP hD hS hl hk hn)
    · cases he
  | ishl =>
    dsimp only [astp] at he
    have h1 := of_decide_eq_true hi
    subst h1
    split at he
    · cases he
      exact lv_ishl hx hb hd (kk ad H locs ls k n hn0 had hP hD hS hl hk hn)
    · cases he
  | ishr =>
    dsimp only [astp] at he
    have h1 := of_decide_eq_true hi
    subst h1
    split at he
    · cases he
      exact lv_ishr hx hb hd (kk ad H locs ls k n hn0 had hP hD hS hl hk hn)
    · cases he
  | ladd =>
    dsimp only [astp] at he
    have h1 := of_decide_eq_true hi
    subst h1
    split at he
    · cases he
      exact lv_ladd hx hb hd (kk ad H locs ls k n hn0 had hP hD hS hl hk hn)
    · cases he
  | lmul =>
    dsimp only [astp] at he
    have h1 := of_decide_eq_true hi
    subst h1
    split at he
    · cases he
      exact lv_lmul hx hb hd (kk ad H locs ls k n hn0 had hP hD hS hl hk hn)
    · cases he
  | land =>
    dsimp only [astp] at he
    have h1 := of_decide_eq_true hi
    subst h1
    split at he
    · cases he
      exact lv_land hx hb hd (kk ad H locs ls k n hn0 had hP hD hS hl hk hn)
    · cases he
  | idiv =>
    dsimp only [astp] at he
    have h1 := of_decide_eq_true hi
    subst h1
    split at he
    · cases he
      exact lv_idiv hx hb hd (hg _ List.mem_cons_self) (kk ad H locs ls k n hn0 had hP hD hS hl hk hn)
    · cases he
  | irem =>
    dsimp only [astp] at he
    have h1 := of_decide_eq_true hi
    subst h1
    split at he
    · cases he
      exact lv_irem hx hb hd (hg _ List.mem_cons_self) (kk ad H locs ls k n hn0 had hP hD hS hl hk hn)
    · cases he
  | ldiv =>
    dsimp only [astp] at he
    have h1 := of_decide_eq_true hi
    subst h1
    split at he
    · cases he
      exact lv_ldiv hx hb hd (hg _ List.mem_cons_self) (kk ad H locs ls k n hn0 had hP hD hS hl hk hn)
    · cases he
  | lrem =>
    dsimp only [astp] at he
    have h1 := of_decide_eq_true hi
    subst h1
    split at he
    · cases he
      exact lv_lrem hx hb hd (hg _ List.mem_cons_self) (kk ad H locs ls k n hn0 had hP hD hS hl hk hn)
    · cases he
  | iushr =>
    dsimp only [astp] at he
    have h1 := of_decide_eq_true hi
    subst h1
    split at he
    · cases he
      exact lv_iushr hx hb hd rfl (kk ad H locs ls k n hn0 had hP hD hS hl hk hn)
    · cases he
  | lshr =>
    dsimp only [astp] at he
    have h1 := of_decide_eq_true hi
    subst h1
    split at he
    · cases he
      exact lv_lshr hx hb hd rfl (kk ad H locs ls k n hn0 had hP hD hS hl hk hn)
    · cases he
  | lcmp =>
    dsimp only [astp] at he
    have h1 := of_decide_eq_true hi
    subst h1
    split at he
    · cases he
      exact W.lcmp hx hb hd (kk ad H locs ls k n hn0 had hP hD hS hl hk hn)
    · cases he
  | i2l =>
    dsimp only [astp] at he
    have h1 := of_decide_eq_true hi
    subst h1
    split at he
    · cases he
      exact lv_i2l hx hb hd rfl (kk ad H locs ls k n hn0 had hP hD hS hl hk hn)
    · cases he
  | l2i =>
    dsimp only [astp] at he
    have h1 := of_decide_eq_true hi
    subst h1
    split at he
    · cases he
      exact lv_l2i hx hb hd rfl (kk ad H locs ls k n hn0 had hP hD hS hl hk hn)
    · cases he
  | i2b =>
    dsimp only [astp] at he
    have h1 := of_decide_eq_true hi
    subst h1
    split at he
    · cases he
      exact lv_i2b hx hb hd rfl (kk ad H locs ls k n hn0 had hP hD hS hl hk hn)
    · cases he
  | dup =>
    dsimp only [astp] at he
    have h1 := of_decide_eq_true hi
    subst h1
    split at he
    · cases he
      exact lv_dup hx hb hd rfl (kk ad H locs ls k n hn0 had hP hD hS hl hk hn)
    · cases he
      exact lv_dup hx hb hd rfl (kk ad H locs ls k n hn0 had hP hD hS hl hk hn)
    · cases he
  | dup2 =>
    dsimp only [astp] at he
    have h1 := of_decide_eq_true hi
    subst h1
    split at he
    · cases he
      exact lv_dup2_11 hx hb hd rfl rfl (kk ad H locs ls k n hn0 had hP hD hS hl hk hn)
    · cases he
  | pop =>
    dsimp only [astp] at he
    have h1 := of_decide_eq_true hi
    subst h1
    split at he
    · cases he
      exact lv_pop hx hb hd rfl (kk ad H locs ls k n hn0 had hP hD hS hl hk hn)
    · cases he
      exact lv_pop hx hb hd rfl (kk ad H locs ls k n hn0 had hP hD hS hl hk hn)
    · cases he
  | goto o9 =>
    dsimp only [astp] at he
    cases he
    rw [Bool.and_eq_true] at hi
    have h1 := of_decide_eq_true hi.1
    have h2 := of_decide_eq_true hi.2
    subst h2
    exact lv_goto hx hb hd h1 (kk ad H locs ls k n hn0 had hP hD hS hl hk hn)
  | getfield i9 =>
    dsimp only [astp] at he
    rw [Bool.and_eq_true] at hi
    have h1 := of_decide_eq_true hi.1
    have h2 := hi.2
    subst h1
    split at he
    · rename_i o st
      split at he
      · rename_i ci fs ho
        split at he
        · rename_i v hc hv
          cases he
          have hc := Nat.eq_of_beq_eq_true hc
          subst hc
          split at h2
          · rename_i q hq
            obtain ⟨C0, T0, N0⟩ := q
            rw [Bool.and_eq_true] at h2
            exact va_get (D := D) (ci := ci) (C := C0) (T := T0) (N := N0) hx hb hts (CL_in _ _ _ _ hq) hown hK hP o (cW_get ho) hq r2 (of_decide_eq_true h2.1) (hts _ (of_decide_eq_true h2.2)) (fun _ z => z) (by rw [List.getElem?_map, hv]; rfl) hd (kk ad H locs ls k n hn0 had hP hD hS hl hk hn)
          · cases h2
        · cases he
      · cases he
    · cases he
  | putfield i9 =>
    dsimp only [astp] at he
    rw [Bool.and_eq_true] at hi
    have h1 := of_decide_eq_true hi.1
    have h2 := hi.2
    subst h1
    split at he
    · rename_i v o st
      split at he
      · rename_i ci fs ho
        have hPq := cW_get (ad := ad) (cA := cA) ho
        split at h2
        · rename_i q hq
          obtain ⟨C0, T0, N0⟩ := q
          obtain ⟨ty0, hty0, hnm0⟩ := CL_ty _ _ _ _ hq
          rw [Bool.and_eq_true, Bool.and_eq_true] at h2
          obtain ⟨⟨h21, h22⟩, h23⟩ := h2
          have h21 := of_decide_eq_true h21
          have h22 := hts _ (of_decide_eq_true h22)
          split at he
          · rename_i y x hc hv hi9
            cases he
            have hc := Nat.eq_of_beq_eq_true hc
            subst hc
            have hlt : r2 < (fs.map (cV ad)).length := by rw [List.length_map]; exact (List.getElem?_eq_some_iff.mp hv).1
            dsimp only [okP] at h23
            rw [Bool.and_eq_true] at h23
            have h24 := of_decide_eq_true h23.1
            have h25 := of_decide_eq_true h23.2
            refine va_put (D := D) (ci := ci) (v := cV ad (.int x)) (ty := .int) (C := C0) (T := T0) (N := N0) hx hb hts (CL_in _ _ _ _ hq) ty0 hty0 hnm0 hown hK hP hD hS o hPq hq r2 h21 h22 (fun _ z => z) h25 h24 rfl rfl hlt hd (fun H1 locs1 hP1 hD1 hS1 => ?_)
            rw [cE_fields, cW_set] at hP1 hD1
            exact kk ad H1 locs1 ls k n (by rw [List.length_set]; exact hn0) had hP1 hD1 hS1 hl hk hn
          · rename_i y x hc hv hi9
            cases he
            have hc := Nat.eq_of_beq_eq_true hc
            subst hc
            have hlt : r2 < (fs.map (cV ad)).length := by rw [List.length_map]; exact (List.getElem?_eq_some_iff.mp hv).1
            dsimp only [okP] at h23
            rw [Bool.and_eq_true] at h23
            have h24 := of_decide_eq_true h23.1
            have h25 := of_decide_eq_true h23.2
            refine va_put (D := D) (ci := ci) (v := cV ad (.int x)) (ty := .boolean) (C := C0) (T := T0) (N := N0) hx hb hts (CL_in _ _ _ _ hq) ty0 hty0 hnm0 hown hK hP hD hS o hPq hq r2 h21 h22 (fun _ z => z) h25 h24 (hg _ List.mem_cons_self) (isZ_fits (hg _ List.mem_cons_self)) hlt hd (fun H1 locs1 hP1 hD1 hS1 => ?_)
            rw [cE_fields, cW_set] at hP1 hD1
            exact kk ad H1 locs1 ls k n (by rw [List.length_set]; exact hn0) had hP1 hD1 hS1 hl hk hn
          · rename_i y x hc hv hi9
            cases he
            have hc := Nat.eq_of_beq_eq_true hc
            subst hc
            have hlt : r2 < (fs.map (cV ad)).length := by rw [List.length_map]; exact (List.getElem?_eq_some_iff.mp hv).1
            dsimp only [okP] at h23
            rw [Bool.and_eq_true] at h23
            obtain ⟨ty, h24, h26⟩ := isOT_spec h23.1 (ad x)
            have h25 := of_decide_eq_true h23.2
            refine va_put (D := D) (ci := ci) (v := cV ad (.ref x)) (ty := ty) (C := C0) (T := T0) (N := N0) hx hb hts (CL_in _ _ _ _ hq) ty0 hty0 hnm0 hown hK hP hD hS o hPq hq r2 h21 h22 (fun _ z => z) h25 h24 h26.1 h26.2 hlt hd (fun H1 locs1 hP1 hD1 hS1 => ?_)
            rw [cE_fields, cW_set] at hP1 hD1
            exact kk ad H1 locs1 ls k n (by rw [List.length_set]; exact hn0) had hP1 hD1 hS1 hl hk hn
          · rename_i x hc hv hi9
            cases he
            have hc := Nat.eq_of_beq_eq_true hc
            subst hc
            have hlt : r2 < (fs.map (cV ad)).length := by rw [List.length_map]; exact (List.getElem?_eq_some_iff.mp hv).1
            dsimp only [okP] at h23
            rw [Bool.and_eq_true, Bool.and_eq_true, Bool.and_eq_true] at h23
            obtain ⟨ty, h24, h26⟩ := isOT_spec h23.1.1.1 (ad x)
            have h25 := of_decide_eq_true h23.1.1.2
            refine va_putF (D := D) (ci := ci) (v := cV ad (.ref x)) (ty := ty) (C := C0) (T := T0) (N := N0) hx hb hts (CL_in _ _ _ _ hq) ty0 hty0 hnm0 hown hK hP hD hS o hPq hq r2 h21 h22 (fun _ z => z) h25 (hin h23.1.2) (of_decide_eq_true h23.2) h24 h26.1 h26.2 hlt hd (fun H1 locs1 hP1 hD1 hS1 => ?_)
            rw [cE_fields, cW_set] at hP1 hD1
            exact kk ad H1 locs1 ls k n (by rw [List.length_set]; exact hn0) had hP1 hD1 hS1 hl hk hn
          · cases he
        · cases h2
      · cases he
    · cases he
  | arraylength =>
    dsimp only [astp] at he
    have h1 := of_decide_eq_true hi
    subst h1
    split at he
    · rename_i a st
      split at he
      · rename_i nn x ha
        cases he
        exact va_alen hx hb hK hP a 0 (cW_get ha) rfl rfl hd (kk ad H locs ls k n hn0 had hP hD hS hl hk hn)
      · cases he
    · cases he
  | iaload =>
    dsimp only [astp] at he
    have h1 := of_decide_eq_true hi
    subst h1
    split at he
    · rename_i i a st
      split at he
      · rename_i nn f ha
        cases he
        exact va_iald hx hb hK hP a 0 (cW_get ha) rfl (hg _ List.mem_cons_self) hd (kk ad H locs ls k n hn0 had hP hD hS hl hk hn)
      · cases he
    · cases he
  | laload =>
    dsimp only [astp] at he
    have h1 := of_decide_eq_true hi
    subst h1
    split at he
    · rename_i i a st
      split at he
      · rename_i nn f ha
        cases he
        exact va_lald hx hb hK hP a 1 (cW_get ha) rfl (hg _ List.mem_cons_self) hd (kk ad H locs ls k n hn0 had hP hD hS hl hk hn)
      · cases he
    · cases he
  | baload =>
    dsimp only [astp] at he
    have h1 := of_decide_eq_true hi
    subst h1
    split at he
    · rename_i i a st
      split at he
      · rename_i nn f ha
        cases he
        exact va_bald hx hb hK hP a 2 (cW_get ha) rfl (hg _ List.mem_cons_self) hd (kk ad H locs ls k n hn0 had hP hD hS hl hk hn)
      · rename_i nn f ha
        cases he
        exact va_zald hx hb hK hP a 3 (cW_get ha) rfl (hg _ List.mem_cons_self) hd (kk ad H locs ls k n hn0 had hP hD hS hl hk hn)
      · cases he
    · cases he
  | iastore =>
    dsimp only [astp] at he
    have h1 := of_decide_eq_true hi
    subst h1
    split at he
    · rename_i x i a st
      split at he
      · rename_i nn f ha
        cases he
        refine va_iast hx hb hK hP hD hS a 0 (cW_get ha) rfl (hg _ List.mem_cons_self) hd (fun H1 locs1 hP1 hD1 hS1 => ?_)
        have e1 := cW_set ad cA h a (.inl (0, nn, .inl (upd f i.toNatClampNeg x)))
        refine kk ad H1 locs1 ls k n (by rw [List.length_set]; exact hn0) had ?_ ?_ hS1 hl hk hn
        · rw [← e1]; exact hP1
        · rw [← e1]; exact hD1
      · cases he
    · cases he
  | lastore =>
    dsimp only [astp] at he
    have h1 := of_decide_eq_true hi
    subst h1
    split at he
    · rename_i x i a st
      split at he
      · rename_i nn f ha
        cases he
        refine va_last hx hb hK hP hD hS a 1 (cW_get ha) rfl (hg _ List.mem_cons_self) hd (fun H1 locs1 hP1 hD1 hS1 => ?_)
        have e1 := cW_set ad cA h a (.inl (1, nn, .inr (.inl (vp_updL f i.toNatClampNeg x))))
        refine kk ad H1 locs1 ls k n (by rw [List.length_set]; exact hn0) had ?_ ?_ hS1 hl hk hn
        · rw [← e1]; exact hP1
        · rw [← e1]; exact hD1
      · cases he
    · cases he
  | bastore =>
    dsimp only [astp] at he
    have h1 := of_decide_eq_true hi
    subst h1
    split at he
    · rename_i x i a st
      split at he
      · rename_i nn f ha
        cases he
        refine va_bast hx hb hK hP hD hS a 2 (cW_get ha) rfl (hg _ List.mem_cons_self) hd (fun H1 locs1 hP1 hD1 hS1 => ?_)
        have e1 := cW_set ad cA h a (.inl (2, nn, .inl (upd f i.toNatClampNeg (vp_nar .byte x))))
        refine kk ad H1 locs1 ls k n (by rw [List.length_set]; exact hn0) had ?_ ?_ hS1 hl hk hn
        · rw [← e1]; exact hP1
        · rw [← e1]; exact hD1
      · rename_i nn f ha
        cases he
        refine va_zast hx hb hK hP hD hS a 3 (cW_get ha) rfl (hg _ List.mem_cons_self) hd (fun H1 locs1 hP1 hD1 hS1 => ?_)
        have e1 := cW_set ad cA h a (.inl (3, nn, .inl (upd f i.toNatClampNeg (vp_nar .boolean x))))
        refine kk ad H1 locs1 ls k n (by rw [List.length_set]; exact hn0) had ?_ ?_ hS1 hl hk hn
        · rw [← e1]; exact hP1
        · rw [← e1]; exact hD1
      · cases he
    · cases he
  | _ =>
    dsimp only [astp] at he
    cases he
end
