section
-- ===== PART A: goes FIRST, ahead of the names: the tables' words, and 'selects' of the private methods out of them =====
/-- a private method of a class that the tables say can be made, by its rows of tables_1 -/
def lw_okq (q : MethodName × Nat) : Prop := (q.1.cls ≠ "java/lang/invoke/MethodHandle" ∧ q.1.cls ≠ "java/lang/invoke/VarHandle") ∧ Cond.instantiable q.1.cls q.2 ∈ tables_1 ∧ Cond.privateMethod q.1 ∈ tables_1 ∧ Cond.instanceMethod q.1 ∈ tables_1
theorem lw_p0 : lw_okq (⟨"DeadLasts", "reload", "(I)V"⟩, 20) := ⟨⟨by decide +kernel, by decide +kernel⟩, List.mem_of_getElem? (i := 22) (by decide +kernel), List.mem_of_getElem? (i := 352) (by decide +kernel), List.mem_of_getElem? (i := 353) (by decide +kernel)⟩
theorem lw_p1 : lw_okq (⟨"DeadLasts$Town", "goesOn", "(CII)Z"⟩, 4) := ⟨⟨by decide +kernel, by decide +kernel⟩, List.mem_of_getElem? (i := 55) (by decide +kernel), List.mem_of_getElem? (i := 365) (by decide +kernel), List.mem_of_getElem? (i := 366) (by decide +kernel)⟩
theorem lw_p2 : lw_okq (⟨"DeadLasts$Town", "isWhole", "(I)Z"⟩, 4) := ⟨⟨by decide +kernel, by decide +kernel⟩, List.mem_of_getElem? (i := 55) (by decide +kernel), List.mem_of_getElem? (i := 369) (by decide +kernel), List.mem_of_getElem? (i := 370) (by decide +kernel)⟩
theorem lw_p3 : lw_okq (⟨"DeadLasts$Town", "emptied", "(I)I"⟩, 4) := ⟨⟨by decide +kernel, by decide +kernel⟩, List.mem_of_getElem? (i := 55) (by decide +kernel), List.mem_of_getElem? (i := 458) (by decide +kernel), List.mem_of_getElem? (i := 459) (by decide +kernel)⟩
theorem lw_p4 : lw_okq (⟨"DeadLasts$Town", "layWays", "()V"⟩, 4) := ⟨⟨by decide +kernel, by decide +kernel⟩, List.mem_of_getElem? (i := 55) (by decide +kernel), List.mem_of_getElem? (i := 462) (by decide +kernel), List.mem_of_getElem? (i := 463) (by decide +kernel)⟩
theorem lw_p5 : lw_okq (⟨"DeadLasts$Town", "freeOr", "(II)I"⟩, 4) := ⟨⟨by decide +kernel, by decide +kernel⟩, List.mem_of_getElem? (i := 55) (by decide +kernel), List.mem_of_getElem? (i := 466) (by decide +kernel), List.mem_of_getElem? (i := 467) (by decide +kernel)⟩
theorem lw_p6 : lw_okq (⟨"DeadLasts$Lasts", "opensLast", "(C)Z"⟩, 4) := ⟨⟨by decide +kernel, by decide +kernel⟩, List.mem_of_getElem? (i := 75) (by decide +kernel), List.mem_of_getElem? (i := 476) (by decide +kernel), List.mem_of_getElem? (i := 477) (by decide +kernel)⟩
theorem lw_p7 : lw_okq (⟨"DeadLasts$Lasts", "addLetter", "(C)Z"⟩, 4) := ⟨⟨by decide +kernel, by decide +kernel⟩, List.mem_of_getElem? (i := 75) (by decide +kernel), List.mem_of_getElem? (i := 482) (by decide +kernel), List.mem_of_getElem? (i := 483) (by decide +kernel)⟩
theorem lw_p8 : lw_okq (⟨"DeadLasts$Lasts", "emptied", "(I)I"⟩, 4) := ⟨⟨by decide +kernel, by decide +kernel⟩, List.mem_of_getElem? (i := 75) (by decide +kernel), List.mem_of_getElem? (i := 487) (by decide +kernel), List.mem_of_getElem? (i := 488) (by decide +kernel)⟩
theorem lw_p9 : lw_okq (⟨"DeadLasts$People", "take", "(LDeadLasts$Text;II)V"⟩, 2) := ⟨⟨by decide +kernel, by decide +kernel⟩, List.mem_of_getElem? (i := 96) (by decide +kernel), List.mem_of_getElem? (i := 504) (by decide +kernel), List.mem_of_getElem? (i := 505) (by decide +kernel)⟩
theorem lw_p10 : lw_okq (⟨"DeadLasts", "outdate", "()V"⟩, 20) := ⟨⟨by decide +kernel, by decide +kernel⟩, List.mem_of_getElem? (i := 22) (by decide +kernel), List.mem_of_getElem? (i := 508) (by decide +kernel), List.mem_of_getElem? (i := 509) (by decide +kernel)⟩
theorem lw_p11 : lw_okq (⟨"DeadLasts", "refusal", "(I)I"⟩, 20) := ⟨⟨by decide +kernel, by decide +kernel⟩, List.mem_of_getElem? (i := 22) (by decide +kernel), List.mem_of_getElem? (i := 569) (by decide +kernel), List.mem_of_getElem? (i := 570) (by decide +kernel)⟩
theorem lw_p12 : lw_okq (⟨"DeadLasts", "retrace", "()V"⟩, 20) := ⟨⟨by decide +kernel, by decide +kernel⟩, List.mem_of_getElem? (i := 22) (by decide +kernel), List.mem_of_getElem? (i := 577) (by decide +kernel), List.mem_of_getElem? (i := 578) (by decide +kernel)⟩
theorem lw_p13 : lw_okq (⟨"DeadLasts", "metBy", "(II)I"⟩, 20) := ⟨⟨by decide +kernel, by decide +kernel⟩, List.mem_of_getElem? (i := 22) (by decide +kernel), List.mem_of_getElem? (i := 640) (by decide +kernel), List.mem_of_getElem? (i := 641) (by decide +kernel)⟩
theorem lw_p14 : lw_okq (⟨"DeadLasts", "findPair", "(I)V"⟩, 20) := ⟨⟨by decide +kernel, by decide +kernel⟩, List.mem_of_getElem? (i := 22) (by decide +kernel), List.mem_of_getElem? (i := 662) (by decide +kernel), List.mem_of_getElem? (i := 663) (by decide +kernel)⟩
theorem lw_p15 : lw_okq (⟨"DeadLasts$Matching", "finds", "(II)Z"⟩, 3) := ⟨⟨by decide +kernel, by decide +kernel⟩, List.mem_of_getElem? (i := 264) (by decide +kernel), List.mem_of_getElem? (i := 693) (by decide +kernel), List.mem_of_getElem? (i := 694) (by decide +kernel)⟩
def lw_privs_1 : List (MethodName × Nat) := [(⟨"DeadLasts", "reload", "(I)V"⟩, 20), (⟨"DeadLasts$Town", "goesOn", "(CII)Z"⟩, 4), (⟨"DeadLasts$Town", "isWhole", "(I)Z"⟩, 4), (⟨"DeadLasts$Town", "emptied", "(I)I"⟩, 4), (⟨"DeadLasts$Town", "layWays", "()V"⟩, 4), (⟨"DeadLasts$Town", "freeOr", "(II)I"⟩, 4), (⟨"DeadLasts$Lasts", "opensLast", "(C)Z"⟩, 4), (⟨"DeadLasts$Lasts", "addLetter", "(C)Z"⟩, 4), (⟨"DeadLasts$Lasts", "emptied", "(I)I"⟩, 4), (⟨"DeadLasts$People", "take", "(LDeadLasts$Text;II)V"⟩, 2), (⟨"DeadLasts", "outdate", "()V"⟩, 20), (⟨"DeadLasts", "refusal", "(I)I"⟩, 20), (⟨"DeadLasts", "retrace", "()V"⟩, 20), (⟨"DeadLasts", "metBy", "(II)I"⟩, 20), (⟨"DeadLasts", "findPair", "(I)V"⟩, 20), (⟨"DeadLasts$Matching", "finds", "(II)Z"⟩, 3)]
theorem lw_r1 : ∀ q ∈ lw_privs_1, lw_okq q := List.forall_mem_cons.mpr ⟨lw_p0, List.forall_mem_cons.mpr ⟨lw_p1, List.forall_mem_cons.mpr ⟨lw_p2, List.forall_mem_cons.mpr ⟨lw_p3, List.forall_mem_cons.mpr ⟨lw_p4, List.forall_mem_cons.mpr ⟨lw_p5, List.forall_mem_cons.mpr ⟨lw_p6, List.forall_mem_cons.mpr ⟨lw_p7, List.forall_mem_cons.mpr ⟨lw_p8, List.forall_mem_cons.mpr ⟨lw_p9, List.forall_mem_cons.mpr ⟨lw_p10, List.forall_mem_cons.mpr ⟨lw_p11, List.forall_mem_cons.mpr ⟨lw_p12, List.forall_mem_cons.mpr ⟨lw_p13, List.forall_mem_cons.mpr ⟨lw_p14, List.forall_mem_cons.mpr ⟨lw_p15, fun _ h => absurd h List.not_mem_nil⟩⟩⟩⟩⟩⟩⟩⟩⟩⟩⟩⟩⟩⟩⟩⟩
theorem lw_p16 : lw_okq (⟨"DeadLasts", "findDry", "()I"⟩, 20) := ⟨⟨by decide +kernel, by decide +kernel⟩, List.mem_of_getElem? (i := 22) (by decide +kernel), List.mem_of_getElem? (i := 702) (by decide +kernel), List.mem_of_getElem? (i := 703) (by decide +kernel)⟩
theorem lw_p17 : lw_okq (⟨"DeadLasts", "nobodyDrownsWithout", "(II)Z"⟩, 20) := ⟨⟨by decide +kernel, by decide +kernel⟩, List.mem_of_getElem? (i := 22) (by decide +kernel), List.mem_of_getElem? (i := 706) (by decide +kernel), List.mem_of_getElem? (i := 707) (by decide +kernel)⟩
theorem lw_p18 : lw_okq (⟨"DeadLasts", "allHoldWithout", "(I)Z"⟩, 20) := ⟨⟨by decide +kernel, by decide +kernel⟩, List.mem_of_getElem? (i := 22) (by decide +kernel), List.mem_of_getElem? (i := 726) (by decide +kernel), List.mem_of_getElem? (i := 727) (by decide +kernel)⟩
theorem lw_p19 : lw_okq (⟨"DeadLasts", "findWore", "(II)I"⟩, 20) := ⟨⟨by decide +kernel, by decide +kernel⟩, List.mem_of_getElem? (i := 22) (by decide +kernel), List.mem_of_getElem? (i := 743) (by decide +kernel), List.mem_of_getElem? (i := 744) (by decide +kernel)⟩
theorem lw_p20 : lw_okq (⟨"DeadLasts", "othersHold", "(I)Z"⟩, 20) := ⟨⟨by decide +kernel, by decide +kernel⟩, List.mem_of_getElem? (i := 22) (by decide +kernel), List.mem_of_getElem? (i := 747) (by decide +kernel), List.mem_of_getElem? (i := 748) (by decide +kernel)⟩
theorem lw_p21 : lw_okq (⟨"DeadLasts", "greatestCrowd", "(II)I"⟩, 20) := ⟨⟨by decide +kernel, by decide +kernel⟩, List.mem_of_getElem? (i := 22) (by decide +kernel), List.mem_of_getElem? (i := 755) (by decide +kernel), List.mem_of_getElem? (i := 756) (by decide +kernel)⟩
theorem lw_p22 : lw_okq (⟨"DeadLasts$Storm", "comingFrom", "(IJ)J"⟩, 5) := ⟨⟨by decide +kernel, by decide +kernel⟩, List.mem_of_getElem? (i := 238) (by decide +kernel), List.mem_of_getElem? (i := 773) (by decide +kernel), List.mem_of_getElem? (i := 774) (by decide +kernel)⟩
theorem lw_p23 : lw_okq (⟨"DeadLasts", "mixedLast", "(JI)J"⟩, 20) := ⟨⟨by decide +kernel, by decide +kernel⟩, List.mem_of_getElem? (i := 22) (by decide +kernel), List.mem_of_getElem? (i := 853) (by decide +kernel), List.mem_of_getElem? (i := 854) (by decide +kernel)⟩
theorem lw_p24 : lw_okq (⟨"DeadLasts", "mixedWalk", "(JI)J"⟩, 20) := ⟨⟨by decide +kernel, by decide +kernel⟩, List.mem_of_getElem? (i := 22) (by decide +kernel), List.mem_of_getElem? (i := 858) (by decide +kernel), List.mem_of_getElem? (i := 859) (by decide +kernel)⟩
theorem lw_p25 : lw_okq (⟨"DeadLasts", "mixedPlans", "(JI)J"⟩, 20) := ⟨⟨by decide +kernel, by decide +kernel⟩, List.mem_of_getElem? (i := 22) (by decide +kernel), List.mem_of_getElem? (i := 866) (by decide +kernel), List.mem_of_getElem? (i := 867) (by decide +kernel)⟩
theorem lw_p26 : lw_okq (⟨"DeadLastsModel", "finds", "(I)I"⟩, 36) := ⟨⟨by decide +kernel, by decide +kernel⟩, List.mem_of_getElem? (i := 883) (by decide +kernel), List.mem_of_getElem? (i := 1010) (by decide +kernel), List.mem_of_getElem? (i := 1011) (by decide +kernel)⟩
theorem lw_p27 : lw_okq (⟨"DeadLastsModel", "lacks", "(III)I"⟩, 36) := ⟨⟨by decide +kernel, by decide +kernel⟩, List.mem_of_getElem? (i := 883) (by decide +kernel), List.mem_of_getElem? (i := 1022) (by decide +kernel), List.mem_of_getElem? (i := 1023) (by decide +kernel)⟩
theorem lw_p28 : lw_okq (⟨"DeadLastsModel", "readsText", "(I)I"⟩, 36) := ⟨⟨by decide +kernel, by decide +kernel⟩, List.mem_of_getElem? (i := 883) (by decide +kernel), List.mem_of_getElem? (i := 1058) (by decide +kernel), List.mem_of_getElem? (i := 1059) (by decide +kernel)⟩
theorem lw_p29 : lw_okq (⟨"DeadLastsModel", "readsTown", "()I"⟩, 36) := ⟨⟨by decide +kernel, by decide +kernel⟩, List.mem_of_getElem? (i := 883) (by decide +kernel), List.mem_of_getElem? (i := 1062) (by decide +kernel), List.mem_of_getElem? (i := 1063) (by decide +kernel)⟩
theorem lw_p30 : lw_okq (⟨"DeadLastsModel", "torn", "(I)I"⟩, 36) := ⟨⟨by decide +kernel, by decide +kernel⟩, List.mem_of_getElem? (i := 883) (by decide +kernel), List.mem_of_getElem? (i := 1066) (by decide +kernel), List.mem_of_getElem? (i := 1067) (by decide +kernel)⟩
theorem lw_p31 : lw_okq (⟨"DeadLastsModel", "readsLasts", "()I"⟩, 36) := ⟨⟨by decide +kernel, by decide +kernel⟩, List.mem_of_getElem? (i := 883) (by decide +kernel), List.mem_of_getElem? (i := 1073) (by decide +kernel), List.mem_of_getElem? (i := 1074) (by decide +kernel)⟩
def lw_privs_2 : List (MethodName × Nat) := [(⟨"DeadLasts", "findDry", "()I"⟩, 20), (⟨"DeadLasts", "nobodyDrownsWithout", "(II)Z"⟩, 20), (⟨"DeadLasts", "allHoldWithout", "(I)Z"⟩, 20), (⟨"DeadLasts", "findWore", "(II)I"⟩, 20), (⟨"DeadLasts", "othersHold", "(I)Z"⟩, 20), (⟨"DeadLasts", "greatestCrowd", "(II)I"⟩, 20), (⟨"DeadLasts$Storm", "comingFrom", "(IJ)J"⟩, 5), (⟨"DeadLasts", "mixedLast", "(JI)J"⟩, 20), (⟨"DeadLasts", "mixedWalk", "(JI)J"⟩, 20), (⟨"DeadLasts", "mixedPlans", "(JI)J"⟩, 20), (⟨"DeadLastsModel", "finds", "(I)I"⟩, 36), (⟨"DeadLastsModel", "lacks", "(III)I"⟩, 36), (⟨"DeadLastsModel", "readsText", "(I)I"⟩, 36), (⟨"DeadLastsModel", "readsTown", "()I"⟩, 36), (⟨"DeadLastsModel", "torn", "(I)I"⟩, 36), (⟨"DeadLastsModel", "readsLasts", "()I"⟩, 36)]
theorem lw_r2 : ∀ q ∈ lw_privs_2, lw_okq q := List.forall_mem_cons.mpr ⟨lw_p16, List.forall_mem_cons.mpr ⟨lw_p17, List.forall_mem_cons.mpr ⟨lw_p18, List.forall_mem_cons.mpr ⟨lw_p19, List.forall_mem_cons.mpr ⟨lw_p20, List.forall_mem_cons.mpr ⟨lw_p21, List.forall_mem_cons.mpr ⟨lw_p22, List.forall_mem_cons.mpr ⟨lw_p23, List.forall_mem_cons.mpr ⟨lw_p24, List.forall_mem_cons.mpr ⟨lw_p25, List.forall_mem_cons.mpr ⟨lw_p26, List.forall_mem_cons.mpr ⟨lw_p27, List.forall_mem_cons.mpr ⟨lw_p28, List.forall_mem_cons.mpr ⟨lw_p29, List.forall_mem_cons.mpr ⟨lw_p30, List.forall_mem_cons.mpr ⟨lw_p31, fun _ h => absurd h List.not_mem_nil⟩⟩⟩⟩⟩⟩⟩⟩⟩⟩⟩⟩⟩⟩⟩⟩
theorem lw_p32 : lw_okq (⟨"DeadLastsModel", "readsPeople", "()I"⟩, 36) := ⟨⟨by decide +kernel, by decide +kernel⟩, List.mem_of_getElem? (i := 883) (by decide +kernel), List.mem_of_getElem? (i := 1080) (by decide +kernel), List.mem_of_getElem? (i := 1081) (by decide +kernel)⟩
theorem lw_p33 : lw_okq (⟨"DeadLastsModel", "isLast", "(I)Z"⟩, 36) := ⟨⟨by decide +kernel, by decide +kernel⟩, List.mem_of_getElem? (i := 883) (by decide +kernel), List.mem_of_getElem? (i := 1100) (by decide +kernel), List.mem_of_getElem? (i := 1101) (by decide +kernel)⟩
theorem lw_p34 : lw_okq (⟨"DeadLastsModel", "lastBy", "(II)I"⟩, 36) := ⟨⟨by decide +kernel, by decide +kernel⟩, List.mem_of_getElem? (i := 883) (by decide +kernel), List.mem_of_getElem? (i := 1105) (by decide +kernel), List.mem_of_getElem? (i := 1106) (by decide +kernel)⟩
theorem lw_p35 : lw_okq (⟨"DeadLastsModel", "isPerson", "(I)Z"⟩, 36) := ⟨⟨by decide +kernel, by decide +kernel⟩, List.mem_of_getElem? (i := 883) (by decide +kernel), List.mem_of_getElem? (i := 1113) (by decide +kernel), List.mem_of_getElem? (i := 1114) (by decide +kernel)⟩
theorem lw_p36 : lw_okq (⟨"DeadLastsModel", "find", "()V"⟩, 36) := ⟨⟨by decide +kernel, by decide +kernel⟩, List.mem_of_getElem? (i := 883) (by decide +kernel), List.mem_of_getElem? (i := 1139) (by decide +kernel), List.mem_of_getElem? (i := 1140) (by decide +kernel)⟩
theorem lw_p37 : lw_okq (⟨"DeadLastsModel", "lives", "()V"⟩, 36) := ⟨⟨by decide +kernel, by decide +kernel⟩, List.mem_of_getElem? (i := 883) (by decide +kernel), List.mem_of_getElem? (i := 1143) (by decide +kernel), List.mem_of_getElem? (i := 1144) (by decide +kernel)⟩
theorem lw_p38 : lw_okq (⟨"DeadLastsModel", "begins", "()V"⟩, 36) := ⟨⟨by decide +kernel, by decide +kernel⟩, List.mem_of_getElem? (i := 883) (by decide +kernel), List.mem_of_getElem? (i := 1147) (by decide +kernel), List.mem_of_getElem? (i := 1148) (by decide +kernel)⟩
theorem lw_p39 : lw_okq (⟨"DeadLastsModel", "settles", "(II)V"⟩, 36) := ⟨⟨by decide +kernel, by decide +kernel⟩, List.mem_of_getElem? (i := 883) (by decide +kernel), List.mem_of_getElem? (i := 1151) (by decide +kernel), List.mem_of_getElem? (i := 1152) (by decide +kernel)⟩
theorem lw_p40 : lw_okq (⟨"DeadLastsModel", "walks", "(II)V"⟩, 36) := ⟨⟨by decide +kernel, by decide +kernel⟩, List.mem_of_getElem? (i := 883) (by decide +kernel), List.mem_of_getElem? (i := 1155) (by decide +kernel), List.mem_of_getElem? (i := 1156) (by decide +kernel)⟩
theorem lw_p41 : lw_okq (⟨"DeadLastsModel", "isRain", "(I)Z"⟩, 36) := ⟨⟨by decide +kernel, by decide +kernel⟩, List.mem_of_getElem? (i := 883) (by decide +kernel), List.mem_of_getElem? (i := 1159) (by decide +kernel), List.mem_of_getElem? (i := 1160) (by decide +kernel)⟩
theorem lw_p42 : lw_okq (⟨"DeadLastsModel", "wayBy", "(III)I"⟩, 36) := ⟨⟨by decide +kernel, by decide +kernel⟩, List.mem_of_getElem? (i := 883) (by decide +kernel), List.mem_of_getElem? (i := 1169) (by decide +kernel), List.mem_of_getElem? (i := 1170) (by decide +kernel)⟩
theorem lw_p43 : lw_okq (⟨"DeadLastsModel", "beside", "(II)I"⟩, 36) := ⟨⟨by decide +kernel, by decide +kernel⟩, List.mem_of_getElem? (i := 883) (by decide +kernel), List.mem_of_getElem? (i := 1173) (by decide +kernel), List.mem_of_getElem? (i := 1174) (by decide +kernel)⟩
theorem lw_p44 : lw_okq (⟨"DeadLastsModel", "meet", "(I)V"⟩, 36) := ⟨⟨by decide +kernel, by decide +kernel⟩, List.mem_of_getElem? (i := 883) (by decide +kernel), List.mem_of_getElem? (i := 1177) (by decide +kernel), List.mem_of_getElem? (i := 1178) (by decide +kernel)⟩
theorem lw_p45 : lw_okq (⟨"DeadLastsModel", "whoBy", "(I)I"⟩, 36) := ⟨⟨by decide +kernel, by decide +kernel⟩, List.mem_of_getElem? (i := 883) (by decide +kernel), List.mem_of_getElem? (i := 1192) (by decide +kernel), List.mem_of_getElem? (i := 1193) (by decide +kernel)⟩
theorem lw_p46 : lw_okq (⟨"DeadLastsModel", "metBy", "(I)I"⟩, 36) := ⟨⟨by decide +kernel, by decide +kernel⟩, List.mem_of_getElem? (i := 883) (by decide +kernel), List.mem_of_getElem? (i := 1200) (by decide +kernel), List.mem_of_getElem? (i := 1201) (by decide +kernel)⟩
theorem lw_p47 : lw_okq (⟨"DeadLastsModel", "rifestNow", "()I"⟩, 36) := ⟨⟨by decide +kernel, by decide +kernel⟩, List.mem_of_getElem? (i := 883) (by decide +kernel), List.mem_of_getElem? (i := 1212) (by decide +kernel), List.mem_of_getElem? (i := 1213) (by decide +kernel)⟩
def lw_privs_3 : List (MethodName × Nat) := [(⟨"DeadLastsModel", "readsPeople", "()I"⟩, 36), (⟨"DeadLastsModel", "isLast", "(I)Z"⟩, 36), (⟨"DeadLastsModel", "lastBy", "(II)I"⟩, 36), (⟨"DeadLastsModel", "isPerson", "(I)Z"⟩, 36), (⟨"DeadLastsModel", "find", "()V"⟩, 36), (⟨"DeadLastsModel", "lives", "()V"⟩, 36), (⟨"DeadLastsModel", "begins", "()V"⟩, 36), (⟨"DeadLastsModel", "settles", "(II)V"⟩, 36), (⟨"DeadLastsModel", "walks", "(II)V"⟩, 36), (⟨"DeadLastsModel", "isRain", "(I)Z"⟩, 36), (⟨"DeadLastsModel", "wayBy", "(III)I"⟩, 36), (⟨"DeadLastsModel", "beside", "(II)I"⟩, 36), (⟨"DeadLastsModel", "meet", "(I)V"⟩, 36), (⟨"DeadLastsModel", "whoBy", "(I)I"⟩, 36), (⟨"DeadLastsModel", "metBy", "(I)I"⟩, 36), (⟨"DeadLastsModel", "rifestNow", "()I"⟩, 36)]
theorem lw_r3 : ∀ q ∈ lw_privs_3, lw_okq q := List.forall_mem_cons.mpr ⟨lw_p32, List.forall_mem_cons.mpr ⟨lw_p33, List.forall_mem_cons.mpr ⟨lw_p34, List.forall_mem_cons.mpr ⟨lw_p35, List.forall_mem_cons.mpr ⟨lw_p36, List.forall_mem_cons.mpr ⟨lw_p37, List.forall_mem_cons.mpr ⟨lw_p38, List.forall_mem_cons.mpr ⟨lw_p39, List.forall_mem_cons.mpr ⟨lw_p40, List.forall_mem_cons.mpr ⟨lw_p41, List.forall_mem_cons.mpr ⟨lw_p42, List.forall_mem_cons.mpr ⟨lw_p43, List.forall_mem_cons.mpr ⟨lw_p44, List.forall_mem_cons.mpr ⟨lw_p45, List.forall_mem_cons.mpr ⟨lw_p46, List.forall_mem_cons.mpr ⟨lw_p47, fun _ h => absurd h List.not_mem_nil⟩⟩⟩⟩⟩⟩⟩⟩⟩⟩⟩⟩⟩⟩⟩⟩
theorem lw_p48 : lw_okq (⟨"DeadLastsModel", "pairOf", "(II)I"⟩, 36) := ⟨⟨by decide +kernel, by decide +kernel⟩, List.mem_of_getElem? (i := 883) (by decide +kernel), List.mem_of_getElem? (i := 1220) (by decide +kernel), List.mem_of_getElem? (i := 1221) (by decide +kernel)⟩
theorem lw_p49 : lw_okq (⟨"DeadLastsModel", "comes", "(I)I"⟩, 36) := ⟨⟨by decide +kernel, by decide +kernel⟩, List.mem_of_getElem? (i := 883) (by decide +kernel), List.mem_of_getElem? (i := 1224) (by decide +kernel), List.mem_of_getElem? (i := 1225) (by decide +kernel)⟩
theorem lw_p50 : lw_okq (⟨"DeadLastsModel", "solesOf", "(I)I"⟩, 36) := ⟨⟨by decide +kernel, by decide +kernel⟩, List.mem_of_getElem? (i := 883) (by decide +kernel), List.mem_of_getElem? (i := 1232) (by decide +kernel), List.mem_of_getElem? (i := 1233) (by decide +kernel)⟩
theorem lw_p51 : lw_okq (⟨"DeadLastsModel", "matchNow", "()I"⟩, 36) := ⟨⟨by decide +kernel, by decide +kernel⟩, List.mem_of_getElem? (i := 883) (by decide +kernel), List.mem_of_getElem? (i := 1240) (by decide +kernel), List.mem_of_getElem? (i := 1241) (by decide +kernel)⟩
theorem lw_p52 : lw_okq (⟨"DeadLastsModel", "comesIn", "(II)Z"⟩, 36) := ⟨⟨by decide +kernel, by decide +kernel⟩, List.mem_of_getElem? (i := 883) (by decide +kernel), List.mem_of_getElem? (i := 1244) (by decide +kernel), List.mem_of_getElem? (i := 1245) (by decide +kernel)⟩
theorem lw_p53 : lw_okq (⟨"DeadLastsModel", "dryOf", "(I)I"⟩, 36) := ⟨⟨by decide +kernel, by decide +kernel⟩, List.mem_of_getElem? (i := 883) (by decide +kernel), List.mem_of_getElem? (i := 1256) (by decide +kernel), List.mem_of_getElem? (i := 1257) (by decide +kernel)⟩
theorem lw_p54 : lw_okq (⟨"DeadLastsModel", "isDry", "(I)Z"⟩, 36) := ⟨⟨by decide +kernel, by decide +kernel⟩, List.mem_of_getElem? (i := 883) (by decide +kernel), List.mem_of_getElem? (i := 1260) (by decide +kernel), List.mem_of_getElem? (i := 1261) (by decide +kernel)⟩
theorem lw_p55 : lw_okq (⟨"DeadLastsModel", "neverNow", "()I"⟩, 36) := ⟨⟨by decide +kernel, by decide +kernel⟩, List.mem_of_getElem? (i := 883) (by decide +kernel), List.mem_of_getElem? (i := 1277) (by decide +kernel), List.mem_of_getElem? (i := 1278) (by decide +kernel)⟩
theorem lw_p56 : lw_okq (⟨"DeadLastsModel", "isSeen", "()Z"⟩, 36) := ⟨⟨by decide +kernel, by decide +kernel⟩, List.mem_of_getElem? (i := 883) (by decide +kernel), List.mem_of_getElem? (i := 1281) (by decide +kernel), List.mem_of_getElem? (i := 1282) (by decide +kernel)⟩
theorem lw_p57 : lw_okq (⟨"DeadLastsModel", "woreOf", "(II)I"⟩, 36) := ⟨⟨by decide +kernel, by decide +kernel⟩, List.mem_of_getElem? (i := 883) (by decide +kernel), List.mem_of_getElem? (i := 1289) (by decide +kernel), List.mem_of_getElem? (i := 1290) (by decide +kernel)⟩
theorem lw_p58 : lw_okq (⟨"DeadLastsModel", "askOf", "(I)I"⟩, 36) := ⟨⟨by decide +kernel, by decide +kernel⟩, List.mem_of_getElem? (i := 883) (by decide +kernel), List.mem_of_getElem? (i := 1297) (by decide +kernel), List.mem_of_getElem? (i := 1298) (by decide +kernel)⟩
theorem lw_p59 : lw_okq (⟨"DeadLastsModel", "alike", "(II)I"⟩, 36) := ⟨⟨by decide +kernel, by decide +kernel⟩, List.mem_of_getElem? (i := 883) (by decide +kernel), List.mem_of_getElem? (i := 1301) (by decide +kernel), List.mem_of_getElem? (i := 1302) (by decide +kernel)⟩
theorem lw_p60 : lw_okq (⟨"DeadLastsModel", "stormOf", "(IIII)J"⟩, 36) := ⟨⟨by decide +kernel, by decide +kernel⟩, List.mem_of_getElem? (i := 883) (by decide +kernel), List.mem_of_getElem? (i := 1311) (by decide +kernel), List.mem_of_getElem? (i := 1312) (by decide +kernel)⟩
theorem lw_p61 : lw_okq (⟨"DeadLastsModel", "shelvesOf", "(II)I"⟩, 36) := ⟨⟨by decide +kernel, by decide +kernel⟩, List.mem_of_getElem? (i := 883) (by decide +kernel), List.mem_of_getElem? (i := 1326) (by decide +kernel), List.mem_of_getElem? (i := 1327) (by decide +kernel)⟩
theorem lw_p62 : lw_okq (⟨"DeadLastsModel", "lot", "(I)I"⟩, 36) := ⟨⟨by decide +kernel, by decide +kernel⟩, List.mem_of_getElem? (i := 883) (by decide +kernel), List.mem_of_getElem? (i := 1330) (by decide +kernel), List.mem_of_getElem? (i := 1331) (by decide +kernel)⟩
theorem lw_p63 : lw_okq (⟨"DeadLastsModel", "tellsPerson", "(JI)J"⟩, 36) := ⟨⟨by decide +kernel, by decide +kernel⟩, List.mem_of_getElem? (i := 883) (by decide +kernel), List.mem_of_getElem? (i := 1356) (by decide +kernel), List.mem_of_getElem? (i := 1357) (by decide +kernel)⟩
def lw_privs_4 : List (MethodName × Nat) := [(⟨"DeadLastsModel", "pairOf", "(II)I"⟩, 36), (⟨"DeadLastsModel", "comes", "(I)I"⟩, 36), (⟨"DeadLastsModel", "solesOf", "(I)I"⟩, 36), (⟨"DeadLastsModel", "matchNow", "()I"⟩, 36), (⟨"DeadLastsModel", "comesIn", "(II)Z"⟩, 36), (⟨"DeadLastsModel", "dryOf", "(I)I"⟩, 36), (⟨"DeadLastsModel", "isDry", "(I)Z"⟩, 36), (⟨"DeadLastsModel", "neverNow", "()I"⟩, 36), (⟨"DeadLastsModel", "isSeen", "()Z"⟩, 36), (⟨"DeadLastsModel", "woreOf", "(II)I"⟩, 36), (⟨"DeadLastsModel", "askOf", "(I)I"⟩, 36), (⟨"DeadLastsModel", "alike", "(II)I"⟩, 36), (⟨"DeadLastsModel", "stormOf", "(IIII)J"⟩, 36), (⟨"DeadLastsModel", "shelvesOf", "(II)I"⟩, 36), (⟨"DeadLastsModel", "lot", "(I)I"⟩, 36), (⟨"DeadLastsModel", "tellsPerson", "(JI)J"⟩, 36)]
theorem lw_r4 : ∀ q ∈ lw_privs_4, lw_okq q := List.forall_mem_cons.mpr ⟨lw_p48, List.forall_mem_cons.mpr ⟨lw_p49, List.forall_mem_cons.mpr ⟨lw_p50, List.forall_mem_cons.mpr ⟨lw_p51, List.forall_mem_cons.mpr ⟨lw_p52, List.forall_mem_cons.mpr ⟨lw_p53, List.forall_mem_cons.mpr ⟨lw_p54, List.forall_mem_cons.mpr ⟨lw_p55, List.forall_mem_cons.mpr ⟨lw_p56, List.forall_mem_cons.mpr ⟨lw_p57, List.forall_mem_cons.mpr ⟨lw_p58, List.forall_mem_cons.mpr ⟨lw_p59, List.forall_mem_cons.mpr ⟨lw_p60, List.forall_mem_cons.mpr ⟨lw_p61, List.forall_mem_cons.mpr ⟨lw_p62, List.forall_mem_cons.mpr ⟨lw_p63, fun _ h => absurd h List.not_mem_nil⟩⟩⟩⟩⟩⟩⟩⟩⟩⟩⟩⟩⟩⟩⟩⟩
theorem lw_p64 : lw_okq (⟨"DeadLastsModel", "tellsStep", "(JII)J"⟩, 36) := ⟨⟨by decide +kernel, by decide +kernel⟩, List.mem_of_getElem? (i := 883) (by decide +kernel), List.mem_of_getElem? (i := 1360) (by decide +kernel), List.mem_of_getElem? (i := 1361) (by decide +kernel)⟩
def lw_privs_5 : List (MethodName × Nat) := [(⟨"DeadLastsModel", "tellsStep", "(JII)J"⟩, 36)]
theorem lw_r5 : ∀ q ∈ lw_privs_5, lw_okq q := List.forall_mem_cons.mpr ⟨lw_p64, fun _ h => absurd h List.not_mem_nil⟩
def lw_privs : List (MethodName × Nat) := lw_privs_1 ++ (lw_privs_2 ++ (lw_privs_3 ++ (lw_privs_4 ++ (lw_privs_5))))
def lw_tbl : List Cond := k2_sels lw_privs ++ tables_1
theorem lw_privs_ok : ∀ q ∈ lw_privs, lw_okq q := by
  show ∀ q ∈ lw_privs_1 ++ (lw_privs_2 ++ (lw_privs_3 ++ (lw_privs_4 ++ (lw_privs_5)))), lw_okq q
  exact List.forall_mem_append.mpr ⟨lw_r1, List.forall_mem_append.mpr ⟨lw_r2, List.forall_mem_append.mpr ⟨lw_r3, List.forall_mem_append.mpr ⟨lw_r4, lw_r5⟩⟩⟩⟩
end
section
def RX0 : String := "DeadLasts$Lasts"
def TX0 : u_T := fun k => match k with
  | 0 => ("DeadLasts$Lasts", "kinds", "[I", true)
  | 1 => ("DeadLasts$Lasts", "lengths", "[I", true)
  | 2 => ("DeadLasts$Lasts", "letters", "[I", true)
  | _ => ("DeadLasts$Lasts", "size", "I", false)
def tyX0 : Nat → FieldType := fun k => match k with
  | 0 => .array .int
  | 1 => .array .int
  | 2 => .array .int
  | _ => .int
abbrev wsX00 : List Cond := u_ws RX0 TX0 4
theorem nmX0 : ∀ a, a < 4 → ∀ b, b < 4 → a ≠ b → (TX0 a).2.1 ≠ (TX0 b).2.1 := by decide +kernel
theorem tyX0_ok : ∀ k, k < 4 → parseFieldDescriptor (TX0 k).2.2.1 = some (tyX0 k) := by decide +kernel
abbrev cX0_init : ByteArray := prog_2_method_1_code
def yX0_init : MethodName := ⟨RX0, "<init>", "()V"⟩
abbrev cX0_load : ByteArray := prog_2_method_2_code
def yX0_load : MethodName := ⟨RX0, "load", "(LDeadLasts$Text;)I"⟩
abbrev cX0_opensLast : ByteArray := prog_2_method_3_code
def yX0_opensLast : MethodName := ⟨RX0, "opensLast", "(C)Z"⟩
abbrev cX0_addLetter : ByteArray := prog_2_method_4_code
def yX0_addLetter : MethodName := ⟨RX0, "addLetter", "(C)Z"⟩
abbrev cX0_emptied : ByteArray := prog_2_method_5_code
def yX0_emptied : MethodName := ⟨RX0, "emptied", "(I)I"⟩
abbrev cX0_told : ByteArray := prog_2_method_6_code
def yX0_told : MethodName := ⟨RX0, "told", "(II)I"⟩
abbrev cX0_wayOf : ByteArray := prog_2_method_7_code
def yX0_wayOf : MethodName := ⟨RX0, "wayOf", "(II)I"⟩
def RX1 : String := "DeadLasts$Matching"
def TX1 : u_T := fun k => match k with
  | 0 => ("DeadLasts$Matching", "allowed", "[I", true)
  | 1 => ("DeadLasts$Matching", "holders", "[I", true)
  | _ => ("DeadLasts$Matching", "tried", "I", false)
def tyX1 : Nat → FieldType := fun k => match k with
  | 0 => .array .int
  | 1 => .array .int
  | _ => .int
abbrev wsX10 : List Cond := u_ws RX1 TX1 3
theorem nmX1 : ∀ a, a < 3 → ∀ b, b < 3 → a ≠ b → (TX1 a).2.1 ≠ (TX1 b).2.1 := by decide +kernel
theorem tyX1_ok : ∀ k, k < 3 → parseFieldDescriptor (TX1 k).2.2.1 = some (tyX1 k) := by decide +kernel
abbrev cX1_init : ByteArray := prog_3_method_1_code
def yX1_init : MethodName := ⟨RX1, "<init>", "()V"⟩
abbrev cX1_clear : ByteArray := prog_3_method_2_code
def yX1_clear : MethodName := ⟨RX1, "clear", "()V"⟩
abbrev cX1_allow : ByteArray := prog_3_method_3_code
def yX1_allow : MethodName := ⟨RX1, "allow", "(II)V"⟩
abbrev cX1_greatest : ByteArray := prog_3_method_4_code
def yX1_greatest : MethodName := ⟨RX1, "greatest", "()I"⟩
abbrev cX1_finds : ByteArray := prog_3_method_5_code
def yX1_finds : MethodName := ⟨RX1, "finds", "(II)Z"⟩
def RX2 : String := "DeadLasts$People"
def TX2 : u_T := fun k => match k with
  | 0 => ("DeadLasts$People", "fields", "[I", true)
  | _ => ("DeadLasts$People", "size", "I", false)
def tyX2 : Nat → FieldType := fun k => match k with
  | 0 => .array .int
  | _ => .int
abbrev wsX20 : List Cond := u_ws RX2 TX2 2
theorem nmX2 : ∀ a, a < 2 → ∀ b, b < 2 → a ≠ b → (TX2 a).2.1 ≠ (TX2 b).2.1 := by decide +kernel
theorem tyX2_ok : ∀ k, k < 2 → parseFieldDescriptor (TX2 k).2.2.1 = some (tyX2 k) := by decide +kernel
abbrev cX2_init : ByteArray := prog_4_method_1_code
def yX2_init : MethodName := ⟨RX2, "<init>", "()V"⟩
abbrev cX2_load : ByteArray := prog_4_method_2_code
def yX2_load : MethodName := ⟨RX2, "load", "(LDeadLasts$Text;)I"⟩
abbrev cX2_fits : ByteArray := prog_4_method_3_code
def yX2_fits : MethodName := ⟨RX2, "fits", "(IC)Z"⟩
abbrev cX2_take : ByteArray := prog_4_method_4_code
def yX2_take : MethodName := ⟨RX2, "take", "(LDeadLasts$Text;II)V"⟩
abbrev cX2_told : ByteArray := prog_4_method_5_code
def yX2_told : MethodName := ⟨RX2, "told", "(II)I"⟩
def RX3 : String := "DeadLasts$Rains"
def TX3 : u_T := fun k => match k with
  | 0 => ("DeadLasts$Rains", "steps", "[I", true)
  | _ => ("DeadLasts$Rains", "size", "I", false)
def tyX3 : Nat → FieldType := fun k => match k with
  | 0 => .array .int
  | _ => .int
abbrev wsX30 : List Cond := u_ws RX3 TX3 2
theorem nmX3 : ∀ a, a < 2 → ∀ b, b < 2 → a ≠ b → (TX3 a).2.1 ≠ (TX3 b).2.1 := by decide +kernel
theorem tyX3_ok : ∀ k, k < 2 → parseFieldDescriptor (TX3 k).2.2.1 = some (tyX3 k) := by decide +kernel
abbrev cX3_init : ByteArray := prog_5_method_1_code
def yX3_init : MethodName := ⟨RX3, "<init>", "()V"⟩
abbrev cX3_add : ByteArray := prog_5_method_2_code
def yX3_add : MethodName := ⟨RX3, "add", "(I)Z"⟩
abbrev cX3_wetSteps : ByteArray := prog_5_method_3_code
def yX3_wetSteps : MethodName := ⟨RX3, "wetSteps", "(II)I"⟩
def RX4 : String := "DeadLasts$Sheet"
def TX4 : u_T := fun k => match k with
  | 0 => ("DeadLasts$Sheet", "items", "[I", true)
  | 1 => ("DeadLasts$Sheet", "form", "I", false)
  | _ => ("DeadLasts$Sheet", "size", "I", false)
def tyX4 : Nat → FieldType := fun k => match k with
  | 0 => .array .int
  | 1 => .int
  | _ => .int
abbrev wsX40 : List Cond := u_ws RX4 TX4 3
theorem nmX4 : ∀ a, a < 3 → ∀ b, b < 3 → a ≠ b → (TX4 a).2.1 ≠ (TX4 b).2.1 := by decide +kernel
theorem tyX4_ok : ∀ k, k < 3 → parseFieldDescriptor (TX4 k).2.2.1 = some (tyX4 k) := by decide +kernel
abbrev cX4_init : ByteArray := prog_6_method_1_code
def yX4_init : MethodName := ⟨RX4, "<init>", "()V"⟩
abbrev cX4_isLost : ByteArray := prog_6_method_2_code
def yX4_isLost : MethodName := ⟨RX4, "isLost", "()Z"⟩
abbrev cX4_renew : ByteArray := prog_6_method_3_code
def yX4_renew : MethodName := ⟨RX4, "renew", "(II)V"⟩
abbrev cX4_findingOf : ByteArray := prog_6_method_4_code
def yX4_findingOf : MethodName := ⟨RX4, "findingOf", "(II)I"⟩
abbrev cX4_hasRange : ByteArray := prog_6_method_5_code
def yX4_hasRange : MethodName := ⟨RX4, "hasRange", "(II)Z"⟩
abbrev cX4_put : ByteArray := prog_6_method_6_code
def yX4_put : MethodName := ⟨RX4, "put", "(II)V"⟩
def RX5 : String := "DeadLasts$Sightings"
def TX5 : u_T := fun k => match k with
  | 0 => ("DeadLasts$Sightings", "steps", "[I", true)
  | 1 => ("DeadLasts$Sightings", "persons", "[I", true)
  | 2 => ("DeadLasts$Sightings", "cells", "[I", true)
  | _ => ("DeadLasts$Sightings", "size", "I", false)
def tyX5 : Nat → FieldType := fun k => match k with
  | 0 => .array .int
  | 1 => .array .int
  | 2 => .array .int
  | _ => .int
abbrev wsX50 : List Cond := u_ws RX5 TX5 4
theorem nmX5 : ∀ a, a < 4 → ∀ b, b < 4 → a ≠ b → (TX5 a).2.1 ≠ (TX5 b).2.1 := by decide +kernel
theorem tyX5_ok : ∀ k, k < 4 → parseFieldDescriptor (TX5 k).2.2.1 = some (tyX5 k) := by decide +kernel
abbrev cX5_init : ByteArray := prog_7_method_1_code
def yX5_init : MethodName := ⟨RX5, "<init>", "()V"⟩
abbrev cX5_add : ByteArray := prog_7_method_2_code
def yX5_add : MethodName := ⟨RX5, "add", "(III)Z"⟩
abbrev cX5_haveNobody : ByteArray := prog_7_method_3_code
def yX5_haveNobody : MethodName := ⟨RX5, "haveNobody", "(I)Z"⟩
abbrev cX5_holdFor : ByteArray := prog_7_method_4_code
def yX5_holdFor : MethodName := ⟨RX5, "holdFor", "(ILDeadLasts$Trace;)Z"⟩
def RX6 : String := "DeadLasts$Storm"
def TX6 : u_T := fun k => match k with
  | 0 => ("DeadLasts$Storm", "stands", "[LDeadLasts$Walker;", true)
  | 1 => ("DeadLasts$Storm", "wetParts", "I", false)
  | 2 => ("DeadLasts$Storm", "steps", "I", false)
  | 3 => ("DeadLasts$Storm", "person", "I", false)
  | _ => ("DeadLasts$Storm", "chance", "J", false)
def tyX6 : Nat → FieldType := fun k => match k with
  | 0 => .array (.object "DeadLasts$Walker")
  | 1 => .int
  | 2 => .int
  | 3 => .int
  | _ => .long
abbrev wsX60 : List Cond := u_ws RX6 TX6 5
theorem nmX6 : ∀ a, a < 5 → ∀ b, b < 5 → a ≠ b → (TX6 a).2.1 ≠ (TX6 b).2.1 := by decide +kernel
theorem tyX6_ok : ∀ k, k < 5 → parseFieldDescriptor (TX6 k).2.2.1 = some (tyX6 k) := by decide +kernel
abbrev cX6_init : ByteArray := prog_8_method_1_code
def yX6_init : MethodName := ⟨RX6, "<init>", "(LDeadLasts$Town;LDeadLasts$Lasts;)V"⟩
abbrev cX6_chanceToCome : ByteArray := prog_8_method_2_code
def yX6_chanceToCome : MethodName := ⟨RX6, "chanceToCome", "(LDeadLasts$People;III)J"⟩
abbrev cX6_comingFrom : ByteArray := prog_8_method_3_code
def yX6_comingFrom : MethodName := ⟨RX6, "comingFrom", "(IJ)J"⟩
def RX7 : String := "DeadLasts$Text"
def TX7 : u_T := fun k => match k with
  | 0 => ("DeadLasts$Text", "bytes", "[I", true)
  | 1 => ("DeadLasts$Text", "most", "I", true)
  | _ => ("DeadLasts$Text", "length", "I", false)
def tyX7 : Nat → FieldType := fun k => match k with
  | 0 => .array .int
  | 1 => .int
  | _ => .int
abbrev wsX70 : List Cond := u_ws RX7 TX7 3
theorem nmX7 : ∀ a, a < 3 → ∀ b, b < 3 → a ≠ b → (TX7 a).2.1 ≠ (TX7 b).2.1 := by decide +kernel
theorem tyX7_ok : ∀ k, k < 3 → parseFieldDescriptor (TX7 k).2.2.1 = some (tyX7 k) := by decide +kernel
abbrev cX7_init : ByteArray := prog_9_method_1_code
def yX7_init : MethodName := ⟨RX7, "<init>", "(I)V"⟩
abbrev cX7_append : ByteArray := prog_9_method_2_code
def yX7_append : MethodName := ⟨RX7, "append", "(I)Z"⟩
abbrev cX7_signAt : ByteArray := prog_9_method_3_code
def yX7_signAt : MethodName := ⟨RX7, "signAt", "(I)C"⟩
def RX8 : String := "DeadLasts$Town"
def TX8 : u_T := fun k => match k with
  | 0 => ("DeadLasts$Town", "kinds", "[I", true)
  | 1 => ("DeadLasts$Town", "nextCells", "[I", true)
  | 2 => ("DeadLasts$Town", "size", "I", false)
  | _ => ("DeadLasts$Town", "width", "I", false)
def tyX8 : Nat → FieldType := fun k => match k with
  | 0 => .array .int
  | 1 => .array .int
  | 2 => .int
  | _ => .int
abbrev wsX80 : List Cond := u_ws RX8 TX8 4
theorem nmX8 : ∀ a, a < 4 → ∀ b, b < 4 → a ≠ b → (TX8 a).2.1 ≠ (TX8 b).2.1 := by decide +kernel
theorem tyX8_ok : ∀ k, k < 4 → parseFieldDescriptor (TX8 k).2.2.1 = some (tyX8 k) := by decide +kernel
abbrev cX8_init : ByteArray := prog_10_method_1_code
def yX8_init : MethodName := ⟨RX8, "<init>", "()V"⟩
abbrev cX8_load : ByteArray := prog_10_method_2_code
def yX8_load : MethodName := ⟨RX8, "load", "(LDeadLasts$Text;)I"⟩
abbrev cX8_goesOn : ByteArray := prog_10_method_3_code
def yX8_goesOn : MethodName := ⟨RX8, "goesOn", "(CII)Z"⟩
abbrev cX8_isWhole : ByteArray := prog_10_method_4_code
def yX8_isWhole : MethodName := ⟨RX8, "isWhole", "(I)Z"⟩
abbrev cX8_emptied : ByteArray := prog_10_method_5_code
def yX8_emptied : MethodName := ⟨RX8, "emptied", "(I)I"⟩
abbrev cX8_layWays : ByteArray := prog_10_method_6_code
def yX8_layWays : MethodName := ⟨RX8, "layWays", "()V"⟩
abbrev cX8_freeOr : ByteArray := prog_10_method_7_code
def yX8_freeOr : MethodName := ⟨RX8, "freeOr", "(II)I"⟩
abbrev cX8_kindOf : ByteArray := prog_10_method_8_code
def yX8_kindOf : MethodName := ⟨RX8, "kindOf", "(I)I"⟩
abbrev cX8_nextOf : ByteArray := prog_10_method_9_code
def yX8_nextOf : MethodName := ⟨RX8, "nextOf", "(II)I"⟩
abbrev cX8_stateOn : ByteArray := prog_10_method_10_code
def yX8_stateOn : MethodName := ⟨RX8, "stateOn", "(I)I"⟩
def RX9 : String := "DeadLasts$Trace"
def TX9 : u_T := fun k => match k with
  | 0 => ("DeadLasts$Trace", "rows", "[I", true)
  | 1 => ("DeadLasts$Trace", "endState", "I", false)
  | _ => ("DeadLasts$Trace", "endStep", "I", false)
def tyX9 : Nat → FieldType := fun k => match k with
  | 0 => .array .int
  | 1 => .int
  | _ => .int
abbrev wsX90 : List Cond := u_ws RX9 TX9 3
theorem nmX9 : ∀ a, a < 3 → ∀ b, b < 3 → a ≠ b → (TX9 a).2.1 ≠ (TX9 b).2.1 := by decide +kernel
theorem tyX9_ok : ∀ k, k < 3 → parseFieldDescriptor (TX9 k).2.2.1 = some (tyX9 k) := by decide +kernel
abbrev cX9_init : ByteArray := prog_11_method_1_code
def yX9_init : MethodName := ⟨RX9, "<init>", "()V"⟩
abbrev cX9_follow : ByteArray := prog_11_method_2_code
def yX9_follow : MethodName := ⟨RX9, "follow", "(LDeadLasts$Walker;I)V"⟩
abbrev cX9_told : ByteArray := prog_11_method_3_code
def yX9_told : MethodName := ⟨RX9, "told", "(II)I"⟩
abbrev cX9_timesBy : ByteArray := prog_11_method_4_code
def yX9_timesBy : MethodName := ⟨RX9, "timesBy", "(I)I"⟩
def RX10 : String := "DeadLasts$Walker"
def TX10 : u_T := fun k => match k with
  | 0 => ("DeadLasts$Walker", "town", "LDeadLasts$Town;", true)
  | 1 => ("DeadLasts$Walker", "lasts", "LDeadLasts$Lasts;", true)
  | 2 => ("DeadLasts$Walker", "start", "I", false)
  | 3 => ("DeadLasts$Walker", "left", "I", false)
  | 4 => ("DeadLasts$Walker", "right", "I", false)
  | 5 => ("DeadLasts$Walker", "soled", "I", false)
  | 6 => ("DeadLasts$Walker", "own", "I", false)
  | 7 => ("DeadLasts$Walker", "place", "I", false)
  | 8 => ("DeadLasts$Walker", "state", "I", false)
  | 9 => ("DeadLasts$Walker", "weight", "I", false)
  | 10 => ("DeadLasts$Walker", "leftTimes", "I", false)
  | 11 => ("DeadLasts$Walker", "rightTimes", "I", false)
  | _ => ("DeadLasts$Walker", "wentBy", "I", false)
def tyX10 : Nat → FieldType := fun k => match k with
  | 0 => .object "DeadLasts$Town"
  | 1 => .object "DeadLasts$Lasts"
  | 2 => .int
  | 3 => .int
  | 4 => .int
  | 5 => .int
  | 6 => .int
  | 7 => .int
  | 8 => .int
  | 9 => .int
  | 10 => .int
  | 11 => .int
  | _ => .int
abbrev wsX100 : List Cond := u_ws RX10 TX10 13
theorem nmX10 : ∀ a, a < 13 → ∀ b, b < 13 → a ≠ b → (TX10 a).2.1 ≠ (TX10 b).2.1 := by decide +kernel
theorem tyX10_ok : ∀ k, k < 13 → parseFieldDescriptor (TX10 k).2.2.1 = some (tyX10 k) := by decide +kernel
abbrev cX10_init : ByteArray := prog_12_method_1_code
def yX10_init : MethodName := ⟨RX10, "<init>", "(LDeadLasts$Town;LDeadLasts$Lasts;)V"⟩
abbrev cX10_wear : ByteArray := prog_12_method_2_code
def yX10_wear : MethodName := ⟨RX10, "wear", "(LDeadLasts$People;I)V"⟩
abbrev cX10_become : ByteArray := prog_12_method_3_code
def yX10_become : MethodName := ⟨RX10, "become", "(LDeadLasts$Walker;)V"⟩
abbrev cX10_begin : ByteArray := prog_12_method_4_code
def yX10_begin : MethodName := ⟨RX10, "begin", "()V"⟩
abbrev cX10_go : ByteArray := prog_12_method_5_code
def yX10_go : MethodName := ⟨RX10, "go", "(IZ)V"⟩
abbrev cX10_walk : ByteArray := prog_12_method_6_code
def yX10_walk : MethodName := ⟨RX10, "walk", "(II)I"⟩
def RX11 : String := "DeadLasts"
def TX11 : u_T := fun k => match k with
  | 0 => ("DeadLasts", "texts", "[LDeadLasts$Text;", true)
  | 1 => ("DeadLasts", "faults", "[I", true)
  | 2 => ("DeadLasts", "town", "LDeadLasts$Town;", true)
  | 3 => ("DeadLasts", "lasts", "LDeadLasts$Lasts;", true)
  | 4 => ("DeadLasts", "people", "LDeadLasts$People;", true)
  | 5 => ("DeadLasts", "rains", "LDeadLasts$Rains;", true)
  | 6 => ("DeadLasts", "sightings", "LDeadLasts$Sightings;", true)
  | 7 => ("DeadLasts", "sheets", "[LDeadLasts$Sheet;", true)
  | 8 => ("DeadLasts", "traces", "[LDeadLasts$Trace;", true)
  | 9 => ("DeadLasts", "trial", "LDeadLasts$Trace;", true)
  | 10 => ("DeadLasts", "walker", "LDeadLasts$Walker;", true)
  | 11 => ("DeadLasts", "tempest", "LDeadLasts$Storm;", true)
  | 12 => ("DeadLasts", "matching", "LDeadLasts$Matching;", true)
  | 13 => ("DeadLasts", "pairRow", "[I", true)
  | 14 => ("DeadLasts", "dryRow", "[I", true)
  | 15 => ("DeadLasts", "tracks", "[I", true)
  | 16 => ("DeadLasts", "finding", "I", false)
  | 17 => ("DeadLasts", "stale", "Z", false)
  | 18 => ("DeadLasts", "pairPerson", "I", false)
  | _ => ("DeadLasts", "dryNeeded", "I", false)
def tyX11 : Nat → FieldType := fun k => match k with
  | 0 => .array (.object "DeadLasts$Text")
  | 1 => .array .int
  | 2 => .object "DeadLasts$Town"
  | 3 => .object "DeadLasts$Lasts"
  | 4 => .object "DeadLasts$People"
  | 5 => .object "DeadLasts$Rains"
  | 6 => .object "DeadLasts$Sightings"
  | 7 => .array (.object "DeadLasts$Sheet")
  | 8 => .array (.object "DeadLasts$Trace")
  | 9 => .object "DeadLasts$Trace"
  | 10 => .object "DeadLasts$Walker"
  | 11 => .object "DeadLasts$Storm"
  | 12 => .object "DeadLasts$Matching"
  | 13 => .array .int
  | 14 => .array .int
  | 15 => .array .int
  | 16 => .int
  | 17 => .boolean
  | 18 => .int
  | _ => .int
abbrev wsX110 : List Cond := u_ws RX11 TX11 20
theorem nmX11 : ∀ a, a < 20 → ∀ b, b < 20 → a ≠ b → (TX11 a).2.1 ≠ (TX11 b).2.1 := by decide +kernel
theorem tyX11_ok : ∀ k, k < 20 → parseFieldDescriptor (TX11 k).2.2.1 = some (tyX11 k) := by decide +kernel
abbrev cX11_init : ByteArray := prog_1_method_1_code
def yX11_init : MethodName := ⟨RX11, "<init>", "()V"⟩
abbrev cX11_type : ByteArray := prog_1_method_2_code
def yX11_type : MethodName := ⟨RX11, "type", "(II)I"⟩
abbrev cX11_wipe : ByteArray := prog_1_method_3_code
def yX11_wipe : MethodName := ⟨RX11, "wipe", "(I)I"⟩
abbrev cX11_undo : ByteArray := prog_1_method_4_code
def yX11_undo : MethodName := ⟨RX11, "undo", "(I)I"⟩
abbrev cX11_fault : ByteArray := prog_1_method_5_code
def yX11_fault : MethodName := ⟨RX11, "fault", "(I)I"⟩
abbrev cX11_cell : ByteArray := prog_1_method_6_code
def yX11_cell : MethodName := ⟨RX11, "cell", "(I)I"⟩
abbrev cX11_last : ByteArray := prog_1_method_7_code
def yX11_last : MethodName := ⟨RX11, "last", "(II)I"⟩
abbrev cX11_person : ByteArray := prog_1_method_8_code
def yX11_person : MethodName := ⟨RX11, "person", "(II)I"⟩
abbrev cX11_rain : ByteArray := prog_1_method_9_code
def yX11_rain : MethodName := ⟨RX11, "rain", "(I)I"⟩
abbrev cX11_back : ByteArray := prog_1_method_10_code
def yX11_back : MethodName := ⟨RX11, "back", "()I"⟩
abbrev cX11_read : ByteArray := prog_1_method_11_code
def yX11_read : MethodName := ⟨RX11, "read", "(I)I"⟩
abbrev cX11_at : ByteArray := prog_1_method_12_code
def yX11_at : MethodName := ⟨RX11, "at", "(III)I"⟩
abbrev cX11_ends : ByteArray := prog_1_method_13_code
def yX11_ends : MethodName := ⟨RX11, "ends", "(II)I"⟩
abbrev cX11_who : ByteArray := prog_1_method_14_code
def yX11_who : MethodName := ⟨RX11, "who", "(I)I"⟩
abbrev cX11_met : ByteArray := prog_1_method_15_code
def yX11_met : MethodName := ⟨RX11, "met", "(I)I"⟩
abbrev cX11_worn : ByteArray := prog_1_method_16_code
def yX11_worn : MethodName := ⟨RX11, "worn", "(I)I"⟩
abbrev cX11_rifest : ByteArray := prog_1_method_17_code
def yX11_rifest : MethodName := ⟨RX11, "rifest", "()I"⟩
abbrev cX11_pair : ByteArray := prog_1_method_18_code
def yX11_pair : MethodName := ⟨RX11, "pair", "(II)I"⟩
abbrev cX11_soles : ByteArray := prog_1_method_19_code
def yX11_soles : MethodName := ⟨RX11, "soles", "(I)I"⟩
abbrev cX11_match : ByteArray := prog_1_method_20_code
def yX11_match : MethodName := ⟨RX11, "match", "()I"⟩
abbrev cX11_dry : ByteArray := prog_1_method_21_code
def yX11_dry : MethodName := ⟨RX11, "dry", "(I)I"⟩
abbrev cX11_seen : ByteArray := prog_1_method_22_code
def yX11_seen : MethodName := ⟨RX11, "seen", "(III)I"⟩
abbrev cX11_forget : ByteArray := prog_1_method_23_code
def yX11_forget : MethodName := ⟨RX11, "forget", "()I"⟩
abbrev cX11_never : ByteArray := prog_1_method_24_code
def yX11_never : MethodName := ⟨RX11, "never", "()I"⟩
abbrev cX11_wore : ByteArray := prog_1_method_25_code
def yX11_wore : MethodName := ⟨RX11, "wore", "(II)I"⟩
abbrev cX11_ask : ByteArray := prog_1_method_26_code
def yX11_ask : MethodName := ⟨RX11, "ask", "(I)I"⟩
abbrev cX11_storm : ByteArray := prog_1_method_27_code
def yX11_storm : MethodName := ⟨RX11, "storm", "(IIII)J"⟩
abbrev cX11_shelves : ByteArray := prog_1_method_28_code
def yX11_shelves : MethodName := ⟨RX11, "shelves", "(II)I"⟩
abbrev cX11_sheet : ByteArray := prog_1_method_29_code
def yX11_sheet : MethodName := ⟨RX11, "sheet", "(III)I"⟩
abbrev cX11_lose : ByteArray := prog_1_method_30_code
def yX11_lose : MethodName := ⟨RX11, "lose", "(I)I"⟩
abbrev cX11_lay : ByteArray := prog_1_method_31_code
def yX11_lay : MethodName := ⟨RX11, "lay", "(IIII)I"⟩
abbrev cX11_get : ByteArray := prog_1_method_32_code
def yX11_get : MethodName := ⟨RX11, "get", "(III)I"⟩
abbrev cX11_copy : ByteArray := prog_1_method_33_code
def yX11_copy : MethodName := ⟨RX11, "copy", "(IIIII)I"⟩
abbrev cX11_write : ByteArray := prog_1_method_34_code
def yX11_write : MethodName := ⟨RX11, "write", "(II)I"⟩
abbrev cX11_count : ByteArray := prog_1_method_35_code
def yX11_count : MethodName := ⟨RX11, "count", "(I)I"⟩
abbrev cX11_digest : ByteArray := prog_1_method_36_code
def yX11_digest : MethodName := ⟨RX11, "digest", "()J"⟩
abbrev cX11_isWithin : ByteArray := prog_1_method_37_code
def yX11_isWithin : MethodName := ⟨RX11, "isWithin", "(II)Z"⟩
abbrev cX11_isBitOf : ByteArray := prog_1_method_38_code
def yX11_isBitOf : MethodName := ⟨RX11, "isBitOf", "(II)Z"⟩
abbrev cX11_refusal : ByteArray := prog_1_method_39_code
def yX11_refusal : MethodName := ⟨RX11, "refusal", "(I)I"⟩
abbrev cX11_endState : ByteArray := prog_1_method_40_code
def yX11_endState : MethodName := ⟨RX11, "endState", "(I)I"⟩
abbrev cX11_nextSeed : ByteArray := prog_1_method_41_code
def yX11_nextSeed : MethodName := ⟨RX11, "nextSeed", "(I)I"⟩
abbrev cX11_reload : ByteArray := prog_1_method_42_code
def yX11_reload : MethodName := ⟨RX11, "reload", "(I)V"⟩
abbrev cX11_outdate : ByteArray := prog_1_method_43_code
def yX11_outdate : MethodName := ⟨RX11, "outdate", "()V"⟩
abbrev cX11_retrace : ByteArray := prog_1_method_44_code
def yX11_retrace : MethodName := ⟨RX11, "retrace", "()V"⟩
abbrev cX11_metBy : ByteArray := prog_1_method_45_code
def yX11_metBy : MethodName := ⟨RX11, "metBy", "(II)I"⟩
abbrev cX11_findPair : ByteArray := prog_1_method_46_code
def yX11_findPair : MethodName := ⟨RX11, "findPair", "(I)V"⟩
abbrev cX11_findDry : ByteArray := prog_1_method_47_code
def yX11_findDry : MethodName := ⟨RX11, "findDry", "()I"⟩
abbrev cX11_nobodyDrownsWithout : ByteArray := prog_1_method_48_code
def yX11_nobodyDrownsWithout : MethodName := ⟨RX11, "nobodyDrownsWithout", "(II)Z"⟩
abbrev cX11_allHoldWithout : ByteArray := prog_1_method_49_code
def yX11_allHoldWithout : MethodName := ⟨RX11, "allHoldWithout", "(I)Z"⟩
abbrev cX11_othersHold : ByteArray := prog_1_method_50_code
def yX11_othersHold : MethodName := ⟨RX11, "othersHold", "(I)Z"⟩
abbrev cX11_findWore : ByteArray := prog_1_method_51_code
def yX11_findWore : MethodName := ⟨RX11, "findWore", "(II)I"⟩
abbrev cX11_greatestCrowd : ByteArray := prog_1_method_52_code
def yX11_greatestCrowd : MethodName := ⟨RX11, "greatestCrowd", "(II)I"⟩
abbrev cX11_mixed : ByteArray := prog_1_method_53_code
def yX11_mixed : MethodName := ⟨RX11, "mixed", "(JJ)J"⟩
abbrev cX11_mixedLast : ByteArray := prog_1_method_54_code
def yX11_mixedLast : MethodName := ⟨RX11, "mixedLast", "(JI)J"⟩
abbrev cX11_mixedWalk : ByteArray := prog_1_method_55_code
def yX11_mixedWalk : MethodName := ⟨RX11, "mixedWalk", "(JI)J"⟩
abbrev cX11_mixedPlans : ByteArray := prog_1_method_56_code
def yX11_mixedPlans : MethodName := ⟨RX11, "mixedPlans", "(JI)J"⟩
def RX12 : String := "DeadLastsModel"
def TX12 : u_T := fun k => match k with
  | 0 => ("DeadLastsModel", "forms", "[I", true)
  | 1 => ("DeadLastsModel", "sizes", "[I", true)
  | 2 => ("DeadLastsModel", "items", "[I", true)
  | 3 => ("DeadLastsModel", "moved", "[I", true)
  | 4 => ("DeadLastsModel", "latest", "I", false)
  | 5 => ("DeadLastsModel", "bytes", "[I", true)
  | 6 => ("DeadLastsModel", "typed", "[I", true)
  | 7 => ("DeadLastsModel", "cells", "I", false)
  | 8 => ("DeadLastsModel", "wide", "I", false)
  | 9 => ("DeadLastsModel", "cell", "[I", true)
  | 10 => ("DeadLastsModel", "lasts", "I", false)
  | 11 => ("DeadLastsModel", "kind", "[I", true)
  | 12 => ("DeadLastsModel", "longs", "[I", true)
  | 13 => ("DeadLastsModel", "letter", "[I", true)
  | 14 => ("DeadLastsModel", "people", "I", false)
  | 15 => ("DeadLastsModel", "person", "[I", true)
  | 16 => ("DeadLastsModel", "rains", "I", false)
  | 17 => ("DeadLastsModel", "rain", "[I", true)
  | 18 => ("DeadLastsModel", "gone", "I", false)
  | 19 => ("DeadLastsModel", "storms", "I", false)
  | 20 => ("DeadLastsModel", "at", "[I", true)
  | 21 => ("DeadLastsModel", "state", "[I", true)
  | 22 => ("DeadLastsModel", "weight", "[I", true)
  | 23 => ("DeadLastsModel", "went", "[I", true)
  | 24 => ("DeadLastsModel", "goings", "[I", true)
  | 25 => ("DeadLastsModel", "kept", "[I", true)
  | 26 => ("DeadLastsModel", "ends", "[I", true)
  | 27 => ("DeadLastsModel", "worn", "[I", true)
  | 28 => ("DeadLastsModel", "metOn", "I", false)
  | 29 => ("DeadLastsModel", "metWho", "I", false)
  | 30 => ("DeadLastsModel", "metOther", "I", false)
  | 31 => ("DeadLastsModel", "most", "[I", true)
  | 32 => ("DeadLastsModel", "sights", "I", false)
  | 33 => ("DeadLastsModel", "sight", "[I", true)
  | 34 => ("DeadLastsModel", "places", "[I", true)
  | _ => ("DeadLastsModel", "drawn", "I", false)
def tyX12 : Nat → FieldType := fun k => match k with
  | 0 => .array .int
  | 1 => .array .int
  | 2 => .array .int
  | 3 => .array .int
  | 4 => .int
  | 5 => .array .int
  | 6 => .array .int
  | 7 => .int
  | 8 => .int
  | 9 => .array .int
  | 10 => .int
  | 11 => .array .int
  | 12 => .array .int
  | 13 => .array .int
  | 14 => .int
  | 15 => .array .int
  | 16 => .int
  | 17 => .array .int
  | 18 => .int
  | 19 => .int
  | 20 => .array .int
  | 21 => .array .int
  | 22 => .array .int
  | 23 => .array .int
  | 24 => .array .int
  | 25 => .array .int
  | 26 => .array .int
  | 27 => .array .int
  | 28 => .int
  | 29 => .int
  | 30 => .int
  | 31 => .array .int
  | 32 => .int
  | 33 => .array .int
  | 34 => .array .int
  | _ => .int
abbrev wsX120 : List Cond := u_ws RX12 TX12 36
theorem nmX12 : ∀ a, a < 36 → ∀ b, b < 36 → a ≠ b → (TX12 a).2.1 ≠ (TX12 b).2.1 := by decide +kernel
theorem tyX12_ok : ∀ k, k < 36 → parseFieldDescriptor (TX12 k).2.2.1 = some (tyX12 k) := by decide +kernel
abbrev cX12_init : ByteArray := prog_14_method_1_code
def yX12_init : MethodName := ⟨RX12, "<init>", "()V"⟩
abbrev cX12_in : ByteArray := prog_14_method_3_code
def yX12_in : MethodName := ⟨RX12, "in", "(JJJ)Z"⟩
abbrev cX12_no : ByteArray := prog_14_method_4_code
def yX12_no : MethodName := ⟨RX12, "no", "(I)J"⟩
abbrev cX12_isTwo : ByteArray := prog_14_method_5_code
def yX12_isTwo : MethodName := ⟨RX12, "isTwo", "(I)Z"⟩
abbrev cX12_isIn : ByteArray := prog_14_method_6_code
def yX12_isIn : MethodName := ⟨RX12, "isIn", "(II)Z"⟩
abbrev cX12_ones : ByteArray := prog_14_method_7_code
def yX12_ones : MethodName := ⟨RX12, "ones", "(I)I"⟩
abbrev cX12_lesser : ByteArray := prog_14_method_8_code
def yX12_lesser : MethodName := ⟨RX12, "lesser", "(II)I"⟩
abbrev cX12_greater : ByteArray := prog_14_method_9_code
def yX12_greater : MethodName := ⟨RX12, "greater", "(II)I"⟩
abbrev cX12_part : ByteArray := prog_14_method_10_code
def yX12_part : MethodName := ⟨RX12, "part", "(JJI)J"⟩
abbrev cX12_finds : ByteArray := prog_14_method_11_code
def yX12_finds : MethodName := ⟨RX12, "finds", "(I)I"⟩
abbrev cX12_isSheet : ByteArray := prog_14_method_12_code
def yX12_isSheet : MethodName := ⟨RX12, "isSheet", "(I)Z"⟩
abbrev cX12_sheet : ByteArray := prog_14_method_13_code
def yX12_sheet : MethodName := ⟨RX12, "sheet", "(III)I"⟩
abbrev cX12_lose : ByteArray := prog_14_method_14_code
def yX12_lose : MethodName := ⟨RX12, "lose", "(I)I"⟩
abbrev cX12_lacks : ByteArray := prog_14_method_15_code
def yX12_lacks : MethodName := ⟨RX12, "lacks", "(III)I"⟩
abbrev cX12_cut : ByteArray := prog_14_method_16_code
def yX12_cut : MethodName := ⟨RX12, "cut", "(II)I"⟩
abbrev cX12_lay : ByteArray := prog_14_method_17_code
def yX12_lay : MethodName := ⟨RX12, "lay", "(IIII)I"⟩
abbrev cX12_get : ByteArray := prog_14_method_18_code
def yX12_get : MethodName := ⟨RX12, "get", "(III)I"⟩
abbrev cX12_copy : ByteArray := prog_14_method_19_code
def yX12_copy : MethodName := ⟨RX12, "copy", "(IIIII)I"⟩
abbrev cX12_isText : ByteArray := prog_14_method_20_code
def yX12_isText : MethodName := ⟨RX12, "isText", "(I)Z"⟩
abbrev cX12_type : ByteArray := prog_14_method_21_code
def yX12_type : MethodName := ⟨RX12, "type", "(II)I"⟩
abbrev cX12_wipe : ByteArray := prog_14_method_22_code
def yX12_wipe : MethodName := ⟨RX12, "wipe", "(I)I"⟩
abbrev cX12_undo : ByteArray := prog_14_method_23_code
def yX12_undo : MethodName := ⟨RX12, "undo", "(I)I"⟩
abbrev cX12_torn : ByteArray := prog_14_method_24_code
def yX12_torn : MethodName := ⟨RX12, "torn", "(I)I"⟩
abbrev cX12_cellOf : ByteArray := prog_14_method_25_code
def yX12_cellOf : MethodName := ⟨RX12, "cellOf", "(I)I"⟩
abbrev cX12_wayOf : ByteArray := prog_14_method_26_code
def yX12_wayOf : MethodName := ⟨RX12, "wayOf", "(I)I"⟩
abbrev cX12_readsTown : ByteArray := prog_14_method_27_code
def yX12_readsTown : MethodName := ⟨RX12, "readsTown", "()I"⟩
abbrev cX12_readsLasts : ByteArray := prog_14_method_28_code
def yX12_readsLasts : MethodName := ⟨RX12, "readsLasts", "()I"⟩
abbrev cX12_figureOf : ByteArray := prog_14_method_29_code
def yX12_figureOf : MethodName := ⟨RX12, "figureOf", "(II)I"⟩
abbrev cX12_personOf : ByteArray := prog_14_method_30_code
def yX12_personOf : MethodName := ⟨RX12, "personOf", "(II)I"⟩
abbrev cX12_readsPeople : ByteArray := prog_14_method_31_code
def yX12_readsPeople : MethodName := ⟨RX12, "readsPeople", "()I"⟩
abbrev cX12_readsText : ByteArray := prog_14_method_32_code
def yX12_readsText : MethodName := ⟨RX12, "readsText", "(I)I"⟩
abbrev cX12_fault : ByteArray := prog_14_method_33_code
def yX12_fault : MethodName := ⟨RX12, "fault", "(I)I"⟩
abbrev cX12_isLast : ByteArray := prog_14_method_34_code
def yX12_isLast : MethodName := ⟨RX12, "isLast", "(I)Z"⟩
abbrev cX12_isPerson : ByteArray := prog_14_method_35_code
def yX12_isPerson : MethodName := ⟨RX12, "isPerson", "(I)Z"⟩
abbrev cX12_isStep : ByteArray := prog_14_method_36_code
def yX12_isStep : MethodName := ⟨RX12, "isStep", "(I)Z"⟩
abbrev cX12_cell : ByteArray := prog_14_method_37_code
def yX12_cell : MethodName := ⟨RX12, "cell", "(I)I"⟩
abbrev cX12_lastBy : ByteArray := prog_14_method_38_code
def yX12_lastBy : MethodName := ⟨RX12, "lastBy", "(II)I"⟩
abbrev cX12_last : ByteArray := prog_14_method_39_code
def yX12_last : MethodName := ⟨RX12, "last", "(II)I"⟩
abbrev cX12_person : ByteArray := prog_14_method_40_code
def yX12_person : MethodName := ⟨RX12, "person", "(II)I"⟩
abbrev cX12_rain : ByteArray := prog_14_method_41_code
def yX12_rain : MethodName := ⟨RX12, "rain", "(I)I"⟩
abbrev cX12_back : ByteArray := prog_14_method_42_code
def yX12_back : MethodName := ⟨RX12, "back", "()I"⟩
abbrev cX12_read : ByteArray := prog_14_method_43_code
def yX12_read : MethodName := ⟨RX12, "read", "(I)I"⟩
abbrev cX12_isRain : ByteArray := prog_14_method_44_code
def yX12_isRain : MethodName := ⟨RX12, "isRain", "(I)Z"⟩
abbrev cX12_power : ByteArray := prog_14_method_45_code
def yX12_power : MethodName := ⟨RX12, "power", "(II)I"⟩
abbrev cX12_beside : ByteArray := prog_14_method_46_code
def yX12_beside : MethodName := ⟨RX12, "beside", "(II)I"⟩
abbrev cX12_wayBy : ByteArray := prog_14_method_47_code
def yX12_wayBy : MethodName := ⟨RX12, "wayBy", "(III)I"⟩
abbrev cX12_settles : ByteArray := prog_14_method_48_code
def yX12_settles : MethodName := ⟨RX12, "settles", "(II)V"⟩
abbrev cX12_walks : ByteArray := prog_14_method_49_code
def yX12_walks : MethodName := ⟨RX12, "walks", "(II)V"⟩
abbrev cX12_meet : ByteArray := prog_14_method_50_code
def yX12_meet : MethodName := ⟨RX12, "meet", "(I)V"⟩
abbrev cX12_begins : ByteArray := prog_14_method_51_code
def yX12_begins : MethodName := ⟨RX12, "begins", "()V"⟩
abbrev cX12_lives : ByteArray := prog_14_method_52_code
def yX12_lives : MethodName := ⟨RX12, "lives", "()V"⟩
abbrev cX12_find : ByteArray := prog_14_method_53_code
def yX12_find : MethodName := ⟨RX12, "find", "()V"⟩
abbrev cX12_at : ByteArray := prog_14_method_54_code
def yX12_at : MethodName := ⟨RX12, "at", "(III)I"⟩
abbrev cX12_ends : ByteArray := prog_14_method_55_code
def yX12_ends : MethodName := ⟨RX12, "ends", "(II)I"⟩
abbrev cX12_whoBy : ByteArray := prog_14_method_56_code
def yX12_whoBy : MethodName := ⟨RX12, "whoBy", "(I)I"⟩
abbrev cX12_who : ByteArray := prog_14_method_57_code
def yX12_who : MethodName := ⟨RX12, "who", "(I)I"⟩
abbrev cX12_metBy : ByteArray := prog_14_method_58_code
def yX12_metBy : MethodName := ⟨RX12, "metBy", "(I)I"⟩
abbrev cX12_met : ByteArray := prog_14_method_59_code
def yX12_met : MethodName := ⟨RX12, "met", "(I)I"⟩
abbrev cX12_worn : ByteArray := prog_14_method_60_code
def yX12_worn : MethodName := ⟨RX12, "worn", "(I)I"⟩
abbrev cX12_rifestNow : ByteArray := prog_14_method_61_code
def yX12_rifestNow : MethodName := ⟨RX12, "rifestNow", "()I"⟩
abbrev cX12_rifest : ByteArray := prog_14_method_62_code
def yX12_rifest : MethodName := ⟨RX12, "rifest", "()I"⟩
abbrev cX12_comes : ByteArray := prog_14_method_63_code
def yX12_comes : MethodName := ⟨RX12, "comes", "(I)I"⟩
abbrev cX12_pairOf : ByteArray := prog_14_method_64_code
def yX12_pairOf : MethodName := ⟨RX12, "pairOf", "(II)I"⟩
abbrev cX12_pair : ByteArray := prog_14_method_65_code
def yX12_pair : MethodName := ⟨RX12, "pair", "(II)I"⟩
abbrev cX12_solesOf : ByteArray := prog_14_method_66_code
def yX12_solesOf : MethodName := ⟨RX12, "solesOf", "(I)I"⟩
abbrev cX12_soles : ByteArray := prog_14_method_67_code
def yX12_soles : MethodName := ⟨RX12, "soles", "(I)I"⟩
abbrev cX12_comesIn : ByteArray := prog_14_method_68_code
def yX12_comesIn : MethodName := ⟨RX12, "comesIn", "(II)Z"⟩
abbrev cX12_matchNow : ByteArray := prog_14_method_69_code
def yX12_matchNow : MethodName := ⟨RX12, "matchNow", "()I"⟩
abbrev cX12_match : ByteArray := prog_14_method_70_code
def yX12_match : MethodName := ⟨RX12, "match", "()I"⟩
abbrev cX12_isDry : ByteArray := prog_14_method_71_code
def yX12_isDry : MethodName := ⟨RX12, "isDry", "(I)Z"⟩
abbrev cX12_dryOf : ByteArray := prog_14_method_72_code
def yX12_dryOf : MethodName := ⟨RX12, "dryOf", "(I)I"⟩
abbrev cX12_dry : ByteArray := prog_14_method_73_code
def yX12_dry : MethodName := ⟨RX12, "dry", "(I)I"⟩
abbrev cX12_seen : ByteArray := prog_14_method_74_code
def yX12_seen : MethodName := ⟨RX12, "seen", "(III)I"⟩
abbrev cX12_forget : ByteArray := prog_14_method_75_code
def yX12_forget : MethodName := ⟨RX12, "forget", "()I"⟩
abbrev cX12_isSeen : ByteArray := prog_14_method_76_code
def yX12_isSeen : MethodName := ⟨RX12, "isSeen", "()Z"⟩
abbrev cX12_neverNow : ByteArray := prog_14_method_77_code
def yX12_neverNow : MethodName := ⟨RX12, "neverNow", "()I"⟩
abbrev cX12_never : ByteArray := prog_14_method_78_code
def yX12_never : MethodName := ⟨RX12, "never", "()I"⟩
abbrev cX12_woreOf : ByteArray := prog_14_method_79_code
def yX12_woreOf : MethodName := ⟨RX12, "woreOf", "(II)I"⟩
abbrev cX12_wore : ByteArray := prog_14_method_80_code
def yX12_wore : MethodName := ⟨RX12, "wore", "(II)I"⟩
abbrev cX12_alike : ByteArray := prog_14_method_81_code
def yX12_alike : MethodName := ⟨RX12, "alike", "(II)I"⟩
abbrev cX12_askOf : ByteArray := prog_14_method_82_code
def yX12_askOf : MethodName := ⟨RX12, "askOf", "(I)I"⟩
abbrev cX12_ask : ByteArray := prog_14_method_83_code
def yX12_ask : MethodName := ⟨RX12, "ask", "(I)I"⟩
abbrev cX12_stormOf : ByteArray := prog_14_method_84_code
def yX12_stormOf : MethodName := ⟨RX12, "stormOf", "(IIII)J"⟩
abbrev cX12_storm : ByteArray := prog_14_method_85_code
def yX12_storm : MethodName := ⟨RX12, "storm", "(IIII)J"⟩
abbrev cX12_lot : ByteArray := prog_14_method_86_code
def yX12_lot : MethodName := ⟨RX12, "lot", "(I)I"⟩
abbrev cX12_shelvesOf : ByteArray := prog_14_method_87_code
def yX12_shelvesOf : MethodName := ⟨RX12, "shelvesOf", "(II)I"⟩
abbrev cX12_shelves : ByteArray := prog_14_method_88_code
def yX12_shelves : MethodName := ⟨RX12, "shelves", "(II)I"⟩
abbrev cX12_write : ByteArray := prog_14_method_89_code
def yX12_write : MethodName := ⟨RX12, "write", "(II)I"⟩
abbrev cX12_count : ByteArray := prog_14_method_90_code
def yX12_count : MethodName := ⟨RX12, "count", "(I)I"⟩
abbrev cX12_tellsStep : ByteArray := prog_14_method_91_code
def yX12_tellsStep : MethodName := ⟨RX12, "tellsStep", "(JII)J"⟩
abbrev cX12_tellsPerson : ByteArray := prog_14_method_92_code
def yX12_tellsPerson : MethodName := ⟨RX12, "tellsPerson", "(JI)J"⟩
abbrev cX12_digest : ByteArray := prog_14_method_93_code
def yX12_digest : MethodName := ⟨RX12, "digest", "()J"⟩
def RJ11 : String := "java/lang/Character"
def TJ11 : u_T := fun k => match k with
  | _ => ("", "", "", false)
def tyJ11 : Nat → FieldType := fun k => match k with
  | _ => .int
abbrev wsJ110 : List Cond := u_ws RJ11 TJ11 0
theorem nmJ11 : ∀ a, a < 0 → ∀ b, b < 0 → a ≠ b → (TJ11 a).2.1 ≠ (TJ11 b).2.1 := by decide +kernel
theorem tyJ11_ok : ∀ k, k < 0 → parseFieldDescriptor (TJ11 k).2.2.1 = some (tyJ11 k) := by decide +kernel
abbrev cJ11_isValidCodePoint_9a6ad : ByteArray := prog_15_method_11_code
def yJ11_isValidCodePoint_9a6ad : MethodName := ⟨RJ11, "isValidCodePoint", "(I)Z"⟩
abbrev cJ11_highSurrogate_5068e : ByteArray := prog_15_method_28_code
def yJ11_highSurrogate_5068e : MethodName := ⟨RJ11, "highSurrogate", "(I)C"⟩
abbrev cJ11_lowSurrogate_5068e : ByteArray := prog_15_method_29_code
def yJ11_lowSurrogate_5068e : MethodName := ⟨RJ11, "lowSurrogate", "(I)C"⟩
def RJ9 : String := "java/lang/Math"
def TJ9 : u_T := fun k => match k with
  | _ => ("", "", "", false)
def tyJ9 : Nat → FieldType := fun k => match k with
  | _ => .int
abbrev wsJ90 : List Cond := u_ws RJ9 TJ9 0
theorem nmJ9 : ∀ a, a < 0 → ∀ b, b < 0 → a ≠ b → (TJ9 a).2.1 ≠ (TJ9 b).2.1 := by decide +kernel
theorem tyJ9_ok : ∀ k, k < 0 → parseFieldDescriptor (TJ9 k).2.2.1 = some (tyJ9 k) := by decide +kernel
abbrev cJ9_max_7cf53 : ByteArray := prog_16_method_65_code
def yJ9_max_7cf53 : MethodName := ⟨RJ9, "max", "(II)I"⟩
abbrev cJ9_min_7cf53 : ByteArray := prog_16_method_69_code
def yJ9_min_7cf53 : MethodName := ⟨RJ9, "min", "(II)I"⟩
def RJ0 : String := "java/lang/String"
def TJ0 : u_T := fun k => match k with
  | _ => ("", "", "", false)
def tyJ0 : Nat → FieldType := fun k => match k with
  | _ => .int
abbrev wsJ00 : List Cond := u_ws RJ0 TJ0 0
theorem nmJ0 : ∀ a, a < 0 → ∀ b, b < 0 → a ≠ b → (TJ0 a).2.1 ≠ (TJ0 b).2.1 := by decide +kernel
theorem tyJ0_ok : ∀ k, k < 0 → parseFieldDescriptor (TJ0 k).2.2.1 = some (tyJ0 k) := by decide +kernel
abbrev cJ0_length_8abf5 : ByteArray := prog_17_method_54_code
def yJ0_length_8abf5 : MethodName := ⟨RJ0, "length", "()I"⟩
abbrev cJ0_indexOf_0f7a4 : ByteArray := prog_17_method_79_code
def yJ0_indexOf_0f7a4 : MethodName := ⟨RJ0, "indexOf", "(I)I"⟩
abbrev cJ0_indexOf_7cf53 : ByteArray := prog_17_method_80_code
def yJ0_indexOf_7cf53 : MethodName := ⟨RJ0, "indexOf", "(II)I"⟩
abbrev cJ0_coder_7d493 : ByteArray := prog_17_method_152_code
def yJ0_coder_7d493 : MethodName := ⟨RJ0, "coder", "()B"⟩
abbrev cJ0_isLatin1_aae02 : ByteArray := prog_17_method_154_code
def yJ0_isLatin1_aae02 : MethodName := ⟨RJ0, "isLatin1", "()Z"⟩
abbrev cJ0_checkBoundsBeginEnd_23922 : ByteArray := prog_17_method_158_code
def yJ0_checkBoundsBeginEnd_23922 : MethodName := ⟨RJ0, "checkBoundsBeginEnd", "(III)V"⟩
def RJ1 : String := "java/lang/StringLatin1"
def TJ1 : u_T := fun k => match k with
  | _ => ("", "", "", false)
def tyJ1 : Nat → FieldType := fun k => match k with
  | _ => .int
abbrev wsJ10 : List Cond := u_ws RJ1 TJ1 0
theorem nmJ1 : ∀ a, a < 0 → ∀ b, b < 0 → a ≠ b → (TJ1 a).2.1 ≠ (TJ1 b).2.1 := by decide +kernel
theorem tyJ1_ok : ∀ k, k < 0 → parseFieldDescriptor (TJ1 k).2.2.1 = some (tyJ1 k) := by decide +kernel
abbrev cJ1_canEncode_9a6ad : ByteArray := prog_18_method_4_code
def yJ1_canEncode_9a6ad : MethodName := ⟨RJ1, "canEncode", "(I)Z"⟩
abbrev cJ1_indexOf_4cfef : ByteArray := prog_18_method_22_code
def yJ1_indexOf_4cfef : MethodName := ⟨RJ1, "indexOf", "([BIII)I"⟩
abbrev cJ1_indexOfChar_4cfef : ByteArray := prog_18_method_23_code
def yJ1_indexOfChar_4cfef : MethodName := ⟨RJ1, "indexOfChar", "([BIII)I"⟩
def RJ2 : String := "java/lang/StringUTF16"
def TJ2 : u_T := fun k => match k with
  | _ => ("", "", "", false)
def tyJ2 : Nat → FieldType := fun k => match k with
  | _ => .int
abbrev wsJ20 : List Cond := u_ws RJ2 TJ2 0
theorem nmJ2 : ∀ a, a < 0 → ∀ b, b < 0 → a ≠ b → (TJ2 a).2.1 ≠ (TJ2 b).2.1 := by decide +kernel
theorem tyJ2_ok : ∀ k, k < 0 → parseFieldDescriptor (TJ2 k).2.2.1 = some (tyJ2 k) := by decide +kernel
abbrev cJ2_getChar_3b067 : ByteArray := prog_19_method_5_code
def yJ2_getChar_3b067 : MethodName := ⟨RJ2, "getChar", "([BI)C"⟩
abbrev cJ2_length_9d52b : ByteArray := prog_19_method_6_code
def yJ2_length_9d52b : MethodName := ⟨RJ2, "length", "([B)I"⟩
abbrev cJ2_indexOf_4cfef : ByteArray := prog_19_method_40_code
def yJ2_indexOf_4cfef : MethodName := ⟨RJ2, "indexOf", "([BIII)I"⟩
abbrev cJ2_indexOfChar_4cfef : ByteArray := prog_19_method_47_code
def yJ2_indexOfChar_4cfef : MethodName := ⟨RJ2, "indexOfChar", "([BIII)I"⟩
abbrev cJ2_indexOfCharUnsafe_4cfef : ByteArray := prog_19_method_48_code
def yJ2_indexOfCharUnsafe_4cfef : MethodName := ⟨RJ2, "indexOfCharUnsafe", "([BIII)I"⟩
abbrev cJ2_indexOfSupplementary_4cfef : ByteArray := prog_19_method_49_code
def yJ2_indexOfSupplementary_4cfef : MethodName := ⟨RJ2, "indexOfSupplementary", "([BIII)I"⟩
abbrev cJ2_checkBoundsBeginEnd_d044e : ByteArray := prog_19_method_93_code
def yJ2_checkBoundsBeginEnd_d044e : MethodName := ⟨RJ2, "checkBoundsBeginEnd", "(II[B)V"⟩
def RJ10 : String := "java/lang/System"
def TJ10 : u_T := fun k => match k with
  | _ => ("", "", "", false)
def tyJ10 : Nat → FieldType := fun k => match k with
  | _ => .int
abbrev wsJ100 : List Cond := u_ws RJ10 TJ10 0
theorem nmJ10 : ∀ a, a < 0 → ∀ b, b < 0 → a ≠ b → (TJ10 a).2.1 ≠ (TJ10 b).2.1 := by decide +kernel
theorem tyJ10_ok : ∀ k, k < 0 → parseFieldDescriptor (TJ10 k).2.2.1 = some (tyJ10 k) := by decide +kernel
def RJ3 : String := "jdk/internal/util/Preconditions"
def TJ3 : u_T := fun k => match k with
  | _ => ("", "", "", false)
def tyJ3 : Nat → FieldType := fun k => match k with
  | _ => .int
abbrev wsJ30 : List Cond := u_ws RJ3 TJ3 0
theorem nmJ3 : ∀ a, a < 0 → ∀ b, b < 0 → a ≠ b → (TJ3 a).2.1 ≠ (TJ3 b).2.1 := by decide +kernel
theorem tyJ3_ok : ∀ k, k < 0 → parseFieldDescriptor (TJ3 k).2.2.1 = some (tyJ3 k) := by decide +kernel
abbrev cJ3_checkFromToIndex_8c36e : ByteArray := prog_21_method_12_code
def yJ3_checkFromToIndex_8c36e : MethodName := ⟨RJ3, "checkFromToIndex", "(IIILjava/util/function/BiFunction;)I"⟩
def RL : String := "DeadLastsLaw"
abbrev cL_law : ByteArray := code
abbrev vwCl : List vw_C := [(RX0, TX0, 4), (RX1, TX1, 3), (RX2, TX2, 2), (RX3, TX3, 2), (RX4, TX4, 3), (RX5, TX5, 4), (RX6, TX6, 5), (RX7, TX7, 3), (RX8, TX8, 4), (RX9, TX9, 3), (RX10, TX10, 13), (RX11, TX11, 20), (RX12, TX12, 36)]
end
section
-- the abstract machine's tables, by our own program wip/gen/tables.py
abbrev am_T5 : Type := Nat × Instr × Int32 × Nat × Nat
def am_FTL : List (List (Nat × Nat × Nat × Bool)) := [
  [(9, 0, 0, false), (15, 0, 1, false), (18, 0, 2, false), (21, 0, 3, false), (25, 7, 2, true)],
  [(9, 1, 0, false), (15, 1, 1, false), (18, 1, 2, false)],
  [(9, 2, 0, false), (15, 2, 1, false), (19, 7, 2, true)],
  [(9, 3, 0, false), (15, 3, 1, false)],
  [(9, 4, 0, false), (15, 4, 2, false), (19, 4, 1, false)],
  [(9, 5, 0, false), (15, 5, 1, false), (18, 5, 2, false), (21, 5, 3, false)],
  [(11, 6, 0, false), (17, 6, 3, false), (30, 6, 1, false), (33, 6, 2, false), (47, 6, 4, false), (51, 10, 8, true)],
  [(9, 7, 0, false), (21, 7, 1, false), (25, 7, 2, false)],
  [(9, 8, 0, false), (15, 8, 1, false), (18, 8, 2, false), (22, 8, 3, false), (25, 7, 2, true)],
  [(11, 9, 0, false), (20, 9, 2, false), (24, 10, 8, true), (35, 10, 7, true), (38, 10, 9, true), (41, 10, 12, true), (44, 9, 1, false)],
  [(9, 10, 0, false), (15, 10, 1, false), (25, 10, 2, false), (29, 10, 3, false), (32, 10, 4, false), (35, 10, 5, false), (38, 10, 6, false), (41, 10, 7, false), (44, 10, 8, false), (47, 10, 9, false), (50, 10, 10, false), (53, 10, 11, false), (56, 10, 12, false), (69, 0, 3, true)],
  [(14, 11, 0, false), (18, 11, 1, false), (25, 11, 2, false), (32, 11, 3, false), (39, 11, 4, false), (46, 11, 5, false), (53, 11, 6, false), (59, 11, 7, false), (66, 11, 8, false), (71, 11, 9, false), (80, 11, 10, false), (87, 11, 11, false), (94, 11, 12, false), (98, 11, 13, false), (101, 11, 14, false), (104, 11, 15, false), (107, 11, 16, false), (111, 11, 17, false), (115, 11, 18, false), (118, 11, 19, false), (132, 7, 2, true), (139, 0, 3, true), (146, 2, 1, true), (154, 3, 1, true), (162, 4, 2, true), (163, 4, 0, true), (170, 9, 1, true), (175, 9, 2, true), (197, 10, 5, true), (203, 10, 8, true), (209, 10, 3, true), (212, 10, 4, true), (229, 5, 3, true), (262, 4, 1, true), (279, 8, 2, true), (333, 6, 3, true)],
  [(7, 12, 0, false), (13, 12, 1, false), (16, 12, 2, false), (19, 12, 3, false), (22, 12, 5, false), (25, 12, 6, false), (28, 12, 9, false), (31, 12, 11, false), (34, 12, 12, false), (37, 12, 13, false), (40, 12, 15, false), (43, 12, 17, false), (46, 12, 20, false), (49, 12, 21, false), (52, 12, 22, false), (55, 12, 23, false), (58, 12, 24, false), (61, 12, 25, false), (64, 12, 26, false), (67, 12, 27, false), (70, 12, 31, false), (73, 12, 33, false), (76, 12, 34, false), (79, 12, 19, false), (89, 12, 4, false), (118, 12, 7, false), (121, 12, 8, false), (130, 12, 10, false), (141, 12, 14, false), (180, 12, 16, false), (189, 12, 18, false), (208, 12, 28, false), (211, 12, 29, false), (214, 12, 30, false), (273, 12, 32, false), (309, 12, 35, false)],
  [(9, 13, 0, false), (15, 13, 1, false)],
  []]
def am_GSL : List (List (Nat × Nat × Bool)) := [[], [], [(50, 0, true)], [], [], [], [], [], [(64, 1, true)], [], [(65, 2, true)], [(366, 3, false)], [], [(38, 9, false)], []]
def am_LSL : List (List (Nat × Nat)) := [[(45, 5), (52, 6)], [], [(42, 7)], [], [], [], [], [], [(42, 4)], [], [], [], [], [], []]
def am_LIL : List (List (Nat × Int32)) := [[], [], [], [], [], [], [], [], [], [], [], [(261, (-2147483648)), (326, 1103515245)], [(112, (-2147483648)), (308, 1103515245)], [], []]
def am_LLL : List (List (Nat × Int64)) := [[], [], [], [], [], [], [], [], [], [], [], [(241, (-9223372036854775806)), (280, 17), (359, 31)], [(83, (-9223372036854775808)), (92, 3), (98, 2), (116, 255), (136, 48), (160, 29), (162, 35), (167, 5), (175, 4), (266, (-1)), (271, 7), (296, 16), (298, 9), (324, 31), (330, 17)], [], []]
def am_MTL : List (List (Nat × Nat × Nat × Nat × Bool)) := [
  [(30, 27, 1, 0, false), (34, 1, 1, 0, false), (38, 2, 1, 0, false), (41, 3, 1, 0, false), (47, 191, 1, 0, false)],
  [(22, 9, 2, 0, false), (26, 81, 2, 1, true)],
  [(24, 27, 1, 0, false), (28, 11, 2, 1, false), (32, 1000, 2, 1, false), (38, 12, 3, 0, false), (44, 191, 1, 0, false)],
  [],
  [(22, 16, 0, 0, false), (26, 80, 2, 1, true)],
  [(27, 38, 2, 0, false)],
  [(24, 1000, 2, 1, false), (36, 40, 2, 0, false), (40, 42, 0, 0, false), (43, 25, 2, 0, false), (54, 43, 2, 0, false), (58, 41, 1, 0, false)],
  [(28, 80, 2, 1, true)],
  [(30, 27, 1, 0, false), (34, 29, 3, 0, false), (38, 31, 1, 0, false), (44, 191, 1, 0, false), (49, 30, 1, 0, false), (53, 32, 0, 0, false), (56, 33, 2, 0, false), (60, 80, 2, 1, true)],
  [(15, 42, 0, 0, false), (27, 81, 2, 1, true), (31, 43, 2, 0, false), (47, 38, 2, 0, false)],
  [(19, 13, 2, 0, false), (59, 36, 1, 0, false), (74, 5, 2, 0, false), (77, 35, 2, 0, false), (80, 42, 0, 0, false), (83, 81, 2, 1, true), (87, 43, 2, 0, false)],
  [(121, 80, 2, 1, false), (125, 26, 1, 0, false), (129, 85, 1, 0, false), (135, 34, 1, 0, false), (142, 4, 2, 0, false), (147, 13, 2, 0, false), (148, 14, 1, 0, false), (151, 86, 0, 0, false), (155, 16, 0, 0, false), (159, 82, 1, 0, false), (166, 87, 0, 0, false), (169, 38, 2, 0, false), (173, 83, 1, 1, false), (178, 88, 2, 0, false), (181, 39, 1, 0, false), (184, 59, 1, 0, false), (187, 89, 1, 0, false), (190, 15, 2, 0, false), (193, 40, 2, 0, false), (200, 44, 2, 0, false), (206, 6, 0, 0, false), (215, 7, 2, 0, false), (219, 8, 0, 0, false), (223, 90, 0, 0, false), (226, 21, 3, 0, false), (230, 92, 1, 0, false), (233, 94, 2, 0, false), (236, 95, 2, 0, false), (243, 24, 4, 0, false), (247, 84, 1, 1, false), (250, 17, 2, 0, false), (253, 18, 2, 0, false), (256, 20, 2, 0, false), (265, 19, 2, 0, false), (268, 1002, 5, 1, false), (274, 1000, 2, 1, false), (282, 78, 1, 0, false), (285, 96, 2, 1, false), (289, 48, 1, 0, false), (292, 49, 1, 0, false), (295, 97, 2, 0, false), (299, 98, 2, 0, false), (302, 99, 2, 0, false), (305, 57, 1, 0, false), (308, 58, 1, 0, false), (311, 60, 0, 0, false), (314, 63, 0, 0, false), (317, 64, 1, 0, false), (320, 67, 0, 0, false), (323, 71, 2, 0, false), (327, 28, 1, 0, false), (331, 0, 1, 0, false), (332, 10, 1, 0, false), (336, 37, 2, 0, false), (340, 91, 2, 0, false), (343, 22, 1, 0, false), (346, 23, 2, 0, false), (350, 93, 1, 0, false), (353, 81, 2, 1, false), (356, 1001, 2, 1, false), (361, 50, 2, 0, false), (364, 51, 2, 0, false), (369, 55, 3, 0, false), (373, 56, 2, 0, false), (376, 61, 2, 0, false), (379, 62, 1, 0, false), (382, 68, 2, 0, false), (385, 69, 1, 0, false), (388, 70, 4, 0, false)],
  [(85, 100, 3, 1, false), (94, 109, 1, 1, false), (100, 108, 1, 0, false), (104, 112, 3, 0, false), (108, 113, 2, 1, false), (113, 117, 1, 1, false), (124, 121, 1, 0, false), (127, 122, 1, 1, false), (133, 123, 1, 1, false), (138, 126, 2, 1, false), (144, 127, 2, 1, false), (147, 124, 0, 0, false), (151, 125, 0, 0, false), (154, 128, 0, 0, false), (157, 129, 1, 0, false), (164, 131, 1, 0, false), (169, 135, 2, 0, false), (172, 132, 1, 0, false), (177, 133, 1, 1, false), (183, 138, 1, 0, false), (185, 103, 2, 1, false), (192, 141, 1, 0, false), (195, 142, 2, 1, false), (198, 144, 3, 0, false), (201, 143, 2, 0, false), (204, 145, 2, 0, false), (217, 148, 0, 0, false), (220, 146, 2, 0, false), (223, 147, 1, 0, false), (227, 149, 0, 0, false), (230, 150, 0, 0, false), (233, 102, 1, 1, false), (236, 153, 1, 0, false), (239, 155, 1, 0, false), (242, 158, 0, 0, false), (245, 160, 1, 0, false), (248, 161, 2, 0, false), (251, 163, 1, 0, false), (254, 165, 2, 0, false), (257, 106, 2, 1, false), (260, 166, 0, 0, false), (263, 168, 1, 0, false), (268, 169, 1, 0, false), (276, 173, 0, 0, false), (280, 174, 0, 0, false), (283, 176, 2, 0, false), (286, 178, 2, 0, false), (289, 179, 1, 0, false), (292, 107, 3, 1, false), (300, 181, 4, 0, false), (304, 101, 1, 1, false), (312, 183, 1, 0, false), (315, 104, 1, 1, false), (318, 184, 2, 0, false), (321, 105, 2, 1, false), (326, 188, 3, 0, false), (332, 187, 1, 0, false), (335, 189, 2, 0, false)],
  [(335, 195, 0, 0, false), (492, 193, 0, 0, false), (505, 194, 0, 0, false), (633, 192, 2, 0, false), (637, 197, 4, 1, false)],
  [(38, 1000, 2, 1, false), (88, 196, 1, 1, false), (92, 1001, 2, 1, false), (95, 198, 4, 1, false)]]
def am_CN : List String := [RX0, RX1, RX2, RX3, RX4, RX5, RX6, RX7, RX8, RX9, RX10, RX11, RX12, RJ0, RJ1]
def am_KD : List (List Nat) := [
  [1, 1, 1, 0],
  [1, 1, 0],
  [1, 0],
  [1, 0],
  [1, 0, 0],
  [1, 1, 1, 0],
  [1, 0, 0, 0, 2],
  [1, 0, 0],
  [1, 1, 0, 0],
  [1, 0, 0],
  [1, 1, 0, 0, 0, 0, 0, 0, 0, 0, 0, 0, 0],
  [1, 1, 1, 1, 1, 1, 1, 1, 1, 1, 1, 1, 1, 1, 1, 1, 0, 0, 0, 0],
  [1, 1, 1, 1, 0, 1, 1, 0, 0, 1, 0, 1, 1, 1, 0, 1, 0, 1, 0, 0, 1, 1, 1, 1, 1, 1, 1, 1, 0, 0, 0, 1, 0, 1, 1, 0]]
def am_MI : List (MethodName × ByteArray × Nat × Option FieldType × Nat) := [
  (yX0_load, cX0_load, 5, some .int, 0),
  (yX0_opensLast, cX0_opensLast, 3, some .boolean, 0),
  (yX0_addLetter, cX0_addLetter, 3, some .boolean, 0),
  (yX0_emptied, cX0_emptied, 2, some .int, 0),
  (yX0_told, cX0_told, 4, some .int, 0),
  (yX0_wayOf, cX0_wayOf, 5, some .int, 0),
  (yX1_clear, cX1_clear, 2, none, 1),
  (yX1_allow, cX1_allow, 3, none, 1),
  (yX1_greatest, cX1_greatest, 3, some .int, 1),
  (yX1_finds, cX1_finds, 4, some .boolean, 1),
  (yX2_load, cX2_load, 4, some .int, 2),
  (yX2_fits, cX2_fits, 2, some .boolean, 2),
  (yX2_take, cX2_take, 6, none, 2),
  (yX2_told, cX2_told, 3, some .int, 2),
  (yX3_add, cX3_add, 2, some .boolean, 3),
  (yX3_wetSteps, cX3_wetSteps, 5, some .int, 3),
  (yX4_isLost, cX4_isLost, 1, some .boolean, 4),
  (yX4_renew, cX4_renew, 4, none, 4),
  (yX4_findingOf, cX4_findingOf, 3, some .int, 4),
  (yX4_hasRange, cX4_hasRange, 3, some .boolean, 4),
  (yX4_put, cX4_put, 3, none, 4),
  (yX5_add, cX5_add, 4, some .boolean, 5),
  (yX5_haveNobody, cX5_haveNobody, 3, some .boolean, 5),
  (yX5_holdFor, cX5_holdFor, 4, some .boolean, 5),
  (yX6_chanceToCome, cX6_chanceToCome, 6, some .long, 6),
  (yX6_comingFrom, cX6_comingFrom, 8, some .long, 6),
  (yX7_append, cX7_append, 2, some .boolean, 7),
  (yX7_signAt, cX7_signAt, 2, some .char, 7),
  (yX8_load, cX8_load, 6, some .int, 8),
  (yX8_goesOn, cX8_goesOn, 4, some .boolean, 8),
  (yX8_isWhole, cX8_isWhole, 2, some .boolean, 8),
  (yX8_emptied, cX8_emptied, 2, some .int, 8),
  (yX8_layWays, cX8_layWays, 4, none, 8),
  (yX8_freeOr, cX8_freeOr, 3, some .int, 8),
  (yX8_kindOf, cX8_kindOf, 2, some .int, 8),
  (yX8_nextOf, cX8_nextOf, 3, some .int, 8),
  (yX8_stateOn, cX8_stateOn, 2, some .int, 8),
  (yX9_follow, cX9_follow, 5, none, 9),
  (yX9_told, cX9_told, 3, some .int, 9),
  (yX9_timesBy, cX9_timesBy, 4, some .int, 9),
  (yX10_wear, cX10_wear, 3, none, 10),
  (yX10_become, cX10_become, 2, none, 10),
  (yX10_begin, cX10_begin, 1, none, 10),
  (yX10_go, cX10_go, 6, none, 10),
  (yX10_walk, cX10_walk, 4, some .int, 10),
  (yX11_type, cX11_type, 3, some .int, 11),
  (yX11_wipe, cX11_wipe, 3, some .int, 11),
  (yX11_undo, cX11_undo, 2, some .int, 11),
  (yX11_fault, cX11_fault, 2, some .int, 11),
  (yX11_cell, cX11_cell, 2, some .int, 11),
  (yX11_last, cX11_last, 3, some .int, 11),
  (yX11_person, cX11_person, 3, some .int, 11),
  (yX11_rain, cX11_rain, 2, some .int, 11),
  (yX11_back, cX11_back, 1, some .int, 11),
  (yX11_read, cX11_read, 4, some .int, 11),
  (yX11_at, cX11_at, 4, some .int, 11),
  (yX11_ends, cX11_ends, 4, some .int, 11),
  (yX11_who, cX11_who, 4, some .int, 11),
  (yX11_met, cX11_met, 5, some .int, 11),
  (yX11_worn, cX11_worn, 4, some .int, 11),
  (yX11_rifest, cX11_rifest, 5, some .int, 11),
  (yX11_pair, cX11_pair, 3, some .int, 11),
  (yX11_soles, cX11_soles, 4, some .int, 11),
  (yX11_match, cX11_match, 4, some .int, 11),
  (yX11_dry, cX11_dry, 2, some .int, 11),
  (yX11_seen, cX11_seen, 4, some .int, 11),
  (yX11_forget, cX11_forget, 2, some .int, 11),
  (yX11_never, cX11_never, 3, some .int, 11),
  (yX11_wore, cX11_wore, 3, some .int, 11),
  (yX11_ask, cX11_ask, 7, some .int, 11),
  (yX11_storm, cX11_storm, 10, some .long, 11),
  (yX11_shelves, cX11_shelves, 7, some .int, 11),
  (yX11_sheet, cX11_sheet, 4, some .int, 11),
  (yX11_lose, cX11_lose, 3, some .int, 11),
  (yX11_lay, cX11_lay, 6, some .int, 11),
  (yX11_get, cX11_get, 5, some .int, 11),
  (yX11_copy, cX11_copy, 8, some .int, 11),
  (yX11_write, cX11_write, 6, some .int, 11),
  (yX11_count, cX11_count, 2, some .int, 11),
  (yX11_digest, cX11_digest, 4, some .long, 11),
  (yX11_isWithin, cX11_isWithin, 2, some .boolean, 11),
  (yX11_isBitOf, cX11_isBitOf, 2, some .boolean, 11),
  (yX11_refusal, cX11_refusal, 2, some .int, 11),
  (yX11_endState, cX11_endState, 1, some .int, 11),
  (yX11_nextSeed, cX11_nextSeed, 1, some .int, 11),
  (yX11_reload, cX11_reload, 2, none, 11),
  (yX11_outdate, cX11_outdate, 1, none, 11),
  (yX11_retrace, cX11_retrace, 3, none, 11),
  (yX11_metBy, cX11_metBy, 5, some .int, 11),
  (yX11_findPair, cX11_findPair, 7, none, 11),
  (yX11_findDry, cX11_findDry, 3, some .int, 11),
  (yX11_nobodyDrownsWithout, cX11_nobodyDrownsWithout, 5, some .boolean, 11),
  (yX11_allHoldWithout, cX11_allHoldWithout, 4, some .boolean, 11),
  (yX11_othersHold, cX11_othersHold, 3, some .boolean, 11),
  (yX11_findWore, cX11_findWore, 7, some .int, 11),
  (yX11_greatestCrowd, cX11_greatestCrowd, 8, some .int, 11),
  (yX11_mixed, cX11_mixed, 4, some .long, 11),
  (yX11_mixedLast, cX11_mixedLast, 7, some .long, 11),
  (yX11_mixedWalk, cX11_mixedWalk, 11, some .long, 11),
  (yX11_mixedPlans, cX11_mixedPlans, 7, some .long, 11),
  (yX12_in, cX12_in, 6, some .boolean, 12),
  (yX12_no, cX12_no, 1, some .long, 12),
  (yX12_isTwo, cX12_isTwo, 1, some .boolean, 12),
  (yX12_isIn, cX12_isIn, 2, some .boolean, 12),
  (yX12_ones, cX12_ones, 3, some .int, 12),
  (yX12_lesser, cX12_lesser, 2, some .int, 12),
  (yX12_greater, cX12_greater, 2, some .int, 12),
  (yX12_part, cX12_part, 11, some .long, 12),
  (yX12_finds, cX12_finds, 2, some .int, 12),
  (yX12_isSheet, cX12_isSheet, 1, some .boolean, 12),
  (yX12_sheet, cX12_sheet, 5, some .int, 12),
  (yX12_lose, cX12_lose, 2, some .int, 12),
  (yX12_lacks, cX12_lacks, 4, some .int, 12),
  (yX12_cut, cX12_cut, 2, some .int, 12),
  (yX12_lay, cX12_lay, 6, some .int, 12),
  (yX12_get, cX12_get, 4, some .int, 12),
  (yX12_copy, cX12_copy, 7, some .int, 12),
  (yX12_isText, cX12_isText, 1, some .boolean, 12),
  (yX12_type, cX12_type, 3, some .int, 12),
  (yX12_wipe, cX12_wipe, 3, some .int, 12),
  (yX12_undo, cX12_undo, 2, some .int, 12),
  (yX12_torn, cX12_torn, 2, some .int, 12),
  (yX12_cellOf, cX12_cellOf, 1, some .int, 12),
  (yX12_wayOf, cX12_wayOf, 1, some .int, 12),
  (yX12_readsTown, cX12_readsTown, 7, some .int, 12),
  (yX12_readsLasts, cX12_readsLasts, 9, some .int, 12),
  (yX12_figureOf, cX12_figureOf, 2, some .int, 12),
  (yX12_personOf, cX12_personOf, 2, some .int, 12),
  (yX12_readsPeople, cX12_readsPeople, 6, some .int, 12),
  (yX12_readsText, cX12_readsText, 2, some .int, 12),
  (yX12_fault, cX12_fault, 2, some .int, 12),
  (yX12_isLast, cX12_isLast, 2, some .boolean, 12),
  (yX12_isPerson, cX12_isPerson, 2, some .boolean, 12),
  (yX12_isStep, cX12_isStep, 1, some .boolean, 12),
  (yX12_cell, cX12_cell, 2, some .int, 12),
  (yX12_lastBy, cX12_lastBy, 3, some .int, 12),
  (yX12_last, cX12_last, 3, some .int, 12),
  (yX12_person, cX12_person, 3, some .int, 12),
  (yX12_rain, cX12_rain, 2, some .int, 12),
  (yX12_back, cX12_back, 1, some .int, 12),
  (yX12_read, cX12_read, 4, some .int, 12),
  (yX12_isRain, cX12_isRain, 4, some .boolean, 12),
  (yX12_power, cX12_power, 4, some .int, 12),
  (yX12_beside, cX12_beside, 4, some .int, 12),
  (yX12_wayBy, cX12_wayBy, 6, some .int, 12),
  (yX12_settles, cX12_settles, 4, none, 12),
  (yX12_walks, cX12_walks, 8, none, 12),
  (yX12_meet, cX12_meet, 4, none, 12),
  (yX12_begins, cX12_begins, 4, none, 12),
  (yX12_lives, cX12_lives, 3, none, 12),
  (yX12_find, cX12_find, 1, none, 12),
  (yX12_at, cX12_at, 4, some .int, 12),
  (yX12_ends, cX12_ends, 3, some .int, 12),
  (yX12_whoBy, cX12_whoBy, 4, some .int, 12),
  (yX12_who, cX12_who, 2, some .int, 12),
  (yX12_metBy, cX12_metBy, 2, some .int, 12),
  (yX12_met, cX12_met, 2, some .int, 12),
  (yX12_worn, cX12_worn, 2, some .int, 12),
  (yX12_rifestNow, cX12_rifestNow, 3, some .int, 12),
  (yX12_rifest, cX12_rifest, 1, some .int, 12),
  (yX12_comes, cX12_comes, 2, some .int, 12),
  (yX12_pairOf, cX12_pairOf, 9, some .int, 12),
  (yX12_pair, cX12_pair, 3, some .int, 12),
  (yX12_solesOf, cX12_solesOf, 5, some .int, 12),
  (yX12_soles, cX12_soles, 2, some .int, 12),
  (yX12_comesIn, cX12_comesIn, 5, some .boolean, 12),
  (yX12_matchNow, cX12_matchNow, 7, some .int, 12),
  (yX12_match, cX12_match, 1, some .int, 12),
  (yX12_isDry, cX12_isDry, 2, some .boolean, 12),
  (yX12_dryOf, cX12_dryOf, 4, some .int, 12),
  (yX12_dry, cX12_dry, 2, some .int, 12),
  (yX12_seen, cX12_seen, 4, some .int, 12),
  (yX12_forget, cX12_forget, 2, some .int, 12),
  (yX12_isSeen, cX12_isSeen, 4, some .boolean, 12),
  (yX12_neverNow, cX12_neverNow, 3, some .int, 12),
  (yX12_never, cX12_never, 1, some .int, 12),
  (yX12_woreOf, cX12_woreOf, 6, some .int, 12),
  (yX12_wore, cX12_wore, 3, some .int, 12),
  (yX12_alike, cX12_alike, 7, some .int, 12),
  (yX12_askOf, cX12_askOf, 6, some .int, 12),
  (yX12_ask, cX12_ask, 2, some .int, 12),
  (yX12_stormOf, cX12_stormOf, 11, some .long, 12),
  (yX12_storm, cX12_storm, 5, some .long, 12),
  (yX12_lot, cX12_lot, 2, some .int, 12),
  (yX12_shelvesOf, cX12_shelvesOf, 4, some .int, 12),
  (yX12_shelves, cX12_shelves, 3, some .int, 12),
  (yX12_write, cX12_write, 5, some .int, 12),
  (yX12_count, cX12_count, 2, some .int, 12),
  (yX12_tellsStep, cX12_tellsStep, 8, some .long, 12),
  (yX12_tellsPerson, cX12_tellsPerson, 7, some .long, 12),
  (yX12_digest, cX12_digest, 5, some .long, 12),
  (yJ0_indexOf_0f7a4, cJ0_indexOf_0f7a4, 2, some .int, 13),
  (yJ0_indexOf_7cf53, cJ0_indexOf_7cf53, 3, some .int, 13),
  (yJ0_isLatin1_aae02, cJ0_isLatin1_aae02, 1, some .boolean, 13),
  (yJ0_length_8abf5, cJ0_length_8abf5, 1, some .int, 13),
  (yJ0_coder_7d493, cJ0_coder_7d493, 1, some .byte, 13),
  (yJ1_canEncode_9a6ad, cJ1_canEncode_9a6ad, 1, some .boolean, 14),
  (yJ1_indexOf_4cfef, cJ1_indexOf_4cfef, 4, some .int, 14),
  (yJ1_indexOfChar_4cfef, cJ1_indexOfChar_4cfef, 6, some .int, 14)]
/-- DeadLasts$Lasts.load -/
def am_cd_0 : List am_T5 := [
  (0, .aload_n 0, 0, 1, 0),
  (1, .iconst 0, 0, 2, 0),
  (2, .putfield 21, 0, 5, 0),
  (5, .iconst 1, 1, 6, 0),
  (6, .istore_n 2, 0, 7, 0),
  (7, .iconst 0, 0, 8, 0),
  (8, .istore_n 3, 0, 9, 0),
  (9, .iload_n 3, 0, 10, 0),
  (10, .aload_n 1, 0, 11, 0),
  (11, .getfield 25, 0, 14, 0),
  (14, .if_icmp .ge 96, 0, 17, 110),
  (17, .aload_n 1, 0, 18, 0),
  (18, .iload_n 3, 0, 19, 0),
  (19, .invokevirtual 30, 0, 22, 0),
  (22, .istore 4, 0, 24, 0),
  (24, .iload_n 2, 0, 25, 0),
  (25, .ifCond .eq 15, 0, 28, 40),
  (28, .aload_n 0, 0, 29, 0),
  (29, .iload 4, 0, 31, 0),
  (31, .invokevirtual 34, 0, 34, 0),
  (34, .ifCond .ne 43, 0, 37, 77),
  (37, .goto 34, 0, 40, 71),
  (40, .iload 4, 0, 42, 0),
  (42, .bipush 59, 59, 44, 0),
  (44, .if_icmp .ne 18, 0, 47, 62),
  (47, .aload_n 0, 0, 48, 0),
  (48, .getfield 15, 0, 51, 0),
  (51, .aload_n 0, 0, 52, 0),
  (52, .getfield 21, 0, 55, 0),
  (55, .iaload, 0, 56, 0),
  (56, .ifCond .ne 21, 0, 59, 77),
  (59, .goto 12, 0, 62, 71),
  (62, .aload_n 0, 0, 63, 0),
  (63, .iload 4, 0, 65, 0),
  (65, .invokevirtual 38, 0, 68, 0),
  (68, .ifCond .ne 9, 0, 71, 77),
  (71, .aload_n 0, 0, 72, 0),
  (72, .iload_n 3, 0, 73, 0),
  (73, .invokevirtual 41, 0, 76, 0),
  (76, .ireturn, 0, 77, 0),
  (77, .iload 4, 0, 79, 0),
  (79, .bipush 59, 59, 81, 0),
  (81, .if_icmp .ne 7, 0, 84, 88),
  (84, .iconst 1, 1, 85, 0),
  (85, .goto 4, 0, 88, 89),
  (88, .iconst 0, 0, 89, 0),
  (89, .istore_n 2, 0, 90, 0),
  (90, .iload_n 2, 0, 91, 0),
  (91, .ifCond .eq 13, 0, 94, 104),
  (94, .aload_n 0, 0, 95, 0),
  (95, .dup, 0, 96, 0),
  (96, .getfield 21, 0, 99, 0),
  (99, .iconst 1, 1, 100, 0),
  (100, .iadd, 0, 101, 0),
  (101, .putfield 21, 0, 104, 0),
  (104, .iinc 3 1, 1, 107, 0),
  (107, .goto (-98), 0, 110, 9),
  (110, .aload_n 1, 0, 111, 0),
  (111, .getfield 25, 0, 114, 0),
  (114, .ifCond .ne 5, 0, 117, 119),
  (117, .iconst (-1), (-1), 118, 0),
  (118, .ireturn, 0, 119, 0),
  (119, .iload_n 2, 0, 120, 0),
  (120, .ifCond .ne 15, 0, 123, 135),
  (123, .aload_n 0, 0, 124, 0),
  (124, .getfield 15, 0, 127, 0),
  (127, .aload_n 0, 0, 128, 0),
  (128, .getfield 21, 0, 131, 0),
  (131, .iaload, 0, 132, 0),
  (132, .ifCond .ne 12, 0, 135, 144),
  (135, .aload_n 0, 0, 136, 0),
  (136, .aload_n 1, 0, 137, 0),
  (137, .getfield 25, 0, 140, 0),
  (140, .invokevirtual 41, 0, 143, 0),
  (143, .ireturn, 0, 144, 0),
  (144, .aload_n 0, 0, 145, 0),
  (145, .dup, 0, 146, 0),
  (146, .getfield 21, 0, 149, 0),
  (149, .iconst 1, 1, 150, 0),
  (150, .iadd, 0, 151, 0),
  (151, .putfield 21, 0, 154, 0),
  (154, .iconst (-1), (-1), 155, 0),
  (155, .ireturn, 0, 156, 0)]
def am_lv_0 : List (Nat × List Nat) := [(9, [0, 1, 2, 3]), (40, [0, 1, 3, 4]), (62, [0, 1, 3, 4]), (71, [0, 3]), (77, [0, 1, 3, 4]), (88, [0, 1, 3]), (89, [0, 1, 3]), (104, [0, 1, 2, 3]), (110, [0, 1, 2]), (119, [0, 1, 2]), (135, [0, 1]), (144, [0])]
/-- DeadLasts$Lasts.opensLast -/
def am_cd_1 : List am_T5 := [
  (0, .ldc 45, 0, 2, 0),
  (2, .iload_n 1, 0, 3, 0),
  (3, .invokevirtual 47, 0, 6, 0),
  (6, .istore_n 2, 0, 7, 0),
  (7, .iload_n 2, 0, 8, 0),
  (8, .ifCond .lt 12, 0, 11, 20),
  (11, .aload_n 0, 0, 12, 0),
  (12, .getfield 21, 0, 15, 0),
  (15, .bipush 8, 8, 17, 0),
  (17, .if_icmp .lt 5, 0, 20, 22),
  (20, .iconst 0, 0, 21, 0),
  (21, .ireturn, 0, 22, 0),
  (22, .aload_n 0, 0, 23, 0),
  (23, .getfield 9, 0, 26, 0),
  (26, .aload_n 0, 0, 27, 0),
  (27, .getfield 21, 0, 30, 0),
  (30, .iload_n 2, 0, 31, 0),
  (31, .iastore, 0, 32, 0),
  (32, .aload_n 0, 0, 33, 0),
  (33, .getfield 15, 0, 36, 0),
  (36, .aload_n 0, 0, 37, 0),
  (37, .getfield 21, 0, 40, 0),
  (40, .iconst 0, 0, 41, 0),
  (41, .iastore, 0, 42, 0),
  (42, .iconst 1, 1, 43, 0),
  (43, .ireturn, 0, 44, 0)]
def am_lv_1 : List (Nat × List Nat) := [(20, []), (22, [0, 2])]
/-- DeadLasts$Lasts.addLetter -/
def am_cd_2 : List am_T5 := [
  (0, .ldc 52, 0, 2, 0),
  (2, .iload_n 1, 0, 3, 0),
  (3, .invokevirtual 47, 0, 6, 0),
  (6, .istore_n 2, 0, 7, 0),
  (7, .iload_n 2, 0, 8, 0),
  (8, .ifCond .lt 16, 0, 11, 24),
  (11, .aload_n 0, 0, 12, 0),
  (12, .getfield 15, 0, 15, 0),
  (15, .aload_n 0, 0, 16, 0),
  (16, .getfield 21, 0, 19, 0),
  (19, .iaload, 0, 20, 0),
  (20, .iconst 4, 4, 21, 0),
  (21, .if_icmp .lt 5, 0, 24, 26),
  (24, .iconst 0, 0, 25, 0),
  (25, .ireturn, 0, 26, 0),
  (26, .aload_n 0, 0, 27, 0),
  (27, .getfield 18, 0, 30, 0),
  (30, .aload_n 0, 0, 31, 0),
  (31, .getfield 21, 0, 34, 0),
  (34, .iconst 4, 4, 35, 0),
  (35, .imul, 0, 36, 0),
  (36, .aload_n 0, 0, 37, 0),
  (37, .getfield 15, 0, 40, 0),
  (40, .aload_n 0, 0, 41, 0),
  (41, .getfield 21, 0, 44, 0),
  (44, .iaload, 0, 45, 0),
  (45, .iadd, 0, 46, 0),
  (46, .iload_n 2, 0, 47, 0),
  (47, .iastore, 0, 48, 0),
  (48, .aload_n 0, 0, 49, 0),
  (49, .getfield 15, 0, 52, 0),
  (52, .aload_n 0, 0, 53, 0),
  (53, .getfield 21, 0, 56, 0),
  (56, .dup2, 0, 57, 0),
  (57, .iaload, 0, 58, 0),
  (58, .iconst 1, 1, 59, 0),
  (59, .iadd, 0, 60, 0),
  (60, .iastore, 0, 61, 0),
  (61, .iconst 1, 1, 62, 0),
  (62, .ireturn, 0, 63, 0)]
def am_lv_2 : List (Nat × List Nat) := [(24, []), (26, [0, 2])]
/-- DeadLasts$Lasts.emptied -/
def am_cd_3 : List am_T5 := [
  (0, .aload_n 0, 0, 1, 0),
  (1, .iconst 0, 0, 2, 0),
  (2, .putfield 21, 0, 5, 0),
  (5, .iload_n 1, 0, 6, 0),
  (6, .ireturn, 0, 7, 0)]
def am_lv_3 : List (Nat × List Nat) := []
/-- DeadLasts$Lasts.told -/
def am_cd_4 : List am_T5 := [
  (0, .iload_n 2, 0, 1, 0),
  (1, .ifCond .ne 10, 0, 4, 11),
  (4, .aload_n 0, 0, 5, 0),
  (5, .getfield 9, 0, 8, 0),
  (8, .iload_n 1, 0, 9, 0),
  (9, .iaload, 0, 10, 0),
  (10, .ireturn, 0, 11, 0),
  (11, .iload_n 2, 0, 12, 0),
  (12, .iconst 1, 1, 13, 0),
  (13, .if_icmp .ne 10, 0, 16, 23),
  (16, .aload_n 0, 0, 17, 0),
  (17, .getfield 15, 0, 20, 0),
  (20, .iload_n 1, 0, 21, 0),
  (21, .iaload, 0, 22, 0),
  (22, .ireturn, 0, 23, 0),
  (23, .iload_n 2, 0, 24, 0),
  (24, .iconst 2, 2, 25, 0),
  (25, .isub, 0, 26, 0),
  (26, .istore_n 3, 0, 27, 0),
  (27, .iload_n 3, 0, 28, 0),
  (28, .aload_n 0, 0, 29, 0),
  (29, .getfield 15, 0, 32, 0),
  (32, .iload_n 1, 0, 33, 0),
  (33, .iaload, 0, 34, 0),
  (34, .if_icmp .ge 16, 0, 37, 50),
  (37, .aload_n 0, 0, 38, 0),
  (38, .getfield 18, 0, 41, 0),
  (41, .iload_n 1, 0, 42, 0),
  (42, .iconst 4, 4, 43, 0),
  (43, .imul, 0, 44, 0),
  (44, .iload_n 3, 0, 45, 0),
  (45, .iadd, 0, 46, 0),
  (46, .iaload, 0, 47, 0),
  (47, .goto 4, 0, 50, 51),
  (50, .iconst (-1), (-1), 51, 0),
  (51, .ireturn, 0, 52, 0)]
def am_lv_4 : List (Nat × List Nat) := [(11, [0, 1, 2]), (23, [0, 1, 2]), (50, []), (51, [])]
/-- DeadLasts$Lasts.wayOf -/
def am_cd_5 : List am_T5 := [
  (0, .aload_n 0, 0, 1, 0),
  (1, .getfield 15, 0, 4, 0),
  (4, .iload_n 1, 0, 5, 0),
  (5, .iaload, 0, 6, 0),
  (6, .istore_n 3, 0, 7, 0),
  (7, .iload_n 3, 0, 8, 0),
  (8, .ifCond .gt 5, 0, 11, 13),
  (11, .iconst 0, 0, 12, 0),
  (12, .ireturn, 0, 13, 0),
  (13, .aload_n 0, 0, 14, 0),
  (14, .getfield 18, 0, 17, 0),
  (17, .iload_n 1, 0, 18, 0),
  (18, .iconst 4, 4, 19, 0),
  (19, .imul, 0, 20, 0),
  (20, .iload_n 2, 0, 21, 0),
  (21, .iload_n 3, 0, 22, 0),
  (22, .irem, 0, 23, 0),
  (23, .iadd, 0, 24, 0),
  (24, .iaload, 0, 25, 0),
  (25, .istore 4, 0, 27, 0),
  (27, .aload_n 0, 0, 28, 0),
  (28, .getfield 9, 0, 31, 0),
  (31, .iload_n 1, 0, 32, 0),
  (32, .iaload, 0, 33, 0),
  (33, .iconst 1, 1, 34, 0),
  (34, .if_icmp .ne 17, 0, 37, 51),
  (37, .iload_n 2, 0, 38, 0),
  (38, .iconst 3, 3, 39, 0),
  (39, .irem, 0, 40, 0),
  (40, .iconst 2, 2, 41, 0),
  (41, .if_icmp .ne 10, 0, 44, 51),
  (44, .iload 4, 0, 46, 0),
  (46, .iconst 2, 2, 47, 0),
  (47, .iadd, 0, 48, 0),
  (48, .iconst 4, 4, 49, 0),
  (49, .irem, 0, 50, 0),
  (50, .ireturn, 0, 51, 0),
  (51, .aload_n 0, 0, 52, 0),
  (52, .getfield 9, 0, 55, 0),
  (55, .iload_n 1, 0, 56, 0),
  (56, .iaload, 0, 57, 0),
  (57, .iconst 2, 2, 58, 0),
  (58, .if_icmp .ne 12, 0, 61, 70),
  (61, .iload 4, 0, 63, 0),
  (63, .iload_n 2, 0, 64, 0),
  (64, .iload_n 3, 0, 65, 0),
  (65, .idiv, 0, 66, 0),
  (66, .iadd, 0, 67, 0),
  (67, .iconst 4, 4, 68, 0),
  (68, .irem, 0, 69, 0),
  (69, .ireturn, 0, 70, 0),
  (70, .iload 4, 0, 72, 0),
  (72, .ireturn, 0, 73, 0)]
def am_lv_5 : List (Nat × List Nat) := [(13, [0, 1, 2, 3]), (51, [0, 1, 2, 3, 4]), (70, [4])]
/-- DeadLasts$Matching.clear -/
def am_cd_6 : List am_T5 := [
  (0, .iconst 0, 0, 1, 0),
  (1, .istore_n 1, 0, 2, 0),
  (2, .iload_n 1, 0, 3, 0),
  (3, .bipush 8, 8, 5, 0),
  (5, .if_icmp .ge 23, 0, 8, 28),
  (8, .aload_n 0, 0, 9, 0),
  (9, .getfield 9, 0, 12, 0),
  (12, .iload_n 1, 0, 13, 0),
  (13, .iconst 0, 0, 14, 0),
  (14, .iastore, 0, 15, 0),
  (15, .aload_n 0, 0, 16, 0),
  (16, .getfield 15, 0, 19, 0),
  (19, .iload_n 1, 0, 20, 0),
  (20, .iconst (-1), (-1), 21, 0),
  (21, .iastore, 0, 22, 0),
  (22, .iinc 1 1, 1, 25, 0),
  (25, .goto (-23), 0, 28, 2),
  (28, .return_, 0, 29, 0)]
def am_lv_6 : List (Nat × List Nat) := [(2, [0, 1]), (28, [])]
/-- DeadLasts$Matching.allow -/
def am_cd_7 : List am_T5 := [
  (0, .aload_n 0, 0, 1, 0),
  (1, .getfield 9, 0, 4, 0),
  (4, .iload_n 1, 0, 5, 0),
  (5, .dup2, 0, 6, 0),
  (6, .iaload, 0, 7, 0),
  (7, .iconst 1, 1, 8, 0),
  (8, .iload_n 2, 0, 9, 0),
  (9, .ishl, 0, 10, 0),
  (10, .ior, 0, 11, 0),
  (11, .iastore, 0, 12, 0),
  (12, .return_, 0, 13, 0)]
def am_lv_7 : List (Nat × List Nat) := []
/-- DeadLasts$Matching.greatest -/
def am_cd_8 : List am_T5 := [
  (0, .iconst 0, 0, 1, 0),
  (1, .istore_n 1, 0, 2, 0),
  (2, .iconst 0, 0, 3, 0),
  (3, .istore_n 2, 0, 4, 0),
  (4, .iload_n 2, 0, 5, 0),
  (5, .bipush 8, 8, 7, 0),
  (7, .if_icmp .ge 26, 0, 10, 33),
  (10, .aload_n 0, 0, 11, 0),
  (11, .iconst 0, 0, 12, 0),
  (12, .putfield 18, 0, 15, 0),
  (15, .aload_n 0, 0, 16, 0),
  (16, .iload_n 2, 0, 17, 0),
  (17, .iconst 0, 0, 18, 0),
  (18, .invokevirtual 22, 0, 21, 0),
  (21, .ifCond .eq 6, 0, 24, 27),
  (24, .iinc 1 1, 1, 27, 0),
  (27, .iinc 2 1, 1, 30, 0),
  (30, .goto (-26), 0, 33, 4),
  (33, .iload_n 1, 0, 34, 0),
  (34, .ireturn, 0, 35, 0)]
def am_lv_8 : List (Nat × List Nat) := [(4, [0, 1, 2]), (27, [0, 1, 2]), (33, [1])]
/-- DeadLasts$Matching.finds -/
def am_cd_9 : List am_T5 := [
  (0, .iload_n 2, 0, 1, 0),
  (1, .bipush 8, 8, 3, 0),
  (3, .if_icmp .le 5, 0, 6, 8),
  (6, .iconst 0, 0, 7, 0),
  (7, .ireturn, 0, 8, 0),
  (8, .iconst 0, 0, 9, 0),
  (9, .istore_n 3, 0, 10, 0),
  (10, .iload_n 3, 0, 11, 0),
  (11, .bipush 8, 8, 13, 0),
  (13, .if_icmp .ge 83, 0, 16, 96),
  (16, .aload_n 0, 0, 17, 0),
  (17, .getfield 9, 0, 20, 0),
  (20, .iload_n 1, 0, 21, 0),
  (21, .iaload, 0, 22, 0),
  (22, .iload_n 3, 0, 23, 0),
  (23, .invokestatic 26, 0, 26, 0),
  (26, .ifCond .eq 64, 0, 29, 90),
  (29, .aload_n 0, 0, 30, 0),
  (30, .getfield 18, 0, 33, 0),
  (33, .iload_n 3, 0, 34, 0),
  (34, .invokestatic 26, 0, 37, 0),
  (37, .ifCond .eq 6, 0, 40, 43),
  (40, .goto 50, 0, 43, 90),
  (43, .aload_n 0, 0, 44, 0),
  (44, .dup, 0, 45, 0),
  (45, .getfield 18, 0, 48, 0),
  (48, .iconst 1, 1, 49, 0),
  (49, .iload_n 3, 0, 50, 0),
  (50, .ishl, 0, 51, 0),
  (51, .ior, 0, 52, 0),
  (52, .putfield 18, 0, 55, 0),
  (55, .aload_n 0, 0, 56, 0),
  (56, .getfield 15, 0, 59, 0),
  (59, .iload_n 3, 0, 60, 0),
  (60, .iaload, 0, 61, 0),
  (61, .iconst (-1), (-1), 62, 0),
  (62, .if_icmp .eq 19, 0, 65, 81),
  (65, .aload_n 0, 0, 66, 0),
  (66, .aload_n 0, 0, 67, 0),
  (67, .getfield 15, 0, 70, 0),
  (70, .iload_n 3, 0, 71, 0),
  (71, .iaload, 0, 72, 0),
  (72, .iload_n 2, 0, 73, 0),
  (73, .iconst 1, 1, 74, 0),
  (74, .iadd, 0, 75, 0),
  (75, .invokevirtual 22, 0, 78, 0),
  (78, .ifCond .eq 12, 0, 81, 90),
  (81, .aload_n 0, 0, 82, 0),
  (82, .getfield 15, 0, 85, 0),
  (85, .iload_n 3, 0, 86, 0),
  (86, .iload_n 1, 0, 87, 0),
  (87, .iastore, 0, 88, 0),
  (88, .iconst 1, 1, 89, 0),
  (89, .ireturn, 0, 90, 0),
  (90, .iinc 3 1, 1, 93, 0),
  (93, .goto (-83), 0, 96, 10),
  (96, .iconst 0, 0, 97, 0),
  (97, .ireturn, 0, 98, 0)]
def am_lv_9 : List (Nat × List Nat) := [(8, [0, 1, 2]), (10, [0, 1, 2, 3]), (43, [0, 1, 2, 3]), (81, [0, 1, 3]), (90, [0, 1, 2, 3]), (96, [])]
/-- DeadLasts$People.load -/
def am_cd_10 : List am_T5 := [
  (0, .aload_n 0, 0, 1, 0),
  (1, .iconst 0, 0, 2, 0),
  (2, .putfield 15, 0, 5, 0),
  (5, .bipush 7, 7, 7, 0),
  (7, .istore_n 2, 0, 8, 0),
  (8, .iconst 0, 0, 9, 0),
  (9, .istore_n 3, 0, 10, 0),
  (10, .iload_n 3, 0, 11, 0),
  (11, .aload_n 1, 0, 12, 0),
  (12, .getfield 19, 0, 15, 0),
  (15, .if_icmp .ge 25, 0, 18, 40),
  (18, .iload_n 3, 0, 19, 0),
  (19, .iload_n 2, 0, 20, 0),
  (20, .irem, 0, 21, 0),
  (21, .aload_n 1, 0, 22, 0),
  (22, .iload_n 3, 0, 23, 0),
  (23, .invokevirtual 24, 0, 26, 0),
  (26, .invokestatic 28, 0, 29, 0),
  (29, .ifCond .ne 5, 0, 32, 34),
  (32, .iload_n 3, 0, 33, 0),
  (33, .ireturn, 0, 34, 0),
  (34, .iinc 3 1, 1, 37, 0),
  (37, .goto (-27), 0, 40, 10),
  (40, .aload_n 1, 0, 41, 0),
  (41, .getfield 19, 0, 44, 0),
  (44, .ifCond .ne 5, 0, 47, 49),
  (47, .iconst (-1), (-1), 48, 0),
  (48, .ireturn, 0, 49, 0),
  (49, .aload_n 1, 0, 50, 0),
  (50, .getfield 19, 0, 53, 0),
  (53, .iload_n 2, 0, 54, 0),
  (54, .irem, 0, 55, 0),
  (55, .bipush 6, 6, 57, 0),
  (57, .if_icmp .eq 8, 0, 60, 65),
  (60, .aload_n 1, 0, 61, 0),
  (61, .getfield 19, 0, 64, 0),
  (64, .ireturn, 0, 65, 0),
  (65, .aload_n 0, 0, 66, 0),
  (66, .aload_n 1, 0, 67, 0),
  (67, .getfield 19, 0, 70, 0),
  (70, .iconst 1, 1, 71, 0),
  (71, .iadd, 0, 72, 0),
  (72, .iload_n 2, 0, 73, 0),
  (73, .idiv, 0, 74, 0),
  (74, .bipush 8, 8, 76, 0),
  (76, .invokestatic 32, 0, 79, 0),
  (79, .putfield 15, 0, 82, 0),
  (82, .iconst 0, 0, 83, 0),
  (83, .istore_n 3, 0, 84, 0),
  (84, .iload_n 3, 0, 85, 0),
  (85, .aload_n 0, 0, 86, 0),
  (86, .getfield 15, 0, 89, 0),
  (89, .if_icmp .ge 18, 0, 92, 107),
  (92, .aload_n 0, 0, 93, 0),
  (93, .aload_n 1, 0, 94, 0),
  (94, .iload_n 3, 0, 95, 0),
  (95, .iload_n 3, 0, 96, 0),
  (96, .iload_n 2, 0, 97, 0),
  (97, .imul, 0, 98, 0),
  (98, .invokevirtual 38, 0, 101, 0),
  (101, .iinc 3 1, 1, 104, 0),
  (104, .goto (-20), 0, 107, 84),
  (107, .iconst (-1), (-1), 108, 0),
  (108, .ireturn, 0, 109, 0)]
def am_lv_10 : List (Nat × List Nat) := [(10, [0, 1, 2, 3]), (34, [0, 1, 2, 3]), (40, [0, 1, 2]), (49, [0, 1, 2]), (65, [0, 1, 2]), (84, [0, 1, 2, 3]), (107, [])]
/-- DeadLasts$People.fits -/
def am_cd_11 : List am_T5 := [
  (0, .iload_n 0, 0, 1, 0),
  (1, .bipush 6, 6, 3, 0),
  (3, .if_icmp .ne 15, 0, 6, 18),
  (6, .iload_n 1, 0, 7, 0),
  (7, .bipush 59, 59, 9, 0),
  (9, .if_icmp .ne 7, 0, 12, 16),
  (12, .iconst 1, 1, 13, 0),
  (13, .goto 4, 0, 16, 17),
  (16, .iconst 0, 0, 17, 0),
  (17, .ireturn, 0, 18, 0),
  (18, .iload_n 0, 0, 19, 0),
  (19, .iconst 5, 5, 20, 0),
  (20, .if_icmp .ne 18, 0, 23, 38),
  (23, .ldc 42, 0, 25, 0),
  (25, .iload_n 1, 0, 26, 0),
  (26, .invokevirtual 44, 0, 29, 0),
  (29, .ifCond .lt 7, 0, 32, 36),
  (32, .iconst 1, 1, 33, 0),
  (33, .goto 4, 0, 36, 37),
  (36, .iconst 0, 0, 37, 0),
  (37, .ireturn, 0, 38, 0),
  (38, .iload_n 1, 0, 39, 0),
  (39, .bipush 48, 48, 41, 0),
  (41, .if_icmp .lt 19, 0, 44, 60),
  (44, .iload_n 1, 0, 45, 0),
  (45, .bipush 48, 48, 47, 0),
  (47, .getstatic 50, 0, 50, 0),
  (50, .iload_n 0, 0, 51, 0),
  (51, .iaload, 0, 52, 0),
  (52, .iadd, 0, 53, 0),
  (53, .if_icmp .gt 7, 0, 56, 60),
  (56, .iconst 1, 1, 57, 0),
  (57, .goto 4, 0, 60, 61),
  (60, .iconst 0, 0, 61, 0),
  (61, .ireturn, 0, 62, 0)]
def am_lv_11 : List (Nat × List Nat) := [(16, []), (17, []), (18, [0, 1]), (36, []), (37, []), (38, [0, 1]), (60, []), (61, [])]
/-- DeadLasts$People.take -/
def am_cd_12 : List am_T5 := [
  (0, .iload_n 2, 0, 1, 0),
  (1, .iconst 5, 5, 2, 0),
  (2, .imul, 0, 3, 0),
  (3, .istore 4, 0, 5, 0),
  (5, .aload_n 0, 0, 6, 0),
  (6, .getfield 9, 0, 9, 0),
  (9, .iload 4, 0, 11, 0),
  (11, .aload_n 1, 0, 12, 0),
  (12, .iload_n 3, 0, 13, 0),
  (13, .invokevirtual 24, 0, 16, 0),
  (16, .bipush 48, 48, 18, 0),
  (18, .isub, 0, 19, 0),
  (19, .bipush 10, 10, 21, 0),
  (21, .imul, 0, 22, 0),
  (22, .aload_n 1, 0, 23, 0),
  (23, .iload_n 3, 0, 24, 0),
  (24, .iconst 1, 1, 25, 0),
  (25, .iadd, 0, 26, 0),
  (26, .invokevirtual 24, 0, 29, 0),
  (29, .iadd, 0, 30, 0),
  (30, .bipush 48, 48, 32, 0),
  (32, .isub, 0, 33, 0),
  (33, .iastore, 0, 34, 0),
  (34, .iconst 1, 1, 35, 0),
  (35, .istore 5, 0, 37, 0),
  (37, .iload 5, 0, 39, 0),
  (39, .iconst 4, 4, 40, 0),
  (40, .if_icmp .ge 32, 0, 43, 72),
  (43, .aload_n 0, 0, 44, 0),
  (44, .getfield 9, 0, 47, 0),
  (47, .iload 4, 0, 49, 0),
  (49, .iload 5, 0, 51, 0),
  (51, .iadd, 0, 52, 0),
  (52, .aload_n 1, 0, 53, 0),
  (53, .iload_n 3, 0, 54, 0),
  (54, .iconst 1, 1, 55, 0),
  (55, .iadd, 0, 56, 0),
  (56, .iload 5, 0, 58, 0),
  (58, .iadd, 0, 59, 0),
  (59, .invokevirtual 24, 0, 62, 0),
  (62, .bipush 48, 48, 64, 0),
  (64, .isub, 0, 65, 0),
  (65, .iastore, 0, 66, 0),
  (66, .iinc 5 1, 1, 69, 0),
  (69, .goto (-32), 0, 72, 37),
  (72, .aload_n 0, 0, 73, 0),
  (73, .getfield 9, 0, 76, 0),
  (76, .iload 4, 0, 78, 0),
  (78, .iconst 5, 5, 79, 0),
  (79, .iadd, 0, 80, 0),
  (80, .iconst 1, 1, 81, 0),
  (81, .isub, 0, 82, 0),
  (82, .ldc 42, 0, 84, 0),
  (84, .aload_n 1, 0, 85, 0),
  (85, .iload_n 3, 0, 86, 0),
  (86, .iconst 5, 5, 87, 0),
  (87, .iadd, 0, 88, 0),
  (88, .invokevirtual 24, 0, 91, 0),
  (91, .invokevirtual 44, 0, 94, 0),
  (94, .iastore, 0, 95, 0),
  (95, .return_, 0, 96, 0)]
def am_lv_12 : List (Nat × List Nat) := [(37, [0, 1, 3, 4, 5]), (72, [0, 1, 3, 4])]
/-- DeadLasts$People.told -/
def am_cd_13 : List am_T5 := [
  (0, .aload_n 0, 0, 1, 0),
  (1, .getfield 9, 0, 4, 0),
  (4, .iload_n 1, 0, 5, 0),
  (5, .iconst 5, 5, 6, 0),
  (6, .imul, 0, 7, 0),
  (7, .iload_n 2, 0, 8, 0),
  (8, .iadd, 0, 9, 0),
  (9, .iaload, 0, 10, 0),
  (10, .ireturn, 0, 11, 0)]
def am_lv_13 : List (Nat × List Nat) := []
/-- DeadLasts$Rains.add -/
def am_cd_14 : List am_T5 := [
  (0, .aload_n 0, 0, 1, 0),
  (1, .getfield 15, 0, 4, 0),
  (4, .bipush 8, 8, 6, 0),
  (6, .if_icmp .lt 5, 0, 9, 11),
  (9, .iconst 0, 0, 10, 0),
  (10, .ireturn, 0, 11, 0),
  (11, .aload_n 0, 0, 12, 0),
  (12, .getfield 9, 0, 15, 0),
  (15, .aload_n 0, 0, 16, 0),
  (16, .getfield 15, 0, 19, 0),
  (19, .iload_n 1, 0, 20, 0),
  (20, .iastore, 0, 21, 0),
  (21, .aload_n 0, 0, 22, 0),
  (22, .dup, 0, 23, 0),
  (23, .getfield 15, 0, 26, 0),
  (26, .iconst 1, 1, 27, 0),
  (27, .iadd, 0, 28, 0),
  (28, .putfield 15, 0, 31, 0),
  (31, .iconst 1, 1, 32, 0),
  (32, .ireturn, 0, 33, 0)]
def am_lv_14 : List (Nat × List Nat) := [(11, [0, 1])]
/-- DeadLasts$Rains.wetSteps -/
def am_cd_15 : List am_T5 := [
  (0, .iconst 0, 0, 1, 0),
  (1, .istore_n 3, 0, 2, 0),
  (2, .iconst 0, 0, 3, 0),
  (3, .istore 4, 0, 5, 0),
  (5, .iload 4, 0, 7, 0),
  (7, .aload_n 0, 0, 8, 0),
  (8, .getfield 15, 0, 11, 0),
  (11, .if_icmp .ge 33, 0, 14, 44),
  (14, .iload 4, 0, 16, 0),
  (16, .iload_n 1, 0, 17, 0),
  (17, .if_icmp .eq 21, 0, 20, 38),
  (20, .iload 4, 0, 22, 0),
  (22, .iload_n 2, 0, 23, 0),
  (23, .if_icmp .eq 15, 0, 26, 38),
  (26, .iload_n 3, 0, 27, 0),
  (27, .iconst 1, 1, 28, 0),
  (28, .aload_n 0, 0, 29, 0),
  (29, .getfield 9, 0, 32, 0),
  (32, .iload 4, 0, 34, 0),
  (34, .iaload, 0, 35, 0),
  (35, .ishl, 0, 36, 0),
  (36, .ior, 0, 37, 0),
  (37, .istore_n 3, 0, 38, 0),
  (38, .iinc 4 1, 1, 41, 0),
  (41, .goto (-36), 0, 44, 5),
  (44, .iload_n 3, 0, 45, 0),
  (45, .ireturn, 0, 46, 0)]
def am_lv_15 : List (Nat × List Nat) := [(5, [0, 1, 2, 3, 4]), (38, [0, 1, 2, 3, 4]), (44, [3])]
/-- DeadLasts$Sheet.isLost -/
def am_cd_16 : List am_T5 := [
  (0, .aload_n 0, 0, 1, 0),
  (1, .getfield 15, 0, 4, 0),
  (4, .iconst (-1), (-1), 5, 0),
  (5, .if_icmp .ne 7, 0, 8, 12),
  (8, .iconst 1, 1, 9, 0),
  (9, .goto 4, 0, 12, 13),
  (12, .iconst 0, 0, 13, 0),
  (13, .ireturn, 0, 14, 0)]
def am_lv_16 : List (Nat × List Nat) := [(12, []), (13, [])]
/-- DeadLasts$Sheet.renew -/
def am_cd_17 : List am_T5 := [
  (0, .aload_n 0, 0, 1, 0),
  (1, .iload_n 1, 0, 2, 0),
  (2, .putfield 19, 0, 5, 0),
  (5, .aload_n 0, 0, 6, 0),
  (6, .iload_n 2, 0, 7, 0),
  (7, .putfield 15, 0, 10, 0),
  (10, .iconst 0, 0, 11, 0),
  (11, .istore_n 3, 0, 12, 0),
  (12, .iload_n 3, 0, 13, 0),
  (13, .bipush 60, 60, 15, 0),
  (15, .if_icmp .ge 16, 0, 18, 31),
  (18, .aload_n 0, 0, 19, 0),
  (19, .getfield 9, 0, 22, 0),
  (22, .iload_n 3, 0, 23, 0),
  (23, .iconst 0, 0, 24, 0),
  (24, .iastore, 0, 25, 0),
  (25, .iinc 3 1, 1, 28, 0),
  (28, .goto (-16), 0, 31, 12),
  (31, .return_, 0, 32, 0)]
def am_lv_17 : List (Nat × List Nat) := [(12, [0, 3]), (31, [])]
/-- DeadLasts$Sheet.findingOf -/
def am_cd_18 : List am_T5 := [
  (0, .aload_n 0, 0, 1, 0),
  (1, .invokevirtual 22, 0, 4, 0),
  (4, .ifCond .eq 5, 0, 7, 9),
  (7, .iconst 1, 1, 8, 0),
  (8, .ireturn, 0, 9, 0),
  (9, .iload_n 1, 0, 10, 0),
  (10, .aload_n 0, 0, 11, 0),
  (11, .getfield 19, 0, 14, 0),
  (14, .if_icmp .eq 5, 0, 17, 19),
  (17, .iconst 3, 3, 18, 0),
  (18, .ireturn, 0, 19, 0),
  (19, .iload_n 2, 0, 20, 0),
  (20, .aload_n 0, 0, 21, 0),
  (21, .getfield 15, 0, 24, 0),
  (24, .invokestatic 26, 0, 27, 0),
  (27, .ifCond .eq 7, 0, 30, 34),
  (30, .iconst 0, 0, 31, 0),
  (31, .goto 4, 0, 34, 35),
  (34, .iconst 2, 2, 35, 0),
  (35, .ireturn, 0, 36, 0)]
def am_lv_18 : List (Nat × List Nat) := [(9, [0, 1, 2]), (19, [0, 2]), (34, []), (35, [])]
/-- DeadLasts$Sheet.hasRange -/
def am_cd_19 : List am_T5 := [
  (0, .iload_n 1, 0, 1, 0),
  (1, .ifCond .lt 21, 0, 4, 22),
  (4, .iload_n 2, 0, 5, 0),
  (5, .ifCond .lt 17, 0, 8, 22),
  (8, .iload_n 1, 0, 9, 0),
  (9, .aload_n 0, 0, 10, 0),
  (10, .getfield 15, 0, 13, 0),
  (13, .iload_n 2, 0, 14, 0),
  (14, .isub, 0, 15, 0),
  (15, .if_icmp .gt 7, 0, 18, 22),
  (18, .iconst 1, 1, 19, 0),
  (19, .goto 4, 0, 22, 23),
  (22, .iconst 0, 0, 23, 0),
  (23, .ireturn, 0, 24, 0)]
def am_lv_19 : List (Nat × List Nat) := [(22, []), (23, [])]
/-- DeadLasts$Sheet.put -/
def am_cd_20 : List am_T5 := [
  (0, .aload_n 0, 0, 1, 0),
  (1, .getfield 9, 0, 4, 0),
  (4, .iload_n 1, 0, 5, 0),
  (5, .aload_n 0, 0, 6, 0),
  (6, .getfield 19, 0, 9, 0),
  (9, .ifCond .ne 8, 0, 12, 17),
  (12, .iload_n 2, 0, 13, 0),
  (13, .i2b, 0, 14, 0),
  (14, .goto 17, 0, 17, 31),
  (17, .aload_n 0, 0, 18, 0),
  (18, .getfield 19, 0, 21, 0),
  (21, .iconst 1, 1, 22, 0),
  (22, .if_icmp .ne 8, 0, 25, 30),
  (25, .iload_n 2, 0, 26, 0),
  (26, .i2s, 0, 27, 0),
  (27, .goto 4, 0, 30, 31),
  (30, .iload_n 2, 0, 31, 0),
  (31, .iastore, 0, 32, 0),
  (32, .return_, 0, 33, 0)]
def am_lv_20 : List (Nat × List Nat) := [(17, [0, 2]), (30, [2]), (31, [])]
/-- DeadLasts$Sightings.add -/
def am_cd_21 : List am_T5 := [
  (0, .aload_n 0, 0, 1, 0),
  (1, .getfield 21, 0, 4, 0),
  (4, .bipush 8, 8, 6, 0),
  (6, .if_icmp .lt 5, 0, 9, 11),
  (9, .iconst 0, 0, 10, 0),
  (10, .ireturn, 0, 11, 0),
  (11, .aload_n 0, 0, 12, 0),
  (12, .getfield 9, 0, 15, 0),
  (15, .aload_n 0, 0, 16, 0),
  (16, .getfield 21, 0, 19, 0),
  (19, .iload_n 1, 0, 20, 0),
  (20, .iastore, 0, 21, 0),
  (21, .aload_n 0, 0, 22, 0),
  (22, .getfield 15, 0, 25, 0),
  (25, .aload_n 0, 0, 26, 0),
  (26, .getfield 21, 0, 29, 0),
  (29, .iload_n 2, 0, 30, 0),
  (30, .iastore, 0, 31, 0),
  (31, .aload_n 0, 0, 32, 0),
  (32, .getfield 18, 0, 35, 0),
  (35, .aload_n 0, 0, 36, 0),
  (36, .getfield 21, 0, 39, 0),
  (39, .iload_n 3, 0, 40, 0),
  (40, .iastore, 0, 41, 0),
  (41, .aload_n 0, 0, 42, 0),
  (42, .dup, 0, 43, 0),
  (43, .getfield 21, 0, 46, 0),
  (46, .iconst 1, 1, 47, 0),
  (47, .iadd, 0, 48, 0),
  (48, .putfield 21, 0, 51, 0),
  (51, .iconst 1, 1, 52, 0),
  (52, .ireturn, 0, 53, 0)]
def am_lv_21 : List (Nat × List Nat) := [(11, [0, 1, 2, 3])]
/-- DeadLasts$Sightings.haveNobody -/
def am_cd_22 : List am_T5 := [
  (0, .iconst 0, 0, 1, 0),
  (1, .istore_n 2, 0, 2, 0),
  (2, .iload_n 2, 0, 3, 0),
  (3, .aload_n 0, 0, 4, 0),
  (4, .getfield 21, 0, 7, 0),
  (7, .if_icmp .ge 21, 0, 10, 28),
  (10, .aload_n 0, 0, 11, 0),
  (11, .getfield 15, 0, 14, 0),
  (14, .iload_n 2, 0, 15, 0),
  (15, .iaload, 0, 16, 0),
  (16, .iload_n 1, 0, 17, 0),
  (17, .if_icmp .lt 5, 0, 20, 22),
  (20, .iconst 1, 1, 21, 0),
  (21, .ireturn, 0, 22, 0),
  (22, .iinc 2 1, 1, 25, 0),
  (25, .goto (-23), 0, 28, 2),
  (28, .iconst 0, 0, 29, 0),
  (29, .ireturn, 0, 30, 0)]
def am_lv_22 : List (Nat × List Nat) := [(2, [0, 1, 2]), (22, [0, 1, 2]), (28, [])]
/-- DeadLasts$Sightings.holdFor -/
def am_cd_23 : List am_T5 := [
  (0, .iconst 0, 0, 1, 0),
  (1, .istore_n 3, 0, 2, 0),
  (2, .iload_n 3, 0, 3, 0),
  (3, .aload_n 0, 0, 4, 0),
  (4, .getfield 21, 0, 7, 0),
  (7, .if_icmp .ge 41, 0, 10, 48),
  (10, .aload_n 0, 0, 11, 0),
  (11, .getfield 15, 0, 14, 0),
  (14, .iload_n 3, 0, 15, 0),
  (15, .iaload, 0, 16, 0),
  (16, .iload_n 1, 0, 17, 0),
  (17, .if_icmp .ne 25, 0, 20, 42),
  (20, .aload_n 2, 0, 21, 0),
  (21, .aload_n 0, 0, 22, 0),
  (22, .getfield 9, 0, 25, 0),
  (25, .iload_n 3, 0, 26, 0),
  (26, .iaload, 0, 27, 0),
  (27, .iconst 0, 0, 28, 0),
  (28, .invokevirtual 27, 0, 31, 0),
  (31, .aload_n 0, 0, 32, 0),
  (32, .getfield 18, 0, 35, 0),
  (35, .iload_n 3, 0, 36, 0),
  (36, .iaload, 0, 37, 0),
  (37, .if_icmp .eq 5, 0, 40, 42),
  (40, .iconst 0, 0, 41, 0),
  (41, .ireturn, 0, 42, 0),
  (42, .iinc 3 1, 1, 45, 0),
  (45, .goto (-43), 0, 48, 2),
  (48, .iconst 1, 1, 49, 0),
  (49, .ireturn, 0, 50, 0)]
def am_lv_23 : List (Nat × List Nat) := [(2, [0, 1, 2, 3]), (42, [0, 1, 2, 3]), (48, [])]
/-- DeadLasts$Storm.chanceToCome -/
def am_cd_24 : List am_T5 := [
  (0, .iload 4, 0, 2, 0),
  (2, .bipush 9, 9, 4, 0),
  (4, .invokestatic 24, 0, 7, 0),
  (7, .iconst 1, 1, 8, 0),
  (8, .iadd, 0, 9, 0),
  (9, .istore 5, 0, 11, 0),
  (11, .aload_n 0, 0, 12, 0),
  (12, .getfield 17, 0, 15, 0),
  (15, .iload_n 2, 0, 16, 0),
  (16, .if_icmp .ne 20, 0, 19, 36),
  (19, .aload_n 0, 0, 20, 0),
  (20, .getfield 30, 0, 23, 0),
  (23, .iload_n 3, 0, 24, 0),
  (24, .if_icmp .ne 12, 0, 27, 36),
  (27, .aload_n 0, 0, 28, 0),
  (28, .getfield 33, 0, 31, 0),
  (31, .iload 5, 0, 33, 0),
  (33, .if_icmp .eq 52, 0, 36, 85),
  (36, .aload_n 0, 0, 37, 0),
  (37, .iload_n 2, 0, 38, 0),
  (38, .putfield 17, 0, 41, 0),
  (41, .aload_n 0, 0, 42, 0),
  (42, .iload_n 3, 0, 43, 0),
  (43, .putfield 30, 0, 46, 0),
  (46, .aload_n 0, 0, 47, 0),
  (47, .iload 5, 0, 49, 0),
  (49, .putfield 33, 0, 52, 0),
  (52, .aload_n 0, 0, 53, 0),
  (53, .getfield 11, 0, 56, 0),
  (56, .iconst 0, 0, 57, 0),
  (57, .aaload, 0, 58, 0),
  (58, .aload_n 1, 0, 59, 0),
  (59, .aload_n 0, 0, 60, 0),
  (60, .getfield 17, 0, 63, 0),
  (63, .invokevirtual 36, 0, 66, 0),
  (66, .aload_n 0, 0, 67, 0),
  (67, .getfield 11, 0, 70, 0),
  (70, .iconst 0, 0, 71, 0),
  (71, .aaload, 0, 72, 0),
  (72, .invokevirtual 40, 0, 75, 0),
  (75, .aload_n 0, 0, 76, 0),
  (76, .aload_n 0, 0, 77, 0),
  (77, .iconst 0, 0, 78, 0),
  (78, .lconst 1, 0, 79, 0),
  (79, .invokevirtual 43, 0, 82, 0),
  (82, .putfield 47, 0, 85, 0),
  (85, .aload_n 0, 0, 86, 0),
  (86, .getfield 47, 0, 89, 0),
  (89, .lreturn, 0, 90, 0)]
def am_lv_24 : List (Nat × List Nat) := [(36, [0, 1, 2, 3, 5]), (85, [0])]
/-- DeadLasts$Storm.comingFrom -/
def am_cd_25 : List am_T5 := [
  (0, .aload_n 0, 0, 1, 0),
  (1, .getfield 11, 0, 4, 0),
  (4, .iload_n 1, 0, 5, 0),
  (5, .aaload, 0, 6, 0),
  (6, .astore 4, 0, 8, 0),
  (8, .lload_n 2, 0, 9, 0),
  (9, .lconst 0, 0, 10, 0),
  (10, .lcmp, 0, 11, 0),
  (11, .ifCond .ne 5, 0, 14, 16),
  (14, .lconst 0, 0, 15, 0),
  (15, .lreturn, 0, 16, 0),
  (16, .aload 4, 0, 18, 0),
  (18, .getfield 51, 0, 21, 0),
  (21, .ifCond .eq 27, 0, 24, 48),
  (24, .aload 4, 0, 26, 0),
  (26, .getfield 51, 0, 29, 0),
  (29, .iconst 1, 1, 30, 0),
  (30, .if_icmp .ne 16, 0, 33, 46),
  (33, .lload_n 2, 0, 34, 0),
  (34, .iconst 4, 4, 35, 0),
  (35, .aload_n 0, 0, 36, 0),
  (36, .getfield 33, 0, 39, 0),
  (39, .iload_n 1, 0, 40, 0),
  (40, .isub, 0, 41, 0),
  (41, .imul, 0, 42, 0),
  (42, .lshl, 0, 43, 0),
  (43, .goto 4, 0, 46, 47),
  (46, .lconst 0, 0, 47, 0),
  (47, .lreturn, 0, 48, 0),
  (48, .iload_n 1, 0, 49, 0),
  (49, .aload_n 0, 0, 50, 0),
  (50, .getfield 33, 0, 53, 0),
  (53, .if_icmp .lt 50, 0, 56, 103),
  (56, .iload_n 1, 0, 57, 0),
  (57, .istore 5, 0, 59, 0),
  (59, .iload 5, 0, 61, 0),
  (61, .bipush 30, 30, 63, 0),
  (63, .if_icmp .ge 25, 0, 66, 88),
  (66, .aload 4, 0, 68, 0),
  (68, .getfield 51, 0, 71, 0),
  (71, .ifCond .ne 17, 0, 74, 88),
  (74, .aload 4, 0, 76, 0),
  (76, .iload 5, 0, 78, 0),
  (78, .iconst 0, 0, 79, 0),
  (79, .invokevirtual 54, 0, 82, 0),
  (82, .iinc 5 1, 1, 85, 0),
  (85, .goto (-26), 0, 88, 59),
  (88, .aload 4, 0, 90, 0),
  (90, .getfield 51, 0, 93, 0),
  (93, .iconst 1, 1, 94, 0),
  (94, .if_icmp .ne 7, 0, 97, 101),
  (97, .lload_n 2, 0, 98, 0),
  (98, .goto 4, 0, 101, 102),
  (101, .lconst 0, 0, 102, 0),
  (102, .lreturn, 0, 103, 0),
  (103, .aload_n 0, 0, 104, 0),
  (104, .getfield 11, 0, 107, 0),
  (107, .iload_n 1, 0, 108, 0),
  (108, .iconst 1, 1, 109, 0),
  (109, .iadd, 0, 110, 0),
  (110, .aaload, 0, 111, 0),
  (111, .astore 5, 0, 113, 0),
  (113, .aload 5, 0, 115, 0),
  (115, .aload 4, 0, 117, 0),
  (117, .invokevirtual 58, 0, 120, 0),
  (120, .aload 5, 0, 122, 0),
  (122, .iload_n 1, 0, 123, 0),
  (123, .iconst 1, 1, 124, 0),
  (124, .invokevirtual 54, 0, 127, 0),
  (127, .aload_n 0, 0, 128, 0),
  (128, .iload_n 1, 0, 129, 0),
  (129, .iconst 1, 1, 130, 0),
  (130, .iadd, 0, 131, 0),
  (131, .lload_n 2, 0, 132, 0),
  (132, .aload_n 0, 0, 133, 0),
  (133, .getfield 30, 0, 136, 0),
  (136, .i2l, 0, 137, 0),
  (137, .lmul, 0, 138, 0),
  (138, .invokevirtual 43, 0, 141, 0),
  (141, .lstore 6, 0, 143, 0),
  (143, .aload 5, 0, 145, 0),
  (145, .aload 4, 0, 147, 0),
  (147, .invokevirtual 58, 0, 150, 0),
  (150, .aload 5, 0, 152, 0),
  (152, .iload_n 1, 0, 153, 0),
  (153, .iconst 0, 0, 154, 0),
  (154, .invokevirtual 54, 0, 157, 0),
  (157, .lload 6, 0, 159, 0),
  (159, .aload_n 0, 0, 160, 0),
  (160, .iload_n 1, 0, 161, 0),
  (161, .iconst 1, 1, 162, 0),
  (162, .iadd, 0, 163, 0),
  (163, .lload_n 2, 0, 164, 0),
  (164, .bipush 16, 16, 166, 0),
  (166, .aload_n 0, 0, 167, 0),
  (167, .getfield 30, 0, 170, 0),
  (170, .isub, 0, 171, 0),
  (171, .i2l, 0, 172, 0),
  (172, .lmul, 0, 173, 0),
  (173, .invokevirtual 43, 0, 176, 0),
  (176, .ladd, 0, 177, 0),
  (177, .lreturn, 0, 178, 0)]
def am_lv_25 : List (Nat × List Nat) := [(16, [0, 1, 2, 4]), (46, []), (47, []), (48, [0, 1, 2, 4]), (59, [2, 4, 5]), (88, [2, 4]), (101, []), (102, []), (103, [0, 1, 2, 4])]
/-- DeadLasts$Text.append -/
def am_cd_26 : List am_T5 := [
  (0, .aload_n 0, 0, 1, 0),
  (1, .getfield 25, 0, 4, 0),
  (4, .aload_n 0, 0, 5, 0),
  (5, .getfield 21, 0, 8, 0),
  (8, .if_icmp .lt 5, 0, 11, 13),
  (11, .iconst 0, 0, 12, 0),
  (12, .ireturn, 0, 13, 0),
  (13, .aload_n 0, 0, 14, 0),
  (14, .getfield 9, 0, 17, 0),
  (17, .aload_n 0, 0, 18, 0),
  (18, .getfield 25, 0, 21, 0),
  (21, .iload_n 1, 0, 22, 0),
  (22, .iastore, 0, 23, 0),
  (23, .aload_n 0, 0, 24, 0),
  (24, .dup, 0, 25, 0),
  (25, .getfield 25, 0, 28, 0),
  (28, .iconst 1, 1, 29, 0),
  (29, .iadd, 0, 30, 0),
  (30, .putfield 25, 0, 33, 0),
  (33, .iconst 1, 1, 34, 0),
  (34, .ireturn, 0, 35, 0)]
def am_lv_26 : List (Nat × List Nat) := [(13, [0, 1])]
/-- DeadLasts$Text.signAt -/
def am_cd_27 : List am_T5 := [
  (0, .iload_n 1, 0, 1, 0),
  (1, .aload_n 0, 0, 2, 0),
  (2, .getfield 25, 0, 5, 0),
  (5, .invokestatic 28, 0, 8, 0),
  (8, .ifCond .eq 13, 0, 11, 21),
  (11, .aload_n 0, 0, 12, 0),
  (12, .getfield 9, 0, 15, 0),
  (15, .iload_n 1, 0, 16, 0),
  (16, .iaload, 0, 17, 0),
  (17, .i2c, 0, 18, 0),
  (18, .goto 4, 0, 21, 22),
  (21, .iconst 0, 0, 22, 0),
  (22, .ireturn, 0, 23, 0)]
def am_lv_27 : List (Nat × List Nat) := [(21, []), (22, [])]
/-- DeadLasts$Town.load -/
def am_cd_28 : List am_T5 := [
  (0, .aload_n 0, 0, 1, 0),
  (1, .iconst 0, 0, 2, 0),
  (2, .putfield 18, 0, 5, 0),
  (5, .aload_n 0, 0, 6, 0),
  (6, .iconst 0, 0, 7, 0),
  (7, .putfield 22, 0, 10, 0),
  (10, .iconst 0, 0, 11, 0),
  (11, .istore_n 2, 0, 12, 0),
  (12, .iconst 0, 0, 13, 0),
  (13, .istore_n 3, 0, 14, 0),
  (14, .iconst 0, 0, 15, 0),
  (15, .istore 4, 0, 17, 0),
  (17, .iload 4, 0, 19, 0),
  (19, .aload_n 1, 0, 20, 0),
  (20, .getfield 25, 0, 23, 0),
  (23, .if_icmp .ge 101, 0, 26, 124),
  (26, .aload_n 1, 0, 27, 0),
  (27, .iload 4, 0, 29, 0),
  (29, .invokevirtual 30, 0, 32, 0),
  (32, .istore 5, 0, 34, 0),
  (34, .iload_n 2, 0, 35, 0),
  (35, .bipush 6, 6, 37, 0),
  (37, .if_icmp .eq 14, 0, 40, 51),
  (40, .aload_n 0, 0, 41, 0),
  (41, .iload 5, 0, 43, 0),
  (43, .iload_n 2, 0, 44, 0),
  (44, .iload_n 3, 0, 45, 0),
  (45, .invokevirtual 34, 0, 48, 0),
  (48, .ifCond .ne 10, 0, 51, 58),
  (51, .aload_n 0, 0, 52, 0),
  (52, .iload 4, 0, 54, 0),
  (54, .invokevirtual 38, 0, 57, 0),
  (57, .ireturn, 0, 58, 0),
  (58, .iload 5, 0, 60, 0),
  (60, .bipush 59, 59, 62, 0),
  (62, .if_icmp .ne 11, 0, 65, 73),
  (65, .iinc 2 1, 1, 68, 0),
  (68, .iconst 0, 0, 69, 0),
  (69, .istore_n 3, 0, 70, 0),
  (70, .goto 48, 0, 73, 118),
  (73, .aload_n 0, 0, 74, 0),
  (74, .getfield 9, 0, 77, 0),
  (77, .aload_n 0, 0, 78, 0),
  (78, .getfield 18, 0, 81, 0),
  (81, .ldc 42, 0, 83, 0),
  (83, .iload 5, 0, 85, 0),
  (85, .invokevirtual 44, 0, 88, 0),
  (88, .iastore, 0, 89, 0),
  (89, .aload_n 0, 0, 90, 0),
  (90, .dup, 0, 91, 0),
  (91, .getfield 18, 0, 94, 0),
  (94, .iconst 1, 1, 95, 0),
  (95, .iadd, 0, 96, 0),
  (96, .putfield 18, 0, 99, 0),
  (99, .iinc 3 1, 1, 102, 0),
  (102, .aload_n 0, 0, 103, 0),
  (103, .iload_n 2, 0, 104, 0),
  (104, .ifCond .ne 7, 0, 107, 111),
  (107, .iload_n 3, 0, 108, 0),
  (108, .goto 7, 0, 111, 115),
  (111, .aload_n 0, 0, 112, 0),
  (112, .getfield 22, 0, 115, 0),
  (115, .putfield 22, 0, 118, 0),
  (118, .iinc 4 1, 1, 121, 0),
  (121, .goto (-104), 0, 124, 17),
  (124, .aload_n 1, 0, 125, 0),
  (125, .getfield 25, 0, 128, 0),
  (128, .ifCond .le 20, 0, 131, 148),
  (131, .aload_n 0, 0, 132, 0),
  (132, .iload_n 3, 0, 133, 0),
  (133, .invokevirtual 49, 0, 136, 0),
  (136, .ifCond .ne 12, 0, 139, 148),
  (139, .aload_n 0, 0, 140, 0),
  (140, .aload_n 1, 0, 141, 0),
  (141, .getfield 25, 0, 144, 0),
  (144, .invokevirtual 38, 0, 147, 0),
  (147, .ireturn, 0, 148, 0),
  (148, .aload_n 0, 0, 149, 0),
  (149, .invokevirtual 53, 0, 152, 0),
  (152, .iconst (-1), (-1), 153, 0),
  (153, .ireturn, 0, 154, 0)]
def am_lv_28 : List (Nat × List Nat) := [(17, [0, 1, 2, 3, 4]), (51, [0, 4]), (58, [0, 1, 2, 3, 4, 5]), (73, [0, 1, 2, 3, 4, 5]), (111, [0, 1, 2, 3, 4]), (115, [0, 1, 2, 3, 4]), (118, [0, 1, 2, 3, 4]), (124, [0, 1, 3]), (148, [0])]
/-- DeadLasts$Town.goesOn -/
def am_cd_29 : List am_T5 := [
  (0, .iload_n 1, 0, 1, 0),
  (1, .bipush 59, 59, 3, 0),
  (3, .if_icmp .ne 9, 0, 6, 12),
  (6, .aload_n 0, 0, 7, 0),
  (7, .iload_n 3, 0, 8, 0),
  (8, .invokevirtual 49, 0, 11, 0),
  (11, .ireturn, 0, 12, 0),
  (12, .ldc 42, 0, 14, 0),
  (14, .iload_n 1, 0, 15, 0),
  (15, .invokevirtual 44, 0, 18, 0),
  (18, .ifCond .lt 33, 0, 21, 51),
  (21, .iload_n 3, 0, 22, 0),
  (22, .iload_n 2, 0, 23, 0),
  (23, .ifCond .ne 8, 0, 26, 31),
  (26, .bipush 6, 6, 28, 0),
  (28, .goto 7, 0, 31, 35),
  (31, .aload_n 0, 0, 32, 0),
  (32, .getfield 22, 0, 35, 0),
  (35, .if_icmp .ge 16, 0, 38, 51),
  (38, .aload_n 0, 0, 39, 0),
  (39, .getfield 18, 0, 42, 0),
  (42, .bipush 36, 36, 44, 0),
  (44, .if_icmp .ge 7, 0, 47, 51),
  (47, .iconst 1, 1, 48, 0),
  (48, .goto 4, 0, 51, 52),
  (51, .iconst 0, 0, 52, 0),
  (52, .ireturn, 0, 53, 0)]
def am_lv_29 : List (Nat × List Nat) := [(12, [0, 1, 2, 3]), (31, [0]), (35, [0]), (51, []), (52, [])]
/-- DeadLasts$Town.isWhole -/
def am_cd_30 : List am_T5 := [
  (0, .iload_n 1, 0, 1, 0),
  (1, .ifCond .le 15, 0, 4, 16),
  (4, .iload_n 1, 0, 5, 0),
  (5, .aload_n 0, 0, 6, 0),
  (6, .getfield 22, 0, 9, 0),
  (9, .if_icmp .ne 7, 0, 12, 16),
  (12, .iconst 1, 1, 13, 0),
  (13, .goto 4, 0, 16, 17),
  (16, .iconst 0, 0, 17, 0),
  (17, .ireturn, 0, 18, 0)]
def am_lv_30 : List (Nat × List Nat) := [(16, []), (17, [])]
/-- DeadLasts$Town.emptied -/
def am_cd_31 : List am_T5 := [
  (0, .aload_n 0, 0, 1, 0),
  (1, .iconst 0, 0, 2, 0),
  (2, .putfield 18, 0, 5, 0),
  (5, .aload_n 0, 0, 6, 0),
  (6, .iconst 0, 0, 7, 0),
  (7, .putfield 22, 0, 10, 0),
  (10, .iload_n 1, 0, 11, 0),
  (11, .ireturn, 0, 12, 0)]
def am_lv_31 : List (Nat × List Nat) := []
/-- DeadLasts$Town.layWays -/
def am_cd_32 : List am_T5 := [
  (0, .iconst 0, 0, 1, 0),
  (1, .istore_n 1, 0, 2, 0),
  (2, .iconst 0, 0, 3, 0),
  (3, .istore_n 2, 0, 4, 0),
  (4, .iload_n 2, 0, 5, 0),
  (5, .aload_n 0, 0, 6, 0),
  (6, .getfield 18, 0, 9, 0),
  (9, .if_icmp .ge 121, 0, 12, 130),
  (12, .iload_n 2, 0, 13, 0),
  (13, .iconst 4, 4, 14, 0),
  (14, .imul, 0, 15, 0),
  (15, .istore_n 3, 0, 16, 0),
  (16, .aload_n 0, 0, 17, 0),
  (17, .getfield 15, 0, 20, 0),
  (20, .iload_n 3, 0, 21, 0),
  (21, .aload_n 0, 0, 22, 0),
  (22, .iload_n 2, 0, 23, 0),
  (23, .iload_n 2, 0, 24, 0),
  (24, .aload_n 0, 0, 25, 0),
  (25, .getfield 22, 0, 28, 0),
  (28, .isub, 0, 29, 0),
  (29, .invokevirtual 56, 0, 32, 0),
  (32, .iastore, 0, 33, 0),
  (33, .aload_n 0, 0, 34, 0),
  (34, .getfield 15, 0, 37, 0),
  (37, .iload_n 3, 0, 38, 0),
  (38, .iconst 1, 1, 39, 0),
  (39, .iadd, 0, 40, 0),
  (40, .iload_n 1, 0, 41, 0),
  (41, .iconst 1, 1, 42, 0),
  (42, .iadd, 0, 43, 0),
  (43, .aload_n 0, 0, 44, 0),
  (44, .getfield 22, 0, 47, 0),
  (47, .if_icmp .ge 14, 0, 50, 61),
  (50, .aload_n 0, 0, 51, 0),
  (51, .iload_n 2, 0, 52, 0),
  (52, .iload_n 2, 0, 53, 0),
  (53, .iconst 1, 1, 54, 0),
  (54, .iadd, 0, 55, 0),
  (55, .invokevirtual 56, 0, 58, 0),
  (58, .goto 4, 0, 61, 62),
  (61, .iload_n 2, 0, 62, 0),
  (62, .iastore, 0, 63, 0),
  (63, .aload_n 0, 0, 64, 0),
  (64, .getfield 15, 0, 67, 0),
  (67, .iload_n 3, 0, 68, 0),
  (68, .iconst 2, 2, 69, 0),
  (69, .iadd, 0, 70, 0),
  (70, .aload_n 0, 0, 71, 0),
  (71, .iload_n 2, 0, 72, 0),
  (72, .iload_n 2, 0, 73, 0),
  (73, .aload_n 0, 0, 74, 0),
  (74, .getfield 22, 0, 77, 0),
  (77, .iadd, 0, 78, 0),
  (78, .invokevirtual 56, 0, 81, 0),
  (81, .iastore, 0, 82, 0),
  (82, .aload_n 0, 0, 83, 0),
  (83, .getfield 15, 0, 86, 0),
  (86, .iload_n 3, 0, 87, 0),
  (87, .iconst 3, 3, 88, 0),
  (88, .iadd, 0, 89, 0),
  (89, .iload_n 1, 0, 90, 0),
  (90, .ifCond .le 14, 0, 93, 104),
  (93, .aload_n 0, 0, 94, 0),
  (94, .iload_n 2, 0, 95, 0),
  (95, .iload_n 2, 0, 96, 0),
  (96, .iconst 1, 1, 97, 0),
  (97, .isub, 0, 98, 0),
  (98, .invokevirtual 56, 0, 101, 0),
  (101, .goto 4, 0, 104, 105),
  (104, .iload_n 2, 0, 105, 0),
  (105, .iastore, 0, 106, 0),
  (106, .iload_n 1, 0, 107, 0),
  (107, .iconst 1, 1, 108, 0),
  (108, .iadd, 0, 109, 0),
  (109, .aload_n 0, 0, 110, 0),
  (110, .getfield 22, 0, 113, 0),
  (113, .if_icmp .ge 9, 0, 116, 122),
  (116, .iload_n 1, 0, 117, 0),
  (117, .iconst 1, 1, 118, 0),
  (118, .iadd, 0, 119, 0),
  (119, .goto 4, 0, 122, 123),
  (122, .iconst 0, 0, 123, 0),
  (123, .istore_n 1, 0, 124, 0),
  (124, .iinc 2 1, 1, 127, 0),
  (127, .goto (-123), 0, 130, 4),
  (130, .return_, 0, 131, 0)]
def am_lv_32 : List (Nat × List Nat) := [(4, [0, 1, 2]), (61, [0, 1, 2, 3]), (62, [0, 1, 2, 3]), (104, [0, 1, 2]), (105, [0, 1, 2]), (122, [0, 2]), (123, [0, 2]), (130, [])]
/-- DeadLasts$Town.freeOr -/
def am_cd_33 : List am_T5 := [
  (0, .iload_n 2, 0, 1, 0),
  (1, .aload_n 0, 0, 2, 0),
  (2, .getfield 18, 0, 5, 0),
  (5, .invokestatic 60, 0, 8, 0),
  (8, .ifCond .eq 17, 0, 11, 25),
  (11, .aload_n 0, 0, 12, 0),
  (12, .getfield 9, 0, 15, 0),
  (15, .iload_n 2, 0, 16, 0),
  (16, .iaload, 0, 17, 0),
  (17, .iconst 1, 1, 18, 0),
  (18, .if_icmp .eq 7, 0, 21, 25),
  (21, .iload_n 2, 0, 22, 0),
  (22, .goto 4, 0, 25, 26),
  (25, .iload_n 1, 0, 26, 0),
  (26, .ireturn, 0, 27, 0)]
def am_lv_33 : List (Nat × List Nat) := [(25, [1]), (26, [])]
/-- DeadLasts$Town.kindOf -/
def am_cd_34 : List am_T5 := [
  (0, .iload_n 1, 0, 1, 0),
  (1, .aload_n 0, 0, 2, 0),
  (2, .getfield 18, 0, 5, 0),
  (5, .invokestatic 60, 0, 8, 0),
  (8, .ifCond .eq 12, 0, 11, 20),
  (11, .aload_n 0, 0, 12, 0),
  (12, .getfield 9, 0, 15, 0),
  (15, .iload_n 1, 0, 16, 0),
  (16, .iaload, 0, 17, 0),
  (17, .goto 4, 0, 20, 21),
  (20, .iconst (-1), (-1), 21, 0),
  (21, .ireturn, 0, 22, 0)]
def am_lv_34 : List (Nat × List Nat) := [(20, []), (21, [])]
/-- DeadLasts$Town.nextOf -/
def am_cd_35 : List am_T5 := [
  (0, .iload_n 1, 0, 1, 0),
  (1, .ifCond .lt 11, 0, 4, 12),
  (4, .iload_n 1, 0, 5, 0),
  (5, .aload_n 0, 0, 6, 0),
  (6, .getfield 18, 0, 9, 0),
  (9, .if_icmp .lt 7, 0, 12, 16),
  (12, .iload_n 1, 0, 13, 0),
  (13, .goto 13, 0, 16, 26),
  (16, .aload_n 0, 0, 17, 0),
  (17, .getfield 15, 0, 20, 0),
  (20, .iload_n 1, 0, 21, 0),
  (21, .iconst 4, 4, 22, 0),
  (22, .imul, 0, 23, 0),
  (23, .iload_n 2, 0, 24, 0),
  (24, .iadd, 0, 25, 0),
  (25, .iaload, 0, 26, 0),
  (26, .ireturn, 0, 27, 0)]
def am_lv_35 : List (Nat × List Nat) := [(12, [1]), (16, [0, 1, 2]), (26, [])]
/-- DeadLasts$Town.stateOn -/
def am_cd_36 : List am_T5 := [
  (0, .iload_n 1, 0, 1, 0),
  (1, .ifCond .lt 11, 0, 4, 12),
  (4, .iload_n 1, 0, 5, 0),
  (5, .aload_n 0, 0, 6, 0),
  (6, .getfield 18, 0, 9, 0),
  (9, .if_icmp .lt 7, 0, 12, 16),
  (12, .iconst 3, 3, 13, 0),
  (13, .goto 13, 0, 16, 26),
  (16, .getstatic 64, 0, 19, 0),
  (19, .aload_n 0, 0, 20, 0),
  (20, .getfield 9, 0, 23, 0),
  (23, .iload_n 1, 0, 24, 0),
  (24, .iaload, 0, 25, 0),
  (25, .iaload, 0, 26, 0),
  (26, .ireturn, 0, 27, 0)]
def am_lv_36 : List (Nat × List Nat) := [(12, []), (16, [0, 1]), (26, [])]
/-- DeadLasts$Trace.follow -/
def am_cd_37 : List am_T5 := [
  (0, .aload_n 1, 0, 1, 0),
  (1, .invokevirtual 15, 0, 4, 0),
  (4, .aload_n 0, 0, 5, 0),
  (5, .iconst (-1), (-1), 6, 0),
  (6, .putfield 20, 0, 9, 0),
  (9, .iconst 0, 0, 10, 0),
  (10, .istore_n 3, 0, 11, 0),
  (11, .iload_n 3, 0, 12, 0),
  (12, .bipush 30, 30, 14, 0),
  (14, .if_icmp .ge 101, 0, 17, 115),
  (17, .aload_n 1, 0, 18, 0),
  (18, .getfield 24, 0, 21, 0),
  (21, .ifCond .ne 7, 0, 24, 28),
  (24, .iconst 1, 1, 25, 0),
  (25, .goto 4, 0, 28, 29),
  (28, .iconst 0, 0, 29, 0),
  (29, .istore 4, 0, 31, 0),
  (31, .aload_n 1, 0, 32, 0),
  (32, .iload_n 3, 0, 33, 0),
  (33, .iload_n 2, 0, 34, 0),
  (34, .iload_n 3, 0, 35, 0),
  (35, .invokestatic 27, 0, 38, 0),
  (38, .invokevirtual 31, 0, 41, 0),
  (41, .iload 4, 0, 43, 0),
  (43, .ifCond .eq 15, 0, 46, 58),
  (46, .aload_n 1, 0, 47, 0),
  (47, .getfield 24, 0, 50, 0),
  (50, .ifCond .eq 8, 0, 53, 58),
  (53, .aload_n 0, 0, 54, 0),
  (54, .iload_n 3, 0, 55, 0),
  (55, .putfield 20, 0, 58, 0),
  (58, .aload_n 0, 0, 59, 0),
  (59, .getfield 11, 0, 62, 0),
  (62, .iconst 0, 0, 63, 0),
  (63, .iload_n 3, 0, 64, 0),
  (64, .iadd, 0, 65, 0),
  (65, .aload_n 1, 0, 66, 0),
  (66, .getfield 35, 0, 69, 0),
  (69, .iastore, 0, 70, 0),
  (70, .aload_n 0, 0, 71, 0),
  (71, .getfield 11, 0, 74, 0),
  (74, .bipush 30, 30, 76, 0),
  (76, .iload_n 3, 0, 77, 0),
  (77, .iadd, 0, 78, 0),
  (78, .aload_n 1, 0, 79, 0),
  (79, .getfield 24, 0, 82, 0),
  (82, .iastore, 0, 83, 0),
  (83, .aload_n 0, 0, 84, 0),
  (84, .getfield 11, 0, 87, 0),
  (87, .bipush 60, 60, 89, 0),
  (89, .iload_n 3, 0, 90, 0),
  (90, .iadd, 0, 91, 0),
  (91, .aload_n 1, 0, 92, 0),
  (92, .getfield 38, 0, 95, 0),
  (95, .iastore, 0, 96, 0),
  (96, .aload_n 0, 0, 97, 0),
  (97, .getfield 11, 0, 100, 0),
  (100, .bipush 90, 90, 102, 0),
  (102, .iload_n 3, 0, 103, 0),
  (103, .iadd, 0, 104, 0),
  (104, .aload_n 1, 0, 105, 0),
  (105, .getfield 41, 0, 108, 0),
  (108, .iastore, 0, 109, 0),
  (109, .iinc 3 1, 1, 112, 0),
  (112, .goto (-101), 0, 115, 11),
  (115, .aload_n 0, 0, 116, 0),
  (116, .aload_n 1, 0, 117, 0),
  (117, .getfield 24, 0, 120, 0),
  (120, .putfield 44, 0, 123, 0),
  (123, .return_, 0, 124, 0)]
def am_lv_37 : List (Nat × List Nat) := [(11, [0, 1, 2, 3]), (28, [0, 1, 2, 3]), (29, [0, 1, 2, 3]), (58, [0, 1, 2, 3]), (115, [0, 1])]
/-- DeadLasts$Trace.told -/
def am_cd_38 : List am_T5 := [
  (0, .aload_n 0, 0, 1, 0),
  (1, .getfield 11, 0, 4, 0),
  (4, .iload_n 2, 0, 5, 0),
  (5, .bipush 30, 30, 7, 0),
  (7, .imul, 0, 8, 0),
  (8, .iload_n 1, 0, 9, 0),
  (9, .iadd, 0, 10, 0),
  (10, .iaload, 0, 11, 0),
  (11, .ireturn, 0, 12, 0)]
def am_lv_38 : List (Nat × List Nat) := []
/-- DeadLasts$Trace.timesBy -/
def am_cd_39 : List am_T5 := [
  (0, .iconst 0, 0, 1, 0),
  (1, .istore_n 2, 0, 2, 0),
  (2, .iconst 0, 0, 3, 0),
  (3, .istore_n 3, 0, 4, 0),
  (4, .iload_n 3, 0, 5, 0),
  (5, .bipush 30, 30, 7, 0),
  (7, .if_icmp .ge 22, 0, 10, 29),
  (10, .aload_n 0, 0, 11, 0),
  (11, .iload_n 3, 0, 12, 0),
  (12, .iconst 3, 3, 13, 0),
  (13, .invokevirtual 47, 0, 16, 0),
  (16, .iload_n 1, 0, 17, 0),
  (17, .if_icmp .ne 6, 0, 20, 23),
  (20, .iinc 2 1, 1, 23, 0),
  (23, .iinc 3 1, 1, 26, 0),
  (26, .goto (-22), 0, 29, 4),
  (29, .iload_n 2, 0, 30, 0),
  (30, .ireturn, 0, 31, 0)]
def am_lv_39 : List (Nat × List Nat) := [(4, [0, 1, 2, 3]), (23, [0, 1, 2, 3]), (29, [2])]
/-- DeadLasts$Walker.wear -/
def am_cd_40 : List am_T5 := [
  (0, .aload_n 0, 0, 1, 0),
  (1, .aload_n 1, 0, 2, 0),
  (2, .iload_n 2, 0, 3, 0),
  (3, .iconst 0, 0, 4, 0),
  (4, .invokevirtual 19, 0, 7, 0),
  (7, .putfield 25, 0, 10, 0),
  (10, .aload_n 0, 0, 11, 0),
  (11, .aload_n 1, 0, 12, 0),
  (12, .iload_n 2, 0, 13, 0),
  (13, .iconst 1, 1, 14, 0),
  (14, .invokevirtual 19, 0, 17, 0),
  (17, .putfield 29, 0, 20, 0),
  (20, .aload_n 0, 0, 21, 0),
  (21, .aload_n 1, 0, 22, 0),
  (22, .iload_n 2, 0, 23, 0),
  (23, .iconst 2, 2, 24, 0),
  (24, .invokevirtual 19, 0, 27, 0),
  (27, .putfield 32, 0, 30, 0),
  (30, .aload_n 0, 0, 31, 0),
  (31, .aload_n 1, 0, 32, 0),
  (32, .iload_n 2, 0, 33, 0),
  (33, .iconst 3, 3, 34, 0),
  (34, .invokevirtual 19, 0, 37, 0),
  (37, .putfield 35, 0, 40, 0),
  (40, .aload_n 0, 0, 41, 0),
  (41, .aload_n 1, 0, 42, 0),
  (42, .iload_n 2, 0, 43, 0),
  (43, .iconst 4, 4, 44, 0),
  (44, .invokevirtual 19, 0, 47, 0),
  (47, .putfield 38, 0, 50, 0),
  (50, .return_, 0, 51, 0)]
def am_lv_40 : List (Nat × List Nat) := []
/-- DeadLasts$Walker.become -/
def am_cd_41 : List am_T5 := [
  (0, .aload_n 0, 0, 1, 0),
  (1, .aload_n 1, 0, 2, 0),
  (2, .getfield 25, 0, 5, 0),
  (5, .putfield 25, 0, 8, 0),
  (8, .aload_n 0, 0, 9, 0),
  (9, .aload_n 1, 0, 10, 0),
  (10, .getfield 29, 0, 13, 0),
  (13, .putfield 29, 0, 16, 0),
  (16, .aload_n 0, 0, 17, 0),
  (17, .aload_n 1, 0, 18, 0),
  (18, .getfield 32, 0, 21, 0),
  (21, .putfield 32, 0, 24, 0),
  (24, .aload_n 0, 0, 25, 0),
  (25, .aload_n 1, 0, 26, 0),
  (26, .getfield 35, 0, 29, 0),
  (29, .putfield 35, 0, 32, 0),
  (32, .aload_n 0, 0, 33, 0),
  (33, .aload_n 1, 0, 34, 0),
  (34, .getfield 38, 0, 37, 0),
  (37, .putfield 38, 0, 40, 0),
  (40, .aload_n 0, 0, 41, 0),
  (41, .aload_n 1, 0, 42, 0),
  (42, .getfield 41, 0, 45, 0),
  (45, .putfield 41, 0, 48, 0),
  (48, .aload_n 0, 0, 49, 0),
  (49, .aload_n 1, 0, 50, 0),
  (50, .getfield 44, 0, 53, 0),
  (53, .putfield 44, 0, 56, 0),
  (56, .aload_n 0, 0, 57, 0),
  (57, .aload_n 1, 0, 58, 0),
  (58, .getfield 47, 0, 61, 0),
  (61, .putfield 47, 0, 64, 0),
  (64, .aload_n 0, 0, 65, 0),
  (65, .aload_n 1, 0, 66, 0),
  (66, .getfield 50, 0, 69, 0),
  (69, .putfield 50, 0, 72, 0),
  (72, .aload_n 0, 0, 73, 0),
  (73, .aload_n 1, 0, 74, 0),
  (74, .getfield 53, 0, 77, 0),
  (77, .putfield 53, 0, 80, 0),
  (80, .aload_n 0, 0, 81, 0),
  (81, .aload_n 1, 0, 82, 0),
  (82, .getfield 56, 0, 85, 0),
  (85, .putfield 56, 0, 88, 0),
  (88, .return_, 0, 89, 0)]
def am_lv_41 : List (Nat × List Nat) := []
/-- DeadLasts$Walker.begin -/
def am_cd_42 : List am_T5 := [
  (0, .aload_n 0, 0, 1, 0),
  (1, .aload_n 0, 0, 2, 0),
  (2, .getfield 9, 0, 5, 0),
  (5, .aload_n 0, 0, 6, 0),
  (6, .getfield 25, 0, 9, 0),
  (9, .invokevirtual 59, 0, 12, 0),
  (12, .putfield 44, 0, 15, 0),
  (15, .aload_n 0, 0, 16, 0),
  (16, .aload_n 0, 0, 17, 0),
  (17, .getfield 44, 0, 20, 0),
  (20, .iconst 3, 3, 21, 0),
  (21, .if_icmp .ne 7, 0, 24, 28),
  (24, .iconst (-1), (-1), 25, 0),
  (25, .goto 7, 0, 28, 32),
  (28, .aload_n 0, 0, 29, 0),
  (29, .getfield 25, 0, 32, 0),
  (32, .putfield 41, 0, 35, 0),
  (35, .aload_n 0, 0, 36, 0),
  (36, .iconst 0, 0, 37, 0),
  (37, .putfield 47, 0, 40, 0),
  (40, .aload_n 0, 0, 41, 0),
  (41, .iconst 0, 0, 42, 0),
  (42, .putfield 50, 0, 45, 0),
  (45, .aload_n 0, 0, 46, 0),
  (46, .iconst 0, 0, 47, 0),
  (47, .putfield 53, 0, 50, 0),
  (50, .aload_n 0, 0, 51, 0),
  (51, .iconst (-1), (-1), 52, 0),
  (52, .putfield 56, 0, 55, 0),
  (55, .return_, 0, 56, 0)]
def am_lv_42 : List (Nat × List Nat) := [(28, [0]), (32, [0])]
/-- DeadLasts$Walker.go -/
def am_cd_43 : List am_T5 := [
  (0, .aload_n 0, 0, 1, 0),
  (1, .iconst (-1), (-1), 2, 0),
  (2, .putfield 56, 0, 5, 0),
  (5, .aload_n 0, 0, 6, 0),
  (6, .getfield 44, 0, 9, 0),
  (9, .ifCond .eq 4, 0, 12, 13),
  (12, .return_, 0, 13, 0),
  (13, .aload_n 0, 0, 14, 0),
  (14, .getfield 38, 0, 17, 0),
  (17, .istore_n 3, 0, 18, 0),
  (18, .aload_n 0, 0, 19, 0),
  (19, .iload_n 2, 0, 20, 0),
  (20, .ifCond .eq 7, 0, 23, 27),
  (23, .iconst 0, 0, 24, 0),
  (24, .goto 14, 0, 27, 38),
  (27, .aload_n 0, 0, 28, 0),
  (28, .getfield 47, 0, 31, 0),
  (31, .iconst 1, 1, 32, 0),
  (32, .aload_n 0, 0, 33, 0),
  (33, .getfield 35, 0, 36, 0),
  (36, .ishl, 0, 37, 0),
  (37, .iadd, 0, 38, 0),
  (38, .putfield 47, 0, 41, 0),
  (41, .aload_n 0, 0, 42, 0),
  (42, .getfield 47, 0, 45, 0),
  (45, .getstatic 65, 0, 48, 0),
  (48, .aload_n 0, 0, 49, 0),
  (49, .getfield 35, 0, 52, 0),
  (52, .iaload, 0, 53, 0),
  (53, .if_icmp .lt 133, 0, 56, 186),
  (56, .aload_n 0, 0, 57, 0),
  (57, .dup, 0, 58, 0),
  (58, .getfield 47, 0, 61, 0),
  (61, .getstatic 65, 0, 64, 0),
  (64, .aload_n 0, 0, 65, 0),
  (65, .getfield 35, 0, 68, 0),
  (68, .iaload, 0, 69, 0),
  (69, .isub, 0, 70, 0),
  (70, .putfield 47, 0, 73, 0),
  (73, .iload_n 1, 0, 74, 0),
  (74, .iconst 2, 2, 75, 0),
  (75, .irem, 0, 76, 0),
  (76, .ifCond .ne 7, 0, 79, 83),
  (79, .iconst 1, 1, 80, 0),
  (80, .goto 4, 0, 83, 84),
  (83, .iconst 0, 0, 84, 0),
  (84, .istore 4, 0, 86, 0),
  (86, .iload 4, 0, 88, 0),
  (88, .ifCond .eq 10, 0, 91, 98),
  (91, .aload_n 0, 0, 92, 0),
  (92, .getfield 29, 0, 95, 0),
  (95, .goto 7, 0, 98, 102),
  (98, .aload_n 0, 0, 99, 0),
  (99, .getfield 32, 0, 102, 0),
  (102, .istore 5, 0, 104, 0),
  (104, .iload 5, 0, 106, 0),
  (106, .aload_n 0, 0, 107, 0),
  (107, .getfield 15, 0, 110, 0),
  (110, .getfield 69, 0, 113, 0),
  (113, .if_icmp .ge 73, 0, 116, 186),
  (116, .aload_n 0, 0, 117, 0),
  (117, .getfield 15, 0, 120, 0),
  (120, .iload 5, 0, 122, 0),
  (122, .iload 4, 0, 124, 0),
  (124, .ifCond .eq 10, 0, 127, 134),
  (127, .aload_n 0, 0, 128, 0),
  (128, .getfield 50, 0, 131, 0),
  (131, .goto 7, 0, 134, 138),
  (134, .aload_n 0, 0, 135, 0),
  (135, .getfield 53, 0, 138, 0),
  (138, .invokevirtual 74, 0, 141, 0),
  (141, .istore_n 3, 0, 142, 0),
  (142, .aload_n 0, 0, 143, 0),
  (143, .dup, 0, 144, 0),
  (144, .getfield 50, 0, 147, 0),
  (147, .iload 4, 0, 149, 0),
  (149, .ifCond .eq 7, 0, 152, 156),
  (152, .iconst 1, 1, 153, 0),
  (153, .goto 4, 0, 156, 157),
  (156, .iconst 0, 0, 157, 0),
  (157, .iadd, 0, 158, 0),
  (158, .putfield 50, 0, 161, 0),
  (161, .aload_n 0, 0, 162, 0),
  (162, .dup, 0, 163, 0),
  (163, .getfield 53, 0, 166, 0),
  (166, .iload 4, 0, 168, 0),
  (168, .ifCond .eq 7, 0, 171, 175),
  (171, .iconst 0, 0, 172, 0),
  (172, .goto 4, 0, 175, 176),
  (175, .iconst 1, 1, 176, 0),
  (176, .iadd, 0, 177, 0),
  (177, .putfield 53, 0, 180, 0),
  (180, .aload_n 0, 0, 181, 0),
  (181, .iload 5, 0, 183, 0),
  (183, .putfield 56, 0, 186, 0),
  (186, .aload_n 0, 0, 187, 0),
  (187, .aload_n 0, 0, 188, 0),
  (188, .getfield 9, 0, 191, 0),
  (191, .aload_n 0, 0, 192, 0),
  (192, .getfield 41, 0, 195, 0),
  (195, .iload_n 3, 0, 196, 0),
  (196, .invokevirtual 77, 0, 199, 0),
  (199, .putfield 41, 0, 202, 0),
  (202, .aload_n 0, 0, 203, 0),
  (203, .aload_n 0, 0, 204, 0),
  (204, .getfield 9, 0, 207, 0),
  (207, .aload_n 0, 0, 208, 0),
  (208, .getfield 41, 0, 211, 0),
  (211, .invokevirtual 59, 0, 214, 0),
  (214, .putfield 44, 0, 217, 0),
  (217, .return_, 0, 218, 0)]
def am_lv_43 : List (Nat × List Nat) := [(13, [0, 1, 2]), (27, [0, 1, 3]), (38, [0, 1, 3]), (83, [0, 3]), (84, [0, 3]), (98, [0, 3, 4]), (102, [0, 3, 4]), (134, [0, 4, 5]), (138, [0, 4, 5]), (156, [0, 3, 4, 5]), (157, [0, 3, 4, 5]), (175, [0, 3, 5]), (176, [0, 3, 5]), (186, [0, 3])]
/-- DeadLasts$Walker.walk -/
def am_cd_44 : List am_T5 := [
  (0, .aload_n 0, 0, 1, 0),
  (1, .invokevirtual 80, 0, 4, 0),
  (4, .iconst 0, 0, 5, 0),
  (5, .istore_n 3, 0, 6, 0),
  (6, .iload_n 3, 0, 7, 0),
  (7, .iload_n 2, 0, 8, 0),
  (8, .if_icmp .ge 26, 0, 11, 34),
  (11, .aload_n 0, 0, 12, 0),
  (12, .getfield 44, 0, 15, 0),
  (15, .ifCond .ne 19, 0, 18, 34),
  (18, .aload_n 0, 0, 19, 0),
  (19, .iload_n 3, 0, 20, 0),
  (20, .iload_n 1, 0, 21, 0),
  (21, .iload_n 3, 0, 22, 0),
  (22, .invokestatic 83, 0, 25, 0),
  (25, .invokevirtual 87, 0, 28, 0),
  (28, .iinc 3 1, 1, 31, 0),
  (31, .goto (-25), 0, 34, 6),
  (34, .iload_n 3, 0, 35, 0),
  (35, .iconst 1, 1, 36, 0),
  (36, .isub, 0, 37, 0),
  (37, .ireturn, 0, 38, 0)]
def am_lv_44 : List (Nat × List Nat) := [(6, [0, 1, 2, 3]), (34, [3])]
/-- DeadLasts.type -/
def am_cd_45 : List am_T5 := [
  (0, .iload_n 1, 0, 1, 0),
  (1, .iconst 3, 3, 2, 0),
  (2, .invokestatic 121, 0, 5, 0),
  (5, .ifCond .eq 13, 0, 8, 18),
  (8, .iload_n 2, 0, 9, 0),
  (9, .sipush 256, 256, 12, 0),
  (12, .invokestatic 121, 0, 15, 0),
  (15, .ifCond .ne 6, 0, 18, 21),
  (18, .bipush (-2), (-2), 20, 0),
  (20, .ireturn, 0, 21, 0),
  (21, .aload_n 0, 0, 22, 0),
  (22, .getfield 14, 0, 25, 0),
  (25, .iload_n 1, 0, 26, 0),
  (26, .aaload, 0, 27, 0),
  (27, .iload_n 2, 0, 28, 0),
  (28, .invokevirtual 125, 0, 31, 0),
  (31, .ifCond .ne 6, 0, 34, 37),
  (34, .bipush (-4), (-4), 36, 0),
  (36, .ireturn, 0, 37, 0),
  (37, .aload_n 0, 0, 38, 0),
  (38, .iload_n 1, 0, 39, 0),
  (39, .invokevirtual 129, 0, 42, 0),
  (42, .aload_n 0, 0, 43, 0),
  (43, .getfield 14, 0, 46, 0),
  (46, .iload_n 1, 0, 47, 0),
  (47, .aaload, 0, 48, 0),
  (48, .getfield 132, 0, 51, 0),
  (51, .ireturn, 0, 52, 0)]
def am_lv_45 : List (Nat × List Nat) := [(18, []), (21, [0, 1, 2]), (37, [0, 1])]
/-- DeadLasts.wipe -/
def am_cd_46 : List am_T5 := [
  (0, .iload_n 1, 0, 1, 0),
  (1, .iconst 3, 3, 2, 0),
  (2, .invokestatic 121, 0, 5, 0),
  (5, .ifCond .ne 6, 0, 8, 11),
  (8, .bipush (-2), (-2), 10, 0),
  (10, .ireturn, 0, 11, 0),
  (11, .aload_n 0, 0, 12, 0),
  (12, .getfield 14, 0, 15, 0),
  (15, .iload_n 1, 0, 16, 0),
  (16, .aaload, 0, 17, 0),
  (17, .getfield 132, 0, 20, 0),
  (20, .istore_n 2, 0, 21, 0),
  (21, .aload_n 0, 0, 22, 0),
  (22, .getfield 14, 0, 25, 0),
  (25, .iload_n 1, 0, 26, 0),
  (26, .aaload, 0, 27, 0),
  (27, .iconst 0, 0, 28, 0),
  (28, .putfield 132, 0, 31, 0),
  (31, .aload_n 0, 0, 32, 0),
  (32, .iload_n 1, 0, 33, 0),
  (33, .invokevirtual 129, 0, 36, 0),
  (36, .iload_n 2, 0, 37, 0),
  (37, .ireturn, 0, 38, 0)]
def am_lv_46 : List (Nat × List Nat) := [(11, [0, 1])]
/-- DeadLasts.undo -/
def am_cd_47 : List am_T5 := [
  (0, .iload_n 1, 0, 1, 0),
  (1, .iconst 3, 3, 2, 0),
  (2, .invokestatic 121, 0, 5, 0),
  (5, .ifCond .ne 6, 0, 8, 11),
  (8, .bipush (-2), (-2), 10, 0),
  (10, .ireturn, 0, 11, 0),
  (11, .aload_n 0, 0, 12, 0),
  (12, .getfield 14, 0, 15, 0),
  (15, .iload_n 1, 0, 16, 0),
  (16, .aaload, 0, 17, 0),
  (17, .getfield 132, 0, 20, 0),
  (20, .ifCond .ne 6, 0, 23, 26),
  (23, .bipush (-3), (-3), 25, 0),
  (25, .ireturn, 0, 26, 0),
  (26, .aload_n 0, 0, 27, 0),
  (27, .getfield 14, 0, 30, 0),
  (30, .iload_n 1, 0, 31, 0),
  (31, .aaload, 0, 32, 0),
  (32, .dup, 0, 33, 0),
  (33, .getfield 132, 0, 36, 0),
  (36, .iconst 1, 1, 37, 0),
  (37, .isub, 0, 38, 0),
  (38, .putfield 132, 0, 41, 0),
  (41, .aload_n 0, 0, 42, 0),
  (42, .iload_n 1, 0, 43, 0),
  (43, .invokevirtual 129, 0, 46, 0),
  (46, .aload_n 0, 0, 47, 0),
  (47, .getfield 14, 0, 50, 0),
  (50, .iload_n 1, 0, 51, 0),
  (51, .aaload, 0, 52, 0),
  (52, .getfield 132, 0, 55, 0),
  (55, .ireturn, 0, 56, 0)]
def am_lv_47 : List (Nat × List Nat) := [(11, [0, 1]), (26, [0, 1])]
/-- DeadLasts.fault -/
def am_cd_48 : List am_T5 := [
  (0, .iload_n 1, 0, 1, 0),
  (1, .iconst 3, 3, 2, 0),
  (2, .invokestatic 121, 0, 5, 0),
  (5, .ifCond .eq 12, 0, 8, 17),
  (8, .aload_n 0, 0, 9, 0),
  (9, .getfield 18, 0, 12, 0),
  (12, .iload_n 1, 0, 13, 0),
  (13, .iaload, 0, 14, 0),
  (14, .goto 5, 0, 17, 19),
  (17, .bipush (-2), (-2), 19, 0),
  (19, .ireturn, 0, 20, 0)]
def am_lv_48 : List (Nat × List Nat) := [(17, []), (19, [])]
/-- DeadLasts.cell -/
def am_cd_49 : List am_T5 := [
  (0, .iload_n 1, 0, 1, 0),
  (1, .bipush 36, 36, 3, 0),
  (3, .invokestatic 121, 0, 6, 0),
  (6, .ifCond .eq 14, 0, 9, 20),
  (9, .aload_n 0, 0, 10, 0),
  (10, .getfield 25, 0, 13, 0),
  (13, .iload_n 1, 0, 14, 0),
  (14, .invokevirtual 135, 0, 17, 0),
  (17, .goto 5, 0, 20, 22),
  (20, .bipush (-2), (-2), 22, 0),
  (22, .ireturn, 0, 23, 0)]
def am_lv_49 : List (Nat × List Nat) := [(20, []), (22, [])]
/-- DeadLasts.last -/
def am_cd_50 : List am_T5 := [
  (0, .iload_n 1, 0, 1, 0),
  (1, .aload_n 0, 0, 2, 0),
  (2, .getfield 32, 0, 5, 0),
  (5, .getfield 139, 0, 8, 0),
  (8, .invokestatic 121, 0, 11, 0),
  (11, .ifCond .eq 12, 0, 14, 23),
  (14, .iload_n 2, 0, 15, 0),
  (15, .bipush 6, 6, 17, 0),
  (17, .invokestatic 121, 0, 20, 0),
  (20, .ifCond .ne 6, 0, 23, 26),
  (23, .bipush (-2), (-2), 25, 0),
  (25, .ireturn, 0, 26, 0),
  (26, .aload_n 0, 0, 27, 0),
  (27, .getfield 32, 0, 30, 0),
  (30, .iload_n 1, 0, 31, 0),
  (31, .iload_n 2, 0, 32, 0),
  (32, .invokevirtual 142, 0, 35, 0),
  (35, .ireturn, 0, 36, 0)]
def am_lv_50 : List (Nat × List Nat) := [(23, []), (26, [0, 1, 2])]
/-- DeadLasts.person -/
def am_cd_51 : List am_T5 := [
  (0, .iload_n 1, 0, 1, 0),
  (1, .aload_n 0, 0, 2, 0),
  (2, .getfield 39, 0, 5, 0),
  (5, .getfield 146, 0, 8, 0),
  (8, .invokestatic 121, 0, 11, 0),
  (11, .ifCond .eq 11, 0, 14, 22),
  (14, .iload_n 2, 0, 15, 0),
  (15, .iconst 5, 5, 16, 0),
  (16, .invokestatic 121, 0, 19, 0),
  (19, .ifCond .ne 6, 0, 22, 25),
  (22, .bipush (-2), (-2), 24, 0),
  (24, .ireturn, 0, 25, 0),
  (25, .aload_n 0, 0, 26, 0),
  (26, .getfield 39, 0, 29, 0),
  (29, .iload_n 1, 0, 30, 0),
  (30, .iload_n 2, 0, 31, 0),
  (31, .invokevirtual 147, 0, 34, 0),
  (34, .ireturn, 0, 35, 0)]
def am_lv_51 : List (Nat × List Nat) := [(22, []), (25, [0, 1, 2])]
/-- DeadLasts.rain -/
def am_cd_52 : List am_T5 := [
  (0, .iload_n 1, 0, 1, 0),
  (1, .bipush 30, 30, 3, 0),
  (3, .invokestatic 121, 0, 6, 0),
  (6, .ifCond .ne 6, 0, 9, 12),
  (9, .bipush (-2), (-2), 11, 0),
  (11, .ireturn, 0, 12, 0),
  (12, .aload_n 0, 0, 13, 0),
  (13, .getfield 46, 0, 16, 0),
  (16, .iload_n 1, 0, 17, 0),
  (17, .invokevirtual 148, 0, 20, 0),
  (20, .ifCond .ne 6, 0, 23, 26),
  (23, .bipush (-4), (-4), 25, 0),
  (25, .ireturn, 0, 26, 0),
  (26, .aload_n 0, 0, 27, 0),
  (27, .invokevirtual 151, 0, 30, 0),
  (30, .aload_n 0, 0, 31, 0),
  (31, .getfield 46, 0, 34, 0),
  (34, .getfield 154, 0, 37, 0),
  (37, .ireturn, 0, 38, 0)]
def am_lv_52 : List (Nat × List Nat) := [(12, [0, 1]), (26, [0])]
/-- DeadLasts.back -/
def am_cd_53 : List am_T5 := [
  (0, .aload_n 0, 0, 1, 0),
  (1, .getfield 46, 0, 4, 0),
  (4, .getfield 154, 0, 7, 0),
  (7, .ifCond .ne 6, 0, 10, 13),
  (10, .bipush (-3), (-3), 12, 0),
  (12, .ireturn, 0, 13, 0),
  (13, .aload_n 0, 0, 14, 0),
  (14, .getfield 46, 0, 17, 0),
  (17, .dup, 0, 18, 0),
  (18, .getfield 154, 0, 21, 0),
  (21, .iconst 1, 1, 22, 0),
  (22, .isub, 0, 23, 0),
  (23, .putfield 154, 0, 26, 0),
  (26, .aload_n 0, 0, 27, 0),
  (27, .invokevirtual 151, 0, 30, 0),
  (30, .aload_n 0, 0, 31, 0),
  (31, .getfield 46, 0, 34, 0),
  (34, .getfield 154, 0, 37, 0),
  (37, .ireturn, 0, 38, 0)]
def am_lv_53 : List (Nat × List Nat) := [(13, [0])]
/-- DeadLasts.read -/
def am_cd_54 : List am_T5 := [
  (0, .iload_n 1, 0, 1, 0),
  (1, .iconst 4, 4, 2, 0),
  (2, .invokestatic 121, 0, 5, 0),
  (5, .ifCond .ne 6, 0, 8, 11),
  (8, .bipush (-2), (-2), 10, 0),
  (10, .ireturn, 0, 11, 0),
  (11, .aload_n 0, 0, 12, 0),
  (12, .getfield 59, 0, 15, 0),
  (15, .iload_n 1, 0, 16, 0),
  (16, .aaload, 0, 17, 0),
  (17, .astore_n 2, 0, 18, 0),
  (18, .aload_n 2, 0, 19, 0),
  (19, .invokevirtual 155, 0, 22, 0),
  (22, .ifCond .eq 9, 0, 25, 31),
  (25, .aload_n 0, 0, 26, 0),
  (26, .iconst 1, 1, 27, 0),
  (27, .invokevirtual 159, 0, 30, 0),
  (30, .ireturn, 0, 31, 0),
  (31, .aload_n 0, 0, 32, 0),
  (32, .invokevirtual 151, 0, 35, 0),
  (35, .iconst 0, 0, 36, 0),
  (36, .istore_n 3, 0, 37, 0),
  (37, .iload_n 3, 0, 38, 0),
  (38, .aload_n 2, 0, 39, 0),
  (39, .getfield 162, 0, 42, 0),
  (42, .if_icmp .ge 39, 0, 45, 81),
  (45, .aload_n 2, 0, 46, 0),
  (46, .getfield 163, 0, 49, 0),
  (49, .iload_n 3, 0, 50, 0),
  (50, .iaload, 0, 51, 0),
  (51, .bipush 30, 30, 53, 0),
  (53, .invokestatic 121, 0, 56, 0),
  (56, .ifCond .eq 25, 0, 59, 81),
  (59, .aload_n 0, 0, 60, 0),
  (60, .getfield 46, 0, 63, 0),
  (63, .aload_n 2, 0, 64, 0),
  (64, .getfield 163, 0, 67, 0),
  (67, .iload_n 3, 0, 68, 0),
  (68, .iaload, 0, 69, 0),
  (69, .invokevirtual 148, 0, 72, 0),
  (72, .ifCond .eq 9, 0, 75, 81),
  (75, .iinc 3 1, 1, 78, 0),
  (78, .goto (-41), 0, 81, 37),
  (81, .iload_n 3, 0, 82, 0),
  (82, .ireturn, 0, 83, 0)]
def am_lv_54 : List (Nat × List Nat) := [(11, [0, 1]), (31, [0, 2]), (37, [0, 2, 3]), (81, [3])]
/-- DeadLasts.at -/
def am_cd_55 : List am_T5 := [
  (0, .iload_n 1, 0, 1, 0),
  (1, .bipush 30, 30, 3, 0),
  (3, .invokestatic 121, 0, 6, 0),
  (6, .ifCond .eq 25, 0, 9, 31),
  (9, .iload_n 2, 0, 10, 0),
  (10, .aload_n 0, 0, 11, 0),
  (11, .getfield 39, 0, 14, 0),
  (14, .getfield 146, 0, 17, 0),
  (17, .invokestatic 121, 0, 20, 0),
  (20, .ifCond .eq 11, 0, 23, 31),
  (23, .iload_n 3, 0, 24, 0),
  (24, .iconst 4, 4, 25, 0),
  (25, .invokestatic 121, 0, 28, 0),
  (28, .ifCond .ne 6, 0, 31, 34),
  (31, .bipush (-2), (-2), 33, 0),
  (33, .ireturn, 0, 34, 0),
  (34, .aload_n 0, 0, 35, 0),
  (35, .invokevirtual 166, 0, 38, 0),
  (38, .aload_n 0, 0, 39, 0),
  (39, .getfield 66, 0, 42, 0),
  (42, .iload_n 2, 0, 43, 0),
  (43, .aaload, 0, 44, 0),
  (44, .iload_n 1, 0, 45, 0),
  (45, .iload_n 3, 0, 46, 0),
  (46, .invokevirtual 169, 0, 49, 0),
  (49, .ireturn, 0, 50, 0)]
def am_lv_55 : List (Nat × List Nat) := [(31, []), (34, [0, 1, 2, 3])]
/-- DeadLasts.ends -/
def am_cd_56 : List am_T5 := [
  (0, .iload_n 1, 0, 1, 0),
  (1, .aload_n 0, 0, 2, 0),
  (2, .getfield 39, 0, 5, 0),
  (5, .getfield 146, 0, 8, 0),
  (8, .invokestatic 121, 0, 11, 0),
  (11, .ifCond .eq 11, 0, 14, 22),
  (14, .iload_n 2, 0, 15, 0),
  (15, .iconst 2, 2, 16, 0),
  (16, .invokestatic 121, 0, 19, 0),
  (19, .ifCond .ne 6, 0, 22, 25),
  (22, .bipush (-2), (-2), 24, 0),
  (24, .ireturn, 0, 25, 0),
  (25, .aload_n 0, 0, 26, 0),
  (26, .invokevirtual 166, 0, 29, 0),
  (29, .aload_n 0, 0, 30, 0),
  (30, .getfield 66, 0, 33, 0),
  (33, .iload_n 1, 0, 34, 0),
  (34, .aaload, 0, 35, 0),
  (35, .astore_n 3, 0, 36, 0),
  (36, .aload_n 3, 0, 37, 0),
  (37, .getfield 170, 0, 40, 0),
  (40, .iload_n 2, 0, 41, 0),
  (41, .invokestatic 173, 0, 44, 0),
  (44, .if_icmp .ne 10, 0, 47, 54),
  (47, .aload_n 3, 0, 48, 0),
  (48, .getfield 175, 0, 51, 0),
  (51, .goto 4, 0, 54, 55),
  (54, .iconst (-1), (-1), 55, 0),
  (55, .ireturn, 0, 56, 0)]
def am_lv_56 : List (Nat × List Nat) := [(22, []), (25, [0, 1, 2]), (54, []), (55, [])]
/-- DeadLasts.who -/
def am_cd_57 : List am_T5 := [
  (0, .iload_n 1, 0, 1, 0),
  (1, .iconst 2, 2, 2, 0),
  (2, .invokestatic 121, 0, 5, 0),
  (5, .ifCond .ne 6, 0, 8, 11),
  (8, .bipush (-2), (-2), 10, 0),
  (10, .ireturn, 0, 11, 0),
  (11, .aload_n 0, 0, 12, 0),
  (12, .invokevirtual 166, 0, 15, 0),
  (15, .iconst 0, 0, 16, 0),
  (16, .istore_n 2, 0, 17, 0),
  (17, .iconst 0, 0, 18, 0),
  (18, .istore_n 3, 0, 19, 0),
  (19, .iload_n 3, 0, 20, 0),
  (20, .aload_n 0, 0, 21, 0),
  (21, .getfield 39, 0, 24, 0),
  (24, .getfield 146, 0, 27, 0),
  (27, .if_icmp .ge 31, 0, 30, 58),
  (30, .aload_n 0, 0, 31, 0),
  (31, .getfield 66, 0, 34, 0),
  (34, .iload_n 3, 0, 35, 0),
  (35, .aaload, 0, 36, 0),
  (36, .getfield 170, 0, 39, 0),
  (39, .iload_n 1, 0, 40, 0),
  (40, .invokestatic 173, 0, 43, 0),
  (43, .if_icmp .ne 9, 0, 46, 52),
  (46, .iload_n 2, 0, 47, 0),
  (47, .iconst 1, 1, 48, 0),
  (48, .iload_n 3, 0, 49, 0),
  (49, .ishl, 0, 50, 0),
  (50, .ior, 0, 51, 0),
  (51, .istore_n 2, 0, 52, 0),
  (52, .iinc 3 1, 1, 55, 0),
  (55, .goto (-36), 0, 58, 19),
  (58, .iload_n 2, 0, 59, 0),
  (59, .ireturn, 0, 60, 0)]
def am_lv_57 : List (Nat × List Nat) := [(11, [0, 1]), (19, [0, 1, 2, 3]), (52, [0, 1, 2, 3]), (58, [2])]
/-- DeadLasts.met -/
def am_cd_58 : List am_T5 := [
  (0, .iload_n 1, 0, 1, 0),
  (1, .iconst 3, 3, 2, 0),
  (2, .invokestatic 121, 0, 5, 0),
  (5, .ifCond .ne 6, 0, 8, 11),
  (8, .bipush (-2), (-2), 10, 0),
  (10, .ireturn, 0, 11, 0),
  (11, .aload_n 0, 0, 12, 0),
  (12, .invokevirtual 166, 0, 15, 0),
  (15, .iconst 0, 0, 16, 0),
  (16, .istore_n 2, 0, 17, 0),
  (17, .iload_n 2, 0, 18, 0),
  (18, .bipush 30, 30, 20, 0),
  (20, .if_icmp .ge 62, 0, 23, 82),
  (23, .iconst 0, 0, 24, 0),
  (24, .istore_n 3, 0, 25, 0),
  (25, .iload_n 3, 0, 26, 0),
  (26, .aload_n 0, 0, 27, 0),
  (27, .getfield 39, 0, 30, 0),
  (30, .getfield 146, 0, 33, 0),
  (33, .if_icmp .ge 43, 0, 36, 76),
  (36, .aload_n 0, 0, 37, 0),
  (37, .iload_n 2, 0, 38, 0),
  (38, .iload_n 3, 0, 39, 0),
  (39, .invokevirtual 178, 0, 42, 0),
  (42, .istore 4, 0, 44, 0),
  (44, .iload 4, 0, 46, 0),
  (46, .iconst (-1), (-1), 47, 0),
  (47, .if_icmp .eq 23, 0, 50, 70),
  (50, .iload_n 1, 0, 51, 0),
  (51, .ifCond .ne 7, 0, 54, 58),
  (54, .iload_n 2, 0, 55, 0),
  (55, .goto 14, 0, 58, 69),
  (58, .iload_n 1, 0, 59, 0),
  (59, .iconst 1, 1, 60, 0),
  (60, .if_icmp .ne 7, 0, 63, 67),
  (63, .iload_n 3, 0, 64, 0),
  (64, .goto 5, 0, 67, 69),
  (67, .iload 4, 0, 69, 0),
  (69, .ireturn, 0, 70, 0),
  (70, .iinc 3 1, 1, 73, 0),
  (73, .goto (-48), 0, 76, 25),
  (76, .iinc 2 1, 1, 79, 0),
  (79, .goto (-62), 0, 82, 17),
  (82, .iconst (-1), (-1), 83, 0),
  (83, .ireturn, 0, 84, 0)]
def am_lv_58 : List (Nat × List Nat) := [(11, [0, 1]), (17, [0, 1, 2]), (25, [0, 1, 2, 3]), (58, [1, 3, 4]), (67, [4]), (69, []), (70, [0, 1, 2, 3]), (76, [0, 1, 2]), (82, [])]
/-- DeadLasts.worn -/
def am_cd_59 : List am_T5 := [
  (0, .iload_n 1, 0, 1, 0),
  (1, .aload_n 0, 0, 2, 0),
  (2, .getfield 32, 0, 5, 0),
  (5, .getfield 139, 0, 8, 0),
  (8, .invokestatic 121, 0, 11, 0),
  (11, .ifCond .ne 6, 0, 14, 17),
  (14, .bipush (-2), (-2), 16, 0),
  (16, .ireturn, 0, 17, 0),
  (17, .aload_n 0, 0, 18, 0),
  (18, .invokevirtual 166, 0, 21, 0),
  (21, .iconst 0, 0, 22, 0),
  (22, .istore_n 2, 0, 23, 0),
  (23, .iconst 0, 0, 24, 0),
  (24, .istore_n 3, 0, 25, 0),
  (25, .iload_n 3, 0, 26, 0),
  (26, .aload_n 0, 0, 27, 0),
  (27, .getfield 39, 0, 30, 0),
  (30, .getfield 146, 0, 33, 0),
  (33, .if_icmp .ge 22, 0, 36, 55),
  (36, .iload_n 2, 0, 37, 0),
  (37, .aload_n 0, 0, 38, 0),
  (38, .getfield 66, 0, 41, 0),
  (41, .iload_n 3, 0, 42, 0),
  (42, .aaload, 0, 43, 0),
  (43, .iload_n 1, 0, 44, 0),
  (44, .invokevirtual 181, 0, 47, 0),
  (47, .iadd, 0, 48, 0),
  (48, .istore_n 2, 0, 49, 0),
  (49, .iinc 3 1, 1, 52, 0),
  (52, .goto (-27), 0, 55, 25),
  (55, .iload_n 2, 0, 56, 0),
  (56, .ireturn, 0, 57, 0)]
def am_lv_59 : List (Nat × List Nat) := [(17, [0, 1]), (25, [0, 1, 2, 3]), (55, [2])]
/-- DeadLasts.rifest -/
def am_cd_60 : List am_T5 := [
  (0, .iconst (-1), (-1), 1, 0),
  (1, .istore_n 1, 0, 2, 0),
  (2, .iconst (-1), (-1), 3, 0),
  (3, .istore_n 2, 0, 4, 0),
  (4, .iconst 0, 0, 5, 0),
  (5, .istore_n 3, 0, 6, 0),
  (6, .iload_n 3, 0, 7, 0),
  (7, .aload_n 0, 0, 8, 0),
  (8, .getfield 32, 0, 11, 0),
  (11, .getfield 139, 0, 14, 0),
  (14, .if_icmp .ge 27, 0, 17, 41),
  (17, .aload_n 0, 0, 18, 0),
  (18, .iload_n 3, 0, 19, 0),
  (19, .invokevirtual 184, 0, 22, 0),
  (22, .istore 4, 0, 24, 0),
  (24, .iload 4, 0, 26, 0),
  (26, .iload_n 2, 0, 27, 0),
  (27, .if_icmp .le 8, 0, 30, 35),
  (30, .iload 4, 0, 32, 0),
  (32, .istore_n 2, 0, 33, 0),
  (33, .iload_n 3, 0, 34, 0),
  (34, .istore_n 1, 0, 35, 0),
  (35, .iinc 3 1, 1, 38, 0),
  (38, .goto (-32), 0, 41, 6),
  (41, .iload_n 1, 0, 42, 0),
  (42, .ireturn, 0, 43, 0)]
def am_lv_60 : List (Nat × List Nat) := [(6, [0, 1, 2, 3]), (35, [0, 1, 2, 3]), (41, [1])]
/-- DeadLasts.pair -/
def am_cd_61 : List am_T5 := [
  (0, .iload_n 1, 0, 1, 0),
  (1, .aload_n 0, 0, 2, 0),
  (2, .getfield 39, 0, 5, 0),
  (5, .getfield 146, 0, 8, 0),
  (8, .invokestatic 121, 0, 11, 0),
  (11, .ifCond .eq 11, 0, 14, 22),
  (14, .iload_n 2, 0, 15, 0),
  (15, .iconst 3, 3, 16, 0),
  (16, .invokestatic 121, 0, 19, 0),
  (19, .ifCond .ne 6, 0, 22, 25),
  (22, .bipush (-2), (-2), 24, 0),
  (24, .ireturn, 0, 25, 0),
  (25, .aload_n 0, 0, 26, 0),
  (26, .getfield 115, 0, 29, 0),
  (29, .iload_n 1, 0, 30, 0),
  (30, .if_icmp .eq 13, 0, 33, 43),
  (33, .aload_n 0, 0, 34, 0),
  (34, .iload_n 1, 0, 35, 0),
  (35, .invokevirtual 187, 0, 38, 0),
  (38, .aload_n 0, 0, 39, 0),
  (39, .iload_n 1, 0, 40, 0),
  (40, .putfield 115, 0, 43, 0),
  (43, .aload_n 0, 0, 44, 0),
  (44, .getfield 98, 0, 47, 0),
  (47, .iload_n 2, 0, 48, 0),
  (48, .iaload, 0, 49, 0),
  (49, .ireturn, 0, 50, 0)]
def am_lv_61 : List (Nat × List Nat) := [(22, []), (25, [0, 1, 2]), (43, [0, 2])]
/-- DeadLasts.soles -/
def am_cd_62 : List am_T5 := [
  (0, .iload_n 1, 0, 1, 0),
  (1, .aload_n 0, 0, 2, 0),
  (2, .getfield 39, 0, 5, 0),
  (5, .getfield 146, 0, 8, 0),
  (8, .invokestatic 121, 0, 11, 0),
  (11, .ifCond .ne 6, 0, 14, 17),
  (14, .bipush (-2), (-2), 16, 0),
  (16, .ireturn, 0, 17, 0),
  (17, .aload_n 0, 0, 18, 0),
  (18, .getfield 46, 0, 21, 0),
  (21, .iconst (-1), (-1), 22, 0),
  (22, .iconst (-1), (-1), 23, 0),
  (23, .invokevirtual 190, 0, 26, 0),
  (26, .istore_n 2, 0, 27, 0),
  (27, .iconst 0, 0, 28, 0),
  (28, .istore_n 3, 0, 29, 0),
  (29, .iload_n 3, 0, 30, 0),
  (30, .iconst 5, 5, 31, 0),
  (31, .if_icmp .gt 53, 0, 34, 84),
  (34, .aload_n 0, 0, 35, 0),
  (35, .getfield 80, 0, 38, 0),
  (38, .aload_n 0, 0, 39, 0),
  (39, .getfield 39, 0, 42, 0),
  (42, .iload_n 1, 0, 43, 0),
  (43, .invokevirtual 193, 0, 46, 0),
  (46, .aload_n 0, 0, 47, 0),
  (47, .getfield 80, 0, 50, 0),
  (50, .iload_n 3, 0, 51, 0),
  (51, .putfield 197, 0, 54, 0),
  (54, .aload_n 0, 0, 55, 0),
  (55, .getfield 80, 0, 58, 0),
  (58, .iload_n 2, 0, 59, 0),
  (59, .bipush 30, 30, 61, 0),
  (61, .invokevirtual 200, 0, 64, 0),
  (64, .pop, 0, 65, 0),
  (65, .aload_n 0, 0, 66, 0),
  (66, .getfield 80, 0, 69, 0),
  (69, .getfield 203, 0, 72, 0),
  (72, .iconst 2, 2, 73, 0),
  (73, .if_icmp .eq 5, 0, 76, 78),
  (76, .iload_n 3, 0, 77, 0),
  (77, .ireturn, 0, 78, 0),
  (78, .iinc 3 1, 1, 81, 0),
  (81, .goto (-52), 0, 84, 29),
  (84, .iconst (-1), (-1), 85, 0),
  (85, .ireturn, 0, 86, 0)]
def am_lv_62 : List (Nat × List Nat) := [(17, [0, 1]), (29, [0, 1, 2, 3]), (78, [0, 1, 2, 3]), (84, [])]
/-- DeadLasts.match -/
def am_cd_63 : List am_T5 := [
  (0, .aload_n 0, 0, 1, 0),
  (1, .getfield 46, 0, 4, 0),
  (4, .iconst (-1), (-1), 5, 0),
  (5, .iconst (-1), (-1), 6, 0),
  (6, .invokevirtual 190, 0, 9, 0),
  (9, .istore_n 1, 0, 10, 0),
  (10, .aload_n 0, 0, 11, 0),
  (11, .getfield 94, 0, 14, 0),
  (14, .invokevirtual 206, 0, 17, 0),
  (17, .iconst 0, 0, 18, 0),
  (18, .istore_n 2, 0, 19, 0),
  (19, .iload_n 2, 0, 20, 0),
  (20, .aload_n 0, 0, 21, 0),
  (21, .getfield 39, 0, 24, 0),
  (24, .getfield 146, 0, 27, 0),
  (27, .if_icmp .ge 87, 0, 30, 114),
  (30, .iconst 0, 0, 31, 0),
  (31, .istore_n 3, 0, 32, 0),
  (32, .iload_n 3, 0, 33, 0),
  (33, .aload_n 0, 0, 34, 0),
  (34, .getfield 32, 0, 37, 0),
  (37, .getfield 139, 0, 40, 0),
  (40, .if_icmp .ge 68, 0, 43, 108),
  (43, .aload_n 0, 0, 44, 0),
  (44, .getfield 80, 0, 47, 0),
  (47, .aload_n 0, 0, 48, 0),
  (48, .getfield 39, 0, 51, 0),
  (51, .iload_n 2, 0, 52, 0),
  (52, .invokevirtual 193, 0, 55, 0),
  (55, .aload_n 0, 0, 56, 0),
  (56, .getfield 80, 0, 59, 0),
  (59, .iload_n 3, 0, 60, 0),
  (60, .putfield 209, 0, 63, 0),
  (63, .aload_n 0, 0, 64, 0),
  (64, .getfield 80, 0, 67, 0),
  (67, .iload_n 3, 0, 68, 0),
  (68, .putfield 212, 0, 71, 0),
  (71, .aload_n 0, 0, 72, 0),
  (72, .getfield 80, 0, 75, 0),
  (75, .iload_n 1, 0, 76, 0),
  (76, .bipush 30, 30, 78, 0),
  (78, .invokevirtual 200, 0, 81, 0),
  (81, .pop, 0, 82, 0),
  (82, .aload_n 0, 0, 83, 0),
  (83, .getfield 80, 0, 86, 0),
  (86, .getfield 203, 0, 89, 0),
  (89, .iconst 1, 1, 90, 0),
  (90, .if_icmp .ne 12, 0, 93, 102),
  (93, .aload_n 0, 0, 94, 0),
  (94, .getfield 94, 0, 97, 0),
  (97, .iload_n 2, 0, 98, 0),
  (98, .iload_n 3, 0, 99, 0),
  (99, .invokevirtual 215, 0, 102, 0),
  (102, .iinc 3 1, 1, 105, 0),
  (105, .goto (-73), 0, 108, 32),
  (108, .iinc 2 1, 1, 111, 0),
  (111, .goto (-92), 0, 114, 19),
  (114, .aload_n 0, 0, 115, 0),
  (115, .getfield 94, 0, 118, 0),
  (118, .invokevirtual 219, 0, 121, 0),
  (121, .ireturn, 0, 122, 0)]
def am_lv_63 : List (Nat × List Nat) := [(19, [0, 1, 2]), (32, [0, 1, 2, 3]), (102, [0, 1, 2, 3]), (108, [0, 1, 2]), (114, [0])]
/-- DeadLasts.dry -/
def am_cd_64 : List am_T5 := [
  (0, .iload_n 1, 0, 1, 0),
  (1, .iconst (-1), (-1), 2, 0),
  (2, .if_icmp .eq 14, 0, 5, 16),
  (5, .iload_n 1, 0, 6, 0),
  (6, .iconst 2, 2, 7, 0),
  (7, .invokestatic 121, 0, 10, 0),
  (10, .ifCond .ne 6, 0, 13, 16),
  (13, .bipush (-2), (-2), 15, 0),
  (15, .ireturn, 0, 16, 0),
  (16, .aload_n 0, 0, 17, 0),
  (17, .getfield 118, 0, 20, 0),
  (20, .bipush (-2), (-2), 22, 0),
  (22, .if_icmp .ne 11, 0, 25, 33),
  (25, .aload_n 0, 0, 26, 0),
  (26, .aload_n 0, 0, 27, 0),
  (27, .invokevirtual 223, 0, 30, 0),
  (30, .putfield 118, 0, 33, 0),
  (33, .iload_n 1, 0, 34, 0),
  (34, .iconst (-1), (-1), 35, 0),
  (35, .if_icmp .ne 8, 0, 38, 43),
  (38, .aload_n 0, 0, 39, 0),
  (39, .getfield 118, 0, 42, 0),
  (42, .ireturn, 0, 43, 0),
  (43, .iload_n 1, 0, 44, 0),
  (44, .aload_n 0, 0, 45, 0),
  (45, .getfield 118, 0, 48, 0),
  (48, .if_icmp .ge 12, 0, 51, 60),
  (51, .aload_n 0, 0, 52, 0),
  (52, .getfield 101, 0, 55, 0),
  (55, .iload_n 1, 0, 56, 0),
  (56, .iaload, 0, 57, 0),
  (57, .goto 4, 0, 60, 61),
  (60, .iconst (-1), (-1), 61, 0),
  (61, .ireturn, 0, 62, 0)]
def am_lv_64 : List (Nat × List Nat) := [(16, [0, 1]), (33, [0, 1]), (43, [0, 1]), (60, []), (61, [])]
/-- DeadLasts.seen -/
def am_cd_65 : List am_T5 := [
  (0, .iload_n 1, 0, 1, 0),
  (1, .bipush 30, 30, 3, 0),
  (3, .invokestatic 121, 0, 6, 0),
  (6, .ifCond .eq 21, 0, 9, 27),
  (9, .iload_n 2, 0, 10, 0),
  (10, .bipush 8, 8, 12, 0),
  (12, .invokestatic 121, 0, 15, 0),
  (15, .ifCond .eq 12, 0, 18, 27),
  (18, .iload_n 3, 0, 19, 0),
  (19, .bipush 36, 36, 21, 0),
  (21, .invokestatic 121, 0, 24, 0),
  (24, .ifCond .ne 6, 0, 27, 30),
  (27, .bipush (-2), (-2), 29, 0),
  (29, .ireturn, 0, 30, 0),
  (30, .aload_n 0, 0, 31, 0),
  (31, .getfield 53, 0, 34, 0),
  (34, .iload_n 1, 0, 35, 0),
  (35, .iload_n 2, 0, 36, 0),
  (36, .iload_n 3, 0, 37, 0),
  (37, .invokevirtual 226, 0, 40, 0),
  (40, .ifCond .eq 13, 0, 43, 53),
  (43, .aload_n 0, 0, 44, 0),
  (44, .getfield 53, 0, 47, 0),
  (47, .getfield 229, 0, 50, 0),
  (50, .goto 5, 0, 53, 55),
  (53, .bipush (-4), (-4), 55, 0),
  (55, .ireturn, 0, 56, 0)]
def am_lv_65 : List (Nat × List Nat) := [(27, []), (30, [0, 1, 2, 3]), (53, []), (55, [])]
/-- DeadLasts.forget -/
def am_cd_66 : List am_T5 := [
  (0, .aload_n 0, 0, 1, 0),
  (1, .getfield 53, 0, 4, 0),
  (4, .getfield 229, 0, 7, 0),
  (7, .istore_n 1, 0, 8, 0),
  (8, .aload_n 0, 0, 9, 0),
  (9, .getfield 53, 0, 12, 0),
  (12, .iconst 0, 0, 13, 0),
  (13, .putfield 229, 0, 16, 0),
  (16, .iload_n 1, 0, 17, 0),
  (17, .ireturn, 0, 18, 0)]
def am_lv_66 : List (Nat × List Nat) := []
/-- DeadLasts.never -/
def am_cd_67 : List am_T5 := [
  (0, .iconst 0, 0, 1, 0),
  (1, .istore_n 1, 0, 2, 0),
  (2, .iconst 0, 0, 3, 0),
  (3, .istore_n 2, 0, 4, 0),
  (4, .iload_n 2, 0, 5, 0),
  (5, .aload_n 0, 0, 6, 0),
  (6, .getfield 46, 0, 9, 0),
  (9, .getfield 154, 0, 12, 0),
  (12, .if_icmp .ge 23, 0, 15, 35),
  (15, .aload_n 0, 0, 16, 0),
  (16, .iload_n 2, 0, 17, 0),
  (17, .invokevirtual 230, 0, 20, 0),
  (20, .ifCond .eq 9, 0, 23, 29),
  (23, .iload_n 1, 0, 24, 0),
  (24, .iconst 1, 1, 25, 0),
  (25, .iload_n 2, 0, 26, 0),
  (26, .ishl, 0, 27, 0),
  (27, .ior, 0, 28, 0),
  (28, .istore_n 1, 0, 29, 0),
  (29, .iinc 2 1, 1, 32, 0),
  (32, .goto (-28), 0, 35, 4),
  (35, .iload_n 1, 0, 36, 0),
  (36, .ireturn, 0, 37, 0)]
def am_lv_67 : List (Nat × List Nat) := [(4, [0, 1, 2]), (29, [0, 1, 2]), (35, [1])]
/-- DeadLasts.wore -/
def am_cd_68 : List am_T5 := [
  (0, .iload_n 1, 0, 1, 0),
  (1, .aload_n 0, 0, 2, 0),
  (2, .getfield 39, 0, 5, 0),
  (5, .getfield 146, 0, 8, 0),
  (8, .invokestatic 121, 0, 11, 0),
  (11, .ifCond .eq 11, 0, 14, 22),
  (14, .iload_n 2, 0, 15, 0),
  (15, .iconst 2, 2, 16, 0),
  (16, .invokestatic 121, 0, 19, 0),
  (19, .ifCond .ne 6, 0, 22, 25),
  (22, .bipush (-2), (-2), 24, 0),
  (24, .ireturn, 0, 25, 0),
  (25, .aload_n 0, 0, 26, 0),
  (26, .invokevirtual 166, 0, 29, 0),
  (29, .aload_n 0, 0, 30, 0),
  (30, .iload_n 1, 0, 31, 0),
  (31, .iload_n 2, 0, 32, 0),
  (32, .invokevirtual 233, 0, 35, 0),
  (35, .ireturn, 0, 36, 0)]
def am_lv_68 : List (Nat × List Nat) := [(22, []), (25, [0, 1, 2])]
/-- DeadLasts.ask -/
def am_cd_69 : List am_T5 := [
  (0, .iload_n 1, 0, 1, 0),
  (1, .aload_n 0, 0, 2, 0),
  (2, .getfield 39, 0, 5, 0),
  (5, .getfield 146, 0, 8, 0),
  (8, .invokestatic 121, 0, 11, 0),
  (11, .ifCond .ne 6, 0, 14, 17),
  (14, .bipush (-2), (-2), 16, 0),
  (16, .ireturn, 0, 17, 0),
  (17, .aload_n 0, 0, 18, 0),
  (18, .invokevirtual 166, 0, 21, 0),
  (21, .aload_n 0, 0, 22, 0),
  (22, .iload_n 1, 0, 23, 0),
  (23, .iconst 1, 1, 24, 0),
  (24, .invokevirtual 233, 0, 27, 0),
  (27, .istore_n 2, 0, 28, 0),
  (28, .iconst 0, 0, 29, 0),
  (29, .istore_n 3, 0, 30, 0),
  (30, .bipush 9, 9, 32, 0),
  (32, .istore 4, 0, 34, 0),
  (34, .iconst 0, 0, 35, 0),
  (35, .istore 5, 0, 37, 0),
  (37, .iload 5, 0, 39, 0),
  (39, .bipush 30, 30, 41, 0),
  (41, .if_icmp .ge 32, 0, 44, 73),
  (44, .aload_n 0, 0, 45, 0),
  (45, .iload 5, 0, 47, 0),
  (47, .iload_n 2, 0, 48, 0),
  (48, .invokevirtual 236, 0, 51, 0),
  (51, .istore 6, 0, 53, 0),
  (53, .iload 6, 0, 55, 0),
  (55, .iload 4, 0, 57, 0),
  (57, .if_icmp .ge 10, 0, 60, 67),
  (60, .iload 6, 0, 62, 0),
  (62, .istore 4, 0, 64, 0),
  (64, .iload 5, 0, 66, 0),
  (66, .istore_n 3, 0, 67, 0),
  (67, .iinc 5 1, 1, 70, 0),
  (70, .goto (-33), 0, 73, 37),
  (73, .iload_n 3, 0, 74, 0),
  (74, .ireturn, 0, 75, 0)]
def am_lv_69 : List (Nat × List Nat) := [(17, [0, 1]), (37, [0, 2, 3, 4, 5]), (67, [0, 2, 3, 4, 5]), (73, [3])]
/-- DeadLasts.storm -/
def am_cd_70 : List am_T5 := [
  (0, .iload_n 1, 0, 1, 0),
  (1, .bipush 17, 17, 3, 0),
  (3, .invokestatic 121, 0, 6, 0),
  (6, .ifCond .eq 35, 0, 9, 41),
  (9, .iload_n 2, 0, 10, 0),
  (10, .bipush 10, 10, 12, 0),
  (12, .invokestatic 121, 0, 15, 0),
  (15, .ifCond .eq 26, 0, 18, 41),
  (18, .iload_n 3, 0, 19, 0),
  (19, .aload_n 0, 0, 20, 0),
  (20, .getfield 39, 0, 23, 0),
  (23, .getfield 146, 0, 26, 0),
  (26, .invokestatic 121, 0, 29, 0),
  (29, .ifCond .eq 12, 0, 32, 41),
  (32, .iload 4, 0, 34, 0),
  (34, .iconst 2, 2, 35, 0),
  (35, .invokestatic 121, 0, 38, 0),
  (38, .ifCond .ne 7, 0, 41, 45),
  (41, .ldc2_w 241, 0, 44, 0),
  (44, .lreturn, 0, 45, 0),
  (45, .aload_n 0, 0, 46, 0),
  (46, .getfield 87, 0, 49, 0),
  (49, .aload_n 0, 0, 50, 0),
  (50, .getfield 39, 0, 53, 0),
  (53, .iload_n 3, 0, 54, 0),
  (54, .iload_n 1, 0, 55, 0),
  (55, .iload_n 2, 0, 56, 0),
  (56, .invokevirtual 243, 0, 59, 0),
  (59, .lstore 5, 0, 61, 0),
  (61, .lconst 1, 0, 62, 0),
  (62, .iconst 4, 4, 63, 0),
  (63, .iload_n 2, 0, 64, 0),
  (64, .iconst 1, 1, 65, 0),
  (65, .iadd, 0, 66, 0),
  (66, .imul, 0, 67, 0),
  (67, .lshl, 0, 68, 0),
  (68, .lstore 7, 0, 70, 0),
  (70, .iconst 0, 0, 71, 0),
  (71, .istore 9, 0, 73, 0),
  (73, .iload 9, 0, 75, 0),
  (75, .bipush 40, 40, 77, 0),
  (77, .if_icmp .ge 37, 0, 80, 114),
  (80, .lload 7, 0, 82, 0),
  (82, .lconst 1, 0, 83, 0),
  (83, .lcmp, 0, 84, 0),
  (84, .ifCond .le 30, 0, 87, 114),
  (87, .lload 5, 0, 89, 0),
  (89, .lconst 1, 0, 90, 0),
  (90, .land, 0, 91, 0),
  (91, .lconst 0, 0, 92, 0),
  (92, .lcmp, 0, 93, 0),
  (93, .ifCond .ne 21, 0, 96, 114),
  (96, .lload 5, 0, 98, 0),
  (98, .iconst 1, 1, 99, 0),
  (99, .lshr, 0, 100, 0),
  (100, .lstore 5, 0, 102, 0),
  (102, .lload 7, 0, 104, 0),
  (104, .iconst 1, 1, 105, 0),
  (105, .lshr, 0, 106, 0),
  (106, .lstore 7, 0, 108, 0),
  (108, .iinc 9 1, 1, 111, 0),
  (111, .goto (-38), 0, 114, 73),
  (114, .iload 4, 0, 116, 0),
  (116, .ifCond .ne 8, 0, 119, 124),
  (119, .lload 5, 0, 121, 0),
  (121, .goto 5, 0, 124, 126),
  (124, .lload 7, 0, 126, 0),
  (126, .lreturn, 0, 127, 0)]
def am_lv_70 : List (Nat × List Nat) := [(41, []), (45, [0, 1, 2, 3, 4]), (73, [4, 5, 7, 9]), (114, [4, 5, 7]), (124, [7]), (126, [])]
/-- DeadLasts.shelves -/
def am_cd_71 : List am_T5 := [
  (0, .iload_n 2, 0, 1, 0),
  (1, .iconst 2, 2, 2, 0),
  (2, .invokestatic 121, 0, 5, 0),
  (5, .ifCond .ne 6, 0, 8, 11),
  (8, .bipush (-2), (-2), 10, 0),
  (10, .ireturn, 0, 11, 0),
  (11, .aload_n 0, 0, 12, 0),
  (12, .getfield 46, 0, 15, 0),
  (15, .iconst (-1), (-1), 16, 0),
  (16, .iconst (-1), (-1), 17, 0),
  (17, .invokevirtual 190, 0, 20, 0),
  (20, .istore_n 3, 0, 21, 0),
  (21, .iload_n 1, 0, 22, 0),
  (22, .istore 4, 0, 24, 0),
  (24, .iconst 0, 0, 25, 0),
  (25, .istore 5, 0, 27, 0),
  (27, .iconst 0, 0, 28, 0),
  (28, .istore 6, 0, 30, 0),
  (30, .iload 6, 0, 32, 0),
  (32, .aload_n 0, 0, 33, 0),
  (33, .getfield 39, 0, 36, 0),
  (36, .getfield 146, 0, 39, 0),
  (39, .if_icmp .ge 114, 0, 42, 153),
  (42, .aload_n 0, 0, 43, 0),
  (43, .getfield 80, 0, 46, 0),
  (46, .aload_n 0, 0, 47, 0),
  (47, .getfield 39, 0, 50, 0),
  (50, .iload 6, 0, 52, 0),
  (52, .invokevirtual 193, 0, 55, 0),
  (55, .aload_n 0, 0, 56, 0),
  (56, .getfield 32, 0, 59, 0),
  (59, .getfield 139, 0, 62, 0),
  (62, .ifCond .le 57, 0, 65, 119),
  (65, .iload 4, 0, 67, 0),
  (67, .invokestatic 247, 0, 70, 0),
  (70, .istore 4, 0, 72, 0),
  (72, .aload_n 0, 0, 73, 0),
  (73, .getfield 80, 0, 76, 0),
  (76, .iload 4, 0, 78, 0),
  (78, .bipush 16, 16, 80, 0),
  (80, .iushr, 0, 81, 0),
  (81, .aload_n 0, 0, 82, 0),
  (82, .getfield 32, 0, 85, 0),
  (85, .getfield 139, 0, 88, 0),
  (88, .irem, 0, 89, 0),
  (89, .putfield 209, 0, 92, 0),
  (92, .iload 4, 0, 94, 0),
  (94, .invokestatic 247, 0, 97, 0),
  (97, .istore 4, 0, 99, 0),
  (99, .aload_n 0, 0, 100, 0),
  (100, .getfield 80, 0, 103, 0),
  (103, .iload 4, 0, 105, 0),
  (105, .bipush 16, 16, 107, 0),
  (107, .iushr, 0, 108, 0),
  (108, .aload_n 0, 0, 109, 0),
  (109, .getfield 32, 0, 112, 0),
  (112, .getfield 139, 0, 115, 0),
  (115, .irem, 0, 116, 0),
  (116, .putfield 212, 0, 119, 0),
  (119, .aload_n 0, 0, 120, 0),
  (120, .getfield 80, 0, 123, 0),
  (123, .iload_n 3, 0, 124, 0),
  (124, .bipush 30, 30, 126, 0),
  (126, .invokevirtual 200, 0, 129, 0),
  (129, .pop, 0, 130, 0),
  (130, .aload_n 0, 0, 131, 0),
  (131, .getfield 80, 0, 134, 0),
  (134, .getfield 203, 0, 137, 0),
  (137, .iload_n 2, 0, 138, 0),
  (138, .invokestatic 173, 0, 141, 0),
  (141, .if_icmp .ne 6, 0, 144, 147),
  (144, .iinc 5 1, 1, 147, 0),
  (147, .iinc 6 1, 1, 150, 0),
  (150, .goto (-120), 0, 153, 30),
  (153, .iload 5, 0, 155, 0),
  (155, .ireturn, 0, 156, 0)]
def am_lv_71 : List (Nat × List Nat) := [(11, [0, 1, 2]), (30, [0, 2, 3, 4, 5, 6]), (119, [0, 2, 3, 4, 5, 6]), (147, [0, 2, 3, 4, 5, 6]), (153, [5])]
/-- DeadLasts.sheet -/
def am_cd_72 : List am_T5 := [
  (0, .iload_n 1, 0, 1, 0),
  (1, .iconst 4, 4, 2, 0),
  (2, .invokestatic 121, 0, 5, 0),
  (5, .ifCond .eq 17, 0, 8, 22),
  (8, .iload_n 2, 0, 9, 0),
  (9, .iconst 3, 3, 10, 0),
  (10, .invokestatic 121, 0, 13, 0),
  (13, .ifCond .eq 9, 0, 16, 22),
  (16, .iload_n 3, 0, 17, 0),
  (17, .bipush 60, 60, 19, 0),
  (19, .if_icmp .le 6, 0, 22, 25),
  (22, .bipush (-2), (-2), 24, 0),
  (24, .ireturn, 0, 25, 0),
  (25, .iload_n 3, 0, 26, 0),
  (26, .ifCond .ge 9, 0, 29, 35),
  (29, .aload_n 0, 0, 30, 0),
  (30, .iconst 5, 5, 31, 0),
  (31, .invokevirtual 159, 0, 34, 0),
  (34, .ireturn, 0, 35, 0),
  (35, .aload_n 0, 0, 36, 0),
  (36, .getfield 59, 0, 39, 0),
  (39, .iload_n 1, 0, 40, 0),
  (40, .aaload, 0, 41, 0),
  (41, .iload_n 2, 0, 42, 0),
  (42, .iload_n 3, 0, 43, 0),
  (43, .invokevirtual 250, 0, 46, 0),
  (46, .iload_n 3, 0, 47, 0),
  (47, .ireturn, 0, 48, 0)]
def am_lv_72 : List (Nat × List Nat) := [(22, []), (25, [0, 1, 2, 3]), (35, [0, 1, 2, 3])]
/-- DeadLasts.lose -/
def am_cd_73 : List am_T5 := [
  (0, .iload_n 1, 0, 1, 0),
  (1, .iconst 4, 4, 2, 0),
  (2, .invokestatic 121, 0, 5, 0),
  (5, .ifCond .ne 6, 0, 8, 11),
  (8, .bipush (-2), (-2), 10, 0),
  (10, .ireturn, 0, 11, 0),
  (11, .aload_n 0, 0, 12, 0),
  (12, .getfield 59, 0, 15, 0),
  (15, .iload_n 1, 0, 16, 0),
  (16, .aaload, 0, 17, 0),
  (17, .invokevirtual 155, 0, 20, 0),
  (20, .ifCond .eq 9, 0, 23, 29),
  (23, .aload_n 0, 0, 24, 0),
  (24, .iconst 1, 1, 25, 0),
  (25, .invokevirtual 159, 0, 28, 0),
  (28, .ireturn, 0, 29, 0),
  (29, .aload_n 0, 0, 30, 0),
  (30, .getfield 59, 0, 33, 0),
  (33, .iload_n 1, 0, 34, 0),
  (34, .aaload, 0, 35, 0),
  (35, .getfield 162, 0, 38, 0),
  (38, .istore_n 2, 0, 39, 0),
  (39, .aload_n 0, 0, 40, 0),
  (40, .getfield 59, 0, 43, 0),
  (43, .iload_n 1, 0, 44, 0),
  (44, .aaload, 0, 45, 0),
  (45, .iconst (-1), (-1), 46, 0),
  (46, .putfield 162, 0, 49, 0),
  (49, .iload_n 2, 0, 50, 0),
  (50, .ireturn, 0, 51, 0)]
def am_lv_73 : List (Nat × List Nat) := [(11, [0, 1]), (29, [0, 1])]
/-- DeadLasts.lay -/
def am_cd_74 : List am_T5 := [
  (0, .iload_n 1, 0, 1, 0),
  (1, .iconst 4, 4, 2, 0),
  (2, .invokestatic 121, 0, 5, 0),
  (5, .ifCond .eq 11, 0, 8, 16),
  (8, .iload_n 2, 0, 9, 0),
  (9, .iconst 3, 3, 10, 0),
  (10, .invokestatic 121, 0, 13, 0),
  (13, .ifCond .ne 6, 0, 16, 19),
  (16, .bipush (-2), (-2), 18, 0),
  (18, .ireturn, 0, 19, 0),
  (19, .aload_n 0, 0, 20, 0),
  (20, .getfield 59, 0, 23, 0),
  (23, .iload_n 1, 0, 24, 0),
  (24, .aaload, 0, 25, 0),
  (25, .iload_n 2, 0, 26, 0),
  (26, .iload_n 3, 0, 27, 0),
  (27, .invokevirtual 253, 0, 30, 0),
  (30, .istore 5, 0, 32, 0),
  (32, .iload 5, 0, 34, 0),
  (34, .ifCond .eq 10, 0, 37, 44),
  (37, .aload_n 0, 0, 38, 0),
  (38, .iload 5, 0, 40, 0),
  (40, .invokevirtual 159, 0, 43, 0),
  (43, .ireturn, 0, 44, 0),
  (44, .aload_n 0, 0, 45, 0),
  (45, .getfield 59, 0, 48, 0),
  (48, .iload_n 1, 0, 49, 0),
  (49, .aaload, 0, 50, 0),
  (50, .iload_n 3, 0, 51, 0),
  (51, .iload 4, 0, 53, 0),
  (53, .invokevirtual 256, 0, 56, 0),
  (56, .iconst 1, 1, 57, 0),
  (57, .ireturn, 0, 58, 0)]
def am_lv_74 : List (Nat × List Nat) := [(16, []), (19, [0, 1, 2, 3, 4]), (44, [0, 1, 3, 4])]
/-- DeadLasts.get -/
def am_cd_75 : List am_T5 := [
  (0, .iload_n 1, 0, 1, 0),
  (1, .iconst 4, 4, 2, 0),
  (2, .invokestatic 121, 0, 5, 0),
  (5, .ifCond .eq 11, 0, 8, 16),
  (8, .iload_n 2, 0, 9, 0),
  (9, .iconst 3, 3, 10, 0),
  (10, .invokestatic 121, 0, 13, 0),
  (13, .ifCond .ne 7, 0, 16, 20),
  (16, .ldc_w 261, (-2147483648), 19, 0),
  (19, .ireturn, 0, 20, 0),
  (20, .aload_n 0, 0, 21, 0),
  (21, .getfield 59, 0, 24, 0),
  (24, .iload_n 1, 0, 25, 0),
  (25, .aaload, 0, 26, 0),
  (26, .iload_n 2, 0, 27, 0),
  (27, .iload_n 3, 0, 28, 0),
  (28, .invokevirtual 253, 0, 31, 0),
  (31, .istore 4, 0, 33, 0),
  (33, .iload 4, 0, 35, 0),
  (35, .ifCond .eq 13, 0, 38, 48),
  (38, .aload_n 0, 0, 39, 0),
  (39, .iload 4, 0, 41, 0),
  (41, .putfield 107, 0, 44, 0),
  (44, .ldc_w 261, (-2147483648), 47, 0),
  (47, .ireturn, 0, 48, 0),
  (48, .aload_n 0, 0, 49, 0),
  (49, .getfield 59, 0, 52, 0),
  (52, .iload_n 1, 0, 53, 0),
  (53, .aaload, 0, 54, 0),
  (54, .getfield 163, 0, 57, 0),
  (57, .iload_n 3, 0, 58, 0),
  (58, .iaload, 0, 59, 0),
  (59, .ireturn, 0, 60, 0)]
def am_lv_75 : List (Nat × List Nat) := [(16, []), (20, [0, 1, 2, 3]), (48, [0, 1, 3])]
/-- DeadLasts.copy -/
def am_cd_76 : List am_T5 := [
  (0, .iload_n 1, 0, 1, 0),
  (1, .iconst 4, 4, 2, 0),
  (2, .invokestatic 121, 0, 5, 0),
  (5, .ifCond .eq 11, 0, 8, 16),
  (8, .iload_n 3, 0, 9, 0),
  (9, .iconst 4, 4, 10, 0),
  (10, .invokestatic 121, 0, 13, 0),
  (13, .ifCond .ne 6, 0, 16, 19),
  (16, .bipush (-2), (-2), 18, 0),
  (18, .ireturn, 0, 19, 0),
  (19, .aload_n 0, 0, 20, 0),
  (20, .getfield 59, 0, 23, 0),
  (23, .iload_n 1, 0, 24, 0),
  (24, .aaload, 0, 25, 0),
  (25, .astore 6, 0, 27, 0),
  (27, .aload_n 0, 0, 28, 0),
  (28, .getfield 59, 0, 31, 0),
  (31, .iload_n 3, 0, 32, 0),
  (32, .aaload, 0, 33, 0),
  (33, .astore 7, 0, 35, 0),
  (35, .aload 6, 0, 37, 0),
  (37, .invokevirtual 155, 0, 40, 0),
  (40, .ifCond .ne 11, 0, 43, 51),
  (43, .aload 7, 0, 45, 0),
  (45, .invokevirtual 155, 0, 48, 0),
  (48, .ifCond .eq 9, 0, 51, 57),
  (51, .aload_n 0, 0, 52, 0),
  (52, .iconst 1, 1, 53, 0),
  (53, .invokevirtual 159, 0, 56, 0),
  (56, .ireturn, 0, 57, 0),
  (57, .aload 6, 0, 59, 0),
  (59, .getfield 262, 0, 62, 0),
  (62, .aload 7, 0, 64, 0),
  (64, .getfield 262, 0, 67, 0),
  (67, .if_icmp .eq 9, 0, 70, 76),
  (70, .aload_n 0, 0, 71, 0),
  (71, .iconst 4, 4, 72, 0),
  (72, .invokevirtual 159, 0, 75, 0),
  (75, .ireturn, 0, 76, 0),
  (76, .aload 6, 0, 78, 0),
  (78, .iload_n 2, 0, 79, 0),
  (79, .iload 5, 0, 81, 0),
  (81, .invokevirtual 265, 0, 84, 0),
  (84, .ifCond .eq 15, 0, 87, 99),
  (87, .aload 7, 0, 89, 0),
  (89, .iload 4, 0, 91, 0),
  (91, .iload 5, 0, 93, 0),
  (93, .invokevirtual 265, 0, 96, 0),
  (96, .ifCond .ne 9, 0, 99, 105),
  (99, .aload_n 0, 0, 100, 0),
  (100, .iconst 2, 2, 101, 0),
  (101, .invokevirtual 159, 0, 104, 0),
  (104, .ireturn, 0, 105, 0),
  (105, .aload 6, 0, 107, 0),
  (107, .getfield 163, 0, 110, 0),
  (110, .iload_n 2, 0, 111, 0),
  (111, .aload 7, 0, 113, 0),
  (113, .getfield 163, 0, 116, 0),
  (116, .iload 4, 0, 118, 0),
  (118, .iload 5, 0, 120, 0),
  (120, .invokestatic 268, 0, 123, 0),
  (123, .iconst 1, 1, 124, 0),
  (124, .ireturn, 0, 125, 0)]
def am_lv_76 : List (Nat × List Nat) := [(16, []), (19, [0, 1, 2, 3, 4, 5]), (51, [0]), (57, [0, 2, 4, 5, 6, 7]), (76, [0, 2, 4, 5, 6, 7]), (99, [0]), (105, [2, 4, 5, 6, 7])]
/-- DeadLasts.write -/
def am_cd_77 : List am_T5 := [
  (0, .iload_n 1, 0, 1, 0),
  (1, .aload_n 0, 0, 2, 0),
  (2, .getfield 39, 0, 5, 0),
  (5, .getfield 146, 0, 8, 0),
  (8, .invokestatic 121, 0, 11, 0),
  (11, .ifCond .eq 11, 0, 14, 22),
  (14, .iload_n 2, 0, 15, 0),
  (15, .iconst 4, 4, 16, 0),
  (16, .invokestatic 121, 0, 19, 0),
  (19, .ifCond .ne 6, 0, 22, 25),
  (22, .bipush (-2), (-2), 24, 0),
  (24, .ireturn, 0, 25, 0),
  (25, .aload_n 0, 0, 26, 0),
  (26, .getfield 59, 0, 29, 0),
  (29, .iload_n 2, 0, 30, 0),
  (30, .aaload, 0, 31, 0),
  (31, .astore_n 3, 0, 32, 0),
  (32, .aload_n 3, 0, 33, 0),
  (33, .invokevirtual 155, 0, 36, 0),
  (36, .ifCond .eq 9, 0, 39, 45),
  (39, .aload_n 0, 0, 40, 0),
  (40, .iconst 1, 1, 41, 0),
  (41, .invokevirtual 159, 0, 44, 0),
  (44, .ireturn, 0, 45, 0),
  (45, .aload_n 0, 0, 46, 0),
  (46, .invokevirtual 166, 0, 49, 0),
  (49, .aload_n 3, 0, 50, 0),
  (50, .getfield 162, 0, 53, 0),
  (53, .bipush 30, 30, 55, 0),
  (55, .invokestatic 274, 0, 58, 0),
  (58, .istore 4, 0, 60, 0),
  (60, .iconst 0, 0, 61, 0),
  (61, .istore 5, 0, 63, 0),
  (63, .iload 5, 0, 65, 0),
  (65, .iload 4, 0, 67, 0),
  (67, .if_icmp .ge 27, 0, 70, 94),
  (70, .aload_n 3, 0, 71, 0),
  (71, .iload 5, 0, 73, 0),
  (73, .aload_n 0, 0, 74, 0),
  (74, .getfield 66, 0, 77, 0),
  (77, .iload_n 1, 0, 78, 0),
  (78, .aaload, 0, 79, 0),
  (79, .iload 5, 0, 81, 0),
  (81, .iconst 0, 0, 82, 0),
  (82, .invokevirtual 169, 0, 85, 0),
  (85, .invokevirtual 256, 0, 88, 0),
  (88, .iinc 5 1, 1, 91, 0),
  (91, .goto (-28), 0, 94, 63),
  (94, .iload 4, 0, 96, 0),
  (96, .ireturn, 0, 97, 0)]
def am_lv_77 : List (Nat × List Nat) := [(22, []), (25, [0, 1, 2]), (45, [0, 1, 3]), (63, [0, 1, 3, 4, 5]), (94, [4])]
/-- DeadLasts.count -/
def am_cd_78 : List am_T5 := [
  (0, .iload_n 1, 0, 1, 0),
  (1, .tableswitch 108 0 8 #[51, 59, 67, 75, 75, 75, 87, 95, 103], 0, 52, 0),
  (52, .aload_n 0, 0, 53, 0),
  (53, .getfield 25, 0, 56, 0),
  (56, .getfield 279, 0, 59, 0),
  (59, .ireturn, 0, 60, 0),
  (60, .aload_n 0, 0, 61, 0),
  (61, .getfield 32, 0, 64, 0),
  (64, .getfield 139, 0, 67, 0),
  (67, .ireturn, 0, 68, 0),
  (68, .aload_n 0, 0, 69, 0),
  (69, .getfield 39, 0, 72, 0),
  (72, .getfield 146, 0, 75, 0),
  (75, .ireturn, 0, 76, 0),
  (76, .aload_n 0, 0, 77, 0),
  (77, .getfield 14, 0, 80, 0),
  (80, .iload_n 1, 0, 81, 0),
  (81, .iconst 3, 3, 82, 0),
  (82, .isub, 0, 83, 0),
  (83, .aaload, 0, 84, 0),
  (84, .getfield 132, 0, 87, 0),
  (87, .ireturn, 0, 88, 0),
  (88, .aload_n 0, 0, 89, 0),
  (89, .getfield 46, 0, 92, 0),
  (92, .getfield 154, 0, 95, 0),
  (95, .ireturn, 0, 96, 0),
  (96, .aload_n 0, 0, 97, 0),
  (97, .getfield 53, 0, 100, 0),
  (100, .getfield 229, 0, 103, 0),
  (103, .ireturn, 0, 104, 0),
  (104, .aload_n 0, 0, 105, 0),
  (105, .getfield 107, 0, 108, 0),
  (108, .ireturn, 0, 109, 0),
  (109, .bipush (-2), (-2), 111, 0),
  (111, .ireturn, 0, 112, 0)]
def am_lv_78 : List (Nat × List Nat) := [(60, [0]), (68, [0]), (76, [0, 1]), (88, [0]), (96, [0]), (104, [0]), (109, [])]
/-- DeadLasts.digest -/
def am_cd_79 : List am_T5 := [
  (0, .ldc2_w 280, 0, 3, 0),
  (3, .lstore_n 1, 0, 4, 0),
  (4, .iconst 0, 0, 5, 0),
  (5, .istore_n 3, 0, 6, 0),
  (6, .iload_n 3, 0, 7, 0),
  (7, .bipush 8, 8, 9, 0),
  (9, .if_icmp .ge 20, 0, 12, 29),
  (12, .lload_n 1, 0, 13, 0),
  (13, .aload_n 0, 0, 14, 0),
  (14, .iload_n 3, 0, 15, 0),
  (15, .invokevirtual 282, 0, 18, 0),
  (18, .i2l, 0, 19, 0),
  (19, .invokestatic 285, 0, 22, 0),
  (22, .lstore_n 1, 0, 23, 0),
  (23, .iinc 3 1, 1, 26, 0),
  (26, .goto (-20), 0, 29, 6),
  (29, .iconst 0, 0, 30, 0),
  (30, .istore_n 3, 0, 31, 0),
  (31, .iload_n 3, 0, 32, 0),
  (32, .iconst 3, 3, 33, 0),
  (33, .if_icmp .ge 20, 0, 36, 53),
  (36, .lload_n 1, 0, 37, 0),
  (37, .aload_n 0, 0, 38, 0),
  (38, .iload_n 3, 0, 39, 0),
  (39, .invokevirtual 289, 0, 42, 0),
  (42, .i2l, 0, 43, 0),
  (43, .invokestatic 285, 0, 46, 0),
  (46, .lstore_n 1, 0, 47, 0),
  (47, .iinc 3 1, 1, 50, 0),
  (50, .goto (-19), 0, 53, 31),
  (53, .iconst 0, 0, 54, 0),
  (54, .istore_n 3, 0, 55, 0),
  (55, .iload_n 3, 0, 56, 0),
  (56, .aload_n 0, 0, 57, 0),
  (57, .getfield 25, 0, 60, 0),
  (60, .getfield 279, 0, 63, 0),
  (63, .if_icmp .ge 20, 0, 66, 83),
  (66, .lload_n 1, 0, 67, 0),
  (67, .aload_n 0, 0, 68, 0),
  (68, .iload_n 3, 0, 69, 0),
  (69, .invokevirtual 292, 0, 72, 0),
  (72, .i2l, 0, 73, 0),
  (73, .invokestatic 285, 0, 76, 0),
  (76, .lstore_n 1, 0, 77, 0),
  (77, .iinc 3 1, 1, 80, 0),
  (80, .goto (-25), 0, 83, 55),
  (83, .iconst 0, 0, 84, 0),
  (84, .istore_n 3, 0, 85, 0),
  (85, .iload_n 3, 0, 86, 0),
  (86, .aload_n 0, 0, 87, 0),
  (87, .getfield 32, 0, 90, 0),
  (90, .getfield 139, 0, 93, 0),
  (93, .if_icmp .ge 16, 0, 96, 109),
  (96, .aload_n 0, 0, 97, 0),
  (97, .lload_n 1, 0, 98, 0),
  (98, .iload_n 3, 0, 99, 0),
  (99, .invokevirtual 295, 0, 102, 0),
  (102, .lstore_n 1, 0, 103, 0),
  (103, .iinc 3 1, 1, 106, 0),
  (106, .goto (-21), 0, 109, 85),
  (109, .iconst 0, 0, 110, 0),
  (110, .istore_n 3, 0, 111, 0),
  (111, .iload_n 3, 0, 112, 0),
  (112, .aload_n 0, 0, 113, 0),
  (113, .getfield 39, 0, 116, 0),
  (116, .getfield 146, 0, 119, 0),
  (119, .if_icmp .ge 23, 0, 122, 142),
  (122, .aload_n 0, 0, 123, 0),
  (123, .lload_n 1, 0, 124, 0),
  (124, .iload_n 3, 0, 125, 0),
  (125, .invokevirtual 299, 0, 128, 0),
  (128, .lstore_n 1, 0, 129, 0),
  (129, .aload_n 0, 0, 130, 0),
  (130, .lload_n 1, 0, 131, 0),
  (131, .iload_n 3, 0, 132, 0),
  (132, .invokevirtual 302, 0, 135, 0),
  (135, .lstore_n 1, 0, 136, 0),
  (136, .iinc 3 1, 1, 139, 0),
  (139, .goto (-28), 0, 142, 111),
  (142, .lload_n 1, 0, 143, 0),
  (143, .aload_n 0, 0, 144, 0),
  (144, .iconst 0, 0, 145, 0),
  (145, .invokevirtual 305, 0, 148, 0),
  (148, .i2l, 0, 149, 0),
  (149, .invokestatic 285, 0, 152, 0),
  (152, .aload_n 0, 0, 153, 0),
  (153, .iconst 1, 1, 154, 0),
  (154, .invokevirtual 305, 0, 157, 0),
  (157, .i2l, 0, 158, 0),
  (158, .invokestatic 285, 0, 161, 0),
  (161, .lstore_n 1, 0, 162, 0),
  (162, .iconst 0, 0, 163, 0),
  (163, .istore_n 3, 0, 164, 0),
  (164, .iload_n 3, 0, 165, 0),
  (165, .iconst 3, 3, 166, 0),
  (166, .if_icmp .ge 20, 0, 169, 186),
  (169, .lload_n 1, 0, 170, 0),
  (170, .aload_n 0, 0, 171, 0),
  (171, .iload_n 3, 0, 172, 0),
  (172, .invokevirtual 308, 0, 175, 0),
  (175, .i2l, 0, 176, 0),
  (176, .invokestatic 285, 0, 179, 0),
  (179, .lstore_n 1, 0, 180, 0),
  (180, .iinc 3 1, 1, 183, 0),
  (183, .goto (-19), 0, 186, 164),
  (186, .lload_n 1, 0, 187, 0),
  (187, .aload_n 0, 0, 188, 0),
  (188, .invokevirtual 311, 0, 191, 0),
  (191, .i2l, 0, 192, 0),
  (192, .invokestatic 285, 0, 195, 0),
  (195, .aload_n 0, 0, 196, 0),
  (196, .invokevirtual 314, 0, 199, 0),
  (199, .i2l, 0, 200, 0),
  (200, .invokestatic 285, 0, 203, 0),
  (203, .lstore_n 1, 0, 204, 0),
  (204, .lload_n 1, 0, 205, 0),
  (205, .aload_n 0, 0, 206, 0),
  (206, .iconst (-1), (-1), 207, 0),
  (207, .invokevirtual 317, 0, 210, 0),
  (210, .i2l, 0, 211, 0),
  (211, .invokestatic 285, 0, 214, 0),
  (214, .aload_n 0, 0, 215, 0),
  (215, .iconst 0, 0, 216, 0),
  (216, .invokevirtual 317, 0, 219, 0),
  (219, .i2l, 0, 220, 0),
  (220, .invokestatic 285, 0, 223, 0),
  (223, .lstore_n 1, 0, 224, 0),
  (224, .lload_n 1, 0, 225, 0),
  (225, .aload_n 0, 0, 226, 0),
  (226, .invokevirtual 320, 0, 229, 0),
  (229, .i2l, 0, 230, 0),
  (230, .invokestatic 285, 0, 233, 0),
  (233, .lstore_n 1, 0, 234, 0),
  (234, .lload_n 1, 0, 235, 0),
  (235, .aload_n 0, 0, 236, 0),
  (236, .bipush 7, 7, 238, 0),
  (238, .iconst 0, 0, 239, 0),
  (239, .invokevirtual 323, 0, 242, 0),
  (242, .i2l, 0, 243, 0),
  (243, .invokestatic 285, 0, 246, 0),
  (246, .aload_n 0, 0, 247, 0),
  (247, .bipush 7, 7, 249, 0),
  (249, .iconst 1, 1, 250, 0),
  (250, .invokevirtual 323, 0, 253, 0),
  (253, .i2l, 0, 254, 0),
  (254, .invokestatic 285, 0, 257, 0),
  (257, .lreturn, 0, 258, 0)]
def am_lv_79 : List (Nat × List Nat) := [(6, [0, 1, 3]), (29, [0, 1]), (31, [0, 1, 3]), (53, [0, 1]), (55, [0, 1, 3]), (83, [0, 1]), (85, [0, 1, 3]), (109, [0, 1]), (111, [0, 1, 3]), (142, [0, 1]), (164, [0, 1, 3]), (186, [0, 1])]
/-- DeadLasts.isWithin -/
def am_cd_80 : List am_T5 := [
  (0, .iload_n 0, 0, 1, 0),
  (1, .ifCond .lt 12, 0, 4, 13),
  (4, .iload_n 0, 0, 5, 0),
  (5, .iload_n 1, 0, 6, 0),
  (6, .if_icmp .ge 7, 0, 9, 13),
  (9, .iconst 1, 1, 10, 0),
  (10, .goto 4, 0, 13, 14),
  (13, .iconst 0, 0, 14, 0),
  (14, .ireturn, 0, 15, 0)]
def am_lv_80 : List (Nat × List Nat) := [(13, []), (14, [])]
/-- DeadLasts.isBitOf -/
def am_cd_81 : List am_T5 := [
  (0, .iload_n 0, 0, 1, 0),
  (1, .iload_n 1, 0, 2, 0),
  (2, .ishr, 0, 3, 0),
  (3, .iconst 1, 1, 4, 0),
  (4, .iand, 0, 5, 0),
  (5, .ifCond .eq 7, 0, 8, 12),
  (8, .iconst 1, 1, 9, 0),
  (9, .goto 4, 0, 12, 13),
  (12, .iconst 0, 0, 13, 0),
  (13, .ireturn, 0, 14, 0)]
def am_lv_81 : List (Nat × List Nat) := [(12, []), (13, [])]
/-- DeadLasts.refusal -/
def am_cd_82 : List am_T5 := [
  (0, .aload_n 0, 0, 1, 0),
  (1, .iload_n 1, 0, 2, 0),
  (2, .putfield 107, 0, 5, 0),
  (5, .bipush (-10), (-10), 7, 0),
  (7, .iload_n 1, 0, 8, 0),
  (8, .isub, 0, 9, 0),
  (9, .ireturn, 0, 10, 0)]
def am_lv_82 : List (Nat × List Nat) := []
/-- DeadLasts.endState -/
def am_cd_83 : List am_T5 := [
  (0, .iload_n 0, 0, 1, 0),
  (1, .ifCond .ne 7, 0, 4, 8),
  (4, .iconst 1, 1, 5, 0),
  (5, .goto 4, 0, 8, 9),
  (8, .iconst 2, 2, 9, 0),
  (9, .ireturn, 0, 10, 0)]
def am_lv_83 : List (Nat × List Nat) := [(8, []), (9, [])]
/-- DeadLasts.nextSeed -/
def am_cd_84 : List am_T5 := [
  (0, .ldc_w 326, 1103515245, 3, 0),
  (3, .iload_n 0, 0, 4, 0),
  (4, .imul, 0, 5, 0),
  (5, .sipush 12345, 12345, 8, 0),
  (8, .iadd, 0, 9, 0),
  (9, .ireturn, 0, 10, 0)]
def am_lv_84 : List (Nat × List Nat) := []
/-- DeadLasts.reload -/
def am_cd_85 : List am_T5 := [
  (0, .iload_n 1, 0, 1, 0),
  (1, .ifCond .ne 25, 0, 4, 26),
  (4, .aload_n 0, 0, 5, 0),
  (5, .getfield 18, 0, 8, 0),
  (8, .iconst 0, 0, 9, 0),
  (9, .aload_n 0, 0, 10, 0),
  (10, .getfield 25, 0, 13, 0),
  (13, .aload_n 0, 0, 14, 0),
  (14, .getfield 14, 0, 17, 0),
  (17, .iconst 0, 0, 18, 0),
  (18, .aaload, 0, 19, 0),
  (19, .invokevirtual 327, 0, 22, 0),
  (22, .iastore, 0, 23, 0),
  (23, .goto 49, 0, 26, 72),
  (26, .iload_n 1, 0, 27, 0),
  (27, .iconst 1, 1, 28, 0),
  (28, .if_icmp .ne 25, 0, 31, 53),
  (31, .aload_n 0, 0, 32, 0),
  (32, .getfield 18, 0, 35, 0),
  (35, .iconst 1, 1, 36, 0),
  (36, .aload_n 0, 0, 37, 0),
  (37, .getfield 32, 0, 40, 0),
  (40, .aload_n 0, 0, 41, 0),
  (41, .getfield 14, 0, 44, 0),
  (44, .iconst 1, 1, 45, 0),
  (45, .aaload, 0, 46, 0),
  (46, .invokevirtual 331, 0, 49, 0),
  (49, .iastore, 0, 50, 0),
  (50, .goto 22, 0, 53, 72),
  (53, .aload_n 0, 0, 54, 0),
  (54, .getfield 18, 0, 57, 0),
  (57, .iconst 2, 2, 58, 0),
  (58, .aload_n 0, 0, 59, 0),
  (59, .getfield 39, 0, 62, 0),
  (62, .aload_n 0, 0, 63, 0),
  (63, .getfield 14, 0, 66, 0),
  (66, .iconst 2, 2, 67, 0),
  (67, .aaload, 0, 68, 0),
  (68, .invokevirtual 332, 0, 71, 0),
  (71, .iastore, 0, 72, 0),
  (72, .aload_n 0, 0, 73, 0),
  (73, .invokevirtual 151, 0, 76, 0),
  (76, .return_, 0, 77, 0)]
def am_lv_85 : List (Nat × List Nat) := [(26, [0, 1]), (53, [0]), (72, [0])]
/-- DeadLasts.outdate -/
def am_cd_86 : List am_T5 := [
  (0, .aload_n 0, 0, 1, 0),
  (1, .iconst 1, 1, 2, 0),
  (2, .putfield 111, 0, 5, 0),
  (5, .aload_n 0, 0, 6, 0),
  (6, .iconst (-1), (-1), 7, 0),
  (7, .putfield 115, 0, 10, 0),
  (10, .aload_n 0, 0, 11, 0),
  (11, .bipush (-2), (-2), 13, 0),
  (13, .putfield 118, 0, 16, 0),
  (16, .aload_n 0, 0, 17, 0),
  (17, .getfield 87, 0, 20, 0),
  (20, .iconst (-1), (-1), 21, 0),
  (21, .putfield 333, 0, 24, 0),
  (24, .return_, 0, 25, 0)]
def am_lv_86 : List (Nat × List Nat) := []
/-- DeadLasts.retrace -/
def am_cd_87 : List am_T5 := [
  (0, .aload_n 0, 0, 1, 0),
  (1, .getfield 111, 0, 4, 0),
  (4, .ifCond .ne 4, 0, 7, 8),
  (7, .return_, 0, 8, 0),
  (8, .aload_n 0, 0, 9, 0),
  (9, .getfield 46, 0, 12, 0),
  (12, .iconst (-1), (-1), 13, 0),
  (13, .iconst (-1), (-1), 14, 0),
  (14, .invokevirtual 190, 0, 17, 0),
  (17, .istore_n 1, 0, 18, 0),
  (18, .iconst 0, 0, 19, 0),
  (19, .istore_n 2, 0, 20, 0),
  (20, .iload_n 2, 0, 21, 0),
  (21, .aload_n 0, 0, 22, 0),
  (22, .getfield 39, 0, 25, 0),
  (25, .getfield 146, 0, 28, 0),
  (28, .if_icmp .ge 35, 0, 31, 63),
  (31, .aload_n 0, 0, 32, 0),
  (32, .getfield 80, 0, 35, 0),
  (35, .aload_n 0, 0, 36, 0),
  (36, .getfield 39, 0, 39, 0),
  (39, .iload_n 2, 0, 40, 0),
  (40, .invokevirtual 193, 0, 43, 0),
  (43, .aload_n 0, 0, 44, 0),
  (44, .getfield 66, 0, 47, 0),
  (47, .iload_n 2, 0, 48, 0),
  (48, .aaload, 0, 49, 0),
  (49, .aload_n 0, 0, 50, 0),
  (50, .getfield 80, 0, 53, 0),
  (53, .iload_n 1, 0, 54, 0),
  (54, .invokevirtual 336, 0, 57, 0),
  (57, .iinc 2 1, 1, 60, 0),
  (60, .goto (-40), 0, 63, 20),
  (63, .aload_n 0, 0, 64, 0),
  (64, .iconst 0, 0, 65, 0),
  (65, .putfield 111, 0, 68, 0),
  (68, .return_, 0, 69, 0)]
def am_lv_87 : List (Nat × List Nat) := [(8, [0]), (20, [0, 1, 2]), (63, [0])]
/-- DeadLasts.metBy -/
def am_cd_88 : List am_T5 := [
  (0, .aload_n 0, 0, 1, 0),
  (1, .getfield 66, 0, 4, 0),
  (4, .iload_n 2, 0, 5, 0),
  (5, .aaload, 0, 6, 0),
  (6, .iload_n 1, 0, 7, 0),
  (7, .iconst 1, 1, 8, 0),
  (8, .invokevirtual 169, 0, 11, 0),
  (11, .ifCond .eq 5, 0, 14, 16),
  (14, .iconst (-1), (-1), 15, 0),
  (15, .ireturn, 0, 16, 0),
  (16, .aload_n 0, 0, 17, 0),
  (17, .getfield 66, 0, 20, 0),
  (20, .iload_n 2, 0, 21, 0),
  (21, .aaload, 0, 22, 0),
  (22, .iload_n 1, 0, 23, 0),
  (23, .iconst 0, 0, 24, 0),
  (24, .invokevirtual 169, 0, 27, 0),
  (27, .istore_n 3, 0, 28, 0),
  (28, .iconst 0, 0, 29, 0),
  (29, .istore 4, 0, 31, 0),
  (31, .iload 4, 0, 33, 0),
  (33, .aload_n 0, 0, 34, 0),
  (34, .getfield 39, 0, 37, 0),
  (37, .getfield 146, 0, 40, 0),
  (40, .if_icmp .ge 49, 0, 43, 89),
  (43, .iload 4, 0, 45, 0),
  (45, .iload_n 2, 0, 46, 0),
  (46, .if_icmp .eq 37, 0, 49, 83),
  (49, .aload_n 0, 0, 50, 0),
  (50, .getfield 66, 0, 53, 0),
  (53, .iload 4, 0, 55, 0),
  (55, .aaload, 0, 56, 0),
  (56, .iload_n 1, 0, 57, 0),
  (57, .iconst 1, 1, 58, 0),
  (58, .invokevirtual 169, 0, 61, 0),
  (61, .ifCond .ne 22, 0, 64, 83),
  (64, .aload_n 0, 0, 65, 0),
  (65, .getfield 66, 0, 68, 0),
  (68, .iload 4, 0, 70, 0),
  (70, .aaload, 0, 71, 0),
  (71, .iload_n 1, 0, 72, 0),
  (72, .iconst 0, 0, 73, 0),
  (73, .invokevirtual 169, 0, 76, 0),
  (76, .iload_n 3, 0, 77, 0),
  (77, .if_icmp .ne 6, 0, 80, 83),
  (80, .iload 4, 0, 82, 0),
  (82, .ireturn, 0, 83, 0),
  (83, .iinc 4 1, 1, 86, 0),
  (86, .goto (-55), 0, 89, 31),
  (89, .iconst (-1), (-1), 90, 0),
  (90, .ireturn, 0, 91, 0)]
def am_lv_88 : List (Nat × List Nat) := [(16, [0, 1, 2]), (31, [0, 1, 2, 3, 4]), (83, [0, 1, 2, 3, 4]), (89, [])]
/-- DeadLasts.findPair -/
def am_cd_89 : List am_T5 := [
  (0, .aload_n 0, 0, 1, 0),
  (1, .getfield 46, 0, 4, 0),
  (4, .iconst (-1), (-1), 5, 0),
  (5, .iconst (-1), (-1), 6, 0),
  (6, .invokevirtual 190, 0, 9, 0),
  (9, .istore_n 2, 0, 10, 0),
  (10, .aload_n 0, 0, 11, 0),
  (11, .getfield 98, 0, 14, 0),
  (14, .iconst 0, 0, 15, 0),
  (15, .iconst (-1), (-1), 16, 0),
  (16, .iastore, 0, 17, 0),
  (17, .aload_n 0, 0, 18, 0),
  (18, .getfield 98, 0, 21, 0),
  (21, .iconst 1, 1, 22, 0),
  (22, .iconst (-1), (-1), 23, 0),
  (23, .iastore, 0, 24, 0),
  (24, .aload_n 0, 0, 25, 0),
  (25, .getfield 98, 0, 28, 0),
  (28, .iconst 2, 2, 29, 0),
  (29, .iconst (-1), (-1), 30, 0),
  (30, .iastore, 0, 31, 0),
  (31, .bipush 30, 30, 33, 0),
  (33, .istore_n 3, 0, 34, 0),
  (34, .iconst 0, 0, 35, 0),
  (35, .istore 4, 0, 37, 0),
  (37, .iload 4, 0, 39, 0),
  (39, .aload_n 0, 0, 40, 0),
  (40, .getfield 32, 0, 43, 0),
  (43, .getfield 139, 0, 46, 0),
  (46, .if_icmp .ge 115, 0, 49, 161),
  (49, .iconst 0, 0, 50, 0),
  (50, .istore 5, 0, 52, 0),
  (52, .iload 5, 0, 54, 0),
  (54, .aload_n 0, 0, 55, 0),
  (55, .getfield 32, 0, 58, 0),
  (58, .getfield 139, 0, 61, 0),
  (61, .if_icmp .ge 94, 0, 64, 155),
  (64, .aload_n 0, 0, 65, 0),
  (65, .getfield 80, 0, 68, 0),
  (68, .aload_n 0, 0, 69, 0),
  (69, .getfield 39, 0, 72, 0),
  (72, .iload_n 1, 0, 73, 0),
  (73, .invokevirtual 193, 0, 76, 0),
  (76, .aload_n 0, 0, 77, 0),
  (77, .getfield 80, 0, 80, 0),
  (80, .iload 4, 0, 82, 0),
  (82, .putfield 209, 0, 85, 0),
  (85, .aload_n 0, 0, 86, 0),
  (86, .getfield 80, 0, 89, 0),
  (89, .iload 5, 0, 91, 0),
  (91, .putfield 212, 0, 94, 0),
  (94, .aload_n 0, 0, 95, 0),
  (95, .getfield 80, 0, 98, 0),
  (98, .iload_n 2, 0, 99, 0),
  (99, .iload_n 3, 0, 100, 0),
  (100, .invokevirtual 200, 0, 103, 0),
  (103, .istore 6, 0, 105, 0),
  (105, .aload_n 0, 0, 106, 0),
  (106, .getfield 80, 0, 109, 0),
  (109, .getfield 203, 0, 112, 0),
  (112, .iconst 1, 1, 113, 0),
  (113, .if_icmp .ne 36, 0, 116, 149),
  (116, .iload 6, 0, 118, 0),
  (118, .iload_n 3, 0, 119, 0),
  (119, .if_icmp .ge 30, 0, 122, 149),
  (122, .iload 6, 0, 124, 0),
  (124, .istore_n 3, 0, 125, 0),
  (125, .aload_n 0, 0, 126, 0),
  (126, .getfield 98, 0, 129, 0),
  (129, .iconst 0, 0, 130, 0),
  (130, .iload 4, 0, 132, 0),
  (132, .iastore, 0, 133, 0),
  (133, .aload_n 0, 0, 134, 0),
  (134, .getfield 98, 0, 137, 0),
  (137, .iconst 1, 1, 138, 0),
  (138, .iload 5, 0, 140, 0),
  (140, .iastore, 0, 141, 0),
  (141, .aload_n 0, 0, 142, 0),
  (142, .getfield 98, 0, 145, 0),
  (145, .iconst 2, 2, 146, 0),
  (146, .iload 6, 0, 148, 0),
  (148, .iastore, 0, 149, 0),
  (149, .iinc 5 1, 1, 152, 0),
  (152, .goto (-100), 0, 155, 52),
  (155, .iinc 4 1, 1, 158, 0),
  (158, .goto (-121), 0, 161, 37),
  (161, .return_, 0, 162, 0)]
def am_lv_89 : List (Nat × List Nat) := [(37, [0, 1, 2, 3, 4]), (52, [0, 1, 2, 3, 4, 5]), (149, [0, 1, 2, 3, 4, 5]), (155, [0, 1, 2, 3, 4]), (161, [])]
/-- DeadLasts.findDry -/
def am_cd_90 : List am_T5 := [
  (0, .aload_n 0, 0, 1, 0),
  (1, .iconst (-1), (-1), 2, 0),
  (2, .iconst (-1), (-1), 3, 0),
  (3, .invokevirtual 340, 0, 6, 0),
  (6, .ifCond .eq 5, 0, 9, 11),
  (9, .iconst 0, 0, 10, 0),
  (10, .ireturn, 0, 11, 0),
  (11, .iconst 0, 0, 12, 0),
  (12, .istore_n 1, 0, 13, 0),
  (13, .iload_n 1, 0, 14, 0),
  (14, .aload_n 0, 0, 15, 0),
  (15, .getfield 46, 0, 18, 0),
  (18, .getfield 154, 0, 21, 0),
  (21, .if_icmp .ge 27, 0, 24, 48),
  (24, .aload_n 0, 0, 25, 0),
  (25, .iload_n 1, 0, 26, 0),
  (26, .iconst (-1), (-1), 27, 0),
  (27, .invokevirtual 340, 0, 30, 0),
  (30, .ifCond .eq 12, 0, 33, 42),
  (33, .aload_n 0, 0, 34, 0),
  (34, .getfield 101, 0, 37, 0),
  (37, .iconst 0, 0, 38, 0),
  (38, .iload_n 1, 0, 39, 0),
  (39, .iastore, 0, 40, 0),
  (40, .iconst 1, 1, 41, 0),
  (41, .ireturn, 0, 42, 0),
  (42, .iinc 1 1, 1, 45, 0),
  (45, .goto (-32), 0, 48, 13),
  (48, .iconst 0, 0, 49, 0),
  (49, .istore_n 1, 0, 50, 0),
  (50, .iload_n 1, 0, 51, 0),
  (51, .aload_n 0, 0, 52, 0),
  (52, .getfield 46, 0, 55, 0),
  (55, .getfield 154, 0, 58, 0),
  (58, .if_icmp .ge 55, 0, 61, 113),
  (61, .iload_n 1, 0, 62, 0),
  (62, .iconst 1, 1, 63, 0),
  (63, .iadd, 0, 64, 0),
  (64, .istore_n 2, 0, 65, 0),
  (65, .iload_n 2, 0, 66, 0),
  (66, .aload_n 0, 0, 67, 0),
  (67, .getfield 46, 0, 70, 0),
  (70, .getfield 154, 0, 73, 0),
  (73, .if_icmp .ge 34, 0, 76, 107),
  (76, .aload_n 0, 0, 77, 0),
  (77, .iload_n 1, 0, 78, 0),
  (78, .iload_n 2, 0, 79, 0),
  (79, .invokevirtual 340, 0, 82, 0),
  (82, .ifCond .eq 19, 0, 85, 101),
  (85, .aload_n 0, 0, 86, 0),
  (86, .getfield 101, 0, 89, 0),
  (89, .iconst 0, 0, 90, 0),
  (90, .iload_n 1, 0, 91, 0),
  (91, .iastore, 0, 92, 0),
  (92, .aload_n 0, 0, 93, 0),
  (93, .getfield 101, 0, 96, 0),
  (96, .iconst 1, 1, 97, 0),
  (97, .iload_n 2, 0, 98, 0),
  (98, .iastore, 0, 99, 0),
  (99, .iconst 2, 2, 100, 0),
  (100, .ireturn, 0, 101, 0),
  (101, .iinc 2 1, 1, 104, 0),
  (104, .goto (-39), 0, 107, 65),
  (107, .iinc 1 1, 1, 110, 0),
  (110, .goto (-60), 0, 113, 50),
  (113, .iconst (-1), (-1), 114, 0),
  (114, .ireturn, 0, 115, 0)]
def am_lv_90 : List (Nat × List Nat) := [(11, [0]), (13, [0, 1]), (42, [0, 1]), (48, [0]), (50, [0, 1]), (65, [0, 1, 2]), (101, [0, 1, 2]), (107, [0, 1]), (113, [])]
/-- DeadLasts.nobodyDrownsWithout -/
def am_cd_91 : List am_T5 := [
  (0, .aload_n 0, 0, 1, 0),
  (1, .getfield 46, 0, 4, 0),
  (4, .iload_n 1, 0, 5, 0),
  (5, .iload_n 2, 0, 6, 0),
  (6, .invokevirtual 190, 0, 9, 0),
  (9, .istore_n 3, 0, 10, 0),
  (10, .iconst 0, 0, 11, 0),
  (11, .istore 4, 0, 13, 0),
  (13, .iload 4, 0, 15, 0),
  (15, .aload_n 0, 0, 16, 0),
  (16, .getfield 39, 0, 19, 0),
  (19, .getfield 146, 0, 22, 0),
  (22, .if_icmp .ge 46, 0, 25, 68),
  (25, .aload_n 0, 0, 26, 0),
  (26, .getfield 80, 0, 29, 0),
  (29, .aload_n 0, 0, 30, 0),
  (30, .getfield 39, 0, 33, 0),
  (33, .iload 4, 0, 35, 0),
  (35, .invokevirtual 193, 0, 38, 0),
  (38, .aload_n 0, 0, 39, 0),
  (39, .getfield 80, 0, 42, 0),
  (42, .iload_n 3, 0, 43, 0),
  (43, .bipush 30, 30, 45, 0),
  (45, .invokevirtual 200, 0, 48, 0),
  (48, .pop, 0, 49, 0),
  (49, .aload_n 0, 0, 50, 0),
  (50, .getfield 80, 0, 53, 0),
  (53, .getfield 203, 0, 56, 0),
  (56, .iconst 2, 2, 57, 0),
  (57, .if_icmp .ne 5, 0, 60, 62),
  (60, .iconst 0, 0, 61, 0),
  (61, .ireturn, 0, 62, 0),
  (62, .iinc 4 1, 1, 65, 0),
  (65, .goto (-52), 0, 68, 13),
  (68, .iconst 1, 1, 69, 0),
  (69, .ireturn, 0, 70, 0)]
def am_lv_91 : List (Nat × List Nat) := [(13, [0, 3, 4]), (62, [0, 3, 4]), (68, [])]
/-- DeadLasts.allHoldWithout -/
def am_cd_92 : List am_T5 := [
  (0, .aload_n 0, 0, 1, 0),
  (1, .getfield 53, 0, 4, 0),
  (4, .aload_n 0, 0, 5, 0),
  (5, .getfield 39, 0, 8, 0),
  (8, .getfield 146, 0, 11, 0),
  (11, .invokevirtual 343, 0, 14, 0),
  (14, .ifCond .eq 5, 0, 17, 19),
  (17, .iconst 0, 0, 18, 0),
  (18, .ireturn, 0, 19, 0),
  (19, .aload_n 0, 0, 20, 0),
  (20, .getfield 46, 0, 23, 0),
  (23, .iload_n 1, 0, 24, 0),
  (24, .iconst (-1), (-1), 25, 0),
  (25, .invokevirtual 190, 0, 28, 0),
  (28, .istore_n 2, 0, 29, 0),
  (29, .iconst 0, 0, 30, 0),
  (30, .istore_n 3, 0, 31, 0),
  (31, .iload_n 3, 0, 32, 0),
  (32, .aload_n 0, 0, 33, 0),
  (33, .getfield 39, 0, 36, 0),
  (36, .getfield 146, 0, 39, 0),
  (39, .if_icmp .ge 50, 0, 42, 89),
  (42, .aload_n 0, 0, 43, 0),
  (43, .getfield 80, 0, 46, 0),
  (46, .aload_n 0, 0, 47, 0),
  (47, .getfield 39, 0, 50, 0),
  (50, .iload_n 3, 0, 51, 0),
  (51, .invokevirtual 193, 0, 54, 0),
  (54, .aload_n 0, 0, 55, 0),
  (55, .getfield 71, 0, 58, 0),
  (58, .aload_n 0, 0, 59, 0),
  (59, .getfield 80, 0, 62, 0),
  (62, .iload_n 2, 0, 63, 0),
  (63, .invokevirtual 336, 0, 66, 0),
  (66, .aload_n 0, 0, 67, 0),
  (67, .getfield 53, 0, 70, 0),
  (70, .iload_n 3, 0, 71, 0),
  (71, .aload_n 0, 0, 72, 0),
  (72, .getfield 71, 0, 75, 0),
  (75, .invokevirtual 346, 0, 78, 0),
  (78, .ifCond .ne 5, 0, 81, 83),
  (81, .iconst 0, 0, 82, 0),
  (82, .ireturn, 0, 83, 0),
  (83, .iinc 3 1, 1, 86, 0),
  (86, .goto (-55), 0, 89, 31),
  (89, .iconst 1, 1, 90, 0),
  (90, .ireturn, 0, 91, 0)]
def am_lv_92 : List (Nat × List Nat) := [(19, [0, 1]), (31, [0, 2, 3]), (83, [0, 2, 3]), (89, [])]
/-- DeadLasts.othersHold -/
def am_cd_93 : List am_T5 := [
  (0, .iconst 0, 0, 1, 0),
  (1, .istore_n 2, 0, 2, 0),
  (2, .iload_n 2, 0, 3, 0),
  (3, .aload_n 0, 0, 4, 0),
  (4, .getfield 39, 0, 7, 0),
  (7, .getfield 146, 0, 10, 0),
  (10, .if_icmp .ge 33, 0, 13, 43),
  (13, .iload_n 2, 0, 14, 0),
  (14, .iload_n 1, 0, 15, 0),
  (15, .if_icmp .eq 22, 0, 18, 37),
  (18, .aload_n 0, 0, 19, 0),
  (19, .getfield 53, 0, 22, 0),
  (22, .iload_n 2, 0, 23, 0),
  (23, .aload_n 0, 0, 24, 0),
  (24, .getfield 66, 0, 27, 0),
  (27, .iload_n 2, 0, 28, 0),
  (28, .aaload, 0, 29, 0),
  (29, .invokevirtual 346, 0, 32, 0),
  (32, .ifCond .ne 5, 0, 35, 37),
  (35, .iconst 0, 0, 36, 0),
  (36, .ireturn, 0, 37, 0),
  (37, .iinc 2 1, 1, 40, 0),
  (40, .goto (-38), 0, 43, 2),
  (43, .aload_n 0, 0, 44, 0),
  (44, .getfield 53, 0, 47, 0),
  (47, .aload_n 0, 0, 48, 0),
  (48, .getfield 39, 0, 51, 0),
  (51, .getfield 146, 0, 54, 0),
  (54, .invokevirtual 343, 0, 57, 0),
  (57, .ifCond .ne 7, 0, 60, 64),
  (60, .iconst 1, 1, 61, 0),
  (61, .goto 4, 0, 64, 65),
  (64, .iconst 0, 0, 65, 0),
  (65, .ireturn, 0, 66, 0)]
def am_lv_93 : List (Nat × List Nat) := [(2, [0, 1, 2]), (37, [0, 1, 2]), (43, [0]), (64, []), (65, [])]
/-- DeadLasts.findWore -/
def am_cd_94 : List am_T5 := [
  (0, .aload_n 0, 0, 1, 0),
  (1, .iload_n 1, 0, 2, 0),
  (2, .invokevirtual 350, 0, 5, 0),
  (5, .ifCond .ne 5, 0, 8, 10),
  (8, .iconst 0, 0, 9, 0),
  (9, .ireturn, 0, 10, 0),
  (10, .aload_n 0, 0, 11, 0),
  (11, .getfield 46, 0, 14, 0),
  (14, .iconst (-1), (-1), 15, 0),
  (15, .iconst (-1), (-1), 16, 0),
  (16, .invokevirtual 190, 0, 19, 0),
  (19, .istore_n 3, 0, 20, 0),
  (20, .iconst 0, 0, 21, 0),
  (21, .istore 4, 0, 23, 0),
  (23, .iconst 0, 0, 24, 0),
  (24, .istore 5, 0, 26, 0),
  (26, .iload 5, 0, 28, 0),
  (28, .bipush 8, 8, 30, 0),
  (30, .if_icmp .ge 121, 0, 33, 151),
  (33, .aload_n 0, 0, 34, 0),
  (34, .getfield 80, 0, 37, 0),
  (37, .aload_n 0, 0, 38, 0),
  (38, .getfield 39, 0, 41, 0),
  (41, .iload_n 1, 0, 42, 0),
  (42, .invokevirtual 193, 0, 45, 0),
  (45, .iload_n 2, 0, 46, 0),
  (46, .ifCond .ne 15, 0, 49, 61),
  (49, .aload_n 0, 0, 50, 0),
  (50, .getfield 80, 0, 53, 0),
  (53, .iload 5, 0, 55, 0),
  (55, .putfield 209, 0, 58, 0),
  (58, .goto 12, 0, 61, 70),
  (61, .aload_n 0, 0, 62, 0),
  (62, .getfield 80, 0, 65, 0),
  (65, .iload 5, 0, 67, 0),
  (67, .putfield 212, 0, 70, 0),
  (70, .aload_n 0, 0, 71, 0),
  (71, .getfield 71, 0, 74, 0),
  (74, .aload_n 0, 0, 75, 0),
  (75, .getfield 80, 0, 78, 0),
  (78, .iload_n 3, 0, 79, 0),
  (79, .invokevirtual 336, 0, 82, 0),
  (82, .iconst 0, 0, 83, 0),
  (83, .istore 6, 0, 85, 0),
  (85, .iload 6, 0, 87, 0),
  (87, .bipush 30, 30, 89, 0),
  (89, .if_icmp .ge 32, 0, 92, 121),
  (92, .aload_n 0, 0, 93, 0),
  (93, .getfield 104, 0, 96, 0),
  (96, .iload 5, 0, 98, 0),
  (98, .bipush 30, 30, 100, 0),
  (100, .imul, 0, 101, 0),
  (101, .iload 6, 0, 103, 0),
  (103, .iadd, 0, 104, 0),
  (104, .aload_n 0, 0, 105, 0),
  (105, .getfield 71, 0, 108, 0),
  (108, .iload 6, 0, 110, 0),
  (110, .iconst 0, 0, 111, 0),
  (111, .invokevirtual 169, 0, 114, 0),
  (114, .iastore, 0, 115, 0),
  (115, .iinc 6 1, 1, 118, 0),
  (118, .goto (-33), 0, 121, 85),
  (121, .aload_n 0, 0, 122, 0),
  (122, .getfield 53, 0, 125, 0),
  (125, .iload_n 1, 0, 126, 0),
  (126, .aload_n 0, 0, 127, 0),
  (127, .getfield 71, 0, 130, 0),
  (130, .invokevirtual 346, 0, 133, 0),
  (133, .ifCond .eq 12, 0, 136, 145),
  (136, .iload 4, 0, 138, 0),
  (138, .iconst 1, 1, 139, 0),
  (139, .iload 5, 0, 141, 0),
  (141, .ishl, 0, 142, 0),
  (142, .ior, 0, 143, 0),
  (143, .istore 4, 0, 145, 0),
  (145, .iinc 5 1, 1, 148, 0),
  (148, .goto (-122), 0, 151, 26),
  (151, .iload 4, 0, 153, 0),
  (153, .ireturn, 0, 154, 0)]
def am_lv_94 : List (Nat × List Nat) := [(10, [0, 1, 2]), (26, [0, 1, 2, 3, 4, 5]), (61, [0, 1, 2, 3, 4, 5]), (70, [0, 1, 2, 3, 4, 5]), (85, [0, 1, 2, 3, 4, 5, 6]), (121, [0, 1, 2, 3, 4, 5]), (145, [0, 1, 2, 3, 4, 5]), (151, [4])]
/-- DeadLasts.greatestCrowd -/
def am_cd_95 : List am_T5 := [
  (0, .iconst 0, 0, 1, 0),
  (1, .istore_n 3, 0, 2, 0),
  (2, .iconst 0, 0, 3, 0),
  (3, .istore 4, 0, 5, 0),
  (5, .iload 4, 0, 7, 0),
  (7, .bipush 8, 8, 9, 0),
  (9, .if_icmp .ge 79, 0, 12, 88),
  (12, .aload_n 0, 0, 13, 0),
  (13, .getfield 104, 0, 16, 0),
  (16, .iload 4, 0, 18, 0),
  (18, .bipush 30, 30, 20, 0),
  (20, .imul, 0, 21, 0),
  (21, .iload_n 1, 0, 22, 0),
  (22, .iadd, 0, 23, 0),
  (23, .iaload, 0, 24, 0),
  (24, .istore 5, 0, 26, 0),
  (26, .iconst 0, 0, 27, 0),
  (27, .istore 6, 0, 29, 0),
  (29, .iload 4, 0, 31, 0),
  (31, .istore 7, 0, 33, 0),
  (33, .iload 7, 0, 35, 0),
  (35, .bipush 8, 8, 37, 0),
  (37, .if_icmp .ge 38, 0, 40, 75),
  (40, .iload_n 2, 0, 41, 0),
  (41, .iload 7, 0, 43, 0),
  (43, .invokestatic 353, 0, 46, 0),
  (46, .ifCond .eq 23, 0, 49, 69),
  (49, .aload_n 0, 0, 50, 0),
  (50, .getfield 104, 0, 53, 0),
  (53, .iload 7, 0, 55, 0),
  (55, .bipush 30, 30, 57, 0),
  (57, .imul, 0, 58, 0),
  (58, .iload_n 1, 0, 59, 0),
  (59, .iadd, 0, 60, 0),
  (60, .iaload, 0, 61, 0),
  (61, .iload 5, 0, 63, 0),
  (63, .if_icmp .ne 6, 0, 66, 69),
  (66, .iinc 6 1, 1, 69, 0),
  (69, .iinc 7 1, 1, 72, 0),
  (72, .goto (-39), 0, 75, 33),
  (75, .iload_n 3, 0, 76, 0),
  (76, .iload 6, 0, 78, 0),
  (78, .invokestatic 356, 0, 81, 0),
  (81, .istore_n 3, 0, 82, 0),
  (82, .iinc 4 1, 1, 85, 0),
  (85, .goto (-80), 0, 88, 5),
  (88, .iload_n 3, 0, 89, 0),
  (89, .ireturn, 0, 90, 0)]
def am_lv_95 : List (Nat × List Nat) := [(5, [0, 1, 2, 3, 4]), (33, [0, 1, 2, 3, 4, 5, 6, 7]), (69, [0, 1, 2, 3, 4, 5, 6, 7]), (75, [0, 1, 2, 3, 4, 6]), (88, [3])]
/-- DeadLasts.mixed -/
def am_cd_96 : List am_T5 := [
  (0, .ldc2_w 359, 0, 3, 0),
  (3, .lload_n 0, 0, 4, 0),
  (4, .lmul, 0, 5, 0),
  (5, .lload_n 2, 0, 6, 0),
  (6, .ladd, 0, 7, 0),
  (7, .lreturn, 0, 8, 0)]
def am_lv_96 : List (Nat × List Nat) := []
/-- DeadLasts.mixedLast -/
def am_cd_97 : List am_T5 := [
  (0, .lload_n 1, 0, 1, 0),
  (1, .lstore 4, 0, 3, 0),
  (3, .iconst 0, 0, 4, 0),
  (4, .istore 6, 0, 6, 0),
  (6, .iload 6, 0, 8, 0),
  (8, .bipush 6, 6, 10, 0),
  (10, .if_icmp .ge 24, 0, 13, 34),
  (13, .lload 4, 0, 15, 0),
  (15, .aload_n 0, 0, 16, 0),
  (16, .iload_n 3, 0, 17, 0),
  (17, .iload 6, 0, 19, 0),
  (19, .invokevirtual 361, 0, 22, 0),
  (22, .i2l, 0, 23, 0),
  (23, .invokestatic 285, 0, 26, 0),
  (26, .lstore 4, 0, 28, 0),
  (28, .iinc 6 1, 1, 31, 0),
  (31, .goto (-25), 0, 34, 6),
  (34, .lload 4, 0, 36, 0),
  (36, .aload_n 0, 0, 37, 0),
  (37, .iload_n 3, 0, 38, 0),
  (38, .invokevirtual 184, 0, 41, 0),
  (41, .i2l, 0, 42, 0),
  (42, .invokestatic 285, 0, 45, 0),
  (45, .lreturn, 0, 46, 0)]
def am_lv_97 : List (Nat × List Nat) := [(6, [0, 3, 4, 6]), (34, [0, 3, 4])]
/-- DeadLasts.mixedWalk -/
def am_cd_98 : List am_T5 := [
  (0, .lload_n 1, 0, 1, 0),
  (1, .lstore 4, 0, 3, 0),
  (3, .iconst 0, 0, 4, 0),
  (4, .istore 6, 0, 6, 0),
  (6, .iload 6, 0, 8, 0),
  (8, .iconst 5, 5, 9, 0),
  (9, .if_icmp .ge 24, 0, 12, 33),
  (12, .lload 4, 0, 14, 0),
  (14, .aload_n 0, 0, 15, 0),
  (15, .iload_n 3, 0, 16, 0),
  (16, .iload 6, 0, 18, 0),
  (18, .invokevirtual 364, 0, 21, 0),
  (21, .i2l, 0, 22, 0),
  (22, .invokestatic 285, 0, 25, 0),
  (25, .lstore 4, 0, 27, 0),
  (27, .iinc 6 1, 1, 30, 0),
  (30, .goto (-24), 0, 33, 6),
  (33, .getstatic 366, 0, 36, 0),
  (36, .astore 6, 0, 38, 0),
  (38, .aload 6, 0, 40, 0),
  (40, .arraylength, 0, 41, 0),
  (41, .istore 7, 0, 43, 0),
  (43, .iconst 0, 0, 44, 0),
  (44, .istore 8, 0, 46, 0),
  (46, .iload 8, 0, 48, 0),
  (48, .iload 7, 0, 50, 0),
  (50, .if_icmp .ge 48, 0, 53, 98),
  (53, .aload 6, 0, 55, 0),
  (55, .iload 8, 0, 57, 0),
  (57, .iaload, 0, 58, 0),
  (58, .istore 9, 0, 60, 0),
  (60, .iconst 0, 0, 61, 0),
  (61, .istore 10, 0, 63, 0),
  (63, .iload 10, 0, 65, 0),
  (65, .iconst 4, 4, 66, 0),
  (66, .if_icmp .ge 26, 0, 69, 92),
  (69, .lload 4, 0, 71, 0),
  (71, .aload_n 0, 0, 72, 0),
  (72, .iload 9, 0, 74, 0),
  (74, .iload_n 3, 0, 75, 0),
  (75, .iload 10, 0, 77, 0),
  (77, .invokevirtual 369, 0, 80, 0),
  (80, .i2l, 0, 81, 0),
  (81, .invokestatic 285, 0, 84, 0),
  (84, .lstore 4, 0, 86, 0),
  (86, .iinc 10 1, 1, 89, 0),
  (89, .goto (-26), 0, 92, 63),
  (92, .iinc 8 1, 1, 95, 0),
  (95, .goto (-49), 0, 98, 46),
  (98, .lload 4, 0, 100, 0),
  (100, .lreturn, 0, 101, 0)]
def am_lv_98 : List (Nat × List Nat) := [(6, [0, 3, 4, 6]), (33, [0, 3, 4]), (46, [0, 3, 4, 6, 7, 8]), (63, [0, 3, 4, 6, 7, 8, 9, 10]), (92, [0, 3, 4, 6, 7, 8]), (98, [4])]
/-- DeadLasts.mixedPlans -/
def am_cd_99 : List am_T5 := [
  (0, .lload_n 1, 0, 1, 0),
  (1, .aload_n 0, 0, 2, 0),
  (2, .iload_n 3, 0, 3, 0),
  (3, .iconst 0, 0, 4, 0),
  (4, .invokevirtual 373, 0, 7, 0),
  (7, .i2l, 0, 8, 0),
  (8, .invokestatic 285, 0, 11, 0),
  (11, .aload_n 0, 0, 12, 0),
  (12, .iload_n 3, 0, 13, 0),
  (13, .iconst 1, 1, 14, 0),
  (14, .invokevirtual 373, 0, 17, 0),
  (17, .i2l, 0, 18, 0),
  (18, .invokestatic 285, 0, 21, 0),
  (21, .lstore 4, 0, 23, 0),
  (23, .iconst 0, 0, 24, 0),
  (24, .istore 6, 0, 26, 0),
  (26, .iload 6, 0, 28, 0),
  (28, .iconst 3, 3, 29, 0),
  (29, .if_icmp .ge 24, 0, 32, 53),
  (32, .lload 4, 0, 34, 0),
  (34, .aload_n 0, 0, 35, 0),
  (35, .iload_n 3, 0, 36, 0),
  (36, .iload 6, 0, 38, 0),
  (38, .invokevirtual 376, 0, 41, 0),
  (41, .i2l, 0, 42, 0),
  (42, .invokestatic 285, 0, 45, 0),
  (45, .lstore 4, 0, 47, 0),
  (47, .iinc 6 1, 1, 50, 0),
  (50, .goto (-24), 0, 53, 26),
  (53, .lload 4, 0, 55, 0),
  (55, .aload_n 0, 0, 56, 0),
  (56, .iload_n 3, 0, 57, 0),
  (57, .invokevirtual 379, 0, 60, 0),
  (60, .i2l, 0, 61, 0),
  (61, .invokestatic 285, 0, 64, 0),
  (64, .lstore 4, 0, 66, 0),
  (66, .lload 4, 0, 68, 0),
  (68, .aload_n 0, 0, 69, 0),
  (69, .iload_n 3, 0, 70, 0),
  (70, .iconst 0, 0, 71, 0),
  (71, .invokevirtual 382, 0, 74, 0),
  (74, .i2l, 0, 75, 0),
  (75, .invokestatic 285, 0, 78, 0),
  (78, .aload_n 0, 0, 79, 0),
  (79, .iload_n 3, 0, 80, 0),
  (80, .iconst 1, 1, 81, 0),
  (81, .invokevirtual 382, 0, 84, 0),
  (84, .i2l, 0, 85, 0),
  (85, .invokestatic 285, 0, 88, 0),
  (88, .lstore 4, 0, 90, 0),
  (90, .lload 4, 0, 92, 0),
  (92, .aload_n 0, 0, 93, 0),
  (93, .iload_n 3, 0, 94, 0),
  (94, .invokevirtual 385, 0, 97, 0),
  (97, .i2l, 0, 98, 0),
  (98, .invokestatic 285, 0, 101, 0),
  (101, .lstore 4, 0, 103, 0),
  (103, .lload 4, 0, 105, 0),
  (105, .aload_n 0, 0, 106, 0),
  (106, .iconst 5, 5, 107, 0),
  (107, .iconst 5, 5, 108, 0),
  (108, .iload_n 3, 0, 109, 0),
  (109, .iconst 0, 0, 110, 0),
  (110, .invokevirtual 388, 0, 113, 0),
  (113, .invokestatic 285, 0, 116, 0),
  (116, .lstore 4, 0, 118, 0),
  (118, .lload 4, 0, 120, 0),
  (120, .aload_n 0, 0, 121, 0),
  (121, .iconst 5, 5, 122, 0),
  (122, .iconst 5, 5, 123, 0),
  (123, .iload_n 3, 0, 124, 0),
  (124, .iconst 1, 1, 125, 0),
  (125, .invokevirtual 388, 0, 128, 0),
  (128, .invokestatic 285, 0, 131, 0),
  (131, .lreturn, 0, 132, 0)]
def am_lv_99 : List (Nat × List Nat) := [(26, [0, 3, 4, 6]), (53, [0, 3, 4])]
/-- DeadLastsModel.in -/
def am_cd_100 : List am_T5 := [
  (0, .lload_n 0, 0, 1, 0),
  (1, .lload_n 2, 0, 2, 0),
  (2, .lcmp, 0, 3, 0),
  (3, .ifCond .lt 14, 0, 6, 17),
  (6, .lload_n 0, 0, 7, 0),
  (7, .lload 4, 0, 9, 0),
  (9, .lcmp, 0, 10, 0),
  (10, .ifCond .gt 7, 0, 13, 17),
  (13, .iconst 1, 1, 14, 0),
  (14, .goto 4, 0, 17, 18),
  (17, .iconst 0, 0, 18, 0),
  (18, .ireturn, 0, 19, 0)]
def am_lv_100 : List (Nat × List Nat) := [(17, []), (18, [])]
/-- DeadLastsModel.no -/
def am_cd_101 : List am_T5 := [
  (0, .ldc2_w 83, 0, 3, 0),
  (3, .iload_n 0, 0, 4, 0),
  (4, .i2l, 0, 5, 0),
  (5, .lsub, 0, 6, 0),
  (6, .lreturn, 0, 7, 0)]
def am_lv_101 : List (Nat × List Nat) := []
/-- DeadLastsModel.isTwo -/
def am_cd_102 : List am_T5 := [
  (0, .iload_n 0, 0, 1, 0),
  (1, .i2l, 0, 2, 0),
  (2, .lconst 0, 0, 3, 0),
  (3, .lconst 1, 0, 4, 0),
  (4, .invokestatic 85, 0, 7, 0),
  (7, .ireturn, 0, 8, 0)]
def am_lv_102 : List (Nat × List Nat) := []
/-- DeadLastsModel.isIn -/
def am_cd_103 : List am_T5 := [
  (0, .iload_n 0, 0, 1, 0),
  (1, .iload_n 1, 0, 2, 0),
  (2, .ishr, 0, 3, 0),
  (3, .iconst 1, 1, 4, 0),
  (4, .iand, 0, 5, 0),
  (5, .iconst 1, 1, 6, 0),
  (6, .if_icmp .ne 7, 0, 9, 13),
  (9, .iconst 1, 1, 10, 0),
  (10, .goto 4, 0, 13, 14),
  (13, .iconst 0, 0, 14, 0),
  (14, .ireturn, 0, 15, 0)]
def am_lv_103 : List (Nat × List Nat) := [(13, []), (14, [])]
/-- DeadLastsModel.ones -/
def am_cd_104 : List am_T5 := [
  (0, .iconst 0, 0, 1, 0),
  (1, .istore_n 1, 0, 2, 0),
  (2, .iload_n 0, 0, 3, 0),
  (3, .istore_n 2, 0, 4, 0),
  (4, .iload_n 2, 0, 5, 0),
  (5, .ifCond .eq 15, 0, 8, 20),
  (8, .iinc 1 1, 1, 11, 0),
  (11, .iload_n 2, 0, 12, 0),
  (12, .iload_n 2, 0, 13, 0),
  (13, .iconst 1, 1, 14, 0),
  (14, .isub, 0, 15, 0),
  (15, .iand, 0, 16, 0),
  (16, .istore_n 2, 0, 17, 0),
  (17, .goto (-13), 0, 20, 4),
  (20, .iload_n 1, 0, 21, 0),
  (21, .ireturn, 0, 22, 0)]
def am_lv_104 : List (Nat × List Nat) := [(4, [1, 2]), (20, [1])]
/-- DeadLastsModel.lesser -/
def am_cd_105 : List am_T5 := [
  (0, .iload_n 0, 0, 1, 0),
  (1, .iload_n 1, 0, 2, 0),
  (2, .if_icmp .ge 7, 0, 5, 9),
  (5, .iload_n 0, 0, 6, 0),
  (6, .goto 4, 0, 9, 10),
  (9, .iload_n 1, 0, 10, 0),
  (10, .ireturn, 0, 11, 0)]
def am_lv_105 : List (Nat × List Nat) := [(9, [1]), (10, [])]
/-- DeadLastsModel.greater -/
def am_cd_106 : List am_T5 := [
  (0, .iload_n 0, 0, 1, 0),
  (1, .iload_n 1, 0, 2, 0),
  (2, .if_icmp .le 7, 0, 5, 9),
  (5, .iload_n 0, 0, 6, 0),
  (6, .goto 4, 0, 9, 10),
  (9, .iload_n 1, 0, 10, 0),
  (10, .ireturn, 0, 11, 0)]
def am_lv_106 : List (Nat × List Nat) := [(9, [1]), (10, [])]
/-- DeadLastsModel.part -/
def am_cd_107 : List am_T5 := [
  (0, .lload_n 0, 0, 1, 0),
  (1, .lstore 5, 0, 3, 0),
  (3, .lload_n 2, 0, 4, 0),
  (4, .lstore 7, 0, 6, 0),
  (6, .lload 7, 0, 8, 0),
  (8, .lconst 0, 0, 9, 0),
  (9, .lcmp, 0, 10, 0),
  (10, .ifCond .eq 21, 0, 13, 31),
  (13, .lload 5, 0, 15, 0),
  (15, .lload 7, 0, 17, 0),
  (17, .lrem, 0, 18, 0),
  (18, .lstore 9, 0, 20, 0),
  (20, .lload 7, 0, 22, 0),
  (22, .lstore 5, 0, 24, 0),
  (24, .lload 9, 0, 26, 0),
  (26, .lstore 7, 0, 28, 0),
  (28, .goto (-22), 0, 31, 6),
  (31, .iload 4, 0, 33, 0),
  (33, .ifCond .ne 7, 0, 36, 40),
  (36, .lload_n 0, 0, 37, 0),
  (37, .goto 4, 0, 40, 41),
  (40, .lload_n 2, 0, 41, 0),
  (41, .lload 5, 0, 43, 0),
  (43, .ldiv, 0, 44, 0),
  (44, .lreturn, 0, 45, 0)]
def am_lv_107 : List (Nat × List Nat) := [(6, [0, 2, 4, 5, 7]), (31, [0, 2, 4, 5]), (40, [2, 5]), (41, [5])]
/-- DeadLastsModel.finds -/
def am_cd_108 : List am_T5 := [
  (0, .aload_n 0, 0, 1, 0),
  (1, .iload_n 1, 0, 2, 0),
  (2, .putfield 89, 0, 5, 0),
  (5, .bipush (-10), (-10), 7, 0),
  (7, .iload_n 1, 0, 8, 0),
  (8, .isub, 0, 9, 0),
  (9, .ireturn, 0, 10, 0)]
def am_lv_108 : List (Nat × List Nat) := []
/-- DeadLastsModel.isSheet -/
def am_cd_109 : List am_T5 := [
  (0, .iload_n 0, 0, 1, 0),
  (1, .i2l, 0, 2, 0),
  (2, .lconst 0, 0, 3, 0),
  (3, .ldc2_w 92, 0, 6, 0),
  (6, .invokestatic 85, 0, 9, 0),
  (9, .ireturn, 0, 10, 0)]
def am_lv_109 : List (Nat × List Nat) := []
/-- DeadLastsModel.sheet -/
def am_cd_110 : List am_T5 := [
  (0, .iload_n 1, 0, 1, 0),
  (1, .invokestatic 94, 0, 4, 0),
  (4, .ifCond .eq 21, 0, 7, 25),
  (7, .iload_n 2, 0, 8, 0),
  (8, .i2l, 0, 9, 0),
  (9, .lconst 0, 0, 10, 0),
  (10, .ldc2_w 98, 0, 13, 0),
  (13, .invokestatic 85, 0, 16, 0),
  (16, .ifCond .eq 9, 0, 19, 25),
  (19, .iload_n 3, 0, 20, 0),
  (20, .bipush 60, 60, 22, 0),
  (22, .if_icmp .le 6, 0, 25, 28),
  (25, .bipush (-2), (-2), 27, 0),
  (27, .ireturn, 0, 28, 0),
  (28, .iload_n 3, 0, 29, 0),
  (29, .ifCond .ge 9, 0, 32, 38),
  (32, .aload_n 0, 0, 33, 0),
  (33, .iconst 5, 5, 34, 0),
  (34, .invokevirtual 100, 0, 37, 0),
  (37, .ireturn, 0, 38, 0),
  (38, .aload_n 0, 0, 39, 0),
  (39, .getfield 7, 0, 42, 0),
  (42, .iload_n 1, 0, 43, 0),
  (43, .iload_n 2, 0, 44, 0),
  (44, .iastore, 0, 45, 0),
  (45, .aload_n 0, 0, 46, 0),
  (46, .getfield 13, 0, 49, 0),
  (49, .iload_n 1, 0, 50, 0),
  (50, .iload_n 3, 0, 51, 0),
  (51, .iastore, 0, 52, 0),
  (52, .iconst 0, 0, 53, 0),
  (53, .istore 4, 0, 55, 0),
  (55, .iload 4, 0, 57, 0),
  (57, .iload_n 3, 0, 58, 0),
  (58, .if_icmp .ge 22, 0, 61, 80),
  (61, .aload_n 0, 0, 62, 0),
  (62, .getfield 16, 0, 65, 0),
  (65, .bipush 60, 60, 67, 0),
  (67, .iload_n 1, 0, 68, 0),
  (68, .imul, 0, 69, 0),
  (69, .iload 4, 0, 71, 0),
  (71, .iadd, 0, 72, 0),
  (72, .iconst 0, 0, 73, 0),
  (73, .iastore, 0, 74, 0),
  (74, .iinc 4 1, 1, 77, 0),
  (77, .goto (-22), 0, 80, 55),
  (80, .iload_n 3, 0, 81, 0),
  (81, .ireturn, 0, 82, 0)]
def am_lv_110 : List (Nat × List Nat) := [(25, []), (28, [0, 1, 2, 3]), (38, [0, 1, 2, 3]), (55, [0, 1, 3, 4]), (80, [3])]
/-- DeadLastsModel.lose -/
def am_cd_111 : List am_T5 := [
  (0, .iload_n 1, 0, 1, 0),
  (1, .invokestatic 94, 0, 4, 0),
  (4, .ifCond .ne 6, 0, 7, 10),
  (7, .bipush (-2), (-2), 9, 0),
  (9, .ireturn, 0, 10, 0),
  (10, .aload_n 0, 0, 11, 0),
  (11, .getfield 7, 0, 14, 0),
  (14, .iload_n 1, 0, 15, 0),
  (15, .iaload, 0, 16, 0),
  (16, .ifCond .ge 9, 0, 19, 25),
  (19, .aload_n 0, 0, 20, 0),
  (20, .iconst 1, 1, 21, 0),
  (21, .invokevirtual 100, 0, 24, 0),
  (24, .ireturn, 0, 25, 0),
  (25, .aload_n 0, 0, 26, 0),
  (26, .getfield 7, 0, 29, 0),
  (29, .iload_n 1, 0, 30, 0),
  (30, .iconst (-1), (-1), 31, 0),
  (31, .iastore, 0, 32, 0),
  (32, .aload_n 0, 0, 33, 0),
  (33, .getfield 13, 0, 36, 0),
  (36, .iload_n 1, 0, 37, 0),
  (37, .iaload, 0, 38, 0),
  (38, .ireturn, 0, 39, 0)]
def am_lv_111 : List (Nat × List Nat) := [(10, [0, 1]), (25, [0, 1])]
/-- DeadLastsModel.lacks -/
def am_cd_112 : List am_T5 := [
  (0, .aload_n 0, 0, 1, 0),
  (1, .getfield 7, 0, 4, 0),
  (4, .iload_n 1, 0, 5, 0),
  (5, .iaload, 0, 6, 0),
  (6, .ifCond .ge 9, 0, 9, 15),
  (9, .aload_n 0, 0, 10, 0),
  (10, .iconst 1, 1, 11, 0),
  (11, .invokevirtual 100, 0, 14, 0),
  (14, .ireturn, 0, 15, 0),
  (15, .aload_n 0, 0, 16, 0),
  (16, .getfield 7, 0, 19, 0),
  (19, .iload_n 1, 0, 20, 0),
  (20, .iaload, 0, 21, 0),
  (21, .iload_n 2, 0, 22, 0),
  (22, .if_icmp .eq 9, 0, 25, 31),
  (25, .aload_n 0, 0, 26, 0),
  (26, .iconst 3, 3, 27, 0),
  (27, .invokevirtual 100, 0, 30, 0),
  (30, .ireturn, 0, 31, 0),
  (31, .iload_n 3, 0, 32, 0),
  (32, .i2l, 0, 33, 0),
  (33, .lconst 0, 0, 34, 0),
  (34, .aload_n 0, 0, 35, 0),
  (35, .getfield 13, 0, 38, 0),
  (38, .iload_n 1, 0, 39, 0),
  (39, .iaload, 0, 40, 0),
  (40, .iconst 1, 1, 41, 0),
  (41, .isub, 0, 42, 0),
  (42, .i2l, 0, 43, 0),
  (43, .invokestatic 85, 0, 46, 0),
  (46, .ifCond .eq 7, 0, 49, 53),
  (49, .iconst 0, 0, 50, 0),
  (50, .goto 8, 0, 53, 58),
  (53, .aload_n 0, 0, 54, 0),
  (54, .iconst 2, 2, 55, 0),
  (55, .invokevirtual 100, 0, 58, 0),
  (58, .ireturn, 0, 59, 0)]
def am_lv_112 : List (Nat × List Nat) := [(15, [0, 1, 2, 3]), (31, [0, 1, 3]), (53, [0]), (58, [])]
/-- DeadLastsModel.cut -/
def am_cd_113 : List am_T5 := [
  (0, .iload_n 0, 0, 1, 0),
  (1, .ifCond .ne 8, 0, 4, 9),
  (4, .iload_n 1, 0, 5, 0),
  (5, .i2b, 0, 6, 0),
  (6, .goto 14, 0, 9, 20),
  (9, .iload_n 0, 0, 10, 0),
  (10, .iconst 1, 1, 11, 0),
  (11, .if_icmp .ne 8, 0, 14, 19),
  (14, .iload_n 1, 0, 15, 0),
  (15, .i2s, 0, 16, 0),
  (16, .goto 4, 0, 19, 20),
  (19, .iload_n 1, 0, 20, 0),
  (20, .ireturn, 0, 21, 0)]
def am_lv_113 : List (Nat × List Nat) := [(9, [0, 1]), (19, [1]), (20, [])]
/-- DeadLastsModel.lay -/
def am_cd_114 : List am_T5 := [
  (0, .iload_n 1, 0, 1, 0),
  (1, .invokestatic 94, 0, 4, 0),
  (4, .ifCond .eq 15, 0, 7, 19),
  (7, .iload_n 2, 0, 8, 0),
  (8, .i2l, 0, 9, 0),
  (9, .lconst 0, 0, 10, 0),
  (10, .ldc2_w 98, 0, 13, 0),
  (13, .invokestatic 85, 0, 16, 0),
  (16, .ifCond .ne 6, 0, 19, 22),
  (19, .bipush (-2), (-2), 21, 0),
  (21, .ireturn, 0, 22, 0),
  (22, .aload_n 0, 0, 23, 0),
  (23, .iload_n 1, 0, 24, 0),
  (24, .iload_n 2, 0, 25, 0),
  (25, .iload_n 3, 0, 26, 0),
  (26, .invokevirtual 104, 0, 29, 0),
  (29, .istore 5, 0, 31, 0),
  (31, .iload 5, 0, 33, 0),
  (33, .ifCond .eq 6, 0, 36, 39),
  (36, .iload 5, 0, 38, 0),
  (38, .ireturn, 0, 39, 0),
  (39, .aload_n 0, 0, 40, 0),
  (40, .getfield 16, 0, 43, 0),
  (43, .bipush 60, 60, 45, 0),
  (45, .iload_n 1, 0, 46, 0),
  (46, .imul, 0, 47, 0),
  (47, .iload_n 3, 0, 48, 0),
  (48, .iadd, 0, 49, 0),
  (49, .iload_n 2, 0, 50, 0),
  (50, .iload 4, 0, 52, 0),
  (52, .invokestatic 108, 0, 55, 0),
  (55, .iastore, 0, 56, 0),
  (56, .iconst 1, 1, 57, 0),
  (57, .ireturn, 0, 58, 0)]
def am_lv_114 : List (Nat × List Nat) := [(19, []), (22, [0, 1, 2, 3, 4]), (39, [0, 1, 2, 3, 4])]
/-- DeadLastsModel.get -/
def am_cd_115 : List am_T5 := [
  (0, .iload_n 1, 0, 1, 0),
  (1, .invokestatic 94, 0, 4, 0),
  (4, .ifCond .eq 25, 0, 7, 29),
  (7, .iload_n 2, 0, 8, 0),
  (8, .i2l, 0, 9, 0),
  (9, .lconst 0, 0, 10, 0),
  (10, .ldc2_w 98, 0, 13, 0),
  (13, .invokestatic 85, 0, 16, 0),
  (16, .ifCond .eq 13, 0, 19, 29),
  (19, .aload_n 0, 0, 20, 0),
  (20, .iload_n 1, 0, 21, 0),
  (21, .iload_n 2, 0, 22, 0),
  (22, .iload_n 3, 0, 23, 0),
  (23, .invokevirtual 104, 0, 26, 0),
  (26, .ifCond .eq 6, 0, 29, 32),
  (29, .ldc 112, (-2147483648), 31, 0),
  (31, .ireturn, 0, 32, 0),
  (32, .aload_n 0, 0, 33, 0),
  (33, .getfield 16, 0, 36, 0),
  (36, .bipush 60, 60, 38, 0),
  (38, .iload_n 1, 0, 39, 0),
  (39, .imul, 0, 40, 0),
  (40, .iload_n 3, 0, 41, 0),
  (41, .iadd, 0, 42, 0),
  (42, .iaload, 0, 43, 0),
  (43, .ireturn, 0, 44, 0)]
def am_lv_115 : List (Nat × List Nat) := [(29, []), (32, [0, 1, 3])]
/-- DeadLastsModel.copy -/
def am_cd_116 : List am_T5 := [
  (0, .iload_n 1, 0, 1, 0),
  (1, .invokestatic 94, 0, 4, 0),
  (4, .ifCond .eq 10, 0, 7, 14),
  (7, .iload_n 3, 0, 8, 0),
  (8, .invokestatic 94, 0, 11, 0),
  (11, .ifCond .ne 6, 0, 14, 17),
  (14, .bipush (-2), (-2), 16, 0),
  (16, .ireturn, 0, 17, 0),
  (17, .aload_n 0, 0, 18, 0),
  (18, .getfield 7, 0, 21, 0),
  (21, .iload_n 1, 0, 22, 0),
  (22, .iaload, 0, 23, 0),
  (23, .ifCond .lt 12, 0, 26, 35),
  (26, .aload_n 0, 0, 27, 0),
  (27, .getfield 7, 0, 30, 0),
  (30, .iload_n 3, 0, 31, 0),
  (31, .iaload, 0, 32, 0),
  (32, .ifCond .ge 9, 0, 35, 41),
  (35, .aload_n 0, 0, 36, 0),
  (36, .iconst 1, 1, 37, 0),
  (37, .invokevirtual 100, 0, 40, 0),
  (40, .ireturn, 0, 41, 0),
  (41, .aload_n 0, 0, 42, 0),
  (42, .getfield 7, 0, 45, 0),
  (45, .iload_n 1, 0, 46, 0),
  (46, .iaload, 0, 47, 0),
  (47, .aload_n 0, 0, 48, 0),
  (48, .getfield 7, 0, 51, 0),
  (51, .iload_n 3, 0, 52, 0),
  (52, .iaload, 0, 53, 0),
  (53, .if_icmp .eq 9, 0, 56, 62),
  (56, .aload_n 0, 0, 57, 0),
  (57, .iconst 4, 4, 58, 0),
  (58, .invokevirtual 100, 0, 61, 0),
  (61, .ireturn, 0, 62, 0),
  (62, .iload_n 2, 0, 63, 0),
  (63, .ifCond .lt 48, 0, 66, 111),
  (66, .iload 4, 0, 68, 0),
  (68, .ifCond .lt 43, 0, 71, 111),
  (71, .iload 5, 0, 73, 0),
  (73, .ifCond .lt 38, 0, 76, 111),
  (76, .iload_n 2, 0, 77, 0),
  (77, .i2l, 0, 78, 0),
  (78, .iload 5, 0, 80, 0),
  (80, .i2l, 0, 81, 0),
  (81, .ladd, 0, 82, 0),
  (82, .aload_n 0, 0, 83, 0),
  (83, .getfield 13, 0, 86, 0),
  (86, .iload_n 1, 0, 87, 0),
  (87, .iaload, 0, 88, 0),
  (88, .i2l, 0, 89, 0),
  (89, .lcmp, 0, 90, 0),
  (90, .ifCond .gt 21, 0, 93, 111),
  (93, .iload 4, 0, 95, 0),
  (95, .i2l, 0, 96, 0),
  (96, .iload 5, 0, 98, 0),
  (98, .i2l, 0, 99, 0),
  (99, .ladd, 0, 100, 0),
  (100, .aload_n 0, 0, 101, 0),
  (101, .getfield 13, 0, 104, 0),
  (104, .iload_n 3, 0, 105, 0),
  (105, .iaload, 0, 106, 0),
  (106, .i2l, 0, 107, 0),
  (107, .lcmp, 0, 108, 0),
  (108, .ifCond .le 9, 0, 111, 117),
  (111, .aload_n 0, 0, 112, 0),
  (112, .iconst 2, 2, 113, 0),
  (113, .invokevirtual 100, 0, 116, 0),
  (116, .ireturn, 0, 117, 0),
  (117, .iconst 0, 0, 118, 0),
  (118, .istore 6, 0, 120, 0),
  (120, .iload 6, 0, 122, 0),
  (122, .iload 5, 0, 124, 0),
  (124, .if_icmp .ge 30, 0, 127, 154),
  (127, .aload_n 0, 0, 128, 0),
  (128, .getfield 19, 0, 131, 0),
  (131, .iload 6, 0, 133, 0),
  (133, .aload_n 0, 0, 134, 0),
  (134, .getfield 16, 0, 137, 0),
  (137, .bipush 60, 60, 139, 0),
  (139, .iload_n 1, 0, 140, 0),
  (140, .imul, 0, 141, 0),
  (141, .iload_n 2, 0, 142, 0),
  (142, .iadd, 0, 143, 0),
  (143, .iload 6, 0, 145, 0),
  (145, .iadd, 0, 146, 0),
  (146, .iaload, 0, 147, 0),
  (147, .iastore, 0, 148, 0),
  (148, .iinc 6 1, 1, 151, 0),
  (151, .goto (-31), 0, 154, 120),
  (154, .iconst 0, 0, 155, 0),
  (155, .istore 6, 0, 157, 0),
  (157, .iload 6, 0, 159, 0),
  (159, .iload 5, 0, 161, 0),
  (161, .if_icmp .ge 31, 0, 164, 192),
  (164, .aload_n 0, 0, 165, 0),
  (165, .getfield 16, 0, 168, 0),
  (168, .bipush 60, 60, 170, 0),
  (170, .iload_n 3, 0, 171, 0),
  (171, .imul, 0, 172, 0),
  (172, .iload 4, 0, 174, 0),
  (174, .iadd, 0, 175, 0),
  (175, .iload 6, 0, 177, 0),
  (177, .iadd, 0, 178, 0),
  (178, .aload_n 0, 0, 179, 0),
  (179, .getfield 19, 0, 182, 0),
  (182, .iload 6, 0, 184, 0),
  (184, .iaload, 0, 185, 0),
  (185, .iastore, 0, 186, 0),
  (186, .iinc 6 1, 1, 189, 0),
  (189, .goto (-32), 0, 192, 157),
  (192, .iconst 1, 1, 193, 0),
  (193, .ireturn, 0, 194, 0)]
def am_lv_116 : List (Nat × List Nat) := [(14, []), (17, [0, 1, 2, 3, 4, 5]), (35, [0]), (41, [0, 1, 2, 3, 4, 5]), (62, [0, 1, 2, 3, 4, 5]), (111, [0]), (117, [0, 1, 2, 3, 4, 5]), (120, [0, 1, 2, 3, 4, 5, 6]), (154, [0, 3, 4, 5]), (157, [0, 3, 4, 5, 6]), (192, [])]
/-- DeadLastsModel.isText -/
def am_cd_117 : List am_T5 := [
  (0, .iload_n 0, 0, 1, 0),
  (1, .i2l, 0, 2, 0),
  (2, .lconst 0, 0, 3, 0),
  (3, .ldc2_w 98, 0, 6, 0),
  (6, .invokestatic 85, 0, 9, 0),
  (9, .ireturn, 0, 10, 0)]
def am_lv_117 : List (Nat × List Nat) := []
/-- DeadLastsModel.type -/
def am_cd_118 : List am_T5 := [
  (0, .iload_n 1, 0, 1, 0),
  (1, .invokestatic 113, 0, 4, 0),
  (4, .ifCond .eq 15, 0, 7, 19),
  (7, .iload_n 2, 0, 8, 0),
  (8, .i2l, 0, 9, 0),
  (9, .lconst 0, 0, 10, 0),
  (10, .ldc2_w 116, 0, 13, 0),
  (13, .invokestatic 85, 0, 16, 0),
  (16, .ifCond .ne 6, 0, 19, 22),
  (19, .bipush (-2), (-2), 21, 0),
  (21, .ireturn, 0, 22, 0),
  (22, .aload_n 0, 0, 23, 0),
  (23, .getfield 25, 0, 26, 0),
  (26, .iload_n 1, 0, 27, 0),
  (27, .iaload, 0, 28, 0),
  (28, .iload_n 1, 0, 29, 0),
  (29, .ifCond .ne 8, 0, 32, 37),
  (32, .bipush 41, 41, 34, 0),
  (34, .goto 15, 0, 37, 49),
  (37, .iload_n 1, 0, 38, 0),
  (38, .iconst 1, 1, 39, 0),
  (39, .if_icmp .ne 8, 0, 42, 47),
  (42, .bipush 47, 47, 44, 0),
  (44, .goto 5, 0, 47, 49),
  (47, .bipush 55, 55, 49, 0),
  (49, .if_icmp .ne 6, 0, 52, 55),
  (52, .bipush (-4), (-4), 54, 0),
  (54, .ireturn, 0, 55, 0),
  (55, .aload_n 0, 0, 56, 0),
  (56, .getfield 22, 0, 59, 0),
  (59, .bipush 56, 56, 61, 0),
  (61, .iload_n 1, 0, 62, 0),
  (62, .imul, 0, 63, 0),
  (63, .aload_n 0, 0, 64, 0),
  (64, .getfield 25, 0, 67, 0),
  (67, .iload_n 1, 0, 68, 0),
  (68, .iaload, 0, 69, 0),
  (69, .iadd, 0, 70, 0),
  (70, .iload_n 2, 0, 71, 0),
  (71, .iastore, 0, 72, 0),
  (72, .aload_n 0, 0, 73, 0),
  (73, .getfield 25, 0, 76, 0),
  (76, .iload_n 1, 0, 77, 0),
  (77, .dup2, 0, 78, 0),
  (78, .iaload, 0, 79, 0),
  (79, .iconst 1, 1, 80, 0),
  (80, .iadd, 0, 81, 0),
  (81, .iastore, 0, 82, 0),
  (82, .aload_n 0, 0, 83, 0),
  (83, .getfield 25, 0, 86, 0),
  (86, .iload_n 1, 0, 87, 0),
  (87, .iaload, 0, 88, 0),
  (88, .ireturn, 0, 89, 0)]
def am_lv_118 : List (Nat × List Nat) := [(19, []), (22, [0, 1, 2]), (37, [0, 1, 2]), (47, [0, 1, 2]), (49, [0, 1, 2]), (55, [0, 1, 2])]
/-- DeadLastsModel.wipe -/
def am_cd_119 : List am_T5 := [
  (0, .iload_n 1, 0, 1, 0),
  (1, .invokestatic 113, 0, 4, 0),
  (4, .ifCond .ne 6, 0, 7, 10),
  (7, .bipush (-2), (-2), 9, 0),
  (9, .ireturn, 0, 10, 0),
  (10, .aload_n 0, 0, 11, 0),
  (11, .getfield 25, 0, 14, 0),
  (14, .iload_n 1, 0, 15, 0),
  (15, .iaload, 0, 16, 0),
  (16, .istore_n 2, 0, 17, 0),
  (17, .aload_n 0, 0, 18, 0),
  (18, .getfield 25, 0, 21, 0),
  (21, .iload_n 1, 0, 22, 0),
  (22, .iconst 0, 0, 23, 0),
  (23, .iastore, 0, 24, 0),
  (24, .iload_n 2, 0, 25, 0),
  (25, .ireturn, 0, 26, 0)]
def am_lv_119 : List (Nat × List Nat) := [(10, [0, 1])]
/-- DeadLastsModel.undo -/
def am_cd_120 : List am_T5 := [
  (0, .iload_n 1, 0, 1, 0),
  (1, .invokestatic 113, 0, 4, 0),
  (4, .ifCond .ne 6, 0, 7, 10),
  (7, .bipush (-2), (-2), 9, 0),
  (9, .ireturn, 0, 10, 0),
  (10, .aload_n 0, 0, 11, 0),
  (11, .getfield 25, 0, 14, 0),
  (14, .iload_n 1, 0, 15, 0),
  (15, .iaload, 0, 16, 0),
  (16, .ifCond .ne 6, 0, 19, 22),
  (19, .bipush (-3), (-3), 21, 0),
  (21, .ireturn, 0, 22, 0),
  (22, .aload_n 0, 0, 23, 0),
  (23, .getfield 25, 0, 26, 0),
  (26, .iload_n 1, 0, 27, 0),
  (27, .dup2, 0, 28, 0),
  (28, .iaload, 0, 29, 0),
  (29, .iconst 1, 1, 30, 0),
  (30, .isub, 0, 31, 0),
  (31, .iastore, 0, 32, 0),
  (32, .aload_n 0, 0, 33, 0),
  (33, .getfield 25, 0, 36, 0),
  (36, .iload_n 1, 0, 37, 0),
  (37, .iaload, 0, 38, 0),
  (38, .ireturn, 0, 39, 0)]
def am_lv_120 : List (Nat × List Nat) := [(10, [0, 1]), (22, [0, 1])]
/-- DeadLastsModel.torn -/
def am_cd_121 : List am_T5 := [
  (0, .aload_n 0, 0, 1, 0),
  (1, .iconst 0, 0, 2, 0),
  (2, .putfield 118, 0, 5, 0),
  (5, .aload_n 0, 0, 6, 0),
  (6, .iconst 0, 0, 7, 0),
  (7, .putfield 121, 0, 10, 0),
  (10, .iload_n 1, 0, 11, 0),
  (11, .ireturn, 0, 12, 0)]
def am_lv_121 : List (Nat × List Nat) := []
/-- DeadLastsModel.cellOf -/
def am_cd_122 : List am_T5 := [
  (0, .iload_n 0, 0, 1, 0),
  (1, .bipush 46, 46, 3, 0),
  (3, .if_icmp .ne 7, 0, 6, 10),
  (6, .iconst 0, 0, 7, 0),
  (7, .goto 35, 0, 10, 42),
  (10, .iload_n 0, 0, 11, 0),
  (11, .bipush 35, 35, 13, 0),
  (13, .if_icmp .ne 7, 0, 16, 20),
  (16, .iconst 1, 1, 17, 0),
  (17, .goto 25, 0, 20, 42),
  (20, .iload_n 0, 0, 21, 0),
  (21, .bipush 99, 99, 23, 0),
  (23, .if_icmp .ne 7, 0, 26, 30),
  (26, .iconst 2, 2, 27, 0),
  (27, .goto 15, 0, 30, 42),
  (30, .iload_n 0, 0, 31, 0),
  (31, .bipush 114, 114, 33, 0),
  (33, .if_icmp .ne 7, 0, 36, 40),
  (36, .iconst 3, 3, 37, 0),
  (37, .goto 5, 0, 40, 42),
  (40, .bipush (-9), (-9), 42, 0),
  (42, .ireturn, 0, 43, 0)]
def am_lv_122 : List (Nat × List Nat) := [(10, [0]), (20, [0]), (30, [0]), (40, []), (42, [])]
/-- DeadLastsModel.wayOf -/
def am_cd_123 : List am_T5 := [
  (0, .iload_n 0, 0, 1, 0),
  (1, .bipush 110, 110, 3, 0),
  (3, .if_icmp .ne 7, 0, 6, 10),
  (6, .iconst 0, 0, 7, 0),
  (7, .goto 35, 0, 10, 42),
  (10, .iload_n 0, 0, 11, 0),
  (11, .bipush 101, 101, 13, 0),
  (13, .if_icmp .ne 7, 0, 16, 20),
  (16, .iconst 1, 1, 17, 0),
  (17, .goto 25, 0, 20, 42),
  (20, .iload_n 0, 0, 21, 0),
  (21, .bipush 115, 115, 23, 0),
  (23, .if_icmp .ne 7, 0, 26, 30),
  (26, .iconst 2, 2, 27, 0),
  (27, .goto 15, 0, 30, 42),
  (30, .iload_n 0, 0, 31, 0),
  (31, .bipush 119, 119, 33, 0),
  (33, .if_icmp .ne 7, 0, 36, 40),
  (36, .iconst 3, 3, 37, 0),
  (37, .goto 5, 0, 40, 42),
  (40, .bipush (-9), (-9), 42, 0),
  (42, .ireturn, 0, 43, 0)]
def am_lv_123 : List (Nat × List Nat) := [(10, [0]), (20, [0]), (30, [0]), (40, []), (42, [])]
/-- DeadLastsModel.readsTown -/
def am_cd_124 : List am_T5 := [
  (0, .aload_n 0, 0, 1, 0),
  (1, .iconst 0, 0, 2, 0),
  (2, .putfield 118, 0, 5, 0),
  (5, .aload_n 0, 0, 6, 0),
  (6, .iconst 0, 0, 7, 0),
  (7, .putfield 121, 0, 10, 0),
  (10, .aload_n 0, 0, 11, 0),
  (11, .getfield 25, 0, 14, 0),
  (14, .iconst 0, 0, 15, 0),
  (15, .iaload, 0, 16, 0),
  (16, .istore_n 1, 0, 17, 0),
  (17, .iconst 0, 0, 18, 0),
  (18, .istore_n 2, 0, 19, 0),
  (19, .iconst 0, 0, 20, 0),
  (20, .istore_n 3, 0, 21, 0),
  (21, .iconst 0, 0, 22, 0),
  (22, .istore 4, 0, 24, 0),
  (24, .iload 4, 0, 26, 0),
  (26, .iload_n 1, 0, 27, 0),
  (27, .if_icmp .ge 135, 0, 30, 162),
  (30, .aload_n 0, 0, 31, 0),
  (31, .getfield 22, 0, 34, 0),
  (34, .iload 4, 0, 36, 0),
  (36, .iaload, 0, 37, 0),
  (37, .istore 5, 0, 39, 0),
  (39, .iload 5, 0, 41, 0),
  (41, .bipush 59, 59, 43, 0),
  (43, .if_icmp .ne 42, 0, 46, 85),
  (46, .iload_n 3, 0, 47, 0),
  (47, .ifCond .eq 18, 0, 50, 65),
  (50, .aload_n 0, 0, 51, 0),
  (51, .getfield 121, 0, 54, 0),
  (54, .ifCond .le 18, 0, 57, 72),
  (57, .iload_n 3, 0, 58, 0),
  (58, .aload_n 0, 0, 59, 0),
  (59, .getfield 121, 0, 62, 0),
  (62, .if_icmp .ge 10, 0, 65, 72),
  (65, .aload_n 0, 0, 66, 0),
  (66, .iload 4, 0, 68, 0),
  (68, .invokevirtual 124, 0, 71, 0),
  (71, .ireturn, 0, 72, 0),
  (72, .aload_n 0, 0, 73, 0),
  (73, .iload_n 3, 0, 74, 0),
  (74, .putfield 121, 0, 77, 0),
  (77, .iconst 0, 0, 78, 0),
  (78, .istore_n 3, 0, 79, 0),
  (79, .iinc 2 1, 1, 82, 0),
  (82, .goto 74, 0, 85, 156),
  (85, .iload 5, 0, 87, 0),
  (87, .invokestatic 127, 0, 90, 0),
  (90, .istore 6, 0, 92, 0),
  (92, .iload 6, 0, 94, 0),
  (94, .bipush (-9), (-9), 96, 0),
  (96, .if_icmp .eq 29, 0, 99, 125),
  (99, .iload_n 2, 0, 100, 0),
  (100, .bipush 6, 6, 102, 0),
  (102, .if_icmp .eq 23, 0, 105, 125),
  (105, .iload_n 3, 0, 106, 0),
  (106, .aload_n 0, 0, 107, 0),
  (107, .getfield 121, 0, 110, 0),
  (110, .ifCond .ne 8, 0, 113, 118),
  (113, .bipush 6, 6, 115, 0),
  (115, .goto 7, 0, 118, 122),
  (118, .aload_n 0, 0, 119, 0),
  (119, .getfield 121, 0, 122, 0),
  (122, .if_icmp .ne 10, 0, 125, 132),
  (125, .aload_n 0, 0, 126, 0),
  (126, .iload 4, 0, 128, 0),
  (128, .invokevirtual 124, 0, 131, 0),
  (131, .ireturn, 0, 132, 0),
  (132, .aload_n 0, 0, 133, 0),
  (133, .getfield 28, 0, 136, 0),
  (136, .aload_n 0, 0, 137, 0),
  (137, .getfield 118, 0, 140, 0),
  (140, .iload 6, 0, 142, 0),
  (142, .iastore, 0, 143, 0),
  (143, .aload_n 0, 0, 144, 0),
  (144, .dup, 0, 145, 0),
  (145, .getfield 118, 0, 148, 0),
  (148, .iconst 1, 1, 149, 0),
  (149, .iadd, 0, 150, 0),
  (150, .putfield 118, 0, 153, 0),
  (153, .iinc 3 1, 1, 156, 0),
  (156, .iinc 4 1, 1, 159, 0),
  (159, .goto (-135), 0, 162, 24),
  (162, .iload_n 1, 0, 163, 0),
  (163, .ifCond .le 21, 0, 166, 184),
  (166, .iload_n 3, 0, 167, 0),
  (167, .ifCond .eq 11, 0, 170, 178),
  (170, .iload_n 3, 0, 171, 0),
  (171, .aload_n 0, 0, 172, 0),
  (172, .getfield 121, 0, 175, 0),
  (175, .if_icmp .ge 9, 0, 178, 184),
  (178, .aload_n 0, 0, 179, 0),
  (179, .iload_n 1, 0, 180, 0),
  (180, .invokevirtual 124, 0, 183, 0),
  (183, .ireturn, 0, 184, 0),
  (184, .aload_n 0, 0, 185, 0),
  (185, .iload_n 1, 0, 186, 0),
  (186, .ifCond .le 7, 0, 189, 193),
  (189, .iload_n 3, 0, 190, 0),
  (190, .goto 4, 0, 193, 194),
  (193, .iconst 0, 0, 194, 0),
  (194, .putfield 121, 0, 197, 0),
  (197, .iconst (-1), (-1), 198, 0),
  (198, .ireturn, 0, 199, 0)]
def am_lv_124 : List (Nat × List Nat) := [(24, [0, 1, 2, 3, 4]), (65, [0, 4]), (72, [0, 1, 2, 3, 4]), (85, [0, 1, 2, 3, 4, 5]), (118, [0, 1, 2, 3, 4, 6]), (122, [0, 1, 2, 3, 4, 6]), (125, [0, 4]), (132, [0, 1, 2, 3, 4, 6]), (156, [0, 1, 2, 3, 4]), (162, [0, 1, 3]), (178, [0, 1]), (184, [0, 1, 3]), (193, []), (194, [])]
/-- DeadLastsModel.readsLasts -/
def am_cd_125 : List am_T5 := [
  (0, .aload_n 0, 0, 1, 0),
  (1, .iconst 0, 0, 2, 0),
  (2, .putfield 130, 0, 5, 0),
  (5, .aload_n 0, 0, 6, 0),
  (6, .getfield 25, 0, 9, 0),
  (9, .iconst 1, 1, 10, 0),
  (10, .iaload, 0, 11, 0),
  (11, .istore_n 1, 0, 12, 0),
  (12, .iconst 0, 0, 13, 0),
  (13, .istore_n 2, 0, 14, 0),
  (14, .iconst 0, 0, 15, 0),
  (15, .istore_n 3, 0, 16, 0),
  (16, .iconst 0, 0, 17, 0),
  (17, .istore 4, 0, 19, 0),
  (19, .iload 4, 0, 21, 0),
  (21, .iload_n 1, 0, 22, 0),
  (22, .if_icmp .ge 229, 0, 25, 251),
  (25, .aload_n 0, 0, 26, 0),
  (26, .getfield 22, 0, 29, 0),
  (29, .bipush 56, 56, 31, 0),
  (31, .iload 4, 0, 33, 0),
  (33, .iadd, 0, 34, 0),
  (34, .iaload, 0, 35, 0),
  (35, .istore 5, 0, 37, 0),
  (37, .iload_n 2, 0, 38, 0),
  (38, .ifCond .ne 37, 0, 41, 75),
  (41, .iload 5, 0, 43, 0),
  (43, .bipush 112, 112, 45, 0),
  (45, .if_icmp .eq 17, 0, 48, 62),
  (48, .iload 5, 0, 50, 0),
  (50, .bipush 100, 100, 52, 0),
  (52, .if_icmp .eq 10, 0, 55, 62),
  (55, .iload 5, 0, 57, 0),
  (57, .bipush 116, 116, 59, 0),
  (59, .if_icmp .ne 16, 0, 62, 75),
  (62, .aload_n 0, 0, 63, 0),
  (63, .getfield 130, 0, 66, 0),
  (66, .bipush 8, 8, 68, 0),
  (68, .if_icmp .ge 7, 0, 71, 75),
  (71, .iconst 1, 1, 72, 0),
  (72, .goto 4, 0, 75, 76),
  (75, .iconst 0, 0, 76, 0),
  (76, .istore 6, 0, 78, 0),
  (78, .iload_n 2, 0, 79, 0),
  (79, .iconst 1, 1, 80, 0),
  (80, .if_icmp .ne 22, 0, 83, 102),
  (83, .iload 5, 0, 85, 0),
  (85, .invokestatic 133, 0, 88, 0),
  (88, .bipush (-9), (-9), 90, 0),
  (90, .if_icmp .eq 12, 0, 93, 102),
  (93, .iload_n 3, 0, 94, 0),
  (94, .iconst 4, 4, 95, 0),
  (95, .if_icmp .ge 7, 0, 98, 102),
  (98, .iconst 1, 1, 99, 0),
  (99, .goto 4, 0, 102, 103),
  (102, .iconst 0, 0, 103, 0),
  (103, .istore 7, 0, 105, 0),
  (105, .iload_n 2, 0, 106, 0),
  (106, .iconst 1, 1, 107, 0),
  (107, .if_icmp .ne 18, 0, 110, 125),
  (110, .iload 5, 0, 112, 0),
  (112, .bipush 59, 59, 114, 0),
  (114, .if_icmp .ne 11, 0, 117, 125),
  (117, .iload_n 3, 0, 118, 0),
  (118, .ifCond .le 7, 0, 121, 125),
  (121, .iconst 1, 1, 122, 0),
  (122, .goto 4, 0, 125, 126),
  (125, .iconst 0, 0, 126, 0),
  (126, .istore 8, 0, 128, 0),
  (128, .iload 6, 0, 130, 0),
  (130, .ifCond .ne 21, 0, 133, 151),
  (133, .iload 7, 0, 135, 0),
  (135, .ifCond .ne 16, 0, 138, 151),
  (138, .iload 8, 0, 140, 0),
  (140, .ifCond .ne 11, 0, 143, 151),
  (143, .aload_n 0, 0, 144, 0),
  (144, .iconst 0, 0, 145, 0),
  (145, .putfield 130, 0, 148, 0),
  (148, .iload 4, 0, 150, 0),
  (150, .ireturn, 0, 151, 0),
  (151, .iload 6, 0, 153, 0),
  (153, .ifCond .eq 39, 0, 156, 192),
  (156, .aload_n 0, 0, 157, 0),
  (157, .getfield 31, 0, 160, 0),
  (160, .aload_n 0, 0, 161, 0),
  (161, .getfield 130, 0, 164, 0),
  (164, .iload 5, 0, 166, 0),
  (166, .bipush 112, 112, 168, 0),
  (168, .if_icmp .ne 7, 0, 171, 175),
  (171, .iconst 0, 0, 172, 0),
  (172, .goto 15, 0, 175, 187),
  (175, .iload 5, 0, 177, 0),
  (177, .bipush 100, 100, 179, 0),
  (179, .if_icmp .ne 7, 0, 182, 186),
  (182, .iconst 1, 1, 183, 0),
  (183, .goto 4, 0, 186, 187),
  (186, .iconst 2, 2, 187, 0),
  (187, .iastore, 0, 188, 0),
  (188, .iconst 1, 1, 189, 0),
  (189, .istore_n 2, 0, 190, 0),
  (190, .iconst 0, 0, 191, 0),
  (191, .istore_n 3, 0, 192, 0),
  (192, .iload 7, 0, 194, 0),
  (194, .ifCond .eq 34, 0, 197, 228),
  (197, .aload_n 0, 0, 198, 0),
  (198, .getfield 37, 0, 201, 0),
  (201, .iconst 4, 4, 202, 0),
  (202, .aload_n 0, 0, 203, 0),
  (203, .getfield 130, 0, 206, 0),
  (206, .imul, 0, 207, 0),
  (207, .iload_n 3, 0, 208, 0),
  (208, .iadd, 0, 209, 0),
  (209, .iload 5, 0, 211, 0),
  (211, .invokestatic 133, 0, 214, 0),
  (214, .iastore, 0, 215, 0),
  (215, .iinc 3 1, 1, 218, 0),
  (218, .aload_n 0, 0, 219, 0),
  (219, .getfield 34, 0, 222, 0),
  (222, .aload_n 0, 0, 223, 0),
  (223, .getfield 130, 0, 226, 0),
  (226, .iload_n 3, 0, 227, 0),
  (227, .iastore, 0, 228, 0),
  (228, .iload 8, 0, 230, 0),
  (230, .ifCond .eq 15, 0, 233, 245),
  (233, .aload_n 0, 0, 234, 0),
  (234, .dup, 0, 235, 0),
  (235, .getfield 130, 0, 238, 0),
  (238, .iconst 1, 1, 239, 0),
  (239, .iadd, 0, 240, 0),
  (240, .putfield 130, 0, 243, 0),
  (243, .iconst 0, 0, 244, 0),
  (244, .istore_n 2, 0, 245, 0),
  (245, .iinc 4 1, 1, 248, 0),
  (248, .goto (-229), 0, 251, 19),
  (251, .iload_n 1, 0, 252, 0),
  (252, .ifCond .le 18, 0, 255, 270),
  (255, .iload_n 2, 0, 256, 0),
  (256, .ifCond .eq 7, 0, 259, 263),
  (259, .iload_n 3, 0, 260, 0),
  (260, .ifCond .ne 10, 0, 263, 270),
  (263, .aload_n 0, 0, 264, 0),
  (264, .iconst 0, 0, 265, 0),
  (265, .putfield 130, 0, 268, 0),
  (268, .iload_n 1, 0, 269, 0),
  (269, .ireturn, 0, 270, 0),
  (270, .aload_n 0, 0, 271, 0),
  (271, .dup, 0, 272, 0),
  (272, .getfield 130, 0, 275, 0),
  (275, .iload_n 1, 0, 276, 0),
  (276, .ifCond .le 7, 0, 279, 283),
  (279, .iconst 1, 1, 280, 0),
  (280, .goto 4, 0, 283, 284),
  (283, .iconst 0, 0, 284, 0),
  (284, .iadd, 0, 285, 0),
  (285, .putfield 130, 0, 288, 0),
  (288, .iconst (-1), (-1), 289, 0),
  (289, .ireturn, 0, 290, 0)]
def am_lv_125 : List (Nat × List Nat) := [(19, [0, 1, 2, 3, 4]), (62, [0, 1, 2, 3, 4, 5]), (75, [0, 1, 2, 3, 4, 5]), (76, [0, 1, 2, 3, 4, 5]), (102, [0, 1, 2, 3, 4, 5, 6]), (103, [0, 1, 2, 3, 4, 5, 6]), (125, [0, 1, 2, 3, 4, 5, 6, 7]), (126, [0, 1, 2, 3, 4, 5, 6, 7]), (151, [0, 1, 2, 3, 4, 5, 6, 7, 8]), (175, [0, 1, 4, 5, 7, 8]), (186, [0, 1, 4, 5, 7, 8]), (187, [0, 1, 4, 5, 7, 8]), (192, [0, 1, 2, 3, 4, 5, 7, 8]), (228, [0, 1, 2, 3, 4, 8]), (245, [0, 1, 2, 3, 4]), (251, [0, 1, 2, 3]), (263, [0, 1]), (270, [0, 1]), (283, []), (284, [])]
/-- DeadLastsModel.figureOf -/
def am_cd_126 : List am_T5 := [
  (0, .iload_n 0, 0, 1, 0),
  (1, .i2l, 0, 2, 0),
  (2, .ldc2_w 136, 0, 5, 0),
  (5, .bipush 48, 48, 7, 0),
  (7, .iload_n 1, 0, 8, 0),
  (8, .iadd, 0, 9, 0),
  (9, .i2l, 0, 10, 0),
  (10, .invokestatic 85, 0, 13, 0),
  (13, .ifCond .eq 10, 0, 16, 23),
  (16, .iload_n 0, 0, 17, 0),
  (17, .bipush 48, 48, 19, 0),
  (19, .isub, 0, 20, 0),
  (20, .goto 5, 0, 23, 25),
  (23, .bipush (-9), (-9), 25, 0),
  (25, .ireturn, 0, 26, 0)]
def am_lv_126 : List (Nat × List Nat) := [(23, []), (25, [])]
/-- DeadLastsModel.personOf -/
def am_cd_127 : List am_T5 := [
  (0, .iload_n 0, 0, 1, 0),
  (1, .tableswitch 70 0 5 #[39, 45, 52, 52, 59, 65], 0, 40, 0),
  (40, .iload_n 1, 0, 41, 0),
  (41, .iconst 3, 3, 42, 0),
  (42, .invokestatic 138, 0, 45, 0),
  (45, .ireturn, 0, 46, 0),
  (46, .iload_n 1, 0, 47, 0),
  (47, .bipush 9, 9, 49, 0),
  (49, .invokestatic 138, 0, 52, 0),
  (52, .ireturn, 0, 53, 0),
  (53, .iload_n 1, 0, 54, 0),
  (54, .bipush 7, 7, 56, 0),
  (56, .invokestatic 138, 0, 59, 0),
  (59, .ireturn, 0, 60, 0),
  (60, .iload_n 1, 0, 61, 0),
  (61, .iconst 5, 5, 62, 0),
  (62, .invokestatic 138, 0, 65, 0),
  (65, .ireturn, 0, 66, 0),
  (66, .iload_n 1, 0, 67, 0),
  (67, .invokestatic 133, 0, 70, 0),
  (70, .ireturn, 0, 71, 0),
  (71, .iload_n 1, 0, 72, 0),
  (72, .bipush 59, 59, 74, 0),
  (74, .if_icmp .ne 7, 0, 77, 81),
  (77, .iconst 0, 0, 78, 0),
  (78, .goto 5, 0, 81, 83),
  (81, .bipush (-9), (-9), 83, 0),
  (83, .ireturn, 0, 84, 0)]
def am_lv_127 : List (Nat × List Nat) := [(46, [1]), (53, [1]), (60, [1]), (66, [1]), (71, [1]), (81, []), (83, [])]
/-- DeadLastsModel.readsPeople -/
def am_cd_128 : List am_T5 := [
  (0, .aload_n 0, 0, 1, 0),
  (1, .iconst 0, 0, 2, 0),
  (2, .putfield 141, 0, 5, 0),
  (5, .aload_n 0, 0, 6, 0),
  (6, .getfield 25, 0, 9, 0),
  (9, .iconst 2, 2, 10, 0),
  (10, .iaload, 0, 11, 0),
  (11, .istore_n 1, 0, 12, 0),
  (12, .iconst 0, 0, 13, 0),
  (13, .istore_n 2, 0, 14, 0),
  (14, .iload_n 2, 0, 15, 0),
  (15, .iload_n 1, 0, 16, 0),
  (16, .if_icmp .ge 128, 0, 19, 144),
  (19, .iload_n 2, 0, 20, 0),
  (20, .bipush 7, 7, 22, 0),
  (22, .irem, 0, 23, 0),
  (23, .istore_n 3, 0, 24, 0),
  (24, .iload_n 3, 0, 25, 0),
  (25, .aload_n 0, 0, 26, 0),
  (26, .getfield 22, 0, 29, 0),
  (29, .bipush 112, 112, 31, 0),
  (31, .iload_n 2, 0, 32, 0),
  (32, .iadd, 0, 33, 0),
  (33, .iaload, 0, 34, 0),
  (34, .invokestatic 144, 0, 37, 0),
  (37, .istore 4, 0, 39, 0),
  (39, .iload 4, 0, 41, 0),
  (41, .bipush (-9), (-9), 43, 0),
  (43, .if_icmp .ne 10, 0, 46, 53),
  (46, .aload_n 0, 0, 47, 0),
  (47, .iconst 0, 0, 48, 0),
  (48, .putfield 141, 0, 51, 0),
  (51, .iload_n 2, 0, 52, 0),
  (52, .ireturn, 0, 53, 0),
  (53, .iconst 5, 5, 54, 0),
  (54, .iload_n 2, 0, 55, 0),
  (55, .bipush 7, 7, 57, 0),
  (57, .idiv, 0, 58, 0),
  (58, .imul, 0, 59, 0),
  (59, .istore 5, 0, 61, 0),
  (61, .iload_n 3, 0, 62, 0),
  (62, .ifCond .ne 18, 0, 65, 80),
  (65, .aload_n 0, 0, 66, 0),
  (66, .getfield 40, 0, 69, 0),
  (69, .iload 5, 0, 71, 0),
  (71, .bipush 10, 10, 73, 0),
  (73, .iload 4, 0, 75, 0),
  (75, .imul, 0, 76, 0),
  (76, .iastore, 0, 77, 0),
  (77, .goto 42, 0, 80, 119),
  (80, .iload_n 3, 0, 81, 0),
  (81, .iconst 1, 1, 82, 0),
  (82, .if_icmp .ne 18, 0, 85, 100),
  (85, .aload_n 0, 0, 86, 0),
  (86, .getfield 40, 0, 89, 0),
  (89, .iload 5, 0, 91, 0),
  (91, .dup2, 0, 92, 0),
  (92, .iaload, 0, 93, 0),
  (93, .iload 4, 0, 95, 0),
  (95, .iadd, 0, 96, 0),
  (96, .iastore, 0, 97, 0),
  (97, .goto 22, 0, 100, 119),
  (100, .iload_n 3, 0, 101, 0),
  (101, .bipush 6, 6, 103, 0),
  (103, .if_icmp .ge 16, 0, 106, 119),
  (106, .aload_n 0, 0, 107, 0),
  (107, .getfield 40, 0, 110, 0),
  (110, .iload 5, 0, 112, 0),
  (112, .iload_n 3, 0, 113, 0),
  (113, .iadd, 0, 114, 0),
  (114, .iconst 1, 1, 115, 0),
  (115, .isub, 0, 116, 0),
  (116, .iload 4, 0, 118, 0),
  (118, .iastore, 0, 119, 0),
  (119, .aload_n 0, 0, 120, 0),
  (120, .dup, 0, 121, 0),
  (121, .getfield 141, 0, 124, 0),
  (124, .iload_n 3, 0, 125, 0),
  (125, .iconst 5, 5, 126, 0),
  (126, .if_icmp .ne 7, 0, 129, 133),
  (129, .iconst 1, 1, 130, 0),
  (130, .goto 4, 0, 133, 134),
  (133, .iconst 0, 0, 134, 0),
  (134, .iadd, 0, 135, 0),
  (135, .putfield 141, 0, 138, 0),
  (138, .iinc 2 1, 1, 141, 0),
  (141, .goto (-127), 0, 144, 14),
  (144, .iload_n 1, 0, 145, 0),
  (145, .ifCond .le 19, 0, 148, 164),
  (148, .iload_n 1, 0, 149, 0),
  (149, .bipush 7, 7, 151, 0),
  (151, .irem, 0, 152, 0),
  (152, .bipush 6, 6, 154, 0),
  (154, .if_icmp .eq 10, 0, 157, 164),
  (157, .aload_n 0, 0, 158, 0),
  (158, .iconst 0, 0, 159, 0),
  (159, .putfield 141, 0, 162, 0),
  (162, .iload_n 1, 0, 163, 0),
  (163, .ireturn, 0, 164, 0),
  (164, .iconst (-1), (-1), 165, 0),
  (165, .ireturn, 0, 166, 0)]
def am_lv_128 : List (Nat × List Nat) := [(14, [0, 1, 2]), (53, [0, 1, 2, 3, 4]), (80, [0, 1, 2, 3, 4, 5]), (100, [0, 1, 2, 3, 4, 5]), (119, [0, 1, 2, 3]), (133, [0, 1, 2]), (134, [0, 1, 2]), (144, [0, 1]), (164, [])]
/-- DeadLastsModel.readsText -/
def am_cd_129 : List am_T5 := [
  (0, .iload_n 1, 0, 1, 0),
  (1, .ifCond .ne 10, 0, 4, 11),
  (4, .aload_n 0, 0, 5, 0),
  (5, .invokevirtual 147, 0, 8, 0),
  (8, .goto 19, 0, 11, 27),
  (11, .iload_n 1, 0, 12, 0),
  (12, .iconst 1, 1, 13, 0),
  (13, .if_icmp .ne 10, 0, 16, 23),
  (16, .aload_n 0, 0, 17, 0),
  (17, .invokevirtual 151, 0, 20, 0),
  (20, .goto 7, 0, 23, 27),
  (23, .aload_n 0, 0, 24, 0),
  (24, .invokevirtual 154, 0, 27, 0),
  (27, .ireturn, 0, 28, 0)]
def am_lv_129 : List (Nat × List Nat) := [(11, [0, 1]), (23, [0]), (27, [])]
/-- DeadLastsModel.fault -/
def am_cd_130 : List am_T5 := [
  (0, .iload_n 1, 0, 1, 0),
  (1, .invokestatic 113, 0, 4, 0),
  (4, .ifCond .eq 11, 0, 7, 15),
  (7, .aload_n 0, 0, 8, 0),
  (8, .iload_n 1, 0, 9, 0),
  (9, .invokevirtual 157, 0, 12, 0),
  (12, .goto 5, 0, 15, 17),
  (15, .bipush (-2), (-2), 17, 0),
  (17, .ireturn, 0, 18, 0)]
def am_lv_130 : List (Nat × List Nat) := [(15, []), (17, [])]
/-- DeadLastsModel.isLast -/
def am_cd_131 : List am_T5 := [
  (0, .iload_n 1, 0, 1, 0),
  (1, .i2l, 0, 2, 0),
  (2, .lconst 0, 0, 3, 0),
  (3, .aload_n 0, 0, 4, 0),
  (4, .getfield 130, 0, 7, 0),
  (7, .iconst 1, 1, 8, 0),
  (8, .isub, 0, 9, 0),
  (9, .i2l, 0, 10, 0),
  (10, .invokestatic 85, 0, 13, 0),
  (13, .ireturn, 0, 14, 0)]
def am_lv_131 : List (Nat × List Nat) := []
/-- DeadLastsModel.isPerson -/
def am_cd_132 : List am_T5 := [
  (0, .iload_n 1, 0, 1, 0),
  (1, .i2l, 0, 2, 0),
  (2, .lconst 0, 0, 3, 0),
  (3, .aload_n 0, 0, 4, 0),
  (4, .getfield 141, 0, 7, 0),
  (7, .iconst 1, 1, 8, 0),
  (8, .isub, 0, 9, 0),
  (9, .i2l, 0, 10, 0),
  (10, .invokestatic 85, 0, 13, 0),
  (13, .ireturn, 0, 14, 0)]
def am_lv_132 : List (Nat × List Nat) := []
/-- DeadLastsModel.isStep -/
def am_cd_133 : List am_T5 := [
  (0, .iload_n 0, 0, 1, 0),
  (1, .i2l, 0, 2, 0),
  (2, .lconst 0, 0, 3, 0),
  (3, .ldc2_w 160, 0, 6, 0),
  (6, .invokestatic 85, 0, 9, 0),
  (9, .ireturn, 0, 10, 0)]
def am_lv_133 : List (Nat × List Nat) := []
/-- DeadLastsModel.cell -/
def am_cd_134 : List am_T5 := [
  (0, .aload_n 0, 0, 1, 0),
  (1, .invokevirtual 147, 0, 4, 0),
  (4, .pop, 0, 5, 0),
  (5, .iload_n 1, 0, 6, 0),
  (6, .i2l, 0, 7, 0),
  (7, .lconst 0, 0, 8, 0),
  (8, .ldc2_w 162, 0, 11, 0),
  (11, .invokestatic 85, 0, 14, 0),
  (14, .ifCond .ne 8, 0, 17, 22),
  (17, .bipush (-2), (-2), 19, 0),
  (19, .goto 21, 0, 22, 40),
  (22, .iload_n 1, 0, 23, 0),
  (23, .aload_n 0, 0, 24, 0),
  (24, .getfield 118, 0, 27, 0),
  (27, .if_icmp .ge 12, 0, 30, 39),
  (30, .aload_n 0, 0, 31, 0),
  (31, .getfield 28, 0, 34, 0),
  (34, .iload_n 1, 0, 35, 0),
  (35, .iaload, 0, 36, 0),
  (36, .goto 4, 0, 39, 40),
  (39, .iconst (-1), (-1), 40, 0),
  (40, .ireturn, 0, 41, 0)]
def am_lv_134 : List (Nat × List Nat) := [(22, [0, 1]), (39, []), (40, [])]
/-- DeadLastsModel.lastBy -/
def am_cd_135 : List am_T5 := [
  (0, .iload_n 2, 0, 1, 0),
  (1, .ifCond .ne 12, 0, 4, 13),
  (4, .aload_n 0, 0, 5, 0),
  (5, .getfield 31, 0, 8, 0),
  (8, .iload_n 1, 0, 9, 0),
  (9, .iaload, 0, 10, 0),
  (10, .goto 45, 0, 13, 55),
  (13, .iload_n 2, 0, 14, 0),
  (14, .iconst 1, 1, 15, 0),
  (15, .if_icmp .ne 12, 0, 18, 27),
  (18, .aload_n 0, 0, 19, 0),
  (19, .getfield 34, 0, 22, 0),
  (22, .iload_n 1, 0, 23, 0),
  (23, .iaload, 0, 24, 0),
  (24, .goto 31, 0, 27, 55),
  (27, .iload_n 2, 0, 28, 0),
  (28, .iconst 2, 2, 29, 0),
  (29, .isub, 0, 30, 0),
  (30, .aload_n 0, 0, 31, 0),
  (31, .getfield 34, 0, 34, 0),
  (34, .iload_n 1, 0, 35, 0),
  (35, .iaload, 0, 36, 0),
  (36, .if_icmp .ge 18, 0, 39, 54),
  (39, .aload_n 0, 0, 40, 0),
  (40, .getfield 37, 0, 43, 0),
  (43, .iconst 4, 4, 44, 0),
  (44, .iload_n 1, 0, 45, 0),
  (45, .imul, 0, 46, 0),
  (46, .iload_n 2, 0, 47, 0),
  (47, .iadd, 0, 48, 0),
  (48, .iconst 2, 2, 49, 0),
  (49, .isub, 0, 50, 0),
  (50, .iaload, 0, 51, 0),
  (51, .goto 4, 0, 54, 55),
  (54, .iconst (-1), (-1), 55, 0),
  (55, .ireturn, 0, 56, 0)]
def am_lv_135 : List (Nat × List Nat) := [(13, [0, 1, 2]), (27, [0, 1, 2]), (54, []), (55, [])]
/-- DeadLastsModel.last -/
def am_cd_136 : List am_T5 := [
  (0, .aload_n 0, 0, 1, 0),
  (1, .invokevirtual 151, 0, 4, 0),
  (4, .pop, 0, 5, 0),
  (5, .aload_n 0, 0, 6, 0),
  (6, .iload_n 1, 0, 7, 0),
  (7, .invokevirtual 164, 0, 10, 0),
  (10, .ifCond .eq 24, 0, 13, 34),
  (13, .iload_n 2, 0, 14, 0),
  (14, .i2l, 0, 15, 0),
  (15, .lconst 0, 0, 16, 0),
  (16, .ldc2_w 167, 0, 19, 0),
  (19, .invokestatic 85, 0, 22, 0),
  (22, .ifCond .eq 12, 0, 25, 34),
  (25, .aload_n 0, 0, 26, 0),
  (26, .iload_n 1, 0, 27, 0),
  (27, .iload_n 2, 0, 28, 0),
  (28, .invokevirtual 169, 0, 31, 0),
  (31, .goto 5, 0, 34, 36),
  (34, .bipush (-2), (-2), 36, 0),
  (36, .ireturn, 0, 37, 0)]
def am_lv_136 : List (Nat × List Nat) := [(34, []), (36, [])]
/-- DeadLastsModel.person -/
def am_cd_137 : List am_T5 := [
  (0, .aload_n 0, 0, 1, 0),
  (1, .invokevirtual 154, 0, 4, 0),
  (4, .pop, 0, 5, 0),
  (5, .aload_n 0, 0, 6, 0),
  (6, .iload_n 1, 0, 7, 0),
  (7, .invokevirtual 172, 0, 10, 0),
  (10, .ifCond .eq 28, 0, 13, 38),
  (13, .iload_n 2, 0, 14, 0),
  (14, .i2l, 0, 15, 0),
  (15, .lconst 0, 0, 16, 0),
  (16, .ldc2_w 175, 0, 19, 0),
  (19, .invokestatic 85, 0, 22, 0),
  (22, .ifCond .eq 16, 0, 25, 38),
  (25, .aload_n 0, 0, 26, 0),
  (26, .getfield 40, 0, 29, 0),
  (29, .iconst 5, 5, 30, 0),
  (30, .iload_n 1, 0, 31, 0),
  (31, .imul, 0, 32, 0),
  (32, .iload_n 2, 0, 33, 0),
  (33, .iadd, 0, 34, 0),
  (34, .iaload, 0, 35, 0),
  (35, .goto 5, 0, 38, 40),
  (38, .bipush (-2), (-2), 40, 0),
  (40, .ireturn, 0, 41, 0)]
def am_lv_137 : List (Nat × List Nat) := [(38, []), (40, [])]
/-- DeadLastsModel.rain -/
def am_cd_138 : List am_T5 := [
  (0, .iload_n 1, 0, 1, 0),
  (1, .invokestatic 177, 0, 4, 0),
  (4, .ifCond .ne 6, 0, 7, 10),
  (7, .bipush (-2), (-2), 9, 0),
  (9, .ireturn, 0, 10, 0),
  (10, .aload_n 0, 0, 11, 0),
  (11, .getfield 180, 0, 14, 0),
  (14, .bipush 8, 8, 16, 0),
  (16, .if_icmp .ne 6, 0, 19, 22),
  (19, .bipush (-4), (-4), 21, 0),
  (21, .ireturn, 0, 22, 0),
  (22, .aload_n 0, 0, 23, 0),
  (23, .getfield 43, 0, 26, 0),
  (26, .aload_n 0, 0, 27, 0),
  (27, .getfield 180, 0, 30, 0),
  (30, .iload_n 1, 0, 31, 0),
  (31, .iastore, 0, 32, 0),
  (32, .aload_n 0, 0, 33, 0),
  (33, .dup, 0, 34, 0),
  (34, .getfield 180, 0, 37, 0),
  (37, .iconst 1, 1, 38, 0),
  (38, .iadd, 0, 39, 0),
  (39, .putfield 180, 0, 42, 0),
  (42, .aload_n 0, 0, 43, 0),
  (43, .getfield 180, 0, 46, 0),
  (46, .ireturn, 0, 47, 0)]
def am_lv_138 : List (Nat × List Nat) := [(10, [0, 1]), (22, [0, 1])]
/-- DeadLastsModel.back -/
def am_cd_139 : List am_T5 := [
  (0, .aload_n 0, 0, 1, 0),
  (1, .getfield 180, 0, 4, 0),
  (4, .ifCond .ne 6, 0, 7, 10),
  (7, .bipush (-3), (-3), 9, 0),
  (9, .ireturn, 0, 10, 0),
  (10, .aload_n 0, 0, 11, 0),
  (11, .dup, 0, 12, 0),
  (12, .getfield 180, 0, 15, 0),
  (15, .iconst 1, 1, 16, 0),
  (16, .isub, 0, 17, 0),
  (17, .putfield 180, 0, 20, 0),
  (20, .aload_n 0, 0, 21, 0),
  (21, .getfield 180, 0, 24, 0),
  (24, .ireturn, 0, 25, 0)]
def am_lv_139 : List (Nat × List Nat) := [(10, [0])]
/-- DeadLastsModel.read -/
def am_cd_140 : List am_T5 := [
  (0, .iload_n 1, 0, 1, 0),
  (1, .invokestatic 94, 0, 4, 0),
  (4, .ifCond .ne 6, 0, 7, 10),
  (7, .bipush (-2), (-2), 9, 0),
  (9, .ireturn, 0, 10, 0),
  (10, .aload_n 0, 0, 11, 0),
  (11, .getfield 7, 0, 14, 0),
  (14, .iload_n 1, 0, 15, 0),
  (15, .iaload, 0, 16, 0),
  (16, .ifCond .ge 9, 0, 19, 25),
  (19, .aload_n 0, 0, 20, 0),
  (20, .iconst 1, 1, 21, 0),
  (21, .invokevirtual 100, 0, 24, 0),
  (24, .ireturn, 0, 25, 0),
  (25, .iconst 0, 0, 26, 0),
  (26, .istore_n 2, 0, 27, 0),
  (27, .iconst 1, 1, 28, 0),
  (28, .istore_n 3, 0, 29, 0),
  (29, .iload_n 3, 0, 30, 0),
  (30, .ifCond .eq 52, 0, 33, 82),
  (33, .iload_n 2, 0, 34, 0),
  (34, .aload_n 0, 0, 35, 0),
  (35, .getfield 13, 0, 38, 0),
  (38, .iload_n 1, 0, 39, 0),
  (39, .iaload, 0, 40, 0),
  (40, .if_icmp .ge 42, 0, 43, 82),
  (43, .aload_n 0, 0, 44, 0),
  (44, .aload_n 0, 0, 45, 0),
  (45, .getfield 16, 0, 48, 0),
  (48, .bipush 60, 60, 50, 0),
  (50, .iload_n 1, 0, 51, 0),
  (51, .imul, 0, 52, 0),
  (52, .iload_n 2, 0, 53, 0),
  (53, .iadd, 0, 54, 0),
  (54, .iaload, 0, 55, 0),
  (55, .invokevirtual 183, 0, 58, 0),
  (58, .ifCond .lt 7, 0, 61, 65),
  (61, .iconst 1, 1, 62, 0),
  (62, .goto 4, 0, 65, 66),
  (65, .iconst 0, 0, 66, 0),
  (66, .istore_n 3, 0, 67, 0),
  (67, .iload_n 2, 0, 68, 0),
  (68, .iload_n 3, 0, 69, 0),
  (69, .ifCond .eq 7, 0, 72, 76),
  (72, .iconst 1, 1, 73, 0),
  (73, .goto 4, 0, 76, 77),
  (76, .iconst 0, 0, 77, 0),
  (77, .iadd, 0, 78, 0),
  (78, .istore_n 2, 0, 79, 0),
  (79, .goto (-50), 0, 82, 29),
  (82, .iload_n 2, 0, 83, 0),
  (83, .ireturn, 0, 84, 0)]
def am_lv_140 : List (Nat × List Nat) := [(10, [0, 1]), (25, [0, 1]), (29, [0, 1, 2, 3]), (65, [0, 1, 2]), (66, [0, 1, 2]), (76, [0, 1, 3]), (77, [0, 1, 3]), (82, [2])]
/-- DeadLastsModel.isRain -/
def am_cd_141 : List am_T5 := [
  (0, .aload_n 0, 0, 1, 0),
  (1, .getfield 79, 0, 4, 0),
  (4, .iconst (-1), (-1), 5, 0),
  (5, .if_icmp .eq 26, 0, 8, 31),
  (8, .iload_n 1, 0, 9, 0),
  (9, .bipush 10, 10, 11, 0),
  (11, .if_icmp .ge 18, 0, 14, 29),
  (14, .aload_n 0, 0, 15, 0),
  (15, .getfield 79, 0, 18, 0),
  (18, .iload_n 1, 0, 19, 0),
  (19, .invokestatic 185, 0, 22, 0),
  (22, .ifCond .eq 7, 0, 25, 29),
  (25, .iconst 1, 1, 26, 0),
  (26, .goto 4, 0, 29, 30),
  (29, .iconst 0, 0, 30, 0),
  (30, .ireturn, 0, 31, 0),
  (31, .iconst 0, 0, 32, 0),
  (32, .istore_n 2, 0, 33, 0),
  (33, .iconst 0, 0, 34, 0),
  (34, .istore_n 3, 0, 35, 0),
  (35, .iload_n 3, 0, 36, 0),
  (36, .aload_n 0, 0, 37, 0),
  (37, .getfield 180, 0, 40, 0),
  (40, .if_icmp .ge 40, 0, 43, 80),
  (43, .iload_n 2, 0, 44, 0),
  (44, .ifCond .ne 24, 0, 47, 68),
  (47, .aload_n 0, 0, 48, 0),
  (48, .getfield 43, 0, 51, 0),
  (51, .iload_n 3, 0, 52, 0),
  (52, .iaload, 0, 53, 0),
  (53, .iload_n 1, 0, 54, 0),
  (54, .if_icmp .ne 18, 0, 57, 72),
  (57, .aload_n 0, 0, 58, 0),
  (58, .getfield 189, 0, 61, 0),
  (61, .iload_n 3, 0, 62, 0),
  (62, .invokestatic 185, 0, 65, 0),
  (65, .ifCond .ne 7, 0, 68, 72),
  (68, .iconst 1, 1, 69, 0),
  (69, .goto 4, 0, 72, 73),
  (72, .iconst 0, 0, 73, 0),
  (73, .istore_n 2, 0, 74, 0),
  (74, .iinc 3 1, 1, 77, 0),
  (77, .goto (-42), 0, 80, 35),
  (80, .iload_n 2, 0, 81, 0),
  (81, .ireturn, 0, 82, 0)]
def am_lv_141 : List (Nat × List Nat) := [(29, []), (30, []), (31, [0, 1]), (35, [0, 1, 2, 3]), (68, [0, 1, 3]), (72, [0, 1, 3]), (73, [0, 1, 3]), (80, [2])]
/-- DeadLastsModel.power -/
def am_cd_142 : List am_T5 := [
  (0, .iconst 1, 1, 1, 0),
  (1, .istore_n 2, 0, 2, 0),
  (2, .iconst 0, 0, 3, 0),
  (3, .istore_n 3, 0, 4, 0),
  (4, .iload_n 3, 0, 5, 0),
  (5, .iload_n 1, 0, 6, 0),
  (6, .if_icmp .ge 13, 0, 9, 19),
  (9, .iload_n 2, 0, 10, 0),
  (10, .iload_n 0, 0, 11, 0),
  (11, .imul, 0, 12, 0),
  (12, .istore_n 2, 0, 13, 0),
  (13, .iinc 3 1, 1, 16, 0),
  (16, .goto (-12), 0, 19, 4),
  (19, .iload_n 2, 0, 20, 0),
  (20, .ireturn, 0, 21, 0)]
def am_lv_142 : List (Nat × List Nat) := [(4, [0, 1, 2, 3]), (19, [2])]
/-- DeadLastsModel.beside -/
def am_cd_143 : List am_T5 := [
  (0, .iconst (-1), (-1), 1, 0),
  (1, .istore_n 3, 0, 2, 0),
  (2, .iload_n 2, 0, 3, 0),
  (3, .ifCond .ne 25, 0, 6, 28),
  (6, .iload_n 1, 0, 7, 0),
  (7, .aload_n 0, 0, 8, 0),
  (8, .getfield 121, 0, 11, 0),
  (11, .if_icmp .lt 12, 0, 14, 23),
  (14, .iload_n 1, 0, 15, 0),
  (15, .aload_n 0, 0, 16, 0),
  (16, .getfield 121, 0, 19, 0),
  (19, .isub, 0, 20, 0),
  (20, .goto 4, 0, 23, 24),
  (23, .iconst (-1), (-1), 24, 0),
  (24, .istore_n 3, 0, 25, 0),
  (25, .goto 79, 0, 28, 104),
  (28, .iload_n 2, 0, 29, 0),
  (29, .iconst 1, 1, 30, 0),
  (30, .if_icmp .ne 25, 0, 33, 55),
  (33, .iload_n 1, 0, 34, 0),
  (34, .iconst 1, 1, 35, 0),
  (35, .iadd, 0, 36, 0),
  (36, .aload_n 0, 0, 37, 0),
  (37, .getfield 121, 0, 40, 0),
  (40, .irem, 0, 41, 0),
  (41, .ifCond .le 9, 0, 44, 50),
  (44, .iload_n 1, 0, 45, 0),
  (45, .iconst 1, 1, 46, 0),
  (46, .iadd, 0, 47, 0),
  (47, .goto 4, 0, 50, 51),
  (50, .iconst (-1), (-1), 51, 0),
  (51, .istore_n 3, 0, 52, 0),
  (52, .goto 52, 0, 55, 104),
  (55, .iload_n 2, 0, 56, 0),
  (56, .iconst 2, 2, 57, 0),
  (57, .if_icmp .ne 30, 0, 60, 87),
  (60, .iload_n 1, 0, 61, 0),
  (61, .aload_n 0, 0, 62, 0),
  (62, .getfield 121, 0, 65, 0),
  (65, .iadd, 0, 66, 0),
  (66, .aload_n 0, 0, 67, 0),
  (67, .getfield 118, 0, 70, 0),
  (70, .if_icmp .ge 12, 0, 73, 82),
  (73, .iload_n 1, 0, 74, 0),
  (74, .aload_n 0, 0, 75, 0),
  (75, .getfield 121, 0, 78, 0),
  (78, .iadd, 0, 79, 0),
  (79, .goto 4, 0, 82, 83),
  (82, .iconst (-1), (-1), 83, 0),
  (83, .istore_n 3, 0, 84, 0),
  (84, .goto 20, 0, 87, 104),
  (87, .iload_n 1, 0, 88, 0),
  (88, .aload_n 0, 0, 89, 0),
  (89, .getfield 121, 0, 92, 0),
  (92, .irem, 0, 93, 0),
  (93, .ifCond .le 9, 0, 96, 102),
  (96, .iload_n 1, 0, 97, 0),
  (97, .iconst 1, 1, 98, 0),
  (98, .isub, 0, 99, 0),
  (99, .goto 4, 0, 102, 103),
  (102, .iconst (-1), (-1), 103, 0),
  (103, .istore_n 3, 0, 104, 0),
  (104, .iload_n 3, 0, 105, 0),
  (105, .iconst (-1), (-1), 106, 0),
  (106, .if_icmp .eq 17, 0, 109, 123),
  (109, .aload_n 0, 0, 110, 0),
  (110, .getfield 28, 0, 113, 0),
  (113, .iload_n 3, 0, 114, 0),
  (114, .iaload, 0, 115, 0),
  (115, .iconst 1, 1, 116, 0),
  (116, .if_icmp .ne 7, 0, 119, 123),
  (119, .iconst (-1), (-1), 120, 0),
  (120, .goto 4, 0, 123, 124),
  (123, .iload_n 3, 0, 124, 0),
  (124, .ireturn, 0, 125, 0)]
def am_lv_143 : List (Nat × List Nat) := [(23, [0]), (24, [0]), (28, [0, 1, 2]), (50, [0]), (51, [0]), (55, [0, 1, 2]), (82, [0]), (83, [0]), (87, [0, 1]), (102, [0]), (103, [0]), (104, [0, 3]), (123, [3]), (124, [])]
/-- DeadLastsModel.wayBy -/
def am_cd_144 : List am_T5 := [
  (0, .aload_n 0, 0, 1, 0),
  (1, .getfield 58, 0, 4, 0),
  (4, .iconst 2, 2, 5, 0),
  (5, .iload_n 1, 0, 6, 0),
  (6, .imul, 0, 7, 0),
  (7, .iload_n 2, 0, 8, 0),
  (8, .iadd, 0, 9, 0),
  (9, .iaload, 0, 10, 0),
  (10, .istore 4, 0, 12, 0),
  (12, .aload_n 0, 0, 13, 0),
  (13, .getfield 58, 0, 16, 0),
  (16, .iconst 2, 2, 17, 0),
  (17, .iload_n 1, 0, 18, 0),
  (18, .imul, 0, 19, 0),
  (19, .iload_n 2, 0, 20, 0),
  (20, .iadd, 0, 21, 0),
  (21, .dup2, 0, 22, 0),
  (22, .iaload, 0, 23, 0),
  (23, .iconst 1, 1, 24, 0),
  (24, .iadd, 0, 25, 0),
  (25, .iastore, 0, 26, 0),
  (26, .aload_n 0, 0, 27, 0),
  (27, .getfield 67, 0, 30, 0),
  (30, .iload_n 3, 0, 31, 0),
  (31, .dup2, 0, 32, 0),
  (32, .iaload, 0, 33, 0),
  (33, .iconst 1, 1, 34, 0),
  (34, .iadd, 0, 35, 0),
  (35, .iastore, 0, 36, 0),
  (36, .aload_n 0, 0, 37, 0),
  (37, .getfield 37, 0, 40, 0),
  (40, .iconst 4, 4, 41, 0),
  (41, .iload_n 3, 0, 42, 0),
  (42, .imul, 0, 43, 0),
  (43, .iload 4, 0, 45, 0),
  (45, .aload_n 0, 0, 46, 0),
  (46, .getfield 34, 0, 49, 0),
  (49, .iload_n 3, 0, 50, 0),
  (50, .iaload, 0, 51, 0),
  (51, .irem, 0, 52, 0),
  (52, .iadd, 0, 53, 0),
  (53, .iaload, 0, 54, 0),
  (54, .istore 5, 0, 56, 0),
  (56, .aload_n 0, 0, 57, 0),
  (57, .getfield 31, 0, 60, 0),
  (60, .iload_n 3, 0, 61, 0),
  (61, .iaload, 0, 62, 0),
  (62, .iconst 1, 1, 63, 0),
  (63, .if_icmp .ne 23, 0, 66, 86),
  (66, .iload 4, 0, 68, 0),
  (68, .iconst 3, 3, 69, 0),
  (69, .irem, 0, 70, 0),
  (70, .iconst 2, 2, 71, 0),
  (71, .if_icmp .ne 12, 0, 74, 83),
  (74, .iload 5, 0, 76, 0),
  (76, .iconst 2, 2, 77, 0),
  (77, .iadd, 0, 78, 0),
  (78, .iconst 4, 4, 79, 0),
  (79, .irem, 0, 80, 0),
  (80, .goto 5, 0, 83, 85),
  (83, .iload 5, 0, 85, 0),
  (85, .ireturn, 0, 86, 0),
  (86, .aload_n 0, 0, 87, 0),
  (87, .getfield 31, 0, 90, 0),
  (90, .iload_n 3, 0, 91, 0),
  (91, .iaload, 0, 92, 0),
  (92, .iconst 2, 2, 93, 0),
  (93, .if_icmp .ne 20, 0, 96, 113),
  (96, .iload 5, 0, 98, 0),
  (98, .iload 4, 0, 100, 0),
  (100, .aload_n 0, 0, 101, 0),
  (101, .getfield 34, 0, 104, 0),
  (104, .iload_n 3, 0, 105, 0),
  (105, .iaload, 0, 106, 0),
  (106, .idiv, 0, 107, 0),
  (107, .iadd, 0, 108, 0),
  (108, .iconst 4, 4, 109, 0),
  (109, .irem, 0, 110, 0),
  (110, .goto 5, 0, 113, 115),
  (113, .iload 5, 0, 115, 0),
  (115, .ireturn, 0, 116, 0)]
def am_lv_144 : List (Nat × List Nat) := [(83, [5]), (85, []), (86, [0, 3, 4, 5]), (113, [5]), (115, [])]
/-- DeadLastsModel.settles -/
def am_cd_145 : List am_T5 := [
  (0, .aload_n 0, 0, 1, 0),
  (1, .getfield 28, 0, 4, 0),
  (4, .aload_n 0, 0, 5, 0),
  (5, .getfield 46, 0, 8, 0),
  (8, .iload_n 1, 0, 9, 0),
  (9, .iaload, 0, 10, 0),
  (10, .iaload, 0, 11, 0),
  (11, .istore_n 3, 0, 12, 0),
  (12, .aload_n 0, 0, 13, 0),
  (13, .getfield 49, 0, 16, 0),
  (16, .iload_n 1, 0, 17, 0),
  (17, .iload_n 3, 0, 18, 0),
  (18, .iconst 2, 2, 19, 0),
  (19, .if_icmp .ne 7, 0, 22, 26),
  (22, .iconst 1, 1, 23, 0),
  (23, .goto 13, 0, 26, 36),
  (26, .iload_n 3, 0, 27, 0),
  (27, .iconst 3, 3, 28, 0),
  (28, .if_icmp .ne 7, 0, 31, 35),
  (31, .iconst 2, 2, 32, 0),
  (32, .goto 4, 0, 35, 36),
  (35, .iconst 0, 0, 36, 0),
  (36, .iastore, 0, 37, 0),
  (37, .aload_n 0, 0, 38, 0),
  (38, .getfield 49, 0, 41, 0),
  (41, .iload_n 1, 0, 42, 0),
  (42, .iaload, 0, 43, 0),
  (43, .ifCond .le 26, 0, 46, 69),
  (46, .iload_n 2, 0, 47, 0),
  (47, .iconst (-1), (-1), 48, 0),
  (48, .if_icmp .eq 21, 0, 51, 69),
  (51, .aload_n 0, 0, 52, 0),
  (52, .getfield 64, 0, 55, 0),
  (55, .iconst 2, 2, 56, 0),
  (56, .iload_n 1, 0, 57, 0),
  (57, .imul, 0, 58, 0),
  (58, .aload_n 0, 0, 59, 0),
  (59, .getfield 49, 0, 62, 0),
  (62, .iload_n 1, 0, 63, 0),
  (63, .iaload, 0, 64, 0),
  (64, .iadd, 0, 65, 0),
  (65, .iconst 1, 1, 66, 0),
  (66, .isub, 0, 67, 0),
  (67, .iload_n 2, 0, 68, 0),
  (68, .iastore, 0, 69, 0),
  (69, .return_, 0, 70, 0)]
def am_lv_145 : List (Nat × List Nat) := [(26, [0, 1, 2, 3]), (35, [0, 1, 2]), (36, [0, 1, 2]), (69, [])]
/-- DeadLastsModel.walks -/
def am_cd_146 : List am_T5 := [
  (0, .iload_n 2, 0, 1, 0),
  (1, .iconst 2, 2, 2, 0),
  (2, .irem, 0, 3, 0),
  (3, .istore_n 3, 0, 4, 0),
  (4, .aload_n 0, 0, 5, 0),
  (5, .getfield 40, 0, 8, 0),
  (8, .iconst 5, 5, 9, 0),
  (9, .iload_n 1, 0, 10, 0),
  (10, .imul, 0, 11, 0),
  (11, .iconst 3, 3, 12, 0),
  (12, .iadd, 0, 13, 0),
  (13, .iaload, 0, 14, 0),
  (14, .istore 4, 0, 16, 0),
  (16, .aload_n 0, 0, 17, 0),
  (17, .getfield 40, 0, 20, 0),
  (20, .iconst 5, 5, 21, 0),
  (21, .iload_n 1, 0, 22, 0),
  (22, .imul, 0, 23, 0),
  (23, .iconst 1, 1, 24, 0),
  (24, .iadd, 0, 25, 0),
  (25, .iload_n 3, 0, 26, 0),
  (26, .iadd, 0, 27, 0),
  (27, .iaload, 0, 28, 0),
  (28, .istore 5, 0, 30, 0),
  (30, .aload_n 0, 0, 31, 0),
  (31, .getfield 52, 0, 34, 0),
  (34, .iload_n 1, 0, 35, 0),
  (35, .aload_n 0, 0, 36, 0),
  (36, .iload_n 2, 0, 37, 0),
  (37, .invokevirtual 192, 0, 40, 0),
  (40, .ifCond .eq 7, 0, 43, 47),
  (43, .iconst 0, 0, 44, 0),
  (44, .goto 16, 0, 47, 60),
  (47, .aload_n 0, 0, 48, 0),
  (48, .getfield 52, 0, 51, 0),
  (51, .iload_n 1, 0, 52, 0),
  (52, .iaload, 0, 53, 0),
  (53, .iconst 2, 2, 54, 0),
  (54, .iload 4, 0, 56, 0),
  (56, .invokestatic 195, 0, 59, 0),
  (59, .iadd, 0, 60, 0),
  (60, .iastore, 0, 61, 0),
  (61, .aload_n 0, 0, 62, 0),
  (62, .getfield 40, 0, 65, 0),
  (65, .iconst 5, 5, 66, 0),
  (66, .iload_n 1, 0, 67, 0),
  (67, .imul, 0, 68, 0),
  (68, .iconst 4, 4, 69, 0),
  (69, .iadd, 0, 70, 0),
  (70, .iaload, 0, 71, 0),
  (71, .istore 6, 0, 73, 0),
  (73, .aload_n 0, 0, 74, 0),
  (74, .getfield 55, 0, 77, 0),
  (77, .iload_n 1, 0, 78, 0),
  (78, .iconst (-1), (-1), 79, 0),
  (79, .iastore, 0, 80, 0),
  (80, .aload_n 0, 0, 81, 0),
  (81, .getfield 52, 0, 84, 0),
  (84, .iload_n 1, 0, 85, 0),
  (85, .iaload, 0, 86, 0),
  (86, .iconst 3, 3, 87, 0),
  (87, .iload 4, 0, 89, 0),
  (89, .invokestatic 195, 0, 92, 0),
  (92, .if_icmp .lt 45, 0, 95, 137),
  (95, .aload_n 0, 0, 96, 0),
  (96, .getfield 52, 0, 99, 0),
  (99, .iload_n 1, 0, 100, 0),
  (100, .dup2, 0, 101, 0),
  (101, .iaload, 0, 102, 0),
  (102, .iconst 3, 3, 103, 0),
  (103, .iload 4, 0, 105, 0),
  (105, .invokestatic 195, 0, 108, 0),
  (108, .isub, 0, 109, 0),
  (109, .iastore, 0, 110, 0),
  (110, .aload_n 0, 0, 111, 0),
  (111, .iload 5, 0, 113, 0),
  (113, .invokevirtual 164, 0, 116, 0),
  (116, .ifCond .eq 21, 0, 119, 137),
  (119, .aload_n 0, 0, 120, 0),
  (120, .iload_n 1, 0, 121, 0),
  (121, .iload_n 3, 0, 122, 0),
  (122, .iload 5, 0, 124, 0),
  (124, .invokevirtual 198, 0, 127, 0),
  (127, .istore 6, 0, 129, 0),
  (129, .aload_n 0, 0, 130, 0),
  (130, .getfield 55, 0, 133, 0),
  (133, .iload_n 1, 0, 134, 0),
  (134, .iload 5, 0, 136, 0),
  (136, .iastore, 0, 137, 0),
  (137, .aload_n 0, 0, 138, 0),
  (138, .aload_n 0, 0, 139, 0),
  (139, .getfield 46, 0, 142, 0),
  (142, .iload_n 1, 0, 143, 0),
  (143, .iaload, 0, 144, 0),
  (144, .iload 6, 0, 146, 0),
  (146, .invokevirtual 201, 0, 149, 0),
  (149, .istore 7, 0, 151, 0),
  (151, .aload_n 0, 0, 152, 0),
  (152, .getfield 46, 0, 155, 0),
  (155, .iload_n 1, 0, 156, 0),
  (156, .iload 7, 0, 158, 0),
  (158, .iconst (-1), (-1), 159, 0),
  (159, .if_icmp .ne 12, 0, 162, 171),
  (162, .aload_n 0, 0, 163, 0),
  (163, .getfield 46, 0, 166, 0),
  (166, .iload_n 1, 0, 167, 0),
  (167, .iaload, 0, 168, 0),
  (168, .goto 5, 0, 171, 173),
  (171, .iload 7, 0, 173, 0),
  (173, .iastore, 0, 174, 0),
  (174, .aload_n 0, 0, 175, 0),
  (175, .iload_n 1, 0, 176, 0),
  (176, .iload_n 2, 0, 177, 0),
  (177, .invokevirtual 204, 0, 180, 0),
  (180, .return_, 0, 181, 0)]
def am_lv_146 : List (Nat × List Nat) := [(47, [0, 1, 2, 3, 4, 5]), (60, [0, 1, 2, 3, 4, 5]), (137, [0, 1, 2, 6]), (171, [0, 1, 2, 7]), (173, [0, 1, 2])]
/-- DeadLastsModel.meet -/
def am_cd_147 : List am_T5 := [
  (0, .iconst 0, 0, 1, 0),
  (1, .istore_n 2, 0, 2, 0),
  (2, .iload_n 2, 0, 3, 0),
  (3, .aload_n 0, 0, 4, 0),
  (4, .getfield 141, 0, 7, 0),
  (7, .if_icmp .ge 91, 0, 10, 98),
  (10, .aload_n 0, 0, 11, 0),
  (11, .getfield 208, 0, 14, 0),
  (14, .iconst (-1), (-1), 15, 0),
  (15, .if_icmp .ne 83, 0, 18, 98),
  (18, .iload_n 2, 0, 19, 0),
  (19, .iconst 1, 1, 20, 0),
  (20, .iadd, 0, 21, 0),
  (21, .istore_n 3, 0, 22, 0),
  (22, .iload_n 3, 0, 23, 0),
  (23, .aload_n 0, 0, 24, 0),
  (24, .getfield 141, 0, 27, 0),
  (27, .if_icmp .ge 65, 0, 30, 92),
  (30, .aload_n 0, 0, 31, 0),
  (31, .getfield 208, 0, 34, 0),
  (34, .iconst (-1), (-1), 35, 0),
  (35, .if_icmp .ne 57, 0, 38, 92),
  (38, .aload_n 0, 0, 39, 0),
  (39, .getfield 49, 0, 42, 0),
  (42, .iload_n 2, 0, 43, 0),
  (43, .iaload, 0, 44, 0),
  (44, .ifCond .ne 42, 0, 47, 86),
  (47, .aload_n 0, 0, 48, 0),
  (48, .getfield 49, 0, 51, 0),
  (51, .iload_n 3, 0, 52, 0),
  (52, .iaload, 0, 53, 0),
  (53, .ifCond .ne 33, 0, 56, 86),
  (56, .aload_n 0, 0, 57, 0),
  (57, .getfield 46, 0, 60, 0),
  (60, .iload_n 2, 0, 61, 0),
  (61, .iaload, 0, 62, 0),
  (62, .aload_n 0, 0, 63, 0),
  (63, .getfield 46, 0, 66, 0),
  (66, .iload_n 3, 0, 67, 0),
  (67, .iaload, 0, 68, 0),
  (68, .if_icmp .ne 18, 0, 71, 86),
  (71, .aload_n 0, 0, 72, 0),
  (72, .iload_n 1, 0, 73, 0),
  (73, .putfield 208, 0, 76, 0),
  (76, .aload_n 0, 0, 77, 0),
  (77, .iload_n 2, 0, 78, 0),
  (78, .putfield 211, 0, 81, 0),
  (81, .aload_n 0, 0, 82, 0),
  (82, .iload_n 3, 0, 83, 0),
  (83, .putfield 214, 0, 86, 0),
  (86, .iinc 3 1, 1, 89, 0),
  (89, .goto (-67), 0, 92, 22),
  (92, .iinc 2 1, 1, 95, 0),
  (95, .goto (-93), 0, 98, 2),
  (98, .return_, 0, 99, 0)]
def am_lv_147 : List (Nat × List Nat) := [(2, [0, 1, 2]), (22, [0, 1, 2, 3]), (86, [0, 1, 2, 3]), (92, [0, 1, 2]), (98, [])]
/-- DeadLastsModel.begins -/
def am_cd_148 : List am_T5 := [
  (0, .iconst 0, 0, 1, 0),
  (1, .istore_n 1, 0, 2, 0),
  (2, .iload_n 1, 0, 3, 0),
  (3, .aload_n 0, 0, 4, 0),
  (4, .getfield 141, 0, 7, 0),
  (7, .if_icmp .ge 121, 0, 10, 128),
  (10, .aload_n 0, 0, 11, 0),
  (11, .getfield 40, 0, 14, 0),
  (14, .iconst 5, 5, 15, 0),
  (15, .iload_n 1, 0, 16, 0),
  (16, .imul, 0, 17, 0),
  (17, .iaload, 0, 18, 0),
  (18, .istore_n 2, 0, 19, 0),
  (19, .iload_n 2, 0, 20, 0),
  (20, .aload_n 0, 0, 21, 0),
  (21, .getfield 118, 0, 24, 0),
  (24, .if_icmp .ge 17, 0, 27, 41),
  (27, .aload_n 0, 0, 28, 0),
  (28, .getfield 28, 0, 31, 0),
  (31, .iload_n 2, 0, 32, 0),
  (32, .iaload, 0, 33, 0),
  (33, .iconst 1, 1, 34, 0),
  (34, .if_icmp .eq 7, 0, 37, 41),
  (37, .iconst 1, 1, 38, 0),
  (38, .goto 4, 0, 41, 42),
  (41, .iconst 0, 0, 42, 0),
  (42, .istore_n 3, 0, 43, 0),
  (43, .aload_n 0, 0, 44, 0),
  (44, .getfield 46, 0, 47, 0),
  (47, .iload_n 1, 0, 48, 0),
  (48, .iload_n 3, 0, 49, 0),
  (49, .ifCond .eq 7, 0, 52, 56),
  (52, .iload_n 2, 0, 53, 0),
  (53, .goto 4, 0, 56, 57),
  (56, .iconst (-1), (-1), 57, 0),
  (57, .iastore, 0, 58, 0),
  (58, .aload_n 0, 0, 59, 0),
  (59, .getfield 49, 0, 62, 0),
  (62, .iload_n 1, 0, 63, 0),
  (63, .iconst 3, 3, 64, 0),
  (64, .iastore, 0, 65, 0),
  (65, .aload_n 0, 0, 66, 0),
  (66, .getfield 52, 0, 69, 0),
  (69, .iload_n 1, 0, 70, 0),
  (70, .iconst 0, 0, 71, 0),
  (71, .iastore, 0, 72, 0),
  (72, .aload_n 0, 0, 73, 0),
  (73, .getfield 58, 0, 76, 0),
  (76, .iconst 2, 2, 77, 0),
  (77, .iload_n 1, 0, 78, 0),
  (78, .imul, 0, 79, 0),
  (79, .iconst 0, 0, 80, 0),
  (80, .iastore, 0, 81, 0),
  (81, .aload_n 0, 0, 82, 0),
  (82, .getfield 58, 0, 85, 0),
  (85, .iconst 2, 2, 86, 0),
  (86, .iload_n 1, 0, 87, 0),
  (87, .imul, 0, 88, 0),
  (88, .iconst 1, 1, 89, 0),
  (89, .iadd, 0, 90, 0),
  (90, .iconst 0, 0, 91, 0),
  (91, .iastore, 0, 92, 0),
  (92, .aload_n 0, 0, 93, 0),
  (93, .getfield 64, 0, 96, 0),
  (96, .iconst 2, 2, 97, 0),
  (97, .iload_n 1, 0, 98, 0),
  (98, .imul, 0, 99, 0),
  (99, .iconst (-1), (-1), 100, 0),
  (100, .iastore, 0, 101, 0),
  (101, .aload_n 0, 0, 102, 0),
  (102, .getfield 64, 0, 105, 0),
  (105, .iconst 2, 2, 106, 0),
  (106, .iload_n 1, 0, 107, 0),
  (107, .imul, 0, 108, 0),
  (108, .iconst 1, 1, 109, 0),
  (109, .iadd, 0, 110, 0),
  (110, .iconst (-1), (-1), 111, 0),
  (111, .iastore, 0, 112, 0),
  (112, .iload_n 3, 0, 113, 0),
  (113, .ifCond .eq 9, 0, 116, 122),
  (116, .aload_n 0, 0, 117, 0),
  (117, .iload_n 1, 0, 118, 0),
  (118, .iconst (-1), (-1), 119, 0),
  (119, .invokevirtual 204, 0, 122, 0),
  (122, .iinc 1 1, 1, 125, 0),
  (125, .goto (-123), 0, 128, 2),
  (128, .iconst 0, 0, 129, 0),
  (129, .istore_n 1, 0, 130, 0),
  (130, .iload_n 1, 0, 131, 0),
  (131, .bipush 8, 8, 133, 0),
  (133, .if_icmp .ge 16, 0, 136, 149),
  (136, .aload_n 0, 0, 137, 0),
  (137, .getfield 67, 0, 140, 0),
  (140, .iload_n 1, 0, 141, 0),
  (141, .iconst 0, 0, 142, 0),
  (142, .iastore, 0, 143, 0),
  (143, .iinc 1 1, 1, 146, 0),
  (146, .goto (-16), 0, 149, 130),
  (149, .aload_n 0, 0, 150, 0),
  (150, .iconst (-1), (-1), 151, 0),
  (151, .putfield 208, 0, 154, 0),
  (154, .aload_n 0, 0, 155, 0),
  (155, .iconst (-1), (-1), 156, 0),
  (156, .putfield 211, 0, 159, 0),
  (159, .aload_n 0, 0, 160, 0),
  (160, .iconst (-1), (-1), 161, 0),
  (161, .putfield 214, 0, 164, 0),
  (164, .return_, 0, 165, 0)]
def am_lv_148 : List (Nat × List Nat) := [(2, [0, 1]), (41, [0, 1, 2]), (42, [0, 1, 2]), (56, [0, 1, 3]), (57, [0, 1, 3]), (122, [0, 1]), (128, [0]), (130, [0, 1]), (149, [0])]
/-- DeadLastsModel.lives -/
def am_cd_149 : List am_T5 := [
  (0, .aload_n 0, 0, 1, 0),
  (1, .invokevirtual 217, 0, 4, 0),
  (4, .iconst 0, 0, 5, 0),
  (5, .istore_n 1, 0, 6, 0),
  (6, .iload_n 1, 0, 7, 0),
  (7, .bipush 30, 30, 9, 0),
  (9, .if_icmp .ge 134, 0, 12, 143),
  (12, .iconst 0, 0, 13, 0),
  (13, .istore_n 2, 0, 14, 0),
  (14, .iload_n 2, 0, 15, 0),
  (15, .aload_n 0, 0, 16, 0),
  (16, .getfield 141, 0, 19, 0),
  (19, .if_icmp .ge 113, 0, 22, 132),
  (22, .aload_n 0, 0, 23, 0),
  (23, .getfield 55, 0, 26, 0),
  (26, .iload_n 2, 0, 27, 0),
  (27, .iconst (-1), (-1), 28, 0),
  (28, .iastore, 0, 29, 0),
  (29, .aload_n 0, 0, 30, 0),
  (30, .getfield 49, 0, 33, 0),
  (33, .iload_n 2, 0, 34, 0),
  (34, .iaload, 0, 35, 0),
  (35, .ifCond .ne 9, 0, 38, 44),
  (38, .aload_n 0, 0, 39, 0),
  (39, .iload_n 2, 0, 40, 0),
  (40, .iload_n 1, 0, 41, 0),
  (41, .invokevirtual 220, 0, 44, 0),
  (44, .aload_n 0, 0, 45, 0),
  (45, .getfield 61, 0, 48, 0),
  (48, .bipush 32, 32, 50, 0),
  (50, .iload_n 1, 0, 51, 0),
  (51, .imul, 0, 52, 0),
  (52, .iconst 4, 4, 53, 0),
  (53, .iload_n 2, 0, 54, 0),
  (54, .imul, 0, 55, 0),
  (55, .iadd, 0, 56, 0),
  (56, .aload_n 0, 0, 57, 0),
  (57, .getfield 46, 0, 60, 0),
  (60, .iload_n 2, 0, 61, 0),
  (61, .iaload, 0, 62, 0),
  (62, .iastore, 0, 63, 0),
  (63, .aload_n 0, 0, 64, 0),
  (64, .getfield 61, 0, 67, 0),
  (67, .bipush 32, 32, 69, 0),
  (69, .iload_n 1, 0, 70, 0),
  (70, .imul, 0, 71, 0),
  (71, .iconst 4, 4, 72, 0),
  (72, .iload_n 2, 0, 73, 0),
  (73, .imul, 0, 74, 0),
  (74, .iadd, 0, 75, 0),
  (75, .iconst 1, 1, 76, 0),
  (76, .iadd, 0, 77, 0),
  (77, .aload_n 0, 0, 78, 0),
  (78, .getfield 49, 0, 81, 0),
  (81, .iload_n 2, 0, 82, 0),
  (82, .iaload, 0, 83, 0),
  (83, .iastore, 0, 84, 0),
  (84, .aload_n 0, 0, 85, 0),
  (85, .getfield 61, 0, 88, 0),
  (88, .bipush 32, 32, 90, 0),
  (90, .iload_n 1, 0, 91, 0),
  (91, .imul, 0, 92, 0),
  (92, .iconst 4, 4, 93, 0),
  (93, .iload_n 2, 0, 94, 0),
  (94, .imul, 0, 95, 0),
  (95, .iadd, 0, 96, 0),
  (96, .iconst 2, 2, 97, 0),
  (97, .iadd, 0, 98, 0),
  (98, .aload_n 0, 0, 99, 0),
  (99, .getfield 52, 0, 102, 0),
  (102, .iload_n 2, 0, 103, 0),
  (103, .iaload, 0, 104, 0),
  (104, .iastore, 0, 105, 0),
  (105, .aload_n 0, 0, 106, 0),
  (106, .getfield 61, 0, 109, 0),
  (109, .bipush 32, 32, 111, 0),
  (111, .iload_n 1, 0, 112, 0),
  (112, .imul, 0, 113, 0),
  (113, .iconst 4, 4, 114, 0),
  (114, .iload_n 2, 0, 115, 0),
  (115, .imul, 0, 116, 0),
  (116, .iadd, 0, 117, 0),
  (117, .iconst 3, 3, 118, 0),
  (118, .iadd, 0, 119, 0),
  (119, .aload_n 0, 0, 120, 0),
  (120, .getfield 55, 0, 123, 0),
  (123, .iload_n 2, 0, 124, 0),
  (124, .iaload, 0, 125, 0),
  (125, .iastore, 0, 126, 0),
  (126, .iinc 2 1, 1, 129, 0),
  (129, .goto (-115), 0, 132, 14),
  (132, .aload_n 0, 0, 133, 0),
  (133, .iload_n 1, 0, 134, 0),
  (134, .invokevirtual 223, 0, 137, 0),
  (137, .iinc 1 1, 1, 140, 0),
  (140, .goto (-134), 0, 143, 6),
  (143, .return_, 0, 144, 0)]
def am_lv_149 : List (Nat × List Nat) := [(6, [0, 1]), (14, [0, 1, 2]), (44, [0, 1, 2]), (132, [0, 1]), (143, [])]
/-- DeadLastsModel.find -/
def am_cd_150 : List am_T5 := [
  (0, .aload_n 0, 0, 1, 0),
  (1, .invokevirtual 147, 0, 4, 0),
  (4, .pop, 0, 5, 0),
  (5, .aload_n 0, 0, 6, 0),
  (6, .invokevirtual 151, 0, 9, 0),
  (9, .pop, 0, 10, 0),
  (10, .aload_n 0, 0, 11, 0),
  (11, .invokevirtual 154, 0, 14, 0),
  (14, .pop, 0, 15, 0),
  (15, .aload_n 0, 0, 16, 0),
  (16, .invokevirtual 227, 0, 19, 0),
  (19, .return_, 0, 20, 0)]
def am_lv_150 : List (Nat × List Nat) := []
/-- DeadLastsModel.at -/
def am_cd_151 : List am_T5 := [
  (0, .aload_n 0, 0, 1, 0),
  (1, .invokevirtual 230, 0, 4, 0),
  (4, .iload_n 1, 0, 5, 0),
  (5, .invokestatic 177, 0, 8, 0),
  (8, .ifCond .eq 41, 0, 11, 49),
  (11, .aload_n 0, 0, 12, 0),
  (12, .iload_n 2, 0, 13, 0),
  (13, .invokevirtual 172, 0, 16, 0),
  (16, .ifCond .eq 33, 0, 19, 49),
  (19, .iload_n 3, 0, 20, 0),
  (20, .i2l, 0, 21, 0),
  (21, .lconst 0, 0, 22, 0),
  (22, .ldc2_w 92, 0, 25, 0),
  (25, .invokestatic 85, 0, 28, 0),
  (28, .ifCond .eq 21, 0, 31, 49),
  (31, .aload_n 0, 0, 32, 0),
  (32, .getfield 61, 0, 35, 0),
  (35, .bipush 32, 32, 37, 0),
  (37, .iload_n 1, 0, 38, 0),
  (38, .imul, 0, 39, 0),
  (39, .iconst 4, 4, 40, 0),
  (40, .iload_n 2, 0, 41, 0),
  (41, .imul, 0, 42, 0),
  (42, .iadd, 0, 43, 0),
  (43, .iload_n 3, 0, 44, 0),
  (44, .iadd, 0, 45, 0),
  (45, .iaload, 0, 46, 0),
  (46, .goto 5, 0, 49, 51),
  (49, .bipush (-2), (-2), 51, 0),
  (51, .ireturn, 0, 52, 0)]
def am_lv_151 : List (Nat × List Nat) := [(49, []), (51, [])]
/-- DeadLastsModel.ends -/
def am_cd_152 : List am_T5 := [
  (0, .aload_n 0, 0, 1, 0),
  (1, .invokevirtual 230, 0, 4, 0),
  (4, .aload_n 0, 0, 5, 0),
  (5, .iload_n 1, 0, 6, 0),
  (6, .invokevirtual 172, 0, 9, 0),
  (9, .ifCond .eq 23, 0, 12, 32),
  (12, .iload_n 2, 0, 13, 0),
  (13, .invokestatic 233, 0, 16, 0),
  (16, .ifCond .eq 16, 0, 19, 32),
  (19, .aload_n 0, 0, 20, 0),
  (20, .getfield 64, 0, 23, 0),
  (23, .iconst 2, 2, 24, 0),
  (24, .iload_n 1, 0, 25, 0),
  (25, .imul, 0, 26, 0),
  (26, .iload_n 2, 0, 27, 0),
  (27, .iadd, 0, 28, 0),
  (28, .iaload, 0, 29, 0),
  (29, .goto 5, 0, 32, 34),
  (32, .bipush (-2), (-2), 34, 0),
  (34, .ireturn, 0, 35, 0)]
def am_lv_152 : List (Nat × List Nat) := [(32, []), (34, [])]
/-- DeadLastsModel.whoBy -/
def am_cd_153 : List am_T5 := [
  (0, .iconst 0, 0, 1, 0),
  (1, .istore_n 2, 0, 2, 0),
  (2, .iconst 0, 0, 3, 0),
  (3, .istore_n 3, 0, 4, 0),
  (4, .iload_n 3, 0, 5, 0),
  (5, .aload_n 0, 0, 6, 0),
  (6, .getfield 141, 0, 9, 0),
  (9, .if_icmp .ge 31, 0, 12, 40),
  (12, .iload_n 2, 0, 13, 0),
  (13, .aload_n 0, 0, 14, 0),
  (14, .getfield 49, 0, 17, 0),
  (17, .iload_n 3, 0, 18, 0),
  (18, .iaload, 0, 19, 0),
  (19, .iload_n 1, 0, 20, 0),
  (20, .iconst 1, 1, 21, 0),
  (21, .iadd, 0, 22, 0),
  (22, .if_icmp .ne 9, 0, 25, 31),
  (25, .iconst 1, 1, 26, 0),
  (26, .iload_n 3, 0, 27, 0),
  (27, .ishl, 0, 28, 0),
  (28, .goto 4, 0, 31, 32),
  (31, .iconst 0, 0, 32, 0),
  (32, .ior, 0, 33, 0),
  (33, .istore_n 2, 0, 34, 0),
  (34, .iinc 3 1, 1, 37, 0),
  (37, .goto (-33), 0, 40, 4),
  (40, .iload_n 2, 0, 41, 0),
  (41, .ireturn, 0, 42, 0)]
def am_lv_153 : List (Nat × List Nat) := [(4, [0, 1, 2, 3]), (31, [0, 1, 3]), (32, [0, 1, 3]), (40, [2])]
/-- DeadLastsModel.who -/
def am_cd_154 : List am_T5 := [
  (0, .aload_n 0, 0, 1, 0),
  (1, .invokevirtual 230, 0, 4, 0),
  (4, .iload_n 1, 0, 5, 0),
  (5, .invokestatic 233, 0, 8, 0),
  (8, .ifCond .eq 11, 0, 11, 19),
  (11, .aload_n 0, 0, 12, 0),
  (12, .iload_n 1, 0, 13, 0),
  (13, .invokevirtual 236, 0, 16, 0),
  (16, .goto 5, 0, 19, 21),
  (19, .bipush (-2), (-2), 21, 0),
  (21, .ireturn, 0, 22, 0)]
def am_lv_154 : List (Nat × List Nat) := [(19, []), (21, [])]
/-- DeadLastsModel.metBy -/
def am_cd_155 : List am_T5 := [
  (0, .iload_n 1, 0, 1, 0),
  (1, .ifCond .ne 10, 0, 4, 11),
  (4, .aload_n 0, 0, 5, 0),
  (5, .getfield 208, 0, 8, 0),
  (8, .goto 19, 0, 11, 27),
  (11, .iload_n 1, 0, 12, 0),
  (12, .iconst 1, 1, 13, 0),
  (13, .if_icmp .ne 10, 0, 16, 23),
  (16, .aload_n 0, 0, 17, 0),
  (17, .getfield 211, 0, 20, 0),
  (20, .goto 7, 0, 23, 27),
  (23, .aload_n 0, 0, 24, 0),
  (24, .getfield 214, 0, 27, 0),
  (27, .ireturn, 0, 28, 0)]
def am_lv_155 : List (Nat × List Nat) := [(11, [0, 1]), (23, [0]), (27, [])]
/-- DeadLastsModel.met -/
def am_cd_156 : List am_T5 := [
  (0, .aload_n 0, 0, 1, 0),
  (1, .invokevirtual 230, 0, 4, 0),
  (4, .iload_n 1, 0, 5, 0),
  (5, .i2l, 0, 6, 0),
  (6, .lconst 0, 0, 7, 0),
  (7, .ldc2_w 98, 0, 10, 0),
  (10, .invokestatic 85, 0, 13, 0),
  (13, .ifCond .eq 11, 0, 16, 24),
  (16, .aload_n 0, 0, 17, 0),
  (17, .iload_n 1, 0, 18, 0),
  (18, .invokevirtual 239, 0, 21, 0),
  (21, .goto 5, 0, 24, 26),
  (24, .bipush (-2), (-2), 26, 0),
  (26, .ireturn, 0, 27, 0)]
def am_lv_156 : List (Nat × List Nat) := [(24, []), (26, [])]
/-- DeadLastsModel.worn -/
def am_cd_157 : List am_T5 := [
  (0, .aload_n 0, 0, 1, 0),
  (1, .invokevirtual 230, 0, 4, 0),
  (4, .aload_n 0, 0, 5, 0),
  (5, .iload_n 1, 0, 6, 0),
  (6, .invokevirtual 164, 0, 9, 0),
  (9, .ifCond .eq 12, 0, 12, 21),
  (12, .aload_n 0, 0, 13, 0),
  (13, .getfield 67, 0, 16, 0),
  (16, .iload_n 1, 0, 17, 0),
  (17, .iaload, 0, 18, 0),
  (18, .goto 5, 0, 21, 23),
  (21, .bipush (-2), (-2), 23, 0),
  (23, .ireturn, 0, 24, 0)]
def am_lv_157 : List (Nat × List Nat) := [(21, []), (23, [])]
/-- DeadLastsModel.rifestNow -/
def am_cd_158 : List am_T5 := [
  (0, .iconst (-1), (-1), 1, 0),
  (1, .istore_n 1, 0, 2, 0),
  (2, .iconst 0, 0, 3, 0),
  (3, .istore_n 2, 0, 4, 0),
  (4, .iload_n 2, 0, 5, 0),
  (5, .aload_n 0, 0, 6, 0),
  (6, .getfield 130, 0, 9, 0),
  (9, .if_icmp .ge 35, 0, 12, 44),
  (12, .iload_n 1, 0, 13, 0),
  (13, .iconst (-1), (-1), 14, 0),
  (14, .if_icmp .eq 18, 0, 17, 32),
  (17, .aload_n 0, 0, 18, 0),
  (18, .getfield 67, 0, 21, 0),
  (21, .iload_n 2, 0, 22, 0),
  (22, .iaload, 0, 23, 0),
  (23, .aload_n 0, 0, 24, 0),
  (24, .getfield 67, 0, 27, 0),
  (27, .iload_n 1, 0, 28, 0),
  (28, .iaload, 0, 29, 0),
  (29, .if_icmp .le 7, 0, 32, 36),
  (32, .iload_n 2, 0, 33, 0),
  (33, .goto 4, 0, 36, 37),
  (36, .iload_n 1, 0, 37, 0),
  (37, .istore_n 1, 0, 38, 0),
  (38, .iinc 2 1, 1, 41, 0),
  (41, .goto (-37), 0, 44, 4),
  (44, .iload_n 1, 0, 45, 0),
  (45, .ireturn, 0, 46, 0)]
def am_lv_158 : List (Nat × List Nat) := [(4, [0, 1, 2]), (32, [0, 2]), (36, [0, 1, 2]), (37, [0, 2]), (44, [1])]
/-- DeadLastsModel.rifest -/
def am_cd_159 : List am_T5 := [
  (0, .aload_n 0, 0, 1, 0),
  (1, .invokevirtual 230, 0, 4, 0),
  (4, .aload_n 0, 0, 5, 0),
  (5, .invokevirtual 242, 0, 8, 0),
  (8, .ireturn, 0, 9, 0)]
def am_lv_159 : List (Nat × List Nat) := []
/-- DeadLastsModel.comes -/
def am_cd_160 : List am_T5 := [
  (0, .aload_n 0, 0, 1, 0),
  (1, .getfield 49, 0, 4, 0),
  (4, .iload_n 1, 0, 5, 0),
  (5, .iaload, 0, 6, 0),
  (6, .iconst 1, 1, 7, 0),
  (7, .if_icmp .ne 14, 0, 10, 21),
  (10, .aload_n 0, 0, 11, 0),
  (11, .getfield 64, 0, 14, 0),
  (14, .iconst 2, 2, 15, 0),
  (15, .iload_n 1, 0, 16, 0),
  (16, .imul, 0, 17, 0),
  (17, .iaload, 0, 18, 0),
  (18, .goto 5, 0, 21, 23),
  (21, .bipush 30, 30, 23, 0),
  (23, .ireturn, 0, 24, 0)]
def am_lv_160 : List (Nat × List Nat) := [(21, []), (23, [])]
/-- DeadLastsModel.pairOf -/
def am_cd_161 : List am_T5 := [
  (0, .aload_n 0, 0, 1, 0),
  (1, .getfield 40, 0, 4, 0),
  (4, .iconst 5, 5, 5, 0),
  (5, .iload_n 1, 0, 6, 0),
  (6, .imul, 0, 7, 0),
  (7, .iconst 1, 1, 8, 0),
  (8, .iadd, 0, 9, 0),
  (9, .iaload, 0, 10, 0),
  (10, .istore_n 3, 0, 11, 0),
  (11, .aload_n 0, 0, 12, 0),
  (12, .getfield 40, 0, 15, 0),
  (15, .iconst 5, 5, 16, 0),
  (16, .iload_n 1, 0, 17, 0),
  (17, .imul, 0, 18, 0),
  (18, .iconst 2, 2, 19, 0),
  (19, .iadd, 0, 20, 0),
  (20, .iaload, 0, 21, 0),
  (21, .istore 4, 0, 23, 0),
  (23, .iconst (-1), (-1), 24, 0),
  (24, .istore 5, 0, 26, 0),
  (26, .bipush 30, 30, 28, 0),
  (28, .istore 6, 0, 30, 0),
  (30, .iconst 0, 0, 31, 0),
  (31, .istore 7, 0, 33, 0),
  (33, .iload 7, 0, 35, 0),
  (35, .aload_n 0, 0, 36, 0),
  (36, .getfield 130, 0, 39, 0),
  (39, .aload_n 0, 0, 40, 0),
  (40, .getfield 130, 0, 43, 0),
  (43, .imul, 0, 44, 0),
  (44, .if_icmp .ge 95, 0, 47, 139),
  (47, .aload_n 0, 0, 48, 0),
  (48, .getfield 40, 0, 51, 0),
  (51, .iconst 5, 5, 52, 0),
  (52, .iload_n 1, 0, 53, 0),
  (53, .imul, 0, 54, 0),
  (54, .iconst 1, 1, 55, 0),
  (55, .iadd, 0, 56, 0),
  (56, .iload 7, 0, 58, 0),
  (58, .aload_n 0, 0, 59, 0),
  (59, .getfield 130, 0, 62, 0),
  (62, .idiv, 0, 63, 0),
  (63, .iastore, 0, 64, 0),
  (64, .aload_n 0, 0, 65, 0),
  (65, .getfield 40, 0, 68, 0),
  (68, .iconst 5, 5, 69, 0),
  (69, .iload_n 1, 0, 70, 0),
  (70, .imul, 0, 71, 0),
  (71, .iconst 2, 2, 72, 0),
  (72, .iadd, 0, 73, 0),
  (73, .iload 7, 0, 75, 0),
  (75, .aload_n 0, 0, 76, 0),
  (76, .getfield 130, 0, 79, 0),
  (79, .irem, 0, 80, 0),
  (80, .iastore, 0, 81, 0),
  (81, .aload_n 0, 0, 82, 0),
  (82, .invokevirtual 227, 0, 85, 0),
  (85, .aload_n 0, 0, 86, 0),
  (86, .iload_n 1, 0, 87, 0),
  (87, .invokevirtual 245, 0, 90, 0),
  (90, .iload 6, 0, 92, 0),
  (92, .if_icmp .ge 7, 0, 95, 99),
  (95, .iconst 1, 1, 96, 0),
  (96, .goto 4, 0, 99, 100),
  (99, .iconst 0, 0, 100, 0),
  (100, .istore 8, 0, 102, 0),
  (102, .iload 8, 0, 104, 0),
  (104, .ifCond .eq 8, 0, 107, 112),
  (107, .iload 7, 0, 109, 0),
  (109, .goto 5, 0, 112, 114),
  (112, .iload 5, 0, 114, 0),
  (114, .istore 5, 0, 116, 0),
  (116, .iload 8, 0, 118, 0),
  (118, .ifCond .eq 11, 0, 121, 129),
  (121, .aload_n 0, 0, 122, 0),
  (122, .iload_n 1, 0, 123, 0),
  (123, .invokevirtual 245, 0, 126, 0),
  (126, .goto 5, 0, 129, 131),
  (129, .iload 6, 0, 131, 0),
  (131, .istore 6, 0, 133, 0),
  (133, .iinc 7 1, 1, 136, 0),
  (136, .goto (-103), 0, 139, 33),
  (139, .aload_n 0, 0, 140, 0),
  (140, .getfield 40, 0, 143, 0),
  (143, .iconst 5, 5, 144, 0),
  (144, .iload_n 1, 0, 145, 0),
  (145, .imul, 0, 146, 0),
  (146, .iconst 1, 1, 147, 0),
  (147, .iadd, 0, 148, 0),
  (148, .iload_n 3, 0, 149, 0),
  (149, .iastore, 0, 150, 0),
  (150, .aload_n 0, 0, 151, 0),
  (151, .getfield 40, 0, 154, 0),
  (154, .iconst 5, 5, 155, 0),
  (155, .iload_n 1, 0, 156, 0),
  (156, .imul, 0, 157, 0),
  (157, .iconst 2, 2, 158, 0),
  (158, .iadd, 0, 159, 0),
  (159, .iload 4, 0, 161, 0),
  (161, .iastore, 0, 162, 0),
  (162, .iload 5, 0, 164, 0),
  (164, .iconst (-1), (-1), 165, 0),
  (165, .if_icmp .ne 7, 0, 168, 172),
  (168, .iconst (-1), (-1), 169, 0),
  (169, .goto 34, 0, 172, 203),
  (172, .iload_n 2, 0, 173, 0),
  (173, .ifCond .ne 13, 0, 176, 186),
  (176, .iload 5, 0, 178, 0),
  (178, .aload_n 0, 0, 179, 0),
  (179, .getfield 130, 0, 182, 0),
  (182, .idiv, 0, 183, 0),
  (183, .goto 20, 0, 186, 203),
  (186, .iload_n 2, 0, 187, 0),
  (187, .iconst 1, 1, 188, 0),
  (188, .if_icmp .ne 13, 0, 191, 201),
  (191, .iload 5, 0, 193, 0),
  (193, .aload_n 0, 0, 194, 0),
  (194, .getfield 130, 0, 197, 0),
  (197, .irem, 0, 198, 0),
  (198, .goto 5, 0, 201, 203),
  (201, .iload 6, 0, 203, 0),
  (203, .ireturn, 0, 204, 0)]
def am_lv_161 : List (Nat × List Nat) := [(33, [0, 1, 2, 3, 4, 5, 6, 7]), (99, [0, 1, 2, 3, 4, 5, 6, 7]), (100, [0, 1, 2, 3, 4, 5, 6, 7]), (112, [0, 1, 2, 3, 4, 5, 6, 7, 8]), (114, [0, 1, 2, 3, 4, 6, 7, 8]), (129, [0, 1, 2, 3, 4, 5, 6, 7]), (131, [0, 1, 2, 3, 4, 5, 7]), (139, [0, 1, 2, 3, 4, 5, 6]), (172, [0, 2, 5, 6]), (186, [0, 2, 5, 6]), (201, [6]), (203, [])]
/-- DeadLastsModel.pair -/
def am_cd_162 : List am_T5 := [
  (0, .aload_n 0, 0, 1, 0),
  (1, .invokevirtual 230, 0, 4, 0),
  (4, .aload_n 0, 0, 5, 0),
  (5, .iload_n 1, 0, 6, 0),
  (6, .invokevirtual 172, 0, 9, 0),
  (9, .ifCond .eq 24, 0, 12, 33),
  (12, .iload_n 2, 0, 13, 0),
  (13, .i2l, 0, 14, 0),
  (14, .lconst 0, 0, 15, 0),
  (15, .ldc2_w 98, 0, 18, 0),
  (18, .invokestatic 85, 0, 21, 0),
  (21, .ifCond .eq 12, 0, 24, 33),
  (24, .aload_n 0, 0, 25, 0),
  (25, .iload_n 1, 0, 26, 0),
  (26, .iload_n 2, 0, 27, 0),
  (27, .invokevirtual 248, 0, 30, 0),
  (30, .goto 5, 0, 33, 35),
  (33, .bipush (-2), (-2), 35, 0),
  (35, .ireturn, 0, 36, 0)]
def am_lv_162 : List (Nat × List Nat) := [(33, []), (35, [])]
/-- DeadLastsModel.solesOf -/
def am_cd_163 : List am_T5 := [
  (0, .aload_n 0, 0, 1, 0),
  (1, .getfield 40, 0, 4, 0),
  (4, .iconst 5, 5, 5, 0),
  (5, .iload_n 1, 0, 6, 0),
  (6, .imul, 0, 7, 0),
  (7, .iconst 3, 3, 8, 0),
  (8, .iadd, 0, 9, 0),
  (9, .iaload, 0, 10, 0),
  (10, .istore_n 2, 0, 11, 0),
  (11, .iconst (-1), (-1), 12, 0),
  (12, .istore_n 3, 0, 13, 0),
  (13, .iconst 5, 5, 14, 0),
  (14, .istore 4, 0, 16, 0),
  (16, .iload 4, 0, 18, 0),
  (18, .ifCond .lt 42, 0, 21, 60),
  (21, .aload_n 0, 0, 22, 0),
  (22, .getfield 40, 0, 25, 0),
  (25, .iconst 5, 5, 26, 0),
  (26, .iload_n 1, 0, 27, 0),
  (27, .imul, 0, 28, 0),
  (28, .iconst 3, 3, 29, 0),
  (29, .iadd, 0, 30, 0),
  (30, .iload 4, 0, 32, 0),
  (32, .iastore, 0, 33, 0),
  (33, .aload_n 0, 0, 34, 0),
  (34, .invokevirtual 227, 0, 37, 0),
  (37, .aload_n 0, 0, 38, 0),
  (38, .getfield 49, 0, 41, 0),
  (41, .iload_n 1, 0, 42, 0),
  (42, .iaload, 0, 43, 0),
  (43, .iconst 2, 2, 44, 0),
  (44, .if_icmp .ne 7, 0, 47, 51),
  (47, .iload_n 3, 0, 48, 0),
  (48, .goto 5, 0, 51, 53),
  (51, .iload 4, 0, 53, 0),
  (53, .istore_n 3, 0, 54, 0),
  (54, .iinc 4 (-1), (-1), 57, 0),
  (57, .goto (-41), 0, 60, 16),
  (60, .aload_n 0, 0, 61, 0),
  (61, .getfield 40, 0, 64, 0),
  (64, .iconst 5, 5, 65, 0),
  (65, .iload_n 1, 0, 66, 0),
  (66, .imul, 0, 67, 0),
  (67, .iconst 3, 3, 68, 0),
  (68, .iadd, 0, 69, 0),
  (69, .iload_n 2, 0, 70, 0),
  (70, .iastore, 0, 71, 0),
  (71, .iload_n 3, 0, 72, 0),
  (72, .ireturn, 0, 73, 0)]
def am_lv_163 : List (Nat × List Nat) := [(16, [0, 1, 2, 3, 4]), (51, [0, 1, 2, 4]), (53, [0, 1, 2, 4]), (60, [0, 1, 2, 3])]
/-- DeadLastsModel.soles -/
def am_cd_164 : List am_T5 := [
  (0, .aload_n 0, 0, 1, 0),
  (1, .invokevirtual 230, 0, 4, 0),
  (4, .aload_n 0, 0, 5, 0),
  (5, .iload_n 1, 0, 6, 0),
  (6, .invokevirtual 172, 0, 9, 0),
  (9, .ifCond .eq 11, 0, 12, 20),
  (12, .aload_n 0, 0, 13, 0),
  (13, .iload_n 1, 0, 14, 0),
  (14, .invokevirtual 251, 0, 17, 0),
  (17, .goto 5, 0, 20, 22),
  (20, .bipush (-2), (-2), 22, 0),
  (22, .ireturn, 0, 23, 0)]
def am_lv_164 : List (Nat × List Nat) := [(20, []), (22, [])]
/-- DeadLastsModel.comesIn -/
def am_cd_165 : List am_T5 := [
  (0, .aload_n 0, 0, 1, 0),
  (1, .getfield 40, 0, 4, 0),
  (4, .iconst 5, 5, 5, 0),
  (5, .iload_n 1, 0, 6, 0),
  (6, .imul, 0, 7, 0),
  (7, .iconst 1, 1, 8, 0),
  (8, .iadd, 0, 9, 0),
  (9, .iaload, 0, 10, 0),
  (10, .istore_n 3, 0, 11, 0),
  (11, .aload_n 0, 0, 12, 0),
  (12, .getfield 40, 0, 15, 0),
  (15, .iconst 5, 5, 16, 0),
  (16, .iload_n 1, 0, 17, 0),
  (17, .imul, 0, 18, 0),
  (18, .iconst 2, 2, 19, 0),
  (19, .iadd, 0, 20, 0),
  (20, .iaload, 0, 21, 0),
  (21, .istore 4, 0, 23, 0),
  (23, .aload_n 0, 0, 24, 0),
  (24, .getfield 40, 0, 27, 0),
  (27, .iconst 5, 5, 28, 0),
  (28, .iload_n 1, 0, 29, 0),
  (29, .imul, 0, 30, 0),
  (30, .iconst 1, 1, 31, 0),
  (31, .iadd, 0, 32, 0),
  (32, .iload_n 2, 0, 33, 0),
  (33, .iastore, 0, 34, 0),
  (34, .aload_n 0, 0, 35, 0),
  (35, .getfield 40, 0, 38, 0),
  (38, .iconst 5, 5, 39, 0),
  (39, .iload_n 1, 0, 40, 0),
  (40, .imul, 0, 41, 0),
  (41, .iconst 2, 2, 42, 0),
  (42, .iadd, 0, 43, 0),
  (43, .iload_n 2, 0, 44, 0),
  (44, .iastore, 0, 45, 0),
  (45, .aload_n 0, 0, 46, 0),
  (46, .invokevirtual 227, 0, 49, 0),
  (49, .aload_n 0, 0, 50, 0),
  (50, .getfield 40, 0, 53, 0),
  (53, .iconst 5, 5, 54, 0),
  (54, .iload_n 1, 0, 55, 0),
  (55, .imul, 0, 56, 0),
  (56, .iconst 1, 1, 57, 0),
  (57, .iadd, 0, 58, 0),
  (58, .iload_n 3, 0, 59, 0),
  (59, .iastore, 0, 60, 0),
  (60, .aload_n 0, 0, 61, 0),
  (61, .getfield 40, 0, 64, 0),
  (64, .iconst 5, 5, 65, 0),
  (65, .iload_n 1, 0, 66, 0),
  (66, .imul, 0, 67, 0),
  (67, .iconst 2, 2, 68, 0),
  (68, .iadd, 0, 69, 0),
  (69, .iload 4, 0, 71, 0),
  (71, .iastore, 0, 72, 0),
  (72, .aload_n 0, 0, 73, 0),
  (73, .getfield 49, 0, 76, 0),
  (76, .iload_n 1, 0, 77, 0),
  (77, .iaload, 0, 78, 0),
  (78, .iconst 1, 1, 79, 0),
  (79, .if_icmp .ne 7, 0, 82, 86),
  (82, .iconst 1, 1, 83, 0),
  (83, .goto 4, 0, 86, 87),
  (86, .iconst 0, 0, 87, 0),
  (87, .ireturn, 0, 88, 0)]
def am_lv_165 : List (Nat × List Nat) := [(86, []), (87, [])]
/-- DeadLastsModel.matchNow -/
def am_cd_166 : List am_T5 := [
  (0, .iconst 1, 1, 1, 0),
  (1, .aload_n 0, 0, 2, 0),
  (2, .getfield 130, 0, 5, 0),
  (5, .ishl, 0, 6, 0),
  (6, .istore_n 1, 0, 7, 0),
  (7, .iconst 0, 0, 8, 0),
  (8, .istore_n 2, 0, 9, 0),
  (9, .iload_n 2, 0, 10, 0),
  (10, .iload_n 1, 0, 11, 0),
  (11, .if_icmp .ge 16, 0, 14, 27),
  (14, .aload_n 0, 0, 15, 0),
  (15, .getfield 70, 0, 18, 0),
  (18, .iload_n 2, 0, 19, 0),
  (19, .iconst 0, 0, 20, 0),
  (20, .iastore, 0, 21, 0),
  (21, .iinc 2 1, 1, 24, 0),
  (24, .goto (-15), 0, 27, 9),
  (27, .iconst 0, 0, 28, 0),
  (28, .istore_n 2, 0, 29, 0),
  (29, .iload_n 2, 0, 30, 0),
  (30, .aload_n 0, 0, 31, 0),
  (31, .getfield 141, 0, 34, 0),
  (34, .if_icmp .ge 141, 0, 37, 175),
  (37, .iconst 0, 0, 38, 0),
  (38, .istore_n 3, 0, 39, 0),
  (39, .iconst 0, 0, 40, 0),
  (40, .istore 4, 0, 42, 0),
  (42, .iload 4, 0, 44, 0),
  (44, .aload_n 0, 0, 45, 0),
  (45, .getfield 130, 0, 48, 0),
  (48, .if_icmp .ge 30, 0, 51, 78),
  (51, .iload_n 3, 0, 52, 0),
  (52, .aload_n 0, 0, 53, 0),
  (53, .iload_n 2, 0, 54, 0),
  (54, .iload 4, 0, 56, 0),
  (56, .invokevirtual 254, 0, 59, 0),
  (59, .ifCond .eq 10, 0, 62, 69),
  (62, .iconst 1, 1, 63, 0),
  (63, .iload 4, 0, 65, 0),
  (65, .ishl, 0, 66, 0),
  (66, .goto 4, 0, 69, 70),
  (69, .iconst 0, 0, 70, 0),
  (70, .ior, 0, 71, 0),
  (71, .istore_n 3, 0, 72, 0),
  (72, .iinc 4 1, 1, 75, 0),
  (75, .goto (-33), 0, 78, 42),
  (78, .iload_n 1, 0, 79, 0),
  (79, .iconst 1, 1, 80, 0),
  (80, .isub, 0, 81, 0),
  (81, .istore 4, 0, 83, 0),
  (83, .iload 4, 0, 85, 0),
  (85, .ifCond .le 84, 0, 88, 169),
  (88, .iconst 0, 0, 89, 0),
  (89, .istore 5, 0, 91, 0),
  (91, .iload 5, 0, 93, 0),
  (93, .aload_n 0, 0, 94, 0),
  (94, .getfield 130, 0, 97, 0),
  (97, .if_icmp .ge 66, 0, 100, 163),
  (100, .iload 4, 0, 102, 0),
  (102, .iload_n 3, 0, 103, 0),
  (103, .iand, 0, 104, 0),
  (104, .iload 5, 0, 106, 0),
  (106, .invokestatic 185, 0, 109, 0),
  (109, .istore 6, 0, 111, 0),
  (111, .aload_n 0, 0, 112, 0),
  (112, .getfield 70, 0, 115, 0),
  (115, .iload 4, 0, 117, 0),
  (117, .iload 6, 0, 119, 0),
  (119, .ifCond .eq 30, 0, 122, 149),
  (122, .aload_n 0, 0, 123, 0),
  (123, .getfield 70, 0, 126, 0),
  (126, .iload 4, 0, 128, 0),
  (128, .iconst 1, 1, 129, 0),
  (129, .iload 5, 0, 131, 0),
  (131, .ishl, 0, 132, 0),
  (132, .ixor, 0, 133, 0),
  (133, .iaload, 0, 134, 0),
  (134, .iconst 1, 1, 135, 0),
  (135, .iadd, 0, 136, 0),
  (136, .aload_n 0, 0, 137, 0),
  (137, .getfield 70, 0, 140, 0),
  (140, .iload 4, 0, 142, 0),
  (142, .iaload, 0, 143, 0),
  (143, .invokestatic 257, 0, 146, 0),
  (146, .goto 10, 0, 149, 156),
  (149, .aload_n 0, 0, 150, 0),
  (150, .getfield 70, 0, 153, 0),
  (153, .iload 4, 0, 155, 0),
  (155, .iaload, 0, 156, 0),
  (156, .iastore, 0, 157, 0),
  (157, .iinc 5 1, 1, 160, 0),
  (160, .goto (-69), 0, 163, 91),
  (163, .iinc 4 (-1), (-1), 166, 0),
  (166, .goto (-83), 0, 169, 83),
  (169, .iinc 2 1, 1, 172, 0),
  (172, .goto (-143), 0, 175, 29),
  (175, .aload_n 0, 0, 176, 0),
  (176, .getfield 70, 0, 179, 0),
  (179, .iload_n 1, 0, 180, 0),
  (180, .iconst 1, 1, 181, 0),
  (181, .isub, 0, 182, 0),
  (182, .iaload, 0, 183, 0),
  (183, .ireturn, 0, 184, 0)]
def am_lv_166 : List (Nat × List Nat) := [(9, [0, 1, 2]), (27, [0, 1]), (29, [0, 1, 2]), (42, [0, 1, 2, 3, 4]), (69, [0, 1, 2, 4]), (70, [0, 1, 2, 4]), (78, [0, 1, 2, 3]), (83, [0, 1, 2, 3, 4]), (91, [0, 1, 2, 3, 4, 5]), (149, [0, 1, 2, 3, 4, 5]), (156, [0, 1, 2, 3, 4, 5]), (163, [0, 1, 2, 3, 4]), (169, [0, 1, 2]), (175, [0, 1])]
/-- DeadLastsModel.match -/
def am_cd_167 : List am_T5 := [
  (0, .aload_n 0, 0, 1, 0),
  (1, .invokevirtual 230, 0, 4, 0),
  (4, .aload_n 0, 0, 5, 0),
  (5, .invokevirtual 260, 0, 8, 0),
  (8, .ireturn, 0, 9, 0)]
def am_lv_167 : List (Nat × List Nat) := []
/-- DeadLastsModel.isDry -/
def am_cd_168 : List am_T5 := [
  (0, .aload_n 0, 0, 1, 0),
  (1, .iload_n 1, 0, 2, 0),
  (2, .putfield 189, 0, 5, 0),
  (5, .aload_n 0, 0, 6, 0),
  (6, .invokevirtual 227, 0, 9, 0),
  (9, .aload_n 0, 0, 10, 0),
  (10, .iconst 0, 0, 11, 0),
  (11, .putfield 189, 0, 14, 0),
  (14, .aload_n 0, 0, 15, 0),
  (15, .iconst 1, 1, 16, 0),
  (16, .invokevirtual 236, 0, 19, 0),
  (19, .ifCond .ne 7, 0, 22, 26),
  (22, .iconst 1, 1, 23, 0),
  (23, .goto 4, 0, 26, 27),
  (26, .iconst 0, 0, 27, 0),
  (27, .ireturn, 0, 28, 0)]
def am_lv_168 : List (Nat × List Nat) := [(26, []), (27, [])]
/-- DeadLastsModel.dryOf -/
def am_cd_169 : List am_T5 := [
  (0, .aload_n 0, 0, 1, 0),
  (1, .iconst 0, 0, 2, 0),
  (2, .invokevirtual 263, 0, 5, 0),
  (5, .ifCond .eq 14, 0, 8, 19),
  (8, .iload_n 1, 0, 9, 0),
  (9, .iconst (-1), (-1), 10, 0),
  (10, .if_icmp .ne 7, 0, 13, 17),
  (13, .iconst 0, 0, 14, 0),
  (14, .goto 4, 0, 17, 18),
  (17, .iconst (-1), (-1), 18, 0),
  (18, .ireturn, 0, 19, 0),
  (19, .iconst 0, 0, 20, 0),
  (20, .istore_n 2, 0, 21, 0),
  (21, .iload_n 2, 0, 22, 0),
  (22, .aload_n 0, 0, 23, 0),
  (23, .getfield 180, 0, 26, 0),
  (26, .if_icmp .ge 38, 0, 29, 64),
  (29, .aload_n 0, 0, 30, 0),
  (30, .iconst 1, 1, 31, 0),
  (31, .iload_n 2, 0, 32, 0),
  (32, .ishl, 0, 33, 0),
  (33, .invokevirtual 263, 0, 36, 0),
  (36, .ifCond .eq 22, 0, 39, 58),
  (39, .iload_n 1, 0, 40, 0),
  (40, .iconst (-1), (-1), 41, 0),
  (41, .if_icmp .ne 7, 0, 44, 48),
  (44, .iconst 1, 1, 45, 0),
  (45, .goto 12, 0, 48, 57),
  (48, .iload_n 1, 0, 49, 0),
  (49, .ifCond .ne 7, 0, 52, 56),
  (52, .iload_n 2, 0, 53, 0),
  (53, .goto 4, 0, 56, 57),
  (56, .iconst (-1), (-1), 57, 0),
  (57, .ireturn, 0, 58, 0),
  (58, .iinc 2 1, 1, 61, 0),
  (61, .goto (-40), 0, 64, 21),
  (64, .iconst 0, 0, 65, 0),
  (65, .istore_n 2, 0, 66, 0),
  (66, .iload_n 2, 0, 67, 0),
  (67, .aload_n 0, 0, 68, 0),
  (68, .getfield 180, 0, 71, 0),
  (71, .if_icmp .ge 60, 0, 74, 131),
  (74, .iload_n 2, 0, 75, 0),
  (75, .iconst 1, 1, 76, 0),
  (76, .iadd, 0, 77, 0),
  (77, .istore_n 3, 0, 78, 0),
  (78, .iload_n 3, 0, 79, 0),
  (79, .aload_n 0, 0, 80, 0),
  (80, .getfield 180, 0, 83, 0),
  (83, .if_icmp .ge 42, 0, 86, 125),
  (86, .aload_n 0, 0, 87, 0),
  (87, .iconst 1, 1, 88, 0),
  (88, .iload_n 2, 0, 89, 0),
  (89, .ishl, 0, 90, 0),
  (90, .iconst 1, 1, 91, 0),
  (91, .iload_n 3, 0, 92, 0),
  (92, .ishl, 0, 93, 0),
  (93, .ior, 0, 94, 0),
  (94, .invokevirtual 263, 0, 97, 0),
  (97, .ifCond .eq 22, 0, 100, 119),
  (100, .iload_n 1, 0, 101, 0),
  (101, .iconst (-1), (-1), 102, 0),
  (102, .if_icmp .ne 7, 0, 105, 109),
  (105, .iconst 2, 2, 106, 0),
  (106, .goto 12, 0, 109, 118),
  (109, .iload_n 1, 0, 110, 0),
  (110, .ifCond .ne 7, 0, 113, 117),
  (113, .iload_n 2, 0, 114, 0),
  (114, .goto 4, 0, 117, 118),
  (117, .iload_n 3, 0, 118, 0),
  (118, .ireturn, 0, 119, 0),
  (119, .iinc 3 1, 1, 122, 0),
  (122, .goto (-44), 0, 125, 78),
  (125, .iinc 2 1, 1, 128, 0),
  (128, .goto (-62), 0, 131, 66),
  (131, .iconst (-1), (-1), 132, 0),
  (132, .ireturn, 0, 133, 0)]
def am_lv_169 : List (Nat × List Nat) := [(17, []), (18, []), (19, [0, 1]), (21, [0, 1, 2]), (48, [1, 2]), (56, []), (57, []), (58, [0, 1, 2]), (64, [0, 1]), (66, [0, 1, 2]), (78, [0, 1, 2, 3]), (109, [1, 2, 3]), (117, [3]), (118, []), (119, [0, 1, 2, 3]), (125, [0, 1, 2]), (131, [])]
/-- DeadLastsModel.dry -/
def am_cd_170 : List am_T5 := [
  (0, .aload_n 0, 0, 1, 0),
  (1, .invokevirtual 230, 0, 4, 0),
  (4, .iload_n 1, 0, 5, 0),
  (5, .i2l, 0, 6, 0),
  (6, .ldc2_w 266, 0, 9, 0),
  (9, .lconst 1, 0, 10, 0),
  (10, .invokestatic 85, 0, 13, 0),
  (13, .ifCond .eq 11, 0, 16, 24),
  (16, .aload_n 0, 0, 17, 0),
  (17, .iload_n 1, 0, 18, 0),
  (18, .invokevirtual 268, 0, 21, 0),
  (21, .goto 5, 0, 24, 26),
  (24, .bipush (-2), (-2), 26, 0),
  (26, .ireturn, 0, 27, 0)]
def am_lv_170 : List (Nat × List Nat) := [(24, []), (26, [])]
/-- DeadLastsModel.seen -/
def am_cd_171 : List am_T5 := [
  (0, .iload_n 1, 0, 1, 0),
  (1, .invokestatic 177, 0, 4, 0),
  (4, .ifCond .eq 27, 0, 7, 31),
  (7, .iload_n 2, 0, 8, 0),
  (8, .i2l, 0, 9, 0),
  (9, .lconst 0, 0, 10, 0),
  (10, .ldc2_w 271, 0, 13, 0),
  (13, .invokestatic 85, 0, 16, 0),
  (16, .ifCond .eq 15, 0, 19, 31),
  (19, .iload_n 3, 0, 20, 0),
  (20, .i2l, 0, 21, 0),
  (21, .lconst 0, 0, 22, 0),
  (22, .ldc2_w 162, 0, 25, 0),
  (25, .invokestatic 85, 0, 28, 0),
  (28, .ifCond .ne 6, 0, 31, 34),
  (31, .bipush (-2), (-2), 33, 0),
  (33, .ireturn, 0, 34, 0),
  (34, .aload_n 0, 0, 35, 0),
  (35, .getfield 273, 0, 38, 0),
  (38, .bipush 8, 8, 40, 0),
  (40, .if_icmp .ne 6, 0, 43, 46),
  (43, .bipush (-4), (-4), 45, 0),
  (45, .ireturn, 0, 46, 0),
  (46, .aload_n 0, 0, 47, 0),
  (47, .getfield 73, 0, 50, 0),
  (50, .iconst 3, 3, 51, 0),
  (51, .aload_n 0, 0, 52, 0),
  (52, .getfield 273, 0, 55, 0),
  (55, .imul, 0, 56, 0),
  (56, .iload_n 1, 0, 57, 0),
  (57, .iastore, 0, 58, 0),
  (58, .aload_n 0, 0, 59, 0),
  (59, .getfield 73, 0, 62, 0),
  (62, .iconst 3, 3, 63, 0),
  (63, .aload_n 0, 0, 64, 0),
  (64, .getfield 273, 0, 67, 0),
  (67, .imul, 0, 68, 0),
  (68, .iconst 1, 1, 69, 0),
  (69, .iadd, 0, 70, 0),
  (70, .iload_n 2, 0, 71, 0),
  (71, .iastore, 0, 72, 0),
  (72, .aload_n 0, 0, 73, 0),
  (73, .getfield 73, 0, 76, 0),
  (76, .iconst 3, 3, 77, 0),
  (77, .aload_n 0, 0, 78, 0),
  (78, .getfield 273, 0, 81, 0),
  (81, .imul, 0, 82, 0),
  (82, .iconst 2, 2, 83, 0),
  (83, .iadd, 0, 84, 0),
  (84, .iload_n 3, 0, 85, 0),
  (85, .iastore, 0, 86, 0),
  (86, .aload_n 0, 0, 87, 0),
  (87, .dup, 0, 88, 0),
  (88, .getfield 273, 0, 91, 0),
  (91, .iconst 1, 1, 92, 0),
  (92, .iadd, 0, 93, 0),
  (93, .putfield 273, 0, 96, 0),
  (96, .aload_n 0, 0, 97, 0),
  (97, .getfield 273, 0, 100, 0),
  (100, .ireturn, 0, 101, 0)]
def am_lv_171 : List (Nat × List Nat) := [(31, []), (34, [0, 1, 2, 3]), (46, [0, 1, 2, 3])]
/-- DeadLastsModel.forget -/
def am_cd_172 : List am_T5 := [
  (0, .aload_n 0, 0, 1, 0),
  (1, .getfield 273, 0, 4, 0),
  (4, .istore_n 1, 0, 5, 0),
  (5, .aload_n 0, 0, 6, 0),
  (6, .iconst 0, 0, 7, 0),
  (7, .putfield 273, 0, 10, 0),
  (10, .iload_n 1, 0, 11, 0),
  (11, .ireturn, 0, 12, 0)]
def am_lv_172 : List (Nat × List Nat) := []
/-- DeadLastsModel.isSeen -/
def am_cd_173 : List am_T5 := [
  (0, .aload_n 0, 0, 1, 0),
  (1, .invokevirtual 227, 0, 4, 0),
  (4, .iconst 1, 1, 5, 0),
  (5, .istore_n 1, 0, 6, 0),
  (6, .iconst 0, 0, 7, 0),
  (7, .istore_n 2, 0, 8, 0),
  (8, .iload_n 2, 0, 9, 0),
  (9, .aload_n 0, 0, 10, 0),
  (10, .getfield 273, 0, 13, 0),
  (13, .if_icmp .ge 71, 0, 16, 84),
  (16, .aload_n 0, 0, 17, 0),
  (17, .getfield 73, 0, 20, 0),
  (20, .iconst 3, 3, 21, 0),
  (21, .iload_n 2, 0, 22, 0),
  (22, .imul, 0, 23, 0),
  (23, .iconst 1, 1, 24, 0),
  (24, .iadd, 0, 25, 0),
  (25, .iaload, 0, 26, 0),
  (26, .istore_n 3, 0, 27, 0),
  (27, .iload_n 1, 0, 28, 0),
  (28, .ifCond .eq 48, 0, 31, 76),
  (31, .aload_n 0, 0, 32, 0),
  (32, .iload_n 3, 0, 33, 0),
  (33, .invokevirtual 172, 0, 36, 0),
  (36, .ifCond .eq 40, 0, 39, 76),
  (39, .aload_n 0, 0, 40, 0),
  (40, .getfield 61, 0, 43, 0),
  (43, .bipush 32, 32, 45, 0),
  (45, .aload_n 0, 0, 46, 0),
  (46, .getfield 73, 0, 49, 0),
  (49, .iconst 3, 3, 50, 0),
  (50, .iload_n 2, 0, 51, 0),
  (51, .imul, 0, 52, 0),
  (52, .iaload, 0, 53, 0),
  (53, .imul, 0, 54, 0),
  (54, .iconst 4, 4, 55, 0),
  (55, .iload_n 3, 0, 56, 0),
  (56, .imul, 0, 57, 0),
  (57, .iadd, 0, 58, 0),
  (58, .iaload, 0, 59, 0),
  (59, .aload_n 0, 0, 60, 0),
  (60, .getfield 73, 0, 63, 0),
  (63, .iconst 3, 3, 64, 0),
  (64, .iload_n 2, 0, 65, 0),
  (65, .imul, 0, 66, 0),
  (66, .iconst 2, 2, 67, 0),
  (67, .iadd, 0, 68, 0),
  (68, .iaload, 0, 69, 0),
  (69, .if_icmp .ne 7, 0, 72, 76),
  (72, .iconst 1, 1, 73, 0),
  (73, .goto 4, 0, 76, 77),
  (76, .iconst 0, 0, 77, 0),
  (77, .istore_n 1, 0, 78, 0),
  (78, .iinc 2 1, 1, 81, 0),
  (81, .goto (-73), 0, 84, 8),
  (84, .iload_n 1, 0, 85, 0),
  (85, .ireturn, 0, 86, 0)]
def am_lv_173 : List (Nat × List Nat) := [(8, [0, 1, 2]), (76, [0, 2]), (77, [0, 2]), (84, [1])]
/-- DeadLastsModel.neverNow -/
def am_cd_174 : List am_T5 := [
  (0, .iconst 0, 0, 1, 0),
  (1, .istore_n 1, 0, 2, 0),
  (2, .iconst 0, 0, 3, 0),
  (3, .istore_n 2, 0, 4, 0),
  (4, .iload_n 2, 0, 5, 0),
  (5, .aload_n 0, 0, 6, 0),
  (6, .getfield 180, 0, 9, 0),
  (9, .if_icmp .ge 33, 0, 12, 42),
  (12, .aload_n 0, 0, 13, 0),
  (13, .iconst 1, 1, 14, 0),
  (14, .iload_n 2, 0, 15, 0),
  (15, .ishl, 0, 16, 0),
  (16, .putfield 189, 0, 19, 0),
  (19, .iload_n 1, 0, 20, 0),
  (20, .aload_n 0, 0, 21, 0),
  (21, .invokevirtual 276, 0, 24, 0),
  (24, .ifCond .eq 9, 0, 27, 33),
  (27, .iconst 1, 1, 28, 0),
  (28, .iload_n 2, 0, 29, 0),
  (29, .ishl, 0, 30, 0),
  (30, .goto 4, 0, 33, 34),
  (33, .iconst 0, 0, 34, 0),
  (34, .ior, 0, 35, 0),
  (35, .istore_n 1, 0, 36, 0),
  (36, .iinc 2 1, 1, 39, 0),
  (39, .goto (-35), 0, 42, 4),
  (42, .aload_n 0, 0, 43, 0),
  (43, .iconst 0, 0, 44, 0),
  (44, .putfield 189, 0, 47, 0),
  (47, .iload_n 1, 0, 48, 0),
  (48, .ireturn, 0, 49, 0)]
def am_lv_174 : List (Nat × List Nat) := [(4, [0, 1, 2]), (33, [0, 2]), (34, [0, 2]), (42, [0, 1])]
/-- DeadLastsModel.never -/
def am_cd_175 : List am_T5 := [
  (0, .aload_n 0, 0, 1, 0),
  (1, .invokevirtual 230, 0, 4, 0),
  (4, .aload_n 0, 0, 5, 0),
  (5, .invokevirtual 280, 0, 8, 0),
  (8, .ireturn, 0, 9, 0)]
def am_lv_175 : List (Nat × List Nat) := []
/-- DeadLastsModel.woreOf -/
def am_cd_176 : List am_T5 := [
  (0, .aload_n 0, 0, 1, 0),
  (1, .getfield 40, 0, 4, 0),
  (4, .iconst 5, 5, 5, 0),
  (5, .iload_n 1, 0, 6, 0),
  (6, .imul, 0, 7, 0),
  (7, .iconst 1, 1, 8, 0),
  (8, .iadd, 0, 9, 0),
  (9, .iload_n 2, 0, 10, 0),
  (10, .iadd, 0, 11, 0),
  (11, .iaload, 0, 12, 0),
  (12, .istore_n 3, 0, 13, 0),
  (13, .iconst 0, 0, 14, 0),
  (14, .istore 4, 0, 16, 0),
  (16, .iconst 0, 0, 17, 0),
  (17, .istore 5, 0, 19, 0),
  (19, .iload 5, 0, 21, 0),
  (21, .bipush 8, 8, 23, 0),
  (23, .if_icmp .ge 43, 0, 26, 66),
  (26, .aload_n 0, 0, 27, 0),
  (27, .getfield 40, 0, 30, 0),
  (30, .iconst 5, 5, 31, 0),
  (31, .iload_n 1, 0, 32, 0),
  (32, .imul, 0, 33, 0),
  (33, .iconst 1, 1, 34, 0),
  (34, .iadd, 0, 35, 0),
  (35, .iload_n 2, 0, 36, 0),
  (36, .iadd, 0, 37, 0),
  (37, .iload 5, 0, 39, 0),
  (39, .iastore, 0, 40, 0),
  (40, .iload 4, 0, 42, 0),
  (42, .aload_n 0, 0, 43, 0),
  (43, .invokevirtual 276, 0, 46, 0),
  (46, .ifCond .eq 10, 0, 49, 56),
  (49, .iconst 1, 1, 50, 0),
  (50, .iload 5, 0, 52, 0),
  (52, .ishl, 0, 53, 0),
  (53, .goto 4, 0, 56, 57),
  (56, .iconst 0, 0, 57, 0),
  (57, .ior, 0, 58, 0),
  (58, .istore 4, 0, 60, 0),
  (60, .iinc 5 1, 1, 63, 0),
  (63, .goto (-44), 0, 66, 19),
  (66, .aload_n 0, 0, 67, 0),
  (67, .getfield 40, 0, 70, 0),
  (70, .iconst 5, 5, 71, 0),
  (71, .iload_n 1, 0, 72, 0),
  (72, .imul, 0, 73, 0),
  (73, .iconst 1, 1, 74, 0),
  (74, .iadd, 0, 75, 0),
  (75, .iload_n 2, 0, 76, 0),
  (76, .iadd, 0, 77, 0),
  (77, .iload_n 3, 0, 78, 0),
  (78, .iastore, 0, 79, 0),
  (79, .iload 4, 0, 81, 0),
  (81, .ireturn, 0, 82, 0)]
def am_lv_176 : List (Nat × List Nat) := [(19, [0, 1, 2, 3, 4, 5]), (56, [0, 1, 2, 3, 5]), (57, [0, 1, 2, 3, 5]), (66, [0, 1, 2, 3, 4])]
/-- DeadLastsModel.wore -/
def am_cd_177 : List am_T5 := [
  (0, .aload_n 0, 0, 1, 0),
  (1, .invokevirtual 230, 0, 4, 0),
  (4, .aload_n 0, 0, 5, 0),
  (5, .iload_n 1, 0, 6, 0),
  (6, .invokevirtual 172, 0, 9, 0),
  (9, .ifCond .eq 19, 0, 12, 28),
  (12, .iload_n 2, 0, 13, 0),
  (13, .invokestatic 233, 0, 16, 0),
  (16, .ifCond .eq 12, 0, 19, 28),
  (19, .aload_n 0, 0, 20, 0),
  (20, .iload_n 1, 0, 21, 0),
  (21, .iload_n 2, 0, 22, 0),
  (22, .invokevirtual 283, 0, 25, 0),
  (25, .goto 5, 0, 28, 30),
  (28, .bipush (-2), (-2), 30, 0),
  (30, .ireturn, 0, 31, 0)]
def am_lv_177 : List (Nat × List Nat) := [(28, []), (30, [])]
/-- DeadLastsModel.alike -/
def am_cd_178 : List am_T5 := [
  (0, .iconst 0, 0, 1, 0),
  (1, .istore_n 3, 0, 2, 0),
  (2, .iconst 0, 0, 3, 0),
  (3, .istore 4, 0, 5, 0),
  (5, .iload 4, 0, 7, 0),
  (7, .bipush 8, 8, 9, 0),
  (9, .if_icmp .ge 90, 0, 12, 99),
  (12, .iconst 0, 0, 13, 0),
  (13, .istore 5, 0, 15, 0),
  (15, .iconst 0, 0, 16, 0),
  (16, .istore 6, 0, 18, 0),
  (18, .iload 6, 0, 20, 0),
  (20, .bipush 8, 8, 22, 0),
  (22, .if_icmp .ge 64, 0, 25, 86),
  (25, .iload 5, 0, 27, 0),
  (27, .iload_n 1, 0, 28, 0),
  (28, .iload 4, 0, 30, 0),
  (30, .invokestatic 185, 0, 33, 0),
  (33, .ifCond .eq 43, 0, 36, 76),
  (36, .iload_n 1, 0, 37, 0),
  (37, .iload 6, 0, 39, 0),
  (39, .invokestatic 185, 0, 42, 0),
  (42, .ifCond .eq 34, 0, 45, 76),
  (45, .aload_n 0, 0, 46, 0),
  (46, .getfield 76, 0, 49, 0),
  (49, .bipush 30, 30, 51, 0),
  (51, .iload 4, 0, 53, 0),
  (53, .imul, 0, 54, 0),
  (54, .iload_n 2, 0, 55, 0),
  (55, .iadd, 0, 56, 0),
  (56, .iaload, 0, 57, 0),
  (57, .aload_n 0, 0, 58, 0),
  (58, .getfield 76, 0, 61, 0),
  (61, .bipush 30, 30, 63, 0),
  (63, .iload 6, 0, 65, 0),
  (65, .imul, 0, 66, 0),
  (66, .iload_n 2, 0, 67, 0),
  (67, .iadd, 0, 68, 0),
  (68, .iaload, 0, 69, 0),
  (69, .if_icmp .ne 7, 0, 72, 76),
  (72, .iconst 1, 1, 73, 0),
  (73, .goto 4, 0, 76, 77),
  (76, .iconst 0, 0, 77, 0),
  (77, .iadd, 0, 78, 0),
  (78, .istore 5, 0, 80, 0),
  (80, .iinc 6 1, 1, 83, 0),
  (83, .goto (-65), 0, 86, 18),
  (86, .iload 5, 0, 88, 0),
  (88, .iload_n 3, 0, 89, 0),
  (89, .invokestatic 257, 0, 92, 0),
  (92, .istore_n 3, 0, 93, 0),
  (93, .iinc 4 1, 1, 96, 0),
  (96, .goto (-91), 0, 99, 5),
  (99, .iload_n 3, 0, 100, 0),
  (100, .ireturn, 0, 101, 0)]
def am_lv_178 : List (Nat × List Nat) := [(5, [0, 1, 2, 3, 4]), (18, [0, 1, 2, 3, 4, 5, 6]), (76, [0, 1, 2, 3, 4, 6]), (77, [0, 1, 2, 3, 4, 6]), (86, [0, 1, 2, 3, 4, 5]), (99, [3])]
/-- DeadLastsModel.askOf -/
def am_cd_179 : List am_T5 := [
  (0, .aload_n 0, 0, 1, 0),
  (1, .iload_n 1, 0, 2, 0),
  (2, .iconst 1, 1, 3, 0),
  (3, .invokevirtual 283, 0, 6, 0),
  (6, .istore_n 2, 0, 7, 0),
  (7, .aload_n 0, 0, 8, 0),
  (8, .getfield 40, 0, 11, 0),
  (11, .iconst 5, 5, 12, 0),
  (12, .iload_n 1, 0, 13, 0),
  (13, .imul, 0, 14, 0),
  (14, .iconst 2, 2, 15, 0),
  (15, .iadd, 0, 16, 0),
  (16, .iaload, 0, 17, 0),
  (17, .istore_n 3, 0, 18, 0),
  (18, .iconst 0, 0, 19, 0),
  (19, .istore 4, 0, 21, 0),
  (21, .iload 4, 0, 23, 0),
  (23, .bipush 8, 8, 25, 0),
  (25, .if_icmp .ge 68, 0, 28, 93),
  (28, .aload_n 0, 0, 29, 0),
  (29, .getfield 40, 0, 32, 0),
  (32, .iconst 5, 5, 33, 0),
  (33, .iload_n 1, 0, 34, 0),
  (34, .imul, 0, 35, 0),
  (35, .iconst 2, 2, 36, 0),
  (36, .iadd, 0, 37, 0),
  (37, .iload 4, 0, 39, 0),
  (39, .iastore, 0, 40, 0),
  (40, .aload_n 0, 0, 41, 0),
  (41, .invokevirtual 227, 0, 44, 0),
  (44, .iconst 0, 0, 45, 0),
  (45, .istore 5, 0, 47, 0),
  (47, .iload 5, 0, 49, 0),
  (49, .bipush 30, 30, 51, 0),
  (51, .if_icmp .ge 36, 0, 54, 87),
  (54, .aload_n 0, 0, 55, 0),
  (55, .getfield 76, 0, 58, 0),
  (58, .bipush 30, 30, 60, 0),
  (60, .iload 4, 0, 62, 0),
  (62, .imul, 0, 63, 0),
  (63, .iload 5, 0, 65, 0),
  (65, .iadd, 0, 66, 0),
  (66, .aload_n 0, 0, 67, 0),
  (67, .getfield 61, 0, 70, 0),
  (70, .bipush 32, 32, 72, 0),
  (72, .iload 5, 0, 74, 0),
  (74, .imul, 0, 75, 0),
  (75, .iconst 4, 4, 76, 0),
  (76, .iload_n 1, 0, 77, 0),
  (77, .imul, 0, 78, 0),
  (78, .iadd, 0, 79, 0),
  (79, .iaload, 0, 80, 0),
  (80, .iastore, 0, 81, 0),
  (81, .iinc 5 1, 1, 84, 0),
  (84, .goto (-37), 0, 87, 47),
  (87, .iinc 4 1, 1, 90, 0),
  (90, .goto (-69), 0, 93, 21),
  (93, .aload_n 0, 0, 94, 0),
  (94, .getfield 40, 0, 97, 0),
  (97, .iconst 5, 5, 98, 0),
  (98, .iload_n 1, 0, 99, 0),
  (99, .imul, 0, 100, 0),
  (100, .iconst 2, 2, 101, 0),
  (101, .iadd, 0, 102, 0),
  (102, .iload_n 3, 0, 103, 0),
  (103, .iastore, 0, 104, 0),
  (104, .iconst 0, 0, 105, 0),
  (105, .istore 4, 0, 107, 0),
  (107, .iconst 1, 1, 108, 0),
  (108, .istore 5, 0, 110, 0),
  (110, .iload 5, 0, 112, 0),
  (112, .bipush 30, 30, 114, 0),
  (114, .if_icmp .ge 35, 0, 117, 149),
  (117, .aload_n 0, 0, 118, 0),
  (118, .iload_n 2, 0, 119, 0),
  (119, .iload 5, 0, 121, 0),
  (121, .invokevirtual 286, 0, 124, 0),
  (124, .aload_n 0, 0, 125, 0),
  (125, .iload_n 2, 0, 126, 0),
  (126, .iload 4, 0, 128, 0),
  (128, .invokevirtual 286, 0, 131, 0),
  (131, .if_icmp .ge 8, 0, 134, 139),
  (134, .iload 5, 0, 136, 0),
  (136, .goto 5, 0, 139, 141),
  (139, .iload 4, 0, 141, 0),
  (141, .istore 4, 0, 143, 0),
  (143, .iinc 5 1, 1, 146, 0),
  (146, .goto (-36), 0, 149, 110),
  (149, .iload 4, 0, 151, 0),
  (151, .ireturn, 0, 152, 0)]
def am_lv_179 : List (Nat × List Nat) := [(21, [0, 1, 2, 3, 4]), (47, [0, 1, 2, 3, 4, 5]), (87, [0, 1, 2, 3, 4]), (93, [0, 1, 2, 3]), (110, [0, 2, 4, 5]), (139, [0, 2, 4, 5]), (141, [0, 2, 5]), (149, [4])]
/-- DeadLastsModel.ask -/
def am_cd_180 : List am_T5 := [
  (0, .aload_n 0, 0, 1, 0),
  (1, .invokevirtual 230, 0, 4, 0),
  (4, .aload_n 0, 0, 5, 0),
  (5, .iload_n 1, 0, 6, 0),
  (6, .invokevirtual 172, 0, 9, 0),
  (9, .ifCond .eq 11, 0, 12, 20),
  (12, .aload_n 0, 0, 13, 0),
  (13, .iload_n 1, 0, 14, 0),
  (14, .invokevirtual 289, 0, 17, 0),
  (17, .goto 5, 0, 20, 22),
  (20, .bipush (-2), (-2), 22, 0),
  (22, .ireturn, 0, 23, 0)]
def am_lv_180 : List (Nat × List Nat) := [(20, []), (22, [])]
/-- DeadLastsModel.stormOf -/
def am_cd_181 : List am_T5 := [
  (0, .lconst 0, 0, 1, 0),
  (1, .lstore 5, 0, 3, 0),
  (3, .iconst 0, 0, 4, 0),
  (4, .istore 7, 0, 6, 0),
  (6, .iload 7, 0, 8, 0),
  (8, .iconst 2, 2, 9, 0),
  (9, .iload_n 2, 0, 10, 0),
  (10, .ishl, 0, 11, 0),
  (11, .if_icmp .ge 79, 0, 14, 90),
  (14, .aload_n 0, 0, 15, 0),
  (15, .iload 7, 0, 17, 0),
  (17, .putfield 79, 0, 20, 0),
  (20, .aload_n 0, 0, 21, 0),
  (21, .invokevirtual 227, 0, 24, 0),
  (24, .aload_n 0, 0, 25, 0),
  (25, .getfield 49, 0, 28, 0),
  (28, .iload_n 3, 0, 29, 0),
  (29, .iaload, 0, 30, 0),
  (30, .iconst 1, 1, 31, 0),
  (31, .if_icmp .ne 53, 0, 34, 84),
  (34, .lconst 1, 0, 35, 0),
  (35, .lstore 8, 0, 37, 0),
  (37, .iconst 0, 0, 38, 0),
  (38, .istore 10, 0, 40, 0),
  (40, .iload 10, 0, 42, 0),
  (42, .iload_n 2, 0, 43, 0),
  (43, .if_icmp .gt 34, 0, 46, 77),
  (46, .lload 8, 0, 48, 0),
  (48, .iload 7, 0, 50, 0),
  (50, .iload 10, 0, 52, 0),
  (52, .invokestatic 185, 0, 55, 0),
  (55, .ifCond .eq 8, 0, 58, 63),
  (58, .iload_n 1, 0, 59, 0),
  (59, .i2l, 0, 60, 0),
  (60, .goto 8, 0, 63, 68),
  (63, .bipush 16, 16, 65, 0),
  (65, .iload_n 1, 0, 66, 0),
  (66, .isub, 0, 67, 0),
  (67, .i2l, 0, 68, 0),
  (68, .lmul, 0, 69, 0),
  (69, .lstore 8, 0, 71, 0),
  (71, .iinc 10 1, 1, 74, 0),
  (74, .goto (-34), 0, 77, 40),
  (77, .lload 5, 0, 79, 0),
  (79, .lload 8, 0, 81, 0),
  (81, .ladd, 0, 82, 0),
  (82, .lstore 5, 0, 84, 0),
  (84, .iinc 7 1, 1, 87, 0),
  (87, .goto (-81), 0, 90, 6),
  (90, .aload_n 0, 0, 91, 0),
  (91, .iconst (-1), (-1), 92, 0),
  (92, .putfield 79, 0, 95, 0),
  (95, .lload 5, 0, 97, 0),
  (97, .lconst 1, 0, 98, 0),
  (98, .iconst 4, 4, 99, 0),
  (99, .iload_n 2, 0, 100, 0),
  (100, .iconst 1, 1, 101, 0),
  (101, .iadd, 0, 102, 0),
  (102, .imul, 0, 103, 0),
  (103, .lshl, 0, 104, 0),
  (104, .iload 4, 0, 106, 0),
  (106, .invokestatic 292, 0, 109, 0),
  (109, .lreturn, 0, 110, 0)]
def am_lv_181 : List (Nat × List Nat) := [(6, [0, 1, 2, 3, 4, 5, 7]), (40, [0, 1, 2, 3, 4, 5, 7, 8, 10]), (63, [0, 1, 2, 3, 4, 5, 7, 10]), (68, [0, 1, 2, 3, 4, 5, 7, 10]), (77, [0, 1, 2, 3, 4, 5, 7, 8]), (84, [0, 1, 2, 3, 4, 5, 7]), (90, [0, 2, 4, 5])]
/-- DeadLastsModel.storm -/
def am_cd_182 : List am_T5 := [
  (0, .aload_n 0, 0, 1, 0),
  (1, .invokevirtual 230, 0, 4, 0),
  (4, .iload_n 1, 0, 5, 0),
  (5, .i2l, 0, 6, 0),
  (6, .lconst 0, 0, 7, 0),
  (7, .ldc2_w 296, 0, 10, 0),
  (10, .invokestatic 85, 0, 13, 0),
  (13, .ifCond .eq 43, 0, 16, 56),
  (16, .iload_n 2, 0, 17, 0),
  (17, .i2l, 0, 18, 0),
  (18, .lconst 0, 0, 19, 0),
  (19, .ldc2_w 298, 0, 22, 0),
  (22, .invokestatic 85, 0, 25, 0),
  (25, .ifCond .eq 31, 0, 28, 56),
  (28, .aload_n 0, 0, 29, 0),
  (29, .iload_n 3, 0, 30, 0),
  (30, .invokevirtual 172, 0, 33, 0),
  (33, .ifCond .eq 23, 0, 36, 56),
  (36, .iload 4, 0, 38, 0),
  (38, .invokestatic 233, 0, 41, 0),
  (41, .ifCond .eq 15, 0, 44, 56),
  (44, .aload_n 0, 0, 45, 0),
  (45, .iload_n 1, 0, 46, 0),
  (46, .iload_n 2, 0, 47, 0),
  (47, .iload_n 3, 0, 48, 0),
  (48, .iload 4, 0, 50, 0),
  (50, .invokevirtual 300, 0, 53, 0),
  (53, .goto 8, 0, 56, 61),
  (56, .bipush (-2), (-2), 58, 0),
  (58, .invokestatic 304, 0, 61, 0),
  (61, .lreturn, 0, 62, 0)]
def am_lv_182 : List (Nat × List Nat) := [(56, []), (61, [])]
/-- DeadLastsModel.lot -/
def am_cd_183 : List am_T5 := [
  (0, .aload_n 0, 0, 1, 0),
  (1, .ldc_w 308, 1103515245, 4, 0),
  (4, .aload_n 0, 0, 5, 0),
  (5, .getfield 309, 0, 8, 0),
  (8, .imul, 0, 9, 0),
  (9, .sipush 12345, 12345, 12, 0),
  (12, .iadd, 0, 13, 0),
  (13, .putfield 309, 0, 16, 0),
  (16, .aload_n 0, 0, 17, 0),
  (17, .getfield 309, 0, 20, 0),
  (20, .bipush 16, 16, 22, 0),
  (22, .iushr, 0, 23, 0),
  (23, .iload_n 1, 0, 24, 0),
  (24, .irem, 0, 25, 0),
  (25, .ireturn, 0, 26, 0)]
def am_lv_183 : List (Nat × List Nat) := []
/-- DeadLastsModel.shelvesOf -/
def am_cd_184 : List am_T5 := [
  (0, .aload_n 0, 0, 1, 0),
  (1, .iload_n 1, 0, 2, 0),
  (2, .putfield 309, 0, 5, 0),
  (5, .iconst 0, 0, 6, 0),
  (6, .istore_n 3, 0, 7, 0),
  (7, .iload_n 3, 0, 8, 0),
  (8, .aload_n 0, 0, 9, 0),
  (9, .getfield 141, 0, 12, 0),
  (12, .if_icmp .ge 52, 0, 15, 64),
  (15, .aload_n 0, 0, 16, 0),
  (16, .getfield 130, 0, 19, 0),
  (19, .ifCond .le 45, 0, 22, 64),
  (22, .aload_n 0, 0, 23, 0),
  (23, .getfield 40, 0, 26, 0),
  (26, .iconst 5, 5, 27, 0),
  (27, .iload_n 3, 0, 28, 0),
  (28, .imul, 0, 29, 0),
  (29, .iconst 1, 1, 30, 0),
  (30, .iadd, 0, 31, 0),
  (31, .aload_n 0, 0, 32, 0),
  (32, .aload_n 0, 0, 33, 0),
  (33, .getfield 130, 0, 36, 0),
  (36, .invokevirtual 312, 0, 39, 0),
  (39, .iastore, 0, 40, 0),
  (40, .aload_n 0, 0, 41, 0),
  (41, .getfield 40, 0, 44, 0),
  (44, .iconst 5, 5, 45, 0),
  (45, .iload_n 3, 0, 46, 0),
  (46, .imul, 0, 47, 0),
  (47, .iconst 2, 2, 48, 0),
  (48, .iadd, 0, 49, 0),
  (49, .aload_n 0, 0, 50, 0),
  (50, .aload_n 0, 0, 51, 0),
  (51, .getfield 130, 0, 54, 0),
  (54, .invokevirtual 312, 0, 57, 0),
  (57, .iastore, 0, 58, 0),
  (58, .iinc 3 1, 1, 61, 0),
  (61, .goto (-54), 0, 64, 7),
  (64, .aload_n 0, 0, 65, 0),
  (65, .invokevirtual 227, 0, 68, 0),
  (68, .aload_n 0, 0, 69, 0),
  (69, .invokevirtual 154, 0, 72, 0),
  (72, .pop, 0, 73, 0),
  (73, .aload_n 0, 0, 74, 0),
  (74, .iload_n 2, 0, 75, 0),
  (75, .invokevirtual 236, 0, 78, 0),
  (78, .invokestatic 315, 0, 81, 0),
  (81, .ireturn, 0, 82, 0)]
def am_lv_184 : List (Nat × List Nat) := [(7, [0, 2, 3]), (64, [0, 2])]
/-- DeadLastsModel.shelves -/
def am_cd_185 : List am_T5 := [
  (0, .aload_n 0, 0, 1, 0),
  (1, .invokevirtual 230, 0, 4, 0),
  (4, .iload_n 2, 0, 5, 0),
  (5, .invokestatic 233, 0, 8, 0),
  (8, .ifCond .eq 12, 0, 11, 20),
  (11, .aload_n 0, 0, 12, 0),
  (12, .iload_n 1, 0, 13, 0),
  (13, .iload_n 2, 0, 14, 0),
  (14, .invokevirtual 318, 0, 17, 0),
  (17, .goto 5, 0, 20, 22),
  (20, .bipush (-2), (-2), 22, 0),
  (22, .ireturn, 0, 23, 0)]
def am_lv_185 : List (Nat × List Nat) := [(20, []), (22, [])]
/-- DeadLastsModel.write -/
def am_cd_186 : List am_T5 := [
  (0, .aload_n 0, 0, 1, 0),
  (1, .invokevirtual 230, 0, 4, 0),
  (4, .aload_n 0, 0, 5, 0),
  (5, .iload_n 1, 0, 6, 0),
  (6, .invokevirtual 172, 0, 9, 0),
  (9, .ifCond .eq 10, 0, 12, 19),
  (12, .iload_n 2, 0, 13, 0),
  (13, .invokestatic 94, 0, 16, 0),
  (16, .ifCond .ne 6, 0, 19, 22),
  (19, .bipush (-2), (-2), 21, 0),
  (21, .ireturn, 0, 22, 0),
  (22, .aload_n 0, 0, 23, 0),
  (23, .getfield 7, 0, 26, 0),
  (26, .iload_n 2, 0, 27, 0),
  (27, .iaload, 0, 28, 0),
  (28, .ifCond .ge 9, 0, 31, 37),
  (31, .aload_n 0, 0, 32, 0),
  (32, .iconst 1, 1, 33, 0),
  (33, .invokevirtual 100, 0, 36, 0),
  (36, .ireturn, 0, 37, 0),
  (37, .aload_n 0, 0, 38, 0),
  (38, .getfield 13, 0, 41, 0),
  (41, .iload_n 2, 0, 42, 0),
  (42, .iaload, 0, 43, 0),
  (43, .bipush 30, 30, 45, 0),
  (45, .invokestatic 321, 0, 48, 0),
  (48, .istore_n 3, 0, 49, 0),
  (49, .iconst 0, 0, 50, 0),
  (50, .istore 4, 0, 52, 0),
  (52, .iload 4, 0, 54, 0),
  (54, .iload_n 3, 0, 55, 0),
  (55, .if_icmp .ge 44, 0, 58, 99),
  (58, .aload_n 0, 0, 59, 0),
  (59, .getfield 16, 0, 62, 0),
  (62, .bipush 60, 60, 64, 0),
  (64, .iload_n 2, 0, 65, 0),
  (65, .imul, 0, 66, 0),
  (66, .iload 4, 0, 68, 0),
  (68, .iadd, 0, 69, 0),
  (69, .aload_n 0, 0, 70, 0),
  (70, .getfield 7, 0, 73, 0),
  (73, .iload_n 2, 0, 74, 0),
  (74, .iaload, 0, 75, 0),
  (75, .aload_n 0, 0, 76, 0),
  (76, .getfield 61, 0, 79, 0),
  (79, .bipush 32, 32, 81, 0),
  (81, .iload 4, 0, 83, 0),
  (83, .imul, 0, 84, 0),
  (84, .iconst 4, 4, 85, 0),
  (85, .iload_n 1, 0, 86, 0),
  (86, .imul, 0, 87, 0),
  (87, .iadd, 0, 88, 0),
  (88, .iaload, 0, 89, 0),
  (89, .invokestatic 108, 0, 92, 0),
  (92, .iastore, 0, 93, 0),
  (93, .iinc 4 1, 1, 96, 0),
  (96, .goto (-44), 0, 99, 52),
  (99, .iload_n 3, 0, 100, 0),
  (100, .ireturn, 0, 101, 0)]
def am_lv_186 : List (Nat × List Nat) := [(19, []), (22, [0, 1, 2]), (37, [0, 1, 2]), (52, [0, 1, 2, 3, 4]), (99, [3])]
/-- DeadLastsModel.count -/
def am_cd_187 : List am_T5 := [
  (0, .aload_n 0, 0, 1, 0),
  (1, .invokevirtual 230, 0, 4, 0),
  (4, .iload_n 1, 0, 5, 0),
  (5, .tableswitch 90 0 8 #[51, 56, 61, 66, 66, 66, 75, 80, 85], 0, 56, 0),
  (56, .aload_n 0, 0, 57, 0),
  (57, .getfield 118, 0, 60, 0),
  (60, .ireturn, 0, 61, 0),
  (61, .aload_n 0, 0, 62, 0),
  (62, .getfield 130, 0, 65, 0),
  (65, .ireturn, 0, 66, 0),
  (66, .aload_n 0, 0, 67, 0),
  (67, .getfield 141, 0, 70, 0),
  (70, .ireturn, 0, 71, 0),
  (71, .aload_n 0, 0, 72, 0),
  (72, .getfield 25, 0, 75, 0),
  (75, .iload_n 1, 0, 76, 0),
  (76, .iconst 3, 3, 77, 0),
  (77, .isub, 0, 78, 0),
  (78, .iaload, 0, 79, 0),
  (79, .ireturn, 0, 80, 0),
  (80, .aload_n 0, 0, 81, 0),
  (81, .getfield 180, 0, 84, 0),
  (84, .ireturn, 0, 85, 0),
  (85, .aload_n 0, 0, 86, 0),
  (86, .getfield 273, 0, 89, 0),
  (89, .ireturn, 0, 90, 0),
  (90, .aload_n 0, 0, 91, 0),
  (91, .getfield 89, 0, 94, 0),
  (94, .ireturn, 0, 95, 0),
  (95, .bipush (-2), (-2), 97, 0),
  (97, .ireturn, 0, 98, 0)]
def am_lv_187 : List (Nat × List Nat) := [(61, [0]), (66, [0]), (71, [0, 1]), (80, [0]), (85, [0]), (90, [0]), (95, [])]
/-- DeadLastsModel.tellsStep -/
def am_cd_188 : List am_T5 := [
  (0, .lload_n 1, 0, 1, 0),
  (1, .lstore 5, 0, 3, 0),
  (3, .iconst 0, 0, 4, 0),
  (4, .istore 7, 0, 6, 0),
  (6, .iload 7, 0, 8, 0),
  (8, .iconst 4, 4, 9, 0),
  (9, .if_icmp .ge 36, 0, 12, 45),
  (12, .ldc2_w 324, 0, 15, 0),
  (15, .lload 5, 0, 17, 0),
  (17, .lmul, 0, 18, 0),
  (18, .aload_n 0, 0, 19, 0),
  (19, .getfield 61, 0, 22, 0),
  (22, .bipush 32, 32, 24, 0),
  (24, .iload 4, 0, 26, 0),
  (26, .imul, 0, 27, 0),
  (27, .iconst 4, 4, 28, 0),
  (28, .iload_n 3, 0, 29, 0),
  (29, .imul, 0, 30, 0),
  (30, .iadd, 0, 31, 0),
  (31, .iload 7, 0, 33, 0),
  (33, .iadd, 0, 34, 0),
  (34, .iaload, 0, 35, 0),
  (35, .i2l, 0, 36, 0),
  (36, .ladd, 0, 37, 0),
  (37, .lstore 5, 0, 39, 0),
  (39, .iinc 7 1, 1, 42, 0),
  (42, .goto (-36), 0, 45, 6),
  (45, .lload 5, 0, 47, 0),
  (47, .lreturn, 0, 48, 0)]
def am_lv_188 : List (Nat × List Nat) := [(6, [0, 3, 4, 5, 7]), (45, [5])]
/-- DeadLastsModel.tellsPerson -/
def am_cd_189 : List am_T5 := [
  (0, .aload_n 0, 0, 1, 0),
  (1, .invokevirtual 227, 0, 4, 0),
  (4, .lload_n 1, 0, 5, 0),
  (5, .lstore 4, 0, 7, 0),
  (7, .iconst 0, 0, 8, 0),
  (8, .istore 6, 0, 10, 0),
  (10, .iload 6, 0, 12, 0),
  (12, .iconst 5, 5, 13, 0),
  (13, .if_icmp .ge 30, 0, 16, 43),
  (16, .ldc2_w 324, 0, 19, 0),
  (19, .lload 4, 0, 21, 0),
  (21, .lmul, 0, 22, 0),
  (22, .aload_n 0, 0, 23, 0),
  (23, .getfield 40, 0, 26, 0),
  (26, .iconst 5, 5, 27, 0),
  (27, .iload_n 3, 0, 28, 0),
  (28, .imul, 0, 29, 0),
  (29, .iload 6, 0, 31, 0),
  (31, .iadd, 0, 32, 0),
  (32, .iaload, 0, 33, 0),
  (33, .i2l, 0, 34, 0),
  (34, .ladd, 0, 35, 0),
  (35, .lstore 4, 0, 37, 0),
  (37, .iinc 6 1, 1, 40, 0),
  (40, .goto (-30), 0, 43, 10),
  (43, .aload_n 0, 0, 44, 0),
  (44, .aload_n 0, 0, 45, 0),
  (45, .aload_n 0, 0, 46, 0),
  (46, .aload_n 0, 0, 47, 0),
  (47, .lload 4, 0, 49, 0),
  (49, .iload_n 3, 0, 50, 0),
  (50, .iconst 0, 0, 51, 0),
  (51, .invokevirtual 326, 0, 54, 0),
  (54, .iload_n 3, 0, 55, 0),
  (55, .iconst 5, 5, 56, 0),
  (56, .invokevirtual 326, 0, 59, 0),
  (59, .iload_n 3, 0, 60, 0),
  (60, .bipush 12, 12, 62, 0),
  (62, .invokevirtual 326, 0, 65, 0),
  (65, .iload_n 3, 0, 66, 0),
  (66, .bipush 29, 29, 68, 0),
  (68, .invokevirtual 326, 0, 71, 0),
  (71, .lstore 4, 0, 73, 0),
  (73, .ldc2_w 324, 0, 76, 0),
  (76, .lload 4, 0, 78, 0),
  (78, .lmul, 0, 79, 0),
  (79, .aload_n 0, 0, 80, 0),
  (80, .getfield 64, 0, 83, 0),
  (83, .iconst 2, 2, 84, 0),
  (84, .iload_n 3, 0, 85, 0),
  (85, .imul, 0, 86, 0),
  (86, .iaload, 0, 87, 0),
  (87, .i2l, 0, 88, 0),
  (88, .ladd, 0, 89, 0),
  (89, .lstore 4, 0, 91, 0),
  (91, .ldc2_w 324, 0, 94, 0),
  (94, .lload 4, 0, 96, 0),
  (96, .lmul, 0, 97, 0),
  (97, .aload_n 0, 0, 98, 0),
  (98, .getfield 64, 0, 101, 0),
  (101, .iconst 2, 2, 102, 0),
  (102, .iload_n 3, 0, 103, 0),
  (103, .imul, 0, 104, 0),
  (104, .iconst 1, 1, 105, 0),
  (105, .iadd, 0, 106, 0),
  (106, .iaload, 0, 107, 0),
  (107, .i2l, 0, 108, 0),
  (108, .ladd, 0, 109, 0),
  (109, .lstore 4, 0, 111, 0),
  (111, .iconst 0, 0, 112, 0),
  (112, .istore 6, 0, 114, 0),
  (114, .iload 6, 0, 116, 0),
  (116, .iconst 3, 3, 117, 0),
  (117, .if_icmp .ge 26, 0, 120, 143),
  (120, .ldc2_w 324, 0, 123, 0),
  (123, .lload 4, 0, 125, 0),
  (125, .lmul, 0, 126, 0),
  (126, .aload_n 0, 0, 127, 0),
  (127, .iload_n 3, 0, 128, 0),
  (128, .iload 6, 0, 130, 0),
  (130, .invokevirtual 248, 0, 133, 0),
  (133, .i2l, 0, 134, 0),
  (134, .ladd, 0, 135, 0),
  (135, .lstore 4, 0, 137, 0),
  (137, .iinc 6 1, 1, 140, 0),
  (140, .goto (-26), 0, 143, 114),
  (143, .ldc2_w 324, 0, 146, 0),
  (146, .lload 4, 0, 148, 0),
  (148, .lmul, 0, 149, 0),
  (149, .aload_n 0, 0, 150, 0),
  (150, .iload_n 3, 0, 151, 0),
  (151, .invokevirtual 251, 0, 154, 0),
  (154, .i2l, 0, 155, 0),
  (155, .ladd, 0, 156, 0),
  (156, .lstore 4, 0, 158, 0),
  (158, .ldc2_w 324, 0, 161, 0),
  (161, .lload 4, 0, 163, 0),
  (163, .lmul, 0, 164, 0),
  (164, .aload_n 0, 0, 165, 0),
  (165, .iload_n 3, 0, 166, 0),
  (166, .iconst 0, 0, 167, 0),
  (167, .invokevirtual 283, 0, 170, 0),
  (170, .i2l, 0, 171, 0),
  (171, .ladd, 0, 172, 0),
  (172, .lstore 4, 0, 174, 0),
  (174, .ldc2_w 324, 0, 177, 0),
  (177, .lload 4, 0, 179, 0),
  (179, .lmul, 0, 180, 0),
  (180, .aload_n 0, 0, 181, 0),
  (181, .iload_n 3, 0, 182, 0),
  (182, .iconst 1, 1, 183, 0),
  (183, .invokevirtual 283, 0, 186, 0),
  (186, .i2l, 0, 187, 0),
  (187, .ladd, 0, 188, 0),
  (188, .lstore 4, 0, 190, 0),
  (190, .ldc2_w 324, 0, 193, 0),
  (193, .lload 4, 0, 195, 0),
  (195, .lmul, 0, 196, 0),
  (196, .aload_n 0, 0, 197, 0),
  (197, .iload_n 3, 0, 198, 0),
  (198, .invokevirtual 289, 0, 201, 0),
  (201, .i2l, 0, 202, 0),
  (202, .ladd, 0, 203, 0),
  (203, .lstore 4, 0, 205, 0),
  (205, .ldc2_w 324, 0, 208, 0),
  (208, .lload 4, 0, 210, 0),
  (210, .lmul, 0, 211, 0),
  (211, .aload_n 0, 0, 212, 0),
  (212, .iconst 5, 5, 213, 0),
  (213, .iconst 5, 5, 214, 0),
  (214, .iload_n 3, 0, 215, 0),
  (215, .iconst 0, 0, 216, 0),
  (216, .invokevirtual 300, 0, 219, 0),
  (219, .ladd, 0, 220, 0),
  (220, .lstore 4, 0, 222, 0),
  (222, .ldc2_w 324, 0, 225, 0),
  (225, .lload 4, 0, 227, 0),
  (227, .lmul, 0, 228, 0),
  (228, .aload_n 0, 0, 229, 0),
  (229, .iconst 5, 5, 230, 0),
  (230, .iconst 5, 5, 231, 0),
  (231, .iload_n 3, 0, 232, 0),
  (232, .iconst 1, 1, 233, 0),
  (233, .invokevirtual 300, 0, 236, 0),
  (236, .ladd, 0, 237, 0),
  (237, .lreturn, 0, 238, 0)]
def am_lv_189 : List (Nat × List Nat) := [(10, [0, 3, 4, 6]), (43, [0, 3, 4]), (114, [0, 3, 4, 6]), (143, [0, 3, 4])]
/-- DeadLastsModel.digest -/
def am_cd_190 : List am_T5 := [
  (0, .ldc2_w 330, 0, 3, 0),
  (3, .lstore_n 1, 0, 4, 0),
  (4, .iconst 0, 0, 5, 0),
  (5, .istore_n 3, 0, 6, 0),
  (6, .iload_n 3, 0, 7, 0),
  (7, .bipush 8, 8, 9, 0),
  (9, .if_icmp .ge 22, 0, 12, 31),
  (12, .ldc2_w 324, 0, 15, 0),
  (15, .lload_n 1, 0, 16, 0),
  (16, .lmul, 0, 17, 0),
  (17, .aload_n 0, 0, 18, 0),
  (18, .iload_n 3, 0, 19, 0),
  (19, .invokevirtual 332, 0, 22, 0),
  (22, .i2l, 0, 23, 0),
  (23, .ladd, 0, 24, 0),
  (24, .lstore_n 1, 0, 25, 0),
  (25, .iinc 3 1, 1, 28, 0),
  (28, .goto (-22), 0, 31, 6),
  (31, .iconst 0, 0, 32, 0),
  (32, .istore_n 3, 0, 33, 0),
  (33, .iload_n 3, 0, 34, 0),
  (34, .iconst 3, 3, 35, 0),
  (35, .if_icmp .ge 22, 0, 38, 57),
  (38, .ldc2_w 324, 0, 41, 0),
  (41, .lload_n 1, 0, 42, 0),
  (42, .lmul, 0, 43, 0),
  (43, .aload_n 0, 0, 44, 0),
  (44, .iload_n 3, 0, 45, 0),
  (45, .invokevirtual 157, 0, 48, 0),
  (48, .i2l, 0, 49, 0),
  (49, .ladd, 0, 50, 0),
  (50, .lstore_n 1, 0, 51, 0),
  (51, .iinc 3 1, 1, 54, 0),
  (54, .goto (-21), 0, 57, 33),
  (57, .iconst 0, 0, 58, 0),
  (58, .istore_n 3, 0, 59, 0),
  (59, .iload_n 3, 0, 60, 0),
  (60, .aload_n 0, 0, 61, 0),
  (61, .getfield 118, 0, 64, 0),
  (64, .if_icmp .ge 23, 0, 67, 87),
  (67, .ldc2_w 324, 0, 70, 0),
  (70, .lload_n 1, 0, 71, 0),
  (71, .lmul, 0, 72, 0),
  (72, .aload_n 0, 0, 73, 0),
  (73, .getfield 28, 0, 76, 0),
  (76, .iload_n 3, 0, 77, 0),
  (77, .iaload, 0, 78, 0),
  (78, .i2l, 0, 79, 0),
  (79, .ladd, 0, 80, 0),
  (80, .lstore_n 1, 0, 81, 0),
  (81, .iinc 3 1, 1, 84, 0),
  (84, .goto (-25), 0, 87, 59),
  (87, .iconst 0, 0, 88, 0),
  (88, .istore_n 3, 0, 89, 0),
  (89, .iload_n 3, 0, 90, 0),
  (90, .aload_n 0, 0, 91, 0),
  (91, .getfield 130, 0, 94, 0),
  (94, .if_icmp .ge 54, 0, 97, 148),
  (97, .iconst 0, 0, 98, 0),
  (98, .istore 4, 0, 100, 0),
  (100, .iload 4, 0, 102, 0),
  (102, .bipush 6, 6, 104, 0),
  (104, .if_icmp .ge 24, 0, 107, 128),
  (107, .ldc2_w 324, 0, 110, 0),
  (110, .lload_n 1, 0, 111, 0),
  (111, .lmul, 0, 112, 0),
  (112, .aload_n 0, 0, 113, 0),
  (113, .iload_n 3, 0, 114, 0),
  (114, .iload 4, 0, 116, 0),
  (116, .invokevirtual 169, 0, 119, 0),
  (119, .i2l, 0, 120, 0),
  (120, .ladd, 0, 121, 0),
  (121, .lstore_n 1, 0, 122, 0),
  (122, .iinc 4 1, 1, 125, 0),
  (125, .goto (-25), 0, 128, 100),
  (128, .ldc2_w 324, 0, 131, 0),
  (131, .lload_n 1, 0, 132, 0),
  (132, .lmul, 0, 133, 0),
  (133, .aload_n 0, 0, 134, 0),
  (134, .getfield 67, 0, 137, 0),
  (137, .iload_n 3, 0, 138, 0),
  (138, .iaload, 0, 139, 0),
  (139, .i2l, 0, 140, 0),
  (140, .ladd, 0, 141, 0),
  (141, .lstore_n 1, 0, 142, 0),
  (142, .iinc 3 1, 1, 145, 0),
  (145, .goto (-56), 0, 148, 89),
  (148, .iconst 0, 0, 149, 0),
  (149, .istore_n 3, 0, 150, 0),
  (150, .iload_n 3, 0, 151, 0),
  (151, .aload_n 0, 0, 152, 0),
  (152, .getfield 141, 0, 155, 0),
  (155, .if_icmp .ge 16, 0, 158, 171),
  (158, .aload_n 0, 0, 159, 0),
  (159, .lload_n 1, 0, 160, 0),
  (160, .iload_n 3, 0, 161, 0),
  (161, .invokevirtual 335, 0, 164, 0),
  (164, .lstore_n 1, 0, 165, 0),
  (165, .iinc 3 1, 1, 168, 0),
  (168, .goto (-18), 0, 171, 150),
  (171, .aload_n 0, 0, 172, 0),
  (172, .invokevirtual 227, 0, 175, 0),
  (175, .ldc2_w 324, 0, 178, 0),
  (178, .lload_n 1, 0, 179, 0),
  (179, .lmul, 0, 180, 0),
  (180, .aload_n 0, 0, 181, 0),
  (181, .iconst 0, 0, 182, 0),
  (182, .invokevirtual 236, 0, 185, 0),
  (185, .i2l, 0, 186, 0),
  (186, .ladd, 0, 187, 0),
  (187, .lstore_n 1, 0, 188, 0),
  (188, .ldc2_w 324, 0, 191, 0),
  (191, .lload_n 1, 0, 192, 0),
  (192, .lmul, 0, 193, 0),
  (193, .aload_n 0, 0, 194, 0),
  (194, .iconst 1, 1, 195, 0),
  (195, .invokevirtual 236, 0, 198, 0),
  (198, .i2l, 0, 199, 0),
  (199, .ladd, 0, 200, 0),
  (200, .lstore_n 1, 0, 201, 0),
  (201, .iconst 0, 0, 202, 0),
  (202, .istore_n 3, 0, 203, 0),
  (203, .iload_n 3, 0, 204, 0),
  (204, .iconst 3, 3, 205, 0),
  (205, .if_icmp .ge 22, 0, 208, 227),
  (208, .ldc2_w 324, 0, 211, 0),
  (211, .lload_n 1, 0, 212, 0),
  (212, .lmul, 0, 213, 0),
  (213, .aload_n 0, 0, 214, 0),
  (214, .iload_n 3, 0, 215, 0),
  (215, .invokevirtual 239, 0, 218, 0),
  (218, .i2l, 0, 219, 0),
  (219, .ladd, 0, 220, 0),
  (220, .lstore_n 1, 0, 221, 0),
  (221, .iinc 3 1, 1, 224, 0),
  (224, .goto (-21), 0, 227, 203),
  (227, .ldc2_w 324, 0, 230, 0),
  (230, .lload_n 1, 0, 231, 0),
  (231, .lmul, 0, 232, 0),
  (232, .aload_n 0, 0, 233, 0),
  (233, .invokevirtual 242, 0, 236, 0),
  (236, .i2l, 0, 237, 0),
  (237, .ladd, 0, 238, 0),
  (238, .lstore_n 1, 0, 239, 0),
  (239, .ldc2_w 324, 0, 242, 0),
  (242, .lload_n 1, 0, 243, 0),
  (243, .lmul, 0, 244, 0),
  (244, .aload_n 0, 0, 245, 0),
  (245, .invokevirtual 260, 0, 248, 0),
  (248, .i2l, 0, 249, 0),
  (249, .ladd, 0, 250, 0),
  (250, .lstore_n 1, 0, 251, 0),
  (251, .ldc2_w 324, 0, 254, 0),
  (254, .lload_n 1, 0, 255, 0),
  (255, .lmul, 0, 256, 0),
  (256, .aload_n 0, 0, 257, 0),
  (257, .iconst (-1), (-1), 258, 0),
  (258, .invokevirtual 268, 0, 261, 0),
  (261, .i2l, 0, 262, 0),
  (262, .ladd, 0, 263, 0),
  (263, .lstore_n 1, 0, 264, 0),
  (264, .ldc2_w 324, 0, 267, 0),
  (267, .lload_n 1, 0, 268, 0),
  (268, .lmul, 0, 269, 0),
  (269, .aload_n 0, 0, 270, 0),
  (270, .iconst 0, 0, 271, 0),
  (271, .invokevirtual 268, 0, 274, 0),
  (274, .i2l, 0, 275, 0),
  (275, .ladd, 0, 276, 0),
  (276, .lstore_n 1, 0, 277, 0),
  (277, .ldc2_w 324, 0, 280, 0),
  (280, .lload_n 1, 0, 281, 0),
  (281, .lmul, 0, 282, 0),
  (282, .aload_n 0, 0, 283, 0),
  (283, .invokevirtual 280, 0, 286, 0),
  (286, .i2l, 0, 287, 0),
  (287, .ladd, 0, 288, 0),
  (288, .lstore_n 1, 0, 289, 0),
  (289, .ldc2_w 324, 0, 292, 0),
  (292, .lload_n 1, 0, 293, 0),
  (293, .lmul, 0, 294, 0),
  (294, .aload_n 0, 0, 295, 0),
  (295, .bipush 7, 7, 297, 0),
  (297, .iconst 0, 0, 298, 0),
  (298, .invokevirtual 318, 0, 301, 0),
  (301, .i2l, 0, 302, 0),
  (302, .ladd, 0, 303, 0),
  (303, .lstore_n 1, 0, 304, 0),
  (304, .ldc2_w 324, 0, 307, 0),
  (307, .lload_n 1, 0, 308, 0),
  (308, .lmul, 0, 309, 0),
  (309, .aload_n 0, 0, 310, 0),
  (310, .bipush 7, 7, 312, 0),
  (312, .iconst 1, 1, 313, 0),
  (313, .invokevirtual 318, 0, 316, 0),
  (316, .i2l, 0, 317, 0),
  (317, .ladd, 0, 318, 0),
  (318, .lreturn, 0, 319, 0)]
def am_lv_190 : List (Nat × List Nat) := [(6, [0, 1, 3]), (31, [0, 1]), (33, [0, 1, 3]), (57, [0, 1]), (59, [0, 1, 3]), (87, [0, 1]), (89, [0, 1, 3]), (100, [0, 1, 3, 4]), (128, [0, 1, 3]), (148, [0, 1]), (150, [0, 1, 3]), (171, [0, 1]), (203, [0, 1, 3]), (227, [0, 1])]
/-- java/lang/String.indexOf -/
def am_cd_191 : List am_T5 := [
  (0, .aload_n 0, 0, 1, 0),
  (1, .iload_n 1, 0, 2, 0),
  (2, .iconst 0, 0, 3, 0),
  (3, .invokevirtual 633, 0, 6, 0),
  (6, .ireturn, 0, 7, 0)]
def am_lv_191 : List (Nat × List Nat) := []
/-- java/lang/String.indexOf -/
def am_cd_192 : List am_T5 := [
  (0, .aload_n 0, 0, 1, 0),
  (1, .invokevirtual 492, 0, 4, 0),
  (4, .ifCond .eq 19, 0, 7, 23),
  (7, .aload_n 0, 0, 8, 0),
  (8, .getfield 9, 0, 11, 0),
  (11, .iload_n 1, 0, 12, 0),
  (12, .iload_n 2, 0, 13, 0),
  (13, .aload_n 0, 0, 14, 0),
  (14, .invokevirtual 505, 0, 17, 0),
  (17, .invokestatic 637, 0, 20, 0),
  (20, .goto 16, 0, 23, 36),
  (23, .aload_n 0, 0, 24, 0),
  (24, .getfield 9, 0, 27, 0),
  (27, .iload_n 1, 0, 28, 0),
  (28, .iload_n 2, 0, 29, 0),
  (29, .aload_n 0, 0, 30, 0),
  (30, .invokevirtual 505, 0, 33, 0),
  (33, .invokestatic 640, 0, 36, 0),
  (36, .ireturn, 0, 37, 0)]
def am_lv_192 : List (Nat × List Nat) := [(23, [0, 1, 2]), (36, [])]
/-- java/lang/String.isLatin1 -/
def am_cd_193 : List am_T5 := [
  (0, .getstatic 38, 0, 3, 0),
  (3, .ifCond .eq 14, 0, 6, 17),
  (6, .aload_n 0, 0, 7, 0),
  (7, .getfield 15, 0, 10, 0),
  (10, .ifCond .ne 7, 0, 13, 17),
  (13, .iconst 1, 1, 14, 0),
  (14, .goto 4, 0, 17, 18),
  (17, .iconst 0, 0, 18, 0),
  (18, .ireturn, 0, 19, 0)]
def am_lv_193 : List (Nat × List Nat) := [(17, []), (18, [])]
/-- java/lang/String.length -/
def am_cd_194 : List am_T5 := [
  (0, .aload_n 0, 0, 1, 0),
  (1, .getfield 9, 0, 4, 0),
  (4, .arraylength, 0, 5, 0),
  (5, .aload_n 0, 0, 6, 0),
  (6, .invokevirtual 335, 0, 9, 0),
  (9, .ishr, 0, 10, 0),
  (10, .ireturn, 0, 11, 0)]
def am_lv_194 : List (Nat × List Nat) := []
/-- java/lang/String.coder -/
def am_cd_195 : List am_T5 := [
  (0, .getstatic 38, 0, 3, 0),
  (3, .ifCond .eq 10, 0, 6, 13),
  (6, .aload_n 0, 0, 7, 0),
  (7, .getfield 15, 0, 10, 0),
  (10, .goto 4, 0, 13, 14),
  (13, .iconst 1, 1, 14, 0),
  (14, .ireturn, 0, 15, 0)]
def am_lv_195 : List (Nat × List Nat) := [(13, []), (14, [])]
/-- java/lang/StringLatin1.canEncode -/
def am_cd_196 : List am_T5 := [
  (0, .iload_n 0, 0, 1, 0),
  (1, .ifCond .lt 14, 0, 4, 15),
  (4, .iload_n 0, 0, 5, 0),
  (5, .sipush 255, 255, 8, 0),
  (8, .if_icmp .gt 7, 0, 11, 15),
  (11, .iconst 1, 1, 12, 0),
  (12, .goto 4, 0, 15, 16),
  (15, .iconst 0, 0, 16, 0),
  (16, .ireturn, 0, 17, 0)]
def am_lv_196 : List (Nat × List Nat) := [(15, []), (16, [])]
/-- java/lang/StringLatin1.indexOf -/
def am_cd_197 : List am_T5 := [
  (0, .iload_n 1, 0, 1, 0),
  (1, .invokestatic 88, 0, 4, 0),
  (4, .ifCond .ne 5, 0, 7, 9),
  (7, .iconst (-1), (-1), 8, 0),
  (8, .ireturn, 0, 9, 0),
  (9, .iload_n 2, 0, 10, 0),
  (10, .iconst 0, 0, 11, 0),
  (11, .invokestatic 92, 0, 14, 0),
  (14, .istore_n 2, 0, 15, 0),
  (15, .iload_n 3, 0, 16, 0),
  (16, .aload_n 0, 0, 17, 0),
  (17, .arraylength, 0, 18, 0),
  (18, .invokestatic 38, 0, 21, 0),
  (21, .istore_n 3, 0, 22, 0),
  (22, .iload_n 2, 0, 23, 0),
  (23, .iload_n 3, 0, 24, 0),
  (24, .if_icmp .lt 5, 0, 27, 29),
  (27, .iconst (-1), (-1), 28, 0),
  (28, .ireturn, 0, 29, 0),
  (29, .aload_n 0, 0, 30, 0),
  (30, .iload_n 1, 0, 31, 0),
  (31, .iload_n 2, 0, 32, 0),
  (32, .iload_n 3, 0, 33, 0),
  (33, .invokestatic 95, 0, 36, 0),
  (36, .ireturn, 0, 37, 0)]
def am_lv_197 : List (Nat × List Nat) := [(9, [0, 1, 2, 3]), (29, [0, 1, 2, 3])]
/-- java/lang/StringLatin1.indexOfChar -/
def am_cd_198 : List am_T5 := [
  (0, .iload_n 1, 0, 1, 0),
  (1, .i2b, 0, 2, 0),
  (2, .istore 4, 0, 4, 0),
  (4, .iload_n 2, 0, 5, 0),
  (5, .istore 5, 0, 7, 0),
  (7, .iload 5, 0, 9, 0),
  (9, .iload_n 3, 0, 10, 0),
  (10, .if_icmp .ge 21, 0, 13, 31),
  (13, .aload_n 0, 0, 14, 0),
  (14, .iload 5, 0, 16, 0),
  (16, .baload, 0, 17, 0),
  (17, .iload 4, 0, 19, 0),
  (19, .if_icmp .ne 6, 0, 22, 25),
  (22, .iload 5, 0, 24, 0),
  (24, .ireturn, 0, 25, 0),
  (25, .iinc 5 1, 1, 28, 0),
  (28, .goto (-21), 0, 31, 7),
  (31, .iconst (-1), (-1), 32, 0),
  (32, .ireturn, 0, 33, 0)]
def am_lv_198 : List (Nat × List Nat) := [(7, [0, 3, 4, 5]), (25, [0, 3, 4, 5]), (31, [])]
def am_CD : List (List am_T5) := [am_cd_0, am_cd_1, am_cd_2, am_cd_3, am_cd_4, am_cd_5, am_cd_6, am_cd_7, am_cd_8, am_cd_9, am_cd_10, am_cd_11, am_cd_12, am_cd_13, am_cd_14, am_cd_15, am_cd_16, am_cd_17, am_cd_18, am_cd_19, am_cd_20, am_cd_21, am_cd_22, am_cd_23, am_cd_24, am_cd_25, am_cd_26, am_cd_27, am_cd_28, am_cd_29, am_cd_30, am_cd_31, am_cd_32, am_cd_33, am_cd_34, am_cd_35, am_cd_36, am_cd_37, am_cd_38, am_cd_39, am_cd_40, am_cd_41, am_cd_42, am_cd_43, am_cd_44, am_cd_45, am_cd_46, am_cd_47, am_cd_48, am_cd_49, am_cd_50, am_cd_51, am_cd_52, am_cd_53, am_cd_54, am_cd_55, am_cd_56, am_cd_57, am_cd_58, am_cd_59, am_cd_60, am_cd_61, am_cd_62, am_cd_63, am_cd_64, am_cd_65, am_cd_66, am_cd_67, am_cd_68, am_cd_69, am_cd_70, am_cd_71, am_cd_72, am_cd_73, am_cd_74, am_cd_75, am_cd_76, am_cd_77, am_cd_78, am_cd_79, am_cd_80, am_cd_81, am_cd_82, am_cd_83, am_cd_84, am_cd_85, am_cd_86, am_cd_87, am_cd_88, am_cd_89, am_cd_90, am_cd_91, am_cd_92, am_cd_93, am_cd_94, am_cd_95, am_cd_96, am_cd_97, am_cd_98, am_cd_99, am_cd_100, am_cd_101, am_cd_102, am_cd_103, am_cd_104, am_cd_105, am_cd_106, am_cd_107, am_cd_108, am_cd_109, am_cd_110, am_cd_111, am_cd_112, am_cd_113, am_cd_114, am_cd_115, am_cd_116, am_cd_117, am_cd_118, am_cd_119, am_cd_120, am_cd_121, am_cd_122, am_cd_123, am_cd_124, am_cd_125, am_cd_126, am_cd_127, am_cd_128, am_cd_129, am_cd_130, am_cd_131, am_cd_132, am_cd_133, am_cd_134, am_cd_135, am_cd_136, am_cd_137, am_cd_138, am_cd_139, am_cd_140, am_cd_141, am_cd_142, am_cd_143, am_cd_144, am_cd_145, am_cd_146, am_cd_147, am_cd_148, am_cd_149, am_cd_150, am_cd_151, am_cd_152, am_cd_153, am_cd_154, am_cd_155, am_cd_156, am_cd_157, am_cd_158, am_cd_159, am_cd_160, am_cd_161, am_cd_162, am_cd_163, am_cd_164, am_cd_165, am_cd_166, am_cd_167, am_cd_168, am_cd_169, am_cd_170, am_cd_171, am_cd_172, am_cd_173, am_cd_174, am_cd_175, am_cd_176, am_cd_177, am_cd_178, am_cd_179, am_cd_180, am_cd_181, am_cd_182, am_cd_183, am_cd_184, am_cd_185, am_cd_186, am_cd_187, am_cd_188, am_cd_189, am_cd_190, am_cd_191, am_cd_192, am_cd_193, am_cd_194, am_cd_195, am_cd_196, am_cd_197, am_cd_198]
def am_LV : List (List (Nat × List Nat)) := [am_lv_0, am_lv_1, am_lv_2, am_lv_3, am_lv_4, am_lv_5, am_lv_6, am_lv_7, am_lv_8, am_lv_9, am_lv_10, am_lv_11, am_lv_12, am_lv_13, am_lv_14, am_lv_15, am_lv_16, am_lv_17, am_lv_18, am_lv_19, am_lv_20, am_lv_21, am_lv_22, am_lv_23, am_lv_24, am_lv_25, am_lv_26, am_lv_27, am_lv_28, am_lv_29, am_lv_30, am_lv_31, am_lv_32, am_lv_33, am_lv_34, am_lv_35, am_lv_36, am_lv_37, am_lv_38, am_lv_39, am_lv_40, am_lv_41, am_lv_42, am_lv_43, am_lv_44, am_lv_45, am_lv_46, am_lv_47, am_lv_48, am_lv_49, am_lv_50, am_lv_51, am_lv_52, am_lv_53, am_lv_54, am_lv_55, am_lv_56, am_lv_57, am_lv_58, am_lv_59, am_lv_60, am_lv_61, am_lv_62, am_lv_63, am_lv_64, am_lv_65, am_lv_66, am_lv_67, am_lv_68, am_lv_69, am_lv_70, am_lv_71, am_lv_72, am_lv_73, am_lv_74, am_lv_75, am_lv_76, am_lv_77, am_lv_78, am_lv_79, am_lv_80, am_lv_81, am_lv_82, am_lv_83, am_lv_84, am_lv_85, am_lv_86, am_lv_87, am_lv_88, am_lv_89, am_lv_90, am_lv_91, am_lv_92, am_lv_93, am_lv_94, am_lv_95, am_lv_96, am_lv_97, am_lv_98, am_lv_99, am_lv_100, am_lv_101, am_lv_102, am_lv_103, am_lv_104, am_lv_105, am_lv_106, am_lv_107, am_lv_108, am_lv_109, am_lv_110, am_lv_111, am_lv_112, am_lv_113, am_lv_114, am_lv_115, am_lv_116, am_lv_117, am_lv_118, am_lv_119, am_lv_120, am_lv_121, am_lv_122, am_lv_123, am_lv_124, am_lv_125, am_lv_126, am_lv_127, am_lv_128, am_lv_129, am_lv_130, am_lv_131, am_lv_132, am_lv_133, am_lv_134, am_lv_135, am_lv_136, am_lv_137, am_lv_138, am_lv_139, am_lv_140, am_lv_141, am_lv_142, am_lv_143, am_lv_144, am_lv_145, am_lv_146, am_lv_147, am_lv_148, am_lv_149, am_lv_150, am_lv_151, am_lv_152, am_lv_153, am_lv_154, am_lv_155, am_lv_156, am_lv_157, am_lv_158, am_lv_159, am_lv_160, am_lv_161, am_lv_162, am_lv_163, am_lv_164, am_lv_165, am_lv_166, am_lv_167, am_lv_168, am_lv_169, am_lv_170, am_lv_171, am_lv_172, am_lv_173, am_lv_174, am_lv_175, am_lv_176, am_lv_177, am_lv_178, am_lv_179, am_lv_180, am_lv_181, am_lv_182, am_lv_183, am_lv_184, am_lv_185, am_lv_186, am_lv_187, am_lv_188, am_lv_189, am_lv_190, am_lv_191, am_lv_192, am_lv_193, am_lv_194, am_lv_195, am_lv_196, am_lv_197, am_lv_198]
abbrev mi_X0_load : Nat := 0
abbrev mi_X0_opensLast : Nat := 1
abbrev mi_X0_addLetter : Nat := 2
abbrev mi_X0_emptied : Nat := 3
abbrev mi_X0_told : Nat := 4
abbrev mi_X0_wayOf : Nat := 5
abbrev mi_X1_clear : Nat := 6
abbrev mi_X1_allow : Nat := 7
abbrev mi_X1_greatest : Nat := 8
abbrev mi_X1_finds : Nat := 9
abbrev mi_X2_load : Nat := 10
abbrev mi_X2_fits : Nat := 11
abbrev mi_X2_take : Nat := 12
abbrev mi_X2_told : Nat := 13
abbrev mi_X3_add : Nat := 14
abbrev mi_X3_wetSteps : Nat := 15
abbrev mi_X4_isLost : Nat := 16
abbrev mi_X4_renew : Nat := 17
abbrev mi_X4_findingOf : Nat := 18
abbrev mi_X4_hasRange : Nat := 19
abbrev mi_X4_put : Nat := 20
abbrev mi_X5_add : Nat := 21
abbrev mi_X5_haveNobody : Nat := 22
abbrev mi_X5_holdFor : Nat := 23
abbrev mi_X6_chanceToCome : Nat := 24
abbrev mi_X6_comingFrom : Nat := 25
abbrev mi_X7_append : Nat := 26
abbrev mi_X7_signAt : Nat := 27
abbrev mi_X8_load : Nat := 28
abbrev mi_X8_goesOn : Nat := 29
abbrev mi_X8_isWhole : Nat := 30
abbrev mi_X8_emptied : Nat := 31
abbrev mi_X8_layWays : Nat := 32
abbrev mi_X8_freeOr : Nat := 33
abbrev mi_X8_kindOf : Nat := 34
abbrev mi_X8_nextOf : Nat := 35
abbrev mi_X8_stateOn : Nat := 36
abbrev mi_X9_follow : Nat := 37
abbrev mi_X9_told : Nat := 38
abbrev mi_X9_timesBy : Nat := 39
abbrev mi_X10_wear : Nat := 40
abbrev mi_X10_become : Nat := 41
abbrev mi_X10_begin : Nat := 42
abbrev mi_X10_go : Nat := 43
abbrev mi_X10_walk : Nat := 44
abbrev mi_X11_type : Nat := 45
abbrev mi_X11_wipe : Nat := 46
abbrev mi_X11_undo : Nat := 47
abbrev mi_X11_fault : Nat := 48
abbrev mi_X11_cell : Nat := 49
abbrev mi_X11_last : Nat := 50
abbrev mi_X11_person : Nat := 51
abbrev mi_X11_rain : Nat := 52
abbrev mi_X11_back : Nat := 53
abbrev mi_X11_read : Nat := 54
abbrev mi_X11_at : Nat := 55
abbrev mi_X11_ends : Nat := 56
abbrev mi_X11_who : Nat := 57
abbrev mi_X11_met : Nat := 58
abbrev mi_X11_worn : Nat := 59
abbrev mi_X11_rifest : Nat := 60
abbrev mi_X11_pair : Nat := 61
abbrev mi_X11_soles : Nat := 62
abbrev mi_X11_match : Nat := 63
abbrev mi_X11_dry : Nat := 64
abbrev mi_X11_seen : Nat := 65
abbrev mi_X11_forget : Nat := 66
abbrev mi_X11_never : Nat := 67
abbrev mi_X11_wore : Nat := 68
abbrev mi_X11_ask : Nat := 69
abbrev mi_X11_storm : Nat := 70
abbrev mi_X11_shelves : Nat := 71
abbrev mi_X11_sheet : Nat := 72
abbrev mi_X11_lose : Nat := 73
abbrev mi_X11_lay : Nat := 74
abbrev mi_X11_get : Nat := 75
abbrev mi_X11_copy : Nat := 76
abbrev mi_X11_write : Nat := 77
abbrev mi_X11_count : Nat := 78
abbrev mi_X11_digest : Nat := 79
abbrev mi_X11_isWithin : Nat := 80
abbrev mi_X11_isBitOf : Nat := 81
abbrev mi_X11_refusal : Nat := 82
abbrev mi_X11_endState : Nat := 83
abbrev mi_X11_nextSeed : Nat := 84
abbrev mi_X11_reload : Nat := 85
abbrev mi_X11_outdate : Nat := 86
abbrev mi_X11_retrace : Nat := 87
abbrev mi_X11_metBy : Nat := 88
abbrev mi_X11_findPair : Nat := 89
abbrev mi_X11_findDry : Nat := 90
abbrev mi_X11_nobodyDrownsWithout : Nat := 91
abbrev mi_X11_allHoldWithout : Nat := 92
abbrev mi_X11_othersHold : Nat := 93
abbrev mi_X11_findWore : Nat := 94
abbrev mi_X11_greatestCrowd : Nat := 95
abbrev mi_X11_mixed : Nat := 96
abbrev mi_X11_mixedLast : Nat := 97
abbrev mi_X11_mixedWalk : Nat := 98
abbrev mi_X11_mixedPlans : Nat := 99
abbrev mi_X12_in : Nat := 100
abbrev mi_X12_no : Nat := 101
abbrev mi_X12_isTwo : Nat := 102
abbrev mi_X12_isIn : Nat := 103
abbrev mi_X12_ones : Nat := 104
abbrev mi_X12_lesser : Nat := 105
abbrev mi_X12_greater : Nat := 106
abbrev mi_X12_part : Nat := 107
abbrev mi_X12_finds : Nat := 108
abbrev mi_X12_isSheet : Nat := 109
abbrev mi_X12_sheet : Nat := 110
abbrev mi_X12_lose : Nat := 111
abbrev mi_X12_lacks : Nat := 112
abbrev mi_X12_cut : Nat := 113
abbrev mi_X12_lay : Nat := 114
abbrev mi_X12_get : Nat := 115
abbrev mi_X12_copy : Nat := 116
abbrev mi_X12_isText : Nat := 117
abbrev mi_X12_type : Nat := 118
abbrev mi_X12_wipe : Nat := 119
abbrev mi_X12_undo : Nat := 120
abbrev mi_X12_torn : Nat := 121
abbrev mi_X12_cellOf : Nat := 122
abbrev mi_X12_wayOf : Nat := 123
abbrev mi_X12_readsTown : Nat := 124
abbrev mi_X12_readsLasts : Nat := 125
abbrev mi_X12_figureOf : Nat := 126
abbrev mi_X12_personOf : Nat := 127
abbrev mi_X12_readsPeople : Nat := 128
abbrev mi_X12_readsText : Nat := 129
abbrev mi_X12_fault : Nat := 130
abbrev mi_X12_isLast : Nat := 131
abbrev mi_X12_isPerson : Nat := 132
abbrev mi_X12_isStep : Nat := 133
abbrev mi_X12_cell : Nat := 134
abbrev mi_X12_lastBy : Nat := 135
abbrev mi_X12_last : Nat := 136
abbrev mi_X12_person : Nat := 137
abbrev mi_X12_rain : Nat := 138
abbrev mi_X12_back : Nat := 139
abbrev mi_X12_read : Nat := 140
abbrev mi_X12_isRain : Nat := 141
abbrev mi_X12_power : Nat := 142
abbrev mi_X12_beside : Nat := 143
abbrev mi_X12_wayBy : Nat := 144
abbrev mi_X12_settles : Nat := 145
abbrev mi_X12_walks : Nat := 146
abbrev mi_X12_meet : Nat := 147
abbrev mi_X12_begins : Nat := 148
abbrev mi_X12_lives : Nat := 149
abbrev mi_X12_find : Nat := 150
abbrev mi_X12_at : Nat := 151
abbrev mi_X12_ends : Nat := 152
abbrev mi_X12_whoBy : Nat := 153
abbrev mi_X12_who : Nat := 154
abbrev mi_X12_metBy : Nat := 155
abbrev mi_X12_met : Nat := 156
abbrev mi_X12_worn : Nat := 157
abbrev mi_X12_rifestNow : Nat := 158
abbrev mi_X12_rifest : Nat := 159
abbrev mi_X12_comes : Nat := 160
abbrev mi_X12_pairOf : Nat := 161
abbrev mi_X12_pair : Nat := 162
abbrev mi_X12_solesOf : Nat := 163
abbrev mi_X12_soles : Nat := 164
abbrev mi_X12_comesIn : Nat := 165
abbrev mi_X12_matchNow : Nat := 166
abbrev mi_X12_match : Nat := 167
abbrev mi_X12_isDry : Nat := 168
abbrev mi_X12_dryOf : Nat := 169
abbrev mi_X12_dry : Nat := 170
abbrev mi_X12_seen : Nat := 171
abbrev mi_X12_forget : Nat := 172
abbrev mi_X12_isSeen : Nat := 173
abbrev mi_X12_neverNow : Nat := 174
abbrev mi_X12_never : Nat := 175
abbrev mi_X12_woreOf : Nat := 176
abbrev mi_X12_wore : Nat := 177
abbrev mi_X12_alike : Nat := 178
abbrev mi_X12_askOf : Nat := 179
abbrev mi_X12_ask : Nat := 180
abbrev mi_X12_stormOf : Nat := 181
abbrev mi_X12_storm : Nat := 182
abbrev mi_X12_lot : Nat := 183
abbrev mi_X12_shelvesOf : Nat := 184
abbrev mi_X12_shelves : Nat := 185
abbrev mi_X12_write : Nat := 186
abbrev mi_X12_count : Nat := 187
abbrev mi_X12_tellsStep : Nat := 188
abbrev mi_X12_tellsPerson : Nat := 189
abbrev mi_X12_digest : Nat := 190
abbrev mi_J0_indexOf_0f7a4 : Nat := 191
abbrev mi_J0_indexOf_7cf53 : Nat := 192
abbrev mi_J0_isLatin1_aae02 : Nat := 193
abbrev mi_J0_length_8abf5 : Nat := 194
abbrev mi_J0_coder_7d493 : Nat := 195
abbrev mi_J1_canEncode_9a6ad : Nat := 196
abbrev mi_J1_indexOf_4cfef : Nat := 197
abbrev mi_J1_indexOfChar_4cfef : Nat := 198
end
section
/-! THE ABSTRACT MACHINE: memory as numbers by cell and slot, references as cell numbers; a step of each instruction in continuation form -/
abbrev am_M : Type := (Nat → Nat → Int32) × (Nat → Int64)
/-- a cell's kind: a row of ints, a row of references, an object (class number; field: none an int, some none a long, some (some t) a reference to cell t) -/
abbrev am_S : Type := (Nat ⊕ (Nat × List Nat)) ⊕ (Nat × List (Option (Option Nat)))
abbrev am_L : Type := List (Nat × Value)
abbrev am_O : Type := Option Value × am_M
/-- cells that nobody writes: rows of ints, rows of bytes, Strings -/
def am_ST : List ((List Int32 ⊕ List Int32) ⊕ Nat) := [
  .inl (.inl [3, 9, 7, 7, 5]), .inl (.inl [0, 3, 1, 2]), .inl (.inl [1, 3, 9, 27, 81, 243]), .inl (.inl [0, 5, 12, 29]),
  .inr 8, .inr 9, .inr 10, .inr 11,
  .inl (.inr [46, 35, 99, 114]), .inl (.inr [112, 100, 116]), .inl (.inr [110, 101, 115, 119]), .inl (.inr [110, 101, 115, 119])]
def am_fnd {α : Type} : List (Nat × α) → Nat → Option α
  | [], _ => none
  | a :: l, n => match Nat.beq a.1 n with
    | true => some a.2
    | false => am_fnd l n
def am_y (mid : Nat) : MethodName := match am_MI[mid]? with
  | some q => q.1
  | none => ⟨"", "", ""⟩
def am_b (mid : Nat) : ByteArray := match am_MI[mid]? with
  | some q => q.2.1
  | none => ByteArray.empty
def am_ml (mid : Nat) : Nat := match am_MI[mid]? with
  | some q => q.2.2.1
  | none => 0
def am_rt (mid : Nat) : Option FieldType := match am_MI[mid]? with
  | some q => q.2.2.2.1
  | none => none
def am_o (mid : Nat) : Nat := match am_MI[mid]? with
  | some q => q.2.2.2.2
  | none => 99
def am_at (mid pc : Nat) : Option (Instr × Int32 × Nat × Nat) := match am_CD[mid]? with
  | some l => am_fnd l pc
  | none => none
def am_mem (n : Nat) : List Nat → Bool
  | [] => false
  | a :: l => match Nat.beq a n with
    | true => true
    | false => am_mem n l
def am_keep (ks : List Nat) : am_L → am_L
  | [] => []
  | q :: l => match am_mem q.1 ks with
    | true => q :: am_keep ks l
    | false => am_keep ks l
def am_kill (mid pc : Nat) (lv : am_L) : am_L := match am_LV[mid]? with
  | some l => match am_fnd l pc with
    | some ks => am_keep ks lv
    | none => lv
  | none => lv
def am_lk : am_L → Nat → Option Value
  | [], _ => none
  | q :: l, n => match Nat.beq q.1 n with
    | true => some q.2
    | false => am_lk l n
def am_ins (i : Nat) (v : Value) : am_L → am_L
  | [] => [(i, v)]
  | q :: l => match Nat.ble i q.1 with
    | true => (i, v) :: q :: l
    | false => q :: am_ins i v l
/-- a local of one slot is stored -/
def am_cut1 (i : Nat) : am_L → am_L
  | [] => []
  | q :: l => match Nat.beq q.1 i || (Nat.beq (q.1 + 1) i && Nat.beq q.2.category 2) with
    | true => am_cut1 i l
    | false => q :: am_cut1 i l
def am_cut2 (i : Nat) : am_L → am_L
  | [] => []
  | q :: l => match Nat.beq q.1 i || (Nat.beq q.1 (i + 1) || (Nat.beq (q.1 + 1) i && Nat.beq q.2.category 2)) with
    | true => am_cut2 i l
    | false => q :: am_cut2 i l
def am_isb (sh : List am_S) (b ci : Nat) : Bool := match sh[b]? with
  | some (.inr q) => Nat.beq q.1 ci
  | _ => false
def am_isstr (b : Nat) : Bool := match Nat.ble 1000 b with
  | true => match am_ST[b - 1000]? with
    | some (.inr _) => true
    | _ => false
  | false => false
def am_tg (sh : List am_S) (b j : Nat) : Option Nat := match sh[b]? with
  | some (.inr q) => match q.2[j]? with
    | some (some (some t)) => some t
    | _ => none
  | _ => none
def am_ln (sh : List am_S) (b : Nat) : Option Nat := match sh[b]? with
  | some (.inl (.inl n)) => some n
  | _ => none
def am_rl (sh : List am_S) (b : Nat) : Option (Nat × List Nat) := match sh[b]? with
  | some (.inl (.inr q)) => some q
  | _ => none
def am_si (b : Nat) : Option (List Int32) := match Nat.ble 1000 b with
  | true => match am_ST[b - 1000]? with
    | some (.inl (.inl l)) => some l
    | _ => none
  | false => none
def am_sb (b : Nat) : Option (List Int32) := match Nat.ble 1000 b with
  | true => match am_ST[b - 1000]? with
    | some (.inl (.inr l)) => some l
    | _ => none
  | false => none
def am_sv (b : Nat) : Option Nat := match Nat.ble 1000 b with
  | true => match am_ST[b - 1000]? with
    | some (.inr v) => some v
    | _ => none
  | false => none
def am_kd (ci j : Nat) : Nat := match am_KD[ci]? with
  | some l => match l[j]? with
    | some n => n
    | none => 9
  | none => 9
/-- a field that a method other than a constructor may write -/
def am_wr (ci j : Nat) : Bool := match vwCl[ci]? with
  | some q => !(q.2.1 j).2.2.2
  | none => false
def am_bl (ci j : Nat) : Bool := Nat.beq ci 11 && Nat.beq j 17
def am_pi (w : am_M) (k j : Nat) (x : Int32) : am_M := (fun a b => if a = k ∧ b = j then x else w.1 a b, w.2)
def am_pl (w : am_M) (k : Nat) (x : Int64) : am_M := (w.1, fun a => if a = k then x else w.2 a)
def am_pa (w : am_M) (k : Nat) (f : Nat → Int32) : am_M := (fun a b => if a = k then f b else w.1 a b, w.2)
end
section
/-! the tables hold of the class files: checked by the kernel -/
def am_GT : List Cond := lw_tbl.filter goodWord
def am_nestw : Cond → Bool
  | .fieldLinkNest .. => true
  | .methodLinkNest .. => true
  | _ => false
def am_NW : List Cond := tables_1.filter am_nestw
theorem am_good : GoodIn am_GT am_GT := fun w h => ⟨h, good_of_word (List.mem_filter.mp h).2⟩
def am_len : Instr → Nat
  | .bipush _ | .ldc _ | .iload _ | .lload _ | .aload _ | .istore _ | .lstore _ | .astore _ => 2
  | .sipush _ | .ldc_w _ | .ldc2_w _ | .iinc _ _ | .goto _ | .ifCond _ _ | .if_icmp _ _ | .getfield _ | .putfield _ | .getstatic _ | .invokevirtual _ | .invokestatic _ => 3
  | _ => 1
def am_tsw : Instr → Bool
  | .tableswitch .. => true
  | _ => false
def am_vok (pc : Nat) (i : Instr) (v : Int32) (t : Nat) : Bool := match i with
  | .iconst n => decide (Int32.ofInt n = v)
  | .bipush n => decide ((Int8.ofInt n).toInt32 = v)
  | .sipush n => decide ((Int16.ofInt n).toInt32 = v)
  | .iinc _ n => decide (Int32.ofInt n = v)
  | .goto o => decide ((pc : Int) + o = (t : Int))
  | .ifCond _ o => decide ((pc : Int) + o = (t : Int))
  | .if_icmp _ o => decide ((pc : Int) + o = (t : Int))
  | _ => true
def am_ok1 (b : ByteArray) (q : am_T5) : Bool :=
  decide (decode b q.1 = .ok (q.2.1, q.2.2.2.1 - q.1)) && (Nat.beq q.2.2.2.1 (q.1 + am_len q.2.1) || am_tsw q.2.1) && am_vok q.1 q.2.1 q.2.2.1 q.2.2.2.2
def am_ckc (a n : Nat) : Bool := (List.range n).all fun i => (am_CD.getD (a + i) []).all (am_ok1 (am_b (a + i)))
set_option maxRecDepth 100000 in
theorem am_tcd_0 : am_ckc 0 20 = true := by decide +kernel
set_option maxRecDepth 100000 in
theorem am_tcd_20 : am_ckc 20 20 = true := by decide +kernel
set_option maxRecDepth 100000 in
theorem am_tcd_40 : am_ckc 40 20 = true := by decide +kernel
set_option maxRecDepth 100000 in
theorem am_tcd_60 : am_ckc 60 20 = true := by decide +kernel
set_option maxRecDepth 100000 in
theorem am_tcd_80 : am_ckc 80 20 = true := by decide +kernel
set_option maxRecDepth 100000 in
theorem am_tcd_100 : am_ckc 100 20 = true := by decide +kernel
set_option maxRecDepth 100000 in
theorem am_tcd_120 : am_ckc 120 20 = true := by decide +kernel
set_option maxRecDepth 100000 in
theorem am_tcd_140 : am_ckc 140 20 = true := by decide +kernel
set_option maxRecDepth 100000 in
theorem am_tcd_160 : am_ckc 160 20 = true := by decide +kernel
set_option maxRecDepth 100000 in
theorem am_tcd_180 : am_ckc 180 20 = true := by decide +kernel
theorem am_tcd {mid : Nat} {l : List am_T5} (h : am_CD[mid]? = some l) : l.all (am_ok1 (am_b mid)) = true := by
  have hl : mid < 199 := (List.getElem?_eq_some_iff.mp h).1
  have key : ∀ a, am_ckc a 20 = true → a ≤ mid → mid < a + 20 → l.all (am_ok1 (am_b mid)) = true := by
    intro a ha h1 h2
    have := List.all_eq_true.mp ha (mid - a) (List.mem_range.mpr (by omega))
    rw [show a + (mid - a) = mid by omega, List.getD_eq_getElem?_getD, h] at this
    exact this
  have hc : mid / 20 < 10 := by omega
  rcases (show mid / 20 = 0 ∨ mid / 20 = 1 ∨ mid / 20 = 2 ∨ mid / 20 = 3 ∨ mid / 20 = 4 ∨ mid / 20 = 5 ∨ mid / 20 = 6 ∨ mid / 20 = 7 ∨ mid / 20 = 8 ∨ mid / 20 = 9 by omega) with e | e | e | e | e | e | e | e | e | e
  · exact key 0 am_tcd_0 (by omega) (by omega)
  · exact key 20 am_tcd_20 (by omega) (by omega)
  · exact key 40 am_tcd_40 (by omega) (by omega)
  · exact key 60 am_tcd_60 (by omega) (by omega)
  · exact key 80 am_tcd_80 (by omega) (by omega)
  · exact key 100 am_tcd_100 (by omega) (by omega)
  · exact key 120 am_tcd_120 (by omega) (by omega)
  · exact key 140 am_tcd_140 (by omega) (by omega)
  · exact key 160 am_tcd_160 (by omega) (by omega)
  · exact key 180 am_tcd_180 (by omega) (by omega)
def am_cn (o : Nat) : String := am_CN.getD o ""
def am_fok (o : Nat) (q : Nat × Nat × Nat × Bool) : Bool := match Nat.beq q.2.1 13 with
  | true => (match q.2.2.1 with
    | 0 => decide (Cond.fieldLink (am_cn o) q.1 "java/lang/String" "value" "[B" ∈ am_GT)
    | _ => decide (Cond.fieldLink (am_cn o) q.1 "java/lang/String" "coder" "B" ∈ am_GT))
  | false => match vwCl[q.2.1]? with
    | some r => match q.2.2.2 with
      | false => decide (Cond.fieldLink (am_cn o) q.1 (r.2.1 q.2.2.1).1 (r.2.1 q.2.2.1).2.1 (r.2.1 q.2.2.1).2.2.1 ∈ am_GT) && Nat.blt q.2.2.1 r.2.2
      | true => decide (Cond.fieldLinkNest (am_cn o) q.1 (r.2.1 q.2.2.1).1 (r.2.1 q.2.2.1).2.1 (r.2.1 q.2.2.1).2.2.1 "DeadLasts" ∈ am_NW) && Nat.blt q.2.2.1 r.2.2
    | none => false
def am_ckf : Bool := (List.range 15).all fun o => (am_FTL.getD o []).all (am_fok o)
set_option maxRecDepth 100000 in
theorem am_tf : am_ckf = true := by decide +kernel
def am_sn (j : Nat) : String := match j with
  | 0 => "HIGHEST_FIGURES"
  | 1 => "STATES"
  | 2 => "THREES"
  | _ => "DIGEST_STEPS"
def am_gok (o : Nat) (q : Nat × Nat × Bool) : Bool := match Nat.ble 4 q.2.1 with
  | true => decide (Cond.fieldLink (am_cn o) q.1 "java/lang/String" "COMPACT_STRINGS" "Z" ∈ am_GT)
  | false => match q.2.2 with
    | false => decide (Cond.fieldLink (am_cn o) q.1 "DeadLasts" (am_sn q.2.1) "[I" ∈ am_GT)
    | true => decide (Cond.fieldLinkNest (am_cn o) q.1 "DeadLasts" (am_sn q.2.1) "[I" "DeadLasts" ∈ am_NW)
def am_ckg : Bool := (List.range 15).all fun o => (am_GSL.getD o []).all (am_gok o)
set_option maxRecDepth 100000 in
theorem am_tg0 : am_ckg = true := by decide +kernel
def am_SL : List (String × Nat × String × Nat) := [("DeadLasts$Town", 42, ".#cr", 4), ("DeadLasts$Lasts", 45, "pdt", 5), ("DeadLasts$Lasts", 52, "nesw", 6), ("DeadLasts$People", 42, "nesw", 7)]
def am_sok (o : Nat) (q : Nat × Nat) : Bool := am_SL.any fun x => decide (x.1 = am_cn o ∧ x.2.1 = q.1 ∧ x.2.2.2 = q.2)
def am_cks : Bool := (List.range 15).all fun o => (am_LSL.getD o []).all (am_sok o)
theorem am_ts : am_cks = true := by decide +kernel
def am_cki : Bool := (List.range 15).all fun o => (am_LIL.getD o []).all fun q => decide (Cond.constant (am_cn o) q.1 q.2 ∈ am_GT)
set_option maxRecDepth 100000 in
theorem am_ti : am_cki = true := by decide +kernel
def am_ckl : Bool := (List.range 15).all fun o => (am_LLL.getD o []).all fun q => decide (Cond.constantLong (am_cn o) q.1 q.2 ∈ am_GT)
set_option maxRecDepth 100000 in
theorem am_tl : am_ckl = true := by decide +kernel
def am_notH (c : String) : Bool := decide (c ≠ "java/lang/invoke/MethodHandle") && decide (c ≠ "java/lang/invoke/VarHandle")
set_option maxRecDepth 100000 in
theorem am_tbi : (decide (Cond.static Lib.Math.min.name ∈ am_GT) && (decide (Cond.static Lib.Math.max.name ∈ am_GT) && (decide (Cond.initialized "java/lang/Math" ∈ am_GT) && (decide (Cond.code Lib.Math.min.name Lib.Math.min.code 2 (some .int) ∈ am_GT) && (decide (Cond.code Lib.Math.max.name Lib.Math.max.code 2 (some .int) ∈ am_GT) && (decide (Cond.native arraycopyName ∈ am_GT) && (decide (Cond.static arraycopyName ∈ am_GT) && decide (Cond.initialized "java/lang/System" ∈ am_GT)))))))) = true := by decide +kernel
/-- a class: its fields' words, their types, their names -/
def am_clok (ci : Nat) (q : vw_C) : Bool := (u_ws q.1 q.2.1 q.2.2).all (fun w => decide (w ∈ am_GT)) && (decide (Cond.initialized q.1 ∈ am_GT) && (decide (q.1 = am_cn ci) &&
  (List.range q.2.2).all fun j => (decide ((q.2.1 j).1 = q.1) && match am_kd ci j with
    | 0 => (match am_bl ci j with
      | true => decide (parseFieldDescriptor (q.2.1 j).2.2.1 = some .boolean)
      | false => decide (parseFieldDescriptor (q.2.1 j).2.2.1 = some .int))
    | 2 => decide (parseFieldDescriptor (q.2.1 j).2.2.1 = some .long)
    | _ => (parseFieldDescriptor (q.2.1 j).2.2.1).isSome)))
def am_ckcl : Bool := (List.range 13).all fun ci => match vwCl[ci]? with
  | some q => am_clok ci q
  | none => false
set_option maxRecDepth 100000 in
theorem am_tcl : am_ckcl = true := by decide +kernel
end
section
theorem am_ig {i : Nat} {w : Cond} (h : lw_tbl[i]? = some w) (g : goodWord w = true) : w ∈ am_GT := List.mem_filter.mpr ⟨List.mem_of_getElem? h, g⟩
def am_MPr (q : MethodName × ByteArray × Nat × Option FieldType × Nat) : Prop := Cond.code q.1 q.2.1 q.2.2.1 q.2.2.2.1 ∈ am_GT ∧ plainName q.1.cls = true ∧ q.1.cls = am_cn q.2.2.2.2 ∧ (q.1.cls ≠ "java/lang/invoke/MethodHandle" ∧ q.1.cls ≠ "java/lang/invoke/VarHandle") ∧ Cond.initialized q.1.cls ∈ am_GT ∧ q.2.2.1 ≤ 20
theorem am_mp_0 : am_MPr (yX0_load, cX0_load, 5, some .int, 0) := ⟨am_ig (i := 538) (by decide +kernel) rfl, by decide +kernel, rfl, ⟨by decide +kernel, by decide +kernel⟩, am_ig (i := 70) (by decide +kernel) rfl, by decide⟩
theorem am_mp_1 : am_MPr (yX0_opensLast, cX0_opensLast, 3, some .boolean, 0) := ⟨am_ig (i := 543) (by decide +kernel) rfl, by decide +kernel, rfl, ⟨by decide +kernel, by decide +kernel⟩, am_ig (i := 70) (by decide +kernel) rfl, by decide⟩
theorem am_mp_2 : am_MPr (yX0_addLetter, cX0_addLetter, 3, some .boolean, 0) := ⟨am_ig (i := 549) (by decide +kernel) rfl, by decide +kernel, rfl, ⟨by decide +kernel, by decide +kernel⟩, am_ig (i := 70) (by decide +kernel) rfl, by decide⟩
theorem am_mp_3 : am_MPr (yX0_emptied, cX0_emptied, 2, some .int, 0) := ⟨am_ig (i := 554) (by decide +kernel) rfl, by decide +kernel, rfl, ⟨by decide +kernel, by decide +kernel⟩, am_ig (i := 70) (by decide +kernel) rfl, by decide⟩
theorem am_mp_4 : am_MPr (yX0_told, cX0_told, 4, some .int, 0) := ⟨am_ig (i := 604) (by decide +kernel) rfl, by decide +kernel, rfl, ⟨by decide +kernel, by decide +kernel⟩, am_ig (i := 70) (by decide +kernel) rfl, by decide⟩
theorem am_mp_5 : am_MPr (yX0_wayOf, cX0_wayOf, 5, some .int, 0) := ⟨am_ig (i := 680) (by decide +kernel) rfl, by decide +kernel, rfl, ⟨by decide +kernel, by decide +kernel⟩, am_ig (i := 70) (by decide +kernel) rfl, by decide⟩
theorem am_mp_6 : am_MPr (yX1_clear, cX1_clear, 2, none, 1) := ⟨am_ig (i := 748) (by decide +kernel) rfl, by decide +kernel, rfl, ⟨by decide +kernel, by decide +kernel⟩, am_ig (i := 78) (by decide +kernel) rfl, by decide⟩
theorem am_mp_7 : am_MPr (yX1_allow, cX1_allow, 3, none, 1) := ⟨am_ig (i := 752) (by decide +kernel) rfl, by decide +kernel, rfl, ⟨by decide +kernel, by decide +kernel⟩, am_ig (i := 78) (by decide +kernel) rfl, by decide⟩
theorem am_mp_8 : am_MPr (yX1_greatest, cX1_greatest, 3, some .int, 1) := ⟨am_ig (i := 756) (by decide +kernel) rfl, by decide +kernel, rfl, ⟨by decide +kernel, by decide +kernel⟩, am_ig (i := 78) (by decide +kernel) rfl, by decide⟩
theorem am_mp_9 : am_MPr (yX1_finds, cX1_finds, 4, some .boolean, 1) := ⟨am_ig (i := 760) (by decide +kernel) rfl, by decide +kernel, rfl, ⟨by decide +kernel, by decide +kernel⟩, am_ig (i := 78) (by decide +kernel) rfl, by decide⟩
theorem am_mp_10 : am_MPr (yX2_load, cX2_load, 4, some .int, 2) := ⟨am_ig (i := 558) (by decide +kernel) rfl, by decide +kernel, rfl, ⟨by decide +kernel, by decide +kernel⟩, am_ig (i := 71) (by decide +kernel) rfl, by decide⟩
theorem am_mp_11 : am_MPr (yX2_fits, cX2_fits, 2, some .boolean, 2) := ⟨am_ig (i := 562) (by decide +kernel) rfl, by decide +kernel, rfl, ⟨by decide +kernel, by decide +kernel⟩, am_ig (i := 71) (by decide +kernel) rfl, by decide⟩
theorem am_mp_12 : am_MPr (yX2_take, cX2_take, 6, none, 2) := ⟨am_ig (i := 571) (by decide +kernel) rfl, by decide +kernel, rfl, ⟨by decide +kernel, by decide +kernel⟩, am_ig (i := 71) (by decide +kernel) rfl, by decide⟩
theorem am_mp_13 : am_MPr (yX2_told, cX2_told, 3, some .int, 2) := ⟨am_ig (i := 612) (by decide +kernel) rfl, by decide +kernel, rfl, ⟨by decide +kernel, by decide +kernel⟩, am_ig (i := 71) (by decide +kernel) rfl, by decide⟩
theorem am_mp_14 : am_MPr (yX3_add, cX3_add, 2, some .boolean, 3) := ⟨am_ig (i := 620) (by decide +kernel) rfl, by decide +kernel, rfl, ⟨by decide +kernel, by decide +kernel⟩, am_ig (i := 72) (by decide +kernel) rfl, by decide⟩
theorem am_mp_15 : am_MPr (yX3_wetSteps, cX3_wetSteps, 5, some .int, 3) := ⟨am_ig (i := 648) (by decide +kernel) rfl, by decide +kernel, rfl, ⟨by decide +kernel, by decide +kernel⟩, am_ig (i := 72) (by decide +kernel) rfl, by decide⟩
theorem am_mp_16 : am_MPr (yX4_isLost, cX4_isLost, 1, some .boolean, 4) := ⟨am_ig (i := 632) (by decide +kernel) rfl, by decide +kernel, rfl, ⟨by decide +kernel, by decide +kernel⟩, am_ig (i := 74) (by decide +kernel) rfl, by decide⟩
theorem am_mp_17 : am_MPr (yX4_renew, cX4_renew, 4, none, 4) := ⟨am_ig (i := 861) (by decide +kernel) rfl, by decide +kernel, rfl, ⟨by decide +kernel, by decide +kernel⟩, am_ig (i := 74) (by decide +kernel) rfl, by decide⟩
theorem am_mp_18 : am_MPr (yX4_findingOf, cX4_findingOf, 3, some .int, 4) := ⟨am_ig (i := 873) (by decide +kernel) rfl, by decide +kernel, rfl, ⟨by decide +kernel, by decide +kernel⟩, am_ig (i := 74) (by decide +kernel) rfl, by decide⟩
theorem am_mp_19 : am_MPr (yX4_hasRange, cX4_hasRange, 3, some .boolean, 4) := ⟨am_ig (i := 892) (by decide +kernel) rfl, by decide +kernel, rfl, ⟨by decide +kernel, by decide +kernel⟩, am_ig (i := 74) (by decide +kernel) rfl, by decide⟩
theorem am_mp_20 : am_MPr (yX4_put, cX4_put, 3, none, 4) := ⟨am_ig (i := 879) (by decide +kernel) rfl, by decide +kernel, rfl, ⟨by decide +kernel, by decide +kernel⟩, am_ig (i := 74) (by decide +kernel) rfl, by decide⟩
theorem am_mp_21 : am_MPr (yX5_add, cX5_add, 4, some .boolean, 5) := ⟨am_ig (i := 781) (by decide +kernel) rfl, by decide +kernel, rfl, ⟨by decide +kernel, by decide +kernel⟩, am_ig (i := 73) (by decide +kernel) rfl, by decide⟩
theorem am_mp_22 : am_MPr (yX5_haveNobody, cX5_haveNobody, 3, some .boolean, 5) := ⟨am_ig (i := 797) (by decide +kernel) rfl, by decide +kernel, rfl, ⟨by decide +kernel, by decide +kernel⟩, am_ig (i := 73) (by decide +kernel) rfl, by decide⟩
theorem am_mp_23 : am_MPr (yX5_holdFor, cX5_holdFor, 4, some .boolean, 5) := ⟨am_ig (i := 801) (by decide +kernel) rfl, by decide +kernel, rfl, ⟨by decide +kernel, by decide +kernel⟩, am_ig (i := 73) (by decide +kernel) rfl, by decide⟩
theorem am_mp_24 : am_MPr (yX6_chanceToCome, cX6_chanceToCome, 6, some .long, 6) := ⟨am_ig (i := 833) (by decide +kernel) rfl, by decide +kernel, rfl, ⟨by decide +kernel, by decide +kernel⟩, am_ig (i := 77) (by decide +kernel) rfl, by decide⟩
theorem am_mp_25 : am_MPr (yX6_comingFrom, cX6_comingFrom, 8, some .long, 6) := ⟨am_ig (i := 840) (by decide +kernel) rfl, by decide +kernel, rfl, ⟨by decide +kernel, by decide +kernel⟩, am_ig (i := 77) (by decide +kernel) rfl, by decide⟩
theorem am_mp_26 : am_MPr (yX7_append, cX7_append, 2, some .boolean, 7) := ⟨am_ig (i := 415) (by decide +kernel) rfl, by decide +kernel, rfl, ⟨by decide +kernel, by decide +kernel⟩, am_ig (i := 67) (by decide +kernel) rfl, by decide⟩
theorem am_mp_27 : am_MPr (yX7_signAt, cX7_signAt, 2, some .char, 7) := ⟨am_ig (i := 427) (by decide +kernel) rfl, by decide +kernel, rfl, ⟨by decide +kernel, by decide +kernel⟩, am_ig (i := 67) (by decide +kernel) rfl, by decide⟩
theorem am_mp_28 : am_MPr (yX8_load, cX8_load, 6, some .int, 8) := ⟨am_ig (i := 423) (by decide +kernel) rfl, by decide +kernel, rfl, ⟨by decide +kernel, by decide +kernel⟩, am_ig (i := 69) (by decide +kernel) rfl, by decide⟩
theorem am_mp_29 : am_MPr (yX8_goesOn, cX8_goesOn, 4, some .boolean, 8) := ⟨am_ig (i := 432) (by decide +kernel) rfl, by decide +kernel, rfl, ⟨by decide +kernel, by decide +kernel⟩, am_ig (i := 69) (by decide +kernel) rfl, by decide⟩
theorem am_mp_30 : am_MPr (yX8_isWhole, cX8_isWhole, 2, some .boolean, 8) := ⟨am_ig (i := 436) (by decide +kernel) rfl, by decide +kernel, rfl, ⟨by decide +kernel, by decide +kernel⟩, am_ig (i := 69) (by decide +kernel) rfl, by decide⟩
theorem am_mp_31 : am_MPr (yX8_emptied, cX8_emptied, 2, some .int, 8) := ⟨am_ig (i := 525) (by decide +kernel) rfl, by decide +kernel, rfl, ⟨by decide +kernel, by decide +kernel⟩, am_ig (i := 69) (by decide +kernel) rfl, by decide⟩
theorem am_mp_32 : am_MPr (yX8_layWays, cX8_layWays, 4, none, 8) := ⟨am_ig (i := 529) (by decide +kernel) rfl, by decide +kernel, rfl, ⟨by decide +kernel, by decide +kernel⟩, am_ig (i := 69) (by decide +kernel) rfl, by decide⟩
theorem am_mp_33 : am_MPr (yX8_freeOr, cX8_freeOr, 3, some .int, 8) := ⟨am_ig (i := 533) (by decide +kernel) rfl, by decide +kernel, rfl, ⟨by decide +kernel, by decide +kernel⟩, am_ig (i := 69) (by decide +kernel) rfl, by decide⟩
theorem am_mp_34 : am_MPr (yX8_kindOf, cX8_kindOf, 2, some .int, 8) := ⟨am_ig (i := 596) (by decide +kernel) rfl, by decide +kernel, rfl, ⟨by decide +kernel, by decide +kernel⟩, am_ig (i := 69) (by decide +kernel) rfl, by decide⟩
theorem am_mp_35 : am_MPr (yX8_nextOf, cX8_nextOf, 3, some .int, 8) := ⟨am_ig (i := 684) (by decide +kernel) rfl, by decide +kernel, rfl, ⟨by decide +kernel, by decide +kernel⟩, am_ig (i := 69) (by decide +kernel) rfl, by decide⟩
theorem am_mp_36 : am_MPr (yX8_stateOn, cX8_stateOn, 2, some .int, 8) := ⟨am_ig (i := 665) (by decide +kernel) rfl, by decide +kernel, rfl, ⟨by decide +kernel, by decide +kernel⟩, am_ig (i := 69) (by decide +kernel) rfl, by decide⟩
theorem am_mp_37 : am_MPr (yX9_follow, cX9_follow, 5, none, 9) := ⟨am_ig (i := 657) (by decide +kernel) rfl, by decide +kernel, rfl, ⟨by decide +kernel, by decide +kernel⟩, am_ig (i := 75) (by decide +kernel) rfl, by decide⟩
theorem am_mp_38 : am_MPr (yX9_told, cX9_told, 3, some .int, 9) := ⟨am_ig (i := 688) (by decide +kernel) rfl, by decide +kernel, rfl, ⟨by decide +kernel, by decide +kernel⟩, am_ig (i := 75) (by decide +kernel) rfl, by decide⟩
theorem am_mp_39 : am_MPr (yX9_timesBy, cX9_timesBy, 4, some .int, 9) := ⟨am_ig (i := 715) (by decide +kernel) rfl, by decide +kernel, rfl, ⟨by decide +kernel, by decide +kernel⟩, am_ig (i := 75) (by decide +kernel) rfl, by decide⟩
theorem am_mp_40 : am_MPr (yX10_wear, cX10_wear, 3, none, 10) := ⟨am_ig (i := 652) (by decide +kernel) rfl, by decide +kernel, rfl, ⟨by decide +kernel, by decide +kernel⟩, am_ig (i := 76) (by decide +kernel) rfl, by decide⟩
theorem am_mp_41 : am_MPr (yX10_become, cX10_become, 2, none, 10) := ⟨am_ig (i := 845) (by decide +kernel) rfl, by decide +kernel, rfl, ⟨by decide +kernel, by decide +kernel⟩, am_ig (i := 76) (by decide +kernel) rfl, by decide⟩
theorem am_mp_42 : am_MPr (yX10_begin, cX10_begin, 1, none, 10) := ⟨am_ig (i := 661) (by decide +kernel) rfl, by decide +kernel, rfl, ⟨by decide +kernel, by decide +kernel⟩, am_ig (i := 76) (by decide +kernel) rfl, by decide⟩
theorem am_mp_43 : am_MPr (yX10_go, cX10_go, 6, none, 10) := ⟨am_ig (i := 674) (by decide +kernel) rfl, by decide +kernel, rfl, ⟨by decide +kernel, by decide +kernel⟩, am_ig (i := 76) (by decide +kernel) rfl, by decide⟩
theorem am_mp_44 : am_MPr (yX10_walk, cX10_walk, 4, some .int, 10) := ⟨am_ig (i := 733) (by decide +kernel) rfl, by decide +kernel, rfl, ⟨by decide +kernel, by decide +kernel⟩, am_ig (i := 76) (by decide +kernel) rfl, by decide⟩
theorem am_mp_45 : am_MPr (yX11_type, cX11_type, 3, some .int, 11) := ⟨am_ig (i := 408) (by decide +kernel) rfl, by decide +kernel, rfl, ⟨by decide +kernel, by decide +kernel⟩, am_ig (i := 66) (by decide +kernel) rfl, by decide⟩
theorem am_mp_46 : am_MPr (yX11_wipe, cX11_wipe, 3, some .int, 11) := ⟨am_ig (i := 580) (by decide +kernel) rfl, by decide +kernel, rfl, ⟨by decide +kernel, by decide +kernel⟩, am_ig (i := 66) (by decide +kernel) rfl, by decide⟩
theorem am_mp_47 : am_MPr (yX11_undo, cX11_undo, 2, some .int, 11) := ⟨am_ig (i := 584) (by decide +kernel) rfl, by decide +kernel, rfl, ⟨by decide +kernel, by decide +kernel⟩, am_ig (i := 66) (by decide +kernel) rfl, by decide⟩
theorem am_mp_48 : am_MPr (yX11_fault, cX11_fault, 2, some .int, 11) := ⟨am_ig (i := 588) (by decide +kernel) rfl, by decide +kernel, rfl, ⟨by decide +kernel, by decide +kernel⟩, am_ig (i := 66) (by decide +kernel) rfl, by decide⟩
theorem am_mp_49 : am_MPr (yX11_cell, cX11_cell, 2, some .int, 11) := ⟨am_ig (i := 592) (by decide +kernel) rfl, by decide +kernel, rfl, ⟨by decide +kernel, by decide +kernel⟩, am_ig (i := 66) (by decide +kernel) rfl, by decide⟩
theorem am_mp_50 : am_MPr (yX11_last, cX11_last, 3, some .int, 11) := ⟨am_ig (i := 600) (by decide +kernel) rfl, by decide +kernel, rfl, ⟨by decide +kernel, by decide +kernel⟩, am_ig (i := 66) (by decide +kernel) rfl, by decide⟩
theorem am_mp_51 : am_MPr (yX11_person, cX11_person, 3, some .int, 11) := ⟨am_ig (i := 608) (by decide +kernel) rfl, by decide +kernel, rfl, ⟨by decide +kernel, by decide +kernel⟩, am_ig (i := 66) (by decide +kernel) rfl, by decide⟩
theorem am_mp_52 : am_MPr (yX11_rain, cX11_rain, 2, some .int, 11) := ⟨am_ig (i := 616) (by decide +kernel) rfl, by decide +kernel, rfl, ⟨by decide +kernel, by decide +kernel⟩, am_ig (i := 66) (by decide +kernel) rfl, by decide⟩
theorem am_mp_53 : am_MPr (yX11_back, cX11_back, 1, some .int, 11) := ⟨am_ig (i := 624) (by decide +kernel) rfl, by decide +kernel, rfl, ⟨by decide +kernel, by decide +kernel⟩, am_ig (i := 66) (by decide +kernel) rfl, by decide⟩
theorem am_mp_54 : am_MPr (yX11_read, cX11_read, 4, some .int, 11) := ⟨am_ig (i := 628) (by decide +kernel) rfl, by decide +kernel, rfl, ⟨by decide +kernel, by decide +kernel⟩, am_ig (i := 66) (by decide +kernel) rfl, by decide⟩
theorem am_mp_55 : am_MPr (yX11_at, cX11_at, 4, some .int, 11) := ⟨am_ig (i := 640) (by decide +kernel) rfl, by decide +kernel, rfl, ⟨by decide +kernel, by decide +kernel⟩, am_ig (i := 66) (by decide +kernel) rfl, by decide⟩
theorem am_mp_56 : am_MPr (yX11_ends, cX11_ends, 4, some .int, 11) := ⟨am_ig (i := 692) (by decide +kernel) rfl, by decide +kernel, rfl, ⟨by decide +kernel, by decide +kernel⟩, am_ig (i := 66) (by decide +kernel) rfl, by decide⟩
theorem am_mp_57 : am_MPr (yX11_who, cX11_who, 4, some .int, 11) := ⟨am_ig (i := 699) (by decide +kernel) rfl, by decide +kernel, rfl, ⟨by decide +kernel, by decide +kernel⟩, am_ig (i := 66) (by decide +kernel) rfl, by decide⟩
theorem am_mp_58 : am_MPr (yX11_met, cX11_met, 5, some .int, 11) := ⟨am_ig (i := 703) (by decide +kernel) rfl, by decide +kernel, rfl, ⟨by decide +kernel, by decide +kernel⟩, am_ig (i := 66) (by decide +kernel) rfl, by decide⟩
theorem am_mp_59 : am_MPr (yX11_worn, cX11_worn, 4, some .int, 11) := ⟨am_ig (i := 711) (by decide +kernel) rfl, by decide +kernel, rfl, ⟨by decide +kernel, by decide +kernel⟩, am_ig (i := 66) (by decide +kernel) rfl, by decide⟩
theorem am_mp_60 : am_MPr (yX11_rifest, cX11_rifest, 5, some .int, 11) := ⟨am_ig (i := 720) (by decide +kernel) rfl, by decide +kernel, rfl, ⟨by decide +kernel, by decide +kernel⟩, am_ig (i := 66) (by decide +kernel) rfl, by decide⟩
theorem am_mp_61 : am_MPr (yX11_pair, cX11_pair, 3, some .int, 11) := ⟨am_ig (i := 725) (by decide +kernel) rfl, by decide +kernel, rfl, ⟨by decide +kernel, by decide +kernel⟩, am_ig (i := 66) (by decide +kernel) rfl, by decide⟩
theorem am_mp_62 : am_MPr (yX11_soles, cX11_soles, 4, some .int, 11) := ⟨am_ig (i := 740) (by decide +kernel) rfl, by decide +kernel, rfl, ⟨by decide +kernel, by decide +kernel⟩, am_ig (i := 66) (by decide +kernel) rfl, by decide⟩
theorem am_mp_63 : am_MPr (yX11_match, cX11_match, 4, some .int, 11) := ⟨am_ig (i := 744) (by decide +kernel) rfl, by decide +kernel, rfl, ⟨by decide +kernel, by decide +kernel⟩, am_ig (i := 66) (by decide +kernel) rfl, by decide⟩
theorem am_mp_64 : am_MPr (yX11_dry, cX11_dry, 2, some .int, 11) := ⟨am_ig (i := 765) (by decide +kernel) rfl, by decide +kernel, rfl, ⟨by decide +kernel, by decide +kernel⟩, am_ig (i := 66) (by decide +kernel) rfl, by decide⟩
theorem am_mp_65 : am_MPr (yX11_seen, cX11_seen, 4, some .int, 11) := ⟨am_ig (i := 777) (by decide +kernel) rfl, by decide +kernel, rfl, ⟨by decide +kernel, by decide +kernel⟩, am_ig (i := 66) (by decide +kernel) rfl, by decide⟩
theorem am_mp_66 : am_MPr (yX11_forget, cX11_forget, 2, some .int, 11) := ⟨am_ig (i := 785) (by decide +kernel) rfl, by decide +kernel, rfl, ⟨by decide +kernel, by decide +kernel⟩, am_ig (i := 66) (by decide +kernel) rfl, by decide⟩
theorem am_mp_67 : am_MPr (yX11_never, cX11_never, 3, some .int, 11) := ⟨am_ig (i := 789) (by decide +kernel) rfl, by decide +kernel, rfl, ⟨by decide +kernel, by decide +kernel⟩, am_ig (i := 66) (by decide +kernel) rfl, by decide⟩
theorem am_mp_68 : am_MPr (yX11_wore, cX11_wore, 3, some .int, 11) := ⟨am_ig (i := 806) (by decide +kernel) rfl, by decide +kernel, rfl, ⟨by decide +kernel, by decide +kernel⟩, am_ig (i := 66) (by decide +kernel) rfl, by decide⟩
theorem am_mp_69 : am_MPr (yX11_ask, cX11_ask, 7, some .int, 11) := ⟨am_ig (i := 818) (by decide +kernel) rfl, by decide +kernel, rfl, ⟨by decide +kernel, by decide +kernel⟩, am_ig (i := 66) (by decide +kernel) rfl, by decide⟩
theorem am_mp_70 : am_MPr (yX11_storm, cX11_storm, 10, some .long, 11) := ⟨am_ig (i := 828) (by decide +kernel) rfl, by decide +kernel, rfl, ⟨by decide +kernel, by decide +kernel⟩, am_ig (i := 66) (by decide +kernel) rfl, by decide⟩
theorem am_mp_71 : am_MPr (yX11_shelves, cX11_shelves, 7, some .int, 11) := ⟨am_ig (i := 849) (by decide +kernel) rfl, by decide +kernel, rfl, ⟨by decide +kernel, by decide +kernel⟩, am_ig (i := 66) (by decide +kernel) rfl, by decide⟩
theorem am_mp_72 : am_MPr (yX11_sheet, cX11_sheet, 4, some .int, 11) := ⟨am_ig (i := 857) (by decide +kernel) rfl, by decide +kernel, rfl, ⟨by decide +kernel, by decide +kernel⟩, am_ig (i := 66) (by decide +kernel) rfl, by decide⟩
theorem am_mp_73 : am_MPr (yX11_lose, cX11_lose, 3, some .int, 11) := ⟨am_ig (i := 865) (by decide +kernel) rfl, by decide +kernel, rfl, ⟨by decide +kernel, by decide +kernel⟩, am_ig (i := 66) (by decide +kernel) rfl, by decide⟩
theorem am_mp_74 : am_MPr (yX11_lay, cX11_lay, 6, some .int, 11) := ⟨am_ig (i := 869) (by decide +kernel) rfl, by decide +kernel, rfl, ⟨by decide +kernel, by decide +kernel⟩, am_ig (i := 66) (by decide +kernel) rfl, by decide⟩
theorem am_mp_75 : am_MPr (yX11_get, cX11_get, 5, some .int, 11) := ⟨am_ig (i := 883) (by decide +kernel) rfl, by decide +kernel, rfl, ⟨by decide +kernel, by decide +kernel⟩, am_ig (i := 66) (by decide +kernel) rfl, by decide⟩
theorem am_mp_76 : am_MPr (yX11_copy, cX11_copy, 8, some .int, 11) := ⟨am_ig (i := 888) (by decide +kernel) rfl, by decide +kernel, rfl, ⟨by decide +kernel, by decide +kernel⟩, am_ig (i := 66) (by decide +kernel) rfl, by decide⟩
theorem am_mp_77 : am_MPr (yX11_write, cX11_write, 6, some .int, 11) := ⟨am_ig (i := 899) (by decide +kernel) rfl, by decide +kernel, rfl, ⟨by decide +kernel, by decide +kernel⟩, am_ig (i := 66) (by decide +kernel) rfl, by decide⟩
theorem am_mp_78 : am_MPr (yX11_count, cX11_count, 2, some .int, 11) := ⟨am_ig (i := 904) (by decide +kernel) rfl, by decide +kernel, rfl, ⟨by decide +kernel, by decide +kernel⟩, am_ig (i := 66) (by decide +kernel) rfl, by decide⟩
theorem am_mp_79 : am_MPr (yX11_digest, cX11_digest, 4, some .long, 11) := ⟨am_ig (i := 908) (by decide +kernel) rfl, by decide +kernel, rfl, ⟨by decide +kernel, by decide +kernel⟩, am_ig (i := 66) (by decide +kernel) rfl, by decide⟩
theorem am_mp_80 : am_MPr (yX11_isWithin, cX11_isWithin, 2, some .boolean, 11) := ⟨am_ig (i := 411) (by decide +kernel) rfl, by decide +kernel, rfl, ⟨by decide +kernel, by decide +kernel⟩, am_ig (i := 66) (by decide +kernel) rfl, by decide⟩
theorem am_mp_81 : am_MPr (yX11_isBitOf, cX11_isBitOf, 2, some .boolean, 11) := ⟨am_ig (i := 670) (by decide +kernel) rfl, by decide +kernel, rfl, ⟨by decide +kernel, by decide +kernel⟩, am_ig (i := 66) (by decide +kernel) rfl, by decide⟩
theorem am_mp_82 : am_MPr (yX11_refusal, cX11_refusal, 2, some .int, 11) := ⟨am_ig (i := 636) (by decide +kernel) rfl, by decide +kernel, rfl, ⟨by decide +kernel, by decide +kernel⟩, am_ig (i := 66) (by decide +kernel) rfl, by decide⟩
theorem am_mp_83 : am_MPr (yX11_endState, cX11_endState, 1, some .int, 11) := ⟨am_ig (i := 695) (by decide +kernel) rfl, by decide +kernel, rfl, ⟨by decide +kernel, by decide +kernel⟩, am_ig (i := 66) (by decide +kernel) rfl, by decide⟩
theorem am_mp_84 : am_MPr (yX11_nextSeed, cX11_nextSeed, 1, some .int, 11) := ⟨am_ig (i := 852) (by decide +kernel) rfl, by decide +kernel, rfl, ⟨by decide +kernel, by decide +kernel⟩, am_ig (i := 66) (by decide +kernel) rfl, by decide⟩
theorem am_mp_85 : am_MPr (yX11_reload, cX11_reload, 2, none, 11) := ⟨am_ig (i := 419) (by decide +kernel) rfl, by decide +kernel, rfl, ⟨by decide +kernel, by decide +kernel⟩, am_ig (i := 66) (by decide +kernel) rfl, by decide⟩
theorem am_mp_86 : am_MPr (yX11_outdate, cX11_outdate, 1, none, 11) := ⟨am_ig (i := 575) (by decide +kernel) rfl, by decide +kernel, rfl, ⟨by decide +kernel, by decide +kernel⟩, am_ig (i := 66) (by decide +kernel) rfl, by decide⟩
theorem am_mp_87 : am_MPr (yX11_retrace, cX11_retrace, 3, none, 11) := ⟨am_ig (i := 644) (by decide +kernel) rfl, by decide +kernel, rfl, ⟨by decide +kernel, by decide +kernel⟩, am_ig (i := 66) (by decide +kernel) rfl, by decide⟩
theorem am_mp_88 : am_MPr (yX11_metBy, cX11_metBy, 5, some .int, 11) := ⟨am_ig (i := 707) (by decide +kernel) rfl, by decide +kernel, rfl, ⟨by decide +kernel, by decide +kernel⟩, am_ig (i := 66) (by decide +kernel) rfl, by decide⟩
theorem am_mp_89 : am_MPr (yX11_findPair, cX11_findPair, 7, none, 11) := ⟨am_ig (i := 729) (by decide +kernel) rfl, by decide +kernel, rfl, ⟨by decide +kernel, by decide +kernel⟩, am_ig (i := 66) (by decide +kernel) rfl, by decide⟩
theorem am_mp_90 : am_MPr (yX11_findDry, cX11_findDry, 3, some .int, 11) := ⟨am_ig (i := 769) (by decide +kernel) rfl, by decide +kernel, rfl, ⟨by decide +kernel, by decide +kernel⟩, am_ig (i := 66) (by decide +kernel) rfl, by decide⟩
theorem am_mp_91 : am_MPr (yX11_nobodyDrownsWithout, cX11_nobodyDrownsWithout, 5, some .boolean, 11) := ⟨am_ig (i := 773) (by decide +kernel) rfl, by decide +kernel, rfl, ⟨by decide +kernel, by decide +kernel⟩, am_ig (i := 66) (by decide +kernel) rfl, by decide⟩
theorem am_mp_92 : am_MPr (yX11_allHoldWithout, cX11_allHoldWithout, 4, some .boolean, 11) := ⟨am_ig (i := 793) (by decide +kernel) rfl, by decide +kernel, rfl, ⟨by decide +kernel, by decide +kernel⟩, am_ig (i := 66) (by decide +kernel) rfl, by decide⟩
theorem am_mp_93 : am_MPr (yX11_othersHold, cX11_othersHold, 3, some .boolean, 11) := ⟨am_ig (i := 814) (by decide +kernel) rfl, by decide +kernel, rfl, ⟨by decide +kernel, by decide +kernel⟩, am_ig (i := 66) (by decide +kernel) rfl, by decide⟩
theorem am_mp_94 : am_MPr (yX11_findWore, cX11_findWore, 7, some .int, 11) := ⟨am_ig (i := 810) (by decide +kernel) rfl, by decide +kernel, rfl, ⟨by decide +kernel, by decide +kernel⟩, am_ig (i := 66) (by decide +kernel) rfl, by decide⟩
theorem am_mp_95 : am_MPr (yX11_greatestCrowd, cX11_greatestCrowd, 8, some .int, 11) := ⟨am_ig (i := 822) (by decide +kernel) rfl, by decide +kernel, rfl, ⟨by decide +kernel, by decide +kernel⟩, am_ig (i := 66) (by decide +kernel) rfl, by decide⟩
theorem am_mp_96 : am_MPr (yX11_mixed, cX11_mixed, 4, some .long, 11) := ⟨am_ig (i := 913) (by decide +kernel) rfl, by decide +kernel, rfl, ⟨by decide +kernel, by decide +kernel⟩, am_ig (i := 66) (by decide +kernel) rfl, by decide⟩
theorem am_mp_97 : am_MPr (yX11_mixedLast, cX11_mixedLast, 7, some .long, 11) := ⟨am_ig (i := 920) (by decide +kernel) rfl, by decide +kernel, rfl, ⟨by decide +kernel, by decide +kernel⟩, am_ig (i := 66) (by decide +kernel) rfl, by decide⟩
theorem am_mp_98 : am_MPr (yX11_mixedWalk, cX11_mixedWalk, 11, some .long, 11) := ⟨am_ig (i := 925) (by decide +kernel) rfl, by decide +kernel, rfl, ⟨by decide +kernel, by decide +kernel⟩, am_ig (i := 66) (by decide +kernel) rfl, by decide⟩
theorem am_mp_99 : am_MPr (yX11_mixedPlans, cX11_mixedPlans, 7, some .long, 11) := ⟨am_ig (i := 933) (by decide +kernel) rfl, by decide +kernel, rfl, ⟨by decide +kernel, by decide +kernel⟩, am_ig (i := 66) (by decide +kernel) rfl, by decide⟩
theorem am_mp_100 : am_MPr (yX12_in, cX12_in, 6, some .boolean, 12) := ⟨am_ig (i := 1072) (by decide +kernel) rfl, by decide +kernel, rfl, ⟨by decide +kernel, by decide +kernel⟩, am_ig (i := 79) (by decide +kernel) rfl, by decide⟩
theorem am_mp_101 : am_MPr (yX12_no, cX12_no, 1, some .long, 12) := ⟨am_ig (i := 1384) (by decide +kernel) rfl, by decide +kernel, rfl, ⟨by decide +kernel, by decide +kernel⟩, am_ig (i := 79) (by decide +kernel) rfl, by decide⟩
theorem am_mp_102 : am_MPr (yX12_isTwo, cX12_isTwo, 1, some .boolean, 12) := ⟨am_ig (i := 1251) (by decide +kernel) rfl, by decide +kernel, rfl, ⟨by decide +kernel, by decide +kernel⟩, am_ig (i := 79) (by decide +kernel) rfl, by decide⟩
theorem am_mp_103 : am_MPr (yX12_isIn, cX12_isIn, 2, some .boolean, 12) := ⟨am_ig (i := 1229) (by decide +kernel) rfl, by decide +kernel, rfl, ⟨by decide +kernel, by decide +kernel⟩, am_ig (i := 79) (by decide +kernel) rfl, by decide⟩
theorem am_mp_104 : am_MPr (yX12_ones, cX12_ones, 3, some .int, 12) := ⟨am_ig (i := 1401) (by decide +kernel) rfl, by decide +kernel, rfl, ⟨by decide +kernel, by decide +kernel⟩, am_ig (i := 79) (by decide +kernel) rfl, by decide⟩
theorem am_mp_105 : am_MPr (yX12_lesser, cX12_lesser, 2, some .int, 12) := ⟨am_ig (i := 1408) (by decide +kernel) rfl, by decide +kernel, rfl, ⟨by decide +kernel, by decide +kernel⟩, am_ig (i := 79) (by decide +kernel) rfl, by decide⟩
theorem am_mp_106 : am_MPr (yX12_greater, cX12_greater, 2, some .int, 12) := ⟨am_ig (i := 1314) (by decide +kernel) rfl, by decide +kernel, rfl, ⟨by decide +kernel, by decide +kernel⟩, am_ig (i := 79) (by decide +kernel) rfl, by decide⟩
theorem am_mp_107 : am_MPr (yX12_part, cX12_part, 11, some .long, 12) := ⟨am_ig (i := 1381) (by decide +kernel) rfl, by decide +kernel, rfl, ⟨by decide +kernel, by decide +kernel⟩, am_ig (i := 79) (by decide +kernel) rfl, by decide⟩
theorem am_mp_108 : am_MPr (yX12_finds, cX12_finds, 2, some .int, 12) := ⟨am_ig (i := 1077) (by decide +kernel) rfl, by decide +kernel, rfl, ⟨by decide +kernel, by decide +kernel⟩, am_ig (i := 79) (by decide +kernel) rfl, by decide⟩
theorem am_mp_109 : am_MPr (yX12_isSheet, cX12_isSheet, 1, some .boolean, 12) := ⟨am_ig (i := 1068) (by decide +kernel) rfl, by decide +kernel, rfl, ⟨by decide +kernel, by decide +kernel⟩, am_ig (i := 79) (by decide +kernel) rfl, by decide⟩
theorem am_mp_110 : am_MPr (yX12_sheet, cX12_sheet, 5, some .int, 12) := ⟨am_ig (i := 1065) (by decide +kernel) rfl, by decide +kernel, rfl, ⟨by decide +kernel, by decide +kernel⟩, am_ig (i := 79) (by decide +kernel) rfl, by decide⟩
theorem am_mp_111 : am_MPr (yX12_lose, cX12_lose, 2, some .int, 12) := ⟨am_ig (i := 1081) (by decide +kernel) rfl, by decide +kernel, rfl, ⟨by decide +kernel, by decide +kernel⟩, am_ig (i := 79) (by decide +kernel) rfl, by decide⟩
theorem am_mp_112 : am_MPr (yX12_lacks, cX12_lacks, 4, some .int, 12) := ⟨am_ig (i := 1089) (by decide +kernel) rfl, by decide +kernel, rfl, ⟨by decide +kernel, by decide +kernel⟩, am_ig (i := 79) (by decide +kernel) rfl, by decide⟩
theorem am_mp_113 : am_MPr (yX12_cut, cX12_cut, 2, some .int, 12) := ⟨am_ig (i := 1092) (by decide +kernel) rfl, by decide +kernel, rfl, ⟨by decide +kernel, by decide +kernel⟩, am_ig (i := 79) (by decide +kernel) rfl, by decide⟩
theorem am_mp_114 : am_MPr (yX12_lay, cX12_lay, 6, some .int, 12) := ⟨am_ig (i := 1085) (by decide +kernel) rfl, by decide +kernel, rfl, ⟨by decide +kernel, by decide +kernel⟩, am_ig (i := 79) (by decide +kernel) rfl, by decide⟩
theorem am_mp_115 : am_MPr (yX12_get, cX12_get, 4, some .int, 12) := ⟨am_ig (i := 1096) (by decide +kernel) rfl, by decide +kernel, rfl, ⟨by decide +kernel, by decide +kernel⟩, am_ig (i := 79) (by decide +kernel) rfl, by decide⟩
theorem am_mp_116 : am_MPr (yX12_copy, cX12_copy, 7, some .int, 12) := ⟨am_ig (i := 1101) (by decide +kernel) rfl, by decide +kernel, rfl, ⟨by decide +kernel, by decide +kernel⟩, am_ig (i := 79) (by decide +kernel) rfl, by decide⟩
theorem am_mp_117 : am_MPr (yX12_isText, cX12_isText, 1, some .boolean, 12) := ⟨am_ig (i := 1108) (by decide +kernel) rfl, by decide +kernel, rfl, ⟨by decide +kernel, by decide +kernel⟩, am_ig (i := 79) (by decide +kernel) rfl, by decide⟩
theorem am_mp_118 : am_MPr (yX12_type, cX12_type, 3, some .int, 12) := ⟨am_ig (i := 1105) (by decide +kernel) rfl, by decide +kernel, rfl, ⟨by decide +kernel, by decide +kernel⟩, am_ig (i := 79) (by decide +kernel) rfl, by decide⟩
theorem am_mp_119 : am_MPr (yX12_wipe, cX12_wipe, 3, some .int, 12) := ⟨am_ig (i := 1113) (by decide +kernel) rfl, by decide +kernel, rfl, ⟨by decide +kernel, by decide +kernel⟩, am_ig (i := 79) (by decide +kernel) rfl, by decide⟩
theorem am_mp_120 : am_MPr (yX12_undo, cX12_undo, 2, some .int, 12) := ⟨am_ig (i := 1117) (by decide +kernel) rfl, by decide +kernel, rfl, ⟨by decide +kernel, by decide +kernel⟩, am_ig (i := 79) (by decide +kernel) rfl, by decide⟩
theorem am_mp_121 : am_MPr (yX12_torn, cX12_torn, 2, some .int, 12) := ⟨am_ig (i := 1133) (by decide +kernel) rfl, by decide +kernel, rfl, ⟨by decide +kernel, by decide +kernel⟩, am_ig (i := 79) (by decide +kernel) rfl, by decide⟩
theorem am_mp_122 : am_MPr (yX12_cellOf, cX12_cellOf, 1, some .int, 12) := ⟨am_ig (i := 1136) (by decide +kernel) rfl, by decide +kernel, rfl, ⟨by decide +kernel, by decide +kernel⟩, am_ig (i := 79) (by decide +kernel) rfl, by decide⟩
theorem am_mp_123 : am_MPr (yX12_wayOf, cX12_wayOf, 1, some .int, 12) := ⟨am_ig (i := 1143) (by decide +kernel) rfl, by decide +kernel, rfl, ⟨by decide +kernel, by decide +kernel⟩, am_ig (i := 79) (by decide +kernel) rfl, by decide⟩
theorem am_mp_124 : am_MPr (yX12_readsTown, cX12_readsTown, 7, some .int, 12) := ⟨am_ig (i := 1129) (by decide +kernel) rfl, by decide +kernel, rfl, ⟨by decide +kernel, by decide +kernel⟩, am_ig (i := 79) (by decide +kernel) rfl, by decide⟩
theorem am_mp_125 : am_MPr (yX12_readsLasts, cX12_readsLasts, 9, some .int, 12) := ⟨am_ig (i := 1140) (by decide +kernel) rfl, by decide +kernel, rfl, ⟨by decide +kernel, by decide +kernel⟩, am_ig (i := 79) (by decide +kernel) rfl, by decide⟩
theorem am_mp_126 : am_MPr (yX12_figureOf, cX12_figureOf, 2, some .int, 12) := ⟨am_ig (i := 1153) (by decide +kernel) rfl, by decide +kernel, rfl, ⟨by decide +kernel, by decide +kernel⟩, am_ig (i := 79) (by decide +kernel) rfl, by decide⟩
theorem am_mp_127 : am_MPr (yX12_personOf, cX12_personOf, 2, some .int, 12) := ⟨am_ig (i := 1150) (by decide +kernel) rfl, by decide +kernel, rfl, ⟨by decide +kernel, by decide +kernel⟩, am_ig (i := 79) (by decide +kernel) rfl, by decide⟩
theorem am_mp_128 : am_MPr (yX12_readsPeople, cX12_readsPeople, 6, some .int, 12) := ⟨am_ig (i := 1147) (by decide +kernel) rfl, by decide +kernel, rfl, ⟨by decide +kernel, by decide +kernel⟩, am_ig (i := 79) (by decide +kernel) rfl, by decide⟩
theorem am_mp_129 : am_MPr (yX12_readsText, cX12_readsText, 2, some .int, 12) := ⟨am_ig (i := 1125) (by decide +kernel) rfl, by decide +kernel, rfl, ⟨by decide +kernel, by decide +kernel⟩, am_ig (i := 79) (by decide +kernel) rfl, by decide⟩
theorem am_mp_130 : am_MPr (yX12_fault, cX12_fault, 2, some .int, 12) := ⟨am_ig (i := 1121) (by decide +kernel) rfl, by decide +kernel, rfl, ⟨by decide +kernel, by decide +kernel⟩, am_ig (i := 79) (by decide +kernel) rfl, by decide⟩
theorem am_mp_131 : am_MPr (yX12_isLast, cX12_isLast, 2, some .boolean, 12) := ⟨am_ig (i := 1167) (by decide +kernel) rfl, by decide +kernel, rfl, ⟨by decide +kernel, by decide +kernel⟩, am_ig (i := 79) (by decide +kernel) rfl, by decide⟩
theorem am_mp_132 : am_MPr (yX12_isPerson, cX12_isPerson, 2, some .boolean, 12) := ⟨am_ig (i := 1180) (by decide +kernel) rfl, by decide +kernel, rfl, ⟨by decide +kernel, by decide +kernel⟩, am_ig (i := 79) (by decide +kernel) rfl, by decide⟩
theorem am_mp_133 : am_MPr (yX12_isStep, cX12_isStep, 1, some .boolean, 12) := ⟨am_ig (i := 1188) (by decide +kernel) rfl, by decide +kernel, rfl, ⟨by decide +kernel, by decide +kernel⟩, am_ig (i := 79) (by decide +kernel) rfl, by decide⟩
theorem am_mp_134 : am_MPr (yX12_cell, cX12_cell, 2, some .int, 12) := ⟨am_ig (i := 1158) (by decide +kernel) rfl, by decide +kernel, rfl, ⟨by decide +kernel, by decide +kernel⟩, am_ig (i := 79) (by decide +kernel) rfl, by decide⟩
theorem am_mp_135 : am_MPr (yX12_lastBy, cX12_lastBy, 3, some .int, 12) := ⟨am_ig (i := 1172) (by decide +kernel) rfl, by decide +kernel, rfl, ⟨by decide +kernel, by decide +kernel⟩, am_ig (i := 79) (by decide +kernel) rfl, by decide⟩
theorem am_mp_136 : am_MPr (yX12_last, cX12_last, 3, some .int, 12) := ⟨am_ig (i := 1163) (by decide +kernel) rfl, by decide +kernel, rfl, ⟨by decide +kernel, by decide +kernel⟩, am_ig (i := 79) (by decide +kernel) rfl, by decide⟩
theorem am_mp_137 : am_MPr (yX12_person, cX12_person, 3, some .int, 12) := ⟨am_ig (i := 1176) (by decide +kernel) rfl, by decide +kernel, rfl, ⟨by decide +kernel, by decide +kernel⟩, am_ig (i := 79) (by decide +kernel) rfl, by decide⟩
theorem am_mp_138 : am_MPr (yX12_rain, cX12_rain, 2, some .int, 12) := ⟨am_ig (i := 1185) (by decide +kernel) rfl, by decide +kernel, rfl, ⟨by decide +kernel, by decide +kernel⟩, am_ig (i := 79) (by decide +kernel) rfl, by decide⟩
theorem am_mp_139 : am_MPr (yX12_back, cX12_back, 1, some .int, 12) := ⟨am_ig (i := 1193) (by decide +kernel) rfl, by decide +kernel, rfl, ⟨by decide +kernel, by decide +kernel⟩, am_ig (i := 79) (by decide +kernel) rfl, by decide⟩
theorem am_mp_140 : am_MPr (yX12_read, cX12_read, 4, some .int, 12) := ⟨am_ig (i := 1197) (by decide +kernel) rfl, by decide +kernel, rfl, ⟨by decide +kernel, by decide +kernel⟩, am_ig (i := 79) (by decide +kernel) rfl, by decide⟩
theorem am_mp_141 : am_MPr (yX12_isRain, cX12_isRain, 4, some .boolean, 12) := ⟨am_ig (i := 1226) (by decide +kernel) rfl, by decide +kernel, rfl, ⟨by decide +kernel, by decide +kernel⟩, am_ig (i := 79) (by decide +kernel) rfl, by decide⟩
theorem am_mp_142 : am_MPr (yX12_power, cX12_power, 4, some .int, 12) := ⟨am_ig (i := 1232) (by decide +kernel) rfl, by decide +kernel, rfl, ⟨by decide +kernel, by decide +kernel⟩, am_ig (i := 79) (by decide +kernel) rfl, by decide⟩
theorem am_mp_143 : am_MPr (yX12_beside, cX12_beside, 4, some .int, 12) := ⟨am_ig (i := 1240) (by decide +kernel) rfl, by decide +kernel, rfl, ⟨by decide +kernel, by decide +kernel⟩, am_ig (i := 79) (by decide +kernel) rfl, by decide⟩
theorem am_mp_144 : am_MPr (yX12_wayBy, cX12_wayBy, 6, some .int, 12) := ⟨am_ig (i := 1236) (by decide +kernel) rfl, by decide +kernel, rfl, ⟨by decide +kernel, by decide +kernel⟩, am_ig (i := 79) (by decide +kernel) rfl, by decide⟩
theorem am_mp_145 : am_MPr (yX12_settles, cX12_settles, 4, none, 12) := ⟨am_ig (i := 1218) (by decide +kernel) rfl, by decide +kernel, rfl, ⟨by decide +kernel, by decide +kernel⟩, am_ig (i := 79) (by decide +kernel) rfl, by decide⟩
theorem am_mp_146 : am_MPr (yX12_walks, cX12_walks, 8, none, 12) := ⟨am_ig (i := 1222) (by decide +kernel) rfl, by decide +kernel, rfl, ⟨by decide +kernel, by decide +kernel⟩, am_ig (i := 79) (by decide +kernel) rfl, by decide⟩
theorem am_mp_147 : am_MPr (yX12_meet, cX12_meet, 4, none, 12) := ⟨am_ig (i := 1244) (by decide +kernel) rfl, by decide +kernel, rfl, ⟨by decide +kernel, by decide +kernel⟩, am_ig (i := 79) (by decide +kernel) rfl, by decide⟩
theorem am_mp_148 : am_MPr (yX12_begins, cX12_begins, 4, none, 12) := ⟨am_ig (i := 1214) (by decide +kernel) rfl, by decide +kernel, rfl, ⟨by decide +kernel, by decide +kernel⟩, am_ig (i := 79) (by decide +kernel) rfl, by decide⟩
theorem am_mp_149 : am_MPr (yX12_lives, cX12_lives, 3, none, 12) := ⟨am_ig (i := 1210) (by decide +kernel) rfl, by decide +kernel, rfl, ⟨by decide +kernel, by decide +kernel⟩, am_ig (i := 79) (by decide +kernel) rfl, by decide⟩
theorem am_mp_150 : am_MPr (yX12_find, cX12_find, 1, none, 12) := ⟨am_ig (i := 1206) (by decide +kernel) rfl, by decide +kernel, rfl, ⟨by decide +kernel, by decide +kernel⟩, am_ig (i := 79) (by decide +kernel) rfl, by decide⟩
theorem am_mp_151 : am_MPr (yX12_at, cX12_at, 4, some .int, 12) := ⟨am_ig (i := 1202) (by decide +kernel) rfl, by decide +kernel, rfl, ⟨by decide +kernel, by decide +kernel⟩, am_ig (i := 79) (by decide +kernel) rfl, by decide⟩
theorem am_mp_152 : am_MPr (yX12_ends, cX12_ends, 3, some .int, 12) := ⟨am_ig (i := 1248) (by decide +kernel) rfl, by decide +kernel, rfl, ⟨by decide +kernel, by decide +kernel⟩, am_ig (i := 79) (by decide +kernel) rfl, by decide⟩
theorem am_mp_153 : am_MPr (yX12_whoBy, cX12_whoBy, 4, some .int, 12) := ⟨am_ig (i := 1259) (by decide +kernel) rfl, by decide +kernel, rfl, ⟨by decide +kernel, by decide +kernel⟩, am_ig (i := 79) (by decide +kernel) rfl, by decide⟩
theorem am_mp_154 : am_MPr (yX12_who, cX12_who, 2, some .int, 12) := ⟨am_ig (i := 1255) (by decide +kernel) rfl, by decide +kernel, rfl, ⟨by decide +kernel, by decide +kernel⟩, am_ig (i := 79) (by decide +kernel) rfl, by decide⟩
theorem am_mp_155 : am_MPr (yX12_metBy, cX12_metBy, 2, some .int, 12) := ⟨am_ig (i := 1267) (by decide +kernel) rfl, by decide +kernel, rfl, ⟨by decide +kernel, by decide +kernel⟩, am_ig (i := 79) (by decide +kernel) rfl, by decide⟩
theorem am_mp_156 : am_MPr (yX12_met, cX12_met, 2, some .int, 12) := ⟨am_ig (i := 1263) (by decide +kernel) rfl, by decide +kernel, rfl, ⟨by decide +kernel, by decide +kernel⟩, am_ig (i := 79) (by decide +kernel) rfl, by decide⟩
theorem am_mp_157 : am_MPr (yX12_worn, cX12_worn, 2, some .int, 12) := ⟨am_ig (i := 1271) (by decide +kernel) rfl, by decide +kernel, rfl, ⟨by decide +kernel, by decide +kernel⟩, am_ig (i := 79) (by decide +kernel) rfl, by decide⟩
theorem am_mp_158 : am_MPr (yX12_rifestNow, cX12_rifestNow, 3, some .int, 12) := ⟨am_ig (i := 1279) (by decide +kernel) rfl, by decide +kernel, rfl, ⟨by decide +kernel, by decide +kernel⟩, am_ig (i := 79) (by decide +kernel) rfl, by decide⟩
theorem am_mp_159 : am_MPr (yX12_rifest, cX12_rifest, 1, some .int, 12) := ⟨am_ig (i := 1275) (by decide +kernel) rfl, by decide +kernel, rfl, ⟨by decide +kernel, by decide +kernel⟩, am_ig (i := 79) (by decide +kernel) rfl, by decide⟩
theorem am_mp_160 : am_MPr (yX12_comes, cX12_comes, 2, some .int, 12) := ⟨am_ig (i := 1291) (by decide +kernel) rfl, by decide +kernel, rfl, ⟨by decide +kernel, by decide +kernel⟩, am_ig (i := 79) (by decide +kernel) rfl, by decide⟩
theorem am_mp_161 : am_MPr (yX12_pairOf, cX12_pairOf, 9, some .int, 12) := ⟨am_ig (i := 1287) (by decide +kernel) rfl, by decide +kernel, rfl, ⟨by decide +kernel, by decide +kernel⟩, am_ig (i := 79) (by decide +kernel) rfl, by decide⟩
theorem am_mp_162 : am_MPr (yX12_pair, cX12_pair, 3, some .int, 12) := ⟨am_ig (i := 1283) (by decide +kernel) rfl, by decide +kernel, rfl, ⟨by decide +kernel, by decide +kernel⟩, am_ig (i := 79) (by decide +kernel) rfl, by decide⟩
theorem am_mp_163 : am_MPr (yX12_solesOf, cX12_solesOf, 5, some .int, 12) := ⟨am_ig (i := 1299) (by decide +kernel) rfl, by decide +kernel, rfl, ⟨by decide +kernel, by decide +kernel⟩, am_ig (i := 79) (by decide +kernel) rfl, by decide⟩
theorem am_mp_164 : am_MPr (yX12_soles, cX12_soles, 2, some .int, 12) := ⟨am_ig (i := 1295) (by decide +kernel) rfl, by decide +kernel, rfl, ⟨by decide +kernel, by decide +kernel⟩, am_ig (i := 79) (by decide +kernel) rfl, by decide⟩
theorem am_mp_165 : am_MPr (yX12_comesIn, cX12_comesIn, 5, some .boolean, 12) := ⟨am_ig (i := 1311) (by decide +kernel) rfl, by decide +kernel, rfl, ⟨by decide +kernel, by decide +kernel⟩, am_ig (i := 79) (by decide +kernel) rfl, by decide⟩
theorem am_mp_166 : am_MPr (yX12_matchNow, cX12_matchNow, 7, some .int, 12) := ⟨am_ig (i := 1307) (by decide +kernel) rfl, by decide +kernel, rfl, ⟨by decide +kernel, by decide +kernel⟩, am_ig (i := 79) (by decide +kernel) rfl, by decide⟩
theorem am_mp_167 : am_MPr (yX12_match, cX12_match, 1, some .int, 12) := ⟨am_ig (i := 1303) (by decide +kernel) rfl, by decide +kernel, rfl, ⟨by decide +kernel, by decide +kernel⟩, am_ig (i := 79) (by decide +kernel) rfl, by decide⟩
theorem am_mp_168 : am_MPr (yX12_isDry, cX12_isDry, 2, some .boolean, 12) := ⟨am_ig (i := 1327) (by decide +kernel) rfl, by decide +kernel, rfl, ⟨by decide +kernel, by decide +kernel⟩, am_ig (i := 79) (by decide +kernel) rfl, by decide⟩
theorem am_mp_169 : am_MPr (yX12_dryOf, cX12_dryOf, 4, some .int, 12) := ⟨am_ig (i := 1323) (by decide +kernel) rfl, by decide +kernel, rfl, ⟨by decide +kernel, by decide +kernel⟩, am_ig (i := 79) (by decide +kernel) rfl, by decide⟩
theorem am_mp_170 : am_MPr (yX12_dry, cX12_dry, 2, some .int, 12) := ⟨am_ig (i := 1318) (by decide +kernel) rfl, by decide +kernel, rfl, ⟨by decide +kernel, by decide +kernel⟩, am_ig (i := 79) (by decide +kernel) rfl, by decide⟩
theorem am_mp_171 : am_MPr (yX12_seen, cX12_seen, 4, some .int, 12) := ⟨am_ig (i := 1331) (by decide +kernel) rfl, by decide +kernel, rfl, ⟨by decide +kernel, by decide +kernel⟩, am_ig (i := 79) (by decide +kernel) rfl, by decide⟩
theorem am_mp_172 : am_MPr (yX12_forget, cX12_forget, 2, some .int, 12) := ⟨am_ig (i := 1336) (by decide +kernel) rfl, by decide +kernel, rfl, ⟨by decide +kernel, by decide +kernel⟩, am_ig (i := 79) (by decide +kernel) rfl, by decide⟩
theorem am_mp_173 : am_MPr (yX12_isSeen, cX12_isSeen, 4, some .boolean, 12) := ⟨am_ig (i := 1348) (by decide +kernel) rfl, by decide +kernel, rfl, ⟨by decide +kernel, by decide +kernel⟩, am_ig (i := 79) (by decide +kernel) rfl, by decide⟩
theorem am_mp_174 : am_MPr (yX12_neverNow, cX12_neverNow, 3, some .int, 12) := ⟨am_ig (i := 1344) (by decide +kernel) rfl, by decide +kernel, rfl, ⟨by decide +kernel, by decide +kernel⟩, am_ig (i := 79) (by decide +kernel) rfl, by decide⟩
theorem am_mp_175 : am_MPr (yX12_never, cX12_never, 1, some .int, 12) := ⟨am_ig (i := 1340) (by decide +kernel) rfl, by decide +kernel, rfl, ⟨by decide +kernel, by decide +kernel⟩, am_ig (i := 79) (by decide +kernel) rfl, by decide⟩
theorem am_mp_176 : am_MPr (yX12_woreOf, cX12_woreOf, 6, some .int, 12) := ⟨am_ig (i := 1356) (by decide +kernel) rfl, by decide +kernel, rfl, ⟨by decide +kernel, by decide +kernel⟩, am_ig (i := 79) (by decide +kernel) rfl, by decide⟩
theorem am_mp_177 : am_MPr (yX12_wore, cX12_wore, 3, some .int, 12) := ⟨am_ig (i := 1352) (by decide +kernel) rfl, by decide +kernel, rfl, ⟨by decide +kernel, by decide +kernel⟩, am_ig (i := 79) (by decide +kernel) rfl, by decide⟩
theorem am_mp_178 : am_MPr (yX12_alike, cX12_alike, 7, some .int, 12) := ⟨am_ig (i := 1368) (by decide +kernel) rfl, by decide +kernel, rfl, ⟨by decide +kernel, by decide +kernel⟩, am_ig (i := 79) (by decide +kernel) rfl, by decide⟩
theorem am_mp_179 : am_MPr (yX12_askOf, cX12_askOf, 6, some .int, 12) := ⟨am_ig (i := 1364) (by decide +kernel) rfl, by decide +kernel, rfl, ⟨by decide +kernel, by decide +kernel⟩, am_ig (i := 79) (by decide +kernel) rfl, by decide⟩
theorem am_mp_180 : am_MPr (yX12_ask, cX12_ask, 2, some .int, 12) := ⟨am_ig (i := 1360) (by decide +kernel) rfl, by decide +kernel, rfl, ⟨by decide +kernel, by decide +kernel⟩, am_ig (i := 79) (by decide +kernel) rfl, by decide⟩
theorem am_mp_181 : am_MPr (yX12_stormOf, cX12_stormOf, 11, some .long, 12) := ⟨am_ig (i := 1378) (by decide +kernel) rfl, by decide +kernel, rfl, ⟨by decide +kernel, by decide +kernel⟩, am_ig (i := 79) (by decide +kernel) rfl, by decide⟩
theorem am_mp_182 : am_MPr (yX12_storm, cX12_storm, 5, some .long, 12) := ⟨am_ig (i := 1372) (by decide +kernel) rfl, by decide +kernel, rfl, ⟨by decide +kernel, by decide +kernel⟩, am_ig (i := 79) (by decide +kernel) rfl, by decide⟩
theorem am_mp_183 : am_MPr (yX12_lot, cX12_lot, 2, some .int, 12) := ⟨am_ig (i := 1397) (by decide +kernel) rfl, by decide +kernel, rfl, ⟨by decide +kernel, by decide +kernel⟩, am_ig (i := 79) (by decide +kernel) rfl, by decide⟩
theorem am_mp_184 : am_MPr (yX12_shelvesOf, cX12_shelvesOf, 4, some .int, 12) := ⟨am_ig (i := 1393) (by decide +kernel) rfl, by decide +kernel, rfl, ⟨by decide +kernel, by decide +kernel⟩, am_ig (i := 79) (by decide +kernel) rfl, by decide⟩
theorem am_mp_185 : am_MPr (yX12_shelves, cX12_shelves, 3, some .int, 12) := ⟨am_ig (i := 1389) (by decide +kernel) rfl, by decide +kernel, rfl, ⟨by decide +kernel, by decide +kernel⟩, am_ig (i := 79) (by decide +kernel) rfl, by decide⟩
theorem am_mp_186 : am_MPr (yX12_write, cX12_write, 5, some .int, 12) := ⟨am_ig (i := 1405) (by decide +kernel) rfl, by decide +kernel, rfl, ⟨by decide +kernel, by decide +kernel⟩, am_ig (i := 79) (by decide +kernel) rfl, by decide⟩
theorem am_mp_187 : am_MPr (yX12_count, cX12_count, 2, some .int, 12) := ⟨am_ig (i := 1412) (by decide +kernel) rfl, by decide +kernel, rfl, ⟨by decide +kernel, by decide +kernel⟩, am_ig (i := 79) (by decide +kernel) rfl, by decide⟩
theorem am_mp_188 : am_MPr (yX12_tellsStep, cX12_tellsStep, 8, some .long, 12) := ⟨am_ig (i := 1427) (by decide +kernel) rfl, by decide +kernel, rfl, ⟨by decide +kernel, by decide +kernel⟩, am_ig (i := 79) (by decide +kernel) rfl, by decide⟩
theorem am_mp_189 : am_MPr (yX12_tellsPerson, cX12_tellsPerson, 7, some .long, 12) := ⟨am_ig (i := 1423) (by decide +kernel) rfl, by decide +kernel, rfl, ⟨by decide +kernel, by decide +kernel⟩, am_ig (i := 79) (by decide +kernel) rfl, by decide⟩
theorem am_mp_190 : am_MPr (yX12_digest, cX12_digest, 5, some .long, 12) := ⟨am_ig (i := 1416) (by decide +kernel) rfl, by decide +kernel, rfl, ⟨by decide +kernel, by decide +kernel⟩, am_ig (i := 79) (by decide +kernel) rfl, by decide⟩
theorem am_mp_191 : am_MPr (yJ0_indexOf_0f7a4, cJ0_indexOf_0f7a4, 2, some .int, 13) := ⟨am_ig (i := 441) (by decide +kernel) rfl, by decide +kernel, rfl, ⟨by decide +kernel, by decide +kernel⟩, am_ig (i := 80) (by decide +kernel) rfl, by decide⟩
theorem am_mp_192 : am_MPr (yJ0_indexOf_7cf53, cJ0_indexOf_7cf53, 3, some .int, 13) := ⟨am_ig (i := 445) (by decide +kernel) rfl, by decide +kernel, rfl, ⟨by decide +kernel, by decide +kernel⟩, am_ig (i := 80) (by decide +kernel) rfl, by decide⟩
theorem am_mp_193 : am_MPr (yJ0_isLatin1_aae02, cJ0_isLatin1_aae02, 1, some .boolean, 13) := ⟨am_ig (i := 449) (by decide +kernel) rfl, by decide +kernel, rfl, ⟨by decide +kernel, by decide +kernel⟩, am_ig (i := 80) (by decide +kernel) rfl, by decide⟩
theorem am_mp_194 : am_MPr (yJ0_length_8abf5, cJ0_length_8abf5, 1, some .int, 13) := ⟨am_ig (i := 455) (by decide +kernel) rfl, by decide +kernel, rfl, ⟨by decide +kernel, by decide +kernel⟩, am_ig (i := 80) (by decide +kernel) rfl, by decide⟩
theorem am_mp_195 : am_MPr (yJ0_coder_7d493, cJ0_coder_7d493, 1, some .byte, 13) := ⟨am_ig (i := 459) (by decide +kernel) rfl, by decide +kernel, rfl, ⟨by decide +kernel, by decide +kernel⟩, am_ig (i := 80) (by decide +kernel) rfl, by decide⟩
theorem am_mp_196 : am_MPr (yJ1_canEncode_9a6ad, cJ1_canEncode_9a6ad, 1, some .boolean, 14) := ⟨am_ig (i := 465) (by decide +kernel) rfl, by decide +kernel, rfl, ⟨by decide +kernel, by decide +kernel⟩, am_ig (i := 81) (by decide +kernel) rfl, by decide⟩
theorem am_mp_197 : am_MPr (yJ1_indexOf_4cfef, cJ1_indexOf_4cfef, 4, some .int, 14) := ⟨am_ig (i := 462) (by decide +kernel) rfl, by decide +kernel, rfl, ⟨by decide +kernel, by decide +kernel⟩, am_ig (i := 81) (by decide +kernel) rfl, by decide⟩
theorem am_mp_198 : am_MPr (yJ1_indexOfChar_4cfef, cJ1_indexOfChar_4cfef, 6, some .int, 14) := ⟨am_ig (i := 472) (by decide +kernel) rfl, by decide +kernel, rfl, ⟨by decide +kernel, by decide +kernel⟩, am_ig (i := 81) (by decide +kernel) rfl, by decide⟩
set_option maxRecDepth 100000 in
theorem am_mpA : ∀ q ∈ am_MI, am_MPr q := by
  unfold am_MI
  exact List.forall_mem_cons.mpr ⟨am_mp_0, List.forall_mem_cons.mpr ⟨am_mp_1, List.forall_mem_cons.mpr ⟨am_mp_2, List.forall_mem_cons.mpr ⟨am_mp_3, List.forall_mem_cons.mpr ⟨am_mp_4, List.forall_mem_cons.mpr ⟨am_mp_5, List.forall_mem_cons.mpr ⟨am_mp_6, List.forall_mem_cons.mpr ⟨am_mp_7, List.forall_mem_cons.mpr ⟨am_mp_8, List.forall_mem_cons.mpr ⟨am_mp_9, List.forall_mem_cons.mpr ⟨am_mp_10, List.forall_mem_cons.mpr ⟨am_mp_11, List.forall_mem_cons.mpr ⟨am_mp_12, List.forall_mem_cons.mpr ⟨am_mp_13, List.forall_mem_cons.mpr ⟨am_mp_14, List.forall_mem_cons.mpr ⟨am_mp_15, List.forall_mem_cons.mpr ⟨am_mp_16, List.forall_mem_cons.mpr ⟨am_mp_17, List.forall_mem_cons.mpr ⟨am_mp_18, List.forall_mem_cons.mpr ⟨am_mp_19, List.forall_mem_cons.mpr ⟨am_mp_20, List.forall_mem_cons.mpr ⟨am_mp_21, List.forall_mem_cons.mpr ⟨am_mp_22, List.forall_mem_cons.mpr ⟨am_mp_23, List.forall_mem_cons.mpr ⟨am_mp_24, List.forall_mem_cons.mpr ⟨am_mp_25, List.forall_mem_cons.mpr ⟨am_mp_26, List.forall_mem_cons.mpr ⟨am_mp_27, List.forall_mem_cons.mpr ⟨am_mp_28, List.forall_mem_cons.mpr ⟨am_mp_29, List.forall_mem_cons.mpr ⟨am_mp_30, List.forall_mem_cons.mpr ⟨am_mp_31, List.forall_mem_cons.mpr ⟨am_mp_32, List.forall_mem_cons.mpr ⟨am_mp_33, List.forall_mem_cons.mpr ⟨am_mp_34, List.forall_mem_cons.mpr ⟨am_mp_35, List.forall_mem_cons.mpr ⟨am_mp_36, List.forall_mem_cons.mpr ⟨am_mp_37, List.forall_mem_cons.mpr ⟨am_mp_38, List.forall_mem_cons.mpr ⟨am_mp_39, List.forall_mem_cons.mpr ⟨am_mp_40, List.forall_mem_cons.mpr ⟨am_mp_41, List.forall_mem_cons.mpr ⟨am_mp_42, List.forall_mem_cons.mpr ⟨am_mp_43, List.forall_mem_cons.mpr ⟨am_mp_44, List.forall_mem_cons.mpr ⟨am_mp_45, List.forall_mem_cons.mpr ⟨am_mp_46, List.forall_mem_cons.mpr ⟨am_mp_47, List.forall_mem_cons.mpr ⟨am_mp_48, List.forall_mem_cons.mpr ⟨am_mp_49, List.forall_mem_cons.mpr ⟨am_mp_50, List.forall_mem_cons.mpr ⟨am_mp_51, List.forall_mem_cons.mpr ⟨am_mp_52, List.forall_mem_cons.mpr ⟨am_mp_53, List.forall_mem_cons.mpr ⟨am_mp_54, List.forall_mem_cons.mpr ⟨am_mp_55, List.forall_mem_cons.mpr ⟨am_mp_56, List.forall_mem_cons.mpr ⟨am_mp_57, List.forall_mem_cons.mpr ⟨am_mp_58, List.forall_mem_cons.mpr ⟨am_mp_59, List.forall_mem_cons.mpr ⟨am_mp_60, List.forall_mem_cons.mpr ⟨am_mp_61, List.forall_mem_cons.mpr ⟨am_mp_62, List.forall_mem_cons.mpr ⟨am_mp_63, List.forall_mem_cons.mpr ⟨am_mp_64, List.forall_mem_cons.mpr ⟨am_mp_65, List.forall_mem_cons.mpr ⟨am_mp_66, List.forall_mem_cons.mpr ⟨am_mp_67, List.forall_mem_cons.mpr ⟨am_mp_68, List.forall_mem_cons.mpr ⟨am_mp_69, List.forall_mem_cons.mpr ⟨am_mp_70, List.forall_mem_cons.mpr ⟨am_mp_71, List.forall_mem_cons.mpr ⟨am_mp_72, List.forall_mem_cons.mpr ⟨am_mp_73, List.forall_mem_cons.mpr ⟨am_mp_74, List.forall_mem_cons.mpr ⟨am_mp_75, List.forall_mem_cons.mpr ⟨am_mp_76, List.forall_mem_cons.mpr ⟨am_mp_77, List.forall_mem_cons.mpr ⟨am_mp_78, List.forall_mem_cons.mpr ⟨am_mp_79, List.forall_mem_cons.mpr ⟨am_mp_80, List.forall_mem_cons.mpr ⟨am_mp_81, List.forall_mem_cons.mpr ⟨am_mp_82, List.forall_mem_cons.mpr ⟨am_mp_83, List.forall_mem_cons.mpr ⟨am_mp_84, List.forall_mem_cons.mpr ⟨am_mp_85, List.forall_mem_cons.mpr ⟨am_mp_86, List.forall_mem_cons.mpr ⟨am_mp_87, List.forall_mem_cons.mpr ⟨am_mp_88, List.forall_mem_cons.mpr ⟨am_mp_89, List.forall_mem_cons.mpr ⟨am_mp_90, List.forall_mem_cons.mpr ⟨am_mp_91, List.forall_mem_cons.mpr ⟨am_mp_92, List.forall_mem_cons.mpr ⟨am_mp_93, List.forall_mem_cons.mpr ⟨am_mp_94, List.forall_mem_cons.mpr ⟨am_mp_95, List.forall_mem_cons.mpr ⟨am_mp_96, List.forall_mem_cons.mpr ⟨am_mp_97, List.forall_mem_cons.mpr ⟨am_mp_98, List.forall_mem_cons.mpr ⟨am_mp_99, List.forall_mem_cons.mpr ⟨am_mp_100, List.forall_mem_cons.mpr ⟨am_mp_101, List.forall_mem_cons.mpr ⟨am_mp_102, List.forall_mem_cons.mpr ⟨am_mp_103, List.forall_mem_cons.mpr ⟨am_mp_104, List.forall_mem_cons.mpr ⟨am_mp_105, List.forall_mem_cons.mpr ⟨am_mp_106, List.forall_mem_cons.mpr ⟨am_mp_107, List.forall_mem_cons.mpr ⟨am_mp_108, List.forall_mem_cons.mpr ⟨am_mp_109, List.forall_mem_cons.mpr ⟨am_mp_110, List.forall_mem_cons.mpr ⟨am_mp_111, List.forall_mem_cons.mpr ⟨am_mp_112, List.forall_mem_cons.mpr ⟨am_mp_113, List.forall_mem_cons.mpr ⟨am_mp_114, List.forall_mem_cons.mpr ⟨am_mp_115, List.forall_mem_cons.mpr ⟨am_mp_116, List.forall_mem_cons.mpr ⟨am_mp_117, List.forall_mem_cons.mpr ⟨am_mp_118, List.forall_mem_cons.mpr ⟨am_mp_119, List.forall_mem_cons.mpr ⟨am_mp_120, List.forall_mem_cons.mpr ⟨am_mp_121, List.forall_mem_cons.mpr ⟨am_mp_122, List.forall_mem_cons.mpr ⟨am_mp_123, List.forall_mem_cons.mpr ⟨am_mp_124, List.forall_mem_cons.mpr ⟨am_mp_125, List.forall_mem_cons.mpr ⟨am_mp_126, List.forall_mem_cons.mpr ⟨am_mp_127, List.forall_mem_cons.mpr ⟨am_mp_128, List.forall_mem_cons.mpr ⟨am_mp_129, List.forall_mem_cons.mpr ⟨am_mp_130, List.forall_mem_cons.mpr ⟨am_mp_131, List.forall_mem_cons.mpr ⟨am_mp_132, List.forall_mem_cons.mpr ⟨am_mp_133, List.forall_mem_cons.mpr ⟨am_mp_134, List.forall_mem_cons.mpr ⟨am_mp_135, List.forall_mem_cons.mpr ⟨am_mp_136, List.forall_mem_cons.mpr ⟨am_mp_137, List.forall_mem_cons.mpr ⟨am_mp_138, List.forall_mem_cons.mpr ⟨am_mp_139, List.forall_mem_cons.mpr ⟨am_mp_140, List.forall_mem_cons.mpr ⟨am_mp_141, List.forall_mem_cons.mpr ⟨am_mp_142, List.forall_mem_cons.mpr ⟨am_mp_143, List.forall_mem_cons.mpr ⟨am_mp_144, List.forall_mem_cons.mpr ⟨am_mp_145, List.forall_mem_cons.mpr ⟨am_mp_146, List.forall_mem_cons.mpr ⟨am_mp_147, List.forall_mem_cons.mpr ⟨am_mp_148, List.forall_mem_cons.mpr ⟨am_mp_149, List.forall_mem_cons.mpr ⟨am_mp_150, List.forall_mem_cons.mpr ⟨am_mp_151, List.forall_mem_cons.mpr ⟨am_mp_152, List.forall_mem_cons.mpr ⟨am_mp_153, List.forall_mem_cons.mpr ⟨am_mp_154, List.forall_mem_cons.mpr ⟨am_mp_155, List.forall_mem_cons.mpr ⟨am_mp_156, List.forall_mem_cons.mpr ⟨am_mp_157, List.forall_mem_cons.mpr ⟨am_mp_158, List.forall_mem_cons.mpr ⟨am_mp_159, List.forall_mem_cons.mpr ⟨am_mp_160, List.forall_mem_cons.mpr ⟨am_mp_161, List.forall_mem_cons.mpr ⟨am_mp_162, List.forall_mem_cons.mpr ⟨am_mp_163, List.forall_mem_cons.mpr ⟨am_mp_164, List.forall_mem_cons.mpr ⟨am_mp_165, List.forall_mem_cons.mpr ⟨am_mp_166, List.forall_mem_cons.mpr ⟨am_mp_167, List.forall_mem_cons.mpr ⟨am_mp_168, List.forall_mem_cons.mpr ⟨am_mp_169, List.forall_mem_cons.mpr ⟨am_mp_170, List.forall_mem_cons.mpr ⟨am_mp_171, List.forall_mem_cons.mpr ⟨am_mp_172, List.forall_mem_cons.mpr ⟨am_mp_173, List.forall_mem_cons.mpr ⟨am_mp_174, List.forall_mem_cons.mpr ⟨am_mp_175, List.forall_mem_cons.mpr ⟨am_mp_176, List.forall_mem_cons.mpr ⟨am_mp_177, List.forall_mem_cons.mpr ⟨am_mp_178, List.forall_mem_cons.mpr ⟨am_mp_179, List.forall_mem_cons.mpr ⟨am_mp_180, List.forall_mem_cons.mpr ⟨am_mp_181, List.forall_mem_cons.mpr ⟨am_mp_182, List.forall_mem_cons.mpr ⟨am_mp_183, List.forall_mem_cons.mpr ⟨am_mp_184, List.forall_mem_cons.mpr ⟨am_mp_185, List.forall_mem_cons.mpr ⟨am_mp_186, List.forall_mem_cons.mpr ⟨am_mp_187, List.forall_mem_cons.mpr ⟨am_mp_188, List.forall_mem_cons.mpr ⟨am_mp_189, List.forall_mem_cons.mpr ⟨am_mp_190, List.forall_mem_cons.mpr ⟨am_mp_191, List.forall_mem_cons.mpr ⟨am_mp_192, List.forall_mem_cons.mpr ⟨am_mp_193, List.forall_mem_cons.mpr ⟨am_mp_194, List.forall_mem_cons.mpr ⟨am_mp_195, List.forall_mem_cons.mpr ⟨am_mp_196, List.forall_mem_cons.mpr ⟨am_mp_197, List.forall_mem_cons.mpr ⟨am_mp_198, fun _ h => absurd h List.not_mem_nil⟩⟩⟩⟩⟩⟩⟩⟩⟩⟩⟩⟩⟩⟩⟩⟩⟩⟩⟩⟩⟩⟩⟩⟩⟩⟩⟩⟩⟩⟩⟩⟩⟩⟩⟩⟩⟩⟩⟩⟩⟩⟩⟩⟩⟩⟩⟩⟩⟩⟩⟩⟩⟩⟩⟩⟩⟩⟩⟩⟩⟩⟩⟩⟩⟩⟩⟩⟩⟩⟩⟩⟩⟩⟩⟩⟩⟩⟩⟩⟩⟩⟩⟩⟩⟩⟩⟩⟩⟩⟩⟩⟩⟩⟩⟩⟩⟩⟩⟩⟩⟩⟩⟩⟩⟩⟩⟩⟩⟩⟩⟩⟩⟩⟩⟩⟩⟩⟩⟩⟩⟩⟩⟩⟩⟩⟩⟩⟩⟩⟩⟩⟩⟩⟩⟩⟩⟩⟩⟩⟩⟩⟩⟩⟩⟩⟩⟩⟩⟩⟩⟩⟩⟩⟩⟩⟩⟩⟩⟩⟩⟩⟩⟩⟩⟩⟩⟩⟩⟩⟩⟩⟩⟩⟩⟩⟩⟩⟩⟩⟩⟩⟩⟩⟩⟩⟩⟩⟩⟩⟩⟩⟩⟩⟩⟩⟩⟩⟩⟩
end
section
def am_CPr (o : Nat) (q : Nat × Nat × Nat × Nat × Bool) : Prop := (q.2.1 < 199 → (q.2.2.2.2 = false → Cond.methodLink (am_cn o) q.1 (am_y q.2.1) ∈ am_GT) ∧ (q.2.2.2.2 = true → Cond.methodLinkNest (am_cn o) q.1 (am_y q.2.1) "DeadLasts" ∈ tables_1) ∧ (parseMethodDescriptor (am_y q.2.1).desc).map (fun d => d.parameters.length) = some q.2.2.1 ∧ (q.2.2.2.1 = 0 → Cond.instanceMethod (am_y q.2.1) ∈ am_GT ∧ Cond.selects (am_y q.2.1).cls (am_y q.2.1) (am_y q.2.1) ∈ am_GT) ∧ (q.2.2.2.1 = 1 → Cond.static (am_y q.2.1) ∈ am_GT)) ∧ (q.2.1 = 1000 → Cond.methodLink (am_cn o) q.1 Lib.Math.min.name ∈ am_GT) ∧ (q.2.1 = 1001 → Cond.methodLink (am_cn o) q.1 Lib.Math.max.name ∈ am_GT) ∧ (q.2.1 = 1002 → Cond.methodLink (am_cn o) q.1 arraycopyName ∈ am_GT) ∧ (q.2.1 < 199 ∨ 1000 ≤ q.2.1)
theorem am_cp_0_30 : am_CPr 0 (30, 27, 1, 0, false) := ⟨fun _ => ⟨fun _ => am_ig (i := 539) (by decide +kernel) rfl, fun h => absurd h (by decide), by decide +kernel, fun _ => ⟨am_ig (i := 425) (by decide +kernel) rfl, am_ig (i := 426) (by decide +kernel) rfl⟩, fun h => absurd h (by decide)⟩, fun h => absurd h (by decide), fun h => absurd h (by decide), fun h => absurd h (by decide), Or.inl (by decide)⟩
theorem am_cp_0_34 : am_CPr 0 (34, 1, 1, 0, false) := ⟨fun _ => ⟨fun _ => am_ig (i := 540) (by decide +kernel) rfl, fun h => absurd h (by decide), by decide +kernel, fun _ => ⟨am_ig (i := 542) (by decide +kernel) rfl, am_ig (i := 6) (by decide +kernel) rfl⟩, fun h => absurd h (by decide)⟩, fun h => absurd h (by decide), fun h => absurd h (by decide), fun h => absurd h (by decide), Or.inl (by decide)⟩
theorem am_cp_0_38 : am_CPr 0 (38, 2, 1, 0, false) := ⟨fun _ => ⟨fun _ => am_ig (i := 546) (by decide +kernel) rfl, fun h => absurd h (by decide), by decide +kernel, fun _ => ⟨am_ig (i := 548) (by decide +kernel) rfl, am_ig (i := 7) (by decide +kernel) rfl⟩, fun h => absurd h (by decide)⟩, fun h => absurd h (by decide), fun h => absurd h (by decide), fun h => absurd h (by decide), Or.inl (by decide)⟩
theorem am_cp_0_41 : am_CPr 0 (41, 3, 1, 0, false) := ⟨fun _ => ⟨fun _ => am_ig (i := 551) (by decide +kernel) rfl, fun h => absurd h (by decide), by decide +kernel, fun _ => ⟨am_ig (i := 553) (by decide +kernel) rfl, am_ig (i := 8) (by decide +kernel) rfl⟩, fun h => absurd h (by decide)⟩, fun h => absurd h (by decide), fun h => absurd h (by decide), fun h => absurd h (by decide), Or.inl (by decide)⟩
theorem am_cp_0_47 : am_CPr 0 (47, 191, 1, 0, false) := ⟨fun _ => ⟨fun _ => am_ig (i := 545) (by decide +kernel) rfl, fun h => absurd h (by decide), by decide +kernel, fun _ => ⟨am_ig (i := 439) (by decide +kernel) rfl, am_ig (i := 440) (by decide +kernel) rfl⟩, fun h => absurd h (by decide)⟩, fun h => absurd h (by decide), fun h => absurd h (by decide), fun h => absurd h (by decide), Or.inl (by decide)⟩
theorem am_cpA_0 : ∀ q ∈ am_MTL.getD 0 [], am_CPr 0 q := by
  show ∀ q ∈ [(30, 27, 1, 0, false), (34, 1, 1, 0, false), (38, 2, 1, 0, false), (41, 3, 1, 0, false), (47, 191, 1, 0, false)], am_CPr 0 q
  exact List.forall_mem_cons.mpr ⟨am_cp_0_30, List.forall_mem_cons.mpr ⟨am_cp_0_34, List.forall_mem_cons.mpr ⟨am_cp_0_38, List.forall_mem_cons.mpr ⟨am_cp_0_41, List.forall_mem_cons.mpr ⟨am_cp_0_47, fun _ h => absurd h List.not_mem_nil⟩⟩⟩⟩⟩
theorem am_cp_1_22 : am_CPr 1 (22, 9, 2, 0, false) := ⟨fun _ => ⟨fun _ => am_ig (i := 757) (by decide +kernel) rfl, fun h => absurd h (by decide), by decide +kernel, fun _ => ⟨am_ig (i := 759) (by decide +kernel) rfl, am_ig (i := 15) (by decide +kernel) rfl⟩, fun h => absurd h (by decide)⟩, fun h => absurd h (by decide), fun h => absurd h (by decide), fun h => absurd h (by decide), Or.inl (by decide)⟩
theorem am_cp_1_26 : am_CPr 1 (26, 81, 2, 1, true) := ⟨fun _ => ⟨fun h => absurd h (by decide), fun _ => List.mem_of_getElem? (i := 696) (by decide +kernel), by decide +kernel, fun h => absurd h (by decide), fun _ => am_ig (i := 669) (by decide +kernel) rfl⟩, fun h => absurd h (by decide), fun h => absurd h (by decide), fun h => absurd h (by decide), Or.inl (by decide)⟩
theorem am_cpA_1 : ∀ q ∈ am_MTL.getD 1 [], am_CPr 1 q := by
  show ∀ q ∈ [(22, 9, 2, 0, false), (26, 81, 2, 1, true)], am_CPr 1 q
  exact List.forall_mem_cons.mpr ⟨am_cp_1_22, List.forall_mem_cons.mpr ⟨am_cp_1_26, fun _ h => absurd h List.not_mem_nil⟩⟩
theorem am_cp_2_24 : am_CPr 2 (24, 27, 1, 0, false) := ⟨fun _ => ⟨fun _ => am_ig (i := 559) (by decide +kernel) rfl, fun h => absurd h (by decide), by decide +kernel, fun _ => ⟨am_ig (i := 425) (by decide +kernel) rfl, am_ig (i := 426) (by decide +kernel) rfl⟩, fun h => absurd h (by decide)⟩, fun h => absurd h (by decide), fun h => absurd h (by decide), fun h => absurd h (by decide), Or.inl (by decide)⟩
theorem am_cp_2_28 : am_CPr 2 (28, 11, 2, 1, false) := ⟨fun _ => ⟨fun _ => am_ig (i := 560) (by decide +kernel) rfl, fun h => absurd h (by decide), by decide +kernel, fun h => absurd h (by decide), fun _ => am_ig (i := 561) (by decide +kernel) rfl⟩, fun h => absurd h (by decide), fun h => absurd h (by decide), fun h => absurd h (by decide), Or.inl (by decide)⟩
theorem am_cp_2_32 : am_CPr 2 (32, 1000, 2, 1, false) := ⟨fun h => absurd h (by decide), fun _ => am_ig (i := 567) (by decide +kernel) rfl, fun h => absurd h (by decide), fun h => absurd h (by decide), Or.inr (by decide)⟩
theorem am_cp_2_38 : am_CPr 2 (38, 12, 3, 0, false) := ⟨fun _ => ⟨fun _ => am_ig (i := 568) (by decide +kernel) rfl, fun h => absurd h (by decide), by decide +kernel, fun _ => ⟨am_ig (i := 570) (by decide +kernel) rfl, am_ig (i := 9) (by decide +kernel) rfl⟩, fun h => absurd h (by decide)⟩, fun h => absurd h (by decide), fun h => absurd h (by decide), fun h => absurd h (by decide), Or.inl (by decide)⟩
theorem am_cp_2_44 : am_CPr 2 (44, 191, 1, 0, false) := ⟨fun _ => ⟨fun _ => am_ig (i := 564) (by decide +kernel) rfl, fun h => absurd h (by decide), by decide +kernel, fun _ => ⟨am_ig (i := 439) (by decide +kernel) rfl, am_ig (i := 440) (by decide +kernel) rfl⟩, fun h => absurd h (by decide)⟩, fun h => absurd h (by decide), fun h => absurd h (by decide), fun h => absurd h (by decide), Or.inl (by decide)⟩
theorem am_cpA_2 : ∀ q ∈ am_MTL.getD 2 [], am_CPr 2 q := by
  show ∀ q ∈ [(24, 27, 1, 0, false), (28, 11, 2, 1, false), (32, 1000, 2, 1, false), (38, 12, 3, 0, false), (44, 191, 1, 0, false)], am_CPr 2 q
  exact List.forall_mem_cons.mpr ⟨am_cp_2_24, List.forall_mem_cons.mpr ⟨am_cp_2_28, List.forall_mem_cons.mpr ⟨am_cp_2_32, List.forall_mem_cons.mpr ⟨am_cp_2_38, List.forall_mem_cons.mpr ⟨am_cp_2_44, fun _ h => absurd h List.not_mem_nil⟩⟩⟩⟩⟩
theorem am_cpA_3 : ∀ q ∈ am_MTL.getD 3 [], am_CPr 3 q := by
  show ∀ q ∈ [], am_CPr 3 q
  exact  fun _ h => absurd h List.not_mem_nil
theorem am_cp_4_22 : am_CPr 4 (22, 16, 0, 0, false) := ⟨fun _ => ⟨fun _ => am_ig (i := 874) (by decide +kernel) rfl, fun h => absurd h (by decide), by decide +kernel, fun _ => ⟨am_ig (i := 630) (by decide +kernel) rfl, am_ig (i := 631) (by decide +kernel) rfl⟩, fun h => absurd h (by decide)⟩, fun h => absurd h (by decide), fun h => absurd h (by decide), fun h => absurd h (by decide), Or.inl (by decide)⟩
theorem am_cp_4_26 : am_CPr 4 (26, 80, 2, 1, true) := ⟨fun _ => ⟨fun h => absurd h (by decide), fun _ => List.mem_of_getElem? (i := 810) (by decide +kernel), by decide +kernel, fun h => absurd h (by decide), fun _ => am_ig (i := 410) (by decide +kernel) rfl⟩, fun h => absurd h (by decide), fun h => absurd h (by decide), fun h => absurd h (by decide), Or.inl (by decide)⟩
theorem am_cpA_4 : ∀ q ∈ am_MTL.getD 4 [], am_CPr 4 q := by
  show ∀ q ∈ [(22, 16, 0, 0, false), (26, 80, 2, 1, true)], am_CPr 4 q
  exact List.forall_mem_cons.mpr ⟨am_cp_4_22, List.forall_mem_cons.mpr ⟨am_cp_4_26, fun _ h => absurd h List.not_mem_nil⟩⟩
theorem am_cp_5_27 : am_CPr 5 (27, 38, 2, 0, false) := ⟨fun _ => ⟨fun _ => am_ig (i := 802) (by decide +kernel) rfl, fun h => absurd h (by decide), by decide +kernel, fun _ => ⟨am_ig (i := 686) (by decide +kernel) rfl, am_ig (i := 687) (by decide +kernel) rfl⟩, fun h => absurd h (by decide)⟩, fun h => absurd h (by decide), fun h => absurd h (by decide), fun h => absurd h (by decide), Or.inl (by decide)⟩
theorem am_cpA_5 : ∀ q ∈ am_MTL.getD 5 [], am_CPr 5 q := by
  show ∀ q ∈ [(27, 38, 2, 0, false)], am_CPr 5 q
  exact List.forall_mem_cons.mpr ⟨am_cp_5_27, fun _ h => absurd h List.not_mem_nil⟩
theorem am_cp_6_24 : am_CPr 6 (24, 1000, 2, 1, false) := ⟨fun h => absurd h (by decide), fun _ => am_ig (i := 834) (by decide +kernel) rfl, fun h => absurd h (by decide), fun h => absurd h (by decide), Or.inr (by decide)⟩
theorem am_cp_6_36 : am_CPr 6 (36, 40, 2, 0, false) := ⟨fun _ => ⟨fun _ => am_ig (i := 835) (by decide +kernel) rfl, fun h => absurd h (by decide), by decide +kernel, fun _ => ⟨am_ig (i := 650) (by decide +kernel) rfl, am_ig (i := 651) (by decide +kernel) rfl⟩, fun h => absurd h (by decide)⟩, fun h => absurd h (by decide), fun h => absurd h (by decide), fun h => absurd h (by decide), Or.inl (by decide)⟩
theorem am_cp_6_40 : am_CPr 6 (40, 42, 0, 0, false) := ⟨fun _ => ⟨fun _ => am_ig (i := 836) (by decide +kernel) rfl, fun h => absurd h (by decide), by decide +kernel, fun _ => ⟨am_ig (i := 659) (by decide +kernel) rfl, am_ig (i := 660) (by decide +kernel) rfl⟩, fun h => absurd h (by decide)⟩, fun h => absurd h (by decide), fun h => absurd h (by decide), fun h => absurd h (by decide), Or.inl (by decide)⟩
theorem am_cp_6_43 : am_CPr 6 (43, 25, 2, 0, false) := ⟨fun _ => ⟨fun _ => am_ig (i := 837) (by decide +kernel) rfl, fun h => absurd h (by decide), by decide +kernel, fun _ => ⟨am_ig (i := 839) (by decide +kernel) rfl, am_ig (i := 22) (by decide +kernel) rfl⟩, fun h => absurd h (by decide)⟩, fun h => absurd h (by decide), fun h => absurd h (by decide), fun h => absurd h (by decide), Or.inl (by decide)⟩
theorem am_cp_6_54 : am_CPr 6 (54, 43, 2, 0, false) := ⟨fun _ => ⟨fun _ => am_ig (i := 841) (by decide +kernel) rfl, fun h => absurd h (by decide), by decide +kernel, fun _ => ⟨am_ig (i := 672) (by decide +kernel) rfl, am_ig (i := 673) (by decide +kernel) rfl⟩, fun h => absurd h (by decide)⟩, fun h => absurd h (by decide), fun h => absurd h (by decide), fun h => absurd h (by decide), Or.inl (by decide)⟩
theorem am_cp_6_58 : am_CPr 6 (58, 41, 1, 0, false) := ⟨fun _ => ⟨fun _ => am_ig (i := 842) (by decide +kernel) rfl, fun h => absurd h (by decide), by decide +kernel, fun _ => ⟨am_ig (i := 843) (by decide +kernel) rfl, am_ig (i := 844) (by decide +kernel) rfl⟩, fun h => absurd h (by decide)⟩, fun h => absurd h (by decide), fun h => absurd h (by decide), fun h => absurd h (by decide), Or.inl (by decide)⟩
theorem am_cpA_6 : ∀ q ∈ am_MTL.getD 6 [], am_CPr 6 q := by
  show ∀ q ∈ [(24, 1000, 2, 1, false), (36, 40, 2, 0, false), (40, 42, 0, 0, false), (43, 25, 2, 0, false), (54, 43, 2, 0, false), (58, 41, 1, 0, false)], am_CPr 6 q
  exact List.forall_mem_cons.mpr ⟨am_cp_6_24, List.forall_mem_cons.mpr ⟨am_cp_6_36, List.forall_mem_cons.mpr ⟨am_cp_6_40, List.forall_mem_cons.mpr ⟨am_cp_6_43, List.forall_mem_cons.mpr ⟨am_cp_6_54, List.forall_mem_cons.mpr ⟨am_cp_6_58, fun _ h => absurd h List.not_mem_nil⟩⟩⟩⟩⟩⟩
theorem am_cp_7_28 : am_CPr 7 (28, 80, 2, 1, true) := ⟨fun _ => ⟨fun h => absurd h (by decide), fun _ => List.mem_of_getElem? (i := 363) (by decide +kernel), by decide +kernel, fun h => absurd h (by decide), fun _ => am_ig (i := 410) (by decide +kernel) rfl⟩, fun h => absurd h (by decide), fun h => absurd h (by decide), fun h => absurd h (by decide), Or.inl (by decide)⟩
theorem am_cpA_7 : ∀ q ∈ am_MTL.getD 7 [], am_CPr 7 q := by
  show ∀ q ∈ [(28, 80, 2, 1, true)], am_CPr 7 q
  exact List.forall_mem_cons.mpr ⟨am_cp_7_28, fun _ h => absurd h List.not_mem_nil⟩
theorem am_cp_8_30 : am_CPr 8 (30, 27, 1, 0, false) := ⟨fun _ => ⟨fun _ => am_ig (i := 424) (by decide +kernel) rfl, fun h => absurd h (by decide), by decide +kernel, fun _ => ⟨am_ig (i := 425) (by decide +kernel) rfl, am_ig (i := 426) (by decide +kernel) rfl⟩, fun h => absurd h (by decide)⟩, fun h => absurd h (by decide), fun h => absurd h (by decide), fun h => absurd h (by decide), Or.inl (by decide)⟩
theorem am_cp_8_34 : am_CPr 8 (34, 29, 3, 0, false) := ⟨fun _ => ⟨fun _ => am_ig (i := 429) (by decide +kernel) rfl, fun h => absurd h (by decide), by decide +kernel, fun _ => ⟨am_ig (i := 431) (by decide +kernel) rfl, am_ig (i := 1) (by decide +kernel) rfl⟩, fun h => absurd h (by decide)⟩, fun h => absurd h (by decide), fun h => absurd h (by decide), fun h => absurd h (by decide), Or.inl (by decide)⟩
theorem am_cp_8_38 : am_CPr 8 (38, 31, 1, 0, false) := ⟨fun _ => ⟨fun _ => am_ig (i := 522) (by decide +kernel) rfl, fun h => absurd h (by decide), by decide +kernel, fun _ => ⟨am_ig (i := 524) (by decide +kernel) rfl, am_ig (i := 3) (by decide +kernel) rfl⟩, fun h => absurd h (by decide)⟩, fun h => absurd h (by decide), fun h => absurd h (by decide), fun h => absurd h (by decide), Or.inl (by decide)⟩
theorem am_cp_8_44 : am_CPr 8 (44, 191, 1, 0, false) := ⟨fun _ => ⟨fun _ => am_ig (i := 438) (by decide +kernel) rfl, fun h => absurd h (by decide), by decide +kernel, fun _ => ⟨am_ig (i := 439) (by decide +kernel) rfl, am_ig (i := 440) (by decide +kernel) rfl⟩, fun h => absurd h (by decide)⟩, fun h => absurd h (by decide), fun h => absurd h (by decide), fun h => absurd h (by decide), Or.inl (by decide)⟩
theorem am_cp_8_49 : am_CPr 8 (49, 30, 1, 0, false) := ⟨fun _ => ⟨fun _ => am_ig (i := 433) (by decide +kernel) rfl, fun h => absurd h (by decide), by decide +kernel, fun _ => ⟨am_ig (i := 435) (by decide +kernel) rfl, am_ig (i := 2) (by decide +kernel) rfl⟩, fun h => absurd h (by decide)⟩, fun h => absurd h (by decide), fun h => absurd h (by decide), fun h => absurd h (by decide), Or.inl (by decide)⟩
theorem am_cp_8_53 : am_CPr 8 (53, 32, 0, 0, false) := ⟨fun _ => ⟨fun _ => am_ig (i := 526) (by decide +kernel) rfl, fun h => absurd h (by decide), by decide +kernel, fun _ => ⟨am_ig (i := 528) (by decide +kernel) rfl, am_ig (i := 4) (by decide +kernel) rfl⟩, fun h => absurd h (by decide)⟩, fun h => absurd h (by decide), fun h => absurd h (by decide), fun h => absurd h (by decide), Or.inl (by decide)⟩
theorem am_cp_8_56 : am_CPr 8 (56, 33, 2, 0, false) := ⟨fun _ => ⟨fun _ => am_ig (i := 530) (by decide +kernel) rfl, fun h => absurd h (by decide), by decide +kernel, fun _ => ⟨am_ig (i := 532) (by decide +kernel) rfl, am_ig (i := 5) (by decide +kernel) rfl⟩, fun h => absurd h (by decide)⟩, fun h => absurd h (by decide), fun h => absurd h (by decide), fun h => absurd h (by decide), Or.inl (by decide)⟩
theorem am_cp_8_60 : am_CPr 8 (60, 80, 2, 1, true) := ⟨fun _ => ⟨fun h => absurd h (by decide), fun _ => List.mem_of_getElem? (i := 469) (by decide +kernel), by decide +kernel, fun h => absurd h (by decide), fun _ => am_ig (i := 410) (by decide +kernel) rfl⟩, fun h => absurd h (by decide), fun h => absurd h (by decide), fun h => absurd h (by decide), Or.inl (by decide)⟩
theorem am_cpA_8 : ∀ q ∈ am_MTL.getD 8 [], am_CPr 8 q := by
  show ∀ q ∈ [(30, 27, 1, 0, false), (34, 29, 3, 0, false), (38, 31, 1, 0, false), (44, 191, 1, 0, false), (49, 30, 1, 0, false), (53, 32, 0, 0, false), (56, 33, 2, 0, false), (60, 80, 2, 1, true)], am_CPr 8 q
  exact List.forall_mem_cons.mpr ⟨am_cp_8_30, List.forall_mem_cons.mpr ⟨am_cp_8_34, List.forall_mem_cons.mpr ⟨am_cp_8_38, List.forall_mem_cons.mpr ⟨am_cp_8_44, List.forall_mem_cons.mpr ⟨am_cp_8_49, List.forall_mem_cons.mpr ⟨am_cp_8_53, List.forall_mem_cons.mpr ⟨am_cp_8_56, List.forall_mem_cons.mpr ⟨am_cp_8_60, fun _ h => absurd h List.not_mem_nil⟩⟩⟩⟩⟩⟩⟩⟩
theorem am_cp_9_15 : am_CPr 9 (15, 42, 0, 0, false) := ⟨fun _ => ⟨fun _ => am_ig (i := 658) (by decide +kernel) rfl, fun h => absurd h (by decide), by decide +kernel, fun _ => ⟨am_ig (i := 659) (by decide +kernel) rfl, am_ig (i := 660) (by decide +kernel) rfl⟩, fun h => absurd h (by decide)⟩, fun h => absurd h (by decide), fun h => absurd h (by decide), fun h => absurd h (by decide), Or.inl (by decide)⟩
theorem am_cp_9_27 : am_CPr 9 (27, 81, 2, 1, true) := ⟨fun _ => ⟨fun h => absurd h (by decide), fun _ => List.mem_of_getElem? (i := 603) (by decide +kernel), by decide +kernel, fun h => absurd h (by decide), fun _ => am_ig (i := 669) (by decide +kernel) rfl⟩, fun h => absurd h (by decide), fun h => absurd h (by decide), fun h => absurd h (by decide), Or.inl (by decide)⟩
theorem am_cp_9_31 : am_CPr 9 (31, 43, 2, 0, false) := ⟨fun _ => ⟨fun _ => am_ig (i := 671) (by decide +kernel) rfl, fun h => absurd h (by decide), by decide +kernel, fun _ => ⟨am_ig (i := 672) (by decide +kernel) rfl, am_ig (i := 673) (by decide +kernel) rfl⟩, fun h => absurd h (by decide)⟩, fun h => absurd h (by decide), fun h => absurd h (by decide), fun h => absurd h (by decide), Or.inl (by decide)⟩
theorem am_cp_9_47 : am_CPr 9 (47, 38, 2, 0, false) := ⟨fun _ => ⟨fun _ => am_ig (i := 716) (by decide +kernel) rfl, fun h => absurd h (by decide), by decide +kernel, fun _ => ⟨am_ig (i := 686) (by decide +kernel) rfl, am_ig (i := 687) (by decide +kernel) rfl⟩, fun h => absurd h (by decide)⟩, fun h => absurd h (by decide), fun h => absurd h (by decide), fun h => absurd h (by decide), Or.inl (by decide)⟩
theorem am_cpA_9 : ∀ q ∈ am_MTL.getD 9 [], am_CPr 9 q := by
  show ∀ q ∈ [(15, 42, 0, 0, false), (27, 81, 2, 1, true), (31, 43, 2, 0, false), (47, 38, 2, 0, false)], am_CPr 9 q
  exact List.forall_mem_cons.mpr ⟨am_cp_9_15, List.forall_mem_cons.mpr ⟨am_cp_9_27, List.forall_mem_cons.mpr ⟨am_cp_9_31, List.forall_mem_cons.mpr ⟨am_cp_9_47, fun _ h => absurd h List.not_mem_nil⟩⟩⟩⟩
theorem am_cp_10_19 : am_CPr 10 (19, 13, 2, 0, false) := ⟨fun _ => ⟨fun _ => am_ig (i := 653) (by decide +kernel) rfl, fun h => absurd h (by decide), by decide +kernel, fun _ => ⟨am_ig (i := 610) (by decide +kernel) rfl, am_ig (i := 611) (by decide +kernel) rfl⟩, fun h => absurd h (by decide)⟩, fun h => absurd h (by decide), fun h => absurd h (by decide), fun h => absurd h (by decide), Or.inl (by decide)⟩
theorem am_cp_10_59 : am_CPr 10 (59, 36, 1, 0, false) := ⟨fun _ => ⟨fun _ => am_ig (i := 662) (by decide +kernel) rfl, fun h => absurd h (by decide), by decide +kernel, fun _ => ⟨am_ig (i := 663) (by decide +kernel) rfl, am_ig (i := 664) (by decide +kernel) rfl⟩, fun h => absurd h (by decide)⟩, fun h => absurd h (by decide), fun h => absurd h (by decide), fun h => absurd h (by decide), Or.inl (by decide)⟩
theorem am_cp_10_74 : am_CPr 10 (74, 5, 2, 0, false) := ⟨fun _ => ⟨fun _ => am_ig (i := 677) (by decide +kernel) rfl, fun h => absurd h (by decide), by decide +kernel, fun _ => ⟨am_ig (i := 678) (by decide +kernel) rfl, am_ig (i := 679) (by decide +kernel) rfl⟩, fun h => absurd h (by decide)⟩, fun h => absurd h (by decide), fun h => absurd h (by decide), fun h => absurd h (by decide), Or.inl (by decide)⟩
theorem am_cp_10_77 : am_CPr 10 (77, 35, 2, 0, false) := ⟨fun _ => ⟨fun _ => am_ig (i := 681) (by decide +kernel) rfl, fun h => absurd h (by decide), by decide +kernel, fun _ => ⟨am_ig (i := 682) (by decide +kernel) rfl, am_ig (i := 683) (by decide +kernel) rfl⟩, fun h => absurd h (by decide)⟩, fun h => absurd h (by decide), fun h => absurd h (by decide), fun h => absurd h (by decide), Or.inl (by decide)⟩
theorem am_cp_10_80 : am_CPr 10 (80, 42, 0, 0, false) := ⟨fun _ => ⟨fun _ => am_ig (i := 734) (by decide +kernel) rfl, fun h => absurd h (by decide), by decide +kernel, fun _ => ⟨am_ig (i := 659) (by decide +kernel) rfl, am_ig (i := 660) (by decide +kernel) rfl⟩, fun h => absurd h (by decide)⟩, fun h => absurd h (by decide), fun h => absurd h (by decide), fun h => absurd h (by decide), Or.inl (by decide)⟩
theorem am_cp_10_83 : am_CPr 10 (83, 81, 2, 1, true) := ⟨fun _ => ⟨fun h => absurd h (by decide), fun _ => List.mem_of_getElem? (i := 670) (by decide +kernel), by decide +kernel, fun h => absurd h (by decide), fun _ => am_ig (i := 669) (by decide +kernel) rfl⟩, fun h => absurd h (by decide), fun h => absurd h (by decide), fun h => absurd h (by decide), Or.inl (by decide)⟩
theorem am_cp_10_87 : am_CPr 10 (87, 43, 2, 0, false) := ⟨fun _ => ⟨fun _ => am_ig (i := 736) (by decide +kernel) rfl, fun h => absurd h (by decide), by decide +kernel, fun _ => ⟨am_ig (i := 672) (by decide +kernel) rfl, am_ig (i := 673) (by decide +kernel) rfl⟩, fun h => absurd h (by decide)⟩, fun h => absurd h (by decide), fun h => absurd h (by decide), fun h => absurd h (by decide), Or.inl (by decide)⟩
theorem am_cpA_10 : ∀ q ∈ am_MTL.getD 10 [], am_CPr 10 q := by
  show ∀ q ∈ [(19, 13, 2, 0, false), (59, 36, 1, 0, false), (74, 5, 2, 0, false), (77, 35, 2, 0, false), (80, 42, 0, 0, false), (83, 81, 2, 1, true), (87, 43, 2, 0, false)], am_CPr 10 q
  exact List.forall_mem_cons.mpr ⟨am_cp_10_19, List.forall_mem_cons.mpr ⟨am_cp_10_59, List.forall_mem_cons.mpr ⟨am_cp_10_74, List.forall_mem_cons.mpr ⟨am_cp_10_77, List.forall_mem_cons.mpr ⟨am_cp_10_80, List.forall_mem_cons.mpr ⟨am_cp_10_83, List.forall_mem_cons.mpr ⟨am_cp_10_87, fun _ h => absurd h List.not_mem_nil⟩⟩⟩⟩⟩⟩⟩
theorem am_cp_11_121 : am_CPr 11 (121, 80, 2, 1, false) := ⟨fun _ => ⟨fun _ => am_ig (i := 409) (by decide +kernel) rfl, fun h => absurd h (by decide), by decide +kernel, fun h => absurd h (by decide), fun _ => am_ig (i := 410) (by decide +kernel) rfl⟩, fun h => absurd h (by decide), fun h => absurd h (by decide), fun h => absurd h (by decide), Or.inl (by decide)⟩
theorem am_cp_11_125 : am_CPr 11 (125, 26, 1, 0, false) := ⟨fun _ => ⟨fun _ => am_ig (i := 412) (by decide +kernel) rfl, fun h => absurd h (by decide), by decide +kernel, fun _ => ⟨am_ig (i := 413) (by decide +kernel) rfl, am_ig (i := 414) (by decide +kernel) rfl⟩, fun h => absurd h (by decide)⟩, fun h => absurd h (by decide), fun h => absurd h (by decide), fun h => absurd h (by decide), Or.inl (by decide)⟩
theorem am_cp_11_129 : am_CPr 11 (129, 85, 1, 0, false) := ⟨fun _ => ⟨fun _ => am_ig (i := 416) (by decide +kernel) rfl, fun h => absurd h (by decide), by decide +kernel, fun _ => ⟨am_ig (i := 418) (by decide +kernel) rfl, am_ig (i := 0) (by decide +kernel) rfl⟩, fun h => absurd h (by decide)⟩, fun h => absurd h (by decide), fun h => absurd h (by decide), fun h => absurd h (by decide), Or.inl (by decide)⟩
theorem am_cp_11_135 : am_CPr 11 (135, 34, 1, 0, false) := ⟨fun _ => ⟨fun _ => am_ig (i := 593) (by decide +kernel) rfl, fun h => absurd h (by decide), by decide +kernel, fun _ => ⟨am_ig (i := 594) (by decide +kernel) rfl, am_ig (i := 595) (by decide +kernel) rfl⟩, fun h => absurd h (by decide)⟩, fun h => absurd h (by decide), fun h => absurd h (by decide), fun h => absurd h (by decide), Or.inl (by decide)⟩
theorem am_cp_11_142 : am_CPr 11 (142, 4, 2, 0, false) := ⟨fun _ => ⟨fun _ => am_ig (i := 601) (by decide +kernel) rfl, fun h => absurd h (by decide), by decide +kernel, fun _ => ⟨am_ig (i := 602) (by decide +kernel) rfl, am_ig (i := 603) (by decide +kernel) rfl⟩, fun h => absurd h (by decide)⟩, fun h => absurd h (by decide), fun h => absurd h (by decide), fun h => absurd h (by decide), Or.inl (by decide)⟩
theorem am_cp_11_147 : am_CPr 11 (147, 13, 2, 0, false) := ⟨fun _ => ⟨fun _ => am_ig (i := 609) (by decide +kernel) rfl, fun h => absurd h (by decide), by decide +kernel, fun _ => ⟨am_ig (i := 610) (by decide +kernel) rfl, am_ig (i := 611) (by decide +kernel) rfl⟩, fun h => absurd h (by decide)⟩, fun h => absurd h (by decide), fun h => absurd h (by decide), fun h => absurd h (by decide), Or.inl (by decide)⟩
theorem am_cp_11_148 : am_CPr 11 (148, 14, 1, 0, false) := ⟨fun _ => ⟨fun _ => am_ig (i := 617) (by decide +kernel) rfl, fun h => absurd h (by decide), by decide +kernel, fun _ => ⟨am_ig (i := 618) (by decide +kernel) rfl, am_ig (i := 619) (by decide +kernel) rfl⟩, fun h => absurd h (by decide)⟩, fun h => absurd h (by decide), fun h => absurd h (by decide), fun h => absurd h (by decide), Or.inl (by decide)⟩
theorem am_cp_11_151 : am_CPr 11 (151, 86, 0, 0, false) := ⟨fun _ => ⟨fun _ => am_ig (i := 572) (by decide +kernel) rfl, fun h => absurd h (by decide), by decide +kernel, fun _ => ⟨am_ig (i := 574) (by decide +kernel) rfl, am_ig (i := 10) (by decide +kernel) rfl⟩, fun h => absurd h (by decide)⟩, fun h => absurd h (by decide), fun h => absurd h (by decide), fun h => absurd h (by decide), Or.inl (by decide)⟩
theorem am_cp_11_155 : am_CPr 11 (155, 16, 0, 0, false) := ⟨fun _ => ⟨fun _ => am_ig (i := 629) (by decide +kernel) rfl, fun h => absurd h (by decide), by decide +kernel, fun _ => ⟨am_ig (i := 630) (by decide +kernel) rfl, am_ig (i := 631) (by decide +kernel) rfl⟩, fun h => absurd h (by decide)⟩, fun h => absurd h (by decide), fun h => absurd h (by decide), fun h => absurd h (by decide), Or.inl (by decide)⟩
theorem am_cp_11_159 : am_CPr 11 (159, 82, 1, 0, false) := ⟨fun _ => ⟨fun _ => am_ig (i := 633) (by decide +kernel) rfl, fun h => absurd h (by decide), by decide +kernel, fun _ => ⟨am_ig (i := 635) (by decide +kernel) rfl, am_ig (i := 11) (by decide +kernel) rfl⟩, fun h => absurd h (by decide)⟩, fun h => absurd h (by decide), fun h => absurd h (by decide), fun h => absurd h (by decide), Or.inl (by decide)⟩
theorem am_cp_11_166 : am_CPr 11 (166, 87, 0, 0, false) := ⟨fun _ => ⟨fun _ => am_ig (i := 641) (by decide +kernel) rfl, fun h => absurd h (by decide), by decide +kernel, fun _ => ⟨am_ig (i := 643) (by decide +kernel) rfl, am_ig (i := 12) (by decide +kernel) rfl⟩, fun h => absurd h (by decide)⟩, fun h => absurd h (by decide), fun h => absurd h (by decide), fun h => absurd h (by decide), Or.inl (by decide)⟩
theorem am_cp_11_169 : am_CPr 11 (169, 38, 2, 0, false) := ⟨fun _ => ⟨fun _ => am_ig (i := 685) (by decide +kernel) rfl, fun h => absurd h (by decide), by decide +kernel, fun _ => ⟨am_ig (i := 686) (by decide +kernel) rfl, am_ig (i := 687) (by decide +kernel) rfl⟩, fun h => absurd h (by decide)⟩, fun h => absurd h (by decide), fun h => absurd h (by decide), fun h => absurd h (by decide), Or.inl (by decide)⟩
theorem am_cp_11_173 : am_CPr 11 (173, 83, 1, 1, false) := ⟨fun _ => ⟨fun _ => am_ig (i := 693) (by decide +kernel) rfl, fun h => absurd h (by decide), by decide +kernel, fun h => absurd h (by decide), fun _ => am_ig (i := 694) (by decide +kernel) rfl⟩, fun h => absurd h (by decide), fun h => absurd h (by decide), fun h => absurd h (by decide), Or.inl (by decide)⟩
theorem am_cp_11_178 : am_CPr 11 (178, 88, 2, 0, false) := ⟨fun _ => ⟨fun _ => am_ig (i := 704) (by decide +kernel) rfl, fun h => absurd h (by decide), by decide +kernel, fun _ => ⟨am_ig (i := 706) (by decide +kernel) rfl, am_ig (i := 13) (by decide +kernel) rfl⟩, fun h => absurd h (by decide)⟩, fun h => absurd h (by decide), fun h => absurd h (by decide), fun h => absurd h (by decide), Or.inl (by decide)⟩
theorem am_cp_11_181 : am_CPr 11 (181, 39, 1, 0, false) := ⟨fun _ => ⟨fun _ => am_ig (i := 712) (by decide +kernel) rfl, fun h => absurd h (by decide), by decide +kernel, fun _ => ⟨am_ig (i := 713) (by decide +kernel) rfl, am_ig (i := 714) (by decide +kernel) rfl⟩, fun h => absurd h (by decide)⟩, fun h => absurd h (by decide), fun h => absurd h (by decide), fun h => absurd h (by decide), Or.inl (by decide)⟩
theorem am_cp_11_184 : am_CPr 11 (184, 59, 1, 0, false) := ⟨fun _ => ⟨fun _ => am_ig (i := 721) (by decide +kernel) rfl, fun h => absurd h (by decide), by decide +kernel, fun _ => ⟨am_ig (i := 709) (by decide +kernel) rfl, am_ig (i := 710) (by decide +kernel) rfl⟩, fun h => absurd h (by decide)⟩, fun h => absurd h (by decide), fun h => absurd h (by decide), fun h => absurd h (by decide), Or.inl (by decide)⟩
theorem am_cp_11_187 : am_CPr 11 (187, 89, 1, 0, false) := ⟨fun _ => ⟨fun _ => am_ig (i := 726) (by decide +kernel) rfl, fun h => absurd h (by decide), by decide +kernel, fun _ => ⟨am_ig (i := 728) (by decide +kernel) rfl, am_ig (i := 14) (by decide +kernel) rfl⟩, fun h => absurd h (by decide)⟩, fun h => absurd h (by decide), fun h => absurd h (by decide), fun h => absurd h (by decide), Or.inl (by decide)⟩
theorem am_cp_11_190 : am_CPr 11 (190, 15, 2, 0, false) := ⟨fun _ => ⟨fun _ => am_ig (i := 645) (by decide +kernel) rfl, fun h => absurd h (by decide), by decide +kernel, fun _ => ⟨am_ig (i := 646) (by decide +kernel) rfl, am_ig (i := 647) (by decide +kernel) rfl⟩, fun h => absurd h (by decide)⟩, fun h => absurd h (by decide), fun h => absurd h (by decide), fun h => absurd h (by decide), Or.inl (by decide)⟩
theorem am_cp_11_193 : am_CPr 11 (193, 40, 2, 0, false) := ⟨fun _ => ⟨fun _ => am_ig (i := 649) (by decide +kernel) rfl, fun h => absurd h (by decide), by decide +kernel, fun _ => ⟨am_ig (i := 650) (by decide +kernel) rfl, am_ig (i := 651) (by decide +kernel) rfl⟩, fun h => absurd h (by decide)⟩, fun h => absurd h (by decide), fun h => absurd h (by decide), fun h => absurd h (by decide), Or.inl (by decide)⟩
theorem am_cp_11_200 : am_CPr 11 (200, 44, 2, 0, false) := ⟨fun _ => ⟨fun _ => am_ig (i := 730) (by decide +kernel) rfl, fun h => absurd h (by decide), by decide +kernel, fun _ => ⟨am_ig (i := 731) (by decide +kernel) rfl, am_ig (i := 732) (by decide +kernel) rfl⟩, fun h => absurd h (by decide)⟩, fun h => absurd h (by decide), fun h => absurd h (by decide), fun h => absurd h (by decide), Or.inl (by decide)⟩
theorem am_cp_11_206 : am_CPr 11 (206, 6, 0, 0, false) := ⟨fun _ => ⟨fun _ => am_ig (i := 745) (by decide +kernel) rfl, fun h => absurd h (by decide), by decide +kernel, fun _ => ⟨am_ig (i := 746) (by decide +kernel) rfl, am_ig (i := 747) (by decide +kernel) rfl⟩, fun h => absurd h (by decide)⟩, fun h => absurd h (by decide), fun h => absurd h (by decide), fun h => absurd h (by decide), Or.inl (by decide)⟩
theorem am_cp_11_215 : am_CPr 11 (215, 7, 2, 0, false) := ⟨fun _ => ⟨fun _ => am_ig (i := 749) (by decide +kernel) rfl, fun h => absurd h (by decide), by decide +kernel, fun _ => ⟨am_ig (i := 750) (by decide +kernel) rfl, am_ig (i := 751) (by decide +kernel) rfl⟩, fun h => absurd h (by decide)⟩, fun h => absurd h (by decide), fun h => absurd h (by decide), fun h => absurd h (by decide), Or.inl (by decide)⟩
theorem am_cp_11_219 : am_CPr 11 (219, 8, 0, 0, false) := ⟨fun _ => ⟨fun _ => am_ig (i := 753) (by decide +kernel) rfl, fun h => absurd h (by decide), by decide +kernel, fun _ => ⟨am_ig (i := 754) (by decide +kernel) rfl, am_ig (i := 755) (by decide +kernel) rfl⟩, fun h => absurd h (by decide)⟩, fun h => absurd h (by decide), fun h => absurd h (by decide), fun h => absurd h (by decide), Or.inl (by decide)⟩
theorem am_cp_11_223 : am_CPr 11 (223, 90, 0, 0, false) := ⟨fun _ => ⟨fun _ => am_ig (i := 766) (by decide +kernel) rfl, fun h => absurd h (by decide), by decide +kernel, fun _ => ⟨am_ig (i := 768) (by decide +kernel) rfl, am_ig (i := 16) (by decide +kernel) rfl⟩, fun h => absurd h (by decide)⟩, fun h => absurd h (by decide), fun h => absurd h (by decide), fun h => absurd h (by decide), Or.inl (by decide)⟩
theorem am_cp_11_226 : am_CPr 11 (226, 21, 3, 0, false) := ⟨fun _ => ⟨fun _ => am_ig (i := 778) (by decide +kernel) rfl, fun h => absurd h (by decide), by decide +kernel, fun _ => ⟨am_ig (i := 779) (by decide +kernel) rfl, am_ig (i := 780) (by decide +kernel) rfl⟩, fun h => absurd h (by decide)⟩, fun h => absurd h (by decide), fun h => absurd h (by decide), fun h => absurd h (by decide), Or.inl (by decide)⟩
theorem am_cp_11_230 : am_CPr 11 (230, 92, 1, 0, false) := ⟨fun _ => ⟨fun _ => am_ig (i := 790) (by decide +kernel) rfl, fun h => absurd h (by decide), by decide +kernel, fun _ => ⟨am_ig (i := 792) (by decide +kernel) rfl, am_ig (i := 18) (by decide +kernel) rfl⟩, fun h => absurd h (by decide)⟩, fun h => absurd h (by decide), fun h => absurd h (by decide), fun h => absurd h (by decide), Or.inl (by decide)⟩
theorem am_cp_11_233 : am_CPr 11 (233, 94, 2, 0, false) := ⟨fun _ => ⟨fun _ => am_ig (i := 807) (by decide +kernel) rfl, fun h => absurd h (by decide), by decide +kernel, fun _ => ⟨am_ig (i := 809) (by decide +kernel) rfl, am_ig (i := 19) (by decide +kernel) rfl⟩, fun h => absurd h (by decide)⟩, fun h => absurd h (by decide), fun h => absurd h (by decide), fun h => absurd h (by decide), Or.inl (by decide)⟩
theorem am_cp_11_236 : am_CPr 11 (236, 95, 2, 0, false) := ⟨fun _ => ⟨fun _ => am_ig (i := 819) (by decide +kernel) rfl, fun h => absurd h (by decide), by decide +kernel, fun _ => ⟨am_ig (i := 821) (by decide +kernel) rfl, am_ig (i := 21) (by decide +kernel) rfl⟩, fun h => absurd h (by decide)⟩, fun h => absurd h (by decide), fun h => absurd h (by decide), fun h => absurd h (by decide), Or.inl (by decide)⟩
theorem am_cp_11_243 : am_CPr 11 (243, 24, 4, 0, false) := ⟨fun _ => ⟨fun _ => am_ig (i := 830) (by decide +kernel) rfl, fun h => absurd h (by decide), by decide +kernel, fun _ => ⟨am_ig (i := 831) (by decide +kernel) rfl, am_ig (i := 832) (by decide +kernel) rfl⟩, fun h => absurd h (by decide)⟩, fun h => absurd h (by decide), fun h => absurd h (by decide), fun h => absurd h (by decide), Or.inl (by decide)⟩
theorem am_cp_11_247 : am_CPr 11 (247, 84, 1, 1, false) := ⟨fun _ => ⟨fun _ => am_ig (i := 850) (by decide +kernel) rfl, fun h => absurd h (by decide), by decide +kernel, fun h => absurd h (by decide), fun _ => am_ig (i := 851) (by decide +kernel) rfl⟩, fun h => absurd h (by decide), fun h => absurd h (by decide), fun h => absurd h (by decide), Or.inl (by decide)⟩
theorem am_cp_11_250 : am_CPr 11 (250, 17, 2, 0, false) := ⟨fun _ => ⟨fun _ => am_ig (i := 858) (by decide +kernel) rfl, fun h => absurd h (by decide), by decide +kernel, fun _ => ⟨am_ig (i := 859) (by decide +kernel) rfl, am_ig (i := 860) (by decide +kernel) rfl⟩, fun h => absurd h (by decide)⟩, fun h => absurd h (by decide), fun h => absurd h (by decide), fun h => absurd h (by decide), Or.inl (by decide)⟩
theorem am_cp_11_253 : am_CPr 11 (253, 18, 2, 0, false) := ⟨fun _ => ⟨fun _ => am_ig (i := 870) (by decide +kernel) rfl, fun h => absurd h (by decide), by decide +kernel, fun _ => ⟨am_ig (i := 871) (by decide +kernel) rfl, am_ig (i := 872) (by decide +kernel) rfl⟩, fun h => absurd h (by decide)⟩, fun h => absurd h (by decide), fun h => absurd h (by decide), fun h => absurd h (by decide), Or.inl (by decide)⟩
theorem am_cp_11_256 : am_CPr 11 (256, 20, 2, 0, false) := ⟨fun _ => ⟨fun _ => am_ig (i := 876) (by decide +kernel) rfl, fun h => absurd h (by decide), by decide +kernel, fun _ => ⟨am_ig (i := 877) (by decide +kernel) rfl, am_ig (i := 878) (by decide +kernel) rfl⟩, fun h => absurd h (by decide)⟩, fun h => absurd h (by decide), fun h => absurd h (by decide), fun h => absurd h (by decide), Or.inl (by decide)⟩
theorem am_cp_11_265 : am_CPr 11 (265, 19, 2, 0, false) := ⟨fun _ => ⟨fun _ => am_ig (i := 889) (by decide +kernel) rfl, fun h => absurd h (by decide), by decide +kernel, fun _ => ⟨am_ig (i := 890) (by decide +kernel) rfl, am_ig (i := 891) (by decide +kernel) rfl⟩, fun h => absurd h (by decide)⟩, fun h => absurd h (by decide), fun h => absurd h (by decide), fun h => absurd h (by decide), Or.inl (by decide)⟩
theorem am_cp_11_268 : am_CPr 11 (268, 1002, 5, 1, false) := ⟨fun h => absurd h (by decide), fun h => absurd h (by decide), fun h => absurd h (by decide), fun _ => am_ig (i := 893) (by decide +kernel) rfl, Or.inr (by decide)⟩
theorem am_cp_11_274 : am_CPr 11 (274, 1000, 2, 1, false) := ⟨fun h => absurd h (by decide), fun _ => am_ig (i := 900) (by decide +kernel) rfl, fun h => absurd h (by decide), fun h => absurd h (by decide), Or.inr (by decide)⟩
theorem am_cp_11_282 : am_CPr 11 (282, 78, 1, 0, false) := ⟨fun _ => ⟨fun _ => am_ig (i := 910) (by decide +kernel) rfl, fun h => absurd h (by decide), by decide +kernel, fun _ => ⟨am_ig (i := 902) (by decide +kernel) rfl, am_ig (i := 903) (by decide +kernel) rfl⟩, fun h => absurd h (by decide)⟩, fun h => absurd h (by decide), fun h => absurd h (by decide), fun h => absurd h (by decide), Or.inl (by decide)⟩
theorem am_cp_11_285 : am_CPr 11 (285, 96, 2, 1, false) := ⟨fun _ => ⟨fun _ => am_ig (i := 911) (by decide +kernel) rfl, fun h => absurd h (by decide), by decide +kernel, fun h => absurd h (by decide), fun _ => am_ig (i := 912) (by decide +kernel) rfl⟩, fun h => absurd h (by decide), fun h => absurd h (by decide), fun h => absurd h (by decide), Or.inl (by decide)⟩
theorem am_cp_11_289 : am_CPr 11 (289, 48, 1, 0, false) := ⟨fun _ => ⟨fun _ => am_ig (i := 915) (by decide +kernel) rfl, fun h => absurd h (by decide), by decide +kernel, fun _ => ⟨am_ig (i := 586) (by decide +kernel) rfl, am_ig (i := 587) (by decide +kernel) rfl⟩, fun h => absurd h (by decide)⟩, fun h => absurd h (by decide), fun h => absurd h (by decide), fun h => absurd h (by decide), Or.inl (by decide)⟩
theorem am_cp_11_292 : am_CPr 11 (292, 49, 1, 0, false) := ⟨fun _ => ⟨fun _ => am_ig (i := 916) (by decide +kernel) rfl, fun h => absurd h (by decide), by decide +kernel, fun _ => ⟨am_ig (i := 590) (by decide +kernel) rfl, am_ig (i := 591) (by decide +kernel) rfl⟩, fun h => absurd h (by decide)⟩, fun h => absurd h (by decide), fun h => absurd h (by decide), fun h => absurd h (by decide), Or.inl (by decide)⟩
theorem am_cp_11_295 : am_CPr 11 (295, 97, 2, 0, false) := ⟨fun _ => ⟨fun _ => am_ig (i := 917) (by decide +kernel) rfl, fun h => absurd h (by decide), by decide +kernel, fun _ => ⟨am_ig (i := 919) (by decide +kernel) rfl, am_ig (i := 23) (by decide +kernel) rfl⟩, fun h => absurd h (by decide)⟩, fun h => absurd h (by decide), fun h => absurd h (by decide), fun h => absurd h (by decide), Or.inl (by decide)⟩
theorem am_cp_11_299 : am_CPr 11 (299, 98, 2, 0, false) := ⟨fun _ => ⟨fun _ => am_ig (i := 922) (by decide +kernel) rfl, fun h => absurd h (by decide), by decide +kernel, fun _ => ⟨am_ig (i := 924) (by decide +kernel) rfl, am_ig (i := 24) (by decide +kernel) rfl⟩, fun h => absurd h (by decide)⟩, fun h => absurd h (by decide), fun h => absurd h (by decide), fun h => absurd h (by decide), Or.inl (by decide)⟩
theorem am_cp_11_302 : am_CPr 11 (302, 99, 2, 0, false) := ⟨fun _ => ⟨fun _ => am_ig (i := 930) (by decide +kernel) rfl, fun h => absurd h (by decide), by decide +kernel, fun _ => ⟨am_ig (i := 932) (by decide +kernel) rfl, am_ig (i := 25) (by decide +kernel) rfl⟩, fun h => absurd h (by decide)⟩, fun h => absurd h (by decide), fun h => absurd h (by decide), fun h => absurd h (by decide), Or.inl (by decide)⟩
theorem am_cp_11_305 : am_CPr 11 (305, 57, 1, 0, false) := ⟨fun _ => ⟨fun _ => am_ig (i := 940) (by decide +kernel) rfl, fun h => absurd h (by decide), by decide +kernel, fun _ => ⟨am_ig (i := 697) (by decide +kernel) rfl, am_ig (i := 698) (by decide +kernel) rfl⟩, fun h => absurd h (by decide)⟩, fun h => absurd h (by decide), fun h => absurd h (by decide), fun h => absurd h (by decide), Or.inl (by decide)⟩
theorem am_cp_11_308 : am_CPr 11 (308, 58, 1, 0, false) := ⟨fun _ => ⟨fun _ => am_ig (i := 941) (by decide +kernel) rfl, fun h => absurd h (by decide), by decide +kernel, fun _ => ⟨am_ig (i := 701) (by decide +kernel) rfl, am_ig (i := 702) (by decide +kernel) rfl⟩, fun h => absurd h (by decide)⟩, fun h => absurd h (by decide), fun h => absurd h (by decide), fun h => absurd h (by decide), Or.inl (by decide)⟩
theorem am_cp_11_311 : am_CPr 11 (311, 60, 0, 0, false) := ⟨fun _ => ⟨fun _ => am_ig (i := 942) (by decide +kernel) rfl, fun h => absurd h (by decide), by decide +kernel, fun _ => ⟨am_ig (i := 718) (by decide +kernel) rfl, am_ig (i := 719) (by decide +kernel) rfl⟩, fun h => absurd h (by decide)⟩, fun h => absurd h (by decide), fun h => absurd h (by decide), fun h => absurd h (by decide), Or.inl (by decide)⟩
theorem am_cp_11_314 : am_CPr 11 (314, 63, 0, 0, false) := ⟨fun _ => ⟨fun _ => am_ig (i := 943) (by decide +kernel) rfl, fun h => absurd h (by decide), by decide +kernel, fun _ => ⟨am_ig (i := 742) (by decide +kernel) rfl, am_ig (i := 743) (by decide +kernel) rfl⟩, fun h => absurd h (by decide)⟩, fun h => absurd h (by decide), fun h => absurd h (by decide), fun h => absurd h (by decide), Or.inl (by decide)⟩
theorem am_cp_11_317 : am_CPr 11 (317, 64, 1, 0, false) := ⟨fun _ => ⟨fun _ => am_ig (i := 944) (by decide +kernel) rfl, fun h => absurd h (by decide), by decide +kernel, fun _ => ⟨am_ig (i := 763) (by decide +kernel) rfl, am_ig (i := 764) (by decide +kernel) rfl⟩, fun h => absurd h (by decide)⟩, fun h => absurd h (by decide), fun h => absurd h (by decide), fun h => absurd h (by decide), Or.inl (by decide)⟩
theorem am_cp_11_320 : am_CPr 11 (320, 67, 0, 0, false) := ⟨fun _ => ⟨fun _ => am_ig (i := 945) (by decide +kernel) rfl, fun h => absurd h (by decide), by decide +kernel, fun _ => ⟨am_ig (i := 787) (by decide +kernel) rfl, am_ig (i := 788) (by decide +kernel) rfl⟩, fun h => absurd h (by decide)⟩, fun h => absurd h (by decide), fun h => absurd h (by decide), fun h => absurd h (by decide), Or.inl (by decide)⟩
theorem am_cp_11_323 : am_CPr 11 (323, 71, 2, 0, false) := ⟨fun _ => ⟨fun _ => am_ig (i := 946) (by decide +kernel) rfl, fun h => absurd h (by decide), by decide +kernel, fun _ => ⟨am_ig (i := 847) (by decide +kernel) rfl, am_ig (i := 848) (by decide +kernel) rfl⟩, fun h => absurd h (by decide)⟩, fun h => absurd h (by decide), fun h => absurd h (by decide), fun h => absurd h (by decide), Or.inl (by decide)⟩
theorem am_cp_11_327 : am_CPr 11 (327, 28, 1, 0, false) := ⟨fun _ => ⟨fun _ => am_ig (i := 420) (by decide +kernel) rfl, fun h => absurd h (by decide), by decide +kernel, fun _ => ⟨am_ig (i := 421) (by decide +kernel) rfl, am_ig (i := 422) (by decide +kernel) rfl⟩, fun h => absurd h (by decide)⟩, fun h => absurd h (by decide), fun h => absurd h (by decide), fun h => absurd h (by decide), Or.inl (by decide)⟩
theorem am_cp_11_331 : am_CPr 11 (331, 0, 1, 0, false) := ⟨fun _ => ⟨fun _ => am_ig (i := 535) (by decide +kernel) rfl, fun h => absurd h (by decide), by decide +kernel, fun _ => ⟨am_ig (i := 536) (by decide +kernel) rfl, am_ig (i := 537) (by decide +kernel) rfl⟩, fun h => absurd h (by decide)⟩, fun h => absurd h (by decide), fun h => absurd h (by decide), fun h => absurd h (by decide), Or.inl (by decide)⟩
theorem am_cp_11_332 : am_CPr 11 (332, 10, 1, 0, false) := ⟨fun _ => ⟨fun _ => am_ig (i := 555) (by decide +kernel) rfl, fun h => absurd h (by decide), by decide +kernel, fun _ => ⟨am_ig (i := 556) (by decide +kernel) rfl, am_ig (i := 557) (by decide +kernel) rfl⟩, fun h => absurd h (by decide)⟩, fun h => absurd h (by decide), fun h => absurd h (by decide), fun h => absurd h (by decide), Or.inl (by decide)⟩
theorem am_cp_11_336 : am_CPr 11 (336, 37, 2, 0, false) := ⟨fun _ => ⟨fun _ => am_ig (i := 654) (by decide +kernel) rfl, fun h => absurd h (by decide), by decide +kernel, fun _ => ⟨am_ig (i := 655) (by decide +kernel) rfl, am_ig (i := 656) (by decide +kernel) rfl⟩, fun h => absurd h (by decide)⟩, fun h => absurd h (by decide), fun h => absurd h (by decide), fun h => absurd h (by decide), Or.inl (by decide)⟩
theorem am_cp_11_340 : am_CPr 11 (340, 91, 2, 0, false) := ⟨fun _ => ⟨fun _ => am_ig (i := 770) (by decide +kernel) rfl, fun h => absurd h (by decide), by decide +kernel, fun _ => ⟨am_ig (i := 772) (by decide +kernel) rfl, am_ig (i := 17) (by decide +kernel) rfl⟩, fun h => absurd h (by decide)⟩, fun h => absurd h (by decide), fun h => absurd h (by decide), fun h => absurd h (by decide), Or.inl (by decide)⟩
theorem am_cp_11_343 : am_CPr 11 (343, 22, 1, 0, false) := ⟨fun _ => ⟨fun _ => am_ig (i := 794) (by decide +kernel) rfl, fun h => absurd h (by decide), by decide +kernel, fun _ => ⟨am_ig (i := 795) (by decide +kernel) rfl, am_ig (i := 796) (by decide +kernel) rfl⟩, fun h => absurd h (by decide)⟩, fun h => absurd h (by decide), fun h => absurd h (by decide), fun h => absurd h (by decide), Or.inl (by decide)⟩
theorem am_cp_11_346 : am_CPr 11 (346, 23, 2, 0, false) := ⟨fun _ => ⟨fun _ => am_ig (i := 798) (by decide +kernel) rfl, fun h => absurd h (by decide), by decide +kernel, fun _ => ⟨am_ig (i := 799) (by decide +kernel) rfl, am_ig (i := 800) (by decide +kernel) rfl⟩, fun h => absurd h (by decide)⟩, fun h => absurd h (by decide), fun h => absurd h (by decide), fun h => absurd h (by decide), Or.inl (by decide)⟩
theorem am_cp_11_350 : am_CPr 11 (350, 93, 1, 0, false) := ⟨fun _ => ⟨fun _ => am_ig (i := 811) (by decide +kernel) rfl, fun h => absurd h (by decide), by decide +kernel, fun _ => ⟨am_ig (i := 813) (by decide +kernel) rfl, am_ig (i := 20) (by decide +kernel) rfl⟩, fun h => absurd h (by decide)⟩, fun h => absurd h (by decide), fun h => absurd h (by decide), fun h => absurd h (by decide), Or.inl (by decide)⟩
theorem am_cp_11_353 : am_CPr 11 (353, 81, 2, 1, false) := ⟨fun _ => ⟨fun _ => am_ig (i := 823) (by decide +kernel) rfl, fun h => absurd h (by decide), by decide +kernel, fun h => absurd h (by decide), fun _ => am_ig (i := 669) (by decide +kernel) rfl⟩, fun h => absurd h (by decide), fun h => absurd h (by decide), fun h => absurd h (by decide), Or.inl (by decide)⟩
theorem am_cp_11_356 : am_CPr 11 (356, 1001, 2, 1, false) := ⟨fun h => absurd h (by decide), fun h => absurd h (by decide), fun _ => am_ig (i := 824) (by decide +kernel) rfl, fun h => absurd h (by decide), Or.inr (by decide)⟩
theorem am_cp_11_361 : am_CPr 11 (361, 50, 2, 0, false) := ⟨fun _ => ⟨fun _ => am_ig (i := 921) (by decide +kernel) rfl, fun h => absurd h (by decide), by decide +kernel, fun _ => ⟨am_ig (i := 598) (by decide +kernel) rfl, am_ig (i := 599) (by decide +kernel) rfl⟩, fun h => absurd h (by decide)⟩, fun h => absurd h (by decide), fun h => absurd h (by decide), fun h => absurd h (by decide), Or.inl (by decide)⟩
theorem am_cp_11_364 : am_CPr 11 (364, 51, 2, 0, false) := ⟨fun _ => ⟨fun _ => am_ig (i := 926) (by decide +kernel) rfl, fun h => absurd h (by decide), by decide +kernel, fun _ => ⟨am_ig (i := 606) (by decide +kernel) rfl, am_ig (i := 607) (by decide +kernel) rfl⟩, fun h => absurd h (by decide)⟩, fun h => absurd h (by decide), fun h => absurd h (by decide), fun h => absurd h (by decide), Or.inl (by decide)⟩
theorem am_cp_11_369 : am_CPr 11 (369, 55, 3, 0, false) := ⟨fun _ => ⟨fun _ => am_ig (i := 929) (by decide +kernel) rfl, fun h => absurd h (by decide), by decide +kernel, fun _ => ⟨am_ig (i := 638) (by decide +kernel) rfl, am_ig (i := 639) (by decide +kernel) rfl⟩, fun h => absurd h (by decide)⟩, fun h => absurd h (by decide), fun h => absurd h (by decide), fun h => absurd h (by decide), Or.inl (by decide)⟩
theorem am_cp_11_373 : am_CPr 11 (373, 56, 2, 0, false) := ⟨fun _ => ⟨fun _ => am_ig (i := 934) (by decide +kernel) rfl, fun h => absurd h (by decide), by decide +kernel, fun _ => ⟨am_ig (i := 690) (by decide +kernel) rfl, am_ig (i := 691) (by decide +kernel) rfl⟩, fun h => absurd h (by decide)⟩, fun h => absurd h (by decide), fun h => absurd h (by decide), fun h => absurd h (by decide), Or.inl (by decide)⟩
theorem am_cp_11_376 : am_CPr 11 (376, 61, 2, 0, false) := ⟨fun _ => ⟨fun _ => am_ig (i := 935) (by decide +kernel) rfl, fun h => absurd h (by decide), by decide +kernel, fun _ => ⟨am_ig (i := 723) (by decide +kernel) rfl, am_ig (i := 724) (by decide +kernel) rfl⟩, fun h => absurd h (by decide)⟩, fun h => absurd h (by decide), fun h => absurd h (by decide), fun h => absurd h (by decide), Or.inl (by decide)⟩
theorem am_cp_11_379 : am_CPr 11 (379, 62, 1, 0, false) := ⟨fun _ => ⟨fun _ => am_ig (i := 936) (by decide +kernel) rfl, fun h => absurd h (by decide), by decide +kernel, fun _ => ⟨am_ig (i := 738) (by decide +kernel) rfl, am_ig (i := 739) (by decide +kernel) rfl⟩, fun h => absurd h (by decide)⟩, fun h => absurd h (by decide), fun h => absurd h (by decide), fun h => absurd h (by decide), Or.inl (by decide)⟩
theorem am_cp_11_382 : am_CPr 11 (382, 68, 2, 0, false) := ⟨fun _ => ⟨fun _ => am_ig (i := 937) (by decide +kernel) rfl, fun h => absurd h (by decide), by decide +kernel, fun _ => ⟨am_ig (i := 804) (by decide +kernel) rfl, am_ig (i := 805) (by decide +kernel) rfl⟩, fun h => absurd h (by decide)⟩, fun h => absurd h (by decide), fun h => absurd h (by decide), fun h => absurd h (by decide), Or.inl (by decide)⟩
theorem am_cp_11_385 : am_CPr 11 (385, 69, 1, 0, false) := ⟨fun _ => ⟨fun _ => am_ig (i := 938) (by decide +kernel) rfl, fun h => absurd h (by decide), by decide +kernel, fun _ => ⟨am_ig (i := 816) (by decide +kernel) rfl, am_ig (i := 817) (by decide +kernel) rfl⟩, fun h => absurd h (by decide)⟩, fun h => absurd h (by decide), fun h => absurd h (by decide), fun h => absurd h (by decide), Or.inl (by decide)⟩
theorem am_cp_11_388 : am_CPr 11 (388, 70, 4, 0, false) := ⟨fun _ => ⟨fun _ => am_ig (i := 939) (by decide +kernel) rfl, fun h => absurd h (by decide), by decide +kernel, fun _ => ⟨am_ig (i := 826) (by decide +kernel) rfl, am_ig (i := 827) (by decide +kernel) rfl⟩, fun h => absurd h (by decide)⟩, fun h => absurd h (by decide), fun h => absurd h (by decide), fun h => absurd h (by decide), Or.inl (by decide)⟩
theorem am_cpA_11 : ∀ q ∈ am_MTL.getD 11 [], am_CPr 11 q := by
  show ∀ q ∈ [(121, 80, 2, 1, false), (125, 26, 1, 0, false), (129, 85, 1, 0, false), (135, 34, 1, 0, false), (142, 4, 2, 0, false), (147, 13, 2, 0, false), (148, 14, 1, 0, false), (151, 86, 0, 0, false), (155, 16, 0, 0, false), (159, 82, 1, 0, false), (166, 87, 0, 0, false), (169, 38, 2, 0, false), (173, 83, 1, 1, false), (178, 88, 2, 0, false), (181, 39, 1, 0, false), (184, 59, 1, 0, false), (187, 89, 1, 0, false), (190, 15, 2, 0, false), (193, 40, 2, 0, false), (200, 44, 2, 0, false), (206, 6, 0, 0, false), (215, 7, 2, 0, false), (219, 8, 0, 0, false), (223, 90, 0, 0, false), (226, 21, 3, 0, false), (230, 92, 1, 0, false), (233, 94, 2, 0, false), (236, 95, 2, 0, false), (243, 24, 4, 0, false), (247, 84, 1, 1, false), (250, 17, 2, 0, false), (253, 18, 2, 0, false), (256, 20, 2, 0, false), (265, 19, 2, 0, false), (268, 1002, 5, 1, false), (274, 1000, 2, 1, false), (282, 78, 1, 0, false), (285, 96, 2, 1, false), (289, 48, 1, 0, false), (292, 49, 1, 0, false), (295, 97, 2, 0, false), (299, 98, 2, 0, false), (302, 99, 2, 0, false), (305, 57, 1, 0, false), (308, 58, 1, 0, false), (311, 60, 0, 0, false), (314, 63, 0, 0, false), (317, 64, 1, 0, false), (320, 67, 0, 0, false), (323, 71, 2, 0, false), (327, 28, 1, 0, false), (331, 0, 1, 0, false), (332, 10, 1, 0, false), (336, 37, 2, 0, false), (340, 91, 2, 0, false), (343, 22, 1, 0, false), (346, 23, 2, 0, false), (350, 93, 1, 0, false), (353, 81, 2, 1, false), (356, 1001, 2, 1, false), (361, 50, 2, 0, false), (364, 51, 2, 0, false), (369, 55, 3, 0, false), (373, 56, 2, 0, false), (376, 61, 2, 0, false), (379, 62, 1, 0, false), (382, 68, 2, 0, false), (385, 69, 1, 0, false), (388, 70, 4, 0, false)], am_CPr 11 q
  exact List.forall_mem_cons.mpr ⟨am_cp_11_121, List.forall_mem_cons.mpr ⟨am_cp_11_125, List.forall_mem_cons.mpr ⟨am_cp_11_129, List.forall_mem_cons.mpr ⟨am_cp_11_135, List.forall_mem_cons.mpr ⟨am_cp_11_142, List.forall_mem_cons.mpr ⟨am_cp_11_147, List.forall_mem_cons.mpr ⟨am_cp_11_148, List.forall_mem_cons.mpr ⟨am_cp_11_151, List.forall_mem_cons.mpr ⟨am_cp_11_155, List.forall_mem_cons.mpr ⟨am_cp_11_159, List.forall_mem_cons.mpr ⟨am_cp_11_166, List.forall_mem_cons.mpr ⟨am_cp_11_169, List.forall_mem_cons.mpr ⟨am_cp_11_173, List.forall_mem_cons.mpr ⟨am_cp_11_178, List.forall_mem_cons.mpr ⟨am_cp_11_181, List.forall_mem_cons.mpr ⟨am_cp_11_184, List.forall_mem_cons.mpr ⟨am_cp_11_187, List.forall_mem_cons.mpr ⟨am_cp_11_190, List.forall_mem_cons.mpr ⟨am_cp_11_193, List.forall_mem_cons.mpr ⟨am_cp_11_200, List.forall_mem_cons.mpr ⟨am_cp_11_206, List.forall_mem_cons.mpr ⟨am_cp_11_215, List.forall_mem_cons.mpr ⟨am_cp_11_219, List.forall_mem_cons.mpr ⟨am_cp_11_223, List.forall_mem_cons.mpr ⟨am_cp_11_226, List.forall_mem_cons.mpr ⟨am_cp_11_230, List.forall_mem_cons.mpr ⟨am_cp_11_233, List.forall_mem_cons.mpr ⟨am_cp_11_236, List.forall_mem_cons.mpr ⟨am_cp_11_243, List.forall_mem_cons.mpr ⟨am_cp_11_247, List.forall_mem_cons.mpr ⟨am_cp_11_250, List.forall_mem_cons.mpr ⟨am_cp_11_253, List.forall_mem_cons.mpr ⟨am_cp_11_256, List.forall_mem_cons.mpr ⟨am_cp_11_265, List.forall_mem_cons.mpr ⟨am_cp_11_268, List.forall_mem_cons.mpr ⟨am_cp_11_274, List.forall_mem_cons.mpr ⟨am_cp_11_282, List.forall_mem_cons.mpr ⟨am_cp_11_285, List.forall_mem_cons.mpr ⟨am_cp_11_289, List.forall_mem_cons.mpr ⟨am_cp_11_292, List.forall_mem_cons.mpr ⟨am_cp_11_295, List.forall_mem_cons.mpr ⟨am_cp_11_299, List.forall_mem_cons.mpr ⟨am_cp_11_302, List.forall_mem_cons.mpr ⟨am_cp_11_305, List.forall_mem_cons.mpr ⟨am_cp_11_308, List.forall_mem_cons.mpr ⟨am_cp_11_311, List.forall_mem_cons.mpr ⟨am_cp_11_314, List.forall_mem_cons.mpr ⟨am_cp_11_317, List.forall_mem_cons.mpr ⟨am_cp_11_320, List.forall_mem_cons.mpr ⟨am_cp_11_323, List.forall_mem_cons.mpr ⟨am_cp_11_327, List.forall_mem_cons.mpr ⟨am_cp_11_331, List.forall_mem_cons.mpr ⟨am_cp_11_332, List.forall_mem_cons.mpr ⟨am_cp_11_336, List.forall_mem_cons.mpr ⟨am_cp_11_340, List.forall_mem_cons.mpr ⟨am_cp_11_343, List.forall_mem_cons.mpr ⟨am_cp_11_346, List.forall_mem_cons.mpr ⟨am_cp_11_350, List.forall_mem_cons.mpr ⟨am_cp_11_353, List.forall_mem_cons.mpr ⟨am_cp_11_356, List.forall_mem_cons.mpr ⟨am_cp_11_361, List.forall_mem_cons.mpr ⟨am_cp_11_364, List.forall_mem_cons.mpr ⟨am_cp_11_369, List.forall_mem_cons.mpr ⟨am_cp_11_373, List.forall_mem_cons.mpr ⟨am_cp_11_376, List.forall_mem_cons.mpr ⟨am_cp_11_379, List.forall_mem_cons.mpr ⟨am_cp_11_382, List.forall_mem_cons.mpr ⟨am_cp_11_385, List.forall_mem_cons.mpr ⟨am_cp_11_388, fun _ h => absurd h List.not_mem_nil⟩⟩⟩⟩⟩⟩⟩⟩⟩⟩⟩⟩⟩⟩⟩⟩⟩⟩⟩⟩⟩⟩⟩⟩⟩⟩⟩⟩⟩⟩⟩⟩⟩⟩⟩⟩⟩⟩⟩⟩⟩⟩⟩⟩⟩⟩⟩⟩⟩⟩⟩⟩⟩⟩⟩⟩⟩⟩⟩⟩⟩⟩⟩⟩⟩⟩⟩⟩⟩
theorem am_cp_12_85 : am_CPr 12 (85, 100, 3, 1, false) := ⟨fun _ => ⟨fun _ => am_ig (i := 1070) (by decide +kernel) rfl, fun h => absurd h (by decide), by decide +kernel, fun h => absurd h (by decide), fun _ => am_ig (i := 1071) (by decide +kernel) rfl⟩, fun h => absurd h (by decide), fun h => absurd h (by decide), fun h => absurd h (by decide), Or.inl (by decide)⟩
theorem am_cp_12_94 : am_CPr 12 (94, 109, 1, 1, false) := ⟨fun _ => ⟨fun _ => am_ig (i := 1066) (by decide +kernel) rfl, fun h => absurd h (by decide), by decide +kernel, fun h => absurd h (by decide), fun _ => am_ig (i := 1067) (by decide +kernel) rfl⟩, fun h => absurd h (by decide), fun h => absurd h (by decide), fun h => absurd h (by decide), Or.inl (by decide)⟩
theorem am_cp_12_100 : am_CPr 12 (100, 108, 1, 0, false) := ⟨fun _ => ⟨fun _ => am_ig (i := 1074) (by decide +kernel) rfl, fun h => absurd h (by decide), by decide +kernel, fun _ => ⟨am_ig (i := 1076) (by decide +kernel) rfl, am_ig (i := 26) (by decide +kernel) rfl⟩, fun h => absurd h (by decide)⟩, fun h => absurd h (by decide), fun h => absurd h (by decide), fun h => absurd h (by decide), Or.inl (by decide)⟩
theorem am_cp_12_104 : am_CPr 12 (104, 112, 3, 0, false) := ⟨fun _ => ⟨fun _ => am_ig (i := 1086) (by decide +kernel) rfl, fun h => absurd h (by decide), by decide +kernel, fun _ => ⟨am_ig (i := 1088) (by decide +kernel) rfl, am_ig (i := 27) (by decide +kernel) rfl⟩, fun h => absurd h (by decide)⟩, fun h => absurd h (by decide), fun h => absurd h (by decide), fun h => absurd h (by decide), Or.inl (by decide)⟩
theorem am_cp_12_108 : am_CPr 12 (108, 113, 2, 1, false) := ⟨fun _ => ⟨fun _ => am_ig (i := 1090) (by decide +kernel) rfl, fun h => absurd h (by decide), by decide +kernel, fun h => absurd h (by decide), fun _ => am_ig (i := 1091) (by decide +kernel) rfl⟩, fun h => absurd h (by decide), fun h => absurd h (by decide), fun h => absurd h (by decide), Or.inl (by decide)⟩
theorem am_cp_12_113 : am_CPr 12 (113, 117, 1, 1, false) := ⟨fun _ => ⟨fun _ => am_ig (i := 1106) (by decide +kernel) rfl, fun h => absurd h (by decide), by decide +kernel, fun h => absurd h (by decide), fun _ => am_ig (i := 1107) (by decide +kernel) rfl⟩, fun h => absurd h (by decide), fun h => absurd h (by decide), fun h => absurd h (by decide), Or.inl (by decide)⟩
theorem am_cp_12_124 : am_CPr 12 (124, 121, 1, 0, false) := ⟨fun _ => ⟨fun _ => am_ig (i := 1130) (by decide +kernel) rfl, fun h => absurd h (by decide), by decide +kernel, fun _ => ⟨am_ig (i := 1132) (by decide +kernel) rfl, am_ig (i := 30) (by decide +kernel) rfl⟩, fun h => absurd h (by decide)⟩, fun h => absurd h (by decide), fun h => absurd h (by decide), fun h => absurd h (by decide), Or.inl (by decide)⟩
theorem am_cp_12_127 : am_CPr 12 (127, 122, 1, 1, false) := ⟨fun _ => ⟨fun _ => am_ig (i := 1134) (by decide +kernel) rfl, fun h => absurd h (by decide), by decide +kernel, fun h => absurd h (by decide), fun _ => am_ig (i := 1135) (by decide +kernel) rfl⟩, fun h => absurd h (by decide), fun h => absurd h (by decide), fun h => absurd h (by decide), Or.inl (by decide)⟩
theorem am_cp_12_133 : am_CPr 12 (133, 123, 1, 1, false) := ⟨fun _ => ⟨fun _ => am_ig (i := 1141) (by decide +kernel) rfl, fun h => absurd h (by decide), by decide +kernel, fun h => absurd h (by decide), fun _ => am_ig (i := 1142) (by decide +kernel) rfl⟩, fun h => absurd h (by decide), fun h => absurd h (by decide), fun h => absurd h (by decide), Or.inl (by decide)⟩
theorem am_cp_12_138 : am_CPr 12 (138, 126, 2, 1, false) := ⟨fun _ => ⟨fun _ => am_ig (i := 1151) (by decide +kernel) rfl, fun h => absurd h (by decide), by decide +kernel, fun h => absurd h (by decide), fun _ => am_ig (i := 1152) (by decide +kernel) rfl⟩, fun h => absurd h (by decide), fun h => absurd h (by decide), fun h => absurd h (by decide), Or.inl (by decide)⟩
theorem am_cp_12_144 : am_CPr 12 (144, 127, 2, 1, false) := ⟨fun _ => ⟨fun _ => am_ig (i := 1148) (by decide +kernel) rfl, fun h => absurd h (by decide), by decide +kernel, fun h => absurd h (by decide), fun _ => am_ig (i := 1149) (by decide +kernel) rfl⟩, fun h => absurd h (by decide), fun h => absurd h (by decide), fun h => absurd h (by decide), Or.inl (by decide)⟩
theorem am_cp_12_147 : am_CPr 12 (147, 124, 0, 0, false) := ⟨fun _ => ⟨fun _ => am_ig (i := 1126) (by decide +kernel) rfl, fun h => absurd h (by decide), by decide +kernel, fun _ => ⟨am_ig (i := 1128) (by decide +kernel) rfl, am_ig (i := 29) (by decide +kernel) rfl⟩, fun h => absurd h (by decide)⟩, fun h => absurd h (by decide), fun h => absurd h (by decide), fun h => absurd h (by decide), Or.inl (by decide)⟩
theorem am_cp_12_151 : am_CPr 12 (151, 125, 0, 0, false) := ⟨fun _ => ⟨fun _ => am_ig (i := 1137) (by decide +kernel) rfl, fun h => absurd h (by decide), by decide +kernel, fun _ => ⟨am_ig (i := 1139) (by decide +kernel) rfl, am_ig (i := 31) (by decide +kernel) rfl⟩, fun h => absurd h (by decide)⟩, fun h => absurd h (by decide), fun h => absurd h (by decide), fun h => absurd h (by decide), Or.inl (by decide)⟩
theorem am_cp_12_154 : am_CPr 12 (154, 128, 0, 0, false) := ⟨fun _ => ⟨fun _ => am_ig (i := 1144) (by decide +kernel) rfl, fun h => absurd h (by decide), by decide +kernel, fun _ => ⟨am_ig (i := 1146) (by decide +kernel) rfl, am_ig (i := 32) (by decide +kernel) rfl⟩, fun h => absurd h (by decide)⟩, fun h => absurd h (by decide), fun h => absurd h (by decide), fun h => absurd h (by decide), Or.inl (by decide)⟩
theorem am_cp_12_157 : am_CPr 12 (157, 129, 1, 0, false) := ⟨fun _ => ⟨fun _ => am_ig (i := 1122) (by decide +kernel) rfl, fun h => absurd h (by decide), by decide +kernel, fun _ => ⟨am_ig (i := 1124) (by decide +kernel) rfl, am_ig (i := 28) (by decide +kernel) rfl⟩, fun h => absurd h (by decide)⟩, fun h => absurd h (by decide), fun h => absurd h (by decide), fun h => absurd h (by decide), Or.inl (by decide)⟩
theorem am_cp_12_164 : am_CPr 12 (164, 131, 1, 0, false) := ⟨fun _ => ⟨fun _ => am_ig (i := 1164) (by decide +kernel) rfl, fun h => absurd h (by decide), by decide +kernel, fun _ => ⟨am_ig (i := 1166) (by decide +kernel) rfl, am_ig (i := 33) (by decide +kernel) rfl⟩, fun h => absurd h (by decide)⟩, fun h => absurd h (by decide), fun h => absurd h (by decide), fun h => absurd h (by decide), Or.inl (by decide)⟩
theorem am_cp_12_169 : am_CPr 12 (169, 135, 2, 0, false) := ⟨fun _ => ⟨fun _ => am_ig (i := 1169) (by decide +kernel) rfl, fun h => absurd h (by decide), by decide +kernel, fun _ => ⟨am_ig (i := 1171) (by decide +kernel) rfl, am_ig (i := 34) (by decide +kernel) rfl⟩, fun h => absurd h (by decide)⟩, fun h => absurd h (by decide), fun h => absurd h (by decide), fun h => absurd h (by decide), Or.inl (by decide)⟩
theorem am_cp_12_172 : am_CPr 12 (172, 132, 1, 0, false) := ⟨fun _ => ⟨fun _ => am_ig (i := 1177) (by decide +kernel) rfl, fun h => absurd h (by decide), by decide +kernel, fun _ => ⟨am_ig (i := 1179) (by decide +kernel) rfl, am_ig (i := 35) (by decide +kernel) rfl⟩, fun h => absurd h (by decide)⟩, fun h => absurd h (by decide), fun h => absurd h (by decide), fun h => absurd h (by decide), Or.inl (by decide)⟩
theorem am_cp_12_177 : am_CPr 12 (177, 133, 1, 1, false) := ⟨fun _ => ⟨fun _ => am_ig (i := 1186) (by decide +kernel) rfl, fun h => absurd h (by decide), by decide +kernel, fun h => absurd h (by decide), fun _ => am_ig (i := 1187) (by decide +kernel) rfl⟩, fun h => absurd h (by decide), fun h => absurd h (by decide), fun h => absurd h (by decide), Or.inl (by decide)⟩
theorem am_cp_12_183 : am_CPr 12 (183, 138, 1, 0, false) := ⟨fun _ => ⟨fun _ => am_ig (i := 1198) (by decide +kernel) rfl, fun h => absurd h (by decide), by decide +kernel, fun _ => ⟨am_ig (i := 1183) (by decide +kernel) rfl, am_ig (i := 1184) (by decide +kernel) rfl⟩, fun h => absurd h (by decide)⟩, fun h => absurd h (by decide), fun h => absurd h (by decide), fun h => absurd h (by decide), Or.inl (by decide)⟩
theorem am_cp_12_185 : am_CPr 12 (185, 103, 2, 1, false) := ⟨fun _ => ⟨fun _ => am_ig (i := 1227) (by decide +kernel) rfl, fun h => absurd h (by decide), by decide +kernel, fun h => absurd h (by decide), fun _ => am_ig (i := 1228) (by decide +kernel) rfl⟩, fun h => absurd h (by decide), fun h => absurd h (by decide), fun h => absurd h (by decide), Or.inl (by decide)⟩
theorem am_cp_12_192 : am_CPr 12 (192, 141, 1, 0, false) := ⟨fun _ => ⟨fun _ => am_ig (i := 1223) (by decide +kernel) rfl, fun h => absurd h (by decide), by decide +kernel, fun _ => ⟨am_ig (i := 1225) (by decide +kernel) rfl, am_ig (i := 41) (by decide +kernel) rfl⟩, fun h => absurd h (by decide)⟩, fun h => absurd h (by decide), fun h => absurd h (by decide), fun h => absurd h (by decide), Or.inl (by decide)⟩
theorem am_cp_12_195 : am_CPr 12 (195, 142, 2, 1, false) := ⟨fun _ => ⟨fun _ => am_ig (i := 1230) (by decide +kernel) rfl, fun h => absurd h (by decide), by decide +kernel, fun h => absurd h (by decide), fun _ => am_ig (i := 1231) (by decide +kernel) rfl⟩, fun h => absurd h (by decide), fun h => absurd h (by decide), fun h => absurd h (by decide), Or.inl (by decide)⟩
theorem am_cp_12_198 : am_CPr 12 (198, 144, 3, 0, false) := ⟨fun _ => ⟨fun _ => am_ig (i := 1233) (by decide +kernel) rfl, fun h => absurd h (by decide), by decide +kernel, fun _ => ⟨am_ig (i := 1235) (by decide +kernel) rfl, am_ig (i := 42) (by decide +kernel) rfl⟩, fun h => absurd h (by decide)⟩, fun h => absurd h (by decide), fun h => absurd h (by decide), fun h => absurd h (by decide), Or.inl (by decide)⟩
theorem am_cp_12_201 : am_CPr 12 (201, 143, 2, 0, false) := ⟨fun _ => ⟨fun _ => am_ig (i := 1237) (by decide +kernel) rfl, fun h => absurd h (by decide), by decide +kernel, fun _ => ⟨am_ig (i := 1239) (by decide +kernel) rfl, am_ig (i := 43) (by decide +kernel) rfl⟩, fun h => absurd h (by decide)⟩, fun h => absurd h (by decide), fun h => absurd h (by decide), fun h => absurd h (by decide), Or.inl (by decide)⟩
theorem am_cp_12_204 : am_CPr 12 (204, 145, 2, 0, false) := ⟨fun _ => ⟨fun _ => am_ig (i := 1215) (by decide +kernel) rfl, fun h => absurd h (by decide), by decide +kernel, fun _ => ⟨am_ig (i := 1217) (by decide +kernel) rfl, am_ig (i := 39) (by decide +kernel) rfl⟩, fun h => absurd h (by decide)⟩, fun h => absurd h (by decide), fun h => absurd h (by decide), fun h => absurd h (by decide), Or.inl (by decide)⟩
theorem am_cp_12_217 : am_CPr 12 (217, 148, 0, 0, false) := ⟨fun _ => ⟨fun _ => am_ig (i := 1211) (by decide +kernel) rfl, fun h => absurd h (by decide), by decide +kernel, fun _ => ⟨am_ig (i := 1213) (by decide +kernel) rfl, am_ig (i := 38) (by decide +kernel) rfl⟩, fun h => absurd h (by decide)⟩, fun h => absurd h (by decide), fun h => absurd h (by decide), fun h => absurd h (by decide), Or.inl (by decide)⟩
theorem am_cp_12_220 : am_CPr 12 (220, 146, 2, 0, false) := ⟨fun _ => ⟨fun _ => am_ig (i := 1219) (by decide +kernel) rfl, fun h => absurd h (by decide), by decide +kernel, fun _ => ⟨am_ig (i := 1221) (by decide +kernel) rfl, am_ig (i := 40) (by decide +kernel) rfl⟩, fun h => absurd h (by decide)⟩, fun h => absurd h (by decide), fun h => absurd h (by decide), fun h => absurd h (by decide), Or.inl (by decide)⟩
theorem am_cp_12_223 : am_CPr 12 (223, 147, 1, 0, false) := ⟨fun _ => ⟨fun _ => am_ig (i := 1241) (by decide +kernel) rfl, fun h => absurd h (by decide), by decide +kernel, fun _ => ⟨am_ig (i := 1243) (by decide +kernel) rfl, am_ig (i := 44) (by decide +kernel) rfl⟩, fun h => absurd h (by decide)⟩, fun h => absurd h (by decide), fun h => absurd h (by decide), fun h => absurd h (by decide), Or.inl (by decide)⟩
theorem am_cp_12_227 : am_CPr 12 (227, 149, 0, 0, false) := ⟨fun _ => ⟨fun _ => am_ig (i := 1207) (by decide +kernel) rfl, fun h => absurd h (by decide), by decide +kernel, fun _ => ⟨am_ig (i := 1209) (by decide +kernel) rfl, am_ig (i := 37) (by decide +kernel) rfl⟩, fun h => absurd h (by decide)⟩, fun h => absurd h (by decide), fun h => absurd h (by decide), fun h => absurd h (by decide), Or.inl (by decide)⟩
theorem am_cp_12_230 : am_CPr 12 (230, 150, 0, 0, false) := ⟨fun _ => ⟨fun _ => am_ig (i := 1203) (by decide +kernel) rfl, fun h => absurd h (by decide), by decide +kernel, fun _ => ⟨am_ig (i := 1205) (by decide +kernel) rfl, am_ig (i := 36) (by decide +kernel) rfl⟩, fun h => absurd h (by decide)⟩, fun h => absurd h (by decide), fun h => absurd h (by decide), fun h => absurd h (by decide), Or.inl (by decide)⟩
theorem am_cp_12_233 : am_CPr 12 (233, 102, 1, 1, false) := ⟨fun _ => ⟨fun _ => am_ig (i := 1249) (by decide +kernel) rfl, fun h => absurd h (by decide), by decide +kernel, fun h => absurd h (by decide), fun _ => am_ig (i := 1250) (by decide +kernel) rfl⟩, fun h => absurd h (by decide), fun h => absurd h (by decide), fun h => absurd h (by decide), Or.inl (by decide)⟩
theorem am_cp_12_236 : am_CPr 12 (236, 153, 1, 0, false) := ⟨fun _ => ⟨fun _ => am_ig (i := 1256) (by decide +kernel) rfl, fun h => absurd h (by decide), by decide +kernel, fun _ => ⟨am_ig (i := 1258) (by decide +kernel) rfl, am_ig (i := 45) (by decide +kernel) rfl⟩, fun h => absurd h (by decide)⟩, fun h => absurd h (by decide), fun h => absurd h (by decide), fun h => absurd h (by decide), Or.inl (by decide)⟩
theorem am_cp_12_239 : am_CPr 12 (239, 155, 1, 0, false) := ⟨fun _ => ⟨fun _ => am_ig (i := 1264) (by decide +kernel) rfl, fun h => absurd h (by decide), by decide +kernel, fun _ => ⟨am_ig (i := 1266) (by decide +kernel) rfl, am_ig (i := 46) (by decide +kernel) rfl⟩, fun h => absurd h (by decide)⟩, fun h => absurd h (by decide), fun h => absurd h (by decide), fun h => absurd h (by decide), Or.inl (by decide)⟩
theorem am_cp_12_242 : am_CPr 12 (242, 158, 0, 0, false) := ⟨fun _ => ⟨fun _ => am_ig (i := 1276) (by decide +kernel) rfl, fun h => absurd h (by decide), by decide +kernel, fun _ => ⟨am_ig (i := 1278) (by decide +kernel) rfl, am_ig (i := 47) (by decide +kernel) rfl⟩, fun h => absurd h (by decide)⟩, fun h => absurd h (by decide), fun h => absurd h (by decide), fun h => absurd h (by decide), Or.inl (by decide)⟩
theorem am_cp_12_245 : am_CPr 12 (245, 160, 1, 0, false) := ⟨fun _ => ⟨fun _ => am_ig (i := 1288) (by decide +kernel) rfl, fun h => absurd h (by decide), by decide +kernel, fun _ => ⟨am_ig (i := 1290) (by decide +kernel) rfl, am_ig (i := 49) (by decide +kernel) rfl⟩, fun h => absurd h (by decide)⟩, fun h => absurd h (by decide), fun h => absurd h (by decide), fun h => absurd h (by decide), Or.inl (by decide)⟩
theorem am_cp_12_248 : am_CPr 12 (248, 161, 2, 0, false) := ⟨fun _ => ⟨fun _ => am_ig (i := 1284) (by decide +kernel) rfl, fun h => absurd h (by decide), by decide +kernel, fun _ => ⟨am_ig (i := 1286) (by decide +kernel) rfl, am_ig (i := 48) (by decide +kernel) rfl⟩, fun h => absurd h (by decide)⟩, fun h => absurd h (by decide), fun h => absurd h (by decide), fun h => absurd h (by decide), Or.inl (by decide)⟩
theorem am_cp_12_251 : am_CPr 12 (251, 163, 1, 0, false) := ⟨fun _ => ⟨fun _ => am_ig (i := 1296) (by decide +kernel) rfl, fun h => absurd h (by decide), by decide +kernel, fun _ => ⟨am_ig (i := 1298) (by decide +kernel) rfl, am_ig (i := 50) (by decide +kernel) rfl⟩, fun h => absurd h (by decide)⟩, fun h => absurd h (by decide), fun h => absurd h (by decide), fun h => absurd h (by decide), Or.inl (by decide)⟩
theorem am_cp_12_254 : am_CPr 12 (254, 165, 2, 0, false) := ⟨fun _ => ⟨fun _ => am_ig (i := 1308) (by decide +kernel) rfl, fun h => absurd h (by decide), by decide +kernel, fun _ => ⟨am_ig (i := 1310) (by decide +kernel) rfl, am_ig (i := 52) (by decide +kernel) rfl⟩, fun h => absurd h (by decide)⟩, fun h => absurd h (by decide), fun h => absurd h (by decide), fun h => absurd h (by decide), Or.inl (by decide)⟩
theorem am_cp_12_257 : am_CPr 12 (257, 106, 2, 1, false) := ⟨fun _ => ⟨fun _ => am_ig (i := 1312) (by decide +kernel) rfl, fun h => absurd h (by decide), by decide +kernel, fun h => absurd h (by decide), fun _ => am_ig (i := 1313) (by decide +kernel) rfl⟩, fun h => absurd h (by decide), fun h => absurd h (by decide), fun h => absurd h (by decide), Or.inl (by decide)⟩
theorem am_cp_12_260 : am_CPr 12 (260, 166, 0, 0, false) := ⟨fun _ => ⟨fun _ => am_ig (i := 1304) (by decide +kernel) rfl, fun h => absurd h (by decide), by decide +kernel, fun _ => ⟨am_ig (i := 1306) (by decide +kernel) rfl, am_ig (i := 51) (by decide +kernel) rfl⟩, fun h => absurd h (by decide)⟩, fun h => absurd h (by decide), fun h => absurd h (by decide), fun h => absurd h (by decide), Or.inl (by decide)⟩
theorem am_cp_12_263 : am_CPr 12 (263, 168, 1, 0, false) := ⟨fun _ => ⟨fun _ => am_ig (i := 1324) (by decide +kernel) rfl, fun h => absurd h (by decide), by decide +kernel, fun _ => ⟨am_ig (i := 1326) (by decide +kernel) rfl, am_ig (i := 54) (by decide +kernel) rfl⟩, fun h => absurd h (by decide)⟩, fun h => absurd h (by decide), fun h => absurd h (by decide), fun h => absurd h (by decide), Or.inl (by decide)⟩
theorem am_cp_12_268 : am_CPr 12 (268, 169, 1, 0, false) := ⟨fun _ => ⟨fun _ => am_ig (i := 1320) (by decide +kernel) rfl, fun h => absurd h (by decide), by decide +kernel, fun _ => ⟨am_ig (i := 1322) (by decide +kernel) rfl, am_ig (i := 53) (by decide +kernel) rfl⟩, fun h => absurd h (by decide)⟩, fun h => absurd h (by decide), fun h => absurd h (by decide), fun h => absurd h (by decide), Or.inl (by decide)⟩
theorem am_cp_12_276 : am_CPr 12 (276, 173, 0, 0, false) := ⟨fun _ => ⟨fun _ => am_ig (i := 1345) (by decide +kernel) rfl, fun h => absurd h (by decide), by decide +kernel, fun _ => ⟨am_ig (i := 1347) (by decide +kernel) rfl, am_ig (i := 56) (by decide +kernel) rfl⟩, fun h => absurd h (by decide)⟩, fun h => absurd h (by decide), fun h => absurd h (by decide), fun h => absurd h (by decide), Or.inl (by decide)⟩
theorem am_cp_12_280 : am_CPr 12 (280, 174, 0, 0, false) := ⟨fun _ => ⟨fun _ => am_ig (i := 1341) (by decide +kernel) rfl, fun h => absurd h (by decide), by decide +kernel, fun _ => ⟨am_ig (i := 1343) (by decide +kernel) rfl, am_ig (i := 55) (by decide +kernel) rfl⟩, fun h => absurd h (by decide)⟩, fun h => absurd h (by decide), fun h => absurd h (by decide), fun h => absurd h (by decide), Or.inl (by decide)⟩
theorem am_cp_12_283 : am_CPr 12 (283, 176, 2, 0, false) := ⟨fun _ => ⟨fun _ => am_ig (i := 1353) (by decide +kernel) rfl, fun h => absurd h (by decide), by decide +kernel, fun _ => ⟨am_ig (i := 1355) (by decide +kernel) rfl, am_ig (i := 57) (by decide +kernel) rfl⟩, fun h => absurd h (by decide)⟩, fun h => absurd h (by decide), fun h => absurd h (by decide), fun h => absurd h (by decide), Or.inl (by decide)⟩
theorem am_cp_12_286 : am_CPr 12 (286, 178, 2, 0, false) := ⟨fun _ => ⟨fun _ => am_ig (i := 1365) (by decide +kernel) rfl, fun h => absurd h (by decide), by decide +kernel, fun _ => ⟨am_ig (i := 1367) (by decide +kernel) rfl, am_ig (i := 59) (by decide +kernel) rfl⟩, fun h => absurd h (by decide)⟩, fun h => absurd h (by decide), fun h => absurd h (by decide), fun h => absurd h (by decide), Or.inl (by decide)⟩
theorem am_cp_12_289 : am_CPr 12 (289, 179, 1, 0, false) := ⟨fun _ => ⟨fun _ => am_ig (i := 1361) (by decide +kernel) rfl, fun h => absurd h (by decide), by decide +kernel, fun _ => ⟨am_ig (i := 1363) (by decide +kernel) rfl, am_ig (i := 58) (by decide +kernel) rfl⟩, fun h => absurd h (by decide)⟩, fun h => absurd h (by decide), fun h => absurd h (by decide), fun h => absurd h (by decide), Or.inl (by decide)⟩
theorem am_cp_12_292 : am_CPr 12 (292, 107, 3, 1, false) := ⟨fun _ => ⟨fun _ => am_ig (i := 1379) (by decide +kernel) rfl, fun h => absurd h (by decide), by decide +kernel, fun h => absurd h (by decide), fun _ => am_ig (i := 1380) (by decide +kernel) rfl⟩, fun h => absurd h (by decide), fun h => absurd h (by decide), fun h => absurd h (by decide), Or.inl (by decide)⟩
theorem am_cp_12_300 : am_CPr 12 (300, 181, 4, 0, false) := ⟨fun _ => ⟨fun _ => am_ig (i := 1375) (by decide +kernel) rfl, fun h => absurd h (by decide), by decide +kernel, fun _ => ⟨am_ig (i := 1377) (by decide +kernel) rfl, am_ig (i := 60) (by decide +kernel) rfl⟩, fun h => absurd h (by decide)⟩, fun h => absurd h (by decide), fun h => absurd h (by decide), fun h => absurd h (by decide), Or.inl (by decide)⟩
theorem am_cp_12_304 : am_CPr 12 (304, 101, 1, 1, false) := ⟨fun _ => ⟨fun _ => am_ig (i := 1382) (by decide +kernel) rfl, fun h => absurd h (by decide), by decide +kernel, fun h => absurd h (by decide), fun _ => am_ig (i := 1383) (by decide +kernel) rfl⟩, fun h => absurd h (by decide), fun h => absurd h (by decide), fun h => absurd h (by decide), Or.inl (by decide)⟩
theorem am_cp_12_312 : am_CPr 12 (312, 183, 1, 0, false) := ⟨fun _ => ⟨fun _ => am_ig (i := 1394) (by decide +kernel) rfl, fun h => absurd h (by decide), by decide +kernel, fun _ => ⟨am_ig (i := 1396) (by decide +kernel) rfl, am_ig (i := 62) (by decide +kernel) rfl⟩, fun h => absurd h (by decide)⟩, fun h => absurd h (by decide), fun h => absurd h (by decide), fun h => absurd h (by decide), Or.inl (by decide)⟩
theorem am_cp_12_315 : am_CPr 12 (315, 104, 1, 1, false) := ⟨fun _ => ⟨fun _ => am_ig (i := 1399) (by decide +kernel) rfl, fun h => absurd h (by decide), by decide +kernel, fun h => absurd h (by decide), fun _ => am_ig (i := 1400) (by decide +kernel) rfl⟩, fun h => absurd h (by decide), fun h => absurd h (by decide), fun h => absurd h (by decide), Or.inl (by decide)⟩
theorem am_cp_12_318 : am_CPr 12 (318, 184, 2, 0, false) := ⟨fun _ => ⟨fun _ => am_ig (i := 1390) (by decide +kernel) rfl, fun h => absurd h (by decide), by decide +kernel, fun _ => ⟨am_ig (i := 1392) (by decide +kernel) rfl, am_ig (i := 61) (by decide +kernel) rfl⟩, fun h => absurd h (by decide)⟩, fun h => absurd h (by decide), fun h => absurd h (by decide), fun h => absurd h (by decide), Or.inl (by decide)⟩
theorem am_cp_12_321 : am_CPr 12 (321, 105, 2, 1, false) := ⟨fun _ => ⟨fun _ => am_ig (i := 1406) (by decide +kernel) rfl, fun h => absurd h (by decide), by decide +kernel, fun h => absurd h (by decide), fun _ => am_ig (i := 1407) (by decide +kernel) rfl⟩, fun h => absurd h (by decide), fun h => absurd h (by decide), fun h => absurd h (by decide), Or.inl (by decide)⟩
theorem am_cp_12_326 : am_CPr 12 (326, 188, 3, 0, false) := ⟨fun _ => ⟨fun _ => am_ig (i := 1424) (by decide +kernel) rfl, fun h => absurd h (by decide), by decide +kernel, fun _ => ⟨am_ig (i := 1426) (by decide +kernel) rfl, am_ig (i := 64) (by decide +kernel) rfl⟩, fun h => absurd h (by decide)⟩, fun h => absurd h (by decide), fun h => absurd h (by decide), fun h => absurd h (by decide), Or.inl (by decide)⟩
theorem am_cp_12_332 : am_CPr 12 (332, 187, 1, 0, false) := ⟨fun _ => ⟨fun _ => am_ig (i := 1419) (by decide +kernel) rfl, fun h => absurd h (by decide), by decide +kernel, fun _ => ⟨am_ig (i := 1410) (by decide +kernel) rfl, am_ig (i := 1411) (by decide +kernel) rfl⟩, fun h => absurd h (by decide)⟩, fun h => absurd h (by decide), fun h => absurd h (by decide), fun h => absurd h (by decide), Or.inl (by decide)⟩
theorem am_cp_12_335 : am_CPr 12 (335, 189, 2, 0, false) := ⟨fun _ => ⟨fun _ => am_ig (i := 1420) (by decide +kernel) rfl, fun h => absurd h (by decide), by decide +kernel, fun _ => ⟨am_ig (i := 1422) (by decide +kernel) rfl, am_ig (i := 63) (by decide +kernel) rfl⟩, fun h => absurd h (by decide)⟩, fun h => absurd h (by decide), fun h => absurd h (by decide), fun h => absurd h (by decide), Or.inl (by decide)⟩
theorem am_cpA_12 : ∀ q ∈ am_MTL.getD 12 [], am_CPr 12 q := by
  show ∀ q ∈ [(85, 100, 3, 1, false), (94, 109, 1, 1, false), (100, 108, 1, 0, false), (104, 112, 3, 0, false), (108, 113, 2, 1, false), (113, 117, 1, 1, false), (124, 121, 1, 0, false), (127, 122, 1, 1, false), (133, 123, 1, 1, false), (138, 126, 2, 1, false), (144, 127, 2, 1, false), (147, 124, 0, 0, false), (151, 125, 0, 0, false), (154, 128, 0, 0, false), (157, 129, 1, 0, false), (164, 131, 1, 0, false), (169, 135, 2, 0, false), (172, 132, 1, 0, false), (177, 133, 1, 1, false), (183, 138, 1, 0, false), (185, 103, 2, 1, false), (192, 141, 1, 0, false), (195, 142, 2, 1, false), (198, 144, 3, 0, false), (201, 143, 2, 0, false), (204, 145, 2, 0, false), (217, 148, 0, 0, false), (220, 146, 2, 0, false), (223, 147, 1, 0, false), (227, 149, 0, 0, false), (230, 150, 0, 0, false), (233, 102, 1, 1, false), (236, 153, 1, 0, false), (239, 155, 1, 0, false), (242, 158, 0, 0, false), (245, 160, 1, 0, false), (248, 161, 2, 0, false), (251, 163, 1, 0, false), (254, 165, 2, 0, false), (257, 106, 2, 1, false), (260, 166, 0, 0, false), (263, 168, 1, 0, false), (268, 169, 1, 0, false), (276, 173, 0, 0, false), (280, 174, 0, 0, false), (283, 176, 2, 0, false), (286, 178, 2, 0, false), (289, 179, 1, 0, false), (292, 107, 3, 1, false), (300, 181, 4, 0, false), (304, 101, 1, 1, false), (312, 183, 1, 0, false), (315, 104, 1, 1, false), (318, 184, 2, 0, false), (321, 105, 2, 1, false), (326, 188, 3, 0, false), (332, 187, 1, 0, false), (335, 189, 2, 0, false)], am_CPr 12 q
  exact List.forall_mem_cons.mpr ⟨am_cp_12_85, List.forall_mem_cons.mpr ⟨am_cp_12_94, List.forall_mem_cons.mpr ⟨am_cp_12_100, List.forall_mem_cons.mpr ⟨am_cp_12_104, List.forall_mem_cons.mpr ⟨am_cp_12_108, List.forall_mem_cons.mpr ⟨am_cp_12_113, List.forall_mem_cons.mpr ⟨am_cp_12_124, List.forall_mem_cons.mpr ⟨am_cp_12_127, List.forall_mem_cons.mpr ⟨am_cp_12_133, List.forall_mem_cons.mpr ⟨am_cp_12_138, List.forall_mem_cons.mpr ⟨am_cp_12_144, List.forall_mem_cons.mpr ⟨am_cp_12_147, List.forall_mem_cons.mpr ⟨am_cp_12_151, List.forall_mem_cons.mpr ⟨am_cp_12_154, List.forall_mem_cons.mpr ⟨am_cp_12_157, List.forall_mem_cons.mpr ⟨am_cp_12_164, List.forall_mem_cons.mpr ⟨am_cp_12_169, List.forall_mem_cons.mpr ⟨am_cp_12_172, List.forall_mem_cons.mpr ⟨am_cp_12_177, List.forall_mem_cons.mpr ⟨am_cp_12_183, List.forall_mem_cons.mpr ⟨am_cp_12_185, List.forall_mem_cons.mpr ⟨am_cp_12_192, List.forall_mem_cons.mpr ⟨am_cp_12_195, List.forall_mem_cons.mpr ⟨am_cp_12_198, List.forall_mem_cons.mpr ⟨am_cp_12_201, List.forall_mem_cons.mpr ⟨am_cp_12_204, List.forall_mem_cons.mpr ⟨am_cp_12_217, List.forall_mem_cons.mpr ⟨am_cp_12_220, List.forall_mem_cons.mpr ⟨am_cp_12_223, List.forall_mem_cons.mpr ⟨am_cp_12_227, List.forall_mem_cons.mpr ⟨am_cp_12_230, List.forall_mem_cons.mpr ⟨am_cp_12_233, List.forall_mem_cons.mpr ⟨am_cp_12_236, List.forall_mem_cons.mpr ⟨am_cp_12_239, List.forall_mem_cons.mpr ⟨am_cp_12_242, List.forall_mem_cons.mpr ⟨am_cp_12_245, List.forall_mem_cons.mpr ⟨am_cp_12_248, List.forall_mem_cons.mpr ⟨am_cp_12_251, List.forall_mem_cons.mpr ⟨am_cp_12_254, List.forall_mem_cons.mpr ⟨am_cp_12_257, List.forall_mem_cons.mpr ⟨am_cp_12_260, List.forall_mem_cons.mpr ⟨am_cp_12_263, List.forall_mem_cons.mpr ⟨am_cp_12_268, List.forall_mem_cons.mpr ⟨am_cp_12_276, List.forall_mem_cons.mpr ⟨am_cp_12_280, List.forall_mem_cons.mpr ⟨am_cp_12_283, List.forall_mem_cons.mpr ⟨am_cp_12_286, List.forall_mem_cons.mpr ⟨am_cp_12_289, List.forall_mem_cons.mpr ⟨am_cp_12_292, List.forall_mem_cons.mpr ⟨am_cp_12_300, List.forall_mem_cons.mpr ⟨am_cp_12_304, List.forall_mem_cons.mpr ⟨am_cp_12_312, List.forall_mem_cons.mpr ⟨am_cp_12_315, List.forall_mem_cons.mpr ⟨am_cp_12_318, List.forall_mem_cons.mpr ⟨am_cp_12_321, List.forall_mem_cons.mpr ⟨am_cp_12_326, List.forall_mem_cons.mpr ⟨am_cp_12_332, List.forall_mem_cons.mpr ⟨am_cp_12_335, fun _ h => absurd h List.not_mem_nil⟩⟩⟩⟩⟩⟩⟩⟩⟩⟩⟩⟩⟩⟩⟩⟩⟩⟩⟩⟩⟩⟩⟩⟩⟩⟩⟩⟩⟩⟩⟩⟩⟩⟩⟩⟩⟩⟩⟩⟩⟩⟩⟩⟩⟩⟩⟩⟩⟩⟩⟩⟩⟩⟩⟩⟩⟩⟩
theorem am_cp_13_335 : am_CPr 13 (335, 195, 0, 0, false) := ⟨fun _ => ⟨fun _ => am_ig (i := 456) (by decide +kernel) rfl, fun h => absurd h (by decide), by decide +kernel, fun _ => ⟨am_ig (i := 457) (by decide +kernel) rfl, am_ig (i := 458) (by decide +kernel) rfl⟩, fun h => absurd h (by decide)⟩, fun h => absurd h (by decide), fun h => absurd h (by decide), fun h => absurd h (by decide), Or.inl (by decide)⟩
theorem am_cp_13_492 : am_CPr 13 (492, 193, 0, 0, false) := ⟨fun _ => ⟨fun _ => am_ig (i := 446) (by decide +kernel) rfl, fun h => absurd h (by decide), by decide +kernel, fun _ => ⟨am_ig (i := 447) (by decide +kernel) rfl, am_ig (i := 448) (by decide +kernel) rfl⟩, fun h => absurd h (by decide)⟩, fun h => absurd h (by decide), fun h => absurd h (by decide), fun h => absurd h (by decide), Or.inl (by decide)⟩
theorem am_cp_13_505 : am_CPr 13 (505, 194, 0, 0, false) := ⟨fun _ => ⟨fun _ => am_ig (i := 452) (by decide +kernel) rfl, fun h => absurd h (by decide), by decide +kernel, fun _ => ⟨am_ig (i := 453) (by decide +kernel) rfl, am_ig (i := 454) (by decide +kernel) rfl⟩, fun h => absurd h (by decide)⟩, fun h => absurd h (by decide), fun h => absurd h (by decide), fun h => absurd h (by decide), Or.inl (by decide)⟩
theorem am_cp_13_633 : am_CPr 13 (633, 192, 2, 0, false) := ⟨fun _ => ⟨fun _ => am_ig (i := 442) (by decide +kernel) rfl, fun h => absurd h (by decide), by decide +kernel, fun _ => ⟨am_ig (i := 443) (by decide +kernel) rfl, am_ig (i := 444) (by decide +kernel) rfl⟩, fun h => absurd h (by decide)⟩, fun h => absurd h (by decide), fun h => absurd h (by decide), fun h => absurd h (by decide), Or.inl (by decide)⟩
theorem am_cp_13_637 : am_CPr 13 (637, 197, 4, 1, false) := ⟨fun _ => ⟨fun _ => am_ig (i := 460) (by decide +kernel) rfl, fun h => absurd h (by decide), by decide +kernel, fun h => absurd h (by decide), fun _ => am_ig (i := 461) (by decide +kernel) rfl⟩, fun h => absurd h (by decide), fun h => absurd h (by decide), fun h => absurd h (by decide), Or.inl (by decide)⟩
theorem am_cpA_13 : ∀ q ∈ am_MTL.getD 13 [], am_CPr 13 q := by
  show ∀ q ∈ [(335, 195, 0, 0, false), (492, 193, 0, 0, false), (505, 194, 0, 0, false), (633, 192, 2, 0, false), (637, 197, 4, 1, false)], am_CPr 13 q
  exact List.forall_mem_cons.mpr ⟨am_cp_13_335, List.forall_mem_cons.mpr ⟨am_cp_13_492, List.forall_mem_cons.mpr ⟨am_cp_13_505, List.forall_mem_cons.mpr ⟨am_cp_13_633, List.forall_mem_cons.mpr ⟨am_cp_13_637, fun _ h => absurd h List.not_mem_nil⟩⟩⟩⟩⟩
theorem am_cp_14_38 : am_CPr 14 (38, 1000, 2, 1, false) := ⟨fun h => absurd h (by decide), fun _ => am_ig (i := 469) (by decide +kernel) rfl, fun h => absurd h (by decide), fun h => absurd h (by decide), Or.inr (by decide)⟩
theorem am_cp_14_88 : am_CPr 14 (88, 196, 1, 1, false) := ⟨fun _ => ⟨fun _ => am_ig (i := 463) (by decide +kernel) rfl, fun h => absurd h (by decide), by decide +kernel, fun h => absurd h (by decide), fun _ => am_ig (i := 464) (by decide +kernel) rfl⟩, fun h => absurd h (by decide), fun h => absurd h (by decide), fun h => absurd h (by decide), Or.inl (by decide)⟩
theorem am_cp_14_92 : am_CPr 14 (92, 1001, 2, 1, false) := ⟨fun h => absurd h (by decide), fun h => absurd h (by decide), fun _ => am_ig (i := 466) (by decide +kernel) rfl, fun h => absurd h (by decide), Or.inr (by decide)⟩
theorem am_cp_14_95 : am_CPr 14 (95, 198, 4, 1, false) := ⟨fun _ => ⟨fun _ => am_ig (i := 470) (by decide +kernel) rfl, fun h => absurd h (by decide), by decide +kernel, fun h => absurd h (by decide), fun _ => am_ig (i := 471) (by decide +kernel) rfl⟩, fun h => absurd h (by decide), fun h => absurd h (by decide), fun h => absurd h (by decide), Or.inl (by decide)⟩
theorem am_cpA_14 : ∀ q ∈ am_MTL.getD 14 [], am_CPr 14 q := by
  show ∀ q ∈ [(38, 1000, 2, 1, false), (88, 196, 1, 1, false), (92, 1001, 2, 1, false), (95, 198, 4, 1, false)], am_CPr 14 q
  exact List.forall_mem_cons.mpr ⟨am_cp_14_38, List.forall_mem_cons.mpr ⟨am_cp_14_88, List.forall_mem_cons.mpr ⟨am_cp_14_92, List.forall_mem_cons.mpr ⟨am_cp_14_95, fun _ h => absurd h List.not_mem_nil⟩⟩⟩⟩
theorem am_cpA (o : Nat) : ∀ q ∈ am_MTL.getD o [], am_CPr o q := by
  match o with
  | 0 => exact am_cpA_0
  | 1 => exact am_cpA_1
  | 2 => exact am_cpA_2
  | 3 => exact am_cpA_3
  | 4 => exact am_cpA_4
  | 5 => exact am_cpA_5
  | 6 => exact am_cpA_6
  | 7 => exact am_cpA_7
  | 8 => exact am_cpA_8
  | 9 => exact am_cpA_9
  | 10 => exact am_cpA_10
  | 11 => exact am_cpA_11
  | 12 => exact am_cpA_12
  | 13 => exact am_cpA_13
  | 14 => exact am_cpA_14
  | n + 15 => intro q h; rw [show am_MTL.getD (n + 15) [] = [] from rfl] at h; exact absurd h List.not_mem_nil
end
section
/-! a step of each instruction, in continuation form -/
def am_i1 (st : List Value) (f : Int32 → List Value → Prop) : Prop := match st with
  | .int x :: r => f x r
  | _ => False
def am_i2 (st : List Value) (f : Int32 → Int32 → List Value → Prop) : Prop := match st with
  | .int y :: .int x :: r => f x y r
  | _ => False
def am_l1 (st : List Value) (f : Int64 → List Value → Prop) : Prop := match st with
  | .long x :: r => f x r
  | _ => False
def am_l2 (st : List Value) (f : Int64 → Int64 → List Value → Prop) : Prop := match st with
  | .long y :: .long x :: r => f x y r
  | _ => False
def am_li (st : List Value) (f : Int64 → Int32 → List Value → Prop) : Prop := match st with
  | .int y :: .long x :: r => f x y r
  | _ => False
def am_r1 (st : List Value) (f : Nat → List Value → Prop) : Prop := match st with
  | .ref b :: r => f b r
  | _ => False
def am_ri (st : List Value) (f : Nat → Int32 → List Value → Prop) : Prop := match st with
  | .int i :: .ref b :: r => f b i r
  | _ => False
def am_rii (st : List Value) (f : Nat → Int32 → Int32 → List Value → Prop) : Prop := match st with
  | .int x :: .int i :: .ref b :: r => f b i x r
  | _ => False
def am_rl1 (st : List Value) (f : Nat → Int64 → List Value → Prop) : Prop := match st with
  | .long x :: .ref b :: r => f b x r
  | _ => False
def am_v1 (st : List Value) (f : Value → List Value → Prop) : Prop := match st with
  | .int x :: r => f (.int x) r
  | .ref x :: r => f (.ref x) r
  | _ => False
def am_v2 (st : List Value) (f : Value → Value → List Value → Prop) : Prop := match st with
  | .int y :: .int x :: r => f (.int x) (.int y) r
  | .int y :: .ref x :: r => f (.ref x) (.int y) r
  | _ => False
def am_cp (st : List Value) (f : Nat → Int32 → Nat → Int32 → Int32 → List Value → Prop) : Prop := match st with
  | .int n :: .int dp :: .ref a :: .int sp :: .ref a0 :: r => f a0 sp a dp n r
  | _ => False
def am_li1 (lv : am_L) (i : Nat) (f : Int32 → Prop) : Prop := match am_lk lv i with
  | some (.int x) => f x
  | _ => False
def am_ll1 (lv : am_L) (i : Nat) (f : Int64 → Prop) : Prop := match am_lk lv i with
  | some (.long x) => f x
  | _ => False
def am_lr1 (lv : am_L) (i : Nat) (f : Nat → Prop) : Prop := match am_lk lv i with
  | some (.ref x) => f x
  | _ => False
/-- n arguments off the stack, in their order -/
def am_args : Nat → List Value → List Value → Option (List Value × List Value)
  | 0, acc, st => some (acc, st)
  | n + 1, acc, v :: st => am_args n (v :: acc) st
  | _ + 1, _, [] => none
def am_cat : List Value → Nat
  | [] => 0
  | v :: l => v.category + am_cat l
def am_oob (i : Int32) (n : Nat) : Prop := i < 0 ∨ n ≤ i.toNatClampNeg
def am_test (b : Bool) (P : Prop) : Prop := match b with
  | true => P
  | false => False
def am_opt {α : Type} (x : Option α) (f : α → Prop) : Prop := match x with
  | some a => f a
  | none => False
def am_sw (x : Int32) (pc : Nat) (dflt lo hi : Int) (offs : Array Int) (t : Nat) : Prop :=
  ((x.toInt < lo ∨ hi < x.toInt) ∧ (pc : Int) + dflt = (t : Int)) ∨ (¬ x.toInt < lo ∧ ¬ hi < x.toInt ∧ ∃ off : Int, offs[(x.toInt - lo).toNat]? = some off ∧ (pc : Int) + off = (t : Int))
/-- an answer that is no reference -/
def am_nr : Option Value → Bool
  | none => true
  | some (.int _) => true
  | some (.long _) => true
  | _ => false
def am_getf (sh : List am_S) (ci j b : Nat) (w : am_M) (f : Value → Prop) : Prop := match Nat.beq ci 13 with
  | true => am_opt (am_sv b) fun v => match j with
    | 0 => f (.ref (1000 + v))
    | _ => f (.int 0)
  | false => am_test (am_isb sh b ci) (match am_kd ci j with
    | 0 => f (.int (w.1 b j))
    | 1 => am_opt (am_tg sh b j) fun t => f (.ref t)
    | 2 => f (.long (w.2 b))
    | _ => False)
def am_step (sh : List am_S) (mid : Nat) (call : Nat → List Value → am_M → am_O → Prop) (post : am_O → Prop) (k : Nat → am_L → List Value → am_M → Prop) (pc : Nat) (e : Instr × Int32 × Nat × Nat) (lv : am_L) (st : List Value) (w : am_M) : Prop :=
  match e with
  | (i, v, nx, tg) => match i with
    | .iconst _ => k nx lv (.int v :: st) w
    | .bipush _ => k nx lv (.int v :: st) w
    | .sipush _ => k nx lv (.int v :: st) w
    | .ldc x => match am_fnd (am_LSL.getD (am_o mid) []) x with
      | some j => k nx lv (.ref (1000 + j) :: st) w
      | none => am_opt (am_fnd (am_LIL.getD (am_o mid) []) x) fun c => k nx lv (.int c :: st) w
    | .ldc_w x => am_opt (am_fnd (am_LIL.getD (am_o mid) []) x) fun c => k nx lv (.int c :: st) w
    | .ldc2_w x => am_opt (am_fnd (am_LLL.getD (am_o mid) []) x) fun c => k nx lv (.long c :: st) w
    | .lconst n => match n.val with
      | 0 => k nx lv (.long 0 :: st) w
      | _ => k nx lv (.long 1 :: st) w
    | .iload_n i => am_li1 lv i.val fun x => k nx lv (.int x :: st) w
    | .iload i => am_li1 lv i fun x => k nx lv (.int x :: st) w
    | .lload_n i => am_ll1 lv i.val fun x => k nx lv (.long x :: st) w
    | .lload i => am_ll1 lv i fun x => k nx lv (.long x :: st) w
    | .aload_n i => am_lr1 lv i.val fun x => k nx lv (.ref x :: st) w
    | .aload i => am_lr1 lv i fun x => k nx lv (.ref x :: st) w
    | .istore_n i => am_i1 st fun x r => k nx (am_ins i.val (.int x) (am_cut1 i.val lv)) r w
    | .istore i => am_i1 st fun x r => k nx (am_ins i (.int x) (am_cut1 i lv)) r w
    | .lstore_n i => am_l1 st fun x r => k nx (am_ins i.val (.long x) (am_cut2 i.val lv)) r w
    | .lstore i => am_l1 st fun x r => k nx (am_ins i (.long x) (am_cut2 i lv)) r w
    | .astore_n i => am_r1 st fun x r => k nx (am_ins i.val (.ref x) (am_cut1 i.val lv)) r w
    | .astore i => am_r1 st fun x r => k nx (am_ins i (.ref x) (am_cut1 i lv)) r w
    | .iinc i _ => am_li1 lv i fun x => k nx (am_ins i (.int (x + v)) (am_cut1 i lv)) st w
    | .iadd => am_i2 st fun x y r => k nx lv (.int (x + y) :: r) w
    | .isub => am_i2 st fun x y r => k nx lv (.int (x - y) :: r) w
    | .imul => am_i2 st fun x y r => k nx lv (.int (x * y) :: r) w
    | .iand => am_i2 st fun x y r => k nx lv (.int (x &&& y) :: r) w
    | .ior => am_i2 st fun x y r => k nx lv (.int (x ||| y) :: r) w
    | .ixor => am_i2 st fun x y r => k nx lv (.int (x ^^^ y) :: r) w
    | .ishl => am_i2 st fun x y r => k nx lv (.int (x <<< (y &&& 31)) :: r) w
    | .ishr => am_i2 st fun x y r => k nx lv (.int (x >>> (y &&& 31)) :: r) w
    | .iushr => am_i2 st fun x y r => k nx lv (.int (x.toUInt32 >>> (y.toUInt32 &&& Int32.toUInt32 31)).toInt32 :: r) w
    | .idiv => am_i2 st fun x y r => if y = 0 then False else k nx lv (.int (x / y) :: r) w
    | .irem => am_i2 st fun x y r => if y = 0 then False else k nx lv (.int (x - x / y * y) :: r) w
    | .i2l => am_i1 st fun x r => k nx lv (.long x.toInt64 :: r) w
    | .i2b => am_i1 st fun x r => k nx lv (.int x.toInt8.toInt32 :: r) w
    | .i2s => am_i1 st fun x r => k nx lv (.int x.toInt16.toInt32 :: r) w
    | .i2c => am_i1 st fun x r => k nx lv (.int (x.toUInt32 % 65536).toInt32 :: r) w
    | .ladd => am_l2 st fun x y r => k nx lv (.long (x + y) :: r) w
    | .lsub => am_l2 st fun x y r => k nx lv (.long (x - y) :: r) w
    | .lmul => am_l2 st fun x y r => k nx lv (.long (x * y) :: r) w
    | .land => am_l2 st fun x y r => k nx lv (.long (x &&& y) :: r) w
    | .ldiv => am_l2 st fun x y r => if y = 0 then False else k nx lv (.long (x / y) :: r) w
    | .lrem => am_l2 st fun x y r => if y = 0 then False else k nx lv (.long (x - x / y * y) :: r) w
    | .lshl => am_li st fun x y r => k nx lv (.long (x <<< (y.toInt64 &&& 63)) :: r) w
    | .lshr => am_li st fun x y r => k nx lv (.long (x >>> (y.toInt64 &&& 63)) :: r) w
    | .lcmp => am_l2 st fun x y r => k nx lv (.int (lg_cmp x y) :: r) w
    | .dup => am_v1 st fun v r => k nx lv (v :: v :: r) w
    | .pop => am_v1 st fun _ r => k nx lv r w
    | .dup2 => am_v2 st fun a b r => k nx lv (b :: a :: b :: a :: r) w
    | .goto _ => k tg lv st w
    | .ifCond c _ => am_i1 st fun x r => match c with
      | .eq => if x = 0 then k tg lv r w else k nx lv r w
      | .ne => if x = 0 then k nx lv r w else k tg lv r w
      | .lt => if x < 0 then k tg lv r w else k nx lv r w
      | .ge => if 0 ≤ x then k tg lv r w else k nx lv r w
      | .gt => if 0 < x then k tg lv r w else k nx lv r w
      | .le => if x ≤ 0 then k tg lv r w else k nx lv r w
    | .if_icmp c _ => am_i2 st fun x y r => match c with
      | .eq => if x = y then k tg lv r w else k nx lv r w
      | .ne => if x = y then k nx lv r w else k tg lv r w
      | .lt => if x < y then k tg lv r w else k nx lv r w
      | .ge => if y ≤ x then k tg lv r w else k nx lv r w
      | .gt => if y < x then k tg lv r w else k nx lv r w
      | .le => if x ≤ y then k tg lv r w else k nx lv r w
    | .tableswitch dflt lo hi offs => am_i1 st fun x r => ∃ t : Nat, am_sw x pc dflt lo hi offs t ∧ k t lv r w
    | .getfield x => am_opt (am_fnd (am_FTL.getD (am_o mid) []) x) fun (ci, j, _) => am_r1 st fun b r => am_getf sh ci j b w fun c => k nx lv (c :: r) w
    | .putfield x => am_opt (am_fnd (am_FTL.getD (am_o mid) []) x) fun (ci, j, _) => match am_kd ci j with
      | 0 => am_v2 st fun a c r => match a, c with
        | .ref b, .int c => am_test (am_isb sh b ci && am_wr ci j) (match am_bl ci j with
          | false => k nx lv r (am_pi w b j c)
          | true => (c = 0 ∨ c = 1) ∧ k nx lv r (am_pi w b j c))
        | _, _ => False
      | 2 => am_rl1 st fun b c r => am_test (am_isb sh b ci && am_wr ci j) (k nx lv r (am_pl w b c))
      | _ => False
    | .getstatic x => am_opt (am_fnd (am_GSL.getD (am_o mid) []) x) fun (j, _) => match Nat.ble 4 j with
      | true => k nx lv (.int 1 :: st) w
      | false => k nx lv (.ref (1000 + j) :: st) w
    | .iaload => am_ri st fun b i r => match am_ln sh b with
      | some n => if i < 0 ∨ n ≤ i.toNatClampNeg then False else k nx lv (.int (w.1 b i.toNatClampNeg) :: r) w
      | none => am_opt (am_si b) fun l => if i < 0 ∨ l.length ≤ i.toNatClampNeg then False else k nx lv (.int (l.getD i.toNatClampNeg 0) :: r) w
    | .baload => am_ri st fun b i r => am_opt (am_sb b) fun l => if i < 0 ∨ l.length ≤ i.toNatClampNeg then False else k nx lv (.int (l.getD i.toNatClampNeg 0) :: r) w
    | .iastore => am_rii st fun b i x r => am_opt (am_ln sh b) fun n => if i < 0 ∨ n ≤ i.toNatClampNeg then False else k nx lv r (am_pi w b i.toNatClampNeg x)
    | .aaload => am_ri st fun b i r => am_opt (am_rl sh b) fun (_, l) => if i < 0 then False else am_opt (l[i.toNatClampNeg]?) fun t => k nx lv (.ref t :: r) w
    | .arraylength => am_r1 st fun b r => am_opt (am_sb b) fun l => k nx lv (.int (Int32.ofNat l.length) :: r) w
    | .invokevirtual x => am_opt (am_fnd (am_MTL.getD (am_o mid) []) x) fun (y, n, z, _) => am_opt (am_args n [] st) fun (as, r0) => am_r1 r0 fun b r =>
        am_test (Nat.beq z 0 && (Nat.ble (am_cat r) 8 && (match Nat.beq (am_o y) 13 with | true => am_isstr b | false => am_isb sh b (am_o y)))) (∃ o : am_O, call y (.ref b :: as) w o ∧ am_test (am_nr o.1) (k nx lv (o.1.toList ++ r) o.2))
    | .invokestatic x => am_opt (am_fnd (am_MTL.getD (am_o mid) []) x) fun (y, n, z, _) => match Nat.ble 1000 y with
      | false => am_opt (am_args n [] st) fun (as, r) => am_test (Nat.beq z 1 && Nat.ble (am_cat r) 8) (∃ o : am_O, call y as w o ∧ am_test (am_nr o.1) (k nx lv (o.1.toList ++ r) o.2))
      | true => match y with
      | 1000 => am_i2 st fun x y r => am_test (Nat.ble (am_cat r) 8) (k nx lv (.int (if y < x then y else x) :: r) w)
        | 1001 => am_i2 st fun x y r => am_test (Nat.ble (am_cat r) 8) (k nx lv (.int (if x < y then y else x) :: r) w)
        | 1002 => am_cp st fun a0 sp a dp n r => am_test (Nat.ble (am_cat r) 8) (am_opt (am_ln sh a0) fun n0 => am_opt (am_ln sh a) fun n1 => ¬ sp < 0 ∧ ¬ dp < 0 ∧ ¬ n < 0 ∧ sp.toNatClampNeg + n.toNatClampNeg ≤ n0 ∧ dp.toNatClampNeg + n.toNatClampNeg ≤ n1 ∧ k nx lv r (am_pa w a (va_cpy (w.1 a0) (w.1 a) sp.toNatClampNeg dp.toNatClampNeg n.toNatClampNeg)))
        | _ => False
    | .ireturn => am_i1 st fun x r => match r with
      | [] => am_opt (am_rt mid) fun t => narrow t (.int x) = .int x ∧ post (some (.int x), w)
      | _ => False
    | .lreturn => am_l1 st fun x r => match r with
      | [] => am_rt mid = some .long ∧ post (some (.long x), w)
      | _ => False
    | .return_ => match st with
      | [] => am_rt mid = none ∧ post (none, w)
      | _ => False
    | _ => False
end
section
/-! Runs: the least predicate closed under the steps; it's monotone in the continuation -/
theorem am_i1_s {st : List Value} {f : Int32 → List Value → Prop} (h : am_i1 st f) : ∃ x r, st = .int x :: r ∧ f x r := by
  unfold am_i1 at h; split at h
  · exact ⟨_, _, rfl, h⟩
  · exact h.elim
theorem am_i2_s {st : List Value} {f : Int32 → Int32 → List Value → Prop} (h : am_i2 st f) : ∃ x y r, st = .int y :: .int x :: r ∧ f x y r := by
  unfold am_i2 at h; split at h
  · exact ⟨_, _, _, rfl, h⟩
  · exact h.elim
theorem am_l1_s {st : List Value} {f : Int64 → List Value → Prop} (h : am_l1 st f) : ∃ x r, st = .long x :: r ∧ f x r := by
  unfold am_l1 at h; split at h
  · exact ⟨_, _, rfl, h⟩
  · exact h.elim
theorem am_l2_s {st : List Value} {f : Int64 → Int64 → List Value → Prop} (h : am_l2 st f) : ∃ x y r, st = .long y :: .long x :: r ∧ f x y r := by
  unfold am_l2 at h; split at h
  · exact ⟨_, _, _, rfl, h⟩
  · exact h.elim
theorem am_li_s {st : List Value} {f : Int64 → Int32 → List Value → Prop} (h : am_li st f) : ∃ x y r, st = .int y :: .long x :: r ∧ f x y r := by
  unfold am_li at h; split at h
  · exact ⟨_, _, _, rfl, h⟩
  · exact h.elim
theorem am_r1_s {st : List Value} {f : Nat → List Value → Prop} (h : am_r1 st f) : ∃ b r, st = .ref b :: r ∧ f b r := by
  unfold am_r1 at h; split at h
  · exact ⟨_, _, rfl, h⟩
  · exact h.elim
theorem am_ri_s {st : List Value} {f : Nat → Int32 → List Value → Prop} (h : am_ri st f) : ∃ b i r, st = .int i :: .ref b :: r ∧ f b i r := by
  unfold am_ri at h; split at h
  · exact ⟨_, _, _, rfl, h⟩
  · exact h.elim
theorem am_rii_s {st : List Value} {f : Nat → Int32 → Int32 → List Value → Prop} (h : am_rii st f) : ∃ b i x r, st = .int x :: .int i :: .ref b :: r ∧ f b i x r := by
  unfold am_rii at h; split at h
  · exact ⟨_, _, _, _, rfl, h⟩
  · exact h.elim
theorem am_rl1_s {st : List Value} {f : Nat → Int64 → List Value → Prop} (h : am_rl1 st f) : ∃ b x r, st = .long x :: .ref b :: r ∧ f b x r := by
  unfold am_rl1 at h; split at h
  · exact ⟨_, _, _, rfl, h⟩
  · exact h.elim
theorem am_v1_s {st : List Value} {f : Value → List Value → Prop} (h : am_v1 st f) : ∃ v r, st = v :: r ∧ v.category = 1 ∧ f v r := by
  unfold am_v1 at h; split at h
  · exact ⟨_, _, rfl, rfl, h⟩
  · exact ⟨_, _, rfl, rfl, h⟩
  · exact h.elim
theorem am_v2_s {st : List Value} {f : Value → Value → List Value → Prop} (h : am_v2 st f) : ∃ a b r, st = b :: a :: r ∧ a.category = 1 ∧ b.category = 1 ∧ f a b r := by
  unfold am_v2 at h; split at h
  · exact ⟨_, _, _, rfl, rfl, rfl, h⟩
  · exact ⟨_, _, _, rfl, rfl, rfl, h⟩
  · exact h.elim
theorem am_cp_s {st : List Value} {f : Nat → Int32 → Nat → Int32 → Int32 → List Value → Prop} (h : am_cp st f) : ∃ a0 sp a dp n r, st = .int n :: .int dp :: .ref a :: .int sp :: .ref a0 :: r ∧ f a0 sp a dp n r := by
  unfold am_cp at h; split at h
  · exact ⟨_, _, _, _, _, _, rfl, h⟩
  · exact h.elim
theorem am_li1_s {lv : am_L} {i : Nat} {f : Int32 → Prop} (h : am_li1 lv i f) : ∃ x, am_lk lv i = some (.int x) ∧ f x := by
  unfold am_li1 at h; split at h
  · exact ⟨_, by assumption, h⟩
  · exact h.elim
theorem am_ll1_s {lv : am_L} {i : Nat} {f : Int64 → Prop} (h : am_ll1 lv i f) : ∃ x, am_lk lv i = some (.long x) ∧ f x := by
  unfold am_ll1 at h; split at h
  · exact ⟨_, by assumption, h⟩
  · exact h.elim
theorem am_lr1_s {lv : am_L} {i : Nat} {f : Nat → Prop} (h : am_lr1 lv i f) : ∃ x, am_lk lv i = some (.ref x) ∧ f x := by
  unfold am_lr1 at h; split at h
  · exact ⟨_, by assumption, h⟩
  · exact h.elim
theorem am_test_s {b : Bool} {P : Prop} (h : am_test b P) : b = true ∧ P := by
  unfold am_test at h; split at h
  · exact ⟨rfl, h⟩
  · exact h.elim
theorem am_opt_s {α : Type} {x : Option α} {f : α → Prop} (h : am_opt x f) : ∃ a, x = some a ∧ f a := by
  unfold am_opt at h; split at h
  · exact ⟨_, rfl, h⟩
  · exact h.elim
theorem am_i1_m {st : List Value} {f g : Int32 → List Value → Prop} (m : ∀ x r, f x r → g x r) (h : am_i1 st f) : am_i1 st g := by
  obtain ⟨x, r, rfl, h⟩ := am_i1_s h; exact m _ _ h
theorem am_i2_m {st : List Value} {f g : Int32 → Int32 → List Value → Prop} (m : ∀ x y r, f x y r → g x y r) (h : am_i2 st f) : am_i2 st g := by
  obtain ⟨x, y, r, rfl, h⟩ := am_i2_s h; exact m _ _ _ h
theorem am_l1_m {st : List Value} {f g : Int64 → List Value → Prop} (m : ∀ x r, f x r → g x r) (h : am_l1 st f) : am_l1 st g := by
  obtain ⟨x, r, rfl, h⟩ := am_l1_s h; exact m _ _ h
theorem am_l2_m {st : List Value} {f g : Int64 → Int64 → List Value → Prop} (m : ∀ x y r, f x y r → g x y r) (h : am_l2 st f) : am_l2 st g := by
  obtain ⟨x, y, r, rfl, h⟩ := am_l2_s h; exact m _ _ _ h
theorem am_li_m {st : List Value} {f g : Int64 → Int32 → List Value → Prop} (m : ∀ x y r, f x y r → g x y r) (h : am_li st f) : am_li st g := by
  obtain ⟨x, y, r, rfl, h⟩ := am_li_s h; exact m _ _ _ h
theorem am_r1_m {st : List Value} {f g : Nat → List Value → Prop} (m : ∀ x r, f x r → g x r) (h : am_r1 st f) : am_r1 st g := by
  obtain ⟨x, r, rfl, h⟩ := am_r1_s h; exact m _ _ h
theorem am_ri_m {st : List Value} {f g : Nat → Int32 → List Value → Prop} (m : ∀ x y r, f x y r → g x y r) (h : am_ri st f) : am_ri st g := by
  obtain ⟨x, y, r, rfl, h⟩ := am_ri_s h; exact m _ _ _ h
theorem am_rii_m {st : List Value} {f g : Nat → Int32 → Int32 → List Value → Prop} (m : ∀ x y z r, f x y z r → g x y z r) (h : am_rii st f) : am_rii st g := by
  obtain ⟨x, y, z, r, rfl, h⟩ := am_rii_s h; exact m _ _ _ _ h
theorem am_rl1_m {st : List Value} {f g : Nat → Int64 → List Value → Prop} (m : ∀ x y r, f x y r → g x y r) (h : am_rl1 st f) : am_rl1 st g := by
  obtain ⟨x, y, r, rfl, h⟩ := am_rl1_s h; exact m _ _ _ h
theorem am_v1_m {st : List Value} {f g : Value → List Value → Prop} (m : ∀ x r, f x r → g x r) (h : am_v1 st f) : am_v1 st g := by
  unfold am_v1 at h ⊢
  split at h
  · exact m _ _ h
  · exact m _ _ h
  · exact h.elim
theorem am_v2_m {st : List Value} {f g : Value → Value → List Value → Prop} (m : ∀ x y r, f x y r → g x y r) (h : am_v2 st f) : am_v2 st g := by
  unfold am_v2 at h ⊢
  split at h
  · exact m _ _ _ h
  · exact m _ _ _ h
  · exact h.elim
theorem am_cp_m {st : List Value} {f g : Nat → Int32 → Nat → Int32 → Int32 → List Value → Prop} (m : ∀ a b c d e r, f a b c d e r → g a b c d e r) (h : am_cp st f) : am_cp st g := by
  obtain ⟨_, _, _, _, _, r, rfl, h⟩ := am_cp_s h; exact m _ _ _ _ _ _ h
theorem am_li1_m {lv : am_L} {i : Nat} {f g : Int32 → Prop} (m : ∀ x, f x → g x) (h : am_li1 lv i f) : am_li1 lv i g := by
  obtain ⟨x, e, h⟩ := am_li1_s h; unfold am_li1; rw [e]; exact m _ h
theorem am_ll1_m {lv : am_L} {i : Nat} {f g : Int64 → Prop} (m : ∀ x, f x → g x) (h : am_ll1 lv i f) : am_ll1 lv i g := by
  obtain ⟨x, e, h⟩ := am_ll1_s h; unfold am_ll1; rw [e]; exact m _ h
theorem am_lr1_m {lv : am_L} {i : Nat} {f g : Nat → Prop} (m : ∀ x, f x → g x) (h : am_lr1 lv i f) : am_lr1 lv i g := by
  obtain ⟨x, e, h⟩ := am_lr1_s h; unfold am_lr1; rw [e]; exact m _ h
theorem am_test_m {b : Bool} {P Q : Prop} (m : P → Q) (h : am_test b P) : am_test b Q := by
  obtain ⟨rfl, h⟩ := am_test_s h; exact m h
theorem am_opt_m {α : Type} {x : Option α} {f g : α → Prop} (m : ∀ a, f a → g a) (h : am_opt x f) : am_opt x g := by
  obtain ⟨a, rfl, h⟩ := am_opt_s h; exact m _ h
theorem am_ite_m {c : Prop} [Decidable c] {a b a' b' : Prop} (h1 : a → a') (h2 : b → b') (h : if c then a else b) : if c then a' else b' := by
  split at h
  · rw [if_pos (by assumption)]; exact h1 h
  · rw [if_neg (by assumption)]; exact h2 h
theorem am_getf_m {sh : List am_S} {ci j b : Nat} {w : am_M} {f g : Value → Prop} (m : ∀ v, f v → g v) (h : am_getf sh ci j b w f) : am_getf sh ci j b w g := by
  unfold am_getf at h ⊢
  split at h
  · refine am_opt_m (fun v h => ?_) h
    split at h <;> exact m _ h
  · refine am_test_m (fun h => ?_) h
    split at h
    · exact m _ h
    · exact am_opt_m (fun _ => m _) h
    · exact m _ h
    · exact h
set_option maxHeartbeats 2000000 in
theorem am_step_m {sh : List am_S} {mid : Nat} {call : Nat → List Value → am_M → am_O → Prop} {post : am_O → Prop} {k k' : Nat → am_L → List Value → am_M → Prop} {pc : Nat} {e : Instr × Int32 × Nat × Nat} {lv : am_L} {st : List Value} {w : am_M}
    (m : ∀ a b c d, k a b c d → k' a b c d) (h : am_step sh mid call post k pc e lv st w) : am_step sh mid call post k' pc e lv st w := by
  obtain ⟨i, v, nx, tg⟩ := e
  unfold am_step at h ⊢
  dsimp only at h ⊢
  split at h
  all_goals first
    | exact m _ _ _ _ h
    | exact am_li1_m (fun _ => m _ _ _ _) h
    | exact am_ll1_m (fun _ => m _ _ _ _) h
    | exact am_lr1_m (fun _ => m _ _ _ _) h
    | exact am_i1_m (fun _ _ => m _ _ _ _) h
    | exact am_i2_m (fun _ _ _ => m _ _ _ _) h
    | exact am_l1_m (fun _ _ => m _ _ _ _) h
    | exact am_l2_m (fun _ _ _ => m _ _ _ _) h
    | exact am_li_m (fun _ _ _ => m _ _ _ _) h
    | exact am_r1_m (fun _ _ => m _ _ _ _) h
    | exact am_v1_m (fun _ _ => m _ _ _ _) h
    | exact am_v2_m (fun _ _ _ => m _ _ _ _) h
    | exact am_i2_m (fun _ _ _ => am_ite_m id (m _ _ _ _)) h
    | exact am_l2_m (fun _ _ _ => am_ite_m id (m _ _ _ _)) h
    | exact am_opt_m (fun _ => m _ _ _ _) h
    | exact h
    | skip
  · split at h
    · exact m _ _ _ _ h
    · exact am_opt_m (fun _ => m _ _ _ _) h
  · split at h <;> exact m _ _ _ _ h
  · refine am_i1_m (fun x r h => ?_) h
    split at h <;> exact am_ite_m (m _ _ _ _) (m _ _ _ _) h
  · refine am_i2_m (fun x y r h => ?_) h
    split at h <;> exact am_ite_m (m _ _ _ _) (m _ _ _ _) h
  · exact am_i1_m (fun x r ⟨t, h1, h2⟩ => ⟨t, h1, m _ _ _ _ h2⟩) h
  · refine am_opt_m (fun q h => ?_) h
    obtain ⟨ci, j, nest⟩ := q
    exact am_r1_m (fun b r => am_getf_m (fun v => m _ _ _ _)) h
  · refine am_opt_m (fun q h => ?_) h
    obtain ⟨ci, j, nest⟩ := q
    dsimp only at h ⊢
    split at h
    · refine am_v2_m (fun a v r h => ?_) h
      split at h
      · refine am_test_m (fun h => ?_) h
        split at h
        · exact m _ _ _ _ h
        · exact ⟨h.1, m _ _ _ _ h.2⟩
      · exact h
    · exact am_rl1_m (fun b v r => am_test_m (m _ _ _ _)) h
    · exact h
  · refine am_opt_m (fun q h => ?_) h
    obtain ⟨j, nest⟩ := q
    dsimp only at h ⊢
    split at h <;> exact m _ _ _ _ h
  · refine am_ri_m (fun b i r h => ?_) h
    split at h
    · exact am_ite_m id (m _ _ _ _) h
    · exact am_opt_m (fun l => am_ite_m id (m _ _ _ _)) h
  · exact am_ri_m (fun b i r => am_opt_m (fun l => am_ite_m id (m _ _ _ _))) h
  · exact am_rii_m (fun b i x r => am_opt_m (fun l => am_ite_m id (m _ _ _ _))) h
  · refine am_ri_m (fun b i r => am_opt_m (fun q h => ?_)) h
    obtain ⟨t, l⟩ := q
    exact am_ite_m id (am_opt_m (fun _ => m _ _ _ _)) h
  · exact am_r1_m (fun b r => am_opt_m (fun l => m _ _ _ _)) h
  · refine am_opt_m (fun q h => ?_) h
    obtain ⟨y, n, z, nest⟩ := q
    refine am_opt_m (fun q h => ?_) h
    obtain ⟨as, r0⟩ := q
    exact am_r1_m (fun b r => am_test_m (fun ⟨o, h1, h2⟩ => ⟨o, h1, am_test_m (m _ _ _ _) h2⟩)) h
  · refine am_opt_m (fun q h => ?_) h
    obtain ⟨y, n, z, nest⟩ := q
    dsimp only at h ⊢
    split at h
    · refine am_opt_m (fun q h => ?_) h
      obtain ⟨as, r0⟩ := q
      exact am_test_m (fun ⟨o, h1, h2⟩ => ⟨o, h1, am_test_m (m _ _ _ _) h2⟩) h
    · split at h
      · exact am_i2_m (fun x y r => am_test_m (m _ _ _ _)) h
      · exact am_i2_m (fun x y r => am_test_m (m _ _ _ _)) h
      · exact am_cp_m (fun _ _ _ _ _ r => am_test_m (am_opt_m (fun _ => am_opt_m (fun _ ⟨h1, h2, h3, h4, h5, h6⟩ => ⟨h1, h2, h3, h4, h5, m _ _ _ _ h6⟩)))) h
      · exact h
/-- the least predicate closed under the machine's steps -/
def am_R (sh : List am_S) (mid : Nat) (call : Nat → List Value → am_M → am_O → Prop) (post : am_O → Prop) (pc : Nat) (lv : am_L) (st : List Value) (w : am_M) : Prop :=
  ∀ P : Nat → am_L → List Value → am_M → Prop, (∀ pc lv st w e, am_at mid pc = some e → am_step sh mid call post P pc e (am_kill mid pc lv) st w → P pc lv st w) → P pc lv st w
theorem am_go {sh : List am_S} {mid : Nat} {call : Nat → List Value → am_M → am_O → Prop} {post : am_O → Prop} {pc : Nat} {lv : am_L} {st : List Value} {w : am_M} {e : Instr × Int32 × Nat × Nat}
    (he : am_at mid pc = some e) (h : am_step sh mid call post (am_R sh mid call post) pc e (am_kill mid pc lv) st w) : am_R sh mid call post pc lv st w := by
  intro P hP
  exact hP pc lv st w e he (am_step_m (fun a b c d h => h P hP) h)
/-- arguments as the first locals -/
def am_in : Nat → List Value → am_L
  | _, [] => []
  | n, v :: l => (n, v) :: am_in (n + v.category) l
/-- what a method does, to a depth of calls -/
def am_D (sh : List am_S) : Nat → Nat → List Value → am_M → am_O → Prop
  | 0, _, _, _, _ => False
  | d + 1, mid, as, w, o => am_D sh d mid as w o ∨ (Nat.ble (am_cat as) (am_ml mid) = true ∧ Nat.blt mid 199 = true ∧ am_R sh mid (am_D sh d) (fun r => r = o) 0 (am_in 0 as) [] w)
theorem am_D_le {sh : List am_S} {d d' mid : Nat} {as : List Value} {w : am_M} {o : am_O} (hd : d ≤ d') (h : am_D sh d mid as w o) : am_D sh d' mid as w o := by
  induction d' with
  | zero => have : d = 0 := by omega
            subst this; exact h
  | succ n ih =>
    by_cases e : d = n + 1
    · subst e; exact h
    · exact Or.inl (ih (by omega))
theorem am_by {c : Prop} {i : Decidable c} {a b : Prop} (t : c → a) (f : ¬ c → b) : @ite Prop c i a b := by
  by_cases h : c
  · rw [if_pos h]; exact t h
  · rw [if_neg h]; exact f h
theorem am_tt {c : Prop} {i : Decidable c} {a b : Prop} (h : c) (t : a) : @ite Prop c i a b := by rw [if_pos h]; exact t
theorem am_ff {c : Prop} {i : Decidable c} {a b : Prop} (h : ¬ c) (t : b) : @ite Prop c i a b := by rw [if_neg h]; exact t
end
section
/-! THE MACHINE KEEPS THE ABSTRACT MACHINE: pictures of cells, one row a step -/
def am_c (ad : Nat → Nat) : Value → Value
  | .ref k => .ref (ad k)
  | v => v
def am_cl (ad : Nat → Nat) (lv : am_L) : am_L := lv.map fun q => (q.1, am_c ad q.2)
def am_fv (ad : Nat → Nat) (w : am_M) (k j : Nat) : Option (Option Nat) → Value
  | none => .int (w.1 k j)
  | some none => .long (w.2 k)
  | some (some t) => .ref (ad t)
def am_fs (ad : Nat → Nat) (w : am_M) (k : Nat) : Nat → List (Option (Option Nat)) → List Value
  | _, [] => []
  | j, f :: l => am_fv ad w k j f :: am_fs ad w k (j + 1) l
def am_e (cA : Nat → ClassId) (ad : Nat → Nat) (w : am_M) (k : Nat) : am_S → va_E
  | .inl (.inl n) => .inl (cA 0, n, .inl (w.1 k))
  | .inl (.inr q) => .inl (cA q.1, q.2.length, .inr (.inr (.inr (.inr fun j => (q.2[j]?).map ad))))
  | .inr q => .inr (q.1, am_fs ad w k 0 q.2)
def am_w (sh : List am_S) (cA : Nat → ClassId) (ad : Nat → Nat) (w : am_M) : va_W := (List.range sh.length).map fun k => (ad k, am_e cA ad w k (sh.getD k (.inl (.inl 0))))
def am_ty (cA : Nat → ClassId) : List (ClassId × FieldType) := [(cA 0, .int), (cA 1, .object "DeadLasts$Text"), (cA 2, .object "DeadLasts$Sheet"), (cA 3, .object "DeadLasts$Trace"), (cA 4, .object "DeadLasts$Walker")]
theorem am_w_at {sh : List am_S} {cA : Nat → ClassId} {ad : Nat → Nat} {w : am_M} {k : Nat} {S : am_S} (h : sh[k]? = some S) : (am_w sh cA ad w)[k]? = some (ad k, am_e cA ad w k S) := by
  have hk : k < sh.length := (List.getElem?_eq_some_iff.mp h).1
  simp only [am_w, List.getElem?_map, List.getElem?_range hk, Option.map_some, List.getD_eq_getElem?_getD, h, Option.getD_some]
theorem am_w_no {sh : List am_S} {cA : Nat → ClassId} {ad : Nat → Nat} {w : am_M} {k : Nat} (h : sh.length ≤ k) : (am_w sh cA ad w)[k]? = none := by
  simp [am_w, h]
theorem am_fs_at (ad : Nat → Nat) (w : am_M) (k : Nat) : ∀ (l : List (Option (Option Nat))) (a j : Nat), (am_fs ad w k a l)[j]? = (l[j]?).map (am_fv ad w k (a + j))
  | [], a, j => by simp [am_fs]
  | f :: l, a, 0 => by simp [am_fs]
  | f :: l, a, j + 1 => by
    simp only [am_fs, List.getElem?_cons_succ]
    rw [am_fs_at ad w k l (a + 1) j, show a + 1 + j = a + (j + 1) by omega]
theorem am_fs_len (ad : Nat → Nat) (w : am_M) (k : Nat) : ∀ (l : List (Option (Option Nat))) (a : Nat), (am_fs ad w k a l).length = l.length
  | [], a => rfl
  | f :: l, a => by simp [am_fs, am_fs_len ad w k l (a + 1)]
/-- a cell's picture depends on its own numbers alone -/
theorem am_e_congr {cA : Nat → ClassId} {ad : Nat → Nat} {w w' : am_M} {k : Nat} (h1 : w'.1 k = w.1 k) (h2 : w'.2 k = w.2 k) (S : am_S) : am_e cA ad w' k S = am_e cA ad w k S := by
  match S with
  | .inl (.inl n) => simp [am_e, h1]
  | .inl (.inr q) => rfl
  | .inr q =>
    simp only [am_e]
    congr 2
    apply List.ext_getElem?
    intro j
    rw [am_fs_at, am_fs_at]
    congr 1
    funext f
    match f with
    | none => simp [am_fv, h1]
    | some none => simp [am_fv, h2]
    | some (some t) => rfl
theorem am_w_set {sh : List am_S} {cA : Nat → ClassId} {ad : Nat → Nat} {w w' : am_M} {k : Nat} {S : am_S} {E : va_E} (h : sh[k]? = some S) (hE : E = am_e cA ad w' k S) (h1 : ∀ a, a ≠ k → w'.1 a = w.1 a) (h2 : ∀ a, a ≠ k → w'.2 a = w.2 a) : (am_w sh cA ad w).set k (ad k, E) = am_w sh cA ad w' := by
  have hk : k < sh.length := (List.getElem?_eq_some_iff.mp h).1
  apply List.ext_getElem?
  intro j
  by_cases hj : j = k
  · subst hj
    rw [List.getElem?_set_self (by simp [am_w]; exact hk), am_w_at h, hE]
  · rw [List.getElem?_set_ne (Ne.symm hj)]
    by_cases hl : j < sh.length
    · obtain ⟨S', hS⟩ : ∃ S', sh[j]? = some S' := ⟨_, List.getElem?_eq_getElem hl⟩
      rw [am_w_at hS, am_w_at hS, am_e_congr (h1 j hj) (h2 j hj)]
    · rw [am_w_no (by omega), am_w_no (by omega)]
theorem am_fs_pi {ad : Nat → Nat} {w : am_M} {k j : Nat} {x : Int32} {l : List (Option (Option Nat))} (h : l[j]? = some none) : (am_fs ad w k 0 l).set j (.int x) = am_fs ad (am_pi w k j x) k 0 l := by
  apply List.ext_getElem?
  intro i
  by_cases hi : i = j
  · subst hi
    have hl : i < l.length := (List.getElem?_eq_some_iff.mp h).1
    rw [List.getElem?_set_self (by rw [am_fs_len]; exact hl), am_fs_at, h]
    simp [am_fv, am_pi]
  · rw [List.getElem?_set_ne (Ne.symm hi), am_fs_at, am_fs_at]
    congr 1
    funext f
    match f with
    | none => simp [am_fv, am_pi, hi]
    | some none => rfl
    | some (some t) => rfl
theorem am_fs_pl {ad : Nat → Nat} {w : am_M} {k j : Nat} {x : Int64} {l : List (Option (Option Nat))} (h : l[j]? = some (some none)) (hu : ∀ i, l[i]? = some (some none) → i = j) : (am_fs ad w k 0 l).set j (.long x) = am_fs ad (am_pl w k x) k 0 l := by
  apply List.ext_getElem?
  intro i
  by_cases hi : i = j
  · subst hi
    have hl : i < l.length := (List.getElem?_eq_some_iff.mp h).1
    rw [List.getElem?_set_self (by rw [am_fs_len]; exact hl), am_fs_at, h]
    simp [am_fv, am_pl]
  · rw [List.getElem?_set_ne (Ne.symm hi), am_fs_at, am_fs_at]
    cases hf : l[i]? with
    | none => rfl
    | some f =>
      match f, hf with
      | none, _ => rfl
      | some none, hf => exact absurd (hu i hf) hi
      | some (some t), _ => rfl
/-- the shape is one of the classes' -/
def am_okf (ci : Nat) : Nat → List (Option (Option Nat)) → Bool
  | _, [] => true
  | j, none :: l => Nat.beq (am_kd ci j) 0 && am_okf ci (j + 1) l
  | j, some none :: l => Nat.beq (am_kd ci j) 2 && am_okf ci (j + 1) l
  | j, some (some _) :: l => Nat.beq (am_kd ci j) 1 && am_okf ci (j + 1) l
def am_nl : List (Option (Option Nat)) → Nat
  | [] => 0
  | some none :: l => am_nl l + 1
  | _ :: l => am_nl l
def am_okc : am_S → Bool
  | .inl (.inl _) => true
  | .inl (.inr q) => Nat.ble 1 q.1 && Nat.blt q.1 5
  | .inr q => (match vwCl[q.1]? with
    | some r => Nat.beq q.2.length r.2.2
    | none => false) && (am_okf q.1 0 q.2 && Nat.ble (am_nl q.2) 1)
def am_okS (sh : List am_S) : Bool := sh.all am_okc && Nat.ble sh.length 1000
theorem am_okf_at {ci : Nat} : ∀ {l : List (Option (Option Nat))} {a j : Nat} {f : Option (Option Nat)}, am_okf ci a l = true → l[j]? = some f → (am_kd ci (a + j) = match f with | none => 0 | some none => 2 | some (some _) => 1)
  | [], a, j, f, _, h => by simp at h
  | g :: l, a, 0, f, h, hf => by
    simp only [List.getElem?_cons_zero, Option.some.injEq] at hf
    subst hf
    match g, h with
    | none, h => simp only [am_okf, Bool.and_eq_true] at h; exact Nat.eq_of_beq_eq_true h.1
    | some none, h => simp only [am_okf, Bool.and_eq_true] at h; exact Nat.eq_of_beq_eq_true h.1
    | some (some t), h => simp only [am_okf, Bool.and_eq_true] at h; exact Nat.eq_of_beq_eq_true h.1
  | g :: l, a, j + 1, f, h, hf => by
    simp only [List.getElem?_cons_succ] at hf
    have h2 : am_okf ci (a + 1) l = true := by
      match g, h with
      | none, h => simp only [am_okf, Bool.and_eq_true] at h; exact h.2
      | some none, h => simp only [am_okf, Bool.and_eq_true] at h; exact h.2
      | some (some t), h => simp only [am_okf, Bool.and_eq_true] at h; exact h.2
    have := am_okf_at h2 hf
    rw [show a + (j + 1) = a + 1 + j by omega]
    exact this
theorem am_nl_pos : ∀ {l : List (Option (Option Nat))} {j : Nat}, l[j]? = some (some none) → 1 ≤ am_nl l
  | [], j, h => by simp at h
  | some none :: l, j, h => by simp [am_nl]
  | none :: l, 0, h => by simp at h
  | none :: l, j + 1, h => am_nl_pos (l := l) (j := j) (by simpa using h)
  | some (some t) :: l, 0, h => by simp at h
  | some (some t) :: l, j + 1, h => am_nl_pos (l := l) (j := j) (by simpa using h)
theorem am_nl_one : ∀ {l : List (Option (Option Nat))} {i j : Nat}, am_nl l ≤ 1 → l[i]? = some (some none) → l[j]? = some (some none) → i = j
  | [], i, j, _, h, _ => by simp at h
  | none :: l, 0, j, _, h, _ => by simp at h
  | none :: l, i + 1, 0, _, _, h => by simp at h
  | none :: l, i + 1, j + 1, hn, h1, h2 => congrArg (· + 1) (am_nl_one (l := l) (i := i) (j := j) hn (by simpa using h1) (by simpa using h2))
  | some (some t) :: l, 0, j, _, h, _ => by simp at h
  | some (some t) :: l, i + 1, 0, _, _, h => by simp at h
  | some (some t) :: l, i + 1, j + 1, hn, h1, h2 => congrArg (· + 1) (am_nl_one (l := l) (i := i) (j := j) hn (by simpa using h1) (by simpa using h2))
  | some none :: l, 0, 0, _, _, _ => rfl
  | some none :: l, i + 1, j, hn, h1, _ => by
    have := am_nl_pos (l := l) (j := i) (by simpa using h1)
    simp only [am_nl] at hn; omega
  | some none :: l, 0, j + 1, hn, _, h2 => by
    have := am_nl_pos (l := l) (j := j) (by simpa using h2)
    simp only [am_nl] at hn; omega
theorem am_okc_at {sh : List am_S} (hsh : am_okS sh = true) {k : Nat} {S : am_S} (h : sh[k]? = some S) : am_okc S = true := by
  simp only [am_okS, Bool.and_eq_true] at hsh
  exact List.all_eq_true.mp hsh.1 S (List.mem_of_getElem? h)
theorem am_isb_s {sh : List am_S} {b ci : Nat} (h : am_isb sh b ci = true) : ∃ fl, sh[b]? = some (.inr (ci, fl)) := by
  unfold am_isb at h
  split at h
  · rename_i q hq
    have := Nat.eq_of_beq_eq_true h
    exact ⟨q.2, by rw [hq, ← this]⟩
  · cases h
theorem am_ln_s {sh : List am_S} {b n : Nat} (h : am_ln sh b = some n) : sh[b]? = some (.inl (.inl n)) := by
  unfold am_ln at h
  split at h
  · cases h; assumption
  · cases h
theorem am_rl_s {sh : List am_S} {b : Nat} {q : Nat × List Nat} (h : am_rl sh b = some q) : sh[b]? = some (.inl (.inr q)) := by
  unfold am_rl at h
  split at h
  · cases h; assumption
  · cases h
theorem am_si_s {b : Nat} {l : List Int32} (h : am_si b = some l) : ∃ j, b = 1000 + j ∧ am_ST[j]? = some (.inl (.inl l)) := by
  unfold am_si at h
  split at h
  · rename_i hb
    split at h
    · cases h
      exact ⟨b - 1000, by have := Nat.le_of_ble_eq_true hb; omega, by assumption⟩
    · cases h
  · cases h
theorem am_sb_s {b : Nat} {l : List Int32} (h : am_sb b = some l) : ∃ j, b = 1000 + j ∧ am_ST[j]? = some (.inl (.inr l)) := by
  unfold am_sb at h
  split at h
  · rename_i hb
    split at h
    · cases h
      exact ⟨b - 1000, by have := Nat.le_of_ble_eq_true hb; omega, by assumption⟩
    · cases h
  · cases h
theorem am_sv_s {b v : Nat} (h : am_sv b = some v) : ∃ j, b = 1000 + j ∧ am_ST[j]? = some (.inr v) := by
  unfold am_sv at h
  split at h
  · rename_i hb
    split at h
    · cases h
      exact ⟨b - 1000, by have := Nat.le_of_ble_eq_true hb; omega, by assumption⟩
    · cases h
  · cases h
theorem am_isstr_s {b : Nat} (h : am_isstr b = true) : ∃ j v, b = 1000 + j ∧ am_ST[j]? = some (.inr v) := by
  unfold am_isstr at h
  split at h
  · rename_i hb
    split at h
    · rename_i v hv
      exact ⟨b - 1000, v, by have := Nat.le_of_ble_eq_true hb; omega, hv⟩
    · cases h
  · cases h
theorem am_bf {a b : Nat} (h : Nat.beq a b = false) : (a == b) = false := by
  have : a ≠ b := fun e => by subst e; simp at h
  simp [this]
theorem am_fnd_s {α : Type} : ∀ {l : List (Nat × α)} {n : Nat} {a : α}, am_fnd l n = some a → (n, a) ∈ l
  | [], n, a, h => by simp [am_fnd] at h
  | q :: l, n, a, h => by
    unfold am_fnd at h
    split at h
    · rename_i hb
      cases h
      have := Nat.eq_of_beq_eq_true hb
      subst this
      exact List.mem_cons_self
    · exact List.mem_cons_of_mem _ (am_fnd_s h)
theorem am_at_s {mid pc : Nat} {e : Instr × Int32 × Nat × Nat} (h : am_at mid pc = some e) : am_ok1 (am_b mid) (pc, e) = true := by
  unfold am_at at h
  split at h
  · rename_i l hl
    exact List.all_eq_true.mp (am_tcd hl) _ (am_fnd_s h)
  · cases h
theorem am_lk_s : ∀ {lv : am_L} {i : Nat} {v : Value}, am_lk lv i = some v → (i, v) ∈ lv
  | [], i, v, h => by simp [am_lk] at h
  | q :: l, i, v, h => by
    unfold am_lk at h
    split at h
    · rename_i hb
      cases h
      have := Nat.eq_of_beq_eq_true hb
      subst this
      exact List.mem_cons_self
    · exact List.mem_cons_of_mem _ (am_lk_s h)
theorem am_ins_s {i : Nat} {v : Value} : ∀ {lv : am_L} {q : Nat × Value}, q ∈ am_ins i v lv → q = (i, v) ∨ q ∈ lv
  | [], q, h => by simp [am_ins] at h; exact Or.inl h
  | a :: l, q, h => by
    unfold am_ins at h
    split at h
    · rcases List.mem_cons.mp h with h | h
      · exact Or.inl h
      · exact Or.inr h
    · rcases List.mem_cons.mp h with h | h
      · exact Or.inr (by rw [h]; exact List.mem_cons_self)
      · rcases am_ins_s h with h | h
        · exact Or.inl h
        · exact Or.inr (List.mem_cons_of_mem _ h)
theorem am_cut1_s {i : Nat} : ∀ {lv : am_L} {q : Nat × Value}, q ∈ am_cut1 i lv → q ∈ lv ∧ (!(q.1 == i) && !(q.1 + 1 == i && q.2.category == 2)) = true
  | [], q, h => by simp [am_cut1] at h
  | a :: l, q, h => by
    unfold am_cut1 at h
    split at h
    · have := am_cut1_s h
      exact ⟨List.mem_cons_of_mem _ this.1, this.2⟩
    · rename_i hb
      rcases List.mem_cons.mp h with h | h
      · subst h
        refine ⟨List.mem_cons_self, ?_⟩
        simp only [Bool.or_eq_false_iff, Bool.and_eq_false_iff] at hb
        simp only [Bool.and_eq_true, Bool.not_eq_true', Bool.and_eq_false_iff]
        exact ⟨am_bf hb.1, hb.2.imp am_bf am_bf⟩
      · have := am_cut1_s h
        exact ⟨List.mem_cons_of_mem _ this.1, this.2⟩
theorem am_cut2_s {i : Nat} : ∀ {lv : am_L} {q : Nat × Value}, q ∈ am_cut2 i lv → q ∈ lv ∧ (!(q.1 == i) && (!(q.1 == i + 1) && !(q.1 + 1 == i && q.2.category == 2))) = true
  | [], q, h => by simp [am_cut2] at h
  | a :: l, q, h => by
    unfold am_cut2 at h
    split at h
    · have := am_cut2_s h
      exact ⟨List.mem_cons_of_mem _ this.1, this.2⟩
    · rename_i hb
      rcases List.mem_cons.mp h with h | h
      · subst h
        refine ⟨List.mem_cons_self, ?_⟩
        simp only [Bool.or_eq_false_iff, Bool.and_eq_false_iff] at hb
        simp only [Bool.and_eq_true, Bool.not_eq_true', Bool.and_eq_false_iff]
        exact ⟨am_bf hb.1, am_bf hb.2.1, hb.2.2.imp am_bf am_bf⟩
      · have := am_cut2_s h
        exact ⟨List.mem_cons_of_mem _ this.1, this.2⟩
theorem am_keep_s {ks : List Nat} : ∀ {lv : am_L} {q : Nat × Value}, q ∈ am_keep ks lv → q ∈ lv
  | [], q, h => by simp [am_keep] at h
  | a :: l, q, h => by
    unfold am_keep at h
    split at h
    · rcases List.mem_cons.mp h with h | h
      · rw [h]; exact List.mem_cons_self
      · exact List.mem_cons_of_mem _ (am_keep_s h)
    · exact List.mem_cons_of_mem _ (am_keep_s h)
theorem am_kill_s {mid pc : Nat} {lv : am_L} {q : Nat × Value} (h : q ∈ am_kill mid pc lv) : q ∈ lv := by
  unfold am_kill at h
  split at h
  · split at h
    · exact am_keep_s h
    · exact h
  · exact h
theorem am_cat_c (ad : Nat → Nat) (v : Value) : (am_c ad v).category = v.category := by cases v <;> rfl
theorem am_cat_sum (ad : Nat → Nat) : ∀ l : List Value, ((l.map (am_c ad)).map fun v => v.category).sum = am_cat l
  | [] => rfl
  | v :: l => by simp only [List.map_cons, List.sum_cons, am_cat, am_cat_c, am_cat_sum ad l]
theorem am_sub {ls : Array Slot} {nL : Nat} {a b : am_L} {ad : Nat → Nat} (h : lv_has ls nL (am_cl ad a)) (hs : ∀ q ∈ b, q ∈ a) : lv_has ls nL (am_cl ad b) := by
  refine ⟨h.1, h.2.1, fun q hq => ?_⟩
  obtain ⟨x, hx, rfl⟩ := List.mem_map.mp hq
  exact h.2.2 _ (List.mem_map.mpr ⟨x, hs x hx, rfl⟩)
theorem am_get {ls : Array Slot} {nL : Nat} {lv : am_L} {ad : Nat → Nat} {i : Nat} {v : Value} (h : lv_has ls nL (am_cl ad lv)) (hv : am_lk lv i = some v) : ls[i]? = some (.val (am_c ad v)) :=
  h.2.2 (i, am_c ad v) (List.mem_map.mpr ⟨(i, v), am_lk_s hv, rfl⟩)
theorem am_st1 {ls : Array Slot} {nL : Nat} {lv : am_L} {ad : Nat → Nat} {i : Nat} {v : Value} (h : lv_has ls nL ((i, am_c ad v) :: (am_cl ad lv).filter (fun q => !(q.1 == i) && !(q.1 + 1 == i && q.2.category == 2)))) : lv_has ls nL (am_cl ad (am_ins i v (am_cut1 i lv))) := by
  refine ⟨h.1, h.2.1, fun q hq => ?_⟩
  obtain ⟨x, hx, rfl⟩ := List.mem_map.mp hq
  refine h.2.2 _ ?_
  rcases am_ins_s hx with rfl | hx
  · exact List.mem_cons_self
  · obtain ⟨h1, h2⟩ := am_cut1_s hx
    refine List.mem_cons_of_mem _ (List.mem_filter.mpr ⟨List.mem_map.mpr ⟨x, h1, rfl⟩, ?_⟩)
    dsimp only
    rw [am_cat_c]
    exact h2
theorem am_st2 {ls : Array Slot} {nL : Nat} {lv : am_L} {ad : Nat → Nat} {i : Nat} {v : Value} (h : lv_has ls nL ((i, am_c ad v) :: (am_cl ad lv).filter (fun q => !(q.1 == i) && (!(q.1 == i + 1) && !(q.1 + 1 == i && q.2.category == 2))))) : lv_has ls nL (am_cl ad (am_ins i v (am_cut2 i lv))) := by
  refine ⟨h.1, h.2.1, fun q hq => ?_⟩
  obtain ⟨x, hx, rfl⟩ := List.mem_map.mp hq
  refine h.2.2 _ ?_
  rcases am_ins_s hx with rfl | hx
  · exact List.mem_cons_self
  · obtain ⟨h1, h2⟩ := am_cut2_s hx
    refine List.mem_cons_of_mem _ (List.mem_filter.mpr ⟨List.mem_map.mpr ⟨x, h1, rfl⟩, ?_⟩)
    dsimp only
    rw [am_cat_c]
    exact h2
theorem am_args_s : ∀ {n : Nat} {acc st as r : List Value}, am_args n acc st = some (as, r) → as.length = n + acc.length ∧ st = (as.take n).reverse ++ r ∧ as.drop n = acc
  | 0, acc, st, as, r, h => by simp [am_args] at h; obtain ⟨rfl, rfl⟩ := h; simp
  | n + 1, acc, [], as, r, h => by simp [am_args] at h
  | n + 1, acc, v :: st, as, r, h => by
    simp only [am_args] at h
    obtain ⟨h1, h2, h3⟩ := am_args_s h
    simp only [List.length_cons] at h1
    refine ⟨by omega, ?_, ?_⟩
    · have hv : as[n]? = some v := by
        have := congrArg (fun l => l[0]?) h3
        simpa using this
      have hn : n < as.length := by omega
      rw [h2, List.take_succ, hv]
      simp
    · have := congrArg (List.drop 1) h3
      simpa [List.drop_drop, Nat.add_comm] using this
end
section
def am_RM (n : Nat) : Room := { frames := n, cells := 0, slots := 0, locals := 40 * n }
/-- what stands outside: nest words, static rows, Strings -/
def am_St (ad : Nat → Nat) (A : Nat → Prop) (U : State) (H : Heap) : Prop :=
  (∀ x ∈ am_NW, va_Nw x U) ∧ (∀ j, j < 4 → va_Z "DeadLasts" (am_sn j) "[I" (.ref (ad (1000 + j))) A U H) ∧ (∀ j l, am_ST[j]? = some (.inl (.inl l)) → va_T .int (ad (1000 + j)) l.length (fun i => .int (l.getD i 0)) A U H) ∧ (∀ j l, am_ST[j]? = some (.inl (.inr l)) → va_T .byte (ad (1000 + j)) l.length (fun i => .int (l.getD i 0)) A U H) ∧
  (∀ j v, am_ST[j]? = some (.inr v) → va_O "java/lang/String" (ad (1000 + j)) A U H ∧ va_OF "java/lang/String" "coder" "B" (.int 0) (ad (1000 + j)) A U H ∧ va_OF "java/lang/String" "value" "[B" (.ref (ad (1000 + v))) (ad (1000 + j)) A U H) ∧ va_Z "java/lang/String" "COMPACT_STRINGS" "Z" (.int 1) A U H ∧ ∀ q ∈ am_SL, vk_R q.1 q.2.1 q.2.2.1 (ad (1000 + q.2.2.2)) U
theorem am_St.kept {ad : Nat → Nat} {A : Nat → Prop} {U : State} {H H1 : Heap} (h : am_St ad A U H) (hq : ∀ a : Nat, a < H.size → ¬ A a → H1[a]? = H[a]?) : am_St ad A U H1 := by
  obtain ⟨h1, h2, h3, h4, h5, h6, h7⟩ := h
  exact ⟨h1, fun j hj => (h2 j hj).kept hq, fun j l hj => (h3 j l hj).kept hq, fun j l hj => (h4 j l hj).kept hq, fun j v hj => ⟨(h5 j v hj).1.kept hq, (h5 j v hj).2.1.kept hq, (h5 j v hj).2.2.kept hq⟩, h6.kept hq, h7⟩
theorem am_NW_form {x : Cond} (h : x ∈ am_NW) : (∃ a i b n d g, x = .fieldLinkNest a i b n d g) ∨ ∃ a i y g, x = .methodLinkNest a i y g := by
  have := (List.mem_filter.mp h).2
  unfold am_nestw at this
  split at this
  · exact Or.inl ⟨_, _, _, _, _, _, rfl⟩
  · exact Or.inr ⟨_, _, _, _, rfl⟩
  · cases this
theorem am_St.warm {ad : Nat → Nat} {A : Nat → Prop} {s U : State} {H : Heap} (hW : s.WarmedH U.vm) (h : am_St ad A s H) : am_St ad A U H := by
  obtain ⟨h1, h2, h3, h4, h5, h6, h7⟩ := h
  have ha := hW.alike
  refine ⟨fun x hx => ?_, fun j hj => (h2 j hj).moved ha, fun j l hj => (h3 j l hj).moved ha, fun j l hj => (h4 j l hj).moved ha, fun j v hj => ⟨(h5 j v hj).1.moved ha, (h5 j v hj).2.1.moved ha, (h5 j v hj).2.2.moved ha⟩, h6.moved ha, fun q hq => (h7 q hq).warm hW⟩
  have := h1 x hx
  rcases am_NW_form hx with ⟨a, i, b, n, d, g, rfl⟩ | ⟨a, i, y, g, rfl⟩
  · exact this.warmF hW
  · exact this.warmM hW
theorem am_St.same {ad : Nat → Nat} {A : Nat → Prop} {s U : State} {H : Heap} (hv : s.vm = U.vm) (h : am_St ad A s H) : am_St ad A U H := by
  obtain ⟨h1, h2, h3, h4, h5, h6, h7⟩ := h
  have ha : s.vm.Alike U.vm := hv ▸ Vm.Alike.refl _
  refine ⟨fun x hx => ?_, fun j hj => (h2 j hj).moved ha, fun j l hj => (h3 j l hj).moved ha, fun j l hj => (h4 j l hj).moved ha, fun j v hj => ⟨(h5 j v hj).1.moved ha, (h5 j v hj).2.1.moved ha, (h5 j v hj).2.2.moved ha⟩, h6.moved ha, fun q hq => (h7 q hq).same hv.symm⟩
  have := h1 x hx
  rcases am_NW_form hx with ⟨a, i, b, n, d, g, rfl⟩ | ⟨a, i, y, g, rfl⟩
  · exact this.same rfl hv
  · exact this.same rfl hv
def am_Q (sh : List am_S) (cA : Nat → ClassId) (ad : Nat → Nat) (D : va_G) (A : Nat → Prop) (o : am_O) : Array Value → State → Outcome → State → Prop := fun _ st oc t => oc = .returned o.1 ∧ va_P D vwCl (am_w sh cA ad o.2) t.heap ∧ va_F A st t
/-- the contract that the abstract machine's run gives -/
def am_Pre (sh : List am_S) (cA : Nat → ClassId) (ad : Nat → Nat) (D : va_G) (A : Nat → Prop) (as : List Value) (w : am_M) : Array Value → State → Prop := va_Pc (as.map (am_c ad)) (fun U => va_P D vwCl (am_w sh cA ad w) U.heap ∧ va_K D vwCl (am_ty cA) U ∧ am_St ad A U U.heap)
def am_C (l : Launch) (sh : List am_S) (cA : Nat → ClassId) (ad : Nat → Nat) (D : va_G) (A : Nat → Prop) (n mid : Nat) (as : List Value) (w : am_M) (o : am_O) : Prop :=
  Met l (am_y mid) (.code (am_y mid) (am_b mid) (am_ml mid) (am_rt mid) :: am_GT) (am_RM n) (am_Pre sh cA ad D A as w) (am_Q sh cA ad D A o) 0 0 A
theorem am_blind {sh : List am_S} {cA : Nat → ClassId} {ad : Nat → Nat} {D : va_G} {A : Nat → Prop} {as : List Value} {w : am_M} : FrameBlind (am_Pre sh cA ad D A as w) := fun a U g mk q => ⟨q.1, q.2.1, va_K.moved (u := U) (U := U.calling g mk a) (Vm.Alike.refl U.vm) q.2.2.1, am_St.same (s := U) rfl q.2.2.2⟩
def am_AD (sh : List am_S) (ad : Nat → Nat) (A : Nat → Prop) : Prop := (∀ i j, i < sh.length → j < sh.length → ad i = ad j → i = j) ∧ ∀ i, i < sh.length → A (ad i)
theorem am_AD.D {sh : List am_S} {ad : Nat → Nat} {A : Nat → Prop} (h : am_AD sh ad A) (cA : Nat → ClassId) (w : am_M) : va_D A (am_w sh cA ad w) := by
  have key : ∀ (k : Nat) (q : Nat × va_E), (am_w sh cA ad w)[k]? = some q → k < sh.length ∧ q.1 = ad k := by
    intro k q hq
    by_cases hk : k < sh.length
    · obtain ⟨S, hS⟩ : ∃ S, sh[k]? = some S := ⟨_, List.getElem?_eq_getElem hk⟩
      rw [am_w_at hS] at hq
      cases hq
      exact ⟨hk, rfl⟩
    · rw [am_w_no (by omega)] at hq
      cases hq
  refine ⟨fun i j x y hi hj hxy => ?_, fun k q hq => ?_⟩
  · obtain ⟨h1, h2⟩ := key i x hi
    obtain ⟨h3, h4⟩ := key j y hj
    exact h.1 i j h1 h3 (by rw [← h2, ← h4]; exact hxy)
  · obtain ⟨h1, h2⟩ := key k q hq
    rw [h2]
    exact h.2 k h1
theorem am_dn {b : ByteArray} {pc : Nat} {i : Instr} {v : Int32} {nx tg : Nat} (h : am_ok1 b (pc, i, v, nx, tg) = true) (ht : am_tsw i = false) : nx = pc + am_len i ∧ decode b pc = .ok (i, am_len i) ∧ am_vok pc i v tg = true := by
  simp only [am_ok1, Bool.and_eq_true, Bool.or_eq_true, decide_eq_true_eq, ht, Bool.false_eq_true, or_false] at h
  obtain ⟨⟨hd, hn⟩, hv⟩ := h
  have hn := Nat.eq_of_beq_eq_true hn
  subst hn
  rw [Nat.add_sub_cancel_left] at hd
  exact ⟨rfl, hd, hv⟩
def am_slt (ml : Nat) : Instr → Bool
  | .istore_n i => Nat.blt i.val ml
  | .istore i => Nat.blt i ml
  | .astore_n i => Nat.blt i.val ml
  | .astore i => Nat.blt i ml
  | .lstore_n i => Nat.blt (i.val + 1) ml
  | .lstore i => Nat.blt (i + 1) ml
  | _ => true
def am_cksl : Bool := (List.range 199).all fun n => (am_CD.getD n []).all fun q => am_slt (am_ml n) q.2.1
set_option maxRecDepth 100000 in
theorem am_tsl : am_cksl = true := by decide +kernel
theorem am_slot {mid pc : Nat} {e : Instr × Int32 × Nat × Nat} (h : am_at mid pc = some e) : am_slt (am_ml mid) e.1 = true := by
  unfold am_at at h
  split at h
  · rename_i l hl
    have hm : mid < 199 := (List.getElem?_eq_some_iff.mp hl).1
    have := List.all_eq_true.mp am_tsl mid (List.mem_range.mpr hm)
    rw [List.getD_eq_getElem?_getD, hl] at this
    exact List.all_eq_true.mp this _ (am_fnd_s h)
  · cases h
theorem am_cls {ci : Nat} {q : vw_C} (h : vwCl[ci]? = some q) : am_clok ci q = true := by
  have hm : ci < 13 := (List.getElem?_eq_some_iff.mp h).1
  have := List.all_eq_true.mp am_tcl ci (List.mem_range.mpr hm)
  simp only [h] at this
  exact this
theorem am_nm {ci : Nat} {q : vw_C} (h : vwCl[ci]? = some q) : ∀ a, a < q.2.2 → ∀ b, b < q.2.2 → a ≠ b → (q.2.1 a).2.1 ≠ (q.2.1 b).2.1 := by
  match ci, h with
  | 0, h => cases h; exact nmX0
  | 1, h => cases h; exact nmX1
  | 2, h => cases h; exact nmX2
  | 3, h => cases h; exact nmX3
  | 4, h => cases h; exact nmX4
  | 5, h => cases h; exact nmX5
  | 6, h => cases h; exact nmX6
  | 7, h => cases h; exact nmX7
  | 8, h => cases h; exact nmX8
  | 9, h => cases h; exact nmX9
  | 10, h => cases h; exact nmX10
  | 11, h => cases h; exact nmX11
  | 12, h => cases h; exact nmX12
  | n + 13, h => simp at h
theorem am_all15 {α : Type} {L : List (List (Nat × α))} {P : Nat → Nat × α → Bool} (hl : L.length = 15) (h : ((List.range 15).all fun o => (L.getD o []).all (P o)) = true) {o x : Nat} {a : α} (hf : am_fnd (L.getD o []) x = some a) : P o (x, a) = true := by
  by_cases ho : o < 15
  · exact List.all_eq_true.mp (List.all_eq_true.mp h o (List.mem_range.mpr ho)) _ (am_fnd_s hf)
  · rw [List.getD_eq_getElem?_getD, List.getElem?_eq_none (by omega)] at hf
    simp [am_fnd] at hf
theorem am_fld {o x : Nat} {q : Nat × Nat × Bool} (h : am_fnd (am_FTL.getD o []) x = some q) : am_fok o (x, q) = true := am_all15 rfl am_tf h
theorem am_gst {o x : Nat} {q : Nat × Bool} (h : am_fnd (am_GSL.getD o []) x = some q) : am_gok o (x, q) = true := am_all15 rfl am_tg0 h
theorem am_lds {o x : Nat} {q : Nat} (h : am_fnd (am_LSL.getD o []) x = some q) : am_sok o (x, q) = true := am_all15 rfl am_ts h
theorem am_ldi {o x : Nat} {q : Int32} (h : am_fnd (am_LIL.getD o []) x = some q) : Cond.constant (am_cn o) x q ∈ am_GT := of_decide_eq_true (am_all15 (P := fun o q => decide (Cond.constant (am_cn o) q.1 q.2 ∈ am_GT)) rfl am_ti h)
theorem am_ldl {o x : Nat} {q : Int64} (h : am_fnd (am_LLL.getD o []) x = some q) : Cond.constantLong (am_cn o) x q ∈ am_GT := of_decide_eq_true (am_all15 (P := fun o q => decide (Cond.constantLong (am_cn o) q.1 q.2 ∈ am_GT)) rfl am_tl h)
theorem am_mth {mid : Nat} (h : mid < 199) : am_MPr (am_y mid, am_b mid, am_ml mid, am_rt mid, am_o mid) := by
  obtain ⟨q, hq⟩ : ∃ q, am_MI[mid]? = some q := ⟨_, List.getElem?_eq_getElem (by exact h)⟩
  have := am_mpA q (List.mem_of_getElem? hq)
  simp only [am_y, am_b, am_ml, am_rt, am_o, hq]
  exact this
theorem am_goodL {l : List Cond} (h : ∀ w ∈ l, w ∈ am_GT) : GoodIn am_GT l := fun w hw => am_good w (h w hw)
/-- behind a call -/
theorem am_call {p : Program} {l : Launch} {e : Env} {R : Room} {s : State} {m : MethodId} {args : Array Value} {below : List Frame} {meth : Method} {c : Code} {H : Heap} {locs : List Loc} {Q : State → Prop} {sh : List am_S} {cA : Nat → ClassId} {ad : Nat → Nat} {D : va_G} {A : Nat → Prop} {o : am_O} {pc : Nat} {ls : Array Slot} {st0 rest : List Value} {a : Array Value}
    (hr : va_Run p l e R s m args below meth c H locs 0 0 0 0 (F0 m pc ls st0) rest (am_Q sh cA ad D A o a) A) (hS : va_S A s.heap H locs)
    (kk : ∀ (H1 : Heap) (locs1 : List Loc), va_P D vwCl (am_w sh cA ad o.2) H1 → va_S A s.heap H1 locs1 → W p l e R s m args below meth c H1 locs1 0 0 Q (F0 m (pc + 3) ls (o.1.toList ++ rest))) : W p l e R s m args below meth c H locs 0 0 Q (F0 m pc ls st0) := by
  intro T hT X
  obtain ⟨v, st₀, t, T', L, h0, X', hL, e1, e2, ⟨hv, hp, hz, hk⟩, st⟩ := hr T hT X
  cases hv
  rw [h0] at hz hk
  obtain ⟨t2, a1, b1⟩ := kk T'.heap (locs ++ L) (by rw [e1]; exact hp)
    ⟨Nat.le_trans hS.1 (by rw [e1]; exact hz), fun q h1 h2 => by rw [e1, hk q (Nat.lt_of_lt_of_le h1 hS.1) h2]; exact hS.2.1 q h1 h2, fun q hq => by
      rcases List.mem_append.mp hq with h | h
      · exact hS.2.2 q h
      · exact hL q h⟩ T' rfl X'
  exact ⟨t2, st t2 a1, b1⟩
end
section
theorem am_nr_map {ad : Nat → Nat} {x : Option Value} {r : List Value} (h : am_nr x = true) : (x.toList ++ r).map (am_c ad) = x.toList ++ r.map (am_c ad) := by
  match x, h with
  | none, _ => rfl
  | some (.int _), _ => rfl
  | some (.long _), _ => rfl
section AMS
variable {p : Program} {l : Launch} {e : Env} {R : Room} {s : State} {m : MethodId} {args : Array Value} {below : List Frame} {meth : Method} {c : Code} {sh : List am_S} {cA : Nat → ClassId} {ad : Nat → Nat} {D : va_G} {A : Nat → Prop} {mid n : Nat} {o : am_O} {call : Nat → List Value → am_M → am_O → Prop}
/-- the machine goes on rightly from here, whatever heap has the picture -/
def am_G (p : Program) (l : Launch) (e : Env) (R : Room) (s : State) (m : MethodId) (args : Array Value) (below : List Frame) (meth : Method) (c : Code) (sh : List am_S) (cA : Nat → ClassId) (ad : Nat → Nat) (D : va_G) (A : Nat → Prop) (nL : Nat) (o : am_O) (pc : Nat) (lv : am_L) (st : List Value) (w : am_M) : Prop :=
  ∀ (H : Heap) (locs : List Loc) (ls : Array Slot), va_P D vwCl (am_w sh cA ad w) H → va_S A s.heap H locs → lv_has ls nL (am_cl ad lv) → W p l e R s m args below meth c H locs 0 0 (MQ below (am_Q sh cA ad D A o) args s 0 0 A) (F0 m pc ls (st.map (am_c ad)))
/-- what holds throughout a method's body -/
def am_X (p : Program) (l : Launch) (R : Room) (s : State) (m : MethodId) (args : Array Value) (meth : Method) (c : Code) (sh : List am_S) (cA : Nat → ClassId) (ad : Nat → Nat) (D : va_G) (A : Nat → Prop) (mid n : Nat) (call : Nat → List Value → am_M → am_O → Prop) : Prop :=
  p.tables.exec = Jvm.exec ∧ c.code = am_b mid ∧ c.maxLocals = am_ml mid ∧ meth.sig.returnType = am_rt mid ∧ meth.locks = false ∧ s.vm.findClass (am_cn (am_o mid)) = some m.cls ∧ (∀ w ∈ am_GT, w.before args s = true) ∧ va_K D vwCl (am_ty cA) s ∧ am_AD sh ad A ∧ am_St ad A s s.heap ∧ am_okS sh = true ∧ R = am_RM (n + 1) ∧ (∀ mid as w o, call mid as w o → mid < 199 ∧ am_C l sh cA ad D A n mid as w o)
set_option maxHeartbeats 4000000 in
theorem am_stepG (X : am_X p l R s m args meth c sh cA ad D A mid n call) {pc : Nat} {en : Instr × Int32 × Nat × Nat} {lv : am_L} {st : List Value} {w : am_M} (he : am_at mid pc = some en)
    (h : am_step sh mid call (fun r => r = o) (am_G p l e R s m args below meth c sh cA ad D A (am_ml mid) o) pc en lv st w) : am_G p l e R s m args below meth c sh cA ad D A (am_ml mid) o pc lv st w := by
  obtain ⟨hx, hb, hml, hr, hlocks, hown, hts, hK, hAD, hSt, hsh, hR, hcall⟩ := X
  obtain ⟨i, v, nx, tg⟩ := en
  have hk := am_at_s he
  have hsl := am_slot he
  unfold am_step at h
  dsimp only at h
  split at h
  · -- iconst
    obtain ⟨rfl, hd, hv⟩ := am_dn hk rfl
    exact fun H locs ls hP hS hl => lv_iconst hx hb hd (of_decide_eq_true hv) (h H locs ls hP hS hl)
  · obtain ⟨rfl, hd, hv⟩ := am_dn hk rfl
    exact fun H locs ls hP hS hl => lv_bipush hx hb hd (of_decide_eq_true hv) (h H locs ls hP hS hl)
  · obtain ⟨rfl, hd, hv⟩ := am_dn hk rfl
    exact fun H locs ls hP hS hl => lv_sipush hx hb hd (of_decide_eq_true hv) (h H locs ls hP hS hl)
  · -- ldc
    obtain ⟨rfl, hd, hv⟩ := am_dn hk rfl
    split at h
    · rename_i j hj
      have hs := am_lds hj
      simp only [am_sok, List.any_eq_true, decide_eq_true_eq] at hs
      obtain ⟨q, hq, h1, h2, h3⟩ := hs
      have hz := hSt.2.2.2.2.2.2 q hq
      rw [h1, h2, h3] at hz
      exact fun H locs ls hP hS hl => va_ldcS hx hb hown hz hd (h H locs ls hP hS hl)
    · obtain ⟨x, hq, h9⟩ := am_opt_s h
      replace h := h9
      exact fun H locs ls hP hS hl => lv_ldc hx hb hown (hts _ (am_ldi hq)) hd (h H locs ls hP hS hl)
  · obtain ⟨rfl, hd, hv⟩ := am_dn hk rfl
    obtain ⟨x, hq, h9⟩ := am_opt_s h
    replace h := h9
    exact fun H locs ls hP hS hl => lv_ldcw hx hb hown (hts _ (am_ldi hq)) hd (h H locs ls hP hS hl)
  · obtain ⟨rfl, hd, hv⟩ := am_dn hk rfl
    obtain ⟨x, hq, h9⟩ := am_opt_s h
    replace h := h9
    exact fun H locs ls hP hS hl => lv_ldc2 hx hb hown (hts _ (am_ldl hq)) hd (h H locs ls hP hS hl)
  · -- lconst
    rename_i k
    obtain ⟨rfl, hd, hv⟩ := am_dn hk rfl
    split at h
    · rename_i hz
      exact fun H locs ls hP hS hl => lv_lconst hx hb hd (by rw [hz]; rfl) (h H locs ls hP hS hl)
    · rename_i hz
      have hz : ¬ k.val = 0 := hz
      have hk1 : k.val = 1 := by have := k.isLt; omega
      exact fun H locs ls hP hS hl => lv_lconst hx hb hd (by rw [hk1]; rfl) (h H locs ls hP hS hl)
  · obtain ⟨rfl, hd, hv⟩ := am_dn hk rfl
    obtain ⟨x, hq, h9⟩ := am_li1_s h
    replace h := h9
    exact fun H locs ls hP hS hl => lv_iload_n hx hb hd rfl (am_get hl hq) (h H locs ls hP hS hl)
  · obtain ⟨rfl, hd, hv⟩ := am_dn hk rfl
    obtain ⟨x, hq, h9⟩ := am_li1_s h
    replace h := h9
    exact fun H locs ls hP hS hl => lv_iload hx hb hd (am_get hl hq) (h H locs ls hP hS hl)
  · obtain ⟨rfl, hd, hv⟩ := am_dn hk rfl
    obtain ⟨x, hq, h9⟩ := am_ll1_s h
    replace h := h9
    exact fun H locs ls hP hS hl => lv_lload_n hx hb hd rfl (am_get hl hq) (h H locs ls hP hS hl)
  · obtain ⟨rfl, hd, hv⟩ := am_dn hk rfl
    obtain ⟨x, hq, h9⟩ := am_ll1_s h
    replace h := h9
    exact fun H locs ls hP hS hl => lv_lload hx hb hd (am_get hl hq) (h H locs ls hP hS hl)
  · obtain ⟨rfl, hd, hv⟩ := am_dn hk rfl
    obtain ⟨x, hq, h9⟩ := am_lr1_s h
    replace h := h9
    exact fun H locs ls hP hS hl => lv_aload_n hx hb hd rfl (am_get hl hq) (h H locs ls hP hS hl)
  · obtain ⟨rfl, hd, hv⟩ := am_dn hk rfl
    obtain ⟨x, hq, h9⟩ := am_lr1_s h
    replace h := h9
    exact fun H locs ls hP hS hl => lv_aload hx hb hd (am_get hl hq) (h H locs ls hP hS hl)
  · -- istore_n
    obtain ⟨rfl, hd, hv⟩ := am_dn hk rfl
    obtain ⟨x, r, e9, h9⟩ := am_i1_s h
    replace h := h9
    subst e9
    exact fun H locs ls hP hS hl => lv_istore_n hx hb hd rfl hl (Nat.le_of_ble_eq_true hsl) rfl (fun ls' hl' => h H locs ls' hP hS (am_st1 (v := .int x) hl'))
  · obtain ⟨rfl, hd, hv⟩ := am_dn hk rfl
    obtain ⟨x, r, e9, h9⟩ := am_i1_s h
    replace h := h9
    subst e9
    exact fun H locs ls hP hS hl => lv_istore hx hb hd hl (Nat.le_of_ble_eq_true hsl) rfl (fun ls' hl' => h H locs ls' hP hS (am_st1 (v := .int x) hl'))
  · obtain ⟨rfl, hd, hv⟩ := am_dn hk rfl
    obtain ⟨x, r, e9, h9⟩ := am_l1_s h
    replace h := h9
    subst e9
    exact fun H locs ls hP hS hl => lv_lstore_n hx hb hd rfl hl (Nat.le_of_ble_eq_true hsl) rfl (fun ls' hl' => h H locs ls' hP hS (am_st2 (v := .long x) hl'))
  · obtain ⟨rfl, hd, hv⟩ := am_dn hk rfl
    obtain ⟨x, r, e9, h9⟩ := am_l1_s h
    replace h := h9
    subst e9
    exact fun H locs ls hP hS hl => lv_lstore hx hb hd hl (Nat.le_of_ble_eq_true hsl) rfl (fun ls' hl' => h H locs ls' hP hS (am_st2 (v := .long x) hl'))
  · obtain ⟨rfl, hd, hv⟩ := am_dn hk rfl
    obtain ⟨x, r, e9, h9⟩ := am_r1_s h
    replace h := h9
    subst e9
    exact fun H locs ls hP hS hl => lv_astore_n hx hb hd rfl hl (Nat.le_of_ble_eq_true hsl) rfl (fun ls' hl' => h H locs ls' hP hS (am_st1 (v := .ref x) hl'))
  · obtain ⟨rfl, hd, hv⟩ := am_dn hk rfl
    obtain ⟨x, r, e9, h9⟩ := am_r1_s h
    replace h := h9
    subst e9
    exact fun H locs ls hP hS hl => lv_astore hx hb hd hl (Nat.le_of_ble_eq_true hsl) rfl (fun ls' hl' => h H locs ls' hP hS (am_st1 (v := .ref x) hl'))
  · -- iinc
    rename_i i0 k0
    obtain ⟨rfl, hd, hv⟩ := am_dn hk rfl
    obtain ⟨x, hq, h9⟩ := am_li1_s h
    replace h := h9
    intro H locs ls hP hS hl
    have hm : (i0, Value.int x) ∈ am_cl ad lv := List.mem_map.mpr ⟨(i0, .int x), am_lk_s hq, rfl⟩
    obtain ⟨k1, hk1⟩ := List.getElem?_of_mem hm
    have hlt : i0 < am_ml mid := by
      have := lv_lt (am_get hl hq)
      rw [hl.1] at this
      exact this
    exact lv_iinc hx hb hd hl hk1 (by rw [of_decide_eq_true hv]) hlt rfl (fun ls' hl' => h H locs ls' hP hS (am_st1 (v := .int (x + v)) hl'))
  · obtain ⟨rfl, hd, hv⟩ := am_dn hk rfl
    obtain ⟨x, y, r, e9, h9⟩ := am_i2_s h
    replace h := h9
    subst e9
    exact fun H locs ls hP hS hl => lv_iadd hx hb hd (h H locs ls hP hS hl)
  · obtain ⟨rfl, hd, hv⟩ := am_dn hk rfl
    obtain ⟨x, y, r, e9, h9⟩ := am_i2_s h
    replace h := h9
    subst e9
    exact fun H locs ls hP hS hl => lv_isub hx hb hd (h H locs ls hP hS hl)
  · obtain ⟨rfl, hd, hv⟩ := am_dn hk rfl
    obtain ⟨x, y, r, e9, h9⟩ := am_i2_s h
    replace h := h9
    subst e9
    exact fun H locs ls hP hS hl => lv_imul hx hb hd (h H locs ls hP hS hl)
  · obtain ⟨rfl, hd, hv⟩ := am_dn hk rfl
    obtain ⟨x, y, r, e9, h9⟩ := am_i2_s h
    replace h := h9
    subst e9
    exact fun H locs ls hP hS hl => lv_iand hx hb hd (h H locs ls hP hS hl)
  · obtain ⟨rfl, hd, hv⟩ := am_dn hk rfl
    obtain ⟨x, y, r, e9, h9⟩ := am_i2_s h
    replace h := h9
    subst e9
    exact fun H locs ls hP hS hl => lv_ior hx hb hd (h H locs ls hP hS hl)
  · obtain ⟨rfl, hd, hv⟩ := am_dn hk rfl
    obtain ⟨x, y, r, e9, h9⟩ := am_i2_s h
    replace h := h9
    subst e9
    exact fun H locs ls hP hS hl => lv_ixor hx hb hd (h H locs ls hP hS hl)
  · obtain ⟨rfl, hd, hv⟩ := am_dn hk rfl
    obtain ⟨x, y, r, e9, h9⟩ := am_i2_s h
    replace h := h9
    subst e9
    exact fun H locs ls hP hS hl => lv_ishl hx hb hd (h H locs ls hP hS hl)
  · obtain ⟨rfl, hd, hv⟩ := am_dn hk rfl
    obtain ⟨x, y, r, e9, h9⟩ := am_i2_s h
    replace h := h9
    subst e9
    exact fun H locs ls hP hS hl => lv_ishr hx hb hd (h H locs ls hP hS hl)
  · obtain ⟨rfl, hd, hv⟩ := am_dn hk rfl
    obtain ⟨x, y, r, e9, h9⟩ := am_i2_s h
    replace h := h9
    subst e9
    exact fun H locs ls hP hS hl => lv_iushr hx hb hd rfl (h H locs ls hP hS hl)
  · obtain ⟨rfl, hd, hv⟩ := am_dn hk rfl
    obtain ⟨x, y, r, e9, h9⟩ := am_i2_s h
    replace h := h9
    subst e9
    split at h
    · exact h.elim
    · rename_i hy
      exact fun H locs ls hP hS hl => lv_idiv hx hb hd hy (h H locs ls hP hS hl)
  · obtain ⟨rfl, hd, hv⟩ := am_dn hk rfl
    obtain ⟨x, y, r, e9, h9⟩ := am_i2_s h
    replace h := h9
    subst e9
    split at h
    · exact h.elim
    · rename_i hy
      exact fun H locs ls hP hS hl => lv_irem hx hb hd hy (h H locs ls hP hS hl)
  · obtain ⟨rfl, hd, hv⟩ := am_dn hk rfl
    obtain ⟨x, r, e9, h9⟩ := am_i1_s h
    replace h := h9
    subst e9
    exact fun H locs ls hP hS hl => lv_i2l hx hb hd rfl (h H locs ls hP hS hl)
  · obtain ⟨rfl, hd, hv⟩ := am_dn hk rfl
    obtain ⟨x, r, e9, h9⟩ := am_i1_s h
    replace h := h9
    subst e9
    exact fun H locs ls hP hS hl => lv_i2b hx hb hd rfl (h H locs ls hP hS hl)
  · obtain ⟨rfl, hd, hv⟩ := am_dn hk rfl
    obtain ⟨x, r, e9, h9⟩ := am_i1_s h
    replace h := h9
    subst e9
    exact fun H locs ls hP hS hl => lv_i2s hx hb hd rfl (h H locs ls hP hS hl)
  · obtain ⟨rfl, hd, hv⟩ := am_dn hk rfl
    obtain ⟨x, r, e9, h9⟩ := am_i1_s h
    replace h := h9
    subst e9
    exact fun H locs ls hP hS hl => lv_i2c hx hb hd rfl (h H locs ls hP hS hl)
  · obtain ⟨rfl, hd, hv⟩ := am_dn hk rfl
    obtain ⟨x, y, r, e9, h9⟩ := am_l2_s h
    replace h := h9
    subst e9
    exact fun H locs ls hP hS hl => lv_ladd hx hb hd (h H locs ls hP hS hl)
  · obtain ⟨rfl, hd, hv⟩ := am_dn hk rfl
    obtain ⟨x, y, r, e9, h9⟩ := am_l2_s h
    replace h := h9
    subst e9
    exact fun H locs ls hP hS hl => lv_lsub hx hb hd (h H locs ls hP hS hl)
  · obtain ⟨rfl, hd, hv⟩ := am_dn hk rfl
    obtain ⟨x, y, r, e9, h9⟩ := am_l2_s h
    replace h := h9
    subst e9
    exact fun H locs ls hP hS hl => lv_lmul hx hb hd (h H locs ls hP hS hl)
  · obtain ⟨rfl, hd, hv⟩ := am_dn hk rfl
    obtain ⟨x, y, r, e9, h9⟩ := am_l2_s h
    replace h := h9
    subst e9
    exact fun H locs ls hP hS hl => lv_land hx hb hd (h H locs ls hP hS hl)
  · obtain ⟨rfl, hd, hv⟩ := am_dn hk rfl
    obtain ⟨x, y, r, e9, h9⟩ := am_l2_s h
    replace h := h9
    subst e9
    split at h
    · exact h.elim
    · rename_i hy
      exact fun H locs ls hP hS hl => lv_ldiv hx hb hd hy (h H locs ls hP hS hl)
  · obtain ⟨rfl, hd, hv⟩ := am_dn hk rfl
    obtain ⟨x, y, r, e9, h9⟩ := am_l2_s h
    replace h := h9
    subst e9
    split at h
    · exact h.elim
    · rename_i hy
      exact fun H locs ls hP hS hl => lv_lrem hx hb hd hy (h H locs ls hP hS hl)
  · obtain ⟨rfl, hd, hv⟩ := am_dn hk rfl
    obtain ⟨x, y, r, e9, h9⟩ := am_li_s h
    replace h := h9
    subst e9
    exact fun H locs ls hP hS hl => lv_lshl hx hb hd rfl (h H locs ls hP hS hl)
  · obtain ⟨rfl, hd, hv⟩ := am_dn hk rfl
    obtain ⟨x, y, r, e9, h9⟩ := am_li_s h
    replace h := h9
    subst e9
    exact fun H locs ls hP hS hl => lv_lshr hx hb hd rfl (h H locs ls hP hS hl)
  · obtain ⟨rfl, hd, hv⟩ := am_dn hk rfl
    obtain ⟨x, y, r, e9, h9⟩ := am_l2_s h
    replace h := h9
    subst e9
    exact fun H locs ls hP hS hl => W.lcmp hx hb hd (h H locs ls hP hS hl)
  · -- dup
    obtain ⟨rfl, hd, hv⟩ := am_dn hk rfl
    obtain ⟨x, r, e9, hc, h9⟩ := am_v1_s h
    replace h := h9
    subst e9
    exact fun H locs ls hP hS hl => lv_dup hx hb hd (by rw [am_cat_c]; exact hc) (h H locs ls hP hS hl)
  · obtain ⟨rfl, hd, hv⟩ := am_dn hk rfl
    obtain ⟨x, r, e9, hc, h9⟩ := am_v1_s h
    replace h := h9
    subst e9
    exact fun H locs ls hP hS hl => lv_pop hx hb hd (by rw [am_cat_c]; exact hc) (h H locs ls hP hS hl)
  · obtain ⟨rfl, hd, hv⟩ := am_dn hk rfl
    obtain ⟨x, y, r, e9, hc, hc2, h9⟩ := am_v2_s h
    replace h := h9
    subst e9
    exact fun H locs ls hP hS hl => lv_dup2_11 hx hb hd (by rw [am_cat_c]; exact hc2) (by rw [am_cat_c]; exact hc) (h H locs ls hP hS hl)
  · -- goto
    obtain ⟨rfl, hd, hv⟩ := am_dn hk rfl
    exact fun H locs ls hP hS hl => lv_goto hx hb hd (of_decide_eq_true hv) (h H locs ls hP hS hl)
  · -- if
    rename_i cnd off
    obtain ⟨rfl, hd, hv⟩ := am_dn hk rfl
    obtain ⟨x, r, e9, h9⟩ := am_i1_s h
    replace h := h9
    subst e9
    intro H locs ls hP hS hl
    replace hv := of_decide_eq_true hv
    cases cnd
    all_goals dsimp only at h
    · exact lv_if_eq hx hb hd hv (fun q => by rw [if_pos q] at h; exact h H locs ls hP hS hl) (fun q => by rw [if_neg q] at h; exact h H locs ls hP hS hl)
    · exact lv_if_ne hx hb hd hv (fun q => by rw [if_neg q] at h; exact h H locs ls hP hS hl) (fun q => by rw [if_pos q] at h; exact h H locs ls hP hS hl)
    · exact lv_if_lt hx hb hd hv (fun q => by rw [if_pos q] at h; exact h H locs ls hP hS hl) (fun q => by rw [if_neg q] at h; exact h H locs ls hP hS hl)
    · exact lv_if_ge hx hb hd hv (fun q => by rw [if_pos q] at h; exact h H locs ls hP hS hl) (fun q => by rw [if_neg q] at h; exact h H locs ls hP hS hl)
    · exact lv_if_gt hx hb hd hv (fun q => by rw [if_pos q] at h; exact h H locs ls hP hS hl) (fun q => by rw [if_neg q] at h; exact h H locs ls hP hS hl)
    · exact lv_if_le hx hb hd hv (fun q => by rw [if_pos q] at h; exact h H locs ls hP hS hl) (fun q => by rw [if_neg q] at h; exact h H locs ls hP hS hl)
  · rename_i cnd off
    obtain ⟨rfl, hd, hv⟩ := am_dn hk rfl
    obtain ⟨x, y, r, e9, h9⟩ := am_i2_s h
    replace h := h9
    subst e9
    intro H locs ls hP hS hl
    replace hv := of_decide_eq_true hv
    cases cnd
    all_goals dsimp only at h
    · exact lv_icmp_eq hx hb hd hv (fun q => by rw [if_pos q] at h; exact h H locs ls hP hS hl) (fun q => by rw [if_neg q] at h; exact h H locs ls hP hS hl)
    · exact lv_icmp_ne hx hb hd hv (fun q => by rw [if_neg q] at h; exact h H locs ls hP hS hl) (fun q => by rw [if_pos q] at h; exact h H locs ls hP hS hl)
    · exact lv_icmp_lt hx hb hd hv (fun q => by rw [if_pos q] at h; exact h H locs ls hP hS hl) (fun q => by rw [if_neg q] at h; exact h H locs ls hP hS hl)
    · exact lv_icmp_ge hx hb hd hv (fun q => by rw [if_pos q] at h; exact h H locs ls hP hS hl) (fun q => by rw [if_neg q] at h; exact h H locs ls hP hS hl)
    · exact lv_icmp_gt hx hb hd hv (fun q => by rw [if_pos q] at h; exact h H locs ls hP hS hl) (fun q => by rw [if_neg q] at h; exact h H locs ls hP hS hl)
    · exact lv_icmp_le hx hb hd hv (fun q => by rw [if_pos q] at h; exact h H locs ls hP hS hl) (fun q => by rw [if_neg q] at h; exact h H locs ls hP hS hl)
  · -- tableswitch
    simp only [am_ok1, Bool.and_eq_true, Bool.or_eq_true, decide_eq_true_eq] at hk
    obtain ⟨⟨hd, -⟩, -⟩ := hk
    obtain ⟨x, r, e9, t, hsw, h9⟩ := am_i1_s h
    replace h := h9
    subst e9
    intro H locs ls hP hS hl
    rcases hsw with ⟨h1, h2⟩ | ⟨h1, h2, off, h3, h4⟩
    · exact lv_tableOut hx hb hd h1 h2 (h H locs ls hP hS hl)
    · exact lv_tableIn hx hb hd h1 h2 h3 h4 (h H locs ls hP hS hl)
  · -- getfield
    rename_i ix
    obtain ⟨rfl, hd, hv⟩ := am_dn hk rfl
    obtain ⟨⟨ci, j, nest⟩, hq, h9⟩ := am_opt_s h
    replace h := h9
    obtain ⟨b, r, e9, h9⟩ := am_r1_s h
    replace h := h9
    subst e9
    have hf := am_fld hq
    unfold am_getf at h
    split at h
    · rename_i h13
      obtain ⟨v0, hv0, h9⟩ := am_opt_s h
      replace h := h9
      obtain ⟨j0, rfl, hj⟩ := am_sv_s hv0
      obtain ⟨-, hco, hva⟩ := hSt.2.2.2.2.1 j0 v0 hj
      simp only [am_fok, h13] at hf
      match j, h, hf with
      | 0, h, hf => exact fun H locs ls hP hS hl => vk_getf hx hb hva hS hown (hts _ (of_decide_eq_true hf)) (fun _ h9 => h9) hd (h H locs ls hP hS hl)
      | k + 1, h, hf => exact fun H locs ls hP hS hl => vk_getf hx hb hco hS hown (hts _ (of_decide_eq_true hf)) (fun _ h9 => h9) hd (h H locs ls hP hS hl)
    · rename_i h13
      obtain ⟨hb2, h9⟩ := am_test_s h
      replace h := h9
      obtain ⟨fl, hfl⟩ := am_isb_s hb2
      have hoc := am_okc_at hsh hfl
      simp only [am_okc, Bool.and_eq_true] at hoc
      obtain ⟨ho1, ho2, ho3⟩ := hoc
      split at ho1
      case h_2 => cases ho1
      rename_i C hC
      have hlen : fl.length = C.2.2 := Nat.eq_of_beq_eq_true ho1
      have hcl := am_cls hC
      simp only [am_clok, Bool.and_eq_true, decide_eq_true_eq] at hcl
      obtain ⟨hc1, hc2, hc3, hc4⟩ := hcl
      have hin : ∀ w ∈ u_ws C.1 C.2.1 C.2.2, w ∈ am_GT := fun w hw => of_decide_eq_true (List.all_eq_true.mp hc1 w hw)
      simp only [am_fok, h13, hC] at hf
      have hj : j < C.2.2 := by
        cases nest <;> simp only [Bool.and_eq_true] at hf <;> exact Nat.le_of_ble_eq_true hf.2
      obtain ⟨f0, hf0⟩ : ∃ f0, fl[j]? = some f0 := ⟨_, List.getElem?_eq_getElem (by omega)⟩
      have hkd := am_okf_at ho2 hf0
      rw [Nat.zero_add] at hkd
      have hval : ∀ V : Value, am_fv ad w b j f0 = V → (am_fs ad w b 0 fl)[j]? = some V := fun V hV => by rw [am_fs_at, hf0, Nat.zero_add, Option.map_some, hV]
      have go : ∀ V : Value, am_fv ad w b j f0 = am_c ad V → am_G p l e R s m args below meth c sh cA ad D A (am_ml mid) o (pc + am_len (.getfield ix)) lv (V :: r) w → am_G p l e R s m args below meth c sh cA ad D A (am_ml mid) o pc lv (.ref b :: r) w := by
        intro V hV g1 H locs ls hP hS hl
        have hw := am_w_at (cA := cA) (ad := ad) (w := w) hfl
        cases nest with
        | false =>
          simp only [Bool.and_eq_true] at hf
          exact va_get hx hb hts hin hown hK hP b hw hC j hj (hts _ (of_decide_eq_true hf.1)) (fun _ h9 => h9) (hval _ hV) hd (g1 H locs ls hP hS hl)
        | true =>
          simp only [Bool.and_eq_true] at hf
          exact va_getN hx hb hts hin hown hK hP b hw hC j hj ((hSt.1 _ (of_decide_eq_true hf.1)).use rfl) (fun _ h9 => h9) (hval _ hV) hd (g1 H locs ls hP hS hl)
      split at h
      · rename_i hz
        match f0, hkd, hf0, go with
        | none, _, _, go => exact go _ rfl h
        | some none, hkd, _, _ => rw [hz] at hkd; cases hkd
        | some (some t), hkd, _, _ => rw [hz] at hkd; cases hkd
      · rename_i hz
        match f0, hkd, hf0, go with
        | none, hkd, _, _ => rw [hz] at hkd; cases hkd
        | some none, hkd, _, _ => rw [hz] at hkd; cases hkd
        | some (some t), _, hf0, go =>
          obtain ⟨t1, ht1, h9⟩ := am_opt_s h
          replace h := h9
          have ht2 : am_tg sh b j = some t := by simp only [am_tg, hfl, hf0]
          rw [ht2] at ht1
          cases ht1
          exact go _ rfl h
      · rename_i hz
        match f0, hkd, hf0, go with
        | none, hkd, _, _ => rw [hz] at hkd; cases hkd
        | some none, _, _, go => exact go _ rfl h
        | some (some t), hkd, _, _ => rw [hz] at hkd; cases hkd
      · exact h.elim
  · -- putfield
    rename_i ix
    obtain ⟨rfl, hd, hv⟩ := am_dn hk rfl
    obtain ⟨⟨ci, j, nest⟩, hq, h9⟩ := am_opt_s h
    replace h := h9
    have hf := am_fld hq
    dsimp only at h
    have key : ∀ (b : Nat) (V : Value) (r : List Value) (w' : am_M) (kd : Nat), am_kd ci j = kd → (am_isb sh b ci && am_wr ci j) = true → am_c ad V = V → (∀ ty, (am_kd ci j = 0 → am_bl ci j = true → ty = .boolean) → (am_kd ci j = 0 → am_bl ci j = false → ty = .int) → (am_kd ci j = 2 → ty = .long) → narrow ty V = V ∧ fits ty V = true) → (kd = 0 ∨ kd = 2) → (∀ fl, sh[b]? = some (.inr (ci, fl)) → ∀ f0, fl[j]? = some f0 → (am_kd ci j = match f0 with | none => 0 | some none => 2 | some (some _) => 1) → am_nl fl ≤ 1 → (am_fs ad w b 0 fl).set j V = am_fs ad w' b 0 fl) → (∀ a, a ≠ b → w'.1 a = w.1 a) → (∀ a, a ≠ b → w'.2 a = w.2 a) →
        am_G p l e R s m args below meth c sh cA ad D A (am_ml mid) o (pc + am_len (.putfield ix)) lv r w' → am_G p l e R s m args below meth c sh cA ad D A (am_ml mid) o pc lv (V :: .ref b :: r) w := by
      intro b V r w' kd hkd0 hb3 hcV hty hkk hset h1 h2 h
      simp only [Bool.and_eq_true] at hb3
      obtain ⟨hb2, hwr⟩ := hb3
      obtain ⟨fl, hfl⟩ := am_isb_s hb2
      have hoc := am_okc_at hsh hfl
      simp only [am_okc, Bool.and_eq_true] at hoc
      obtain ⟨ho1, ho2, ho3⟩ := hoc
      split at ho1
      case h_2 => cases ho1
      rename_i C hC
      have hlen : fl.length = C.2.2 := Nat.eq_of_beq_eq_true ho1
      have hcl := am_cls hC
      simp only [am_clok, Bool.and_eq_true, decide_eq_true_eq] at hcl
      obtain ⟨hc1, hc2, hc3, hc4⟩ := hcl
      have hin : ∀ w ∈ u_ws C.1 C.2.1 C.2.2, w ∈ am_GT := fun w hw => of_decide_eq_true (List.all_eq_true.mp hc1 w hw)
      have h13 : Nat.beq ci 13 = false := by
        cases hz : Nat.beq ci 13 with
        | false => rfl
        | true =>
          have := Nat.eq_of_beq_eq_true hz
          subst this
          simp at hC
      simp only [am_fok, h13, hC] at hf
      have hj : j < C.2.2 := by
        cases nest <;> simp only [Bool.and_eq_true] at hf <;> exact Nat.le_of_ble_eq_true hf.2
      obtain ⟨f0, hf0⟩ : ∃ f0, fl[j]? = some f0 := ⟨_, List.getElem?_eq_getElem (by omega)⟩
      have hkd := am_okf_at ho2 hf0
      rw [Nat.zero_add] at hkd
      have hsm : ∀ i, i < C.2.2 → ∃ ty, parseFieldDescriptor (C.2.1 i).2.2.1 = some ty ∧ (am_kd ci i = 0 → am_bl ci i = true → ty = .boolean) ∧ (am_kd ci i = 0 → am_bl ci i = false → ty = .int) ∧ (am_kd ci i = 2 → ty = .long) := by
        intro i hi
        have := List.all_eq_true.mp hc4 i (List.mem_range.mpr hi)
        simp only [Bool.and_eq_true] at this
        have := this.2
        split at this
        · rename_i hz
          split at this
          · rename_i hz2
            exact ⟨_, of_decide_eq_true this, fun _ _ => rfl, fun _ h => (by rw [hz2] at h; cases h), fun h => (by rw [hz] at h; cases h)⟩
          · rename_i hz2
            exact ⟨_, of_decide_eq_true this, fun _ h => (by rw [hz2] at h; cases h), fun _ _ => rfl, fun h => (by rw [hz] at h; cases h)⟩
        · rename_i hz
          exact ⟨_, of_decide_eq_true this, fun h => (by rw [hz] at h; cases h), fun h => (by rw [hz] at h; cases h), fun _ => rfl⟩
        · rename_i hz1 hz2
          obtain ⟨ty, hty⟩ := Option.isSome_iff_exists.mp this
          exact ⟨ty, hty, fun h => absurd h hz1, fun h => absurd h hz1, fun h => absurd h hz2⟩
      obtain ⟨ty, hp1, hp2, hp3, hp4⟩ := hsm j hj
      obtain ⟨hn1, hn2⟩ := hty ty hp2 hp3 hp4
      have hty0 : ∀ k, k < C.2.2 → parseFieldDescriptor (C.2.1 k).2.2.1 = some ((parseFieldDescriptor (C.2.1 k).2.2.1).getD .int) := by
        intro k hk
        obtain ⟨ty, h, -⟩ := hsm k hk
        rw [h]; rfl
      have hfin : (C.2.1 j).2.2.2 = false := by
        unfold am_wr at hwr
        rw [hC] at hwr
        simpa using hwr
      have hs2 := hset fl hfl f0 hf0 hkd (Nat.le_of_ble_eq_true ho3)
      intro H locs ls hP hS hl
      have hw := am_w_at (cA := cA) (ad := ad) (w := w) hfl
      have hk2 : ∀ (H1 : Heap) (locs1 : List Loc), va_P D vwCl ((am_w sh cA ad w).set b (ad b, .inr (ci, (am_fs ad w b 0 fl).set j V))) H1 → va_D A ((am_w sh cA ad w).set b (ad b, .inr (ci, (am_fs ad w b 0 fl).set j V))) → va_S A s.heap H1 locs1 → W p l e R s m args below meth c H1 locs1 0 0 (MQ below (am_Q sh cA ad D A o) args s 0 0 A) (F0 m (pc + 3) ls (r.map (am_c ad))) := by
        intro H1 locs1 hP1 _ hS1
        rw [am_w_set hfl (w' := w') (by rw [hs2]; rfl) h1 h2] at hP1
        exact h H1 locs1 ls hP1 hS1 hl
      show W p l e R s m args below meth c H locs 0 0 _ (F0 m pc ls (am_c ad V :: .ref (ad b) :: r.map (am_c ad)))
      rw [hcV]
      cases nest with
      | false =>
        simp only [Bool.and_eq_true] at hf
        exact va_put hx hb hts hin _ hty0 (am_nm hC) hown hK hP (hAD.D cA w) hS b hw hC j hj (hts _ (of_decide_eq_true hf.1)) (fun _ h9 => h9) hfin hp1 hn1 hn2 (by rw [am_fs_len]; show j < fl.length; omega) hd hk2
      | true =>
        simp only [Bool.and_eq_true] at hf
        exact va_putN hx hb hts hin _ hty0 (am_nm hC) hown hK hP (hAD.D cA w) hS b hw hC j hj ((hSt.1 _ (of_decide_eq_true hf.1)).use rfl) (fun _ h9 => h9) hfin hp1 hn1 hn2 (by rw [am_fs_len]; show j < fl.length; omega) hd hk2
    split at h
    · rename_i hz
      obtain ⟨a, v0, r, e9, -, -, h9⟩ := am_v2_s h
      replace h := h9
      subst e9
      have hab : (∃ b v1, a = .ref b ∧ v0 = .int v1) ∨ ¬ (∃ b v1, a = .ref b ∧ v0 = .int v1) := Classical.em _
      rcases hab with ⟨b, v1, ea, ev⟩ | hab
      · subst ea
        subst ev
        dsimp only at h
        obtain ⟨ht, h9⟩ := am_test_s h
        replace h := h9
        have hset : ∀ fl, sh[b]? = some (.inr (ci, fl)) → ∀ f0, fl[j]? = some f0 → (am_kd ci j = match f0 with | none => 0 | some none => 2 | some (some _) => 1) → am_nl fl ≤ 1 → (am_fs ad w b 0 fl).set j (.int v1) = am_fs ad (am_pi w b j v1) b 0 fl := by
          intro fl _ f0 hf0 hkd _
          match f0, hf0, hkd with
          | none, hf0, _ => exact am_fs_pi hf0
          | some none, _, hkd => rw [hz] at hkd; cases hkd
          | some (some t), _, hkd => rw [hz] at hkd; cases hkd
        have hp : ∀ a, a ≠ b → (am_pi w b j v1).1 a = w.1 a := fun a ha => by funext i; simp [am_pi, ha]
        split at h
        · rename_i hbl
          refine key b (.int v1) r _ 0 hz ht rfl (fun ty t1 t2 t3 => ?_) (Or.inl rfl) hset hp (fun _ _ => rfl) h
          rw [t2 hz hbl]
          exact ⟨rfl, rfl⟩
        · rename_i hbl
          refine key b (.int v1) r _ 0 hz ht rfl (fun ty t1 t2 t3 => ?_) (Or.inl rfl) hset hp (fun _ _ => rfl) h.2
          rw [t1 hz hbl]
          rcases h.1 with e | e <;> rw [e] <;> exact ⟨by decide, by decide⟩
      · split at h
        · exact absurd ⟨_, _, rfl, rfl⟩ hab
        · exact h.elim
    · rename_i hz
      obtain ⟨b, v1, r, e9, h9⟩ := am_rl1_s h
      replace h := h9
      subst e9
      obtain ⟨ht, h9⟩ := am_test_s h
      replace h := h9
      refine key b (.long v1) r (am_pl w b v1) 2 hz ht rfl (fun ty t1 t2 t3 => ?_) (Or.inr rfl) ?_ (fun _ _ => rfl) (fun a ha => by simp [am_pl, ha]) h
      · rw [t3 hz]
        exact ⟨rfl, rfl⟩
      · intro fl _ f0 hf0 hkd hnl
        match f0, hf0, hkd with
        | none, _, hkd => rw [hz] at hkd; cases hkd
        | some none, hf0, _ => exact am_fs_pl hf0 (fun i hi => am_nl_one hnl hi hf0)
        | some (some t), _, hkd => rw [hz] at hkd; cases hkd
    · exact h.elim
  · -- getstatic
    obtain ⟨rfl, hd, hv⟩ := am_dn hk rfl
    obtain ⟨⟨j, nest⟩, hq, h9⟩ := am_opt_s h
    replace h := h9
    have hg := am_gst hq
    dsimp only at h
    split at h
    · rename_i h4
      simp only [am_gok, h4] at hg
      exact fun H locs ls hP hS hl => va_gets hx hb hSt.2.2.2.2.2.1 hS hown (hts _ (of_decide_eq_true hg)) (fun _ h9 => h9) hd (h H locs ls hP hS hl)
    · rename_i h4
      have hj : j < 4 := by
        rcases Nat.lt_or_ge j 4 with z | z
        · exact z
        · rw [Nat.ble_eq_true_of_le z] at h4; cases h4
      have hz := hSt.2.1 j hj
      simp only [am_gok, h4] at hg
      cases nest with
      | false => exact fun H locs ls hP hS hl => va_gets hx hb hz hS hown (hts _ (of_decide_eq_true hg)) (fun _ h9 => h9) hd (h H locs ls hP hS hl)
      | true => exact fun H locs ls hP hS hl => va_getsN hx hb hz hS hown ((hSt.1 _ (of_decide_eq_true hg)).use rfl) (fun _ h9 => h9) hd (h H locs ls hP hS hl)
  · -- iaload
    obtain ⟨rfl, hd, hv⟩ := am_dn hk rfl
    obtain ⟨b, i0, r, e9, h9⟩ := am_ri_s h
    replace h := h9
    subst e9
    split at h
    · rename_i n0 hn0
      split at h
      · exact h.elim
      · rename_i hin
        have hw := fun (w : am_M) => am_w_at (cA := cA) (ad := ad) (w := w) (am_ln_s hn0)
        exact fun H locs ls hP hS hl => va_iald hx hb hK hP b 0 (hw w) rfl hin hd (h H locs ls hP hS hl)
    · obtain ⟨l0, hl0, h9⟩ := am_opt_s h
      replace h := h9
      split at h
      · exact h.elim
      · rename_i hin
        obtain ⟨j, rfl, hj⟩ := am_si_s hl0
        exact fun H locs ls hP hS hl => va_ti hx hb (hSt.2.2.1 j l0 hj) hS hin rfl hd (h H locs ls hP hS hl)
  · -- baload
    obtain ⟨rfl, hd, hv⟩ := am_dn hk rfl
    obtain ⟨b, i0, r, e9, h9⟩ := am_ri_s h
    replace h := h9
    subst e9
    obtain ⟨l0, hl0, h9⟩ := am_opt_s h
    replace h := h9
    split at h
    · exact h.elim
    · rename_i hin
      obtain ⟨j, rfl, hj⟩ := am_sb_s hl0
      exact fun H locs ls hP hS hl => va_tb hx hb (hSt.2.2.2.1 j l0 hj) hS hin rfl hd (h H locs ls hP hS hl)
  · -- iastore
    obtain ⟨rfl, hd, hv⟩ := am_dn hk rfl
    obtain ⟨b, i0, x, r, e9, h9⟩ := am_rii_s h
    replace h := h9
    subst e9
    obtain ⟨n0, hn0, h9⟩ := am_opt_s h
    replace h := h9
    split at h
    · exact h.elim
    · rename_i hin
      intro H locs ls hP hS hl
      have hsb := am_ln_s hn0
      refine va_iast hx hb hK hP (hAD.D cA w) hS b 0 (am_w_at hsb) rfl hin hd (fun H1 locs1 hP1 _ hS1 => ?_)
      rw [am_w_set hsb (w := w) (w' := am_pi w b i0.toNatClampNeg x) ?_ (fun a ha => by funext i; simp [am_pi, ha]) (fun _ _ => rfl)] at hP1
      · exact h H1 locs1 ls hP1 hS1 hl
      · simp only [am_e]
        congr 4
        funext i
        by_cases hi : i = i0.toNatClampNeg
        · subst hi; simp [upd, am_pi]
        · simp [upd, am_pi, hi]
  · -- aaload
    obtain ⟨rfl, hd, hv⟩ := am_dn hk rfl
    obtain ⟨b, i0, r, e9, h9⟩ := am_ri_s h
    replace h := h9
    subst e9
    obtain ⟨⟨q1, q2⟩, hq, h9⟩ := am_opt_s h
    replace h := h9
    dsimp only at h
    split at h
    · exact h.elim
    · rename_i hi0
      obtain ⟨t0, ht0, h9⟩ := am_opt_s h
      replace h := h9
      have hlt : i0.toNatClampNeg < q2.length := (List.getElem?_eq_some_iff.mp ht0).1
      have hin : ¬ (i0 < 0 ∨ q2.length ≤ i0.toNatClampNeg) := fun z => z.elim hi0 (fun z => absurd hlt (Nat.not_lt.mpr z))
      have hsb := am_rl_s hq
      have hoc := am_okc_at hsh hsb
      simp only [am_okc, Bool.and_eq_true] at hoc
      have hl1 : 1 ≤ q1 := Nat.le_of_ble_eq_true hoc.1
      have hl5 : q1 < 5 := Nat.le_of_ble_eq_true hoc.2
      have hty : ∃ C, (am_ty cA)[q1]? = some (cA q1, .object C) := by
        rcases (show q1 = 1 ∨ q1 = 2 ∨ q1 = 3 ∨ q1 = 4 by omega) with z | z | z | z <;> rw [z] <;> exact ⟨_, rfl⟩
      obtain ⟨C, hC⟩ := hty
      intro H locs ls hP hS hl
      refine va_aldq hx hb hK hP b q1 (am_w_at hsb) hC hin hd ?_
      have e2 : va_rf ((q2[i0.toNatClampNeg]?).map ad) = am_c ad (.ref t0) := by
        rw [ht0]
        rfl
      rw [e2]
      exact h H locs ls hP hS hl
  · -- arraylength
    obtain ⟨rfl, hd, hv⟩ := am_dn hk rfl
    obtain ⟨b, r, e9, h9⟩ := am_r1_s h
    replace h := h9
    subst e9
    obtain ⟨l0, hl0, h9⟩ := am_opt_s h
    replace h := h9
    obtain ⟨j, rfl, hj⟩ := am_sb_s hl0
    exact fun H locs ls hP hS hl => va_tlen hx hb (hSt.2.2.2.1 j l0 hj) hS rfl hd (h H locs ls hP hS hl)
  · -- invokevirtual
    obtain ⟨rfl, hd, hv⟩ := am_dn hk rfl
    obtain ⟨⟨y, nq, sq, nest⟩, hq, h9⟩ := am_opt_s h
    replace h := h9
    obtain ⟨⟨as, r0⟩, hpq, h9⟩ := am_opt_s h
    replace h := h9
    obtain ⟨b, r, e9, h9⟩ := am_r1_s h
    replace h := h9
    subst e9
    obtain ⟨htt, o1, hc1, h9⟩ := am_test_s h
    replace h := h9
    obtain ⟨hnr, h9⟩ := am_test_s h
    replace h := h9
    simp only [Bool.and_eq_true] at htt
    obtain ⟨ht0, ht1, ht2⟩ := htt
    obtain ⟨hm, hC⟩ := hcall _ _ _ _ hc1
    obtain ⟨ha1, ha2, ha3⟩ := am_args_s hpq
    simp only [List.length_nil, Nat.add_zero] at ha1
    have hst : st = as.reverse ++ .ref b :: r := by rw [ha2, ← ha1, List.take_length]
    have hcp := (am_cpA _ _ (am_fnd_s hq)).1 hm
    replace ht0 := Nat.eq_of_beq_eq_true ht0
    subst ht0
    obtain ⟨hl1, hl2, hl3, hl4, -⟩ := hcp
    obtain ⟨hi1, hi2⟩ := hl4 rfl
    obtain ⟨hm1, hm2, hm3, hm4, hm5, hm6⟩ := am_mth hm
    intro H locs ls hP hS hl
    have hrec : ∃ cell : Cell, H[ad b]? = some cell ∧ cell.vm.isStatics = false ∧ s.vm.findClass (am_y y).cls = some cell.cls := by
      rw [show (am_y y).cls = am_cn (am_o y) from hm3]
      split at ht2
      · rename_i hz
        obtain ⟨j, v0, rfl, hj⟩ := am_isstr_s ht2
        obtain ⟨cell, g1, g2, g3, -⟩ := (hSt.2.2.2.2.1 j v0 hj).1.kept hS.2.1
        replace hz := Nat.eq_of_beq_eq_true hz
        rw [hz]
        exact ⟨cell, g1, g2, g3⟩
      · obtain ⟨fl, hfl⟩ := am_isb_s ht2
        have hoc := am_okc_at hsh hfl
        simp only [am_okc, Bool.and_eq_true] at hoc
        obtain ⟨ho1, -, -⟩ := hoc
        split at ho1
        case h_2 => cases ho1
        rename_i C hCC
        have hcl := am_cls hCC
        simp only [am_clok, Bool.and_eq_true, decide_eq_true_eq] at hcl
        rw [← hcl.2.2.1]
        exact va_recv hK hP hCC (am_w_at hfl)
    have hpre : ∀ U : State, U.heap = H → s.WarmedH U.vm → am_Pre sh cA ad D A (.ref b :: as) w (Value.ref (ad b) :: as.map (am_c ad)).toArray U := fun U hU hW => ⟨rfl, by rw [hU]; exact hP, va_K.moved hW.alike hK, by rw [hU]; exact (hSt.kept hS.2.1).warm hW⟩
    have hgood : GoodIn am_GT (Cond.code (am_y y) (am_b y) (am_ml y) (am_rt y) :: am_GT) := am_goodL fun w hw => (List.mem_cons.mp hw).elim (fun z => by rw [z]; exact hm1) id
    have hstk : (F0 m pc ls (st.map (am_c ad))).stack = (as.map (am_c ad)).reverse ++ .ref (ad b) :: r.map (am_c ad) := by
      show st.map (am_c ad) = _
      rw [hst]
      simp [am_c]
    have hRR : (am_RM n).frames + 1 ≤ R.frames ∧ 8 + (am_ml y + 11) + (am_RM n).locals ≤ R.locals := by
      rw [hR]
      refine ⟨Nat.le_refl _, ?_⟩
      show 8 + (am_ml y + 11) + 40 * n ≤ 40 * (n + 1)
      have : am_ml y ≤ 20 := hm6
      omega
    have hroom : 2 * (F0 m pc ls (st.map (am_c ad))).monitorRoom + ((r.map (am_c ad)).map fun v => v.category).sum ≤ 8 := by
      rw [am_cat_sum]
      have := Nat.le_of_ble_eq_true ht1
      show 2 * 0 + _ ≤ 8
      omega
    refine am_call (sh := sh) (cA := cA) (ad := ad) (D := D) (A := A) (o := o1) (a := (Value.ref (ad b) :: as.map (am_c ad)).toArray) (rest := r.map (am_c ad)) ?_ hS (fun H1 locs1 hP1 hS1 => ?_)
    · cases nest with
      | false =>
        exact va_runV ⟨hx, hb, hml, hown, hts⟩ hC (cwV nq hts (fun w hw => by
          unfold wsV at hw
          rcases List.mem_append.mp hw with hw | hw
          · refine am_good w ?_
            simp only [List.mem_cons, List.not_mem_nil, or_false] at hw
            rcases hw with rfl | rfl | rfl | rfl
            · exact hl1 rfl
            · exact hi1
            · exact hi2
            · exact hm5
          · exact hgood w hw) rfl rfl rfl ⟨rfl, hm4.1, hm4.2, hl3⟩ hRR) ⟨am_blind, hrec, hpre⟩ rfl (by rw [List.length_map]; exact ha1) hl.1 hstk hroom hd ⟨Nat.zero_le _, Nat.zero_le _⟩
      | true =>
        exact va_runVN ⟨hx, hb, hml, hown, hts⟩ hC ⟨va_cnB nq hts hgood rfl rfl rfl (hSt.1 _ (List.mem_filter.mpr ⟨hl2 rfl, rfl⟩)) (hts _ hm5) ⟨hm4.1, hm4.2, hl3⟩ hRR, hts _ hi1, hts _ hi2⟩ ⟨am_blind, hrec, hpre⟩ rfl (by rw [List.length_map]; exact ha1) hl.1 hstk hroom hd ⟨Nat.zero_le _, Nat.zero_le _⟩
    · have h := h H1 locs1 ls hP1 hS1 hl
      rw [am_nr_map hnr] at h
      exact h
  · -- invokestatic
    obtain ⟨rfl, hd, hv⟩ := am_dn hk rfl
    obtain ⟨⟨y, nq, sq, nest⟩, hq, h9⟩ := am_opt_s h
    replace h := h9
    have hcp0 := am_cpA _ _ (am_fnd_s hq)
    dsimp only at h
    split at h
    · obtain ⟨⟨as, r⟩, hpq, h9⟩ := am_opt_s h
      replace h := h9
      obtain ⟨htt, o1, hc1, h9⟩ := am_test_s h
      replace h := h9
      obtain ⟨hnr, h9⟩ := am_test_s h
      replace h := h9
      simp only [Bool.and_eq_true] at htt
      obtain ⟨ht0, ht1⟩ := htt
      obtain ⟨hm, hC⟩ := hcall _ _ _ _ hc1
      obtain ⟨ha1, ha2, ha3⟩ := am_args_s hpq
      simp only [List.length_nil, Nat.add_zero] at ha1
      have hst : st = as.reverse ++ r := by rw [ha2, ← ha1, List.take_length]
      have hcp := hcp0.1 hm
      replace ht0 := Nat.eq_of_beq_eq_true ht0
      subst ht0
      obtain ⟨hl1, hl2, hl3, -, hl5⟩ := hcp
      have hi1 := hl5 rfl
      obtain ⟨hm1, hm2, hm3, hm4, hm5, hm6⟩ := am_mth hm
      intro H locs ls hP hS hl
      have hpre : ∀ U : State, U.heap = H → s.WarmedH U.vm → am_Pre sh cA ad D A as w (as.map (am_c ad)).toArray U := fun U hU hW => ⟨rfl, by rw [hU]; exact hP, va_K.moved hW.alike hK, by rw [hU]; exact (hSt.kept hS.2.1).warm hW⟩
      have hgood : GoodIn am_GT (Cond.code (am_y y) (am_b y) (am_ml y) (am_rt y) :: am_GT) := am_goodL fun w hw => (List.mem_cons.mp hw).elim (fun z => by rw [z]; exact hm1) id
      have hstk : (F0 m pc ls (st.map (am_c ad))).stack = (as.map (am_c ad)).reverse ++ r.map (am_c ad) := by
        show st.map (am_c ad) = _
        rw [hst]
        simp
      have hRR : (am_RM n).frames + 1 ≤ R.frames ∧ 8 + (am_ml y + 11) + (am_RM n).locals ≤ R.locals := by
        rw [hR]
        refine ⟨Nat.le_refl _, ?_⟩
        show 8 + (am_ml y + 11) + 40 * n ≤ 40 * (n + 1)
        have : am_ml y ≤ 20 := hm6
        omega
      have hroom : 2 * (F0 m pc ls (st.map (am_c ad))).monitorRoom + ((r.map (am_c ad)).map fun v => v.category).sum ≤ 8 := by
        rw [am_cat_sum]
        have := Nat.le_of_ble_eq_true ht1
        show 2 * 0 + _ ≤ 8
        omega
      refine am_call (sh := sh) (cA := cA) (ad := ad) (D := D) (A := A) (o := o1) (a := (as.map (am_c ad)).toArray) (rest := r.map (am_c ad)) ?_ hS (fun H1 locs1 hP1 hS1 => ?_)
      · cases nest with
        | false =>
          exact va_runS ⟨hx, hb, hml, hown, hts⟩ hC (va_cwS nq hts (fun w hw => by
            unfold va_wsS at hw
            rcases List.mem_append.mp hw with hw | hw
            · refine am_good w ?_
              simp only [List.mem_cons, List.not_mem_nil, or_false] at hw
              rcases hw with rfl | rfl | rfl
              · exact hl1 rfl
              · exact hi1
              · exact hm5
            · exact hgood w hw) rfl rfl rfl ⟨hm4.1, hm4.2, hl3⟩ hRR) ⟨am_blind, hpre⟩ rfl (by rw [List.length_map]; exact ha1) hl.1 hstk hroom hd ⟨Nat.zero_le _, Nat.zero_le _⟩
        | true =>
          exact va_runSN ⟨hx, hb, hml, hown, hts⟩ hC ⟨va_cnB nq hts hgood rfl rfl rfl (hSt.1 _ (List.mem_filter.mpr ⟨hl2 rfl, rfl⟩)) (hts _ hm5) ⟨hm4.1, hm4.2, hl3⟩ hRR, hts _ hi1, trivial⟩ ⟨am_blind, hpre⟩ rfl (by rw [List.length_map]; exact ha1) hl.1 hstk hroom hd ⟨Nat.zero_le _, Nat.zero_le _⟩
      · have h := h H1 locs1 ls hP1 hS1 hl
        rw [am_nr_map hnr] at h
        exact h
    · have hbi := am_tbi
      simp only [Bool.and_eq_true, decide_eq_true_eq] at hbi
      obtain ⟨b1, b2, b3, b4, b5, b6, b7, b8⟩ := hbi
      have hfr : 1 ≤ R.frames := by rw [hR]; exact Nat.succ_le_succ (Nat.zero_le n)
      have hlo : 40 ≤ R.locals := by rw [hR]; show 40 ≤ 40 * (n + 1); omega
      split at h
      · obtain ⟨x, y, r, e9, h9⟩ := am_i2_s h
        replace h := h9
        subst e9
        obtain ⟨ht, h9⟩ := am_test_s h
        replace h := h9
        replace ht := Nat.le_of_ble_eq_true ht
        exact fun H locs ls hP hS hl => va_mmin hx hb (hml.trans hl.1.symm) hown (hts _ (hcp0.2.1 rfl)) (hts _ b1) (hts _ b3) (hts _ b4) hfr (by rw [am_cat_sum]; omega) (Nat.zero_le _) (Nat.zero_le _) hd (h H locs ls hP hS hl)
      · obtain ⟨x, y, r, e9, h9⟩ := am_i2_s h
        replace h := h9
        subst e9
        obtain ⟨ht, h9⟩ := am_test_s h
        replace h := h9
        replace ht := Nat.le_of_ble_eq_true ht
        exact fun H locs ls hP hS hl => va_mmax hx hb (hml.trans hl.1.symm) hown (hts _ (hcp0.2.2.1 rfl)) (hts _ b2) (hts _ b3) (hts _ b5) hfr (by rw [am_cat_sum]; omega) (Nat.zero_le _) (Nat.zero_le _) hd (h H locs ls hP hS hl)
      · obtain ⟨a0, sp, a, dp, n0, r, e9, h9⟩ := am_cp_s h
        replace h := h9
        subst e9
        obtain ⟨ht, h9⟩ := am_test_s h
        replace h := h9
        replace ht := Nat.le_of_ble_eq_true ht
        obtain ⟨l0, hl0, h9⟩ := am_opt_s h
        replace h := h9
        obtain ⟨l1, hl1, g1, g2, g3, g4, g5, h9⟩ := am_opt_s h
        replace h := h9
        intro H locs ls hP hS hl
        have hnw : nativeFrameWords "java/lang/System" "arraycopy" 5 ≤ 20 := by decide
        have hs0 := am_ln_s hl0
        have hs1 := am_ln_s hl1
        refine va_copyi hx hb (hml.trans hl.1.symm) hown (hts _ (hcp0.2.2.2.1 rfl)) (hts _ b6) (hts _ b7) (hts _ b8) hK hP (hAD.D cA w) hS a0 a 0 0 (am_w_at hs0) (am_w_at hs1) rfl rfl rfl g1 g2 g3 g4 g5 (fun _ _ => rfl) hfr (by rw [am_cat_sum]; omega) hd (fun H1 locs1 hP1 _ hS1 => ?_)
        rw [am_w_set hs1 (w := w) (w' := am_pa w a (va_cpy (w.1 a0) (w.1 a) sp.toNatClampNeg dp.toNatClampNeg n0.toNatClampNeg)) ?_ (fun b hb => by funext i; simp [am_pa, hb]) (fun _ _ => rfl)] at hP1
        · exact h H1 locs1 ls hP1 hS1 hl
        · have e5 : ∀ f : Nat → Int32, (am_pa w a f).1 a = f := fun f => by funext i; simp [am_pa]
          simp only [am_e, e5]
      · exact h.elim
  · -- ireturn
    obtain ⟨rfl, hd, hv⟩ := am_dn hk rfl
    obtain ⟨x, r, e9, h9⟩ := am_i1_s h
    replace h := h9
    subst e9
    split at h
    · obtain ⟨t, ht, hn, h9⟩ := am_opt_s h
      replace h := h9
      intro H locs ls hP hS hl
      exact W.zret hx hb (hr.trans ht) hn (fun t' ht' hW => ⟨by rw [← h], by rw [← h, ht']; exact hP, hS.F ht'⟩) hS.2.2 hd hlocks
    · exact h.elim
  · obtain ⟨rfl, hd, hv⟩ := am_dn hk rfl
    obtain ⟨x, r, e9, h9⟩ := am_l1_s h
    replace h := h9
    subst e9
    split at h
    · obtain ⟨ht, h⟩ := h
      intro H locs ls hP hS hl
      exact W.lret hx hb (hr.trans ht) (fun t' ht' hW => ⟨by rw [← h], by rw [← h, ht']; exact hP, hS.F ht'⟩) hS.2.2 hd hlocks
    · exact h.elim
  · obtain ⟨rfl, hd, hv⟩ := am_dn hk rfl
    split at h
    · obtain ⟨ht, h⟩ := h
      intro H locs ls hP hS hl
      exact W.vret hx hb (hr.trans ht) (fun t' ht' hW => ⟨by rw [← h], by rw [← h, ht']; exact hP, hS.F ht'⟩) hS.2.2 hd hlocks
    · exact h.elim
  · exact h.elim
/-- a run of the abstract machine is one of the machine -/
theorem am_RG (X : am_X p l R s m args meth c sh cA ad D A mid n call) {pc : Nat} {lv : am_L} {st : List Value} {w : am_M} (h : am_R sh mid call (fun r => r = o) pc lv st w) : am_G p l e R s m args below meth c sh cA ad D A (am_ml mid) o pc lv st w :=
  h _ fun pc lv st w en he hs => by
    have := am_stepG (e := e) (below := below) X he hs
    exact fun H locs ls hP hS hl => this H locs ls hP hS (am_sub hl (fun q hq => am_kill_s hq))
end AMS
theorem am_in_eq (ad : Nat → Nat) : ∀ (as : List Value) (n : Nat), lv_args n (as.map (am_c ad)) = am_cl ad (am_in n as)
  | [], n => rfl
  | v :: l, n => by
    simp only [List.map_cons, lv_args, am_in, am_cl]
    rw [am_in_eq ad l]
    have : (if (am_c ad v).category = 2 then n + 2 else n + 1) = n + v.category := by
      rw [am_cat_c]
      cases v <;> rfl
    rw [this]
    rfl
theorem am_sl_len (ad : Nat → Nat) : ∀ as : List Value, (lg_sl (as.map (am_c ad))).length = am_cat as
  | [] => rfl
  | v :: l => by
    have ih := am_sl_len ad l
    simp only [lg_sl, List.map_cons, List.flatMap_cons, List.length_append, am_cat] at ih ⊢
    rw [ih, am_cat_c]
    cases v <;> rfl
/-- THE CONTRACTS: what the abstract machine does to a depth, the machine does -/
theorem am_sound (l : Launch) (sh : List am_S) (cA : Nat → ClassId) (ad : Nat → Nat) (D : va_G) (A : Nat → Prop) (hsh : am_okS sh = true) (hAD : am_AD sh ad A) : ∀ (d n : Nat), d ≤ n → ∀ (mid : Nat) (as : List Value) (w : am_M) (o : am_O), am_D sh d mid as w o → mid < 199 ∧ am_C l sh cA ad D A n mid as w o := by
  intro d
  induction d with
  | zero => intro n _ mid as w o h; exact h.elim
  | succ d ih =>
    intro n hn mid as w o h
    rcases h with h | ⟨hfit, hm, h⟩
    · exact ih n (by omega) mid as w o h
    · have hm : mid < 199 := Nat.le_of_ble_eq_true hm
      refine ⟨hm, ?_⟩
      obtain ⟨n, rfl⟩ : ∃ k, n = k + 1 := ⟨n - 1, by omega⟩
      obtain ⟨hm1, hm2, hm3, hm4, hm5, hm6⟩ := am_mth hm
      refine Met.ofW (cc := am_b mid) (maxL := am_ml mid) (ret := am_rt mid) hm2 rfl ?_
      intro p e s m args below meth c s₁ B hml hv
      obtain ⟨rfl, hP, hK, hSt⟩ := hv
      have hts := atoms_spec (ws := Cond.code (am_y mid) (am_b mid) (am_ml mid) (am_rt mid) :: am_GT) B.pre
      have hown : s.vm.findClass (am_cn (am_o mid)) = some m.cls := by
        rw [← (show (am_y mid).cls = am_cn (am_o mid) from hm3)]
        exact findClass_of_methodNamed B.named
      have X : am_X p l (am_RM (n + 1)) s m (as.map (am_c ad)).toArray meth c sh cA ad D A mid n (am_D sh d) := ⟨B.exec, B.bytes, hml, B.returns, B.notSynchronized, hown, fun w hw => hts w (List.mem_cons_of_mem _ hw), hK, hAD, hSt, hsh, rfl, ih n (by omega)⟩
      have hl := lv_entry (as.map (am_c ad)) (n := am_ml mid) (by rw [am_sl_len]; exact Nat.le_of_ble_eq_true hfit)
      rw [lg_entry_eq]
      rw [am_in_eq] at hl
      exact am_RG X h s.heap [] _ hP va_S.rf hl
end
section
-- the cells of the two systems, by our own program wip/gen/shapes.py
def shC : List am_S := [
  .inr (11, [some (some 1), some (some 8), some (some 9), some (some 12), some (some 16), some (some 18), some (some 20), some (some 24), some (some 33), some (some 50), some (some 52), some (some 53), some (some 66), some (some 69), some (some 70), some (some 71), none, none, none, none]),
  .inl (.inr (1, [2, 3, 4])),
  .inr (7, [some (some 5), none, none]),
  .inr (7, [some (some 6), none, none]),
  .inr (7, [some (some 7), none, none]),
  .inl (.inl 55),
  .inl (.inl 55),
  .inl (.inl 55),
  .inl (.inl 3),
  .inr (8, [some (some 10), some (some 11), none, none]),
  .inl (.inl 36),
  .inl (.inl 144),
  .inr (0, [some (some 13), some (some 14), some (some 15), none]),
  .inl (.inl 8),
  .inl (.inl 8),
  .inl (.inl 32),
  .inr (2, [some (some 17), none]),
  .inl (.inl 40),
  .inr (3, [some (some 19), none]),
  .inl (.inl 8),
  .inr (5, [some (some 21), some (some 22), some (some 23), none]),
  .inl (.inl 8),
  .inl (.inl 8),
  .inl (.inl 8),
  .inl (.inr (2, [25, 26, 27, 28])),
  .inr (4, [some (some 29), none, none]),
  .inr (4, [some (some 30), none, none]),
  .inr (4, [some (some 31), none, none]),
  .inr (4, [some (some 32), none, none]),
  .inl (.inl 60),
  .inl (.inl 60),
  .inl (.inl 60),
  .inl (.inl 60),
  .inl (.inr (3, [34, 35, 36, 37, 38, 39, 40, 41])),
  .inr (9, [some (some 42), none, none]),
  .inr (9, [some (some 43), none, none]),
  .inr (9, [some (some 44), none, none]),
  .inr (9, [some (some 45), none, none]),
  .inr (9, [some (some 46), none, none]),
  .inr (9, [some (some 47), none, none]),
  .inr (9, [some (some 48), none, none]),
  .inr (9, [some (some 49), none, none]),
  .inl (.inl 120),
  .inl (.inl 120),
  .inl (.inl 120),
  .inl (.inl 120),
  .inl (.inl 120),
  .inl (.inl 120),
  .inl (.inl 120),
  .inl (.inl 120),
  .inr (9, [some (some 51), none, none]),
  .inl (.inl 120),
  .inr (10, [some (some 9), some (some 12), none, none, none, none, none, none, none, none, none, none, none]),
  .inr (6, [some (some 54), none, none, none, some none]),
  .inl (.inr (4, [55, 56, 57, 58, 59, 60, 61, 62, 63, 64, 65])),
  .inr (10, [some (some 9), some (some 12), none, none, none, none, none, none, none, none, none, none, none]),
  .inr (10, [some (some 9), some (some 12), none, none, none, none, none, none, none, none, none, none, none]),
  .inr (10, [some (some 9), some (some 12), none, none, none, none, none, none, none, none, none, none, none]),
  .inr (10, [some (some 9), some (some 12), none, none, none, none, none, none, none, none, none, none, none]),
  .inr (10, [some (some 9), some (some 12), none, none, none, none, none, none, none, none, none, none, none]),
  .inr (10, [some (some 9), some (some 12), none, none, none, none, none, none, none, none, none, none, none]),
  .inr (10, [some (some 9), some (some 12), none, none, none, none, none, none, none, none, none, none, none]),
  .inr (10, [some (some 9), some (some 12), none, none, none, none, none, none, none, none, none, none, none]),
  .inr (10, [some (some 9), some (some 12), none, none, none, none, none, none, none, none, none, none, none]),
  .inr (10, [some (some 9), some (some 12), none, none, none, none, none, none, none, none, none, none, none]),
  .inr (10, [some (some 9), some (some 12), none, none, none, none, none, none, none, none, none, none, none]),
  .inr (1, [some (some 67), some (some 68), none]),
  .inl (.inl 8),
  .inl (.inl 8),
  .inl (.inl 3),
  .inl (.inl 2),
  .inl (.inl 240)]
def shM : List am_S := [
  .inr (12, [some (some 1), some (some 2), some (some 3), some (some 4), none, some (some 5), some (some 6), none, none, some (some 7), none, some (some 8), some (some 9), some (some 10), none, some (some 11), none, some (some 12), none, none, some (some 13), some (some 14), some (some 15), some (some 16), some (some 17), some (some 18), some (some 19), some (some 20), none, none, none, some (some 21), none, some (some 22), some (some 23), none]),
  .inl (.inl 4),
  .inl (.inl 4),
  .inl (.inl 240),
  .inl (.inl 60),
  .inl (.inl 168),
  .inl (.inl 3),
  .inl (.inl 36),
  .inl (.inl 8),
  .inl (.inl 8),
  .inl (.inl 32),
  .inl (.inl 40),
  .inl (.inl 8),
  .inl (.inl 8),
  .inl (.inl 8),
  .inl (.inl 8),
  .inl (.inl 8),
  .inl (.inl 16),
  .inl (.inl 960),
  .inl (.inl 16),
  .inl (.inl 8),
  .inl (.inl 256),
  .inl (.inl 24),
  .inl (.inl 240)]
end
section
/-! helpers of the pure walks, and the class' smallest methods -/
theorem am_ys {b : Bool} {P : Prop} (h : b = true) (k : P) : am_test b P := by subst h; exact k
theorem am_oi {α : Type} {x : Option α} {f : α → Prop} {a : α} (h : x = some a) (k : f a) : am_opt x f := by subst h; exact k
theorem am_def {sh : List am_S} {d mid : Nat} {as : List Value} {w : am_M} {o : am_O} (hd : 1 ≤ d) (h1 : Nat.ble (am_cat as) (am_ml mid) = true) (h2 : Nat.blt mid 199 = true) (h : am_R sh mid (am_D sh (d - 1)) (fun r => r = o) 0 (am_in 0 as) [] w) : am_D sh d mid as w o := by
  obtain ⟨k, rfl⟩ : ∃ k, d = k + 1 := ⟨d - 1, by omega⟩
  exact Or.inr ⟨h1, h2, h⟩
/-- nothing is dropped here -/
def am_nk (mid pc : Nat) : Bool := match am_LV[mid]? with
  | some l => match am_fnd l pc with
    | some _ => false
    | none => true
  | none => true
theorem am_nk_eq {mid pc : Nat} (h : am_nk mid pc = true) (lv : am_L) : am_kill mid pc lv = lv := by
  unfold am_nk at h
  unfold am_kill
  split at h
  · rename_i l hl
    rw [hl]
    dsimp only
    split at h
    · cases h
    · rename_i hf
      rw [hf]
  · rename_i hl
    rw [hl]
theorem am_g0 {sh : List am_S} {mid : Nat} {call : Nat → List Value → am_M → am_O → Prop} {post : am_O → Prop} {pc : Nat} {lv : am_L} {st : List Value} {w : am_M} {e : Instr × Int32 × Nat × Nat}
    (he : am_at mid pc = some e) (hk : am_nk mid pc = true) (h : am_step sh mid call post (am_R sh mid call post) pc e lv st w) : am_R sh mid call post pc lv st w := am_go he (by rw [am_nk_eq hk]; exact h)
section AMR
variable {sh : List am_S} {mid : Nat} {call : Nat → List Value → am_M → am_O → Prop} {post : am_O → Prop} {pc : Nat} {lv : am_L} {st : List Value} {w : am_M} {v : Int32} {nx tg : Nat}
/-- an int of a row -/
theorem am_gl {b n : Nat} {i : Int32} (he : am_at mid pc = some (.iaload, v, nx, tg)) (hn : am_ln sh b = some n) (hi : ¬ (i < 0 ∨ n ≤ i.toNatClampNeg)) (h : am_R sh mid call post nx (am_kill mid pc lv) (.int (w.1 b i.toNatClampNeg) :: st) w) : am_R sh mid call post pc lv (.int i :: .ref b :: st) w := by
  refine am_go he ?_
  show (match am_ln sh b with
    | some n => if i < 0 ∨ n ≤ i.toNatClampNeg then False else _
    | none => _)
  rw [hn]
  exact am_ff hi h
theorem am_glN {b n k : Nat} (he : am_at mid pc = some (.iaload, v, nx, tg)) (hn : am_ln sh b = some n) (hk : k < n) (hn2 : n < 2 ^ 31) (h : am_R sh mid call post nx (am_kill mid pc lv) (.int (w.1 b k) :: st) w) : am_R sh mid call post pc lv (.int (nI k) :: .ref b :: st) w := by
  refine am_gl he hn (nI_in hk hn2) ?_
  rw [nI_clamp (by omega)]
  exact h
/-- an int into a row -/
theorem am_gs {b n : Nat} {i x : Int32} (he : am_at mid pc = some (.iastore, v, nx, tg)) (hn : am_ln sh b = some n) (hi : ¬ (i < 0 ∨ n ≤ i.toNatClampNeg)) (h : am_R sh mid call post nx (am_kill mid pc lv) st (am_pi w b i.toNatClampNeg x)) : am_R sh mid call post pc lv (.int x :: .int i :: .ref b :: st) w := by
  refine am_go he ?_
  exact am_oi hn (am_ff hi h)
theorem am_gsN {b n k : Nat} {x : Int32} (he : am_at mid pc = some (.iastore, v, nx, tg)) (hn : am_ln sh b = some n) (hk : k < n) (hn2 : n < 2 ^ 31) (h : am_R sh mid call post nx (am_kill mid pc lv) st (am_pi w b k x)) : am_R sh mid call post pc lv (.int x :: .int (nI k) :: .ref b :: st) w := by
  refine am_gs he hn (nI_in hk hn2) ?_
  rw [nI_clamp (by omega)]
  exact h
theorem am_inv (h : am_R sh mid call post pc lv st w) : ∃ e, am_at mid pc = some e ∧ am_step sh mid call post (am_R sh mid call post) pc e (am_kill mid pc lv) st w :=
  h (fun pc lv st w => ∃ e, am_at mid pc = some e ∧ am_step sh mid call post (am_R sh mid call post) pc e (am_kill mid pc lv) st w) fun pc lv st w e he hs => ⟨e, he, am_step_m (fun a b c d ⟨e, h1, h2⟩ => am_go h1 h2) hs⟩
/-- at a head: what isn't kept there doesn't count -/
theorem am_kl {lv' : am_L} (h : am_R sh mid call post pc lv' st w) (e : am_kill mid pc lv = am_kill mid pc lv') : am_R sh mid call post pc lv st w := by
  obtain ⟨e0, h1, h2⟩ := am_inv h
  exact am_go h1 (by rw [e]; exact h2)
theorem am_top {x y : Int32} (h : x = y) (k : am_R sh mid call post pc lv (.int y :: st) w) : am_R sh mid call post pc lv (.int x :: st) w := by rw [h]; exact k
theorem am_top2 {x y : Int32} {a : Value} (h : x = y) (k : am_R sh mid call post pc lv (a :: .int y :: st) w) : am_R sh mid call post pc lv (a :: .int x :: st) w := by rw [h]; exact k
theorem am_to {lv' : am_L} {st' : List Value} {w' : am_M} (h1 : lv = lv') (h2 : st = st') (h3 : w = w') (k : am_R sh mid call post pc lv' st' w') : am_R sh mid call post pc lv st w := by rw [h1, h2, h3]; exact k
theorem am_wm {w' : am_M} (h3 : w = w') (k : am_R sh mid call post pc lv st w') : am_R sh mid call post pc lv st w := by rw [h3]; exact k
end AMR
/-- a constant row's int -/
theorem am_glS {sh : List am_S} {mid : Nat} {call : Nat → List Value → am_M → am_O → Prop} {post : am_O → Prop} {pc : Nat} {lv : am_L} {st : List Value} {w : am_M} {v : Int32} {nx tg : Nat} {b k : Nat} {l : List Int32} {x : Int32} (he : am_at mid pc = some (.iaload, v, nx, tg)) (hn : am_ln sh b = none) (hl : am_si b = some l) (hk : l[k]? = some x) (hl2 : l.length < 2 ^ 31) (h : am_R sh mid call post nx (am_kill mid pc lv) (.int x :: st) w) : am_R sh mid call post pc lv (.int (nI k) :: .ref b :: st) w := by
  have hlt : k < l.length := (List.getElem?_eq_some_iff.mp hk).1
  refine am_go he ?_
  show (match am_ln sh b with
    | some n => _
    | none => am_opt (am_si b) _)
  rw [hn]
  refine am_oi hl (am_ff (nI_in hlt hl2) ?_)
  rw [nI_clamp (by omega), List.getD_eq_getElem?_getD, hk]
  exact h
theorem am_pi_at (w : am_M) (k j : Nat) (x : Int32) : (am_pi w k j x).1 k j = x := by simp [am_pi]
theorem am_pi_ne {w : am_M} {k j a b : Nat} {x : Int32} (h : a ≠ k ∨ b ≠ j) : (am_pi w k j x).1 a b = w.1 a b := by
  have : ¬ (a = k ∧ b = j) := fun q => h.elim (fun z => z q.1) (fun z => z q.2)
  simp [am_pi, this]
theorem am_pi_2 (w : am_M) (k j : Nat) (x : Int32) : (am_pi w k j x).2 = w.2 := rfl
/-- a number is within, or not -/
theorem am_wi (x : Int32) (n : Nat) (hn : n < 2 ^ 31) : (∃ j, j < n ∧ x = nI j) ∨ (x < 0 ∨ nI n ≤ x) := by
  rcases pk_ix x hn with h | h | h
  · exact Or.inr (Or.inl h)
  · exact Or.inr (Or.inr h)
  · exact Or.inl h
theorem d_isWithin_t (sh : List am_S) {d i n : Nat} (hd : 1 ≤ d) (hi : i < n) (hn : n < 2 ^ 31) (w : am_M) : am_D sh d mi_X11_isWithin [.int (nI i), .int (nI n)] w (some (.int 1), w) := by
  refine am_def hd rfl rfl ?_
  iterate 2 refine am_go rfl ?_
  refine am_ff (nI_pos (by omega)) ?_
  iterate 3 refine am_go rfl ?_
  refine am_ff (nI_ge hi hn) ?_
  iterate 3 refine am_go rfl ?_
  exact ⟨rfl, rfl⟩
theorem d_isWithin_f (sh : List am_S) {d : Nat} (hd : 1 ≤ d) {x y : Int32} (h : x < 0 ∨ y ≤ x) (w : am_M) : am_D sh d mi_X11_isWithin [.int x, .int y] w (some (.int 0), w) := by
  refine am_def hd rfl rfl ?_
  iterate 2 refine am_go rfl ?_
  refine am_by (fun h1 => ?_) (fun h1 => ?_)
  · iterate 2 refine am_go rfl ?_
    exact ⟨rfl, rfl⟩
  · iterate 3 refine am_go rfl ?_
    refine am_tt (h.resolve_left h1) ?_
    iterate 2 refine am_go rfl ?_
    exact ⟨rfl, rfl⟩
theorem d_isBitOf (sh : List am_S) {d : Nat} (hd : 1 ≤ d) (x y : Int32) (w : am_M) : am_D sh d mi_X11_isBitOf [.int x, .int y] w (some (.int (if (x >>> (y &&& 31)) &&& 1 = 0 then 0 else 1)), w) := by
  refine am_def hd rfl rfl ?_
  iterate 6 refine am_go rfl ?_
  refine am_by (fun h => ?_) (fun h => ?_)
  · iterate 2 refine am_go rfl ?_
    exact ⟨rfl, by rw [if_pos h]⟩
  · iterate 3 refine am_go rfl ?_
    exact ⟨rfl, by rw [if_neg h]⟩
theorem i10 : ¬ (1 : Int32) = 0 := by decide
theorem i00 : (0 : Int32) = 0 := rfl
/-! the rows' cells by number -/
theorem sh_T (t : Nat) (ht : t < 3) : am_isb shC (2 + t) 7 = true ∧ am_tg shC (2 + t) 0 = some (5 + t) ∧ am_ln shC (5 + t) = some 55 := by
  match t, ht with
  | 0, _ => exact ⟨rfl, rfl, rfl⟩
  | 1, _ => exact ⟨rfl, rfl, rfl⟩
  | 2, _ => exact ⟨rfl, rfl, rfl⟩
theorem sh_S (t : Nat) (ht : t < 4) : am_isb shC (25 + t) 4 = true ∧ am_tg shC (25 + t) 0 = some (29 + t) ∧ am_ln shC (29 + t) = some 60 := by
  match t, ht with
  | 0, _ => exact ⟨rfl, rfl, rfl⟩
  | 1, _ => exact ⟨rfl, rfl, rfl⟩
  | 2, _ => exact ⟨rfl, rfl, rfl⟩
  | 3, _ => exact ⟨rfl, rfl, rfl⟩
/-! Text -/
theorem d_append_f {d t n m : Nat} {b : Int32} {w : am_M} (hd : 1 ≤ d) (ht : t < 3) (hl : w.1 (2 + t) 2 = nI n) (hm : w.1 (2 + t) 1 = nI m) (h : m ≤ n) (hn : n < 2 ^ 31) : am_D shC d mi_X7_append [.ref (2 + t), .int b] w (some (.int 0), w) := by
  obtain ⟨s1, s2, s3⟩ := sh_T t ht
  refine am_def hd rfl rfl ?_
  iterate 2 refine am_go rfl ?_
  refine am_ys s1 ?_
  iterate 2 refine am_go rfl ?_
  refine am_ys s1 ?_
  refine am_go rfl ?_
  refine am_ff (by rw [hl, hm]; exact nI_nlt h hn) ?_
  iterate 2 refine am_go rfl ?_
  exact ⟨rfl, rfl⟩
theorem d_append_t {d t n m : Nat} {b : Int32} {w : am_M} (hd : 1 ≤ d) (ht : t < 3) (hl : w.1 (2 + t) 2 = nI n) (hm : w.1 (2 + t) 1 = nI m) (h : n < m) (hn : m ≤ 55) : am_D shC d mi_X7_append [.ref (2 + t), .int b] w (some (.int 1), am_pi (am_pi w (5 + t) n b) (2 + t) 2 (nI (n + 1))) := by
  obtain ⟨s1, s2, s3⟩ := sh_T t ht
  refine am_def hd rfl rfl ?_
  iterate 2 refine am_go rfl ?_
  refine am_ys s1 ?_
  iterate 2 refine am_go rfl ?_
  refine am_ys s1 ?_
  refine am_go rfl ?_
  refine am_tt (by rw [hl, hm]; exact nI_lt h (by omega)) ?_
  iterate 2 refine am_go rfl ?_
  refine am_ys s1 (am_oi s2 ?_)
  iterate 2 refine am_go rfl ?_
  refine am_ys s1 ?_
  refine am_go rfl ?_
  rw [hl]
  refine am_gsN rfl s3 (by omega) (by decide) ?_
  iterate 3 refine am_go rfl ?_
  refine am_ys s1 ?_
  iterate 3 refine am_go rfl ?_
  refine am_ys (by rw [s1]; rfl) ?_
  iterate 2 refine am_go rfl ?_
  refine ⟨rfl, ?_⟩
  show (_, am_pi (am_pi w (5 + t) n b) (2 + t) 2 ((am_pi w (5 + t) n b).1 (2 + t) 2 + 1)) = _
  rw [am_pi_ne (Or.inl (by omega)), hl, nI_1]
theorem d_signAt {d t n i v : Nat} {w : am_M} (hd : 2 ≤ d) (ht : t < 3) (hl : w.1 (2 + t) 2 = nI n) (hi : i < n) (hn : n ≤ 55) (hv : w.1 (5 + t) i = nI v) (hb : v < 256) : am_D shC d mi_X7_signAt [.ref (2 + t), .int (nI i)] w (some (.int (nI v)), w) := by
  obtain ⟨s1, s2, s3⟩ := sh_T t ht
  refine am_def (by omega) rfl rfl ?_
  iterate 3 refine am_go rfl ?_
  refine am_ys s1 ?_
  refine am_go rfl ?_
  rw [hl]
  refine ⟨(some (.int 1), w), d_isWithin_t shC (by omega) hi (by omega) w, ?_⟩
  refine am_go rfl ?_
  iterate 2 refine am_go rfl ?_
  refine am_ys s1 (am_oi s2 ?_)
  refine am_go rfl ?_
  refine am_glN rfl s3 (by omega) (by decide) ?_
  rw [hv]
  refine am_go rfl ?_
  refine am_top (y := nI v) (by rw [pk_char, show (nI v).toBitVec.toNat % 65536 = v by rw [pk_tn (by omega)]; omega]) ?_
  iterate 2 refine am_go rfl ?_
  exact ⟨(pk_charN (by omega)).1, rfl⟩
end
section
/-! DeadLasts' small ones; sheets; rains; sightings; traces -/
theorem d_refusal {d : Nat} {x : Int32} {w : am_M} (hd : 1 ≤ d) : am_D shC d mi_X11_refusal [.ref 0, .int x] w (some (.int ((-10) - x)), am_pi w 0 16 x) := by
  refine am_def hd rfl rfl ?_
  iterate 7 refine am_go rfl ?_
  exact ⟨rfl, rfl⟩
theorem d_endState {d : Nat} {x : Int32} {w : am_M} (hd : 1 ≤ d) : am_D shC d mi_X11_endState [.int x] w (some (.int (if x = 0 then 1 else 2)), w) := by
  refine am_def hd rfl rfl ?_
  iterate 2 refine am_go rfl ?_
  refine am_by (fun h => ?_) (fun h => ?_)
  · iterate 3 refine am_go rfl ?_
    exact ⟨rfl, by rw [if_pos h]⟩
  · iterate 2 refine am_go rfl ?_
    exact ⟨rfl, by rw [if_neg h]⟩
theorem d_nextSeed {d : Nat} {x : Int32} {w : am_M} (hd : 1 ≤ d) : am_D shC d mi_X11_nextSeed [.int x] w (some (.int (1103515245 * x + 12345)), w) := by
  refine am_def hd rfl rfl ?_
  iterate 6 refine am_go rfl ?_
  exact ⟨rfl, rfl⟩
/-- what was found is no longer kept -/
def cOut (w : am_M) : am_M := am_pi (am_pi (am_pi (am_pi w 0 17 1) 0 18 (-1)) 0 19 (-2)) 53 3 (-1)
theorem d_outdate {d : Nat} {w : am_M} (hd : 1 ≤ d) : am_D shC d mi_X11_outdate [.ref 0] w (none, cOut w) := by
  refine am_def hd rfl rfl ?_
  iterate 3 refine am_go rfl ?_
  refine ⟨Or.inr rfl, ?_⟩
  iterate 11 refine am_go rfl ?_
  exact ⟨rfl, rfl⟩
/-! a sheet: cell 25+s, its items 29+s -/
theorem d_isLost {d s : Nat} {w : am_M} (hd : 1 ≤ d) (hs : s < 4) : am_D shC d mi_X4_isLost [.ref (25 + s)] w (some (.int (if w.1 (25 + s) 2 = -1 then 1 else 0)), w) := by
  obtain ⟨s1, s2, s3⟩ := sh_S s hs
  refine am_def hd rfl rfl ?_
  iterate 2 refine am_go rfl ?_
  refine am_ys s1 ?_
  iterate 2 refine am_go rfl ?_
  refine am_by (fun h => ?_) (fun h => ?_)
  · iterate 3 refine am_go rfl ?_
    exact ⟨rfl, by rw [if_pos h]⟩
  · iterate 2 refine am_go rfl ?_
    exact ⟨rfl, by rw [if_neg h]⟩
/-- the first n places of a row are 0 -/
def cZero (w : am_M) (k : Nat) : Nat → am_M
  | 0 => w
  | n + 1 => am_pi (cZero w k n) k n 0
theorem cZero_at (w : am_M) (k : Nat) : ∀ n a b, (cZero w k n).1 a b = if a = k ∧ b < n then 0 else w.1 a b
  | 0, a, b => by simp [cZero]
  | n + 1, a, b => by
    simp only [cZero, am_pi]
    by_cases h : a = k ∧ b = n
    · simp [h]
    · rw [if_neg h, cZero_at w k n a b]
      by_cases h2 : a = k ∧ b < n
      · rw [if_pos h2, if_pos ⟨h2.1, by omega⟩]
      · rw [if_neg h2, if_neg (fun q => h2 ⟨q.1, by have : ¬ b = n := fun z => h ⟨q.1, z⟩; omega⟩)]
theorem cZero_2 (w : am_M) (k : Nat) : ∀ n, (cZero w k n).2 = w.2
  | 0 => rfl
  | n + 1 => cZero_2 w k n
theorem d_renew {d s : Nat} {f n : Int32} {w : am_M} (hd : 1 ≤ d) (hs : s < 4) : am_D shC d mi_X4_renew [.ref (25 + s), .int f, .int n] w (none, cZero (am_pi (am_pi w (25 + s) 1 f) (25 + s) 2 n) (29 + s) 60) := by
  obtain ⟨s1, s2, s3⟩ := sh_S s hs
  refine am_def hd rfl rfl ?_
  iterate 3 refine am_go rfl ?_
  refine am_ys (by rw [s1]; rfl) ?_
  iterate 3 refine am_go rfl ?_
  refine am_ys (by rw [s1]; rfl) ?_
  iterate 2 refine am_go rfl ?_
  generalize am_pi (am_pi w (25 + s) 1 f) (25 + s) 2 n = w1
  have key : ∀ j i : Nat, i + j = 60 → am_R shC mi_X4_renew (am_D shC (d - 1)) (fun r => r = (none, cZero w1 (29 + s) 60)) 12 [(0, .ref (25 + s)), (3, .int (nI i))] [] (cZero w1 (29 + s) i) := by
    intro j
    induction j with
    | zero =>
      intro i hi
      have e : i = 60 := by omega
      iterate 3 refine am_go rfl ?_
      refine am_tt (show nI 60 ≤ nI i from nI_le (by omega) (by omega)) ?_
      refine am_go rfl ?_
      exact ⟨rfl, by rw [e]⟩
    | succ j ih =>
      intro i hi
      iterate 3 refine am_go rfl ?_
      refine am_ff (show ¬ nI 60 ≤ nI i from nI_ge (by omega) (by decide)) ?_
      iterate 2 refine am_go rfl ?_
      refine am_ys s1 (am_oi s2 ?_)
      iterate 2 refine am_go rfl ?_
      refine am_gsN rfl s3 (by omega) (by decide) ?_
      iterate 2 refine am_go rfl ?_
      have := ih (i + 1) (by omega)
      rw [← nI_1] at this
      exact this
  exact am_kl (key 60 0 (by omega)) rfl
/-- the finding if item i is treated as of a form -/
def cFind (w : am_M) (s : Nat) (f i : Int32) : Int32 := if w.1 (25 + s) 2 = -1 then 1 else if f = w.1 (25 + s) 1 then (if i < 0 ∨ w.1 (25 + s) 2 ≤ i then 2 else 0) else 3
theorem d_findingOf {d s : Nat} {f i : Int32} {w : am_M} (hd : 2 ≤ d) (hs : s < 4) : am_D shC d mi_X4_findingOf [.ref (25 + s), .int f, .int i] w (some (.int (cFind w s f i)), w) := by
  obtain ⟨s1, s2, s3⟩ := sh_S s hs
  refine am_def (by omega) rfl rfl ?_
  iterate 2 refine am_go rfl ?_
  refine am_ys (by show (true && (true && am_isb shC (25 + s) 4)) = true; rw [s1]; rfl) ?_
  refine ⟨_, d_isLost (by omega) hs, ?_⟩
  by_cases h : w.1 (25 + s) 2 = -1
  · rw [if_pos h]
    iterate 3 refine am_go rfl ?_
    exact ⟨rfl, by unfold cFind; rw [if_pos h]⟩
  · rw [if_neg h]
    iterate 4 refine am_go rfl ?_
    refine am_ys s1 ?_
    refine am_go rfl ?_
    refine am_by (fun h2 => ?_) (fun h2 => ?_)
    · iterate 3 refine am_go rfl ?_
      refine am_ys s1 ?_
      refine am_go rfl ?_
      by_cases h3 : i < 0 ∨ w.1 (25 + s) 2 ≤ i
      · refine ⟨_, d_isWithin_f shC (by omega) h3 w, ?_⟩
        iterate 3 refine am_go rfl ?_
        exact ⟨rfl, by unfold cFind; rw [if_neg h, if_pos h2, if_pos h3]⟩
      · have h4 : ∃ k n, k < n ∧ n < 2 ^ 31 ∧ i = nI k ∧ w.1 (25 + s) 2 = nI n := by
          have h5 : ¬ i < 0 := fun z => h3 (Or.inl z)
          have h6 : ¬ w.1 (25 + s) 2 ≤ i := fun z => h3 (Or.inr z)
          obtain ⟨k, hk, rfl⟩ := nI_of h5
          have h7 : ¬ w.1 (25 + s) 2 < 0 := fun z => h6 (by
            have h8 := nI_pos' hk
            rw [Int32.lt_iff_toInt_lt] at z
            rw [Int32.le_iff_toInt_le] at h8 ⊢
            omega)
          obtain ⟨n, hn, e⟩ := nI_of h7
          refine ⟨k, n, ?_, hn, rfl, e⟩
          rcases Nat.lt_or_ge k n with z | z
          · exact z
          · exact absurd (by rw [e]; exact nI_le z hk) h6
        obtain ⟨k, n, hkn, hn, rfl, e⟩ := h4
        rw [e]
        refine ⟨_, d_isWithin_t shC (by omega) hkn hn w, ?_⟩
        iterate 4 refine am_go rfl ?_
        exact ⟨rfl, by unfold cFind; rw [if_neg h, if_pos h2, if_neg h3]⟩
    · iterate 2 refine am_go rfl ?_
      exact ⟨rfl, by unfold cFind; rw [if_neg h, if_neg h2]⟩
/-- cut to a form -/
def cCut (f v : Int32) : Int32 := if f = 0 then v.toInt8.toInt32 else if f = 1 then v.toInt16.toInt32 else v
theorem d_put {d s k : Nat} {v : Int32} {w : am_M} (hd : 1 ≤ d) (hs : s < 4) (hk : k < 60) : am_D shC d mi_X4_put [.ref (25 + s), .int (nI k), .int v] w (none, am_pi w (29 + s) k (cCut (w.1 (25 + s) 1) v)) := by
  obtain ⟨s1, s2, s3⟩ := sh_S s hs
  refine am_def hd rfl rfl ?_
  iterate 2 refine am_go rfl ?_
  refine am_ys s1 (am_oi s2 ?_)
  iterate 3 refine am_go rfl ?_
  refine am_ys s1 ?_
  refine am_go rfl ?_
  refine am_by (fun h => ?_) (fun h => ?_)
  · iterate 3 refine am_go rfl ?_
    refine am_gsN rfl s3 hk (by decide) ?_
    refine am_go rfl ?_
    exact ⟨rfl, by unfold cCut; rw [if_pos h]⟩
  · iterate 2 refine am_go rfl ?_
    refine am_ys s1 ?_
    iterate 2 refine am_go rfl ?_
    refine am_by (fun h2 => ?_) (fun h2 => ?_)
    · iterate 3 refine am_go rfl ?_
      refine am_gsN rfl s3 hk (by decide) ?_
      refine am_go rfl ?_
      exact ⟨rfl, by unfold cCut; rw [if_neg h, if_pos h2]⟩
    · refine am_go rfl ?_
      refine am_gsN rfl s3 hk (by decide) ?_
      refine am_go rfl ?_
      exact ⟨rfl, by unfold cCut; rw [if_neg h, if_neg h2]⟩
/-! rains: cell 18, steps 19 -/
theorem d_radd_f {d n : Nat} {x : Int32} {w : am_M} (hd : 1 ≤ d) (hn : w.1 18 1 = nI n) (h : n = 8) : am_D shC d mi_X3_add [.ref 18, .int x] w (some (.int 0), w) := by
  subst h
  refine am_def hd rfl rfl ?_
  iterate 4 refine am_go rfl ?_
  refine am_ff (by rw [hn]; decide) ?_
  iterate 2 refine am_go rfl ?_
  exact ⟨rfl, rfl⟩
theorem d_radd_t {d n : Nat} {x : Int32} {w : am_M} (hd : 1 ≤ d) (hn : w.1 18 1 = nI n) (h : n < 8) : am_D shC d mi_X3_add [.ref 18, .int x] w (some (.int 1), am_pi (am_pi w 19 n x) 18 1 (nI (n + 1))) := by
  refine am_def hd rfl rfl ?_
  iterate 4 refine am_go rfl ?_
  refine am_tt (by rw [hn]; exact nI_lt (b := 8) h (by decide)) ?_
  iterate 5 refine am_go rfl ?_
  rw [hn]
  refine am_gsN (n := 8) rfl rfl h (by decide) ?_
  iterate 8 refine am_go rfl ?_
  refine ⟨rfl, ?_⟩
  show (_, am_pi (am_pi w 19 n x) 18 1 ((am_pi w 19 n x).1 18 1 + 1)) = _
  rw [am_pi_ne (Or.inl (by omega)), hn, nI_1]
/-- the steps in which it rains, as bits, but for two of the rains -/
def wetF (f : Nat → Int32) (a b : Int32) : Nat → Int32
  | 0 => 0
  | n + 1 => if nI n = a then wetF f a b n else if nI n = b then wetF f a b n else wetF f a b n ||| ((1 : Int32) <<< (f n &&& 31))
theorem d_wetSteps {d n : Nat} {a b : Int32} {w : am_M} (hd : 1 ≤ d) (hn : n ≤ 8) (hs : w.1 18 1 = nI n) : am_D shC d mi_X3_wetSteps [.ref 18, .int a, .int b] w (some (.int (wetF (w.1 19) a b n)), w) := by
  refine am_def hd rfl rfl ?_
  iterate 4 refine am_go rfl ?_
  have key : ∀ j i : Nat, i + j = n → am_R shC mi_X3_wetSteps (am_D shC (d - 1)) (fun r => r = (some (.int (wetF (w.1 19) a b n)), w)) 5 [(0, .ref 18), (1, .int a), (2, .int b), (3, .int (wetF (w.1 19) a b i)), (4, .int (nI i))] [] w := by
    intro j
    induction j with
    | zero =>
      intro i hi
      have : i = n := by omega
      subst this
      iterate 4 refine am_go rfl ?_
      refine am_tt (by show w.1 18 1 ≤ nI i; rw [hs]; exact nI_le (Nat.le_refl _) (by omega)) ?_
      iterate 2 refine am_go rfl ?_
      exact ⟨rfl, rfl⟩
    | succ j ih =>
      intro i hi
      have hlt : i < n := by omega
      iterate 4 refine am_go rfl ?_
      refine am_ff (by show ¬ w.1 18 1 ≤ nI i; rw [hs]; exact nI_ge hlt (by omega)) ?_
      iterate 3 refine am_go rfl ?_
      have go : ∀ v, v = wetF (w.1 19) a b (i + 1) → am_R shC mi_X3_wetSteps (am_D shC (d - 1)) (fun r => r = (some (.int (wetF (w.1 19) a b n)), w)) 38 [(0, .ref 18), (1, .int a), (2, .int b), (3, .int v), (4, .int (nI i))] [] w := by
        intro v hv
        subst hv
        iterate 2 refine am_go rfl ?_
        have := ih (i + 1) (by omega)
        rw [← nI_1] at this
        exact this
      refine am_by (fun h => ?_) (fun h => ?_)
      · exact go _ (by rw [wetF, if_pos h])
      · iterate 3 refine am_go rfl ?_
        refine am_by (fun h2 => ?_) (fun h2 => ?_)
        · exact go _ (by rw [wetF, if_neg h, if_pos h2])
        · iterate 5 refine am_go rfl ?_
          refine am_glN (n := 8) rfl rfl (by omega) (by decide) ?_
          iterate 3 refine am_go rfl ?_
          exact go _ (by rw [wetF, if_neg h, if_neg h2])
  exact key n 0 (by omega)
end
section
/-! what the class' town, lasts, people hold; reading them -/
/-- town: n cells of kinds K, nx c a the cell to which way a leads -/
def cTown (w : am_M) (n : Nat) (K : Nat → Nat) (nx : Nat → Nat → Nat) : Prop := w.1 9 2 = nI n ∧ n ≤ 36 ∧ (∀ c, c < n → w.1 10 c = nI (K c) ∧ K c < 4) ∧ ∀ c, c < n → ∀ a, a < 4 → w.1 11 (c * 4 + a) = nI (nx c a) ∧ nx c a < n ∧ (K c ≠ 1 → K (nx c a) ≠ 1)
/-- lasts: m of them, of kind kd, with ln letters lt -/
def cLasts (w : am_M) (m : Nat) (kd ln : Nat → Nat) (lt : Nat → Nat → Nat) : Prop := w.1 12 3 = nI m ∧ m ≤ 8 ∧ ∀ l, l < m → w.1 13 l = nI (kd l) ∧ kd l < 3 ∧ w.1 14 l = nI (ln l) ∧ 1 ≤ ln l ∧ ln l ≤ 4 ∧ ∀ j, j < ln l → w.1 15 (4 * l + j) = nI (lt l j) ∧ lt l j < 4
/-- people: q of them, their five fields -/
def cPeople (w : am_M) (q : Nat) (pf : Nat → Nat → Nat) : Prop := w.1 16 1 = nI q ∧ q ≤ 8 ∧ ∀ p, p < q → (∀ j, j < 5 → w.1 17 (5 * p + j) = nI (pf p j)) ∧ pf p 0 < 40 ∧ pf p 1 < 8 ∧ pf p 2 < 8 ∧ pf p 3 < 6 ∧ pf p 4 < 4
/-- what one is on a cell of a kind -/
def stOf (k : Nat) : Nat := if k = 0 then 0 else if k = 1 then 3 else if k = 2 then 1 else 2
theorem d_stateOn_t {d n c : Nat} {K : Nat → Nat} {nx : Nat → Nat → Nat} {w : am_M} (hd : 1 ≤ d) (hT : cTown w n K nx) (hc : c < n) : am_D shC d mi_X8_stateOn [.ref 9, .int (nI c)] w (some (.int (nI (stOf (K c)))), w) := by
  obtain ⟨h1, h2, h3, h4⟩ := hT
  refine am_def hd rfl rfl ?_
  iterate 2 refine am_go rfl ?_
  refine am_ff (nI_pos (by omega)) ?_
  iterate 4 refine am_go rfl ?_
  refine am_tt (by rw [h1]; exact nI_lt hc (by omega)) ?_
  iterate 4 refine am_go rfl ?_
  refine am_glN (n := 36) rfl rfl (by omega) (by decide) ?_
  rw [(h3 c hc).1]
  have hk := (h3 c hc).2
  refine am_glS (l := [0, 3, 1, 2]) (x := nI (stOf (K c))) rfl rfl rfl ?_ (by decide) ?_
  · rcases (show K c = 0 ∨ K c = 1 ∨ K c = 2 ∨ K c = 3 by omega) with e | e | e | e <;> rw [e] <;> rfl
  · refine am_go rfl ?_
    exact ⟨rfl, rfl⟩
theorem d_stateOn_f {d n : Nat} {K : Nat → Nat} {nx : Nat → Nat → Nat} {x : Int32} {w : am_M} (hd : 1 ≤ d) (hT : cTown w n K nx) (hc : x < 0 ∨ nI n ≤ x) : am_D shC d mi_X8_stateOn [.ref 9, .int x] w (some (.int 3), w) := by
  obtain ⟨h1, h2, h3, h4⟩ := hT
  refine am_def hd rfl rfl ?_
  iterate 2 refine am_go rfl ?_
  refine am_by (fun h => ?_) (fun h => ?_)
  · iterate 3 refine am_go rfl ?_
    exact ⟨rfl, rfl⟩
  · iterate 4 refine am_go rfl ?_
    refine am_ff (by rw [h1]; exact fun z => absurd (hc.resolve_left h) (by rw [Int32.not_le]; exact z)) ?_
    iterate 3 refine am_go rfl ?_
    exact ⟨rfl, rfl⟩
theorem d_nextOf {d n c a : Nat} {K : Nat → Nat} {nx : Nat → Nat → Nat} {w : am_M} (hd : 1 ≤ d) (hT : cTown w n K nx) (hc : c < n) (ha : a < 4) : am_D shC d mi_X8_nextOf [.ref 9, .int (nI c), .int (nI a)] w (some (.int (nI (nx c a))), w) := by
  obtain ⟨h1, h2, h3, h4⟩ := hT
  refine am_def hd rfl rfl ?_
  iterate 2 refine am_go rfl ?_
  refine am_ff (nI_pos (by omega)) ?_
  iterate 4 refine am_go rfl ?_
  refine am_tt (by rw [h1]; exact nI_lt hc (by omega)) ?_
  iterate 7 refine am_go rfl ?_
  refine am_top (y := nI (c * 4 + a)) (by rw [show (4 : Int32) = nI 4 from rfl, pk_mul, nI_add]) ?_
  refine am_glN (n := 144) rfl rfl (by omega) (by decide) ?_
  rw [(h4 c hc a ha).1]
  refine am_go rfl ?_
  exact ⟨rfl, rfl⟩
/-- the way of a last of kind k with n letters f, gone by so many times -/
def wayS (k n : Nat) (f : Nat → Nat) (t : Nat) : Nat := if k = 1 ∧ t % 3 = 2 then (f (t % n) + 2) % 4 else if k = 2 then (f (t % n) + t / n) % 4 else f (t % n)
theorem wayS_lt {k n : Nat} {f : Nat → Nat} {t : Nat} (h : f (t % n) < 4) : wayS k n f t < 4 := by
  unfold wayS
  split
  · omega
  · split
    · omega
    · exact h
theorem d_wayOf {d m l t : Nat} {kd ln : Nat → Nat} {lt : Nat → Nat → Nat} {w : am_M} (hd : 1 ≤ d) (hL : cLasts w m kd ln lt) (hl : l < m) (ht : t < 1000) : am_D shC d mi_X0_wayOf [.ref 12, .int (nI l), .int (nI t)] w (some (.int (nI (wayS (kd l) (ln l) (lt l) t))), w) := by
  obtain ⟨h1, h2, h3⟩ := hL
  obtain ⟨e1, e2, e3, e4, e5, e6⟩ := h3 l hl
  have hmod : t % ln l < ln l := Nat.mod_lt _ (by omega)
  have e7 := e6 _ hmod
  refine am_def hd rfl rfl ?_
  iterate 3 refine am_go rfl ?_
  refine am_glN (n := 8) rfl rfl (by omega) (by decide) ?_
  rw [e3]
  iterate 3 refine am_go rfl ?_
  refine am_tt (show 0 < nI (ln l) from nI_lt (a := 0) (by omega) (by omega)) ?_
  iterate 7 refine am_go rfl ?_
  refine am_go rfl ?_
  refine am_ff (nI_ne0 (by omega) (by omega)) ?_
  refine am_top (y := nI (t % ln l)) (pk_rem (by omega) (by omega) (by omega)) ?_
  refine am_go rfl ?_
  refine am_top (y := nI (4 * l + t % ln l)) (by rw [show (4 : Int32) = nI 4 from rfl, pk_mul, nI_add, Nat.mul_comm]) ?_
  refine am_glN (n := 32) rfl rfl (by omega) (by decide) ?_
  rw [e7.1]
  iterate 4 refine am_go rfl ?_
  refine am_glN (n := 8) rfl rfl (by omega) (by decide) ?_
  rw [e1]
  iterate 2 refine am_go rfl ?_
  have rest : am_R shC mi_X0_wayOf (am_D shC (d - 1)) (fun r => r = (some (.int (nI (if kd l = 2 then (lt l (t % ln l) + t / ln l) % 4 else lt l (t % ln l)))), w)) 51 [(0, .ref 12), (1, .int (nI l)), (2, .int (nI t)), (3, .int (nI (ln l))), (4, .int (nI (lt l (t % ln l))))] [] w := by
    iterate 3 refine am_go rfl ?_
    refine am_glN (n := 8) rfl rfl (by omega) (by decide) ?_
    rw [e1]
    iterate 2 refine am_go rfl ?_
    by_cases hk : kd l = 2
    · refine am_tt (show nI (kd l) = 2 by rw [hk]; rfl) ?_
      rw [if_pos hk]
      iterate 4 refine am_go rfl ?_
      refine am_ff (nI_ne0 (by omega) (by omega)) ?_
      refine am_top (y := nI (t / ln l)) (pk_div (by omega) (by omega) (by omega)) ?_
      iterate 2 refine am_go rfl ?_
      refine am_top2 (y := nI (lt l (t % ln l) + t / ln l)) (nI_add _ _) ?_
      refine am_go rfl ?_
      have hdv : t / ln l ≤ t := Nat.div_le_self _ _
      refine am_top (y := nI ((lt l (t % ln l) + t / ln l) % 4)) (pk_rem (d := 4) (by omega) (by omega) (by omega)) ?_
      refine am_go rfl ?_
      exact ⟨rfl, rfl⟩
    · refine am_ff (show ¬ nI (kd l) = 2 from fun z => hk ((nI_eq (b := 2) (by omega) (by omega)).mp z)) ?_
      rw [if_neg hk]
      iterate 2 refine am_go rfl ?_
      exact ⟨rfl, rfl⟩
  unfold wayS
  by_cases hk : kd l = 1
  · refine am_tt (show nI (kd l) = 1 by rw [hk]; rfl) ?_
    iterate 3 refine am_go rfl ?_
    refine am_top (y := nI (t % 3)) (pk_rem (d := 3) (by omega) (by omega) (by omega)) ?_
    iterate 2 refine am_go rfl ?_
    by_cases h3 : t % 3 = 2
    · refine am_tt (show nI (t % 3) = 2 by rw [h3]; rfl) ?_
      rw [if_pos ⟨hk, h3⟩]
      iterate 4 refine am_go rfl ?_
      refine am_top2 (y := nI (lt l (t % ln l) + 2)) (nI_add _ 2) ?_
      refine am_go rfl ?_
      refine am_top (y := nI ((lt l (t % ln l) + 2) % 4)) (pk_rem (d := 4) (by omega) (by omega) (by omega)) ?_
      refine am_go rfl ?_
      exact ⟨rfl, rfl⟩
    · refine am_ff (show ¬ nI (t % 3) = 2 from fun z => h3 ((nI_eq (b := 2) (by omega) (by omega)).mp z)) ?_
      rw [if_neg (fun z => h3 z.2)]
      exact rest
  · refine am_ff (show ¬ nI (kd l) = 1 from fun z => hk ((nI_eq (b := 1) (by omega) (by omega)).mp z)) ?_
    rw [if_neg (fun z => hk z.1)]
    exact rest
theorem d_ptold {d q p j : Nat} {pf : Nat → Nat → Nat} {w : am_M} (hd : 1 ≤ d) (hP : cPeople w q pf) (hp : p < q) (hj : j < 5) : am_D shC d mi_X2_told [.ref 16, .int (nI p), .int (nI j)] w (some (.int (nI (pf p j))), w) := by
  obtain ⟨h1, h2, h3⟩ := hP
  refine am_def hd rfl rfl ?_
  iterate 7 refine am_go rfl ?_
  refine am_top (y := nI (5 * p + j)) (by rw [show (5 : Int32) = nI 5 from rfl, pk_mul, nI_add, Nat.mul_comm]) ?_
  refine am_glN (n := 40) rfl rfl (by omega) (by decide) ?_
  rw [(h3 p hp).1 j hj]
  refine am_go rfl ?_
  exact ⟨rfl, rfl⟩
end
section
/-! a run with any post ends in one answer that has it -/
section AME
variable {Φ : am_O → Prop}
theorem am_i1_e {st : List Value} {f : Int32 → List Value → Prop} {g : am_O → Int32 → List Value → Prop} (m : ∀ x r, f x r → ∃ o, Φ o ∧ g o x r) (h : am_i1 st f) : ∃ o, Φ o ∧ am_i1 st (g o) := by
  obtain ⟨x, r, rfl, h⟩ := am_i1_s h
  obtain ⟨o, h1, h2⟩ := m _ _ h
  exact ⟨o, h1, h2⟩
theorem am_i2_e {st : List Value} {f : Int32 → Int32 → List Value → Prop} {g : am_O → Int32 → Int32 → List Value → Prop} (m : ∀ x y r, f x y r → ∃ o, Φ o ∧ g o x y r) (h : am_i2 st f) : ∃ o, Φ o ∧ am_i2 st (g o) := by
  obtain ⟨x, y, r, rfl, h⟩ := am_i2_s h
  obtain ⟨o, h1, h2⟩ := m _ _ _ h
  exact ⟨o, h1, h2⟩
theorem am_l1_e {st : List Value} {f : Int64 → List Value → Prop} {g : am_O → Int64 → List Value → Prop} (m : ∀ x r, f x r → ∃ o, Φ o ∧ g o x r) (h : am_l1 st f) : ∃ o, Φ o ∧ am_l1 st (g o) := by
  obtain ⟨x, r, rfl, h⟩ := am_l1_s h
  obtain ⟨o, h1, h2⟩ := m _ _ h
  exact ⟨o, h1, h2⟩
theorem am_l2_e {st : List Value} {f : Int64 → Int64 → List Value → Prop} {g : am_O → Int64 → Int64 → List Value → Prop} (m : ∀ x y r, f x y r → ∃ o, Φ o ∧ g o x y r) (h : am_l2 st f) : ∃ o, Φ o ∧ am_l2 st (g o) := by
  obtain ⟨x, y, r, rfl, h⟩ := am_l2_s h
  obtain ⟨o, h1, h2⟩ := m _ _ _ h
  exact ⟨o, h1, h2⟩
theorem am_li_e {st : List Value} {f : Int64 → Int32 → List Value → Prop} {g : am_O → Int64 → Int32 → List Value → Prop} (m : ∀ x y r, f x y r → ∃ o, Φ o ∧ g o x y r) (h : am_li st f) : ∃ o, Φ o ∧ am_li st (g o) := by
  obtain ⟨x, y, r, rfl, h⟩ := am_li_s h
  obtain ⟨o, h1, h2⟩ := m _ _ _ h
  exact ⟨o, h1, h2⟩
theorem am_r1_e {st : List Value} {f : Nat → List Value → Prop} {g : am_O → Nat → List Value → Prop} (m : ∀ x r, f x r → ∃ o, Φ o ∧ g o x r) (h : am_r1 st f) : ∃ o, Φ o ∧ am_r1 st (g o) := by
  obtain ⟨x, r, rfl, h⟩ := am_r1_s h
  obtain ⟨o, h1, h2⟩ := m _ _ h
  exact ⟨o, h1, h2⟩
theorem am_ri_e {st : List Value} {f : Nat → Int32 → List Value → Prop} {g : am_O → Nat → Int32 → List Value → Prop} (m : ∀ x y r, f x y r → ∃ o, Φ o ∧ g o x y r) (h : am_ri st f) : ∃ o, Φ o ∧ am_ri st (g o) := by
  obtain ⟨x, y, r, rfl, h⟩ := am_ri_s h
  obtain ⟨o, h1, h2⟩ := m _ _ _ h
  exact ⟨o, h1, h2⟩
theorem am_rii_e {st : List Value} {f : Nat → Int32 → Int32 → List Value → Prop} {g : am_O → Nat → Int32 → Int32 → List Value → Prop} (m : ∀ x y z r, f x y z r → ∃ o, Φ o ∧ g o x y z r) (h : am_rii st f) : ∃ o, Φ o ∧ am_rii st (g o) := by
  obtain ⟨x, y, z, r, rfl, h⟩ := am_rii_s h
  obtain ⟨o, h1, h2⟩ := m _ _ _ _ h
  exact ⟨o, h1, h2⟩
theorem am_rl1_e {st : List Value} {f : Nat → Int64 → List Value → Prop} {g : am_O → Nat → Int64 → List Value → Prop} (m : ∀ x y r, f x y r → ∃ o, Φ o ∧ g o x y r) (h : am_rl1 st f) : ∃ o, Φ o ∧ am_rl1 st (g o) := by
  obtain ⟨x, y, r, rfl, h⟩ := am_rl1_s h
  obtain ⟨o, h1, h2⟩ := m _ _ _ h
  exact ⟨o, h1, h2⟩
theorem am_cp_e {st : List Value} {f : Nat → Int32 → Nat → Int32 → Int32 → List Value → Prop} {g : am_O → Nat → Int32 → Nat → Int32 → Int32 → List Value → Prop} (m : ∀ a b c d e r, f a b c d e r → ∃ o, Φ o ∧ g o a b c d e r) (h : am_cp st f) : ∃ o, Φ o ∧ am_cp st (g o) := by
  obtain ⟨a, b, c, d, e, r, rfl, h⟩ := am_cp_s h
  obtain ⟨o, h1, h2⟩ := m _ _ _ _ _ _ h
  exact ⟨o, h1, h2⟩
theorem am_v1_e {st : List Value} {f : Value → List Value → Prop} {g : am_O → Value → List Value → Prop} (m : ∀ x r, f x r → ∃ o, Φ o ∧ g o x r) (h : am_v1 st f) : ∃ o, Φ o ∧ am_v1 st (g o) := by
  unfold am_v1 at h
  split at h
  · exact m _ _ h
  · exact m _ _ h
  · exact h.elim
theorem am_v2_e {st : List Value} {f : Value → Value → List Value → Prop} {g : am_O → Value → Value → List Value → Prop} (m : ∀ x y r, f x y r → ∃ o, Φ o ∧ g o x y r) (h : am_v2 st f) : ∃ o, Φ o ∧ am_v2 st (g o) := by
  unfold am_v2 at h
  split at h
  · exact m _ _ _ h
  · exact m _ _ _ h
  · exact h.elim
theorem am_li1_e {lv : am_L} {i : Nat} {f : Int32 → Prop} {g : am_O → Int32 → Prop} (m : ∀ x, f x → ∃ o, Φ o ∧ g o x) (h : am_li1 lv i f) : ∃ o, Φ o ∧ am_li1 lv i (g o) := by
  obtain ⟨x, e, h⟩ := am_li1_s h
  obtain ⟨o, h1, h2⟩ := m _ h
  exact ⟨o, h1, by unfold am_li1; rw [e]; exact h2⟩
theorem am_ll1_e {lv : am_L} {i : Nat} {f : Int64 → Prop} {g : am_O → Int64 → Prop} (m : ∀ x, f x → ∃ o, Φ o ∧ g o x) (h : am_ll1 lv i f) : ∃ o, Φ o ∧ am_ll1 lv i (g o) := by
  obtain ⟨x, e, h⟩ := am_ll1_s h
  obtain ⟨o, h1, h2⟩ := m _ h
  exact ⟨o, h1, by unfold am_ll1; rw [e]; exact h2⟩
theorem am_lr1_e {lv : am_L} {i : Nat} {f : Nat → Prop} {g : am_O → Nat → Prop} (m : ∀ x, f x → ∃ o, Φ o ∧ g o x) (h : am_lr1 lv i f) : ∃ o, Φ o ∧ am_lr1 lv i (g o) := by
  obtain ⟨x, e, h⟩ := am_lr1_s h
  obtain ⟨o, h1, h2⟩ := m _ h
  exact ⟨o, h1, by unfold am_lr1; rw [e]; exact h2⟩
theorem am_test_e {b : Bool} {P : Prop} {g : am_O → Prop} (m : P → ∃ o, Φ o ∧ g o) (h : am_test b P) : ∃ o, Φ o ∧ am_test b (g o) := by
  obtain ⟨rfl, h⟩ := am_test_s h
  exact m h
theorem am_opt_e {α : Type} {x : Option α} {f : α → Prop} {g : am_O → α → Prop} (m : ∀ a, f a → ∃ o, Φ o ∧ g o a) (h : am_opt x f) : ∃ o, Φ o ∧ am_opt x (g o) := by
  obtain ⟨a, rfl, h⟩ := am_opt_s h
  exact m _ h
theorem am_ite_e {c : Prop} [Decidable c] {a b : Prop} {a' b' : am_O → Prop} (h1 : a → ∃ o, Φ o ∧ a' o) (h2 : b → ∃ o, Φ o ∧ b' o) (h : if c then a else b) : ∃ o, Φ o ∧ if c then a' o else b' o := by
  split at h
  · obtain ⟨o, g1, g2⟩ := h1 h
    exact ⟨o, g1, by rw [if_pos (by assumption)]; exact g2⟩
  · obtain ⟨o, g1, g2⟩ := h2 h
    exact ⟨o, g1, by rw [if_neg (by assumption)]; exact g2⟩
theorem am_getf_e {sh : List am_S} {ci j b : Nat} {w : am_M} {f : Value → Prop} {g : am_O → Value → Prop} (m : ∀ v, f v → ∃ o, Φ o ∧ g o v) (h : am_getf sh ci j b w f) : ∃ o, Φ o ∧ am_getf sh ci j b w (g o) := by
  unfold am_getf at h ⊢
  split at h
  · refine am_opt_e (fun v h => ?_) h
    split at h <;> exact m _ h
  · refine am_test_e (fun h => ?_) h
    split at h
    · exact m _ h
    · exact am_opt_e (fun _ => m _) h
    · exact m _ h
    · exact h.elim
set_option maxHeartbeats 2000000 in
theorem am_step_e {sh : List am_S} {mid : Nat} {call : Nat → List Value → am_M → am_O → Prop} {k : Nat → am_L → List Value → am_M → Prop} {k' : am_O → Nat → am_L → List Value → am_M → Prop} {pc : Nat} {e : Instr × Int32 × Nat × Nat} {lv : am_L} {st : List Value} {w : am_M}
    (m : ∀ a b c d, k a b c d → ∃ o, Φ o ∧ k' o a b c d) (h : am_step sh mid call Φ k pc e lv st w) : ∃ o, Φ o ∧ am_step sh mid call (fun r => r = o) (k' o) pc e lv st w := by
  obtain ⟨i, v, nx, tg⟩ := e
  unfold am_step at h ⊢
  dsimp only at h ⊢
  split at h
  all_goals first
    | exact m _ _ _ _ h
    | exact am_li1_e (fun _ => m _ _ _ _) h
    | exact am_ll1_e (fun _ => m _ _ _ _) h
    | exact am_lr1_e (fun _ => m _ _ _ _) h
    | exact am_i1_e (fun _ _ => m _ _ _ _) h
    | exact am_i2_e (fun _ _ _ => m _ _ _ _) h
    | exact am_l1_e (fun _ _ => m _ _ _ _) h
    | exact am_l2_e (fun _ _ _ => m _ _ _ _) h
    | exact am_li_e (fun _ _ _ => m _ _ _ _) h
    | exact am_r1_e (fun _ _ => m _ _ _ _) h
    | exact am_v1_e (fun _ _ => m _ _ _ _) h
    | exact am_v2_e (fun _ _ _ => m _ _ _ _) h
    | exact am_i2_e (fun _ _ _ => am_ite_e False.elim (m _ _ _ _)) h
    | exact am_l2_e (fun _ _ _ => am_ite_e False.elim (m _ _ _ _)) h
    | exact am_opt_e (fun _ => m _ _ _ _) h
    | exact False.elim h
    | skip
  · split at h
    · exact m _ _ _ _ h
    · exact am_opt_e (fun _ => m _ _ _ _) h
  · split at h <;> exact m _ _ _ _ h
  · refine am_i1_e (fun x r h => ?_) h
    split at h <;> exact am_ite_e (m _ _ _ _) (m _ _ _ _) h
  · refine am_i2_e (fun x y r h => ?_) h
    split at h <;> exact am_ite_e (m _ _ _ _) (m _ _ _ _) h
  · exact am_i1_e (fun x r ⟨t, h1, h2⟩ => by
      obtain ⟨o, g1, g2⟩ := m _ _ _ _ h2
      exact ⟨o, g1, t, h1, g2⟩) h
  · refine am_opt_e (fun q h => ?_) h
    obtain ⟨ci, j, nest⟩ := q
    exact am_r1_e (fun b r => am_getf_e (fun v => m _ _ _ _)) h
  · refine am_opt_e (fun q h => ?_) h
    obtain ⟨ci, j, nest⟩ := q
    dsimp only at h ⊢
    split at h
    · refine am_v2_e (fun a v r h => ?_) h
      split at h
      · refine am_test_e (fun h => ?_) h
        split at h
        · exact m _ _ _ _ h
        · obtain ⟨o, g1, g2⟩ := m _ _ _ _ h.2
          exact ⟨o, g1, h.1, g2⟩
      · exact h.elim
    · exact am_rl1_e (fun b v r => am_test_e (m _ _ _ _)) h
    · exact h.elim
  · refine am_opt_e (fun q h => ?_) h
    obtain ⟨j, nest⟩ := q
    dsimp only at h ⊢
    split at h <;> exact m _ _ _ _ h
  · refine am_ri_e (fun b i r h => ?_) h
    split at h
    · exact am_ite_e False.elim (m _ _ _ _) h
    · exact am_opt_e (fun l => am_ite_e False.elim (m _ _ _ _)) h
  · exact am_ri_e (fun b i r => am_opt_e (fun l => am_ite_e False.elim (m _ _ _ _))) h
  · exact am_rii_e (fun b i x r => am_opt_e (fun l => am_ite_e False.elim (m _ _ _ _))) h
  · refine am_ri_e (fun b i r => am_opt_e (fun q h => ?_)) h
    obtain ⟨t, l⟩ := q
    exact am_ite_e False.elim (am_opt_e (fun _ => m _ _ _ _)) h
  · exact am_r1_e (fun b r => am_opt_e (fun l => m _ _ _ _)) h
  · refine am_opt_e (fun q h => ?_) h
    obtain ⟨y, n, z, nest⟩ := q
    refine am_opt_e (fun q h => ?_) h
    obtain ⟨as, r0⟩ := q
    exact am_r1_e (fun b r => am_test_e (fun ⟨o1, h1, h2⟩ => by
      obtain ⟨o, g1, g2⟩ := am_test_e (m _ _ _ _) h2
      exact ⟨o, g1, o1, h1, g2⟩)) h
  · refine am_opt_e (fun q h => ?_) h
    obtain ⟨y, n, z, nest⟩ := q
    dsimp only at h ⊢
    split at h
    · refine am_opt_e (fun q h => ?_) h
      obtain ⟨as, r0⟩ := q
      exact am_test_e (fun ⟨o1, h1, h2⟩ => by
        obtain ⟨o, g1, g2⟩ := am_test_e (m _ _ _ _) h2
        exact ⟨o, g1, o1, h1, g2⟩) h
    · split at h
      · exact am_i2_e (fun x y r => am_test_e (m _ _ _ _)) h
      · exact am_i2_e (fun x y r => am_test_e (m _ _ _ _)) h
      · exact am_cp_e (fun _ _ _ _ _ r => am_test_e (am_opt_e (fun _ => am_opt_e (fun _ ⟨h1, h2, h3, h4, h5, h6⟩ => by
          obtain ⟨o, g1, g2⟩ := m _ _ _ _ h6
          exact ⟨o, g1, h1, h2, h3, h4, h5, g2⟩)))) h
      · exact h.elim
  · refine am_i1_e (fun x r h => ?_) h
    split at h
    · exact am_opt_e (fun t h => ⟨_, h.2, h.1, rfl⟩) h
    · exact h.elim
  · refine am_l1_e (fun x r h => ?_) h
    split at h
    · exact ⟨_, h.2, h.1, rfl⟩
    · exact h.elim
  · split at h
    · exact ⟨_, h.2, h.1, rfl⟩
    · exact h.elim
theorem am_ex {sh : List am_S} {mid : Nat} {call : Nat → List Value → am_M → am_O → Prop} {pc : Nat} {lv : am_L} {st : List Value} {w : am_M} (h : am_R sh mid call Φ pc lv st w) : ∃ o, Φ o ∧ am_R sh mid call (fun r => r = o) pc lv st w :=
  h (fun pc lv st w => ∃ o, Φ o ∧ am_R sh mid call (fun r => r = o) pc lv st w) fun pc lv st w e he hs => by
    obtain ⟨o, h1, h2⟩ := am_step_e (fun a b c d h => h) hs
    exact ⟨o, h1, am_go he h2⟩
/-- a method, by what its answer must be -/
theorem am_dex {sh : List am_S} {d mid : Nat} {as : List Value} {w : am_M} (hd : 1 ≤ d) (h1 : Nat.ble (am_cat as) (am_ml mid) = true) (h2 : Nat.blt mid 199 = true) (h : am_R sh mid (am_D sh (d - 1)) Φ 0 (am_in 0 as) [] w) : ∃ o, Φ o ∧ am_D sh d mid as w o := by
  obtain ⟨o, g1, g2⟩ := am_ex h
  exact ⟨o, g1, am_def hd h1 h2 g2⟩
end AME
end
section
/-! one that walks -/
/-- the town and the lasts: n, K, nx, m, kd, ln, lt -/
abbrev Wd : Type := Nat × (Nat → Nat) × (Nat → Nat → Nat) × Nat × (Nat → Nat) × (Nat → Nat) × (Nat → Nat → Nat)
/-- start, left, right, soled, own -/
abbrev Pr : Type := Nat × Nat × Nat × Nat × Nat
/-- place, state, weight, times left, times right -/
abbrev Qs : Type := Nat × Nat × Nat × Nat × Nat
def cV (w : am_M) (V : Wd) : Prop := cTown w V.1 V.2.1 V.2.2.1 ∧ cLasts w V.2.2.2.1 V.2.2.2.2.1 V.2.2.2.2.2.1 V.2.2.2.2.2.2
def plc (q : Qs) : Int32 := if q.2.1 = 3 then -1 else nI q.1
def wbI : Option Nat → Int32
  | none => -1
  | some l => nI l
def wkP (F : Nat → Int32) (P : Pr) : Prop := F 2 = nI P.1 ∧ F 3 = nI P.2.1 ∧ F 4 = nI P.2.2.1 ∧ F 5 = nI P.2.2.2.1 ∧ F 6 = nI P.2.2.2.2
def wkQ (F : Nat → Int32) (q : Qs) (b : Option Nat) : Prop := F 7 = plc q ∧ F 8 = nI q.2.1 ∧ F 9 = nI q.2.2.1 ∧ F 10 = nI q.2.2.2.1 ∧ F 11 = nI q.2.2.2.2 ∧ F 12 = wbI b
/-- nothing but cell b has changed -/
def am_fr (b : Nat) (w w' : am_M) : Prop := (∀ a, a ≠ b → w'.1 a = w.1 a) ∧ w'.2 = w.2
theorem am_fr.rf {b : Nat} {w : am_M} : am_fr b w w := ⟨fun _ _ => rfl, rfl⟩
theorem am_fr.pi {b j : Nat} {w w' : am_M} {x : Int32} (h : am_fr b w w') : am_fr b w (am_pi w' b j x) := ⟨fun a ha => (funext fun i => by simp [am_pi, ha]).trans (h.1 a ha), h.2⟩
theorem am_fr.tr {b : Nat} {w w' w'' : am_M} (h : am_fr b w w') (h' : am_fr b w' w'') : am_fr b w w'' := ⟨fun a ha => (h'.1 a ha).trans (h.1 a ha), h'.2.trans h.2⟩
theorem am_pi_row {w : am_M} {k j a : Nat} {x : Int32} (h : a ≠ k) : (am_pi w k j x).1 a = w.1 a := funext fun i => by simp [am_pi, h]
theorem cTown.fr {w w' : am_M} {n : Nat} {K : Nat → Nat} {nx : Nat → Nat → Nat} (h : cTown w n K nx) (e : ∀ a, a < 12 → w'.1 a = w.1 a) : cTown w' n K nx := by
  obtain ⟨h1, h2, h3, h4⟩ := h
  exact ⟨by rw [e 9 (by omega)]; exact h1, h2, fun c hc => by rw [e 10 (by omega)]; exact h3 c hc, fun c hc a ha => by rw [e 11 (by omega)]; exact h4 c hc a ha⟩
theorem cLasts.fr {w w' : am_M} {m : Nat} {kd ln : Nat → Nat} {lt : Nat → Nat → Nat} (h : cLasts w m kd ln lt) (e : ∀ a, a < 16 → w'.1 a = w.1 a) : cLasts w' m kd ln lt := by
  obtain ⟨h1, h2, h3⟩ := h
  exact ⟨by rw [e 12 (by omega)]; exact h1, h2, fun l hl => by rw [e 13 (by omega), e 14 (by omega), e 15 (by omega)]; exact h3 l hl⟩
theorem cV.fr {w w' : am_M} {V : Wd} (h : cV w V) (e : ∀ a, a < 16 → w'.1 a = w.1 a) : cV w' V := ⟨h.1.fr (fun a ha => e a (by omega)), h.2.fr e⟩
theorem cPeople.fr {w w' : am_M} {q : Nat} {pf : Nat → Nat → Nat} (h : cPeople w q pf) (e : ∀ a, a < 18 → w'.1 a = w.1 a) : cPeople w' q pf := by
  obtain ⟨h1, h2, h3⟩ := h
  exact ⟨by rw [e 16 (by omega)]; exact h1, h2, fun p hp => by rw [e 17 (by omega)]; exact h3 p hp⟩
/-- ahead of step 0 -/
def beginS (V : Wd) (P : Pr) : Qs := if P.1 < V.1 then (P.1, stOf (V.2.1 P.1), 0, 0, 0) else (P.1, 3, 0, 0, 0)
/-- a step -/
def goS (V : Wd) (P : Pr) (s : Nat) (r : Bool) (q : Qs) : Qs × Option Nat :=
  if q.2.1 ≠ 0 then (q, none) else
  if (if r then 0 else q.2.2.1 + 2 ^ P.2.2.2.1) < 3 ^ P.2.2.2.1 then
    ((V.2.2.1 q.1 P.2.2.2.2, stOf (V.2.1 (V.2.2.1 q.1 P.2.2.2.2)), (if r then 0 else q.2.2.1 + 2 ^ P.2.2.2.1), q.2.2.2.1, q.2.2.2.2), none)
  else
    if (if s % 2 = 0 then P.2.1 else P.2.2.1) < V.2.2.2.1 then
      ((V.2.2.1 q.1 (wayS (V.2.2.2.2.1 (if s % 2 = 0 then P.2.1 else P.2.2.1)) (V.2.2.2.2.2.1 (if s % 2 = 0 then P.2.1 else P.2.2.1)) (V.2.2.2.2.2.2 (if s % 2 = 0 then P.2.1 else P.2.2.1)) (if s % 2 = 0 then q.2.2.2.1 else q.2.2.2.2)),
        stOf (V.2.1 (V.2.2.1 q.1 (wayS (V.2.2.2.2.1 (if s % 2 = 0 then P.2.1 else P.2.2.1)) (V.2.2.2.2.2.1 (if s % 2 = 0 then P.2.1 else P.2.2.1)) (V.2.2.2.2.2.2 (if s % 2 = 0 then P.2.1 else P.2.2.1)) (if s % 2 = 0 then q.2.2.2.1 else q.2.2.2.2)))),
        (if r then 0 else q.2.2.1 + 2 ^ P.2.2.2.1) - 3 ^ P.2.2.2.1, q.2.2.2.1 + (if s % 2 = 0 then 1 else 0), q.2.2.2.2 + (if s % 2 = 0 then 0 else 1)), some (if s % 2 = 0 then P.2.1 else P.2.2.1))
    else
      ((V.2.2.1 q.1 P.2.2.2.2, stOf (V.2.1 (V.2.2.1 q.1 P.2.2.2.2)), (if r then 0 else q.2.2.1 + 2 ^ P.2.2.2.1) - 3 ^ P.2.2.2.1, q.2.2.2.1, q.2.2.2.2), none)
def Pok (P : Pr) : Prop := P.1 < 40 ∧ P.2.1 < 8 ∧ P.2.2.1 < 8 ∧ P.2.2.2.1 < 6 ∧ P.2.2.2.2 < 4
def qok (V : Wd) (P : Pr) (q : Qs) (k : Nat) : Prop := q.2.1 < 4 ∧ (q.2.1 ≠ 3 → q.1 < V.1 ∧ q.2.1 = stOf (V.2.1 q.1)) ∧ q.2.2.1 < 3 ^ P.2.2.2.1 ∧ q.2.2.2.1 ≤ k ∧ q.2.2.2.2 ≤ k
theorem stOf_lt (k : Nat) : stOf k < 4 := by unfold stOf; split; omega; split; omega; split; omega; omega
theorem pow_bd (s : Nat) (h : s < 6) : 2 ^ s ≤ 32 ∧ 2 ^ s ≤ 3 ^ s ∧ 3 ^ s ≤ 243 ∧ ([1, 3, 9, 27, 81, 243] : List Int32)[s]? = some (nI (3 ^ s)) := by
  match s, h with
  | 0, _ => exact ⟨by decide, by decide, by decide, rfl⟩
  | 1, _ => exact ⟨by decide, by decide, by decide, rfl⟩
  | 2, _ => exact ⟨by decide, by decide, by decide, rfl⟩
  | 3, _ => exact ⟨by decide, by decide, by decide, rfl⟩
  | 4, _ => exact ⟨by decide, by decide, by decide, rfl⟩
  | 5, _ => exact ⟨by decide, by decide, by decide, rfl⟩
theorem stOf_3 {k : Nat} (h : k < 4) (h1 : k ≠ 1) : ¬ stOf k = 3 := by
  rcases (show k = 0 ∨ k = 2 ∨ k = 3 by omega) with e | e | e <;> rw [e] <;> decide
theorem shl_one {s : Nat} (h : s < 6) : (1 : Int32) <<< (nI s &&& 31) = nI (2 ^ s) := by
  rcases (show s = 0 ∨ s = 1 ∨ s = 2 ∨ s = 3 ∨ s = 4 ∨ s = 5 by omega) with e | e | e | e | e | e <;> rw [e] <;> decide
/-- no way leads onto a wall -/
theorem plc_free {w : am_M} {V : Wd} (hV : cV w V) {c a x y z : Nat} (hc : c < V.1) (ha : a < 4) (hk : V.2.1 c ≠ 1) : nI (V.2.2.1 c a) = plc (V.2.2.1 c a, stOf (V.2.1 (V.2.2.1 c a)), x, y, z) := by
  obtain ⟨-, h2, h3⟩ := hV.1.2.2.2 c hc a ha
  unfold plc
  rw [if_neg]
  exact stOf_3 (hV.1.2.2.1 _ h2).2 (h3 hk)
theorem d_wear_52 {d q p : Nat} {pf : Nat → Nat → Nat} {w : am_M} (hd : 2 ≤ d) (hP : cPeople w q pf) (hp : p < q) : ∃ o : am_O, (o.1 = none ∧ am_fr 52 w o.2 ∧ wkP (o.2.1 52) (pf p 0, pf p 1, pf p 2, pf p 3, pf p 4)) ∧ am_D shC d mi_X10_wear [.ref 52, .ref 16, .int (nI p)] w o := by
  refine am_dex (by omega) rfl rfl ?_
  iterate 5 (first | refine am_g0 rfl rfl ?_ | refine am_go rfl ?_)
  refine ⟨(some (.int (nI (pf p 0))), w), d_ptold (j := 0) (by omega) hP hp (by omega), ?_⟩
  iterate 6 (first | refine am_g0 rfl rfl ?_ | refine am_go rfl ?_)
  refine ⟨(some (.int (nI (pf p 1))), _), d_ptold (j := 1) (by omega) (hP.fr (fun a ha => am_pi_row (by omega))) hp (by omega), ?_⟩
  iterate 6 (first | refine am_g0 rfl rfl ?_ | refine am_go rfl ?_)
  refine ⟨(some (.int (nI (pf p 2))), _), d_ptold (j := 2) (by omega) (hP.fr (fun a ha => (am_pi_row (by omega)).trans (am_pi_row (by omega)))) hp (by omega), ?_⟩
  iterate 6 (first | refine am_g0 rfl rfl ?_ | refine am_go rfl ?_)
  refine ⟨(some (.int (nI (pf p 3))), _), d_ptold (j := 3) (by omega) (hP.fr (fun a ha => (am_pi_row (by omega)).trans ((am_pi_row (by omega)).trans (am_pi_row (by omega))))) hp (by omega), ?_⟩
  iterate 6 (first | refine am_g0 rfl rfl ?_ | refine am_go rfl ?_)
  refine ⟨(some (.int (nI (pf p 4))), _), d_ptold (j := 4) (by omega) (hP.fr (fun a ha => (am_pi_row (by omega)).trans ((am_pi_row (by omega)).trans ((am_pi_row (by omega)).trans (am_pi_row (by omega)))))) hp (by omega), ?_⟩
  iterate 2 (first | refine am_g0 rfl rfl ?_ | refine am_go rfl ?_)
  exact ⟨rfl, rfl, ((((am_fr.rf.pi).pi).pi).pi).pi, rfl, rfl, rfl, rfl, rfl⟩
theorem d_begin_52 {d : Nat} {V : Wd} {P : Pr} {w : am_M} (hd : 2 ≤ d) (hV : cV w V) (hP : wkP (w.1 52) P) (hk : P.1 < 40) : ∃ o : am_O, (o.1 = none ∧ am_fr 52 w o.2 ∧ wkP (o.2.1 52) P ∧ wkQ (o.2.1 52) (beginS V P) none) ∧ am_D shC d mi_X10_begin [.ref 52] w o := by
  have hT := hV.1
  refine am_dex (by omega) rfl rfl ?_
  iterate 6 (first | refine am_g0 rfl rfl ?_ | refine am_go rfl ?_)
  obtain ⟨p1, p2, p3, p4, p5⟩ := hP
  rw [p1]
  by_cases hc : P.1 < V.1
  · refine ⟨(some (.int (nI (stOf (V.2.1 P.1)))), w), d_stateOn_t (by omega) hT hc, ?_⟩
    iterate 6 (first | refine am_g0 rfl rfl ?_ | refine am_go rfl ?_)
    have hst : stOf (V.2.1 P.1) < 4 := by unfold stOf; split; omega; split; omega; split; omega; omega
    by_cases h3 : stOf (V.2.1 P.1) = 3
    · refine am_tt (show nI (stOf (V.2.1 P.1)) = 3 by rw [h3]; rfl) ?_
      iterate 16 (first | refine am_g0 rfl rfl ?_ | refine am_go rfl ?_)
      have hb : beginS V P = (P.1, 3, 0, 0, 0) := by unfold beginS; rw [if_pos hc, h3]
      refine ⟨rfl, rfl, ((((((am_fr.rf.pi).pi).pi).pi).pi).pi), ⟨p1, p2, p3, p4, p5⟩, ?_⟩
      rw [hb]
      refine ⟨rfl, ?_, rfl, rfl, rfl, rfl⟩
      show nI (stOf (V.2.1 P.1)) = nI 3
      rw [h3]
    · refine am_ff (show ¬ nI (stOf (V.2.1 P.1)) = 3 from fun z => h3 ((nI_eq (b := 3) (by omega) (by omega)).mp z)) ?_
      iterate 16 (first | refine am_g0 rfl rfl ?_ | refine am_go rfl ?_)
      have hb : beginS V P = (P.1, stOf (V.2.1 P.1), 0, 0, 0) := by unfold beginS; rw [if_pos hc]
      refine ⟨rfl, rfl, ((((((am_fr.rf.pi).pi).pi).pi).pi).pi), ⟨p1, p2, p3, p4, p5⟩, ?_⟩
      rw [hb]
      refine ⟨?_, rfl, rfl, rfl, rfl, rfl⟩
      show w.1 52 2 = plc (P.1, stOf (V.2.1 P.1), 0, 0, 0)
      rw [p1]
      unfold plc
      rw [if_neg h3]
  · refine ⟨(some (.int 3), w), d_stateOn_f (by omega) hT (Or.inr (nI_le (by omega) (by omega))), ?_⟩
    iterate 22 (first | refine am_g0 rfl rfl ?_ | refine am_go rfl ?_)
    have hb : beginS V P = (P.1, 3, 0, 0, 0) := by unfold beginS; rw [if_neg hc]
    refine ⟨rfl, rfl, ((((((am_fr.rf.pi).pi).pi).pi).pi).pi), ⟨p1, p2, p3, p4, p5⟩, ?_⟩
    rw [hb]
    exact ⟨rfl, rfl, rfl, rfl, rfl, rfl⟩
theorem d_gotail_52 {d : Nat} {V : Wd} {w : am_M} {c a : Nat} {x : Int32} {Φ : am_O → Prop} (hd : 1 ≤ d) (hV : cV w V) (hc : w.1 52 7 = nI c) (hcn : c < V.1) (hx : x = nI a) (ha : a < 4) (hΦ : Φ (none, am_pi (am_pi w 52 7 (nI (V.2.2.1 c a))) 52 8 (nI (stOf (V.2.1 (V.2.2.1 c a)))))) : am_R shC mi_X10_go (am_D shC d) Φ 186 [(0, .ref 52), (3, .int x)] [] w := by
  have hT := hV.1
  subst hx
  iterate 7 (first | refine am_g0 rfl rfl ?_ | refine am_go rfl ?_)
  rw [hc]
  refine ⟨(some (.int (nI (V.2.2.1 c a))), w), d_nextOf hd hT hcn ha, ?_⟩
  iterate 7 (first | refine am_g0 rfl rfl ?_ | refine am_go rfl ?_)
  refine ⟨(some (.int (nI (stOf (V.2.1 (V.2.2.1 c a))))), _), d_stateOn_t hd (hT.fr (fun b hb => am_pi_row (by omega))) ((hT.2.2.2 c hcn a ha).2.1), ?_⟩
  iterate 2 (first | refine am_g0 rfl rfl ?_ | refine am_go rfl ?_)
  exact ⟨rfl, hΦ⟩
set_option maxHeartbeats 8000000 in
theorem d_go_52 {d : Nat} {V : Wd} {P : Pr} {q : Qs} {b0 : Option Nat} {s : Nat} {r : Bool} {w : am_M} (hd : 2 ≤ d) (hV : cV w V) (hP : wkP (w.1 52) P) (hPb : Pok P) (hQ : wkQ (w.1 52) q b0) (hq : qok V P q s) (hs : s < 30) : ∃ o : am_O, (o.1 = none ∧ am_fr 52 w o.2 ∧ wkP (o.2.1 52) P ∧ wkQ (o.2.1 52) (goS V P s r q).1 (goS V P s r q).2) ∧ am_D shC d mi_X10_go [.ref 52, .int (nI s), .int (if r then 1 else 0)] w o := by
  obtain ⟨p1, p2, p3, p4, p5⟩ := hP
  obtain ⟨q1, q2, q3, q4, q5, q6⟩ := hQ
  obtain ⟨b1, b2, b3, b4, b5⟩ := hPb
  obtain ⟨qa, qb, qc, qd, qe⟩ := hq
  have hsol := pow_bd P.2.2.2.1 b4
  refine am_dex (by omega) rfl rfl ?_
  iterate 6 (first | refine am_g0 rfl rfl ?_ | refine am_go rfl ?_)
  by_cases h0 : q.2.1 = 0
  · refine am_tt (show w.1 52 8 = 0 by rw [q2, h0]; rfl) ?_
    have hpl : w.1 52 7 = nI q.1 := by rw [q1]; unfold plc; rw [if_neg (by omega)]
    have hcn : q.1 < V.1 := (qb (by omega)).1
    have hk1 : V.2.1 q.1 ≠ 1 := fun z => by
      have := (qb (by omega)).2
      rw [z, h0] at this
      exact absurd this (by decide)
    have h3 : ([1, 3, 9, 27, 81, 243] : List Int32).getD (w.1 52 5).toNatClampNeg 0 = nI (3 ^ P.2.2.2.1) := by rw [p4, nI_clamp (by omega), List.getD_eq_getElem?_getD, hsol.2.2.2]; rfl
    have h3b : ¬ (w.1 52 5 < 0 ∨ 6 ≤ (w.1 52 5).toNatClampNeg) := by rw [p4]; exact nI_in b4 (by decide)
    -- the weight that is put on
    have key : ∀ W0 : Nat, W0 = (if r then 0 else q.2.2.1 + 2 ^ P.2.2.2.1) → am_R shC mi_X10_go (am_D shC (d - 1)) (fun o => o.1 = none ∧ am_fr 52 w o.2 ∧ wkP (o.2.1 52) P ∧ wkQ (o.2.1 52) (goS V P s r q).1 (goS V P s r q).2) 38 [(0, .ref 52), (1, .int (nI s)), (3, .int (w.1 52 6))] [.int (nI W0), .ref 52] (am_pi w 52 12 (-1)) := by
      intro W0 hW0
      have hW1 : W0 < 1000 := by rw [hW0]; split <;> omega
      iterate 7 (first | refine am_g0 rfl rfl ?_ | refine am_go rfl ?_)
      refine am_ff h3b ?_
      refine am_top h3 ?_
      iterate 1 (first | refine am_g0 rfl rfl ?_ | refine am_go rfl ?_)
      by_cases hw : W0 < 3 ^ P.2.2.2.1
      · refine am_tt (show nI W0 < nI (3 ^ P.2.2.2.1) from nI_lt hw (by omega)) ?_
        have hg : goS V P s r q = ((V.2.2.1 q.1 P.2.2.2.2, stOf (V.2.1 (V.2.2.1 q.1 P.2.2.2.2)), W0, q.2.2.2.1, q.2.2.2.2), none) := by unfold goS; rw [if_neg (by omega), ← hW0, if_pos hw]
        rw [hg]
        refine am_kl (d_gotail_52 (by omega) (hV.fr (fun a ha => ?_)) (c := q.1) hpl hcn p5 b5 ?_) rfl
        · exact ((am_fr.rf.pi).pi (b := 52)).1 a (by omega)
        · exact ⟨rfl, ((((am_fr.rf.pi).pi).pi).pi), ⟨p1, p2, p3, p4, p5⟩, plc_free hV hcn b5 hk1, rfl, rfl, q4, q5, rfl⟩
      · refine am_ff (show ¬ nI W0 < nI (3 ^ P.2.2.2.1) from nI_nlt (by omega) (by omega)) ?_
        iterate 7 (first | refine am_g0 rfl rfl ?_ | refine am_go rfl ?_)
        refine am_ff h3b ?_
        refine am_top h3 ?_
        iterate 1 (first | refine am_g0 rfl rfl ?_ | refine am_go rfl ?_)
        refine am_top (y := nI (W0 - 3 ^ P.2.2.2.1)) (pk_sub (by omega)) ?_
        -- which foot
        have foot : ∀ (ev : Bool) (l t : Nat), (ev = true ↔ s % 2 = 0) → l = (if s % 2 = 0 then P.2.1 else P.2.2.1) → t = (if s % 2 = 0 then q.2.2.2.1 else q.2.2.2.2) → am_R shC mi_X10_go (am_D shC (d - 1)) (fun o => o.1 = none ∧ am_fr 52 w o.2 ∧ wkP (o.2.1 52) P ∧ wkQ (o.2.1 52) (goS V P s r q).1 (goS V P s r q).2) 84 [(0, .ref 52), (3, .int (w.1 52 6))] [.int (if ev then 1 else 0)] (am_pi (am_pi (am_pi w 52 12 (-1)) 52 9 (nI W0)) 52 9 (nI (W0 - 3 ^ P.2.2.2.1))) := by
          intro ev l t hev hl ht
          have hl8 : l < 8 := by rw [hl]; split <;> omega
          have ht30 : t ≤ s := by rw [ht]; split <;> omega
          have hlm : V.2.2.2.1 ≤ 8 := hV.2.2.1
          by_cases hm : l < V.2.2.2.1
          · have hlet := (hV.2.2.2 l hm).2.2.2.2.2 (t % V.2.2.2.2.2.1 l) (Nat.mod_lt _ (by have := (hV.2.2.2 l hm).2.2.2.1; omega))
            obtain ⟨A, hA⟩ : ∃ A, A = wayS (V.2.2.2.2.1 l) (V.2.2.2.2.2.1 l) (V.2.2.2.2.2.2 l) t := ⟨_, rfl⟩
            have hway : A < 4 := by rw [hA]; exact wayS_lt hlet.2
            have hg : goS V P s r q = ((V.2.2.1 q.1 A, stOf (V.2.1 (V.2.2.1 q.1 A)), W0 - 3 ^ P.2.2.2.1, q.2.2.2.1 + (if s % 2 = 0 then 1 else 0), q.2.2.2.2 + (if s % 2 = 0 then 0 else 1)), some l) := by unfold goS; rw [if_neg (by omega), ← hW0, if_neg hw, ← hl, ← ht, if_pos hm, ← hA]
            have call : ∀ w1 : am_M, (∀ a, a < 16 → w1.1 a = w.1 a) → am_D shC (d - 1) mi_X0_wayOf [.ref 12, .int (nI l), .int (nI t)] w1 (some (.int (nI A)), w1) := fun w1 h1 => by rw [hA]; exact d_wayOf (by omega) (hV.2.fr h1) hm (by omega)
            have hw1 : ∀ a, a < 16 → (am_pi (am_pi (am_pi w 52 12 (-1)) 52 9 (nI W0)) 52 9 (nI (W0 - 3 ^ P.2.2.2.1))).1 a = w.1 a := fun a ha => (((am_fr.rf.pi).pi).pi (b := 52)).1 a (by omega)
            cases ev with
            | true =>
              have he : s % 2 = 0 := hev.mp rfl
              rw [if_pos he] at hl ht
              refine am_top (y := 1) rfl ?_
              iterate 12 (first | refine am_g0 rfl rfl ?_ | refine am_go rfl ?_)
              refine am_ff (show ¬ w.1 12 3 ≤ w.1 52 3 by rw [hV.2.1, p2, ← hl]; exact nI_ge hm (by omega)) ?_
              iterate 9 (first | refine am_g0 rfl rfl ?_ | refine am_go rfl ?_)
              refine ⟨(some (.int (nI A)), am_pi (am_pi (am_pi w 52 12 (-1)) 52 9 (nI W0)) 52 9 (nI (W0 - 3 ^ P.2.2.2.1))), (show am_D shC (d - 1) mi_X0_wayOf [.ref 12, .int (w.1 52 3), .int (w.1 52 10)] _ _ by rw [p2, q4, ← hl, ← ht]; exact call _ hw1), ?_⟩
              refine am_to (lv' := [(0, .ref 52), (4, .int 1), (5, .int (w.1 52 3))]) (st' := [.int (nI A)]) (w' := am_pi (am_pi (am_pi w 52 12 (-1)) 52 9 (nI W0)) 52 9 (nI (W0 - 3 ^ P.2.2.2.1))) rfl rfl rfl ?_
              iterate 22 (first | refine am_g0 rfl rfl ?_ | refine am_go rfl ?_)
              rw [hg, if_pos he, if_pos he]
              refine am_kl (d_gotail_52 (by omega) (hV.fr (fun a ha => ?_)) (c := q.1) hpl hcn rfl hway ?_) rfl
              · exact ((((((am_fr.rf.pi).pi).pi).pi).pi).pi (b := 52)).1 a (by omega)
              · refine ⟨rfl, ((((((((am_fr.rf.pi).pi).pi).pi).pi).pi).pi).pi), ⟨p1, p2, p3, p4, p5⟩, plc_free hV hcn hway hk1, rfl, rfl, ?_, ?_, ?_⟩
                · show w.1 52 10 + 1 = _
                  rw [q4, nI_1]
                · show w.1 52 11 + 0 = _
                  rw [q5]; exact Int32.add_zero _
                · show w.1 52 3 = _
                  rw [p2, ← hl]; rfl
            | false =>
              have he : ¬ s % 2 = 0 := fun z => by have := hev.mpr z; cases this
              rw [if_neg he] at hl ht
              refine am_top (y := 0) rfl ?_
              iterate 11 (first | refine am_g0 rfl rfl ?_ | refine am_go rfl ?_)
              refine am_ff (show ¬ w.1 12 3 ≤ w.1 52 4 by rw [hV.2.1, p3, ← hl]; exact nI_ge hm (by omega)) ?_
              iterate 8 (first | refine am_g0 rfl rfl ?_ | refine am_go rfl ?_)
              refine ⟨(some (.int (nI A)), am_pi (am_pi (am_pi w 52 12 (-1)) 52 9 (nI W0)) 52 9 (nI (W0 - 3 ^ P.2.2.2.1))), (show am_D shC (d - 1) mi_X0_wayOf [.ref 12, .int (w.1 52 4), .int (w.1 52 11)] _ _ by rw [p3, q5, ← hl, ← ht]; exact call _ hw1), ?_⟩
              refine am_to (lv' := [(0, .ref 52), (4, .int 0), (5, .int (w.1 52 4))]) (st' := [.int (nI A)]) (w' := am_pi (am_pi (am_pi w 52 12 (-1)) 52 9 (nI W0)) 52 9 (nI (W0 - 3 ^ P.2.2.2.1))) rfl rfl rfl ?_
              iterate 20 (first | refine am_g0 rfl rfl ?_ | refine am_go rfl ?_)
              rw [hg, if_neg he, if_neg he]
              refine am_kl (d_gotail_52 (by omega) (hV.fr (fun a ha => ?_)) (c := q.1) hpl hcn rfl hway ?_) rfl
              · exact ((((((am_fr.rf.pi).pi).pi).pi).pi).pi (b := 52)).1 a (by omega)
              · refine ⟨rfl, ((((((((am_fr.rf.pi).pi).pi).pi).pi).pi).pi).pi), ⟨p1, p2, p3, p4, p5⟩, plc_free hV hcn hway hk1, rfl, rfl, ?_, ?_, ?_⟩
                · show w.1 52 10 + 0 = _
                  rw [q4]; exact Int32.add_zero _
                · show w.1 52 11 + 1 = _
                  rw [q5, nI_1]
                · show w.1 52 4 = _
                  rw [p3, ← hl]; rfl
          · have hg : goS V P s r q = ((V.2.2.1 q.1 P.2.2.2.2, stOf (V.2.1 (V.2.2.1 q.1 P.2.2.2.2)), W0 - 3 ^ P.2.2.2.1, q.2.2.2.1, q.2.2.2.2), none) := by unfold goS; rw [if_neg (by omega), ← hW0, if_neg hw, ← hl, if_neg hm]
            have fin : ∀ lv, am_kill mi_X10_go 186 lv = [(0, .ref 52), (3, .int (w.1 52 6))] → am_R shC mi_X10_go (am_D shC (d - 1)) (fun o => o.1 = none ∧ am_fr 52 w o.2 ∧ wkP (o.2.1 52) P ∧ wkQ (o.2.1 52) (goS V P s r q).1 (goS V P s r q).2) 186 lv [] (am_pi (am_pi (am_pi w 52 12 (-1)) 52 9 (nI W0)) 52 9 (nI (W0 - 3 ^ P.2.2.2.1))) := by
              intro lv hlv
              rw [hg]
              refine am_kl (d_gotail_52 (by omega) (hV.fr (fun a ha => ?_)) (c := q.1) hpl hcn p5 b5 ?_) hlv
              · exact (((am_fr.rf.pi).pi).pi (b := 52)).1 a (by omega)
              · exact ⟨rfl, (((((am_fr.rf.pi).pi).pi).pi).pi), ⟨p1, p2, p3, p4, p5⟩, plc_free hV hcn b5 hk1, rfl, rfl, q4, q5, rfl⟩
            cases ev with
            | true =>
              have he : s % 2 = 0 := hev.mp rfl
              rw [if_pos he] at hl
              refine am_top (y := 1) rfl ?_
              iterate 12 (first | refine am_g0 rfl rfl ?_ | refine am_go rfl ?_)
              refine am_tt (show w.1 12 3 ≤ w.1 52 3 by rw [hV.2.1, p2, ← hl]; exact nI_le (by omega) (by omega)) ?_
              exact fin _ rfl
            | false =>
              have he : ¬ s % 2 = 0 := fun z => by have := hev.mpr z; cases this
              rw [if_neg he] at hl
              refine am_top (y := 0) rfl ?_
              iterate 11 (first | refine am_g0 rfl rfl ?_ | refine am_go rfl ?_)
              refine am_tt (show w.1 12 3 ≤ w.1 52 4 by rw [hV.2.1, p3, ← hl]; exact nI_le (by omega) (by omega)) ?_
              exact fin _ rfl
        iterate 4 (first | refine am_g0 rfl rfl ?_ | refine am_go rfl ?_)
        refine am_top (y := nI (s % 2)) (pk_rem (d := 2) (by omega) (by omega) (by omega)) ?_
        iterate 1 (first | refine am_g0 rfl rfl ?_ | refine am_go rfl ?_)
        by_cases he : s % 2 = 0
        · refine am_tt (show nI (s % 2) = 0 by rw [he]; rfl) ?_
          iterate 2 (first | refine am_g0 rfl rfl ?_ | refine am_go rfl ?_)
          exact am_kl (foot true _ _ ⟨fun _ => he, fun _ => rfl⟩ rfl rfl) rfl
        · refine am_ff (show ¬ nI (s % 2) = 0 from nI_ne0 (by omega) (by omega)) ?_
          iterate 1 (first | refine am_g0 rfl rfl ?_ | refine am_go rfl ?_)
          exact am_kl (foot false _ _ ⟨fun z => (Bool.false_ne_true z).elim, fun z => absurd z he⟩ rfl rfl) rfl
    cases r with
    | true =>
      iterate 8 (first | refine am_g0 rfl rfl ?_ | refine am_go rfl ?_)
      exact am_kl (key 0 rfl) rfl
    | false =>
      iterate 13 (first | refine am_g0 rfl rfl ?_ | refine am_go rfl ?_)
      refine am_top (y := nI (q.2.2.1 + 2 ^ P.2.2.2.1)) (show w.1 52 9 + (1 : Int32) <<< (w.1 52 5 &&& 31) = _ by rw [q3, p4, shl_one b4, nI_add]) ?_
      exact am_kl (key _ rfl) rfl
  · refine am_ff (show ¬ w.1 52 8 = 0 by rw [q2]; exact nI_ne0 (by omega) (by omega)) ?_
    iterate 1 (first | refine am_g0 rfl rfl ?_ | refine am_go rfl ?_)
    have hg : goS V P s r q = (q, none) := by unfold goS; rw [if_pos h0]
    rw [hg]
    exact ⟨rfl, rfl, am_fr.rf.pi, ⟨p1, p2, p3, p4, p5⟩, q1, q2, q3, q4, q5, rfl⟩
end
section
/-! lives, and a trace of one -/
def lifeQ (V : Wd) (P : Pr) (wet : Nat → Bool) : Nat → Qs
  | 0 => beginS V P
  | k + 1 => (goS V P k (wet k) (lifeQ V P wet k)).1
def lifeB (V : Wd) (P : Pr) (wet : Nat → Bool) (k : Nat) : Option Nat := (goS V P k (wet k) (lifeQ V P wet k)).2
def endS (V : Wd) (P : Pr) (wet : Nat → Bool) : Nat → Option Nat
  | 0 => none
  | k + 1 => if (lifeQ V P wet k).2.1 = 0 ∧ (lifeQ V P wet (k + 1)).2.1 ≠ 0 then some k else endS V P wet k
/-- the bits of a word -/
def wetB (x : Int32) (s : Nat) : Bool := !decide ((x >>> (nI s &&& 31)) &&& 1 = 0)
/-- what holds of a town and lasts -/
def Vgood (V : Wd) : Prop := (∀ c, c < V.1 → V.2.1 c < 4) ∧ (∀ c, c < V.1 → ∀ a, a < 4 → V.2.2.1 c a < V.1) ∧ ∀ l, l < V.2.2.2.1 → 1 ≤ V.2.2.2.2.2.1 l ∧ ∀ j, j < V.2.2.2.2.2.1 l → V.2.2.2.2.2.2 l j < 4
theorem cV.good {w : am_M} {V : Wd} (h : cV w V) : Vgood V := ⟨fun c hc => (h.1.2.2.1 c hc).2, fun c hc a ha => (h.1.2.2.2 c hc a ha).2.1, fun l hl => ⟨(h.2.2.2 l hl).2.2.2.1, fun j hj => ((h.2.2.2 l hl).2.2.2.2.2 j hj).2⟩⟩
theorem qok_begin {V : Wd} (P : Pr) : qok V P (beginS V P) 0 := by
  unfold beginS
  have h3 : 0 < 3 ^ P.2.2.2.1 := Nat.pow_pos (by omega)
  split
  · exact ⟨stOf_lt _, fun _ => ⟨by assumption, rfl⟩, h3, Nat.le_refl _, Nat.le_refl _⟩
  · exact ⟨(by omega : 3 < 4), fun z => absurd rfl z, h3, Nat.le_refl _, Nat.le_refl _⟩
theorem qok_go {V : Wd} {P : Pr} {q : Qs} {s : Nat} (r : Bool) (hg : Vgood V) (hP : Pok P) (h : qok V P q s) : qok V P (goS V P s r q).1 (s + 1) := by
  obtain ⟨h1, h2, h3, h4, h5⟩ := h
  obtain ⟨-, -, -, b4, b5⟩ := hP
  have hpw := pow_bd P.2.2.2.1 b4
  have hc0 : 0 < 3 ^ P.2.2.2.1 := Nat.pow_pos (by omega)
  have hlt : (if r then 0 else q.2.2.1 + 2 ^ P.2.2.2.1) - 3 ^ P.2.2.2.1 < 3 ^ P.2.2.2.1 := by
    cases r with
    | true => simp only [if_true]; omega
    | false => simp only [Bool.false_eq_true, if_false]; omega
  unfold goS
  by_cases hz : q.2.1 ≠ 0
  · rw [if_pos hz]
    exact ⟨h1, h2, h3, Nat.le_succ_of_le h4, Nat.le_succ_of_le h5⟩
  · rw [if_neg hz]
    have hcn : q.1 < V.1 := (h2 (by omega)).1
    generalize (if r then 0 else q.2.2.1 + 2 ^ P.2.2.2.1) = W0 at hlt ⊢
    by_cases hw : W0 < 3 ^ P.2.2.2.1
    · rw [if_pos hw]
      exact ⟨stOf_lt _, fun _ => ⟨hg.2.1 _ hcn _ b5, rfl⟩, hw, Nat.le_succ_of_le h4, Nat.le_succ_of_le h5⟩
    · rw [if_neg hw]
      generalize (if s % 2 = 0 then P.2.1 else P.2.2.1) = l
      generalize (if s % 2 = 0 then q.2.2.2.1 else q.2.2.2.2) = t
      by_cases hm : l < V.2.2.2.1
      · rw [if_pos hm]
        refine ⟨stOf_lt _, fun _ => ⟨hg.2.1 _ hcn _ (wayS_lt ((hg.2.2 _ hm).2 _ (Nat.mod_lt _ (hg.2.2 _ hm).1))), rfl⟩, hlt, ?_, ?_⟩
        · show q.2.2.2.1 + (if s % 2 = 0 then 1 else 0) ≤ s + 1
          split <;> omega
        · show q.2.2.2.2 + (if s % 2 = 0 then 0 else 1) ≤ s + 1
          split <;> omega
      · rw [if_neg hm]
        exact ⟨stOf_lt _, fun _ => ⟨hg.2.1 _ hcn _ b5, rfl⟩, hlt, Nat.le_succ_of_le h4, Nat.le_succ_of_le h5⟩
theorem qok_life {V : Wd} {P : Pr} (wet : Nat → Bool) (hg : Vgood V) (hP : Pok P) : ∀ k, qok V P (lifeQ V P wet k) k
  | 0 => qok_begin P
  | k + 1 => qok_go (wet k) hg hP (qok_life wet hg hP k)
def opI : Option Nat → Int32
  | none => -1
  | some k => nI k
/-- a trace's cells T (object) and R (row) tell the life -/
def rowOK (w : am_M) (R : Nat) (V : Wd) (P : Pr) (wet : Nat → Bool) (n : Nat) : Prop := ∀ s, s < n → w.1 R s = plc (lifeQ V P wet (s + 1)) ∧ w.1 R (30 + s) = nI (lifeQ V P wet (s + 1)).2.1 ∧ w.1 R (60 + s) = nI (lifeQ V P wet (s + 1)).2.2.1 ∧ w.1 R (90 + s) = wbI (lifeB V P wet s)
def trOK (w : am_M) (T R : Nat) (V : Wd) (P : Pr) (wet : Nat → Bool) : Prop := rowOK w R V P wet 30 ∧ w.1 T 1 = nI (lifeQ V P wet 30).2.1 ∧ w.1 T 2 = opI (endS V P wet 30)
theorem rowOK.fr {w w' : am_M} {R : Nat} {V : Wd} {P : Pr} {wet : Nat → Bool} {n : Nat} (h : rowOK w R V P wet n) (e : w'.1 R = w.1 R) : rowOK w' R V P wet n := fun s hs => by rw [e]; exact h s hs
theorem trOK.fr {w w' : am_M} {T R : Nat} {V : Wd} {P : Pr} {wet : Nat → Bool} (h : trOK w T R V P wet) (e1 : w'.1 T = w.1 T) (e2 : w'.1 R = w.1 R) : trOK w' T R V P wet := ⟨h.1.fr e2, by rw [e1]; exact h.2.1, by rw [e1]; exact h.2.2⟩
/-- three cells at most have changed -/
def am_f3 (a b c : Nat) (w w' : am_M) : Prop := (∀ k, k ≠ a → k ≠ b → k ≠ c → w'.1 k = w.1 k) ∧ w'.2 = w.2
theorem am_gsE {sh : List am_S} {mid : Nat} {call : Nat → List Value → am_M → am_O → Prop} {post : am_O → Prop} {pc : Nat} {lv : am_L} {st : List Value} {w : am_M} {v : Int32} {nx tg : Nat} {b n k : Nat} {i x : Int32} (he : am_at mid pc = some (.iastore, v, nx, tg)) (hn : am_ln sh b = some n) (hi : i = nI k) (hk : k < n) (hn2 : n < 2 ^ 31) (h : am_R sh mid call post nx (am_kill mid pc lv) st (am_pi w b k x)) : am_R sh mid call post pc lv (.int x :: .int i :: .ref b :: st) w := by
  subst hi
  exact am_gsN he hn hk hn2 h
set_option maxHeartbeats 4000000 in
theorem d_follow {d T R : Nat} {V : Wd} {P : Pr} {x : Int32} {w : am_M} (hd : 3 ≤ d) (hT : am_isb shC T 9 = true) (hR : am_tg shC T 0 = some R) (hL : am_ln shC R = some 120) (hT1 : 16 ≤ T) (hR1 : 16 ≤ R) (hT2 : T ≠ 52) (hR2 : R ≠ 52) (hTR : T ≠ R) (hV : cV w V) (hP : wkP (w.1 52) P) (hPb : Pok P) : ∃ o : am_O, (o.1 = none ∧ am_f3 52 T R w o.2 ∧ trOK o.2 T R V P (wetB x)) ∧ am_D shC d mi_X9_follow [.ref T, .ref 52, .int x] w o := by
  have hg := hV.good
  refine am_dex (by omega) rfl rfl ?_
  iterate 2 refine am_g0 rfl rfl ?_
  obtain ⟨⟨r1, w1⟩, ⟨e1, f1, g1, g2⟩, hD⟩ := d_begin_52 (d := d - 1) (by omega) hV hP hPb.1
  dsimp only at e1 f1 g1 g2
  subst e1
  refine ⟨(none, w1), hD, ?_⟩
  iterate 3 refine am_g0 rfl rfl ?_
  refine am_ys (show (am_isb shC T 9 && true) = true by rw [hT]; rfl) ?_
  iterate 2 refine am_g0 rfl rfl ?_
  have key : ∀ j s : Nat, s + j = 30 → ∀ m : am_M, am_f3 52 T R w m → wkP (m.1 52) P → (∃ bo, wkQ (m.1 52) (lifeQ V P (wetB x) s) bo) → rowOK m R V P (wetB x) s → m.1 T 2 = opI (endS V P (wetB x) s) → am_R shC mi_X9_follow (am_D shC (d - 1)) (fun o => o.1 = none ∧ am_f3 52 T R w o.2 ∧ trOK o.2 T R V P (wetB x)) 11 [(0, .ref T), (1, .ref 52), (2, .int x), (3, .int (nI s))] [] m := by
    intro j
    induction j with
    | zero =>
      intro s hs m hf hp hq hr he
      have e : s = 30 := by omega
      obtain ⟨bo, hq⟩ := hq
      refine am_go rfl ?_
      iterate 2 refine am_g0 rfl rfl ?_
      refine am_tt (show nI 30 ≤ nI s from nI_le (by omega) (by omega)) ?_
      refine am_to (lv' := [(0, .ref T), (1, .ref 52), (2, .int x), (3, .int (nI s))]) (st' := []) (w' := m) rfl rfl rfl ?_
      refine am_go rfl ?_
      iterate 3 refine am_g0 rfl rfl ?_
      refine am_ys (show (am_isb shC T 9 && true) = true by rw [hT]; rfl) ?_
      refine am_g0 rfl rfl ?_
      subst e
      refine ⟨rfl, rfl, ⟨fun k h1 h2 h3 => (am_pi_row h2).trans (hf.1 k h1 h2 h3), hf.2⟩, hr.fr (am_pi_row (Ne.symm hTR)), ?_, ?_⟩
      · show (am_pi m T 1 (m.1 52 8)).1 T 1 = _
        rw [am_pi_at]
        exact hq.2.1
      · show (am_pi m T 1 (m.1 52 8)).1 T 2 = _
        rw [am_pi_ne (Or.inr (by omega))]
        exact he
    | succ j ih =>
      intro s hs m hf hp hq hr he
      obtain ⟨bo, hq⟩ := hq
      have hlow : ∀ a, a < 16 → m.1 a = w.1 a := fun a ha => hf.1 a (by omega) (by omega) (by omega)
      have hqo := qok_life (V := V) (P := P) (wetB x) hg hPb s
      refine am_go rfl ?_
      iterate 2 refine am_g0 rfl rfl ?_
      refine am_ff (show ¬ nI 30 ≤ nI s from nI_ge (by omega) (by omega)) ?_
      refine am_to (lv' := [(0, .ref T), (1, .ref 52), (2, .int x), (3, .int (nI s))]) (st' := []) (w' := m) rfl rfl rfl ?_
      iterate 3 refine am_g0 rfl rfl ?_
      -- behind the test whether it walks
      have mid1 : am_R shC mi_X9_follow (am_D shC (d - 1)) (fun o => o.1 = none ∧ am_f3 52 T R w o.2 ∧ trOK o.2 T R V P (wetB x)) 29 [(0, .ref T), (1, .ref 52), (2, .int x), (3, .int (nI s))] [.int (if (lifeQ V P (wetB x) s).2.1 = 0 then 1 else 0)] m := by
        refine am_go rfl ?_
        iterate 5 refine am_g0 rfl rfl ?_
        refine ⟨(some (.int (if wetB x s then 1 else 0)), m), (by
          have h9 := d_isBitOf shC (d := d - 1) (by omega) x (nI s) m
          have e9 : (if (x >>> (nI s &&& 31)) &&& 1 = 0 then (0 : Int32) else 1) = (if wetB x s then 1 else 0) := by
            unfold wetB
            by_cases z : (x >>> (nI s &&& 31)) &&& 1 = 0
            · simp [z]
            · simp [z]
          rw [e9] at h9
          exact h9), ?_⟩
        refine am_g0 rfl rfl ?_
        obtain ⟨⟨r2, w2⟩, ⟨e2, f2, g3, g4⟩, hD2⟩ := d_go_52 (d := d - 1) (r := wetB x s) (by omega) (hV.fr hlow) hp hPb hq hqo (by omega)
        dsimp only at e2 f2 g3 g4
        subst e2
        refine ⟨(none, w2), hD2, ?_⟩
        have hst : w2.1 52 8 = nI (lifeQ V P (wetB x) (s + 1)).2.1 := g4.2.1
        have hq4 : (lifeQ V P (wetB x) (s + 1)).2.1 < 4 := (qok_life (wetB x) hg hPb (s + 1)).1
        -- the rows
        have rows : ∀ m1 : am_M, (∀ a, a ≠ T → m1.1 a = w2.1 a) → m1.2 = w2.2 → m1.1 T 2 = opI (endS V P (wetB x) (s + 1)) → am_R shC mi_X9_follow (am_D shC (d - 1)) (fun o => o.1 = none ∧ am_f3 52 T R w o.2 ∧ trOK o.2 T R V P (wetB x)) 58 [(0, .ref T), (1, .ref 52), (2, .int x), (3, .int (nI s))] [] m1 := by
          intro m1 hm1 hm2 hm3
          refine am_go rfl ?_
          refine am_g0 rfl rfl ?_
          refine am_ys hT (am_oi hR ?_)
          iterate 5 refine am_g0 rfl rfl ?_
          refine am_gsE (k := s) rfl hL (show (0 : Int32) + nI s = nI s from Int32.zero_add _) (by omega) (by decide) ?_
          refine am_to (lv' := [(0, .ref T), (1, .ref 52), (2, .int x), (3, .int (nI s))]) (st' := []) (w' := am_pi m1 R s (m1.1 52 7)) rfl rfl rfl ?_
          iterate 2 refine am_g0 rfl rfl ?_
          refine am_ys hT (am_oi hR ?_)
          iterate 5 refine am_g0 rfl rfl ?_
          refine am_gsE (k := 30 + s) rfl hL (nI_add 30 s) (by omega) (by decide) ?_
          refine am_to (lv' := [(0, .ref T), (1, .ref 52), (2, .int x), (3, .int (nI s))]) (st' := []) (w' := am_pi (am_pi m1 R s (m1.1 52 7)) R (30 + s) ((am_pi m1 R s (m1.1 52 7)).1 52 8)) rfl rfl rfl ?_
          generalize hm4 : am_pi (am_pi m1 R s (m1.1 52 7)) R (30 + s) ((am_pi m1 R s (m1.1 52 7)).1 52 8) = m4
          iterate 2 refine am_g0 rfl rfl ?_
          refine am_ys hT (am_oi hR ?_)
          iterate 5 refine am_g0 rfl rfl ?_
          refine am_gsE (k := 60 + s) rfl hL (nI_add 60 s) (by omega) (by decide) ?_
          refine am_to (lv' := [(0, .ref T), (1, .ref 52), (2, .int x), (3, .int (nI s))]) (st' := []) (w' := am_pi m4 R (60 + s) (m4.1 52 9)) rfl rfl rfl ?_
          iterate 2 refine am_g0 rfl rfl ?_
          refine am_ys hT (am_oi hR ?_)
          iterate 5 refine am_g0 rfl rfl ?_
          refine am_gsE (k := 90 + s) rfl hL (nI_add 90 s) (by omega) (by decide) ?_
          refine am_to (lv' := [(0, .ref T), (1, .ref 52), (2, .int x), (3, .int (nI s))]) (st' := []) (w' := am_pi (am_pi m4 R (60 + s) (m4.1 52 9)) R (90 + s) ((am_pi m4 R (60 + s) (m4.1 52 9)).1 52 12)) rfl rfl rfl ?_
          iterate 2 refine am_g0 rfl rfl ?_
          have h52 : ∀ (m : am_M) (k : Nat) (y : Int32), (am_pi m R k y).1 52 = m.1 52 := fun m k y => am_pi_row (Ne.symm hR2)
          have m452 : m4.1 52 = m1.1 52 := by rw [← hm4, h52, h52]
          have m152 : m1.1 52 = w2.1 52 := hm1 52 (Ne.symm hT2)
          have := ih (s + 1) (by omega) (am_pi (am_pi m4 R (60 + s) (m4.1 52 9)) R (90 + s) ((am_pi m4 R (60 + s) (m4.1 52 9)).1 52 12)) ?_ ?_ ?_ ?_ ?_
          · rw [← nI_1] at this
            exact this
          · refine ⟨fun k h1 h2 h3 => ?_, ?_⟩
            · rw [am_pi_row h3, am_pi_row h3, ← hm4, am_pi_row h3, am_pi_row h3, hm1 k h2, f2.1 k h1]
              exact hf.1 k h1 h2 h3
            · show m4.2 = w.2
              rw [← hm4]
              exact hm2.trans (f2.2.trans hf.2)
          · rw [h52, h52, m452, m152]; exact g3
          · exact ⟨_, by rw [h52, h52, m452, m152]; exact g4⟩
          · have hx7 : m1.1 52 7 = plc (lifeQ V P (wetB x) (s + 1)) := by rw [m152]; exact g4.1
            have hx8 : (am_pi m1 R s (m1.1 52 7)).1 52 8 = nI (lifeQ V P (wetB x) (s + 1)).2.1 := by rw [h52, m152]; exact hst
            have hx9 : m4.1 52 9 = nI (lifeQ V P (wetB x) (s + 1)).2.2.1 := by rw [m452, m152]; exact g4.2.2.1
            have hx12 : (am_pi m4 R (60 + s) (m4.1 52 9)).1 52 12 = wbI (lifeB V P (wetB x) s) := by rw [h52, m452, m152]; exact g4.2.2.2.2.2
            rw [hx12, hx9, ← hm4, hx8, hx7]
            intro i hi
            have base : ∀ k, m1.1 R k = m.1 R k := fun k => by rw [hm1 R (Ne.symm hTR), f2.1 R hR2]
            by_cases his : i = s
            · subst his
              refine ⟨?_, ?_, ?_, ?_⟩
              · rw [am_pi_ne (Or.inr (by omega)), am_pi_ne (Or.inr (by omega)), am_pi_ne (Or.inr (by omega)), am_pi_at]
              · rw [am_pi_ne (Or.inr (by omega)), am_pi_ne (Or.inr (by omega)), am_pi_at]
              · rw [am_pi_ne (Or.inr (by omega)), am_pi_at]
              · rw [am_pi_at]
            · obtain ⟨r1, r2, r3, r4⟩ := hr i (by omega)
              refine ⟨?_, ?_, ?_, ?_⟩
              · rw [am_pi_ne (Or.inr (by omega)), am_pi_ne (Or.inr (by omega)), am_pi_ne (Or.inr (by omega)), am_pi_ne (Or.inr (by omega)), base]; exact r1
              · rw [am_pi_ne (Or.inr (by omega)), am_pi_ne (Or.inr (by omega)), am_pi_ne (Or.inr (by omega)), am_pi_ne (Or.inr (by omega)), base]; exact r2
              · rw [am_pi_ne (Or.inr (by omega)), am_pi_ne (Or.inr (by omega)), am_pi_ne (Or.inr (by omega)), am_pi_ne (Or.inr (by omega)), base]; exact r3
              · rw [am_pi_ne (Or.inr (by omega)), am_pi_ne (Or.inr (by omega)), am_pi_ne (Or.inr (by omega)), am_pi_ne (Or.inr (by omega)), base]; exact r4
          · rw [am_pi_ne (Or.inl hTR), am_pi_ne (Or.inl hTR), ← hm4, am_pi_ne (Or.inl hTR), am_pi_ne (Or.inl hTR)]
            exact hm3
        refine am_to (lv' := [(0, .ref T), (1, .ref 52), (2, .int x), (3, .int (nI s)), (4, .int (if (lifeQ V P (wetB x) s).2.1 = 0 then 1 else 0))]) (st' := []) (w' := w2) rfl rfl rfl ?_
        have hT2w : w2.1 T 2 = m.1 T 2 := by rw [f2.1 T hT2]
        by_cases hz : (lifeQ V P (wetB x) s).2.1 = 0
        · rw [if_pos hz]
          iterate 5 refine am_g0 rfl rfl ?_
          by_cases hz2 : (lifeQ V P (wetB x) (s + 1)).2.1 = 0
          · refine am_tt (show w2.1 52 8 = 0 by rw [hst, hz2]; rfl) ?_
            refine am_kl (rows w2 (fun _ _ => rfl) rfl ?_) rfl
            rw [hT2w, he, endS, if_neg (fun z => z.2 hz2)]
          · refine am_ff (show ¬ w2.1 52 8 = 0 by rw [hst]; exact nI_ne0 (by omega) (by omega)) ?_
            iterate 3 refine am_g0 rfl rfl ?_
            refine am_ys (show (am_isb shC T 9 && true) = true by rw [hT]; rfl) ?_
            refine am_kl (rows (am_pi w2 T 2 (nI s)) (fun a ha => am_pi_row ha) rfl ?_) rfl
            rw [am_pi_at, endS, if_pos ⟨hz, hz2⟩]
            rfl
        · rw [if_neg hz]
          iterate 2 refine am_g0 rfl rfl ?_
          refine am_kl (rows w2 (fun _ _ => rfl) rfl ?_) rfl
          rw [hT2w, he, endS, if_neg (fun z => hz z.1)]
      have hs8 : m.1 52 8 = nI (lifeQ V P (wetB x) s).2.1 := hq.2.1
      by_cases hz : (lifeQ V P (wetB x) s).2.1 = 0
      · rw [if_pos hz] at mid1
        refine am_tt (show m.1 52 8 = 0 by rw [hs8, hz]; rfl) ?_
        iterate 2 refine am_g0 rfl rfl ?_
        exact mid1
      · rw [if_neg hz] at mid1
        refine am_ff (show ¬ m.1 52 8 = 0 by rw [hs8]; exact nI_ne0 (by omega) (by have := hqo.1; omega)) ?_
        refine am_go rfl ?_
        exact mid1
  refine am_kl (key 30 0 (by omega) (am_pi w1 T 2 (-1)) ⟨fun k h1 h2 h3 => (am_pi_row h2).trans (f1.1 k h1), f1.2⟩ ?_ ?_ (fun s hs => absurd hs (Nat.not_lt_zero s)) (am_pi_at _ _ _ _)) rfl
  · rw [am_pi_row (Ne.symm hT2)]; exact g1
  · exact ⟨none, by rw [am_pi_row (Ne.symm hT2)]; exact g2⟩
end
section
/-! the class walks: a whole walk, all traces, what a trace tells -/
theorem d_ttold {d T R s j : Nat} {V : Wd} {P : Pr} {wet : Nat → Bool} {w : am_M} (hd : 1 ≤ d) (hT : am_isb shC T 9 = true) (hR : am_tg shC T 0 = some R) (hL : am_ln shC R = some 120) (hs : s < 30) (hj : j < 4) : am_D shC d mi_X9_told [.ref T, .int (nI s), .int (nI j)] w (some (.int (w.1 R (j * 30 + s))), w) := by
  refine am_def hd rfl rfl ?_
  iterate 2 refine am_g0 rfl rfl ?_
  refine am_ys hT (am_oi hR ?_)
  iterate 5 refine am_g0 rfl rfl ?_
  refine am_top (y := nI (j * 30 + s)) (by rw [show (30 : Int32) = nI 30 from rfl, pk_mul, nI_add]) ?_
  refine am_glN rfl hL (by omega) (by decide) ?_
  refine am_g0 rfl rfl ?_
  exact ⟨rfl, rfl⟩
/-- the traces' cells -/
theorem sh_Tr (p : Nat) (hp : p < 8) : am_isb shC (34 + p) 9 = true ∧ am_tg shC (34 + p) 0 = some (42 + p) ∧ am_ln shC (42 + p) = some 120 ∧ ([34, 35, 36, 37, 38, 39, 40, 41] : List Nat)[p]? = some (34 + p) := by
  match p, hp with
  | 0, _ => exact ⟨rfl, rfl, rfl, rfl⟩
  | 1, _ => exact ⟨rfl, rfl, rfl, rfl⟩
  | 2, _ => exact ⟨rfl, rfl, rfl, rfl⟩
  | 3, _ => exact ⟨rfl, rfl, rfl, rfl⟩
  | 4, _ => exact ⟨rfl, rfl, rfl, rfl⟩
  | 5, _ => exact ⟨rfl, rfl, rfl, rfl⟩
  | 6, _ => exact ⟨rfl, rfl, rfl, rfl⟩
  | 7, _ => exact ⟨rfl, rfl, rfl, rfl⟩
/-- how often a last is gone by in the first n steps -/
def timesS (f : Nat → Int32) (l : Int32) : Nat → Nat
  | 0 => 0
  | n + 1 => if f n = l then timesS f l n + 1 else timesS f l n
theorem timesS_le (f : Nat → Int32) (l : Int32) : ∀ n, timesS f l n ≤ n
  | 0 => Nat.le_refl _
  | n + 1 => by unfold timesS; have := timesS_le f l n; split <;> omega
theorem d_timesBy {d T R : Nat} {l : Int32} {w : am_M} (hd : 2 ≤ d) (hT : am_isb shC T 9 = true) (hR : am_tg shC T 0 = some R) (hL : am_ln shC R = some 120) : am_D shC d mi_X9_timesBy [.ref T, .int l] w (some (.int (nI (timesS (fun s => w.1 R (90 + s)) l 30))), w) := by
  refine am_def (by omega) rfl rfl ?_
  iterate 4 refine am_g0 rfl rfl ?_
  have key : ∀ j s : Nat, s + j = 30 → am_R shC mi_X9_timesBy (am_D shC (d - 1)) (fun r => r = (some (.int (nI (timesS (fun s => w.1 R (90 + s)) l 30))), w)) 4 [(0, .ref T), (1, .int l), (2, .int (nI (timesS (fun s => w.1 R (90 + s)) l s))), (3, .int (nI s))] [] w := by
    intro j
    induction j with
    | zero =>
      intro s hs
      have e : s = 30 := by omega
      refine am_go rfl ?_
      iterate 2 refine am_g0 rfl rfl ?_
      refine am_tt (show nI 30 ≤ nI s from nI_le (by omega) (by omega)) ?_
      refine am_go rfl ?_
      refine am_g0 rfl rfl ?_
      exact ⟨rfl, by rw [e]⟩
    | succ j ih =>
      intro s hs
      refine am_go rfl ?_
      iterate 2 refine am_g0 rfl rfl ?_
      refine am_ff (show ¬ nI 30 ≤ nI s from nI_ge (by omega) (by omega)) ?_
      iterate 4 refine am_g0 rfl rfl ?_
      refine am_ys (show (true && (true && am_isb shC T 9)) = true by rw [hT]; rfl) ?_
      refine ⟨(some (.int (w.1 R (90 + s))), w), (by
        have := d_ttold (d := d - 1) (V := (0, fun _ => 0, fun _ _ => 0, 0, fun _ => 0, fun _ => 0, fun _ _ => 0)) (P := (0, 0, 0, 0, 0)) (wet := fun _ => false) (w := w) (s := s) (j := 3) (by omega) hT hR hL (by omega) (by omega)
        exact this), ?_⟩
      refine am_to (lv' := [(0, .ref T), (1, .int l), (2, .int (nI (timesS (fun s => w.1 R (90 + s)) l s))), (3, .int (nI s))]) (st' := [.int (w.1 R (90 + s))]) (w' := w) rfl rfl rfl ?_
      iterate 2 refine am_g0 rfl rfl ?_
      have := ih (s + 1) (by omega)
      by_cases h : w.1 R (90 + s) = l
      · refine am_tt h ?_
        refine am_g0 rfl rfl ?_
        refine am_go rfl ?_
        refine am_g0 rfl rfl ?_
        have e9 : timesS (fun s => w.1 R (90 + s)) l (s + 1) = timesS (fun s => w.1 R (90 + s)) l s + 1 := by rw [timesS, if_pos h]
        rw [e9, ← nI_1, ← nI_1] at this
        exact this
      · refine am_ff h ?_
        refine am_go rfl ?_
        refine am_g0 rfl rfl ?_
        have e9 : timesS (fun s => w.1 R (90 + s)) l (s + 1) = timesS (fun s => w.1 R (90 + s)) l s := by rw [timesS, if_neg h]
        rw [e9, ← nI_1] at this
        exact this
  exact key 30 0 (by omega)
/-- the people as walkers see them -/
def prS (pf : Nat → Nat → Nat) (p : Nat) : Pr := (pf p 0, pf p 1, pf p 2, pf p 3, pf p 4)
theorem cPeople.ok {w : am_M} {q : Nat} {pf : Nat → Nat → Nat} (h : cPeople w q pf) {p : Nat} (hp : p < q) : Pok (prS pf p) := (h.2.2 p hp).2
def isWr (a : Nat) : Prop := a = 52 ∨ (34 ≤ a ∧ a < 50)
-- all the lives are traced
set_option maxHeartbeats 4000000 in
theorem d_retrace_t {d n q : Nat} {V : Wd} {pf : Nat → Nat → Nat} {w : am_M} (hd : 4 ≤ d) (hst : w.1 0 17 ≠ 0) (hV : cV w V) (hP : cPeople w q pf) (hn : w.1 18 1 = nI n) (hn8 : n ≤ 8) : ∃ o : am_O, (o.1 = none ∧ (∀ a, ¬ isWr a → ∀ b, ¬ (a = 0 ∧ b = 17) → o.2.1 a b = w.1 a b) ∧ o.2.1 0 17 = 0 ∧ o.2.2 = w.2 ∧ ∀ p, p < q → trOK o.2 (34 + p) (42 + p) V (prS pf p) (wetB (wetF (w.1 19) (-1) (-1) n))) ∧ am_D shC d mi_X11_retrace [.ref 0] w o := by
  refine am_dex (by omega) rfl rfl ?_
  iterate 3 refine am_g0 rfl rfl ?_
  refine am_ff hst ?_
  refine am_go rfl ?_
  iterate 4 refine am_g0 rfl rfl ?_
  refine ⟨(some (.int (wetF (w.1 19) (-1) (-1) n)), w), d_wetSteps (by omega) hn8 hn, ?_⟩
  generalize wetF (w.1 19) (-1) (-1) n = x
  refine am_to (lv' := [(0, .ref 0)]) (st' := [.int x]) (w' := w) rfl rfl rfl ?_
  iterate 3 refine am_g0 rfl rfl ?_
  have key : ∀ j p : Nat, p + j = q → ∀ m : am_M, (∀ a, ¬ isWr a → m.1 a = w.1 a) → m.2 = w.2 → (∀ k, k < p → trOK m (34 + k) (42 + k) V (prS pf k) (wetB x)) → am_R shC mi_X11_retrace (am_D shC (d - 1)) (fun o => o.1 = none ∧ (∀ a, ¬ isWr a → ∀ b, ¬ (a = 0 ∧ b = 17) → o.2.1 a b = w.1 a b) ∧ o.2.1 0 17 = 0 ∧ o.2.2 = w.2 ∧ ∀ p, p < q → trOK o.2 (34 + p) (42 + p) V (prS pf p) (wetB x)) 20 [(0, .ref 0), (1, .int x), (2, .int (nI p))] [] m := by
    intro j
    have hq8 : q ≤ 8 := hP.2.1
    induction j with
    | zero =>
      intro p hp m hm hm2 hk
      have e : p = q := by omega
      have hsz : m.1 16 1 = nI q := by rw [hm 16 (by unfold isWr; omega)]; exact hP.1
      refine am_go rfl ?_
      iterate 4 refine am_g0 rfl rfl ?_
      refine am_tt (show m.1 16 1 ≤ nI p by rw [hsz]; exact nI_le (by omega) (by omega)) ?_
      refine am_go rfl ?_
      iterate 2 refine am_g0 rfl rfl ?_
      refine ⟨Or.inl rfl, ?_⟩
      refine am_g0 rfl rfl ?_
      refine ⟨rfl, rfl, fun a ha b hb => ?_, am_pi_at _ _ _ _, hm2, fun k hk2 => ?_⟩
      · show (am_pi m 0 17 0).1 a b = _
        rw [am_pi_ne (by omega), hm a ha]
      · exact (hk k (by omega)).fr (am_pi_row (by omega)) (am_pi_row (by omega))
    | succ j ih =>
      intro p hp m hm hm2 hk
      have hsz : m.1 16 1 = nI q := by rw [hm 16 (by unfold isWr; omega)]; exact hP.1
      have hlow : ∀ a, a < 18 → m.1 a = w.1 a := fun a ha => hm a (by unfold isWr; omega)
      obtain ⟨t1, t2, t3, t4⟩ := sh_Tr p (by omega)
      refine am_go rfl ?_
      iterate 4 refine am_g0 rfl rfl ?_
      refine am_ff (show ¬ m.1 16 1 ≤ nI p by rw [hsz]; exact nI_ge (by omega) (by omega)) ?_
      iterate 6 refine am_g0 rfl rfl ?_
      obtain ⟨⟨r1, w1⟩, ⟨e1, f1, g1⟩, hD⟩ := d_wear_52 (d := d - 1) (by omega) (hP.fr hlow) (show p < q by omega)
      dsimp only at e1 f1 g1
      subst e1
      refine ⟨(none, w1), hD, ?_⟩
      refine am_to (lv' := [(0, .ref 0), (1, .int x), (2, .int (nI p))]) (st' := []) (w' := w1) rfl rfl rfl ?_
      iterate 4 refine am_g0 rfl rfl ?_
      refine am_ff (show ¬ nI p < 0 from nI_pos (by omega)) (am_oi (a := 34 + p) (by rw [nI_clamp (by omega)]; exact t4) ?_)
      iterate 4 refine am_g0 rfl rfl ?_
      refine am_ys (show (true && (true && am_isb shC (34 + p) 9)) = true by rw [t1]; rfl) ?_
      have hV1 : cV w1 V := hV.fr (fun a ha => by rw [f1.1 a (by omega)]; exact hlow a (by omega))
      obtain ⟨⟨r2, w2⟩, ⟨e2, f2, g2⟩, hD2⟩ := d_follow (d := d - 1) (T := 34 + p) (R := 42 + p) (x := x) (by omega) t1 t2 t3 (by omega) (by omega) (by omega) (by omega) (by omega) hV1 g1 (hP.ok (show p < q by omega))
      dsimp only at e2 f2 g2
      subst e2
      refine ⟨(none, w2), hD2, ?_⟩
      refine am_to (lv' := [(0, .ref 0), (1, .int x), (2, .int (nI p))]) (st' := []) (w' := w2) rfl rfl rfl ?_
      iterate 2 refine am_g0 rfl rfl ?_
      have := ih (p + 1) (by omega) w2 (fun a ha => ?_) ?_ (fun k hk2 => ?_)
      · rw [← nI_1] at this
        exact this
      · rw [f2.1 a (by unfold isWr at ha; omega) (by unfold isWr at ha; omega) (by unfold isWr at ha; omega), f1.1 a (by unfold isWr at ha; omega)]
        exact hm a ha
      · exact f2.2.trans (f1.2.trans hm2)
      · by_cases hkp : k = p
        · subst hkp; exact g2
        · exact (hk k (by omega)).fr (by rw [f2.1 _ (by omega) (by omega) (by omega), f1.1 _ (by omega)]) (by rw [f2.1 _ (by omega) (by omega) (by omega), f1.1 _ (by omega)])
  exact am_kl (key q 0 (by omega) w (fun _ _ => rfl) rfl (fun k hk => absurd hk (Nat.not_lt_zero k))) rfl
theorem d_retrace_f {d : Nat} {w : am_M} (hd : 1 ≤ d) (hst : w.1 0 17 = 0) : am_D shC d mi_X11_retrace [.ref 0] w (none, w) := by
  refine am_def hd rfl rfl ?_
  iterate 3 refine am_g0 rfl rfl ?_
  refine am_tt hst ?_
  refine am_g0 rfl rfl ?_
  exact ⟨rfl, rfl⟩
end
section
/-! a walk till its end; things seen -/
/-- how many steps one walks of the first k -/
def stopAt (V : Wd) (P : Pr) (wet : Nat → Bool) : Nat → Nat
  | 0 => 0
  | k + 1 => if (lifeQ V P wet (stopAt V P wet k)).2.1 = 0 then stopAt V P wet k + 1 else stopAt V P wet k
theorem stopAt_stay {V : Wd} {P : Pr} {wet : Nat → Bool} {s : Nat} (h : stopAt V P wet s = s) (hz : (lifeQ V P wet s).2.1 ≠ 0) : ∀ k, stopAt V P wet (s + k) = s
  | 0 => h
  | k + 1 => by
    rw [show s + (k + 1) = (s + k) + 1 by omega, stopAt, stopAt_stay h hz k, if_neg hz]
/-- behind its end one stays as one is -/
theorem life_stay {V : Wd} {P : Pr} {wet : Nat → Bool} {s : Nat} (hz : (lifeQ V P wet s).2.1 ≠ 0) : ∀ k, lifeQ V P wet (s + k) = lifeQ V P wet s
  | 0 => rfl
  | k + 1 => by
    rw [show s + (k + 1) = (s + k) + 1 by omega, lifeQ, life_stay hz k]
    unfold goS
    rw [if_pos hz]
theorem life_stop (V : Wd) (P : Pr) (wet : Nat → Bool) : ∀ k, lifeQ V P wet (stopAt V P wet k) = lifeQ V P wet k ∧ stopAt V P wet k ≤ k ∧ (stopAt V P wet k ≠ k → (lifeQ V P wet (stopAt V P wet k)).2.1 ≠ 0)
  | 0 => ⟨rfl, Nat.le_refl _, fun h => absurd rfl h⟩
  | k + 1 => by
    obtain ⟨h1, h2, h3⟩ := life_stop V P wet k
    rw [stopAt]
    by_cases hz : (lifeQ V P wet (stopAt V P wet k)).2.1 = 0
    · have e : stopAt V P wet k = k := Decidable.byContradiction fun z => h3 z hz
      rw [if_pos hz, e]
      exact ⟨rfl, Nat.le_refl _, fun z => absurd rfl z⟩
    · rw [if_neg hz]
      refine ⟨?_, by omega, fun _ => hz⟩
      rw [h1]
      rw [h1] at hz
      exact (life_stay hz 1).symm
set_option maxHeartbeats 4000000 in
theorem d_walk {d e : Nat} {V : Wd} {P : Pr} {x : Int32} {w : am_M} (hd : 3 ≤ d) (hV : cV w V) (hP : wkP (w.1 52) P) (hPb : Pok P) (he : e ≤ 30) : ∃ o : am_O, (o.1 = some (.int (nI (stopAt V P (wetB x) e) - 1)) ∧ am_fr 52 w o.2 ∧ wkP (o.2.1 52) P ∧ ∃ b, wkQ (o.2.1 52) (lifeQ V P (wetB x) (stopAt V P (wetB x) e)) b) ∧ am_D shC d mi_X10_walk [.ref 52, .int x, .int (nI e)] w o := by
  have hg := hV.good
  refine am_dex (by omega) rfl rfl ?_
  iterate 2 refine am_g0 rfl rfl ?_
  obtain ⟨⟨r1, w1⟩, ⟨e1, f1, g1, g2⟩, hD⟩ := d_begin_52 (d := d - 1) (by omega) hV hP hPb.1
  dsimp only at e1 f1 g1 g2
  subst e1
  refine ⟨(none, w1), hD, ?_⟩
  refine am_to (lv' := [(0, .ref 52), (1, .int x), (2, .int (nI e))]) (st' := []) (w' := w1) rfl rfl rfl ?_
  iterate 2 refine am_g0 rfl rfl ?_
  have key : ∀ j s : Nat, s + j = e → ∀ m : am_M, am_fr 52 w m → wkP (m.1 52) P → (∃ bo, wkQ (m.1 52) (lifeQ V P (wetB x) s) bo) → stopAt V P (wetB x) s = s → am_R shC mi_X10_walk (am_D shC (d - 1)) (fun o => o.1 = some (.int (nI (stopAt V P (wetB x) e) - 1)) ∧ am_fr 52 w o.2 ∧ wkP (o.2.1 52) P ∧ ∃ b, wkQ (o.2.1 52) (lifeQ V P (wetB x) (stopAt V P (wetB x) e)) b) 6 [(0, .ref 52), (1, .int x), (2, .int (nI e)), (3, .int (nI s))] [] m := by
    intro j
    induction j with
    | zero =>
      intro s hs m hf hp hq hst
      have e9 : s = e := by omega
      refine am_go rfl ?_
      iterate 2 refine am_g0 rfl rfl ?_
      refine am_tt (show nI e ≤ nI s from nI_le (by omega) (by omega)) ?_
      refine am_go rfl ?_
      iterate 3 refine am_g0 rfl rfl ?_
      subst e9
      rw [hst]
      exact ⟨rfl, rfl, hf, hp, hq⟩
    | succ j ih =>
      intro s hs m hf hp hq hst
      obtain ⟨bo, hq⟩ := hq
      have hlow : ∀ a, a < 16 → m.1 a = w.1 a := fun a ha => hf.1 a (by omega)
      have hqo := qok_life (V := V) (P := P) (wetB x) hg hPb s
      have hs8 : m.1 52 8 = nI (lifeQ V P (wetB x) s).2.1 := hq.2.1
      refine am_go rfl ?_
      iterate 2 refine am_g0 rfl rfl ?_
      refine am_ff (show ¬ nI e ≤ nI s from nI_ge (by omega) (by omega)) ?_
      refine am_to (lv' := [(0, .ref 52), (1, .int x), (2, .int (nI e)), (3, .int (nI s))]) (st' := []) (w' := m) rfl rfl rfl ?_
      iterate 3 refine am_g0 rfl rfl ?_
      by_cases hz : (lifeQ V P (wetB x) s).2.1 = 0
      · refine am_tt (show m.1 52 8 = 0 by rw [hs8, hz]; rfl) ?_
        iterate 5 refine am_g0 rfl rfl ?_
        refine ⟨(some (.int (if wetB x s then 1 else 0)), m), (by
          have h9 := d_isBitOf shC (d := d - 1) (by omega) x (nI s) m
          have e9 : (if (x >>> (nI s &&& 31)) &&& 1 = 0 then (0 : Int32) else 1) = (if wetB x s then 1 else 0) := by
            unfold wetB
            by_cases z : (x >>> (nI s &&& 31)) &&& 1 = 0
            · simp [z]
            · simp [z]
          rw [e9] at h9
          exact h9), ?_⟩
        refine am_g0 rfl rfl ?_
        obtain ⟨⟨r2, w2⟩, ⟨e2, f2, g3, g4⟩, hD2⟩ := d_go_52 (d := d - 1) (r := wetB x s) (by omega) (hV.fr hlow) hp hPb hq hqo (by omega)
        dsimp only at e2 f2 g3 g4
        subst e2
        refine ⟨(none, w2), hD2, ?_⟩
        refine am_to (lv' := [(0, .ref 52), (1, .int x), (2, .int (nI e)), (3, .int (nI s))]) (st' := []) (w' := w2) rfl rfl rfl ?_
        iterate 2 refine am_g0 rfl rfl ?_
        have := ih (s + 1) (by omega) w2 (hf.tr f2) g3 ⟨_, g4⟩ (by rw [stopAt, hst, if_pos hz])
        rw [← nI_1] at this
        exact this
      · refine am_ff (show ¬ m.1 52 8 = 0 by rw [hs8]; exact nI_ne0 (by omega) (by have := hqo.1; omega)) ?_
        refine am_go rfl ?_
        iterate 3 refine am_g0 rfl rfl ?_
        have e9 : stopAt V P (wetB x) e = s := by
          rw [← hs]
          exact stopAt_stay hst hz (j + 1)
        rw [e9]
        exact ⟨rfl, rfl, hf, hp, bo, hq⟩
  exact am_kl (key e 0 (by omega) w1 f1 g1 ⟨none, g2⟩ rfl) rfl
/-! things seen -/
def cSeen (w : am_M) (n : Nat) (st pe ce : Nat → Nat) : Prop := w.1 20 3 = nI n ∧ n ≤ 8 ∧ ∀ i, i < n → w.1 21 i = nI (st i) ∧ st i < 30 ∧ w.1 22 i = nI (pe i) ∧ pe i < 8 ∧ w.1 23 i = nI (ce i) ∧ ce i < 36
theorem cSeen.fr {w w' : am_M} {n : Nat} {st pe ce : Nat → Nat} (h : cSeen w n st pe ce) (e : ∀ a, 20 ≤ a → a < 24 → w'.1 a = w.1 a) : cSeen w' n st pe ce := by
  obtain ⟨h1, h2, h3⟩ := h
  exact ⟨by rw [e 20 (by omega) (by omega)]; exact h1, h2, fun i hi => by rw [e 21 (by omega) (by omega), e 22 (by omega) (by omega), e 23 (by omega) (by omega)]; exact h3 i hi⟩
def allB (f : Nat → Bool) : Nat → Bool
  | 0 => true
  | n + 1 => allB f n && f n
theorem allB_t {f : Nat → Bool} : ∀ {n : Nat}, allB f n = true ↔ ∀ i, i < n → f i = true
  | 0 => ⟨fun _ i hi => absurd hi (Nat.not_lt_zero i), fun _ => rfl⟩
  | n + 1 => by
    simp only [allB, Bool.and_eq_true, allB_t (n := n)]
    exact ⟨fun ⟨h1, h2⟩ i hi => (Nat.lt_or_ge i n).elim (h1 i) (fun z => by rw [show i = n by omega]; exact h2), fun h => ⟨fun i hi => h i (by omega), h n (by omega)⟩⟩
theorem allB_f {f : Nat → Bool} {n i : Nat} (hi : i < n) (h : f i = false) : allB f n = false := by
  cases hz : allB f n with
  | false => rfl
  | true => rw [allB_t.mp hz i hi] at h; cases h
def b01 (b : Bool) : Int32 := if b then 1 else 0
theorem d_haveNobody {d n q : Nat} {st pe ce : Nat → Nat} {w : am_M} (hd : 1 ≤ d) (hS : cSeen w n st pe ce) (hq : q ≤ 8) : am_D shC d mi_X5_haveNobody [.ref 20, .int (nI q)] w (some (.int (b01 (!allB (fun i => decide (pe i < q)) n))), w) := by
  obtain ⟨h1, h2, h3⟩ := hS
  refine am_def (by omega) rfl rfl ?_
  iterate 2 refine am_g0 rfl rfl ?_
  have key : ∀ j s : Nat, s + j = n → (∀ i, i < s → pe i < q) → am_R shC mi_X5_haveNobody (am_D shC (d - 1)) (fun r => r = (some (.int (b01 (!allB (fun i => decide (pe i < q)) n))), w)) 2 [(0, .ref 20), (1, .int (nI q)), (2, .int (nI s))] [] w := by
    intro j
    induction j with
    | zero =>
      intro s hs hall
      refine am_go rfl ?_
      iterate 3 refine am_g0 rfl rfl ?_
      refine am_tt (show w.1 20 3 ≤ nI s by rw [h1]; exact nI_le (by omega) (by omega)) ?_
      refine am_go rfl ?_
      refine am_g0 rfl rfl ?_
      refine ⟨rfl, ?_⟩
      rw [allB_t.mpr (fun i hi => decide_eq_true (hall i (by omega)))]
      rfl
    | succ j ih =>
      intro s hs hall
      obtain ⟨s1, s2, s3, s4, s5, s6⟩ := h3 s (by omega)
      refine am_go rfl ?_
      iterate 3 refine am_g0 rfl rfl ?_
      refine am_ff (show ¬ w.1 20 3 ≤ nI s by rw [h1]; exact nI_ge (by omega) (by omega)) ?_
      iterate 3 refine am_g0 rfl rfl ?_
      refine am_glN (n := 8) rfl rfl (by omega) (by decide) ?_
      rw [s3]
      iterate 2 refine am_g0 rfl rfl ?_
      by_cases h : pe s < q
      · refine am_tt (nI_lt h (by omega)) ?_
        refine am_go rfl ?_
        refine am_g0 rfl rfl ?_
        have := ih (s + 1) (by omega) (fun i hi => (Nat.lt_or_ge i s).elim (hall i) (fun z => by rw [show i = s by omega]; exact h))
        rw [← nI_1] at this
        exact this
      · refine am_ff (nI_nlt (by omega) (by omega)) ?_
        iterate 2 refine am_g0 rfl rfl ?_
        refine ⟨rfl, ?_⟩
        rw [allB_f (i := s) (by omega) (decide_eq_false h)]
        rfl
  exact key n 0 (by omega) (fun i hi => absurd hi (Nat.not_lt_zero i))
/-- all that was seen of person p comes out so in a row F -/
def holdS (n : Nat) (st pe ce : Nat → Nat) (p : Nat) (F : Nat → Int32) : Bool := allB (fun i => decide (pe i = p → F (st i) = nI (ce i))) n
theorem d_holdFor {d n T R p : Nat} {st pe ce : Nat → Nat} {w : am_M} (hd : 2 ≤ d) (hS : cSeen w n st pe ce) (hp : p < 8) (hT : am_isb shC T 9 = true) (hR : am_tg shC T 0 = some R) (hL : am_ln shC R = some 120) : am_D shC d mi_X5_holdFor [.ref 20, .int (nI p), .ref T] w (some (.int (b01 (holdS n st pe ce p (w.1 R)))), w) := by
  obtain ⟨h1, h2, h3⟩ := hS
  refine am_def (by omega) rfl rfl ?_
  iterate 2 refine am_g0 rfl rfl ?_
  have key : ∀ j s : Nat, s + j = n → (∀ i, i < s → pe i = p → w.1 R (st i) = nI (ce i)) → am_R shC mi_X5_holdFor (am_D shC (d - 1)) (fun r => r = (some (.int (b01 (holdS n st pe ce p (w.1 R)))), w)) 2 [(0, .ref 20), (1, .int (nI p)), (2, .ref T), (3, .int (nI s))] [] w := by
    intro j
    induction j with
    | zero =>
      intro s hs hall
      refine am_go rfl ?_
      iterate 3 refine am_g0 rfl rfl ?_
      refine am_tt (show w.1 20 3 ≤ nI s by rw [h1]; exact nI_le (by omega) (by omega)) ?_
      refine am_go rfl ?_
      refine am_g0 rfl rfl ?_
      refine ⟨rfl, ?_⟩
      rw [holdS, allB_t.mpr (fun i hi => decide_eq_true (hall i (by omega)))]
      rfl
    | succ j ih =>
      intro s hs hall
      obtain ⟨s1, s2, s3, s4, s5, s6⟩ := h3 s (by omega)
      have next : (pe s = p → w.1 R (st s) = nI (ce s)) → am_R shC mi_X5_holdFor (am_D shC (d - 1)) (fun r => r = (some (.int (b01 (holdS n st pe ce p (w.1 R)))), w)) 42 [(0, .ref 20), (1, .int (nI p)), (2, .ref T), (3, .int (nI s))] [] w := by
        intro h
        refine am_go rfl ?_
        refine am_g0 rfl rfl ?_
        have := ih (s + 1) (by omega) (fun i hi => (Nat.lt_or_ge i s).elim (hall i) (fun z => by rw [show i = s by omega]; exact h))
        rw [← nI_1] at this
        exact this
      refine am_go rfl ?_
      iterate 3 refine am_g0 rfl rfl ?_
      refine am_ff (show ¬ w.1 20 3 ≤ nI s by rw [h1]; exact nI_ge (by omega) (by omega)) ?_
      iterate 3 refine am_g0 rfl rfl ?_
      refine am_glN (n := 8) rfl rfl (by omega) (by decide) ?_
      rw [s3]
      iterate 2 refine am_g0 rfl rfl ?_
      by_cases h : pe s = p
      · refine am_tt (show nI (pe s) = nI p by rw [h]) ?_
        iterate 4 refine am_g0 rfl rfl ?_
        refine am_glN (n := 8) rfl rfl (by omega) (by decide) ?_
        rw [s1]
        iterate 2 refine am_g0 rfl rfl ?_
        refine am_ys (show (true && (true && am_isb shC T 9)) = true by rw [hT]; rfl) ?_
        refine ⟨(some (.int (w.1 R (st s))), w), (by
          have := d_ttold (d := d - 1) (V := (0, fun _ => 0, fun _ _ => 0, 0, fun _ => 0, fun _ => 0, fun _ _ => 0)) (P := (0, 0, 0, 0, 0)) (wet := fun _ => false) (w := w) (s := st s) (j := 0) (by omega) hT hR hL s2 (by omega)
          rw [Nat.zero_mul, Nat.zero_add] at this
          exact this), ?_⟩
        refine am_to (lv' := [(0, .ref 20), (1, .int (nI p)), (2, .ref T), (3, .int (nI s))]) (st' := [.int (w.1 R (st s))]) (w' := w) rfl rfl rfl ?_
        iterate 3 refine am_g0 rfl rfl ?_
        refine am_glN (n := 8) rfl rfl (by omega) (by decide) ?_
        rw [s5]
        refine am_g0 rfl rfl ?_
        by_cases h4 : w.1 R (st s) = nI (ce s)
        · refine am_tt h4 ?_
          exact next (fun _ => h4)
        · refine am_ff h4 ?_
          iterate 2 refine am_g0 rfl rfl ?_
          refine ⟨rfl, ?_⟩
          rw [holdS, allB_f (i := s) (by omega) (decide_eq_false (fun z => h4 (z h)))]
          rfl
      · refine am_ff (show ¬ nI (pe s) = nI p from fun z => h ((nI_eq (by omega) (by omega)).mp z)) ?_
        exact next (fun z => absurd z h)
  exact key n 0 (by omega) (fun i hi => absurd hi (Nat.not_lt_zero i))
end
section
/-! indexOf of a String constant: the JDK's own code -/
/-- the first place from i on, of j places, where F is c; -1 -/
def idxU (F : Nat → Int32) (c : Int32) : Nat → Nat → Int32
  | _, 0 => -1
  | i, j + 1 => if F i = c then nI i else idxU F c (i + 1) j
section STRS
variable {sh : List am_S} {d S v0 : Nat} {l : List Int32} {w : am_M}
theorem d_canEncode {v : Nat} (hd : 1 ≤ d) (hv : v < 256) : am_D sh d mi_J1_canEncode_9a6ad [.int (nI v)] w (some (.int 1), w) := by
  refine am_def hd rfl rfl ?_
  iterate 2 refine am_g0 rfl rfl ?_
  refine am_ff (show ¬ nI v < 0 from nI_pos (by omega)) ?_
  iterate 3 refine am_g0 rfl rfl ?_
  refine am_ff (show ¬ nI 255 < nI v from nI_nlt (by omega) (by omega)) ?_
  iterate 2 refine am_g0 rfl rfl ?_
  refine am_go rfl ?_
  exact ⟨rfl, rfl⟩
theorem d_isLatin1 (hd : 1 ≤ d) (hS : am_sv S = some v0) : am_D sh d mi_J0_isLatin1_aae02 [.ref S] w (some (.int 1), w) := by
  refine am_def hd rfl rfl ?_
  iterate 4 refine am_g0 rfl rfl ?_
  refine am_oi hS ?_
  iterate 3 refine am_g0 rfl rfl ?_
  refine am_go rfl ?_
  exact ⟨rfl, rfl⟩
theorem d_coder (hd : 1 ≤ d) (hS : am_sv S = some v0) : am_D sh d mi_J0_coder_7d493 [.ref S] w (some (.int 0), w) := by
  refine am_def hd rfl rfl ?_
  iterate 4 refine am_g0 rfl rfl ?_
  refine am_oi hS ?_
  refine am_g0 rfl rfl ?_
  refine am_go rfl ?_
  exact ⟨rfl, rfl⟩
theorem d_isstr (hS : am_sv S = some v0) : am_isstr S = true := by
  obtain ⟨j, rfl, hj⟩ := am_sv_s hS
  unfold am_isstr
  rw [Nat.ble_eq_true_of_le (by omega), show 1000 + j - 1000 = j by omega, hj]
theorem d_slength (hd : 2 ≤ d) (hS : am_sv S = some v0) (hB : am_sb (1000 + v0) = some l) (hl : l.length ≤ 4) : am_D sh d mi_J0_length_8abf5 [.ref S] w (some (.int (nI l.length)), w) := by
  refine am_def (by omega) rfl rfl ?_
  iterate 2 refine am_g0 rfl rfl ?_
  refine am_oi hS ?_
  refine am_g0 rfl rfl ?_
  refine am_oi hB ?_
  iterate 2 refine am_g0 rfl rfl ?_
  refine am_ys (show (true && (true && am_isstr S)) = true by rw [d_isstr hS]; rfl) ?_
  refine ⟨(some (.int 0), w), d_coder (by omega) hS, ?_⟩
  refine am_g0 rfl rfl ?_
  refine am_top (y := nI l.length) ?_ ?_
  · rcases (show l.length = 0 ∨ l.length = 1 ∨ l.length = 2 ∨ l.length = 3 ∨ l.length = 4 by omega) with e | e | e | e | e <;> rw [e] <;> decide
  · refine am_g0 rfl rfl ?_
    exact ⟨rfl, rfl⟩
theorem d_indexOfChar {v : Nat} (hd : 1 ≤ d) (hB : am_sb (1000 + v0) = some l) (hl : l.length ≤ 4) : am_D sh d mi_J1_indexOfChar_4cfef [.ref (1000 + v0), .int (nI v), .int 0, .int (nI l.length)] w (some (.int (idxU (fun i => l.getD i 0) (nI v).toInt8.toInt32 0 l.length)), w) := by
  refine am_def (by omega) rfl rfl ?_
  iterate 5 refine am_g0 rfl rfl ?_
  generalize (nI v).toInt8.toInt32 = cb
  have key : ∀ j i : Nat, i + j = l.length → am_R sh mi_J1_indexOfChar_4cfef (am_D sh (d - 1)) (fun r => r = (some (.int (idxU (fun i => l.getD i 0) cb i j)), w)) 7 [(0, .ref (1000 + v0)), (3, .int (nI l.length)), (4, .int cb), (5, .int (nI i))] [] w := by
    intro j
    induction j with
    | zero =>
      intro i hi
      refine am_go rfl ?_
      iterate 2 refine am_g0 rfl rfl ?_
      refine am_tt (show nI l.length ≤ nI i from nI_le (by omega) (by omega)) ?_
      refine am_go rfl ?_
      refine am_g0 rfl rfl ?_
      exact ⟨rfl, rfl⟩
    | succ j ih =>
      intro i hi
      refine am_go rfl ?_
      iterate 2 refine am_g0 rfl rfl ?_
      refine am_ff (show ¬ nI l.length ≤ nI i from nI_ge (by omega) (by omega)) ?_
      iterate 3 refine am_g0 rfl rfl ?_
      refine am_oi hB (am_ff (nI_in (by omega) (by omega)) ?_)
      refine am_top (y := l.getD i 0) (by rw [nI_clamp (by omega)]) ?_
      iterate 2 refine am_g0 rfl rfl ?_
      by_cases h : l.getD i 0 = cb
      · refine am_tt h ?_
        iterate 2 refine am_g0 rfl rfl ?_
        refine ⟨rfl, ?_⟩
        rw [idxU, if_pos h]
      · refine am_ff h ?_
        refine am_go rfl ?_
        refine am_g0 rfl rfl ?_
        have := ih (i + 1) (by omega)
        rw [← nI_1] at this
        rw [idxU, if_neg h]
        exact this
  exact am_kl (key l.length 0 (by omega)) rfl
theorem d_lindexOf {v : Nat} (hd : 2 ≤ d) (hB : am_sb (1000 + v0) = some l) (hl : l.length ≤ 4) (hl1 : 1 ≤ l.length) (hv : v < 256) : am_D sh d mi_J1_indexOf_4cfef [.ref (1000 + v0), .int (nI v), .int 0, .int (nI l.length)] w (some (.int (idxU (fun i => l.getD i 0) (nI v).toInt8.toInt32 0 l.length)), w) := by
  refine am_def (by omega) rfl rfl ?_
  iterate 2 refine am_g0 rfl rfl ?_
  refine ⟨(some (.int 1), w), d_canEncode (by omega) hv, ?_⟩
  refine am_to (lv' := [(0, .ref (1000 + v0)), (1, .int (nI v)), (2, .int 0), (3, .int (nI l.length))]) (st' := [.int 1]) (w' := w) rfl rfl rfl ?_
  refine am_g0 rfl rfl ?_
  refine am_go rfl ?_
  iterate 2 refine am_g0 rfl rfl ?_
  refine am_top (y := 0) rfl ?_
  iterate 4 refine am_g0 rfl rfl ?_
  refine am_oi hB ?_
  refine am_g0 rfl rfl ?_
  refine am_top (y := nI l.length) (if_neg (nI_nlt (Nat.le_refl _) (by omega))) ?_
  iterate 4 refine am_g0 rfl rfl ?_
  refine am_tt (show (0 : Int32) < nI l.length from nI_lt (a := 0) (by omega) (by omega)) ?_
  refine am_to (lv' := [(0, .ref (1000 + v0)), (1, .int (nI v)), (2, .int 0), (3, .int (nI l.length))]) (st' := []) (w' := w) rfl rfl rfl ?_
  refine am_go rfl ?_
  iterate 4 refine am_g0 rfl rfl ?_
  refine ⟨(some (.int (idxU (fun i => l.getD i 0) (nI v).toInt8.toInt32 0 l.length)), w), d_indexOfChar (by omega) hB hl, ?_⟩
  refine am_g0 rfl rfl ?_
  exact ⟨rfl, rfl⟩
theorem d_indexOf2 {v : Nat} (hd : 3 ≤ d) (hS : am_sv S = some v0) (hB : am_sb (1000 + v0) = some l) (hl : l.length ≤ 4) (hl1 : 1 ≤ l.length) (hv : v < 256) : am_D sh d mi_J0_indexOf_7cf53 [.ref S, .int (nI v), .int 0] w (some (.int (idxU (fun i => l.getD i 0) (nI v).toInt8.toInt32 0 l.length)), w) := by
  refine am_def (by omega) rfl rfl ?_
  iterate 2 refine am_g0 rfl rfl ?_
  refine am_ys (show (true && (true && am_isstr S)) = true by rw [d_isstr hS]; rfl) ?_
  refine ⟨(some (.int 1), w), d_isLatin1 (by omega) hS, ?_⟩
  refine am_to (lv' := [(0, .ref S), (1, .int (nI v)), (2, .int 0)]) (st' := [.int 1]) (w' := w) rfl rfl rfl ?_
  iterate 3 refine am_g0 rfl rfl ?_
  refine am_oi hS ?_
  iterate 4 refine am_g0 rfl rfl ?_
  refine am_ys (show (true && (true && am_isstr S)) = true by rw [d_isstr hS]; rfl) ?_
  refine ⟨(some (.int (nI l.length)), w), d_slength (by omega) hS hB hl, ?_⟩
  refine am_g0 rfl rfl ?_
  refine ⟨(some (.int (idxU (fun i => l.getD i 0) (nI v).toInt8.toInt32 0 l.length)), w), d_lindexOf (by omega) hB hl hl1 hv, ?_⟩
  refine am_g0 rfl rfl ?_
  refine am_go rfl ?_
  exact ⟨rfl, rfl⟩
theorem d_indexOf {v : Nat} (hd : 4 ≤ d) (hS : am_sv S = some v0) (hB : am_sb (1000 + v0) = some l) (hl : l.length ≤ 4) (hl1 : 1 ≤ l.length) (hv : v < 256) : am_D sh d mi_J0_indexOf_0f7a4 [.ref S, .int (nI v)] w (some (.int (idxU (fun i => l.getD i 0) (nI v).toInt8.toInt32 0 l.length)), w) := by
  refine am_def (by omega) rfl rfl ?_
  iterate 4 refine am_g0 rfl rfl ?_
  refine am_ys (show (true && (true && am_isstr S)) = true by rw [d_isstr hS]; rfl) ?_
  refine ⟨(some (.int (idxU (fun i => l.getD i 0) (nI v).toInt8.toInt32 0 l.length)), w), d_indexOf2 (by omega) hS hB hl hl1 hv, ?_⟩
  refine am_g0 rfl rfl ?_
  exact ⟨rfl, rfl⟩
end STRS
/-- the sign's place in ".#cr", "pdt", "nesw" -/
def cellN (v : Nat) : Option Nat := if v = 46 then some 0 else if v = 35 then some 1 else if v = 99 then some 2 else if v = 114 then some 3 else none
def kindN (v : Nat) : Option Nat := if v = 112 then some 0 else if v = 100 then some 1 else if v = 116 then some 2 else none
def wayN (v : Nat) : Option Nat := if v = 110 then some 0 else if v = 101 then some 1 else if v = 115 then some 2 else if v = 119 then some 3 else none
theorem idx_cell : ∀ v, v < 256 → idxU (fun i => ([46, 35, 99, 114] : List Int32).getD i 0) (nI v).toInt8.toInt32 0 4 = opI (cellN v) := by decide +kernel
theorem idx_kind : ∀ v, v < 256 → idxU (fun i => ([112, 100, 116] : List Int32).getD i 0) (nI v).toInt8.toInt32 0 3 = opI (kindN v) := by decide +kernel
theorem idx_way : ∀ v, v < 256 → idxU (fun i => ([110, 101, 115, 119] : List Int32).getD i 0) (nI v).toInt8.toInt32 0 4 = opI (wayN v) := by decide +kernel
end
section
/-! the town's ways -/
def cKinds (w : am_M) (n : Nat) (K : Nat → Nat) : Prop := w.1 9 2 = nI n ∧ n ≤ 36 ∧ ∀ c, c < n → w.1 10 c = nI (K c) ∧ K c < 4
theorem cKinds.fr {w w' : am_M} {n : Nat} {K : Nat → Nat} (h : cKinds w n K) (e1 : w'.1 9 = w.1 9) (e2 : w'.1 10 = w.1 10) : cKinds w' n K := ⟨by rw [e1]; exact h.1, h.2.1, fun c hc => by rw [e2]; exact h.2.2 c hc⟩
theorem d_freeN {d n c t : Nat} {K : Nat → Nat} {w : am_M} (hd : 2 ≤ d) (hK : cKinds w n K) (ht : t < n) : am_D shC d mi_X8_freeOr [.ref 9, .int (nI c), .int (nI t)] w (some (.int (nI (if K t = 1 then c else t))), w) := by
  obtain ⟨h1, h2, h3⟩ := hK
  refine am_def (by omega) rfl rfl ?_
  iterate 4 refine am_g0 rfl rfl ?_
  rw [h1]
  refine ⟨(some (.int 1), w), d_isWithin_t shC (by omega) ht (by omega) w, ?_⟩
  refine am_to (lv' := [(0, .ref 9), (1, .int (nI c)), (2, .int (nI t))]) (st' := [.int 1]) (w' := w) rfl rfl rfl ?_
  iterate 4 refine am_g0 rfl rfl ?_
  refine am_glN (n := 36) rfl rfl (by omega) (by decide) ?_
  rw [(h3 t ht).1]
  iterate 2 refine am_g0 rfl rfl ?_
  by_cases h : K t = 1
  · refine am_tt (show nI (K t) = 1 by rw [h]; rfl) ?_
    refine am_go rfl ?_
    refine am_go rfl ?_
    rw [if_pos h]
    exact ⟨rfl, rfl⟩
  · refine am_ff (show ¬ nI (K t) = 1 from fun z => h ((nI_eq (b := 1) (by have := (h3 t ht).2; omega) (by omega)).mp z)) ?_
    iterate 2 refine am_g0 rfl rfl ?_
    refine am_go rfl ?_
    rw [if_neg h]
    exact ⟨rfl, rfl⟩
theorem d_freeO {d n c : Nat} {K : Nat → Nat} {x : Int32} {w : am_M} (hd : 2 ≤ d) (hK : cKinds w n K) (hx : x < 0 ∨ nI n ≤ x) : am_D shC d mi_X8_freeOr [.ref 9, .int (nI c), .int x] w (some (.int (nI c)), w) := by
  obtain ⟨h1, h2, h3⟩ := hK
  refine am_def (by omega) rfl rfl ?_
  iterate 4 refine am_g0 rfl rfl ?_
  rw [h1]
  refine ⟨(some (.int 0), w), d_isWithin_f shC (by omega) hx w, ?_⟩
  refine am_to (lv' := [(0, .ref 9), (1, .int (nI c)), (2, .int x)]) (st' := [.int 0]) (w' := w) rfl rfl rfl ?_
  refine am_g0 rfl rfl ?_
  refine am_go rfl ?_
  refine am_go rfl ?_
  exact ⟨rfl, rfl⟩
/-- where way a leads from c -/
def toS (n W c a : Nat) : Nat := if a = 0 then (if W ≤ c then c - W else c) else if a = 1 then (if c % W + 1 < W then c + 1 else c) else if a = 2 then (if c + W < n then c + W else c) else (if 0 < c % W then c - 1 else c)
def nxS (n W : Nat) (K : Nat → Nat) (c a : Nat) : Nat := if K (toS n W c a) = 1 then c else toS n W c a
theorem nxS_self {n W : Nat} {K : Nat → Nat} {c a : Nat} (h : toS n W c a = c) : nxS n W K c a = c := by unfold nxS; rw [h]; split <;> rfl
theorem toS_0 {n W c : Nat} (h : W ≤ c) : toS n W c 0 = c - W := by simp [toS, h]
theorem toS_1 {n W c : Nat} (h : c % W + 1 < W) : toS n W c 1 = c + 1 := by simp [toS, h]
theorem toS_2 {n W c : Nat} (h : c + W < n) : toS n W c 2 = c + W := by simp [toS, h]
theorem toS_3 {n W c : Nat} (h : 0 < c % W) : toS n W c 3 = c - 1 := by simp [toS, h]
theorem modS {c W : Nat} (hW : 1 ≤ W) : (c + 1) % W = if c % W + 1 < W then c % W + 1 else 0 := by
  have h1 := Nat.div_add_mod c W
  have h2 : c % W < W := Nat.mod_lt _ (by omega)
  split
  · rename_i h
    rw [show c + 1 = W * (c / W) + (c % W + 1) by omega, Nat.mul_add_mod, Nat.mod_eq_of_lt h]
  · rename_i h
    have h3 : c % W + 1 = W := by omega
    rw [show c + 1 = W * (c / W) + W by omega, Nat.mul_add_mod, Nat.mod_self]
set_option maxHeartbeats 4000000 in
theorem d_layWays {d n W r : Nat} {K : Nat → Nat} {w : am_M} (hd : 3 ≤ d) (hK : cKinds w n K) (hW : w.1 9 3 = nI W) (hW1 : n ≠ 0 → 1 ≤ W) (hW6 : W ≤ 6) (hr : n = r * W) : ∃ o : am_O, (o.1 = none ∧ am_fr 11 w o.2 ∧ ∀ c, c < n → ∀ a, a < 4 → o.2.1 11 (c * 4 + a) = nI (nxS n W K c a)) ∧ am_D shC d mi_X8_layWays [.ref 9] w o := by
  have hn36 := hK.2.1
  refine am_dex (by omega) rfl rfl ?_
  iterate 4 refine am_g0 rfl rfl ?_
  have key : ∀ j c : Nat, c + j = n → ∀ m : am_M, am_fr 11 w m → (∀ c', c' < c → ∀ a, a < 4 → m.1 11 (c' * 4 + a) = nI (nxS n W K c' a)) → am_R shC mi_X8_layWays (am_D shC (d - 1)) (fun o => o.1 = none ∧ am_fr 11 w o.2 ∧ ∀ c, c < n → ∀ a, a < 4 → o.2.1 11 (c * 4 + a) = nI (nxS n W K c a)) 4 [(0, .ref 9), (1, .int (nI (c % W))), (2, .int (nI c))] [] m := by
    intro j
    induction j with
    | zero =>
      intro c hc m hf hm
      have hm9 : m.1 9 2 = nI n := by rw [hf.1 9 (by omega)]; exact hK.1
      refine am_go rfl ?_
      iterate 3 refine am_g0 rfl rfl ?_
      refine am_tt (show m.1 9 2 ≤ nI c by rw [hm9]; exact nI_le (by omega) (by omega)) ?_
      refine am_go rfl ?_
      exact ⟨rfl, rfl, hf, fun c' hc' => hm c' (by omega)⟩
    | succ j ih =>
      intro c hc m hf hm
      have hcn : c < n := by omega
      have hWp : 1 ≤ W := hW1 (by omega)
      have hmod : c % W < W := Nat.mod_lt _ (by omega)
      have hm9 : m.1 9 2 = nI n := by rw [hf.1 9 (by omega)]; exact hK.1
      have hmW : m.1 9 3 = nI W := by rw [hf.1 9 (by omega)]; exact hW
      have hKm : cKinds m n K := hK.fr (hf.1 9 (by omega)) (hf.1 10 (by omega))
      have hdiv : c % W + 1 < W → c + 1 < n := by
        intro h
        rcases Nat.lt_or_ge (c + 1) n with z | z
        · exact z
        · have e : c + 1 = r * W := by omega
          have e2 : (c + 1) % W = 0 := by rw [e]; exact Nat.mul_mod_left _ _
          rw [modS hWp, if_pos h] at e2
          omega
      refine am_go rfl ?_
      iterate 3 refine am_g0 rfl rfl ?_
      refine am_ff (show ¬ m.1 9 2 ≤ nI c by rw [hm9]; exact nI_ge hcn (by omega)) ?_
      refine am_to (lv' := [(0, .ref 9), (1, .int (nI (c % W))), (2, .int (nI c))]) (st' := []) (w' := m) rfl rfl rfl ?_
      iterate 3 refine am_g0 rfl rfl ?_
      refine am_top (y := nI (c * 4)) (pk_mul c 4) ?_
      iterate 10 refine am_g0 rfl rfl ?_
      -- the way north
      have c0 : am_D shC (d - 1) mi_X8_freeOr [.ref 9, .int (nI c), .int (nI c - m.1 9 3)] m (some (.int (nI (nxS n W K c 0))), m) := by
        rw [hmW]
        by_cases h : W ≤ c
        · rw [pk_sub h]
          have := d_freeN (d := d - 1) (c := c) (by omega) hKm (show c - W < n by omega)
          have e : nxS n W K c 0 = if K (c - W) = 1 then c else c - W := by unfold nxS; rw [toS_0 h]
          rw [e]
          exact this
        · have := d_freeO (d := d - 1) (c := c) (by omega) hKm (Or.inl (pk_sneg (a := c) (b := W) (by omega) (by omega)))
          have e : nxS n W K c 0 = c := nxS_self (by unfold toS; rw [if_pos rfl, if_neg h])
          rw [e]
          exact this
      refine am_g0 rfl rfl ?_
      refine ⟨(some (.int (nI (nxS n W K c 0))), m), c0, ?_⟩
      refine am_to (lv' := [(0, .ref 9), (1, .int (nI (c % W))), (2, .int (nI c)), (3, .int (nI (c * 4)))]) (st' := [.int (nI (nxS n W K c 0)), .int (nI (c * 4)), .ref 11]) (w' := m) rfl rfl rfl ?_
      refine am_gsN (n := 144) rfl rfl (show c * 4 < 144 by omega) (by decide) ?_
      refine am_to (lv' := [(0, .ref 9), (1, .int (nI (c % W))), (2, .int (nI c)), (3, .int (nI (c * 4)))]) (st' := []) (w' := am_pi m 11 (c * 4) (nI (nxS n W K c 0))) rfl rfl rfl ?_
      generalize hm0 : am_pi m 11 (c * 4) (nI (nxS n W K c 0)) = m0
      have f0 : am_fr 11 w m0 := by rw [← hm0]; exact hf.pi
      -- the way east
      have st1 : am_R shC mi_X8_layWays (am_D shC (d - 1)) (fun o => o.1 = none ∧ am_fr 11 w o.2 ∧ ∀ c, c < n → ∀ a, a < 4 → o.2.1 11 (c * 4 + a) = nI (nxS n W K c a)) 62 [(0, .ref 9), (1, .int (nI (c % W))), (2, .int (nI c)), (3, .int (nI (c * 4)))] [.int (nI (nxS n W K c 1)), .int (nI (c * 4 + 1)), .ref 11] m0 := by
        refine am_gsN (n := 144) rfl rfl (show c * 4 + 1 < 144 by omega) (by decide) ?_
        refine am_to (lv' := [(0, .ref 9), (1, .int (nI (c % W))), (2, .int (nI c)), (3, .int (nI (c * 4)))]) (st' := []) (w' := am_pi m0 11 (c * 4 + 1) (nI (nxS n W K c 1))) rfl rfl rfl ?_
        generalize hm1 : am_pi m0 11 (c * 4 + 1) (nI (nxS n W K c 1)) = m1
        have f1 : am_fr 11 w m1 := by rw [← hm1]; exact f0.pi
        have hK1 : cKinds m1 n K := hK.fr (f1.1 9 (by omega)) (f1.1 10 (by omega))
        have h1W : m1.1 9 3 = nI W := by rw [f1.1 9 (by omega)]; exact hW
        -- the way south
        have c2 : am_D shC (d - 1) mi_X8_freeOr [.ref 9, .int (nI c), .int (nI c + m1.1 9 3)] m1 (some (.int (nI (nxS n W K c 2))), m1) := by
          rw [h1W, nI_add]
          by_cases h : c + W < n
          · have := d_freeN (d := d - 1) (c := c) (by omega) hK1 h
            have e : nxS n W K c 2 = if K (c + W) = 1 then c else c + W := by unfold nxS; rw [toS_2 h]
            rw [e]
            exact this
          · have := d_freeO (d := d - 1) (c := c) (x := nI (c + W)) (by omega) hK1 (Or.inr (nI_le (by omega) (by omega)))
            have e : nxS n W K c 2 = c := nxS_self (by unfold toS; rw [if_neg (by omega), if_neg (by omega), if_pos rfl, if_neg h])
            rw [e]
            exact this
        iterate 4 refine am_g0 rfl rfl ?_
        refine am_g0 rfl rfl ?_
        refine am_top (y := nI (c * 4 + 2)) (nI_add (c * 4) 2) ?_
        iterate 6 refine am_g0 rfl rfl ?_
        refine am_g0 rfl rfl ?_
        refine ⟨(some (.int (nI (nxS n W K c 2))), m1), c2, ?_⟩
        refine am_to (lv' := [(0, .ref 9), (1, .int (nI (c % W))), (2, .int (nI c)), (3, .int (nI (c * 4)))]) (st' := [.int (nI (nxS n W K c 2)), .int (nI (c * 4 + 2)), .ref 11]) (w' := m1) rfl rfl rfl ?_
        refine am_gsN (n := 144) rfl rfl (show c * 4 + 2 < 144 by omega) (by decide) ?_
        refine am_to (lv' := [(0, .ref 9), (1, .int (nI (c % W))), (2, .int (nI c)), (3, .int (nI (c * 4)))]) (st' := []) (w' := am_pi m1 11 (c * 4 + 2) (nI (nxS n W K c 2))) rfl rfl rfl ?_
        generalize hm2 : am_pi m1 11 (c * 4 + 2) (nI (nxS n W K c 2)) = m2
        have f2 : am_fr 11 w m2 := by rw [← hm2]; exact f1.pi
        have hK2 : cKinds m2 n K := hK.fr (f2.1 9 (by omega)) (f2.1 10 (by omega))
        have h2W : m2.1 9 3 = nI W := by rw [f2.1 9 (by omega)]; exact hW
        -- the way west, and the next cell
        have st3 : am_R shC mi_X8_layWays (am_D shC (d - 1)) (fun o => o.1 = none ∧ am_fr 11 w o.2 ∧ ∀ c, c < n → ∀ a, a < 4 → o.2.1 11 (c * 4 + a) = nI (nxS n W K c a)) 105 [(0, .ref 9), (1, .int (nI (c % W))), (2, .int (nI c))] [.int (nI (nxS n W K c 3)), .int (nI (c * 4 + 3)), .ref 11] m2 := by
          refine am_gsN (n := 144) rfl rfl (show c * 4 + 3 < 144 by omega) (by decide) ?_
          refine am_to (lv' := [(0, .ref 9), (1, .int (nI (c % W))), (2, .int (nI c))]) (st' := []) (w' := am_pi m2 11 (c * 4 + 3) (nI (nxS n W K c 3))) rfl rfl rfl ?_
          generalize hm3 : am_pi m2 11 (c * 4 + 3) (nI (nxS n W K c 3)) = m3
          have f3 : am_fr 11 w m3 := by rw [← hm3]; exact f2.pi
          have h3W : m3.1 9 3 = nI W := by rw [f3.1 9 (by omega)]; exact hW
          have hall : ∀ c', c' < c + 1 → ∀ a, a < 4 → m3.1 11 (c' * 4 + a) = nI (nxS n W K c' a) := by
            intro c' hc' a ha
            rw [← hm3, ← hm2, ← hm1, ← hm0]
            by_cases hcc : c' = c
            · subst hcc
              rcases (show a = 0 ∨ a = 1 ∨ a = 2 ∨ a = 3 by omega) with e | e | e | e <;> subst e
              · rw [am_pi_ne (Or.inr (by omega)), am_pi_ne (Or.inr (by omega)), am_pi_ne (Or.inr (by omega)), Nat.add_zero, am_pi_at]
              · rw [am_pi_ne (Or.inr (by omega)), am_pi_ne (Or.inr (by omega)), am_pi_at]
              · rw [am_pi_ne (Or.inr (by omega)), am_pi_at]
              · rw [am_pi_at]
            · rw [am_pi_ne (Or.inr (by omega)), am_pi_ne (Or.inr (by omega)), am_pi_ne (Or.inr (by omega)), am_pi_ne (Or.inr (by omega))]
              exact hm c' (by omega) a ha
          have nxt := ih (c + 1) (by omega) m3 f3 hall
          rw [modS hWp, ← nI_1] at nxt
          iterate 3 refine am_g0 rfl rfl ?_
          refine am_top (y := nI (c % W + 1)) (nI_1 _) ?_
          iterate 3 refine am_g0 rfl rfl ?_
          by_cases h : c % W + 1 < W
          · rw [if_pos h, ← nI_1] at nxt
            refine am_ff (show ¬ m3.1 9 3 ≤ nI (c % W + 1) by rw [h3W]; exact nI_ge h (by omega)) ?_
            iterate 4 refine am_g0 rfl rfl ?_
            refine am_go rfl ?_
            iterate 2 refine am_g0 rfl rfl ?_
            exact nxt
          · rw [if_neg h] at nxt
            refine am_tt (show m3.1 9 3 ≤ nI (c % W + 1) by rw [h3W]; exact nI_le (by omega) (by omega)) ?_
            refine am_go rfl ?_
            refine am_go rfl ?_
            iterate 2 refine am_g0 rfl rfl ?_
            exact nxt
        iterate 5 refine am_g0 rfl rfl ?_
        refine am_top (y := nI (c * 4 + 3)) (nI_add (c * 4) 3) ?_
        iterate 2 refine am_g0 rfl rfl ?_
        by_cases h : 0 < c % W
        · refine am_ff (show ¬ nI (c % W) ≤ 0 from nI_nle h (by omega)) ?_
          iterate 6 refine am_g0 rfl rfl ?_
          have hc1 : 1 ≤ c := by
            rcases Nat.eq_zero_or_pos c with z | z
            · rw [z, Nat.zero_mod] at h; omega
            · exact z
          have c3 : am_D shC (d - 1) mi_X8_freeOr [.ref 9, .int (nI c), .int (nI c - 1)] m2 (some (.int (nI (nxS n W K c 3))), m2) := by
            rw [show nI c - 1 = nI (c - 1) from pk_sub (b := 1) hc1]
            have := d_freeN (d := d - 1) (c := c) (by omega) hK2 (show c - 1 < n by omega)
            have e : nxS n W K c 3 = if K (c - 1) = 1 then c else c - 1 := by unfold nxS; rw [toS_3 h]
            rw [e]
            exact this
          refine ⟨(some (.int (nI (nxS n W K c 3))), m2), c3, ?_⟩
          refine am_g0 rfl rfl ?_
          exact am_kl st3 rfl
        · refine am_tt (show nI (c % W) ≤ 0 from nI_le (b := 0) (by omega) (by omega)) ?_
          refine am_go rfl ?_
          have e : nxS n W K c 3 = c := nxS_self (by unfold toS; rw [if_neg (by omega), if_neg (by omega), if_neg (by omega), if_neg h])
          rw [e] at st3
          exact am_kl st3 rfl
      have hK0 : cKinds m0 n K := hK.fr (f0.1 9 (by omega)) (f0.1 10 (by omega))
      have h0W : m0.1 9 3 = nI W := by rw [f0.1 9 (by omega)]; exact hW
      iterate 5 refine am_g0 rfl rfl ?_
      refine am_top (y := nI (c * 4 + 1)) (nI_add (c * 4) 1) ?_
      iterate 3 refine am_g0 rfl rfl ?_
      refine am_top (y := nI (c % W + 1)) (nI_1 _) ?_
      iterate 3 refine am_g0 rfl rfl ?_
      by_cases h : c % W + 1 < W
      · refine am_ff (show ¬ m0.1 9 3 ≤ nI (c % W + 1) by rw [h0W]; exact nI_ge h (by omega)) ?_
        iterate 6 refine am_g0 rfl rfl ?_
        have c1 : am_D shC (d - 1) mi_X8_freeOr [.ref 9, .int (nI c), .int (nI c + 1)] m0 (some (.int (nI (nxS n W K c 1))), m0) := by
          rw [nI_1]
          have := d_freeN (d := d - 1) (c := c) (by omega) hK0 (hdiv h)
          have e : nxS n W K c 1 = if K (c + 1) = 1 then c else c + 1 := by unfold nxS; rw [toS_1 h]
          rw [e]
          exact this
        refine ⟨(some (.int (nI (nxS n W K c 1))), m0), c1, ?_⟩
        refine am_g0 rfl rfl ?_
        exact am_kl st1 rfl
      · refine am_tt (show m0.1 9 3 ≤ nI (c % W + 1) by rw [h0W]; exact nI_le (by omega) (by omega)) ?_
        refine am_go rfl ?_
        have e : nxS n W K c 1 = c := nxS_self (by unfold toS; rw [if_neg (by omega), if_pos rfl, if_neg h])
        rw [e] at st1
        exact am_kl st1 rfl
  have := key n 0 (by omega) w am_fr.rf (fun c' h => absurd h (Nat.not_lt_zero c'))
  rw [Nat.zero_mod] at this
  exact this
end
section
/-! the town is taken from its text -/
abbrev TS : Type := Nat × Nat × Nat × Nat × (Nat → Nat)
/-- a sign: row, column, width, size, kinds -/
def twStep (v : Nat) (t : TS) : Option TS :=
  if t.1 = 6 then none else
  if v = 59 then (if 0 < t.2.1 ∧ t.2.1 = t.2.2.1 then some (t.1 + 1, 0, t.2.2.1, t.2.2.2.1, t.2.2.2.2) else none)
  else match cellN v with
    | none => none
    | some k => if t.2.1 < (if t.1 = 0 then 6 else t.2.2.1) ∧ t.2.2.2.1 < 36 then some (t.1, t.2.1 + 1, (if t.1 = 0 then t.2.1 + 1 else t.2.2.1), t.2.2.2.1 + 1, fun i => if i = t.2.2.2.1 then k else t.2.2.2.2 i) else none
def tw (b : Nat → Nat) : Nat → Option TS
  | 0 => some (0, 0, 0, 0, fun _ => 0)
  | i + 1 => (tw b i).bind (twStep (b i))
def twF (b : Nat → Nat) : Nat → Option Nat
  | 0 => none
  | i + 1 => match twF b i with
    | some f => some f
    | none => match tw b (i + 1) with
      | none => some i
      | some _ => none
/-- fault, size, width, kinds -/
def townR (b : Nat → Nat) (n : Nat) : Option Nat × Nat × Nat × (Nat → Nat) := match tw b n with
  | none => (twF b n, 0, 0, fun _ => 0)
  | some t => if n = 0 ∨ (0 < t.2.1 ∧ t.2.1 = t.2.2.1) then (none, t.2.2.2.1, t.2.2.1, t.2.2.2.2) else (some n, 0, 0, fun _ => 0)
theorem tw_none {b : Nat → Nat} {i : Nat} (h : tw b i = none) : ∀ k, tw b (i + k) = none
  | 0 => h
  | k + 1 => by rw [show i + (k + 1) = (i + k) + 1 by omega, tw, tw_none h k]; rfl
theorem twF_none {b : Nat → Nat} : ∀ {i : Nat} {t : TS}, tw b i = some t → twF b i = none
  | 0, _, _ => rfl
  | i + 1, t, h => by
    rw [twF]
    cases hz : tw b i with
    | none => rw [tw, hz] at h; cases h
    | some t0 => rw [twF_none hz, h]
theorem twF_at {b : Nat → Nat} {i : Nat} {t : TS} (h : tw b i = some t) (h2 : tw b (i + 1) = none) : ∀ k, twF b (i + 1 + k) = some i
  | 0 => by show twF b (i + 1) = some i; rw [twF, twF_none h, h2]
  | k + 1 => by rw [show i + 1 + (k + 1) = (i + 1 + k) + 1 by omega, twF, twF_at h h2 k]
def twok (t : TS) : Prop := t.1 ≤ 6 ∧ t.2.1 ≤ t.2.2.1 ∧ t.2.2.1 ≤ 6 ∧ t.2.2.2.1 ≤ 36 ∧ t.2.2.2.1 = t.1 * t.2.2.1 + t.2.1 ∧ (t.1 = 0 → t.2.2.1 = t.2.1) ∧ (t.1 ≠ 0 → 1 ≤ t.2.2.1) ∧ ∀ i, i < t.2.2.2.1 → t.2.2.2.2 i < 4
theorem cellN_lt {v k : Nat} (h : cellN v = some k) : k < 4 := by
  unfold cellN at h
  split at h
  · cases h; omega
  · split at h
    · cases h; omega
    · split at h
      · cases h; omega
      · split at h
        · cases h; omega
        · cases h
theorem twok_step {v : Nat} {t t' : TS} (h : twok t) (e : twStep v t = some t') : twok t' := by
  obtain ⟨h1, h2, h3, h4, h5, h6, h7, h8⟩ := h
  obtain ⟨r, c, W, n, K⟩ := t
  dsimp only at h1 h2 h3 h4 h5 h6 h7 h8
  unfold twStep at e
  dsimp only at e
  split at e
  · cases e
  · split at e
    · split at e
      · rename_i hc
        cases e
        have hsz : n = (r + 1) * W + 0 := by rw [h5, hc.2, Nat.succ_mul]; omega
        exact ⟨by show r + 1 ≤ 6; omega, Nat.zero_le _, h3, h4, hsz, fun z => absurd z (by omega), fun _ => by show 1 ≤ W; omega, h8⟩
      · cases e
    · split at e
      · cases e
      · rename_i k hk
        by_cases hc : c < (if r = 0 then 6 else W) ∧ n < 36
        · rw [if_pos hc] at e
          cases e
          have hk4 := cellN_lt hk
          by_cases hr : r = 0
          · subst hr
            have hW := h6 rfl
            rw [if_pos rfl] at hc
            refine ⟨h1, ?_, ?_, by show n + 1 ≤ 36; omega, ?_, fun _ => ?_, fun z => absurd rfl z, fun i hi => ?_⟩
            · show c + 1 ≤ if (0 : Nat) = 0 then c + 1 else W
              rw [if_pos rfl]; omega
            · show (if (0 : Nat) = 0 then c + 1 else W) ≤ 6
              rw [if_pos rfl]; omega
            · show n + 1 = 0 * _ + (c + 1)
              omega
            · show (if (0 : Nat) = 0 then c + 1 else W) = c + 1
              rw [if_pos rfl]
            · show (if i = n then k else K i) < 4
              split
              · exact hk4
              · exact h8 i (by have : i < n + 1 := hi; omega)
          · rw [if_neg hr] at hc
            refine ⟨h1, ?_, ?_, by show n + 1 ≤ 36; omega, ?_, fun z => absurd z hr, fun _ => ?_, fun i hi => ?_⟩
            · show c + 1 ≤ if r = 0 then c + 1 else W
              rw [if_neg hr]; omega
            · show (if r = 0 then c + 1 else W) ≤ 6
              rw [if_neg hr]; exact h3
            · show n + 1 = r * (if r = 0 then c + 1 else W) + (c + 1)
              rw [if_neg hr]; omega
            · show 1 ≤ (if r = 0 then c + 1 else W)
              rw [if_neg hr]; exact h7 hr
            · show (if i = n then k else K i) < 4
              split
              · exact hk4
              · exact h8 i (by have : i < n + 1 := hi; omega)
        · rw [if_neg hc] at e
          cases e
theorem twok_tw {b : Nat → Nat} : ∀ {i : Nat} {t : TS}, tw b i = some t → twok t
  | 0, t, h => by
    cases h
    exact ⟨Nat.zero_le _, Nat.le_refl _, Nat.zero_le _, Nat.zero_le _, rfl, fun _ => rfl, fun z => absurd rfl z, fun i hi => absurd hi (Nat.not_lt_zero i)⟩
  | i + 1, t, h => by
    rw [tw] at h
    cases hz : tw b i with
    | none => rw [hz] at h; cases h
    | some t0 => rw [hz] at h; exact twok_step (twok_tw hz) h
theorem d_isWhole {d c W : Nat} {w : am_M} (hd : 1 ≤ d) (hW : w.1 9 3 = nI W) (hc : c < 100) (hW1 : W < 100) : am_D shC d mi_X8_isWhole [.ref 9, .int (nI c)] w (some (.int (b01 (decide (0 < c ∧ c = W)))), w) := by
  refine am_def hd rfl rfl ?_
  iterate 2 refine am_g0 rfl rfl ?_
  by_cases h : 0 < c
  · refine am_ff (show ¬ nI c ≤ 0 from nI_nle h (by omega)) ?_
    iterate 4 refine am_g0 rfl rfl ?_
    by_cases h2 : c = W
    · refine am_tt (show nI c = w.1 9 3 by rw [hW, h2]) ?_
      iterate 2 refine am_g0 rfl rfl ?_
      refine am_go rfl ?_
      rw [decide_eq_true ⟨h, h2⟩]
      exact ⟨rfl, rfl⟩
    · refine am_ff (show ¬ nI c = w.1 9 3 by rw [hW]; exact fun z => h2 ((nI_eq (by omega) (by omega)).mp z)) ?_
      refine am_go rfl ?_
      refine am_go rfl ?_
      rw [decide_eq_false (fun z => h2 z.2)]
      exact ⟨rfl, rfl⟩
  · refine am_tt (show nI c ≤ 0 from nI_le (b := 0) (by omega) (by omega)) ?_
    refine am_go rfl ?_
    refine am_go rfl ?_
    rw [decide_eq_false (fun z => h z.1)]
    exact ⟨rfl, rfl⟩
theorem d_temptied {d : Nat} {x : Int32} {w : am_M} (hd : 1 ≤ d) : am_D shC d mi_X8_emptied [.ref 9, .int x] w (some (.int x), am_pi (am_pi w 9 2 0) 9 3 0) := by
  refine am_def hd rfl rfl ?_
  iterate 8 refine am_g0 rfl rfl ?_
  exact ⟨rfl, rfl⟩
theorem d_goesOn {d v : Nat} {t : TS} {w : am_M} (hd : 5 ≤ d) (hW : w.1 9 3 = nI t.2.2.1) (hn : w.1 9 2 = nI t.2.2.2.1) (ht : twok t) (hv : v < 256) (h6 : t.1 ≠ 6) : am_D shC d mi_X8_goesOn [.ref 9, .int (nI v), .int (nI t.1), .int (nI t.2.1)] w (some (.int (b01 (twStep v t).isSome)), w) := by
  obtain ⟨r, c, W, n, K⟩ := t
  obtain ⟨h1, h2, h3, h4, -⟩ := ht
  dsimp only at hW hn h1 h2 h3 h4 h6 ⊢
  refine am_def (by omega) rfl rfl ?_
  iterate 3 refine am_g0 rfl rfl ?_
  by_cases h : v = 59
  · refine am_tt (show nI v = 59 by rw [h]; rfl) ?_
    iterate 3 refine am_g0 rfl rfl ?_
    refine ⟨(some (.int (b01 (decide (0 < c ∧ c = W)))), w), d_isWhole (by omega) hW (by omega) (by omega), ?_⟩
    refine am_g0 rfl rfl ?_
    have e : (twStep v (r, c, W, n, K)).isSome = decide (0 < c ∧ c = W) := by
      unfold twStep
      dsimp only
      rw [if_neg h6, if_pos h]
      by_cases hc : 0 < c ∧ c = W
      · rw [if_pos hc, decide_eq_true hc]; rfl
      · rw [if_neg hc, decide_eq_false hc]; rfl
    rw [e]
    refine ⟨?_, rfl⟩
    cases decide (0 < c ∧ c = W) <;> decide
  · refine am_ff (show ¬ nI v = 59 from fun z => h ((nI_eq (b := 59) (by omega) (by omega)).mp z)) ?_
    refine am_go rfl ?_
    iterate 2 refine am_g0 rfl rfl ?_
    have hi := d_indexOf (sh := shC) (w := w) (d := d - 1) (S := 1004) (v0 := 8) (l := [46, 35, 99, 114]) (by omega) rfl rfl (by decide) (by decide) hv
    rw [show ([46, 35, 99, 114] : List Int32).length = 4 from rfl, idx_cell v hv] at hi
    refine ⟨(some (.int (opI (cellN v))), w), hi, ?_⟩
    refine am_to (lv' := [(0, .ref 9), (1, .int (nI v)), (2, .int (nI r)), (3, .int (nI c))]) (st' := [.int (opI (cellN v))]) (w' := w) rfl rfl rfl ?_
    refine am_g0 rfl rfl ?_
    have fin : ∀ lv st, st = [] → (twStep v (r, c, W, n, K)).isSome = false → am_R shC mi_X8_goesOn (am_D shC (d - 1)) (fun x => x = (some (.int (b01 (twStep v (r, c, W, n, K)).isSome)), w)) 51 lv st w := by
      intro lv st hst e
      subst hst
      refine am_go rfl ?_
      refine am_go rfl ?_
      rw [e]
      exact ⟨rfl, rfl⟩
    cases hk : cellN v with
    | none =>
      refine fin _ _ rfl ?_
      unfold twStep
      dsimp only
      rw [if_neg h6, if_neg h, hk]
      rfl
    | some k =>
      have hk4 := cellN_lt hk
      refine am_ff (show ¬ opI (some k) < 0 from nI_pos (by omega)) ?_
      have e : (twStep v (r, c, W, n, K)).isSome = decide (c < (if r = 0 then 6 else W) ∧ n < 36) := by
        unfold twStep
        dsimp only
        rw [if_neg h6, if_neg h, hk]
        dsimp only
        by_cases hc : c < (if r = 0 then 6 else W) ∧ n < 36
        · rw [if_pos hc, decide_eq_true hc]; rfl
        · rw [if_neg hc, decide_eq_false hc]; rfl
      have lim : ∀ L : Nat, L = (if r = 0 then 6 else W) → am_R shC mi_X8_goesOn (am_D shC (d - 1)) (fun x => x = (some (.int (b01 (twStep v (r, c, W, n, K)).isSome)), w)) 35 [(0, .ref 9)] [.int (nI L), .int (nI c)] w := by
        intro L hL
        have hL6 : L ≤ 6 := by rw [hL]; split <;> omega
        rw [← hL] at e
        refine am_go rfl ?_
        by_cases hc : c < L
        · refine am_ff (show ¬ nI L ≤ nI c from nI_ge hc (by omega)) ?_
          iterate 4 refine am_g0 rfl rfl ?_
          by_cases hn2 : n < 36
          · refine am_ff (show ¬ nI 36 ≤ w.1 9 2 by rw [hn]; exact nI_ge hn2 (by omega)) ?_
            iterate 2 refine am_g0 rfl rfl ?_
            refine am_go rfl ?_
            rw [e, decide_eq_true ⟨hc, hn2⟩]
            exact ⟨rfl, rfl⟩
          · refine am_tt (show nI 36 ≤ w.1 9 2 by rw [hn]; exact nI_le (by omega) (by omega)) ?_
            exact fin _ _ rfl (by rw [e, decide_eq_false (fun z => hn2 z.2)])
        · refine am_tt (show nI L ≤ nI c from nI_le (by omega) (by omega)) ?_
          exact fin _ _ rfl (by rw [e, decide_eq_false (fun z => hc z.1)])
      iterate 3 refine am_g0 rfl rfl ?_
      by_cases hr : r = 0
      · refine am_tt (show nI r = 0 by rw [hr]; rfl) ?_
        iterate 2 refine am_g0 rfl rfl ?_
        exact am_kl (lim 6 (by rw [if_pos hr])) rfl
      · refine am_ff (show ¬ nI r = 0 from nI_ne0 (by omega) (by omega)) ?_
        refine am_go rfl ?_
        refine am_g0 rfl rfl ?_
        refine am_top hW ?_
        exact am_kl (lim W (by rw [if_neg hr])) rfl
/-- a text: cell 2+t, bytes 5+t -/
def cText (w : am_M) (t n : Nat) (b : Nat → Nat) : Prop := w.1 (2 + t) 2 = nI n ∧ n ≤ 55 ∧ ∀ i, i < n → w.1 (5 + t) i = nI (b i) ∧ b i < 256
theorem cText.fr {w w' : am_M} {t n : Nat} {b : Nat → Nat} (h : cText w t n b) (e1 : w'.1 (2 + t) = w.1 (2 + t)) (e2 : w'.1 (5 + t) = w.1 (5 + t)) : cText w' t n b := ⟨by rw [e1]; exact h.1, h.2.1, fun i hi => by rw [e2]; exact h.2.2 i hi⟩
set_option maxHeartbeats 4000000 in
theorem d_tload {d n : Nat} {b : Nat → Nat} {w : am_M} (hd : 6 ≤ d) (hT : cText w 0 n b) : ∃ o : am_O, (o.1 = some (.int (opI (townR b n).1)) ∧ am_f3 9 10 11 w o.2 ∧ o.2.1 9 3 = nI (townR b n).2.2.1 ∧ cTown o.2 (townR b n).2.1 (townR b n).2.2.2 (nxS (townR b n).2.1 (townR b n).2.2.1 (townR b n).2.2.2)) ∧ am_D shC d mi_X8_load [.ref 9, .ref 2] w o := by
  obtain ⟨h1, h2, h3⟩ := hT
  refine am_dex (by omega) rfl rfl ?_
  iterate 12 refine am_g0 rfl rfl ?_
  -- a fault: all is taken away
  have bad : ∀ (f : Nat) (m : am_M), am_f3 9 10 11 w m → (townR b n).1 = some f → (townR b n).2.1 = 0 → (townR b n).2.2.1 = 0 → (fun o : am_O => o.1 = some (.int (opI (townR b n).1)) ∧ am_f3 9 10 11 w o.2 ∧ o.2.1 9 3 = nI (townR b n).2.2.1 ∧ cTown o.2 (townR b n).2.1 (townR b n).2.2.2 (nxS (townR b n).2.1 (townR b n).2.2.1 (townR b n).2.2.2)) (some (.int (nI f)), am_pi (am_pi m 9 2 0) 9 3 0) := by
    intro f m hf e1 e2 e3
    refine ⟨by rw [e1]; rfl, ⟨fun k k1 k2 k3 => ?_, hf.2⟩, by rw [e3]; rfl, ?_⟩
    · show (am_pi (am_pi m 9 2 0) 9 3 0).1 k = _
      rw [am_pi_row k1, am_pi_row k1]
      exact hf.1 k k1 k2 k3
    · rw [e2]
      exact ⟨rfl, Nat.zero_le _, fun c hc => absurd hc (Nat.not_lt_zero c), fun c hc => absurd hc (Nat.not_lt_zero c)⟩
  have key : ∀ j i : Nat, i + j = n → ∀ (t : TS) (m : am_M), tw b i = some t → am_f3 9 10 11 w m → m.1 9 2 = nI t.2.2.2.1 → m.1 9 3 = nI t.2.2.1 → (∀ k, k < t.2.2.2.1 → m.1 10 k = nI (t.2.2.2.2 k)) → am_R shC mi_X8_load (am_D shC (d - 1)) (fun o => o.1 = some (.int (opI (townR b n).1)) ∧ am_f3 9 10 11 w o.2 ∧ o.2.1 9 3 = nI (townR b n).2.2.1 ∧ cTown o.2 (townR b n).2.1 (townR b n).2.2.2 (nxS (townR b n).2.1 (townR b n).2.2.1 (townR b n).2.2.2)) 17 [(0, .ref 9), (1, .ref 2), (2, .int (nI t.1)), (3, .int (nI t.2.1)), (4, .int (nI i))] [] m := by
    intro j
    induction j with
    | zero =>
      intro i hi t m ht hf hn hW hk
      have hok := twok_tw ht
      have e9 : i = n := by omega
      subst e9
      have hlen : m.1 2 2 = nI i := by rw [hf.1 2 (by omega) (by omega) (by omega)]; exact h1
      refine am_go rfl ?_
      iterate 3 refine am_g0 rfl rfl ?_
      refine am_tt (show m.1 2 2 ≤ nI i by rw [hlen]; exact nI_le (Nat.le_refl _) (by omega)) ?_
      refine am_to (lv' := [(0, .ref 9), (1, .ref 2), (2, .int (nI t.1)), (3, .int (nI t.2.1)), (4, .int (nI i))]) (st' := []) (w' := m) rfl rfl rfl ?_
      -- the town stands
      have good : (i = 0 ∨ (0 < t.2.1 ∧ t.2.1 = t.2.2.1)) → am_R shC mi_X8_load (am_D shC (d - 1)) (fun o => o.1 = some (.int (opI (townR b i).1)) ∧ am_f3 9 10 11 w o.2 ∧ o.2.1 9 3 = nI (townR b i).2.2.1 ∧ cTown o.2 (townR b i).2.1 (townR b i).2.2.2 (nxS (townR b i).2.1 (townR b i).2.2.1 (townR b i).2.2.2)) 148 [(0, .ref 9)] [] m := by
        intro hg
        have hR : townR b i = (none, t.2.2.2.1, t.2.2.1, t.2.2.2.2) := by unfold townR; rw [ht]; dsimp only; rw [if_pos hg]
        rw [hR]
        obtain ⟨r, c, W, s, K⟩ := t
        obtain ⟨k1, k2, k3, k4, k5, k6, k7, k8⟩ := hok
        dsimp only at hn hW hk k1 k2 k3 k4 k5 k6 k7 k8 hg ⊢
        have hKm : cKinds m s K := ⟨hn, k4, fun c hc => ⟨hk c hc, k8 c hc⟩⟩
        have hrs : ∃ r', s = r' * W := by
          rcases hg with z | z
          · subst z
            have : (0, 0, 0, 0, fun _ => 0) = (r, c, W, s, K) := Option.some.inj ht
            cases this
            exact ⟨0, rfl⟩
          · exact ⟨r + 1, by rw [k5, z.2, Nat.succ_mul]⟩
        obtain ⟨r', hr'⟩ := hrs
        have hWp : s ≠ 0 → 1 ≤ W := by
          intro z
          rcases Nat.eq_zero_or_pos W with y | y
          · rw [y, Nat.mul_zero] at hr'; exact absurd hr' z
          · exact y
        obtain ⟨⟨r1, w1⟩, ⟨e1, f1, g1⟩, hD⟩ := d_layWays (d := d - 1) (by omega) hKm hW hWp k3 hr'
        dsimp only at e1 f1 g1
        subst e1
        refine am_go rfl ?_
        refine am_g0 rfl rfl ?_
        refine ⟨(none, w1), hD, ?_⟩
        iterate 2 refine am_g0 rfl rfl ?_
        refine ⟨rfl, rfl, ⟨fun k q1 q2 q3 => (f1.1 k q3).trans (hf.1 k q1 q2 q3), f1.2.trans hf.2⟩, ?_, ?_, k4, fun c hc => ?_, fun c hc a ha => ?_⟩
        · show w1.1 9 3 = nI W
          rw [f1.1 9 (by omega)]; exact hW
        · show w1.1 9 2 = nI s
          rw [f1.1 9 (by omega)]; exact hn
        · show w1.1 10 c = nI (K c) ∧ K c < 4
          rw [f1.1 10 (by omega)]; exact ⟨hk c hc, k8 c hc⟩
        · have hWc := hWp (by omega)
          have hto : toS s W c a < s := by
            unfold toS
            split
            · split <;> omega
            · split
              · split
                · rename_i hm
                  rcases Nat.lt_or_ge (c + 1) s with z | z
                  · exact z
                  · have e : c + 1 = r' * W := by omega
                    have e2 : (c + 1) % W = 0 := by rw [e]; exact Nat.mul_mod_left _ _
                    rw [modS hWc, if_pos hm] at e2
                    omega
                · exact hc
              · split
                · split
                  · assumption
                  · exact hc
                · split <;> omega
          refine ⟨g1 c hc a ha, ?_, fun hz => ?_⟩
          · unfold nxS; split
            · exact hc
            · exact hto
          · unfold nxS; split
            · exact hz
            · assumption
      refine am_go rfl ?_
      iterate 2 refine am_g0 rfl rfl ?_
      by_cases hi0 : i = 0
      · refine am_tt (show m.1 2 2 ≤ 0 by rw [hlen, hi0]; decide) ?_
        exact am_kl (good (Or.inl hi0)) rfl
      · refine am_ff (show ¬ m.1 2 2 ≤ 0 by rw [hlen]; exact nI_nle (by omega) (by omega)) ?_
        iterate 3 refine am_g0 rfl rfl ?_
        have hwh := d_isWhole (d := d - 1) (c := t.2.1) (W := t.2.2.1) (w := m) (by omega) hW (by have := hok.2.1; have := hok.2.2.1; omega) (by have := hok.2.2.1; omega)
        by_cases hc : 0 < t.2.1 ∧ t.2.1 = t.2.2.1
        · rw [decide_eq_true hc] at hwh
          refine ⟨(some (.int 1), m), hwh, ?_⟩
          refine am_g0 rfl rfl ?_
          exact am_kl (good (Or.inr hc)) rfl
        · rw [decide_eq_false hc] at hwh
          refine ⟨(some (.int 0), m), hwh, ?_⟩
          refine am_to (lv' := [(0, .ref 9), (1, .ref 2), (3, .int (nI t.2.1))]) (st' := [.int 0]) (w' := m) rfl rfl rfl ?_
          iterate 5 refine am_g0 rfl rfl ?_
          rw [hlen]
          refine ⟨(some (.int (nI i)), am_pi (am_pi m 9 2 0) 9 3 0), d_temptied (by omega), ?_⟩
          refine am_g0 rfl rfl ?_
          have hR : townR b i = (some i, 0, 0, fun _ => 0) := by unfold townR; rw [ht]; dsimp only; rw [if_neg (fun z => z.elim hi0 hc)]
          exact ⟨rfl, bad i m hf (by rw [hR]) (by rw [hR]) (by rw [hR])⟩
    | succ j ih =>
      intro i hi t m ht hf hn hW hk
      have hok := twok_tw ht
      have hlen : m.1 2 2 = nI n := by rw [hf.1 2 (by omega) (by omega) (by omega)]; exact h1
      obtain ⟨b1, b2⟩ := h3 i (by omega)
      have b1' : m.1 5 i = nI (b i) := by rw [hf.1 5 (by omega) (by omega) (by omega)]; exact b1
      refine am_go rfl ?_
      iterate 3 refine am_g0 rfl rfl ?_
      refine am_ff (show ¬ m.1 2 2 ≤ nI i by rw [hlen]; exact nI_ge (by omega) (by omega)) ?_
      refine am_to (lv' := [(0, .ref 9), (1, .ref 2), (2, .int (nI t.1)), (3, .int (nI t.2.1)), (4, .int (nI i))]) (st' := []) (w' := m) rfl rfl rfl ?_
      iterate 3 refine am_g0 rfl rfl ?_
      refine ⟨(some (.int (nI (b i))), m), d_signAt (t := 0) (d := d - 1) (n := n) (by omega) (by omega) hlen (by omega) h2 b1' b2, ?_⟩
      refine am_to (lv' := [(0, .ref 9), (1, .ref 2), (2, .int (nI t.1)), (3, .int (nI t.2.1)), (4, .int (nI i))]) (st' := [.int (nI (b i))]) (w' := m) rfl rfl rfl ?_
      iterate 4 refine am_g0 rfl rfl ?_
      -- a fault here
      have fault : twStep (b i) t = none → ∀ lv, am_kill mi_X8_load 51 lv = [(0, .ref 9), (4, .int (nI i))] → am_R shC mi_X8_load (am_D shC (d - 1)) (fun o => o.1 = some (.int (opI (townR b n).1)) ∧ am_f3 9 10 11 w o.2 ∧ o.2.1 9 3 = nI (townR b n).2.2.1 ∧ cTown o.2 (townR b n).2.1 (townR b n).2.2.2 (nxS (townR b n).2.1 (townR b n).2.2.1 (townR b n).2.2.2)) 51 lv [] m := by
        intro hst lv hlv
        refine am_kl (lv' := [(0, .ref 9), (4, .int (nI i))]) ?_ hlv
        have hn1 : tw b (i + 1) = none := by rw [tw, ht]; exact hst
        have hnn : tw b n = none := by rw [← hi, show i + (j + 1) = i + 1 + j by omega]; exact tw_none hn1 j
        have hFF : twF b n = some i := by rw [← hi, show i + (j + 1) = i + 1 + j by omega]; exact twF_at ht hn1 j
        have hR : townR b n = (some i, 0, 0, fun _ => 0) := by unfold townR; rw [hnn]; dsimp only; rw [hFF]
        refine am_go rfl ?_
        iterate 2 refine am_g0 rfl rfl ?_
        refine ⟨(some (.int (nI i)), am_pi (am_pi m 9 2 0) 9 3 0), d_temptied (by omega), ?_⟩
        refine am_g0 rfl rfl ?_
        exact ⟨rfl, bad i m hf (by rw [hR]) (by rw [hR]) (by rw [hR])⟩
      by_cases h6 : t.1 = 6
      · refine am_tt (show nI t.1 = 6 by rw [h6]; rfl) ?_
        exact fault (by unfold twStep; rw [if_pos h6]) _ rfl
      · refine am_ff (show ¬ nI t.1 = 6 from fun z => h6 ((nI_eq (b := 6) (by have := hok.1; omega) (by omega)).mp z)) ?_
        iterate 5 refine am_g0 rfl rfl ?_
        have hgo := d_goesOn (d := d - 1) (by omega) hW hn hok b2 h6
        cases hst : twStep (b i) t with
        | none =>
          rw [hst] at hgo
          refine ⟨(some (.int 0), m), hgo, ?_⟩
          refine am_to (lv' := [(0, .ref 9), (1, .ref 2), (2, .int (nI t.1)), (3, .int (nI t.2.1)), (4, .int (nI i)), (5, .int (nI (b i)))]) (st' := [.int 0]) (w' := m) rfl rfl rfl ?_
          refine am_g0 rfl rfl ?_
          exact fault hst _ rfl
        | some t' =>
          rw [hst] at hgo
          refine ⟨(some (.int 1), m), hgo, ?_⟩
          refine am_to (lv' := [(0, .ref 9), (1, .ref 2), (2, .int (nI t.1)), (3, .int (nI t.2.1)), (4, .int (nI i)), (5, .int (nI (b i)))]) (st' := [.int 1]) (w' := m) rfl rfl rfl ?_
          have ht' : tw b (i + 1) = some t' := by rw [tw, ht]; exact hst
          obtain ⟨r, c, W, s, K⟩ := t
          obtain ⟨k1, k2, k3, k4, k5, k6, k7, k8⟩ := hok
          dsimp only at hn hW hk k1 k2 k3 k4 k5 k6 k7 k8 h6 ⊢
          unfold twStep at hst
          dsimp only at hst
          rw [if_neg h6] at hst
          refine am_g0 rfl rfl ?_
          refine am_go rfl ?_
          iterate 2 refine am_g0 rfl rfl ?_
          by_cases h59 : b i = 59
          · rw [if_pos h59] at hst
            refine am_tt (show nI (b i) = 59 by rw [h59]; rfl) ?_
            iterate 4 refine am_g0 rfl rfl ?_
            refine am_go rfl ?_
            refine am_g0 rfl rfl ?_
            split at hst
            · cases hst
              have := ih (i + 1) (by omega) _ m ht' hf hn hW hk
              dsimp only at this
              rw [← nI_1, ← nI_1] at this
              exact am_kl this rfl
            · cases hst
          · rw [if_neg h59] at hst
            refine am_ff (show ¬ nI (b i) = 59 from fun z => h59 ((nI_eq (b := 59) (by omega) (by omega)).mp z)) ?_
            refine am_to (lv' := [(0, .ref 9), (1, .ref 2), (2, .int (nI r)), (3, .int (nI c)), (4, .int (nI i)), (5, .int (nI (b i)))]) (st' := []) (w' := m) rfl rfl rfl ?_
            refine am_go rfl ?_
            iterate 6 refine am_g0 rfl rfl ?_
            have hidx := d_indexOf (sh := shC) (w := m) (d := d - 1) (S := 1004) (v0 := 8) (l := [46, 35, 99, 114]) (by omega) rfl rfl (by decide) (by decide) b2
            rw [show ([46, 35, 99, 114] : List Int32).length = 4 from rfl, idx_cell (b i) b2] at hidx
            cases hk2 : cellN (b i) with
            | none => rw [hk2] at hst; cases hst
            | some k =>
              rw [hk2] at hst hidx
              dsimp only at hst
              by_cases hc : c < (if r = 0 then 6 else W) ∧ s < 36
              · rw [if_pos hc] at hst
                cases hst
                refine ⟨(some (.int (nI k)), m), hidx, ?_⟩
                refine am_to (lv' := [(0, .ref 9), (1, .ref 2), (2, .int (nI r)), (3, .int (nI c)), (4, .int (nI i)), (5, .int (nI (b i)))]) (st' := [.int (nI k), .int (nI s), .ref 10]) (w' := m) rfl (by show [_, Value.int (m.1 9 2), _] = _; rw [hn]) rfl ?_
                refine am_gsN (n := 36) rfl rfl hc.2 (by decide) ?_
                refine am_to (lv' := [(0, .ref 9), (1, .ref 2), (2, .int (nI r)), (3, .int (nI c)), (4, .int (nI i)), (5, .int (nI (b i)))]) (st' := []) (w' := am_pi m 10 s (nI k)) rfl rfl rfl ?_
                iterate 5 refine am_g0 rfl rfl ?_
                refine am_top (y := nI (s + 1)) (show m.1 9 2 + 1 = nI (s + 1) by rw [hn, nI_1]) ?_
                iterate 3 refine am_g0 rfl rfl ?_
                refine am_to (lv' := [(0, .ref 9), (1, .ref 2), (2, .int (nI r)), (3, .int (nI c + 1)), (4, .int (nI i)), (5, .int (nI (b i)))]) (st' := [.ref 9]) (w' := am_pi (am_pi m 10 s (nI k)) 9 2 (nI (s + 1))) rfl rfl rfl ?_
                have wid : ∀ x : Int32, x = nI (if r = 0 then c + 1 else W) → am_R shC mi_X8_load (am_D shC (d - 1)) (fun o => o.1 = some (.int (opI (townR b n).1)) ∧ am_f3 9 10 11 w o.2 ∧ o.2.1 9 3 = nI (townR b n).2.2.1 ∧ cTown o.2 (townR b n).2.1 (townR b n).2.2.2 (nxS (townR b n).2.1 (townR b n).2.2.1 (townR b n).2.2.2)) 115 [(0, .ref 9), (1, .ref 2), (2, .int (nI r)), (3, .int (nI c + 1)), (4, .int (nI i))] [.int x, .ref 9] (am_pi (am_pi m 10 s (nI k)) 9 2 (nI (s + 1))) := by
                  intro x hx
                  subst hx
                  refine am_go rfl ?_
                  refine am_go rfl ?_
                  refine am_g0 rfl rfl ?_
                  have := ih (i + 1) (by omega) _ (am_pi (am_pi (am_pi m 10 s (nI k)) 9 2 (nI (s + 1))) 9 3 (nI (if r = 0 then c + 1 else W))) ht' ⟨fun a q1 q2 q3 => ?_, hf.2⟩ rfl rfl (fun q hq => ?_)
                  · dsimp only at this
                    rw [← nI_1, ← nI_1] at this
                    exact am_kl this rfl
                  · rw [am_pi_row q1, am_pi_row q1, am_pi_row q2]
                    exact hf.1 a q1 q2 q3
                  · rw [am_pi_row (show 10 ≠ 9 by omega), am_pi_row (show 10 ≠ 9 by omega)]
                    show (am_pi m 10 s (nI k)).1 10 q = nI (if q = s then k else K q)
                    by_cases hqs : q = s
                    · subst hqs; rw [am_pi_at, if_pos rfl]
                    · rw [am_pi_ne (Or.inr hqs), if_neg hqs]
                      exact hk q (by have : q < s + 1 := hq; omega)
                iterate 2 refine am_g0 rfl rfl ?_
                by_cases hr : r = 0
                · refine am_tt (show nI r = 0 by rw [hr]; rfl) ?_
                  iterate 2 refine am_g0 rfl rfl ?_
                  exact am_kl (wid _ (by rw [if_pos hr, nI_1])) rfl
                · refine am_ff (show ¬ nI r = 0 from nI_ne0 (by omega) (by omega)) ?_
                  refine am_go rfl ?_
                  refine am_g0 rfl rfl ?_
                  exact am_kl (wid (m.1 9 3) (by rw [if_neg hr]; exact hW)) rfl
              · rw [if_neg hc] at hst
                cases hst
  exact am_kl (key n 0 (by omega) (0, 0, 0, 0, fun _ => 0) (am_pi (am_pi w 9 2 0) 9 3 0) rfl ⟨fun k q1 q2 q3 => by rw [am_pi_row q1, am_pi_row q1], rfl⟩ rfl rfl (fun k hk => absurd hk (Nat.not_lt_zero k))) rfl
end
section
/-! the lasts are taken from their text -/
/-- opens, how many before, kinds, lengths, letters -/
abbrev LaS : Type := Bool × Nat × (Nat → Nat) × (Nat → Nat) × (Nat → Nat → Nat)
def up1 (f : Nat → Nat) (k v : Nat) : Nat → Nat := fun i => if i = k then v else f i
def up2 (f : Nat → Nat → Nat) (k j v : Nat) : Nat → Nat → Nat := fun a b => if a = k ∧ b = j then v else f a b
def lsStep (v : Nat) (t : LaS) : Option LaS :=
  if t.1 = true then (match kindN v with
    | none => none
    | some k => if t.2.1 < 8 then some (false, t.2.1, up1 t.2.2.1 t.2.1 k, up1 t.2.2.2.1 t.2.1 0, t.2.2.2.2) else none)
  else if v = 59 then (if t.2.2.2.1 t.2.1 = 0 then none else some (true, t.2.1 + 1, t.2.2.1, t.2.2.2.1, t.2.2.2.2))
  else match wayN v with
    | none => none
    | some a => if t.2.2.2.1 t.2.1 < 4 then some (false, t.2.1, t.2.2.1, up1 t.2.2.2.1 t.2.1 (t.2.2.2.1 t.2.1 + 1), up2 t.2.2.2.2 t.2.1 (t.2.2.2.1 t.2.1) a) else none
def lsB (b : Nat → Nat) : Nat → Option LaS
  | 0 => some (true, 0, fun _ => 0, fun _ => 0, fun _ _ => 0)
  | i + 1 => (lsB b i).bind (lsStep (b i))
def lsF (b : Nat → Nat) : Nat → Option Nat
  | 0 => none
  | i + 1 => match lsF b i with
    | some f => some f
    | none => match lsB b (i + 1) with
      | none => some i
      | some _ => none
/-- fault, how many, kinds, lengths, letters -/
def lastsR (b : Nat → Nat) (n : Nat) : Option Nat × Nat × (Nat → Nat) × (Nat → Nat) × (Nat → Nat → Nat) := match lsB b n with
  | none => (lsF b n, 0, fun _ => 0, fun _ => 0, fun _ _ => 0)
  | some t => if n = 0 then (none, 0, fun _ => 0, fun _ => 0, fun _ _ => 0) else if t.1 = true ∨ t.2.2.2.1 t.2.1 = 0 then (some n, 0, fun _ => 0, fun _ => 0, fun _ _ => 0) else (none, t.2.1 + 1, t.2.2.1, t.2.2.2.1, t.2.2.2.2)
theorem ls_none {b : Nat → Nat} {i : Nat} (h : lsB b i = none) : ∀ k, lsB b (i + k) = none
  | 0 => h
  | k + 1 => by rw [show i + (k + 1) = (i + k) + 1 by omega, lsB, ls_none h k]; rfl
theorem lsF_none {b : Nat → Nat} : ∀ {i : Nat} {t : LaS}, lsB b i = some t → lsF b i = none
  | 0, _, _ => rfl
  | i + 1, t, h => by
    rw [lsF]
    cases hz : lsB b i with
    | none => rw [lsB, hz] at h; cases h
    | some t0 => rw [lsF_none hz, h]
theorem lsF_at {b : Nat → Nat} {i : Nat} {t : LaS} (h : lsB b i = some t) (h2 : lsB b (i + 1) = none) : ∀ k, lsF b (i + 1 + k) = some i
  | 0 => by show lsF b (i + 1) = some i; rw [lsF, lsF_none h, h2]
  | k + 1 => by rw [show i + 1 + (k + 1) = (i + 1 + k) + 1 by omega, lsF, lsF_at h h2 k]
/-- how many are begun -/
def lsM (t : LaS) : Nat := if t.1 = true then t.2.1 else t.2.1 + 1
def lsok (t : LaS) : Prop := lsM t ≤ 8 ∧ (∀ l, l < lsM t → t.2.2.1 l < 3 ∧ t.2.2.2.1 l ≤ 4 ∧ ∀ j, j < t.2.2.2.1 l → t.2.2.2.2 l j < 4) ∧ ∀ l, l < t.2.1 → 1 ≤ t.2.2.2.1 l
theorem kindN_lt {v k : Nat} (h : kindN v = some k) : k < 3 := by
  unfold kindN at h
  split at h
  · cases h; omega
  · split at h
    · cases h; omega
    · split at h
      · cases h; omega
      · cases h
theorem wayN_lt {v k : Nat} (h : wayN v = some k) : k < 4 := by
  unfold wayN at h
  split at h
  · cases h; omega
  · split at h
    · cases h; omega
    · split at h
      · cases h; omega
      · split at h
        · cases h; omega
        · cases h
theorem lsok_step {v : Nat} {t t' : LaS} (h : lsok t) (e : lsStep v t = some t') : lsok t' := by
  obtain ⟨op, m, kd, ln, lt⟩ := t
  obtain ⟨h1, h2, h3⟩ := h
  dsimp only at h1 h2 h3
  unfold lsStep at e
  dsimp only at e
  cases op with
  | true =>
    rw [if_pos rfl] at e
    have hM : lsM (true, m, kd, ln, lt) = m := rfl
    rw [hM] at h1 h2
    cases hk : kindN v with
    | none => rw [hk] at e; cases e
    | some k =>
      rw [hk] at e
      dsimp only at e
      by_cases hm : m < 8
      · rw [if_pos hm] at e
        cases e
        refine ⟨by show m + 1 ≤ 8; omega, fun l hl => ?_, fun l hl => ?_⟩
        · have hl : l < m + 1 := hl
          show up1 kd m k l < 3 ∧ up1 ln m 0 l ≤ 4 ∧ ∀ j, j < up1 ln m 0 l → lt l j < 4
          unfold up1
          by_cases he : l = m
          · rw [if_pos he, if_pos he]
            exact ⟨kindN_lt hk, by omega, fun j hj => absurd hj (Nat.not_lt_zero j)⟩
          · rw [if_neg he, if_neg he]
            exact h2 l (by omega)
        · have hl : l < m := hl
          show 1 ≤ up1 ln m 0 l
          unfold up1
          rw [if_neg (by omega)]
          exact h3 l hl
      · rw [if_neg hm] at e; cases e
  | false =>
    rw [if_neg (by decide)] at e
    have hM : lsM (false, m, kd, ln, lt) = m + 1 := rfl
    rw [hM] at h1 h2
    by_cases h59 : v = 59
    · rw [if_pos h59] at e
      by_cases hz : ln m = 0
      · rw [if_pos hz] at e; cases e
      · rw [if_neg hz] at e
        cases e
        refine ⟨h1, h2, fun l hl => ?_⟩
        have hl : l < m + 1 := hl
        by_cases he : l = m
        · subst he; show 1 ≤ ln l; omega
        · exact h3 l (by omega)
    · rw [if_neg h59] at e
      cases hk : wayN v with
      | none => rw [hk] at e; cases e
      | some a =>
        rw [hk] at e
        dsimp only at e
        by_cases hm : ln m < 4
        · rw [if_pos hm] at e
          cases e
          refine ⟨h1, fun l hl => ?_, fun l hl => ?_⟩
          · have hl : l < m + 1 := hl
            obtain ⟨g1, g2, g3⟩ := h2 l hl
            show kd l < 3 ∧ up1 ln m (ln m + 1) l ≤ 4 ∧ ∀ j, j < up1 ln m (ln m + 1) l → up2 lt m (ln m) a l j < 4
            unfold up1 up2
            by_cases he : l = m
            · subst he
              rw [if_pos rfl]
              refine ⟨g1, by omega, fun j hj => ?_⟩
              by_cases hj2 : j = ln l
              · rw [if_pos ⟨rfl, hj2⟩]; exact wayN_lt hk
              · rw [if_neg (fun z => hj2 z.2)]; exact g3 j (by omega)
            · rw [if_neg he]
              refine ⟨g1, g2, fun j hj => ?_⟩
              rw [if_neg (fun z => he z.1)]
              exact g3 j hj
          · have hl : l < m := hl
            show 1 ≤ up1 ln m (ln m + 1) l
            unfold up1
            rw [if_neg (by omega)]
            exact h3 l hl
        · rw [if_neg hm] at e; cases e
theorem lsok_ls {b : Nat → Nat} : ∀ {i : Nat} {t : LaS}, lsB b i = some t → lsok t
  | 0, t, h => by
    cases h
    exact ⟨Nat.zero_le _, fun l hl => absurd hl (Nat.not_lt_zero l), fun l hl => absurd hl (Nat.not_lt_zero l)⟩
  | i + 1, t, h => by
    rw [lsB] at h
    cases hz : lsB b i with
    | none => rw [hz] at h; cases h
    | some t0 => rw [hz] at h; exact lsok_step (lsok_ls hz) h
/-- the cells hold what is begun -/
def cLs (w : am_M) (t : LaS) : Prop := w.1 12 3 = nI t.2.1 ∧ ∀ l, l < lsM t → w.1 13 l = nI (t.2.2.1 l) ∧ w.1 14 l = nI (t.2.2.2.1 l) ∧ ∀ j, j < t.2.2.2.1 l → w.1 15 (4 * l + j) = nI (t.2.2.2.2 l j)
def am_fl (w w' : am_M) : Prop := (∀ k, k < 12 ∨ 16 ≤ k → w'.1 k = w.1 k) ∧ w'.2 = w.2
theorem am_fl.pi {w w' : am_M} {k j : Nat} {x : Int32} (h : am_fl w w') (hk : 12 ≤ k) (hk2 : k < 16) : am_fl w (am_pi w' k j x) := ⟨fun a ha => (am_pi_row (by omega)).trans (h.1 a ha), h.2⟩
theorem d_lemptied {d : Nat} {x : Int32} {w : am_M} (hd : 1 ≤ d) : am_D shC d mi_X0_emptied [.ref 12, .int x] w (some (.int x), am_pi w 12 3 0) := by
  refine am_def hd rfl rfl ?_
  iterate 5 refine am_g0 rfl rfl ?_
  exact ⟨rfl, rfl⟩
theorem d_opensLast {d v : Nat} {t : LaS} {w : am_M} (hd : 5 ≤ d) (ht : t.1 = true) (hc : cLs w t) (hok : lsok t) (hv : v < 256) : ∃ o : am_O, (o.1 = some (.int (b01 (lsStep v t).isSome)) ∧ am_fl w o.2 ∧ ∀ t', lsStep v t = some t' → cLs o.2 t') ∧ am_D shC d mi_X0_opensLast [.ref 12, .int (nI v)] w o := by
  obtain ⟨op, m, kd, ln, lt⟩ := t
  dsimp only at ht
  subst ht
  obtain ⟨h1, h2, h3⟩ := hok
  obtain ⟨c1, c2⟩ := hc
  have hM : lsM (true, m, kd, ln, lt) = m := rfl
  rw [hM] at h1 h2 c2
  dsimp only at c1 c2
  refine am_dex (by omega) rfl rfl ?_
  iterate 3 refine am_g0 rfl rfl ?_
  have hi := d_indexOf (sh := shC) (w := w) (d := d - 1) (S := 1005) (v0 := 9) (l := [112, 100, 116]) (by omega) rfl rfl (by decide) (by decide) hv
  rw [show ([112, 100, 116] : List Int32).length = 3 from rfl, idx_kind v hv] at hi
  refine ⟨(some (.int (opI (kindN v))), w), hi, ?_⟩
  refine am_to (lv' := [(0, .ref 12), (1, .int (nI v))]) (st' := [.int (opI (kindN v))]) (w' := w) rfl rfl rfl ?_
  iterate 3 refine am_g0 rfl rfl ?_
  cases hk : kindN v with
  | none =>
    have e : lsStep v (true, m, kd, ln, lt) = none := by unfold lsStep; dsimp only; rw [if_pos rfl, hk]
    rw [e]
    refine am_go rfl ?_
    refine am_g0 rfl rfl ?_
    exact ⟨rfl, rfl, ⟨fun _ _ => rfl, rfl⟩, fun t' z => by cases z⟩
  | some k =>
    refine am_ff (show ¬ opI (some k) < 0 from nI_pos (by have := kindN_lt hk; omega)) ?_
    iterate 4 refine am_g0 rfl rfl ?_
    by_cases hm : m < 8
    · have e : lsStep v (true, m, kd, ln, lt) = some (false, m, up1 kd m k, up1 ln m 0, lt) := by unfold lsStep; dsimp only; rw [if_pos rfl, hk]; dsimp only; rw [if_pos hm]
      rw [e]
      refine am_tt (show w.1 12 3 < 8 by rw [c1]; exact nI_lt (b := 8) hm (by omega)) ?_
      refine am_to (lv' := [(0, .ref 12), (1, .int (nI v)), (2, .int (nI k))]) (st' := []) (w' := w) rfl rfl rfl ?_
      refine am_go rfl ?_
      iterate 4 refine am_g0 rfl rfl ?_
      rw [c1]
      refine am_gsN (n := 8) rfl rfl hm (by decide) ?_
      refine am_to (lv' := [(0, .ref 12), (2, .int (nI k))]) (st' := []) (w' := am_pi w 13 m (nI k)) rfl rfl rfl ?_
      iterate 5 refine am_g0 rfl rfl ?_
      refine am_to (lv' := [(0, .ref 12), (2, .int (nI k))]) (st' := [.int 0, .int (nI m), .ref 14]) (w' := am_pi w 13 m (nI k)) rfl (by show [_, Value.int (w.1 12 3), _] = _; rw [c1]) rfl ?_
      refine am_gsN (n := 8) rfl rfl hm (by decide) ?_
      iterate 2 refine am_g0 rfl rfl ?_
      refine ⟨rfl, rfl, ⟨fun a ha => ?_, rfl⟩, fun t' z => ?_⟩
      · show (am_pi (am_pi w 13 m (nI k)) 14 m 0).1 a = w.1 a
        rw [am_pi_row (by omega), am_pi_row (by omega)]
      · cases z
        refine ⟨c1, fun l hl => ?_⟩
        have hl : l < m + 1 := hl
        show (am_pi (am_pi w 13 m (nI k)) 14 m 0).1 13 l = nI (up1 kd m k l) ∧ (am_pi (am_pi w 13 m (nI k)) 14 m 0).1 14 l = nI (up1 ln m 0 l) ∧ ∀ j, j < up1 ln m 0 l → (am_pi (am_pi w 13 m (nI k)) 14 m 0).1 15 (4 * l + j) = nI (lt l j)
        rw [am_pi_row (show 13 ≠ 14 by omega), am_pi_row (show 15 ≠ 14 by omega), am_pi_row (show 15 ≠ 13 by omega)]
        unfold up1
        by_cases he : l = m
        · subst he
          rw [am_pi_at, am_pi_at, if_pos rfl, if_pos rfl]
          exact ⟨rfl, rfl, fun j hj => absurd hj (Nat.not_lt_zero j)⟩
        · rw [am_pi_ne (Or.inr he), am_pi_ne (Or.inr he), am_pi_ne (Or.inr he), if_neg he, if_neg he]
          exact c2 l (by omega)
    · have e : lsStep v (true, m, kd, ln, lt) = none := by unfold lsStep; dsimp only; rw [if_pos rfl, hk]; dsimp only; rw [if_neg hm]
      rw [e]
      refine am_ff (show ¬ w.1 12 3 < 8 by rw [c1]; exact nI_nlt (b := 8) (by omega) (by omega)) ?_
      refine am_go rfl ?_
      refine am_g0 rfl rfl ?_
      exact ⟨rfl, rfl, ⟨fun _ _ => rfl, rfl⟩, fun t' z => by cases z⟩
theorem d_addLetter {d v : Nat} {t : LaS} {w : am_M} (hd : 5 ≤ d) (ht : t.1 = false) (h59 : v ≠ 59) (hc : cLs w t) (hok : lsok t) (hv : v < 256) : ∃ o : am_O, (o.1 = some (.int (b01 (lsStep v t).isSome)) ∧ am_fl w o.2 ∧ ∀ t', lsStep v t = some t' → cLs o.2 t') ∧ am_D shC d mi_X0_addLetter [.ref 12, .int (nI v)] w o := by
  obtain ⟨op, m, kd, ln, lt⟩ := t
  dsimp only at ht
  subst ht
  obtain ⟨h1, h2, h3⟩ := hok
  obtain ⟨c1, c2⟩ := hc
  have hM : lsM (false, m, kd, ln, lt) = m + 1 := rfl
  rw [hM] at h1 h2 c2
  dsimp only at c1 c2 h2
  obtain ⟨d1, d2, d3⟩ := c2 m (by omega)
  have hln := (h2 m (by omega)).2.1
  refine am_dex (by omega) rfl rfl ?_
  iterate 3 refine am_g0 rfl rfl ?_
  have hi := d_indexOf (sh := shC) (w := w) (d := d - 1) (S := 1006) (v0 := 10) (l := [110, 101, 115, 119]) (by omega) rfl rfl (by decide) (by decide) hv
  rw [show ([110, 101, 115, 119] : List Int32).length = 4 from rfl, idx_way v hv] at hi
  refine ⟨(some (.int (opI (wayN v))), w), hi, ?_⟩
  refine am_to (lv' := [(0, .ref 12), (1, .int (nI v))]) (st' := [.int (opI (wayN v))]) (w' := w) rfl rfl rfl ?_
  iterate 3 refine am_g0 rfl rfl ?_
  cases hk : wayN v with
  | none =>
    have e : lsStep v (false, m, kd, ln, lt) = none := by unfold lsStep; dsimp only; rw [if_neg (by decide), if_neg h59, hk]
    rw [e]
    refine am_go rfl ?_
    refine am_g0 rfl rfl ?_
    exact ⟨rfl, rfl, ⟨fun _ _ => rfl, rfl⟩, fun t' z => by cases z⟩
  | some a =>
    refine am_ff (show ¬ opI (some a) < 0 from nI_pos (by have := wayN_lt hk; omega)) ?_
    iterate 4 refine am_g0 rfl rfl ?_
    refine am_top c1 ?_
    refine am_glN (n := 8) rfl rfl (by omega) (by decide) ?_
    rw [d2]
    iterate 2 refine am_g0 rfl rfl ?_
    by_cases hm : ln m < 4
    · have e : lsStep v (false, m, kd, ln, lt) = some (false, m, kd, up1 ln m (ln m + 1), up2 lt m (ln m) a) := by unfold lsStep; dsimp only; rw [if_neg (by decide), if_neg h59, hk]; dsimp only; rw [if_pos hm]
      rw [e]
      refine am_tt (show nI (ln m) < 4 from nI_lt (b := 4) hm (by omega)) ?_
      refine am_to (lv' := [(0, .ref 12), (1, .int (nI v)), (2, .int (nI a))]) (st' := []) (w' := w) rfl rfl rfl ?_
      refine am_go rfl ?_
      iterate 9 refine am_g0 rfl rfl ?_
      refine am_top c1 ?_
      refine am_glN (n := 8) rfl rfl (by omega) (by decide) ?_
      rw [d2]
      refine am_g0 rfl rfl ?_
      refine am_top (y := nI (4 * m + ln m)) (by rw [c1, show (4 : Int32) = nI 4 from rfl, pk_mul, nI_add, Nat.mul_comm]) ?_
      refine am_g0 rfl rfl ?_
      refine am_gsN (n := 32) rfl rfl (by omega) (by decide) ?_
      refine am_to (lv' := [(0, .ref 12), (2, .int (nI a))]) (st' := []) (w' := am_pi w 15 (4 * m + ln m) (nI a)) rfl rfl rfl ?_
      iterate 4 refine am_g0 rfl rfl ?_
      refine am_to (lv' := [(0, .ref 12), (2, .int (nI a))]) (st' := [.int (nI m), .ref 14]) (w' := am_pi w 15 (4 * m + ln m) (nI a)) rfl (by show [Value.int (w.1 12 3), _] = _; rw [c1]) rfl ?_
      refine am_g0 rfl rfl ?_
      refine am_glN (n := 8) rfl rfl (by omega) (by decide) ?_
      iterate 2 refine am_g0 rfl rfl ?_
      refine am_top (y := nI (ln m + 1)) (show w.1 14 m + 1 = nI (ln m + 1) by rw [d2, nI_1]) ?_
      refine am_gsN (n := 8) rfl rfl (by omega) (by decide) ?_
      iterate 2 refine am_g0 rfl rfl ?_
      refine ⟨rfl, rfl, ⟨fun q hq => ?_, rfl⟩, fun t' z => ?_⟩
      · show (am_pi (am_pi w 15 (4 * m + ln m) (nI a)) 14 m (nI (ln m + 1))).1 q = w.1 q
        rw [am_pi_row (by omega), am_pi_row (by omega)]
      · cases z
        refine ⟨c1, fun l hl => ?_⟩
        have hl : l < m + 1 := hl
        show (am_pi (am_pi w 15 (4 * m + ln m) (nI a)) 14 m (nI (ln m + 1))).1 13 l = nI (kd l) ∧ (am_pi (am_pi w 15 (4 * m + ln m) (nI a)) 14 m (nI (ln m + 1))).1 14 l = nI (up1 ln m (ln m + 1) l) ∧ ∀ j, j < up1 ln m (ln m + 1) l → (am_pi (am_pi w 15 (4 * m + ln m) (nI a)) 14 m (nI (ln m + 1))).1 15 (4 * l + j) = nI (up2 lt m (ln m) a l j)
        obtain ⟨x1, x2, x3⟩ := c2 l hl
        have hl4 := (h2 l hl).2.1
        rw [am_pi_row (show 13 ≠ 14 by omega), am_pi_row (show 13 ≠ 15 by omega), am_pi_row (show 15 ≠ 14 by omega)]
        unfold up1 up2
        by_cases he : l = m
        · subst he
          rw [am_pi_at, if_pos rfl]
          refine ⟨x1, rfl, fun j hj => ?_⟩
          by_cases hj2 : j = ln l
          · subst hj2; rw [am_pi_at, if_pos ⟨rfl, rfl⟩]
          · rw [am_pi_ne (Or.inr (by omega)), if_neg (fun z => hj2 z.2)]
            exact x3 j (by omega)
        · rw [am_pi_ne (Or.inr he), am_pi_row (show 14 ≠ 15 by omega), if_neg he]
          refine ⟨x1, x2, fun j hj => ?_⟩
          rw [am_pi_ne (Or.inr (by omega)), if_neg (fun z => he z.1)]
          exact x3 j hj
    · have e : lsStep v (false, m, kd, ln, lt) = none := by unfold lsStep; dsimp only; rw [if_neg (by decide), if_neg h59, hk]; dsimp only; rw [if_neg hm]
      rw [e]
      refine am_ff (show ¬ nI (ln m) < 4 from nI_nlt (b := 4) (by omega) (by omega)) ?_
      refine am_go rfl ?_
      refine am_g0 rfl rfl ?_
      exact ⟨rfl, rfl, ⟨fun _ _ => rfl, rfl⟩, fun t' z => by cases z⟩
set_option maxHeartbeats 4000000 in
theorem d_lload {d n : Nat} {b : Nat → Nat} {w : am_M} (hd : 6 ≤ d) (hT : cText w 1 n b) : ∃ o : am_O, (o.1 = some (.int (opI (lastsR b n).1)) ∧ am_fl w o.2 ∧ cLasts o.2 (lastsR b n).2.1 (lastsR b n).2.2.1 (lastsR b n).2.2.2.1 (lastsR b n).2.2.2.2) ∧ am_D shC d mi_X0_load [.ref 12, .ref 3] w o := by
  obtain ⟨h1, h2, h3⟩ := hT
  refine am_dex (by omega) rfl rfl ?_
  iterate 7 refine am_g0 rfl rfl ?_
  have bad : ∀ (f : Nat) (m : am_M), am_fl w m → (lastsR b n).1 = some f → (lastsR b n).2.1 = 0 → (fun o : am_O => o.1 = some (.int (opI (lastsR b n).1)) ∧ am_fl w o.2 ∧ cLasts o.2 (lastsR b n).2.1 (lastsR b n).2.2.1 (lastsR b n).2.2.2.1 (lastsR b n).2.2.2.2) (some (.int (nI f)), am_pi m 12 3 0) := by
    intro f m hf e1 e2
    refine ⟨by rw [e1]; rfl, hf.pi (by omega) (by omega), ?_⟩
    rw [e2]
    exact ⟨rfl, Nat.zero_le _, fun l hl => absurd hl (Nat.not_lt_zero l)⟩
  have key : ∀ j i : Nat, i + j = n → ∀ (t : LaS) (m : am_M), lsB b i = some t → am_fl w m → cLs m t → am_R shC mi_X0_load (am_D shC (d - 1)) (fun o => o.1 = some (.int (opI (lastsR b n).1)) ∧ am_fl w o.2 ∧ cLasts o.2 (lastsR b n).2.1 (lastsR b n).2.2.1 (lastsR b n).2.2.2.1 (lastsR b n).2.2.2.2) 9 [(0, .ref 12), (1, .ref 3), (2, .int (b01 t.1)), (3, .int (nI i))] [] m := by
    intro j
    induction j with
    | zero =>
      intro i hi t m ht hf hc
      have hok := lsok_ls ht
      have e9 : i = n := by omega
      subst e9
      have hlen : m.1 3 2 = nI i := by rw [hf.1 3 (by omega)]; exact h1
      refine am_go rfl ?_
      iterate 3 refine am_g0 rfl rfl ?_
      refine am_tt (show m.1 3 2 ≤ nI i by rw [hlen]; exact nI_le (Nat.le_refl _) (by omega)) ?_
      refine am_to (lv' := [(0, .ref 12), (1, .ref 3), (2, .int (b01 t.1)), (3, .int (nI i))]) (st' := []) (w' := m) rfl rfl rfl ?_
      refine am_go rfl ?_
      iterate 2 refine am_g0 rfl rfl ?_
      by_cases hi0 : i = 0
      · refine am_tt (show m.1 3 2 = 0 by rw [hlen, hi0]; rfl) ?_
        iterate 2 refine am_g0 rfl rfl ?_
        subst hi0
        cases ht
        refine ⟨rfl, rfl, hf, hc.1, Nat.zero_le _, fun l hl => absurd hl (Nat.not_lt_zero l)⟩
      · refine am_ff (show ¬ m.1 3 2 = 0 by rw [hlen]; exact nI_ne0 (by omega) (by omega)) ?_
        -- it ends too early
        have early : (t.1 = true ∨ t.2.2.2.1 t.2.1 = 0) → ∀ lv, am_kill mi_X0_load 135 lv = [(0, .ref 12), (1, .ref 3)] → am_R shC mi_X0_load (am_D shC (d - 1)) (fun o => o.1 = some (.int (opI (lastsR b i).1)) ∧ am_fl w o.2 ∧ cLasts o.2 (lastsR b i).2.1 (lastsR b i).2.2.1 (lastsR b i).2.2.2.1 (lastsR b i).2.2.2.2) 135 lv [] m := by
          intro hz lv hlv
          refine am_kl (lv' := [(0, .ref 12), (1, .ref 3)]) ?_ hlv
          have hR : lastsR b i = (some i, 0, fun _ => 0, fun _ => 0, fun _ _ => 0) := by unfold lastsR; rw [ht]; dsimp only; rw [if_neg hi0, if_pos hz]
          refine am_go rfl ?_
          iterate 3 refine am_g0 rfl rfl ?_
          rw [hlen]
          refine ⟨(some (.int (nI i)), am_pi m 12 3 0), d_lemptied (by omega), ?_⟩
          refine am_g0 rfl rfl ?_
          exact ⟨rfl, bad i m hf (by rw [hR]) (by rw [hR])⟩
        refine am_go rfl ?_
        obtain ⟨op, mm, kd, ln, lt⟩ := t
        cases op with
        | true =>
          refine am_to (lv' := [(0, .ref 12), (1, .ref 3), (2, .int 1)]) (st' := [.int 1]) (w' := m) rfl rfl rfl ?_
          refine am_g0 rfl rfl ?_
          exact early (Or.inl rfl) _ rfl
        | false =>
          refine am_to (lv' := [(0, .ref 12), (1, .ref 3), (2, .int 0)]) (st' := [.int 0]) (w' := m) rfl rfl rfl ?_
          obtain ⟨k1, k2, k3⟩ := hok
          obtain ⟨c1, c2⟩ := hc
          have hM : lsM (false, mm, kd, ln, lt) = mm + 1 := rfl
          rw [hM] at k1 k2 c2
          dsimp only at c1 c2 k2 k3
          obtain ⟨d1, d2, d3⟩ := c2 mm (by omega)
          iterate 5 refine am_g0 rfl rfl ?_
          refine am_top c1 ?_
          refine am_glN (n := 8) rfl rfl (by omega) (by decide) ?_
          rw [d2]
          refine am_g0 rfl rfl ?_
          by_cases hz : ln mm = 0
          · refine am_tt (show nI (ln mm) = 0 by rw [hz]; rfl) ?_
            exact early (Or.inr hz) _ rfl
          · refine am_ff (show ¬ nI (ln mm) = 0 from nI_ne0 (by omega) (by have := (k2 mm (by omega)).2.1; omega)) ?_
            have hR : lastsR b i = (none, mm + 1, kd, ln, lt) := by unfold lastsR; rw [ht]; dsimp only; rw [if_neg hi0, if_neg (fun z => z.elim (fun y => by cases y) hz)]
            rw [hR]
            refine am_go rfl ?_
            iterate 4 refine am_g0 rfl rfl ?_
            refine am_top (y := nI (mm + 1)) (show m.1 12 3 + 1 = nI (mm + 1) by rw [c1, nI_1]) ?_
            iterate 3 refine am_g0 rfl rfl ?_
            refine ⟨rfl, rfl, hf.pi (by omega) (by omega), rfl, k1, fun l hl => ?_⟩
            have hl : l < mm + 1 := hl
            obtain ⟨x1, x2, x3⟩ := c2 l hl
            obtain ⟨y1, y2, y3⟩ := k2 l hl
            refine ⟨x1, y1, x2, ?_, y2, fun j hj => ⟨x3 j hj, y3 j hj⟩⟩
            by_cases he : l = mm
            · subst he; show 1 ≤ ln l; omega
            · exact k3 l (by omega)
    | succ j ih =>
      intro i hi t m ht hf hc
      have hok := lsok_ls ht
      have hlen : m.1 3 2 = nI n := by rw [hf.1 3 (by omega)]; exact h1
      obtain ⟨b1, b2⟩ := h3 i (by omega)
      have b1' : m.1 6 i = nI (b i) := by rw [hf.1 6 (by omega)]; exact b1
      refine am_go rfl ?_
      iterate 3 refine am_g0 rfl rfl ?_
      refine am_ff (show ¬ m.1 3 2 ≤ nI i by rw [hlen]; exact nI_ge (by omega) (by omega)) ?_
      refine am_to (lv' := [(0, .ref 12), (1, .ref 3), (2, .int (b01 t.1)), (3, .int (nI i))]) (st' := []) (w' := m) rfl rfl rfl ?_
      iterate 3 refine am_g0 rfl rfl ?_
      refine ⟨(some (.int (nI (b i))), m), d_signAt (t := 1) (d := d - 1) (n := n) (by omega) (by omega) hlen (by omega) h2 b1' b2, ?_⟩
      refine am_to (lv' := [(0, .ref 12), (1, .ref 3), (2, .int (b01 t.1)), (3, .int (nI i))]) (st' := [.int (nI (b i))]) (w' := m) rfl rfl rfl ?_
      have fault : lsStep (b i) t = none → ∀ m1, am_fl w m1 → ∀ lv, am_kill mi_X0_load 71 lv = [(0, .ref 12), (3, .int (nI i))] → am_R shC mi_X0_load (am_D shC (d - 1)) (fun o => o.1 = some (.int (opI (lastsR b n).1)) ∧ am_fl w o.2 ∧ cLasts o.2 (lastsR b n).2.1 (lastsR b n).2.2.1 (lastsR b n).2.2.2.1 (lastsR b n).2.2.2.2) 71 lv [] m1 := by
        intro hst m1 hf1 lv hlv
        refine am_kl (lv' := [(0, .ref 12), (3, .int (nI i))]) ?_ hlv
        have hn1 : lsB b (i + 1) = none := by rw [lsB, ht]; exact hst
        have hnn : lsB b n = none := by rw [← hi, show i + (j + 1) = i + 1 + j by omega]; exact ls_none hn1 j
        have hFF : lsF b n = some i := by rw [← hi, show i + (j + 1) = i + 1 + j by omega]; exact lsF_at ht hn1 j
        have hR : lastsR b n = (some i, 0, fun _ => 0, fun _ => 0, fun _ _ => 0) := by unfold lastsR; rw [hnn]; dsimp only; rw [hFF]
        refine am_go rfl ?_
        iterate 2 refine am_g0 rfl rfl ?_
        refine ⟨(some (.int (nI i)), am_pi m1 12 3 0), d_lemptied (by omega), ?_⟩
        refine am_g0 rfl rfl ?_
        exact ⟨rfl, bad i m1 hf1 (by rw [hR]) (by rw [hR])⟩
      -- the sign is taken
      have taken : ∀ t', lsStep (b i) t = some t' → (b i = 59 ↔ t'.1 = true) → ∀ m1, am_fl w m1 → m1.1 12 3 = nI t.2.1 → (∀ l, l < lsM t' → m1.1 13 l = nI (t'.2.2.1 l) ∧ m1.1 14 l = nI (t'.2.2.2.1 l) ∧ ∀ j, j < t'.2.2.2.1 l → m1.1 15 (4 * l + j) = nI (t'.2.2.2.2 l j)) → t'.2.1 = (if b i = 59 then t.2.1 + 1 else t.2.1) → ∀ lv, am_kill mi_X0_load 77 lv = [(0, .ref 12), (1, .ref 3), (3, .int (nI i)), (4, .int (nI (b i)))] → am_R shC mi_X0_load (am_D shC (d - 1)) (fun o => o.1 = some (.int (opI (lastsR b n).1)) ∧ am_fl w o.2 ∧ cLasts o.2 (lastsR b n).2.1 (lastsR b n).2.2.1 (lastsR b n).2.2.2.1 (lastsR b n).2.2.2.2) 77 lv [] m1 := by
        intro t' hst hop m1 hf1 hsz hcl hm' lv hlv
        refine am_kl (lv' := [(0, .ref 12), (1, .ref 3), (3, .int (nI i)), (4, .int (nI (b i)))]) ?_ hlv
        have ht' : lsB b (i + 1) = some t' := by rw [lsB, ht]; exact hst
        refine am_go rfl ?_
        iterate 2 refine am_g0 rfl rfl ?_
        by_cases h59 : b i = 59
        · rw [if_pos h59] at hm'
          refine am_tt (show nI (b i) = 59 by rw [h59]; rfl) ?_
          iterate 2 refine am_g0 rfl rfl ?_
          refine am_to (lv' := [(0, .ref 12), (1, .ref 3), (3, .int (nI i)), (4, .int (nI (b i)))]) (st' := [.int 1]) (w' := m1) rfl rfl rfl ?_
          refine am_go rfl ?_
          iterate 7 refine am_g0 rfl rfl ?_
          refine am_top (y := nI (t.2.1 + 1)) (show m1.1 12 3 + 1 = nI (t.2.1 + 1) by rw [hsz, nI_1]) ?_
          refine am_g0 rfl rfl ?_
          refine am_to (lv' := [(0, .ref 12), (1, .ref 3), (2, .int 1), (3, .int (nI i))]) (st' := []) (w' := am_pi m1 12 3 (nI (t.2.1 + 1))) rfl rfl rfl ?_
          refine am_go rfl ?_
          refine am_g0 rfl rfl ?_
          have := ih (i + 1) (by omega) t' (am_pi m1 12 3 (nI (t.2.1 + 1))) ht' (hf1.pi (by omega) (by omega)) ⟨by rw [am_pi_at, hm'], hcl⟩
          rw [hop.mp h59, ← nI_1] at this
          exact this
        · rw [if_neg h59] at hm'
          refine am_ff (show ¬ nI (b i) = 59 from fun z => h59 ((nI_eq (b := 59) (by omega) (by omega)).mp z)) ?_
          refine am_go rfl ?_
          refine am_to (lv' := [(0, .ref 12), (1, .ref 3), (3, .int (nI i))]) (st' := [.int 0]) (w' := m1) rfl rfl rfl ?_
          refine am_go rfl ?_
          iterate 2 refine am_g0 rfl rfl ?_
          refine am_go rfl ?_
          refine am_g0 rfl rfl ?_
          have hof : t'.1 = false := by
            cases hz : t'.1 with
            | false => rfl
            | true => exact absurd (hop.mpr hz) h59
          have := ih (i + 1) (by omega) t' m1 ht' hf1 ⟨by rw [hm']; exact hsz, hcl⟩
          rw [hof, ← nI_1] at this
          exact this
      refine am_g0 rfl rfl ?_
      refine am_g0 rfl rfl ?_
      obtain ⟨op, mm, kd, ln, lt⟩ := t
      cases op with
      | true =>
        refine am_to (lv' := [(0, .ref 12), (1, .ref 3), (2, .int 1), (3, .int (nI i)), (4, .int (nI (b i)))]) (st' := [.int 1]) (w' := m) rfl rfl rfl ?_
        iterate 4 refine am_g0 rfl rfl ?_
        obtain ⟨⟨r1, w1⟩, ⟨e1, f1, g1⟩, hD⟩ := d_opensLast (d := d - 1) (by omega) rfl hc hok b2
        dsimp only at e1 f1 g1
        subst e1
        have hf1 : am_fl w w1 := ⟨fun k hk => (f1.1 k hk).trans (hf.1 k hk), f1.2.trans hf.2⟩
        cases hst : lsStep (b i) (true, mm, kd, ln, lt) with
        | none =>
          rw [hst] at hD
          refine ⟨(some (.int 0), w1), hD, ?_⟩
          iterate 2 refine am_g0 rfl rfl ?_
          exact fault hst w1 hf1 _ rfl
        | some t' =>
          rw [hst] at hD
          refine ⟨(some (.int 1), w1), hD, ?_⟩
          refine am_g0 rfl rfl ?_
          obtain ⟨x1, x2⟩ := g1 t' hst
          have hn59 : b i ≠ 59 := fun z => by
            unfold lsStep at hst
            dsimp only at hst
            rw [if_pos rfl, z] at hst
            cases hst
          have hshape : t'.1 = false ∧ t'.2.1 = mm := by
            unfold lsStep at hst
            dsimp only at hst
            rw [if_pos rfl] at hst
            cases hk : kindN (b i) with
            | none => rw [hk] at hst; cases hst
            | some k =>
              rw [hk] at hst
              dsimp only at hst
              by_cases hm : mm < 8
              · rw [if_pos hm] at hst; cases hst; exact ⟨rfl, rfl⟩
              · rw [if_neg hm] at hst; cases hst
          exact taken t' hst ⟨fun z => absurd z hn59, fun z => by rw [hshape.1] at z; cases z⟩ w1 hf1 (by rw [x1, hshape.2]) x2 (by rw [if_neg hn59]; exact hshape.2) _ rfl
      | false =>
        refine am_to (lv' := [(0, .ref 12), (1, .ref 3), (2, .int 0), (3, .int (nI i)), (4, .int (nI (b i)))]) (st' := [.int 0]) (w' := m) rfl rfl rfl ?_
        refine am_g0 rfl rfl ?_
        refine am_go rfl ?_
        refine am_to (lv' := [(0, .ref 12), (1, .ref 3), (3, .int (nI i)), (4, .int (nI (b i)))]) (st' := [.int (nI (b i))]) (w' := m) rfl rfl rfl ?_
        iterate 2 refine am_g0 rfl rfl ?_
        by_cases h59 : b i = 59
        · refine am_tt (show nI (b i) = 59 by rw [h59]; rfl) ?_
          obtain ⟨k1, k2, k3⟩ := id hok
          obtain ⟨c1, c2⟩ := id hc
          have hM : lsM (false, mm, kd, ln, lt) = mm + 1 := rfl
          rw [hM] at k1 k2 c2
          dsimp only at c1 c2 k2 k3
          obtain ⟨d1, d2, d3⟩ := c2 mm (by omega)
          iterate 4 refine am_g0 rfl rfl ?_
          refine am_top c1 ?_
          refine am_glN (n := 8) rfl rfl (by omega) (by decide) ?_
          rw [d2]
          refine am_g0 rfl rfl ?_
          by_cases hz : ln mm = 0
          · refine am_tt (show nI (ln mm) = 0 by rw [hz]; rfl) ?_
            refine am_g0 rfl rfl ?_
            exact fault (by unfold lsStep; dsimp only; rw [if_neg (by decide), if_pos h59, if_pos hz]) m hf _ rfl
          · refine am_ff (show ¬ nI (ln mm) = 0 from nI_ne0 (by omega) (by have := (k2 mm (by omega)).2.1; omega)) ?_
            exact taken (true, mm + 1, kd, ln, lt) (by unfold lsStep; dsimp only; rw [if_neg (by decide), if_pos h59, if_neg hz]) ⟨fun _ => rfl, fun _ => h59⟩ m hf c1 c2 (by rw [if_pos h59]) _ rfl
        · refine am_ff (show ¬ nI (b i) = 59 from fun z => h59 ((nI_eq (b := 59) (by omega) (by omega)).mp z)) ?_
          refine am_go rfl ?_
          iterate 2 refine am_g0 rfl rfl ?_
          obtain ⟨⟨r1, w1⟩, ⟨e1, f1, g1⟩, hD⟩ := d_addLetter (d := d - 1) (by omega) rfl h59 hc hok b2
          dsimp only at e1 f1 g1
          subst e1
          have hf1 : am_fl w w1 := ⟨fun k hk => (f1.1 k hk).trans (hf.1 k hk), f1.2.trans hf.2⟩
          cases hst : lsStep (b i) (false, mm, kd, ln, lt) with
          | none =>
            rw [hst] at hD
            refine ⟨(some (.int 0), w1), hD, ?_⟩
            refine am_g0 rfl rfl ?_
            exact fault hst w1 hf1 _ rfl
          | some t' =>
            rw [hst] at hD
            refine ⟨(some (.int 1), w1), hD, ?_⟩
            refine am_g0 rfl rfl ?_
            obtain ⟨x1, x2⟩ := g1 t' hst
            have hshape : t'.1 = false ∧ t'.2.1 = mm := by
              unfold lsStep at hst
              dsimp only at hst
              rw [if_neg (by decide), if_neg h59] at hst
              cases hk : wayN (b i) with
              | none => rw [hk] at hst; cases hst
              | some k =>
                rw [hk] at hst
                dsimp only at hst
                by_cases hm : ln mm < 4
                · rw [if_pos hm] at hst; cases hst; exact ⟨rfl, rfl⟩
                · rw [if_neg hm] at hst; cases hst
            exact taken t' hst ⟨fun z => absurd z h59, fun z => by rw [hshape.1] at z; cases z⟩ w1 hf1 (by rw [x1, hshape.2]) x2 (by rw [if_neg h59]; exact hshape.2) _ rfl
  exact key n 0 (by omega) (true, 0, fun _ => 0, fun _ => 0, fun _ _ => 0) (am_pi w 12 3 0) rfl ⟨fun k hk => am_pi_row (by omega), rfl⟩ ⟨rfl, fun l hl => absurd hl (Nat.not_lt_zero l)⟩
end
section
/-! the people are taken from their text -/
theorem am_glE {sh : List am_S} {mid : Nat} {call : Nat → List Value → am_M → am_O → Prop} {post : am_O → Prop} {pc : Nat} {lv : am_L} {st : List Value} {w : am_M} {v : Int32} {nx tg : Nat} {b n k : Nat} {i : Int32} (he : am_at mid pc = some (.iaload, v, nx, tg)) (hn : am_ln sh b = some n) (hi : i = nI k) (hk : k < n) (hn2 : n < 2 ^ 31) (h : am_R sh mid call post nx (am_kill mid pc lv) (.int (w.1 b k) :: st) w) : am_R sh mid call post pc lv (.int i :: .ref b :: st) w := by
  subst hi
  exact am_glN he hn hk hn2 h
theorem am_topL {sh : List am_S} {mid : Nat} {call : Nat → List Value → am_M → am_O → Prop} {post : am_O → Prop} {pc : Nat} {lv : am_L} {st : List Value} {w : am_M} {x y : Int64} (h : x = y) (k : am_R sh mid call post pc lv (.long y :: st) w) : am_R sh mid call post pc lv (.long x :: st) w := by rw [h]; exact k
theorem nne {a b : Nat} (h : a ≠ b) (ha : a < 2 ^ 31) (hb : b < 2 ^ 31) : ¬ nI a = nI b := fun z => h ((nI_eq ha hb).mp z)
theorem am_f3.rf {a b c : Nat} {w : am_M} : am_f3 a b c w w := ⟨fun _ _ _ _ => rfl, rfl⟩
theorem am_f3.tr {a b c : Nat} {w w' w'' : am_M} (h : am_f3 a b c w w') (h' : am_f3 a b c w' w'') : am_f3 a b c w w'' := ⟨fun k h1 h2 h3 => (h'.1 k h1 h2 h3).trans (h.1 k h1 h2 h3), h'.2.trans h.2⟩
theorem am_f3.pi {a b c k j : Nat} {w w' : am_M} {x : Int32} (h : am_f3 a b c w w') (hk : k = a ∨ k = b ∨ k = c) : am_f3 a b c w (am_pi w' k j x) := ⟨fun e h1 h2 h3 => (am_pi_row (by omega)).trans (h.1 e h1 h2 h3), h.2⟩
/-- the highest figure at a place -/
def hiF (k : Nat) : Nat := if k = 0 then 3 else if k = 1 then 9 else if k = 2 then 7 else if k = 3 then 7 else 5
/-- a person's sign at a place, as a number -/
def figN (k v : Nat) : Option Nat := if k = 6 then (if v = 59 then some 0 else none) else if k = 5 then wayN v else if 48 ≤ v ∧ v ≤ 48 + hiF k then some (v - 48) else none
theorem hiF_at (k : Nat) (h : k < 5) : ([3, 9, 7, 7, 5] : List Int32)[k]? = some (nI (hiF k)) := by
  match k, h with
  | 0, _ => rfl
  | 1, _ => rfl
  | 2, _ => rfl
  | 3, _ => rfl
  | 4, _ => rfl
theorem hiF_le (k : Nat) : hiF k ≤ 9 := by unfold hiF; split; omega; split; omega; split; omega; split; omega; omega
theorem opt_or {α : Type} (o : Option α) : o = none ∨ ∃ a, o = some a := by
  cases o with
  | none => exact Or.inl rfl
  | some a => exact Or.inr ⟨a, rfl⟩
theorem opI_neg {o : Option Nat} (h : ∀ k, o = some k → k < 2 ^ 31) : opI o < 0 ↔ o = none := by
  cases o with
  | none => exact ⟨fun _ => rfl, fun _ => by decide⟩
  | some k => exact ⟨fun z => absurd z (nI_pos (h k rfl)), fun z => by cases z⟩
theorem d_fits {d k v : Nat} {w : am_M} (hd : 5 ≤ d) (hk : k < 7) (hv : v < 256) : am_D shC d mi_X2_fits [.int (nI k), .int (nI v)] w (some (.int (b01 (figN k v).isSome)), w) := by
  refine am_def (by omega) rfl rfl ?_
  iterate 3 refine am_g0 rfl rfl ?_
  by_cases h6 : k = 6
  · refine am_tt (show (nI k : Int32) = 6 from by rw [h6]; rfl) ?_
    iterate 3 refine am_g0 rfl rfl ?_
    by_cases h : v = 59
    · refine am_tt (show (nI v : Int32) = 59 from by rw [h]; rfl) ?_
      iterate 2 refine am_g0 rfl rfl ?_
      refine am_go rfl ?_
      exact ⟨rfl, by unfold figN; rw [if_pos h6, if_pos h]; rfl⟩
    · refine am_ff (show ¬ (nI v : Int32) = 59 from nne (b := 59) h (by omega) (by omega)) ?_
      refine am_go rfl ?_
      refine am_go rfl ?_
      exact ⟨rfl, by unfold figN; rw [if_pos h6, if_neg h]; rfl⟩
  · refine am_ff (show ¬ (nI k : Int32) = 6 from nne (b := 6) h6 (by omega) (by omega)) ?_
    refine am_go rfl ?_
    iterate 2 refine am_g0 rfl rfl ?_
    by_cases h5 : k = 5
    · refine am_tt (show (nI k : Int32) = 5 from by rw [h5]; rfl) ?_
      iterate 3 refine am_g0 rfl rfl ?_
      refine ⟨(some (.int (opI (wayN v))), w), by rw [← idx_way v hv]; exact d_indexOf (S := 1007) (v0 := 11) (l := [110, 101, 115, 119]) (by omega) rfl rfl (by decide) (by decide) hv, ?_⟩
      refine am_to (lv' := [(0, .int (nI k)), (1, .int (nI v))]) (st' := [.int (opI (wayN v))]) (w' := w) rfl rfl rfl ?_
      refine am_g0 rfl rfl ?_
      rcases opt_or (wayN v) with hw | ⟨a, hw⟩
      · refine am_tt (show (opI (wayN v) : Int32) < 0 from by rw [hw]; decide) ?_
        refine am_go rfl ?_
        refine am_go rfl ?_
        exact ⟨rfl, by unfold figN; rw [if_neg h6, if_pos h5, hw]; rfl⟩
      · refine am_ff (show ¬ (opI (wayN v) : Int32) < 0 from by rw [hw]; exact nI_pos (by have := wayN_lt hw; omega)) ?_
        iterate 2 refine am_g0 rfl rfl ?_
        refine am_go rfl ?_
        exact ⟨rfl, by unfold figN; rw [if_neg h6, if_pos h5, hw]; rfl⟩
    · refine am_ff (show ¬ (nI k : Int32) = 5 from nne (b := 5) h5 (by omega) (by omega)) ?_
      refine am_go rfl ?_
      iterate 2 refine am_g0 rfl rfl ?_
      by_cases h : v < 48
      · refine am_tt (show (nI v : Int32) < 48 from nI_lt (b := 48) h (by omega)) ?_
        refine am_go rfl ?_
        refine am_go rfl ?_
        exact ⟨rfl, by unfold figN; rw [if_neg h6, if_neg h5, if_neg (by omega)]; rfl⟩
      · refine am_ff (show ¬ (nI v : Int32) < 48 from nI_nlt (b := 48) (by omega) (by omega)) ?_
        iterate 4 refine am_g0 rfl rfl ?_
        refine am_glS (l := [3, 9, 7, 7, 5]) (x := nI (hiF k)) rfl rfl rfl (hiF_at k (by omega)) (by decide) ?_
        refine am_g0 rfl rfl ?_
        refine am_top (y := nI (48 + hiF k)) (nI_add 48 _) ?_
        refine am_g0 rfl rfl ?_
        have := hiF_le k
        by_cases h2 : 48 + hiF k < v
        · refine am_tt (show (nI (48 + hiF k) : Int32) < (nI v) from nI_lt h2 (by omega)) ?_
          refine am_go rfl ?_
          refine am_go rfl ?_
          exact ⟨rfl, by unfold figN; rw [if_neg h6, if_neg h5, if_neg (by omega)]; rfl⟩
        · refine am_ff (show ¬ (nI (48 + hiF k) : Int32) < (nI v) from nI_nlt (by omega) (by omega)) ?_
          iterate 2 refine am_g0 rfl rfl ?_
          refine am_go rfl ?_
          exact ⟨rfl, by unfold figN; rw [if_neg h6, if_neg h5, if_pos (by omega)]; rfl⟩
/-- the first sign that doesn't fit, of the first n -/
def ppF (b : Nat → Nat) : Nat → Option Nat
  | 0 => none
  | i + 1 => match ppF b i with
    | some f => some f
    | none => match figN (i % 7) (b i) with
      | none => some i
      | some _ => none
theorem ppF_lt {b : Nat → Nat} : ∀ {n f : Nat}, ppF b n = some f → f < n
  | 0, f, h => by cases h
  | n + 1, f, h => by
    rw [ppF] at h
    cases hz : ppF b n with
    | some g => rw [hz] at h; have := ppF_lt hz; cases h; omega
    | none =>
      rw [hz] at h
      dsimp only at h
      cases hf : figN (n % 7) (b n) with
      | none => rw [hf] at h; cases h; omega
      | some x => rw [hf] at h; cases h
theorem ppF_none {b : Nat → Nat} : ∀ {n : Nat}, ppF b n = none → ∀ i, i < n → ∃ x, figN (i % 7) (b i) = some x
  | 0, _, i, hi => absurd hi (Nat.not_lt_zero i)
  | n + 1, h, i, hi => by
    rw [ppF] at h
    cases hz : ppF b n with
    | some g => rw [hz] at h; cases h
    | none =>
      rw [hz] at h
      dsimp only at h
      by_cases e : i = n
      · subst e
        cases hf : figN (i % 7) (b i) with
        | none => rw [hf] at h; cases h
        | some x => exact ⟨x, rfl⟩
      · exact ppF_none hz i (by omega)
theorem ppF_at {b : Nat → Nat} {i : Nat} (h : ppF b i = none) (h2 : figN (i % 7) (b i) = none) : ∀ k, ppF b (i + 1 + k) = some i
  | 0 => by show ppF b (i + 1) = some i; rw [ppF, h]; dsimp only; rw [h2]
  | k + 1 => by rw [show i + 1 + (k + 1) = (i + 1 + k) + 1 by omega, ppF, ppF_at h h2 k]
/-- the fields of a person -/
def pfB (b : Nat → Nat) (p j : Nat) : Nat := if j = 0 then 10 * (b (7 * p) - 48) + (b (7 * p + 1) - 48) else if j = 4 then (match wayN (b (7 * p + 5)) with | some a => a | none => 0) else b (7 * p + 1 + j) - 48
/-- fault, how many, their fields -/
def peopleR (b : Nat → Nat) (n : Nat) : Option Nat × Nat × (Nat → Nat → Nat) := match ppF b n with
  | some f => (some f, 0, fun _ _ => 0)
  | none => if n = 0 then (none, 0, fun _ _ => 0) else if n % 7 = 6 then (none, (n + 1) / 7, pfB b) else (some n, 0, fun _ _ => 0)
theorem fig_b {b : Nat → Nat} {n i k : Nat} (h : ppF b n = none) (hi : i < n) (hk : i % 7 = k) (hk5 : k < 5) : 48 ≤ b i ∧ b i ≤ 48 + hiF k := by
  obtain ⟨x, hx⟩ := ppF_none h i hi
  rw [hk] at hx
  unfold figN at hx
  rw [if_neg (by omega), if_neg (by omega)] at hx
  by_cases z : 48 ≤ b i ∧ b i ≤ 48 + hiF k
  · exact z
  · rw [if_neg z] at hx; cases hx
theorem fig_w {b : Nat → Nat} {n i : Nat} (h : ppF b n = none) (hi : i < n) (hk : i % 7 = 5) : ∃ a, wayN (b i) = some a := by
  obtain ⟨x, hx⟩ := ppF_none h i hi
  rw [hk] at hx
  exact ⟨x, hx⟩
theorem pfB_ok {b : Nat → Nat} {n p : Nat} (h : ppF b n = none) (hp : 7 * p + 6 ≤ n) : pfB b p 0 < 40 ∧ pfB b p 1 < 8 ∧ pfB b p 2 < 8 ∧ pfB b p 3 < 6 ∧ pfB b p 4 < 4 := by
  have h0 := fig_b h (show 7 * p < n by omega) (show (7 * p) % 7 = 0 by omega) (by omega)
  have h1 := fig_b h (show 7 * p + 1 < n by omega) (show (7 * p + 1) % 7 = 1 by omega) (by omega)
  have h2 := fig_b h (show 7 * p + 1 + 1 < n by omega) (show (7 * p + 1 + 1) % 7 = 2 by omega) (by omega)
  have h3 := fig_b h (show 7 * p + 1 + 2 < n by omega) (show (7 * p + 1 + 2) % 7 = 3 by omega) (by omega)
  have h4 := fig_b h (show 7 * p + 1 + 3 < n by omega) (show (7 * p + 1 + 3) % 7 = 4 by omega) (by omega)
  obtain ⟨a, ha⟩ := fig_w h (show 7 * p + 5 < n by omega) (by omega)
  have q0 : hiF 0 = 3 := rfl
  have q1 : hiF 1 = 9 := rfl
  have q2 : hiF 2 = 7 := rfl
  have q3 : hiF 3 = 7 := rfl
  have q4 : hiF 4 = 5 := rfl
  refine ⟨?_, ?_, ?_, ?_, ?_⟩
  · show 10 * (b (7 * p) - 48) + (b (7 * p + 1) - 48) < 40; omega
  · show b (7 * p + 1 + 1) - 48 < 8; omega
  · show b (7 * p + 1 + 2) - 48 < 8; omega
  · show b (7 * p + 1 + 3) - 48 < 6; omega
  · show (match wayN (b (7 * p + 5)) with | some a => a | none => 0) < 4
    rw [ha]
    exact wayN_lt ha
theorem sub48 {v : Nat} (h : 48 ≤ v) : nI v - 48 = nI (v - 48) := pk_sub (b := 48) h
set_option maxHeartbeats 4000000 in
theorem d_take {d n p : Nat} {b : Nat → Nat} {w : am_M} (hd : 5 ≤ d) (hT : cText w 2 n b) (hF : ppF b n = none) (hp : 7 * p + 6 ≤ n) : ∃ o : am_O, (o.1 = none ∧ am_fr 17 w o.2 ∧ (∀ j, j < 5 → o.2.1 17 (5 * p + j) = nI (pfB b p j)) ∧ ∀ i, i < 5 * p → o.2.1 17 i = w.1 17 i) ∧ am_D shC d mi_X2_take [.ref 16, .ref 4, .int (nI p), .int (nI (7 * p))] w o := by
  have hn := hT.2.1
  have h0 := fig_b hF (show 7 * p < n by omega) (show (7 * p) % 7 = 0 by omega) (by omega)
  have h1 := fig_b hF (show 7 * p + 1 < n by omega) (show (7 * p + 1) % 7 = 1 by omega) (by omega)
  have h2 := fig_b hF (show 7 * p + 1 + 1 < n by omega) (show (7 * p + 1 + 1) % 7 = 2 by omega) (by omega)
  have h3 := fig_b hF (show 7 * p + 1 + 2 < n by omega) (show (7 * p + 1 + 2) % 7 = 3 by omega) (by omega)
  have h4 := fig_b hF (show 7 * p + 1 + 3 < n by omega) (show (7 * p + 1 + 3) % 7 = 4 by omega) (by omega)
  obtain ⟨a, ha⟩ := fig_w hF (show 7 * p + 5 < n by omega) (by omega)
  have sg : ∀ m : am_M, cText m 2 n b → ∀ i, i < n → am_D shC (d - 1) mi_X7_signAt [.ref 4, .int (nI i)] m (some (.int (nI (b i))), m) := fun m hm i hi => d_signAt (t := 2) (d := d - 1) (n := n) (by omega) (by omega) hm.1 hi hn (hm.2.2 i hi).1 (hm.2.2 i hi).2
  have fr : ∀ (m : am_M) (k : Nat) (x : Int32), cText m 2 n b → cText (am_pi m 17 k x) 2 n b := fun m k x hm => hm.fr (am_pi_row (by omega)) (am_pi_row (by omega))
  refine am_dex (by omega) rfl rfl ?_
  iterate 3 refine am_g0 rfl rfl ?_
  refine am_top (y := nI (5 * p)) (by rw [show (5 : Int32) = nI 5 from rfl, pk_mul, Nat.mul_comm]) ?_
  iterate 7 refine am_g0 rfl rfl ?_
  refine ⟨(some (.int (nI (b (7 * p)))), w), sg w hT _ (by omega), ?_⟩
  refine am_to (lv' := [(0, .ref 16), (1, .ref 4), (2, .int (nI p)), (3, .int (nI (7 * p))), (4, .int (nI (5 * p)))]) (st' := [.int (nI (b (7 * p))), .int (nI (5 * p)), .ref 17]) (w' := w) rfl rfl rfl ?_
  iterate 2 refine am_g0 rfl rfl ?_
  refine am_top (y := nI (b (7 * p) - 48)) (sub48 h0.1) ?_
  iterate 2 refine am_g0 rfl rfl ?_
  refine am_top (y := nI ((b (7 * p) - 48) * 10)) (pk_mul _ 10) ?_
  iterate 4 refine am_g0 rfl rfl ?_
  refine am_top (y := nI (7 * p + 1)) (nI_1 _) ?_
  refine am_g0 rfl rfl ?_
  refine ⟨(some (.int (nI (b (7 * p + 1)))), w), sg w hT _ (by omega), ?_⟩
  refine am_to (lv' := [(0, .ref 16), (1, .ref 4), (2, .int (nI p)), (3, .int (nI (7 * p))), (4, .int (nI (5 * p)))]) (st' := [.int (nI (b (7 * p + 1))), .int (nI ((b (7 * p) - 48) * 10)), .int (nI (5 * p)), .ref 17]) (w' := w) rfl rfl rfl ?_
  iterate 3 refine am_g0 rfl rfl ?_
  refine am_top (y := nI (pfB b p 0)) (by rw [nI_add]; exact (pk_sub (b := 48) (by omega)).trans (congrArg nI (by show _ = 10 * (b (7 * p) - 48) + (b (7 * p + 1) - 48); omega))) ?_
  refine am_gsN (n := 40) (k := (5 * p)) rfl rfl (by omega) (by decide) ?_
  refine am_to (lv' := [(0, .ref 16), (1, .ref 4), (2, .int (nI p)), (3, .int (nI (7 * p))), (4, .int (nI (5 * p)))]) (st' := []) (w' := am_pi w 17 (5 * p) (nI (pfB b p 0))) rfl rfl rfl ?_
  generalize hA : am_pi w 17 (5 * p) (nI (pfB b p 0)) = m1
  have T1 : cText m1 2 n b := by rw [← hA]; exact fr _ _ _ hT
  iterate 2 refine am_g0 rfl rfl ?_
  refine am_go rfl ?_
  iterate 7 refine am_g0 rfl rfl ?_
  refine am_top (y := nI (5 * p + 1)) (nI_add _ 1) ?_
  iterate 6 refine am_g0 rfl rfl ?_
  refine am_top (y := nI (7 * p + 1 + 1)) (by rw [nI_1, nI_1]) ?_
  refine am_g0 rfl rfl ?_
  refine ⟨(some (.int (nI (b (7 * p + 1 + 1)))), m1), sg m1 T1 _ (by omega), ?_⟩
  refine am_to (lv' := [(0, .ref 16), (1, .ref 4), (3, .int (nI (7 * p))), (4, .int (nI (5 * p))), (5, .int 1)]) (st' := [.int (nI (b (7 * p + 1 + 1))), .int (nI (5 * p + 1)), .ref 17]) (w' := m1) rfl rfl rfl ?_
  iterate 2 refine am_g0 rfl rfl ?_
  refine am_top (y := nI (pfB b p 1)) (sub48 h2.1) ?_
  refine am_gsN (n := 40) (k := (5 * p + 1)) rfl rfl (by omega) (by decide) ?_
  refine am_to (lv' := [(0, .ref 16), (1, .ref 4), (3, .int (nI (7 * p))), (4, .int (nI (5 * p))), (5, .int 1)]) (st' := []) (w' := am_pi m1 17 (5 * p + 1) (nI (pfB b p 1))) rfl rfl rfl ?_
  generalize hB : am_pi m1 17 (5 * p + 1) (nI (pfB b p 1)) = m2
  have T2 : cText m2 2 n b := by rw [← hB]; exact fr _ _ _ T1
  iterate 2 refine am_g0 rfl rfl ?_
  refine am_go rfl ?_
  iterate 7 refine am_g0 rfl rfl ?_
  refine am_top (y := nI (5 * p + 2)) (nI_add _ 2) ?_
  iterate 6 refine am_g0 rfl rfl ?_
  refine am_top (y := nI (7 * p + 1 + 2)) (by rw [nI_1]; exact nI_add _ 2) ?_
  refine am_g0 rfl rfl ?_
  refine ⟨(some (.int (nI (b (7 * p + 1 + 2)))), m2), sg m2 T2 _ (by omega), ?_⟩
  refine am_to (lv' := [(0, .ref 16), (1, .ref 4), (3, .int (nI (7 * p))), (4, .int (nI (5 * p))), (5, .int 2)]) (st' := [.int (nI (b (7 * p + 1 + 2))), .int (nI (5 * p + 2)), .ref 17]) (w' := m2) rfl rfl rfl ?_
  iterate 2 refine am_g0 rfl rfl ?_
  refine am_top (y := nI (pfB b p 2)) (sub48 h3.1) ?_
  refine am_gsN (n := 40) (k := (5 * p + 2)) rfl rfl (by omega) (by decide) ?_
  refine am_to (lv' := [(0, .ref 16), (1, .ref 4), (3, .int (nI (7 * p))), (4, .int (nI (5 * p))), (5, .int 2)]) (st' := []) (w' := am_pi m2 17 (5 * p + 2) (nI (pfB b p 2))) rfl rfl rfl ?_
  generalize hC : am_pi m2 17 (5 * p + 2) (nI (pfB b p 2)) = m3
  have T3 : cText m3 2 n b := by rw [← hC]; exact fr _ _ _ T2
  iterate 2 refine am_g0 rfl rfl ?_
  refine am_go rfl ?_
  iterate 7 refine am_g0 rfl rfl ?_
  refine am_top (y := nI (5 * p + 3)) (nI_add _ 3) ?_
  iterate 6 refine am_g0 rfl rfl ?_
  refine am_top (y := nI (7 * p + 1 + 3)) (by rw [nI_1]; exact nI_add _ 3) ?_
  refine am_g0 rfl rfl ?_
  refine ⟨(some (.int (nI (b (7 * p + 1 + 3)))), m3), sg m3 T3 _ (by omega), ?_⟩
  refine am_to (lv' := [(0, .ref 16), (1, .ref 4), (3, .int (nI (7 * p))), (4, .int (nI (5 * p))), (5, .int 3)]) (st' := [.int (nI (b (7 * p + 1 + 3))), .int (nI (5 * p + 3)), .ref 17]) (w' := m3) rfl rfl rfl ?_
  iterate 2 refine am_g0 rfl rfl ?_
  refine am_top (y := nI (pfB b p 3)) (sub48 h4.1) ?_
  refine am_gsN (n := 40) (k := (5 * p + 3)) rfl rfl (by omega) (by decide) ?_
  refine am_to (lv' := [(0, .ref 16), (1, .ref 4), (3, .int (nI (7 * p))), (4, .int (nI (5 * p))), (5, .int 3)]) (st' := []) (w' := am_pi m3 17 (5 * p + 3) (nI (pfB b p 3))) rfl rfl rfl ?_
  generalize hE : am_pi m3 17 (5 * p + 3) (nI (pfB b p 3)) = m4
  have T4 : cText m4 2 n b := by rw [← hE]; exact fr _ _ _ T3
  iterate 2 refine am_g0 rfl rfl ?_
  refine am_go rfl ?_
  iterate 2 refine am_g0 rfl rfl ?_
  refine am_go rfl ?_
  iterate 6 refine am_g0 rfl rfl ?_
  refine am_top (y := nI (5 * p + 4)) (by rw [show (5 : Int32) = nI 5 from rfl, nI_add]; exact pk_sub (b := 1) (by omega)) ?_
  iterate 5 refine am_g0 rfl rfl ?_
  refine am_top (y := nI (7 * p + 5)) (nI_add _ 5) ?_
  refine am_g0 rfl rfl ?_
  refine ⟨(some (.int (nI (b (7 * p + 5)))), m4), sg m4 T4 _ (by omega), ?_⟩
  refine am_to (lv' := [(0, .ref 16), (1, .ref 4), (3, .int (nI (7 * p))), (4, .int (nI (5 * p)))]) (st' := [.int (nI (b (7 * p + 5))), .ref 1007, .int (nI (5 * p + 4)), .ref 17]) (w' := m4) rfl rfl rfl ?_
  refine am_g0 rfl rfl ?_
  refine ⟨(some (.int (nI (pfB b p 4))), m4), by have := d_indexOf (sh := shC) (w := m4) (d := d - 1) (S := 1007) (v0 := 11) (l := [110, 101, 115, 119]) (by omega) rfl rfl (by decide) (by decide) (T4.2.2 _ (show 7 * p + 5 < n by omega)).2; rw [show ([110, 101, 115, 119] : List Int32).length = 4 from rfl, idx_way _ (T4.2.2 _ (show 7 * p + 5 < n by omega)).2, ha] at this; rw [show pfB b p 4 = a by show (match wayN (b (7 * p + 5)) with | some a => a | none => 0) = a; rw [ha]]; exact this, ?_⟩
  refine am_to (lv' := [(0, .ref 16), (1, .ref 4), (3, .int (nI (7 * p))), (4, .int (nI (5 * p)))]) (st' := [.int (nI (pfB b p 4)), .int (nI (5 * p + 4)), .ref 17]) (w' := m4) rfl rfl rfl ?_
  refine am_gsN (n := 40) (k := (5 * p + 4)) rfl rfl (by omega) (by decide) ?_
  refine am_to (lv' := [(0, .ref 16), (1, .ref 4), (3, .int (nI (7 * p))), (4, .int (nI (5 * p)))]) (st' := []) (w' := am_pi m4 17 (5 * p + 4) (nI (pfB b p 4))) rfl rfl rfl ?_
  refine am_g0 rfl rfl ?_
  refine ⟨rfl, rfl, ?_, fun j hj => ?_, fun i hi => ?_⟩
  · rw [← hE, ← hC, ← hB, ← hA]; exact ((((am_fr.rf.pi).pi).pi).pi).pi
  · rw [← hE, ← hC, ← hB, ← hA]
    rcases (show j = 0 ∨ j = 1 ∨ j = 2 ∨ j = 3 ∨ j = 4 by omega) with e | e | e | e | e <;> subst e
    · rw [am_pi_ne (Or.inr (by omega)), am_pi_ne (Or.inr (by omega)), am_pi_ne (Or.inr (by omega)), am_pi_ne (Or.inr (by omega))]; exact am_pi_at _ _ _ _
    · rw [am_pi_ne (Or.inr (by omega)), am_pi_ne (Or.inr (by omega)), am_pi_ne (Or.inr (by omega)), am_pi_at]
    · rw [am_pi_ne (Or.inr (by omega)), am_pi_ne (Or.inr (by omega)), am_pi_at]
    · rw [am_pi_ne (Or.inr (by omega)), am_pi_at]
    · rw [am_pi_at]
  · rw [← hE, ← hC, ← hB, ← hA]
    rw [am_pi_ne (Or.inr (by omega)), am_pi_ne (Or.inr (by omega)), am_pi_ne (Or.inr (by omega)), am_pi_ne (Or.inr (by omega)), am_pi_ne (Or.inr (by omega))]
set_option maxHeartbeats 4000000 in
theorem d_pload {d n : Nat} {b : Nat → Nat} {w : am_M} (hd : 6 ≤ d) (hT : cText w 2 n b) : ∃ o : am_O, (o.1 = some (.int (opI (peopleR b n).1)) ∧ am_f3 16 17 17 w o.2 ∧ cPeople o.2 (peopleR b n).2.1 (peopleR b n).2.2) ∧ am_D shC d mi_X2_load [.ref 16, .ref 4] w o := by
  have hn := hT.2.1
  refine am_dex (by omega) rfl rfl ?_
  iterate 5 refine am_g0 rfl rfl ?_
  refine am_to (lv' := [(0, .ref 16), (1, .ref 4), (2, .int 7)]) (st' := []) (w' := am_pi w 16 1 0) rfl rfl rfl ?_
  generalize hw0 : am_pi w 16 1 0 = w0
  have f0 : am_f3 16 17 17 w w0 := by rw [← hw0]; exact am_f3.rf.pi (Or.inl rfl)
  have T0 : cText w0 2 n b := hT.fr (f0.1 _ (by omega) (by omega) (by omega)) (f0.1 _ (by omega) (by omega) (by omega))
  have s0 : w0.1 16 1 = nI 0 := by rw [← hw0]; rfl
  have P0 : ∀ f, cPeople w0 0 f := fun f => ⟨s0, by omega, fun p hp => absurd hp (Nat.not_lt_zero p)⟩
  iterate 2 refine am_g0 rfl rfl ?_
  have key : ∀ j i : Nat, i + j = n → ppF b i = none → am_R shC mi_X2_load (am_D shC (d - 1)) (fun o => o.1 = some (.int (opI (peopleR b n).1)) ∧ am_f3 16 17 17 w o.2 ∧ cPeople o.2 (peopleR b n).2.1 (peopleR b n).2.2) 10 [(0, .ref 16), (1, .ref 4), (2, .int 7), (3, .int (nI i))] [] w0 := by
    intro j
    induction j with
    | zero =>
      intro i hi hF
      have e : i = n := by omega
      subst e
      refine am_go rfl ?_
      iterate 3 refine am_g0 rfl rfl ?_
      refine am_tt (show (w0.1 4 2 : Int32) ≤ (nI i) from by rw [show w0.1 4 2 = nI i from T0.1]; exact nI_le (Nat.le_refl _) (by omega)) ?_
      refine am_go rfl ?_
      iterate 2 refine am_g0 rfl rfl ?_
      by_cases hz : i = 0
      · refine am_tt (show (w0.1 4 2 : Int32) = 0 from by rw [show w0.1 4 2 = nI i from T0.1, hz]; rfl) ?_
        iterate 2 refine am_g0 rfl rfl ?_
        have hR : peopleR b i = (none, 0, fun _ _ => 0) := by unfold peopleR; rw [hF]; dsimp only; rw [if_pos hz]
        rw [hR]
        exact ⟨rfl, rfl, f0, P0 _⟩
      · refine am_ff (show ¬ (w0.1 4 2 : Int32) = 0 from by rw [show w0.1 4 2 = nI i from T0.1]; exact nI_ne0 (by omega) (by omega)) ?_
        refine am_go rfl ?_
        iterate 4 refine am_g0 rfl rfl ?_
        refine am_top2 (y := nI (i % 7)) (by rw [show w0.1 4 2 = nI i from T0.1]; exact pk_rem (d := 7) (by omega) (by omega) (by omega)) ?_
        refine am_g0 rfl rfl ?_
        by_cases h6 : i % 7 = 6
        · refine am_tt (show (nI (i % 7) : Int32) = 6 from by rw [h6]; rfl) ?_
          refine am_go rfl ?_
          iterate 6 refine am_g0 rfl rfl ?_
          refine am_top (y := nI ((i + 1) / 7)) (by rw [show w0.1 4 2 = nI i from T0.1, nI_1]; exact pk_div (d := 7) (by omega) (by omega) (by omega)) ?_
          iterate 2 refine am_g0 rfl rfl ?_
          refine am_top (y := nI ((i + 1) / 7)) (by rw [if_neg]; exact nI_nlt (b := (i + 1) / 7) (a := 8) (by omega) (by omega)) ?_
          refine am_g0 rfl rfl ?_
          refine am_to (lv' := [(0, .ref 16), (1, .ref 4), (2, .int 7)]) (st' := []) (w' := am_pi w0 16 1 (nI ((i + 1) / 7))) rfl rfl rfl ?_
          generalize hw1 : am_pi w0 16 1 (nI ((i + 1) / 7)) = w1
          have f1 : am_f3 16 17 17 w w1 := by rw [← hw1]; exact f0.pi (Or.inl rfl)
          have s1 : w1.1 16 1 = nI ((i + 1) / 7) := by rw [← hw1]; exact am_pi_at _ _ _ _
          iterate 2 refine am_g0 rfl rfl ?_
          have hR : peopleR b i = (none, (i + 1) / 7, pfB b) := by unfold peopleR; rw [hF]; dsimp only; rw [if_neg hz, if_pos h6]
          rw [hR]
          have key2 : ∀ j p : Nat, p + j = (i + 1) / 7 → ∀ m : am_M, am_f3 16 17 17 w m → m.1 16 1 = nI ((i + 1) / 7) → (∀ k, k < p → ∀ j, j < 5 → m.1 17 (5 * k + j) = nI (pfB b k j)) → am_R shC mi_X2_load (am_D shC (d - 1)) (fun o => o.1 = some (.int (opI (none, (i + 1) / 7, pfB b).1)) ∧ am_f3 16 17 17 w o.2 ∧ cPeople o.2 ((none : Option Nat), (i + 1) / 7, pfB b).2.1 ((none : Option Nat), (i + 1) / 7, pfB b).2.2) 84 [(0, .ref 16), (1, .ref 4), (2, .int 7), (3, .int (nI p))] [] m := by
            intro j
            induction j with
            | zero =>
              intro p hp m fm sm hm
              refine am_go rfl ?_
              iterate 3 refine am_g0 rfl rfl ?_
              refine am_tt (show (m.1 16 1 : Int32) ≤ (nI p) from by rw [sm]; exact nI_le (by omega) (by omega)) ?_
              refine am_go rfl ?_
              refine am_g0 rfl rfl ?_
              refine ⟨rfl, rfl, fm, sm, by show (i + 1) / 7 ≤ 8; omega, fun k (hk : k < (i + 1) / 7) => ⟨hm k (by omega), pfB_ok hF (by omega)⟩⟩
            | succ j ih =>
              intro p hp m fm sm hm
              refine am_go rfl ?_
              iterate 3 refine am_g0 rfl rfl ?_
              refine am_ff (show ¬ (m.1 16 1 : Int32) ≤ (nI p) from by rw [sm]; exact nI_ge (by omega) (by omega)) ?_
              iterate 6 refine am_g0 rfl rfl ?_
              refine am_top (y := nI (7 * p)) (by rw [show (7 : Int32) = nI 7 from rfl, pk_mul, Nat.mul_comm]) ?_
              refine am_g0 rfl rfl ?_
              obtain ⟨⟨r2, w2⟩, ⟨e2, g1, g2, g3⟩, hD2⟩ := d_take (d := d - 1) (n := i) (b := b) (p := p) (by omega) (hT.fr (fm.1 _ (by omega) (by omega) (by omega)) (fm.1 _ (by omega) (by omega) (by omega))) hF (by omega)
              dsimp only at e2 g1 g2 g3
              subst e2
              refine ⟨(none, w2), hD2, ?_⟩
              refine am_to (lv' := [(0, .ref 16), (1, .ref 4), (2, .int 7), (3, .int (nI p))]) (st' := []) (w' := w2) rfl rfl rfl ?_
              iterate 2 refine am_g0 rfl rfl ?_
              have this := ih (p + 1) (by omega) w2 (fm.tr ⟨fun k h1 h2 h3 => g1.1 k h2, g1.2⟩) (by rw [g1.1 16 (by omega)]; exact sm) (fun k hk j hj => if e : k = p then by rw [e]; exact g2 j hj else by rw [g3 _ (by omega)]; exact hm k (by omega) j hj)
              rw [← nI_1] at this
              exact am_kl this rfl
          exact am_kl (key2 ((i + 1) / 7) 0 (by omega) w1 f1 s1 (fun k hk => absurd hk (Nat.not_lt_zero k))) rfl
        · refine am_ff (show ¬ (nI (i % 7) : Int32) = 6 from nne (b := 6) h6 (by omega) (by omega)) ?_
          iterate 3 refine am_g0 rfl rfl ?_
          have hR : peopleR b i = (some i, 0, fun _ _ => 0) := by unfold peopleR; rw [hF]; dsimp only; rw [if_neg hz, if_neg h6]
          rw [hR, show w0.1 4 2 = nI i from T0.1]
          exact ⟨rfl, rfl, f0, P0 _⟩
    | succ j ih =>
      intro i hi hF
      have hb := T0.2.2 i (by omega)
      refine am_go rfl ?_
      iterate 3 refine am_g0 rfl rfl ?_
      refine am_ff (show ¬ (w0.1 4 2 : Int32) ≤ (nI i) from by rw [show w0.1 4 2 = nI n from T0.1]; exact nI_ge (by omega) (by omega)) ?_
      iterate 3 refine am_g0 rfl rfl ?_
      refine am_top (y := nI (i % 7)) (pk_rem (d := 7) (by omega) (by omega) (by omega)) ?_
      iterate 3 refine am_g0 rfl rfl ?_
      refine ⟨(some (.int (nI (b i))), w0), d_signAt (t := 2) (d := d - 1) (n := n) (by omega) (by omega) T0.1 (by omega) hn hb.1 hb.2, ?_⟩
      refine am_to (lv' := [(0, .ref 16), (1, .ref 4), (2, .int 7), (3, .int (nI i))]) (st' := [.int (nI (b i)), .int (nI (i % 7))]) (w' := w0) rfl rfl rfl ?_
      refine am_g0 rfl rfl ?_
      refine ⟨(some (.int (b01 (figN (i % 7) (b i)).isSome)), w0), d_fits (by omega) (Nat.mod_lt _ (by omega)) hb.2, ?_⟩
      refine am_to (lv' := [(0, .ref 16), (1, .ref 4), (2, .int 7), (3, .int (nI i))]) (st' := [.int (b01 (figN (i % 7) (b i)).isSome)]) (w' := w0) rfl rfl rfl ?_
      refine am_g0 rfl rfl ?_
      rcases opt_or (figN (i % 7) (b i)) with hf | ⟨x, hf⟩
      · refine am_tt (show (b01 (figN (i % 7) (b i)).isSome : Int32) = 0 from by rw [hf]; rfl) ?_
        iterate 2 refine am_g0 rfl rfl ?_
        have hR : peopleR b n = (some i, 0, fun _ _ => 0) := by unfold peopleR; rw [← hi, show i + (j + 1) = i + 1 + j by omega, ppF_at hF hf j]
        rw [hR]
        exact ⟨rfl, rfl, f0, P0 _⟩
      · refine am_ff (show ¬ (b01 (figN (i % 7) (b i)).isSome : Int32) = 0 from by rw [hf]; exact i10) ?_
        refine am_go rfl ?_
        refine am_g0 rfl rfl ?_
        have this := ih (i + 1) (by omega) (by rw [ppF, hF]; dsimp only; rw [hf])
        rw [← nI_1] at this
        exact am_kl this rfl
  exact am_kl (key n 0 (by omega) rfl) rfl
end
section
/-! what both sides hold: texts, rains, things seen, sheets, finding; and what follows from it -/
/-- text lengths, bytes, rains, their steps, sightings: how many, steps, persons, cells; sheets: forms, sizes, items; finding -/
abbrev Sp : Type := (Nat → Nat) × (Nat → Nat → Nat) × (Nat × (Nat → Nat)) × (Nat × (Nat → Nat) × (Nat → Nat) × (Nat → Nat)) × ((Nat → Nat) × (Nat → Option Nat) × (Nat → Nat → Int32)) × Int32
abbrev Sp.tl (S : Sp) : Nat → Nat := S.1
abbrev Sp.tb (S : Sp) : Nat → Nat → Nat := S.2.1
abbrev Sp.rn (S : Sp) : Nat := S.2.2.1.1
abbrev Sp.rs (S : Sp) : Nat → Nat := S.2.2.1.2
abbrev Sp.sn (S : Sp) : Nat := S.2.2.2.1.1
abbrev Sp.st (S : Sp) : Nat → Nat := S.2.2.2.1.2.1
abbrev Sp.pe (S : Sp) : Nat → Nat := S.2.2.2.1.2.2.1
abbrev Sp.ce (S : Sp) : Nat → Nat := S.2.2.2.1.2.2.2
abbrev Sp.fm (S : Sp) : Nat → Nat := S.2.2.2.2.1.1
abbrev Sp.sz (S : Sp) : Nat → Option Nat := S.2.2.2.2.1.2.1
abbrev Sp.it (S : Sp) : Nat → Nat → Int32 := S.2.2.2.2.1.2.2
abbrev Sp.fn (S : Sp) : Int32 := S.2.2.2.2.2
def mxT (t : Nat) : Nat := if t = 0 then 41 else if t = 1 then 47 else 55
theorem mxT_le (t : Nat) : mxT t ≤ 55 := by unfold mxT; split; omega; split; omega; omega
/-- the town's and the lasts' world -/
def wdS (b0 : Nat → Nat) (n0 : Nat) (b1 : Nat → Nat) (n1 : Nat) : Wd := ((townR b0 n0).2.1, (townR b0 n0).2.2.2, nxS (townR b0 n0).2.1 (townR b0 n0).2.2.1 (townR b0 n0).2.2.2, (lastsR b1 n1).2.1, (lastsR b1 n1).2.2.1, (lastsR b1 n1).2.2.2.1, (lastsR b1 n1).2.2.2.2)
def Sp.V (S : Sp) : Wd := wdS (S.tb 0) (S.tl 0) (S.tb 1) (S.tl 1)
def Sp.q (S : Sp) : Nat := (peopleR (S.tb 2) (S.tl 2)).2.1
def Sp.pf (S : Sp) : Nat → Nat → Nat := (peopleR (S.tb 2) (S.tl 2)).2.2
def Sp.m (S : Sp) : Nat := (lastsR (S.tb 1) (S.tl 1)).2.1
def fltS (S : Sp) (t : Nat) : Option Nat := if t = 0 then (townR (S.tb 0) (S.tl 0)).1 else if t = 1 then (lastsR (S.tb 1) (S.tl 1)).1 else (peopleR (S.tb 2) (S.tl 2)).1
/-- it rains in a step by the rains that aren't left out -/
def wetN (rs : Nat → Nat) (ex : Nat → Bool) : Nat → Nat → Bool
  | 0, _ => false
  | n + 1, s => wetN rs ex n s || (decide (rs n = s) && !ex n)
def wet0 (S : Sp) : Nat → Bool := wetN S.rs (fun _ => false) S.rn
def sokT (S : Sp) : Prop := ∀ t, t < 3 → S.tl t ≤ mxT t ∧ ∀ i, i < S.tl t → S.tb t i < 256
def sokR (S : Sp) : Prop := S.rn ≤ 8 ∧ ∀ i, i < S.rn → S.rs i < 30
def sokS (S : Sp) : Prop := S.sn ≤ 8 ∧ ∀ i, i < S.sn → S.st i < 30 ∧ S.pe i < 8 ∧ S.ce i < 36
def sokH (S : Sp) : Prop := ∀ s, s < 4 → S.fm s < 3 ∧ ∀ n, S.sz s = some n → n ≤ 60
def sok (S : Sp) : Prop := sokT S ∧ sokR S ∧ sokS S ∧ sokH S
/-- the first of n that has it -/
def firstN (f : Nat → Bool) : Nat → Option Nat
  | 0 => none
  | n + 1 => match firstN f n with
    | some i => some i
    | none => if f n then some n else none
theorem firstN_s {f : Nat → Bool} : ∀ {n i : Nat}, firstN f n = some i → i < n ∧ f i = true ∧ ∀ j, j < i → f j = false
  | 0, i, h => by cases h
  | n + 1, i, h => by
    rw [firstN] at h
    cases hz : firstN f n with
    | some g =>
      rw [hz] at h
      cases h
      obtain ⟨h1, h2, h3⟩ := firstN_s hz
      exact ⟨by omega, h2, h3⟩
    | none =>
      rw [hz] at h
      dsimp only at h
      cases hf : f n with
      | true =>
        rw [hf, if_pos rfl] at h
        cases h
        refine ⟨by omega, hf, fun j hj => ?_⟩
        cases hj2 : f j with
        | false => rfl
        | true => exact absurd (firstN_n hz j hj) (by rw [hj2]; decide)
      | false => rw [hf] at h; cases h
where
  firstN_n {f : Nat → Bool} : ∀ {n : Nat}, firstN f n = none → ∀ i, i < n → f i = false
  | 0, _, i, hi => absurd hi (Nat.not_lt_zero i)
  | n + 1, h, i, hi => by
    rw [firstN] at h
    cases hz : firstN f n with
    | some g => rw [hz] at h; cases h
    | none =>
      rw [hz] at h
      dsimp only at h
      cases hf : f n with
      | true => rw [hf] at h; cases h
      | false =>
        by_cases e : i = n
        · subst e; exact hf
        · exact firstN_n hz i (by omega)
theorem firstN_none {f : Nat → Bool} {n : Nat} : firstN f n = none → ∀ i, i < n → f i = false := firstN_s.firstN_n
theorem firstN_ex {f : Nat → Bool} {n : Nat} (h : ∀ i, i < n → f i = false) : firstN f n = none := by
  cases hz : firstN f n with
  | none => rfl
  | some i => obtain ⟨h1, h2, h3⟩ := firstN_s hz; rw [h i h1] at h2; cases h2
theorem firstN_at {f : Nat → Bool} {n i : Nat} (hi : i < n) (hf : f i = true) (h : ∀ j, j < i → f j = false) : firstN f n = some i := by
  cases hz : firstN f n with
  | none => rw [firstN_none hz i hi] at hf; cases hf
  | some k =>
    obtain ⟨h1, h2, h3⟩ := firstN_s hz
    rcases Nat.lt_trichotomy k i with z | z | z
    · rw [h k z] at h2; cases h2
    · rw [z]
    · rw [h3 i z] at hf; cases hf
theorem firstN_congr {f g : Nat → Bool} {n : Nat} (h : ∀ i, i < n → f i = g i) : firstN f n = firstN g n := by
  induction n with
  | zero => rfl
  | succ n ih => rw [firstN, firstN, ih (fun i hi => h i (by omega)), h n (by omega)]
/-- bits of those that have it -/
def bitsS (f : Nat → Bool) : Nat → Int32
  | 0 => 0
  | n + 1 => if f n then bitsS f n ||| ((1 : Int32) <<< (nI n &&& 31)) else bitsS f n
theorem bitsS_congr {f g : Nat → Bool} {n : Nat} (h : ∀ i, i < n → f i = g i) : bitsS f n = bitsS g n := by
  induction n with
  | zero => rfl
  | succ n ih => rw [bitsS, bitsS, ih (fun i hi => h i (by omega)), h n (by omega)]
theorem allB_congr {f g : Nat → Bool} {n : Nat} (h : ∀ i, i < n → f i = g i) : allB f n = allB g n := by
  induction n with
  | zero => rfl
  | succ n ih => rw [allB, allB, ih (fun i hi => h i (by omega)), h n (by omega)]
/-! lives -/
/-- the state behind the last step -/
def fin (V : Wd) (P : Pr) (wet : Nat → Bool) : Nat := (lifeQ V P wet 30).2.1
/-- one more than the step in which one has come; 31 -/
def comS (V : Wd) (P : Pr) (wet : Nat → Bool) : Nat := if fin V P wet = 1 then stopAt V P wet 30 else 31
/-- the cell behind a step, as told -/
def cellI (V : Wd) (P : Pr) (wet : Nat → Bool) (s : Nat) : Int32 := plc (lifeQ V P wet (s + 1))
def rowI (V : Wd) (P : Pr) (wet : Nat → Bool) (s j : Nat) : Int32 := if j = 0 then plc (lifeQ V P wet (s + 1)) else if j = 1 then nI (lifeQ V P wet (s + 1)).2.1 else if j = 2 then nI (lifeQ V P wet (s + 1)).2.2.1 else wbI (lifeB V P wet s)
theorem life_congr {V : Wd} {P : Pr} {w1 w2 : Nat → Bool} : ∀ {k : Nat}, (∀ s, s < k → w1 s = w2 s) → lifeQ V P w1 k = lifeQ V P w2 k
  | 0, _ => rfl
  | k + 1, h => by rw [lifeQ, lifeQ, life_congr (fun s hs => h s (by omega)), h k (by omega)]
theorem stop_congr {V : Wd} {P : Pr} {w1 w2 : Nat → Bool} : ∀ {k : Nat}, (∀ s, s < k → w1 s = w2 s) → stopAt V P w1 k = stopAt V P w2 k
  | 0, _ => rfl
  | k + 1, h => by
    have e := stop_congr (V := V) (P := P) (k := k) (fun s hs => h s (by omega))
    rw [stopAt, stopAt, e, life_congr (fun s hs => h s (by have := (life_stop V P w2 k).2.1; omega))]
theorem end_congr {V : Wd} {P : Pr} {w1 w2 : Nat → Bool} : ∀ {k : Nat}, (∀ s, s < k → w1 s = w2 s) → endS V P w1 k = endS V P w2 k
  | 0, _ => rfl
  | k + 1, h => by rw [endS, endS, end_congr (fun s hs => h s (by omega)), life_congr (k := k) (fun s hs => h s (by omega)), life_congr (k := k + 1) h]
theorem lifeB_congr {V : Wd} {P : Pr} {w1 w2 : Nat → Bool} {k : Nat} (h : ∀ s, s < k + 1 → w1 s = w2 s) : lifeB V P w1 k = lifeB V P w2 k := by
  unfold lifeB
  rw [life_congr (fun s hs => h s (by omega)), h k (by omega)]
theorem trOK.congr {w : am_M} {T R : Nat} {V : Wd} {P : Pr} {w1 w2 : Nat → Bool} (h : trOK w T R V P w1) (e : ∀ s, s < 30 → w1 s = w2 s) : trOK w T R V P w2 := by
  obtain ⟨h1, h2, h3⟩ := h
  refine ⟨fun s hs => ?_, ?_, ?_⟩
  · rw [← life_congr (k := s + 1) (fun s hs => e s (by omega)), ← lifeB_congr (k := s) (fun s hs => e s (by omega))]
    exact h1 s hs
  · rw [← life_congr e]; exact h2
  · rw [← end_congr e]; exact h3
theorem trOK.row {w : am_M} {T R : Nat} {V : Wd} {P : Pr} {wet : Nat → Bool} (h : trOK w T R V P wet) {s j : Nat} (hs : s < 30) (hj : j < 4) : w.1 R (j * 30 + s) = rowI V P wet s j := by
  obtain ⟨h1, h2, h3, h4⟩ := h.1 s hs
  rcases (show j = 0 ∨ j = 1 ∨ j = 2 ∨ j = 3 by omega) with e | e | e | e <;> subst e
  · rw [Nat.zero_mul, Nat.zero_add]; exact h1
  · exact h2
  · exact h3
  · exact h4
/-! wet steps -/
theorem bit_or (x y : Int32) (c : Int32) : ((x ||| y) >>> c) &&& 1 = ((x >>> c) &&& 1) ||| ((y >>> c) &&& 1) := by
  apply Int32.toBitVec_inj.mp
  simp only [Int32.toBitVec_and, Int32.toBitVec_or, Int32.toBitVec_shiftRight]
  apply BitVec.eq_of_getLsbD_eq
  intro i hi
  simp only [BitVec.getLsbD_and, BitVec.getLsbD_or, BitVec.getLsbD_sshiftRight, BitVec.getLsbD_sshiftRight']
  cases BitVec.getLsbD (Int32.toBitVec 1) i
  · simp
  · simp
    split <;> cases decide (32 ≤ i) <;> simp
theorem bit_one : ∀ k, k < 32 → ∀ s, s < 32 → (((1 : Int32) <<< (nI k &&& 31)) >>> (nI s &&& 31)) &&& 1 = if s = k then 1 else 0 := by decide +kernel
theorem bit_01 (x : Int32) : x &&& 1 = 0 ∨ x &&& 1 = 1 := by
  rw [pk_and x 1 (by decide)]
  rcases (show x.toBitVec.toNat % 2 ^ 1 = 0 ∨ x.toBitVec.toNat % 2 ^ 1 = 1 by omega) with e | e <;> rw [e]
  · exact Or.inl rfl
  · exact Or.inr rfl
theorem wetB_or {x : Int32} {k s : Nat} (hk : k < 32) (hs : s < 32) : wetB (x ||| ((1 : Int32) <<< (nI k &&& 31))) s = (wetB x s || decide (k = s)) := by
  unfold wetB
  rw [bit_or, bit_one k hk s hs]
  by_cases e : s = k
  · rw [if_pos e, show decide (k = s) = true from decide_eq_true e.symm, Bool.or_true]
    rcases bit_01 (x >>> (nI s &&& 31)) with z | z <;> rw [z] <;> decide
  · rw [if_neg e, show decide (k = s) = false from decide_eq_false (fun z => e z.symm), Bool.or_false]
    rcases bit_01 (x >>> (nI s &&& 31)) with z | z <;> rw [z] <;> decide
theorem wetB_0 {s : Nat} (hs : s < 32) : wetB 0 s = false := by
  have : ∀ s, s < 32 → wetB 0 s = false := by decide +kernel
  exact this s hs
def exI (a b : Int32) : Nat → Bool := fun i => decide (nI i = a) || decide (nI i = b)
theorem wet_eq {f : Nat → Int32} {rs : Nat → Nat} (a b : Int32) : ∀ {n : Nat}, (∀ i, i < n → f i = nI (rs i) ∧ rs i < 30) → ∀ s, s < 30 → wetB (wetF f a b n) s = wetN rs (exI a b) n s
  | 0, _, s, hs => wetB_0 (by omega)
  | n + 1, h, s, hs => by
    have ih := wet_eq a b (n := n) (fun i hi => h i (by omega)) s hs
    obtain ⟨h1, h2⟩ := h n (by omega)
    rw [wetF, wetN]
    by_cases ea : nI n = a
    · rw [if_pos ea, ih]; unfold exI; rw [decide_eq_true ea]; simp
    · rw [if_neg ea]
      by_cases eb : nI n = b
      · rw [if_pos eb, ih]; unfold exI; rw [decide_eq_true eb]; simp
      · rw [if_neg eb, h1, wetB_or (by omega) (by omega), ih]
        unfold exI
        rw [decide_eq_false ea, decide_eq_false eb]
        simp
theorem bits_wet {f : Nat → Bool} : ∀ {n : Nat}, n ≤ 32 → ∀ s, s < 32 → wetB (bitsS f n) s = (decide (s < n) && f s)
  | 0, _, s, hs => by rw [bitsS, wetB_0 hs, decide_eq_false (Nat.not_lt_zero s)]; rfl
  | n + 1, h, s, hs => by
    have ih := bits_wet (f := f) (n := n) (by omega) s hs
    rw [bitsS]
    cases hf : f n with
    | true =>
      rw [if_pos rfl, wetB_or (by omega) hs, ih]
      by_cases e : n = s
      · subst e; rw [decide_eq_true rfl, decide_eq_true (Nat.lt_succ_self n), hf]; simp
      · rw [decide_eq_false e, Bool.or_false]
        by_cases z : s < n
        · rw [decide_eq_true z, decide_eq_true (show s < n + 1 by omega)]
        · rw [decide_eq_false z, decide_eq_false (show ¬ s < n + 1 by omega)]
    | false =>
      rw [if_neg (by decide), ih]
      by_cases e : n = s
      · subst e; rw [decide_eq_false (Nat.lt_irrefl n), hf]; simp
      · by_cases z : s < n
        · rw [decide_eq_true z, decide_eq_true (show s < n + 1 by omega)]
        · rw [decide_eq_false z, decide_eq_false (show ¬ s < n + 1 by omega)]
end
section
/-! the class and what both sides hold -/
def pairB (f : Nat → Nat) : Nat → Option Nat × Nat
  | 0 => (none, 31)
  | n + 1 => if f n < (pairB f n).2 then (some n, f n) else pairB f n
def prW (P : Pr) (l r : Nat) : Pr := (P.1, l, r, P.2.2.2.1, P.2.2.2.2)
def pairS (S : Sp) (p : Nat) : Option Nat × Nat := pairB (fun c => comS S.V (prW (prS S.pf p) (c / S.m) (c % S.m)) (wet0 S)) (S.m * S.m)
def pairA (S : Sp) (p k : Nat) : Int32 := match (pairS S p).1 with
  | none => -1
  | some c => if k = 0 then nI (c / S.m) else if k = 1 then nI (c % S.m) else nI (pairS S p).2 - 1
/-- nobody drowns, had some rains not been -/
def dryB (S : Sp) (ex : Nat → Bool) : Bool := allB (fun p => !decide (fin S.V (prS S.pf p) (wetN S.rs ex S.rn) = 2)) S.q
def ex1 (a : Nat) : Nat → Bool := fun i => decide (i = a)
def ex2 (a b : Nat) : Nat → Bool := fun i => decide (i = a) || decide (i = b)
def dry2 (S : Sp) (a : Nat) : Option Nat := firstN (fun b => decide (a < b) && dryB S (ex2 a b)) S.rn
def dryS (S : Sp) : Option (List Nat) :=
  if dryB S (fun _ => false) then some [] else match firstN (fun a => dryB S (ex1 a)) S.rn with
  | some a => some [a]
  | none => match firstN (fun a => (dry2 S a).isSome) S.rn with
    | some a => (match dry2 S a with
      | some b => some [a, b]
      | none => none)
    | none => none
def dryC (S : Sp) : Int32 := match dryS S with
  | none => -1
  | some l => nI l.length
def dryA (S : Sp) (i : Nat) : Int32 := match dryS S with
  | none => -1
  | some l => opI (l[i]?)
/-- dry to the end -/
def endF (V : Wd) (P : Pr) : Nat → Nat → Qs → Qs
  | 0, _, q => q
  | k + 1, s, q => endF V P k (s + 1) (goS V P s false q).1
/-- of so many parts ahead of a step, with k steps of storm left: those that come -/
def stormF (V : Wd) (P : Pr) (c : Nat) : Nat → Nat → Qs → Nat → Nat
  | 0, s, q, n => if n = 0 then 0 else if q.2.1 ≠ 0 then (if q.2.1 = 1 then n else 0) else if (endF V P (30 - s) s q).2.1 = 1 then n else 0
  | k + 1, s, q, n => if n = 0 then 0 else if q.2.1 ≠ 0 then (if q.2.1 = 1 then n * 16 ^ (k + 1) else 0) else stormF V P c k (s + 1) (goS V P s true q).1 (n * c) + stormF V P c k (s + 1) (goS V P s false q).1 (n * (16 - c))
def stormS (S : Sp) (p c l : Nat) : Nat := stormF S.V (prS S.pf p) c (l + 1) 0 (beginS S.V (prS S.pf p)) 1
/-! what the class' memory holds -/
def tnOK (w : am_M) (b : Nat → Nat) (n : Nat) : Prop := cTown w (townR b n).2.1 (townR b n).2.2.2 (nxS (townR b n).2.1 (townR b n).2.2.1 (townR b n).2.2.2) ∧ w.1 8 0 = opI (townR b n).1
def lsOK (w : am_M) (b : Nat → Nat) (n : Nat) : Prop := cLasts w (lastsR b n).2.1 (lastsR b n).2.2.1 (lastsR b n).2.2.2.1 (lastsR b n).2.2.2.2 ∧ w.1 8 1 = opI (lastsR b n).1
def ppOK (w : am_M) (b : Nat → Nat) (n : Nat) : Prop := cPeople w (peopleR b n).2.1 (peopleR b n).2.2 ∧ w.1 8 2 = opI (peopleR b n).1
def RCt (w : am_M) (S : Sp) : Prop := ∀ t, t < 3 → cText w t (S.tl t) (S.tb t) ∧ w.1 (2 + t) 1 = nI (mxT t)
def RCr (w : am_M) (S : Sp) : Prop := w.1 18 1 = nI S.rn ∧ ∀ i, i < S.rn → w.1 19 i = nI (S.rs i)
def RCh (w : am_M) (S : Sp) : Prop := ∀ s, s < 4 → w.1 (25 + s) 2 = opI (S.sz s) ∧ ∀ n, S.sz s = some n → w.1 (25 + s) 1 = nI (S.fm s) ∧ ∀ i, i < n → w.1 (29 + s) i = S.it s i
def cTr (w : am_M) (S : Sp) : Prop := w.1 0 17 = 0 → ∀ p, p < S.q → trOK w (34 + p) (42 + p) S.V (prS S.pf p) (wet0 S)
def cPr (w : am_M) (S : Sp) : Prop := w.1 0 18 = -1 ∨ ∃ p, p < S.q ∧ w.1 0 18 = nI p ∧ ∀ k, k < 3 → w.1 69 k = pairA S p k
def cDr (w : am_M) (S : Sp) : Prop := w.1 0 19 = -2 ∨ (w.1 0 19 = dryC S ∧ ∀ l, dryS S = some l → ∀ i a, l[i]? = some a → w.1 70 i = nI a)
def cSt (w : am_M) (S : Sp) : Prop := w.1 53 3 = -1 ∨ ∃ p c l, p < S.q ∧ c ≤ 16 ∧ l ≤ 9 ∧ w.1 53 3 = nI p ∧ w.1 53 1 = nI c ∧ w.1 53 2 = nI (l + 1) ∧ w.2 53 = lN (stormS S p c l)
def RCb (w : am_M) (S : Sp) : Prop := sok S ∧ RCt w S ∧ tnOK w (S.tb 0) (S.tl 0) ∧ lsOK w (S.tb 1) (S.tl 1) ∧ ppOK w (S.tb 2) (S.tl 2) ∧ RCr w S ∧ cSeen w S.sn S.st S.pe S.ce ∧ RCh w S ∧ w.1 0 16 = S.fn
def RC (w : am_M) (S : Sp) : Prop := RCb w S ∧ cTr w S ∧ cPr w S ∧ cDr w S ∧ cSt w S
theorem RCb.V {w : am_M} {S : Sp} (h : RCb w S) : cV w S.V := ⟨h.2.2.1.1, h.2.2.2.1.1⟩
theorem RCb.P {w : am_M} {S : Sp} (h : RCb w S) : cPeople w S.q S.pf := h.2.2.2.2.1.1
theorem RCb.M {w : am_M} {S : Sp} (h : RCb w S) : w.1 12 3 = nI S.m ∧ S.m ≤ 8 := ⟨h.2.2.2.1.1.1, h.2.2.2.1.1.2.1⟩
theorem tnOK.fr {w w' : am_M} {b : Nat → Nat} {n : Nat} (h : tnOK w b n) (e : ∀ a, 8 ≤ a → a < 12 → w'.1 a = w.1 a) : tnOK w' b n := by
  obtain ⟨⟨h1, h2, h3, h4⟩, h5⟩ := h
  exact ⟨⟨by rw [e 9 (by omega) (by omega)]; exact h1, h2, fun c hc => by rw [e 10 (by omega) (by omega)]; exact h3 c hc, fun c hc a ha => by rw [e 11 (by omega) (by omega)]; exact h4 c hc a ha⟩, by rw [e 8 (by omega) (by omega)]; exact h5⟩
theorem lsOK.fr {w w' : am_M} {b : Nat → Nat} {n : Nat} (h : lsOK w b n) (e : ∀ a, 12 ≤ a → a < 16 → w'.1 a = w.1 a) (e8 : w'.1 8 1 = w.1 8 1) : lsOK w' b n := by
  obtain ⟨⟨h1, h2, h3⟩, h5⟩ := h
  exact ⟨⟨by rw [e 12 (by omega) (by omega)]; exact h1, h2, fun l hl => by rw [e 13 (by omega) (by omega), e 14 (by omega) (by omega), e 15 (by omega) (by omega)]; exact h3 l hl⟩, by rw [e8]; exact h5⟩
theorem ppOK.fr {w w' : am_M} {b : Nat → Nat} {n : Nat} (h : ppOK w b n) (e : ∀ a, 16 ≤ a → a < 18 → w'.1 a = w.1 a) (e8 : w'.1 8 2 = w.1 8 2) : ppOK w' b n := by
  obtain ⟨⟨h1, h2, h3⟩, h5⟩ := h
  exact ⟨⟨by rw [e 16 (by omega) (by omega)]; exact h1, h2, fun p hp => by rw [e 17 (by omega) (by omega)]; exact h3 p hp⟩, by rw [e8]; exact h5⟩
theorem RCt.fr {w w' : am_M} {S : Sp} (h : RCt w S) (e : ∀ a, 2 ≤ a → a < 8 → w'.1 a = w.1 a) : RCt w' S := fun t ht => ⟨(h t ht).1.fr (e _ (by omega) (by omega)) (e _ (by omega) (by omega)), by rw [e _ (by omega) (by omega)]; exact (h t ht).2⟩
theorem RCr.fr {w w' : am_M} {S : Sp} (h : RCr w S) (e : ∀ a, 18 ≤ a → a < 20 → w'.1 a = w.1 a) : RCr w' S := ⟨by rw [e 18 (by omega) (by omega)]; exact h.1, fun i hi => by rw [e 19 (by omega) (by omega)]; exact h.2 i hi⟩
theorem RCh.fr {w w' : am_M} {S : Sp} (h : RCh w S) (e : ∀ a, 25 ≤ a → a < 33 → w'.1 a = w.1 a) : RCh w' S := fun s hs => by
  rw [e (25 + s) (by omega) (by omega), e (29 + s) (by omega) (by omega)]
  exact h s hs
/-- the base stays, if but workings change -/
theorem RCb.fr {w w' : am_M} {S : Sp} (h : RCb w S) (e : ∀ a, 0 < a → a < 34 → w'.1 a = w.1 a) (e0 : w'.1 0 16 = w.1 0 16) : RCb w' S := by
  obtain ⟨h1, h2, h3, h4, h5, h6, h7, h8, h9⟩ := h
  exact ⟨h1, h2.fr (fun a _ _ => e a (by omega) (by omega)), h3.fr (fun a _ _ => e a (by omega) (by omega)), h4.fr (fun a _ _ => e a (by omega) (by omega)) (by rw [e 8 (by omega) (by omega)]), h5.fr (fun a _ _ => e a (by omega) (by omega)) (by rw [e 8 (by omega) (by omega)]), h6.fr (fun a _ _ => e a (by omega) (by omega)), h7.fr (fun a _ _ => e a (by omega) (by omega)), h8.fr (fun a _ _ => e a (by omega) (by omega)), by rw [e0]; exact h9⟩
theorem cTr.fr {w w' : am_M} {S : Sp} (h : cTr w S) (hq : S.q ≤ 8) (e : ∀ a, 34 ≤ a → a < 50 → w'.1 a = w.1 a) (e0 : w'.1 0 17 = w.1 0 17) : cTr w' S := fun z p hp => by
  rw [e0] at z
  exact (h z p hp).fr (e _ (by omega) (by omega)) (e _ (by omega) (by omega))
theorem cPr.fr {w w' : am_M} {S : Sp} (h : cPr w S) (e : w'.1 69 = w.1 69) (e0 : w'.1 0 18 = w.1 0 18) : cPr w' S := by unfold cPr; rw [e, e0]; exact h
theorem cDr.fr {w w' : am_M} {S : Sp} (h : cDr w S) (e : w'.1 70 = w.1 70) (e0 : w'.1 0 19 = w.1 0 19) : cDr w' S := by unfold cDr; rw [e, e0]; exact h
theorem cSt.fr {w w' : am_M} {S : Sp} (h : cSt w S) (e : w'.1 53 = w.1 53) (e0 : w'.2 53 = w.2 53) : cSt w' S := by unfold cSt; rw [e, e0]; exact h
/-- cells that hold nothing between the calls -/
def scr (a : Nat) : Prop := (50 ≤ a ∧ a ≤ 52) ∨ (55 ≤ a ∧ a ≤ 68) ∨ a = 71
def am_sc (w w' : am_M) : Prop := (∀ a, ¬ scr a → w'.1 a = w.1 a) ∧ w'.2 = w.2
theorem am_sc.rf {w : am_M} : am_sc w w := ⟨fun _ _ => rfl, rfl⟩
theorem am_sc.tr {w w' w'' : am_M} (h : am_sc w w') (h' : am_sc w' w'') : am_sc w w'' := ⟨fun a ha => (h'.1 a ha).trans (h.1 a ha), h'.2.trans h.2⟩
theorem am_sc.of {b : Nat} {w w' : am_M} (h : am_fr b w w') (hb : scr b) : am_sc w w' := ⟨fun a ha => h.1 a (fun z => ha (by rw [z]; exact hb)), h.2⟩
theorem am_sc.pi {w w' : am_M} {b j : Nat} {x : Int32} (h : am_sc w w') (hb : scr b) : am_sc w (am_pi w' b j x) := ⟨fun a ha => (am_pi_row (fun z => ha (by rw [z]; exact hb))).trans (h.1 a ha), h.2⟩
theorem scr52 : scr 52 := Or.inl (by omega)
theorem RC.sc {w w' : am_M} {S : Sp} (h : RC w S) (e : am_sc w w') : RC w' S := by
  obtain ⟨h1, h2, h3, h4, h5⟩ := h
  have g : ∀ a, ¬ scr a → w'.1 a = w.1 a := e.1
  exact ⟨h1.fr (fun a _ _ => g a (by unfold scr; omega)) (by rw [g 0 (by unfold scr; omega)]), h2.fr h1.P.2.1 (fun a _ _ => g a (by unfold scr; omega)) (by rw [g 0 (by unfold scr; omega)]), h3.fr (g _ (by unfold scr; omega)) (by rw [g 0 (by unfold scr; omega)]), h4.fr (g _ (by unfold scr; omega)) (by rw [g 0 (by unfold scr; omega)]), h5.fr (g _ (by unfold scr; omega)) (by rw [e.2])⟩
/-- nothing is kept any more -/
theorem RC.out {w : am_M} {S : Sp} (h : RCb w S) : RC (cOut w) S := by
  refine ⟨h.fr (fun a h1 h2 => ?_) ?_, ?_, Or.inl ?_, Or.inl ?_, Or.inl ?_⟩
  · unfold cOut; rw [am_pi_row (by omega), am_pi_row (by omega), am_pi_row (by omega), am_pi_row (by omega)]
  · unfold cOut; rw [am_pi_ne (by omega), am_pi_ne (by omega), am_pi_ne (by omega), am_pi_ne (by omega)]
  · intro z
    exact absurd z (by show ¬ (1 : Int32) = 0; decide)
  · rfl
  · rfl
  · rfl
/-! a text is read anew -/
def RCx (w : am_M) (S : Sp) (t : Nat) : Prop := sok S ∧ RCt w S ∧ (t ≠ 0 → tnOK w (S.tb 0) (S.tl 0)) ∧ (t ≠ 1 → lsOK w (S.tb 1) (S.tl 1)) ∧ (t ≠ 2 → ppOK w (S.tb 2) (S.tl 2)) ∧ RCr w S ∧ cSeen w S.sn S.st S.pe S.ce ∧ RCh w S ∧ w.1 0 16 = S.fn
theorem d_reload {d t : Nat} {w : am_M} {S : Sp} (hd : 7 ≤ d) (ht : t < 3) (h : RCx w S t) : ∃ o : am_O, (o.1 = none ∧ RC o.2 S ∧ ∀ a, a < 8 → 0 < a → o.2.1 a = w.1 a) ∧ am_D shC d mi_X11_reload [.ref 0, .int (nI t)] w o := by
  obtain ⟨h1, h2, h3, h4, h5, h6, h7, h8, h9⟩ := h
  have out : ∀ w1 : am_M, RCb w1 S → (∀ a, a < 8 → 0 < a → w1.1 a = w.1 a) → am_R shC mi_X11_reload (am_D shC (d - 1)) (fun o => o.1 = none ∧ RC o.2 S ∧ ∀ a, a < 8 → 0 < a → o.2.1 a = w.1 a) 72 [(0, .ref 0)] [] w1 := by
    intro w1 hb hlow
    refine am_go rfl ?_
    refine am_g0 rfl rfl ?_
    refine ⟨(none, cOut w1), d_outdate (by omega), ?_⟩
    refine am_to (lv' := [(0, .ref 0)]) (st' := []) (w' := cOut w1) rfl rfl rfl ?_
    refine am_g0 rfl rfl ?_
    refine ⟨rfl, rfl, RC.out hb, fun a ha h0 => ?_⟩
    show (cOut w1).1 a = w.1 a
    unfold cOut
    rw [am_pi_row (by omega), am_pi_row (by omega), am_pi_row (by omega), am_pi_row (by omega)]
    exact hlow a ha h0
  refine am_dex (by omega) rfl rfl ?_
  iterate 2 refine am_g0 rfl rfl ?_
  by_cases t0 : t = 0
  · refine am_tt (show (nI t : Int32) = 0 from by rw [t0]; rfl) ?_
    iterate 10 refine am_g0 rfl rfl ?_
    obtain ⟨⟨r1, w1⟩, ⟨e1, f1, g1, g2⟩, hD1⟩ := d_tload (d := d - 1) (by omega) (h2 0 (by omega)).1
    dsimp only at e1 f1 g1 g2
    subst e1
    refine ⟨(some (.int (opI (townR (S.tb 0) (S.tl 0)).1)), w1), hD1, ?_⟩
    refine am_to (lv' := [(0, .ref 0), (1, .int (nI t))]) (st' := [.int (opI (townR (S.tb 0) (S.tl 0)).1), .int 0, .ref 8]) (w' := w1) rfl rfl rfl ?_
    refine am_gsN (n := 3) (k := 0) rfl rfl (by omega) (by decide) ?_
    refine am_to (lv' := [(0, .ref 0), (1, .int (nI t))]) (st' := []) (w' := am_pi w1 8 0 (opI (townR (S.tb 0) (S.tl 0)).1)) rfl rfl rfl ?_
    have e8 : ∀ j, j ≠ 0 → (am_pi w1 8 0 (opI (townR (S.tb 0) (S.tl 0)).1)).1 8 j = w.1 8 j := fun j hj => by rw [am_pi_ne (Or.inr hj), f1.1 8 (by omega) (by omega) (by omega)]
    have e : ∀ a, a < 8 ∨ 12 ≤ a → (am_pi w1 8 0 (opI (townR (S.tb 0) (S.tl 0)).1)).1 a = w.1 a := fun a ha => by rw [am_pi_row (by omega), f1.1 a (by omega) (by omega) (by omega)]
    refine am_g0 rfl rfl ?_
    refine am_kl (out _ ⟨h1, h2.fr (fun a _ _ => e a (by omega)), ⟨⟨?_, g2.2.1, fun c hc => ?_, fun c hc a ha => ?_⟩, am_pi_at _ _ _ _⟩, (h4 (by omega)).fr (fun a _ _ => e a (by omega)) (e8 1 (by omega)), (h5 (by omega)).fr (fun a _ _ => e a (by omega)) (e8 2 (by omega)), h6.fr (fun a _ _ => e a (by omega)), h7.fr (fun a _ _ => e a (by omega)), h8.fr (fun a _ _ => e a (by omega)), by rw [e 0 (by omega)]; exact h9⟩ (fun a ha _ => e a (by omega))) rfl
    · rw [am_pi_row (by omega)]; exact g2.1
    · rw [am_pi_row (by omega)]; exact g2.2.2.1 c hc
    · rw [am_pi_row (by omega)]; exact g2.2.2.2 c hc a ha
  · refine am_ff (show ¬ (nI t : Int32) = 0 from nne (b := 0) t0 (by omega) (by omega)) ?_
    refine am_go rfl ?_
    iterate 2 refine am_g0 rfl rfl ?_
    by_cases t1 : t = 1
    · refine am_tt (show (nI t : Int32) = 1 from by rw [t1]; rfl) ?_
      iterate 10 refine am_g0 rfl rfl ?_
      obtain ⟨⟨r1, w1⟩, ⟨e1, f1, g2⟩, hD1⟩ := d_lload (d := d - 1) (by omega) (h2 1 (by omega)).1
      dsimp only at e1 f1 g2
      subst e1
      refine ⟨(some (.int (opI (lastsR (S.tb 1) (S.tl 1)).1)), w1), hD1, ?_⟩
      refine am_to (lv' := [(0, .ref 0), (1, .int (nI t))]) (st' := [.int (opI (lastsR (S.tb 1) (S.tl 1)).1), .int 1, .ref 8]) (w' := w1) rfl rfl rfl ?_
      refine am_gsN (n := 3) (k := 1) rfl rfl (by omega) (by decide) ?_
      refine am_to (lv' := [(0, .ref 0), (1, .int (nI t))]) (st' := []) (w' := am_pi w1 8 1 (opI (lastsR (S.tb 1) (S.tl 1)).1)) rfl rfl rfl ?_
      have e8 : ∀ j, j ≠ 1 → (am_pi w1 8 1 (opI (lastsR (S.tb 1) (S.tl 1)).1)).1 8 j = w.1 8 j := fun j hj => by rw [am_pi_ne (Or.inr hj), f1.1 8 (by omega)]
      have e : ∀ a, a ≠ 8 → a < 12 ∨ 16 ≤ a → (am_pi w1 8 1 (opI (lastsR (S.tb 1) (S.tl 1)).1)).1 a = w.1 a := fun a h8 ha => by rw [am_pi_row (by omega), f1.1 a (by omega)]
      refine am_g0 rfl rfl ?_
      refine am_kl (out _ ⟨h1, h2.fr (fun a _ _ => e a (by omega) (by omega)), ⟨⟨?_, (h3 t0).1.2.1, fun c hc => ?_, fun c hc a ha => ?_⟩, ?_⟩, ⟨⟨?_, g2.2.1, fun l hl => ?_⟩, am_pi_at _ _ _ _⟩, (h5 (by omega)).fr (fun a _ _ => e a (by omega) (by omega)) (e8 2 (by omega)), h6.fr (fun a _ _ => e a (by omega) (by omega)), h7.fr (fun a _ _ => e a (by omega) (by omega)), h8.fr (fun a _ _ => e a (by omega) (by omega)), by rw [e 0 (by omega) (by omega)]; exact h9⟩ (fun a ha _ => e a (by omega) (by omega))) rfl
      · rw [e 9 (by omega) (by omega)]; exact (h3 t0).1.1
      · rw [e 10 (by omega) (by omega)]; exact (h3 t0).1.2.2.1 c hc
      · rw [e 11 (by omega) (by omega)]; exact (h3 t0).1.2.2.2 c hc a ha
      · rw [e8 0 (by omega)]; exact (h3 t0).2
      · rw [am_pi_row (by omega)]; exact g2.1
      · rw [am_pi_row (by omega), am_pi_row (by omega), am_pi_row (by omega)]; exact g2.2.2 l hl
    · refine am_ff (show ¬ (nI t : Int32) = 1 from nne (b := 1) t1 (by omega) (by omega)) ?_
      refine am_go rfl ?_
      iterate 9 refine am_g0 rfl rfl ?_
      obtain ⟨⟨r1, w1⟩, ⟨e1, f1, g2⟩, hD1⟩ := d_pload (d := d - 1) (by omega) (h2 2 (by omega)).1
      dsimp only at e1 f1 g2
      subst e1
      refine ⟨(some (.int (opI (peopleR (S.tb 2) (S.tl 2)).1)), w1), hD1, ?_⟩
      refine am_to (lv' := [(0, .ref 0)]) (st' := [.int (opI (peopleR (S.tb 2) (S.tl 2)).1), .int 2, .ref 8]) (w' := w1) rfl rfl rfl ?_
      refine am_gsN (n := 3) (k := 2) rfl rfl (by omega) (by decide) ?_
      refine am_to (lv' := [(0, .ref 0)]) (st' := []) (w' := am_pi w1 8 2 (opI (peopleR (S.tb 2) (S.tl 2)).1)) rfl rfl rfl ?_
      have e8 : ∀ j, j ≠ 2 → (am_pi w1 8 2 (opI (peopleR (S.tb 2) (S.tl 2)).1)).1 8 j = w.1 8 j := fun j hj => by rw [am_pi_ne (Or.inr hj), f1.1 8 (by omega) (by omega) (by omega)]
      have e : ∀ a, a ≠ 8 → a < 16 ∨ 18 ≤ a → (am_pi w1 8 2 (opI (peopleR (S.tb 2) (S.tl 2)).1)).1 a = w.1 a := fun a h8 ha => by rw [am_pi_row (by omega), f1.1 a (by omega) (by omega) (by omega)]
      refine am_kl (out _ ⟨h1, h2.fr (fun a _ _ => e a (by omega) (by omega)), ⟨⟨?_, (h3 t0).1.2.1, fun c hc => ?_, fun c hc a ha => ?_⟩, ?_⟩, (h4 t1).fr (fun a _ _ => e a (by omega) (by omega)) (e8 1 (by omega)), ⟨⟨?_, g2.2.1, fun l hl => ?_⟩, am_pi_at _ _ _ _⟩, h6.fr (fun a _ _ => e a (by omega) (by omega)), h7.fr (fun a _ _ => e a (by omega) (by omega)), h8.fr (fun a _ _ => e a (by omega) (by omega)), by rw [e 0 (by omega) (by omega)]; exact h9⟩ (fun a ha _ => e a (by omega) (by omega))) rfl
      · rw [e 9 (by omega) (by omega)]; exact (h3 t0).1.1
      · rw [e 10 (by omega) (by omega)]; exact (h3 t0).1.2.2.1 c hc
      · rw [e 11 (by omega) (by omega)]; exact (h3 t0).1.2.2.2 c hc a ha
      · rw [e8 0 (by omega)]; exact (h3 t0).2
      · rw [am_pi_row (by omega)]; exact g2.1
      · rw [am_pi_row (by omega)]; exact g2.2.2 l hl
end
section
/-! type, wipe, undo, fault, cell, last, person: the class -/
/-- a number within, or none -/
def dI (x : Int32) (n : Nat) : Option Nat := if x < 0 ∨ nI n ≤ x then none else some x.toNatClampNeg
theorem dI_f {x : Int32} {n : Nat} (h : x < 0 ∨ nI n ≤ x) : dI x n = none := by unfold dI; rw [if_pos h]
theorem dI_t {j n : Nat} (h : j < n) (hn : n < 2 ^ 31) : dI (nI j) n = some j := by
  unfold dI
  rw [if_neg (fun z => z.elim (nI_pos (by omega)) (nI_ge h hn)), nI_clamp (by omega)]
theorem dI_or (x : Int32) (n : Nat) (hn : n < 2 ^ 31) : dI x n = none ∨ ∃ j, j < n ∧ x = nI j ∧ dI x n = some j := by
  rcases am_wi x n hn with ⟨j, hj, rfl⟩ | h
  · exact Or.inr ⟨j, hj, rfl, dI_t hj hn⟩
  · exact Or.inl (dI_f h)
theorem dI_fi {x : Int32} {n : Nat} (h : dI x n = none) : x < 0 ∨ nI n ≤ x := by
  unfold dI at h
  by_cases z : x < 0 ∨ nI n ≤ x
  · exact z
  · rw [if_neg z] at h; cases h
theorem d_isWn (sh : List am_S) {d n : Nat} {x : Int32} {w : am_M} (hd : 1 ≤ d) (h : dI x n = none) : am_D sh d mi_X11_isWithin [.int x, .int (nI n)] w (some (.int 0), w) := d_isWithin_f sh hd (dI_fi h) w
theorem d_isWs (sh : List am_S) {d n j : Nat} {w : am_M} (hd : 1 ≤ d) (hj : j < n) (hn : n < 2 ^ 31) : am_D sh d mi_X11_isWithin [.int (nI j), .int (nI n)] w (some (.int 1), w) := d_isWithin_t sh hd hj hn w
theorem sh_T3 (t : Nat) (ht : t < 3) : ([2, 3, 4] : List Nat)[t]? = some (2 + t) := by
  match t, ht with
  | 0, _ => rfl
  | 1, _ => rfl
  | 2, _ => rfl
def Sp.setT (S : Sp) (tl : Nat → Nat) (tb : Nat → Nat → Nat) : Sp := (tl, tb, S.2.2)
def Sp.setR (S : Sp) (n : Nat) (rs : Nat → Nat) : Sp := (S.1, S.2.1, (n, rs), S.2.2.2)
def Sp.setS (S : Sp) (n : Nat) (st pe ce : Nat → Nat) : Sp := (S.1, S.2.1, S.2.2.1, (n, st, pe, ce), S.2.2.2.2)
def Sp.setH (S : Sp) (fm : Nat → Nat) (sz : Nat → Option Nat) (it : Nat → Nat → Int32) : Sp := (S.1, S.2.1, S.2.2.1, S.2.2.2.1, (fm, sz, it), S.2.2.2.2.2)
def Sp.setF (S : Sp) (x : Int32) : Sp := (S.1, S.2.1, S.2.2.1, S.2.2.2.1, S.2.2.2.2.1, x)
theorem up1_at (f : Nat → Nat) (k v : Nat) : up1 f k v k = v := by unfold up1; rw [if_pos rfl]
theorem up1_ne {f : Nat → Nat} {k v i : Nat} (h : i ≠ k) : up1 f k v i = f i := by unfold up1; rw [if_neg h]
theorem RCx_of {w w1 : am_M} {S : Sp} {t : Nat} {tl : Nat → Nat} {tb : Nat → Nat → Nat} (h : RC w S) (ht : t < 3) (e : ∀ a, a ≠ 2 + t → a ≠ 5 + t → w1.1 a = w.1 a) (e1 : w1.1 (2 + t) 1 = w.1 (2 + t) 1) (hl : ∀ k, k ≠ t → tl k = S.tl k ∧ tb k = S.tb k) (hm : tl t ≤ mxT t) (hc : cText w1 t (tl t) (tb t)) : RCx w1 (S.setT tl tb) t := by
  obtain ⟨⟨h1, h2, h3, h4, h5, h6, h7, h8, h9⟩, -⟩ := h
  refine ⟨⟨fun k hk => ?_, h1.2.1, h1.2.2.1, h1.2.2.2⟩, fun k hk => ?_, fun z => ?_, fun z => ?_, fun z => ?_, h6.fr (fun a _ _ => e a (by omega) (by omega)), h7.fr (fun a _ _ => e a (by omega) (by omega)), h8.fr (fun a _ _ => e a (by omega) (by omega)), by rw [e 0 (by omega) (by omega)]; exact h9⟩
  · show tl k ≤ mxT k ∧ ∀ i, i < tl k → tb k i < 256
    by_cases z : k = t
    · subst z; exact ⟨hm, fun i hi => (hc.2.2 i hi).2⟩
    · rw [(hl k z).1, (hl k z).2]; exact h1.1 k hk
  · show cText w1 k (tl k) (tb k) ∧ w1.1 (2 + k) 1 = nI (mxT k)
    by_cases z : k = t
    · subst z; exact ⟨hc, e1.trans (h2 k hk).2⟩
    · rw [(hl k z).1, (hl k z).2, e (2 + k) (by omega) (by omega)]
      exact ⟨(h2 k hk).1.fr (e _ (by omega) (by omega)) (e _ (by omega) (by omega)), (h2 k hk).2⟩
  · show tnOK w1 (tb 0) (tl 0)
    rw [(hl 0 (by omega)).1, (hl 0 (by omega)).2]; exact h3.fr (fun a _ _ => e a (by omega) (by omega))
  · show lsOK w1 (tb 1) (tl 1)
    rw [(hl 1 (by omega)).1, (hl 1 (by omega)).2]; exact h4.fr (fun a _ _ => e a (by omega) (by omega)) (by rw [e 8 (by omega) (by omega)])
  · show ppOK w1 (tb 2) (tl 2)
    rw [(hl 2 (by omega)).1, (hl 2 (by omega)).2]; exact h5.fr (fun a _ _ => e a (by omega) (by omega)) (by rw [e 8 (by omega) (by omega)])
def typeS (S : Sp) (x y : Int32) : Int32 × Sp := match dI x 3, dI y 256 with
  | some t, some b => if S.tl t = mxT t then (-4, S) else (nI (S.tl t + 1), S.setT (up1 S.tl t (S.tl t + 1)) (up2 S.tb t (S.tl t) b))
  | _, _ => (-2, S)
def wipeS (S : Sp) (x : Int32) : Int32 × Sp := match dI x 3 with
  | some t => (nI (S.tl t), S.setT (up1 S.tl t 0) S.tb)
  | none => (-2, S)
def undoS (S : Sp) (x : Int32) : Int32 × Sp := match dI x 3 with
  | some t => if S.tl t = 0 then (-3, S) else (nI (S.tl t - 1), S.setT (up1 S.tl t (S.tl t - 1)) S.tb)
  | none => (-2, S)
theorem d_type {d : Nat} {x y : Int32} {w : am_M} {S : Sp} (hd : 8 ≤ d) (h : RC w S) : ∃ o : am_O, (o.1 = some (.int (typeS S x y).1) ∧ RC o.2 (typeS S x y).2) ∧ am_D shC d mi_X11_type [.ref 0, .int x, .int y] w o := by
  rcases dI_or x 3 (by decide) with hx | ⟨t, ht, rfl, hx⟩
  · refine am_dex (by omega) rfl rfl ?_
    iterate 3 refine am_g0 rfl rfl ?_
    refine ⟨(some (.int 0), w), d_isWn shC (n := 3) (by omega) hx, ?_⟩
    refine am_to (lv' := [(0, .ref 0), (1, .int x), (2, .int y)]) (st' := [.int 0]) (w' := w) rfl rfl rfl ?_
    refine am_g0 rfl rfl ?_
    refine am_go rfl ?_
    refine am_g0 rfl rfl ?_
    exact ⟨rfl, by unfold typeS; rw [hx], by unfold typeS; rw [hx]; exact h⟩
  · rcases dI_or y 256 (by decide) with hy | ⟨b, hb, rfl, hy⟩
    · refine am_dex (by omega) rfl rfl ?_
      iterate 3 refine am_g0 rfl rfl ?_
      refine ⟨(some (.int 1), w), d_isWs shC (n := 3) (by omega) ht (by decide), ?_⟩
      refine am_to (lv' := [(0, .ref 0), (1, .int (nI t)), (2, .int y)]) (st' := [.int 1]) (w' := w) rfl rfl rfl ?_
      iterate 4 refine am_g0 rfl rfl ?_
      refine ⟨(some (.int 0), w), d_isWn shC (n := 256) (by omega) hy, ?_⟩
      refine am_to (lv' := [(0, .ref 0), (1, .int (nI t)), (2, .int y)]) (st' := [.int 0]) (w' := w) rfl rfl rfl ?_
      refine am_g0 rfl rfl ?_
      refine am_go rfl ?_
      refine am_g0 rfl rfl ?_
      exact ⟨rfl, by unfold typeS; rw [hx, hy], by unfold typeS; rw [hx, hy]; exact h⟩
    · obtain ⟨s1, s2, s3⟩ := sh_T t ht
      obtain ⟨hT, hM⟩ := h.1.2.1 t ht
      have hle := (h.1.1.1 t ht).1
      have hmx := mxT_le t
      refine am_dex (by omega) rfl rfl ?_
      iterate 3 refine am_g0 rfl rfl ?_
      refine ⟨(some (.int 1), w), d_isWs shC (n := 3) (by omega) ht (by decide), ?_⟩
      refine am_to (lv' := [(0, .ref 0), (1, .int (nI t)), (2, .int (nI b))]) (st' := [.int 1]) (w' := w) rfl rfl rfl ?_
      iterate 4 refine am_g0 rfl rfl ?_
      refine ⟨(some (.int 1), w), d_isWs shC (n := 256) (by omega) hb (by decide), ?_⟩
      refine am_to (lv' := [(0, .ref 0), (1, .int (nI t)), (2, .int (nI b))]) (st' := [.int 1]) (w' := w) rfl rfl rfl ?_
      refine am_g0 rfl rfl ?_
      refine am_go rfl ?_
      iterate 3 refine am_g0 rfl rfl ?_
      refine am_ff (show ¬ nI t < 0 from nI_pos (by omega)) (am_oi (a := 2 + t) (by rw [nI_clamp (by omega)]; exact sh_T3 t ht) ?_)
      iterate 2 refine am_g0 rfl rfl ?_
      refine am_ys (show (true && (true && am_isb shC (2 + t) 7)) = true by rw [s1]; rfl) ?_
      by_cases hf : S.tl t = mxT t
      · refine ⟨(some (.int 0), w), d_append_f (by omega) ht hT.1 hM (by omega) (by omega), ?_⟩
        refine am_to (lv' := [(0, .ref 0), (1, .int (nI t)), (2, .int (nI b))]) (st' := [.int 0]) (w' := w) rfl rfl rfl ?_
        iterate 3 refine am_g0 rfl rfl ?_
        exact ⟨rfl, by unfold typeS; rw [hx, hy]; dsimp only; rw [if_pos hf], by unfold typeS; rw [hx, hy]; dsimp only; rw [if_pos hf]; exact h⟩
      · refine ⟨(some (.int 1), am_pi (am_pi w (5 + t) (S.tl t) (nI b)) (2 + t) 2 (nI (S.tl t + 1))), d_append_t (by omega) ht hT.1 hM (by omega) (by omega), ?_⟩
        refine am_to (lv' := [(0, .ref 0), (1, .int (nI t)), (2, .int (nI b))]) (st' := [.int 1]) (w' := am_pi (am_pi w (5 + t) (S.tl t) (nI b)) (2 + t) 2 (nI (S.tl t + 1))) rfl rfl rfl ?_
        have hS : typeS S (nI t) (nI b) = (nI (S.tl t + 1), S.setT (up1 S.tl t (S.tl t + 1)) (up2 S.tb t (S.tl t) b)) := by unfold typeS; rw [hx, hy]; dsimp only; rw [if_neg hf]
        rw [hS]
        have hc : cText (am_pi (am_pi w (5 + t) (S.tl t) (nI b)) (2 + t) 2 (nI (S.tl t + 1))) t (up1 S.tl t (S.tl t + 1) t) (up2 S.tb t (S.tl t) b t) := by
          rw [up1_at]
          refine ⟨am_pi_at _ _ _ _, by omega, fun i hi => ?_⟩
          rw [am_pi_ne (Or.inl (by omega))]
          unfold up2
          by_cases z : i = S.tl t
          · rw [if_pos ⟨rfl, z⟩, z, am_pi_at]; exact ⟨rfl, hb⟩
          · rw [if_neg (fun q => z q.2), am_pi_ne (Or.inr z)]; exact hT.2.2 i (by omega)
        have hX := RCx_of (w1 := am_pi (am_pi w (5 + t) (S.tl t) (nI b)) (2 + t) 2 (nI (S.tl t + 1))) (tl := up1 S.tl t (S.tl t + 1)) (tb := up2 S.tb t (S.tl t) b) h ht (fun a h1 h2 => by rw [am_pi_row h1, am_pi_row h2]) (by rw [am_pi_ne (Or.inr (by omega)), am_pi_ne (Or.inl (by omega))]) (fun k hk => ⟨up1_ne hk, funext fun i => by unfold up2; rw [if_neg (fun q => hk q.1)]⟩) (by rw [up1_at]; omega) hc
        refine am_g0 rfl rfl ?_
        refine am_go rfl ?_
        iterate 2 refine am_g0 rfl rfl ?_
        obtain ⟨⟨r1, w1⟩, ⟨e1, g1, g2⟩, hD1⟩ := d_reload (d := d - 1) (by omega) ht hX
        dsimp only at e1 g1 g2
        subst e1
        refine ⟨(none, w1), hD1, ?_⟩
        refine am_to (lv' := [(0, .ref 0), (1, .int (nI t))]) (st' := []) (w' := w1) rfl rfl rfl ?_
        iterate 4 refine am_g0 rfl rfl ?_
        refine am_ff (show ¬ nI t < 0 from nI_pos (by omega)) (am_oi (a := 2 + t) (by rw [nI_clamp (by omega)]; exact sh_T3 t ht) ?_)
        refine am_g0 rfl rfl ?_
        refine am_ys s1 ?_
        refine am_g0 rfl rfl ?_
        have e9 : w1.1 (2 + t) 2 = nI (S.tl t + 1) := by rw [g2 (2 + t) (by omega) (by omega), am_pi_at]
        rw [e9]
        exact ⟨rfl, rfl, g1⟩
theorem d_wipe {d : Nat} {x : Int32} {w : am_M} {S : Sp} (hd : 8 ≤ d) (h : RC w S) : ∃ o : am_O, (o.1 = some (.int (wipeS S x).1) ∧ RC o.2 (wipeS S x).2) ∧ am_D shC d mi_X11_wipe [.ref 0, .int x] w o := by
  rcases dI_or x 3 (by decide) with hx | ⟨t, ht, rfl, hx⟩
  · refine am_dex (by omega) rfl rfl ?_
    iterate 3 refine am_g0 rfl rfl ?_
    refine ⟨(some (.int 0), w), d_isWn shC (n := 3) (by omega) hx, ?_⟩
    refine am_to (lv' := [(0, .ref 0), (1, .int x)]) (st' := [.int 0]) (w' := w) rfl rfl rfl ?_
    iterate 3 refine am_g0 rfl rfl ?_
    exact ⟨rfl, by unfold wipeS; rw [hx], by unfold wipeS; rw [hx]; exact h⟩
  · obtain ⟨s1, s2, s3⟩ := sh_T t ht
    obtain ⟨hT, hM⟩ := h.1.2.1 t ht
    refine am_dex (by omega) rfl rfl ?_
    iterate 3 refine am_g0 rfl rfl ?_
    refine ⟨(some (.int 1), w), d_isWs shC (n := 3) (by omega) ht (by decide), ?_⟩
    refine am_to (lv' := [(0, .ref 0), (1, .int (nI t))]) (st' := [.int 1]) (w' := w) rfl rfl rfl ?_
    refine am_g0 rfl rfl ?_
    refine am_go rfl ?_
    iterate 3 refine am_g0 rfl rfl ?_
    refine am_ff (show ¬ nI t < 0 from nI_pos (by omega)) (am_oi (a := 2 + t) (by rw [nI_clamp (by omega)]; exact sh_T3 t ht) ?_)
    refine am_g0 rfl rfl ?_
    refine am_ys s1 ?_
    refine am_top (y := nI (S.tl t)) (hT.1) ?_
    iterate 5 refine am_g0 rfl rfl ?_
    refine am_ff (show ¬ nI t < 0 from nI_pos (by omega)) (am_oi (a := 2 + t) (by rw [nI_clamp (by omega)]; exact sh_T3 t ht) ?_)
    iterate 2 refine am_g0 rfl rfl ?_
    refine am_ys (show (am_isb shC (2 + t) 7 && true) = true by rw [s1]; rfl) ?_
    iterate 2 refine am_g0 rfl rfl ?_
    refine am_to (lv' := [(0, .ref 0), (1, .int (nI t)), (2, .int (nI (S.tl t)))]) (st' := [.int (nI t), .ref 0]) (w' := am_pi w (2 + t) 2 0) rfl rfl rfl ?_
    have hS : wipeS S (nI t) = (nI (S.tl t), S.setT (up1 S.tl t 0) S.tb) := by unfold wipeS; rw [hx]
    rw [hS]
    have hX := RCx_of (w1 := am_pi w (2 + t) 2 0) (tl := up1 S.tl t 0) (tb := S.tb) h ht (fun a h1 h2 => by rw [am_pi_row h1]) (by rw [am_pi_ne (Or.inr (by omega))]) (fun k hk => ⟨up1_ne hk, rfl⟩) (by rw [up1_at]; omega) (by rw [up1_at]; exact ⟨am_pi_at _ _ _ _, by omega, fun i hi => absurd hi (Nat.not_lt_zero i)⟩)
    refine am_g0 rfl rfl ?_
    obtain ⟨⟨r1, w1⟩, ⟨e1, g1, g2⟩, hD1⟩ := d_reload (d := d - 1) (by omega) ht hX
    dsimp only at e1 g1 g2
    subst e1
    refine ⟨(none, w1), hD1, ?_⟩
    refine am_to (lv' := [(0, .ref 0), (1, .int (nI t)), (2, .int (nI (S.tl t)))]) (st' := []) (w' := w1) rfl rfl rfl ?_
    iterate 2 refine am_g0 rfl rfl ?_
    exact ⟨rfl, rfl, g1⟩
theorem d_undo {d : Nat} {x : Int32} {w : am_M} {S : Sp} (hd : 8 ≤ d) (h : RC w S) : ∃ o : am_O, (o.1 = some (.int (undoS S x).1) ∧ RC o.2 (undoS S x).2) ∧ am_D shC d mi_X11_undo [.ref 0, .int x] w o := by
  rcases dI_or x 3 (by decide) with hx | ⟨t, ht, rfl, hx⟩
  · refine am_dex (by omega) rfl rfl ?_
    iterate 3 refine am_g0 rfl rfl ?_
    refine ⟨(some (.int 0), w), d_isWn shC (n := 3) (by omega) hx, ?_⟩
    refine am_to (lv' := [(0, .ref 0), (1, .int x)]) (st' := [.int 0]) (w' := w) rfl rfl rfl ?_
    iterate 3 refine am_g0 rfl rfl ?_
    exact ⟨rfl, by unfold undoS; rw [hx], by unfold undoS; rw [hx]; exact h⟩
  · obtain ⟨s1, s2, s3⟩ := sh_T t ht
    obtain ⟨hT, hM⟩ := h.1.2.1 t ht
    have hle := (h.1.1.1 t ht).1
    have hmx := mxT_le t
    refine am_dex (by omega) rfl rfl ?_
    iterate 3 refine am_g0 rfl rfl ?_
    refine ⟨(some (.int 1), w), d_isWs shC (n := 3) (by omega) ht (by decide), ?_⟩
    refine am_to (lv' := [(0, .ref 0), (1, .int (nI t))]) (st' := [.int 1]) (w' := w) rfl rfl rfl ?_
    refine am_g0 rfl rfl ?_
    refine am_go rfl ?_
    iterate 3 refine am_g0 rfl rfl ?_
    refine am_ff (show ¬ nI t < 0 from nI_pos (by omega)) (am_oi (a := 2 + t) (by rw [nI_clamp (by omega)]; exact sh_T3 t ht) ?_)
    refine am_g0 rfl rfl ?_
    refine am_ys s1 ?_
    refine am_g0 rfl rfl ?_
    by_cases h0 : S.tl t = 0
    · refine am_tt (show (w.1 (2 + t) 2 : Int32) = 0 from by rw [hT.1, h0]; rfl) ?_
      iterate 2 refine am_g0 rfl rfl ?_
      exact ⟨rfl, by unfold undoS; rw [hx]; dsimp only; rw [if_pos h0], by unfold undoS; rw [hx]; dsimp only; rw [if_pos h0]; exact h⟩
    · refine am_ff (show ¬ (w.1 (2 + t) 2 : Int32) = 0 from by rw [hT.1]; exact nI_ne0 (by omega) (by omega)) ?_
      refine am_go rfl ?_
      iterate 3 refine am_g0 rfl rfl ?_
      refine am_ff (show ¬ nI t < 0 from nI_pos (by omega)) (am_oi (a := 2 + t) (by rw [nI_clamp (by omega)]; exact sh_T3 t ht) ?_)
      iterate 2 refine am_g0 rfl rfl ?_
      refine am_ys s1 ?_
      iterate 2 refine am_g0 rfl rfl ?_
      refine am_top (y := nI (S.tl t - 1)) (by rw [hT.1]; exact pk_sub (b := 1) (by omega)) ?_
      refine am_g0 rfl rfl ?_
      refine am_ys (show (am_isb shC (2 + t) 7 && true) = true by rw [s1]; rfl) ?_
      iterate 2 refine am_g0 rfl rfl ?_
      refine am_to (lv' := [(0, .ref 0), (1, .int (nI t))]) (st' := [.int (nI t), .ref 0]) (w' := am_pi w (2 + t) 2 (nI (S.tl t - 1))) rfl rfl rfl ?_
      have hS : undoS S (nI t) = (nI (S.tl t - 1), S.setT (up1 S.tl t (S.tl t - 1)) S.tb) := by unfold undoS; rw [hx]; dsimp only; rw [if_neg h0]
      rw [hS]
      have hX := RCx_of (w1 := am_pi w (2 + t) 2 (nI (S.tl t - 1))) (tl := up1 S.tl t (S.tl t - 1)) (tb := S.tb) h ht (fun a h1 h2 => by rw [am_pi_row h1]) (by rw [am_pi_ne (Or.inr (by omega))]) (fun k hk => ⟨up1_ne hk, rfl⟩) (by rw [up1_at]; omega) (by rw [up1_at]; exact ⟨am_pi_at _ _ _ _, by omega, fun i hi => by rw [am_pi_row (by omega)]; exact hT.2.2 i (by omega)⟩)
      refine am_g0 rfl rfl ?_
      obtain ⟨⟨r1, w1⟩, ⟨e1, g1, g2⟩, hD1⟩ := d_reload (d := d - 1) (by omega) ht hX
      dsimp only at e1 g1 g2
      subst e1
      refine ⟨(none, w1), hD1, ?_⟩
      refine am_to (lv' := [(0, .ref 0), (1, .int (nI t))]) (st' := []) (w' := w1) rfl rfl rfl ?_
      iterate 4 refine am_g0 rfl rfl ?_
      refine am_ff (show ¬ nI t < 0 from nI_pos (by omega)) (am_oi (a := 2 + t) (by rw [nI_clamp (by omega)]; exact sh_T3 t ht) ?_)
      refine am_g0 rfl rfl ?_
      refine am_ys s1 ?_
      refine am_g0 rfl rfl ?_
      have e9 : w1.1 (2 + t) 2 = nI (S.tl t - 1) := by rw [g2 (2 + t) (by omega) (by omega), am_pi_at]
      rw [e9]
      exact ⟨rfl, rfl, g1⟩
def faultS (S : Sp) (x : Int32) : Int32 := match dI x 3 with
  | some t => opI (fltS S t)
  | none => -2
theorem d_fault {d : Nat} {x : Int32} {w : am_M} {S : Sp} (hd : 2 ≤ d) (h : RC w S) : am_D shC d mi_X11_fault [.ref 0, .int x] w (some (.int (faultS S x)), w) := by
  rcases dI_or x 3 (by decide) with hx | ⟨t, ht, rfl, hx⟩
  · refine am_def (by omega) rfl rfl ?_
    iterate 3 refine am_g0 rfl rfl ?_
    refine ⟨(some (.int 0), w), d_isWn shC (n := 3) (by omega) hx, ?_⟩
    refine am_to (lv' := [(0, .ref 0), (1, .int x)]) (st' := [.int 0]) (w' := w) rfl rfl rfl ?_
    refine am_g0 rfl rfl ?_
    refine am_go rfl ?_
    refine am_go rfl ?_
    exact ⟨rfl, by unfold faultS; rw [hx]⟩
  · refine am_def (by omega) rfl rfl ?_
    iterate 3 refine am_g0 rfl rfl ?_
    refine ⟨(some (.int 1), w), d_isWs shC (n := 3) (by omega) ht (by decide), ?_⟩
    refine am_to (lv' := [(0, .ref 0), (1, .int (nI t))]) (st' := [.int 1]) (w' := w) rfl rfl rfl ?_
    iterate 4 refine am_g0 rfl rfl ?_
    refine am_glN (n := 3) (k := t) rfl rfl (by omega) (by decide) ?_
    refine am_g0 rfl rfl ?_
    refine am_go rfl ?_
    refine ⟨rfl, ?_⟩
    unfold faultS
    rw [hx]
    dsimp only
    have : w.1 8 t = opI (fltS S t) := by
      match t, ht with
      | 0, _ => exact h.1.2.2.1.2
      | 1, _ => exact h.1.2.2.2.1.2
      | 2, _ => exact h.1.2.2.2.2.1.2
    rw [this]
def kindA (S : Sp) (c : Nat) : Int32 := if c < S.V.1 then nI (S.V.2.1 c) else -1
def cellS (S : Sp) (x : Int32) : Int32 := match dI x 36 with
  | some c => kindA S c
  | none => -2
theorem d_kindOf {d c : Nat} {w : am_M} {S : Sp} (hd : 2 ≤ d) (h : RC w S) (hc : c < 36) : am_D shC d mi_X8_kindOf [.ref 9, .int (nI c)] w (some (.int (kindA S c)), w) := by
  have hT := h.1.V.1
  have h36 : S.V.1 ≤ 36 := hT.2.1
  refine am_def (by omega) rfl rfl ?_
  iterate 3 refine am_g0 rfl rfl ?_
  refine am_top (y := nI S.V.1) (hT.1) ?_
  refine am_g0 rfl rfl ?_
  by_cases hn : c < S.V.1
  · refine ⟨(some (.int 1), w), d_isWs shC (by omega) hn (by omega), ?_⟩
    refine am_to (lv' := [(0, .ref 9), (1, .int (nI c))]) (st' := [.int 1]) (w' := w) rfl rfl rfl ?_
    iterate 4 refine am_g0 rfl rfl ?_
    refine am_glN (n := 36) (k := c) rfl rfl (by omega) (by decide) ?_
    refine am_g0 rfl rfl ?_
    refine am_go rfl ?_
    exact ⟨rfl, by unfold kindA; rw [if_pos hn, (hT.2.2.1 c hn).1]⟩
  · refine ⟨(some (.int 0), w), d_isWithin_f shC (by omega) (Or.inr (nI_le (by omega) (by omega))) w, ?_⟩
    refine am_to (lv' := [(0, .ref 9), (1, .int (nI c))]) (st' := [.int 0]) (w' := w) rfl rfl rfl ?_
    refine am_g0 rfl rfl ?_
    refine am_go rfl ?_
    refine am_go rfl ?_
    exact ⟨rfl, by unfold kindA; rw [if_neg hn]⟩
theorem d_cell {d : Nat} {x : Int32} {w : am_M} {S : Sp} (hd : 3 ≤ d) (h : RC w S) : am_D shC d mi_X11_cell [.ref 0, .int x] w (some (.int (cellS S x)), w) := by
  rcases dI_or x 36 (by decide) with hx | ⟨t, ht, rfl, hx⟩
  · refine am_def (by omega) rfl rfl ?_
    iterate 3 refine am_g0 rfl rfl ?_
    refine ⟨(some (.int 0), w), d_isWn shC (n := 36) (by omega) hx, ?_⟩
    refine am_to (lv' := [(0, .ref 0), (1, .int x)]) (st' := [.int 0]) (w' := w) rfl rfl rfl ?_
    refine am_g0 rfl rfl ?_
    refine am_go rfl ?_
    refine am_go rfl ?_
    exact ⟨rfl, by unfold cellS; rw [hx]⟩
  · refine am_def (by omega) rfl rfl ?_
    iterate 3 refine am_g0 rfl rfl ?_
    refine ⟨(some (.int 1), w), d_isWs shC (n := 36) (by omega) ht (by decide), ?_⟩
    refine am_to (lv' := [(0, .ref 0), (1, .int (nI t))]) (st' := [.int 1]) (w' := w) rfl rfl rfl ?_
    iterate 5 refine am_g0 rfl rfl ?_
    refine ⟨(some (.int (kindA S t)), w), d_kindOf (by omega) h ht, ?_⟩
    refine am_to (lv' := [(0, .ref 0), (1, .int (nI t))]) (st' := [.int (kindA S t)]) (w' := w) rfl rfl rfl ?_
    refine am_g0 rfl rfl ?_
    refine am_go rfl ?_
    exact ⟨rfl, by unfold cellS; rw [hx]⟩
def lastA (S : Sp) (l j : Nat) : Int32 := if j = 0 then nI (S.V.2.2.2.2.1 l) else if j = 1 then nI (S.V.2.2.2.2.2.1 l) else if j - 2 < S.V.2.2.2.2.2.1 l then nI (S.V.2.2.2.2.2.2 l (j - 2)) else -1
def lastS (S : Sp) (x y : Int32) : Int32 := match dI x S.m, dI y 6 with
  | some l, some j => lastA S l j
  | _, _ => -2
theorem d_ltold {d l j : Nat} {w : am_M} {S : Sp} (hd : 1 ≤ d) (h : RC w S) (hl : l < S.m) (hj : j < 6) : am_D shC d mi_X0_told [.ref 12, .int (nI l), .int (nI j)] w (some (.int (lastA S l j)), w) := by
  obtain ⟨h1, h2, h3⟩ := h.1.V.2
  obtain ⟨e1, e2, e3, e4, e5, e6⟩ := h3 l hl
  have hm : S.m ≤ 8 := h2
  refine am_def (by omega) rfl rfl ?_
  iterate 2 refine am_g0 rfl rfl ?_
  by_cases j0 : j = 0
  · refine am_tt (show (nI j : Int32) = 0 from by rw [j0]; rfl) ?_
    iterate 3 refine am_g0 rfl rfl ?_
    refine am_glN (n := 8) (k := l) rfl rfl (by omega) (by decide) ?_
    refine am_g0 rfl rfl ?_
    exact ⟨rfl, by unfold lastA; rw [if_pos j0, e1]⟩
  · refine am_ff (show ¬ (nI j : Int32) = 0 from nne (b := 0) j0 (by omega) (by omega)) ?_
    refine am_go rfl ?_
    iterate 2 refine am_g0 rfl rfl ?_
    by_cases j1 : j = 1
    · refine am_tt (show (nI j : Int32) = 1 from by rw [j1]; rfl) ?_
      iterate 3 refine am_g0 rfl rfl ?_
      refine am_glN (n := 8) (k := l) rfl rfl (by omega) (by decide) ?_
      refine am_g0 rfl rfl ?_
      exact ⟨rfl, by unfold lastA; rw [if_neg j0, if_pos j1, e3]⟩
    · refine am_ff (show ¬ (nI j : Int32) = 1 from nne (b := 1) j1 (by omega) (by omega)) ?_
      refine am_go rfl ?_
      iterate 2 refine am_g0 rfl rfl ?_
      refine am_top (y := nI (j - 2)) (pk_sub (b := 2) (by omega)) ?_
      iterate 5 refine am_g0 rfl rfl ?_
      refine am_glN (n := 8) (k := l) rfl rfl (by omega) (by decide) ?_
      refine am_top (y := nI (S.V.2.2.2.2.2.1 l)) (e3) ?_
      refine am_g0 rfl rfl ?_
      by_cases hlt : j - 2 < S.V.2.2.2.2.2.1 l
      · refine am_ff (show ¬ (nI (S.V.2.2.2.2.2.1 l) : Int32) ≤ (nI (j - 2)) from nI_ge hlt (by omega)) ?_
        iterate 7 refine am_g0 rfl rfl ?_
        refine am_glE (n := 32) (k := 4 * l + (j - 2)) rfl rfl (by rw [show (4 : Int32) = nI 4 from rfl, pk_mul, nI_add, Nat.mul_comm]) (by omega) (by decide) ?_
        refine am_g0 rfl rfl ?_
        refine am_go rfl ?_
        exact ⟨rfl, by unfold lastA; rw [if_neg j0, if_neg j1, if_pos hlt, (e6 _ hlt).1]⟩
      · refine am_tt (show (nI (S.V.2.2.2.2.2.1 l) : Int32) ≤ (nI (j - 2)) from nI_le (by omega) (by omega)) ?_
        refine am_go rfl ?_
        refine am_go rfl ?_
        exact ⟨rfl, by unfold lastA; rw [if_neg j0, if_neg j1, if_neg hlt]⟩
theorem d_last {d : Nat} {x y : Int32} {w : am_M} {S : Sp} (hd : 3 ≤ d) (h : RC w S) : am_D shC d mi_X11_last [.ref 0, .int x, .int y] w (some (.int (lastS S x y)), w) := by
  have hm := h.1.M
  rcases dI_or x S.m (by omega) with hx | ⟨l, hl, rfl, hx⟩
  · refine am_def (by omega) rfl rfl ?_
    iterate 4 refine am_g0 rfl rfl ?_
    refine am_top (y := nI S.m) (hm.1) ?_
    refine am_g0 rfl rfl ?_
    refine ⟨(some (.int 0), w), d_isWn shC (by omega) hx, ?_⟩
    refine am_to (lv' := [(0, .ref 0), (1, .int x), (2, .int y)]) (st' := [.int 0]) (w' := w) rfl rfl rfl ?_
    refine am_g0 rfl rfl ?_
    refine am_go rfl ?_
    refine am_g0 rfl rfl ?_
    exact ⟨rfl, by unfold lastS; rw [hx]⟩
  · rcases dI_or y 6 (by decide) with hy | ⟨j, hj, rfl, hy⟩
    · refine am_def (by omega) rfl rfl ?_
      iterate 4 refine am_g0 rfl rfl ?_
      refine am_top (y := nI S.m) (hm.1) ?_
      refine am_g0 rfl rfl ?_
      refine ⟨(some (.int 1), w), d_isWs shC (by omega) hl (by omega), ?_⟩
      refine am_to (lv' := [(0, .ref 0), (1, .int (nI l)), (2, .int y)]) (st' := [.int 1]) (w' := w) rfl rfl rfl ?_
      iterate 4 refine am_g0 rfl rfl ?_
      refine ⟨(some (.int 0), w), d_isWn shC (n := 6) (by omega) hy, ?_⟩
      refine am_to (lv' := [(0, .ref 0), (1, .int (nI l)), (2, .int y)]) (st' := [.int 0]) (w' := w) rfl rfl rfl ?_
      refine am_g0 rfl rfl ?_
      refine am_go rfl ?_
      refine am_g0 rfl rfl ?_
      exact ⟨rfl, by unfold lastS; rw [hx, hy]⟩
    · refine am_def (by omega) rfl rfl ?_
      iterate 4 refine am_g0 rfl rfl ?_
      refine am_top (y := nI S.m) (hm.1) ?_
      refine am_g0 rfl rfl ?_
      refine ⟨(some (.int 1), w), d_isWs shC (by omega) hl (by omega), ?_⟩
      refine am_to (lv' := [(0, .ref 0), (1, .int (nI l)), (2, .int (nI j))]) (st' := [.int 1]) (w' := w) rfl rfl rfl ?_
      iterate 4 refine am_g0 rfl rfl ?_
      refine ⟨(some (.int 1), w), d_isWs shC (n := 6) (by omega) hj (by decide), ?_⟩
      refine am_to (lv' := [(0, .ref 0), (1, .int (nI l)), (2, .int (nI j))]) (st' := [.int 1]) (w' := w) rfl rfl rfl ?_
      refine am_g0 rfl rfl ?_
      refine am_go rfl ?_
      iterate 4 refine am_g0 rfl rfl ?_
      refine ⟨(some (.int (lastA S l j)), w), d_ltold (by omega) h hl hj, ?_⟩
      refine am_to (lv' := [(0, .ref 0), (1, .int (nI l)), (2, .int (nI j))]) (st' := [.int (lastA S l j)]) (w' := w) rfl rfl rfl ?_
      refine am_g0 rfl rfl ?_
      exact ⟨rfl, by unfold lastS; rw [hx, hy]⟩
def personS (S : Sp) (x y : Int32) : Int32 := match dI x S.q, dI y 5 with
  | some p, some j => nI (S.pf p j)
  | _, _ => -2
theorem d_person {d : Nat} {x y : Int32} {w : am_M} {S : Sp} (hd : 3 ≤ d) (h : RC w S) : am_D shC d mi_X11_person [.ref 0, .int x, .int y] w (some (.int (personS S x y)), w) := by
  have hP := h.1.P
  have hq : S.q ≤ 8 := hP.2.1
  rcases dI_or x S.q (by omega) with hx | ⟨l, hl, rfl, hx⟩
  · refine am_def (by omega) rfl rfl ?_
    iterate 4 refine am_g0 rfl rfl ?_
    refine am_top (y := nI S.q) (hP.1) ?_
    refine am_g0 rfl rfl ?_
    refine ⟨(some (.int 0), w), d_isWn shC (by omega) hx, ?_⟩
    refine am_to (lv' := [(0, .ref 0), (1, .int x), (2, .int y)]) (st' := [.int 0]) (w' := w) rfl rfl rfl ?_
    refine am_g0 rfl rfl ?_
    refine am_go rfl ?_
    refine am_g0 rfl rfl ?_
    exact ⟨rfl, by unfold personS; rw [hx]⟩
  · rcases dI_or y 5 (by decide) with hy | ⟨j, hj, rfl, hy⟩
    · refine am_def (by omega) rfl rfl ?_
      iterate 4 refine am_g0 rfl rfl ?_
      refine am_top (y := nI S.q) (hP.1) ?_
      refine am_g0 rfl rfl ?_
      refine ⟨(some (.int 1), w), d_isWs shC (by omega) hl (by omega), ?_⟩
      refine am_to (lv' := [(0, .ref 0), (1, .int (nI l)), (2, .int y)]) (st' := [.int 1]) (w' := w) rfl rfl rfl ?_
      iterate 4 refine am_g0 rfl rfl ?_
      refine ⟨(some (.int 0), w), d_isWn shC (n := 5) (by omega) hy, ?_⟩
      refine am_to (lv' := [(0, .ref 0), (1, .int (nI l)), (2, .int y)]) (st' := [.int 0]) (w' := w) rfl rfl rfl ?_
      refine am_g0 rfl rfl ?_
      refine am_go rfl ?_
      refine am_g0 rfl rfl ?_
      exact ⟨rfl, by unfold personS; rw [hx, hy]⟩
    · refine am_def (by omega) rfl rfl ?_
      iterate 4 refine am_g0 rfl rfl ?_
      refine am_top (y := nI S.q) (hP.1) ?_
      refine am_g0 rfl rfl ?_
      refine ⟨(some (.int 1), w), d_isWs shC (by omega) hl (by omega), ?_⟩
      refine am_to (lv' := [(0, .ref 0), (1, .int (nI l)), (2, .int (nI j))]) (st' := [.int 1]) (w' := w) rfl rfl rfl ?_
      iterate 4 refine am_g0 rfl rfl ?_
      refine ⟨(some (.int 1), w), d_isWs shC (n := 5) (by omega) hj (by decide), ?_⟩
      refine am_to (lv' := [(0, .ref 0), (1, .int (nI l)), (2, .int (nI j))]) (st' := [.int 1]) (w' := w) rfl rfl rfl ?_
      refine am_g0 rfl rfl ?_
      refine am_go rfl ?_
      iterate 4 refine am_g0 rfl rfl ?_
      refine ⟨(some (.int (nI (S.pf l j))), w), d_ptold (by omega) hP hl hj, ?_⟩
      refine am_to (lv' := [(0, .ref 0), (1, .int (nI l)), (2, .int (nI j))]) (st' := [.int (nI (S.pf l j))]) (w' := w) rfl rfl rfl ?_
      refine am_g0 rfl rfl ?_
      exact ⟨rfl, by unfold personS; rw [hx, hy]⟩
end
section
/-! sheets, rains, things seen: the class -/
section CACHES
variable {S T : Sp}
theorem Sp.V_c (h1 : T.1 = S.1) (h2 : T.2.1 = S.2.1) : T.V = S.V := by
  show wdS (T.2.1 0) (T.1 0) (T.2.1 1) (T.1 1) = wdS (S.2.1 0) (S.1 0) (S.2.1 1) (S.1 1)
  rw [h1, h2]
theorem Sp.q_c (h1 : T.1 = S.1) (h2 : T.2.1 = S.2.1) : T.q = S.q := by
  show (peopleR (T.2.1 2) (T.1 2)).2.1 = (peopleR (S.2.1 2) (S.1 2)).2.1
  rw [h1, h2]
theorem Sp.pf_c (h1 : T.1 = S.1) (h2 : T.2.1 = S.2.1) : T.pf = S.pf := by
  show (peopleR (T.2.1 2) (T.1 2)).2.2 = (peopleR (S.2.1 2) (S.1 2)).2.2
  rw [h1, h2]
theorem Sp.m_c (h1 : T.1 = S.1) (h2 : T.2.1 = S.2.1) : T.m = S.m := by
  show (lastsR (T.2.1 1) (T.1 1)).2.1 = (lastsR (S.2.1 1) (S.1 1)).2.1
  rw [h1, h2]
theorem wet0_c (h3 : T.2.2.1 = S.2.2.1) : wet0 T = wet0 S := by
  show wetN T.2.2.1.2 (fun _ => false) T.2.2.1.1 = wetN S.2.2.1.2 (fun _ => false) S.2.2.1.1
  rw [h3]
theorem cTr_c {w : am_M} (h1 : T.1 = S.1) (h2 : T.2.1 = S.2.1) (h3 : T.2.2.1 = S.2.2.1) (h : cTr w S) : cTr w T := by
  unfold cTr at h ⊢
  rw [Sp.V_c h1 h2, Sp.q_c h1 h2, Sp.pf_c h1 h2, wet0_c h3]
  exact h
theorem pairA_c (h1 : T.1 = S.1) (h2 : T.2.1 = S.2.1) (h3 : T.2.2.1 = S.2.2.1) : pairA T = pairA S := by
  funext p k
  unfold pairA pairS
  rw [Sp.V_c h1 h2, Sp.m_c h1 h2, Sp.pf_c h1 h2, wet0_c h3]
theorem cPr_c {w : am_M} (h1 : T.1 = S.1) (h2 : T.2.1 = S.2.1) (h3 : T.2.2.1 = S.2.2.1) (h : cPr w S) : cPr w T := by
  unfold cPr at h ⊢
  rw [Sp.q_c h1 h2, pairA_c h1 h2 h3]
  exact h
theorem dryB_c (h1 : T.1 = S.1) (h2 : T.2.1 = S.2.1) (h3 : T.2.2.1 = S.2.2.1) : dryB T = dryB S := by
  funext ex
  unfold dryB
  rw [Sp.V_c h1 h2, Sp.q_c h1 h2, Sp.pf_c h1 h2]
  show allB (fun p => !decide (fin S.V (prS S.pf p) (wetN T.2.2.1.2 ex T.2.2.1.1) = 2)) S.q = _
  rw [h3]
theorem dryS_c (h1 : T.1 = S.1) (h2 : T.2.1 = S.2.1) (h3 : T.2.2.1 = S.2.2.1) : dryS T = dryS S := by
  have e : ∀ a, dry2 T a = dry2 S a := fun a => by
    show firstN (fun b => decide (a < b) && dryB T (ex2 a b)) T.2.2.1.1 = _
    rw [h3, dryB_c h1 h2 h3]
    rfl
  have e2 : dry2 T = dry2 S := funext e
  unfold dryS
  rw [dryB_c h1 h2 h3, e2]
  show (if dryB S (fun _ => false) then some [] else match firstN (fun a => dryB S (ex1 a)) T.2.2.1.1 with
  | some a => some [a]
  | none => match firstN (fun a => (dry2 S a).isSome) T.2.2.1.1 with
    | some a => (match dry2 S a with
      | some b => some [a, b]
      | none => none)
    | none => none) = _
  rw [h3]
  rfl
theorem cDr_c {w : am_M} (h1 : T.1 = S.1) (h2 : T.2.1 = S.2.1) (h3 : T.2.2.1 = S.2.2.1) (h : cDr w S) : cDr w T := by
  unfold cDr dryC at h ⊢
  rw [dryS_c h1 h2 h3]
  exact h
theorem cSt_c {w : am_M} (h1 : T.1 = S.1) (h2 : T.2.1 = S.2.1) (h : cSt w S) : cSt w T := by
  unfold cSt stormS at h ⊢
  rw [Sp.V_c h1 h2, Sp.q_c h1 h2, Sp.pf_c h1 h2]
  exact h
end CACHES
end
section
theorem RC_setF {w : am_M} {S : Sp} {x : Int32} (h : RC w S) : RC (am_pi w 0 16 x) (S.setF x) := by
  obtain ⟨⟨h1, h2, h3, h4, h5, h6, h7, h8, h9⟩, c1, c2, c3, c4⟩ := h
  have hq : S.q ≤ 8 := h5.1.2.1
  have e : ∀ a, 0 < a → (am_pi w 0 16 x).1 a = w.1 a := fun a ha => am_pi_row (by omega)
  have e0 : ∀ j, j ≠ 16 → (am_pi w 0 16 x).1 0 j = w.1 0 j := fun j hj => am_pi_ne (Or.inr hj)
  refine ⟨⟨h1, h2.fr (fun a _ _ => e a (by omega)), h3.fr (fun a _ _ => e a (by omega)), h4.fr (fun a _ _ => e a (by omega)) (by rw [e 8 (by omega)]), h5.fr (fun a _ _ => e a (by omega)) (by rw [e 8 (by omega)]), h6.fr (fun a _ _ => e a (by omega)), h7.fr (fun a _ _ => e a (by omega)), h8.fr (fun a _ _ => e a (by omega)), am_pi_at _ _ _ _⟩, cTr_c rfl rfl rfl (c1.fr hq (fun a _ _ => e a (by omega)) (e0 17 (by omega))), cPr_c rfl rfl rfl (c2.fr (e _ (by omega)) (e0 18 (by omega))), cDr_c rfl rfl rfl (c3.fr (e _ (by omega)) (e0 19 (by omega))), cSt_c rfl rfl (c4.fr (e _ (by omega)) rfl)⟩
end
section
theorem RCb_setR {w w1 : am_M} {S : Sp} {n : Nat} {rs : Nat → Nat} (h : RC w S) (e : ∀ a, 0 < a → a < 34 → a ≠ 18 → a ≠ 19 → w1.1 a = w.1 a) (e0 : w1.1 0 16 = w.1 0 16) (hn : n ≤ 8) (h18 : w1.1 18 1 = nI n) (hr : ∀ i, i < n → w1.1 19 i = nI (rs i) ∧ rs i < 30) : RCb w1 (S.setR n rs) := by
  obtain ⟨⟨h1, h2, h3, h4, h5, h6, h7, h8, h9⟩, c1, c2, c3, c4⟩ := h
  exact ⟨⟨h1.1, ⟨hn, fun i hi => (hr i hi).2⟩, h1.2.2.1, h1.2.2.2⟩, h2.fr (fun a _ _ => e a (by omega) (by omega) (by omega) (by omega)), h3.fr (fun a _ _ => e a (by omega) (by omega) (by omega) (by omega)), h4.fr (fun a _ _ => e a (by omega) (by omega) (by omega) (by omega)) (by rw [e 8 (by omega) (by omega) (by omega) (by omega)]), h5.fr (fun a _ _ => e a (by omega) (by omega) (by omega) (by omega)) (by rw [e 8 (by omega) (by omega) (by omega) (by omega)]), ⟨h18, fun i hi => (hr i hi).1⟩, h7.fr (fun a _ _ => e a (by omega) (by omega) (by omega) (by omega)), h8.fr (fun a _ _ => e a (by omega) (by omega) (by omega) (by omega)), by rw [e0]; exact h9⟩
end
section
theorem RC_setH {w w1 : am_M} {S : Sp} {fm : Nat → Nat} {sz : Nat → Option Nat} {it : Nat → Nat → Int32} (h : RC w S) (e : ∀ a, a < 25 ∨ 33 ≤ a → w1.1 a = w.1 a) (e2 : w1.2 = w.2) (hs : ∀ s, s < 4 → fm s < 3 ∧ ∀ n, sz s = some n → n ≤ 60) (hh : RCh w1 (S.setH fm sz it)) : RC w1 (S.setH fm sz it) := by
  obtain ⟨⟨h1, h2, h3, h4, h5, h6, h7, h8, h9⟩, c1, c2, c3, c4⟩ := h
  have hq : S.q ≤ 8 := h5.1.2.1
  have k1 : cTr w1 (S.setH fm sz it) := cTr_c rfl rfl rfl (c1.fr hq (fun a _ _ => e a (by omega)) (by rw [e 0 (by omega)]))
  have k2 : cPr w1 (S.setH fm sz it) := cPr_c rfl rfl rfl (c2.fr (e _ (by omega)) (by rw [e 0 (by omega)]))
  have k3 : cDr w1 (S.setH fm sz it) := cDr_c rfl rfl rfl (c3.fr (e _ (by omega)) (by rw [e 0 (by omega)]))
  have k4 : cSt w1 (S.setH fm sz it) := cSt_c rfl rfl (c4.fr (e _ (by omega)) (by rw [e2]))
  refine ⟨⟨⟨h1.1, h1.2.1, h1.2.2.1, hs⟩, h2.fr (fun a _ _ => e a (by omega)), h3.fr (fun a _ _ => e a (by omega)), h4.fr (fun a _ _ => e a (by omega)) (by rw [e 8 (by omega)]), h5.fr (fun a _ _ => e a (by omega)) (by rw [e 8 (by omega)]), h6.fr (fun a _ _ => e a (by omega)), h7.fr (fun a _ _ => e a (by omega)), hh, by rw [e 0 (by omega)]; exact h9⟩, k1, k2, k3, k4⟩
end
section
theorem RC_setS {w w1 : am_M} {S : Sp} {n : Nat} {st pe ce : Nat → Nat} (h : RC w S) (e : ∀ a, a < 20 ∨ 24 ≤ a → w1.1 a = w.1 a) (e2 : w1.2 = w.2) (hh : cSeen w1 n st pe ce) : RC w1 (S.setS n st pe ce) := by
  obtain ⟨⟨h1, h2, h3, h4, h5, h6, h7, h8, h9⟩, c1, c2, c3, c4⟩ := h
  have hq : S.q ≤ 8 := h5.1.2.1
  have k1 : cTr w1 (S.setS n st pe ce) := cTr_c rfl rfl rfl (c1.fr hq (fun a _ _ => e a (by omega)) (by rw [e 0 (by omega)]))
  have k2 : cPr w1 (S.setS n st pe ce) := cPr_c rfl rfl rfl (c2.fr (e _ (by omega)) (by rw [e 0 (by omega)]))
  have k3 : cDr w1 (S.setS n st pe ce) := cDr_c rfl rfl rfl (c3.fr (e _ (by omega)) (by rw [e 0 (by omega)]))
  have k4 : cSt w1 (S.setS n st pe ce) := cSt_c rfl rfl (c4.fr (e _ (by omega)) (by rw [e2]))
  refine ⟨⟨⟨h1.1, h1.2.1, ⟨hh.2.1, fun i hi => ⟨(hh.2.2 i hi).2.1, (hh.2.2 i hi).2.2.2.1, (hh.2.2 i hi).2.2.2.2.2⟩⟩, h1.2.2.2⟩, h2.fr (fun a _ _ => e a (by omega)), h3.fr (fun a _ _ => e a (by omega)), h4.fr (fun a _ _ => e a (by omega)) (by rw [e 8 (by omega)]), h5.fr (fun a _ _ => e a (by omega)) (by rw [e 8 (by omega)]), h6.fr (fun a _ _ => e a (by omega)), hh, h8.fr (fun a _ _ => e a (by omega)), by rw [e 0 (by omega)]; exact h9⟩, k1, k2, k3, k4⟩
end
section
/-! sheets: the class -/
theorem sh_S4 (t : Nat) (ht : t < 4) : ([25, 26, 27, 28] : List Nat)[t]? = some (25 + t) := by
  match t, ht with
  | 0, _ => rfl
  | 1, _ => rfl
  | 2, _ => rfl
  | 3, _ => rfl
theorem opI_m1 {o : Option Nat} (h : ∀ n, o = some n → n < 2 ^ 31) : opI o = -1 ↔ o = none := by
  cases o with
  | none => exact ⟨fun _ => rfl, fun _ => rfl⟩
  | some n => exact ⟨fun z => absurd (nI_pos' (h n rfl)) (by rw [show nI n = -1 from z]; decide), fun z => by cases z⟩
theorem RC.szn {w : am_M} {S : Sp} (h : RC w S) {s : Nat} (hs : s < 4) : (w.1 (25 + s) 2 = -1 ↔ S.sz s = none) := by
  rw [((h.1.2.2.2.2.2.2.2.1) s hs).1]
  exact opI_m1 (fun n hn => by have := (h.1.1.2.2.2 s hs).2 n hn; omega)
/-! what the sheets' calls answer -/
def upO (f : Nat → Option Nat) (k : Nat) (v : Option Nat) : Nat → Option Nat := fun i => if i = k then v else f i
def upI (f : Nat → Nat → Int32) (s k : Nat) (v : Int32) : Nat → Nat → Int32 := fun a b => if a = s ∧ b = k then v else f a b
def sheetS (S : Sp) (x f n : Int32) : Int32 × Sp := match dI x 4, dI f 3 with
  | some s, some g => if nI 60 < n then (-2, S) else if n < 0 then (-15, S.setF 5) else (n, S.setH (up1 S.fm s g) (upO S.sz s (some n.toNatClampNeg)) (fun a b => if a = s then 0 else S.it a b))
  | _, _ => (-2, S)
def loseS (S : Sp) (x : Int32) : Int32 × Sp := match dI x 4 with
  | some s => (match S.sz s with
    | none => (-11, S.setF 1)
    | some n => (nI n, S.setH S.fm (upO S.sz s none) S.it))
  | none => (-2, S)
/-- the finding, or the place -/
def findS (S : Sp) (s g : Nat) (i : Int32) : Int32 ⊕ Nat := match S.sz s with
  | none => .inl 1
  | some n => if g = S.fm s then (match dI i n with
    | none => .inl 2
    | some k => .inr k) else .inl 3
def layS (S : Sp) (x f i v : Int32) : Int32 × Sp := match dI x 4, dI f 3 with
  | some s, some g => (match findS S s g i with
    | .inl r => ((-10) - r, S.setF r)
    | .inr k => (1, S.setH S.fm S.sz (upI S.it s k (cCut (nI g) v))))
  | _, _ => (-2, S)
def getS (S : Sp) (x f i : Int32) : Int32 × Sp := match dI x 4, dI f 3 with
  | some s, some g => (match findS S s g i with
    | .inl r => (-2147483648, S.setF r)
    | .inr k => (S.it s k, S))
  | _, _ => (-2147483648, S)
theorem cFind_eq {w : am_M} {S : Sp} {s g : Nat} {i : Int32} (h : RC w S) (hs : s < 4) (hg : g < 3) : (∃ r, r ≠ 0 ∧ findS S s g i = .inl r ∧ cFind w s (nI g) i = r) ∨ ∃ k n, findS S s g i = .inr k ∧ S.sz s = some n ∧ k < n ∧ n ≤ 60 ∧ g = S.fm s ∧ i = nI k ∧ cFind w s (nI g) i = 0 := by
  obtain ⟨a1, a2⟩ := (h.1.2.2.2.2.2.2.2.1) s hs
  obtain ⟨b1, b2⟩ := h.1.1.2.2.2 s hs
  unfold findS cFind
  rcases opt_or (S.sz s) with hz | ⟨n, hz⟩
  · left
    refine ⟨1, by decide, by rw [hz], ?_⟩
    rw [if_pos ((h.szn hs).mpr hz)]
  · have hn := b2 n hz
    obtain ⟨c1, c2⟩ := a2 n hz
    rw [hz] at a1
    have hne : ¬ w.1 (25 + s) 2 = -1 := fun z => by rw [(h.szn hs).mp z] at hz; cases hz
    rw [hz, if_neg hne, c1]
    dsimp only
    by_cases hg2 : g = S.fm s
    · rw [if_pos hg2, if_pos (by rw [hg2])]
      have a3 : w.1 (25 + s) 2 = nI n := a1
      rw [a3]
      rcases dI_or i n (by omega) with hi | ⟨k, hk, rfl, hi⟩
      · left; exact ⟨2, by decide, by rw [hi], by rw [if_pos (dI_fi hi)]⟩
      · right; exact ⟨k, n, by rw [hi], rfl, hk, hn, hg2, rfl, by rw [if_neg (fun z => z.elim (nI_pos (by omega)) (nI_ge hk (by omega)))]⟩
    · left
      rw [if_neg hg2, if_neg (nne hg2 (by omega) (by omega))]
      exact ⟨3, by decide, rfl, rfl⟩
theorem d_sheet {d : Nat} {x f n : Int32} {w : am_M} {S : Sp} (hd : 8 ≤ d) (h : RC w S) : ∃ o : am_O, (o.1 = some (.int (sheetS S x f n).1) ∧ RC o.2 (sheetS S x f n).2) ∧ am_D shC d mi_X11_sheet [.ref 0, .int x, .int f, .int n] w o := by
  rcases dI_or x 4 (by decide) with hx | ⟨s, hs, rfl, hx⟩
  · refine am_dex (by omega) rfl rfl ?_
    iterate 3 refine am_g0 rfl rfl ?_
    refine ⟨(some (.int 0), w), d_isWn shC (n := 4) (by omega) hx, ?_⟩
    refine am_to (lv' := [(0, .ref 0), (1, .int x), (2, .int f), (3, .int n)]) (st' := [.int 0]) (w' := w) rfl rfl rfl ?_
    refine am_g0 rfl rfl ?_
    refine am_go rfl ?_
    refine am_g0 rfl rfl ?_
    exact ⟨rfl, by unfold sheetS; rw [hx], by unfold sheetS; rw [hx]; exact h⟩
  · rcases dI_or f 3 (by decide) with hf | ⟨g, hg, rfl, hf⟩
    · refine am_dex (by omega) rfl rfl ?_
      iterate 3 refine am_g0 rfl rfl ?_
      refine ⟨(some (.int 1), w), d_isWs shC (n := 4) (by omega) hs (by decide), ?_⟩
      refine am_to (lv' := [(0, .ref 0), (1, .int (nI s)), (2, .int f), (3, .int n)]) (st' := [.int 1]) (w' := w) rfl rfl rfl ?_
      iterate 4 refine am_g0 rfl rfl ?_
      refine ⟨(some (.int 0), w), d_isWn shC (n := 3) (by omega) hf, ?_⟩
      refine am_to (lv' := [(0, .ref 0), (1, .int (nI s)), (2, .int f), (3, .int n)]) (st' := [.int 0]) (w' := w) rfl rfl rfl ?_
      refine am_g0 rfl rfl ?_
      refine am_go rfl ?_
      refine am_g0 rfl rfl ?_
      exact ⟨rfl, by unfold sheetS; rw [hx, hf], by unfold sheetS; rw [hx, hf]; exact h⟩
    · obtain ⟨s1, s2, s3⟩ := sh_S s hs
      refine am_dex (by omega) rfl rfl ?_
      iterate 3 refine am_g0 rfl rfl ?_
      refine ⟨(some (.int 1), w), d_isWs shC (n := 4) (by omega) hs (by decide), ?_⟩
      refine am_to (lv' := [(0, .ref 0), (1, .int (nI s)), (2, .int (nI g)), (3, .int n)]) (st' := [.int 1]) (w' := w) rfl rfl rfl ?_
      iterate 4 refine am_g0 rfl rfl ?_
      refine ⟨(some (.int 1), w), d_isWs shC (n := 3) (by omega) hg (by decide), ?_⟩
      refine am_to (lv' := [(0, .ref 0), (1, .int (nI s)), (2, .int (nI g)), (3, .int n)]) (st' := [.int 1]) (w' := w) rfl rfl rfl ?_
      iterate 4 refine am_g0 rfl rfl ?_
      by_cases h60 : nI 60 < n
      · refine am_ff (show ¬ (n : Int32) ≤ 60 from by rw [Int32.not_le]; exact h60) ?_
        refine am_go rfl ?_
        refine am_g0 rfl rfl ?_
        exact ⟨rfl, by unfold sheetS; rw [hx, hf]; dsimp only; rw [if_pos h60], by unfold sheetS; rw [hx, hf]; dsimp only; rw [if_pos h60]; exact h⟩
      · refine am_tt (show (n : Int32) ≤ 60 from by rw [← Int32.not_lt]; exact h60) ?_
        refine am_go rfl ?_
        refine am_g0 rfl rfl ?_
        by_cases h0 : n < 0
        · refine am_ff (show ¬ (0 : Int32) ≤ n from by rw [Int32.not_le]; exact h0) ?_
          iterate 3 refine am_g0 rfl rfl ?_
          refine ⟨(some (.int ((-10) - 5)), am_pi w 0 16 5), d_refusal (by omega), ?_⟩
          refine am_to (lv' := [(0, .ref 0), (1, .int (nI s)), (2, .int (nI g)), (3, .int n)]) (st' := [.int ((-10) - 5)]) (w' := am_pi w 0 16 5) rfl rfl rfl ?_
          refine am_g0 rfl rfl ?_
          exact ⟨rfl, by unfold sheetS; rw [hx, hf]; dsimp only; rw [if_neg h60, if_pos h0]; rfl, by unfold sheetS; rw [hx, hf]; dsimp only; rw [if_neg h60, if_pos h0]; exact RC_setF h⟩
        · refine am_tt (show (0 : Int32) ≤ n from by rw [← Int32.not_lt]; exact h0) ?_
          obtain ⟨k, hk, rfl⟩ := nI_of h0
          have hk60 : k ≤ 60 := Decidable.byContradiction fun z => h60 (nI_lt (by omega) hk)
          refine am_to (lv' := [(0, .ref 0), (1, .int (nI s)), (2, .int (nI g)), (3, .int (nI k))]) (st' := []) (w' := w) rfl rfl rfl ?_
          refine am_go rfl ?_
          iterate 3 refine am_g0 rfl rfl ?_
          refine am_ff (show ¬ nI s < 0 from nI_pos (by omega)) (am_oi (a := 25 + s) (by rw [nI_clamp (by omega)]; exact sh_S4 s hs) ?_)
          iterate 3 refine am_g0 rfl rfl ?_
          refine am_ys (show (true && (true && am_isb shC (25 + s) 4)) = true by rw [s1]; rfl) ?_
          refine ⟨(none, cZero (am_pi (am_pi w (25 + s) 1 (nI g)) (25 + s) 2 (nI k)) (29 + s) 60), d_renew (by omega) hs, ?_⟩
          refine am_to (lv' := [(0, .ref 0), (1, .int (nI s)), (2, .int (nI g)), (3, .int (nI k))]) (st' := []) (w' := cZero (am_pi (am_pi w (25 + s) 1 (nI g)) (25 + s) 2 (nI k)) (29 + s) 60) rfl rfl rfl ?_
          iterate 2 refine am_g0 rfl rfl ?_
          have hS : sheetS S (nI s) (nI g) (nI k) = (nI k, S.setH (up1 S.fm s g) (upO S.sz s (some k)) (fun a b => if a = s then 0 else S.it a b)) := by unfold sheetS; rw [hx, hf]; dsimp only; rw [if_neg h60, if_neg h0, nI_clamp hk]
          rw [hS]
          have e : ∀ a, a ≠ 25 + s → a ≠ 29 + s → (cZero (am_pi (am_pi w (25 + s) 1 (nI g)) (25 + s) 2 (nI k)) (29 + s) 60).1 a = w.1 a := fun a h1 h2 => funext fun b => by
            rw [cZero_at, if_neg (fun z => h2 z.1), am_pi_row h1, am_pi_row h1]
          refine ⟨rfl, rfl, RC_setH h (fun a ha => e a (by omega) (by omega)) (cZero_2 _ _ _) (fun c hc => ?_) (fun c hc => ?_)⟩
          · refine ⟨?_, fun m hm => ?_⟩
            · by_cases z : c = s
              · rw [z, up1_at]; exact hg
              · rw [up1_ne z]; exact (h.1.1.2.2.2 c hc).1
            · unfold upO at hm
              by_cases z : c = s
              · rw [if_pos z] at hm; cases hm; exact hk60
              · rw [if_neg z] at hm; exact (h.1.1.2.2.2 c hc).2 m hm
          · show _ = opI (upO S.sz s (some k) c) ∧ ∀ m, upO S.sz s (some k) c = some m → _ = nI (up1 S.fm s g c) ∧ ∀ i, i < m → _ = (if c = s then 0 else S.it c i)
            by_cases z : c = s
            · subst z
              unfold upO
              rw [if_pos rfl, up1_at, cZero_at, if_neg (by omega), am_pi_at]
              refine ⟨rfl, fun m hm => ⟨?_, fun i hi => ?_⟩⟩
              · rw [cZero_at, if_neg (by omega), am_pi_ne (Or.inr (by omega)), am_pi_at]
              · cases hm
                rw [cZero_at, if_pos ⟨rfl, by omega⟩, if_pos rfl]
            · unfold upO
              rw [if_neg z, up1_ne z, e (25 + c) (by omega) (by omega), e (29 + c) (by omega) (by omega)]
              simp only [if_neg z]
              exact h.1.2.2.2.2.2.2.2.1 c hc
theorem d_lose {d : Nat} {x : Int32} {w : am_M} {S : Sp} (hd : 8 ≤ d) (h : RC w S) : ∃ o : am_O, (o.1 = some (.int (loseS S x).1) ∧ RC o.2 (loseS S x).2) ∧ am_D shC d mi_X11_lose [.ref 0, .int x] w o := by
  rcases dI_or x 4 (by decide) with hx | ⟨s, hs, rfl, hx⟩
  · refine am_dex (by omega) rfl rfl ?_
    iterate 3 refine am_g0 rfl rfl ?_
    refine ⟨(some (.int 0), w), d_isWn shC (n := 4) (by omega) hx, ?_⟩
    refine am_to (lv' := [(0, .ref 0), (1, .int x)]) (st' := [.int 0]) (w' := w) rfl rfl rfl ?_
    iterate 3 refine am_g0 rfl rfl ?_
    exact ⟨rfl, by unfold loseS; rw [hx], by unfold loseS; rw [hx]; exact h⟩
  · obtain ⟨s1, s2, s3⟩ := sh_S s hs
    refine am_dex (by omega) rfl rfl ?_
    iterate 3 refine am_g0 rfl rfl ?_
    refine ⟨(some (.int 1), w), d_isWs shC (n := 4) (by omega) hs (by decide), ?_⟩
    refine am_to (lv' := [(0, .ref 0), (1, .int (nI s))]) (st' := [.int 1]) (w' := w) rfl rfl rfl ?_
    refine am_g0 rfl rfl ?_
    refine am_go rfl ?_
    iterate 3 refine am_g0 rfl rfl ?_
    refine am_ff (show ¬ nI s < 0 from nI_pos (by omega)) (am_oi (a := 25 + s) (by rw [nI_clamp (by omega)]; exact sh_S4 s hs) ?_)
    refine am_g0 rfl rfl ?_
    refine am_ys (show (true && (true && am_isb shC (25 + s) 4)) = true by rw [s1]; rfl) ?_
    refine ⟨(some (.int (if w.1 (25 + s) 2 = -1 then 1 else 0)), w), d_isLost (by omega) hs, ?_⟩
    refine am_to (lv' := [(0, .ref 0), (1, .int (nI s))]) (st' := [.int (if w.1 (25 + s) 2 = -1 then 1 else 0)]) (w' := w) rfl rfl rfl ?_
    refine am_g0 rfl rfl ?_
    rcases opt_or (S.sz s) with hz | ⟨n, hz⟩
    · refine am_ff (show ¬ (if w.1 (25 + s) 2 = -1 then 1 else 0 : Int32) = 0 from by rw [if_pos ((h.szn hs).mpr hz)]; exact i10) ?_
      iterate 3 refine am_g0 rfl rfl ?_
      refine ⟨(some (.int ((-10) - 1)), am_pi w 0 16 1), d_refusal (by omega), ?_⟩
      refine am_to (lv' := [(0, .ref 0), (1, .int (nI s))]) (st' := [.int ((-10) - 1)]) (w' := am_pi w 0 16 1) rfl rfl rfl ?_
      refine am_g0 rfl rfl ?_
      exact ⟨rfl, by unfold loseS; rw [hx]; dsimp only; rw [hz]; rfl, by unfold loseS; rw [hx]; dsimp only; rw [hz]; exact RC_setF h⟩
    · refine am_tt (show (if w.1 (25 + s) 2 = -1 then 1 else 0 : Int32) = 0 from by rw [if_neg (fun z => by rw [(h.szn hs).mp z] at hz; cases hz)]) ?_
      refine am_go rfl ?_
      iterate 3 refine am_g0 rfl rfl ?_
      refine am_ff (show ¬ nI s < 0 from nI_pos (by omega)) (am_oi (a := 25 + s) (by rw [nI_clamp (by omega)]; exact sh_S4 s hs) ?_)
      refine am_g0 rfl rfl ?_
      refine am_ys s1 ?_
      refine am_top (y := nI n) (by have := (h.1.2.2.2.2.2.2.2.1 s hs).1; rw [hz] at this; exact this) ?_
      iterate 5 refine am_g0 rfl rfl ?_
      refine am_ff (show ¬ nI s < 0 from nI_pos (by omega)) (am_oi (a := 25 + s) (by rw [nI_clamp (by omega)]; exact sh_S4 s hs) ?_)
      iterate 2 refine am_g0 rfl rfl ?_
      refine am_ys (show (am_isb shC (25 + s) 4 && true) = true by rw [s1]; rfl) ?_
      iterate 2 refine am_g0 rfl rfl ?_
      have hS : loseS S (nI s) = (nI n, S.setH S.fm (upO S.sz s none) S.it) := by unfold loseS; rw [hx]; dsimp only; rw [hz]
      rw [hS]
      refine ⟨rfl, rfl, RC_setH h (fun a ha => am_pi_row (by omega)) rfl (fun c hc => ?_) (fun c hc => ?_)⟩
      · refine ⟨(h.1.1.2.2.2 c hc).1, fun m hm => ?_⟩
        unfold upO at hm
        by_cases z : c = s
        · rw [if_pos z] at hm; cases hm
        · rw [if_neg z] at hm; exact (h.1.1.2.2.2 c hc).2 m hm
      · show _ = opI (upO S.sz s none c) ∧ ∀ m, upO S.sz s none c = some m → _ = nI (S.fm c) ∧ ∀ i, i < m → _ = S.it c i
        unfold upO
        by_cases z : c = s
        · subst z
          rw [if_pos rfl, am_pi_at]
          exact ⟨rfl, fun m hm => by cases hm⟩
        · rw [if_neg z, am_pi_row (by omega), am_pi_row (by omega)]
          exact h.1.2.2.2.2.2.2.2.1 c hc
theorem RCh_put {w : am_M} {S : Sp} {s k : Nat} {x : Int32} (h : RC w S) (hs : s < 4) : RC (am_pi w (29 + s) k x) (S.setH S.fm S.sz (upI S.it s k x)) := by
  refine RC_setH h (fun a ha => am_pi_row (by omega)) rfl (h.1.1.2.2.2) (fun c hc => ?_)
  obtain ⟨a1, a2⟩ := h.1.2.2.2.2.2.2.2.1 c hc
  show (am_pi w (29 + s) k x).1 (25 + c) 2 = opI (S.sz c) ∧ ∀ m, S.sz c = some m → (am_pi w (29 + s) k x).1 (25 + c) 1 = nI (S.fm c) ∧ ∀ i, i < m → (am_pi w (29 + s) k x).1 (29 + c) i = upI S.it s k x c i
  rw [am_pi_row (show 25 + c ≠ 29 + s by omega)]
  refine ⟨a1, fun m hm => ⟨(a2 m hm).1, fun i hi => ?_⟩⟩
  unfold upI
  by_cases z : c = s ∧ i = k
  · rw [if_pos z, z.1, z.2, am_pi_at]
  · rw [if_neg z, am_pi_ne (by omega)]; exact (a2 m hm).2 i hi
theorem d_lay {d : Nat} {x f i v : Int32} {w : am_M} {S : Sp} (hd : 8 ≤ d) (h : RC w S) : ∃ o : am_O, (o.1 = some (.int (layS S x f i v).1) ∧ RC o.2 (layS S x f i v).2) ∧ am_D shC d mi_X11_lay [.ref 0, .int x, .int f, .int i, .int v] w o := by
  rcases dI_or x 4 (by decide) with hx | ⟨s, hs, rfl, hx⟩
  · refine am_dex (by omega) rfl rfl ?_
    iterate 3 refine am_g0 rfl rfl ?_
    refine ⟨(some (.int 0), w), d_isWn shC (n := 4) (by omega) hx, ?_⟩
    refine am_to (lv' := [(0, .ref 0), (1, .int x), (2, .int f), (3, .int i), (4, .int v)]) (st' := [.int 0]) (w' := w) rfl rfl rfl ?_
    refine am_g0 rfl rfl ?_
    refine am_go rfl ?_
    refine am_g0 rfl rfl ?_
    exact ⟨rfl, by unfold layS; rw [hx], by unfold layS; rw [hx]; exact h⟩
  · rcases dI_or f 3 (by decide) with hf | ⟨g, hg, rfl, hf⟩
    · refine am_dex (by omega) rfl rfl ?_
      iterate 3 refine am_g0 rfl rfl ?_
      refine ⟨(some (.int 1), w), d_isWs shC (n := 4) (by omega) hs (by decide), ?_⟩
      refine am_to (lv' := [(0, .ref 0), (1, .int (nI s)), (2, .int f), (3, .int i), (4, .int v)]) (st' := [.int 1]) (w' := w) rfl rfl rfl ?_
      iterate 4 refine am_g0 rfl rfl ?_
      refine ⟨(some (.int 0), w), d_isWn shC (n := 3) (by omega) hf, ?_⟩
      refine am_to (lv' := [(0, .ref 0), (1, .int (nI s)), (2, .int f), (3, .int i), (4, .int v)]) (st' := [.int 0]) (w' := w) rfl rfl rfl ?_
      refine am_g0 rfl rfl ?_
      refine am_go rfl ?_
      refine am_g0 rfl rfl ?_
      exact ⟨rfl, by unfold layS; rw [hx, hf], by unfold layS; rw [hx, hf]; exact h⟩
    · obtain ⟨s1, s2, s3⟩ := sh_S s hs
      refine am_dex (by omega) rfl rfl ?_
      iterate 3 refine am_g0 rfl rfl ?_
      refine ⟨(some (.int 1), w), d_isWs shC (n := 4) (by omega) hs (by decide), ?_⟩
      refine am_to (lv' := [(0, .ref 0), (1, .int (nI s)), (2, .int (nI g)), (3, .int i), (4, .int v)]) (st' := [.int 1]) (w' := w) rfl rfl rfl ?_
      iterate 4 refine am_g0 rfl rfl ?_
      refine ⟨(some (.int 1), w), d_isWs shC (n := 3) (by omega) hg (by decide), ?_⟩
      refine am_to (lv' := [(0, .ref 0), (1, .int (nI s)), (2, .int (nI g)), (3, .int i), (4, .int v)]) (st' := [.int 1]) (w' := w) rfl rfl rfl ?_
      refine am_g0 rfl rfl ?_
      refine am_go rfl ?_
      iterate 3 refine am_g0 rfl rfl ?_
      refine am_ff (show ¬ nI s < 0 from nI_pos (by omega)) (am_oi (a := 25 + s) (by rw [nI_clamp (by omega)]; exact sh_S4 s hs) ?_)
      iterate 3 refine am_g0 rfl rfl ?_
      refine am_ys (show (true && (true && am_isb shC (25 + s) 4)) = true by rw [s1]; rfl) ?_
      rcases cFind_eq (i := i) h hs hg with ⟨r, r0, hr, hc⟩ | ⟨k, n, hr, hz, hkn, hn, hgf, rfl, hc⟩
      · refine ⟨(some (.int r), w), by rw [← hc]; exact d_findingOf (by omega) hs, ?_⟩
        refine am_to (lv' := [(0, .ref 0), (1, .int (nI s)), (2, .int (nI g)), (3, .int i), (4, .int v)]) (st' := [.int r]) (w' := w) rfl rfl rfl ?_
        iterate 3 refine am_g0 rfl rfl ?_
        refine am_ff (show ¬ (r : Int32) = 0 from r0) ?_
        iterate 3 refine am_g0 rfl rfl ?_
        refine ⟨(some (.int ((-10) - r)), am_pi w 0 16 r), d_refusal (by omega), ?_⟩
        refine am_to (lv' := [(0, .ref 0), (1, .int (nI s)), (2, .int (nI g)), (3, .int i), (4, .int v), (5, .int r)]) (st' := [.int ((-10) - r)]) (w' := am_pi w 0 16 r) rfl rfl rfl ?_
        refine am_g0 rfl rfl ?_
        exact ⟨rfl, by unfold layS; rw [hx, hf]; dsimp only; rw [hr], by unfold layS; rw [hx, hf]; dsimp only; rw [hr]; exact RC_setF h⟩
      · refine ⟨(some (.int 0), w), by rw [← hc]; exact d_findingOf (by omega) hs, ?_⟩
        refine am_to (lv' := [(0, .ref 0), (1, .int (nI s)), (2, .int (nI g)), (3, .int (nI k)), (4, .int v)]) (st' := [.int 0]) (w' := w) rfl rfl rfl ?_
        iterate 3 refine am_g0 rfl rfl ?_
        refine am_go rfl ?_
        iterate 3 refine am_g0 rfl rfl ?_
        refine am_ff (show ¬ nI s < 0 from nI_pos (by omega)) (am_oi (a := 25 + s) (by rw [nI_clamp (by omega)]; exact sh_S4 s hs) ?_)
        iterate 3 refine am_g0 rfl rfl ?_
        refine am_ys (show (true && (true && am_isb shC (25 + s) 4)) = true by rw [s1]; rfl) ?_
        refine ⟨(none, am_pi w (29 + s) k (cCut (w.1 (25 + s) 1) v)), d_put (by omega) hs (by omega), ?_⟩
        refine am_to (lv' := [(0, .ref 0), (1, .int (nI s)), (3, .int (nI k)), (4, .int v)]) (st' := []) (w' := am_pi w (29 + s) k (cCut (w.1 (25 + s) 1) v)) rfl rfl rfl ?_
        iterate 2 refine am_g0 rfl rfl ?_
        have hS : layS S (nI s) (nI g) (nI k) v = (1, S.setH S.fm S.sz (upI S.it s k (cCut (nI g) v))) := by unfold layS; rw [hx, hf]; dsimp only; rw [hr]
        rw [hS, ((h.1.2.2.2.2.2.2.2.1 s hs).2 n hz).1, ← hgf]
        exact ⟨rfl, rfl, RCh_put h hs⟩
theorem d_get {d : Nat} {x f i : Int32} {w : am_M} {S : Sp} (hd : 8 ≤ d) (h : RC w S) : ∃ o : am_O, (o.1 = some (.int (getS S x f i).1) ∧ RC o.2 (getS S x f i).2) ∧ am_D shC d mi_X11_get [.ref 0, .int x, .int f, .int i] w o := by
  rcases dI_or x 4 (by decide) with hx | ⟨s, hs, rfl, hx⟩
  · refine am_dex (by omega) rfl rfl ?_
    iterate 3 refine am_g0 rfl rfl ?_
    refine ⟨(some (.int 0), w), d_isWn shC (n := 4) (by omega) hx, ?_⟩
    refine am_to (lv' := [(0, .ref 0), (1, .int x), (2, .int f), (3, .int i)]) (st' := [.int 0]) (w' := w) rfl rfl rfl ?_
    refine am_g0 rfl rfl ?_
    refine am_go rfl ?_
    refine am_g0 rfl rfl ?_
    exact ⟨rfl, by unfold getS; rw [hx], by unfold getS; rw [hx]; exact h⟩
  · rcases dI_or f 3 (by decide) with hf | ⟨g, hg, rfl, hf⟩
    · refine am_dex (by omega) rfl rfl ?_
      iterate 3 refine am_g0 rfl rfl ?_
      refine ⟨(some (.int 1), w), d_isWs shC (n := 4) (by omega) hs (by decide), ?_⟩
      refine am_to (lv' := [(0, .ref 0), (1, .int (nI s)), (2, .int f), (3, .int i)]) (st' := [.int 1]) (w' := w) rfl rfl rfl ?_
      iterate 4 refine am_g0 rfl rfl ?_
      refine ⟨(some (.int 0), w), d_isWn shC (n := 3) (by omega) hf, ?_⟩
      refine am_to (lv' := [(0, .ref 0), (1, .int (nI s)), (2, .int f), (3, .int i)]) (st' := [.int 0]) (w' := w) rfl rfl rfl ?_
      refine am_g0 rfl rfl ?_
      refine am_go rfl ?_
      refine am_g0 rfl rfl ?_
      exact ⟨rfl, by unfold getS; rw [hx, hf], by unfold getS; rw [hx, hf]; exact h⟩
    · obtain ⟨s1, s2, s3⟩ := sh_S s hs
      refine am_dex (by omega) rfl rfl ?_
      iterate 3 refine am_g0 rfl rfl ?_
      refine ⟨(some (.int 1), w), d_isWs shC (n := 4) (by omega) hs (by decide), ?_⟩
      refine am_to (lv' := [(0, .ref 0), (1, .int (nI s)), (2, .int (nI g)), (3, .int i)]) (st' := [.int 1]) (w' := w) rfl rfl rfl ?_
      iterate 4 refine am_g0 rfl rfl ?_
      refine ⟨(some (.int 1), w), d_isWs shC (n := 3) (by omega) hg (by decide), ?_⟩
      refine am_to (lv' := [(0, .ref 0), (1, .int (nI s)), (2, .int (nI g)), (3, .int i)]) (st' := [.int 1]) (w' := w) rfl rfl rfl ?_
      refine am_g0 rfl rfl ?_
      refine am_go rfl ?_
      iterate 3 refine am_g0 rfl rfl ?_
      refine am_ff (show ¬ nI s < 0 from nI_pos (by omega)) (am_oi (a := 25 + s) (by rw [nI_clamp (by omega)]; exact sh_S4 s hs) ?_)
      iterate 3 refine am_g0 rfl rfl ?_
      refine am_ys (show (true && (true && am_isb shC (25 + s) 4)) = true by rw [s1]; rfl) ?_
      rcases cFind_eq (i := i) h hs hg with ⟨r, r0, hr, hc⟩ | ⟨k, n, hr, hz, hkn, hn, hgf, rfl, hc⟩
      · refine ⟨(some (.int r), w), by rw [← hc]; exact d_findingOf (by omega) hs, ?_⟩
        refine am_to (lv' := [(0, .ref 0), (1, .int (nI s)), (2, .int (nI g)), (3, .int i)]) (st' := [.int r]) (w' := w) rfl rfl rfl ?_
        iterate 3 refine am_g0 rfl rfl ?_
        refine am_ff (show ¬ (r : Int32) = 0 from r0) ?_
        iterate 5 refine am_g0 rfl rfl ?_
        exact ⟨rfl, by unfold getS; rw [hx, hf]; dsimp only; rw [hr], by unfold getS; rw [hx, hf]; dsimp only; rw [hr]; exact RC_setF h⟩
      · refine ⟨(some (.int 0), w), by rw [← hc]; exact d_findingOf (by omega) hs, ?_⟩
        refine am_to (lv' := [(0, .ref 0), (1, .int (nI s)), (2, .int (nI g)), (3, .int (nI k))]) (st' := [.int 0]) (w' := w) rfl rfl rfl ?_
        iterate 3 refine am_g0 rfl rfl ?_
        refine am_go rfl ?_
        iterate 3 refine am_g0 rfl rfl ?_
        refine am_ff (show ¬ nI s < 0 from nI_pos (by omega)) (am_oi (a := 25 + s) (by rw [nI_clamp (by omega)]; exact sh_S4 s hs) ?_)
        refine am_g0 rfl rfl ?_
        refine am_ys s1 (am_oi s2 ?_)
        refine am_g0 rfl rfl ?_
        refine am_glE (k := k) rfl s3 (rfl) (by omega) (by decide) ?_
        refine am_g0 rfl rfl ?_
        have hS : getS S (nI s) (nI g) (nI k) = (S.it s k, S) := by unfold getS; rw [hx, hf]; dsimp only; rw [hr]
        rw [hS, ((h.1.2.2.2.2.2.2.2.1 s hs).2 n hz).2 k hkn]
        exact ⟨rfl, rfl, h⟩
end
section
/-! rains, copies, things seen, counts: the class -/
theorem RC_clr {m : am_M} {S : Sp} (hb : RCb m S) (h17 : m.1 0 17 = 1) (h18 : m.1 0 18 = -1) (h19 : m.1 0 19 = -2) (h53 : m.1 53 3 = -1) : RC m S := ⟨hb, fun z => absurd z (by rw [h17]; decide), Or.inl h18, Or.inl h19, Or.inl h53⟩
theorem cOut_low {w : am_M} {a : Nat} (h0 : a ≠ 0) (h53 : a ≠ 53) : (cOut w).1 a = w.1 a := by
  unfold cOut
  rw [am_pi_row (by omega), am_pi_row (by omega), am_pi_row (by omega), am_pi_row (by omega)]
theorem cOut_fn {w : am_M} {j : Nat} (h : j < 17) : (cOut w).1 0 j = w.1 0 j := by
  unfold cOut
  rw [am_pi_ne (by omega), am_pi_ne (by omega), am_pi_ne (by omega), am_pi_ne (by omega)]
def rainS (S : Sp) (x : Int32) : Int32 × Sp := match dI x 30 with
  | some s => if S.rn = 8 then (-4, S) else (nI (S.rn + 1), S.setR (S.rn + 1) (up1 S.rs S.rn s))
  | none => (-2, S)
def backS (S : Sp) : Int32 × Sp := if S.rn = 0 then (-3, S) else (nI (S.rn - 1), S.setR (S.rn - 1) S.rs)
theorem d_rain {d : Nat} {x : Int32} {w : am_M} {S : Sp} (hd : 8 ≤ d) (h : RC w S) : ∃ o : am_O, (o.1 = some (.int (rainS S x).1) ∧ RC o.2 (rainS S x).2) ∧ am_D shC d mi_X11_rain [.ref 0, .int x] w o := by
  obtain ⟨r1, r2⟩ := h.1.2.2.2.2.2.1
  have hr8 := h.1.1.2.1.1
  rcases dI_or x 30 (by decide) with hx | ⟨s, hs, rfl, hx⟩
  · refine am_dex (by omega) rfl rfl ?_
    iterate 3 refine am_g0 rfl rfl ?_
    refine ⟨(some (.int 0), w), d_isWn shC (n := 30) (by omega) hx, ?_⟩
    refine am_to (lv' := [(0, .ref 0), (1, .int x)]) (st' := [.int 0]) (w' := w) rfl rfl rfl ?_
    iterate 3 refine am_g0 rfl rfl ?_
    exact ⟨rfl, by unfold rainS; rw [hx], by unfold rainS; rw [hx]; exact h⟩
  · refine am_dex (by omega) rfl rfl ?_
    iterate 3 refine am_g0 rfl rfl ?_
    refine ⟨(some (.int 1), w), d_isWs shC (n := 30) (by omega) hs (by decide), ?_⟩
    refine am_to (lv' := [(0, .ref 0), (1, .int (nI s))]) (st' := [.int 1]) (w' := w) rfl rfl rfl ?_
    refine am_g0 rfl rfl ?_
    refine am_go rfl ?_
    iterate 3 refine am_g0 rfl rfl ?_
    by_cases h8 : S.rn = 8
    · refine ⟨(some (.int 0), w), d_radd_f (by omega) r1 h8, ?_⟩
      refine am_to (lv' := [(0, .ref 0), (1, .int (nI s))]) (st' := [.int 0]) (w' := w) rfl rfl rfl ?_
      iterate 3 refine am_g0 rfl rfl ?_
      exact ⟨rfl, by unfold rainS; rw [hx]; dsimp only; rw [if_pos h8], by unfold rainS; rw [hx]; dsimp only; rw [if_pos h8]; exact h⟩
    · refine ⟨(some (.int 1), am_pi (am_pi w 19 S.rn (nI s)) 18 1 (nI (S.rn + 1))), d_radd_t (by omega) r1 (by omega), ?_⟩
      refine am_to (lv' := [(0, .ref 0), (1, .int (nI s))]) (st' := [.int 1]) (w' := am_pi (am_pi w 19 S.rn (nI s)) 18 1 (nI (S.rn + 1))) rfl rfl rfl ?_
      generalize hm : am_pi (am_pi w 19 S.rn (nI s)) 18 1 (nI (S.rn + 1)) = m
      refine am_g0 rfl rfl ?_
      refine am_go rfl ?_
      refine am_g0 rfl rfl ?_
      refine ⟨(none, cOut m), d_outdate (by omega), ?_⟩
      refine am_to (lv' := [(0, .ref 0)]) (st' := []) (w' := cOut m) rfl rfl rfl ?_
      iterate 3 refine am_g0 rfl rfl ?_
      have hS : rainS S (nI s) = (nI (S.rn + 1), S.setR (S.rn + 1) (up1 S.rs S.rn s)) := by unfold rainS; rw [hx]; dsimp only; rw [if_neg h8]
      rw [hS]
      have h18 : m.1 18 1 = nI (S.rn + 1) := by rw [← hm, am_pi_at]
      refine am_top (y := nI (S.rn + 1)) (by rw [cOut_low (by omega) (by omega)]; exact h18) ?_
      refine am_g0 rfl rfl ?_
      refine ⟨rfl, rfl, RC.out (RCb_setR h (fun a h0 h34 h1 h2 => ?_) ?_ (by omega) h18 (fun i hi => ?_))⟩
      · rw [← hm, am_pi_row h1, am_pi_row h2]
      · rw [← hm, am_pi_row (by omega), am_pi_row (by omega)]
      · rw [← hm, am_pi_row (by omega)]
        by_cases z : i = S.rn
        · rw [z, am_pi_at, up1_at]; exact ⟨rfl, hs⟩
        · rw [am_pi_ne (Or.inr z), up1_ne z]; exact ⟨r2 i (by omega), h.1.1.2.1.2 i (by omega)⟩
theorem d_back {d : Nat} {w : am_M} {S : Sp} (hd : 8 ≤ d) (h : RC w S) : ∃ o : am_O, (o.1 = some (.int (backS S).1) ∧ RC o.2 (backS S).2) ∧ am_D shC d mi_X11_back [.ref 0] w o := by
  obtain ⟨r1, r2⟩ := h.1.2.2.2.2.2.1
  have hr8 := h.1.1.2.1.1
  refine am_dex (by omega) rfl rfl ?_
  iterate 4 refine am_g0 rfl rfl ?_
  by_cases h0 : S.rn = 0
  · refine am_tt (show (w.1 18 1 : Int32) = 0 from by rw [r1, h0]; rfl) ?_
    iterate 2 refine am_g0 rfl rfl ?_
    exact ⟨rfl, by unfold backS; rw [if_pos h0], by unfold backS; rw [if_pos h0]; exact h⟩
  · refine am_ff (show ¬ (w.1 18 1 : Int32) = 0 from by rw [r1]; exact nI_ne0 (by omega) (by omega)) ?_
    refine am_go rfl ?_
    iterate 5 refine am_g0 rfl rfl ?_
    refine am_top (y := nI (S.rn - 1)) (by rw [r1]; exact pk_sub (b := 1) (by omega)) ?_
    iterate 2 refine am_g0 rfl rfl ?_
    refine am_to (lv' := [(0, .ref 0)]) (st' := [.ref 0]) (w' := am_pi w 18 1 (nI (S.rn - 1))) rfl rfl rfl ?_
    generalize hm : am_pi w 18 1 (nI (S.rn - 1)) = m
    refine am_g0 rfl rfl ?_
    refine ⟨(none, cOut m), d_outdate (by omega), ?_⟩
    refine am_to (lv' := [(0, .ref 0)]) (st' := []) (w' := cOut m) rfl rfl rfl ?_
    iterate 3 refine am_g0 rfl rfl ?_
    have hS : backS S = (nI (S.rn - 1), S.setR (S.rn - 1) S.rs) := by unfold backS; rw [if_neg h0]
    rw [hS]
    have h18 : m.1 18 1 = nI (S.rn - 1) := by rw [← hm, am_pi_at]
    refine am_top (y := nI (S.rn - 1)) (by rw [cOut_low (by omega) (by omega)]; exact h18) ?_
    refine am_g0 rfl rfl ?_
    refine ⟨rfl, rfl, RC.out (RCb_setR h (fun a h0 h34 h1 h2 => ?_) ?_ (by omega) h18 (fun i hi => ?_))⟩
    · rw [← hm, am_pi_row h1]
    · rw [← hm, am_pi_row (by omega)]
    · rw [← hm, am_pi_row (by omega)]; exact ⟨r2 i (by omega), h.1.1.2.1.2 i (by omega)⟩
/-! a sheet is read as rains -/
def rdR (S : Sp) (s : Nat) : Nat → Nat := fun i => if i < S.rn then S.rs i else (match dI (S.it s (i - S.rn)) 30 with
  | some v => v
  | none => 0)
def rdF (S : Sp) (s : Nat) : Nat → Bool := fun k => (dI (S.it s k) 30).isNone || decide (S.rn + k = 8)
def rdK (S : Sp) (s n : Nat) : Nat := match firstN (rdF S s) n with
  | some k => k
  | none => n
def readS (S : Sp) (x : Int32) : Int32 × Sp := match dI x 4 with
  | some s => (match S.sz s with
    | none => (-11, S.setF 1)
    | some n => (nI (rdK S s n), S.setR (S.rn + rdK S s n) (rdR S s)))
  | none => (-2, S)
theorem rdK_at {S : Sp} {s n i : Nat} (hi : i < n) (hf : rdF S s i = true) (h : ∀ j, j < i → rdF S s j = false) : rdK S s n = i := by unfold rdK; rw [firstN_at hi hf h]
theorem rdK_n {S : Sp} {s n : Nat} (h : ∀ j, j < n → rdF S s j = false) : rdK S s n = n := by unfold rdK; rw [firstN_ex h]
theorem d_read {d : Nat} {x : Int32} {w : am_M} {S : Sp} (hd : 8 ≤ d) (h : RC w S) : ∃ o : am_O, (o.1 = some (.int (readS S x).1) ∧ RC o.2 (readS S x).2) ∧ am_D shC d mi_X11_read [.ref 0, .int x] w o := by
  obtain ⟨r1, r2⟩ := h.1.2.2.2.2.2.1
  have hr8 := h.1.1.2.1.1
  rcases dI_or x 4 (by decide) with hx | ⟨s, hs, rfl, hx⟩
  · refine am_dex (by omega) rfl rfl ?_
    iterate 3 refine am_g0 rfl rfl ?_
    refine ⟨(some (.int 0), w), d_isWn shC (n := 4) (by omega) hx, ?_⟩
    refine am_to (lv' := [(0, .ref 0), (1, .int x)]) (st' := [.int 0]) (w' := w) rfl rfl rfl ?_
    iterate 3 refine am_g0 rfl rfl ?_
    exact ⟨rfl, by unfold readS; rw [hx], by unfold readS; rw [hx]; exact h⟩
  · obtain ⟨s1, s2, s3⟩ := sh_S s hs
    refine am_dex (by omega) rfl rfl ?_
    iterate 3 refine am_g0 rfl rfl ?_
    refine ⟨(some (.int 1), w), d_isWs shC (n := 4) (by omega) hs (by decide), ?_⟩
    refine am_to (lv' := [(0, .ref 0), (1, .int (nI s))]) (st' := [.int 1]) (w' := w) rfl rfl rfl ?_
    refine am_g0 rfl rfl ?_
    refine am_go rfl ?_
    iterate 3 refine am_g0 rfl rfl ?_
    refine am_ff (show ¬ nI s < 0 from nI_pos (by omega)) (am_oi (a := 25 + s) (by rw [nI_clamp (by omega)]; exact sh_S4 s hs) ?_)
    iterate 3 refine am_g0 rfl rfl ?_
    refine am_ys (show (true && (true && am_isb shC (25 + s) 4)) = true by rw [s1]; rfl) ?_
    refine ⟨(some (.int (if w.1 (25 + s) 2 = -1 then 1 else 0)), w), d_isLost (by omega) hs, ?_⟩
    refine am_to (lv' := [(0, .ref 0), (1, .int (nI s)), (2, .ref (25 + s))]) (st' := [.int (if w.1 (25 + s) 2 = -1 then 1 else 0)]) (w' := w) rfl rfl rfl ?_
    refine am_g0 rfl rfl ?_
    rcases opt_or (S.sz s) with hz | ⟨n, hz⟩
    · refine am_ff (show ¬ (if w.1 (25 + s) 2 = -1 then 1 else 0 : Int32) = 0 from by rw [if_pos ((h.szn hs).mpr hz)]; exact i10) ?_
      iterate 3 refine am_g0 rfl rfl ?_
      refine ⟨(some (.int ((-10) - 1)), am_pi w 0 16 1), d_refusal (by omega), ?_⟩
      refine am_to (lv' := [(0, .ref 0), (1, .int (nI s)), (2, .ref (25 + s))]) (st' := [.int ((-10) - 1)]) (w' := am_pi w 0 16 1) rfl rfl rfl ?_
      refine am_g0 rfl rfl ?_
      exact ⟨rfl, by unfold readS; rw [hx]; dsimp only; rw [hz]; rfl, by unfold readS; rw [hx]; dsimp only; rw [hz]; exact RC_setF h⟩
    · refine am_tt (show (if w.1 (25 + s) 2 = -1 then 1 else 0 : Int32) = 0 from by rw [if_neg (fun z => by rw [(h.szn hs).mp z] at hz; cases hz)]) ?_
      have hS : readS S (nI s) = (nI (rdK S s n), S.setR (S.rn + rdK S s n) (rdR S s)) := by unfold readS; rw [hx]; dsimp only; rw [hz]
      have hn60 := (h.1.1.2.2.2 s hs).2 n hz
      obtain ⟨a1, a2⟩ := h.1.2.2.2.2.2.2.2.1 s hs
      rw [hz] at a1
      have a3 : w.1 (25 + s) 2 = nI n := a1
      have a4 := (a2 n hz).2
      rw [hS]
      refine am_go rfl ?_
      refine am_g0 rfl rfl ?_
      refine ⟨(none, cOut w), d_outdate (by omega), ?_⟩
      refine am_to (lv' := [(0, .ref 0), (2, .ref (25 + s))]) (st' := []) (w' := cOut w) rfl rfl rfl ?_
      iterate 2 refine am_g0 rfl rfl ?_
      have fin : ∀ i, S.rn + i ≤ 8 → ∀ m : am_M, (∀ a, a ≠ 18 → a ≠ 19 → m.1 a = (cOut w).1 a) → m.1 18 1 = nI (S.rn + i) → (∀ j, j < S.rn + i → m.1 19 j = nI (rdR S s j) ∧ rdR S s j < 30) → RC m (S.setR (S.rn + i) (rdR S s)) := by
        intro i hi m hm h18 h19
        refine RC_clr (RCb_setR h (fun a h0 h34 h1 h2 => ?_) ?_ hi h18 h19) ?_ ?_ ?_ ?_
        · rw [hm a h1 h2, cOut_low (by omega) (by omega)]
        · rw [hm 0 (by omega) (by omega)]; exact cOut_fn (by omega)
        · rw [hm 0 (by omega) (by omega)]; rfl
        · rw [hm 0 (by omega) (by omega)]; rfl
        · rw [hm 0 (by omega) (by omega)]; rfl
        · rw [hm 53 (by omega) (by omega)]; rfl
      have key : ∀ j i : Nat, i + j = n → S.rn + i ≤ 8 → ∀ m : am_M, (∀ a, a ≠ 18 → a ≠ 19 → m.1 a = (cOut w).1 a) → m.1 18 1 = nI (S.rn + i) → (∀ j, j < S.rn + i → m.1 19 j = nI (rdR S s j) ∧ rdR S s j < 30) → (∀ j, j < i → rdF S s j = false) → am_R shC mi_X11_read (am_D shC (d - 1)) (fun o => o.1 = some (.int (nI (rdK S s n), S.setR (S.rn + rdK S s n) (rdR S s)).1) ∧ RC o.2 (nI (rdK S s n), S.setR (S.rn + rdK S s n) (rdR S s)).2) 37 [(0, .ref 0), (2, .ref (25 + s)), (3, .int (nI i))] [] m := by
        intro j
        induction j with
        | zero =>
          intro i hi h8 m hm h18 h19 hf
          have sz : m.1 (25 + s) 2 = nI n := by rw [hm _ (by omega) (by omega), cOut_low (by omega) (by omega)]; exact a3
          refine am_go rfl ?_
          iterate 2 refine am_g0 rfl rfl ?_
          refine am_ys s1 ?_
          refine am_g0 rfl rfl ?_
          refine am_tt (show (m.1 (25 + s) 2 : Int32) ≤ (nI i) from by rw [sz]; exact nI_le (by omega) (by omega)) ?_
          refine am_go rfl ?_
          refine am_g0 rfl rfl ?_
          have e : rdK S s n = i := by rw [rdK_n (fun j hj => hf j (by omega))]; omega
          rw [e]
          exact ⟨rfl, rfl, fin i h8 m hm h18 h19⟩
        | succ j ih =>
          intro i hi h8 m hm h18 h19 hf
          have sz : m.1 (25 + s) 2 = nI n := by rw [hm _ (by omega) (by omega), cOut_low (by omega) (by omega)]; exact a3
          have ite : m.1 (29 + s) i = S.it s i := by rw [hm _ (by omega) (by omega), cOut_low (by omega) (by omega)]; exact a4 i (by omega)
          refine am_go rfl ?_
          iterate 2 refine am_g0 rfl rfl ?_
          refine am_ys s1 ?_
          refine am_g0 rfl rfl ?_
          refine am_ff (show ¬ (m.1 (25 + s) 2 : Int32) ≤ (nI i) from by rw [sz]; exact nI_ge (by omega) (by omega)) ?_
          iterate 2 refine am_g0 rfl rfl ?_
          refine am_ys s1 (am_oi s2 ?_)
          refine am_g0 rfl rfl ?_
          refine am_glN (k := i) rfl s3 (by omega) (by decide) ?_
          refine am_top (y := S.it s i) (ite) ?_
          iterate 2 refine am_g0 rfl rfl ?_
          rcases dI_or (S.it s i) 30 (by decide) with hv | ⟨v, hv30, ev, hv⟩
          · refine ⟨(some (.int 0), m), d_isWn shC (n := 30) (by omega) hv, ?_⟩
            refine am_to (lv' := [(0, .ref 0), (2, .ref (25 + s)), (3, .int (nI i))]) (st' := [.int 0]) (w' := m) rfl rfl rfl ?_
            refine am_g0 rfl rfl ?_
            refine am_go rfl ?_
            refine am_g0 rfl rfl ?_
            have e : rdK S s n = i := rdK_at (by omega) (by unfold rdF; rw [hv]; rfl) hf
            rw [e]
            exact ⟨rfl, rfl, fin i h8 m hm h18 h19⟩
          · refine ⟨(some (.int 1), m), by rw [ev]; exact d_isWs shC (n := 30) (by omega) hv30 (by decide), ?_⟩
            refine am_to (lv' := [(0, .ref 0), (2, .ref (25 + s)), (3, .int (nI i))]) (st' := [.int 1]) (w' := m) rfl rfl rfl ?_
            iterate 5 refine am_g0 rfl rfl ?_
            refine am_ys s1 (am_oi s2 ?_)
            refine am_g0 rfl rfl ?_
            refine am_glN (k := i) rfl s3 (by omega) (by decide) ?_
            refine am_top (y := S.it s i) (ite) ?_
            refine am_g0 rfl rfl ?_
            by_cases h88 : S.rn + i = 8
            · refine ⟨(some (.int 0), m), d_radd_f (by omega) h18 h88, ?_⟩
              refine am_to (lv' := [(0, .ref 0), (2, .ref (25 + s)), (3, .int (nI i))]) (st' := [.int 0]) (w' := m) rfl rfl rfl ?_
              refine am_g0 rfl rfl ?_
              refine am_go rfl ?_
              refine am_g0 rfl rfl ?_
              have e : rdK S s n = i := rdK_at (by omega) (by unfold rdF; rw [decide_eq_true h88]; exact Bool.or_true _) hf
              rw [e]
              exact ⟨rfl, rfl, fin i h8 m hm h18 h19⟩
            · refine ⟨(some (.int 1), am_pi (am_pi m 19 (S.rn + i) (S.it s i)) 18 1 (nI (S.rn + i + 1))), d_radd_t (by omega) h18 (by omega), ?_⟩
              refine am_to (lv' := [(0, .ref 0), (2, .ref (25 + s)), (3, .int (nI i))]) (st' := [.int 1]) (w' := am_pi (am_pi m 19 (S.rn + i) (S.it s i)) 18 1 (nI (S.rn + i + 1))) rfl rfl rfl ?_
              iterate 3 refine am_g0 rfl rfl ?_
              have this := ih (i + 1) (by omega) (by omega) (am_pi (am_pi m 19 (S.rn + i) (S.it s i)) 18 1 (nI (S.rn + i + 1))) (fun a h1 h2 => by rw [am_pi_row h1, am_pi_row h2]; exact hm a h1 h2) (am_pi_at _ _ _ _) (fun k hk => if z : k = S.rn + i then by rw [am_pi_row (by omega), z, am_pi_at]; unfold rdR; rw [if_neg (by omega), show S.rn + i - S.rn = i by omega, hv]; exact ⟨ev, hv30⟩ else by rw [am_pi_row (by omega), am_pi_ne (Or.inr z)]; exact h19 k (by omega)) (fun k hk => if z : k = i then by rw [z]; unfold rdF; rw [hv, decide_eq_false h88]; rfl else hf k (by omega))
              rw [← nI_1] at this
              exact am_kl this rfl
      exact am_kl (key n 0 (by omega) (by omega) (cOut w) (fun _ _ _ => rfl) (by rw [cOut_low (by omega) (by omega)]; exact r1) (fun k hk => by rw [cOut_low (by omega) (by omega)]; unfold rdR; rw [if_pos (by omega)]; exact ⟨r2 k (by omega), h.1.1.2.1.2 k (by omega)⟩) (fun k hk => absurd hk (Nat.not_lt_zero k))) rfl
/-! copies -/
def rng (i n : Int32) (a : Nat) : Prop := ¬ i < 0 ∧ ¬ n < 0 ∧ i.toInt + n.toInt ≤ (a : Int)
theorem d_hasRange_t {d s a : Nat} {i n : Int32} {w : am_M} (hd : 1 ≤ d) (hs : s < 4) (hz : w.1 (25 + s) 2 = nI a) (ha : a ≤ 60) (hr : rng i n a) : am_D shC d mi_X4_hasRange [.ref (25 + s), .int i, .int n] w (some (.int 1), w) := by
  obtain ⟨s1, s2, s3⟩ := sh_S s hs
  obtain ⟨h1, h2, h3⟩ := hr
  refine am_def (by omega) rfl rfl ?_
  iterate 2 refine am_g0 rfl rfl ?_
  refine am_ff (show ¬ (i : Int32) < 0 from h1) ?_
  iterate 2 refine am_g0 rfl rfl ?_
  refine am_ff (show ¬ (n : Int32) < 0 from h2) ?_
  iterate 3 refine am_g0 rfl rfl ?_
  refine am_ys s1 ?_
  iterate 3 refine am_g0 rfl rfl ?_
  obtain ⟨j, hj, rfl⟩ := nI_of h1
  obtain ⟨k, hk, rfl⟩ := nI_of h2
  rw [nI_toInt hj, nI_toInt hk] at h3
  refine am_ff (by rw [hz, pk_sub (by omega)]; exact nI_nlt (by omega) (by omega)) ?_
  iterate 2 refine am_g0 rfl rfl ?_
  refine am_go rfl ?_
  exact ⟨rfl, rfl⟩
theorem d_hasRange_f {d s a : Nat} {i n : Int32} {w : am_M} (hd : 1 ≤ d) (hs : s < 4) (hz : w.1 (25 + s) 2 = nI a) (ha : a ≤ 60) (hr : ¬ rng i n a) : am_D shC d mi_X4_hasRange [.ref (25 + s), .int i, .int n] w (some (.int 0), w) := by
  obtain ⟨s1, s2, s3⟩ := sh_S s hs
  refine am_def (by omega) rfl rfl ?_
  iterate 2 refine am_g0 rfl rfl ?_
  by_cases h1 : i < 0
  · refine am_tt (show (i : Int32) < 0 from h1) ?_
    refine am_go rfl ?_
    refine am_go rfl ?_
    exact ⟨rfl, rfl⟩
  · refine am_ff (show ¬ (i : Int32) < 0 from h1) ?_
    iterate 2 refine am_g0 rfl rfl ?_
    by_cases h2 : n < 0
    · refine am_tt (show (n : Int32) < 0 from h2) ?_
      refine am_go rfl ?_
      refine am_go rfl ?_
      exact ⟨rfl, rfl⟩
    · refine am_ff (show ¬ (n : Int32) < 0 from h2) ?_
      iterate 3 refine am_g0 rfl rfl ?_
      refine am_ys s1 ?_
      iterate 3 refine am_g0 rfl rfl ?_
      obtain ⟨j, hj, rfl⟩ := nI_of h1
      obtain ⟨k, hk, rfl⟩ := nI_of h2
      have h3 : a < j + k := by
        unfold rng at hr
        rw [nI_toInt hj, nI_toInt hk] at hr
        exact Decidable.byContradiction fun z => hr ⟨h1, h2, by omega⟩
      refine am_tt (by rw [hz, Int32.lt_iff_toInt_lt, Int32.toInt_sub, nI_toInt (by omega), nI_toInt hk, nI_toInt hj, Int.bmod_eq_of_le (by omega) (by omega)]; omega) ?_
      refine am_go rfl ?_
      refine am_go rfl ?_
      exact ⟨rfl, rfl⟩
def cpyI (it : Nat → Nat → Int32) (s i t j n : Nat) : Nat → Nat → Int32 := fun c e => if c = t ∧ j ≤ e ∧ e < j + n then it s (i + (e - j)) else it c e
def rngB (i n : Int32) (a : Nat) : Bool := decide (¬ i < 0) && decide (¬ n < 0) && decide (i.toInt + n.toInt ≤ (a : Int))
theorem rngB_t {i n : Int32} {a : Nat} : rngB i n a = true ↔ rng i n a := by unfold rngB rng; simp only [Bool.and_eq_true, decide_eq_true_eq]; exact and_assoc
def copyS (S : Sp) (x i y j n : Int32) : Int32 × Sp := match dI x 4, dI y 4 with
  | some s, some t => (match S.sz s, S.sz t with
    | some a, some b => if S.fm s = S.fm t then (if rngB i n a && rngB j n b then (1, S.setH S.fm S.sz (cpyI S.it s i.toNatClampNeg t j.toNatClampNeg n.toNatClampNeg)) else (-12, S.setF 2)) else (-14, S.setF 4)
    | _, _ => (-11, S.setF 1))
  | _, _ => (-2, S)
theorem d_copy {d : Nat} {x i y j n : Int32} {w : am_M} {S : Sp} (hd : 8 ≤ d) (h : RC w S) : ∃ o : am_O, (o.1 = some (.int (copyS S x i y j n).1) ∧ RC o.2 (copyS S x i y j n).2) ∧ am_D shC d mi_X11_copy [.ref 0, .int x, .int i, .int y, .int j, .int n] w o := by
  rcases dI_or x 4 (by decide) with hx | ⟨s, hs, rfl, hx⟩
  · refine am_dex (by omega) rfl rfl ?_
    iterate 3 refine am_g0 rfl rfl ?_
    refine ⟨(some (.int 0), w), d_isWn shC (n := 4) (by omega) hx, ?_⟩
    refine am_to (lv' := [(0, .ref 0), (1, .int x), (2, .int i), (3, .int y), (4, .int j), (5, .int n)]) (st' := [.int 0]) (w' := w) rfl rfl rfl ?_
    refine am_g0 rfl rfl ?_
    refine am_go rfl ?_
    refine am_g0 rfl rfl ?_
    exact ⟨rfl, by unfold copyS; rw [hx], by unfold copyS; rw [hx]; exact h⟩
  · rcases dI_or y 4 (by decide) with hy | ⟨t, ht, rfl, hy⟩
    · refine am_dex (by omega) rfl rfl ?_
      iterate 3 refine am_g0 rfl rfl ?_
      refine ⟨(some (.int 1), w), d_isWs shC (n := 4) (by omega) hs (by decide), ?_⟩
      refine am_to (lv' := [(0, .ref 0), (1, .int (nI s)), (2, .int i), (3, .int y), (4, .int j), (5, .int n)]) (st' := [.int 1]) (w' := w) rfl rfl rfl ?_
      iterate 4 refine am_g0 rfl rfl ?_
      refine ⟨(some (.int 0), w), d_isWn shC (n := 4) (by omega) hy, ?_⟩
      refine am_to (lv' := [(0, .ref 0), (1, .int (nI s)), (2, .int i), (3, .int y), (4, .int j), (5, .int n)]) (st' := [.int 0]) (w' := w) rfl rfl rfl ?_
      refine am_g0 rfl rfl ?_
      refine am_go rfl ?_
      refine am_g0 rfl rfl ?_
      exact ⟨rfl, by unfold copyS; rw [hx, hy], by unfold copyS; rw [hx, hy]; exact h⟩
    · obtain ⟨s1, s2, s3⟩ := sh_S s hs
      obtain ⟨t1, t2, t3⟩ := sh_S t ht
      refine am_dex (by omega) rfl rfl ?_
      iterate 3 refine am_g0 rfl rfl ?_
      refine ⟨(some (.int 1), w), d_isWs shC (n := 4) (by omega) hs (by decide), ?_⟩
      refine am_to (lv' := [(0, .ref 0), (1, .int (nI s)), (2, .int i), (3, .int (nI t)), (4, .int j), (5, .int n)]) (st' := [.int 1]) (w' := w) rfl rfl rfl ?_
      iterate 4 refine am_g0 rfl rfl ?_
      refine ⟨(some (.int 1), w), d_isWs shC (n := 4) (by omega) ht (by decide), ?_⟩
      refine am_to (lv' := [(0, .ref 0), (1, .int (nI s)), (2, .int i), (3, .int (nI t)), (4, .int j), (5, .int n)]) (st' := [.int 1]) (w' := w) rfl rfl rfl ?_
      refine am_g0 rfl rfl ?_
      refine am_go rfl ?_
      iterate 3 refine am_g0 rfl rfl ?_
      refine am_ff (show ¬ nI s < 0 from nI_pos (by omega)) (am_oi (a := 25 + s) (by rw [nI_clamp (by omega)]; exact sh_S4 s hs) ?_)
      iterate 5 refine am_g0 rfl rfl ?_
      refine am_ff (show ¬ nI t < 0 from nI_pos (by omega)) (am_oi (a := 25 + t) (by rw [nI_clamp (by omega)]; exact sh_S4 t ht) ?_)
      iterate 3 refine am_g0 rfl rfl ?_
      refine am_ys (show (true && (true && am_isb shC (25 + s) 4)) = true by rw [s1]; rfl) ?_
      refine ⟨(some (.int (if w.1 (25 + s) 2 = -1 then 1 else 0)), w), d_isLost (by omega) hs, ?_⟩
      refine am_to (lv' := [(0, .ref 0), (1, .int (nI s)), (2, .int i), (3, .int (nI t)), (4, .int j), (5, .int n), (6, .ref (25 + s)), (7, .ref (25 + t))]) (st' := [.int (if w.1 (25 + s) 2 = -1 then 1 else 0)]) (w' := w) rfl rfl rfl ?_
      refine am_g0 rfl rfl ?_
      rcases opt_or (S.sz s) with hz | ⟨a, hz⟩
      · refine am_ff (show ¬ (if w.1 (25 + s) 2 = -1 then 1 else 0 : Int32) = 0 from by rw [if_pos ((h.szn hs).mpr hz)]; exact i10) ?_
        refine am_go rfl ?_
        iterate 2 refine am_g0 rfl rfl ?_
        refine ⟨(some (.int ((-10) - 1)), am_pi w 0 16 1), d_refusal (by omega), ?_⟩
        refine am_to (lv' := [(0, .ref 0)]) (st' := [.int ((-10) - 1)]) (w' := am_pi w 0 16 1) rfl rfl rfl ?_
        refine am_g0 rfl rfl ?_
        exact ⟨rfl, by unfold copyS; rw [hx, hy]; dsimp only; rw [hz]; rfl, by unfold copyS; rw [hx, hy]; dsimp only; rw [hz]; exact RC_setF h⟩
      · refine am_tt (show (if w.1 (25 + s) 2 = -1 then 1 else 0 : Int32) = 0 from by rw [if_neg (fun z => by rw [(h.szn hs).mp z] at hz; cases hz)]) ?_
        iterate 2 refine am_g0 rfl rfl ?_
        refine am_ys (show (true && (true && am_isb shC (25 + t) 4)) = true by rw [t1]; rfl) ?_
        refine ⟨(some (.int (if w.1 (25 + t) 2 = -1 then 1 else 0)), w), d_isLost (by omega) ht, ?_⟩
        refine am_to (lv' := [(0, .ref 0), (1, .int (nI s)), (2, .int i), (3, .int (nI t)), (4, .int j), (5, .int n), (6, .ref (25 + s)), (7, .ref (25 + t))]) (st' := [.int (if w.1 (25 + t) 2 = -1 then 1 else 0)]) (w' := w) rfl rfl rfl ?_
        refine am_g0 rfl rfl ?_
        rcases opt_or (S.sz t) with hz2 | ⟨b, hz2⟩
        · refine am_ff (show ¬ (if w.1 (25 + t) 2 = -1 then 1 else 0 : Int32) = 0 from by rw [if_pos ((h.szn ht).mpr hz2)]; exact i10) ?_
          refine am_go rfl ?_
          iterate 2 refine am_g0 rfl rfl ?_
          refine ⟨(some (.int ((-10) - 1)), am_pi w 0 16 1), d_refusal (by omega), ?_⟩
          refine am_to (lv' := [(0, .ref 0)]) (st' := [.int ((-10) - 1)]) (w' := am_pi w 0 16 1) rfl rfl rfl ?_
          refine am_g0 rfl rfl ?_
          exact ⟨rfl, by unfold copyS; rw [hx, hy]; dsimp only; rw [hz, hz2]; rfl, by unfold copyS; rw [hx, hy]; dsimp only; rw [hz, hz2]; exact RC_setF h⟩
        · refine am_tt (show (if w.1 (25 + t) 2 = -1 then 1 else 0 : Int32) = 0 from by rw [if_neg (fun z => by rw [(h.szn ht).mp z] at hz2; cases hz2)]) ?_
          obtain ⟨a1, a2⟩ := h.1.2.2.2.2.2.2.2.1 s hs
          obtain ⟨b1, b2⟩ := h.1.2.2.2.2.2.2.2.1 t ht
          obtain ⟨a3, a4⟩ := a2 a hz
          obtain ⟨b3, b4⟩ := b2 b hz2
          obtain ⟨a5, a6⟩ := h.1.1.2.2.2 s hs
          obtain ⟨b5, b6⟩ := h.1.1.2.2.2 t ht
          have ha60 := a6 a hz
          have hb60 := b6 b hz2
          rw [hz] at a1
          rw [hz2] at b1
          refine am_go rfl ?_
          refine am_g0 rfl rfl ?_
          refine am_ys s1 ?_
          iterate 2 refine am_g0 rfl rfl ?_
          refine am_ys t1 ?_
          refine am_g0 rfl rfl ?_
          by_cases hf : S.fm s = S.fm t
          · refine am_tt (show (w.1 (25 + s) 1 : Int32) = (w.1 (25 + t) 1) from by rw [a3, b3, hf]) ?_
            refine am_go rfl ?_
            iterate 3 refine am_g0 rfl rfl ?_
            refine am_ys (show (true && (true && am_isb shC (25 + s) 4)) = true by rw [s1]; rfl) ?_
            have no : ¬ (rngB i n a && rngB j n b) = true → copyS S (nI s) i (nI t) j n = (-12, S.setF 2) := fun z => by unfold copyS; rw [hx, hy]; dsimp only; rw [hz, hz2]; dsimp only; rw [if_pos hf, if_neg z]
            by_cases q1 : rng i n a
            · refine ⟨(some (.int 1), w), d_hasRange_t (by omega) hs a1 ha60 q1, ?_⟩
              refine am_to (lv' := [(0, .ref 0), (2, .int i), (4, .int j), (5, .int n), (6, .ref (25 + s)), (7, .ref (25 + t))]) (st' := [.int 1]) (w' := w) rfl rfl rfl ?_
              iterate 5 refine am_g0 rfl rfl ?_
              refine am_ys (show (true && (true && am_isb shC (25 + t) 4)) = true by rw [t1]; rfl) ?_
              by_cases q2 : rng j n b
              · refine ⟨(some (.int 1), w), d_hasRange_t (by omega) ht b1 hb60 q2, ?_⟩
                refine am_to (lv' := [(0, .ref 0), (2, .int i), (4, .int j), (5, .int n), (6, .ref (25 + s)), (7, .ref (25 + t))]) (st' := [.int 1]) (w' := w) rfl rfl rfl ?_
                refine am_g0 rfl rfl ?_
                refine am_go rfl ?_
                refine am_g0 rfl rfl ?_
                refine am_ys s1 (am_oi s2 ?_)
                iterate 3 refine am_g0 rfl rfl ?_
                refine am_ys t1 (am_oi t2 ?_)
                iterate 3 refine am_g0 rfl rfl ?_
                have hS : copyS S (nI s) i (nI t) j n = (1, S.setH S.fm S.sz (cpyI S.it s i.toNatClampNeg t j.toNatClampNeg n.toNatClampNeg)) := by unfold copyS; rw [hx, hy]; dsimp only; rw [hz, hz2]; dsimp only; rw [if_pos hf, if_pos (by rw [rngB_t.mpr q1, rngB_t.mpr q2]; rfl)]
                rw [hS]
                obtain ⟨c1, c2, c3⟩ := q1
                obtain ⟨c4, c5, c6⟩ := q2
                obtain ⟨I, hI, rfl⟩ := nI_of c1
                obtain ⟨J, hJ, rfl⟩ := nI_of c4
                obtain ⟨N, hN, rfl⟩ := nI_of c2
                rw [nI_toInt hI, nI_toInt hN] at c3
                rw [nI_toInt hJ, nI_toInt hN] at c6
                rw [nI_clamp hI, nI_clamp hJ, nI_clamp hN]
                refine am_oi s3 (am_oi t3 ⟨c1, c4, c2, by rw [nI_clamp hI, nI_clamp hN]; omega, by rw [nI_clamp hJ, nI_clamp hN]; omega, ?_⟩)
                rw [nI_clamp hI, nI_clamp hJ, nI_clamp hN]
                iterate 2 refine am_g0 rfl rfl ?_
                refine ⟨rfl, rfl, RC_setH h (fun c hc => funext fun e => by show (if c = 29 + t then _ else w.1 c e) = w.1 c e; rw [if_neg (by omega)]) rfl (h.1.1.2.2.2) (fun c hc => ?_)⟩
                obtain ⟨k1, k2⟩ := h.1.2.2.2.2.2.2.2.1 c hc
                have e25 : ∀ e, (am_pa w (29 + t) (va_cpy (w.1 (29 + s)) (w.1 (29 + t)) I J N)).1 (25 + c) e = w.1 (25 + c) e := fun e => by show (if 25 + c = 29 + t then _ else w.1 (25 + c) e) = _; rw [if_neg (by omega)]
                show (am_pa w (29 + t) (va_cpy (w.1 (29 + s)) (w.1 (29 + t)) I J N)).1 (25 + c) 2 = opI (S.sz c) ∧ ∀ m, S.sz c = some m → (am_pa w (29 + t) (va_cpy (w.1 (29 + s)) (w.1 (29 + t)) I J N)).1 (25 + c) 1 = nI (S.fm c) ∧ ∀ i, i < m → (am_pa w (29 + t) (va_cpy (w.1 (29 + s)) (w.1 (29 + t)) I J N)).1 (29 + c) i = cpyI S.it s I t J N c i
                rw [e25, e25]
                refine ⟨k1, fun m hm => ⟨(k2 m hm).1, fun e he => ?_⟩⟩
                show (if 29 + c = 29 + t then va_cpy (w.1 (29 + s)) (w.1 (29 + t)) I J N e else w.1 (29 + c) e) = (if c = t ∧ J ≤ e ∧ e < J + N then S.it s (I + (e - J)) else S.it c e)
                by_cases z : c = t
                · subst z
                  rw [if_pos rfl]
                  by_cases z2 : J ≤ e ∧ e < J + N
                  · rw [if_pos ⟨rfl, z2⟩, pk_cpy_in z2.1 z2.2]
                    exact a4 _ (by omega)
                  · rw [if_neg (fun q => z2 q.2), pk_cpy_out (by omega)]
                    exact (k2 m hm).2 e he
                · rw [if_neg (by omega), if_neg (fun q => z q.1)]
                  exact (k2 m hm).2 e he
              · refine ⟨(some (.int 0), w), d_hasRange_f (by omega) ht b1 hb60 q2, ?_⟩
                refine am_to (lv' := [(0, .ref 0), (2, .int i), (4, .int j), (5, .int n), (6, .ref (25 + s)), (7, .ref (25 + t))]) (st' := [.int 0]) (w' := w) rfl rfl rfl ?_
                refine am_g0 rfl rfl ?_
                refine am_go rfl ?_
                iterate 2 refine am_g0 rfl rfl ?_
                refine ⟨(some (.int ((-10) - 2)), am_pi w 0 16 2), d_refusal (by omega), ?_⟩
                refine am_to (lv' := [(0, .ref 0)]) (st' := [.int ((-10) - 2)]) (w' := am_pi w 0 16 2) rfl rfl rfl ?_
                refine am_g0 rfl rfl ?_
                rw [no (fun z => q2 (rngB_t.mp (Bool.and_eq_true_iff.mp z).2))]
                exact ⟨rfl, rfl, RC_setF h⟩
            · refine ⟨(some (.int 0), w), d_hasRange_f (by omega) hs a1 ha60 q1, ?_⟩
              refine am_to (lv' := [(0, .ref 0), (2, .int i), (4, .int j), (5, .int n), (6, .ref (25 + s)), (7, .ref (25 + t))]) (st' := [.int 0]) (w' := w) rfl rfl rfl ?_
              refine am_g0 rfl rfl ?_
              refine am_go rfl ?_
              iterate 2 refine am_g0 rfl rfl ?_
              refine ⟨(some (.int ((-10) - 2)), am_pi w 0 16 2), d_refusal (by omega), ?_⟩
              refine am_to (lv' := [(0, .ref 0)]) (st' := [.int ((-10) - 2)]) (w' := am_pi w 0 16 2) rfl rfl rfl ?_
              refine am_g0 rfl rfl ?_
              rw [no (fun z => q1 (rngB_t.mp (Bool.and_eq_true_iff.mp z).1))]
              exact ⟨rfl, rfl, RC_setF h⟩
          · refine am_ff (show ¬ (w.1 (25 + s) 1 : Int32) = (w.1 (25 + t) 1) from by rw [a3, b3]; exact nne hf (by omega) (by omega)) ?_
            iterate 3 refine am_g0 rfl rfl ?_
            refine ⟨(some (.int ((-10) - 4)), am_pi w 0 16 4), d_refusal (by omega), ?_⟩
            refine am_to (lv' := [(0, .ref 0), (2, .int i), (4, .int j), (5, .int n), (6, .ref (25 + s)), (7, .ref (25 + t))]) (st' := [.int ((-10) - 4)]) (w' := am_pi w 0 16 4) rfl rfl rfl ?_
            refine am_g0 rfl rfl ?_
            exact ⟨rfl, by unfold copyS; rw [hx, hy]; dsimp only; rw [hz, hz2]; dsimp only; rw [if_neg hf]; rfl, by unfold copyS; rw [hx, hy]; dsimp only; rw [hz, hz2]; dsimp only; rw [if_neg hf]; exact RC_setF h⟩
end
section
/-! things seen, counts; where each is when: the class -/
def seenS (S : Sp) (x y z : Int32) : Int32 × Sp := match dI x 30, dI y 8, dI z 36 with
  | some a, some b, some c => if S.sn = 8 then (-4, S) else (nI (S.sn + 1), S.setS (S.sn + 1) (up1 S.st S.sn a) (up1 S.pe S.sn b) (up1 S.ce S.sn c))
  | _, _, _ => (-2, S)
def forgetS (S : Sp) : Int32 × Sp := (nI S.sn, S.setS 0 S.st S.pe S.ce)
theorem d_sadd_f {d n : Nat} {x y z : Int32} {w : am_M} (hd : 1 ≤ d) (hn : w.1 20 3 = nI n) (h : n = 8) : am_D shC d mi_X5_add [.ref 20, .int x, .int y, .int z] w (some (.int 0), w) := by
  refine am_def (by omega) rfl rfl ?_
  iterate 4 refine am_g0 rfl rfl ?_
  refine am_ff (show ¬ (w.1 20 3 : Int32) < 8 from by rw [hn, h]; decide) ?_
  iterate 2 refine am_g0 rfl rfl ?_
  exact ⟨rfl, rfl⟩
theorem d_sadd_t {d n a b c : Nat} {st pe ce : Nat → Nat} {w : am_M} (hd : 1 ≤ d) (hS : cSeen w n st pe ce) (h : n < 8) (ha : a < 30) (hb : b < 8) (hc : c < 36) : ∃ o : am_O, (o.1 = some (.int 1) ∧ (∀ a, a < 20 ∨ 24 ≤ a → o.2.1 a = w.1 a) ∧ o.2.2 = w.2 ∧ cSeen o.2 (n + 1) (up1 st n a) (up1 pe n b) (up1 ce n c)) ∧ am_D shC d mi_X5_add [.ref 20, .int (nI a), .int (nI b), .int (nI c)] w o := by
  obtain ⟨h1, h2, h3⟩ := hS
  refine am_dex (by omega) rfl rfl ?_
  iterate 4 refine am_g0 rfl rfl ?_
  refine am_tt (show (w.1 20 3 : Int32) < 8 from by rw [h1]; exact nI_lt (b := 8) h (by omega)) ?_
  refine am_go rfl ?_
  iterate 4 refine am_g0 rfl rfl ?_
  refine am_gsE (n := 8) (k := n) rfl rfl (h1) (by omega) (by decide) ?_
  refine am_to (lv' := [(0, .ref 20), (1, .int (nI a)), (2, .int (nI b)), (3, .int (nI c))]) (st' := []) (w' := am_pi w 21 n (nI a)) rfl rfl rfl ?_
  iterate 5 refine am_g0 rfl rfl ?_
  refine am_gsE (n := 8) (k := n) rfl rfl (h1) (by omega) (by decide) ?_
  refine am_to (lv' := [(0, .ref 20), (1, .int (nI a)), (2, .int (nI b)), (3, .int (nI c))]) (st' := []) (w' := am_pi (am_pi w 21 n (nI a)) 22 n (nI b)) rfl rfl rfl ?_
  iterate 5 refine am_g0 rfl rfl ?_
  refine am_gsE (n := 8) (k := n) rfl rfl (h1) (by omega) (by decide) ?_
  refine am_to (lv' := [(0, .ref 20), (1, .int (nI a)), (2, .int (nI b)), (3, .int (nI c))]) (st' := []) (w' := am_pi (am_pi (am_pi w 21 n (nI a)) 22 n (nI b)) 23 n (nI c)) rfl rfl rfl ?_
  iterate 5 refine am_g0 rfl rfl ?_
  refine am_top (y := nI (n + 1)) (by show w.1 20 3 + 1 = _; rw [h1, nI_1]) ?_
  iterate 3 refine am_g0 rfl rfl ?_
  refine ⟨rfl, rfl, fun k hk => ?_, rfl, am_pi_at _ _ _ _, by omega, fun i hi => ?_⟩
  · show (am_pi _ _ _ _).1 k = _
    rw [am_pi_row (by omega), am_pi_row (by omega), am_pi_row (by omega), am_pi_row (by omega)]
  · show (am_pi _ 20 3 _).1 21 i = _ ∧ _ ∧ (am_pi _ 20 3 _).1 22 i = _ ∧ _ ∧ (am_pi _ 20 3 _).1 23 i = _ ∧ _
    rw [am_pi_row (show 21 ≠ 20 by omega), am_pi_row (show 21 ≠ 23 by omega), am_pi_row (show 21 ≠ 22 by omega), am_pi_row (show 22 ≠ 20 by omega), am_pi_row (show 22 ≠ 23 by omega), am_pi_row (show 23 ≠ 20 by omega)]
    by_cases z : i = n
    · subst z
      rw [up1_at, up1_at, up1_at, am_pi_at, am_pi_at, am_pi_at]
      exact ⟨rfl, ha, rfl, hb, rfl, hc⟩
    · rw [up1_ne z, up1_ne z, up1_ne z]
      simp only [am_pi_ne (Or.inr z)]
      exact h3 i (by omega)
theorem d_seen {d : Nat} {x y z : Int32} {w : am_M} {S : Sp} (hd : 8 ≤ d) (h : RC w S) : ∃ o : am_O, (o.1 = some (.int (seenS S x y z).1) ∧ RC o.2 (seenS S x y z).2) ∧ am_D shC d mi_X11_seen [.ref 0, .int x, .int y, .int z] w o := by
  rcases dI_or x 30 (by decide) with hx | ⟨a, ha, rfl, hx⟩
  · refine am_dex (by omega) rfl rfl ?_
    iterate 3 refine am_g0 rfl rfl ?_
    refine ⟨(some (.int 0), w), d_isWn shC (n := 30) (by omega) hx, ?_⟩
    refine am_to (lv' := [(0, .ref 0), (1, .int x), (2, .int y), (3, .int z)]) (st' := [.int 0]) (w' := w) rfl rfl rfl ?_
    refine am_g0 rfl rfl ?_
    refine am_go rfl ?_
    refine am_g0 rfl rfl ?_
    exact ⟨rfl, by unfold seenS; rw [hx], by unfold seenS; rw [hx]; exact h⟩
  · rcases dI_or y 8 (by decide) with hy | ⟨b, hb, rfl, hy⟩
    · refine am_dex (by omega) rfl rfl ?_
      iterate 3 refine am_g0 rfl rfl ?_
      refine ⟨(some (.int 1), w), d_isWs shC (n := 30) (by omega) ha (by decide), ?_⟩
      refine am_to (lv' := [(0, .ref 0), (1, .int (nI a)), (2, .int y), (3, .int z)]) (st' := [.int 1]) (w' := w) rfl rfl rfl ?_
      iterate 4 refine am_g0 rfl rfl ?_
      refine ⟨(some (.int 0), w), d_isWn shC (n := 8) (by omega) hy, ?_⟩
      refine am_to (lv' := [(0, .ref 0), (1, .int (nI a)), (2, .int y), (3, .int z)]) (st' := [.int 0]) (w' := w) rfl rfl rfl ?_
      refine am_g0 rfl rfl ?_
      refine am_go rfl ?_
      refine am_g0 rfl rfl ?_
      exact ⟨rfl, by unfold seenS; rw [hx, hy], by unfold seenS; rw [hx, hy]; exact h⟩
    · rcases dI_or z 36 (by decide) with hz | ⟨c, hc, rfl, hz⟩
      · refine am_dex (by omega) rfl rfl ?_
        iterate 3 refine am_g0 rfl rfl ?_
        refine ⟨(some (.int 1), w), d_isWs shC (n := 30) (by omega) ha (by decide), ?_⟩
        refine am_to (lv' := [(0, .ref 0), (1, .int (nI a)), (2, .int (nI b)), (3, .int z)]) (st' := [.int 1]) (w' := w) rfl rfl rfl ?_
        iterate 4 refine am_g0 rfl rfl ?_
        refine ⟨(some (.int 1), w), d_isWs shC (n := 8) (by omega) hb (by decide), ?_⟩
        refine am_to (lv' := [(0, .ref 0), (1, .int (nI a)), (2, .int (nI b)), (3, .int z)]) (st' := [.int 1]) (w' := w) rfl rfl rfl ?_
        iterate 4 refine am_g0 rfl rfl ?_
        refine ⟨(some (.int 0), w), d_isWn shC (n := 36) (by omega) hz, ?_⟩
        refine am_to (lv' := [(0, .ref 0), (1, .int (nI a)), (2, .int (nI b)), (3, .int z)]) (st' := [.int 0]) (w' := w) rfl rfl rfl ?_
        refine am_g0 rfl rfl ?_
        refine am_go rfl ?_
        refine am_g0 rfl rfl ?_
        exact ⟨rfl, by unfold seenS; rw [hx, hy, hz], by unfold seenS; rw [hx, hy, hz]; exact h⟩
      · refine am_dex (by omega) rfl rfl ?_
        iterate 3 refine am_g0 rfl rfl ?_
        refine ⟨(some (.int 1), w), d_isWs shC (n := 30) (by omega) ha (by decide), ?_⟩
        refine am_to (lv' := [(0, .ref 0), (1, .int (nI a)), (2, .int (nI b)), (3, .int (nI c))]) (st' := [.int 1]) (w' := w) rfl rfl rfl ?_
        iterate 4 refine am_g0 rfl rfl ?_
        refine ⟨(some (.int 1), w), d_isWs shC (n := 8) (by omega) hb (by decide), ?_⟩
        refine am_to (lv' := [(0, .ref 0), (1, .int (nI a)), (2, .int (nI b)), (3, .int (nI c))]) (st' := [.int 1]) (w' := w) rfl rfl rfl ?_
        iterate 4 refine am_g0 rfl rfl ?_
        refine ⟨(some (.int 1), w), d_isWs shC (n := 36) (by omega) hc (by decide), ?_⟩
        refine am_to (lv' := [(0, .ref 0), (1, .int (nI a)), (2, .int (nI b)), (3, .int (nI c))]) (st' := [.int 1]) (w' := w) rfl rfl rfl ?_
        refine am_g0 rfl rfl ?_
        refine am_go rfl ?_
        iterate 5 refine am_g0 rfl rfl ?_
        have hs8 := h.1.1.2.2.1.1
        have hse := h.1.2.2.2.2.2.2.1
        by_cases h8 : S.sn = 8
        · refine ⟨(some (.int 0), w), d_sadd_f (by omega) hse.1 h8, ?_⟩
          refine am_to (lv' := [(0, .ref 0), (1, .int (nI a)), (2, .int (nI b)), (3, .int (nI c))]) (st' := [.int 0]) (w' := w) rfl rfl rfl ?_
          refine am_g0 rfl rfl ?_
          refine am_go rfl ?_
          refine am_go rfl ?_
          exact ⟨rfl, by unfold seenS; rw [hx, hy, hz]; dsimp only; rw [if_pos h8], by unfold seenS; rw [hx, hy, hz]; dsimp only; rw [if_pos h8]; exact h⟩
        · obtain ⟨⟨r1, w1⟩, ⟨e1, f1, f2, g1⟩, hD1⟩ := d_sadd_t (d := d - 1) (by omega) hse (by omega) ha hb hc
          dsimp only at e1 f1 f2 g1
          subst e1
          refine ⟨(some (.int 1), w1), hD1, ?_⟩
          refine am_to (lv' := [(0, .ref 0), (1, .int (nI a)), (2, .int (nI b)), (3, .int (nI c))]) (st' := [.int 1]) (w' := w1) rfl rfl rfl ?_
          iterate 5 refine am_g0 rfl rfl ?_
          refine am_go rfl ?_
          have hS : seenS S (nI a) (nI b) (nI c) = (nI (S.sn + 1), S.setS (S.sn + 1) (up1 S.st S.sn a) (up1 S.pe S.sn b) (up1 S.ce S.sn c)) := by unfold seenS; rw [hx, hy, hz]; dsimp only; rw [if_neg h8]
          rw [hS, g1.1]
          exact ⟨rfl, rfl, RC_setS h f1 f2 g1⟩
theorem d_forget {d : Nat} {w : am_M} {S : Sp} (hd : 8 ≤ d) (h : RC w S) : ∃ o : am_O, (o.1 = some (.int (forgetS S).1) ∧ RC o.2 (forgetS S).2) ∧ am_D shC d mi_X11_forget [.ref 0] w o := by
  have hse := h.1.2.2.2.2.2.2.1
  refine am_dex (by omega) rfl rfl ?_
  iterate 10 refine am_g0 rfl rfl ?_
  rw [hse.1]
  exact ⟨rfl, rfl, RC_setS h (fun a ha => am_pi_row (by omega)) rfl ⟨am_pi_at _ _ _ _, by omega, fun i hi => absurd hi (Nat.not_lt_zero i)⟩⟩
def countA (S : Sp) (k : Nat) : Int32 := if k = 0 then nI S.V.1 else if k = 1 then nI S.m else if k = 2 then nI S.q else if k < 6 then nI (S.tl (k - 3)) else if k = 6 then nI S.rn else if k = 7 then nI S.sn else S.fn
def countS (S : Sp) (x : Int32) : Int32 := match dI x 9 with
  | some k => countA S k
  | none => -2
theorem d_count {d : Nat} {x : Int32} {w : am_M} {S : Sp} (hd : 2 ≤ d) (h : RC w S) : am_D shC d mi_X11_count [.ref 0, .int x] w (some (.int (countS S x)), w) := by
  obtain ⟨h1, h2, h3, h4, h5, h6, h7, h8, h9⟩ := h.1
  rcases dI_or x 9 (by decide) with hx | ⟨k, hk, rfl, hx⟩
  · refine am_def (by omega) rfl rfl ?_
    iterate 2 refine am_g0 rfl rfl ?_
    refine ⟨109, Or.inl ⟨?_, rfl⟩, ?_⟩
    · rcases dI_fi hx with z | z
      · exact Or.inl (by rw [Int32.lt_iff_toInt_lt] at z; exact z)
      · right
        rw [Int32.le_iff_toInt_le, nI_toInt (by omega)] at z
        omega
    · refine am_go rfl ?_
      refine am_g0 rfl rfl ?_
      exact ⟨rfl, by unfold countS; rw [hx]⟩
  · have hS : countS S (nI k) = countA S k := by unfold countS; rw [hx]
    rw [hS]
    match k, hk with
    | 0, _ =>
      refine am_def (by omega) rfl rfl ?_
      iterate 2 refine am_g0 rfl rfl ?_
      refine ⟨52, Or.inr ⟨by decide, by decide, 51, rfl, rfl⟩, ?_⟩
      iterate 4 refine am_g0 rfl rfl ?_
      exact ⟨rfl, by rw [show w.1 9 2 = nI S.V.1 from h3.1.1]; rfl⟩
    | 1, _ =>
      refine am_def (by omega) rfl rfl ?_
      iterate 2 refine am_g0 rfl rfl ?_
      refine ⟨60, Or.inr ⟨by decide, by decide, 59, rfl, rfl⟩, ?_⟩
      refine am_go rfl ?_
      iterate 3 refine am_g0 rfl rfl ?_
      exact ⟨rfl, by rw [show w.1 12 3 = nI S.m from h4.1.1]; rfl⟩
    | 2, _ =>
      refine am_def (by omega) rfl rfl ?_
      iterate 2 refine am_g0 rfl rfl ?_
      refine ⟨68, Or.inr ⟨by decide, by decide, 67, rfl, rfl⟩, ?_⟩
      refine am_go rfl ?_
      iterate 3 refine am_g0 rfl rfl ?_
      exact ⟨rfl, by rw [show w.1 16 1 = nI S.q from h5.1.1]; rfl⟩
    | 3, _ =>
      refine am_def (by omega) rfl rfl ?_
      iterate 2 refine am_g0 rfl rfl ?_
      refine ⟨76, Or.inr ⟨by decide, by decide, 75, rfl, rfl⟩, ?_⟩
      refine am_go rfl ?_
      iterate 7 refine am_g0 rfl rfl ?_
      exact ⟨rfl, by rw [show w.1 2 2 = nI (S.tl 0) from (h2 0 (by omega)).1.1]; rfl⟩
    | 4, _ =>
      refine am_def (by omega) rfl rfl ?_
      iterate 2 refine am_g0 rfl rfl ?_
      refine ⟨76, Or.inr ⟨by decide, by decide, 75, rfl, rfl⟩, ?_⟩
      refine am_go rfl ?_
      iterate 7 refine am_g0 rfl rfl ?_
      exact ⟨rfl, by rw [show w.1 3 2 = nI (S.tl 1) from (h2 1 (by omega)).1.1]; rfl⟩
    | 5, _ =>
      refine am_def (by omega) rfl rfl ?_
      iterate 2 refine am_g0 rfl rfl ?_
      refine ⟨76, Or.inr ⟨by decide, by decide, 75, rfl, rfl⟩, ?_⟩
      refine am_go rfl ?_
      iterate 7 refine am_g0 rfl rfl ?_
      exact ⟨rfl, by rw [show w.1 4 2 = nI (S.tl 2) from (h2 2 (by omega)).1.1]; rfl⟩
    | 6, _ =>
      refine am_def (by omega) rfl rfl ?_
      iterate 2 refine am_g0 rfl rfl ?_
      refine ⟨88, Or.inr ⟨by decide, by decide, 87, rfl, rfl⟩, ?_⟩
      refine am_go rfl ?_
      iterate 3 refine am_g0 rfl rfl ?_
      exact ⟨rfl, by rw [h6.1]; rfl⟩
    | 7, _ =>
      refine am_def (by omega) rfl rfl ?_
      iterate 2 refine am_g0 rfl rfl ?_
      refine ⟨96, Or.inr ⟨by decide, by decide, 95, rfl, rfl⟩, ?_⟩
      refine am_go rfl ?_
      iterate 3 refine am_g0 rfl rfl ?_
      exact ⟨rfl, by rw [h7.1]; rfl⟩
    | 8, _ =>
      refine am_def (by omega) rfl rfl ?_
      iterate 2 refine am_g0 rfl rfl ?_
      refine ⟨104, Or.inr ⟨by decide, by decide, 103, rfl, rfl⟩, ?_⟩
      refine am_go rfl ?_
      iterate 2 refine am_g0 rfl rfl ?_
      exact ⟨rfl, by rw [h9]; rfl⟩
/-! the traces -/
theorem wetN_congr {rs : Nat → Nat} {e1 e2 : Nat → Bool} : ∀ {n : Nat}, (∀ i, i < n → e1 i = e2 i) → ∀ s, wetN rs e1 n s = wetN rs e2 n s
  | 0, _, _ => rfl
  | n + 1, h, s => by rw [wetN, wetN, wetN_congr (fun i hi => h i (by omega)) s, h n (by omega)]
theorem nI_m1 {i : Nat} (h : i < 2 ^ 31) : ¬ nI i = -1 := fun z => absurd (nI_pos' h) (by rw [z]; decide)
theorem RC.wetx {w : am_M} {S : Sp} (h : RC w S) (a b : Int32) : ∀ s, s < 30 → wetB (wetF (w.1 19) a b S.rn) s = wetN S.rs (exI a b) S.rn s := wet_eq a b (fun i hi => ⟨h.1.2.2.2.2.2.1.2 i hi, h.1.1.2.1.2 i hi⟩)
theorem RC.wet {w : am_M} {S : Sp} (h : RC w S) (s : Nat) (hs : s < 30) : wetB (wetF (w.1 19) (-1) (-1) S.rn) s = wet0 S s := by
  rw [h.wetx (-1) (-1) s hs]
  have := h.1.1.2.1.1
  exact wetN_congr (fun i hi => by unfold exI; rw [decide_eq_false (nI_m1 (by omega))]; rfl) s
theorem d_retr {d : Nat} {w : am_M} {S : Sp} (hd : 4 ≤ d) (h : RC w S) : ∃ o : am_O, (o.1 = none ∧ RC o.2 S ∧ (∀ p, p < S.q → trOK o.2 (34 + p) (42 + p) S.V (prS S.pf p) (wet0 S)) ∧ ∀ a, 0 < a → a < 34 → o.2.1 a = w.1 a) ∧ am_D shC d mi_X11_retrace [.ref 0] w o := by
  by_cases h0 : w.1 0 17 = 0
  · exact ⟨(none, w), ⟨rfl, h, h.2.1 h0, fun _ _ _ => rfl⟩, d_retrace_f (by omega) h0⟩
  · obtain ⟨⟨r1, w1⟩, ⟨e1, f1, f2, f3, g1⟩, hD⟩ := d_retrace_t (d := d) hd h0 h.1.V h.1.P h.1.2.2.2.2.2.1.1 h.1.1.2.1.1
    dsimp only at e1 f1 f2 f3 g1
    subst e1
    have g2 : ∀ p, p < S.q → trOK w1 (34 + p) (42 + p) S.V (prS S.pf p) (wet0 S) := fun p hp => (g1 p hp).congr h.wet
    have e : ∀ a, ¬ isWr a → a ≠ 0 → w1.1 a = w.1 a := fun a ha h0 => funext fun b => f1 a ha b (fun z => h0 z.1)
    have e0 : ∀ b, b ≠ 17 → w1.1 0 b = w.1 0 b := fun b hb => f1 0 (by unfold isWr; omega) b (fun z => hb z.2)
    refine ⟨(none, w1), ⟨rfl, ⟨h.1.fr (fun a h1 h2 => e a (by unfold isWr; omega) (by omega)) (e0 16 (by omega)), fun _ => g2, h.2.2.1.fr (e 69 (by unfold isWr; omega) (by omega)) (e0 18 (by omega)), h.2.2.2.1.fr (e 70 (by unfold isWr; omega) (by omega)) (e0 19 (by omega)), h.2.2.2.2.fr (e 53 (by unfold isWr; omega) (by omega)) (by rw [f3])⟩, g2, fun a h1 h2 => e a (by unfold isWr; omega) (by omega)⟩, hD⟩
theorem RC.q8 {w : am_M} {S : Sp} (h : RC w S) : S.q ≤ 8 := h.1.P.2.1
def atS (S : Sp) (x y z : Int32) : Int32 := match dI x 30, dI y S.q, dI z 4 with
  | some s, some p, some j => rowI S.V (prS S.pf p) (wet0 S) s j
  | _, _, _ => -2
theorem d_at {d : Nat} {x y z : Int32} {w : am_M} {S : Sp} (hd : 8 ≤ d) (h : RC w S) : ∃ o : am_O, (o.1 = some (.int (atS S x y z)) ∧ RC o.2 S) ∧ am_D shC d mi_X11_at [.ref 0, .int x, .int y, .int z] w o := by
  have hq := h.q8
  rcases dI_or x 30 (by decide) with hx | ⟨a, ha, rfl, hx⟩
  · refine am_dex (by omega) rfl rfl ?_
    iterate 3 refine am_g0 rfl rfl ?_
    refine ⟨(some (.int 0), w), d_isWn shC (n := 30) (by omega) hx, ?_⟩
    refine am_to (lv' := [(0, .ref 0), (1, .int x), (2, .int y), (3, .int z)]) (st' := [.int 0]) (w' := w) rfl rfl rfl ?_
    refine am_g0 rfl rfl ?_
    refine am_go rfl ?_
    refine am_g0 rfl rfl ?_
    exact ⟨rfl, by unfold atS; rw [hx], h⟩
  · rcases dI_or y S.q (by omega) with hy | ⟨p, hp, rfl, hy⟩
    · refine am_dex (by omega) rfl rfl ?_
      iterate 3 refine am_g0 rfl rfl ?_
      refine ⟨(some (.int 1), w), d_isWs shC (n := 30) (by omega) ha (by decide), ?_⟩
      refine am_to (lv' := [(0, .ref 0), (1, .int (nI a)), (2, .int y), (3, .int z)]) (st' := [.int 1]) (w' := w) rfl rfl rfl ?_
      iterate 5 refine am_g0 rfl rfl ?_
      refine am_top (y := nI S.q) (h.1.P.1) ?_
      refine am_g0 rfl rfl ?_
      refine ⟨(some (.int 0), w), d_isWn shC (by omega) hy, ?_⟩
      refine am_to (lv' := [(0, .ref 0), (1, .int (nI a)), (2, .int y), (3, .int z)]) (st' := [.int 0]) (w' := w) rfl rfl rfl ?_
      refine am_g0 rfl rfl ?_
      refine am_go rfl ?_
      refine am_g0 rfl rfl ?_
      exact ⟨rfl, by unfold atS; rw [hx, hy], h⟩
    · rcases dI_or z 4 (by decide) with hz | ⟨j, hj, rfl, hz⟩
      · refine am_dex (by omega) rfl rfl ?_
        iterate 3 refine am_g0 rfl rfl ?_
        refine ⟨(some (.int 1), w), d_isWs shC (n := 30) (by omega) ha (by decide), ?_⟩
        refine am_to (lv' := [(0, .ref 0), (1, .int (nI a)), (2, .int (nI p)), (3, .int z)]) (st' := [.int 1]) (w' := w) rfl rfl rfl ?_
        iterate 5 refine am_g0 rfl rfl ?_
        refine am_top (y := nI S.q) (h.1.P.1) ?_
        refine am_g0 rfl rfl ?_
        refine ⟨(some (.int 1), w), d_isWs shC (by omega) hp (by omega), ?_⟩
        refine am_to (lv' := [(0, .ref 0), (1, .int (nI a)), (2, .int (nI p)), (3, .int z)]) (st' := [.int 1]) (w' := w) rfl rfl rfl ?_
        iterate 4 refine am_g0 rfl rfl ?_
        refine ⟨(some (.int 0), w), d_isWn shC (n := 4) (by omega) hz, ?_⟩
        refine am_to (lv' := [(0, .ref 0), (1, .int (nI a)), (2, .int (nI p)), (3, .int z)]) (st' := [.int 0]) (w' := w) rfl rfl rfl ?_
        refine am_g0 rfl rfl ?_
        refine am_go rfl ?_
        refine am_g0 rfl rfl ?_
        exact ⟨rfl, by unfold atS; rw [hx, hy, hz], h⟩
      · obtain ⟨t1, t2, t3, t4⟩ := sh_Tr p (by omega)
        refine am_dex (by omega) rfl rfl ?_
        iterate 3 refine am_g0 rfl rfl ?_
        refine ⟨(some (.int 1), w), d_isWs shC (n := 30) (by omega) ha (by decide), ?_⟩
        refine am_to (lv' := [(0, .ref 0), (1, .int (nI a)), (2, .int (nI p)), (3, .int (nI j))]) (st' := [.int 1]) (w' := w) rfl rfl rfl ?_
        iterate 5 refine am_g0 rfl rfl ?_
        refine am_top (y := nI S.q) (h.1.P.1) ?_
        refine am_g0 rfl rfl ?_
        refine ⟨(some (.int 1), w), d_isWs shC (by omega) hp (by omega), ?_⟩
        refine am_to (lv' := [(0, .ref 0), (1, .int (nI a)), (2, .int (nI p)), (3, .int (nI j))]) (st' := [.int 1]) (w' := w) rfl rfl rfl ?_
        iterate 4 refine am_g0 rfl rfl ?_
        refine ⟨(some (.int 1), w), d_isWs shC (n := 4) (by omega) hj (by decide), ?_⟩
        refine am_to (lv' := [(0, .ref 0), (1, .int (nI a)), (2, .int (nI p)), (3, .int (nI j))]) (st' := [.int 1]) (w' := w) rfl rfl rfl ?_
        refine am_g0 rfl rfl ?_
        refine am_go rfl ?_
        refine am_g0 rfl rfl ?_
        obtain ⟨⟨r1, w1⟩, ⟨e1, g1, g2, g3⟩, hD1⟩ := d_retr (d := d - 1) (by omega) h
        dsimp only at e1 g1 g2 g3
        subst e1
        refine ⟨(none, w1), hD1, ?_⟩
        refine am_to (lv' := [(0, .ref 0), (1, .int (nI a)), (2, .int (nI p)), (3, .int (nI j))]) (st' := []) (w' := w1) rfl rfl rfl ?_
        iterate 4 refine am_g0 rfl rfl ?_
        refine am_ff (show ¬ nI p < 0 from nI_pos (by omega)) (am_oi (a := 34 + p) (by rw [nI_clamp (by omega)]; exact t4) ?_)
        iterate 3 refine am_g0 rfl rfl ?_
        refine am_ys (show (true && (true && am_isb shC (34 + p) 9)) = true by rw [t1]; rfl) ?_
        refine ⟨(some (.int (w1.1 (42 + p) (j * 30 + a))), w1), d_ttold (V := S.V) (P := prS S.pf p) (wet := wet0 S) (by omega) t1 t2 t3 ha hj, ?_⟩
        refine am_to (lv' := [(0, .ref 0), (1, .int (nI a)), (2, .int (nI p)), (3, .int (nI j))]) (st' := [.int (w1.1 (42 + p) (j * 30 + a))]) (w' := w1) rfl rfl rfl ?_
        refine am_g0 rfl rfl ?_
        exact ⟨rfl, by unfold atS; rw [hx, hy, hz, (g2 p hp).row ha hj], g1⟩
def endsA (S : Sp) (p k : Nat) : Int32 := if fin S.V (prS S.pf p) (wet0 S) = k + 1 then opI (endS S.V (prS S.pf p) (wet0 S) 30) else -1
def endsS (S : Sp) (x y : Int32) : Int32 := match dI x S.q, dI y 2 with
  | some p, some k => endsA S p k
  | _, _ => -2
theorem d_endK {d k : Nat} {w : am_M} (hd : 1 ≤ d) (hk : k < 2) : am_D shC d mi_X11_endState [.int (nI k)] w (some (.int (nI (k + 1))), w) := by
  have := d_endState (x := nI k) (w := w) hd
  match k, hk with
  | 0, _ => exact this
  | 1, _ => exact this
theorem qlt {w : am_M} {S : Sp} (h : RC w S) {p : Nat} (hp : p < S.q) (wet : Nat → Bool) (k : Nat) : (lifeQ S.V (prS S.pf p) wet k).2.1 < 4 := (qok_life wet h.1.V.good (h.1.P.ok hp) k).1
theorem d_ends {d : Nat} {x y : Int32} {w : am_M} {S : Sp} (hd : 8 ≤ d) (h : RC w S) : ∃ o : am_O, (o.1 = some (.int (endsS S x y)) ∧ RC o.2 S) ∧ am_D shC d mi_X11_ends [.ref 0, .int x, .int y] w o := by
  have hq := h.q8
  rcases dI_or x S.q (by omega) with hx | ⟨p, hp, rfl, hx⟩
  · refine am_dex (by omega) rfl rfl ?_
    iterate 4 refine am_g0 rfl rfl ?_
    refine am_top (y := nI S.q) (h.1.P.1) ?_
    refine am_g0 rfl rfl ?_
    refine ⟨(some (.int 0), w), d_isWn shC (by omega) hx, ?_⟩
    refine am_to (lv' := [(0, .ref 0), (1, .int x), (2, .int y)]) (st' := [.int 0]) (w' := w) rfl rfl rfl ?_
    refine am_g0 rfl rfl ?_
    refine am_go rfl ?_
    refine am_g0 rfl rfl ?_
    exact ⟨rfl, by unfold endsS; rw [hx], h⟩
  · rcases dI_or y 2 (by decide) with hy | ⟨k, hk, rfl, hy⟩
    · refine am_dex (by omega) rfl rfl ?_
      iterate 4 refine am_g0 rfl rfl ?_
      refine am_top (y := nI S.q) (h.1.P.1) ?_
      refine am_g0 rfl rfl ?_
      refine ⟨(some (.int 1), w), d_isWs shC (by omega) hp (by omega), ?_⟩
      refine am_to (lv' := [(0, .ref 0), (1, .int (nI p)), (2, .int y)]) (st' := [.int 1]) (w' := w) rfl rfl rfl ?_
      iterate 4 refine am_g0 rfl rfl ?_
      refine ⟨(some (.int 0), w), d_isWn shC (n := 2) (by omega) hy, ?_⟩
      refine am_to (lv' := [(0, .ref 0), (1, .int (nI p)), (2, .int y)]) (st' := [.int 0]) (w' := w) rfl rfl rfl ?_
      refine am_g0 rfl rfl ?_
      refine am_go rfl ?_
      refine am_g0 rfl rfl ?_
      exact ⟨rfl, by unfold endsS; rw [hx, hy], h⟩
    · obtain ⟨t1, t2, t3, t4⟩ := sh_Tr p (by omega)
      refine am_dex (by omega) rfl rfl ?_
      iterate 4 refine am_g0 rfl rfl ?_
      refine am_top (y := nI S.q) (h.1.P.1) ?_
      refine am_g0 rfl rfl ?_
      refine ⟨(some (.int 1), w), d_isWs shC (by omega) hp (by omega), ?_⟩
      refine am_to (lv' := [(0, .ref 0), (1, .int (nI p)), (2, .int (nI k))]) (st' := [.int 1]) (w' := w) rfl rfl rfl ?_
      iterate 4 refine am_g0 rfl rfl ?_
      refine ⟨(some (.int 1), w), d_isWs shC (n := 2) (by omega) hk (by decide), ?_⟩
      refine am_to (lv' := [(0, .ref 0), (1, .int (nI p)), (2, .int (nI k))]) (st' := [.int 1]) (w' := w) rfl rfl rfl ?_
      refine am_g0 rfl rfl ?_
      refine am_go rfl ?_
      refine am_g0 rfl rfl ?_
      obtain ⟨⟨r1, w1⟩, ⟨e1, g1, g2, g3⟩, hD1⟩ := d_retr (d := d - 1) (by omega) h
      dsimp only at e1 g1 g2 g3
      subst e1
      refine ⟨(none, w1), hD1, ?_⟩
      refine am_to (lv' := [(0, .ref 0), (1, .int (nI p)), (2, .int (nI k))]) (st' := []) (w' := w1) rfl rfl rfl ?_
      iterate 4 refine am_g0 rfl rfl ?_
      refine am_ff (show ¬ nI p < 0 from nI_pos (by omega)) (am_oi (a := 34 + p) (by rw [nI_clamp (by omega)]; exact t4) ?_)
      iterate 3 refine am_g0 rfl rfl ?_
      refine am_ys t1 ?_
      iterate 2 refine am_g0 rfl rfl ?_
      refine ⟨(some (.int (nI (k + 1))), w1), d_endK (by omega) hk, ?_⟩
      refine am_to (lv' := [(0, .ref 0), (1, .int (nI p)), (2, .int (nI k)), (3, .ref (34 + p))]) (st' := [.int (nI (k + 1)), .int (w1.1 (34 + p) 1)]) (w' := w1) rfl rfl rfl ?_
      refine am_g0 rfl rfl ?_
      have hst : w1.1 (34 + p) 1 = nI (fin S.V (prS S.pf p) (wet0 S)) := (g2 p hp).2.1
      have hlt : fin S.V (prS S.pf p) (wet0 S) < 4 := qlt h hp _ 30
      by_cases hf : fin S.V (prS S.pf p) (wet0 S) = k + 1
      · refine am_tt (show (w1.1 (34 + p) 1 : Int32) = (nI (k + 1)) from by rw [hst, hf]) ?_
        iterate 2 refine am_g0 rfl rfl ?_
        refine am_ys t1 ?_
        refine am_g0 rfl rfl ?_
        refine am_go rfl ?_
        exact ⟨rfl, by unfold endsS; rw [hx, hy]; dsimp only; unfold endsA; rw [if_pos hf, (g2 p hp).2.2], g1⟩
      · refine am_ff (show ¬ (w1.1 (34 + p) 1 : Int32) = (nI (k + 1)) from by rw [hst]; exact nne hf (by omega) (by omega)) ?_
        refine am_go rfl ?_
        refine am_go rfl ?_
        exact ⟨rfl, by unfold endsS; rw [hx, hy]; dsimp only; unfold endsA; rw [if_neg hf], g1⟩
def whoA (S : Sp) (wet : Nat → Bool) (k : Nat) : Int32 := bitsS (fun p => decide (fin S.V (prS S.pf p) wet = k + 1)) S.q
def whoS (S : Sp) (x : Int32) : Int32 := match dI x 2 with
  | some k => whoA S (wet0 S) k
  | none => -2
theorem d_who {d : Nat} {x : Int32} {w : am_M} {S : Sp} (hd : 8 ≤ d) (h : RC w S) : ∃ o : am_O, (o.1 = some (.int (whoS S x)) ∧ RC o.2 S) ∧ am_D shC d mi_X11_who [.ref 0, .int x] w o := by
  have hq := h.q8
  rcases dI_or x 2 (by decide) with hx | ⟨k, hk, rfl, hx⟩
  · refine am_dex (by omega) rfl rfl ?_
    iterate 3 refine am_g0 rfl rfl ?_
    refine ⟨(some (.int 0), w), d_isWn shC (n := 2) (by omega) hx, ?_⟩
    refine am_to (lv' := [(0, .ref 0), (1, .int x)]) (st' := [.int 0]) (w' := w) rfl rfl rfl ?_
    iterate 3 refine am_g0 rfl rfl ?_
    exact ⟨rfl, by unfold whoS; rw [hx], h⟩
  · refine am_dex (by omega) rfl rfl ?_
    iterate 3 refine am_g0 rfl rfl ?_
    refine ⟨(some (.int 1), w), d_isWs shC (n := 2) (by omega) hk (by decide), ?_⟩
    refine am_to (lv' := [(0, .ref 0), (1, .int (nI k))]) (st' := [.int 1]) (w' := w) rfl rfl rfl ?_
    refine am_g0 rfl rfl ?_
    refine am_go rfl ?_
    refine am_g0 rfl rfl ?_
    obtain ⟨⟨r1, w1⟩, ⟨e1, g1, g2, g3⟩, hD1⟩ := d_retr (d := d - 1) (by omega) h
    dsimp only at e1 g1 g2 g3
    subst e1
    refine ⟨(none, w1), hD1, ?_⟩
    refine am_to (lv' := [(0, .ref 0), (1, .int (nI k))]) (st' := []) (w' := w1) rfl rfl rfl ?_
    iterate 4 refine am_g0 rfl rfl ?_
    have hS : whoS S (nI k) = whoA S (wet0 S) k := by unfold whoS; rw [hx]
    rw [hS]
    have key : ∀ j i : Nat, i + j = S.q → am_R shC mi_X11_who (am_D shC (d - 1)) (fun o => o.1 = some (.int (whoA S (wet0 S) k)) ∧ RC o.2 S) 19 [(0, .ref 0), (1, .int (nI k)), (2, .int (bitsS (fun p => decide (fin S.V (prS S.pf p) (wet0 S) = k + 1)) i)), (3, .int (nI i))] [] w1 := by
      intro j
      induction j with
      | zero =>
        intro i hi
        refine am_go rfl ?_
        iterate 4 refine am_g0 rfl rfl ?_
        refine am_tt (show (w1.1 16 1 : Int32) ≤ (nI i) from by rw [g1.1.P.1]; exact nI_le (by omega) (by omega)) ?_
        refine am_go rfl ?_
        refine am_g0 rfl rfl ?_
        exact ⟨rfl, by unfold whoA; rw [show S.q = i by omega], g1⟩
      | succ j ih =>
        intro i hi
        obtain ⟨t1, t2, t3, t4⟩ := sh_Tr i (by omega)
        refine am_go rfl ?_
        iterate 4 refine am_g0 rfl rfl ?_
        refine am_ff (show ¬ (w1.1 16 1 : Int32) ≤ (nI i) from by rw [g1.1.P.1]; exact nI_ge (by omega) (by omega)) ?_
        iterate 4 refine am_g0 rfl rfl ?_
        refine am_ff (show ¬ nI i < 0 from nI_pos (by omega)) (am_oi (a := 34 + i) (by rw [nI_clamp (by omega)]; exact t4) ?_)
        refine am_g0 rfl rfl ?_
        refine am_ys t1 ?_
        iterate 2 refine am_g0 rfl rfl ?_
        refine ⟨(some (.int (nI (k + 1))), w1), d_endK (by omega) hk, ?_⟩
        refine am_to (lv' := [(0, .ref 0), (1, .int (nI k)), (2, .int (bitsS (fun p => decide (fin S.V (prS S.pf p) (wet0 S) = k + 1)) i)), (3, .int (nI i))]) (st' := [.int (nI (k + 1)), .int (w1.1 (34 + i) 1)]) (w' := w1) rfl rfl rfl ?_
        refine am_g0 rfl rfl ?_
        have hst : w1.1 (34 + i) 1 = nI (fin S.V (prS S.pf i) (wet0 S)) := (g2 i (by omega)).2.1
        have hlt : fin S.V (prS S.pf i) (wet0 S) < 4 := qlt h (by omega) _ 30
        by_cases hf : fin S.V (prS S.pf i) (wet0 S) = k + 1
        · refine am_tt (show (w1.1 (34 + i) 1 : Int32) = (nI (k + 1)) from by rw [hst, hf]) ?_
          iterate 6 refine am_g0 rfl rfl ?_
          refine am_go rfl ?_
          refine am_g0 rfl rfl ?_
          have this := ih (i + 1) (by omega)
          rw [bitsS, if_pos (decide_eq_true hf), ← nI_1] at this
          exact am_kl this rfl
        · refine am_ff (show ¬ (w1.1 (34 + i) 1 : Int32) = (nI (k + 1)) from by rw [hst]; exact nne hf (by omega) (by omega)) ?_
          refine am_go rfl ?_
          refine am_g0 rfl rfl ?_
          have this := ih (i + 1) (by omega)
          rw [bitsS, if_neg (by rw [decide_eq_false hf]; decide), ← nI_1] at this
          exact am_kl this rfl
    exact am_kl (key S.q 0 (by omega)) rfl
end
