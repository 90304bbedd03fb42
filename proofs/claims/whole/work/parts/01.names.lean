-- ===== PART A: goes FIRST, ahead of the names: the tables' words, and 'selects' of the private methods out of them =====
/-- a private method of a class that the tables say can be made, by its rows of tables_1 -/
def lw_okq (q : MethodName × Nat) : Prop := (q.1.cls ≠ "java/lang/invoke/MethodHandle" ∧ q.1.cls ≠ "java/lang/invoke/VarHandle") ∧ Cond.instantiable q.1.cls q.2 ∈ tables_1 ∧ Cond.privateMethod q.1 ∈ tables_1 ∧ Cond.instanceMethod q.1 ∈ tables_1
theorem lw_p0 : lw_okq (⟨"TollsThatPay$Reader", "readItem", "(LTollsThatPay$Land;)V"⟩, 5) := ⟨⟨by decide +kernel, by decide +kernel⟩, List.mem_of_getElem? (i := 30) (by decide +kernel), List.mem_of_getElem? (i := 483) (by decide +kernel), List.mem_of_getElem? (i := 484) (by decide +kernel)⟩
theorem lw_p1 : lw_okq (⟨"TollsThatPay$Reader", "eat", "(I)Z"⟩, 5) := ⟨⟨by decide +kernel, by decide +kernel⟩, List.mem_of_getElem? (i := 30) (by decide +kernel), List.mem_of_getElem? (i := 487) (by decide +kernel), List.mem_of_getElem? (i := 488) (by decide +kernel)⟩
theorem lw_p2 : lw_okq (⟨"TollsThatPay$Reader", "next", "()I"⟩, 5) := ⟨⟨by decide +kernel, by decide +kernel⟩, List.mem_of_getElem? (i := 30) (by decide +kernel), List.mem_of_getElem? (i := 491) (by decide +kernel), List.mem_of_getElem? (i := 492) (by decide +kernel)⟩
theorem lw_p3 : lw_okq (⟨"TollsThatPay$Reader", "readRoad", "(LTollsThatPay$Land;I)V"⟩, 5) := ⟨⟨by decide +kernel, by decide +kernel⟩, List.mem_of_getElem? (i := 30) (by decide +kernel), List.mem_of_getElem? (i := 495) (by decide +kernel), List.mem_of_getElem? (i := 496) (by decide +kernel)⟩
theorem lw_p4 : lw_okq (⟨"TollsThatPay$Reader", "corner", "(I)I"⟩, 5) := ⟨⟨by decide +kernel, by decide +kernel⟩, List.mem_of_getElem? (i := 30) (by decide +kernel), List.mem_of_getElem? (i := 499) (by decide +kernel), List.mem_of_getElem? (i := 500) (by decide +kernel)⟩
theorem lw_p5 : lw_okq (⟨"TollsThatPay$Reader", "numeral", "(II)I"⟩, 5) := ⟨⟨by decide +kernel, by decide +kernel⟩, List.mem_of_getElem? (i := 30) (by decide +kernel), List.mem_of_getElem? (i := 503) (by decide +kernel), List.mem_of_getElem? (i := 504) (by decide +kernel)⟩
theorem lw_p6 : lw_okq (⟨"TollsThatPay$Reader", "digit", "(II)I"⟩, 5) := ⟨⟨by decide +kernel, by decide +kernel⟩, List.mem_of_getElem? (i := 30) (by decide +kernel), List.mem_of_getElem? (i := 507) (by decide +kernel), List.mem_of_getElem? (i := 508) (by decide +kernel)⟩
theorem lw_p7 : lw_okq (⟨"TollsThatPay$Reader", "readJourney", "(LTollsThatPay$Land;)V"⟩, 5) := ⟨⟨by decide +kernel, by decide +kernel⟩, List.mem_of_getElem? (i := 30) (by decide +kernel), List.mem_of_getElem? (i := 515) (by decide +kernel), List.mem_of_getElem? (i := 516) (by decide +kernel)⟩
theorem lw_p8 : lw_okq (⟨"TollsThatPay$Reader", "want", "(I)V"⟩, 5) := ⟨⟨by decide +kernel, by decide +kernel⟩, List.mem_of_getElem? (i := 30) (by decide +kernel), List.mem_of_getElem? (i := 519) (by decide +kernel), List.mem_of_getElem? (i := 520) (by decide +kernel)⟩
theorem lw_p9 : lw_okq (⟨"TollsThatPay$Goers", "enter", "(I)V"⟩, 13) := ⟨⟨by decide +kernel, by decide +kernel⟩, List.mem_of_getElem? (i := 188) (by decide +kernel), List.mem_of_getElem? (i := 553) (by decide +kernel), List.mem_of_getElem? (i := 554) (by decide +kernel)⟩
theorem lw_p10 : lw_okq (⟨"TollsThatPay$Goers", "arrive", "(LTollsThatPay$Trip;I)V"⟩, 13) := ⟨⟨by decide +kernel, by decide +kernel⟩, List.mem_of_getElem? (i := 188) (by decide +kernel), List.mem_of_getElem? (i := 593) (by decide +kernel), List.mem_of_getElem? (i := 594) (by decide +kernel)⟩
theorem lw_p11 : lw_okq (⟨"TollsThatPay$Goers", "offer", "(IIII)V"⟩, 13) := ⟨⟨by decide +kernel, by decide +kernel⟩, List.mem_of_getElem? (i := 188) (by decide +kernel), List.mem_of_getElem? (i := 597) (by decide +kernel), List.mem_of_getElem? (i := 598) (by decide +kernel)⟩
theorem lw_p12 : lw_okq (⟨"TollsThatPay$Goers", "settle", "(III)V"⟩, 13) := ⟨⟨by decide +kernel, by decide +kernel⟩, List.mem_of_getElem? (i := 188) (by decide +kernel), List.mem_of_getElem? (i := 650) (by decide +kernel), List.mem_of_getElem? (i := 651) (by decide +kernel)⟩
theorem lw_p13 : lw_okq (⟨"TollsThatPay$Goers", "isBeaten", "(III)Z"⟩, 13) := ⟨⟨by decide +kernel, by decide +kernel⟩, List.mem_of_getElem? (i := 188) (by decide +kernel), List.mem_of_getElem? (i := 654) (by decide +kernel), List.mem_of_getElem? (i := 655) (by decide +kernel)⟩
theorem lw_p14 : lw_okq (⟨"TollsThatPay$Goers", "insert", "(II)V"⟩, 13) := ⟨⟨by decide +kernel, by decide +kernel⟩, List.mem_of_getElem? (i := 188) (by decide +kernel), List.mem_of_getElem? (i := 664) (by decide +kernel), List.mem_of_getElem? (i := 665) (by decide +kernel)⟩
theorem lw_p15 : lw_okq (⟨"TollsThatPay", "openNow", "()V"⟩, 10) := ⟨⟨by decide +kernel, by decide +kernel⟩, List.mem_of_getElem? (i := 22) (by decide +kernel), List.mem_of_getElem? (i := 686) (by decide +kernel), List.mem_of_getElem? (i := 687) (by decide +kernel)⟩
def lw_privs_1 : List (MethodName × Nat) := [(⟨"TollsThatPay$Reader", "readItem", "(LTollsThatPay$Land;)V"⟩, 5), (⟨"TollsThatPay$Reader", "eat", "(I)Z"⟩, 5), (⟨"TollsThatPay$Reader", "next", "()I"⟩, 5), (⟨"TollsThatPay$Reader", "readRoad", "(LTollsThatPay$Land;I)V"⟩, 5), (⟨"TollsThatPay$Reader", "corner", "(I)I"⟩, 5), (⟨"TollsThatPay$Reader", "numeral", "(II)I"⟩, 5), (⟨"TollsThatPay$Reader", "digit", "(II)I"⟩, 5), (⟨"TollsThatPay$Reader", "readJourney", "(LTollsThatPay$Land;)V"⟩, 5), (⟨"TollsThatPay$Reader", "want", "(I)V"⟩, 5), (⟨"TollsThatPay$Goers", "enter", "(I)V"⟩, 13), (⟨"TollsThatPay$Goers", "arrive", "(LTollsThatPay$Trip;I)V"⟩, 13), (⟨"TollsThatPay$Goers", "offer", "(IIII)V"⟩, 13), (⟨"TollsThatPay$Goers", "settle", "(III)V"⟩, 13), (⟨"TollsThatPay$Goers", "isBeaten", "(III)Z"⟩, 13), (⟨"TollsThatPay$Goers", "insert", "(II)V"⟩, 13), (⟨"TollsThatPay", "openNow", "()V"⟩, 10)]
theorem lw_r1 : ∀ q ∈ lw_privs_1, lw_okq q := List.forall_mem_cons.mpr ⟨lw_p0, List.forall_mem_cons.mpr ⟨lw_p1, List.forall_mem_cons.mpr ⟨lw_p2, List.forall_mem_cons.mpr ⟨lw_p3, List.forall_mem_cons.mpr ⟨lw_p4, List.forall_mem_cons.mpr ⟨lw_p5, List.forall_mem_cons.mpr ⟨lw_p6, List.forall_mem_cons.mpr ⟨lw_p7, List.forall_mem_cons.mpr ⟨lw_p8, List.forall_mem_cons.mpr ⟨lw_p9, List.forall_mem_cons.mpr ⟨lw_p10, List.forall_mem_cons.mpr ⟨lw_p11, List.forall_mem_cons.mpr ⟨lw_p12, List.forall_mem_cons.mpr ⟨lw_p13, List.forall_mem_cons.mpr ⟨lw_p14, List.forall_mem_cons.mpr ⟨lw_p15, fun _ h => absurd h List.not_mem_nil⟩⟩⟩⟩⟩⟩⟩⟩⟩⟩⟩⟩⟩⟩⟩⟩
theorem lw_p16 : lw_okq (⟨"TollsThatPay$Sets", "reckon", "(I)V"⟩, 7) := ⟨⟨by decide +kernel, by decide +kernel⟩, List.mem_of_getElem? (i := 288) (by decide +kernel), List.mem_of_getElem? (i := 710) (by decide +kernel), List.mem_of_getElem? (i := 711) (by decide +kernel)⟩
theorem lw_p17 : lw_okq (⟨"TollsThatPay", "canSeek", "(I)Z"⟩, 10) := ⟨⟨by decide +kernel, by decide +kernel⟩, List.mem_of_getElem? (i := 22) (by decide +kernel), List.mem_of_getElem? (i := 824) (by decide +kernel), List.mem_of_getElem? (i := 825) (by decide +kernel)⟩
theorem lw_p18 : lw_okq (⟨"TollsThatPay", "tellFound", "(I)V"⟩, 10) := ⟨⟨by decide +kernel, by decide +kernel⟩, List.mem_of_getElem? (i := 22) (by decide +kernel), List.mem_of_getElem? (i := 853) (by decide +kernel), List.mem_of_getElem? (i := 854) (by decide +kernel)⟩
theorem lw_p19 : lw_okq (⟨"TollsThatPay", "tellTolls", "([II)V"⟩, 10) := ⟨⟨by decide +kernel, by decide +kernel⟩, List.mem_of_getElem? (i := 22) (by decide +kernel), List.mem_of_getElem? (i := 858) (by decide +kernel), List.mem_of_getElem? (i := 859) (by decide +kernel)⟩
theorem lw_p20 : lw_okq (⟨"TollsThatPay$Study", "takeIfAsNow", "(I)I"⟩, 11) := ⟨⟨by decide +kernel, by decide +kernel⟩, List.mem_of_getElem? (i := 345) (by decide +kernel), List.mem_of_getElem? (i := 897) (by decide +kernel), List.mem_of_getElem? (i := 898) (by decide +kernel)⟩
theorem lw_p21 : lw_okq (⟨"TollsThatPay$Study", "ownerSide", "(I)I"⟩, 11) := ⟨⟨by decide +kernel, by decide +kernel⟩, List.mem_of_getElem? (i := 345) (by decide +kernel), List.mem_of_getElem? (i := 919) (by decide +kernel), List.mem_of_getElem? (i := 920) (by decide +kernel)⟩
theorem lw_p22 : lw_okq (⟨"TollsThatPay$Study", "lineFrom", "([III)I"⟩, 11) := ⟨⟨by decide +kernel, by decide +kernel⟩, List.mem_of_getElem? (i := 345) (by decide +kernel), List.mem_of_getElem? (i := 923) (by decide +kernel), List.mem_of_getElem? (i := 924) (by decide +kernel)⟩
theorem lw_p23 : lw_okq (⟨"TollsThatPay$Study", "lift", "(II)Z"⟩, 11) := ⟨⟨by decide +kernel, by decide +kernel⟩, List.mem_of_getElem? (i := 345) (by decide +kernel), List.mem_of_getElem? (i := 945) (by decide +kernel), List.mem_of_getElem? (i := 946) (by decide +kernel)⟩
theorem lw_p24 : lw_okq (⟨"TollsThatPay$Duel", "packed", "()I"⟩, 4) := ⟨⟨by decide +kernel, by decide +kernel⟩, List.mem_of_getElem? (i := 389) (by decide +kernel), List.mem_of_getElem? (i := 980) (by decide +kernel), List.mem_of_getElem? (i := 981) (by decide +kernel)⟩
theorem lw_p25 : lw_okq (⟨"TollsThatPay$Duel", "wasBehind", "(I)Z"⟩, 4) := ⟨⟨by decide +kernel, by decide +kernel⟩, List.mem_of_getElem? (i := 389) (by decide +kernel), List.mem_of_getElem? (i := 986) (by decide +kernel), List.mem_of_getElem? (i := 987) (by decide +kernel)⟩
theorem lw_p26 : lw_okq (⟨"TollsThatPay$Duel", "raise", "(II)V"⟩, 4) := ⟨⟨by decide +kernel, by decide +kernel⟩, List.mem_of_getElem? (i := 389) (by decide +kernel), List.mem_of_getElem? (i := 1015) (by decide +kernel), List.mem_of_getElem? (i := 1016) (by decide +kernel)⟩
theorem lw_p27 : lw_okq (⟨"TollsThatPay$Duel", "topAt", "(I)I"⟩, 4) := ⟨⟨by decide +kernel, by decide +kernel⟩, List.mem_of_getElem? (i := 389) (by decide +kernel), List.mem_of_getElem? (i := 1021) (by decide +kernel), List.mem_of_getElem? (i := 1022) (by decide +kernel)⟩
theorem lw_p28 : lw_okq (⟨"TollsThatPay$Study", "huntWithFree", "(II)I"⟩, 11) := ⟨⟨by decide +kernel, by decide +kernel⟩, List.mem_of_getElem? (i := 345) (by decide +kernel), List.mem_of_getElem? (i := 1034) (by decide +kernel), List.mem_of_getElem? (i := 1035) (by decide +kernel)⟩
theorem lw_p29 : lw_okq (⟨"TollsThatPay", "isAnyWeight", "()Z"⟩, 10) := ⟨⟨by decide +kernel, by decide +kernel⟩, List.mem_of_getElem? (i := 22) (by decide +kernel), List.mem_of_getElem? (i := 1096) (by decide +kernel), List.mem_of_getElem? (i := 1097) (by decide +kernel)⟩
theorem lw_p30 : lw_okq (⟨"TollsThatPay$Study", "leastTake", "(I[I)I"⟩, 11) := ⟨⟨by decide +kernel, by decide +kernel⟩, List.mem_of_getElem? (i := 345) (by decide +kernel), List.mem_of_getElem? (i := 1104) (by decide +kernel), List.mem_of_getElem? (i := 1105) (by decide +kernel)⟩
theorem lw_p31 : lw_okq (⟨"TollsThatPay$Study", "clearWorlds", "()I"⟩, 11) := ⟨⟨by decide +kernel, by decide +kernel⟩, List.mem_of_getElem? (i := 345) (by decide +kernel), List.mem_of_getElem? (i := 1108) (by decide +kernel), List.mem_of_getElem? (i := 1109) (by decide +kernel)⟩
def lw_privs_2 : List (MethodName × Nat) := [(⟨"TollsThatPay$Sets", "reckon", "(I)V"⟩, 7), (⟨"TollsThatPay", "canSeek", "(I)Z"⟩, 10), (⟨"TollsThatPay", "tellFound", "(I)V"⟩, 10), (⟨"TollsThatPay", "tellTolls", "([II)V"⟩, 10), (⟨"TollsThatPay$Study", "takeIfAsNow", "(I)I"⟩, 11), (⟨"TollsThatPay$Study", "ownerSide", "(I)I"⟩, 11), (⟨"TollsThatPay$Study", "lineFrom", "([III)I"⟩, 11), (⟨"TollsThatPay$Study", "lift", "(II)Z"⟩, 11), (⟨"TollsThatPay$Duel", "packed", "()I"⟩, 4), (⟨"TollsThatPay$Duel", "wasBehind", "(I)Z"⟩, 4), (⟨"TollsThatPay$Duel", "raise", "(II)V"⟩, 4), (⟨"TollsThatPay$Duel", "topAt", "(I)I"⟩, 4), (⟨"TollsThatPay$Study", "huntWithFree", "(II)I"⟩, 11), (⟨"TollsThatPay", "isAnyWeight", "()Z"⟩, 10), (⟨"TollsThatPay$Study", "leastTake", "(I[I)I"⟩, 11), (⟨"TollsThatPay$Study", "clearWorlds", "()I"⟩, 11)]
theorem lw_r2 : ∀ q ∈ lw_privs_2, lw_okq q := List.forall_mem_cons.mpr ⟨lw_p16, List.forall_mem_cons.mpr ⟨lw_p17, List.forall_mem_cons.mpr ⟨lw_p18, List.forall_mem_cons.mpr ⟨lw_p19, List.forall_mem_cons.mpr ⟨lw_p20, List.forall_mem_cons.mpr ⟨lw_p21, List.forall_mem_cons.mpr ⟨lw_p22, List.forall_mem_cons.mpr ⟨lw_p23, List.forall_mem_cons.mpr ⟨lw_p24, List.forall_mem_cons.mpr ⟨lw_p25, List.forall_mem_cons.mpr ⟨lw_p26, List.forall_mem_cons.mpr ⟨lw_p27, List.forall_mem_cons.mpr ⟨lw_p28, List.forall_mem_cons.mpr ⟨lw_p29, List.forall_mem_cons.mpr ⟨lw_p30, List.forall_mem_cons.mpr ⟨lw_p31, fun _ h => absurd h List.not_mem_nil⟩⟩⟩⟩⟩⟩⟩⟩⟩⟩⟩⟩⟩⟩⟩⟩
theorem lw_p32 : lw_okq (⟨"TollsThatPay$Study", "addTo", "(II)I"⟩, 11) := ⟨⟨by decide +kernel, by decide +kernel⟩, List.mem_of_getElem? (i := 345) (by decide +kernel), List.mem_of_getElem? (i := 1112) (by decide +kernel), List.mem_of_getElem? (i := 1113) (by decide +kernel)⟩
theorem lw_p33 : lw_okq (⟨"java/lang/Throwable", "fillInStackTrace", "(I)Ljava/lang/Throwable;"⟩, 6) := ⟨⟨by decide +kernel, by decide +kernel⟩, List.mem_of_getElem? (i := 1202) (by decide +kernel), List.mem_of_getElem? (i := 1200) (by decide +kernel), List.mem_of_getElem? (i := 1201) (by decide +kernel)⟩
theorem lw_p34 : lw_okq (⟨"TollsThatPayModel", "readItem", "()V"⟩, 75) := ⟨⟨by decide +kernel, by decide +kernel⟩, List.mem_of_getElem? (i := 1243) (by decide +kernel), List.mem_of_getElem? (i := 1497) (by decide +kernel), List.mem_of_getElem? (i := 1498) (by decide +kernel)⟩
theorem lw_p35 : lw_okq (⟨"TollsThatPayModel", "here", "()I"⟩, 75) := ⟨⟨by decide +kernel, by decide +kernel⟩, List.mem_of_getElem? (i := 1243) (by decide +kernel), List.mem_of_getElem? (i := 1501) (by decide +kernel), List.mem_of_getElem? (i := 1502) (by decide +kernel)⟩
theorem lw_p36 : lw_okq (⟨"TollsThatPayModel", "isWrong", "(I)V"⟩, 75) := ⟨⟨by decide +kernel, by decide +kernel⟩, List.mem_of_getElem? (i := 1243) (by decide +kernel), List.mem_of_getElem? (i := 1505) (by decide +kernel), List.mem_of_getElem? (i := 1506) (by decide +kernel)⟩
theorem lw_p37 : lw_okq (⟨"TollsThatPayModel", "fine", "()Z"⟩, 75) := ⟨⟨by decide +kernel, by decide +kernel⟩, List.mem_of_getElem? (i := 1243) (by decide +kernel), List.mem_of_getElem? (i := 1509) (by decide +kernel), List.mem_of_getElem? (i := 1510) (by decide +kernel)⟩
theorem lw_p38 : lw_okq (⟨"TollsThatPayModel", "number", "(II)I"⟩, 75) := ⟨⟨by decide +kernel, by decide +kernel⟩, List.mem_of_getElem? (i := 1243) (by decide +kernel), List.mem_of_getElem? (i := 1513) (by decide +kernel), List.mem_of_getElem? (i := 1514) (by decide +kernel)⟩
theorem lw_p39 : lw_okq (⟨"TollsThatPayModel", "digit", "(II)I"⟩, 75) := ⟨⟨by decide +kernel, by decide +kernel⟩, List.mem_of_getElem? (i := 1243) (by decide +kernel), List.mem_of_getElem? (i := 1517) (by decide +kernel), List.mem_of_getElem? (i := 1518) (by decide +kernel)⟩
theorem lw_p40 : lw_okq (⟨"TollsThatPayModel", "corner", "(I)I"⟩, 75) := ⟨⟨by decide +kernel, by decide +kernel⟩, List.mem_of_getElem? (i := 1243) (by decide +kernel), List.mem_of_getElem? (i := 1521) (by decide +kernel), List.mem_of_getElem? (i := 1522) (by decide +kernel)⟩
theorem lw_p41 : lw_okq (⟨"TollsThatPayModel", "readJourney", "(I)V"⟩, 75) := ⟨⟨by decide +kernel, by decide +kernel⟩, List.mem_of_getElem? (i := 1243) (by decide +kernel), List.mem_of_getElem? (i := 1525) (by decide +kernel), List.mem_of_getElem? (i := 1526) (by decide +kernel)⟩
theorem lw_p42 : lw_okq (⟨"TollsThatPayModel", "passes", "(C)Z"⟩, 75) := ⟨⟨by decide +kernel, by decide +kernel⟩, List.mem_of_getElem? (i := 1243) (by decide +kernel), List.mem_of_getElem? (i := 1529) (by decide +kernel), List.mem_of_getElem? (i := 1530) (by decide +kernel)⟩
theorem lw_p43 : lw_okq (⟨"TollsThatPayModel", "tellItem", "(I)V"⟩, 75) := ⟨⟨by decide +kernel, by decide +kernel⟩, List.mem_of_getElem? (i := 1243) (by decide +kernel), List.mem_of_getElem? (i := 1534) (by decide +kernel), List.mem_of_getElem? (i := 1535) (by decide +kernel)⟩
theorem lw_p44 : lw_okq (⟨"TollsThatPayModel", "findWays", "()Z"⟩, 75) := ⟨⟨by decide +kernel, by decide +kernel⟩, List.mem_of_getElem? (i := 1243) (by decide +kernel), List.mem_of_getElem? (i := 1538) (by decide +kernel), List.mem_of_getElem? (i := 1539) (by decide +kernel)⟩
theorem lw_p45 : lw_okq (⟨"TollsThatPayModel", "goOn", "(IIIII)Z"⟩, 75) := ⟨⟨by decide +kernel, by decide +kernel⟩, List.mem_of_getElem? (i := 1243) (by decide +kernel), List.mem_of_getElem? (i := 1542) (by decide +kernel), List.mem_of_getElem? (i := 1543) (by decide +kernel)⟩
theorem lw_p46 : lw_okq (⟨"TollsThatPayModel", "isRoad", "(I)Z"⟩, 75) := ⟨⟨by decide +kernel, by decide +kernel⟩, List.mem_of_getElem? (i := 1243) (by decide +kernel), List.mem_of_getElem? (i := 1550) (by decide +kernel), List.mem_of_getElem? (i := 1551) (by decide +kernel)⟩
theorem lw_p47 : lw_okq (⟨"TollsThatPayModel", "tollOf", "(I)I"⟩, 75) := ⟨⟨by decide +kernel, by decide +kernel⟩, List.mem_of_getElem? (i := 1243) (by decide +kernel), List.mem_of_getElem? (i := 1554) (by decide +kernel), List.mem_of_getElem? (i := 1555) (by decide +kernel)⟩
def lw_privs_3 : List (MethodName × Nat) := [(⟨"TollsThatPay$Study", "addTo", "(II)I"⟩, 11), (⟨"java/lang/Throwable", "fillInStackTrace", "(I)Ljava/lang/Throwable;"⟩, 6), (⟨"TollsThatPayModel", "readItem", "()V"⟩, 75), (⟨"TollsThatPayModel", "here", "()I"⟩, 75), (⟨"TollsThatPayModel", "isWrong", "(I)V"⟩, 75), (⟨"TollsThatPayModel", "fine", "()Z"⟩, 75), (⟨"TollsThatPayModel", "number", "(II)I"⟩, 75), (⟨"TollsThatPayModel", "digit", "(II)I"⟩, 75), (⟨"TollsThatPayModel", "corner", "(I)I"⟩, 75), (⟨"TollsThatPayModel", "readJourney", "(I)V"⟩, 75), (⟨"TollsThatPayModel", "passes", "(C)Z"⟩, 75), (⟨"TollsThatPayModel", "tellItem", "(I)V"⟩, 75), (⟨"TollsThatPayModel", "findWays", "()Z"⟩, 75), (⟨"TollsThatPayModel", "goOn", "(IIIII)Z"⟩, 75), (⟨"TollsThatPayModel", "isRoad", "(I)Z"⟩, 75), (⟨"TollsThatPayModel", "tollOf", "(I)I"⟩, 75)]
theorem lw_r3 : ∀ q ∈ lw_privs_3, lw_okq q := List.forall_mem_cons.mpr ⟨lw_p32, List.forall_mem_cons.mpr ⟨lw_p33, List.forall_mem_cons.mpr ⟨lw_p34, List.forall_mem_cons.mpr ⟨lw_p35, List.forall_mem_cons.mpr ⟨lw_p36, List.forall_mem_cons.mpr ⟨lw_p37, List.forall_mem_cons.mpr ⟨lw_p38, List.forall_mem_cons.mpr ⟨lw_p39, List.forall_mem_cons.mpr ⟨lw_p40, List.forall_mem_cons.mpr ⟨lw_p41, List.forall_mem_cons.mpr ⟨lw_p42, List.forall_mem_cons.mpr ⟨lw_p43, List.forall_mem_cons.mpr ⟨lw_p44, List.forall_mem_cons.mpr ⟨lw_p45, List.forall_mem_cons.mpr ⟨lw_p46, List.forall_mem_cons.mpr ⟨lw_p47, fun _ h => absurd h List.not_mem_nil⟩⟩⟩⟩⟩⟩⟩⟩⟩⟩⟩⟩⟩⟩⟩⟩
theorem lw_p48 : lw_okq (⟨"TollsThatPayModel", "asks", "(II)I"⟩, 75) := ⟨⟨by decide +kernel, by decide +kernel⟩, List.mem_of_getElem? (i := 1243) (by decide +kernel), List.mem_of_getElem? (i := 1566) (by decide +kernel), List.mem_of_getElem? (i := 1567) (by decide +kernel)⟩
theorem lw_p49 : lw_okq (⟨"TollsThatPayModel", "isJourney", "(I)Z"⟩, 75) := ⟨⟨by decide +kernel, by decide +kernel⟩, List.mem_of_getElem? (i := 1243) (by decide +kernel), List.mem_of_getElem? (i := 1570) (by decide +kernel), List.mem_of_getElem? (i := 1571) (by decide +kernel)⟩
theorem lw_p50 : lw_okq (⟨"TollsThatPayModel", "gatherAll", "()V"⟩, 75) := ⟨⟨by decide +kernel, by decide +kernel⟩, List.mem_of_getElem? (i := 1243) (by decide +kernel), List.mem_of_getElem? (i := 1574) (by decide +kernel), List.mem_of_getElem? (i := 1575) (by decide +kernel)⟩
theorem lw_p51 : lw_okq (⟨"TollsThatPayModel", "gather", "(III)V"⟩, 75) := ⟨⟨by decide +kernel, by decide +kernel⟩, List.mem_of_getElem? (i := 1243) (by decide +kernel), List.mem_of_getElem? (i := 1578) (by decide +kernel), List.mem_of_getElem? (i := 1579) (by decide +kernel)⟩
theorem lw_p52 : lw_okq (⟨"TollsThatPayModel", "addGoer", "(III)V"⟩, 75) := ⟨⟨by decide +kernel, by decide +kernel⟩, List.mem_of_getElem? (i := 1243) (by decide +kernel), List.mem_of_getElem? (i := 1582) (by decide +kernel), List.mem_of_getElem? (i := 1583) (by decide +kernel)⟩
theorem lw_p53 : lw_okq (⟨"TollsThatPayModel", "has", "(II)Z"⟩, 75) := ⟨⟨by decide +kernel, by decide +kernel⟩, List.mem_of_getElem? (i := 1243) (by decide +kernel), List.mem_of_getElem? (i := 1586) (by decide +kernel), List.mem_of_getElem? (i := 1587) (by decide +kernel)⟩
theorem lw_p54 : lw_okq (⟨"TollsThatPayModel", "maskOf", "(I)I"⟩, 75) := ⟨⟨by decide +kernel, by decide +kernel⟩, List.mem_of_getElem? (i := 1243) (by decide +kernel), List.mem_of_getElem? (i := 1590) (by decide +kernel), List.mem_of_getElem? (i := 1591) (by decide +kernel)⟩
theorem lw_p55 : lw_okq (⟨"TollsThatPayModel", "plainPains", "(III)I"⟩, 75) := ⟨⟨by decide +kernel, by decide +kernel⟩, List.mem_of_getElem? (i := 1243) (by decide +kernel), List.mem_of_getElem? (i := 1594) (by decide +kernel), List.mem_of_getElem? (i := 1595) (by decide +kernel)⟩
theorem lw_p56 : lw_okq (⟨"TollsThatPayModel", "ask", "()V"⟩, 75) := ⟨⟨by decide +kernel, by decide +kernel⟩, List.mem_of_getElem? (i := 1243) (by decide +kernel), List.mem_of_getElem? (i := 1598) (by decide +kernel), List.mem_of_getElem? (i := 1599) (by decide +kernel)⟩
theorem lw_p57 : lw_okq (⟨"TollsThatPayModel", "goerOf", "(II)I"⟩, 75) := ⟨⟨by decide +kernel, by decide +kernel⟩, List.mem_of_getElem? (i := 1243) (by decide +kernel), List.mem_of_getElem? (i := 1606) (by decide +kernel), List.mem_of_getElem? (i := 1607) (by decide +kernel)⟩
theorem lw_p58 : lw_okq (⟨"TollsThatPayModel", "wayOf", "(I)I"⟩, 75) := ⟨⟨by decide +kernel, by decide +kernel⟩, List.mem_of_getElem? (i := 1243) (by decide +kernel), List.mem_of_getElem? (i := 1610) (by decide +kernel), List.mem_of_getElem? (i := 1611) (by decide +kernel)⟩
theorem lw_p59 : lw_okq (⟨"TollsThatPayModel", "choose", "(I)I"⟩, 75) := ⟨⟨by decide +kernel, by decide +kernel⟩, List.mem_of_getElem? (i := 1243) (by decide +kernel), List.mem_of_getElem? (i := 1614) (by decide +kernel), List.mem_of_getElem? (i := 1615) (by decide +kernel)⟩
theorem lw_p60 : lw_okq (⟨"TollsThatPayModel", "isAhead", "(IIII)Z"⟩, 75) := ⟨⟨by decide +kernel, by decide +kernel⟩, List.mem_of_getElem? (i := 1243) (by decide +kernel), List.mem_of_getElem? (i := 1618) (by decide +kernel), List.mem_of_getElem? (i := 1619) (by decide +kernel)⟩
theorem lw_p61 : lw_okq (⟨"TollsThatPayModel", "tell", "(I)V"⟩, 75) := ⟨⟨by decide +kernel, by decide +kernel⟩, List.mem_of_getElem? (i := 1243) (by decide +kernel), List.mem_of_getElem? (i := 1622) (by decide +kernel), List.mem_of_getElem? (i := 1623) (by decide +kernel)⟩
theorem lw_p62 : lw_okq (⟨"TollsThatPayModel", "work", "()V"⟩, 75) := ⟨⟨by decide +kernel, by decide +kernel⟩, List.mem_of_getElem? (i := 1243) (by decide +kernel), List.mem_of_getElem? (i := 1641) (by decide +kernel), List.mem_of_getElem? (i := 1642) (by decide +kernel)⟩
theorem lw_p63 : lw_okq (⟨"TollsThatPayModel", "goBy", "(I)I"⟩, 75) := ⟨⟨by decide +kernel, by decide +kernel⟩, List.mem_of_getElem? (i := 1243) (by decide +kernel), List.mem_of_getElem? (i := 1653) (by decide +kernel), List.mem_of_getElem? (i := 1654) (by decide +kernel)⟩
def lw_privs_4 : List (MethodName × Nat) := [(⟨"TollsThatPayModel", "asks", "(II)I"⟩, 75), (⟨"TollsThatPayModel", "isJourney", "(I)Z"⟩, 75), (⟨"TollsThatPayModel", "gatherAll", "()V"⟩, 75), (⟨"TollsThatPayModel", "gather", "(III)V"⟩, 75), (⟨"TollsThatPayModel", "addGoer", "(III)V"⟩, 75), (⟨"TollsThatPayModel", "has", "(II)Z"⟩, 75), (⟨"TollsThatPayModel", "maskOf", "(I)I"⟩, 75), (⟨"TollsThatPayModel", "plainPains", "(III)I"⟩, 75), (⟨"TollsThatPayModel", "ask", "()V"⟩, 75), (⟨"TollsThatPayModel", "goerOf", "(II)I"⟩, 75), (⟨"TollsThatPayModel", "wayOf", "(I)I"⟩, 75), (⟨"TollsThatPayModel", "choose", "(I)I"⟩, 75), (⟨"TollsThatPayModel", "isAhead", "(IIII)Z"⟩, 75), (⟨"TollsThatPayModel", "tell", "(I)V"⟩, 75), (⟨"TollsThatPayModel", "work", "()V"⟩, 75), (⟨"TollsThatPayModel", "goBy", "(I)I"⟩, 75)]
theorem lw_r4 : ∀ q ∈ lw_privs_4, lw_okq q := List.forall_mem_cons.mpr ⟨lw_p48, List.forall_mem_cons.mpr ⟨lw_p49, List.forall_mem_cons.mpr ⟨lw_p50, List.forall_mem_cons.mpr ⟨lw_p51, List.forall_mem_cons.mpr ⟨lw_p52, List.forall_mem_cons.mpr ⟨lw_p53, List.forall_mem_cons.mpr ⟨lw_p54, List.forall_mem_cons.mpr ⟨lw_p55, List.forall_mem_cons.mpr ⟨lw_p56, List.forall_mem_cons.mpr ⟨lw_p57, List.forall_mem_cons.mpr ⟨lw_p58, List.forall_mem_cons.mpr ⟨lw_p59, List.forall_mem_cons.mpr ⟨lw_p60, List.forall_mem_cons.mpr ⟨lw_p61, List.forall_mem_cons.mpr ⟨lw_p62, List.forall_mem_cons.mpr ⟨lw_p63, fun _ h => absurd h List.not_mem_nil⟩⟩⟩⟩⟩⟩⟩⟩⟩⟩⟩⟩⟩⟩⟩⟩
theorem lw_p64 : lw_okq (⟨"TollsThatPayModel", "canSet", "(I)Z"⟩, 75) := ⟨⟨by decide +kernel, by decide +kernel⟩, List.mem_of_getElem? (i := 1243) (by decide +kernel), List.mem_of_getElem? (i := 1665) (by decide +kernel), List.mem_of_getElem? (i := 1666) (by decide +kernel)⟩
theorem lw_p65 : lw_okq (⟨"TollsThatPayModel", "areFew", "(II)Z"⟩, 75) := ⟨⟨by decide +kernel, by decide +kernel⟩, List.mem_of_getElem? (i := 1243) (by decide +kernel), List.mem_of_getElem? (i := 1669) (by decide +kernel), List.mem_of_getElem? (i := 1670) (by decide +kernel)⟩
theorem lw_p66 : lw_okq (⟨"TollsThatPayModel", "bestOf", "(III)I"⟩, 75) := ⟨⟨by decide +kernel, by decide +kernel⟩, List.mem_of_getElem? (i := 1243) (by decide +kernel), List.mem_of_getElem? (i := 1674) (by decide +kernel), List.mem_of_getElem? (i := 1675) (by decide +kernel)⟩
theorem lw_p67 : lw_okq (⟨"TollsThatPayModel", "keep", "()V"⟩, 75) := ⟨⟨by decide +kernel, by decide +kernel⟩, List.mem_of_getElem? (i := 1243) (by decide +kernel), List.mem_of_getElem? (i := 1678) (by decide +kernel), List.mem_of_getElem? (i := 1679) (by decide +kernel)⟩
theorem lw_p68 : lw_okq (⟨"TollsThatPayModel", "lay", "(II)V"⟩, 75) := ⟨⟨by decide +kernel, by decide +kernel⟩, List.mem_of_getElem? (i := 1243) (by decide +kernel), List.mem_of_getElem? (i := 1682) (by decide +kernel), List.mem_of_getElem? (i := 1683) (by decide +kernel)⟩
theorem lw_p69 : lw_okq (⟨"TollsThatPayModel", "next", "(I)Z"⟩, 75) := ⟨⟨by decide +kernel, by decide +kernel⟩, List.mem_of_getElem? (i := 1243) (by decide +kernel), List.mem_of_getElem? (i := 1686) (by decide +kernel), List.mem_of_getElem? (i := 1687) (by decide +kernel)⟩
theorem lw_p70 : lw_okq (⟨"TollsThatPayModel", "putBack", "()V"⟩, 75) := ⟨⟨by decide +kernel, by decide +kernel⟩, List.mem_of_getElem? (i := 1243) (by decide +kernel), List.mem_of_getElem? (i := 1690) (by decide +kernel), List.mem_of_getElem? (i := 1691) (by decide +kernel)⟩
theorem lw_p71 : lw_okq (⟨"TollsThatPayModel", "tellTolls", "([II)V"⟩, 75) := ⟨⟨by decide +kernel, by decide +kernel⟩, List.mem_of_getElem? (i := 1243) (by decide +kernel), List.mem_of_getElem? (i := 1694) (by decide +kernel), List.mem_of_getElem? (i := 1695) (by decide +kernel)⟩
theorem lw_p72 : lw_okq (⟨"TollsThatPayModel", "placeOf", "(I)I"⟩, 75) := ⟨⟨by decide +kernel, by decide +kernel⟩, List.mem_of_getElem? (i := 1243) (by decide +kernel), List.mem_of_getElem? (i := 1723) (by decide +kernel), List.mem_of_getElem? (i := 1724) (by decide +kernel)⟩
theorem lw_p73 : lw_okq (⟨"TollsThatPayModel", "goLine", "(I)V"⟩, 75) := ⟨⟨by decide +kernel, by decide +kernel⟩, List.mem_of_getElem? (i := 1243) (by decide +kernel), List.mem_of_getElem? (i := 1727) (by decide +kernel), List.mem_of_getElem? (i := 1728) (by decide +kernel)⟩
theorem lw_p74 : lw_okq (⟨"TollsThatPayModel", "climbOf", "(I)I"⟩, 75) := ⟨⟨by decide +kernel, by decide +kernel⟩, List.mem_of_getElem? (i := 1243) (by decide +kernel), List.mem_of_getElem? (i := 1739) (by decide +kernel), List.mem_of_getElem? (i := 1740) (by decide +kernel)⟩
theorem lw_p75 : lw_okq (⟨"TollsThatPayModel", "wasAhead", "(I)Z"⟩, 75) := ⟨⟨by decide +kernel, by decide +kernel⟩, List.mem_of_getElem? (i := 1243) (by decide +kernel), List.mem_of_getElem? (i := 1755) (by decide +kernel), List.mem_of_getElem? (i := 1756) (by decide +kernel)⟩
theorem lw_p76 : lw_okq (⟨"TollsThatPayModel", "layAll", "()V"⟩, 75) := ⟨⟨by decide +kernel, by decide +kernel⟩, List.mem_of_getElem? (i := 1243) (by decide +kernel), List.mem_of_getElem? (i := 1764) (by decide +kernel), List.mem_of_getElem? (i := 1765) (by decide +kernel)⟩
theorem lw_p77 : lw_okq (⟨"TollsThatPayModel", "numberOf", "(I)I"⟩, 75) := ⟨⟨by decide +kernel, by decide +kernel⟩, List.mem_of_getElem? (i := 1243) (by decide +kernel), List.mem_of_getElem? (i := 1768) (by decide +kernel), List.mem_of_getElem? (i := 1769) (by decide +kernel)⟩
theorem lw_p78 : lw_okq (⟨"TollsThatPayModel", "roadBits", "(I)I"⟩, 75) := ⟨⟨by decide +kernel, by decide +kernel⟩, List.mem_of_getElem? (i := 1243) (by decide +kernel), List.mem_of_getElem? (i := 1777) (by decide +kernel), List.mem_of_getElem? (i := 1778) (by decide +kernel)⟩
theorem lw_p79 : lw_okq (⟨"TollsThatPayModel", "byWorths", "(I)I"⟩, 75) := ⟨⟨by decide +kernel, by decide +kernel⟩, List.mem_of_getElem? (i := 1243) (by decide +kernel), List.mem_of_getElem? (i := 1801) (by decide +kernel), List.mem_of_getElem? (i := 1802) (by decide +kernel)⟩
def lw_privs_5 : List (MethodName × Nat) := [(⟨"TollsThatPayModel", "canSet", "(I)Z"⟩, 75), (⟨"TollsThatPayModel", "areFew", "(II)Z"⟩, 75), (⟨"TollsThatPayModel", "bestOf", "(III)I"⟩, 75), (⟨"TollsThatPayModel", "keep", "()V"⟩, 75), (⟨"TollsThatPayModel", "lay", "(II)V"⟩, 75), (⟨"TollsThatPayModel", "next", "(I)Z"⟩, 75), (⟨"TollsThatPayModel", "putBack", "()V"⟩, 75), (⟨"TollsThatPayModel", "tellTolls", "([II)V"⟩, 75), (⟨"TollsThatPayModel", "placeOf", "(I)I"⟩, 75), (⟨"TollsThatPayModel", "goLine", "(I)V"⟩, 75), (⟨"TollsThatPayModel", "climbOf", "(I)I"⟩, 75), (⟨"TollsThatPayModel", "wasAhead", "(I)Z"⟩, 75), (⟨"TollsThatPayModel", "layAll", "()V"⟩, 75), (⟨"TollsThatPayModel", "numberOf", "(I)I"⟩, 75), (⟨"TollsThatPayModel", "roadBits", "(I)I"⟩, 75), (⟨"TollsThatPayModel", "byWorths", "(I)I"⟩, 75)]
theorem lw_r5 : ∀ q ∈ lw_privs_5, lw_okq q := List.forall_mem_cons.mpr ⟨lw_p64, List.forall_mem_cons.mpr ⟨lw_p65, List.forall_mem_cons.mpr ⟨lw_p66, List.forall_mem_cons.mpr ⟨lw_p67, List.forall_mem_cons.mpr ⟨lw_p68, List.forall_mem_cons.mpr ⟨lw_p69, List.forall_mem_cons.mpr ⟨lw_p70, List.forall_mem_cons.mpr ⟨lw_p71, List.forall_mem_cons.mpr ⟨lw_p72, List.forall_mem_cons.mpr ⟨lw_p73, List.forall_mem_cons.mpr ⟨lw_p74, List.forall_mem_cons.mpr ⟨lw_p75, List.forall_mem_cons.mpr ⟨lw_p76, List.forall_mem_cons.mpr ⟨lw_p77, List.forall_mem_cons.mpr ⟨lw_p78, List.forall_mem_cons.mpr ⟨lw_p79, fun _ h => absurd h List.not_mem_nil⟩⟩⟩⟩⟩⟩⟩⟩⟩⟩⟩⟩⟩⟩⟩⟩
theorem lw_p80 : lw_okq (⟨"TollsThatPayModel", "tellSet", "(II)V"⟩, 75) := ⟨⟨by decide +kernel, by decide +kernel⟩, List.mem_of_getElem? (i := 1243) (by decide +kernel), List.mem_of_getElem? (i := 1806) (by decide +kernel), List.mem_of_getElem? (i := 1807) (by decide +kernel)⟩
theorem lw_p81 : lw_okq (⟨"TollsThatPayModel", "orders", "(III)V"⟩, 75) := ⟨⟨by decide +kernel, by decide +kernel⟩, List.mem_of_getElem? (i := 1243) (by decide +kernel), List.mem_of_getElem? (i := 1826) (by decide +kernel), List.mem_of_getElem? (i := 1827) (by decide +kernel)⟩
theorem lw_p82 : lw_okq (⟨"TollsThatPayModel", "lost", "()I"⟩, 75) := ⟨⟨by decide +kernel, by decide +kernel⟩, List.mem_of_getElem? (i := 1243) (by decide +kernel), List.mem_of_getElem? (i := 1838) (by decide +kernel), List.mem_of_getElem? (i := 1839) (by decide +kernel)⟩
def lw_privs_6 : List (MethodName × Nat) := [(⟨"TollsThatPayModel", "tellSet", "(II)V"⟩, 75), (⟨"TollsThatPayModel", "orders", "(III)V"⟩, 75), (⟨"TollsThatPayModel", "lost", "()I"⟩, 75)]
theorem lw_r6 : ∀ q ∈ lw_privs_6, lw_okq q := List.forall_mem_cons.mpr ⟨lw_p80, List.forall_mem_cons.mpr ⟨lw_p81, List.forall_mem_cons.mpr ⟨lw_p82, fun _ h => absurd h List.not_mem_nil⟩⟩⟩
def lw_privs : List (MethodName × Nat) := lw_privs_1 ++ (lw_privs_2 ++ (lw_privs_3 ++ (lw_privs_4 ++ (lw_privs_5 ++ (lw_privs_6)))))
def lw_tbl : List Cond := k2_sels lw_privs ++ tables_1
theorem lw_privs_ok : ∀ q ∈ lw_privs, lw_okq q := by
  show ∀ q ∈ lw_privs_1 ++ (lw_privs_2 ++ (lw_privs_3 ++ (lw_privs_4 ++ (lw_privs_5 ++ (lw_privs_6))))), lw_okq q
  exact List.forall_mem_append.mpr ⟨lw_r1, List.forall_mem_append.mpr ⟨lw_r2, List.forall_mem_append.mpr ⟨lw_r3, List.forall_mem_append.mpr ⟨lw_r4, List.forall_mem_append.mpr ⟨lw_r5, lw_r6⟩⟩⟩⟩⟩
-- ===== end of PART A; then your names; then what follows =====
def RX0 : String := "TollsThatPay$Duel"
def TX0 : u_T := fun k => match k with
  | 0 => ("TollsThatPay$Duel", "tolls", "[I", true)
  | 1 => ("TollsThatPay$Duel", "market", "LTollsThatPay$Market;", true)
  | 2 => ("TollsThatPay$Duel", "behind", "[I", true)
  | _ => ("TollsThatPay$Duel", "tops", "[I", true)
def tyX0 : Nat → FieldType := fun k => match k with
  | 0 => .array .int
  | 1 => .object "TollsThatPay$Market"
  | 2 => .array .int
  | _ => .array .int
abbrev wsX00 : List Cond := u_ws RX0 TX0 4
theorem nmX0 : ∀ a, a < 4 → ∀ b, b < 4 → a ≠ b → (TX0 a).2.1 ≠ (TX0 b).2.1 := by decide +kernel
theorem tyX0_ok : ∀ k, k < 4 → parseFieldDescriptor (TX0 k).2.2.1 = some (tyX0 k) := by decide +kernel
abbrev cX0_init : ByteArray := prog_2_method_1_code
def yX0_init : MethodName := ⟨RX0, "<init>", "(LTollsThatPay$Market;)V"⟩
abbrev cX0_brought : ByteArray := prog_2_method_2_code
def yX0_brought : MethodName := ⟨RX0, "brought", "(I[ILTollsThatPay$Roads;)I"⟩
abbrev cX0_answer : ByteArray := prog_2_method_3_code
def yX0_answer : MethodName := ⟨RX0, "answer", "(ILTollsThatPay$Roads;)I"⟩
abbrev cX0_packed : ByteArray := prog_2_method_4_code
def yX0_packed : MethodName := ⟨RX0, "packed", "()I"⟩
abbrev cX0_wasBehind : ByteArray := prog_2_method_5_code
def yX0_wasBehind : MethodName := ⟨RX0, "wasBehind", "(I)Z"⟩
abbrev cX0_countRests : ByteArray := prog_2_method_6_code
def yX0_countRests : MethodName := ⟨RX0, "countRests", "(LTollsThatPay$Roads;)I"⟩
abbrev cX0_raise : ByteArray := prog_2_method_7_code
def yX0_raise : MethodName := ⟨RX0, "raise", "(II)V"⟩
abbrev cX0_topAt : ByteArray := prog_2_method_8_code
def yX0_topAt : MethodName := ⟨RX0, "topAt", "(I)I"⟩
def RX1 : String := "TollsThatPay$Goers"
def TX1 : u_T := fun k => match k with
  | 0 => ("TollsThatPay$Goers", "size", "I", false)
  | 1 => ("TollsThatPay$Goers", "journeys", "LTollsThatPay$Journeys;", false)
  | 2 => ("TollsThatPay$Goers", "trip", "LTollsThatPay$Trip;", true)
  | 3 => ("TollsThatPay$Goers", "journey", "[I", true)
  | 4 => ("TollsThatPay$Goers", "worth", "[I", true)
  | 5 => ("TollsThatPay$Goers", "many", "[I", true)
  | 6 => ("TollsThatPay$Goers", "first", "[I", true)
  | 7 => ("TollsThatPay$Goers", "ways", "[I", true)
  | 8 => ("TollsThatPay$Goers", "base", "[I", true)
  | 9 => ("TollsThatPay$Goers", "rank", "[I", true)
  | 10 => ("TollsThatPay$Goers", "list", "[I", true)
  | 11 => ("TollsThatPay$Goers", "listed", "[I", true)
  | _ => ("TollsThatPay$Goers", "reach", "[I", true)
def tyX1 : Nat → FieldType := fun k => match k with
  | 0 => .int
  | 1 => .object "TollsThatPay$Journeys"
  | 2 => .object "TollsThatPay$Trip"
  | 3 => .array .int
  | 4 => .array .int
  | 5 => .array .int
  | 6 => .array .int
  | 7 => .array .int
  | 8 => .array .int
  | 9 => .array .int
  | 10 => .array .int
  | 11 => .array .int
  | _ => .array .int
abbrev wsX10 : List Cond := u_ws RX1 TX1 13
theorem nmX1 : ∀ a, a < 13 → ∀ b, b < 13 → a ≠ b → (TX1 a).2.1 ≠ (TX1 b).2.1 := by decide +kernel
theorem tyX1_ok : ∀ k, k < 13 → parseFieldDescriptor (TX1 k).2.2.1 = some (tyX1 k) := by decide +kernel
abbrev cX1_init : ByteArray := prog_3_method_1_code
def yX1_init : MethodName := ⟨RX1, "<init>", "(LTollsThatPay$Journeys;)V"⟩
abbrev cX1_survey : ByteArray := prog_3_method_2_code
def yX1_survey : MethodName := ⟨RX1, "survey", "(LTollsThatPay$Land;)Z"⟩
abbrev cX1_enter : ByteArray := prog_3_method_3_code
def yX1_enter : MethodName := ⟨RX1, "enter", "(I)V"⟩
abbrev cX1_walk : ByteArray := prog_3_method_4_code
def yX1_walk : MethodName := ⟨RX1, "walk", "(LTollsThatPay$Goers;LTollsThatPay$Trip;II)V"⟩
abbrev cX1_arrive : ByteArray := prog_3_method_5_code
def yX1_arrive : MethodName := ⟨RX1, "arrive", "(LTollsThatPay$Trip;I)V"⟩
abbrev cX1_offer : ByteArray := prog_3_method_6_code
def yX1_offer : MethodName := ⟨RX1, "offer", "(IIII)V"⟩
abbrev cX1_settle : ByteArray := prog_3_method_7_code
def yX1_settle : MethodName := ⟨RX1, "settle", "(III)V"⟩
abbrev cX1_isBeaten : ByteArray := prog_3_method_8_code
def yX1_isBeaten : MethodName := ⟨RX1, "isBeaten", "(III)Z"⟩
abbrev cX1_insert : ByteArray := prog_3_method_9_code
def yX1_insert : MethodName := ⟨RX1, "insert", "(II)V"⟩
abbrev cX1_has : ByteArray := prog_3_method_10_code
def yX1_has : MethodName := ⟨RX1, "has", "(I)Z"⟩
abbrev cX1_find : ByteArray := prog_3_method_11_code
def yX1_find : MethodName := ⟨RX1, "find", "(II)I"⟩
abbrev cX1_waysOf : ByteArray := prog_3_method_12_code
def yX1_waysOf : MethodName := ⟨RX1, "waysOf", "(I)I"⟩
abbrev cX1_manyOf : ByteArray := prog_3_method_13_code
def yX1_manyOf : MethodName := ⟨RX1, "manyOf", "(I)I"⟩
abbrev cX1_worthOf : ByteArray := prog_3_method_14_code
def yX1_worthOf : MethodName := ⟨RX1, "worthOf", "(I)I"⟩
abbrev cX1_timeOf : ByteArray := prog_3_method_15_code
def yX1_timeOf : MethodName := ⟨RX1, "timeOf", "(I)I"⟩
abbrev cX1_isOfCrowd : ByteArray := prog_3_method_16_code
def yX1_isOfCrowd : MethodName := ⟨RX1, "isOfCrowd", "(I)Z"⟩
abbrev cX1_mayPay : ByteArray := prog_3_method_17_code
def yX1_mayPay : MethodName := ⟨RX1, "mayPay", "(II)Z"⟩
abbrev cX1_baseOf : ByteArray := prog_3_method_18_code
def yX1_baseOf : MethodName := ⟨RX1, "baseOf", "(II)I"⟩
abbrev cX1_rankOf : ByteArray := prog_3_method_19_code
def yX1_rankOf : MethodName := ⟨RX1, "rankOf", "(II)I"⟩
abbrev cX1_choice : ByteArray := prog_3_method_20_code
def yX1_choice : MethodName := ⟨RX1, "choice", "(I[I)I"⟩
abbrev cX1_passes : ByteArray := prog_3_method_21_code
def yX1_passes : MethodName := ⟨RX1, "passes", "(III)Z"⟩
abbrev cX1_tellRoads : ByteArray := prog_3_method_22_code
def yX1_tellRoads : MethodName := ⟨RX1, "tellRoads", "(ILTollsThatPay$Row;)I"⟩
def RX2 : String := "TollsThatPay$Journeys"
def TX2 : u_T := fun k => match k with
  | 0 => ("TollsThatPay$Journeys", "size", "I", false)
  | 1 => ("TollsThatPay$Journeys", "from", "[I", true)
  | 2 => ("TollsThatPay$Journeys", "to", "[I", true)
  | 3 => ("TollsThatPay$Journeys", "many", "[I", true)
  | 4 => ("TollsThatPay$Journeys", "low", "[I", true)
  | 5 => ("TollsThatPay$Journeys", "high", "[I", true)
  | 6 => ("TollsThatPay$Journeys", "crowd", "[I", true)
  | 7 => ("TollsThatPay$Journeys", "known", "[I", true)
  | 8 => ("TollsThatPay$Journeys", "home", "[I", true)
  | _ => ("TollsThatPay$Journeys", "time", "[I", true)
def tyX2 : Nat → FieldType := fun k => match k with
  | 0 => .int
  | 1 => .array .int
  | 2 => .array .int
  | 3 => .array .int
  | 4 => .array .int
  | 5 => .array .int
  | 6 => .array .int
  | 7 => .array .int
  | 8 => .array .int
  | _ => .array .int
abbrev wsX20 : List Cond := u_ws RX2 TX2 10
theorem nmX2 : ∀ a, a < 10 → ∀ b, b < 10 → a ≠ b → (TX2 a).2.1 ≠ (TX2 b).2.1 := by decide +kernel
theorem tyX2_ok : ∀ k, k < 10 → parseFieldDescriptor (TX2 k).2.2.1 = some (tyX2 k) := by decide +kernel
abbrev cX2_init : ByteArray := prog_4_method_1_code
def yX2_init : MethodName := ⟨RX2, "<init>", "()V"⟩
abbrev cX2_copy : ByteArray := prog_4_method_2_code
def yX2_copy : MethodName := ⟨RX2, "copy", "(LTollsThatPay$Journeys;)V"⟩
abbrev cX2_has : ByteArray := prog_4_method_3_code
def yX2_has : MethodName := ⟨RX2, "has", "(I)Z"⟩
abbrev cX2_add : ByteArray := prog_4_method_4_code
def yX2_add : MethodName := ⟨RX2, "add", "(III)V"⟩
abbrev cX2_worthsOfLatest : ByteArray := prog_4_method_5_code
def yX2_worthsOfLatest : MethodName := ⟨RX2, "worthsOfLatest", "(IIZ)V"⟩
abbrev cX2_boundsOfLatest : ByteArray := prog_4_method_6_code
def yX2_boundsOfLatest : MethodName := ⟨RX2, "boundsOfLatest", "(III)V"⟩
abbrev cX2_fromOf : ByteArray := prog_4_method_7_code
def yX2_fromOf : MethodName := ⟨RX2, "fromOf", "(I)I"⟩
abbrev cX2_toOf : ByteArray := prog_4_method_8_code
def yX2_toOf : MethodName := ⟨RX2, "toOf", "(I)I"⟩
abbrev cX2_manyOf : ByteArray := prog_4_method_9_code
def yX2_manyOf : MethodName := ⟨RX2, "manyOf", "(I)I"⟩
abbrev cX2_lowOf : ByteArray := prog_4_method_10_code
def yX2_lowOf : MethodName := ⟨RX2, "lowOf", "(I)I"⟩
abbrev cX2_highOf : ByteArray := prog_4_method_11_code
def yX2_highOf : MethodName := ⟨RX2, "highOf", "(I)I"⟩
abbrev cX2_isCrowd : ByteArray := prog_4_method_12_code
def yX2_isCrowd : MethodName := ⟨RX2, "isCrowd", "(I)Z"⟩
abbrev cX2_knownOf : ByteArray := prog_4_method_13_code
def yX2_knownOf : MethodName := ⟨RX2, "knownOf", "(I)I"⟩
abbrev cX2_homeOf : ByteArray := prog_4_method_14_code
def yX2_homeOf : MethodName := ⟨RX2, "homeOf", "(I)I"⟩
abbrev cX2_timeOf : ByteArray := prog_4_method_15_code
def yX2_timeOf : MethodName := ⟨RX2, "timeOf", "(I)I"⟩
def RX3 : String := "TollsThatPay$Land"
def TX3 : u_T := fun k => match k with
  | 0 => ("TollsThatPay$Land", "roads", "LTollsThatPay$Roads;", true)
  | _ => ("TollsThatPay$Land", "journeys", "LTollsThatPay$Journeys;", true)
def tyX3 : Nat → FieldType := fun k => match k with
  | 0 => .object "TollsThatPay$Roads"
  | _ => .object "TollsThatPay$Journeys"
abbrev wsX30 : List Cond := u_ws RX3 TX3 2
theorem nmX3 : ∀ a, a < 2 → ∀ b, b < 2 → a ≠ b → (TX3 a).2.1 ≠ (TX3 b).2.1 := by decide +kernel
theorem tyX3_ok : ∀ k, k < 2 → parseFieldDescriptor (TX3 k).2.2.1 = some (tyX3 k) := by decide +kernel
abbrev cX3_init : ByteArray := prog_5_method_1_code
def yX3_init : MethodName := ⟨RX3, "<init>", "()V"⟩
abbrev cX3_copy : ByteArray := prog_5_method_2_code
def yX3_copy : MethodName := ⟨RX3, "copy", "(LTollsThatPay$Land;)V"⟩
abbrev cX3_excess : ByteArray := prog_5_method_3_code
def yX3_excess : MethodName := ⟨RX3, "excess", "()I"⟩
def RX4 : String := "TollsThatPay$Market"
def TX4 : u_T := fun k => match k with
  | 0 => ("TollsThatPay$Market", "sets", "LTollsThatPay$Sets;", true)
  | 1 => ("TollsThatPay$Market", "found", "[I", true)
  | 2 => ("TollsThatPay$Market", "roads", "LTollsThatPay$Roads;", false)
  | 3 => ("TollsThatPay$Market", "goers", "LTollsThatPay$Goers;", true)
  | 4 => ("TollsThatPay$Market", "share", "[I", true)
  | _ => ("TollsThatPay$Market", "lean", "I", false)
def tyX4 : Nat → FieldType := fun k => match k with
  | 0 => .object "TollsThatPay$Sets"
  | 1 => .array .int
  | 2 => .object "TollsThatPay$Roads"
  | 3 => .object "TollsThatPay$Goers"
  | 4 => .array .int
  | _ => .int
abbrev wsX40 : List Cond := u_ws RX4 TX4 6
theorem nmX4 : ∀ a, a < 6 → ∀ b, b < 6 → a ≠ b → (TX4 a).2.1 ≠ (TX4 b).2.1 := by decide +kernel
theorem tyX4_ok : ∀ k, k < 6 → parseFieldDescriptor (TX4 k).2.2.1 = some (tyX4 k) := by decide +kernel
abbrev cX4_init : ByteArray := prog_6_method_1_code
def yX4_init : MethodName := ⟨RX4, "<init>", "(LTollsThatPay$Goers;LTollsThatPay$Roads;)V"⟩
abbrev cX4_open : ByteArray := prog_6_method_2_code
def yX4_open : MethodName := ⟨RX4, "open", "(LTollsThatPay$Roads;I)V"⟩
abbrev cX4_shareTime : ByteArray := prog_6_method_3_code
def yX4_shareTime : MethodName := ⟨RX4, "shareTime", "(I)V"⟩
abbrev cX4_shareMean : ByteArray := prog_6_method_4_code
def yX4_shareMean : MethodName := ⟨RX4, "shareMean", "([I)V"⟩
abbrev cX4_fix : ByteArray := prog_6_method_5_code
def yX4_fix : MethodName := ⟨RX4, "fix", "([I)V"⟩
abbrev cX4_begin : ByteArray := prog_6_method_6_code
def yX4_begin : MethodName := ⟨RX4, "begin", "([III)I"⟩
abbrev cX4_choice : ByteArray := prog_6_method_7_code
def yX4_choice : MethodName := ⟨RX4, "choice", "(I)I"⟩
abbrev cX4_painsOf : ByteArray := prog_6_method_8_code
def yX4_painsOf : MethodName := ⟨RX4, "painsOf", "(II)I"⟩
abbrev cX4_leastWithout : ByteArray := prog_6_method_9_code
def yX4_leastWithout : MethodName := ⟨RX4, "leastWithout", "(II)I"⟩
abbrev cX4_brought : ByteArray := prog_6_method_10_code
def yX4_brought : MethodName := ⟨RX4, "brought", "(I)I"⟩
abbrev cX4_sufferedNow : ByteArray := prog_6_method_11_code
def yX4_sufferedNow : MethodName := ⟨RX4, "sufferedNow", "()I"⟩
abbrev cX4_bestOf : ByteArray := prog_6_method_12_code
def yX4_bestOf : MethodName := ⟨RX4, "bestOf", "(I)I"⟩
abbrev cX4_hunt : ByteArray := prog_6_method_13_code
def yX4_hunt : MethodName := ⟨RX4, "hunt", "([IIII)I"⟩
abbrev cX4_keep : ByteArray := prog_6_method_14_code
def yX4_keep : MethodName := ⟨RX4, "keep", "()V"⟩
def RX5 : String := "TollsThatPay$Reader"
def TX5 : u_T := fun k => match k with
  | 0 => ("TollsThatPay$Reader", "signs", "[I", true)
  | 1 => ("TollsThatPay$Reader", "length", "I", false)
  | 2 => ("TollsThatPay$Reader", "place", "I", false)
  | 3 => ("TollsThatPay$Reader", "stop", "I", false)
  | _ => ("TollsThatPay$Reader", "stuck", "Z", false)
def tyX5 : Nat → FieldType := fun k => match k with
  | 0 => .array .int
  | 1 => .int
  | 2 => .int
  | 3 => .int
  | _ => .boolean
abbrev wsX50 : List Cond := u_ws RX5 TX5 5
theorem nmX5 : ∀ a, a < 5 → ∀ b, b < 5 → a ≠ b → (TX5 a).2.1 ≠ (TX5 b).2.1 := by decide +kernel
theorem tyX5_ok : ∀ k, k < 5 → parseFieldDescriptor (TX5 k).2.2.1 = some (tyX5 k) := by decide +kernel
abbrev cX5_init : ByteArray := prog_7_method_1_code
def yX5_init : MethodName := ⟨RX5, "<init>", "()V"⟩
abbrev cX5_push : ByteArray := prog_7_method_2_code
def yX5_push : MethodName := ⟨RX5, "push", "(I)I"⟩
abbrev cX5_cut : ByteArray := prog_7_method_3_code
def yX5_cut : MethodName := ⟨RX5, "cut", "(I)Z"⟩
abbrev cX5_read : ByteArray := prog_7_method_4_code
def yX5_read : MethodName := ⟨RX5, "read", "(LTollsThatPay$Land;)I"⟩
abbrev cX5_readItem : ByteArray := prog_7_method_5_code
def yX5_readItem : MethodName := ⟨RX5, "readItem", "(LTollsThatPay$Land;)V"⟩
abbrev cX5_readRoad : ByteArray := prog_7_method_6_code
def yX5_readRoad : MethodName := ⟨RX5, "readRoad", "(LTollsThatPay$Land;I)V"⟩
abbrev cX5_readJourney : ByteArray := prog_7_method_7_code
def yX5_readJourney : MethodName := ⟨RX5, "readJourney", "(LTollsThatPay$Land;)V"⟩
abbrev cX5_next : ByteArray := prog_7_method_8_code
def yX5_next : MethodName := ⟨RX5, "next", "()I"⟩
abbrev cX5_eat : ByteArray := prog_7_method_9_code
def yX5_eat : MethodName := ⟨RX5, "eat", "(I)Z"⟩
abbrev cX5_want : ByteArray := prog_7_method_10_code
def yX5_want : MethodName := ⟨RX5, "want", "(I)V"⟩
abbrev cX5_corner : ByteArray := prog_7_method_11_code
def yX5_corner : MethodName := ⟨RX5, "corner", "(I)I"⟩
abbrev cX5_digit : ByteArray := prog_7_method_12_code
def yX5_digit : MethodName := ⟨RX5, "digit", "(II)I"⟩
abbrev cX5_numeral : ByteArray := prog_7_method_13_code
def yX5_numeral : MethodName := ⟨RX5, "numeral", "(II)I"⟩
def RX6 : String := "TollsThatPay$Roads"
def TX6 : u_T := fun k => match k with
  | 0 => ("TollsThatPay$Roads", "size", "I", false)
  | 1 => ("TollsThatPay$Roads", "tolled", "I", false)
  | 2 => ("TollsThatPay$Roads", "cap", "I", false)
  | 3 => ("TollsThatPay$Roads", "closed", "I", false)
  | 4 => ("TollsThatPay$Roads", "house", "[I", true)
  | 5 => ("TollsThatPay$Roads", "tolls", "[I", true)
  | 6 => ("TollsThatPay$Roads", "from", "[I", true)
  | 7 => ("TollsThatPay$Roads", "to", "[I", true)
  | 8 => ("TollsThatPay$Roads", "cost", "[I", true)
  | 9 => ("TollsThatPay$Roads", "hours", "[I", true)
  | 10 => ("TollsThatPay$Roads", "slot", "[I", true)
  | _ => ("TollsThatPay$Roads", "roadAt", "[I", true)
def tyX6 : Nat → FieldType := fun k => match k with
  | 0 => .int
  | 1 => .int
  | 2 => .int
  | 3 => .int
  | 4 => .array .int
  | 5 => .array .int
  | 6 => .array .int
  | 7 => .array .int
  | 8 => .array .int
  | 9 => .array .int
  | 10 => .array .int
  | _ => .array .int
abbrev wsX60 : List Cond := u_ws RX6 TX6 12
theorem nmX6 : ∀ a, a < 12 → ∀ b, b < 12 → a ≠ b → (TX6 a).2.1 ≠ (TX6 b).2.1 := by decide +kernel
theorem tyX6_ok : ∀ k, k < 12 → parseFieldDescriptor (TX6 k).2.2.1 = some (tyX6 k) := by decide +kernel
abbrev cX6_init : ByteArray := prog_8_method_1_code
def yX6_init : MethodName := ⟨RX6, "<init>", "()V"⟩
abbrev cX6_copy : ByteArray := prog_8_method_2_code
def yX6_copy : MethodName := ⟨RX6, "copy", "(LTollsThatPay$Roads;)V"⟩
abbrev cX6_add : ByteArray := prog_8_method_3_code
def yX6_add : MethodName := ⟨RX6, "add", "(IIIII)V"⟩
abbrev cX6_setCap : ByteArray := prog_8_method_4_code
def yX6_setCap : MethodName := ⟨RX6, "setCap", "(I)V"⟩
abbrev cX6_shut : ByteArray := prog_8_method_5_code
def yX6_shut : MethodName := ⟨RX6, "shut", "(I)V"⟩
abbrev cX6_has : ByteArray := prog_8_method_6_code
def yX6_has : MethodName := ⟨RX6, "has", "(I)Z"⟩
abbrev cX6_canStand : ByteArray := prog_8_method_7_code
def yX6_canStand : MethodName := ⟨RX6, "canStand", "(III)Z"⟩
abbrev cX6_slotAt : ByteArray := prog_8_method_8_code
def yX6_slotAt : MethodName := ⟨RX6, "slotAt", "(I)I"⟩
abbrev cX6_houseOf : ByteArray := prog_8_method_9_code
def yX6_houseOf : MethodName := ⟨RX6, "houseOf", "(I)I"⟩
abbrev cX6_costOf : ByteArray := prog_8_method_10_code
def yX6_costOf : MethodName := ⟨RX6, "costOf", "(I)I"⟩
abbrev cX6_hoursOf : ByteArray := prog_8_method_11_code
def yX6_hoursOf : MethodName := ⟨RX6, "hoursOf", "(I)I"⟩
abbrev cX6_across : ByteArray := prog_8_method_12_code
def yX6_across : MethodName := ⟨RX6, "across", "(II)I"⟩
abbrev cX6_isOpen : ByteArray := prog_8_method_13_code
def yX6_isOpen : MethodName := ⟨RX6, "isOpen", "(I)Z"⟩
abbrev cX6_sideOf : ByteArray := prog_8_method_14_code
def yX6_sideOf : MethodName := ⟨RX6, "sideOf", "(I)I"⟩
abbrev cX6_allSlots : ByteArray := prog_8_method_15_code
def yX6_allSlots : MethodName := ⟨RX6, "allSlots", "()I"⟩
abbrev cX6_roadsOf : ByteArray := prog_8_method_16_code
def yX6_roadsOf : MethodName := ⟨RX6, "roadsOf", "(I)I"⟩
abbrev cX6_tellOf : ByteArray := prog_8_method_17_code
def yX6_tellOf : MethodName := ⟨RX6, "tellOf", "(II)I"⟩
abbrev cX6_powerOf : ByteArray := prog_8_method_18_code
def yX6_powerOf : MethodName := ⟨RX6, "powerOf", "(II)I"⟩
def RX7 : String := "TollsThatPay$Row"
def TX7 : u_T := fun k => match k with
  | 0 => ("TollsThatPay$Row", "numbers", "[I", true)
  | _ => ("TollsThatPay$Row", "size", "I", false)
def tyX7 : Nat → FieldType := fun k => match k with
  | 0 => .array .int
  | _ => .int
abbrev wsX70 : List Cond := u_ws RX7 TX7 2
theorem nmX7 : ∀ a, a < 2 → ∀ b, b < 2 → a ≠ b → (TX7 a).2.1 ≠ (TX7 b).2.1 := by decide +kernel
theorem tyX7_ok : ∀ k, k < 2 → parseFieldDescriptor (TX7 k).2.2.1 = some (tyX7 k) := by decide +kernel
abbrev cX7_init : ByteArray := prog_9_method_1_code
def yX7_init : MethodName := ⟨RX7, "<init>", "()V"⟩
abbrev cX7_clear : ByteArray := prog_9_method_2_code
def yX7_clear : MethodName := ⟨RX7, "clear", "()V"⟩
abbrev cX7_add : ByteArray := prog_9_method_3_code
def yX7_add : MethodName := ⟨RX7, "add", "(I)V"⟩
abbrev cX7_at : ByteArray := prog_9_method_4_code
def yX7_at : MethodName := ⟨RX7, "at", "(I)I"⟩
def RX8 : String := "TollsThatPay$Sets"
def TX8 : u_T := fun k => match k with
  | 0 => ("TollsThatPay$Sets", "tolls", "[I", true)
  | 1 => ("TollsThatPay$Sets", "sum", "[I", true)
  | 2 => ("TollsThatPay$Sets", "worse", "[I", true)
  | 3 => ("TollsThatPay$Sets", "slots", "I", false)
  | 4 => ("TollsThatPay$Sets", "moved", "I", false)
  | 5 => ("TollsThatPay$Sets", "cap", "I", false)
  | _ => ("TollsThatPay$Sets", "factor", "I", false)
def tyX8 : Nat → FieldType := fun k => match k with
  | 0 => .array .int
  | 1 => .array .int
  | 2 => .array .int
  | 3 => .int
  | 4 => .int
  | 5 => .int
  | _ => .int
abbrev wsX80 : List Cond := u_ws RX8 TX8 7
theorem nmX8 : ∀ a, a < 7 → ∀ b, b < 7 → a ≠ b → (TX8 a).2.1 ≠ (TX8 b).2.1 := by decide +kernel
theorem tyX8_ok : ∀ k, k < 7 → parseFieldDescriptor (TX8 k).2.2.1 = some (tyX8 k) := by decide +kernel
abbrev cX8_init : ByteArray := prog_10_method_1_code
def yX8_init : MethodName := ⟨RX8, "<init>", "()V"⟩
abbrev cX8_begin : ByteArray := prog_10_method_2_code
def yX8_begin : MethodName := ⟨RX8, "begin", "([IIII)I"⟩
abbrev cX8_next : ByteArray := prog_10_method_3_code
def yX8_next : MethodName := ⟨RX8, "next", "()V"⟩
abbrev cX8_reckon : ByteArray := prog_10_method_4_code
def yX8_reckon : MethodName := ⟨RX8, "reckon", "(I)V"⟩
abbrev cX8_sumOf : ByteArray := prog_10_method_5_code
def yX8_sumOf : MethodName := ⟨RX8, "sumOf", "(I)I"⟩
abbrev cX8_placeOf : ByteArray := prog_10_method_6_code
def yX8_placeOf : MethodName := ⟨RX8, "placeOf", "(I)I"⟩
def RX9 : String := "TollsThatPay$Study"
def TX9 : u_T := fun k => match k with
  | 0 => ("TollsThatPay$Study", "chosen", "I", false)
  | 1 => ("TollsThatPay$Study", "brings", "I", false)
  | 2 => ("TollsThatPay$Study", "climbed", "I", false)
  | 3 => ("TollsThatPay$Study", "heights", "[I", true)
  | 4 => ("TollsThatPay$Study", "market", "LTollsThatPay$Market;", true)
  | 5 => ("TollsThatPay$Study", "goers", "LTollsThatPay$Goers;", true)
  | 6 => ("TollsThatPay$Study", "work", "[I", true)
  | 7 => ("TollsThatPay$Study", "line", "[I", true)
  | 8 => ("TollsThatPay$Study", "now", "[I", true)
  | 9 => ("TollsThatPay$Study", "most", "[I", true)
  | _ => ("TollsThatPay$Study", "world", "[I", true)
def tyX9 : Nat → FieldType := fun k => match k with
  | 0 => .int
  | 1 => .int
  | 2 => .int
  | 3 => .array .int
  | 4 => .object "TollsThatPay$Market"
  | 5 => .object "TollsThatPay$Goers"
  | 6 => .array .int
  | 7 => .array .int
  | 8 => .array .int
  | 9 => .array .int
  | _ => .array .int
abbrev wsX90 : List Cond := u_ws RX9 TX9 11
theorem nmX9 : ∀ a, a < 11 → ∀ b, b < 11 → a ≠ b → (TX9 a).2.1 ≠ (TX9 b).2.1 := by decide +kernel
theorem tyX9_ok : ∀ k, k < 11 → parseFieldDescriptor (TX9 k).2.2.1 = some (tyX9 k) := by decide +kernel
abbrev cX9_init : ByteArray := prog_11_method_1_code
def yX9_init : MethodName := ⟨RX9, "<init>", "(LTollsThatPay$Market;LTollsThatPay$Goers;)V"⟩
abbrev cX9_boundOf : ByteArray := prog_11_method_2_code
def yX9_boundOf : MethodName := ⟨RX9, "boundOf", "(I)I"⟩
abbrev cX9_givenOf : ByteArray := prog_11_method_3_code
def yX9_givenOf : MethodName := ⟨RX9, "givenOf", "(I)I"⟩
abbrev cX9_takeIfAsNow : ByteArray := prog_11_method_4_code
def yX9_takeIfAsNow : MethodName := ⟨RX9, "takeIfAsNow", "(I)I"⟩
abbrev cX9_aboveOf : ByteArray := prog_11_method_5_code
def yX9_aboveOf : MethodName := ⟨RX9, "aboveOf", "(II)I"⟩
abbrev cX9_reckonLine : ByteArray := prog_11_method_6_code
def yX9_reckonLine : MethodName := ⟨RX9, "reckonLine", "(I)I"⟩
abbrev cX9_ownerSide : ByteArray := prog_11_method_7_code
def yX9_ownerSide : MethodName := ⟨RX9, "ownerSide", "(I)I"⟩
abbrev cX9_lineFrom : ByteArray := prog_11_method_8_code
def yX9_lineFrom : MethodName := ⟨RX9, "lineFrom", "([III)I"⟩
abbrev cX9_lineAt : ByteArray := prog_11_method_9_code
def yX9_lineAt : MethodName := ⟨RX9, "lineAt", "(I)I"⟩
abbrev cX9_climbOf : ByteArray := prog_11_method_10_code
def yX9_climbOf : MethodName := ⟨RX9, "climbOf", "(I)I"⟩
abbrev cX9_lift : ByteArray := prog_11_method_11_code
def yX9_lift : MethodName := ⟨RX9, "lift", "(II)Z"⟩
abbrev cX9_huntWithFree : ByteArray := prog_11_method_12_code
def yX9_huntWithFree : MethodName := ⟨RX9, "huntWithFree", "(II)I"⟩
abbrev cX9_bestWithFree : ByteArray := prog_11_method_13_code
def yX9_bestWithFree : MethodName := ⟨RX9, "bestWithFree", "(II)I"⟩
abbrev cX9_spareOf : ByteArray := prog_11_method_14_code
def yX9_spareOf : MethodName := ⟨RX9, "spareOf", "(II)I"⟩
abbrev cX9_ceilingOf : ByteArray := prog_11_method_15_code
def yX9_ceilingOf : MethodName := ⟨RX9, "ceilingOf", "(I)I"⟩
abbrev cX9_safeOf : ByteArray := prog_11_method_16_code
def yX9_safeOf : MethodName := ⟨RX9, "safeOf", "(I[I)I"⟩
abbrev cX9_leastTake : ByteArray := prog_11_method_17_code
def yX9_leastTake : MethodName := ⟨RX9, "leastTake", "(I[I)I"⟩
abbrev cX9_worldsWith : ByteArray := prog_11_method_18_code
def yX9_worldsWith : MethodName := ⟨RX9, "worldsWith", "(II)I"⟩
abbrev cX9_clearWorlds : ByteArray := prog_11_method_19_code
def yX9_clearWorlds : MethodName := ⟨RX9, "clearWorlds", "()I"⟩
abbrev cX9_addTo : ByteArray := prog_11_method_20_code
def yX9_addTo : MethodName := ⟨RX9, "addTo", "(II)I"⟩
abbrev cX9_growths : ByteArray := prog_11_method_21_code
def yX9_growths : MethodName := ⟨RX9, "growths", "(II)I"⟩
abbrev cX9_orders : ByteArray := prog_11_method_22_code
def yX9_orders : MethodName := ⟨RX9, "orders", "(I)I"⟩
abbrev cX9_commonPart : ByteArray := prog_11_method_23_code
def yX9_commonPart : MethodName := ⟨RX9, "commonPart", "(II)I"⟩
def RX10 : String := "TollsThatPay$Trip"
def TX10 : u_T := fun k => match k with
  | 0 => ("TollsThatPay$Trip", "roads", "LTollsThatPay$Roads;", false)
  | 1 => ("TollsThatPay$Trip", "goal", "I", false)
  | 2 => ("TollsThatPay$Trip", "known", "I", false)
  | 3 => ("TollsThatPay$Trip", "seen", "I", false)
  | 4 => ("TollsThatPay$Trip", "found", "I", false)
  | 5 => ("TollsThatPay$Trip", "first", "I", false)
  | 6 => ("TollsThatPay$Trip", "behind", "I", false)
  | 7 => ("TollsThatPay$Trip", "cost", "I", false)
  | 8 => ("TollsThatPay$Trip", "hours", "I", false)
  | 9 => ("TollsThatPay$Trip", "mask", "I", false)
  | _ => ("TollsThatPay$Trip", "packed", "I", false)
def tyX10 : Nat → FieldType := fun k => match k with
  | 0 => .object "TollsThatPay$Roads"
  | 1 => .int
  | 2 => .int
  | 3 => .int
  | 4 => .int
  | 5 => .int
  | 6 => .int
  | 7 => .int
  | 8 => .int
  | 9 => .int
  | _ => .int
abbrev wsX100 : List Cond := u_ws RX10 TX10 11
theorem nmX10 : ∀ a, a < 11 → ∀ b, b < 11 → a ≠ b → (TX10 a).2.1 ≠ (TX10 b).2.1 := by decide +kernel
theorem tyX10_ok : ∀ k, k < 11 → parseFieldDescriptor (TX10 k).2.2.1 = some (tyX10 k) := by decide +kernel
abbrev cX10_init : ByteArray := prog_12_method_1_code
def yX10_init : MethodName := ⟨RX10, "<init>", "()V"⟩
abbrev cX10_begin : ByteArray := prog_12_method_2_code
def yX10_begin : MethodName := ⟨RX10, "begin", "(LTollsThatPay$Land;I)V"⟩
abbrev cX10_isThere : ByteArray := prog_12_method_3_code
def yX10_isThere : MethodName := ⟨RX10, "isThere", "(I)Z"⟩
abbrev cX10_isTired : ByteArray := prog_12_method_4_code
def yX10_isTired : MethodName := ⟨RX10, "isTired", "(I)Z"⟩
abbrev cX10_roadsKnown : ByteArray := prog_12_method_5_code
def yX10_roadsKnown : MethodName := ⟨RX10, "roadsKnown", "()I"⟩
abbrev cX10_ahead : ByteArray := prog_12_method_6_code
def yX10_ahead : MethodName := ⟨RX10, "ahead", "(II)I"⟩
abbrev cX10_step : ByteArray := prog_12_method_7_code
def yX10_step : MethodName := ⟨RX10, "step", "(II)V"⟩
abbrev cX10_back : ByteArray := prog_12_method_8_code
def yX10_back : MethodName := ⟨RX10, "back", "(II)V"⟩
def RX11 : String := "TollsThatPay"
def TX11 : u_T := fun k => match k with
  | 0 => ("TollsThatPay", "reader", "LTollsThatPay$Reader;", true)
  | 1 => ("TollsThatPay", "told", "LTollsThatPay$Row;", true)
  | 2 => ("TollsThatPay", "goers", "LTollsThatPay$Goers;", true)
  | 3 => ("TollsThatPay", "market", "LTollsThatPay$Market;", true)
  | 4 => ("TollsThatPay", "study", "LTollsThatPay$Study;", true)
  | 5 => ("TollsThatPay", "duel", "LTollsThatPay$Duel;", true)
  | 6 => ("TollsThatPay", "weights", "[I", true)
  | 7 => ("TollsThatPay", "land", "LTollsThatPay$Land;", false)
  | 8 => ("TollsThatPay", "draft", "LTollsThatPay$Land;", false)
  | _ => ("TollsThatPay", "leaning", "I", false)
def tyX11 : Nat → FieldType := fun k => match k with
  | 0 => .object "TollsThatPay$Reader"
  | 1 => .object "TollsThatPay$Row"
  | 2 => .object "TollsThatPay$Goers"
  | 3 => .object "TollsThatPay$Market"
  | 4 => .object "TollsThatPay$Study"
  | 5 => .object "TollsThatPay$Duel"
  | 6 => .array .int
  | 7 => .object "TollsThatPay$Land"
  | 8 => .object "TollsThatPay$Land"
  | _ => .int
abbrev wsX110 : List Cond := u_ws RX11 TX11 10
theorem nmX11 : ∀ a, a < 10 → ∀ b, b < 10 → a ≠ b → (TX11 a).2.1 ≠ (TX11 b).2.1 := by decide +kernel
theorem tyX11_ok : ∀ k, k < 10 → parseFieldDescriptor (TX11 k).2.2.1 = some (tyX11 k) := by decide +kernel
abbrev cX11_init : ByteArray := prog_1_method_1_code
def yX11_init : MethodName := ⟨RX11, "<init>", "()V"⟩
abbrev cX11_sign : ByteArray := prog_1_method_2_code
def yX11_sign : MethodName := ⟨RX11, "sign", "(I)I"⟩
abbrev cX11_end : ByteArray := prog_1_method_3_code
def yX11_end : MethodName := ⟨RX11, "end", "(I)Z"⟩
abbrev cX11_tell : ByteArray := prog_1_method_4_code
def yX11_tell : MethodName := ⟨RX11, "tell", "()I"⟩
abbrev cX11_toll : ByteArray := prog_1_method_5_code
def yX11_toll : MethodName := ⟨RX11, "toll", "(II)I"⟩
abbrev cX11_lean : ByteArray := prog_1_method_6_code
def yX11_lean : MethodName := ⟨RX11, "lean", "(I)I"⟩
abbrev cX11_way : ByteArray := prog_1_method_7_code
def yX11_way : MethodName := ⟨RX11, "way", "(II)I"⟩
abbrev cX11_pains : ByteArray := prog_1_method_8_code
def yX11_pains : MethodName := ⟨RX11, "pains", "(II)I"⟩
abbrev cX11_room : ByteArray := prog_1_method_9_code
def yX11_room : MethodName := ⟨RX11, "room", "(II)I"⟩
abbrev cX11_take : ByteArray := prog_1_method_10_code
def yX11_take : MethodName := ⟨RX11, "take", "(I)I"⟩
abbrev cX11_suffered : ByteArray := prog_1_method_11_code
def yX11_suffered : MethodName := ⟨RX11, "suffered", "()I"⟩
abbrev cX11_by : ByteArray := prog_1_method_12_code
def yX11_by : MethodName := ⟨RX11, "by", "(I)I"⟩
abbrev cX11_ways : ByteArray := prog_1_method_13_code
def yX11_ways : MethodName := ⟨RX11, "ways", "(I)I"⟩
abbrev cX11_best : ByteArray := prog_1_method_14_code
def yX11_best : MethodName := ⟨RX11, "best", "(I)I"⟩
abbrev cX11_set : ByteArray := prog_1_method_15_code
def yX11_set : MethodName := ⟨RX11, "set", "(I)I"⟩
abbrev cX11_ties : ByteArray := prog_1_method_16_code
def yX11_ties : MethodName := ⟨RX11, "ties", "(I)I"⟩
abbrev cX11_bound : ByteArray := prog_1_method_17_code
def yX11_bound : MethodName := ⟨RX11, "bound", "(I)I"⟩
abbrev cX11_given : ByteArray := prog_1_method_18_code
def yX11_given : MethodName := ⟨RX11, "given", "(I)I"⟩
abbrev cX11_above : ByteArray := prog_1_method_19_code
def yX11_above : MethodName := ⟨RX11, "above", "(II)I"⟩
abbrev cX11_line : ByteArray := prog_1_method_20_code
def yX11_line : MethodName := ⟨RX11, "line", "(I)I"⟩
abbrev cX11_bends : ByteArray := prog_1_method_21_code
def yX11_bends : MethodName := ⟨RX11, "bends", "(I)I"⟩
abbrev cX11_climb : ByteArray := prog_1_method_22_code
def yX11_climb : MethodName := ⟨RX11, "climb", "(I)I"⟩
abbrev cX11_gap : ByteArray := prog_1_method_23_code
def yX11_gap : MethodName := ⟨RX11, "gap", "(I)I"⟩
abbrev cX11_times : ByteArray := prog_1_method_24_code
def yX11_times : MethodName := ⟨RX11, "times", "(I)I"⟩
abbrev cX11_answers : ByteArray := prog_1_method_25_code
def yX11_answers : MethodName := ⟨RX11, "answers", "(I)I"⟩
abbrev cX11_rests : ByteArray := prog_1_method_26_code
def yX11_rests : MethodName := ⟨RX11, "rests", "()I"⟩
abbrev cX11_spare : ByteArray := prog_1_method_27_code
def yX11_spare : MethodName := ⟨RX11, "spare", "(II)I"⟩
abbrev cX11_ceiling : ByteArray := prog_1_method_28_code
def yX11_ceiling : MethodName := ⟨RX11, "ceiling", "(I)I"⟩
abbrev cX11_without : ByteArray := prog_1_method_29_code
def yX11_without : MethodName := ⟨RX11, "without", "(II)I"⟩
abbrev cX11_ford : ByteArray := prog_1_method_30_code
def yX11_ford : MethodName := ⟨RX11, "ford", "(IIII)I"⟩
abbrev cX11_weight : ByteArray := prog_1_method_31_code
def yX11_weight : MethodName := ⟨RX11, "weight", "(II)I"⟩
abbrev cX11_mean : ByteArray := prog_1_method_32_code
def yX11_mean : MethodName := ⟨RX11, "mean", "(I)I"⟩
abbrev cX11_safe : ByteArray := prog_1_method_33_code
def yX11_safe : MethodName := ⟨RX11, "safe", "(I)I"⟩
abbrev cX11_learn : ByteArray := prog_1_method_34_code
def yX11_learn : MethodName := ⟨RX11, "learn", "(II)I"⟩
abbrev cX11_last : ByteArray := prog_1_method_35_code
def yX11_last : MethodName := ⟨RX11, "last", "(I)I"⟩
abbrev cX11_fair : ByteArray := prog_1_method_36_code
def yX11_fair : MethodName := ⟨RX11, "fair", "(I)I"⟩
abbrev cX11_count : ByteArray := prog_1_method_37_code
def yX11_count : MethodName := ⟨RX11, "count", "(I)I"⟩
abbrev cX11_of : ByteArray := prog_1_method_38_code
def yX11_of : MethodName := ⟨RX11, "of", "(II)I"⟩
abbrev cX11_row : ByteArray := prog_1_method_39_code
def yX11_row : MethodName := ⟨RX11, "row", "(I)I"⟩
abbrev cX11_openNow : ByteArray := prog_1_method_40_code
def yX11_openNow : MethodName := ⟨RX11, "openNow", "()V"⟩
abbrev cX11_isHouse : ByteArray := prog_1_method_41_code
def yX11_isHouse : MethodName := ⟨RX11, "isHouse", "(I)Z"⟩
abbrev cX11_canSeek : ByteArray := prog_1_method_42_code
def yX11_canSeek : MethodName := ⟨RX11, "canSeek", "(I)Z"⟩
abbrev cX11_isAnyWeight : ByteArray := prog_1_method_43_code
def yX11_isAnyWeight : MethodName := ⟨RX11, "isAnyWeight", "()Z"⟩
abbrev cX11_tellFound : ByteArray := prog_1_method_44_code
def yX11_tellFound : MethodName := ⟨RX11, "tellFound", "(I)V"⟩
abbrev cX11_tellTolls : ByteArray := prog_1_method_45_code
def yX11_tellTolls : MethodName := ⟨RX11, "tellTolls", "([II)V"⟩
def RX12 : String := "TollsThatPayModel"
def TX12 : u_T := fun k => match k with
  | 0 => ("TollsThatPayModel", "roadA", "[I", true)
  | 1 => ("TollsThatPayModel", "roadB", "[I", true)
  | 2 => ("TollsThatPayModel", "cost", "[I", true)
  | 3 => ("TollsThatPayModel", "hours", "[I", true)
  | 4 => ("TollsThatPayModel", "house", "[I", true)
  | 5 => ("TollsThatPayModel", "roads", "I", false)
  | 6 => ("TollsThatPayModel", "tolled", "[I", true)
  | 7 => ("TollsThatPayModel", "tolls", "[I", true)
  | 8 => ("TollsThatPayModel", "tolledMany", "I", false)
  | 9 => ("TollsThatPayModel", "cap", "I", false)
  | 10 => ("TollsThatPayModel", "lean", "I", false)
  | 11 => ("TollsThatPayModel", "from", "[I", true)
  | 12 => ("TollsThatPayModel", "to", "[I", true)
  | 13 => ("TollsThatPayModel", "each", "[I", true)
  | 14 => ("TollsThatPayModel", "worthLow", "[I", true)
  | 15 => ("TollsThatPayModel", "worthHigh", "[I", true)
  | 16 => ("TollsThatPayModel", "isCrowd", "[Z", true)
  | 17 => ("TollsThatPayModel", "slow", "[I", true)
  | 18 => ("TollsThatPayModel", "home", "[I", true)
  | 19 => ("TollsThatPayModel", "time", "[I", true)
  | 20 => ("TollsThatPayModel", "journeys", "I", false)
  | 21 => ("TollsThatPayModel", "weights", "[I", true)
  | 22 => ("TollsThatPayModel", "text", "[B", true)
  | 23 => ("TollsThatPayModel", "typed", "I", false)
  | 24 => ("TollsThatPayModel", "row", "[I", true)
  | 25 => ("TollsThatPayModel", "rowMany", "I", false)
  | 26 => ("TollsThatPayModel", "thrown", "I", false)
  | 27 => ("TollsThatPayModel", "size", "I", false)
  | 28 => ("TollsThatPayModel", "at", "I", false)
  | 29 => ("TollsThatPayModel", "wrong", "I", false)
  | 30 => ("TollsThatPayModel", "item", "[C", true)
  | 31 => ("TollsThatPayModel", "itemA", "[I", true)
  | 32 => ("TollsThatPayModel", "itemB", "[I", true)
  | 33 => ("TollsThatPayModel", "itemN", "[I", true)
  | 34 => ("TollsThatPayModel", "itemHours", "[I", true)
  | 35 => ("TollsThatPayModel", "itemLow", "[I", true)
  | 36 => ("TollsThatPayModel", "itemHigh", "[I", true)
  | 37 => ("TollsThatPayModel", "itemCrowd", "[Z", true)
  | 38 => ("TollsThatPayModel", "itemSlow", "[I", true)
  | 39 => ("TollsThatPayModel", "itemHome", "[I", true)
  | 40 => ("TollsThatPayModel", "itemTime", "[I", true)
  | 41 => ("TollsThatPayModel", "items", "I", false)
  | 42 => ("TollsThatPayModel", "ways", "[I", true)
  | 43 => ("TollsThatPayModel", "wayLong", "[I", true)
  | 44 => ("TollsThatPayModel", "wayMany", "[I", true)
  | 45 => ("TollsThatPayModel", "path", "[I", true)
  | 46 => ("TollsThatPayModel", "goerJourney", "[I", true)
  | 47 => ("TollsThatPayModel", "goerWorth", "[I", true)
  | 48 => ("TollsThatPayModel", "goers", "I", false)
  | 49 => ("TollsThatPayModel", "bestWay", "[I", true)
  | 50 => ("TollsThatPayModel", "bestPains", "[I", true)
  | 51 => ("TollsThatPayModel", "asked", "[I", true)
  | 52 => ("TollsThatPayModel", "houseBits", "[I", true)
  | 53 => ("TollsThatPayModel", "takes", "[I", true)
  | 54 => ("TollsThatPayModel", "sufferedAll", "I", false)
  | 55 => ("TollsThatPayModel", "places", "[I", true)
  | 56 => ("TollsThatPayModel", "placeMany", "I", false)
  | 57 => ("TollsThatPayModel", "kept", "[I", true)
  | 58 => ("TollsThatPayModel", "bestTolls", "[I", true)
  | 59 => ("TollsThatPayModel", "bestSuffered", "I", false)
  | 60 => ("TollsThatPayModel", "goerMost", "[I", true)
  | 61 => ("TollsThatPayModel", "goerWay", "[I", true)
  | 62 => ("TollsThatPayModel", "byToll", "[I", true)
  | 63 => ("TollsThatPayModel", "climbed", "I", false)
  | 64 => ("TollsThatPayModel", "atFirst", "[I", true)
  | 65 => ("TollsThatPayModel", "behind", "[I", true)
  | 66 => ("TollsThatPayModel", "takeOne", "[I", true)
  | 67 => ("TollsThatPayModel", "takeTwo", "[I", true)
  | 68 => ("TollsThatPayModel", "mostOne", "[I", true)
  | 69 => ("TollsThatPayModel", "mostTwo", "[I", true)
  | 70 => ("TollsThatPayModel", "sums", "[I", true)
  | 71 => ("TollsThatPayModel", "leasts", "[I", true)
  | 72 => ("TollsThatPayModel", "worthOf", "[I", true)
  | 73 => ("TollsThatPayModel", "grown", "J", false)
  | _ => ("TollsThatPayModel", "orderMany", "I", false)
def tyX12 : Nat → FieldType := fun k => match k with
  | 0 => .array .int
  | 1 => .array .int
  | 2 => .array .int
  | 3 => .array .int
  | 4 => .array .int
  | 5 => .int
  | 6 => .array .int
  | 7 => .array .int
  | 8 => .int
  | 9 => .int
  | 10 => .int
  | 11 => .array .int
  | 12 => .array .int
  | 13 => .array .int
  | 14 => .array .int
  | 15 => .array .int
  | 16 => .array .boolean
  | 17 => .array .int
  | 18 => .array .int
  | 19 => .array .int
  | 20 => .int
  | 21 => .array .int
  | 22 => .array .byte
  | 23 => .int
  | 24 => .array .int
  | 25 => .int
  | 26 => .int
  | 27 => .int
  | 28 => .int
  | 29 => .int
  | 30 => .array .char
  | 31 => .array .int
  | 32 => .array .int
  | 33 => .array .int
  | 34 => .array .int
  | 35 => .array .int
  | 36 => .array .int
  | 37 => .array .boolean
  | 38 => .array .int
  | 39 => .array .int
  | 40 => .array .int
  | 41 => .int
  | 42 => .array .int
  | 43 => .array .int
  | 44 => .array .int
  | 45 => .array .int
  | 46 => .array .int
  | 47 => .array .int
  | 48 => .int
  | 49 => .array .int
  | 50 => .array .int
  | 51 => .array .int
  | 52 => .array .int
  | 53 => .array .int
  | 54 => .int
  | 55 => .array .int
  | 56 => .int
  | 57 => .array .int
  | 58 => .array .int
  | 59 => .int
  | 60 => .array .int
  | 61 => .array .int
  | 62 => .array .int
  | 63 => .int
  | 64 => .array .int
  | 65 => .array .int
  | 66 => .array .int
  | 67 => .array .int
  | 68 => .array .int
  | 69 => .array .int
  | 70 => .array .int
  | 71 => .array .int
  | 72 => .array .int
  | 73 => .long
  | _ => .int
abbrev wsX120 : List Cond := u_ws RX12 TX12 75
theorem nmX12 : ∀ a, a < 75 → ∀ b, b < 75 → a ≠ b → (TX12 a).2.1 ≠ (TX12 b).2.1 := by decide +kernel
theorem tyX12_ok : ∀ k, k < 75 → parseFieldDescriptor (TX12 k).2.2.1 = some (tyX12 k) := by decide +kernel
abbrev cX12_init : ByteArray := prog_14_method_1_code
def yX12_init : MethodName := ⟨RX12, "<init>", "()V"⟩
abbrev cX12_thrown : ByteArray := prog_14_method_2_code
def yX12_thrown : MethodName := ⟨RX12, "thrown", "()I"⟩
abbrev cX12_in : ByteArray := prog_14_method_3_code
def yX12_in : MethodName := ⟨RX12, "in", "(III)Z"⟩
abbrev cX12_lost : ByteArray := prog_14_method_4_code
def yX12_lost : MethodName := ⟨RX12, "lost", "()I"⟩
abbrev cX12_tell : ByteArray := prog_14_method_5_code
def yX12_tell : MethodName := ⟨RX12, "tell", "(I)V"⟩
abbrev cX12_isRoad : ByteArray := prog_14_method_6_code
def yX12_isRoad : MethodName := ⟨RX12, "isRoad", "(I)Z"⟩
abbrev cX12_isJourney : ByteArray := prog_14_method_7_code
def yX12_isJourney : MethodName := ⟨RX12, "isJourney", "(I)Z"⟩
abbrev cX12_isHouse : ByteArray := prog_14_method_8_code
def yX12_isHouse : MethodName := ⟨RX12, "isHouse", "(I)Z"⟩
abbrev cX12_tollOf : ByteArray := prog_14_method_9_code
def yX12_tollOf : MethodName := ⟨RX12, "tollOf", "(I)I"⟩
abbrev cX12_sign : ByteArray := prog_14_method_10_code
def yX12_sign : MethodName := ⟨RX12, "sign", "(I)I"⟩
abbrev cX12_end : ByteArray := prog_14_method_11_code
def yX12_end : MethodName := ⟨RX12, "end", "(I)Z"⟩
abbrev cX12_here : ByteArray := prog_14_method_12_code
def yX12_here : MethodName := ⟨RX12, "here", "()I"⟩
abbrev cX12_passes : ByteArray := prog_14_method_13_code
def yX12_passes : MethodName := ⟨RX12, "passes", "(C)Z"⟩
abbrev cX12_fine : ByteArray := prog_14_method_14_code
def yX12_fine : MethodName := ⟨RX12, "fine", "()Z"⟩
abbrev cX12_isWrong : ByteArray := prog_14_method_15_code
def yX12_isWrong : MethodName := ⟨RX12, "isWrong", "(I)V"⟩
abbrev cX12_corner : ByteArray := prog_14_method_16_code
def yX12_corner : MethodName := ⟨RX12, "corner", "(I)I"⟩
abbrev cX12_digit : ByteArray := prog_14_method_17_code
def yX12_digit : MethodName := ⟨RX12, "digit", "(II)I"⟩
abbrev cX12_number : ByteArray := prog_14_method_18_code
def yX12_number : MethodName := ⟨RX12, "number", "(II)I"⟩
abbrev cX12_readItem : ByteArray := prog_14_method_19_code
def yX12_readItem : MethodName := ⟨RX12, "readItem", "()V"⟩
abbrev cX12_readJourney : ByteArray := prog_14_method_20_code
def yX12_readJourney : MethodName := ⟨RX12, "readJourney", "(I)V"⟩
abbrev cX12_tell_ : ByteArray := prog_14_method_21_code
def yX12_tell_ : MethodName := ⟨RX12, "tell", "()I"⟩
abbrev cX12_tellItem : ByteArray := prog_14_method_22_code
def yX12_tellItem : MethodName := ⟨RX12, "tellItem", "(I)V"⟩
abbrev cX12_findWays : ByteArray := prog_14_method_23_code
def yX12_findWays : MethodName := ⟨RX12, "findWays", "()Z"⟩
abbrev cX12_goOn : ByteArray := prog_14_method_24_code
def yX12_goOn : MethodName := ⟨RX12, "goOn", "(IIIII)Z"⟩
abbrev cX12_has : ByteArray := prog_14_method_25_code
def yX12_has : MethodName := ⟨RX12, "has", "(II)Z"⟩
abbrev cX12_plainPains : ByteArray := prog_14_method_26_code
def yX12_plainPains : MethodName := ⟨RX12, "plainPains", "(III)I"⟩
abbrev cX12_maskOf : ByteArray := prog_14_method_27_code
def yX12_maskOf : MethodName := ⟨RX12, "maskOf", "(I)I"⟩
abbrev cX12_addGoer : ByteArray := prog_14_method_28_code
def yX12_addGoer : MethodName := ⟨RX12, "addGoer", "(III)V"⟩
abbrev cX12_gather : ByteArray := prog_14_method_29_code
def yX12_gather : MethodName := ⟨RX12, "gather", "(III)V"⟩
abbrev cX12_gatherAll : ByteArray := prog_14_method_30_code
def yX12_gatherAll : MethodName := ⟨RX12, "gatherAll", "()V"⟩
abbrev cX12_ask : ByteArray := prog_14_method_31_code
def yX12_ask : MethodName := ⟨RX12, "ask", "()V"⟩
abbrev cX12_choose : ByteArray := prog_14_method_32_code
def yX12_choose : MethodName := ⟨RX12, "choose", "(I)I"⟩
abbrev cX12_isAhead : ByteArray := prog_14_method_33_code
def yX12_isAhead : MethodName := ⟨RX12, "isAhead", "(IIII)Z"⟩
abbrev cX12_work : ByteArray := prog_14_method_34_code
def yX12_work : MethodName := ⟨RX12, "work", "()V"⟩
abbrev cX12_toll : ByteArray := prog_14_method_35_code
def yX12_toll : MethodName := ⟨RX12, "toll", "(II)I"⟩
abbrev cX12_lean : ByteArray := prog_14_method_36_code
def yX12_lean : MethodName := ⟨RX12, "lean", "(I)I"⟩
abbrev cX12_goerOf : ByteArray := prog_14_method_37_code
def yX12_goerOf : MethodName := ⟨RX12, "goerOf", "(II)I"⟩
abbrev cX12_wayOf : ByteArray := prog_14_method_38_code
def yX12_wayOf : MethodName := ⟨RX12, "wayOf", "(I)I"⟩
abbrev cX12_asks : ByteArray := prog_14_method_39_code
def yX12_asks : MethodName := ⟨RX12, "asks", "(II)I"⟩
abbrev cX12_way : ByteArray := prog_14_method_40_code
def yX12_way : MethodName := ⟨RX12, "way", "(II)I"⟩
abbrev cX12_pains : ByteArray := prog_14_method_41_code
def yX12_pains : MethodName := ⟨RX12, "pains", "(II)I"⟩
abbrev cX12_room : ByteArray := prog_14_method_42_code
def yX12_room : MethodName := ⟨RX12, "room", "(II)I"⟩
abbrev cX12_take : ByteArray := prog_14_method_43_code
def yX12_take : MethodName := ⟨RX12, "take", "(I)I"⟩
abbrev cX12_suffered : ByteArray := prog_14_method_44_code
def yX12_suffered : MethodName := ⟨RX12, "suffered", "()I"⟩
abbrev cX12_by : ByteArray := prog_14_method_45_code
def yX12_by : MethodName := ⟨RX12, "by", "(I)I"⟩
abbrev cX12_goBy : ByteArray := prog_14_method_46_code
def yX12_goBy : MethodName := ⟨RX12, "goBy", "(I)I"⟩
abbrev cX12_ways : ByteArray := prog_14_method_47_code
def yX12_ways : MethodName := ⟨RX12, "ways", "(I)I"⟩
abbrev cX12_keep : ByteArray := prog_14_method_48_code
def yX12_keep : MethodName := ⟨RX12, "keep", "()V"⟩
abbrev cX12_putBack : ByteArray := prog_14_method_49_code
def yX12_putBack : MethodName := ⟨RX12, "putBack", "()V"⟩
abbrev cX12_lay : ByteArray := prog_14_method_50_code
def yX12_lay : MethodName := ⟨RX12, "lay", "(II)V"⟩
abbrev cX12_next : ByteArray := prog_14_method_51_code
def yX12_next : MethodName := ⟨RX12, "next", "(I)Z"⟩
abbrev cX12_areFew : ByteArray := prog_14_method_52_code
def yX12_areFew : MethodName := ⟨RX12, "areFew", "(II)Z"⟩
abbrev cX12_canSet : ByteArray := prog_14_method_53_code
def yX12_canSet : MethodName := ⟨RX12, "canSet", "(I)Z"⟩
abbrev cX12_bestOf : ByteArray := prog_14_method_54_code
def yX12_bestOf : MethodName := ⟨RX12, "bestOf", "(III)I"⟩
abbrev cX12_tellTolls : ByteArray := prog_14_method_55_code
def yX12_tellTolls : MethodName := ⟨RX12, "tellTolls", "([II)V"⟩
abbrev cX12_best : ByteArray := prog_14_method_56_code
def yX12_best : MethodName := ⟨RX12, "best", "(I)I"⟩
abbrev cX12_set : ByteArray := prog_14_method_57_code
def yX12_set : MethodName := ⟨RX12, "set", "(I)I"⟩
abbrev cX12_ties : ByteArray := prog_14_method_58_code
def yX12_ties : MethodName := ⟨RX12, "ties", "(I)I"⟩
abbrev cX12_bound : ByteArray := prog_14_method_59_code
def yX12_bound : MethodName := ⟨RX12, "bound", "(I)I"⟩
abbrev cX12_given : ByteArray := prog_14_method_60_code
def yX12_given : MethodName := ⟨RX12, "given", "(I)I"⟩
abbrev cX12_above : ByteArray := prog_14_method_61_code
def yX12_above : MethodName := ⟨RX12, "above", "(II)I"⟩
abbrev cX12_goLine : ByteArray := prog_14_method_62_code
def yX12_goLine : MethodName := ⟨RX12, "goLine", "(I)V"⟩
abbrev cX12_placeOf : ByteArray := prog_14_method_63_code
def yX12_placeOf : MethodName := ⟨RX12, "placeOf", "(I)I"⟩
abbrev cX12_line : ByteArray := prog_14_method_64_code
def yX12_line : MethodName := ⟨RX12, "line", "(I)I"⟩
abbrev cX12_bends : ByteArray := prog_14_method_65_code
def yX12_bends : MethodName := ⟨RX12, "bends", "(I)I"⟩
abbrev cX12_climbOf : ByteArray := prog_14_method_66_code
def yX12_climbOf : MethodName := ⟨RX12, "climbOf", "(I)I"⟩
abbrev cX12_climb : ByteArray := prog_14_method_67_code
def yX12_climb : MethodName := ⟨RX12, "climb", "(I)I"⟩
abbrev cX12_gap : ByteArray := prog_14_method_68_code
def yX12_gap : MethodName := ⟨RX12, "gap", "(I)I"⟩
abbrev cX12_times : ByteArray := prog_14_method_69_code
def yX12_times : MethodName := ⟨RX12, "times", "(I)I"⟩
abbrev cX12_wasAhead : ByteArray := prog_14_method_70_code
def yX12_wasAhead : MethodName := ⟨RX12, "wasAhead", "(I)Z"⟩
abbrev cX12_answers : ByteArray := prog_14_method_71_code
def yX12_answers : MethodName := ⟨RX12, "answers", "(I)I"⟩
abbrev cX12_numberOf : ByteArray := prog_14_method_72_code
def yX12_numberOf : MethodName := ⟨RX12, "numberOf", "(I)I"⟩
abbrev cX12_layAll : ByteArray := prog_14_method_73_code
def yX12_layAll : MethodName := ⟨RX12, "layAll", "()V"⟩
abbrev cX12_rests : ByteArray := prog_14_method_74_code
def yX12_rests : MethodName := ⟨RX12, "rests", "()I"⟩
abbrev cX12_roadBits : ByteArray := prog_14_method_75_code
def yX12_roadBits : MethodName := ⟨RX12, "roadBits", "(I)I"⟩
abbrev cX12_spare : ByteArray := prog_14_method_76_code
def yX12_spare : MethodName := ⟨RX12, "spare", "(II)I"⟩
abbrev cX12_ceiling : ByteArray := prog_14_method_77_code
def yX12_ceiling : MethodName := ⟨RX12, "ceiling", "(I)I"⟩
abbrev cX12_without : ByteArray := prog_14_method_78_code
def yX12_without : MethodName := ⟨RX12, "without", "(II)I"⟩
abbrev cX12_ford : ByteArray := prog_14_method_79_code
def yX12_ford : MethodName := ⟨RX12, "ford", "(IIII)I"⟩
abbrev cX12_weight : ByteArray := prog_14_method_80_code
def yX12_weight : MethodName := ⟨RX12, "weight", "(II)I"⟩
abbrev cX12_byWorths : ByteArray := prog_14_method_81_code
def yX12_byWorths : MethodName := ⟨RX12, "byWorths", "(I)I"⟩
abbrev cX12_tellSet : ByteArray := prog_14_method_82_code
def yX12_tellSet : MethodName := ⟨RX12, "tellSet", "(II)V"⟩
abbrev cX12_mean : ByteArray := prog_14_method_83_code
def yX12_mean : MethodName := ⟨RX12, "mean", "(I)I"⟩
abbrev cX12_safe : ByteArray := prog_14_method_84_code
def yX12_safe : MethodName := ⟨RX12, "safe", "(I)I"⟩
abbrev cX12_learn : ByteArray := prog_14_method_85_code
def yX12_learn : MethodName := ⟨RX12, "learn", "(II)I"⟩
abbrev cX12_last : ByteArray := prog_14_method_86_code
def yX12_last : MethodName := ⟨RX12, "last", "(I)I"⟩
abbrev cX12_orders : ByteArray := prog_14_method_87_code
def yX12_orders : MethodName := ⟨RX12, "orders", "(III)V"⟩
abbrev cX12_fair : ByteArray := prog_14_method_88_code
def yX12_fair : MethodName := ⟨RX12, "fair", "(I)I"⟩
abbrev cX12_count : ByteArray := prog_14_method_89_code
def yX12_count : MethodName := ⟨RX12, "count", "(I)I"⟩
abbrev cX12_of : ByteArray := prog_14_method_90_code
def yX12_of : MethodName := ⟨RX12, "of", "(II)I"⟩
abbrev cX12_row : ByteArray := prog_14_method_91_code
def yX12_row : MethodName := ⟨RX12, "row", "(I)I"⟩
def RJx145de : String := "java/io/Serializable"
def RJ6 : String := "java/lang/Integer"
abbrev cJ6_numberOfTrailingZeros_0f7a4 : ByteArray := prog_17_method_48_code
def yJ6_numberOfTrailingZeros_0f7a4 : MethodName := ⟨RJ6, "numberOfTrailingZeros", "(I)I"⟩
abbrev cJ6_bitCount_0f7a4 : ByteArray := prog_17_method_49_code
def yJ6_bitCount_0f7a4 : MethodName := ⟨RJ6, "bitCount", "(I)I"⟩
def RJ9 : String := "java/lang/Math"
abbrev cJ9_abs_0f7a4 : ByteArray := prog_18_method_59_code
def yJ9_abs_0f7a4 : MethodName := ⟨RJ9, "abs", "(I)I"⟩
abbrev cJ9_max_7cf53 : ByteArray := prog_18_method_65_code
def yJ9_max_7cf53 : MethodName := ⟨RJ9, "max", "(II)I"⟩
abbrev cJ9_min_7cf53 : ByteArray := prog_18_method_69_code
def yJ9_min_7cf53 : MethodName := ⟨RJ9, "min", "(II)I"⟩
def RJ10 : String := "java/lang/System"
def RL : String := "TollsThatPayLaw"
abbrev cL_of : ByteArray := method_3_code
def yL_of : MethodName := ⟨RL, "of", "(LTollsThatPay;II[J)I"⟩
abbrev cL_row : ByteArray := method_4_code
def yL_row : MethodName := ⟨RL, "row", "(LTollsThatPay;I[J)I"⟩
abbrev cL_law : ByteArray := code
def yL_law : MethodName := ⟨RL, "law", "([I)Z"⟩
abbrev vwCl : List vw_C := [(RX0, TX0, 4), (RX1, TX1, 13), (RX2, TX2, 10), (RX3, TX3, 2), (RX4, TX4, 6), (RX5, TX5, 5), (RX6, TX6, 12), (RX7, TX7, 2), (RX8, TX8, 7), (RX9, TX9, 11), (RX10, TX10, 11), (RX11, TX11, 10), (RX12, TX12, 75)]
